/-! ===== THE PARSER: states, errors, words ===== -/
/-- next, start, kind, number, seen (1 score, 2 probe, 4 keys), draft -/
abbrev aQ : Type := Nat × Nat × Int32 × Int32 × Nat × aP
abbrev aE : Type := Int32 × Nat
def ab_adv (tx : Nat → Int32) (m : Nat) (s : aQ) : aQ := (tk_N tx m (tk_S tx m s.1), tk_S tx m s.1, tk_K tx m (tk_S tx m s.1), tk_V tx m (tk_S tx m s.1), s.2.2.2.2.1, s.2.2.2.2.2)
def cp_Q (J : pm_I) (rr d m : Nat) (tx : Nat → Int32) (s : aQ) : Prop := cp_S J rr d m tx s.1 s.2.1 s.2.2.1 s.2.2.2.1 s.2.2.2.2.1 s.2.2.2.2.2
def rp_Q (J : pm_I) (q m : Nat) (tx : Nat → Int32) (s : aQ) : Prop := rp_S J q m tx s.1 s.2.1 s.2.2.1 s.2.2.2.1 s.2.2.2.2.1 s.2.2.2.2.2
/-- where the present token lies -/
def ok_Q (m : Nat) (s : aQ) : Prop := s.2.1 ≤ s.1 ∧ s.1 ≤ m ∧ (¬ s.2.2.1 = 0 → s.2.1 < s.1) ∧ s.2.2.2.2.1 < 8
def cp_E (J : pm_I) (rr d : Nat) (e : aE) : Prop := J rr 2 = nI d ∧ J rr 5 = 0 ∧ J rr 8 = e.1 ∧ J rr 9 = nI e.2 ∧ (∃ c, c ≤ 600 ∧ J (d + 5) 1 = nI c) ∧ ¬ e.1 = 0
def rp_E (J : pm_I) (q : Nat) (e : aE) : Prop := J q 16 = e.1 ∧ J q 17 = nI e.2
/-- the reference's parser: what it leaves alone -/
def rp_fr (q : Nat) (J L : pm_I) : Prop := (∀ r, (r < q ∨ r = q + 1 ∨ q + 9 ≤ r) → L r = J r) ∧ (∀ j, (j ≤ 11 ∨ 23 ≤ j) → L q j = J q j) ∧ (∀ j, j < 4 → L (q + 2) j = J (q + 2) j) ∧ (∀ j, j < 8 → L (q + 3) j = J (q + 3) j ∧ L (q + 4) j = J (q + 4) j ∧ L (q + 6) j = J (q + 6) j) ∧ (∀ j, j < 64 → L (q + 5) j = J (q + 5) j) ∧ L (q + 7) 0 = J (q + 7) 0 ∧ ∀ j, j < 620 → L (q + 8) j = J (q + 8) j
theorem rp_fr.rf {q : Nat} {J : pm_I} : rp_fr q J J := ⟨fun _ _ => rfl, fun _ _ => rfl, fun _ _ => rfl, fun _ _ => ⟨rfl, rfl, rfl⟩, fun _ _ => rfl, rfl, fun _ _ => rfl⟩
theorem rp_fr.tr {q : Nat} {J L M : pm_I} (h : rp_fr q J L) (h2 : rp_fr q L M) : rp_fr q J M :=
  ⟨fun r hr => (h2.1 r hr).trans (h.1 r hr), fun j hj => (h2.2.1 j hj).trans (h.2.1 j hj), fun j hj => (h2.2.2.1 j hj).trans (h.2.2.1 j hj), fun j hj => ⟨(h2.2.2.2.1 j hj).1.trans (h.2.2.2.1 j hj).1, (h2.2.2.2.1 j hj).2.1.trans (h.2.2.2.1 j hj).2.1, (h2.2.2.2.1 j hj).2.2.trans (h.2.2.2.1 j hj).2.2⟩, fun j hj => (h2.2.2.2.2.1 j hj).trans (h.2.2.2.2.1 j hj), h2.2.2.2.2.2.1.trans h.2.2.2.2.2.1, fun j hj => (h2.2.2.2.2.2.2 j hj).trans (h.2.2.2.2.2.2 j hj)⟩
theorem rp_a.fr {q : Nat} {J L : pm_I} (h : rp_a q J L) : rp_fr q J L :=
  ⟨fun r hr => h.1 r (by omega), fun j hj => h.2 j (by omega), fun j _ => by rw [h.1 (q + 2) (by omega)], fun j _ => ⟨by rw [h.1 (q + 3) (by omega)], by rw [h.1 (q + 4) (by omega)], by rw [h.1 (q + 6) (by omega)]⟩, fun j _ => by rw [h.1 (q + 5) (by omega)], by rw [h.1 (q + 7) (by omega)], fun j _ => by rw [h.1 (q + 8) (by omega)]⟩
/-- a place of row q that is the parser's -/
theorem rp_fr.up {q j : Nat} {v : Int32} {J L : pm_I} (h : rp_fr q J L) (h1 : 12 ≤ j) (h2 : j ≤ 22) : rp_fr q J (pm_up L q j v) :=
  h.tr ⟨fun r hr => ob_ur (by omega), fun i hi => ob_uq (by omega), fun i _ => by rw [ob_ur (by omega)], fun i _ => ⟨by rw [ob_ur (by omega)], by rw [ob_ur (by omega)], by rw [ob_ur (by omega)]⟩, fun i _ => by rw [ob_ur (by omega)], by rw [ob_ur (by omega)], fun i _ => by rw [ob_ur (by omega)]⟩
theorem ok_Q.adv {m : Nat} {s : aQ} (tx : Nat → Int32) (h : ok_Q m s) : ok_Q m (ab_adv tx m s) ∧ s.1 ≤ (ab_adv tx m s).2.1 := by
  obtain ⟨h1, h2, h3, h4⟩ := h
  obtain ⟨a1, a2, a3, a4, a5⟩ := tk_r (tx := tx) h2
  exact ⟨⟨a3, a4, a5, h4⟩, a1⟩
section CP
variable {G : pm_G} {rr d m : Nat} {tx : Nat → Int32} {J : pm_I} {s : aQ} {e : aE}
theorem cpQ_adv {K : pm_I → Prop} (hw : cp_w rr d m) (ok : ok_Q m s) (h : cp_Q J rr d m tx s) (hk : ∀ L, cp_Q L rr d m tx (ab_adv tx m s) → ob_fr (cp_f rr d) J L → K L) : wX2_advance G rr J K :=
  cp_adv hw ok.2.1 h (fun L hL fL => hk L hL (fL.wd (fun r hr => Or.inl hr)))
theorem cpE_adv {K : pm_I → Prop} (h : cp_E J rr d e) (hk : K J) : wX2_advance G rr J K := by
  unfold wX2_advance
  rw [h.2.2.1]
  exact ⟨fun z => absurd z h.2.2.2.2.2, fun _ => hk⟩
theorem cpQ_fail {K : pm_I → Prop} {x : Int32} (hw : cp_w rr d m) (h : cp_Q J rr d m tx s) (hl : s.2.2.2.2.2.2.2.2.2.2.length ≤ 600) (hx : ¬ x = 0) (hk : ∀ L, cp_E L rr d (x, s.2.1) → ob_fr (cp_f rr d) J L → K L) : wX2_fail G rr x J K := by
  obtain ⟨hm, hrr, hd⟩ := hw
  obtain ⟨e1, e2, e3, e4, e5, e6, e7, e8, e9, et, eP⟩ := h
  unfold wX2_fail
  rw [e8]
  refine ⟨fun z => absurd rfl z, fun _ I1 q1 I2 q2 I3 q3 => ?_⟩
  have a4 : I1 rr 4 = nI s.2.1 := by rw [q1, ob_uq (by decide)]; exact e4
  rw [a4] at q2
  refine hk I3 ⟨by rw [q3, ob_uq (by decide), q2, ob_uq (by decide), q1, ob_uq (by decide)]; exact e2, by rw [q3, ob_us], by rw [q3, ob_uq (by decide), q2, ob_uq (by decide), q1, ob_us], by rw [q3, ob_uq (by decide), q2, ob_us], ⟨_, hl, ?_⟩, hx⟩ ?_
  · rw [q3, ob_ur (by omega), q2, ob_ur (by omega), q1, ob_ur (by omega)]; exact eP.2.2.2.2.1
  · rw [q3, q2, q1]
    exact ((ob_fr.rf.up (Or.inl rfl)).up (Or.inl rfl)).up (Or.inl rfl)
theorem cpE_fail {K : pm_I → Prop} {x : Int32} (hw : cp_w rr d m) (h : cp_E J rr d e) (hk : ∀ L, cp_E L rr d e → ob_fr (cp_f rr d) J L → K L) : wX2_fail G rr x J K := by
  obtain ⟨hm, hrr, hd⟩ := hw
  obtain ⟨e2, e5, e8, e9, ⟨c, hc, ec⟩, hne⟩ := h
  unfold wX2_fail
  rw [e8]
  refine ⟨fun _ I1 q1 => ?_, fun z => absurd z hne⟩
  refine hk I1 ⟨by rw [q1, ob_uq (by decide)]; exact e2, by rw [q1, ob_us], by rw [q1, ob_uq (by decide)]; exact e8, by rw [q1, ob_uq (by decide)]; exact e9, ⟨c, hc, by rw [q1, ob_ur (by omega)]; exact ec⟩, hne⟩ ?_
  rw [q1]; exact ob_fr.rf.up (Or.inl rfl)
/-- an item is put in: while all is well, and after an error -/
def ab_put (s : aQ) (x : Int32) : aQ := (s.1, s.2.1, s.2.2.1, s.2.2.2.1, s.2.2.2.2.1, (s.2.2.2.2.2.1, s.2.2.2.2.2.2.1, s.2.2.2.2.2.2.2.1, s.2.2.2.2.2.2.2.2.1, s.2.2.2.2.2.2.2.2.2.1, s.2.2.2.2.2.2.2.2.2.2 ++ [x]))
theorem ob_gapp {l : List Int32} {x : Int32} {k : Nat} (hk : k < l.length + 1) : (l ++ [x]).getD k 0 = if k = l.length then x else l.getD k 0 := by
  by_cases e : k = l.length
  · rw [if_pos e, e]; simp
  · rw [if_neg e]
    have : k < l.length := by omega
    simp [List.getD, List.getElem?_append_left this]
theorem cpQ_put {K : pm_I → Prop} {x : Int32} (hw : cp_w rr d m) (h : cp_Q J rr d m tx s) (hl : s.2.2.2.2.2.2.2.2.2.2.length < 600) (hk : ∀ L, cp_Q L rr d m tx (ab_put s x) → ob_fr (cp_f rr d) J L → K L) : wX3_put G (d + 5) x J K := by
  obtain ⟨hm, hrr, hd⟩ := hw
  obtain ⟨e1, e2, e3, e4, e5, e6, e7, e8, e9, et, eP⟩ := h
  have el := eP.2.2.2.2.1
  generalize hit : s.2.2.2.2.2.2.2.2.2.2 = is at *
  unfold wX3_put
  rw [el]
  refine ⟨fun z => absurd z (nI_ge (a := is.length) (b := 600) hl (by decide)), fun _ => ⟨vp_in_nI hl (by decide), fun I1 q1 I2 q2 => ?_⟩⟩
  rw [nI_clamp (by omega)] at q1
  have a1 : I1 (d + 5) 1 = nI is.length := by rw [q1, ob_ur (by omega)]; exact el
  rw [a1, nI_1] at q2
  have or' : ∀ r, r ≠ d + 5 → r ≠ d + 5 + 1 → I2 r = J r := fun r h1 h2 => by rw [q2, ob_ur h1, q1, ob_ur h2]
  have ir : I2 rr = J rr := or' rr (by omega) (by omega)
  refine hk I2 ⟨by rw [ir]; exact e1, by rw [ir]; exact e2, by rw [ir]; exact e3, by rw [ir]; exact e4, by rw [ir]; exact e5, by rw [ir]; exact e6, by rw [ir]; exact e7, by rw [ir]; exact e8, by rw [ir]; exact e9, by rw [or' 2 (by omega) (by omega)]; exact et, ?_⟩ (fun r hr => or' r (fun e => hr (Or.inr ⟨by omega, by omega⟩)) (fun e => hr (Or.inr ⟨by omega, by omega⟩)))
  obtain ⟨p1, p2, p3, p4, p5, p6⟩ := eP
  refine ⟨by rw [or' d (by omega) (by omega)]; exact p1, fun k hk => by rw [or' (d + 1) (by omega) (by omega), or' (d + 2) (by omega) (by omega)]; exact p2 k hk, fun k hk => by rw [or' (d + 3) (by omega) (by omega)]; exact p3 k hk, fun k hk => by rw [or' (d + 4) (by omega) (by omega)]; exact p4 k hk, ?_, fun k hk => ?_⟩
  · show I2 (d + 5) 1 = nI (s.2.2.2.2.2.2.2.2.2.2 ++ [x]).length
    rw [hit, q2, ob_us, List.length_append]; rfl
  · have hk' : k < is.length + 1 := by
      have : k < (s.2.2.2.2.2.2.2.2.2.2 ++ [x]).length := hk
      rw [hit, List.length_append] at this
      exact this
    show I2 (d + 5 + 1) k = (s.2.2.2.2.2.2.2.2.2.2 ++ [x]).getD k 0
    rw [hit, ob_gapp hk', q2, ob_ur (by omega), q1]
    by_cases ek : k = is.length
    · rw [if_pos ek, ek, ob_us]
    · rw [if_neg ek, ob_uq ek]
      have := p6 k (by rw [hit]; omega)
      rw [hit] at this
      exact this
theorem cpE_put {K : pm_I → Prop} {x : Int32} (hw : cp_w rr d m) (h : cp_E J rr d e) (hk : ∀ L, cp_E L rr d e → ob_fr (cp_f rr d) J L → K L) : wX3_put G (d + 5) x J K := by
  obtain ⟨hm, hrr, hd⟩ := hw
  have h' := h
  obtain ⟨e2, e5, e8, e9, ⟨c, hc, ec⟩, hne⟩ := h
  unfold wX3_put
  rw [ec]
  refine ⟨fun _ => hk J h' ob_fr.rf, fun z => ?_⟩
  have hl : c < 600 := by
    rcases Nat.lt_or_ge c 600 with h | h
    · exact h
    · exact absurd (nI_le (a := 600) h (by omega)) z
  refine ⟨vp_in_nI hl (by decide), fun I1 q1 I2 q2 => ?_⟩
  rw [nI_clamp (by omega)] at q1
  have a1 : I1 (d + 5) 1 = nI c := by rw [q1, ob_ur (by omega)]; exact ec
  rw [a1, nI_1] at q2
  have or' : ∀ r, r ≠ d + 5 → r ≠ d + 5 + 1 → I2 r = J r := fun r h1 h2 => by rw [q2, ob_ur h1, q1, ob_ur h2]
  have ir : I2 rr = J rr := or' rr (by omega) (by omega)
  exact hk I2 ⟨by rw [ir]; exact e2, by rw [ir]; exact e5, by rw [ir]; exact e8, by rw [ir]; exact e9, ⟨c + 1, by omega, by rw [q2, ob_us]⟩, hne⟩ (fun r hr => or' r (fun e => hr (Or.inr ⟨by omega, by omega⟩)) (fun e => hr (Or.inr ⟨by omega, by omega⟩)))
end CP
