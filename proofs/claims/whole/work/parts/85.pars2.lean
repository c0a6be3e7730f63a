/-! ===== THE PARSER: the reference's steps; words; numbers ===== -/
theorem tk_sg_n {x : Int32} (h : tk_sg x = true) : ¬ x = 0 ∧ ¬ x = 1 ∧ ¬ x = 2 ∧ ¬ x = 3 := by
  refine ⟨fun e => ?_, fun e => ?_, fun e => ?_, fun e => ?_⟩ <;> (rw [e] at h; exact absurd h (by decide))
theorem rp_tk {tok val kd nm : Int32} (h : rp_t tok val kd nm) : (tok = 0 ↔ kd = 0) ∧ (tok = 1 ↔ kd = 1) ∧ (tok = 2 ↔ kd = 2) ∧ (kd = 2 → val = nm) ∧ ∀ c, tk_sg c = true → ((tok = 3 ∧ val = c) ↔ kd = c) := by
  rcases h with ⟨rfl, rfl⟩ | ⟨rfl, rfl⟩ | ⟨rfl, rfl, h3⟩ | ⟨rfl, rfl⟩ | ⟨h1, rfl, rfl⟩
  · exact ⟨by decide, by decide, by decide, fun e => absurd e (by decide), fun c hc => ⟨fun hh => absurd hh.1 (by decide), fun hh => absurd hh.symm (tk_sg_n hc).1⟩⟩
  · exact ⟨by decide, by decide, by decide, fun e => absurd e (by decide), fun c hc => ⟨fun hh => absurd hh.1 (by decide), fun hh => absurd hh.symm (tk_sg_n hc).2.1⟩⟩
  · exact ⟨by decide, by decide, by decide, fun _ => h3, fun c hc => ⟨fun hh => absurd hh.1 (by decide), fun hh => absurd hh.symm (tk_sg_n hc).2.2.1⟩⟩
  · exact ⟨by decide, by decide, by decide, fun e => absurd e (by decide), fun c hc => ⟨fun hh => absurd hh.1 (by decide), fun hh => absurd hh.symm (tk_sg_n hc).2.2.2⟩⟩
  · obtain ⟨n0, n1, n2, n3⟩ := tk_sg_n h1
    exact ⟨⟨fun e => absurd e (by decide), fun e => absurd e n0⟩, ⟨fun e => absurd e (by decide), fun e => absurd e n1⟩, ⟨fun e => absurd e (by decide), fun e => absurd e n2⟩, fun e => absurd e n2, fun c hc => ⟨fun hh => hh.2, fun hh => ⟨rfl, hh⟩⟩⟩
section RP
variable {G : pm_G} {q m : Nat} {tx : Nat → Int32} {J : pm_I} {s : aQ}
theorem rpQ_adv {K : pm_I → Prop} (hm : m ≤ 600) (hb : ∀ k, k < m → ob_ib (tx k)) (ok : ok_Q m s) (h : rp_Q J q m tx s) (hk : ∀ L, rp_Q L q m tx (ab_adv tx m s) → rp_a q J L → K L) : wX7_advance G q J K := rp_adv hm hb ok.2.1 h hk
theorem rpQ_fail {K : Int32 → pm_I → Prop} {x : Int32} (h : rp_Q J q m tx s) (hk : ∀ L, rp_E L q (x, s.2.1) → rp_fr q J L → K 0 L) : wX7_fails G q x J K := by
  obtain ⟨e11, e12, e13, e14, e16, e17, e19, et, eD⟩ := h
  unfold wX7_fails
  rw [e16]
  refine ⟨fun z => absurd rfl z, fun _ I1 q1 I2 q2 => ?_⟩
  have a12 : I1 q 12 = nI s.2.1 := by rw [q1, ob_uq (by decide)]; exact e12
  rw [a12] at q2
  exact hk I2 ⟨by rw [q2, ob_uq (by decide), q1, ob_us], by rw [q2, ob_us]⟩ (by rw [q2, q1]; exact (rp_fr.rf.up (by omega) (by omega)).up (by omega) (by omega))
theorem rpQ_emit {K : Int32 → pm_I → Prop} {x y : Int32} (hy : y = rf_en x) (h : rp_Q J q m tx s) (hl : s.2.2.2.2.2.2.2.2.2.2.length < 620) (hk : ∀ L, rp_Q L q m tx (ab_put s x) → rp_fr q J L → L q = J q → K 1 L) : wX7_emit G q y J K := by
  obtain ⟨e11, e12, e13, e14, e16, e17, e19, et, eD⟩ := h
  have el := eD.2.2.2.2.1
  generalize hit : s.2.2.2.2.2.2.2.2.2.2 = is at *
  unfold wX7_emit
  rw [rf_c1, el, show (620 : Int32) + nI is.length = nI (620 + is.length) from nI_add 620 _, nI_clamp (by omega)]
  refine ⟨vp_in_nI (by omega) (by decide), fun I1 q1 I2 q2 => ?_⟩
  have a1 : I1 (q + 7) 1 = nI is.length := by rw [q1, ob_ur (by omega)]; exact el
  rw [a1, nI_1] at q2
  have or' : ∀ r, r ≠ q + 7 → r ≠ q + 8 → I2 r = J r := fun r h1 h2 => by rw [q2, ob_ur h1, q1, ob_ur h2]
  have ir : I2 q = J q := or' q (by omega) (by omega)
  refine hk I2 ⟨by rw [ir]; exact e11, by rw [ir]; exact e12, by rw [ir]; exact e13, by rw [ir]; exact e14, by rw [ir]; exact e16, by rw [ir]; exact e17, by rw [ir]; exact e19, by rw [or' (q + 9) (by omega) (by omega)]; exact et, ?_⟩ ⟨fun r hr => or' r (by omega) (by omega), fun j _ => by rw [ir], fun j _ => by rw [or' (q + 2) (by omega) (by omega)], fun j _ => ⟨by rw [or' (q + 3) (by omega) (by omega)], by rw [or' (q + 4) (by omega) (by omega)], by rw [or' (q + 6) (by omega) (by omega)]⟩, fun j _ => by rw [or' (q + 5) (by omega) (by omega)], by rw [q2, ob_uq (by decide), q1, ob_ur (by omega)], fun j hj => by rw [q2, ob_ur (by omega), q1, ob_uq (by omega)]⟩ ir
  obtain ⟨p1, p2, p3, p4, p5, p6⟩ := eD
  refine ⟨by rw [or' (q + 2) (by omega) (by omega)]; exact p1, fun k hk => by rw [or' (q + 3) (by omega) (by omega), or' (q + 4) (by omega) (by omega)]; exact p2 k hk, fun k hk => by rw [or' (q + 5) (by omega) (by omega)]; exact p3 k hk, fun k hk => by rw [or' (q + 6) (by omega) (by omega)]; exact p4 k hk, ?_, fun k hk => ?_⟩
  · show I2 (q + 7) 1 = nI (s.2.2.2.2.2.2.2.2.2.2 ++ [x]).length
    rw [hit, q2, ob_us, List.length_append]; rfl
  · have hk' : k < is.length + 1 := by
      have : k < (s.2.2.2.2.2.2.2.2.2.2 ++ [x]).length := hk
      rw [hit, List.length_append] at this
      exact this
    show I2 (q + 8) (620 + k) = rf_en ((s.2.2.2.2.2.2.2.2.2.2 ++ [x]).getD k 0)
    rw [hit, ob_gapp hk', q2, ob_ur (by omega), q1]
    by_cases ek : k = is.length
    · rw [if_pos ek, ek, ob_us, hy]
    · rw [if_neg ek, ob_uq (by omega)]
      have := p6 k (by rw [hit]; omega)
      rw [hit] at this
      exact this
theorem rpQ_sh {K : Int32 → pm_I → Prop} {c : Int32} (hc : tk_sg c = true) (h : rp_Q J q m tx s) (hk : K (ob_b (decide (s.2.2.1 = c))) J) : wX7_isSignHere G q c J K := by
  obtain ⟨_, _, _, e14, _⟩ := h
  have iff := (rp_tk e14).2.2.2.2 c hc
  unfold wX7_isSignHere
  refine ⟨fun z => ?_, fun z => ⟨fun z2 => ?_, fun z2 => ?_⟩⟩
  · rw [decide_eq_false (fun hh => z (iff.mpr hh).1)] at hk; exact hk
  · rw [decide_eq_false (fun hh => z2 (iff.mpr hh).2)] at hk; exact hk
  · rw [decide_eq_true (iff.mp ⟨z, z2⟩)] at hk; exact hk
end RP
/-! words -/
def ab_wl (w : Nat) : Nat := pm_slen.getD w 0
def ab_wb (w k : Nat) : Int32 := (pm_sbyt.getD w []).getD k 0
def ab_wi (tx : Nat → Int32) (s : aQ) (w : Nat) : Bool := decide (s.2.2.1 = 1 ∧ s.1 - s.2.1 = ab_wl w) && !ob_ex (fun k => !decide (tx (s.2.1 + k) = ab_wb w k)) (ab_wl w)
theorem ab_wl_8 : ∀ w, w < 11 → ab_wl w ≤ 8 := by decide
theorem cp_wi {G : pm_G} {rr d m w : Nat} {tx : Nat → Int32} {J : pm_I} {s : aQ} {K : Int32 → pm_I → Prop} (hw : cp_w rr d m) (ok : ok_Q m s) (h : cp_Q J rr d m tx s) (hw11 : w < 11) (hk : K (ob_b (ab_wi tx s w)) J) : wX2_wordIs G rr w J K := by
  obtain ⟨hm, hrr, hd⟩ := hw
  obtain ⟨e1, e2, e3, e4, e5, e6, e7, e8, e9, et, eP⟩ := h
  obtain ⟨o1, o2, o3, o4⟩ := ok
  have w8 := ab_wl_8 w hw11
  unfold wX2_wordIs
  unfold ab_wi at hk
  rw [e5, e3, e4, pk_sub o1]
  show (¬ s.2.2.1 = 1 → K 0 J) ∧ (s.2.2.1 = 1 → ((nI (s.1 - s.2.1) = nI (ab_wl w) → _) ∧ (¬ nI (s.1 - s.2.1) = nI (ab_wl w) → K 0 J)))
  rw [nI_eq (by omega) (by omega)]
  refine ⟨fun z => ?_, fun z => ⟨fun z2 => ?_, fun z2 => ?_⟩⟩
  · rw [decide_eq_false (fun hh => z hh.1), Bool.false_and] at hk; exact hk
  · rw [decide_eq_true ⟨z, z2⟩, Bool.true_and] at hk
    have hne : s.2.1 < s.1 ∨ ab_wl w = 0 := by
      rcases Nat.eq_zero_or_pos (ab_wl w) with h | h
      · exact Or.inr h
      · exact Or.inl (by omega)
    refine ob_lp2 (fun i x L => x = nI i ∧ L = J ∧ ∀ k, k < i → (fun k => !decide (tx (s.2.1 + k) = ab_wb w k)) k = false) (ab_wl w) ⟨rfl, rfl, fun k hk => absurd hk (Nat.not_lt_zero k)⟩ ?_
    intro P i x L hi hI hP
    obtain ⟨hx, hL, hM⟩ := hI
    subst hx; subst hL
    refine ⟨fun hc => ?_, fun hc => ?_⟩
    · have e := (ob_to (n := ab_wl w) (by omega) hi).1 hc
      subst e
      rw [ob_ex_f.mpr hM] at hk
      exact hk
    · have hl := (ob_to (n := ab_wl w) (by omega) hi).2 hc
      rw [e4, nI_add, nI_clamp (by omega), nI_clamp (by omega), et _ (by omega)]
      refine ⟨vp_in_nI (by omega) (by decide), vp_in_nI hl (show ab_wl w < 2 ^ 31 by omega), fun y => hP _ _ hl ⟨nI_1 _, rfl, fun k hk => ?_⟩, fun y => ?_⟩
      · by_cases ek : k = i
        · rw [ek]; show (!decide _) = false; rw [decide_eq_true (show tx (s.2.1 + i) = ab_wb w i from y)]; rfl
        · exact hM k (by omega)
      · rw [ob_ex_t hl (by show (!decide _) = true; rw [decide_eq_false (show ¬ tx (s.2.1 + i) = ab_wb w i from y)]; rfl)] at hk
        exact hk
  · rw [decide_eq_false (fun hh => z2 hh.2), Bool.false_and] at hk; exact hk
theorem rp_wi {G : pm_G} {q m w : Nat} {tx : Nat → Int32} {J : pm_I} {s : aQ} {K : Int32 → pm_I → Prop} (hm : m ≤ 600) (ok : ok_Q m s) (h : rp_Q J q m tx s) (hw11 : w < 11) (hk : K (ob_b (ab_wi tx s w)) J) : wX7_isWord G q w J K := by
  obtain ⟨e11, e12, e13, e14, e16, e17, e19, et, eD⟩ := h
  obtain ⟨o1, o2, o3, o4⟩ := ok
  have w8 := ab_wl_8 w hw11
  have tk := (rp_tk e14).2.1
  unfold wX7_isWord
  unfold ab_wi at hk
  rw [e12, e13, pk_sub o1, tk]
  show (¬ s.2.2.1 = 1 → _) ∧ (s.2.2.1 = 1 → ((¬ nI (s.1 - s.2.1) = nI (ab_wl w) → _) ∧ (nI (s.1 - s.2.1) = nI (ab_wl w) → _)))
  rw [nI_eq (by omega) (by omega)]
  refine ⟨fun z => ?_, fun z => ⟨fun z2 => ?_, fun z2 => ?_⟩⟩
  · rw [decide_eq_false (fun hh => z hh.1), Bool.false_and] at hk
    intro P hP
    exact hP _ _ _ ⟨fun _ => ⟨Or.inl rfl, hk⟩, fun _ => ⟨fun _ => ⟨Or.inl rfl, hk⟩, fun y => absurd rfl y⟩⟩
  · rw [decide_eq_false (fun hh => z2 hh.2), Bool.false_and] at hk
    intro P hP
    exact hP _ _ _ ⟨fun _ => ⟨Or.inl rfl, hk⟩, fun _ => ⟨fun _ => ⟨Or.inl rfl, hk⟩, fun y => absurd rfl y⟩⟩
  · rw [decide_eq_true ⟨z, z2⟩, Bool.true_and] at hk
    refine ob_lp3 (fun i b x L => x = nI i ∧ L = J ∧ b = ob_b (!ob_ex (fun k => !decide (tx (s.2.1 + k) = ab_wb w k)) i)) (ab_wl w) ⟨rfl, rfl, rfl⟩ ?_
    intro P i b x L hi hI hP
    obtain ⟨hx, hL, hM⟩ := hI
    subst hx; subst hL
    have stop : ob_ex (fun k => !decide (tx (s.2.1 + k) = ab_wb w k)) i = ob_ex (fun k => !decide (tx (s.2.1 + k) = ab_wb w k)) (ab_wl w) → (b = 0 ∨ b = 1) ∧ K b L := fun e => by
      rw [hM, e]; exact ⟨ob_b01 _, hk⟩
    refine ⟨fun hc => ?_, fun hc => ⟨fun y => ?_, fun y => ?_⟩⟩
    · have e := (ob_to (n := ab_wl w) (by omega) hi).1 hc
      exact stop (by rw [e])
    · rw [hM, ob_b0] at y
      have ht : ob_ex (fun k => !decide (tx (s.2.1 + k) = ab_wb w k)) i = true := by
        cases h : ob_ex (fun k => !decide (tx (s.2.1 + k) = ab_wb w k)) i with
        | true => rfl
        | false => rw [h] at y; cases y
      refine stop ?_
      rw [ht]
      cases h : ob_ex (fun k => !decide (tx (s.2.1 + k) = ab_wb w k)) (ab_wl w) with
      | true => rfl
      | false =>
        have := ob_ex_f.mpr (fun k (hk : k < i) => ob_ex_f.mp h k (by omega))
        rw [this] at ht; cases ht
    · have hl := (ob_to (n := ab_wl w) (by omega) hi).2 hc
      rw [hM, ob_b1] at y
      have hf : ob_ex (fun k => !decide (tx (s.2.1 + k) = ab_wb w k)) i = false := by
        cases h : ob_ex (fun k => !decide (tx (s.2.1 + k) = ab_wb w k)) i with
        | false => rfl
        | true => rw [h] at y; cases y
      rw [e12, nI_add, nI_clamp (by omega), nI_clamp (by omega), et _ (by omega)]
      refine ⟨vp_in_nI (by omega) (by decide), vp_in_nI hl (show ab_wl w < 2 ^ 31 by omega), fun y2 => hP _ _ _ hl ⟨nI_1 _, rfl, ?_⟩, fun y2 => hP _ _ _ hl ⟨nI_1 _, rfl, ?_⟩⟩
      · show 0 = ob_b (!(ob_ex (fun k => !decide (tx (s.2.1 + k) = ab_wb w k)) i || !decide (tx (s.2.1 + i) = ab_wb w i)))
        rw [hf, decide_eq_false (show ¬ tx (s.2.1 + i) = ab_wb w i from y2)]; rfl
      · show 1 = ob_b (!(ob_ex (fun k => !decide (tx (s.2.1 + k) = ab_wb w k)) i || !decide (tx (s.2.1 + i) = ab_wb w i)))
        rw [hf, decide_eq_true (show tx (s.2.1 + i) = ab_wb w i from y2)]; rfl
