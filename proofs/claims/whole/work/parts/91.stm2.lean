/-! ===== THE PARSER: statements (2): the draft changed ===== -/
def ab_dr (s : aQ) (D : aP) : aQ := (s.1, s.2.1, s.2.2.1, s.2.2.2.1, s.2.2.2.2.1, D)
def dr_peer (D : aP) (v w : Nat) : aP := (upd D.1 0 (nI (ab_np D + 1)), upd D.2.1 (ab_np D) (nI v), upd D.2.2.1 (ab_np D) (nI w), D.2.2.2)
def dr_link (D : aP) (a b c : Nat) : aP := (D.1, D.2.1, D.2.2.1, upd (upd D.2.2.2.1 (8 * a + b) (nI c)) (8 * b + a) (nI c), D.2.2.2.2)
def dr_k1 (f : Nat → Int32) (a b : Nat) : Nat → Int32 := upd f a (f a ||| (1 <<< (nI b &&& 31)))
def dr_know (D : aP) (a b : Nat) : aP := (D.1, D.2.1, D.2.2.1, D.2.2.2.1, dr_k1 (dr_k1 D.2.2.2.2.1 a b) b a, D.2.2.2.2.2)
def dr_set (D : aP) (j v : Nat) : aP := (upd D.1 j (nI v), D.2)
def dr_no (D : aP) : aP := (D.1, D.2.1, D.2.2.1, D.2.2.2.1, D.2.2.2.2.1, [])
theorem rp_fr.w {q r j : Nat} {v : Int32} {J L : pm_I} (h : rp_fr q J L) (hc : (r = q + 2 ∧ 4 ≤ j) ∨ (r = q + 3 ∧ 8 ≤ j) ∨ (r = q + 4 ∧ 8 ≤ j) ∨ (r = q + 5 ∧ 64 ≤ j) ∨ (r = q + 6 ∧ 8 ≤ j) ∨ (r = q + 7 ∧ 1 ≤ j) ∨ (r = q + 8 ∧ 620 ≤ j)) : rp_fr q J (pm_up L r j v) :=
  h.tr ⟨fun r' hr => ob_ur (by omega), fun i hi => by rw [ob_up, if_neg (by omega)], fun i hi => by rw [ob_up, if_neg (by omega)], fun i hi => ⟨by rw [ob_up, if_neg (by omega)], by rw [ob_up, if_neg (by omega)], by rw [ob_up, if_neg (by omega)]⟩, fun i hi => by rw [ob_up, if_neg (by omega)], by rw [ob_up, if_neg (by omega)], fun i hi => by rw [ob_up, if_neg (by omega)]⟩
section DR
variable {G : pm_G} {rr d m q : Nat} {tx : Nat → Int32} {J L : pm_I} {s : aQ} {D : aP}
theorem cpQ_dr (hw : cp_w rr d m) (h : cp_Q J rr d m tx s) (hr : ∀ r, ¬ (d ≤ r ∧ r < d + 8) → L r = J r) (hP : cl_P L d D) : cp_Q L rr d m tx (ab_dr s D) := by
  obtain ⟨_, hrr, hd⟩ := hw
  obtain ⟨e1, e2, e3, e4, e5, e6, e7, e8, e9, et, eP⟩ := h
  have a := hr rr (by omega)
  exact ⟨by rw [a]; exact e1, by rw [a]; exact e2, by rw [a]; exact e3, by rw [a]; exact e4, by rw [a]; exact e5, by rw [a]; exact e6, by rw [a]; exact e7, by rw [a]; exact e8, by rw [a]; exact e9, by rw [hr 2 (by omega)]; exact et, hP⟩
theorem rpQ_dr (h : rp_Q J q m tx s) (h0 : L q = J q) (h9 : L (q + 9) = J (q + 9)) (hP : rp_D L q D) : rp_Q L q m tx (ab_dr s D) := by
  obtain ⟨e11, e12, e13, e14, e16, e17, e19, et, eD⟩ := h
  exact ⟨by rw [h0]; exact e11, by rw [h0]; exact e12, by rw [h0]; exact e13, by rw [h0]; exact e14, by rw [h0]; exact e16, by rw [h0]; exact e17, by rw [h0]; exact e19, by rw [h9]; exact et, hP⟩
theorem np_peer {v w : Nat} (h : ab_np D ≤ 8) : ab_np (dr_peer D v w) = ab_np D + 1 := by
  show (upd D.1 0 (nI (ab_np D + 1)) 0).toNatClampNeg = _
  rw [show upd D.1 0 (nI (ab_np D + 1)) 0 = nI (ab_np D + 1) from pk_us, nI_clamp (by omega)]
theorem np_set {j v : Nat} (h : 0 < j) : ab_np (dr_set D j v) = ab_np D := by
  show (upd D.1 j (nI v) 0).toNatClampNeg = _
  rw [pk_un (show 0 ≠ j by omega)]; rfl
theorem ok_np {P P' : aP} {f : Nat → Int32} (h : ok_K P f) (hn : ab_np P ≤ ab_np P') : ok_K P' f := fun a ha => by
  obtain ⟨mm, h1, h2, h3⟩ := h a ha
  exact ⟨mm, h1, h2, fun k hk => h3 k (by omega)⟩
theorem ok_peer {v w : Nat} (o : ok_P D) (h : ab_np D < 8) : ok_P (dr_peer D v w) := by
  obtain ⟨⟨o1, o1'⟩, o2, o3, o4, o5, o6, o7⟩ := o
  have e := np_peer (D := D) (v := v) (w := w) o1
  refine ⟨⟨by omega, by rw [e]; show upd D.1 0 (nI (ab_np D + 1)) 0 = _; exact pk_us⟩, ?_, o3, o4, ok_np (P := D) o5 (by omega), o6, o7⟩
  show 1 ≤ (upd D.1 0 (nI (ab_np D + 1)) 6).toInt ∧ 1 ≤ (upd D.1 0 (nI (ab_np D + 1)) 7).toInt ∧ 1 ≤ (upd D.1 0 (nI (ab_np D + 1)) 8).toInt
  rw [pk_un (by decide), pk_un (by decide), pk_un (by decide)]
  exact o2
theorem ok_link {a b c : Nat} (o : ok_P D) (ha : a < 8) (hb : b < 8) (hab : a ≠ b) (hc : c ≤ 9999) : ok_P (dr_link D a b c) := by
  obtain ⟨o1, o2, o3, o4, o5, o6, o7⟩ := o
  have g : ∀ k, upd (upd D.2.2.2.1 (8 * a + b) (nI c)) (8 * b + a) (nI c) k = if k = 8 * b + a ∨ k = 8 * a + b then nI c else D.2.2.2.1 k := fun k => by
    by_cases h1 : k = 8 * b + a
    · rw [h1, pk_us, if_pos (Or.inl rfl)]
    · rw [pk_un h1]
      by_cases h2 : k = 8 * a + b
      · rw [h2, pk_us, if_pos (Or.inr rfl)]
      · rw [pk_un h2, if_neg (fun hh => hh.elim h1 h2)]
  refine ⟨o1, o2, fun k hk => ?_, fun x y hx hy => ?_, ok_np (P := D) o5 (Nat.le_refl _), o6, o7⟩
  · show 0 ≤ (upd (upd D.2.2.2.1 (8 * a + b) (nI c)) (8 * b + a) (nI c) k).toInt
    rw [g]
    by_cases h1 : k = 8 * b + a ∨ k = 8 * a + b
    · rw [if_pos h1, nI_toInt (by omega)]; omega
    · rw [if_neg h1]; exact o3 k hk
  · show upd (upd D.2.2.2.1 (8 * a + b) (nI c)) (8 * b + a) (nI c) (8 * x + y) = upd (upd D.2.2.2.1 (8 * a + b) (nI c)) (8 * b + a) (nI c) (8 * y + x)
    rw [g, g]
    by_cases h1 : 8 * x + y = 8 * b + a ∨ 8 * x + y = 8 * a + b
    · rw [if_pos h1, if_pos (by omega)]
    · rw [if_neg h1, if_neg (by omega)]; exact o4 x y hx hy
theorem ok_know {a b : Nat} (o : ok_P D) (ha : a < ab_np D) (hb : b < ab_np D) : ok_P (dr_know D a b) := by
  obtain ⟨o1, o2, o3, o4, o5, o6, o7⟩ := o
  have n8 := o1.1
  have k1 := ok_K.or n8 o5 (show a < 8 by omega) hb
  have k2 := ok_K.or n8 k1 (show b < 8 by omega) ha
  exact ⟨o1, o2, o3, o4, ok_np (P := D) k2 (Nat.le_refl _), o6, o7⟩
theorem ok_set {j v : Nat} (o : ok_P D) (hj : j = 6 ∨ j = 7 ∨ j = 8) (h1 : 1 ≤ v) (hv : v ≤ 9999) : ok_P (dr_set D j v) := by
  obtain ⟨o1, o2, o3, o4, o5, o6, o7⟩ := o
  have e := np_set (D := D) (j := j) (v := v) (by omega)
  refine ⟨⟨by rw [e]; exact o1.1, ?_⟩, ?_, o3, o4, ok_np (P := D) o5 (by omega), o6, o7⟩
  · rw [e]
    show upd D.1 j (nI v) 0 = _
    rw [pk_un (by omega)]; exact o1.2
  · have g : ∀ i, 1 ≤ (D.1 i).toInt → 1 ≤ (upd D.1 j (nI v) i).toInt := fun i hi => by
      by_cases h : i = j
      · rw [h, pk_us, nI_toInt (by omega)]; omega
      · rw [pk_un h]; exact hi
    exact ⟨g 6 o2.1, g 7 o2.2.1, g 8 o2.2.2⟩
/-! the class's draft -/
theorem cp_peer {K : pm_I → Prop} {v w : Nat} (hw : cp_w rr d m) (h : cp_Q J rr d m tx s) (hn : ab_np s.2.2.2.2.2 < 8) (h0 : s.2.2.2.2.2.1 0 = nI (ab_np s.2.2.2.2.2)) (hk : ∀ L, cp_Q L rr d m tx (ab_dr s (dr_peer s.2.2.2.2.2 v w)) → ob_fr (cp_f rr d) J L → K L) : wX1_addPeer G d (nI v) (nI w) J K := by
  have eP : cl_P J d s.2.2.2.2.2 := h.2.2.2.2.2.2.2.2.2.2
  generalize hD : s.2.2.2.2.2 = D at *
  obtain ⟨⟨p1, p1a, p1b, p1c⟩, p2, p3, p4, p5, p6⟩ := eP
  have e0 : J d 0 = nI (ab_np D) := p1.trans h0
  unfold wX1_addPeer
  rw [e0]
  refine ⟨fun z => absurd z (nI_ge (a := ab_np D) (b := 8) hn (by decide)), fun _ => ⟨vp_in_nI hn (by decide), fun I1 q1 => ?_⟩⟩
  rw [nI_clamp (by omega)] at q1
  have a0 : I1 d 0 = nI (ab_np D) := by rw [q1, ob_ur (by omega)]; exact e0
  rw [a0]
  refine ⟨vp_in_nI hn (by decide), fun I2 q2 I3 q3 => ?_⟩
  rw [nI_clamp (by omega)] at q2
  have a0' : I2 d 0 = nI (ab_np D) := by rw [q2, ob_ur (by omega)]; exact a0
  rw [a0', nI_1] at q3
  have v3 : ∀ r k, I3 r k = if r = d ∧ k = 0 then nI (ab_np D + 1) else if r = d + 2 ∧ k = ab_np D then nI w else if r = d + 1 ∧ k = ab_np D then nI v else J r k := fun r k => by
    rw [q3, ob_up, q2, ob_up, q1, ob_up]
  have o3 : ∀ r, ¬ (d ≤ r ∧ r < d + 8) → I3 r = J r := fun r hr => by rw [q3, ob_ur (by omega), q2, ob_ur (by omega), q1, ob_ur (by omega)]
  refine hk I3 (cpQ_dr hw h o3 ?_) (fun r hr => o3 r (fun hh => hr (Or.inr hh)))
  refine ⟨⟨?_, ?_, ?_, ?_⟩, fun k hk => ?_, fun k hk => ?_, fun k hk => ?_, ?_, fun k hk => ?_⟩
  · rw [v3, if_pos ⟨rfl, rfl⟩]; show nI (ab_np D + 1) = upd D.1 0 (nI (ab_np D + 1)) 0; rw [pk_us]
  · rw [v3, if_neg (by omega), if_neg (by omega), if_neg (by omega)]; show J d 6 = upd D.1 0 (nI (ab_np D + 1)) 6; rw [pk_un (by decide)]; exact p1a
  · rw [v3, if_neg (by omega), if_neg (by omega), if_neg (by omega)]; show J d 7 = upd D.1 0 (nI (ab_np D + 1)) 7; rw [pk_un (by decide)]; exact p1b
  · rw [v3, if_neg (by omega), if_neg (by omega), if_neg (by omega)]; show J d 8 = upd D.1 0 (nI (ab_np D + 1)) 8; rw [pk_un (by decide)]; exact p1c
  · rw [np_peer (by omega)] at hk
    refine ⟨?_, ?_⟩
    · show I3 (d + 1) k = upd D.2.1 (ab_np D) (nI v) k
      rw [v3, if_neg (by omega), if_neg (by omega)]
      by_cases e : k = ab_np D
      · rw [e, if_pos ⟨rfl, rfl⟩, pk_us]
      · rw [if_neg (fun hh => e hh.2), pk_un e]; exact (p2 k (by omega)).1
    · show I3 (d + 2) k = upd D.2.2.1 (ab_np D) (nI w) k
      rw [v3, if_neg (by omega)]
      by_cases e : k = ab_np D
      · rw [e, if_pos ⟨rfl, rfl⟩, pk_us]
      · rw [if_neg (fun hh => e hh.2), if_neg (by omega), pk_un e]; exact (p2 k (by omega)).2
  · rw [v3, if_neg (by omega), if_neg (by omega), if_neg (by omega)]; exact p3 k hk
  · rw [v3, if_neg (by omega), if_neg (by omega), if_neg (by omega)]; exact p4 k hk
  · rw [v3, if_neg (by omega), if_neg (by omega), if_neg (by omega)]; exact p5
  · rw [v3, if_neg (by omega), if_neg (by omega), if_neg (by omega)]; exact p6 k hk
theorem cp_link {K : pm_I → Prop} {a b c : Nat} (hw : cp_w rr d m) (h : cp_Q J rr d m tx s) (ha : a < 8) (hb : b < 8) (hk : ∀ L, cp_Q L rr d m tx (ab_dr s (dr_link s.2.2.2.2.2 a b c)) → ob_fr (cp_f rr d) J L → K L) : wX1_addLink G d (nI a) (nI b) (nI c) J K := by
  have eP : cl_P J d s.2.2.2.2.2 := h.2.2.2.2.2.2.2.2.2.2
  generalize hD : s.2.2.2.2.2 = D at *
  obtain ⟨p1, p2, p3, p4, p5, p6⟩ := eP
  have m1 : nI a * 8 + nI b = nI (8 * a + b) := by rw [show (8 : Int32) = nI 8 from rfl, pk_mul, nI_add, Nat.mul_comm]
  have m2 : nI b * 8 + nI a = nI (8 * b + a) := by rw [show (8 : Int32) = nI 8 from rfl, pk_mul, nI_add, Nat.mul_comm]
  unfold wX1_addLink
  rw [m1, m2, nI_clamp (by omega), nI_clamp (by omega)]
  refine ⟨vp_in_nI (by omega) (by decide), fun I1 q1 => ⟨vp_in_nI (by omega) (by decide), fun I2 q2 => ?_⟩⟩
  have or' : ∀ r, r ≠ d + 3 → I2 r = J r := fun r hr => by rw [q2, ob_ur hr, q1, ob_ur hr]
  refine hk I2 (cpQ_dr hw h (fun r hr => or' r (by omega)) ⟨by rw [or' d (by omega)]; exact p1, fun k hk => by rw [or' (d + 1) (by omega), or' (d + 2) (by omega)]; exact p2 k hk, fun k hk => ?_, fun k hk => by rw [or' (d + 4) (by omega)]; exact p4 k hk, by rw [or' (d + 5) (by omega)]; exact p5, fun k hk => by rw [or' (d + 5 + 1) (by omega)]; exact p6 k hk⟩) (fun r hr => or' r (fun e => hr (Or.inr ⟨by omega, by omega⟩)))
  rw [q2, q1]
  exact ob_urow (ob_urow p3) k hk
theorem cp_know {K : pm_I → Prop} {a b : Nat} (hw : cp_w rr d m) (h : cp_Q J rr d m tx s) (ha : a < 8) (hb : b < 8) (hk : ∀ L, cp_Q L rr d m tx (ab_dr s (dr_know s.2.2.2.2.2 a b)) → ob_fr (cp_f rr d) J L → K L) : wX1_addAcquaintance G d (nI a) (nI b) J K := by
  have eP : cl_P J d s.2.2.2.2.2 := h.2.2.2.2.2.2.2.2.2.2
  generalize hD : s.2.2.2.2.2 = D at *
  obtain ⟨p1, p2, p3, p4, p5, p6⟩ := eP
  unfold wX1_addAcquaintance
  rw [nI_clamp (by omega), nI_clamp (by omega), p4 a ha]
  refine ⟨vp_in_nI (by omega) (by decide), vp_in_nI (by omega) (by decide), fun I1 q1 => ⟨vp_in_nI (by omega) (by decide), vp_in_nI (by omega) (by decide), fun I2 q2 => ?_⟩⟩
  have r1 : ∀ k, k < 8 → I1 (d + 4) k = dr_k1 D.2.2.2.2.1 a b k := by rw [q1]; exact ob_urow p4
  rw [r1 b hb] at q2
  have or' : ∀ r, r ≠ d + 4 → I2 r = J r := fun r hr => by rw [q2, ob_ur hr, q1, ob_ur hr]
  refine hk I2 (cpQ_dr hw h (fun r hr => or' r (by omega)) ⟨by rw [or' d (by omega)]; exact p1, fun k hk => by rw [or' (d + 1) (by omega), or' (d + 2) (by omega)]; exact p2 k hk, fun k hk => by rw [or' (d + 3) (by omega)]; exact p3 k hk, fun k hk => ?_, by rw [or' (d + 5) (by omega)]; exact p5, fun k hk => by rw [or' (d + 5 + 1) (by omega)]; exact p6 k hk⟩) (fun r hr => or' r (fun e => hr (Or.inr ⟨by omega, by omega⟩)))
  rw [q2]
  exact ob_urow r1 k hk
theorem cp_set {j v : Nat} (hw : cp_w rr d m) (hj : j = 6 ∨ j = 7 ∨ j = 8) (h : cp_Q J rr d m tx s) : cp_Q (pm_up J d j (nI v)) rr d m tx (ab_dr s (dr_set s.2.2.2.2.2 j v)) := by
  have eP : cl_P J d s.2.2.2.2.2 := h.2.2.2.2.2.2.2.2.2.2
  generalize hD : s.2.2.2.2.2 = D at *
  obtain ⟨⟨p1, p1a, p1b, p1c⟩, p2, p3, p4, p5, p6⟩ := eP
  have or' : ∀ r, r ≠ d → pm_up J d j (nI v) r = J r := fun r hr => ob_ur hr
  have g : ∀ i, J d i = D.1 i → pm_up J d j (nI v) d i = upd D.1 j (nI v) i := fun i hi => by
    by_cases e : i = j
    · rw [e, ob_us, pk_us]
    · rw [ob_uq e, pk_un e]; exact hi
  refine cpQ_dr hw h (fun r hr => or' r (by omega)) ⟨⟨g 0 p1, g 6 p1a, g 7 p1b, g 8 p1c⟩, fun k hk => ?_, fun k hk => by rw [or' (d + 3) (by omega)]; exact p3 k hk, fun k hk => by rw [or' (d + 4) (by omega)]; exact p4 k hk, by rw [or' (d + 5) (by omega)]; exact p5, fun k hk => by rw [or' (d + 5 + 1) (by omega)]; exact p6 k hk⟩
  rw [np_set (by omega)] at hk
  rw [or' (d + 1) (by omega), or' (d + 2) (by omega)]; exact p2 k hk
theorem cp_no (hw : cp_w rr d m) (h : cp_Q J rr d m tx s) : cp_Q (pm_up J (d + 5) 1 0) rr d m tx (ab_dr s (dr_no s.2.2.2.2.2)) := by
  have eP : cl_P J d s.2.2.2.2.2 := h.2.2.2.2.2.2.2.2.2.2
  generalize hD : s.2.2.2.2.2 = D at *
  obtain ⟨p1, p2, p3, p4, p5, p6⟩ := eP
  have or' : ∀ r, r ≠ d + 5 → pm_up J (d + 5) 1 0 r = J r := fun r hr => ob_ur hr
  exact cpQ_dr hw h (fun r hr => or' r (by omega)) ⟨by rw [or' d (by omega)]; exact p1, fun k hk => by rw [or' (d + 1) (by omega), or' (d + 2) (by omega)]; exact p2 k hk, fun k hk => by rw [or' (d + 3) (by omega)]; exact p3 k hk, fun k hk => by rw [or' (d + 4) (by omega)]; exact p4 k hk, by rw [ob_us]; rfl, fun k hk => absurd hk (Nat.not_lt_zero k)⟩
end DR
