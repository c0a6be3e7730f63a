/-! ===== THE PARSER: formulas (3): factors, depth ===== -/
theorem rpQ_uq {q m j : Nat} {tx : Nat → Int32} {J : pm_I} {s : aQ} {v : Int32} (h : rp_Q J q m tx s) (hj : j = 18 ∨ 20 ≤ j) : rp_Q (pm_up J q j v) q m tx s := by
  obtain ⟨e11, e12, e13, e14, e16, e17, e19, et, eD⟩ := h
  have a : ∀ i, i ≠ j → pm_up J q j v q i = J q i := fun i hi => ob_uq hi
  have c : ∀ r, r ≠ q → pm_up J q j v r = J r := fun r hr => ob_ur hr
  refine ⟨by rw [a _ (by omega)]; exact e11, by rw [a _ (by omega)]; exact e12, by rw [a _ (by omega)]; exact e13, by rw [a _ (by omega), a _ (by omega)]; exact e14, by rw [a _ (by omega)]; exact e16, by rw [a _ (by omega)]; exact e17, by rw [a _ (by omega)]; exact e19, by rw [c _ (by omega)]; exact et, ?_⟩
  unfold rp_D
  rw [c (q + 2) (by omega), c (q + 3) (by omega), c (q + 4) (by omega), c (q + 5) (by omega), c (q + 6) (by omega), c (q + 7) (by omega), c (q + 8) (by omega)]
  exact eD
theorem rpE_uq {q j : Nat} {J : pm_I} {e : aE} {v : Int32} (h : rp_E J q e) (hj : j = 18 ∨ 20 ≤ j) : rp_E (pm_up J q j v) q e := ⟨by rw [ob_uq (by omega)]; exact h.1, by rw [ob_uq (by omega)]; exact h.2⟩
theorem rf_en_n {v : Nat} (hv : v ≤ 9999) : rf_en (nI v) = nI (100 + v) := by
  have g : ∀ x : Int32, x.toInt < 0 → ¬ nI v = x := fun x hx e => by
    rw [← e, nI_toInt (by omega)] at hx; omega
  unfold rf_en
  rw [if_neg (g _ (by decide)), if_neg (g _ (by decide)), if_neg (g _ (by decide)), if_neg (g _ (by decide)), if_neg (g _ (by decide)), if_neg (g _ (by decide)), if_neg (g _ (by decide)), if_neg (g _ (by decide)), if_neg (g _ (by decide))]
  exact nI_add 100 v
theorem ab_isop_n {v : Nat} (hv : v ≤ 9999) : ab_isop (nI v) = false := by
  have g : ∀ x : Int32, x.toInt < 0 → ¬ nI v = x := fun x hx e => by
    rw [← e, nI_toInt (by omega)] at hx; omega
  unfold ab_isop
  rw [decide_eq_false (g _ (by decide)), decide_eq_false (g _ (by decide)), decide_eq_false (g _ (by decide)), decide_eq_false (g _ (by decide))]
  rfl
/-- which input the word names: 1 to 5, or none -/
def ab_in (tx : Nat → Int32) (s : aQ) : Nat := if ab_wi tx s 6 = true then 1 else if ab_wi tx s 7 = true then 2 else if ab_wi tx s 8 = true then 3 else if ab_wi tx s 9 = true then 4 else if ab_wi tx s 10 = true then 5 else 0
def ab_ci (k : Nat) : Int32 := [0, -1, -2, -3, -4, -5].getD k 0
theorem ab_ci_n : ∀ k, k < 6 → 1 ≤ k → ab_isop (ab_ci k) = false ∧ -5 ≤ (ab_ci k).toInt ∧ (ab_ci k).toInt ≤ 9999 ∧ rf_en (ab_ci k) = nI k := by decide
theorem ab_in_5 (tx : Nat → Int32) (s : aQ) : ab_in tx s < 6 := by
  unfold ab_in
  repeat' split
  all_goals decide
theorem ab_wi_1 {tx : Nat → Int32} {s : aQ} {w : Nat} (h : ¬ s.2.2.1 = 1) : ab_wi tx s w = false := by
  unfold ab_wi
  rw [decide_eq_false (fun hh => h hh.1), Bool.false_and]
theorem ab_in_1 {tx : Nat → Int32} {s : aQ} (h : ¬ s.2.2.1 = 1) : ab_in tx s = 0 := by
  unfold ab_in
  rw [ab_wi_1 h, ab_wi_1 h, ab_wi_1 h, ab_wi_1 h, ab_wi_1 h]
  rfl
theorem bool_ne {b : Bool} (h : ¬ b = true) : b = false := by cases b; rfl; exact absurd rfl h
section FA
variable {G : pm_G} {rr d m q b : Nat} {tx : Nat → Int32} {J : pm_I} {s : aQ}
theorem cp_in {K : pm_I → Prop} (hw : cp_w rr d m) (hG : pm_k G d (.inl 1)) (ok : ok_Q m s) (h : cp_Q J rr d m tx s) (hl : s.2.2.2.2.2.2.2.2.2.2.length < 600) (h0 : ab_in tx s = 0 → ∀ L, cp_E L rr d (1, s.2.1) → ob_fr (cp_f rr d) J L → K L) (h1 : ∀ k, 1 ≤ k → ab_in tx s = k → ∀ L, cp_Q L rr d m tx (ab_put s (ab_ci k)) → ob_fr (cp_f rr d) J L → K L) : wX2_readInput G rr J K := by
  have e2 : J rr 2 = nI d := h.2.1
  have cd : (J rr 2).toNatClampNeg = d := by rw [e2]; exact nI_clamp (by have := hw.2.2; omega)
  have go : ∀ k, 1 ≤ k → ab_in tx s = k → (pm_k G ((J rr 2).toNatClampNeg) (.inl 1) ∧ wX3_put G ((J rr 2).toNatClampNeg + 5) (ab_ci k) J (fun I22 => K I22)) := fun k hk e => by
    rw [cd]
    exact ⟨hG, cpQ_put hw h hl (fun L hL fL => h1 k hk e L hL fL)⟩
  unfold ab_in at h0 go
  unfold wX2_readInput
  refine cp_wi hw ok h (by decide) ⟨fun z => ?_, fun z => ?_⟩
  rotate_left
  · rw [ob_b1] at z
    exact go 1 (by decide) (if_pos z)
  rw [ob_b0] at z
  rw [if_neg (by rw [z]; decide)] at h0 go
  refine cp_wi hw ok h (by decide) ⟨fun z => ?_, fun z => ?_⟩
  rotate_left
  · rw [ob_b1] at z
    exact go 2 (by decide) (if_pos z)
  rw [ob_b0] at z
  rw [if_neg (by rw [z]; decide)] at h0 go
  refine cp_wi hw ok h (by decide) ⟨fun z => ?_, fun z => ?_⟩
  rotate_left
  · rw [ob_b1] at z
    exact go 3 (by decide) (if_pos z)
  rw [ob_b0] at z
  rw [if_neg (by rw [z]; decide)] at h0 go
  refine cp_wi hw ok h (by decide) ⟨fun z => ?_, fun z => ?_⟩
  rotate_left
  · rw [ob_b1] at z
    exact go 4 (by decide) (if_pos z)
  rw [ob_b0] at z
  rw [if_neg (by rw [z]; decide)] at h0 go
  refine cp_wi hw ok h (by decide) ⟨fun z => ?_, fun z => ?_⟩
  rotate_left
  · rw [ob_b1] at z
    exact go 5 (by decide) (if_pos z)
  rw [ob_b0] at z
  rw [if_neg (by rw [z]; decide)] at h0
  exact cpQ_fail hw h (by omega) (by decide) (fun L hL fL => h0 rfl L hL fL)
theorem rp_in {K : Int32 → pm_I → Prop} (hm : m ≤ 600) (ok : ok_Q m s) (h : rp_Q J q m tx s) (hk : K (nI (ab_in tx s)) J) : wX7_nameHere G q J K := by
  unfold ab_in at hk
  unfold wX7_nameHere
  refine rp_wi hm ok h (by decide) ⟨fun z => ?_, fun z => ?_⟩
  rotate_left
  · rw [ob_b1] at z
    rw [if_pos z] at hk; exact hk
  rw [ob_b0] at z
  rw [if_neg (by rw [z]; decide)] at hk
  refine rp_wi hm ok h (by decide) ⟨fun z => ?_, fun z => ?_⟩
  rotate_left
  · rw [ob_b1] at z
    rw [if_pos z] at hk; exact hk
  rw [ob_b0] at z
  rw [if_neg (by rw [z]; decide)] at hk
  refine rp_wi hm ok h (by decide) ⟨fun z => ?_, fun z => ?_⟩
  rotate_left
  · rw [ob_b1] at z
    rw [if_pos z] at hk; exact hk
  rw [ob_b0] at z
  rw [if_neg (by rw [z]; decide)] at hk
  refine rp_wi hm ok h (by decide) ⟨fun z => ?_, fun z => ?_⟩
  rotate_left
  · rw [ob_b1] at z
    rw [if_pos z] at hk; exact hk
  rw [ob_b0] at z
  rw [if_neg (by rw [z]; decide)] at hk
  refine rp_wi hm ok h (by decide) ⟨fun z => ?_, fun z => ?_⟩
  rotate_left
  · rw [ob_b1] at z
    rw [if_pos z] at hk; exact hk
  rw [ob_b0] at z
  rw [if_neg (by rw [z]; decide)] at hk
  exact hk
theorem ok_W.item {h : Nat} {x : Int32} (hne : ¬ s.2.2.1 = 0) (ok : ok_W m s h) (hh : h < 16) (h1 : ab_isop x = false) (h2 : -5 ≤ x.toInt ∧ x.toInt ≤ 9999) : ok_W m (ab_adv tx m (ab_put s x)) (h + 1) ∧ ok_st s (ab_adv tx m (ab_put s x)) := by
  obtain ⟨o1, o2, o3, o4⟩ := ok
  obtain ⟨a1, a2⟩ := ok_Q.adv tx o1
  have := o1.1
  have := o1.2.2.1 hne
  have hl : (s.2.2.2.2.2.2.2.2.2.2 ++ [x]).length = s.2.2.2.2.2.2.2.2.2.2.length + 1 := by rw [List.length_append]; rfl
  refine ⟨⟨a1, fun e => tk_VB e, o3.ap (by rw [h1, if_neg (by decide)]; exact hh) (Or.inr h2) (by rw [h1, if_neg (by decide)]), ?_⟩, ⟨⟨_, rfl⟩, ?_, ?_⟩⟩
  · show (s.2.2.2.2.2.2.2.2.2.2 ++ [x]).length ≤ (ab_adv tx m s).2.1
    omega
  · show s.2.1 ≤ (ab_adv tx m s).2.1
    omega
  · show (s.2.2.2.2.2.2.2.2.2.2 ++ [x]).length + s.2.1 ≤ _ + (ab_adv tx m s).2.1
    omega
end FA
