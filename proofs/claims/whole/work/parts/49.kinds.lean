/-! ===== the start: the kinds of the 515 rows ===== -/
def k9S (d : Nat) : Nat ⊕ (Nat × Nat) := if d = 0 then .inl 4 else .inr (0, 24)
def k9T (d : Nat) : Nat ⊕ (Nat × Nat) := if d = 0 then .inl 5 else if d ≤ 2 then .inr (0, 8) else if d = 3 then .inr (4, 6) else k9S ((d - 4) % 5)
def k9H (d : Nat) : Nat ⊕ (Nat × Nat) := if d = 0 then .inl 0 else if d = 1 then .inr (5, 10) else k9T ((d - 2) % 34)
def k9P (d : Nat) : Nat ⊕ (Nat × Nat) := if d = 0 then .inl 1 else if d ≤ 2 then .inr (0, 8) else if d = 3 then .inr (0, 64) else if d = 4 then .inr (0, 8) else if d = 5 then .inl 3 else if d = 6 then .inr (0, 600) else .inr (0, 16)
def k9X (d : Nat) : Nat ⊕ (Nat × Nat) := if d = 0 then .inl 6 else if d = 1 then .inr (1, 600) else if d < 10 then k9P (d - 2) else if d < 18 then k9P (d - 10) else if d < 52 then k9T (d - 18) else if d < 86 then k9T (d - 52) else if d < 428 then k9H (d - 86) else if d = 428 then .inr (5, 2) else if d < 463 then k9T (d - 429) else if d < 497 then k9T (d - 463) else .inr (2, 2)
def k9M (d : Nat) : Nat ⊕ (Nat × Nat) := ([.inl 7, .inr (0, 821), .inr (0, 8), .inr (0, 16), .inr (0, 16), .inr (0, 128), .inr (0, 16), .inr (0, 2), .inr (0, 1240), .inr (1, 600), .inr (0, 40), .inr (0, 6), .inr (0, 821), .inr (0, 8210), .inr (0, 1642), .inr (2, 2)] : List (Nat ⊕ (Nat × Nat))).getD d (.inl 7)
def k9 (r : Nat) : Nat ⊕ (Nat × Nat) := if r ≤ 498 then k9X (r - 1) else if r ≤ 514 then k9M (r - 499) else .inr (3, 1)
theorem k9_P {G : pm_G} (h : pm_kd G = k9) : pm_bP G 3 ∧ pm_bP G 11 := by
  refine ⟨?_, ?_⟩
  · simp only [pm_bP, pm_bC, h]; decide +kernel
  · simp only [pm_bP, pm_bC, h]; decide +kernel
theorem k9_T0 : ∀ q ∈ [19, 53, 430, 464], k9 q = .inl 5 ∧ k9 (q + 1) = .inr (0, 8) ∧ k9 (q + 2) = .inr (0, 8) ∧ k9 (q + 3) = .inr (4, 6) := by decide +kernel
theorem k9_T1 : ∀ q ∈ [19, 53, 430, 464], ∀ i, i < 6 → k9 (q + 4 + 5 * i) = .inl 4 ∧ k9 (q + 4 + 5 * i + 1) = .inr (0, 24) ∧ k9 (q + 4 + 5 * i + 2) = .inr (0, 24) ∧ k9 (q + 4 + 5 * i + 3) = .inr (0, 24) ∧ k9 (q + 4 + 5 * i + 4) = .inr (0, 24) := by decide +kernel
theorem k9_T2 : ∀ j, j < 10 → k9 (89 + 34 * j) = .inl 5 ∧ k9 (89 + 34 * j + 1) = .inr (0, 8) ∧ k9 (89 + 34 * j + 2) = .inr (0, 8) ∧ k9 (89 + 34 * j + 3) = .inr (4, 6) := by decide +kernel
theorem k9_T3 : ∀ j ∈ List.range 10, ∀ i, i < 6 → k9 (89 + 34 * j + 4 + 5 * i) = .inl 4 ∧ k9 (89 + 34 * j + 4 + 5 * i + 1) = .inr (0, 24) ∧ k9 (89 + 34 * j + 4 + 5 * i + 2) = .inr (0, 24) ∧ k9 (89 + 34 * j + 4 + 5 * i + 3) = .inr (0, 24) ∧ k9 (89 + 34 * j + 4 + 5 * i + 4) = .inr (0, 24) := by decide +kernel
theorem k9_T {G : pm_G} (h : pm_kd G = k9) (q : Nat) (hq : q ∈ [19, 53, 430, 464]) : pm_bT G q := by
  simp only [pm_bT, pm_bS, h]
  exact ⟨(k9_T0 q hq).1, (k9_T0 q hq).2.1, (k9_T0 q hq).2.2.1, (k9_T0 q hq).2.2.2, k9_T1 q hq⟩
theorem k9_H {G : pm_G} (h : pm_kd G = k9) : pm_bH G 87 := by
  refine ⟨by rw [h]; decide +kernel, by rw [h]; decide +kernel, fun j hj => ?_⟩
  show pm_bT G (89 + 34 * j)
  simp only [pm_bT, pm_bS, h]
  exact ⟨(k9_T2 j hj).1, (k9_T2 j hj).2.1, (k9_T2 j hj).2.2.1, (k9_T2 j hj).2.2.2, k9_T3 j (List.mem_range.mpr hj)⟩
theorem k9_X {G : pm_G} (h : pm_kd G = k9) : pm_bX G 1 := by
  refine ⟨by rw [h]; decide +kernel, by rw [h]; decide +kernel, (k9_P h).1, (k9_P h).2, k9_T h 19 (by decide), k9_T h 53 (by decide), k9_H h, by rw [h]; decide +kernel, k9_T h 430 (by decide), k9_T h 464 (by decide), by rw [h]; decide +kernel⟩
theorem k9_M {G : pm_G} (h : pm_kd G = k9) : pm_bM G 499 := by
  simp only [pm_bM, h]
  decide +kernel
theorem k9_o {G : pm_G} (h : pm_kd G = k9) : pm_kd G 515 = .inr (3, 1) := by
  rw [h]
  decide +kernel
theorem pm_ok_0 {G : pm_G} (h : ∀ (s U : State) (locs : List Loc), pm_SS G s → s.WarmedH U.vm → va_S (pm_A G) s.heap U.heap locs → pm_SS G U) : pm_ok (pm_st G 0 []) := by
  refine ⟨fun i j h1 h2 => ?_, fun i h1 h2 => ?_, h, fun r k hk => ?_⟩
  · have h2' : i ≤ 0 := h2
    omega
  · have h2' : i ≤ 0 := h2
    omega
  · have h1 := hk.1
    have h2' : r ≤ 0 := hk.2.1
    omega
