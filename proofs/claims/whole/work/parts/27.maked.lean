theorem pm_arrq {cA : ClassId} {n : Nat} {f g : Nat → Option Nat} (h : ∀ i, i < n → f i = g i) : vp_cell cA (n, .inr (.inr (.inr (.inr f)))) = vp_cell cA (n, .inr (.inr (.inr (.inr g)))) := by
  rw [vp_cell_q, vp_cell_q]
  unfold arrV
  congr 1
  apply Array.ext
  · simp
  · intro i h1 h2
    have hi : i < n := by simpa using h1
    simp [h i hi]
section PMD
variable {G : pm_G} {X : pm_X} {nL a b j : Nat} {ls : List (Option Value)} {st : List Value} {I : pm_I} {S : List Nat}
theorem m_doneA {q pc t n mul : Nat} (hq : q ∉ S) (ht : (t, mul) = (4, 5) ∨ (t, mul) = (5, 34)) (hkd : pm_kd G q = .inr (t, n)) (hI : ∀ i, i < n → I q i = nI (q + 1 + mul * i)) (h31 : q + 1 + mul * n < 2 ^ 31) (k : pm_R (pm_st G j S) X nL a b pc ls st I) : pm_R (pm_st G j (q :: S)) X nL a b pc ls st I := by
  obtain ⟨p, l, e, R, s, m, args, below, meth, c, Q⟩ := X
  intro H locs la hP hS hL
  have hmul : mul = 5 ∨ mul = 34 := by rcases ht with h | h <;> cases h <;> simp
  refine k H locs la (fun i x hx => ?_) hS hL
  have hl : i < j := by
    have h9 := (List.getElem?_eq_some_iff.mp hx).1
    have : i < (List.range j).length := by simpa [pm_w, pm_st] using h9
    simpa using this
  by_cases hiq : i + 1 = q
  · subst hiq
    have hk1 : pm_k (pm_st G j (( i + 1) :: S)) (i + 1) (pm_dy (.inr (t, n))) := pm_k_in List.mem_cons_self (by omega) (by omega) hkd
    have hk2 : pm_k (pm_st G j S) (i + 1) (.inr (t, n)) := pm_k_out hq (by omega) (by omega) hkd
    have h1 := hP i _ (by have := pm_w_at (I := I) hk1; rwa [Nat.add_sub_cancel] at this)
    have h2 := pm_w_at (I := I) hk2
    rw [Nat.add_sub_cancel, hx] at h2
    cases h2
    rcases ht with h | h <;> cases h
    · show H[pm_ad G (i + 1)]? = some (vp_cell _ _)
      have h1' : H[pm_ad G (i + 1)]? = some (vp_cell (pm_ca G 4) (n, .inr (.inr (.inr (.inr (fun y => pm_ro (pm_ad G) (I (i + 1) y))))))) := h1
      rw [h1']
      congr 1
      exact pm_arrq (fun y hy => by rw [hI y hy, pm_ro_nI (by omega) (by have : 5 * y ≤ 5 * n := Nat.mul_le_mul_left 5 (by omega); omega)]; rfl)
    · show H[pm_ad G (i + 1)]? = some (vp_cell _ _)
      have h1' : H[pm_ad G (i + 1)]? = some (vp_cell (pm_ca G 5) (n, .inr (.inr (.inr (.inr (fun y => pm_ro (pm_ad G) (I (i + 1) y))))))) := h1
      rw [h1']
      congr 1
      exact pm_arrq (fun y hy => by rw [hI y hy, pm_ro_nI (by omega) (by have : 34 * y ≤ 34 * n := Nat.mul_le_mul_left 34 (by omega); omega)]; rfl)
  · refine hP i x ?_
    rw [← hx]
    unfold pm_w
    show (List.map _ (List.range j))[i]? = (List.map _ (List.range j))[i]?
    rw [List.getElem?_map, List.getElem?_map, List.getElem?_range hl]
    show some (pm_ad G (i + 1), pm_c G (if i + 1 ∈ q :: S then pm_dy (pm_kd G (i + 1)) else pm_kd G (i + 1)) (i + 1) (I (i + 1))) = some (pm_ad G (i + 1), pm_c G (if i + 1 ∈ S then pm_dy (pm_kd G (i + 1)) else pm_kd G (i + 1)) (i + 1) (I (i + 1)))
    by_cases hs : i + 1 ∈ S
    · rw [if_pos hs, if_pos (List.mem_cons_of_mem _ hs)]
    · rw [if_neg hs, if_neg (fun z => (List.mem_cons.mp z).elim hiq hs)]
end PMD
/-! the shapes of the blocks of rows that the constructors make -/
def pm_bS (G : pm_G) (q : Nat) : Prop := pm_kd G q = .inl 4 ∧ pm_kd G (q + 1) = .inr (0, 24) ∧ pm_kd G (q + 2) = .inr (0, 24) ∧ pm_kd G (q + 3) = .inr (0, 24) ∧ pm_kd G (q + 4) = .inr (0, 24)
def pm_bC (G : pm_G) (q : Nat) : Prop := pm_kd G q = .inl 3 ∧ pm_kd G (q + 1) = .inr (0, 600) ∧ pm_kd G (q + 2) = .inr (0, 16)
def pm_bP (G : pm_G) (q : Nat) : Prop := pm_kd G q = .inl 1 ∧ pm_kd G (q + 1) = .inr (0, 8) ∧ pm_kd G (q + 2) = .inr (0, 8) ∧ pm_kd G (q + 3) = .inr (0, 64) ∧ pm_kd G (q + 4) = .inr (0, 8) ∧ pm_bC G (q + 5)
def pm_bT (G : pm_G) (q : Nat) : Prop := pm_kd G q = .inl 5 ∧ pm_kd G (q + 1) = .inr (0, 8) ∧ pm_kd G (q + 2) = .inr (0, 8) ∧ pm_kd G (q + 3) = .inr (4, 6) ∧ ∀ i, i < 6 → pm_bS G (q + 4 + 5 * i)
def pm_bH (G : pm_G) (q : Nat) : Prop := pm_kd G q = .inl 0 ∧ pm_kd G (q + 1) = .inr (5, 10) ∧ ∀ i, i < 10 → pm_bT G (q + 2 + 34 * i)
def pm_bX (G : pm_G) (q : Nat) : Prop := pm_kd G q = .inl 6 ∧ pm_kd G (q + 1) = .inr (1, 600) ∧ pm_bP G (q + 2) ∧ pm_bP G (q + 10) ∧ pm_bT G (q + 18) ∧ pm_bT G (q + 52) ∧ pm_bH G (q + 86) ∧ pm_kd G (q + 428) = .inr (5, 2) ∧ pm_bT G (q + 429) ∧ pm_bT G (q + 463) ∧ pm_kd G (q + 497) = .inr (2, 2)
def pm_bM (G : pm_G) (q : Nat) : Prop := pm_kd G q = .inl 7 ∧ pm_kd G (q + 1) = .inr (0, 821) ∧ pm_kd G (q + 2) = .inr (0, 8) ∧ pm_kd G (q + 3) = .inr (0, 16) ∧ pm_kd G (q + 4) = .inr (0, 16) ∧ pm_kd G (q + 5) = .inr (0, 128) ∧ pm_kd G (q + 6) = .inr (0, 16) ∧ pm_kd G (q + 7) = .inr (0, 2) ∧ pm_kd G (q + 8) = .inr (0, 1240) ∧ pm_kd G (q + 9) = .inr (1, 600) ∧ pm_kd G (q + 10) = .inr (0, 40) ∧ pm_kd G (q + 11) = .inr (0, 6) ∧ pm_kd G (q + 12) = .inr (0, 821) ∧ pm_kd G (q + 13) = .inr (0, 8210) ∧ pm_kd G (q + 14) = .inr (0, 1642) ∧ pm_kd G (q + 15) = .inr (2, 2)
theorem pd_0_0 (ad : Nat → Nat) (f : Nat → Int32) (r : Nat) (h0 : 0 < r) (h31 : r < 2 ^ 31) : (pm_fd ad 0 f).set 0 (.ref (ad r)) = pm_fd ad 0 (upd f 0 (nI r)) := by
  have e : pm_rv ad (upd f 0 (nI r) 0) = .ref (ad r) := pm_rv_nI h0 h31
  rw [← e]
  rfl
theorem pd_0_1 (ad : Nat → Nat) (f : Nat → Int32) (x : Int32) : (pm_fd ad 0 f).set 1 (.int x) = pm_fd ad 0 (upd f 1 x) := rfl
theorem pd_0_2 (ad : Nat → Nat) (f : Nat → Int32) (x : Int32) : (pm_fd ad 0 f).set 2 (.int x) = pm_fd ad 0 (upd f 2 x) := rfl
theorem pf_0 (ad : Nat → Nat) (i : Nat) (hi : i < 3) : defaultValue (tyX0 i) = vp_V (pm_fd ad 0 (fun _ => 0)) i := by
  rcases (show i = 0 ∨ i = 1 ∨ i = 2 by omega) with rfl | rfl | rfl <;> rfl
theorem pd_1_1 (ad : Nat → Nat) (f : Nat → Int32) (r : Nat) (h0 : 0 < r) (h31 : r < 2 ^ 31) : (pm_fd ad 1 f).set 1 (.ref (ad r)) = pm_fd ad 1 (upd f 1 (nI r)) := by
  have e : pm_rv ad (upd f 1 (nI r) 1) = .ref (ad r) := pm_rv_nI h0 h31
  rw [← e]
  rfl
theorem pd_1_2 (ad : Nat → Nat) (f : Nat → Int32) (r : Nat) (h0 : 0 < r) (h31 : r < 2 ^ 31) : (pm_fd ad 1 f).set 2 (.ref (ad r)) = pm_fd ad 1 (upd f 2 (nI r)) := by
  have e : pm_rv ad (upd f 2 (nI r) 2) = .ref (ad r) := pm_rv_nI h0 h31
  rw [← e]
  rfl
theorem pd_1_3 (ad : Nat → Nat) (f : Nat → Int32) (r : Nat) (h0 : 0 < r) (h31 : r < 2 ^ 31) : (pm_fd ad 1 f).set 3 (.ref (ad r)) = pm_fd ad 1 (upd f 3 (nI r)) := by
  have e : pm_rv ad (upd f 3 (nI r) 3) = .ref (ad r) := pm_rv_nI h0 h31
  rw [← e]
  rfl
theorem pd_1_4 (ad : Nat → Nat) (f : Nat → Int32) (r : Nat) (h0 : 0 < r) (h31 : r < 2 ^ 31) : (pm_fd ad 1 f).set 4 (.ref (ad r)) = pm_fd ad 1 (upd f 4 (nI r)) := by
  have e : pm_rv ad (upd f 4 (nI r) 4) = .ref (ad r) := pm_rv_nI h0 h31
  rw [← e]
  rfl
theorem pd_1_5 (ad : Nat → Nat) (f : Nat → Int32) (r : Nat) (h0 : 0 < r) (h31 : r < 2 ^ 31) : (pm_fd ad 1 f).set 5 (.ref (ad r)) = pm_fd ad 1 (upd f 5 (nI r)) := by
  have e : pm_rv ad (upd f 5 (nI r) 5) = .ref (ad r) := pm_rv_nI h0 h31
  rw [← e]
  rfl
theorem pd_1_0 (ad : Nat → Nat) (f : Nat → Int32) (x : Int32) : (pm_fd ad 1 f).set 0 (.int x) = pm_fd ad 1 (upd f 0 x) := rfl
theorem pd_1_6 (ad : Nat → Nat) (f : Nat → Int32) (x : Int32) : (pm_fd ad 1 f).set 6 (.int x) = pm_fd ad 1 (upd f 6 x) := rfl
theorem pd_1_7 (ad : Nat → Nat) (f : Nat → Int32) (x : Int32) : (pm_fd ad 1 f).set 7 (.int x) = pm_fd ad 1 (upd f 7 x) := rfl
theorem pd_1_8 (ad : Nat → Nat) (f : Nat → Int32) (x : Int32) : (pm_fd ad 1 f).set 8 (.int x) = pm_fd ad 1 (upd f 8 x) := rfl
theorem pf_1 (ad : Nat → Nat) (i : Nat) (hi : i < 9) : defaultValue (tyX1 i) = vp_V (pm_fd ad 1 (fun _ => 0)) i := by
  rcases (show i = 0 ∨ i = 1 ∨ i = 2 ∨ i = 3 ∨ i = 4 ∨ i = 5 ∨ i = 6 ∨ i = 7 ∨ i = 8 by omega) with rfl | rfl | rfl | rfl | rfl | rfl | rfl | rfl | rfl <;> rfl
theorem pd_2_0 (ad : Nat → Nat) (f : Nat → Int32) (r : Nat) (h0 : 0 < r) (h31 : r < 2 ^ 31) : (pm_fd ad 2 f).set 0 (.ref (ad r)) = pm_fd ad 2 (upd f 0 (nI r)) := by
  have e : pm_rv ad (upd f 0 (nI r) 0) = .ref (ad r) := pm_rv_nI h0 h31
  rw [← e]
  rfl
theorem pd_2_2 (ad : Nat → Nat) (f : Nat → Int32) (r : Nat) (h0 : 0 < r) (h31 : r < 2 ^ 31) : (pm_fd ad 2 f).set 2 (.ref (ad r)) = pm_fd ad 2 (upd f 2 (nI r)) := by
  have e : pm_rv ad (upd f 2 (nI r) 2) = .ref (ad r) := pm_rv_nI h0 h31
  rw [← e]
  rfl
theorem pd_2_1 (ad : Nat → Nat) (f : Nat → Int32) (x : Int32) : (pm_fd ad 2 f).set 1 (.int x) = pm_fd ad 2 (upd f 1 x) := rfl
theorem pd_2_3 (ad : Nat → Nat) (f : Nat → Int32) (x : Int32) : (pm_fd ad 2 f).set 3 (.int x) = pm_fd ad 2 (upd f 3 x) := rfl
theorem pd_2_4 (ad : Nat → Nat) (f : Nat → Int32) (x : Int32) : (pm_fd ad 2 f).set 4 (.int x) = pm_fd ad 2 (upd f 4 x) := rfl
theorem pd_2_5 (ad : Nat → Nat) (f : Nat → Int32) (x : Int32) : (pm_fd ad 2 f).set 5 (.int x) = pm_fd ad 2 (upd f 5 x) := rfl
theorem pd_2_6 (ad : Nat → Nat) (f : Nat → Int32) (x : Int32) : (pm_fd ad 2 f).set 6 (.int x) = pm_fd ad 2 (upd f 6 x) := rfl
theorem pd_2_7 (ad : Nat → Nat) (f : Nat → Int32) (x : Int32) : (pm_fd ad 2 f).set 7 (.int x) = pm_fd ad 2 (upd f 7 x) := rfl
theorem pd_2_8 (ad : Nat → Nat) (f : Nat → Int32) (x : Int32) : (pm_fd ad 2 f).set 8 (.int x) = pm_fd ad 2 (upd f 8 x) := rfl
theorem pd_2_9 (ad : Nat → Nat) (f : Nat → Int32) (x : Int32) : (pm_fd ad 2 f).set 9 (.int x) = pm_fd ad 2 (upd f 9 x) := rfl
theorem pf_2 (ad : Nat → Nat) (i : Nat) (hi : i < 10) : defaultValue (tyX2 i) = vp_V (pm_fd ad 2 (fun _ => 0)) i := by
  rcases (show i = 0 ∨ i = 1 ∨ i = 2 ∨ i = 3 ∨ i = 4 ∨ i = 5 ∨ i = 6 ∨ i = 7 ∨ i = 8 ∨ i = 9 by omega) with rfl | rfl | rfl | rfl | rfl | rfl | rfl | rfl | rfl | rfl <;> rfl
theorem pd_3_0 (ad : Nat → Nat) (f : Nat → Int32) (r : Nat) (h0 : 0 < r) (h31 : r < 2 ^ 31) : (pm_fd ad 3 f).set 0 (.ref (ad r)) = pm_fd ad 3 (upd f 0 (nI r)) := by
  have e : pm_rv ad (upd f 0 (nI r) 0) = .ref (ad r) := pm_rv_nI h0 h31
  rw [← e]
  rfl
theorem pd_3_2 (ad : Nat → Nat) (f : Nat → Int32) (r : Nat) (h0 : 0 < r) (h31 : r < 2 ^ 31) : (pm_fd ad 3 f).set 2 (.ref (ad r)) = pm_fd ad 3 (upd f 2 (nI r)) := by
  have e : pm_rv ad (upd f 2 (nI r) 2) = .ref (ad r) := pm_rv_nI h0 h31
  rw [← e]
  rfl
theorem pd_3_1 (ad : Nat → Nat) (f : Nat → Int32) (x : Int32) : (pm_fd ad 3 f).set 1 (.int x) = pm_fd ad 3 (upd f 1 x) := rfl
theorem pd_3_3 (ad : Nat → Nat) (f : Nat → Int32) (x : Int32) : (pm_fd ad 3 f).set 3 (.int x) = pm_fd ad 3 (upd f 3 x) := rfl
theorem pf_3 (ad : Nat → Nat) (i : Nat) (hi : i < 4) : defaultValue (tyX3 i) = vp_V (pm_fd ad 3 (fun _ => 0)) i := by
  rcases (show i = 0 ∨ i = 1 ∨ i = 2 ∨ i = 3 by omega) with rfl | rfl | rfl | rfl <;> rfl
theorem pd_4_13 (ad : Nat → Nat) (f : Nat → Int32) (r : Nat) (h0 : 0 < r) (h31 : r < 2 ^ 31) : (pm_fd ad 4 f).set 13 (.ref (ad r)) = pm_fd ad 4 (upd f 13 (nI r)) := by
  have e : pm_rv ad (upd f 13 (nI r) 13) = .ref (ad r) := pm_rv_nI h0 h31
  rw [← e]
  rfl
theorem pd_4_14 (ad : Nat → Nat) (f : Nat → Int32) (r : Nat) (h0 : 0 < r) (h31 : r < 2 ^ 31) : (pm_fd ad 4 f).set 14 (.ref (ad r)) = pm_fd ad 4 (upd f 14 (nI r)) := by
  have e : pm_rv ad (upd f 14 (nI r) 14) = .ref (ad r) := pm_rv_nI h0 h31
  rw [← e]
  rfl
theorem pd_4_15 (ad : Nat → Nat) (f : Nat → Int32) (r : Nat) (h0 : 0 < r) (h31 : r < 2 ^ 31) : (pm_fd ad 4 f).set 15 (.ref (ad r)) = pm_fd ad 4 (upd f 15 (nI r)) := by
  have e : pm_rv ad (upd f 15 (nI r) 15) = .ref (ad r) := pm_rv_nI h0 h31
  rw [← e]
  rfl
theorem pd_4_16 (ad : Nat → Nat) (f : Nat → Int32) (r : Nat) (h0 : 0 < r) (h31 : r < 2 ^ 31) : (pm_fd ad 4 f).set 16 (.ref (ad r)) = pm_fd ad 4 (upd f 16 (nI r)) := by
  have e : pm_rv ad (upd f 16 (nI r) 16) = .ref (ad r) := pm_rv_nI h0 h31
  rw [← e]
  rfl
theorem pd_4_0 (ad : Nat → Nat) (f : Nat → Int32) (x : Int32) : (pm_fd ad 4 f).set 0 (.int x) = pm_fd ad 4 (upd f 0 x) := rfl
theorem pd_4_1 (ad : Nat → Nat) (f : Nat → Int32) (x : Int32) : (pm_fd ad 4 f).set 1 (.int x) = pm_fd ad 4 (upd f 1 x) := rfl
theorem pd_4_2 (ad : Nat → Nat) (f : Nat → Int32) (x : Int32) : (pm_fd ad 4 f).set 2 (.int x) = pm_fd ad 4 (upd f 2 x) := rfl
theorem pd_4_3 (ad : Nat → Nat) (f : Nat → Int32) (x : Int32) : (pm_fd ad 4 f).set 3 (.int x) = pm_fd ad 4 (upd f 3 x) := rfl
theorem pd_4_4 (ad : Nat → Nat) (f : Nat → Int32) (x : Int32) : (pm_fd ad 4 f).set 4 (.int x) = pm_fd ad 4 (upd f 4 x) := rfl
theorem pd_4_5 (ad : Nat → Nat) (f : Nat → Int32) (x : Int32) : (pm_fd ad 4 f).set 5 (.int x) = pm_fd ad 4 (upd f 5 x) := rfl
theorem pd_4_6 (ad : Nat → Nat) (f : Nat → Int32) (x : Int32) : (pm_fd ad 4 f).set 6 (.int x) = pm_fd ad 4 (upd f 6 x) := rfl
theorem pd_4_7 (ad : Nat → Nat) (f : Nat → Int32) (x : Int32) : (pm_fd ad 4 f).set 7 (.int x) = pm_fd ad 4 (upd f 7 x) := rfl
theorem pd_4_8 (ad : Nat → Nat) (f : Nat → Int32) (x : Int32) : (pm_fd ad 4 f).set 8 (.int x) = pm_fd ad 4 (upd f 8 x) := rfl
theorem pd_4_9 (ad : Nat → Nat) (f : Nat → Int32) (x : Int32) : (pm_fd ad 4 f).set 9 (.int x) = pm_fd ad 4 (upd f 9 x) := rfl
theorem pd_4_10 (ad : Nat → Nat) (f : Nat → Int32) (x : Int32) : (pm_fd ad 4 f).set 10 (.int x) = pm_fd ad 4 (upd f 10 x) := rfl
theorem pd_4_11 (ad : Nat → Nat) (f : Nat → Int32) (x : Int32) : (pm_fd ad 4 f).set 11 (.int x) = pm_fd ad 4 (upd f 11 x) := rfl
theorem pd_4_12 (ad : Nat → Nat) (f : Nat → Int32) (x : Int32) : (pm_fd ad 4 f).set 12 (.int x) = pm_fd ad 4 (upd f 12 x) := rfl
theorem pf_4 (ad : Nat → Nat) (i : Nat) (hi : i < 17) : defaultValue (tyX4 i) = vp_V (pm_fd ad 4 (fun _ => 0)) i := by
  rcases (show i = 0 ∨ i = 1 ∨ i = 2 ∨ i = 3 ∨ i = 4 ∨ i = 5 ∨ i = 6 ∨ i = 7 ∨ i = 8 ∨ i = 9 ∨ i = 10 ∨ i = 11 ∨ i = 12 ∨ i = 13 ∨ i = 14 ∨ i = 15 ∨ i = 16 by omega) with rfl | rfl | rfl | rfl | rfl | rfl | rfl | rfl | rfl | rfl | rfl | rfl | rfl | rfl | rfl | rfl | rfl <;> rfl
theorem pd_5_1 (ad : Nat → Nat) (f : Nat → Int32) (r : Nat) (h0 : 0 < r) (h31 : r < 2 ^ 31) : (pm_fd ad 5 f).set 1 (.ref (ad r)) = pm_fd ad 5 (upd f 1 (nI r)) := by
  have e : pm_rv ad (upd f 1 (nI r) 1) = .ref (ad r) := pm_rv_nI h0 h31
  rw [← e]
  rfl
theorem pd_5_2 (ad : Nat → Nat) (f : Nat → Int32) (r : Nat) (h0 : 0 < r) (h31 : r < 2 ^ 31) : (pm_fd ad 5 f).set 2 (.ref (ad r)) = pm_fd ad 5 (upd f 2 (nI r)) := by
  have e : pm_rv ad (upd f 2 (nI r) 2) = .ref (ad r) := pm_rv_nI h0 h31
  rw [← e]
  rfl
theorem pd_5_3 (ad : Nat → Nat) (f : Nat → Int32) (r : Nat) (h0 : 0 < r) (h31 : r < 2 ^ 31) : (pm_fd ad 5 f).set 3 (.ref (ad r)) = pm_fd ad 5 (upd f 3 (nI r)) := by
  have e : pm_rv ad (upd f 3 (nI r) 3) = .ref (ad r) := pm_rv_nI h0 h31
  rw [← e]
  rfl
theorem pd_5_0 (ad : Nat → Nat) (f : Nat → Int32) (x : Int32) : (pm_fd ad 5 f).set 0 (.int x) = pm_fd ad 5 (upd f 0 x) := rfl
theorem pf_5 (ad : Nat → Nat) (i : Nat) (hi : i < 4) : defaultValue (tyX5 i) = vp_V (pm_fd ad 5 (fun _ => 0)) i := by
  rcases (show i = 0 ∨ i = 1 ∨ i = 2 ∨ i = 3 by omega) with rfl | rfl | rfl | rfl <;> rfl
theorem pd_6_0 (ad : Nat → Nat) (f : Nat → Int32) (r : Nat) (h0 : 0 < r) (h31 : r < 2 ^ 31) : (pm_fd ad 6 f).set 0 (.ref (ad r)) = pm_fd ad 6 (upd f 0 (nI r)) := by
  have e : pm_rv ad (upd f 0 (nI r) 0) = .ref (ad r) := pm_rv_nI h0 h31
  rw [← e]
  rfl
theorem pd_6_3 (ad : Nat → Nat) (f : Nat → Int32) (r : Nat) (h0 : 0 < r) (h31 : r < 2 ^ 31) : (pm_fd ad 6 f).set 3 (.ref (ad r)) = pm_fd ad 6 (upd f 3 (nI r)) := by
  have e : pm_rv ad (upd f 3 (nI r) 3) = .ref (ad r) := pm_rv_nI h0 h31
  rw [← e]
  rfl
theorem pd_6_4 (ad : Nat → Nat) (f : Nat → Int32) (r : Nat) (h0 : 0 < r) (h31 : r < 2 ^ 31) : (pm_fd ad 6 f).set 4 (.ref (ad r)) = pm_fd ad 6 (upd f 4 (nI r)) := by
  have e : pm_rv ad (upd f 4 (nI r) 4) = .ref (ad r) := pm_rv_nI h0 h31
  rw [← e]
  rfl
theorem pd_6_5 (ad : Nat → Nat) (f : Nat → Int32) (r : Nat) (h0 : 0 < r) (h31 : r < 2 ^ 31) : (pm_fd ad 6 f).set 5 (.ref (ad r)) = pm_fd ad 6 (upd f 5 (nI r)) := by
  have e : pm_rv ad (upd f 5 (nI r) 5) = .ref (ad r) := pm_rv_nI h0 h31
  rw [← e]
  rfl
theorem pd_6_6 (ad : Nat → Nat) (f : Nat → Int32) (r : Nat) (h0 : 0 < r) (h31 : r < 2 ^ 31) : (pm_fd ad 6 f).set 6 (.ref (ad r)) = pm_fd ad 6 (upd f 6 (nI r)) := by
  have e : pm_rv ad (upd f 6 (nI r) 6) = .ref (ad r) := pm_rv_nI h0 h31
  rw [← e]
  rfl
theorem pd_6_7 (ad : Nat → Nat) (f : Nat → Int32) (r : Nat) (h0 : 0 < r) (h31 : r < 2 ^ 31) : (pm_fd ad 6 f).set 7 (.ref (ad r)) = pm_fd ad 6 (upd f 7 (nI r)) := by
  have e : pm_rv ad (upd f 7 (nI r) 7) = .ref (ad r) := pm_rv_nI h0 h31
  rw [← e]
  rfl
theorem pd_6_8 (ad : Nat → Nat) (f : Nat → Int32) (r : Nat) (h0 : 0 < r) (h31 : r < 2 ^ 31) : (pm_fd ad 6 f).set 8 (.ref (ad r)) = pm_fd ad 6 (upd f 8 (nI r)) := by
  have e : pm_rv ad (upd f 8 (nI r) 8) = .ref (ad r) := pm_rv_nI h0 h31
  rw [← e]
  rfl
theorem pd_6_9 (ad : Nat → Nat) (f : Nat → Int32) (r : Nat) (h0 : 0 < r) (h31 : r < 2 ^ 31) : (pm_fd ad 6 f).set 9 (.ref (ad r)) = pm_fd ad 6 (upd f 9 (nI r)) := by
  have e : pm_rv ad (upd f 9 (nI r) 9) = .ref (ad r) := pm_rv_nI h0 h31
  rw [← e]
  rfl
theorem pd_6_1 (ad : Nat → Nat) (f : Nat → Int32) (x : Int32) : (pm_fd ad 6 f).set 1 (.int x) = pm_fd ad 6 (upd f 1 x) := rfl
theorem pd_6_2 (ad : Nat → Nat) (f : Nat → Int32) (x : Int32) : (pm_fd ad 6 f).set 2 (.int x) = pm_fd ad 6 (upd f 2 x) := rfl
theorem pf_6 (ad : Nat → Nat) (i : Nat) (hi : i < 10) : defaultValue (tyX6 i) = vp_V (pm_fd ad 6 (fun _ => 0)) i := by
  rcases (show i = 0 ∨ i = 1 ∨ i = 2 ∨ i = 3 ∨ i = 4 ∨ i = 5 ∨ i = 6 ∨ i = 7 ∨ i = 8 ∨ i = 9 by omega) with rfl | rfl | rfl | rfl | rfl | rfl | rfl | rfl | rfl | rfl <;> rfl
theorem pd_7_1 (ad : Nat → Nat) (f : Nat → Int32) (r : Nat) (h0 : 0 < r) (h31 : r < 2 ^ 31) : (pm_fd ad 7 f).set 1 (.ref (ad r)) = pm_fd ad 7 (upd f 1 (nI r)) := by
  have e : pm_rv ad (upd f 1 (nI r) 1) = .ref (ad r) := pm_rv_nI h0 h31
  rw [← e]
  rfl
theorem pd_7_2 (ad : Nat → Nat) (f : Nat → Int32) (r : Nat) (h0 : 0 < r) (h31 : r < 2 ^ 31) : (pm_fd ad 7 f).set 2 (.ref (ad r)) = pm_fd ad 7 (upd f 2 (nI r)) := by
  have e : pm_rv ad (upd f 2 (nI r) 2) = .ref (ad r) := pm_rv_nI h0 h31
  rw [← e]
  rfl
theorem pd_7_3 (ad : Nat → Nat) (f : Nat → Int32) (r : Nat) (h0 : 0 < r) (h31 : r < 2 ^ 31) : (pm_fd ad 7 f).set 3 (.ref (ad r)) = pm_fd ad 7 (upd f 3 (nI r)) := by
  have e : pm_rv ad (upd f 3 (nI r) 3) = .ref (ad r) := pm_rv_nI h0 h31
  rw [← e]
  rfl
theorem pd_7_4 (ad : Nat → Nat) (f : Nat → Int32) (r : Nat) (h0 : 0 < r) (h31 : r < 2 ^ 31) : (pm_fd ad 7 f).set 4 (.ref (ad r)) = pm_fd ad 7 (upd f 4 (nI r)) := by
  have e : pm_rv ad (upd f 4 (nI r) 4) = .ref (ad r) := pm_rv_nI h0 h31
  rw [← e]
  rfl
theorem pd_7_5 (ad : Nat → Nat) (f : Nat → Int32) (r : Nat) (h0 : 0 < r) (h31 : r < 2 ^ 31) : (pm_fd ad 7 f).set 5 (.ref (ad r)) = pm_fd ad 7 (upd f 5 (nI r)) := by
  have e : pm_rv ad (upd f 5 (nI r) 5) = .ref (ad r) := pm_rv_nI h0 h31
  rw [← e]
  rfl
theorem pd_7_6 (ad : Nat → Nat) (f : Nat → Int32) (r : Nat) (h0 : 0 < r) (h31 : r < 2 ^ 31) : (pm_fd ad 7 f).set 6 (.ref (ad r)) = pm_fd ad 7 (upd f 6 (nI r)) := by
  have e : pm_rv ad (upd f 6 (nI r) 6) = .ref (ad r) := pm_rv_nI h0 h31
  rw [← e]
  rfl
theorem pd_7_7 (ad : Nat → Nat) (f : Nat → Int32) (r : Nat) (h0 : 0 < r) (h31 : r < 2 ^ 31) : (pm_fd ad 7 f).set 7 (.ref (ad r)) = pm_fd ad 7 (upd f 7 (nI r)) := by
  have e : pm_rv ad (upd f 7 (nI r) 7) = .ref (ad r) := pm_rv_nI h0 h31
  rw [← e]
  rfl
theorem pd_7_8 (ad : Nat → Nat) (f : Nat → Int32) (r : Nat) (h0 : 0 < r) (h31 : r < 2 ^ 31) : (pm_fd ad 7 f).set 8 (.ref (ad r)) = pm_fd ad 7 (upd f 8 (nI r)) := by
  have e : pm_rv ad (upd f 8 (nI r) 8) = .ref (ad r) := pm_rv_nI h0 h31
  rw [← e]
  rfl
theorem pd_7_9 (ad : Nat → Nat) (f : Nat → Int32) (r : Nat) (h0 : 0 < r) (h31 : r < 2 ^ 31) : (pm_fd ad 7 f).set 9 (.ref (ad r)) = pm_fd ad 7 (upd f 9 (nI r)) := by
  have e : pm_rv ad (upd f 9 (nI r) 9) = .ref (ad r) := pm_rv_nI h0 h31
  rw [← e]
  rfl
theorem pd_7_23 (ad : Nat → Nat) (f : Nat → Int32) (r : Nat) (h0 : 0 < r) (h31 : r < 2 ^ 31) : (pm_fd ad 7 f).set 23 (.ref (ad r)) = pm_fd ad 7 (upd f 23 (nI r)) := by
  have e : pm_rv ad (upd f 23 (nI r) 23) = .ref (ad r) := pm_rv_nI h0 h31
  rw [← e]
  rfl
theorem pd_7_24 (ad : Nat → Nat) (f : Nat → Int32) (r : Nat) (h0 : 0 < r) (h31 : r < 2 ^ 31) : (pm_fd ad 7 f).set 24 (.ref (ad r)) = pm_fd ad 7 (upd f 24 (nI r)) := by
  have e : pm_rv ad (upd f 24 (nI r) 24) = .ref (ad r) := pm_rv_nI h0 h31
  rw [← e]
  rfl
theorem pd_7_25 (ad : Nat → Nat) (f : Nat → Int32) (r : Nat) (h0 : 0 < r) (h31 : r < 2 ^ 31) : (pm_fd ad 7 f).set 25 (.ref (ad r)) = pm_fd ad 7 (upd f 25 (nI r)) := by
  have e : pm_rv ad (upd f 25 (nI r) 25) = .ref (ad r) := pm_rv_nI h0 h31
  rw [← e]
  rfl
theorem pd_7_27 (ad : Nat → Nat) (f : Nat → Int32) (r : Nat) (h0 : 0 < r) (h31 : r < 2 ^ 31) : (pm_fd ad 7 f).set 27 (.ref (ad r)) = pm_fd ad 7 (upd f 27 (nI r)) := by
  have e : pm_rv ad (upd f 27 (nI r) 27) = .ref (ad r) := pm_rv_nI h0 h31
  rw [← e]
  rfl
theorem pd_7_28 (ad : Nat → Nat) (f : Nat → Int32) (r : Nat) (h0 : 0 < r) (h31 : r < 2 ^ 31) : (pm_fd ad 7 f).set 28 (.ref (ad r)) = pm_fd ad 7 (upd f 28 (nI r)) := by
  have e : pm_rv ad (upd f 28 (nI r) 28) = .ref (ad r) := pm_rv_nI h0 h31
  rw [← e]
  rfl
theorem pd_7_29 (ad : Nat → Nat) (f : Nat → Int32) (r : Nat) (h0 : 0 < r) (h31 : r < 2 ^ 31) : (pm_fd ad 7 f).set 29 (.ref (ad r)) = pm_fd ad 7 (upd f 29 (nI r)) := by
  have e : pm_rv ad (upd f 29 (nI r) 29) = .ref (ad r) := pm_rv_nI h0 h31
  rw [← e]
  rfl
theorem pd_7_0 (ad : Nat → Nat) (f : Nat → Int32) (x : Int32) : (pm_fd ad 7 f).set 0 (.int x) = pm_fd ad 7 (upd f 0 x) := rfl
theorem pd_7_10 (ad : Nat → Nat) (f : Nat → Int32) (x : Int32) : (pm_fd ad 7 f).set 10 (.int x) = pm_fd ad 7 (upd f 10 x) := rfl
theorem pd_7_11 (ad : Nat → Nat) (f : Nat → Int32) (x : Int32) : (pm_fd ad 7 f).set 11 (.int x) = pm_fd ad 7 (upd f 11 x) := rfl
theorem pd_7_12 (ad : Nat → Nat) (f : Nat → Int32) (x : Int32) : (pm_fd ad 7 f).set 12 (.int x) = pm_fd ad 7 (upd f 12 x) := rfl
theorem pd_7_13 (ad : Nat → Nat) (f : Nat → Int32) (x : Int32) : (pm_fd ad 7 f).set 13 (.int x) = pm_fd ad 7 (upd f 13 x) := rfl
theorem pd_7_14 (ad : Nat → Nat) (f : Nat → Int32) (x : Int32) : (pm_fd ad 7 f).set 14 (.int x) = pm_fd ad 7 (upd f 14 x) := rfl
theorem pd_7_15 (ad : Nat → Nat) (f : Nat → Int32) (x : Int32) : (pm_fd ad 7 f).set 15 (.int x) = pm_fd ad 7 (upd f 15 x) := rfl
theorem pd_7_16 (ad : Nat → Nat) (f : Nat → Int32) (x : Int32) : (pm_fd ad 7 f).set 16 (.int x) = pm_fd ad 7 (upd f 16 x) := rfl
theorem pd_7_17 (ad : Nat → Nat) (f : Nat → Int32) (x : Int32) : (pm_fd ad 7 f).set 17 (.int x) = pm_fd ad 7 (upd f 17 x) := rfl
theorem pd_7_18 (ad : Nat → Nat) (f : Nat → Int32) (x : Int32) : (pm_fd ad 7 f).set 18 (.int x) = pm_fd ad 7 (upd f 18 x) := rfl
theorem pd_7_19 (ad : Nat → Nat) (f : Nat → Int32) (x : Int32) : (pm_fd ad 7 f).set 19 (.int x) = pm_fd ad 7 (upd f 19 x) := rfl
theorem pd_7_20 (ad : Nat → Nat) (f : Nat → Int32) (x : Int32) : (pm_fd ad 7 f).set 20 (.int x) = pm_fd ad 7 (upd f 20 x) := rfl
theorem pd_7_21 (ad : Nat → Nat) (f : Nat → Int32) (x : Int32) : (pm_fd ad 7 f).set 21 (.int x) = pm_fd ad 7 (upd f 21 x) := rfl
theorem pd_7_22 (ad : Nat → Nat) (f : Nat → Int32) (x : Int32) : (pm_fd ad 7 f).set 22 (.int x) = pm_fd ad 7 (upd f 22 x) := rfl
theorem pd_7_26 (ad : Nat → Nat) (f : Nat → Int32) (x : Int32) : (pm_fd ad 7 f).set 26 (.int x) = pm_fd ad 7 (upd f 26 x) := rfl
theorem pf_7 (ad : Nat → Nat) (i : Nat) (hi : i < 30) : defaultValue (tyX7 i) = vp_V (pm_fd ad 7 (fun _ => 0)) i := by
  rcases (show i = 0 ∨ i = 1 ∨ i = 2 ∨ i = 3 ∨ i = 4 ∨ i = 5 ∨ i = 6 ∨ i = 7 ∨ i = 8 ∨ i = 9 ∨ i = 10 ∨ i = 11 ∨ i = 12 ∨ i = 13 ∨ i = 14 ∨ i = 15 ∨ i = 16 ∨ i = 17 ∨ i = 18 ∨ i = 19 ∨ i = 20 ∨ i = 21 ∨ i = 22 ∨ i = 23 ∨ i = 24 ∨ i = 25 ∨ i = 26 ∨ i = 27 ∨ i = 28 ∨ i = 29 by omega) with rfl | rfl | rfl | rfl | rfl | rfl | rfl | rfl | rfl | rfl | rfl | rfl | rfl | rfl | rfl | rfl | rfl | rfl | rfl | rfl | rfl | rfl | rfl | rfl | rfl | rfl | rfl | rfl | rfl | rfl <;> rfl
