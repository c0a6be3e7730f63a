/-! ===== clear of a plan, as a function ===== -/
/-- a loop that counts from 0 to n -/
theorem pm_for {B : (Int32 → pm_I → Prop) → Int32 → pm_I → Prop} (n : Nat) (F : Nat → pm_I) (hend : ∀ P, B P (nI n) (F n)) (hstep : ∀ P i, i < n → P (nI (i + 1)) (F (i + 1)) → B P (nI i) (F i)) : pm_lp2 B (nI 0) (F 0) := by
  intro P hP
  have key : ∀ k i, i + k = n → P (nI i) (F i) := by
    intro k
    induction k with
    | zero =>
      intro i hi
      have : i = n := by omega
      subst this
      exact hP _ _ (hend P)
    | succ k ih =>
      intro i hi
      exact hP _ _ (hstep P i (by omega) (ih (i + 1) (by omega)))
  exact key n 0 (by omega)
def pm_fill (I : pm_I) (r n : Nat) (x : Int32) : pm_I := fun s => if s = r then (fun j => if j < n then x else I s j) else I s
theorem pm_fill_0 (I : pm_I) (r : Nat) (x : Int32) : pm_fill I r 0 x = I := by
  funext s
  unfold pm_fill
  by_cases h : s = r
  · rw [if_pos h]; funext j; rw [if_neg (by omega)]
  · rw [if_neg h]
theorem pm_fill_s (I : pm_I) (r i : Nat) (x : Int32) : pm_up (pm_fill I r i x) r i x = pm_fill I r (i + 1) x := by
  funext s
  unfold pm_up pm_fill
  by_cases h : s = r
  · subst h
    rw [if_pos rfl, if_pos rfl, if_pos rfl]
    funext j
    unfold upd
    by_cases hj : j = i
    · rw [if_pos hj, if_pos (by omega)]
    · rw [if_neg hj]
      show (if j < i then x else I s j) = _
      by_cases hl : j < i
      · rw [if_pos hl, if_pos (by omega)]
      · rw [if_neg hl, if_neg (by omega)]
  · rw [if_neg h, if_neg h, if_neg h]
/-- one item more, in a score of k items -/
def pm_it (I : pm_I) (s k : Nat) (x : Int32) : pm_I := pm_up (pm_up I (s + 1) k x) s 1 (nI (k + 1))
theorem pm_it_n (I : pm_I) (s k : Nat) (x : Int32) : pm_it I s k x s 1 = nI (k + 1) := by simp [pm_it, pm_up, upd]
theorem u_X3_put {G : pm_G} {s k : Nat} {x : Int32} {I : pm_I} {K : pm_I → Prop} (hk : k < 600) (hn : I s 1 = nI k) (h : K (pm_it I s k x)) : wX3_put G s x I K := by
  unfold wX3_put
  rw [hn]
  refine ⟨fun hc => absurd hc (nI_ge (a := k) (b := 600) hk (by decide)), fun _ => ⟨vp_in_nI hk (by decide), ?_⟩⟩
  intro I10 h10 I11 h11
  have e : I10 s 1 = nI k := by subst h10; simp [pm_up, hn]
  rw [e, nI_1] at h11
  rw [nI_clamp (by omega)] at h10
  subst h11; subst h10
  exact h
def pm_dft (I : pm_I) (s : Nat) : pm_I := pm_it (pm_it (pm_it (pm_it (pm_it (pm_it (pm_it (pm_up I s 1 0) s 0 (-1)) s 1 (-2)) s 2 (-6)) s 3 (-3)) s 4 10) s 5 (-8)) s 6 (-6)
theorem u_X3_useDefault {G : pm_G} {s : Nat} {I : pm_I} {K : pm_I → Prop} (h : K (pm_dft I s)) : wX3_useDefault G s I K := by
  unfold wX3_useDefault wX3_clear
  intro I10 h10
  subst h10
  refine u_X3_put (k := 0) (by omega) (by simp [pm_up, upd]; rfl) ?_
  refine u_X3_put (k := 1) (by omega) (pm_it_n _ _ _ _) ?_
  refine u_X3_put (k := 2) (by omega) (pm_it_n _ _ _ _) ?_
  refine u_X3_put (k := 3) (by omega) (pm_it_n _ _ _ _) ?_
  refine u_X3_put (k := 4) (by omega) (pm_it_n _ _ _ _) ?_
  refine u_X3_put (k := 5) (by omega) (pm_it_n _ _ _ _) ?_
  refine u_X3_put (k := 6) (by omega) (pm_it_n _ _ _ _) ?_
  exact h
def pm_clr (I : pm_I) (q : Nat) : pm_I := pm_up (pm_up (pm_up (pm_dft (pm_fill (pm_fill (pm_up I q 0 0) (q + 3) 64 0) (q + 4) 8 0) (q + 5)) q 6 3) q 7 2) q 8 10
theorem u_X1_clear {G : pm_G} {q : Nat} {I : pm_I} {K : pm_I → Prop} (h : K (pm_clr I q)) : wX1_clear G q I K := by
  unfold wX1_clear
  intro I10 h10
  subst h10
  have e0 := pm_fill_0 (pm_up I q 0 0) (q + 3) 0
  rw [← e0]
  refine pm_for 64 (fun i => pm_fill (pm_up I q 0 0) (q + 3) i 0) (fun P => ?_) (fun P i hi hP => ?_)
  · refine ⟨fun _ => ?_, fun hc => absurd (by decide) hc⟩
    have e1 := pm_fill_0 (pm_fill (pm_up I q 0 0) (q + 3) 64 0) (q + 4) 0
    show pm_lp2 _ _ (pm_fill (pm_up I q 0 0) (q + 3) 64 0)
    rw [← e1]
    refine pm_for 8 (fun i => pm_fill (pm_fill (pm_up I q 0 0) (q + 3) 64 0) (q + 4) i 0) (fun P => ?_) (fun P i hi hP => ?_)
    · refine ⟨fun _ => ?_, fun hc => absurd (by decide) hc⟩
      refine u_X3_useDefault ?_
      intro I18 h18 I19 h19 I20 h20
      subst h20; subst h19; subst h18
      exact h
    · refine ⟨fun hc => absurd hc (nI_ge (a := i) (b := 8) hi (by decide)), fun _ => ⟨vp_in_nI hi (by decide), ?_⟩⟩
      intro I21 h21
      rw [nI_clamp (by omega)] at h21
      have := pm_fill_s (pm_fill (pm_up I q 0 0) (q + 3) 64 0) (q + 4) i 0
      rw [nI_1]
      rw [h21]
      show P _ (pm_up (pm_fill (pm_fill (pm_up I q 0 0) (q + 3) 64 0) (q + 4) i 0) (q + 4) i 0)
      rw [this]
      exact hP
  · refine ⟨fun hc => absurd hc (nI_ge (a := i) (b := 64) hi (by decide)), fun _ => ⟨vp_in_nI hi (by decide), ?_⟩⟩
    intro I22 h22
    rw [nI_clamp (by omega)] at h22
    have := pm_fill_s (pm_up I q 0 0) (q + 3) i 0
    rw [nI_1, h22]
    show P _ (pm_up (pm_fill (pm_up I q 0 0) (q + 3) i 0) (q + 3) i 0)
    rw [this]
    exact hP
/-- each row of what clear leaves comes of that row alone -/
theorem pm_up_loc {I J : pm_I} {r k s : Nat} {x : Int32} (h : I s = J s) : pm_up I r k x s = pm_up J r k x s := by
  unfold pm_up
  by_cases e : s = r
  · subst e; rw [if_pos rfl, if_pos rfl, h]
  · rw [if_neg e, if_neg e, h]
theorem pm_fill_loc {I J : pm_I} {r n s : Nat} {x : Int32} (h : I s = J s) : pm_fill I r n x s = pm_fill J r n x s := by
  unfold pm_fill
  rw [h]
theorem pm_it_loc {I J : pm_I} {r k s : Nat} {x : Int32} (h : I s = J s) : pm_it I r k x s = pm_it J r k x s := pm_up_loc (pm_up_loc h)
theorem pm_clr_row {I J : pm_I} {p r : Nat} (h : I r = J r) : pm_clr I p r = pm_clr J p r :=
  pm_up_loc (pm_up_loc (pm_up_loc (pm_it_loc (pm_it_loc (pm_it_loc (pm_it_loc (pm_it_loc (pm_it_loc (pm_it_loc (pm_up_loc (pm_fill_loc (pm_fill_loc (pm_up_loc h)))))))))))))
theorem pm_clr_out {I : pm_I} {p r : Nat} (h : ¬ (p ≤ r ∧ r < p + 8)) : pm_clr I p r = I r := by
  have a0 : r ≠ p := by omega
  have a3 : r ≠ p + 3 := by omega
  have a4 : r ≠ p + 4 := by omega
  have a5 : r ≠ p + 5 := by omega
  have a6 : r ≠ p + 5 + 1 := by omega
  simp [pm_clr, pm_dft, pm_it, pm_up, pm_fill, a0, a3, a4, a5, a6]
def pm_00 : pm_I := fun _ _ => 0
theorem pm_clr_zb {I : pm_I} {p r : Nat} : pm_clr (pm_zb I p 8) p r = if p ≤ r ∧ r < p + 8 then pm_clr pm_00 p r else I r := by
  by_cases h : p ≤ r ∧ r < p + 8
  · rw [if_pos h]
    exact pm_clr_row (by unfold pm_zb pm_00; rw [if_pos h])
  · rw [if_neg h, pm_clr_out h]
    unfold pm_zb
    rw [if_neg h]
