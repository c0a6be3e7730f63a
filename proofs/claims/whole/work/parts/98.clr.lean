/-! ===== THE PARSER: the empty draft ===== -/
def ab_D0 : aP := (fun k => if k = 6 then 3 else if k = 7 then 2 else if k = 8 then 10 else 0, fun _ => 0, fun _ => 0, fun _ => 0, fun _ => 0, [-1, -2, -6, -3, 10, -8, -6])
theorem ok_D0 : ok_P ab_D0 := by
  refine ⟨⟨by decide, by decide⟩, ⟨by decide, by decide, by decide⟩, fun k hk => (by decide : (0 : Int) ≤ (0 : Int32).toInt), fun a b _ _ => rfl, fun a ha => ⟨0, by decide, rfl, fun k h1 h2 => ?_⟩, ⟨?_, by decide⟩, by decide⟩
  · have : ∀ k, k < 8 → ab_bit 0 (nI k) = false := by decide
    exact this k h2
  · have : ∀ k, k < 7 → (if ab_isop (([-1, -2, -6, -3, 10, -8, -6] : List Int32).getD k 0) = true then 2 ≤ ab_ht [-1, -2, -6, -3, 10, -8, -6] k else ab_ht [-1, -2, -6, -3, 10, -8, -6] k < 16) ∧ (ab_isop (([-1, -2, -6, -3, 10, -8, -6] : List Int32).getD k 0) = true ∨ (-5 ≤ (([-1, -2, -6, -3, 10, -8, -6] : List Int32).getD k 0).toInt ∧ (([-1, -2, -6, -3, 10, -8, -6] : List Int32).getD k 0).toInt ≤ 9999)) := by decide
    exact this
theorem np_D0 : ab_np ab_D0 = 0 := by decide
theorem cl_D0 (I : pm_I) (d : Nat) : cl_P (pm_clr I d) d ab_D0 := by
  have z1 : ¬ d = d + 5 + 1 := by omega
  have z2 : ¬ d + 5 + 1 = d := by omega
  refine ⟨⟨?_, ?_, ?_, ?_⟩, fun k hk => absurd hk (by rw [np_D0]; exact Nat.not_lt_zero k), fun k hk => ?_, fun k hk => ?_, ?_, fun k hk => ?_⟩
  · simp [pm_clr, pm_dft, pm_it, pm_up, pm_fill, upd, ab_D0, z1, z2]
  · simp [pm_clr, pm_dft, pm_it, pm_up, pm_fill, upd, ab_D0, z1, z2]
  · simp [pm_clr, pm_dft, pm_it, pm_up, pm_fill, upd, ab_D0, z1, z2]
  · simp [pm_clr, pm_dft, pm_it, pm_up, pm_fill, upd, ab_D0, z1, z2]
  · simp [pm_clr, pm_dft, pm_it, pm_up, pm_fill, upd, ab_D0, hk, z1, z2]
  · simp [pm_clr, pm_dft, pm_it, pm_up, pm_fill, upd, ab_D0, hk, z1, z2]
  · simp [pm_clr, pm_dft, pm_it, pm_up, pm_fill, upd, ab_D0, z1, z2]
  · have hk' : k < 7 := hk
    have : k = 0 ∨ k = 1 ∨ k = 2 ∨ k = 3 ∨ k = 4 ∨ k = 5 ∨ k = 6 := by omega
    rcases this with e | e | e | e | e | e | e <;> subst e <;> simp [pm_clr, pm_dft, pm_it, pm_up, pm_fill, upd, ab_D0, z1, z2]
section RC
variable {G : pm_G} {q : Nat}
theorem rd_emit {J : pm_I} {K : Int32 → pm_I → Prop} {is : List Int32} {x y : Int32} (hl : is.length < 620) (h5 : J (q + 7) 1 = nI is.length) (h6 : ∀ k, k < is.length → J (q + 8) (620 + k) = rf_en (is.getD k 0)) (hy : y = rf_en x) (hk : ∀ L : pm_I, L (q + 7) 1 = nI (is ++ [x]).length → (∀ k, k < (is ++ [x]).length → L (q + 8) (620 + k) = rf_en ((is ++ [x]).getD k 0)) → (∀ r, r ≠ q + 7 → r ≠ q + 8 → L r = J r) → rp_fr q J L → K 1 L) : wX7_emit G q y J K := by
  unfold wX7_emit
  rw [rf_c1, h5, show (620 : Int32) + nI is.length = nI (620 + is.length) from nI_add 620 _, nI_clamp (by omega)]
  refine ⟨vp_in_nI (by omega) (by decide), fun I1 q1 I2 q2 => ?_⟩
  have a1 : I1 (q + 7) 1 = nI is.length := by rw [q1, ob_ur (by omega)]; exact h5
  rw [a1, nI_1] at q2
  have or' : ∀ r, r ≠ q + 7 → r ≠ q + 8 → I2 r = J r := fun r h1 h2 => by rw [q2, ob_ur h1, q1, ob_ur h2]
  refine hk I2 ?_ (fun k hk' => ?_) or' ?_
  · rw [q2, ob_us, List.length_append]; rfl
  · have hk'' : k < is.length + 1 := by rw [List.length_append] at hk'; exact hk'
    rw [ob_gapp hk'', q2, ob_ur (by omega), q1]
    by_cases ek : k = is.length
    · rw [if_pos ek, ek, ob_us, hy]
    · rw [if_neg ek, ob_uq (by omega)]; exact h6 k (by omega)
  · rw [q2, q1]
    exact (rp_fr.rf.w (Or.inr (Or.inr (Or.inr (Or.inr (Or.inr (Or.inr ⟨rfl, by omega⟩))))))).w (Or.inr (Or.inr (Or.inr (Or.inr (Or.inr (Or.inl ⟨rfl, by omega⟩))))))
theorem rp_clear {J : pm_I} {K : pm_I → Prop} (hk : ∀ L, rp_D L q ab_D0 → L q = J q → L (q + 9) = J (q + 9) → rp_fr q J L → K L) : wX7_clearDraft G q J K := by
  unfold wX7_clearDraft
  intro I1 e1 I2 e2 I3 e3 I4 e4
  rw [show (4 : Int32).toNatClampNeg = 4 from by decide] at e1
  rw [show (5 : Int32).toNatClampNeg = 5 from by decide] at e2
  rw [show (6 : Int32).toNatClampNeg = 6 from by decide] at e3
  rw [show (7 : Int32).toNatClampNeg = 7 from by decide] at e4
  have f4 : rp_fr q J I4 := by
    rw [e4, e3, e2, e1]
    exact (((rp_fr.rf.w (Or.inl ⟨rfl, by omega⟩)).w (Or.inl ⟨rfl, by omega⟩)).w (Or.inl ⟨rfl, by omega⟩)).w (Or.inl ⟨rfl, by omega⟩)
  have r4 : ∀ r, r ≠ q + 2 → I4 r = J r := fun r hr => by rw [e4, ob_ur hr, e3, ob_ur hr, e2, ob_ur hr, e1, ob_ur hr]
  have p1 : I4 (q + 2) 4 = 0 ∧ I4 (q + 2) 5 = 3 ∧ I4 (q + 2) 6 = 2 ∧ I4 (q + 2) 7 = 10 := by
    rw [e4, e3, e2, e1]
    simp [ob_up]
  refine ob_lp2 (fun i x L => x = nI i ∧ (∀ r, r ≠ q + 5 → L r = I4 r) ∧ (∀ k, k < i → L (q + 5) (64 + k) = 0) ∧ rp_fr q J L) 64 ⟨rfl, fun _ _ => rfl, fun k hk => absurd hk (Nat.not_lt_zero k), f4⟩ ?_
  intro P i x L hi hI hP
  obtain ⟨hx, lr, l5, lf⟩ := hI
  subst hx
  refine ⟨fun hc => ?_, fun hc => ?_⟩
  · have e := (ob_to (n := 64) (by decide) hi).1 hc
    subst e
    clear hP
    refine ob_lp2 (fun i x M => x = nI i ∧ (∀ r, r ≠ q + 6 → M r = L r) ∧ (∀ k, k < i → M (q + 6) (8 + k) = 0) ∧ rp_fr q J M) 8 ⟨rfl, fun _ _ => rfl, fun k hk => absurd hk (Nat.not_lt_zero k), lf⟩ ?_
    intro P i x M hi hI hP
    obtain ⟨hx, mr, m6, mf⟩ := hI
    subst hx
    refine ⟨fun hc => ?_, fun hc => ?_⟩
    · have e := (ob_to (n := 8) (by decide) hi).1 hc
      subst e
      clear hP
      intro N qN
      rw [show (1 : Int32).toNatClampNeg = 1 from by decide] at qN
      have nf : rp_fr q J N := by rw [qN]; exact mf.w (Or.inr (Or.inr (Or.inr (Or.inr (Or.inr (Or.inl ⟨rfl, by omega⟩))))))
      have nr : ∀ r, r ≠ q + 7 → N r = M r := fun r hr => by rw [qN, ob_ur hr]
      refine rd_emit (is := []) (x := -1) (by decide) (by rw [qN, ob_us]; rfl) (fun k hk => absurd hk (Nat.not_lt_zero k)) (by decide) (fun L1 a1 b1 c1 d1 => ?_)
      refine rd_emit (is := [-1]) (x := -2) (by decide) a1 b1 (by decide) (fun L2 a2 b2 c2 d2 => ?_)
      refine rd_emit (is := [-1, -2]) (x := -6) (by decide) a2 b2 (by decide) (fun L3 a3 b3 c3 d3 => ?_)
      refine rd_emit (is := [-1, -2, -6]) (x := -3) (by decide) a3 b3 (by decide) (fun L4 a4 b4 c4 d4 => ?_)
      refine rd_emit (is := [-1, -2, -6, -3]) (x := 10) (by decide) a4 b4 (by decide) (fun L5 a5 b5 c5 d5 => ?_)
      refine rd_emit (is := [-1, -2, -6, -3, 10]) (x := -8) (by decide) a5 b5 (by decide) (fun L6 a6 b6 c6 d6 => ?_)
      refine rd_emit (is := [-1, -2, -6, -3, 10, -8]) (x := -6) (by decide) a6 b6 (by decide) (fun L7 a7 b7 c7 d7 => ?_)
      have c : ∀ r, r ≠ q + 7 → r ≠ q + 8 → L7 r = M r := fun r h1 h2 => by rw [c7 r h1 h2, c6 r h1 h2, c5 r h1 h2, c4 r h1 h2, c3 r h1 h2, c2 r h1 h2, c1 r h1 h2, nr r h1]
      refine hk L7 ⟨?_, fun k hk => absurd hk (by rw [np_D0]; exact Nat.not_lt_zero k), fun k hk => ?_, fun k hk => ?_, a7, b7⟩ ?_ ?_ (((((((nf.tr d1).tr d2).tr d3).tr d4).tr d5).tr d6).tr d7)
      · rw [c (q + 2) (by omega) (by omega), mr (q + 2) (by omega), lr (q + 2) (by omega)]; exact p1
      · rw [c (q + 5) (by omega) (by omega), mr (q + 5) (by omega)]; exact l5 k hk
      · rw [c (q + 6) (by omega) (by omega)]; exact m6 k hk
      · rw [c q (by omega) (by omega), mr q (by omega), lr q (by omega), r4 q (by omega)]
      · rw [c (q + 9) (by omega) (by omega), mr (q + 9) (by omega), lr (q + 9) (by omega), r4 (q + 9) (by omega)]
    · have hl := (ob_to (n := 8) (by decide) hi).2 hc
      rw [show (8 : Int32) + nI i = nI (8 + i) from nI_add 8 i, nI_clamp (by omega)]
      refine ⟨vp_in_nI (by omega) (by decide), fun N qN => hP _ _ hl ⟨nI_1 _, fun r hr => by rw [qN, ob_ur hr]; exact mr r hr, fun k hk => ?_, by rw [qN]; exact mf.w (Or.inr (Or.inr (Or.inr (Or.inr (Or.inl ⟨rfl, by omega⟩)))))⟩⟩
      rw [qN]
      by_cases ek : k = i
      · rw [ek, ob_us]
      · rw [ob_uq (by omega)]; exact m6 k (by omega)
  · have hl := (ob_to (n := 64) (by decide) hi).2 hc
    rw [show (64 : Int32) + nI i = nI (64 + i) from nI_add 64 i, nI_clamp (by omega)]
    refine ⟨vp_in_nI (by omega) (by decide), fun N qN => hP _ _ hl ⟨nI_1 _, fun r hr => by rw [qN, ob_ur hr]; exact lr r hr, fun k hk => ?_, by rw [qN]; exact lf.w (Or.inr (Or.inr (Or.inr (Or.inl ⟨rfl, by omega⟩))))⟩⟩
    rw [qN]
    by_cases ek : k = i
    · rw [ek, ob_us]
    · rw [ob_uq (by omega)]; exact l5 k (by omega)
end RC
