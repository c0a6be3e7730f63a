/-! ===== the reference: deliveries; the formula; the best relay ===== -/
theorem rf_und2 {G : pm_G} {q i d n : Nat} {I : pm_I} {K : Int32 → pm_I → Prop} (e7 : I (q + 1) (17 + 134 * i + 7) = nI (d + n)) (e8 : I (q + 1) (17 + 134 * i + 8) = nI d) (hi : i < 6) (hk : K (nI n) I) : wX7_undelivered G q (nI i) I K := by
  unfold wX7_undelivered
  refine rf_of (j := 7) rfl ⟨vp_in_nI (by omega) (by decide), rf_of (j := 8) rfl ⟨vp_in_nI (by omega) (by decide), ?_⟩⟩
  rw [nI_clamp (by omega), nI_clamp (by omega), e7, e8, pk_sub (by omega), show d + n - d = n by omega]
  exact hk
theorem rf_one {G : pm_G} {q i e n' : Nat} {L : pm_I} {F' : Nat → Int32} {M' : Nat → Nat → Int32} {Z : pm_I → Prop} (hL : rf_O (L (q + 1)) (17 + 134 * i) (F', n', M')) (gL : cl_g (F', n', M') e) (hi : i < 6) (hp : 0 < n') (hn : n' ≤ 24) (hk : ∀ I3, rf_O (I3 (q + 1)) (17 + 134 * i) (ab_pop (F', n', M')) → rf_f q (17 + 134 * i) L I3 → Z I3) :
    wX7_of G (nI i) (10) L (fun r23 I22 => wX7_message G (nI i) (0) I22 (fun r25 I24 => vp_in (r25 + 1) 821 ∧ (vp_in (r23) 821 ∧ (∀ I26 : pm_I, I26 = pm_up I24 (q + 1) ((r23).toNatClampNeg) (I24 (q + 1) (r25 + 1).toNatClampNeg) → (wX7_of G (nI i) (9) I26 (fun r28 I27 => wX7_of G (nI i) (9) I27 (fun r30 I29 => vp_in (r30) 821 ∧ (wX7_message G (nI i) (0) I29 (fun r32 I31 => vp_in (r32 + 1) 821 ∧ (vp_in (r28) 821 ∧ (∀ I33 : pm_I, I33 = pm_up I31 (q + 1) ((r28).toNatClampNeg) ((31 * (I29 (q + 1) (r30).toNatClampNeg)) + (I31 (q + 1) (r32 + 1).toNatClampNeg)) → (wX7_message G (nI i) (0) I33 (fun r35 I34 => pm_lp2 (fun (P36 : Int32 → pm_I → Prop) (x38 : Int32) (I37 : pm_I) => wX7_undelivered G (q) (nI i) I37 (fun r40 I39 => wX7_message G (nI i) (r40 - 1) I39 (fun r42 I41 => (r42 ≤ x38 → (wX7_of G (nI i) (8) I41 (fun r44 I43 => vp_in (r44) 821 ∧ (vp_in (r44) 821 ∧ (∀ I45 : pm_I, I45 = pm_up I43 (q + 1) ((r44).toNatClampNeg) ((I43 (q + 1) (r44).toNatClampNeg) + 1) → (Z I45)))))) ∧ (¬ r42 ≤ x38 → (vp_in (x38 + 5) 821 ∧ (vp_in (x38) 821 ∧ (∀ I46 : pm_I, I46 = pm_up I41 (q + 1) ((x38).toNatClampNeg) (I41 (q + 1) (x38 + 5).toNatClampNeg) → (P36 (x38 + 1) I46)))))))) (r35) I34))))))))))))) := by
  have m0 := hL.2.2 0 hp
  rw [Nat.mul_zero, Nat.add_zero] at m0
  have v0 : L (q + 1) (17 + 134 * i + 14 + 1) = M' 0 0 := m0.2.1
  refine rf_of (j := 10) rfl (rf_msg (k := 0) rfl ?_)
  rw [Nat.mul_zero, Nat.add_zero, show nI (17 + 134 * i + 14) + 1 = nI (17 + 134 * i + 14 + 1) from nI_add _ 1]
  refine ⟨vp_in_nI (by omega) (by decide), vp_in_nI (by omega) (by decide), fun I1 q1 => rf_of (j := 9) rfl (rf_of (j := 9) rfl ⟨vp_in_nI (by omega) (by decide), rf_msg (k := 0) rfl ?_⟩)⟩
  rw [Nat.mul_zero, Nat.add_zero, show nI (17 + 134 * i + 14) + 1 = nI (17 + 134 * i + 14 + 1) from nI_add _ 1]
  refine ⟨vp_in_nI (by omega) (by decide), vp_in_nI (by omega) (by decide), fun I2 q2 => rf_msg (k := 0) rfl ?_⟩
  rw [Nat.mul_zero, Nat.add_zero]
  rw [nI_clamp (by omega), nI_clamp (by omega)] at q1
  rw [nI_clamp (by omega), nI_clamp (by omega)] at q2
  rw [v0] at q1
  have a9 : I1 (q + 1) (17 + 134 * i + 9) = F' 12 := by rw [q1, ob_uq (by omega)]; exact hL.1 9 (by decide)
  have a15 : I1 (q + 1) (17 + 134 * i + 14 + 1) = M' 0 0 := by rw [q1, ob_uq (by omega)]; exact v0
  rw [a9, a15] at q2
  have r2 : ∀ r, r ≠ q + 1 → I2 r = L r := fun r hr => by rw [q2, ob_ur hr, q1, ob_ur hr]
  have p2 : ∀ x, x ≠ 17 + 134 * i + 10 → x ≠ 17 + 134 * i + 9 → I2 (q + 1) x = L (q + 1) x := fun x h1 h2 => by rw [q2, ob_uq h2, q1, ob_uq h1]
  have c10 : I2 (q + 1) (17 + 134 * i + 10) = M' 0 0 := by rw [q2, ob_uq (by omega), q1, ob_us]
  have c9 : I2 (q + 1) (17 + 134 * i + 9) = 31 * F' 12 + M' 0 0 := by rw [q2, ob_us]
  have c7 : I2 (q + 1) (17 + 134 * i + 7) = nI (e + n') := by rw [p2 _ (by omega) (by omega)]; exact (hL.1 7 (by decide)).trans gL.2.2.1
  have c8 : I2 (q + 1) (17 + 134 * i + 8) = nI e := by rw [p2 _ (by omega) (by omega)]; exact (hL.1 8 (by decide)).trans gL.2.1
  have f8 : F' 8 = nI e := gL.2.1
  clear q1 q2 a9 a15
  refine ob_lp2 (fun y x J => x = nI (17 + 134 * i + 14 + y) ∧ (∀ r, r ≠ q + 1 → J r = I2 r) ∧ (∀ z, z < y → J (q + 1) (17 + 134 * i + 14 + z) = I2 (q + 1) (17 + 134 * i + 14 + z + 5)) ∧ (∀ x, (x < 17 + 134 * i + 14 ∨ 17 + 134 * i + 14 + y ≤ x) → J (q + 1) x = I2 (q + 1) x)) (5 * (n' - 1)) ⟨by rw [Nat.add_zero], fun _ _ => rfl, fun z hz => absurd hz (Nat.not_lt_zero z), fun _ _ => rfl⟩ ?_
  intro Q y x J2 hy hI2 hQ
  obtain ⟨hx2, b1, b2, b3⟩ := hI2
  subst hx2
  have pm : nI n' - 1 = nI (n' - 1) := pk_sub (a := n') (b := 1) (by omega)
  refine rf_und2 (d := e) (n := n') (by rw [b3 _ (by omega)]; exact c7) (by rw [b3 _ (by omega)]; exact c8) hi (rf_msg (k := n' - 1) pm ⟨fun hc2 => rf_of (j := 8) rfl ⟨vp_in_nI (by omega) (by decide), vp_in_nI (by omega) (by decide), fun I3 q3 => ?_⟩, fun hc2 => ?_⟩)
  · have ey := (cl_loop (d := 17 + 134 * i + 14) (by omega) hy).1 hc2
    rw [nI_clamp (by omega), b3 _ (by omega), c8, nI_1] at q3
    have f3 : rf_f q (17 + 134 * i) L I3 := ⟨fun r hr => by rw [q3, ob_ur hr, b1 r hr]; exact r2 r hr, fun x hx => by rw [q3, ob_uq (by omega), b3 _ (by omega)]; exact p2 x (by omega) (by omega)⟩
    refine hk I3 ?_ f3
    refine rf_pop hL hp hn (by rw [q3, ob_uq (by omega), b3 _ (by omega)]; exact c10) (by rw [q3, ob_uq (by omega), b3 _ (by omega)]; exact c9) (by rw [q3, ob_us, f8, nI_1]) (fun x x1 x2 x3 x4 => by rw [q3, ob_uq x3, b3 _ (by omega)]; exact p2 x x1 x2) (fun z hz => ?_)
    rw [q3, ob_uq (by omega), b2 z (by omega)]
    exact p2 _ (by omega) (by omega)
  · have hy2 := (cl_loop (d := 17 + 134 * i + 14) (by omega) hy).2 hc2
    rw [show nI (17 + 134 * i + 14 + y) + 5 = nI (17 + 134 * i + 14 + y + 5) from nI_add _ 5]
    refine ⟨vp_in_nI (by omega) (by decide), vp_in_nI (by omega) (by decide), fun I3 q3 => hQ _ _ hy2 ?_⟩
    rw [nI_clamp (by omega), nI_clamp (by omega), b3 (17 + 134 * i + 14 + y + 5) (by omega)] at q3
    refine ⟨nI_1 _, fun r hr => by rw [q3, ob_ur hr]; exact b1 r hr, fun z hz => ?_, fun x hx => by rw [q3, ob_uq (by omega)]; exact b3 x (by omega)⟩
    rw [q3]
    by_cases ez : z = y
    · rw [ez, ob_us]
    · rw [ob_uq (by omega)]; exact b2 z (by omega)
theorem rf_arr {G : pm_G} {q i d : Nat} {t : Int32} {I : pm_I} {K : Int32 → pm_I → Prop} {s : aS} (h : rf_O (I (q + 1)) (17 + 134 * i) s) (g : cl_g s d) (hi : i < 6) (hr : ∀ k, k < s.2.1 → s.2.2 k 2 = -2 ∨ ok_rt 8 (s.2.2 k 2)) (ht : I (q + 1) 0 = t) (hk : ∀ J, rf_O (J (q + 1)) (17 + 134 * i) (ab_arr s t) → rf_f q (17 + 134 * i) I J → K (nI (ab_arc s t)) J) : wX7_delivers G q (nI i) I K := by
  unfold wX7_delivers
  obtain ⟨F, n, M⟩ := s
  have g1 := g
  have hn : n ≤ 24 := g.2.2.2.2
  have hb : d + n < 1048576 := g.2.2.2.1
  obtain ⟨gg, hgg⟩ : ∃ gg : (Nat → Int32) → Nat → Int32, ∀ m, gg m = if 0 ≤ m 2 ∧ m 3 = t then upd m 2 (-2) else m := ⟨fun m => if 0 ≤ m 2 ∧ m 3 = t then upd m 2 (-2) else m, fun _ => rfl⟩
  refine ob_lp2 (fun k x J => x = nI k ∧ rf_O (J (q + 1)) (17 + 134 * i) (F, n, ob_pm gg k M) ∧ rf_f q (17 + 134 * i) I J) n ⟨rfl, by rw [ob_pm_0]; exact h, rf_f.rf⟩ ?_
  intro P k x J hk' hI hP
  obtain ⟨hx, hO, hf⟩ := hI
  subst hx
  refine rf_und hO g1 hi ⟨fun hc => ?_, fun hc => rf_msg rfl ?_⟩
  · have e := (ob_to (n := n) (by omega) hk').1 hc
    subst e
    have hO1 : rf_O (J (q + 1)) (17 + 134 * i) (ab_ar (F, k, M) t) := hO.cg (fun _ _ => rfl) rfl (fun j hj => (ob_pm_l hj).trans (hgg _))
    clear hP hO
    refine ob_lp2 (fun j c L => c = nI j ∧ ∃ s', rf_O (L (q + 1)) (17 + 134 * i) s' ∧ cl_g s' (d + j) ∧ s'.2.1 = k - j ∧ rf_f q (17 + 134 * i) I L ∧ ab_arr (F, k, M) t = ab_dl (k - j) s' ∧ ab_arc (F, k, M) t = j + ab_dc (k - j) s') k ⟨rfl, _, hO1, g1.ar, rfl, hf, rfl, by show _ = 0 + ab_dc k _; rw [Nat.zero_add]; rfl⟩ ?_
    intro P j c L hj hI hP
    obtain ⟨hc', s', hL, gL, nL, fL, ea, ec⟩ := hI
    subst hc'
    obtain ⟨F', n', M'⟩ := s'
    have nL' : n' = k - j := nL
    have nop : ¬ (0 < n' ∧ M' 0 2 = -2) → K (nI j) L := by
      intro hno
      have ea' : ab_arr (F, k, M) t = (F', n', M') := by
        rw [ea]
        cases k - j with
        | zero => rfl
        | succ f =>
          show (if 0 < n' ∧ M' 0 2 = -2 then _ else _) = _
          rw [if_neg hno]
      have ec' : ab_arc (F, k, M) t = j := by
        rw [ec]
        cases k - j with
        | zero => rfl
        | succ f =>
          show j + (if 0 < n' ∧ M' 0 2 = -2 then _ else _) = _
          rw [if_neg hno]
          rfl
      have := hk L (by rw [ea']; exact hL) fL
      rw [ec'] at this
      exact this
    refine rf_und hL gL hi ⟨fun hc1 => nop (fun hh => ?_), fun hc1 => rf_msg (k := 0) rfl ?_⟩
    · have := (nI_leI (a := n') (b := 0) (by omega) (by omega)).mp hc1
      omega
    · have hp : 0 < n' := by
        rcases Nat.eq_zero_or_pos n' with e | e
        · rw [show ((F', n', M') : aS).2.1 = 0 from e] at hc1; exact absurd (Int32.le_refl 0) hc1
        · exact e
      rw [Nat.mul_zero, Nat.add_zero, Int32.add_zero, nI_clamp (by omega)]
      have m0 := hL.2.2 0 hp
      rw [Nat.mul_zero, Nat.add_zero] at m0
      have st : L (q + 1) (17 + 134 * i + 14) = ab_so (M' 0 2) := m0.1
      rw [st, ab_so_2]
      refine ⟨vp_in_nI (by omega) (by decide), fun z => nop (fun hh => z hh.2), fun z => ?_⟩
      refine rf_one hL gL hi hp (by omega) (fun I3 hS3 f3 => ?_)
      have hl : j < k := by omega
      obtain ⟨f, hf'⟩ : ∃ f, k - j = f + 1 := ⟨k - j - 1, by omega⟩
      refine hP _ _ hl ⟨nI_1 _, ab_pop (F', n', M'), hS3, gL.pop hp, by show n' - 1 = _; omega, fL.tr f3, ?_, ?_⟩
      · rw [ea, hf', show k - (j + 1) = f by omega]
        show (if 0 < n' ∧ M' 0 2 = -2 then _ else _) = _
        rw [if_pos ⟨hp, z⟩]
      · rw [ec, hf', show k - (j + 1) = f by omega]
        show j + (if 0 < n' ∧ M' 0 2 = -2 then _ else _) = _
        rw [if_pos ⟨hp, z⟩]
        omega
  · have hl := (ob_to (n := n) (by omega) hk').2 hc
    have hMk : ob_pm gg k M k = M k := ob_pm_i _ _ _
    have st := rf_st hO hl (by rw [hMk]; exact hr k hl)
    rw [hMk] at st
    have ht' : J (q + 1) 0 = t := by rw [hf.2 0 (by omega)]; exact ht
    rw [Int32.add_zero, nI_clamp (by omega), show nI (17 + 134 * i + 14 + 5 * k) + 3 = nI (17 + 134 * i + 14 + 5 * k + 3) from nI_add _ 3, nI_clamp (by omega), rf_c0, ht']
    refine ⟨vp_in_nI (by omega) (by decide), fun z => ?_, fun z => ⟨vp_in_nI (by omega) (by decide), fun z2 => ?_, fun z2 => ⟨vp_in_nI (by omega) (by decide), fun I1 q1 => ?_⟩⟩⟩
    · refine hP _ _ hl ⟨nI_1 _, ?_, hf⟩
      rw [← ob_pm_n (by rw [hgg, if_neg (fun hh => st.2 z hh.1)])]
      exact hO
    · rw [(st.1 z).2.1] at z2
      refine hP _ _ hl ⟨nI_1 _, ?_, hf⟩
      rw [← ob_pm_n (by rw [hgg, if_neg (fun hh => z2 hh.2)])]
      exact hO
    · rw [(st.1 z).2.1] at z2
      refine hP _ _ hl ⟨nI_1 _, ?_, by rw [q1]; exact hf.up (by omega) (by omega)⟩
      rw [← ob_pm_c (g := gg) (i := k) (M := M) (x := upd (M k) 2 (-2)) (by rw [hgg, if_pos ⟨(st.1 z).1, z2⟩])]
      have := hO.u2 hl
      rw [hMk] at this
      rw [q1, ob_uf]
      exact this
/-! the formula -/
theorem rf_join {G : pm_G} {i a b : Int32} {I : pm_I} {K : Int32 → pm_I → Prop} (hop : ab_isop i = true) (hk : K (ab_op i a b) I) : wX7_joined G (rf_en i) a b I K := by
  unfold wX7_joined
  unfold ab_isop at hop
  simp only [Bool.or_eq_true, decide_eq_true_eq] at hop
  unfold ab_op at hk
  rcases hop with rfl | rfl | rfl | rfl
  · exact ⟨fun _ => hk, fun e => absurd e (by decide), fun e => absurd e (by decide), fun e => absurd (by decide) e.1⟩
  · exact ⟨fun e => absurd e (by decide), fun _ => hk, fun e => absurd e (by decide), fun e => absurd (by decide) e.2.1⟩
  · exact ⟨fun e => absurd e (by decide), fun e => absurd e (by decide), fun _ => hk, fun e => absurd (by decide) e.2.2⟩
  · refine ⟨fun e => absurd e (by decide), fun e => absurd e (by decide), fun e => absurd e (by decide), fun _ => ⟨fun z => ⟨z, ?_⟩, fun z => ?_⟩⟩
    · rw [if_neg (by decide), if_neg (by decide), if_neg (by decide), if_neg z] at hk; exact hk
    · rw [if_neg (by decide), if_neg (by decide), if_neg (by decide), if_pos z] at hk; exact hk
theorem rf_item {i : Int32} (h : ab_isop i = true ∨ (-5 ≤ i.toInt ∧ i.toInt ≤ 9999)) : (ab_isop i = true ∧ rf_en i ≤ 0) ∨ (ab_isop i = false ∧ ∃ m, 1 ≤ m ∧ m ≤ 5 ∧ rf_en i = nI m ∧ ∀ f, ab_val f i = f m) ∨ (ab_isop i = false ∧ ∃ m, m ≤ 9999 ∧ rf_en i = nI (100 + m) ∧ ∀ f, ab_val f i = nI m) := by
  by_cases hop : ab_isop i = true
  · refine Or.inl ⟨hop, ?_⟩
    unfold ab_isop at hop
    simp only [Bool.or_eq_true, decide_eq_true_eq] at hop
    rcases hop with rfl | rfl | rfl | rfl <;> decide
  · have hop' : ab_isop i = false := by
      cases e : ab_isop i with
      | false => rfl
      | true => exact absurd e hop
    have hr := h.resolve_left hop
    by_cases h1 : i = -1
    · subst h1; exact Or.inr (Or.inl ⟨hop', 1, by decide, by decide, rfl, fun f => rfl⟩)
    by_cases h2 : i = -2
    · subst h2; exact Or.inr (Or.inl ⟨hop', 2, by decide, by decide, rfl, fun f => rfl⟩)
    by_cases h3 : i = -3
    · subst h3; exact Or.inr (Or.inl ⟨hop', 3, by decide, by decide, rfl, fun f => rfl⟩)
    by_cases h4 : i = -4
    · subst h4; exact Or.inr (Or.inl ⟨hop', 4, by decide, by decide, rfl, fun f => rfl⟩)
    by_cases h5 : i = -5
    · subst h5; exact Or.inr (Or.inl ⟨hop', 5, by decide, by decide, rfl, fun f => rfl⟩)
    refine Or.inr (Or.inr ⟨hop', ?_⟩)
    have hpos : ¬ i < 0 := fun hlt => by
      rw [ob_lt, ob_i0] at hlt
      rw [ob_eq, show (-1 : Int32).toInt = -1 by decide] at h1
      rw [ob_eq, show (-2 : Int32).toInt = -2 by decide] at h2
      rw [ob_eq, show (-3 : Int32).toInt = -3 by decide] at h3
      rw [ob_eq, show (-4 : Int32).toInt = -4 by decide] at h4
      rw [ob_eq, show (-5 : Int32).toInt = -5 by decide] at h5
      omega
    obtain ⟨m, hm, e⟩ := nI_of hpos
    have hm2 : m ≤ 9999 := by
      have := hr.2
      rw [e, nI_toInt hm] at this
      omega
    refine ⟨m, hm2, ?_, fun f => ?_⟩
    · have e6 : ¬ i = -6 := fun e => by subst e; exact hop (by decide)
      have e7 : ¬ i = -7 := fun e => by subst e; exact hop (by decide)
      have e8 : ¬ i = -8 := fun e => by subst e; exact hop (by decide)
      have e9 : ¬ i = -9 := fun e => by subst e; exact hop (by decide)
      unfold rf_en
      rw [if_neg e6, if_neg e7, if_neg e8, if_neg e9, if_neg h1, if_neg h2, if_neg h3, if_neg h4, if_neg h5, e]
      exact nI_add 100 m
    · unfold ab_val
      rw [if_neg h1, if_neg h2, if_neg h3, if_neg h4, if_neg h5, e]
theorem rf_ev {G : pm_G} {q : Nat} {f : Nat → Int32} {J : pm_I} {K : Int32 → pm_I → Prop} {P : aP} (hP : rf_P J q P) (oP : ok_P P) (hf : ∀ k, 1 ≤ k → k ≤ 5 → J (q + 11) k = f k) (hk : ∀ L, (∀ r, r ≠ q + 10 → L r = J r) → K ((ab_ev f P.2.2.2.2.2 P.2.2.2.2.2.length).2 0) L) :
    pm_lp3 (fun (P17 : Int32 → Int32 → pm_I → Prop) (x19 : Int32) (x20 : Int32) (I18 : pm_I) => ((I18 (q + 7) (0 : Int32).toNatClampNeg) ≤ x20 → (K (I18 (q + 10) (0 : Int32).toNatClampNeg) I18)) ∧ (¬ (I18 (q + 7) (0 : Int32).toNatClampNeg) ≤ x20 → (vp_in (x20) 1240 ∧ (((I18 (q + 8) (x20).toNatClampNeg) ≤ 0 → (vp_in ((x19 + (-1)) - 1) 40 ∧ (vp_in (x19 + (-1)) 40 ∧ (wX7_joined G (I18 (q + 8) (x20).toNatClampNeg) (I18 (q + 10) ((x19 + (-1)) - 1).toNatClampNeg) (I18 (q + 10) (x19 + (-1)).toNatClampNeg) I18 (fun r22 I21 => vp_in ((x19 + (-1)) - 1) 40 ∧ (∀ I23 : pm_I, I23 = pm_up I21 (q + 10) (((x19 + (-1)) - 1).toNatClampNeg) (r22) → (P17 (x19 + (-1)) (x20 + 1) I23))))))) ∧ (¬ (I18 (q + 8) (x20).toNatClampNeg) ≤ 0 → (((I18 (q + 8) (x20).toNatClampNeg) < 100 → (vp_in (I18 (q + 8) (x20).toNatClampNeg) 6 ∧ (vp_in (x19) 40 ∧ (∀ I24 : pm_I, I24 = pm_up I18 (q + 10) ((x19).toNatClampNeg) (I18 (q + 11) (I18 (q + 8) (x20).toNatClampNeg).toNatClampNeg) → (P17 (x19 + 1) (x20 + 1) I24))))) ∧ (¬ (I18 (q + 8) (x20).toNatClampNeg) < 100 → (vp_in (x19) 40 ∧ (∀ I25 : pm_I, I25 = pm_up I18 (q + 10) ((x19).toNatClampNeg) ((I18 (q + 8) (x20).toNatClampNeg) - 100) → (P17 (x19 + 1) (x20 + 1) I25)))))))))) (0) (0) J := by
  obtain ⟨_, _, _, _, hl, hit⟩ := hP
  obtain ⟨_, _, _, _, _, oit, o600⟩ := oP
  generalize P.2.2.2.2.2 = is at hl hit oit o600 hk
  refine ob_lp3 (fun k x z L => x = nI (ab_ev f is k).1 ∧ z = nI k ∧ (∀ j, j < (ab_ev f is k).1 → L (q + 10) j = (ab_ev f is k).2 j) ∧ (∀ r, r ≠ q + 10 → L r = J r)) is.length ⟨rfl, rfl, fun j hj => absurd hj (Nat.not_lt_zero j), fun _ _ => rfl⟩ ?_
  intro Q k x z L hk' hI hQ
  obtain ⟨hx, hz, hV, hr⟩ := hI
  subst hx; subst hz
  rw [rf_c0, show L (q + 7) 0 = nI is.length by rw [hr _ (by omega)]; exact hl]
  refine ⟨fun hc => ?_, fun hc => ?_⟩
  · have e := (ob_to (by omega) hk').1 hc
    subst e
    have e1 : (ab_ev f is is.length).1 = 1 := (ok_ev_ht f is is.length).trans oit.2
    rw [hV 0 (by omega)]
    exact hk L hr
  · have hl' := (ob_to (by omega) hk').2 hc
    have hcode : L (q + 8) (nI k).toNatClampNeg = rf_en (is.getD k 0) := by rw [nI_clamp (by omega), hr _ (by omega)]; exact hit k hl'
    rw [hcode]
    obtain ⟨o1, o2⟩ := oit.1 k hl'
    have h16 := ok_ht_16 oit k (by omega)
    rw [← ok_ev_ht f is k] at o1 h16
    have step : ab_ev f is (k + 1) = ab_st f (ab_ev f is k) (is.getD k 0) := rfl
    unfold ab_st at step
    rw [step] at hQ
    clear step hcode
    generalize is.getD k 0 = it at *
    generalize ab_ev f is k = v at *
    obtain ⟨h, w⟩ := v
    replace h16 : h ≤ 16 := h16
    have push : ab_isop it = false → ∀ L2, L2 = pm_up L (q + 10) h (ab_val f it) → Q (nI h + 1) (nI k + 1) L2 := by
      intro hop L2 e2
      rw [hop, if_neg (by decide)] at hQ
      refine hQ _ _ _ hl' ⟨nI_1 _, nI_1 _, fun j hj => ?_, fun r hr' => by rw [e2, ob_ur hr']; exact hr r hr'⟩
      have hj' : j < h + 1 := hj
      show _ = upd w h (ab_val f it) j
      rw [e2]
      by_cases ej : j = h
      · rw [ej, ob_us, pk_us]
      · rw [ob_uq ej, pk_un ej]; exact hV j (by show j < h; omega)
    refine ⟨vp_in_nI (by omega) (by decide), fun z => ?_, fun z => ⟨fun z2 => ?_, fun z2 => ?_⟩⟩
    · rcases rf_item o2 with ⟨hop, _⟩ | ⟨hop, m, m1, m2, em, _⟩ | ⟨hop, m, m1, em, _⟩
      · rw [hop, if_pos rfl] at o1
        replace o1 : 2 ≤ h := o1
        obtain ⟨a, rfl⟩ : ∃ a, h = a + 2 := ⟨h - 2, by omega⟩
        have x1 : nI (a + 2) + (-1) = nI (a + 1) := pk_m1 (a + 1)
        have x2 : nI (a + 1) - 1 = nI a := nI_pred a
        show vp_in (nI (a + 2) + (-1) - 1) 40 ∧ vp_in (nI (a + 2) + (-1)) 40 ∧ wX7_joined G (rf_en it) (L (q + 10) (nI (a + 2) + (-1) - 1).toNatClampNeg) (L (q + 10) (nI (a + 2) + (-1)).toNatClampNeg) L (fun r22 I21 => vp_in (nI (a + 2) + (-1) - 1) 40 ∧ (∀ I23 : pm_I, I23 = pm_up I21 (q + 10) ((nI (a + 2) + (-1) - 1).toNatClampNeg) (r22) → (Q (nI (a + 2) + (-1)) (nI k + 1) I23)))
        rw [x1, x2, nI_clamp (by omega), nI_clamp (by omega)]
        refine ⟨vp_in_nI (by omega) (by decide), vp_in_nI (by omega) (by decide), rf_join hop ⟨vp_in_nI (by omega) (by decide), fun L2 e2 => ?_⟩⟩
        rw [hop, if_pos rfl] at hQ
        refine hQ _ _ _ hl' ⟨rfl, nI_1 _, fun j hj => ?_, fun r hr' => by rw [e2, ob_ur hr']; exact hr r hr'⟩
        have hj' : j < a + 1 := hj
        have va : L (q + 10) a = w a := hV a (by show a < a + 2; omega)
        have vb : L (q + 10) (a + 1) = w (a + 1) := hV (a + 1) (by show a + 1 < a + 2; omega)
        rw [va, vb] at e2
        show _ = upd w a (ab_op it (w a) (w (a + 1))) j
        rw [e2]
        by_cases ej : j = a
        · rw [ej, ob_us, pk_us]
        · rw [ob_uq ej, pk_un ej]; exact hV j (by show j < a + 2; omega)
      · rw [em] at z; exact absurd z (nI_nle (by omega) (by omega))
      · rw [em] at z; exact absurd z (nI_nle (by omega) (by omega))
    · rcases rf_item o2 with ⟨hop, h0⟩ | ⟨hop, m, m1, m2, em, ev⟩ | ⟨hop, m, m1, em, _⟩
      · exact absurd h0 z
      · rw [hop, if_neg (by decide)] at o1
        replace o1 : h < 16 := o1
        rw [em]
        show vp_in (nI m) 6 ∧ vp_in (nI h) 40 ∧ ∀ I24 : pm_I, I24 = pm_up L (q + 10) (nI h).toNatClampNeg (L (q + 11) (nI m).toNatClampNeg) → Q (nI h + 1) (nI k + 1) I24
        rw [nI_clamp (n := h) (by omega), nI_clamp (n := m) (by omega)]
        refine ⟨vp_in_nI (by omega) (by decide), vp_in_nI (by omega) (by decide), fun L2 e2 => push hop L2 ?_⟩
        rw [e2, ev f, hr _ (by omega), hf m m1 m2]
      · rw [em] at z2
        have := (nI_ltI (a := 100 + m) (b := 100) (by omega) (by omega)).mp z2
        omega
    · rcases rf_item o2 with ⟨hop, h0⟩ | ⟨hop, m, m1, m2, em, ev⟩ | ⟨hop, m, m1, em, ev⟩
      · exact absurd h0 z
      · rw [em] at z2
        exact absurd (nI_lt (a := m) (b := 100) (by omega) (by omega)) z2
      · rw [hop, if_neg (by decide)] at o1
        replace o1 : h < 16 := o1
        rw [em, show nI (100 + m) - 100 = nI (100 + m - 100) from pk_sub (b := 100) (by omega), show 100 + m - 100 = m by omega]
        show vp_in (nI h) 40 ∧ ∀ I25 : pm_I, I25 = pm_up L (q + 10) (nI h).toNatClampNeg (nI m) → Q (nI h + 1) (nI k + 1) I25
        rw [nI_clamp (by omega)]
        refine ⟨vp_in_nI (by omega) (by decide), fun L2 e2 => push hop L2 ?_⟩
        rw [e2, ev f]
