/-! ===== the reference: a link that fails (2); copies, the history ===== -/
theorem rf_br2 {G : pm_G} {q i c : Nat} {a b : Int32} {I : pm_I} {K : Int32 → pm_I → Prop} {A : aT} {P : aP} {s1 : aS} (w : rf_W I q (ab_set A i s1) P) (oP : ok_P P) (hn : ok_24 A) (h0 : s1.1 0 = 1) (hi : i < 6) (o : ok_S P c s1) (hc : c < 1048576) (d1 : ab_up A a b = false) (d2 : ab_up A b a = false)
    (hk : ∀ s2 L, s2 = (if ab_ru s1 (s1.1 4) a b = true then ab_cp (ab_f s1 6 0) (ab_best P (ab_set A i (ab_f s1 6 0)) (s1.1 1) (s1.1 2)) else s1) → rf_W L q (ab_set A i (ab_mm s2 a b (A.1 + ab_da P s2))) P → ob_fr (rf_z q) I L → K (nI (ab_mc s2 a b)) L) :
    wX7_of G (nI i) (3) I (fun r15 I14 => vp_in (r15) 821 ∧ (wX7_usesLink G (q) (nI i) (I14 (q + 1) (r15).toNatClampNeg) (a) (b) I14 (fun r17 I16 => (r17 = 0 → (pm_lp3 (fun (P18 : Int32 → Int32 → pm_I → Prop) (x20 : Int32) (x21 : Int32) (I19 : pm_I) => wX7_undelivered G (q) (nI i) I19 (fun r23 I22 => (r23 ≤ x21 → (K (x20) I22)) ∧ (¬ r23 ≤ x21 → (wX7_message G (nI i) (x21) I22 (fun r25 I24 => vp_in (r25 + 0) 821 ∧ ((¬ (I24 (q + 1) (r25 + 0).toNatClampNeg) = 1 → (P18 (x20) (x21 + 1) I24)) ∧ ((I24 (q + 1) (r25 + 0).toNatClampNeg) = 1 → (vp_in (r25 + 4) 821 ∧ (wX7_usesLink G (q) (nI i) (I24 (q + 1) (r25 + 4).toNatClampNeg) (a) (b) I24 (fun r27 I26 => (r27 = 0 → (P18 (x20) (x21 + 1) I26)) ∧ (¬ r27 = 0 → (wX7_travels G (q) (nI i) (r25) I26 (fun I28 => P18 (x20 + 1) (x21 + 1) I28))))))))))))) (0) (0) I16)) ∧ (¬ r17 = 0 → (wX7_of G (nI i) (5) I16 (fun r30 I29 => vp_in (r30) 821 ∧ (∀ I31 : pm_I, I31 = pm_up I29 (q + 1) ((r30).toNatClampNeg) (0) → (wX7_of G (nI i) (1) I31 (fun r33 I32 => vp_in (r33) 821 ∧ (wX7_of G (nI i) (2) I32 (fun r35 I34 => vp_in (r35) 821 ∧ (wX7_bestFor G (q) (I32 (q + 1) (r33).toNatClampNeg) (I34 (q + 1) (r35).toNatClampNeg) I34 (fun r37 I36 => wX7_takesPath G (q) (nI i) (r37) I36 (fun I38 => pm_lp3 (fun (P39 : Int32 → Int32 → pm_I → Prop) (x41 : Int32) (x42 : Int32) (I40 : pm_I) => wX7_undelivered G (q) (nI i) I40 (fun r44 I43 => (r44 ≤ x42 → (K (x41) I43)) ∧ (¬ r44 ≤ x42 → (wX7_message G (nI i) (x42) I43 (fun r46 I45 => vp_in (r46 + 0) 821 ∧ ((¬ (I45 (q + 1) (r46 + 0).toNatClampNeg) = 1 → (P39 (x41) (x42 + 1) I45)) ∧ ((I45 (q + 1) (r46 + 0).toNatClampNeg) = 1 → (vp_in (r46 + 4) 821 ∧ (wX7_usesLink G (q) (nI i) (I45 (q + 1) (r46 + 4).toNatClampNeg) (a) (b) I45 (fun r48 I47 => (r48 = 0 → (P39 (x41) (x42 + 1) I47)) ∧ (¬ r48 = 0 → (wX7_travels G (q) (nI i) (r46) I47 (fun I49 => P39 (x41 + 1) (x42 + 1) I49))))))))))))) (0) (0) I38)))))))))))))) := by
  have n8 := oP.1.1
  have hO : rf_O (I (q + 1)) (17 + 134 * i) s1 := by
    have := (w.1.2.2.2 i hi).1
    rw [ab_set_i] at this
    exact this h0
  obtain ⟨d, g⟩ := o.g h0 hc
  have h24 : ok_24 (ab_set A i s1) := fun k hk => by
    show (if k = i then s1 else A.2.2.2 k).1 0 = 1 → (if k = i then s1 else A.2.2.2 k).2.1 ≤ 24
    by_cases e : k = i
    · rw [if_pos e]; exact fun _ => g.2.2.2.2
    · rw [if_neg e]; exact hn k hk
  have e4 : I (q + 1) (17 + 134 * i + 3) = s1.1 4 := hO.1 3 (by decide)
  have wd8 : ∀ {s : aS}, ok_S P c s → ∀ k, k < s.2.1 → s.2.2 k 2 = -2 ∨ ok_rt 8 (s.2.2 k 2) := fun o k hk => (o.2.2.2.2.2.2.2.2.1 k hk).imp id (fun h => h.wd n8)
  refine rf_of (j := 3) rfl ⟨vp_in_nI (by omega) (by decide), ?_⟩
  rw [nI_clamp (by omega), e4]
  refine rf_ul hO.1 hi (o.2.2.1.wd n8) ⟨fun u => ?_, fun u => ?_⟩
  · have hk2 := hk s1
    rw [if_neg (by rw [ob_b0.mp u]; decide)] at hk2
    refine rf_mm (P := P) (t := A.1) hO g hi w.2 w.1.1 (o.1.wd n8) (o.2.1.wd n8) (o.2.2.1.wd n8) (wd8 o) (fun J hJ fJ => hk2 J rfl ?_ fJ.z)
    have := w.put h24 hi hJ h0 fJ
    rw [ab_set_2] at this
    exact this
  · have u' := ob_b1.mp u
    have hk2 := hk (ab_cp (ab_f s1 6 0) (ab_best P (ab_set A i (ab_f s1 6 0)) (s1.1 1) (s1.1 2)))
    rw [if_pos u'] at hk2
    refine rf_of (j := 5) rfl ⟨vp_in_nI (by omega) (by decide), fun I1 q1 => rf_of (j := 1) rfl ⟨vp_in_nI (by omega) (by decide), rf_of (j := 2) rfl ⟨vp_in_nI (by omega) (by decide), ?_⟩⟩⟩
    rw [nI_clamp (by omega)] at q1
    have hO1 : rf_O (I1 (q + 1)) (17 + 134 * i) (ab_f s1 6 0) := by
      rw [q1, ob_uf]
      exact hO.up (j := 5) (by decide) (by decide) (by decide)
    have f1 : rf_f q (17 + 134 * i) I I1 := by rw [q1]; exact rf_f.rf.up (by omega) (by omega)
    have g1 : cl_g (ab_f s1 6 0) d := g.f (by decide) (by decide) (by decide)
    have w1 : rf_W I1 q (ab_set A i (ab_f s1 6 0)) P := by
      have := w.put h24 hi hO1 h0 f1
      rw [ab_set_2] at this
      exact this
    have h241 : ok_24 (ab_set A i (ab_f s1 6 0)) := fun k hk => by
      show (if k = i then ab_f s1 6 0 else A.2.2.2 k).1 0 = 1 → (if k = i then ab_f s1 6 0 else A.2.2.2 k).2.1 ≤ 24
      by_cases e : k = i
      · rw [if_pos e]; exact fun _ => g.2.2.2.2
      · rw [if_neg e]; exact hn k hk
    have c1 : I1 (q + 1) (17 + 134 * i + 1) = s1.1 1 := hO1.1 1 (by decide)
    have c2 : I1 (q + 1) (17 + 134 * i + 2) = s1.1 2 := hO1.1 2 (by decide)
    rw [nI_clamp (by omega), nI_clamp (by omega), c1, c2]
    have hne : ab_best P (ab_set A i (ab_f s1 6 0)) (s1.1 1) (s1.1 2) ≠ s1.1 4 := ok_best_ne (s := s1) (A := ab_set A i (ab_f s1 6 0)) oP d1 d2 u'
    have hp4 : ¬ s1.1 4 = -1 := fun e => by rw [e, ok_ru_n] at u'; cases u'
    have hw := o.2.2.2.2.2.2.2.2.2 hp4
    have hxn : ok_rt (ab_np P) (ab_best P (ab_set A i (ab_f s1 6 0)) (s1.1 1) (s1.1 2)) := ok_rt_best
    refine rf_best w1 oP o.1 o.2.1 (fun L hL fL fL' => ?_)
    replace hL : rf_W L q (ab_set A i (ab_f s1 6 0)) P := hL
    generalize ab_best P (ab_set A i (ab_f s1 6 0)) (s1.1 1) (s1.1 2) = x at *
    have hOL : rf_O (L (q + 1)) (17 + 134 * i) (ab_f s1 6 0) := by rw [fL' (q + 1) (by omega) (by omega)]; exact hO1
    have o1 : ok_S P c (ab_f s1 6 0) := o.f6 ⟨by decide, by rw [ob_i0]; have := oP.2.1.2.1; omega⟩
    have o2 : ok_S P c (ab_cp (ab_f s1 6 0) x) := o1.cp hxn (fun _ => hw)
    have z2 : (ab_cp (ab_f s1 6 0) x).1 0 = 1 := (ok_cp_F.1 0 (by decide) (by decide) (by decide)).trans h0
    refine rf_tak (t := A.1) hOL g1 hi hL.2 hL.1.1 (o.1.wd n8) (o.2.1.wd n8) (hxn.wd n8) hne (fun M hM fM => ?_)
    have e2 := (ok_cp_F (s := ab_f s1 6 0) (x := x)).2.2.1
    have hM2 : rf_O (M (q + 1)) (17 + 134 * i) (ab_cp (ab_f s1 6 0) x) := by
      refine hM.cg (fun _ _ => rfl) rfl (fun k hk => ?_)
      have hk' : k < s1.2.1 := by
        have : k < (ab_cp (ab_f s1 6 0) x).2.1 := hk
        rw [e2] at this
        exact this
      show (if (ab_cp (ab_f s1 6 0) x).2.2 k 2 = -1 then _ else (ab_cp (ab_f s1 6 0) x).2.2 k) = (ab_cp (ab_f s1 6 0) x).2.2 k
      rw [if_neg (by rw [e2]; exact hw k hk')]
    refine rf_mm (P := P) (t := A.1) hM2 g1.cp hi (hL.2.f fM) (by rw [fM.2 0 (by omega)]; exact hL.1.1) (o2.1.wd n8) (o2.2.1.wd n8) (o2.2.2.1.wd n8) (wd8 o2) (fun J hJ fJ => hk2 J rfl ?_ ((f1.z.tr fL).tr (fM.z.tr fJ.z)))
    have := hL.put h241 hi hJ z2 (fM.tr fJ)
    rw [ab_set_2] at this
    exact this
theorem rf_brk {G : pm_G} {q i c : Nat} {a b : Int32} {I : pm_I} {K : Int32 → pm_I → Prop} {A : aT} {P : aP} (w : rf_W I q A P) (oP : ok_P P) (hn : ok_24 A) (h0 : (A.2.2.2 i).1 0 = 1) (hi : i < 6) (o : ok_S P c (A.2.2.2 i)) (hc : c < 1048576) (d1 : ab_up A a b = false) (d2 : ab_up A b a = false)
    (hk : ∀ L, rf_W L q (ab_set A i (ab_mm (ab_lv P A i a b) a b (A.1 + ab_da P (ab_lv P A i a b)))) P → ob_fr (rf_z q) I L → K (nI (ab_mc (ab_lv P A i a b) a b)) L) : wX7_breaks G q (nI i) a b I K := by
  have n8 := oP.1.1
  have hO := (w.1.2.2.2 i hi).1 h0
  obtain ⟨d, g⟩ := o.g h0 hc
  have e5 : I (q + 1) (17 + 134 * i + 4) = (A.2.2.2 i).1 5 := hO.1 4 (by decide)
  unfold wX7_breaks
  unfold ab_lv at hk
  dsimp only at hk
  refine rf_of (j := 4) rfl ⟨vp_in_nI (by omega) (by decide), ?_⟩
  rw [nI_clamp (by omega), e5]
  refine rf_ul hO.1 hi (o.2.2.2.1.imp id (fun h => Or.inr (h.wd n8))) ⟨fun u => ?_, fun u => rf_of (j := 4) rfl ⟨vp_in_nI (by omega) (by decide), fun I1 q1 => ?_⟩⟩
  · have e' : (if ab_ru (A.2.2.2 i) ((A.2.2.2 i).1 5) a b = true then ab_f (A.2.2.2 i) 5 (-1) else A.2.2.2 i) = A.2.2.2 i := if_neg (by rw [ob_b0.mp u]; decide)
    rw [e'] at hk
    exact rf_br2 (A := A) (s1 := A.2.2.2 i) (by rw [ab_set_same]; exact w) oP hn h0 hi o hc d1 d2 (fun s2 L e hL fL => by subst e; exact hk L hL fL)
  · have e' : (if ab_ru (A.2.2.2 i) ((A.2.2.2 i).1 5) a b = true then ab_f (A.2.2.2 i) 5 (-1) else A.2.2.2 i) = ab_f (A.2.2.2 i) 5 (-1) := if_pos (ob_b1.mp u)
    rw [e'] at hk
    rw [nI_clamp (by omega)] at q1
    have hO1 : rf_O (I1 (q + 1)) (17 + 134 * i) (ab_f (A.2.2.2 i) 5 (-1)) := by
      rw [q1, ob_uf]
      exact hO.up (j := 4) (by decide) (by decide) (by decide)
    have f1 : rf_f q (17 + 134 * i) I I1 := by rw [q1]; exact rf_f.rf.up (by omega) (by omega)
    exact rf_br2 (A := A) (s1 := ab_f (A.2.2.2 i) 5 (-1)) (w.put hn hi hO1 h0 f1) oP hn h0 hi (o.f5 (Or.inl rfl)) hc d1 d2 (fun s2 L e hL fL => by subst e; exact hk L hL (f1.z.tr fL))
