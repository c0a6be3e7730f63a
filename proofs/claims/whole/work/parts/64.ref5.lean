/-! ===== the reference: the best relay, probes, ticks ===== -/
theorem rf_W.v {I L : pm_I} {q : Nat} {A : aT} {P : aP} (w : rf_W I q A P) (f : ∀ r, r ≠ q + 10 → r ≠ q + 11 → L r = I r) : rf_W L q A P ∧ ob_fr (rf_z q) I L :=
  ⟨⟨by rw [f (q + 1) (by omega) (by omega)]; exact w.1, w.2.rw (fun r h1 h2 => f r (by omega) (by omega))⟩, fun r hr => f r (fun e => hr (Or.inr (Or.inl e))) (fun e => hr (Or.inr (Or.inr e)))⟩
theorem rf_sc' {G : pm_G} {q : Nat} {r s t : Int32} {I : pm_I} {K : Int32 → pm_I → Prop} {A : aT} {P : aP} (w : rf_W I q A P) (oP : ok_P P) (hr : ob_ix (ab_np P) r) (hs : ob_ix (ab_np P) s) (ht : ob_ix (ab_np P) t) (hk : ∀ L, rf_W L q A P → ob_fr (fun x => x = q + 10 ∨ x = q + 11) I L → K (ab_sc P A r s t) L) : wX7_scoreOf G q r s t I K := by
  have n8 := oP.1.1
  unfold wX7_scoreOf
  have i1 := ob_ix8 (hs.wd n8) (hr.wd n8)
  have i2 := ob_ix8 (hr.wd n8) (ht.wd n8)
  have ir : vp_in r 16 := (hr.wd (m := 16) (by omega)).in (by decide)
  have is : vp_in s 16 := (hs.wd (m := 16) (by omega)).in (by decide)
  have it : vp_in t 16 := (ht.wd (m := 16) (by omega)).in (by decide)
  rw [ob_mc, ob_mc]
  refine ⟨(i1.wd (m := 128) (by decide)).in (by decide), fun I1 q1 => ⟨(i2.wd (m := 128) (by decide)).in (by decide), fun I2 q2 => ?_⟩⟩
  rw [rf_c1, w.2.2.2.1 _ (i1.cl (by decide))] at q1
  have a1 : ∀ x, x ≠ q + 11 → I1 x = I x := fun x hx => by rw [q1, ob_ur hx]
  rw [rf_c2, a1 (q + 5) (by omega), w.2.2.2.1 _ (i2.cl (by decide))] at q2
  have a2 : ∀ x, x ≠ q + 11 → I2 x = I x := fun x hx => by rw [q2, ob_ur hx]; exact a1 x hx
  refine rf_ld (A := A) (by rw [a2 _ (by omega)]; exact w.1) (fun I3 q3 => ⟨ir, fun I4 q4 => ?_⟩)
  rw [rf_c3] at q3
  have a3 : ∀ x, x ≠ q + 11 → I3 x = I x := fun x hx => by rw [q3, ob_ur hx]; exact a2 x hx
  rw [rf_c4, a3 (q + 3) (by omega), (w.2.2.1 _ (hr.cl (by omega))).1] at q4
  have a4 : ∀ x, x ≠ q + 11 → I4 x = I x := fun x hx => by rw [q4, ob_ur hx]; exact a3 x hx
  rw [a4 (q + 4) (by omega), (w.2.2.1 _ (hr.cl (by omega))).2, (w.2.2.1 _ (hs.cl (by omega))).2, (w.2.2.1 _ (ht.cl (by omega))).2]
  have fin : ∀ z I5, z = ab_zc P r s t → I5 = pm_up I4 (q + 11) 5 z → rf_P I5 q P ∧ (∀ k, 1 ≤ k → k ≤ 5 → I5 (q + 11) k = ab_fc P A r s t k) ∧ ∀ L, (∀ x, x ≠ q + 10 → L x = I5 x) → K (ab_sc P A r s t) L := by
    intro z I5 hz q5
    have a5 : ∀ x, x ≠ q + 11 → I5 x = I x := fun x hx => by rw [q5, ob_ur hx]; exact a4 x hx
    refine ⟨w.2.rw (fun x h1 h2 => a5 x (by omega)), fun k h1 h5 => ?_, fun L hL => ?_⟩
    · have : k = 1 ∨ k = 2 ∨ k = 3 ∨ k = 4 ∨ k = 5 := by omega
      rcases this with rfl | rfl | rfl | rfl | rfl
      · rw [q5, ob_uq (by decide), q4, ob_uq (by decide), q3, ob_uq (by decide), q2, ob_uq (by decide), q1, ob_us]; rfl
      · rw [q5, ob_uq (by decide), q4, ob_uq (by decide), q3, ob_uq (by decide), q2, ob_us]; rfl
      · rw [q5, ob_uq (by decide), q4, ob_uq (by decide), q3, ob_us]; rfl
      · rw [q5, ob_uq (by decide), q4, ob_us]; rfl
      · rw [q5, ob_us, hz]; rfl
    · have v := w.v (L := L) (fun x h1 h2 => by rw [hL x h1]; exact a5 x h2)
      exact hk L v.1 (fun x hx => by rw [hL x (fun e => hx (Or.inl e))]; exact a5 x (fun e => hx (Or.inr e)))
  unfold ab_zc at fin
  refine ⟨is, ir, fun e => ⟨it, ir, fun e2 I5 q5 => ?_, fun e2 I5 q5 => ?_⟩, fun e => ⟨it, ir, fun e2 I5 q5 => ?_, fun e2 I5 q5 => ?_⟩⟩
  · rw [rf_c5] at q5
    have f := fin _ I5 (by rw [if_pos e, if_pos e2]; rfl) q5
    exact rf_ev f.1 oP f.2.1 f.2.2
  · rw [rf_c5] at q5
    have f := fin _ I5 (by rw [if_pos e, if_neg e2]; rfl) q5
    exact rf_ev f.1 oP f.2.1 f.2.2
  · rw [rf_c5] at q5
    have f := fin _ I5 (by rw [if_neg e, if_pos e2]; rfl) q5
    exact rf_ev f.1 oP f.2.1 f.2.2
  · rw [rf_c5] at q5
    have f := fin _ I5 (by rw [if_neg e, if_neg e2]; rfl) q5
    exact rf_ev f.1 oP f.2.1 f.2.2
theorem rf_best {G : pm_G} {q : Nat} {s t : Int32} {I : pm_I} {K : Int32 → pm_I → Prop} {A : aT} {P : aP} (w : rf_W I q A P) (oP : ok_P P) (hs : ob_ix (ab_np P) s) (ht : ob_ix (ab_np P) t) (hk : ∀ L, rf_W L q A P → ob_fr (rf_z q) I L → (∀ x, x ≠ q + 10 → x ≠ q + 11 → L x = I x) → K (ab_best P A s t) L) : wX7_bestFor G q s t I K := by
  have n8 := oP.1.1
  unfold wX7_bestFor
  refine ob_lp4 (fun i x y z J => x = (ab_bst P A s t i).1 ∧ y = (ab_bst P A s t i).2 ∧ z = nI i ∧ rf_W J q A P ∧ ob_fr (fun x => x = q + 10 ∨ x = q + 11) I J) (ab_np P) ⟨rfl, rfl, rfl, w, ob_fr.rf⟩ ?_
  intro Q i x y z J hi hI hQ
  obtain ⟨hx, hy, hz, hW, hf⟩ := hI
  subst hz
  rw [rf_c0, show J (q + 2) 0 = nI (ab_np P) from hW.2.1.1.trans oP.1.2]
  refine ⟨fun hc => ?_, fun hc => ?_⟩
  · have e := (ob_to (by omega) hi).1 hc
    subst e
    rw [hx]
    exact hk J hW (hf.wd (fun r hr => Or.inr hr)) (fun x h1 h2 => hf x (fun e => e.elim h1 h2))
  · have hl := (ob_to (by omega) hi).2 hc
    have hix : ob_ix (ab_np P) (nI i) := ⟨i, hl, rfl⟩
    have step : ab_bst P A s t (i + 1) = if ab_can A (nI i) s t = true ∧ nI (ab_ld A (nI i)) < P.2.1 i then (if (ab_bst P A s t i).1 = -1 ∨ ab_sc P A (nI i) s t < (ab_bst P A s t i).2 then (nI i, ab_sc P A (nI i) s t) else ab_bst P A s t i) else ab_bst P A s t i := rfl
    refine rf_can hW.1 (hix.wd n8) ⟨fun e => ?_, fun e => rf_ld hW.1 ⟨(hix.wd (m := 16) (by omega)).in (by decide), ?_⟩⟩
    · rw [if_neg (fun hh => by rw [ob_b0.mp e] at hh; exact absurd hh.1 (by decide))] at step
      exact hQ _ _ _ _ hl ⟨by rw [step]; exact hx, by rw [step]; exact hy, nI_1 _, hW, hf⟩
    · rw [nI_clamp (by omega), (hW.2.2.1 i hl).1]
      refine ⟨fun e2 => ?_, fun e2 => ?_⟩
      · rw [if_pos ⟨ob_b1.mp e, e2⟩] at step
        refine rf_sc' hW oP hix hs ht (fun L hL fL => ⟨fun e3 => ?_, fun e3 => ⟨fun e4 => ?_, fun e4 => ?_⟩⟩)
        · rw [if_pos (Or.inl (hx ▸ e3))] at step
          exact hQ _ _ _ _ hl ⟨by rw [step], by rw [step], nI_1 _, hL, hf.tr fL⟩
        · rw [if_neg (fun hh => hh.elim (fun h1 => e3 (hx.trans h1)) (fun h2 => absurd e4 (Int32.not_le.mpr (by rw [hy]; exact h2))))] at step
          exact hQ _ _ _ _ hl ⟨by rw [step]; exact hx, by rw [step]; exact hy, nI_1 _, hL, hf.tr fL⟩
        · rw [if_pos (Or.inr (by rw [← hy]; exact Int32.not_le.mp e4))] at step
          exact hQ _ _ _ _ hl ⟨by rw [step], by rw [step], nI_1 _, hL, hf.tr fL⟩
      · rw [if_neg (fun hh => e2 hh.2)] at step
        exact hQ _ _ _ _ hl ⟨by rw [step]; exact hx, by rw [step]; exact hy, nI_1 _, hW, hf⟩
theorem rf_prb {G : pm_G} {q i d c : Nat} {I : pm_I} {K : pm_I → Prop} {A : aT} {P : aP} (w : rf_W I q A P) (oP : ok_P P) (hi : i < 6) (g : cl_g (A.2.2.2 i) d) (o : ok_S P c (A.2.2.2 i)) (hk : ∀ J, rf_O (J (q + 1)) (17 + 134 * i) (if (A.2.2.2 i).1 4 = 100 then A.2.2.2 i else ab_prb P A (A.2.2.2 i)) → rf_f q (17 + 134 * i) I J → K J) : wX7_probes G q (nI i) I K := by
  have n8 := oP.1.1
  have hO := (w.1.2.2.2 i hi).1 g.1
  generalize A.2.2.2 i = s at *
  unfold wX7_probes
  have e3 : I (q + 1) (17 + 134 * i + 3) = s.1 4 := hO.1 3 (by decide)
  have e6 : I (q + 1) (17 + 134 * i + 6) = s.1 3 := hO.1 6 (by decide)
  have e1 : I (q + 1) (17 + 134 * i + 1) = s.1 1 := hO.1 1 (by decide)
  have e2 : I (q + 1) (17 + 134 * i + 2) = s.1 2 := hO.1 2 (by decide)
  have e5 : I (q + 1) (17 + 134 * i + 5) = s.1 6 := hO.1 5 (by decide)
  refine rf_of (j := 3) rfl ⟨vp_in_nI (by omega) (by decide), ?_⟩
  rw [nI_clamp (by omega), e3]
  refine ⟨fun h4 => ?_, fun h4 => rf_of (j := 6) rfl ⟨vp_in_nI (by omega) (by decide), ?_⟩⟩
  · rw [if_pos h4] at hk
    exact hk I hO rf_f.rf
  rw [if_neg h4] at hk
  rw [nI_clamp (by omega), e6, rf_c0, rf_c1, w.1.1, w.2.1.2.1]
  have h6 := oP.2.1.1
  have h7 := oP.2.1.2.1
  unfold ab_prb at hk
  refine ⟨fun e => ?_, fun e => ?_, fun e => rf_of (j := 5) rfl (rf_of (j := 1) rfl ⟨vp_in_nI (by omega) (by decide), rf_of (j := 2) rfl ⟨vp_in_nI (by omega) (by decide), ?_⟩⟩)⟩
  · rw [e, ob_i0] at h6; omega
  · rw [if_neg e] at hk
    exact hk I hO rf_f.rf
  rw [if_pos e] at hk
  rw [nI_clamp (by omega), nI_clamp (by omega), e1, e2]
  refine rf_up w.1 (o.1.wd n8) ⟨fun u => ⟨vp_in_nI (by omega) (by decide), fun I1 q1 => rf_of (j := 5) rfl ⟨vp_in_nI (by omega) (by decide), ?_⟩⟩, fun u => rf_of (j := 5) rfl ⟨vp_in_nI (by omega) (by decide), vp_in_nI (by omega) (by decide), fun I1 q1 => rf_of (j := 5) rfl ⟨vp_in_nI (by omega) (by decide), ?_⟩⟩⟩
  · rw [if_neg (by rw [ob_b0.mp u]; decide)] at hk
    rw [nI_clamp (by omega)] at q1
    have hO1 : rf_O (I1 (q + 1)) (17 + 134 * i) (ab_f s 6 0) := by
      rw [q1, ob_uf]
      exact hO.up (j := 5) (by decide) (by decide) (by decide)
    have f1 : rf_f q (17 + 134 * i) I I1 := by rw [q1]; exact rf_f.rf.up (by omega) (by omega)
    have b5 : I1 (q + 1) (17 + 134 * i + 5) = 0 := hO1.1 5 (by decide)
    rw [nI_clamp (by omega), b5, rf_c2, (w.2.f f1).1.2.2.1]
    refine ⟨fun _ => hk I1 hO1 f1, fun e => ?_⟩
    rw [← e, ob_i0] at h7; omega
  · rw [if_pos (ob_b1.mp u)] at hk
    rw [nI_clamp (by omega), e5] at q1
    have hO1 : rf_O (I1 (q + 1)) (17 + 134 * i) (ab_f s 6 (s.1 6 + 1)) := by
      rw [q1, ob_uf]
      exact hO.up (j := 5) (by decide) (by decide) (by decide)
    have f1 : rf_f q (17 + 134 * i) I I1 := by rw [q1]; exact rf_f.rf.up (by omega) (by omega)
    have g1 : cl_g (ab_f s 6 (s.1 6 + 1)) d := g.f (by decide) (by decide) (by decide)
    have b5 : I1 (q + 1) (17 + 134 * i + 5) = s.1 6 + 1 := hO1.1 5 (by decide)
    have b3 : I1 (q + 1) (17 + 134 * i + 3) = s.1 4 := hO1.1 3 (by decide)
    have b4 : I1 (q + 1) (17 + 134 * i + 4) = s.1 5 := hO1.1 4 (by decide)
    rw [nI_clamp (by omega), b5, rf_c2, (w.2.f f1).1.2.2.1]
    have r7 := ob_rng (P.1 7)
    have s6 := o.2.2.2.2.1
    have es : (s.1 6 + 1).toInt = (s.1 6).toInt + 1 := by rw [ob_addI (by rw [ob_i1]; omega) (by rw [ob_i1]; omega), ob_i1]
    refine ⟨fun e => ?_, fun e => rf_of (j := 3) rfl ⟨vp_in_nI (by omega) (by decide), rf_of (j := 5) rfl ⟨vp_in_nI (by omega) (by decide), fun I2 q2 => rf_of (j := 4) rfl ?_⟩⟩⟩
    · rw [if_pos (by rw [ob_lt, es]; rw [ob_eq, es] at e; omega)] at hk
      exact hk I1 hO1 f1
    · rw [if_neg (by rw [ob_lt, es]; rw [ob_eq, es] at e; omega)] at hk
      rw [nI_clamp (by omega)] at q2
      have hO2 : rf_O (I2 (q + 1)) (17 + 134 * i) (ab_f (ab_f s 6 (s.1 6 + 1)) 6 0) := by
        rw [q2, ob_uf]
        exact hO1.up (j := 5) (by decide) (by decide) (by decide)
      have f2 : rf_f q (17 + 134 * i) I I2 := by rw [q2]; exact f1.up (by omega) (by omega)
      have g2 : cl_g (ab_f (ab_f s 6 (s.1 6 + 1)) 6 0) d := g1.f (by decide) (by decide) (by decide)
      have ht2 : I2 (q + 1) 0 = A.1 := by rw [f2.2 0 (by omega)]; exact w.1.1
      rw [nI_clamp (by omega), b3]
      unfold ab_upg at hk
      refine ⟨fun e4 => ⟨vp_in_nI (by omega) (by decide), fun I3 q3 => ?_⟩, fun e4 => rf_of (j := 4) rfl ⟨vp_in_nI (by omega) (by decide), vp_in_nI (by omega) (by decide), fun I3 q3 => ?_⟩⟩
      · rw [if_neg (show ¬ (ab_f (ab_f s 6 (s.1 6 + 1)) 6 0).1 4 = -1 from e4)] at hk
        rw [nI_clamp (by omega)] at q3
        have hO3 : rf_O (I3 (q + 1)) (17 + 134 * i) (ab_f (ab_f (ab_f s 6 (s.1 6 + 1)) 6 0) 5 ((ab_f (ab_f s 6 (s.1 6 + 1)) 6 0).1 4)) := by
          rw [q3, ob_uf]
          exact hO2.up (j := 4) (by decide) (by decide) (by decide)
        have f3 : rf_f q (17 + 134 * i) I I3 := by rw [q3]; exact f2.up (by omega) (by omega)
        exact rf_tak hO3 (g2.f (by decide) (by decide) (by decide)) hi (w.2.f f3) (by rw [f3.2 0 (by omega)]; exact w.1.1) (o.1.wd n8) (o.2.1.wd n8) (Or.inr (Or.inl rfl)) (fun h => h4 h.symm) (fun J hJ fJ => hk J hJ (f3.tr fJ))
      · rw [if_pos (show (ab_f (ab_f s 6 (s.1 6 + 1)) 6 0).1 4 = -1 from e4)] at hk
        have c4 : I2 (q + 1) (17 + 134 * i + 4) = s.1 5 := hO2.1 4 (by decide)
        rw [nI_clamp (by omega), c4] at q3
        have hO3 : rf_O (I3 (q + 1)) (17 + 134 * i) (ab_f (ab_f s 6 (s.1 6 + 1)) 6 0) := by
          rw [q3, ob_uf, ob_upd_same c4]
          exact hO2
        have f3 : rf_f q (17 + 134 * i) I I3 := by rw [q3]; exact f2.up (by omega) (by omega)
        exact rf_tak hO3 g2 hi (w.2.f f3) (by rw [f3.2 0 (by omega)]; exact w.1.1) (o.1.wd n8) (o.2.1.wd n8) (Or.inr (Or.inl rfl)) (fun h => h4 h.symm) (fun J hJ fJ => hk J hJ (f3.tr fJ))
