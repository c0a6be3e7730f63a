/-! ===== the class: situations (2): relays, ticks, links that fail ===== -/
def ok_01 (A : aT) : Prop := ∀ i, i < 6 → (A.2.2.2 i).1 0 = 0 ∨ (A.2.2.2 i).1 0 = 1
theorem cl_W.vf {I L : pm_I} {b p : Nat} {A : aT} {P : aP} (w : cl_W I b p A P) (f : cl_vf (p + 5) I L) : cl_W L b p A P ∧ ob_fr (cl_z b p) I L := by
  have hb := w.2.2
  exact ⟨⟨w.1.rw (fun r h1 h2 => f.1 r (by omega) (by omega)), w.2.1.rw (fun r h1 h2 h3 => f.1 r (by omega) (by omega)) (f.2 1 (by decide)), hb⟩, fun r hr => f.1 r (fun e => hr (Or.inr (Or.inl e))) (fun e => hr (Or.inr (Or.inr e)))⟩
theorem cl_sc {G : pm_G} {b p : Nat} {r s t : Int32} {I : pm_I} {K : Int32 → pm_I → Prop} {A : aT} {P : aP} (w : cl_W I b p A P) (oP : ok_P P) (h01 : ok_01 A) (hr : ob_ix (ab_np P) r) (hs : ob_ix (ab_np P) s) (ht : ob_ix (ab_np P) t) (hk : ∀ L, cl_W L b p A P → ob_fr (cl_z b p) I L → K (ab_sc P A r s t) L) : wX5_scoreOf G b p r s t I K := by
  have n8 := oP.1.1
  unfold wX5_scoreOf
  refine cl_dy w.2.1 (hs.wd n8) (hr.wd n8) (cl_dy w.2.1 (hr.wd n8) (ht.wd n8) (cl_ld w.1 h01 ⟨(hr.wd n8).in (by decide), cl_zc w.2.1 oP hr hs ht ?_⟩))
  rw [(w.2.1.2.1 _ (hr.cl (by omega))).1]
  exact cl_worth (f := ab_fc P A r s t) w.2.1 oP (fun L fL => hk L (w.vf fL).1 (w.vf fL).2)
theorem cl_best {G : pm_G} {b p : Nat} {s t : Int32} {I : pm_I} {K : Int32 → pm_I → Prop} {A : aT} {P : aP} (w : cl_W I b p A P) (oP : ok_P P) (h01 : ok_01 A) (hs : ob_ix (ab_np P) s) (ht : ob_ix (ab_np P) t) (hk : ∀ L, cl_W L b p A P → ob_fr (cl_z b p) I L → K (ab_best P A s t) L) : wX5_chooseRelay G b p s t I K := by
  have n8 := oP.1.1
  unfold wX5_chooseRelay
  refine ob_lp4 (fun i x y z J => x = (ab_bst P A s t i).1 ∧ y = (ab_bst P A s t i).2 ∧ z = nI i ∧ cl_W J b p A P ∧ ob_fr (cl_z b p) I J) (ab_np P) ⟨rfl, rfl, rfl, w, ob_fr.rf⟩ ?_
  intro Q i x y z J hi hI hQ
  obtain ⟨hx, hy, hz, hW, hf⟩ := hI
  subst hz
  rw [show J p 0 = nI (ab_np P) from hW.2.1.1.1.trans oP.1.2]
  refine ⟨fun hc => ?_, fun hc => ?_⟩
  · have e := (ob_to (by omega) hi).1 hc
    subst e
    rw [hx]
    exact hk J hW hf
  · have hl := (ob_to (by omega) hi).2 hc
    have hix : ob_ix (ab_np P) (nI i) := ⟨i, hl, rfl⟩
    have step : ab_bst P A s t (i + 1) = if ab_can A (nI i) s t = true ∧ nI (ab_ld A (nI i)) < P.2.1 i then (if (ab_bst P A s t i).1 = -1 ∨ ab_sc P A (nI i) s t < (ab_bst P A s t i).2 then (nI i, ab_sc P A (nI i) s t) else ab_bst P A s t i) else ab_bst P A s t i := rfl
    refine cl_can hW.1 (hix.wd n8) ⟨fun e => ?_, fun e => cl_ld hW.1 h01 ⟨(hix.wd n8).in (by decide), ?_⟩⟩
    · rw [if_neg (fun hh => by rw [ob_b0.mp e] at hh; exact absurd hh.1 (by decide))] at step
      exact hQ _ _ _ _ hl ⟨by rw [step]; exact hx, by rw [step]; exact hy, nI_1 _, hW, hf⟩
    · rw [nI_clamp (by omega), (hW.2.1.2.1 i hl).1]
      refine ⟨fun e2 => ?_, fun e2 => ?_⟩
      · rw [if_neg (fun hh => absurd e2 (Int32.not_le.mpr hh.2))] at step
        exact hQ _ _ _ _ hl ⟨by rw [step]; exact hx, by rw [step]; exact hy, nI_1 _, hW, hf⟩
      · rw [if_pos ⟨ob_b1.mp e, Int32.not_le.mp e2⟩] at step
        refine cl_sc hW oP h01 hix hs ht (fun L hL fL => ⟨fun e3 => ?_, fun e3 => ⟨fun e4 => ?_, fun e4 => ?_⟩⟩)
        · rw [if_pos (Or.inl (hx ▸ e3))] at step
          exact hQ _ _ _ _ hl ⟨by rw [step], by rw [step], nI_1 _, hL, hf.tr fL⟩
        · rw [if_neg (fun hh => hh.elim (fun h1 => e3 (hx.trans h1)) (fun h2 => absurd e4 (Int32.not_le.mpr (by rw [hy]; exact h2))))] at step
          exact hQ _ _ _ _ hl ⟨by rw [step]; exact hx, by rw [step]; exact hy, nI_1 _, hL, hf.tr fL⟩
        · rw [if_pos (Or.inr (by rw [← hy]; exact Int32.not_le.mp e4))] at step
          exact hQ _ _ _ _ hl ⟨by rw [step], by rw [step], nI_1 _, hL, hf.tr fL⟩
theorem cl_tak {G : pm_G} {b p q d : Nat} {x t : Int32} {I : pm_I} {K : pm_I → Prop} {P : aP} {s : aS} (hS : cl_S I q s) (g : cl_g s d) (hP : cl_P I p P) (hpq : p + 8 ≤ q) (hbq : b < q) (ht : I b 0 = t) (h1 : ob_ix 8 (s.1 1)) (h2 : ob_ix 8 (s.1 2)) (hx : ok_rt 8 x) (hk : ∀ J, cl_S J q (ab_tak P t s x) → ob_fr (cl_s q) I J → K J) :
    wX4_changePath G q x I (fun I11 => wX1_delayAlong G p q I11 (fun r13 I12 => wX4_startWaiting G q (I11 b 0 + r13) I12 (fun I14 => K I14))) := by
  refine cl_cp hS (fun J hJ fJ => ?_)
  obtain ⟨e, e4, e2, _⟩ := ok_cp_F (s := s) (x := x)
  refine cl_da (hP.fr hpq fJ) hJ.1 (by rw [e 1 (by decide) (by decide) (by decide)]; exact h1) (by rw [e 2 (by decide) (by decide) (by decide)]; exact h2) (by rw [e4]; exact hx) ?_
  rw [show J b 0 = t by rw [fJ b (fun hh => by have := hh.1; omega)]; exact ht]
  exact cl_sw hJ g.cp (fun L hL fL => hk L hL (fJ.tr fL))
theorem cl_upg {G : pm_G} {b p q d : Nat} {t : Int32} {I : pm_I} {K : pm_I → Prop} {P : aP} {s : aS} (hS : cl_S I q s) (g : cl_g s d) (hP : cl_P I p P) (hpq : p + 8 ≤ q) (hbq : b < q) (ht : I b 0 = t) (h1 : ob_ix 8 (s.1 1)) (h2 : ob_ix 8 (s.1 2)) (hk : ∀ J, cl_S J q (ab_upg P t s) → ob_fr (cl_s q) I J → K J) : wX5_upgrade G b p q I K := by
  unfold wX5_upgrade
  intro I1 e1
  have hS1 : cl_S I1 q (ab_f s 6 0) := by rw [e1]; exact hS.up (by decide) (by decide)
  have f1 : ob_fr (cl_s q) I I1 := by rw [e1]; exact ob_fr.rf.up ⟨by omega, by omega⟩
  have g1 : cl_g (ab_f s 6 0) d := g.f (by decide) (by decide) (by decide)
  have ht1 : I1 b 0 = t := by rw [f1 b (fun hh => by have := hh.1; omega)]; exact ht
  rw [hS1.1 4 (by decide)]
  unfold ab_upg at hk
  refine ⟨fun e => ?_, fun e => ?_⟩
  · rw [if_pos e] at hk
    exact cl_tak hS1 g1 (hP.fr hpq f1) hpq hbq ht1 h1 h2 (Or.inr (Or.inl rfl)) (fun J hJ fJ => hk J hJ (f1.tr fJ))
  · rw [if_neg e] at hk
    intro I2 e2
    have hS2 : cl_S I2 q (ab_f (ab_f s 6 0) 5 ((ab_f s 6 0).1 4)) := by rw [e2]; exact hS1.up (by decide) (by decide)
    have f2 : ob_fr (cl_s q) I I2 := by rw [e2]; exact f1.up ⟨by omega, by omega⟩
    exact cl_tak hS2 (g1.f (by decide) (by decide) (by decide)) (hP.fr hpq f2) hpq hbq (by rw [f2 b (fun hh => by have := hh.1; omega)]; exact ht) h1 h2 (Or.inr (Or.inl rfl)) (fun J hJ fJ => hk J hJ (f2.tr fJ))
theorem cl_prb {G : pm_G} {b p i d c : Nat} {I : pm_I} {K : pm_I → Prop} {A : aT} {P : aP} (w : cl_W I b p A P) (oP : ok_P P) (hi : i < 6) (g : cl_g (A.2.2.2 i) d) (o : ok_S P c (A.2.2.2 i)) (hk : ∀ J, cl_S J (b + 3 + 1 + 5 * i) (ab_prb P A (A.2.2.2 i)) → ob_fr (cl_s (b + 3 + 1 + 5 * i)) I J → K J) : wX5_probeIfDue G b p (b + 3 + 1 + 5 * i) I K := by
  have n8 := oP.1.1
  have hS := w.1.2.2.2 i hi
  have hpb := w.2.2
  generalize hq : b + 3 + 1 + 5 * i = q at *
  generalize A.2.2.2 i = s at *
  unfold wX5_probeIfDue
  rw [w.1.1, w.2.1.1.2.1, hS.1 3 (by decide), hS.1 1 (by decide), hS.1 2 (by decide)]
  have h6 := oP.2.1.1
  unfold ab_prb at hk
  refine ⟨fun hc => absurd ((ob_lt _ _).mp hc) (by rw [ob_i1]; omega), fun _ => ⟨fun e => ?_, fun e => ?_, fun e => ?_⟩⟩
  · rw [e, ob_i0] at h6; omega
  · rw [if_pos e] at hk
    refine cl_up w.1 (o.1.wd n8) ⟨fun u => ?_, fun u => ?_⟩
    · rw [if_pos (ob_b1.mp u)] at hk
      intro I1 e1
      rw [hS.1 6 (by decide)] at e1
      have hS1 : cl_S I1 q (ab_f s 6 (s.1 6 + 1)) := by rw [e1]; exact hS.up (by decide) (by decide)
      have f1 : ob_fr (cl_s q) I I1 := by rw [e1]; exact ob_fr.rf.up ⟨by omega, by omega⟩
      have hP1 : cl_P I1 p P := w.2.1.fr (by omega) f1
      rw [hS1.1 6 (by decide), hP1.1.2.2.1]
      refine ⟨fun z => ?_, fun z => ?_⟩
      · rw [if_pos (show s.1 6 + 1 < P.1 7 from z)] at hk
        exact hk I1 hS1 f1
      · rw [if_neg (show ¬ s.1 6 + 1 < P.1 7 from z)] at hk
        exact cl_upg hS1 (g.f (by decide) (by decide) (by decide)) hP1 (by omega) (by omega) (by rw [f1 b (fun hh => by have := hh.1; omega)]; exact w.1.1) (o.1.wd n8) (o.2.1.wd n8) (fun J hJ fJ => hk J hJ (f1.tr fJ))
    · rw [if_neg (by rw [ob_b0.mp u]; decide)] at hk
      intro I1 e1
      exact hk I1 (by rw [e1]; exact hS.up (by decide) (by decide)) (by rw [e1]; exact ob_fr.rf.up ⟨by omega, by omega⟩)
  · rw [if_neg e] at hk
    exact hk I hS ob_fr.rf
theorem cl_tick {G : pm_G} {b p c : Nat} {I : pm_I} {K : Int32 → pm_I → Prop} {A : aT} {P : aP} (w : cl_W I b p A P) (oP : ok_P P) (oA : ok_T P c A) (hc : c < 1048576) (hk : ∀ J, cl_W J b p (ab_tick P A) P → ob_fr (cl_z b p) I J → K (nI (ab_tc A)) J) : wX5_passTick G b p I K := by
  have n8 := oP.1.1
  have hpb := w.2.2
  unfold wX5_passTick
  unfold ab_tick at hk
  intro I0 e0
  have w0 : cl_W I0 b p (ab_t0 A) P := by
    rw [w.1.1] at e0
    subst e0
    refine ⟨⟨ob_us _ _ _ _, fun k hk => ?_, fun k hk => ?_, fun i hi => ?_⟩, w.2.1.rw (fun r h1 h2 _ => ob_ur (by omega)) (by rw [ob_ur (by omega)]), hpb⟩
    · rw [ob_ur (by omega)]; exact w.1.2.1 k hk
    · rw [ob_ur (by omega)]; exact w.1.2.2.1 k hk
    · exact (w.1.2.2.2 i hi).rw (fun r h1 h2 => ob_ur (by omega))
  have f0 : ob_fr (cl_z b p) I I0 := by rw [e0]; exact ob_fr.rf.up (Or.inl ⟨by omega, by omega⟩)
  have o0 : ok_T P c (ab_t0 A) := ok_t0 oA
  have o1 := ob_it_ok (f := ab_s1) (n := 6) (fun a i hi ha => ok_s1 hi ha) o0
  have o2 := ob_it_ok (f := ab_s2 P) (n := 6) (fun a i hi ha => ok_s2 oP hi ha) (o1 6 (by omega))
  have o3 := ob_it_ok (f := ab_s3 P) (n := 6) (fun a i hi ha => ok_s3 hi ha) (o2 6 (by omega))
  have o4 := ob_it_ok (f := ab_s4) (n := 6) (fun a i hi ha => ok_s4 hi ha) (o3 6 (by omega))
  refine ob_lp3 (fun i x y J => x = nI (ab_c1 (ab_t0 A) i) ∧ y = nI i ∧ cl_W J b p (ob_it ab_s1 i (ab_t0 A)) P ∧ ob_fr (cl_z b p) I J) 6 ⟨rfl, rfl, w0, f0⟩ ?_
  intro Q1 i x y J hi hI hQ
  obtain ⟨hx, hy, hW, hf⟩ := hI
  subst hx; subst hy
  refine ⟨fun h1 => ?_, fun h1 => ?_⟩
  · have e := (ob_to (n := 6) (by decide) hi).1 h1
    subst e
    clear hQ hi h1 o1
    generalize ob_it ab_s1 6 (ab_t0 A) = B1 at *
    refine ob_lp2 (fun i y J => y = nI i ∧ cl_W J b p (ob_it (ab_s2 P) i B1) P ∧ ob_fr (cl_z b p) I J) 6 ⟨rfl, hW, hf⟩ ?_
    intro Q2 i y J hi hI hQ
    obtain ⟨hy, hW, hf⟩ := hI
    subst hy
    refine ⟨fun h1 => ?_, fun h1 => ?_⟩
    · have e := (ob_to (n := 6) (by decide) hi).1 h1
      subst e
      clear hQ hi h1 o2
      generalize ob_it (ab_s2 P) 6 B1 = B2 at *
      refine ob_lp2 (fun i y J => y = nI i ∧ cl_W J b p (ob_it (ab_s3 P) i B2) P ∧ ob_fr (cl_z b p) I J) 6 ⟨rfl, hW, hf⟩ ?_
      intro Q3 i y J hi hI hQ
      obtain ⟨hy, hW, hf⟩ := hI
      subst hy
      refine ⟨fun h1 => ?_, fun h1 => ?_⟩
      · have e := (ob_to (n := 6) (by decide) hi).1 h1
        subst e
        clear hQ hi h1 o3
        generalize ob_it (ab_s3 P) 6 B2 = B3 at *
        refine ob_lp2 (fun i y J => y = nI i ∧ cl_W J b p (ob_it ab_s4 i B3) P ∧ ob_fr (cl_z b p) I J) 6 ⟨rfl, hW, hf⟩ ?_
        intro Q4 i y J hi hI hQ
        obtain ⟨hy, hW, hf⟩ := hI
        subst hy
        refine ⟨fun h1 => ?_, fun h1 => ?_⟩
        · have e := (ob_to (n := 6) (by decide) hi).1 h1
          subst e
          exact hk J hW hf
        · have hl := (ob_to (n := 6) (by decide) hi).2 h1
          have oi := o4 i (by omega)
          have st : ob_it ab_s4 (i + 1) B3 = ab_s4 (ob_it ab_s4 i B3) i := rfl
          rw [st] at hQ
          generalize ob_it ab_s4 i B3 = B at *
          have hin : vp_in (nI i) 6 := vp_in_nI hl (by decide)
          rw [nI_clamp (by omega)]
          have hS := hW.1.2.2.2 i hl
          rw [hS.1 0 (by decide)]
          refine ⟨hin, fun z => ?_, fun z => ⟨hin, ?_⟩⟩
          · refine hQ _ _ hl ⟨nI_1 _, ?_, hf⟩
            unfold ab_s4
            rw [if_neg (by rw [z]; decide)]
            exact hW
          · have z1 : (B.2.2.2 i).1 0 = 1 := (oi.2.2.2 i hl).resolve_left z
            obtain ⟨d, g⟩ := (oi.2.2.1 i hl z1).g z1 hc
            refine cl_old hS g (fun L hL fL => hQ _ _ hl ⟨nI_1 _, ?_, hf.tr (cl_z_s hl fL)⟩)
            unfold ab_s4
            rw [if_pos z1]
            exact hW.put hl hL fL
      · have hl := (ob_to (n := 6) (by decide) hi).2 h1
        have oi := o3 i (by omega)
        have st : ob_it (ab_s3 P) (i + 1) B2 = ab_s3 P (ob_it (ab_s3 P) i B2) i := rfl
        rw [st] at hQ
        clear o4 hk
        generalize ob_it (ab_s3 P) i B2 = B at *
        have hin : vp_in (nI i) 6 := vp_in_nI hl (by decide)
        rw [nI_clamp (by omega)]
        have hS := hW.1.2.2.2 i hl
        rw [hS.1 0 (by decide), hS.1 4 (by decide)]
        refine ⟨hin, fun z => ?_, fun z => ⟨hin, fun z2 => ?_, fun z2 => ⟨hin, ?_⟩⟩⟩
        · refine hQ _ _ hl ⟨nI_1 _, ?_, hf⟩
          unfold ab_s3
          rw [if_neg (fun hh => by rw [z] at hh; exact absurd hh.1.1 (by decide))]
          exact hW
        · refine hQ _ _ hl ⟨nI_1 _, ?_, hf⟩
          unfold ab_s3
          rw [if_neg (fun hh => z2 hh.1.2)]
          exact hW
        · have z1 : (B.2.2.2 i).1 0 = 1 := (oi.2.2.2 i hl).resolve_left z
          have os := oi.2.2.1 i hl z1
          obtain ⟨d, g⟩ := os.g z1 hc
          unfold wX5_seekRelay
          rw [hS.1 1 (by decide), hS.1 2 (by decide)]
          refine cl_best hW oP oi.2.2.2 os.1 os.2.1 (fun L hL fL => ⟨fun y => ?_, fun y => ?_⟩)
          · refine hQ _ _ hl ⟨nI_1 _, ?_, hf.tr fL⟩
            unfold ab_s3
            rw [if_neg (fun hh => hh.2 y)]
            exact hL
          · refine cl_tak (hL.1.2.2.2 i hl) g hL.2.1 (by omega) (by omega) hL.1.1 (os.1.wd n8) (os.2.1.wd n8) (ok_rt_best.wd n8) (fun M hM fM => hQ _ _ hl ⟨nI_1 _, ?_, (hf.tr fL).tr (cl_z_s hl fM)⟩)
            unfold ab_s3
            rw [if_pos ⟨⟨z1, z2⟩, y⟩]
            exact hL.put hl hM fM
    · have hl := (ob_to (n := 6) (by decide) hi).2 h1
      have oi := o2 i (by omega)
      have st : ob_it (ab_s2 P) (i + 1) B1 = ab_s2 P (ob_it (ab_s2 P) i B1) i := rfl
      rw [st] at hQ
      clear o4 o3 hk
      generalize ob_it (ab_s2 P) i B1 = B at *
      have hin : vp_in (nI i) 6 := vp_in_nI hl (by decide)
      rw [nI_clamp (by omega)]
      have hS := hW.1.2.2.2 i hl
      rw [hS.1 0 (by decide), hS.1 4 (by decide)]
      refine ⟨hin, fun z => ?_, fun z => ⟨hin, fun z2 => ?_, fun z2 => ⟨hin, ?_⟩⟩⟩
      · refine hQ _ _ hl ⟨nI_1 _, ?_, hf⟩
        unfold ab_s2
        rw [if_neg (fun hh => by rw [z] at hh; exact absurd hh.1 (by decide))]
        exact hW
      · refine hQ _ _ hl ⟨nI_1 _, ?_, hf⟩
        unfold ab_s2
        rw [if_neg (fun hh => hh.2 z2)]
        exact hW
      · have z1 : (B.2.2.2 i).1 0 = 1 := (oi.2.2.2 i hl).resolve_left z
        have os := oi.2.2.1 i hl z1
        obtain ⟨d, g⟩ := os.g z1 hc
        refine cl_prb hW oP hl g os (fun L hL fL => hQ _ _ hl ⟨nI_1 _, ?_, hf.tr (cl_z_s hl fL)⟩)
        unfold ab_s2
        rw [if_pos ⟨z1, z2⟩]
        exact hW.put hl hL fL
  · have hl := (ob_to (n := 6) (by decide) hi).2 h1
    have oi := o1 i (by omega)
    have st : ob_it ab_s1 (i + 1) (ab_t0 A) = ab_s1 (ob_it ab_s1 i (ab_t0 A)) i := rfl
    have sc : ab_c1 (ab_t0 A) (i + 1) = ab_c1 (ab_t0 A) i + (if ((ob_it ab_s1 i (ab_t0 A)).2.2.2 i).1 0 = 1 then ab_arc ((ob_it ab_s1 i (ab_t0 A)).2.2.2 i) (ob_it ab_s1 i (ab_t0 A)).1 else 0) := rfl
    rw [st, sc] at hQ
    clear o4 o3 o2 st sc hk
    generalize ob_it ab_s1 i (ab_t0 A) = B at *
    have hin : vp_in (nI i) 6 := vp_in_nI hl (by decide)
    rw [nI_clamp (by omega)]
    have hS := hW.1.2.2.2 i hl
    rw [hS.1 0 (by decide)]
    refine ⟨hin, fun z => ?_, fun z => ⟨hin, ?_⟩⟩
    · refine hQ _ _ _ hl ⟨?_, nI_1 _, ?_, hf⟩
      · rw [if_neg (by rw [z]; decide)]; rfl
      · unfold ab_s1
        rw [if_neg (by rw [z]; decide)]
        exact hW
    · have z1 : (B.2.2.2 i).1 0 = 1 := (oi.2.2.2 i hl).resolve_left z
      obtain ⟨d, g⟩ := (oi.2.2.1 i hl z1).g z1 hc
      rw [hW.1.1]
      refine cl_arr hS g (fun L hL fL => hQ _ _ _ hl ⟨?_, nI_1 _, ?_, hf.tr (cl_z_s hl fL)⟩)
      · rw [if_pos z1, nI_add]
      · unfold ab_s1
        rw [if_pos z1]
        exact hW.put hl hL fL
