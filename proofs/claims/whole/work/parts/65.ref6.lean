/-! ===== the reference: ticks; a link that fails ===== -/
theorem ab_set_same {A : aT} {i : Nat} : ab_set A i (A.2.2.2 i) = A := by
  unfold ab_set
  have : (fun k => if k = i then A.2.2.2 i else A.2.2.2 k) = A.2.2.2 := by
    funext k
    by_cases e : k = i
    · rw [if_pos e, e]
    · rw [if_neg e]
  rw [this]
theorem rf_z_f {I J : pm_I} {q o : Nat} (f : rf_f q o I J) : ob_fr (rf_z q) I J := f.z
theorem rf_tick {G : pm_G} {q c : Nat} {I : pm_I} {K : Int32 → pm_I → Prop} {A : aT} {P : aP} (w : rf_W I q A P) (oP : ok_P P) (oA : ok_T P c A) (hc : c < 1048576) (hk : ∀ J, rf_W J q (ab_tick P A) P → ob_fr (rf_z q) I J → K (nI (ab_tc A)) J) : wX7_ticks G q I K := by
  have n8 := oP.1.1
  unfold wX7_ticks
  unfold ab_tick at hk
  intro I0 e0
  rw [rf_c0, w.1.1] at e0
  have f0 : ob_fr (rf_z q) I I0 := by rw [e0]; exact ob_fr.rf.up (Or.inl rfl)
  have w0 : rf_W I0 q (ab_t0 A) P := by
    refine ⟨?_, w.2.rw (fun r h1 h2 => f0 r (fun hh => by rcases hh with h | h | h <;> omega))⟩
    rw [e0, ob_uf]
    refine ⟨pk_us, fun k hk => by rw [pk_un (by omega)]; exact w.1.2.1 k hk, fun k hk => by rw [pk_un (by omega)]; exact w.1.2.2.1 k hk, fun i hi => (w.1.2.2.2 i hi).rw (oA.n24 i hi) (fun x h1 h2 => pk_un (by omega))⟩
  have o0 : ok_T P c (ab_t0 A) := ok_t0 oA
  have o1 := ob_it_ok (f := ab_s1) (n := 6) (fun a i hi ha => ok_s1 hi ha) o0
  have o2 := ob_it_ok (f := ab_s2 P) (n := 6) (fun a i hi ha => ok_s2 oP hi ha) (o1 6 (by omega))
  have o3 := ob_it_ok (f := ab_s3 P) (n := 6) (fun a i hi ha => ok_s3 hi ha) (o2 6 (by omega))
  have o4 := ob_it_ok (f := ab_s4) (n := 6) (fun a i hi ha => ok_s4 hi ha) (o3 6 (by omega))
  have wd8 : ∀ {s : aS}, ok_S P c s → ∀ k, k < s.2.1 → s.2.2 k 2 = -2 ∨ ok_rt 8 (s.2.2 k 2) := fun o k hk => (o.2.2.2.2.2.2.2.2.1 k hk).imp id (fun h => h.wd n8)
  refine ob_lp3 (fun i x y J => x = nI (ab_c1 (ab_t0 A) i) ∧ y = nI i ∧ rf_W J q (ob_it ab_s1 i (ab_t0 A)) P ∧ ob_fr (rf_z q) I J) 6 ⟨rfl, rfl, w0, f0⟩ ?_
  intro Q1 i x y J hi hI hQ
  obtain ⟨hx, hy, hW, hf⟩ := hI
  subst hx; subst hy
  refine ⟨fun h1 => ?_, fun h1 => ?_⟩
  · have e := (ob_to (n := 6) (by decide) hi).1 h1
    subst e
    clear hQ hi h1 o1
    generalize ob_it ab_s1 6 (ab_t0 A) = B1 at *
    refine ob_lp2 (fun i y J => y = nI i ∧ rf_W J q (ob_it (ab_s2 P) i B1) P ∧ ob_fr (rf_z q) I J) 6 ⟨rfl, hW, hf⟩ ?_
    intro Q2 i y J hi hI hQ
    obtain ⟨hy, hW, hf⟩ := hI
    subst hy
    refine ⟨fun h1 => ?_, fun h1 => ?_⟩
    · have e := (ob_to (n := 6) (by decide) hi).1 h1
      subst e
      clear hQ hi h1 o2
      generalize ob_it (ab_s2 P) 6 B1 = B2 at *
      refine ob_lp2 (fun i y J => y = nI i ∧ rf_W J q (ob_it (ab_s3 P) i B2) P ∧ ob_fr (rf_z q) I J) 6 ⟨rfl, hW, hf⟩ ?_
      intro Q3 i y J hi hI hQ
      obtain ⟨hy, hW, hf⟩ := hI
      subst hy
      refine ⟨fun h1 => ?_, fun h1 => ?_⟩
      · have e := (ob_to (n := 6) (by decide) hi).1 h1
        subst e
        clear hQ hi h1 o3
        generalize ob_it (ab_s3 P) 6 B2 = B3 at *
        refine ob_lp2 (fun i y J => y = nI i ∧ rf_W J q (ob_it ab_s4 i B3) P ∧ ob_fr (rf_z q) I J) 6 ⟨rfl, hW, hf⟩ ?_
        intro Q4 i y J hi hI hQ
        obtain ⟨hy, hW, hf⟩ := hI
        subst hy
        refine ⟨fun h1 => ?_, fun h1 => ?_⟩
        · have e := (ob_to (n := 6) (by decide) hi).1 h1
          subst e
          exact hk J hW hf
        · have hl := (ob_to (n := 6) (by decide) hi).2 h1
          have oi := o4 i (by omega)
          have st : ob_it ab_s4 (i + 1) B3 = ab_s4 (ob_it ab_s4 i B3) i := rfl
          rw [st] at hQ
          generalize ob_it ab_s4 i B3 = B at *
          unfold ab_s4 at hQ
          refine rf_isOpen hW.1 hl ⟨fun z => ?_, fun z => ?_⟩
          · have z' := of_decide_eq_false (ob_b0.mp z)
            rw [if_neg z'] at hQ
            exact hQ _ _ hl ⟨nI_1 _, hW, hf⟩
          · have z1 := of_decide_eq_true (ob_b1.mp z)
            have os := oi.2.2.1 i hl z1
            obtain ⟨d, g⟩ := os.g z1 hc
            rw [if_pos z1] at hQ
            refine rf_old ((hW.1.2.2.2 i hl).1 z1) g hl (wd8 os) (os.2.2.2.1.imp id (fun h => h.wd n8)) (fun L hL fL => hQ _ _ hl ⟨nI_1 _, ?_, hf.tr fL.z⟩)
            exact hW.put oi.n24 hl hL (by rw [ok_old_0]; exact z1) fL
      · have hl := (ob_to (n := 6) (by decide) hi).2 h1
        have oi := o3 i (by omega)
        have st : ob_it (ab_s3 P) (i + 1) B2 = ab_s3 P (ob_it (ab_s3 P) i B2) i := rfl
        rw [st] at hQ
        clear o4 hk
        generalize ob_it (ab_s3 P) i B2 = B at *
        unfold ab_s3 at hQ
        refine rf_isOpen hW.1 hl ⟨fun z => ?_, fun z => ?_⟩
        · have z' := of_decide_eq_false (ob_b0.mp z)
          rw [if_neg (fun hh => z' hh.1.1)] at hQ
          exact hQ _ _ hl ⟨nI_1 _, hW, hf⟩
        · have z1 := of_decide_eq_true (ob_b1.mp z)
          have os := oi.2.2.1 i hl z1
          obtain ⟨d, g⟩ := os.g z1 hc
          have hO := (hW.1.2.2.2 i hl).1 z1
          have e4 : J (q + 1) (17 + 134 * i + 3) = (B.2.2.2 i).1 4 := hO.1 3 (by decide)
          have e1 : J (q + 1) (17 + 134 * i + 1) = (B.2.2.2 i).1 1 := hO.1 1 (by decide)
          have e2 : J (q + 1) (17 + 134 * i + 2) = (B.2.2.2 i).1 2 := hO.1 2 (by decide)
          refine rf_of (j := 3) rfl ⟨vp_in_nI (by omega) (by decide), ?_⟩
          rw [nI_clamp (by omega), e4]
          refine ⟨fun z2 => ?_, fun z2 => rf_of (j := 1) rfl ⟨vp_in_nI (by omega) (by decide), rf_of (j := 2) rfl ⟨vp_in_nI (by omega) (by decide), ?_⟩⟩⟩
          · rw [if_neg (fun hh => z2 hh.1.2)] at hQ
            exact hQ _ _ hl ⟨nI_1 _, hW, hf⟩
          · rw [nI_clamp (by omega), nI_clamp (by omega), e1, e2]
            refine rf_best hW oP os.1 os.2.1 (fun L hL fL fL' => ⟨fun y => ?_, fun y => ?_⟩)
            · rw [if_neg (fun hh => hh.2 y)] at hQ
              exact hQ _ _ hl ⟨nI_1 _, hL, hf.tr fL⟩
            · rw [if_pos ⟨⟨z1, z2⟩, y⟩] at hQ
              refine rf_tak ((hL.1.2.2.2 i hl).1 z1) g hl hL.2 hL.1.1 (os.1.wd n8) (os.2.1.wd n8) (ok_rt_best.wd n8) (by rw [z2]; exact y) (fun M hM fM => hQ _ _ hl ⟨nI_1 _, ?_, (hf.tr fL).tr fM.z⟩)
              exact hL.put oi.n24 hl hM (by rw [ok_tak_0]; exact z1) fM
    · have hl := (ob_to (n := 6) (by decide) hi).2 h1
      have oi := o2 i (by omega)
      have st : ob_it (ab_s2 P) (i + 1) B1 = ab_s2 P (ob_it (ab_s2 P) i B1) i := rfl
      rw [st] at hQ
      clear o4 o3 hk
      generalize ob_it (ab_s2 P) i B1 = B at *
      unfold ab_s2 at hQ
      refine rf_isOpen hW.1 hl ⟨fun z => ?_, fun z => ?_⟩
      · have z' := of_decide_eq_false (ob_b0.mp z)
        rw [if_neg (fun hh => z' hh.1)] at hQ
        exact hQ _ _ hl ⟨nI_1 _, hW, hf⟩
      · have z1 := of_decide_eq_true (ob_b1.mp z)
        have os := oi.2.2.1 i hl z1
        obtain ⟨d, g⟩ := os.g z1 hc
        refine rf_prb hW oP hl g os (fun L hL fL => hQ _ _ hl ⟨nI_1 _, ?_, hf.tr fL.z⟩)
        by_cases h4 : (B.2.2.2 i).1 4 = 100
        · rw [if_pos h4] at hL
          rw [if_neg (fun hh => hh.2 h4)]
          have := hW.put oi.n24 hl hL z1 fL
          rw [ab_set_same] at this
          exact this
        · rw [if_neg h4] at hL
          rw [if_pos ⟨z1, h4⟩]
          exact hW.put oi.n24 hl hL (by rw [ok_prb_0]; exact z1) fL
  · have hl := (ob_to (n := 6) (by decide) hi).2 h1
    have oi := o1 i (by omega)
    have st : ob_it ab_s1 (i + 1) (ab_t0 A) = ab_s1 (ob_it ab_s1 i (ab_t0 A)) i := rfl
    have sc : ab_c1 (ab_t0 A) (i + 1) = ab_c1 (ab_t0 A) i + (if ((ob_it ab_s1 i (ab_t0 A)).2.2.2 i).1 0 = 1 then ab_arc ((ob_it ab_s1 i (ab_t0 A)).2.2.2 i) (ob_it ab_s1 i (ab_t0 A)).1 else 0) := rfl
    rw [st, sc] at hQ
    clear o4 o3 o2 st sc hk
    generalize ob_it ab_s1 i (ab_t0 A) = B at *
    unfold ab_s1 at hQ
    refine rf_isOpen hW.1 hl ⟨fun z => ?_, fun z => ?_⟩
    · have z' := of_decide_eq_false (ob_b0.mp z)
      rw [if_neg z', if_neg z'] at hQ
      exact hQ _ _ _ hl ⟨nI_add _ 0, nI_1 _, hW, hf⟩
    · have z1 := of_decide_eq_true (ob_b1.mp z)
      have os := oi.2.2.1 i hl z1
      obtain ⟨d, g⟩ := os.g z1 hc
      rw [if_pos z1, if_pos z1] at hQ
      refine rf_arr ((hW.1.2.2.2 i hl).1 z1) g hl (wd8 os) hW.1.1 (fun L hL fL => hQ _ _ _ hl ⟨nI_add _ _, nI_1 _, ?_, hf.tr fL.z⟩)
      exact hW.put oi.n24 hl hL (by unfold ab_arr; rw [ok_dl_0]; exact z1) fL
/-! a link fails -/
theorem ok_bst_can {P : aP} {A : aT} {s t : Int32} : ∀ n, (ab_bst P A s t n).1 = -1 ∨ ∃ k, k < n ∧ (ab_bst P A s t n).1 = nI k ∧ ab_can A (nI k) s t = true
  | 0 => Or.inl rfl
  | n + 1 => by
    have ih := ok_bst_can (P := P) (A := A) (s := s) (t := t) n
    have ih' : (ab_bst P A s t n).1 = -1 ∨ ∃ k, k < n + 1 ∧ (ab_bst P A s t n).1 = nI k ∧ ab_can A (nI k) s t = true := ih.imp id (fun ⟨k, h1, h2⟩ => ⟨k, by omega, h2⟩)
    have step : ab_bst P A s t (n + 1) = if ab_can A (nI n) s t = true ∧ nI (ab_ld A (nI n)) < P.2.1 n then (if (ab_bst P A s t n).1 = -1 ∨ ab_sc P A (nI n) s t < (ab_bst P A s t n).2 then (nI n, ab_sc P A (nI n) s t) else ab_bst P A s t n) else ab_bst P A s t n := rfl
    rw [step]
    split
    · rename_i h
      split
      · exact Or.inr ⟨n, by omega, rfl, h.1⟩
      · exact ih'
    · exact ih'
theorem ab_can_up {A : aT} {x y z : Int32} (h : ab_can A x y z = true) : ab_up A x y = true ∧ ab_up A x z = true := by
  unfold ab_can at h
  simp only [Bool.and_eq_true] at h
  exact ⟨h.2.2.2.2.1, h.2.2.2.2.2⟩
/-- a path that uses a link that is down isn't the best relay -/
theorem ok_best_ne {P : aP} {A : aT} {s : aS} {a b : Int32} (oP : ok_P P) (h1 : ab_up A a b = false) (h2 : ab_up A b a = false) (hu : ab_ru s (s.1 4) a b = true) : ab_best P A (s.1 1) (s.1 2) ≠ s.1 4 := by
  have n8 := oP.1.1
  intro e
  rcases ok_bst_can (P := P) (A := A) (s := s.1 1) (t := s.1 2) (ab_np P) with h | ⟨k, hk, h, hc⟩
  · have : s.1 4 = -1 := e.symm.trans h
    rw [this, ok_ru_n] at hu
    cases hu
  · have e4 : s.1 4 = nI k := e.symm.trans h
    have h0 : 0 ≤ s.1 4 := by rw [e4]; exact nI_pos' (by omega)
    have h100 : ¬ s.1 4 = 100 := fun hh => by
      rw [e4] at hh
      have := (nI_eq (a := k) (b := 100) (by omega) (by omega)).mp hh
      omega
    have hcu := ab_can_up hc
    rw [← e4] at hcu
    rcases (ab_ru_iff h0 h100).mp hu with ⟨r1, r2 | r2⟩ | ⟨r1, r2 | r2⟩
    · rw [r1, ← r2, h1] at hcu; exact absurd hcu.1 (by decide)
    · rw [r1, ← r2, h1] at hcu; exact absurd hcu.2 (by decide)
    · rw [r1, ← r2, h2] at hcu; exact absurd hcu.1 (by decide)
    · rw [r1, ← r2, h2] at hcu; exact absurd hcu.2 (by decide)
theorem ok_ru_0 {s : aS} {x a b : Int32} (h : ¬ 0 ≤ x) : ab_ru s x a b = false := by
  unfold ab_ru
  rw [if_neg (fun e => h (by rw [e]; decide)), decide_eq_false h]
  rfl
theorem rf_mm {G : pm_G} {q i d : Nat} {a b t : Int32} {I : pm_I} {K : Int32 → pm_I → Prop} {P : aP} {s : aS} (h : rf_O (I (q + 1)) (17 + 134 * i) s) (g : cl_g s d) (hi : i < 6) (hP : rf_P I q P) (ht : I (q + 1) 0 = t) (h1 : ob_ix 8 (s.1 1)) (h2 : ob_ix 8 (s.1 2)) (h4 : ok_rt 8 (s.1 4)) (hr : ∀ k, k < s.2.1 → s.2.2 k 2 = -2 ∨ ok_rt 8 (s.2.2 k 2)) (hk : ∀ J, rf_O (J (q + 1)) (17 + 134 * i) (ab_mm s a b (t + ab_da P s)) → rf_f q (17 + 134 * i) I J → K (nI (ab_mc s a b)) J) :
    pm_lp3 (fun (P18 : Int32 → Int32 → pm_I → Prop) (x20 : Int32) (x21 : Int32) (I19 : pm_I) => wX7_undelivered G (q) (nI i) I19 (fun r23 I22 => (r23 ≤ x21 → (K (x20) I22)) ∧ (¬ r23 ≤ x21 → (wX7_message G (nI i) (x21) I22 (fun r25 I24 => vp_in (r25 + 0) 821 ∧ ((¬ (I24 (q + 1) (r25 + 0).toNatClampNeg) = 1 → (P18 (x20) (x21 + 1) I24)) ∧ ((I24 (q + 1) (r25 + 0).toNatClampNeg) = 1 → (vp_in (r25 + 4) 821 ∧ (wX7_usesLink G (q) (nI i) (I24 (q + 1) (r25 + 4).toNatClampNeg) (a) (b) I24 (fun r27 I26 => (r27 = 0 → (P18 (x20) (x21 + 1) I26)) ∧ (¬ r27 = 0 → (wX7_travels G (q) (nI i) (r25) I26 (fun I28 => P18 (x20 + 1) (x21 + 1) I28))))))))))))) (0) (0) I := by
  have g' := g
  have hn : s.2.1 ≤ 24 := g.2.2.2.2
  generalize htt : t + ab_da P s = tt at hk
  obtain ⟨gg, hgg⟩ : ∃ gg : (Nat → Int32) → Nat → Int32, ∀ m, gg m = if ab_ru s (m 2) a b = true then ab_mv m (s.1 4) tt else m := ⟨fun m => if ab_ru s (m 2) a b = true then ab_mv m (s.1 4) tt else m, fun _ => rfl⟩
  refine ob_lp3 (fun k c x J => c = nI (ob_ct (fun k => ab_ru s (s.2.2 k 2) a b) k) ∧ x = nI k ∧ rf_O (J (q + 1)) (17 + 134 * i) (s.1, s.2.1, ob_pm gg k s.2.2) ∧ rf_f q (17 + 134 * i) I J) s.2.1 ⟨rfl, rfl, by rw [ob_pm_0]; exact h, rf_f.rf⟩ ?_
  intro Q k c x J hk' hI hQ
  obtain ⟨hc0, hx, hO, hf⟩ := hI
  subst hx; subst hc0
  refine rf_und hO g' hi ⟨fun hc => ?_, fun hc => rf_msg rfl ?_⟩
  · have e := (ob_to (n := s.2.1) (by omega) hk').1 hc
    subst e
    exact hk J (hO.cg (fun _ _ => rfl) rfl (fun j hj => (ob_pm_l hj).trans (hgg _))) hf
  · have hl := (ob_to (n := s.2.1) (by omega) hk').2 hc
    have hMk : ob_pm gg k s.2.2 k = s.2.2 k := ob_pm_i _ _ _
    have st := rf_st hO hl (by rw [hMk]; exact hr k hl)
    rw [hMk] at st
    have no : ab_ru s (s.2.2 k 2) a b = false → Q (nI (ob_ct (fun k => ab_ru s (s.2.2 k 2) a b) k)) (nI k + 1) J := by
      intro e
      refine hQ _ _ _ hl ⟨?_, nI_1 _, ?_, hf⟩
      · show _ = nI (ob_ct _ k + if ab_ru s (s.2.2 k 2) a b = true then 1 else 0)
        rw [e]; rfl
      · rw [← ob_pm_n (by rw [hgg, e]; rfl)]
        exact hO
    rw [Int32.add_zero, nI_clamp (by omega), show nI (17 + 134 * i + 14 + 5 * k) + 4 = nI (17 + 134 * i + 14 + 5 * k + 4) from nI_add _ 4, nI_clamp (by omega)]
    refine ⟨vp_in_nI (by omega) (by decide), fun z => no (ok_ru_0 (st.2 z)), fun z => ⟨vp_in_nI (by omega) (by decide), ?_⟩⟩
    rw [(st.1 z).2.2]
    have hrt : ok_rt 8 (s.2.2 k 2) := (hr k hl).resolve_left (fun e => by have := (st.1 z).1; rw [e] at this; exact absurd this (by decide))
    refine rf_ul (s := s) hO.1 hi hrt ⟨fun e => no (ob_b0.mp e), fun e => ?_⟩
    have e' := ob_b1.mp e
    refine rf_trv (s := s) (P := P) (t := t) hO.1 hi (by omega) (by omega) (hP.f hf) (by rw [hf.2 0 (by omega)]; exact ht) h1 h2 h4 (fun L e1 e2 e3 e4 => ?_)
    rw [htt] at e4
    refine hQ _ _ _ hl ⟨?_, nI_1 _, ?_, hf.tr ⟨e1, fun x hx => e2 x (by omega) (by omega) (by omega)⟩⟩
    · show _ = nI (ob_ct _ k + if ab_ru s (s.2.2 k 2) a b = true then 1 else 0)
      rw [e', if_pos rfl, nI_1]
    · rw [← ob_pm_c (g := gg) (i := k) (M := s.2.2) (x := ab_mv (s.2.2 k) (s.1 4) tt) (by rw [hgg, if_pos e'])]
      have := rf_O.um (r := s.1 4) (t := tt) hO hl e2 e3 e4
      rw [hMk] at this
      exact this
