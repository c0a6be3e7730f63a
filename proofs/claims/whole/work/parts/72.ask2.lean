/-! ===== the calls that ask (2) ===== -/
theorem fin_b (b : Bool) : (if ob_b b = 0 then (0 : Int32) else 1) = ob_b b := by cases b <;> rfl
theorem thp_0 {P : aP} {x y : Int32} (oP : ok_P P) (i1 : ob_ix (ab_np P) x) (i2 : ob_ix (ab_np P) y) : ab_thp P x y = 0 := if_pos ⟨(ab_ip_t oP).mpr i1, (ab_ip_t oP).mpr i2⟩
theorem thp_1 {P : aP} {x y : Int32} (oP : ok_P P) (i : ¬ (ob_ix (ab_np P) x ∧ ob_ix (ab_np P) y)) : ab_thp P x y = 1 := if_neg (fun hh => i ⟨(ab_ip_t oP).mp hh.1, (ab_ip_t oP).mp hh.2⟩)
theorem th_abs : (1 : Int32) = 0 → False := by decide
theorem th_abs2 : (2 : Int32) = 0 → False := by decide
theorem th_abs3 : (3 : Int32) = 0 → False := by decide
theorem rf_find {G : pm_G} {q : Nat} {x y : Int32} {I : pm_I} {K : Int32 → pm_I → Prop} {A : aT} (h : rf_T (I (q + 1)) A) (hk : K (ab_find A x y) I) : wX7_sessionOf G q x y I K := by
  unfold wX7_sessionOf
  unfold ab_find at hk
  generalize hp : (fun k => decide ((A.2.2.2 k).1 0 = 1) && (decide ((A.2.2.2 k).1 1 = x) && decide ((A.2.2.2 k).1 2 = y))) = p at hk
  refine ob_lp2 (fun i z J => z = nI i ∧ J = I ∧ ob_fs p 6 0 = ob_fs p (6 - i) i) 6 ⟨rfl, rfl, rfl⟩ ?_
  intro P i z J hi hI hP
  obtain ⟨hz, hJ, hs⟩ := hI
  subst hz; subst hJ
  refine ⟨fun hc => ?_, fun hc => ?_⟩
  · have e := (ob_to (n := 6) (by decide) hi).1 hc
    subst e
    rw [hs] at hk
    exact hk
  · have hl := (ob_to (n := 6) (by decide) hi).2 hc
    have hpi : p i = (decide ((A.2.2.2 i).1 0 = 1) && (decide ((A.2.2.2 i).1 1 = x) && decide ((A.2.2.2 i).1 2 = y))) := by rw [← hp]
    have no : p i = false → P (nI i + 1) J := fun e => hP _ _ hl ⟨nI_1 _, rfl, hs.trans (ob_fs_f hl e)⟩
    refine rf_isOpen h hl ⟨fun z => no ?_, fun z => ?_⟩
    · rw [hpi, ob_b0.mp z]; rfl
    · have z1 := of_decide_eq_true (ob_b1.mp z)
      have hO := (h.2.2.2 i hl).1 z1
      have e1 : J (q + 1) (17 + 134 * i + 1) = (A.2.2.2 i).1 1 := hO.1 1 (by decide)
      have e2 : J (q + 1) (17 + 134 * i + 2) = (A.2.2.2 i).1 2 := hO.1 2 (by decide)
      refine rf_of (j := 1) rfl ⟨vp_in_nI (by omega) (by decide), ?_⟩
      rw [nI_clamp (by omega), e1]
      refine ⟨fun z1' => no ?_, fun z1' => rf_of (j := 2) rfl ⟨vp_in_nI (by omega) (by decide), ?_⟩⟩
      · rw [hpi, decide_eq_false z1', Bool.false_and, Bool.and_false]
      · rw [nI_clamp (by omega), e2]
        refine ⟨fun z2' => no ?_, fun z2' => ?_⟩
        · rw [hpi, decide_eq_false z2', Bool.and_false, Bool.and_false]
        · have e : p i = true := by rw [hpi, decide_eq_true z1, decide_eq_true z1', decide_eq_true z2']; rfl
          rw [hs, ob_fs_t hl e] at hk
          exact hk
theorem case_5 {G : pm_G} {xs : Nat → Int32} {x4 : Int32} {I : pm_I} {K : pm_I → Prop} {c : Nat} (hG : gK G) (h : gS c I) (hc : c < 512) (hk : ∀ J, gS (c + 1) J → K J) : wC5 G xs x4 I K := by
  obtain ⟨len, txt, err, P, A, n, H, sv, S, hC, hR, ok⟩ := h
  have ok1 := ok.up (c' := c + 1) (by omega)
  have oP := ok.2.1
  have n8 := oP.1.1
  obtain ⟨p, hp, i3, w⟩ := hC.pl
  unfold wC5 wX7_thrown
  have cl : ∀ K : Int32 → pm_I → Prop, (∀ J, cg_P I J len txt err P A n H sv S → (ab_thp P (xs (x4 + 1).toNatClampNeg) (xs (x4 + 2).toNatClampNeg) = 0 → J 515 0 = ob_b (ab_kn A (xs (x4 + 1).toNatClampNeg) (xs (x4 + 2).toNatClampNeg))) → K (ab_thp P (xs (x4 + 1).toNatClampNeg) (xs (x4 + 2).toNatClampNeg)) J) → wL_knows G 515 (xs (x4 + 1).toNatClampNeg) (xs (x4 + 2).toNatClampNeg) I K := by
    intro K hk
    unfold wL_knows wX6_knows
    refine cx_peers hG hp i3 w oP (fun i1 i2 => ?_) (fun i => ⟨rfl, ?_⟩)
    · rw [thp_0 oP i1 i2] at hk
      refine cl_kn w.1 (i1.wd n8) ⟨ob_b01 _, fun z I2 q2 => ?_, fun z I2 q2 => ?_⟩
      · subst q2
        have o := cg_out (I := I) (v := 0) hC (fun _ _ => rfl)
        exact hk _ o.1 (fun _ => by rw [o.2, z])
      · subst q2
        have o := cg_out (I := I) (v := 1) hC (fun _ _ => rfl)
        exact hk _ o.1 (fun _ => by rw [o.2, (ob_b01 _).resolve_left z])
    · rw [thp_1 oP i] at hk
      exact hk I (cg_id hC) (fun e => (th_abs e).elim)
  have rl : ∀ (J : pm_I) (K : Int32 → pm_I → Prop), rg_R J len txt err P A n H sv S → (∀ L b, rg_P J L (ab_thp P (xs (x4 + 1).toNatClampNeg) (xs (x4 + 2).toNatClampNeg)) len txt err P A n H sv S → (ab_thp P (xs (x4 + 1).toNatClampNeg) (xs (x4 + 2).toNatClampNeg) = 0 → b = ob_b (ab_kn A (xs (x4 + 1).toNatClampNeg) (xs (x4 + 2).toNatClampNeg))) → K b L) → wX7_knows G 499 (xs (x4 + 1).toNatClampNeg) (xs (x4 + 2).toNatClampNeg) J K := by
    intro J K hR hk
    unfold wX7_knows
    refine rf_peers hR.2.1.2 oP (fun i1 i2 => ⟨fun z => absurd rfl z, fun _ => ?_⟩) (fun i => ⟨fun _ => ?_, fun z => absurd z (by decide)⟩)
    · rw [thp_0 oP i1 i2] at hk
      have g := rg_up (v := 0) hR
      exact rf_kn g.1.2.1.1 (i1.wd n8) ⟨fun z => hk _ _ g (fun _ => z.symm), fun z => hk _ _ g (fun _ => ((ob_b01 _).resolve_left z).symm)⟩
    · rw [thp_1 oP i] at hk
      exact hk _ _ (rg_up hR) (fun e => (th_abs e).elim)
  exact cl _ (fun J hJ hv => rl _ _ (cg_rg hR hJ) (fun L b hL hb => ⟨hL.2.2, fun h0 => fin_v hL (hv h0) (by rw [hb h0]; exact fin_b _), hk L (fin_g hJ hL ok1)⟩))
theorem case_6 {G : pm_G} {xs : Nat → Int32} {x4 : Int32} {I : pm_I} {K : pm_I → Prop} {c : Nat} (hG : gK G) (h : gS c I) (hc : c < 512) (hk : ∀ J, gS (c + 1) J → K J) : wC6 G xs x4 I K := by
  obtain ⟨len, txt, err, P, A, n, H, sv, S, hC, hR, ok⟩ := h
  have ok1 := ok.up (c' := c + 1) (by omega)
  have oP := ok.2.1
  have n8 := oP.1.1
  obtain ⟨p, hp, i3, w⟩ := hC.pl
  unfold wC6 wX7_thrown
  have cl : ∀ K : Int32 → pm_I → Prop, (∀ J, cg_P I J len txt err P A n H sv S → (ab_thp P (xs (x4 + 1).toNatClampNeg) (xs (x4 + 2).toNatClampNeg) = 0 → J 515 0 = (if ab_up A (xs (x4 + 1).toNatClampNeg) (xs (x4 + 2).toNatClampNeg) = true then ab_dy P (xs (x4 + 1).toNatClampNeg) (xs (x4 + 2).toNatClampNeg) else -1)) → K (ab_thp P (xs (x4 + 1).toNatClampNeg) (xs (x4 + 2).toNatClampNeg)) J) → wL_delay G 515 (xs (x4 + 1).toNatClampNeg) (xs (x4 + 2).toNatClampNeg) I K := by
    intro K hk
    unfold wL_delay wX6_delay
    refine cx_peers hG hp i3 w oP (fun i1 i2 => ?_) (fun i => ⟨rfl, ?_⟩)
    · rw [thp_0 oP i1 i2] at hk
      refine cl_up w.1 (i1.wd n8) ⟨fun z I2 q2 => ?_, fun z => ?_⟩
      · subst q2
        have o := cg_out (I := I) (v := -1) hC (fun _ _ => rfl)
        exact hk _ o.1 (fun _ => by rw [o.2, if_neg (by rw [ob_b0.mp z]; decide)])
      · rw [i3, nI_clamp (by omega)]
        refine ⟨hG.P hp, cl_dy w.2.1 (i1.wd n8) (i2.wd n8) (fun I2 q2 => ?_)⟩
        subst q2
        have o := cg_out (I := I) (v := ab_dy P (xs (x4 + 1).toNatClampNeg) (xs (x4 + 2).toNatClampNeg)) hC (fun _ _ => rfl)
        exact hk _ o.1 (fun _ => by rw [o.2, if_pos (ob_b1.mp z)])
    · rw [thp_1 oP i] at hk
      exact hk I (cg_id hC) (fun e => (th_abs e).elim)
  have rl : ∀ (J : pm_I) (K : Int32 → pm_I → Prop), rg_R J len txt err P A n H sv S → (∀ L b, rg_P J L (ab_thp P (xs (x4 + 1).toNatClampNeg) (xs (x4 + 2).toNatClampNeg)) len txt err P A n H sv S → (ab_thp P (xs (x4 + 1).toNatClampNeg) (xs (x4 + 2).toNatClampNeg) = 0 → b = (if ab_up A (xs (x4 + 1).toNatClampNeg) (xs (x4 + 2).toNatClampNeg) = true then ab_dy P (xs (x4 + 1).toNatClampNeg) (xs (x4 + 2).toNatClampNeg) else -1)) → K b L) → wX7_delay G 499 (xs (x4 + 1).toNatClampNeg) (xs (x4 + 2).toNatClampNeg) J K := by
    intro J K hR hk
    unfold wX7_delay
    refine rf_peers hR.2.1.2 oP (fun i1 i2 => ⟨fun _ => ?_, fun z => absurd rfl z⟩) (fun i => ⟨fun z => absurd z (by decide), fun _ => ?_⟩)
    · rw [thp_0 oP i1 i2] at hk
      have g := rg_up (v := 0) hR
      refine rf_up g.1.2.1.1 (i1.wd n8) ⟨fun z => hk _ _ g (fun _ => by rw [if_neg (by rw [ob_b0.mp z]; decide)]), fun z => ?_⟩
      have ix := ob_ix8 (i1.wd n8) (i2.wd n8)
      rw [ob_mc, g.1.2.1.2.2.2.1 _ (ix.cl (by decide))]
      exact ⟨(ix.wd (m := 128) (by decide)).in (by decide), hk _ _ g (fun _ => by rw [if_pos (ob_b1.mp z)]; rfl)⟩
    · rw [thp_1 oP i] at hk
      exact hk _ _ (rg_up hR) (fun e => (th_abs e).elim)
  exact cl _ (fun J hJ hv => rl _ _ (cg_rg hR hJ) (fun L b hL hb => ⟨hL.2.2, fun h0 => fin_v hL (hv h0) (hb h0), hk L (fin_g hJ hL ok1)⟩))
theorem case_7 {G : pm_G} {xs : Nat → Int32} {x4 : Int32} {I : pm_I} {K : pm_I → Prop} {c : Nat} (hG : gK G) (h : gS c I) (hc : c < 512) (hk : ∀ J, gS (c + 1) J → K J) : wC7 G xs x4 I K := by
  obtain ⟨len, txt, err, P, A, n, H, sv, S, hC, hR, ok⟩ := h
  have ok1 := ok.up (c' := c + 1) (by omega)
  have oP := ok.2.1
  have n8 := oP.1.1
  obtain ⟨p, hp, i3, w⟩ := hC.pl
  unfold wC7 wX7_thrown
  have cl : ∀ K : Int32 → pm_I → Prop, (∀ J, cg_P I J len txt err P A n H sv S → (ab_th2 P (xs (x4 + 1).toNatClampNeg) (xs (x4 + 2).toNatClampNeg) = 0 → J 515 0 = (if ab_stp A (xs (x4 + 2).toNatClampNeg) 7 (1 <<< ((xs (x4 + 1).toNatClampNeg) &&& 31)) 1 = (-1 : Int32) then (-1 : Int32) else ab_stp A (xs (x4 + 2).toNatClampNeg) 7 (1 <<< ((xs (x4 + 1).toNatClampNeg) &&& 31)) 1 - (1 : Int32))) → K (ab_th2 P (xs (x4 + 1).toNatClampNeg) (xs (x4 + 2).toNatClampNeg)) J) → wL_introductionsNeeded G 515 (xs (x4 + 1).toNatClampNeg) (xs (x4 + 2).toNatClampNeg) I K := by
    intro K hk
    unfold wL_introductionsNeeded wX6_introductionsNeeded
    refine cx_two hG hp i3 w oP (fun i1 i2 ne e => ?_) (fun e => Or.inl ⟨rfl, ?_⟩) (fun e => Or.inr ⟨rfl, ?_⟩)
    · rw [e] at hk
      refine cl_stp w.1 ⟨fun z I2 q2 => ?_, fun z I2 q2 => ?_⟩
      · subst q2
        have o := cg_out (I := I) (v := ab_stp A (xs (x4 + 2).toNatClampNeg) 7 (1 <<< ((xs (x4 + 1).toNatClampNeg) &&& 31)) 1 - (1 : Int32)) hC (fun _ _ => rfl)
        exact hk _ o.1 (fun _ => by rw [o.2, if_neg z])
      · subst q2
        have o := cg_out (I := I) (v := -1) hC (fun _ _ => rfl)
        exact hk _ o.1 (fun _ => by rw [o.2, if_pos z])
    · rw [e] at hk
      exact hk I (cg_id hC) (fun e => (th_abs e).elim)
    · rw [e] at hk
      exact hk I (cg_id hC) (fun e => (th_abs2 e).elim)
  have rl : ∀ (J : pm_I) (K : Int32 → pm_I → Prop), rg_R J len txt err P A n H sv S → (∀ L b, rg_P J L (ab_th2 P (xs (x4 + 1).toNatClampNeg) (xs (x4 + 2).toNatClampNeg)) len txt err P A n H sv S → (ab_th2 P (xs (x4 + 1).toNatClampNeg) (xs (x4 + 2).toNatClampNeg) = 0 → b = (if ab_stp A (xs (x4 + 2).toNatClampNeg) 7 (1 <<< ((xs (x4 + 1).toNatClampNeg) &&& 31)) 1 = (-1 : Int32) then (-1 : Int32) else ab_stp A (xs (x4 + 2).toNatClampNeg) 7 (1 <<< ((xs (x4 + 1).toNatClampNeg) &&& 31)) 1 - (1 : Int32))) → K b L) → wX7_introductionsNeeded G 499 (xs (x4 + 1).toNatClampNeg) (xs (x4 + 2).toNatClampNeg) J K := by
    intro J K hR hk
    unfold wX7_introductionsNeeded
    refine rx_two hR.2.1.2 oP (fun i1 i2 ne e => ⟨fun _ => ?_, fun z => absurd rfl z⟩) (fun e => ⟨fun z => absurd z (by decide), fun _ => hk _ _ (rg_up hR) (fun e' => absurd e' e)⟩)
    rw [e] at hk
    have g := rg_up (v := 0) hR
    rw [e]
    generalize pm_up J 499 0 0 = J1 at *
    obtain ⟨a, ha, ea⟩ := i1
    obtain ⟨b, hb, eb⟩ := i2
    rw [ea, eb] at hk ⊢
    have hval : ab_stp A (nI b) 8 (1 <<< (nI a &&& 31)) 0 = _ := stp_eq (A := A) (x := a) (y := b) (by omega) (by omega)
    rw [← hval] at hk
    have hK := ok.2.2.1.1.2.1
    have e0 : J1 (499 + 2) 0 = nI (ab_np P) := g.1.2.1.2.1.1.trans oP.1.2
    have r0 : ∀ k, ab_np P ≤ k → k < 8 → ab_bit ((1 : Int32) <<< (nI a &&& 31)) (nI k) = false := fun k h1 h2 => by
      rw [wd_one a (by omega) k h2]; exact decide_eq_false (by omega)
    refine ob_lp3 (fun i r s L => s = nI i ∧ L = J1 ∧ (∀ k, ab_np P ≤ k → k < 8 → ab_bit r (nI k) = false) ∧ ab_stp A (nI b) 8 (1 <<< (nI a &&& 31)) 0 = ab_stp A (nI b) (8 - i) r i) 8 ⟨rfl, rfl, r0, rfl⟩ ?_
    intro Q i r s L hi hI hQ
    obtain ⟨hs, hL, hr, he⟩ := hI
    subst hs; subst hL
    refine ⟨fun hc => ?_, fun hc => ?_⟩
    · have e8 := (ob_to (n := 8) (by decide) hi).1 hc
      subst e8
      exact hk L _ g (fun _ => he.symm)
    · have hl := (ob_to (n := 8) (by decide) hi).2 hc
      obtain ⟨f, hf⟩ : ∃ f, 8 - i = f + 1 := ⟨8 - i - 1, by omega⟩
      rw [hf] at he
      have he' : ab_stp A (nI b) 8 (1 <<< (nI a &&& 31)) 0 = if ab_bit (ab_wd A r 8) (nI b) = true then nI i else ab_stp A (nI b) f (ab_wd A r 8) (i + 1) := he
      refine ob_lp3 (fun k w z M => w = ab_wd A r k ∧ z = nI k ∧ M = L) (ab_np P) ⟨rfl, rfl, rfl⟩ ?_
      intro R k w z M hk' hI' hR'
      obtain ⟨hw, hz, hM⟩ := hI'
      subst hw; subst hz; subst hM
      rw [rf_c0, e0]
      refine ⟨fun hc2 => ?_, fun hc2 => ?_⟩
      · have ek := (ob_to (n := ab_np P) (by omega) hk').1 hc2
        rw [ek, wd_np n8 hr]
        refine rf_has ⟨fun z => ?_, fun z => ?_⟩
        · refine hQ _ _ _ hl ⟨nI_1 _, rfl, wd_ok n8 hK hr, ?_⟩
          rw [he', if_neg (by rw [ob_b0.mp z]; decide), show 8 - (i + 1) = f by omega]
        · refine hk _ _ g (fun _ => ?_)
          rw [he', if_pos (ob_b1.mp z)]
      · have hl2 := (ob_to (n := ab_np P) (by omega) hk').2 hc2
        have ew : ab_wd A r (k + 1) = if ab_bit r (nI k) = true then ab_wd A r k ||| A.2.2.1 k else ab_wd A r k := rfl
        refine rf_has ⟨fun z => ?_, fun z => ?_⟩
        · refine hR' _ _ _ hl2 ⟨?_, nI_1 _, rfl⟩
          rw [ob_or0, ew, if_neg (by rw [ob_b0.mp z]; decide)]
        · rw [show (1 : Int32) + nI k = nI (1 + k) from nI_add 1 k, nI_clamp (by omega), g.1.2.1.1.2.1 k (by omega)]
          refine ⟨vp_in_nI (by omega) (by decide), hR' _ _ _ hl2 ⟨?_, nI_1 _, rfl⟩⟩
          rw [ew, if_pos (ob_b1.mp z)]
  exact cl _ (fun J hJ hv => rl _ _ (cg_rg hR hJ) (fun L b hL hb => ⟨hL.2.2, fun h0 => fin_v hL (hv h0) (hb h0), hk L (fin_g hJ hL ok1)⟩))
theorem case_8 {G : pm_G} {xs : Nat → Int32} {x4 : Int32} {I : pm_I} {K : pm_I → Prop} {c : Nat} (hG : gK G) (h : gS c I) (hc : c < 512) (hk : ∀ J, gS (c + 1) J → K J) : wC8 G xs x4 I K := by
  obtain ⟨len, txt, err, P, A, n, H, sv, S, hC, hR, ok⟩ := h
  have ok1 := ok.up (c' := c + 1) (by omega)
  have oP := ok.2.1
  have n8 := oP.1.1
  obtain ⟨p, hp, i3, w⟩ := hC.pl
  unfold wC8 wX7_thrown
  have cl : ∀ K : Int32 → pm_I → Prop, (∀ J, cg_P I J len txt err P A n H sv S → (ab_th2 P (xs (x4 + 1).toNatClampNeg) (xs (x4 + 2).toNatClampNeg) = 0 → J 515 0 = ob_fs (fun k => ab_kn A (nI k) (xs (x4 + 1).toNatClampNeg) && ab_kn A (nI k) (xs (x4 + 2).toNatClampNeg)) (ab_np P) 0) → K (ab_th2 P (xs (x4 + 1).toNatClampNeg) (xs (x4 + 2).toNatClampNeg)) J) → wL_introducer G 515 (xs (x4 + 1).toNatClampNeg) (xs (x4 + 2).toNatClampNeg) I K := by
    intro K hk
    unfold wL_introducer wX6_introducer
    refine cx_two hG hp i3 w oP (fun i1 i2 ne e => ?_) (fun e => Or.inl ⟨rfl, ?_⟩) (fun e => Or.inr ⟨rfl, ?_⟩)
    · rw [e] at hk
      generalize hpp : (fun k => ab_kn A (nI k) (xs (x4 + 1).toNatClampNeg) && ab_kn A (nI k) (xs (x4 + 2).toNatClampNeg)) = pp at hk
      refine ob_lp2 (fun i z L => z = nI i ∧ L = I ∧ ob_fs pp (ab_np P) 0 = ob_fs pp (ab_np P - i) i) (ab_np P) ⟨rfl, rfl, rfl⟩ ?_
      intro Q i z L hi hI hQ
      obtain ⟨hz, hL, hs⟩ := hI
      subst hz; subst hL
      rw [i3, nI_clamp (by omega), show L p 0 = nI (ab_np P) from w.2.1.1.1.trans oP.1.2]
      refine ⟨hG.P hp, fun hc I2 q2 => ?_, fun hc => ?_⟩
      · have en := (ob_to (n := ab_np P) (by omega) hi).1 hc
        subst q2
        have o := cg_out (I := L) (v := -1) hC (fun _ _ => rfl)
        refine hk _ o.1 (fun _ => ?_)
        rw [o.2, hs, en, Nat.sub_self]; rfl
      · have hl := (ob_to (n := ab_np P) (by omega) hi).2 hc
        have hix : ob_ix 8 (nI i) := ⟨i, by omega, rfl⟩
        have hpi : pp i = (ab_kn A (nI i) (xs (x4 + 1).toNatClampNeg) && ab_kn A (nI i) (xs (x4 + 2).toNatClampNeg)) := by rw [← hpp]
        have no : pp i = false → Q (nI i + 1) L := fun e => hQ _ _ hl ⟨nI_1 _, rfl, hs.trans (ob_fs_f hl e)⟩
        refine cl_kn w.1 hix ⟨fun z => no ?_, fun z => cl_kn w.1 hix ⟨fun z2 => no ?_, fun z2 I2 q2 => ?_⟩⟩
        · rw [hpi, ob_b0.mp z]; rfl
        · rw [hpi, ob_b0.mp z2, Bool.and_false]
        · subst q2
          have o := cg_out (I := L) (v := nI i) hC (fun _ _ => rfl)
          refine hk _ o.1 (fun _ => ?_)
          rw [o.2, hs, ob_fs_t hl (by rw [hpi, ob_b1.mp z, ob_b1.mp z2]; rfl)]
    · rw [e] at hk
      exact hk I (cg_id hC) (fun e => (th_abs e).elim)
    · rw [e] at hk
      exact hk I (cg_id hC) (fun e => (th_abs2 e).elim)
  have rl : ∀ (J : pm_I) (K : Int32 → pm_I → Prop), rg_R J len txt err P A n H sv S → (∀ L b, rg_P J L (ab_th2 P (xs (x4 + 1).toNatClampNeg) (xs (x4 + 2).toNatClampNeg)) len txt err P A n H sv S → (ab_th2 P (xs (x4 + 1).toNatClampNeg) (xs (x4 + 2).toNatClampNeg) = 0 → b = ob_fs (fun k => ab_kn A (nI k) (xs (x4 + 1).toNatClampNeg) && ab_kn A (nI k) (xs (x4 + 2).toNatClampNeg)) (ab_np P) 0) → K b L) → wX7_introducer G 499 (xs (x4 + 1).toNatClampNeg) (xs (x4 + 2).toNatClampNeg) J K := by
    intro J K hR hk
    unfold wX7_introducer
    refine rx_two hR.2.1.2 oP (fun i1 i2 ne e => ⟨fun _ => ?_, fun z => absurd rfl z⟩) (fun e => ⟨fun z => absurd z (by decide), fun _ => hk _ _ (rg_up hR) (fun e' => absurd e' e)⟩)
    rw [e] at hk
    have g := rg_up (v := 0) hR
    rw [e]
    generalize pm_up J 499 0 0 = J1 at *
    have e0 : J1 (499 + 2) 0 = nI (ab_np P) := g.1.2.1.2.1.1.trans oP.1.2
    generalize hpp : (fun k => ab_kn A (nI k) (xs (x4 + 1).toNatClampNeg) && ab_kn A (nI k) (xs (x4 + 2).toNatClampNeg)) = pp at hk
    refine ob_lp2 (fun i z L => z = nI i ∧ L = J1 ∧ ob_fs pp (ab_np P) 0 = ob_fs pp (ab_np P - i) i) (ab_np P) ⟨rfl, rfl, rfl⟩ ?_
    intro Q i z L hi hI hQ
    obtain ⟨hz, hL, hs⟩ := hI
    subst hz; subst hL
    rw [rf_c0, e0]
    refine ⟨fun hc => ?_, fun hc => ?_⟩
    · have en := (ob_to (n := ab_np P) (by omega) hi).1 hc
      refine hk _ _ g (fun _ => ?_)
      rw [hs, en, Nat.sub_self]; rfl
    · have hl := (ob_to (n := ab_np P) (by omega) hi).2 hc
      have hix : ob_ix 8 (nI i) := ⟨i, by omega, rfl⟩
      have hpi : pp i = (ab_kn A (nI i) (xs (x4 + 1).toNatClampNeg) && ab_kn A (nI i) (xs (x4 + 2).toNatClampNeg)) := by rw [← hpp]
      have no : pp i = false → Q (nI i + 1) L := fun e => hQ _ _ hl ⟨nI_1 _, rfl, hs.trans (ob_fs_f hl e)⟩
      refine rf_kn g.1.2.1.1 hix ⟨fun z => no ?_, fun z => rf_kn g.1.2.1.1 hix ⟨fun z2 => no ?_, fun z2 => ?_⟩⟩
      · rw [hpi, ob_b0.mp z]; rfl
      · rw [hpi, ob_b0.mp z2, Bool.and_false]
      · refine hk _ _ g (fun _ => ?_)
        rw [hs, ob_fs_t hl (by rw [hpi, ob_b1.mp z, ob_b1.mp z2]; rfl)]
  exact cl _ (fun J hJ hv => rl _ _ (cg_rg hR hJ) (fun L b hL hb => ⟨hL.2.2, fun h0 => fin_v hL (hv h0) (hb h0), hk L (fin_g hJ hL ok1)⟩))
theorem case_9 {G : pm_G} {xs : Nat → Int32} {x4 : Int32} {I : pm_I} {K : pm_I → Prop} {c : Nat} (hG : gK G) (h : gS c I) (hc : c < 512) (hk : ∀ J, gS (c + 1) J → K J) : wC9 G xs x4 I K := by
  obtain ⟨len, txt, err, P, A, n, H, sv, S, hC, hR, ok⟩ := h
  have ok1 := ok.up (c' := c + 1) (by omega)
  have oP := ok.2.1
  have n8 := oP.1.1
  obtain ⟨p, hp, i3, w⟩ := hC.pl
  unfold wC9 wX7_thrown
  have cl : ∀ K : Int32 → pm_I → Prop, (∀ J, cg_P I J len txt err P A n H sv S → (ab_thp P (xs (x4 + 1).toNatClampNeg) (xs (x4 + 1).toNatClampNeg) = 0 → J 515 0 = nI (ab_ld A (xs (x4 + 1).toNatClampNeg))) → K (ab_thp P (xs (x4 + 1).toNatClampNeg) (xs (x4 + 1).toNatClampNeg)) J) → wL_load G 515 (xs (x4 + 1).toNatClampNeg) I K := by
    intro K hk
    unfold wL_load wX6_load
    refine cx_peer hG hp i3 w oP (fun i1 => ?_) (fun i => ⟨rfl, ?_⟩)
    · rw [thp_0 oP i1 i1] at hk
      refine cl_ld w.1 ok.2.2.1.1.2.2.2 (fun I2 q2 => ?_)
      subst q2
      have o := cg_out (I := I) (v := nI (ab_ld A (xs (x4 + 1).toNatClampNeg))) hC (fun _ _ => rfl)
      exact hk _ o.1 (fun _ => o.2)
    · rw [thp_1 oP (fun hh => i hh.1)] at hk
      exact hk I (cg_id hC) (fun e => (th_abs e).elim)
  have rl : ∀ (J : pm_I) (K : Int32 → pm_I → Prop), rg_R J len txt err P A n H sv S → (∀ L b, rg_P J L (ab_thp P (xs (x4 + 1).toNatClampNeg) (xs (x4 + 1).toNatClampNeg)) len txt err P A n H sv S → (ab_thp P (xs (x4 + 1).toNatClampNeg) (xs (x4 + 1).toNatClampNeg) = 0 → b = nI (ab_ld A (xs (x4 + 1).toNatClampNeg))) → K b L) → wX7_load G 499 (xs (x4 + 1).toNatClampNeg) J K := by
    intro J K hR hk
    unfold wX7_load
    refine rf_peers hR.2.1.2 oP (fun i1 i2 => ⟨fun _ => ?_, fun z => absurd rfl z⟩) (fun i => ⟨fun z => absurd z (by decide), fun _ => ?_⟩)
    · rw [thp_0 oP i1 i2] at hk
      have g := rg_up (v := 0) hR
      exact rf_ld g.1.2.1.1 (hk _ _ g (fun _ => rfl))
    · rw [thp_1 oP i] at hk
      exact hk _ _ (rg_up hR) (fun e => (th_abs e).elim)
  exact cl _ (fun J hJ hv => rl _ _ (cg_rg hR hJ) (fun L b hL hb => ⟨hL.2.2, fun h0 => fin_v hL (hv h0) (hb h0), hk L (fin_g hJ hL ok1)⟩))
/-- the class has chosen a relay: nothing but what the formula holds has changed -/
theorem cg_R.cz {len : Nat} {txt : Nat → Int32} {err : Int32} {P : aP} {A : aT} {n : Nat} {H : Nat → aT} {sv : Nat → Bool} {S : Nat → aT} {I L : pm_I} {p : Nat} (h : cg_R I len txt err P A n H sv S) (hp : p = 3 ∨ p = 11) (i3 : I 1 3 = nI p) (w : cl_W L (1 + 18) p A P) (f : ob_fr (cl_z (1 + 18) p) I L) : cg_R L len txt err P A n H sv S ∧ (∀ r, 499 ≤ r → L r = I r) :=
  ⟨h.nw i3 w (fun r h1 h2 => f r (fun hh => by rcases hh with hh | hh | hh <;> omega)), fun r hr => f r (fun hh => by rcases hh with hh | hh | hh <;> omega)⟩
theorem case_10 {G : pm_G} {xs : Nat → Int32} {x4 : Int32} {I : pm_I} {K : pm_I → Prop} {c : Nat} (hG : gK G) (h : gS c I) (hc : c < 512) (hk : ∀ J, gS (c + 1) J → K J) : wC10 G xs x4 I K := by
  obtain ⟨len, txt, err, P, A, n, H, sv, S, hC, hR, ok⟩ := h
  have ok1 := ok.up (c' := c + 1) (by omega)
  have oP := ok.2.1
  have n8 := oP.1.1
  obtain ⟨p, hp, i3, w⟩ := hC.pl
  unfold wC10 wX7_thrown
  have cl : ∀ K : Int32 → pm_I → Prop, (∀ J, cg_P I J len txt err P A n H sv S → (ab_th2 P (xs (x4 + 1).toNatClampNeg) (xs (x4 + 2).toNatClampNeg) = 0 → J 515 0 = ab_best P A (xs (x4 + 1).toNatClampNeg) (xs (x4 + 2).toNatClampNeg)) → K (ab_th2 P (xs (x4 + 1).toNatClampNeg) (xs (x4 + 2).toNatClampNeg)) J) → wL_bestRelay G 515 (xs (x4 + 1).toNatClampNeg) (xs (x4 + 2).toNatClampNeg) I K := by
    intro K hk
    unfold wL_bestRelay wX6_bestRelay
    refine cx_two hG hp i3 w oP (fun i1 i2 ne e => ?_) (fun e => Or.inl ⟨rfl, ?_⟩) (fun e => Or.inr ⟨rfl, ?_⟩)
    · rw [e] at hk
      rw [i3, nI_clamp (by omega)]
      refine ⟨hG.P hp, cl_best w oP ok.2.2.1.1.2.2.2 i1 i2 (fun L hL fL I2 q2 => ?_)⟩
      subst q2
      have cz := hC.cz hp i3 hL fL
      have o := cg_out (I := I) (v := ab_best P A (xs (x4 + 1).toNatClampNeg) (xs (x4 + 2).toNatClampNeg)) cz.1 cz.2
      exact hk _ o.1 (fun _ => o.2)
    · rw [e] at hk
      exact hk I (cg_id hC) (fun e => (th_abs e).elim)
    · rw [e] at hk
      exact hk I (cg_id hC) (fun e => (th_abs2 e).elim)
  have rl : ∀ (J : pm_I) (K : Int32 → pm_I → Prop), rg_R J len txt err P A n H sv S → (∀ L b, rg_P J L (ab_th2 P (xs (x4 + 1).toNatClampNeg) (xs (x4 + 2).toNatClampNeg)) len txt err P A n H sv S → (ab_th2 P (xs (x4 + 1).toNatClampNeg) (xs (x4 + 2).toNatClampNeg) = 0 → b = ab_best P A (xs (x4 + 1).toNatClampNeg) (xs (x4 + 2).toNatClampNeg)) → K b L) → wX7_bestRelay G 499 (xs (x4 + 1).toNatClampNeg) (xs (x4 + 2).toNatClampNeg) J K := by
    intro J K hR hk
    unfold wX7_bestRelay
    refine rx_two hR.2.1.2 oP (fun i1 i2 ne e => ⟨fun _ => ?_, fun z => absurd rfl z⟩) (fun e => ⟨fun z => absurd z (by decide), fun _ => hk _ _ (rg_up hR) (fun e' => absurd e' e)⟩)
    rw [e] at hk
    have g := rg_up (v := 0) hR
    rw [e]
    exact rf_best g.1.2.1 oP i1 i2 (fun L hL fL fL' => hk _ _ (rg_sc g hL fL') (fun _ => rfl))
  exact cl _ (fun J hJ hv => rl _ _ (cg_rg hR hJ) (fun L b hL hb => ⟨hL.2.2, fun h0 => fin_v hL (hv h0) (hb h0), hk L (fin_g hJ hL ok1)⟩))
theorem case_11 {G : pm_G} {xs : Nat → Int32} {x4 : Int32} {I : pm_I} {K : pm_I → Prop} {c : Nat} (hG : gK G) (h : gS c I) (hc : c < 512) (hk : ∀ J, gS (c + 1) J → K J) : wC11 G xs x4 I K := by
  obtain ⟨len, txt, err, P, A, n, H, sv, S, hC, hR, ok⟩ := h
  have ok1 := ok.up (c' := c + 1) (by omega)
  have oP := ok.2.1
  have n8 := oP.1.1
  obtain ⟨p, hp, i3, w⟩ := hC.pl
  unfold wC11 wX7_thrown
  have cl : ∀ K : Int32 → pm_I → Prop, (∀ J, cg_P I J len txt err P A n H sv S → ((if ab_th3 P (xs (x4 + 1).toNatClampNeg) (xs (x4 + 2).toNatClampNeg) (xs (x4 + 3).toNatClampNeg) = 0 then (if ab_can A (xs (x4 + 1).toNatClampNeg) (xs (x4 + 2).toNatClampNeg) (xs (x4 + 3).toNatClampNeg) = true then 0 else 3) else ab_th3 P (xs (x4 + 1).toNatClampNeg) (xs (x4 + 2).toNatClampNeg) (xs (x4 + 3).toNatClampNeg)) = 0 → J 515 0 = ab_sc P A (xs (x4 + 1).toNatClampNeg) (xs (x4 + 2).toNatClampNeg) (xs (x4 + 3).toNatClampNeg)) → K ((if ab_th3 P (xs (x4 + 1).toNatClampNeg) (xs (x4 + 2).toNatClampNeg) (xs (x4 + 3).toNatClampNeg) = 0 then (if ab_can A (xs (x4 + 1).toNatClampNeg) (xs (x4 + 2).toNatClampNeg) (xs (x4 + 3).toNatClampNeg) = true then 0 else 3) else ab_th3 P (xs (x4 + 1).toNatClampNeg) (xs (x4 + 2).toNatClampNeg) (xs (x4 + 3).toNatClampNeg))) J) → wL_relayScore G 515 (xs (x4 + 1).toNatClampNeg) (xs (x4 + 2).toNatClampNeg) (xs (x4 + 3).toNatClampNeg) I K := by
    intro K hk
    unfold wL_relayScore wX6_relayScore
    refine cx_three hG hp i3 w oP (fun i1 i2 i3' ne e => ?_) (fun e => Or.inl ⟨rfl, ?_⟩) (fun e => Or.inr (Or.inl ⟨rfl, ?_⟩))
    · rw [if_pos e] at hk
      refine cl_can w.1 (i1.wd n8) ⟨fun z => ?_, fun z => Or.inr (Or.inr ⟨rfl, ?_⟩)⟩
      · rw [if_pos (ob_b1.mp z)] at hk
        rw [i3, nI_clamp (by omega)]
        refine ⟨hG.P hp, cl_sc w oP ok.2.2.1.1.2.2.2 i1 i2 i3' (fun L hL fL I2 q2 => ?_)⟩
        subst q2
        have cz := hC.cz hp i3 hL fL
        have o := cg_out (I := I) (v := ab_sc P A (xs (x4 + 1).toNatClampNeg) (xs (x4 + 2).toNatClampNeg) (xs (x4 + 3).toNatClampNeg)) cz.1 cz.2
        exact hk _ o.1 (fun _ => o.2)
      · rw [if_neg (by rw [ob_b0.mp z]; decide)] at hk
        exact hk I (cg_id hC) (fun e => (th_abs3 e).elim)
    · rw [if_neg (by rw [e]; decide), e] at hk
      exact hk I (cg_id hC) (fun e => (th_abs e).elim)
    · rw [if_neg (by rw [e]; decide), e] at hk
      exact hk I (cg_id hC) (fun e => (th_abs2 e).elim)
  have rl : ∀ (J : pm_I) (K : Int32 → pm_I → Prop), rg_R J len txt err P A n H sv S → (∀ L b, rg_P J L ((if ab_th3 P (xs (x4 + 1).toNatClampNeg) (xs (x4 + 2).toNatClampNeg) (xs (x4 + 3).toNatClampNeg) = 0 then (if ab_can A (xs (x4 + 1).toNatClampNeg) (xs (x4 + 2).toNatClampNeg) (xs (x4 + 3).toNatClampNeg) = true then 0 else 3) else ab_th3 P (xs (x4 + 1).toNatClampNeg) (xs (x4 + 2).toNatClampNeg) (xs (x4 + 3).toNatClampNeg))) len txt err P A n H sv S → ((if ab_th3 P (xs (x4 + 1).toNatClampNeg) (xs (x4 + 2).toNatClampNeg) (xs (x4 + 3).toNatClampNeg) = 0 then (if ab_can A (xs (x4 + 1).toNatClampNeg) (xs (x4 + 2).toNatClampNeg) (xs (x4 + 3).toNatClampNeg) = true then 0 else 3) else ab_th3 P (xs (x4 + 1).toNatClampNeg) (xs (x4 + 2).toNatClampNeg) (xs (x4 + 3).toNatClampNeg)) = 0 → b = ab_sc P A (xs (x4 + 1).toNatClampNeg) (xs (x4 + 2).toNatClampNeg) (xs (x4 + 3).toNatClampNeg)) → K b L) → wX7_relayScore G 499 (xs (x4 + 1).toNatClampNeg) (xs (x4 + 2).toNatClampNeg) (xs (x4 + 3).toNatClampNeg) J K := by
    intro J K hR hk
    unfold wX7_relayScore
    refine rx_three hR.2.1.2 oP (fun i1 i2 i3' ne e => ⟨fun z => absurd rfl z, fun _ => ?_⟩) (fun e => ⟨fun _ => ?_, fun z => absurd z (by decide)⟩)
    · rw [if_pos e] at hk
      have g := rg_up (v := 0) hR
      refine rf_can g.1.2.1.1 (i1.wd n8) ⟨fun z => rf_thF (ob_us _ _ _ _) ⟨fun _ => ?_, fun z => absurd rfl z⟩, fun z => rf_thT (ob_us _ _ _ _) (by decide) ⟨fun z => absurd z (by decide), fun _ => ?_⟩⟩
      · rw [if_pos (ob_b1.mp z)] at hk
        exact rf_sc' g.1.2.1 oP i1 i2 i3' (fun L hL fL => hk _ _ (rg_sc g hL (fun x h1 h2 => fL x (fun hh => hh.elim h1 h2))) (fun _ => rfl))
      · rw [if_neg (by rw [ob_b0.mp z]; decide)] at hk
        rw [ob_uu]
        exact hk _ _ (rg_up hR) (fun e => (th_abs3 e).elim)
    · rw [if_neg e] at hk
      exact hk _ _ (rg_up hR) (fun e' => absurd e' e)
  exact cl _ (fun J hJ hv => rl _ _ (cg_rg hR hJ) (fun L b hL hb => ⟨hL.2.2, fun h0 => fin_v hL (hv h0) (hb h0), hk L (fin_g hJ hL ok1)⟩))
theorem case_13 {G : pm_G} {xs : Nat → Int32} {x4 : Int32} {I : pm_I} {K : pm_I → Prop} {c : Nat} (hG : gK G) (h : gS c I) (hc : c < 512) (hk : ∀ J, gS (c + 1) J → K J) : wC13 G xs x4 I K := by
  obtain ⟨len, txt, err, P, A, n, H, sv, S, hC, hR, ok⟩ := h
  have ok1 := ok.up (c' := c + 1) (by omega)
  have oP := ok.2.1
  have n8 := oP.1.1
  obtain ⟨p, hp, i3, w⟩ := hC.pl
  unfold wC13 wX7_thrown
  have cl : ∀ K : Int32 → pm_I → Prop, (∀ J, cg_P I J len txt err P A n H sv S → (ab_th2 P (xs (x4 + 1).toNatClampNeg) (xs (x4 + 2).toNatClampNeg) = 0 → J 515 0 = ab_find A (xs (x4 + 1).toNatClampNeg) (xs (x4 + 2).toNatClampNeg)) → K (ab_th2 P (xs (x4 + 1).toNatClampNeg) (xs (x4 + 2).toNatClampNeg)) J) → wL_session G 515 (xs (x4 + 1).toNatClampNeg) (xs (x4 + 2).toNatClampNeg) I K := by
    intro K hk
    unfold wL_session wX6_session
    refine cx_two hG hp i3 w oP (fun i1 i2 ne e => ?_) (fun e => Or.inl ⟨rfl, ?_⟩) (fun e => Or.inr ⟨rfl, ?_⟩)
    · rw [e] at hk
      refine cl_find w.1 ok.2.2.1.1.2.2.2 (fun I2 q2 => ?_)
      subst q2
      have o := cg_out (I := I) (v := ab_find A (xs (x4 + 1).toNatClampNeg) (xs (x4 + 2).toNatClampNeg)) hC (fun _ _ => rfl)
      exact hk _ o.1 (fun _ => o.2)
    · rw [e] at hk
      exact hk I (cg_id hC) (fun e => (th_abs e).elim)
    · rw [e] at hk
      exact hk I (cg_id hC) (fun e => (th_abs2 e).elim)
  have rl : ∀ (J : pm_I) (K : Int32 → pm_I → Prop), rg_R J len txt err P A n H sv S → (∀ L b, rg_P J L (ab_th2 P (xs (x4 + 1).toNatClampNeg) (xs (x4 + 2).toNatClampNeg)) len txt err P A n H sv S → (ab_th2 P (xs (x4 + 1).toNatClampNeg) (xs (x4 + 2).toNatClampNeg) = 0 → b = ab_find A (xs (x4 + 1).toNatClampNeg) (xs (x4 + 2).toNatClampNeg)) → K b L) → wX7_session G 499 (xs (x4 + 1).toNatClampNeg) (xs (x4 + 2).toNatClampNeg) J K := by
    intro J K hR hk
    unfold wX7_session
    refine rx_two hR.2.1.2 oP (fun i1 i2 ne e => ⟨fun _ => ?_, fun z => absurd rfl z⟩) (fun e => ⟨fun z => absurd z (by decide), fun _ => hk _ _ (rg_up hR) (fun e' => absurd e' e)⟩)
    rw [e] at hk
    have g := rg_up (v := 0) hR
    rw [e]
    exact rf_find g.1.2.1.1 (hk _ _ g (fun _ => rfl))
  exact cl _ (fun J hJ hv => rl _ _ (cg_rg hR hJ) (fun L b hL hb => ⟨hL.2.2, fun h0 => fin_v hL (hv h0) (hb h0), hk L (fin_g hJ hL ok1)⟩))
