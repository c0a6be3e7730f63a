/-! ===== the calls that ask (3) ===== -/
def ab_bs (p : Nat → Bool) : Nat → Int32
  | 0 => 0
  | n + 1 => if p n = true then ab_bs p n ||| (1 <<< (nI n &&& 31)) else ab_bs p n
theorem case_12 {G : pm_G} {xs : Nat → Int32} {x4 : Int32} {I : pm_I} {K : pm_I → Prop} {c : Nat} (hG : gK G) (h : gS c I) (hc : c < 512) (hk : ∀ J, gS (c + 1) J → K J) : wC12 G xs x4 I K := by
  obtain ⟨len, txt, err, P, A, n, H, sv, S, hC, hR, ok⟩ := h
  have ok1 := ok.up (c' := c + 1) (by omega)
  have oP := ok.2.1
  have n8 := oP.1.1
  obtain ⟨p, hp, i3, w⟩ := hC.pl
  unfold wC12 wX6_sessions wX7_sessions
  have h01 := ok.2.2.1.1.2.2.2
  refine ob_lp3 (fun i b z L => b = ab_bs (fun k => decide ((A.2.2.2 k).1 0 = 1)) i ∧ z = nI i ∧ L = I) 6 ⟨rfl, rfl, rfl⟩ ?_
  intro Q i b z L hi hI hQ
  obtain ⟨hb, hz, hL⟩ := hI
  subst hb; subst hz; subst hL
  have eb : ab_bs (fun k => decide ((A.2.2.2 k).1 0 = 1)) (i + 1) = if decide ((A.2.2.2 i).1 0 = 1) = true then ab_bs (fun k => decide ((A.2.2.2 k).1 0 = 1)) i ||| (1 <<< (nI i &&& 31)) else ab_bs (fun k => decide ((A.2.2.2 k).1 0 = 1)) i := rfl
  refine ⟨fun hc => ?_, fun hc => ?_⟩
  · have e := (ob_to (n := 6) (by decide) hi).1 hc
    subst e
    intro I1 q1
    have g := rg_up (v := 0) hR
    rw [← q1] at g
    refine ob_lp3 (fun i b z M => b = ab_bs (fun k => decide ((A.2.2.2 k).1 0 = 1)) i ∧ z = nI i ∧ M = I1) 6 ⟨rfl, rfl, rfl⟩ ?_
    intro R i b z M hi hI hR'
    obtain ⟨hb, hz, hM⟩ := hI
    subst hb; subst hz; subst hM
    have eb : ab_bs (fun k => decide ((A.2.2.2 k).1 0 = 1)) (i + 1) = if decide ((A.2.2.2 i).1 0 = 1) = true then ab_bs (fun k => decide ((A.2.2.2 k).1 0 = 1)) i ||| (1 <<< (nI i &&& 31)) else ab_bs (fun k => decide ((A.2.2.2 k).1 0 = 1)) i := rfl
    refine ⟨fun hc => ?_, fun hc => ?_⟩
    · have e := (ob_to (n := 6) (by decide) hi).1 hc
      subst e
      exact ⟨rfl, hk _ (fin_g (cg_id hC) g ok1)⟩
    · have hl := (ob_to (n := 6) (by decide) hi).2 hc
      refine rf_isOpen g.1.2.1.1 hl ⟨fun z => hR' _ _ _ hl ⟨?_, nI_1 _, rfl⟩, fun z => hR' _ _ _ hl ⟨?_, nI_1 _, rfl⟩⟩
      · rw [eb, ob_b0.mp z, ob_or0]; rfl
      · rw [eb, ob_b1.mp z]; rfl
  · have hl := (ob_to (n := 6) (by decide) hi).2 hc
    rw [nI_clamp (by omega), (w.1.2.2.2 i hl).1 0 (by decide)]
    refine ⟨vp_in_nI hl (by decide), fun z => hQ _ _ _ hl ⟨?_, nI_1 _, rfl⟩, fun z => hQ _ _ _ hl ⟨?_, nI_1 _, rfl⟩⟩
    · rw [eb, decide_eq_false (by rw [z]; decide)]; rfl
    · rw [eb, decide_eq_true ((h01 i hl).resolve_left z)]; rfl
theorem case_17 {G : pm_G} {xs : Nat → Int32} {x4 : Int32} {I : pm_I} {K : pm_I → Prop} {c : Nat} (hG : gK G) (h : gS c I) (hc : c < 512) (hk : ∀ J, gS (c + 1) J → K J) : wC17 G xs x4 I K := by
  obtain ⟨len, txt, err, P, A, n, H, sv, S, hC, hR, ok⟩ := h
  have ok1 := ok.up (c' := c + 1) (by omega)
  have oP := ok.2.1
  have n8 := oP.1.1
  obtain ⟨p, hp, i3, w⟩ := hC.pl
  unfold wC17 wX7_thrown
  have cl : ∀ K : Int32 → pm_I → Prop, (∀ J, cg_P I J len txt err P A n H sv S → ((if ab_ths A (xs (x4 + 1).toNatClampNeg) = 0 then (if 0 ≤ (xs (x4 + 2).toNatClampNeg) ∧ (xs (x4 + 2).toNatClampNeg) ≤ 3 then (0 : Int32) else 2) else (1 : Int32)) = 0 → J 515 0 = (if (xs (x4 + 2).toNatClampNeg) = 3 then (ab_sx A (xs (x4 + 1).toNatClampNeg)).1 8 else nI (ab_cs (ab_sx A (xs (x4 + 1).toNatClampNeg)) (xs (x4 + 2).toNatClampNeg)))) → K ((if ab_ths A (xs (x4 + 1).toNatClampNeg) = 0 then (if 0 ≤ (xs (x4 + 2).toNatClampNeg) ∧ (xs (x4 + 2).toNatClampNeg) ≤ 3 then (0 : Int32) else 2) else (1 : Int32))) J) → wL_messages G 515 (xs (x4 + 1).toNatClampNeg) (xs (x4 + 2).toNatClampNeg) I K := by
    intro K hk
    unfold wL_messages wX6_messages
    refine cx_ses w.1 ok.2.2.1.1.2.2.2 (fun i hi hx h0 e => ⟨hG.S hi, ?_⟩) (fun e => Or.inl ⟨rfl, ?_⟩)
    · rw [if_pos e] at hk
      have esx : ab_sx A (xs (x4 + 1).toNatClampNeg) = A.2.2.2 i := by unfold ab_sx; rw [hx, nI_clamp (by omega)]
      rw [esx] at hk
      refine ⟨fun z => Or.inr ⟨rfl, ?_⟩, fun z => ⟨fun z2 => ?_, fun z2 => Or.inr ⟨rfl, ?_⟩⟩⟩
      · rw [if_neg (fun hh => absurd z (Int32.not_lt.mpr hh.1))] at hk
        exact hk I (cg_id hC) (fun e => (th_abs2 e).elim)
      · rw [if_pos ⟨Int32.not_lt.mp z, z2⟩] at hk
        refine ⟨fun z3 => ?_, fun z3 I2 q2 => ?_⟩
        · obtain ⟨d, g⟩ := (ok.2.2.1.1.2.2.1 i hi h0).g h0 (by omega)
          refine cl_cs (w.1.2.2.2 i hi) g (fun I2 q2 => ?_)
          subst q2
          have o := cg_out (I := I) (v := nI (ab_cs (A.2.2.2 i) (xs (x4 + 2).toNatClampNeg))) hC (fun _ _ => rfl)
          exact hk _ o.1 (fun _ => by rw [o.2, if_neg z3])
        · subst q2
          rw [(w.1.2.2.2 i hi).1 8 (by decide)]
          have o := cg_out (I := I) (v := (A.2.2.2 i).1 8) hC (fun _ _ => rfl)
          exact hk _ o.1 (fun _ => by rw [o.2, if_pos z3])
      · rw [if_neg (fun hh => z2 hh.2)] at hk
        exact hk I (cg_id hC) (fun e => (th_abs2 e).elim)
    · rw [if_neg (by rw [e]; decide)] at hk
      exact hk I (cg_id hC) (fun e => (th_abs e).elim)
  have rl : ∀ (J : pm_I) (K : Int32 → pm_I → Prop), rg_R J len txt err P A n H sv S → (∀ L b, rg_P J L ((if ab_ths A (xs (x4 + 1).toNatClampNeg) = 0 then (if 0 ≤ (xs (x4 + 2).toNatClampNeg) ∧ (xs (x4 + 2).toNatClampNeg) ≤ 3 then (0 : Int32) else 2) else (1 : Int32))) len txt err P A n H sv S → ((if ab_ths A (xs (x4 + 1).toNatClampNeg) = 0 then (if 0 ≤ (xs (x4 + 2).toNatClampNeg) ∧ (xs (x4 + 2).toNatClampNeg) ≤ 3 then (0 : Int32) else 2) else (1 : Int32)) = 0 → b = (if (xs (x4 + 2).toNatClampNeg) = 3 then (ab_sx A (xs (x4 + 1).toNatClampNeg)).1 8 else nI (ab_cs (ab_sx A (xs (x4 + 1).toNatClampNeg)) (xs (x4 + 2).toNatClampNeg)))) → K b L) → wX7_messages G 499 (xs (x4 + 1).toNatClampNeg) (xs (x4 + 2).toNatClampNeg) J K := by
    intro J K hR hk
    unfold wX7_messages
    refine rx_ses hR.2.1.1 (fun i hi hx h0 e => ⟨fun z => absurd rfl z, fun _ => ?_⟩) (fun e => ⟨fun _ => ?_, fun z => absurd z (by decide)⟩)
    · rw [if_pos e] at hk
      have g := rg_up (v := 0) hR
      have esx : ab_sx A (xs (x4 + 1).toNatClampNeg) = A.2.2.2 i := by unfold ab_sx; rw [hx, nI_clamp (by omega)]
      rw [esx] at hk
      have hO := (g.1.2.1.1.2.2.2 i hi).1 h0
      refine rf_within ⟨fun z => rf_thF (ob_us _ _ _ _) ⟨fun _ => ?_, fun z => absurd rfl z⟩, fun z => rf_thT (ob_us _ _ _ _) (by decide) ⟨fun z => absurd z (by decide), fun _ => ?_⟩⟩
      · rw [if_pos (of_decide_eq_true (ob_b1.mp z))] at hk
        rw [hx]
        refine ⟨fun z3 => ?_, fun z3 => rf_of (j := 8) rfl ⟨vp_in_nI (by omega) (by decide), hk _ _ g (fun _ => ?_)⟩⟩
        · obtain ⟨d, gg⟩ := (ok.2.2.1.1.2.2.1 i hi h0).g h0 (by omega)
          exact rf_cs hO gg hi (hk _ _ g (fun _ => by rw [if_neg z3]))
        · rw [nI_clamp (by omega), if_pos z3]; exact hO.1 8 (by decide)
      · rw [if_neg (of_decide_eq_false (ob_b0.mp z))] at hk
        rw [ob_uu]
        exact hk _ _ (rg_up hR) (fun e => (th_abs2 e).elim)
    · rw [if_neg (by rw [e]; decide)] at hk
      exact hk _ _ (rg_up hR) (fun e => (th_abs e).elim)
  exact cl _ (fun J hJ hv => rl _ _ (cg_rg hR hJ) (fun L b hL hb => ⟨hL.2.2, fun h0 => fin_v hL (hv h0) (hb h0), hk L (fin_g hJ hL ok1)⟩))
theorem case_18 {G : pm_G} {xs : Nat → Int32} {x4 : Int32} {I : pm_I} {K : pm_I → Prop} {c : Nat} (hG : gK G) (h : gS c I) (hc : c < 512) (hk : ∀ J, gS (c + 1) J → K J) : wC18 G xs x4 I K := by
  obtain ⟨len, txt, err, P, A, n, H, sv, S, hC, hR, ok⟩ := h
  have ok1 := ok.up (c' := c + 1) (by omega)
  have oP := ok.2.1
  have n8 := oP.1.1
  obtain ⟨p, hp, i3, w⟩ := hC.pl
  unfold wC18 wX7_thrown
  have cl : ∀ K : Int32 → pm_I → Prop, (∀ J, cg_P I J len txt err P A n H sv S → ((if ab_ths A (xs (x4 + 1).toNatClampNeg) = 0 then (if (ab_sx A (xs (x4 + 1).toNatClampNeg)).1 8 = 0 then (2 : Int32) else 0) else (1 : Int32)) = 0 → J 515 0 = (ab_sx A (xs (x4 + 1).toNatClampNeg)).1 11) → K ((if ab_ths A (xs (x4 + 1).toNatClampNeg) = 0 then (if (ab_sx A (xs (x4 + 1).toNatClampNeg)).1 8 = 0 then (2 : Int32) else 0) else (1 : Int32))) J) → wL_lastValue G 515 (xs (x4 + 1).toNatClampNeg) I K := by
    intro K hk
    unfold wL_lastValue wX6_lastValue
    refine cx_ses w.1 ok.2.2.1.1.2.2.2 (fun i hi hx h0 e => ⟨hG.S hi, ?_⟩) (fun e => Or.inl ⟨rfl, ?_⟩)
    · rw [if_pos e] at hk
      have esx : ab_sx A (xs (x4 + 1).toNatClampNeg) = A.2.2.2 i := by unfold ab_sx; rw [hx, nI_clamp (by omega)]
      rw [esx] at hk
      rw [(w.1.2.2.2 i hi).1 8 (by decide), (w.1.2.2.2 i hi).1 11 (by decide)]
      refine ⟨fun z I2 q2 => ?_, fun z => Or.inr ⟨rfl, ?_⟩⟩
      · rw [if_neg z] at hk
        subst q2
        have o := cg_out (I := I) (v := (A.2.2.2 i).1 11) hC (fun _ _ => rfl)
        exact hk _ o.1 (fun _ => o.2)
      · rw [if_pos z] at hk
        exact hk I (cg_id hC) (fun e => (th_abs2 e).elim)
    · rw [if_neg (by rw [e]; decide)] at hk
      exact hk I (cg_id hC) (fun e => (th_abs e).elim)
  have rl : ∀ (J : pm_I) (K : Int32 → pm_I → Prop), rg_R J len txt err P A n H sv S → (∀ L b, rg_P J L ((if ab_ths A (xs (x4 + 1).toNatClampNeg) = 0 then (if (ab_sx A (xs (x4 + 1).toNatClampNeg)).1 8 = 0 then (2 : Int32) else 0) else (1 : Int32))) len txt err P A n H sv S → ((if ab_ths A (xs (x4 + 1).toNatClampNeg) = 0 then (if (ab_sx A (xs (x4 + 1).toNatClampNeg)).1 8 = 0 then (2 : Int32) else 0) else (1 : Int32)) = 0 → b = (ab_sx A (xs (x4 + 1).toNatClampNeg)).1 11) → K b L) → wX7_lastValue G 499 (xs (x4 + 1).toNatClampNeg) J K := by
    intro J K hR hk
    unfold wX7_lastValue
    refine rx_ses hR.2.1.1 (fun i hi hx h0 e => ⟨fun z => absurd rfl z, fun _ => ?_⟩) (fun e => ⟨fun _ => ?_, fun z => absurd z (by decide)⟩)
    · rw [if_pos e] at hk
      have g := rg_up (v := 0) hR
      have esx : ab_sx A (xs (x4 + 1).toNatClampNeg) = A.2.2.2 i := by unfold ab_sx; rw [hx, nI_clamp (by omega)]
      rw [esx] at hk
      have hO := (g.1.2.1.1.2.2.2 i hi).1 h0
      have e8 : pm_up J 499 0 0 (499 + 1) (17 + 134 * i + 8) = (A.2.2.2 i).1 8 := hO.1 8 (by decide)
      rw [hx]
      refine rf_of (j := 8) rfl ⟨vp_in_nI (by omega) (by decide), ?_⟩
      rw [nI_clamp (by omega), e8]
      refine ⟨fun z => rf_thF (ob_us _ _ _ _) ⟨fun _ => rf_of (j := 10) rfl ⟨vp_in_nI (by omega) (by decide), ?_⟩, fun z => absurd rfl z⟩, fun z => rf_thT (ob_us _ _ _ _) (by decide) ⟨fun z => absurd z (by decide), fun _ => ?_⟩⟩
      · rw [if_neg z] at hk
        refine hk _ _ g (fun _ => ?_)
        rw [nI_clamp (by omega)]; exact hO.1 10 (by decide)
      · rw [if_pos z] at hk
        rw [ob_uu]
        exact hk _ _ (rg_up hR) (fun e => (th_abs2 e).elim)
    · rw [if_neg (by rw [e]; decide)] at hk
      exact hk _ _ (rg_up hR) (fun e => (th_abs e).elim)
  exact cl _ (fun J hJ hv => rl _ _ (cg_rg hR hJ) (fun L b hL hb => ⟨hL.2.2, fun h0 => fin_v hL (hv h0) (hb h0), hk L (fin_g hJ hL ok1)⟩))
theorem case_21 {G : pm_G} {xs : Nat → Int32} {x4 : Int32} {I : pm_I} {K : pm_I → Prop} {c : Nat} (hG : gK G) (h : gS c I) (hc : c < 512) (hk : ∀ J, gS (c + 1) J → K J) : wC21 G xs x4 I K := by
  obtain ⟨len, txt, err, P, A, n, H, sv, S, hC, hR, ok⟩ := h
  have ok1 := ok.up (c' := c + 1) (by omega)
  have oP := ok.2.1
  have n8 := oP.1.1
  obtain ⟨p, hp, i3, w⟩ := hC.pl
  unfold wC21 wX7_thrown
  have cl : ∀ K : Int32 → pm_I → Prop, (∀ J, cg_P I J len txt err P A n H sv S → (ab_ths A (xs (x4 + 1).toNatClampNeg) = 0 → J 515 0 = ab_fk (ab_sx A (xs (x4 + 1).toNatClampNeg))) → K (ab_ths A (xs (x4 + 1).toNatClampNeg)) J) → wL_oldestKey G 515 (xs (x4 + 1).toNatClampNeg) I K := by
    intro K hk
    unfold wL_oldestKey wX6_oldestKey
    refine cx_ses w.1 ok.2.2.1.1.2.2.2 (fun i hi hx h0 e => ⟨hG.S hi, ?_⟩) (fun e => ⟨rfl, ?_⟩)
    · rw [e] at hk
      have esx : ab_sx A (xs (x4 + 1).toNatClampNeg) = A.2.2.2 i := by unfold ab_sx; rw [hx, nI_clamp (by omega)]
      rw [esx] at hk
      obtain ⟨d, g⟩ := (ok.2.2.1.1.2.2.1 i hi h0).g h0 (by omega)
      refine cl_fk (w.1.2.2.2 i hi) g (fun I2 q2 => ?_)
      subst q2
      have o := cg_out (I := I) (v := ab_fk (A.2.2.2 i)) hC (fun _ _ => rfl)
      exact hk _ o.1 (fun _ => o.2)
    · rw [e] at hk
      exact hk I (cg_id hC) (fun e => (th_abs e).elim)
  have rl : ∀ (J : pm_I) (K : Int32 → pm_I → Prop), rg_R J len txt err P A n H sv S → (∀ L b, rg_P J L (ab_ths A (xs (x4 + 1).toNatClampNeg)) len txt err P A n H sv S → (ab_ths A (xs (x4 + 1).toNatClampNeg) = 0 → b = ab_fk (ab_sx A (xs (x4 + 1).toNatClampNeg))) → K b L) → wX7_oldestKey G 499 (xs (x4 + 1).toNatClampNeg) J K := by
    intro J K hR hk
    unfold wX7_oldestKey
    refine rx_ses hR.2.1.1 (fun i hi hx h0 e => ⟨fun _ => ?_, fun z => absurd rfl z⟩) (fun e => ⟨fun z => absurd z (by decide), fun _ => ?_⟩)
    · rw [e] at hk
      have g := rg_up (v := 0) hR
      have esx : ab_sx A (xs (x4 + 1).toNatClampNeg) = A.2.2.2 i := by unfold ab_sx; rw [hx, nI_clamp (by omega)]
      rw [esx] at hk
      have hO := (g.1.2.1.1.2.2.2 i hi).1 h0
      obtain ⟨d, gg⟩ := (ok.2.2.1.1.2.2.1 i hi h0).g h0 (by omega)
      have hn := gg.2.2.2.2
      unfold ab_fk at hk
      rw [hx]
      refine rf_und hO gg hi ⟨fun z => rf_of (j := 11) rfl ⟨vp_in_nI (by omega) (by decide), hk _ _ g (fun _ => ?_)⟩, fun z => rf_msg (k := 0) rfl ?_⟩
      · have z0 := (nI_leI (a := (A.2.2.2 i).2.1) (b := 0) (by omega) (by omega)).mp z
        rw [nI_clamp (by omega), if_pos (by omega)]; exact hO.1 11 (by decide)
      · have z0 : (A.2.2.2 i).2.1 ≠ 0 := fun hh => z (by rw [hh]; exact Int32.le_refl 0)
        rw [Nat.mul_zero, Nat.add_zero, show nI (17 + 134 * i + 14) + 2 = nI (17 + 134 * i + 14 + 2) from nI_add _ 2, nI_clamp (by omega)]
        refine ⟨vp_in_nI (by omega) (by decide), hk _ _ g (fun _ => ?_)⟩
        rw [if_neg z0]
        have m0 := hO.2.2 0 (by omega)
        rw [Nat.mul_zero, Nat.add_zero] at m0
        exact m0.2.2.1
    · rw [e] at hk
      exact hk _ _ (rg_up hR) (fun e => (th_abs e).elim)
  exact cl _ (fun J hJ hv => rl _ _ (cg_rg hR hJ) (fun L b hL hb => ⟨hL.2.2, fun h0 => fin_v hL (hv h0) (hb h0), hk L (fin_g hJ hL ok1)⟩))
