/-! ===== the calls that ask ===== -/
section GQ
variable {len : Nat} {txt : Nat → Int32} {err : Int32} {P : aP} {A : aT} {n : Nat} {H : Nat → aT} {sv : Nat → Bool} {S : Nat → aT} {I J L : pm_I} {G : pm_G} {c : Nat}
theorem cg_out {v : Int32} (h : cg_R L len txt err P A n H sv S) (f : ∀ r, 499 ≤ r → L r = I r) : cg_P I (pm_up L 515 0 v) len txt err P A n H sv S ∧ pm_up L 515 0 v 515 0 = v :=
  ⟨⟨h.fr (fun r hr => ob_ur (by omega)), fun r h1 h2 => by rw [ob_ur h2]; exact f r h1⟩, ob_us _ _ _ _⟩
theorem cg_id (h : cg_R I len txt err P A n H sv S) : cg_P I I len txt err P A n H sv S := ⟨h, fun _ _ _ => rfl⟩
theorem rg_up {v : Int32} (h : rg_R I len txt err P A n H sv S) : rg_P I (pm_up I 499 0 v) v len txt err P A n H sv S := by
  refine ⟨h.nw ⟨by rw [ob_ur (by decide)]; exact h.2.1.1, h.2.1.2.rw (fun r h1 h2 => ob_ur (by omega))⟩ (fun r h1 h2 _ _ _ => ob_ur (by omega)) (fun j hj => ob_uq hj), fun r hr => ob_ur (by omega), ob_us _ _ _ _⟩
/-- the reference has changed what it works with, besides -/
theorem rg_sc {v : Int32} (h : rg_P I J v len txt err P A n H sv S) (w : rf_W L 499 A P) (f : ∀ x, x ≠ 499 + 10 → x ≠ 499 + 11 → L x = J x) : rg_P I L v len txt err P A n H sv S :=
  ⟨h.1.nw w (fun r h1 h2 h3 h4 _ => f r h3 h4) (fun j _ => by rw [f 499 (by decide) (by decide)]), fun r hr => by rw [f r (by omega) (by omega)]; exact h.2.1 r hr, by rw [f 499 (by decide) (by decide)]; exact h.2.2⟩
theorem fin_g {v : Int32} {c' : Nat} (hJ : cg_P I J len txt err P A n H sv S) (hL : rg_P J L v len txt err P A n H sv S) (ok : ok_G c' len P A n H sv S) : gS c' L :=
  ⟨len, txt, err, P, A, n, H, sv, S, hJ.1.fr (fun r hr => hL.2.1 r (Or.inl hr)), hL.1, ok⟩
theorem fin_v {v w b : Int32} (hL : rg_P J L v len txt err P A n H sv S) (hv : J 515 0 = w) (hb : b = w) : L 515 0 = b := by rw [hL.2.1 515 (Or.inr rfl), hv, hb]
theorem cg_rg (hr : rg_R I len txt err P A n H sv S) (hJ : cg_P I J len txt err P A n H sv S) : rg_R J len txt err P A n H sv S := hr.fr (fun r h1 h2 => hJ.2 r h1 (by omega))
/-! fields of an open session -/
def ab_sx (A : aT) (x : Int32) : aS := A.2.2.2 x.toNatClampNeg
theorem cx_fld {x : Int32} {K : Int32 → pm_I → Prop} {j : Nat} (hG : gK G) (h : cg_R I len txt err P A n H sv S) (ok : ok_G c len P A n H sv S) (hj : j < 13) (hk : ∀ J, cg_P I J len txt err P A n H sv S → (ab_ths A x = 0 → J 515 0 = (ab_sx A x).1 j) → K (ab_ths A x) J) :
    wX6_openSession G 1 x I (fun r11 I10 => pm_k G r11 (.inl 4) ∧ (∀ I2 : pm_I, I2 = pm_up I10 515 0 (I10 r11 j) → K 0 I2)) (fun n I1 => n = 3 ∧ K 1 I1) := by
  obtain ⟨p, hp, i3, w⟩ := h.pl
  refine cx_ses w.1 ok.2.2.1.1.2.2.2 (fun i hi hx h0 e => ⟨hG.S hi, fun I2 q2 => ?_⟩) (fun e => ⟨rfl, ?_⟩)
  · rw [e] at hk
    subst q2
    have o := cg_out (I := I) (v := I (1 + 18 + 3 + 1 + 5 * i) j) h (fun _ _ => rfl)
    refine hk _ o.1 (fun _ => ?_)
    rw [o.2, (w.1.2.2.2 i hi).1 j hj]
    unfold ab_sx
    rw [hx, nI_clamp (by omega)]
  · rw [e] at hk
    exact hk I (cg_id h) (fun e => absurd e (by decide))
theorem rx_ask {x x2 : Int32} {K : Int32 → pm_I → Prop} {j : Nat} (h : rg_R I len txt err P A n H sv S) (hx2 : x2 = nI j) (hj : j < 14) (hk : ∀ L b, rg_P I L (ab_ths A x) len txt err P A n H sv S → (ab_ths A x = 0 → b = if j = 13 then (ab_sx A x).1 7 - (ab_sx A x).1 10 else (ab_sx A x).1 (rf_pi j)) → K b L) : wX7_asked G 499 x x2 I K := by
  unfold wX7_asked
  refine rx_ses h.2.1.1 (fun i hi hx h0 e => ⟨fun _ => ?_, fun z => absurd rfl z⟩) (fun e => ⟨fun z => absurd z (by decide), fun _ => ?_⟩)
  · rw [e] at hk
    have g := rg_up (v := 0) h
    subst hx
    refine rf_of (j := j) hx2 ⟨vp_in_nI (by omega) (by decide), hk _ _ g (fun _ => ?_)⟩
    have hO := (g.1.2.1.1.2.2.2 i hi).1 h0
    rw [nI_clamp (by omega)]
    unfold ab_sx
    rw [nI_clamp (by omega)]
    by_cases e13 : j = 13
    · rw [if_pos e13, e13]; exact hO.2.1
    · rw [if_neg e13]; exact hO.1 j (by omega)
  · rw [e] at hk
    exact hk _ _ (rg_up h) (fun e => absurd e (by decide))
end GQ
theorem case_2 {G : pm_G} {xs : Nat → Int32} {x4 : Int32} {I : pm_I} {K : pm_I → Prop} {c : Nat} (hG : gK G) (h : gS c I) (hc : c < 512) (hk : ∀ J, gS (c + 1) J → K J) : wC2 G xs x4 I K := by
  obtain ⟨len, txt, err, P, A, n, H, sv, S, hC, hR, ok⟩ := h
  have ok1 := ok.up (c' := c + 1) (by omega)
  have oP := ok.2.1
  have n8 := oP.1.1
  obtain ⟨p, hp, i3, w⟩ := hC.pl
  unfold wC2 wX6_errorPosition wX7_errorPosition
  intro I1 q1
  subst q1
  have g := rg_up (v := 0) hR
  refine ⟨?_, hk _ (fin_g (cg_id hC) g ok1)⟩
  rw [g.1.1.2.2]; exact hC.1.2.2
theorem case_3 {G : pm_G} {xs : Nat → Int32} {x4 : Int32} {I : pm_I} {K : pm_I → Prop} {c : Nat} (hG : gK G) (h : gS c I) (hc : c < 512) (hk : ∀ J, gS (c + 1) J → K J) : wC3 G xs x4 I K := by
  obtain ⟨len, txt, err, P, A, n, H, sv, S, hC, hR, ok⟩ := h
  have ok1 := ok.up (c' := c + 1) (by omega)
  have oP := ok.2.1
  have n8 := oP.1.1
  obtain ⟨p, hp, i3, w⟩ := hC.pl
  unfold wC3 wX6_peerCount wX7_peerCount
  rw [i3, nI_clamp (by omega)]
  refine ⟨hG.P hp, fun I1 q1 => ?_⟩
  subst q1
  have g := rg_up (v := 0) hR
  refine ⟨?_, hk _ (fin_g (cg_id hC) g ok1)⟩
  rw [rf_c0, g.1.2.1.2.1.1]; exact w.2.1.1.1
theorem case_4 {G : pm_G} {xs : Nat → Int32} {x4 : Int32} {I : pm_I} {K : pm_I → Prop} {c : Nat} (hG : gK G) (h : gS c I) (hc : c < 512) (hk : ∀ J, gS (c + 1) J → K J) : wC4 G xs x4 I K := by
  obtain ⟨len, txt, err, P, A, n, H, sv, S, hC, hR, ok⟩ := h
  have ok1 := ok.up (c' := c + 1) (by omega)
  have oP := ok.2.1
  have n8 := oP.1.1
  obtain ⟨p, hp, i3, w⟩ := hC.pl
  unfold wC4 wX6_tick wX7_tick
  intro I1 q1
  subst q1
  have g := rg_up (v := 0) hR
  refine ⟨?_, hk _ (fin_g (cg_id hC) g ok1)⟩
  rw [rf_c0, g.1.2.1.1.1]; exact w.1.1
theorem case_14 {G : pm_G} {xs : Nat → Int32} {x4 : Int32} {I : pm_I} {K : pm_I → Prop} {c : Nat} (hG : gK G) (h : gS c I) (hc : c < 512) (hk : ∀ J, gS (c + 1) J → K J) : wC14 G xs x4 I K := by
  obtain ⟨len, txt, err, P, A, n, H, sv, S, hC, hR, ok⟩ := h
  have ok1 := ok.up (c' := c + 1) (by omega)
  have oP := ok.2.1
  have n8 := oP.1.1
  obtain ⟨p, hp, i3, w⟩ := hC.pl
  unfold wC14 wX7_thrown
  have cl : ∀ K : Int32 → pm_I → Prop, (∀ J, cg_P I J len txt err P A n H sv S → (ab_ths A (xs (x4 + 1).toNatClampNeg) = 0 → J 515 0 = (ab_sx A (xs (x4 + 1).toNatClampNeg)).1 4) → K (ab_ths A (xs (x4 + 1).toNatClampNeg)) J) → wL_path G 515 (xs (x4 + 1).toNatClampNeg) I K := by
    intro K hk
    unfold wL_path wX6_path
    exact cx_fld (K := K) (j := 4) hG hC ok (by decide) hk
  have rl : ∀ (J : pm_I) (K : Int32 → pm_I → Prop), rg_R J len txt err P A n H sv S → (∀ L b, rg_P J L (ab_ths A (xs (x4 + 1).toNatClampNeg)) len txt err P A n H sv S → (ab_ths A (xs (x4 + 1).toNatClampNeg) = 0 → b = (ab_sx A (xs (x4 + 1).toNatClampNeg)).1 4) → K b L) → wX7_path G 499 (xs (x4 + 1).toNatClampNeg) J K := by
    intro J K hR hk
    unfold wX7_path
    exact rx_ask (j := 3) hR rfl (by decide) hk
  exact cl _ (fun J hJ hv => rl _ _ (cg_rg hR hJ) (fun L b hL hb => ⟨hL.2.2, fun h0 => fin_v hL (hv h0) (hb h0), hk L (fin_g hJ hL ok1)⟩))
theorem case_15 {G : pm_G} {xs : Nat → Int32} {x4 : Int32} {I : pm_I} {K : pm_I → Prop} {c : Nat} (hG : gK G) (h : gS c I) (hc : c < 512) (hk : ∀ J, gS (c + 1) J → K J) : wC15 G xs x4 I K := by
  obtain ⟨len, txt, err, P, A, n, H, sv, S, hC, hR, ok⟩ := h
  have ok1 := ok.up (c' := c + 1) (by omega)
  have oP := ok.2.1
  have n8 := oP.1.1
  obtain ⟨p, hp, i3, w⟩ := hC.pl
  unfold wC15 wX7_thrown
  have cl : ∀ K : Int32 → pm_I → Prop, (∀ J, cg_P I J len txt err P A n H sv S → (ab_ths A (xs (x4 + 1).toNatClampNeg) = 0 → J 515 0 = (ab_sx A (xs (x4 + 1).toNatClampNeg)).1 5) → K (ab_ths A (xs (x4 + 1).toNatClampNeg)) J) → wL_oldPath G 515 (xs (x4 + 1).toNatClampNeg) I K := by
    intro K hk
    unfold wL_oldPath wX6_oldPath
    exact cx_fld (K := K) (j := 5) hG hC ok (by decide) hk
  have rl : ∀ (J : pm_I) (K : Int32 → pm_I → Prop), rg_R J len txt err P A n H sv S → (∀ L b, rg_P J L (ab_ths A (xs (x4 + 1).toNatClampNeg)) len txt err P A n H sv S → (ab_ths A (xs (x4 + 1).toNatClampNeg) = 0 → b = (ab_sx A (xs (x4 + 1).toNatClampNeg)).1 5) → K b L) → wX7_oldPath G 499 (xs (x4 + 1).toNatClampNeg) J K := by
    intro J K hR hk
    unfold wX7_oldPath
    exact rx_ask (j := 4) hR rfl (by decide) hk
  exact cl _ (fun J hJ hv => rl _ _ (cg_rg hR hJ) (fun L b hL hb => ⟨hL.2.2, fun h0 => fin_v hL (hv h0) (hb h0), hk L (fin_g hJ hL ok1)⟩))
theorem case_16 {G : pm_G} {xs : Nat → Int32} {x4 : Int32} {I : pm_I} {K : pm_I → Prop} {c : Nat} (hG : gK G) (h : gS c I) (hc : c < 512) (hk : ∀ J, gS (c + 1) J → K J) : wC16 G xs x4 I K := by
  obtain ⟨len, txt, err, P, A, n, H, sv, S, hC, hR, ok⟩ := h
  have ok1 := ok.up (c' := c + 1) (by omega)
  have oP := ok.2.1
  have n8 := oP.1.1
  obtain ⟨p, hp, i3, w⟩ := hC.pl
  unfold wC16 wX7_thrown
  have cl : ∀ K : Int32 → pm_I → Prop, (∀ J, cg_P I J len txt err P A n H sv S → (ab_ths A (xs (x4 + 1).toNatClampNeg) = 0 → J 515 0 = (ab_sx A (xs (x4 + 1).toNatClampNeg)).1 6) → K (ab_ths A (xs (x4 + 1).toNatClampNeg)) J) → wL_successes G 515 (xs (x4 + 1).toNatClampNeg) I K := by
    intro K hk
    unfold wL_successes wX6_successes
    exact cx_fld (K := K) (j := 6) hG hC ok (by decide) hk
  have rl : ∀ (J : pm_I) (K : Int32 → pm_I → Prop), rg_R J len txt err P A n H sv S → (∀ L b, rg_P J L (ab_ths A (xs (x4 + 1).toNatClampNeg)) len txt err P A n H sv S → (ab_ths A (xs (x4 + 1).toNatClampNeg) = 0 → b = (ab_sx A (xs (x4 + 1).toNatClampNeg)).1 6) → K b L) → wX7_successes G 499 (xs (x4 + 1).toNatClampNeg) J K := by
    intro J K hR hk
    unfold wX7_successes
    exact rx_ask (j := 5) hR rfl (by decide) hk
  exact cl _ (fun J hJ hv => rl _ _ (cg_rg hR hJ) (fun L b hL hb => ⟨hL.2.2, fun h0 => fin_v hL (hv h0) (hb h0), hk L (fin_g hJ hL ok1)⟩))
theorem case_19 {G : pm_G} {xs : Nat → Int32} {x4 : Int32} {I : pm_I} {K : pm_I → Prop} {c : Nat} (hG : gK G) (h : gS c I) (hc : c < 512) (hk : ∀ J, gS (c + 1) J → K J) : wC19 G xs x4 I K := by
  obtain ⟨len, txt, err, P, A, n, H, sv, S, hC, hR, ok⟩ := h
  have ok1 := ok.up (c' := c + 1) (by omega)
  have oP := ok.2.1
  have n8 := oP.1.1
  obtain ⟨p, hp, i3, w⟩ := hC.pl
  unfold wC19 wX7_thrown
  have cl : ∀ K : Int32 → pm_I → Prop, (∀ J, cg_P I J len txt err P A n H sv S → (ab_ths A (xs (x4 + 1).toNatClampNeg) = 0 → J 515 0 = (ab_sx A (xs (x4 + 1).toNatClampNeg)).1 12) → K (ab_ths A (xs (x4 + 1).toNatClampNeg)) J) → wL_digest G 515 (xs (x4 + 1).toNatClampNeg) I K := by
    intro K hk
    unfold wL_digest wX6_digest
    exact cx_fld (K := K) (j := 12) hG hC ok (by decide) hk
  have rl : ∀ (J : pm_I) (K : Int32 → pm_I → Prop), rg_R J len txt err P A n H sv S → (∀ L b, rg_P J L (ab_ths A (xs (x4 + 1).toNatClampNeg)) len txt err P A n H sv S → (ab_ths A (xs (x4 + 1).toNatClampNeg) = 0 → b = (ab_sx A (xs (x4 + 1).toNatClampNeg)).1 12) → K b L) → wX7_digest G 499 (xs (x4 + 1).toNatClampNeg) J K := by
    intro J K hR hk
    unfold wX7_digest
    exact rx_ask (j := 9) hR rfl (by decide) hk
  exact cl _ (fun J hJ hv => rl _ _ (cg_rg hR hJ) (fun L b hL hb => ⟨hL.2.2, fun h0 => fin_v hL (hv h0) (hb h0), hk L (fin_g hJ hL ok1)⟩))
theorem case_20 {G : pm_G} {xs : Nat → Int32} {x4 : Int32} {I : pm_I} {K : pm_I → Prop} {c : Nat} (hG : gK G) (h : gS c I) (hc : c < 512) (hk : ∀ J, gS (c + 1) J → K J) : wC20 G xs x4 I K := by
  obtain ⟨len, txt, err, P, A, n, H, sv, S, hC, hR, ok⟩ := h
  have ok1 := ok.up (c' := c + 1) (by omega)
  have oP := ok.2.1
  have n8 := oP.1.1
  obtain ⟨p, hp, i3, w⟩ := hC.pl
  unfold wC20 wX7_thrown
  have cl : ∀ K : Int32 → pm_I → Prop, (∀ J, cg_P I J len txt err P A n H sv S → (ab_ths A (xs (x4 + 1).toNatClampNeg) = 0 → J 515 0 = (ab_sx A (xs (x4 + 1).toNatClampNeg)).1 9) → K (ab_ths A (xs (x4 + 1).toNatClampNeg)) J) → wL_key G 515 (xs (x4 + 1).toNatClampNeg) I K := by
    intro K hk
    unfold wL_key wX6_key
    exact cx_fld (K := K) (j := 9) hG hC ok (by decide) hk
  have rl : ∀ (J : pm_I) (K : Int32 → pm_I → Prop), rg_R J len txt err P A n H sv S → (∀ L b, rg_P J L (ab_ths A (xs (x4 + 1).toNatClampNeg)) len txt err P A n H sv S → (ab_ths A (xs (x4 + 1).toNatClampNeg) = 0 → b = (ab_sx A (xs (x4 + 1).toNatClampNeg)).1 9) → K b L) → wX7_key G 499 (xs (x4 + 1).toNatClampNeg) J K := by
    intro J K hR hk
    unfold wX7_key
    exact rx_ask (j := 11) hR rfl (by decide) hk
  exact cl _ (fun J hJ hv => rl _ _ (cg_rg hR hJ) (fun L b hL hb => ⟨hL.2.2, fun h0 => fin_v hL (hv h0) (hb h0), hk L (fin_g hJ hL ok1)⟩))
theorem case_22 {G : pm_G} {xs : Nat → Int32} {x4 : Int32} {I : pm_I} {K : pm_I → Prop} {c : Nat} (hG : gK G) (h : gS c I) (hc : c < 512) (hk : ∀ J, gS (c + 1) J → K J) : wC22 G xs x4 I K := by
  obtain ⟨len, txt, err, P, A, n, H, sv, S, hC, hR, ok⟩ := h
  have ok1 := ok.up (c' := c + 1) (by omega)
  have oP := ok.2.1
  have n8 := oP.1.1
  obtain ⟨p, hp, i3, w⟩ := hC.pl
  unfold wC22 wX7_thrown
  have cl : ∀ K : Int32 → pm_I → Prop, (∀ J, cg_P I J len txt err P A n H sv S → (ab_ths A (xs (x4 + 1).toNatClampNeg) = 0 → J 515 0 = ((ab_sx A (xs (x4 + 1).toNatClampNeg)).1 7 - (ab_sx A (xs (x4 + 1).toNatClampNeg)).1 10)) → K (ab_ths A (xs (x4 + 1).toNatClampNeg)) J) → wL_keyStart G 515 (xs (x4 + 1).toNatClampNeg) I K := by
    intro K hk
    unfold wL_keyStart wX6_keyStart
    refine cx_ses w.1 ok.2.2.1.1.2.2.2 (fun i hi hx h0 e => ⟨hG.S hi, fun I2 q2 => ?_⟩) (fun e => ⟨rfl, ?_⟩)
    · rw [e] at hk
      subst q2
      have o := cg_out (I := I) (v := I (1 + 18 + 3 + 1 + 5 * i) 7 - I (1 + 18 + 3 + 1 + 5 * i) 10) hC (fun _ _ => rfl)
      refine hk _ o.1 (fun _ => ?_)
      rw [o.2, (w.1.2.2.2 i hi).1 7 (by decide), (w.1.2.2.2 i hi).1 10 (by decide)]
      unfold ab_sx
      rw [hx, nI_clamp (by omega)]
    · rw [e] at hk
      exact hk I (cg_id hC) (fun e => absurd e (by decide))
  have rl : ∀ (J : pm_I) (K : Int32 → pm_I → Prop), rg_R J len txt err P A n H sv S → (∀ L b, rg_P J L (ab_ths A (xs (x4 + 1).toNatClampNeg)) len txt err P A n H sv S → (ab_ths A (xs (x4 + 1).toNatClampNeg) = 0 → b = ((ab_sx A (xs (x4 + 1).toNatClampNeg)).1 7 - (ab_sx A (xs (x4 + 1).toNatClampNeg)).1 10)) → K b L) → wX7_keyStart G 499 (xs (x4 + 1).toNatClampNeg) J K := by
    intro J K hR hk
    unfold wX7_keyStart
    exact rx_ask (j := 13) hR rfl (by decide) hk
  exact cl _ (fun J hJ hv => rl _ _ (cg_rg hR hJ) (fun L b hL hb => ⟨hL.2.2, fun h0 => fin_v hL (hv h0) (hb h0), hk L (fin_g hJ hL ok1)⟩))
