/-! ===== the calls that change (3): send, setLink ===== -/
theorem ob_s11 (a b : Int32) : (a + 1) - (b + 1) = a - b := by
  apply Int32.toBitVec_inj.mp
  rw [Int32.toBitVec_sub, Int32.toBitVec_sub, Int32.toBitVec_add, Int32.toBitVec_add]
  generalize a.toBitVec = x
  generalize b.toBitVec = y
  apply BitVec.eq_of_toNat_eq
  rw [BitVec.toNat_sub, BitVec.toNat_sub, BitVec.toNat_add, BitVec.toNat_add]
  have hx := x.isLt
  have hy := y.isLt
  show (2 ^ 32 - (y.toNat + 1) % 2 ^ 32 + (x.toNat + 1) % 2 ^ 32) % 2 ^ 32 = (2 ^ 32 - y.toNat + x.toNat) % 2 ^ 32
  omega
theorem rf_ad1 {G : pm_G} {q i d : Nat} {v t : Int32} {I : pm_I} {K : Int32 → pm_I → Prop} {P : aP} {s : aS} (h : rf_O (I (q + 1)) (17 + 134 * i) s) (g : cl_g s d) (hi : i < 6) (hn : s.2.1 < 24) (hP : rf_P I q P) (ht : I (q + 1) 0 = t) (h1 : ob_ix 8 (s.1 1)) (h2 : ob_ix 8 (s.1 2)) (h4 : ok_rt 8 (s.1 4)) (hk : ∀ L, rf_O (L (q + 1)) (17 + 134 * i) (ab_ad1 s v (t + ab_da P s)) → rf_f q (17 + 134 * i) I L → K (s.1 7) L) :
    wX7_undelivered G (q) (nI i) I (fun r20 I19 => wX7_message G (nI i) (r20) I19 (fun r22 I21 => vp_in (r22 + 1) 821 ∧ (∀ I23 : pm_I, I23 = pm_up I21 (q + 1) ((r22 + 1).toNatClampNeg) (v) → (wX7_of G (nI i) (11) I23 (fun r25 I24 => vp_in (r25) 821 ∧ (vp_in (r22 + 2) 821 ∧ (∀ I26 : pm_I, I26 = pm_up I24 (q + 1) ((r22 + 2).toNatClampNeg) (I24 (q + 1) (r25).toNatClampNeg) → (wX7_travels G (q) (nI i) (r22) I26 (fun I27 => wX7_of G (nI i) (12) I27 (fun r29 I28 => vp_in (r29) 821 ∧ (vp_in (r29) 821 ∧ (∀ I30 : pm_I, I30 = pm_up I28 (q + 1) ((r29).toNatClampNeg) ((I28 (q + 1) (r29).toNatClampNeg) + 1) → (wX7_of G (nI i) (7) I30 (fun r32 I31 => vp_in (r32) 821 ∧ (vp_in (r32) 821 ∧ (∀ I33 : pm_I, I33 = pm_up I31 (q + 1) ((r32).toNatClampNeg) ((I31 (q + 1) (r32).toNatClampNeg) + 1) → (wX7_of G (nI i) (7) I33 (fun r35 I34 => vp_in (r35) 821 ∧ (K ((I34 (q + 1) (r35).toNatClampNeg) - 1) I34))))))))))))))))))) := by
  refine rf_und h g hi (rf_msg (k := s.2.1) rfl ?_)
  generalize hm : 17 + 134 * i + 14 + 5 * s.2.1 = m
  rw [show nI m + 1 = nI (m + 1) from nI_1 m, show nI m + 2 = nI (m + 2) from nI_add m 2]
  refine ⟨vp_in_nI (by omega) (by decide), fun I1 q1 => rf_of (j := 11) rfl ⟨vp_in_nI (by omega) (by decide), vp_in_nI (by omega) (by decide), fun I2 q2 => ?_⟩⟩
  rw [nI_clamp (by omega)] at q1
  rw [nI_clamp (by omega), nI_clamp (by omega)] at q2
  have e9 : I1 (q + 1) (17 + 134 * i + 11) = s.1 9 := by rw [q1, ob_uq (by omega)]; exact h.1 11 (by decide)
  rw [e9] at q2
  have f2 : rf_f q (17 + 134 * i) I I2 := by rw [q2, q1]; exact (rf_f.rf.up (by omega) (by omega)).up (by omega) (by omega)
  have lo : ∀ x, x < 17 + 134 * i + 14 → I2 (q + 1) x = I (q + 1) x := fun x hx => by rw [q2, ob_uq (by omega), q1, ob_uq (by omega)]
  have hF : rf_F (I2 (q + 1)) (17 + 134 * i) s.1 := fun j hj => by rw [lo _ (by omega)]; exact h.1 j hj
  refine rf_trv (s := s) (P := P) (t := t) hF hi (by omega) (by omega) (hP.f f2) (by rw [f2.2 0 (by omega)]; exact ht) h1 h2 h4 (fun I3 a1 a2 a3 a4 => ?_)
  refine rf_of (j := 12) rfl ⟨vp_in_nI (by omega) (by decide), vp_in_nI (by omega) (by decide), fun I4 q4 => rf_of (j := 7) rfl ⟨vp_in_nI (by omega) (by decide), vp_in_nI (by omega) (by decide), fun I5 q5 => rf_of (j := 7) rfl ⟨vp_in_nI (by omega) (by decide), ?_⟩⟩⟩
  rw [nI_clamp (by omega)] at q4
  rw [nI_clamp (by omega)] at q5
  have e12 : I3 (q + 1) (17 + 134 * i + 12) = s.1 10 := by rw [a2 _ (by omega) (by omega) (by omega)]; exact hF 12 (by decide)
  rw [e12] at q4
  have e7 : I4 (q + 1) (17 + 134 * i + 7) = s.1 7 := by rw [q4, ob_uq (by omega), a2 _ (by omega) (by omega) (by omega)]; exact hF 7 (by decide)
  rw [e7] at q5
  have f5 : rf_f q (17 + 134 * i) I I5 := by
    refine f2.tr ⟨fun r hr => by rw [q5, ob_ur hr, q4, ob_ur hr]; exact a1 r hr, fun x hx => by rw [q5, ob_uq (by omega), q4, ob_uq (by omega)]; exact a2 x (by omega) (by omega) (by omega)⟩
  rw [nI_clamp (by omega), show I5 (q + 1) (17 + 134 * i + 7) = s.1 7 + 1 by rw [q5, ob_us], show s.1 7 + 1 - 1 = s.1 7 by rw [g.2.2.1, nI_1]; exact nI_pred _]
  refine hk I5 ⟨fun j hj => ?_, ?_, fun k hk => ?_⟩ f5
  · show _ = upd (upd s.1 7 (s.1 7 + 1)) 10 (s.1 10 + 1) (rf_pi j)
    by_cases j7 : j = 7
    · subst j7; rw [q5, ob_us]; rfl
    · rw [q5, ob_uq (by omega)]
      by_cases j12 : j = 12
      · subst j12; rw [q4, ob_us]; rfl
      · rw [q4, ob_uq (by omega), a2 _ (by omega) (by omega) (by omega), pk_un (show rf_pi j ≠ 10 from rf_pi_inj j hj 12 (by decide) j12), pk_un (show rf_pi j ≠ 7 from rf_pi_inj j hj 7 (by decide) j7)]
        exact hF j hj
  · show _ = (s.1 7 + 1) - (s.1 10 + 1)
    rw [q5, ob_uq (by omega), q4, ob_uq (by omega), a2 _ (by omega) (by omega) (by omega), lo _ (by omega), ob_s11]
    exact h.2.1
  · have hk' : k < s.2.1 + 1 := hk
    have e5 : ∀ x, 17 + 134 * i + 14 ≤ x → I5 (q + 1) x = I3 (q + 1) x := fun x hx => by rw [q5, ob_uq (by omega), q4, ob_uq (by omega)]
    show rf_m _ (17 + 134 * i + 14 + 5 * k) (if k = s.2.1 then (fun j => if j = 0 then v else if j = 1 then s.1 9 else if j = 2 then s.1 4 else t + ab_da P s) else s.2.2 k)
    by_cases ek : k = s.2.1
    · rw [if_pos ek, ek, hm]
      refine ⟨by rw [e5 _ (by omega)]; exact a3, ?_, ?_, fun h0 => ?_⟩
      · rw [e5 _ (by omega), a2 _ (by omega) (by omega) (by omega), q2, ob_uq (by omega), q1, ob_us]; rfl
      · rw [e5 _ (by omega), a2 _ (by omega) (by omega) (by omega), q2, ob_us]; rfl
      · rw [e5 _ (by omega), e5 (m + 4) (by omega)]
        exact a4 h0
    · rw [if_neg ek]
      have e : ∀ x, 17 + 134 * i + 14 ≤ x → x < m → I5 (q + 1) x = I (q + 1) x := fun x h1 h2 => by rw [e5 x h1, a2 x (by omega) (by omega) (by omega), q2, ob_uq (by omega), q1, ob_uq (by omega)]
      obtain ⟨m1, m2, m3, m4⟩ := h.2.2 k (by omega)
      refine ⟨by rw [e _ (by omega) (by omega)]; exact m1, by rw [e _ (by omega) (by omega)]; exact m2, by rw [e _ (by omega) (by omega)]; exact m3, fun h0 => ?_⟩
      rw [e _ (by omega) (by omega), e (17 + 134 * i + 14 + 5 * k + 4) (by omega) (by omega)]
      exact m4 h0
theorem ok_add_0 {s : aS} {v m t : Int32} : (ab_add s v m t).1 0 = s.1 0 := by
  unfold ab_add
  split <;> rfl
theorem case_28 {G : pm_G} {xs : Nat → Int32} {x4 : Int32} {I : pm_I} {K : pm_I → Prop} {c : Nat} (hG : gK G) (h : gS c I) (hc : c < 512) (hk : ∀ J, gS (c + 1) J → K J) : wC28 G xs x4 I K := by
  obtain ⟨len, txt, err, P, A, n, H, sv, S, hC, hR, ok⟩ := h
  have ok1 := ok.up (c' := c + 1) (by omega)
  have oP := ok.2.1
  have n8 := oP.1.1
  obtain ⟨p, hp, i3, w⟩ := hC.pl
  unfold wC28 wX7_thrown
  have th0 : (if ab_ths A (xs (x4 + 1).toNatClampNeg) = 0 then (if (ab_sx A (xs (x4 + 1).toNatClampNeg)).2.1 < 24 then (0 : Int32) else 2) else (1 : Int32)) = 0 → ∃ i, i < 6 ∧ (xs (x4 + 1).toNatClampNeg) = nI i ∧ (A.2.2.2 i).1 0 = 1 ∧ (ab_sx A (xs (x4 + 1).toNatClampNeg)).2.1 < 24 := by
    intro e
    by_cases h1 : ab_ths A (xs (x4 + 1).toNatClampNeg) = 0
    · rw [if_pos h1] at e
      by_cases h2 : (ab_sx A (xs (x4 + 1).toNatClampNeg)).2.1 < 24
      · by_cases h3 : ∀ i, i < 6 → (xs (x4 + 1).toNatClampNeg) = nI i → ¬ (A.2.2.2 i).1 0 = 1
        · unfold ab_ths at h1
          rw [ab_os_f h3] at h1
          exact absurd h1 (by decide)
        · refine Classical.byContradiction (fun hno => h3 (fun i hi hx h0 => hno ⟨i, hi, hx, h0, h2⟩))
      · rw [if_neg h2] at e; exact absurd e (by decide)
    · rw [if_neg h1] at e; exact absurd e (by decide)
  have cl : ∀ K : Int32 → pm_I → Prop, ((if ab_ths A (xs (x4 + 1).toNatClampNeg) = 0 then (if (ab_sx A (xs (x4 + 1).toNatClampNeg)).2.1 < 24 then (0 : Int32) else 2) else (1 : Int32)) = 0 → ∀ J, cg_P I J len txt err P (ab_set A ((xs (x4 + 1).toNatClampNeg)).toNatClampNeg (ab_add (ab_sx A (xs (x4 + 1).toNatClampNeg)) (xs (x4 + 2).toNatClampNeg) (P.1 8) (A.1 + ab_da P (ab_sx A (xs (x4 + 1).toNatClampNeg))))) (min (n + 1) 10) (ab_push A H) sv S → J 515 0 = (ab_sx A (xs (x4 + 1).toNatClampNeg)).1 7 → K 0 J) → (¬ (if ab_ths A (xs (x4 + 1).toNatClampNeg) = 0 then (if (ab_sx A (xs (x4 + 1).toNatClampNeg)).2.1 < 24 then (0 : Int32) else 2) else (1 : Int32)) = 0 → K ((if ab_ths A (xs (x4 + 1).toNatClampNeg) = 0 then (if (ab_sx A (xs (x4 + 1).toNatClampNeg)).2.1 < 24 then (0 : Int32) else 2) else (1 : Int32))) I) → wL_send G 515 (xs (x4 + 1).toNatClampNeg) (xs (x4 + 2).toNatClampNeg) I K := by
    intro K hk hE
    unfold wL_send wX6_send
    refine cx_ses w.1 ok.2.2.1.1.2.2.2 (fun i hi hx h0 e => ⟨hG.S hi, ?_⟩) (fun e => Or.inl ⟨rfl, ?_⟩)
    · rw [if_pos e] at hk hE
      have esx : ab_sx A (xs (x4 + 1).toNatClampNeg) = A.2.2.2 i := by unfold ab_sx; rw [hx, nI_clamp (by omega)]
      rw [esx, hx, nI_clamp (by omega)] at hk
      rw [esx] at hE
      have os := ok.2.2.1.1.2.2.1 i hi h0
      obtain ⟨d, g⟩ := os.g h0 (by omega)
      have hb := g.2.2.2.1
      have hn := g.2.2.2.2
      rw [(w.1.2.2.2 i hi).1 8 (by decide), (w.1.2.2.2 i hi).1 7 (by decide), g.2.1, g.2.2.1, pk_sub (by omega), show d + (A.2.2.2 i).2.1 - d = (A.2.2.2 i).2.1 by omega]
      refine ⟨fun z => ?_, fun z => Or.inr ⟨rfl, ?_⟩⟩
      · have z' := (nI_ltI (b := 24) (by omega) (by omega)).mp z
        rw [if_pos z'] at hk
        refine cx_keep hC hp i3 w ok.2.2.1.1.2.2.2 (fun J hJ i3J wJ fJ => ?_)
        rw [i3J, nI_clamp (by omega)]
        refine ⟨hG.P hp, hG.P hp, cl_da wJ.2.1 (wJ.1.2.2.2 i hi).1 (os.1.wd n8) (os.2.1.wd n8) (os.2.2.1.wd n8) ?_⟩
        rw [wJ.2.1.1.2.2.2, wJ.1.1]
        refine cl_add (wJ.1.2.2.2 i hi) g z' (fun L hL fL I2 q2 => ?_)
        subst q2
        have w1 := wJ.put hi hL fL
        have cz := hJ.cz2 hp i3J w1 (cl_z_s hi fL)
        have o := cg_out (I := I) (v := (A.2.2.2 i).1 7) cz.1 (fun r hr => by rw [cz.2 r hr]; exact fJ r hr)
        exact hk rfl _ o.1 o.2
      · rw [if_neg (fun hh => z (nI_lt (b := 24) hh (by decide)))] at hE
        exact hE (by decide)
    · rw [if_neg (by rw [e]; decide)] at hE
      exact hE (by decide)
  have rl : ∀ (J : pm_I) (K : Int32 → pm_I → Prop), rg_R J len txt err P A n H sv S → ((if ab_ths A (xs (x4 + 1).toNatClampNeg) = 0 then (if (ab_sx A (xs (x4 + 1).toNatClampNeg)).2.1 < 24 then (0 : Int32) else 2) else (1 : Int32)) = 0 → ∀ L, rg_P J L 0 len txt err P (ab_set A ((xs (x4 + 1).toNatClampNeg)).toNatClampNeg (ab_add (ab_sx A (xs (x4 + 1).toNatClampNeg)) (xs (x4 + 2).toNatClampNeg) (P.1 8) (A.1 + ab_da P (ab_sx A (xs (x4 + 1).toNatClampNeg))))) (min (n + 1) 10) (ab_push A H) sv S → K ((ab_sx A (xs (x4 + 1).toNatClampNeg)).1 7) L) → (¬ (if ab_ths A (xs (x4 + 1).toNatClampNeg) = 0 then (if (ab_sx A (xs (x4 + 1).toNatClampNeg)).2.1 < 24 then (0 : Int32) else 2) else (1 : Int32)) = 0 → ∀ L b, rg_P J L ((if ab_ths A (xs (x4 + 1).toNatClampNeg) = 0 then (if (ab_sx A (xs (x4 + 1).toNatClampNeg)).2.1 < 24 then (0 : Int32) else 2) else (1 : Int32))) len txt err P A n H sv S → K b L) → wX7_send G 499 (xs (x4 + 1).toNatClampNeg) (xs (x4 + 2).toNatClampNeg) J K := by
    intro J K hR hk hE
    unfold wX7_send
    refine rx_ses hR.2.1.1 (fun i hi hx h0 e => ⟨fun z => absurd rfl z, fun _ => ?_⟩) (fun e => ⟨fun _ => ?_, fun z => absurd z (by decide)⟩)
    · rw [if_pos e] at hk hE
      have g := rg_up (v := 0) hR
      have e0 := g.2.2
      have esx : ab_sx A (xs (x4 + 1).toNatClampNeg) = A.2.2.2 i := by unfold ab_sx; rw [hx, nI_clamp (by omega)]
      rw [esx, hx, nI_clamp (by omega)] at hk
      rw [esx] at hE
      have os := ok.2.2.1.1.2.2.1 i hi h0
      obtain ⟨d, gg⟩ := os.g h0 (by omega)
      have hn := gg.2.2.2.2
      rw [hx]
      refine rf_und ((g.1.2.1.1.2.2.2 i hi).1 h0) gg hi ⟨fun z => rf_thF e0 ⟨fun _ => ?_, fun z => absurd rfl z⟩, fun z => rf_thT e0 (by decide) ⟨fun z => absurd z (by decide), fun _ => ?_⟩⟩
      · have z' : (A.2.2.2 i).2.1 < 24 := by
          rcases Nat.lt_or_ge (A.2.2.2 i).2.1 24 with h | h
          · exact h
          · exact absurd (by rw [show (A.2.2.2 i).2.1 = 24 by omega]; rfl) z
        rw [if_pos z'] at hk
        refine rx_keep g ok (fun L gL => rf_of (j := 12) rfl ⟨vp_in_nI (by omega) (by decide), ?_⟩)
        have hO := (gL.1.2.1.1.2.2.2 i hi).1 h0
        have e12 : L (499 + 1) (17 + 134 * i + 12) = (A.2.2.2 i).1 10 := hO.1 12 (by decide)
        rw [nI_clamp (by omega), e12, rf_c3, gL.1.2.1.2.1.2.2.2]
        have o10 := os.2.2.2.2.2.2.2.1
        have eadd : ∀ s1 : aS, s1 = (if (A.2.2.2 i).1 10 < P.1 8 then A.2.2.2 i else ab_nk (A.2.2.2 i)) → ab_da P s1 = ab_da P (A.2.2.2 i) ∧ s1.1 7 = (A.2.2.2 i).1 7 := fun s1 hs => by
          subst hs
          split <;> exact ⟨rfl, rfl⟩
        refine ⟨fun y => ?_, fun y => ?_⟩
        · have lt : (A.2.2.2 i).1 10 < P.1 8 := by rw [ob_lt]; rw [ob_eq] at y; omega
          unfold ab_add at hk
          rw [if_pos lt] at hk
          refine rf_ad1 (P := P) (t := A.1) hO gg hi z' gL.1.2.1.2 gL.1.2.1.1.1 (os.1.wd n8) (os.2.1.wd n8) (os.2.2.1.wd n8) (fun M hM fM => hk rfl M (rg_z gL ?_ fM.z))
          exact gL.1.2.1.put ok.2.2.1.1.n24 hi hM h0 fM
        · have nlt : ¬ (A.2.2.2 i).1 10 < P.1 8 := by rw [ob_lt]; rw [ob_eq] at y; omega
          unfold ab_add at hk
          rw [if_neg nlt] at hk
          refine rf_nk hO hi (fun L2 hL2 fL2 => ?_)
          refine rf_ad1 (P := P) (t := A.1) hL2 gg.nk hi z' (gL.1.2.1.2.f fL2) (by rw [fL2.2 0 (by omega)]; exact gL.1.2.1.1.1) (os.1.wd n8) (os.2.1.wd n8) (os.2.2.1.wd n8) (fun M hM fM => hk rfl M (rg_z gL ?_ (fL2.tr fM).z))
          exact gL.1.2.1.put ok.2.2.1.1.n24 hi hM h0 (fL2.tr fM)
      · rw [if_neg (fun hh => by have := (nI_eq (b := 24) (by omega) (by omega)).mp z; omega)] at hE
        rw [ob_uu]
        exact hE (by decide) _ _ (rg_up hR)
    · rw [if_neg (by rw [e]; decide)] at hE
      exact hE (by decide) _ _ (rg_up hR)
  refine cl _ (fun e J hJ hv => rl _ _ (hR.fr (fun r h1 h2 => hJ.2 r h1 (by omega))) (fun _ L hL => ⟨hL.2.2, fun _ => fin_v hL hv rfl, hk L (fin_g hJ hL ?_)⟩) (fun ne => absurd e ne)) (fun ne => rl _ _ hR (fun e => absurd e ne) (fun _ L b hL => ⟨hL.2.2, fun e => absurd e ne, hk L (fin_g (cg_id hC) hL ok1)⟩))
  obtain ⟨i, hi, hx, h0, hn⟩ := th0 e
  have esx : ab_sx A (xs (x4 + 1).toNatClampNeg) = A.2.2.2 i := by unfold ab_sx; rw [hx, nI_clamp (by omega)]
  rw [esx, hx, nI_clamp (by omega)]
  rw [esx] at hn
  exact ok_push ok ⟨(ok.2.2.1.1.up (c' := c + 1) (by omega)).set (by rw [ok_add_0]; exact h0) ((ok.2.2.1.1.2.2.1 i hi h0).ad oP hn), ok.2.2.1.2⟩
