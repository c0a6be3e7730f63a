/-! ===== the calls that change (5): open ===== -/
theorem rf_zero {G : pm_G} {q i : Nat} {x y rr t : Int32} {I : pm_I} {K : Int32 → pm_I → Prop} (hi : i < 6) (ht : I (q + 1) 0 = t) (hk : ∀ L, rf_O (L (q + 1)) (17 + 134 * i) (ab_new x y t rr) → rf_f q (17 + 134 * i) I L → K (nI i) L) :
    pm_lp2 (fun (P82 : Int32 → pm_I → Prop) (x84 : Int32) (I83 : pm_I) => (134 ≤ x84 → (wX7_of G (nI i) (0) I83 (fun r86 I85 => vp_in (r86) 821 ∧ (∀ I87 : pm_I, I87 = pm_up I85 (q + 1) ((r86).toNatClampNeg) (1) → (wX7_of G (nI i) (1) I87 (fun r89 I88 => vp_in (r89) 821 ∧ (∀ I90 : pm_I, I90 = pm_up I88 (q + 1) ((r89).toNatClampNeg) (x) → (wX7_of G (nI i) (2) I90 (fun r92 I91 => vp_in (r92) 821 ∧ (∀ I93 : pm_I, I93 = pm_up I91 (q + 1) ((r92).toNatClampNeg) (y) → (wX7_of G (nI i) (3) I93 (fun r95 I94 => vp_in (r95) 821 ∧ (∀ I96 : pm_I, I96 = pm_up I94 (q + 1) ((r95).toNatClampNeg) (rr) → (wX7_of G (nI i) (4) I96 (fun r98 I97 => vp_in (r98) 821 ∧ (∀ I99 : pm_I, I99 = pm_up I97 (q + 1) ((r98).toNatClampNeg) (-1) → (wX7_of G (nI i) (6) I99 (fun r101 I100 => vp_in (r101) 821 ∧ (∀ I102 : pm_I, I102 = pm_up I100 (q + 1) ((r101).toNatClampNeg) (I100 (q + 1) (0 : Int32).toNatClampNeg) → (K (nI i) I102)))))))))))))))))))) ∧ (¬ 134 ≤ x84 → (wX7_of G (nI i) (x84) I83 (fun r104 I103 => vp_in (r104) 821 ∧ (∀ I105 : pm_I, I105 = pm_up I103 (q + 1) ((r104).toNatClampNeg) (0) → (P82 (x84 + 1) I105)))))) (0) I := by
  refine ob_lp2 (fun k z J => z = nI k ∧ (∀ j, j < k → J (q + 1) (17 + 134 * i + j) = 0) ∧ rf_f q (17 + 134 * i) I J) 134 ⟨rfl, fun j hj => absurd hj (Nat.not_lt_zero j), rf_f.rf⟩ ?_
  intro Q k z J hk' hI hQ
  obtain ⟨hz, j0, fJ⟩ := hI
  subst hz
  refine ⟨fun hc => ?_, fun hc => rf_of (j := k) rfl ?_⟩
  · have e := (ob_to (n := 134) (by decide) hk').1 hc
    subst e
    refine rf_of (j := 0) rfl ⟨vp_in_nI (by omega) (by decide), fun I1 q1 => rf_of (j := 1) rfl ⟨vp_in_nI (by omega) (by decide), fun I2 q2 => rf_of (j := 2) rfl ⟨vp_in_nI (by omega) (by decide), fun I3 q3 => rf_of (j := 3) rfl ⟨vp_in_nI (by omega) (by decide), fun I4 q4 => rf_of (j := 4) rfl ⟨vp_in_nI (by omega) (by decide), fun I5 q5 => rf_of (j := 6) rfl ⟨vp_in_nI (by omega) (by decide), fun I6 q6 => ?_⟩⟩⟩⟩⟩⟩
    rw [nI_clamp (by omega)] at q1 q2 q3 q4 q5
    rw [nI_clamp (by omega), rf_c0] at q6
    have f6 : rf_f q (17 + 134 * i) I I6 := by rw [q6, q5, q4, q3, q2, q1]; exact (((((fJ.up (by omega) (by omega)).up (by omega) (by omega)).up (by omega) (by omega)).up (by omega) (by omega)).up (by omega) (by omega)).up (by omega) (by omega)
    have t5 : I5 (q + 1) 0 = t := by rw [q5, ob_uq (by omega), q4, ob_uq (by omega), q3, ob_uq (by omega), q2, ob_uq (by omega), q1, ob_uq (by omega), fJ.2 0 (by omega)]; exact ht
    rw [t5] at q6
    have ot : ∀ j, j ≠ 0 → j ≠ 1 → j ≠ 2 → j ≠ 3 → j ≠ 4 → j ≠ 6 → j < 134 → I6 (q + 1) (17 + 134 * i + j) = 0 := fun j h0 h1 h2 h3 h4 h6 hj => by
      rw [q6, ob_uq (by omega), q5, ob_uq (by omega), q4, ob_uq (by omega), q3, ob_uq (by omega), q2, ob_uq (by omega), q1, ob_uq (by omega)]; exact j0 j hj
    refine hk I6 ⟨fun j hj => ?_, ?_, fun m hm => absurd hm (Nat.not_lt_zero m)⟩ f6
    · have : j = 0 ∨ j = 1 ∨ j = 2 ∨ j = 3 ∨ j = 4 ∨ j = 5 ∨ j = 6 ∨ j = 7 ∨ j = 8 ∨ j = 9 ∨ j = 10 ∨ j = 11 ∨ j = 12 := by omega
      rcases this with rfl | rfl | rfl | rfl | rfl | rfl | rfl | rfl | rfl | rfl | rfl | rfl | rfl
      · rw [q6, ob_uq (by omega), q5, ob_uq (by omega), q4, ob_uq (by omega), q3, ob_uq (by omega), q2, ob_uq (by omega), q1, ob_us]; rfl
      · rw [q6, ob_uq (by omega), q5, ob_uq (by omega), q4, ob_uq (by omega), q3, ob_uq (by omega), q2, ob_us]; rfl
      · rw [q6, ob_uq (by omega), q5, ob_uq (by omega), q4, ob_uq (by omega), q3, ob_us]; rfl
      · rw [q6, ob_uq (by omega), q5, ob_uq (by omega), q4, ob_us]; rfl
      · rw [q6, ob_uq (by omega), q5, ob_us]; rfl
      · rw [ot 5 (by decide) (by decide) (by decide) (by decide) (by decide) (by decide) (by decide)]; rfl
      · rw [q6, ob_us]; rfl
      · rw [ot 7 (by decide) (by decide) (by decide) (by decide) (by decide) (by decide) (by decide)]; rfl
      · rw [ot 8 (by decide) (by decide) (by decide) (by decide) (by decide) (by decide) (by decide)]; rfl
      · rw [ot 9 (by decide) (by decide) (by decide) (by decide) (by decide) (by decide) (by decide)]; rfl
      · rw [ot 10 (by decide) (by decide) (by decide) (by decide) (by decide) (by decide) (by decide)]; rfl
      · rw [ot 11 (by decide) (by decide) (by decide) (by decide) (by decide) (by decide) (by decide)]; rfl
      · rw [ot 12 (by decide) (by decide) (by decide) (by decide) (by decide) (by decide) (by decide)]; rfl
    · rw [ot 13 (by decide) (by decide) (by decide) (by decide) (by decide) (by decide) (by decide)]
      show (0 : Int32) = 0 - 0
      decide
  · have hl := (ob_to (n := 134) (by decide) hk').2 hc
    refine ⟨vp_in_nI (by omega) (by decide), fun I1 q1 => hQ _ _ hl ⟨nI_1 _, fun j hj => ?_, ?_⟩⟩
    · rw [nI_clamp (by omega)] at q1
      rw [q1]
      by_cases ej : j = k
      · rw [ej, ob_us]
      · rw [ob_uq (by omega)]; exact j0 j (by omega)
    · rw [nI_clamp (by omega)] at q1
      rw [q1]; exact fJ.up (by omega) (by omega)
def ab_opn (P : aP) (A : aT) (x y : Int32) (i : Nat) : aT := ab_set A i (ab_new x y A.1 (ab_best P A x y))
theorem rx_opn {len : Nat} {txt : Nat → Int32} {err : Int32} {P : aP} {A : aT} {n : Nat} {H : Nat → aT} {sv : Nat → Bool} {S : Nat → aT} {G : pm_G} {J J1 : pm_I} {c k : Nat} {x y : Int32} {K : Int32 → pm_I → Prop} (g : rg_P J J1 0 len txt err P A n H sv S) (ok : ok_G c len P A n H sv S) (i1 : ob_ix (ab_np P) x) (i2 : ob_ix (ab_np P) y) (hk6 : k ≤ 6)
    (h1 : (ab_kn A x y = true ∧ ab_find A x y = -1) ∧ k < 6 → ∀ L, rg_P J L 0 len txt err P (ab_opn P A x y k) (min (n + 1) 10) (ab_push A H) sv S → K (nI k) L)
    (h2 : ¬ ((ab_kn A x y = true ∧ ab_find A x y = -1) ∧ k < 6) → K 0 (pm_up J1 499 0 3)) :
    (wX7_areKnown G (499) (x) (y) J1 (fun r16 I15 => (r16 = 0 → (wX7_throwsIf G (499) (1) (3) I15 (fun r18 I17 => (r18 = 0 → (wX7_keeps G (499) I17 (fun I19 => wX7_bestFor G (499) (x) (y) I19 (fun r21 I20 => pm_lp2 (fun (P22 : Int32 → pm_I → Prop) (x24 : Int32) (I23 : pm_I) => (134 ≤ x24 → (wX7_of G (nI k) (0) I23 (fun r26 I25 => vp_in (r26) 821 ∧ (∀ I27 : pm_I, I27 = pm_up I25 (499 + 1) ((r26).toNatClampNeg) (1) → (wX7_of G (nI k) (1) I27 (fun r29 I28 => vp_in (r29) 821 ∧ (∀ I30 : pm_I, I30 = pm_up I28 (499 + 1) ((r29).toNatClampNeg) (x) → (wX7_of G (nI k) (2) I30 (fun r32 I31 => vp_in (r32) 821 ∧ (∀ I33 : pm_I, I33 = pm_up I31 (499 + 1) ((r32).toNatClampNeg) (y) → (wX7_of G (nI k) (3) I33 (fun r35 I34 => vp_in (r35) 821 ∧ (∀ I36 : pm_I, I36 = pm_up I34 (499 + 1) ((r35).toNatClampNeg) (r21) → (wX7_of G (nI k) (4) I36 (fun r38 I37 => vp_in (r38) 821 ∧ (∀ I39 : pm_I, I39 = pm_up I37 (499 + 1) ((r38).toNatClampNeg) (-1) → (wX7_of G (nI k) (6) I39 (fun r41 I40 => vp_in (r41) 821 ∧ (∀ I42 : pm_I, I42 = pm_up I40 (499 + 1) ((r41).toNatClampNeg) (I40 (499 + 1) (0 : Int32).toNatClampNeg) → (K (nI k) I42)))))))))))))))))))) ∧ (¬ 134 ≤ x24 → (wX7_of G (nI k) (x24) I23 (fun r44 I43 => vp_in (r44) 821 ∧ (∀ I45 : pm_I, I45 = pm_up I43 (499 + 1) ((r44).toNatClampNeg) (0) → (P22 (x24 + 1) I45)))))) (0) I20)))) ∧ (¬ r18 = 0 → (K (0) I17))))) ∧ (¬ r16 = 0 → (wX7_sessionOf G (499) (x) (y) I15 (fun r47 I46 => (¬ r47 = (-1) → (wX7_throwsIf G (499) (1) (3) I46 (fun r49 I48 => (r49 = 0 → (wX7_keeps G (499) I48 (fun I50 => wX7_bestFor G (499) (x) (y) I50 (fun r52 I51 => pm_lp2 (fun (P53 : Int32 → pm_I → Prop) (x55 : Int32) (I54 : pm_I) => (134 ≤ x55 → (wX7_of G (nI k) (0) I54 (fun r57 I56 => vp_in (r57) 821 ∧ (∀ I58 : pm_I, I58 = pm_up I56 (499 + 1) ((r57).toNatClampNeg) (1) → (wX7_of G (nI k) (1) I58 (fun r60 I59 => vp_in (r60) 821 ∧ (∀ I61 : pm_I, I61 = pm_up I59 (499 + 1) ((r60).toNatClampNeg) (x) → (wX7_of G (nI k) (2) I61 (fun r63 I62 => vp_in (r63) 821 ∧ (∀ I64 : pm_I, I64 = pm_up I62 (499 + 1) ((r63).toNatClampNeg) (y) → (wX7_of G (nI k) (3) I64 (fun r66 I65 => vp_in (r66) 821 ∧ (∀ I67 : pm_I, I67 = pm_up I65 (499 + 1) ((r66).toNatClampNeg) (r52) → (wX7_of G (nI k) (4) I67 (fun r69 I68 => vp_in (r69) 821 ∧ (∀ I70 : pm_I, I70 = pm_up I68 (499 + 1) ((r69).toNatClampNeg) (-1) → (wX7_of G (nI k) (6) I70 (fun r72 I71 => vp_in (r72) 821 ∧ (∀ I73 : pm_I, I73 = pm_up I71 (499 + 1) ((r72).toNatClampNeg) (I71 (499 + 1) (0 : Int32).toNatClampNeg) → (K (nI k) I73)))))))))))))))))))) ∧ (¬ 134 ≤ x55 → (wX7_of G (nI k) (x55) I54 (fun r75 I74 => vp_in (r75) 821 ∧ (∀ I76 : pm_I, I76 = pm_up I74 (499 + 1) ((r75).toNatClampNeg) (0) → (P53 (x55 + 1) I76)))))) (0) I51)))) ∧ (¬ r49 = 0 → (K (0) I48))))) ∧ (r47 = (-1) → ((¬ nI k = 6 → (wX7_throwsIf G (499) (0) (3) I46 (fun r78 I77 => (r78 = 0 → (wX7_keeps G (499) I77 (fun I79 => wX7_bestFor G (499) (x) (y) I79 (fun r81 I80 => pm_lp2 (fun (P82 : Int32 → pm_I → Prop) (x84 : Int32) (I83 : pm_I) => (134 ≤ x84 → (wX7_of G (nI k) (0) I83 (fun r86 I85 => vp_in (r86) 821 ∧ (∀ I87 : pm_I, I87 = pm_up I85 (499 + 1) ((r86).toNatClampNeg) (1) → (wX7_of G (nI k) (1) I87 (fun r89 I88 => vp_in (r89) 821 ∧ (∀ I90 : pm_I, I90 = pm_up I88 (499 + 1) ((r89).toNatClampNeg) (x) → (wX7_of G (nI k) (2) I90 (fun r92 I91 => vp_in (r92) 821 ∧ (∀ I93 : pm_I, I93 = pm_up I91 (499 + 1) ((r92).toNatClampNeg) (y) → (wX7_of G (nI k) (3) I93 (fun r95 I94 => vp_in (r95) 821 ∧ (∀ I96 : pm_I, I96 = pm_up I94 (499 + 1) ((r95).toNatClampNeg) (r81) → (wX7_of G (nI k) (4) I96 (fun r98 I97 => vp_in (r98) 821 ∧ (∀ I99 : pm_I, I99 = pm_up I97 (499 + 1) ((r98).toNatClampNeg) (-1) → (wX7_of G (nI k) (6) I99 (fun r101 I100 => vp_in (r101) 821 ∧ (∀ I102 : pm_I, I102 = pm_up I100 (499 + 1) ((r101).toNatClampNeg) (I100 (499 + 1) (0 : Int32).toNatClampNeg) → (K (nI k) I102)))))))))))))))))))) ∧ (¬ 134 ≤ x84 → (wX7_of G (nI k) (x84) I83 (fun r104 I103 => vp_in (r104) 821 ∧ (∀ I105 : pm_I, I105 = pm_up I103 (499 + 1) ((r104).toNatClampNeg) (0) → (P82 (x84 + 1) I105)))))) (0) I80)))) ∧ (¬ r78 = 0 → (K (0) I77))))) ∧ (nI k = 6 → (wX7_throwsIf G (499) (1) (3) I46 (fun r107 I106 => (r107 = 0 → (wX7_keeps G (499) I106 (fun I108 => wX7_bestFor G (499) (x) (y) I108 (fun r110 I109 => pm_lp2 (fun (P111 : Int32 → pm_I → Prop) (x113 : Int32) (I112 : pm_I) => (134 ≤ x113 → (wX7_of G (nI k) (0) I112 (fun r115 I114 => vp_in (r115) 821 ∧ (∀ I116 : pm_I, I116 = pm_up I114 (499 + 1) ((r115).toNatClampNeg) (1) → (wX7_of G (nI k) (1) I116 (fun r118 I117 => vp_in (r118) 821 ∧ (∀ I119 : pm_I, I119 = pm_up I117 (499 + 1) ((r118).toNatClampNeg) (x) → (wX7_of G (nI k) (2) I119 (fun r121 I120 => vp_in (r121) 821 ∧ (∀ I122 : pm_I, I122 = pm_up I120 (499 + 1) ((r121).toNatClampNeg) (y) → (wX7_of G (nI k) (3) I122 (fun r124 I123 => vp_in (r124) 821 ∧ (∀ I125 : pm_I, I125 = pm_up I123 (499 + 1) ((r124).toNatClampNeg) (r110) → (wX7_of G (nI k) (4) I125 (fun r127 I126 => vp_in (r127) 821 ∧ (∀ I128 : pm_I, I128 = pm_up I126 (499 + 1) ((r127).toNatClampNeg) (-1) → (wX7_of G (nI k) (6) I128 (fun r130 I129 => vp_in (r130) 821 ∧ (∀ I131 : pm_I, I131 = pm_up I129 (499 + 1) ((r130).toNatClampNeg) (I129 (499 + 1) (0 : Int32).toNatClampNeg) → (K (nI k) I131)))))))))))))))))))) ∧ (¬ 134 ≤ x113 → (wX7_of G (nI k) (x113) I112 (fun r133 I132 => vp_in (r133) 821 ∧ (∀ I134 : pm_I, I134 = pm_up I132 (499 + 1) ((r133).toNatClampNeg) (0) → (P111 (x113 + 1) I134)))))) (0) I109)))) ∧ (¬ r107 = 0 → (K (0) I106)))))))))))) := by
  have oP := ok.2.1
  have n8 := oP.1.1
  have e0 := g.2.2
  refine rf_kn g.1.2.1.1 (i1.wd n8) ⟨fun z => rf_thT e0 (by decide) ⟨fun z => absurd z (by decide), fun _ => h2 (fun hh => by rw [ob_b0.mp z] at hh; exact absurd hh.1.1 (by decide))⟩, fun z => rf_find g.1.2.1.1 ⟨fun z2 => rf_thT e0 (by decide) ⟨fun z => absurd z (by decide), fun _ => h2 (fun hh => z2 hh.1.2)⟩, fun z2 => ⟨fun z3 => rf_thF e0 ⟨fun _ => ?_, fun z => absurd rfl z⟩, fun z3 => rf_thT e0 (by decide) ⟨fun z => absurd z (by decide), fun _ => h2 (fun hh => ?_)⟩⟩⟩⟩
  · have hl : k < 6 := by
      rcases Nat.lt_or_ge k 6 with h | h
      · exact h
      · exact absurd (by rw [show k = 6 by omega]; rfl) z3
    refine rx_keep g ok (fun L gL => rf_best gL.1.2.1 oP i1 i2 (fun M hM fM fM' => ?_))
    have gM := rg_z gL hM fM
    refine rf_zero (t := A.1) hl hM.1.1 (fun N hN fN => h1 ⟨⟨ob_b1.mp z, z2⟩, hl⟩ N (rg_z gM ?_ fN.z))
    exact hM.put ok.2.2.1.1.n24 hl hN rfl fN
  · have := (nI_eq (b := 6) (by omega) (by omega)).mp z3
    omega
theorem case_27 {G : pm_G} {xs : Nat → Int32} {x4 : Int32} {I : pm_I} {K : pm_I → Prop} {c : Nat} (hG : gK G) (h : gS c I) (hc : c < 512) (hk : ∀ J, gS (c + 1) J → K J) : wC27 G xs x4 I K := by
  obtain ⟨len, txt, err, P, A, n, H, sv, S, hC, hR, ok⟩ := h
  have ok1 := ok.up (c' := c + 1) (by omega)
  have oP := ok.2.1
  have n8 := oP.1.1
  obtain ⟨p, hp, i3, w⟩ := hC.pl
  unfold wC27 wX7_thrown
  have th0 : (if ab_th2 P (xs (x4 + 1).toNatClampNeg) (xs (x4 + 2).toNatClampNeg) = 0 then (if ((ab_kn A (xs (x4 + 1).toNatClampNeg) (xs (x4 + 2).toNatClampNeg) = true ∧ ab_find A (xs (x4 + 1).toNatClampNeg) (xs (x4 + 2).toNatClampNeg) = -1) ∧ ¬ ab_free A = -1) then (0 : Int32) else 3) else ab_th2 P (xs (x4 + 1).toNatClampNeg) (xs (x4 + 2).toNatClampNeg)) = 0 → ob_ix (ab_np P) (xs (x4 + 1).toNatClampNeg) ∧ ob_ix (ab_np P) (xs (x4 + 2).toNatClampNeg) ∧ ¬ (xs (x4 + 1).toNatClampNeg) = (xs (x4 + 2).toNatClampNeg) ∧ True := by
    intro e
    by_cases h1 : ab_ip P (xs (x4 + 1).toNatClampNeg) = true ∧ ab_ip P (xs (x4 + 2).toNatClampNeg) = true
    · refine ⟨(ab_ip_t oP).mp h1.1, (ab_ip_t oP).mp h1.2, fun h2 => ?_, trivial⟩
      have : ab_th2 P (xs (x4 + 1).toNatClampNeg) (xs (x4 + 2).toNatClampNeg) = 2 := by unfold ab_th2; rw [if_pos h1, if_pos h2]
      rw [this, if_neg (by decide)] at e
      exact absurd e (by decide)
    · have : ab_th2 P (xs (x4 + 1).toNatClampNeg) (xs (x4 + 2).toNatClampNeg) = 1 := if_neg h1
      rw [this, if_neg (by decide)] at e
      exact absurd e (by decide)
  have cl : ∀ K : Int32 → pm_I → Prop, ((if ab_th2 P (xs (x4 + 1).toNatClampNeg) (xs (x4 + 2).toNatClampNeg) = 0 then (if ((ab_kn A (xs (x4 + 1).toNatClampNeg) (xs (x4 + 2).toNatClampNeg) = true ∧ ab_find A (xs (x4 + 1).toNatClampNeg) (xs (x4 + 2).toNatClampNeg) = -1) ∧ ¬ ab_free A = -1) then (0 : Int32) else 3) else ab_th2 P (xs (x4 + 1).toNatClampNeg) (xs (x4 + 2).toNatClampNeg)) = 0 → ∀ J, cg_P I J len txt err P (ab_opn P A (xs (x4 + 1).toNatClampNeg) (xs (x4 + 2).toNatClampNeg) (ab_free A).toNatClampNeg) (min (n + 1) 10) (ab_push A H) sv S → J 515 0 = ab_free A → K 0 J) → (¬ (if ab_th2 P (xs (x4 + 1).toNatClampNeg) (xs (x4 + 2).toNatClampNeg) = 0 then (if ((ab_kn A (xs (x4 + 1).toNatClampNeg) (xs (x4 + 2).toNatClampNeg) = true ∧ ab_find A (xs (x4 + 1).toNatClampNeg) (xs (x4 + 2).toNatClampNeg) = -1) ∧ ¬ ab_free A = -1) then (0 : Int32) else 3) else ab_th2 P (xs (x4 + 1).toNatClampNeg) (xs (x4 + 2).toNatClampNeg)) = 0 → K ((if ab_th2 P (xs (x4 + 1).toNatClampNeg) (xs (x4 + 2).toNatClampNeg) = 0 then (if ((ab_kn A (xs (x4 + 1).toNatClampNeg) (xs (x4 + 2).toNatClampNeg) = true ∧ ab_find A (xs (x4 + 1).toNatClampNeg) (xs (x4 + 2).toNatClampNeg) = -1) ∧ ¬ ab_free A = -1) then (0 : Int32) else 3) else ab_th2 P (xs (x4 + 1).toNatClampNeg) (xs (x4 + 2).toNatClampNeg))) I) → wL_open G 515 (xs (x4 + 1).toNatClampNeg) (xs (x4 + 2).toNatClampNeg) I K := by
    intro K hk hE
    unfold wL_open wX6_open
    refine cx_two hG hp i3 w oP (fun i1 i2 ne e => ?_) (fun e => Or.inl ⟨rfl, ?_⟩) (fun e => Or.inr (Or.inl ⟨rfl, ?_⟩))
    · rw [if_pos e] at hk hE
      have no : ¬ ((ab_kn A (xs (x4 + 1).toNatClampNeg) (xs (x4 + 2).toNatClampNeg) = true ∧ ab_find A (xs (x4 + 1).toNatClampNeg) (xs (x4 + 2).toNatClampNeg) = -1) ∧ ¬ ab_free A = -1) → 2 = 3 ∧ K 1 I ∨ 2 = 1 ∧ K 2 I ∨ 2 = 2 ∧ K 3 I := fun hn => Or.inr (Or.inr ⟨rfl, by rw [if_neg hn] at hE; exact hE (by decide)⟩)
      refine cl_free w.1 ok.2.2.1.1.2.2.2 ⟨fun z => cl_kn w.1 (i1.wd n8) ⟨fun z2 => cl_find w.1 ok.2.2.1.1.2.2.2 ⟨fun z3 => ?_, fun z3 => no (fun hh => z3 hh.1.2)⟩, fun z2 => no (fun hh => by rw [ob_b0.mp z2] at hh; exact absurd hh.1.1 (by decide))⟩, fun z => no (fun hh => hh.2 z)⟩
      rw [if_pos ⟨⟨ob_b1.mp z2, z3⟩, z⟩] at hk
      obtain ⟨i, _, hi, hpi, efr⟩ := (ob_fs_r (p := fun k => !decide ((A.2.2.2 k).1 0 = 1)) 6 0).resolve_left z
      have efr' : ab_free A = nI i := efr
      have hi6 : i < 6 := by omega
      rw [efr'] at hk ⊢
      rw [nI_clamp (by omega)] at hk ⊢
      refine cx_keep hC hp i3 w ok.2.2.1.1.2.2.2 (fun J hJ i3J wJ fJ => ?_)
      rw [i3J, nI_clamp (by omega)]
      refine ⟨hG.P hp, cl_best wJ oP ok.2.2.1.1.2.2.2 i1 i2 (fun L hL fL => ⟨vp_in_nI hi6 (by decide), ?_⟩)⟩
      rw [hL.1.1]
      refine cl_new (fun M hM fM I2 q2 => ?_)
      subst q2
      have w1 := hL.put hi6 hM fM
      have cz := hJ.cz2 hp i3J w1 (fL.tr (cl_z_s hi6 fM))
      have o := cg_out (I := I) (v := nI i) cz.1 (fun r hr => by rw [cz.2 r hr]; exact fJ r hr)
      exact hk rfl _ o.1 o.2
    · rw [if_neg (by rw [e]; decide), e] at hE
      exact hE (by decide)
    · rw [if_neg (by rw [e]; decide), e] at hE
      exact hE (by decide)
  have rl : ∀ (J : pm_I) (K : Int32 → pm_I → Prop), rg_R J len txt err P A n H sv S → ((if ab_th2 P (xs (x4 + 1).toNatClampNeg) (xs (x4 + 2).toNatClampNeg) = 0 then (if ((ab_kn A (xs (x4 + 1).toNatClampNeg) (xs (x4 + 2).toNatClampNeg) = true ∧ ab_find A (xs (x4 + 1).toNatClampNeg) (xs (x4 + 2).toNatClampNeg) = -1) ∧ ¬ ab_free A = -1) then (0 : Int32) else 3) else ab_th2 P (xs (x4 + 1).toNatClampNeg) (xs (x4 + 2).toNatClampNeg)) = 0 → ∀ L, rg_P J L 0 len txt err P (ab_opn P A (xs (x4 + 1).toNatClampNeg) (xs (x4 + 2).toNatClampNeg) (ab_free A).toNatClampNeg) (min (n + 1) 10) (ab_push A H) sv S → K (ab_free A) L) → (¬ (if ab_th2 P (xs (x4 + 1).toNatClampNeg) (xs (x4 + 2).toNatClampNeg) = 0 then (if ((ab_kn A (xs (x4 + 1).toNatClampNeg) (xs (x4 + 2).toNatClampNeg) = true ∧ ab_find A (xs (x4 + 1).toNatClampNeg) (xs (x4 + 2).toNatClampNeg) = -1) ∧ ¬ ab_free A = -1) then (0 : Int32) else 3) else ab_th2 P (xs (x4 + 1).toNatClampNeg) (xs (x4 + 2).toNatClampNeg)) = 0 → ∀ L b, rg_P J L ((if ab_th2 P (xs (x4 + 1).toNatClampNeg) (xs (x4 + 2).toNatClampNeg) = 0 then (if ((ab_kn A (xs (x4 + 1).toNatClampNeg) (xs (x4 + 2).toNatClampNeg) = true ∧ ab_find A (xs (x4 + 1).toNatClampNeg) (xs (x4 + 2).toNatClampNeg) = -1) ∧ ¬ ab_free A = -1) then (0 : Int32) else 3) else ab_th2 P (xs (x4 + 1).toNatClampNeg) (xs (x4 + 2).toNatClampNeg))) len txt err P A n H sv S → K b L) → wX7_open G 499 (xs (x4 + 1).toNatClampNeg) (xs (x4 + 2).toNatClampNeg) J K := by
    intro J K hR hk hE
    unfold wX7_open
    refine rx_two hR.2.1.2 oP (fun i1 i2 ne e => ⟨fun _ => ?_, fun z => absurd rfl z⟩) (fun e => ⟨fun z => absurd z (by decide), fun _ => ?_⟩)
    · rw [if_pos e] at hk hE
      have g := rg_up (v := 0) hR
      rw [e]
      have hE' : ¬ ((ab_kn A (xs (x4 + 1).toNatClampNeg) (xs (x4 + 2).toNatClampNeg) = true ∧ ab_find A (xs (x4 + 1).toNatClampNeg) (xs (x4 + 2).toNatClampNeg) = -1) ∧ ¬ ab_free A = -1) → K 0 (pm_up (pm_up J 499 0 0) 499 0 3) := fun hn => by rw [if_neg hn] at hE; rw [ob_uu]; exact hE (by decide) _ _ (rg_up hR)
      have hk2 : ((ab_kn A (xs (x4 + 1).toNatClampNeg) (xs (x4 + 2).toNatClampNeg) = true ∧ ab_find A (xs (x4 + 1).toNatClampNeg) (xs (x4 + 2).toNatClampNeg) = -1) ∧ ¬ ab_free A = -1) → ∀ L, rg_P J L 0 len txt err P (ab_opn P A (xs (x4 + 1).toNatClampNeg) (xs (x4 + 2).toNatClampNeg) (ab_free A).toNatClampNeg) (min (n + 1) 10) (ab_push A H) sv S → K (ab_free A) L := fun hy => by rw [if_pos hy] at hk; exact hk rfl
      clear hk hE
      generalize pm_up J 499 0 0 = J1 at *
      unfold ab_free at hk2 hE'
      generalize hpp : (fun k => !decide ((A.2.2.2 k).1 0 = 1)) = pp at hk2 hE'
      refine ob_lp2 (fun i z L => z = nI i ∧ L = J1 ∧ ob_fs pp 6 0 = ob_fs pp (6 - i) i) 6 ⟨rfl, rfl, rfl⟩ ?_
      intro Q i z L hi hI hQ
      obtain ⟨hz, hL, hs⟩ := hI
      subst hz; subst hL
      refine ⟨fun hc1 => ?_, fun hc1 => ?_⟩
      · have e6 := (ob_to (n := 6) (by decide) hi).1 hc1
        subst e6
        have hm1 : ob_fs pp 6 0 = -1 := hs
        exact rx_opn g ok i1 i2 (by omega) (fun hh => absurd hh.2 (by omega)) (fun _ => hE' (fun hh => hh.2 hm1))
      · have hl := (ob_to (n := 6) (by decide) hi).2 hc1
        have hpi : pp i = !decide ((A.2.2.2 i).1 0 = 1) := by rw [← hpp]
        refine rf_isOpen g.1.2.1.1 hl ⟨fun z => ?_, fun z => ?_⟩
        · have fr : ob_fs pp 6 0 = nI i := hs.trans (ob_fs_t hl (by rw [hpi, ob_b0.mp z]; rfl))
          have hne : ¬ nI i = -1 := (ob_ix.pos (n := 6) ⟨i, hl, rfl⟩ (by decide)).2.1
          rw [fr, nI_clamp (by omega)] at hk2
          rw [fr] at hE'
          exact rx_opn g ok i1 i2 (by omega) (fun hh => hk2 ⟨hh.1, hne⟩) (fun hn => hE' (fun hh => hn ⟨hh.1, hl⟩))
        · exact hQ _ _ hl ⟨nI_1 _, rfl, hs.trans (ob_fs_f hl (by rw [hpi, ob_b1.mp z]; rfl))⟩
    · rw [if_neg e] at hE
      exact hE e _ _ (rg_up hR)
  refine cl _ (fun e J hJ hv => rl _ _ (hR.fr (fun r h1 h2 => hJ.2 r h1 (by omega))) (fun _ L hL => ⟨hL.2.2, fun _ => fin_v hL hv rfl, hk L (fin_g hJ hL ?_)⟩) (fun ne => absurd e ne)) (fun ne => rl _ _ hR (fun e => absurd e ne) (fun _ L b hL => ⟨hL.2.2, fun e => absurd e ne, hk L (fin_g (cg_id hC) hL ok1)⟩))
  obtain ⟨i1, i2, ne, cnd⟩ := th0 e
  refine ok_push ok ⟨?_, ok.2.2.1.2⟩
  exact (ok.2.2.1.1.set rfl (ok_S.new oP i1 i2 ok_rt_best)).up (by omega)
