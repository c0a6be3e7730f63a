/-! ===== THE CALL parse: both sides ===== -/
theorem cp_ovl {G : pm_G} {rr d m : Nat} {tx : Nat → Int32} {J0 : pm_I} {o : aO} {K : Int32 → pm_I → Prop} (hw : cp_w rr d m) (hG : pm_k G d (.inl 1)) (e2 : J0 rr 2 = nI d) (hQ0 : cp_Q (pm_clr J0 d) rr d m tx (0, 0, 0, 0, 0, ab_D0))
    (Co : ∀ (J : pm_I) (K : Int32 → pm_I → Prop) (P : Int32 → pm_I → Prop), (∀ x L, ov_c G rr K P x L → P x L) → cp_Q J rr d m tx (ab_adv tx m (0, 0, 0, 0, 0, ab_D0)) → ov_C rr d m tx o J K → P (nI 0) J) (hk : ov_C rr d m tx o (pm_clr J0 d) K) : wX2_readOverlay G rr J0 K := by
  have ok0 : ok_Q m (0, 0, 0, 0, 0, ab_D0) := ⟨Nat.le_refl 0, Nat.zero_le m, fun z => absurd rfl z, by decide⟩
  unfold wX2_readOverlay
  rw [e2, nI_clamp (by have := hw.2.2; omega)]
  exact ⟨hG, u_X1_clear (cpQ_adv hw ok0 hQ0 (fun L1 hL1 fL1 P hP => Co L1 K P (fun x L h => hP x L h) hL1 (hk.wd fL1)))⟩
theorem case_1 {G : pm_G} {xs : Nat → Int32} {x4 : Int32} {I : pm_I} {K : pm_I → Prop} {c : Nat} (hG : gK G) (h : gS c I) (hc : c < 512) (hk : ∀ J, gS (c + 1) J → K J) : wC1 G xs x4 I K := by
  obtain ⟨len, txt, err, P, A, n, H, sv, S, hC, hR, ok⟩ := h
  have ok1 := ok.up (c' := c + 1) (by omega)
  have hC' := hC
  obtain ⟨⟨c1, c2, c3⟩, ⟨p, hp, i3, i4, w⟩, cH, cS⟩ := hC
  have hR' := hR
  obtain ⟨⟨r1, r2, r3⟩, rW, rH', rS⟩ := hR
  have hlen := ok.1
  unfold wC1
  generalize xs (x4 + 1).toNatClampNeg = x
  have bad : (x < 0 ∨ ¬ x ≤ nI len) → wX7_parse G 499 x I (fun b1 I2 => wX7_thrown G 499 I2 (fun t1 I3 => t1 = 1 ∧ ((1 : Int32) = 0 → I3 515 0 = b1) ∧ K I3)) := fun hx => by
    unfold wX7_parse
    intro I1 q1
    have e10 : I1 499 10 = nI len := by rw [q1, ob_uq (by decide)]; exact r1
    have e0 : I1 499 0 = 0 := by rw [q1, ob_us]
    have gs : gS (c + 1) (pm_up I1 499 0 1) := by
      rw [q1]
      refine ⟨len, txt, err, P, A, n, H, sv, S, hC'.fr (fun r hr => by rw [ob_ur (by omega), ob_ur (by omega)]), ?_, ok1⟩
      exact (rg_up (v := 1) (rg_up (v := 0) hR').1).1
    have fin : (pm_up I1 499 0 1) 499 0 = 1 ∧ ((1 : Int32) = 0 → (pm_up I1 499 0 1) 515 0 = 0) ∧ K (pm_up I1 499 0 1) := ⟨ob_us _ _ _ _, fun z => absurd z (by decide), hk _ gs⟩
    unfold wX7_within
    rw [e10]
    refine ⟨fun z => ⟨fun y => absurd rfl y, fun _ => rp_throw1 e0 ⟨fun y => absurd y (by decide), fun _ => fin⟩⟩, fun z => ⟨fun z2 => ⟨fun y => absurd rfl y, fun _ => rp_throw1 e0 ⟨fun y => absurd y (by decide), fun _ => fin⟩⟩, fun z2 => ?_⟩⟩
    exact absurd hx (fun hh => hh.elim z (fun h3 => h3 (Int32.not_lt.mp z2)))
  unfold wL_parse wX6_parse
  rw [c1]
  refine ⟨fun z => ⟨rfl, bad (Or.inl z)⟩, fun z => ⟨fun z2 => ?_, fun z2 => ⟨rfl, bad (Or.inr z2)⟩⟩⟩
  clear bad
  obtain ⟨m, hm31, ex⟩ := nI_of z
  subst ex
  have hm : m ≤ len := (nI_leI hm31 (by omega)).mp z2
  have hd : 14 - p = 3 ∨ 14 - p = 11 := by omega
  have hb : ∀ k, k < m → ob_ib (txt k) := fun k hk => (c2 k (by omega)).2
  rw [i4, nI_clamp (by omega), hG.1]
  generalize hdd : 14 - p = d at *
  refine ⟨pm_cl_g hG (by rw [i3, nI_clamp (by omega)]; omega) (by rw [i4, nI_clamp (by omega)]; omega), hG.P hd, fun hh => ?_⟩
  have hGd : pm_k (pm_x G hh (.inl 2)) d (.inl 1) := pm_x_k (hG.P hd)
  have hGp : pm_k (pm_x G hh (.inl 2)) p (.inl 1) := pm_x_k (hG.P hp)
  have hw : cp_w (515 + 1) d m := ⟨by omega, rfl, hd⟩
  generalize hJ0 : pm_rd (pm_nw I (515 + 1)) (515 + 1) (nI m) d = J0
  have j0r : ∀ r, r ≠ 515 + 1 → J0 r = I r := fun r hr => by
    rw [← hJ0]
    unfold pm_rd
    rw [ob_ur hr, ob_ur hr, ob_ur hr, ob_ur hr]
    unfold pm_nw
    rw [if_neg hr]
  have j0n : ∀ j, j ≠ 0 → j ≠ 1 → j ≠ 2 → j ≠ 9 → J0 (515 + 1) j = 0 := fun j h0 h1 h2 h9 => by
    rw [← hJ0]
    unfold pm_rd
    rw [ob_uq h9, ob_uq h2, ob_uq h1, ob_uq h0]
    unfold pm_nw
    rw [if_pos rfl]
  have j01 : J0 (515 + 1) 1 = nI m := by rw [← hJ0]; unfold pm_rd; rw [ob_uq (by decide), ob_uq (by decide), ob_us]
  have j02 : J0 (515 + 1) 2 = nI d := by rw [← hJ0]; unfold pm_rd; rw [ob_uq (by decide), ob_us]
  have j09 : J0 (515 + 1) 9 = -1 := by rw [← hJ0]; unfold pm_rd; rw [ob_us]
  have ok0 : ok_Q m (0, 0, 0, 0, 0, ab_D0) := ⟨Nat.le_refl 0, Nat.zero_le m, fun z => absurd rfl z, by decide⟩
  have oq1 := (ok_Q.adv txt ok0).1
  have oV1 : ok_V m (ab_adv txt m (0, 0, 0, 0, 0, ab_D0)) := ⟨oq1, ok_N.adv txt m _, ok_D0⟩
  obtain ⟨o, y1, y2, Co, Ro⟩ := ov_loop (Gr := G) (q := 499) hw hb hGd (m - (ab_adv txt m (0, 0, 0, 0, 0, ab_D0)).2.1 + 1) (ab_adv txt m (0, 0, 0, 0, 0, ab_D0)) 0 (by omega) (by omega) oV1
  have clo : ∀ r, ¬ (d ≤ r ∧ r < d + 8) → pm_clr J0 d r = J0 r := fun r hr => pm_clr_out hr
  have hQ0 : cp_Q (pm_clr J0 d) (515 + 1) d m txt (0, 0, 0, 0, 0, ab_D0) := by
    have a : pm_clr J0 d (515 + 1) = J0 (515 + 1) := clo _ (by omega)
    refine ⟨by rw [a]; exact j01, by rw [a]; exact j02, by rw [a]; exact j0n 3 (by decide) (by decide) (by decide) (by decide), by rw [a]; exact j0n 4 (by decide) (by decide) (by decide) (by decide), by rw [a]; exact j0n 5 (by decide) (by decide) (by decide) (by decide), fun z => absurd z (by decide), by rw [a]; exact j0n 7 (by decide) (by decide) (by decide) (by decide), by rw [a]; exact j0n 8 (by decide) (by decide) (by decide) (by decide), by rw [a]; exact j09, fun k hk => ?_, cl_D0 J0 d⟩
    rw [clo 2 (by omega), j0r 2 (by omega)]
    exact (c2 k (by omega)).1
  have fr1 : ∀ r, ¬ cp_f (515 + 1) d r → pm_clr J0 d r = I r := fun r hr => by
    rw [clo r (fun h => hr (Or.inr h)), j0r r (fun h => hr (Or.inl h))]
  refine cp_ovl hw hGd j02 hQ0 Co ?_
  cases o with
  | inl e =>
    obtain ⟨e0, ep⟩ := y1 e rfl
    intro L hL fL I2 q2
    have fr : ∀ r, ¬ cp_f (515 + 1) d r → L r = I r := fun r hr => (fL r hr).trans (fr1 r hr)
    refine ⟨fun z => absurd z e0, fun _ I3 q3 => ?_⟩
    have e29 : I2 (515 + 1) 9 = nI e.2 := by rw [q2, ob_ur (by decide)]; exact hL.2.2.2.1
    rw [e29] at q3
    have v3 : I3 1 1 = 0 ∧ I3 1 2 = nI e.2 ∧ I3 1 3 = nI p ∧ I3 1 4 = nI d := by
      have l1 : L 1 = I 1 := fr 1 (fun h => by have := hw.2.1; rcases h with h | h <;> omega)
      refine ⟨?_, ?_, ?_, ?_⟩
      · rw [q3, ob_uq (by decide), q2, ob_us]
      · rw [q3, ob_us]
      · rw [q3, ob_uq (by decide), q2, ob_uq (by decide), l1]; exact i3
      · rw [q3, ob_uq (by decide), q2, ob_uq (by decide), l1]; exact i4
    have r3' : ∀ r, r ≠ 1 → ¬ cp_f (515 + 1) d r → I3 r = I r := fun r h1 hr => by rw [q3, ob_ur h1, q2, ob_ur h1]; exact fr r hr
    refine ⟨pm_cl_g hG (by rw [v3.2.2.1, nI_clamp (by omega)]; omega) (by rw [v3.2.2.2, nI_clamp (by omega)]; omega), fun I4 q4 => ?_⟩
    have r4' : ∀ r, r ≠ 515 → I4 r = I3 r := fun r hr => by rw [q4, ob_ur hr]
    have r4i : ∀ r, r ≠ 1 → r ≠ 515 → ¬ cp_f (515 + 1) d r → I4 r = I r := fun r h1 h2 hr => by rw [r4' r h2]; exact r3' r h1 hr
    have nf : ∀ r, r ≠ 515 + 1 → ¬ (d ≤ r ∧ r < d + 8) → ¬ cp_f (515 + 1) d r := fun r h1 h2 h => h.elim h1 h2
    refine rp_parse (A := A) (len := len) (txt := txt) hm hlen hb ?_ (fun k hk => ?_) y2 Ro (fun e' he' Z M z0 z10 z26 zr fM eM => ?_) (fun s' hs' => by cases hs')
    · rw [r4i 499 (by omega) (by omega) (nf _ (by omega) (by omega))]; exact r1
    · rw [r4i (499 + 9) (by omega) (by omega) (nf _ (by omega) (by omega))]; exact r2 k (by omega)
    · cases he'
      have mr : ∀ r, (r < 499 ∨ r = 500 ∨ 508 ≤ r) → M r = I4 r := fun r hr => by rw [fM.1 r (by omega), zr r (by omega)]
      refine ⟨?_, fun _ => ?_, hk M ⟨0, txt, nI e.2, P, A, n, H, sv, S, ?_, ?_, ?_⟩⟩
      · rw [fM.2.1 0 (by omega)]; exact z0
      · rw [mr 515 (by omega), q4, ob_us]
      · have mi : ∀ r, r ≠ 1 → r < 499 → ¬ (d ≤ r ∧ r < d + 8) → M r = I r := fun r h1 h2 h3 => by rw [mr r (by omega), r4i r h1 (by omega) (nf r (by omega) h3)]
        have m1 : M 1 = I3 1 := by rw [mr 1 (by omega), r4' 1 (by omega)]
        refine ⟨⟨by rw [m1]; exact v3.1, fun k hk => absurd hk (Nat.not_lt_zero k), by rw [m1]; exact v3.2.1⟩, ⟨p, hp, by rw [m1]; exact v3.2.2.1, by rw [m1, hdd]; exact v3.2.2.2, ⟨w.1.rw (fun r h1 h2 => mi r (by omega) (by omega) (by omega)), w.2.1.rw (fun r h1 h2 _ => mi r (by omega) (by omega) (by omega)) (by rw [mi (p + 5) (by omega) (by omega) (by omega)]), w.2.2⟩⟩, cH.rw (fun r h1 h2 => mi r (by omega) (by omega) (by omega)), fun s hs => ?_⟩
        rw [mi (1 + 497) (by omega) (by omega) (by omega)]
        exact ⟨(cS s hs).1, fun e => ((cS s hs).2 e).rw (fun r h1 h2 => mi r (by omega) (by omega) (by omega))⟩
      · have i4r : ∀ r, 499 ≤ r → r < 515 → I4 r = I r := fun r h1 h2 => r4i r (by omega) (by omega) (nf r (by omega) (by omega))
        have zi : ∀ r, 500 ≤ r → r < 515 → Z r = I r := fun r h1 h2 => by rw [zr r (by omega), i4r r (by omega) h2]
        have mi : ∀ r, (r = 500 ∨ 508 ≤ r) → r < 515 → M r = I r := fun r h1 h2 => by rw [mr r (by omega), i4r r (by omega) h2]
        refine ⟨⟨?_, fun k hk => absurd hk (Nat.not_lt_zero k), ?_⟩, ⟨?_, ?_⟩, ?_, fun s hs => ?_⟩
        · rw [fM.2.1 10 (by omega)]; exact z10
        · exact eM.2
        · rw [mi (499 + 1) (by omega) (by omega)]; exact rW.1
        · obtain ⟨⟨p1, p1a, p1b, p1c⟩, p2, p3, p4, p5, p6⟩ := rW.2
          have n8 := ok.2.1.1.1
          have hl6 := ok.2.1.2.2.2.2.2.2
          obtain ⟨_, _, f2, f3, f5, f7, f8⟩ := fM
          refine ⟨⟨?_, ?_, ?_, ?_⟩, fun k hk => ⟨?_, ?_⟩, fun k hk => ?_, fun k hk => ?_, ?_, fun k hk => ?_⟩
          · rw [f2 0 (by decide), zi (499 + 2) (by omega) (by omega)]; exact p1
          · rw [f2 1 (by decide), zi (499 + 2) (by omega) (by omega)]; exact p1a
          · rw [f2 2 (by decide), zi (499 + 2) (by omega) (by omega)]; exact p1b
          · rw [f2 3 (by decide), zi (499 + 2) (by omega) (by omega)]; exact p1c
          · rw [(f3 k (by omega)).1, zi (499 + 3) (by omega) (by omega)]; exact (p2 k hk).1
          · rw [(f3 k (by omega)).2.1, zi (499 + 4) (by omega) (by omega)]; exact (p2 k hk).2
          · rw [f5 k hk, zi (499 + 5) (by omega) (by omega)]; exact p3 k hk
          · rw [(f3 k hk).2.2, zi (499 + 6) (by omega) (by omega)]; exact p4 k hk
          · rw [f7, zi (499 + 7) (by omega) (by omega)]; exact p5
          · rw [f8 k (by omega), zi (499 + 8) (by omega) (by omega)]; exact p6 k hk
        · exact rH'.rw (by rw [fM.2.1 26 (by omega), z26, i4r 499 (by omega) (by omega)]) (mi (499 + 13) (by omega) (by omega))
        · rw [mi (499 + 15) (by omega) (by omega), mi (499 + 14) (by omega) (by omega)]
          exact rS s hs
      · exact ⟨Nat.zero_le _, ok1.2⟩
  | inr s' =>
    have oP' := (y2 s' rfl).2.2
    generalize hD : s'.2.2.2.2.2 = D at oP'
    intro L hL fL I2 q2
    have fr : ∀ r, ¬ cp_f (515 + 1) d r → L r = I r := fun r hr => (fL r hr).trans (fr1 r hr)
    refine ⟨fun _ I3 q3 => ?_, fun z => absurd rfl z⟩
    have nf : ∀ r, r ≠ 515 + 1 → ¬ (d ≤ r ∧ r < d + 8) → ¬ cp_f (515 + 1) d r := fun r h1 h2 h => h.elim h1 h2
    have l1 : L 1 = I 1 := fr 1 (nf 1 (by omega) (by omega))
    have v31 : I3 1 1 = 0 := by rw [q3, ob_uq (by decide), q2, ob_us]
    have v32 : I3 1 2 = -1 := by rw [q3, ob_us]
    have v33 : I3 1 3 = nI p := by rw [q3, ob_uq (by decide), q2, ob_uq (by decide), l1]; exact i3
    have v34 : I3 1 4 = nI d := by rw [q3, ob_uq (by decide), q2, ob_uq (by decide), l1]; exact i4
    have r3' : ∀ r, r ≠ 1 → I3 r = L r := fun r h1 => by rw [q3, ob_ur h1, q2, ob_ur h1]
    clear q2 q3
    unfold wX6_useDraft
    rw [v33, v34, nI_clamp (by omega), nI_clamp (by omega)]
    refine ⟨hGp, hGd, fun I4 q4 I5 q5 => ?_⟩
    have v51 : I5 1 1 = 0 := by rw [q5, ob_uq (by decide), q4, ob_uq (by decide)]; exact v31
    have v52 : I5 1 2 = -1 := by rw [q5, ob_uq (by decide), q4, ob_uq (by decide)]; exact v32
    have v53 : I5 1 3 = nI d := by rw [q5, ob_uq (by decide), q4, ob_us]
    have v54 : I5 1 4 = nI p := by rw [q5, ob_us]
    have r5' : ∀ r, r ≠ 1 → I5 r = L r := fun r h1 => by rw [q5, ob_ur h1, q4, ob_ur h1]; exact r3' r h1
    have r5i : ∀ r, r ≠ 1 → r ≠ 515 + 1 → ¬ (d ≤ r ∧ r < d + 8) → I5 r = I r := fun r h1 h2 h3 => by rw [r5' r h1]; exact fr r (nf r h2 h3)
    clear q4 q5
    rw [v53, nI_clamp (by omega)]
    refine ⟨hGd, cl_beg (A := A) (P := D) ⟨w.1.rw (fun r h1 h2 => r5i r (by omega) (by omega) (by omega)), ?_, by omega⟩ (fun J hJ fJ => ?_)⟩
    · have hPL : cl_P L d s'.2.2.2.2.2 := hL.2.2.2.2.2.2.2.2.2.2
      rw [hD] at hPL
      exact hPL.rw (fun r h1 h2 _ => r5' r (by omega)) (by rw [r5' (d + 5) (by omega)])
    have rJ : ∀ r, ¬ (19 ≤ r ∧ r < 53) → J r = I5 r := fun r hr => fJ r (fun h => hr ⟨by have := h.1; omega, by have := h.2; omega⟩)
    unfold wX0_forget
    intro N qN
    refine ob_lp2 (fun i x M => x = nI i ∧ (∀ r, r ≠ 1 + 497 → M r = N r) ∧ ∀ k, k < i → M (1 + 497) k = 0) 2 ⟨rfl, fun _ _ => rfl, fun k hk => absurd hk (Nat.not_lt_zero k)⟩ ?_
    intro Q i x M hi hI hQ
    obtain ⟨hx, mr, m0⟩ := hI
    subst hx
    refine ⟨fun hc => ?_, fun hc => ?_⟩
    · have e := (ob_to (n := 2) (by decide) hi).1 hc
      subst e
      clear hQ
      have m1 : M 1 = I5 1 := by rw [mr 1 (by omega), qN, ob_ur (by omega), rJ 1 (by omega)]
      have mJ : ∀ r, r ≠ 87 → r ≠ 498 → M r = J r := fun r h1 h2 => by rw [mr r (by omega), qN, ob_ur (by omega)]
      have mi : ∀ r, r ≠ 1 → r ≠ 87 → r ≠ 498 → r ≠ 515 + 1 → ¬ (d ≤ r ∧ r < d + 8) → ¬ (19 ≤ r ∧ r < 53) → M r = I r := fun r h1 h2 h3 h4 h5 h6 => by rw [mJ r h2 h3, rJ r h6, r5i r h1 h4 h5]
      refine ⟨pm_cl_g hG (by rw [m1, v53, nI_clamp (by omega)]; omega) (by rw [m1, v54, nI_clamp (by omega)]; omega), fun I6 q6 => ?_⟩
      have r6 : ∀ r, r ≠ 515 → I6 r = M r := fun r hr => by rw [q6, ob_ur hr]
      refine rp_parse (A := A) (len := len) (txt := txt) hm hlen hb ?_ (fun k hk => ?_) y2 Ro (fun e' he' => by cases he') (fun s'' hs'' Z L' U z0 z10 zr fL' l17 hU u26 uq u0 u1 ur => ?_)
      · rw [r6 499 (by omega), mi 499 (by omega) (by omega) (by omega) (by omega) (by omega) (by omega)]; exact r1
      · rw [r6 (499 + 9) (by omega), mi (499 + 9) (by omega) (by omega) (by omega) (by omega) (by omega) (by omega)]; exact r2 k (by omega)
      · cases hs''
        rw [hD] at hU
        have uM : ∀ r, r < 499 → U r = M r := fun r hr => by rw [ur r (by omega), fL'.1 r (by omega), zr r (by omega), r6 r (by omega)]
        refine ⟨?_, fun _ => ?_, hk U ⟨0, txt, -1, D, ab_beg D A, 0, H, fun _ => false, S, ?_, ?_, ?_⟩⟩
        · show U 499 0 = 0
          rw [uq 0 (by decide), fL'.2.1 0 (by omega)]; exact z0
        · rw [ur 515 (by omega), fL'.1 515 (by omega), zr 515 (by omega), q6, ob_us]
        · have u1' : U 1 = I5 1 := by rw [uM 1 (by omega), m1]
          refine ⟨⟨by rw [u1']; exact v51, fun k hk => absurd hk (Nat.not_lt_zero k), by rw [u1']; exact v52⟩, ⟨d, hd, by rw [u1']; exact v53, by rw [u1', v54, show 14 - d = p by omega], ⟨hJ.1.rw (fun r h1 h2 => by rw [uM r (by omega), mJ r (by omega) (by omega)]), hJ.2.1.rw (fun r h1 h2 _ => by rw [uM r (by omega), mJ r (by omega) (by omega)]) (by rw [uM (d + 5) (by omega), mJ (d + 5) (by omega) (by omega)]), hJ.2.2⟩⟩, ?_, fun s hs => ?_⟩
          · obtain ⟨xx, hxx, e1, e2, hn, _⟩ := cH
            have u87 : ∀ j, j ≠ 2 → U (1 + 86) j = I (1 + 86) j := fun j hj => by rw [uM (1 + 86) (by omega), mr (1 + 86) (by omega), qN, ob_uq hj, rJ (1 + 86) (by omega), r5i (1 + 86) (by omega) (by omega) (by omega)]
            refine ⟨xx, hxx, by rw [u87 1 (by decide)]; exact e1, ?_, by omega, fun k hk => absurd hk (Nat.not_lt_zero k)⟩
            rw [uM (1 + 86) (by omega), mr (1 + 86) (by omega), qN, ob_us]; rfl
          · refine ⟨?_, fun h => by cases h⟩
            rw [uM (1 + 497) (by omega)]; exact m0 s hs
        · refine ⟨⟨?_, fun k hk => absurd hk (Nat.not_lt_zero k), ?_⟩, hU, ⟨u26, by omega, fun k hk => absurd hk (Nat.not_lt_zero k)⟩, fun s hs => ⟨?_, fun h => by cases h⟩⟩
          · rw [uq 10 (by decide), fL'.2.1 10 (by omega)]; exact z10
          · rw [uq 17 (by decide)]; exact l17
          · have : s = 0 ∨ s = 1 := by omega
            rcases this with e | e
            · rw [e]; exact u0
            · rw [e]; exact u1
        · exact ⟨Nat.zero_le _, oP', ok_beg oP', fun k hk => absurd hk (Nat.not_lt_zero k), fun s hs h => by cases h⟩
    · have hl := (ob_to (n := 2) (by decide) hi).2 hc
      rw [nI_clamp (by omega), ob_nb0]
      refine ⟨vp_in_nI (by omega) (by decide), fun M2 q2 => hQ _ _ hl ⟨nI_1 _, fun r hr => by rw [q2, ob_ur hr]; exact mr r hr, fun k hk => ?_⟩⟩
      rw [q2]
      by_cases ek : k = i
      · rw [ek, ob_us]
      · rw [ob_uq ek]; exact m0 k (by omega)
