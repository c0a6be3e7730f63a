/-! ===== the calls that foretell ===== -/
theorem ab_set_fl {A : aT} {i k : Nat} {s : aS} (h : s.1 0 = (A.2.2.2 i).1 0) : ((ab_set A i s).2.2.2 k).1 0 = (A.2.2.2 k).1 0 := by
  show (if k = i then s else A.2.2.2 k).1 0 = _
  by_cases e : k = i
  · rw [if_pos e, e]; exact h
  · rw [if_neg e]
theorem ok_tick_fl {P : aP} {A : aT} {k : Nat} (h : (A.2.2.2 k).1 0 = 1) : ((ab_tick P A).2.2.2 k).1 0 = 1 := by
  unfold ab_tick
  refine ob_it_ok (Q := fun B : aT => (B.2.2.2 k).1 0 = 1) (n := 6) (fun a i hi ha => ?_) ?_ 6 (by omega)
  · unfold ab_s4
    split
    · rw [ab_set_fl ok_old_0]; exact ha
    · exact ha
  refine ob_it_ok (Q := fun B : aT => (B.2.2.2 k).1 0 = 1) (n := 6) (fun a i hi ha => ?_) ?_ 6 (by omega)
  · unfold ab_s3
    split
    · rw [ab_set_fl ok_tak_0]; exact ha
    · exact ha
  refine ob_it_ok (Q := fun B : aT => (B.2.2.2 k).1 0 = 1) (n := 6) (fun a i hi ha => ?_) ?_ 6 (by omega)
  · unfold ab_s2
    split
    · rw [ab_set_fl ok_prb_0]; exact ha
    · exact ha
  refine ob_it_ok (Q := fun B : aT => (B.2.2.2 k).1 0 = 1) (n := 6) (fun a i hi ha => ?_) ?_ 6 (by omega)
  · unfold ab_s1
    split
    · rw [ab_set_fl (by unfold ab_arr; rw [ok_dl_0]; rfl)]; exact ha
    · exact ha
  · exact h
def ab_tt (dn : aT → Bool) (P : aP) : Nat → aT → Nat → Int32
  | 0, _, _ => -1
  | f + 1, A, i => if dn A = true then nI i else ab_tt dn P f (ab_tick P A) (i + 1)
theorem ab_tt_t {dn : aT → Bool} {P : aP} {A : aT} {k : Nat} (hk : k < 301) (h : dn A = true) : ab_tt dn P (301 - k) A k = nI k := by
  obtain ⟨f, hf⟩ : ∃ f, 301 - k = f + 1 := ⟨301 - k - 1, by omega⟩
  rw [hf]
  show (if dn A = true then nI k else _) = _
  rw [if_pos h]
theorem ab_tt_f {dn : aT → Bool} {P : aP} {A : aT} {k : Nat} (hk : k < 301) (h : dn A = false) : ab_tt dn P (301 - k) A k = ab_tt dn P (301 - (k + 1)) (ab_tick P A) (k + 1) := by
  obtain ⟨f, hf⟩ : ∃ f, 301 - k = f + 1 := ⟨301 - k - 1, by omega⟩
  rw [hf, show 301 - (k + 1) = f by omega]
  show (if dn A = true then nI k else _) = _
  rw [h]
  rfl
section GF
variable {len : Nat} {txt : Nat → Int32} {err : Int32} {P : aP} {A : aT} {n : Nat} {H : Nat → aT} {sv : Nat → Bool} {S : Nat → aT} {G : pm_G} {I : pm_I} {c : Nat}
theorem cx_fore {x : Int32} {K : Int32 → pm_I → Prop} {dn : Nat → aT → Bool} {cond : pm_I → Nat → Prop} (hG : gK G) (hC : cg_R I len txt err P A n H sv S) (ok : ok_G c len P A n H sv S) (hc : c < 512)
    (hd : ∀ (J : pm_I) (B : aT) (i : Nat), i < 6 → cl_S J (1 + 52 + 3 + 1 + 5 * i) (B.2.2.2 i) → (B.2.2.2 i).1 0 = 1 → ok_S P c (B.2.2.2 i) → (cond J (1 + 52 + 3 + 1 + 5 * i) ↔ dn i B = true))
    (hk : ∀ J, cg_P I J len txt err P A n H sv S → (ab_ths A x = 0 → J 515 0 = ab_tt (dn x.toNatClampNeg) P 301 A 0) → K (ab_ths A x) J) :
    wX6_forecastOf G 1 x I (fun r11 I10 => pm_k G r11 (.inl 4) ∧ (pm_lp2 (fun (P13 : Int32 → pm_I → Prop) (x15 : Int32) (I14 : pm_I) => (300 < x15 → (∀ I2 : pm_I, I2 = pm_up I14 515 0 (-1) → K 0 I2)) ∧ (¬ 300 < x15 → ((¬ cond I14 r11 → (pm_k G ((I14 (1) 3).toNatClampNeg) (.inl 1) ∧ (wX5_passTick G (1 + 52) ((I14 (1) 3).toNatClampNeg) I14 (fun r18 I17 => P13 (x15 + 1) I17)))) ∧ (cond I14 r11 → (∀ I2 : pm_I, I2 = pm_up I14 515 0 x15 → K 0 I2))))) (0) I10)) (fun n I1 => n = 3 ∧ K 1 I1) := by
  have oP := ok.2.1
  have n8 := oP.1.1
  obtain ⟨p, hp, i3, w⟩ := hC.pl
  have h01 := ok.2.2.1.1.2.2.2
  unfold wX6_forecastOf
  refine cx_ses w.1 h01 (fun i hi hx h0 e => ⟨hG.S hi, ?_⟩) (fun e => ⟨rfl, ?_⟩)
  · rw [e] at hk
    subst hx
    rw [nI_clamp (by omega)] at hk
    refine cl_copy w.1 h01 (by omega) (fun J hJ fJ => ⟨vp_in_nI hi (by decide), ?_⟩)
    rw [nI_clamp (by omega)]
    have fz : ob_fr (cl_z (1 + 52) p) I J := fJ.wd (fun r hr => Or.inl hr)
    have wJ : cl_W J (1 + 52) p A P := ⟨hJ, w.2.1.rw (fun r h1 h2 _ => fJ r (fun hh => by have := hh.1; omega)) (by rw [fJ (p + 5) (fun hh => by have := hh.1; omega)]), by omega⟩
    refine ⟨hG.F hi, ?_⟩
    have fin : ∀ (L : pm_I) (B : aT) (v : Int32), cl_W L (1 + 52) p B P → ob_fr (cl_z (1 + 52) p) I L → ab_tt (dn i) P 301 A 0 = v → ∀ I2 : pm_I, I2 = pm_up L 515 0 v → K 0 I2 := by
      intro L B v hL fL hv I2 q2
      subst q2
      have e9 : ∀ r, (r < 53 ∨ 87 ≤ r) → r ≠ p + 5 → r ≠ p + 5 + 2 → L r = I r := fun r h1 h2 h3 => fL r (fun hh => by rcases hh with hh | hh | hh; (have := hh.1; have := hh.2; omega); exact h2 hh; exact h3 hh)
      have cR : cg_R L len txt err P A n H sv S := hC.nw i3 ⟨w.1.rw (fun r h1 h2 => e9 r (by omega) (by omega) (by omega)), hL.2.1, by omega⟩ (fun r h1 h2 => e9 r (by omega) (by omega) (by omega))
      have o := cg_out (I := I) (v := v) cR (fun r hr => e9 r (by omega) (by omega) (by omega))
      exact hk _ o.1 (fun _ => by rw [o.2, hv])
    refine ob_lp2 (fun k z L => ∃ B, z = nI k ∧ cl_W L (1 + 52) p B P ∧ ok_T P c B ∧ (B.2.2.2 i).1 0 = 1 ∧ ob_fr (cl_z (1 + 52) p) I L ∧ ab_tt (dn i) P 301 A 0 = ab_tt (dn i) P (301 - k) B k) 301 ⟨A, rfl, wJ, ok.2.2.1.1, h0, fz, rfl⟩ ?_
    intro Q k z L hk' hI hQ
    obtain ⟨B, hz, hL, oB, b0, fL, ht⟩ := hI
    subst hz
    refine ⟨fun hc1 => ?_, fun hc1 => ?_⟩
    · have e301 : k = 301 := by
        have := (nI_ltI (a := 300) (b := k) (by omega) (by omega)).mp hc1
        omega
      subst e301
      exact fin L B _ hL fL ht
    · have hl : k < 301 := by
        rcases Nat.lt_or_ge k 301 with h' | h'
        · exact h'
        · exact absurd (nI_lt (a := 300) (b := k) (by omega) (by omega)) hc1
      have iff := hd L B i hi (hL.1.2.2.2 i hi) b0 (oB.2.2.1 i hi b0)
      refine ⟨fun z => ?_, fun z => ?_⟩
      · have i3L : L 1 3 = nI p := by rw [fL 1 (fun hh => by rcases hh with hh | hh | hh <;> omega)]; exact i3
        rw [i3L, nI_clamp (by omega)]
        have df : dn i B = false := by
          cases e : dn i B with
          | false => rfl
          | true => exact absurd (iff.mpr e) z
        exact ⟨hG.P hp, cl_tick hL oP oB (by omega) (fun M hM fM => hQ _ _ hl ⟨ab_tick P B, nI_1 _, hM, ok_tick oP oB, ok_tick_fl b0, fL.tr fM, ht.trans (ab_tt_f hl df)⟩)⟩
      · exact fin L B _ hL fL (ht.trans (ab_tt_t hl (iff.mp z)))
  · rw [e] at hk
    exact hk I (cg_id hC) (fun e => (th_abs e).elim)
/-- the reference: what it was is laid back -/
theorem rx_back {J0 J : pm_I} {v : Int32} {K : pm_I → Prop} (hR : rg_R J0 len txt err P A n H sv S) (ok : ok_G c len P A n H sv S) (hw : ∀ x, x < 821 → J (499 + 12) x = J0 (499 + 1) x) (hP : rf_P J 499 P) (f : ∀ r, r ≠ 500 → r ≠ 509 → r ≠ 510 → r ≠ 511 → J r = J0 r) (h0 : J0 499 0 = v) (hk : ∀ L, rg_P J0 L v len txt err P A n H sv S → K L) : wX7_copies G (499 + 12) 821 (0) (499 + 1) 821 (0) (821) J (fun I18 => K I18) := by
  refine rf_copy (a := 0) (b := 0) (n := 821) rfl rfl rfl (by decide) (by decide) (by decide) (by decide) (Or.inl (by decide)) (fun L l1 l2 l3 => hk L ⟨?_, fun r hr => ?_, ?_⟩)
  · refine hR.nw ⟨hR.2.1.1.rw ok.2.2.1.1.n24 (fun x hx => ?_), hP.rw (fun r h1 h2 => l1 r (by omega))⟩ (fun r h1 h2 h3 h4 h5 => by rw [l1 r (by omega)]; exact f r (by omega) h3 h4 h5) (fun j _ => by rw [l1 499 (by decide), f 499 (by decide) (by decide) (by decide) (by decide)])
    have := l2 x hx
    rw [Nat.zero_add] at this
    rw [this]
    exact hw x hx
  · rw [l1 r (by omega)]; exact f r (by omega) (by omega) (by omega) (by omega)
  · rw [l1 499 (by decide), f 499 (by decide) (by decide) (by decide) (by decide)]; exact h0
end GF
theorem case_23 {G : pm_G} {xs : Nat → Int32} {x4 : Int32} {I : pm_I} {K : pm_I → Prop} {c : Nat} (hG : gK G) (h : gS c I) (hc : c < 512) (hk : ∀ J, gS (c + 1) J → K J) : wC23 G xs x4 I K := by
  obtain ⟨len, txt, err, P, A, n, H, sv, S, hC, hR, ok⟩ := h
  have ok1 := ok.up (c' := c + 1) (by omega)
  have oP := ok.2.1
  have n8 := oP.1.1
  obtain ⟨p, hp, i3, w⟩ := hC.pl
  unfold wC23 wX7_thrown
  have cl : ∀ K : Int32 → pm_I → Prop, (∀ J, cg_P I J len txt err P A n H sv S → (ab_ths A (xs (x4 + 1).toNatClampNeg) = 0 → J 515 0 = ab_tt ((fun i (B : aT) => decide ((B.2.2.2 i).2.1 = 0)) ((xs (x4 + 1).toNatClampNeg)).toNatClampNeg) P 301 A 0) → K (ab_ths A (xs (x4 + 1).toNatClampNeg)) J) → wL_ticksToDeliver G 515 (xs (x4 + 1).toNatClampNeg) I K := by
    intro K hk
    unfold wL_ticksToDeliver wX6_ticksToDeliver
    exact cx_fore (K := K) (dn := (fun i (B : aT) => decide ((B.2.2.2 i).2.1 = 0))) (cond := (fun I14 r11 => (I14 r11 8) = (I14 r11 7))) hG hC ok hc (fun J B i hi hS h0 o => by obtain ⟨d, g⟩ := o.g h0 (by omega); rw [hS.1 8 (by decide), hS.1 7 (by decide), g.2.1, g.2.2.1, nI_eq (by have := g.2.2.2.1; omega) (by have := g.2.2.2.1; omega), decide_eq_true_eq]; omega) hk
  have rl : ∀ (J : pm_I) (K : Int32 → pm_I → Prop), rg_R J len txt err P A n H sv S → (∀ L b, rg_P J L (ab_ths A (xs (x4 + 1).toNatClampNeg)) len txt err P A n H sv S → (ab_ths A (xs (x4 + 1).toNatClampNeg) = 0 → b = ab_tt ((fun i (B : aT) => decide ((B.2.2.2 i).2.1 = 0)) ((xs (x4 + 1).toNatClampNeg)).toNatClampNeg) P 301 A 0) → K b L) → wX7_ticksToDeliver G 499 (xs (x4 + 1).toNatClampNeg) J K := by
    intro J K hR hk
    unfold wX7_ticksToDeliver
    refine rx_ses hR.2.1.1 (fun i hi hx h0 e => ⟨fun _ => ?_, fun z => absurd rfl z⟩) (fun e => ⟨fun z => absurd z (by decide), fun _ => ?_⟩)
    rotate_left
    · rw [e] at hk
      exact hk _ _ (rg_up hR) (fun e => (th_abs e).elim)
    rw [e] at hk
    have g := rg_up (v := 0) hR
    generalize pm_up J 499 0 0 = J1 at *
    rw [hx] at hk ⊢
    rw [nI_clamp (by omega)] at hk
    generalize hdn : (fun i (B : aT) => decide ((B.2.2.2 i).2.1 = 0)) i = dn at hk
    refine rf_copy (a := 0) (b := 0) (n := 821) rfl rfl rfl (by decide) (by decide) (by decide) (by decide) (Or.inl (by decide)) (fun J2 j1 j2 j3 => ?_)
    refine ob_lp2 (fun k z L => ∃ B, z = nI k ∧ rf_W L 499 B P ∧ ok_T P c B ∧ (B.2.2.2 i).1 0 = 1 ∧ (∀ x, x < 821 → L (499 + 12) x = J1 (499 + 1) x) ∧ (∀ r, r ≠ 500 → r ≠ 509 → r ≠ 510 → r ≠ 511 → L r = J1 r) ∧ ab_tt dn P 301 A 0 = ab_tt dn P (301 - k) B k) 300 ⟨A, rfl, ⟨by rw [j1 (499 + 1) (by decide)]; exact g.1.2.1.1, g.1.2.1.2.rw (fun r h1 h2 => j1 r (by omega))⟩, ok.2.2.1.1, h0, fun x hx => by have := j2 x hx; rw [Nat.zero_add] at this; exact this, fun r h1 h2 h3 h4 => j1 r h4, rfl⟩ ?_
    intro Q k z L hk' hI hQ
    obtain ⟨B, hz, hL, oB, b0, hwas, fL, ht⟩ := hI
    subst hz
    have hO := (hL.1.2.2.2 i hi).1 b0
    obtain ⟨d, gg⟩ := (oB.2.2.1 i hi b0).g b0 (by omega)
    have tickL : dn B = false → k < 300 → wX7_ticks G 499 L (fun r27 I26 => Q (nI k + 1) I26) := fun df hl =>
      rf_tick hL oP oB (by omega) (fun M hM fM => hQ _ _ hl ⟨ab_tick P B, nI_1 _, hM, ok_tick oP oB, ok_tick_fl b0, fun x hx => by rw [fM (499 + 12) (fun hh => by rcases hh with hh | hh | hh <;> omega)]; exact hwas x hx, fun r h1 h2 h3 h4 => by rw [fM r (fun hh => by rcases hh with hh | hh | hh <;> omega)]; exact fL r h1 h2 h3 h4, ht.trans (ab_tt_f (by omega) df)⟩)
    have bk : ∀ v, ab_tt dn P 301 A 0 = v → wX7_copies G (499 + 12) 821 (0) (499 + 1) 821 (0) (821) L (fun I18 => K v I18) := fun v hv => rx_back g.1 ok hwas hL.2 fL g.2.2 (fun M hM => hk M v ⟨hM.1, fun r hr => by rw [hM.2.1 r hr]; exact g.2.1 r hr, hM.2.2⟩ (fun _ => hv.symm))

    have hn : (B.2.2.2 i).2.1 ≤ 24 := gg.2.2.2.2
    have dne : dn B = decide ((B.2.2.2 i).2.1 = 0) := by rw [← hdn]
    have y : k ≤ 300 → nI (B.2.2.2 i).2.1 = 0 → ab_tt dn P 301 A 0 = nI k := fun hk3 z => ht.trans (ab_tt_t (by omega) (by rw [dne]; exact decide_eq_true ((nI_eq (b := 0) (by omega) (by omega)).mp z)))
    refine ⟨fun hc1 => rf_und hO gg hi ⟨fun z => bk _ ?_, fun z => bk _ (y hk' z)⟩, fun hc1 => rf_und hO gg hi ⟨fun z => rf_und hO gg hi ⟨fun z2 => ?_, fun z2 => bk _ (y hk' z2)⟩, fun z => tickL ?_ ?_⟩⟩
    · have e3 := (ob_to (n := 300) (by decide) hk').1 hc1
      subst e3
      exact ht.trans (ab_tt_f (by omega) (by rw [dne]; exact decide_eq_false (fun hh => z (by rw [hh]; rfl))))
    · have := (nI_leI (a := (B.2.2.2 i).2.1) (b := 0) (by omega) (by omega)).mp z
      exact absurd (by rw [show (B.2.2.2 i).2.1 = 0 by omega]; rfl) z2
    · rw [dne]; exact decide_eq_false (fun hh => z (by rw [hh]; exact Int32.le_refl 0))
    · exact (ob_to (n := 300) (by decide) hk').2 hc1
  exact cl _ (fun J hJ hv => rl _ _ (cg_rg hR hJ) (fun L b hL hb => ⟨hL.2.2, fun h0 => fin_v hL (hv h0) (hb h0), hk L (fin_g hJ hL ok1)⟩))
theorem case_24 {G : pm_G} {xs : Nat → Int32} {x4 : Int32} {I : pm_I} {K : pm_I → Prop} {c : Nat} (hG : gK G) (h : gS c I) (hc : c < 512) (hk : ∀ J, gS (c + 1) J → K J) : wC24 G xs x4 I K := by
  obtain ⟨len, txt, err, P, A, n, H, sv, S, hC, hR, ok⟩ := h
  have ok1 := ok.up (c' := c + 1) (by omega)
  have oP := ok.2.1
  have n8 := oP.1.1
  obtain ⟨p, hp, i3, w⟩ := hC.pl
  unfold wC24 wX7_thrown
  have cl : ∀ K : Int32 → pm_I → Prop, (∀ J, cg_P I J len txt err P A n H sv S → (ab_ths A (xs (x4 + 1).toNatClampNeg) = 0 → J 515 0 = ab_tt ((fun i (B : aT) => decide ((B.2.2.2 i).1 4 = 100)) ((xs (x4 + 1).toNatClampNeg)).toNatClampNeg) P 301 A 0) → K (ab_ths A (xs (x4 + 1).toNatClampNeg)) J) → wL_ticksToDirect G 515 (xs (x4 + 1).toNatClampNeg) I K := by
    intro K hk
    unfold wL_ticksToDirect wX6_ticksToDirect
    exact cx_fore (K := K) (dn := (fun i (B : aT) => decide ((B.2.2.2 i).1 4 = 100))) (cond := (fun I14 r11 => (I14 r11 4) = 100)) hG hC ok hc (fun J B i hi hS h0 o => by rw [hS.1 4 (by decide), decide_eq_true_eq]) hk
  have rl : ∀ (J : pm_I) (K : Int32 → pm_I → Prop), rg_R J len txt err P A n H sv S → (∀ L b, rg_P J L (ab_ths A (xs (x4 + 1).toNatClampNeg)) len txt err P A n H sv S → (ab_ths A (xs (x4 + 1).toNatClampNeg) = 0 → b = ab_tt ((fun i (B : aT) => decide ((B.2.2.2 i).1 4 = 100)) ((xs (x4 + 1).toNatClampNeg)).toNatClampNeg) P 301 A 0) → K b L) → wX7_ticksToDirect G 499 (xs (x4 + 1).toNatClampNeg) J K := by
    intro J K hR hk
    unfold wX7_ticksToDirect
    refine rx_ses hR.2.1.1 (fun i hi hx h0 e => ⟨fun _ => ?_, fun z => absurd rfl z⟩) (fun e => ⟨fun z => absurd z (by decide), fun _ => ?_⟩)
    rotate_left
    · rw [e] at hk
      exact hk _ _ (rg_up hR) (fun e => (th_abs e).elim)
    rw [e] at hk
    have g := rg_up (v := 0) hR
    generalize pm_up J 499 0 0 = J1 at *
    rw [hx] at hk ⊢
    rw [nI_clamp (by omega)] at hk
    generalize hdn : (fun i (B : aT) => decide ((B.2.2.2 i).1 4 = 100)) i = dn at hk
    refine rf_copy (a := 0) (b := 0) (n := 821) rfl rfl rfl (by decide) (by decide) (by decide) (by decide) (Or.inl (by decide)) (fun J2 j1 j2 j3 => ?_)
    refine ob_lp2 (fun k z L => ∃ B, z = nI k ∧ rf_W L 499 B P ∧ ok_T P c B ∧ (B.2.2.2 i).1 0 = 1 ∧ (∀ x, x < 821 → L (499 + 12) x = J1 (499 + 1) x) ∧ (∀ r, r ≠ 500 → r ≠ 509 → r ≠ 510 → r ≠ 511 → L r = J1 r) ∧ ab_tt dn P 301 A 0 = ab_tt dn P (301 - k) B k) 300 ⟨A, rfl, ⟨by rw [j1 (499 + 1) (by decide)]; exact g.1.2.1.1, g.1.2.1.2.rw (fun r h1 h2 => j1 r (by omega))⟩, ok.2.2.1.1, h0, fun x hx => by have := j2 x hx; rw [Nat.zero_add] at this; exact this, fun r h1 h2 h3 h4 => j1 r h4, rfl⟩ ?_
    intro Q k z L hk' hI hQ
    obtain ⟨B, hz, hL, oB, b0, hwas, fL, ht⟩ := hI
    subst hz
    have hO := (hL.1.2.2.2 i hi).1 b0
    obtain ⟨d, gg⟩ := (oB.2.2.1 i hi b0).g b0 (by omega)
    have tickL : dn B = false → k < 300 → wX7_ticks G 499 L (fun r27 I26 => Q (nI k + 1) I26) := fun df hl =>
      rf_tick hL oP oB (by omega) (fun M hM fM => hQ _ _ hl ⟨ab_tick P B, nI_1 _, hM, ok_tick oP oB, ok_tick_fl b0, fun x hx => by rw [fM (499 + 12) (fun hh => by rcases hh with hh | hh | hh <;> omega)]; exact hwas x hx, fun r h1 h2 h3 h4 => by rw [fM r (fun hh => by rcases hh with hh | hh | hh <;> omega)]; exact fL r h1 h2 h3 h4, ht.trans (ab_tt_f (by omega) df)⟩)
    have bk : ∀ v, ab_tt dn P 301 A 0 = v → wX7_copies G (499 + 12) 821 (0) (499 + 1) 821 (0) (821) L (fun I18 => K v I18) := fun v hv => rx_back g.1 ok hwas hL.2 fL g.2.2 (fun M hM => hk M v ⟨hM.1, fun r hr => by rw [hM.2.1 r hr]; exact g.2.1 r hr, hM.2.2⟩ (fun _ => hv.symm))

    have dne : dn B = decide ((B.2.2.2 i).1 4 = 100) := by rw [← hdn]
    have e4 : L (499 + 1) (17 + 134 * i + 3) = (B.2.2.2 i).1 4 := hO.1 3 (by decide)
    have y : k ≤ 300 → (B.2.2.2 i).1 4 = 100 → ab_tt dn P 301 A 0 = nI k := fun hk3 z => ht.trans (ab_tt_t (by omega) (by rw [dne]; exact decide_eq_true z))
    refine ⟨fun hc1 => rf_of (j := 3) rfl ⟨vp_in_nI (by omega) (by decide), ?_⟩, fun hc1 => rf_of (j := 3) rfl ⟨vp_in_nI (by omega) (by decide), ?_⟩⟩
    · rw [nI_clamp (by omega), e4]
      refine ⟨fun z => bk _ ?_, fun z => bk _ (y hk' z)⟩
      have e3 := (ob_to (n := 300) (by decide) hk').1 hc1
      subst e3
      exact ht.trans (ab_tt_f (by omega) (by rw [dne]; exact decide_eq_false z))
    · rw [nI_clamp (by omega), e4]
      refine ⟨fun z => rf_of (j := 3) rfl ⟨vp_in_nI (by omega) (by decide), ?_⟩, fun z => tickL ?_ ?_⟩
      · rw [nI_clamp (by omega), e4]
        exact ⟨fun z2 => absurd z z2, fun z2 => bk _ (y hk' z2)⟩
      · rw [dne]; exact decide_eq_false z
      · exact (ob_to (n := 300) (by decide) hk').2 hc1
  exact cl _ (fun J hJ hv => rl _ _ (cg_rg hR hJ) (fun L b hL hb => ⟨hL.2.2, fun h0 => fin_v hL (hv h0) (hb h0), hk L (fin_g hJ hL ok1)⟩))
