/-! ===== THE PARSER: formulas (4): factor, sum ===== -/
section FB
variable {G Gr : pm_G} {rr d m q b dd : Nat} {tx : Nat → Int32}
theorem rpQ_fl {J : pm_I} {s : aQ} {K : Int32 → pm_I → Prop} {x : Int32} (h : rp_Q J q m tx s) (hk : ∀ L, rp_E L q (x, s.2.1) → rp_fr q J L → (∀ j, 18 ≤ j → L q j = J q j) → K 0 L) : wX7_fails G q x J K := by
  obtain ⟨e11, e12, e13, e14, e16, e17, e19, et, eD⟩ := h
  unfold wX7_fails
  rw [e16]
  refine ⟨fun z => absurd rfl z, fun _ I1 q1 I2 q2 => ?_⟩
  have a12 : I1 q 12 = nI s.2.1 := by rw [q1, ob_uq (by decide)]; exact e12
  rw [a12] at q2
  exact hk I2 ⟨by rw [q2, ob_uq (by decide), q1, ob_us], by rw [q2, ob_us]⟩ (by rw [q2, q1]; exact (rp_fr.rf.up (by omega) (by omega)).up (by omega) (by omega)) (fun j hj => by rw [q2, ob_uq (by omega), q1, ob_uq (by omega)])
theorem fa_X {Rr : Nat → Int32 → pm_I → (pm_I → Prop) → Prop} {x : Int32} (hw : cp_w rr d m) : cX rr d (wX2_readFactor Rr G rr x) := by
  intro e J K h hk
  unfold wX2_readFactor
  rw [h.2.1]
  exact ⟨fun _ => ⟨fun _ => ⟨fun z => absurd z (by decide), fun _ => cpE_fail hw h hk⟩, fun z => absurd z (by decide)⟩, fun z => absurd z (by decide)⟩
theorem oX_e {s : aQ} {h p : Nat} {x : Int32} (hx : ¬ x = 0) (o1 : p ≤ m) : oX m s h (.inl (x, p)) := ⟨fun e he => (by cases he; exact ⟨hx, o1⟩), fun s' hs' => (by cases hs')⟩
theorem fa_fac (hw : cp_w rr d m) (hb : ∀ k, k < m → ob_ib (tx k)) (hG : pm_k G d (.inl 1)) (h5 : b ≤ 5)
    (hS : b < 5 → ∀ s h, ok_W m s h → h ≤ 2 * (b + 1) → ∃ o, oX m s (h + 1) o ∧ cC rr d m tx (wX2_readSum dd G rr (nI (b + 1))) s o ∧ rC m q (b + 1) tx (wX7_sum dd Gr q) s o) :
    ∀ s h, ok_W m s h → h ≤ 2 * b + 2 → ∃ o, oX m s (h + 1) o ∧ cC rr d m tx (wX2_readFactor (wX2_readSum dd G) G rr (nI b)) s o ∧ rC m q b tx (wX7_factor (wX7_sum dd Gr) Gr q) s o := by
  intro s h ok hh
  have okq := ok.1
  have hm := hw.1
  have o1 := okq.1
  have o2 := okq.2.1
  have o4 := ok.2.2.2
  have lenE : s.2.2.2.2.2.2.2.2.2.2.length ≤ 600 := by omega
  by_cases k2 : s.2.2.1 = 2
  · -- a number
    obtain ⟨v, hv, ev⟩ := ok.2.1 k2
    have hne : ¬ s.2.2.1 = 0 := by rw [k2]; decide
    have hlt := okq.2.2.1 hne
    obtain ⟨w1, st1⟩ := ok_W.item (tx := tx) hne ok (by omega) (ab_isop_n hv) ⟨by rw [nI_toInt (by omega)]; omega, by rw [nI_toInt (by omega)]; omega⟩
    refine ⟨.inr (ab_adv tx m (ab_put s (nI v))), ⟨fun e he => (by cases he), fun s' hs' => (by cases hs'; exact ⟨w1, st1⟩)⟩, fun J K hJ hk => ?_, fun J K hJ h22 hr => ?_⟩
    · have e5 : J rr 5 = s.2.2.1 := hJ.2.2.2.2.1
      have e6 : J rr 6 = nI v := (hJ.2.2.2.2.2.1 k2).trans ev
      have e2 : J rr 2 = nI d := hJ.2.1
      unfold wX2_readFactor
      rw [e5, e2, e6, nI_clamp (by have := hw.2.2; omega)]
      refine ⟨fun z => absurd k2 z, fun _ => ⟨hG, cpQ_put hw hJ (by omega) (fun L hL fL => cpQ_adv (s := ab_put s (nI v)) hw okq hL (fun M hM fM => hk M hM (fL.tr fM)))⟩⟩
    · have rt := rp_tk hJ.2.2.2.1
      have e15 : J q 15 = nI v := (rt.2.2.2.1 k2).trans ev
      unfold wX7_factor
      refine rpQ_sh (by decide) hJ ?_
      rw [decide_eq_false (by rw [k2]; decide)]
      refine ⟨fun _ => ⟨fun z => absurd (rt.2.2.1.mpr k2) z, fun _ => ?_⟩, fun z => absurd rfl z⟩
      rw [e15, show (100 : Int32) + nI v = nI (100 + v) from nI_add 100 v]
      refine ⟨fun _ => rpQ_adv hm hb okq hJ (fun L hL fL => rpQ_emit (rf_en_n hv).symm hL (show s.2.2.2.2.2.2.2.2.2.2.length < 620 by omega) (fun M hM fM qM => ⟨Or.inr rfl, hr M hM (fL.fr.tr fM) (by rw [qM, fL.2 22 (by omega)]; exact h22)⟩)), fun z => ?_⟩
      exact absurd ((nI_eq (a := 100 + v) (b := 0) (by omega) (by decide)).mp z) (by omega)
  by_cases k40 : s.2.2.1 = 40
  · -- brackets
    have hne : ¬ s.2.2.1 = 0 := by rw [k40]; decide
    have hlt := okq.2.2.1 hne
    by_cases hb5 : b < 5
    · obtain ⟨w1, st1, nx1⟩ := ok.adv tx
      obtain ⟨o, xo, C1, R1⟩ := hS hb5 (ab_adv tx m s) h w1 (by omega)
      have refl' : ∀ (J : pm_I) (K : Int32 → pm_I → Prop), rp_Q J q m tx s → J q 22 = nI b → (∀ L, rp_Q L q m tx (ab_adv tx m s) → rp_fr q J L → L q 22 = nI (b + 1) → wX7_sum dd Gr q L (fun r38 I37 => (r38 = 0 → (∀ I39 : pm_I, I39 = pm_up I37 q 22 ((I37 q 22) - 1) → K 0 I39)) ∧ (¬ r38 = 0 → (wX7_closes Gr q (41) I37 (fun r41 I40 => (r41 = 0 → (∀ I42 : pm_I, I42 = pm_up I40 q 22 ((I40 q 22) - 1) → K 0 I42)) ∧ (¬ r41 = 0 → (∀ I43 : pm_I, I43 = pm_up I40 q 22 ((I40 q 22) - 1) → K 1 I43))))))) → wX7_factor (wX7_sum dd Gr) Gr q J K := fun J K hJ h22 hk => by
        unfold wX7_factor
        refine rpQ_sh (by decide) hJ ?_
        rw [decide_eq_true k40]
        refine ⟨fun z => absurd z (by decide), fun _ => ⟨fun z => ?_, fun _ => ?_⟩⟩
        · rw [h22] at z
          exact absurd z (nI_ge (a := b) (b := 5) hb5 (by decide))
        · unfold wX7_starts
          refine ⟨fun _ => rpQ_adv hm hb okq hJ (fun L hL fL => ⟨fun _ M qM => ?_, fun z => absurd z (by decide)⟩), fun z => absurd z (by decide)⟩
          rw [show L q 22 = nI b from (fL.2 22 (by omega)).trans h22, nI_1] at qM
          refine hk M (by rw [qM]; exact rpQ_uq hL (Or.inr (by omega))) (by rw [qM]; exact fL.fr.up (by omega) (by omega)) (by rw [qM, ob_us])
      have dn : nI (b + 1) - 1 = nI b := pk_sub (a := b + 1) (b := 1) (by omega)
      have clF : ∀ (J : pm_I) (K : pm_I → Prop), cp_Q J rr d m tx s → (∀ L, cW rr d m tx o L → ob_fr (cp_f rr d) J L → wX2_require G rr 41 L (fun I12 => wX2_advance G rr I12 (fun I13 => K I13))) → wX2_readFactor (wX2_readSum dd G) G rr (nI b) J K := fun J K hJ hk => by
        have e5 : J rr 5 = s.2.2.1 := hJ.2.2.2.2.1
        unfold wX2_readFactor
        rw [e5, nI_1]
        refine ⟨fun _ => ⟨fun _ => ⟨fun _ => ⟨fun _ => cpQ_adv hw okq hJ (fun L hL fL => C1 L _ hL (fun M hM fM => hk M hM (fL.tr fM))), fun z => ?_⟩, fun z => absurd k40 z⟩, fun z => absurd (k40.symm.trans z) (by decide)⟩, fun z => absurd z k2⟩
        exact absurd ((nI_ltI (a := b) (b := 5) (by omega) (by decide)).mpr hb5) z
      cases o with
      | inl e =>
        refine ⟨.inl e, ⟨xo.1, fun s' hs' => (by cases hs')⟩, fun J K hJ hk => clF J K hJ (fun L hL fL => ?_), fun J K hJ h22 hr => refl' J K hJ h22 (fun L hL fL h22' => R1 L _ hL h22' ?_)⟩
        · unfold wX2_require
          have hL' : cp_E L rr d e := hL
          rw [hL'.2.1]
          exact ⟨fun z => absurd z (by decide), fun _ => cpE_fail hw hL' (fun M hM fM => cpE_adv hM (hk M hM (fL.tr fM)))⟩
        · refine fun M hM fM h22m => ⟨fun _ N qN => ?_, fun z => absurd rfl z⟩
          rw [h22m, dn] at qN
          exact hr N (by rw [qN]; exact rpE_uq hM (Or.inr (by omega))) (by rw [qN]; exact (fL.tr fM).up (by omega) (by omega)) (by rw [qN, ob_us])
      | inr t =>
        obtain ⟨wt, stt⟩ := xo.2 t rfl
        have okt := wt.1
        have t1 := okt.1
        have t2 := okt.2.1
        have t4 := wt.2.2.2
        by_cases k41 : t.2.2.1 = 41
        · obtain ⟨w3, st3, nx3⟩ := wt.adv tx
          refine ⟨.inr (ab_adv tx m t), ⟨fun e he => (by cases he), fun s' hs' => (by cases hs'; exact ⟨w3, (st1.tr stt).tr st3⟩)⟩, fun J K hJ hk => clF J K hJ (fun L hL fL => ?_), fun J K hJ h22 hr => refl' J K hJ h22 (fun L hL fL h22' => R1 L _ hL h22' ?_)⟩
          · unfold wX2_require
            have hL' : cp_Q L rr d m tx t := hL
            rw [hL'.2.2.2.2.1]
            exact ⟨fun _ => cpQ_adv hw okt hL' (fun M hM fM => hk M hM (fL.tr fM)), fun z => absurd k41 z⟩
          · refine fun M hM fM h22m => ⟨fun z => absurd z (by decide), fun _ => ?_⟩
            unfold wX7_closes
            refine rpQ_sh (by decide) hM ?_
            rw [decide_eq_true k41]
            refine ⟨fun _ => rpQ_adv hm hb okt hM (fun N hN fN => ⟨fun z => absurd z (by decide), fun _ O qO => ?_⟩), fun z => absurd z (by decide)⟩
            rw [show N q 22 = nI (b + 1) from (fN.2 22 (by omega)).trans h22m, dn] at qO
            exact hr O (by rw [qO]; exact rpQ_uq hN (Or.inr (by omega))) (by rw [qO]; exact ((fL.tr fM).tr fN.fr).up (by omega) (by omega)) (by rw [qO, ob_us])
        · refine ⟨.inl (1, t.2.1), oX_e (by decide) (by omega), fun J K hJ hk => clF J K hJ (fun L hL fL => ?_), fun J K hJ h22 hr => refl' J K hJ h22 (fun L hL fL h22' => R1 L _ hL h22' ?_)⟩
          · unfold wX2_require
            have hL' : cp_Q L rr d m tx t := hL
            rw [hL'.2.2.2.2.1]
            exact ⟨fun z => absurd z k41, fun _ => cpQ_fail hw hL' (by omega) (by decide) (fun M hM fM => cpE_adv hM (hk M hM (fL.tr fM)))⟩
          · refine fun M hM fM h22m => ⟨fun z => absurd z (by decide), fun _ => ?_⟩
            unfold wX7_closes
            refine rpQ_sh (by decide) hM ?_
            rw [decide_eq_false k41]
            refine ⟨fun z => absurd rfl z, fun _ => rpQ_fl hM (fun N hN fN gN => ⟨Or.inl rfl, fun _ O qO => ?_, fun z => absurd rfl z⟩)⟩
            rw [show N q 22 = nI (b + 1) from (gN 22 (by omega)).trans h22m, dn] at qO
            exact hr O (by rw [qO]; exact rpE_uq hN (Or.inr (by omega))) (by rw [qO]; exact ((fL.tr fM).tr fN).up (by omega) (by omega)) (by rw [qO, ob_us])
    · refine ⟨.inl (4, s.2.1), oX_e (by decide) (by omega), fun J K hJ hk => ?_, fun J K hJ h22 hr => ?_⟩
      · have e5 : J rr 5 = s.2.2.1 := hJ.2.2.2.2.1
        unfold wX2_readFactor
        rw [e5]
        refine ⟨fun _ => ⟨fun _ => ⟨fun _ => ⟨fun z => ?_, fun _ => cpQ_fail hw hJ lenE (by decide) hk⟩, fun z => absurd k40 z⟩, fun z => absurd (k40.symm.trans z) (by decide)⟩, fun z => absurd z k2⟩
        exact absurd ((nI_ltI (a := b) (b := 5) (by omega) (by decide)).mp z) hb5
      · unfold wX7_factor
        refine rpQ_sh (by decide) hJ ?_
        rw [decide_eq_true k40]
        refine ⟨fun z => absurd z (by decide), fun _ => ⟨fun _ => ?_, fun z => ?_⟩⟩
        · unfold wX7_starts
          refine ⟨fun z => absurd rfl z, fun _ => rpQ_fl hJ (fun L hL fL gL => ⟨Or.inl rfl, fun z => absurd rfl z, fun _ => hr L hL fL ((gL 22 (by omega)).trans h22)⟩)⟩
        · rw [h22] at z
          exact absurd (nI_le (a := 5) (b := b) (by omega) (by omega)) z
  by_cases hin : ab_in tx s = 0
  · -- an error
    refine ⟨.inl (1, s.2.1), oX_e (by decide) (by omega), fun J K hJ hk => ?_, fun J K hJ h22 hr => ?_⟩
    · have e5 : J rr 5 = s.2.2.1 := hJ.2.2.2.2.1
      unfold wX2_readFactor
      rw [e5]
      refine ⟨fun _ => ⟨fun _ => ⟨fun z => absurd z k40, fun _ => cpQ_fail hw hJ lenE (by decide) hk⟩, fun k1 => ?_⟩, fun z => absurd z k2⟩
      have hlt := okq.2.2.1 (by rw [k1]; decide)
      exact cp_in hw hG okq hJ (by omega) (fun _ L hL fL => cpE_adv hL (hk L hL fL)) (fun k hk1 e => absurd (hin.symm.trans e) (by omega))
    · have tk := (rp_tk hJ.2.2.2.1).2.2.1
      unfold wX7_factor
      refine rpQ_sh (by decide) hJ ?_
      rw [decide_eq_false k40]
      refine ⟨fun _ => ⟨fun _ => rp_in hm okq hJ ?_, fun z => absurd (tk.mp z) k2⟩, fun z => absurd rfl z⟩
      rw [hin]
      exact ⟨fun z => absurd rfl z, fun _ => rpQ_fl hJ (fun L hL fL gL => ⟨Or.inl rfl, hr L hL fL ((gL 22 (by omega)).trans h22)⟩)⟩
  · -- an input
    have k1 : s.2.2.1 = 1 := Decidable.byContradiction (fun h => hin (ab_in_1 h))
    have hne : ¬ s.2.2.1 = 0 := by rw [k1]; decide
    have hlt := okq.2.2.1 hne
    have h6 := ab_in_5 tx s
    generalize hk : ab_in tx s = kk at hin h6
    obtain ⟨c1, c2, c3, c4⟩ := ab_ci_n kk h6 (by omega)
    obtain ⟨w1, st1⟩ := ok_W.item (tx := tx) hne ok (by omega) c1 ⟨c2, c3⟩
    refine ⟨.inr (ab_adv tx m (ab_put s (ab_ci kk))), ⟨fun e he => (by cases he), fun s' hs' => (by cases hs'; exact ⟨w1, st1⟩)⟩, fun J K hJ hk' => ?_, fun J K hJ h22 hr => ?_⟩
    · have e5 : J rr 5 = s.2.2.1 := hJ.2.2.2.2.1
      unfold wX2_readFactor
      rw [e5]
      refine ⟨fun _ => ⟨fun z => absurd k1 z, fun _ => ?_⟩, fun z => absurd z k2⟩
      refine cp_in hw hG okq hJ (by omega) (fun e => absurd (hk.symm.trans e) hin) (fun k hk1 e L hL fL => ?_)
      have ek : k = kk := e.symm.trans hk
      rw [ek] at hL
      exact cpQ_adv (s := ab_put s (ab_ci kk)) hw okq hL (fun M hM fM => hk' M hM (fL.tr fM))
    · have tk := (rp_tk hJ.2.2.2.1).2.2.1
      unfold wX7_factor
      refine rpQ_sh (by decide) hJ ?_
      rw [decide_eq_false k40]
      refine ⟨fun _ => ⟨fun _ => rp_in hm okq hJ ?_, fun z => absurd (tk.mp z) k2⟩, fun z => absurd rfl z⟩
      rw [hk]
      refine ⟨fun _ => rpQ_adv hm hb okq hJ (fun L hL fL => rpQ_emit c4.symm hL (show s.2.2.2.2.2.2.2.2.2.2.length < 620 by omega) (fun M hM fM qM => ⟨Or.inr rfl, hr M hM (fL.fr.tr fM) (by rw [qM, fL.2 22 (by omega)]; exact h22)⟩)), fun z => ?_⟩
      exact absurd ((nI_eq (a := kk) (b := 0) (by omega) (by decide)).mp z) hin
theorem fa_sum (hw : cp_w rr d m) (hb : ∀ k, k < m → ob_ib (tx k)) (hG : pm_k G d (.inl 1)) : ∀ dd b, b + dd = 5 → ∀ s h, ok_W m s h → h ≤ 2 * b → ∃ o, oX m s (h + 1) o ∧ cC rr d m tx (wX2_readSum (dd + 1) G rr (nI b)) s o ∧ rC m q b tx (wX7_sum (dd + 1) Gr q) s o := by
  intro dd
  induction dd with
  | zero =>
    intro b hbd
    have f := fa_fac (q := q) (Gr := Gr) (dd := 0) hw hb hG (show b ≤ 5 by omega) (fun h => absurd h (by omega))
    have t := lv_lvl (Gr := Gr) (B := 2 * b + 1) (c1 := -8) (c2 := -9) hw hb hG (a1 := 42) (a2 := 47) (by decide) (by decide) (by decide) (by decide) (by decide) (fa_X hw) f
    have u := lv_lvl (Gr := Gr) (B := 2 * b) (c1 := -6) (c2 := -7) hw hb hG (a1 := 43) (a2 := 45) (by decide) (by decide) (by decide) (by decide) (by decide) (lv_E (by decide) (by decide) (fa_X hw)) t
    exact u
  | succ dd ih =>
    intro b hbd
    have f := fa_fac (q := q) (Gr := Gr) (dd := dd + 1) hw hb hG (show b ≤ 5 by omega) (fun h => ih (b + 1) (by omega))
    have t := lv_lvl (Gr := Gr) (B := 2 * b + 1) (c1 := -8) (c2 := -9) hw hb hG (a1 := 42) (a2 := 47) (by decide) (by decide) (by decide) (by decide) (by decide) (fa_X hw) f
    have u := lv_lvl (Gr := Gr) (B := 2 * b) (c1 := -6) (c2 := -7) hw hb hG (a1 := 43) (a2 := 45) (by decide) (by decide) (by decide) (by decide) (by decide) (lv_E (by decide) (by decide) (fa_X hw)) t
    exact u
end FB
