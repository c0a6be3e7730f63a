/-! ===== THE PARSER: statements (7): probe; any statement ===== -/
section SM
variable {G Gr : pm_G} {rr d m q : Nat} {tx : Nat → Int32} {s : aQ}
theorem st_probe (hw : cp_w rr d m) (hb : ∀ k, k < m → ob_ib (tx k)) (hG : pm_k G d (.inl 1)) (ok : ok_V m s) : ∃ o, oS m s o ∧ cC rr d m tx (wC_probe G rr) s o ∧ rD m q tx (wR_probe Gr q) s o := by
  obtain ⟨okq, oN, oP⟩ := ok
  have hm := hw.1
  have hd := hw.2.2
  have lenE := oP.2.2.2.2.2.2
  have q1 := okq.1
  have q2 := okq.2.1
  obtain ⟨ok1, a1⟩ := ok_Q.adv tx (ok_Q_see (i := 1) (by decide) okq)
  have a1' : s.1 ≤ (ab_adv tx m (ab_see s 1)).2.1 := a1
  have oN1 := ok_N.adv tx m (ab_see s 1)
  have oV1 : ok_V m (ab_adv tx m (ab_see s 1)) := ⟨ok1, oN1, oP⟩
  obtain ⟨ok2, a2⟩ := ok_Q.adv tx ok1
  have oN2 := ok_N.adv tx m (ab_adv tx m (ab_see s 1))
  cases hon : ab_once 1 s with
  | false =>
    refine ⟨.inl (2, s.2.1), oS_e (by decide) (by omega), fun J K hJ hk => ?_, fun J K hJ hk => ?_⟩
    · unfold wC_probe
      exact cp_once (i := 1) (by decide) hw okq lenE hJ (fun _ L hL fL => ⟨fun _ => hk L hL fL, fun z => absurd rfl z⟩) (fun h => by rw [hon] at h; cases h)
    · unfold wR_probe
      exact rp_once (i := 1) (by decide) hm hb okq hJ (fun _ M hM fM => ⟨fun _ => hk M hM fM, fun z => absurd rfl z⟩) (fun h => by rw [hon] at h; cases h)
  | true =>
    have C0 : ∀ (J : pm_I) (K : pm_I → Prop), cp_Q J rr d m tx s → (∀ L, cp_Q L rr d m tx (ab_adv tx m (ab_see s 1)) → ob_fr (cp_f rr d) J L → wX2_readNumber G rr (1) (20) (-1) L (fun r33 I32 => ∀ I34 : pm_I, I34 = pm_up I32 d 6 (r33) → (fun I34 => pm_k G ((I34 rr 2).toNatClampNeg) (.inl 1) ∧ (wX2_readNumber G rr (1) (9) (-1) I34 (fun r37 I36 => ∀ I38 : pm_I, I38 = pm_up I36 ((I34 rr 2).toNatClampNeg) 7 (r37) → K I38))) I34)) → wC_probe G rr J K := fun J K hJ hk => by
      unfold wC_probe
      refine cp_once (i := 1) (by decide) hw okq lenE hJ (fun h => by rw [hon] at h; cases h) (fun _ L hL fL => ⟨fun z => absurd z (by decide), fun _ => ?_⟩)
      have e2 : L rr 2 = nI d := hL.2.1
      rw [e2, nI_clamp (by omega)]
      exact ⟨hG, hk L hL fL⟩
    have R0 : ∀ (J : pm_I) (K : Int32 → pm_I → Prop), rp_Q J q m tx s → (∀ L, rp_Q L q m tx (ab_adv tx m (ab_see s 1)) → rp_fr q J L → wX7_sets Gr q (1) (1) (20) L (fun r37 I36 => (r37 = 0 → K 0 I36) ∧ (¬ r37 = 0 → (wX7_sets Gr q (2) (1) (9) I36 (fun r39 I38 => (r39 = 0 → K 0 I38) ∧ (¬ r39 = 0 → K 1 I38)))))) → wR_probe Gr q J K := fun J K hJ hk => by
      unfold wR_probe
      exact rp_once (i := 1) (by decide) hm hb okq hJ (fun h => by rw [hon] at h; cases h) (fun _ M hM fM gM => ⟨fun z => absurd z (by decide), fun _ => hk M hM fM⟩)
    cases h1 : ab_nu 21 1 (-1) (ab_adv tx m (ab_see s 1)) with
    | inl e =>
      refine ⟨.inl e, oS_n ok1 h1, fun J K hJ hk => C0 J K hJ (fun L hL fL => ?_), fun J K hJ hk => R0 J K hJ (fun L hL fL => ?_)⟩
      · refine cp_sets hw (Or.inl rfl) oV1 hL (hi_n 20 (by decide)) (fun e' he M hM fM => ?_) (fun v hv => by rw [h1] at hv; cases hv)
        rw [h1] at he; cases he
        have e2 : M rr 2 = nI d := hM.1
        show pm_k G ((M rr 2).toNatClampNeg) (.inl 1) ∧ _
        rw [e2, nI_clamp (by omega)]
        exact ⟨hG, cpE_sets hw hM (fun N hN fN => hk N hN ((fL.tr fM).tr fN))⟩
      · exact rp_sets (j := 6) hm hb (Or.inl rfl) oV1 hL (hi_n 20 (by decide)) (fun e' he M hM fM => by rw [h1] at he; cases he; exact ⟨fun _ => hk M hM (fL.tr fM), fun z => absurd rfl z⟩) (fun v hv => by rw [h1] at hv; cases hv)
    | inr v =>
      have rv := ab_nu_r oN1 h1
      generalize ht : ab_dr (ab_adv tx m (ab_adv tx m (ab_see s 1))) (dr_set s.2.2.2.2.2 6 v) = t
      have oVt : ok_V m t := by rw [← ht]; exact ok_V_dr ok2 oN2 (ok_set oP (Or.inl rfl) rv.1 rv.2.2.1)
      have t1 : s.2.1 ≤ t.2.1 := by rw [← ht, ab_dr_1]; have := ok1.1; omega
      obtain ⟨okt, oNt, oPt⟩ := oVt
      obtain ⟨ok3, a3⟩ := ok_Q.adv tx okt
      have oN3 := ok_N.adv tx m t
      have oVt : ok_V m t := ⟨okt, oNt, oPt⟩
      have C1 : ∀ (J : pm_I) (K : pm_I → Prop), cp_Q J rr d m tx s → (∀ M, cp_Q M rr d m tx t → ob_fr (cp_f rr d) J M → wX2_readNumber G rr (1) (9) (-1) M (fun r37 I36 => ∀ I38 : pm_I, I38 = pm_up I36 d 7 (r37) → K I38)) → wC_probe G rr J K := fun J K hJ hk => by
        refine C0 J K hJ (fun L hL fL => cp_sets hw (Or.inl rfl) oV1 hL (hi_n 20 (by decide)) (fun e' he => by rw [h1] at he; cases he) (fun v' hv M hM fM => ?_))
        rw [h1] at hv; cases hv
        have e2 : M rr 2 = nI d := hM.2.1
        show pm_k G ((M rr 2).toNatClampNeg) (.inl 1) ∧ _
        rw [e2, nI_clamp (by omega)]
        refine ⟨hG, hk M ?_ (fL.tr fM)⟩
        rw [← ht]; exact hM
      have R1 : ∀ (J : pm_I) (K : Int32 → pm_I → Prop), rp_Q J q m tx s → (∀ M, rp_Q M q m tx t → rp_fr q J M → wX7_sets Gr q (2) (1) (9) M (fun r39 I38 => (r39 = 0 → K 0 I38) ∧ (¬ r39 = 0 → K 1 I38))) → wR_probe Gr q J K := fun J K hJ hk => by
        refine R0 J K hJ (fun L hL fL => rp_sets (j := 6) hm hb (Or.inl rfl) oV1 hL (hi_n 20 (by decide)) (fun e' he => by rw [h1] at he; cases he) (fun v' hv M hM fM => ⟨fun z => absurd z (by decide), fun _ => ?_⟩))
        rw [h1] at hv; cases hv
        refine hk M ?_ (fL.tr fM)
        rw [← ht]; exact hM
      cases h2 : ab_nu 10 1 (-1) t with
      | inl e =>
        refine ⟨.inl e, oS_n okt h2, fun J K hJ hk => C1 J K hJ (fun L hL fL => ?_), fun J K hJ hk => R1 J K hJ (fun L hL fL => ?_)⟩
        · exact cp_sets hw (Or.inr (Or.inl rfl)) oVt hL (hi_n 9 (by decide)) (fun e' he M hM fM => by rw [h2] at he; cases he; exact hk M hM (fL.tr fM)) (fun v hv => by rw [h2] at hv; cases hv)
        · exact rp_sets (j := 7) hm hb (Or.inr (Or.inl rfl)) oVt hL (hi_n 9 (by decide)) (fun e' he M hM fM => by rw [h2] at he; cases he; exact ⟨fun _ => hk M hM (fL.tr fM), fun z => absurd rfl z⟩) (fun v hv => by rw [h2] at hv; cases hv)
      | inr w =>
        have rw' := ab_nu_r oNt h2
        refine ⟨.inr (ab_dr (ab_adv tx m t) (dr_set t.2.2.2.2.2 7 w)), oS_s (ok_V_dr ok3 oN3 (ok_set oPt (Or.inr (Or.inl rfl)) rw'.1 rw'.2.2.1)) (by rw [ab_dr_1]; have := okt.1; omega), fun J K hJ hk => C1 J K hJ (fun L hL fL => ?_), fun J K hJ hk => R1 J K hJ (fun L hL fL => ?_)⟩
        · exact cp_sets hw (Or.inr (Or.inl rfl)) oVt hL (hi_n 9 (by decide)) (fun e' he => by rw [h2] at he; cases he) (fun v' hv M hM fM => by rw [h2] at hv; cases hv; exact hk M hM (fL.tr fM))
        · exact rp_sets (j := 7) hm hb (Or.inr (Or.inl rfl)) oVt hL (hi_n 9 (by decide)) (fun e' he => by rw [h2] at he; cases he) (fun v' hv M hM fM => by rw [h2] at hv; cases hv; exact ⟨fun z => absurd z (by decide), fun _ => hk M hM (fL.tr fM)⟩)
theorem ab_wi_b {w : Nat} (hw : 0 < ab_wl w) (h : ab_wi tx s w = true) : tx s.2.1 = ab_wb w 0 := by
  unfold ab_wi at h
  rw [Bool.and_eq_true] at h
  have h2 : ob_ex (fun k => !decide (tx (s.2.1 + k) = ab_wb w k)) (ab_wl w) = false := by
    cases hh : ob_ex (fun k => !decide (tx (s.2.1 + k) = ab_wb w k)) (ab_wl w) with
    | false => rfl
    | true => rw [hh] at h; exact absurd h.2 (by decide)
  have h3 := ob_ex_f.mp h2 0 hw
  have h4 : (!decide (tx (s.2.1 + 0) = ab_wb w 0)) = false := h3
  cases h5 : decide (tx (s.2.1 + 0) = ab_wb w 0) with
  | true => exact of_decide_eq_true h5
  | false => rw [h5] at h4; exact absurd h4 (by decide)
theorem ab_wi_x {w w' : Nat} (hw : 0 < ab_wl w) (hw' : 0 < ab_wl w') (hne : ¬ ab_wb w 0 = ab_wb w' 0) (h : ab_wi tx s w = true) : ab_wi tx s w' = false := by
  cases hh : ab_wi tx s w' with
  | false => rfl
  | true => exact absurd ((ab_wi_b hw h).symm.trans (ab_wi_b hw' hh)) hne
/-- a statement, by its word -/
theorem st_any (hw : cp_w rr d m) (hb : ∀ k, k < m → ob_ib (tx k)) (hG : pm_k G d (.inl 1)) (ok : ok_V m s) : ∃ o, oS m s o ∧ cC rr d m tx (wX2_readStatement G rr) s o ∧ rD m q tx (wX7_statement Gr q) s o := by
  have hm := hw.1
  have okq := ok.1
  have lenE := ok.2.2.2.2.2.2.2.2
  have q1 := okq.1
  have q2 := okq.2.1
  have T : ∀ {w : Nat}, w < 11 → ∀ {J : pm_I} {K : Int32 → pm_I → Prop}, cp_Q J rr d m tx s → (ab_wi tx s w = true → K 1 J) → (ab_wi tx s w = false → K 0 J) → wX2_wordIs G rr w J K := fun {w} hw11 {J K} hJ h1 h0 => cp_wi hw okq hJ hw11 (by
    cases h : ab_wi tx s w with
    | true => exact h1 h
    | false => exact h0 h)
  have U : ∀ {w : Nat}, w < 11 → ∀ {J : pm_I} {K : Int32 → pm_I → Prop}, rp_Q J q m tx s → (ab_wi tx s w = true → K 1 J) → (ab_wi tx s w = false → K 0 J) → wX7_isWord Gr q w J K := fun {w} hw11 {J K} hJ h1 h0 => rp_wi hm okq hJ hw11 (by
    cases h : ab_wi tx s w with
    | true => exact h1 h
    | false => exact h0 h)
  have yes : ∀ {A B : Prop}, B → (((1 : Int32) = 0 → A) ∧ (¬ (1 : Int32) = 0 → B)) := fun b => ⟨fun z => absurd z (by decide), fun _ => b⟩
  have no : ∀ {A B : Prop}, A → (((0 : Int32) = 0 → A) ∧ (¬ (0 : Int32) = 0 → B)) := fun a => ⟨fun _ => a, fun z => absurd rfl z⟩
  have bad : ∀ {w : Nat} {X : Prop}, ab_wi tx s w = true → ab_wi tx s w = false → X := fun h1 h2 => by rw [h1] at h2; cases h2
  cases h0 : ab_wi tx s 0 with
  | true =>
    obtain ⟨o, xo, Co, Ro⟩ := st_peer (q := q) (Gr := Gr) hw hb hG ok
    refine ⟨o, xo, fun J K hJ hk => ?_, fun J K hJ hk => ?_⟩
    · unfold wX2_readStatement
      exact T (by decide) hJ (fun _ => yes (Co J _ hJ hk)) (fun h => bad h0 h)
    · unfold wX7_statement
      refine U (by decide) hJ (fun _ => yes (Ro J _ hJ ?_)) (fun h => bad h0 h)
      cases o with
      | inl e => exact fun L hL fL => ⟨Or.inl rfl, hk L hL fL⟩
      | inr s' => exact fun L hL fL => ⟨Or.inr rfl, hk L hL fL⟩
  | false =>
  cases h1 : ab_wi tx s 1 with
  | true =>
    obtain ⟨o, xo, Co, Ro⟩ := st_link (q := q) (Gr := Gr) hw hb hG ok
    refine ⟨o, xo, fun J K hJ hk => ?_, fun J K hJ hk => ?_⟩
    · unfold wX2_readStatement
      exact T (by decide) hJ (fun h => bad h h0) (fun _ => no (T (by decide) hJ (fun _ => yes (Co J _ hJ hk)) (fun h => bad h1 h)))
    · unfold wX7_statement
      exact U (by decide) hJ (fun h => bad h h0) (fun _ => no (U (by decide) hJ (fun _ => yes (Ro J K hJ hk)) (fun h => bad h1 h)))
  | false =>
  cases h2 : ab_wi tx s 2 with
  | true =>
    obtain ⟨o, xo, Co, Ro⟩ := st_know (q := q) (Gr := Gr) hw hb hG ok
    refine ⟨o, xo, fun J K hJ hk => ?_, fun J K hJ hk => ?_⟩
    · unfold wX2_readStatement
      exact T (by decide) hJ (fun h => bad h h0) (fun _ => no (T (by decide) hJ (fun h => bad h h1) (fun _ => no (T (by decide) hJ (fun _ => yes (Co J _ hJ hk)) (fun h => bad h2 h)))))
    · unfold wX7_statement
      exact U (by decide) hJ (fun h => bad h h0) (fun _ => no (U (by decide) hJ (fun h => bad h h1) (fun _ => no (U (by decide) hJ (fun _ => yes (Ro J K hJ hk)) (fun h => bad h2 h)))))
  | false =>
  have C3 : ∀ (J : pm_I) (K : pm_I → Prop) {o : aO}, cp_Q J rr d m tx s → (ab_wi tx s 3 = true → wC_score G rr J K) → (ab_wi tx s 3 = false → ab_wi tx s 4 = true → wC_probe G rr J K) → (ab_wi tx s 3 = false → ab_wi tx s 4 = false → ab_wi tx s 5 = true → wC_keys G rr J K) → (ab_wi tx s 3 = false → ab_wi tx s 4 = false → ab_wi tx s 5 = false → wX2_fail G rr 1 J K) → wX2_readStatement G rr J K := fun J K {o} hJ k3 k4 k5 k6 => by
    unfold wX2_readStatement
    exact T (by decide) hJ (fun h => bad h h0) (fun _ => no (T (by decide) hJ (fun h => bad h h1) (fun _ => no (T (by decide) hJ (fun h => bad h h2) (fun _ => no (T (by decide) hJ (fun h => yes (k3 h)) (fun h3 => no (T (by decide) hJ (fun h => yes (k4 h3 h)) (fun h4 => no (T (by decide) hJ (fun h => yes (k5 h3 h4 h)) (fun h5 => no (k6 h3 h4 h5))))))))))))
  have R3 : ∀ (J : pm_I) (K : Int32 → pm_I → Prop), rp_Q J q m tx s → (ab_wi tx s 4 = true → wR_probe Gr q J K) → (ab_wi tx s 4 = false → ab_wi tx s 5 = true → wR_keys Gr q J K) → (ab_wi tx s 4 = false → ab_wi tx s 5 = false → ab_wi tx s 3 = true → wR_score Gr q J K) → (ab_wi tx s 4 = false → ab_wi tx s 5 = false → ab_wi tx s 3 = false → wX7_fails Gr q 1 J (fun r29 I28 => ((r29) = 0 ∨ (r29) = 1) ∧ K (r29) I28)) → wX7_statement Gr q J K := fun J K hJ k4 k5 k3 k6 => by
    unfold wX7_statement
    exact U (by decide) hJ (fun h => bad h h0) (fun _ => no (U (by decide) hJ (fun h => bad h h1) (fun _ => no (U (by decide) hJ (fun h => bad h h2) (fun _ => no (U (by decide) hJ (fun h => yes (k4 h)) (fun h4 => no (U (by decide) hJ (fun h => yes (k5 h4 h)) (fun h5 => no (U (by decide) hJ (fun h => ⟨fun _ => k3 h4 h5 h, fun z => absurd z (by decide)⟩) (fun h3 => ⟨fun z => absurd rfl z, fun _ => k6 h4 h5 h3⟩)))))))))))
  cases h3 : ab_wi tx s 3 with
  | true =>
    have h4 : ab_wi tx s 4 = false := ab_wi_x (by decide) (by decide) (by decide) h3
    have h5 : ab_wi tx s 5 = false := ab_wi_x (by decide) (by decide) (by decide) h3
    obtain ⟨o, xo, Co, Ro⟩ := st_score (q := q) (Gr := Gr) hw hb hG ok
    exact ⟨o, xo, fun J K hJ hk => C3 (o := o) J K hJ (fun _ => Co J K hJ hk) (fun h => bad h3 h) (fun h => bad h3 h) (fun h => bad h3 h), fun J K hJ hk => R3 J K hJ (fun h => bad h h4) (fun _ h => bad h h5) (fun _ _ _ => Ro J K hJ hk) (fun _ _ h => bad h3 h)⟩
  | false =>
  cases h4 : ab_wi tx s 4 with
  | true =>
    obtain ⟨o, xo, Co, Ro⟩ := st_probe (q := q) (Gr := Gr) hw hb hG ok
    exact ⟨o, xo, fun J K hJ hk => C3 (o := o) J K hJ (fun h => bad h h3) (fun _ _ => Co J K hJ hk) (fun _ h => bad h4 h) (fun _ h => bad h4 h), fun J K hJ hk => R3 J K hJ (fun _ => Ro J K hJ hk) (fun h => bad h4 h) (fun h => bad h4 h) (fun h => bad h4 h)⟩
  | false =>
  cases h5 : ab_wi tx s 5 with
  | true =>
    obtain ⟨o, xo, Co, Ro⟩ := st_keys (q := q) (Gr := Gr) hw hb hG ok
    exact ⟨o, xo, fun J K hJ hk => C3 (o := o) J K hJ (fun h => bad h h3) (fun _ h => bad h h4) (fun _ _ _ => Co J K hJ hk) (fun _ _ h => bad h5 h), fun J K hJ hk => R3 J K hJ (fun h => bad h h4) (fun _ _ => Ro J K hJ hk) (fun _ h => bad h5 h) (fun _ h => bad h5 h)⟩
  | false =>
    refine ⟨.inl (1, s.2.1), oS_e (by decide) (by omega), fun J K hJ hk => C3 (o := .inr s) J K hJ (fun h => bad h h3) (fun _ h => bad h h4) (fun _ _ h => bad h h5) (fun _ _ _ => cpQ_fail hw hJ lenE (by decide) hk), fun J K hJ hk => R3 J K hJ (fun h => bad h h4) (fun _ h => bad h h5) (fun _ _ h => bad h h3) (fun _ _ _ => rpQ_fail hJ (fun L hL fL => ⟨Or.inl rfl, hk L hL fL⟩))⟩
end SM
