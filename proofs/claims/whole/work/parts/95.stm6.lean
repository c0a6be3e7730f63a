/-! ===== THE PARSER: statements (6): score, probe, keys; any ===== -/
section SL
variable {G Gr : pm_G} {rr d m q : Nat} {tx : Nat → Int32} {s : aQ}
theorem ab_see_dr (s : aQ) (D : aP) (i : Nat) : ab_adv tx m (ab_see (ab_dr s D) i) = ab_dr (ab_adv tx m (ab_see s i)) D := rfl
theorem ab_see_D (s : aQ) (i : Nat) : (ab_adv tx m (ab_see s i)).2.2.2.2.2 = s.2.2.2.2.2 := rfl
theorem ab_adv_D (s : aQ) : (ab_adv tx m s).2.2.2.2.2 = s.2.2.2.2.2 := rfl
theorem ab_once_dr (s : aQ) (D : aP) (i : Nat) : ab_once i (ab_dr s D) = ab_once i s := rfl
theorem ok_Q_dr {D : aP} (h : ok_Q m s) : ok_Q m (ab_dr s D) := h
theorem ok_Q_see {i : Nat} (hi : i < 3) (h : ok_Q m s) : ok_Q m (ab_see s i) := ⟨h.1, h.2.1, h.2.2.1, (ab_sn_o i hi _ h.2.2.2).2.1⟩
theorem ok_W_no {D : aP} (h : ok_Q m s) (h2 : ok_N s) : ok_W m (ab_dr s (dr_no D)) 0 := ⟨h, h2, ⟨fun k hk => absurd hk (Nat.not_lt_zero k), rfl⟩, Nat.zero_le _⟩
theorem ok_sc {D : aP} {s' : aQ} (oP : ok_P D) (hm : m ≤ 600) (ok : ok_W m s' 1) (st : ok_st (ab_dr s (dr_no D)) s') : ok_V m s' := by
  obtain ⟨⟨is, e⟩, _, _⟩ := st
  obtain ⟨w1, w2, w3, w4⟩ := ok
  have e1 : s'.2.2.2.2.2 = (D.1, D.2.1, D.2.2.1, D.2.2.2.1, D.2.2.2.2.1, is) := by rw [e]; rfl
  have e2 : s'.2.2.2.2.2.2.2.2.2.2 = is := by rw [e1]
  rw [e2] at w3 w4
  obtain ⟨o1, o2, o3, o4, o5, o6, o7⟩ := oP
  refine ⟨w1, w2, ?_⟩
  rw [e1]
  have := w1.1
  have := w1.2.1
  exact ⟨o1, o2, o3, o4, ok_np (P := D) o5 (Nat.le_refl _), w3, by show is.length ≤ 600; omega⟩
def wC_score (G : pm_G) (q0 : Nat) (I16 : pm_I) (K : pm_I → Prop) : Prop := wX2_beginsOnly G (q0) (1) I16 (fun r40 I39 => (r40 = 0 → K I39) ∧ (¬ r40 = 0 → (pm_k G ((I39 (q0) 2).toNatClampNeg) (.inl 1) ∧ (wX3_clear G ((I39 (q0) 2).toNatClampNeg + 5) I39 (fun I42 => wX2_readSum 6 G (q0) (0) I42 (fun I43 => K I43))))))
def wR_score (G : pm_G) (q0 : Nat) (I20 : pm_I) (K : Int32 → pm_I → Prop) : Prop := ∀ I22 : pm_I, I22 = pm_up I20 (q0 + 7) ((1 : Int32).toNatClampNeg) (0) → (∀ I23 : pm_I, I23 = pm_up I22 (q0) 22 (0) → (wX7_once G (q0) (2) I23 (fun r25 I24 => (r25 = 0 → K 0 I24) ∧ (¬ r25 = 0 → (wX7_sum 6 G (q0) I24 (fun r27 I26 => (r27 = 0 → K 0 I26) ∧ (¬ r27 = 0 → K 1 I26)))))))
def wC_keys (G : pm_G) (q0 : Nat) (I20 : pm_I) (K : pm_I → Prop) : Prop := wX2_beginsOnly G (q0) (4) I20 (fun r24 I23 => (r24 = 0 → K I23) ∧ (¬ r24 = 0 → (pm_k G ((I23 (q0) 2).toNatClampNeg) (.inl 1) ∧ (wX2_readNumber G (q0) (1) (99) (-1) I23 (fun r27 I26 => ∀ I28 : pm_I, I28 = pm_up I26 ((I23 (q0) 2).toNatClampNeg) 8 (r27) → K I28)))))
def wR_keys (G : pm_G) (q0 : Nat) (I18 : pm_I) (K : Int32 → pm_I → Prop) : Prop := wX7_once G (q0) (1) I18 (fun r31 I30 => (r31 = 0 → K 0 I30) ∧ (¬ r31 = 0 → (wX7_sets G (q0) (3) (1) (99) I30 (fun r33 I32 => (r33 = 0 → K 0 I32) ∧ (¬ r33 = 0 → K 1 I32)))))
def wC_probe (G : pm_G) (q0 : Nat) (I18 : pm_I) (K : pm_I → Prop) : Prop := wX2_beginsOnly G (q0) (2) I18 (fun r30 I29 => (r30 = 0 → K I29) ∧ (¬ r30 = 0 → (pm_k G ((I29 (q0) 2).toNatClampNeg) (.inl 1) ∧ (wX2_readNumber G (q0) (1) (20) (-1) I29 (fun r33 I32 => ∀ I34 : pm_I, I34 = pm_up I32 ((I29 (q0) 2).toNatClampNeg) 6 (r33) → (pm_k G ((I34 (q0) 2).toNatClampNeg) (.inl 1) ∧ (wX2_readNumber G (q0) (1) (9) (-1) I34 (fun r37 I36 => ∀ I38 : pm_I, I38 = pm_up I36 ((I34 (q0) 2).toNatClampNeg) 7 (r37) → K I38))))))))
def wR_probe (G : pm_G) (q0 : Nat) (I16 : pm_I) (K : Int32 → pm_I → Prop) : Prop := wX7_once G (q0) (0) I16 (fun r35 I34 => (r35 = 0 → K 0 I34) ∧ (¬ r35 = 0 → (wX7_sets G (q0) (1) (1) (20) I34 (fun r37 I36 => (r37 = 0 → K 0 I36) ∧ (¬ r37 = 0 → (wX7_sets G (q0) (2) (1) (9) I36 (fun r39 I38 => (r39 = 0 → K 0 I38) ∧ (¬ r39 = 0 → K 1 I38))))))))
theorem st_score (hw : cp_w rr d m) (hb : ∀ k, k < m → ob_ib (tx k)) (hG : pm_k G d (.inl 1)) (ok : ok_V m s) : ∃ o, oS m s o ∧ cC rr d m tx (wC_score G rr) s o ∧ rD m q tx (wR_score Gr q) s o := by
  obtain ⟨okq, oN, oP⟩ := ok
  have hm := hw.1
  have hd := hw.2.2
  have lenE := oP.2.2.2.2.2.2
  have q1 := okq.1
  have q2 := okq.2.1
  obtain ⟨ok1, a1⟩ := ok_Q.adv tx (ok_Q_see (i := 0) (by decide) okq)
  have a1' : s.1 ≤ (ab_adv tx m (ab_see s 0)).2.1 := a1
  have oN1 := ok_N.adv tx m (ab_see s 0)
  have R0 : ∀ (J : pm_I) (K : Int32 → pm_I → Prop), rp_Q J q m tx s → (∀ L, rp_Q L q m tx (ab_dr s (dr_no s.2.2.2.2.2)) → rp_fr q J L → L q 22 = nI 0 → wX7_once Gr q (2) L (fun r25 I24 => (r25 = 0 → K 0 I24) ∧ (¬ r25 = 0 → (wX7_sum 6 Gr q I24 (fun r27 I26 => (r27 = 0 → K 0 I26) ∧ (¬ r27 = 0 → K 1 I26)))))) → wR_score Gr q J K := fun J K hJ hk => by
    unfold wR_score
    intro I2 e2 I3 e3
    rw [show (1 : Int32).toNatClampNeg = 1 from by decide] at e2
    refine hk I3 ?_ ?_ (by rw [e3, ob_us]; rfl)
    · rw [e3, e2]; exact rpQ_uq (rpQ_no hJ) (Or.inr (by omega))
    · rw [e3, e2]; exact (rp_fr.rf.w (Or.inr (Or.inr (Or.inr (Or.inr (Or.inr (Or.inl ⟨rfl, by omega⟩))))))).up (by omega) (by omega)
  cases hon : ab_once 0 s with
  | false =>
    refine ⟨.inl (2, s.2.1), oS_e (by decide) (by omega), fun J K hJ hk => ?_, fun J K hJ hk => R0 J K hJ (fun L hL fL h22 => ?_)⟩
    · unfold wC_score
      exact cp_once (i := 0) (by decide) hw okq lenE hJ (fun _ L hL fL => ⟨fun _ => hk L hL fL, fun z => absurd rfl z⟩) (fun h => by rw [hon] at h; cases h)
    · exact rp_once (i := 0) (by decide) hm hb (ok_Q_dr okq) hL (fun _ M hM fM => ⟨fun _ => hk M hM (fL.tr fM), fun z => absurd rfl z⟩) (fun h => by rw [ab_once_dr, hon] at h; cases h)
  | true =>
    obtain ⟨o, xo, Co, Ro⟩ := fa_sum (q := q) (Gr := Gr) hw hb hG 5 0 rfl (ab_dr (ab_adv tx m (ab_see s 0)) (dr_no s.2.2.2.2.2)) 0 (ok_W_no ok1 oN1) (by omega)
    refine ⟨o, ⟨xo.1, fun s' hs' => ?_⟩, fun J K hJ hk => ?_, fun J K hJ hk => R0 J K hJ (fun L hL fL h22 => ?_)⟩
    · obtain ⟨w, st⟩ := xo.2 s' hs'
      refine ⟨ok_sc oP hm w st, ?_⟩
      have := st.2.1
      rw [ab_dr_1] at this
      omega
    · unfold wC_score
      refine cp_once (i := 0) (by decide) hw okq lenE hJ (fun h => by rw [hon] at h; cases h) (fun _ L hL fL => ⟨fun z => absurd z (by decide), fun _ => ?_⟩)
      have e2 : L rr 2 = nI d := hL.2.1
      rw [e2, nI_clamp (by omega)]
      refine ⟨hG, ?_⟩
      unfold wX3_clear
      intro M qM
      have hM : cp_Q M rr d m tx (ab_dr (ab_adv tx m (ab_see s 0)) (dr_no s.2.2.2.2.2)) := by rw [qM]; exact cp_no hw hL
      have fM : ob_fr (cp_f rr d) J M := by rw [qM]; exact fL.up (Or.inr ⟨by omega, by omega⟩)
      exact Co M _ hM (fun N hN fN => hk N hN (fM.tr fN))
    · refine rp_once (i := 0) (by decide) hm hb (ok_Q_dr okq) hL (fun h => by rw [ab_once_dr, hon] at h; cases h) (fun _ M hM fM gM => ⟨fun z => absurd z (by decide), fun _ => ?_⟩)
      rw [ab_see_dr] at hM
      refine Ro M _ hM ((gM 22 (by omega)).trans h22) ?_
      cases o with
      | inl e => exact fun N hN fN _ => ⟨fun _ => hk N hN ((fL.tr fM).tr fN), fun z => absurd rfl z⟩
      | inr s' => exact fun N hN fN _ => ⟨fun z => absurd z (by decide), fun _ => hk N hN ((fL.tr fM).tr fN)⟩
theorem cp_sets {J : pm_I} {K : pm_I → Prop} {j n : Nat} {hi : Int32} (hw : cp_w rr d m) (hj : j = 6 ∨ j = 7 ∨ j = 8) (ok : ok_V m s) (hJ : cp_Q J rr d m tx s) (hhi : ∀ v, v ≤ 9999 → (nI v ≤ hi ↔ v < n))
    (hk1 : ∀ e, ab_nu n 1 (-1) s = .inl e → ∀ L, cp_E L rr d e → ob_fr (cp_f rr d) J L → K L) (hk2 : ∀ v, ab_nu n 1 (-1) s = .inr v → ∀ L, cp_Q L rr d m tx (ab_dr (ab_adv tx m s) (dr_set s.2.2.2.2.2 j v)) → ob_fr (cp_f rr d) J L → K L) : wX2_readNumber G rr (1) hi (-1) J (fun r27 I26 => ∀ I28 : pm_I, I28 = pm_up I26 d j (r27) → K I28) := by
  obtain ⟨okq, oN, oP⟩ := ok
  refine cp_rn (lo := 1) (n := n) hw okq oN oP.2.2.2.2.2.2 hJ (by decide) hhi (fun e he L hL fL M qM => ?_) (fun v hv L hL fL M qM => ?_)
  · exact hk1 e he M (by rw [qM]; exact cpE_up hw hL) (by rw [qM]; exact fL.up (Or.inr ⟨by omega, by omega⟩))
  · exact hk2 v hv M (by rw [qM]; exact cp_set hw hj hL) (by rw [qM]; exact fL.up (Or.inr ⟨by omega, by omega⟩))
theorem cpE_sets {J : pm_I} {K : pm_I → Prop} {j : Nat} {hi : Int32} {e : aE} (hw : cp_w rr d m) (hJ : cp_E J rr d e) (hk : ∀ L, cp_E L rr d e → ob_fr (cp_f rr d) J L → K L) : wX2_readNumber G rr (1) hi (-1) J (fun r27 I26 => ∀ I28 : pm_I, I28 = pm_up I26 d j (r27) → K I28) :=
  cpE_rn hw hJ (fun L hL fL M qM => hk M (by rw [qM]; exact cpE_up hw hL) (by rw [qM]; exact fL.up (Or.inr ⟨by omega, by omega⟩)))
theorem rp_sets {J : pm_I} {K : Int32 → pm_I → Prop} {j n : Nat} {hi : Int32} (hm : m ≤ 600) (hb : ∀ k, k < m → ob_ib (tx k)) (hj : j = 6 ∨ j = 7 ∨ j = 8) (ok : ok_V m s) (hJ : rp_Q J q m tx s) (hhi : ∀ v, v ≤ 9999 → (nI v ≤ hi ↔ v < n))
    (hk1 : ∀ e, ab_nu n 1 (-1) s = .inl e → ∀ L, rp_E L q e → rp_fr q J L → K 0 L) (hk2 : ∀ v, ab_nu n 1 (-1) s = .inr v → ∀ L, rp_Q L q m tx (ab_dr (ab_adv tx m s) (dr_set s.2.2.2.2.2 j v)) → rp_fr q J L → K 1 L) : wX7_sets G q (nI (j - 5)) (1) hi J K := by
  obtain ⟨okq, oN, oP⟩ := ok
  unfold wX7_sets
  have ix : (4 : Int32) + nI (j - 5) = nI (j - 1) := by rw [show (4 : Int32) = nI 4 from rfl, nI_add, show 4 + (j - 5) = j - 1 by omega]
  refine rp_takes (lo := 1) (n := n) hm hb okq oN hJ (by decide) hhi (fun e he L hL fL => ⟨fun z => absurd rfl z, fun _ => hk1 e he L hL fL⟩) (fun v hv L hL fL e18 => ⟨fun _ => ?_, fun z => absurd z (by decide)⟩)
  rw [ix, nI_clamp (by omega), e18]
  exact ⟨vp_in_nI (by omega) (by decide), fun M qM => hk2 v hv M (by rw [qM]; exact rpQ_set hj hL) (by rw [qM]; exact fL.fr.w (Or.inl ⟨rfl, by omega⟩))⟩
theorem st_keys (hw : cp_w rr d m) (hb : ∀ k, k < m → ob_ib (tx k)) (hG : pm_k G d (.inl 1)) (ok : ok_V m s) : ∃ o, oS m s o ∧ cC rr d m tx (wC_keys G rr) s o ∧ rD m q tx (wR_keys Gr q) s o := by
  obtain ⟨okq, oN, oP⟩ := ok
  have hm := hw.1
  have hd := hw.2.2
  have lenE := oP.2.2.2.2.2.2
  have q1 := okq.1
  have q2 := okq.2.1
  obtain ⟨ok1, a1⟩ := ok_Q.adv tx (ok_Q_see (i := 2) (by decide) okq)
  have a1' : s.1 ≤ (ab_adv tx m (ab_see s 2)).2.1 := a1
  have oN1 := ok_N.adv tx m (ab_see s 2)
  have oV1 : ok_V m (ab_adv tx m (ab_see s 2)) := ⟨ok1, oN1, oP⟩
  obtain ⟨ok2, a2⟩ := ok_Q.adv tx ok1
  have oN2 := ok_N.adv tx m (ab_adv tx m (ab_see s 2))
  cases hon : ab_once 2 s with
  | false =>
    refine ⟨.inl (2, s.2.1), oS_e (by decide) (by omega), fun J K hJ hk => ?_, fun J K hJ hk => ?_⟩
    · unfold wC_keys
      exact cp_once (i := 2) (by decide) hw okq lenE hJ (fun _ L hL fL => ⟨fun _ => hk L hL fL, fun z => absurd rfl z⟩) (fun h => by rw [hon] at h; cases h)
    · unfold wR_keys
      exact rp_once (i := 2) (by decide) hm hb okq hJ (fun _ M hM fM => ⟨fun _ => hk M hM fM, fun z => absurd rfl z⟩) (fun h => by rw [hon] at h; cases h)
  | true =>
    have C0 : ∀ (J : pm_I) (K : pm_I → Prop), cp_Q J rr d m tx s → (∀ L, cp_Q L rr d m tx (ab_adv tx m (ab_see s 2)) → ob_fr (cp_f rr d) J L → wX2_readNumber G rr (1) (99) (-1) L (fun r27 I26 => ∀ I28 : pm_I, I28 = pm_up I26 d 8 (r27) → K I28)) → wC_keys G rr J K := fun J K hJ hk => by
      unfold wC_keys
      refine cp_once (i := 2) (by decide) hw okq lenE hJ (fun h => by rw [hon] at h; cases h) (fun _ L hL fL => ⟨fun z => absurd z (by decide), fun _ => ?_⟩)
      have e2 : L rr 2 = nI d := hL.2.1
      rw [e2, nI_clamp (by omega)]
      exact ⟨hG, hk L hL fL⟩
    have R0 : ∀ (J : pm_I) (K : Int32 → pm_I → Prop), rp_Q J q m tx s → (∀ L, rp_Q L q m tx (ab_adv tx m (ab_see s 2)) → rp_fr q J L → wX7_sets Gr q (3) (1) (99) L (fun r33 I32 => (r33 = 0 → K 0 I32) ∧ (¬ r33 = 0 → K 1 I32))) → wR_keys Gr q J K := fun J K hJ hk => by
      unfold wR_keys
      exact rp_once (i := 2) (by decide) hm hb okq hJ (fun h => by rw [hon] at h; cases h) (fun _ M hM fM gM => ⟨fun z => absurd z (by decide), fun _ => hk M hM fM⟩)
    cases h1 : ab_nu 100 1 (-1) (ab_adv tx m (ab_see s 2)) with
    | inl e =>
      refine ⟨.inl e, oS_n ok1 h1, fun J K hJ hk => C0 J K hJ (fun L hL fL => ?_), fun J K hJ hk => R0 J K hJ (fun L hL fL => ?_)⟩
      · exact cp_sets hw (Or.inr (Or.inr rfl)) oV1 hL (hi_n 99 (by decide)) (fun e' he M hM fM => by rw [h1] at he; cases he; exact hk M hM (fL.tr fM)) (fun v hv => by rw [h1] at hv; cases hv)
      · exact rp_sets (j := 8) hm hb (Or.inr (Or.inr rfl)) oV1 hL (hi_n 99 (by decide)) (fun e' he M hM fM => by rw [h1] at he; cases he; exact ⟨fun _ => hk M hM (fL.tr fM), fun z => absurd rfl z⟩) (fun v hv => by rw [h1] at hv; cases hv)
    | inr v =>
      have rv := ab_nu_r oN1 h1
      refine ⟨.inr (ab_dr (ab_adv tx m (ab_adv tx m (ab_see s 2))) (dr_set s.2.2.2.2.2 8 v)), oS_s (ok_V_dr ok2 oN2 (ok_set oP (Or.inr (Or.inr rfl)) rv.1 rv.2.2.1)) (by rw [ab_dr_1]; have := ok1.1; omega), fun J K hJ hk => C0 J K hJ (fun L hL fL => ?_), fun J K hJ hk => R0 J K hJ (fun L hL fL => ?_)⟩
      · exact cp_sets hw (Or.inr (Or.inr rfl)) oV1 hL (hi_n 99 (by decide)) (fun e' he => by rw [h1] at he; cases he) (fun v' hv M hM fM => by rw [h1] at hv; cases hv; exact hk M hM (fL.tr fM))
      · exact rp_sets (j := 8) hm hb (Or.inr (Or.inr rfl)) oV1 hL (hi_n 99 (by decide)) (fun e' he => by rw [h1] at he; cases he) (fun v' hv M hM fM => by rw [h1] at hv; cases hv; exact ⟨fun z => absurd z (by decide), fun _ => hk M hM (fL.tr fM)⟩)
end SL
