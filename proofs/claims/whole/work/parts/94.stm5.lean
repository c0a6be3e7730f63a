/-! ===== THE PARSER: statements (5): link, knows ===== -/
section SK
variable {G Gr : pm_G} {rr d m q : Nat} {tx : Nat → Int32} {s : aQ}
theorem cp_two {J : pm_I} {K2 : Int32 → Int32 → pm_I → Prop} (hw : cp_w rr d m) (hG : pm_k G d (.inl 1)) (ok : ok_Q m s) (oP : ok_P s.2.2.2.2.2) (hJ : cp_Q J rr d m tx s)
    (hk1 : ∀ e, ab_nu (ab_np s.2.2.2.2.2) 0 (-1) (ab_adv tx m s) = .inl e → ∀ L, cp_E L rr d e → ob_fr (cp_f rr d) J L → K2 0 0 L)
    (hk2 : ∀ a, ab_nu (ab_np s.2.2.2.2.2) 0 (-1) (ab_adv tx m s) = .inr a → (∀ e, ab_nu (ab_np s.2.2.2.2.2) 0 (nI a) (ab_adv tx m (ab_adv tx m s)) = .inl e → ∀ L, cp_E L rr d e → ob_fr (cp_f rr d) J L → K2 (nI a) 0 L) ∧ ∀ b, ab_nu (ab_np s.2.2.2.2.2) 0 (nI a) (ab_adv tx m (ab_adv tx m s)) = .inr b → ∀ L, cp_Q L rr d m tx (ab_adv tx m (ab_adv tx m (ab_adv tx m s))) → ob_fr (cp_f rr d) J L → K2 (nI a) (nI b) L) :
    wX2_advance G rr J (fun I10 => pm_k G ((I10 rr 2).toNatClampNeg) (.inl 1) ∧ (wX2_readNumber G rr (0) ((I10 ((I10 rr 2).toNatClampNeg) 0) - 1) (-1) I10 (fun r13 I12 => pm_k G ((I12 rr 2).toNatClampNeg) (.inl 1) ∧ (wX2_readNumber G rr (0) ((I12 ((I12 rr 2).toNatClampNeg) 0) - 1) (r13) I12 (fun r16 I15 => K2 r13 r16 I15))))) := by
  have hd := hw.2.2
  have n8 := oP.1.1
  have n0 := oP.1.2
  have lenE := oP.2.2.2.2.2.2
  have ok1 := (ok_Q.adv tx ok).1
  have ok2 := (ok_Q.adv tx ok1).1
  have oN1 := ok_N.adv tx m s
  have oN2 := ok_N.adv tx m (ab_adv tx m s)
  have cst : ∀ (L : pm_I) (t : aQ), t.2.2.2.2.2 = s.2.2.2.2.2 → cp_Q L rr d m tx t → (L rr 2).toNatClampNeg = d ∧ L d 0 = nI (ab_np s.2.2.2.2.2) := fun L t et hL => by
    have e2 : L rr 2 = nI d := hL.2.1
    have hP : cl_P L d t.2.2.2.2.2 := hL.2.2.2.2.2.2.2.2.2.2
    rw [et] at hP
    exact ⟨by rw [e2]; exact nI_clamp (by omega), hP.1.1.trans n0⟩
  refine cpQ_adv hw ok hJ (fun L hL fL => ?_)
  obtain ⟨c1, c2⟩ := cst L (ab_adv tx m s) rfl hL
  rw [c1, c2]
  refine ⟨hG, cp_rn (lo := 0) hw ok1 oN1 lenE hL (by decide) (hi_np _ n8) (fun e he M hM fM => ?_) (fun a ha M hM fM => ?_)⟩
  · have e2 : M rr 2 = nI d := hM.1
    rw [e2, nI_clamp (by omega)]
    exact ⟨hG, cpE_rn hw hM (fun N hN fN => hk1 e he N hN ((fL.tr fM).tr fN))⟩
  · obtain ⟨c1, c2⟩ := cst M (ab_adv tx m (ab_adv tx m s)) rfl hM
    rw [c1, c2]
    obtain ⟨k1, k2⟩ := hk2 a ha
    exact ⟨hG, cp_rn (lo := 0) hw ok2 oN2 lenE hM (by decide) (hi_np _ n8) (fun e he N hN fN => k1 e he N hN ((fL.tr fM).tr fN)) (fun b hb N hN fN => k2 b hb N hN ((fL.tr fM).tr fN))⟩
theorem ok_V_dr {t : aQ} {D : aP} (h1 : ok_Q m t) (h2 : ok_N t) (h3 : ok_P D) : ok_V m (ab_dr t D) := ⟨h1, h2, h3⟩
theorem ab_dr_1 (t : aQ) (D : aP) : (ab_dr t D).2.1 = t.2.1 := rfl
def wR_link (G : pm_G) (q0 : Nat) (I12 : pm_I) (K : Int32 → pm_I → Prop) : Prop := wX7_takesTwo G (q0) I12 (fun r45 I44 => (r45 = 0 → K 0 I44) ∧ (¬ r45 = 0 → (wX7_takes G (q0) (1) (99) I44 (fun r47 I46 => (¬ r47 = 0 → (vp_in ((64 + (8 * (I46 q0 20))) + (I46 q0 21)) 128 ∧ (∀ I48 : pm_I, I48 = pm_up I46 (q0 + 5) (((64 + (8 * (I46 q0 20))) + (I46 q0 21)).toNatClampNeg) (I46 (q0) 18) → (vp_in ((64 + (8 * (I48 q0 21))) + (I48 q0 20)) 128 ∧ (∀ I49 : pm_I, I49 = pm_up I48 (q0 + 5) (((64 + (8 * (I48 q0 21))) + (I48 q0 20)).toNatClampNeg) (I48 (q0) 18) → K 1 I49))))) ∧ (r47 = 0 → K 0 I46)))))
def wR_know (G : pm_G) (q0 : Nat) (I14 : pm_I) (K : Int32 → pm_I → Prop) : Prop := wX7_takesTwo G (q0) I14 (fun r41 I40 => (¬ r41 = 0 → (vp_in (8 + (I40 q0 20)) 16 ∧ (vp_in (8 + (I40 q0 20)) 16 ∧ (∀ I42 : pm_I, I42 = pm_up I40 (q0 + 6) ((8 + (I40 q0 20)).toNatClampNeg) ((I40 (q0 + 6) (8 + (I40 q0 20)).toNatClampNeg) ||| (1 <<< ((I40 q0 21) &&& 31))) → (vp_in (8 + (I42 q0 21)) 16 ∧ (vp_in (8 + (I42 q0 21)) 16 ∧ (∀ I43 : pm_I, I43 = pm_up I42 (q0 + 6) ((8 + (I42 q0 21)).toNatClampNeg) ((I42 (q0 + 6) (8 + (I42 q0 21)).toNatClampNeg) ||| (1 <<< ((I42 q0 20) &&& 31))) → K 1 I43))))))) ∧ (r41 = 0 → K 0 I40))
theorem st_know (hw : cp_w rr d m) (hb : ∀ k, k < m → ob_ib (tx k)) (hG : pm_k G d (.inl 1)) (ok : ok_V m s) : ∃ o, oS m s o ∧ cC rr d m tx (wX2_readKnows G rr) s o ∧ rD m q tx (wR_know Gr q) s o := by
  obtain ⟨okq, oN, oP⟩ := ok
  have hm := hw.1
  have hd := hw.2.2
  have n8 := oP.1.1
  have n0 := oP.1.2
  have q1 := okq.1
  have q2 := okq.2.1
  obtain ⟨ok1, a1⟩ := ok_Q.adv tx okq
  obtain ⟨ok2, a2⟩ := ok_Q.adv tx ok1
  obtain ⟨ok3, a3⟩ := ok_Q.adv tx ok2
  have oN1 := ok_N.adv tx m s
  have oN2 := ok_N.adv tx m (ab_adv tx m s)
  have oN3 := ok_N.adv tx m (ab_adv tx m (ab_adv tx m s))
  have fin : ∀ {e : aE} {N : pm_I} {K : pm_I → Prop} {X : Prop}, cp_E N rr d e → K N → (¬ (N rr 8) = 0 → K N) ∧ ((N rr 8) = 0 → X) := fun hN hk => ⟨fun _ => hk, fun z => absurd (hN.2.2.1.symm.trans z) hN.2.2.2.2.2⟩
  have C0 : ∀ (J : pm_I) (K : pm_I → Prop), (wX2_advance G rr J (fun I10 => pm_k G ((I10 rr 2).toNatClampNeg) (.inl 1) ∧ (wX2_readNumber G rr (0) ((I10 ((I10 rr 2).toNatClampNeg) 0) - 1) (-1) I10 (fun r13 I12 => pm_k G ((I12 rr 2).toNatClampNeg) (.inl 1) ∧ (wX2_readNumber G rr (0) ((I12 ((I12 rr 2).toNatClampNeg) 0) - 1) (r13) I12 (fun r16 I15 => (fun r13 r16 I15 => (¬ (I15 rr 8) = 0 → K I15) ∧ ((I15 rr 8) = 0 → (pm_k G ((I15 rr 2).toNatClampNeg) (.inl 1) ∧ (wX1_addAcquaintance G ((I15 rr 2).toNatClampNeg) (r13) (r16) I15 (fun I18 => K I18))))) r13 r16 I15)))))) → wX2_readKnows G rr J K := fun J K h => h
  cases h1 : ab_nu (ab_np s.2.2.2.2.2) 0 (-1) (ab_adv tx m s) with
  | inl e =>
    refine ⟨.inl e, oS_n ok1 h1, fun J K hJ hk => ?_, fun J K hJ hk => ?_⟩
    · refine C0 J K ?_
      exact cp_two hw hG okq oP hJ (fun e' he L hL fL => by rw [h1] at he; cases he; exact fin hL (hk L hL fL)) (fun a ha => by rw [h1] at ha; cases ha)
    · unfold wR_know
      exact rp_two hm hb okq hJ n8 n0 (fun e' he L hL fL => by rw [h1] at he; cases he; exact ⟨fun z => absurd rfl z, fun _ => hk L hL fL⟩) (fun a ha => by rw [h1] at ha; cases ha)
  | inr a =>
    have ra := ab_nu_r oN1 h1
    cases h2 : ab_nu (ab_np s.2.2.2.2.2) 0 (nI a) (ab_adv tx m (ab_adv tx m s)) with
    | inl e =>
      refine ⟨.inl e, oS_n ok2 h2, fun J K hJ hk => ?_, fun J K hJ hk => ?_⟩
      · refine C0 J K ?_
        refine cp_two hw hG okq oP hJ (fun e' he => by rw [h1] at he; cases he) (fun a' ha => ?_)
        rw [h1] at ha; cases ha
        exact ⟨fun e' he L hL fL => (by rw [h2] at he; cases he; exact fin hL (hk L hL fL)), fun b hb' => (by rw [h2] at hb'; cases hb')⟩
      · unfold wR_know
        refine rp_two hm hb okq hJ n8 n0 (fun e' he => by rw [h1] at he; cases he) (fun a' ha => ?_)
        rw [h1] at ha; cases ha
        exact ⟨fun e' he L hL fL => (by rw [h2] at he; cases he; exact ⟨fun z => absurd rfl z, fun _ => hk L hL fL⟩), fun b hb' => (by rw [h2] at hb'; cases hb')⟩
    | inr b =>
      have rb := ab_nu_r oN2 h2
      refine ⟨.inr (ab_dr (ab_adv tx m (ab_adv tx m (ab_adv tx m s))) (dr_know s.2.2.2.2.2 a b)), oS_s (ok_V_dr ok3 oN3 (ok_know oP ra.2.1 rb.2.1)) (by rw [ab_dr_1]; have := ok1.1; have := ok2.1; omega), fun J K hJ hk => ?_, fun J K hJ hk => ?_⟩
      · refine C0 J K ?_
        refine cp_two hw hG okq oP hJ (fun e' he => by rw [h1] at he; cases he) (fun a' ha => ?_)
        rw [h1] at ha; cases ha
        refine ⟨fun e' he => (by rw [h2] at he; cases he), fun b' hb' N hN fN => ?_⟩
        rw [h2] at hb'; cases hb'
        have e8 : N rr 8 = 0 := hN.2.2.2.2.2.2.2.1
        have e2 : N rr 2 = nI d := hN.2.1
        rw [e8, e2, nI_clamp (by omega)]
        exact ⟨fun z => absurd rfl z, fun _ => ⟨hG, cp_know hw hN (by omega) (by omega) (fun O hO fO => hk O hO (fN.tr fO))⟩⟩
      · unfold wR_know
        refine rp_two hm hb okq hJ n8 n0 (fun e' he => by rw [h1] at he; cases he) (fun a' ha => ?_)
        rw [h1] at ha; cases ha
        refine ⟨fun e' he => (by rw [h2] at he; cases he), fun b' hb' N hN fN e20 e21 => ⟨fun _ => ?_, fun z => absurd z (by decide)⟩⟩
        rw [h2] at hb'; cases hb'
        have ia : (8 : Int32) + nI a = nI (8 + a) := nI_add 8 a
        have ib : (8 : Int32) + nI b = nI (8 + b) := nI_add 8 b
        rw [e20, e21, ia, nI_clamp (by omega)]
        refine ⟨vp_in_nI (by omega) (by decide), vp_in_nI (by omega) (by decide), fun M qM => ?_⟩
        have m20 : M q 20 = nI a := by rw [qM, ob_ur (by omega)]; exact e20
        have m21 : M q 21 = nI b := by rw [qM, ob_ur (by omega)]; exact e21
        rw [m20, m21, ib, nI_clamp (by omega)]
        refine ⟨vp_in_nI (by omega) (by decide), vp_in_nI (by omega) (by decide), fun O qO => ?_⟩
        rw [qM] at qO
        refine hk O ?_ ?_
        · rw [qO]; exact rpQ_know (by omega) (by omega) hN rfl rfl
        · rw [qO]; exact (fN.w (Or.inr (Or.inr (Or.inr (Or.inr (Or.inl ⟨rfl, by omega⟩)))))).w (Or.inr (Or.inr (Or.inr (Or.inr (Or.inl ⟨rfl, by omega⟩)))))
theorem st_link (hw : cp_w rr d m) (hb : ∀ k, k < m → ob_ib (tx k)) (hG : pm_k G d (.inl 1)) (ok : ok_V m s) : ∃ o, oS m s o ∧ cC rr d m tx (wX2_readLink G rr) s o ∧ rD m q tx (wR_link Gr q) s o := by
  obtain ⟨okq, oN, oP⟩ := ok
  have hm := hw.1
  have hd := hw.2.2
  have n8 := oP.1.1
  have n0 := oP.1.2
  have lenE := oP.2.2.2.2.2.2
  have q1 := okq.1
  have q2 := okq.2.1
  obtain ⟨ok1, a1⟩ := ok_Q.adv tx okq
  obtain ⟨ok2, a2⟩ := ok_Q.adv tx ok1
  obtain ⟨ok3, a3⟩ := ok_Q.adv tx ok2
  obtain ⟨ok4, a4⟩ := ok_Q.adv tx ok3
  have oN1 := ok_N.adv tx m s
  have oN2 := ok_N.adv tx m (ab_adv tx m s)
  have oN3 := ok_N.adv tx m (ab_adv tx m (ab_adv tx m s))
  have oN4 := ok_N.adv tx m (ab_adv tx m (ab_adv tx m (ab_adv tx m s)))
  have fin : ∀ {e : aE} {N : pm_I} {K : pm_I → Prop} {X : Prop}, cp_E N rr d e → K N → (¬ (N rr 8) = 0 → K N) ∧ ((N rr 8) = 0 → X) := fun hN hk => ⟨fun _ => hk, fun z => absurd (hN.2.2.1.symm.trans z) hN.2.2.2.2.2⟩
  have C0 : ∀ (J : pm_I) (K : pm_I → Prop), (wX2_advance G rr J (fun I10 => pm_k G ((I10 rr 2).toNatClampNeg) (.inl 1) ∧ (wX2_readNumber G rr (0) ((I10 ((I10 rr 2).toNatClampNeg) 0) - 1) (-1) I10 (fun r13 I12 => pm_k G ((I12 rr 2).toNatClampNeg) (.inl 1) ∧ (wX2_readNumber G rr (0) ((I12 ((I12 rr 2).toNatClampNeg) 0) - 1) (r13) I12 (fun r16 I15 => (fun r13 r16 I15 => wX2_readNumber G rr (1) (99) (-1) I15 (fun r18 I17 => (¬ (I17 rr 8) = 0 → K I17) ∧ ((I17 rr 8) = 0 → (pm_k G ((I17 rr 2).toNatClampNeg) (.inl 1) ∧ (wX1_addLink G ((I17 rr 2).toNatClampNeg) (r13) (r16) (r18) I17 (fun I20 => K I20)))))) r13 r16 I15)))))) → wX2_readLink G rr J K := fun J K h => h
  cases h1 : ab_nu (ab_np s.2.2.2.2.2) 0 (-1) (ab_adv tx m s) with
  | inl e =>
    refine ⟨.inl e, oS_n ok1 h1, fun J K hJ hk => C0 J K ?_, fun J K hJ hk => ?_⟩
    · exact cp_two hw hG okq oP hJ (fun e' he L hL fL => by rw [h1] at he; cases he; exact cpE_rn hw hL (fun N hN fN => fin hN (hk N hN (fL.tr fN)))) (fun a ha => by rw [h1] at ha; cases ha)
    · unfold wR_link
      exact rp_two hm hb okq hJ n8 n0 (fun e' he L hL fL => by rw [h1] at he; cases he; exact ⟨fun _ => hk L hL fL, fun z => absurd rfl z⟩) (fun a ha => by rw [h1] at ha; cases ha)
  | inr a =>
    have ra := ab_nu_r oN1 h1
    cases h2 : ab_nu (ab_np s.2.2.2.2.2) 0 (nI a) (ab_adv tx m (ab_adv tx m s)) with
    | inl e =>
      refine ⟨.inl e, oS_n ok2 h2, fun J K hJ hk => C0 J K ?_, fun J K hJ hk => ?_⟩
      · refine cp_two hw hG okq oP hJ (fun e' he => by rw [h1] at he; cases he) (fun a' ha => ?_)
        rw [h1] at ha; cases ha
        exact ⟨fun e' he L hL fL => (by rw [h2] at he; cases he; exact cpE_rn hw hL (fun N hN fN => fin hN (hk N hN (fL.tr fN)))), fun b hb' => (by rw [h2] at hb'; cases hb')⟩
      · unfold wR_link
        refine rp_two hm hb okq hJ n8 n0 (fun e' he => by rw [h1] at he; cases he) (fun a' ha => ?_)
        rw [h1] at ha; cases ha
        exact ⟨fun e' he L hL fL => (by rw [h2] at he; cases he; exact ⟨fun _ => hk L hL fL, fun z => absurd rfl z⟩), fun b hb' => (by rw [h2] at hb'; cases hb')⟩
    | inr b =>
      have rb := ab_nu_r oN2 h2
      have C1 : ∀ (J : pm_I) (K : pm_I → Prop), cp_Q J rr d m tx s → (∀ N, cp_Q N rr d m tx (ab_adv tx m (ab_adv tx m (ab_adv tx m s))) → ob_fr (cp_f rr d) J N → wX2_readNumber G rr (1) (99) (-1) N (fun r18 I17 => (¬ (I17 rr 8) = 0 → K I17) ∧ ((I17 rr 8) = 0 → (pm_k G ((I17 rr 2).toNatClampNeg) (.inl 1) ∧ (wX1_addLink G ((I17 rr 2).toNatClampNeg) (nI a) (nI b) (r18) I17 (fun I20 => K I20)))))) → wX2_readLink G rr J K := fun J K hJ h => by
        refine C0 J K (cp_two hw hG okq oP hJ (fun e' he => by rw [h1] at he; cases he) (fun a' ha => ?_))
        rw [h1] at ha; cases ha
        refine ⟨fun e' he => (by rw [h2] at he; cases he), fun b' hb' N hN fN => ?_⟩
        rw [h2] at hb'; cases hb'
        exact h N hN fN
      have R1 : ∀ (J : pm_I) (K : Int32 → pm_I → Prop), rp_Q J q m tx s → (∀ N, rp_Q N q m tx (ab_adv tx m (ab_adv tx m (ab_adv tx m s))) → rp_fr q J N → N q 20 = nI a → N q 21 = nI b → wX7_takes Gr q (1) (99) N (fun r47 I46 => (¬ r47 = 0 → (vp_in ((64 + (8 * (I46 q 20))) + (I46 q 21)) 128 ∧ (∀ I48 : pm_I, I48 = pm_up I46 (q + 5) (((64 + (8 * (I46 q 20))) + (I46 q 21)).toNatClampNeg) (I46 q 18) → (vp_in ((64 + (8 * (I48 q 21))) + (I48 q 20)) 128 ∧ (∀ I49 : pm_I, I49 = pm_up I48 (q + 5) (((64 + (8 * (I48 q 21))) + (I48 q 20)).toNatClampNeg) (I48 q 18) → K 1 I49))))) ∧ (r47 = 0 → K 0 I46))) → wR_link Gr q J K := fun J K hJ h => by
        unfold wR_link
        refine rp_two hm hb okq hJ n8 n0 (fun e' he => by rw [h1] at he; cases he) (fun a' ha => ?_)
        rw [h1] at ha; cases ha
        refine ⟨fun e' he => (by rw [h2] at he; cases he), fun b' hb' N hN fN e20 e21 => ⟨fun z => absurd z (by decide), fun _ => ?_⟩⟩
        rw [h2] at hb'; cases hb'
        exact h N hN fN e20 e21
      cases h3 : ab_nu 100 1 (-1) (ab_adv tx m (ab_adv tx m (ab_adv tx m s))) with
      | inl e =>
        refine ⟨.inl e, oS_n ok3 h3, fun J K hJ hk => C1 J K hJ (fun N hN fN => ?_), fun J K hJ hk => R1 J K hJ (fun N hN fN e20 e21 => ?_)⟩
        · exact cp_rn (lo := 1) (n := 100) hw ok3 oN3 lenE hN (by decide) (hi_n 99 (by decide)) (fun e' he O hO fO => by rw [h3] at he; cases he; exact fin hO (hk O hO (fN.tr fO))) (fun v hv => by rw [h3] at hv; cases hv)
        · exact rp_takes (lo := 1) (n := 100) hm hb ok3 oN3 hN (by decide) (hi_n 99 (by decide)) (fun e' he O hO fO => by rw [h3] at he; cases he; exact ⟨fun z => absurd rfl z, fun _ => hk O hO (fN.tr fO)⟩) (fun v hv => by rw [h3] at hv; cases hv)
      | inr c =>
        have rc := ab_nu_r oN3 h3
        have hab : a ≠ b := fun e => rb.2.2.2.1 (by rw [e])
        refine ⟨.inr (ab_dr (ab_adv tx m (ab_adv tx m (ab_adv tx m (ab_adv tx m s)))) (dr_link s.2.2.2.2.2 a b c)), oS_s (ok_V_dr ok4 oN4 (ok_link oP (by omega) (by omega) hab (by omega))) (by rw [ab_dr_1]; have := ok1.1; have := ok2.1; have := ok3.1; omega), fun J K hJ hk => C1 J K hJ (fun N hN fN => ?_), fun J K hJ hk => R1 J K hJ (fun N hN fN e20 e21 => ?_)⟩
        · refine cp_rn (lo := 1) (n := 100) hw ok3 oN3 lenE hN (by decide) (hi_n 99 (by decide)) (fun e' he => by rw [h3] at he; cases he) (fun v hv O hO fO => ?_)
          rw [h3] at hv; cases hv
          have e8 : O rr 8 = 0 := hO.2.2.2.2.2.2.2.1
          have e2 : O rr 2 = nI d := hO.2.1
          rw [e8, e2, nI_clamp (by omega)]
          exact ⟨fun z => absurd rfl z, fun _ => ⟨hG, cp_link hw hO (by omega) (by omega) (fun U hU fU => hk U hU ((fN.tr fO).tr fU))⟩⟩
        · refine rp_takes (lo := 1) (n := 100) hm hb ok3 oN3 hN (by decide) (hi_n 99 (by decide)) (fun e' he => by rw [h3] at he; cases he) (fun v hv O hO fO e18 => ⟨fun _ => ?_, fun z => absurd z (by decide)⟩)
          rw [h3] at hv; cases hv
          have o20 : O q 20 = nI a := (fO.2 20 (by omega)).trans e20
          have o21 : O q 21 = nI b := (fO.2 21 (by omega)).trans e21
          have ia : (64 : Int32) + 8 * nI a + nI b = nI (64 + (8 * a + b)) := by rw [show (8 : Int32) = nI 8 from rfl, pk_mul, show (64 : Int32) = nI 64 from rfl, nI_add, nI_add, Nat.add_assoc]
          have ib : (64 : Int32) + 8 * nI b + nI a = nI (64 + (8 * b + a)) := by rw [show (8 : Int32) = nI 8 from rfl, pk_mul, show (64 : Int32) = nI 64 from rfl, nI_add, nI_add, Nat.add_assoc]
          rw [o20, o21, e18, ia, nI_clamp (by omega)]
          refine ⟨vp_in_nI (by omega) (by decide), fun M qM => ?_⟩
          have m20 : M q 20 = nI a := by rw [qM, ob_ur (by omega)]; exact o20
          have m21 : M q 21 = nI b := by rw [qM, ob_ur (by omega)]; exact o21
          have m18 : M q 18 = nI c := by rw [qM, ob_ur (by omega)]; exact e18
          rw [m20, m21, m18, ib, nI_clamp (by omega)]
          refine ⟨vp_in_nI (by omega) (by decide), fun U qU => ?_⟩
          rw [qM] at qU
          refine hk U ?_ ?_
          · rw [qU]; exact rpQ_link hO
          · rw [qU]; exact ((fN.tr fO.fr).w (Or.inr (Or.inr (Or.inr (Or.inl ⟨rfl, by omega⟩))))).w (Or.inr (Or.inr (Or.inr (Or.inl ⟨rfl, by omega⟩))))
end SK
