/-! ===== THE PARSER: statements (4): peer, link, knows ===== -/
def ok_V (m : Nat) (s : aQ) : Prop := ok_Q m s ∧ ok_N s ∧ ok_P s.2.2.2.2.2
def rH (m q : Nat) (tx : Nat → Int32) : aO → pm_I → (Int32 → pm_I → Prop) → Prop
  | .inl e, J, K => ∀ L, rp_E L q e → rp_fr q J L → K 0 L
  | .inr s, J, K => ∀ L, rp_Q L q m tx s → rp_fr q J L → K 1 L
def rD (m q : Nat) (tx : Nat → Int32) (R : pm_I → (Int32 → pm_I → Prop) → Prop) (s : aQ) (o : aO) : Prop := ∀ (J : pm_I) (K : Int32 → pm_I → Prop), rp_Q J q m tx s → rH m q tx o J K → R J K
def oS (m : Nat) (s : aQ) (o : aO) : Prop := (∀ e, o = .inl e → ¬ e.1 = 0 ∧ e.2 ≤ m) ∧ ∀ s', o = .inr s' → ok_V m s' ∧ s.2.1 ≤ s'.2.1
theorem oS_e {m p : Nat} {s : aQ} {x : Int32} (hx : ¬ x = 0) (hp : p ≤ m) : oS m s (.inl (x, p)) := ⟨fun e he => (by cases he; exact ⟨hx, hp⟩), fun s' hs' => (by cases hs')⟩
theorem oS_n {m n lo : Nat} {s t : aQ} {x3 : Int32} {e : aE} (ok : ok_Q m t) (h : ab_nu n lo x3 t = .inl e) : oS m s (.inl e) := ⟨fun e' he => (by cases he; obtain ⟨a, b⟩ := ab_nu_e h; exact ⟨a, by rw [b]; have := ok.1; have := ok.2.1; omega⟩), fun s' hs' => (by cases hs')⟩
theorem oS_s {m : Nat} {s t : aQ} (h : ok_V m t) (h2 : s.2.1 ≤ t.2.1) : oS m s (.inr t) := ⟨fun e he => (by cases he), fun s' hs' => (by cases hs'; exact ⟨h, h2⟩)⟩
section SJ
variable {G Gr : pm_G} {rr d m q : Nat} {tx : Nat → Int32} {s : aQ}
theorem cpE_up {J : pm_I} {e : aE} {j : Nat} {v : Int32} (hw : cp_w rr d m) (h : cp_E J rr d e) : cp_E (pm_up J d j v) rr d e := by
  obtain ⟨_, hrr, hd⟩ := hw
  obtain ⟨e2, e5, e8, e9, ⟨c, hc, ec⟩, hne⟩ := h
  have a : pm_up J d j v rr = J rr := ob_ur (by omega)
  exact ⟨by rw [a]; exact e2, by rw [a]; exact e5, by rw [a]; exact e8, by rw [a]; exact e9, ⟨c, hc, by rw [ob_ur (by omega)]; exact ec⟩, hne⟩
theorem st_peer (hw : cp_w rr d m) (hb : ∀ k, k < m → ob_ib (tx k)) (hG : pm_k G d (.inl 1)) (ok : ok_V m s) : ∃ o, oS m s o ∧ cC rr d m tx (wX2_readPeer G rr) s o ∧ rD m q tx (wX7_peerLine Gr q) s o := by
  obtain ⟨okq, oN, oP⟩ := ok
  have hm := hw.1
  have hd := hw.2.2
  have n8 := oP.1.1
  have n0 := oP.1.2
  have lenE := oP.2.2.2.2.2.2
  have q1 := okq.1
  have q2 := okq.2.1
  have cst : ∀ (J : pm_I), cp_Q J rr d m tx s → (J rr 2).toNatClampNeg = d ∧ J d 0 = nI (ab_np s.2.2.2.2.2) := fun J hJ => by
    have e2 : J rr 2 = nI d := hJ.2.1
    exact ⟨by rw [e2]; exact nI_clamp (by omega), (show cl_P J d s.2.2.2.2.2 from hJ.2.2.2.2.2.2.2.2.2.2).1.1.trans n0⟩
  have rst : ∀ (J : pm_I), rp_Q J q m tx s → J (q + 2) (4 : Int32).toNatClampNeg = nI (ab_np s.2.2.2.2.2) := fun J hJ => by
    rw [show (4 : Int32).toNatClampNeg = 4 from by decide]
    exact (show rp_D J q s.2.2.2.2.2 from hJ.2.2.2.2.2.2.2.2).1.1.trans n0
  by_cases hn : ab_np s.2.2.2.2.2 < 8
  · obtain ⟨ok1, a1⟩ := ok_Q.adv tx okq
    obtain ⟨ok2, a2⟩ := ok_Q.adv tx ok1
    obtain ⟨ok3, a3⟩ := ok_Q.adv tx ok2
    have oN1 := ok_N.adv tx m s
    have oN2 := ok_N.adv tx m (ab_adv tx m s)
    have oN3 := ok_N.adv tx m (ab_adv tx m (ab_adv tx m s))
    -- the class, up to the two numbers
    have C0 : ∀ (J : pm_I) (K : pm_I → Prop), cp_Q J rr d m tx s → (∀ L, cp_Q L rr d m tx (ab_adv tx m s) → ob_fr (cp_f rr d) J L → wX2_readNumber G rr (0) (9) (-1) L (fun r13 I12 => wX2_readNumber G rr (0) (9) (-1) I12 (fun r15 I14 => (¬ (I14 rr 8) = 0 → K I14) ∧ ((I14 rr 8) = 0 → (pm_k G ((I14 rr 2).toNatClampNeg) (.inl 1) ∧ (wX1_addPeer G ((I14 rr 2).toNatClampNeg) (r13) (r15) I14 (fun I17 => K I17))))))) → wX2_readPeer G rr J K := fun J K hJ hk => by
      obtain ⟨c1, c2⟩ := cst J hJ
      unfold wX2_readPeer
      rw [c1, c2]
      exact ⟨hG, fun _ => cpQ_adv hw okq hJ hk, fun z => absurd ((nI_ltI (a := ab_np s.2.2.2.2.2) (b := 8) (by omega) (by decide)).mpr hn) z⟩
    have R0 : ∀ (J : pm_I) (K : Int32 → pm_I → Prop), rp_Q J q m tx s → (∀ L, rp_Q L q m tx (ab_adv tx m s) → rp_fr q J L → wX7_takes Gr q (0) (9) L (fun r22 I21 => (¬ r22 = 0 → (vp_in (8 + nI (ab_np s.2.2.2.2.2)) 16 ∧ (∀ I23 : pm_I, I23 = pm_up I21 (q + 3) ((8 + nI (ab_np s.2.2.2.2.2)).toNatClampNeg) (I21 q 18) → (wX7_takes Gr q (0) (9) I23 (fun r25 I24 => (¬ r25 = 0 → (vp_in (8 + nI (ab_np s.2.2.2.2.2)) 16 ∧ (∀ I26 : pm_I, I26 = pm_up I24 (q + 4) ((8 + nI (ab_np s.2.2.2.2.2)).toNatClampNeg) (I24 q 18) → ((∀ I27 : pm_I, I27 = pm_up I26 (q + 2) ((4 : Int32).toNatClampNeg) ((I26 (q + 2) (4 : Int32).toNatClampNeg) + 1) → K 1 I27))))) ∧ (r25 = 0 → K 0 I24)))))) ∧ (r22 = 0 → K 0 I21))) → wX7_peerLine Gr q J K := fun J K hJ hk => by
      unfold wX7_peerLine
      rw [rst J hJ]
      refine ⟨fun z => absurd z (nI_ge (a := ab_np s.2.2.2.2.2) (b := 8) hn (by decide)), fun _ => ?_⟩
      unfold wX7_starts
      exact ⟨fun _ => rpQ_adv hm hb okq hJ (fun L hL fL => ⟨fun z => absurd z (by decide), fun _ => hk L hL fL.fr⟩), fun z => absurd z (by decide)⟩
    have ix : (8 : Int32) + nI (ab_np s.2.2.2.2.2) = nI (8 + ab_np s.2.2.2.2.2) := nI_add 8 _
    have ic : ((8 : Int32) + nI (ab_np s.2.2.2.2.2)).toNatClampNeg = 8 + ab_np s.2.2.2.2.2 := by rw [ix]; exact nI_clamp (by omega)
    cases h1 : ab_nu 10 0 (-1) (ab_adv tx m s) with
    | inl e =>
      refine ⟨.inl e, oS_n ok1 h1, fun J K hJ hk => C0 J K hJ (fun L hL fL => ?_), fun J K hJ hk => R0 J K hJ (fun L hL fL => ?_)⟩
      · refine cp_rn (lo := 0) (n := 10) hw ok1 oN1 lenE hL (by decide) (hi_n 9 (by decide)) (fun e' he M hM fM => ?_) (fun v hv => by rw [h1] at hv; cases hv)
        rw [h1] at he; cases he
        refine cpE_rn hw hM (fun N hN fN => ⟨fun _ => hk N hN ((fL.tr fM).tr fN), fun z => absurd (hN.2.2.1.symm.trans z) hN.2.2.2.2.2⟩)
      · refine rp_takes (lo := 0) (n := 10) hm hb ok1 oN1 hL (by decide) (hi_n 9 (by decide)) (fun e' he M hM fM => ?_) (fun v hv => by rw [h1] at hv; cases hv)
        rw [h1] at he; cases he
        exact ⟨fun z => absurd rfl z, fun _ => hk M hM (fL.tr fM)⟩
    | inr v =>
      have rv := ab_nu_r oN1 h1
      cases h2 : ab_nu 10 0 (-1) (ab_adv tx m (ab_adv tx m s)) with
      | inl e =>
        refine ⟨.inl e, oS_n ok2 h2, fun J K hJ hk => C0 J K hJ (fun L hL fL => ?_), fun J K hJ hk => R0 J K hJ (fun L hL fL => ?_)⟩
        · refine cp_rn (lo := 0) (n := 10) hw ok1 oN1 lenE hL (by decide) (hi_n 9 (by decide)) (fun e' he => by rw [h1] at he; cases he) (fun v' hv M hM fM => ?_)
          refine cp_rn (lo := 0) (n := 10) hw ok2 oN2 lenE hM (by decide) (hi_n 9 (by decide)) (fun e' he N hN fN => ?_) (fun v' hv => by rw [h2] at hv; cases hv)
          rw [h2] at he; cases he
          exact ⟨fun _ => hk N hN ((fL.tr fM).tr fN), fun z => absurd (hN.2.2.1.symm.trans z) hN.2.2.2.2.2⟩
        · refine rp_takes (lo := 0) (n := 10) hm hb ok1 oN1 hL (by decide) (hi_n 9 (by decide)) (fun e' he => by rw [h1] at he; cases he) (fun v' hv M hM fM e18 => ⟨fun _ => ⟨by rw [ix]; exact vp_in_nI (by omega) (by decide), fun N qN => ?_⟩, fun z => absurd z (by decide)⟩)
          rw [ic] at qN
          have hN : rp_Q N q m tx (ab_adv tx m (ab_adv tx m s)) := by rw [qN]; exact rp_row3 hM
          have fN : rp_fr q J N := by rw [qN]; exact (fL.tr fM.fr).w (Or.inr (Or.inl ⟨rfl, by omega⟩))
          refine rp_takes (lo := 0) (n := 10) hm hb ok2 oN2 hN (by decide) (hi_n 9 (by decide)) (fun e' he O hO fO => ?_) (fun v' hv => by rw [h2] at hv; cases hv)
          rw [h2] at he; cases he
          exact ⟨fun z => absurd rfl z, fun _ => hk O hO (fN.tr fO)⟩
      | inr w =>
        have rw' := ab_nu_r oN2 h2
        refine ⟨.inr (ab_dr (ab_adv tx m (ab_adv tx m (ab_adv tx m s))) (dr_peer s.2.2.2.2.2 v w)), oS_s ⟨ok3, oN3, ok_peer oP hn⟩ (show s.2.1 ≤ (ab_adv tx m (ab_adv tx m (ab_adv tx m s))).2.1 by have := ok1.1; have := ok2.1; omega), fun J K hJ hk => C0 J K hJ (fun L hL fL => ?_), fun J K hJ hk => R0 J K hJ (fun L hL fL => ?_)⟩
        · refine cp_rn (lo := 0) (n := 10) hw ok1 oN1 lenE hL (by decide) (hi_n 9 (by decide)) (fun e' he => by rw [h1] at he; cases he) (fun v' hv M hM fM => ?_)
          rw [h1] at hv; cases hv
          refine cp_rn (lo := 0) (n := 10) hw ok2 oN2 lenE hM (by decide) (hi_n 9 (by decide)) (fun e' he => by rw [h2] at he; cases he) (fun v' hv N hN fN => ?_)
          rw [h2] at hv; cases hv
          have e8 : N rr 8 = 0 := hN.2.2.2.2.2.2.2.1
          have e2 : N rr 2 = nI d := hN.2.1
          rw [e8, e2, nI_clamp (by omega)]
          exact ⟨fun z => absurd rfl z, fun _ => ⟨hG, cp_peer hw hN hn n0 (fun O hO fO => hk O hO (((fL.tr fM).tr fN).tr fO))⟩⟩
        · refine rp_takes (lo := 0) (n := 10) hm hb ok1 oN1 hL (by decide) (hi_n 9 (by decide)) (fun e' he => by rw [h1] at he; cases he) (fun v' hv M hM fM e18 => ⟨fun _ => ⟨by rw [ix]; exact vp_in_nI (by omega) (by decide), fun N qN => ?_⟩, fun z => absurd z (by decide)⟩)
          rw [h1] at hv; cases hv
          rw [ic, e18] at qN
          have hN : rp_Q N q m tx (ab_adv tx m (ab_adv tx m s)) := by rw [qN]; exact rp_row3 hM
          have fN : rp_fr q J N := by rw [qN]; exact (fL.tr fM.fr).w (Or.inr (Or.inl ⟨rfl, by omega⟩))
          have n3 : N (q + 3) (8 + ab_np s.2.2.2.2.2) = nI v := by rw [qN, ob_us]
          refine rp_takes (lo := 0) (n := 10) hm hb ok2 oN2 hN (by decide) (hi_n 9 (by decide)) (fun e' he => by rw [h2] at he; cases he) (fun v' hv O hO fO e18' => ⟨fun _ => ⟨by rw [ix]; exact vp_in_nI (by omega) (by decide), fun S qS T qT => ?_⟩, fun z => absurd z (by decide)⟩)
          rw [h2] at hv; cases hv
          rw [ic, e18'] at qS
          have o4 : S (q + 2) (4 : Int32).toNatClampNeg = nI (ab_np s.2.2.2.2.2) := by
            rw [show (4 : Int32).toNatClampNeg = 4 from by decide, qS, ob_ur (by omega)]
            exact (show rp_D O q s.2.2.2.2.2 from hO.2.2.2.2.2.2.2.2).1.1.trans n0
          rw [o4, nI_1, show (4 : Int32).toNatClampNeg = 4 from by decide, qS] at qT
          have o3 : O (q + 3) (8 + ab_np s.2.2.2.2.2) = nI v := by rw [fO.1 (q + 3) (by omega)]; exact n3
          refine hk T ?_ ?_
          · rw [qT]; exact rpQ_peer hO hn o3
          · rw [qT]; exact ((fN.tr fO.fr).w (Or.inr (Or.inr (Or.inl ⟨rfl, by omega⟩)))).w (Or.inl ⟨rfl, by omega⟩)
  · refine ⟨.inl (4, s.2.1), oS_e (by decide) (by omega), fun J K hJ hk => ?_, fun J K hJ hk => ?_⟩
    · obtain ⟨c1, c2⟩ := cst J hJ
      unfold wX2_readPeer
      rw [c1, c2]
      exact ⟨hG, fun z => absurd ((nI_ltI (a := ab_np s.2.2.2.2.2) (b := 8) (by omega) (by decide)).mp z) hn, fun _ => cpQ_fail hw hJ lenE (by decide) hk⟩
    · unfold wX7_peerLine
      rw [rst J hJ]
      refine ⟨fun _ => ?_, fun z => absurd (nI_le (a := 8) (b := ab_np s.2.2.2.2.2) (by omega) (by omega)) z⟩
      unfold wX7_starts
      exact ⟨fun z => absurd rfl z, fun _ => rpQ_fail hJ (fun L hL fL => ⟨Or.inl rfl, fun _ => hk L hL fL, fun z => absurd rfl z⟩)⟩
end SJ
