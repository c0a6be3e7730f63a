/-! ===== THE PARSER: the whole text ===== -/
def ov_c (G : pm_G) (q0 : Nat) (K : Int32 → pm_I → Prop) (P13 : Int32 → pm_I → Prop) (x15 : Int32) (I14 : pm_I) : Prop := (600 ≤ x15 → (K (I14 (q0) 8) I14)) ∧ (¬ 600 ≤ x15 → (((I14 q0 5) = 0 → (K (I14 (q0) 8) I14)) ∧ (¬ (I14 q0 5) = 0 → (wX2_readStatement G (q0) I14 (fun I16 => wX2_require G (q0) (59) I16 (fun I17 => wX2_advance G (q0) I17 (fun I18 => P13 (x15 + 1) I18)))))))
def ov_r (G : pm_G) (q0 : Nat) (KL : pm_I → Prop) (KE : Int32 → pm_I → Prop) (P23 : Int32 → pm_I → Prop) (x25 : Int32) (I24 : pm_I) : Prop := (x25 = 0 → ((¬ x25 = 0 → KL I24) ∧ (x25 = 0 → (KE (I24 (q0) 16) I24)))) ∧ (¬ x25 = 0 → (((I24 q0 14) = 0 → ((¬ x25 = 0 → KL I24) ∧ (x25 = 0 → (KE (I24 (q0) 16) I24)))) ∧ (¬ (I24 q0 14) = 0 → (wX7_statement G (q0) I24 (fun r31 I30 => (r31 = 0 → (P23 (0) I30)) ∧ (¬ r31 = 0 → (wX7_closes G (q0) (59) I30 (fun r33 I32 => (r33 = 0 → (P23 (0) I32)) ∧ (¬ r33 = 0 → (P23 (1) I32))))))))))
section OV
variable {G Gr : pm_G} {rr d m q : Nat} {tx : Nat → Int32}
def ov_C (rr d m : Nat) (tx : Nat → Int32) : aO → pm_I → (Int32 → pm_I → Prop) → Prop
  | .inl e, J, K => ∀ L, cp_E L rr d e → ob_fr (cp_f rr d) J L → K e.1 L
  | .inr s, J, K => ∀ L, cp_Q L rr d m tx s → ob_fr (cp_f rr d) J L → K 0 L
def ov_R (m q : Nat) (tx : Nat → Int32) : aO → pm_I → (pm_I → Prop) → (Int32 → pm_I → Prop) → Prop
  | .inl e, J, _, KE => ∀ L, rp_E L q e → rp_fr q J L → KE e.1 L
  | .inr s, J, KL, _ => ∀ L, rp_Q L q m tx s → rp_fr q J L → KL L
theorem ov_C.wd {o : aO} {J L : pm_I} {K : Int32 → pm_I → Prop} (f : ob_fr (cp_f rr d) J L) (h : ov_C rr d m tx o J K) : ov_C rr d m tx o L K := by
  cases o with
  | inl e => exact fun M h1 h2 => h M h1 (f.tr h2)
  | inr s => exact fun M h1 h2 => h M h1 (f.tr h2)
theorem ov_R.wd {o : aO} {J L : pm_I} {KL : pm_I → Prop} {KE : Int32 → pm_I → Prop} (f : rp_fr q J L) (h : ov_R m q tx o J KL KE) : ov_R m q tx o L KL KE := by
  cases o with
  | inl e => exact fun M h1 h2 => h M h1 (f.tr h2)
  | inr s => exact fun M h1 h2 => h M h1 (f.tr h2)
theorem ov_loop (hw : cp_w rr d m) (hb : ∀ k, k < m → ob_ib (tx k)) (hG : pm_k G d (.inl 1)) : ∀ n s k, m - s.2.1 < n → k ≤ s.2.1 → ok_V m s → ∃ o : aO, (∀ e, o = .inl e → ¬ e.1 = 0 ∧ e.2 ≤ m) ∧ (∀ s', o = .inr s' → ok_V m s') ∧ (∀ (J : pm_I) (K : Int32 → pm_I → Prop) (P : Int32 → pm_I → Prop), (∀ x L, ov_c G rr K P x L → P x L) → cp_Q J rr d m tx s → ov_C rr d m tx o J K → P (nI k) J) ∧ (∀ (J : pm_I) (KL : pm_I → Prop) (KE : Int32 → pm_I → Prop) (P : Int32 → pm_I → Prop), (∀ x L, ov_r Gr q KL KE P x L → P x L) → rp_Q J q m tx s → ov_R m q tx o J KL KE → P 1 J) := by
  have hm := hw.1
  -- after an error
  have ec : ∀ {e : aE} {K : Int32 → pm_I → Prop} {P : Int32 → pm_I → Prop} {x : Int32} {L : pm_I}, (∀ x L, ov_c G rr K P x L → P x L) → cp_E L rr d e → K e.1 L → P x L := fun {e K P x L} hP hL hk => by
    refine hP _ _ ?_
    unfold ov_c
    rw [hL.2.2.1, hL.2.1]
    exact ⟨fun _ => hk, fun _ => ⟨fun _ => hk, fun z => absurd rfl z⟩⟩
  have er : ∀ {e : aE} {KL : pm_I → Prop} {KE : Int32 → pm_I → Prop} {P : Int32 → pm_I → Prop} {L : pm_I}, (∀ x L, ov_r Gr q KL KE P x L → P x L) → rp_E L q e → KE e.1 L → P 0 L := fun {e KL KE P L} hP hL hk => by
    refine hP _ _ ?_
    unfold ov_r
    rw [hL.1]
    exact ⟨fun _ => ⟨fun z => absurd rfl z, fun _ => hk⟩, fun z => absurd rfl z⟩
  intro n
  induction n with
  | zero => intro s k h1; exact absurd h1 (by omega)
  | succ n ih =>
    intro s k hn hk ok
    have okq := ok.1
    have q1 := okq.1
    have q2 := okq.2.1
    by_cases k0 : s.2.2.1 = 0
    · refine ⟨.inr s, fun e he => (by cases he), fun s' hs' => (by cases hs'; exact ok), fun J K P hP hJ hK => hP _ _ ?_, fun J KL KE P hP hJ hK => hP _ _ ?_⟩
      · have e5 : J rr 5 = s.2.2.1 := hJ.2.2.2.2.1
        have e8 : J rr 8 = 0 := hJ.2.2.2.2.2.2.2.1
        have fin : K 0 J := hK J hJ ob_fr.rf
        unfold ov_c
        rw [e5, e8]
        exact ⟨fun _ => fin, fun _ => ⟨fun _ => fin, fun z => absurd k0 z⟩⟩
      · have e14 : J q 14 = 0 := (rp_tk hJ.2.2.2.1).1.mpr k0
        unfold ov_r
        rw [e14]
        exact ⟨fun z => absurd z (by decide), fun _ => ⟨fun _ => ⟨fun _ => hK J hJ rp_fr.rf, fun z => absurd z (by decide)⟩, fun z => absurd rfl z⟩⟩
    · have hlt := okq.2.2.1 k0
      obtain ⟨o1, x1, C1, R1⟩ := st_any (q := q) (Gr := Gr) hw hb hG ok
      have Cc : ∀ (J : pm_I) (K : Int32 → pm_I → Prop) (P : Int32 → pm_I → Prop), cp_Q J rr d m tx s → (∀ L, cW rr d m tx o1 L → ob_fr (cp_f rr d) J L → wX2_require G rr (59) L (fun I17 => wX2_advance G rr I17 (fun I18 => P (nI k + 1) I18))) → ov_c G rr K P (nI k) J := fun J K P hJ h => by
        have e5 : J rr 5 = s.2.2.1 := hJ.2.2.2.2.1
        unfold ov_c
        rw [e5]
        exact ⟨fun z => absurd z (nI_ge (a := k) (b := 600) (by omega) (by decide)), fun _ => ⟨fun z => absurd z k0, fun _ => C1 J _ hJ h⟩⟩
      have Rr : ∀ (J : pm_I) (KL : pm_I → Prop) (KE : Int32 → pm_I → Prop) (P : Int32 → pm_I → Prop), rp_Q J q m tx s → rH m q tx o1 J (fun r31 I30 => (r31 = 0 → (P (0) I30)) ∧ (¬ r31 = 0 → (wX7_closes Gr q (59) I30 (fun r33 I32 => (r33 = 0 → (P (0) I32)) ∧ (¬ r33 = 0 → (P (1) I32)))))) → ov_r Gr q KL KE P 1 J := fun J KL KE P hJ h => by
        have e14 : ¬ J q 14 = 0 := fun z => k0 ((rp_tk hJ.2.2.2.1).1.mp z)
        unfold ov_r
        exact ⟨fun z => absurd z (by decide), fun _ => ⟨fun z => absurd z e14, fun _ => R1 J _ hJ h⟩⟩
      cases o1 with
      | inl e =>
        refine ⟨.inl e, x1.1, fun s' hs' => (by cases hs'), fun J K P hP hJ hK => hP _ _ (Cc J K P hJ (fun L hL fL => ?_)), fun J KL KE P hP hJ hK => hP _ _ (Rr J KL KE P hJ ?_)⟩
        · exact cpE_rq (e := e) (by decide) hw hL (fun M hM fM => cpE_adv hM (ec hP hM (hK M hM (fL.tr fM))))
        · exact fun L hL fL => ⟨fun _ => er hP hL (hK L hL fL), fun z => absurd rfl z⟩
      | inr t =>
        obtain ⟨okt, lt⟩ := x1.2 t rfl
        have oqt := okt.1
        have t1 := oqt.1
        have t2 := oqt.2.1
        have lenE := okt.2.2.2.2.2.2.2.2
        by_cases k59 : t.2.2.1 = 59
        · obtain ⟨ok2, a2⟩ := ok_Q.adv tx oqt
          have tlt := oqt.2.2.1 (by rw [k59]; decide)
          have b1 := ok2.1
          have b2 := ok2.2.1
          obtain ⟨o, y1, y2, Co, Ro⟩ := ih (ab_adv tx m t) (k + 1) (by omega) (by omega) ⟨ok2, ok_N.adv tx m t, okt.2.2⟩
          refine ⟨o, y1, y2, fun J K P hP hJ hK => hP _ _ (Cc J K P hJ (fun L hL fL => ?_)), fun J KL KE P hP hJ hK => hP _ _ (Rr J KL KE P hJ ?_)⟩
          · have hL' : cp_Q L rr d m tx t := hL
            have e5 : L rr 5 = t.2.2.1 := hL'.2.2.2.2.1
            unfold wX2_require
            rw [e5, nI_1]
            exact ⟨fun _ => cpQ_adv hw oqt hL' (fun M hM fM => Co M K P hP hM (hK.wd (fL.tr fM))), fun z => absurd k59 z⟩
          · refine fun L hL fL => ⟨fun z => absurd z (by decide), fun _ => ?_⟩
            unfold wX7_closes
            refine rpQ_sh (by decide) hL ?_
            rw [decide_eq_true k59]
            exact ⟨fun _ => rpQ_adv hm hb oqt hL (fun M hM fM => ⟨fun z => absurd z (by decide), fun _ => Ro M KL KE P hP hM (hK.wd (fL.tr fM.fr))⟩), fun z => absurd z (by decide)⟩
        · refine ⟨.inl (1, t.2.1), fun e he => (by cases he; exact ⟨show ¬ (1 : Int32) = 0 by decide, show t.2.1 ≤ m by omega⟩), fun s' hs' => (by cases hs'), fun J K P hP hJ hK => hP _ _ (Cc J K P hJ (fun L hL fL => ?_)), fun J KL KE P hP hJ hK => hP _ _ (Rr J KL KE P hJ ?_)⟩
          · have hL' : cp_Q L rr d m tx t := hL
            have e5 : L rr 5 = t.2.2.1 := hL'.2.2.2.2.1
            unfold wX2_require
            rw [e5]
            exact ⟨fun z => absurd z k59, fun _ => cpQ_fail hw hL' lenE (by decide) (fun M hM fM => cpE_adv hM (ec hP hM (hK M hM (fL.tr fM))))⟩
          · refine fun L hL fL => ⟨fun z => absurd z (by decide), fun _ => ?_⟩
            unfold wX7_closes
            refine rpQ_sh (by decide) hL ?_
            rw [decide_eq_false k59]
            exact ⟨fun z => absurd rfl z, fun _ => rpQ_fail hL (fun M hM fM => ⟨Or.inl rfl, fun _ => er hP hM (hK M hM (fL.tr fM)), fun z => absurd rfl z⟩)⟩
end OV
