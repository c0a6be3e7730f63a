/-! ===== THE PARSER: formulas (2): a level ===== -/
theorem rG.wd {m q b : Nat} {tx : Nat → Int32} {o : aO} {J L : pm_I} {K : Int32 → pm_I → Prop} (f : rp_fr q J L) (h : rG m q b tx o J K) : rG m q b tx o L K := by
  cases o with
  | inl e => exact fun M h1 h2 h3 => h M h1 (f.tr h2) h3
  | inr s => exact fun M h1 h2 h3 => h M h1 (f.tr h2) h3
theorem ok_W.put {m h h' : Nat} {s t : aQ} {x : Int32} (ok : ok_W m t h) (st : ok_st s t) (hs : s.2.2.2.2.2.2.2.2.2.2.length + 1 ≤ s.2.1) (h1 : if ab_isop x = true then 2 ≤ h else h < 16) (h2 : ab_isop x = true ∨ (-5 ≤ x.toInt ∧ x.toInt ≤ 9999)) (h3 : (if ab_isop x = true then h - 1 else h + 1) = h') : ok_W m (ab_put t x) h' := by
  obtain ⟨o1, o2, o3, o4⟩ := ok
  obtain ⟨e, a, c⟩ := st
  refine ⟨o1, o2, o3.ap h1 h2 h3, ?_⟩
  show (t.2.2.2.2.2.2.2.2.2.2 ++ [x]).length ≤ t.2.1
  rw [List.length_append]
  show t.2.2.2.2.2.2.2.2.2.2.length + 1 ≤ t.2.1
  omega
section LV2
variable {G Gr : pm_G} {rr d m q b B : Nat} {tx : Nat → Int32} {Fc : pm_I → (pm_I → Prop) → Prop} {Fr : pm_I → (Int32 → pm_I → Prop) → Prop} {a1 a2 c1 c2 : Int32}
theorem lv_Eloop {e : aE} {K : pm_I → Prop} {P : Int32 → pm_I → Prop} {J : pm_I} {x : Int32} (n1 : ¬ a1 = 0) (n2 : ¬ a2 = 0) (hP : ∀ x L, lb2 G rr Fc a1 a2 c1 c2 K P x L → P x L) (h : cp_E J rr d e) (hk : K J) : P x J := by
  refine hP _ _ ⟨fun _ => hk, fun _ => ?_⟩
  rw [h.2.1]
  exact ⟨fun z => absurd z.symm n1, fun _ => ⟨fun _ => hk, fun z => absurd z.symm n2⟩⟩
theorem lv_E (n1 : ¬ a1 = 0) (n2 : ¬ a2 = 0) (hX : cX rr d Fc) : cX rr d (lvC G rr Fc a1 a2 c1 c2) := by
  intro e J K h hk
  unfold lvC
  exact hX e J _ h (fun L hL fL P hP => lv_Eloop n1 n2 hP hL (hk L hL fL))
theorem lv_loop (hw : cp_w rr d m) (hb : ∀ k, k < m → ob_ib (tx k)) (hG : pm_k G d (.inl 1)) (s1 : tk_sg a1 = true) (s2 : tk_sg a2 = true) (s12 : ¬ a2 = a1) (p1 : ab_isop c1 = true) (p2 : ab_isop c2 = true) (hX : cX rr d Fc)
    (hF : ∀ s h, ok_W m s h → h ≤ B + 1 → ∃ o, oX m s (h + 1) o ∧ cC rr d m tx Fc s o ∧ rC m q b tx Fr s o) (h : Nat) (hB : h ≤ B) :
    ∀ n s k, m - s.2.1 < n → k ≤ s.2.1 → ok_W m s (h + 1) → ∃ o, oX m s (h + 1) o ∧ (∀ (J : pm_I) (K : pm_I → Prop) (P : Int32 → pm_I → Prop), (∀ x L, lb2 G rr Fc a1 a2 c1 c2 K P x L → P x L) → cp_Q J rr d m tx s → (∀ L, cW rr d m tx o L → ob_fr (cp_f rr d) J L → K L) → P (nI k) J) ∧ (∀ (J : pm_I) (K : Int32 → pm_I → Prop) (P : pm_I → Prop), (∀ L, lb1 Gr q Fr a1 a2 (rf_en c1) (rf_en c2) K P L → P L) → rp_Q J q m tx s → J q 22 = nI b → rG m q b tx o J K → P J) := by
  obtain ⟨n10, _⟩ := tk_sg_n s1
  obtain ⟨n20, _⟩ := tk_sg_n s2
  have hm := hw.1
  have hd := hw.2.2
  intro n
  induction n with
  | zero => intro s k h1; exact absurd h1 (by omega)
  | succ n ih =>
    intro s k hn hk ok
    have okq := ok.1
    by_cases hk0 : s.2.2.1 = a1 ∨ s.2.2.1 = a2
    · have hne : ¬ s.2.2.1 = 0 := by
        rcases hk0 with e | e
        · rw [e]; exact n10
        · rw [e]; exact n20
      have hlt := okq.2.2.1 hne
      have hnx := okq.2.1
      obtain ⟨w1, st1, nx1⟩ := ok.adv tx
      have key : ∀ c, ab_isop c = true → ∃ o, oX m s (h + 1) o ∧ (∀ (J : pm_I) (K : pm_I → Prop) (P : Int32 → pm_I → Prop), (∀ x L, lb2 G rr Fc a1 a2 c1 c2 K P x L → P x L) → cp_Q J rr d m tx s → (∀ L, cW rr d m tx o L → ob_fr (cp_f rr d) J L → K L) → wX2_advance G rr J (fun I14 => Fc I14 (fun I15 => pm_k G ((I15 rr 2).toNatClampNeg) (.inl 1) ∧ (wX3_put G ((I15 rr 2).toNatClampNeg + 5) c I15 (fun I17 => P (nI k + 1) I17))))) ∧ (∀ (J : pm_I) (K : Int32 → pm_I → Prop) (P : pm_I → Prop), (∀ L, lb1 Gr q Fr a1 a2 (rf_en c1) (rf_en c2) K P L → P L) → rp_Q J q m tx s → J q 22 = nI b → rG m q b tx o J K → wX7_advance Gr q J (fun I16 => Fr I16 (fun r18 I17 => (¬ r18 = 0 → (wX7_emit Gr q (rf_en c) I17 (fun r20 I19 => P I19))) ∧ (r18 = 0 → K 0 I17)))) := by
        intro c hc
        obtain ⟨o1, x1, C1, R1⟩ := hF (ab_adv tx m s) (h + 1) w1 (by omega)
        cases o1 with
        | inl e =>
          refine ⟨.inl e, ⟨fun e' he' => x1.1 e' he', fun s' hs' => by cases hs'⟩, fun J K P hP hJ hk => ?_, fun J K P hP hJ h22 hr => ?_⟩
          · refine cpQ_adv hw okq hJ (fun L hL fL => C1 L _ hL (fun M hM fM => ?_))
            have e2 : M rr 2 = nI d := hM.1
            rw [e2, nI_clamp (by omega)]
            exact ⟨hG, cpE_put hw hM (fun M2 hM2 fM2 => lv_Eloop n10 n20 hP hM2 (hk M2 hM2 ((fL.tr fM).tr fM2)))⟩
          · refine rpQ_adv hm hb okq hJ (fun L hL fL => R1 L _ hL (by rw [fL.2 22 (by omega)]; exact h22) ?_)
            exact fun M hM fM h22' => ⟨fun z => absurd rfl z, fun _ => hr M hM (fL.fr.tr fM) h22'⟩
        | inr t =>
          obtain ⟨wt, stt⟩ := x1.2 t rfl
          have st := st1.tr stt
          have h3 : ok_W m (ab_put t c) (h + 1) := wt.put stt (by
            have := st1.2.2
            have := ok.2.2.2
            show s.2.2.2.2.2.2.2.2.2.2.length + 1 ≤ _
            omega) (by rw [if_pos hc]; omega) (Or.inl hc) (by rw [if_pos hc]; rfl)
          have h2a := stt.2.1
          have h2b : t.2.2.2.2.2.2.2.2.2.2.length + (ab_adv tx m s).2.1 ≤ s.2.2.2.2.2.2.2.2.2.2.length + t.2.1 := stt.2.2
          have tl : (ab_put t c).2.2.2.2.2.2.2.2.2.2.length = t.2.2.2.2.2.2.2.2.2.2.length + 1 := by
            show (t.2.2.2.2.2.2.2.2.2.2 ++ [c]).length = _
            rw [List.length_append]; rfl
          have st3 : ok_st s (ab_put t c) := by
            obtain ⟨⟨is, e⟩, a, bb⟩ := st
            refine ⟨⟨t.2.2.2.2.2.2.2.2.2.2 ++ [c], ?_⟩, a, ?_⟩
            · show (t.2.2.2.2.1, t.2.2.2.2.2.1, t.2.2.2.2.2.2.1, t.2.2.2.2.2.2.2.1, t.2.2.2.2.2.2.2.2.1, t.2.2.2.2.2.2.2.2.2.1, t.2.2.2.2.2.2.2.2.2.2 ++ [c]) = _
              rw [e]
            · rw [tl]
              show t.2.2.2.2.2.2.2.2.2.2.length + 1 + s.2.1 ≤ s.2.2.2.2.2.2.2.2.2.2.length + t.2.1
              omega
          have okt := wt.1
          have tlt : t.2.2.2.2.2.2.2.2.2.2.length < 600 := by
            have := okt.1
            have := okt.2.1
            have := ok.2.2.2
            omega
          obtain ⟨o, xo, Co, Ro⟩ := ih (ab_put t c) (k + 1) (show m - t.2.1 < n by have := okt.1; have := okt.2.1; omega) (show k + 1 ≤ t.2.1 by omega) h3
          refine ⟨o, ⟨xo.1, fun s' hs' => ⟨(xo.2 s' hs').1, st3.tr (xo.2 s' hs').2⟩⟩, fun J K P hP hJ hk => ?_, fun J K P hP hJ h22 hr => ?_⟩
          · refine cpQ_adv hw okq hJ (fun L hL fL => C1 L _ hL (fun M hM fM => ?_))
            have hM' : cp_Q M rr d m tx t := hM
            have e2 : M rr 2 = nI d := hM'.2.1
            rw [e2, nI_clamp (by omega)]
            refine ⟨hG, cpQ_put hw hM' tlt (fun M2 hM2 fM2 => ?_)⟩
            rw [nI_1]
            exact Co M2 K P hP hM2 (fun N hN fN => hk N hN (((fL.tr fM).tr fM2).tr fN))
          · refine rpQ_adv hm hb okq hJ (fun L hL fL => R1 L _ hL (by rw [fL.2 22 (by omega)]; exact h22) ?_)
            refine fun M hM fM h22' => ⟨fun _ => ?_, fun z => absurd z (by decide)⟩
            refine rpQ_emit rfl hM (by omega) (fun M2 hM2 fM2 q2 => ?_)
            exact Ro M2 K P hP hM2 (by rw [q2]; exact h22') (hr.wd ((fL.fr.tr fM).tr fM2))
      rcases hk0 with ek | ek
      · obtain ⟨o, xo, Co, Ro⟩ := key c1 p1
        refine ⟨o, xo, fun J K P hP hJ hk' => hP _ _ ?_, fun J K P hP hJ h22 hr => hP _ ?_⟩
        · have e5 : J rr 5 = a1 := hJ.2.2.2.2.1.trans ek
          unfold lb2
          rw [e5]
          refine ⟨fun z => absurd z (nI_ge (a := k) (b := 600) (by omega) (by decide)), fun _ => ⟨fun _ => ⟨fun z => absurd rfl z, fun _ => Co J K P hP hJ hk'⟩, fun z => absurd rfl z⟩⟩
        · unfold lb1
          refine rpQ_sh s1 hJ ?_
          rw [decide_eq_true ek]
          refine ⟨fun _ => ⟨fun z => absurd (((rp_tk hJ.2.2.2.1).2.2.2.2 a1 s1).mpr ek).2 z, fun _ => Ro J K P hP hJ h22 hr⟩, fun z => absurd z (by decide)⟩
      · obtain ⟨o, xo, Co, Ro⟩ := key c2 p2
        refine ⟨o, xo, fun J K P hP hJ hk' => hP _ _ ?_, fun J K P hP hJ h22 hr => hP _ ?_⟩
        · have e5 : J rr 5 = a2 := hJ.2.2.2.2.1.trans ek
          unfold lb2
          rw [e5]
          refine ⟨fun z => absurd z (nI_ge (a := k) (b := 600) (by omega) (by decide)), fun _ => ⟨fun z => absurd z s12, fun _ => ⟨fun z => absurd rfl z, fun _ => ⟨fun _ => Co J K P hP hJ hk', fun z => absurd z s12⟩⟩⟩⟩
        · unfold lb1
          refine rpQ_sh s1 hJ ?_
          rw [decide_eq_false (fun h => s12 (ek.symm.trans h))]
          refine ⟨fun z => absurd rfl z, fun _ => rpQ_sh s2 hJ ?_⟩
          rw [decide_eq_true ek]
          refine ⟨fun z => absurd z (by decide), fun _ => ⟨fun _ => Ro J K P hP hJ h22 hr, fun z => absurd ((((rp_tk hJ.2.2.2.1).2.2.2.2 a2 s2).mpr ek).2.symm.trans z) s12⟩⟩
    · have k1 : ¬ s.2.2.1 = a1 := fun h => hk0 (Or.inl h)
      have k2 : ¬ s.2.2.1 = a2 := fun h => hk0 (Or.inr h)
      refine ⟨.inr s, ⟨fun e he => (by cases he), fun s' hs' => by cases hs'; exact ⟨ok, ok_st.rf s⟩⟩, fun J K P hP hJ hk' => hP _ _ ?_, fun J K P hP hJ h22 hr => hP _ ?_⟩
      · have e5 : J rr 5 = s.2.2.1 := hJ.2.2.2.2.1
        have fin : K J := hk' J hJ ob_fr.rf
        unfold lb2
        rw [e5]
        exact ⟨fun _ => fin, fun _ => ⟨fun z => absurd z k1, fun _ => ⟨fun _ => fin, fun z => absurd z k2⟩⟩⟩
      · unfold lb1
        refine rpQ_sh s1 hJ ?_
        rw [decide_eq_false k1]
        refine ⟨fun z => absurd rfl z, fun _ => rpQ_sh s2 hJ ?_⟩
        rw [decide_eq_false k2]
        exact ⟨fun _ => hr J hJ rp_fr.rf h22, fun z => absurd rfl z⟩
theorem lv_lvl (hw : cp_w rr d m) (hb : ∀ k, k < m → ob_ib (tx k)) (hG : pm_k G d (.inl 1)) (s1 : tk_sg a1 = true) (s2 : tk_sg a2 = true) (s12 : ¬ a2 = a1) (p1 : ab_isop c1 = true) (p2 : ab_isop c2 = true) (hX : cX rr d Fc)
    (hF : ∀ s h, ok_W m s h → h ≤ B + 1 → ∃ o, oX m s (h + 1) o ∧ cC rr d m tx Fc s o ∧ rC m q b tx Fr s o) :
    ∀ s h, ok_W m s h → h ≤ B → ∃ o, oX m s (h + 1) o ∧ cC rr d m tx (lvC G rr Fc a1 a2 c1 c2) s o ∧ rC m q b tx (lvR Gr q Fr a1 a2 (rf_en c1) (rf_en c2)) s o := by
  intro s h ok hB
  obtain ⟨n10, _⟩ := tk_sg_n s1
  obtain ⟨n20, _⟩ := tk_sg_n s2
  obtain ⟨o1, x1, C1, R1⟩ := hF s h ok (by omega)
  cases o1 with
  | inl e =>
    refine ⟨.inl e, ⟨x1.1, fun s' hs' => by cases hs'⟩, fun J K hJ hk => ?_, fun J K hJ h22 hr => ?_⟩
    · unfold lvC
      exact C1 J _ hJ (fun L hL fL P hP => lv_Eloop (e := e) n10 n20 hP hL (hk L hL fL))
    · unfold lvR
      exact R1 J _ hJ h22 (fun L hL fL h22' => ⟨fun z => absurd rfl z, fun _ => hr L hL fL h22'⟩)
  | inr t =>
    obtain ⟨wt, stt⟩ := x1.2 t rfl
    obtain ⟨o, xo, Co, Ro⟩ := lv_loop (Gr := Gr) hw hb hG s1 s2 s12 p1 p2 hX hF h hB (m - t.2.1 + 1) t 0 (by omega) (by omega) wt
    refine ⟨o, ⟨xo.1, fun s' hs' => ⟨(xo.2 s' hs').1, stt.tr (xo.2 s' hs').2⟩⟩, fun J K hJ hk => ?_, fun J K hJ h22 hr => ?_⟩
    · unfold lvC
      exact C1 J _ hJ (fun L hL fL P hP => Co L K P hP hL (fun M hM fM => hk M hM (fL.tr fM)))
    · unfold lvR
      refine R1 J _ hJ h22 (fun L hL fL h22' => ⟨fun _ P hP => Ro L K P hP hL h22' (rG.wd fL hr), fun z => absurd z (by decide)⟩)
end LV2
