/-! ===== the calls that change (2): introduce, close, send ===== -/
theorem ob_or256 : ∀ m, m < 256 → ∀ b, b < 8 → nI m ||| ((1 : Int32) <<< (nI b &&& 31)) = nI (m ||| 2 ^ b) ∧ m ||| 2 ^ b < 256 := by decide +kernel
theorem ok_K.or {P : aP} {f : Nat → Int32} {a b : Nat} (n8 : ab_np P ≤ 8) (h : ok_K P f) (ha : a < 8) (hb : b < ab_np P) : ok_K P (upd f a (f a ||| (1 <<< (nI b &&& 31)))) := by
  intro k hk
  by_cases e : k = a
  · subst e
    obtain ⟨m, hm, em, hz⟩ := h k hk
    rw [pk_us, em]
    obtain ⟨o1, o2⟩ := ob_or256 m hm b (by omega)
    refine ⟨m ||| 2 ^ b, o2, o1, fun j h1 h2 => ?_⟩
    have := hz j h1 h2
    rw [em, ab_bit_bt (by omega)] at this
    rw [ab_bit_bt (by omega), ob_bor, this, ob_bone b (by omega) j h2, decide_eq_false (by omega)]
    rfl
  · rw [pk_un e]; exact h k hk
theorem ok_acq {P : aP} {c a b : Nat} {A : aT} (n8 : ab_np P ≤ 8) (h : ok_T P c A) (ha : a < ab_np P) (hb : b < ab_np P) : ok_T P c (ab_acq A (nI a) (nI b)) := by
  refine ⟨h.1, ?_, h.2.2⟩
  unfold ab_acq
  rw [nI_clamp (by omega), nI_clamp (by omega)]
  exact (h.2.1.or n8 (by omega) hb).or n8 (by omega) ha
theorem rf_acq {N : Nat → Int32} {A : aT} {a b : Nat} {v u : Int32} (h : rf_T N A) (hn : ok_24 A) (ha : a < 8) (hb : b < 8) (ev : v = N (1 + a) ||| (1 <<< (nI b &&& 31))) (eu : u = upd N (1 + a) v (1 + b) ||| (1 <<< (nI a &&& 31))) : rf_T (upd (upd N (1 + a) v) (1 + b) u) (ab_acq A (nI a) (nI b)) := by
  have e : ∀ x, x ≠ 1 + a → x ≠ 1 + b → upd (upd N (1 + a) v) (1 + b) u x = N x := fun x h1 h2 => by rw [pk_un h2, pk_un h1]
  unfold ab_acq
  rw [nI_clamp (by omega), nI_clamp (by omega)]
  have f1 : ∀ k, k < 8 → upd N (1 + a) v (1 + k) = upd A.2.2.1 a (A.2.2.1 a ||| (1 <<< (nI b &&& 31))) k := fun k hk => by
    by_cases ek : k = a
    · rw [ek, pk_us, pk_us, ev, h.2.1 a ha]
    · rw [pk_un (by omega), pk_un ek]; exact h.2.1 k hk
  refine ⟨by rw [e 0 (by omega) (by omega)]; exact h.1, fun k hk => ?_, fun k hk => by rw [e _ (by omega) (by omega)]; exact h.2.2.1 k hk, fun i hi => (h.2.2.2 i hi).rw (hn i hi) (fun x h1 h2 => e x (by omega) (by omega))⟩
  show _ = upd (upd A.2.2.1 a (A.2.2.1 a ||| (1 <<< (nI b &&& 31)))) b (upd A.2.2.1 a (A.2.2.1 a ||| (1 <<< (nI b &&& 31))) b ||| (1 <<< (nI a &&& 31))) k
  by_cases ek : k = b
  · rw [ek, pk_us, pk_us, eu, f1 b hb]
  · rw [pk_un (by omega), pk_un ek]; exact f1 k hk
theorem case_26 {G : pm_G} {xs : Nat → Int32} {x4 : Int32} {I : pm_I} {K : pm_I → Prop} {c : Nat} (hG : gK G) (h : gS c I) (hc : c < 512) (hk : ∀ J, gS (c + 1) J → K J) : wC26 G xs x4 I K := by
  obtain ⟨len, txt, err, P, A, n, H, sv, S, hC, hR, ok⟩ := h
  have ok1 := ok.up (c' := c + 1) (by omega)
  have oP := ok.2.1
  have n8 := oP.1.1
  obtain ⟨p, hp, i3, w⟩ := hC.pl
  unfold wC26 wX7_thrown
  have th0 : (if ab_th3 P (xs (x4 + 1).toNatClampNeg) (xs (x4 + 2).toNatClampNeg) (xs (x4 + 3).toNatClampNeg) = 0 then (if ((ab_kn A (xs (x4 + 1).toNatClampNeg) (xs (x4 + 2).toNatClampNeg) = true ∧ ab_kn A (xs (x4 + 1).toNatClampNeg) (xs (x4 + 3).toNatClampNeg) = true) ∧ ab_kn A (xs (x4 + 2).toNatClampNeg) (xs (x4 + 3).toNatClampNeg) = false) then (0 : Int32) else 3) else ab_th3 P (xs (x4 + 1).toNatClampNeg) (xs (x4 + 2).toNatClampNeg) (xs (x4 + 3).toNatClampNeg)) = 0 → ob_ix (ab_np P) (xs (x4 + 1).toNatClampNeg) ∧ ob_ix (ab_np P) (xs (x4 + 2).toNatClampNeg) ∧ ob_ix (ab_np P) (xs (x4 + 3).toNatClampNeg) := by
    intro e
    by_cases h1 : ab_ip P (xs (x4 + 1).toNatClampNeg) = true ∧ ab_ip P (xs (x4 + 2).toNatClampNeg) = true ∧ ab_ip P (xs (x4 + 3).toNatClampNeg) = true
    · exact ⟨(ab_ip_t oP).mp h1.1, (ab_ip_t oP).mp h1.2.1, (ab_ip_t oP).mp h1.2.2⟩
    · have : ab_th3 P (xs (x4 + 1).toNatClampNeg) (xs (x4 + 2).toNatClampNeg) (xs (x4 + 3).toNatClampNeg) = 1 := if_neg h1
      rw [this, if_neg (by decide)] at e
      exact absurd e (by decide)
  have cl : ∀ K : Int32 → pm_I → Prop, ((if ab_th3 P (xs (x4 + 1).toNatClampNeg) (xs (x4 + 2).toNatClampNeg) (xs (x4 + 3).toNatClampNeg) = 0 then (if ((ab_kn A (xs (x4 + 1).toNatClampNeg) (xs (x4 + 2).toNatClampNeg) = true ∧ ab_kn A (xs (x4 + 1).toNatClampNeg) (xs (x4 + 3).toNatClampNeg) = true) ∧ ab_kn A (xs (x4 + 2).toNatClampNeg) (xs (x4 + 3).toNatClampNeg) = false) then (0 : Int32) else 3) else ab_th3 P (xs (x4 + 1).toNatClampNeg) (xs (x4 + 2).toNatClampNeg) (xs (x4 + 3).toNatClampNeg)) = 0 → ∀ J, cg_P I J len txt err P (ab_acq A (xs (x4 + 2).toNatClampNeg) (xs (x4 + 3).toNatClampNeg)) (min (n + 1) 10) (ab_push A H) sv S → J 515 0 = nI (ob_pop (((ab_acq A (xs (x4 + 2).toNatClampNeg) (xs (x4 + 3).toNatClampNeg)).2.2.1 ((xs (x4 + 2).toNatClampNeg)).toNatClampNeg).toNatClampNeg)) → K 0 J) → (¬ (if ab_th3 P (xs (x4 + 1).toNatClampNeg) (xs (x4 + 2).toNatClampNeg) (xs (x4 + 3).toNatClampNeg) = 0 then (if ((ab_kn A (xs (x4 + 1).toNatClampNeg) (xs (x4 + 2).toNatClampNeg) = true ∧ ab_kn A (xs (x4 + 1).toNatClampNeg) (xs (x4 + 3).toNatClampNeg) = true) ∧ ab_kn A (xs (x4 + 2).toNatClampNeg) (xs (x4 + 3).toNatClampNeg) = false) then (0 : Int32) else 3) else ab_th3 P (xs (x4 + 1).toNatClampNeg) (xs (x4 + 2).toNatClampNeg) (xs (x4 + 3).toNatClampNeg)) = 0 → K ((if ab_th3 P (xs (x4 + 1).toNatClampNeg) (xs (x4 + 2).toNatClampNeg) (xs (x4 + 3).toNatClampNeg) = 0 then (if ((ab_kn A (xs (x4 + 1).toNatClampNeg) (xs (x4 + 2).toNatClampNeg) = true ∧ ab_kn A (xs (x4 + 1).toNatClampNeg) (xs (x4 + 3).toNatClampNeg) = true) ∧ ab_kn A (xs (x4 + 2).toNatClampNeg) (xs (x4 + 3).toNatClampNeg) = false) then (0 : Int32) else 3) else ab_th3 P (xs (x4 + 1).toNatClampNeg) (xs (x4 + 2).toNatClampNeg) (xs (x4 + 3).toNatClampNeg))) I) → wL_introduce G 515 (xs (x4 + 1).toNatClampNeg) (xs (x4 + 2).toNatClampNeg) (xs (x4 + 3).toNatClampNeg) I K := by
    intro K hk hE
    unfold wL_introduce wX6_introduce
    refine cx_three hG hp i3 w oP (fun i1 i2 i3' ne e => ?_) (fun e => Or.inl ⟨rfl, ?_⟩) (fun e => Or.inr (Or.inl ⟨rfl, ?_⟩))
    · rw [if_pos e] at hk hE
      have no : ¬ ((ab_kn A (xs (x4 + 1).toNatClampNeg) (xs (x4 + 2).toNatClampNeg) = true ∧ ab_kn A (xs (x4 + 1).toNatClampNeg) (xs (x4 + 3).toNatClampNeg) = true) ∧ ab_kn A (xs (x4 + 2).toNatClampNeg) (xs (x4 + 3).toNatClampNeg) = false) → 2 = 3 ∧ K 1 I ∨ 2 = 1 ∧ K 2 I ∨ 2 = 2 ∧ K 3 I := fun hn => Or.inr (Or.inr ⟨rfl, by rw [if_neg hn] at hE; exact hE (by decide)⟩)
      refine cl_kn w.1 (i1.wd n8) ⟨fun z => no (fun hh => by rw [ob_b0.mp z] at hh; exact absurd hh.1.1 (by decide)), fun z => cl_kn w.1 (i1.wd n8) ⟨fun z2 => cl_kn w.1 (i2.wd n8) ⟨fun z3 => ?_, fun z3 => no (fun hh => by rw [ob_b1.mp z3] at hh; exact absurd hh.2 (by decide))⟩, fun z2 => no (fun hh => by rw [ob_b0.mp z2] at hh; exact absurd hh.1.2 (by decide))⟩⟩
      rw [if_pos ⟨⟨ob_b1.mp z, ob_b1.mp z2⟩, ob_b0.mp z3⟩] at hk
      obtain ⟨a, ha, ea⟩ := i2
      obtain ⟨b, hb, eb⟩ := i3'
      rw [ea, eb] at hk ⊢
      refine cx_keep hC hp i3 w ok.2.2.1.1.2.2.2 (fun J hJ i3J wJ fJ => cl_acq wJ.1 ⟨a, by omega, rfl⟩ ⟨b, by omega, rfl⟩ (fun L hL fL => ⟨vp_in_nI (by omega) (by decide), ?_⟩))
      have oK := (ok_acq n8 ok.2.2.1.1 ha hb).2.1
      rw [nI_clamp (by omega)] at hk ⊢
      obtain ⟨m, hm, em, _⟩ := oK a (by omega)
      have ev : L (1 + 18 + 2) a = nI m := (hL.2.2.1 a (by omega)).trans em
      rw [ev]
      rw [em, nI_clamp (by omega)] at hk
      refine cl_bits hm (fun I2 q2 => ?_)
      subst q2
      have wL : cl_W L (1 + 18) p (ab_acq A (nI a) (nI b)) P := ⟨hL, wJ.2.1.rw (fun r h1 h2 _ => fL r (by have := wJ.2.2; omega)) (by rw [fL (p + 5) (by have := wJ.2.2; omega)]), wJ.2.2⟩
      have cz := hJ.cz2 hp i3J wL (fun r hr => fL r (fun hh => hr (Or.inl ⟨by omega, by omega⟩)))
      have o := cg_out (I := I) (v := nI (ob_pop m)) cz.1 (fun r hr => by rw [cz.2 r hr]; exact fJ r hr)
      exact hk rfl _ o.1 o.2
    · rw [if_neg (by rw [e]; decide), e] at hE
      exact hE (by decide)
    · rw [if_neg (by rw [e]; decide), e] at hE
      exact hE (by decide)
  have rl : ∀ (J : pm_I) (K : Int32 → pm_I → Prop), rg_R J len txt err P A n H sv S → ((if ab_th3 P (xs (x4 + 1).toNatClampNeg) (xs (x4 + 2).toNatClampNeg) (xs (x4 + 3).toNatClampNeg) = 0 then (if ((ab_kn A (xs (x4 + 1).toNatClampNeg) (xs (x4 + 2).toNatClampNeg) = true ∧ ab_kn A (xs (x4 + 1).toNatClampNeg) (xs (x4 + 3).toNatClampNeg) = true) ∧ ab_kn A (xs (x4 + 2).toNatClampNeg) (xs (x4 + 3).toNatClampNeg) = false) then (0 : Int32) else 3) else ab_th3 P (xs (x4 + 1).toNatClampNeg) (xs (x4 + 2).toNatClampNeg) (xs (x4 + 3).toNatClampNeg)) = 0 → ∀ L, rg_P J L 0 len txt err P (ab_acq A (xs (x4 + 2).toNatClampNeg) (xs (x4 + 3).toNatClampNeg)) (min (n + 1) 10) (ab_push A H) sv S → K (nI (ob_pop (((ab_acq A (xs (x4 + 2).toNatClampNeg) (xs (x4 + 3).toNatClampNeg)).2.2.1 ((xs (x4 + 2).toNatClampNeg)).toNatClampNeg).toNatClampNeg))) L) → (¬ (if ab_th3 P (xs (x4 + 1).toNatClampNeg) (xs (x4 + 2).toNatClampNeg) (xs (x4 + 3).toNatClampNeg) = 0 then (if ((ab_kn A (xs (x4 + 1).toNatClampNeg) (xs (x4 + 2).toNatClampNeg) = true ∧ ab_kn A (xs (x4 + 1).toNatClampNeg) (xs (x4 + 3).toNatClampNeg) = true) ∧ ab_kn A (xs (x4 + 2).toNatClampNeg) (xs (x4 + 3).toNatClampNeg) = false) then (0 : Int32) else 3) else ab_th3 P (xs (x4 + 1).toNatClampNeg) (xs (x4 + 2).toNatClampNeg) (xs (x4 + 3).toNatClampNeg)) = 0 → ∀ L b, rg_P J L ((if ab_th3 P (xs (x4 + 1).toNatClampNeg) (xs (x4 + 2).toNatClampNeg) (xs (x4 + 3).toNatClampNeg) = 0 then (if ((ab_kn A (xs (x4 + 1).toNatClampNeg) (xs (x4 + 2).toNatClampNeg) = true ∧ ab_kn A (xs (x4 + 1).toNatClampNeg) (xs (x4 + 3).toNatClampNeg) = true) ∧ ab_kn A (xs (x4 + 2).toNatClampNeg) (xs (x4 + 3).toNatClampNeg) = false) then (0 : Int32) else 3) else ab_th3 P (xs (x4 + 1).toNatClampNeg) (xs (x4 + 2).toNatClampNeg) (xs (x4 + 3).toNatClampNeg))) len txt err P A n H sv S → K b L) → wX7_introduce G 499 (xs (x4 + 1).toNatClampNeg) (xs (x4 + 2).toNatClampNeg) (xs (x4 + 3).toNatClampNeg) J K := by
    intro J K hR hk hE
    unfold wX7_introduce
    refine rx_three hR.2.1.2 oP (fun i1 i2 i3' ne e => ⟨fun z => absurd rfl z, fun _ => ?_⟩) (fun e => ⟨fun _ => ?_, fun z => absurd z (by decide)⟩)
    · rw [if_pos e] at hk hE
      have g := rg_up (v := 0) hR
      have e0 := g.2.2
      have no : ¬ ((ab_kn A (xs (x4 + 1).toNatClampNeg) (xs (x4 + 2).toNatClampNeg) = true ∧ ab_kn A (xs (x4 + 1).toNatClampNeg) (xs (x4 + 3).toNatClampNeg) = true) ∧ ab_kn A (xs (x4 + 2).toNatClampNeg) (xs (x4 + 3).toNatClampNeg) = false) → K 0 (pm_up (pm_up J 499 0 0) 499 0 3) := fun hn => by rw [if_neg hn] at hE; rw [ob_uu]; exact hE (by decide) _ _ (rg_up hR)
      refine rf_kn g.1.2.1.1 (i1.wd n8) ⟨fun z => rf_thT e0 (by decide) ⟨fun z => absurd z (by decide), fun _ => no (fun hh => by rw [ob_b0.mp z] at hh; exact absurd hh.1.1 (by decide))⟩, fun z => rf_kn g.1.2.1.1 (i1.wd n8) ⟨fun z2 => rf_thT e0 (by decide) ⟨fun z => absurd z (by decide), fun _ => no (fun hh => by rw [ob_b0.mp z2] at hh; exact absurd hh.1.2 (by decide))⟩, fun z2 => rf_kn g.1.2.1.1 (i2.wd n8) ⟨fun z3 => rf_thF e0 ⟨fun _ => ?_, fun z => absurd rfl z⟩, fun z3 => rf_thT e0 (by decide) ⟨fun z => absurd z (by decide), fun _ => no (fun hh => by rw [ob_b1.mp z3] at hh; exact absurd hh.2 (by decide))⟩⟩⟩⟩
      rw [if_pos ⟨⟨ob_b1.mp z, ob_b1.mp z2⟩, ob_b0.mp z3⟩] at hk
      obtain ⟨a, ha, ea⟩ := i2
      obtain ⟨b, hb, eb⟩ := i3'
      rw [ea, eb] at hk ⊢
      have oK := (ok_acq n8 ok.2.2.1.1 ha hb).2.1
      rw [nI_clamp (by omega)] at hk
      obtain ⟨m, hm, em, _⟩ := oK a (by omega)
      rw [em, nI_clamp (by omega)] at hk
      rw [show (1 : Int32) + nI a = nI (1 + a) from nI_add 1 a, show (1 : Int32) + nI b = nI (1 + b) from nI_add 1 b, nI_clamp (by omega), nI_clamp (by omega)]
      refine rx_keep g ok (fun L gL => ⟨vp_in_nI (by omega) (by decide), vp_in_nI (by omega) (by decide), fun I1 q1 => ⟨vp_in_nI (by omega) (by decide), vp_in_nI (by omega) (by decide), fun I2 q2 => ⟨vp_in_nI (by omega) (by decide), ?_⟩⟩⟩)
      have f2 : ob_fr (rf_z 499) L I2 := by rw [q2, q1]; exact (ob_fr.rf.up (Or.inl rfl)).up (Or.inl rfl)
      have w2 : rf_W I2 499 (ab_acq A (nI a) (nI b)) P := by
        refine ⟨?_, gL.1.2.1.2.rw (fun r h1 h2 => f2 r (fun hh => by rcases hh with hh | hh | hh <;> omega))⟩
        rw [q2, q1, ob_uf, ob_uf]
        exact rf_acq gL.1.2.1.1 ok.2.2.1.1.n24 (by omega) (by omega) rfl rfl
      have ev : I2 (499 + 1) (1 + a) = nI m := (w2.1.2.1 a (by omega)).trans em
      rw [ev]
      exact rf_bits hm (hk rfl I2 (rg_z gL w2 f2))
    · rw [if_neg e] at hE
      exact hE e _ _ (rg_up hR)
  refine cl _ (fun e J hJ hv => rl _ _ (hR.fr (fun r h1 h2 => hJ.2 r h1 (by omega))) (fun _ L hL => ⟨hL.2.2, fun _ => fin_v hL hv rfl, hk L (fin_g hJ hL ?_)⟩) (fun ne => absurd e ne)) (fun ne => rl _ _ hR (fun e => absurd e ne) (fun _ L b hL => ⟨hL.2.2, fun e => absurd e ne, hk L (fin_g (cg_id hC) hL ok1)⟩))
  obtain ⟨_, ⟨a, ha, ea⟩, ⟨b, hb, eb⟩⟩ := th0 e
  rw [ea, eb]
  exact ok_push ok ⟨(ok_acq n8 ok.2.2.1.1 ha hb).up (by omega), ok.2.2.1.2⟩
theorem ok_T.shut {P : aP} {c : Nat} {A : aT} {i : Nat} {s : aS} (h : ok_T P c A) (h0 : s.1 0 = 0) : ok_T P c (ab_set A i s) := by
  obtain ⟨h1, h2, h3, h4⟩ := h
  refine ⟨h1, h2, fun k hk => ?_, fun k hk => ?_⟩
  · show (if k = i then s else A.2.2.2 k).1 0 = 1 → ok_S P c (if k = i then s else A.2.2.2 k)
    by_cases e : k = i
    · rw [if_pos e]; exact fun h => absurd (h0.symm.trans h) (by decide)
    · rw [if_neg e]; exact h3 k hk
  · show (if k = i then s else A.2.2.2 k).1 0 = 0 ∨ (if k = i then s else A.2.2.2 k).1 0 = 1
    by_cases e : k = i
    · rw [if_pos e]; exact Or.inl h0
    · rw [if_neg e]; exact h4 k hk
theorem case_30 {G : pm_G} {xs : Nat → Int32} {x4 : Int32} {I : pm_I} {K : pm_I → Prop} {c : Nat} (hG : gK G) (h : gS c I) (hc : c < 512) (hk : ∀ J, gS (c + 1) J → K J) : wC30 G xs x4 I K := by
  obtain ⟨len, txt, err, P, A, n, H, sv, S, hC, hR, ok⟩ := h
  have ok1 := ok.up (c' := c + 1) (by omega)
  have oP := ok.2.1
  have n8 := oP.1.1
  obtain ⟨p, hp, i3, w⟩ := hC.pl
  unfold wC30 wX7_thrown
  have cl : ∀ K : Int32 → pm_I → Prop, ((if ab_ths A (xs (x4 + 1).toNatClampNeg) = 0 then (if (ab_sx A (xs (x4 + 1).toNatClampNeg)).2.1 = 0 then (0 : Int32) else 2) else (1 : Int32)) = 0 → ∀ J, cg_P I J len txt err P (ab_set A ((xs (x4 + 1).toNatClampNeg)).toNatClampNeg (ab_f (ab_sx A (xs (x4 + 1).toNatClampNeg)) 0 0)) (min (n + 1) 10) (ab_push A H) sv S → J 515 0 = (ab_sx A (xs (x4 + 1).toNatClampNeg)).1 7 → K 0 J) → (¬ (if ab_ths A (xs (x4 + 1).toNatClampNeg) = 0 then (if (ab_sx A (xs (x4 + 1).toNatClampNeg)).2.1 = 0 then (0 : Int32) else 2) else (1 : Int32)) = 0 → K ((if ab_ths A (xs (x4 + 1).toNatClampNeg) = 0 then (if (ab_sx A (xs (x4 + 1).toNatClampNeg)).2.1 = 0 then (0 : Int32) else 2) else (1 : Int32))) I) → wL_close G 515 (xs (x4 + 1).toNatClampNeg) I K := by
    intro K hk hE
    unfold wL_close wX6_close
    refine cx_ses w.1 ok.2.2.1.1.2.2.2 (fun i hi hx h0 e => ⟨hG.S hi, ?_⟩) (fun e => Or.inl ⟨rfl, ?_⟩)
    · rw [if_pos e] at hk hE
      have esx : ab_sx A (xs (x4 + 1).toNatClampNeg) = A.2.2.2 i := by unfold ab_sx; rw [hx, nI_clamp (by omega)]
      rw [esx, hx, nI_clamp (by omega)] at hk
      rw [esx] at hE
      obtain ⟨d, g⟩ := (ok.2.2.1.1.2.2.1 i hi h0).g h0 (by omega)
      have hb := g.2.2.2.1
      rw [(w.1.2.2.2 i hi).1 8 (by decide), (w.1.2.2.2 i hi).1 7 (by decide), g.2.1, g.2.2.1, nI_eq (by omega) (by omega)]
      refine ⟨fun z => ?_, fun z => Or.inr ⟨rfl, ?_⟩⟩
      · rw [if_pos (by omega)] at hk
        refine cx_keep hC hp i3 w ok.2.2.1.1.2.2.2 (fun J hJ i3J wJ fJ I1 q1 I2 q2 => ?_)
        have hS : cl_S I1 (1 + 18 + 3 + 1 + 5 * i) (ab_f (A.2.2.2 i) 0 0) := by
          rw [q1]
          exact ⟨(wJ.1.2.2.2 i hi).1.up, fun ho => absurd (show (0 : Int32) = 1 from ho) (by decide)⟩
        have f1 : ob_fr (cl_s (1 + 18 + 3 + 1 + 5 * i)) J I1 := by rw [q1]; exact ob_fr.rf.up ⟨by omega, by omega⟩
        have w1 := wJ.put hi hS f1
        have cz := hJ.cz2 hp i3J w1 (cl_z_s hi f1)
        have e7 : I1 (1 + 18 + 3 + 1 + 5 * i) 7 = (A.2.2.2 i).1 7 := hS.1 7 (by decide)
        rw [e7] at q2
        subst q2
        have o := cg_out (I := I) (v := (A.2.2.2 i).1 7) cz.1 (fun r hr => by rw [cz.2 r hr]; exact fJ r hr)
        exact hk rfl _ o.1 o.2
      · rw [if_neg (by omega)] at hE
        exact hE (by decide)
    · rw [if_neg (by rw [e]; decide)] at hE
      exact hE (by decide)
  have rl : ∀ (J : pm_I) (K : Int32 → pm_I → Prop), rg_R J len txt err P A n H sv S → ((if ab_ths A (xs (x4 + 1).toNatClampNeg) = 0 then (if (ab_sx A (xs (x4 + 1).toNatClampNeg)).2.1 = 0 then (0 : Int32) else 2) else (1 : Int32)) = 0 → ∀ L, rg_P J L 0 len txt err P (ab_set A ((xs (x4 + 1).toNatClampNeg)).toNatClampNeg (ab_f (ab_sx A (xs (x4 + 1).toNatClampNeg)) 0 0)) (min (n + 1) 10) (ab_push A H) sv S → K ((ab_sx A (xs (x4 + 1).toNatClampNeg)).1 7) L) → (¬ (if ab_ths A (xs (x4 + 1).toNatClampNeg) = 0 then (if (ab_sx A (xs (x4 + 1).toNatClampNeg)).2.1 = 0 then (0 : Int32) else 2) else (1 : Int32)) = 0 → ∀ L b, rg_P J L ((if ab_ths A (xs (x4 + 1).toNatClampNeg) = 0 then (if (ab_sx A (xs (x4 + 1).toNatClampNeg)).2.1 = 0 then (0 : Int32) else 2) else (1 : Int32))) len txt err P A n H sv S → K b L) → wX7_close G 499 (xs (x4 + 1).toNatClampNeg) J K := by
    intro J K hR hk hE
    unfold wX7_close
    refine rx_ses hR.2.1.1 (fun i hi hx h0 e => ⟨fun z => absurd rfl z, fun _ => ?_⟩) (fun e => ⟨fun _ => ?_, fun z => absurd z (by decide)⟩)
    · rw [if_pos e] at hk hE
      have g := rg_up (v := 0) hR
      have e0 := g.2.2
      have esx : ab_sx A (xs (x4 + 1).toNatClampNeg) = A.2.2.2 i := by unfold ab_sx; rw [hx, nI_clamp (by omega)]
      rw [esx, hx, nI_clamp (by omega)] at hk
      rw [esx] at hE
      obtain ⟨d, gg⟩ := (ok.2.2.1.1.2.2.1 i hi h0).g h0 (by omega)
      have hn := gg.2.2.2.2
      rw [hx]
      refine rf_und ((g.1.2.1.1.2.2.2 i hi).1 h0) gg hi ⟨fun z => rf_thF e0 ⟨fun _ => ?_, fun z => absurd rfl z⟩, fun z => rf_thT e0 (by decide) ⟨fun z => absurd z (by decide), fun _ => ?_⟩⟩
      · have z0 := (nI_leI (a := (A.2.2.2 i).2.1) (b := 0) (by omega) (by omega)).mp z
        rw [if_pos (by omega)] at hk
        refine rx_keep g ok (fun L gL => rf_of (j := 0) rfl ⟨vp_in_nI (by omega) (by decide), fun I1 q1 => rf_of (j := 7) rfl ⟨vp_in_nI (by omega) (by decide), ?_⟩⟩)
        rw [nI_clamp (by omega)] at q1
        have f1 : rf_f 499 (17 + 134 * i) L I1 := by rw [q1]; exact rf_f.rf.up (by omega) (by omega)
        have w1 : rf_W I1 499 (ab_set A i (ab_f (A.2.2.2 i) 0 0)) P := by
          refine ⟨gL.1.2.1.1.put ok.2.2.1.1.n24 hi ⟨fun h => absurd (show (0 : Int32) = 1 from h) (by decide), fun _ => ?_⟩ f1.2, gL.1.2.1.2.f f1⟩
          have : I1 (499 + 1) (17 + 134 * i) = 0 := by rw [q1]; exact ob_us _ _ _ _
          rw [this]; decide
        rw [nI_clamp (by omega)]
        have e7 : I1 (499 + 1) (17 + 134 * i + 7) = (A.2.2.2 i).1 7 := by
          rw [q1, ob_uq (by omega)]
          exact ((gL.1.2.1.1.2.2.2 i hi).1 h0).1 7 (by decide)
        rw [e7]
        exact hk rfl I1 (rg_z gL w1 f1.z)
      · rw [if_neg (fun hh => z (by rw [hh]; exact Int32.le_refl 0))] at hE
        rw [ob_uu]
        exact hE (by decide) _ _ (rg_up hR)
    · rw [if_neg (by rw [e]; decide)] at hE
      exact hE (by decide) _ _ (rg_up hR)
  refine cl _ (fun e J hJ hv => rl _ _ (hR.fr (fun r h1 h2 => hJ.2 r h1 (by omega))) (fun _ L hL => ⟨hL.2.2, fun _ => fin_v hL hv rfl, hk L (fin_g hJ hL ?_)⟩) (fun ne => absurd e ne)) (fun ne => rl _ _ hR (fun e => absurd e ne) (fun _ L b hL => ⟨hL.2.2, fun e => absurd e ne, hk L (fin_g (cg_id hC) hL ok1)⟩))
  exact ok_push ok ⟨(ok.2.2.1.1.shut rfl).up (by omega), ok.2.2.1.2⟩
