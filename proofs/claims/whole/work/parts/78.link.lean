/-! ===== the calls that change (4): setLink ===== -/
theorem ok_trn_b {A : aT} {a b i j : Nat} (ha : a < 8) (hb : b < 8) (hab : a ≠ b) (hi : i < 8) (hj : j < 8) : ab_bit ((ab_trn A (nI a) (nI b)).2.1 i) (nI j) = (ab_bit (A.2.1 i) (nI j) ^^ ((decide (i = a) && decide (j = b)) || (decide (i = b) && decide (j = a)))) := by
  unfold ab_trn
  rw [nI_clamp (by omega), nI_clamp (by omega), ab_bit_bt (by omega), ab_bit_bt (by omega)]
  show ob_bt (upd (upd A.2.1 a (A.2.1 a ^^^ (1 <<< (nI b &&& 31)))) b (upd A.2.1 a (A.2.1 a ^^^ (1 <<< (nI b &&& 31))) b ^^^ (1 <<< (nI a &&& 31))) i) j = _
  by_cases ib : i = b
  · rw [ib, pk_us, pk_un (fun e => hab e.symm), ob_bxor, ob_bone a ha j hj, decide_eq_false (show ¬ b = a from fun e => hab e.symm), decide_eq_true rfl]
    rw [Bool.false_and, Bool.false_or, Bool.true_and]
    by_cases e : a = j
    · rw [decide_eq_true e, decide_eq_true e.symm]
    · rw [decide_eq_false e, decide_eq_false (fun h => e h.symm)]
  · rw [pk_un ib, decide_eq_false ib, Bool.false_and, Bool.or_false]
    by_cases ia : i = a
    · rw [ia, pk_us, ob_bxor, ob_bone b hb j hj, decide_eq_true rfl, Bool.true_and]
      by_cases e : b = j
      · rw [decide_eq_true e, decide_eq_true e.symm]
      · rw [decide_eq_false e, decide_eq_false (fun h => e h.symm)]
    · rw [pk_un ia, decide_eq_false ia, Bool.false_and, Bool.xor_false]
theorem ok_trn {P : aP} {c a b : Nat} {A : aT} (h : ok_T P c A) (ha : a < 8) (hb : b < 8) (hab : a ≠ b) : ok_T P c (ab_trn A (nI a) (nI b)) := by
  refine ⟨fun i j hi hj => ?_, h.2⟩
  rw [ok_trn_b ha hb hab hi hj, ok_trn_b ha hb hab hj hi, h.1 i j hi hj]
  congr 1
  rw [Bool.or_comm, Bool.and_comm (decide (i = a)), Bool.and_comm (decide (i = b))]
theorem ok_trn_d {P : aP} {c a b : Nat} {A : aT} (h : ok_T P c A) (ha : a < 8) (hb : b < 8) (hab : a ≠ b) (hu : ab_up A (nI a) (nI b) = true) : ab_up (ab_trn A (nI a) (nI b)) (nI a) (nI b) = false ∧ ab_up (ab_trn A (nI a) (nI b)) (nI b) (nI a) = false := by
  unfold ab_up at hu ⊢
  rw [nI_clamp (by omega)] at hu
  rw [nI_clamp (by omega), nI_clamp (by omega), ok_trn_b ha hb hab ha hb, ok_trn_b ha hb hab hb ha, ← h.1 a b ha hb, hu]
  rw [decide_eq_true (rfl : a = a), decide_eq_true (rfl : b = b), Bool.true_and, Bool.true_or, Bool.or_true]
  exact ⟨rfl, rfl⟩
theorem rf_trn {N : Nat → Int32} {A : aT} {a b : Nat} {v u : Int32} (h : rf_T N A) (hn : ok_24 A) (ha : a < 8) (hb : b < 8) (ev : v = N (9 + a) ^^^ (1 <<< (nI b &&& 31))) (eu : u = upd N (9 + a) v (9 + b) ^^^ (1 <<< (nI a &&& 31))) : rf_T (upd (upd N (9 + a) v) (9 + b) u) (ab_trn A (nI a) (nI b)) := by
  have e : ∀ x, x ≠ 9 + a → x ≠ 9 + b → upd (upd N (9 + a) v) (9 + b) u x = N x := fun x h1 h2 => by rw [pk_un h2, pk_un h1]
  unfold ab_trn
  rw [nI_clamp (by omega), nI_clamp (by omega)]
  have f1 : ∀ k, k < 8 → upd N (9 + a) v (9 + k) = upd A.2.1 a (A.2.1 a ^^^ (1 <<< (nI b &&& 31))) k := fun k hk => by
    by_cases ek : k = a
    · rw [ek, pk_us, pk_us, ev, h.2.2.1 a ha]
    · rw [pk_un (by omega), pk_un ek]; exact h.2.2.1 k hk
  refine ⟨by rw [e 0 (by omega) (by omega)]; exact h.1, fun k hk => by rw [e _ (by omega) (by omega)]; exact h.2.1 k hk, fun k hk => ?_, fun i hi => (h.2.2.2 i hi).rw (hn i hi) (fun x h1 h2 => e x (by omega) (by omega))⟩
  show _ = upd (upd A.2.1 a (A.2.1 a ^^^ (1 <<< (nI b &&& 31)))) b (upd A.2.1 a (A.2.1 a ^^^ (1 <<< (nI b &&& 31))) b ^^^ (1 <<< (nI a &&& 31))) k
  by_cases ek : k = b
  · rw [ek, pk_us, pk_us, eu, f1 b hb]
  · rw [pk_un (by omega), pk_un ek]; exact f1 k hk
theorem ab_s5_l {P : aP} {x y : Int32} {A : aT} : ∀ k, (ob_it (ab_s5 P x y) k A).2.1 = A.2.1
  | 0 => rfl
  | k + 1 => by
    show (ab_s5 P x y (ob_it (ab_s5 P x y) k A) k).2.1 = _
    unfold ab_s5
    split
    · exact ab_s5_l k
    · exact ab_s5_l k
theorem ab_s5_t {P : aP} {x y : Int32} {A : aT} : ∀ k, (ob_it (ab_s5 P x y) k A).1 = A.1
  | 0 => rfl
  | k + 1 => by
    show (ab_s5 P x y (ob_it (ab_s5 P x y) k A) k).1 = _
    unfold ab_s5
    split
    · exact ab_s5_t k
    · exact ab_s5_t k
def ab_sl (P : aP) (A : aT) (x y u : Int32) : aT := if u = 0 then ob_it (ab_s5 P x y) 6 (ab_trn A x y) else ab_trn A x y
def ab_sv (P : aP) (A : aT) (x y u : Int32) : Int32 := if u = 0 then nI (ab_c5 P x y (ab_trn A x y) 6) else 0
theorem case_29 {G : pm_G} {xs : Nat → Int32} {x4 : Int32} {I : pm_I} {K : pm_I → Prop} {c : Nat} (hG : gK G) (h : gS c I) (hc : c < 512) (hk : ∀ J, gS (c + 1) J → K J) : wC29 G xs x4 I K := by
  obtain ⟨len, txt, err, P, A, n, H, sv, S, hC, hR, ok⟩ := h
  have ok1 := ok.up (c' := c + 1) (by omega)
  have oP := ok.2.1
  have n8 := oP.1.1
  obtain ⟨p, hp, i3, w⟩ := hC.pl
  unfold wC29 wX7_thrown
  generalize (if xs (x4 + 3).toNatClampNeg = 0 then (0 : Int32) else 1) = u
  have th0 : (if ab_th2 P (xs (x4 + 1).toNatClampNeg) (xs (x4 + 2).toNatClampNeg) = 0 then (if (ab_dy P (xs (x4 + 1).toNatClampNeg) (xs (x4 + 2).toNatClampNeg) = 0 ∨ ob_b (ab_up A (xs (x4 + 1).toNatClampNeg) (xs (x4 + 2).toNatClampNeg)) = u) then (3 : Int32) else 0) else ab_th2 P (xs (x4 + 1).toNatClampNeg) (xs (x4 + 2).toNatClampNeg)) = 0 → ob_ix (ab_np P) (xs (x4 + 1).toNatClampNeg) ∧ ob_ix (ab_np P) (xs (x4 + 2).toNatClampNeg) ∧ ¬ (xs (x4 + 1).toNatClampNeg) = (xs (x4 + 2).toNatClampNeg) := by
    intro e
    by_cases h1 : ab_ip P (xs (x4 + 1).toNatClampNeg) = true ∧ ab_ip P (xs (x4 + 2).toNatClampNeg) = true
    · refine ⟨(ab_ip_t oP).mp h1.1, (ab_ip_t oP).mp h1.2, fun h2 => ?_⟩
      have : ab_th2 P (xs (x4 + 1).toNatClampNeg) (xs (x4 + 2).toNatClampNeg) = 2 := by unfold ab_th2; rw [if_pos h1, if_pos h2]
      rw [this, if_neg (by decide)] at e
      exact absurd e (by decide)
    · have : ab_th2 P (xs (x4 + 1).toNatClampNeg) (xs (x4 + 2).toNatClampNeg) = 1 := if_neg h1
      rw [this, if_neg (by decide)] at e
      exact absurd e (by decide)
  have cl : ∀ K : Int32 → pm_I → Prop, ((if ab_th2 P (xs (x4 + 1).toNatClampNeg) (xs (x4 + 2).toNatClampNeg) = 0 then (if (ab_dy P (xs (x4 + 1).toNatClampNeg) (xs (x4 + 2).toNatClampNeg) = 0 ∨ ob_b (ab_up A (xs (x4 + 1).toNatClampNeg) (xs (x4 + 2).toNatClampNeg)) = u) then (3 : Int32) else 0) else ab_th2 P (xs (x4 + 1).toNatClampNeg) (xs (x4 + 2).toNatClampNeg)) = 0 → ∀ J, cg_P I J len txt err P (ab_sl P A (xs (x4 + 1).toNatClampNeg) (xs (x4 + 2).toNatClampNeg) u) (min (n + 1) 10) (ab_push A H) sv S → J 515 0 = ab_sv P A (xs (x4 + 1).toNatClampNeg) (xs (x4 + 2).toNatClampNeg) u → K 0 J) → (¬ (if ab_th2 P (xs (x4 + 1).toNatClampNeg) (xs (x4 + 2).toNatClampNeg) = 0 then (if (ab_dy P (xs (x4 + 1).toNatClampNeg) (xs (x4 + 2).toNatClampNeg) = 0 ∨ ob_b (ab_up A (xs (x4 + 1).toNatClampNeg) (xs (x4 + 2).toNatClampNeg)) = u) then (3 : Int32) else 0) else ab_th2 P (xs (x4 + 1).toNatClampNeg) (xs (x4 + 2).toNatClampNeg)) = 0 → K ((if ab_th2 P (xs (x4 + 1).toNatClampNeg) (xs (x4 + 2).toNatClampNeg) = 0 then (if (ab_dy P (xs (x4 + 1).toNatClampNeg) (xs (x4 + 2).toNatClampNeg) = 0 ∨ ob_b (ab_up A (xs (x4 + 1).toNatClampNeg) (xs (x4 + 2).toNatClampNeg)) = u) then (3 : Int32) else 0) else ab_th2 P (xs (x4 + 1).toNatClampNeg) (xs (x4 + 2).toNatClampNeg))) I) → wL_setLink G 515 (xs (x4 + 1).toNatClampNeg) (xs (x4 + 2).toNatClampNeg) u I K := by
    intro K hk hE
    unfold wL_setLink wX6_setLink
    refine cx_two hG hp i3 w oP (fun i1 i2 ne e => ?_) (fun e => Or.inl ⟨rfl, ?_⟩) (fun e => Or.inr (Or.inl ⟨rfl, ?_⟩))
    · rw [if_pos e] at hk hE
      have no : (ab_dy P (xs (x4 + 1).toNatClampNeg) (xs (x4 + 2).toNatClampNeg) = 0 ∨ ob_b (ab_up A (xs (x4 + 1).toNatClampNeg) (xs (x4 + 2).toNatClampNeg)) = u) → 2 = 3 ∧ K 1 I ∨ 2 = 1 ∧ K 2 I ∨ 2 = 2 ∧ K 3 I := fun hn => Or.inr (Or.inr ⟨rfl, by rw [if_pos hn] at hE; exact hE (by decide)⟩)
      rw [i3, nI_clamp (by omega)]
      refine ⟨hG.P hp, cl_dy w.2.1 (i1.wd n8) (i2.wd n8) ⟨fun z => cl_up w.1 (i1.wd n8) ⟨fun z2 => ?_, fun z2 => no (Or.inr z2)⟩, fun z => no (Or.inl z)⟩⟩
      rw [if_neg (fun hh => hh.elim z z2)] at hk
      obtain ⟨a, ha, ea⟩ := i1
      obtain ⟨b, hb, eb⟩ := i2
      have hab : a ≠ b := fun h => ne (by rw [ea, eb, h])
      rw [ea, eb] at hk ⊢
      refine cx_keep hC hp i3 w ok.2.2.1.1.2.2.2 (fun J hJ i3J wJ fJ => cl_trn wJ.1 ⟨a, by omega, rfl⟩ ⟨b, by omega, rfl⟩ (fun L hL fL => ?_))
      have wL : cl_W L (1 + 18) p (ab_trn A (nI a) (nI b)) P := ⟨hL, wJ.2.1.rw (fun r h1 h2 _ => fL r (by have := wJ.2.2; omega)) (by rw [fL (p + 5) (by have := wJ.2.2; omega)]), wJ.2.2⟩
      have fz : ob_fr (cl_z (1 + 18) p) J L := fun r hr => fL r (fun hh => hr (Or.inl ⟨by omega, by omega⟩))
      have fin : ∀ (M : pm_I) (B : aT) (v : Int32), cl_W M (1 + 18) p B P → ob_fr (cl_z (1 + 18) p) J M → B = ab_sl P A (nI a) (nI b) u → v = ab_sv P A (nI a) (nI b) u → ∀ I2 : pm_I, I2 = pm_up M 515 0 v → K 0 I2 := by
        intro M B v hM fM hB hv I2 q2
        subst q2
        have cz := hJ.cz2 hp i3J hM fM
        have o := cg_out (I := I) (v := v) cz.1 (fun r hr => by rw [cz.2 r hr]; exact fJ r hr)
        subst hB
        exact hk rfl _ o.1 (o.2.trans hv)
      refine ⟨fun y => ?_, fun y => ?_⟩
      · rw [show L 1 3 = nI p by rw [fL 1 (by omega)]; exact i3J, nI_clamp (by omega)]
        refine ⟨hG.P hp, cl_leave wL oP (ok_trn ok.2.2.1.1 (by omega) (by omega) hab) (by omega) (fun M hM fM => fin M _ _ hM (fz.tr fM) ?_ ?_)⟩
        · unfold ab_sl; rw [if_pos y]
        · unfold ab_sv; rw [if_pos y]
      · refine fin L _ _ wL fz ?_ ?_
        · unfold ab_sl; rw [if_neg y]
        · unfold ab_sv; rw [if_neg y]
    · rw [if_neg (by rw [e]; decide), e] at hE
      exact hE (by decide)
    · rw [if_neg (by rw [e]; decide), e] at hE
      exact hE (by decide)
  have rl : ∀ (J : pm_I) (K : Int32 → pm_I → Prop), rg_R J len txt err P A n H sv S → ((if ab_th2 P (xs (x4 + 1).toNatClampNeg) (xs (x4 + 2).toNatClampNeg) = 0 then (if (ab_dy P (xs (x4 + 1).toNatClampNeg) (xs (x4 + 2).toNatClampNeg) = 0 ∨ ob_b (ab_up A (xs (x4 + 1).toNatClampNeg) (xs (x4 + 2).toNatClampNeg)) = u) then (3 : Int32) else 0) else ab_th2 P (xs (x4 + 1).toNatClampNeg) (xs (x4 + 2).toNatClampNeg)) = 0 → ∀ L, rg_P J L 0 len txt err P (ab_sl P A (xs (x4 + 1).toNatClampNeg) (xs (x4 + 2).toNatClampNeg) u) (min (n + 1) 10) (ab_push A H) sv S → K (ab_sv P A (xs (x4 + 1).toNatClampNeg) (xs (x4 + 2).toNatClampNeg) u) L) → (¬ (if ab_th2 P (xs (x4 + 1).toNatClampNeg) (xs (x4 + 2).toNatClampNeg) = 0 then (if (ab_dy P (xs (x4 + 1).toNatClampNeg) (xs (x4 + 2).toNatClampNeg) = 0 ∨ ob_b (ab_up A (xs (x4 + 1).toNatClampNeg) (xs (x4 + 2).toNatClampNeg)) = u) then (3 : Int32) else 0) else ab_th2 P (xs (x4 + 1).toNatClampNeg) (xs (x4 + 2).toNatClampNeg)) = 0 → ∀ L b, rg_P J L ((if ab_th2 P (xs (x4 + 1).toNatClampNeg) (xs (x4 + 2).toNatClampNeg) = 0 then (if (ab_dy P (xs (x4 + 1).toNatClampNeg) (xs (x4 + 2).toNatClampNeg) = 0 ∨ ob_b (ab_up A (xs (x4 + 1).toNatClampNeg) (xs (x4 + 2).toNatClampNeg)) = u) then (3 : Int32) else 0) else ab_th2 P (xs (x4 + 1).toNatClampNeg) (xs (x4 + 2).toNatClampNeg))) len txt err P A n H sv S → K b L) → wX7_setLink G 499 (xs (x4 + 1).toNatClampNeg) (xs (x4 + 2).toNatClampNeg) u J K := by
    intro J K hR hk hE
    unfold wX7_setLink
    refine rx_two hR.2.1.2 oP (fun i1 i2 ne e => ⟨fun z => absurd rfl z, fun _ => ?_⟩) (fun e => ⟨fun _ => ?_, fun z => absurd z (by decide)⟩)
    · rw [if_pos e] at hk hE
      have g := rg_up (v := 0) hR
      have e0 := g.2.2
      rw [e]
      have no : (ab_dy P (xs (x4 + 1).toNatClampNeg) (xs (x4 + 2).toNatClampNeg) = 0 ∨ ob_b (ab_up A (xs (x4 + 1).toNatClampNeg) (xs (x4 + 2).toNatClampNeg)) = u) → K 0 (pm_up (pm_up J 499 0 0) 499 0 3) := fun hn => by rw [if_pos hn] at hE; rw [ob_uu]; exact hE (by decide) _ _ (rg_up hR)
      have ix := ob_ix8 (i1.wd n8) (i2.wd n8)
      rw [ob_mc, g.1.2.1.2.2.2.1 _ (ix.cl (by decide))]
      refine ⟨(ix.wd (m := 128) (by decide)).in (by decide), fun z => rf_thT e0 (by decide) ⟨fun z => absurd z (by decide), fun _ => no (Or.inl z)⟩, fun z => rf_up g.1.2.1.1 (i1.wd n8) ⟨fun z2 => rf_thF e0 ⟨fun _ => ?_, fun z => absurd rfl z⟩, fun z2 => rf_thT e0 (by decide) ⟨fun z => absurd z (by decide), fun _ => no (Or.inr z2)⟩⟩⟩
      have hcn : ¬ (ab_dy P (xs (x4 + 1).toNatClampNeg) (xs (x4 + 2).toNatClampNeg) = 0 ∨ ob_b (ab_up A (xs (x4 + 1).toNatClampNeg) (xs (x4 + 2).toNatClampNeg)) = u) := fun hh => hh.elim z z2
      rw [if_neg hcn] at hk
      obtain ⟨a, ha, ea⟩ := i1
      obtain ⟨b, hb, eb⟩ := i2
      have hab : a ≠ b := fun h => ne (by rw [ea, eb, h])
      rw [ea, eb] at hk z2 ⊢
      rw [show (9 : Int32) + nI a = nI (9 + a) from nI_add 9 a, show (9 : Int32) + nI b = nI (9 + b) from nI_add 9 b, nI_clamp (by omega), nI_clamp (by omega)]
      refine rx_keep g ok (fun L gL => ⟨vp_in_nI (by omega) (by decide), vp_in_nI (by omega) (by decide), fun I1 q1 => ⟨vp_in_nI (by omega) (by decide), vp_in_nI (by omega) (by decide), fun I2 q2 => ?_⟩⟩)
      have f2 : ob_fr (rf_z 499) L I2 := by rw [q2, q1]; exact (ob_fr.rf.up (Or.inl rfl)).up (Or.inl rfl)
      have ot := ok_trn (a := a) (b := b) ok.2.2.1.1 (by omega) (by omega) hab
      have w2 : rf_W I2 499 (ab_trn A (nI a) (nI b)) P := by
        refine ⟨?_, gL.1.2.1.2.rw (fun r h1 h2 => f2 r (fun hh => by rcases hh with hh | hh | hh <;> omega))⟩
        rw [q2, q1, ob_uf, ob_uf]
        exact rf_trn gL.1.2.1.1 ok.2.2.1.1.n24 (by omega) (by omega) rfl rfl
      unfold ab_sl ab_sv at hk
      by_cases y : u = 0
      · rw [if_pos y, if_pos y] at hk
        have hup : ab_up A (nI a) (nI b) = true := by
          cases hz : ab_up A (nI a) (nI b) with
          | true => rfl
          | false => rw [hz, y] at z2; exact absurd rfl z2
        obtain ⟨d1, d2⟩ := ok_trn_d (a := a) (b := b) ok.2.2.1.1 (by omega) (by omega) hab hup
        have o5 := ob_it_ok (f := ab_s5 P (nI a) (nI b)) (n := 6) (fun B i hi hB => ok_s5 oP hi hB) ot
        have l5 := fun k => ab_s5_l (P := P) (x := nI a) (y := nI b) (A := ab_trn A (nI a) (nI b)) k
        generalize ab_trn A (nI a) (nI b) = A1 at *
        refine ob_lp3 (fun k b' z M => b' = nI (ab_c5 P (nI a) (nI b) A1 k) ∧ z = nI k ∧ rf_W M 499 (ob_it (ab_s5 P (nI a) (nI b)) k A1) P ∧ ob_fr (rf_z 499) I2 M) 6 ⟨rfl, rfl, w2, ob_fr.rf⟩ ?_
        intro Q k b' zz M hk' hI hQ
        obtain ⟨hb', hz', hM, fM⟩ := hI
        subst hb'; subst hz'
        refine ⟨fun hc1 => ?_, fun hc1 => ⟨fun yy => absurd y yy, fun _ => ?_⟩⟩
        · have ek := (ob_to (n := 6) (by decide) hk').1 hc1
          subst ek
          exact hk rfl M (rg_z gL hM (f2.tr fM))
        · have hl := (ob_to (n := 6) (by decide) hk').2 hc1
          have oi := o5 k (by omega)
          have li := l5 k
          have st : ob_it (ab_s5 P (nI a) (nI b)) (k + 1) A1 = ab_s5 P (nI a) (nI b) (ob_it (ab_s5 P (nI a) (nI b)) k A1) k := rfl
          have sc : ab_c5 P (nI a) (nI b) A1 (k + 1) = ab_c5 P (nI a) (nI b) A1 k + (if ((ob_it (ab_s5 P (nI a) (nI b)) k A1).2.2.2 k).1 0 = 1 then ab_mc (ab_lv P (ob_it (ab_s5 P (nI a) (nI b)) k A1) k (nI a) (nI b)) (nI a) (nI b) else 0) := rfl
          rw [st, sc] at hQ
          clear st sc hk o5 l5
          generalize ob_it (ab_s5 P (nI a) (nI b)) k A1 = B at *
          have db1 : ab_up B (nI a) (nI b) = false := by unfold ab_up at d1 ⊢; rw [li]; exact d1
          have db2 : ab_up B (nI b) (nI a) = false := by unfold ab_up at d2 ⊢; rw [li]; exact d2
          unfold ab_s5 at hQ
          refine rf_isOpen hM.1 hl ⟨fun x => ?_, fun x => ?_⟩
          · have x' := of_decide_eq_false (ob_b0.mp x)
            rw [if_neg x', if_neg x'] at hQ
            exact hQ _ _ _ hl ⟨nI_add _ 0, nI_1 _, hM, fM⟩
          · have x1 := of_decide_eq_true (ob_b1.mp x)
            rw [if_pos x1, if_pos x1] at hQ
            exact rf_brk hM oP oi.n24 x1 hl (oi.2.2.1 k hl x1) (by omega) db1 db2 (fun N hN fN => hQ _ _ _ hl ⟨nI_add _ _, nI_1 _, hN, fM.tr fN⟩)
      · rw [if_neg y, if_neg y] at hk
        refine ob_lp3 (fun k b' z M => b' = 0 ∧ z = nI 0 ∧ M = I2 ∧ k = 0) 0 ⟨rfl, rfl, rfl, rfl⟩ ?_
        intro Q k b' zz M hk' hI hQ
        obtain ⟨hb', hz', hM, hk0⟩ := hI
        subst hb'; subst hz'; subst hM
        exact ⟨fun hc1 => absurd hc1 (by decide), fun _ => ⟨fun _ => hk rfl M (rg_z gL w2 f2), fun yy => absurd yy y⟩⟩
    · rw [if_neg e] at hE
      exact hE e _ _ (rg_up hR)
  refine cl _ (fun e J hJ hv => rl _ _ (hR.fr (fun r h1 h2 => hJ.2 r h1 (by omega))) (fun _ L hL => ⟨hL.2.2, fun _ => fin_v hL hv rfl, hk L (fin_g hJ hL ?_)⟩) (fun ne => absurd e ne)) (fun ne => rl _ _ hR (fun e => absurd e ne) (fun _ L b hL => ⟨hL.2.2, fun e => absurd e ne, hk L (fin_g (cg_id hC) hL ok1)⟩))
  obtain ⟨⟨a, ha, ea⟩, ⟨b, hb, eb⟩, ne⟩ := th0 e
  have hab : a ≠ b := fun h => ne (by rw [ea, eb, h])
  rw [ea, eb]
  have ot := ok_trn (a := a) (b := b) ok.2.2.1.1 (by omega) (by omega) hab
  refine ok_push ok ⟨?_, ?_⟩
  · unfold ab_sl
    split
    · exact (ob_it_ok (f := ab_s5 P (nI a) (nI b)) (n := 6) (fun B i hi hB => ok_s5 oP hi hB) ot 6 (by omega)).up (by omega)
    · exact ot.up (by omega)
  · obtain ⟨t, ht, et⟩ := ok.2.2.1.2
    refine ⟨t, ht, ?_⟩
    unfold ab_sl
    split
    · rw [ab_s5_t]; exact et
    · exact et
