/-! ===== the calls that change: keep, run, introduce ===== -/
section GC
variable {len : Nat} {txt : Nat → Int32} {err : Int32} {P : aP} {A A' : aT} {n : Nat} {H : Nat → aT} {sv : Nat → Bool} {S : Nat → aT} {G : pm_G} {I J L : pm_I} {c p : Nat}
theorem ok_push (ok : ok_G c len P A n H sv S) (o : ok_X P (c + 1) A') : ok_G (c + 1) len P A' (min (n + 1) 10) (ab_push A H) sv S := by
  have ok1 := ok.up (c' := c + 1) (by omega)
  refine ⟨ok.1, ok.2.1, o, fun k hk => ?_, ok1.2.2.2.2⟩
  unfold ab_push
  by_cases e : k = 0
  · rw [if_pos e]; exact ok1.2.2.1
  · rw [if_neg e]; exact ok1.2.2.2.1 (k - 1) (by omega)
theorem cg_R.cz2 (h : cg_R J len txt err P A n H sv S) (hp : p = 3 ∨ p = 11) (i3 : J 1 3 = nI p) (w : cl_W L (1 + 18) p A' P) (f : ob_fr (cl_z (1 + 18) p) J L) : cg_R L len txt err P A' n H sv S ∧ (∀ r, 499 ≤ r → L r = J r) :=
  ⟨h.nw i3 w (fun r h1 h2 => f r (fun hh => by rcases hh with hh | hh | hh <;> omega)), fun r hr => f r (fun hh => by rcases hh with hh | hh | hh <;> omega)⟩
theorem cx_keep {K : pm_I → Prop} (h : cg_R I len txt err P A n H sv S) (hp : p = 3 ∨ p = 11) (i3 : I 1 3 = nI p) (w : cl_W I (1 + 18) p A P) (h01 : ok_01 A) (hk : ∀ J, cg_R J len txt err P A (min (n + 1) 10) (ab_push A H) sv S → J 1 3 = nI p → cl_W J (1 + 18) p A P → (∀ r, 499 ≤ r → J r = I r) → K J) : wX0_keep G (1 + 86) (1 + 18) I K := by
  refine cl_keep w.1 h01 h.2.2.1 (by omega) (fun J hJ fJ => ?_)
  have f : ∀ r, (r < 87 ∨ 429 ≤ r) → J r = I r := fun r hr => fJ r (fun hh => by have := hh.1; have := hh.2; omega)
  have w' : cl_W J (1 + 18) p A P := ⟨w.1.rw (fun r h1 h2 => f r (by omega)), w.2.1.rw (fun r h1 h2 _ => f r (by have := w.2.2; omega)) (by rw [f (p + 5) (by have := w.2.2; omega)]), w.2.2⟩
  exact hk J (h.nh i3 w' hJ (fun r h1 h2 => f r (by omega))) (by rw [f 1 (by omega)]; exact i3) w' (fun r hr => f r (by omega))
theorem rg_z {v : Int32} (h : rg_P I J v len txt err P A n H sv S) (w : rf_W L 499 A' P) (f : ob_fr (rf_z 499) J L) : rg_P I L v len txt err P A' n H sv S :=
  ⟨h.1.nw w (fun r h1 h2 h3 h4 _ => f r (fun hh => by rcases hh with hh | hh | hh <;> omega)) (fun j _ => by rw [f 499 (fun hh => by rcases hh with hh | hh | hh <;> omega)]), fun r hr => by rw [f r (fun hh => by rcases hh with hh | hh | hh <;> omega)]; exact h.2.1 r hr, by rw [f 499 (fun hh => by rcases hh with hh | hh | hh <;> omega)]; exact h.2.2⟩
theorem rx_keep {v : Int32} {K : pm_I → Prop} (h : rg_P I J v len txt err P A n H sv S) (ok : ok_G c len P A n H sv S) (hk : ∀ L, rg_P I L v len txt err P A (min (n + 1) 10) (ab_push A H) sv S → K L) : wX7_keeps G 499 J K := by
  refine rf_keep h.1.2.1.1 ok.2.2.1.1.n24 (fun k hk => (ok.2.2.2.1 k hk).1.n24) h.1.2.2.1 (fun L hL f1 f2 => hk L ⟨h.1.nh ⟨by rw [f1 (499 + 1) (by decide) (by decide)]; exact h.1.2.1.1, h.1.2.1.2.rw (fun r h1 h2 => f1 r (by omega) (by omega))⟩ hL (fun r h1 h2 _ _ _ h6 => f1 r (by omega) h6) (fun j h1 h2 => f2 j h2), fun r hr => by rw [f1 r (by omega) (by omega)]; exact h.2.1 r hr, by rw [f2 0 (by decide)]; exact h.2.2⟩)
end GC
/-! run -/
theorem ok_tick_t {P : aP} {A : aT} : (ab_tick P A).1 = A.1 + 1 := by
  unfold ab_tick
  refine ob_it_ok (Q := fun B : aT => B.1 = A.1 + 1) (n := 6) (fun a i hi ha => ?_) ?_ 6 (by omega)
  · unfold ab_s4
    split
    · exact ha
    · exact ha
  refine ob_it_ok (Q := fun B : aT => B.1 = A.1 + 1) (n := 6) (fun a i hi ha => ?_) ?_ 6 (by omega)
  · unfold ab_s3
    split
    · exact ha
    · exact ha
  refine ob_it_ok (Q := fun B : aT => B.1 = A.1 + 1) (n := 6) (fun a i hi ha => ?_) ?_ 6 (by omega)
  · unfold ab_s2
    split
    · exact ha
    · exact ha
  refine ob_it_ok (Q := fun B : aT => B.1 = A.1 + 1) (n := 6) (fun a i hi ha => ?_) ?_ 6 (by omega)
  · unfold ab_s1
    split
    · exact ha
    · exact ha
  · rfl
def ab_rn (f : aT → aT) (A : aT) : Nat → aT
  | 0 => A
  | k + 1 => f (ab_rn f A k)
theorem ab_rn_s {f : aT → aT} {A : aT} {k : Nat} : ab_rn f A (k + 1) = f (ab_rn f A k) := rfl
def ab_run (P : aP) (A : aT) (k : Nat) : aT := ab_rn (ab_tick P) A k
theorem ab_run_s {P : aP} {A : aT} {k : Nat} : ab_run P A (k + 1) = ab_tick P (ab_run P A k) := by
  unfold ab_run
  exact ab_rn_s
def ab_rc (P : aP) (A : aT) : Nat → Nat
  | 0 => 0
  | k + 1 => ab_rc P A k + ab_tc (ab_run P A k)
theorem ok_run {P : aP} {A : aT} {c t : Nat} (oP : ok_P P) (o : ok_T P c A) (ht : A.1 = nI t) : ∀ k, ok_T P c (ab_run P A k) ∧ (ab_run P A k).1 = nI (t + k)
  | 0 => ⟨o, ht⟩
  | k + 1 => by
    obtain ⟨o1, e1⟩ := ok_run oP o ht k
    rw [ab_run_s]
    refine ⟨ok_tick oP o1, ?_⟩
    rw [ok_tick_t, e1, nI_1]; rfl
theorem case_25 {G : pm_G} {xs : Nat → Int32} {x4 : Int32} {I : pm_I} {K : pm_I → Prop} {c : Nat} (hG : gK G) (h : gS c I) (hc : c < 512) (hk : ∀ J, gS (c + 1) J → K J) : wC25 G xs x4 I K := by
  obtain ⟨len, txt, err, P, A, n, H, sv, S, hC, hR, ok⟩ := h
  have ok1 := ok.up (c' := c + 1) (by omega)
  have oP := ok.2.1
  have n8 := oP.1.1
  obtain ⟨p, hp, i3, w⟩ := hC.pl
  unfold wC25 wX7_thrown
  obtain ⟨t, ht, et⟩ := ok.2.2.1.2
  have th0 : (if 1 ≤ (xs (x4 + 1).toNatClampNeg) ∧ (xs (x4 + 1).toNatClampNeg) ≤ 300 then (if (xs (x4 + 1).toNatClampNeg) ≤ 9999 - A.1 then (0 : Int32) else 2) else (1 : Int32)) = 0 → ∃ m, m ≤ 300 ∧ (xs (x4 + 1).toNatClampNeg) = nI m ∧ 1 ≤ m ∧ t + m ≤ 9999 := by
    intro e
    have sub : (9999 : Int32) - nI t = nI (9999 - t) := pk_sub (a := 9999) ht
    rw [et, sub] at e
    by_cases h1 : 1 ≤ (xs (x4 + 1).toNatClampNeg) ∧ (xs (x4 + 1).toNatClampNeg) ≤ 300
    · rw [if_pos h1] at e
      by_cases h2 : (xs (x4 + 1).toNatClampNeg) ≤ nI (9999 - t)
      · obtain ⟨m, hm, em⟩ := nI_of (fun hlt => absurd (Int32.le_trans (by decide : (0 : Int32) ≤ 1) h1.1) (Int32.not_le.mpr hlt))
        have a := h1.2
        have b := h1.1
        rw [em] at a b h2
        have a' := (nI_leI (b := 300) (by omega) (by omega)).mp a
        have b' := (nI_leI (a := 1) (by omega) (by omega)).mp b
        have c' := (nI_leI (by omega) (by omega)).mp h2
        exact ⟨m, a', em, b', by omega⟩
      · rw [if_neg h2] at e; exact absurd e (by decide)
    · rw [if_neg h1] at e; exact absurd e (by decide)
  have cl : ∀ K : Int32 → pm_I → Prop, ((if 1 ≤ (xs (x4 + 1).toNatClampNeg) ∧ (xs (x4 + 1).toNatClampNeg) ≤ 300 then (if (xs (x4 + 1).toNatClampNeg) ≤ 9999 - A.1 then (0 : Int32) else 2) else (1 : Int32)) = 0 → ∀ J, cg_P I J len txt err P (ab_run P A ((xs (x4 + 1).toNatClampNeg)).toNatClampNeg) (min (n + 1) 10) (ab_push A H) sv S → J 515 0 = nI (ab_rc P A ((xs (x4 + 1).toNatClampNeg)).toNatClampNeg) → K 0 J) → (¬ (if 1 ≤ (xs (x4 + 1).toNatClampNeg) ∧ (xs (x4 + 1).toNatClampNeg) ≤ 300 then (if (xs (x4 + 1).toNatClampNeg) ≤ 9999 - A.1 then (0 : Int32) else 2) else (1 : Int32)) = 0 → K ((if 1 ≤ (xs (x4 + 1).toNatClampNeg) ∧ (xs (x4 + 1).toNatClampNeg) ≤ 300 then (if (xs (x4 + 1).toNatClampNeg) ≤ 9999 - A.1 then (0 : Int32) else 2) else (1 : Int32))) I) → wL_run G 515 (xs (x4 + 1).toNatClampNeg) I K := by
    intro K hk hE
    unfold wL_run wX6_run
    rw [w.1.1]
    refine ⟨fun z => Or.inl ⟨rfl, ?_⟩, fun z => ⟨fun z2 => ⟨fun z3 => ?_, fun z3 => Or.inr ⟨rfl, ?_⟩⟩, fun z2 => Or.inl ⟨rfl, ?_⟩⟩⟩
    · rw [if_neg (fun hh => absurd z (Int32.not_lt.mpr hh.1))] at hE
      exact hE (by decide)
    · have e : (if 1 ≤ (xs (x4 + 1).toNatClampNeg) ∧ (xs (x4 + 1).toNatClampNeg) ≤ 300 then (if (xs (x4 + 1).toNatClampNeg) ≤ 9999 - A.1 then (0 : Int32) else 2) else (1 : Int32)) = 0 := by rw [if_pos ⟨Int32.not_lt.mp z, z2⟩, if_pos z3]
      replace hk := hk e
      obtain ⟨m, hm, em, h1, _⟩ := th0 e
      rw [em] at hk ⊢
      rw [nI_clamp (by omega)] at hk
      refine cx_keep hC hp i3 w ok.2.2.1.1.2.2.2 (fun J hJ i3J wJ fJ => ?_)
      refine ob_lp3 (fun k b z L => b = nI (ab_rc P A k) ∧ z = nI k ∧ cl_W L (1 + 18) p (ab_run P A k) P ∧ ob_fr (cl_z (1 + 18) p) J L) m ⟨rfl, rfl, wJ, ob_fr.rf⟩ ?_
      intro Q k b z L hk' hI hQ
      obtain ⟨hb, hz, hL, fL⟩ := hI
      subst hb; subst hz
      refine ⟨fun hc1 => ?_, fun hc1 => ?_⟩
      · have ek := (ob_to (n := m) (by omega) hk').1 hc1
        subst ek
        intro I2 q2
        subst q2
        have cz := hJ.cz2 hp i3J hL fL
        have o := cg_out (I := I) (v := nI (ab_rc P A k)) cz.1 (fun r hr => by rw [cz.2 r hr]; exact fJ r hr)
        exact hk _ o.1 o.2
      · have hl := (ob_to (n := m) (by omega) hk').2 hc1
        rw [show L 1 3 = nI p by rw [fL 1 (fun hh => by rcases hh with hh | hh | hh <;> omega)]; exact i3J, nI_clamp (by omega)]
        exact ⟨hG.P hp, cl_tick hL oP (ok_run (k := k) oP ok.2.2.1.1 et).1 (by omega) (fun M hM fM => hQ _ _ _ hl ⟨nI_add _ _, nI_1 _, by rw [ab_run_s]; exact hM, fL.tr fM⟩)⟩
    · rw [if_pos ⟨Int32.not_lt.mp z, z2⟩, if_neg z3] at hE
      exact hE (by decide)
    · rw [if_neg (fun hh => z2 hh.2)] at hE
      exact hE (by decide)
  have rl : ∀ (J : pm_I) (K : Int32 → pm_I → Prop), rg_R J len txt err P A n H sv S → ((if 1 ≤ (xs (x4 + 1).toNatClampNeg) ∧ (xs (x4 + 1).toNatClampNeg) ≤ 300 then (if (xs (x4 + 1).toNatClampNeg) ≤ 9999 - A.1 then (0 : Int32) else 2) else (1 : Int32)) = 0 → ∀ L, rg_P J L 0 len txt err P (ab_run P A ((xs (x4 + 1).toNatClampNeg)).toNatClampNeg) (min (n + 1) 10) (ab_push A H) sv S → K (nI (ab_rc P A ((xs (x4 + 1).toNatClampNeg)).toNatClampNeg)) L) → (¬ (if 1 ≤ (xs (x4 + 1).toNatClampNeg) ∧ (xs (x4 + 1).toNatClampNeg) ≤ 300 then (if (xs (x4 + 1).toNatClampNeg) ≤ 9999 - A.1 then (0 : Int32) else 2) else (1 : Int32)) = 0 → ∀ L b, rg_P J L ((if 1 ≤ (xs (x4 + 1).toNatClampNeg) ∧ (xs (x4 + 1).toNatClampNeg) ≤ 300 then (if (xs (x4 + 1).toNatClampNeg) ≤ 9999 - A.1 then (0 : Int32) else 2) else (1 : Int32))) len txt err P A n H sv S → K b L) → wX7_run G 499 (xs (x4 + 1).toNatClampNeg) J K := by
    intro J K hR hk hE
    unfold wX7_run
    intro J1 q1
    have g := rg_up (v := 0) hR
    rw [← q1] at g
    have e0 := g.2.2
    refine rf_within ⟨fun z => rf_thF e0 ⟨fun z => absurd rfl z, fun _ => ?_⟩, fun z => rf_thT e0 (by decide) ⟨fun _ => ?_, fun z => absurd z (by decide)⟩⟩
    · have z' := of_decide_eq_true (ob_b1.mp z)
      rw [rf_c0, g.1.2.1.1.1, et]
      obtain ⟨m, hm, em⟩ := nI_of (fun hlt => absurd (Int32.le_trans (by decide : (0 : Int32) ≤ 1) z'.1) (Int32.not_le.mpr hlt))
      have hm3 : m ≤ 300 := by
        have := z'.2
        rw [em] at this
        exact (nI_leI (b := 300) (by omega) (by omega)).mp this
      have sub : (9999 : Int32) - nI t = nI (9999 - t) := pk_sub (a := 9999) ht
      rw [if_pos z'] at hk hE
      rw [et, sub] at hk hE
      rw [em] at hk hE ⊢
      rw [nI_add]
      refine ⟨fun z3 => rf_thF e0 ⟨fun _ => ?_, fun z => absurd rfl z⟩, fun z3 => rf_thT e0 (by decide) ⟨fun z => absurd z (by decide), fun _ => ?_⟩⟩
      · have hle : t + m ≤ 9999 := (nI_leI (b := 9999) (by omega) (by omega)).mp z3
        rw [if_pos (nI_le (by omega) (by omega)), nI_clamp (by omega)] at hk
        refine rx_keep g ok (fun L gL => ?_)
        refine ob_lp3 (fun k b z M => b = nI (ab_rc P A k) ∧ z = nI k ∧ rf_W M 499 (ab_run P A k) P ∧ ob_fr (rf_z 499) L M) m ⟨rfl, rfl, gL.1.2.1, ob_fr.rf⟩ ?_
        intro Q k b z M hk' hI hQ
        obtain ⟨hb, hz, hM, fM⟩ := hI
        subst hb; subst hz
        refine ⟨fun hc1 => ?_, fun hc1 => ?_⟩
        · have ek := (ob_to (n := m) (by omega) hk').1 hc1
          subst ek
          exact hk rfl M (rg_z gL hM fM)
        · have hl := (ob_to (n := m) (by omega) hk').2 hc1
          exact rf_tick hM oP (ok_run (k := k) oP ok.2.2.1.1 et).1 (by omega) (fun N hN fN => hQ _ _ _ hl ⟨nI_add _ _, nI_1 _, by rw [ab_run_s]; exact hN, fM.tr fN⟩)
      · have hle : ¬ m ≤ 9999 - t := fun hh => z3 (nI_le (a := t + m) (b := 9999) (by omega) (by omega))
        rw [if_neg (fun hh => hle ((nI_leI (by omega) (by omega)).mp hh))] at hE
        rw [q1, ob_uu]
        exact hE (by decide) _ _ (rg_up hR)
    · rw [if_neg (of_decide_eq_false (ob_b0.mp z))] at hE
      rw [q1, ob_uu]
      exact hE (by decide) _ _ (rg_up hR)
  refine cl _ (fun e J hJ hv => rl _ _ (hR.fr (fun r h1 h2 => hJ.2 r h1 (by omega))) (fun _ L hL => ⟨hL.2.2, fun _ => fin_v hL hv rfl, hk L (fin_g hJ hL ?_)⟩) (fun ne => absurd e ne)) (fun ne => rl _ _ hR (fun e => absurd e ne) (fun _ L b hL => ⟨hL.2.2, fun e => absurd e ne, hk L (fin_g (cg_id hC) hL ok1)⟩))
  obtain ⟨m, hm, em, h1, h2⟩ := th0 e
  rw [em, nI_clamp (by omega)]
  have r := ok_run (k := m) oP ok.2.2.1.1 et
  exact ok_push ok ⟨r.1.up (by omega), t + m, h2, r.2⟩
