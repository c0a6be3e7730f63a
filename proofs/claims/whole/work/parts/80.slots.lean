/-! ===== the calls that change (6): undo, slots, append ===== -/
theorem ob_nb0 : vp_nar .boolean 0 = 0 := by decide
theorem ob_nb1 : vp_nar .boolean 1 = 1 := by decide
theorem case_31 {G : pm_G} {xs : Nat → Int32} {x4 : Int32} {I : pm_I} {K : pm_I → Prop} {c : Nat} (hG : gK G) (h : gS c I) (hc : c < 512) (hk : ∀ J, gS (c + 1) J → K J) : wC31 G xs x4 I K := by
  obtain ⟨len, txt, err, P, A, n, H, sv, S, hC, hR, ok⟩ := h
  have ok1 := ok.up (c' := c + 1) (by omega)
  have oP := ok.2.1
  have n8 := oP.1.1
  obtain ⟨p, hp, i3, w⟩ := hC.pl
  unfold wC31 wX6_undo wX7_undo
  have h01 : ∀ k, k < n → ok_01 (H k) := fun k hk => (ok.2.2.2.1 k hk).1.2.2.2
  have hn10 : n ≤ 10 := hR.2.2.1.2.1
  have e26 := hR.2.2.1.1
  refine cl_back h01 hC.2.2.1 (by omega) (fun hn0 => ?_) (fun J hn0 hJ hJH fJ => ?_)
  · intro I1 q1
    have g := rg_up (v := 0) hR
    rw [← q1] at g
    rw [g.1.2.2.1.1]
    subst hn0
    exact ⟨fun z => absurd rfl z, fun _ => ⟨rfl, hk _ (fin_g (cg_id hC) g ok1)⟩⟩
  · intro I1 q1
    have fJ' : ∀ r, (r < 19 ∨ 53 ≤ r) → r ≠ 87 → J r = I r := fun r h1 h2 => fJ r (fun hh => by have := hh.1; have := hh.2; omega) h2
    have wJ : cl_W J (1 + 18) p (H 0) P := ⟨hJ, w.2.1.rw (fun r h1 h2 _ => fJ' r (by have := w.2.2; omega) (by have := w.2.2; omega)) (by rw [fJ' (p + 5) (by have := w.2.2; omega) (by have := w.2.2; omega)]), w.2.2⟩
    have cJ : cg_R J len txt err P (H 0) (n - 1) (fun k => H (k + 1)) sv S := hC.nh i3 wJ hJH (fun r h1 h2 => fJ' r (by omega) (by omega))
    have rJ : rg_R J len txt err P A n H sv S := hR.fr (fun r h1 h2 => fJ' r (by omega) (by omega))
    have g := rg_up (v := 0) rJ
    rw [← q1] at g
    rw [g.1.2.2.1.1]
    refine ⟨fun z I2 q2 => ?_, fun z => absurd z (nI_ne0 hn0 (by omega))⟩
    rw [show nI n - 1 = nI (n - 1) from pk_sub (b := 1) (by omega)] at q2
    rw [show I2 499 26 = nI (n - 1) by rw [q2, ob_us]]
    refine rf_copy (a := 821 * (n - 1)) (b := 0) (n := 821) (pk_mul 821 (n - 1)) rfl rfl (by omega) (by omega) (by decide) (by decide) (Or.inl (by decide)) (fun L l1 l2 l3 => ?_)
    have i2r : ∀ r, r ≠ 499 → I2 r = I1 r := fun r hr => by rw [q2, ob_ur hr]
    have e26' : L 499 26 = nI (n - 1) := by rw [l1 499 (by decide), q2, ob_us]
    have wL : rf_W L 499 (H 0) P := by
      refine ⟨(g.1.2.2.1.2.2 0 hn0).rw (ok.2.2.2.1 0 hn0).1.n24 (fun x hx => ?_), g.1.2.1.2.rw (fun r h1 h2 => by rw [l1 r (by omega)]; exact i2r r (by omega))⟩
      have := l2 x hx
      rw [Nat.zero_add] at this
      rw [this, i2r _ (by decide), show n - 1 - 0 = n - 1 by omega]
    have hL : rf_H L 499 (n - 1) (fun k => H (k + 1)) := by
      refine ⟨e26', by omega, fun k hk => ?_⟩
      have := g.1.2.2.1.2.2 (k + 1) (by omega)
      rw [l1 (499 + 13) (by decide), i2r (499 + 13) (by decide), show n - 1 - 1 - k = n - 1 - (k + 1) by omega]
      exact this
    refine ⟨e26'.symm, hk L ⟨len, txt, err, P, H 0, n - 1, fun k => H (k + 1), sv, S, cJ.fr (fun r hr => ?_), g.1.nh wL hL (fun r h1 h2 _ _ _ _ => by rw [l1 r (by omega)]; exact i2r r (by omega)) (fun j h1 h2 => by rw [l1 499 (by decide), q2, ob_uq h2]), ok1.1, oP, ok1.2.2.2.1 0 hn0, fun k hk => ok1.2.2.2.1 (k + 1) (by omega), ok1.2.2.2.2⟩⟩
    rw [l1 r (by omega), i2r r (by omega), q1, ob_ur (by omega)]
theorem ob_slot {x : Int32} (h : 0 ≤ x ∧ x ≤ 1) : ∃ s, s < 2 ∧ x = nI s := (ob_ix_iff (n := 2) (by decide)).mpr h
theorem cx_slot {G : pm_G} {I : pm_I} {K : pm_I → Prop} {E : Nat → pm_I → Prop} {x : Int32} (h1 : 0 ≤ x ∧ x ≤ 1 → K I) (h2 : ¬ (0 ≤ x ∧ x ≤ 1) → E 3 I) : wX6_checkSlot G 1 x I K E := by
  unfold wX6_checkSlot
  have e : x < 2 ↔ x ≤ 1 := by
    rw [ob_lt, ob_le, show (2 : Int32).toInt = 2 by decide, ob_i1]; omega
  exact ⟨fun z => h2 (fun hh => absurd z (Int32.not_lt.mpr hh.1)), fun z => ⟨fun z2 => h1 ⟨Int32.not_lt.mp z, e.mp z2⟩, fun z2 => h2 (fun hh => z2 (e.mpr hh.2))⟩⟩
theorem rx_slot {G : pm_G} {q : Nat} {x : Int32} {I : pm_I} {K : Int32 → pm_I → Prop} (h1 : 0 ≤ x ∧ x ≤ 1 → K 0 (pm_up I q 0 0)) (h2 : ¬ (0 ≤ x ∧ x ≤ 1) → K 1 (pm_up I q 0 1)) : wX7_noSlot G q x I K := by
  unfold wX7_noSlot
  intro I1 q1
  have e0 : I1 q 0 = 0 := by rw [q1, ob_us]
  have iff := ob_ix_iff (n := 2) (x := x) (by decide)
  refine rf_no (n := 2) e0 rfl (by decide) (fun i => ⟨Or.inl rfl, by rw [q1]; exact h1 (iff.mp i)⟩) (fun i => ⟨Or.inr rfl, by rw [q1, ob_uu]; exact h2 (fun hh => i (iff.mpr hh))⟩)
theorem case_32 {G : pm_G} {xs : Nat → Int32} {x4 : Int32} {I : pm_I} {K : pm_I → Prop} {c : Nat} (hG : gK G) (h : gS c I) (hc : c < 512) (hk : ∀ J, gS (c + 1) J → K J) : wC32 G xs x4 I K := by
  obtain ⟨len, txt, err, P, A, n, H, sv, S, hC, hR, ok⟩ := h
  have ok1 := ok.up (c' := c + 1) (by omega)
  have oP := ok.2.1
  have n8 := oP.1.1
  obtain ⟨p, hp, i3, w⟩ := hC.pl
  unfold wC32 wX7_thrown
  have cl : ∀ K : Int32 → pm_I → Prop, ((if 0 ≤ (xs (x4 + 1).toNatClampNeg) ∧ (xs (x4 + 1).toNatClampNeg) ≤ 1 then (0 : Int32) else 1) = 0 → ∀ J, cg_P I J len txt err P A n H (fun s => if s = ((xs (x4 + 1).toNatClampNeg)).toNatClampNeg then true else sv s) (fun s => if s = ((xs (x4 + 1).toNatClampNeg)).toNatClampNeg then A else S s) → J 515 0 = ob_b (sv ((xs (x4 + 1).toNatClampNeg)).toNatClampNeg) → K 0 J) → (¬ (if 0 ≤ (xs (x4 + 1).toNatClampNeg) ∧ (xs (x4 + 1).toNatClampNeg) ≤ 1 then (0 : Int32) else 1) = 0 → K ((if 0 ≤ (xs (x4 + 1).toNatClampNeg) ∧ (xs (x4 + 1).toNatClampNeg) ≤ 1 then (0 : Int32) else 1)) I) → wL_saveSnapshot G 515 (xs (x4 + 1).toNatClampNeg) I K := by
    intro K hk hE
    unfold wL_saveSnapshot wX6_saveSnapshot
    refine cx_slot (fun hs => ?_) (fun hs => ⟨rfl, ?_⟩)
    · rw [if_pos hs] at hk
      replace hk := hk rfl
      obtain ⟨s, hs2, es⟩ := ob_slot hs
      rw [es] at hk ⊢
      rw [nI_clamp (by omega)] at hk ⊢
      refine ⟨vp_in_nI hs2 (by decide), vp_in_nI hs2 (by decide), cl_copy w.1 ok.2.2.1.1.2.2.2 (by omega) (fun J hJ fJ => ⟨vp_in_nI hs2 (by decide), fun I1 q1 => ?_⟩)⟩
      rw [ob_nb1] at q1
      have fJ' : ∀ r, (r < 1 + 428 + 1 + 34 * s ∨ 1 + 428 + 1 + 34 * s + 34 ≤ r) → J r = I r := fun r hr => fJ r (fun hh => by have := hh.1; have := hh.2; omega)
      have f1 : ∀ r, r ≠ 1 + 497 → I1 r = J r := fun r hr => by rw [q1, ob_ur hr]
      have g1 : ∀ r, r < 429 → I1 r = I r := fun r hr => by rw [f1 r (by omega)]; exact fJ' r (by omega)
      have c1 : cg_R I1 len txt err P A n H (fun t => if t = s then true else sv t) (fun t => if t = s then A else S t) := by
        obtain ⟨⟨h1, h2, h3⟩, ⟨p', hp', i3', i4', w'⟩, hH, hsl⟩ := hC
        refine ⟨⟨by rw [g1 1 (by omega)]; exact h1, fun k hk => by rw [g1 (1 + 1) (by omega)]; exact h2 k hk, by rw [g1 1 (by omega)]; exact h3⟩, ⟨p', hp', by rw [g1 1 (by omega)]; exact i3', by rw [g1 1 (by omega)]; exact i4', ⟨w'.1.rw (fun r h1 h2 => g1 r (by omega)), w'.2.1.rw (fun r h1 h2 _ => g1 r (by omega)) (by rw [g1 (p' + 5) (by omega)]), w'.2.2⟩⟩, hH.rw (fun r h1 h2 => g1 r (by omega)), fun t ht => ?_⟩
        show I1 (1 + 497) t = ob_b (if t = s then true else sv t) ∧ ((if t = s then true else sv t) = true → cl_T I1 (1 + 428 + 1 + 34 * t) (if t = s then A else S t))
        by_cases e : t = s
        · rw [if_pos e, if_pos e, e]
          exact ⟨by rw [q1, ob_us]; rfl, fun _ => hJ.rw (fun r h1 h2 => f1 r (by omega))⟩
        · rw [if_neg e, if_neg e]
          refine ⟨by rw [q1, ob_uq e, fJ' _ (by omega)]; exact (hsl t ht).1, fun ev => ((hsl t ht).2 ev).rw (fun r h1 h2 => by rw [f1 r (by omega)]; exact fJ' r (by omega))⟩
      have r1 : ∀ r, 499 ≤ r → I1 r = I r := fun r hr => by rw [f1 r (by omega)]; exact fJ' r (by omega)
      rw [(hC.2.2.2 s hs2).1]
      refine ⟨ob_b01 _, fun z I2 q2 => ?_, fun z I2 q2 => ?_⟩
      · subst q2
        have o := cg_out (I := I) (v := 0) c1 r1
        exact hk _ o.1 (by rw [o.2, z])
      · subst q2
        have o := cg_out (I := I) (v := 1) c1 r1
        exact hk _ o.1 (by rw [o.2, (ob_b01 _).resolve_left z])
    · rw [if_neg hs] at hE
      exact hE (by decide)
  have rl : ∀ (J : pm_I) (K : Int32 → pm_I → Prop), rg_R J len txt err P A n H sv S → ((if 0 ≤ (xs (x4 + 1).toNatClampNeg) ∧ (xs (x4 + 1).toNatClampNeg) ≤ 1 then (0 : Int32) else 1) = 0 → ∀ L, rg_P J L 0 len txt err P A n H (fun s => if s = ((xs (x4 + 1).toNatClampNeg)).toNatClampNeg then true else sv s) (fun s => if s = ((xs (x4 + 1).toNatClampNeg)).toNatClampNeg then A else S s) → K (ob_b (sv ((xs (x4 + 1).toNatClampNeg)).toNatClampNeg)) L) → (¬ (if 0 ≤ (xs (x4 + 1).toNatClampNeg) ∧ (xs (x4 + 1).toNatClampNeg) ≤ 1 then (0 : Int32) else 1) = 0 → ∀ L b, rg_P J L ((if 0 ≤ (xs (x4 + 1).toNatClampNeg) ∧ (xs (x4 + 1).toNatClampNeg) ≤ 1 then (0 : Int32) else 1)) len txt err P A n H sv S → K b L) → wX7_saveSnapshot G 499 (xs (x4 + 1).toNatClampNeg) J K := by
    intro J K hR hk hE
    unfold wX7_saveSnapshot
    refine rx_slot (fun hs => ⟨fun _ => ?_, fun z => absurd rfl z⟩) (fun hs => ⟨fun z => absurd z (by decide), fun _ => ?_⟩)
    · rw [if_pos hs] at hk
      replace hk := hk rfl
      obtain ⟨s, hs2, es⟩ := ob_slot hs
      rw [es] at hk ⊢
      have g := rg_up (v := 0) hR
      generalize pm_up J 499 0 0 = J1 at *
      rw [nI_clamp (by omega)] at hk ⊢
      refine ⟨vp_in_nI hs2 (by decide), rf_copy (a := 0) (b := 821 * s) (n := 821) rfl (pk_mul 821 s) rfl (by decide) (by omega) (by decide) (by decide) (Or.inl (by decide)) (fun L l1 l2 l3 => ⟨vp_in_nI hs2 (by decide), fun I1 q1 => ?_⟩)⟩
      rw [ob_nb1] at q1
      have f1 : ∀ r, r ≠ 499 + 15 → I1 r = L r := fun r hr => by rw [q1, ob_ur hr]
      rw [(g.1.2.2.2 s hs2).1]
      refine ⟨ob_b01 _, hk I1 ⟨?_, fun r hr => by rw [f1 r (by omega), l1 r (by omega)]; exact g.2.1 r hr, by rw [f1 499 (by decide), l1 499 (by decide)]; exact g.2.2⟩⟩
      obtain ⟨⟨h1, h2, h3⟩, w', hH, hsl⟩ := g.1
      have fr : ∀ r, r ≠ 499 + 14 → r ≠ 499 + 15 → I1 r = J1 r := fun r h1 h2 => by rw [f1 r h2, l1 r h1]
      refine ⟨⟨by rw [fr 499 (by decide) (by decide)]; exact h1, fun k hk => by rw [fr (499 + 9) (by decide) (by decide)]; exact h2 k hk, by rw [fr 499 (by decide) (by decide)]; exact h3⟩, ⟨by rw [fr (499 + 1) (by decide) (by decide)]; exact w'.1, w'.2.rw (fun r h1 h2 => fr r (by omega) (by omega))⟩, hH.rw (by rw [fr 499 (by decide) (by decide)]) (fr (499 + 13) (by decide) (by decide)), fun t ht => ?_⟩
      show I1 (499 + 15) t = ob_b (if t = s then true else sv t) ∧ ((if t = s then true else sv t) = true → rf_T (fun j => I1 (499 + 14) (821 * t + j)) (if t = s then A else S t))
      rw [f1 (499 + 14) (by decide)]
      by_cases e : t = s
      · rw [if_pos e, if_pos e, e]
        refine ⟨by rw [q1, ob_us]; rfl, fun _ => w'.1.rw ok.2.2.1.1.n24 (fun x hx => ?_)⟩
        show L (499 + 14) (821 * s + x) = _
        rw [l2 x hx, Nat.zero_add]
      · rw [if_neg e, if_neg e]
        refine ⟨by rw [q1, ob_uq e, l1 (499 + 15) (by decide)]; exact (hsl t ht).1, fun ev => ((hsl t ht).2 ev).rw (ok.2.2.2.2 t ht ev).1.n24 (fun x hx => ?_)⟩
        exact l3 _ (by omega)
    · rw [if_neg hs] at hE
      exact hE (by decide) _ _ (rg_up hR)
  refine cl _ (fun e J hJ hv => rl _ _ (hR.fr (fun r h1 h2 => hJ.2 r h1 (by omega))) (fun _ L hL => ⟨hL.2.2, fun _ => fin_v hL hv (fin_b _), hk L (fin_g hJ hL ?_)⟩) (fun ne => absurd e ne)) (fun ne => rl _ _ hR (fun e => absurd e ne) (fun _ L b hL => ⟨hL.2.2, fun e => absurd e ne, hk L (fin_g (cg_id hC) hL ok1)⟩))
  refine ⟨ok1.1, oP, ok1.2.2.1, ok1.2.2.2.1, fun s hs es => ?_⟩
  show ok_X P (c + 1) (if s = ((xs (x4 + 1).toNatClampNeg)).toNatClampNeg then A else S s)
  by_cases h : s = ((xs (x4 + 1).toNatClampNeg)).toNatClampNeg
  · rw [if_pos h]; exact ok1.2.2.1
  · rw [if_neg h]
    have es' : (if s = ((xs (x4 + 1).toNatClampNeg)).toNatClampNeg then true else sv s) = true := es
    rw [if_neg h] at es'
    exact ok1.2.2.2.2 s hs es'
theorem case_33 {G : pm_G} {xs : Nat → Int32} {x4 : Int32} {I : pm_I} {K : pm_I → Prop} {c : Nat} (hG : gK G) (h : gS c I) (hc : c < 512) (hk : ∀ J, gS (c + 1) J → K J) : wC33 G xs x4 I K := by
  obtain ⟨len, txt, err, P, A, n, H, sv, S, hC, hR, ok⟩ := h
  have ok1 := ok.up (c' := c + 1) (by omega)
  have oP := ok.2.1
  have n8 := oP.1.1
  obtain ⟨p, hp, i3, w⟩ := hC.pl
  unfold wC33 wX7_thrown
  have cl : ∀ K : Int32 → pm_I → Prop, ((if 0 ≤ (xs (x4 + 1).toNatClampNeg) ∧ (xs (x4 + 1).toNatClampNeg) ≤ 1 then (if sv ((xs (x4 + 1).toNatClampNeg)).toNatClampNeg = true then (0 : Int32) else 2) else (1 : Int32)) = 0 → ∀ J, cg_P I J len txt err P (S ((xs (x4 + 1).toNatClampNeg)).toNatClampNeg) 0 H sv S → J 515 0 = (S ((xs (x4 + 1).toNatClampNeg)).toNatClampNeg).1 → K 0 J) → (¬ (if 0 ≤ (xs (x4 + 1).toNatClampNeg) ∧ (xs (x4 + 1).toNatClampNeg) ≤ 1 then (if sv ((xs (x4 + 1).toNatClampNeg)).toNatClampNeg = true then (0 : Int32) else 2) else (1 : Int32)) = 0 → K ((if 0 ≤ (xs (x4 + 1).toNatClampNeg) ∧ (xs (x4 + 1).toNatClampNeg) ≤ 1 then (if sv ((xs (x4 + 1).toNatClampNeg)).toNatClampNeg = true then (0 : Int32) else 2) else (1 : Int32))) I) → wL_restoreSnapshot G 515 (xs (x4 + 1).toNatClampNeg) I K := by
    intro K hk hE
    unfold wL_restoreSnapshot wX6_restoreSnapshot
    refine cx_slot (fun hs => ?_) (fun hs => Or.inl ⟨rfl, ?_⟩)
    · rw [if_pos hs] at hk hE
      obtain ⟨s, hs2, es⟩ := ob_slot hs
      rw [es] at hk hE ⊢
      rw [nI_clamp (by omega)] at hk hE ⊢
      rw [(hC.2.2.2 s hs2).1]
      refine ⟨vp_in_nI hs2 (by decide), fun z => ⟨vp_in_nI hs2 (by decide), ?_⟩, fun z => Or.inr ⟨rfl, ?_⟩⟩
      · have z1 := ob_b1.mp z
        rw [if_pos z1] at hk
        have oS := ok.2.2.2.2 s hs2 z1
        refine cl_copy ((hC.2.2.2 s hs2).2 z1) oS.1.2.2.2 (by omega) (fun J hJ fJ => ?_)
        unfold wX0_forget
        intro I1 q1 I2 q2
        have fJ' : ∀ r, (r < 1 + 18 ∨ 1 + 18 + 34 ≤ r) → J r = I r := fun r hr => fJ r (fun hh => by have := hh.1; have := hh.2; omega)
        have f1 : ∀ r, r ≠ 1 + 86 → I1 r = J r := fun r hr => by rw [q1, ob_ur hr]
        have w1 : cl_W I1 (1 + 18) p (S s) P := ⟨hJ.rw (fun r h1 h2 => f1 r (by omega)), w.2.1.rw (fun r h1 h2 _ => by rw [f1 r (by have := w.2.2; omega)]; exact fJ' r (by have := w.2.2; omega)) (by rw [f1 (p + 5) (by have := w.2.2; omega), fJ' (p + 5) (by have := w.2.2; omega)]), w.2.2⟩
        have h1 : cl_H I1 (1 + 86) 0 H := by
          obtain ⟨x, hx, e1, e2, hn, hc2⟩ := hC.2.2.1
          exact ⟨x, hx, by rw [q1, ob_uq (by decide), fJ' _ (by omega)]; exact e1, by rw [q1, ob_us]; rfl, Nat.zero_le 10, fun k hk => absurd hk (Nat.not_lt_zero k)⟩
        have c1 := hC.nh i3 w1 h1 (fun r h1 h2 => by rw [f1 r (by omega)]; exact fJ' r (by omega))
        rw [w1.1.1] at q2
        subst q2
        have o := cg_out (I := I) (v := (S s).1) c1 (fun r hr => by rw [f1 r (by omega)]; exact fJ' r (by omega))
        exact hk rfl _ o.1 o.2
      · rw [if_neg (by rw [ob_b0.mp z]; decide)] at hE
        exact hE (by decide)
    · rw [if_neg hs] at hE
      exact hE (by decide)
  have rl : ∀ (J : pm_I) (K : Int32 → pm_I → Prop), rg_R J len txt err P A n H sv S → ((if 0 ≤ (xs (x4 + 1).toNatClampNeg) ∧ (xs (x4 + 1).toNatClampNeg) ≤ 1 then (if sv ((xs (x4 + 1).toNatClampNeg)).toNatClampNeg = true then (0 : Int32) else 2) else (1 : Int32)) = 0 → ∀ L, rg_P J L 0 len txt err P (S ((xs (x4 + 1).toNatClampNeg)).toNatClampNeg) 0 H sv S → K ((S ((xs (x4 + 1).toNatClampNeg)).toNatClampNeg).1) L) → (¬ (if 0 ≤ (xs (x4 + 1).toNatClampNeg) ∧ (xs (x4 + 1).toNatClampNeg) ≤ 1 then (if sv ((xs (x4 + 1).toNatClampNeg)).toNatClampNeg = true then (0 : Int32) else 2) else (1 : Int32)) = 0 → ∀ L b, rg_P J L ((if 0 ≤ (xs (x4 + 1).toNatClampNeg) ∧ (xs (x4 + 1).toNatClampNeg) ≤ 1 then (if sv ((xs (x4 + 1).toNatClampNeg)).toNatClampNeg = true then (0 : Int32) else 2) else (1 : Int32))) len txt err P A n H sv S → K b L) → wX7_restoreSnapshot G 499 (xs (x4 + 1).toNatClampNeg) J K := by
    intro J K hR hk hE
    unfold wX7_restoreSnapshot
    refine rx_slot (fun hs => ⟨fun z => absurd rfl z, fun _ => ?_⟩) (fun hs => ⟨fun _ => ?_, fun z => absurd z (by decide)⟩)
    · rw [if_pos hs] at hk hE
      obtain ⟨s, hs2, es⟩ := ob_slot hs
      rw [es] at hk hE ⊢
      have g := rg_up (v := 0) hR
      have e0 := g.2.2
      rw [nI_clamp (by omega)] at hk hE ⊢
      rw [(g.1.2.2.2 s hs2).1]
      refine ⟨vp_in_nI hs2 (by decide), fun z => rf_thF e0 ⟨fun _ => ?_, fun z => absurd rfl z⟩, fun z => rf_thT e0 (by decide) ⟨fun z => absurd z (by decide), fun _ => ?_⟩⟩
      · have z1 := ob_b1.mp z
        rw [if_pos z1] at hk
        have oS := ok.2.2.2.2 s hs2 z1
        generalize pm_up J 499 0 0 = J1 at *
        refine rf_copy (a := 821 * s) (b := 0) (n := 821) (pk_mul 821 s) rfl rfl (by omega) (by decide) (by decide) (by decide) (Or.inl (by decide)) (fun L l1 l2 l3 I1 q1 => ?_)
        have f1 : ∀ r, r ≠ 499 → I1 r = L r := fun r hr => by rw [q1, ob_ur hr]
        have w1 : rf_W I1 499 (S s) P := by
          refine ⟨((g.1.2.2.2 s hs2).2 z1).rw oS.1.n24 (fun x hx => ?_), g.1.2.1.2.rw (fun r h1 h2 => by rw [f1 r (by omega)]; exact l1 r (by omega))⟩
          have := l2 x hx
          rw [Nat.zero_add] at this
          rw [f1 _ (by decide), this]
        rw [rf_c0, w1.1.1]
        refine hk rfl I1 ⟨g.1.nh w1 ⟨by rw [q1, ob_us]; rfl, Nat.zero_le 10, fun k hk => absurd hk (Nat.not_lt_zero k)⟩ (fun r h1 h2 _ _ _ _ => by rw [f1 r (by omega)]; exact l1 r (by omega)) (fun j h1 h2 => by rw [q1, ob_uq h2, l1 499 (by decide)]), fun r hr => by rw [f1 r (by omega), l1 r (by omega)]; exact g.2.1 r hr, by rw [q1, ob_uq (by decide), l1 499 (by decide)]; exact e0⟩
      · rw [if_neg (by rw [ob_b0.mp z]; decide)] at hE
        rw [ob_uu]
        exact hE (by decide) _ _ (rg_up hR)
    · rw [if_neg hs] at hE
      exact hE (by decide) _ _ (rg_up hR)
  refine cl _ (fun e J hJ hv => rl _ _ (hR.fr (fun r h1 h2 => hJ.2 r h1 (by omega))) (fun _ L hL => ⟨hL.2.2, fun _ => fin_v hL hv rfl, hk L (fin_g hJ hL ?_)⟩) (fun ne => absurd e ne)) (fun ne => rl _ _ hR (fun e => absurd e ne) (fun _ L b hL => ⟨hL.2.2, fun e => absurd e ne, hk L (fin_g (cg_id hC) hL ok1)⟩))
  by_cases hs : 0 ≤ (xs (x4 + 1).toNatClampNeg) ∧ (xs (x4 + 1).toNatClampNeg) ≤ 1
  · rw [if_pos hs] at e
    by_cases hv2 : sv ((xs (x4 + 1).toNatClampNeg)).toNatClampNeg = true
    · obtain ⟨s, hs2, es⟩ := ob_slot hs
      rw [es, nI_clamp (by omega)] at hv2 ⊢
      exact ⟨ok1.1, oP, ok1.2.2.2.2 s hs2 hv2, fun k hk => absurd hk (Nat.not_lt_zero k), ok1.2.2.2.2⟩
    · rw [if_neg hv2] at e; exact absurd e (by decide)
  · rw [if_neg hs] at e; exact absurd e (by decide)
/-! append -/
def ob_sh (j : Nat) : Int32 := [24, 16, 8, 0, -8].getD j 0
def ob_by (v : Int32) (j : Nat) : Int32 := vp_nar .byte ((v >>> (ob_sh j &&& 31)).toInt8.toInt32)
def ab_tx (txt : Nat → Int32) (len : Nat) (v : Int32) : Nat → Int32 := fun k => if k < len then txt k else ob_by v (k - len)
theorem ob_byr (x : Int32) : ob_ib x.toInt8.toInt32 := by
  unfold ob_ib
  rw [Int8.toInt_toInt32]
  have h1 := Int8.le_toInt x.toInt8
  have h2 := Int8.toInt_lt x.toInt8
  omega
theorem ab_tx_b {txt : Nat → Int32} {len : Nat} {v : Int32} (h : ∀ k, k < len → ob_ib (txt k)) : ∀ k, k < len + 4 → ob_ib (ab_tx txt len v k) := fun k _ => by
  unfold ab_tx
  split
  · exact h k (by assumption)
  · unfold ob_by
    rw [pk_vb]
    exact ob_byr _
theorem ob_sh_s : ∀ j, j < 4 → ob_sh j + (-8) = ob_sh (j + 1) ∧ ¬ ob_sh j < 0 := by decide
/-- four bytes, in rows r (the bytes) and q, place f (how many) -/
theorem ob_put {r q f : Nat} {v : Int32} {len : Nat} {txt : Nat → Int32} {I : pm_I} (hrq : r ≠ q) (hl : len + 4 ≤ 600) (h0 : I q f = nI len) (ht : ∀ k, k < len → I r k = txt k) {i : Nat} {J : pm_I} (hJ : (J q f = nI (len + i) ∧ (∀ k, k < len + i → J r k = ab_tx txt len v k) ∧ (∀ s, s ≠ r → s ≠ q → J s = I s) ∧ ∀ j, j ≠ f → J q j = I q j)) {L : pm_I} (e : L = pm_up (pm_up J r (len + i) (ob_by v i)) q f (nI (len + i + 1))) : (L q f = nI (len + (i + 1)) ∧ (∀ k, k < len + (i + 1) → L r k = ab_tx txt len v k) ∧ (∀ s, s ≠ r → s ≠ q → L s = I s) ∧ ∀ j, j ≠ f → L q j = I q j) := by
  obtain ⟨j1, j2, j3, j4⟩ := hJ
  subst e
  refine ⟨by rw [ob_us]; rfl, fun k hk => ?_, fun s h1 h2 => by rw [ob_ur h2, ob_ur h1]; exact j3 s h1 h2, fun j hj => by rw [ob_uq hj, ob_ur (fun e => hrq e.symm)]; exact j4 j hj⟩
  rw [ob_ur hrq]
  by_cases ek : k = len + i
  · rw [ek, ob_us]
    unfold ab_tx
    rw [if_neg (by omega), show len + i - len = i by omega]
  · rw [ob_uq ek]; exact j2 k (by omega)
theorem cx_put {G : pm_G} {I : pm_I} {K : pm_I → Prop} {v : Int32} {len : Nat} {txt : Nat → Int32} (hl : len + 4 ≤ 600) (h0 : I 1 1 = nI len) (ht : ∀ k, k < len → I (1 + 1) k = txt k) (hk : ∀ J, J 1 1 = nI (len + 4) → (∀ k, k < len + 4 → J (1 + 1) k = ab_tx txt len v k) → (∀ s, s ≠ 1 + 1 → s ≠ 1 → J s = I s) → (∀ j, j ≠ 1 → J 1 j = I 1 j) → K J) : wX6_putFourBytes G 1 v I K := by
  unfold wX6_putFourBytes
  refine ob_lp2 (fun i z J => z = ob_sh i ∧ J 1 1 = nI (len + i) ∧ (∀ k, k < len + i → J (1 + 1) k = ab_tx txt len v k) ∧ (∀ s, s ≠ 1 + 1 → s ≠ 1 → J s = I s) ∧ ∀ j, j ≠ 1 → J 1 j = I 1 j) 4 ⟨rfl, h0, fun k hk => by unfold ab_tx; rw [if_pos (show k < len from hk)]; exact ht k hk, fun _ _ _ => rfl, fun _ _ => rfl⟩ ?_
  intro Q i z J hi hI hQ
  obtain ⟨hz, hJ⟩ := hI
  subst hz
  by_cases e4 : i = 4
  · subst e4
    exact ⟨fun _ => hk J hJ.1 hJ.2.1 hJ.2.2.1 hJ.2.2.2, fun z => absurd (by decide) z⟩
  · have hl4 : i < 4 := by omega
    obtain ⟨s1, s2⟩ := ob_sh_s i hl4
    refine ⟨fun z => absurd z s2, fun _ => ?_⟩
    rw [hJ.1]
    refine ⟨fun z => absurd z (nI_ge (a := len + i) (b := 600) (by omega) (by decide)), fun _ => ⟨vp_in_nI (by omega) (by decide), fun I1 q1 I2 q2 => ?_⟩⟩
    rw [nI_clamp (by omega)] at q1
    have e11 : I1 1 1 = nI (len + i) := by rw [q1, ob_ur (by decide)]; exact hJ.1
    rw [e11, nI_1, q1] at q2
    rw [s1]
    exact hQ _ _ hl4 ⟨rfl, ob_put (r := 1 + 1) (q := 1) (f := 1) (by decide) hl h0 ht hJ q2⟩
theorem rx_put {G : pm_G} {q : Nat} {I : pm_I} {K : pm_I → Prop} {v : Int32} {len : Nat} {txt : Nat → Int32} (hl : len + 4 ≤ 600) (h0 : I q 10 = nI len) (ht : ∀ k, k < len → I (q + 9) k = txt k) (hk : ∀ J, J q 10 = nI (len + 4) → (∀ k, k < len + 4 → J (q + 9) k = ab_tx txt len v k) → (∀ s, s ≠ q + 9 → s ≠ q → J s = I s) → (∀ j, j ≠ 10 → J q j = I q j) → K J) : wX7_bytesOf G q v I K := by
  unfold wX7_bytesOf
  refine ob_lp2 (fun i z J => z = ob_sh i ∧ J q 10 = nI (len + i) ∧ (∀ k, k < len + i → J (q + 9) k = ab_tx txt len v k) ∧ (∀ s, s ≠ q + 9 → s ≠ q → J s = I s) ∧ ∀ j, j ≠ 10 → J q j = I q j) 4 ⟨rfl, h0, fun k hk => by unfold ab_tx; rw [if_pos (show k < len from hk)]; exact ht k hk, fun _ _ _ => rfl, fun _ _ => rfl⟩ ?_
  intro Q i z J hi hI hQ
  obtain ⟨hz, hJ⟩ := hI
  subst hz
  by_cases e4 : i = 4
  · subst e4
    exact ⟨fun _ => hk J hJ.1 hJ.2.1 hJ.2.2.1 hJ.2.2.2, fun z => absurd (by decide) z⟩
  · have hl4 : i < 4 := by omega
    obtain ⟨s1, s2⟩ := ob_sh_s i hl4
    refine ⟨fun z => absurd z s2, fun _ => ?_⟩
    rw [hJ.1]
    refine ⟨vp_in_nI (by omega) (by decide), fun I1 q1 I2 q2 => ?_⟩
    rw [nI_clamp (by omega)] at q1
    have e11 : I1 q 10 = nI (len + i) := by rw [q1, ob_ur (by omega)]; exact hJ.1
    rw [e11, nI_1, q1] at q2
    rw [s1]
    exact hQ _ _ hl4 ⟨rfl, ob_put (r := q + 9) (q := q) (f := 10) (by omega) hl h0 ht hJ q2⟩
theorem case_0 {G : pm_G} {xs : Nat → Int32} {x4 : Int32} {I : pm_I} {K : pm_I → Prop} {c : Nat} (hG : gK G) (h : gS c I) (hc : c < 512) (hk : ∀ J, gS (c + 1) J → K J) : wC0 G xs x4 I K := by
  obtain ⟨len, txt, err, P, A, n, H, sv, S, hC, hR, ok⟩ := h
  have ok1 := ok.up (c' := c + 1) (by omega)
  have oP := ok.2.1
  have n8 := oP.1.1
  obtain ⟨p, hp, i3, w⟩ := hC.pl
  unfold wC0 wX6_append wX7_append
  have hl := ok.1
  rw [hC.1.1]
  refine ⟨fun z => ?_, fun z => ?_⟩
  · have z' : len ≤ 580 := (nI_leI (b := 580) (by omega) (by omega)).mp z
    refine cx_put (len := len) (txt := txt) (by omega) hC.1.1 (fun k hk => (hC.1.2.1 k hk).1) (fun J1 a1 b1 c1 d1 => ?_)
    refine cx_put (len := len + 4) (by omega) a1 b1 (fun J2 a2 b2 c2 d2 => ?_)
    refine cx_put (len := len + 4 + 4) (by omega) a2 b2 (fun J3 a3 b3 c3 d3 => ?_)
    refine cx_put (len := len + 4 + 4 + 4) (by omega) a3 b3 (fun J4 a4 b4 c4 d4 => ?_)
    refine cx_put (len := len + 4 + 4 + 4 + 4) (by omega) a4 b4 (fun J a5 b5 c5 d5 => ?_)
    rw [a5]
    have fc : ∀ r, r ≠ 1 → r ≠ 2 → J r = I r := fun r h1 h2 => by rw [c5 r h2 h1, c4 r h2 h1, c3 r h2 h1, c2 r h2 h1, c1 r h2 h1]
    have fd : ∀ j, j ≠ 1 → J 1 j = I 1 j := fun j h1 => by rw [d5 j h1, d4 j h1, d3 j h1, d2 j h1, d1 j h1]
    obtain ⟨TX, hTX⟩ : ∃ TX, TX = ab_tx (ab_tx (ab_tx (ab_tx (ab_tx txt len (xs (x4 + 1).toNatClampNeg)) (len + 4) (xs (x4 + 2).toNatClampNeg)) (len + 4 + 4) (xs (x4 + 3).toNatClampNeg)) (len + 4 + 4 + 4) (xs (x4 + 4).toNatClampNeg)) (len + 4 + 4 + 4 + 4) (xs (x4 + 5).toNatClampNeg) := ⟨_, rfl⟩
    rw [← hTX] at b5
    have bT : ∀ k, k < len + 20 → ob_ib (TX k) := by rw [hTX]; exact ab_tx_b (ab_tx_b (ab_tx_b (ab_tx_b (ab_tx_b (fun k hk => (hC.1.2.1 k hk).2)))))
    have cJ : cg_R J (len + 20) TX err P A n H sv S := by
      obtain ⟨⟨h1, h2, h3⟩, ⟨p', hp', i3', i4', w'⟩, hH, hsl⟩ := hC
      refine ⟨⟨a5, fun k hk => ⟨b5 k hk, bT k hk⟩, by rw [fd 2 (by decide)]; exact h3⟩, ⟨p', hp', by rw [fd 3 (by decide)]; exact i3', by rw [fd 4 (by decide)]; exact i4', ⟨w'.1.rw (fun r h1 h2 => fc r (by omega) (by omega)), w'.2.1.rw (fun r h1 h2 _ => fc r (by omega) (by omega)) (by rw [fc (p' + 5) (by omega) (by omega)]), w'.2.2⟩⟩, hH.rw (fun r h1 h2 => fc r (by omega) (by omega)), fun s hs => ?_⟩
      rw [fc (1 + 497) (by decide) (by decide)]
      exact ⟨(hsl s hs).1, fun ev => ((hsl s hs).2 ev).rw (fun r h1 h2 => fc r (by omega) (by omega))⟩
    have rJ : rg_R J len txt err P A n H sv S := hR.fr (fun r h1 h2 => fc r (by omega) (by omega))
    intro L0 q0
    have g := rg_up (v := 0) rJ
    rw [← q0] at g
    rw [g.1.1.1, show nI len + 20 = nI (len + 20) from nI_add len 20]
    refine ⟨fun y => ?_, fun y => absurd (nI_le (a := len + 20) (b := 600) (by omega) (by decide)) y⟩
    refine rx_put (len := len) (txt := txt) (by omega) g.1.1.1 g.1.1.2.1 (fun L1 a1 b1 c1 d1 => ?_)
    refine rx_put (len := len + 4) (by omega) a1 b1 (fun L2 a2 b2 c2 d2 => ?_)
    refine rx_put (len := len + 4 + 4) (by omega) a2 b2 (fun L3 a3 b3 c3 d3 => ?_)
    refine rx_put (len := len + 4 + 4 + 4) (by omega) a3 b3 (fun L4 a4 b4 c4 d4 => ?_)
    refine rx_put (len := len + 4 + 4 + 4 + 4) (by omega) a4 b4 (fun L a5' b5 c5 d5 => ?_)
    rw [a5']
    rw [← hTX] at b5
    have gc : ∀ r, r ≠ 499 → r ≠ 508 → L r = L0 r := fun r h1 h2 => by rw [c5 r h2 h1, c4 r h2 h1, c3 r h2 h1, c2 r h2 h1, c1 r h2 h1]
    have gd : ∀ j, j ≠ 10 → L 499 j = L0 499 j := fun j h1 => by rw [d5 j h1, d4 j h1, d3 j h1, d2 j h1, d1 j h1]
    refine ⟨rfl, hk L ⟨len + 20, TX, err, P, A, n, H, sv, S, cJ.fr (fun r hr => by rw [gc r (by omega) (by omega), q0, ob_ur (by omega)]), ?_, ⟨by omega, ok1.2⟩⟩⟩
    obtain ⟨⟨h1, h2, h3⟩, w', hH, hsl⟩ := g.1
    refine ⟨⟨a5', b5, by rw [gd 17 (by decide)]; exact h3⟩, ⟨by rw [gc (499 + 1) (by decide) (by decide)]; exact w'.1, w'.2.rw (fun r h1 h2 => gc r (by omega) (by omega))⟩, hH.rw (gd 26 (by decide)) (gc (499 + 13) (by decide) (by decide)), fun s hs => ?_⟩
    rw [gc (499 + 15) (by decide) (by decide), gc (499 + 14) (by decide) (by decide)]
    exact hsl s hs
  · intro L0 q0
    have g := rg_up (v := 0) hR
    rw [← q0] at g
    rw [g.1.1.1, show nI len + 20 = nI (len + 20) from nI_add len 20]
    have z' : ¬ len ≤ 580 := fun hh => z (nI_le (a := len) (b := 580) hh (by decide))
    refine ⟨fun y => ?_, fun y => ⟨rfl, hk _ (fin_g (cg_id hC) g ok1)⟩⟩
    have := (nI_leI (a := len + 20) (b := 600) (by omega) (by omega)).mp y
    omega
