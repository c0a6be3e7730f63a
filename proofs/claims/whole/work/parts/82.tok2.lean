/-! ===== tokens (2): the class ===== -/
theorem cp_num {G : pm_G} {rr d m s : Nat} {tx : Nat → Int32} {J : pm_I} {K : pm_I → Prop} (hw : cp_w rr d m) (e1 : J rr 1 = nI m) (e3 : J rr 3 = nI s) (e4 : J rr 4 = nI s) (ht : ∀ k, k < m → J 2 k = tx k) (hs : s < m) (hl : tk_lt (tx s) = false) (hg : tk_dg (tx s) = true) (hk : K (pm_up (pm_up (pm_up J rr 6 (tk_V tx m s)) rr 3 (nI (tk_N tx m s))) rr 5 (tk_K tx m s))) : wX2_takeNumber G rr J K := by
  obtain ⟨hm, hrr, hd⟩ := hw
  have hN : tk_N tx m s = tk_e tk_dg tx (m - s) s := by unfold tk_N; rw [if_neg (by omega), if_neg (tk_f hl), if_pos hg]
  have hK : tk_K tx m s = if tk_N tx m s - s ≤ 4 then 2 else 3 := by unfold tk_K; rw [if_neg (by omega), if_neg (tk_f hl), if_pos hg]
  unfold wX2_takeNumber
  intro I0 q0
  have fin : ∀ (L : pm_I) (e : Nat) (a : Int32), L = pm_up (pm_up J rr 6 a) rr 3 (nI e) → s ≤ e → e ≤ m → tk_e tk_dg tx (m - s) s = e → tk_V tx m s = a → ((4 < (nI e - nI s) → (∀ I12 : pm_I, I12 = pm_up L rr 5 (3) → K I12)) ∧ (¬ 4 < (nI e - nI s) → (∀ I13 : pm_I, I13 = pm_up L rr 5 (2) → K I13))) := by
    intro L e a hL h1 h2 he ha
    rw [hN, he] at hK
    rw [hK, hN, he, ha] at hk
    rw [pk_sub h1]
    refine ⟨fun z I1 q1 => ?_, fun z I1 q1 => ?_⟩
    · have := (nI_ltI (a := 4) (b := e - s) (by omega) (by omega)).mp z
      rw [if_neg (by omega)] at hk
      rw [q1, hL]; exact hk
    · have : ¬ 4 < e - s := fun hh => z (nI_lt (a := 4) hh (by omega))
      rw [if_pos (by omega)] at hk
      rw [q1, hL]; exact hk
  refine ob_lp1 (fun i L => ∃ a, L = pm_up (pm_up J rr 6 a) rr 3 (nI (s + i)) ∧ s + i ≤ m ∧ tk_e tk_dg tx (m - s) s = tk_e tk_dg tx (m - (s + i)) (s + i) ∧ tk_V tx m s = tk_v tx (m - (s + i)) (s + i) a) (m - s) ⟨0, ?_, by omega, rfl, rfl⟩ ?_
  · rw [q0]
    exact (ob_uid (show pm_up J rr 6 0 rr 3 = nI s by rw [ob_uq (by decide)]; exact e3)).symm
  intro P i L hi hI hP
  obtain ⟨a, hL, hmi, he, ha⟩ := hI
  have a1 : L rr 1 = nI m := by rw [hL, ob_uq (by decide), ob_uq (by decide)]; exact e1
  have a3 : L rr 3 = nI (s + i) := by rw [hL, ob_us]
  have a4 : L rr 4 = nI s := by rw [hL, ob_uq (by decide), ob_uq (by decide)]; exact e4
  have a6 : L rr 6 = a := by rw [hL, ob_uq (by decide), ob_us]
  rw [a1, a3, a4, a6]
  by_cases hc : s + i < m ∧ tk_dg (tx (s + i)) = true
  · obtain ⟨n1, n2⟩ := (tk_dg_i _).mp hc.2
    have hb : L 2 (s + i) = tx (s + i) := by rw [hL, ob_ur (by omega), ob_ur (by omega)]; exact ht _ hc.1
    rw [nI_clamp (by omega), hb]
    refine ⟨fun z => absurd z (nI_ge hc.1 (by omega)), fun _ => ⟨vp_in_nI (by omega) (by decide), fun z => absurd z n1, fun _ => ⟨vp_in_nI (by omega) (by decide), fun z => absurd z n2, fun _ => ⟨vp_in_nI (by omega) (by decide), fun I1 q1 I2 q2 => ?_⟩⟩⟩⟩
    have b3 : I1 rr 3 = nI (s + i) := by rw [q1, ob_uq (by decide)]; exact a3
    rw [b3, nI_1] at q2
    refine hP _ (by omega) ⟨a * 10 + tx (s + i) - 48, ?_, by omega, he.trans (tk_e_t hc.1 hc.2), ha.trans (tk_v_t hc.1 hc.2)⟩
    rw [q2, q1, hL]
    funext r k
    rw [ob_up, ob_up, ob_up, ob_up, ob_up, ob_up]
    by_cases h3 : r = rr ∧ k = 3
    · rw [if_pos h3, if_pos h3]; rfl
    · rw [if_neg h3, if_neg h3, if_neg h3]
      by_cases h6 : r = rr ∧ k = 6
      · rw [if_pos h6, if_pos h6]
      · rw [if_neg h6, if_neg h6, if_neg h6]
  · have hst : m ≤ s + i ∨ tk_dg (tx (s + i)) = false := by
      rcases Nat.lt_or_ge (s + i) m with h | h
      · refine Or.inr ?_
        cases hp : tk_dg (tx (s + i)) with
        | true => exact absurd ⟨h, hp⟩ hc
        | false => rfl
      · exact Or.inl h
    have f := fin L (s + i) a hL (by omega) hmi (he.trans (tk_e_f hst)) (ha.trans (tk_v_f hst))
    refine ⟨fun _ => f, fun z => ?_⟩
    have hlt : s + i < m := by
      rcases Nat.lt_or_ge (s + i) m with h | h
      · exact h
      · exact absurd (nI_le h (by omega)) z
    have nl := tk_f (hst.resolve_left (by omega))
    rw [nI_clamp (by omega), show L 2 (s + i) = tx (s + i) by rw [hL, ob_ur (by omega), ob_ur (by omega)]; exact ht _ hlt]
    refine ⟨vp_in_nI (by omega) (by decide), fun _ => f, fun y => ⟨vp_in_nI (by omega) (by decide), fun _ => f, fun y2 => absurd ((tk_dg_i _).mpr ⟨y, y2⟩) nl⟩⟩
theorem cp_sign {G : pm_G} {rr d m s : Nat} {tx : Nat → Int32} {J : pm_I} {K : pm_I → Prop} (hw : cp_w rr d m) (e3 : J rr 3 = nI s) (ht : ∀ k, k < m → J 2 k = tx k) (hs : s < m) (hl : tk_lt (tx s) = false) (hg : tk_dg (tx s) = false) (hk : K (pm_up (pm_up J rr 3 (nI (tk_N tx m s))) rr 5 (tk_K tx m s))) : wX2_takeSign G rr J K := by
  obtain ⟨hm, hrr, hd⟩ := hw
  have hN : tk_N tx m s = s + 1 := by unfold tk_N; rw [if_neg (by omega), if_neg (tk_f hl), if_neg (tk_f hg)]
  have hK : tk_K tx m s = if tk_sg (tx s) = true then tx s else 3 := by unfold tk_K; rw [if_neg (by omega), if_neg (tk_f hl), if_neg (tk_f hg)]
  unfold wX2_takeSign
  rw [e3, nI_clamp (by omega), ht s hs, nI_1]
  rw [hN, hK] at hk
  refine ⟨vp_in_nI (by omega) (by decide), fun I1 q1 => ⟨fun z I2 q2 => ?_, fun z I2 q2 => ?_⟩⟩
  · rw [if_pos (show tk_sg (tx s) = true from decide_eq_true z)] at hk
    rw [q2, q1]; exact hk
  · rw [if_neg (tk_f (show tk_sg (tx s) = false from decide_eq_false z))] at hk
    rw [q2, q1]; exact hk
theorem cp_tail {G : pm_G} {rr d m s sn : Nat} {tx : Nat → Int32} {nm : Int32} {D : aP} {J : pm_I} {K : pm_I → Prop} (hw : cp_w rr d m) (hs : s ≤ m) (h : cp_S J rr d m tx s s 0 nm sn D ∨ ∃ kd, cp_S J rr d m tx s s kd nm sn D) (hk : ∀ L, cp_S L rr d m tx (tk_N tx m s) s (tk_K tx m s) (tk_V tx m s) sn D → ob_fr (fun r => r = rr) J L → K L) :
    (((J rr 3) < (J rr 1) → (vp_in (J (rr) 3) 600 ∧ (((J 2 (J rr 3).toNatClampNeg) < 97 → (vp_in (J (rr) 3) 600 ∧ (((J 2 (J rr 3).toNatClampNeg) < 48 → (wX2_takeSign G (rr) J (fun I13 => K I13))) ∧ (¬ (J 2 (J rr 3).toNatClampNeg) < 48 → (vp_in (J (rr) 3) 600 ∧ ((57 < (J 2 (J rr 3).toNatClampNeg) → (wX2_takeSign G (rr) J (fun I14 => K I14))) ∧ (¬ 57 < (J 2 (J rr 3).toNatClampNeg) → (wX2_takeNumber G (rr) J (fun I15 => K I15))))))))) ∧ (¬ (J 2 (J rr 3).toNatClampNeg) < 97 → (vp_in (J (rr) 3) 600 ∧ ((122 < (J 2 (J rr 3).toNatClampNeg) → (vp_in (J (rr) 3) 600 ∧ (((J 2 (J rr 3).toNatClampNeg) < 48 → (wX2_takeSign G (rr) J (fun I16 => K I16))) ∧ (¬ (J 2 (J rr 3).toNatClampNeg) < 48 → (vp_in (J (rr) 3) 600 ∧ ((57 < (J 2 (J rr 3).toNatClampNeg) → (wX2_takeSign G (rr) J (fun I17 => K I17))) ∧ (¬ 57 < (J 2 (J rr 3).toNatClampNeg) → (wX2_takeNumber G (rr) J (fun I18 => K I18))))))))) ∧ (¬ 122 < (J 2 (J rr 3).toNatClampNeg) → (wX2_takeWord G (rr) J (fun I19 => K I19))))))))) ∧ (¬ (J rr 3) < (J rr 1) → (∀ I20 : pm_I, I20 = pm_up J (rr) 5 (0) → K I20))) := by
  have hw' := hw
  obtain ⟨hm, hrr, hd⟩ := hw
  have hh : ∃ kd, cp_S J rr d m tx s s kd nm sn D := h.elim (fun h => ⟨0, h⟩) id
  obtain ⟨kd, e1, e2, e3, e4, e5, e6, e7, e8, e9, et, eP⟩ := hh
  have mk : ∀ L, L rr 3 = nI (tk_N tx m s) → L rr 5 = tk_K tx m s → (tk_K tx m s = 2 → L rr 6 = tk_V tx m s) → (∀ j, j ≠ 3 → j ≠ 5 → j ≠ 6 → L rr j = J rr j) → (∀ r, r ≠ rr → L r = J r) → K L := by
    intro L a3 a5 a6 aj ar
    refine hk L ⟨by rw [aj 1 (by decide) (by decide) (by decide)]; exact e1, by rw [aj 2 (by decide) (by decide) (by decide)]; exact e2, a3, by rw [aj 4 (by decide) (by decide) (by decide)]; exact e4, a5, a6, by rw [aj 7 (by decide) (by decide) (by decide)]; exact e7, by rw [aj 8 (by decide) (by decide) (by decide)]; exact e8, by rw [aj 9 (by decide) (by decide) (by decide)]; exact e9, fun k hk => by rw [ar 2 (by omega)]; exact et k hk, eP.rw (fun r h1 h2 _ => ar r (by omega)) (by rw [ar (d + 5) (by omega)])⟩ ar
  have mk2 : tk_K tx m s ≠ 2 → K (pm_up (pm_up J rr 3 (nI (tk_N tx m s))) rr 5 (tk_K tx m s)) := fun h2 => mk _ (by rw [ob_uq (by decide), ob_us]) (ob_us _ _ _ _) (fun h => absurd h h2) (fun j h3 h5 _ => by rw [ob_uq h5, ob_uq h3]) (fun r hr => by rw [ob_ur hr, ob_ur hr])
  rw [e3, e1]
  refine ⟨fun z => ?_, fun z I1 q1 => ?_⟩
  · have hlt := (nI_ltI (by omega) (by omega)).mp z
    rw [nI_clamp (by omega), et s hlt]
    have vin : vp_in (nI s) 600 := vp_in_nI (by omega) (by decide)
    have nlt : tx s < 97 ∨ 122 < tx s → tk_lt (tx s) = false := fun h => by
      cases hp : tk_lt (tx s) with
      | false => rfl
      | true => exact absurd h (fun h => h.elim ((tk_lt_i _).mp hp).1 ((tk_lt_i _).mp hp).2)
    have sgn : tx s < 97 ∨ 122 < tx s → tx s < 48 ∨ 57 < tx s → ∀ K' : pm_I → Prop, (∀ L, K L → K' L) → wX2_takeSign G rr J K' := fun h1 h2 K' hK' => by
      have hg : tk_dg (tx s) = false := by
        cases hp : tk_dg (tx s) with
        | false => rfl
        | true => exact absurd h2 (fun h => h.elim ((tk_dg_i _).mp hp).1 ((tk_dg_i _).mp hp).2)
      refine cp_sign hw' e3 et hlt (nlt h1) hg (hK' _ (mk2 ?_))
      unfold tk_K
      rw [if_neg (by omega), if_neg (tk_f (nlt h1)), if_neg (tk_f hg)]
      split
      · rename_i hsg
        intro e
        rw [e] at hsg
        exact absurd hsg (by decide)
      · decide
    have num : tx s < 97 ∨ 122 < tx s → ¬ tx s < 48 → ¬ 57 < tx s → ∀ K' : pm_I → Prop, (∀ L, K L → K' L) → wX2_takeNumber G rr J K' := fun h1 h2 h3 K' hK' =>
      cp_num hw' e1 e3 e4 et hlt (nlt h1) ((tk_dg_i _).mpr ⟨h2, h3⟩) (hK' _ (mk _ (by rw [ob_uq (by decide), ob_us]) (ob_us _ _ _ _) (fun _ => by rw [ob_uq (by decide), ob_uq (by decide), ob_us]) (fun j h3 h5 h6 => by rw [ob_uq h5, ob_uq h3, ob_uq h6]) (fun r hr => by rw [ob_ur hr, ob_ur hr, ob_ur hr])))
    refine ⟨vin, fun z1 => ⟨vin, fun z2 => sgn (Or.inl z1) (Or.inl z2) _ (fun _ h => h), fun z2 => ⟨vin, fun z3 => sgn (Or.inl z1) (Or.inr z3) _ (fun _ h => h), fun z3 => num (Or.inl z1) z2 z3 _ (fun _ h => h)⟩⟩, fun z1 => ⟨vin, fun z4 => ⟨vin, fun z2 => sgn (Or.inr z4) (Or.inl z2) _ (fun _ h => h), fun z2 => ⟨vin, fun z3 => sgn (Or.inr z4) (Or.inr z3) _ (fun _ h => h), fun z3 => num (Or.inr z4) z2 z3 _ (fun _ h => h)⟩⟩, fun z4 => ?_⟩⟩
    have hl := (tk_lt_i _).mpr ⟨z1, z4⟩
    refine cp_word hw' e1 e3 e4 et hlt hl (mk2 ?_) (sn := sn)
    unfold tk_K
    rw [if_neg (by omega), if_pos hl]
    split <;> decide
  · have hge : m ≤ s := by
      rcases Nat.lt_or_ge s m with h | h
      · exact absurd (nI_lt h (by omega)) z
      · exact h
    have hN : tk_N tx m s = s := if_pos hge
    have hK : tk_K tx m s = 0 := if_pos hge
    rw [q1]
    refine mk _ (by rw [hN, ob_uq (by decide)]; exact e3) (by rw [hK, ob_us]) (fun h => absurd (hK.symm.trans h) (by decide)) (fun j h3 h5 _ => ob_uq h5) (fun r hr => ob_ur hr)
theorem cp_adv {G : pm_G} {rr d m nx st sn : Nat} {tx : Nat → Int32} {kd nm : Int32} {D : aP} {J : pm_I} {K : pm_I → Prop} (hw : cp_w rr d m) (hn : nx ≤ m) (h : cp_S J rr d m tx nx st kd nm sn D) (hk : ∀ L, cp_S L rr d m tx (tk_N tx m (tk_S tx m nx)) (tk_S tx m nx) (tk_K tx m (tk_S tx m nx)) (tk_V tx m (tk_S tx m nx)) sn D → ob_fr (fun r => r = rr) J L → K L) : wX2_advance G rr J K := by
  have hw' := hw
  obtain ⟨hm, hrr, hd⟩ := hw
  have h' := h
  obtain ⟨e1, e2, e3, e4, e5, e6, e7, e8, e9, et, eP⟩ := h
  unfold wX2_advance
  rw [e8]
  refine ⟨fun _ => ?_, fun z => absurd rfl z⟩
  have go : ∀ (L : pm_I) (e : Nat), L = pm_up J rr 3 (nI e) → e ≤ m → tk_e tk_sp tx (m - nx) nx = e → ∀ I12 : pm_I, I12 = pm_up L rr 4 (L rr 3) → ∃ kd, cp_S I12 rr d m tx e e kd nm sn D ∧ ob_fr (fun r => r = rr) J I12 := by
    intro L e hL hle he I1 q1
    have a3 : L rr 3 = nI e := by rw [hL, ob_us]
    rw [a3, hL] at q1
    have oj : ∀ j, j ≠ 3 → j ≠ 4 → I1 rr j = J rr j := fun j h3 h4 => by rw [q1, ob_uq h4, ob_uq h3]
    have or' : ∀ r, r ≠ rr → I1 r = J r := fun r hr => by rw [q1, ob_ur hr, ob_ur hr]
    refine ⟨kd, ⟨by rw [oj 1 (by decide) (by decide)]; exact e1, by rw [oj 2 (by decide) (by decide)]; exact e2, by rw [q1, ob_uq (by decide), ob_us], by rw [q1, ob_us], by rw [oj 5 (by decide) (by decide)]; exact e5, fun h => by rw [oj 6 (by decide) (by decide)]; exact e6 h, by rw [oj 7 (by decide) (by decide)]; exact e7, by rw [oj 8 (by decide) (by decide)]; exact e8, by rw [oj 9 (by decide) (by decide)]; exact e9, fun k hk => by rw [or' 2 (by omega)]; exact et k hk, eP.rw (fun r h1 h2 _ => or' r (by omega)) (by rw [or' (d + 5) (by omega)])⟩, or'⟩
  refine cp_scan (p := tk_sp) (tx := tx) (m := m) e3 hn (fun P L e hL h1 h2 he hst => ?_) (fun P L e hL h1 h2 hp hP => ?_)
  · have a1 : L rr 1 = nI m := by rw [hL, ob_uq (by decide)]; exact e1
    have a3 : L rr 3 = nI e := by rw [hL, ob_us]
    have hS : tk_S tx m nx = e := he
    rw [hS] at hk
    refine ⟨fun _ I1 q1 => ?_, fun z => ?_⟩
    · obtain ⟨kd', hc, hf⟩ := go L e hL h2 he I1 q1
      exact cp_tail hw' h2 (Or.inr ⟨kd', hc⟩) (fun M hM fM => hk M hM (hf.tr fM))
    · rw [a1, a3] at z
      have hlt : e < m := by
        rcases Nat.lt_or_ge e m with h | h
        · exact h
        · exact absurd (nI_le h (by omega)) z
      have nsp := hst.resolve_left (by omega)
      unfold tk_sp at nsp
      rw [Bool.or_eq_false_iff] at nsp
      have n32 := of_decide_eq_false nsp.1
      have n10 := of_decide_eq_false nsp.2
      have hb : L 2 (L rr 3).toNatClampNeg = tx e := by rw [a3, nI_clamp (by omega), hL, ob_ur (by omega)]; exact et e hlt
      rw [hb]
      have vin : vp_in (L rr 3) 600 := by rw [a3]; exact vp_in_nI (by omega) (by decide)
      refine ⟨vin, fun y => absurd y n32, fun _ => ⟨vin, fun _ I1 q1 => ?_, fun y => absurd y n10⟩⟩
      obtain ⟨kd', hc, hf⟩ := go L e hL h2 he I1 q1
      exact cp_tail hw' h2 (Or.inr ⟨kd', hc⟩) (fun M hM fM => hk M hM (hf.tr fM))
  · have a1 : L rr 1 = nI m := by rw [hL, ob_uq (by decide)]; exact e1
    have a3 : L rr 3 = nI e := by rw [hL, ob_us]
    have hb : L 2 (L rr 3).toNatClampNeg = tx e := by rw [a3, nI_clamp (by omega), hL, ob_ur (by omega)]; exact et e h2
    rw [hb, a1]
    refine ⟨fun z => absurd z (by rw [a3]; exact nI_ge h2 (by omega)), fun _ => ⟨by rw [a3]; exact vp_in_nI (by omega) (by decide), fun _ I1 q1 => ?_, fun n32 => ⟨by rw [a3]; exact vp_in_nI (by omega) (by decide), fun n10 => ?_, fun _ I1 q1 => ?_⟩⟩⟩
    · rw [a3, nI_1, hL, ob_uu] at q1
      rw [q1]; exact hP
    · unfold tk_sp at hp
      rw [decide_eq_false n32, decide_eq_false n10] at hp
      exact absurd hp (by decide)
    · rw [a3, nI_1, hL, ob_uu] at q1
      rw [q1]; exact hP
