/-! ===== the reference: checks, copies, the history ===== -/
theorem rf_within {G : pm_G} {x lo hi : Int32} {I : pm_I} {K : Int32 → pm_I → Prop} (h : K (ob_b (decide (lo ≤ x ∧ x ≤ hi))) I) : wX7_within G x lo hi I K := by
  unfold wX7_within
  refine ⟨fun e => ?_, fun e => ⟨fun e2 => ?_, fun e2 => ?_⟩⟩
  · rw [decide_eq_false (fun hh => absurd e (Int32.not_lt.mpr hh.1))] at h; exact h
  · rw [decide_eq_false (fun hh => absurd e2 (Int32.not_lt.mpr hh.2))] at h; exact h
  · rw [decide_eq_true ⟨Int32.not_lt.mp e, Int32.not_lt.mp e2⟩] at h; exact h
theorem rf_thF {G : pm_G} {q : Nat} {k : Int32} {I : pm_I} {K : Int32 → pm_I → Prop} (e : I q 0 = 0) (h : K 0 I) : wX7_throwsIf G q 0 k I K := by
  unfold wX7_throwsIf
  rw [e]
  exact ⟨fun n => absurd rfl n, fun _ => ⟨fun _ => ⟨fun _ => h, fun n => absurd (Int32.le_refl 0) n⟩, fun n => absurd rfl n⟩⟩
theorem rf_thT {G : pm_G} {q : Nat} {k : Int32} {I : pm_I} {K : Int32 → pm_I → Prop} (e : I q 0 = 0) (hk : ¬ k ≤ 0) (h : K 1 (pm_up I q 0 k)) : wX7_throwsIf G q 1 k I K := by
  unfold wX7_throwsIf
  rw [e]
  refine ⟨fun n => absurd rfl n, fun _ => ⟨fun n => absurd n (by decide), fun _ I1 q1 => ?_⟩⟩
  subst q1
  rw [ob_us]
  exact ⟨fun n => absurd n hk, fun _ => h⟩
theorem ob_ix_iff {n : Nat} {x : Int32} (hn : n < 2 ^ 31) : ob_ix n x ↔ (0 ≤ x ∧ x ≤ nI n - 1) := by
  have e : (nI n - 1).toInt = (n : Int) - 1 := by
    rcases Nat.eq_zero_or_pos n with h | h
    · subst h; decide
    · rw [show nI n - 1 = nI (n - 1) from pk_sub (b := 1) (by omega), nI_toInt (by omega)]; omega
  constructor
  · rintro ⟨a, ha, rfl⟩
    refine ⟨nI_pos' (by omega), ?_⟩
    rw [ob_le, e, nI_toInt (by omega)]
    omega
  · rintro ⟨h0, h1⟩
    obtain ⟨a, ha, rfl⟩ := nI_of (Int32.not_lt.mpr h0)
    rw [ob_le, e, nI_toInt ha] at h1
    exact ⟨a, by omega, rfl⟩
theorem rf_no {G : pm_G} {q n : Nat} {x m : Int32} {I : pm_I} {K : Int32 → pm_I → Prop} (e : I q 0 = 0) (hm : m = nI n) (hn : n < 2 ^ 31) (h1 : ob_ix n x → K 0 I) (h2 : ¬ ob_ix n x → K 1 (pm_up I q 0 1)) : wX7_no G q x m I K := by
  unfold wX7_no
  rw [hm]
  have iff := ob_ix_iff (n := n) (x := x) hn
  refine rf_within ⟨fun z => rf_thF e ⟨Or.inl rfl, h1 (iff.mpr (of_decide_eq_true (ob_b1.mp z)))⟩, fun z => rf_thT e (by decide) ⟨Or.inr rfl, h2 (fun hh => of_decide_eq_false (ob_b0.mp z) (iff.mp hh))⟩⟩
theorem ob_uu {I : pm_I} {a j : Nat} {v w : Int32} : pm_up (pm_up I a j v) a j w = pm_up I a j w := by
  funext r k
  rw [ob_up, ob_up, ob_up]
  by_cases h : r = a ∧ k = j
  · rw [if_pos h, if_pos h]
  · rw [if_neg h, if_neg h, if_neg h]
theorem rf_peers {G : pm_G} {q : Nat} {x y : Int32} {I : pm_I} {K : Int32 → pm_I → Prop} {P : aP} (hP : rf_P I q P) (oP : ok_P P) (h1 : ob_ix (ab_np P) x → ob_ix (ab_np P) y → K 0 (pm_up I q 0 0)) (h2 : ¬ (ob_ix (ab_np P) x ∧ ob_ix (ab_np P) y) → K 1 (pm_up I q 0 1)) : wX7_noPeers G q x y I K := by
  have n8 := oP.1.1
  unfold wX7_noPeers
  intro I1 q1
  have e0 : I1 q 0 = 0 := by rw [q1, ob_us]
  have e2 : I1 (q + 2) 0 = nI (ab_np P) := by rw [q1, ob_ur (by omega)]; exact hP.1.1.trans oP.1.2
  rw [rf_c0, e2]
  refine rf_no e0 rfl (by omega) (fun i1 => ⟨fun n => absurd rfl n, fun _ => ?_⟩) (fun i1 => ⟨fun _ => ?_, fun n => absurd n (by decide)⟩)
  · rw [e2]
    refine rf_no e0 rfl (by omega) (fun i2 => ⟨fun _ => ?_, fun n => absurd rfl n⟩) (fun i2 => ⟨fun n => absurd n (by decide), fun _ => ?_⟩)
    · rw [q1]; exact h1 i1 i2
    · rw [q1, ob_uu]; exact h2 (fun hh => i2 hh.2)
  · rw [q1, ob_uu]; exact h2 (fun hh => i1 hh.1)
theorem rf_two {G : pm_G} {q : Nat} {x y : Int32} {I : pm_I} {K : Int32 → pm_I → Prop} {P : aP} (hP : rf_P I q P) (oP : ok_P P) (h1 : ob_ix (ab_np P) x → ob_ix (ab_np P) y → ¬ x = y → K 0 (pm_up I q 0 0)) (h2 : ¬ (ob_ix (ab_np P) x ∧ ob_ix (ab_np P) y) → K 1 (pm_up I q 0 1)) (h3 : ob_ix (ab_np P) x → ob_ix (ab_np P) y → x = y → K 1 (pm_up I q 0 2)) : wX7_noTwo G q x y I K := by
  unfold wX7_noTwo
  refine rf_peers hP oP (fun i1 i2 => ⟨fun n => absurd rfl n, fun _ => ⟨fun e => ?_, fun e => ?_⟩⟩) (fun i => ⟨fun _ => h2 i, fun n => absurd n (by decide)⟩)
  · exact rf_thF (ob_us _ _ _ _) ⟨fun _ => h1 i1 i2 e, fun n => absurd rfl n⟩
  · refine rf_thT (ob_us _ _ _ _) (by decide) ⟨fun n => absurd n (by decide), fun _ => ?_⟩
    rw [ob_uu]; exact h3 i1 i2 e
theorem rf_three {G : pm_G} {q : Nat} {x y z : Int32} {I : pm_I} {K : Int32 → pm_I → Prop} {P : aP} (hP : rf_P I q P) (oP : ok_P P) (h1 : ob_ix (ab_np P) x → ob_ix (ab_np P) y → ob_ix (ab_np P) z → ¬ (x = y ∨ x = z ∨ y = z) → K 0 (pm_up I q 0 0)) (h2 : ¬ (ob_ix (ab_np P) x ∧ ob_ix (ab_np P) y ∧ ob_ix (ab_np P) z) → K 1 (pm_up I q 0 1)) (h3 : ob_ix (ab_np P) x → ob_ix (ab_np P) y → ob_ix (ab_np P) z → (x = y ∨ x = z ∨ y = z) → K 1 (pm_up I q 0 2)) : wX7_noThree G q x y z I K := by
  have n8 := oP.1.1
  unfold wX7_noThree
  intro I1 q1
  have e0 : I1 q 0 = 0 := by rw [q1, ob_us]
  have e2 : I1 (q + 2) 0 = nI (ab_np P) := by rw [q1, ob_ur (by omega)]; exact hP.1.1.trans oP.1.2
  rw [rf_c0, e2]
  have same : ob_ix (ab_np P) x → ob_ix (ab_np P) y → ob_ix (ab_np P) z → (x = y ∨ x = z ∨ y = z) → wX7_throwsIf G q 1 2 I1 (fun r18 I17 => (r18 = 0 → K 0 I17) ∧ (¬ r18 = 0 → K 1 I17)) := fun i1 i2 i3 e => by
    refine rf_thT e0 (by decide) ⟨fun n => absurd n (by decide), fun _ => ?_⟩
    rw [q1, ob_uu]; exact h3 i1 i2 i3 e
  refine rf_no e0 rfl (by omega) (fun i1 => ⟨fun n => absurd rfl n, fun _ => ?_⟩) (fun i1 => ⟨fun _ => by rw [q1, ob_uu]; exact h2 (fun hh => i1 hh.1), fun n => absurd n (by decide)⟩)
  rw [e2]
  refine rf_no e0 rfl (by omega) (fun i2 => ⟨fun n => absurd rfl n, fun _ => ?_⟩) (fun i2 => ⟨fun _ => by rw [q1, ob_uu]; exact h2 (fun hh => i2 hh.2.1), fun n => absurd n (by decide)⟩)
  rw [e2]
  refine rf_no e0 rfl (by omega) (fun i3 => ⟨fun n => absurd rfl n, fun _ => ⟨fun e => same i1 i2 i3 (Or.inl e), fun e => ⟨fun e' => same i1 i2 i3 (Or.inr (Or.inl e')), fun e' => ⟨fun e'' => ?_, fun e'' => same i1 i2 i3 (Or.inr (Or.inr e''))⟩⟩⟩⟩) (fun i3 => ⟨fun _ => by rw [q1, ob_uu]; exact h2 (fun hh => i3 hh.2.2), fun n => absurd n (by decide)⟩)
  refine rf_thF e0 ⟨fun _ => ?_, fun n => absurd rfl n⟩
  rw [q1]
  exact h1 i1 i2 i3 (fun hh => hh.elim e (fun hh => hh.elim e' e''))
theorem rf_ses {G : pm_G} {q : Nat} {x : Int32} {I : pm_I} {K : Int32 → pm_I → Prop} {A : aT} (hT : rf_T (I (q + 1)) A) (h1 : ∀ i, i < 6 → x = nI i → (A.2.2.2 i).1 0 = 1 → K 0 (pm_up I q 0 0)) (h2 : (∀ i, i < 6 → x = nI i → ¬ (A.2.2.2 i).1 0 = 1) → K 1 (pm_up I q 0 1)) : wX7_noSession G q x I K := by
  unfold wX7_noSession
  intro I1 q1
  have e0 : I1 q 0 = 0 := by rw [q1, ob_us]
  have hT1 : rf_T (I1 (q + 1)) A := by rw [q1, ob_ur (by omega)]; exact hT
  refine rf_no (n := 6) e0 rfl (by decide) (fun i1 => ⟨fun n => absurd rfl n, fun _ => ?_⟩) (fun i1 => ⟨fun _ => ?_, fun n => absurd n (by decide)⟩)
  · obtain ⟨i, hi, rfl⟩ := i1
    refine rf_isOpen hT1 hi ⟨fun z => rf_thF e0 ⟨fun _ => ?_, fun n => absurd rfl n⟩, fun z => rf_thT e0 (by decide) ⟨fun n => absurd n (by decide), fun _ => ?_⟩⟩
    · rw [q1]; exact h1 i hi rfl (of_decide_eq_true (ob_b1.mp z))
    · rw [q1, ob_uu]
      refine h2 (fun j hj e => ?_)
      have : i = j := (nI_eq (by omega) (by omega)).mp e
      subst this
      exact of_decide_eq_false (ob_b0.mp z)
  · rw [q1, ob_uu]
    exact h2 (fun i hi e => absurd ⟨i, hi, e⟩ i1)
theorem rf_copy {G : pm_G} {r1 n1 r2 n2 a b n : Nat} {x1 x3 x4 : Int32} {I : pm_I} {K : pm_I → Prop} (h1 : x1 = nI a) (h3 : x3 = nI b) (h4 : x4 = nI n) (ha : a + n ≤ n1) (hb : b + n ≤ n2) (hn1 : n1 < 1048576) (hn2 : n2 < 1048576) (hr : r1 ≠ r2 ∨ b ≤ a) (hk : ∀ J, (∀ r, r ≠ r2 → J r = I r) → (∀ k, k < n → J r2 (b + k) = I r1 (a + k)) → (∀ x, (x < b ∨ b + n ≤ x) → J r2 x = I r2 x) → K J) : wX7_copies G r1 n1 x1 r2 n2 x3 x4 I K := by
  subst h1; subst h3; subst h4
  unfold wX7_copies
  refine ob_lp2 (fun i x J => x = nI i ∧ (∀ r, r ≠ r2 → J r = I r) ∧ (∀ k, k < i → J r2 (b + k) = I r1 (a + k)) ∧ (∀ x, (x < b ∨ b + i ≤ x) → J r2 x = I r2 x)) n ⟨rfl, fun _ _ => rfl, fun k hk => absurd hk (Nat.not_lt_zero k), fun _ _ => rfl⟩ ?_
  intro P i x J hi hI hP
  obtain ⟨hx, j1, j2, j3⟩ := hI
  subst hx
  refine ⟨fun hc => ?_, fun hc => ?_⟩
  · have e := (ob_to (by omega) hi).1 hc
    subst e
    exact hk J j1 j2 j3
  · have hl := (ob_to (by omega) hi).2 hc
    rw [nI_add, nI_add]
    refine ⟨vp_in_nI (by omega) (by omega), vp_in_nI (by omega) (by omega), fun I1 q1 => ?_⟩
    rw [nI_clamp (by omega), nI_clamp (by omega)] at q1
    have ev : J r1 (a + i) = I r1 (a + i) := by
      by_cases e : r1 = r2
      · rw [e]; exact j3 _ (Or.inr (by rcases hr with hr | hr; exact absurd e hr; omega))
      · rw [j1 r1 e]
    rw [ev] at q1
    refine hP _ _ hl ⟨nI_1 _, fun r hr' => by rw [q1, ob_ur hr']; exact j1 r hr', fun k hk => ?_, fun x hx => by rw [q1, ob_uq (by omega)]; exact j3 x (by omega)⟩
    rw [q1]
    by_cases ek : k = i
    · rw [ek, ob_us]
    · rw [ob_uq (by omega)]; exact j2 k (by omega)
theorem rf_T.rw {N N' : Nat → Int32} {A : aT} (h : rf_T N A) (hn : ok_24 A) (e : ∀ x, x < 821 → N' x = N x) : rf_T N' A :=
  ⟨by rw [e 0 (by decide)]; exact h.1, fun k hk => by rw [e _ (by omega)]; exact h.2.1 k hk, fun k hk => by rw [e _ (by omega)]; exact h.2.2.1 k hk, fun i hi => (h.2.2.2 i hi).rw (hn i hi) (fun x h1 h2 => e x (by omega))⟩
def rf_H (I : pm_I) (q n : Nat) (H : Nat → aT) : Prop := I q 26 = nI n ∧ n ≤ 10 ∧ ∀ k, k < n → rf_T (fun j => I (q + 13) (821 * (n - 1 - k) + j)) (H k)
theorem rf_keep {G : pm_G} {q n : Nat} {I : pm_I} {K : pm_I → Prop} {A : aT} {H : Nat → aT} (hT : rf_T (I (q + 1)) A) (hn : ok_24 A) (hn2 : ∀ k, k < n → ok_24 (H k)) (hH : rf_H I q n H) (hk : ∀ J, rf_H J q (min (n + 1) 10) (ab_push A H) → (∀ r, r ≠ q → r ≠ q + 13 → J r = I r) → (∀ j, j ≠ 26 → J q j = I q j) → K J) : wX7_keeps G q I K := by
  obtain ⟨e26, h10, hc⟩ := hH
  unfold wX7_keeps
  rw [e26]
  have e821 : ∀ m, 821 * nI m = nI (821 * m) := fun m => pk_mul 821 m
  refine ⟨fun z => ?_, fun z => ?_⟩
  · have hn10 : n ≠ 10 := fun e => z (by rw [e]; rfl)
    refine rf_copy (a := 0) (b := 821 * n) (n := 821) rfl (e821 n) rfl (by omega) (by omega) (by decide) (by decide) (Or.inl (by omega)) (fun J j1 j2 j3 I1 q1 => ?_)
    rw [j1 q (by omega), e26, nI_1] at q1
    refine hk I1 ⟨by rw [q1, ob_us, show min (n + 1) 10 = n + 1 by omega], by omega, fun k hk => ?_⟩ (fun r h1 h2 => by rw [q1, ob_ur h1]; exact j1 r h2) (fun j hj => by rw [q1, ob_uq hj, j1 q (by omega)])
    rw [show min (n + 1) 10 = n + 1 by omega] at hk ⊢
    unfold ab_push
    by_cases ek : k = 0
    · subst ek
      rw [if_pos rfl]
      refine hT.rw hn (fun x hx => ?_)
      show I1 (q + 13) (821 * (n + 1 - 1 - 0) + x) = _
      rw [q1, ob_ur (by omega), show 821 * (n + 1 - 1 - 0) + x = 821 * n + x by omega, j2 x hx, Nat.zero_add]
    · rw [if_neg ek]
      refine (hc (k - 1) (by omega)).rw (hn2 _ (by omega)) (fun x hx => ?_)
      show I1 (q + 13) (821 * (n + 1 - 1 - k) + x) = I (q + 13) (821 * (n - 1 - (k - 1)) + x)
      rw [q1, ob_ur (by omega), show 821 * (n + 1 - 1 - k) + x = 821 * (n - 1 - (k - 1)) + x by omega]
      exact j3 _ (Or.inl (by omega))
  · have hn10 : n = 10 := (nI_eq (b := 10) (by omega) (by omega)).mp z
    subst hn10
    intro I1 q1
    rw [show nI 10 - 1 = nI 9 from rfl] at q1
    have a1 : ∀ r, r ≠ q → I1 r = I r := fun r hr => by rw [q1, ob_ur hr]
    rw [show I1 q 26 = nI 9 by rw [q1, ob_us]]
    refine rf_copy (a := 821) (b := 0) (n := 7389) rfl rfl (e821 9) (by decide) (by decide) (by decide) (by decide) (Or.inr (by decide)) (fun J j1 j2 j3 => ?_)
    rw [show J q 26 = nI 9 by rw [j1 q (by omega), q1, ob_us]]
    refine rf_copy (a := 0) (b := 7389) (n := 821) rfl (e821 9) rfl (by decide) (by decide) (by decide) (by decide) (Or.inl (by omega)) (fun L l1 l2 l3 I2 q2 => ?_)
    have b26 : L q 26 = nI 9 := by rw [l1 q (by omega), j1 q (by omega), q1, ob_us]
    rw [b26, show nI 9 + 1 = nI 10 from rfl] at q2
    refine hk I2 ⟨by rw [q2, ob_us]; rfl, by omega, fun k hk => ?_⟩ (fun r h1 h2 => by rw [q2, ob_ur h1, l1 r h2, j1 r h2]; exact a1 r h1) (fun j hj => by rw [q2, ob_uq hj, l1 q (by omega), j1 q (by omega), q1, ob_uq hj])
    have hk' : k < 10 := hk
    show rf_T (fun j => I2 (q + 13) (821 * (10 - 1 - k) + j)) (ab_push A H k)
    unfold ab_push
    by_cases ek : k = 0
    · subst ek
      rw [if_pos rfl]
      refine hT.rw hn (fun x hx => ?_)
      show I2 (q + 13) (821 * (10 - 1 - 0) + x) = _
      rw [q2, ob_ur (by omega), show 821 * (10 - 1 - 0) + x = 7389 + x by omega, l2 x hx, j1 (q + 1) (by omega), a1 (q + 1) (by omega), Nat.zero_add]
    · rw [if_neg ek]
      refine (hc (k - 1) (by omega)).rw (hn2 _ (by omega)) (fun x hx => ?_)
      show I2 (q + 13) (821 * (10 - 1 - k) + x) = I (q + 13) (821 * (10 - 1 - (k - 1)) + x)
      have hj := j2 (821 * (10 - 1 - k) + x) (by omega)
      rw [Nat.zero_add] at hj
      rw [q2, ob_ur (by omega), l3 _ (Or.inl (by omega)), hj, a1 (q + 13) (by omega), show 821 + (821 * (10 - 1 - k) + x) = 821 * (10 - 1 - (k - 1)) + x by omega]
