/-! ===== the reference: sessions (3) ===== -/
theorem ab_ru_iff {s : aS} {x a b : Int32} (h0 : 0 ≤ x) (h1 : ¬ x = 100) : ab_ru s x a b = true ↔ (x = a ∧ (b = s.1 1 ∨ b = s.1 2)) ∨ (x = b ∧ (a = s.1 1 ∨ a = s.1 2)) := by
  unfold ab_ru ab_pair
  rw [if_neg h1, decide_eq_true h0]
  simp only [Bool.true_and, Bool.or_eq_true, Bool.and_eq_true, decide_eq_true_eq]
  constructor
  · rintro ((⟨rfl, rfl⟩ | ⟨rfl, rfl⟩) | (⟨rfl, rfl⟩ | ⟨rfl, rfl⟩))
    · exact Or.inr ⟨rfl, Or.inl rfl⟩
    · exact Or.inl ⟨rfl, Or.inl rfl⟩
    · exact Or.inl ⟨rfl, Or.inr rfl⟩
    · exact Or.inr ⟨rfl, Or.inr rfl⟩
  · rintro (⟨rfl, (rfl | rfl)⟩ | ⟨rfl, (rfl | rfl)⟩)
    · exact Or.inl (Or.inr ⟨rfl, rfl⟩)
    · exact Or.inr (Or.inl ⟨rfl, rfl⟩)
    · exact Or.inl (Or.inl ⟨rfl, rfl⟩)
    · exact Or.inr (Or.inr ⟨rfl, rfl⟩)
theorem rf_ul {G : pm_G} {q i : Nat} {x a b : Int32} {I : pm_I} {K : Int32 → pm_I → Prop} {s : aS} (hF : rf_F (I (q + 1)) (17 + 134 * i) s.1) (hi : i < 6) (hx : ok_rt 8 x) (hk : K (ob_b (ab_ru s x a b)) I) : wX7_usesLink G q (nI i) x a b I K := by
  unfold wX7_usesLink
  have e1 : I (q + 1) (17 + 134 * i + 1) = s.1 1 := hF 1 (by decide)
  have e2 : I (q + 1) (17 + 134 * i + 2) = s.1 2 := hF 2 (by decide)
  refine rf_of (j := 1) rfl ⟨vp_in_nI (by omega) (by decide), rf_of (j := 2) rfl ⟨vp_in_nI (by omega) (by decide), ?_⟩⟩
  rw [nI_clamp (by omega), nI_clamp (by omega), e1, e2]
  refine ⟨fun hn => ⟨fun h100 => ?_, fun h100 => ?_⟩, fun hn => ?_⟩
  · have iff := ab_ru_iff (s := s) (a := a) (b := b) (hx.pos (by decide) hn).1 h100
    have y : (x = a ∧ (b = s.1 1 ∨ b = s.1 2)) ∨ (x = b ∧ (a = s.1 1 ∨ a = s.1 2)) → K 1 I := fun hh => by rw [iff.mpr hh] at hk; exact hk
    have n : ¬ ((x = a ∧ (b = s.1 1 ∨ b = s.1 2)) ∨ (x = b ∧ (a = s.1 1 ∨ a = s.1 2))) → K 0 I := fun hh => by
      have : ab_ru s x a b = false := by
        cases e : ab_ru s x a b with
        | false => rfl
        | true => exact absurd (iff.mp e) hh
      rw [this] at hk; exact hk
    refine ⟨fun xa => ⟨fun xb => n (fun hh => hh.elim (fun h => xa h.1) (fun h => xb h.1)), fun xb => ⟨fun af => y (Or.inr ⟨xb, Or.inl af⟩), fun af => ⟨fun at' => n (fun hh => hh.elim (fun h => xa h.1) (fun h => h.2.elim af at')), fun at' => y (Or.inr ⟨xb, Or.inr at'⟩)⟩⟩⟩, fun xa => ⟨fun bf => y (Or.inl ⟨xa, Or.inl bf⟩), fun bf => ⟨fun bt => y (Or.inl ⟨xa, Or.inr bt⟩), fun bt => ⟨fun xb => n (fun hh => hh.elim (fun h => h.2.elim bf bt) (fun h => xb h.1)), fun xb => ⟨fun af => y (Or.inr ⟨xb, Or.inl af⟩), fun af => ⟨fun at' => n (fun hh => hh.elim (fun h => h.2.elim bf bt) (fun h => h.2.elim af at')), fun at' => y (Or.inr ⟨xb, Or.inr at'⟩)⟩⟩⟩⟩⟩⟩
  · subst h100
    unfold ab_ru ab_pair at hk
    rw [if_pos rfl] at hk
    refine ⟨fun u => ⟨fun v => ?_, fun v => ⟨fun w => ?_, fun w => ?_⟩⟩, fun u => ⟨fun v => ?_, fun v => ⟨fun w => ?_, fun w => ⟨fun z => ?_, fun z => ?_⟩⟩⟩⟩
    · rw [decide_eq_false u, decide_eq_false v] at hk; exact hk
    · rw [decide_eq_false u, decide_eq_true v, decide_eq_false w] at hk; exact hk
    · rw [decide_eq_false u, decide_eq_true v, decide_eq_true w] at hk; exact hk
    · rw [decide_eq_true u, decide_eq_true v] at hk; exact hk
    · rw [decide_eq_true u, decide_eq_false v, decide_eq_false w] at hk; exact hk
    · rw [decide_eq_true u, decide_eq_false v, decide_eq_true w, decide_eq_false z] at hk; exact hk
    · rw [decide_eq_true u, decide_eq_false v, decide_eq_true w, decide_eq_true z] at hk; exact hk
  · rw [hn, ok_ru_n] at hk; exact hk
theorem rf_st {N : Nat → Int32} {o k n : Nat} {F : Nat → Int32} {M : Nat → Nat → Int32} (h : rf_O N o (F, n, M)) (hk : k < n) (hr : M k 2 = -2 ∨ ok_rt 8 (M k 2)) : (N (o + 14 + 5 * k) = 1 → 0 ≤ M k 2 ∧ N (o + 14 + 5 * k + 3) = M k 3 ∧ N (o + 14 + 5 * k + 4) = M k 2) ∧ (¬ N (o + 14 + 5 * k) = 1 → ¬ 0 ≤ M k 2) := by
  obtain ⟨m1, m2, m3, m4⟩ := h.2.2 k hk
  replace m1 : N (o + 14 + 5 * k) = ab_so (M k 2) := m1
  rw [m1]
  refine ⟨fun e => ?_, fun e hp => ?_⟩
  · have n1 : ¬ M k 2 = -1 := fun z => by rw [ab_so_0.mpr z] at e; exact absurd e (by decide)
    have n2 : ¬ M k 2 = -2 := fun z => by rw [ab_so_2.mpr z] at e; exact absurd e (by decide)
    have hp := ((hr.resolve_left n2).pos (by decide) n1).1
    exact ⟨hp, m4 hp⟩
  · have n1 : ¬ M k 2 = -1 := fun z => by rw [z] at hp; exact absurd hp (by decide)
    have n2 : ¬ M k 2 = -2 := fun z => by rw [z] at hp; exact absurd hp (by decide)
    exact e ((hr.resolve_left n2).pos (by decide) n1).2
theorem rf_cs {G : pm_G} {q i d : Nat} {x : Int32} {I : pm_I} {K : Int32 → pm_I → Prop} {s : aS} (h : rf_O (I (q + 1)) (17 + 134 * i) s) (g : cl_g s d) (hi : i < 6) (hk : K (nI (ab_cs s x)) I) : wX7_inState G q (nI i) x I K := by
  unfold wX7_inState
  have hn : s.2.1 ≤ 24 := g.2.2.2.2
  refine ob_lp3 (fun k c z J => c = nI (ob_ct (fun k => decide (ab_so (s.2.2 k 2) = x)) k) ∧ z = nI k ∧ J = I) s.2.1 ⟨rfl, rfl, rfl⟩ ?_
  intro P k c z J hk' hI hP
  obtain ⟨hc0, hx, hJ⟩ := hI
  subst hx; subst hc0; subst hJ
  refine rf_und h g hi ⟨fun hc => ?_, fun hc => ?_⟩
  · have e := (ob_to (by omega) hk').1 hc
    subst e
    exact hk
  · have hl := (ob_to (by omega) hk').2 hc
    refine rf_msg rfl ?_
    rw [Int32.add_zero, nI_clamp (by omega)]
    have m0 : J (q + 1) (17 + 134 * i + 14 + 5 * k) = ab_so (s.2.2 k 2) := (h.2.2 k hl).1
    rw [m0]
    refine ⟨vp_in_nI (by omega) (by decide), fun e => ?_, fun e => ?_⟩
    · refine hP _ _ _ hl ⟨?_, nI_1 _, rfl⟩
      show _ = nI (ob_ct _ k + if decide (ab_so (s.2.2 k 2) = x) = true then 1 else 0)
      rw [decide_eq_false e]; exact nI_add _ 0
    · refine hP _ _ _ hl ⟨?_, nI_1 _, rfl⟩
      show _ = nI (ob_ct _ k + if decide (ab_so (s.2.2 k 2) = x) = true then 1 else 0)
      rw [decide_eq_true e, if_pos rfl, nI_1]
theorem rf_old {G : pm_G} {q i d : Nat} {I : pm_I} {K : pm_I → Prop} {s : aS} (h : rf_O (I (q + 1)) (17 + 134 * i) s) (g : cl_g s d) (hi : i < 6) (hr : ∀ k, k < s.2.1 → s.2.2 k 2 = -2 ∨ ok_rt 8 (s.2.2 k 2)) (h5 : s.1 5 = -1 ∨ ob_ix 8 (s.1 5)) (hk : ∀ J, rf_O (J (q + 1)) (17 + 134 * i) (ab_old s) → rf_f q (17 + 134 * i) I J → K J) : wX7_emptiesOld G q (nI i) I K := by
  unfold wX7_emptiesOld
  obtain ⟨F, n, M⟩ := s
  have hn : n ≤ 24 := g.2.2.2.2
  have e5 : I (q + 1) (17 + 134 * i + 4) = F 5 := h.1 4 (by decide)
  have hd : ∀ J, rf_O (J (q + 1)) (17 + 134 * i) (if ob_ex (fun k => decide (0 ≤ M k 2 ∧ M k 2 = F 5)) n = true then (F, n, M) else ab_f (F, n, M) 5 (-1)) → rf_f q (17 + 134 * i) I J → K J := by
    intro J hJ fJ
    refine hk J ?_ fJ
    rcases h5 with h5 | h5
    · have e : ob_ex (fun k => decide (0 ≤ M k 2 ∧ M k 2 = F 5)) n = false := ob_ex_f.mpr (fun k _ => decide_eq_false (fun hh => by rw [hh.2, show F 5 = -1 from h5] at hh; exact absurd hh.1 (by decide)))
      rw [e] at hJ
      unfold ab_old
      split
      · refine hJ.cg (fun j hj => ?_) rfl (fun _ _ => rfl)
        show upd F 5 (-1) j = F j
        rw [ob_upd_same h5]
      · exact hJ
    · have e : (fun k => decide (0 ≤ M k 2 ∧ M k 2 = F 5)) = (fun k => decide (M k 2 = F 5)) := by
        funext k
        by_cases hz : M k 2 = F 5
        · rw [decide_eq_true hz, decide_eq_true ⟨by rw [hz]; exact (h5.pos (by decide)).1, hz⟩]
        · rw [decide_eq_false hz, decide_eq_false (fun hh => hz hh.2)]
      rw [e] at hJ
      exact hJ
  refine ob_lp3 (fun k x z J => x = ob_b (ob_ex (fun k => decide (0 ≤ M k 2 ∧ M k 2 = F 5)) k) ∧ z = nI k ∧ J = I) n ⟨rfl, rfl, rfl⟩ ?_
  intro P k x z J hk' hI hP
  obtain ⟨hx, hz, hJ⟩ := hI
  subst hz; subst hJ
  refine rf_und h g hi ⟨fun hc => rf_of (j := 4) rfl ⟨fun e => ⟨vp_in_nI (by omega) (by decide), fun I1 q1 => ?_⟩, fun e => rf_of (j := 4) rfl ⟨vp_in_nI (by omega) (by decide), vp_in_nI (by omega) (by decide), fun I1 q1 => ?_⟩⟩, fun hc => ⟨fun e => ?_, fun e => rf_msg rfl ?_⟩⟩
  · have ek := (ob_to (n := n) (by omega) hk').1 hc
    subst ek
    rw [hx, ob_b0] at e
    rw [e] at hd
    rw [nI_clamp (by omega)] at q1
    refine hd I1 ?_ (by rw [q1]; exact rf_f.rf.up (by omega) (by omega))
    rw [q1, ob_uf]
    exact h.up (j := 4) (by decide) (by decide) (by decide)
  · have ek := (ob_to (n := n) (by omega) hk').1 hc
    subst ek
    rw [hx, ob_b1] at e
    rw [e, if_pos rfl] at hd
    rw [nI_clamp (by omega), e5] at q1
    refine hd I1 ?_ (by rw [q1]; exact rf_f.rf.up (by omega) (by omega))
    rw [q1, ob_uf, ob_upd_same e5]
    exact h
  · have hl := (ob_to (n := n) (by omega) hk').2 hc
    rw [hx, ob_b1] at e
    refine hP _ _ _ hl ⟨?_, nI_1 _, rfl⟩
    show 1 = ob_b (ob_ex _ k || decide (0 ≤ M k 2 ∧ M k 2 = F 5))
    rw [e]; rfl
  · have hl := (ob_to (n := n) (by omega) hk').2 hc
    rw [hx, ob_b0] at e
    have ex : ob_ex (fun k => decide (0 ≤ M k 2 ∧ M k 2 = F 5)) (k + 1) = decide (0 ≤ M k 2 ∧ M k 2 = F 5) := by
      show (ob_ex _ k || decide (0 ≤ M k 2 ∧ M k 2 = F 5)) = _
      rw [e, Bool.false_or]
    rw [Int32.add_zero, nI_clamp (by omega)]
    have st := rf_st h hl (hr k hl)
    refine ⟨vp_in_nI (by omega) (by decide), fun z => ?_, fun z => rf_msg rfl ?_⟩
    · refine hP _ _ _ hl ⟨?_, nI_1 _, rfl⟩
      rw [ex, decide_eq_false (fun hh => st.2 z hh.1)]; rfl
    · rw [show nI (17 + 134 * i + 14 + 5 * k) + 4 = nI (17 + 134 * i + 14 + 5 * k + 4) from nI_add _ 4]
      refine ⟨vp_in_nI (by omega) (by decide), rf_of (j := 4) rfl ⟨vp_in_nI (by omega) (by decide), ?_⟩⟩
      rw [nI_clamp (by omega), nI_clamp (by omega), e5, (st.1 z).2.2]
      refine ⟨fun y => ?_, fun y => ?_⟩
      · refine hP _ _ _ hl ⟨?_, nI_1 _, rfl⟩
        rw [ex, decide_eq_false (fun hh => y hh.2)]; rfl
      · refine hP _ _ _ hl ⟨?_, nI_1 _, rfl⟩
        rw [ex, decide_eq_true ⟨(st.1 z).1, y⟩]; rfl
/-- a message has arrived -/
theorem rf_O.u2 {N : Nat → Int32} {o n k : Nat} {F : Nat → Int32} {M : Nat → Nat → Int32} (h : rf_O N o (F, n, M)) (hk : k < n) : rf_O (upd N (o + 14 + 5 * k) 2) o (F, n, fun j => if j = k then upd (M k) 2 (-2) else M j) := by
  obtain ⟨h1, h2, h3⟩ := h
  refine ⟨fun j hj => by rw [pk_un (by omega)]; exact h1 j hj, by rw [pk_un (by omega)]; exact h2, fun j hj => ?_⟩
  obtain ⟨m1, m2, m3, m4⟩ := h3 j hj
  show rf_m _ (o + 14 + 5 * j) (if j = k then upd (M k) 2 (-2) else M j)
  by_cases ej : j = k
  · subst ej
    rw [if_pos rfl]
    exact ⟨by rw [pk_us]; rfl, by rw [pk_un (by omega)]; exact m2, by rw [pk_un (by omega)]; exact m3, fun hp => absurd (show (0 : Int32) ≤ -2 from hp) (by decide)⟩
  · rw [if_neg ej]
    refine ⟨by rw [pk_un (by omega)]; exact m1, by rw [pk_un (by omega)]; exact m2, by rw [pk_un (by omega)]; exact m3, fun h => ?_⟩
    rw [pk_un (by omega), pk_un (by omega)]
    exact m4 h
/-- one is delivered: what the row holds then -/
theorem rf_pop {N N' : Nat → Int32} {o n : Nat} {F : Nat → Int32} {M : Nat → Nat → Int32} (h : rf_O N o (F, n, M)) (hn : 0 < n) (hn2 : n ≤ 24) (e10 : N' (o + 10) = M 0 0) (e9 : N' (o + 9) = 31 * F 12 + M 0 0) (e8 : N' (o + 8) = F 8 + 1) (e : ∀ x, x ≠ o + 10 → x ≠ o + 9 → x ≠ o + 8 → x < o + 14 → N' x = N x) (em : ∀ z, z < 5 * (n - 1) → N' (o + 14 + z) = N (o + 14 + z + 5)) : rf_O N' o (ab_pop (F, n, M)) := by
  obtain ⟨h1, h2, h3⟩ := h
  refine ⟨fun j hj => ?_, ?_, fun k hk => ?_⟩
  · show _ = upd (upd (upd F 11 (M 0 0)) 12 (31 * F 12 + M 0 0)) 8 (F 8 + 1) (rf_pi j)
    by_cases j8 : j = 8
    · subst j8; exact e8
    · rw [pk_un (show rf_pi j ≠ 8 from rf_pi_inj j hj 8 (by decide) j8)]
      by_cases j9 : j = 9
      · subst j9; exact e9
      · rw [pk_un (show rf_pi j ≠ 12 from rf_pi_inj j hj 9 (by decide) j9)]
        by_cases j10 : j = 10
        · subst j10; exact e10
        · rw [pk_un (show rf_pi j ≠ 11 from rf_pi_inj j hj 10 (by decide) j10), e _ (by omega) (by omega) (by omega) (by omega)]
          exact h1 j hj
  · rw [e _ (by omega) (by omega) (by omega) (by omega)]; exact h2
  · have hk' : k < n - 1 := hk
    obtain ⟨m1, m2, m3, m4⟩ := h3 (k + 1) (by show k + 1 < n; omega)
    have en : ∀ a, a < 5 → N' (o + 14 + 5 * k + a) = N (o + 14 + 5 * (k + 1) + a) := fun a ha => by
      rw [show o + 14 + 5 * k + a = o + 14 + (5 * k + a) by omega, em _ (by omega)]
      congr 1; omega
    exact ⟨(en 0 (by decide)).trans m1, (en 1 (by decide)).trans m2, (en 2 (by decide)).trans m3, fun h => ⟨(en 3 (by decide)).trans (m4 h).1, (en 4 (by decide)).trans (m4 h).2⟩⟩
