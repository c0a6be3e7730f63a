/-! ===== THE PARSER: statements (3): the reference's draft ===== -/
theorem hi_np (n : Nat) (hn : n ≤ 8) : ∀ v, v ≤ 9999 → (nI v ≤ nI n - 1 ↔ v < n) := by
  intro v hv
  rcases Nat.eq_zero_or_pos n with h | h
  · subst h
    rw [show nI 0 - 1 = (-1 : Int32) from by decide]
    refine ⟨fun hh => ?_, fun hh => absurd hh (Nat.not_lt_zero v)⟩
    rw [Int32.le_iff_toInt_le, nI_toInt (by omega)] at hh
    have h2 : (-1 : Int32).toInt = -1 := by decide
    omega
  · rw [show nI n - 1 = nI (n - 1) from pk_sub (b := 1) h, nI_leI (by omega) (by omega)]
    omega
theorem hi_n (n : Nat) (hn : n < 1000) : ∀ v, v ≤ 9999 → (nI v ≤ nI n ↔ v < n + 1) := by
  intro v hv
  rw [nI_leI (by omega) (by omega)]
  omega
section DR2
variable {G : pm_G} {m q : Nat} {tx : Nat → Int32} {J L : pm_I} {s : aQ}
theorem rp_row3 {x : Int32} (h : rp_Q L q m tx s) : rp_Q (pm_up L (q + 3) (8 + ab_np s.2.2.2.2.2) x) q m tx s := by
  have eD : rp_D L q s.2.2.2.2.2 := h.2.2.2.2.2.2.2.2
  obtain ⟨p1, p2, p3, p4, p5, p6⟩ := eD
  have c : ∀ r, r ≠ q + 3 → pm_up L (q + 3) (8 + ab_np s.2.2.2.2.2) x r = L r := fun r hr => ob_ur hr
  exact rpQ_dr (D := s.2.2.2.2.2) h (c q (by omega)) (c (q + 9) (by omega)) ⟨by rw [c (q + 2) (by omega)]; exact p1, fun k hk => ⟨by rw [ob_uq (by omega)]; exact (p2 k hk).1, by rw [c (q + 4) (by omega)]; exact (p2 k hk).2⟩, fun k hk => by rw [c (q + 5) (by omega)]; exact p3 k hk, fun k hk => by rw [c (q + 6) (by omega)]; exact p4 k hk, by rw [c (q + 7) (by omega)]; exact p5, fun k hk => by rw [c (q + 8) (by omega)]; exact p6 k hk⟩
theorem rpQ_peer {v w : Nat} (h : rp_Q L q m tx s) (hn : ab_np s.2.2.2.2.2 < 8) (h3 : L (q + 3) (8 + ab_np s.2.2.2.2.2) = nI v) : rp_Q (pm_up (pm_up L (q + 4) (8 + ab_np s.2.2.2.2.2) (nI w)) (q + 2) 4 (nI (ab_np s.2.2.2.2.2 + 1))) q m tx (ab_dr s (dr_peer s.2.2.2.2.2 v w)) := by
  have eD : rp_D L q s.2.2.2.2.2 := h.2.2.2.2.2.2.2.2
  generalize hD : s.2.2.2.2.2 = D at *
  obtain ⟨⟨p1, p1a, p1b, p1c⟩, p2, p3, p4, p5, p6⟩ := eD
  generalize hM : pm_up (pm_up L (q + 4) (8 + ab_np D) (nI w)) (q + 2) 4 (nI (ab_np D + 1)) = M
  have c : ∀ r, r ≠ q + 2 → r ≠ q + 4 → M r = L r := fun r h1 h2 => by rw [← hM, ob_ur h1, ob_ur h2]
  have c4 : M (q + 4) = pm_up L (q + 4) (8 + ab_np D) (nI w) (q + 4) := by rw [← hM, ob_ur (by omega)]
  have c2 : ∀ k, k ≠ 4 → M (q + 2) k = L (q + 2) k := fun k hk => by rw [← hM, ob_uq hk, ob_ur (by omega)]
  refine rpQ_dr h (c q (by omega) (by omega)) (c (q + 9) (by omega) (by omega)) ⟨⟨?_, ?_, ?_, ?_⟩, fun k hk => ⟨?_, ?_⟩, fun k hk => by rw [c (q + 5) (by omega) (by omega)]; exact p3 k hk, fun k hk => by rw [c (q + 6) (by omega) (by omega)]; exact p4 k hk, by rw [c (q + 7) (by omega) (by omega)]; exact p5, fun k hk => by rw [c (q + 8) (by omega) (by omega)]; exact p6 k hk⟩
  · show M (q + 2) 4 = upd D.1 0 (nI (ab_np D + 1)) 0
    rw [pk_us, ← hM, ob_us]
  · show M (q + 2) 5 = upd D.1 0 (nI (ab_np D + 1)) 6
    rw [pk_un (by decide), c2 5 (by decide)]; exact p1a
  · show M (q + 2) 6 = upd D.1 0 (nI (ab_np D + 1)) 7
    rw [pk_un (by decide), c2 6 (by decide)]; exact p1b
  · show M (q + 2) 7 = upd D.1 0 (nI (ab_np D + 1)) 8
    rw [pk_un (by decide), c2 7 (by decide)]; exact p1c
  · rw [np_peer (by omega)] at hk
    show M (q + 3) (8 + k) = upd D.2.1 (ab_np D) (nI v) k
    rw [c (q + 3) (by omega) (by omega)]
    by_cases e : k = ab_np D
    · rw [e, pk_us]; exact h3
    · rw [pk_un e]; exact (p2 k (by omega)).1
  · rw [np_peer (by omega)] at hk
    show M (q + 4) (8 + k) = upd D.2.2.1 (ab_np D) (nI w) k
    rw [c4]
    by_cases e : k = ab_np D
    · rw [e, ob_us, pk_us]
    · rw [ob_uq (by omega), pk_un e]; exact (p2 k (by omega)).2
theorem ob_urow8 {J : pm_I} {r n j o : Nat} {v : Int32} {f : Nat → Int32} (h : ∀ k, k < n → J r (o + k) = f k) : ∀ k, k < n → pm_up J r (o + j) v r (o + k) = upd f j v k := fun k hk => by
  by_cases e : k = j
  · rw [e, ob_us, pk_us]
  · rw [ob_uq (by omega), pk_un e]; exact h k hk
theorem rpQ_link {a b c : Nat} (h : rp_Q L q m tx s) : rp_Q (pm_up (pm_up L (q + 5) (64 + (8 * a + b)) (nI c)) (q + 5) (64 + (8 * b + a)) (nI c)) q m tx (ab_dr s (dr_link s.2.2.2.2.2 a b c)) := by
  have eD : rp_D L q s.2.2.2.2.2 := h.2.2.2.2.2.2.2.2
  obtain ⟨p1, p2, p3, p4, p5, p6⟩ := eD
  have c : ∀ r, r ≠ q + 5 → pm_up (pm_up L (q + 5) (64 + (8 * a + b)) (nI c)) (q + 5) (64 + (8 * b + a)) (nI c) r = L r := fun r hr => by rw [ob_ur hr, ob_ur hr]
  exact rpQ_dr h (c q (by omega)) (c (q + 9) (by omega)) ⟨by rw [c (q + 2) (by omega)]; exact p1, fun k hk => by rw [c (q + 3) (by omega), c (q + 4) (by omega)]; exact p2 k hk, ob_urow8 (ob_urow8 p3), fun k hk => by rw [c (q + 6) (by omega)]; exact p4 k hk, by rw [c (q + 7) (by omega)]; exact p5, fun k hk => by rw [c (q + 8) (by omega)]; exact p6 k hk⟩
theorem rpQ_know {a b : Nat} {x y : Int32} (ha : a < 8) (hb : b < 8) (h : rp_Q L q m tx s) (hx : x = L (q + 6) (8 + a) ||| (1 <<< (nI b &&& 31))) (hy : y = pm_up L (q + 6) (8 + a) x (q + 6) (8 + b) ||| (1 <<< (nI a &&& 31))) : rp_Q (pm_up (pm_up L (q + 6) (8 + a) x) (q + 6) (8 + b) y) q m tx (ab_dr s (dr_know s.2.2.2.2.2 a b)) := by
  have eD : rp_D L q s.2.2.2.2.2 := h.2.2.2.2.2.2.2.2
  generalize hD : s.2.2.2.2.2 = D at *
  obtain ⟨p1, p2, p3, p4, p5, p6⟩ := eD
  rw [p4 a ha] at hx
  have r1 : ∀ k, k < 8 → pm_up L (q + 6) (8 + a) x (q + 6) (8 + k) = dr_k1 D.2.2.2.2.1 a b k := by rw [hx]; exact ob_urow8 p4
  rw [r1 b hb] at hy
  have c : ∀ r, r ≠ q + 6 → pm_up (pm_up L (q + 6) (8 + a) x) (q + 6) (8 + b) y r = L r := fun r hr => by rw [ob_ur hr, ob_ur hr]
  refine rpQ_dr h (c q (by omega)) (c (q + 9) (by omega)) ⟨by rw [c (q + 2) (by omega)]; exact p1, fun k hk => by rw [c (q + 3) (by omega), c (q + 4) (by omega)]; exact p2 k hk, fun k hk => by rw [c (q + 5) (by omega)]; exact p3 k hk, ?_, by rw [c (q + 7) (by omega)]; exact p5, fun k hk => by rw [c (q + 8) (by omega)]; exact p6 k hk⟩
  rw [hy]
  exact ob_urow8 r1
theorem rpQ_set {j v : Nat} (hj : j = 6 ∨ j = 7 ∨ j = 8) (h : rp_Q L q m tx s) : rp_Q (pm_up L (q + 2) (j - 1) (nI v)) q m tx (ab_dr s (dr_set s.2.2.2.2.2 j v)) := by
  have eD : rp_D L q s.2.2.2.2.2 := h.2.2.2.2.2.2.2.2
  generalize hD : s.2.2.2.2.2 = D at *
  obtain ⟨⟨p1, p1a, p1b, p1c⟩, p2, p3, p4, p5, p6⟩ := eD
  have c : ∀ r, r ≠ q + 2 → pm_up L (q + 2) (j - 1) (nI v) r = L r := fun r hr => ob_ur hr
  have g : ∀ i, 1 ≤ i → L (q + 2) (i - 1) = D.1 i → pm_up L (q + 2) (j - 1) (nI v) (q + 2) (i - 1) = upd D.1 j (nI v) i := fun i h1 hi => by
    by_cases e : i = j
    · rw [e, ob_us, pk_us]
    · rw [ob_uq (by omega), pk_un e]; exact hi
  have g0 : pm_up L (q + 2) (j - 1) (nI v) (q + 2) 4 = upd D.1 j (nI v) 0 := by rw [ob_uq (by omega), pk_un (by omega)]; exact p1
  refine rpQ_dr h (c q (by omega)) (c (q + 9) (by omega)) ⟨⟨g0, g 6 (by omega) p1a, g 7 (by omega) p1b, g 8 (by omega) p1c⟩, fun k hk => ?_, fun k hk => by rw [c (q + 5) (by omega)]; exact p3 k hk, fun k hk => by rw [c (q + 6) (by omega)]; exact p4 k hk, by rw [c (q + 7) (by omega)]; exact p5, fun k hk => by rw [c (q + 8) (by omega)]; exact p6 k hk⟩
  rw [np_set (by omega)] at hk
  rw [c (q + 3) (by omega), c (q + 4) (by omega)]; exact p2 k hk
theorem rpQ_no (h : rp_Q L q m tx s) : rp_Q (pm_up L (q + 7) 1 0) q m tx (ab_dr s (dr_no s.2.2.2.2.2)) := by
  have eD : rp_D L q s.2.2.2.2.2 := h.2.2.2.2.2.2.2.2
  obtain ⟨p1, p2, p3, p4, p5, p6⟩ := eD
  have c : ∀ r, r ≠ q + 7 → pm_up L (q + 7) 1 0 r = L r := fun r hr => ob_ur hr
  exact rpQ_dr h (c q (by omega)) (c (q + 9) (by omega)) ⟨by rw [c (q + 2) (by omega)]; exact p1, fun k hk => by rw [c (q + 3) (by omega), c (q + 4) (by omega)]; exact p2 k hk, fun k hk => by rw [c (q + 5) (by omega)]; exact p3 k hk, fun k hk => by rw [c (q + 6) (by omega)]; exact p4 k hk, by rw [ob_us]; rfl, fun k hk => absurd hk (Nat.not_lt_zero k)⟩
/-- two peers -/
theorem rp_two {K : Int32 → pm_I → Prop} (hm : m ≤ 600) (hb : ∀ k, k < m → ob_ib (tx k)) (ok : ok_Q m s) (h : rp_Q J q m tx s) (h8 : ab_np s.2.2.2.2.2 ≤ 8) (h0 : s.2.2.2.2.2.1 0 = nI (ab_np s.2.2.2.2.2))
    (hk1 : ∀ e, ab_nu (ab_np s.2.2.2.2.2) 0 (-1) (ab_adv tx m s) = .inl e → ∀ L, rp_E L q e → rp_fr q J L → K 0 L)
    (hk2 : ∀ a, ab_nu (ab_np s.2.2.2.2.2) 0 (-1) (ab_adv tx m s) = .inr a → (∀ e, ab_nu (ab_np s.2.2.2.2.2) 0 (nI a) (ab_adv tx m (ab_adv tx m s)) = .inl e → ∀ L, rp_E L q e → rp_fr q J L → K 0 L) ∧ ∀ b, ab_nu (ab_np s.2.2.2.2.2) 0 (nI a) (ab_adv tx m (ab_adv tx m s)) = .inr b → ∀ L, rp_Q L q m tx (ab_adv tx m (ab_adv tx m (ab_adv tx m s))) → rp_fr q J L → L q 20 = nI a → L q 21 = nI b → K 1 L) : wX7_takesTwo G q J K := by
  have eD : rp_D J q s.2.2.2.2.2 := h.2.2.2.2.2.2.2.2
  have e4 : J (q + 2) 4 = nI (ab_np s.2.2.2.2.2) := eD.1.1.trans h0
  have ok1 := (ok_Q.adv tx ok).1
  have ok2 := (ok_Q.adv tx ok1).1
  generalize hn : ab_np s.2.2.2.2.2 = n at *
  unfold wX7_takesTwo
  refine rpQ_adv hm hb ok h (fun L1 hL1 f1 => ?_)
  have e4' : L1 (q + 2) (4 : Int32).toNatClampNeg = nI n := by
    rw [show (4 : Int32).toNatClampNeg = 4 from by decide, f1.1 (q + 2) (by omega)]; exact e4
  rw [e4']
  refine rp_takes (lo := 0) (n := n) hm hb ok1 (ok_N.adv tx m s) hL1 (by decide) (hi_np n h8) (fun e he L hL fL => ⟨fun z => absurd rfl z, fun _ => hk1 e he L hL (f1.fr.tr fL)⟩) (fun a ha L2 hL2 f2 e18 => ⟨fun _ M qM => ?_, fun z => absurd z (by decide)⟩)
  rw [e18] at qM
  have fM : rp_fr q J M := by rw [qM]; exact (f1.fr.tr f2.fr).up (by omega) (by omega)
  have hM : rp_Q M q m tx (ab_adv tx m (ab_adv tx m s)) := by rw [qM]; exact rpQ_uq hL2 (Or.inr (by omega))
  have m20 : M q 20 = nI a := by rw [qM, ob_us]
  have oN2 := ok_N.adv tx m (ab_adv tx m s)
  obtain ⟨t1, t2⟩ := ab_nu_3 (n := n) (lo := 0) (x3 := nI a) oN2
  obtain ⟨k1, k2⟩ := hk2 a ha
  have ra := ab_nu_r (ok_N.adv tx m s) ha
  refine rp_sees (lo := 0) (n := n) oN2 hM (by decide) (hi_np n h8) (fun e he L hL fL => ⟨fun _ => k1 e (t1 e he) L hL (fM.tr fL), fun z => absurd rfl z⟩) (fun b hb' => ⟨fun z => absurd z (by decide), fun _ => ?_⟩)
  have rb := ab_nu_r oN2 hb'
  rw [ob_us, ob_uq (by decide), m20]
  have tb := t2 b hb'
  refine ⟨fun z => ?_, fun z => ?_⟩
  · rw [if_pos z] at tb
    unfold wX7_starts
    refine ⟨fun y => absurd rfl y, fun _ => rpQ_fail (rpQ_uq hM (Or.inl rfl)) (fun L hL fL => ⟨Or.inl rfl, fun y => absurd rfl y, fun _ => k1 _ tb L hL ((fM.up (by omega) (by omega)).tr fL)⟩)⟩
  · rw [if_neg z] at tb
    unfold wX7_starts
    refine ⟨fun _ => rpQ_adv hm hb ok2 (rpQ_uq hM (Or.inl rfl)) (fun L3 hL3 f3 => ⟨fun _ M3 q3 => ?_, fun y => absurd y (by decide)⟩), fun y => absurd y (by decide)⟩
    have l18 : L3 q 18 = nI b := (f3.2 18 (by omega)).trans (ob_us _ _ _ _)
    rw [l18] at q3
    refine k2 b tb M3 (by rw [q3]; exact rpQ_uq hL3 (Or.inr (by omega))) (by rw [q3]; exact ((fM.up (by omega) (by omega)).tr f3.fr).up (by omega) (by omega)) ?_ (by rw [q3, ob_us])
    rw [q3, ob_uq (by decide), f3.2 20 (by omega), ob_uq (by decide)]
    exact m20
end DR2
