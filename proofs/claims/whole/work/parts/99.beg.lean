/-! ===== THE PARSER: a draft taken into use, the reference ===== -/
section BG
variable {G : pm_G} {q : Nat} {J : pm_I}
theorem rp_lift {r h : Nat} {K : pm_I → Prop} (h1 : 0 < h) (hh : h ≤ 620) (hk : ∀ L : pm_I, (∀ x, x ≠ r → L x = J x) → (∀ k, k < h → L r k = J r (h + k)) → K L) : wX7_lifts G r (2 * h) J K := by
  unfold wX7_lifts
  have e2 : (Int32.ofNat (2 * h)) / 2 = nI h := by
    show nI (2 * h) / nI 2 = nI h
    rw [pk_div (by omega) (by decide) (by decide), show 2 * h / 2 = h by omega]
  rw [e2]
  refine ob_lp2 (fun i x L => x = nI i ∧ (∀ x, x ≠ r → L x = J x) ∧ (∀ k, k < i → L r k = J r (h + k)) ∧ ∀ k, i ≤ k → L r k = J r k) h ⟨rfl, fun _ _ => rfl, fun k hk => absurd hk (Nat.not_lt_zero k), fun _ _ => rfl⟩ ?_
  intro P i x L hi hI hP
  obtain ⟨hx, lr, l1, l2⟩ := hI
  subst hx
  refine ⟨fun hc => ?_, fun hc => ?_⟩
  · have e := (ob_to (n := h) (by omega) hi).1 hc
    subst e
    exact hk L lr l1
  · have hl := (ob_to (n := h) (by omega) hi).2 hc
    rw [nI_add, nI_clamp (by omega), nI_clamp (by omega)]
    refine ⟨vp_in_nI (by omega) (by omega), vp_in_nI (by omega) (by omega), fun M qM => hP _ _ hl ⟨nI_1 _, fun x hx => by rw [qM, ob_ur hx]; exact lr x hx, fun k hk => ?_, fun k hk => ?_⟩⟩
    · rw [qM]
      by_cases ek : k = i
      · rw [ek, ob_us]; exact l2 _ (by omega)
      · rw [ob_uq ek]; exact l1 k (by omega)
    · rw [qM, ob_uq (by omega)]; exact l2 k (by omega)
theorem rp_lall {K : pm_I → Prop} {D : aP} (hD : rp_D J q D) (n8 : ab_np D ≤ 8) (hl : D.2.2.2.2.2.length ≤ 600) (hk : ∀ L : pm_I, rf_P L q D → (∀ r, (r < q + 2 ∨ q + 9 ≤ r) → L r = J r) → K L) : wX7_liftsAll G q J K := by
  obtain ⟨⟨p1, p1a, p1b, p1c⟩, p2, p3, p4, p5, p6⟩ := hD
  unfold wX7_liftsAll
  refine rp_lift (h := 4) (by decide) (by decide) (fun L1 a1 b1 => ?_)
  refine rp_lift (h := 8) (by decide) (by decide) (fun L2 a2 b2 => ?_)
  refine rp_lift (h := 8) (by decide) (by decide) (fun L3 a3 b3 => ?_)
  refine rp_lift (h := 64) (by decide) (by decide) (fun L4 a4 b4 => ?_)
  refine rp_lift (h := 8) (by decide) (by decide) (fun L5 a5 b5 => ?_)
  refine rp_lift (h := 1) (by decide) (by decide) (fun L6 a6 b6 => ?_)
  refine rp_lift (h := 620) (by decide) (by decide) (fun L7 a7 b7 => ?_)
  have r2 : L7 (q + 2) = L1 (q + 2) := by rw [a7 _ (by omega), a6 _ (by omega), a5 _ (by omega), a4 _ (by omega), a3 _ (by omega), a2 _ (by omega)]
  have r3 : L7 (q + 3) = L2 (q + 3) := by rw [a7 _ (by omega), a6 _ (by omega), a5 _ (by omega), a4 _ (by omega), a3 _ (by omega)]
  have r4 : L7 (q + 4) = L3 (q + 4) := by rw [a7 _ (by omega), a6 _ (by omega), a5 _ (by omega), a4 _ (by omega)]
  have r5 : L7 (q + 5) = L4 (q + 5) := by rw [a7 _ (by omega), a6 _ (by omega), a5 _ (by omega)]
  have r6 : L7 (q + 6) = L5 (q + 6) := by rw [a7 _ (by omega), a6 _ (by omega)]
  have r7 : L7 (q + 7) = L6 (q + 7) := by rw [a7 _ (by omega)]
  have j3 : L1 (q + 3) = J (q + 3) := a1 _ (by omega)
  have j4 : L2 (q + 4) = J (q + 4) := by rw [a2 _ (by omega), a1 _ (by omega)]
  have j5 : L3 (q + 5) = J (q + 5) := by rw [a3 _ (by omega), a2 _ (by omega), a1 _ (by omega)]
  have j6 : L4 (q + 6) = J (q + 6) := by rw [a4 _ (by omega), a3 _ (by omega), a2 _ (by omega), a1 _ (by omega)]
  have j7 : L5 (q + 7) = J (q + 7) := by rw [a5 _ (by omega), a4 _ (by omega), a3 _ (by omega), a2 _ (by omega), a1 _ (by omega)]
  have j8 : L6 (q + 8) = J (q + 8) := by rw [a6 _ (by omega), a5 _ (by omega), a4 _ (by omega), a3 _ (by omega), a2 _ (by omega), a1 _ (by omega)]
  refine hk L7 ⟨⟨?_, ?_, ?_, ?_⟩, fun k hk => ⟨?_, ?_⟩, fun k hk => ?_, fun k hk => ?_, ?_, fun k hk => ?_⟩ (fun r hr => ?_)
  · rw [r2, b1 0 (by decide)]; exact p1
  · rw [r2, b1 1 (by decide)]; exact p1a
  · rw [r2, b1 2 (by decide)]; exact p1b
  · rw [r2, b1 3 (by decide)]; exact p1c
  · rw [r3, b2 k (by omega), j3]; exact (p2 k hk).1
  · rw [r4, b3 k (by omega), j4]; exact (p2 k hk).2
  · rw [r5, b4 k (by omega), j5]; exact p3 k hk
  · rw [r6, b5 k (by omega), j6]; exact p4 k hk
  · rw [r7, b6 0 (by decide), j7]; exact p5
  · rw [b7 k (by omega), j8]; exact p6 k hk
  · rw [a7 _ (by omega), a6 _ (by omega), a5 _ (by omega), a4 _ (by omega), a3 _ (by omega), a2 _ (by omega), a1 _ (by omega)]
theorem rp_beg {K : pm_I → Prop} {P : aP} (A : aT) (hP : rf_P J q P) (oP : ok_P P) (hk : ∀ L : pm_I, rf_W L q (ab_beg P A) P → L q 26 = 0 → (∀ j, j ≠ 26 → L q j = J q j) → L (q + 15) 0 = 0 → L (q + 15) 1 = 0 → (∀ r, r ≠ q → r ≠ q + 1 → r ≠ q + 15 → L r = J r) → K L) : wX7_begins G q J K := by
  obtain ⟨p1, p2, p3, p4, p5, p6⟩ := hP
  have o3 := oP.2.2.1
  unfold wX7_begins
  refine ob_lp2 (fun i x L => x = nI i ∧ (∀ r, r ≠ q + 1 → L r = J r) ∧ ∀ k, k < i → L (q + 1) k = 0) 821 ⟨rfl, fun _ _ => rfl, fun k hk => absurd hk (Nat.not_lt_zero k)⟩ ?_
  intro Q i x L hi hI hQ
  obtain ⟨hx, lr, l1⟩ := hI
  subst hx
  refine ⟨fun hc => ?_, fun hc => ?_⟩
  · have e := (ob_to (n := 821) (by decide) hi).1 hc
    subst e
    clear hQ
    refine ob_lp2 (fun i x M => x = nI i ∧ (∀ r, r ≠ q + 1 → M r = J r) ∧ (∀ k, k < i → M (q + 1) (1 + k) = P.2.2.2.2.1 k) ∧ (∀ k, k < i → M (q + 1) (9 + k) = ab_lk P k 8) ∧ (∀ k, i ≤ k → k < 8 → M (q + 1) (9 + k) = 0) ∧ M (q + 1) 0 = 0 ∧ ∀ k, 17 ≤ k → k < 821 → M (q + 1) k = 0) 8 ⟨rfl, lr, fun k hk => absurd hk (Nat.not_lt_zero k), fun k hk => absurd hk (Nat.not_lt_zero k), fun k _ h2 => l1 _ (by omega), l1 0 (by decide), fun k _ h2 => l1 k h2⟩ ?_
    intro Q i x M hi hI hQ
    obtain ⟨hx, mr, m1, m2, m3, m4, m5⟩ := hI
    subst hx
    refine ⟨fun hc => ?_, fun hc => ?_⟩
    · have e := (ob_to (n := 8) (by decide) hi).1 hc
      subst e
      clear hQ
      intro N qN O qO U qU
      rw [show (0 : Int32).toNatClampNeg = 0 from by decide, ob_nb0] at qO
      rw [show (1 : Int32).toNatClampNeg = 1 from by decide, ob_nb0] at qU
      have u1 : U (q + 1) = M (q + 1) := by rw [qU, ob_ur (by omega), qO, ob_ur (by omega), qN, ob_ur (by omega)]
      have ur : ∀ r, r ≠ q → r ≠ q + 1 → r ≠ q + 15 → U r = J r := fun r h0 h1 h2 => by rw [qU, ob_ur h2, qO, ob_ur h2, qN, ob_ur h0]; exact mr r h1
      refine hk U ⟨⟨?_, fun k hk => ?_, fun k hk => ?_, fun i hi => ⟨fun ho => ?_, fun _ => ?_⟩⟩, ⟨?_, fun k hk => ?_, fun k hk => ?_, fun k hk => ?_, ?_, fun k hk => ?_⟩⟩ ?_ (fun j hj => ?_) ?_ ?_ ur
      · rw [u1]; exact m4
      · rw [u1]; exact m1 k hk
      · rw [u1]; exact m2 k hk
      · exact absurd (show (0 : Int32) = 1 from ho) (by decide)
      · rw [u1, m5 _ (by omega) (by omega)]; decide
      · rw [ur (q + 2) (by omega) (by omega) (by omega)]; exact p1
      · rw [ur (q + 3) (by omega) (by omega) (by omega), ur (q + 4) (by omega) (by omega) (by omega)]; exact p2 k hk
      · rw [ur (q + 5) (by omega) (by omega) (by omega)]; exact p3 k hk
      · rw [ur (q + 6) (by omega) (by omega) (by omega)]; exact p4 k hk
      · rw [ur (q + 7) (by omega) (by omega) (by omega)]; exact p5
      · rw [ur (q + 8) (by omega) (by omega) (by omega)]; exact p6 k hk
      · rw [qU, ob_ur (by omega), qO, ob_ur (by omega), qN, ob_us]
      · rw [qU, ob_ur (by omega), qO, ob_ur (by omega), qN, ob_uq hj, mr q (by omega)]
      · rw [qU, ob_uq (by decide), qO, ob_us]
      · rw [qU, ob_us]
    · have hl := (ob_to (n := 8) (by decide) hi).2 hc
      have k6 : M (q + 6) i = P.2.2.2.2.1 i := by rw [mr (q + 6) (by omega)]; exact p4 i hl
      rw [show (1 : Int32) + nI i = nI (1 + i) from nI_add 1 i, nI_clamp (by omega), nI_clamp (by omega), k6]
      refine ⟨vp_in_nI (by omega) (by decide), vp_in_nI (by omega) (by decide), fun N qN => ?_⟩
      have a9 : (9 : Int32) + nI i = nI (9 + i) := nI_add 9 i
      rw [a9, nI_clamp (by omega)]
      refine ob_lp2 (fun j y O => y = nI j ∧ (∀ r, r ≠ q + 1 → O r = J r) ∧ O (q + 1) (9 + i) = ab_lk P i j ∧ ∀ k, k ≠ 9 + i → O (q + 1) k = N (q + 1) k) 8 ⟨rfl, fun r hr => by rw [qN, ob_ur hr]; exact mr r hr, by rw [qN, ob_uq (by omega)]; exact m3 i (by omega) hl, fun _ _ => rfl⟩ ?_
      intro R j y O hj hI hR
      obtain ⟨hy, or', o9, oo⟩ := hI
      subst hy
      refine ⟨fun hc => ?_, fun hc => ?_⟩
      · have e := (ob_to (n := 8) (by decide) hj).1 hc
        subst e
        clear hR
        refine hQ _ _ hl ⟨nI_1 _, or', fun k hk => ?_, fun k hk => ?_, fun k h1 h2 => ?_, ?_, fun k h1 h2 => ?_⟩
        · rw [oo _ (by omega), qN]
          by_cases ek : k = i
          · rw [ek, ob_us]
          · rw [ob_uq (by omega)]; exact m1 k (by omega)
        · by_cases ek : k = i
          · rw [ek]; exact o9
          · rw [oo _ (by omega), qN, ob_uq (by omega)]; exact m2 k (by omega)
        · rw [oo _ (by omega), qN, ob_uq (by omega)]; exact m3 k (by omega) h2
        · rw [oo _ (by omega), qN, ob_uq (by omega)]; exact m4
        · rw [oo _ (by omega), qN, ob_uq (by omega)]; exact m5 k h1 h2
      · have hl2 := (ob_to (n := 8) (by decide) hj).2 hc
        have ix : (8 : Int32) * nI i + nI j = nI (8 * i + j) := by rw [show (8 : Int32) = nI 8 from rfl, pk_mul, nI_add]
        have k5 : O (q + 5) (8 * i + j) = P.2.2.2.1 (8 * i + j) := by rw [or' (q + 5) (by omega)]; exact p3 _ (by omega)
        rw [ix, nI_clamp (by omega), k5, o9]
        have ek : ab_lk P i (j + 1) = if P.2.2.2.1 (8 * i + j) = 0 then ab_lk P i j else ab_lk P i j ||| (1 <<< (nI j &&& 31)) := rfl
        have nn := o3 (8 * i + j) (by omega)
        refine ⟨vp_in_nI (by omega) (by decide), vp_in_nI (by omega) (by decide), fun z => ⟨vp_in_nI (by omega) (by decide), fun V qV => hR _ _ hl2 ⟨nI_1 _, fun r hr => by rw [qV, ob_ur hr]; exact or' r hr, ?_, fun k hk => by rw [qV, ob_uq hk]; exact oo k hk⟩⟩, fun z => ⟨vp_in_nI (by omega) (by decide), fun V qV => hR _ _ hl2 ⟨nI_1 _, fun r hr => by rw [qV, ob_ur hr]; exact or' r hr, ?_, fun k hk => by rw [qV, ob_uq hk]; exact oo k hk⟩⟩⟩
        · have e0 : P.2.2.2.1 (8 * i + j) = 0 := by
            rw [Int32.le_iff_toInt_le] at z
            have h0 : (0 : Int32).toInt = 0 := by decide
            exact Int32.toInt_inj.mp (by omega)
          rw [qV, ob_us, ek, if_pos e0]
          exact Int32.or_zero
        · have e0 : ¬ P.2.2.2.1 (8 * i + j) = 0 := fun e => z (by rw [e]; decide)
          rw [qV, ob_us, ek, if_neg e0]
  · have hl := (ob_to (n := 821) (by decide) hi).2 hc
    rw [nI_clamp (by omega)]
    refine ⟨vp_in_nI (by omega) (by decide), fun M qM => hQ _ _ hl ⟨nI_1 _, fun r hr => by rw [qM, ob_ur hr]; exact lr r hr, fun k hk => ?_⟩⟩
    rw [qM]
    by_cases ek : k = i
    · rw [ek, ob_us]
    · rw [ob_uq ek]; exact l1 k (by omega)
end BG
