/-! ===== THE CALL parse ===== -/
theorem ab_lk_b {P : aP} {a b : Nat} (hb : b < 8) : ∀ n, n ≤ 8 → ab_bit (ab_lk P a n) (nI b) = (decide (b < n) && !decide (P.2.2.2.1 (8 * a + b) = 0))
  | 0, _ => by
    rw [decide_eq_false (Nat.not_lt_zero b), Bool.false_and]
    have : ∀ b, b < 8 → ab_bit 0 (nI b) = false := by decide
    exact this b hb
  | n + 1, hn => by
    have ih := ab_lk_b (P := P) (a := a) hb n (by omega)
    show ab_bit (if P.2.2.2.1 (8 * a + n) = 0 then ab_lk P a n else ab_lk P a n ||| (1 <<< (nI n &&& 31))) (nI b) = _
    by_cases e : P.2.2.2.1 (8 * a + n) = 0
    · rw [if_pos e, ih]
      by_cases eb : b = n
      · subst eb
        rw [decide_eq_false (Nat.lt_irrefl b), decide_eq_true (show b < b + 1 by omega), decide_eq_true e]; rfl
      · rw [show decide (b < n + 1) = decide (b < n) from decide_eq_decide.mpr (by omega)]
    · rw [if_neg e]
      rw [ab_bit_bt (by omega)] at ih ⊢
      rw [ob_bor, ih, ob_bone n (by omega) b hb]
      by_cases eb : b = n
      · subst eb
        rw [decide_eq_true (show b < b + 1 by omega), decide_eq_false e, decide_eq_true (rfl : b = b), Bool.or_true]; rfl
      · rw [show decide (b < n + 1) = decide (b < n) from decide_eq_decide.mpr (by omega), decide_eq_false (show ¬ n = b from fun h => eb h.symm), Bool.or_false]
theorem ok_beg {P : aP} {A : aT} {c : Nat} (oP : ok_P P) : ok_X P c (ab_beg P A) := by
  refine ⟨⟨fun a b ha hb => ?_, oP.2.2.2.2.1, fun i hi ho => absurd (show (0 : Int32) = 1 from ho) (by decide), fun i hi => Or.inl rfl⟩, 0, by decide, rfl⟩
  show ab_bit (ab_lk P a 8) (nI b) = ab_bit (ab_lk P b 8) (nI a)
  rw [ab_lk_b hb 8 (by decide), ab_lk_b ha 8 (by decide), decide_eq_true hb, decide_eq_true ha, oP.2.2.2.1 a b ha hb]
def kok (k : Nat ⊕ (Nat × Nat)) : Bool := match k with
  | .inl 6 => false
  | .inl 2 => false
  | .inr (t, _) => decide (t < 6)
  | _ => true
theorem kok_9 : ∀ r, r < 516 → 2 ≤ r → kok (k9 r) = true := by decide +kernel
theorem kok_ck {G : pm_G} {k : Nat ⊕ (Nat × Nat)} {f : Nat → Int32} (h : kok k = true) : pm_ck G k f := by
  unfold kok at h
  unfold pm_ck
  split at h <;> simp_all
theorem pm_cl_g {G : pm_G} {J : pm_I} (hG : gK G) (h3 : (J 1 3).toNatClampNeg ≤ 515) (h4 : (J 1 4).toNatClampNeg ≤ 515) : pm_cl G J := by
  intro r h1 h2
  rw [hG.1] at h2
  rw [hG.2]
  by_cases e : r = 1
  · subst e
    have : k9 1 = .inl 6 := by decide +kernel
    rw [this]
    exact ⟨by rw [hG.1]; exact h3, by rw [hG.1]; exact h4⟩
  · exact kok_ck (kok_9 r (by omega) (by omega))
theorem rp_throw1 {G : pm_G} {J : pm_I} {q : Nat} {K : Int32 → pm_I → Prop} (h0 : J q 0 = 0) (hk : K 1 (pm_up J q 0 1)) : wX7_throwsIf G q 1 1 J K := by
  unfold wX7_throwsIf
  refine ⟨fun z => absurd h0 z, fun _ => ⟨fun z => absurd z (by decide), fun _ M qM => ?_⟩⟩
  rw [qM, ob_us]
  exact ⟨fun z => absurd z (by decide), fun _ => hk⟩
theorem rp_throw0 {G : pm_G} {J : pm_I} {q : Nat} {x : Int32} {K : Int32 → pm_I → Prop} (h0 : J q 0 = 0) (hk : K 0 J) : wX7_throwsIf G q 0 x J K := by
  unfold wX7_throwsIf
  rw [h0]
  exact ⟨fun z => absurd rfl z, fun _ => ⟨fun _ => ⟨fun _ => hk, fun z => absurd (by decide) z⟩, fun z => absurd rfl z⟩⟩
/-- the reference's parse, where the length is one that may be -/
theorem rp_parse {G : pm_G} {m len : Nat} {txt : Nat → Int32} {I' : pm_I} {A : aT} {o : aO} {KK : Int32 → pm_I → Prop} (hm : m ≤ len) (hl : len ≤ 600) (hb : ∀ k, k < m → ob_ib (txt k)) (e10 : I' 499 10 = nI len) (et : ∀ k, k < m → I' (499 + 9) k = txt k)
    (y2 : ∀ s', o = .inr s' → ok_V m s')
    (Ro : ∀ (J : pm_I) (KL : pm_I → Prop) (KE : Int32 → pm_I → Prop) (P : Int32 → pm_I → Prop), (∀ x L, ov_r G 499 KL KE P x L → P x L) → rp_Q J 499 m txt (ab_adv txt m (0, 0, 0, 0, 0, ab_D0)) → ov_R m 499 txt o J KL KE → P 1 J)
    (herr : ∀ e, o = .inl e → ∀ Z L : pm_I, Z 499 0 = 0 → Z 499 10 = 0 → Z 499 26 = I' 499 26 → (∀ r, r ≠ 499 → Z r = I' r) → rp_fr 499 Z L → rp_E L 499 e → KK e.1 L)
    (hsuc : ∀ s', o = .inr s' → ∀ Z L U : pm_I, Z 499 0 = 0 → Z 499 10 = 0 → (∀ r, r ≠ 499 → Z r = I' r) → rp_fr 499 Z L → L 499 17 = -1 → rf_W U 499 (ab_beg s'.2.2.2.2.2 A) s'.2.2.2.2.2 → U 499 26 = 0 → (∀ j, j ≠ 26 → U 499 j = L 499 j) → U (499 + 15) 0 = 0 → U (499 + 15) 1 = 0 → (∀ r, (r < 499 ∨ (508 ≤ r ∧ r ≠ 514)) → U r = L r) → KK 0 U) : wX7_parse G 499 (nI m) I' KK := by
  unfold wX7_parse
  intro I1 q1
  have a10 : I1 499 10 = nI len := by rw [q1, ob_uq (by decide)]; exact e10
  have a0 : I1 499 0 = 0 := by rw [q1, ob_us]
  unfold wX7_within
  rw [a10]
  refine ⟨fun z => absurd z (nI_pos (n := m) (by omega)), fun _ => ⟨fun z => absurd z (Int32.not_lt.mpr (nI_le hm (by omega))), fun _ => ⟨fun _ => ?_, fun y => absurd y (by decide)⟩⟩⟩
  refine rp_throw0 a0 ⟨fun _ => ?_, fun y => absurd rfl y⟩
  intro I2 q2 I3 q3 I4 q4 I5 q5 I6 q6 I7 q7
  have z0 : I7 499 0 = 0 := by rw [q7, ob_uq (by decide), q6, ob_uq (by decide), q5, ob_uq (by decide), q4, ob_uq (by decide), q3, ob_uq (by decide), q2, ob_uq (by decide)]; exact a0
  have z10 : I7 499 10 = 0 := by rw [q7, ob_uq (by decide), q6, ob_uq (by decide), q5, ob_uq (by decide), q4, ob_uq (by decide), q3, ob_us]
  have z11 : I7 499 11 = nI m := by rw [q7, ob_uq (by decide), q6, ob_uq (by decide), q5, ob_uq (by decide), q4, ob_uq (by decide), q3, ob_uq (by decide), q2, ob_us]
  have z13 : I7 499 13 = 0 := by rw [q7, ob_uq (by decide), q6, ob_uq (by decide), q5, ob_uq (by decide), q4, ob_us]
  have z16 : I7 499 16 = 0 := by rw [q7, ob_uq (by decide), q6, ob_uq (by decide), q5, ob_us]
  have z17 : I7 499 17 = -1 := by rw [q7, ob_uq (by decide), q6, ob_us]
  have z19 : I7 499 19 = 0 := by rw [q7, ob_us]
  have z26 : I7 499 26 = I' 499 26 := by rw [q7, ob_uq (by decide), q6, ob_uq (by decide), q5, ob_uq (by decide), q4, ob_uq (by decide), q3, ob_uq (by decide), q2, ob_uq (by decide), q1, ob_uq (by decide)]
  have zr : ∀ r, r ≠ 499 → I7 r = I' r := fun r hr => by rw [q7, ob_ur hr, q6, ob_ur hr, q5, ob_ur hr, q4, ob_ur hr, q3, ob_ur hr, q2, ob_ur hr, q1, ob_ur hr]
  clear q1 q2 q3 q4 q5 q6 q7
  refine rp_clear (fun L1 d1 l0 l9 f1 => ?_)
  refine rp_adv0 (nx := 0) (sn := 0) (D := ab_D0) (tx := txt) (m := m) (by omega) hb (Nat.zero_le m) ⟨by rw [l0]; exact z11, by rw [l0]; exact z13, by rw [l0]; exact z16, by rw [l0]; exact z17, by rw [l0]; exact z19, fun k hk => by rw [l9, zr _ (by decide)]; exact et k hk, d1⟩ (fun L2 s2 f2 => ?_)
  intro P hP
  refine Ro L2 (fun I24 => wX7_liftsAll G 499 I24 (fun I26 => wX7_begins G 499 I26 (fun I27 => KK 0 I27))) KK P (fun x L h => hP x L h) s2 ?_
  have f12 : rp_fr 499 I7 L2 := f1.tr f2.fr
  cases o with
  | inl e => exact fun L hL fL => herr e rfl I7 L z0 z10 z26 zr (f12.tr fL) hL
  | inr s' =>
    have oV := y2 s' rfl
    have oP := oV.2.2
    intro L hL fL
    have hD : rp_D L 499 s'.2.2.2.2.2 := hL.2.2.2.2.2.2.2.2
    refine rp_lall hD oP.1.1 oP.2.2.2.2.2.2 (fun M hM mr => rp_beg A hM oP (fun U hU u26 uq u0 u1 ur => ?_))
    refine hsuc s' rfl I7 L U z0 z10 zr (f12.tr fL) hL.2.2.2.2.2.1 hU u26 (fun j hj => ?_) u0 u1 (fun r hr => ?_)
    · rw [uq j hj, mr 499 (by omega)]
    · rw [ur r (by omega) (by omega) (by omega), mr r (by omega)]
