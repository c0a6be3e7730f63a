/-! ===== bits; how many introductions are needed ===== -/
def ob_bt (x : Int32) (i : Nat) : Bool := x.toBitVec.getLsbD i
theorem ob_bor (x y : Int32) (i : Nat) : ob_bt (x ||| y) i = (ob_bt x i || ob_bt y i) := by unfold ob_bt; rw [Int32.toBitVec_or, BitVec.getLsbD_or]
theorem ob_band (x y : Int32) (i : Nat) : ob_bt (x &&& y) i = (ob_bt x i && ob_bt y i) := by unfold ob_bt; rw [Int32.toBitVec_and, BitVec.getLsbD_and]
theorem ob_bxor (x y : Int32) (i : Nat) : ob_bt (x ^^^ y) i = (ob_bt x i ^^ ob_bt y i) := by unfold ob_bt; rw [Int32.toBitVec_xor, BitVec.getLsbD_xor]
theorem ob_sl : ∀ n, n < 32 → ((nI n &&& 31).toBitVec.smod 32).toNat = n := by decide +kernel
theorem ob_bshr (n : Nat) (hn : n < 32) (x : Int32) : ob_bt (x >>> (nI n &&& 31)) 0 = ob_bt x n := by
  unfold ob_bt
  rw [Int32.toBitVec_shiftRight]
  show (x.toBitVec.sshiftRight ((nI n &&& 31).toBitVec.smod 32).toNat).getLsbD 0 = _
  rw [ob_sl n hn, BitVec.getLsbD_sshiftRight]
  simp [hn]
theorem ob_bone : ∀ n, n < 8 → ∀ k, k < 8 → ob_bt ((1 : Int32) <<< (nI n &&& 31)) k = decide (n = k) := by decide +kernel
theorem ab_bit_bt {v : Int32} {k : Nat} (hk : k < 32) : ab_bit v (nI k) = ob_bt v k := by
  unfold ab_bit
  rw [← ob_bshr k hk v]
  generalize v >>> (nI k &&& 31) = y
  have h := ob_band y 1 0
  rw [show ob_bt 1 0 = true by decide, Bool.and_true] at h
  rw [← h]
  rcases ob_and1 y with e | e
  · rw [e]; decide
  · rw [e]; decide
theorem ob_or0 (x : Int32) : x ||| 0 = x := by
  apply Int32.toBitVec_inj.mp
  rw [Int32.toBitVec_or]
  exact BitVec.or_zero
/-! reached sets -/
theorem wd_bt (A : aT) (r : Int32) (k : Nat) : ∀ n, n ≤ 8 → ob_bt (ab_wd A r n) k = (ob_bt r k || ob_ex (fun p => ob_bt r p && ob_bt (A.2.2.1 p) k) n)
  | 0, _ => by show ob_bt r k = (ob_bt r k || false); rw [Bool.or_false]
  | n + 1, hn => by
    have ih := wd_bt A r k n (by omega)
    show ob_bt (if ab_bit r (nI n) = true then ab_wd A r n ||| A.2.2.1 n else ab_wd A r n) k = (ob_bt r k || (ob_ex _ n || (ob_bt r n && ob_bt (A.2.2.1 n) k)))
    rw [ab_bit_bt (by omega)]
    cases e : ob_bt r n with
    | true => rw [if_pos rfl, ob_bor, ih, Bool.true_and, Bool.or_assoc]
    | false => rw [if_neg (by decide), ih, Bool.false_and, Bool.or_false]
theorem ob_ex_cg {p q : Nat → Bool} : ∀ {n : Nat}, (∀ k, k < n → p k = q k) → ob_ex p n = ob_ex q n
  | 0, _ => rfl
  | n + 1, h => by
    show (ob_ex p n || p n) = (ob_ex q n || q n)
    rw [ob_ex_cg (n := n) (fun k hk => h k (by omega)), h n (by omega)]
def wd_st (A : aT) (r : Int32) : Prop := ∀ k, k < 8 → ob_bt (ab_wd A r 8) k = ob_bt r k
theorem wd_st.next {A : aT} {r : Int32} (h : wd_st A r) : wd_st A (ab_wd A r 8) := fun k hk => by
  rw [wd_bt A _ k 8 (by omega), h k hk]
  rw [ob_ex_cg (q := fun p => ob_bt r p && ob_bt (A.2.2.1 p) k) (fun p hp => by rw [h p hp])]
  rw [← wd_bt A r k 8 (by omega), h k hk]
def wd_n (r : Int32) : Nat := ob_ct (fun k => ob_bt r k) 8
theorem ob_ct_mono {p q : Nat → Bool} : ∀ {n : Nat}, (∀ k, k < n → p k = true → q k = true) → ob_ct p n ≤ ob_ct q n
  | 0, _ => Nat.le_refl _
  | n + 1, h => by
    have ih := ob_ct_mono (n := n) (fun k hk => h k (by omega))
    show ob_ct p n + (if p n = true then 1 else 0) ≤ ob_ct q n + (if q n = true then 1 else 0)
    by_cases e : p n = true
    · rw [if_pos e, if_pos (h n (by omega) e)]; omega
    · rw [if_neg e]; omega
theorem ob_ct_lt {p q : Nat → Bool} : ∀ {n : Nat}, (∀ k, k < n → p k = true → q k = true) → (∃ k, k < n ∧ p k = false ∧ q k = true) → ob_ct p n + 1 ≤ ob_ct q n
  | 0, _, ⟨k, hk, _⟩ => absurd hk (Nat.not_lt_zero k)
  | n + 1, h, ⟨k, hk, e1, e2⟩ => by
    have mono := ob_ct_mono (n := n) (p := p) (q := q) (fun k hk => h k (by omega))
    show ob_ct p n + (if p n = true then 1 else 0) + 1 ≤ ob_ct q n + (if q n = true then 1 else 0)
    by_cases ek : k = n
    · subst ek
      rw [e1, e2, if_neg (by decide), if_pos rfl]; omega
    · have ih := ob_ct_lt (n := n) (fun k hk => h k (by omega)) ⟨k, by omega, e1, e2⟩
      by_cases e : p n = true
      · rw [if_pos e, if_pos (h n (by omega) e)]; omega
      · rw [if_neg e]; omega
theorem ob_ct_all {p : Nat → Bool} : ∀ {n : Nat}, n ≤ ob_ct p n → ∀ k, k < n → p k = true
  | 0, _, k, hk => absurd hk (Nat.not_lt_zero k)
  | n + 1, h, k, hk => by
    have h' : n + 1 ≤ ob_ct p n + (if p n = true then 1 else 0) := h
    have le := ob_ct_le p n
    by_cases e : p n = true
    · rw [if_pos e] at h'
      by_cases ek : k = n
      · rw [ek]; exact e
      · exact ob_ct_all (n := n) (by omega) k (by omega)
    · rw [if_neg e] at h'; omega
def wd_i (A : aT) (r : Int32) : Nat → Int32
  | 0 => r
  | n + 1 => ab_wd A (wd_i A r n) 8
theorem wd_i_s (A : aT) (r : Int32) : ∀ n, wd_i A (ab_wd A r 8) n = wd_i A r (n + 1)
  | 0 => rfl
  | n + 1 => by show ab_wd A (wd_i A (ab_wd A r 8) n) 8 = ab_wd A (wd_i A r (n + 1)) 8; rw [wd_i_s A r n]
theorem wd_grow {A : aT} {r : Int32} (h1 : 1 ≤ wd_n r) : ∀ n, wd_st A (wd_i A r n) ∨ n + 1 ≤ wd_n (wd_i A r n)
  | 0 => Or.inr h1
  | n + 1 => by
    rcases wd_grow h1 n with h | h
    · exact Or.inl h.next
    · by_cases hs : wd_st A (wd_i A r n)
      · exact Or.inl hs.next
      · refine Or.inr ?_
        have : ∃ k, k < 8 ∧ ob_bt (wd_i A r n) k = false ∧ ob_bt (wd_i A r (n + 1)) k = true := by
          refine Classical.byContradiction (fun hno => hs (fun k hk => ?_))
          have e := wd_bt A (wd_i A r n) k 8 (by omega)
          cases e1 : ob_bt (wd_i A r n) k with
          | true => rw [e, e1, Bool.true_or]
          | false =>
            cases e2 : ob_bt (ab_wd A (wd_i A r n) 8) k with
            | false => rfl
            | true => exact absurd ⟨k, hk, e1, e2⟩ hno
        have := ob_ct_lt (n := 8) (p := fun k => ob_bt (wd_i A r n) k) (q := fun k => ob_bt (wd_i A r (n + 1)) k) (fun k hk e => by show ob_bt (ab_wd A (wd_i A r n) 8) k = true; rw [wd_bt A _ k 8 (by omega)]; have e' : ob_bt (wd_i A r n) k = true := e; rw [e', Bool.true_or]) this
        unfold wd_n at h ⊢
        omega
/-- what isn't reached by seven steps isn't reached by eight -/
theorem wd_last {A : aT} {r : Int32} {y : Nat} (hy : y < 8) (h1 : 1 ≤ wd_n r) (h : ob_bt (wd_i A r 7) y = false) : ob_bt (wd_i A r 8) y = false := by
  rcases wd_grow (A := A) h1 7 with hs | hs
  · have : ob_bt (wd_i A r 8) y = ob_bt (wd_i A r 7) y := hs y hy
    rw [this, h]
  · have := ob_ct_all (n := 8) hs y hy
    have e : ob_bt (wd_i A r 7) y = true := this
    rw [e] at h
    cases h
theorem stp_two {A : aT} {y : Nat} (hy : y < 8) : ∀ f r s, (ab_stp A (nI y) f r (s + 1) = -1 ∧ (∀ i, 1 ≤ i → i ≤ f → ob_bt (wd_i A r i) y = false) ∧ ab_stp A (nI y) (f + 1) r s = if ob_bt (wd_i A r (f + 1)) y = true then nI (s + f) else -1) ∨ ∃ m, s ≤ m ∧ m < s + f ∧ ab_stp A (nI y) f r (s + 1) = nI (m + 1) ∧ ab_stp A (nI y) (f + 1) r s = nI m
  | 0, r, s => by
    refine Or.inl ⟨rfl, fun i h1 h2 => by omega, ?_⟩
    show (if ab_bit (ab_wd A r 8) (nI y) = true then nI s else ab_stp A (nI y) 0 (ab_wd A r 8) (s + 1)) = _
    rw [ab_bit_bt (by omega)]
    rfl
  | f + 1, r, s => by
    have e1 : ab_stp A (nI y) (f + 1) r (s + 1) = if ab_bit (ab_wd A r 8) (nI y) = true then nI (s + 1) else ab_stp A (nI y) f (ab_wd A r 8) (s + 1 + 1) := rfl
    have e2 : ab_stp A (nI y) (f + 1 + 1) r s = if ab_bit (ab_wd A r 8) (nI y) = true then nI s else ab_stp A (nI y) (f + 1) (ab_wd A r 8) (s + 1) := rfl
    rw [ab_bit_bt (by omega)] at e1 e2
    cases hb : ob_bt (ab_wd A r 8) y with
    | true =>
      rw [hb, if_pos rfl] at e1 e2
      exact Or.inr ⟨s, by omega, by omega, e1, e2⟩
    | false =>
      rw [hb, if_neg (by decide)] at e1 e2
      rcases stp_two hy f (ab_wd A r 8) (s + 1) with ⟨i1, i2, i3⟩ | ⟨m, m1, m2, m3, m4⟩
      · refine Or.inl ⟨e1.trans i1, fun i h1 h2 => ?_, ?_⟩
        · by_cases ei : i = 1
          · rw [ei]; exact hb
          · have := i2 (i - 1) (by omega) (by omega)
            rw [wd_i_s, show i - 1 + 1 = i by omega] at this
            exact this
        · rw [e2, i3, wd_i_s, show s + 1 + f = s + (f + 1) by omega]
      · exact Or.inr ⟨m, by omega, by omega, e1.trans m3, e2.trans m4⟩
theorem wd_n_one : ∀ a, a < 8 → 1 ≤ wd_n ((1 : Int32) <<< (nI a &&& 31)) := by decide +kernel
/-- the class's steps less one are the reference's number -/
theorem stp_eq {A : aT} {x y : Nat} (hx : x < 8) (hy : y < 8) : ab_stp A (nI y) 8 (1 <<< (nI x &&& 31)) 0 = (if ab_stp A (nI y) 7 (1 <<< (nI x &&& 31)) 1 = (-1 : Int32) then (-1 : Int32) else ab_stp A (nI y) 7 (1 <<< (nI x &&& 31)) 1 - (1 : Int32)) := by
  rcases stp_two (A := A) hy 7 (1 <<< (nI x &&& 31)) 0 with ⟨i1, i2, i3⟩ | ⟨m, m1, m2, m3, m4⟩
  · have j1 : ab_stp A (nI y) 7 (1 <<< (nI x &&& 31)) 1 = -1 := i1
    have j3 : ab_stp A (nI y) 8 (1 <<< (nI x &&& 31)) 0 = if ob_bt (wd_i A (1 <<< (nI x &&& 31)) 8) y = true then nI (0 + 7) else -1 := i3
    rw [j1, if_pos rfl, j3, wd_last hy (wd_n_one x hx) (i2 7 (by omega) (by omega))]
    rfl
  · have j3 : ab_stp A (nI y) 7 (1 <<< (nI x &&& 31)) 1 = nI (m + 1) := m3
    have j4 : ab_stp A (nI y) 8 (1 <<< (nI x &&& 31)) 0 = nI m := m4
    have hne : ¬ nI (m + 1) = -1 := fun e => by
      have := nI_pos (n := m + 1) (by omega)
      rw [e] at this
      exact absurd (by decide) this
    rw [j3, j4, if_neg hne]
    exact (nI_pred m).symm
/-! beyond the peers nothing is reached -/
theorem wd_np {P : aP} {A : aT} {r : Int32} (n8 : ab_np P ≤ 8) (hr : ∀ k, ab_np P ≤ k → k < 8 → ab_bit r (nI k) = false) : ab_wd A r (ab_np P) = ab_wd A r 8 := by
  have key : ∀ j, ab_np P + j ≤ 8 → ab_wd A r (ab_np P + j) = ab_wd A r (ab_np P) := by
    intro j
    induction j with
    | zero => intro _; rfl
    | succ j ih =>
      intro hj
      show (if ab_bit r (nI (ab_np P + j)) = true then _ else ab_wd A r (ab_np P + j)) = _
      rw [hr _ (by omega) (by omega), if_neg (by decide)]
      exact ih (by omega)
  have := key (8 - ab_np P) (by omega)
  rw [show ab_np P + (8 - ab_np P) = 8 by omega] at this
  exact this.symm
theorem wd_ok {P : aP} {A : aT} {r : Int32} (n8 : ab_np P ≤ 8) (hK : ok_K P A.2.2.1) (hr : ∀ k, ab_np P ≤ k → k < 8 → ab_bit r (nI k) = false) : ∀ k, ab_np P ≤ k → k < 8 → ab_bit (ab_wd A r 8) (nI k) = false := by
  intro k h1 h2
  rw [ab_bit_bt (by omega), wd_bt A r k 8 (by omega)]
  have := hr k h1 h2
  rw [ab_bit_bt (by omega)] at this
  rw [this, Bool.false_or, ob_ex_f]
  intro p hp
  obtain ⟨m, _, _, hb⟩ := hK p hp
  have := hb k h1 h2
  rw [ab_bit_bt (by omega)] at this
  rw [this, Bool.and_false]
theorem wd_one : ∀ a, a < 8 → ∀ k, k < 8 → ab_bit ((1 : Int32) <<< (nI a &&& 31)) (nI k) = decide (a = k) := fun a ha k hk => by
  rw [ab_bit_bt (by omega)]; exact ob_bone a ha k hk
/-! how many bits -/
def ob_pop (m : Nat) : Nat := ob_ct (fun k => m.testBit k) 8
theorem ob_pop_c : ∀ m, m < 256 → (fun x0 : Int32 => ((((((((x0 - ((((x0).toUInt32 >>> ((1 : Int32).toUInt32 &&& Int32.toUInt32 31)).toInt32) &&& 1431655765)) &&& 858993459) + ((((x0 - ((((x0).toUInt32 >>> ((1 : Int32).toUInt32 &&& Int32.toUInt32 31)).toInt32) &&& 1431655765)).toUInt32 >>> ((2 : Int32).toUInt32 &&& Int32.toUInt32 31)).toInt32) &&& 858993459)) + (((((x0 - ((((x0).toUInt32 >>> ((1 : Int32).toUInt32 &&& Int32.toUInt32 31)).toInt32) &&& 1431655765)) &&& 858993459) + ((((x0 - ((((x0).toUInt32 >>> ((1 : Int32).toUInt32 &&& Int32.toUInt32 31)).toInt32) &&& 1431655765)).toUInt32 >>> ((2 : Int32).toUInt32 &&& Int32.toUInt32 31)).toInt32) &&& 858993459)).toUInt32 >>> ((4 : Int32).toUInt32 &&& Int32.toUInt32 31)).toInt32)) &&& 252645135) + (((((((x0 - ((((x0).toUInt32 >>> ((1 : Int32).toUInt32 &&& Int32.toUInt32 31)).toInt32) &&& 1431655765)) &&& 858993459) + ((((x0 - ((((x0).toUInt32 >>> ((1 : Int32).toUInt32 &&& Int32.toUInt32 31)).toInt32) &&& 1431655765)).toUInt32 >>> ((2 : Int32).toUInt32 &&& Int32.toUInt32 31)).toInt32) &&& 858993459)) + (((((x0 - ((((x0).toUInt32 >>> ((1 : Int32).toUInt32 &&& Int32.toUInt32 31)).toInt32) &&& 1431655765)) &&& 858993459) + ((((x0 - ((((x0).toUInt32 >>> ((1 : Int32).toUInt32 &&& Int32.toUInt32 31)).toInt32) &&& 1431655765)).toUInt32 >>> ((2 : Int32).toUInt32 &&& Int32.toUInt32 31)).toInt32) &&& 858993459)).toUInt32 >>> ((4 : Int32).toUInt32 &&& Int32.toUInt32 31)).toInt32)) &&& 252645135).toUInt32 >>> ((8 : Int32).toUInt32 &&& Int32.toUInt32 31)).toInt32)) + ((((((((x0 - ((((x0).toUInt32 >>> ((1 : Int32).toUInt32 &&& Int32.toUInt32 31)).toInt32) &&& 1431655765)) &&& 858993459) + ((((x0 - ((((x0).toUInt32 >>> ((1 : Int32).toUInt32 &&& Int32.toUInt32 31)).toInt32) &&& 1431655765)).toUInt32 >>> ((2 : Int32).toUInt32 &&& Int32.toUInt32 31)).toInt32) &&& 858993459)) + (((((x0 - ((((x0).toUInt32 >>> ((1 : Int32).toUInt32 &&& Int32.toUInt32 31)).toInt32) &&& 1431655765)) &&& 858993459) + ((((x0 - ((((x0).toUInt32 >>> ((1 : Int32).toUInt32 &&& Int32.toUInt32 31)).toInt32) &&& 1431655765)).toUInt32 >>> ((2 : Int32).toUInt32 &&& Int32.toUInt32 31)).toInt32) &&& 858993459)).toUInt32 >>> ((4 : Int32).toUInt32 &&& Int32.toUInt32 31)).toInt32)) &&& 252645135) + (((((((x0 - ((((x0).toUInt32 >>> ((1 : Int32).toUInt32 &&& Int32.toUInt32 31)).toInt32) &&& 1431655765)) &&& 858993459) + ((((x0 - ((((x0).toUInt32 >>> ((1 : Int32).toUInt32 &&& Int32.toUInt32 31)).toInt32) &&& 1431655765)).toUInt32 >>> ((2 : Int32).toUInt32 &&& Int32.toUInt32 31)).toInt32) &&& 858993459)) + (((((x0 - ((((x0).toUInt32 >>> ((1 : Int32).toUInt32 &&& Int32.toUInt32 31)).toInt32) &&& 1431655765)) &&& 858993459) + ((((x0 - ((((x0).toUInt32 >>> ((1 : Int32).toUInt32 &&& Int32.toUInt32 31)).toInt32) &&& 1431655765)).toUInt32 >>> ((2 : Int32).toUInt32 &&& Int32.toUInt32 31)).toInt32) &&& 858993459)).toUInt32 >>> ((4 : Int32).toUInt32 &&& Int32.toUInt32 31)).toInt32)) &&& 252645135).toUInt32 >>> ((8 : Int32).toUInt32 &&& Int32.toUInt32 31)).toInt32)).toUInt32 >>> ((16 : Int32).toUInt32 &&& Int32.toUInt32 31)).toInt32)) &&& 63)) (nI m) = nI (ob_pop m) := by decide +kernel
theorem ob_pop_r : ∀ m, m < 256 → m ≠ 0 → nI m &&& (nI m - 1) = nI (m &&& (m - 1)) ∧ ob_pop (m &&& (m - 1)) + 1 = ob_pop m := by decide +kernel
theorem cl_bits {G : pm_G} {m : Nat} {I : pm_I} {K : Int32 → pm_I → Prop} (hm : m < 256) (h : K (nI (ob_pop m)) I) : wJ6_bitCount_0f7a4 G (nI m) I K := by
  unfold wJ6_bitCount_0f7a4
  have e := ob_pop_c m hm
  rw [← e] at h
  exact h
theorem rf_bits {G : pm_G} {m : Nat} {I : pm_I} {K : Int32 → pm_I → Prop} (hm : m < 256) (h : K (nI (ob_pop m)) I) : wX7_bits G (nI m) I K := by
  unfold wX7_bits
  refine ob_lp3 (fun i c v J => ∃ w, w < 256 ∧ v = nI w ∧ c = nI i ∧ i + ob_pop w = ob_pop m ∧ J = I) (ob_pop m) ⟨m, hm, rfl, rfl, by omega, rfl⟩ ?_
  intro P i c v J hi hI hP
  obtain ⟨w, hw, hv, hc, he, hJ⟩ := hI
  subst hv; subst hc; subst hJ
  refine ⟨fun z => ?_, fun z => ?_⟩
  · have : w = 0 := (nI_eq (b := 0) (by omega) (by omega)).mp z
    subst this
    have e0 : ob_pop 0 = 0 := by decide
    rw [show i = ob_pop m by omega]
    exact h
  · have w0 : w ≠ 0 := fun e => z (by rw [e]; rfl)
    obtain ⟨r1, r2⟩ := ob_pop_r w hw w0
    rw [r1]
    exact hP _ _ _ (by omega) ⟨w &&& (w - 1), Nat.lt_of_le_of_lt Nat.and_le_left hw, rfl, nI_1 _, by omega, rfl⟩
