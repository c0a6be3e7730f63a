/-! ===== THE PURE PART: loops, memory, bits ===== -/
theorem ob_lp1 {A1 : Type} {B : (A1 → Prop) → A1 → Prop} (Inv : Nat → A1 → Prop) (n : Nat) {a : A1} (h0 : Inv 0 a)
    (h : ∀ P i a, i ≤ n → Inv i a → (∀ a', i < n → Inv (i + 1) a' → P a') → B P a) : pm_lp1 B a := by
  intro P hP
  have key : ∀ k i a, i + k = n → Inv i a → P a := by
    intro k
    induction k with
    | zero => intro i a hi hv; exact hP _ (h P i a (by omega) hv (fun a' hl _ => absurd hl (by omega)))
    | succ k ih => intro i a hi hv; exact hP _ (h P i a (by omega) hv (fun a' _ hv' => ih (i + 1) a' (by omega) hv'))
  exact key n 0 a (by omega) h0
theorem ob_lp2 {A1 A2 : Type} {B : (A1 → A2 → Prop) → A1 → A2 → Prop} (Inv : Nat → A1 → A2 → Prop) (n : Nat) {a : A1} {b : A2} (h0 : Inv 0 a b)
    (h : ∀ P i a b, i ≤ n → Inv i a b → (∀ a' b', i < n → Inv (i + 1) a' b' → P a' b') → B P a b) : pm_lp2 B a b := by
  intro P hP
  have key : ∀ k i a b, i + k = n → Inv i a b → P a b := by
    intro k
    induction k with
    | zero => intro i a b hi hv; exact hP _ _ (h P i a b (by omega) hv (fun a' b' hl _ => absurd hl (by omega)))
    | succ k ih => intro i a b hi hv; exact hP _ _ (h P i a b (by omega) hv (fun a' b' _ hv' => ih (i + 1) a' b' (by omega) hv'))
  exact key n 0 a b (by omega) h0
theorem ob_lp3 {A1 A2 A3 : Type} {B : (A1 → A2 → A3 → Prop) → A1 → A2 → A3 → Prop} (Inv : Nat → A1 → A2 → A3 → Prop) (n : Nat) {a : A1} {b : A2} {c : A3} (h0 : Inv 0 a b c)
    (h : ∀ P i a b c, i ≤ n → Inv i a b c → (∀ a' b' c', i < n → Inv (i + 1) a' b' c' → P a' b' c') → B P a b c) : pm_lp3 B a b c := by
  intro P hP
  have key : ∀ k i a b c, i + k = n → Inv i a b c → P a b c := by
    intro k
    induction k with
    | zero => intro i a b c hi hv; exact hP _ _ _ (h P i a b c (by omega) hv (fun a' b' c' hl _ => absurd hl (by omega)))
    | succ k ih => intro i a b c hi hv; exact hP _ _ _ (h P i a b c (by omega) hv (fun a' b' c' _ hv' => ih (i + 1) a' b' c' (by omega) hv'))
  exact key n 0 a b c (by omega) h0
theorem ob_lp4 {A1 A2 A3 A4 : Type} {B : (A1 → A2 → A3 → A4 → Prop) → A1 → A2 → A3 → A4 → Prop} (Inv : Nat → A1 → A2 → A3 → A4 → Prop) (n : Nat) {a : A1} {b : A2} {c : A3} {d : A4} (h0 : Inv 0 a b c d)
    (h : ∀ P i a b c d, i ≤ n → Inv i a b c d → (∀ a' b' c' d', i < n → Inv (i + 1) a' b' c' d' → P a' b' c' d') → B P a b c d) : pm_lp4 B a b c d := by
  intro P hP
  have key : ∀ k i a b c d, i + k = n → Inv i a b c d → P a b c d := by
    intro k
    induction k with
    | zero => intro i a b c d hi hv; exact hP _ _ _ _ (h P i a b c d (by omega) hv (fun a' b' c' d' hl _ => absurd hl (by omega)))
    | succ k ih => intro i a b c d hi hv; exact hP _ _ _ _ (h P i a b c d (by omega) hv (fun a' b' c' d' _ hv' => ih (i + 1) a' b' c' d' (by omega) hv'))
  exact key n 0 a b c d (by omega) h0
/-! memory -/
theorem ob_us (I : pm_I) (a j : Nat) (v : Int32) : pm_up I a j v a j = v := by simp [pm_up, upd]
theorem ob_ur {I : pm_I} {a j b : Nat} {v : Int32} (h : b ≠ a) : pm_up I a j v b = I b := by simp [pm_up, h]
theorem ob_uq {I : pm_I} {a j b k : Nat} {v : Int32} (h : k ≠ j) : pm_up I a j v b k = I b k := by
  unfold pm_up
  by_cases e : b = a
  · subst e; rw [if_pos rfl]; exact pk_un h
  · rw [if_neg e]
theorem ob_uf (I : pm_I) (a j : Nat) (v : Int32) : pm_up I a j v a = upd (I a) j v := by simp [pm_up]
theorem ob_up (I : pm_I) (a j : Nat) (v : Int32) (b k : Nat) : pm_up I a j v b k = if b = a ∧ k = j then v else I b k := by
  by_cases e : b = a
  · subst e
    by_cases ek : k = j
    · subst ek; rw [ob_us, if_pos ⟨rfl, rfl⟩]
    · rw [ob_uq ek, if_neg (fun h => ek h.2)]
  · rw [ob_ur e, if_neg (fun h => e h.1)]
/-- nothing changed outside of S -/
def ob_fr (S : Nat → Prop) (I J : pm_I) : Prop := ∀ r, ¬ S r → J r = I r
theorem ob_fr.rf {S : Nat → Prop} {I : pm_I} : ob_fr S I I := fun _ _ => rfl
theorem ob_fr.tr {S : Nat → Prop} {I J L : pm_I} (h : ob_fr S I J) (h2 : ob_fr S J L) : ob_fr S I L := fun r hr => (h2 r hr).trans (h r hr)
theorem ob_fr.wd {S T : Nat → Prop} {I J : pm_I} (h : ob_fr S I J) (hs : ∀ r, S r → T r) : ob_fr T I J := fun r hr => h r (fun hs' => hr (hs r hs'))
theorem ob_fr.up {S : Nat → Prop} {I J : pm_I} {a j : Nat} {v : Int32} (h : ob_fr S I J) (ha : S a) : ob_fr S I (pm_up J a j v) := fun r hr => by
  have hne : r ≠ a := fun e => hr (by rw [e]; exact ha)
  rw [ob_ur hne]
  exact h r hr
/-! numbers -/
theorem ob_lit (n : Nat) : (OfNat.ofNat n : Int32) = nI n := rfl
theorem ob_cl {n : Nat} (h : n < 2 ^ 31) : (nI n).toNatClampNeg = n := nI_clamp h
theorem ob_and1 (x : Int32) : x &&& 1 = 0 ∨ x &&& 1 = 1 := by
  obtain ⟨j, hj, e⟩ := pk_andE x (m := 1) 1 (by decide)
  have : j = 0 ∨ j = 1 := by omega
  rcases this with rfl | rfl
  · exact Or.inl e
  · exact Or.inr e
theorem ob_and1n {x : Int32} (h : ¬ x &&& 1 = 0) : x &&& 1 = 1 := (ob_and1 x).resolve_left h
theorem ob_and1z {x : Int32} (h : ¬ x &&& 1 = 1) : x &&& 1 = 0 := (ob_and1 x).resolve_right h
theorem ob_10 : ¬ (1 : Int32) = 0 := by decide
/-- an int that is one of the first n -/
def ob_ix (n : Nat) (x : Int32) : Prop := ∃ a, a < n ∧ x = nI a
theorem ob_ix.in {n : Nat} {x : Int32} (h : ob_ix n x) (hn : n < 2 ^ 31) : vp_in x n := by
  obtain ⟨a, ha, rfl⟩ := h
  exact vp_in_nI ha hn
theorem ob_ix.wd {n m : Nat} {x : Int32} (h : ob_ix n x) (hn : n ≤ m) : ob_ix m x := by
  obtain ⟨a, ha, e⟩ := h
  exact ⟨a, by omega, e⟩
theorem ob_ix.cl {n : Nat} {x : Int32} (h : ob_ix n x) (hn : n < 2 ^ 31) : x.toNatClampNeg < n := by
  obtain ⟨a, ha, rfl⟩ := h
  rw [nI_clamp (by omega)]
  exact ha
theorem ob_ix8 {x y : Int32} (hx : ob_ix 8 x) (hy : ob_ix 8 y) : ob_ix 64 (x * 8 + y) := by
  obtain ⟨a, ha, rfl⟩ := hx
  obtain ⟨b, hb, rfl⟩ := hy
  refine ⟨a * 8 + b, by omega, ?_⟩
  rw [show (8 : Int32) = nI 8 from rfl, pk_mul, nI_add]
theorem ob_mc (x y : Int32) : 8 * x + y = x * 8 + y := by rw [Int32.mul_comm]
/-- at a branch: exactly one side -/
theorem ob_br {c : Prop} [Decidable c] {A B : Prop} (h : if c then A else B) : (c → A) ∧ (¬ c → B) := by
  by_cases hc : c
  · rw [if_pos hc] at h; exact ⟨fun _ => h, fun n => absurd hc n⟩
  · rw [if_neg hc] at h; exact ⟨fun y => absurd y hc, fun _ => h⟩
theorem ob_rb {c : Prop} [Decidable c] {A B : Prop} (h : if c then A else B) : (¬ c → B) ∧ (c → A) := ⟨(ob_br h).2, (ob_br h).1⟩
def ob_b (b : Bool) : Int32 := if b then 1 else 0
theorem ob_b0 {b : Bool} : ob_b b = 0 ↔ b = false := by cases b <;> simp [ob_b]
theorem ob_b1 {b : Bool} : ¬ ob_b b = 0 ↔ b = true := by cases b <;> simp [ob_b]
theorem ob_b01 (b : Bool) : ob_b b = 0 ∨ ob_b b = 1 := by cases b <;> simp [ob_b]
theorem ob_pk (a b : Nat) (h : a < 2 ^ 31) (hb : b < 2 ^ 31) : ¬ nI a = nI b ↔ a ≠ b := by rw [nI_eq h hb]
/-- a loop that counts -/
def ob_ct (p : Nat → Bool) : Nat → Nat
  | 0 => 0
  | n + 1 => ob_ct p n + if p n then 1 else 0
def ob_ex (p : Nat → Bool) : Nat → Bool
  | 0 => false
  | n + 1 => ob_ex p n || p n
theorem ob_ex_f {p : Nat → Bool} : ∀ {n : Nat}, ob_ex p n = false ↔ ∀ k, k < n → p k = false := by
  intro n
  induction n with
  | zero => exact ⟨fun _ k hk => absurd hk (by omega), fun _ => rfl⟩
  | succ n ih =>
    show (ob_ex p n || p n) = false ↔ _
    rw [Bool.or_eq_false_iff, ih]
    refine ⟨fun h k hk => ?_, fun h => ⟨fun k hk => h k (by omega), h n (by omega)⟩⟩
    by_cases e : k = n
    · subst e; exact h.2
    · exact h.1 k (by omega)
theorem ob_ex_t {p : Nat → Bool} {n k : Nat} (hk : k < n) (h : p k = true) : ob_ex p n = true := by
  cases e : ob_ex p n with
  | true => rfl
  | false => rw [ob_ex_f.mp e k hk] at h; cases h
theorem ob_ct_le (p : Nat → Bool) : ∀ n, ob_ct p n ≤ n
  | 0 => Nat.le_refl 0
  | n + 1 => by
    have := ob_ct_le p n
    show ob_ct p n + (if p n then 1 else 0) ≤ n + 1
    split <;> omega
/-- an iteration over the first n -/
def ob_it {A : Type} (f : A → Nat → A) : Nat → A → A
  | 0, a => a
  | n + 1, a => f (ob_it f n a) n
