/-! ===== THE PARSER: tokens ===== -/
def tk_sp (v : Int32) : Bool := decide (v = 32) || decide (v = 10)
def tk_lt (v : Int32) : Bool := decide (97 ≤ v ∧ v ≤ 122)
def tk_dg (v : Int32) : Bool := decide (48 ≤ v ∧ v ≤ 57)
def tk_sg (v : Int32) : Bool := decide (v = 40 ∨ v = 41 ∨ v = 42 ∨ v = 43 ∨ v = 45 ∨ v = 47 ∨ v = 59)
def tk_e (p : Int32 → Bool) (tx : Nat → Int32) : Nat → Nat → Nat
  | 0, k => k
  | f + 1, k => if p (tx k) = true then tk_e p tx f (k + 1) else k
def tk_v (tx : Nat → Int32) : Nat → Nat → Int32 → Int32
  | 0, _, a => a
  | f + 1, k, a => if tk_dg (tx k) = true then tk_v tx f (k + 1) (a * 10 + tx k - 48) else a
def tk_S (tx : Nat → Int32) (m k : Nat) : Nat := tk_e tk_sp tx (m - k) k
def tk_N (tx : Nat → Int32) (m s : Nat) : Nat := if m ≤ s then s else if tk_lt (tx s) = true then tk_e tk_lt tx (m - s) s else if tk_dg (tx s) = true then tk_e tk_dg tx (m - s) s else s + 1
def tk_K (tx : Nat → Int32) (m s : Nat) : Int32 := if m ≤ s then 0 else if tk_lt (tx s) = true then (if tk_N tx m s - s ≤ 8 then 1 else 3) else if tk_dg (tx s) = true then (if tk_N tx m s - s ≤ 4 then 2 else 3) else if tk_sg (tx s) = true then tx s else 3
def tk_V (tx : Nat → Int32) (m s : Nat) : Int32 := tk_v tx (m - s) s 0
theorem tk_e_t {p : Int32 → Bool} {tx : Nat → Int32} {m k : Nat} (hk : k < m) (h : p (tx k) = true) : tk_e p tx (m - k) k = tk_e p tx (m - (k + 1)) (k + 1) := by
  obtain ⟨f, hf⟩ : ∃ f, m - k = f + 1 := ⟨m - k - 1, by omega⟩
  rw [hf, show m - (k + 1) = f by omega]
  show (if p (tx k) = true then _ else _) = _
  rw [if_pos h]
theorem tk_e_f {p : Int32 → Bool} {tx : Nat → Int32} {m k : Nat} (h : m ≤ k ∨ p (tx k) = false) : tk_e p tx (m - k) k = k := by
  rcases Nat.lt_or_ge k m with hk | hk
  · obtain ⟨f, hf⟩ : ∃ f, m - k = f + 1 := ⟨m - k - 1, by omega⟩
    rw [hf]
    show (if p (tx k) = true then _ else _) = _
    rw [h.resolve_left (by omega)]
    rfl
  · rw [show m - k = 0 by omega]; rfl
theorem tk_e_r {p : Int32 → Bool} {tx : Nat → Int32} : ∀ f k, k ≤ tk_e p tx f k ∧ tk_e p tx f k ≤ k + f ∧ (tk_e p tx f k < k + f → p (tx (tk_e p tx f k)) = false) ∧ ∀ j, k ≤ j → j < tk_e p tx f k → p (tx j) = true
  | 0, k => ⟨Nat.le_refl k, Nat.le_refl k, fun h => absurd h (Nat.lt_irrefl k), fun j h1 h2 => absurd (show j < k from h2) (by omega)⟩
  | f + 1, k => by
    have e : tk_e p tx (f + 1) k = if p (tx k) = true then tk_e p tx f (k + 1) else k := rfl
    by_cases h : p (tx k) = true
    · rw [if_pos h] at e
      obtain ⟨i1, i2, i3, i4⟩ := tk_e_r (p := p) (tx := tx) f (k + 1)
      rw [e]
      refine ⟨by omega, by omega, fun hh => i3 (by omega), fun j h1 h2 => ?_⟩
      by_cases ej : j = k
      · rw [ej]; exact h
      · exact i4 j (by omega) h2
    · rw [if_neg h] at e
      rw [e]
      refine ⟨Nat.le_refl k, by omega, fun _ => ?_, fun j h1 h2 => absurd h2 (by omega)⟩
      cases hp : p (tx k) with
      | true => exact absurd hp h
      | false => rfl
theorem tk_v_t {tx : Nat → Int32} {m k : Nat} {a : Int32} (hk : k < m) (h : tk_dg (tx k) = true) : tk_v tx (m - k) k a = tk_v tx (m - (k + 1)) (k + 1) (a * 10 + tx k - 48) := by
  obtain ⟨f, hf⟩ : ∃ f, m - k = f + 1 := ⟨m - k - 1, by omega⟩
  rw [hf, show m - (k + 1) = f by omega]
  show (if tk_dg (tx k) = true then _ else _) = _
  rw [if_pos h]
theorem tk_v_f {tx : Nat → Int32} {m k : Nat} {a : Int32} (h : m ≤ k ∨ tk_dg (tx k) = false) : tk_v tx (m - k) k a = a := by
  rcases Nat.lt_or_ge k m with hk | hk
  · obtain ⟨f, hf⟩ : ∃ f, m - k = f + 1 := ⟨m - k - 1, by omega⟩
    rw [hf]
    show (if tk_dg (tx k) = true then _ else _) = _
    rw [h.resolve_left (by omega)]
    rfl
  · rw [show m - k = 0 by omega]; rfl
/-- where the next token lies -/
theorem tk_r {tx : Nat → Int32} {m k : Nat} (hk : k ≤ m) : k ≤ tk_S tx m k ∧ tk_S tx m k ≤ m ∧ tk_S tx m k ≤ tk_N tx m (tk_S tx m k) ∧ tk_N tx m (tk_S tx m k) ≤ m ∧ (¬ tk_K tx m (tk_S tx m k) = 0 → tk_S tx m k < tk_N tx m (tk_S tx m k)) := by
  obtain ⟨a1, a2, a3, a4⟩ := tk_e_r (p := tk_sp) (tx := tx) (m - k) k
  have h1 : k ≤ tk_S tx m k := a1
  have h2 : tk_S tx m k ≤ m := by unfold tk_S; omega
  generalize tk_S tx m k = s at *
  refine ⟨h1, h2, ?_⟩
  unfold tk_K
  unfold tk_N
  by_cases e : m ≤ s
  · rw [if_pos e, if_pos e]; exact ⟨Nat.le_refl s, h2, fun h => absurd rfl h⟩
  · rw [if_neg e, if_neg e]
    obtain ⟨b1, b2, b3, b4⟩ := tk_e_r (p := tk_lt) (tx := tx) (m - s) s
    obtain ⟨c1, c2, c3, c4⟩ := tk_e_r (p := tk_dg) (tx := tx) (m - s) s
    by_cases l : tk_lt (tx s) = true
    · rw [if_pos l]
      have := tk_e_t (m := m) (p := tk_lt) (by omega : s < m) l
      have := (tk_e_r (p := tk_lt) (tx := tx) (m - (s + 1)) (s + 1)).1
      exact ⟨b1, by omega, fun _ => by omega⟩
    · rw [if_neg l]
      by_cases g : tk_dg (tx s) = true
      · rw [if_pos g]
        have := tk_e_t (m := m) (p := tk_dg) (by omega : s < m) g
        have := (tk_e_r (p := tk_dg) (tx := tx) (m - (s + 1)) (s + 1)).1
        exact ⟨c1, by omega, fun _ => by omega⟩
      · rw [if_neg g]; exact ⟨by omega, by omega, fun _ => by omega⟩
/-! the class's reader in a row rr, its plan in row d -/
def cp_S (J : pm_I) (rr d m : Nat) (tx : Nat → Int32) (nx st : Nat) (kd nm : Int32) (sn : Nat) (D : aP) : Prop :=
  J rr 1 = nI m ∧ J rr 2 = nI d ∧ J rr 3 = nI nx ∧ J rr 4 = nI st ∧ J rr 5 = kd ∧ (kd = 2 → J rr 6 = nm) ∧ J rr 7 = nI sn ∧ J rr 8 = 0 ∧ J rr 9 = -1 ∧ (∀ k, k < m → J 2 k = tx k) ∧ cl_P J d D
/-- what the reader may write -/
def cp_f (rr d : Nat) (r : Nat) : Prop := r = rr ∨ (d ≤ r ∧ r < d + 8)
/-- where things lie: text of m bytes, rows apart -/
def cp_w (rr d m : Nat) : Prop := m ≤ 600 ∧ rr = 516 ∧ (d = 3 ∨ d = 11)
theorem ob_uid {I : pm_I} {a j : Nat} {v : Int32} (h : I a j = v) : pm_up I a j v = I := by
  funext r k
  rw [ob_up]
  by_cases e : r = a ∧ k = j
  · rw [if_pos e, e.1, e.2, h]
  · rw [if_neg e]
/-- a place of the reader alone was written -/
theorem cl_P.rr {J : pm_I} {rr d j : Nat} {v : Int32} {D : aP} (h : cl_P J d D) (hw : rr = 516 ∧ (d = 3 ∨ d = 11)) : cl_P (pm_up J rr j v) d D :=
  h.rw (fun r h1 h2 _ => ob_ur (by omega)) (by rw [ob_ur (by omega)])
theorem cp_scan {p : Int32 → Bool} {tx : Nat → Int32} {rr f m k0 : Nat} {J : pm_I} {B : (pm_I → Prop) → pm_I → Prop} (h0 : J rr f = nI k0) (hk : k0 ≤ m)
    (hstop : ∀ P L e, L = pm_up J rr f (nI e) → k0 ≤ e → e ≤ m → tk_e p tx (m - k0) k0 = e → (m ≤ e ∨ p (tx e) = false) → B P L)
    (hgo : ∀ P L e, L = pm_up J rr f (nI e) → k0 ≤ e → e < m → p (tx e) = true → P (pm_up J rr f (nI (e + 1))) → B P L) : pm_lp1 B J := by
  refine ob_lp1 (fun i L => L = pm_up J rr f (nI (k0 + i)) ∧ k0 + i ≤ m ∧ tk_e p tx (m - k0) k0 = tk_e p tx (m - (k0 + i)) (k0 + i)) (m - k0) ⟨(ob_uid h0).symm, hk, rfl⟩ ?_
  intro P i L hi hI hP
  obtain ⟨hL, hm, he⟩ := hI
  by_cases hc : k0 + i < m ∧ p (tx (k0 + i)) = true
  · refine hgo P L (k0 + i) hL (by omega) hc.1 hc.2 (hP _ (by omega) ⟨rfl, by omega, he.trans (tk_e_t hc.1 hc.2)⟩)
  · have hd : m ≤ k0 + i ∨ p (tx (k0 + i)) = false := by
      rcases Nat.lt_or_ge (k0 + i) m with h | h
      · refine Or.inr ?_
        cases hp : p (tx (k0 + i)) with
        | true => exact absurd ⟨h, hp⟩ hc
        | false => rfl
      · exact Or.inl h
    exact hstop P L (k0 + i) hL (by omega) hm (he.trans (tk_e_f hd)) hd
theorem tk_lt_i (v : Int32) : (tk_lt v = true ↔ (¬ v < 97 ∧ ¬ 122 < v)) := by
  unfold tk_lt
  rw [decide_eq_true_eq, Int32.not_lt, Int32.not_lt]
theorem tk_dg_i (v : Int32) : (tk_dg v = true ↔ (¬ v < 48 ∧ ¬ 57 < v)) := by
  unfold tk_dg
  rw [decide_eq_true_eq, Int32.not_lt, Int32.not_lt]
theorem tk_f {p : Bool} (h : p = false) : ¬ p = true := by rw [h]; decide
theorem cp_word {G : pm_G} {rr d m s sn : Nat} {tx : Nat → Int32} {J : pm_I} {K : pm_I → Prop} (hw : cp_w rr d m) (e1 : J rr 1 = nI m) (e3 : J rr 3 = nI s) (e4 : J rr 4 = nI s) (ht : ∀ k, k < m → J 2 k = tx k) (hs : s < m) (hl : tk_lt (tx s) = true) (hk : K (pm_up (pm_up J rr 3 (nI (tk_N tx m s))) rr 5 (tk_K tx m s))) : wX2_takeWord G rr J K := by
  obtain ⟨hm, hrr, hd⟩ := hw
  have hN : tk_N tx m s = tk_e tk_lt tx (m - s) s := by unfold tk_N; rw [if_neg (by omega), if_pos hl]
  have hK : tk_K tx m s = if tk_N tx m s - s ≤ 8 then 1 else 3 := by unfold tk_K; rw [if_neg (by omega), if_pos hl]
  unfold wX2_takeWord
  have fin : ∀ (L : pm_I) (e : Nat), L = pm_up J rr 3 (nI e) → s ≤ e → e ≤ m → tk_e tk_lt tx (m - s) s = e → ((8 < (nI e - nI s) → (∀ I12 : pm_I, I12 = pm_up L rr 5 (3) → K I12)) ∧ (¬ 8 < (nI e - nI s) → (∀ I13 : pm_I, I13 = pm_up L rr 5 (1) → K I13))) := by
    intro L e hL h1 h2 he
    rw [hN, he] at hK
    rw [hK, hN, he] at hk
    rw [pk_sub h1]
    refine ⟨fun z I1 q1 => ?_, fun z I1 q1 => ?_⟩
    · have := (nI_ltI (a := 8) (b := e - s) (by omega) (by omega)).mp z
      rw [if_neg (by omega)] at hk
      rw [q1, hL]; exact hk
    · have : ¬ 8 < e - s := fun hh => z (nI_lt (a := 8) hh (by omega))
      rw [if_pos (by omega)] at hk
      rw [q1, hL]; exact hk
  refine cp_scan (p := tk_lt) (tx := tx) (m := m) e3 (by omega) (fun P L e hL h1 h2 he hst => ?_) (fun P L e hL h1 h2 hp hP => ?_)
  · have a1 : L rr 1 = nI m := by rw [hL, ob_uq (by decide)]; exact e1
    have a3 : L rr 3 = nI e := by rw [hL, ob_us]
    have a4 : L rr 4 = nI s := by rw [hL, ob_uq (by decide)]; exact e4
    rw [a1, a3, a4]
    refine ⟨fun _ => fin L e hL h1 h2 he, fun z => ?_⟩
    have hlt : e < m := by
      rcases Nat.lt_or_ge e m with h | h
      · exact h
      · exact absurd (nI_le h (by omega)) z
    have nl := tk_f (hst.resolve_left (by omega))
    rw [nI_clamp (by omega), show L 2 e = tx e by rw [hL, ob_ur (by omega)]; exact ht e hlt]
    have ne : tx e < 97 ∨ 122 < tx e := by
      by_cases h : tx e < 97
      · exact Or.inl h
      · refine Or.inr (Classical.byContradiction (fun h' => nl ((tk_lt_i _).mpr ⟨h, h'⟩)))
    refine ⟨vp_in_nI (by omega) (by decide), fun _ => fin L e hL h1 h2 he, fun y => ⟨vp_in_nI (by omega) (by decide), fun _ => fin L e hL h1 h2 he, fun y2 => absurd ne (fun h => h.elim y y2)⟩⟩
  · have a1 : L rr 1 = nI m := by rw [hL, ob_uq (by decide)]; exact e1
    have a3 : L rr 3 = nI e := by rw [hL, ob_us]
    obtain ⟨n1, n2⟩ := (tk_lt_i _).mp hp
    rw [a1, a3, nI_clamp (by omega), show L 2 e = tx e by rw [hL, ob_ur (by omega)]; exact ht e h2]
    refine ⟨fun z => absurd z (nI_ge h2 (by omega)), fun _ => ⟨vp_in_nI (by omega) (by decide), fun z => absurd z n1, fun _ => ⟨vp_in_nI (by omega) (by decide), fun z => absurd z n2, fun _ I1 q1 => ?_⟩⟩⟩
    rw [nI_1, hL, ob_uu] at q1
    rw [q1]; exact hP
