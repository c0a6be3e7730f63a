/-! ===== THE PURE MEMORY: row a, place j holds an int; what a row is (an object of a class, an array), where it lies in the heap ===== -/
abbrev pm_I : Type := Nat → Nat → Int32
def pm_up (I : pm_I) (a j : Nat) (v : Int32) : pm_I := fun b => if b = a then upd (I a) j v else I b
/-- what the rows stand on: the classes' numbers and slots; the arrays' classes; the addresses; how many rows; their kinds; the base; what else holds of a state -/
abbrev pm_G : Type := va_G × (Nat → ClassId) × (Nat → Nat) × Nat × (Nat → Nat ⊕ (Nat × Nat)) × Nat × (State → Prop)
abbrev pm_D (G : pm_G) : va_G := G.1
abbrev pm_ca (G : pm_G) : Nat → ClassId := G.2.1
abbrev pm_ad (G : pm_G) : Nat → Nat := G.2.2.1
abbrev pm_n (G : pm_G) : Nat := G.2.2.2.1
abbrev pm_kd (G : pm_G) : Nat → Nat ⊕ (Nat × Nat) := G.2.2.2.2.1
abbrev pm_b (G : pm_G) : Nat := G.2.2.2.2.2.1
abbrev pm_SS (G : pm_G) : State → Prop := G.2.2.2.2.2.2
def pm_A (G : pm_G) : Nat → Prop := fun q => pm_b G ≤ q
def pm_tr (G : pm_G) (v : Value) : Value := match v with
  | .ref r => .ref (pm_ad G r)
  | .int x => .int x
  | .long x => .long x
  | v => v
def pm_ty (G : pm_G) : List (ClassId × FieldType) := [(pm_ca G 0, .int), (pm_ca G 1, .byte), (pm_ca G 2, .boolean), (pm_ca G 3, .long), (pm_ca G 4, .object RX4), (pm_ca G 5, .object RX5)]
/-- the fields of an object of class c in row r: a reference that never changes goes to a row at a fixed distance; one that changes is held as a number -/
def pm_fs (ad : Nat → Nat) (c r : Nat) (f : Nat → Int32) : List Value := match c with
  | 0 => [.ref (ad (r + 1)), .int (f 1), .int (f 2)]
  | 1 => [.int (f 0), .ref (ad (r + 1)), .ref (ad (r + 2)), .ref (ad (r + 3)), .ref (ad (r + 4)), .ref (ad (r + 5)), .int (f 6), .int (f 7), .int (f 8)]
  | 2 => [.ref (ad 2), .int (f 1), .ref (ad (f 2).toNatClampNeg), .int (f 3), .int (f 4), .int (f 5), .int (f 6), .int (f 7), .int (f 8), .int (f 9)]
  | 3 => [.ref (ad (r + 1)), .int (f 1), .ref (ad (r + 2)), .int (f 3)]
  | 4 => [.int (f 0), .int (f 1), .int (f 2), .int (f 3), .int (f 4), .int (f 5), .int (f 6), .int (f 7), .int (f 8), .int (f 9), .int (f 10), .int (f 11), .int (f 12), .ref (ad (r + 1)), .ref (ad (r + 2)), .ref (ad (r + 3)), .ref (ad (r + 4))]
  | 5 => [.int (f 0), .ref (ad (r + 1)), .ref (ad (r + 2)), .ref (ad (r + 3))]
  | 6 => [.ref (ad (r + 1)), .int (f 1), .int (f 2), .ref (ad (f 3).toNatClampNeg), .ref (ad (f 4).toNatClampNeg), .ref (ad (r + 18)), .ref (ad (r + 52)), .ref (ad (r + 86)), .ref (ad (r + 428)), .ref (ad (r + 497))]
  | 7 => [.int (f 0), .ref (ad (r + 1)), .ref (ad (r + 2)), .ref (ad (r + 3)), .ref (ad (r + 4)), .ref (ad (r + 5)), .ref (ad (r + 6)), .ref (ad (r + 7)), .ref (ad (r + 8)), .ref (ad (r + 9)), .int (f 10), .int (f 11), .int (f 12), .int (f 13), .int (f 14), .int (f 15), .int (f 16), .int (f 17), .int (f 18), .int (f 19), .int (f 20), .int (f 21), .int (f 22), .ref (ad (r + 10)), .ref (ad (r + 11)), .ref (ad (r + 12)), .int (f 26), .ref (ad (r + 13)), .ref (ad (r + 14)), .ref (ad (r + 15))]
  | _ => []
/-- an object or a row of references while it is made: every reference is held as a number, 0 for null -/
def pm_rv (ad : Nat → Nat) (x : Int32) : Value := if x = 0 then .null else .ref (ad x.toNatClampNeg)
def pm_ro (ad : Nat → Nat) (x : Int32) : Option Nat := if x = 0 then none else some (ad x.toNatClampNeg)
def pm_fd (ad : Nat → Nat) (c : Nat) (f : Nat → Int32) : List Value := match c with
  | 0 => [pm_rv ad (f 0), .int (f 1), .int (f 2)]
  | 1 => [.int (f 0), pm_rv ad (f 1), pm_rv ad (f 2), pm_rv ad (f 3), pm_rv ad (f 4), pm_rv ad (f 5), .int (f 6), .int (f 7), .int (f 8)]
  | 2 => [pm_rv ad (f 0), .int (f 1), pm_rv ad (f 2), .int (f 3), .int (f 4), .int (f 5), .int (f 6), .int (f 7), .int (f 8), .int (f 9)]
  | 3 => [pm_rv ad (f 0), .int (f 1), pm_rv ad (f 2), .int (f 3)]
  | 4 => [.int (f 0), .int (f 1), .int (f 2), .int (f 3), .int (f 4), .int (f 5), .int (f 6), .int (f 7), .int (f 8), .int (f 9), .int (f 10), .int (f 11), .int (f 12), pm_rv ad (f 13), pm_rv ad (f 14), pm_rv ad (f 15), pm_rv ad (f 16)]
  | 5 => [.int (f 0), pm_rv ad (f 1), pm_rv ad (f 2), pm_rv ad (f 3)]
  | 6 => [pm_rv ad (f 0), .int (f 1), .int (f 2), pm_rv ad (f 3), pm_rv ad (f 4), pm_rv ad (f 5), pm_rv ad (f 6), pm_rv ad (f 7), pm_rv ad (f 8), pm_rv ad (f 9)]
  | 7 => [.int (f 0), pm_rv ad (f 1), pm_rv ad (f 2), pm_rv ad (f 3), pm_rv ad (f 4), pm_rv ad (f 5), pm_rv ad (f 6), pm_rv ad (f 7), pm_rv ad (f 8), pm_rv ad (f 9), .int (f 10), .int (f 11), .int (f 12), .int (f 13), .int (f 14), .int (f 15), .int (f 16), .int (f 17), .int (f 18), .int (f 19), .int (f 20), .int (f 21), .int (f 22), pm_rv ad (f 23), pm_rv ad (f 24), pm_rv ad (f 25), .int (f 26), pm_rv ad (f 27), pm_rv ad (f 28), pm_rv ad (f 29)]
  | _ => []
/-- the cell of row r -/
def pm_c (G : pm_G) (k : Nat ⊕ (Nat × Nat)) (r : Nat) (f : Nat → Int32) : va_E := match k with
  | .inl c => .inr (c, pm_fs (pm_ad G) c r f)
  | .inr (0, n) => .inl (pm_ca G 0, n, .inl f)
  | .inr (1, n) => .inl (pm_ca G 1, n, .inl f)
  | .inr (2, n) => .inl (pm_ca G 2, n, .inl f)
  | .inr (3, n) => .inl (pm_ca G 3, n, .inr (.inl (fun j => (f j).toInt64)))
  | .inr (4, n) => .inl (pm_ca G 4, n, .inr (.inr (.inr (.inr (fun j => some (pm_ad G (r + 1 + 5 * j)))))))
  | .inr (6, n) => .inl (pm_ca G 4, n, .inr (.inr (.inr (.inr (fun j => pm_ro (pm_ad G) (f j))))))
  | .inr (7, n) => .inl (pm_ca G 5, n, .inr (.inr (.inr (.inr (fun j => pm_ro (pm_ad G) (f j))))))
  | .inr (8, c) => .inr (c, pm_fd (pm_ad G) c f)
  | .inr (_, n) => .inl (pm_ca G 5, n, .inr (.inr (.inr (.inr (fun j => some (pm_ad G (r + 1 + 34 * j)))))))
def pm_w (G : pm_G) (I : pm_I) : va_W := (List.range (pm_n G)).map (fun k => (pm_ad G (k + 1), pm_c G (pm_kd G (k + 1)) (k + 1) (I (k + 1))))
/-- row r is there, and of that kind -/
def pm_k (G : pm_G) (r : Nat) (k : Nat ⊕ (Nat × Nat)) : Prop := 1 ≤ r ∧ r ≤ pm_n G ∧ pm_kd G r = k
theorem pm_w_at {G : pm_G} {I : pm_I} {r : Nat} {k : Nat ⊕ (Nat × Nat)} (h : pm_k G r k) : (pm_w G I)[r - 1]? = some (pm_ad G r, pm_c G k r (I r)) := by
  obtain ⟨h1, h2, h3⟩ := h
  obtain ⟨j, rfl⟩ : ∃ j, r = j + 1 := ⟨r - 1, by omega⟩
  have hj : j < pm_n G := by omega
  rw [Nat.add_sub_cancel, pm_w, List.getElem?_map, List.getElem?_range hj, ← h3]
  rfl
theorem pm_w_set {G : pm_G} {I I' : pm_I} {r : Nat} {k : Nat ⊕ (Nat × Nat)} (h : pm_k G r k) {e : va_E} (he : e = pm_c G k r (I' r)) (hI : ∀ b, b ≠ r → I' b = I b) : (pm_w G I).set (r - 1) (pm_ad G r, e) = pm_w G I' := by
  obtain ⟨h1, h2, h3⟩ := h
  obtain ⟨j, rfl⟩ : ∃ j, r = j + 1 := ⟨r - 1, by omega⟩
  rw [Nat.add_sub_cancel]
  apply List.ext_getElem?
  intro i
  rw [List.getElem?_set, pm_w, pm_w, List.getElem?_map, List.length_map, List.length_range]
  by_cases hi : j = i
  · subst hi
    have hj : j < pm_n G := by omega
    rw [if_pos rfl, if_pos hj, List.getElem?_map, List.getElem?_range hj, he, ← h3]
    rfl
  · rw [if_neg hi, List.getElem?_map]
    by_cases hl : i < pm_n G
    · rw [List.getElem?_range hl]
      show some (pm_ad G (i + 1), pm_c G (pm_kd G (i + 1)) (i + 1) (I (i + 1))) = some (pm_ad G (i + 1), pm_c G (pm_kd G (i + 1)) (i + 1) (I' (i + 1)))
      rw [hI (i + 1) (by omega)]
    · rw [List.getElem?_eq_none (by rw [List.length_range]; omega)]
      rfl
/-- the shape: what stands behind a row of a kind -/
def pm_sh (G : pm_G) (r : Nat) (k : Nat ⊕ (Nat × Nat)) : Prop := match k with
  | .inl 0 => pm_k G (r + 1) (.inr (5, 10))
  | .inl 1 => pm_k G (r + 1) (.inr (0, 8)) ∧ pm_k G (r + 2) (.inr (0, 8)) ∧ pm_k G (r + 3) (.inr (0, 64)) ∧ pm_k G (r + 4) (.inr (0, 8)) ∧ pm_k G (r + 5) (.inl 3)
  | .inl 2 => pm_k G 2 (.inr (1, 600))
  | .inl 3 => pm_k G (r + 1) (.inr (0, 600)) ∧ pm_k G (r + 2) (.inr (0, 16))
  | .inl 4 => pm_k G (r + 1) (.inr (0, 24)) ∧ pm_k G (r + 2) (.inr (0, 24)) ∧ pm_k G (r + 3) (.inr (0, 24)) ∧ pm_k G (r + 4) (.inr (0, 24))
  | .inl 5 => pm_k G (r + 1) (.inr (0, 8)) ∧ pm_k G (r + 2) (.inr (0, 8)) ∧ pm_k G (r + 3) (.inr (4, 6))
  | .inl 6 => pm_k G (r + 1) (.inr (1, 600)) ∧ pm_k G (r + 18) (.inl 5) ∧ pm_k G (r + 52) (.inl 5) ∧ pm_k G (r + 86) (.inl 0) ∧ pm_k G (r + 428) (.inr (5, 2)) ∧ pm_k G (r + 497) (.inr (2, 2))
  | .inl 7 => pm_k G (r + 1) (.inr (0, 821)) ∧ pm_k G (r + 2) (.inr (0, 8)) ∧ pm_k G (r + 3) (.inr (0, 16)) ∧ pm_k G (r + 4) (.inr (0, 16)) ∧ pm_k G (r + 5) (.inr (0, 128)) ∧ pm_k G (r + 6) (.inr (0, 16)) ∧ pm_k G (r + 7) (.inr (0, 2)) ∧ pm_k G (r + 8) (.inr (0, 1240)) ∧ pm_k G (r + 9) (.inr (1, 600)) ∧ pm_k G (r + 10) (.inr (0, 40)) ∧ pm_k G (r + 11) (.inr (0, 6)) ∧ pm_k G (r + 12) (.inr (0, 821)) ∧ pm_k G (r + 13) (.inr (0, 8210)) ∧ pm_k G (r + 14) (.inr (0, 1642)) ∧ pm_k G (r + 15) (.inr (2, 2))
  | .inr (4, n) => ∀ j, j < n → pm_k G (r + 1 + 5 * j) (.inl 4)
  | .inr (5, n) => ∀ j, j < n → pm_k G (r + 1 + 34 * j) (.inl 5)
  | _ => True
def pm_ok (G : pm_G) : Prop := (∀ i j, 1 ≤ i → i ≤ pm_n G → 1 ≤ j → j ≤ pm_n G → pm_ad G i = pm_ad G j → i = j) ∧ (∀ i, 1 ≤ i → i ≤ pm_n G → pm_b G ≤ pm_ad G i) ∧ (∀ (s U : State) (locs : List Loc), pm_SS G s → s.WarmedH U.vm → va_S (pm_A G) s.heap U.heap locs → pm_SS G U) ∧ ∀ r k, pm_k G r k → pm_sh G r k
theorem pm_va_D {G : pm_G} (hG : pm_ok G) (I : pm_I) : va_D (pm_A G) (pm_w G I) := by
  have key : ∀ (i : Nat) (p : Nat × va_E), (pm_w G I)[i]? = some p → i < pm_n G ∧ p.1 = pm_ad G (i + 1) := by
    intro i p h
    rw [pm_w, List.getElem?_map] at h
    by_cases hl : i < pm_n G
    · rw [List.getElem?_range hl] at h
      cases h
      exact ⟨hl, rfl⟩
    · rw [List.getElem?_eq_none (by rw [List.length_range]; omega)] at h
      cases h
  refine ⟨fun i j p q hp hq e => ?_, fun i p hp => ?_⟩
  · obtain ⟨h1, h2⟩ := key i p hp
    obtain ⟨h3, h4⟩ := key j q hq
    have h5 := hG.1 (i + 1) (j + 1) (by omega) (by omega) (by omega) (by omega) (by rw [← h2, ← h4]; exact e)
    omega
  · obtain ⟨h1, h2⟩ := key i p hp
    show pm_b G ≤ p.1
    rw [h2]
    exact hG.2.1 _ (by omega) (by omega)
/-! the tables' words: what holds at a start holds behind every warming -/
def pm_nest (w : Cond) : Bool := match w with
  | .fieldLinkNest .. => true
  | .methodLinkNest .. => true
  | _ => false
def pm_tw (w : Cond) : Bool := goodWord w || pm_nest w
def pm_TT (U : State) : Prop := ∀ w ∈ lw_tbl, pm_tw w = true → w.before #[] U = true
theorem pm_move {w : Cond} {s U : State} {A A' : Array Value} (ht : pm_tw w = true) (hW : s.WarmedH U.vm) (h : w.before A s = true) : w.before A' U = true := by
  by_cases hg : goodWord w = true
  · exact word_at hW (good_of_word hg) h
  · have hn : pm_nest w = true := by
      unfold pm_tw at ht
      cases hgw : goodWord w with
      | true => exact absurd hgw hg
      | false => rw [hgw] at ht; exact ht
    cases w with
    | fieldLinkNest a i b n d g => exact va_Nw.use rfl (va_Nw.warmF hW (va_Nw.of rfl h))
    | methodLinkNest a i x g => exact va_Nw.use rfl (va_Nw.warmM hW (va_Nw.of rfl h))
    | _ => exact absurd hn (by simp [pm_nest])
theorem pm_TT.use {U : State} {w : Cond} {A : Array Value} (h : pm_TT U) (hw : w ∈ lw_tbl) (ht : pm_tw w = true) : w.before A U = true := pm_move ht (State.WarmedH.refl U) (h w hw ht)
theorem pm_TT.warm {s U : State} (h : pm_TT s) (hW : s.WarmedH U.vm) : pm_TT U := fun w hw ht => pm_move ht hW (h w hw ht)
def pm_Tb (G : pm_G) (U : State) : Prop := pm_TT U ∧ va_K (pm_D G) vwCl (pm_ty G) U ∧ pm_SS G U ∧ pm_b G ≤ U.heap.size
theorem pm_Tb.next {G : pm_G} {s U : State} {locs : List Loc} (hG : pm_ok G) (h : pm_Tb G s) (hW : s.WarmedH U.vm) (hS : va_S (pm_A G) s.heap U.heap locs) : pm_Tb G U :=
  ⟨h.1.warm hW, va_K.moved hW.alike h.2.1, hG.2.2.1 s U locs h.2.2.1 hW hS, Nat.le_trans h.2.2.2 hS.1⟩
/-! contracts of methods that return: from the rows I, with the arguments As, some answer and rows with K -/
def pm_P (G : pm_G) (As : List Value) (I : pm_I) : Array Value → State → Prop := fun v U => v = (As.map (pm_tr G)).toArray ∧ pm_Tb G U ∧ va_P (pm_D G) vwCl (pm_w G I) U.heap
def pm_Q (G : pm_G) (K : Option Value → pm_I → Prop) : Array Value → State → Outcome → State → Prop := fun _ st o t => (∃ (r : Option Value) (I' : pm_I), K r I' ∧ o = .returned (r.map (pm_tr G)) ∧ va_P (pm_D G) vwCl (pm_w G I') t.heap) ∧ va_F (pm_A G) st t
def pm_Ct (G : pm_G) (l : Launch) (y : MethodName) (bytes : ByteArray) (maxL : Nat) (ret : Option FieldType) (rm : Room) (As : List Value) (I : pm_I) (K : Option Value → pm_I → Prop) : Prop := Met l y [Cond.code y bytes maxL ret] rm (pm_P G As I) (pm_Q G K) 0 0 (pm_A G)
theorem pm_P_blind {G : pm_G} {As : List Value} {I : pm_I} (hG : pm_ok G) : FrameBlind (pm_P G As I) := fun a U g mk h => ⟨h.1, pm_Tb.next (s := U) (U := U.calling g mk a) (locs := []) hG h.2.1 (State.WarmedH.refl U) va_S.rf, h.2.2⟩
/-! a frame within a method -/
def pm_L (G : pm_G) (la : Array Slot) (nL : Nat) (ls : List (Option Value)) : Prop := ∃ l : List (Nat × Value), lv_has la nL l ∧ ∀ (i : Nat) (v : Value), ls[i]? = some (some v) → v.category = 1 ∧ (i, pm_tr G v) ∈ l
theorem pm_L.at {G : pm_G} {la : Array Slot} {nL : Nat} {ls : List (Option Value)} (h : pm_L G la nL ls) {i : Nat} {v : Value} (hv : ls[i]? = some (some v)) : la[i]? = some (.val (pm_tr G v)) := by
  obtain ⟨l, h1, h2⟩ := h
  exact h1.2.2 _ (h2 i v hv).2
theorem pm_cat (G : pm_G) (v : Value) : (pm_tr G v).category = v.category := by cases v <;> rfl
theorem pm_L.set {G : pm_G} {la' : Array Slot} {nL : Nat} {ls : List (Option Value)} {l : List (Nat × Value)} {i : Nat} {v : Value} (hc : v.category = 1) (h2 : ∀ (i : Nat) (v : Value), ls[i]? = some (some v) → v.category = 1 ∧ (i, pm_tr G v) ∈ l)
    (h : lv_has la' nL ((i, pm_tr G v) :: l.filter (fun q => !(q.1 == i) && !(q.1 + 1 == i && q.2.category == 2)))) : pm_L G la' nL (ls.set i (some v)) := by
  refine ⟨_, h, fun j w hw => ?_⟩
  rw [List.getElem?_set] at hw
  by_cases hj : i = j
  · subst hj
    rw [if_pos rfl] at hw
    by_cases hl : i < ls.length
    · rw [if_pos hl] at hw
      cases hw
      exact ⟨hc, List.mem_cons_self⟩
    · rw [if_neg hl] at hw
      cases hw
  · rw [if_neg hj] at hw
    obtain ⟨h3, h4⟩ := h2 j w hw
    refine ⟨h3, List.mem_cons_of_mem _ (List.mem_filter.mpr ⟨h4, ?_⟩)⟩
    have hji : (j == i) = false := by simp; exact fun e => hj e.symm
    show (!(j == i) && !(j + 1 == i && (pm_tr G w).category == 2)) = true
    rw [hji, pm_cat, h3]
    simp
abbrev pm_X : Type := Program × Launch × Env × Room × State × MethodId × Array Value × List Frame × Method × Code × (State → Prop)
def pm_R (G : pm_G) (X : pm_X) (nL k n pc : Nat) (ls : List (Option Value)) (st : List Value) (I : pm_I) : Prop := match X with
  | (p, l, e, R, s, m, args, below, meth, c, Q) => ∀ (H : Heap) (locs : List Loc) (la : Array Slot), va_P (pm_D G) vwCl (pm_w G I) H → va_S (pm_A G) s.heap H locs → pm_L G la nL ls → W p l e R s m args below meth c H locs k n Q (F0 m pc la (st.map (pm_tr G)))
def pm_C (G : pm_G) (X : pm_X) (cc : ByteArray) (nL : Nat) (own : String) (ret : Option FieldType) (rm : Room) : Prop := match X with
  | (p, _, _, R, s, m, _, _, meth, c, _) => p.tables.exec = Jvm.exec ∧ c.code = cc ∧ meth.sig.returnType = ret ∧ c.maxLocals = nL ∧ s.vm.findClass own = some m.cls ∧ meth.locks = false ∧ pm_Tb G s ∧ R = rm ∧ pm_ok G
/-- the end that a contract asks for -/
def pm_E (G : pm_G) (X : pm_X) (K : Option Value → pm_I → Prop) : Prop := match X with
  | (_, _, _, _, s, _, args, below, _, _, Q) => Q = MQ below (pm_Q G K) args s 0 0 (pm_A G)
def pm_l (X : pm_X) : Launch := X.2.1
theorem pm_args (G : pm_G) : ∀ (As : List Value) (k i : Nat) (v : Value), (∀ v ∈ As, v.category = 1) → As[i]? = some v → (k + i, pm_tr G v) ∈ lv_args k (As.map (pm_tr G)) := by
  intro As
  induction As with
  | nil => intro k i v _ h; simp at h
  | cons a as ih =>
    intro k i v hc h
    have ha : (pm_tr G a).category = 1 := by rw [pm_cat]; exact hc a List.mem_cons_self
    rw [List.map_cons, lv_args, if_neg (by rw [ha]; decide)]
    cases i with
    | zero =>
      simp at h
      subst h
      exact List.mem_cons_self
    | succ i =>
      have h' : as[i]? = some v := by simpa using h
      have := ih (k + 1) i v (fun v hv => hc v (List.mem_cons_of_mem _ hv)) h'
      rw [show k + (i + 1) = k + 1 + i by omega]
      exact List.mem_cons_of_mem _ this
theorem pm_sl : ∀ (vs : List Value), (∀ v ∈ vs, v.category = 1) → (lg_sl vs).length = vs.length := by
  intro vs
  induction vs with
  | nil => intro _; rfl
  | cons a as ih =>
    intro hc
    have ha : a.category = 1 := hc a List.mem_cons_self
    have e : lg_sl (a :: as) = .val a :: lg_sl as := by
      show List.flatMap _ (a :: as) = _
      rw [List.flatMap_cons, if_neg (by rw [ha]; decide)]
      rfl
    rw [e, List.length_cons, List.length_cons, ih (fun v hv => hc v (List.mem_cons_of_mem _ hv))]
theorem pm_ofW {l : Launch} {y : MethodName} {ws ws' : List Cond} {rm : Room} {Pc : Array Value → State → Prop} {Qc : Array Value → State → Outcome → State → Prop} {mc ms : Nat} {free : Addr → Prop} {cc : ByteArray} {maxL : Nat} {ret : Option FieldType}
    (hy : plainFor y = true) (hw : ws = Cond.code y cc maxL ret :: ws')
    (body : ∀ p e s m args below meth c s₁, BodyLoose p l y (headSpec ws rm) cc maxL ret e s m args below meth c s₁ → c.maxLocals = maxL → Pc args s →
      W p l e (headSpec ws rm).room s m args below meth c s.heap [] 0 0 (MQ below Qc args s mc ms free) (entryFrame m args maxL)) : Met l y ws rm Pc Qc mc ms free := by
  refine MetFree.of_bodySF (code := cc) (maxLocals := maxL) (ret := ret) hy ?_ ?_
  · intro args s m h hn
    obtain ⟨meth, c, h1, h2, h3, h4, h5, h6, -, -⟩ := Cond.code_spec hn (atoms_spec (ws := ws) h _ (by rw [hw]; exact List.mem_cons_self))
    exact ⟨meth, c, h1, h2, h3, h4, h5, h6⟩
  · intro p e s m args below meth c s₁ B hml hP _
    have hh0 : s₁.heap = s.heap := by rw [B.state]; rfl
    obtain ⟨t, a1, o, b1, b2, b3⟩ := body p e s m args below meth c s₁ B hml hP s₁ hh0 (Stand.of_body B)
    exact ⟨t, o, a1, b1, b2, ⟨b3.1, b3.2⟩⟩
/-- a contract out of the walk of the body -/
theorem pm_enter {G : pm_G} {l : Launch} {y : MethodName} {bytes : ByteArray} {maxL fr lo : Nat} {ret : Option FieldType} {As : List Value} {I : pm_I} {K : Option Value → pm_I → Prop} {ls : List (Option Value)} (hy : plainFor y = true) (hG : pm_ok G) (hA : As.all (fun v => v.category == 1) = true) (hn : As.length ≤ maxL)
    (hls : As.map some ++ List.replicate (maxL - As.length) none = ls)
    (body : ∀ X : pm_X, pm_l X = l → pm_C G X bytes maxL y.cls ret { frames := fr, cells := 0, slots := 0, locals := lo } → pm_E G X K → pm_R G X maxL 0 0 0 ls [] I) : pm_Ct G l y bytes maxL ret { frames := fr, cells := 0, slots := 0, locals := lo } As I K := by
  have hA' : ∀ v ∈ As, v.category = 1 := fun v hv => by simpa using List.all_eq_true.mp hA v hv
  refine pm_ofW (cc := bytes) (maxL := maxL) (ret := ret) hy rfl ?_
  intro p e s m args below meth c s₁ B hml hv
  obtain ⟨rfl, hT, hP⟩ := hv
  have hown : s.vm.findClass y.cls = some m.cls := findClass_of_methodNamed B.named
  have hc2 : ∀ v ∈ As.map (pm_tr G), v.category = 1 := fun v hv => by
    obtain ⟨a, ha, rfl⟩ := List.mem_map.mp hv
    rw [pm_cat]; exact hA' a ha
  have hsl := pm_sl (As.map (pm_tr G)) hc2
  rw [List.length_map] at hsl
  have hl := lv_entry (As.map (pm_tr G)) (n := maxL) (by rw [hsl]; exact hn)
  rw [lg_entry_eq]
  refine body (p, l, e, _, s, m, _, below, meth, c, _) rfl ⟨B.exec, B.bytes, B.returns, hml, hown, B.notSynchronized, hT, rfl, hG⟩ rfl s.heap [] _ hP va_S.rf ⟨_, hl, fun i v h => ?_⟩
  subst hls
  have hi : i < As.length := by
    rcases Nat.lt_or_ge i As.length with q | q
    · exact q
    · rw [List.getElem?_append_right (by rw [List.length_map]; exact q), List.length_map] at h
      have := List.mem_of_getElem? h
      have := List.eq_of_mem_replicate this
      cases this
  rw [List.getElem?_append_left (by rw [List.length_map]; exact hi), List.getElem?_map] at h
  cases ha : As[i]? with
  | none => rw [ha] at h; cases h
  | some w =>
    rw [ha] at h
    cases h
    refine ⟨hA' v (List.mem_of_getElem? ha), ?_⟩
    have := pm_args G As 0 i v hA' ha
    rwa [Nat.zero_add] at this
/-! loops: the least that its body is closed under -/
def pm_lp1 {A1 : Type} (B : (A1 → Prop) → A1 → Prop) (a1 : A1) : Prop := ∀ P : A1 → Prop, (∀ a1, B P a1 → P a1) → P a1
def pm_lp2 {A1 A2 : Type} (B : (A1 → A2 → Prop) → A1 → A2 → Prop) (a1 : A1) (a2 : A2) : Prop := ∀ P : A1 → A2 → Prop, (∀ a1 a2, B P a1 a2 → P a1 a2) → P a1 a2
def pm_lp3 {A1 A2 A3 : Type} (B : (A1 → A2 → A3 → Prop) → A1 → A2 → A3 → Prop) (a1 : A1) (a2 : A2) (a3 : A3) : Prop := ∀ P : A1 → A2 → A3 → Prop, (∀ a1 a2 a3, B P a1 a2 a3 → P a1 a2 a3) → P a1 a2 a3
def pm_lp4 {A1 A2 A3 A4 : Type} (B : (A1 → A2 → A3 → A4 → Prop) → A1 → A2 → A3 → A4 → Prop) (a1 : A1) (a2 : A2) (a3 : A3) (a4 : A4) : Prop := ∀ P : A1 → A2 → A3 → A4 → Prop, (∀ a1 a2 a3 a4, B P a1 a2 a3 a4 → P a1 a2 a3 a4) → P a1 a2 a3 a4
def pm_lp5 {A1 A2 A3 A4 A5 : Type} (B : (A1 → A2 → A3 → A4 → A5 → Prop) → A1 → A2 → A3 → A4 → A5 → Prop) (a1 : A1) (a2 : A2) (a3 : A3) (a4 : A4) (a5 : A5) : Prop := ∀ P : A1 → A2 → A3 → A4 → A5 → Prop, (∀ a1 a2 a3 a4 a5, B P a1 a2 a3 a4 a5 → P a1 a2 a3 a4 a5) → P a1 a2 a3 a4 a5

section PMR
variable {G : pm_G} {X : pm_X} {cc : ByteArray} {nL a b : Nat} {own : String} {ret : Option FieldType} {rm : Room} {ls : List (Option Value)} {st : List Value} {I : pm_I}
theorem r_iconst (pc : Nat) {n : Int} {v : Int32} (hC : pm_C G X cc nL own ret rm) (hd : decode cc pc = .ok (.iconst n, 1)) (hv : Int32.ofInt n = v) (k : pm_R G X nL a b (pc + 1) ls (.int v :: st) I) : pm_R G X nL a b pc ls (st) I := by
  obtain ⟨p, l, e, R, s, m, args, below, meth, c, Q⟩ := X
  obtain ⟨hx, hb, -⟩ := hC
  intro H locs la hP hS hL
  exact lv_iconst hx hb hd hv (k H locs la hP hS hL)
theorem r_bipush (pc : Nat) {n : Int} {v : Int32} (hC : pm_C G X cc nL own ret rm) (hd : decode cc pc = .ok (.bipush n, 2)) (hv : (Int8.ofInt n).toInt32 = v) (k : pm_R G X nL a b (pc + 2) ls (.int v :: st) I) : pm_R G X nL a b pc ls (st) I := by
  obtain ⟨p, l, e, R, s, m, args, below, meth, c, Q⟩ := X
  obtain ⟨hx, hb, -⟩ := hC
  intro H locs la hP hS hL
  exact lv_bipush hx hb hd hv (k H locs la hP hS hL)
theorem r_sipush (pc : Nat) {n : Int} {v : Int32} (hC : pm_C G X cc nL own ret rm) (hd : decode cc pc = .ok (.sipush n, 3)) (hv : (Int16.ofInt n).toInt32 = v) (k : pm_R G X nL a b (pc + 3) ls (.int v :: st) I) : pm_R G X nL a b pc ls (st) I := by
  obtain ⟨p, l, e, R, s, m, args, below, meth, c, Q⟩ := X
  obtain ⟨hx, hb, -⟩ := hC
  intro H locs la hP hS hL
  exact lv_sipush hx hb hd hv (k H locs la hP hS hL)
theorem r_lconst (pc : Nat) {n : Fin 2} {v : Int64} (hC : pm_C G X cc nL own ret rm) (hd : decode cc pc = .ok (.lconst n, 1)) (hv : Int64.ofNat (n : Nat) = v) (k : pm_R G X nL a b (pc + 1) ls (.long v :: st) I) : pm_R G X nL a b pc ls (st) I := by
  obtain ⟨p, l, e, R, s, m, args, below, meth, c, Q⟩ := X
  obtain ⟨hx, hb, -⟩ := hC
  intro H locs la hP hS hL
  exact lv_lconst hx hb hd hv (k H locs la hP hS hL)
theorem r_iload_n (pc : Nat) {q : Fin 4} {i : Nat} {x : Int32} (hC : pm_C G X cc nL own ret rm) (hd : decode cc pc = .ok (.iload_n q, 1)) (hi : (q : Nat) = i) (hl : ls[i]? = some (some (.int x))) (k : pm_R G X nL a b (pc + 1) ls (.int x :: st) I) : pm_R G X nL a b pc ls (st) I := by
  obtain ⟨p, l, e, R, s, m, args, below, meth, c, Q⟩ := X
  obtain ⟨hx, hb, -⟩ := hC
  intro H locs la hP hS hL
  exact lv_iload_n hx hb hd hi (hL.at hl) (k H locs la hP hS hL)
theorem r_iload (pc : Nat) {i : Nat} {x : Int32} (hC : pm_C G X cc nL own ret rm) (hd : decode cc pc = .ok (.iload i, 2)) (hl : ls[i]? = some (some (.int x))) (k : pm_R G X nL a b (pc + 2) ls (.int x :: st) I) : pm_R G X nL a b pc ls (st) I := by
  obtain ⟨p, l, e, R, s, m, args, below, meth, c, Q⟩ := X
  obtain ⟨hx, hb, -⟩ := hC
  intro H locs la hP hS hL
  exact lv_iload hx hb hd (hL.at hl) (k H locs la hP hS hL)
theorem r_aload_n (pc : Nat) {q : Fin 4} {i : Nat} {x : Nat} (hC : pm_C G X cc nL own ret rm) (hd : decode cc pc = .ok (.aload_n q, 1)) (hi : (q : Nat) = i) (hl : ls[i]? = some (some (.ref x))) (k : pm_R G X nL a b (pc + 1) ls (.ref x :: st) I) : pm_R G X nL a b pc ls (st) I := by
  obtain ⟨p, l, e, R, s, m, args, below, meth, c, Q⟩ := X
  obtain ⟨hx, hb, -⟩ := hC
  intro H locs la hP hS hL
  exact lv_aload_n hx hb hd hi (hL.at hl) (k H locs la hP hS hL)
theorem r_aload (pc : Nat) {i : Nat} {x : Nat} (hC : pm_C G X cc nL own ret rm) (hd : decode cc pc = .ok (.aload i, 2)) (hl : ls[i]? = some (some (.ref x))) (k : pm_R G X nL a b (pc + 2) ls (.ref x :: st) I) : pm_R G X nL a b pc ls (st) I := by
  obtain ⟨p, l, e, R, s, m, args, below, meth, c, Q⟩ := X
  obtain ⟨hx, hb, -⟩ := hC
  intro H locs la hP hS hL
  exact lv_aload hx hb hd (hL.at hl) (k H locs la hP hS hL)
theorem r_iadd (pc : Nat) {x y : Int32} (hC : pm_C G X cc nL own ret rm) (hd : decode cc pc = .ok (.iadd, 1))  (k : pm_R G X nL a b (pc + 1) ls (.int (x + y) :: st) I) : pm_R G X nL a b pc ls (.int y :: .int x :: st) I := by
  obtain ⟨p, l, e, R, s, m, args, below, meth, c, Q⟩ := X
  obtain ⟨hx, hb, -⟩ := hC
  intro H locs la hP hS hL
  exact lv_iadd hx hb hd (k H locs la hP hS hL)
theorem r_isub (pc : Nat) {x y : Int32} (hC : pm_C G X cc nL own ret rm) (hd : decode cc pc = .ok (.isub, 1))  (k : pm_R G X nL a b (pc + 1) ls (.int (x - y) :: st) I) : pm_R G X nL a b pc ls (.int y :: .int x :: st) I := by
  obtain ⟨p, l, e, R, s, m, args, below, meth, c, Q⟩ := X
  obtain ⟨hx, hb, -⟩ := hC
  intro H locs la hP hS hL
  exact lv_isub hx hb hd (k H locs la hP hS hL)
theorem r_imul (pc : Nat) {x y : Int32} (hC : pm_C G X cc nL own ret rm) (hd : decode cc pc = .ok (.imul, 1))  (k : pm_R G X nL a b (pc + 1) ls (.int (x * y) :: st) I) : pm_R G X nL a b pc ls (.int y :: .int x :: st) I := by
  obtain ⟨p, l, e, R, s, m, args, below, meth, c, Q⟩ := X
  obtain ⟨hx, hb, -⟩ := hC
  intro H locs la hP hS hL
  exact lv_imul hx hb hd (k H locs la hP hS hL)
theorem r_iand (pc : Nat) {x y : Int32} (hC : pm_C G X cc nL own ret rm) (hd : decode cc pc = .ok (.iand, 1))  (k : pm_R G X nL a b (pc + 1) ls (.int (x &&& y) :: st) I) : pm_R G X nL a b pc ls (.int y :: .int x :: st) I := by
  obtain ⟨p, l, e, R, s, m, args, below, meth, c, Q⟩ := X
  obtain ⟨hx, hb, -⟩ := hC
  intro H locs la hP hS hL
  exact lv_iand hx hb hd (k H locs la hP hS hL)
theorem r_ior (pc : Nat) {x y : Int32} (hC : pm_C G X cc nL own ret rm) (hd : decode cc pc = .ok (.ior, 1))  (k : pm_R G X nL a b (pc + 1) ls (.int (x ||| y) :: st) I) : pm_R G X nL a b pc ls (.int y :: .int x :: st) I := by
  obtain ⟨p, l, e, R, s, m, args, below, meth, c, Q⟩ := X
  obtain ⟨hx, hb, -⟩ := hC
  intro H locs la hP hS hL
  exact lv_ior hx hb hd (k H locs la hP hS hL)
theorem r_ixor (pc : Nat) {x y : Int32} (hC : pm_C G X cc nL own ret rm) (hd : decode cc pc = .ok (.ixor, 1))  (k : pm_R G X nL a b (pc + 1) ls (.int (x ^^^ y) :: st) I) : pm_R G X nL a b pc ls (.int y :: .int x :: st) I := by
  obtain ⟨p, l, e, R, s, m, args, below, meth, c, Q⟩ := X
  obtain ⟨hx, hb, -⟩ := hC
  intro H locs la hP hS hL
  exact lv_ixor hx hb hd (k H locs la hP hS hL)
theorem r_ishl (pc : Nat) {x y : Int32} (hC : pm_C G X cc nL own ret rm) (hd : decode cc pc = .ok (.ishl, 1))  (k : pm_R G X nL a b (pc + 1) ls (.int (x <<< (y &&& 31)) :: st) I) : pm_R G X nL a b pc ls (.int y :: .int x :: st) I := by
  obtain ⟨p, l, e, R, s, m, args, below, meth, c, Q⟩ := X
  obtain ⟨hx, hb, -⟩ := hC
  intro H locs la hP hS hL
  exact lv_ishl hx hb hd (k H locs la hP hS hL)
theorem r_ishr (pc : Nat) {x y : Int32} (hC : pm_C G X cc nL own ret rm) (hd : decode cc pc = .ok (.ishr, 1))  (k : pm_R G X nL a b (pc + 1) ls (.int (x >>> (y &&& 31)) :: st) I) : pm_R G X nL a b pc ls (.int y :: .int x :: st) I := by
  obtain ⟨p, l, e, R, s, m, args, below, meth, c, Q⟩ := X
  obtain ⟨hx, hb, -⟩ := hC
  intro H locs la hP hS hL
  exact lv_ishr hx hb hd (k H locs la hP hS hL)
theorem r_iushr (pc : Nat) {x y v : Int32} (hC : pm_C G X cc nL own ret rm) (hd : decode cc pc = .ok (.iushr, 1)) (hv : (x.toUInt32 >>> (y.toUInt32 &&& Int32.toUInt32 31)).toInt32 = v) (k : pm_R G X nL a b (pc + 1) ls (.int v :: st) I) : pm_R G X nL a b pc ls (.int y :: .int x :: st) I := by
  obtain ⟨p, l, e, R, s, m, args, below, meth, c, Q⟩ := X
  obtain ⟨hx, hb, -⟩ := hC
  intro H locs la hP hS hL
  exact lv_iushr hx hb hd hv (k H locs la hP hS hL)
theorem r_idiv (pc : Nat) {x y : Int32} (hC : pm_C G X cc nL own ret rm) (hd : decode cc pc = .ok (.idiv, 1)) (hne : ¬ y = 0) (k : pm_R G X nL a b (pc + 1) ls (.int (x / y) :: st) I) : pm_R G X nL a b pc ls (.int y :: .int x :: st) I := by
  obtain ⟨p, l, e, R, s, m, args, below, meth, c, Q⟩ := X
  obtain ⟨hx, hb, -⟩ := hC
  intro H locs la hP hS hL
  exact lv_idiv hx hb hd hne (k H locs la hP hS hL)
theorem r_irem (pc : Nat) {x y : Int32} (hC : pm_C G X cc nL own ret rm) (hd : decode cc pc = .ok (.irem, 1)) (hne : ¬ y = 0) (k : pm_R G X nL a b (pc + 1) ls (.int (x - x / y * y) :: st) I) : pm_R G X nL a b pc ls (.int y :: .int x :: st) I := by
  obtain ⟨p, l, e, R, s, m, args, below, meth, c, Q⟩ := X
  obtain ⟨hx, hb, -⟩ := hC
  intro H locs la hP hS hL
  exact lv_irem hx hb hd hne (k H locs la hP hS hL)
theorem r_i2l (pc : Nat) {x : Int32} (hC : pm_C G X cc nL own ret rm) (hd : decode cc pc = .ok (.i2l, 1))  (k : pm_R G X nL a b (pc + 1) ls (.long x.toInt64 :: st) I) : pm_R G X nL a b pc ls (.int x :: st) I := by
  obtain ⟨p, l, e, R, s, m, args, below, meth, c, Q⟩ := X
  obtain ⟨hx, hb, -⟩ := hC
  intro H locs la hP hS hL
  exact lv_i2l hx hb hd rfl (k H locs la hP hS hL)
theorem r_i2b (pc : Nat) {x : Int32} (hC : pm_C G X cc nL own ret rm) (hd : decode cc pc = .ok (.i2b, 1))  (k : pm_R G X nL a b (pc + 1) ls (.int x.toInt8.toInt32 :: st) I) : pm_R G X nL a b pc ls (.int x :: st) I := by
  obtain ⟨p, l, e, R, s, m, args, below, meth, c, Q⟩ := X
  obtain ⟨hx, hb, -⟩ := hC
  intro H locs la hP hS hL
  exact lv_i2b hx hb hd rfl (k H locs la hP hS hL)
theorem r_i2c (pc : Nat) {x : Int32} (hC : pm_C G X cc nL own ret rm) (hd : decode cc pc = .ok (.i2c, 1))  (k : pm_R G X nL a b (pc + 1) ls (.int (x.toUInt32 % 65536).toInt32 :: st) I) : pm_R G X nL a b pc ls (.int x :: st) I := by
  obtain ⟨p, l, e, R, s, m, args, below, meth, c, Q⟩ := X
  obtain ⟨hx, hb, -⟩ := hC
  intro H locs la hP hS hL
  exact lv_i2c hx hb hd rfl (k H locs la hP hS hL)
theorem r_lcmp (pc : Nat) {x y : Int64} (hC : pm_C G X cc nL own ret rm) (hd : decode cc pc = .ok (.lcmp, 1))  (k : pm_R G X nL a b (pc + 1) ls (.int (lg_cmp x y) :: st) I) : pm_R G X nL a b pc ls (.long y :: .long x :: st) I := by
  obtain ⟨p, l, e, R, s, m, args, below, meth, c, Q⟩ := X
  obtain ⟨hx, hb, -⟩ := hC
  intro H locs la hP hS hL
  exact W.lcmp hx hb hd (k H locs la hP hS hL)
theorem r_dup (pc : Nat) {v : Value} (hC : pm_C G X cc nL own ret rm) (hd : decode cc pc = .ok (.dup, 1)) (hv : v.category = 1) (k : pm_R G X nL a b (pc + 1) ls (v :: v :: st) I) : pm_R G X nL a b pc ls (v :: st) I := by
  obtain ⟨p, l, e, R, s, m, args, below, meth, c, Q⟩ := X
  obtain ⟨hx, hb, -⟩ := hC
  intro H locs la hP hS hL
  exact lv_dup hx hb hd (by rw [pm_cat]; exact hv) (k H locs la hP hS hL)
theorem r_pop (pc : Nat) {v : Value} (hC : pm_C G X cc nL own ret rm) (hd : decode cc pc = .ok (.pop, 1)) (hv : v.category = 1) (k : pm_R G X nL a b (pc + 1) ls (st) I) : pm_R G X nL a b pc ls (v :: st) I := by
  obtain ⟨p, l, e, R, s, m, args, below, meth, c, Q⟩ := X
  obtain ⟨hx, hb, -⟩ := hC
  intro H locs la hP hS hL
  exact lv_pop hx hb hd (by rw [pm_cat]; exact hv) (k H locs la hP hS hL)
theorem r_dup2 (pc : Nat) {v w : Value} (hC : pm_C G X cc nL own ret rm) (hd : decode cc pc = .ok (.dup2, 1)) (hv : v.category = 1) (hw : w.category = 1) (k : pm_R G X nL a b (pc + 1) ls (v :: w :: v :: w :: st) I) : pm_R G X nL a b pc ls (v :: w :: st) I := by
  obtain ⟨p, l, e, R, s, m, args, below, meth, c, Q⟩ := X
  obtain ⟨hx, hb, -⟩ := hC
  intro H locs la hP hS hL
  exact lv_dup2_11 hx hb hd (by rw [pm_cat]; exact hv) (by rw [pm_cat]; exact hw) (k H locs la hP hS hL)
theorem r_istore_n (pc : Nat) {q : Fin 4} {i : Nat} {x : Int32} (ls' : List (Option Value)) (hC : pm_C G X cc nL own ret rm) (hd : decode cc pc = .ok (.istore_n q, 1)) (hi : (q : Nat) = i) (hn : i < nL) (hls : ls.set i (some (.int x)) = ls') (k : pm_R G X nL a b (pc + 1) ls' st I) : pm_R G X nL a b pc ls (.int x :: st) I := by
  obtain ⟨p, l, e, R, s, m, args, below, meth, c, Q⟩ := X
  subst hls
  obtain ⟨hx, hb, -⟩ := hC
  intro H locs la hP hS hL
  obtain ⟨l9, h1, h2⟩ := hL
  exact lv_istore_n hx hb hd hi h1 hn rfl (fun la' h' => k H locs la' hP hS (pm_L.set (v := .int x) rfl h2 h'))
theorem r_istore (pc : Nat) {i : Nat} {x : Int32} (ls' : List (Option Value)) (hC : pm_C G X cc nL own ret rm) (hd : decode cc pc = .ok (.istore i, 2))  (hn : i < nL) (hls : ls.set i (some (.int x)) = ls') (k : pm_R G X nL a b (pc + 2) ls' st I) : pm_R G X nL a b pc ls (.int x :: st) I := by
  obtain ⟨p, l, e, R, s, m, args, below, meth, c, Q⟩ := X
  subst hls
  obtain ⟨hx, hb, -⟩ := hC
  intro H locs la hP hS hL
  obtain ⟨l9, h1, h2⟩ := hL
  exact lv_istore hx hb hd h1 hn rfl (fun la' h' => k H locs la' hP hS (pm_L.set (v := .int x) rfl h2 h'))
theorem r_astore_n (pc : Nat) {q : Fin 4} {i : Nat} {x : Nat} (ls' : List (Option Value)) (hC : pm_C G X cc nL own ret rm) (hd : decode cc pc = .ok (.astore_n q, 1)) (hi : (q : Nat) = i) (hn : i < nL) (hls : ls.set i (some (.ref x)) = ls') (k : pm_R G X nL a b (pc + 1) ls' st I) : pm_R G X nL a b pc ls (.ref x :: st) I := by
  obtain ⟨p, l, e, R, s, m, args, below, meth, c, Q⟩ := X
  subst hls
  obtain ⟨hx, hb, -⟩ := hC
  intro H locs la hP hS hL
  obtain ⟨l9, h1, h2⟩ := hL
  exact lv_astore_n hx hb hd hi h1 hn rfl (fun la' h' => k H locs la' hP hS (pm_L.set (v := .ref x) rfl h2 h'))
theorem r_astore (pc : Nat) {i : Nat} {x : Nat} (ls' : List (Option Value)) (hC : pm_C G X cc nL own ret rm) (hd : decode cc pc = .ok (.astore i, 2))  (hn : i < nL) (hls : ls.set i (some (.ref x)) = ls') (k : pm_R G X nL a b (pc + 2) ls' st I) : pm_R G X nL a b pc ls (.ref x :: st) I := by
  obtain ⟨p, l, e, R, s, m, args, below, meth, c, Q⟩ := X
  subst hls
  obtain ⟨hx, hb, -⟩ := hC
  intro H locs la hP hS hL
  obtain ⟨l9, h1, h2⟩ := hL
  exact lv_astore hx hb hd h1 hn rfl (fun la' h' => k H locs la' hP hS (pm_L.set (v := .ref x) rfl h2 h'))
theorem r_iinc (pc : Nat) {i : Nat} {n : Int} {x v : Int32} (ls' : List (Option Value)) (hC : pm_C G X cc nL own ret rm) (hd : decode cc pc = .ok (.iinc i n, 3)) (hl : ls[i]? = some (some (.int x))) (hv : x + Int32.ofInt n = v) (hn : i < nL) (hls : ls.set i (some (.int v)) = ls') (k : pm_R G X nL a b (pc + 3) ls' st I) : pm_R G X nL a b pc ls st I := by
  obtain ⟨p, l, e, R, s, m, args, below, meth, c, Q⟩ := X
  subst hls
  obtain ⟨hx, hb, -⟩ := hC
  intro H locs la hP hS hL
  obtain ⟨l9, h1, h2⟩ := hL
  obtain ⟨k9, hk9⟩ := List.getElem?_of_mem (h2 i _ hl).2
  exact lv_iinc hx hb hd h1 (k := k9) hk9 hv hn rfl (fun la' h' => k H locs la' hP hS (pm_L.set (v := .int v) rfl h2 h'))
theorem r_if_eq (pc tgt : Nat) {x : Int32} {off : Int} (hC : pm_C G X cc nL own ret rm) (hd : decode cc pc = .ok (.ifCond .eq off, 3)) (ht : (pc : Int) + off = (tgt : Int)) (kt : x = 0 → pm_R G X nL a b tgt ls st I) (kf : ¬ x = 0 → pm_R G X nL a b (pc + 3) ls st I) : pm_R G X nL a b pc ls (.int x :: st) I := by
  obtain ⟨p, l, e, R, s, m, args, below, meth, c, Q⟩ := X
  obtain ⟨hx, hb, -⟩ := hC
  intro H locs la hP hS hL
  exact lv_if_eq hx hb hd ht (fun h => kt h H locs la hP hS hL) (fun h => kf h H locs la hP hS hL)
theorem r_icmp_eq (pc tgt : Nat) {x y : Int32} {off : Int} (hC : pm_C G X cc nL own ret rm) (hd : decode cc pc = .ok (.if_icmp .eq off, 3)) (ht : (pc : Int) + off = (tgt : Int)) (kt : x = y → pm_R G X nL a b tgt ls st I) (kf : ¬ x = y → pm_R G X nL a b (pc + 3) ls st I) : pm_R G X nL a b pc ls (.int y :: .int x :: st) I := by
  obtain ⟨p, l, e, R, s, m, args, below, meth, c, Q⟩ := X
  obtain ⟨hx, hb, -⟩ := hC
  intro H locs la hP hS hL
  exact lv_icmp_eq hx hb hd ht (fun h => kt h H locs la hP hS hL) (fun h => kf h H locs la hP hS hL)
theorem r_if_ne (pc tgt : Nat) {x : Int32} {off : Int} (hC : pm_C G X cc nL own ret rm) (hd : decode cc pc = .ok (.ifCond .ne off, 3)) (ht : (pc : Int) + off = (tgt : Int)) (kt : ¬ x = 0 → pm_R G X nL a b tgt ls st I) (kf : x = 0 → pm_R G X nL a b (pc + 3) ls st I) : pm_R G X nL a b pc ls (.int x :: st) I := by
  obtain ⟨p, l, e, R, s, m, args, below, meth, c, Q⟩ := X
  obtain ⟨hx, hb, -⟩ := hC
  intro H locs la hP hS hL
  exact lv_if_ne hx hb hd ht (fun h => kt h H locs la hP hS hL) (fun h => kf h H locs la hP hS hL)
theorem r_icmp_ne (pc tgt : Nat) {x y : Int32} {off : Int} (hC : pm_C G X cc nL own ret rm) (hd : decode cc pc = .ok (.if_icmp .ne off, 3)) (ht : (pc : Int) + off = (tgt : Int)) (kt : ¬ x = y → pm_R G X nL a b tgt ls st I) (kf : x = y → pm_R G X nL a b (pc + 3) ls st I) : pm_R G X nL a b pc ls (.int y :: .int x :: st) I := by
  obtain ⟨p, l, e, R, s, m, args, below, meth, c, Q⟩ := X
  obtain ⟨hx, hb, -⟩ := hC
  intro H locs la hP hS hL
  exact lv_icmp_ne hx hb hd ht (fun h => kt h H locs la hP hS hL) (fun h => kf h H locs la hP hS hL)
theorem r_if_lt (pc tgt : Nat) {x : Int32} {off : Int} (hC : pm_C G X cc nL own ret rm) (hd : decode cc pc = .ok (.ifCond .lt off, 3)) (ht : (pc : Int) + off = (tgt : Int)) (kt : x < 0 → pm_R G X nL a b tgt ls st I) (kf : ¬ x < 0 → pm_R G X nL a b (pc + 3) ls st I) : pm_R G X nL a b pc ls (.int x :: st) I := by
  obtain ⟨p, l, e, R, s, m, args, below, meth, c, Q⟩ := X
  obtain ⟨hx, hb, -⟩ := hC
  intro H locs la hP hS hL
  exact lv_if_lt hx hb hd ht (fun h => kt h H locs la hP hS hL) (fun h => kf h H locs la hP hS hL)
theorem r_icmp_lt (pc tgt : Nat) {x y : Int32} {off : Int} (hC : pm_C G X cc nL own ret rm) (hd : decode cc pc = .ok (.if_icmp .lt off, 3)) (ht : (pc : Int) + off = (tgt : Int)) (kt : x < y → pm_R G X nL a b tgt ls st I) (kf : ¬ x < y → pm_R G X nL a b (pc + 3) ls st I) : pm_R G X nL a b pc ls (.int y :: .int x :: st) I := by
  obtain ⟨p, l, e, R, s, m, args, below, meth, c, Q⟩ := X
  obtain ⟨hx, hb, -⟩ := hC
  intro H locs la hP hS hL
  exact lv_icmp_lt hx hb hd ht (fun h => kt h H locs la hP hS hL) (fun h => kf h H locs la hP hS hL)
theorem r_if_ge (pc tgt : Nat) {x : Int32} {off : Int} (hC : pm_C G X cc nL own ret rm) (hd : decode cc pc = .ok (.ifCond .ge off, 3)) (ht : (pc : Int) + off = (tgt : Int)) (kt : 0 ≤ x → pm_R G X nL a b tgt ls st I) (kf : ¬ 0 ≤ x → pm_R G X nL a b (pc + 3) ls st I) : pm_R G X nL a b pc ls (.int x :: st) I := by
  obtain ⟨p, l, e, R, s, m, args, below, meth, c, Q⟩ := X
  obtain ⟨hx, hb, -⟩ := hC
  intro H locs la hP hS hL
  exact lv_if_ge hx hb hd ht (fun h => kt h H locs la hP hS hL) (fun h => kf h H locs la hP hS hL)
theorem r_icmp_ge (pc tgt : Nat) {x y : Int32} {off : Int} (hC : pm_C G X cc nL own ret rm) (hd : decode cc pc = .ok (.if_icmp .ge off, 3)) (ht : (pc : Int) + off = (tgt : Int)) (kt : y ≤ x → pm_R G X nL a b tgt ls st I) (kf : ¬ y ≤ x → pm_R G X nL a b (pc + 3) ls st I) : pm_R G X nL a b pc ls (.int y :: .int x :: st) I := by
  obtain ⟨p, l, e, R, s, m, args, below, meth, c, Q⟩ := X
  obtain ⟨hx, hb, -⟩ := hC
  intro H locs la hP hS hL
  exact lv_icmp_ge hx hb hd ht (fun h => kt h H locs la hP hS hL) (fun h => kf h H locs la hP hS hL)
theorem r_if_gt (pc tgt : Nat) {x : Int32} {off : Int} (hC : pm_C G X cc nL own ret rm) (hd : decode cc pc = .ok (.ifCond .gt off, 3)) (ht : (pc : Int) + off = (tgt : Int)) (kt : 0 < x → pm_R G X nL a b tgt ls st I) (kf : ¬ 0 < x → pm_R G X nL a b (pc + 3) ls st I) : pm_R G X nL a b pc ls (.int x :: st) I := by
  obtain ⟨p, l, e, R, s, m, args, below, meth, c, Q⟩ := X
  obtain ⟨hx, hb, -⟩ := hC
  intro H locs la hP hS hL
  exact lv_if_gt hx hb hd ht (fun h => kt h H locs la hP hS hL) (fun h => kf h H locs la hP hS hL)
theorem r_icmp_gt (pc tgt : Nat) {x y : Int32} {off : Int} (hC : pm_C G X cc nL own ret rm) (hd : decode cc pc = .ok (.if_icmp .gt off, 3)) (ht : (pc : Int) + off = (tgt : Int)) (kt : y < x → pm_R G X nL a b tgt ls st I) (kf : ¬ y < x → pm_R G X nL a b (pc + 3) ls st I) : pm_R G X nL a b pc ls (.int y :: .int x :: st) I := by
  obtain ⟨p, l, e, R, s, m, args, below, meth, c, Q⟩ := X
  obtain ⟨hx, hb, -⟩ := hC
  intro H locs la hP hS hL
  exact lv_icmp_gt hx hb hd ht (fun h => kt h H locs la hP hS hL) (fun h => kf h H locs la hP hS hL)
theorem r_if_le (pc tgt : Nat) {x : Int32} {off : Int} (hC : pm_C G X cc nL own ret rm) (hd : decode cc pc = .ok (.ifCond .le off, 3)) (ht : (pc : Int) + off = (tgt : Int)) (kt : x ≤ 0 → pm_R G X nL a b tgt ls st I) (kf : ¬ x ≤ 0 → pm_R G X nL a b (pc + 3) ls st I) : pm_R G X nL a b pc ls (.int x :: st) I := by
  obtain ⟨p, l, e, R, s, m, args, below, meth, c, Q⟩ := X
  obtain ⟨hx, hb, -⟩ := hC
  intro H locs la hP hS hL
  exact lv_if_le hx hb hd ht (fun h => kt h H locs la hP hS hL) (fun h => kf h H locs la hP hS hL)
theorem r_icmp_le (pc tgt : Nat) {x y : Int32} {off : Int} (hC : pm_C G X cc nL own ret rm) (hd : decode cc pc = .ok (.if_icmp .le off, 3)) (ht : (pc : Int) + off = (tgt : Int)) (kt : x ≤ y → pm_R G X nL a b tgt ls st I) (kf : ¬ x ≤ y → pm_R G X nL a b (pc + 3) ls st I) : pm_R G X nL a b pc ls (.int y :: .int x :: st) I := by
  obtain ⟨p, l, e, R, s, m, args, below, meth, c, Q⟩ := X
  obtain ⟨hx, hb, -⟩ := hC
  intro H locs la hP hS hL
  exact lv_icmp_le hx hb hd ht (fun h => kt h H locs la hP hS hL) (fun h => kf h H locs la hP hS hL)
theorem r_goto (pc tgt : Nat) {off : Int} (hC : pm_C G X cc nL own ret rm) (hd : decode cc pc = .ok (.goto off, 3)) (ht : (pc : Int) + off = (tgt : Int)) (k : pm_R G X nL a b tgt ls st I) : pm_R G X nL a b pc ls st I := by
  obtain ⟨p, l, e, R, s, m, args, below, meth, c, Q⟩ := X
  obtain ⟨hx, hb, -⟩ := hC
  intro H locs la hP hS hL
  exact lv_goto hx hb hd ht (k H locs la hP hS hL)
theorem r_tabOut (pc tgt : Nat) {dflt lo hi : Int} {offs : Array Int} {len : Nat} {x : Int32} (hC : pm_C G X cc nL own ret rm) (hd : decode cc pc = .ok (.tableswitch dflt lo hi offs, len)) (h : x.toInt < lo ∨ hi < x.toInt) (ht : (pc : Int) + dflt = (tgt : Int)) (k : pm_R G X nL a b tgt ls st I) : pm_R G X nL a b pc ls (.int x :: st) I := by
  obtain ⟨p, l, e, R, s, m, args, below, meth, c, Q⟩ := X
  obtain ⟨hx, hb, -⟩ := hC
  intro H locs la hP hS hL
  exact lv_tableOut hx hb hd h ht (k H locs la hP hS hL)
theorem r_tabIn (pc tgt : Nat) {dflt lo hi off : Int} {offs : Array Int} {len : Nat} {x : Int32} (hC : pm_C G X cc nL own ret rm) (hd : decode cc pc = .ok (.tableswitch dflt lo hi offs, len)) (h1 : ¬ x.toInt < lo) (h2 : ¬ hi < x.toInt) (ho : offs[(x.toInt - lo).toNat]? = some off) (ht : (pc : Int) + off = (tgt : Int)) (k : pm_R G X nL a b tgt ls st I) : pm_R G X nL a b pc ls (.int x :: st) I := by
  obtain ⟨p, l, e, R, s, m, args, below, meth, c, Q⟩ := X
  obtain ⟨hx, hb, -⟩ := hC
  intro H locs la hP hS hL
  exact lv_tableIn hx hb hd h1 h2 ho ht (k H locs la hP hS hL)
/-- other names of the same locals, or fewer -/
def pm_le : List (Option Value) → List (Option Value) → Prop
  | [], _ => True
  | none :: t, _ :: u => pm_le t u
  | some v :: t, w :: u => w = some v ∧ pm_le t u
  | none :: t, [] => pm_le t []
  | some _ :: _, [] => False
theorem pm_le_get : ∀ (l l' : List (Option Value)), pm_le l l' → ∀ (i : Nat) (v : Value), l[i]? = some (some v) → l'[i]? = some (some v) := by
  intro l
  induction l with
  | nil => intro l' _ i v h; simp at h
  | cons x t ih =>
    intro l' hle i v h
    cases l' with
    | nil =>
      cases x with
      | some w => exact absurd hle (by simp [pm_le])
      | none =>
        cases i with
        | zero => simp at h
        | succ i => exact absurd (ih [] (by simpa [pm_le] using hle) i v (by simpa using h)) (by simp)
    | cons y u =>
      cases x with
      | none =>
        cases i with
        | zero => simp at h
        | succ i => simpa using ih u (by simpa [pm_le] using hle) i v (by simpa using h)
      | some w =>
        obtain ⟨h1, h2⟩ : y = some w ∧ pm_le t u := by simpa [pm_le] using hle
        cases i with
        | zero => simp at h; subst h; simp [h1]
        | succ i => simpa using ih u h2 i v (by simpa using h)
theorem r_weak {ls' : List (Option Value)} {pc : Nat} (h : pm_le ls' ls) (k : pm_R G X nL a b pc ls' st I) : pm_R G X nL a b pc ls st I := by
  obtain ⟨p, l, e, R, s, m, args, below, meth, c, Q⟩ := X
  intro H locs la hP hS hL
  obtain ⟨l9, h1, h2⟩ := hL
  exact k H locs la hP hS ⟨l9, h1, fun i v hv => h2 i v (pm_le_get ls' ls h i v hv)⟩
theorem pm_up_ne {I : pm_I} {r j : Nat} {v : Int32} : ∀ b, b ≠ r → pm_up I r j v b = I b := fun b h => by unfold pm_up; rw [if_neg h]
theorem pm_up_row {I : pm_I} {r j : Nat} {v : Int32} : pm_up I r j v r = upd (I r) j v := by unfold pm_up; rw [if_pos rfl]
theorem r_get (pc : Nat) {ref C : String} {T : u_T} {N ci index : Nat} {r : Nat} {v : Value} (hC : pm_C G X cc nL own ret rm) (hk : pm_k G r (.inl ci)) (hc : vwCl[ci]? = some (C, T, N)) (hin : ∀ w ∈ u_ws C T N, w ∈ lw_tbl) (hig : (u_ws C T N).all goodWord = true) (k0 : Nat) (hk0 : k0 < N) (hlink : Cond.fieldLink own index ref (T k0).2.1 (T k0).2.2.1 ∈ lw_tbl) (href : ref = (T k0).1) (hv : (pm_fs (pm_ad G) ci r (I r))[k0]? = some (pm_tr G v)) (hd : decode cc pc = .ok (.getfield index, 3)) (k : pm_R G X nL a b (pc + 3) ls (v :: st) I) : pm_R G X nL a b pc ls (.ref r :: st) I := by
  obtain ⟨p, l, e, R, s, m, args, below, meth, c, Q⟩ := X
  obtain ⟨hx, hb, -, -, ho, -, hT, -, hG⟩ := hC
  intro H locs la hP hS hL
  have hts : ∀ w ∈ u_ws C T N, w.before args s = true := fun w hw => hT.1.use (hin w hw) (by unfold pm_tw; rw [List.all_eq_true.mp hig w hw]; rfl)
  exact va_get (own := own) (ref := ref) (C := C) (T := T) (N := N) (ci := ci) (index := index) hx hb hts (fun _ h => h) ho hT.2.1 hP (r - 1) (pm_w_at hk) hc k0 hk0 (hT.1.use hlink rfl) (fun x h => by rw [href]; exact h) hv hd (k H locs la hP hS hL)
theorem r_put (pc : Nat) {ref C : String} {T : u_T} {N ci index : Nat} {r j : Nat} {v : Value} {x : Int32} {ty : FieldType} (hC : pm_C G X cc nL own ret rm) (hk : pm_k G r (.inl ci)) (hc : vwCl[ci]? = some (C, T, N)) (hin : ∀ w ∈ u_ws C T N, w ∈ lw_tbl) (hig : (u_ws C T N).all goodWord = true) (ty0 : Nat → FieldType) (hty : ∀ k, k < N → parseFieldDescriptor (T k).2.2.1 = some (ty0 k)) (hnm : ∀ a, a < N → ∀ b, b < N → a ≠ b → (T a).2.1 ≠ (T b).2.1) (k0 : Nat) (hk0 : k0 < N) (hlink : Cond.fieldLink own index ref (T k0).2.1 (T k0).2.2.1 ∈ lw_tbl) (href : ref = (T k0).1) (hfin : (T k0).2.2.2 = false) (hde : parseFieldDescriptor (T k0).2.2.1 = some ty) (hn : narrow ty (pm_tr G v) = pm_tr G v) (hfit : fits ty (pm_tr G v) = true) (hl : k0 < (pm_fs (pm_ad G) ci r (I r)).length) (hset : (pm_fs (pm_ad G) ci r (I r)).set k0 (pm_tr G v) = pm_fs (pm_ad G) ci r (upd (I r) j x)) (hd : decode cc pc = .ok (.putfield index, 3)) (k : ∀ I1, I1 = pm_up I r j x → pm_R G X nL a b (pc + 3) ls st I1) : pm_R G X nL a b pc ls (v :: .ref r :: st) I := by
  obtain ⟨p, l, e, R, s, m, args, below, meth, c, Q⟩ := X
  obtain ⟨hx, hb, -, -, ho, -, hT, -, hG⟩ := hC
  intro H locs la hP hS hL
  have hts : ∀ w ∈ u_ws C T N, w.before args s = true := fun w hw => hT.1.use (hin w hw) (by unfold pm_tw; rw [List.all_eq_true.mp hig w hw]; rfl)
  refine va_put (own := own) (ref := ref) (C := C) (T := T) (N := N) (ci := ci) (index := index) hx hb hts (fun _ h => h) ty0 hty hnm ho hT.2.1 hP (pm_va_D hG I) hS (r - 1) (pm_w_at hk) hc k0 hk0 (hT.1.use hlink rfl) (fun x h => by rw [href]; exact h) hfin hde hn hfit hl hd (fun H1 locs1 hP1 _ hS1 => ?_)
  rw [pm_w_set (I' := pm_up I r j x) hk (by rw [pm_up_row, hset]; rfl) pm_up_ne] at hP1
  exact k _ rfl H1 locs1 la hP1 hS1 hL
theorem r_getN (pc : Nat) {ref C host : String} {T : u_T} {N ci index : Nat} {r : Nat} {v : Value} (hC : pm_C G X cc nL own ret rm) (hk : pm_k G r (.inl ci)) (hc : vwCl[ci]? = some (C, T, N)) (hin : ∀ w ∈ u_ws C T N, w ∈ lw_tbl) (hig : (u_ws C T N).all goodWord = true) (k0 : Nat) (hk0 : k0 < N) (hlink : Cond.fieldLinkNest own index ref (T k0).2.1 (T k0).2.2.1 host ∈ lw_tbl) (href : ref = (T k0).1) (hv : (pm_fs (pm_ad G) ci r (I r))[k0]? = some (pm_tr G v)) (hd : decode cc pc = .ok (.getfield index, 3)) (k : pm_R G X nL a b (pc + 3) ls (v :: st) I) : pm_R G X nL a b pc ls (.ref r :: st) I := by
  obtain ⟨p, l, e, R, s, m, args, below, meth, c, Q⟩ := X
  obtain ⟨hx, hb, -, -, ho, -, hT, -, hG⟩ := hC
  intro H locs la hP hS hL
  have hts : ∀ w ∈ u_ws C T N, w.before args s = true := fun w hw => hT.1.use (hin w hw) (by unfold pm_tw; rw [List.all_eq_true.mp hig w hw]; rfl)
  exact va_getN (own := own) (ref := ref) (C := C) (T := T) (N := N) (ci := ci) (index := index) hx hb hts (fun _ h => h) ho hT.2.1 hP (r - 1) (pm_w_at hk) hc k0 hk0 (hT.1.use hlink rfl) (fun x h => by rw [href]; exact h) hv hd (k H locs la hP hS hL)
theorem r_putN (pc : Nat) {ref C host : String} {T : u_T} {N ci index : Nat} {r j : Nat} {v : Value} {x : Int32} {ty : FieldType} (hC : pm_C G X cc nL own ret rm) (hk : pm_k G r (.inl ci)) (hc : vwCl[ci]? = some (C, T, N)) (hin : ∀ w ∈ u_ws C T N, w ∈ lw_tbl) (hig : (u_ws C T N).all goodWord = true) (ty0 : Nat → FieldType) (hty : ∀ k, k < N → parseFieldDescriptor (T k).2.2.1 = some (ty0 k)) (hnm : ∀ a, a < N → ∀ b, b < N → a ≠ b → (T a).2.1 ≠ (T b).2.1) (k0 : Nat) (hk0 : k0 < N) (hlink : Cond.fieldLinkNest own index ref (T k0).2.1 (T k0).2.2.1 host ∈ lw_tbl) (href : ref = (T k0).1) (hfin : (T k0).2.2.2 = false) (hde : parseFieldDescriptor (T k0).2.2.1 = some ty) (hn : narrow ty (pm_tr G v) = pm_tr G v) (hfit : fits ty (pm_tr G v) = true) (hl : k0 < (pm_fs (pm_ad G) ci r (I r)).length) (hset : (pm_fs (pm_ad G) ci r (I r)).set k0 (pm_tr G v) = pm_fs (pm_ad G) ci r (upd (I r) j x)) (hd : decode cc pc = .ok (.putfield index, 3)) (k : ∀ I1, I1 = pm_up I r j x → pm_R G X nL a b (pc + 3) ls st I1) : pm_R G X nL a b pc ls (v :: .ref r :: st) I := by
  obtain ⟨p, l, e, R, s, m, args, below, meth, c, Q⟩ := X
  obtain ⟨hx, hb, -, -, ho, -, hT, -, hG⟩ := hC
  intro H locs la hP hS hL
  have hts : ∀ w ∈ u_ws C T N, w.before args s = true := fun w hw => hT.1.use (hin w hw) (by unfold pm_tw; rw [List.all_eq_true.mp hig w hw]; rfl)
  refine va_putN (own := own) (ref := ref) (C := C) (T := T) (N := N) (ci := ci) (index := index) hx hb hts (fun _ h => h) ty0 hty hnm ho hT.2.1 hP (pm_va_D hG I) hS (r - 1) (pm_w_at hk) hc k0 hk0 (hT.1.use hlink rfl) (fun x h => by rw [href]; exact h) hfin hde hn hfit hl hd (fun H1 locs1 hP1 _ hS1 => ?_)
  rw [pm_w_set (I' := pm_up I r j x) hk (by rw [pm_up_row, hset]; rfl) pm_up_ne] at hP1
  exact k _ rfl H1 locs1 la hP1 hS1 hL
theorem pm_t0 (G : pm_G) : (pm_ty G)[0]? = some (pm_ca G 0, .int) := rfl
theorem pm_t1 (G : pm_G) : (pm_ty G)[1]? = some (pm_ca G 1, .byte) := rfl
theorem pm_t2 (G : pm_G) : (pm_ty G)[2]? = some (pm_ca G 2, .boolean) := rfl
theorem pm_t3 (G : pm_G) : (pm_ty G)[3]? = some (pm_ca G 3, .long) := rfl
theorem pm_t4 (G : pm_G) : (pm_ty G)[4]? = some (pm_ca G 4, .object RX4) := rfl
theorem pm_t5 (G : pm_G) : (pm_ty G)[5]? = some (pm_ca G 5, .object RX5) := rfl
theorem r_iald (pc : Nat) {n r : Nat} {i : Int32} (hC : pm_C G X cc nL own ret rm) (hk : pm_k G r (.inr (0, n))) (hin : vp_in i n) (hd : decode cc pc = .ok (.iaload, 1)) (k : pm_R G X nL a b (pc + 1) ls (.int (I r i.toNatClampNeg) :: st) I) : pm_R G X nL a b pc ls (.int i :: .ref r :: st) I := by
  obtain ⟨p, l, e, R, s, m, args, below, meth, c, Q⟩ := X
  obtain ⟨hx, hb, -, -, ho, -, hT, -, hG⟩ := hC
  intro H locs la hP hS hL
  exact va_iald hx hb hT.2.1 hP (r - 1) 0 (pm_w_at hk) (pm_t0 G) hin hd (k H locs la hP hS hL)
theorem r_bald (pc : Nat) {n r : Nat} {i : Int32} (hC : pm_C G X cc nL own ret rm) (hk : pm_k G r (.inr (1, n))) (hin : vp_in i n) (hd : decode cc pc = .ok (.baload, 1)) (k : pm_R G X nL a b (pc + 1) ls (.int (I r i.toNatClampNeg) :: st) I) : pm_R G X nL a b pc ls (.int i :: .ref r :: st) I := by
  obtain ⟨p, l, e, R, s, m, args, below, meth, c, Q⟩ := X
  obtain ⟨hx, hb, -, -, ho, -, hT, -, hG⟩ := hC
  intro H locs la hP hS hL
  exact va_bald hx hb hT.2.1 hP (r - 1) 1 (pm_w_at hk) (pm_t1 G) hin hd (k H locs la hP hS hL)
theorem r_zald (pc : Nat) {n r : Nat} {i : Int32} (hC : pm_C G X cc nL own ret rm) (hk : pm_k G r (.inr (2, n))) (hin : vp_in i n) (hd : decode cc pc = .ok (.baload, 1)) (k : pm_R G X nL a b (pc + 1) ls (.int (I r i.toNatClampNeg) :: st) I) : pm_R G X nL a b pc ls (.int i :: .ref r :: st) I := by
  obtain ⟨p, l, e, R, s, m, args, below, meth, c, Q⟩ := X
  obtain ⟨hx, hb, -, -, ho, -, hT, -, hG⟩ := hC
  intro H locs la hP hS hL
  exact va_zald hx hb hT.2.1 hP (r - 1) 2 (pm_w_at hk) (pm_t2 G) hin hd (k H locs la hP hS hL)
theorem r_iast (pc : Nat) {n r : Nat} {i x : Int32} (hC : pm_C G X cc nL own ret rm) (hk : pm_k G r (.inr (0, n))) (hin : vp_in i n) (hd : decode cc pc = .ok (.iastore, 1)) (k : ∀ I1, I1 = pm_up I r i.toNatClampNeg x → pm_R G X nL a b (pc + 1) ls st I1) : pm_R G X nL a b pc ls (.int x :: .int i :: .ref r :: st) I := by
  obtain ⟨p, l, e, R, s, m, args, below, meth, c, Q⟩ := X
  obtain ⟨hx, hb, -, -, ho, -, hT, -, hG⟩ := hC
  intro H locs la hP hS hL
  refine va_iast hx hb hT.2.1 hP (pm_va_D hG I) hS (r - 1) 0 (pm_w_at hk) (pm_t0 G) hin hd (fun H1 locs1 hP1 _ hS1 => ?_)
  rw [pm_w_set (I' := pm_up I r i.toNatClampNeg x) hk (by rw [pm_up_row]; rfl) pm_up_ne] at hP1
  exact k _ rfl H1 locs1 la hP1 hS1 hL
theorem r_bast (pc : Nat) {n r : Nat} {i x : Int32} (hC : pm_C G X cc nL own ret rm) (hk : pm_k G r (.inr (1, n))) (hin : vp_in i n) (hd : decode cc pc = .ok (.bastore, 1)) (k : ∀ I1, I1 = pm_up I r i.toNatClampNeg (vp_nar .byte x) → pm_R G X nL a b (pc + 1) ls st I1) : pm_R G X nL a b pc ls (.int x :: .int i :: .ref r :: st) I := by
  obtain ⟨p, l, e, R, s, m, args, below, meth, c, Q⟩ := X
  obtain ⟨hx, hb, -, -, ho, -, hT, -, hG⟩ := hC
  intro H locs la hP hS hL
  refine va_bast hx hb hT.2.1 hP (pm_va_D hG I) hS (r - 1) 1 (pm_w_at hk) (pm_t1 G) hin hd (fun H1 locs1 hP1 _ hS1 => ?_)
  rw [pm_w_set (I' := pm_up I r i.toNatClampNeg (vp_nar .byte x)) hk (by rw [pm_up_row]; rfl) pm_up_ne] at hP1
  exact k _ rfl H1 locs1 la hP1 hS1 hL
theorem r_zast (pc : Nat) {n r : Nat} {i x : Int32} (hC : pm_C G X cc nL own ret rm) (hk : pm_k G r (.inr (2, n))) (hin : vp_in i n) (hd : decode cc pc = .ok (.bastore, 1)) (k : ∀ I1, I1 = pm_up I r i.toNatClampNeg (vp_nar .boolean x) → pm_R G X nL a b (pc + 1) ls st I1) : pm_R G X nL a b pc ls (.int x :: .int i :: .ref r :: st) I := by
  obtain ⟨p, l, e, R, s, m, args, below, meth, c, Q⟩ := X
  obtain ⟨hx, hb, -, -, ho, -, hT, -, hG⟩ := hC
  intro H locs la hP hS hL
  refine va_zast hx hb hT.2.1 hP (pm_va_D hG I) hS (r - 1) 2 (pm_w_at hk) (pm_t2 G) hin hd (fun H1 locs1 hP1 _ hS1 => ?_)
  rw [pm_w_set (I' := pm_up I r i.toNatClampNeg (vp_nar .boolean x)) hk (by rw [pm_up_row]; rfl) pm_up_ne] at hP1
  exact k _ rfl H1 locs1 la hP1 hS1 hL
theorem r_lald (pc : Nat) {n r : Nat} {i : Int32} (hC : pm_C G X cc nL own ret rm) (hk : pm_k G r (.inr (3, n))) (hin : vp_in i n) (hd : decode cc pc = .ok (.laload, 1)) (k : pm_R G X nL a b (pc + 1) ls (.long (I r i.toNatClampNeg).toInt64 :: st) I) : pm_R G X nL a b pc ls (.int i :: .ref r :: st) I := by
  obtain ⟨p, l, e, R, s, m, args, below, meth, c, Q⟩ := X
  obtain ⟨hx, hb, -, -, ho, -, hT, -, hG⟩ := hC
  intro H locs la hP hS hL
  exact va_lald hx hb hT.2.1 hP (r - 1) 3 (pm_w_at hk) (pm_t3 G) hin hd (k H locs la hP hS hL)
theorem r_last (pc : Nat) {n r : Nat} {i x : Int32} (hC : pm_C G X cc nL own ret rm) (hk : pm_k G r (.inr (3, n))) (hin : vp_in i n) (hd : decode cc pc = .ok (.lastore, 1)) (k : ∀ I1, I1 = pm_up I r i.toNatClampNeg x → pm_R G X nL a b (pc + 1) ls st I1) : pm_R G X nL a b pc ls (.long x.toInt64 :: .int i :: .ref r :: st) I := by
  obtain ⟨p, l, e, R, s, m, args, below, meth, c, Q⟩ := X
  obtain ⟨hx, hb, -, -, ho, -, hT, -, hG⟩ := hC
  intro H locs la hP hS hL
  refine va_last hx hb hT.2.1 hP (pm_va_D hG I) hS (r - 1) 3 (pm_w_at hk) (pm_t3 G) hin hd (fun H1 locs1 hP1 _ hS1 => ?_)
  have e9 : vp_updL (fun j => (I r j).toInt64) i.toNatClampNeg x.toInt64 = fun j => (upd (I r) i.toNatClampNeg x j).toInt64 := funext fun j => by unfold vp_updL upd; split <;> rfl
  rw [e9] at hP1
  rw [pm_w_set (I' := pm_up I r i.toNatClampNeg x) hk (by rw [pm_up_row]; rfl) pm_up_ne] at hP1
  exact k _ rfl H1 locs1 la hP1 hS1 hL
theorem r_aald4 (pc : Nat) {n r : Nat} {i : Int32} (hC : pm_C G X cc nL own ret rm) (hk : pm_k G r (.inr (4, n))) (hin : vp_in i n) (hd : decode cc pc = .ok (.aaload, 1)) (k : pm_R G X nL a b (pc + 1) ls (.ref (r + 1 + 5 * i.toNatClampNeg) :: st) I) : pm_R G X nL a b pc ls (.int i :: .ref r :: st) I := by
  obtain ⟨p, l, e, R, s, m, args, below, meth, c, Q⟩ := X
  obtain ⟨hx, hb, -, -, ho, -, hT, -, hG⟩ := hC
  intro H locs la hP hS hL
  exact va_aldq hx hb hT.2.1 hP (r - 1) 4 (pm_w_at hk) (pm_t4 G) hin hd (k H locs la hP hS hL)
theorem r_aald5 (pc : Nat) {n r : Nat} {i : Int32} (hC : pm_C G X cc nL own ret rm) (hk : pm_k G r (.inr (5, n))) (hin : vp_in i n) (hd : decode cc pc = .ok (.aaload, 1)) (k : pm_R G X nL a b (pc + 1) ls (.ref (r + 1 + 34 * i.toNatClampNeg) :: st) I) : pm_R G X nL a b pc ls (.int i :: .ref r :: st) I := by
  obtain ⟨p, l, e, R, s, m, args, below, meth, c, Q⟩ := X
  obtain ⟨hx, hb, -, -, ho, -, hT, -, hG⟩ := hC
  intro H locs la hP hS hL
  exact va_aldq hx hb hT.2.1 hP (r - 1) 5 (pm_w_at hk) (pm_t5 G) hin hd (k H locs la hP hS hL)
theorem r_alen0 (pc : Nat) {n r : Nat} {v : Int32} (hC : pm_C G X cc nL own ret rm) (hk : pm_k G r (.inr (0, n))) (hv : Int32.ofNat n = v) (hd : decode cc pc = .ok (.arraylength, 1)) (k : pm_R G X nL a b (pc + 1) ls (.int v :: st) I) : pm_R G X nL a b pc ls (.ref r :: st) I := by
  obtain ⟨p, l, e, R, s, m, args, below, meth, c, Q⟩ := X
  obtain ⟨hx, hb, -, -, ho, -, hT, -, hG⟩ := hC
  intro H locs la hP hS hL
  exact va_alen hx hb hT.2.1 hP (r - 1) 0 (pm_w_at hk) (pm_t0 G) hv hd (k H locs la hP hS hL)
theorem r_iret (pc : Nat) {K : Option Value → pm_I → Prop} {x : Int32} {ty : FieldType} (hC : pm_C G X cc nL own (some ty) rm) (hE : pm_E G X K) (hn : narrow ty (.int x) = .int x) (hd : decode cc pc = .ok (.ireturn, 1)) (h : K (some (.int x)) I) : pm_R G X nL 0 0 pc ls [.int x] I := by
  obtain ⟨p, l, e, R, s, m, args, below, meth, c, Q⟩ := X
  obtain ⟨hx, hb, hr, -, -, hlk, -, -, -⟩ := hC
  have hE : Q = MQ below (pm_Q G K) args s 0 0 (pm_A G) := hE
  subst hE
  intro H locs la hP hS hL
  exact W.zret hx hb hr hn (fun t ht hW => ⟨⟨some (.int x), I, h, rfl, by rw [ht]; exact hP⟩, hS.F ht⟩) hS.2.2 hd hlk
theorem r_vret (pc : Nat) {K : Option Value → pm_I → Prop} (hC : pm_C G X cc nL own none rm) (hE : pm_E G X K) (hd : decode cc pc = .ok (.return_, 1)) (h : K none I) : pm_R G X nL 0 0 pc ls [] I := by
  obtain ⟨p, l, e, R, s, m, args, below, meth, c, Q⟩ := X
  obtain ⟨hx, hb, hr, -, -, hlk, -, -, -⟩ := hC
  have hE : Q = MQ below (pm_Q G K) args s 0 0 (pm_A G) := hE
  subst hE
  intro H locs la hP hS hL
  exact W.vret hx hb hr (fun t ht hW => ⟨⟨none, I, h, rfl, by rw [ht]; exact hP⟩, hS.F ht⟩) hS.2.2 hd hlk
theorem r_aret (pc : Nat) {K : Option Value → pm_I → Prop} {r : Nat} {n : String} (hC : pm_C G X cc nL own (some (.object n)) rm) (hE : pm_E G X K) (hd : decode cc pc = .ok (.areturn, 1)) (h : K (some (.ref r)) I) : pm_R G X nL 0 0 pc ls [.ref r] I := by
  obtain ⟨p, l, e, R, s, m, args, below, meth, c, Q⟩ := X
  obtain ⟨hx, hb, hr, -, -, hlk, -, -, -⟩ := hC
  have hE : Q = MQ below (pm_Q G K) args s 0 0 (pm_A G) := hE
  subst hE
  intro H locs la hP hS hL
  exact W.aret hx hb hr (Or.inl ⟨n, rfl⟩) (Or.inr ⟨_, rfl⟩) (fun t ht hW => ⟨⟨some (.ref r), I, h, rfl, by rw [ht]; exact hP⟩, hS.F ht⟩) hS.2.2 hd hlk
/-- behind a call that has run: its answer, its rows -/
theorem pm_after {p : Program} {l : Launch} {e : Env} {R : Room} {s : State} {m : MethodId} {args : Array Value} {below : List Frame} {meth : Method} {c : Code} {Q : State → Prop} {H : Heap} {locs : List Loc} {la : Array Slot} {pc : Nat} {st0 : List Value} {Kv : Option Value → pm_I → Prop} {aa : Array Value}
    (hS : va_S (pm_A G) s.heap H locs) (hr : va_Run p l e R s m args below meth c H locs a b 0 0 (F0 m pc la st0) (st.map (pm_tr G)) (pm_Q G Kv aa) (pm_A G)) (hL : pm_L G la nL ls)
    (k : ∀ v I', Kv v I' → pm_R G (p, l, e, R, s, m, args, below, meth, c, Q) nL a b (pc + 3) ls (v.toList ++ st) I') : W p l e R s m args below meth c H locs a b Q (F0 m pc la st0) := by
  intro T hT Xs
  obtain ⟨v, st₀, t, T', L, h0, X', hLL, e1, e2, ⟨⟨rv, I', hK, ho, hP'⟩, hz, hkk⟩, go⟩ := hr T hT Xs
  cases ho
  rw [h0] at hz hkk
  have hS' : va_S (pm_A G) s.heap T'.heap (locs ++ L) := ⟨Nat.le_trans hS.1 (by rw [e1]; exact hz), fun q h1 h2 => by rw [e1, hkk q (Nat.lt_of_lt_of_le h1 hS.1) h2]; exact hS.2.1 q h1 h2, fun q hq => by
    rcases List.mem_append.mp hq with h | h
    · exact hS.2.2 q h
    · exact hLL q h⟩
  have hP1 : va_P (pm_D G) vwCl (pm_w G I') T'.heap := by rw [e1]; exact hP'
  have kk := k rv I' hK T'.heap (locs ++ L) la hP1 hS' hL
  have est : (rv.toList ++ st).map (pm_tr G) = (rv.map (pm_tr G)).toList ++ st.map (pm_tr G) := by cases rv <;> rfl
  rw [est] at kk
  obtain ⟨t2, a1, b1⟩ := kk T' rfl X'
  exact ⟨t2, go t2 a1, b1⟩
theorem pm_pay {y : MethodName} {bytes : ByteArray} {maxL : Nat} {rety : Option FieldType} {s : State} (hT : pm_TT s) (hcode : Cond.code y bytes maxL rety ∈ lw_tbl) : ∀ w ∈ [Cond.code y bytes maxL rety], ∀ (a' : Array Value) (U : State), s.WarmedH U.vm → w.before a' U = true := by
  intro w hw a' U hW
  rw [List.mem_singleton.mp hw]
  exact pm_move rfl hW (hT.use (A := #[]) hcode rfl)
theorem pm_npar {y : MethodName} {n : Nat} (h : (parseMethodDescriptor y.desc).map (fun d => d.parameters.length) = some n) : ∀ sig, parseMethodDescriptor y.desc = some sig → n = sig.parameters.length := by
  intro sig hs
  rw [hs] at h
  exact (Option.some.inj h).symm
theorem r_callV (pc : Nat) {y : MethodName} {bytes : ByteArray} {maxL fr lo n index : Nat} {rety : Option FieldType} {r : Nat} {Cn : String} {T9 : u_T} {N9 ci : Nat} (As : List Value) {stk : List Value} {Kv : Option Value → pm_I → Prop} (hC : pm_C G X cc nL own ret rm) (hk : pm_k G r (.inl ci)) (hc : vwCl[ci]? = some (Cn, T9, N9)) (hd : decode cc pc = .ok (.invokevirtual index, 3)) (hfr : fr + 1 ≤ rm.frames) (hlo : 8 + (maxL + 11) + lo ≤ rm.locals) (hcode : Cond.code y bytes maxL rety ∈ lw_tbl) (hini : Cond.initialized y.cls ∈ lw_tbl) (hy : y.cls ≠ "java/lang/invoke/MethodHandle" ∧ y.cls ≠ "java/lang/invoke/VarHandle" ∧ (parseMethodDescriptor y.desc).map (fun d => d.parameters.length) = some n)
    (hlink : Cond.methodLink own index y ∈ lw_tbl) (hinst : Cond.instanceMethod y ∈ lw_tbl) (hsel : Cond.selects Cn y y ∈ lw_tbl) (hn : As.length = n) (hst : As.reverse ++ .ref r :: st = stk) (hM : pm_Ct G (pm_l X) y bytes maxL rety { frames := fr, cells := 0, slots := 0, locals := lo } (.ref r :: As) I Kv)
    (hab : a ≤ rm.cells ∧ b ≤ rm.slots) (hw : (st.map fun v => v.category).sum ≤ 8) (k : ∀ v I', Kv v I' → pm_R G X nL a b (pc + 3) ls (v.toList ++ st) I') : pm_R G X nL a b pc ls stk I := by
  obtain ⟨p, l, e, R, s, m, args, below, meth, c, Q⟩ := X
  obtain ⟨hx, hb, -, hml, ho, -, hT, rfl, hG⟩ := hC
  intro H locs la hP hS hL
  subst hst
  have hcat : ((st.map (pm_tr G)).map fun v => v.category).sum ≤ 8 := by
    rw [List.map_map]
    have : ((fun v : Value => v.category) ∘ pm_tr G) = fun v : Value => v.category := funext fun v => pm_cat G v
    rw [this]; exact hw
  refine pm_after hS (va_runV (C := Cn) (As := As.map (pm_tr G)) (rest := st.map (pm_tr G)) (b := pm_ad G r) (Ts := []) (own := own) (index := index) ⟨hx, hb, hml, ho, fun w h => absurd h List.not_mem_nil⟩ hM ⟨⟨rfl, rfl, hfr, hlo, pm_pay hT.1 hcode, List.mem_singleton.mpr rfl, hT.1.use hcode rfl, hT.1.use hini rfl, ⟨hy.1, hy.2.1⟩, pm_npar hy.2.2, hT.1.use hlink rfl⟩, hT.1.use hinst rfl, hT.1.use hsel rfl⟩ ⟨pm_P_blind hG, va_recv hT.2.1 hP hc (pm_w_at hk), fun U hU hW => ⟨by simp [pm_tr], pm_Tb.next hG hT hW (by rw [hU]; exact hS), by rw [hU]; exact hP⟩⟩ rfl (by rw [List.length_map]; exact hn) (by obtain ⟨l9, h9, -⟩ := hL; exact h9.1) (by simp [pm_tr]) (lv_room hcat) hd hab) hL k
theorem r_callS (pc : Nat) {y : MethodName} {bytes : ByteArray} {maxL fr lo n index : Nat} {rety : Option FieldType} (As : List Value) {stk : List Value} {Kv : Option Value → pm_I → Prop} (hC : pm_C G X cc nL own ret rm) (hd : decode cc pc = .ok (.invokestatic index, 3)) (hfr : fr + 1 ≤ rm.frames) (hlo : 8 + (maxL + 11) + lo ≤ rm.locals) (hcode : Cond.code y bytes maxL rety ∈ lw_tbl) (hini : Cond.initialized y.cls ∈ lw_tbl) (hy : y.cls ≠ "java/lang/invoke/MethodHandle" ∧ y.cls ≠ "java/lang/invoke/VarHandle" ∧ (parseMethodDescriptor y.desc).map (fun d => d.parameters.length) = some n)
    (hlink : Cond.methodLink own index y ∈ lw_tbl) (hstat : Cond.static y ∈ lw_tbl) (hn : As.length = n) (hst : As.reverse ++ st = stk) (hM : pm_Ct G (pm_l X) y bytes maxL rety { frames := fr, cells := 0, slots := 0, locals := lo } As I Kv)
    (hab : a ≤ rm.cells ∧ b ≤ rm.slots) (hw : (st.map fun v => v.category).sum ≤ 8) (k : ∀ v I', Kv v I' → pm_R G X nL a b (pc + 3) ls (v.toList ++ st) I') : pm_R G X nL a b pc ls stk I := by
  obtain ⟨p, l, e, R, s, m, args, below, meth, c, Q⟩ := X
  obtain ⟨hx, hb, -, hml, ho, -, hT, rfl, hG⟩ := hC
  intro H locs la hP hS hL
  subst hst
  have hcat : ((st.map (pm_tr G)).map fun v => v.category).sum ≤ 8 := by
    rw [List.map_map]
    have : ((fun v : Value => v.category) ∘ pm_tr G) = fun v : Value => v.category := funext fun v => pm_cat G v
    rw [this]; exact hw
  refine pm_after hS (va_runS (As := As.map (pm_tr G)) (rest := st.map (pm_tr G)) (Ts := []) (own := own) (index := index) ⟨hx, hb, hml, ho, fun w h => absurd h List.not_mem_nil⟩ hM ⟨⟨rfl, rfl, hfr, hlo, pm_pay hT.1 hcode, List.mem_singleton.mpr rfl, hT.1.use hcode rfl, hT.1.use hini rfl, ⟨hy.1, hy.2.1⟩, pm_npar hy.2.2, hT.1.use hlink rfl⟩, hT.1.use hstat rfl⟩ ⟨pm_P_blind hG, fun U hU hW => ⟨rfl, pm_Tb.next hG hT hW (by rw [hU]; exact hS), by rw [hU]; exact hP⟩⟩ rfl (by rw [List.length_map]; exact hn) (by obtain ⟨l9, h9, -⟩ := hL; exact h9.1) (by simp) (lv_room hcat) hd hab) hL k
theorem r_callVN (pc : Nat) {host : String} {y : MethodName} {bytes : ByteArray} {maxL fr lo n index : Nat} {rety : Option FieldType} {r : Nat} {Cn : String} {T9 : u_T} {N9 ci : Nat} (As : List Value) {stk : List Value} {Kv : Option Value → pm_I → Prop} (hC : pm_C G X cc nL own ret rm) (hk : pm_k G r (.inl ci)) (hc : vwCl[ci]? = some (Cn, T9, N9)) (hd : decode cc pc = .ok (.invokevirtual index, 3)) (hfr : fr + 1 ≤ rm.frames) (hlo : 8 + (maxL + 11) + lo ≤ rm.locals) (hcode : Cond.code y bytes maxL rety ∈ lw_tbl) (hini : Cond.initialized y.cls ∈ lw_tbl) (hy : y.cls ≠ "java/lang/invoke/MethodHandle" ∧ y.cls ≠ "java/lang/invoke/VarHandle" ∧ (parseMethodDescriptor y.desc).map (fun d => d.parameters.length) = some n)
    (hlink : Cond.methodLinkNest own index y host ∈ lw_tbl) (hinst : Cond.instanceMethod y ∈ lw_tbl) (hsel : Cond.selects Cn y y ∈ lw_tbl) (hn : As.length = n) (hst : As.reverse ++ .ref r :: st = stk) (hM : pm_Ct G (pm_l X) y bytes maxL rety { frames := fr, cells := 0, slots := 0, locals := lo } (.ref r :: As) I Kv)
    (hab : a ≤ rm.cells ∧ b ≤ rm.slots) (hw : (st.map fun v => v.category).sum ≤ 8) (k : ∀ v I', Kv v I' → pm_R G X nL a b (pc + 3) ls (v.toList ++ st) I') : pm_R G X nL a b pc ls stk I := by
  obtain ⟨p, l, e, R, s, m, args, below, meth, c, Q⟩ := X
  obtain ⟨hx, hb, -, hml, ho, -, hT, rfl, hG⟩ := hC
  intro H locs la hP hS hL
  subst hst
  have hcat : ((st.map (pm_tr G)).map fun v => v.category).sum ≤ 8 := by
    rw [List.map_map]
    have : ((fun v : Value => v.category) ∘ pm_tr G) = fun v : Value => v.category := funext fun v => pm_cat G v
    rw [this]; exact hw
  refine pm_after hS (va_runVN (C := Cn) (As := As.map (pm_tr G)) (rest := st.map (pm_tr G)) (b := pm_ad G r) (Ts := []) (own := own) (index := index) ⟨hx, hb, hml, ho, fun w h => absurd h List.not_mem_nil⟩ hM ⟨⟨⟨rfl, rfl, hfr, hlo, pm_pay hT.1 hcode, List.mem_singleton.mpr rfl⟩, hT.1.use hcode rfl, hT.1.use hini rfl, ⟨hy.1, hy.2.1⟩, pm_npar hy.2.2, hT.1.use hlink rfl⟩, hT.1.use hinst rfl, hT.1.use hsel rfl⟩ ⟨pm_P_blind hG, va_recv hT.2.1 hP hc (pm_w_at hk), fun U hU hW => ⟨by simp [pm_tr], pm_Tb.next hG hT hW (by rw [hU]; exact hS), by rw [hU]; exact hP⟩⟩ rfl (by rw [List.length_map]; exact hn) (by obtain ⟨l9, h9, -⟩ := hL; exact h9.1) (by simp [pm_tr]) (lv_room hcat) hd hab) hL k
theorem r_callSN (pc : Nat) {host : String} {y : MethodName} {bytes : ByteArray} {maxL fr lo n index : Nat} {rety : Option FieldType} (As : List Value) {stk : List Value} {Kv : Option Value → pm_I → Prop} (hC : pm_C G X cc nL own ret rm) (hd : decode cc pc = .ok (.invokestatic index, 3)) (hfr : fr + 1 ≤ rm.frames) (hlo : 8 + (maxL + 11) + lo ≤ rm.locals) (hcode : Cond.code y bytes maxL rety ∈ lw_tbl) (hini : Cond.initialized y.cls ∈ lw_tbl) (hy : y.cls ≠ "java/lang/invoke/MethodHandle" ∧ y.cls ≠ "java/lang/invoke/VarHandle" ∧ (parseMethodDescriptor y.desc).map (fun d => d.parameters.length) = some n)
    (hlink : Cond.methodLinkNest own index y host ∈ lw_tbl) (hstat : Cond.static y ∈ lw_tbl) (hn : As.length = n) (hst : As.reverse ++ st = stk) (hM : pm_Ct G (pm_l X) y bytes maxL rety { frames := fr, cells := 0, slots := 0, locals := lo } As I Kv)
    (hab : a ≤ rm.cells ∧ b ≤ rm.slots) (hw : (st.map fun v => v.category).sum ≤ 8) (k : ∀ v I', Kv v I' → pm_R G X nL a b (pc + 3) ls (v.toList ++ st) I') : pm_R G X nL a b pc ls stk I := by
  obtain ⟨p, l, e, R, s, m, args, below, meth, c, Q⟩ := X
  obtain ⟨hx, hb, -, hml, ho, -, hT, rfl, hG⟩ := hC
  intro H locs la hP hS hL
  subst hst
  have hcat : ((st.map (pm_tr G)).map fun v => v.category).sum ≤ 8 := by
    rw [List.map_map]
    have : ((fun v : Value => v.category) ∘ pm_tr G) = fun v : Value => v.category := funext fun v => pm_cat G v
    rw [this]; exact hw
  refine pm_after hS (va_runSN (As := As.map (pm_tr G)) (rest := st.map (pm_tr G)) (Ts := []) (own := own) (index := index) ⟨hx, hb, hml, ho, fun w h => absurd h List.not_mem_nil⟩ hM ⟨⟨⟨rfl, rfl, hfr, hlo, pm_pay hT.1 hcode, List.mem_singleton.mpr rfl⟩, hT.1.use hcode rfl, hT.1.use hini rfl, ⟨hy.1, hy.2.1⟩, pm_npar hy.2.2, hT.1.use hlink rfl⟩, hT.1.use hstat rfl, trivial⟩ ⟨pm_P_blind hG, fun U hU hW => ⟨rfl, pm_Tb.next hG hT hW (by rw [hU]; exact hS), by rw [hU]; exact hP⟩⟩ rfl (by rw [List.length_map]; exact hn) (by obtain ⟨l9, h9, -⟩ := hL; exact h9.1) (by simp) (lv_room hcat) hd hab) hL k
def pm_Ki (K : Int32 → pm_I → Prop) : Option Value → pm_I → Prop := fun v I => ∃ r, v = some (.int r) ∧ K r I
def pm_Kv (K : pm_I → Prop) : Option Value → pm_I → Prop := fun v I => v = none ∧ K I
def pm_Kr (K : Nat → pm_I → Prop) : Option Value → pm_I → Prop := fun v I => ∃ r, v = some (.ref r) ∧ K r I
theorem r_callV_i (pc : Nat) {y : MethodName} {bytes : ByteArray} {maxL fr lo n index : Nat} {rety : Option FieldType} {r : Nat} {Cn : String} {T9 : u_T} {N9 ci : Nat} (As st : List Value) {stk : List Value} {K : Int32 → pm_I → Prop} (hC : pm_C G X cc nL own ret rm) (hk : pm_k G r (.inl ci)) (hc : vwCl[ci]? = some (Cn, T9, N9)) (hd : decode cc pc = .ok (.invokevirtual index, 3)) (hfr : fr + 1 ≤ rm.frames) (hlo : 8 + (maxL + 11) + lo ≤ rm.locals) (hcode : Cond.code y bytes maxL rety ∈ lw_tbl) (hini : Cond.initialized y.cls ∈ lw_tbl) (hy : y.cls ≠ "java/lang/invoke/MethodHandle" ∧ y.cls ≠ "java/lang/invoke/VarHandle" ∧ (parseMethodDescriptor y.desc).map (fun d => d.parameters.length) = some n)
    (hlink : Cond.methodLink own index y ∈ lw_tbl) (hinst : Cond.instanceMethod y ∈ lw_tbl) (hsel : Cond.selects Cn y y ∈ lw_tbl) (hn : As.length = n) (hst : As.reverse ++ .ref r :: st = stk) (hM : pm_Ct G (pm_l X) y bytes maxL rety { frames := fr, cells := 0, slots := 0, locals := lo } (.ref r :: As) I (pm_Ki K))
    (hab : a ≤ rm.cells ∧ b ≤ rm.slots) (hw : (st.map fun v => v.category).sum ≤ 8) (k : ∀ r9 I1, K r9 I1 → pm_R G X nL a b (pc + 3) ls (.int r9 :: st) I1) : pm_R G X nL a b pc ls stk I :=
  r_callV pc As hC hk hc hd hfr hlo hcode hini hy hlink hinst hsel hn hst hM hab hw (by rintro _ I1 ⟨r9, rfl, h⟩; exact k r9 I1 h)
theorem r_callV_v (pc : Nat) {y : MethodName} {bytes : ByteArray} {maxL fr lo n index : Nat} {rety : Option FieldType} {r : Nat} {Cn : String} {T9 : u_T} {N9 ci : Nat} (As st : List Value) {stk : List Value} {K : pm_I → Prop} (hC : pm_C G X cc nL own ret rm) (hk : pm_k G r (.inl ci)) (hc : vwCl[ci]? = some (Cn, T9, N9)) (hd : decode cc pc = .ok (.invokevirtual index, 3)) (hfr : fr + 1 ≤ rm.frames) (hlo : 8 + (maxL + 11) + lo ≤ rm.locals) (hcode : Cond.code y bytes maxL rety ∈ lw_tbl) (hini : Cond.initialized y.cls ∈ lw_tbl) (hy : y.cls ≠ "java/lang/invoke/MethodHandle" ∧ y.cls ≠ "java/lang/invoke/VarHandle" ∧ (parseMethodDescriptor y.desc).map (fun d => d.parameters.length) = some n)
    (hlink : Cond.methodLink own index y ∈ lw_tbl) (hinst : Cond.instanceMethod y ∈ lw_tbl) (hsel : Cond.selects Cn y y ∈ lw_tbl) (hn : As.length = n) (hst : As.reverse ++ .ref r :: st = stk) (hM : pm_Ct G (pm_l X) y bytes maxL rety { frames := fr, cells := 0, slots := 0, locals := lo } (.ref r :: As) I (pm_Kv K))
    (hab : a ≤ rm.cells ∧ b ≤ rm.slots) (hw : (st.map fun v => v.category).sum ≤ 8) (k : ∀ I1, K I1 → pm_R G X nL a b (pc + 3) ls (st) I1) : pm_R G X nL a b pc ls stk I :=
  r_callV pc As hC hk hc hd hfr hlo hcode hini hy hlink hinst hsel hn hst hM hab hw (by rintro _ I1 ⟨rfl, h⟩; exact k I1 h)
theorem r_callS_i (pc : Nat) {y : MethodName} {bytes : ByteArray} {maxL fr lo n index : Nat} {rety : Option FieldType} (As st : List Value) {stk : List Value} {K : Int32 → pm_I → Prop} (hC : pm_C G X cc nL own ret rm) (hd : decode cc pc = .ok (.invokestatic index, 3)) (hfr : fr + 1 ≤ rm.frames) (hlo : 8 + (maxL + 11) + lo ≤ rm.locals) (hcode : Cond.code y bytes maxL rety ∈ lw_tbl) (hini : Cond.initialized y.cls ∈ lw_tbl) (hy : y.cls ≠ "java/lang/invoke/MethodHandle" ∧ y.cls ≠ "java/lang/invoke/VarHandle" ∧ (parseMethodDescriptor y.desc).map (fun d => d.parameters.length) = some n)
    (hlink : Cond.methodLink own index y ∈ lw_tbl) (hstat : Cond.static y ∈ lw_tbl) (hn : As.length = n) (hst : As.reverse ++ st = stk) (hM : pm_Ct G (pm_l X) y bytes maxL rety { frames := fr, cells := 0, slots := 0, locals := lo } As I (pm_Ki K))
    (hab : a ≤ rm.cells ∧ b ≤ rm.slots) (hw : (st.map fun v => v.category).sum ≤ 8) (k : ∀ r9 I1, K r9 I1 → pm_R G X nL a b (pc + 3) ls (.int r9 :: st) I1) : pm_R G X nL a b pc ls stk I :=
  r_callS pc As hC hd hfr hlo hcode hini hy hlink hstat hn hst hM hab hw (by rintro _ I1 ⟨r9, rfl, h⟩; exact k r9 I1 h)
theorem r_callS_v (pc : Nat) {y : MethodName} {bytes : ByteArray} {maxL fr lo n index : Nat} {rety : Option FieldType} (As st : List Value) {stk : List Value} {K : pm_I → Prop} (hC : pm_C G X cc nL own ret rm) (hd : decode cc pc = .ok (.invokestatic index, 3)) (hfr : fr + 1 ≤ rm.frames) (hlo : 8 + (maxL + 11) + lo ≤ rm.locals) (hcode : Cond.code y bytes maxL rety ∈ lw_tbl) (hini : Cond.initialized y.cls ∈ lw_tbl) (hy : y.cls ≠ "java/lang/invoke/MethodHandle" ∧ y.cls ≠ "java/lang/invoke/VarHandle" ∧ (parseMethodDescriptor y.desc).map (fun d => d.parameters.length) = some n)
    (hlink : Cond.methodLink own index y ∈ lw_tbl) (hstat : Cond.static y ∈ lw_tbl) (hn : As.length = n) (hst : As.reverse ++ st = stk) (hM : pm_Ct G (pm_l X) y bytes maxL rety { frames := fr, cells := 0, slots := 0, locals := lo } As I (pm_Kv K))
    (hab : a ≤ rm.cells ∧ b ≤ rm.slots) (hw : (st.map fun v => v.category).sum ≤ 8) (k : ∀ I1, K I1 → pm_R G X nL a b (pc + 3) ls (st) I1) : pm_R G X nL a b pc ls stk I :=
  r_callS pc As hC hd hfr hlo hcode hini hy hlink hstat hn hst hM hab hw (by rintro _ I1 ⟨rfl, h⟩; exact k I1 h)
theorem r_callVN_i (pc : Nat) {host : String} {y : MethodName} {bytes : ByteArray} {maxL fr lo n index : Nat} {rety : Option FieldType} {r : Nat} {Cn : String} {T9 : u_T} {N9 ci : Nat} (As st : List Value) {stk : List Value} {K : Int32 → pm_I → Prop} (hC : pm_C G X cc nL own ret rm) (hk : pm_k G r (.inl ci)) (hc : vwCl[ci]? = some (Cn, T9, N9)) (hd : decode cc pc = .ok (.invokevirtual index, 3)) (hfr : fr + 1 ≤ rm.frames) (hlo : 8 + (maxL + 11) + lo ≤ rm.locals) (hcode : Cond.code y bytes maxL rety ∈ lw_tbl) (hini : Cond.initialized y.cls ∈ lw_tbl) (hy : y.cls ≠ "java/lang/invoke/MethodHandle" ∧ y.cls ≠ "java/lang/invoke/VarHandle" ∧ (parseMethodDescriptor y.desc).map (fun d => d.parameters.length) = some n)
    (hlink : Cond.methodLinkNest own index y host ∈ lw_tbl) (hinst : Cond.instanceMethod y ∈ lw_tbl) (hsel : Cond.selects Cn y y ∈ lw_tbl) (hn : As.length = n) (hst : As.reverse ++ .ref r :: st = stk) (hM : pm_Ct G (pm_l X) y bytes maxL rety { frames := fr, cells := 0, slots := 0, locals := lo } (.ref r :: As) I (pm_Ki K))
    (hab : a ≤ rm.cells ∧ b ≤ rm.slots) (hw : (st.map fun v => v.category).sum ≤ 8) (k : ∀ r9 I1, K r9 I1 → pm_R G X nL a b (pc + 3) ls (.int r9 :: st) I1) : pm_R G X nL a b pc ls stk I :=
  r_callVN pc As hC hk hc hd hfr hlo hcode hini hy hlink hinst hsel hn hst hM hab hw (by rintro _ I1 ⟨r9, rfl, h⟩; exact k r9 I1 h)
theorem r_callVN_v (pc : Nat) {host : String} {y : MethodName} {bytes : ByteArray} {maxL fr lo n index : Nat} {rety : Option FieldType} {r : Nat} {Cn : String} {T9 : u_T} {N9 ci : Nat} (As st : List Value) {stk : List Value} {K : pm_I → Prop} (hC : pm_C G X cc nL own ret rm) (hk : pm_k G r (.inl ci)) (hc : vwCl[ci]? = some (Cn, T9, N9)) (hd : decode cc pc = .ok (.invokevirtual index, 3)) (hfr : fr + 1 ≤ rm.frames) (hlo : 8 + (maxL + 11) + lo ≤ rm.locals) (hcode : Cond.code y bytes maxL rety ∈ lw_tbl) (hini : Cond.initialized y.cls ∈ lw_tbl) (hy : y.cls ≠ "java/lang/invoke/MethodHandle" ∧ y.cls ≠ "java/lang/invoke/VarHandle" ∧ (parseMethodDescriptor y.desc).map (fun d => d.parameters.length) = some n)
    (hlink : Cond.methodLinkNest own index y host ∈ lw_tbl) (hinst : Cond.instanceMethod y ∈ lw_tbl) (hsel : Cond.selects Cn y y ∈ lw_tbl) (hn : As.length = n) (hst : As.reverse ++ .ref r :: st = stk) (hM : pm_Ct G (pm_l X) y bytes maxL rety { frames := fr, cells := 0, slots := 0, locals := lo } (.ref r :: As) I (pm_Kv K))
    (hab : a ≤ rm.cells ∧ b ≤ rm.slots) (hw : (st.map fun v => v.category).sum ≤ 8) (k : ∀ I1, K I1 → pm_R G X nL a b (pc + 3) ls (st) I1) : pm_R G X nL a b pc ls stk I :=
  r_callVN pc As hC hk hc hd hfr hlo hcode hini hy hlink hinst hsel hn hst hM hab hw (by rintro _ I1 ⟨rfl, h⟩; exact k I1 h)
theorem r_callSN_i (pc : Nat) {host : String} {y : MethodName} {bytes : ByteArray} {maxL fr lo n index : Nat} {rety : Option FieldType} (As st : List Value) {stk : List Value} {K : Int32 → pm_I → Prop} (hC : pm_C G X cc nL own ret rm) (hd : decode cc pc = .ok (.invokestatic index, 3)) (hfr : fr + 1 ≤ rm.frames) (hlo : 8 + (maxL + 11) + lo ≤ rm.locals) (hcode : Cond.code y bytes maxL rety ∈ lw_tbl) (hini : Cond.initialized y.cls ∈ lw_tbl) (hy : y.cls ≠ "java/lang/invoke/MethodHandle" ∧ y.cls ≠ "java/lang/invoke/VarHandle" ∧ (parseMethodDescriptor y.desc).map (fun d => d.parameters.length) = some n)
    (hlink : Cond.methodLinkNest own index y host ∈ lw_tbl) (hstat : Cond.static y ∈ lw_tbl) (hn : As.length = n) (hst : As.reverse ++ st = stk) (hM : pm_Ct G (pm_l X) y bytes maxL rety { frames := fr, cells := 0, slots := 0, locals := lo } As I (pm_Ki K))
    (hab : a ≤ rm.cells ∧ b ≤ rm.slots) (hw : (st.map fun v => v.category).sum ≤ 8) (k : ∀ r9 I1, K r9 I1 → pm_R G X nL a b (pc + 3) ls (.int r9 :: st) I1) : pm_R G X nL a b pc ls stk I :=
  r_callSN pc As hC hd hfr hlo hcode hini hy hlink hstat hn hst hM hab hw (by rintro _ I1 ⟨r9, rfl, h⟩; exact k r9 I1 h)
theorem r_callSN_v (pc : Nat) {host : String} {y : MethodName} {bytes : ByteArray} {maxL fr lo n index : Nat} {rety : Option FieldType} (As st : List Value) {stk : List Value} {K : pm_I → Prop} (hC : pm_C G X cc nL own ret rm) (hd : decode cc pc = .ok (.invokestatic index, 3)) (hfr : fr + 1 ≤ rm.frames) (hlo : 8 + (maxL + 11) + lo ≤ rm.locals) (hcode : Cond.code y bytes maxL rety ∈ lw_tbl) (hini : Cond.initialized y.cls ∈ lw_tbl) (hy : y.cls ≠ "java/lang/invoke/MethodHandle" ∧ y.cls ≠ "java/lang/invoke/VarHandle" ∧ (parseMethodDescriptor y.desc).map (fun d => d.parameters.length) = some n)
    (hlink : Cond.methodLinkNest own index y host ∈ lw_tbl) (hstat : Cond.static y ∈ lw_tbl) (hn : As.length = n) (hst : As.reverse ++ st = stk) (hM : pm_Ct G (pm_l X) y bytes maxL rety { frames := fr, cells := 0, slots := 0, locals := lo } As I (pm_Kv K))
    (hab : a ≤ rm.cells ∧ b ≤ rm.slots) (hw : (st.map fun v => v.category).sum ≤ 8) (k : ∀ I1, K I1 → pm_R G X nL a b (pc + 3) ls (st) I1) : pm_R G X nL a b pc ls stk I :=
  r_callSN pc As hC hd hfr hlo hcode hini hy hlink hstat hn hst hM hab hw (by rintro _ I1 ⟨rfl, h⟩; exact k I1 h)
def pm_cp (I : pm_I) (r0 r1 : Nat) (sp dp n : Nat) : pm_I := fun b => if b = r1 then va_cpy (I r0) (I r1) sp dp n else I b
theorem r_copy (pc : Nat) {n0 n1 r0 r1 index : Nat} {sp dp n : Int32} (hC : pm_C G X cc nL own ret rm) (hk0 : pm_k G r0 (.inr (0, n0))) (hk1 : pm_k G r1 (.inr (0, n1))) (hlink : Cond.methodLink own index arraycopyName ∈ lw_tbl) (hnat : Cond.native arraycopyName ∈ lw_tbl) (hstat : Cond.static arraycopyName ∈ lw_tbl) (hini : Cond.initialized "java/lang/System" ∈ lw_tbl)
    (h1 : ¬ sp < 0) (h2 : ¬ dp < 0) (h3 : ¬ n < 0) (h4 : sp.toNatClampNeg + n.toNatClampNeg ≤ n0) (h5 : dp.toNatClampNeg + n.toNatClampNeg ≤ n1) (hfr : 1 ≤ rm.frames) (hlo : 8 + (nativeFrameWords "java/lang/System" "arraycopy" 5 + 11) ≤ rm.locals) (hd : decode cc pc = .ok (.invokestatic index, 3)) (hw : (st.map fun v => v.category).sum ≤ 8)
    (k : ∀ I1, I1 = pm_cp I r0 r1 sp.toNatClampNeg dp.toNatClampNeg n.toNatClampNeg → pm_R G X nL a b (pc + 3) ls st I1) : pm_R G X nL a b pc ls (.int n :: .int dp :: .ref r1 :: .int sp :: .ref r0 :: st) I := by
  obtain ⟨p, l, e, R, s, m, args, below, meth, c, Q⟩ := X
  obtain ⟨hx, hb, -, hml, ho, -, hT, rfl, hG⟩ := hC
  intro H locs la hP hS hL
  have hcat : ((st.map (pm_tr G)).map fun v => v.category).sum ≤ 8 := by
    rw [List.map_map]
    have : ((fun v : Value => v.category) ∘ pm_tr G) = fun v : Value => v.category := funext fun v => pm_cat G v
    rw [this]; exact hw
  have hsz : c.maxLocals = la.size := by obtain ⟨l9, h9, -⟩ := hL; rw [hml]; exact h9.1.symm
  refine va_copyi hx hb hsz ho (hT.1.use hlink rfl) (hT.1.use hnat rfl) (hT.1.use hstat rfl) (hT.1.use hini rfl) hT.2.1 hP (pm_va_D hG I) hS (r0 - 1) (r1 - 1) 0 0 (pm_w_at hk0) (pm_w_at hk1) (pm_t0 G) (pm_t0 G) rfl h1 h2 h3 h4 h5 (fun _ _ => rfl) hfr (by omega) hd (fun H1 locs1 hP1 _ hS1 => ?_)
  rw [pm_w_set (I' := pm_cp I r0 r1 sp.toNatClampNeg dp.toNatClampNeg n.toNatClampNeg) hk1 (by unfold pm_cp; rw [if_pos rfl]; rfl) (fun b h => by unfold pm_cp; rw [if_neg h])] at hP1
  exact k _ rfl H1 locs1 la hP1 hS1 hL
theorem pm_nz {x : Int32} (h : x = 0 ∨ x = 1) : narrow .boolean (.int x) = .int x ∧ fits .boolean (.int x) = true := by rcases h with rfl | rfl <;> exact ⟨rfl, rfl⟩
theorem pm_s0 {r : Nat} (hG : pm_ok G) (h : pm_k G r (.inl 0)) : pm_k G (r + 1) (.inr (5, 10)) := hG.2.2.2 _ _ h
theorem pm_s1 {r : Nat} (hG : pm_ok G) (h : pm_k G r (.inl 1)) : pm_k G (r + 1) (.inr (0, 8)) ∧ pm_k G (r + 2) (.inr (0, 8)) ∧ pm_k G (r + 3) (.inr (0, 64)) ∧ pm_k G (r + 4) (.inr (0, 8)) ∧ pm_k G (r + 5) (.inl 3) := hG.2.2.2 _ _ h
theorem pm_s2 {r : Nat} (hG : pm_ok G) (h : pm_k G r (.inl 2)) : pm_k G 2 (.inr (1, 600)) := hG.2.2.2 _ _ h
theorem pm_s3 {r : Nat} (hG : pm_ok G) (h : pm_k G r (.inl 3)) : pm_k G (r + 1) (.inr (0, 600)) ∧ pm_k G (r + 2) (.inr (0, 16)) := hG.2.2.2 _ _ h
theorem pm_s4 {r : Nat} (hG : pm_ok G) (h : pm_k G r (.inl 4)) : pm_k G (r + 1) (.inr (0, 24)) ∧ pm_k G (r + 2) (.inr (0, 24)) ∧ pm_k G (r + 3) (.inr (0, 24)) ∧ pm_k G (r + 4) (.inr (0, 24)) := hG.2.2.2 _ _ h
theorem pm_s5 {r : Nat} (hG : pm_ok G) (h : pm_k G r (.inl 5)) : pm_k G (r + 1) (.inr (0, 8)) ∧ pm_k G (r + 2) (.inr (0, 8)) ∧ pm_k G (r + 3) (.inr (4, 6)) := hG.2.2.2 _ _ h
theorem pm_s6 {r : Nat} (hG : pm_ok G) (h : pm_k G r (.inl 6)) : pm_k G (r + 1) (.inr (1, 600)) ∧ pm_k G (r + 18) (.inl 5) ∧ pm_k G (r + 52) (.inl 5) ∧ pm_k G (r + 86) (.inl 0) ∧ pm_k G (r + 428) (.inr (5, 2)) ∧ pm_k G (r + 497) (.inr (2, 2)) := hG.2.2.2 _ _ h
theorem pm_s7 {r : Nat} (hG : pm_ok G) (h : pm_k G r (.inl 7)) : pm_k G (r + 1) (.inr (0, 821)) ∧ pm_k G (r + 2) (.inr (0, 8)) ∧ pm_k G (r + 3) (.inr (0, 16)) ∧ pm_k G (r + 4) (.inr (0, 16)) ∧ pm_k G (r + 5) (.inr (0, 128)) ∧ pm_k G (r + 6) (.inr (0, 16)) ∧ pm_k G (r + 7) (.inr (0, 2)) ∧ pm_k G (r + 8) (.inr (0, 1240)) ∧ pm_k G (r + 9) (.inr (1, 600)) ∧ pm_k G (r + 10) (.inr (0, 40)) ∧ pm_k G (r + 11) (.inr (0, 6)) ∧ pm_k G (r + 12) (.inr (0, 821)) ∧ pm_k G (r + 13) (.inr (0, 8210)) ∧ pm_k G (r + 14) (.inr (0, 1642)) ∧ pm_k G (r + 15) (.inr (2, 2)) := hG.2.2.2 _ _ h
theorem pm_vlt {i : Int32} {n : Nat} (h : vp_in i n) : i.toNatClampNeg < n := Nat.not_le.mp fun q => h (Or.inr q)
theorem pm_sa4 {r n : Nat} {i : Int32} (hG : pm_ok G) (h : pm_k G r (.inr (4, n))) (hi : vp_in i n) : pm_k G (r + 1 + 5 * i.toNatClampNeg) (.inl 4) := (hG.2.2.2 _ _ h : ∀ j, j < n → pm_k G (r + 1 + 5 * j) (.inl 4)) _ (pm_vlt hi)
theorem pm_sa5 {r n : Nat} {i : Int32} (hG : pm_ok G) (h : pm_k G r (.inr (5, n))) (hi : vp_in i n) : pm_k G (r + 1 + 34 * i.toNatClampNeg) (.inl 5) := (hG.2.2.2 _ _ h : ∀ j, j < n → pm_k G (r + 1 + 34 * j) (.inl 5)) _ (pm_vlt hi)
theorem pm_gi0 : GoodIn lw_tbl (u_ws RX0 TX0 3) := goodIn_r _ [355, 357, 359] (by decide +kernel) (by decide +kernel)
theorem pm_in0 : ∀ w ∈ u_ws RX0 TX0 3, w ∈ lw_tbl := fun w h => (pm_gi0 w h).1
theorem pm_ig0 : (u_ws RX0 TX0 3).all goodWord = true := by decide +kernel
theorem r_getI0 (pc : Nat) {index : Nat} {r : Nat} {x : Int32} (hC : pm_C G X cc nL own ret rm) (hk : pm_k G r (.inl 0)) (k0 : Nat) (hk0 : k0 < 3) (hlink : Cond.fieldLink own index RX0 (TX0 k0).2.1 (TX0 k0).2.2.1 ∈ lw_tbl) (href : RX0 = (TX0 k0).1) (hv : (pm_fs (pm_ad G) 0 r (I r))[k0]? = some (.int x)) (hd : decode cc pc = .ok (.getfield index, 3)) (k : pm_R G X nL a b (pc + 3) ls (.int x :: st) I) : pm_R G X nL a b pc ls (.ref r :: st) I :=
  r_get (v := .int x) pc hC hk rfl pm_in0 pm_ig0 k0 hk0 hlink href hv hd k
theorem r_getR0 (pc : Nat) {index : Nat} {r r1 : Nat} (hC : pm_C G X cc nL own ret rm) (hk : pm_k G r (.inl 0)) (k0 : Nat) (hk0 : k0 < 3) (hlink : Cond.fieldLink own index RX0 (TX0 k0).2.1 (TX0 k0).2.2.1 ∈ lw_tbl) (href : RX0 = (TX0 k0).1) (hv : (pm_fs (pm_ad G) 0 r (I r))[k0]? = some (.ref (pm_ad G r1))) (hd : decode cc pc = .ok (.getfield index, 3)) (k : pm_R G X nL a b (pc + 3) ls (.ref r1 :: st) I) : pm_R G X nL a b pc ls (.ref r :: st) I :=
  r_get (v := .ref r1) pc hC hk rfl pm_in0 pm_ig0 k0 hk0 hlink href hv hd k
theorem r_putI0 (pc : Nat) {index : Nat} {r : Nat} {x : Int32} (hC : pm_C G X cc nL own ret rm) (hk : pm_k G r (.inl 0)) (k0 : Nat) (hk0 : k0 < 3) (hlink : Cond.fieldLink own index RX0 (TX0 k0).2.1 (TX0 k0).2.2.1 ∈ lw_tbl) (href : RX0 = (TX0 k0).1) (hfin : (TX0 k0).2.2.2 = false) (hde : parseFieldDescriptor (TX0 k0).2.2.1 = some .int) (hset : ∀ (ad : Nat → Nat) (r : Nat) (f : Nat → Int32) (x : Int32), (pm_fs ad 0 r f).length = 3 ∧ (pm_fs ad 0 r f).set k0 (.int x) = pm_fs ad 0 r (upd f k0 x)) (hd : decode cc pc = .ok (.putfield index, 3)) (k : ∀ I1, I1 = pm_up I r k0 x → pm_R G X nL a b (pc + 3) ls st I1) : pm_R G X nL a b pc ls (.int x :: .ref r :: st) I :=
  r_put (v := .int x) (j := k0) (x := x) pc hC hk rfl pm_in0 pm_ig0 tyX0 tyX0_ok nmX0 k0 hk0 hlink href hfin hde rfl rfl (by rw [(hset (pm_ad G) r (I r) x).1]; exact hk0) (hset (pm_ad G) r (I r) x).2 hd k
theorem r_getIN0 (pc : Nat) {host : String} {index : Nat} {r : Nat} {x : Int32} (hC : pm_C G X cc nL own ret rm) (hk : pm_k G r (.inl 0)) (k0 : Nat) (hk0 : k0 < 3) (hlink : Cond.fieldLinkNest own index RX0 (TX0 k0).2.1 (TX0 k0).2.2.1 host ∈ lw_tbl) (href : RX0 = (TX0 k0).1) (hv : (pm_fs (pm_ad G) 0 r (I r))[k0]? = some (.int x)) (hd : decode cc pc = .ok (.getfield index, 3)) (k : pm_R G X nL a b (pc + 3) ls (.int x :: st) I) : pm_R G X nL a b pc ls (.ref r :: st) I :=
  r_getN (v := .int x) pc hC hk rfl pm_in0 pm_ig0 k0 hk0 hlink href hv hd k
theorem r_getRN0 (pc : Nat) {host : String} {index : Nat} {r r1 : Nat} (hC : pm_C G X cc nL own ret rm) (hk : pm_k G r (.inl 0)) (k0 : Nat) (hk0 : k0 < 3) (hlink : Cond.fieldLinkNest own index RX0 (TX0 k0).2.1 (TX0 k0).2.2.1 host ∈ lw_tbl) (href : RX0 = (TX0 k0).1) (hv : (pm_fs (pm_ad G) 0 r (I r))[k0]? = some (.ref (pm_ad G r1))) (hd : decode cc pc = .ok (.getfield index, 3)) (k : pm_R G X nL a b (pc + 3) ls (.ref r1 :: st) I) : pm_R G X nL a b pc ls (.ref r :: st) I :=
  r_getN (v := .ref r1) pc hC hk rfl pm_in0 pm_ig0 k0 hk0 hlink href hv hd k
theorem r_putIN0 (pc : Nat) {host : String} {index : Nat} {r : Nat} {x : Int32} (hC : pm_C G X cc nL own ret rm) (hk : pm_k G r (.inl 0)) (k0 : Nat) (hk0 : k0 < 3) (hlink : Cond.fieldLinkNest own index RX0 (TX0 k0).2.1 (TX0 k0).2.2.1 host ∈ lw_tbl) (href : RX0 = (TX0 k0).1) (hfin : (TX0 k0).2.2.2 = false) (hde : parseFieldDescriptor (TX0 k0).2.2.1 = some .int) (hset : ∀ (ad : Nat → Nat) (r : Nat) (f : Nat → Int32) (x : Int32), (pm_fs ad 0 r f).length = 3 ∧ (pm_fs ad 0 r f).set k0 (.int x) = pm_fs ad 0 r (upd f k0 x)) (hd : decode cc pc = .ok (.putfield index, 3)) (k : ∀ I1, I1 = pm_up I r k0 x → pm_R G X nL a b (pc + 3) ls st I1) : pm_R G X nL a b pc ls (.int x :: .ref r :: st) I :=
  r_putN (v := .int x) (j := k0) (x := x) pc hC hk rfl pm_in0 pm_ig0 tyX0 tyX0_ok nmX0 k0 hk0 hlink href hfin hde rfl rfl (by rw [(hset (pm_ad G) r (I r) x).1]; exact hk0) (hset (pm_ad G) r (I r) x).2 hd k
theorem pm_gi1 : GoodIn lw_tbl (u_ws RX1 TX1 9) := goodIn_r _ [223, 225, 227, 229, 231, 233, 235, 237, 239] (by decide +kernel) (by decide +kernel)
theorem pm_in1 : ∀ w ∈ u_ws RX1 TX1 9, w ∈ lw_tbl := fun w h => (pm_gi1 w h).1
theorem pm_ig1 : (u_ws RX1 TX1 9).all goodWord = true := by decide +kernel
theorem r_getI1 (pc : Nat) {index : Nat} {r : Nat} {x : Int32} (hC : pm_C G X cc nL own ret rm) (hk : pm_k G r (.inl 1)) (k0 : Nat) (hk0 : k0 < 9) (hlink : Cond.fieldLink own index RX1 (TX1 k0).2.1 (TX1 k0).2.2.1 ∈ lw_tbl) (href : RX1 = (TX1 k0).1) (hv : (pm_fs (pm_ad G) 1 r (I r))[k0]? = some (.int x)) (hd : decode cc pc = .ok (.getfield index, 3)) (k : pm_R G X nL a b (pc + 3) ls (.int x :: st) I) : pm_R G X nL a b pc ls (.ref r :: st) I :=
  r_get (v := .int x) pc hC hk rfl pm_in1 pm_ig1 k0 hk0 hlink href hv hd k
theorem r_getR1 (pc : Nat) {index : Nat} {r r1 : Nat} (hC : pm_C G X cc nL own ret rm) (hk : pm_k G r (.inl 1)) (k0 : Nat) (hk0 : k0 < 9) (hlink : Cond.fieldLink own index RX1 (TX1 k0).2.1 (TX1 k0).2.2.1 ∈ lw_tbl) (href : RX1 = (TX1 k0).1) (hv : (pm_fs (pm_ad G) 1 r (I r))[k0]? = some (.ref (pm_ad G r1))) (hd : decode cc pc = .ok (.getfield index, 3)) (k : pm_R G X nL a b (pc + 3) ls (.ref r1 :: st) I) : pm_R G X nL a b pc ls (.ref r :: st) I :=
  r_get (v := .ref r1) pc hC hk rfl pm_in1 pm_ig1 k0 hk0 hlink href hv hd k
theorem r_putI1 (pc : Nat) {index : Nat} {r : Nat} {x : Int32} (hC : pm_C G X cc nL own ret rm) (hk : pm_k G r (.inl 1)) (k0 : Nat) (hk0 : k0 < 9) (hlink : Cond.fieldLink own index RX1 (TX1 k0).2.1 (TX1 k0).2.2.1 ∈ lw_tbl) (href : RX1 = (TX1 k0).1) (hfin : (TX1 k0).2.2.2 = false) (hde : parseFieldDescriptor (TX1 k0).2.2.1 = some .int) (hset : ∀ (ad : Nat → Nat) (r : Nat) (f : Nat → Int32) (x : Int32), (pm_fs ad 1 r f).length = 9 ∧ (pm_fs ad 1 r f).set k0 (.int x) = pm_fs ad 1 r (upd f k0 x)) (hd : decode cc pc = .ok (.putfield index, 3)) (k : ∀ I1, I1 = pm_up I r k0 x → pm_R G X nL a b (pc + 3) ls st I1) : pm_R G X nL a b pc ls (.int x :: .ref r :: st) I :=
  r_put (v := .int x) (j := k0) (x := x) pc hC hk rfl pm_in1 pm_ig1 tyX1 tyX1_ok nmX1 k0 hk0 hlink href hfin hde rfl rfl (by rw [(hset (pm_ad G) r (I r) x).1]; exact hk0) (hset (pm_ad G) r (I r) x).2 hd k
theorem r_getIN1 (pc : Nat) {host : String} {index : Nat} {r : Nat} {x : Int32} (hC : pm_C G X cc nL own ret rm) (hk : pm_k G r (.inl 1)) (k0 : Nat) (hk0 : k0 < 9) (hlink : Cond.fieldLinkNest own index RX1 (TX1 k0).2.1 (TX1 k0).2.2.1 host ∈ lw_tbl) (href : RX1 = (TX1 k0).1) (hv : (pm_fs (pm_ad G) 1 r (I r))[k0]? = some (.int x)) (hd : decode cc pc = .ok (.getfield index, 3)) (k : pm_R G X nL a b (pc + 3) ls (.int x :: st) I) : pm_R G X nL a b pc ls (.ref r :: st) I :=
  r_getN (v := .int x) pc hC hk rfl pm_in1 pm_ig1 k0 hk0 hlink href hv hd k
theorem r_getRN1 (pc : Nat) {host : String} {index : Nat} {r r1 : Nat} (hC : pm_C G X cc nL own ret rm) (hk : pm_k G r (.inl 1)) (k0 : Nat) (hk0 : k0 < 9) (hlink : Cond.fieldLinkNest own index RX1 (TX1 k0).2.1 (TX1 k0).2.2.1 host ∈ lw_tbl) (href : RX1 = (TX1 k0).1) (hv : (pm_fs (pm_ad G) 1 r (I r))[k0]? = some (.ref (pm_ad G r1))) (hd : decode cc pc = .ok (.getfield index, 3)) (k : pm_R G X nL a b (pc + 3) ls (.ref r1 :: st) I) : pm_R G X nL a b pc ls (.ref r :: st) I :=
  r_getN (v := .ref r1) pc hC hk rfl pm_in1 pm_ig1 k0 hk0 hlink href hv hd k
theorem r_putIN1 (pc : Nat) {host : String} {index : Nat} {r : Nat} {x : Int32} (hC : pm_C G X cc nL own ret rm) (hk : pm_k G r (.inl 1)) (k0 : Nat) (hk0 : k0 < 9) (hlink : Cond.fieldLinkNest own index RX1 (TX1 k0).2.1 (TX1 k0).2.2.1 host ∈ lw_tbl) (href : RX1 = (TX1 k0).1) (hfin : (TX1 k0).2.2.2 = false) (hde : parseFieldDescriptor (TX1 k0).2.2.1 = some .int) (hset : ∀ (ad : Nat → Nat) (r : Nat) (f : Nat → Int32) (x : Int32), (pm_fs ad 1 r f).length = 9 ∧ (pm_fs ad 1 r f).set k0 (.int x) = pm_fs ad 1 r (upd f k0 x)) (hd : decode cc pc = .ok (.putfield index, 3)) (k : ∀ I1, I1 = pm_up I r k0 x → pm_R G X nL a b (pc + 3) ls st I1) : pm_R G X nL a b pc ls (.int x :: .ref r :: st) I :=
  r_putN (v := .int x) (j := k0) (x := x) pc hC hk rfl pm_in1 pm_ig1 tyX1 tyX1_ok nmX1 k0 hk0 hlink href hfin hde rfl rfl (by rw [(hset (pm_ad G) r (I r) x).1]; exact hk0) (hset (pm_ad G) r (I r) x).2 hd k
theorem pm_gi2 : GoodIn lw_tbl (u_ws RX2 TX2 10) := goodIn_r _ [530, 532, 534, 536, 538, 540, 542, 544, 546, 548] (by decide +kernel) (by decide +kernel)
theorem pm_in2 : ∀ w ∈ u_ws RX2 TX2 10, w ∈ lw_tbl := fun w h => (pm_gi2 w h).1
theorem pm_ig2 : (u_ws RX2 TX2 10).all goodWord = true := by decide +kernel
theorem r_getI2 (pc : Nat) {index : Nat} {r : Nat} {x : Int32} (hC : pm_C G X cc nL own ret rm) (hk : pm_k G r (.inl 2)) (k0 : Nat) (hk0 : k0 < 10) (hlink : Cond.fieldLink own index RX2 (TX2 k0).2.1 (TX2 k0).2.2.1 ∈ lw_tbl) (href : RX2 = (TX2 k0).1) (hv : (pm_fs (pm_ad G) 2 r (I r))[k0]? = some (.int x)) (hd : decode cc pc = .ok (.getfield index, 3)) (k : pm_R G X nL a b (pc + 3) ls (.int x :: st) I) : pm_R G X nL a b pc ls (.ref r :: st) I :=
  r_get (v := .int x) pc hC hk rfl pm_in2 pm_ig2 k0 hk0 hlink href hv hd k
theorem r_getR2 (pc : Nat) {index : Nat} {r r1 : Nat} (hC : pm_C G X cc nL own ret rm) (hk : pm_k G r (.inl 2)) (k0 : Nat) (hk0 : k0 < 10) (hlink : Cond.fieldLink own index RX2 (TX2 k0).2.1 (TX2 k0).2.2.1 ∈ lw_tbl) (href : RX2 = (TX2 k0).1) (hv : (pm_fs (pm_ad G) 2 r (I r))[k0]? = some (.ref (pm_ad G r1))) (hd : decode cc pc = .ok (.getfield index, 3)) (k : pm_R G X nL a b (pc + 3) ls (.ref r1 :: st) I) : pm_R G X nL a b pc ls (.ref r :: st) I :=
  r_get (v := .ref r1) pc hC hk rfl pm_in2 pm_ig2 k0 hk0 hlink href hv hd k
theorem r_putI2 (pc : Nat) {index : Nat} {r : Nat} {x : Int32} (hC : pm_C G X cc nL own ret rm) (hk : pm_k G r (.inl 2)) (k0 : Nat) (hk0 : k0 < 10) (hlink : Cond.fieldLink own index RX2 (TX2 k0).2.1 (TX2 k0).2.2.1 ∈ lw_tbl) (href : RX2 = (TX2 k0).1) (hfin : (TX2 k0).2.2.2 = false) (hde : parseFieldDescriptor (TX2 k0).2.2.1 = some .int) (hset : ∀ (ad : Nat → Nat) (r : Nat) (f : Nat → Int32) (x : Int32), (pm_fs ad 2 r f).length = 10 ∧ (pm_fs ad 2 r f).set k0 (.int x) = pm_fs ad 2 r (upd f k0 x)) (hd : decode cc pc = .ok (.putfield index, 3)) (k : ∀ I1, I1 = pm_up I r k0 x → pm_R G X nL a b (pc + 3) ls st I1) : pm_R G X nL a b pc ls (.int x :: .ref r :: st) I :=
  r_put (v := .int x) (j := k0) (x := x) pc hC hk rfl pm_in2 pm_ig2 tyX2 tyX2_ok nmX2 k0 hk0 hlink href hfin hde rfl rfl (by rw [(hset (pm_ad G) r (I r) x).1]; exact hk0) (hset (pm_ad G) r (I r) x).2 hd k
theorem r_getIN2 (pc : Nat) {host : String} {index : Nat} {r : Nat} {x : Int32} (hC : pm_C G X cc nL own ret rm) (hk : pm_k G r (.inl 2)) (k0 : Nat) (hk0 : k0 < 10) (hlink : Cond.fieldLinkNest own index RX2 (TX2 k0).2.1 (TX2 k0).2.2.1 host ∈ lw_tbl) (href : RX2 = (TX2 k0).1) (hv : (pm_fs (pm_ad G) 2 r (I r))[k0]? = some (.int x)) (hd : decode cc pc = .ok (.getfield index, 3)) (k : pm_R G X nL a b (pc + 3) ls (.int x :: st) I) : pm_R G X nL a b pc ls (.ref r :: st) I :=
  r_getN (v := .int x) pc hC hk rfl pm_in2 pm_ig2 k0 hk0 hlink href hv hd k
theorem r_getRN2 (pc : Nat) {host : String} {index : Nat} {r r1 : Nat} (hC : pm_C G X cc nL own ret rm) (hk : pm_k G r (.inl 2)) (k0 : Nat) (hk0 : k0 < 10) (hlink : Cond.fieldLinkNest own index RX2 (TX2 k0).2.1 (TX2 k0).2.2.1 host ∈ lw_tbl) (href : RX2 = (TX2 k0).1) (hv : (pm_fs (pm_ad G) 2 r (I r))[k0]? = some (.ref (pm_ad G r1))) (hd : decode cc pc = .ok (.getfield index, 3)) (k : pm_R G X nL a b (pc + 3) ls (.ref r1 :: st) I) : pm_R G X nL a b pc ls (.ref r :: st) I :=
  r_getN (v := .ref r1) pc hC hk rfl pm_in2 pm_ig2 k0 hk0 hlink href hv hd k
theorem r_putIN2 (pc : Nat) {host : String} {index : Nat} {r : Nat} {x : Int32} (hC : pm_C G X cc nL own ret rm) (hk : pm_k G r (.inl 2)) (k0 : Nat) (hk0 : k0 < 10) (hlink : Cond.fieldLinkNest own index RX2 (TX2 k0).2.1 (TX2 k0).2.2.1 host ∈ lw_tbl) (href : RX2 = (TX2 k0).1) (hfin : (TX2 k0).2.2.2 = false) (hde : parseFieldDescriptor (TX2 k0).2.2.1 = some .int) (hset : ∀ (ad : Nat → Nat) (r : Nat) (f : Nat → Int32) (x : Int32), (pm_fs ad 2 r f).length = 10 ∧ (pm_fs ad 2 r f).set k0 (.int x) = pm_fs ad 2 r (upd f k0 x)) (hd : decode cc pc = .ok (.putfield index, 3)) (k : ∀ I1, I1 = pm_up I r k0 x → pm_R G X nL a b (pc + 3) ls st I1) : pm_R G X nL a b pc ls (.int x :: .ref r :: st) I :=
  r_putN (v := .int x) (j := k0) (x := x) pc hC hk rfl pm_in2 pm_ig2 tyX2 tyX2_ok nmX2 k0 hk0 hlink href hfin hde rfl rfl (by rw [(hset (pm_ad G) r (I r) x).1]; exact hk0) (hset (pm_ad G) r (I r) x).2 hd k
theorem pm_gi3 : GoodIn lw_tbl (u_ws RX3 TX3 4) := goodIn_r _ [174, 176, 178, 180] (by decide +kernel) (by decide +kernel)
theorem pm_in3 : ∀ w ∈ u_ws RX3 TX3 4, w ∈ lw_tbl := fun w h => (pm_gi3 w h).1
theorem pm_ig3 : (u_ws RX3 TX3 4).all goodWord = true := by decide +kernel
theorem r_getI3 (pc : Nat) {index : Nat} {r : Nat} {x : Int32} (hC : pm_C G X cc nL own ret rm) (hk : pm_k G r (.inl 3)) (k0 : Nat) (hk0 : k0 < 4) (hlink : Cond.fieldLink own index RX3 (TX3 k0).2.1 (TX3 k0).2.2.1 ∈ lw_tbl) (href : RX3 = (TX3 k0).1) (hv : (pm_fs (pm_ad G) 3 r (I r))[k0]? = some (.int x)) (hd : decode cc pc = .ok (.getfield index, 3)) (k : pm_R G X nL a b (pc + 3) ls (.int x :: st) I) : pm_R G X nL a b pc ls (.ref r :: st) I :=
  r_get (v := .int x) pc hC hk rfl pm_in3 pm_ig3 k0 hk0 hlink href hv hd k
theorem r_getR3 (pc : Nat) {index : Nat} {r r1 : Nat} (hC : pm_C G X cc nL own ret rm) (hk : pm_k G r (.inl 3)) (k0 : Nat) (hk0 : k0 < 4) (hlink : Cond.fieldLink own index RX3 (TX3 k0).2.1 (TX3 k0).2.2.1 ∈ lw_tbl) (href : RX3 = (TX3 k0).1) (hv : (pm_fs (pm_ad G) 3 r (I r))[k0]? = some (.ref (pm_ad G r1))) (hd : decode cc pc = .ok (.getfield index, 3)) (k : pm_R G X nL a b (pc + 3) ls (.ref r1 :: st) I) : pm_R G X nL a b pc ls (.ref r :: st) I :=
  r_get (v := .ref r1) pc hC hk rfl pm_in3 pm_ig3 k0 hk0 hlink href hv hd k
theorem r_putI3 (pc : Nat) {index : Nat} {r : Nat} {x : Int32} (hC : pm_C G X cc nL own ret rm) (hk : pm_k G r (.inl 3)) (k0 : Nat) (hk0 : k0 < 4) (hlink : Cond.fieldLink own index RX3 (TX3 k0).2.1 (TX3 k0).2.2.1 ∈ lw_tbl) (href : RX3 = (TX3 k0).1) (hfin : (TX3 k0).2.2.2 = false) (hde : parseFieldDescriptor (TX3 k0).2.2.1 = some .int) (hset : ∀ (ad : Nat → Nat) (r : Nat) (f : Nat → Int32) (x : Int32), (pm_fs ad 3 r f).length = 4 ∧ (pm_fs ad 3 r f).set k0 (.int x) = pm_fs ad 3 r (upd f k0 x)) (hd : decode cc pc = .ok (.putfield index, 3)) (k : ∀ I1, I1 = pm_up I r k0 x → pm_R G X nL a b (pc + 3) ls st I1) : pm_R G X nL a b pc ls (.int x :: .ref r :: st) I :=
  r_put (v := .int x) (j := k0) (x := x) pc hC hk rfl pm_in3 pm_ig3 tyX3 tyX3_ok nmX3 k0 hk0 hlink href hfin hde rfl rfl (by rw [(hset (pm_ad G) r (I r) x).1]; exact hk0) (hset (pm_ad G) r (I r) x).2 hd k
theorem r_getIN3 (pc : Nat) {host : String} {index : Nat} {r : Nat} {x : Int32} (hC : pm_C G X cc nL own ret rm) (hk : pm_k G r (.inl 3)) (k0 : Nat) (hk0 : k0 < 4) (hlink : Cond.fieldLinkNest own index RX3 (TX3 k0).2.1 (TX3 k0).2.2.1 host ∈ lw_tbl) (href : RX3 = (TX3 k0).1) (hv : (pm_fs (pm_ad G) 3 r (I r))[k0]? = some (.int x)) (hd : decode cc pc = .ok (.getfield index, 3)) (k : pm_R G X nL a b (pc + 3) ls (.int x :: st) I) : pm_R G X nL a b pc ls (.ref r :: st) I :=
  r_getN (v := .int x) pc hC hk rfl pm_in3 pm_ig3 k0 hk0 hlink href hv hd k
theorem r_getRN3 (pc : Nat) {host : String} {index : Nat} {r r1 : Nat} (hC : pm_C G X cc nL own ret rm) (hk : pm_k G r (.inl 3)) (k0 : Nat) (hk0 : k0 < 4) (hlink : Cond.fieldLinkNest own index RX3 (TX3 k0).2.1 (TX3 k0).2.2.1 host ∈ lw_tbl) (href : RX3 = (TX3 k0).1) (hv : (pm_fs (pm_ad G) 3 r (I r))[k0]? = some (.ref (pm_ad G r1))) (hd : decode cc pc = .ok (.getfield index, 3)) (k : pm_R G X nL a b (pc + 3) ls (.ref r1 :: st) I) : pm_R G X nL a b pc ls (.ref r :: st) I :=
  r_getN (v := .ref r1) pc hC hk rfl pm_in3 pm_ig3 k0 hk0 hlink href hv hd k
theorem r_putIN3 (pc : Nat) {host : String} {index : Nat} {r : Nat} {x : Int32} (hC : pm_C G X cc nL own ret rm) (hk : pm_k G r (.inl 3)) (k0 : Nat) (hk0 : k0 < 4) (hlink : Cond.fieldLinkNest own index RX3 (TX3 k0).2.1 (TX3 k0).2.2.1 host ∈ lw_tbl) (href : RX3 = (TX3 k0).1) (hfin : (TX3 k0).2.2.2 = false) (hde : parseFieldDescriptor (TX3 k0).2.2.1 = some .int) (hset : ∀ (ad : Nat → Nat) (r : Nat) (f : Nat → Int32) (x : Int32), (pm_fs ad 3 r f).length = 4 ∧ (pm_fs ad 3 r f).set k0 (.int x) = pm_fs ad 3 r (upd f k0 x)) (hd : decode cc pc = .ok (.putfield index, 3)) (k : ∀ I1, I1 = pm_up I r k0 x → pm_R G X nL a b (pc + 3) ls st I1) : pm_R G X nL a b pc ls (.int x :: .ref r :: st) I :=
  r_putN (v := .int x) (j := k0) (x := x) pc hC hk rfl pm_in3 pm_ig3 tyX3 tyX3_ok nmX3 k0 hk0 hlink href hfin hde rfl rfl (by rw [(hset (pm_ad G) r (I r) x).1]; exact hk0) (hset (pm_ad G) r (I r) x).2 hd k
theorem pm_gi4 : GoodIn lw_tbl (u_ws RX4 TX4 17) := goodIn_r _ [292, 294, 296, 298, 300, 302, 304, 306, 308, 310, 312, 314, 316, 318, 320, 322, 324] (by decide +kernel) (by decide +kernel)
theorem pm_in4 : ∀ w ∈ u_ws RX4 TX4 17, w ∈ lw_tbl := fun w h => (pm_gi4 w h).1
theorem pm_ig4 : (u_ws RX4 TX4 17).all goodWord = true := by decide +kernel
theorem r_getI4 (pc : Nat) {index : Nat} {r : Nat} {x : Int32} (hC : pm_C G X cc nL own ret rm) (hk : pm_k G r (.inl 4)) (k0 : Nat) (hk0 : k0 < 17) (hlink : Cond.fieldLink own index RX4 (TX4 k0).2.1 (TX4 k0).2.2.1 ∈ lw_tbl) (href : RX4 = (TX4 k0).1) (hv : (pm_fs (pm_ad G) 4 r (I r))[k0]? = some (.int x)) (hd : decode cc pc = .ok (.getfield index, 3)) (k : pm_R G X nL a b (pc + 3) ls (.int x :: st) I) : pm_R G X nL a b pc ls (.ref r :: st) I :=
  r_get (v := .int x) pc hC hk rfl pm_in4 pm_ig4 k0 hk0 hlink href hv hd k
theorem r_getR4 (pc : Nat) {index : Nat} {r r1 : Nat} (hC : pm_C G X cc nL own ret rm) (hk : pm_k G r (.inl 4)) (k0 : Nat) (hk0 : k0 < 17) (hlink : Cond.fieldLink own index RX4 (TX4 k0).2.1 (TX4 k0).2.2.1 ∈ lw_tbl) (href : RX4 = (TX4 k0).1) (hv : (pm_fs (pm_ad G) 4 r (I r))[k0]? = some (.ref (pm_ad G r1))) (hd : decode cc pc = .ok (.getfield index, 3)) (k : pm_R G X nL a b (pc + 3) ls (.ref r1 :: st) I) : pm_R G X nL a b pc ls (.ref r :: st) I :=
  r_get (v := .ref r1) pc hC hk rfl pm_in4 pm_ig4 k0 hk0 hlink href hv hd k
theorem r_putI4 (pc : Nat) {index : Nat} {r : Nat} {x : Int32} (hC : pm_C G X cc nL own ret rm) (hk : pm_k G r (.inl 4)) (k0 : Nat) (hk0 : k0 < 17) (hlink : Cond.fieldLink own index RX4 (TX4 k0).2.1 (TX4 k0).2.2.1 ∈ lw_tbl) (href : RX4 = (TX4 k0).1) (hfin : (TX4 k0).2.2.2 = false) (hde : parseFieldDescriptor (TX4 k0).2.2.1 = some .int) (hset : ∀ (ad : Nat → Nat) (r : Nat) (f : Nat → Int32) (x : Int32), (pm_fs ad 4 r f).length = 17 ∧ (pm_fs ad 4 r f).set k0 (.int x) = pm_fs ad 4 r (upd f k0 x)) (hd : decode cc pc = .ok (.putfield index, 3)) (k : ∀ I1, I1 = pm_up I r k0 x → pm_R G X nL a b (pc + 3) ls st I1) : pm_R G X nL a b pc ls (.int x :: .ref r :: st) I :=
  r_put (v := .int x) (j := k0) (x := x) pc hC hk rfl pm_in4 pm_ig4 tyX4 tyX4_ok nmX4 k0 hk0 hlink href hfin hde rfl rfl (by rw [(hset (pm_ad G) r (I r) x).1]; exact hk0) (hset (pm_ad G) r (I r) x).2 hd k
theorem r_getIN4 (pc : Nat) {host : String} {index : Nat} {r : Nat} {x : Int32} (hC : pm_C G X cc nL own ret rm) (hk : pm_k G r (.inl 4)) (k0 : Nat) (hk0 : k0 < 17) (hlink : Cond.fieldLinkNest own index RX4 (TX4 k0).2.1 (TX4 k0).2.2.1 host ∈ lw_tbl) (href : RX4 = (TX4 k0).1) (hv : (pm_fs (pm_ad G) 4 r (I r))[k0]? = some (.int x)) (hd : decode cc pc = .ok (.getfield index, 3)) (k : pm_R G X nL a b (pc + 3) ls (.int x :: st) I) : pm_R G X nL a b pc ls (.ref r :: st) I :=
  r_getN (v := .int x) pc hC hk rfl pm_in4 pm_ig4 k0 hk0 hlink href hv hd k
theorem r_getRN4 (pc : Nat) {host : String} {index : Nat} {r r1 : Nat} (hC : pm_C G X cc nL own ret rm) (hk : pm_k G r (.inl 4)) (k0 : Nat) (hk0 : k0 < 17) (hlink : Cond.fieldLinkNest own index RX4 (TX4 k0).2.1 (TX4 k0).2.2.1 host ∈ lw_tbl) (href : RX4 = (TX4 k0).1) (hv : (pm_fs (pm_ad G) 4 r (I r))[k0]? = some (.ref (pm_ad G r1))) (hd : decode cc pc = .ok (.getfield index, 3)) (k : pm_R G X nL a b (pc + 3) ls (.ref r1 :: st) I) : pm_R G X nL a b pc ls (.ref r :: st) I :=
  r_getN (v := .ref r1) pc hC hk rfl pm_in4 pm_ig4 k0 hk0 hlink href hv hd k
theorem r_putIN4 (pc : Nat) {host : String} {index : Nat} {r : Nat} {x : Int32} (hC : pm_C G X cc nL own ret rm) (hk : pm_k G r (.inl 4)) (k0 : Nat) (hk0 : k0 < 17) (hlink : Cond.fieldLinkNest own index RX4 (TX4 k0).2.1 (TX4 k0).2.2.1 host ∈ lw_tbl) (href : RX4 = (TX4 k0).1) (hfin : (TX4 k0).2.2.2 = false) (hde : parseFieldDescriptor (TX4 k0).2.2.1 = some .int) (hset : ∀ (ad : Nat → Nat) (r : Nat) (f : Nat → Int32) (x : Int32), (pm_fs ad 4 r f).length = 17 ∧ (pm_fs ad 4 r f).set k0 (.int x) = pm_fs ad 4 r (upd f k0 x)) (hd : decode cc pc = .ok (.putfield index, 3)) (k : ∀ I1, I1 = pm_up I r k0 x → pm_R G X nL a b (pc + 3) ls st I1) : pm_R G X nL a b pc ls (.int x :: .ref r :: st) I :=
  r_putN (v := .int x) (j := k0) (x := x) pc hC hk rfl pm_in4 pm_ig4 tyX4 tyX4_ok nmX4 k0 hk0 hlink href hfin hde rfl rfl (by rw [(hset (pm_ad G) r (I r) x).1]; exact hk0) (hset (pm_ad G) r (I r) x).2 hd k
theorem pm_gi5 : GoodIn lw_tbl (u_ws RX5 TX5 4) := goodIn_r _ [334, 336, 338, 340] (by decide +kernel) (by decide +kernel)
theorem pm_in5 : ∀ w ∈ u_ws RX5 TX5 4, w ∈ lw_tbl := fun w h => (pm_gi5 w h).1
theorem pm_ig5 : (u_ws RX5 TX5 4).all goodWord = true := by decide +kernel
theorem r_getI5 (pc : Nat) {index : Nat} {r : Nat} {x : Int32} (hC : pm_C G X cc nL own ret rm) (hk : pm_k G r (.inl 5)) (k0 : Nat) (hk0 : k0 < 4) (hlink : Cond.fieldLink own index RX5 (TX5 k0).2.1 (TX5 k0).2.2.1 ∈ lw_tbl) (href : RX5 = (TX5 k0).1) (hv : (pm_fs (pm_ad G) 5 r (I r))[k0]? = some (.int x)) (hd : decode cc pc = .ok (.getfield index, 3)) (k : pm_R G X nL a b (pc + 3) ls (.int x :: st) I) : pm_R G X nL a b pc ls (.ref r :: st) I :=
  r_get (v := .int x) pc hC hk rfl pm_in5 pm_ig5 k0 hk0 hlink href hv hd k
theorem r_getR5 (pc : Nat) {index : Nat} {r r1 : Nat} (hC : pm_C G X cc nL own ret rm) (hk : pm_k G r (.inl 5)) (k0 : Nat) (hk0 : k0 < 4) (hlink : Cond.fieldLink own index RX5 (TX5 k0).2.1 (TX5 k0).2.2.1 ∈ lw_tbl) (href : RX5 = (TX5 k0).1) (hv : (pm_fs (pm_ad G) 5 r (I r))[k0]? = some (.ref (pm_ad G r1))) (hd : decode cc pc = .ok (.getfield index, 3)) (k : pm_R G X nL a b (pc + 3) ls (.ref r1 :: st) I) : pm_R G X nL a b pc ls (.ref r :: st) I :=
  r_get (v := .ref r1) pc hC hk rfl pm_in5 pm_ig5 k0 hk0 hlink href hv hd k
theorem r_putI5 (pc : Nat) {index : Nat} {r : Nat} {x : Int32} (hC : pm_C G X cc nL own ret rm) (hk : pm_k G r (.inl 5)) (k0 : Nat) (hk0 : k0 < 4) (hlink : Cond.fieldLink own index RX5 (TX5 k0).2.1 (TX5 k0).2.2.1 ∈ lw_tbl) (href : RX5 = (TX5 k0).1) (hfin : (TX5 k0).2.2.2 = false) (hde : parseFieldDescriptor (TX5 k0).2.2.1 = some .int) (hset : ∀ (ad : Nat → Nat) (r : Nat) (f : Nat → Int32) (x : Int32), (pm_fs ad 5 r f).length = 4 ∧ (pm_fs ad 5 r f).set k0 (.int x) = pm_fs ad 5 r (upd f k0 x)) (hd : decode cc pc = .ok (.putfield index, 3)) (k : ∀ I1, I1 = pm_up I r k0 x → pm_R G X nL a b (pc + 3) ls st I1) : pm_R G X nL a b pc ls (.int x :: .ref r :: st) I :=
  r_put (v := .int x) (j := k0) (x := x) pc hC hk rfl pm_in5 pm_ig5 tyX5 tyX5_ok nmX5 k0 hk0 hlink href hfin hde rfl rfl (by rw [(hset (pm_ad G) r (I r) x).1]; exact hk0) (hset (pm_ad G) r (I r) x).2 hd k
theorem r_getIN5 (pc : Nat) {host : String} {index : Nat} {r : Nat} {x : Int32} (hC : pm_C G X cc nL own ret rm) (hk : pm_k G r (.inl 5)) (k0 : Nat) (hk0 : k0 < 4) (hlink : Cond.fieldLinkNest own index RX5 (TX5 k0).2.1 (TX5 k0).2.2.1 host ∈ lw_tbl) (href : RX5 = (TX5 k0).1) (hv : (pm_fs (pm_ad G) 5 r (I r))[k0]? = some (.int x)) (hd : decode cc pc = .ok (.getfield index, 3)) (k : pm_R G X nL a b (pc + 3) ls (.int x :: st) I) : pm_R G X nL a b pc ls (.ref r :: st) I :=
  r_getN (v := .int x) pc hC hk rfl pm_in5 pm_ig5 k0 hk0 hlink href hv hd k
theorem r_getRN5 (pc : Nat) {host : String} {index : Nat} {r r1 : Nat} (hC : pm_C G X cc nL own ret rm) (hk : pm_k G r (.inl 5)) (k0 : Nat) (hk0 : k0 < 4) (hlink : Cond.fieldLinkNest own index RX5 (TX5 k0).2.1 (TX5 k0).2.2.1 host ∈ lw_tbl) (href : RX5 = (TX5 k0).1) (hv : (pm_fs (pm_ad G) 5 r (I r))[k0]? = some (.ref (pm_ad G r1))) (hd : decode cc pc = .ok (.getfield index, 3)) (k : pm_R G X nL a b (pc + 3) ls (.ref r1 :: st) I) : pm_R G X nL a b pc ls (.ref r :: st) I :=
  r_getN (v := .ref r1) pc hC hk rfl pm_in5 pm_ig5 k0 hk0 hlink href hv hd k
theorem r_putIN5 (pc : Nat) {host : String} {index : Nat} {r : Nat} {x : Int32} (hC : pm_C G X cc nL own ret rm) (hk : pm_k G r (.inl 5)) (k0 : Nat) (hk0 : k0 < 4) (hlink : Cond.fieldLinkNest own index RX5 (TX5 k0).2.1 (TX5 k0).2.2.1 host ∈ lw_tbl) (href : RX5 = (TX5 k0).1) (hfin : (TX5 k0).2.2.2 = false) (hde : parseFieldDescriptor (TX5 k0).2.2.1 = some .int) (hset : ∀ (ad : Nat → Nat) (r : Nat) (f : Nat → Int32) (x : Int32), (pm_fs ad 5 r f).length = 4 ∧ (pm_fs ad 5 r f).set k0 (.int x) = pm_fs ad 5 r (upd f k0 x)) (hd : decode cc pc = .ok (.putfield index, 3)) (k : ∀ I1, I1 = pm_up I r k0 x → pm_R G X nL a b (pc + 3) ls st I1) : pm_R G X nL a b pc ls (.int x :: .ref r :: st) I :=
  r_putN (v := .int x) (j := k0) (x := x) pc hC hk rfl pm_in5 pm_ig5 tyX5 tyX5_ok nmX5 k0 hk0 hlink href hfin hde rfl rfl (by rw [(hset (pm_ad G) r (I r) x).1]; exact hk0) (hset (pm_ad G) r (I r) x).2 hd k
theorem pm_gi6 : GoodIn lw_tbl (u_ws RX6 TX6 10) := goodIn_r _ [372, 374, 376, 378, 380, 382, 384, 386, 388, 390] (by decide +kernel) (by decide +kernel)
theorem pm_in6 : ∀ w ∈ u_ws RX6 TX6 10, w ∈ lw_tbl := fun w h => (pm_gi6 w h).1
theorem pm_ig6 : (u_ws RX6 TX6 10).all goodWord = true := by decide +kernel
theorem r_getI6 (pc : Nat) {index : Nat} {r : Nat} {x : Int32} (hC : pm_C G X cc nL own ret rm) (hk : pm_k G r (.inl 6)) (k0 : Nat) (hk0 : k0 < 10) (hlink : Cond.fieldLink own index RX6 (TX6 k0).2.1 (TX6 k0).2.2.1 ∈ lw_tbl) (href : RX6 = (TX6 k0).1) (hv : (pm_fs (pm_ad G) 6 r (I r))[k0]? = some (.int x)) (hd : decode cc pc = .ok (.getfield index, 3)) (k : pm_R G X nL a b (pc + 3) ls (.int x :: st) I) : pm_R G X nL a b pc ls (.ref r :: st) I :=
  r_get (v := .int x) pc hC hk rfl pm_in6 pm_ig6 k0 hk0 hlink href hv hd k
theorem r_getR6 (pc : Nat) {index : Nat} {r r1 : Nat} (hC : pm_C G X cc nL own ret rm) (hk : pm_k G r (.inl 6)) (k0 : Nat) (hk0 : k0 < 10) (hlink : Cond.fieldLink own index RX6 (TX6 k0).2.1 (TX6 k0).2.2.1 ∈ lw_tbl) (href : RX6 = (TX6 k0).1) (hv : (pm_fs (pm_ad G) 6 r (I r))[k0]? = some (.ref (pm_ad G r1))) (hd : decode cc pc = .ok (.getfield index, 3)) (k : pm_R G X nL a b (pc + 3) ls (.ref r1 :: st) I) : pm_R G X nL a b pc ls (.ref r :: st) I :=
  r_get (v := .ref r1) pc hC hk rfl pm_in6 pm_ig6 k0 hk0 hlink href hv hd k
theorem r_putI6 (pc : Nat) {index : Nat} {r : Nat} {x : Int32} (hC : pm_C G X cc nL own ret rm) (hk : pm_k G r (.inl 6)) (k0 : Nat) (hk0 : k0 < 10) (hlink : Cond.fieldLink own index RX6 (TX6 k0).2.1 (TX6 k0).2.2.1 ∈ lw_tbl) (href : RX6 = (TX6 k0).1) (hfin : (TX6 k0).2.2.2 = false) (hde : parseFieldDescriptor (TX6 k0).2.2.1 = some .int) (hset : ∀ (ad : Nat → Nat) (r : Nat) (f : Nat → Int32) (x : Int32), (pm_fs ad 6 r f).length = 10 ∧ (pm_fs ad 6 r f).set k0 (.int x) = pm_fs ad 6 r (upd f k0 x)) (hd : decode cc pc = .ok (.putfield index, 3)) (k : ∀ I1, I1 = pm_up I r k0 x → pm_R G X nL a b (pc + 3) ls st I1) : pm_R G X nL a b pc ls (.int x :: .ref r :: st) I :=
  r_put (v := .int x) (j := k0) (x := x) pc hC hk rfl pm_in6 pm_ig6 tyX6 tyX6_ok nmX6 k0 hk0 hlink href hfin hde rfl rfl (by rw [(hset (pm_ad G) r (I r) x).1]; exact hk0) (hset (pm_ad G) r (I r) x).2 hd k
theorem r_getIN6 (pc : Nat) {host : String} {index : Nat} {r : Nat} {x : Int32} (hC : pm_C G X cc nL own ret rm) (hk : pm_k G r (.inl 6)) (k0 : Nat) (hk0 : k0 < 10) (hlink : Cond.fieldLinkNest own index RX6 (TX6 k0).2.1 (TX6 k0).2.2.1 host ∈ lw_tbl) (href : RX6 = (TX6 k0).1) (hv : (pm_fs (pm_ad G) 6 r (I r))[k0]? = some (.int x)) (hd : decode cc pc = .ok (.getfield index, 3)) (k : pm_R G X nL a b (pc + 3) ls (.int x :: st) I) : pm_R G X nL a b pc ls (.ref r :: st) I :=
  r_getN (v := .int x) pc hC hk rfl pm_in6 pm_ig6 k0 hk0 hlink href hv hd k
theorem r_getRN6 (pc : Nat) {host : String} {index : Nat} {r r1 : Nat} (hC : pm_C G X cc nL own ret rm) (hk : pm_k G r (.inl 6)) (k0 : Nat) (hk0 : k0 < 10) (hlink : Cond.fieldLinkNest own index RX6 (TX6 k0).2.1 (TX6 k0).2.2.1 host ∈ lw_tbl) (href : RX6 = (TX6 k0).1) (hv : (pm_fs (pm_ad G) 6 r (I r))[k0]? = some (.ref (pm_ad G r1))) (hd : decode cc pc = .ok (.getfield index, 3)) (k : pm_R G X nL a b (pc + 3) ls (.ref r1 :: st) I) : pm_R G X nL a b pc ls (.ref r :: st) I :=
  r_getN (v := .ref r1) pc hC hk rfl pm_in6 pm_ig6 k0 hk0 hlink href hv hd k
theorem r_putIN6 (pc : Nat) {host : String} {index : Nat} {r : Nat} {x : Int32} (hC : pm_C G X cc nL own ret rm) (hk : pm_k G r (.inl 6)) (k0 : Nat) (hk0 : k0 < 10) (hlink : Cond.fieldLinkNest own index RX6 (TX6 k0).2.1 (TX6 k0).2.2.1 host ∈ lw_tbl) (href : RX6 = (TX6 k0).1) (hfin : (TX6 k0).2.2.2 = false) (hde : parseFieldDescriptor (TX6 k0).2.2.1 = some .int) (hset : ∀ (ad : Nat → Nat) (r : Nat) (f : Nat → Int32) (x : Int32), (pm_fs ad 6 r f).length = 10 ∧ (pm_fs ad 6 r f).set k0 (.int x) = pm_fs ad 6 r (upd f k0 x)) (hd : decode cc pc = .ok (.putfield index, 3)) (k : ∀ I1, I1 = pm_up I r k0 x → pm_R G X nL a b (pc + 3) ls st I1) : pm_R G X nL a b pc ls (.int x :: .ref r :: st) I :=
  r_putN (v := .int x) (j := k0) (x := x) pc hC hk rfl pm_in6 pm_ig6 tyX6 tyX6_ok nmX6 k0 hk0 hlink href hfin hde rfl rfl (by rw [(hset (pm_ad G) r (I r) x).1]; exact hk0) (hset (pm_ad G) r (I r) x).2 hd k
theorem pm_gi7 : GoodIn lw_tbl (u_ws RX7 TX7 30) := goodIn_r _ [1209, 1211, 1213, 1215, 1217, 1219, 1221, 1223, 1225, 1227, 1229, 1231, 1233, 1235, 1237, 1239, 1241, 1243, 1245, 1247, 1249, 1251, 1253, 1255, 1257, 1259, 1261, 1263, 1265, 1267] (by decide +kernel) (by decide +kernel)
theorem pm_in7 : ∀ w ∈ u_ws RX7 TX7 30, w ∈ lw_tbl := fun w h => (pm_gi7 w h).1
theorem pm_ig7 : (u_ws RX7 TX7 30).all goodWord = true := by decide +kernel
theorem r_getI7 (pc : Nat) {index : Nat} {r : Nat} {x : Int32} (hC : pm_C G X cc nL own ret rm) (hk : pm_k G r (.inl 7)) (k0 : Nat) (hk0 : k0 < 30) (hlink : Cond.fieldLink own index RX7 (TX7 k0).2.1 (TX7 k0).2.2.1 ∈ lw_tbl) (href : RX7 = (TX7 k0).1) (hv : (pm_fs (pm_ad G) 7 r (I r))[k0]? = some (.int x)) (hd : decode cc pc = .ok (.getfield index, 3)) (k : pm_R G X nL a b (pc + 3) ls (.int x :: st) I) : pm_R G X nL a b pc ls (.ref r :: st) I :=
  r_get (v := .int x) pc hC hk rfl pm_in7 pm_ig7 k0 hk0 hlink href hv hd k
theorem r_getR7 (pc : Nat) {index : Nat} {r r1 : Nat} (hC : pm_C G X cc nL own ret rm) (hk : pm_k G r (.inl 7)) (k0 : Nat) (hk0 : k0 < 30) (hlink : Cond.fieldLink own index RX7 (TX7 k0).2.1 (TX7 k0).2.2.1 ∈ lw_tbl) (href : RX7 = (TX7 k0).1) (hv : (pm_fs (pm_ad G) 7 r (I r))[k0]? = some (.ref (pm_ad G r1))) (hd : decode cc pc = .ok (.getfield index, 3)) (k : pm_R G X nL a b (pc + 3) ls (.ref r1 :: st) I) : pm_R G X nL a b pc ls (.ref r :: st) I :=
  r_get (v := .ref r1) pc hC hk rfl pm_in7 pm_ig7 k0 hk0 hlink href hv hd k
theorem r_putI7 (pc : Nat) {index : Nat} {r : Nat} {x : Int32} (hC : pm_C G X cc nL own ret rm) (hk : pm_k G r (.inl 7)) (k0 : Nat) (hk0 : k0 < 30) (hlink : Cond.fieldLink own index RX7 (TX7 k0).2.1 (TX7 k0).2.2.1 ∈ lw_tbl) (href : RX7 = (TX7 k0).1) (hfin : (TX7 k0).2.2.2 = false) (hde : parseFieldDescriptor (TX7 k0).2.2.1 = some .int) (hset : ∀ (ad : Nat → Nat) (r : Nat) (f : Nat → Int32) (x : Int32), (pm_fs ad 7 r f).length = 30 ∧ (pm_fs ad 7 r f).set k0 (.int x) = pm_fs ad 7 r (upd f k0 x)) (hd : decode cc pc = .ok (.putfield index, 3)) (k : ∀ I1, I1 = pm_up I r k0 x → pm_R G X nL a b (pc + 3) ls st I1) : pm_R G X nL a b pc ls (.int x :: .ref r :: st) I :=
  r_put (v := .int x) (j := k0) (x := x) pc hC hk rfl pm_in7 pm_ig7 tyX7 tyX7_ok nmX7 k0 hk0 hlink href hfin hde rfl rfl (by rw [(hset (pm_ad G) r (I r) x).1]; exact hk0) (hset (pm_ad G) r (I r) x).2 hd k
theorem r_getIN7 (pc : Nat) {host : String} {index : Nat} {r : Nat} {x : Int32} (hC : pm_C G X cc nL own ret rm) (hk : pm_k G r (.inl 7)) (k0 : Nat) (hk0 : k0 < 30) (hlink : Cond.fieldLinkNest own index RX7 (TX7 k0).2.1 (TX7 k0).2.2.1 host ∈ lw_tbl) (href : RX7 = (TX7 k0).1) (hv : (pm_fs (pm_ad G) 7 r (I r))[k0]? = some (.int x)) (hd : decode cc pc = .ok (.getfield index, 3)) (k : pm_R G X nL a b (pc + 3) ls (.int x :: st) I) : pm_R G X nL a b pc ls (.ref r :: st) I :=
  r_getN (v := .int x) pc hC hk rfl pm_in7 pm_ig7 k0 hk0 hlink href hv hd k
theorem r_getRN7 (pc : Nat) {host : String} {index : Nat} {r r1 : Nat} (hC : pm_C G X cc nL own ret rm) (hk : pm_k G r (.inl 7)) (k0 : Nat) (hk0 : k0 < 30) (hlink : Cond.fieldLinkNest own index RX7 (TX7 k0).2.1 (TX7 k0).2.2.1 host ∈ lw_tbl) (href : RX7 = (TX7 k0).1) (hv : (pm_fs (pm_ad G) 7 r (I r))[k0]? = some (.ref (pm_ad G r1))) (hd : decode cc pc = .ok (.getfield index, 3)) (k : pm_R G X nL a b (pc + 3) ls (.ref r1 :: st) I) : pm_R G X nL a b pc ls (.ref r :: st) I :=
  r_getN (v := .ref r1) pc hC hk rfl pm_in7 pm_ig7 k0 hk0 hlink href hv hd k
theorem r_putIN7 (pc : Nat) {host : String} {index : Nat} {r : Nat} {x : Int32} (hC : pm_C G X cc nL own ret rm) (hk : pm_k G r (.inl 7)) (k0 : Nat) (hk0 : k0 < 30) (hlink : Cond.fieldLinkNest own index RX7 (TX7 k0).2.1 (TX7 k0).2.2.1 host ∈ lw_tbl) (href : RX7 = (TX7 k0).1) (hfin : (TX7 k0).2.2.2 = false) (hde : parseFieldDescriptor (TX7 k0).2.2.1 = some .int) (hset : ∀ (ad : Nat → Nat) (r : Nat) (f : Nat → Int32) (x : Int32), (pm_fs ad 7 r f).length = 30 ∧ (pm_fs ad 7 r f).set k0 (.int x) = pm_fs ad 7 r (upd f k0 x)) (hd : decode cc pc = .ok (.putfield index, 3)) (k : ∀ I1, I1 = pm_up I r k0 x → pm_R G X nL a b (pc + 3) ls st I1) : pm_R G X nL a b pc ls (.int x :: .ref r :: st) I :=
  r_putN (v := .int x) (j := k0) (x := x) pc hC hk rfl pm_in7 pm_ig7 tyX7 tyX7_ok nmX7 k0 hk0 hlink href hfin hde rfl rfl (by rw [(hset (pm_ad G) r (I r) x).1]; exact hk0) (hset (pm_ad G) r (I r) x).2 hd k
theorem ps_0_1 (ad : Nat → Nat) (r : Nat) (f : Nat → Int32) (x : Int32) : (pm_fs ad 0 r f).length = 3 ∧ (pm_fs ad 0 r f).set 1 (.int x) = pm_fs ad 0 r (upd f 1 x) := ⟨rfl, rfl⟩
theorem ps_0_2 (ad : Nat → Nat) (r : Nat) (f : Nat → Int32) (x : Int32) : (pm_fs ad 0 r f).length = 3 ∧ (pm_fs ad 0 r f).set 2 (.int x) = pm_fs ad 0 r (upd f 2 x) := ⟨rfl, rfl⟩
theorem ps_1_0 (ad : Nat → Nat) (r : Nat) (f : Nat → Int32) (x : Int32) : (pm_fs ad 1 r f).length = 9 ∧ (pm_fs ad 1 r f).set 0 (.int x) = pm_fs ad 1 r (upd f 0 x) := ⟨rfl, rfl⟩
theorem ps_1_6 (ad : Nat → Nat) (r : Nat) (f : Nat → Int32) (x : Int32) : (pm_fs ad 1 r f).length = 9 ∧ (pm_fs ad 1 r f).set 6 (.int x) = pm_fs ad 1 r (upd f 6 x) := ⟨rfl, rfl⟩
theorem ps_1_7 (ad : Nat → Nat) (r : Nat) (f : Nat → Int32) (x : Int32) : (pm_fs ad 1 r f).length = 9 ∧ (pm_fs ad 1 r f).set 7 (.int x) = pm_fs ad 1 r (upd f 7 x) := ⟨rfl, rfl⟩
theorem ps_1_8 (ad : Nat → Nat) (r : Nat) (f : Nat → Int32) (x : Int32) : (pm_fs ad 1 r f).length = 9 ∧ (pm_fs ad 1 r f).set 8 (.int x) = pm_fs ad 1 r (upd f 8 x) := ⟨rfl, rfl⟩
theorem ps_2_3 (ad : Nat → Nat) (r : Nat) (f : Nat → Int32) (x : Int32) : (pm_fs ad 2 r f).length = 10 ∧ (pm_fs ad 2 r f).set 3 (.int x) = pm_fs ad 2 r (upd f 3 x) := ⟨rfl, rfl⟩
theorem ps_2_4 (ad : Nat → Nat) (r : Nat) (f : Nat → Int32) (x : Int32) : (pm_fs ad 2 r f).length = 10 ∧ (pm_fs ad 2 r f).set 4 (.int x) = pm_fs ad 2 r (upd f 4 x) := ⟨rfl, rfl⟩
theorem ps_2_5 (ad : Nat → Nat) (r : Nat) (f : Nat → Int32) (x : Int32) : (pm_fs ad 2 r f).length = 10 ∧ (pm_fs ad 2 r f).set 5 (.int x) = pm_fs ad 2 r (upd f 5 x) := ⟨rfl, rfl⟩
theorem ps_2_6 (ad : Nat → Nat) (r : Nat) (f : Nat → Int32) (x : Int32) : (pm_fs ad 2 r f).length = 10 ∧ (pm_fs ad 2 r f).set 6 (.int x) = pm_fs ad 2 r (upd f 6 x) := ⟨rfl, rfl⟩
theorem ps_2_7 (ad : Nat → Nat) (r : Nat) (f : Nat → Int32) (x : Int32) : (pm_fs ad 2 r f).length = 10 ∧ (pm_fs ad 2 r f).set 7 (.int x) = pm_fs ad 2 r (upd f 7 x) := ⟨rfl, rfl⟩
theorem ps_2_8 (ad : Nat → Nat) (r : Nat) (f : Nat → Int32) (x : Int32) : (pm_fs ad 2 r f).length = 10 ∧ (pm_fs ad 2 r f).set 8 (.int x) = pm_fs ad 2 r (upd f 8 x) := ⟨rfl, rfl⟩
theorem ps_2_9 (ad : Nat → Nat) (r : Nat) (f : Nat → Int32) (x : Int32) : (pm_fs ad 2 r f).length = 10 ∧ (pm_fs ad 2 r f).set 9 (.int x) = pm_fs ad 2 r (upd f 9 x) := ⟨rfl, rfl⟩
theorem ps_3_1 (ad : Nat → Nat) (r : Nat) (f : Nat → Int32) (x : Int32) : (pm_fs ad 3 r f).length = 4 ∧ (pm_fs ad 3 r f).set 1 (.int x) = pm_fs ad 3 r (upd f 1 x) := ⟨rfl, rfl⟩
theorem ps_3_3 (ad : Nat → Nat) (r : Nat) (f : Nat → Int32) (x : Int32) : (pm_fs ad 3 r f).length = 4 ∧ (pm_fs ad 3 r f).set 3 (.int x) = pm_fs ad 3 r (upd f 3 x) := ⟨rfl, rfl⟩
theorem ps_4_1 (ad : Nat → Nat) (r : Nat) (f : Nat → Int32) (x : Int32) : (pm_fs ad 4 r f).length = 17 ∧ (pm_fs ad 4 r f).set 1 (.int x) = pm_fs ad 4 r (upd f 1 x) := ⟨rfl, rfl⟩
theorem ps_4_2 (ad : Nat → Nat) (r : Nat) (f : Nat → Int32) (x : Int32) : (pm_fs ad 4 r f).length = 17 ∧ (pm_fs ad 4 r f).set 2 (.int x) = pm_fs ad 4 r (upd f 2 x) := ⟨rfl, rfl⟩
theorem ps_4_3 (ad : Nat → Nat) (r : Nat) (f : Nat → Int32) (x : Int32) : (pm_fs ad 4 r f).length = 17 ∧ (pm_fs ad 4 r f).set 3 (.int x) = pm_fs ad 4 r (upd f 3 x) := ⟨rfl, rfl⟩
theorem ps_4_4 (ad : Nat → Nat) (r : Nat) (f : Nat → Int32) (x : Int32) : (pm_fs ad 4 r f).length = 17 ∧ (pm_fs ad 4 r f).set 4 (.int x) = pm_fs ad 4 r (upd f 4 x) := ⟨rfl, rfl⟩
theorem ps_4_5 (ad : Nat → Nat) (r : Nat) (f : Nat → Int32) (x : Int32) : (pm_fs ad 4 r f).length = 17 ∧ (pm_fs ad 4 r f).set 5 (.int x) = pm_fs ad 4 r (upd f 5 x) := ⟨rfl, rfl⟩
theorem ps_4_6 (ad : Nat → Nat) (r : Nat) (f : Nat → Int32) (x : Int32) : (pm_fs ad 4 r f).length = 17 ∧ (pm_fs ad 4 r f).set 6 (.int x) = pm_fs ad 4 r (upd f 6 x) := ⟨rfl, rfl⟩
theorem ps_4_7 (ad : Nat → Nat) (r : Nat) (f : Nat → Int32) (x : Int32) : (pm_fs ad 4 r f).length = 17 ∧ (pm_fs ad 4 r f).set 7 (.int x) = pm_fs ad 4 r (upd f 7 x) := ⟨rfl, rfl⟩
theorem ps_4_8 (ad : Nat → Nat) (r : Nat) (f : Nat → Int32) (x : Int32) : (pm_fs ad 4 r f).length = 17 ∧ (pm_fs ad 4 r f).set 8 (.int x) = pm_fs ad 4 r (upd f 8 x) := ⟨rfl, rfl⟩
theorem ps_4_9 (ad : Nat → Nat) (r : Nat) (f : Nat → Int32) (x : Int32) : (pm_fs ad 4 r f).length = 17 ∧ (pm_fs ad 4 r f).set 9 (.int x) = pm_fs ad 4 r (upd f 9 x) := ⟨rfl, rfl⟩
theorem ps_4_10 (ad : Nat → Nat) (r : Nat) (f : Nat → Int32) (x : Int32) : (pm_fs ad 4 r f).length = 17 ∧ (pm_fs ad 4 r f).set 10 (.int x) = pm_fs ad 4 r (upd f 10 x) := ⟨rfl, rfl⟩
theorem ps_4_11 (ad : Nat → Nat) (r : Nat) (f : Nat → Int32) (x : Int32) : (pm_fs ad 4 r f).length = 17 ∧ (pm_fs ad 4 r f).set 11 (.int x) = pm_fs ad 4 r (upd f 11 x) := ⟨rfl, rfl⟩
theorem ps_4_12 (ad : Nat → Nat) (r : Nat) (f : Nat → Int32) (x : Int32) : (pm_fs ad 4 r f).length = 17 ∧ (pm_fs ad 4 r f).set 12 (.int x) = pm_fs ad 4 r (upd f 12 x) := ⟨rfl, rfl⟩
theorem ps_5_0 (ad : Nat → Nat) (r : Nat) (f : Nat → Int32) (x : Int32) : (pm_fs ad 5 r f).length = 4 ∧ (pm_fs ad 5 r f).set 0 (.int x) = pm_fs ad 5 r (upd f 0 x) := ⟨rfl, rfl⟩
theorem ps_6_1 (ad : Nat → Nat) (r : Nat) (f : Nat → Int32) (x : Int32) : (pm_fs ad 6 r f).length = 10 ∧ (pm_fs ad 6 r f).set 1 (.int x) = pm_fs ad 6 r (upd f 1 x) := ⟨rfl, rfl⟩
theorem ps_6_2 (ad : Nat → Nat) (r : Nat) (f : Nat → Int32) (x : Int32) : (pm_fs ad 6 r f).length = 10 ∧ (pm_fs ad 6 r f).set 2 (.int x) = pm_fs ad 6 r (upd f 2 x) := ⟨rfl, rfl⟩
theorem ps_7_0 (ad : Nat → Nat) (r : Nat) (f : Nat → Int32) (x : Int32) : (pm_fs ad 7 r f).length = 30 ∧ (pm_fs ad 7 r f).set 0 (.int x) = pm_fs ad 7 r (upd f 0 x) := ⟨rfl, rfl⟩
theorem ps_7_10 (ad : Nat → Nat) (r : Nat) (f : Nat → Int32) (x : Int32) : (pm_fs ad 7 r f).length = 30 ∧ (pm_fs ad 7 r f).set 10 (.int x) = pm_fs ad 7 r (upd f 10 x) := ⟨rfl, rfl⟩
theorem ps_7_11 (ad : Nat → Nat) (r : Nat) (f : Nat → Int32) (x : Int32) : (pm_fs ad 7 r f).length = 30 ∧ (pm_fs ad 7 r f).set 11 (.int x) = pm_fs ad 7 r (upd f 11 x) := ⟨rfl, rfl⟩
theorem ps_7_12 (ad : Nat → Nat) (r : Nat) (f : Nat → Int32) (x : Int32) : (pm_fs ad 7 r f).length = 30 ∧ (pm_fs ad 7 r f).set 12 (.int x) = pm_fs ad 7 r (upd f 12 x) := ⟨rfl, rfl⟩
theorem ps_7_13 (ad : Nat → Nat) (r : Nat) (f : Nat → Int32) (x : Int32) : (pm_fs ad 7 r f).length = 30 ∧ (pm_fs ad 7 r f).set 13 (.int x) = pm_fs ad 7 r (upd f 13 x) := ⟨rfl, rfl⟩
theorem ps_7_14 (ad : Nat → Nat) (r : Nat) (f : Nat → Int32) (x : Int32) : (pm_fs ad 7 r f).length = 30 ∧ (pm_fs ad 7 r f).set 14 (.int x) = pm_fs ad 7 r (upd f 14 x) := ⟨rfl, rfl⟩
theorem ps_7_15 (ad : Nat → Nat) (r : Nat) (f : Nat → Int32) (x : Int32) : (pm_fs ad 7 r f).length = 30 ∧ (pm_fs ad 7 r f).set 15 (.int x) = pm_fs ad 7 r (upd f 15 x) := ⟨rfl, rfl⟩
theorem ps_7_16 (ad : Nat → Nat) (r : Nat) (f : Nat → Int32) (x : Int32) : (pm_fs ad 7 r f).length = 30 ∧ (pm_fs ad 7 r f).set 16 (.int x) = pm_fs ad 7 r (upd f 16 x) := ⟨rfl, rfl⟩
theorem ps_7_17 (ad : Nat → Nat) (r : Nat) (f : Nat → Int32) (x : Int32) : (pm_fs ad 7 r f).length = 30 ∧ (pm_fs ad 7 r f).set 17 (.int x) = pm_fs ad 7 r (upd f 17 x) := ⟨rfl, rfl⟩
theorem ps_7_18 (ad : Nat → Nat) (r : Nat) (f : Nat → Int32) (x : Int32) : (pm_fs ad 7 r f).length = 30 ∧ (pm_fs ad 7 r f).set 18 (.int x) = pm_fs ad 7 r (upd f 18 x) := ⟨rfl, rfl⟩
theorem ps_7_19 (ad : Nat → Nat) (r : Nat) (f : Nat → Int32) (x : Int32) : (pm_fs ad 7 r f).length = 30 ∧ (pm_fs ad 7 r f).set 19 (.int x) = pm_fs ad 7 r (upd f 19 x) := ⟨rfl, rfl⟩
theorem ps_7_20 (ad : Nat → Nat) (r : Nat) (f : Nat → Int32) (x : Int32) : (pm_fs ad 7 r f).length = 30 ∧ (pm_fs ad 7 r f).set 20 (.int x) = pm_fs ad 7 r (upd f 20 x) := ⟨rfl, rfl⟩
theorem ps_7_21 (ad : Nat → Nat) (r : Nat) (f : Nat → Int32) (x : Int32) : (pm_fs ad 7 r f).length = 30 ∧ (pm_fs ad 7 r f).set 21 (.int x) = pm_fs ad 7 r (upd f 21 x) := ⟨rfl, rfl⟩
theorem ps_7_22 (ad : Nat → Nat) (r : Nat) (f : Nat → Int32) (x : Int32) : (pm_fs ad 7 r f).length = 30 ∧ (pm_fs ad 7 r f).set 22 (.int x) = pm_fs ad 7 r (upd f 22 x) := ⟨rfl, rfl⟩
theorem ps_7_26 (ad : Nat → Nat) (r : Nat) (f : Nat → Int32) (x : Int32) : (pm_fs ad 7 r f).length = 30 ∧ (pm_fs ad 7 r f).set 26 (.int x) = pm_fs ad 7 r (upd f 26 x) := ⟨rfl, rfl⟩
theorem r_putZ4 (pc : Nat) {index : Nat} {r : Nat} {x : Int32} (hC : pm_C G X cc nL own ret rm) (hk : pm_k G r (.inl 4)) (hlink : Cond.fieldLink own index RX4 (TX4 0).2.1 (TX4 0).2.2.1 ∈ lw_tbl) (hz : x = 0 ∨ x = 1) (hd : decode cc pc = .ok (.putfield index, 3)) (k : ∀ I1, I1 = pm_up I r 0 x → pm_R G X nL a b (pc + 3) ls st I1) : pm_R G X nL a b pc ls (.int x :: .ref r :: st) I :=
  r_put (v := .int x) (j := 0) (x := x) (ty := .boolean) pc hC hk rfl pm_in4 pm_ig4 tyX4 tyX4_ok nmX4 0 (by decide) hlink rfl rfl (by decide +kernel) (pm_nz hz).1 (pm_nz hz).2 (Nat.le_of_ble_eq_true rfl) rfl hd k
theorem r_putZN4 (pc : Nat) {host : String} {index : Nat} {r : Nat} {x : Int32} (hC : pm_C G X cc nL own ret rm) (hk : pm_k G r (.inl 4)) (hlink : Cond.fieldLinkNest own index RX4 (TX4 0).2.1 (TX4 0).2.2.1 host ∈ lw_tbl) (hz : x = 0 ∨ x = 1) (hd : decode cc pc = .ok (.putfield index, 3)) (k : ∀ I1, I1 = pm_up I r 0 x → pm_R G X nL a b (pc + 3) ls st I1) : pm_R G X nL a b pc ls (.int x :: .ref r :: st) I :=
  r_putN (v := .int x) (j := 0) (x := x) (ty := .boolean) pc hC hk rfl pm_in4 pm_ig4 tyX4 tyX4_ok nmX4 0 (by decide) hlink rfl rfl (by decide +kernel) (pm_nz hz).1 (pm_nz hz).2 (Nat.le_of_ble_eq_true rfl) rfl hd k
theorem r_putR6 (pc : Nat) {index : Nat} {r r1 : Nat} {x : Int32} (hC : pm_C G X cc nL own ret rm) (hk : pm_k G r (.inl 6)) (k0 : Nat) (h34 : k0 = 3 ∨ k0 = 4) (hlink : Cond.fieldLink own index RX6 (TX6 k0).2.1 (TX6 k0).2.2.1 ∈ lw_tbl) (hx : x.toNatClampNeg = r1) (hd : decode cc pc = .ok (.putfield index, 3)) (k : ∀ I1, I1 = pm_up I r k0 x → pm_R G X nL a b (pc + 3) ls st I1) : pm_R G X nL a b pc ls (.ref r1 :: .ref r :: st) I := by
  subst hx
  rcases h34 with rfl | rfl
  · exact r_put (v := .ref x.toNatClampNeg) (j := 3) (x := x) (ty := .object "PeerOverlay$Plan") pc hC hk rfl pm_in6 pm_ig6 tyX6 tyX6_ok nmX6 3 (by decide) hlink rfl rfl (by decide +kernel) rfl rfl (Nat.le_of_ble_eq_true rfl) rfl hd k
  · exact r_put (v := .ref x.toNatClampNeg) (j := 4) (x := x) (ty := .object "PeerOverlay$Plan") pc hC hk rfl pm_in6 pm_ig6 tyX6 tyX6_ok nmX6 4 (by decide) hlink rfl rfl (by decide +kernel) rfl rfl (Nat.le_of_ble_eq_true rfl) rfl hd k
end PMR
