/-! ===== objects while they are made: stage j S of the rows: the first j rows are there, those of S aren't finished ===== -/
def pm_dy (k : Nat ⊕ (Nat × Nat)) : Nat ⊕ (Nat × Nat) := match k with
  | .inl c => .inr (8, c)
  | .inr (4, n) => .inr (6, n)
  | .inr (5, n) => .inr (7, n)
  | .inr (t, n) => .inr (t, n)
def pm_st (G : pm_G) (j : Nat) (S : List Nat) : pm_G := (pm_D G, pm_ca G, pm_ad G, j, (fun r => if r ∈ S then pm_dy (pm_kd G r) else pm_kd G r), pm_b G, pm_SS G)
def pm_nw (I : pm_I) (r : Nat) : pm_I := fun q => if q = r then (fun _ => 0) else I q
/-- the addresses go up one by one -/
def pm_lin (G : pm_G) (N : Nat) : Prop := ∀ r, 1 ≤ r → r ≤ N → pm_ad G r = pm_b G + r - 1
theorem pm_k_in {G : pm_G} {j r : Nat} {S : List Nat} {k : Nat ⊕ (Nat × Nat)} (hr : r ∈ S) (h1 : 1 ≤ r) (h2 : r ≤ j) (hk : pm_kd G r = k) : pm_k (pm_st G j S) r (pm_dy k) := ⟨h1, h2, by show (if r ∈ S then pm_dy (pm_kd G r) else pm_kd G r) = _; rw [if_pos hr, hk]⟩
theorem pm_k_out {G : pm_G} {j r : Nat} {S : List Nat} {k : Nat ⊕ (Nat × Nat)} (hr : r ∉ S) (h1 : 1 ≤ r) (h2 : r ≤ j) (hk : pm_kd G r = k) : pm_k (pm_st G j S) r k := ⟨h1, h2, by show (if r ∈ S then pm_dy (pm_kd G r) else pm_kd G r) = _; rw [if_neg hr, hk]⟩
theorem pm_w_push {G G' : pm_G} {I I' : pm_I} {j : Nat} (hn : pm_n G = j) (hn' : pm_n G' = j + 1) (hrow : ∀ r, 1 ≤ r → r ≤ j → (pm_ad G' r, pm_c G' (pm_kd G' r) r (I' r)) = (pm_ad G r, pm_c G (pm_kd G r) r (I r))) : pm_w G' I' = pm_w G I ++ [(pm_ad G' (j + 1), pm_c G' (pm_kd G' (j + 1)) (j + 1) (I' (j + 1)))] := by
  unfold pm_w
  rw [hn, hn', List.range_succ, List.map_append]
  congr 1
  apply List.map_congr_left
  intro k hk
  exact hrow (k + 1) (by omega) (by have := List.mem_range.mp hk; omega)
/-- what holds of a stage: kept by every next one -/
theorem pm_sh_mono {G G' : pm_G} (h : ∀ r k, pm_k G r k → pm_k G' r k) (r : Nat) (k : Nat ⊕ (Nat × Nat)) (hs : pm_sh G r k) : pm_sh G' r k := by
  unfold pm_sh at hs ⊢
  split at hs
  · exact h _ _ hs
  · exact ⟨h _ _ hs.1, h _ _ hs.2.1, h _ _ hs.2.2.1, h _ _ hs.2.2.2.1, h _ _ hs.2.2.2.2⟩
  · exact h _ _ hs
  · exact ⟨h _ _ hs.1, h _ _ hs.2⟩
  · exact ⟨h _ _ hs.1, h _ _ hs.2.1, h _ _ hs.2.2.1, h _ _ hs.2.2.2⟩
  · exact ⟨h _ _ hs.1, h _ _ hs.2.1, h _ _ hs.2.2⟩
  · exact ⟨h _ _ hs.1, h _ _ hs.2.1, h _ _ hs.2.2.1, h _ _ hs.2.2.2.1, h _ _ hs.2.2.2.2.1, h _ _ hs.2.2.2.2.2⟩
  · obtain ⟨a1, a2, a3, a4, a5, a6, a7, a8, a9, a10, a11, a12, a13, a14, a15⟩ := hs
    exact ⟨h _ _ a1, h _ _ a2, h _ _ a3, h _ _ a4, h _ _ a5, h _ _ a6, h _ _ a7, h _ _ a8, h _ _ a9, h _ _ a10, h _ _ a11, h _ _ a12, h _ _ a13, h _ _ a14, h _ _ a15⟩
  · exact fun j hj => h _ _ (hs j hj)
  · exact fun j hj => h _ _ (hs j hj)
  · trivial
/-- a row that stands alone, or isn't finished, asks for nothing -/
def pm_free (k : Nat ⊕ (Nat × Nat)) : Bool := match k with
  | .inr (0, _) => true
  | .inr (1, _) => true
  | .inr (2, _) => true
  | .inr (3, _) => true
  | .inr (6, _) => true
  | .inr (7, _) => true
  | .inr (8, _) => true
  | _ => false
theorem pm_free_sh {G : pm_G} {r : Nat} {k : Nat ⊕ (Nat × Nat)} (h : pm_free k = true) : pm_sh G r k := by
  unfold pm_free at h
  split at h <;> first | trivial | exact absurd h (by decide)
theorem pm_st_k {G : pm_G} {j : Nat} {S S' : List Nat} (hS : ∀ r, r ≤ j → (r ∈ S' ↔ r ∈ S)) : ∀ r k, pm_k (pm_st G j S) r k → pm_k (pm_st G (j + 1) S') r k := by
  intro r k ⟨h1, h2, h3⟩
  have h2' : r ≤ j := h2
  refine ⟨h1, Nat.le_succ_of_le h2', ?_⟩
  have h3' : (if r ∈ S then pm_dy (pm_kd G r) else pm_kd G r) = k := h3
  show (if r ∈ S' then pm_dy (pm_kd G r) else pm_kd G r) = k
  rw [← h3']
  by_cases hr : r ∈ S
  · rw [if_pos hr, if_pos ((hS r h2').mpr hr)]
  · rw [if_neg hr, if_neg (fun q => hr ((hS r h2').mp q))]
/-- one row more -/
theorem pm_ok_next {G : pm_G} {j N : Nat} {S S' : List Nat} (hok : pm_ok (pm_st G j S)) (hlin : pm_lin G N) (hj : j + 1 ≤ N) (hS : ∀ r, r ≤ j → (r ∈ S' ↔ r ∈ S)) (hf : pm_free (if j + 1 ∈ S' then pm_dy (pm_kd G (j + 1)) else pm_kd G (j + 1)) = true) : pm_ok (pm_st G (j + 1) S') := by
  refine ⟨fun i k h1 h2 h3 h4 e => ?_, fun i h1 h2 => ?_, hok.2.2.1, fun r k hk => ?_⟩
  · have e' : pm_ad G i = pm_ad G k := e
    have h2' : i ≤ j + 1 := h2
    have h4' : k ≤ j + 1 := h4
    rw [hlin i h1 (by omega), hlin k h3 (by omega)] at e'
    omega
  · have h2' : i ≤ j + 1 := h2
    show pm_b G ≤ pm_ad G i
    rw [hlin i h1 (by omega)]
    omega
  · obtain ⟨h1, h2, h3⟩ := id hk
    have h2' : r ≤ j + 1 := h2
    by_cases hr : r = j + 1
    · subst hr
      have h3' : (if j + 1 ∈ S' then pm_dy (pm_kd G (j + 1)) else pm_kd G (j + 1)) = k := h3
      rw [h3'] at hf
      exact pm_free_sh hf
    · have hk' : pm_k (pm_st G j S) r k := by
        refine ⟨h1, (by show r ≤ j; omega), ?_⟩
        have h3' : (if r ∈ S' then pm_dy (pm_kd G r) else pm_kd G r) = k := h3
        show (if r ∈ S then pm_dy (pm_kd G r) else pm_kd G r) = k
        rw [← h3']
        by_cases hq : r ∈ S
        · rw [if_pos hq, if_pos ((hS r (by omega)).mpr hq)]
        · rw [if_neg hq, if_neg (fun z => hq ((hS r (by omega)).mp z))]
      exact pm_sh_mono (pm_st_k hS) r k (hok.2.2.2 r k hk')
/-- a row is finished -/
theorem pm_ok_done {G : pm_G} {j q : Nat} {S : List Nat} (hq : q ∉ S) (hok : pm_ok (pm_st G j (q :: S))) (hsh : pm_sh (pm_st G j S) q (pm_kd G q)) : pm_ok (pm_st G j S) := by
  have hm : ∀ r k, r ≠ q → pm_k (pm_st G j S) r k → pm_k (pm_st G j (q :: S)) r k := by
    intro r k hr ⟨h1, h2, h3⟩
    refine ⟨h1, h2, ?_⟩
    have h3' : (if r ∈ S then pm_dy (pm_kd G r) else pm_kd G r) = k := h3
    show (if r ∈ q :: S then pm_dy (pm_kd G r) else pm_kd G r) = k
    rw [← h3']
    by_cases hs : r ∈ S
    · rw [if_pos hs, if_pos (List.mem_cons_of_mem _ hs)]
    · rw [if_neg hs, if_neg (fun z => (List.mem_cons.mp z).elim hr hs)]
  have hb : ∀ r k, r ≠ q → pm_k (pm_st G j (q :: S)) r k → pm_k (pm_st G j S) r k := by
    intro r k hr ⟨h1, h2, h3⟩
    refine ⟨h1, h2, ?_⟩
    have h3' : (if r ∈ q :: S then pm_dy (pm_kd G r) else pm_kd G r) = k := h3
    show (if r ∈ S then pm_dy (pm_kd G r) else pm_kd G r) = k
    rw [← h3']
    by_cases hs : r ∈ S
    · rw [if_pos hs, if_pos (List.mem_cons_of_mem _ hs)]
    · rw [if_neg hs, if_neg (fun z => (List.mem_cons.mp z).elim hr hs)]
  refine ⟨hok.1, hok.2.1, hok.2.2.1, fun r k hk => ?_⟩
  by_cases hr : r = q
  · subst hr
    obtain ⟨h1, h2, h3⟩ := hk
    have h3' : (if r ∈ S then pm_dy (pm_kd G r) else pm_kd G r) = k := h3
    rw [if_neg hq] at h3'
    rw [← h3']
    exact hsh
  · have h0 := hok.2.2.2 r k (hm r k hr hk)
    -- none of the rows behind r is q while q isn't finished: q's kind there is one that no shape names
    have hnk : ∀ k', pm_k (pm_st G j (q :: S)) q k' → k' = pm_dy (pm_kd G q) := by
      intro k' ⟨_, _, h3⟩
      have h3' : (if q ∈ q :: S then pm_dy (pm_kd G q) else pm_kd G q) = k' := h3
      rw [if_pos List.mem_cons_self] at h3'
      exact h3'.symm
    have hgo : ∀ r' k', (∀ k0, k' ≠ pm_dy k0 ∨ pm_free k' = true ∧ k' = k0 → True) → pm_k (pm_st G j (q :: S)) r' k' → (r' = q → k' = pm_kd G q) → pm_k (pm_st G j S) r' k' := by
      intro r' k' _ hk' hq'
      by_cases hrq : r' = q
      · have := hq' hrq
        subst hrq
        obtain ⟨h1, h2, -⟩ := hk'
        exact ⟨h1, h2, by show (if r' ∈ S then pm_dy (pm_kd G r') else pm_kd G r') = k'; rw [if_neg hq, this]⟩
      · exact hb r' k' hrq hk'
    have hdy : ∀ k', (k' = .inl 3 ∨ k' = .inl 4 ∨ k' = .inl 5 ∨ k' = .inl 0 ∨ (∃ n, k' = .inr (4, n)) ∨ (∃ n, k' = .inr (5, n)) ∨ (∃ t n, t < 4 ∧ k' = .inr (t, n))) → k' = pm_dy (pm_kd G q) → k' = pm_kd G q := by
      intro k' hc e
      cases hkq : pm_kd G q with
      | inl c => rw [hkq] at e; rcases hc with rfl | rfl | rfl | rfl | ⟨n, rfl⟩ | ⟨n, rfl⟩ | ⟨t, n, ht, rfl⟩ <;> simp [pm_dy] at e <;> omega
      | inr tn =>
        obtain ⟨t0, n0⟩ := tn
        rw [hkq] at e
        unfold pm_dy at e
        split at e
        · rename_i hh; cases hh
        · rcases hc with rfl | rfl | rfl | rfl | ⟨n, rfl⟩ | ⟨n, rfl⟩ | ⟨t, n, ht, rfl⟩ <;> simp at e <;> omega
        · rcases hc with rfl | rfl | rfl | rfl | ⟨n, rfl⟩ | ⟨n, rfl⟩ | ⟨t, n, ht, rfl⟩ <;> simp at e <;> omega
        · rename_i hh
          cases hh
          exact e
    have hall : ∀ r' k', (k' = .inl 3 ∨ k' = .inl 4 ∨ k' = .inl 5 ∨ k' = .inl 0 ∨ (∃ n, k' = .inr (4, n)) ∨ (∃ n, k' = .inr (5, n)) ∨ (∃ t n, t < 4 ∧ k' = .inr (t, n))) → pm_k (pm_st G j (q :: S)) r' k' → pm_k (pm_st G j S) r' k' := by
      intro r' k' hc hk'
      refine hgo r' k' (fun _ _ => trivial) hk' (fun e => ?_)
      subst e
      exact hdy k' hc (hnk k' hk')
    have i0 : ∀ n : Nat, ∃ t m : Nat, t < 4 ∧ (Sum.inr (0, n) : Nat ⊕ (Nat × Nat)) = .inr (t, m) := fun n => ⟨0, n, by omega, rfl⟩
    have i1 : ∀ n : Nat, ∃ t m : Nat, t < 4 ∧ (Sum.inr (1, n) : Nat ⊕ (Nat × Nat)) = .inr (t, m) := fun n => ⟨1, n, by omega, rfl⟩
    have i2 : ∀ n : Nat, ∃ t m : Nat, t < 4 ∧ (Sum.inr (2, n) : Nat ⊕ (Nat × Nat)) = .inr (t, m) := fun n => ⟨2, n, by omega, rfl⟩
    unfold pm_sh at h0 ⊢
    split at h0
    · exact hall _ _ (by simp) h0
    · exact ⟨hall _ _ (by simp [i0]) h0.1, hall _ _ (by simp [i0]) h0.2.1, hall _ _ (by simp [i0]) h0.2.2.1, hall _ _ (by simp [i0]) h0.2.2.2.1, hall _ _ (by simp) h0.2.2.2.2⟩
    · exact hall _ _ (by simp [i1]) h0
    · exact ⟨hall _ _ (by simp [i0]) h0.1, hall _ _ (by simp [i0]) h0.2⟩
    · exact ⟨hall _ _ (by simp [i0]) h0.1, hall _ _ (by simp [i0]) h0.2.1, hall _ _ (by simp [i0]) h0.2.2.1, hall _ _ (by simp [i0]) h0.2.2.2⟩
    · exact ⟨hall _ _ (by simp [i0]) h0.1, hall _ _ (by simp [i0]) h0.2.1, hall _ _ (by simp) h0.2.2⟩
    · exact ⟨hall _ _ (by simp [i1]) h0.1, hall _ _ (by simp) h0.2.1, hall _ _ (by simp) h0.2.2.1, hall _ _ (by simp) h0.2.2.2.1, hall _ _ (by simp) h0.2.2.2.2.1, hall _ _ (by simp [i2]) h0.2.2.2.2.2⟩
    · obtain ⟨a1, a2, a3, a4, a5, a6, a7, a8, a9, a10, a11, a12, a13, a14, a15⟩ := h0
      exact ⟨hall _ _ (by simp [i0]) a1, hall _ _ (by simp [i0]) a2, hall _ _ (by simp [i0]) a3, hall _ _ (by simp [i0]) a4, hall _ _ (by simp [i0]) a5, hall _ _ (by simp [i0]) a6, hall _ _ (by simp [i0]) a7, hall _ _ (by simp [i0]) a8, hall _ _ (by simp [i1]) a9, hall _ _ (by simp [i0]) a10, hall _ _ (by simp [i0]) a11, hall _ _ (by simp [i0]) a12, hall _ _ (by simp [i0]) a13, hall _ _ (by simp [i0]) a14, hall _ _ (by simp [i2]) a15⟩
    · exact fun i hi => hall _ _ (by simp) (h0 i hi)
    · exact fun i hi => hall _ _ (by simp) (h0 i hi)
    · trivial
theorem pm_C_st {G : pm_G} {X : pm_X} {j j' : Nat} {S S' : List Nat} {cc : ByteArray} {nL : Nat} {own : String} {ret : Option FieldType} {rm : Room} (hC : pm_C (pm_st G j S) X cc nL own ret rm) (hok : pm_ok (pm_st G j' S')) : pm_C (pm_st G j' S') X cc nL own ret rm := by
  obtain ⟨p, l, e, R, s, m, args, below, meth, c, Q⟩ := X
  obtain ⟨h1, h2, h3, h4, h5, h6, h7, h8, -⟩ := hC
  exact ⟨h1, h2, h3, h4, h5, h6, h7, h8, hok⟩
def pm_sz (X : pm_X) : Nat := X.2.2.2.2.1.heap.size
/-- the heap's size at a stage -/
theorem pm_hsize {G : pm_G} {j a b' : Nat} {S : List Nat} {I : pm_I} {p : Program} {l : Launch} {e : Env} {R : Room} {s : State} {m : MethodId} {args : Array Value} {below : List Frame} {meth : Method} {c : Code} {T : State} {H : Heap} {locs : List Loc} (hlin : pm_lin G j) (hT : pm_b G ≤ s.heap.size) (hz : s.heap.size + a = pm_b G + j) (hP : va_P (pm_D G) vwCl (pm_w (pm_st G j S) I) H) (hV : va_S (pm_A G) s.heap H locs) (hTH : T.heap = H) (Xs : Stand p l e R s m args below meth c T locs a b') : H.size = pm_b G + j := by
  have h1 := Xs.heapSize
  rw [hTH] at h1
  have h2 : pm_b G + j ≤ H.size := by
    by_cases hj : j = 0
    · have := hV.1; omega
    · have hk : pm_k (pm_st G j S) j (pm_kd (pm_st G j S) j) := ⟨by omega, Nat.le_refl j, rfl⟩
      have h3 : pm_ad G j < H.size := (hP (j - 1) _ (pm_w_at hk)).lt
      rw [hlin j (by omega) (Nat.le_refl j)] at h3
      omega
  omega

section PMK
variable {G : pm_G} {X : pm_X} {cc : ByteArray} {nL a b j N9 : Nat} {own : String} {ret : Option FieldType} {rm : Room} {ls : List (Option Value)} {st : List Value} {I : pm_I} {S : List Nat}
/-- Object's constructor -/
theorem m_obj (pc : Nat) {G : pm_G} {index r : Nat} (hC : pm_C G X cc nL own ret rm) (hlink : Cond.methodLink own index Lib.objectInit ∈ lw_tbl) (hinst : Cond.instanceMethod Lib.objectInit ∈ lw_tbl) (hcode : Cond.code Lib.objectInit ⟨#[0xb1]⟩ 1 none ∈ lw_tbl) (hfr : 1 ≤ rm.frames) (hlo : 20 ≤ rm.locals) (hw : (st.map fun v => v.category).sum ≤ 8) (hd : decode cc pc = .ok (.invokespecial index, 3)) (k : pm_R G X nL a b (pc + 3) ls st I) : pm_R G X nL a b pc ls (.ref r :: st) I := by
  obtain ⟨p, l, e, R, s, m, args, below, meth, c, Q⟩ := X
  obtain ⟨hx, hb, -, hml, ho, -, hT, rfl, hG⟩ := hC
  intro H locs la hP hV hL
  have hcat : ((st.map (pm_tr G)).map fun v => v.category).sum ≤ 8 := by
    rw [List.map_map]
    have : ((fun v : Value => v.category) ∘ pm_tr G) = fun v : Value => v.category := funext fun v => pm_cat G v
    rw [this]; exact hw
  refine W.objInit hx hb ho (hT.1.use hlink rfl) (hT.1.use hinst rfl) (hT.1.use hcode rfl) (g := F0 m pc la _) rfl (by obtain ⟨l9, h9, -⟩ := hL; rw [hml]; exact h9.1) (rest := st.map (pm_tr G)) rfl hd hfr (by have := lv_room (m := m) (pc := pc) (ls := la) (rest := []) hcat; show 2 * (F0 m pc la _).monitorRoom + _ + 12 ≤ _; have e0 : (F0 m pc la (List.map (pm_tr G) (Value.ref r :: st))).monitorRoom = 0 := rfl; rw [e0]; omega) (k H locs la hP hV hL)
/-- a new object: the row j + 1, not finished -/
theorem m_new (pc : Nat) {Cn : String} {T : u_T} {N ci index : Nat} (hC : pm_C (pm_st G j S) X cc nL own ret rm) (hlin : pm_lin G N9) (hj : j + 1 ≤ N9) (hz : pm_sz X + a = pm_b G + j) (hkd : pm_kd G (j + 1) = .inl ci) (hc : vwCl[ci]? = some (Cn, T, N)) (hin : ∀ w ∈ u_ws Cn T N, w ∈ lw_tbl) (hig : (u_ws Cn T N).all goodWord = true) (ty0 : Nat → FieldType) (hty : ∀ k, k < N → parseFieldDescriptor (T k).2.2.1 = some (ty0 k))
    (hcl : Cond.classLink own index Cn ∈ lw_tbl) (hins : Cond.instantiable Cn N ∈ lw_tbl) (hini : Cond.initialized Cn ∈ lw_tbl) (hfs : ∀ ad i, i < N → defaultValue (ty0 i) = vp_V (pm_fd ad ci (fun _ => 0)) i) (hab : a + 1 ≤ rm.cells ∧ b + N ≤ rm.slots) (hd : decode cc pc = .ok (.new index, 3))
    (k : pm_R (pm_st G (j + 1) ((j + 1) :: S)) X nL (a + 1) (b + N) (pc + 3) ls (.ref (j + 1) :: st) (pm_nw I (j + 1))) : pm_R (pm_st G j S) X nL a b pc ls st I := by
  obtain ⟨p, l, e, R, s, m, args, below, meth, c, Q⟩ := X
  obtain ⟨hx, hb, -, hml, ho, -, hT, rfl, hG⟩ := hC
  intro H locs la hP hV hL T9 hT9 Xs
  have hz' : s.heap.size + a = pm_b G + j := hz
  have hP' : va_P (pm_D G) vwCl (pm_w (pm_st G j S) I) H := hP
  have hV' : va_S (pm_A G) s.heap H locs := hV
  have hH : H.size = pm_b G + j := pm_hsize (fun r h1 h2 => hlin r h1 (by omega)) hT.2.2.2 hz' hP' hV' hT9 Xs
  have hts : ∀ w ∈ u_ws Cn T N, w.before args s = true := fun w hw => hT.1.use (hin w hw) (by unfold pm_tw; rw [List.all_eq_true.mp hig w hw]; rfl)
  have hKn := hT.2.1.1 ci _ hc
  have had : pm_ad G (j + 1) = pm_b G + j := by rw [hlin (j + 1) (by omega) hj]; omega
  refine W.newcK (h := pm_b G + j) hx hb ho (hT.1.use hcl rfl) (hT.1.use hins rfl) (hT.1.use hini rfl) (g := F0 m pc la (st.map (pm_tr (pm_st G j S)))) rfl hd hab.1 hab.2 hKn.2.1 hH (fun H1 kC hkC e1 z1 o1 => ?_) T9 hT9 Xs
  have hk9 : ∀ (i : Nat) (x : Nat × va_E), (pm_w (pm_st G j S) I)[i]? = some x → H1[x.1]? = H[x.1]? := fun i x hx9 => o1 x.1 (by rw [← hH]; exact (hP' i x hx9).lt)
  have hw9 : pm_w (pm_st G (j + 1) ((j + 1) :: S)) (pm_nw I (j + 1)) = pm_w (pm_st G j S) I ++ [(pm_ad G (j + 1), .inr (ci, pm_fd (pm_ad G) ci (fun _ => 0)))] := by
    rw [pm_w_push (G := pm_st G j S) (I := I) (j := j) rfl rfl (fun r h1 h2 => ?_)]
    · congr 2
      show (pm_ad G (j + 1), pm_c _ (if j + 1 ∈ (j + 1) :: S then pm_dy (pm_kd G (j + 1)) else pm_kd G (j + 1)) (j + 1) (pm_nw I (j + 1) (j + 1))) = _
      rw [if_pos List.mem_cons_self, hkd]
      show (pm_ad G (j + 1), pm_c _ (.inr (8, ci)) (j + 1) (if j + 1 = j + 1 then (fun _ => 0) else I (j + 1))) = _
      rw [if_pos rfl]
      rfl
    · have hne : r ≠ j + 1 := by omega
      show (pm_ad G r, pm_c _ (if r ∈ (j + 1) :: S then pm_dy (pm_kd G r) else pm_kd G r) r (if r = j + 1 then (fun _ => 0) else I r)) = (pm_ad G r, pm_c _ (if r ∈ S then pm_dy (pm_kd G r) else pm_kd G r) r (I r))
      rw [if_neg hne]
      by_cases hs : r ∈ S
      · rw [if_pos hs, if_pos (List.mem_cons_of_mem _ hs)]; rfl
      · rw [if_neg hs, if_neg (fun z => (List.mem_cons.mp z).elim hne hs)]; rfl
  have hP1 : va_P (pm_D G) vwCl (pm_w (pm_st G (j + 1) ((j + 1) :: S)) (pm_nw I (j + 1))) H1 := by
    rw [hw9]
    refine (hP'.kept hk9).app (fun i x hx9 => ?_)
    have hz9 : i < 1 := (List.getElem?_eq_some_iff.mp hx9).1
    rw [show i = 0 by omega] at hx9
    cases hx9
    exact ⟨_, hc, (u_born ty0 hts (fun _ h => h) hKn hkC (by rw [had]; exact e1) hty).to (hfs (pm_ad G))⟩
  have hV1 : va_S (pm_A G) s.heap H1 locs := ⟨Nat.le_trans hV'.1 (by omega), fun x h1 h2 => (o1 x (by have := hV'.1; omega)).trans (hV'.2.1 x h1 h2), hV'.2.2⟩
  have kk := k H1 locs la hP1 hV1 hL
  have e9 : (Value.ref (j + 1) :: st).map (pm_tr (pm_st G (j + 1) ((j + 1) :: S))) = .ref (pm_b G + j) :: st.map (pm_tr (pm_st G j S)) := by
    show Value.ref (pm_ad G (j + 1)) :: _ = _
    rw [had]
    rfl
  rw [e9] at kk
  exact kk
/-- a new array of numbers: the row j + 1 -/
theorem m_newa (pc : Nat) {t n : Nat} {x : Int32} {atype : ArrayType} (hC : pm_C (pm_st G j S) X cc nL own ret rm) (hlin : pm_lin G N9) (hj : j + 1 ≤ N9) (hz : pm_sz X + a = pm_b G + j) (hkd : pm_kd G (j + 1) = .inr (t, n)) (ht : (t, atype) ∈ [(0, ArrayType.int), (1, .byte), (2, .boolean), (3, .long)]) (hjS : j + 1 ∉ S) (harr : Cond.arrayClass (newarray.typeOf atype) ∈ lw_tbl) (hx0 : ¬ x < 0) (hxn : x.toNatClampNeg = n) (hnb : n ≤ 10000) (hab : a + 1 ≤ rm.cells ∧ b + n ≤ rm.slots) (hd : decode cc pc = .ok (.newarray atype, 2))
    (k : pm_R (pm_st G (j + 1) S) X nL (a + 1) (b + n) (pc + 2) ls (.ref (j + 1) :: st) (pm_nw I (j + 1))) : pm_R (pm_st G j S) X nL a b pc ls (.int x :: st) I := by
  obtain ⟨p, l, e, R, s, m, args, below, meth, c, Q⟩ := X
  obtain ⟨hx, hb, -, hml, ho, -, hT, rfl, hG⟩ := hC
  intro H locs la hP hV hL T9 hT9 Xs
  have hz' : s.heap.size + a = pm_b G + j := hz
  have hP' : va_P (pm_D G) vwCl (pm_w (pm_st G j S) I) H := hP
  have hV' : va_S (pm_A G) s.heap H locs := hV
  have hH : H.size = pm_b G + j := pm_hsize (fun r h1 h2 => hlin r h1 (by omega)) hT.2.2.2 hz' hP' hV' hT9 Xs
  have had : pm_ad G (j + 1) = pm_b G + j := by rw [hlin (j + 1) (by omega) hj]; omega
  have hca : ∀ cA, s.vm.findClass ("[" ++ (newarray.typeOf atype).toString) = some cA → cA = pm_ca G t ∧ pm_c (pm_st G (j + 1) S) (.inr (t, n)) (j + 1) (fun _ => 0) = .inl (cA, n, (if t = 3 then .inr (.inl (fun _ => 0)) else .inl (fun _ => 0))) := by
    intro cA hf
    simp only [List.mem_cons, Prod.mk.injEq, List.not_mem_nil, or_false] at ht
    rcases ht with ⟨rfl, rfl⟩ | ⟨rfl, rfl⟩ | ⟨rfl, rfl⟩ | ⟨rfl, rfl⟩
    · have := (hT.2.1.2 0 _ rfl).2; cases hf.symm.trans this; exact ⟨rfl, rfl⟩
    · have := (hT.2.1.2 1 _ rfl).2; cases hf.symm.trans this; exact ⟨rfl, rfl⟩
    · have := (hT.2.1.2 2 _ rfl).2; cases hf.symm.trans this; exact ⟨rfl, rfl⟩
    · have := (hT.2.1.2 3 _ rfl).2; cases hf.symm.trans this; exact ⟨rfl, rfl⟩
  have hcb : componentBytes (newarray.typeOf atype) ≤ 8 := by
    simp only [List.mem_cons, Prod.mk.injEq, List.not_mem_nil, or_false] at ht
    rcases ht with ⟨rfl, rfl⟩ | ⟨rfl, rfl⟩ | ⟨rfl, rfl⟩ | ⟨rfl, rfl⟩ <;> decide
  refine va_newaK (h := pm_b G + j) (N := n) hx hb (hT.1.use harr rfl) (g := F0 m pc la _) rfl hd (rest := st.map (pm_tr (pm_st G j S))) rfl hx0 hxn (Nat.le_trans (Nat.mul_le_mul hnb hcb) (by decide)) hab.1 hab.2 hH (fun H1 cA e1 z1 o1 hAr hNm => ?_) T9 hT9 Xs
  obtain ⟨hcA, hcell⟩ := hca cA hNm
  have hk9 : ∀ (i : Nat) (x : Nat × va_E), (pm_w (pm_st G j S) I)[i]? = some x → H1[x.1]? = H[x.1]? := fun i x hx9 => o1 x.1 (by rw [← hH]; exact (hP' i x hx9).lt)
  have hw9 : pm_w (pm_st G (j + 1) S) (pm_nw I (j + 1)) = pm_w (pm_st G j S) I ++ [(pm_ad G (j + 1), .inl (cA, n, (if t = 3 then .inr (.inl (fun _ => 0)) else .inl (fun _ => 0))))] := by
    rw [pm_w_push (G := pm_st G j S) (I := I) (j := j) rfl rfl (fun r h1 h2 => ?_)]
    · congr 2
      show (pm_ad G (j + 1), pm_c _ (if j + 1 ∈ S then pm_dy (pm_kd G (j + 1)) else pm_kd G (j + 1)) (j + 1) (pm_nw I (j + 1) (j + 1))) = _
      rw [if_neg hjS, hkd, ← hcell]
      show (pm_ad G (j + 1), pm_c _ (.inr (t, n)) (j + 1) (if j + 1 = j + 1 then (fun _ => 0) else I (j + 1))) = _
      rw [if_pos rfl]
    · have hne : r ≠ j + 1 := by omega
      show (pm_ad G r, pm_c _ (if r ∈ S then pm_dy (pm_kd G r) else pm_kd G r) r (if r = j + 1 then (fun _ => 0) else I r)) = (pm_ad G r, pm_c _ (if r ∈ S then pm_dy (pm_kd G r) else pm_kd G r) r (I r))
      rw [if_neg hne]
      rfl
  have hP1 : va_P (pm_D G) vwCl (pm_w (pm_st G (j + 1) S) (pm_nw I (j + 1))) H1 := by
    rw [hw9]
    refine (hP'.kept hk9).app (fun i x hx9 => ?_)
    have hz9 : i < 1 := (List.getElem?_eq_some_iff.mp hx9).1
    rw [show i = 0 by omega] at hx9
    cases hx9
    show H1[pm_ad G (j + 1)]? = some (vp_cell _ _)
    rw [had, e1]
    simp only [List.mem_cons, Prod.mk.injEq, List.not_mem_nil, or_false] at ht
    rcases ht with ⟨rfl, rfl⟩ | ⟨rfl, rfl⟩ | ⟨rfl, rfl⟩ | ⟨rfl, rfl⟩ <;> rfl
  have hV1 : va_S (pm_A G) s.heap H1 locs := ⟨Nat.le_trans hV'.1 (by omega), fun x h1 h2 => (o1 x (by have := hV'.1; omega)).trans (hV'.2.1 x h1 h2), hV'.2.2⟩
  have kk := k H1 locs la hP1 hV1 hL
  have e9 : (Value.ref (j + 1) :: st).map (pm_tr (pm_st G (j + 1) S)) = .ref (pm_b G + j) :: st.map (pm_tr (pm_st G j S)) := by
    show Value.ref (pm_ad G (j + 1)) :: _ = _
    rw [had]
    rfl
  rw [e9] at kk
  exact kk
/-- a field of an object that isn't finished -/
theorem m_put (pc : Nat) {G : pm_G} {Cn : String} {T : u_T} {N ci index r : Nat} {v : Value} {x : Int32} {ty : FieldType} (hC : pm_C G X cc nL Cn ret rm) (hI : X.2.2.2.2.2.2.2.2.1.name = "<init>") (hk : pm_k G r (.inr (8, ci))) (hc : vwCl[ci]? = some (Cn, T, N)) (hin : ∀ w ∈ u_ws Cn T N, w ∈ lw_tbl) (hig : (u_ws Cn T N).all goodWord = true) (ty0 : Nat → FieldType) (hty : ∀ k, k < N → parseFieldDescriptor (T k).2.2.1 = some (ty0 k)) (hnm : ∀ a, a < N → ∀ b, b < N → a ≠ b → (T a).2.1 ≠ (T b).2.1) (k0 : Nat) (hk0 : k0 < N) (hlink : Cond.fieldLink Cn index Cn (T k0).2.1 (T k0).2.2.1 ∈ lw_tbl) (href : Cn = (T k0).1) (hde : parseFieldDescriptor (T k0).2.2.1 = some ty) (hn : narrow ty (pm_tr G v) = pm_tr G v) (hfit : fits ty (pm_tr G v) = true) (hl : ∀ f, (pm_fd (pm_ad G) ci f).length = N) (hset : (pm_fd (pm_ad G) ci (I r)).set k0 (pm_tr G v) = pm_fd (pm_ad G) ci (upd (I r) k0 x)) (hd : decode cc pc = .ok (.putfield index, 3)) (k : ∀ I1, I1 = pm_up I r k0 x → pm_R G X nL a b (pc + 3) ls st I1) : pm_R G X nL a b pc ls (v :: .ref r :: st) I := by
  obtain ⟨p, l, e, R, s, m, args, below, meth, c, Q⟩ := X
  obtain ⟨hx, hb, -, -, ho, -, hT, -, hG⟩ := hC
  intro H locs la hP hS hL
  have hts : ∀ w ∈ u_ws Cn T N, w.before args s = true := fun w hw => hT.1.use (hin w hw) (by unfold pm_tw; rw [List.all_eq_true.mp hig w hw]; rfl)
  have hgo : ∀ (H1 : Heap) (locs1 : List Loc), va_P (pm_D G) vwCl ((pm_w G I).set (r - 1) (pm_ad G r, .inr (ci, (pm_fd (pm_ad G) ci (I r)).set k0 (pm_tr G v)))) H1 → va_D (pm_A G) ((pm_w G I).set (r - 1) (pm_ad G r, .inr (ci, (pm_fd (pm_ad G) ci (I r)).set k0 (pm_tr G v)))) → va_S (pm_A G) s.heap H1 locs1 → W p l e R s m args below meth c H1 locs1 a b Q (F0 m (pc + 3) la (st.map (pm_tr G))) := by
    intro H1 locs1 hP1 _ hS1
    rw [pm_w_set (I' := pm_up I r k0 x) hk (by rw [pm_up_row, hset]; rfl) pm_up_ne] at hP1
    exact k _ rfl H1 locs1 la hP1 hS1 hL
  by_cases hfin : (T k0).2.2.2 = true
  · exact va_putF (own := Cn) (ref := Cn) (C := Cn) (T := T) (N := N) (ci := ci) (index := index) hx hb hts (fun _ h => h) ty0 hty hnm ho hT.2.1 hP (pm_va_D hG I) hS (r - 1) (pm_w_at hk) hc k0 hk0 (hT.1.use hlink rfl) (fun x h => by rw [← href] at h; exact h) hfin hI href.symm hde hn hfit (by rw [hl]; exact hk0) hd hgo
  · exact va_put (own := Cn) (ref := Cn) (C := Cn) (T := T) (N := N) (ci := ci) (index := index) hx hb hts (fun _ h => h) ty0 hty hnm ho hT.2.1 hP (pm_va_D hG I) hS (r - 1) (pm_w_at hk) hc k0 hk0 (hT.1.use hlink rfl) (fun x h => by rw [← href] at h; exact h) (by cases hq : (T k0).2.2.2 with | true => exact absurd hq hfin | false => rfl) hde hn hfit (by rw [hl]; exact hk0) hd hgo
end PMK
theorem pm_rv_nI {ad : Nat → Nat} {r : Nat} (h0 : 0 < r) (h : r < 2 ^ 31) : pm_rv ad (nI r) = .ref (ad r) := by
  unfold pm_rv
  rw [if_neg (nI_ne0 h0 h), nI_clamp h]
theorem pm_ro_nI {ad : Nat → Nat} {r : Nat} (h0 : 0 < r) (h : r < 2 ^ 31) : pm_ro ad (nI r) = some (ad r) := by
  unfold pm_ro
  rw [if_neg (nI_ne0 h0 h), nI_clamp h]
def pm_mk (G : pm_G) : Prop := ∀ U, pm_SS G U → va_AO RX4 U ∧ va_AO RX5 U
section PML
variable {G : pm_G} {X : pm_X} {cc : ByteArray} {nL a b j N9 : Nat} {own : String} {ret : Option FieldType} {rm : Room} {ls : List (Option Value)} {st : List Value} {I : pm_I} {S : List Nat}
/-- a new array of references: the row j + 1, not finished -/
theorem m_anew (pc : Nat) {t n index : Nat} {x : Int32} {Cn : String} (hC : pm_C (pm_st G j S) X cc nL own ret rm) (hmk : pm_mk G) (hlin : pm_lin G N9) (hj : j + 1 ≤ N9) (hz : pm_sz X + a = pm_b G + j) (hkd : pm_kd G (j + 1) = .inr (t, n)) (ht : (t, Cn) = (4, RX4) ∨ (t, Cn) = (5, RX5)) (hcl : Cond.classLink own index Cn ∈ lw_tbl) (hx0 : ¬ x < 0) (hxn : x.toNatClampNeg = n) (hnb : n ≤ 10000) (hab : a + 1 ≤ rm.cells ∧ b + n ≤ rm.slots) (hd : decode cc pc = .ok (.anewarray index, 3))
    (k : pm_R (pm_st G (j + 1) ((j + 1) :: S)) X nL (a + 1) (b + n) (pc + 3) ls (.ref (j + 1) :: st) (pm_nw I (j + 1))) : pm_R (pm_st G j S) X nL a b pc ls (.int x :: st) I := by
  obtain ⟨p, l, e, R, s, m, args, below, meth, c, Q⟩ := X
  obtain ⟨hx, hb, -, hml, ho, -, hT, rfl, hG⟩ := hC
  intro H locs la hP hV hL T9 hT9 Xs
  have hz' : s.heap.size + a = pm_b G + j := hz
  have hP' : va_P (pm_D G) vwCl (pm_w (pm_st G j S) I) H := hP
  have hV' : va_S (pm_A G) s.heap H locs := hV
  have hH : H.size = pm_b G + j := pm_hsize (fun r h1 h2 => hlin r h1 (by omega)) hT.2.2.2 hz' hP' hV' hT9 Xs
  have had : pm_ad G (j + 1) = pm_b G + j := by rw [hlin (j + 1) (by omega) hj]; omega
  have hao : va_AO Cn s := by
    have := hmk s hT.2.2.1
    rcases ht with h | h <;> cases h
    · exact this.1
    · exact this.2
  have hro : (fun i : Nat => pm_ro (pm_ad G) ((fun _ => 0 : Nat → Int32) i)) = fun _ => none := funext fun i => by unfold pm_ro; rw [if_pos rfl]
  have hca : ∀ cA, s.vm.findClass ("[" ++ (FieldType.object Cn).toString) = some cA → pm_c (pm_st G (j + 1) ((j + 1) :: S)) (pm_dy (.inr (t, n))) (j + 1) (fun _ => 0) = .inl (cA, n, .inr (.inr (.inr (.inr (fun _ => none))))) := by
    intro cA hf
    rcases ht with h | h <;> cases h
    · obtain ⟨kA, comp, g1, g2, g3, g4⟩ := (hT.2.1.2 4 _ rfl).2
      cases hf.symm.trans g4
      show (Sum.inl (pm_ca G 4, n, .inr (.inr (.inr (.inr (fun i : Nat => pm_ro (pm_ad G) ((fun _ => 0 : Nat → Int32) i)))))) : va_E) = _
      rw [hro]
      rfl
    · obtain ⟨kA, comp, g1, g2, g3, g4⟩ := (hT.2.1.2 5 _ rfl).2
      cases hf.symm.trans g4
      show (Sum.inl (pm_ca G 5, n, .inr (.inr (.inr (.inr (fun i : Nat => pm_ro (pm_ad G) ((fun _ => 0 : Nat → Int32) i)))))) : va_E) = _
      rw [hro]
      rfl
  refine W.anew hx hb ho (hT.1.use hcl rfl) (va_AO.use hao) (g := F0 m pc la _) rfl hd (rest := st.map (pm_tr (pm_st G j S))) rfl hx0 (by rw [hxn]; omega) hab.1 (by rw [hxn]; exact hab.2) (fun cA kA comp f1 f2 f3 f4 => ?_) T9 hT9 Xs
  rw [hxn]
  generalize hH1 : H.push ({ cls := cA, slots := Array.replicate n .null, vm := .none } : Cell) = H1
  have z1 : H1.size = pm_b G + j + 1 := by rw [← hH1, Array.size_push, hH]
  have e1 : H1[pm_b G + j]? = some (arrV cA n (fun _ => .null)) := by rw [← hH1, ← hH, Array.getElem?_push_size, ← arrV_new]
  have o1 : ∀ q : Nat, q < pm_b G + j → H1[q]? = H[q]? := fun q hq => by rw [← hH1, Array.getElem?_push, if_neg (by omega)]
  have hcell := hca cA f1
  have hk9 : ∀ (i : Nat) (x : Nat × va_E), (pm_w (pm_st G j S) I)[i]? = some x → H1[x.1]? = H[x.1]? := fun i x hx9 => o1 x.1 (by rw [← hH]; exact (hP' i x hx9).lt)
  have hw9 : pm_w (pm_st G (j + 1) ((j + 1) :: S)) (pm_nw I (j + 1)) = pm_w (pm_st G j S) I ++ [(pm_ad G (j + 1), .inl (cA, n, .inr (.inr (.inr (.inr (fun _ => none))))))] := by
    rw [pm_w_push (G := pm_st G j S) (I := I) (j := j) rfl rfl (fun r h1 h2 => ?_)]
    · congr 2
      show (pm_ad G (j + 1), pm_c _ (if j + 1 ∈ (j + 1) :: S then pm_dy (pm_kd G (j + 1)) else pm_kd G (j + 1)) (j + 1) (pm_nw I (j + 1) (j + 1))) = _
      rw [if_pos List.mem_cons_self, hkd, ← hcell]
      show (pm_ad G (j + 1), pm_c _ _ (j + 1) (if j + 1 = j + 1 then (fun _ => 0) else I (j + 1))) = _
      rw [if_pos rfl]
    · have hne : r ≠ j + 1 := by omega
      show (pm_ad G r, pm_c _ (if r ∈ (j + 1) :: S then pm_dy (pm_kd G r) else pm_kd G r) r (if r = j + 1 then (fun _ => 0) else I r)) = (pm_ad G r, pm_c _ (if r ∈ S then pm_dy (pm_kd G r) else pm_kd G r) r (I r))
      rw [if_neg hne]
      by_cases hs : r ∈ S
      · rw [if_pos hs, if_pos (List.mem_cons_of_mem _ hs)]; rfl
      · rw [if_neg hs, if_neg (fun z => (List.mem_cons.mp z).elim hne hs)]; rfl
  have hP1 : va_P (pm_D G) vwCl (pm_w (pm_st G (j + 1) ((j + 1) :: S)) (pm_nw I (j + 1))) H1 := by
    rw [hw9]
    refine (hP'.kept hk9).app (fun i x hx9 => ?_)
    have hz9 : i < 1 := (List.getElem?_eq_some_iff.mp hx9).1
    rw [show i = 0 by omega] at hx9
    cases hx9
    show H1[pm_ad G (j + 1)]? = some (vp_cell _ _)
    rw [had, e1, vp_cell_q]
    rfl
  have hV1 : va_S (pm_A G) s.heap H1 locs := ⟨Nat.le_trans hV'.1 (by omega), fun x h1 h2 => (o1 x (by have := hV'.1; omega)).trans (hV'.2.1 x h1 h2), hV'.2.2⟩
  have kk := k H1 locs la hP1 hV1 hL
  have e9 : (Value.ref (j + 1) :: st).map (pm_tr (pm_st G (j + 1) ((j + 1) :: S))) = .ref H.size :: st.map (pm_tr (pm_st G j S)) := by
    show Value.ref (pm_ad G (j + 1)) :: _ = _
    rw [had, hH]
    rfl
  rw [e9] at kk
  exact kk
/-- a reference out of an object that isn't finished -/
theorem m_get (pc : Nat) {G : pm_G} {Cn : String} {T : u_T} {N ci index r r1 : Nat} (hC : pm_C G X cc nL Cn ret rm) (hk : pm_k G r (.inr (8, ci))) (hc : vwCl[ci]? = some (Cn, T, N)) (hin : ∀ w ∈ u_ws Cn T N, w ∈ lw_tbl) (hig : (u_ws Cn T N).all goodWord = true) (k0 : Nat) (hk0 : k0 < N) (hlink : Cond.fieldLink Cn index Cn (T k0).2.1 (T k0).2.2.1 ∈ lw_tbl) (href : Cn = (T k0).1) (hv : (pm_fd (pm_ad G) ci (I r))[k0]? = some (pm_rv (pm_ad G) (I r k0))) (hI : I r k0 = nI r1) (h0 : 0 < r1) (h31 : r1 < 2 ^ 31) (hd : decode cc pc = .ok (.getfield index, 3)) (k : pm_R G X nL a b (pc + 3) ls (.ref r1 :: st) I) : pm_R G X nL a b pc ls (.ref r :: st) I := by
  obtain ⟨p, l, e, R, s, m, args, below, meth, c, Q⟩ := X
  obtain ⟨hx, hb, -, -, ho, -, hT, -, hG⟩ := hC
  intro H locs la hP hS hL
  have hts : ∀ w ∈ u_ws Cn T N, w.before args s = true := fun w hw => hT.1.use (hin w hw) (by unfold pm_tw; rw [List.all_eq_true.mp hig w hw]; rfl)
  have hv' : (pm_fd (pm_ad G) ci (I r))[k0]? = some (.ref (pm_ad G r1)) := by rw [hv, hI, pm_rv_nI h0 h31]
  exact va_get (own := Cn) (ref := Cn) (C := Cn) (T := T) (N := N) (ci := ci) (index := index) hx hb hts (fun _ h => h) ho hT.2.1 hP (r - 1) (pm_w_at hk) hc k0 hk0 (hT.1.use hlink rfl) (fun x h => by rw [← href] at h; exact h) hv' hd (k H locs la hP hS hL)
/-- a finished object into an array of references that isn't finished -/
theorem m_aast (pc : Nat) {G : pm_G} {t n r v ci : Nat} {i : Int32} {Cn : String} {T : u_T} {N : Nat} (hC : pm_C G X cc nL own ret rm) (hk : pm_k G r (.inr (t, n))) (ht : (t, ci) = (6, 4) ∨ (t, ci) = (7, 5)) (hkv : pm_k G v (.inl ci)) (h31 : v < 2 ^ 31) (hin : vp_in i n) (hd : decode cc pc = .ok (.aastore, 1)) (k : ∀ I1, I1 = pm_up I r i.toNatClampNeg (nI v) → pm_R G X nL a b (pc + 1) ls st I1) : pm_R G X nL a b pc ls (.ref v :: .int i :: .ref r :: st) I := by
  obtain ⟨p, l, e, R, s, m, args, below, meth, c, Q⟩ := X
  obtain ⟨hx, hb, -, -, ho, -, hT, -, hG⟩ := hC
  intro H locs la hP hS hL
  have hup : va_up (fun i9 : Nat => pm_ro (pm_ad G) (I r i9)) i.toNatClampNeg (some (pm_ad G v)) = fun i9 => pm_ro (pm_ad G) (upd (I r) i.toNatClampNeg (nI v) i9) := funext fun q => by
    unfold va_up upd
    by_cases hq : q = i.toNatClampNeg
    · rw [if_pos hq, if_pos hq, pm_ro_nI hkv.1 h31]
    · rw [if_neg hq, if_neg hq]
  rcases ht with h | h <;> cases h
  · refine va_astq (r := (RX4, TX4, 17)) hx hb hT.2.1 hP (pm_va_D hG I) hS (r - 1) 4 (v - 1) 4 (pm_w_at hk) (pm_t4 G) (pm_w_at hkv) rfl hin hd (fun H1 locs1 hP1 _ hS1 => ?_)
    rw [hup, pm_w_set (I' := pm_up I r i.toNatClampNeg (nI v)) hk (by rw [pm_up_row]; rfl) pm_up_ne] at hP1
    exact k _ rfl H1 locs1 la hP1 hS1 hL
  · refine va_astq (r := (RX5, TX5, 4)) hx hb hT.2.1 hP (pm_va_D hG I) hS (r - 1) 5 (v - 1) 5 (pm_w_at hk) (pm_t5 G) (pm_w_at hkv) rfl hin hd (fun H1 locs1 hP1 _ hS1 => ?_)
    rw [hup, pm_w_set (I' := pm_up I r i.toNatClampNeg (nI v)) hk (by rw [pm_up_row]; rfl) pm_up_ne] at hP1
    exact k _ rfl H1 locs1 la hP1 hS1 hL
/-- a row is finished: what it holds is what a finished one holds -/
theorem m_done {q pc : Nat} (hq : q ∉ S) (hcell : pm_c G (pm_dy (pm_kd G q)) q (I q) = pm_c G (pm_kd G q) q (I q)) (k : pm_R (pm_st G j S) X nL a b pc ls st I) : pm_R (pm_st G j (q :: S)) X nL a b pc ls st I := by
  obtain ⟨p, l, e, R, s, m, args, below, meth, c, Q⟩ := X
  intro H locs la hP hS hL
  have hw : pm_w (pm_st G j (q :: S)) I = pm_w (pm_st G j S) I := by
    unfold pm_w
    show List.map _ (List.range j) = List.map _ (List.range j)
    apply List.map_congr_left
    intro i hi
    show (pm_ad G (i + 1), pm_c G (if i + 1 ∈ q :: S then pm_dy (pm_kd G (i + 1)) else pm_kd G (i + 1)) (i + 1) (I (i + 1))) = (pm_ad G (i + 1), pm_c G (if i + 1 ∈ S then pm_dy (pm_kd G (i + 1)) else pm_kd G (i + 1)) (i + 1) (I (i + 1)))
    by_cases hiq : i + 1 = q
    · subst hiq
      rw [if_pos List.mem_cons_self, if_neg hq, hcell]
    · by_cases hs : i + 1 ∈ S
      · rw [if_pos hs, if_pos (List.mem_cons_of_mem _ hs)]
      · rw [if_neg hs, if_neg (fun z => (List.mem_cons.mp z).elim hiq hs)]
  have hP' : va_P (pm_D G) vwCl (pm_w (pm_st G j (q :: S)) I) H := hP
  rw [hw] at hP'
  exact k H locs la hP' hS hL
end PML
