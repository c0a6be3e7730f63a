/-! contracts of constructors: from the stage (j, S) to the stage (j', S') -/
def pm_PC (G : pm_G) (j : Nat) (S : List Nat) (As : List Value) (I : pm_I) : Array Value → State → Prop := fun v U => pm_P (pm_st G j S) As I v U ∧ U.heap.size = pm_b G + j
def pm_QC (G : pm_G) (j' : Nat) (S' : List Nat) (K : pm_I → Prop) : Array Value → State → Outcome → State → Prop := fun _ st o t => (∃ I' : pm_I, K I' ∧ o = .returned none ∧ va_P (pm_D G) vwCl (pm_w (pm_st G j' S') I') t.heap) ∧ va_F (pm_A G) st t
def pm_Cc (G : pm_G) (j : Nat) (S : List Nat) (j' : Nat) (S' : List Nat) (l : Launch) (y : MethodName) (bytes : ByteArray) (maxL fr lo mc ms : Nat) (As : List Value) (I : pm_I) (K : pm_I → Prop) : Prop := Met l y [Cond.code y bytes maxL none] { frames := fr, cells := mc, slots := ms, locals := lo } (pm_PC G j S As I) (pm_QC G j' S' K) mc ms (pm_A G)
def pm_EC (G : pm_G) (X : pm_X) (j' : Nat) (S' : List Nat) (mc ms : Nat) (K : pm_I → Prop) : Prop := match X with
  | (_, _, _, _, s, _, args, below, _, _, Q) => Q = MQ below (pm_QC G j' S' K) args s mc ms (pm_A G)
theorem pm_enterC {G : pm_G} {l : Launch} {y : MethodName} {bytes : ByteArray} {maxL fr lo mc ms j j' : Nat} {S S' : List Nat} {As : List Value} {I : pm_I} {K : pm_I → Prop} {ls : List (Option Value)} (hy : plainFor y = true) (hok : pm_ok (pm_st G j S)) (hA : As.all (fun v => v.category == 1) = true) (hn : As.length ≤ maxL)
    (hls : As.map some ++ List.replicate (maxL - As.length) none = ls)
    (body : ∀ X : pm_X, pm_l X = l → pm_sz X = pm_b G + j → X.2.2.2.2.2.2.2.2.1.name = y.name → pm_C (pm_st G j S) X bytes maxL y.cls none { frames := fr, cells := mc, slots := ms, locals := lo } → pm_EC G X j' S' mc ms K → pm_R (pm_st G j S) X maxL 0 0 0 ls [] I) : pm_Cc G j S j' S' l y bytes maxL fr lo mc ms As I K := by
  have hA' : ∀ v ∈ As, v.category = 1 := fun v hv => by simpa using List.all_eq_true.mp hA v hv
  refine pm_ofW (cc := bytes) (maxL := maxL) (ret := none) hy rfl ?_
  intro p e s m args below meth c s₁ B hml hv
  obtain ⟨⟨rfl, hT, hP⟩, hsz⟩ := hv
  have hown : s.vm.findClass y.cls = some m.cls := findClass_of_methodNamed B.named
  have hin : meth.name = y.name := (name_of_methodNamed B.named B.method).1
  have hc2 : ∀ v ∈ As.map (pm_tr (pm_st G j S)), v.category = 1 := fun v hv => by
    obtain ⟨a, ha, rfl⟩ := List.mem_map.mp hv
    rw [pm_cat]; exact hA' a ha
  have hsl := pm_sl (As.map (pm_tr (pm_st G j S))) hc2
  rw [List.length_map] at hsl
  have hl := lv_entry (As.map (pm_tr (pm_st G j S))) (n := maxL) (by rw [hsl]; exact hn)
  rw [lg_entry_eq]
  refine body (p, l, e, _, s, m, _, below, meth, c, _) rfl hsz hin ⟨B.exec, B.bytes, B.returns, hml, hown, B.notSynchronized, hT, rfl, hok⟩ rfl s.heap [] _ hP va_S.rf ⟨_, hl, fun i v h => ?_⟩
  subst hls
  have hi : i < As.length := by
    rcases Nat.lt_or_ge i As.length with q | q
    · exact q
    · rw [List.getElem?_append_right (by rw [List.length_map]; exact q), List.length_map] at h
      have := List.mem_of_getElem? h
      have := List.eq_of_mem_replicate this
      cases this
  rw [List.getElem?_append_left (by rw [List.length_map]; exact hi), List.getElem?_map] at h
  cases ha : As[i]? with
  | none => rw [ha] at h; cases h
  | some w =>
    rw [ha] at h
    cases h
    refine ⟨hA' v (List.mem_of_getElem? ha), ?_⟩
    have := pm_args (pm_st G j S) As 0 i v hA' ha
    rwa [Nat.zero_add] at this
section PMC
variable {G : pm_G} {X : pm_X} {cc : ByteArray} {nL a b j N9 : Nat} {own : String} {ret : Option FieldType} {rm : Room} {ls : List (Option Value)} {st : List Value} {I : pm_I} {S : List Nat}
theorem m_vret (pc : Nat) {K : pm_I → Prop} (hC : pm_C (pm_st G j S) X cc nL own none rm) (hE : pm_EC G X j S a b K) (hd : decode cc pc = .ok (.return_, 1)) (h : K I) : pm_R (pm_st G j S) X nL a b pc ls [] I := by
  obtain ⟨p, l, e, R, s, m, args, below, meth, c, Q⟩ := X
  obtain ⟨hx, hb, hr, -, -, hlk, -, -, -⟩ := hC
  have hE : Q = MQ below (pm_QC G j S K) args s a b (pm_A G) := hE
  subst hE
  intro H locs la hP hS hL
  have hP' : va_P (pm_D G) vwCl (pm_w (pm_st G j S) I) H := hP
  have hS' : va_S (pm_A G) s.heap H locs := hS
  exact W.vret hx hb hr (fun t ht hW => ⟨⟨I, h, rfl, by rw [ht]; exact hP'⟩, hS'.F ht⟩) hS'.2.2 hd hlk
theorem pm_PC_blind {As : List Value} (hG : pm_ok (pm_st G j S)) : FrameBlind (pm_PC G j S As I) := fun a U g mk h => ⟨pm_P_blind hG a U g mk h.1, h.2⟩
theorem pm_afterC {p : Program} {l : Launch} {e : Env} {R : Room} {s : State} {m : MethodId} {args : Array Value} {below : List Frame} {meth : Method} {c : Code} {Q : State → Prop} {H : Heap} {locs : List Loc} {la : Array Slot} {pc mc ms j' : Nat} {S' : List Nat} {st0 : List Value} {K : pm_I → Prop} {aa : Array Value} {T : State}
    (hS : va_S (pm_A G) s.heap H locs) (hr : va_Run p l e R s m args below meth c H locs a b mc ms (F0 m pc la st0) (st.map (pm_tr (pm_st G j S))) (pm_QC G j' S' K aa) (pm_A G)) (hL : pm_L (pm_st G j S) la nL ls) (hT : T.heap = H) (Xs : Stand p l e R s m args below meth c T locs a b)
    (k : ∀ I', K I' → pm_R (pm_st G j' S') (p, l, e, R, s, m, args, below, meth, c, Q) nL (a + mc) (b + ms) (pc + 3) ls st I') : ∃ t, Steps p.tables e below (T.setTop (F0 m pc la st0)) t ∧ Q t := by
  obtain ⟨v, st₀, t, T', L, h0, X', hLL, e1, e2, ⟨⟨I', hK, ho, hP'⟩, hz, hkk⟩, go⟩ := hr T hT Xs
  cases ho
  rw [h0] at hz hkk
  have hS' : va_S (pm_A G) s.heap T'.heap (locs ++ L) := ⟨Nat.le_trans hS.1 (by rw [e1]; exact hz), fun q h1 h2 => by rw [e1, hkk q (Nat.lt_of_lt_of_le h1 hS.1) h2]; exact hS.2.1 q h1 h2, fun q hq => by
    rcases List.mem_append.mp hq with h | h
    · exact hS.2.2 q h
    · exact hLL q h⟩
  have hP1 : va_P (pm_D G) vwCl (pm_w (pm_st G j' S') I') T'.heap := by rw [e1]; exact hP'
  obtain ⟨t2, a1, b1⟩ := k I' hK T'.heap (locs ++ L) la hP1 hS' hL T' rfl X'
  exact ⟨t2, go t2 a1, b1⟩
theorem m_call (pc : Nat) {y : MethodName} {bytes : ByteArray} {maxL fr lo n index mc ms r j' : Nat} {S' : List Nat} (As : List Value) {stk : List Value} {K : pm_I → Prop} (hC : pm_C (pm_st G j S) X cc nL own ret rm) (hlin : pm_lin G N9) (hj : j ≤ N9) (hz : pm_sz X + a = pm_b G + j) (hd : decode cc pc = .ok (.invokespecial index, 3)) (hfr : fr + 1 ≤ rm.frames) (hlo : 8 + (maxL + 11) + lo ≤ rm.locals) (hcode : Cond.code y bytes maxL none ∈ lw_tbl) (hini : Cond.initialized y.cls ∈ lw_tbl) (hy : y.cls ≠ "java/lang/invoke/MethodHandle" ∧ y.cls ≠ "java/lang/invoke/VarHandle" ∧ (parseMethodDescriptor y.desc).map (fun d => d.parameters.length) = some n)
    (hlink : Cond.methodLink own index y ∈ lw_tbl) (hinst : Cond.instanceMethod y ∈ lw_tbl) (hyi : y.name = "<init>") (hn : As.length = n) (hst : As.reverse ++ .ref r :: st = stk) (hM : pm_Cc G j S j' S' (pm_l X) y bytes maxL fr lo mc ms (.ref r :: As) I K)
    (hab : a + mc ≤ rm.cells ∧ b + ms ≤ rm.slots) (hw : (st.map fun v => v.category).sum ≤ 8) (k : ∀ I', K I' → pm_R (pm_st G j' S') X nL (a + mc) (b + ms) (pc + 3) ls st I') : pm_R (pm_st G j S) X nL a b pc ls stk I := by
  obtain ⟨p, l, e, R, s, m, args, below, meth, c, Q⟩ := X
  obtain ⟨hx, hb, -, hml, ho, -, hT, rfl, hG⟩ := hC
  intro H locs la hP hS hL T9 hT9 Xs
  subst hst
  have hcat : ((st.map (pm_tr (pm_st G j S))).map fun v => v.category).sum ≤ 8 := by
    rw [List.map_map]
    have : ((fun v : Value => v.category) ∘ pm_tr (pm_st G j S)) = fun v : Value => v.category := funext fun v => pm_cat _ v
    rw [this]; exact hw
  have hz' : s.heap.size + a = pm_b G + j := hz
  have hP' : va_P (pm_D G) vwCl (pm_w (pm_st G j S) I) H := hP
  have hS' : va_S (pm_A G) s.heap H locs := hS
  have hH : H.size = pm_b G + j := pm_hsize (fun r h1 h2 => hlin r h1 (by omega)) hT.2.2.2 hz' hP' hS' hT9 Xs
  exact pm_afterC hS' (va_runI (As := As.map (pm_tr (pm_st G j S))) (rest := st.map (pm_tr (pm_st G j S))) (b := pm_ad G r) (Ts := []) (own := own) (index := index) ⟨hx, hb, hml, ho, fun w h => absurd h List.not_mem_nil⟩ hM ⟨⟨rfl, rfl, hfr, hlo, pm_pay hT.1 hcode, List.mem_singleton.mpr rfl, hT.1.use hcode rfl, hT.1.use hini rfl, ⟨hy.1, hy.2.1⟩, pm_npar hy.2.2, hT.1.use hlink rfl⟩, hyi, hT.1.use hinst rfl⟩ ⟨pm_PC_blind hG, fun U hU hW => ⟨⟨rfl, pm_Tb.next hG hT hW (by rw [hU]; exact hS), by rw [hU]; exact hP⟩, by rw [hU]; exact hH⟩⟩ rfl (by rw [List.length_map]; exact hn) (by obtain ⟨l9, h9, -⟩ := hL; exact h9.1) (by simp [pm_tr]; rfl) (lv_room hcat) hd hab) hL hT9 Xs k
theorem m_callN (pc : Nat) {host : String} {y : MethodName} {bytes : ByteArray} {maxL fr lo n index mc ms r j' : Nat} {S' : List Nat} (As : List Value) {stk : List Value} {K : pm_I → Prop} (hC : pm_C (pm_st G j S) X cc nL own ret rm) (hlin : pm_lin G N9) (hj : j ≤ N9) (hz : pm_sz X + a = pm_b G + j) (hd : decode cc pc = .ok (.invokespecial index, 3)) (hfr : fr + 1 ≤ rm.frames) (hlo : 8 + (maxL + 11) + lo ≤ rm.locals) (hcode : Cond.code y bytes maxL none ∈ lw_tbl) (hini : Cond.initialized y.cls ∈ lw_tbl) (hy : y.cls ≠ "java/lang/invoke/MethodHandle" ∧ y.cls ≠ "java/lang/invoke/VarHandle" ∧ (parseMethodDescriptor y.desc).map (fun d => d.parameters.length) = some n)
    (hlink : Cond.methodLinkNest own index y host ∈ lw_tbl) (hinst : Cond.instanceMethod y ∈ lw_tbl) (hyi : y.name = "<init>") (hn : As.length = n) (hst : As.reverse ++ .ref r :: st = stk) (hM : pm_Cc G j S j' S' (pm_l X) y bytes maxL fr lo mc ms (.ref r :: As) I K)
    (hab : a + mc ≤ rm.cells ∧ b + ms ≤ rm.slots) (hw : (st.map fun v => v.category).sum ≤ 8) (k : ∀ I', K I' → pm_R (pm_st G j' S') X nL (a + mc) (b + ms) (pc + 3) ls st I') : pm_R (pm_st G j S) X nL a b pc ls stk I := by
  obtain ⟨p, l, e, R, s, m, args, below, meth, c, Q⟩ := X
  obtain ⟨hx, hb, -, hml, ho, -, hT, rfl, hG⟩ := hC
  intro H locs la hP hS hL T9 hT9 Xs
  subst hst
  have hcat : ((st.map (pm_tr (pm_st G j S))).map fun v => v.category).sum ≤ 8 := by
    rw [List.map_map]
    have : ((fun v : Value => v.category) ∘ pm_tr (pm_st G j S)) = fun v : Value => v.category := funext fun v => pm_cat _ v
    rw [this]; exact hw
  have hz' : s.heap.size + a = pm_b G + j := hz
  have hP' : va_P (pm_D G) vwCl (pm_w (pm_st G j S) I) H := hP
  have hS' : va_S (pm_A G) s.heap H locs := hS
  have hH : H.size = pm_b G + j := pm_hsize (fun r h1 h2 => hlin r h1 (by omega)) hT.2.2.2 hz' hP' hS' hT9 Xs
  exact pm_afterC hS' (va_runIN (As := As.map (pm_tr (pm_st G j S))) (rest := st.map (pm_tr (pm_st G j S))) (b := pm_ad G r) (Ts := []) (own := own) (index := index) ⟨hx, hb, hml, ho, fun w h => absurd h List.not_mem_nil⟩ hM ⟨⟨⟨rfl, rfl, hfr, hlo, pm_pay hT.1 hcode, List.mem_singleton.mpr rfl⟩, hT.1.use hcode rfl, hT.1.use hini rfl, ⟨hy.1, hy.2.1⟩, pm_npar hy.2.2, hT.1.use hlink rfl⟩, hyi, hT.1.use hinst rfl⟩ ⟨pm_PC_blind hG, fun U hU hW => ⟨⟨rfl, pm_Tb.next hG hT hW (by rw [hU]; exact hS), by rw [hU]; exact hP⟩, by rw [hU]; exact hH⟩⟩ rfl (by rw [List.length_map]; exact hn) (by obtain ⟨l9, h9, -⟩ := hL; exact h9.1) (by simp [pm_tr]; rfl) (lv_room hcat) hd hab) hL hT9 Xs k
end PMC
