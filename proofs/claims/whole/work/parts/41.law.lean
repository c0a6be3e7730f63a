/-! ===== the law: its script (row 4000000 stands for it), calls of its wrappers, its end ===== -/
def pm_S0 (X : pm_X) : State := X.2.2.2.2.1
def pm_scr (G : pm_G) (X : pm_X) (L : Nat) (xs : Nat → Int32) : Prop := va_X (pm_ad G 4000000) L xs (pm_S0 X) (pm_S0 X).heap ∧ pm_ad G 4000000 < (pm_S0 X).heap.size ∧ pm_ad G 4000000 < pm_b G
section PMY
variable {G : pm_G} {X : pm_X} {cc : ByteArray} {nL a b mc ms L : Nat} {own : String} {ret : Option FieldType} {rm : Room} {ls : List (Option Value)} {st : List Value} {I : pm_I} {xs : Nat → Int32}
theorem r_xld (pc : Nat) {i : Int32} (hC : pm_C G X cc nL own ret rm) (hs : pm_scr G X L xs) (hin : vp_in i L) (hd : decode cc pc = .ok (.iaload, 1)) (k : pm_R G X nL a b (pc + 1) ls (.int (xs i.toNatClampNeg) :: st) I) : pm_R G X nL a b pc ls (.int i :: .ref 4000000 :: st) I := by
  obtain ⟨p, l, e, R, s, m, args, below, meth, c, Q⟩ := X
  obtain ⟨hx, hb, -⟩ := hC
  intro H locs la hP hS hL
  exact va_sld hx hb hs.1 hs.2.1 (Nat.not_le.mpr hs.2.2) hS hin hd (k H locs la hP hS hL)
theorem r_xlen (pc : Nat) (hC : pm_C G X cc nL own ret rm) (hs : pm_scr G X L xs) (hd : decode cc pc = .ok (.arraylength, 1)) (k : pm_R G X nL a b (pc + 1) ls (.int (Int32.ofNat L) :: st) I) : pm_R G X nL a b pc ls (.ref 4000000 :: st) I := by
  obtain ⟨p, l, e, R, s, m, args, below, meth, c, Q⟩ := X
  obtain ⟨hx, hb, -⟩ := hC
  intro H locs la hP hS hL
  exact va_slen hx hb hs.1 hs.2.1 (Nat.not_le.mpr hs.2.2) hS hd (k H locs la hP hS hL)
theorem r_wid (pc : Nat) {a' b' : Nat} (h1 : a ≤ a') (h2 : b ≤ b') (k : pm_R G X nL a' b' pc ls st I) : pm_R G X nL a b pc ls st I := by
  obtain ⟨p, l, e, R, s, m, args, below, meth, c, Q⟩ := X
  intro H locs la hP hS hL
  exact W.widen h1 h2 (k H locs la hP hS hL)
theorem pm_afterW {p : Program} {l : Launch} {e : Env} {R : Room} {s : State} {m : MethodId} {args : Array Value} {below : List Frame} {meth : Method} {c : Code} {Q : State → Prop} {H : Heap} {locs : List Loc} {la : Array Slot} {pc mcc msc : Nat} {st0 : List Value} {Kv : Option Value → pm_I → Prop} {aa : Array Value}
    (hS : va_S (pm_A G) s.heap H locs) (hr : va_Run p l e R s m args below meth c H locs a b mcc msc (F0 m pc la st0) (st.map (pm_tr G)) (pm_Q G Kv aa) (pm_A G)) (hL : pm_L G la nL ls)
    (k : ∀ v I', Kv v I' → pm_R G (p, l, e, R, s, m, args, below, meth, c, Q) nL (a + mcc) (b + msc) (pc + 3) ls (v.toList ++ st) I') : W p l e R s m args below meth c H locs a b Q (F0 m pc la st0) := by
  intro T hT Xs
  obtain ⟨v, st₀, t, T', L, h0, X', hLL, e1, e2, ⟨⟨rv, I', hK, ho, hP'⟩, hz, hkk⟩, go⟩ := hr T hT Xs
  cases ho
  rw [h0] at hz hkk
  have hS' : va_S (pm_A G) s.heap T'.heap (locs ++ L) := ⟨Nat.le_trans hS.1 (by rw [e1]; exact hz), fun q h1 h2 => by rw [e1, hkk q (Nat.lt_of_lt_of_le h1 hS.1) h2]; exact hS.2.1 q h1 h2, fun q hq => by
    rcases List.mem_append.mp hq with h | h
    · exact hS.2.2 q h
    · exact hLL q h⟩
  have hP1 : va_P (pm_D G) vwCl (pm_w G I') T'.heap := by rw [e1]; exact hP'
  have kk := k rv I' hK T'.heap (locs ++ L) la hP1 hS' hL
  have est : (rv.toList ++ st).map (pm_tr G) = (rv.map (pm_tr G)).toList ++ st.map (pm_tr G) := by cases rv <;> rfl
  rw [est] at kk
  obtain ⟨t2, a1, b1⟩ := kk T' rfl X'
  exact ⟨t2, go t2 a1, b1⟩
theorem w_callS (pc : Nat) {y : MethodName} {bytes : ByteArray} {maxL fr lo n index mcc msc : Nat} {hh : List (Nat × Nat × Nat × Nat)} (As st : List Value) {stk : List Value} {K0 : Int32 → pm_I → Prop} (hC : pm_C G X cc nL own ret rm) (hd : decode cc pc = .ok (.invokestatic index, 3)) (hfr : fr + 1 ≤ rm.frames) (hlo : 8 + (maxL + 11) + lo ≤ rm.locals) (hcode : Cond.codeWith y bytes maxL (some .int) hh ∈ lw_tbl) (hgw : pm_tw (Cond.codeWith y bytes maxL (some .int) hh) = true) (hini : Cond.initialized y.cls ∈ lw_tbl) (hy : y.cls ≠ "java/lang/invoke/MethodHandle" ∧ y.cls ≠ "java/lang/invoke/VarHandle" ∧ (parseMethodDescriptor y.desc).map (fun d => d.parameters.length) = some n)
    (hlink : Cond.methodLink own index y ∈ lw_tbl) (hstat : Cond.static y ∈ lw_tbl) (hn : As.length = n) (hst : As.reverse ++ st = stk) (hM : pm_Cw G (pm_l X) y bytes maxL hh fr lo mcc msc As I (pm_Ki K0))
    (hab : a + mcc ≤ rm.cells ∧ b + msc ≤ rm.slots) (hw : (st.map fun v => v.category).sum ≤ 8) (k : ∀ r9 I1, K0 r9 I1 → pm_R G X nL (a + mcc) (b + msc) (pc + 3) ls (.int r9 :: st) I1) : pm_R G X nL a b pc ls stk I := by
  obtain ⟨p, l, e, R, s, m, args, below, meth, c, Q⟩ := X
  obtain ⟨hx, hb, -, hml, ho, -, hT, rfl, hG⟩ := hC
  intro H locs la hP hS hL
  subst hst
  have hcat : ((st.map (pm_tr G)).map fun v => v.category).sum ≤ 8 := by
    rw [List.map_map]
    have : ((fun v : Value => v.category) ∘ pm_tr G) = fun v : Value => v.category := funext fun v => pm_cat G v
    rw [this]; exact hw
  refine pm_afterW hS (vx_runSW (As := As.map (pm_tr G)) (rest := st.map (pm_tr G)) (Ts := []) (own := own) (index := index) ⟨hx, hb, hml, ho, fun w h => absurd h List.not_mem_nil⟩ hM ⟨⟨rfl, rfl, hfr, hlo, fun w hw a' U hW => by rw [List.mem_singleton.mp hw]; exact pm_move hgw hW (hT.1.use (A := #[]) hcode hgw), List.mem_singleton.mpr rfl⟩, hT.1.use hcode hgw, hT.1.use hini rfl, ⟨hy.1, hy.2.1⟩, pm_npar hy.2.2, hT.1.use hlink rfl, hT.1.use hstat rfl⟩ ⟨pm_P_blind hG, fun U hU hW => ⟨rfl, pm_Tb.next hG hT hW (by rw [hU]; exact hS), by rw [hU]; exact hP⟩⟩ rfl (by rw [List.length_map]; exact hn) (by obtain ⟨l9, h9, -⟩ := hL; exact h9.1) (by simp) (lv_room hcat) hd hab) hL (by rintro _ I1 ⟨r9, rfl, h⟩; exact k r9 I1 h)
end PMY
