/-! ===== the law's wrappers: a static method that calls once within a try, and answers 0, or the handler's number ===== -/
def pm_ct (n : Nat) : Nat := match n with
  | 1 => 13
  | 2 => 41
  | _ => 19
def pm_nc (G : pm_G) : Prop := ∀ U, pm_SS G U → (∀ n k, 1 ≤ n → n ≤ 3 → 1 ≤ k → k ≤ 3 → n ≠ k → va_Nc (pm_en n) (pm_en k) U) ∧ ∀ n, 1 ≤ n → n ≤ 3 → (Cond.castable (pm_en n) (pm_en n)).before #[] U = true
def pm_Cw (G : pm_G) (l : Launch) (y : MethodName) (bytes : ByteArray) (maxL : Nat) (hh : List (Nat × Nat × Nat × Nat)) (fr lo mc ms : Nat) (As : List Value) (I : pm_I) (K : Option Value → pm_I → Prop) : Prop := Met l y [Cond.codeWith y bytes maxL (some .int) hh] { frames := fr, cells := mc, slots := ms, locals := lo } (pm_P G As I) (pm_Q G K) mc ms (pm_A G)
def pm_EW (G : pm_G) (X : pm_X) (hh : List (Nat × Nat × Nat × Nat)) (mc ms : Nat) (K : Option Value → pm_I → Prop) : Prop := match X with
  | (_, _, _, _, s, _, args, below, _, c, Q) => Q = MQ below (pm_Q G K) args s mc ms (pm_A G) ∧ c.exceptionTable.toList = tableOf hh
theorem pm_enterW {G : pm_G} {l : Launch} {y : MethodName} {bytes : ByteArray} {maxL fr lo mc ms : Nat} {hh : List (Nat × Nat × Nat × Nat)} {As : List Value} {I : pm_I} {K : Option Value → pm_I → Prop} {ls : List (Option Value)} (hy : plainName y.cls = true) (hcw : Cond.codeWith y bytes maxL (some .int) hh ∈ lw_tbl) (hgw : pm_tw (Cond.codeWith y bytes maxL (some .int) hh) = true) (hG : pm_ok G) (hA : As.all (fun v => v.category == 1) = true) (hn : As.length ≤ maxL)
    (hls : As.map some ++ List.replicate (maxL - As.length) none = ls)
    (body : ∀ X : pm_X, pm_l X = l → pm_C G X bytes maxL y.cls (some .int) { frames := fr, cells := mc, slots := ms, locals := lo } → pm_EW G X hh mc ms K → pm_R G X maxL 0 0 0 ls [] I) : pm_Cw G l y bytes maxL hh fr lo mc ms As I K := by
  have hA' : ∀ v ∈ As, v.category = 1 := fun v hv => by simpa using List.all_eq_true.mp hA v hv
  refine va_MetW (cc := bytes) (maxL := maxL) (ret := some .int) (hh := hh) hy rfl ?_
  intro p e s m args below meth c s₁ B hml hv
  obtain ⟨rfl, hT, hP⟩ := hv
  have hown : s.vm.findClass y.cls = some m.cls := findClass_of_methodNamed B.named
  have htab : c.exceptionTable.toList = tableOf hh := vx_table (x := y) B (hT.1.use hcw hgw)
  have hc2 : ∀ v ∈ As.map (pm_tr G), v.category = 1 := fun v hv => by
    obtain ⟨a, ha, rfl⟩ := List.mem_map.mp hv
    rw [pm_cat]; exact hA' a ha
  have hsl := pm_sl (As.map (pm_tr G)) hc2
  rw [List.length_map] at hsl
  have hl := lv_entry (As.map (pm_tr G)) (n := maxL) (by rw [hsl]; exact hn)
  rw [lg_entry_eq]
  refine body (p, l, e, _, s, m, _, below, meth, c, _) rfl ⟨B.exec, B.bytes, B.returns, hml, hown, B.notSynchronized, hT, rfl, hG⟩ ⟨rfl, htab⟩ s.heap [] _ hP va_S.rf ⟨_, hl, fun i v h => ?_⟩
  subst hls
  have hi : i < As.length := by
    rcases Nat.lt_or_ge i As.length with q | q
    · exact q
    · rw [List.getElem?_append_right (by rw [List.length_map]; exact q), List.length_map] at h
      have := List.mem_of_getElem? h
      have := List.eq_of_mem_replicate this
      cases this
  rw [List.getElem?_append_left (by rw [List.length_map]; exact hi), List.getElem?_map] at h
  cases ha : As[i]? with
  | none => rw [ha] at h; cases h
  | some w =>
    rw [ha] at h
    cases h
    refine ⟨hA' v (List.mem_of_getElem? ha), ?_⟩
    have := pm_args G As 0 i v hA' ha
    rwa [Nat.zero_add] at this
/-- a local that isn't looked at takes any value -/
theorem pm_L.junk {G : pm_G} {la' : Array Slot} {nL : Nat} {ls : List (Option Value)} {l : List (Nat × Value)} {i : Nat} {w : Value} (hi : ls[i]? = some none) (h2 : ∀ (i : Nat) (v : Value), ls[i]? = some (some v) → v.category = 1 ∧ (i, pm_tr G v) ∈ l)
    (h : lv_has la' nL ((i, w) :: l.filter (fun q => !(q.1 == i) && !(q.1 + 1 == i && q.2.category == 2)))) : pm_L G la' nL ls := by
  refine ⟨_, h, fun j v hv => ?_⟩
  have hj : j ≠ i := fun e => by subst e; rw [hi] at hv; cases hv
  obtain ⟨h3, h4⟩ := h2 j v hv
  refine ⟨h3, List.mem_cons_of_mem _ (List.mem_filter.mpr ⟨h4, ?_⟩)⟩
  have hji : (j == i) = false := by simp; exact hj
  show (!(j == i) && !(j + 1 == i && (pm_tr G v).category == 2)) = true
  rw [hji, pm_cat, h3]
  simp
/-- at a handler: some thrown object on the stack -/
def pm_H (G : pm_G) (X : pm_X) (nL k n pc : Nat) (ls : List (Option Value)) (I : pm_I) : Prop := match X with
  | (p, l, e, R, s, m, args, below, meth, c, Q) => ∀ (H : Heap) (locs : List Loc) (la : Array Slot) (q : Addr), va_P (pm_D G) vwCl (pm_w G I) H → va_S (pm_A G) s.heap H locs → pm_L G la nL ls → W p l e R s m args below meth c H locs k n Q (F0 m pc la [.ref q])
section PMW
variable {G : pm_G} {X : pm_X} {cc : ByteArray} {nL a b mc ms : Nat} {own : String} {ret : Option FieldType} {rm : Room} {ls : List (Option Value)} {st : List Value} {I : pm_I} {K : Option Value → pm_I → Prop} {hh : List (Nat × Nat × Nat × Nat)}
theorem w_astore_n (pc : Nat) {q : Fin 4} {i : Nat} (hC : pm_C G X cc nL own ret rm) (hd : decode cc pc = .ok (.astore_n q, 1)) (hi : (q : Nat) = i) (hn : i < nL) (hls : ls[i]? = some none) (k : pm_R G X nL a b (pc + 1) ls [] I) : pm_H G X nL a b pc ls I := by
  obtain ⟨p, l, e, R, s, m, args, below, meth, c, Q⟩ := X
  obtain ⟨hx, hb, -⟩ := hC
  intro H locs la q9 hP hS hL
  obtain ⟨l9, h1, h2⟩ := hL
  exact lv_astore_n hx hb hd hi h1 hn rfl (fun la' h' => k H locs la' hP hS (pm_L.junk hls h2 h'))
theorem w_astore (pc : Nat) {i : Nat} (hC : pm_C G X cc nL own ret rm) (hd : decode cc pc = .ok (.astore i, 2)) (hn : i < nL) (hls : ls[i]? = some none) (k : pm_R G X nL a b (pc + 2) ls [] I) : pm_H G X nL a b pc ls I := by
  obtain ⟨p, l, e, R, s, m, args, below, meth, c, Q⟩ := X
  obtain ⟨hx, hb, -⟩ := hC
  intro H locs la q9 hP hS hL
  obtain ⟨l9, h1, h2⟩ := hL
  exact lv_astore hx hb hd h1 hn rfl (fun la' h' => k H locs la' hP hS (pm_L.junk hls h2 h'))
theorem w_iret (pc : Nat) {x : Int32} (hC : pm_C G X cc nL own (some .int) rm) (hE : pm_EW G X hh mc ms K) (hab : a ≤ mc ∧ b ≤ ms) (hd : decode cc pc = .ok (.ireturn, 1)) (h : K (some (.int x)) I) : pm_R G X nL a b pc ls [.int x] I := by
  obtain ⟨p, l, e, R, s, m, args, below, meth, c, Q⟩ := X
  obtain ⟨hx, hb, hr, -, -, hlk, -, -, -⟩ := hC
  obtain ⟨hE, -⟩ : Q = MQ below (pm_Q G K) args s mc ms (pm_A G) ∧ _ := hE
  subst hE
  intro H locs la hP hS hL
  exact W.widen hab.1 hab.2 (W.zret hx hb hr rfl (fun t ht hW => ⟨⟨some (.int x), I, h, rfl, by rw [ht]; exact hP⟩, hS.F ht⟩) hS.2.2 hd hlk)
theorem w_call (pc : Nat) {y : MethodName} {bytes : ByteArray} {maxL fr lo n index mcc msc : Nat} {rety : Option FieldType} {r : Nat} {Cn : String} {T9 : u_T} {N9 ci : Nat} (As st : List Value) {stk : List Value} {Kv : Option Value → pm_I → Prop} {Ex : Nat → pm_I → Prop} (hC : pm_C G X cc nL RL ret rm) (hE : pm_EW G X hh mc ms K) (hnc : pm_nc G) (hcl : ∀ n, 1 ≤ n → n ≤ 3 → Cond.classLink RL (pm_ct n) (pm_en n) ∈ lw_tbl) (hk : pm_k G r (.inl ci)) (hc : vwCl[ci]? = some (Cn, T9, N9)) (hd : decode cc pc = .ok (.invokevirtual index, 3)) (hfr : fr + 1 ≤ rm.frames) (hlo : 8 + (maxL + 11) + lo ≤ rm.locals) (hcode : Cond.code y bytes maxL rety ∈ lw_tbl) (hini : Cond.initialized y.cls ∈ lw_tbl) (hy : y.cls ≠ "java/lang/invoke/MethodHandle" ∧ y.cls ≠ "java/lang/invoke/VarHandle" ∧ (parseMethodDescriptor y.desc).map (fun d => d.parameters.length) = some n)
    (hlink : Cond.methodLink RL index y ∈ lw_tbl) (hinst : Cond.instanceMethod y ∈ lw_tbl) (hsel : Cond.selects Cn y y ∈ lw_tbl) (hn : As.length = n) (hst : As.reverse ++ .ref r :: st = stk) (hM : pm_Xt G (pm_l X) y bytes maxL rety fr lo mcc msc (.ref r :: As) I Kv Ex)
    (hab : a + mcc ≤ rm.cells ∧ b + msc ≤ rm.slots) (hw : (st.map fun v => v.category).sum ≤ 8) (k : ∀ v I', Kv v I' → pm_R G X nL (a + mcc) (b + msc) (pc + 3) ls (v.toList ++ st) I')
    (kx : ∀ n I', 1 ≤ n → n ≤ 3 → Ex n I' → ∃ (pre : List (Nat × Nat × Nat × Nat)) (s0 e0 hp : Nat) (suf : List (Nat × Nat × Nat × Nat)), hh = pre ++ (s0, e0, hp, pm_ct n) :: suf ∧ covers ⟨s0, e0, hp, pm_ct n⟩ pc = true ∧ (∀ z ∈ pre, ∃ k, 1 ≤ k ∧ k ≤ 3 ∧ n ≠ k ∧ z.2.2.2 = pm_ct k) ∧ pm_H G X nL (a + mcc) (b + msc) hp ls I') : pm_R G X nL a b pc ls stk I := by
  obtain ⟨p, l, e, R, s, m, args, below, meth, c, Q⟩ := X
  obtain ⟨hx, hb, -, hml, ho, hlk, hT, rfl, hG⟩ := hC
  obtain ⟨-, htab⟩ : Q = MQ below (pm_Q G K) args s mc ms (pm_A G) ∧ c.exceptionTable.toList = tableOf hh := hE
  intro H locs la hP hS hL
  subst hst
  have hcat : ((st.map (pm_tr G)).map fun v => v.category).sum ≤ 8 := by
    rw [List.map_map]
    have : ((fun v : Value => v.category) ∘ pm_tr G) = fun v : Value => v.category := funext fun v => pm_cat G v
    rw [this]; exact hw
  have hrun := vx_runV (args := args) (g := F0 m pc la ((As.reverse ++ .ref r :: st).map (pm_tr G))) (locs := locs) (e := e) (below := below) (meth := meth) (C := Cn) (As := As.map (pm_tr G)) (rest := st.map (pm_tr G)) (b := pm_ad G r) (Ts := []) (own := RL) (index := index) ⟨hx, hb, hml, ho, fun w h => absurd h List.not_mem_nil⟩ hM ⟨⟨rfl, rfl, hfr, hlo, pm_pay hT.1 hcode, List.mem_singleton.mpr rfl, hT.1.use hcode rfl, hT.1.use hini rfl, ⟨hy.1, hy.2.1⟩, pm_npar hy.2.2, hT.1.use hlink rfl⟩, hT.1.use hinst rfl, hT.1.use hsel rfl⟩ ⟨pm_P_blind hG, va_recv hT.2.1 hP hc (pm_w_at hk), fun U hU hW => ⟨by simp [pm_tr], pm_Tb.next hG hT hW (by rw [hU]; exact hS), by rw [hU]; exact hP⟩⟩ rfl (by rw [List.length_map]; exact hn) (by obtain ⟨l9, h9, -⟩ := hL; exact h9.1) (by simp [pm_tr]) (lv_room hcat) hd hab
  intro T hT9 Xs
  rcases hrun T hT9 Xs with ⟨v, st₀, t, T', L, h0, X', hLL, e1, e2, ⟨⟨rv, I', hK, hov, hP'⟩, hz, hkk⟩, go⟩ | ⟨q9, st₀, t, T', L, En, ce, h0, X', hLL, e1, e2, ⟨⟨n9, I', g1, g3, rfl, hEx, hP'⟩, hz, hkk⟩, hce, hcv, hcl9, go⟩
  · cases hov
    rw [h0] at hz hkk
    have hS' : va_S (pm_A G) s.heap T'.heap (locs ++ L) := ⟨Nat.le_trans hS.1 (by rw [e1]; exact hz), fun q h1 h2 => by rw [e1, hkk q (Nat.lt_of_lt_of_le h1 hS.1) h2]; exact hS.2.1 q h1 h2, fun q hq => by
      rcases List.mem_append.mp hq with h | h
      · exact hS.2.2 q h
      · exact hLL q h⟩
    have hP1 : va_P (pm_D G) vwCl (pm_w G I') T'.heap := by rw [e1]; exact hP'
    have kk := k rv I' hK T'.heap (locs ++ L) la hP1 hS' hL
    have est : (rv.toList ++ st).map (pm_tr G) = (rv.map (pm_tr G)).toList ++ st.map (pm_tr G) := by cases rv <;> rfl
    rw [est] at kk
    obtain ⟨t2, a1, b1⟩ := kk T' rfl X'
    exact ⟨t2, go t2 a1, b1⟩
  · rw [h0] at hz hkk
    have hS' : va_S (pm_A G) s.heap T'.heap (locs ++ L) := ⟨Nat.le_trans hS.1 (by rw [e1]; exact hz), fun q h1 h2 => by rw [e1, hkk q (Nat.lt_of_lt_of_le h1 hS.1) h2]; exact hS.2.1 q h1 h2, fun q hq => by
      rcases List.mem_append.mp hq with h | h
      · exact hS.2.2 q h
      · exact hLL q h⟩
    have hP1 : va_P (pm_D G) vwCl (pm_w G I') T'.heap := by rw [e1]; exact hP'
    obtain ⟨pre, s0, e0, hp, suf, hsp, hcov, hpre, kh⟩ := kx n9 I' g1 g3 hEx
    have hct : pm_ct n9 ≠ 0 := by
      have : n9 = 1 ∨ n9 = 2 ∨ n9 = 3 := by omega
      rcases this with rfl | rfl | rfl <;> decide
    have kw := kh T'.heap (locs ++ L) la q9 hP1 hS' hL
    obtain ⟨t2, a1, b1⟩ := vx_catch (own := RL) (name := pm_en n9) (E := pm_en n9) (ce := ce) (q := q9) (ls := la) (rest := st.map (pm_tr G)) (pc := pc) ho (tableOf pre) ⟨s0, e0, hp, pm_ct n9⟩ (tableOf suf) (by rw [htab, hsp]; unfold tableOf; rw [List.map_append, List.map_cons]) (fun z hz9 => by
      unfold tableOf at hz9
      obtain ⟨z0, hz0, rfl⟩ := List.mem_map.mp hz9
      obtain ⟨k9, k1, k3, kne, kz⟩ := hpre z0 hz0
      have hk0 : pm_ct k9 ≠ 0 := by
        have : k9 = 1 ∨ k9 = 2 ∨ k9 = 3 := by omega
        rcases this with rfl | rfl | rfl <;> decide
      refine Or.inr ⟨?_, pm_en k9, ?_, (hnc s hT.2.2.1).1 n9 k9 g1 g3 k1 k3 kne⟩
      · show z0.2.2.2 ≠ 0
        rw [kz]; exact hk0
      · show (Cond.classLink RL z0.2.2.2 (pm_en k9)).before args s = true
        rw [kz]; exact hT.1.use (hcl k9 k1 k3) rfl) hcov hct (hT.1.use (hcl n9 g1 g3) rfl) (vx_ot_at (State.WarmedH.refl s) rfl rfl ((hnc s hT.2.2.1).2 n9 g1 g3)) (by rw [e1]; exact hce) hcv hcl9 kw T' rfl X'
    exact ⟨t2, go.trans a1, b1⟩
end PMW
