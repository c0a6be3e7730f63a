/-! ===== methods that return or throw: E n I': exception n (1 IllegalArgument, 2 IllegalState, 3 IndexOutOfBounds) leaves with the rows I' ===== -/
def pm_en (n : Nat) : String := match n with
  | 1 => "java/lang/IllegalArgumentException"
  | 2 => "java/lang/IllegalStateException"
  | _ => "java/lang/IndexOutOfBoundsException"
def pm_ei (n : Nat) : Nat := match n with
  | 1 => 63
  | 2 => 129
  | _ => 280
def pm_es : List String := ["java/lang/RuntimeException", "java/lang/Exception"]
def pm_er : List (Nat × String) := [(61, "the length is out of range"), (278, "there is no such peer"), (281, "both peers are the same"), (283, "two of the peers are the same"), (127, "this peer can't be the relay"), (287, "there is no such session"), (160, "the state is out of range"), (168, "no message was delivered"), (195, "the number of ticks is out of range"), (197, "the number of the tick would be too large"), (203, "the peer does not know both"), (205, "the two know each other already"), (222, "all sessions are open"), (224, "the two don't know each other"), (226, "there is such a session already"), (232, "too many messages are not delivered"), (245, "there is no such link"), (247, "the link is so already"), (255, "a message has not been delivered"), (285, "there is no such slot"), (267, "the slot is empty")]
def pm_exc (G : pm_G) : Prop := ∀ U, pm_SS G U → vx_Zq Bundle.tN "UNASSIGNED_STACK" Bundle.steD (pm_A G) U U.heap ∧ vx_Zq Bundle.tN "SUPPRESSED_SENTINEL" Bundle.listD (pm_A G) U U.heap ∧ (∀ n, 1 ≤ n → n ≤ 3 → ∀ w ∈ vx_atS RX6 (pm_ei n) (pm_en n) pm_es, w.before #[] U = true) ∧ ∀ q ∈ pm_er, ∃ sa, vk_R RX6 q.1 q.2 sa U
def pm_XC (G : pm_G) (E : Nat → pm_I → Prop) : String → State → State → Prop := fun En st t => (∃ (n : Nat) (I' : pm_I), 1 ≤ n ∧ n ≤ 3 ∧ En = pm_en n ∧ E n I' ∧ va_P (pm_D G) vwCl (pm_w G I') t.heap) ∧ va_F (pm_A G) st t
def pm_Xt (G : pm_G) (l : Launch) (y : MethodName) (bytes : ByteArray) (maxL : Nat) (ret : Option FieldType) (fr lo mc ms : Nat) (As : List Value) (I : pm_I) (K : Option Value → pm_I → Prop) (E : Nat → pm_I → Prop) : Prop := vx_Met l y [Cond.code y bytes maxL ret] { frames := fr, cells := mc, slots := ms, locals := lo } (pm_P G As I) (pm_Q G K) (pm_XC G E) mc ms (pm_A G)
def pm_EX (G : pm_G) (X : pm_X) (mc ms : Nat) (K : Option Value → pm_I → Prop) (E : Nat → pm_I → Prop) : Prop := match X with
  | (_, l, _, _, s, _, args, below, _, c, Q) => Q = vx_MQ below (pm_Q G K) (pm_XC G E) args s mc ms (pm_A G) ∧ (∀ x ∈ c.exceptionTable.toList, False) ∧ l.stackTraces = false
theorem pm_enterX {G : pm_G} {l : Launch} {y : MethodName} {bytes : ByteArray} {maxL fr lo mc ms : Nat} {ret : Option FieldType} {As : List Value} {I : pm_I} {K : Option Value → pm_I → Prop} {E : Nat → pm_I → Prop} {ls : List (Option Value)} (hy : plainName y.cls = true) (hl : l.stackTraces = false) (hG : pm_ok G) (hA : As.all (fun v => v.category == 1) = true) (hn : As.length ≤ maxL)
    (hls : As.map some ++ List.replicate (maxL - As.length) none = ls)
    (body : ∀ X : pm_X, pm_l X = l → pm_C G X bytes maxL y.cls ret { frames := fr, cells := mc, slots := ms, locals := lo } → pm_EX G X mc ms K E → pm_R G X maxL 0 0 0 ls [] I) : pm_Xt G l y bytes maxL ret fr lo mc ms As I K E := by
  have hA' : ∀ v ∈ As, v.category = 1 := fun v hv => by simpa using List.all_eq_true.mp hA v hv
  refine vx_ofW (cc := bytes) (maxL := maxL) (ret := ret) hy rfl ?_
  intro p e s m args below meth c s₁ B hml htab hv
  obtain ⟨rfl, hT, hP⟩ := hv
  have hown : s.vm.findClass y.cls = some m.cls := findClass_of_methodNamed B.named
  have hc2 : ∀ v ∈ As.map (pm_tr G), v.category = 1 := fun v hv => by
    obtain ⟨a, ha, rfl⟩ := List.mem_map.mp hv
    rw [pm_cat]; exact hA' a ha
  have hsl := pm_sl (As.map (pm_tr G)) hc2
  rw [List.length_map] at hsl
  have hle := lv_entry (As.map (pm_tr G)) (n := maxL) (by rw [hsl]; exact hn)
  rw [lg_entry_eq]
  refine body (p, l, e, _, s, m, _, below, meth, c, _) rfl ⟨B.exec, B.bytes, B.returns, hml, hown, B.notSynchronized, hT, rfl, hG⟩ ⟨rfl, htab, hl⟩ s.heap [] _ hP va_S.rf ⟨_, hle, fun i v h => ?_⟩
  subst hls
  have hi : i < As.length := by
    rcases Nat.lt_or_ge i As.length with q | q
    · exact q
    · rw [List.getElem?_append_right (by rw [List.length_map]; exact q), List.length_map] at h
      have := List.mem_of_getElem? h
      have := List.eq_of_mem_replicate this
      cases this
  rw [List.getElem?_append_left (by rw [List.length_map]; exact hi), List.getElem?_map] at h
  cases ha : As[i]? with
  | none => rw [ha] at h; cases h
  | some w =>
    rw [ha] at h
    cases h
    refine ⟨hA' v (List.mem_of_getElem? ha), ?_⟩
    have := pm_args G As 0 i v hA' ha
    rwa [Nat.zero_add] at this
theorem pm_xgood : ∀ n, 1 ≤ n → n ≤ 3 → ∀ w ∈ vx_atS RX6 (pm_ei n) (pm_en n) pm_es, vx_ot w = true := by
  intro n h1 h3
  have : n = 1 ∨ n = 2 ∨ n = 3 := by omega
  rcases this with rfl | rfl | rfl <;> decide +kernel
section PMX
variable {G : pm_G} {X : pm_X} {cc : ByteArray} {nL a b mc ms : Nat} {own : String} {ret : Option FieldType} {rm : Room} {ls : List (Option Value)} {st : List Value} {I : pm_I} {K : Option Value → pm_I → Prop} {E : Nat → pm_I → Prop}
theorem x_iret (pc : Nat) {x : Int32} {ty : FieldType} (hC : pm_C G X cc nL own (some ty) rm) (hE : pm_EX G X mc ms K E) (hab : a ≤ mc ∧ b ≤ ms) (hn : narrow ty (.int x) = .int x) (hd : decode cc pc = .ok (.ireturn, 1)) (h : K (some (.int x)) I) : pm_R G X nL a b pc ls [.int x] I := by
  obtain ⟨p, l, e, R, s, m, args, below, meth, c, Q⟩ := X
  obtain ⟨hx, hb, hr, -, -, hlk, -, -, -⟩ := hC
  obtain ⟨hE, -, -⟩ : Q = vx_MQ below (pm_Q G K) (pm_XC G E) args s mc ms (pm_A G) ∧ _ ∧ _ := hE
  subst hE
  intro H locs la hP hS hL
  exact W.widen hab.1 hab.2 (vx_ret (W.zret hx hb hr hn (fun t ht hW => ⟨⟨some (.int x), I, h, rfl, by rw [ht]; exact hP⟩, hS.F ht⟩) hS.2.2 hd hlk))
theorem x_vret (pc : Nat) (hC : pm_C G X cc nL own none rm) (hE : pm_EX G X mc ms K E) (hab : a ≤ mc ∧ b ≤ ms) (hd : decode cc pc = .ok (.return_, 1)) (h : K none I) : pm_R G X nL a b pc ls [] I := by
  obtain ⟨p, l, e, R, s, m, args, below, meth, c, Q⟩ := X
  obtain ⟨hx, hb, hr, -, -, hlk, -, -, -⟩ := hC
  obtain ⟨hE, -, -⟩ : Q = vx_MQ below (pm_Q G K) (pm_XC G E) args s mc ms (pm_A G) ∧ _ ∧ _ := hE
  subst hE
  intro H locs la hP hS hL
  exact W.widen hab.1 hab.2 (vx_ret (W.vret hx hb hr (fun t ht hW => ⟨⟨none, I, h, rfl, by rw [ht]; exact hP⟩, hS.F ht⟩) hS.2.2 hd hlk))
theorem x_aret (pc : Nat) {r : Nat} {n : String} (hC : pm_C G X cc nL own (some (.object n)) rm) (hE : pm_EX G X mc ms K E) (hab : a ≤ mc ∧ b ≤ ms) (hd : decode cc pc = .ok (.areturn, 1)) (h : K (some (.ref r)) I) : pm_R G X nL a b pc ls [.ref r] I := by
  obtain ⟨p, l, e, R, s, m, args, below, meth, c, Q⟩ := X
  obtain ⟨hx, hb, hr, -, -, hlk, -, -, -⟩ := hC
  obtain ⟨hE, -, -⟩ : Q = vx_MQ below (pm_Q G K) (pm_XC G E) args s mc ms (pm_A G) ∧ _ ∧ _ := hE
  subst hE
  intro H locs la hP hS hL
  exact W.widen hab.1 hab.2 (vx_ret (W.aret hx hb hr (Or.inl ⟨n, rfl⟩) (Or.inr ⟨_, rfl⟩) (fun t ht hW => ⟨⟨some (.ref r), I, h, rfl, by rw [ht]; exact hP⟩, hS.F ht⟩) hS.2.2 hd hlk))
theorem x_throw (pc : Nat) (n : Nat) {ik is : Nat} {tx : String} (hC : pm_C G X cc nL RX6 ret rm) (hE : pm_EX G X mc ms K E) (hS : pm_exc G) (h1 : 1 ≤ n) (h3 : n ≤ 3) (hk : Cond.classLink RX6 ik (pm_en n) ∈ lw_tbl) (hini : Cond.initialized (pm_en n) ∈ lw_tbl) (hm : (is, tx) ∈ pm_er)
    (d0 : decode cc pc = .ok (.new ik, 3)) (d3 : decode cc (pc + 3) = .ok (.dup, 1)) (d4 : decode cc (pc + 4) = .ok (.ldc is, 2)) (d6 : decode cc (pc + 6) = .ok (.invokespecial (pm_ei n), 3)) (d9 : decode cc (pc + 9) = .ok (.athrow, 1))
    (hfr : 6 ≤ rm.frames) (hlo : 100 ≤ rm.locals) (hab : a + 1 ≤ rm.cells ∧ b + 6 ≤ rm.slots) (habm : a + 1 ≤ mc ∧ b + 6 ≤ ms) (hw : (st.map fun v => v.category).sum ≤ 8) (h : E n I) : pm_R G X nL a b pc ls st I := by
  obtain ⟨p, l, e, R, s, m, args, below, meth, c, Q⟩ := X
  obtain ⟨hx, hb, -, hml, ho, hlk, hT, rfl, hG⟩ := hC
  obtain ⟨hE, htab, hst⟩ : Q = vx_MQ below (pm_Q G K) (pm_XC G E) args s mc ms (pm_A G) ∧ _ ∧ _ := hE
  subst hE
  intro H locs la hP hV hL
  obtain ⟨hU, hN, hat, hstr⟩ := hS s hT.2.2.1
  obtain ⟨sa, hsa⟩ := hstr _ hm
  have hcat : ((st.map (pm_tr G)).map fun v => v.category).sum ≤ 8 := by
    rw [List.map_map]
    have : ((fun v : Value => v.category) ∘ pm_tr G) = fun v : Value => v.category := funext fun v => pm_cat G v
    rw [this]; exact hw
  have hfit : Bundle.fit (pm_en n) = true := by
    have : n = 1 ∨ n = 2 ∨ n = 3 := by omega
    rcases this with rfl | rfl | rfl <;> decide +kernel
  refine vx_throwS (own := RX6) (cls := pm_en n) (names := pm_es) (ik := ik) (is := is) (ic := pm_ei n) (text := tx) (sa := sa) (A := pm_A G) hx hb hst ho hfit (by decide +kernel) (hT.1.use hk rfl) (hT.1.use hini rfl) hsa (fun w hw => vx_ot_at (State.WarmedH.refl s) rfl (pm_xgood n h1 h3 w hw) (hat n h1 h3 w hw)) (fun w hw => ?_) hU hN hV (by obtain ⟨l9, h9, -⟩ := hL; rw [hml]; exact h9.1) d0 d3 d4 d6 d9 (fun x hx => absurd hx (fun hx => htab x hx)) (by show 2 + 3 < R.frames; omega) (by show _ + (13 * (2 + 1) + 43) ≤ _; omega) hab.1 hab.2 hlk (fun t hA hz hq => ?_) hV.2.2 habm.1 habm.2
  · rcases List.mem_cons.mp hw with rfl | hw
    · rfl
    · rcases List.mem_cons.mp hw with rfl | hw
      · rfl
      · exact pm_xgood n h1 h3 w hw
  · refine ⟨⟨n, I, h1, h3, rfl, h, hP.kept (fun k x hx => hq x.1 ((hP k x hx).lt))⟩, Nat.le_trans hV.1 hz, fun q h1 h2 => ?_⟩
    rw [hq q (Nat.lt_of_lt_of_le h1 hV.1)]
    exact hV.2.1 q h1 h2
theorem x_throwW (pc : Nat) (n : Nat) {ik is : Nat} {tx : String} (hC : pm_C G X cc nL RX6 ret rm) (hE : pm_EX G X mc ms K E) (hS : pm_exc G) (h1 : 1 ≤ n) (h3 : n ≤ 3) (hk : Cond.classLink RX6 ik (pm_en n) ∈ lw_tbl) (hini : Cond.initialized (pm_en n) ∈ lw_tbl) (hm : (is, tx) ∈ pm_er)
    (d0 : decode cc pc = .ok (.new ik, 3)) (d3 : decode cc (pc + 3) = .ok (.dup, 1)) (d4 : decode cc (pc + 4) = .ok (.ldc_w is, 3)) (d6 : decode cc (pc + 7) = .ok (.invokespecial (pm_ei n), 3)) (d9 : decode cc (pc + 10) = .ok (.athrow, 1))
    (hfr : 6 ≤ rm.frames) (hlo : 100 ≤ rm.locals) (hab : a + 1 ≤ rm.cells ∧ b + 6 ≤ rm.slots) (habm : a + 1 ≤ mc ∧ b + 6 ≤ ms) (hw : (st.map fun v => v.category).sum ≤ 8) (h : E n I) : pm_R G X nL a b pc ls st I := by
  obtain ⟨p, l, e, R, s, m, args, below, meth, c, Q⟩ := X
  obtain ⟨hx, hb, -, hml, ho, hlk, hT, rfl, hG⟩ := hC
  obtain ⟨hE, htab, hst⟩ : Q = vx_MQ below (pm_Q G K) (pm_XC G E) args s mc ms (pm_A G) ∧ _ ∧ _ := hE
  subst hE
  intro H locs la hP hV hL
  obtain ⟨hU, hN, hat, hstr⟩ := hS s hT.2.2.1
  obtain ⟨sa, hsa⟩ := hstr _ hm
  have hcat : ((st.map (pm_tr G)).map fun v => v.category).sum ≤ 8 := by
    rw [List.map_map]
    have : ((fun v : Value => v.category) ∘ pm_tr G) = fun v : Value => v.category := funext fun v => pm_cat G v
    rw [this]; exact hw
  have hfit : Bundle.fit (pm_en n) = true := by
    have : n = 1 ∨ n = 2 ∨ n = 3 := by omega
    rcases this with rfl | rfl | rfl <;> decide +kernel
  refine vx_throwSW (own := RX6) (cls := pm_en n) (names := pm_es) (ik := ik) (is := is) (ic := pm_ei n) (text := tx) (sa := sa) (A := pm_A G) hx hb hst ho hfit (by decide +kernel) (hT.1.use hk rfl) (hT.1.use hini rfl) hsa (fun w hw => vx_ot_at (State.WarmedH.refl s) rfl (pm_xgood n h1 h3 w hw) (hat n h1 h3 w hw)) (fun w hw => ?_) hU hN hV (by obtain ⟨l9, h9, -⟩ := hL; rw [hml]; exact h9.1) d0 d3 d4 d6 d9 (fun x hx => absurd hx (fun hx => htab x hx)) (by show 2 + 3 < R.frames; omega) (by show _ + (13 * (2 + 1) + 43) ≤ _; omega) hab.1 hab.2 hlk (fun t hA hz hq => ?_) hV.2.2 habm.1 habm.2
  · rcases List.mem_cons.mp hw with rfl | hw
    · rfl
    · rcases List.mem_cons.mp hw with rfl | hw
      · rfl
      · exact pm_xgood n h1 h3 w hw
  · refine ⟨⟨n, I, h1, h3, rfl, h, hP.kept (fun k x hx => hq x.1 ((hP k x hx).lt))⟩, Nat.le_trans hV.1 hz, fun q h1 h2 => ?_⟩
    rw [hq q (Nat.lt_of_lt_of_le h1 hV.1)]
    exact hV.2.1 q h1 h2
theorem x_call (pc : Nat) {y : MethodName} {bytes : ByteArray} {maxL fr lo n index mcc msc : Nat} {rety : Option FieldType} {r : Nat} {Cn : String} {T9 : u_T} {N9 ci : Nat} (As st : List Value) {stk : List Value} {Kv : Option Value → pm_I → Prop} (hC : pm_C G X cc nL own ret rm) (hE : pm_EX G X mc ms K E) (hk : pm_k G r (.inl ci)) (hc : vwCl[ci]? = some (Cn, T9, N9)) (hd : decode cc pc = .ok (.invokevirtual index, 3)) (hfr : fr + 1 ≤ rm.frames) (hlo : 8 + (maxL + 11) + lo ≤ rm.locals) (hcode : Cond.code y bytes maxL rety ∈ lw_tbl) (hini : Cond.initialized y.cls ∈ lw_tbl) (hy : y.cls ≠ "java/lang/invoke/MethodHandle" ∧ y.cls ≠ "java/lang/invoke/VarHandle" ∧ (parseMethodDescriptor y.desc).map (fun d => d.parameters.length) = some n)
    (hlink : Cond.methodLink own index y ∈ lw_tbl) (hinst : Cond.instanceMethod y ∈ lw_tbl) (hsel : Cond.selects Cn y y ∈ lw_tbl) (hn : As.length = n) (hst : As.reverse ++ .ref r :: st = stk) (hM : pm_Xt G (pm_l X) y bytes maxL rety fr lo mcc msc (.ref r :: As) I Kv E)
    (hab : a + mcc ≤ rm.cells ∧ b + msc ≤ rm.slots) (habm : a + mcc ≤ mc ∧ b + msc ≤ ms) (hw : (st.map fun v => v.category).sum ≤ 8) (k : ∀ v I', Kv v I' → pm_R G X nL (a + mcc) (b + msc) (pc + 3) ls (v.toList ++ st) I') : pm_R G X nL a b pc ls stk I := by
  obtain ⟨p, l, e, R, s, m, args, below, meth, c, Q⟩ := X
  obtain ⟨hx, hb, -, hml, ho, hlk, hT, rfl, hG⟩ := hC
  obtain ⟨hE, htab, hst9⟩ : Q = vx_MQ below (pm_Q G K) (pm_XC G E) args s mc ms (pm_A G) ∧ _ ∧ _ := hE
  subst hE
  intro H locs la hP hS hL
  subst hst
  have hcat : ((st.map (pm_tr G)).map fun v => v.category).sum ≤ 8 := by
    rw [List.map_map]
    have : ((fun v : Value => v.category) ∘ pm_tr G) = fun v : Value => v.category := funext fun v => pm_cat G v
    rw [this]; exact hw
  have hrun := vx_runV (args := args) (g := F0 m pc la ((As.reverse ++ .ref r :: st).map (pm_tr G))) (locs := locs) (e := e) (below := below) (meth := meth) (C := Cn) (As := As.map (pm_tr G)) (rest := st.map (pm_tr G)) (b := pm_ad G r) (Ts := []) (own := own) (index := index) ⟨hx, hb, hml, ho, fun w h => absurd h List.not_mem_nil⟩ hM ⟨⟨rfl, rfl, hfr, hlo, pm_pay hT.1 hcode, List.mem_singleton.mpr rfl, hT.1.use hcode rfl, hT.1.use hini rfl, ⟨hy.1, hy.2.1⟩, pm_npar hy.2.2, hT.1.use hlink rfl⟩, hT.1.use hinst rfl, hT.1.use hsel rfl⟩ ⟨pm_P_blind hG, va_recv hT.2.1 hP hc (pm_w_at hk), fun U hU hW => ⟨by simp [pm_tr], pm_Tb.next hG hT hW (by rw [hU]; exact hS), by rw [hU]; exact hP⟩⟩ rfl (by rw [List.length_map]; exact hn) (by obtain ⟨l9, h9, -⟩ := hL; exact h9.1) (by simp [pm_tr]) (lv_room hcat) hd hab
  intro T hT9 Xs
  rcases hrun T hT9 Xs with ⟨v, st₀, t, T', L, h0, X', hLL, e1, e2, ⟨⟨rv, I', hK, hov, hP'⟩, hz, hkk⟩, go⟩ | ⟨q9, st₀, t, T', L, En, ce, h0, X', hLL, e1, e2, ⟨⟨n9, I', g1, g3, rfl, hEx, hP'⟩, hz, hkk⟩, hce, hcv, hcl, go⟩
  · cases hov
    rw [h0] at hz hkk
    have hS' : va_S (pm_A G) s.heap T'.heap (locs ++ L) := ⟨Nat.le_trans hS.1 (by rw [e1]; exact hz), fun q h1 h2 => by rw [e1, hkk q (Nat.lt_of_lt_of_le h1 hS.1) h2]; exact hS.2.1 q h1 h2, fun q hq => by
      rcases List.mem_append.mp hq with h | h
      · exact hS.2.2 q h
      · exact hLL q h⟩
    have hP1 : va_P (pm_D G) vwCl (pm_w G I') T'.heap := by rw [e1]; exact hP'
    have kk := k rv I' hK T'.heap (locs ++ L) la hP1 hS' hL
    have est : (rv.toList ++ st).map (pm_tr G) = (rv.map (pm_tr G)).toList ++ st.map (pm_tr G) := by cases rv <;> rfl
    rw [est] at kk
    obtain ⟨t2, a1, b1⟩ := kk T' rfl X'
    exact ⟨t2, go t2 a1, b1⟩
  · rw [h0] at hz hkk
    have hS' : va_S (pm_A G) s.heap T'.heap (locs ++ L) := ⟨Nat.le_trans hS.1 (by rw [e1]; exact hz), fun q h1 h2 => by rw [e1, hkk q (Nat.lt_of_lt_of_le h1 hS.1) h2]; exact hS.2.1 q h1 h2, fun q hq => by
      rcases List.mem_append.mp hq with h | h
      · exact hS.2.2 q h
      · exact hLL q h⟩
    have hP1 : va_P (pm_D G) vwCl (pm_w G I') T'.heap := by rw [e1]; exact hP'
    obtain ⟨t2, a1, b1⟩ := vx_out (ls := la) (rest := st.map (pm_tr G)) (pc := pc) (Qc := pm_Q G K) (XC := pm_XC G E) (mc := mc) (ms := ms) (free := pm_A G) (H := T'.heap) (q := q9) (ce := ce) (E := pm_en n9) (fun x hx => absurd hx (fun hx => htab x hx)) hlk (by rw [e1]; exact hce) hcv hcl (fun t9 ht9 _ => ⟨⟨n9, I', g1, g3, rfl, hEx, by rw [ht9]; exact hP1⟩, hS'.F ht9⟩) hS'.2.2 habm.1 habm.2 T' rfl X'
    exact ⟨t2, go.trans a1, b1⟩
theorem x_call_i (pc : Nat) {y : MethodName} {bytes : ByteArray} {maxL fr lo n index mcc msc : Nat} {rety : Option FieldType} {r : Nat} {Cn : String} {T9 : u_T} {N9 ci : Nat} (As st : List Value) {stk : List Value} {K0 : Int32 → pm_I → Prop} (hC : pm_C G X cc nL own ret rm) (hE : pm_EX G X mc ms K E) (hk : pm_k G r (.inl ci)) (hc : vwCl[ci]? = some (Cn, T9, N9)) (hd : decode cc pc = .ok (.invokevirtual index, 3)) (hfr : fr + 1 ≤ rm.frames) (hlo : 8 + (maxL + 11) + lo ≤ rm.locals) (hcode : Cond.code y bytes maxL rety ∈ lw_tbl) (hini : Cond.initialized y.cls ∈ lw_tbl) (hy : y.cls ≠ "java/lang/invoke/MethodHandle" ∧ y.cls ≠ "java/lang/invoke/VarHandle" ∧ (parseMethodDescriptor y.desc).map (fun d => d.parameters.length) = some n)
    (hlink : Cond.methodLink own index y ∈ lw_tbl) (hinst : Cond.instanceMethod y ∈ lw_tbl) (hsel : Cond.selects Cn y y ∈ lw_tbl) (hn : As.length = n) (hst : As.reverse ++ .ref r :: st = stk) (hM : pm_Xt G (pm_l X) y bytes maxL rety fr lo mcc msc (.ref r :: As) I (pm_Ki K0) E)
    (hab : a + mcc ≤ rm.cells ∧ b + msc ≤ rm.slots) (habm : a + mcc ≤ mc ∧ b + msc ≤ ms) (hw : (st.map fun v => v.category).sum ≤ 8) (k : ∀ r9 I1, K0 r9 I1 → pm_R G X nL (a + mcc) (b + msc) (pc + 3) ls (.int r9 :: st) I1) : pm_R G X nL a b pc ls stk I :=
  x_call pc As st hC hE hk hc hd hfr hlo hcode hini hy hlink hinst hsel hn hst hM hab habm hw (by rintro _ I1 ⟨r9, rfl, h⟩; exact k r9 I1 h)
theorem x_call_v (pc : Nat) {y : MethodName} {bytes : ByteArray} {maxL fr lo n index mcc msc : Nat} {rety : Option FieldType} {r : Nat} {Cn : String} {T9 : u_T} {N9 ci : Nat} (As st : List Value) {stk : List Value} {K0 : pm_I → Prop} (hC : pm_C G X cc nL own ret rm) (hE : pm_EX G X mc ms K E) (hk : pm_k G r (.inl ci)) (hc : vwCl[ci]? = some (Cn, T9, N9)) (hd : decode cc pc = .ok (.invokevirtual index, 3)) (hfr : fr + 1 ≤ rm.frames) (hlo : 8 + (maxL + 11) + lo ≤ rm.locals) (hcode : Cond.code y bytes maxL rety ∈ lw_tbl) (hini : Cond.initialized y.cls ∈ lw_tbl) (hy : y.cls ≠ "java/lang/invoke/MethodHandle" ∧ y.cls ≠ "java/lang/invoke/VarHandle" ∧ (parseMethodDescriptor y.desc).map (fun d => d.parameters.length) = some n)
    (hlink : Cond.methodLink own index y ∈ lw_tbl) (hinst : Cond.instanceMethod y ∈ lw_tbl) (hsel : Cond.selects Cn y y ∈ lw_tbl) (hn : As.length = n) (hst : As.reverse ++ .ref r :: st = stk) (hM : pm_Xt G (pm_l X) y bytes maxL rety fr lo mcc msc (.ref r :: As) I (pm_Kv K0) E)
    (hab : a + mcc ≤ rm.cells ∧ b + msc ≤ rm.slots) (habm : a + mcc ≤ mc ∧ b + msc ≤ ms) (hw : (st.map fun v => v.category).sum ≤ 8) (k : ∀ I1, K0 I1 → pm_R G X nL (a + mcc) (b + msc) (pc + 3) ls (st) I1) : pm_R G X nL a b pc ls stk I :=
  x_call pc As st hC hE hk hc hd hfr hlo hcode hini hy hlink hinst hsel hn hst hM hab habm hw (by rintro _ I1 ⟨rfl, h⟩; exact k I1 h)
theorem x_call_r (pc : Nat) {y : MethodName} {bytes : ByteArray} {maxL fr lo n index mcc msc : Nat} {rety : Option FieldType} {r : Nat} {Cn : String} {T9 : u_T} {N9 ci : Nat} (As st : List Value) {stk : List Value} {K0 : Nat → pm_I → Prop} (hC : pm_C G X cc nL own ret rm) (hE : pm_EX G X mc ms K E) (hk : pm_k G r (.inl ci)) (hc : vwCl[ci]? = some (Cn, T9, N9)) (hd : decode cc pc = .ok (.invokevirtual index, 3)) (hfr : fr + 1 ≤ rm.frames) (hlo : 8 + (maxL + 11) + lo ≤ rm.locals) (hcode : Cond.code y bytes maxL rety ∈ lw_tbl) (hini : Cond.initialized y.cls ∈ lw_tbl) (hy : y.cls ≠ "java/lang/invoke/MethodHandle" ∧ y.cls ≠ "java/lang/invoke/VarHandle" ∧ (parseMethodDescriptor y.desc).map (fun d => d.parameters.length) = some n)
    (hlink : Cond.methodLink own index y ∈ lw_tbl) (hinst : Cond.instanceMethod y ∈ lw_tbl) (hsel : Cond.selects Cn y y ∈ lw_tbl) (hn : As.length = n) (hst : As.reverse ++ .ref r :: st = stk) (hM : pm_Xt G (pm_l X) y bytes maxL rety fr lo mcc msc (.ref r :: As) I (pm_Kr K0) E)
    (hab : a + mcc ≤ rm.cells ∧ b + msc ≤ rm.slots) (habm : a + mcc ≤ mc ∧ b + msc ≤ ms) (hw : (st.map fun v => v.category).sum ≤ 8) (k : ∀ r9 I1, K0 r9 I1 → pm_R G X nL (a + mcc) (b + msc) (pc + 3) ls (.ref r9 :: st) I1) : pm_R G X nL a b pc ls stk I :=
  x_call pc As st hC hE hk hc hd hfr hlo hcode hini hy hlink hinst hsel hn hst hM hab habm hw (by rintro _ I1 ⟨r9, rfl, h⟩; exact k r9 I1 h)
end PMX
