theorem pm_enterN {G : pm_G} {l : Launch} {y : MethodName} {bytes : ByteArray} {maxL fr lo : Nat} {ret : Option FieldType} {As : List Value} {I : pm_I} {K : Option Value → pm_I → Prop} {ls : List (Option Value)} (hy : plainFor y = true) (hG : pm_ok G) (hA : As.all (fun v => v.category == 1) = true) (hn : As.length ≤ maxL)
    (hls : As.map some ++ List.replicate (maxL - As.length) none = ls)
    (body : ∀ X : pm_X, pm_l X = l → X.2.2.2.2.2.2.2.2.1.name = y.name → pm_C G X bytes maxL y.cls ret { frames := fr, cells := 0, slots := 0, locals := lo } → pm_E G X K → pm_R G X maxL 0 0 0 ls [] I) : pm_Ct G l y bytes maxL ret { frames := fr, cells := 0, slots := 0, locals := lo } As I K := by
  have hA' : ∀ v ∈ As, v.category = 1 := fun v hv => by simpa using List.all_eq_true.mp hA v hv
  refine pm_ofW (cc := bytes) (maxL := maxL) (ret := ret) hy rfl ?_
  intro p e s m args below meth c s₁ B hml hv
  obtain ⟨rfl, hT, hP⟩ := hv
  have hown : s.vm.findClass y.cls = some m.cls := findClass_of_methodNamed B.named
  have hin : meth.name = y.name := (name_of_methodNamed B.named B.method).1
  have hc2 : ∀ v ∈ As.map (pm_tr G), v.category = 1 := fun v hv => by
    obtain ⟨a, ha, rfl⟩ := List.mem_map.mp hv
    rw [pm_cat]; exact hA' a ha
  have hsl := pm_sl (As.map (pm_tr G)) hc2
  rw [List.length_map] at hsl
  have hl := lv_entry (As.map (pm_tr G)) (n := maxL) (by rw [hsl]; exact hn)
  rw [lg_entry_eq]
  refine body (p, l, e, _, s, m, _, below, meth, c, _) rfl hin ⟨B.exec, B.bytes, B.returns, hml, hown, B.notSynchronized, hT, rfl, hG⟩ rfl s.heap [] _ hP va_S.rf ⟨_, hl, fun i v h => ?_⟩
  subst hls
  have hi : i < As.length := by
    rcases Nat.lt_or_ge i As.length with q | q
    · exact q
    · rw [List.getElem?_append_right (by rw [List.length_map]; exact q), List.length_map] at h
      have := List.mem_of_getElem? h
      have := List.eq_of_mem_replicate this
      cases this
  rw [List.getElem?_append_left (by rw [List.length_map]; exact hi), List.getElem?_map] at h
  cases ha : As[i]? with
  | none => rw [ha] at h; cases h
  | some w =>
    rw [ha] at h
    cases h
    refine ⟨hA' v (List.mem_of_getElem? ha), ?_⟩
    have := pm_args G As 0 i v hA' ha
    rwa [Nat.zero_add] at this
/-- a constructor that makes nothing is called -/
theorem r_callI {G : pm_G} {X : pm_X} {cc : ByteArray} {nL a b : Nat} {own : String} {ret : Option FieldType} {rm : Room} {ls : List (Option Value)} {st : List Value} {I : pm_I} (pc : Nat) {host : String} {y : MethodName} {bytes : ByteArray} {maxL fr lo n index r : Nat} (As : List Value) {stk : List Value} {K : pm_I → Prop} (hC : pm_C G X cc nL own ret rm) (hd : decode cc pc = .ok (.invokespecial index, 3)) (hfr : fr + 1 ≤ rm.frames) (hlo : 8 + (maxL + 11) + lo ≤ rm.locals) (hcode : Cond.code y bytes maxL none ∈ lw_tbl) (hini : Cond.initialized y.cls ∈ lw_tbl) (hy : y.cls ≠ "java/lang/invoke/MethodHandle" ∧ y.cls ≠ "java/lang/invoke/VarHandle" ∧ (parseMethodDescriptor y.desc).map (fun d => d.parameters.length) = some n)
    (hlink : Cond.methodLinkNest own index y host ∈ lw_tbl) (hinst : Cond.instanceMethod y ∈ lw_tbl) (hyi : y.name = "<init>") (hn : As.length = n) (hst : As.reverse ++ .ref r :: st = stk) (hM : pm_Ct G (pm_l X) y bytes maxL none { frames := fr, cells := 0, slots := 0, locals := lo } (.ref r :: As) I (pm_Kv K))
    (hab : a ≤ rm.cells ∧ b ≤ rm.slots) (hw : (st.map fun v => v.category).sum ≤ 8) (k : ∀ I', K I' → pm_R G X nL a b (pc + 3) ls st I') : pm_R G X nL a b pc ls stk I := by
  obtain ⟨p, l, e, R, s, m, args, below, meth, c, Q⟩ := X
  obtain ⟨hx, hb, -, hml, ho, -, hT, rfl, hG⟩ := hC
  intro H locs la hP hS hL
  subst hst
  have hcat : ((st.map (pm_tr G)).map fun v => v.category).sum ≤ 8 := by
    rw [List.map_map]
    have : ((fun v : Value => v.category) ∘ pm_tr G) = fun v : Value => v.category := funext fun v => pm_cat G v
    rw [this]; exact hw
  exact pm_after hS (va_runIN (As := As.map (pm_tr G)) (rest := st.map (pm_tr G)) (b := pm_ad G r) (Ts := []) (own := own) (index := index) ⟨hx, hb, hml, ho, fun w h => absurd h List.not_mem_nil⟩ hM ⟨⟨⟨rfl, rfl, hfr, hlo, pm_pay hT.1 hcode, List.mem_singleton.mpr rfl⟩, hT.1.use hcode rfl, hT.1.use hini rfl, ⟨hy.1, hy.2.1⟩, pm_npar hy.2.2, hT.1.use hlink rfl⟩, hyi, hT.1.use hinst rfl⟩ ⟨pm_P_blind hG, fun U hU hW => ⟨by simp [pm_tr], pm_Tb.next hG hT hW (by rw [hU]; exact hS), by rw [hU]; exact hP⟩⟩ rfl (by rw [List.length_map]; exact hn) (by obtain ⟨l9, h9, -⟩ := hL; exact h9.1) (by simp [pm_tr]) (lv_room hcat) hd hab) hL (by rintro _ I1 ⟨rfl, h⟩; exact k I1 h)
/-- the Reader's constructor -/
def pm_rd (I : pm_I) (r : Nat) (x : Int32) (d : Nat) : pm_I := pm_up (pm_up (pm_up (pm_up I r 0 (nI 2)) r 1 x) r 2 (nI d)) r 9 (-1)
set_option maxRecDepth 20000 in
theorem c_X2 {G : pm_G} {l : Launch} (hG : pm_ok G) (r d : Nat) (x : Int32) (I : pm_I) (K : pm_I → Prop) (hk : pm_k G r (.inr (8, 2))) (hd0 : 0 < d) (hd31 : d < 2 ^ 31) (h : K (pm_rd I r x d)) : pm_Ct G l yX2_init cX2_init 4 none { frames := 2, cells := 0, slots := 0, locals := 100 } [.ref r, .ref 2, .int x, .ref d] I (pm_Kv K) := by
  refine pm_enterN (by decide +kernel) hG rfl (Nat.le_of_ble_eq_true rfl) rfl (fun X hl hnm hC hE => ?_)
  subst hl
  have hC : pm_C G X cX2_init 4 RX2 none { frames := 2, cells := 0, slots := 0, locals := 100 } := hC
  refine r_aload_n 0 hC dX2_init_0 rfl rfl ?_
  refine m_obj 1 hC tw_518 tw_156 tw_157 (by decide) (by decide) (Nat.le_of_ble_eq_true rfl) dX2_init_1 ?_
  refine r_aload_n 4 hC dX2_init_4 rfl rfl ?_
  refine r_aload_n 5 hC dX2_init_5 rfl rfl ?_
  refine m_put 6 (ty := (.array .byte)) (v := .ref 2) (x := nI 2) hC hnm hk rfl pm_in2 pm_ig2 tyX2 tyX2_ok nmX2 0 (by decide) tw_519 rfl (by decide +kernel) rfl rfl (fun _ => rfl) (pd_2_0 (pm_ad G) _ 2 (by omega) (by omega)) dX2_init_6 (fun I1 hI1 => ?_)
  refine r_aload_n 9 hC dX2_init_9 rfl rfl ?_
  refine r_iload_n 10 hC dX2_init_10 rfl rfl ?_
  refine m_put 11 (ty := .int) (v := .int x) (x := x) hC hnm hk rfl pm_in2 pm_ig2 tyX2 tyX2_ok nmX2 1 (by decide) tw_520 rfl (by decide +kernel) rfl rfl (fun _ => rfl) (pd_2_1 (pm_ad G) _ _) dX2_init_11 (fun I2 hI2 => ?_)
  refine r_aload_n 14 hC dX2_init_14 rfl rfl ?_
  refine r_aload_n 15 hC dX2_init_15 rfl rfl ?_
  refine m_put 16 (ty := (.object "PeerOverlay$Plan")) (v := .ref d) (x := nI d) hC hnm hk rfl pm_in2 pm_ig2 tyX2 tyX2_ok nmX2 2 (by decide) tw_521 rfl (by decide +kernel) rfl rfl (fun _ => rfl) (pd_2_2 (pm_ad G) _ d hd0 hd31) dX2_init_16 (fun I3 hI3 => ?_)
  refine r_aload_n 19 hC dX2_init_19 rfl rfl ?_
  refine r_iconst 20 (v := -1) hC dX2_init_20 (by decide) ?_
  refine m_put 21 (ty := .int) (v := .int (-1)) (x := -1) hC hnm hk rfl pm_in2 pm_ig2 tyX2 tyX2_ok nmX2 9 (by decide) tw_528 rfl (by decide +kernel) rfl rfl (fun _ => rfl) (pd_2_9 (pm_ad G) _ _) dX2_init_21 (fun I4 hI4 => ?_)
  have e : I4 = pm_rd I r x d := by subst hI4; subst hI3; subst hI2; subst hI1; rfl
  rw [e]
  exact r_vret 24 hC hE dX2_init_24 ⟨rfl, h⟩
theorem pm_x_str {G : pm_G} {h : Nat} {k : Nat ⊕ (Nat × Nat)} (hN : pm_n G < 1000 * 999) (hS : pm_str G) : pm_str (pm_x G h k) := by
  have e1 : ∀ s, 1000000 ≤ s → pm_ad (pm_x G h k) s = pm_ad G s := fun s hs => if_neg (by omega)
  intro U hU
  obtain ⟨a1, a2, a3, a4⟩ := hS U hU
  have f1 : (fun i => pm_ad (pm_x G h k) (1000000 + i)) = fun i => pm_ad G (1000000 + i) := funext fun i => e1 _ (by omega)
  have f2 : (fun i => pm_ad (pm_x G h k) (2000000 + i)) = fun i => pm_ad G (2000000 + i) := funext fun i => e1 _ (by omega)
  refine ⟨?_, a2, ?_, ?_⟩
  · rw [f1, f2]; exact a1
  · rw [e1 3000000 (by omega)]; exact a3
  · intro q hq
    rw [e1 _ (by omega)]
    exact a4 q hq
def wX6_parse (G : pm_G) (x1 : Int32) (I : pm_I) (K : Int32 → pm_I → Prop) (E : Nat → pm_I → Prop) : Prop :=
  (x1 < 0 → E 1 I) ∧ (¬ x1 < 0 → (x1 ≤ I 1 1 → (pm_cl G I ∧ pm_k G ((I 1 4).toNatClampNeg) (.inl 1) ∧ ∀ h : Nat, wX2_readOverlay (pm_x G h (.inl 2)) (pm_n G + 1) (pm_rd (pm_nw I (pm_n G + 1)) (pm_n G + 1) x1 ((I 1 4).toNatClampNeg)) (fun r I1 => ∀ I2 : pm_I, I2 = pm_up I1 1 1 0 → ((r = 0 → ∀ I3 : pm_I, I3 = pm_up I2 1 2 (-1) → wX6_useDraft (pm_x G h (.inl 2)) 1 I3 (fun I4 => pm_cl G I4 ∧ K 0 I4)) ∧ (¬ r = 0 → ∀ I3 : pm_I, I3 = pm_up I2 1 2 (I2 (pm_n G + 1) 9) → pm_cl G I3 ∧ K r I3))))) ∧ (¬ x1 ≤ I 1 1 → E 1 I))
set_option maxRecDepth 20000 in
theorem sX6_parse {G : pm_G} {l : Launch} (hG : pm_ok G) (hst : l.stackTraces = false) (hX : pm_exc G) (hS : pm_str G) (hN : pm_n G < 1000 * 999) (x1 : Int32) (I : pm_I) (K : Int32 → pm_I → Prop) (E : Nat → pm_I → Prop) (hk0 : pm_k G 1 (.inl 6)) (h : wX6_parse G x1 I K E) : pm_Xt G l yX6_parse cX6_parse 4 (some .int) 42 3000 1 10 [.ref 1, .int x1] I (pm_Ki K) E := by
  unfold wX6_parse at h
  have hk2 : pm_k G 2 (.inr (1, 600)) := (pm_s6 hG hk0).1
  have hn1 : 1 ≤ pm_n G := hk0.2.1
  refine pm_enterX (by decide +kernel) hst hG rfl (Nat.le_of_ble_eq_true rfl) rfl (fun X hl hC hE => ?_)
  subst hl
  have hC : pm_C G X cX6_parse 4 RX6 (some .int) { frames := 42, cells := 1, slots := 10, locals := 3000 } := hC
  refine r_iload_n 0 hC dX6_parse_0 rfl rfl ?_
  refine r_if_lt 1 12 hC dX6_parse_1 (by decide) (fun hc => ?_) (fun hc => ?_)
  · replace h := h.1 hc
    exact x_throw 12 1 (tx := "the length is out of range") hC hE hX (by decide) (by decide) tw_446 tw_139 (by decide) dX6_parse_12 dX6_parse_15 dX6_parse_16 dX6_parse_18 dX6_parse_21 (by decide) (by decide) ⟨by decide, by decide⟩ ⟨by decide, by decide⟩ (Nat.le_of_ble_eq_true rfl) h
  replace h := h.2 hc
  refine r_iload_n 4 hC dX6_parse_4 rfl rfl ?_
  refine r_aload_n 5 hC dX6_parse_5 rfl rfl ?_
  refine r_getI6 6 (x := I 1 1) hC hk0 1 (by decide) tw_363 rfl rfl dX6_parse_6 ?_
  refine r_icmp_le 9 22 hC dX6_parse_9 (by decide) (fun hc => ?_) (fun hc => ?_)
  rotate_left
  · replace h := h.2 hc
    exact x_throw 12 1 (tx := "the length is out of range") hC hE hX (by decide) (by decide) tw_446 tw_139 (by decide) dX6_parse_12 dX6_parse_15 dX6_parse_16 dX6_parse_18 dX6_parse_21 (by decide) (by decide) ⟨by decide, by decide⟩ ⟨by decide, by decide⟩ (Nat.le_of_ble_eq_true rfl) h
  obtain ⟨hcl, hkd, h⟩ := h.1 hc
  have e1 : pm_nw I (pm_n G + 1) 1 = I 1 := by unfold pm_nw; rw [if_neg (by omega)]
  refine x_newR 22 hC hcl (fun v hv r hr => ?_) (fun v hv => absurd hv List.not_mem_nil) tw_513 tw_514 tw_140 ⟨by decide, by decide⟩ dX6_parse_22 (fun ha hb hne => ?_)
  · subst hr
    have hv' : some (Value.ref r) ∈ [some (Value.ref 1), some (.int x1), none, none] := hv
    simp at hv'
    rw [hv']
    exact hn1
  have ok1 : pm_ok (pm_x G ha (.inr (8, 2))) := pm_x_ok hG hb hne trivial
  have ok2 : pm_ok (pm_x G ha (.inl 2)) := pm_x_ok hG hb hne (pm_x_k hk2)
  have hC1 := pm_x_C hC ok1
  have hC2 := pm_x_C hC ok2
  replace h := h ha
  refine r_dup 25 hC1 dX6_parse_25 rfl ?_
  refine r_aload_n 26 hC1 dX6_parse_26 rfl rfl ?_
  refine r_getR6 27 (r1 := 2) hC1 (pm_x_k hk0) 0 (by decide) tw_362 rfl rfl dX6_parse_27 ?_
  refine r_iload_n 30 hC1 dX6_parse_30 rfl rfl ?_
  refine r_aload_n 31 hC1 dX6_parse_31 rfl rfl ?_
  refine r_getR6 32 (r1 := (I 1 4).toNatClampNeg) hC1 (pm_x_k hk0) 4 (by decide) tw_366 rfl (by rw [e1]; rfl) dX6_parse_32 ?_
  refine r_callI 35 (n := 3) (r := pm_n G + 1) (st := [.ref (pm_n G + 1)]) (K := fun Iz => Iz = pm_rd (pm_nw I (pm_n G + 1)) (pm_n G + 1) x1 ((I 1 4).toNatClampNeg)) [.ref 2, .int x1, .ref ((I 1 4).toNatClampNeg)] hC1 dX6_parse_35 (by decide) (by decide) tw_517 tw_140 ⟨by decide, by decide, by decide +kernel⟩ tw_515 tw_516 rfl rfl rfl (c_X2 ok1 _ _ x1 _ _ pm_x_new hkd.1 (by have := hkd.2.1; omega) rfl) ⟨by decide, by decide⟩ (Nat.le_of_ble_eq_true rfl) (fun Iz hIz => ?_)
  subst hIz
  refine x_finR 38 (fun ad => ?_) ?_
  · have e2 : pm_rd (pm_nw I (pm_n G + 1)) (pm_n G + 1) x1 ((I 1 4).toNatClampNeg) (pm_n G + 1) = upd (upd (upd (upd (fun _ => 0) 0 (nI 2)) 1 x1) 2 (nI ((I 1 4).toNatClampNeg))) 9 (-1) := by
      unfold pm_rd
      simp [pm_up, pm_nw]
    rw [e2]
    show [pm_rv ad (nI 2), .int x1, pm_rv ad (nI ((I 1 4).toNatClampNeg)), .int 0, .int 0, .int 0, .int 0, .int 0, .int 0, .int (-1)] = [.ref (ad 2), .int x1, .ref (ad (nI ((I 1 4).toNatClampNeg)).toNatClampNeg), .int 0, .int 0, .int 0, .int 0, .int 0, .int 0, .int (-1)]
    have := hkd.1
    have := hkd.2.1
    rw [pm_rv_nI (by omega) (by omega), pm_rv_nI (by omega) (by omega), nI_clamp (by omega)]
  refine r_astore_n 38 [some (.ref 1), some (.int x1), some (.ref (pm_n G + 1)), none] hC2 dX6_parse_38 rfl (by decide) rfl ?_
  refine r_aload_n 39 hC2 dX6_parse_39 rfl rfl ?_
  refine r_callVN_i 40 (n := 0) [] [] hC2 pm_x_new rfl dX6_parse_40 (by decide) (by decide) tw_554 tw_140 ⟨by decide, by decide, by decide +kernel⟩ tw_551 tw_553 tw_9 rfl rfl (sX2_readOverlay (l := pm_l X) ok2 (pm_x_str hN hS) (pm_n G + 1) _ _ pm_x_new h) ⟨by decide, by decide⟩ (Nat.le_of_ble_eq_true rfl) ?_
  clear h; intro r I1 h
  refine r_istore_n 43 [some (.ref 1), some (.int x1), some (.ref (pm_n G + 1)), some (.int r)] hC2 dX6_parse_43 rfl (by decide) rfl ?_
  refine r_aload_n 44 hC2 dX6_parse_44 rfl rfl ?_
  refine r_iconst 45 (v := 0) hC2 dX6_parse_45 (by decide) ?_
  refine r_putI6 46 hC2 (pm_x_k hk0) 1 (by decide) tw_363 rfl rfl (by decide +kernel) ps_6_1 dX6_parse_46 (fun I2 hI => ?_)
  replace h := h I2 hI; clear hI
  refine r_iload_n 49 hC2 dX6_parse_49 rfl rfl ?_
  refine r_if_eq 50 63 hC2 dX6_parse_50 (by decide) (fun hc => ?_) (fun hc => ?_)
  · replace h := h.1 hc
    refine r_aload_n 63 hC2 dX6_parse_63 rfl rfl ?_
    refine r_iconst 64 (v := -1) hC2 dX6_parse_64 (by decide) ?_
    refine r_putI6 65 hC2 (pm_x_k hk0) 2 (by decide) tw_364 rfl rfl (by decide +kernel) ps_6_2 dX6_parse_65 (fun I3 hI => ?_)
    replace h := h I3 hI; clear hI
    refine r_aload_n 68 hC2 dX6_parse_68 rfl rfl ?_
    refine r_callV_v 69 (n := 0) [] [] hC2 (pm_x_k hk0) rfl dX6_parse_69 (by decide) (by decide) tw_700 tw_129 ⟨by decide, by decide, by decide +kernel⟩ tw_697 tw_699 tw_30 rfl rfl (sX6_useDraft (l := pm_l X) ok2 1 _ _ (pm_x_k hk0) h) ⟨by decide, by decide⟩ (Nat.le_of_ble_eq_true rfl) ?_
    clear h; intro I4 h
    refine r_iconst 72 (v := 0) hC2 dX6_parse_72 (by decide) ?_
    exact x_retR 73 hC hE ⟨by decide, by decide⟩ rfl dX6_parse_73 h.1 ⟨0, rfl, h.2⟩
  · replace h := h.2 hc
    refine r_aload_n 53 hC2 dX6_parse_53 rfl rfl ?_
    refine r_aload_n 54 hC2 dX6_parse_54 rfl rfl ?_
    refine r_getIN2 55 (x := I2 (pm_n G + 1) 9) hC2 pm_x_new 9 (by decide) tw_529 rfl rfl dX6_parse_55 ?_
    refine r_putI6 58 hC2 (pm_x_k hk0) 2 (by decide) tw_364 rfl rfl (by decide +kernel) ps_6_2 dX6_parse_58 (fun I3 hI => ?_)
    replace h := h I3 hI; clear hI
    refine r_iload_n 61 hC2 dX6_parse_61 rfl rfl ?_
    exact x_retR 62 hC hE ⟨by decide, by decide⟩ rfl dX6_parse_62 h.1 ⟨r, rfl, h.2⟩
