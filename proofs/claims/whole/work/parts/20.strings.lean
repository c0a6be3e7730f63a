/-! ===== String constants: string i is the row 1000000 + i, its bytes the row 2000000 + i; these rows are never written ===== -/
def pm_slen : List Nat := [4, 4, 5, 5, 5, 4, 5, 6, 4, 8, 5]
def pm_sbyt : List (List Int32) := [[112, 101, 101, 114], [108, 105, 110, 107], [107, 110, 111, 119, 115], [115, 99, 111, 114, 101], [112, 114, 111, 98, 101], [107, 101, 121, 115], [102, 105, 114, 115, 116], [115, 101, 99, 111, 110, 100], [108, 111, 97, 100], [99, 97, 112, 97, 99, 105, 116, 121], [122, 111, 110, 101, 115]]
def pm_sr : List (String × Nat × String × Nat) := [(RX2, 47, "peer", 0), (RX2, 56, "link", 1), (RX2, 61, "knows", 2), (RX2, 66, "score", 3), (RX2, 133, "first", 6), (RX2, 135, "second", 7), (RX2, 137, "load", 8), (RX2, 139, "capacity", 9), (RX2, 141, "zones", 10), (RX2, 81, "probe", 4), (RX2, 93, "keys", 5), (RX7, 161, "peer", 0), (RX7, 171, "link", 1), (RX7, 176, "knows", 2), (RX7, 178, "probe", 4), (RX7, 186, "keys", 5), (RX7, 188, "score", 3), (RX7, 202, "first", 6), (RX7, 204, "second", 7), (RX7, 206, "load", 8), (RX7, 208, "capacity", 9), (RX7, 209, "zones", 10)]
def pm_str (G : pm_G) : Prop := ∀ U, pm_SS G U → vk_S 11 pm_slen pm_sbyt (fun i => pm_ad G (1000000 + i)) (fun i => pm_ad G (2000000 + i)) (pm_A G) U U.heap ∧ va_Z "java/lang/String" "COMPACT_STRINGS" "Z" (.int 1) (pm_A G) U U.heap ∧ (va_Z "jdk/internal/util/Preconditions" "SIOOBE_FORMATTER" "Ljava/util/function/BiFunction;" .null (pm_A G) U U.heap ∨ va_Z "jdk/internal/util/Preconditions" "SIOOBE_FORMATTER" "Ljava/util/function/BiFunction;" (.ref (pm_ad G 3000000)) (pm_A G) U U.heap) ∧ ∀ q ∈ pm_sr, vk_R q.1 q.2.1 q.2.2.1 (pm_ad G (1000000 + q.2.2.2)) U
section PMS
variable {G : pm_G} {X : pm_X} {cc : ByteArray} {nL a b : Nat} {own : String} {ret : Option FieldType} {rm : Room} {ls : List (Option Value)} {st : List Value} {I : pm_I}
theorem r_sval (pc : Nat) {i : Nat} (hS : pm_str G) (hi : i < 11) (hC : pm_C G X cc nL RJ0 ret rm) (hd : decode cc pc = .ok (.getfield 9, 3)) (k : pm_R G X nL a b (pc + 3) ls (.ref (2000000 + i) :: st) I) : pm_R G X nL a b pc ls (.ref (1000000 + i) :: st) I := by
  obtain ⟨p, l, e, R, s, m, args, below, meth, c, Q⟩ := X
  obtain ⟨hx, hb, -, -, ho, -, hT, -, -⟩ := hC
  intro H locs la hP hV hL
  exact vk_getf hx hb ((hS s hT.2.2.1).1.1 i hi).2.2.1 hV ho (hT.1.use tw_1641 rfl) (fun _ h => h) hd (k H locs la hP hV hL)
theorem r_scod (pc : Nat) {i : Nat} (hS : pm_str G) (hi : i < 11) (hC : pm_C G X cc nL RJ0 ret rm) (hd : decode cc pc = .ok (.getfield 15, 3)) (k : pm_R G X nL a b (pc + 3) ls (.int 0 :: st) I) : pm_R G X nL a b pc ls (.ref (1000000 + i) :: st) I := by
  obtain ⟨p, l, e, R, s, m, args, below, meth, c, Q⟩ := X
  obtain ⟨hx, hb, -, -, ho, -, hT, -, -⟩ := hC
  intro H locs la hP hV hL
  exact vk_getf hx hb ((hS s hT.2.2.1).1.1 i hi).2.1 hV ho (hT.1.use tw_1642 rfl) (fun _ h => h) hd (k H locs la hP hV hL)
theorem r_slen (pc : Nat) {i : Nat} (hS : pm_str G) (hi : i < 11) (hC : pm_C G X cc nL own ret rm) (hd : decode cc pc = .ok (.arraylength, 1)) (k : pm_R G X nL a b (pc + 1) ls (.int (Int32.ofNat (pm_slen.getD i 0)) :: st) I) : pm_R G X nL a b pc ls (.ref (2000000 + i) :: st) I := by
  obtain ⟨p, l, e, R, s, m, args, below, meth, c, Q⟩ := X
  obtain ⟨hx, hb, -, -, ho, -, hT, -, -⟩ := hC
  intro H locs la hP hV hL
  exact va_tlen hx hb ((hS s hT.2.2.1).1.1 i hi).2.2.2 hV rfl hd (k H locs la hP hV hL)
theorem r_sbld (pc : Nat) {i : Nat} {j : Int32} (hS : pm_str G) (hi : i < 11) (hC : pm_C G X cc nL own ret rm) (hin : vp_in j (pm_slen.getD i 0)) (hd : decode cc pc = .ok (.baload, 1)) (k : pm_R G X nL a b (pc + 1) ls (.int ((pm_sbyt.getD i []).getD j.toNatClampNeg 0) :: st) I) : pm_R G X nL a b pc ls (.int j :: .ref (2000000 + i) :: st) I := by
  obtain ⟨p, l, e, R, s, m, args, below, meth, c, Q⟩ := X
  obtain ⟨hx, hb, -, -, ho, -, hT, -, -⟩ := hC
  intro H locs la hP hV hL
  exact va_tb hx hb ((hS s hT.2.2.1).1.1 i hi).2.2.2 hV hin rfl hd (k H locs la hP hV hL)
theorem r_gcs (pc : Nat) (hS : pm_str G) (hC : pm_C G X cc nL RJ0 ret rm) (hd : decode cc pc = .ok (.getstatic 38, 3)) (k : pm_R G X nL a b (pc + 3) ls (.int 1 :: st) I) : pm_R G X nL a b pc ls st I := by
  obtain ⟨p, l, e, R, s, m, args, below, meth, c, Q⟩ := X
  obtain ⟨hx, hb, -, -, ho, -, hT, -, -⟩ := hC
  intro H locs la hP hV hL
  exact va_gets hx hb (hS s hT.2.2.1).2.1 hV ho (hT.1.use tw_589 rfl) (fun _ h => h) hd (k H locs la hP hV hL)
theorem r_fmt (pc : Nat) (hS : pm_str G) (hC : pm_C G X cc nL RJ0 ret rm) (hd : decode cc pc = .ok (.getstatic 1053, 3)) (k : ∀ v : Value, v.category = 1 → pm_R G X nL a b (pc + 3) ls (v :: st) I) : pm_R G X nL a b pc ls st I := by
  obtain ⟨p, l, e, R, s, m, args, below, meth, c, Q⟩ := X
  obtain ⟨hx, hb, -, -, ho, -, hT, -, -⟩ := hC
  intro H locs la hP hV hL
  rcases (hS s hT.2.2.1).2.2.1 with hz | hz
  · exact va_gets hx hb hz hV ho (hT.1.use tw_605 rfl) (fun _ h => h) hd (k .null rfl H locs la hP hV hL)
  · exact va_gets hx hb hz hV ho (hT.1.use tw_605 rfl) (fun _ h => h) hd (k (.ref 3000000) rfl H locs la hP hV hL)
theorem r_ldcS (pc : Nat) {index i : Nat} {tx : String} (hS : pm_str G) (hC : pm_C G X cc nL own ret rm) (hm : (own, index, tx, i) ∈ pm_sr) (hd : decode cc pc = .ok (.ldc index, 2)) (k : pm_R G X nL a b (pc + 2) ls (.ref (1000000 + i) :: st) I) : pm_R G X nL a b pc ls st I := by
  obtain ⟨p, l, e, R, s, m, args, below, meth, c, Q⟩ := X
  obtain ⟨hx, hb, -, -, ho, -, hT, -, -⟩ := hC
  intro H locs la hP hV hL
  exact va_ldcS hx hb ho ((hS s hT.2.2.1).2.2.2 _ hm) hd (k H locs la hP hV hL)
theorem r_callStr (pc : Nat) {y : MethodName} {bytes : ByteArray} {maxL fr lo n index : Nat} {rety : Option FieldType} {i : Nat} (As st : List Value) {stk : List Value} {K : Int32 → pm_I → Prop} (hS : pm_str G) (hi : i < 11) (hC : pm_C G X cc nL own ret rm) (hd : decode cc pc = .ok (.invokevirtual index, 3)) (hfr : fr + 1 ≤ rm.frames) (hlo : 8 + (maxL + 11) + lo ≤ rm.locals) (hcode : Cond.code y bytes maxL rety ∈ lw_tbl) (hini : Cond.initialized y.cls ∈ lw_tbl) (hy : y.cls ≠ "java/lang/invoke/MethodHandle" ∧ y.cls ≠ "java/lang/invoke/VarHandle" ∧ (parseMethodDescriptor y.desc).map (fun d => d.parameters.length) = some n)
    (hlink : Cond.methodLink own index y ∈ lw_tbl) (hinst : Cond.instanceMethod y ∈ lw_tbl) (hsel : Cond.selects RJ0 y y ∈ lw_tbl) (hn : As.length = n) (hst : As.reverse ++ .ref (1000000 + i) :: st = stk) (hM : pm_Ct G (pm_l X) y bytes maxL rety { frames := fr, cells := 0, slots := 0, locals := lo } (.ref (1000000 + i) :: As) I (pm_Ki K))
    (hab : a ≤ rm.cells ∧ b ≤ rm.slots) (hw : (st.map fun v => v.category).sum ≤ 8) (k : ∀ r9 I1, K r9 I1 → pm_R G X nL a b (pc + 3) ls (.int r9 :: st) I1) : pm_R G X nL a b pc ls stk I := by
  obtain ⟨p, l, e, R, s, m, args, below, meth, c, Q⟩ := X
  obtain ⟨hx, hb, -, hml, ho, -, hT, rfl, hG⟩ := hC
  intro H locs la hP hV hL
  subst hst
  have hcat : ((st.map (pm_tr G)).map fun v => v.category).sum ≤ 8 := by
    rw [List.map_map]
    have : ((fun v : Value => v.category) ∘ pm_tr G) = fun v : Value => v.category := funext fun v => pm_cat G v
    rw [this]; exact hw
  refine pm_after hV (va_runV (C := RJ0) (As := As.map (pm_tr G)) (rest := st.map (pm_tr G)) (b := pm_ad G (1000000 + i)) (Ts := []) (own := own) (index := index) ⟨hx, hb, hml, ho, fun w h => absurd h List.not_mem_nil⟩ hM ⟨⟨rfl, rfl, hfr, hlo, pm_pay hT.1 hcode, List.mem_singleton.mpr rfl, hT.1.use hcode rfl, hT.1.use hini rfl, ⟨hy.1, hy.2.1⟩, pm_npar hy.2.2, hT.1.use hlink rfl⟩, hT.1.use hinst rfl, hT.1.use hsel rfl⟩ ⟨pm_P_blind hG, vk_recv (adK := fun i => pm_ad G (1000000 + i)) (i := i) (hS s hT.2.2.1).1 hi hV, fun U hU hW => ⟨by simp [pm_tr], pm_Tb.next hG hT hW (by rw [hU]; exact hV), by rw [hU]; exact hP⟩⟩ rfl (by rw [List.length_map]; exact hn) (by obtain ⟨l9, h9, -⟩ := hL; exact h9.1) (by simp [pm_tr]) (lv_room hcat) hd hab) hL (by rintro _ I1 ⟨r9, rfl, h⟩; exact k r9 I1 h)
end PMS
theorem sJ0_coder_7d493 {G : pm_G} {l : Launch} (hG : pm_ok G) (hS : pm_str G) (i : Nat) (hi : i < 11) (I : pm_I) : pm_Ct G l yJ0_coder_7d493 cJ0_coder_7d493 1 (some .byte) { frames := 1, cells := 0, slots := 0, locals := 64 } [.ref (1000000 + i)] I (pm_Ki (fun r I' => r = 0 ∧ I = I')) := by
  refine pm_enter (by decide +kernel) hG rfl (Nat.le_of_ble_eq_true rfl) rfl (fun X hl hC hE => ?_)
  subst hl
  have hab : 0 ≤ 0 ∧ 0 ≤ 0 := ⟨Nat.le_refl 0, Nat.le_refl 0⟩
  have hC : pm_C G X cJ0_coder_7d493 1 RJ0 (some .byte) { frames := 1, cells := 0, slots := 0, locals := 64 } := hC
  refine r_gcs 0 hS hC dJ0_coder_7d493_0 ?_
  refine r_if_eq 3 13 hC dJ0_coder_7d493_3 (by decide) (fun hc => absurd hc (by decide)) (fun hc => ?_)
  refine r_aload_n 6 hC dJ0_coder_7d493_6 rfl rfl ?_
  refine r_scod 7 hS hi hC dJ0_coder_7d493_7 ?_
  refine r_goto 10 14 hC dJ0_coder_7d493_10 (by decide) ?_
  exact r_iret 14 hC hE rfl dJ0_coder_7d493_14 ⟨_, rfl, rfl, rfl⟩
theorem sJ0_isLatin1_aae02 {G : pm_G} {l : Launch} (hG : pm_ok G) (hS : pm_str G) (i : Nat) (hi : i < 11) (I : pm_I) : pm_Ct G l yJ0_isLatin1_aae02 cJ0_isLatin1_aae02 1 (some .boolean) { frames := 1, cells := 0, slots := 0, locals := 64 } [.ref (1000000 + i)] I (pm_Ki (fun r I' => r = 1 ∧ I = I')) := by
  refine pm_enter (by decide +kernel) hG rfl (Nat.le_of_ble_eq_true rfl) rfl (fun X hl hC hE => ?_)
  subst hl
  have hab : 0 ≤ 0 ∧ 0 ≤ 0 := ⟨Nat.le_refl 0, Nat.le_refl 0⟩
  have hC : pm_C G X cJ0_isLatin1_aae02 1 RJ0 (some .boolean) { frames := 1, cells := 0, slots := 0, locals := 64 } := hC
  refine r_gcs 0 hS hC dJ0_isLatin1_aae02_0 ?_
  refine r_if_eq 3 17 hC dJ0_isLatin1_aae02_3 (by decide) (fun hc => absurd hc (by decide)) (fun hc => ?_)
  refine r_aload_n 6 hC dJ0_isLatin1_aae02_6 rfl rfl ?_
  refine r_scod 7 hS hi hC dJ0_isLatin1_aae02_7 ?_
  refine r_if_ne 10 17 hC dJ0_isLatin1_aae02_10 (by decide) (fun hc => absurd rfl hc) (fun hc => ?_)
  refine r_iconst 13 (v := 1) hC dJ0_isLatin1_aae02_13 (by decide) ?_
  refine r_goto 14 18 hC dJ0_isLatin1_aae02_14 (by decide) ?_
  exact r_iret 18 hC hE rfl dJ0_isLatin1_aae02_18 ⟨_, rfl, rfl, rfl⟩
theorem pm_slen_sh : ∀ i, i < 11 → Int32.ofNat (pm_slen.getD i 0) >>> ((0 : Int32) &&& 31) = Int32.ofNat (pm_slen.getD i 0) := by decide +kernel
theorem sJ0_length_8abf5 {G : pm_G} {l : Launch} (hG : pm_ok G) (hS : pm_str G) (i : Nat) (hi : i < 11) (I : pm_I) : pm_Ct G l yJ0_length_8abf5 cJ0_length_8abf5 1 (some .int) { frames := 2, cells := 0, slots := 0, locals := 150 } [.ref (1000000 + i)] I (pm_Ki (fun r I' => r = Int32.ofNat (pm_slen.getD i 0) ∧ I = I')) := by
  refine pm_enter (by decide +kernel) hG rfl (Nat.le_of_ble_eq_true rfl) rfl (fun X hl hC hE => ?_)
  subst hl
  have hab : 0 ≤ 0 ∧ 0 ≤ 0 := ⟨Nat.le_refl 0, Nat.le_refl 0⟩
  have hC : pm_C G X cJ0_length_8abf5 1 RJ0 (some .int) { frames := 2, cells := 0, slots := 0, locals := 150 } := hC
  refine r_aload_n 0 hC dJ0_length_8abf5_0 rfl rfl ?_
  refine r_sval 1 hS hi hC dJ0_length_8abf5_1 ?_
  refine r_slen 4 hS hi hC dJ0_length_8abf5_4 ?_
  refine r_aload_n 5 hC dJ0_length_8abf5_5 rfl rfl ?_
  refine r_callStr 6 (n := 0) [] [.int (Int32.ofNat (pm_slen.getD i 0))] hS hi hC dJ0_length_8abf5_6 (by decide) (by decide) tw_588 tw_141 ⟨by decide, by decide, by decide +kernel⟩ tw_585 tw_586 tw_587 rfl rfl (sJ0_coder_7d493 hG hS i hi I) hab (Nat.le_of_ble_eq_true rfl) ?_
  rintro _ _ ⟨rfl, rfl⟩
  refine r_ishr 9 hC dJ0_length_8abf5_9 ?_
  exact r_iret 10 hC hE rfl dJ0_length_8abf5_10 ⟨_, rfl, pm_slen_sh i hi, rfl⟩
theorem sJ3_checkIndex_8e157 {G : pm_G} {l : Launch} (hG : pm_ok G) (x n : Int32) (v : Value) (hv : v.category = 1) (h1 : ¬ x < 0) (h2 : x < n) (I : pm_I) : pm_Ct G l yJ3_checkIndex_8e157 cJ3_checkIndex_8e157 3 (some .int) { frames := 1, cells := 0, slots := 0, locals := 64 } [.int x, .int n, v] I (pm_Ki (fun r I' => x = r ∧ I = I')) := by
  refine pm_enter (by decide +kernel) hG (by show (true && (true && ((v.category == 1) && true))) = true; rw [hv]; rfl) (Nat.le_of_ble_eq_true rfl) rfl (fun X hl hC hE => ?_)
  subst hl
  have hC : pm_C G X cJ3_checkIndex_8e157 3 RJ3 (some .int) { frames := 1, cells := 0, slots := 0, locals := 64 } := hC
  refine r_iload_n 0 hC dJ3_checkIndex_8e157_0 rfl rfl ?_
  refine r_if_lt 1 9 hC dJ3_checkIndex_8e157_1 (by decide) (fun hc => absurd hc h1) (fun hc => ?_)
  refine r_iload_n 4 hC dJ3_checkIndex_8e157_4 rfl rfl ?_
  refine r_iload_n 5 hC dJ3_checkIndex_8e157_5 rfl rfl ?_
  refine r_icmp_lt 6 16 hC dJ3_checkIndex_8e157_6 (by decide) (fun hc => ?_) (fun hc => absurd h2 hc)
  refine r_iload_n 16 hC dJ3_checkIndex_8e157_16 rfl rfl ?_
  exact r_iret 17 hC hE rfl dJ3_checkIndex_8e157_17 ⟨_, rfl, rfl, rfl⟩
theorem sJ0_checkIndex_df160 {G : pm_G} {l : Launch} (hG : pm_ok G) (hS : pm_str G) (x n : Int32) (h1 : ¬ x < 0) (h2 : x < n) (I : pm_I) : pm_Ct G l yJ0_checkIndex_df160 cJ0_checkIndex_df160 2 none { frames := 2, cells := 0, slots := 0, locals := 150 } [.int x, .int n] I (pm_Kv (fun I' => I = I')) := by
  refine pm_enter (by decide +kernel) hG rfl (Nat.le_of_ble_eq_true rfl) rfl (fun X hl hC hE => ?_)
  subst hl
  have hab : 0 ≤ 0 ∧ 0 ≤ 0 := ⟨Nat.le_refl 0, Nat.le_refl 0⟩
  have hC : pm_C G X cJ0_checkIndex_df160 2 RJ0 none { frames := 2, cells := 0, slots := 0, locals := 150 } := hC
  refine r_iload_n 0 hC dJ0_checkIndex_df160_0 rfl rfl ?_
  refine r_iload_n 1 hC dJ0_checkIndex_df160_1 rfl rfl ?_
  refine r_fmt 2 hS hC dJ0_checkIndex_df160_2 (fun v hv => ?_)
  refine r_callS_i 5 (n := 3) [.int x, .int n, v] [] hC dJ0_checkIndex_df160_5 (by decide) (by decide) tw_609 tw_143 ⟨by decide, by decide, by decide +kernel⟩ tw_607 tw_608 rfl rfl (sJ3_checkIndex_8e157 hG x n v hv h1 h2 I) hab (Nat.le_of_ble_eq_true rfl) ?_
  rintro _ _ ⟨rfl, rfl⟩
  refine r_pop 8 hC dJ0_checkIndex_df160_8 rfl ?_
  exact r_vret 9 hC hE dJ0_checkIndex_df160_9 ⟨rfl, rfl⟩
theorem pm_slt : ∀ i, i < 11 → pm_slen.getD i 0 < 2 ^ 31 := by decide +kernel
theorem pm_schr : ∀ i, i < 11 → ∀ j, j < pm_slen.getD i 0 → (((pm_sbyt.getD i []).getD j 0 &&& 255).toUInt32 % 65536).toInt32 = (pm_sbyt.getD i []).getD j 0 := by decide +kernel
theorem sJ1_charAt_3b067 {G : pm_G} {l : Launch} (hG : pm_ok G) (hS : pm_str G) (i : Nat) (hi : i < 11) (x : Int32) (hx : vp_in x (pm_slen.getD i 0)) (I : pm_I) : pm_Ct G l yJ1_charAt_3b067 cJ1_charAt_3b067 2 (some .char) { frames := 3, cells := 0, slots := 0, locals := 250 } [.ref (2000000 + i), .int x] I (pm_Ki (fun r I' => r = (pm_sbyt.getD i []).getD x.toNatClampNeg 0 ∧ I = I')) := by
  have hlt : x < Int32.ofNat (pm_slen.getD i 0) := by
    obtain ⟨j, hj, rfl⟩ := vp_in_of hx (pm_slt i hi)
    exact nI_lt hj (pm_slt i hi)
  refine pm_enter (by decide +kernel) hG rfl (Nat.le_of_ble_eq_true rfl) rfl (fun X hl hC hE => ?_)
  subst hl
  have hab : 0 ≤ 0 ∧ 0 ≤ 0 := ⟨Nat.le_refl 0, Nat.le_refl 0⟩
  have hC : pm_C G X cJ1_charAt_3b067 2 RJ1 (some .char) { frames := 3, cells := 0, slots := 0, locals := 250 } := hC
  refine r_iload_n 0 hC dJ1_charAt_3b067_0 rfl rfl ?_
  refine r_aload_n 1 hC dJ1_charAt_3b067_1 rfl rfl ?_
  refine r_slen 2 hS hi hC dJ1_charAt_3b067_2 ?_
  refine r_callS_v 3 (n := 2) [.int x, .int (Int32.ofNat (pm_slen.getD i 0))] [] hC dJ1_charAt_3b067_3 (by decide) (by decide) tw_604 tw_141 ⟨by decide, by decide, by decide +kernel⟩ tw_602 tw_603 rfl rfl (sJ0_checkIndex_df160 hG hS x _ (fun h => hx (Or.inl h)) hlt I) hab (Nat.le_of_ble_eq_true rfl) ?_
  rintro _ rfl
  refine r_aload_n 6 hC dJ1_charAt_3b067_6 rfl rfl ?_
  refine r_iload_n 7 hC dJ1_charAt_3b067_7 rfl rfl ?_
  refine r_sbld 8 hS hi hC hx dJ1_charAt_3b067_8 ?_
  refine r_sipush 9 (v := 255) hC dJ1_charAt_3b067_9 (by decide) ?_
  refine r_iand 12 hC dJ1_charAt_3b067_12 ?_
  refine r_i2c 13 hC dJ1_charAt_3b067_13 ?_
  exact r_iret 14 hC hE (pk_nc _) dJ1_charAt_3b067_14 ⟨_, rfl, pm_schr i hi _ (pm_vlt hx), rfl⟩
theorem pm_schn : ∀ i, i < 11 → ∀ j, j < pm_slen.getD i 0 → narrow .char (.int ((pm_sbyt.getD i []).getD j 0)) = .int ((pm_sbyt.getD i []).getD j 0) := by decide +kernel
theorem sJ0_charAt_5068e {G : pm_G} {l : Launch} (hG : pm_ok G) (hS : pm_str G) (i : Nat) (hi : i < 11) (x : Int32) (hx : vp_in x (pm_slen.getD i 0)) (I : pm_I) : pm_Ct G l yJ0_charAt_5068e cJ0_charAt_5068e 2 (some .char) { frames := 4, cells := 0, slots := 0, locals := 350 } [.ref (1000000 + i), .int x] I (pm_Ki (fun r I' => r = (pm_sbyt.getD i []).getD x.toNatClampNeg 0 ∧ I = I')) := by
  refine pm_enter (by decide +kernel) hG rfl (Nat.le_of_ble_eq_true rfl) rfl (fun X hl hC hE => ?_)
  subst hl
  have hab : 0 ≤ 0 ∧ 0 ≤ 0 := ⟨Nat.le_refl 0, Nat.le_refl 0⟩
  have hC : pm_C G X cJ0_charAt_5068e 2 RJ0 (some .char) { frames := 4, cells := 0, slots := 0, locals := 350 } := hC
  refine r_aload_n 0 hC dJ0_charAt_5068e_0 rfl rfl ?_
  refine r_callStr 1 (n := 0) [] [] hS hi hC dJ0_charAt_5068e_1 (by decide) (by decide) tw_598 tw_141 ⟨by decide, by decide, by decide +kernel⟩ tw_595 tw_596 tw_597 rfl rfl (sJ0_isLatin1_aae02 hG hS i hi I) hab (Nat.le_of_ble_eq_true rfl) ?_
  rintro _ _ ⟨rfl, rfl⟩
  refine r_if_eq 4 16 hC dJ0_charAt_5068e_4 (by decide) (fun hc => absurd hc (by decide)) (fun hc => ?_)
  refine r_aload_n 7 hC dJ0_charAt_5068e_7 rfl rfl ?_
  refine r_sval 8 hS hi hC dJ0_charAt_5068e_8 ?_
  refine r_iload_n 11 hC dJ0_charAt_5068e_11 rfl rfl ?_
  refine r_callS_i 12 (n := 2) [.ref (2000000 + i), .int x] [] hC dJ0_charAt_5068e_12 (by decide) (by decide) tw_601 tw_142 ⟨by decide, by decide, by decide +kernel⟩ tw_599 tw_600 rfl rfl (sJ1_charAt_3b067 hG hS i hi x hx I) hab (Nat.le_of_ble_eq_true rfl) ?_
  rintro _ _ ⟨rfl, rfl⟩
  exact r_iret 15 hC hE (pm_schn i hi _ (pm_vlt hx)) dJ0_charAt_5068e_15 ⟨_, rfl, rfl, rfl⟩
