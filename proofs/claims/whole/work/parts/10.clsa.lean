def wJ9_min_7cf53 (G : pm_G) (x0 : Int32) (x1 : Int32) (I : pm_I) (K : Int32 → pm_I → Prop) : Prop :=
  (x1 < x0 → (K (x1) I)) ∧ (¬ x1 < x0 → (K (x0) I))

set_option maxRecDepth 20000 in
theorem sJ9_min_7cf53 {G : pm_G} {l : Launch} (hG : pm_ok G) (x0 : Int32) (x1 : Int32) (I : pm_I) (K : Int32 → pm_I → Prop)  (h : wJ9_min_7cf53 G x0 x1 I K) : pm_Ct G l yJ9_min_7cf53 cJ9_min_7cf53 2 (some .int) { frames := 1, cells := 0, slots := 0, locals := 64 } [.int (x0), .int (x1)] I (pm_Ki K) := by
  unfold wJ9_min_7cf53 at h
  refine pm_enter (by decide +kernel) hG rfl (Nat.le_of_ble_eq_true rfl) rfl (fun X hl hC hE => ?_)
  subst hl
  have hab : 0 ≤ 0 ∧ 0 ≤ 0 := ⟨Nat.le_refl 0, Nat.le_refl 0⟩
  have hC : pm_C G X cJ9_min_7cf53 2 RJ9 (some .int) { frames := 1, cells := 0, slots := 0, locals := 64 } := hC
  refine r_iload_n 0 hC dJ9_min_7cf53_0 rfl rfl ?_
  refine r_iload_n 1 hC dJ9_min_7cf53_1 rfl rfl ?_
  refine r_icmp_gt 2 9 hC dJ9_min_7cf53_2 (by decide) (fun hc => ?_) (fun hc => ?_)
  · replace h := h.1 hc
    refine r_iload_n 9 hC dJ9_min_7cf53_9 rfl rfl ?_
    exact r_iret 10 hC hE rfl dJ9_min_7cf53_10 ⟨_, rfl, h⟩
  · replace h := h.2 hc
    refine r_iload_n 5 hC dJ9_min_7cf53_5 rfl rfl ?_
    refine r_goto 6 10 hC dJ9_min_7cf53_6 (by decide) ?_
    exact r_iret 10 hC hE rfl dJ9_min_7cf53_10 ⟨_, rfl, h⟩

def wJ9_floorMod_7cf53 (G : pm_G) (x0 : Int32) (x1 : Int32) (I : pm_I) (K : Int32 → pm_I → Prop) : Prop :=
  (¬ (x1) = 0) ∧ ((0 ≤ (x0 ^^^ x1) → (K (x0 - x0 / x1 * x1) I)) ∧ (¬ 0 ≤ (x0 ^^^ x1) → (((x0 - x0 / x1 * x1) = 0 → (K (x0 - x0 / x1 * x1) I)) ∧ (¬ (x0 - x0 / x1 * x1) = 0 → (K ((x0 - x0 / x1 * x1) + x1) I)))))

set_option maxRecDepth 20000 in
theorem sJ9_floorMod_7cf53 {G : pm_G} {l : Launch} (hG : pm_ok G) (x0 : Int32) (x1 : Int32) (I : pm_I) (K : Int32 → pm_I → Prop)  (h : wJ9_floorMod_7cf53 G x0 x1 I K) : pm_Ct G l yJ9_floorMod_7cf53 cJ9_floorMod_7cf53 3 (some .int) { frames := 1, cells := 0, slots := 0, locals := 64 } [.int (x0), .int (x1)] I (pm_Ki K) := by
  unfold wJ9_floorMod_7cf53 at h
  refine pm_enter (by decide +kernel) hG rfl (Nat.le_of_ble_eq_true rfl) rfl (fun X hl hC hE => ?_)
  subst hl
  have hab : 0 ≤ 0 ∧ 0 ≤ 0 := ⟨Nat.le_refl 0, Nat.le_refl 0⟩
  have hC : pm_C G X cJ9_floorMod_7cf53 3 RJ9 (some .int) { frames := 1, cells := 0, slots := 0, locals := 64 } := hC
  refine r_iload_n 0 hC dJ9_floorMod_7cf53_0 rfl rfl ?_
  refine r_iload_n 1 hC dJ9_floorMod_7cf53_1 rfl rfl ?_
  refine r_irem 2 hC dJ9_floorMod_7cf53_2 h.1 ?_
  replace h := h.2
  refine r_istore_n 3 [some (.int (x0)), some (.int (x1)), some (.int (x0 - x0 / x1 * x1))] hC dJ9_floorMod_7cf53_3 rfl (by decide) rfl ?_
  refine r_iload_n 4 hC dJ9_floorMod_7cf53_4 rfl rfl ?_
  refine r_iload_n 5 hC dJ9_floorMod_7cf53_5 rfl rfl ?_
  refine r_ixor 6 hC dJ9_floorMod_7cf53_6 ?_
  refine r_if_ge 7 18 hC dJ9_floorMod_7cf53_7 (by decide) (fun hc => ?_) (fun hc => ?_)
  · replace h := h.1 hc
    refine r_iload_n 18 hC dJ9_floorMod_7cf53_18 rfl rfl ?_
    exact r_iret 19 hC hE rfl dJ9_floorMod_7cf53_19 ⟨_, rfl, h⟩
  · replace h := h.2 hc
    refine r_iload_n 10 hC dJ9_floorMod_7cf53_10 rfl rfl ?_
    refine r_if_eq 11 18 hC dJ9_floorMod_7cf53_11 (by decide) (fun hc => ?_) (fun hc => ?_)
    · replace h := h.1 hc
      refine r_iload_n 18 hC dJ9_floorMod_7cf53_18 rfl rfl ?_
      exact r_iret 19 hC hE rfl dJ9_floorMod_7cf53_19 ⟨_, rfl, h⟩
    · replace h := h.2 hc
      refine r_iload_n 14 hC dJ9_floorMod_7cf53_14 rfl rfl ?_
      refine r_iload_n 15 hC dJ9_floorMod_7cf53_15 rfl rfl ?_
      refine r_iadd 16 hC dJ9_floorMod_7cf53_16 ?_
      exact r_iret 17 hC hE rfl dJ9_floorMod_7cf53_17 ⟨_, rfl, h⟩

def wJ6_bitCount_0f7a4 (G : pm_G) (x0 : Int32) (I : pm_I) (K : Int32 → pm_I → Prop) : Prop :=
  K ((((((((x0 - ((((x0).toUInt32 >>> ((1 : Int32).toUInt32 &&& Int32.toUInt32 31)).toInt32) &&& 1431655765)) &&& 858993459) + ((((x0 - ((((x0).toUInt32 >>> ((1 : Int32).toUInt32 &&& Int32.toUInt32 31)).toInt32) &&& 1431655765)).toUInt32 >>> ((2 : Int32).toUInt32 &&& Int32.toUInt32 31)).toInt32) &&& 858993459)) + (((((x0 - ((((x0).toUInt32 >>> ((1 : Int32).toUInt32 &&& Int32.toUInt32 31)).toInt32) &&& 1431655765)) &&& 858993459) + ((((x0 - ((((x0).toUInt32 >>> ((1 : Int32).toUInt32 &&& Int32.toUInt32 31)).toInt32) &&& 1431655765)).toUInt32 >>> ((2 : Int32).toUInt32 &&& Int32.toUInt32 31)).toInt32) &&& 858993459)).toUInt32 >>> ((4 : Int32).toUInt32 &&& Int32.toUInt32 31)).toInt32)) &&& 252645135) + (((((((x0 - ((((x0).toUInt32 >>> ((1 : Int32).toUInt32 &&& Int32.toUInt32 31)).toInt32) &&& 1431655765)) &&& 858993459) + ((((x0 - ((((x0).toUInt32 >>> ((1 : Int32).toUInt32 &&& Int32.toUInt32 31)).toInt32) &&& 1431655765)).toUInt32 >>> ((2 : Int32).toUInt32 &&& Int32.toUInt32 31)).toInt32) &&& 858993459)) + (((((x0 - ((((x0).toUInt32 >>> ((1 : Int32).toUInt32 &&& Int32.toUInt32 31)).toInt32) &&& 1431655765)) &&& 858993459) + ((((x0 - ((((x0).toUInt32 >>> ((1 : Int32).toUInt32 &&& Int32.toUInt32 31)).toInt32) &&& 1431655765)).toUInt32 >>> ((2 : Int32).toUInt32 &&& Int32.toUInt32 31)).toInt32) &&& 858993459)).toUInt32 >>> ((4 : Int32).toUInt32 &&& Int32.toUInt32 31)).toInt32)) &&& 252645135).toUInt32 >>> ((8 : Int32).toUInt32 &&& Int32.toUInt32 31)).toInt32)) + ((((((((x0 - ((((x0).toUInt32 >>> ((1 : Int32).toUInt32 &&& Int32.toUInt32 31)).toInt32) &&& 1431655765)) &&& 858993459) + ((((x0 - ((((x0).toUInt32 >>> ((1 : Int32).toUInt32 &&& Int32.toUInt32 31)).toInt32) &&& 1431655765)).toUInt32 >>> ((2 : Int32).toUInt32 &&& Int32.toUInt32 31)).toInt32) &&& 858993459)) + (((((x0 - ((((x0).toUInt32 >>> ((1 : Int32).toUInt32 &&& Int32.toUInt32 31)).toInt32) &&& 1431655765)) &&& 858993459) + ((((x0 - ((((x0).toUInt32 >>> ((1 : Int32).toUInt32 &&& Int32.toUInt32 31)).toInt32) &&& 1431655765)).toUInt32 >>> ((2 : Int32).toUInt32 &&& Int32.toUInt32 31)).toInt32) &&& 858993459)).toUInt32 >>> ((4 : Int32).toUInt32 &&& Int32.toUInt32 31)).toInt32)) &&& 252645135) + (((((((x0 - ((((x0).toUInt32 >>> ((1 : Int32).toUInt32 &&& Int32.toUInt32 31)).toInt32) &&& 1431655765)) &&& 858993459) + ((((x0 - ((((x0).toUInt32 >>> ((1 : Int32).toUInt32 &&& Int32.toUInt32 31)).toInt32) &&& 1431655765)).toUInt32 >>> ((2 : Int32).toUInt32 &&& Int32.toUInt32 31)).toInt32) &&& 858993459)) + (((((x0 - ((((x0).toUInt32 >>> ((1 : Int32).toUInt32 &&& Int32.toUInt32 31)).toInt32) &&& 1431655765)) &&& 858993459) + ((((x0 - ((((x0).toUInt32 >>> ((1 : Int32).toUInt32 &&& Int32.toUInt32 31)).toInt32) &&& 1431655765)).toUInt32 >>> ((2 : Int32).toUInt32 &&& Int32.toUInt32 31)).toInt32) &&& 858993459)).toUInt32 >>> ((4 : Int32).toUInt32 &&& Int32.toUInt32 31)).toInt32)) &&& 252645135).toUInt32 >>> ((8 : Int32).toUInt32 &&& Int32.toUInt32 31)).toInt32)).toUInt32 >>> ((16 : Int32).toUInt32 &&& Int32.toUInt32 31)).toInt32)) &&& 63) I

set_option maxRecDepth 20000 in
theorem sJ6_bitCount_0f7a4 {G : pm_G} {l : Launch} (hG : pm_ok G) (x0 : Int32) (I : pm_I) (K : Int32 → pm_I → Prop)  (h : wJ6_bitCount_0f7a4 G x0 I K) : pm_Ct G l yJ6_bitCount_0f7a4 cJ6_bitCount_0f7a4 1 (some .int) { frames := 1, cells := 0, slots := 0, locals := 64 } [.int (x0)] I (pm_Ki K) := by
  unfold wJ6_bitCount_0f7a4 at h
  refine pm_enter (by decide +kernel) hG rfl (Nat.le_of_ble_eq_true rfl) rfl (fun X hl hC hE => ?_)
  subst hl
  have hab : 0 ≤ 0 ∧ 0 ≤ 0 := ⟨Nat.le_refl 0, Nat.le_refl 0⟩
  have hC : pm_C G X cJ6_bitCount_0f7a4 1 RJ6 (some .int) { frames := 1, cells := 0, slots := 0, locals := 64 } := hC
  refine r_iload_n 0 hC dJ6_bitCount_0f7a4_0 rfl rfl ?_
  refine r_iload_n 1 hC dJ6_bitCount_0f7a4_1 rfl rfl ?_
  refine r_iconst 2 (v := 1) hC dJ6_bitCount_0f7a4_2 (by decide) ?_
  refine r_iushr 3 hC dJ6_bitCount_0f7a4_3 rfl ?_
  refine r_ldcw 4 hC tw_1059 dJ6_bitCount_0f7a4_4 ?_
  refine r_iand 7 hC dJ6_bitCount_0f7a4_7 ?_
  refine r_isub 8 hC dJ6_bitCount_0f7a4_8 ?_
  refine r_istore_n 9 [some (.int (x0 - ((((x0).toUInt32 >>> ((1 : Int32).toUInt32 &&& Int32.toUInt32 31)).toInt32) &&& 1431655765)))] hC dJ6_bitCount_0f7a4_9 rfl (by decide) rfl ?_
  refine r_iload_n 10 hC dJ6_bitCount_0f7a4_10 rfl rfl ?_
  refine r_ldcw 11 hC tw_1060 dJ6_bitCount_0f7a4_11 ?_
  refine r_iand 14 hC dJ6_bitCount_0f7a4_14 ?_
  refine r_iload_n 15 hC dJ6_bitCount_0f7a4_15 rfl rfl ?_
  refine r_iconst 16 (v := 2) hC dJ6_bitCount_0f7a4_16 (by decide) ?_
  refine r_iushr 17 hC dJ6_bitCount_0f7a4_17 rfl ?_
  refine r_ldcw 18 hC tw_1060 dJ6_bitCount_0f7a4_18 ?_
  refine r_iand 21 hC dJ6_bitCount_0f7a4_21 ?_
  refine r_iadd 22 hC dJ6_bitCount_0f7a4_22 ?_
  refine r_istore_n 23 [some (.int (((x0 - ((((x0).toUInt32 >>> ((1 : Int32).toUInt32 &&& Int32.toUInt32 31)).toInt32) &&& 1431655765)) &&& 858993459) + ((((x0 - ((((x0).toUInt32 >>> ((1 : Int32).toUInt32 &&& Int32.toUInt32 31)).toInt32) &&& 1431655765)).toUInt32 >>> ((2 : Int32).toUInt32 &&& Int32.toUInt32 31)).toInt32) &&& 858993459)))] hC dJ6_bitCount_0f7a4_23 rfl (by decide) rfl ?_
  refine r_iload_n 24 hC dJ6_bitCount_0f7a4_24 rfl rfl ?_
  refine r_iload_n 25 hC dJ6_bitCount_0f7a4_25 rfl rfl ?_
  refine r_iconst 26 (v := 4) hC dJ6_bitCount_0f7a4_26 (by decide) ?_
  refine r_iushr 27 hC dJ6_bitCount_0f7a4_27 rfl ?_
  refine r_iadd 28 hC dJ6_bitCount_0f7a4_28 ?_
  refine r_ldcw 29 hC tw_1061 dJ6_bitCount_0f7a4_29 ?_
  refine r_iand 32 hC dJ6_bitCount_0f7a4_32 ?_
  refine r_istore_n 33 [some (.int (((((x0 - ((((x0).toUInt32 >>> ((1 : Int32).toUInt32 &&& Int32.toUInt32 31)).toInt32) &&& 1431655765)) &&& 858993459) + ((((x0 - ((((x0).toUInt32 >>> ((1 : Int32).toUInt32 &&& Int32.toUInt32 31)).toInt32) &&& 1431655765)).toUInt32 >>> ((2 : Int32).toUInt32 &&& Int32.toUInt32 31)).toInt32) &&& 858993459)) + (((((x0 - ((((x0).toUInt32 >>> ((1 : Int32).toUInt32 &&& Int32.toUInt32 31)).toInt32) &&& 1431655765)) &&& 858993459) + ((((x0 - ((((x0).toUInt32 >>> ((1 : Int32).toUInt32 &&& Int32.toUInt32 31)).toInt32) &&& 1431655765)).toUInt32 >>> ((2 : Int32).toUInt32 &&& Int32.toUInt32 31)).toInt32) &&& 858993459)).toUInt32 >>> ((4 : Int32).toUInt32 &&& Int32.toUInt32 31)).toInt32)) &&& 252645135))] hC dJ6_bitCount_0f7a4_33 rfl (by decide) rfl ?_
  refine r_iload_n 34 hC dJ6_bitCount_0f7a4_34 rfl rfl ?_
  refine r_iload_n 35 hC dJ6_bitCount_0f7a4_35 rfl rfl ?_
  refine r_bipush 36 (v := 8) hC dJ6_bitCount_0f7a4_36 (by decide) ?_
  refine r_iushr 38 hC dJ6_bitCount_0f7a4_38 rfl ?_
  refine r_iadd 39 hC dJ6_bitCount_0f7a4_39 ?_
  refine r_istore_n 40 [some (.int ((((((x0 - ((((x0).toUInt32 >>> ((1 : Int32).toUInt32 &&& Int32.toUInt32 31)).toInt32) &&& 1431655765)) &&& 858993459) + ((((x0 - ((((x0).toUInt32 >>> ((1 : Int32).toUInt32 &&& Int32.toUInt32 31)).toInt32) &&& 1431655765)).toUInt32 >>> ((2 : Int32).toUInt32 &&& Int32.toUInt32 31)).toInt32) &&& 858993459)) + (((((x0 - ((((x0).toUInt32 >>> ((1 : Int32).toUInt32 &&& Int32.toUInt32 31)).toInt32) &&& 1431655765)) &&& 858993459) + ((((x0 - ((((x0).toUInt32 >>> ((1 : Int32).toUInt32 &&& Int32.toUInt32 31)).toInt32) &&& 1431655765)).toUInt32 >>> ((2 : Int32).toUInt32 &&& Int32.toUInt32 31)).toInt32) &&& 858993459)).toUInt32 >>> ((4 : Int32).toUInt32 &&& Int32.toUInt32 31)).toInt32)) &&& 252645135) + (((((((x0 - ((((x0).toUInt32 >>> ((1 : Int32).toUInt32 &&& Int32.toUInt32 31)).toInt32) &&& 1431655765)) &&& 858993459) + ((((x0 - ((((x0).toUInt32 >>> ((1 : Int32).toUInt32 &&& Int32.toUInt32 31)).toInt32) &&& 1431655765)).toUInt32 >>> ((2 : Int32).toUInt32 &&& Int32.toUInt32 31)).toInt32) &&& 858993459)) + (((((x0 - ((((x0).toUInt32 >>> ((1 : Int32).toUInt32 &&& Int32.toUInt32 31)).toInt32) &&& 1431655765)) &&& 858993459) + ((((x0 - ((((x0).toUInt32 >>> ((1 : Int32).toUInt32 &&& Int32.toUInt32 31)).toInt32) &&& 1431655765)).toUInt32 >>> ((2 : Int32).toUInt32 &&& Int32.toUInt32 31)).toInt32) &&& 858993459)).toUInt32 >>> ((4 : Int32).toUInt32 &&& Int32.toUInt32 31)).toInt32)) &&& 252645135).toUInt32 >>> ((8 : Int32).toUInt32 &&& Int32.toUInt32 31)).toInt32)))] hC dJ6_bitCount_0f7a4_40 rfl (by decide) rfl ?_
  refine r_iload_n 41 hC dJ6_bitCount_0f7a4_41 rfl rfl ?_
  refine r_iload_n 42 hC dJ6_bitCount_0f7a4_42 rfl rfl ?_
  refine r_bipush 43 (v := 16) hC dJ6_bitCount_0f7a4_43 (by decide) ?_
  refine r_iushr 45 hC dJ6_bitCount_0f7a4_45 rfl ?_
  refine r_iadd 46 hC dJ6_bitCount_0f7a4_46 ?_
  refine r_istore_n 47 [some (.int (((((((x0 - ((((x0).toUInt32 >>> ((1 : Int32).toUInt32 &&& Int32.toUInt32 31)).toInt32) &&& 1431655765)) &&& 858993459) + ((((x0 - ((((x0).toUInt32 >>> ((1 : Int32).toUInt32 &&& Int32.toUInt32 31)).toInt32) &&& 1431655765)).toUInt32 >>> ((2 : Int32).toUInt32 &&& Int32.toUInt32 31)).toInt32) &&& 858993459)) + (((((x0 - ((((x0).toUInt32 >>> ((1 : Int32).toUInt32 &&& Int32.toUInt32 31)).toInt32) &&& 1431655765)) &&& 858993459) + ((((x0 - ((((x0).toUInt32 >>> ((1 : Int32).toUInt32 &&& Int32.toUInt32 31)).toInt32) &&& 1431655765)).toUInt32 >>> ((2 : Int32).toUInt32 &&& Int32.toUInt32 31)).toInt32) &&& 858993459)).toUInt32 >>> ((4 : Int32).toUInt32 &&& Int32.toUInt32 31)).toInt32)) &&& 252645135) + (((((((x0 - ((((x0).toUInt32 >>> ((1 : Int32).toUInt32 &&& Int32.toUInt32 31)).toInt32) &&& 1431655765)) &&& 858993459) + ((((x0 - ((((x0).toUInt32 >>> ((1 : Int32).toUInt32 &&& Int32.toUInt32 31)).toInt32) &&& 1431655765)).toUInt32 >>> ((2 : Int32).toUInt32 &&& Int32.toUInt32 31)).toInt32) &&& 858993459)) + (((((x0 - ((((x0).toUInt32 >>> ((1 : Int32).toUInt32 &&& Int32.toUInt32 31)).toInt32) &&& 1431655765)) &&& 858993459) + ((((x0 - ((((x0).toUInt32 >>> ((1 : Int32).toUInt32 &&& Int32.toUInt32 31)).toInt32) &&& 1431655765)).toUInt32 >>> ((2 : Int32).toUInt32 &&& Int32.toUInt32 31)).toInt32) &&& 858993459)).toUInt32 >>> ((4 : Int32).toUInt32 &&& Int32.toUInt32 31)).toInt32)) &&& 252645135).toUInt32 >>> ((8 : Int32).toUInt32 &&& Int32.toUInt32 31)).toInt32)) + ((((((((x0 - ((((x0).toUInt32 >>> ((1 : Int32).toUInt32 &&& Int32.toUInt32 31)).toInt32) &&& 1431655765)) &&& 858993459) + ((((x0 - ((((x0).toUInt32 >>> ((1 : Int32).toUInt32 &&& Int32.toUInt32 31)).toInt32) &&& 1431655765)).toUInt32 >>> ((2 : Int32).toUInt32 &&& Int32.toUInt32 31)).toInt32) &&& 858993459)) + (((((x0 - ((((x0).toUInt32 >>> ((1 : Int32).toUInt32 &&& Int32.toUInt32 31)).toInt32) &&& 1431655765)) &&& 858993459) + ((((x0 - ((((x0).toUInt32 >>> ((1 : Int32).toUInt32 &&& Int32.toUInt32 31)).toInt32) &&& 1431655765)).toUInt32 >>> ((2 : Int32).toUInt32 &&& Int32.toUInt32 31)).toInt32) &&& 858993459)).toUInt32 >>> ((4 : Int32).toUInt32 &&& Int32.toUInt32 31)).toInt32)) &&& 252645135) + (((((((x0 - ((((x0).toUInt32 >>> ((1 : Int32).toUInt32 &&& Int32.toUInt32 31)).toInt32) &&& 1431655765)) &&& 858993459) + ((((x0 - ((((x0).toUInt32 >>> ((1 : Int32).toUInt32 &&& Int32.toUInt32 31)).toInt32) &&& 1431655765)).toUInt32 >>> ((2 : Int32).toUInt32 &&& Int32.toUInt32 31)).toInt32) &&& 858993459)) + (((((x0 - ((((x0).toUInt32 >>> ((1 : Int32).toUInt32 &&& Int32.toUInt32 31)).toInt32) &&& 1431655765)) &&& 858993459) + ((((x0 - ((((x0).toUInt32 >>> ((1 : Int32).toUInt32 &&& Int32.toUInt32 31)).toInt32) &&& 1431655765)).toUInt32 >>> ((2 : Int32).toUInt32 &&& Int32.toUInt32 31)).toInt32) &&& 858993459)).toUInt32 >>> ((4 : Int32).toUInt32 &&& Int32.toUInt32 31)).toInt32)) &&& 252645135).toUInt32 >>> ((8 : Int32).toUInt32 &&& Int32.toUInt32 31)).toInt32)).toUInt32 >>> ((16 : Int32).toUInt32 &&& Int32.toUInt32 31)).toInt32)))] hC dJ6_bitCount_0f7a4_47 rfl (by decide) rfl ?_
  refine r_iload_n 48 hC dJ6_bitCount_0f7a4_48 rfl rfl ?_
  refine r_bipush 49 (v := 63) hC dJ6_bitCount_0f7a4_49 (by decide) ?_
  refine r_iand 51 hC dJ6_bitCount_0f7a4_51 ?_
  exact r_iret 52 hC hE rfl dJ6_bitCount_0f7a4_52 ⟨_, rfl, h⟩

def wX4_copyFrom (G : pm_G) (q0 : Nat) (q1 : Nat) (I : pm_I) (K : pm_I → Prop) : Prop :=
  ((I (q1) 0) = 0 ∨ (I (q1) 0) = 1) ∧ ∀ I10 : pm_I, I10 = pm_up I (q0) 0 (I (q1) 0) → (∀ I11 : pm_I, I11 = pm_up I10 (q0) 1 (I10 (q1) 1) → (∀ I12 : pm_I, I12 = pm_up I11 (q0) 2 (I11 (q1) 2) → (∀ I13 : pm_I, I13 = pm_up I12 (q0) 3 (I12 (q1) 3) → (∀ I14 : pm_I, I14 = pm_up I13 (q0) 4 (I13 (q1) 4) → (∀ I15 : pm_I, I15 = pm_up I14 (q0) 5 (I14 (q1) 5) → (∀ I16 : pm_I, I16 = pm_up I15 (q0) 6 (I15 (q1) 6) → (∀ I17 : pm_I, I17 = pm_up I16 (q0) 7 (I16 (q1) 7) → (∀ I18 : pm_I, I18 = pm_up I17 (q0) 8 (I17 (q1) 8) → (∀ I19 : pm_I, I19 = pm_up I18 (q0) 9 (I18 (q1) 9) → (∀ I20 : pm_I, I20 = pm_up I19 (q0) 10 (I19 (q1) 10) → (∀ I21 : pm_I, I21 = pm_up I20 (q0) 11 (I20 (q1) 11) → (∀ I22 : pm_I, I22 = pm_up I21 (q0) 12 (I21 (q1) 12) → (∀ I23 : pm_I, I23 = pm_cp I22 (q1 + 1) (q0 + 1) 0 0 24 → (∀ I24 : pm_I, I24 = pm_cp I23 (q1 + 2) (q0 + 2) 0 0 24 → (∀ I25 : pm_I, I25 = pm_cp I24 (q1 + 3) (q0 + 3) 0 0 24 → (∀ I26 : pm_I, I26 = pm_cp I25 (q1 + 4) (q0 + 4) 0 0 24 → K I26))))))))))))))))

set_option maxRecDepth 20000 in
theorem sX4_copyFrom {G : pm_G} {l : Launch} (hG : pm_ok G) (q0 : Nat) (q1 : Nat) (I : pm_I) (K : pm_I → Prop) (hk0 : pm_k G q0 (.inl 4)) (hk1 : pm_k G q1 (.inl 4)) (h : wX4_copyFrom G q0 q1 I K) : pm_Ct G l yX4_copyFrom cX4_copyFrom 2 none { frames := 1, cells := 0, slots := 0, locals := 64 } [.ref (q0), .ref (q1)] I (pm_Kv K) := by
  unfold wX4_copyFrom at h
  refine pm_enter (by decide +kernel) hG rfl (Nat.le_of_ble_eq_true rfl) rfl (fun X hl hC hE => ?_)
  subst hl
  have hab : 0 ≤ 0 ∧ 0 ≤ 0 := ⟨Nat.le_refl 0, Nat.le_refl 0⟩
  have hC : pm_C G X cX4_copyFrom 2 RX4 none { frames := 1, cells := 0, slots := 0, locals := 64 } := hC
  refine r_aload_n 0 hC dX4_copyFrom_0 rfl rfl ?_
  refine r_aload_n 1 hC dX4_copyFrom_1 rfl rfl ?_
  refine r_getI4 2 (x := I (q1) 0) hC hk1 0 (by decide) tw_255 rfl rfl dX4_copyFrom_2 ?_
  refine r_putZ4 5 hC hk0 tw_255 h.1 dX4_copyFrom_5 (fun I10 hI => ?_)
  replace h := h.2
  replace h := h I10 hI; clear hI
  refine r_aload_n 8 hC dX4_copyFrom_8 rfl rfl ?_
  refine r_aload_n 9 hC dX4_copyFrom_9 rfl rfl ?_
  refine r_getI4 10 (x := I10 (q1) 1) hC hk1 1 (by decide) tw_258 rfl rfl dX4_copyFrom_10 ?_
  refine r_putI4 13 hC hk0 1 (by decide) tw_258 rfl rfl (by decide +kernel) ps_4_1 dX4_copyFrom_13 (fun I11 hI => ?_)
  replace h := h I11 hI; clear hI
  refine r_aload_n 16 hC dX4_copyFrom_16 rfl rfl ?_
  refine r_aload_n 17 hC dX4_copyFrom_17 rfl rfl ?_
  refine r_getI4 18 (x := I11 (q1) 2) hC hk1 2 (by decide) tw_261 rfl rfl dX4_copyFrom_18 ?_
  refine r_putI4 21 hC hk0 2 (by decide) tw_261 rfl rfl (by decide +kernel) ps_4_2 dX4_copyFrom_21 (fun I12 hI => ?_)
  replace h := h I12 hI; clear hI
  refine r_aload_n 24 hC dX4_copyFrom_24 rfl rfl ?_
  refine r_aload_n 25 hC dX4_copyFrom_25 rfl rfl ?_
  refine r_getI4 26 (x := I12 (q1) 3) hC hk1 3 (by decide) tw_264 rfl rfl dX4_copyFrom_26 ?_
  refine r_putI4 29 hC hk0 3 (by decide) tw_264 rfl rfl (by decide +kernel) ps_4_3 dX4_copyFrom_29 (fun I13 hI => ?_)
  replace h := h I13 hI; clear hI
  refine r_aload_n 32 hC dX4_copyFrom_32 rfl rfl ?_
  refine r_aload_n 33 hC dX4_copyFrom_33 rfl rfl ?_
  refine r_getI4 34 (x := I13 (q1) 4) hC hk1 4 (by decide) tw_266 rfl rfl dX4_copyFrom_34 ?_
  refine r_putI4 37 hC hk0 4 (by decide) tw_266 rfl rfl (by decide +kernel) ps_4_4 dX4_copyFrom_37 (fun I14 hI => ?_)
  replace h := h I14 hI; clear hI
  refine r_aload_n 40 hC dX4_copyFrom_40 rfl rfl ?_
  refine r_aload_n 41 hC dX4_copyFrom_41 rfl rfl ?_
  refine r_getI4 42 (x := I14 (q1) 5) hC hk1 5 (by decide) tw_270 rfl rfl dX4_copyFrom_42 ?_
  refine r_putI4 45 hC hk0 5 (by decide) tw_270 rfl rfl (by decide +kernel) ps_4_5 dX4_copyFrom_45 (fun I15 hI => ?_)
  replace h := h I15 hI; clear hI
  refine r_aload_n 48 hC dX4_copyFrom_48 rfl rfl ?_
  refine r_aload_n 49 hC dX4_copyFrom_49 rfl rfl ?_
  refine r_getI4 50 (x := I15 (q1) 6) hC hk1 6 (by decide) tw_273 rfl rfl dX4_copyFrom_50 ?_
  refine r_putI4 53 hC hk0 6 (by decide) tw_273 rfl rfl (by decide +kernel) ps_4_6 dX4_copyFrom_53 (fun I16 hI => ?_)
  replace h := h I16 hI; clear hI
  refine r_aload_n 56 hC dX4_copyFrom_56 rfl rfl ?_
  refine r_aload_n 57 hC dX4_copyFrom_57 rfl rfl ?_
  refine r_getI4 58 (x := I16 (q1) 7) hC hk1 7 (by decide) tw_276 rfl rfl dX4_copyFrom_58 ?_
  refine r_putI4 61 hC hk0 7 (by decide) tw_276 rfl rfl (by decide +kernel) ps_4_7 dX4_copyFrom_61 (fun I17 hI => ?_)
  replace h := h I17 hI; clear hI
  refine r_aload_n 64 hC dX4_copyFrom_64 rfl rfl ?_
  refine r_aload_n 65 hC dX4_copyFrom_65 rfl rfl ?_
  refine r_getI4 66 (x := I17 (q1) 8) hC hk1 8 (by decide) tw_278 rfl rfl dX4_copyFrom_66 ?_
  refine r_putI4 69 hC hk0 8 (by decide) tw_278 rfl rfl (by decide +kernel) ps_4_8 dX4_copyFrom_69 (fun I18 hI => ?_)
  replace h := h I18 hI; clear hI
  refine r_aload_n 72 hC dX4_copyFrom_72 rfl rfl ?_
  refine r_aload_n 73 hC dX4_copyFrom_73 rfl rfl ?_
  refine r_getI4 74 (x := I18 (q1) 9) hC hk1 9 (by decide) tw_280 rfl rfl dX4_copyFrom_74 ?_
  refine r_putI4 77 hC hk0 9 (by decide) tw_280 rfl rfl (by decide +kernel) ps_4_9 dX4_copyFrom_77 (fun I19 hI => ?_)
  replace h := h I19 hI; clear hI
  refine r_aload_n 80 hC dX4_copyFrom_80 rfl rfl ?_
  refine r_aload_n 81 hC dX4_copyFrom_81 rfl rfl ?_
  refine r_getI4 82 (x := I19 (q1) 10) hC hk1 10 (by decide) tw_282 rfl rfl dX4_copyFrom_82 ?_
  refine r_putI4 85 hC hk0 10 (by decide) tw_282 rfl rfl (by decide +kernel) ps_4_10 dX4_copyFrom_85 (fun I20 hI => ?_)
  replace h := h I20 hI; clear hI
  refine r_aload_n 88 hC dX4_copyFrom_88 rfl rfl ?_
  refine r_aload_n 89 hC dX4_copyFrom_89 rfl rfl ?_
  refine r_getI4 90 (x := I20 (q1) 11) hC hk1 11 (by decide) tw_284 rfl rfl dX4_copyFrom_90 ?_
  refine r_putI4 93 hC hk0 11 (by decide) tw_284 rfl rfl (by decide +kernel) ps_4_11 dX4_copyFrom_93 (fun I21 hI => ?_)
  replace h := h I21 hI; clear hI
  refine r_aload_n 96 hC dX4_copyFrom_96 rfl rfl ?_
  refine r_aload_n 97 hC dX4_copyFrom_97 rfl rfl ?_
  refine r_getI4 98 (x := I21 (q1) 12) hC hk1 12 (by decide) tw_286 rfl rfl dX4_copyFrom_98 ?_
  refine r_putI4 101 hC hk0 12 (by decide) tw_286 rfl rfl (by decide +kernel) ps_4_12 dX4_copyFrom_101 (fun I22 hI => ?_)
  replace h := h I22 hI; clear hI
  refine r_aload_n 104 hC dX4_copyFrom_104 rfl rfl ?_
  refine r_getR4 105 (r1 := q1 + 1) hC hk1 13 (by decide) tw_288 rfl rfl dX4_copyFrom_105 ?_
  refine r_iconst 108 (v := 0) hC dX4_copyFrom_108 (by decide) ?_
  refine r_aload_n 109 hC dX4_copyFrom_109 rfl rfl ?_
  refine r_getR4 110 (r1 := q0 + 1) hC hk0 13 (by decide) tw_288 rfl rfl dX4_copyFrom_110 ?_
  refine r_iconst 113 (v := 0) hC dX4_copyFrom_113 (by decide) ?_
  refine r_bipush 114 (v := 24) hC dX4_copyFrom_114 (by decide) ?_
  refine r_copy 116 hC ((pm_s4 hG hk1).1) ((pm_s4 hG hk0).1) tw_437 tw_432 tw_431 tw_148 (by decide) (by decide) (by decide) (by decide) (by decide) (by decide) (by decide) dX4_copyFrom_116 (Nat.le_of_ble_eq_true rfl) (fun I23 hI => ?_)
  replace h := h I23 hI; clear hI
  refine r_aload_n 119 hC dX4_copyFrom_119 rfl rfl ?_
  refine r_getR4 120 (r1 := q1 + 2) hC hk1 14 (by decide) tw_289 rfl rfl dX4_copyFrom_120 ?_
  refine r_iconst 123 (v := 0) hC dX4_copyFrom_123 (by decide) ?_
  refine r_aload_n 124 hC dX4_copyFrom_124 rfl rfl ?_
  refine r_getR4 125 (r1 := q0 + 2) hC hk0 14 (by decide) tw_289 rfl rfl dX4_copyFrom_125 ?_
  refine r_iconst 128 (v := 0) hC dX4_copyFrom_128 (by decide) ?_
  refine r_bipush 129 (v := 24) hC dX4_copyFrom_129 (by decide) ?_
  refine r_copy 131 hC ((pm_s4 hG hk1).2.1) ((pm_s4 hG hk0).2.1) tw_437 tw_432 tw_431 tw_148 (by decide) (by decide) (by decide) (by decide) (by decide) (by decide) (by decide) dX4_copyFrom_131 (Nat.le_of_ble_eq_true rfl) (fun I24 hI => ?_)
  replace h := h I24 hI; clear hI
  refine r_aload_n 134 hC dX4_copyFrom_134 rfl rfl ?_
  refine r_getR4 135 (r1 := q1 + 3) hC hk1 15 (by decide) tw_290 rfl rfl dX4_copyFrom_135 ?_
  refine r_iconst 138 (v := 0) hC dX4_copyFrom_138 (by decide) ?_
  refine r_aload_n 139 hC dX4_copyFrom_139 rfl rfl ?_
  refine r_getR4 140 (r1 := q0 + 3) hC hk0 15 (by decide) tw_290 rfl rfl dX4_copyFrom_140 ?_
  refine r_iconst 143 (v := 0) hC dX4_copyFrom_143 (by decide) ?_
  refine r_bipush 144 (v := 24) hC dX4_copyFrom_144 (by decide) ?_
  refine r_copy 146 hC ((pm_s4 hG hk1).2.2.1) ((pm_s4 hG hk0).2.2.1) tw_437 tw_432 tw_431 tw_148 (by decide) (by decide) (by decide) (by decide) (by decide) (by decide) (by decide) dX4_copyFrom_146 (Nat.le_of_ble_eq_true rfl) (fun I25 hI => ?_)
  replace h := h I25 hI; clear hI
  refine r_aload_n 149 hC dX4_copyFrom_149 rfl rfl ?_
  refine r_getR4 150 (r1 := q1 + 4) hC hk1 16 (by decide) tw_291 rfl rfl dX4_copyFrom_150 ?_
  refine r_iconst 153 (v := 0) hC dX4_copyFrom_153 (by decide) ?_
  refine r_aload_n 154 hC dX4_copyFrom_154 rfl rfl ?_
  refine r_getR4 155 (r1 := q0 + 4) hC hk0 16 (by decide) tw_291 rfl rfl dX4_copyFrom_155 ?_
  refine r_iconst 158 (v := 0) hC dX4_copyFrom_158 (by decide) ?_
  refine r_bipush 159 (v := 24) hC dX4_copyFrom_159 (by decide) ?_
  refine r_copy 161 hC ((pm_s4 hG hk1).2.2.2) ((pm_s4 hG hk0).2.2.2) tw_437 tw_432 tw_431 tw_148 (by decide) (by decide) (by decide) (by decide) (by decide) (by decide) (by decide) dX4_copyFrom_161 (Nat.le_of_ble_eq_true rfl) (fun I26 hI => ?_)
  replace h := h I26 hI; clear hI
  exact r_vret 164 hC hE dX4_copyFrom_164 ⟨rfl, h⟩

def wX5_copyFrom (G : pm_G) (q0 : Nat) (q1 : Nat) (I : pm_I) (K : pm_I → Prop) : Prop :=
  ∀ I10 : pm_I, I10 = pm_up I (q0) 0 (I (q1) 0) → (∀ I11 : pm_I, I11 = pm_cp I10 (q1 + 1) (q0 + 1) 0 0 8 → (∀ I12 : pm_I, I12 = pm_cp I11 (q1 + 2) (q0 + 2) 0 0 8 → (pm_lp2 (fun (P13 : Int32 → pm_I → Prop) (x15 : Int32) (I14 : pm_I) => (6 ≤ x15 → K I14) ∧ (¬ 6 ≤ x15 → (vp_in (x15) 6 ∧ (vp_in (x15) 6 ∧ (wX4_copyFrom G (q0 + 3 + 1 + 5 * (x15).toNatClampNeg) (q1 + 3 + 1 + 5 * (x15).toNatClampNeg) I14 (fun I18 => P13 (x15 + 1) I18)))))) (0) I12)))

set_option maxRecDepth 20000 in
theorem sX5_copyFrom {G : pm_G} {l : Launch} (hG : pm_ok G) (q0 : Nat) (q1 : Nat) (I : pm_I) (K : pm_I → Prop) (hk0 : pm_k G q0 (.inl 5)) (hk1 : pm_k G q1 (.inl 5)) (h : wX5_copyFrom G q0 q1 I K) : pm_Ct G l yX5_copyFrom cX5_copyFrom 3 none { frames := 2, cells := 0, slots := 0, locals := 149 } [.ref (q0), .ref (q1)] I (pm_Kv K) := by
  unfold wX5_copyFrom at h
  refine pm_enter (by decide +kernel) hG rfl (Nat.le_of_ble_eq_true rfl) rfl (fun X hl hC hE => ?_)
  subst hl
  have hab : 0 ≤ 0 ∧ 0 ≤ 0 := ⟨Nat.le_refl 0, Nat.le_refl 0⟩
  have hC : pm_C G X cX5_copyFrom 3 RX5 none { frames := 2, cells := 0, slots := 0, locals := 149 } := hC
  refine r_aload_n 0 hC dX5_copyFrom_0 rfl rfl ?_
  refine r_aload_n 1 hC dX5_copyFrom_1 rfl rfl ?_
  refine r_getI5 2 (x := I (q1) 0) hC hk1 0 (by decide) tw_327 rfl rfl dX5_copyFrom_2 ?_
  refine r_putI5 5 hC hk0 0 (by decide) tw_327 rfl rfl (by decide +kernel) ps_5_0 dX5_copyFrom_5 (fun I10 hI => ?_)
  replace h := h I10 hI; clear hI
  refine r_aload_n 8 hC dX5_copyFrom_8 rfl rfl ?_
  refine r_getR5 9 (r1 := q1 + 1) hC hk1 1 (by decide) tw_329 rfl rfl dX5_copyFrom_9 ?_
  refine r_iconst 12 (v := 0) hC dX5_copyFrom_12 (by decide) ?_
  refine r_aload_n 13 hC dX5_copyFrom_13 rfl rfl ?_
  refine r_getR5 14 (r1 := q0 + 1) hC hk0 1 (by decide) tw_329 rfl rfl dX5_copyFrom_14 ?_
  refine r_iconst 17 (v := 0) hC dX5_copyFrom_17 (by decide) ?_
  refine r_bipush 18 (v := 8) hC dX5_copyFrom_18 (by decide) ?_
  refine r_copy 20 hC ((pm_s5 hG hk1).1) ((pm_s5 hG hk0).1) tw_430 tw_432 tw_431 tw_148 (by decide) (by decide) (by decide) (by decide) (by decide) (by decide) (by decide) dX5_copyFrom_20 (Nat.le_of_ble_eq_true rfl) (fun I11 hI => ?_)
  replace h := h I11 hI; clear hI
  refine r_aload_n 23 hC dX5_copyFrom_23 rfl rfl ?_
  refine r_getR5 24 (r1 := q1 + 2) hC hk1 2 (by decide) tw_330 rfl rfl dX5_copyFrom_24 ?_
  refine r_iconst 27 (v := 0) hC dX5_copyFrom_27 (by decide) ?_
  refine r_aload_n 28 hC dX5_copyFrom_28 rfl rfl ?_
  refine r_getR5 29 (r1 := q0 + 2) hC hk0 2 (by decide) tw_330 rfl rfl dX5_copyFrom_29 ?_
  refine r_iconst 32 (v := 0) hC dX5_copyFrom_32 (by decide) ?_
  refine r_bipush 33 (v := 8) hC dX5_copyFrom_33 (by decide) ?_
  refine r_copy 35 hC ((pm_s5 hG hk1).2.1) ((pm_s5 hG hk0).2.1) tw_430 tw_432 tw_431 tw_148 (by decide) (by decide) (by decide) (by decide) (by decide) (by decide) (by decide) dX5_copyFrom_35 (Nat.le_of_ble_eq_true rfl) (fun I12 hI => ?_)
  replace h := h I12 hI; clear hI
  refine r_iconst 38 (v := 0) hC dX5_copyFrom_38 (by decide) ?_
  refine r_istore_n 39 [some (.ref (q0)), some (.ref (q1)), some (.int (0))] hC dX5_copyFrom_39 rfl (by decide) rfl ?_
  refine h (fun x15 I14 => pm_R G X 3 0 0 40 [some (.ref (q0)), some (.ref (q1)), some (.int (x15))] [] I14) ?_
  clear h; intro x15 I14 h
  refine r_iload_n 40 hC dX5_copyFrom_40 rfl rfl ?_
  refine r_bipush 41 (v := 6) hC dX5_copyFrom_41 (by decide) ?_
  refine r_icmp_ge 43 67 hC dX5_copyFrom_43 (by decide) (fun hc => ?_) (fun hc => ?_)
  · replace h := h.1 hc
    exact r_vret 67 hC hE dX5_copyFrom_67 ⟨rfl, h⟩
  · replace h := h.2 hc
    refine r_aload_n 46 hC dX5_copyFrom_46 rfl rfl ?_
    refine r_getR5 47 (r1 := q0 + 3) hC hk0 3 (by decide) tw_332 rfl rfl dX5_copyFrom_47 ?_
    refine r_iload_n 50 hC dX5_copyFrom_50 rfl rfl ?_
    have hg16 := h.1; replace h := h.2
    refine r_aald4 51 hC ((pm_s5 hG hk0).2.2) hg16 dX5_copyFrom_51 ?_
    refine r_aload_n 52 hC dX5_copyFrom_52 rfl rfl ?_
    refine r_getR5 53 (r1 := q1 + 3) hC hk1 3 (by decide) tw_332 rfl rfl dX5_copyFrom_53 ?_
    refine r_iload_n 56 hC dX5_copyFrom_56 rfl rfl ?_
    have hg17 := h.1; replace h := h.2
    refine r_aald4 57 hC ((pm_s5 hG hk1).2.2) hg17 dX5_copyFrom_57 ?_
    refine r_callVN_v 58 (n := 1) [.ref (q1 + 3 + 1 + 5 * (x15).toNatClampNeg)] [] hC (pm_sa4 hG ((pm_s5 hG hk0).2.2) hg16) rfl dX5_copyFrom_58 (by decide) (by decide) tw_436 tw_133 ⟨by decide, by decide, by decide +kernel⟩ tw_433 tw_435 tw_7 rfl rfl (sX4_copyFrom (l := pm_l X) hG (q0 + 3 + 1 + 5 * (x15).toNatClampNeg) (q1 + 3 + 1 + 5 * (x15).toNatClampNeg) _ _ (pm_sa4 hG ((pm_s5 hG hk0).2.2) hg16) (pm_sa4 hG ((pm_s5 hG hk1).2.2) hg17) h) hab (Nat.le_of_ble_eq_true rfl) ?_
    clear h; intro I18 h
    refine r_iinc 61 (v := x15 + 1) [some (.ref (q0)), some (.ref (q1)), some (.int (x15 + 1))] hC dX5_copyFrom_61 rfl (by rfl) (by decide) rfl ?_
    refine r_goto 64 40 hC dX5_copyFrom_64 (by decide) ?_
    exact h

def wX0_keep (G : pm_G) (q0 : Nat) (q1 : Nat) (I : pm_I) (K : pm_I → Prop) : Prop :=
  vp_in (I (q0) 1) 10 ∧ (wX5_copyFrom G (q0 + 1 + 1 + 34 * (I (q0) 1).toNatClampNeg) (q1) I (fun I11 => (10 ≤ ((I11 q0 1) + 1) → (∀ I12 : pm_I, I12 = pm_up I11 (q0) 1 (0) → (wJ9_min_7cf53 G ((I12 q0 2) + 1) (10) I12 (fun r14 I13 => ∀ I15 : pm_I, I15 = pm_up I13 (q0) 2 (r14) → K I15)))) ∧ (¬ 10 ≤ ((I11 q0 1) + 1) → (∀ I16 : pm_I, I16 = pm_up I11 (q0) 1 ((I11 q0 1) + 1) → (wJ9_min_7cf53 G ((I16 q0 2) + 1) (10) I16 (fun r18 I17 => ∀ I19 : pm_I, I19 = pm_up I17 (q0) 2 (r18) → K I19))))))

set_option maxRecDepth 20000 in
theorem sX0_keep {G : pm_G} {l : Launch} (hG : pm_ok G) (q0 : Nat) (q1 : Nat) (I : pm_I) (K : pm_I → Prop) (hk0 : pm_k G q0 (.inl 0)) (hk1 : pm_k G q1 (.inl 5)) (h : wX0_keep G q0 q1 I K) : pm_Ct G l yX0_keep cX0_keep 2 none { frames := 3, cells := 0, slots := 0, locals := 235 } [.ref (q0), .ref (q1)] I (pm_Kv K) := by
  unfold wX0_keep at h
  refine pm_enter (by decide +kernel) hG rfl (Nat.le_of_ble_eq_true rfl) rfl (fun X hl hC hE => ?_)
  subst hl
  have hab : 0 ≤ 0 ∧ 0 ≤ 0 := ⟨Nat.le_refl 0, Nat.le_refl 0⟩
  have hC : pm_C G X cX0_keep 2 RX0 none { frames := 3, cells := 0, slots := 0, locals := 235 } := hC
  refine r_aload_n 0 hC dX0_keep_0 rfl rfl ?_
  refine r_getR0 1 (r1 := q0 + 1) hC hk0 0 (by decide) tw_352 rfl rfl dX0_keep_1 ?_
  refine r_aload_n 4 hC dX0_keep_4 rfl rfl ?_
  refine r_getI0 5 (x := I (q0) 1) hC hk0 1 (by decide) tw_353 rfl rfl dX0_keep_5 ?_
  have hg10 := h.1; replace h := h.2
  refine r_aald5 8 hC ((pm_s0 hG hk0)) hg10 dX0_keep_8 ?_
  refine r_aload_n 9 hC dX0_keep_9 rfl rfl ?_
  refine r_callVN_v 10 (n := 1) [.ref (q1)] [] hC (pm_sa5 hG ((pm_s0 hG hk0)) hg10) rfl dX0_keep_10 (by decide) (by decide) tw_429 tw_132 ⟨by decide, by decide, by decide +kernel⟩ tw_426 tw_428 tw_6 rfl rfl (sX5_copyFrom (l := pm_l X) hG (q0 + 1 + 1 + 34 * (I (q0) 1).toNatClampNeg) (q1) _ _ (pm_sa5 hG ((pm_s0 hG hk0)) hg10) hk1 h) hab (Nat.le_of_ble_eq_true rfl) ?_
  clear h; intro I11 h
  refine r_aload_n 13 hC dX0_keep_13 rfl rfl ?_
  refine r_aload_n 14 hC dX0_keep_14 rfl rfl ?_
  refine r_getI0 15 (x := I11 (q0) 1) hC hk0 1 (by decide) tw_353 rfl rfl dX0_keep_15 ?_
  refine r_iconst 18 (v := 1) hC dX0_keep_18 (by decide) ?_
  refine r_iadd 19 hC dX0_keep_19 ?_
  refine r_bipush 20 (v := 10) hC dX0_keep_20 (by decide) ?_
  refine r_icmp_ge 22 34 hC dX0_keep_22 (by decide) (fun hc => ?_) (fun hc => ?_)
  · replace h := h.1 hc
    refine r_iconst 34 (v := 0) hC dX0_keep_34 (by decide) ?_
    refine r_putI0 35 hC hk0 1 (by decide) tw_353 rfl rfl (by decide +kernel) ps_0_1 dX0_keep_35 (fun I12 hI => ?_)
    replace h := h I12 hI; clear hI
    refine r_aload_n 38 hC dX0_keep_38 rfl rfl ?_
    refine r_aload_n 39 hC dX0_keep_39 rfl rfl ?_
    refine r_getI0 40 (x := I12 (q0) 2) hC hk0 2 (by decide) tw_354 rfl rfl dX0_keep_40 ?_
    refine r_iconst 43 (v := 1) hC dX0_keep_43 (by decide) ?_
    refine r_iadd 44 hC dX0_keep_44 ?_
    refine r_bipush 45 (v := 10) hC dX0_keep_45 (by decide) ?_
    refine r_callS_i 47 (n := 2) [.int ((I12 q0 2) + 1), .int (10)] [.ref (q0)] hC dX0_keep_47 (by decide) (by decide) tw_1042 tw_147 ⟨by decide, by decide, by decide +kernel⟩ tw_1040 tw_1041 rfl rfl (sJ9_min_7cf53 (l := pm_l X) hG ((I12 q0 2) + 1) (10) _ _ h) hab (Nat.le_of_ble_eq_true rfl) ?_
    clear h; intro r14 I13 h
    refine r_putI0 50 hC hk0 2 (by decide) tw_354 rfl rfl (by decide +kernel) ps_0_2 dX0_keep_50 (fun I15 hI => ?_)
    replace h := h I15 hI; clear hI
    exact r_vret 53 hC hE dX0_keep_53 ⟨rfl, h⟩
  · replace h := h.2 hc
    refine r_aload_n 25 hC dX0_keep_25 rfl rfl ?_
    refine r_getI0 26 (x := I11 (q0) 1) hC hk0 1 (by decide) tw_353 rfl rfl dX0_keep_26 ?_
    refine r_iconst 29 (v := 1) hC dX0_keep_29 (by decide) ?_
    refine r_iadd 30 hC dX0_keep_30 ?_
    refine r_goto 31 35 hC dX0_keep_31 (by decide) ?_
    refine r_putI0 35 hC hk0 1 (by decide) tw_353 rfl rfl (by decide +kernel) ps_0_1 dX0_keep_35 (fun I16 hI => ?_)
    replace h := h I16 hI; clear hI
    refine r_aload_n 38 hC dX0_keep_38 rfl rfl ?_
    refine r_aload_n 39 hC dX0_keep_39 rfl rfl ?_
    refine r_getI0 40 (x := I16 (q0) 2) hC hk0 2 (by decide) tw_354 rfl rfl dX0_keep_40 ?_
    refine r_iconst 43 (v := 1) hC dX0_keep_43 (by decide) ?_
    refine r_iadd 44 hC dX0_keep_44 ?_
    refine r_bipush 45 (v := 10) hC dX0_keep_45 (by decide) ?_
    refine r_callS_i 47 (n := 2) [.int ((I16 q0 2) + 1), .int (10)] [.ref (q0)] hC dX0_keep_47 (by decide) (by decide) tw_1042 tw_147 ⟨by decide, by decide, by decide +kernel⟩ tw_1040 tw_1041 rfl rfl (sJ9_min_7cf53 (l := pm_l X) hG ((I16 q0 2) + 1) (10) _ _ h) hab (Nat.le_of_ble_eq_true rfl) ?_
    clear h; intro r18 I17 h
    refine r_putI0 50 hC hk0 2 (by decide) tw_354 rfl rfl (by decide +kernel) ps_0_2 dX0_keep_50 (fun I19 hI => ?_)
    replace h := h I19 hI; clear hI
    exact r_vret 53 hC hE dX0_keep_53 ⟨rfl, h⟩

def wX0_takeBack (G : pm_G) (q0 : Nat) (q1 : Nat) (I : pm_I) (K : Int32 → pm_I → Prop) : Prop :=
  (¬ (I q0 2) = 0 → (((I q0 1) ≤ 0 → (∀ I10 : pm_I, I10 = pm_up I (q0) 1 (9) → (∀ I11 : pm_I, I11 = pm_up I10 (q0) 2 ((I10 q0 2) - 1) → (vp_in (I11 (q0) 1) 10 ∧ (wX5_copyFrom G (q1) (q0 + 1 + 1 + 34 * (I11 (q0) 1).toNatClampNeg) I11 (fun I13 => K (I13 (q0) 2) I13)))))) ∧ (¬ (I q0 1) ≤ 0 → (∀ I14 : pm_I, I14 = pm_up I (q0) 1 ((I q0 1) - 1) → (∀ I15 : pm_I, I15 = pm_up I14 (q0) 2 ((I14 q0 2) - 1) → (vp_in (I15 (q0) 1) 10 ∧ (wX5_copyFrom G (q1) (q0 + 1 + 1 + 34 * (I15 (q0) 1).toNatClampNeg) I15 (fun I17 => K (I17 (q0) 2) I17)))))))) ∧ ((I q0 2) = 0 → (K (-1) I))

set_option maxRecDepth 20000 in
theorem sX0_takeBack {G : pm_G} {l : Launch} (hG : pm_ok G) (q0 : Nat) (q1 : Nat) (I : pm_I) (K : Int32 → pm_I → Prop) (hk0 : pm_k G q0 (.inl 0)) (hk1 : pm_k G q1 (.inl 5)) (h : wX0_takeBack G q0 q1 I K) : pm_Ct G l yX0_takeBack cX0_takeBack 2 (some .int) { frames := 3, cells := 0, slots := 0, locals := 235 } [.ref (q0), .ref (q1)] I (pm_Ki K) := by
  unfold wX0_takeBack at h
  refine pm_enter (by decide +kernel) hG rfl (Nat.le_of_ble_eq_true rfl) rfl (fun X hl hC hE => ?_)
  subst hl
  have hab : 0 ≤ 0 ∧ 0 ≤ 0 := ⟨Nat.le_refl 0, Nat.le_refl 0⟩
  have hC : pm_C G X cX0_takeBack 2 RX0 (some .int) { frames := 3, cells := 0, slots := 0, locals := 235 } := hC
  refine r_aload_n 0 hC dX0_takeBack_0 rfl rfl ?_
  refine r_getI0 1 (x := I (q0) 2) hC hk0 2 (by decide) tw_354 rfl rfl dX0_takeBack_1 ?_
  refine r_if_ne 4 9 hC dX0_takeBack_4 (by decide) (fun hc => ?_) (fun hc => ?_)
  · replace h := h.1 hc
    refine r_aload_n 9 hC dX0_takeBack_9 rfl rfl ?_
    refine r_aload_n 10 hC dX0_takeBack_10 rfl rfl ?_
    refine r_getI0 11 (x := I (q0) 1) hC hk0 1 (by decide) tw_353 rfl rfl dX0_takeBack_11 ?_
    refine r_if_le 14 26 hC dX0_takeBack_14 (by decide) (fun hc => ?_) (fun hc => ?_)
    · replace h := h.1 hc
      refine r_bipush 26 (v := 9) hC dX0_takeBack_26 (by decide) ?_
      refine r_putI0 28 hC hk0 1 (by decide) tw_353 rfl rfl (by decide +kernel) ps_0_1 dX0_takeBack_28 (fun I10 hI => ?_)
      replace h := h I10 hI; clear hI
      refine r_aload_n 31 hC dX0_takeBack_31 rfl rfl ?_
      refine r_dup 32 hC dX0_takeBack_32 rfl ?_
      refine r_getI0 33 (x := I10 (q0) 2) hC hk0 2 (by decide) tw_354 rfl rfl dX0_takeBack_33 ?_
      refine r_iconst 36 (v := 1) hC dX0_takeBack_36 (by decide) ?_
      refine r_isub 37 hC dX0_takeBack_37 ?_
      refine r_putI0 38 hC hk0 2 (by decide) tw_354 rfl rfl (by decide +kernel) ps_0_2 dX0_takeBack_38 (fun I11 hI => ?_)
      replace h := h I11 hI; clear hI
      refine r_aload_n 41 hC dX0_takeBack_41 rfl rfl ?_
      refine r_aload_n 42 hC dX0_takeBack_42 rfl rfl ?_
      refine r_getR0 43 (r1 := q0 + 1) hC hk0 0 (by decide) tw_352 rfl rfl dX0_takeBack_43 ?_
      refine r_aload_n 46 hC dX0_takeBack_46 rfl rfl ?_
      refine r_getI0 47 (x := I11 (q0) 1) hC hk0 1 (by decide) tw_353 rfl rfl dX0_takeBack_47 ?_
      have hg12 := h.1; replace h := h.2
      refine r_aald5 50 hC ((pm_s0 hG hk0)) hg12 dX0_takeBack_50 ?_
      refine r_callVN_v 51 (n := 1) [.ref (q0 + 1 + 1 + 34 * (I11 (q0) 1).toNatClampNeg)] [] hC hk1 rfl dX0_takeBack_51 (by decide) (by decide) tw_429 tw_132 ⟨by decide, by decide, by decide +kernel⟩ tw_426 tw_428 tw_6 rfl rfl (sX5_copyFrom (l := pm_l X) hG (q1) (q0 + 1 + 1 + 34 * (I11 (q0) 1).toNatClampNeg) _ _ hk1 (pm_sa5 hG ((pm_s0 hG hk0)) hg12) h) hab (Nat.le_of_ble_eq_true rfl) ?_
      clear h; intro I13 h
      refine r_aload_n 54 hC dX0_takeBack_54 rfl rfl ?_
      refine r_getI0 55 (x := I13 (q0) 2) hC hk0 2 (by decide) tw_354 rfl rfl dX0_takeBack_55 ?_
      exact r_iret 58 hC hE rfl dX0_takeBack_58 ⟨_, rfl, h⟩
    · replace h := h.2 hc
      refine r_aload_n 17 hC dX0_takeBack_17 rfl rfl ?_
      refine r_getI0 18 (x := I (q0) 1) hC hk0 1 (by decide) tw_353 rfl rfl dX0_takeBack_18 ?_
      refine r_iconst 21 (v := 1) hC dX0_takeBack_21 (by decide) ?_
      refine r_isub 22 hC dX0_takeBack_22 ?_
      refine r_goto 23 28 hC dX0_takeBack_23 (by decide) ?_
      refine r_putI0 28 hC hk0 1 (by decide) tw_353 rfl rfl (by decide +kernel) ps_0_1 dX0_takeBack_28 (fun I14 hI => ?_)
      replace h := h I14 hI; clear hI
      refine r_aload_n 31 hC dX0_takeBack_31 rfl rfl ?_
      refine r_dup 32 hC dX0_takeBack_32 rfl ?_
      refine r_getI0 33 (x := I14 (q0) 2) hC hk0 2 (by decide) tw_354 rfl rfl dX0_takeBack_33 ?_
      refine r_iconst 36 (v := 1) hC dX0_takeBack_36 (by decide) ?_
      refine r_isub 37 hC dX0_takeBack_37 ?_
      refine r_putI0 38 hC hk0 2 (by decide) tw_354 rfl rfl (by decide +kernel) ps_0_2 dX0_takeBack_38 (fun I15 hI => ?_)
      replace h := h I15 hI; clear hI
      refine r_aload_n 41 hC dX0_takeBack_41 rfl rfl ?_
      refine r_aload_n 42 hC dX0_takeBack_42 rfl rfl ?_
      refine r_getR0 43 (r1 := q0 + 1) hC hk0 0 (by decide) tw_352 rfl rfl dX0_takeBack_43 ?_
      refine r_aload_n 46 hC dX0_takeBack_46 rfl rfl ?_
      refine r_getI0 47 (x := I15 (q0) 1) hC hk0 1 (by decide) tw_353 rfl rfl dX0_takeBack_47 ?_
      have hg16 := h.1; replace h := h.2
      refine r_aald5 50 hC ((pm_s0 hG hk0)) hg16 dX0_takeBack_50 ?_
      refine r_callVN_v 51 (n := 1) [.ref (q0 + 1 + 1 + 34 * (I15 (q0) 1).toNatClampNeg)] [] hC hk1 rfl dX0_takeBack_51 (by decide) (by decide) tw_429 tw_132 ⟨by decide, by decide, by decide +kernel⟩ tw_426 tw_428 tw_6 rfl rfl (sX5_copyFrom (l := pm_l X) hG (q1) (q0 + 1 + 1 + 34 * (I15 (q0) 1).toNatClampNeg) _ _ hk1 (pm_sa5 hG ((pm_s0 hG hk0)) hg16) h) hab (Nat.le_of_ble_eq_true rfl) ?_
      clear h; intro I17 h
      refine r_aload_n 54 hC dX0_takeBack_54 rfl rfl ?_
      refine r_getI0 55 (x := I17 (q0) 2) hC hk0 2 (by decide) tw_354 rfl rfl dX0_takeBack_55 ?_
      exact r_iret 58 hC hE rfl dX0_takeBack_58 ⟨_, rfl, h⟩
  · replace h := h.2 hc
    refine r_iconst 7 (v := -1) hC dX0_takeBack_7 (by decide) ?_
    exact r_iret 8 hC hE rfl dX0_takeBack_8 ⟨_, rfl, h⟩

def wX0_forget (G : pm_G) (q0 : Nat) (I : pm_I) (K : pm_I → Prop) : Prop :=
  ∀ I10 : pm_I, I10 = pm_up I (q0) 2 (0) → K I10

set_option maxRecDepth 20000 in
theorem sX0_forget {G : pm_G} {l : Launch} (hG : pm_ok G) (q0 : Nat) (I : pm_I) (K : pm_I → Prop) (hk0 : pm_k G q0 (.inl 0)) (h : wX0_forget G q0 I K) : pm_Ct G l yX0_forget cX0_forget 1 none { frames := 1, cells := 0, slots := 0, locals := 64 } [.ref (q0)] I (pm_Kv K) := by
  unfold wX0_forget at h
  refine pm_enter (by decide +kernel) hG rfl (Nat.le_of_ble_eq_true rfl) rfl (fun X hl hC hE => ?_)
  subst hl
  have hab : 0 ≤ 0 ∧ 0 ≤ 0 := ⟨Nat.le_refl 0, Nat.le_refl 0⟩
  have hC : pm_C G X cX0_forget 1 RX0 none { frames := 1, cells := 0, slots := 0, locals := 64 } := hC
  refine r_aload_n 0 hC dX0_forget_0 rfl rfl ?_
  refine r_iconst 1 (v := 0) hC dX0_forget_1 (by decide) ?_
  refine r_putI0 2 hC hk0 2 (by decide) tw_354 rfl rfl (by decide +kernel) ps_0_2 dX0_forget_2 (fun I10 hI => ?_)
  replace h := h I10 hI; clear hI
  exact r_vret 5 hC hE dX0_forget_5 ⟨rfl, h⟩

def wX3_clear (G : pm_G) (q0 : Nat) (I : pm_I) (K : pm_I → Prop) : Prop :=
  ∀ I10 : pm_I, I10 = pm_up I (q0) 1 (0) → K I10

set_option maxRecDepth 20000 in
theorem sX3_clear {G : pm_G} {l : Launch} (hG : pm_ok G) (q0 : Nat) (I : pm_I) (K : pm_I → Prop) (hk0 : pm_k G q0 (.inl 3)) (h : wX3_clear G q0 I K) : pm_Ct G l yX3_clear cX3_clear 1 none { frames := 1, cells := 0, slots := 0, locals := 64 } [.ref (q0)] I (pm_Kv K) := by
  unfold wX3_clear at h
  refine pm_enter (by decide +kernel) hG rfl (Nat.le_of_ble_eq_true rfl) rfl (fun X hl hC hE => ?_)
  subst hl
  have hab : 0 ≤ 0 ∧ 0 ≤ 0 := ⟨Nat.le_refl 0, Nat.le_refl 0⟩
  have hC : pm_C G X cX3_clear 1 RX3 none { frames := 1, cells := 0, slots := 0, locals := 64 } := hC
  refine r_aload_n 0 hC dX3_clear_0 rfl rfl ?_
  refine r_iconst 1 (v := 0) hC dX3_clear_1 (by decide) ?_
  refine r_putI3 2 hC hk0 1 (by decide) tw_171 rfl rfl (by decide +kernel) ps_3_1 dX3_clear_2 (fun I10 hI => ?_)
  replace h := h I10 hI; clear hI
  exact r_vret 5 hC hE dX3_clear_5 ⟨rfl, h⟩

def wX3_put (G : pm_G) (q0 : Nat) (x1 : Int32) (I : pm_I) (K : pm_I → Prop) : Prop :=
  (600 ≤ (I q0 1) → K I) ∧ (¬ 600 ≤ (I q0 1) → (vp_in (I (q0) 1) 600 ∧ (∀ I10 : pm_I, I10 = pm_up I (q0 + 1) ((I (q0) 1).toNatClampNeg) (x1) → (∀ I11 : pm_I, I11 = pm_up I10 (q0) 1 ((I10 q0 1) + 1) → K I11))))

set_option maxRecDepth 20000 in
theorem sX3_put {G : pm_G} {l : Launch} (hG : pm_ok G) (q0 : Nat) (x1 : Int32) (I : pm_I) (K : pm_I → Prop) (hk0 : pm_k G q0 (.inl 3)) (h : wX3_put G q0 x1 I K) : pm_Ct G l yX3_put cX3_put 2 none { frames := 1, cells := 0, slots := 0, locals := 64 } [.ref (q0), .int (x1)] I (pm_Kv K) := by
  unfold wX3_put at h
  refine pm_enter (by decide +kernel) hG rfl (Nat.le_of_ble_eq_true rfl) rfl (fun X hl hC hE => ?_)
  subst hl
  have hab : 0 ≤ 0 ∧ 0 ≤ 0 := ⟨Nat.le_refl 0, Nat.le_refl 0⟩
  have hC : pm_C G X cX3_put 2 RX3 none { frames := 1, cells := 0, slots := 0, locals := 64 } := hC
  refine r_aload_n 0 hC dX3_put_0 rfl rfl ?_
  refine r_getI3 1 (x := I (q0) 1) hC hk0 1 (by decide) tw_171 rfl rfl dX3_put_1 ?_
  refine r_sipush 4 (v := 600) hC dX3_put_4 (by decide) ?_
  refine r_icmp_ge 7 30 hC dX3_put_7 (by decide) (fun hc => ?_) (fun hc => ?_)
  · replace h := h.1 hc
    exact r_vret 30 hC hE dX3_put_30 ⟨rfl, h⟩
  · replace h := h.2 hc
    refine r_aload_n 10 hC dX3_put_10 rfl rfl ?_
    refine r_getR3 11 (r1 := q0 + 1) hC hk0 0 (by decide) tw_170 rfl rfl dX3_put_11 ?_
    refine r_aload_n 14 hC dX3_put_14 rfl rfl ?_
    refine r_getI3 15 (x := I (q0) 1) hC hk0 1 (by decide) tw_171 rfl rfl dX3_put_15 ?_
    refine r_iload_n 18 hC dX3_put_18 rfl rfl ?_
    refine r_iast 19 hC ((pm_s3 hG hk0).1) h.1 dX3_put_19 (fun I10 hI => ?_)
    replace h := h.2
    replace h := h I10 hI; clear hI
    refine r_aload_n 20 hC dX3_put_20 rfl rfl ?_
    refine r_dup 21 hC dX3_put_21 rfl ?_
    refine r_getI3 22 (x := I10 (q0) 1) hC hk0 1 (by decide) tw_171 rfl rfl dX3_put_22 ?_
    refine r_iconst 25 (v := 1) hC dX3_put_25 (by decide) ?_
    refine r_iadd 26 hC dX3_put_26 ?_
    refine r_putI3 27 hC hk0 1 (by decide) tw_171 rfl rfl (by decide +kernel) ps_3_1 dX3_put_27 (fun I11 hI => ?_)
    replace h := h I11 hI; clear hI
    exact r_vret 30 hC hE dX3_put_30 ⟨rfl, h⟩

def wX3_useDefault (G : pm_G) (q0 : Nat) (I : pm_I) (K : pm_I → Prop) : Prop :=
  wX3_clear G (q0) I (fun I10 => wX3_put G (q0) (-1) I10 (fun I11 => wX3_put G (q0) (-2) I11 (fun I12 => wX3_put G (q0) (-6) I12 (fun I13 => wX3_put G (q0) (-3) I13 (fun I14 => wX3_put G (q0) (10) I14 (fun I15 => wX3_put G (q0) (-8) I15 (fun I16 => wX3_put G (q0) (-6) I16 (fun I17 => K I17))))))))

set_option maxRecDepth 20000 in
theorem sX3_useDefault {G : pm_G} {l : Launch} (hG : pm_ok G) (q0 : Nat) (I : pm_I) (K : pm_I → Prop) (hk0 : pm_k G q0 (.inl 3)) (h : wX3_useDefault G q0 I K) : pm_Ct G l yX3_useDefault cX3_useDefault 1 none { frames := 2, cells := 0, slots := 0, locals := 149 } [.ref (q0)] I (pm_Kv K) := by
  unfold wX3_useDefault at h
  refine pm_enter (by decide +kernel) hG rfl (Nat.le_of_ble_eq_true rfl) rfl (fun X hl hC hE => ?_)
  subst hl
  have hab : 0 ≤ 0 ∧ 0 ≤ 0 := ⟨Nat.le_refl 0, Nat.le_refl 0⟩
  have hC : pm_C G X cX3_useDefault 1 RX3 none { frames := 2, cells := 0, slots := 0, locals := 149 } := hC
  refine r_aload_n 0 hC dX3_useDefault_0 rfl rfl ?_
  refine r_callV_v 1 (n := 0) [] [] hC hk0 rfl dX3_useDefault_1 (by decide) (by decide) tw_196 tw_131 ⟨by decide, by decide, by decide +kernel⟩ tw_193 tw_195 tw_2 rfl rfl (sX3_clear (l := pm_l X) hG (q0) _ _ hk0 h) hab (Nat.le_of_ble_eq_true rfl) ?_
  clear h; intro I10 h
  refine r_aload_n 4 hC dX3_useDefault_4 rfl rfl ?_
  refine r_iconst 5 (v := -1) hC dX3_useDefault_5 (by decide) ?_
  refine r_callV_v 6 (n := 1) [.int (-1)] [] hC hk0 rfl dX3_useDefault_6 (by decide) (by decide) tw_200 tw_131 ⟨by decide, by decide, by decide +kernel⟩ tw_197 tw_199 tw_3 rfl rfl (sX3_put (l := pm_l X) hG (q0) (-1) _ _ hk0 h) hab (Nat.le_of_ble_eq_true rfl) ?_
  clear h; intro I11 h
  refine r_aload_n 9 hC dX3_useDefault_9 rfl rfl ?_
  refine r_bipush 10 (v := -2) hC dX3_useDefault_10 (by decide) ?_
  refine r_callV_v 12 (n := 1) [.int (-2)] [] hC hk0 rfl dX3_useDefault_12 (by decide) (by decide) tw_200 tw_131 ⟨by decide, by decide, by decide +kernel⟩ tw_197 tw_199 tw_3 rfl rfl (sX3_put (l := pm_l X) hG (q0) (-2) _ _ hk0 h) hab (Nat.le_of_ble_eq_true rfl) ?_
  clear h; intro I12 h
  refine r_aload_n 15 hC dX3_useDefault_15 rfl rfl ?_
  refine r_bipush 16 (v := -6) hC dX3_useDefault_16 (by decide) ?_
  refine r_callV_v 18 (n := 1) [.int (-6)] [] hC hk0 rfl dX3_useDefault_18 (by decide) (by decide) tw_200 tw_131 ⟨by decide, by decide, by decide +kernel⟩ tw_197 tw_199 tw_3 rfl rfl (sX3_put (l := pm_l X) hG (q0) (-6) _ _ hk0 h) hab (Nat.le_of_ble_eq_true rfl) ?_
  clear h; intro I13 h
  refine r_aload_n 21 hC dX3_useDefault_21 rfl rfl ?_
  refine r_bipush 22 (v := -3) hC dX3_useDefault_22 (by decide) ?_
  refine r_callV_v 24 (n := 1) [.int (-3)] [] hC hk0 rfl dX3_useDefault_24 (by decide) (by decide) tw_200 tw_131 ⟨by decide, by decide, by decide +kernel⟩ tw_197 tw_199 tw_3 rfl rfl (sX3_put (l := pm_l X) hG (q0) (-3) _ _ hk0 h) hab (Nat.le_of_ble_eq_true rfl) ?_
  clear h; intro I14 h
  refine r_aload_n 27 hC dX3_useDefault_27 rfl rfl ?_
  refine r_bipush 28 (v := 10) hC dX3_useDefault_28 (by decide) ?_
  refine r_callV_v 30 (n := 1) [.int (10)] [] hC hk0 rfl dX3_useDefault_30 (by decide) (by decide) tw_200 tw_131 ⟨by decide, by decide, by decide +kernel⟩ tw_197 tw_199 tw_3 rfl rfl (sX3_put (l := pm_l X) hG (q0) (10) _ _ hk0 h) hab (Nat.le_of_ble_eq_true rfl) ?_
  clear h; intro I15 h
  refine r_aload_n 33 hC dX3_useDefault_33 rfl rfl ?_
  refine r_bipush 34 (v := -8) hC dX3_useDefault_34 (by decide) ?_
  refine r_callV_v 36 (n := 1) [.int (-8)] [] hC hk0 rfl dX3_useDefault_36 (by decide) (by decide) tw_200 tw_131 ⟨by decide, by decide, by decide +kernel⟩ tw_197 tw_199 tw_3 rfl rfl (sX3_put (l := pm_l X) hG (q0) (-8) _ _ hk0 h) hab (Nat.le_of_ble_eq_true rfl) ?_
  clear h; intro I16 h
  refine r_aload_n 39 hC dX3_useDefault_39 rfl rfl ?_
  refine r_bipush 40 (v := -6) hC dX3_useDefault_40 (by decide) ?_
  refine r_callV_v 42 (n := 1) [.int (-6)] [] hC hk0 rfl dX3_useDefault_42 (by decide) (by decide) tw_200 tw_131 ⟨by decide, by decide, by decide +kernel⟩ tw_197 tw_199 tw_3 rfl rfl (sX3_put (l := pm_l X) hG (q0) (-6) _ _ hk0 h) hab (Nat.le_of_ble_eq_true rfl) ?_
  clear h; intro I17 h
  exact r_vret 45 hC hE dX3_useDefault_45 ⟨rfl, h⟩

def wX1_clear (G : pm_G) (q0 : Nat) (I : pm_I) (K : pm_I → Prop) : Prop :=
  ∀ I10 : pm_I, I10 = pm_up I (q0) 0 (0) → (pm_lp2 (fun (P11 : Int32 → pm_I → Prop) (x13 : Int32) (I12 : pm_I) => (64 ≤ x13 → (pm_lp2 (fun (P14 : Int32 → pm_I → Prop) (x16 : Int32) (I15 : pm_I) => (8 ≤ x16 → (wX3_useDefault G (q0 + 5) I15 (fun I17 => ∀ I18 : pm_I, I18 = pm_up I17 (q0) 6 (3) → (∀ I19 : pm_I, I19 = pm_up I18 (q0) 7 (2) → (∀ I20 : pm_I, I20 = pm_up I19 (q0) 8 (10) → K I20))))) ∧ (¬ 8 ≤ x16 → (vp_in (x16) 8 ∧ (∀ I21 : pm_I, I21 = pm_up I15 (q0 + 4) ((x16).toNatClampNeg) (0) → (P14 (x16 + 1) I21))))) (0) I12)) ∧ (¬ 64 ≤ x13 → (vp_in (x13) 64 ∧ (∀ I22 : pm_I, I22 = pm_up I12 (q0 + 3) ((x13).toNatClampNeg) (0) → (P11 (x13 + 1) I22))))) (0) I10)

set_option maxRecDepth 20000 in
theorem sX1_clear {G : pm_G} {l : Launch} (hG : pm_ok G) (q0 : Nat) (I : pm_I) (K : pm_I → Prop) (hk0 : pm_k G q0 (.inl 1)) (h : wX1_clear G q0 I K) : pm_Ct G l yX1_clear cX1_clear 2 none { frames := 3, cells := 0, slots := 0, locals := 233 } [.ref (q0)] I (pm_Kv K) := by
  unfold wX1_clear at h
  refine pm_enter (by decide +kernel) hG rfl (Nat.le_of_ble_eq_true rfl) rfl (fun X hl hC hE => ?_)
  subst hl
  have hab : 0 ≤ 0 ∧ 0 ≤ 0 := ⟨Nat.le_refl 0, Nat.le_refl 0⟩
  have hC : pm_C G X cX1_clear 2 RX1 none { frames := 3, cells := 0, slots := 0, locals := 233 } := hC
  refine r_aload_n 0 hC dX1_clear_0 rfl rfl ?_
  refine r_iconst 1 (v := 0) hC dX1_clear_1 (by decide) ?_
  refine r_putI1 2 hC hk0 0 (by decide) tw_201 rfl rfl (by decide +kernel) ps_1_0 dX1_clear_2 (fun I10 hI => ?_)
  replace h := h I10 hI; clear hI
  refine r_iconst 5 (v := 0) hC dX1_clear_5 (by decide) ?_
  refine r_istore_n 6 [some (.ref (q0)), some (.int (0))] hC dX1_clear_6 rfl (by decide) rfl ?_
  refine h (fun x13 I12 => pm_R G X 2 0 0 7 [some (.ref (q0)), some (.int (x13))] [] I12) ?_
  clear h; intro x13 I12 h
  refine r_iload_n 7 hC dX1_clear_7 rfl rfl ?_
  refine r_bipush 8 (v := 64) hC dX1_clear_8 (by decide) ?_
  refine r_icmp_ge 10 26 hC dX1_clear_10 (by decide) (fun hc => ?_) (fun hc => ?_)
  · replace h := h.1 hc
    refine r_iconst 26 (v := 0) hC dX1_clear_26 (by decide) ?_
    refine r_istore_n 27 [some (.ref (q0)), some (.int (0))] hC dX1_clear_27 rfl (by decide) rfl ?_
    refine h (fun x16 I15 => pm_R G X 2 0 0 28 [some (.ref (q0)), some (.int (x16))] [] I15) ?_
    clear h; intro x16 I15 h
    refine r_iload_n 28 hC dX1_clear_28 rfl rfl ?_
    refine r_bipush 29 (v := 8) hC dX1_clear_29 (by decide) ?_
    refine r_icmp_ge 31 47 hC dX1_clear_31 (by decide) (fun hc => ?_) (fun hc => ?_)
    · replace h := h.1 hc
      refine r_aload_n 47 hC dX1_clear_47 rfl rfl ?_
      refine r_getR1 48 (r1 := q0 + 5) hC hk0 5 (by decide) tw_211 rfl rfl dX1_clear_48 ?_
      refine r_callVN_v 51 (n := 0) [] [] hC ((pm_s1 hG hk0).2.2.2.2) rfl dX1_clear_51 (by decide) (by decide) tw_192 tw_131 ⟨by decide, by decide, by decide +kernel⟩ tw_189 tw_191 tw_1 rfl rfl (sX3_useDefault (l := pm_l X) hG (q0 + 5) _ _ ((pm_s1 hG hk0).2.2.2.2) h) hab (Nat.le_of_ble_eq_true rfl) ?_
      clear h; intro I17 h
      refine r_aload_n 54 hC dX1_clear_54 rfl rfl ?_
      refine r_iconst 55 (v := 3) hC dX1_clear_55 (by decide) ?_
      refine r_putI1 56 hC hk0 6 (by decide) tw_214 rfl rfl (by decide +kernel) ps_1_6 dX1_clear_56 (fun I18 hI => ?_)
      replace h := h I18 hI; clear hI
      refine r_aload_n 59 hC dX1_clear_59 rfl rfl ?_
      refine r_iconst 60 (v := 2) hC dX1_clear_60 (by decide) ?_
      refine r_putI1 61 hC hk0 7 (by decide) tw_217 rfl rfl (by decide +kernel) ps_1_7 dX1_clear_61 (fun I19 hI => ?_)
      replace h := h I19 hI; clear hI
      refine r_aload_n 64 hC dX1_clear_64 rfl rfl ?_
      refine r_bipush 65 (v := 10) hC dX1_clear_65 (by decide) ?_
      refine r_putI1 67 hC hk0 8 (by decide) tw_220 rfl rfl (by decide +kernel) ps_1_8 dX1_clear_67 (fun I20 hI => ?_)
      replace h := h I20 hI; clear hI
      exact r_vret 70 hC hE dX1_clear_70 ⟨rfl, h⟩
    · replace h := h.2 hc
      refine r_aload_n 34 hC dX1_clear_34 rfl rfl ?_
      refine r_getR1 35 (r1 := q0 + 4) hC hk0 4 (by decide) tw_209 rfl rfl dX1_clear_35 ?_
      refine r_iload_n 38 hC dX1_clear_38 rfl rfl ?_
      refine r_iconst 39 (v := 0) hC dX1_clear_39 (by decide) ?_
      refine r_iast 40 hC ((pm_s1 hG hk0).2.2.2.1) h.1 dX1_clear_40 (fun I21 hI => ?_)
      replace h := h.2
      replace h := h I21 hI; clear hI
      refine r_iinc 41 (v := x16 + 1) [some (.ref (q0)), some (.int (x16 + 1))] hC dX1_clear_41 rfl (by rfl) (by decide) rfl ?_
      refine r_goto 44 28 hC dX1_clear_44 (by decide) ?_
      exact h
  · replace h := h.2 hc
    refine r_aload_n 13 hC dX1_clear_13 rfl rfl ?_
    refine r_getR1 14 (r1 := q0 + 3) hC hk0 3 (by decide) tw_208 rfl rfl dX1_clear_14 ?_
    refine r_iload_n 17 hC dX1_clear_17 rfl rfl ?_
    refine r_iconst 18 (v := 0) hC dX1_clear_18 (by decide) ?_
    refine r_iast 19 hC ((pm_s1 hG hk0).2.2.1) h.1 dX1_clear_19 (fun I22 hI => ?_)
    replace h := h.2
    replace h := h I22 hI; clear hI
    refine r_iinc 20 (v := x13 + 1) [some (.ref (q0)), some (.int (x13 + 1))] hC dX1_clear_20 rfl (by rfl) (by decide) rfl ?_
    refine r_goto 23 7 hC dX1_clear_23 (by decide) ?_
    exact h

def wX1_addPeer (G : pm_G) (q0 : Nat) (x1 : Int32) (x2 : Int32) (I : pm_I) (K : pm_I → Prop) : Prop :=
  (8 ≤ (I q0 0) → K I) ∧ (¬ 8 ≤ (I q0 0) → (vp_in (I (q0) 0) 8 ∧ (∀ I10 : pm_I, I10 = pm_up I (q0 + 1) ((I (q0) 0).toNatClampNeg) (x1) → (vp_in (I10 (q0) 0) 8 ∧ (∀ I11 : pm_I, I11 = pm_up I10 (q0 + 2) ((I10 (q0) 0).toNatClampNeg) (x2) → (∀ I12 : pm_I, I12 = pm_up I11 (q0) 0 ((I11 q0 0) + 1) → K I12))))))

set_option maxRecDepth 20000 in
theorem sX1_addPeer {G : pm_G} {l : Launch} (hG : pm_ok G) (q0 : Nat) (x1 : Int32) (x2 : Int32) (I : pm_I) (K : pm_I → Prop) (hk0 : pm_k G q0 (.inl 1)) (h : wX1_addPeer G q0 x1 x2 I K) : pm_Ct G l yX1_addPeer cX1_addPeer 3 none { frames := 1, cells := 0, slots := 0, locals := 64 } [.ref (q0), .int (x1), .int (x2)] I (pm_Kv K) := by
  unfold wX1_addPeer at h
  refine pm_enter (by decide +kernel) hG rfl (Nat.le_of_ble_eq_true rfl) rfl (fun X hl hC hE => ?_)
  subst hl
  have hab : 0 ≤ 0 ∧ 0 ≤ 0 := ⟨Nat.le_refl 0, Nat.le_refl 0⟩
  have hC : pm_C G X cX1_addPeer 3 RX1 none { frames := 1, cells := 0, slots := 0, locals := 64 } := hC
  refine r_aload_n 0 hC dX1_addPeer_0 rfl rfl ?_
  refine r_getI1 1 (x := I (q0) 0) hC hk0 0 (by decide) tw_201 rfl rfl dX1_addPeer_1 ?_
  refine r_bipush 4 (v := 8) hC dX1_addPeer_4 (by decide) ?_
  refine r_icmp_ge 6 39 hC dX1_addPeer_6 (by decide) (fun hc => ?_) (fun hc => ?_)
  · replace h := h.1 hc
    exact r_vret 39 hC hE dX1_addPeer_39 ⟨rfl, h⟩
  · replace h := h.2 hc
    refine r_aload_n 9 hC dX1_addPeer_9 rfl rfl ?_
    refine r_getR1 10 (r1 := q0 + 1) hC hk0 1 (by decide) tw_205 rfl rfl dX1_addPeer_10 ?_
    refine r_aload_n 13 hC dX1_addPeer_13 rfl rfl ?_
    refine r_getI1 14 (x := I (q0) 0) hC hk0 0 (by decide) tw_201 rfl rfl dX1_addPeer_14 ?_
    refine r_iload_n 17 hC dX1_addPeer_17 rfl rfl ?_
    refine r_iast 18 hC ((pm_s1 hG hk0).1) h.1 dX1_addPeer_18 (fun I10 hI => ?_)
    replace h := h.2
    replace h := h I10 hI; clear hI
    refine r_aload_n 19 hC dX1_addPeer_19 rfl rfl ?_
    refine r_getR1 20 (r1 := q0 + 2) hC hk0 2 (by decide) tw_207 rfl rfl dX1_addPeer_20 ?_
    refine r_aload_n 23 hC dX1_addPeer_23 rfl rfl ?_
    refine r_getI1 24 (x := I10 (q0) 0) hC hk0 0 (by decide) tw_201 rfl rfl dX1_addPeer_24 ?_
    refine r_iload_n 27 hC dX1_addPeer_27 rfl rfl ?_
    refine r_iast 28 hC ((pm_s1 hG hk0).2.1) h.1 dX1_addPeer_28 (fun I11 hI => ?_)
    replace h := h.2
    replace h := h I11 hI; clear hI
    refine r_aload_n 29 hC dX1_addPeer_29 rfl rfl ?_
    refine r_dup 30 hC dX1_addPeer_30 rfl ?_
    refine r_getI1 31 (x := I11 (q0) 0) hC hk0 0 (by decide) tw_201 rfl rfl dX1_addPeer_31 ?_
    refine r_iconst 34 (v := 1) hC dX1_addPeer_34 (by decide) ?_
    refine r_iadd 35 hC dX1_addPeer_35 ?_
    refine r_putI1 36 hC hk0 0 (by decide) tw_201 rfl rfl (by decide +kernel) ps_1_0 dX1_addPeer_36 (fun I12 hI => ?_)
    replace h := h I12 hI; clear hI
    exact r_vret 39 hC hE dX1_addPeer_39 ⟨rfl, h⟩

def wX1_addLink (G : pm_G) (q0 : Nat) (x1 : Int32) (x2 : Int32) (x3 : Int32) (I : pm_I) (K : pm_I → Prop) : Prop :=
  vp_in ((x1 * 8) + x2) 64 ∧ (∀ I10 : pm_I, I10 = pm_up I (q0 + 3) (((x1 * 8) + x2).toNatClampNeg) (x3) → (vp_in ((x2 * 8) + x1) 64 ∧ (∀ I11 : pm_I, I11 = pm_up I10 (q0 + 3) (((x2 * 8) + x1).toNatClampNeg) (x3) → K I11)))

set_option maxRecDepth 20000 in
theorem sX1_addLink {G : pm_G} {l : Launch} (hG : pm_ok G) (q0 : Nat) (x1 : Int32) (x2 : Int32) (x3 : Int32) (I : pm_I) (K : pm_I → Prop) (hk0 : pm_k G q0 (.inl 1)) (h : wX1_addLink G q0 x1 x2 x3 I K) : pm_Ct G l yX1_addLink cX1_addLink 4 none { frames := 1, cells := 0, slots := 0, locals := 64 } [.ref (q0), .int (x1), .int (x2), .int (x3)] I (pm_Kv K) := by
  unfold wX1_addLink at h
  refine pm_enter (by decide +kernel) hG rfl (Nat.le_of_ble_eq_true rfl) rfl (fun X hl hC hE => ?_)
  subst hl
  have hab : 0 ≤ 0 ∧ 0 ≤ 0 := ⟨Nat.le_refl 0, Nat.le_refl 0⟩
  have hC : pm_C G X cX1_addLink 4 RX1 none { frames := 1, cells := 0, slots := 0, locals := 64 } := hC
  refine r_aload_n 0 hC dX1_addLink_0 rfl rfl ?_
  refine r_getR1 1 (r1 := q0 + 3) hC hk0 3 (by decide) tw_208 rfl rfl dX1_addLink_1 ?_
  refine r_iload_n 4 hC dX1_addLink_4 rfl rfl ?_
  refine r_bipush 5 (v := 8) hC dX1_addLink_5 (by decide) ?_
  refine r_imul 7 hC dX1_addLink_7 ?_
  refine r_iload_n 8 hC dX1_addLink_8 rfl rfl ?_
  refine r_iadd 9 hC dX1_addLink_9 ?_
  refine r_iload_n 10 hC dX1_addLink_10 rfl rfl ?_
  refine r_iast 11 hC ((pm_s1 hG hk0).2.2.1) h.1 dX1_addLink_11 (fun I10 hI => ?_)
  replace h := h.2
  replace h := h I10 hI; clear hI
  refine r_aload_n 12 hC dX1_addLink_12 rfl rfl ?_
  refine r_getR1 13 (r1 := q0 + 3) hC hk0 3 (by decide) tw_208 rfl rfl dX1_addLink_13 ?_
  refine r_iload_n 16 hC dX1_addLink_16 rfl rfl ?_
  refine r_bipush 17 (v := 8) hC dX1_addLink_17 (by decide) ?_
  refine r_imul 19 hC dX1_addLink_19 ?_
  refine r_iload_n 20 hC dX1_addLink_20 rfl rfl ?_
  refine r_iadd 21 hC dX1_addLink_21 ?_
  refine r_iload_n 22 hC dX1_addLink_22 rfl rfl ?_
  refine r_iast 23 hC ((pm_s1 hG hk0).2.2.1) h.1 dX1_addLink_23 (fun I11 hI => ?_)
  replace h := h.2
  replace h := h I11 hI; clear hI
  exact r_vret 24 hC hE dX1_addLink_24 ⟨rfl, h⟩

def wX1_addAcquaintance (G : pm_G) (q0 : Nat) (x1 : Int32) (x2 : Int32) (I : pm_I) (K : pm_I → Prop) : Prop :=
  vp_in (x1) 8 ∧ (vp_in (x1) 8 ∧ (∀ I10 : pm_I, I10 = pm_up I (q0 + 4) ((x1).toNatClampNeg) ((I (q0 + 4) (x1).toNatClampNeg) ||| (1 <<< (x2 &&& 31))) → (vp_in (x2) 8 ∧ (vp_in (x2) 8 ∧ (∀ I11 : pm_I, I11 = pm_up I10 (q0 + 4) ((x2).toNatClampNeg) ((I10 (q0 + 4) (x2).toNatClampNeg) ||| (1 <<< (x1 &&& 31))) → K I11)))))

set_option maxRecDepth 20000 in
theorem sX1_addAcquaintance {G : pm_G} {l : Launch} (hG : pm_ok G) (q0 : Nat) (x1 : Int32) (x2 : Int32) (I : pm_I) (K : pm_I → Prop) (hk0 : pm_k G q0 (.inl 1)) (h : wX1_addAcquaintance G q0 x1 x2 I K) : pm_Ct G l yX1_addAcquaintance cX1_addAcquaintance 3 none { frames := 1, cells := 0, slots := 0, locals := 64 } [.ref (q0), .int (x1), .int (x2)] I (pm_Kv K) := by
  unfold wX1_addAcquaintance at h
  refine pm_enter (by decide +kernel) hG rfl (Nat.le_of_ble_eq_true rfl) rfl (fun X hl hC hE => ?_)
  subst hl
  have hab : 0 ≤ 0 ∧ 0 ≤ 0 := ⟨Nat.le_refl 0, Nat.le_refl 0⟩
  have hC : pm_C G X cX1_addAcquaintance 3 RX1 none { frames := 1, cells := 0, slots := 0, locals := 64 } := hC
  refine r_aload_n 0 hC dX1_addAcquaintance_0 rfl rfl ?_
  refine r_getR1 1 (r1 := q0 + 4) hC hk0 4 (by decide) tw_209 rfl rfl dX1_addAcquaintance_1 ?_
  refine r_iload_n 4 hC dX1_addAcquaintance_4 rfl rfl ?_
  refine r_dup2 5 hC dX1_addAcquaintance_5 rfl rfl ?_
  refine r_iald 6 hC ((pm_s1 hG hk0).2.2.2.1) h.1 dX1_addAcquaintance_6 ?_
  replace h := h.2
  refine r_iconst 7 (v := 1) hC dX1_addAcquaintance_7 (by decide) ?_
  refine r_iload_n 8 hC dX1_addAcquaintance_8 rfl rfl ?_
  refine r_ishl 9 hC dX1_addAcquaintance_9 ?_
  refine r_ior 10 hC dX1_addAcquaintance_10 ?_
  refine r_iast 11 hC ((pm_s1 hG hk0).2.2.2.1) h.1 dX1_addAcquaintance_11 (fun I10 hI => ?_)
  replace h := h.2
  replace h := h I10 hI; clear hI
  refine r_aload_n 12 hC dX1_addAcquaintance_12 rfl rfl ?_
  refine r_getR1 13 (r1 := q0 + 4) hC hk0 4 (by decide) tw_209 rfl rfl dX1_addAcquaintance_13 ?_
  refine r_iload_n 16 hC dX1_addAcquaintance_16 rfl rfl ?_
  refine r_dup2 17 hC dX1_addAcquaintance_17 rfl rfl ?_
  refine r_iald 18 hC ((pm_s1 hG hk0).2.2.2.1) h.1 dX1_addAcquaintance_18 ?_
  replace h := h.2
  refine r_iconst 19 (v := 1) hC dX1_addAcquaintance_19 (by decide) ?_
  refine r_iload_n 20 hC dX1_addAcquaintance_20 rfl rfl ?_
  refine r_ishl 21 hC dX1_addAcquaintance_21 ?_
  refine r_ior 22 hC dX1_addAcquaintance_22 ?_
  refine r_iast 23 hC ((pm_s1 hG hk0).2.2.2.1) h.1 dX1_addAcquaintance_23 (fun I11 hI => ?_)
  replace h := h.2
  replace h := h I11 hI; clear hI
  exact r_vret 24 hC hE dX1_addAcquaintance_24 ⟨rfl, h⟩

def wX1_delayBetween (G : pm_G) (q0 : Nat) (x1 : Int32) (x2 : Int32) (I : pm_I) (K : Int32 → pm_I → Prop) : Prop :=
  vp_in ((x1 * 8) + x2) 64 ∧ (K (I (q0 + 3) ((x1 * 8) + x2).toNatClampNeg) I)

set_option maxRecDepth 20000 in
theorem sX1_delayBetween {G : pm_G} {l : Launch} (hG : pm_ok G) (q0 : Nat) (x1 : Int32) (x2 : Int32) (I : pm_I) (K : Int32 → pm_I → Prop) (hk0 : pm_k G q0 (.inl 1)) (h : wX1_delayBetween G q0 x1 x2 I K) : pm_Ct G l yX1_delayBetween cX1_delayBetween 3 (some .int) { frames := 1, cells := 0, slots := 0, locals := 64 } [.ref (q0), .int (x1), .int (x2)] I (pm_Ki K) := by
  unfold wX1_delayBetween at h
  refine pm_enter (by decide +kernel) hG rfl (Nat.le_of_ble_eq_true rfl) rfl (fun X hl hC hE => ?_)
  subst hl
  have hab : 0 ≤ 0 ∧ 0 ≤ 0 := ⟨Nat.le_refl 0, Nat.le_refl 0⟩
  have hC : pm_C G X cX1_delayBetween 3 RX1 (some .int) { frames := 1, cells := 0, slots := 0, locals := 64 } := hC
  refine r_aload_n 0 hC dX1_delayBetween_0 rfl rfl ?_
  refine r_getR1 1 (r1 := q0 + 3) hC hk0 3 (by decide) tw_208 rfl rfl dX1_delayBetween_1 ?_
  refine r_iload_n 4 hC dX1_delayBetween_4 rfl rfl ?_
  refine r_bipush 5 (v := 8) hC dX1_delayBetween_5 (by decide) ?_
  refine r_imul 7 hC dX1_delayBetween_7 ?_
  refine r_iload_n 8 hC dX1_delayBetween_8 rfl rfl ?_
  refine r_iadd 9 hC dX1_delayBetween_9 ?_
  refine r_iald 10 hC ((pm_s1 hG hk0).2.2.1) h.1 dX1_delayBetween_10 ?_
  replace h := h.2
  exact r_iret 11 hC hE rfl dX1_delayBetween_11 ⟨_, rfl, h⟩

def wX1_delayAlong (G : pm_G) (q0 : Nat) (q1 : Nat) (I : pm_I) (K : Int32 → pm_I → Prop) : Prop :=
  (¬ (I q1 4) = 100 → ((¬ (I q1 4) = (-1) → (wX1_delayBetween G (q0) (I (q1) 1) (I (q1) 4) I (fun r11 I10 => wX1_delayBetween G (q0) (I10 (q1) 4) (I10 (q1) 2) I10 (fun r13 I12 => K (r11 + r13) I12)))) ∧ ((I q1 4) = (-1) → (K (0) I)))) ∧ ((I q1 4) = 100 → (wX1_delayBetween G (q0) (I (q1) 1) (I (q1) 2) I (fun r15 I14 => K (r15) I14)))

set_option maxRecDepth 20000 in
theorem sX1_delayAlong {G : pm_G} {l : Launch} (hG : pm_ok G) (q0 : Nat) (q1 : Nat) (I : pm_I) (K : Int32 → pm_I → Prop) (hk0 : pm_k G q0 (.inl 1)) (hk1 : pm_k G q1 (.inl 4)) (h : wX1_delayAlong G q0 q1 I K) : pm_Ct G l yX1_delayAlong cX1_delayAlong 2 (some .int) { frames := 2, cells := 0, slots := 0, locals := 150 } [.ref (q0), .ref (q1)] I (pm_Ki K) := by
  unfold wX1_delayAlong at h
  refine pm_enter (by decide +kernel) hG rfl (Nat.le_of_ble_eq_true rfl) rfl (fun X hl hC hE => ?_)
  subst hl
  have hab : 0 ≤ 0 ∧ 0 ≤ 0 := ⟨Nat.le_refl 0, Nat.le_refl 0⟩
  have hC : pm_C G X cX1_delayAlong 2 RX1 (some .int) { frames := 2, cells := 0, slots := 0, locals := 150 } := hC
  refine r_aload_n 0 hC dX1_delayAlong_0 rfl rfl ?_
  refine r_getIN4 1 (x := I (q1) 4) hC hk1 4 (by decide) tw_267 rfl rfl dX1_delayAlong_1 ?_
  refine r_bipush 4 (v := 100) hC dX1_delayAlong_4 (by decide) ?_
  refine r_icmp_ne 6 22 hC dX1_delayAlong_6 (by decide) (fun hc => ?_) (fun hc => ?_)
  · replace h := h.1 hc
    refine r_aload_n 22 hC dX1_delayAlong_22 rfl rfl ?_
    refine r_getIN4 23 (x := I (q1) 4) hC hk1 4 (by decide) tw_267 rfl rfl dX1_delayAlong_23 ?_
    refine r_iconst 26 (v := -1) hC dX1_delayAlong_26 (by decide) ?_
    refine r_icmp_ne 27 32 hC dX1_delayAlong_27 (by decide) (fun hc => ?_) (fun hc => ?_)
    · replace h := h.1 hc
      refine r_aload_n 32 hC dX1_delayAlong_32 rfl rfl ?_
      refine r_aload_n 33 hC dX1_delayAlong_33 rfl rfl ?_
      refine r_getIN4 34 (x := I (q1) 1) hC hk1 1 (by decide) tw_259 rfl rfl dX1_delayAlong_34 ?_
      refine r_aload_n 37 hC dX1_delayAlong_37 rfl rfl ?_
      refine r_getIN4 38 (x := I (q1) 4) hC hk1 4 (by decide) tw_267 rfl rfl dX1_delayAlong_38 ?_
      refine r_callV_i 41 (n := 2) [.int (I (q1) 1), .int (I (q1) 4)] [] hC hk0 rfl dX1_delayAlong_41 (by decide) (by decide) tw_708 tw_130 ⟨by decide, by decide, by decide +kernel⟩ tw_1006 tw_707 tw_32 rfl rfl (sX1_delayBetween (l := pm_l X) hG (q0) (I (q1) 1) (I (q1) 4) _ _ hk0 h) hab (Nat.le_of_ble_eq_true rfl) ?_
      clear h; intro r11 I10 h
      refine r_aload_n 44 hC dX1_delayAlong_44 rfl rfl ?_
      refine r_aload_n 45 hC dX1_delayAlong_45 rfl rfl ?_
      refine r_getIN4 46 (x := I10 (q1) 4) hC hk1 4 (by decide) tw_267 rfl rfl dX1_delayAlong_46 ?_
      refine r_aload_n 49 hC dX1_delayAlong_49 rfl rfl ?_
      refine r_getIN4 50 (x := I10 (q1) 2) hC hk1 2 (by decide) tw_262 rfl rfl dX1_delayAlong_50 ?_
      refine r_callV_i 53 (n := 2) [.int (I10 (q1) 4), .int (I10 (q1) 2)] [.int (r11)] hC hk0 rfl dX1_delayAlong_53 (by decide) (by decide) tw_708 tw_130 ⟨by decide, by decide, by decide +kernel⟩ tw_1006 tw_707 tw_32 rfl rfl (sX1_delayBetween (l := pm_l X) hG (q0) (I10 (q1) 4) (I10 (q1) 2) _ _ hk0 h) hab (Nat.le_of_ble_eq_true rfl) ?_
      clear h; intro r13 I12 h
      refine r_iadd 56 hC dX1_delayAlong_56 ?_
      exact r_iret 57 hC hE rfl dX1_delayAlong_57 ⟨_, rfl, h⟩
    · replace h := h.2 hc
      refine r_iconst 30 (v := 0) hC dX1_delayAlong_30 (by decide) ?_
      exact r_iret 31 hC hE rfl dX1_delayAlong_31 ⟨_, rfl, h⟩
  · replace h := h.2 hc
    refine r_aload_n 9 hC dX1_delayAlong_9 rfl rfl ?_
    refine r_aload_n 10 hC dX1_delayAlong_10 rfl rfl ?_
    refine r_getIN4 11 (x := I (q1) 1) hC hk1 1 (by decide) tw_259 rfl rfl dX1_delayAlong_11 ?_
    refine r_aload_n 14 hC dX1_delayAlong_14 rfl rfl ?_
    refine r_getIN4 15 (x := I (q1) 2) hC hk1 2 (by decide) tw_262 rfl rfl dX1_delayAlong_15 ?_
    refine r_callV_i 18 (n := 2) [.int (I (q1) 1), .int (I (q1) 2)] [] hC hk0 rfl dX1_delayAlong_18 (by decide) (by decide) tw_708 tw_130 ⟨by decide, by decide, by decide +kernel⟩ tw_1006 tw_707 tw_32 rfl rfl (sX1_delayBetween (l := pm_l X) hG (q0) (I (q1) 1) (I (q1) 2) _ _ hk0 h) hab (Nat.le_of_ble_eq_true rfl) ?_
    clear h; intro r15 I14 h
    exact r_iret 21 hC hE rfl dX1_delayAlong_21 ⟨_, rfl, h⟩

def wX1_zonesCrossed (G : pm_G) (q0 : Nat) (x1 : Int32) (x2 : Int32) (x3 : Int32) (I : pm_I) (K : Int32 → pm_I → Prop) : Prop :=
  vp_in (x2) 8 ∧ (vp_in (x1) 8 ∧ (((I (q0 + 2) (x2).toNatClampNeg) = (I (q0 + 2) (x1).toNatClampNeg) → (vp_in (x3) 8 ∧ (vp_in (x1) 8 ∧ (((I (q0 + 2) (x3).toNatClampNeg) = (I (q0 + 2) (x1).toNatClampNeg) → (K (0) I)) ∧ (¬ (I (q0 + 2) (x3).toNatClampNeg) = (I (q0 + 2) (x1).toNatClampNeg) → (K (0 + 1) I)))))) ∧ (¬ (I (q0 + 2) (x2).toNatClampNeg) = (I (q0 + 2) (x1).toNatClampNeg) → (vp_in (x3) 8 ∧ (vp_in (x1) 8 ∧ (((I (q0 + 2) (x3).toNatClampNeg) = (I (q0 + 2) (x1).toNatClampNeg) → (K (1) I)) ∧ (¬ (I (q0 + 2) (x3).toNatClampNeg) = (I (q0 + 2) (x1).toNatClampNeg) → (K (1 + 1) I))))))))

set_option maxRecDepth 20000 in
theorem sX1_zonesCrossed {G : pm_G} {l : Launch} (hG : pm_ok G) (q0 : Nat) (x1 : Int32) (x2 : Int32) (x3 : Int32) (I : pm_I) (K : Int32 → pm_I → Prop) (hk0 : pm_k G q0 (.inl 1)) (h : wX1_zonesCrossed G q0 x1 x2 x3 I K) : pm_Ct G l yX1_zonesCrossed cX1_zonesCrossed 5 (some .int) { frames := 1, cells := 0, slots := 0, locals := 64 } [.ref (q0), .int (x1), .int (x2), .int (x3)] I (pm_Ki K) := by
  unfold wX1_zonesCrossed at h
  refine pm_enter (by decide +kernel) hG rfl (Nat.le_of_ble_eq_true rfl) rfl (fun X hl hC hE => ?_)
  subst hl
  have hab : 0 ≤ 0 ∧ 0 ≤ 0 := ⟨Nat.le_refl 0, Nat.le_refl 0⟩
  have hC : pm_C G X cX1_zonesCrossed 5 RX1 (some .int) { frames := 1, cells := 0, slots := 0, locals := 64 } := hC
  refine r_aload_n 0 hC dX1_zonesCrossed_0 rfl rfl ?_
  refine r_getR1 1 (r1 := q0 + 2) hC hk0 2 (by decide) tw_207 rfl rfl dX1_zonesCrossed_1 ?_
  refine r_iload_n 4 hC dX1_zonesCrossed_4 rfl rfl ?_
  refine r_iald 5 hC ((pm_s1 hG hk0).2.1) h.1 dX1_zonesCrossed_5 ?_
  replace h := h.2
  refine r_aload_n 6 hC dX1_zonesCrossed_6 rfl rfl ?_
  refine r_getR1 7 (r1 := q0 + 2) hC hk0 2 (by decide) tw_207 rfl rfl dX1_zonesCrossed_7 ?_
  refine r_iload_n 10 hC dX1_zonesCrossed_10 rfl rfl ?_
  refine r_iald 11 hC ((pm_s1 hG hk0).2.1) h.1 dX1_zonesCrossed_11 ?_
  replace h := h.2
  refine r_icmp_eq 12 19 hC dX1_zonesCrossed_12 (by decide) (fun hc => ?_) (fun hc => ?_)
  · replace h := h.1 hc
    refine r_iconst 19 (v := 0) hC dX1_zonesCrossed_19 (by decide) ?_
    refine r_istore 20 [some (.ref (q0)), some (.int (x1)), some (.int (x2)), some (.int (x3)), some (.int (0))] hC dX1_zonesCrossed_20 (by decide) rfl ?_
    refine r_aload_n 22 hC dX1_zonesCrossed_22 rfl rfl ?_
    refine r_getR1 23 (r1 := q0 + 2) hC hk0 2 (by decide) tw_207 rfl rfl dX1_zonesCrossed_23 ?_
    refine r_iload_n 26 hC dX1_zonesCrossed_26 rfl rfl ?_
    refine r_iald 27 hC ((pm_s1 hG hk0).2.1) h.1 dX1_zonesCrossed_27 ?_
    replace h := h.2
    refine r_aload_n 28 hC dX1_zonesCrossed_28 rfl rfl ?_
    refine r_getR1 29 (r1 := q0 + 2) hC hk0 2 (by decide) tw_207 rfl rfl dX1_zonesCrossed_29 ?_
    refine r_iload_n 32 hC dX1_zonesCrossed_32 rfl rfl ?_
    refine r_iald 33 hC ((pm_s1 hG hk0).2.1) h.1 dX1_zonesCrossed_33 ?_
    replace h := h.2
    refine r_icmp_eq 34 44 hC dX1_zonesCrossed_34 (by decide) (fun hc => ?_) (fun hc => ?_)
    · replace h := h.1 hc
      refine r_iload 44 hC dX1_zonesCrossed_44 rfl ?_
      exact r_iret 46 hC hE rfl dX1_zonesCrossed_46 ⟨_, rfl, h⟩
    · replace h := h.2 hc
      refine r_iload 37 hC dX1_zonesCrossed_37 rfl ?_
      refine r_iconst 39 (v := 1) hC dX1_zonesCrossed_39 (by decide) ?_
      refine r_iadd 40 hC dX1_zonesCrossed_40 ?_
      refine r_goto 41 46 hC dX1_zonesCrossed_41 (by decide) ?_
      exact r_iret 46 hC hE rfl dX1_zonesCrossed_46 ⟨_, rfl, h⟩
  · replace h := h.2 hc
    refine r_iconst 15 (v := 1) hC dX1_zonesCrossed_15 (by decide) ?_
    refine r_goto 16 20 hC dX1_zonesCrossed_16 (by decide) ?_
    refine r_istore 20 [some (.ref (q0)), some (.int (x1)), some (.int (x2)), some (.int (x3)), some (.int (1))] hC dX1_zonesCrossed_20 (by decide) rfl ?_
    refine r_aload_n 22 hC dX1_zonesCrossed_22 rfl rfl ?_
    refine r_getR1 23 (r1 := q0 + 2) hC hk0 2 (by decide) tw_207 rfl rfl dX1_zonesCrossed_23 ?_
    refine r_iload_n 26 hC dX1_zonesCrossed_26 rfl rfl ?_
    refine r_iald 27 hC ((pm_s1 hG hk0).2.1) h.1 dX1_zonesCrossed_27 ?_
    replace h := h.2
    refine r_aload_n 28 hC dX1_zonesCrossed_28 rfl rfl ?_
    refine r_getR1 29 (r1 := q0 + 2) hC hk0 2 (by decide) tw_207 rfl rfl dX1_zonesCrossed_29 ?_
    refine r_iload_n 32 hC dX1_zonesCrossed_32 rfl rfl ?_
    refine r_iald 33 hC ((pm_s1 hG hk0).2.1) h.1 dX1_zonesCrossed_33 ?_
    replace h := h.2
    refine r_icmp_eq 34 44 hC dX1_zonesCrossed_34 (by decide) (fun hc => ?_) (fun hc => ?_)
    · replace h := h.1 hc
      refine r_iload 44 hC dX1_zonesCrossed_44 rfl ?_
      exact r_iret 46 hC hE rfl dX1_zonesCrossed_46 ⟨_, rfl, h⟩
    · replace h := h.2 hc
      refine r_iload 37 hC dX1_zonesCrossed_37 rfl ?_
      refine r_iconst 39 (v := 1) hC dX1_zonesCrossed_39 (by decide) ?_
      refine r_iadd 40 hC dX1_zonesCrossed_40 ?_
      refine r_goto 41 46 hC dX1_zonesCrossed_41 (by decide) ?_
      exact r_iret 46 hC hE rfl dX1_zonesCrossed_46 ⟨_, rfl, h⟩

def wX3_combine (G : pm_G) (q0 : Nat) (x1 : Int32) (I : pm_I) (K : pm_I → Prop) : Prop :=
  (2 ≤ (I q0 3) → (vp_in ((I q0 3) - 1) 16 ∧ (vp_in ((I q0 3) - 2) 16 ∧ (∀ I10 : pm_I, I10 = pm_up I (q0) 3 ((I q0 3) - 1) → (((x1) = (-6) → (vp_in ((I10 q0 3) - 1) 16 ∧ (∀ I11 : pm_I, I11 = pm_up I10 (q0 + 2) (((I10 q0 3) - 1).toNatClampNeg) ((I (q0 + 2) ((I q0 3) - 2).toNatClampNeg) + (I (q0 + 2) ((I q0 3) - 1).toNatClampNeg)) → K I11))) ∧ ((x1) = (-7) → (vp_in ((I10 q0 3) - 1) 16 ∧ (∀ I12 : pm_I, I12 = pm_up I10 (q0 + 2) (((I10 q0 3) - 1).toNatClampNeg) ((I (q0 + 2) ((I q0 3) - 2).toNatClampNeg) - (I (q0 + 2) ((I q0 3) - 1).toNatClampNeg)) → K I12))) ∧ ((x1) = (-8) → (vp_in ((I10 q0 3) - 1) 16 ∧ (∀ I13 : pm_I, I13 = pm_up I10 (q0 + 2) (((I10 q0 3) - 1).toNatClampNeg) ((I (q0 + 2) ((I q0 3) - 2).toNatClampNeg) * (I (q0 + 2) ((I q0 3) - 1).toNatClampNeg)) → K I13))) ∧ (¬ ((x1) = (-6)) ∧ ¬ ((x1) = (-7)) ∧ ¬ ((x1) = (-8)) → ((¬ (I (q0 + 2) ((I q0 3) - 1).toNatClampNeg) = 0 → ((¬ (I (q0 + 2) ((I q0 3) - 1).toNatClampNeg) = 0) ∧ (vp_in ((I10 q0 3) - 1) 16 ∧ (∀ I14 : pm_I, I14 = pm_up I10 (q0 + 2) (((I10 q0 3) - 1).toNatClampNeg) ((I (q0 + 2) ((I q0 3) - 2).toNatClampNeg) / (I (q0 + 2) ((I q0 3) - 1).toNatClampNeg)) → K I14)))) ∧ ((I (q0 + 2) ((I q0 3) - 1).toNatClampNeg) = 0 → (vp_in ((I10 q0 3) - 1) 16 ∧ (∀ I15 : pm_I, I15 = pm_up I10 (q0 + 2) (((I10 q0 3) - 1).toNatClampNeg) (0) → K I15)))))))))) ∧ (¬ 2 ≤ (I q0 3) → K I)

set_option maxRecDepth 20000 in
theorem sX3_combine {G : pm_G} {l : Launch} (hG : pm_ok G) (q0 : Nat) (x1 : Int32) (I : pm_I) (K : pm_I → Prop) (hk0 : pm_k G q0 (.inl 3)) (h : wX3_combine G q0 x1 I K) : pm_Ct G l yX3_combine cX3_combine 5 none { frames := 1, cells := 0, slots := 0, locals := 64 } [.ref (q0), .int (x1)] I (pm_Kv K) := by
  unfold wX3_combine at h
  refine pm_enter (by decide +kernel) hG rfl (Nat.le_of_ble_eq_true rfl) rfl (fun X hl hC hE => ?_)
  subst hl
  have hab : 0 ≤ 0 ∧ 0 ≤ 0 := ⟨Nat.le_refl 0, Nat.le_refl 0⟩
  have hC : pm_C G X cX3_combine 5 RX3 none { frames := 1, cells := 0, slots := 0, locals := 64 } := hC
  refine r_aload_n 0 hC dX3_combine_0 rfl rfl ?_
  refine r_getI3 1 (x := I (q0) 3) hC hk0 3 (by decide) tw_173 rfl rfl dX3_combine_1 ?_
  refine r_iconst 4 (v := 2) hC dX3_combine_4 (by decide) ?_
  refine r_icmp_ge 5 9 hC dX3_combine_5 (by decide) (fun hc => ?_) (fun hc => ?_)
  · replace h := h.1 hc
    refine r_aload_n 9 hC dX3_combine_9 rfl rfl ?_
    refine r_getR3 10 (r1 := q0 + 2) hC hk0 2 (by decide) tw_172 rfl rfl dX3_combine_10 ?_
    refine r_aload_n 13 hC dX3_combine_13 rfl rfl ?_
    refine r_getI3 14 (x := I (q0) 3) hC hk0 3 (by decide) tw_173 rfl rfl dX3_combine_14 ?_
    refine r_iconst 17 (v := 1) hC dX3_combine_17 (by decide) ?_
    refine r_isub 18 hC dX3_combine_18 ?_
    refine r_iald 19 hC ((pm_s3 hG hk0).2) h.1 dX3_combine_19 ?_
    replace h := h.2
    refine r_istore_n 20 [some (.ref (q0)), some (.int (x1)), some (.int (I (q0 + 2) ((I q0 3) - 1).toNatClampNeg)), none, none] hC dX3_combine_20 rfl (by decide) rfl ?_
    refine r_aload_n 21 hC dX3_combine_21 rfl rfl ?_
    refine r_getR3 22 (r1 := q0 + 2) hC hk0 2 (by decide) tw_172 rfl rfl dX3_combine_22 ?_
    refine r_aload_n 25 hC dX3_combine_25 rfl rfl ?_
    refine r_getI3 26 (x := I (q0) 3) hC hk0 3 (by decide) tw_173 rfl rfl dX3_combine_26 ?_
    refine r_iconst 29 (v := 2) hC dX3_combine_29 (by decide) ?_
    refine r_isub 30 hC dX3_combine_30 ?_
    refine r_iald 31 hC ((pm_s3 hG hk0).2) h.1 dX3_combine_31 ?_
    replace h := h.2
    refine r_istore_n 32 [some (.ref (q0)), some (.int (x1)), some (.int (I (q0 + 2) ((I q0 3) - 1).toNatClampNeg)), some (.int (I (q0 + 2) ((I q0 3) - 2).toNatClampNeg)), none] hC dX3_combine_32 rfl (by decide) rfl ?_
    refine r_aload_n 33 hC dX3_combine_33 rfl rfl ?_
    refine r_dup 34 hC dX3_combine_34 rfl ?_
    refine r_getI3 35 (x := I (q0) 3) hC hk0 3 (by decide) tw_173 rfl rfl dX3_combine_35 ?_
    refine r_iconst 38 (v := 1) hC dX3_combine_38 (by decide) ?_
    refine r_isub 39 hC dX3_combine_39 ?_
    refine r_putI3 40 hC hk0 3 (by decide) tw_173 rfl rfl (by decide +kernel) ps_3_3 dX3_combine_40 (fun I10 hI => ?_)
    replace h := h I10 hI; clear hI
    refine r_iload_n 43 hC dX3_combine_43 rfl rfl ?_
    by_cases hs0 : (x1) = (-6)
    · replace h := h.1 hs0
      refine r_tabIn 44 72 (off := 28) hC dX3_combine_44 (by rw [hs0]; decide) (by rw [hs0]; decide) (by rw [hs0]; decide) (by decide) ?_
      refine r_iload_n 72 hC dX3_combine_72 rfl rfl ?_
      refine r_iload_n 73 hC dX3_combine_73 rfl rfl ?_
      refine r_iadd 74 hC dX3_combine_74 ?_
      refine r_istore 75 [some (.ref (q0)), some (.int (x1)), some (.int (I (q0 + 2) ((I q0 3) - 1).toNatClampNeg)), some (.int (I (q0 + 2) ((I q0 3) - 2).toNatClampNeg)), some (.int ((I (q0 + 2) ((I q0 3) - 2).toNatClampNeg) + (I (q0 + 2) ((I q0 3) - 1).toNatClampNeg)))] hC dX3_combine_75 (by decide) rfl ?_
      refine r_goto 77 109 hC dX3_combine_77 (by decide) ?_
      refine r_aload_n 109 hC dX3_combine_109 rfl rfl ?_
      refine r_getR3 110 (r1 := q0 + 2) hC hk0 2 (by decide) tw_172 rfl rfl dX3_combine_110 ?_
      refine r_aload_n 113 hC dX3_combine_113 rfl rfl ?_
      refine r_getI3 114 (x := I10 (q0) 3) hC hk0 3 (by decide) tw_173 rfl rfl dX3_combine_114 ?_
      refine r_iconst 117 (v := 1) hC dX3_combine_117 (by decide) ?_
      refine r_isub 118 hC dX3_combine_118 ?_
      refine r_iload 119 hC dX3_combine_119 rfl ?_
      refine r_iast 121 hC ((pm_s3 hG hk0).2) h.1 dX3_combine_121 (fun I11 hI => ?_)
      replace h := h.2
      replace h := h I11 hI; clear hI
      exact r_vret 122 hC hE dX3_combine_122 ⟨rfl, h⟩
    by_cases hs1 : (x1) = (-7)
    · replace h := h.2.1 hs1
      refine r_tabIn 44 80 (off := 36) hC dX3_combine_44 (by rw [hs1]; decide) (by rw [hs1]; decide) (by rw [hs1]; decide) (by decide) ?_
      refine r_iload_n 80 hC dX3_combine_80 rfl rfl ?_
      refine r_iload_n 81 hC dX3_combine_81 rfl rfl ?_
      refine r_isub 82 hC dX3_combine_82 ?_
      refine r_istore 83 [some (.ref (q0)), some (.int (x1)), some (.int (I (q0 + 2) ((I q0 3) - 1).toNatClampNeg)), some (.int (I (q0 + 2) ((I q0 3) - 2).toNatClampNeg)), some (.int ((I (q0 + 2) ((I q0 3) - 2).toNatClampNeg) - (I (q0 + 2) ((I q0 3) - 1).toNatClampNeg)))] hC dX3_combine_83 (by decide) rfl ?_
      refine r_goto 85 109 hC dX3_combine_85 (by decide) ?_
      refine r_aload_n 109 hC dX3_combine_109 rfl rfl ?_
      refine r_getR3 110 (r1 := q0 + 2) hC hk0 2 (by decide) tw_172 rfl rfl dX3_combine_110 ?_
      refine r_aload_n 113 hC dX3_combine_113 rfl rfl ?_
      refine r_getI3 114 (x := I10 (q0) 3) hC hk0 3 (by decide) tw_173 rfl rfl dX3_combine_114 ?_
      refine r_iconst 117 (v := 1) hC dX3_combine_117 (by decide) ?_
      refine r_isub 118 hC dX3_combine_118 ?_
      refine r_iload 119 hC dX3_combine_119 rfl ?_
      refine r_iast 121 hC ((pm_s3 hG hk0).2) h.1 dX3_combine_121 (fun I12 hI => ?_)
      replace h := h.2
      replace h := h I12 hI; clear hI
      exact r_vret 122 hC hE dX3_combine_122 ⟨rfl, h⟩
    by_cases hs2 : (x1) = (-8)
    · replace h := h.2.2.1 hs2
      refine r_tabIn 44 88 (off := 44) hC dX3_combine_44 (by rw [hs2]; decide) (by rw [hs2]; decide) (by rw [hs2]; decide) (by decide) ?_
      refine r_iload_n 88 hC dX3_combine_88 rfl rfl ?_
      refine r_iload_n 89 hC dX3_combine_89 rfl rfl ?_
      refine r_imul 90 hC dX3_combine_90 ?_
      refine r_istore 91 [some (.ref (q0)), some (.int (x1)), some (.int (I (q0 + 2) ((I q0 3) - 1).toNatClampNeg)), some (.int (I (q0 + 2) ((I q0 3) - 2).toNatClampNeg)), some (.int ((I (q0 + 2) ((I q0 3) - 2).toNatClampNeg) * (I (q0 + 2) ((I q0 3) - 1).toNatClampNeg)))] hC dX3_combine_91 (by decide) rfl ?_
      refine r_goto 93 109 hC dX3_combine_93 (by decide) ?_
      refine r_aload_n 109 hC dX3_combine_109 rfl rfl ?_
      refine r_getR3 110 (r1 := q0 + 2) hC hk0 2 (by decide) tw_172 rfl rfl dX3_combine_110 ?_
      refine r_aload_n 113 hC dX3_combine_113 rfl rfl ?_
      refine r_getI3 114 (x := I10 (q0) 3) hC hk0 3 (by decide) tw_173 rfl rfl dX3_combine_114 ?_
      refine r_iconst 117 (v := 1) hC dX3_combine_117 (by decide) ?_
      refine r_isub 118 hC dX3_combine_118 ?_
      refine r_iload 119 hC dX3_combine_119 rfl ?_
      refine r_iast 121 hC ((pm_s3 hG hk0).2) h.1 dX3_combine_121 (fun I13 hI => ?_)
      replace h := h.2
      replace h := h I13 hI; clear hI
      exact r_vret 122 hC hE dX3_combine_122 ⟨rfl, h⟩
    replace h := h.2.2.2 ⟨hs0, hs1, hs2⟩
    have hst : pm_R G X 5 0 0 96 [some (.ref (q0)), some (.int (x1)), some (.int (I (q0 + 2) ((I q0 3) - 1).toNatClampNeg)), some (.int (I (q0 + 2) ((I q0 3) - 2).toNatClampNeg)), none] [] I10 := by
      refine r_iload_n 96 hC dX3_combine_96 rfl rfl ?_
      refine r_if_ne 97 104 hC dX3_combine_97 (by decide) (fun hc => ?_) (fun hc => ?_)
      · replace h := h.1 hc
        refine r_iload_n 104 hC dX3_combine_104 rfl rfl ?_
        refine r_iload_n 105 hC dX3_combine_105 rfl rfl ?_
        refine r_idiv 106 hC dX3_combine_106 h.1 ?_
        replace h := h.2
        refine r_istore 107 [some (.ref (q0)), some (.int (x1)), some (.int (I (q0 + 2) ((I q0 3) - 1).toNatClampNeg)), some (.int (I (q0 + 2) ((I q0 3) - 2).toNatClampNeg)), some (.int ((I (q0 + 2) ((I q0 3) - 2).toNatClampNeg) / (I (q0 + 2) ((I q0 3) - 1).toNatClampNeg)))] hC dX3_combine_107 (by decide) rfl ?_
        refine r_aload_n 109 hC dX3_combine_109 rfl rfl ?_
        refine r_getR3 110 (r1 := q0 + 2) hC hk0 2 (by decide) tw_172 rfl rfl dX3_combine_110 ?_
        refine r_aload_n 113 hC dX3_combine_113 rfl rfl ?_
        refine r_getI3 114 (x := I10 (q0) 3) hC hk0 3 (by decide) tw_173 rfl rfl dX3_combine_114 ?_
        refine r_iconst 117 (v := 1) hC dX3_combine_117 (by decide) ?_
        refine r_isub 118 hC dX3_combine_118 ?_
        refine r_iload 119 hC dX3_combine_119 rfl ?_
        refine r_iast 121 hC ((pm_s3 hG hk0).2) h.1 dX3_combine_121 (fun I14 hI => ?_)
        replace h := h.2
        replace h := h I14 hI; clear hI
        exact r_vret 122 hC hE dX3_combine_122 ⟨rfl, h⟩
      · replace h := h.2 hc
        refine r_iconst 100 (v := 0) hC dX3_combine_100 (by decide) ?_
        refine r_goto 101 107 hC dX3_combine_101 (by decide) ?_
        refine r_istore 107 [some (.ref (q0)), some (.int (x1)), some (.int (I (q0 + 2) ((I q0 3) - 1).toNatClampNeg)), some (.int (I (q0 + 2) ((I q0 3) - 2).toNatClampNeg)), some (.int (0))] hC dX3_combine_107 (by decide) rfl ?_
        refine r_aload_n 109 hC dX3_combine_109 rfl rfl ?_
        refine r_getR3 110 (r1 := q0 + 2) hC hk0 2 (by decide) tw_172 rfl rfl dX3_combine_110 ?_
        refine r_aload_n 113 hC dX3_combine_113 rfl rfl ?_
        refine r_getI3 114 (x := I10 (q0) 3) hC hk0 3 (by decide) tw_173 rfl rfl dX3_combine_114 ?_
        refine r_iconst 117 (v := 1) hC dX3_combine_117 (by decide) ?_
        refine r_isub 118 hC dX3_combine_118 ?_
        refine r_iload 119 hC dX3_combine_119 rfl ?_
        refine r_iast 121 hC ((pm_s3 hG hk0).2) h.1 dX3_combine_121 (fun I15 hI => ?_)
        replace h := h.2
        replace h := h I15 hI; clear hI
        exact r_vret 122 hC hE dX3_combine_122 ⟨rfl, h⟩
    by_cases hlo : (x1).toInt < -8
    · exact r_tabOut 44 96 hC dX3_combine_44 (Or.inl hlo) (by decide) hst
    by_cases hhi : -6 < (x1).toInt
    · exact r_tabOut 44 96 hC dX3_combine_44 (Or.inr hhi) (by decide) hst
    have hal : (x1).toInt = -8 ∨ (x1).toInt = -7 ∨ (x1).toInt = -6 := by
      omega
    rcases hal with hv | hv | hv
    · exact absurd (Int32.toInt_inj.mp (by rw [hv]; decide)) hs2
    · exact absurd (Int32.toInt_inj.mp (by rw [hv]; decide)) hs1
    · exact absurd (Int32.toInt_inj.mp (by rw [hv]; decide)) hs0
  · replace h := h.2 hc
    exact r_vret 8 hC hE dX3_combine_8 ⟨rfl, h⟩

def wX3_hold (G : pm_G) (q0 : Nat) (x1 : Int32) (I : pm_I) (K : pm_I → Prop) : Prop :=
  (16 ≤ (I q0 3) → K I) ∧ (¬ 16 ≤ (I q0 3) → (vp_in (I (q0) 3) 16 ∧ (∀ I10 : pm_I, I10 = pm_up I (q0 + 2) ((I (q0) 3).toNatClampNeg) (x1) → (∀ I11 : pm_I, I11 = pm_up I10 (q0) 3 ((I10 q0 3) + 1) → K I11))))

set_option maxRecDepth 20000 in
theorem sX3_hold {G : pm_G} {l : Launch} (hG : pm_ok G) (q0 : Nat) (x1 : Int32) (I : pm_I) (K : pm_I → Prop) (hk0 : pm_k G q0 (.inl 3)) (h : wX3_hold G q0 x1 I K) : pm_Ct G l yX3_hold cX3_hold 2 none { frames := 1, cells := 0, slots := 0, locals := 64 } [.ref (q0), .int (x1)] I (pm_Kv K) := by
  unfold wX3_hold at h
  refine pm_enter (by decide +kernel) hG rfl (Nat.le_of_ble_eq_true rfl) rfl (fun X hl hC hE => ?_)
  subst hl
  have hab : 0 ≤ 0 ∧ 0 ≤ 0 := ⟨Nat.le_refl 0, Nat.le_refl 0⟩
  have hC : pm_C G X cX3_hold 2 RX3 none { frames := 1, cells := 0, slots := 0, locals := 64 } := hC
  refine r_aload_n 0 hC dX3_hold_0 rfl rfl ?_
  refine r_getI3 1 (x := I (q0) 3) hC hk0 3 (by decide) tw_173 rfl rfl dX3_hold_1 ?_
  refine r_bipush 4 (v := 16) hC dX3_hold_4 (by decide) ?_
  refine r_icmp_ge 6 29 hC dX3_hold_6 (by decide) (fun hc => ?_) (fun hc => ?_)
  · replace h := h.1 hc
    exact r_vret 29 hC hE dX3_hold_29 ⟨rfl, h⟩
  · replace h := h.2 hc
    refine r_aload_n 9 hC dX3_hold_9 rfl rfl ?_
    refine r_getR3 10 (r1 := q0 + 2) hC hk0 2 (by decide) tw_172 rfl rfl dX3_hold_10 ?_
    refine r_aload_n 13 hC dX3_hold_13 rfl rfl ?_
    refine r_getI3 14 (x := I (q0) 3) hC hk0 3 (by decide) tw_173 rfl rfl dX3_hold_14 ?_
    refine r_iload_n 17 hC dX3_hold_17 rfl rfl ?_
    refine r_iast 18 hC ((pm_s3 hG hk0).2) h.1 dX3_hold_18 (fun I10 hI => ?_)
    replace h := h.2
    replace h := h I10 hI; clear hI
    refine r_aload_n 19 hC dX3_hold_19 rfl rfl ?_
    refine r_dup 20 hC dX3_hold_20 rfl ?_
    refine r_getI3 21 (x := I10 (q0) 3) hC hk0 3 (by decide) tw_173 rfl rfl dX3_hold_21 ?_
    refine r_iconst 24 (v := 1) hC dX3_hold_24 (by decide) ?_
    refine r_iadd 25 hC dX3_hold_25 ?_
    refine r_putI3 26 hC hk0 3 (by decide) tw_173 rfl rfl (by decide +kernel) ps_3_3 dX3_hold_26 (fun I11 hI => ?_)
    replace h := h I11 hI; clear hI
    exact r_vret 29 hC hE dX3_hold_29 ⟨rfl, h⟩

def wX3_worth (G : pm_G) (q0 : Nat) (x1 : Int32) (x2 : Int32) (x3 : Int32) (x4 : Int32) (x5 : Int32) (I : pm_I) (K : Int32 → pm_I → Prop) : Prop :=
  ∀ I10 : pm_I, I10 = pm_up I (q0) 3 (0) → (pm_lp2 (fun (P11 : Int32 → pm_I → Prop) (x13 : Int32) (I12 : pm_I) => ((I12 q0 1) ≤ x13 → (((I12 q0 3) ≤ 0 → (K (0) I12)) ∧ (¬ (I12 q0 3) ≤ 0 → (vp_in ((I12 q0 3) - 1) 16 ∧ (K (I12 (q0 + 2) ((I12 q0 3) - 1).toNatClampNeg) I12))))) ∧ (¬ (I12 q0 1) ≤ x13 → (vp_in (x13) 600 ∧ (((I12 (q0 + 1) (x13).toNatClampNeg) = (-1) → (wX3_hold G (q0) (x1) I12 (fun I14 => P11 (x13 + 1) I14))) ∧ ((I12 (q0 + 1) (x13).toNatClampNeg) = (-2) → (wX3_hold G (q0) (x2) I12 (fun I15 => P11 (x13 + 1) I15))) ∧ ((I12 (q0 + 1) (x13).toNatClampNeg) = (-3) → (wX3_hold G (q0) (x3) I12 (fun I16 => P11 (x13 + 1) I16))) ∧ ((I12 (q0 + 1) (x13).toNatClampNeg) = (-4) → (wX3_hold G (q0) (x4) I12 (fun I17 => P11 (x13 + 1) I17))) ∧ ((I12 (q0 + 1) (x13).toNatClampNeg) = (-5) → (wX3_hold G (q0) (x5) I12 (fun I18 => P11 (x13 + 1) I18))) ∧ ((I12 (q0 + 1) (x13).toNatClampNeg) = (-9) ∨ (I12 (q0 + 1) (x13).toNatClampNeg) = (-8) ∨ (I12 (q0 + 1) (x13).toNatClampNeg) = (-7) ∨ (I12 (q0 + 1) (x13).toNatClampNeg) = (-6) → (vp_in (x13) 600 ∧ (wX3_combine G (q0) (I12 (q0 + 1) (x13).toNatClampNeg) I12 (fun I19 => P11 (x13 + 1) I19)))) ∧ (¬ ((I12 (q0 + 1) (x13).toNatClampNeg) = (-1)) ∧ ¬ ((I12 (q0 + 1) (x13).toNatClampNeg) = (-2)) ∧ ¬ ((I12 (q0 + 1) (x13).toNatClampNeg) = (-3)) ∧ ¬ ((I12 (q0 + 1) (x13).toNatClampNeg) = (-4)) ∧ ¬ ((I12 (q0 + 1) (x13).toNatClampNeg) = (-5)) ∧ ¬ ((I12 (q0 + 1) (x13).toNatClampNeg) = (-9) ∨ (I12 (q0 + 1) (x13).toNatClampNeg) = (-8) ∨ (I12 (q0 + 1) (x13).toNatClampNeg) = (-7) ∨ (I12 (q0 + 1) (x13).toNatClampNeg) = (-6)) → (vp_in (x13) 600 ∧ (wX3_hold G (q0) (I12 (q0 + 1) (x13).toNatClampNeg) I12 (fun I20 => P11 (x13 + 1) I20)))))))) (0) I10)

set_option maxRecDepth 20000 in
theorem sX3_worth {G : pm_G} {l : Launch} (hG : pm_ok G) (q0 : Nat) (x1 : Int32) (x2 : Int32) (x3 : Int32) (x4 : Int32) (x5 : Int32) (I : pm_I) (K : Int32 → pm_I → Prop) (hk0 : pm_k G q0 (.inl 3)) (h : wX3_worth G q0 x1 x2 x3 x4 x5 I K) : pm_Ct G l yX3_worth cX3_worth 7 (some .int) { frames := 2, cells := 0, slots := 0, locals := 152 } [.ref (q0), .int (x1), .int (x2), .int (x3), .int (x4), .int (x5)] I (pm_Ki K) := by
  unfold wX3_worth at h
  refine pm_enter (by decide +kernel) hG rfl (Nat.le_of_ble_eq_true rfl) rfl (fun X hl hC hE => ?_)
  subst hl
  have hab : 0 ≤ 0 ∧ 0 ≤ 0 := ⟨Nat.le_refl 0, Nat.le_refl 0⟩
  have hC : pm_C G X cX3_worth 7 RX3 (some .int) { frames := 2, cells := 0, slots := 0, locals := 152 } := hC
  refine r_aload_n 0 hC dX3_worth_0 rfl rfl ?_
  refine r_iconst 1 (v := 0) hC dX3_worth_1 (by decide) ?_
  refine r_putI3 2 hC hk0 3 (by decide) tw_173 rfl rfl (by decide +kernel) ps_3_3 dX3_worth_2 (fun I10 hI => ?_)
  replace h := h I10 hI; clear hI
  refine r_iconst 5 (v := 0) hC dX3_worth_5 (by decide) ?_
  refine r_istore 6 [some (.ref (q0)), some (.int (x1)), some (.int (x2)), some (.int (x3)), some (.int (x4)), some (.int (x5)), some (.int (0))] hC dX3_worth_6 (by decide) rfl ?_
  refine h (fun x13 I12 => pm_R G X 7 0 0 8 [some (.ref (q0)), some (.int (x1)), some (.int (x2)), some (.int (x3)), some (.int (x4)), some (.int (x5)), some (.int (x13))] [] I12) ?_
  clear h; intro x13 I12 h
  refine r_iload 8 hC dX3_worth_8 rfl ?_
  refine r_aload_n 10 hC dX3_worth_10 rfl rfl ?_
  refine r_getI3 11 (x := I12 (q0) 1) hC hk0 1 (by decide) tw_171 rfl rfl dX3_worth_11 ?_
  refine r_icmp_ge 14 149 hC dX3_worth_14 (by decide) (fun hc => ?_) (fun hc => ?_)
  · replace h := h.1 hc
    refine r_aload_n 149 hC dX3_worth_149 rfl rfl ?_
    refine r_getI3 150 (x := I12 (q0) 3) hC hk0 3 (by decide) tw_173 rfl rfl dX3_worth_150 ?_
    refine r_if_le 153 170 hC dX3_worth_153 (by decide) (fun hc => ?_) (fun hc => ?_)
    · replace h := h.1 hc
      refine r_iconst 170 (v := 0) hC dX3_worth_170 (by decide) ?_
      exact r_iret 171 hC hE rfl dX3_worth_171 ⟨_, rfl, h⟩
    · replace h := h.2 hc
      refine r_aload_n 156 hC dX3_worth_156 rfl rfl ?_
      refine r_getR3 157 (r1 := q0 + 2) hC hk0 2 (by decide) tw_172 rfl rfl dX3_worth_157 ?_
      refine r_aload_n 160 hC dX3_worth_160 rfl rfl ?_
      refine r_getI3 161 (x := I12 (q0) 3) hC hk0 3 (by decide) tw_173 rfl rfl dX3_worth_161 ?_
      refine r_iconst 164 (v := 1) hC dX3_worth_164 (by decide) ?_
      refine r_isub 165 hC dX3_worth_165 ?_
      refine r_iald 166 hC ((pm_s3 hG hk0).2) h.1 dX3_worth_166 ?_
      replace h := h.2
      refine r_goto 167 171 hC dX3_worth_167 (by decide) ?_
      exact r_iret 171 hC hE rfl dX3_worth_171 ⟨_, rfl, h⟩
  · replace h := h.2 hc
    refine r_aload_n 17 hC dX3_worth_17 rfl rfl ?_
    refine r_getR3 18 (r1 := q0 + 1) hC hk0 0 (by decide) tw_170 rfl rfl dX3_worth_18 ?_
    refine r_iload 21 hC dX3_worth_21 rfl ?_
    refine r_iald 23 hC ((pm_s3 hG hk0).1) h.1 dX3_worth_23 ?_
    replace h := h.2
    by_cases hs0 : (I12 (q0 + 1) (x13).toNatClampNeg) = (-1)
    · replace h := h.1 hs0
      refine r_tabIn 24 76 (off := 52) hC dX3_worth_24 (by rw [hs0]; decide) (by rw [hs0]; decide) (by rw [hs0]; decide) (by decide) ?_
      refine r_aload_n 76 hC dX3_worth_76 rfl rfl ?_
      refine r_iload_n 77 hC dX3_worth_77 rfl rfl ?_
      refine r_callV_v 78 (n := 1) [.int (x1)] [] hC hk0 rfl dX3_worth_78 (by decide) (by decide) tw_832 tw_131 ⟨by decide, by decide, by decide +kernel⟩ tw_829 tw_831 tw_47 rfl rfl (sX3_hold (l := pm_l X) hG (q0) (x1) _ _ hk0 h) hab (Nat.le_of_ble_eq_true rfl) ?_
      clear h; intro I14 h
      refine r_goto 81 143 hC dX3_worth_81 (by decide) ?_
      refine r_iinc 143 (v := x13 + 1) [some (.ref (q0)), some (.int (x1)), some (.int (x2)), some (.int (x3)), some (.int (x4)), some (.int (x5)), some (.int (x13 + 1))] hC dX3_worth_143 rfl (by rfl) (by decide) rfl ?_
      refine r_goto 146 8 hC dX3_worth_146 (by decide) ?_
      exact h
    by_cases hs1 : (I12 (q0 + 1) (x13).toNatClampNeg) = (-2)
    · replace h := h.2.1 hs1
      refine r_tabIn 24 84 (off := 60) hC dX3_worth_24 (by rw [hs1]; decide) (by rw [hs1]; decide) (by rw [hs1]; decide) (by decide) ?_
      refine r_aload_n 84 hC dX3_worth_84 rfl rfl ?_
      refine r_iload_n 85 hC dX3_worth_85 rfl rfl ?_
      refine r_callV_v 86 (n := 1) [.int (x2)] [] hC hk0 rfl dX3_worth_86 (by decide) (by decide) tw_832 tw_131 ⟨by decide, by decide, by decide +kernel⟩ tw_829 tw_831 tw_47 rfl rfl (sX3_hold (l := pm_l X) hG (q0) (x2) _ _ hk0 h) hab (Nat.le_of_ble_eq_true rfl) ?_
      clear h; intro I15 h
      refine r_goto 89 143 hC dX3_worth_89 (by decide) ?_
      refine r_iinc 143 (v := x13 + 1) [some (.ref (q0)), some (.int (x1)), some (.int (x2)), some (.int (x3)), some (.int (x4)), some (.int (x5)), some (.int (x13 + 1))] hC dX3_worth_143 rfl (by rfl) (by decide) rfl ?_
      refine r_goto 146 8 hC dX3_worth_146 (by decide) ?_
      exact h
    by_cases hs2 : (I12 (q0 + 1) (x13).toNatClampNeg) = (-3)
    · replace h := h.2.2.1 hs2
      refine r_tabIn 24 92 (off := 68) hC dX3_worth_24 (by rw [hs2]; decide) (by rw [hs2]; decide) (by rw [hs2]; decide) (by decide) ?_
      refine r_aload_n 92 hC dX3_worth_92 rfl rfl ?_
      refine r_iload_n 93 hC dX3_worth_93 rfl rfl ?_
      refine r_callV_v 94 (n := 1) [.int (x3)] [] hC hk0 rfl dX3_worth_94 (by decide) (by decide) tw_832 tw_131 ⟨by decide, by decide, by decide +kernel⟩ tw_829 tw_831 tw_47 rfl rfl (sX3_hold (l := pm_l X) hG (q0) (x3) _ _ hk0 h) hab (Nat.le_of_ble_eq_true rfl) ?_
      clear h; intro I16 h
      refine r_goto 97 143 hC dX3_worth_97 (by decide) ?_
      refine r_iinc 143 (v := x13 + 1) [some (.ref (q0)), some (.int (x1)), some (.int (x2)), some (.int (x3)), some (.int (x4)), some (.int (x5)), some (.int (x13 + 1))] hC dX3_worth_143 rfl (by rfl) (by decide) rfl ?_
      refine r_goto 146 8 hC dX3_worth_146 (by decide) ?_
      exact h
    by_cases hs3 : (I12 (q0 + 1) (x13).toNatClampNeg) = (-4)
    · replace h := h.2.2.2.1 hs3
      refine r_tabIn 24 100 (off := 76) hC dX3_worth_24 (by rw [hs3]; decide) (by rw [hs3]; decide) (by rw [hs3]; decide) (by decide) ?_
      refine r_aload_n 100 hC dX3_worth_100 rfl rfl ?_
      refine r_iload 101 hC dX3_worth_101 rfl ?_
      refine r_callV_v 103 (n := 1) [.int (x4)] [] hC hk0 rfl dX3_worth_103 (by decide) (by decide) tw_832 tw_131 ⟨by decide, by decide, by decide +kernel⟩ tw_829 tw_831 tw_47 rfl rfl (sX3_hold (l := pm_l X) hG (q0) (x4) _ _ hk0 h) hab (Nat.le_of_ble_eq_true rfl) ?_
      clear h; intro I17 h
      refine r_goto 106 143 hC dX3_worth_106 (by decide) ?_
      refine r_iinc 143 (v := x13 + 1) [some (.ref (q0)), some (.int (x1)), some (.int (x2)), some (.int (x3)), some (.int (x4)), some (.int (x5)), some (.int (x13 + 1))] hC dX3_worth_143 rfl (by rfl) (by decide) rfl ?_
      refine r_goto 146 8 hC dX3_worth_146 (by decide) ?_
      exact h
    by_cases hs4 : (I12 (q0 + 1) (x13).toNatClampNeg) = (-5)
    · replace h := h.2.2.2.2.1 hs4
      refine r_tabIn 24 109 (off := 85) hC dX3_worth_24 (by rw [hs4]; decide) (by rw [hs4]; decide) (by rw [hs4]; decide) (by decide) ?_
      refine r_aload_n 109 hC dX3_worth_109 rfl rfl ?_
      refine r_iload 110 hC dX3_worth_110 rfl ?_
      refine r_callV_v 112 (n := 1) [.int (x5)] [] hC hk0 rfl dX3_worth_112 (by decide) (by decide) tw_832 tw_131 ⟨by decide, by decide, by decide +kernel⟩ tw_829 tw_831 tw_47 rfl rfl (sX3_hold (l := pm_l X) hG (q0) (x5) _ _ hk0 h) hab (Nat.le_of_ble_eq_true rfl) ?_
      clear h; intro I18 h
      refine r_goto 115 143 hC dX3_worth_115 (by decide) ?_
      refine r_iinc 143 (v := x13 + 1) [some (.ref (q0)), some (.int (x1)), some (.int (x2)), some (.int (x3)), some (.int (x4)), some (.int (x5)), some (.int (x13 + 1))] hC dX3_worth_143 rfl (by rfl) (by decide) rfl ?_
      refine r_goto 146 8 hC dX3_worth_146 (by decide) ?_
      exact h
    by_cases hs5 : (I12 (q0 + 1) (x13).toNatClampNeg) = (-9) ∨ (I12 (q0 + 1) (x13).toNatClampNeg) = (-8) ∨ (I12 (q0 + 1) (x13).toNatClampNeg) = (-7) ∨ (I12 (q0 + 1) (x13).toNatClampNeg) = (-6)
    · replace h := h.2.2.2.2.2.1 hs5
      have hst : pm_R G X 7 0 0 118 [some (.ref (q0)), some (.int (x1)), some (.int (x2)), some (.int (x3)), some (.int (x4)), some (.int (x5)), some (.int (x13))] [] I12 := by
        refine r_aload_n 118 hC dX3_worth_118 rfl rfl ?_
        refine r_aload_n 119 hC dX3_worth_119 rfl rfl ?_
        refine r_getR3 120 (r1 := q0 + 1) hC hk0 0 (by decide) tw_170 rfl rfl dX3_worth_120 ?_
        refine r_iload 123 hC dX3_worth_123 rfl ?_
        refine r_iald 125 hC ((pm_s3 hG hk0).1) h.1 dX3_worth_125 ?_
        replace h := h.2
        refine r_callV_v 126 (n := 1) [.int (I12 (q0 + 1) (x13).toNatClampNeg)] [] hC hk0 rfl dX3_worth_126 (by decide) (by decide) tw_836 tw_131 ⟨by decide, by decide, by decide +kernel⟩ tw_833 tw_835 tw_48 rfl rfl (sX3_combine (l := pm_l X) hG (q0) (I12 (q0 + 1) (x13).toNatClampNeg) _ _ hk0 h) hab (Nat.le_of_ble_eq_true rfl) ?_
        clear h; intro I19 h
        refine r_goto 129 143 hC dX3_worth_129 (by decide) ?_
        refine r_iinc 143 (v := x13 + 1) [some (.ref (q0)), some (.int (x1)), some (.int (x2)), some (.int (x3)), some (.int (x4)), some (.int (x5)), some (.int (x13 + 1))] hC dX3_worth_143 rfl (by rfl) (by decide) rfl ?_
        refine r_goto 146 8 hC dX3_worth_146 (by decide) ?_
        exact h
      rcases hs5 with hs | hs | hs | hs
      all_goals exact r_tabIn 24 118 (off := 94) hC dX3_worth_24 (by rw [hs]; decide) (by rw [hs]; decide) (by rw [hs]; decide) (by decide) hst
    replace h := h.2.2.2.2.2.2 ⟨hs0, hs1, hs2, hs3, hs4, hs5⟩
    have hst : pm_R G X 7 0 0 132 [some (.ref (q0)), some (.int (x1)), some (.int (x2)), some (.int (x3)), some (.int (x4)), some (.int (x5)), some (.int (x13))] [] I12 := by
      refine r_aload_n 132 hC dX3_worth_132 rfl rfl ?_
      refine r_aload_n 133 hC dX3_worth_133 rfl rfl ?_
      refine r_getR3 134 (r1 := q0 + 1) hC hk0 0 (by decide) tw_170 rfl rfl dX3_worth_134 ?_
      refine r_iload 137 hC dX3_worth_137 rfl ?_
      refine r_iald 139 hC ((pm_s3 hG hk0).1) h.1 dX3_worth_139 ?_
      replace h := h.2
      refine r_callV_v 140 (n := 1) [.int (I12 (q0 + 1) (x13).toNatClampNeg)] [] hC hk0 rfl dX3_worth_140 (by decide) (by decide) tw_832 tw_131 ⟨by decide, by decide, by decide +kernel⟩ tw_829 tw_831 tw_47 rfl rfl (sX3_hold (l := pm_l X) hG (q0) (I12 (q0 + 1) (x13).toNatClampNeg) _ _ hk0 h) hab (Nat.le_of_ble_eq_true rfl) ?_
      clear h; intro I20 h
      refine r_iinc 143 (v := x13 + 1) [some (.ref (q0)), some (.int (x1)), some (.int (x2)), some (.int (x3)), some (.int (x4)), some (.int (x5)), some (.int (x13 + 1))] hC dX3_worth_143 rfl (by rfl) (by decide) rfl ?_
      refine r_goto 146 8 hC dX3_worth_146 (by decide) ?_
      exact h
    by_cases hlo : (I12 (q0 + 1) (x13).toNatClampNeg).toInt < -9
    · exact r_tabOut 24 132 hC dX3_worth_24 (Or.inl hlo) (by decide) hst
    by_cases hhi : -1 < (I12 (q0 + 1) (x13).toNatClampNeg).toInt
    · exact r_tabOut 24 132 hC dX3_worth_24 (Or.inr hhi) (by decide) hst
    have hal : (I12 (q0 + 1) (x13).toNatClampNeg).toInt = -9 ∨ (I12 (q0 + 1) (x13).toNatClampNeg).toInt = -8 ∨ (I12 (q0 + 1) (x13).toNatClampNeg).toInt = -7 ∨ (I12 (q0 + 1) (x13).toNatClampNeg).toInt = -6 ∨ (I12 (q0 + 1) (x13).toNatClampNeg).toInt = -5 ∨ (I12 (q0 + 1) (x13).toNatClampNeg).toInt = -4 ∨ (I12 (q0 + 1) (x13).toNatClampNeg).toInt = -3 ∨ (I12 (q0 + 1) (x13).toNatClampNeg).toInt = -2 ∨ (I12 (q0 + 1) (x13).toNatClampNeg).toInt = -1 := by
      omega
    rcases hal with hv | hv | hv | hv | hv | hv | hv | hv | hv
    · exact absurd (Or.inl (Int32.toInt_inj.mp (by rw [hv]; decide))) hs5
    · exact absurd (Or.inr (Or.inl (Int32.toInt_inj.mp (by rw [hv]; decide)))) hs5
    · exact absurd (Or.inr (Or.inr (Or.inl (Int32.toInt_inj.mp (by rw [hv]; decide))))) hs5
    · exact absurd (Or.inr (Or.inr (Or.inr (Int32.toInt_inj.mp (by rw [hv]; decide))))) hs5
    · exact absurd (Int32.toInt_inj.mp (by rw [hv]; decide)) hs4
    · exact absurd (Int32.toInt_inj.mp (by rw [hv]; decide)) hs3
    · exact absurd (Int32.toInt_inj.mp (by rw [hv]; decide)) hs2
    · exact absurd (Int32.toInt_inj.mp (by rw [hv]; decide)) hs1
    · exact absurd (Int32.toInt_inj.mp (by rw [hv]; decide)) hs0

def wX4_begin (G : pm_G) (q0 : Nat) (x1 : Int32) (x2 : Int32) (x3 : Int32) (x4 : Int32) (I : pm_I) (K : pm_I → Prop) : Prop :=
  ∀ I10 : pm_I, I10 = pm_up I (q0) 0 (1) → (∀ I11 : pm_I, I11 = pm_up I10 (q0) 1 (x1) → (∀ I12 : pm_I, I12 = pm_up I11 (q0) 2 (x2) → (∀ I13 : pm_I, I13 = pm_up I12 (q0) 3 (x3) → (∀ I14 : pm_I, I14 = pm_up I13 (q0) 4 (x4) → (∀ I15 : pm_I, I15 = pm_up I14 (q0) 5 (-1) → (∀ I16 : pm_I, I16 = pm_up I15 (q0) 6 (0) → (∀ I17 : pm_I, I17 = pm_up I16 (q0) 7 (0) → (∀ I18 : pm_I, I18 = pm_up I17 (q0) 8 (0) → (∀ I19 : pm_I, I19 = pm_up I18 (q0) 9 (0) → (∀ I20 : pm_I, I20 = pm_up I19 (q0) 10 (0) → (∀ I21 : pm_I, I21 = pm_up I20 (q0) 11 (0) → (∀ I22 : pm_I, I22 = pm_up I21 (q0) 12 (0) → K I22))))))))))))

set_option maxRecDepth 20000 in
theorem sX4_begin {G : pm_G} {l : Launch} (hG : pm_ok G) (q0 : Nat) (x1 : Int32) (x2 : Int32) (x3 : Int32) (x4 : Int32) (I : pm_I) (K : pm_I → Prop) (hk0 : pm_k G q0 (.inl 4)) (h : wX4_begin G q0 x1 x2 x3 x4 I K) : pm_Ct G l yX4_begin cX4_begin 5 none { frames := 1, cells := 0, slots := 0, locals := 64 } [.ref (q0), .int (x1), .int (x2), .int (x3), .int (x4)] I (pm_Kv K) := by
  unfold wX4_begin at h
  refine pm_enter (by decide +kernel) hG rfl (Nat.le_of_ble_eq_true rfl) rfl (fun X hl hC hE => ?_)
  subst hl
  have hab : 0 ≤ 0 ∧ 0 ≤ 0 := ⟨Nat.le_refl 0, Nat.le_refl 0⟩
  have hC : pm_C G X cX4_begin 5 RX4 none { frames := 1, cells := 0, slots := 0, locals := 64 } := hC
  refine r_aload_n 0 hC dX4_begin_0 rfl rfl ?_
  refine r_iconst 1 (v := 1) hC dX4_begin_1 (by decide) ?_
  refine r_putZ4 2 hC hk0 tw_255 (Or.inr rfl) dX4_begin_2 (fun I10 hI => ?_)
  replace h := h I10 hI; clear hI
  refine r_aload_n 5 hC dX4_begin_5 rfl rfl ?_
  refine r_iload_n 6 hC dX4_begin_6 rfl rfl ?_
  refine r_putI4 7 hC hk0 1 (by decide) tw_258 rfl rfl (by decide +kernel) ps_4_1 dX4_begin_7 (fun I11 hI => ?_)
  replace h := h I11 hI; clear hI
  refine r_aload_n 10 hC dX4_begin_10 rfl rfl ?_
  refine r_iload_n 11 hC dX4_begin_11 rfl rfl ?_
  refine r_putI4 12 hC hk0 2 (by decide) tw_261 rfl rfl (by decide +kernel) ps_4_2 dX4_begin_12 (fun I12 hI => ?_)
  replace h := h I12 hI; clear hI
  refine r_aload_n 15 hC dX4_begin_15 rfl rfl ?_
  refine r_iload_n 16 hC dX4_begin_16 rfl rfl ?_
  refine r_putI4 17 hC hk0 3 (by decide) tw_264 rfl rfl (by decide +kernel) ps_4_3 dX4_begin_17 (fun I13 hI => ?_)
  replace h := h I13 hI; clear hI
  refine r_aload_n 20 hC dX4_begin_20 rfl rfl ?_
  refine r_iload 21 hC dX4_begin_21 rfl ?_
  refine r_putI4 23 hC hk0 4 (by decide) tw_266 rfl rfl (by decide +kernel) ps_4_4 dX4_begin_23 (fun I14 hI => ?_)
  replace h := h I14 hI; clear hI
  refine r_aload_n 26 hC dX4_begin_26 rfl rfl ?_
  refine r_iconst 27 (v := -1) hC dX4_begin_27 (by decide) ?_
  refine r_putI4 28 hC hk0 5 (by decide) tw_270 rfl rfl (by decide +kernel) ps_4_5 dX4_begin_28 (fun I15 hI => ?_)
  replace h := h I15 hI; clear hI
  refine r_aload_n 31 hC dX4_begin_31 rfl rfl ?_
  refine r_iconst 32 (v := 0) hC dX4_begin_32 (by decide) ?_
  refine r_putI4 33 hC hk0 6 (by decide) tw_273 rfl rfl (by decide +kernel) ps_4_6 dX4_begin_33 (fun I16 hI => ?_)
  replace h := h I16 hI; clear hI
  refine r_aload_n 36 hC dX4_begin_36 rfl rfl ?_
  refine r_iconst 37 (v := 0) hC dX4_begin_37 (by decide) ?_
  refine r_putI4 38 hC hk0 7 (by decide) tw_276 rfl rfl (by decide +kernel) ps_4_7 dX4_begin_38 (fun I17 hI => ?_)
  replace h := h I17 hI; clear hI
  refine r_aload_n 41 hC dX4_begin_41 rfl rfl ?_
  refine r_iconst 42 (v := 0) hC dX4_begin_42 (by decide) ?_
  refine r_putI4 43 hC hk0 8 (by decide) tw_278 rfl rfl (by decide +kernel) ps_4_8 dX4_begin_43 (fun I18 hI => ?_)
  replace h := h I18 hI; clear hI
  refine r_aload_n 46 hC dX4_begin_46 rfl rfl ?_
  refine r_iconst 47 (v := 0) hC dX4_begin_47 (by decide) ?_
  refine r_putI4 48 hC hk0 9 (by decide) tw_280 rfl rfl (by decide +kernel) ps_4_9 dX4_begin_48 (fun I19 hI => ?_)
  replace h := h I19 hI; clear hI
  refine r_aload_n 51 hC dX4_begin_51 rfl rfl ?_
  refine r_iconst 52 (v := 0) hC dX4_begin_52 (by decide) ?_
  refine r_putI4 53 hC hk0 10 (by decide) tw_282 rfl rfl (by decide +kernel) ps_4_10 dX4_begin_53 (fun I20 hI => ?_)
  replace h := h I20 hI; clear hI
  refine r_aload_n 56 hC dX4_begin_56 rfl rfl ?_
  refine r_iconst 57 (v := 0) hC dX4_begin_57 (by decide) ?_
  refine r_putI4 58 hC hk0 11 (by decide) tw_284 rfl rfl (by decide +kernel) ps_4_11 dX4_begin_58 (fun I21 hI => ?_)
  replace h := h I21 hI; clear hI
  refine r_aload_n 61 hC dX4_begin_61 rfl rfl ?_
  refine r_iconst 62 (v := 0) hC dX4_begin_62 (by decide) ?_
  refine r_putI4 63 hC hk0 12 (by decide) tw_286 rfl rfl (by decide +kernel) ps_4_12 dX4_begin_63 (fun I22 hI => ?_)
  replace h := h I22 hI; clear hI
  exact r_vret 66 hC hE dX4_begin_66 ⟨rfl, h⟩

def wX4_placeOf (G : pm_G) (x0 : Int32) (I : pm_I) (K : Int32 → pm_I → Prop) : Prop :=
  wJ9_floorMod_7cf53 G (x0) (24) I (fun r11 I10 => K (r11) I10)

set_option maxRecDepth 20000 in
theorem sX4_placeOf {G : pm_G} {l : Launch} (hG : pm_ok G) (x0 : Int32) (I : pm_I) (K : Int32 → pm_I → Prop)  (h : wX4_placeOf G x0 I K) : pm_Ct G l yX4_placeOf cX4_placeOf 1 (some .int) { frames := 2, cells := 0, slots := 0, locals := 150 } [.int (x0)] I (pm_Ki K) := by
  unfold wX4_placeOf at h
  refine pm_enter (by decide +kernel) hG rfl (Nat.le_of_ble_eq_true rfl) rfl (fun X hl hC hE => ?_)
  subst hl
  have hab : 0 ≤ 0 ∧ 0 ≤ 0 := ⟨Nat.le_refl 0, Nat.le_refl 0⟩
  have hC : pm_C G X cX4_placeOf 1 RX4 (some .int) { frames := 2, cells := 0, slots := 0, locals := 150 } := hC
  refine r_iload_n 0 hC dX4_placeOf_0 rfl rfl ?_
  refine r_bipush 1 (v := 24) hC dX4_placeOf_1 (by decide) ?_
  refine r_callS_i 3 (n := 2) [.int (x0), .int (24)] [] hC dX4_placeOf_3 (by decide) (by decide) tw_922 tw_147 ⟨by decide, by decide, by decide +kernel⟩ tw_920 tw_921 rfl rfl (sJ9_floorMod_7cf53 (l := pm_l X) hG (x0) (24) _ _ h) hab (Nat.le_of_ble_eq_true rfl) ?_
  clear h; intro r11 I10 h
  exact r_iret 6 hC hE rfl dX4_placeOf_6 ⟨_, rfl, h⟩

def wX4_takeNextKey (G : pm_G) (q0 : Nat) (I : pm_I) (K : pm_I → Prop) : Prop :=
  ∀ I10 : pm_I, I10 = pm_up I (q0) 9 ((I q0 9) + 1) → (∀ I11 : pm_I, I11 = pm_up I10 (q0) 10 (0) → K I11)

set_option maxRecDepth 20000 in
theorem sX4_takeNextKey {G : pm_G} {l : Launch} (hG : pm_ok G) (q0 : Nat) (I : pm_I) (K : pm_I → Prop) (hk0 : pm_k G q0 (.inl 4)) (h : wX4_takeNextKey G q0 I K) : pm_Ct G l yX4_takeNextKey cX4_takeNextKey 1 none { frames := 1, cells := 0, slots := 0, locals := 64 } [.ref (q0)] I (pm_Kv K) := by
  unfold wX4_takeNextKey at h
  refine pm_enter (by decide +kernel) hG rfl (Nat.le_of_ble_eq_true rfl) rfl (fun X hl hC hE => ?_)
  subst hl
  have hab : 0 ≤ 0 ∧ 0 ≤ 0 := ⟨Nat.le_refl 0, Nat.le_refl 0⟩
  have hC : pm_C G X cX4_takeNextKey 1 RX4 none { frames := 1, cells := 0, slots := 0, locals := 64 } := hC
  refine r_aload_n 0 hC dX4_takeNextKey_0 rfl rfl ?_
  refine r_dup 1 hC dX4_takeNextKey_1 rfl ?_
  refine r_getI4 2 (x := I (q0) 9) hC hk0 9 (by decide) tw_280 rfl rfl dX4_takeNextKey_2 ?_
  refine r_iconst 5 (v := 1) hC dX4_takeNextKey_5 (by decide) ?_
  refine r_iadd 6 hC dX4_takeNextKey_6 ?_
  refine r_putI4 7 hC hk0 9 (by decide) tw_280 rfl rfl (by decide +kernel) ps_4_9 dX4_takeNextKey_7 (fun I10 hI => ?_)
  replace h := h I10 hI; clear hI
  refine r_aload_n 10 hC dX4_takeNextKey_10 rfl rfl ?_
  refine r_iconst 11 (v := 0) hC dX4_takeNextKey_11 (by decide) ?_
  refine r_putI4 12 hC hk0 10 (by decide) tw_282 rfl rfl (by decide +kernel) ps_4_10 dX4_takeNextKey_12 (fun I11 hI => ?_)
  replace h := h I11 hI; clear hI
  exact r_vret 15 hC hE dX4_takeNextKey_15 ⟨rfl, h⟩

def wX4_addMessage (G : pm_G) (q0 : Nat) (x1 : Int32) (x2 : Int32) (x3 : Int32) (I : pm_I) (K : Int32 → pm_I → Prop) : Prop :=
  ((I q0 10) < x2 → (wX4_placeOf G (I (q0) 7) I (fun r11 I10 => vp_in (r11) 24 ∧ (∀ I12 : pm_I, I12 = pm_up I10 (q0 + 1) ((r11).toNatClampNeg) (x1) → (vp_in (r11) 24 ∧ (∀ I13 : pm_I, I13 = pm_up I12 (q0 + 2) ((r11).toNatClampNeg) (I12 (q0) 9) → (vp_in (r11) 24 ∧ (∀ I14 : pm_I, I14 = pm_up I13 (q0 + 3) ((r11).toNatClampNeg) (I13 (q0) 4) → (vp_in (r11) 24 ∧ (∀ I15 : pm_I, I15 = pm_up I14 (q0 + 4) ((r11).toNatClampNeg) (x3) → (∀ I16 : pm_I, I16 = pm_up I15 (q0) 7 ((I15 q0 7) + 1) → (∀ I17 : pm_I, I17 = pm_up I16 (q0) 10 ((I16 q0 10) + 1) → (K (I (q0) 7) I17))))))))))))) ∧ (¬ (I q0 10) < x2 → (wX4_takeNextKey G (q0) I (fun I18 => wX4_placeOf G (I18 (q0) 7) I18 (fun r20 I19 => vp_in (r20) 24 ∧ (∀ I21 : pm_I, I21 = pm_up I19 (q0 + 1) ((r20).toNatClampNeg) (x1) → (vp_in (r20) 24 ∧ (∀ I22 : pm_I, I22 = pm_up I21 (q0 + 2) ((r20).toNatClampNeg) (I21 (q0) 9) → (vp_in (r20) 24 ∧ (∀ I23 : pm_I, I23 = pm_up I22 (q0 + 3) ((r20).toNatClampNeg) (I22 (q0) 4) → (vp_in (r20) 24 ∧ (∀ I24 : pm_I, I24 = pm_up I23 (q0 + 4) ((r20).toNatClampNeg) (x3) → (∀ I25 : pm_I, I25 = pm_up I24 (q0) 7 ((I24 q0 7) + 1) → (∀ I26 : pm_I, I26 = pm_up I25 (q0) 10 ((I25 q0 10) + 1) → (K (I18 (q0) 7) I26))))))))))))))

set_option maxRecDepth 20000 in
theorem sX4_addMessage {G : pm_G} {l : Launch} (hG : pm_ok G) (q0 : Nat) (x1 : Int32) (x2 : Int32) (x3 : Int32) (I : pm_I) (K : Int32 → pm_I → Prop) (hk0 : pm_k G q0 (.inl 4)) (h : wX4_addMessage G q0 x1 x2 x3 I K) : pm_Ct G l yX4_addMessage cX4_addMessage 6 (some .int) { frames := 3, cells := 0, slots := 0, locals := 234 } [.ref (q0), .int (x1), .int (x2), .int (x3)] I (pm_Ki K) := by
  unfold wX4_addMessage at h
  refine pm_enter (by decide +kernel) hG rfl (Nat.le_of_ble_eq_true rfl) rfl (fun X hl hC hE => ?_)
  subst hl
  have hab : 0 ≤ 0 ∧ 0 ≤ 0 := ⟨Nat.le_refl 0, Nat.le_refl 0⟩
  have hC : pm_C G X cX4_addMessage 6 RX4 (some .int) { frames := 3, cells := 0, slots := 0, locals := 234 } := hC
  refine r_aload_n 0 hC dX4_addMessage_0 rfl rfl ?_
  refine r_getI4 1 (x := I (q0) 10) hC hk0 10 (by decide) tw_282 rfl rfl dX4_addMessage_1 ?_
  refine r_iload_n 4 hC dX4_addMessage_4 rfl rfl ?_
  refine r_icmp_lt 5 12 hC dX4_addMessage_5 (by decide) (fun hc => ?_) (fun hc => ?_)
  · replace h := h.1 hc
    refine r_aload_n 12 hC dX4_addMessage_12 rfl rfl ?_
    refine r_getI4 13 (x := I (q0) 7) hC hk0 7 (by decide) tw_276 rfl rfl dX4_addMessage_13 ?_
    refine r_istore 16 [some (.ref (q0)), some (.int (x1)), some (.int (x2)), some (.int (x3)), some (.int (I (q0) 7)), none] hC dX4_addMessage_16 (by decide) rfl ?_
    refine r_iload 18 hC dX4_addMessage_18 rfl ?_
    refine r_callS_i 20 (n := 1) [.int (I (q0) 7)] [] hC dX4_addMessage_20 (by decide) (by decide) tw_919 tw_133 ⟨by decide, by decide, by decide +kernel⟩ tw_917 tw_918 rfl rfl (sX4_placeOf (l := pm_l X) hG (I (q0) 7) _ _ h) hab (Nat.le_of_ble_eq_true rfl) ?_
    clear h; intro r11 I10 h
    refine r_istore 23 [some (.ref (q0)), some (.int (x1)), some (.int (x2)), some (.int (x3)), some (.int (I (q0) 7)), some (.int (r11))] hC dX4_addMessage_23 (by decide) rfl ?_
    refine r_aload_n 25 hC dX4_addMessage_25 rfl rfl ?_
    refine r_getR4 26 (r1 := q0 + 1) hC hk0 13 (by decide) tw_288 rfl rfl dX4_addMessage_26 ?_
    refine r_iload 29 hC dX4_addMessage_29 rfl ?_
    refine r_iload_n 31 hC dX4_addMessage_31 rfl rfl ?_
    refine r_iast 32 hC ((pm_s4 hG hk0).1) h.1 dX4_addMessage_32 (fun I12 hI => ?_)
    replace h := h.2
    replace h := h I12 hI; clear hI
    refine r_aload_n 33 hC dX4_addMessage_33 rfl rfl ?_
    refine r_getR4 34 (r1 := q0 + 2) hC hk0 14 (by decide) tw_289 rfl rfl dX4_addMessage_34 ?_
    refine r_iload 37 hC dX4_addMessage_37 rfl ?_
    refine r_aload_n 39 hC dX4_addMessage_39 rfl rfl ?_
    refine r_getI4 40 (x := I12 (q0) 9) hC hk0 9 (by decide) tw_280 rfl rfl dX4_addMessage_40 ?_
    refine r_iast 43 hC ((pm_s4 hG hk0).2.1) h.1 dX4_addMessage_43 (fun I13 hI => ?_)
    replace h := h.2
    replace h := h I13 hI; clear hI
    refine r_aload_n 44 hC dX4_addMessage_44 rfl rfl ?_
    refine r_getR4 45 (r1 := q0 + 3) hC hk0 15 (by decide) tw_290 rfl rfl dX4_addMessage_45 ?_
    refine r_iload 48 hC dX4_addMessage_48 rfl ?_
    refine r_aload_n 50 hC dX4_addMessage_50 rfl rfl ?_
    refine r_getI4 51 (x := I13 (q0) 4) hC hk0 4 (by decide) tw_266 rfl rfl dX4_addMessage_51 ?_
    refine r_iast 54 hC ((pm_s4 hG hk0).2.2.1) h.1 dX4_addMessage_54 (fun I14 hI => ?_)
    replace h := h.2
    replace h := h I14 hI; clear hI
    refine r_aload_n 55 hC dX4_addMessage_55 rfl rfl ?_
    refine r_getR4 56 (r1 := q0 + 4) hC hk0 16 (by decide) tw_291 rfl rfl dX4_addMessage_56 ?_
    refine r_iload 59 hC dX4_addMessage_59 rfl ?_
    refine r_iload_n 61 hC dX4_addMessage_61 rfl rfl ?_
    refine r_iast 62 hC ((pm_s4 hG hk0).2.2.2) h.1 dX4_addMessage_62 (fun I15 hI => ?_)
    replace h := h.2
    replace h := h I15 hI; clear hI
    refine r_aload_n 63 hC dX4_addMessage_63 rfl rfl ?_
    refine r_dup 64 hC dX4_addMessage_64 rfl ?_
    refine r_getI4 65 (x := I15 (q0) 7) hC hk0 7 (by decide) tw_276 rfl rfl dX4_addMessage_65 ?_
    refine r_iconst 68 (v := 1) hC dX4_addMessage_68 (by decide) ?_
    refine r_iadd 69 hC dX4_addMessage_69 ?_
    refine r_putI4 70 hC hk0 7 (by decide) tw_276 rfl rfl (by decide +kernel) ps_4_7 dX4_addMessage_70 (fun I16 hI => ?_)
    replace h := h I16 hI; clear hI
    refine r_aload_n 73 hC dX4_addMessage_73 rfl rfl ?_
    refine r_dup 74 hC dX4_addMessage_74 rfl ?_
    refine r_getI4 75 (x := I16 (q0) 10) hC hk0 10 (by decide) tw_282 rfl rfl dX4_addMessage_75 ?_
    refine r_iconst 78 (v := 1) hC dX4_addMessage_78 (by decide) ?_
    refine r_iadd 79 hC dX4_addMessage_79 ?_
    refine r_putI4 80 hC hk0 10 (by decide) tw_282 rfl rfl (by decide +kernel) ps_4_10 dX4_addMessage_80 (fun I17 hI => ?_)
    replace h := h I17 hI; clear hI
    refine r_iload 83 hC dX4_addMessage_83 rfl ?_
    exact r_iret 85 hC hE rfl dX4_addMessage_85 ⟨_, rfl, h⟩
  · replace h := h.2 hc
    refine r_aload_n 8 hC dX4_addMessage_8 rfl rfl ?_
    refine r_callV_v 9 (n := 0) [] [] hC hk0 rfl dX4_addMessage_9 (by decide) (by decide) tw_1001 tw_133 ⟨by decide, by decide, by decide +kernel⟩ tw_998 tw_1000 tw_60 rfl rfl (sX4_takeNextKey (l := pm_l X) hG (q0) _ _ hk0 h) hab (Nat.le_of_ble_eq_true rfl) ?_
    clear h; intro I18 h
    refine r_aload_n 12 hC dX4_addMessage_12 rfl rfl ?_
    refine r_getI4 13 (x := I18 (q0) 7) hC hk0 7 (by decide) tw_276 rfl rfl dX4_addMessage_13 ?_
    refine r_istore 16 [some (.ref (q0)), some (.int (x1)), some (.int (x2)), some (.int (x3)), some (.int (I18 (q0) 7)), none] hC dX4_addMessage_16 (by decide) rfl ?_
    refine r_iload 18 hC dX4_addMessage_18 rfl ?_
    refine r_callS_i 20 (n := 1) [.int (I18 (q0) 7)] [] hC dX4_addMessage_20 (by decide) (by decide) tw_919 tw_133 ⟨by decide, by decide, by decide +kernel⟩ tw_917 tw_918 rfl rfl (sX4_placeOf (l := pm_l X) hG (I18 (q0) 7) _ _ h) hab (Nat.le_of_ble_eq_true rfl) ?_
    clear h; intro r20 I19 h
    refine r_istore 23 [some (.ref (q0)), some (.int (x1)), some (.int (x2)), some (.int (x3)), some (.int (I18 (q0) 7)), some (.int (r20))] hC dX4_addMessage_23 (by decide) rfl ?_
    refine r_aload_n 25 hC dX4_addMessage_25 rfl rfl ?_
    refine r_getR4 26 (r1 := q0 + 1) hC hk0 13 (by decide) tw_288 rfl rfl dX4_addMessage_26 ?_
    refine r_iload 29 hC dX4_addMessage_29 rfl ?_
    refine r_iload_n 31 hC dX4_addMessage_31 rfl rfl ?_
    refine r_iast 32 hC ((pm_s4 hG hk0).1) h.1 dX4_addMessage_32 (fun I21 hI => ?_)
    replace h := h.2
    replace h := h I21 hI; clear hI
    refine r_aload_n 33 hC dX4_addMessage_33 rfl rfl ?_
    refine r_getR4 34 (r1 := q0 + 2) hC hk0 14 (by decide) tw_289 rfl rfl dX4_addMessage_34 ?_
    refine r_iload 37 hC dX4_addMessage_37 rfl ?_
    refine r_aload_n 39 hC dX4_addMessage_39 rfl rfl ?_
    refine r_getI4 40 (x := I21 (q0) 9) hC hk0 9 (by decide) tw_280 rfl rfl dX4_addMessage_40 ?_
    refine r_iast 43 hC ((pm_s4 hG hk0).2.1) h.1 dX4_addMessage_43 (fun I22 hI => ?_)
    replace h := h.2
    replace h := h I22 hI; clear hI
    refine r_aload_n 44 hC dX4_addMessage_44 rfl rfl ?_
    refine r_getR4 45 (r1 := q0 + 3) hC hk0 15 (by decide) tw_290 rfl rfl dX4_addMessage_45 ?_
    refine r_iload 48 hC dX4_addMessage_48 rfl ?_
    refine r_aload_n 50 hC dX4_addMessage_50 rfl rfl ?_
    refine r_getI4 51 (x := I22 (q0) 4) hC hk0 4 (by decide) tw_266 rfl rfl dX4_addMessage_51 ?_
    refine r_iast 54 hC ((pm_s4 hG hk0).2.2.1) h.1 dX4_addMessage_54 (fun I23 hI => ?_)
    replace h := h.2
    replace h := h I23 hI; clear hI
    refine r_aload_n 55 hC dX4_addMessage_55 rfl rfl ?_
    refine r_getR4 56 (r1 := q0 + 4) hC hk0 16 (by decide) tw_291 rfl rfl dX4_addMessage_56 ?_
    refine r_iload 59 hC dX4_addMessage_59 rfl ?_
    refine r_iload_n 61 hC dX4_addMessage_61 rfl rfl ?_
    refine r_iast 62 hC ((pm_s4 hG hk0).2.2.2) h.1 dX4_addMessage_62 (fun I24 hI => ?_)
    replace h := h.2
    replace h := h I24 hI; clear hI
    refine r_aload_n 63 hC dX4_addMessage_63 rfl rfl ?_
    refine r_dup 64 hC dX4_addMessage_64 rfl ?_
    refine r_getI4 65 (x := I24 (q0) 7) hC hk0 7 (by decide) tw_276 rfl rfl dX4_addMessage_65 ?_
    refine r_iconst 68 (v := 1) hC dX4_addMessage_68 (by decide) ?_
    refine r_iadd 69 hC dX4_addMessage_69 ?_
    refine r_putI4 70 hC hk0 7 (by decide) tw_276 rfl rfl (by decide +kernel) ps_4_7 dX4_addMessage_70 (fun I25 hI => ?_)
    replace h := h I25 hI; clear hI
    refine r_aload_n 73 hC dX4_addMessage_73 rfl rfl ?_
    refine r_dup 74 hC dX4_addMessage_74 rfl ?_
    refine r_getI4 75 (x := I25 (q0) 10) hC hk0 10 (by decide) tw_282 rfl rfl dX4_addMessage_75 ?_
    refine r_iconst 78 (v := 1) hC dX4_addMessage_78 (by decide) ?_
    refine r_iadd 79 hC dX4_addMessage_79 ?_
    refine r_putI4 80 hC hk0 10 (by decide) tw_282 rfl rfl (by decide +kernel) ps_4_10 dX4_addMessage_80 (fun I26 hI => ?_)
    replace h := h I26 hI; clear hI
    refine r_iload 83 hC dX4_addMessage_83 rfl ?_
    exact r_iret 85 hC hE rfl dX4_addMessage_85 ⟨_, rfl, h⟩

def wX4_changePath (G : pm_G) (q0 : Nat) (x1 : Int32) (I : pm_I) (K : pm_I → Prop) : Prop :=
  (x1 = (I q0 4) → (∀ I10 : pm_I, I10 = pm_up I (q0) 4 (x1) → K I10)) ∧ (¬ x1 = (I q0 4) → (((I q0 10) ≤ 0 → (∀ I11 : pm_I, I11 = pm_up I (q0) 4 (x1) → K I11)) ∧ (¬ (I q0 10) ≤ 0 → (wX4_takeNextKey G (q0) I (fun I12 => ∀ I13 : pm_I, I13 = pm_up I12 (q0) 4 (x1) → K I13)))))

set_option maxRecDepth 20000 in
theorem sX4_changePath {G : pm_G} {l : Launch} (hG : pm_ok G) (q0 : Nat) (x1 : Int32) (I : pm_I) (K : pm_I → Prop) (hk0 : pm_k G q0 (.inl 4)) (h : wX4_changePath G q0 x1 I K) : pm_Ct G l yX4_changePath cX4_changePath 2 none { frames := 2, cells := 0, slots := 0, locals := 148 } [.ref (q0), .int (x1)] I (pm_Kv K) := by
  unfold wX4_changePath at h
  refine pm_enter (by decide +kernel) hG rfl (Nat.le_of_ble_eq_true rfl) rfl (fun X hl hC hE => ?_)
  subst hl
  have hab : 0 ≤ 0 ∧ 0 ≤ 0 := ⟨Nat.le_refl 0, Nat.le_refl 0⟩
  have hC : pm_C G X cX4_changePath 2 RX4 none { frames := 2, cells := 0, slots := 0, locals := 148 } := hC
  refine r_iload_n 0 hC dX4_changePath_0 rfl rfl ?_
  refine r_aload_n 1 hC dX4_changePath_1 rfl rfl ?_
  refine r_getI4 2 (x := I (q0) 4) hC hk0 4 (by decide) tw_266 rfl rfl dX4_changePath_2 ?_
  refine r_icmp_eq 5 19 hC dX4_changePath_5 (by decide) (fun hc => ?_) (fun hc => ?_)
  · replace h := h.1 hc
    refine r_aload_n 19 hC dX4_changePath_19 rfl rfl ?_
    refine r_iload_n 20 hC dX4_changePath_20 rfl rfl ?_
    refine r_putI4 21 hC hk0 4 (by decide) tw_266 rfl rfl (by decide +kernel) ps_4_4 dX4_changePath_21 (fun I10 hI => ?_)
    replace h := h I10 hI; clear hI
    exact r_vret 24 hC hE dX4_changePath_24 ⟨rfl, h⟩
  · replace h := h.2 hc
    refine r_aload_n 8 hC dX4_changePath_8 rfl rfl ?_
    refine r_getI4 9 (x := I (q0) 10) hC hk0 10 (by decide) tw_282 rfl rfl dX4_changePath_9 ?_
    refine r_if_le 12 19 hC dX4_changePath_12 (by decide) (fun hc => ?_) (fun hc => ?_)
    · replace h := h.1 hc
      refine r_aload_n 19 hC dX4_changePath_19 rfl rfl ?_
      refine r_iload_n 20 hC dX4_changePath_20 rfl rfl ?_
      refine r_putI4 21 hC hk0 4 (by decide) tw_266 rfl rfl (by decide +kernel) ps_4_4 dX4_changePath_21 (fun I11 hI => ?_)
      replace h := h I11 hI; clear hI
      exact r_vret 24 hC hE dX4_changePath_24 ⟨rfl, h⟩
    · replace h := h.2 hc
      refine r_aload_n 15 hC dX4_changePath_15 rfl rfl ?_
      refine r_callV_v 16 (n := 0) [] [] hC hk0 rfl dX4_changePath_16 (by decide) (by decide) tw_1001 tw_133 ⟨by decide, by decide, by decide +kernel⟩ tw_998 tw_1000 tw_60 rfl rfl (sX4_takeNextKey (l := pm_l X) hG (q0) _ _ hk0 h) hab (Nat.le_of_ble_eq_true rfl) ?_
      clear h; intro I12 h
      refine r_aload_n 19 hC dX4_changePath_19 rfl rfl ?_
      refine r_iload_n 20 hC dX4_changePath_20 rfl rfl ?_
      refine r_putI4 21 hC hk0 4 (by decide) tw_266 rfl rfl (by decide +kernel) ps_4_4 dX4_changePath_21 (fun I13 hI => ?_)
      replace h := h I13 hI; clear hI
      exact r_vret 24 hC hE dX4_changePath_24 ⟨rfl, h⟩

def wX4_startWaiting (G : pm_G) (q0 : Nat) (x1 : Int32) (I : pm_I) (K : pm_I → Prop) : Prop :=
  pm_lp2 (fun (P10 : Int32 → pm_I → Prop) (x12 : Int32) (I11 : pm_I) => ((I11 q0 7) ≤ x12 → K I11) ∧ (¬ (I11 q0 7) ≤ x12 → (wX4_placeOf G (x12) I11 (fun r14 I13 => vp_in (r14) 24 ∧ ((¬ (I13 (q0 + 3) (r14).toNatClampNeg) = (-1) → (P10 (x12 + 1) I13)) ∧ ((I13 (q0 + 3) (r14).toNatClampNeg) = (-1) → (vp_in (r14) 24 ∧ (∀ I15 : pm_I, I15 = pm_up I13 (q0 + 3) ((r14).toNatClampNeg) (I13 (q0) 4) → (vp_in (r14) 24 ∧ (∀ I16 : pm_I, I16 = pm_up I15 (q0 + 4) ((r14).toNatClampNeg) (x1) → (P10 (x12 + 1) I16))))))))))) (I (q0) 8) I

set_option maxRecDepth 20000 in
theorem sX4_startWaiting {G : pm_G} {l : Launch} (hG : pm_ok G) (q0 : Nat) (x1 : Int32) (I : pm_I) (K : pm_I → Prop) (hk0 : pm_k G q0 (.inl 4)) (h : wX4_startWaiting G q0 x1 I K) : pm_Ct G l yX4_startWaiting cX4_startWaiting 4 none { frames := 3, cells := 0, slots := 0, locals := 234 } [.ref (q0), .int (x1)] I (pm_Kv K) := by
  unfold wX4_startWaiting at h
  refine pm_enter (by decide +kernel) hG rfl (Nat.le_of_ble_eq_true rfl) rfl (fun X hl hC hE => ?_)
  subst hl
  have hab : 0 ≤ 0 ∧ 0 ≤ 0 := ⟨Nat.le_refl 0, Nat.le_refl 0⟩
  have hC : pm_C G X cX4_startWaiting 4 RX4 none { frames := 3, cells := 0, slots := 0, locals := 234 } := hC
  refine r_aload_n 0 hC dX4_startWaiting_0 rfl rfl ?_
  refine r_getI4 1 (x := I (q0) 8) hC hk0 8 (by decide) tw_278 rfl rfl dX4_startWaiting_1 ?_
  refine r_istore_n 4 [some (.ref (q0)), some (.int (x1)), some (.int (I (q0) 8)), none] hC dX4_startWaiting_4 rfl (by decide) rfl ?_
  refine h (fun x12 I11 => pm_R G X 4 0 0 5 [some (.ref (q0)), some (.int (x1)), some (.int (x12)), none] [] I11) ?_
  clear h; intro x12 I11 h
  refine r_iload_n 5 hC dX4_startWaiting_5 rfl rfl ?_
  refine r_aload_n 6 hC dX4_startWaiting_6 rfl rfl ?_
  refine r_getI4 7 (x := I11 (q0) 7) hC hk0 7 (by decide) tw_276 rfl rfl dX4_startWaiting_7 ?_
  refine r_icmp_ge 10 51 hC dX4_startWaiting_10 (by decide) (fun hc => ?_) (fun hc => ?_)
  · replace h := h.1 hc
    exact r_vret 51 hC hE dX4_startWaiting_51 ⟨rfl, h⟩
  · replace h := h.2 hc
    refine r_iload_n 13 hC dX4_startWaiting_13 rfl rfl ?_
    refine r_callS_i 14 (n := 1) [.int (x12)] [] hC dX4_startWaiting_14 (by decide) (by decide) tw_919 tw_133 ⟨by decide, by decide, by decide +kernel⟩ tw_917 tw_918 rfl rfl (sX4_placeOf (l := pm_l X) hG (x12) _ _ h) hab (Nat.le_of_ble_eq_true rfl) ?_
    clear h; intro r14 I13 h
    refine r_istore_n 17 [some (.ref (q0)), some (.int (x1)), some (.int (x12)), some (.int (r14))] hC dX4_startWaiting_17 rfl (by decide) rfl ?_
    refine r_aload_n 18 hC dX4_startWaiting_18 rfl rfl ?_
    refine r_getR4 19 (r1 := q0 + 3) hC hk0 15 (by decide) tw_290 rfl rfl dX4_startWaiting_19 ?_
    refine r_iload_n 22 hC dX4_startWaiting_22 rfl rfl ?_
    refine r_iald 23 hC ((pm_s4 hG hk0).2.2.1) h.1 dX4_startWaiting_23 ?_
    replace h := h.2
    refine r_iconst 24 (v := -1) hC dX4_startWaiting_24 (by decide) ?_
    refine r_icmp_ne 25 45 hC dX4_startWaiting_25 (by decide) (fun hc => ?_) (fun hc => ?_)
    · replace h := h.1 hc
      refine r_iinc 45 (v := x12 + 1) [some (.ref (q0)), some (.int (x1)), some (.int (x12 + 1)), some (.int (r14))] hC dX4_startWaiting_45 rfl (by rfl) (by decide) rfl ?_
      refine r_goto 48 5 hC dX4_startWaiting_48 (by decide) ?_
      refine r_weak (ls' := [some (.ref (q0)), some (.int (x1)), some (.int (x12 + 1)), none]) (And.intro rfl (And.intro rfl (And.intro rfl (trivial)))) ?_
      exact h
    · replace h := h.2 hc
      refine r_aload_n 28 hC dX4_startWaiting_28 rfl rfl ?_
      refine r_getR4 29 (r1 := q0 + 3) hC hk0 15 (by decide) tw_290 rfl rfl dX4_startWaiting_29 ?_
      refine r_iload_n 32 hC dX4_startWaiting_32 rfl rfl ?_
      refine r_aload_n 33 hC dX4_startWaiting_33 rfl rfl ?_
      refine r_getI4 34 (x := I13 (q0) 4) hC hk0 4 (by decide) tw_266 rfl rfl dX4_startWaiting_34 ?_
      refine r_iast 37 hC ((pm_s4 hG hk0).2.2.1) h.1 dX4_startWaiting_37 (fun I15 hI => ?_)
      replace h := h.2
      replace h := h I15 hI; clear hI
      refine r_aload_n 38 hC dX4_startWaiting_38 rfl rfl ?_
      refine r_getR4 39 (r1 := q0 + 4) hC hk0 16 (by decide) tw_291 rfl rfl dX4_startWaiting_39 ?_
      refine r_iload_n 42 hC dX4_startWaiting_42 rfl rfl ?_
      refine r_iload_n 43 hC dX4_startWaiting_43 rfl rfl ?_
      refine r_iast 44 hC ((pm_s4 hG hk0).2.2.2) h.1 dX4_startWaiting_44 (fun I16 hI => ?_)
      replace h := h.2
      replace h := h I16 hI; clear hI
      refine r_iinc 45 (v := x12 + 1) [some (.ref (q0)), some (.int (x1)), some (.int (x12 + 1)), some (.int (r14))] hC dX4_startWaiting_45 rfl (by rfl) (by decide) rfl ?_
      refine r_goto 48 5 hC dX4_startWaiting_48 (by decide) ?_
      refine r_weak (ls' := [some (.ref (q0)), some (.int (x1)), some (.int (x12 + 1)), none]) (And.intro rfl (And.intro rfl (And.intro rfl (trivial)))) ?_
      exact h

def wX4_takeArrivals (G : pm_G) (q0 : Nat) (x1 : Int32) (I : pm_I) (K : Int32 → pm_I → Prop) : Prop :=
  pm_lp2 (fun (P10 : Int32 → pm_I → Prop) (x12 : Int32) (I11 : pm_I) => ((I11 q0 7) ≤ x12 → (pm_lp1 (fun (P13 : pm_I → Prop)  (I14 : pm_I) => ((I14 q0 7) ≤ (I14 q0 8) → (K ((I14 q0 8) - (I11 q0 8)) I14)) ∧ (¬ (I14 q0 7) ≤ (I14 q0 8) → (wX4_placeOf G (I14 (q0) 8) I14 (fun r16 I15 => vp_in (r16) 24 ∧ ((¬ (I15 (q0 + 3) (r16).toNatClampNeg) = (-2) → (K ((I15 q0 8) - (I11 q0 8)) I15)) ∧ ((I15 (q0 + 3) (r16).toNatClampNeg) = (-2) → (wX4_placeOf G (I15 (q0) 8) I15 (fun r18 I17 => vp_in (r18) 24 ∧ (∀ I19 : pm_I, I19 = pm_up I17 (q0) 11 (I17 (q0 + 1) (r18).toNatClampNeg) → (∀ I20 : pm_I, I20 = pm_up I19 (q0) 12 ((31 * (I19 q0 12)) + (I19 q0 11)) → (∀ I21 : pm_I, I21 = pm_up I20 (q0) 8 ((I20 q0 8) + 1) → P13  I21)))))))))))  I11)) ∧ (¬ (I11 q0 7) ≤ x12 → (wX4_placeOf G (x12) I11 (fun r23 I22 => vp_in (r23) 24 ∧ (((I22 (q0 + 3) (r23).toNatClampNeg) < 0 → (P10 (x12 + 1) I22)) ∧ (¬ (I22 (q0 + 3) (r23).toNatClampNeg) < 0 → (vp_in (r23) 24 ∧ ((¬ (I22 (q0 + 4) (r23).toNatClampNeg) = x1 → (P10 (x12 + 1) I22)) ∧ ((I22 (q0 + 4) (r23).toNatClampNeg) = x1 → (vp_in (r23) 24 ∧ (∀ I24 : pm_I, I24 = pm_up I22 (q0 + 3) ((r23).toNatClampNeg) (-2) → (P10 (x12 + 1) I24)))))))))))) (I (q0) 8) I

set_option maxRecDepth 20000 in
theorem sX4_takeArrivals {G : pm_G} {l : Launch} (hG : pm_ok G) (q0 : Nat) (x1 : Int32) (I : pm_I) (K : Int32 → pm_I → Prop) (hk0 : pm_k G q0 (.inl 4)) (h : wX4_takeArrivals G q0 x1 I K) : pm_Ct G l yX4_takeArrivals cX4_takeArrivals 4 (some .int) { frames := 3, cells := 0, slots := 0, locals := 234 } [.ref (q0), .int (x1)] I (pm_Ki K) := by
  unfold wX4_takeArrivals at h
  refine pm_enter (by decide +kernel) hG rfl (Nat.le_of_ble_eq_true rfl) rfl (fun X hl hC hE => ?_)
  subst hl
  have hab : 0 ≤ 0 ∧ 0 ≤ 0 := ⟨Nat.le_refl 0, Nat.le_refl 0⟩
  have hC : pm_C G X cX4_takeArrivals 4 RX4 (some .int) { frames := 3, cells := 0, slots := 0, locals := 234 } := hC
  refine r_aload_n 0 hC dX4_takeArrivals_0 rfl rfl ?_
  refine r_getI4 1 (x := I (q0) 8) hC hk0 8 (by decide) tw_278 rfl rfl dX4_takeArrivals_1 ?_
  refine r_istore_n 4 [some (.ref (q0)), some (.int (x1)), some (.int (I (q0) 8)), none] hC dX4_takeArrivals_4 rfl (by decide) rfl ?_
  refine h (fun x12 I11 => pm_R G X 4 0 0 5 [some (.ref (q0)), some (.int (x1)), some (.int (x12)), none] [] I11) ?_
  clear h; intro x12 I11 h
  refine r_iload_n 5 hC dX4_takeArrivals_5 rfl rfl ?_
  refine r_aload_n 6 hC dX4_takeArrivals_6 rfl rfl ?_
  refine r_getI4 7 (x := I11 (q0) 7) hC hk0 7 (by decide) tw_276 rfl rfl dX4_takeArrivals_7 ?_
  refine r_icmp_ge 10 51 hC dX4_takeArrivals_10 (by decide) (fun hc => ?_) (fun hc => ?_)
  · replace h := h.1 hc
    refine r_aload_n 51 hC dX4_takeArrivals_51 rfl rfl ?_
    refine r_getI4 52 (x := I11 (q0) 8) hC hk0 8 (by decide) tw_278 rfl rfl dX4_takeArrivals_52 ?_
    refine r_istore_n 55 [some (.ref (q0)), some (.int (x1)), some (.int (I11 (q0) 8)), none] hC dX4_takeArrivals_55 rfl (by decide) rfl ?_
    refine r_weak (ls' := [some (.ref (q0)), none, some (.int (I11 (q0) 8)), none]) (And.intro rfl (And.intro rfl (trivial))) ?_
    refine h (fun  I14 => pm_R G X 4 0 0 56 [some (.ref (q0)), none, some (.int (I11 (q0) 8)), none] [] I14) ?_
    clear h; intro  I14 h
    refine r_aload_n 56 hC dX4_takeArrivals_56 rfl rfl ?_
    refine r_getI4 57 (x := I14 (q0) 8) hC hk0 8 (by decide) tw_278 rfl rfl dX4_takeArrivals_57 ?_
    refine r_aload_n 60 hC dX4_takeArrivals_60 rfl rfl ?_
    refine r_getI4 61 (x := I14 (q0) 7) hC hk0 7 (by decide) tw_276 rfl rfl dX4_takeArrivals_61 ?_
    refine r_icmp_ge 64 129 hC dX4_takeArrivals_64 (by decide) (fun hc => ?_) (fun hc => ?_)
    · replace h := h.1 hc
      refine r_aload_n 129 hC dX4_takeArrivals_129 rfl rfl ?_
      refine r_getI4 130 (x := I14 (q0) 8) hC hk0 8 (by decide) tw_278 rfl rfl dX4_takeArrivals_130 ?_
      refine r_iload_n 133 hC dX4_takeArrivals_133 rfl rfl ?_
      refine r_isub 134 hC dX4_takeArrivals_134 ?_
      exact r_iret 135 hC hE rfl dX4_takeArrivals_135 ⟨_, rfl, h⟩
    · replace h := h.2 hc
      refine r_aload_n 67 hC dX4_takeArrivals_67 rfl rfl ?_
      refine r_getR4 68 (r1 := q0 + 3) hC hk0 15 (by decide) tw_290 rfl rfl dX4_takeArrivals_68 ?_
      refine r_aload_n 71 hC dX4_takeArrivals_71 rfl rfl ?_
      refine r_getI4 72 (x := I14 (q0) 8) hC hk0 8 (by decide) tw_278 rfl rfl dX4_takeArrivals_72 ?_
      refine r_callS_i 75 (n := 1) [.int (I14 (q0) 8)] [.ref (q0 + 3)] hC dX4_takeArrivals_75 (by decide) (by decide) tw_919 tw_133 ⟨by decide, by decide, by decide +kernel⟩ tw_917 tw_918 rfl rfl (sX4_placeOf (l := pm_l X) hG (I14 (q0) 8) _ _ h) hab (Nat.le_of_ble_eq_true rfl) ?_
      clear h; intro r16 I15 h
      refine r_iald 78 hC ((pm_s4 hG hk0).2.2.1) h.1 dX4_takeArrivals_78 ?_
      replace h := h.2
      refine r_bipush 79 (v := -2) hC dX4_takeArrivals_79 (by decide) ?_
      refine r_icmp_ne 81 129 hC dX4_takeArrivals_81 (by decide) (fun hc => ?_) (fun hc => ?_)
      · replace h := h.1 hc
        refine r_aload_n 129 hC dX4_takeArrivals_129 rfl rfl ?_
        refine r_getI4 130 (x := I15 (q0) 8) hC hk0 8 (by decide) tw_278 rfl rfl dX4_takeArrivals_130 ?_
        refine r_iload_n 133 hC dX4_takeArrivals_133 rfl rfl ?_
        refine r_isub 134 hC dX4_takeArrivals_134 ?_
        exact r_iret 135 hC hE rfl dX4_takeArrivals_135 ⟨_, rfl, h⟩
      · replace h := h.2 hc
        refine r_aload_n 84 hC dX4_takeArrivals_84 rfl rfl ?_
        refine r_aload_n 85 hC dX4_takeArrivals_85 rfl rfl ?_
        refine r_getR4 86 (r1 := q0 + 1) hC hk0 13 (by decide) tw_288 rfl rfl dX4_takeArrivals_86 ?_
        refine r_aload_n 89 hC dX4_takeArrivals_89 rfl rfl ?_
        refine r_getI4 90 (x := I15 (q0) 8) hC hk0 8 (by decide) tw_278 rfl rfl dX4_takeArrivals_90 ?_
        refine r_callS_i 93 (n := 1) [.int (I15 (q0) 8)] [.ref (q0 + 1), .ref (q0)] hC dX4_takeArrivals_93 (by decide) (by decide) tw_919 tw_133 ⟨by decide, by decide, by decide +kernel⟩ tw_917 tw_918 rfl rfl (sX4_placeOf (l := pm_l X) hG (I15 (q0) 8) _ _ h) hab (Nat.le_of_ble_eq_true rfl) ?_
        clear h; intro r18 I17 h
        refine r_iald 96 hC ((pm_s4 hG hk0).1) h.1 dX4_takeArrivals_96 ?_
        replace h := h.2
        refine r_putI4 97 hC hk0 11 (by decide) tw_284 rfl rfl (by decide +kernel) ps_4_11 dX4_takeArrivals_97 (fun I19 hI => ?_)
        replace h := h I19 hI; clear hI
        refine r_aload_n 100 hC dX4_takeArrivals_100 rfl rfl ?_
        refine r_bipush 101 (v := 31) hC dX4_takeArrivals_101 (by decide) ?_
        refine r_aload_n 103 hC dX4_takeArrivals_103 rfl rfl ?_
        refine r_getI4 104 (x := I19 (q0) 12) hC hk0 12 (by decide) tw_286 rfl rfl dX4_takeArrivals_104 ?_
        refine r_imul 107 hC dX4_takeArrivals_107 ?_
        refine r_aload_n 108 hC dX4_takeArrivals_108 rfl rfl ?_
        refine r_getI4 109 (x := I19 (q0) 11) hC hk0 11 (by decide) tw_284 rfl rfl dX4_takeArrivals_109 ?_
        refine r_iadd 112 hC dX4_takeArrivals_112 ?_
        refine r_putI4 113 hC hk0 12 (by decide) tw_286 rfl rfl (by decide +kernel) ps_4_12 dX4_takeArrivals_113 (fun I20 hI => ?_)
        replace h := h I20 hI; clear hI
        refine r_aload_n 116 hC dX4_takeArrivals_116 rfl rfl ?_
        refine r_dup 117 hC dX4_takeArrivals_117 rfl ?_
        refine r_getI4 118 (x := I20 (q0) 8) hC hk0 8 (by decide) tw_278 rfl rfl dX4_takeArrivals_118 ?_
        refine r_iconst 121 (v := 1) hC dX4_takeArrivals_121 (by decide) ?_
        refine r_iadd 122 hC dX4_takeArrivals_122 ?_
        refine r_putI4 123 hC hk0 8 (by decide) tw_278 rfl rfl (by decide +kernel) ps_4_8 dX4_takeArrivals_123 (fun I21 hI => ?_)
        replace h := h I21 hI; clear hI
        refine r_goto 126 56 hC dX4_takeArrivals_126 (by decide) ?_
        exact h
  · replace h := h.2 hc
    refine r_iload_n 13 hC dX4_takeArrivals_13 rfl rfl ?_
    refine r_callS_i 14 (n := 1) [.int (x12)] [] hC dX4_takeArrivals_14 (by decide) (by decide) tw_919 tw_133 ⟨by decide, by decide, by decide +kernel⟩ tw_917 tw_918 rfl rfl (sX4_placeOf (l := pm_l X) hG (x12) _ _ h) hab (Nat.le_of_ble_eq_true rfl) ?_
    clear h; intro r23 I22 h
    refine r_istore_n 17 [some (.ref (q0)), some (.int (x1)), some (.int (x12)), some (.int (r23))] hC dX4_takeArrivals_17 rfl (by decide) rfl ?_
    refine r_aload_n 18 hC dX4_takeArrivals_18 rfl rfl ?_
    refine r_getR4 19 (r1 := q0 + 3) hC hk0 15 (by decide) tw_290 rfl rfl dX4_takeArrivals_19 ?_
    refine r_iload_n 22 hC dX4_takeArrivals_22 rfl rfl ?_
    refine r_iald 23 hC ((pm_s4 hG hk0).2.2.1) h.1 dX4_takeArrivals_23 ?_
    replace h := h.2
    refine r_if_lt 24 45 hC dX4_takeArrivals_24 (by decide) (fun hc => ?_) (fun hc => ?_)
    · replace h := h.1 hc
      refine r_iinc 45 (v := x12 + 1) [some (.ref (q0)), some (.int (x1)), some (.int (x12 + 1)), some (.int (r23))] hC dX4_takeArrivals_45 rfl (by rfl) (by decide) rfl ?_
      refine r_goto 48 5 hC dX4_takeArrivals_48 (by decide) ?_
      refine r_weak (ls' := [some (.ref (q0)), some (.int (x1)), some (.int (x12 + 1)), none]) (And.intro rfl (And.intro rfl (And.intro rfl (trivial)))) ?_
      exact h
    · replace h := h.2 hc
      refine r_aload_n 27 hC dX4_takeArrivals_27 rfl rfl ?_
      refine r_getR4 28 (r1 := q0 + 4) hC hk0 16 (by decide) tw_291 rfl rfl dX4_takeArrivals_28 ?_
      refine r_iload_n 31 hC dX4_takeArrivals_31 rfl rfl ?_
      refine r_iald 32 hC ((pm_s4 hG hk0).2.2.2) h.1 dX4_takeArrivals_32 ?_
      replace h := h.2
      refine r_iload_n 33 hC dX4_takeArrivals_33 rfl rfl ?_
      refine r_icmp_ne 34 45 hC dX4_takeArrivals_34 (by decide) (fun hc => ?_) (fun hc => ?_)
      · replace h := h.1 hc
        refine r_iinc 45 (v := x12 + 1) [some (.ref (q0)), some (.int (x1)), some (.int (x12 + 1)), some (.int (r23))] hC dX4_takeArrivals_45 rfl (by rfl) (by decide) rfl ?_
        refine r_goto 48 5 hC dX4_takeArrivals_48 (by decide) ?_
        refine r_weak (ls' := [some (.ref (q0)), some (.int (x1)), some (.int (x12 + 1)), none]) (And.intro rfl (And.intro rfl (And.intro rfl (trivial)))) ?_
        exact h
      · replace h := h.2 hc
        refine r_aload_n 37 hC dX4_takeArrivals_37 rfl rfl ?_
        refine r_getR4 38 (r1 := q0 + 3) hC hk0 15 (by decide) tw_290 rfl rfl dX4_takeArrivals_38 ?_
        refine r_iload_n 41 hC dX4_takeArrivals_41 rfl rfl ?_
        refine r_bipush 42 (v := -2) hC dX4_takeArrivals_42 (by decide) ?_
        refine r_iast 44 hC ((pm_s4 hG hk0).2.2.1) h.1 dX4_takeArrivals_44 (fun I24 hI => ?_)
        replace h := h.2
        replace h := h I24 hI; clear hI
        refine r_iinc 45 (v := x12 + 1) [some (.ref (q0)), some (.int (x1)), some (.int (x12 + 1)), some (.int (r23))] hC dX4_takeArrivals_45 rfl (by rfl) (by decide) rfl ?_
        refine r_goto 48 5 hC dX4_takeArrivals_48 (by decide) ?_
        refine r_weak (ls' := [some (.ref (q0)), some (.int (x1)), some (.int (x12 + 1)), none]) (And.intro rfl (And.intro rfl (And.intro rfl (trivial)))) ?_
        exact h

def wX4_dropEmptyOldPath (G : pm_G) (q0 : Nat) (I : pm_I) (K : pm_I → Prop) : Prop :=
  (¬ (I q0 5) = (-1) → (pm_lp2 (fun (P10 : Int32 → pm_I → Prop) (x12 : Int32) (I11 : pm_I) => ((I11 q0 7) ≤ x12 → (∀ I13 : pm_I, I13 = pm_up I11 (q0) 5 (-1) → K I13)) ∧ (¬ (I11 q0 7) ≤ x12 → (wX4_placeOf G (x12) I11 (fun r15 I14 => vp_in (r15) 24 ∧ ((¬ (I14 (q0 + 3) (r15).toNatClampNeg) = (I14 q0 5) → (P10 (x12 + 1) I14)) ∧ ((I14 (q0 + 3) (r15).toNatClampNeg) = (I14 q0 5) → K I14)))))) (I (q0) 8) I)) ∧ ((I q0 5) = (-1) → K I)

set_option maxRecDepth 20000 in
theorem sX4_dropEmptyOldPath {G : pm_G} {l : Launch} (hG : pm_ok G) (q0 : Nat) (I : pm_I) (K : pm_I → Prop) (hk0 : pm_k G q0 (.inl 4)) (h : wX4_dropEmptyOldPath G q0 I K) : pm_Ct G l yX4_dropEmptyOldPath cX4_dropEmptyOldPath 2 none { frames := 3, cells := 0, slots := 0, locals := 234 } [.ref (q0)] I (pm_Kv K) := by
  unfold wX4_dropEmptyOldPath at h
  refine pm_enter (by decide +kernel) hG rfl (Nat.le_of_ble_eq_true rfl) rfl (fun X hl hC hE => ?_)
  subst hl
  have hab : 0 ≤ 0 ∧ 0 ≤ 0 := ⟨Nat.le_refl 0, Nat.le_refl 0⟩
  have hC : pm_C G X cX4_dropEmptyOldPath 2 RX4 none { frames := 3, cells := 0, slots := 0, locals := 234 } := hC
  refine r_aload_n 0 hC dX4_dropEmptyOldPath_0 rfl rfl ?_
  refine r_getI4 1 (x := I (q0) 5) hC hk0 5 (by decide) tw_270 rfl rfl dX4_dropEmptyOldPath_1 ?_
  refine r_iconst 4 (v := -1) hC dX4_dropEmptyOldPath_4 (by decide) ?_
  refine r_icmp_ne 5 9 hC dX4_dropEmptyOldPath_5 (by decide) (fun hc => ?_) (fun hc => ?_)
  · replace h := h.1 hc
    refine r_aload_n 9 hC dX4_dropEmptyOldPath_9 rfl rfl ?_
    refine r_getI4 10 (x := I (q0) 8) hC hk0 8 (by decide) tw_278 rfl rfl dX4_dropEmptyOldPath_10 ?_
    refine r_istore_n 13 [some (.ref (q0)), some (.int (I (q0) 8))] hC dX4_dropEmptyOldPath_13 rfl (by decide) rfl ?_
    refine h (fun x12 I11 => pm_R G X 2 0 0 14 [some (.ref (q0)), some (.int (x12))] [] I11) ?_
    clear h; intro x12 I11 h
    refine r_iload_n 14 hC dX4_dropEmptyOldPath_14 rfl rfl ?_
    refine r_aload_n 15 hC dX4_dropEmptyOldPath_15 rfl rfl ?_
    refine r_getI4 16 (x := I11 (q0) 7) hC hk0 7 (by decide) tw_276 rfl rfl dX4_dropEmptyOldPath_16 ?_
    refine r_icmp_ge 19 45 hC dX4_dropEmptyOldPath_19 (by decide) (fun hc => ?_) (fun hc => ?_)
    · replace h := h.1 hc
      refine r_aload_n 45 hC dX4_dropEmptyOldPath_45 rfl rfl ?_
      refine r_iconst 46 (v := -1) hC dX4_dropEmptyOldPath_46 (by decide) ?_
      refine r_putI4 47 hC hk0 5 (by decide) tw_270 rfl rfl (by decide +kernel) ps_4_5 dX4_dropEmptyOldPath_47 (fun I13 hI => ?_)
      replace h := h I13 hI; clear hI
      exact r_vret 50 hC hE dX4_dropEmptyOldPath_50 ⟨rfl, h⟩
    · replace h := h.2 hc
      refine r_aload_n 22 hC dX4_dropEmptyOldPath_22 rfl rfl ?_
      refine r_getR4 23 (r1 := q0 + 3) hC hk0 15 (by decide) tw_290 rfl rfl dX4_dropEmptyOldPath_23 ?_
      refine r_iload_n 26 hC dX4_dropEmptyOldPath_26 rfl rfl ?_
      refine r_callS_i 27 (n := 1) [.int (x12)] [.ref (q0 + 3)] hC dX4_dropEmptyOldPath_27 (by decide) (by decide) tw_919 tw_133 ⟨by decide, by decide, by decide +kernel⟩ tw_917 tw_918 rfl rfl (sX4_placeOf (l := pm_l X) hG (x12) _ _ h) hab (Nat.le_of_ble_eq_true rfl) ?_
      clear h; intro r15 I14 h
      refine r_iald 30 hC ((pm_s4 hG hk0).2.2.1) h.1 dX4_dropEmptyOldPath_30 ?_
      replace h := h.2
      refine r_aload_n 31 hC dX4_dropEmptyOldPath_31 rfl rfl ?_
      refine r_getI4 32 (x := I14 (q0) 5) hC hk0 5 (by decide) tw_270 rfl rfl dX4_dropEmptyOldPath_32 ?_
      refine r_icmp_ne 35 39 hC dX4_dropEmptyOldPath_35 (by decide) (fun hc => ?_) (fun hc => ?_)
      · replace h := h.1 hc
        refine r_iinc 39 (v := x12 + 1) [some (.ref (q0)), some (.int (x12 + 1))] hC dX4_dropEmptyOldPath_39 rfl (by rfl) (by decide) rfl ?_
        refine r_goto 42 14 hC dX4_dropEmptyOldPath_42 (by decide) ?_
        exact h
      · replace h := h.2 hc
        exact r_vret 38 hC hE dX4_dropEmptyOldPath_38 ⟨rfl, h⟩
  · replace h := h.2 hc
    exact r_vret 8 hC hE dX4_dropEmptyOldPath_8 ⟨rfl, h⟩

def wX4_samePair (G : pm_G) (x0 : Int32) (x1 : Int32) (x2 : Int32) (x3 : Int32) (I : pm_I) (K : Int32 → pm_I → Prop) : Prop :=
  (¬ x0 = x2 → ((¬ x0 = x3 → K 0 I) ∧ (x0 = x3 → ((¬ x1 = x2 → K 0 I) ∧ (x1 = x2 → K 1 I))))) ∧ (x0 = x2 → ((x1 = x3 → K 1 I) ∧ (¬ x1 = x3 → ((¬ x0 = x3 → K 0 I) ∧ (x0 = x3 → ((¬ x1 = x2 → K 0 I) ∧ (x1 = x2 → K 1 I)))))))

set_option maxRecDepth 20000 in
theorem sX4_samePair {G : pm_G} {l : Launch} (hG : pm_ok G) (x0 : Int32) (x1 : Int32) (x2 : Int32) (x3 : Int32) (I : pm_I) (K : Int32 → pm_I → Prop)  (h : wX4_samePair G x0 x1 x2 x3 I K) : pm_Ct G l yX4_samePair cX4_samePair 4 (some .boolean) { frames := 1, cells := 0, slots := 0, locals := 64 } [.int (x0), .int (x1), .int (x2), .int (x3)] I (pm_Ki K) := by
  unfold wX4_samePair at h
  refine pm_enter (by decide +kernel) hG rfl (Nat.le_of_ble_eq_true rfl) rfl (fun X hl hC hE => ?_)
  subst hl
  have hab : 0 ≤ 0 ∧ 0 ≤ 0 := ⟨Nat.le_refl 0, Nat.le_refl 0⟩
  have hC : pm_C G X cX4_samePair 4 RX4 (some .boolean) { frames := 1, cells := 0, slots := 0, locals := 64 } := hC
  refine r_iload_n 0 hC dX4_samePair_0 rfl rfl ?_
  refine r_iload_n 1 hC dX4_samePair_1 rfl rfl ?_
  refine r_icmp_ne 2 10 hC dX4_samePair_2 (by decide) (fun hc => ?_) (fun hc => ?_)
  · replace h := h.1 hc
    refine r_iload_n 10 hC dX4_samePair_10 rfl rfl ?_
    refine r_iload_n 11 hC dX4_samePair_11 rfl rfl ?_
    refine r_icmp_ne 12 24 hC dX4_samePair_12 (by decide) (fun hc => ?_) (fun hc => ?_)
    · replace h := h.1 hc
      refine r_iconst 24 (v := 0) hC dX4_samePair_24 (by decide) ?_
      exact r_iret 25 hC hE rfl dX4_samePair_25 ⟨_, rfl, h⟩
    · replace h := h.2 hc
      refine r_iload_n 15 hC dX4_samePair_15 rfl rfl ?_
      refine r_iload_n 16 hC dX4_samePair_16 rfl rfl ?_
      refine r_icmp_ne 17 24 hC dX4_samePair_17 (by decide) (fun hc => ?_) (fun hc => ?_)
      · replace h := h.1 hc
        refine r_iconst 24 (v := 0) hC dX4_samePair_24 (by decide) ?_
        exact r_iret 25 hC hE rfl dX4_samePair_25 ⟨_, rfl, h⟩
      · replace h := h.2 hc
        refine r_iconst 20 (v := 1) hC dX4_samePair_20 (by decide) ?_
        refine r_goto 21 25 hC dX4_samePair_21 (by decide) ?_
        exact r_iret 25 hC hE rfl dX4_samePair_25 ⟨_, rfl, h⟩
  · replace h := h.2 hc
    refine r_iload_n 5 hC dX4_samePair_5 rfl rfl ?_
    refine r_iload_n 6 hC dX4_samePair_6 rfl rfl ?_
    refine r_icmp_eq 7 20 hC dX4_samePair_7 (by decide) (fun hc => ?_) (fun hc => ?_)
    · replace h := h.1 hc
      refine r_iconst 20 (v := 1) hC dX4_samePair_20 (by decide) ?_
      refine r_goto 21 25 hC dX4_samePair_21 (by decide) ?_
      exact r_iret 25 hC hE rfl dX4_samePair_25 ⟨_, rfl, h⟩
    · replace h := h.2 hc
      refine r_iload_n 10 hC dX4_samePair_10 rfl rfl ?_
      refine r_iload_n 11 hC dX4_samePair_11 rfl rfl ?_
      refine r_icmp_ne 12 24 hC dX4_samePair_12 (by decide) (fun hc => ?_) (fun hc => ?_)
      · replace h := h.1 hc
        refine r_iconst 24 (v := 0) hC dX4_samePair_24 (by decide) ?_
        exact r_iret 25 hC hE rfl dX4_samePair_25 ⟨_, rfl, h⟩
      · replace h := h.2 hc
        refine r_iload_n 15 hC dX4_samePair_15 rfl rfl ?_
        refine r_iload_n 16 hC dX4_samePair_16 rfl rfl ?_
        refine r_icmp_ne 17 24 hC dX4_samePair_17 (by decide) (fun hc => ?_) (fun hc => ?_)
        · replace h := h.1 hc
          refine r_iconst 24 (v := 0) hC dX4_samePair_24 (by decide) ?_
          exact r_iret 25 hC hE rfl dX4_samePair_25 ⟨_, rfl, h⟩
        · replace h := h.2 hc
          refine r_iconst 20 (v := 1) hC dX4_samePair_20 (by decide) ?_
          refine r_goto 21 25 hC dX4_samePair_21 (by decide) ?_
          exact r_iret 25 hC hE rfl dX4_samePair_25 ⟨_, rfl, h⟩

def wX4_routeUses (G : pm_G) (q0 : Nat) (x1 : Int32) (x2 : Int32) (x3 : Int32) (I : pm_I) (K : Int32 → pm_I → Prop) : Prop :=
  (¬ x1 = 100 → ((x1 < 0 → K 0 I) ∧ (¬ x1 < 0 → (wX4_samePair G (I (q0) 1) (x1) (x2) (x3) I (fun r11 I10 => (¬ r11 = 0 → K 1 I10) ∧ (r11 = 0 → (wX4_samePair G (x1) (I10 (q0) 2) (x2) (x3) I10 (fun r13 I12 => (r13 = 0 → K 0 I12) ∧ (¬ r13 = 0 → K 1 I12))))))))) ∧ (x1 = 100 → (wX4_samePair G (I (q0) 1) (I (q0) 2) (x2) (x3) I (fun r15 I14 => ((r15) = 0 ∨ (r15) = 1) ∧ K (r15) I14)))

set_option maxRecDepth 20000 in
theorem sX4_routeUses {G : pm_G} {l : Launch} (hG : pm_ok G) (q0 : Nat) (x1 : Int32) (x2 : Int32) (x3 : Int32) (I : pm_I) (K : Int32 → pm_I → Prop) (hk0 : pm_k G q0 (.inl 4)) (h : wX4_routeUses G q0 x1 x2 x3 I K) : pm_Ct G l yX4_routeUses cX4_routeUses 4 (some .boolean) { frames := 2, cells := 0, slots := 0, locals := 151 } [.ref (q0), .int (x1), .int (x2), .int (x3)] I (pm_Ki K) := by
  unfold wX4_routeUses at h
  refine pm_enter (by decide +kernel) hG rfl (Nat.le_of_ble_eq_true rfl) rfl (fun X hl hC hE => ?_)
  subst hl
  have hab : 0 ≤ 0 ∧ 0 ≤ 0 := ⟨Nat.le_refl 0, Nat.le_refl 0⟩
  have hC : pm_C G X cX4_routeUses 4 RX4 (some .boolean) { frames := 2, cells := 0, slots := 0, locals := 151 } := hC
  refine r_iload_n 0 hC dX4_routeUses_0 rfl rfl ?_
  refine r_bipush 1 (v := 100) hC dX4_routeUses_1 (by decide) ?_
  refine r_icmp_ne 3 20 hC dX4_routeUses_3 (by decide) (fun hc => ?_) (fun hc => ?_)
  · replace h := h.1 hc
    refine r_iload_n 20 hC dX4_routeUses_20 rfl rfl ?_
    refine r_if_lt 21 54 hC dX4_routeUses_21 (by decide) (fun hc => ?_) (fun hc => ?_)
    · replace h := h.1 hc
      refine r_iconst 54 (v := 0) hC dX4_routeUses_54 (by decide) ?_
      exact r_iret 55 hC hE rfl dX4_routeUses_55 ⟨_, rfl, h⟩
    · replace h := h.2 hc
      refine r_aload_n 24 hC dX4_routeUses_24 rfl rfl ?_
      refine r_getI4 25 (x := I (q0) 1) hC hk0 1 (by decide) tw_258 rfl rfl dX4_routeUses_25 ?_
      refine r_iload_n 28 hC dX4_routeUses_28 rfl rfl ?_
      refine r_iload_n 29 hC dX4_routeUses_29 rfl rfl ?_
      refine r_iload_n 30 hC dX4_routeUses_30 rfl rfl ?_
      refine r_callS_i 31 (n := 4) [.int (I (q0) 1), .int (x1), .int (x2), .int (x3)] [] hC dX4_routeUses_31 (by decide) (by decide) tw_1120 tw_133 ⟨by decide, by decide, by decide +kernel⟩ tw_1118 tw_1119 rfl rfl (sX4_samePair (l := pm_l X) hG (I (q0) 1) (x1) (x2) (x3) _ _ h) hab (Nat.le_of_ble_eq_true rfl) ?_
      clear h; intro r11 I10 h
      refine r_if_ne 34 50 hC dX4_routeUses_34 (by decide) (fun hc => ?_) (fun hc => ?_)
      · replace h := h.1 hc
        refine r_iconst 50 (v := 1) hC dX4_routeUses_50 (by decide) ?_
        refine r_goto 51 55 hC dX4_routeUses_51 (by decide) ?_
        exact r_iret 55 hC hE rfl dX4_routeUses_55 ⟨_, rfl, h⟩
      · replace h := h.2 hc
        refine r_iload_n 37 hC dX4_routeUses_37 rfl rfl ?_
        refine r_aload_n 38 hC dX4_routeUses_38 rfl rfl ?_
        refine r_getI4 39 (x := I10 (q0) 2) hC hk0 2 (by decide) tw_261 rfl rfl dX4_routeUses_39 ?_
        refine r_iload_n 42 hC dX4_routeUses_42 rfl rfl ?_
        refine r_iload_n 43 hC dX4_routeUses_43 rfl rfl ?_
        refine r_callS_i 44 (n := 4) [.int (x1), .int (I10 (q0) 2), .int (x2), .int (x3)] [] hC dX4_routeUses_44 (by decide) (by decide) tw_1120 tw_133 ⟨by decide, by decide, by decide +kernel⟩ tw_1118 tw_1119 rfl rfl (sX4_samePair (l := pm_l X) hG (x1) (I10 (q0) 2) (x2) (x3) _ _ h) hab (Nat.le_of_ble_eq_true rfl) ?_
        clear h; intro r13 I12 h
        refine r_if_eq 47 54 hC dX4_routeUses_47 (by decide) (fun hc => ?_) (fun hc => ?_)
        · replace h := h.1 hc
          refine r_iconst 54 (v := 0) hC dX4_routeUses_54 (by decide) ?_
          exact r_iret 55 hC hE rfl dX4_routeUses_55 ⟨_, rfl, h⟩
        · replace h := h.2 hc
          refine r_iconst 50 (v := 1) hC dX4_routeUses_50 (by decide) ?_
          refine r_goto 51 55 hC dX4_routeUses_51 (by decide) ?_
          exact r_iret 55 hC hE rfl dX4_routeUses_55 ⟨_, rfl, h⟩
  · replace h := h.2 hc
    refine r_aload_n 6 hC dX4_routeUses_6 rfl rfl ?_
    refine r_getI4 7 (x := I (q0) 1) hC hk0 1 (by decide) tw_258 rfl rfl dX4_routeUses_7 ?_
    refine r_aload_n 10 hC dX4_routeUses_10 rfl rfl ?_
    refine r_getI4 11 (x := I (q0) 2) hC hk0 2 (by decide) tw_261 rfl rfl dX4_routeUses_11 ?_
    refine r_iload_n 14 hC dX4_routeUses_14 rfl rfl ?_
    refine r_iload_n 15 hC dX4_routeUses_15 rfl rfl ?_
    refine r_callS_i 16 (n := 4) [.int (I (q0) 1), .int (I (q0) 2), .int (x2), .int (x3)] [] hC dX4_routeUses_16 (by decide) (by decide) tw_1120 tw_133 ⟨by decide, by decide, by decide +kernel⟩ tw_1118 tw_1119 rfl rfl (sX4_samePair (l := pm_l X) hG (I (q0) 1) (I (q0) 2) (x2) (x3) _ _ h) hab (Nat.le_of_ble_eq_true rfl) ?_
    clear h; intro r15 I14 h
    exact r_iret 19 hC hE (pm_nz h.1).1 dX4_routeUses_19 ⟨_, rfl, h.2⟩

def wX4_moveMessages (G : pm_G) (q0 : Nat) (x1 : Int32) (x2 : Int32) (x3 : Int32) (I : pm_I) (K : Int32 → pm_I → Prop) : Prop :=
  pm_lp3 (fun (P10 : Int32 → Int32 → pm_I → Prop) (x12 : Int32) (x13 : Int32) (I11 : pm_I) => ((I11 q0 7) ≤ x13 → (K (x12) I11)) ∧ (¬ (I11 q0 7) ≤ x13 → (wX4_placeOf G (x13) I11 (fun r15 I14 => vp_in (r15) 24 ∧ (wX4_routeUses G (q0) (I14 (q0 + 3) (r15).toNatClampNeg) (x1) (x2) I14 (fun r17 I16 => (r17 = 0 → (P10 (x12) (x13 + 1) I16)) ∧ (¬ r17 = 0 → (vp_in (r15) 24 ∧ (∀ I18 : pm_I, I18 = pm_up I16 (q0 + 3) ((r15).toNatClampNeg) (I16 (q0) 4) → (vp_in (r15) 24 ∧ (∀ I19 : pm_I, I19 = pm_up I18 (q0 + 4) ((r15).toNatClampNeg) (x3) → (P10 (x12 + 1) (x13 + 1) I19)))))))))))) (0) (I (q0) 8) I

set_option maxRecDepth 20000 in
theorem sX4_moveMessages {G : pm_G} {l : Launch} (hG : pm_ok G) (q0 : Nat) (x1 : Int32) (x2 : Int32) (x3 : Int32) (I : pm_I) (K : Int32 → pm_I → Prop) (hk0 : pm_k G q0 (.inl 4)) (h : wX4_moveMessages G q0 x1 x2 x3 I K) : pm_Ct G l yX4_moveMessages cX4_moveMessages 7 (some .int) { frames := 3, cells := 0, slots := 0, locals := 238 } [.ref (q0), .int (x1), .int (x2), .int (x3)] I (pm_Ki K) := by
  unfold wX4_moveMessages at h
  refine pm_enter (by decide +kernel) hG rfl (Nat.le_of_ble_eq_true rfl) rfl (fun X hl hC hE => ?_)
  subst hl
  have hab : 0 ≤ 0 ∧ 0 ≤ 0 := ⟨Nat.le_refl 0, Nat.le_refl 0⟩
  have hC : pm_C G X cX4_moveMessages 7 RX4 (some .int) { frames := 3, cells := 0, slots := 0, locals := 238 } := hC
  refine r_iconst 0 (v := 0) hC dX4_moveMessages_0 (by decide) ?_
  refine r_istore 1 [some (.ref (q0)), some (.int (x1)), some (.int (x2)), some (.int (x3)), some (.int (0)), none, none] hC dX4_moveMessages_1 (by decide) rfl ?_
  refine r_aload_n 3 hC dX4_moveMessages_3 rfl rfl ?_
  refine r_getI4 4 (x := I (q0) 8) hC hk0 8 (by decide) tw_278 rfl rfl dX4_moveMessages_4 ?_
  refine r_istore 7 [some (.ref (q0)), some (.int (x1)), some (.int (x2)), some (.int (x3)), some (.int (0)), some (.int (I (q0) 8)), none] hC dX4_moveMessages_7 (by decide) rfl ?_
  refine h (fun x12 x13 I11 => pm_R G X 7 0 0 9 [some (.ref (q0)), some (.int (x1)), some (.int (x2)), some (.int (x3)), some (.int (x12)), some (.int (x13)), none] [] I11) ?_
  clear h; intro x12 x13 I11 h
  refine r_iload 9 hC dX4_moveMessages_9 rfl ?_
  refine r_aload_n 11 hC dX4_moveMessages_11 rfl rfl ?_
  refine r_getI4 12 (x := I11 (q0) 7) hC hk0 7 (by decide) tw_276 rfl rfl dX4_moveMessages_12 ?_
  refine r_icmp_ge 15 69 hC dX4_moveMessages_15 (by decide) (fun hc => ?_) (fun hc => ?_)
  · replace h := h.1 hc
    refine r_iload 69 hC dX4_moveMessages_69 rfl ?_
    exact r_iret 71 hC hE rfl dX4_moveMessages_71 ⟨_, rfl, h⟩
  · replace h := h.2 hc
    refine r_iload 18 hC dX4_moveMessages_18 rfl ?_
    refine r_callS_i 20 (n := 1) [.int (x13)] [] hC dX4_moveMessages_20 (by decide) (by decide) tw_919 tw_133 ⟨by decide, by decide, by decide +kernel⟩ tw_917 tw_918 rfl rfl (sX4_placeOf (l := pm_l X) hG (x13) _ _ h) hab (Nat.le_of_ble_eq_true rfl) ?_
    clear h; intro r15 I14 h
    refine r_istore 23 [some (.ref (q0)), some (.int (x1)), some (.int (x2)), some (.int (x3)), some (.int (x12)), some (.int (x13)), some (.int (r15))] hC dX4_moveMessages_23 (by decide) rfl ?_
    refine r_aload_n 25 hC dX4_moveMessages_25 rfl rfl ?_
    refine r_aload_n 26 hC dX4_moveMessages_26 rfl rfl ?_
    refine r_getR4 27 (r1 := q0 + 3) hC hk0 15 (by decide) tw_290 rfl rfl dX4_moveMessages_27 ?_
    refine r_iload 30 hC dX4_moveMessages_30 rfl ?_
    refine r_iald 32 hC ((pm_s4 hG hk0).2.2.1) h.1 dX4_moveMessages_32 ?_
    replace h := h.2
    refine r_iload_n 33 hC dX4_moveMessages_33 rfl rfl ?_
    refine r_iload_n 34 hC dX4_moveMessages_34 rfl rfl ?_
    refine r_callV_i 35 (n := 3) [.int (I14 (q0 + 3) (r15).toNatClampNeg), .int (x1), .int (x2)] [] hC hk0 rfl dX4_moveMessages_35 (by decide) (by decide) tw_1117 tw_133 ⟨by decide, by decide, by decide +kernel⟩ tw_1125 tw_1116 tw_73 rfl rfl (sX4_routeUses (l := pm_l X) hG (q0) (I14 (q0 + 3) (r15).toNatClampNeg) (x1) (x2) _ _ hk0 h) hab (Nat.le_of_ble_eq_true rfl) ?_
    clear h; intro r17 I16 h
    refine r_if_eq 38 63 hC dX4_moveMessages_38 (by decide) (fun hc => ?_) (fun hc => ?_)
    · replace h := h.1 hc
      refine r_iinc 63 (v := x13 + 1) [some (.ref (q0)), some (.int (x1)), some (.int (x2)), some (.int (x3)), some (.int (x12)), some (.int (x13 + 1)), some (.int (r15))] hC dX4_moveMessages_63 rfl (by rfl) (by decide) rfl ?_
      refine r_goto 66 9 hC dX4_moveMessages_66 (by decide) ?_
      refine r_weak (ls' := [some (.ref (q0)), some (.int (x1)), some (.int (x2)), some (.int (x3)), some (.int (x12)), some (.int (x13 + 1)), none]) (And.intro rfl (And.intro rfl (And.intro rfl (And.intro rfl (And.intro rfl (And.intro rfl (trivial))))))) ?_
      exact h
    · replace h := h.2 hc
      refine r_aload_n 41 hC dX4_moveMessages_41 rfl rfl ?_
      refine r_getR4 42 (r1 := q0 + 3) hC hk0 15 (by decide) tw_290 rfl rfl dX4_moveMessages_42 ?_
      refine r_iload 45 hC dX4_moveMessages_45 rfl ?_
      refine r_aload_n 47 hC dX4_moveMessages_47 rfl rfl ?_
      refine r_getI4 48 (x := I16 (q0) 4) hC hk0 4 (by decide) tw_266 rfl rfl dX4_moveMessages_48 ?_
      refine r_iast 51 hC ((pm_s4 hG hk0).2.2.1) h.1 dX4_moveMessages_51 (fun I18 hI => ?_)
      replace h := h.2
      replace h := h I18 hI; clear hI
      refine r_aload_n 52 hC dX4_moveMessages_52 rfl rfl ?_
      refine r_getR4 53 (r1 := q0 + 4) hC hk0 16 (by decide) tw_291 rfl rfl dX4_moveMessages_53 ?_
      refine r_iload 56 hC dX4_moveMessages_56 rfl ?_
      refine r_iload_n 58 hC dX4_moveMessages_58 rfl rfl ?_
      refine r_iast 59 hC ((pm_s4 hG hk0).2.2.2) h.1 dX4_moveMessages_59 (fun I19 hI => ?_)
      replace h := h.2
      replace h := h I19 hI; clear hI
      refine r_iinc 60 (v := x12 + 1) [some (.ref (q0)), some (.int (x1)), some (.int (x2)), some (.int (x3)), some (.int (x12 + 1)), some (.int (x13)), some (.int (r15))] hC dX4_moveMessages_60 rfl (by rfl) (by decide) rfl ?_
      refine r_iinc 63 (v := x13 + 1) [some (.ref (q0)), some (.int (x1)), some (.int (x2)), some (.int (x3)), some (.int (x12 + 1)), some (.int (x13 + 1)), some (.int (r15))] hC dX4_moveMessages_63 rfl (by rfl) (by decide) rfl ?_
      refine r_goto 66 9 hC dX4_moveMessages_66 (by decide) ?_
      refine r_weak (ls' := [some (.ref (q0)), some (.int (x1)), some (.int (x2)), some (.int (x3)), some (.int (x12 + 1)), some (.int (x13 + 1)), none]) (And.intro rfl (And.intro rfl (And.intro rfl (And.intro rfl (And.intro rfl (And.intro rfl (trivial))))))) ?_
      exact h

def wX4_leadsOver (G : pm_G) (q0 : Nat) (x1 : Int32) (I : pm_I) (K : Int32 → pm_I → Prop) : Prop :=
  ((I q0 0) = 0 → K 0 I) ∧ (¬ (I q0 0) = 0 → (((I q0 4) = x1 → K 1 I) ∧ (¬ (I q0 4) = x1 → ((¬ (I q0 5) = x1 → K 0 I) ∧ ((I q0 5) = x1 → K 1 I)))))

set_option maxRecDepth 20000 in
theorem sX4_leadsOver {G : pm_G} {l : Launch} (hG : pm_ok G) (q0 : Nat) (x1 : Int32) (I : pm_I) (K : Int32 → pm_I → Prop) (hk0 : pm_k G q0 (.inl 4)) (h : wX4_leadsOver G q0 x1 I K) : pm_Ct G l yX4_leadsOver cX4_leadsOver 2 (some .boolean) { frames := 1, cells := 0, slots := 0, locals := 64 } [.ref (q0), .int (x1)] I (pm_Ki K) := by
  unfold wX4_leadsOver at h
  refine pm_enter (by decide +kernel) hG rfl (Nat.le_of_ble_eq_true rfl) rfl (fun X hl hC hE => ?_)
  subst hl
  have hab : 0 ≤ 0 ∧ 0 ≤ 0 := ⟨Nat.le_refl 0, Nat.le_refl 0⟩
  have hC : pm_C G X cX4_leadsOver 2 RX4 (some .boolean) { frames := 1, cells := 0, slots := 0, locals := 64 } := hC
  refine r_aload_n 0 hC dX4_leadsOver_0 rfl rfl ?_
  refine r_getI4 1 (x := I (q0) 0) hC hk0 0 (by decide) tw_255 rfl rfl dX4_leadsOver_1 ?_
  refine r_if_eq 4 27 hC dX4_leadsOver_4 (by decide) (fun hc => ?_) (fun hc => ?_)
  · replace h := h.1 hc
    refine r_iconst 27 (v := 0) hC dX4_leadsOver_27 (by decide) ?_
    exact r_iret 28 hC hE rfl dX4_leadsOver_28 ⟨_, rfl, h⟩
  · replace h := h.2 hc
    refine r_aload_n 7 hC dX4_leadsOver_7 rfl rfl ?_
    refine r_getI4 8 (x := I (q0) 4) hC hk0 4 (by decide) tw_266 rfl rfl dX4_leadsOver_8 ?_
    refine r_iload_n 11 hC dX4_leadsOver_11 rfl rfl ?_
    refine r_icmp_eq 12 23 hC dX4_leadsOver_12 (by decide) (fun hc => ?_) (fun hc => ?_)
    · replace h := h.1 hc
      refine r_iconst 23 (v := 1) hC dX4_leadsOver_23 (by decide) ?_
      refine r_goto 24 28 hC dX4_leadsOver_24 (by decide) ?_
      exact r_iret 28 hC hE rfl dX4_leadsOver_28 ⟨_, rfl, h⟩
    · replace h := h.2 hc
      refine r_aload_n 15 hC dX4_leadsOver_15 rfl rfl ?_
      refine r_getI4 16 (x := I (q0) 5) hC hk0 5 (by decide) tw_270 rfl rfl dX4_leadsOver_16 ?_
      refine r_iload_n 19 hC dX4_leadsOver_19 rfl rfl ?_
      refine r_icmp_ne 20 27 hC dX4_leadsOver_20 (by decide) (fun hc => ?_) (fun hc => ?_)
      · replace h := h.1 hc
        refine r_iconst 27 (v := 0) hC dX4_leadsOver_27 (by decide) ?_
        exact r_iret 28 hC hE rfl dX4_leadsOver_28 ⟨_, rfl, h⟩
      · replace h := h.2 hc
        refine r_iconst 23 (v := 1) hC dX4_leadsOver_23 (by decide) ?_
        refine r_goto 24 28 hC dX4_leadsOver_24 (by decide) ?_
        exact r_iret 28 hC hE rfl dX4_leadsOver_28 ⟨_, rfl, h⟩

def wX4_stateOf (G : pm_G) (x0 : Int32) (I : pm_I) (K : Int32 → pm_I → Prop) : Prop :=
  (¬ x0 = (-1) → ((¬ x0 = (-2) → (K (1) I)) ∧ (x0 = (-2) → (K (2) I)))) ∧ (x0 = (-1) → (K (0) I))

set_option maxRecDepth 20000 in
theorem sX4_stateOf {G : pm_G} {l : Launch} (hG : pm_ok G) (x0 : Int32) (I : pm_I) (K : Int32 → pm_I → Prop)  (h : wX4_stateOf G x0 I K) : pm_Ct G l yX4_stateOf cX4_stateOf 1 (some .int) { frames := 1, cells := 0, slots := 0, locals := 64 } [.int (x0)] I (pm_Ki K) := by
  unfold wX4_stateOf at h
  refine pm_enter (by decide +kernel) hG rfl (Nat.le_of_ble_eq_true rfl) rfl (fun X hl hC hE => ?_)
  subst hl
  have hab : 0 ≤ 0 ∧ 0 ≤ 0 := ⟨Nat.le_refl 0, Nat.le_refl 0⟩
  have hC : pm_C G X cX4_stateOf 1 RX4 (some .int) { frames := 1, cells := 0, slots := 0, locals := 64 } := hC
  refine r_iload_n 0 hC dX4_stateOf_0 rfl rfl ?_
  refine r_iconst 1 (v := -1) hC dX4_stateOf_1 (by decide) ?_
  refine r_icmp_ne 2 7 hC dX4_stateOf_2 (by decide) (fun hc => ?_) (fun hc => ?_)
  · replace h := h.1 hc
    refine r_iload_n 7 hC dX4_stateOf_7 rfl rfl ?_
    refine r_bipush 8 (v := -2) hC dX4_stateOf_8 (by decide) ?_
    refine r_icmp_ne 10 17 hC dX4_stateOf_10 (by decide) (fun hc => ?_) (fun hc => ?_)
    · replace h := h.1 hc
      refine r_iconst 17 (v := 1) hC dX4_stateOf_17 (by decide) ?_
      exact r_iret 18 hC hE rfl dX4_stateOf_18 ⟨_, rfl, h⟩
    · replace h := h.2 hc
      refine r_iconst 13 (v := 2) hC dX4_stateOf_13 (by decide) ?_
      refine r_goto 14 18 hC dX4_stateOf_14 (by decide) ?_
      exact r_iret 18 hC hE rfl dX4_stateOf_18 ⟨_, rfl, h⟩
  · replace h := h.2 hc
    refine r_iconst 5 (v := 0) hC dX4_stateOf_5 (by decide) ?_
    exact r_iret 6 hC hE rfl dX4_stateOf_6 ⟨_, rfl, h⟩

def wX4_countUndelivered (G : pm_G) (q0 : Nat) (x1 : Int32) (I : pm_I) (K : Int32 → pm_I → Prop) : Prop :=
  pm_lp3 (fun (P10 : Int32 → Int32 → pm_I → Prop) (x12 : Int32) (x13 : Int32) (I11 : pm_I) => ((I11 q0 7) ≤ x13 → (K (x12) I11)) ∧ (¬ (I11 q0 7) ≤ x13 → (wX4_placeOf G (x13) I11 (fun r15 I14 => vp_in (r15) 24 ∧ (wX4_stateOf G (I14 (q0 + 3) (r15).toNatClampNeg) I14 (fun r17 I16 => (¬ r17 = x1 → (P10 (x12) (x13 + 1) I16)) ∧ (r17 = x1 → (P10 (x12 + 1) (x13 + 1) I16)))))))) (0) (I (q0) 8) I

set_option maxRecDepth 20000 in
theorem sX4_countUndelivered {G : pm_G} {l : Launch} (hG : pm_ok G) (q0 : Nat) (x1 : Int32) (I : pm_I) (K : Int32 → pm_I → Prop) (hk0 : pm_k G q0 (.inl 4)) (h : wX4_countUndelivered G q0 x1 I K) : pm_Ct G l yX4_countUndelivered cX4_countUndelivered 4 (some .int) { frames := 3, cells := 0, slots := 0, locals := 234 } [.ref (q0), .int (x1)] I (pm_Ki K) := by
  unfold wX4_countUndelivered at h
  refine pm_enter (by decide +kernel) hG rfl (Nat.le_of_ble_eq_true rfl) rfl (fun X hl hC hE => ?_)
  subst hl
  have hab : 0 ≤ 0 ∧ 0 ≤ 0 := ⟨Nat.le_refl 0, Nat.le_refl 0⟩
  have hC : pm_C G X cX4_countUndelivered 4 RX4 (some .int) { frames := 3, cells := 0, slots := 0, locals := 234 } := hC
  refine r_iconst 0 (v := 0) hC dX4_countUndelivered_0 (by decide) ?_
  refine r_istore_n 1 [some (.ref (q0)), some (.int (x1)), some (.int (0)), none] hC dX4_countUndelivered_1 rfl (by decide) rfl ?_
  refine r_aload_n 2 hC dX4_countUndelivered_2 rfl rfl ?_
  refine r_getI4 3 (x := I (q0) 8) hC hk0 8 (by decide) tw_278 rfl rfl dX4_countUndelivered_3 ?_
  refine r_istore_n 6 [some (.ref (q0)), some (.int (x1)), some (.int (0)), some (.int (I (q0) 8))] hC dX4_countUndelivered_6 rfl (by decide) rfl ?_
  refine h (fun x12 x13 I11 => pm_R G X 4 0 0 7 [some (.ref (q0)), some (.int (x1)), some (.int (x12)), some (.int (x13))] [] I11) ?_
  clear h; intro x12 x13 I11 h
  refine r_iload_n 7 hC dX4_countUndelivered_7 rfl rfl ?_
  refine r_aload_n 8 hC dX4_countUndelivered_8 rfl rfl ?_
  refine r_getI4 9 (x := I11 (q0) 7) hC hk0 7 (by decide) tw_276 rfl rfl dX4_countUndelivered_9 ?_
  refine r_icmp_ge 12 40 hC dX4_countUndelivered_12 (by decide) (fun hc => ?_) (fun hc => ?_)
  · replace h := h.1 hc
    refine r_iload_n 40 hC dX4_countUndelivered_40 rfl rfl ?_
    exact r_iret 41 hC hE rfl dX4_countUndelivered_41 ⟨_, rfl, h⟩
  · replace h := h.2 hc
    refine r_aload_n 15 hC dX4_countUndelivered_15 rfl rfl ?_
    refine r_getR4 16 (r1 := q0 + 3) hC hk0 15 (by decide) tw_290 rfl rfl dX4_countUndelivered_16 ?_
    refine r_iload_n 19 hC dX4_countUndelivered_19 rfl rfl ?_
    refine r_callS_i 20 (n := 1) [.int (x13)] [.ref (q0 + 3)] hC dX4_countUndelivered_20 (by decide) (by decide) tw_919 tw_133 ⟨by decide, by decide, by decide +kernel⟩ tw_917 tw_918 rfl rfl (sX4_placeOf (l := pm_l X) hG (x13) _ _ h) hab (Nat.le_of_ble_eq_true rfl) ?_
    clear h; intro r15 I14 h
    refine r_iald 23 hC ((pm_s4 hG hk0).2.2.1) h.1 dX4_countUndelivered_23 ?_
    replace h := h.2
    refine r_callS_i 24 (n := 1) [.int (I14 (q0 + 3) (r15).toNatClampNeg)] [] hC dX4_countUndelivered_24 (by decide) (by decide) tw_925 tw_133 ⟨by decide, by decide, by decide +kernel⟩ tw_923 tw_924 rfl rfl (sX4_stateOf (l := pm_l X) hG (I14 (q0 + 3) (r15).toNatClampNeg) _ _ h) hab (Nat.le_of_ble_eq_true rfl) ?_
    clear h; intro r17 I16 h
    refine r_iload_n 27 hC dX4_countUndelivered_27 rfl rfl ?_
    refine r_icmp_ne 28 34 hC dX4_countUndelivered_28 (by decide) (fun hc => ?_) (fun hc => ?_)
    · replace h := h.1 hc
      refine r_iinc 34 (v := x13 + 1) [some (.ref (q0)), some (.int (x1)), some (.int (x12)), some (.int (x13 + 1))] hC dX4_countUndelivered_34 rfl (by rfl) (by decide) rfl ?_
      refine r_goto 37 7 hC dX4_countUndelivered_37 (by decide) ?_
      exact h
    · replace h := h.2 hc
      refine r_iinc 31 (v := x12 + 1) [some (.ref (q0)), some (.int (x1)), some (.int (x12 + 1)), some (.int (x13))] hC dX4_countUndelivered_31 rfl (by rfl) (by decide) rfl ?_
      refine r_iinc 34 (v := x13 + 1) [some (.ref (q0)), some (.int (x1)), some (.int (x12 + 1)), some (.int (x13 + 1))] hC dX4_countUndelivered_34 rfl (by rfl) (by decide) rfl ?_
      refine r_goto 37 7 hC dX4_countUndelivered_37 (by decide) ?_
      exact h

def wX4_firstNeededKey (G : pm_G) (q0 : Nat) (I : pm_I) (K : Int32 → pm_I → Prop) : Prop :=
  ((I q0 7) ≤ (I q0 8) → (K (I (q0) 9) I)) ∧ (¬ (I q0 7) ≤ (I q0 8) → (wX4_placeOf G (I (q0) 8) I (fun r11 I10 => vp_in (r11) 24 ∧ (K (I10 (q0 + 2) (r11).toNatClampNeg) I10))))

set_option maxRecDepth 20000 in
theorem sX4_firstNeededKey {G : pm_G} {l : Launch} (hG : pm_ok G) (q0 : Nat) (I : pm_I) (K : Int32 → pm_I → Prop) (hk0 : pm_k G q0 (.inl 4)) (h : wX4_firstNeededKey G q0 I K) : pm_Ct G l yX4_firstNeededKey cX4_firstNeededKey 1 (some .int) { frames := 3, cells := 0, slots := 0, locals := 234 } [.ref (q0)] I (pm_Ki K) := by
  unfold wX4_firstNeededKey at h
  refine pm_enter (by decide +kernel) hG rfl (Nat.le_of_ble_eq_true rfl) rfl (fun X hl hC hE => ?_)
  subst hl
  have hab : 0 ≤ 0 ∧ 0 ≤ 0 := ⟨Nat.le_refl 0, Nat.le_refl 0⟩
  have hC : pm_C G X cX4_firstNeededKey 1 RX4 (some .int) { frames := 3, cells := 0, slots := 0, locals := 234 } := hC
  refine r_aload_n 0 hC dX4_firstNeededKey_0 rfl rfl ?_
  refine r_getI4 1 (x := I (q0) 8) hC hk0 8 (by decide) tw_278 rfl rfl dX4_firstNeededKey_1 ?_
  refine r_aload_n 4 hC dX4_firstNeededKey_4 rfl rfl ?_
  refine r_getI4 5 (x := I (q0) 7) hC hk0 7 (by decide) tw_276 rfl rfl dX4_firstNeededKey_5 ?_
  refine r_icmp_ge 8 26 hC dX4_firstNeededKey_8 (by decide) (fun hc => ?_) (fun hc => ?_)
  · replace h := h.1 hc
    refine r_aload_n 26 hC dX4_firstNeededKey_26 rfl rfl ?_
    refine r_getI4 27 (x := I (q0) 9) hC hk0 9 (by decide) tw_280 rfl rfl dX4_firstNeededKey_27 ?_
    exact r_iret 30 hC hE rfl dX4_firstNeededKey_30 ⟨_, rfl, h⟩
  · replace h := h.2 hc
    refine r_aload_n 11 hC dX4_firstNeededKey_11 rfl rfl ?_
    refine r_getR4 12 (r1 := q0 + 2) hC hk0 14 (by decide) tw_289 rfl rfl dX4_firstNeededKey_12 ?_
    refine r_aload_n 15 hC dX4_firstNeededKey_15 rfl rfl ?_
    refine r_getI4 16 (x := I (q0) 8) hC hk0 8 (by decide) tw_278 rfl rfl dX4_firstNeededKey_16 ?_
    refine r_callS_i 19 (n := 1) [.int (I (q0) 8)] [.ref (q0 + 2)] hC dX4_firstNeededKey_19 (by decide) (by decide) tw_919 tw_133 ⟨by decide, by decide, by decide +kernel⟩ tw_917 tw_918 rfl rfl (sX4_placeOf (l := pm_l X) hG (I (q0) 8) _ _ h) hab (Nat.le_of_ble_eq_true rfl) ?_
    clear h; intro r11 I10 h
    refine r_iald 22 hC ((pm_s4 hG hk0).2.1) h.1 dX4_firstNeededKey_22 ?_
    replace h := h.2
    refine r_goto 23 30 hC dX4_firstNeededKey_23 (by decide) ?_
    exact r_iret 30 hC hE rfl dX4_firstNeededKey_30 ⟨_, rfl, h⟩

def wX5_beginWith (G : pm_G) (q0 : Nat) (q1 : Nat) (I : pm_I) (K : pm_I → Prop) : Prop :=
  ∀ I10 : pm_I, I10 = pm_up I (q0) 0 (0) → (pm_lp2 (fun (P11 : Int32 → pm_I → Prop) (x13 : Int32) (I12 : pm_I) => (8 ≤ x13 → (pm_lp2 (fun (P14 : Int32 → pm_I → Prop) (x16 : Int32) (I15 : pm_I) => (6 ≤ x16 → K I15) ∧ (¬ 6 ≤ x16 → (vp_in (x16) 6 ∧ (∀ I18 : pm_I, I18 = pm_up I15 (q0 + 3 + 1 + 5 * (x16).toNatClampNeg) 0 (0) → (P14 (x16 + 1) I18))))) (0) I12)) ∧ (¬ 8 ≤ x13 → (vp_in (x13) 8 ∧ (vp_in (x13) 8 ∧ (∀ I19 : pm_I, I19 = pm_up I12 (q0 + 2) ((x13).toNatClampNeg) (I12 (q1 + 4) (x13).toNatClampNeg) → (vp_in (x13) 8 ∧ (∀ I20 : pm_I, I20 = pm_up I19 (q0 + 1) ((x13).toNatClampNeg) (0) → (pm_lp2 (fun (P21 : Int32 → pm_I → Prop) (x23 : Int32) (I22 : pm_I) => (8 ≤ x23 → (P11 (x13 + 1) I22)) ∧ (¬ 8 ≤ x23 → (wX1_delayBetween G (q1) (x13) (x23) I22 (fun r25 I24 => (r25 = 0 → (P21 (x23 + 1) I24)) ∧ (¬ r25 = 0 → (vp_in (x13) 8 ∧ (vp_in (x13) 8 ∧ (∀ I26 : pm_I, I26 = pm_up I24 (q0 + 1) ((x13).toNatClampNeg) ((I24 (q0 + 1) (x13).toNatClampNeg) ||| (1 <<< (x23 &&& 31))) → (P21 (x23 + 1) I26))))))))) (0) I20)))))))) (0) I10)

set_option maxRecDepth 20000 in
theorem sX5_beginWith {G : pm_G} {l : Launch} (hG : pm_ok G) (q0 : Nat) (q1 : Nat) (I : pm_I) (K : pm_I → Prop) (hk0 : pm_k G q0 (.inl 5)) (hk1 : pm_k G q1 (.inl 1)) (h : wX5_beginWith G q0 q1 I K) : pm_Ct G l yX5_beginWith cX5_beginWith 4 none { frames := 2, cells := 0, slots := 0, locals := 150 } [.ref (q0), .ref (q1)] I (pm_Kv K) := by
  unfold wX5_beginWith at h
  refine pm_enter (by decide +kernel) hG rfl (Nat.le_of_ble_eq_true rfl) rfl (fun X hl hC hE => ?_)
  subst hl
  have hab : 0 ≤ 0 ∧ 0 ≤ 0 := ⟨Nat.le_refl 0, Nat.le_refl 0⟩
  have hC : pm_C G X cX5_beginWith 4 RX5 none { frames := 2, cells := 0, slots := 0, locals := 150 } := hC
  refine r_aload_n 0 hC dX5_beginWith_0 rfl rfl ?_
  refine r_iconst 1 (v := 0) hC dX5_beginWith_1 (by decide) ?_
  refine r_putI5 2 hC hk0 0 (by decide) tw_327 rfl rfl (by decide +kernel) ps_5_0 dX5_beginWith_2 (fun I10 hI => ?_)
  replace h := h I10 hI; clear hI
  refine r_iconst 5 (v := 0) hC dX5_beginWith_5 (by decide) ?_
  refine r_istore_n 6 [some (.ref (q0)), some (.ref (q1)), some (.int (0)), none] hC dX5_beginWith_6 rfl (by decide) rfl ?_
  refine h (fun x13 I12 => pm_R G X 4 0 0 7 [some (.ref (q0)), some (.ref (q1)), some (.int (x13)), none] [] I12) ?_
  clear h; intro x13 I12 h
  refine r_iload_n 7 hC dX5_beginWith_7 rfl rfl ?_
  refine r_bipush 8 (v := 8) hC dX5_beginWith_8 (by decide) ?_
  refine r_icmp_ge 10 73 hC dX5_beginWith_10 (by decide) (fun hc => ?_) (fun hc => ?_)
  · replace h := h.1 hc
    refine r_iconst 73 (v := 0) hC dX5_beginWith_73 (by decide) ?_
    refine r_istore_n 74 [some (.ref (q0)), some (.ref (q1)), some (.int (0)), none] hC dX5_beginWith_74 rfl (by decide) rfl ?_
    refine r_weak (ls' := [some (.ref (q0)), none, some (.int (0)), none]) (And.intro rfl (And.intro rfl (trivial))) ?_
    refine h (fun x16 I15 => pm_R G X 4 0 0 75 [some (.ref (q0)), none, some (.int (x16)), none] [] I15) ?_
    clear h; intro x16 I15 h
    refine r_iload_n 75 hC dX5_beginWith_75 rfl rfl ?_
    refine r_bipush 76 (v := 6) hC dX5_beginWith_76 (by decide) ?_
    refine r_icmp_ge 78 97 hC dX5_beginWith_78 (by decide) (fun hc => ?_) (fun hc => ?_)
    · replace h := h.1 hc
      exact r_vret 97 hC hE dX5_beginWith_97 ⟨rfl, h⟩
    · replace h := h.2 hc
      refine r_aload_n 81 hC dX5_beginWith_81 rfl rfl ?_
      refine r_getR5 82 (r1 := q0 + 3) hC hk0 3 (by decide) tw_332 rfl rfl dX5_beginWith_82 ?_
      refine r_iload_n 85 hC dX5_beginWith_85 rfl rfl ?_
      have hg17 := h.1; replace h := h.2
      refine r_aald4 86 hC ((pm_s5 hG hk0).2.2) hg17 dX5_beginWith_86 ?_
      refine r_iconst 87 (v := 0) hC dX5_beginWith_87 (by decide) ?_
      refine r_putZN4 88 hC (pm_sa4 hG ((pm_s5 hG hk0).2.2) hg17) tw_256 (Or.inl rfl) dX5_beginWith_88 (fun I18 hI => ?_)
      replace h := h I18 hI; clear hI
      refine r_iinc 91 (v := x16 + 1) [some (.ref (q0)), none, some (.int (x16 + 1)), none] hC dX5_beginWith_91 rfl (by rfl) (by decide) rfl ?_
      refine r_goto 94 75 hC dX5_beginWith_94 (by decide) ?_
      exact h
  · replace h := h.2 hc
    refine r_aload_n 13 hC dX5_beginWith_13 rfl rfl ?_
    refine r_getR5 14 (r1 := q0 + 2) hC hk0 2 (by decide) tw_330 rfl rfl dX5_beginWith_14 ?_
    refine r_iload_n 17 hC dX5_beginWith_17 rfl rfl ?_
    refine r_aload_n 18 hC dX5_beginWith_18 rfl rfl ?_
    refine r_getRN1 19 (r1 := q1 + 4) hC hk1 4 (by decide) tw_210 rfl rfl dX5_beginWith_19 ?_
    refine r_iload_n 22 hC dX5_beginWith_22 rfl rfl ?_
    refine r_iald 23 hC ((pm_s1 hG hk1).2.2.2.1) h.1 dX5_beginWith_23 ?_
    replace h := h.2
    refine r_iast 24 hC ((pm_s5 hG hk0).2.1) h.1 dX5_beginWith_24 (fun I19 hI => ?_)
    replace h := h.2
    replace h := h I19 hI; clear hI
    refine r_aload_n 25 hC dX5_beginWith_25 rfl rfl ?_
    refine r_getR5 26 (r1 := q0 + 1) hC hk0 1 (by decide) tw_329 rfl rfl dX5_beginWith_26 ?_
    refine r_iload_n 29 hC dX5_beginWith_29 rfl rfl ?_
    refine r_iconst 30 (v := 0) hC dX5_beginWith_30 (by decide) ?_
    refine r_iast 31 hC ((pm_s5 hG hk0).1) h.1 dX5_beginWith_31 (fun I20 hI => ?_)
    replace h := h.2
    replace h := h I20 hI; clear hI
    refine r_iconst 32 (v := 0) hC dX5_beginWith_32 (by decide) ?_
    refine r_istore_n 33 [some (.ref (q0)), some (.ref (q1)), some (.int (x13)), some (.int (0))] hC dX5_beginWith_33 rfl (by decide) rfl ?_
    refine h (fun x23 I22 => pm_R G X 4 0 0 34 [some (.ref (q0)), some (.ref (q1)), some (.int (x13)), some (.int (x23))] [] I22) ?_
    clear h; intro x23 I22 h
    refine r_iload_n 34 hC dX5_beginWith_34 rfl rfl ?_
    refine r_bipush 35 (v := 8) hC dX5_beginWith_35 (by decide) ?_
    refine r_icmp_ge 37 67 hC dX5_beginWith_37 (by decide) (fun hc => ?_) (fun hc => ?_)
    · replace h := h.1 hc
      refine r_iinc 67 (v := x13 + 1) [some (.ref (q0)), some (.ref (q1)), some (.int (x13 + 1)), some (.int (x23))] hC dX5_beginWith_67 rfl (by rfl) (by decide) rfl ?_
      refine r_goto 70 7 hC dX5_beginWith_70 (by decide) ?_
      refine r_weak (ls' := [some (.ref (q0)), some (.ref (q1)), some (.int (x13 + 1)), none]) (And.intro rfl (And.intro rfl (And.intro rfl (trivial)))) ?_
      exact h
    · replace h := h.2 hc
      refine r_aload_n 40 hC dX5_beginWith_40 rfl rfl ?_
      refine r_iload_n 41 hC dX5_beginWith_41 rfl rfl ?_
      refine r_iload_n 42 hC dX5_beginWith_42 rfl rfl ?_
      refine r_callVN_i 43 (n := 2) [.int (x13), .int (x23)] [] hC hk1 rfl dX5_beginWith_43 (by decide) (by decide) tw_708 tw_130 ⟨by decide, by decide, by decide +kernel⟩ tw_705 tw_707 tw_32 rfl rfl (sX1_delayBetween (l := pm_l X) hG (q1) (x13) (x23) _ _ hk1 h) hab (Nat.le_of_ble_eq_true rfl) ?_
      clear h; intro r25 I24 h
      refine r_if_eq 46 61 hC dX5_beginWith_46 (by decide) (fun hc => ?_) (fun hc => ?_)
      · replace h := h.1 hc
        refine r_iinc 61 (v := x23 + 1) [some (.ref (q0)), some (.ref (q1)), some (.int (x13)), some (.int (x23 + 1))] hC dX5_beginWith_61 rfl (by rfl) (by decide) rfl ?_
        refine r_goto 64 34 hC dX5_beginWith_64 (by decide) ?_
        exact h
      · replace h := h.2 hc
        refine r_aload_n 49 hC dX5_beginWith_49 rfl rfl ?_
        refine r_getR5 50 (r1 := q0 + 1) hC hk0 1 (by decide) tw_329 rfl rfl dX5_beginWith_50 ?_
        refine r_iload_n 53 hC dX5_beginWith_53 rfl rfl ?_
        refine r_dup2 54 hC dX5_beginWith_54 rfl rfl ?_
        refine r_iald 55 hC ((pm_s5 hG hk0).1) h.1 dX5_beginWith_55 ?_
        replace h := h.2
        refine r_iconst 56 (v := 1) hC dX5_beginWith_56 (by decide) ?_
        refine r_iload_n 57 hC dX5_beginWith_57 rfl rfl ?_
        refine r_ishl 58 hC dX5_beginWith_58 ?_
        refine r_ior 59 hC dX5_beginWith_59 ?_
        refine r_iast 60 hC ((pm_s5 hG hk0).1) h.1 dX5_beginWith_60 (fun I26 hI => ?_)
        replace h := h.2
        replace h := h I26 hI; clear hI
        refine r_iinc 61 (v := x23 + 1) [some (.ref (q0)), some (.ref (q1)), some (.int (x13)), some (.int (x23 + 1))] hC dX5_beginWith_61 rfl (by rfl) (by decide) rfl ?_
        refine r_goto 64 34 hC dX5_beginWith_64 (by decide) ?_
        exact h

def wX5_acquainted (G : pm_G) (q0 : Nat) (x1 : Int32) (x2 : Int32) (I : pm_I) (K : Int32 → pm_I → Prop) : Prop :=
  vp_in (x1) 8 ∧ (((((I (q0 + 2) (x1).toNatClampNeg) >>> (x2 &&& 31)) &&& 1) = 0 → K 0 I) ∧ (¬ (((I (q0 + 2) (x1).toNatClampNeg) >>> (x2 &&& 31)) &&& 1) = 0 → K 1 I))

set_option maxRecDepth 20000 in
theorem sX5_acquainted {G : pm_G} {l : Launch} (hG : pm_ok G) (q0 : Nat) (x1 : Int32) (x2 : Int32) (I : pm_I) (K : Int32 → pm_I → Prop) (hk0 : pm_k G q0 (.inl 5)) (h : wX5_acquainted G q0 x1 x2 I K) : pm_Ct G l yX5_acquainted cX5_acquainted 3 (some .boolean) { frames := 1, cells := 0, slots := 0, locals := 64 } [.ref (q0), .int (x1), .int (x2)] I (pm_Ki K) := by
  unfold wX5_acquainted at h
  refine pm_enter (by decide +kernel) hG rfl (Nat.le_of_ble_eq_true rfl) rfl (fun X hl hC hE => ?_)
  subst hl
  have hab : 0 ≤ 0 ∧ 0 ≤ 0 := ⟨Nat.le_refl 0, Nat.le_refl 0⟩
  have hC : pm_C G X cX5_acquainted 3 RX5 (some .boolean) { frames := 1, cells := 0, slots := 0, locals := 64 } := hC
  refine r_aload_n 0 hC dX5_acquainted_0 rfl rfl ?_
  refine r_getR5 1 (r1 := q0 + 2) hC hk0 2 (by decide) tw_330 rfl rfl dX5_acquainted_1 ?_
  refine r_iload_n 4 hC dX5_acquainted_4 rfl rfl ?_
  refine r_iald 5 hC ((pm_s5 hG hk0).2.1) h.1 dX5_acquainted_5 ?_
  replace h := h.2
  refine r_iload_n 6 hC dX5_acquainted_6 rfl rfl ?_
  refine r_ishr 7 hC dX5_acquainted_7 ?_
  refine r_iconst 8 (v := 1) hC dX5_acquainted_8 (by decide) ?_
  refine r_iand 9 hC dX5_acquainted_9 ?_
  refine r_if_eq 10 17 hC dX5_acquainted_10 (by decide) (fun hc => ?_) (fun hc => ?_)
  · replace h := h.1 hc
    refine r_iconst 17 (v := 0) hC dX5_acquainted_17 (by decide) ?_
    exact r_iret 18 hC hE rfl dX5_acquainted_18 ⟨_, rfl, h⟩
  · replace h := h.2 hc
    refine r_iconst 13 (v := 1) hC dX5_acquainted_13 (by decide) ?_
    refine r_goto 14 18 hC dX5_acquainted_14 (by decide) ?_
    exact r_iret 18 hC hE rfl dX5_acquainted_18 ⟨_, rfl, h⟩

def wX5_acquaint (G : pm_G) (q0 : Nat) (x1 : Int32) (x2 : Int32) (I : pm_I) (K : pm_I → Prop) : Prop :=
  vp_in (x1) 8 ∧ (vp_in (x1) 8 ∧ (∀ I10 : pm_I, I10 = pm_up I (q0 + 2) ((x1).toNatClampNeg) ((I (q0 + 2) (x1).toNatClampNeg) ||| (1 <<< (x2 &&& 31))) → (vp_in (x2) 8 ∧ (vp_in (x2) 8 ∧ (∀ I11 : pm_I, I11 = pm_up I10 (q0 + 2) ((x2).toNatClampNeg) ((I10 (q0 + 2) (x2).toNatClampNeg) ||| (1 <<< (x1 &&& 31))) → K I11)))))

set_option maxRecDepth 20000 in
theorem sX5_acquaint {G : pm_G} {l : Launch} (hG : pm_ok G) (q0 : Nat) (x1 : Int32) (x2 : Int32) (I : pm_I) (K : pm_I → Prop) (hk0 : pm_k G q0 (.inl 5)) (h : wX5_acquaint G q0 x1 x2 I K) : pm_Ct G l yX5_acquaint cX5_acquaint 3 none { frames := 1, cells := 0, slots := 0, locals := 64 } [.ref (q0), .int (x1), .int (x2)] I (pm_Kv K) := by
  unfold wX5_acquaint at h
  refine pm_enter (by decide +kernel) hG rfl (Nat.le_of_ble_eq_true rfl) rfl (fun X hl hC hE => ?_)
  subst hl
  have hab : 0 ≤ 0 ∧ 0 ≤ 0 := ⟨Nat.le_refl 0, Nat.le_refl 0⟩
  have hC : pm_C G X cX5_acquaint 3 RX5 none { frames := 1, cells := 0, slots := 0, locals := 64 } := hC
  refine r_aload_n 0 hC dX5_acquaint_0 rfl rfl ?_
  refine r_getR5 1 (r1 := q0 + 2) hC hk0 2 (by decide) tw_330 rfl rfl dX5_acquaint_1 ?_
  refine r_iload_n 4 hC dX5_acquaint_4 rfl rfl ?_
  refine r_dup2 5 hC dX5_acquaint_5 rfl rfl ?_
  refine r_iald 6 hC ((pm_s5 hG hk0).2.1) h.1 dX5_acquaint_6 ?_
  replace h := h.2
  refine r_iconst 7 (v := 1) hC dX5_acquaint_7 (by decide) ?_
  refine r_iload_n 8 hC dX5_acquaint_8 rfl rfl ?_
  refine r_ishl 9 hC dX5_acquaint_9 ?_
  refine r_ior 10 hC dX5_acquaint_10 ?_
  refine r_iast 11 hC ((pm_s5 hG hk0).2.1) h.1 dX5_acquaint_11 (fun I10 hI => ?_)
  replace h := h.2
  replace h := h I10 hI; clear hI
  refine r_aload_n 12 hC dX5_acquaint_12 rfl rfl ?_
  refine r_getR5 13 (r1 := q0 + 2) hC hk0 2 (by decide) tw_330 rfl rfl dX5_acquaint_13 ?_
  refine r_iload_n 16 hC dX5_acquaint_16 rfl rfl ?_
  refine r_dup2 17 hC dX5_acquaint_17 rfl rfl ?_
  refine r_iald 18 hC ((pm_s5 hG hk0).2.1) h.1 dX5_acquaint_18 ?_
  replace h := h.2
  refine r_iconst 19 (v := 1) hC dX5_acquaint_19 (by decide) ?_
  refine r_iload_n 20 hC dX5_acquaint_20 rfl rfl ?_
  refine r_ishl 21 hC dX5_acquaint_21 ?_
  refine r_ior 22 hC dX5_acquaint_22 ?_
  refine r_iast 23 hC ((pm_s5 hG hk0).2.1) h.1 dX5_acquaint_23 (fun I11 hI => ?_)
  replace h := h.2
  replace h := h I11 hI; clear hI
  exact r_vret 24 hC hE dX5_acquaint_24 ⟨rfl, h⟩

def wX5_linkIsUp (G : pm_G) (q0 : Nat) (x1 : Int32) (x2 : Int32) (I : pm_I) (K : Int32 → pm_I → Prop) : Prop :=
  vp_in (x1) 8 ∧ (((((I (q0 + 1) (x1).toNatClampNeg) >>> (x2 &&& 31)) &&& 1) = 0 → K 0 I) ∧ (¬ (((I (q0 + 1) (x1).toNatClampNeg) >>> (x2 &&& 31)) &&& 1) = 0 → K 1 I))

set_option maxRecDepth 20000 in
theorem sX5_linkIsUp {G : pm_G} {l : Launch} (hG : pm_ok G) (q0 : Nat) (x1 : Int32) (x2 : Int32) (I : pm_I) (K : Int32 → pm_I → Prop) (hk0 : pm_k G q0 (.inl 5)) (h : wX5_linkIsUp G q0 x1 x2 I K) : pm_Ct G l yX5_linkIsUp cX5_linkIsUp 3 (some .boolean) { frames := 1, cells := 0, slots := 0, locals := 64 } [.ref (q0), .int (x1), .int (x2)] I (pm_Ki K) := by
  unfold wX5_linkIsUp at h
  refine pm_enter (by decide +kernel) hG rfl (Nat.le_of_ble_eq_true rfl) rfl (fun X hl hC hE => ?_)
  subst hl
  have hab : 0 ≤ 0 ∧ 0 ≤ 0 := ⟨Nat.le_refl 0, Nat.le_refl 0⟩
  have hC : pm_C G X cX5_linkIsUp 3 RX5 (some .boolean) { frames := 1, cells := 0, slots := 0, locals := 64 } := hC
  refine r_aload_n 0 hC dX5_linkIsUp_0 rfl rfl ?_
  refine r_getR5 1 (r1 := q0 + 1) hC hk0 1 (by decide) tw_329 rfl rfl dX5_linkIsUp_1 ?_
  refine r_iload_n 4 hC dX5_linkIsUp_4 rfl rfl ?_
  refine r_iald 5 hC ((pm_s5 hG hk0).1) h.1 dX5_linkIsUp_5 ?_
  replace h := h.2
  refine r_iload_n 6 hC dX5_linkIsUp_6 rfl rfl ?_
  refine r_ishr 7 hC dX5_linkIsUp_7 ?_
  refine r_iconst 8 (v := 1) hC dX5_linkIsUp_8 (by decide) ?_
  refine r_iand 9 hC dX5_linkIsUp_9 ?_
  refine r_if_eq 10 17 hC dX5_linkIsUp_10 (by decide) (fun hc => ?_) (fun hc => ?_)
  · replace h := h.1 hc
    refine r_iconst 17 (v := 0) hC dX5_linkIsUp_17 (by decide) ?_
    exact r_iret 18 hC hE rfl dX5_linkIsUp_18 ⟨_, rfl, h⟩
  · replace h := h.2 hc
    refine r_iconst 13 (v := 1) hC dX5_linkIsUp_13 (by decide) ?_
    refine r_goto 14 18 hC dX5_linkIsUp_14 (by decide) ?_
    exact r_iret 18 hC hE rfl dX5_linkIsUp_18 ⟨_, rfl, h⟩

def wX5_turnLink (G : pm_G) (q0 : Nat) (x1 : Int32) (x2 : Int32) (I : pm_I) (K : pm_I → Prop) : Prop :=
  vp_in (x1) 8 ∧ (vp_in (x1) 8 ∧ (∀ I10 : pm_I, I10 = pm_up I (q0 + 1) ((x1).toNatClampNeg) ((I (q0 + 1) (x1).toNatClampNeg) ^^^ (1 <<< (x2 &&& 31))) → (vp_in (x2) 8 ∧ (vp_in (x2) 8 ∧ (∀ I11 : pm_I, I11 = pm_up I10 (q0 + 1) ((x2).toNatClampNeg) ((I10 (q0 + 1) (x2).toNatClampNeg) ^^^ (1 <<< (x1 &&& 31))) → K I11)))))

set_option maxRecDepth 20000 in
theorem sX5_turnLink {G : pm_G} {l : Launch} (hG : pm_ok G) (q0 : Nat) (x1 : Int32) (x2 : Int32) (I : pm_I) (K : pm_I → Prop) (hk0 : pm_k G q0 (.inl 5)) (h : wX5_turnLink G q0 x1 x2 I K) : pm_Ct G l yX5_turnLink cX5_turnLink 3 none { frames := 1, cells := 0, slots := 0, locals := 64 } [.ref (q0), .int (x1), .int (x2)] I (pm_Kv K) := by
  unfold wX5_turnLink at h
  refine pm_enter (by decide +kernel) hG rfl (Nat.le_of_ble_eq_true rfl) rfl (fun X hl hC hE => ?_)
  subst hl
  have hab : 0 ≤ 0 ∧ 0 ≤ 0 := ⟨Nat.le_refl 0, Nat.le_refl 0⟩
  have hC : pm_C G X cX5_turnLink 3 RX5 none { frames := 1, cells := 0, slots := 0, locals := 64 } := hC
  refine r_aload_n 0 hC dX5_turnLink_0 rfl rfl ?_
  refine r_getR5 1 (r1 := q0 + 1) hC hk0 1 (by decide) tw_329 rfl rfl dX5_turnLink_1 ?_
  refine r_iload_n 4 hC dX5_turnLink_4 rfl rfl ?_
  refine r_dup2 5 hC dX5_turnLink_5 rfl rfl ?_
  refine r_iald 6 hC ((pm_s5 hG hk0).1) h.1 dX5_turnLink_6 ?_
  replace h := h.2
  refine r_iconst 7 (v := 1) hC dX5_turnLink_7 (by decide) ?_
  refine r_iload_n 8 hC dX5_turnLink_8 rfl rfl ?_
  refine r_ishl 9 hC dX5_turnLink_9 ?_
  refine r_ixor 10 hC dX5_turnLink_10 ?_
  refine r_iast 11 hC ((pm_s5 hG hk0).1) h.1 dX5_turnLink_11 (fun I10 hI => ?_)
  replace h := h.2
  replace h := h I10 hI; clear hI
  refine r_aload_n 12 hC dX5_turnLink_12 rfl rfl ?_
  refine r_getR5 13 (r1 := q0 + 1) hC hk0 1 (by decide) tw_329 rfl rfl dX5_turnLink_13 ?_
  refine r_iload_n 16 hC dX5_turnLink_16 rfl rfl ?_
  refine r_dup2 17 hC dX5_turnLink_17 rfl rfl ?_
  refine r_iald 18 hC ((pm_s5 hG hk0).1) h.1 dX5_turnLink_18 ?_
  replace h := h.2
  refine r_iconst 19 (v := 1) hC dX5_turnLink_19 (by decide) ?_
  refine r_iload_n 20 hC dX5_turnLink_20 rfl rfl ?_
  refine r_ishl 21 hC dX5_turnLink_21 ?_
  refine r_ixor 22 hC dX5_turnLink_22 ?_
  refine r_iast 23 hC ((pm_s5 hG hk0).1) h.1 dX5_turnLink_23 (fun I11 hI => ?_)
  replace h := h.2
  replace h := h I11 hI; clear hI
  exact r_vret 24 hC hE dX5_turnLink_24 ⟨rfl, h⟩

def wX5_stepsBetween (G : pm_G) (q0 : Nat) (x1 : Int32) (x2 : Int32) (I : pm_I) (K : Int32 → pm_I → Prop) : Prop :=
  pm_lp3 (fun (P10 : Int32 → Int32 → pm_I → Prop) (x12 : Int32) (x13 : Int32) (I11 : pm_I) => (8 ≤ x13 → (K (-1) I11)) ∧ (¬ 8 ≤ x13 → (pm_lp3 (fun (P14 : Int32 → Int32 → pm_I → Prop) (x16 : Int32) (x17 : Int32) (I15 : pm_I) => (8 ≤ x17 → ((((x16 >>> (x2 &&& 31)) &&& 1) = 0 → (P10 (x16) (x13 + 1) I15)) ∧ (¬ ((x16 >>> (x2 &&& 31)) &&& 1) = 0 → (K (x13) I15)))) ∧ (¬ 8 ≤ x17 → ((((x12 >>> (x17 &&& 31)) &&& 1) = 0 → (P14 (x16) (x17 + 1) I15)) ∧ (¬ ((x12 >>> (x17 &&& 31)) &&& 1) = 0 → (vp_in (x17) 8 ∧ (P14 (x16 ||| (I15 (q0 + 2) (x17).toNatClampNeg)) (x17 + 1) I15)))))) (x12) (0) I11))) (1 <<< (x1 &&& 31)) (1) I

set_option maxRecDepth 20000 in
theorem sX5_stepsBetween {G : pm_G} {l : Launch} (hG : pm_ok G) (q0 : Nat) (x1 : Int32) (x2 : Int32) (I : pm_I) (K : Int32 → pm_I → Prop) (hk0 : pm_k G q0 (.inl 5)) (h : wX5_stepsBetween G q0 x1 x2 I K) : pm_Ct G l yX5_stepsBetween cX5_stepsBetween 7 (some .int) { frames := 1, cells := 0, slots := 0, locals := 64 } [.ref (q0), .int (x1), .int (x2)] I (pm_Ki K) := by
  unfold wX5_stepsBetween at h
  refine pm_enter (by decide +kernel) hG rfl (Nat.le_of_ble_eq_true rfl) rfl (fun X hl hC hE => ?_)
  subst hl
  have hab : 0 ≤ 0 ∧ 0 ≤ 0 := ⟨Nat.le_refl 0, Nat.le_refl 0⟩
  have hC : pm_C G X cX5_stepsBetween 7 RX5 (some .int) { frames := 1, cells := 0, slots := 0, locals := 64 } := hC
  refine r_iconst 0 (v := 1) hC dX5_stepsBetween_0 (by decide) ?_
  refine r_iload_n 1 hC dX5_stepsBetween_1 rfl rfl ?_
  refine r_ishl 2 hC dX5_stepsBetween_2 ?_
  refine r_istore_n 3 [some (.ref (q0)), some (.int (x1)), some (.int (x2)), some (.int (1 <<< (x1 &&& 31))), none, none, none] hC dX5_stepsBetween_3 rfl (by decide) rfl ?_
  refine r_iconst 4 (v := 1) hC dX5_stepsBetween_4 (by decide) ?_
  refine r_istore 5 [some (.ref (q0)), some (.int (x1)), some (.int (x2)), some (.int (1 <<< (x1 &&& 31))), some (.int (1)), none, none] hC dX5_stepsBetween_5 (by decide) rfl ?_
  refine r_weak (ls' := [some (.ref (q0)), none, some (.int (x2)), some (.int (1 <<< (x1 &&& 31))), some (.int (1)), none, none]) (And.intro rfl (And.intro rfl (And.intro rfl (And.intro rfl (trivial))))) ?_
  refine h (fun x12 x13 I11 => pm_R G X 7 0 0 7 [some (.ref (q0)), none, some (.int (x2)), some (.int (x12)), some (.int (x13)), none, none] [] I11) ?_
  clear h; intro x12 x13 I11 h
  refine r_iload 7 hC dX5_stepsBetween_7 rfl ?_
  refine r_bipush 9 (v := 8) hC dX5_stepsBetween_9 (by decide) ?_
  refine r_icmp_ge 11 74 hC dX5_stepsBetween_11 (by decide) (fun hc => ?_) (fun hc => ?_)
  · replace h := h.1 hc
    refine r_iconst 74 (v := -1) hC dX5_stepsBetween_74 (by decide) ?_
    exact r_iret 75 hC hE rfl dX5_stepsBetween_75 ⟨_, rfl, h⟩
  · replace h := h.2 hc
    refine r_iload_n 14 hC dX5_stepsBetween_14 rfl rfl ?_
    refine r_istore 15 [some (.ref (q0)), none, some (.int (x2)), some (.int (x12)), some (.int (x13)), some (.int (x12)), none] hC dX5_stepsBetween_15 (by decide) rfl ?_
    refine r_iconst 17 (v := 0) hC dX5_stepsBetween_17 (by decide) ?_
    refine r_istore 18 [some (.ref (q0)), none, some (.int (x2)), some (.int (x12)), some (.int (x13)), some (.int (x12)), some (.int (0))] hC dX5_stepsBetween_18 (by decide) rfl ?_
    refine h (fun x16 x17 I15 => pm_R G X 7 0 0 20 [some (.ref (q0)), none, some (.int (x2)), some (.int (x12)), some (.int (x13)), some (.int (x16)), some (.int (x17))] [] I15) ?_
    clear h; intro x16 x17 I15 h
    refine r_iload 20 hC dX5_stepsBetween_20 rfl ?_
    refine r_bipush 22 (v := 8) hC dX5_stepsBetween_22 (by decide) ?_
    refine r_icmp_ge 24 54 hC dX5_stepsBetween_24 (by decide) (fun hc => ?_) (fun hc => ?_)
    · replace h := h.1 hc
      refine r_iload 54 hC dX5_stepsBetween_54 rfl ?_
      refine r_istore_n 56 [some (.ref (q0)), none, some (.int (x2)), some (.int (x16)), some (.int (x13)), some (.int (x16)), some (.int (x17))] hC dX5_stepsBetween_56 rfl (by decide) rfl ?_
      refine r_iload_n 57 hC dX5_stepsBetween_57 rfl rfl ?_
      refine r_iload_n 58 hC dX5_stepsBetween_58 rfl rfl ?_
      refine r_ishr 59 hC dX5_stepsBetween_59 ?_
      refine r_iconst 60 (v := 1) hC dX5_stepsBetween_60 (by decide) ?_
      refine r_iand 61 hC dX5_stepsBetween_61 ?_
      refine r_if_eq 62 68 hC dX5_stepsBetween_62 (by decide) (fun hc => ?_) (fun hc => ?_)
      · replace h := h.1 hc
        refine r_iinc 68 (v := x13 + 1) [some (.ref (q0)), none, some (.int (x2)), some (.int (x16)), some (.int (x13 + 1)), some (.int (x16)), some (.int (x17))] hC dX5_stepsBetween_68 rfl (by rfl) (by decide) rfl ?_
        refine r_goto 71 7 hC dX5_stepsBetween_71 (by decide) ?_
        refine r_weak (ls' := [some (.ref (q0)), none, some (.int (x2)), some (.int (x16)), some (.int (x13 + 1)), none, none]) (And.intro rfl (And.intro rfl (And.intro rfl (And.intro rfl (trivial))))) ?_
        exact h
      · replace h := h.2 hc
        refine r_iload 65 hC dX5_stepsBetween_65 rfl ?_
        exact r_iret 67 hC hE rfl dX5_stepsBetween_67 ⟨_, rfl, h⟩
    · replace h := h.2 hc
      refine r_iload_n 27 hC dX5_stepsBetween_27 rfl rfl ?_
      refine r_iload 28 hC dX5_stepsBetween_28 rfl ?_
      refine r_ishr 30 hC dX5_stepsBetween_30 ?_
      refine r_iconst 31 (v := 1) hC dX5_stepsBetween_31 (by decide) ?_
      refine r_iand 32 hC dX5_stepsBetween_32 ?_
      refine r_if_eq 33 48 hC dX5_stepsBetween_33 (by decide) (fun hc => ?_) (fun hc => ?_)
      · replace h := h.1 hc
        refine r_iinc 48 (v := x17 + 1) [some (.ref (q0)), none, some (.int (x2)), some (.int (x12)), some (.int (x13)), some (.int (x16)), some (.int (x17 + 1))] hC dX5_stepsBetween_48 rfl (by rfl) (by decide) rfl ?_
        refine r_goto 51 20 hC dX5_stepsBetween_51 (by decide) ?_
        exact h
      · replace h := h.2 hc
        refine r_iload 36 hC dX5_stepsBetween_36 rfl ?_
        refine r_aload_n 38 hC dX5_stepsBetween_38 rfl rfl ?_
        refine r_getR5 39 (r1 := q0 + 2) hC hk0 2 (by decide) tw_330 rfl rfl dX5_stepsBetween_39 ?_
        refine r_iload 42 hC dX5_stepsBetween_42 rfl ?_
        refine r_iald 44 hC ((pm_s5 hG hk0).2.1) h.1 dX5_stepsBetween_44 ?_
        replace h := h.2
        refine r_ior 45 hC dX5_stepsBetween_45 ?_
        refine r_istore 46 [some (.ref (q0)), none, some (.int (x2)), some (.int (x12)), some (.int (x13)), some (.int (x16 ||| (I15 (q0 + 2) (x17).toNatClampNeg))), some (.int (x17))] hC dX5_stepsBetween_46 (by decide) rfl ?_
        refine r_iinc 48 (v := x17 + 1) [some (.ref (q0)), none, some (.int (x2)), some (.int (x12)), some (.int (x13)), some (.int (x16 ||| (I15 (q0 + 2) (x17).toNatClampNeg))), some (.int (x17 + 1))] hC dX5_stepsBetween_48 rfl (by rfl) (by decide) rfl ?_
        refine r_goto 51 20 hC dX5_stepsBetween_51 (by decide) ?_
        exact h

def wX5_findSession (G : pm_G) (q0 : Nat) (x1 : Int32) (x2 : Int32) (I : pm_I) (K : Int32 → pm_I → Prop) : Prop :=
  pm_lp2 (fun (P10 : Int32 → pm_I → Prop) (x12 : Int32) (I11 : pm_I) => (6 ≤ x12 → (K (-1) I11)) ∧ (¬ 6 ≤ x12 → (vp_in (x12) 6 ∧ (((I11 (q0 + 3 + 1 + 5 * (x12).toNatClampNeg) 0) = 0 → (P10 (x12 + 1) I11)) ∧ (¬ (I11 (q0 + 3 + 1 + 5 * (x12).toNatClampNeg) 0) = 0 → ((¬ (I11 (q0 + 3 + 1 + 5 * (x12).toNatClampNeg) 1) = x1 → (P10 (x12 + 1) I11)) ∧ ((I11 (q0 + 3 + 1 + 5 * (x12).toNatClampNeg) 1) = x1 → ((¬ (I11 (q0 + 3 + 1 + 5 * (x12).toNatClampNeg) 2) = x2 → (P10 (x12 + 1) I11)) ∧ ((I11 (q0 + 3 + 1 + 5 * (x12).toNatClampNeg) 2) = x2 → (K (x12) I11)))))))))) (0) I

set_option maxRecDepth 20000 in
theorem sX5_findSession {G : pm_G} {l : Launch} (hG : pm_ok G) (q0 : Nat) (x1 : Int32) (x2 : Int32) (I : pm_I) (K : Int32 → pm_I → Prop) (hk0 : pm_k G q0 (.inl 5)) (h : wX5_findSession G q0 x1 x2 I K) : pm_Ct G l yX5_findSession cX5_findSession 5 (some .int) { frames := 1, cells := 0, slots := 0, locals := 64 } [.ref (q0), .int (x1), .int (x2)] I (pm_Ki K) := by
  unfold wX5_findSession at h
  refine pm_enter (by decide +kernel) hG rfl (Nat.le_of_ble_eq_true rfl) rfl (fun X hl hC hE => ?_)
  subst hl
  have hab : 0 ≤ 0 ∧ 0 ≤ 0 := ⟨Nat.le_refl 0, Nat.le_refl 0⟩
  have hC : pm_C G X cX5_findSession 5 RX5 (some .int) { frames := 1, cells := 0, slots := 0, locals := 64 } := hC
  refine r_iconst 0 (v := 0) hC dX5_findSession_0 (by decide) ?_
  refine r_istore_n 1 [some (.ref (q0)), some (.int (x1)), some (.int (x2)), some (.int (0)), none] hC dX5_findSession_1 rfl (by decide) rfl ?_
  refine h (fun x12 I11 => pm_R G X 5 0 0 2 [some (.ref (q0)), some (.int (x1)), some (.int (x2)), some (.int (x12)), none] [] I11) ?_
  clear h; intro x12 I11 h
  refine r_iload_n 2 hC dX5_findSession_2 rfl rfl ?_
  refine r_bipush 3 (v := 6) hC dX5_findSession_3 (by decide) ?_
  refine r_icmp_ge 5 50 hC dX5_findSession_5 (by decide) (fun hc => ?_) (fun hc => ?_)
  · replace h := h.1 hc
    refine r_iconst 50 (v := -1) hC dX5_findSession_50 (by decide) ?_
    exact r_iret 51 hC hE rfl dX5_findSession_51 ⟨_, rfl, h⟩
  · replace h := h.2 hc
    refine r_aload_n 8 hC dX5_findSession_8 rfl rfl ?_
    refine r_getR5 9 (r1 := q0 + 3) hC hk0 3 (by decide) tw_332 rfl rfl dX5_findSession_9 ?_
    refine r_iload_n 12 hC dX5_findSession_12 rfl rfl ?_
    have hg13 := h.1; replace h := h.2
    refine r_aald4 13 hC ((pm_s5 hG hk0).2.2) hg13 dX5_findSession_13 ?_
    refine r_astore 14 [some (.ref (q0)), some (.int (x1)), some (.int (x2)), some (.int (x12)), some (.ref (q0 + 3 + 1 + 5 * (x12).toNatClampNeg))] hC dX5_findSession_14 (by decide) rfl ?_
    refine r_aload 16 hC dX5_findSession_16 rfl ?_
    refine r_getIN4 18 (x := I11 (q0 + 3 + 1 + 5 * (x12).toNatClampNeg) 0) hC (pm_sa4 hG ((pm_s5 hG hk0).2.2) hg13) 0 (by decide) tw_256 rfl rfl dX5_findSession_18 ?_
    refine r_if_eq 21 44 hC dX5_findSession_21 (by decide) (fun hc => ?_) (fun hc => ?_)
    · replace h := h.1 hc
      refine r_iinc 44 (v := x12 + 1) [some (.ref (q0)), some (.int (x1)), some (.int (x2)), some (.int (x12 + 1)), some (.ref (q0 + 3 + 1 + 5 * (x12).toNatClampNeg))] hC dX5_findSession_44 rfl (by rfl) (by decide) rfl ?_
      refine r_goto 47 2 hC dX5_findSession_47 (by decide) ?_
      refine r_weak (ls' := [some (.ref (q0)), some (.int (x1)), some (.int (x2)), some (.int (x12 + 1)), none]) (And.intro rfl (And.intro rfl (And.intro rfl (And.intro rfl (trivial))))) ?_
      exact h
    · replace h := h.2 hc
      refine r_aload 24 hC dX5_findSession_24 rfl ?_
      refine r_getIN4 26 (x := I11 (q0 + 3 + 1 + 5 * (x12).toNatClampNeg) 1) hC (pm_sa4 hG ((pm_s5 hG hk0).2.2) hg13) 1 (by decide) tw_260 rfl rfl dX5_findSession_26 ?_
      refine r_iload_n 29 hC dX5_findSession_29 rfl rfl ?_
      refine r_icmp_ne 30 44 hC dX5_findSession_30 (by decide) (fun hc => ?_) (fun hc => ?_)
      · replace h := h.1 hc
        refine r_iinc 44 (v := x12 + 1) [some (.ref (q0)), some (.int (x1)), some (.int (x2)), some (.int (x12 + 1)), some (.ref (q0 + 3 + 1 + 5 * (x12).toNatClampNeg))] hC dX5_findSession_44 rfl (by rfl) (by decide) rfl ?_
        refine r_goto 47 2 hC dX5_findSession_47 (by decide) ?_
        refine r_weak (ls' := [some (.ref (q0)), some (.int (x1)), some (.int (x2)), some (.int (x12 + 1)), none]) (And.intro rfl (And.intro rfl (And.intro rfl (And.intro rfl (trivial))))) ?_
        exact h
      · replace h := h.2 hc
        refine r_aload 33 hC dX5_findSession_33 rfl ?_
        refine r_getIN4 35 (x := I11 (q0 + 3 + 1 + 5 * (x12).toNatClampNeg) 2) hC (pm_sa4 hG ((pm_s5 hG hk0).2.2) hg13) 2 (by decide) tw_263 rfl rfl dX5_findSession_35 ?_
        refine r_iload_n 38 hC dX5_findSession_38 rfl rfl ?_
        refine r_icmp_ne 39 44 hC dX5_findSession_39 (by decide) (fun hc => ?_) (fun hc => ?_)
        · replace h := h.1 hc
          refine r_iinc 44 (v := x12 + 1) [some (.ref (q0)), some (.int (x1)), some (.int (x2)), some (.int (x12 + 1)), some (.ref (q0 + 3 + 1 + 5 * (x12).toNatClampNeg))] hC dX5_findSession_44 rfl (by rfl) (by decide) rfl ?_
          refine r_goto 47 2 hC dX5_findSession_47 (by decide) ?_
          refine r_weak (ls' := [some (.ref (q0)), some (.int (x1)), some (.int (x2)), some (.int (x12 + 1)), none]) (And.intro rfl (And.intro rfl (And.intro rfl (And.intro rfl (trivial))))) ?_
          exact h
        · replace h := h.2 hc
          refine r_iload_n 42 hC dX5_findSession_42 rfl rfl ?_
          exact r_iret 43 hC hE rfl dX5_findSession_43 ⟨_, rfl, h⟩

def wX5_freeSession (G : pm_G) (q0 : Nat) (I : pm_I) (K : Int32 → pm_I → Prop) : Prop :=
  pm_lp2 (fun (P10 : Int32 → pm_I → Prop) (x12 : Int32) (I11 : pm_I) => (6 ≤ x12 → (K (-1) I11)) ∧ (¬ 6 ≤ x12 → (vp_in (x12) 6 ∧ ((¬ (I11 (q0 + 3 + 1 + 5 * (x12).toNatClampNeg) 0) = 0 → (P10 (x12 + 1) I11)) ∧ ((I11 (q0 + 3 + 1 + 5 * (x12).toNatClampNeg) 0) = 0 → (K (x12) I11)))))) (0) I

set_option maxRecDepth 20000 in
theorem sX5_freeSession {G : pm_G} {l : Launch} (hG : pm_ok G) (q0 : Nat) (I : pm_I) (K : Int32 → pm_I → Prop) (hk0 : pm_k G q0 (.inl 5)) (h : wX5_freeSession G q0 I K) : pm_Ct G l yX5_freeSession cX5_freeSession 2 (some .int) { frames := 1, cells := 0, slots := 0, locals := 64 } [.ref (q0)] I (pm_Ki K) := by
  unfold wX5_freeSession at h
  refine pm_enter (by decide +kernel) hG rfl (Nat.le_of_ble_eq_true rfl) rfl (fun X hl hC hE => ?_)
  subst hl
  have hab : 0 ≤ 0 ∧ 0 ≤ 0 := ⟨Nat.le_refl 0, Nat.le_refl 0⟩
  have hC : pm_C G X cX5_freeSession 2 RX5 (some .int) { frames := 1, cells := 0, slots := 0, locals := 64 } := hC
  refine r_iconst 0 (v := 0) hC dX5_freeSession_0 (by decide) ?_
  refine r_istore_n 1 [some (.ref (q0)), some (.int (0))] hC dX5_freeSession_1 rfl (by decide) rfl ?_
  refine h (fun x12 I11 => pm_R G X 2 0 0 2 [some (.ref (q0)), some (.int (x12))] [] I11) ?_
  clear h; intro x12 I11 h
  refine r_iload_n 2 hC dX5_freeSession_2 rfl rfl ?_
  refine r_bipush 3 (v := 6) hC dX5_freeSession_3 (by decide) ?_
  refine r_icmp_ge 5 28 hC dX5_freeSession_5 (by decide) (fun hc => ?_) (fun hc => ?_)
  · replace h := h.1 hc
    refine r_iconst 28 (v := -1) hC dX5_freeSession_28 (by decide) ?_
    exact r_iret 29 hC hE rfl dX5_freeSession_29 ⟨_, rfl, h⟩
  · replace h := h.2 hc
    refine r_aload_n 8 hC dX5_freeSession_8 rfl rfl ?_
    refine r_getR5 9 (r1 := q0 + 3) hC hk0 3 (by decide) tw_332 rfl rfl dX5_freeSession_9 ?_
    refine r_iload_n 12 hC dX5_freeSession_12 rfl rfl ?_
    have hg13 := h.1; replace h := h.2
    refine r_aald4 13 hC ((pm_s5 hG hk0).2.2) hg13 dX5_freeSession_13 ?_
    refine r_getIN4 14 (x := I11 (q0 + 3 + 1 + 5 * (x12).toNatClampNeg) 0) hC (pm_sa4 hG ((pm_s5 hG hk0).2.2) hg13) 0 (by decide) tw_256 rfl rfl dX5_freeSession_14 ?_
    refine r_if_ne 17 22 hC dX5_freeSession_17 (by decide) (fun hc => ?_) (fun hc => ?_)
    · replace h := h.1 hc
      refine r_iinc 22 (v := x12 + 1) [some (.ref (q0)), some (.int (x12 + 1))] hC dX5_freeSession_22 rfl (by rfl) (by decide) rfl ?_
      refine r_goto 25 2 hC dX5_freeSession_25 (by decide) ?_
      exact h
    · replace h := h.2 hc
      refine r_iload_n 20 hC dX5_freeSession_20 rfl rfl ?_
      exact r_iret 21 hC hE rfl dX5_freeSession_21 ⟨_, rfl, h⟩

def wX5_loadOf (G : pm_G) (q0 : Nat) (x1 : Int32) (I : pm_I) (K : Int32 → pm_I → Prop) : Prop :=
  pm_lp3 (fun (P10 : Int32 → Int32 → pm_I → Prop) (x12 : Int32) (x13 : Int32) (I11 : pm_I) => (6 ≤ x13 → (K (x12) I11)) ∧ (¬ 6 ≤ x13 → (vp_in (x13) 6 ∧ (wX4_leadsOver G (q0 + 3 + 1 + 5 * (x13).toNatClampNeg) (x1) I11 (fun r16 I15 => (r16 = 0 → (P10 (x12) (x13 + 1) I15)) ∧ (¬ r16 = 0 → (P10 (x12 + 1) (x13 + 1) I15))))))) (0) (0) I

set_option maxRecDepth 20000 in
theorem sX5_loadOf {G : pm_G} {l : Launch} (hG : pm_ok G) (q0 : Nat) (x1 : Int32) (I : pm_I) (K : Int32 → pm_I → Prop) (hk0 : pm_k G q0 (.inl 5)) (h : wX5_loadOf G q0 x1 I K) : pm_Ct G l yX5_loadOf cX5_loadOf 4 (some .int) { frames := 2, cells := 0, slots := 0, locals := 149 } [.ref (q0), .int (x1)] I (pm_Ki K) := by
  unfold wX5_loadOf at h
  refine pm_enter (by decide +kernel) hG rfl (Nat.le_of_ble_eq_true rfl) rfl (fun X hl hC hE => ?_)
  subst hl
  have hab : 0 ≤ 0 ∧ 0 ≤ 0 := ⟨Nat.le_refl 0, Nat.le_refl 0⟩
  have hC : pm_C G X cX5_loadOf 4 RX5 (some .int) { frames := 2, cells := 0, slots := 0, locals := 149 } := hC
  refine r_iconst 0 (v := 0) hC dX5_loadOf_0 (by decide) ?_
  refine r_istore_n 1 [some (.ref (q0)), some (.int (x1)), some (.int (0)), none] hC dX5_loadOf_1 rfl (by decide) rfl ?_
  refine r_iconst 2 (v := 0) hC dX5_loadOf_2 (by decide) ?_
  refine r_istore_n 3 [some (.ref (q0)), some (.int (x1)), some (.int (0)), some (.int (0))] hC dX5_loadOf_3 rfl (by decide) rfl ?_
  refine h (fun x12 x13 I11 => pm_R G X 4 0 0 4 [some (.ref (q0)), some (.int (x1)), some (.int (x12)), some (.int (x13))] [] I11) ?_
  clear h; intro x12 x13 I11 h
  refine r_iload_n 4 hC dX5_loadOf_4 rfl rfl ?_
  refine r_bipush 5 (v := 6) hC dX5_loadOf_5 (by decide) ?_
  refine r_icmp_ge 7 32 hC dX5_loadOf_7 (by decide) (fun hc => ?_) (fun hc => ?_)
  · replace h := h.1 hc
    refine r_iload_n 32 hC dX5_loadOf_32 rfl rfl ?_
    exact r_iret 33 hC hE rfl dX5_loadOf_33 ⟨_, rfl, h⟩
  · replace h := h.2 hc
    refine r_aload_n 10 hC dX5_loadOf_10 rfl rfl ?_
    refine r_getR5 11 (r1 := q0 + 3) hC hk0 3 (by decide) tw_332 rfl rfl dX5_loadOf_11 ?_
    refine r_iload_n 14 hC dX5_loadOf_14 rfl rfl ?_
    have hg14 := h.1; replace h := h.2
    refine r_aald4 15 hC ((pm_s5 hG hk0).2.2) hg14 dX5_loadOf_15 ?_
    refine r_iload_n 16 hC dX5_loadOf_16 rfl rfl ?_
    refine r_callVN_i 17 (n := 1) [.int (x1)] [] hC (pm_sa4 hG ((pm_s5 hG hk0).2.2) hg14) rfl dX5_loadOf_17 (by decide) (by decide) tw_798 tw_133 ⟨by decide, by decide, by decide +kernel⟩ tw_795 tw_797 tw_41 rfl rfl (sX4_leadsOver (l := pm_l X) hG (q0 + 3 + 1 + 5 * (x13).toNatClampNeg) (x1) _ _ (pm_sa4 hG ((pm_s5 hG hk0).2.2) hg14) h) hab (Nat.le_of_ble_eq_true rfl) ?_
    clear h; intro r16 I15 h
    refine r_if_eq 20 26 hC dX5_loadOf_20 (by decide) (fun hc => ?_) (fun hc => ?_)
    · replace h := h.1 hc
      refine r_iinc 26 (v := x13 + 1) [some (.ref (q0)), some (.int (x1)), some (.int (x12)), some (.int (x13 + 1))] hC dX5_loadOf_26 rfl (by rfl) (by decide) rfl ?_
      refine r_goto 29 4 hC dX5_loadOf_29 (by decide) ?_
      exact h
    · replace h := h.2 hc
      refine r_iinc 23 (v := x12 + 1) [some (.ref (q0)), some (.int (x1)), some (.int (x12 + 1)), some (.int (x13))] hC dX5_loadOf_23 rfl (by rfl) (by decide) rfl ?_
      refine r_iinc 26 (v := x13 + 1) [some (.ref (q0)), some (.int (x1)), some (.int (x12 + 1)), some (.int (x13 + 1))] hC dX5_loadOf_26 rfl (by rfl) (by decide) rfl ?_
      refine r_goto 29 4 hC dX5_loadOf_29 (by decide) ?_
      exact h

def wX5_canRelay (G : pm_G) (q0 : Nat) (x1 : Int32) (x2 : Int32) (x3 : Int32) (I : pm_I) (K : Int32 → pm_I → Prop) : Prop :=
  (x1 = x2 → K 0 I) ∧ (¬ x1 = x2 → ((x1 = x3 → K 0 I) ∧ (¬ x1 = x3 → (wX5_acquainted G (q0) (x1) (x2) I (fun r11 I10 => (r11 = 0 → K 0 I10) ∧ (¬ r11 = 0 → (wX5_acquainted G (q0) (x1) (x3) I10 (fun r13 I12 => (r13 = 0 → K 0 I12) ∧ (¬ r13 = 0 → (wX5_linkIsUp G (q0) (x1) (x2) I12 (fun r15 I14 => (r15 = 0 → K 0 I14) ∧ (¬ r15 = 0 → (wX5_linkIsUp G (q0) (x1) (x3) I14 (fun r17 I16 => (r17 = 0 → K 0 I16) ∧ (¬ r17 = 0 → K 1 I16)))))))))))))))

set_option maxRecDepth 20000 in
theorem sX5_canRelay {G : pm_G} {l : Launch} (hG : pm_ok G) (q0 : Nat) (x1 : Int32) (x2 : Int32) (x3 : Int32) (I : pm_I) (K : Int32 → pm_I → Prop) (hk0 : pm_k G q0 (.inl 5)) (h : wX5_canRelay G q0 x1 x2 x3 I K) : pm_Ct G l yX5_canRelay cX5_canRelay 4 (some .boolean) { frames := 2, cells := 0, slots := 0, locals := 150 } [.ref (q0), .int (x1), .int (x2), .int (x3)] I (pm_Ki K) := by
  unfold wX5_canRelay at h
  refine pm_enter (by decide +kernel) hG rfl (Nat.le_of_ble_eq_true rfl) rfl (fun X hl hC hE => ?_)
  subst hl
  have hab : 0 ≤ 0 ∧ 0 ≤ 0 := ⟨Nat.le_refl 0, Nat.le_refl 0⟩
  have hC : pm_C G X cX5_canRelay 4 RX5 (some .boolean) { frames := 2, cells := 0, slots := 0, locals := 150 } := hC
  refine r_iload_n 0 hC dX5_canRelay_0 rfl rfl ?_
  refine r_iload_n 1 hC dX5_canRelay_1 rfl rfl ?_
  refine r_icmp_eq 2 50 hC dX5_canRelay_2 (by decide) (fun hc => ?_) (fun hc => ?_)
  · replace h := h.1 hc
    refine r_iconst 50 (v := 0) hC dX5_canRelay_50 (by decide) ?_
    exact r_iret 51 hC hE rfl dX5_canRelay_51 ⟨_, rfl, h⟩
  · replace h := h.2 hc
    refine r_iload_n 5 hC dX5_canRelay_5 rfl rfl ?_
    refine r_iload_n 6 hC dX5_canRelay_6 rfl rfl ?_
    refine r_icmp_eq 7 50 hC dX5_canRelay_7 (by decide) (fun hc => ?_) (fun hc => ?_)
    · replace h := h.1 hc
      refine r_iconst 50 (v := 0) hC dX5_canRelay_50 (by decide) ?_
      exact r_iret 51 hC hE rfl dX5_canRelay_51 ⟨_, rfl, h⟩
    · replace h := h.2 hc
      refine r_aload_n 10 hC dX5_canRelay_10 rfl rfl ?_
      refine r_iload_n 11 hC dX5_canRelay_11 rfl rfl ?_
      refine r_iload_n 12 hC dX5_canRelay_12 rfl rfl ?_
      refine r_callV_i 13 (n := 2) [.int (x1), .int (x2)] [] hC hk0 rfl dX5_canRelay_13 (by decide) (by decide) tw_748 tw_132 ⟨by decide, by decide, by decide +kernel⟩ tw_814 tw_747 tw_36 rfl rfl (sX5_acquainted (l := pm_l X) hG (q0) (x1) (x2) _ _ hk0 h) hab (Nat.le_of_ble_eq_true rfl) ?_
      clear h; intro r11 I10 h
      refine r_if_eq 16 50 hC dX5_canRelay_16 (by decide) (fun hc => ?_) (fun hc => ?_)
      · replace h := h.1 hc
        refine r_iconst 50 (v := 0) hC dX5_canRelay_50 (by decide) ?_
        exact r_iret 51 hC hE rfl dX5_canRelay_51 ⟨_, rfl, h⟩
      · replace h := h.2 hc
        refine r_aload_n 19 hC dX5_canRelay_19 rfl rfl ?_
        refine r_iload_n 20 hC dX5_canRelay_20 rfl rfl ?_
        refine r_iload_n 21 hC dX5_canRelay_21 rfl rfl ?_
        refine r_callV_i 22 (n := 2) [.int (x1), .int (x3)] [] hC hk0 rfl dX5_canRelay_22 (by decide) (by decide) tw_748 tw_132 ⟨by decide, by decide, by decide +kernel⟩ tw_814 tw_747 tw_36 rfl rfl (sX5_acquainted (l := pm_l X) hG (q0) (x1) (x3) _ _ hk0 h) hab (Nat.le_of_ble_eq_true rfl) ?_
        clear h; intro r13 I12 h
        refine r_if_eq 25 50 hC dX5_canRelay_25 (by decide) (fun hc => ?_) (fun hc => ?_)
        · replace h := h.1 hc
          refine r_iconst 50 (v := 0) hC dX5_canRelay_50 (by decide) ?_
          exact r_iret 51 hC hE rfl dX5_canRelay_51 ⟨_, rfl, h⟩
        · replace h := h.2 hc
          refine r_aload_n 28 hC dX5_canRelay_28 rfl rfl ?_
          refine r_iload_n 29 hC dX5_canRelay_29 rfl rfl ?_
          refine r_iload_n 30 hC dX5_canRelay_30 rfl rfl ?_
          refine r_callV_i 31 (n := 2) [.int (x1), .int (x2)] [] hC hk0 rfl dX5_canRelay_31 (by decide) (by decide) tw_759 tw_132 ⟨by decide, by decide, by decide +kernel⟩ tw_815 tw_758 tw_37 rfl rfl (sX5_linkIsUp (l := pm_l X) hG (q0) (x1) (x2) _ _ hk0 h) hab (Nat.le_of_ble_eq_true rfl) ?_
          clear h; intro r15 I14 h
          refine r_if_eq 34 50 hC dX5_canRelay_34 (by decide) (fun hc => ?_) (fun hc => ?_)
          · replace h := h.1 hc
            refine r_iconst 50 (v := 0) hC dX5_canRelay_50 (by decide) ?_
            exact r_iret 51 hC hE rfl dX5_canRelay_51 ⟨_, rfl, h⟩
          · replace h := h.2 hc
            refine r_aload_n 37 hC dX5_canRelay_37 rfl rfl ?_
            refine r_iload_n 38 hC dX5_canRelay_38 rfl rfl ?_
            refine r_iload_n 39 hC dX5_canRelay_39 rfl rfl ?_
            refine r_callV_i 40 (n := 2) [.int (x1), .int (x3)] [] hC hk0 rfl dX5_canRelay_40 (by decide) (by decide) tw_759 tw_132 ⟨by decide, by decide, by decide +kernel⟩ tw_815 tw_758 tw_37 rfl rfl (sX5_linkIsUp (l := pm_l X) hG (q0) (x1) (x3) _ _ hk0 h) hab (Nat.le_of_ble_eq_true rfl) ?_
            clear h; intro r17 I16 h
            refine r_if_eq 43 50 hC dX5_canRelay_43 (by decide) (fun hc => ?_) (fun hc => ?_)
            · replace h := h.1 hc
              refine r_iconst 50 (v := 0) hC dX5_canRelay_50 (by decide) ?_
              exact r_iret 51 hC hE rfl dX5_canRelay_51 ⟨_, rfl, h⟩
            · replace h := h.2 hc
              refine r_iconst 46 (v := 1) hC dX5_canRelay_46 (by decide) ?_
              refine r_goto 47 51 hC dX5_canRelay_47 (by decide) ?_
              exact r_iret 51 hC hE rfl dX5_canRelay_51 ⟨_, rfl, h⟩

def wX5_scoreOf (G : pm_G) (q0 : Nat) (q1 : Nat) (x2 : Int32) (x3 : Int32) (x4 : Int32) (I : pm_I) (K : Int32 → pm_I → Prop) : Prop :=
  wX1_delayBetween G (q1) (x3) (x2) I (fun r11 I10 => wX1_delayBetween G (q1) (x2) (x4) I10 (fun r13 I12 => wX5_loadOf G (q0) (x2) I12 (fun r15 I14 => vp_in (x2) 8 ∧ (wX1_zonesCrossed G (q1) (x2) (x3) (x4) I14 (fun r17 I16 => wX3_worth G (q1 + 5) (r11) (r13) (r15) (I14 (q1 + 1) (x2).toNatClampNeg) (r17) I16 (fun r19 I18 => K (r19) I18))))))

set_option maxRecDepth 20000 in
theorem sX5_scoreOf {G : pm_G} {l : Launch} (hG : pm_ok G) (q0 : Nat) (q1 : Nat) (x2 : Int32) (x3 : Int32) (x4 : Int32) (I : pm_I) (K : Int32 → pm_I → Prop) (hk0 : pm_k G q0 (.inl 5)) (hk1 : pm_k G q1 (.inl 1)) (h : wX5_scoreOf G q0 q1 x2 x3 x4 I K) : pm_Ct G l yX5_scoreOf cX5_scoreOf 5 (some .int) { frames := 3, cells := 0, slots := 0, locals := 242 } [.ref (q0), .ref (q1), .int (x2), .int (x3), .int (x4)] I (pm_Ki K) := by
  unfold wX5_scoreOf at h
  refine pm_enter (by decide +kernel) hG rfl (Nat.le_of_ble_eq_true rfl) rfl (fun X hl hC hE => ?_)
  subst hl
  have hab : 0 ≤ 0 ∧ 0 ≤ 0 := ⟨Nat.le_refl 0, Nat.le_refl 0⟩
  have hC : pm_C G X cX5_scoreOf 5 RX5 (some .int) { frames := 3, cells := 0, slots := 0, locals := 242 } := hC
  refine r_aload_n 0 hC dX5_scoreOf_0 rfl rfl ?_
  refine r_getRN1 1 (r1 := q1 + 5) hC hk1 5 (by decide) tw_213 rfl rfl dX5_scoreOf_1 ?_
  refine r_aload_n 4 hC dX5_scoreOf_4 rfl rfl ?_
  refine r_iload_n 5 hC dX5_scoreOf_5 rfl rfl ?_
  refine r_iload_n 6 hC dX5_scoreOf_6 rfl rfl ?_
  refine r_callVN_i 7 (n := 2) [.int (x3), .int (x2)] [.ref (q1 + 5)] hC hk1 rfl dX5_scoreOf_7 (by decide) (by decide) tw_708 tw_130 ⟨by decide, by decide, by decide +kernel⟩ tw_705 tw_707 tw_32 rfl rfl (sX1_delayBetween (l := pm_l X) hG (q1) (x3) (x2) _ _ hk1 h) hab (Nat.le_of_ble_eq_true rfl) ?_
  clear h; intro r11 I10 h
  refine r_aload_n 10 hC dX5_scoreOf_10 rfl rfl ?_
  refine r_iload_n 11 hC dX5_scoreOf_11 rfl rfl ?_
  refine r_iload 12 hC dX5_scoreOf_12 rfl ?_
  refine r_callVN_i 14 (n := 2) [.int (x2), .int (x4)] [.int (r11), .ref (q1 + 5)] hC hk1 rfl dX5_scoreOf_14 (by decide) (by decide) tw_708 tw_130 ⟨by decide, by decide, by decide +kernel⟩ tw_705 tw_707 tw_32 rfl rfl (sX1_delayBetween (l := pm_l X) hG (q1) (x2) (x4) _ _ hk1 h) hab (Nat.le_of_ble_eq_true rfl) ?_
  clear h; intro r13 I12 h
  refine r_aload_n 17 hC dX5_scoreOf_17 rfl rfl ?_
  refine r_iload_n 18 hC dX5_scoreOf_18 rfl rfl ?_
  refine r_callV_i 19 (n := 1) [.int (x2)] [.int (r13), .int (r11), .ref (q1 + 5)] hC hk0 rfl dX5_scoreOf_19 (by decide) (by decide) tw_794 tw_132 ⟨by decide, by decide, by decide +kernel⟩ tw_816 tw_793 tw_40 rfl rfl (sX5_loadOf (l := pm_l X) hG (q0) (x2) _ _ hk0 h) hab (Nat.le_of_ble_eq_true rfl) ?_
  clear h; intro r15 I14 h
  refine r_aload_n 22 hC dX5_scoreOf_22 rfl rfl ?_
  refine r_getRN1 23 (r1 := q1 + 1) hC hk1 1 (by decide) tw_206 rfl rfl dX5_scoreOf_23 ?_
  refine r_iload_n 26 hC dX5_scoreOf_26 rfl rfl ?_
  refine r_iald 27 hC ((pm_s1 hG hk1).1) h.1 dX5_scoreOf_27 ?_
  replace h := h.2
  refine r_aload_n 28 hC dX5_scoreOf_28 rfl rfl ?_
  refine r_iload_n 29 hC dX5_scoreOf_29 rfl rfl ?_
  refine r_iload_n 30 hC dX5_scoreOf_30 rfl rfl ?_
  refine r_iload 31 hC dX5_scoreOf_31 rfl ?_
  refine r_callVN_i 33 (n := 3) [.int (x2), .int (x3), .int (x4)] [.int (I14 (q1 + 1) (x2).toNatClampNeg), .int (r15), .int (r13), .int (r11), .ref (q1 + 5)] hC hk1 rfl dX5_scoreOf_33 (by decide) (by decide) tw_824 tw_130 ⟨by decide, by decide, by decide +kernel⟩ tw_821 tw_823 tw_45 rfl rfl (sX1_zonesCrossed (l := pm_l X) hG (q1) (x2) (x3) (x4) _ _ hk1 h) hab (Nat.le_of_ble_eq_true rfl) ?_
  clear h; intro r17 I16 h
  refine r_callVN_i 36 (n := 5) [.int (r11), .int (r13), .int (r15), .int (I14 (q1 + 1) (x2).toNatClampNeg), .int (r17)] [] hC ((pm_s1 hG hk1).2.2.2.2) rfl dX5_scoreOf_36 (by decide) (by decide) tw_828 tw_131 ⟨by decide, by decide, by decide +kernel⟩ tw_825 tw_827 tw_46 rfl rfl (sX3_worth (l := pm_l X) hG (q1 + 5) (r11) (r13) (r15) (I14 (q1 + 1) (x2).toNatClampNeg) (r17) _ _ ((pm_s1 hG hk1).2.2.2.2) h) hab (Nat.le_of_ble_eq_true rfl) ?_
  clear h; intro r19 I18 h
  exact r_iret 39 hC hE rfl dX5_scoreOf_39 ⟨_, rfl, h⟩

def wX5_chooseRelay (G : pm_G) (q0 : Nat) (q1 : Nat) (x2 : Int32) (x3 : Int32) (I : pm_I) (K : Int32 → pm_I → Prop) : Prop :=
  pm_lp4 (fun (P10 : Int32 → Int32 → Int32 → pm_I → Prop) (x12 : Int32) (x13 : Int32) (x14 : Int32) (I11 : pm_I) => ((I11 q1 0) ≤ x14 → (K (x12) I11)) ∧ (¬ (I11 q1 0) ≤ x14 → (wX5_canRelay G (q0) (x14) (x2) (x3) I11 (fun r16 I15 => (r16 = 0 → (P10 (x12) (x13) (x14 + 1) I15)) ∧ (¬ r16 = 0 → (wX5_loadOf G (q0) (x14) I15 (fun r18 I17 => vp_in (x14) 8 ∧ (((I17 (q1 + 1) (x14).toNatClampNeg) ≤ r18 → (P10 (x12) (x13) (x14 + 1) I17)) ∧ (¬ (I17 (q1 + 1) (x14).toNatClampNeg) ≤ r18 → (wX5_scoreOf G (q0) (q1) (x14) (x2) (x3) I17 (fun r20 I19 => (x12 = (-1) → (P10 (x14) (r20) (x14 + 1) I19)) ∧ (¬ x12 = (-1) → ((x13 ≤ r20 → (P10 (x12) (x13) (x14 + 1) I19)) ∧ (¬ x13 ≤ r20 → (P10 (x14) (r20) (x14 + 1) I19))))))))))))))) (-1) (0) (0) I

set_option maxRecDepth 20000 in
theorem sX5_chooseRelay {G : pm_G} {l : Launch} (hG : pm_ok G) (q0 : Nat) (q1 : Nat) (x2 : Int32) (x3 : Int32) (I : pm_I) (K : Int32 → pm_I → Prop) (hk0 : pm_k G q0 (.inl 5)) (hk1 : pm_k G q1 (.inl 1)) (h : wX5_chooseRelay G q0 q1 x2 x3 I K) : pm_Ct G l yX5_chooseRelay cX5_chooseRelay 8 (some .int) { frames := 4, cells := 0, slots := 0, locals := 330 } [.ref (q0), .ref (q1), .int (x2), .int (x3)] I (pm_Ki K) := by
  unfold wX5_chooseRelay at h
  refine pm_enter (by decide +kernel) hG rfl (Nat.le_of_ble_eq_true rfl) rfl (fun X hl hC hE => ?_)
  subst hl
  have hab : 0 ≤ 0 ∧ 0 ≤ 0 := ⟨Nat.le_refl 0, Nat.le_refl 0⟩
  have hC : pm_C G X cX5_chooseRelay 8 RX5 (some .int) { frames := 4, cells := 0, slots := 0, locals := 330 } := hC
  refine r_iconst 0 (v := -1) hC dX5_chooseRelay_0 (by decide) ?_
  refine r_istore 1 [some (.ref (q0)), some (.ref (q1)), some (.int (x2)), some (.int (x3)), some (.int (-1)), none, none, none] hC dX5_chooseRelay_1 (by decide) rfl ?_
  refine r_iconst 3 (v := 0) hC dX5_chooseRelay_3 (by decide) ?_
  refine r_istore 4 [some (.ref (q0)), some (.ref (q1)), some (.int (x2)), some (.int (x3)), some (.int (-1)), some (.int (0)), none, none] hC dX5_chooseRelay_4 (by decide) rfl ?_
  refine r_iconst 6 (v := 0) hC dX5_chooseRelay_6 (by decide) ?_
  refine r_istore 7 [some (.ref (q0)), some (.ref (q1)), some (.int (x2)), some (.int (x3)), some (.int (-1)), some (.int (0)), some (.int (0)), none] hC dX5_chooseRelay_7 (by decide) rfl ?_
  refine h (fun x12 x13 x14 I11 => pm_R G X 8 0 0 9 [some (.ref (q0)), some (.ref (q1)), some (.int (x2)), some (.int (x3)), some (.int (x12)), some (.int (x13)), some (.int (x14)), none] [] I11) ?_
  clear h; intro x12 x13 x14 I11 h
  refine r_iload 9 hC dX5_chooseRelay_9 rfl ?_
  refine r_aload_n 11 hC dX5_chooseRelay_11 rfl rfl ?_
  refine r_getIN1 12 (x := I11 (q1) 0) hC hk1 0 (by decide) tw_204 rfl rfl dX5_chooseRelay_12 ?_
  refine r_icmp_ge 15 83 hC dX5_chooseRelay_15 (by decide) (fun hc => ?_) (fun hc => ?_)
  · replace h := h.1 hc
    refine r_iload 83 hC dX5_chooseRelay_83 rfl ?_
    exact r_iret 85 hC hE rfl dX5_chooseRelay_85 ⟨_, rfl, h⟩
  · replace h := h.2 hc
    refine r_aload_n 18 hC dX5_chooseRelay_18 rfl rfl ?_
    refine r_iload 19 hC dX5_chooseRelay_19 rfl ?_
    refine r_iload_n 21 hC dX5_chooseRelay_21 rfl rfl ?_
    refine r_iload_n 22 hC dX5_chooseRelay_22 rfl rfl ?_
    refine r_callV_i 23 (n := 3) [.int (x14), .int (x2), .int (x3)] [] hC hk0 rfl dX5_chooseRelay_23 (by decide) (by decide) tw_813 tw_132 ⟨by decide, by decide, by decide +kernel⟩ tw_810 tw_812 tw_43 rfl rfl (sX5_canRelay (l := pm_l X) hG (q0) (x14) (x2) (x3) _ _ hk0 h) hab (Nat.le_of_ble_eq_true rfl) ?_
    clear h; intro r16 I15 h
    refine r_if_eq 26 77 hC dX5_chooseRelay_26 (by decide) (fun hc => ?_) (fun hc => ?_)
    · replace h := h.1 hc
      refine r_iinc 77 (v := x14 + 1) [some (.ref (q0)), some (.ref (q1)), some (.int (x2)), some (.int (x3)), some (.int (x12)), some (.int (x13)), some (.int (x14 + 1)), none] hC dX5_chooseRelay_77 rfl (by rfl) (by decide) rfl ?_
      refine r_goto 80 9 hC dX5_chooseRelay_80 (by decide) ?_
      exact h
    · replace h := h.2 hc
      refine r_aload_n 29 hC dX5_chooseRelay_29 rfl rfl ?_
      refine r_iload 30 hC dX5_chooseRelay_30 rfl ?_
      refine r_callV_i 32 (n := 1) [.int (x14)] [] hC hk0 rfl dX5_chooseRelay_32 (by decide) (by decide) tw_794 tw_132 ⟨by decide, by decide, by decide +kernel⟩ tw_816 tw_793 tw_40 rfl rfl (sX5_loadOf (l := pm_l X) hG (q0) (x14) _ _ hk0 h) hab (Nat.le_of_ble_eq_true rfl) ?_
      clear h; intro r18 I17 h
      refine r_aload_n 35 hC dX5_chooseRelay_35 rfl rfl ?_
      refine r_getRN1 36 (r1 := q1 + 1) hC hk1 1 (by decide) tw_206 rfl rfl dX5_chooseRelay_36 ?_
      refine r_iload 39 hC dX5_chooseRelay_39 rfl ?_
      refine r_iald 41 hC ((pm_s1 hG hk1).1) h.1 dX5_chooseRelay_41 ?_
      replace h := h.2
      refine r_icmp_ge 42 77 hC dX5_chooseRelay_42 (by decide) (fun hc => ?_) (fun hc => ?_)
      · replace h := h.1 hc
        refine r_iinc 77 (v := x14 + 1) [some (.ref (q0)), some (.ref (q1)), some (.int (x2)), some (.int (x3)), some (.int (x12)), some (.int (x13)), some (.int (x14 + 1)), none] hC dX5_chooseRelay_77 rfl (by rfl) (by decide) rfl ?_
        refine r_goto 80 9 hC dX5_chooseRelay_80 (by decide) ?_
        exact h
      · replace h := h.2 hc
        refine r_aload_n 45 hC dX5_chooseRelay_45 rfl rfl ?_
        refine r_aload_n 46 hC dX5_chooseRelay_46 rfl rfl ?_
        refine r_iload 47 hC dX5_chooseRelay_47 rfl ?_
        refine r_iload_n 49 hC dX5_chooseRelay_49 rfl rfl ?_
        refine r_iload_n 50 hC dX5_chooseRelay_50 rfl rfl ?_
        refine r_callV_i 51 (n := 4) [.ref (q1), .int (x14), .int (x2), .int (x3)] [] hC hk0 rfl dX5_chooseRelay_51 (by decide) (by decide) tw_820 tw_132 ⟨by decide, by decide, by decide +kernel⟩ tw_817 tw_819 tw_44 rfl rfl (sX5_scoreOf (l := pm_l X) hG (q0) (q1) (x14) (x2) (x3) _ _ hk0 hk1 h) hab (Nat.le_of_ble_eq_true rfl) ?_
        clear h; intro r20 I19 h
        refine r_istore 54 [some (.ref (q0)), some (.ref (q1)), some (.int (x2)), some (.int (x3)), some (.int (x12)), some (.int (x13)), some (.int (x14)), some (.int (r20))] hC dX5_chooseRelay_54 (by decide) rfl ?_
        refine r_iload 56 hC dX5_chooseRelay_56 rfl ?_
        refine r_iconst 58 (v := -1) hC dX5_chooseRelay_58 (by decide) ?_
        refine r_icmp_eq 59 69 hC dX5_chooseRelay_59 (by decide) (fun hc => ?_) (fun hc => ?_)
        · replace h := h.1 hc
          refine r_iload 69 hC dX5_chooseRelay_69 rfl ?_
          refine r_istore 71 [some (.ref (q0)), some (.ref (q1)), some (.int (x2)), some (.int (x3)), some (.int (x14)), some (.int (x13)), some (.int (x14)), some (.int (r20))] hC dX5_chooseRelay_71 (by decide) rfl ?_
          refine r_iload 73 hC dX5_chooseRelay_73 rfl ?_
          refine r_istore 75 [some (.ref (q0)), some (.ref (q1)), some (.int (x2)), some (.int (x3)), some (.int (x14)), some (.int (r20)), some (.int (x14)), some (.int (r20))] hC dX5_chooseRelay_75 (by decide) rfl ?_
          refine r_iinc 77 (v := x14 + 1) [some (.ref (q0)), some (.ref (q1)), some (.int (x2)), some (.int (x3)), some (.int (x14)), some (.int (r20)), some (.int (x14 + 1)), some (.int (r20))] hC dX5_chooseRelay_77 rfl (by rfl) (by decide) rfl ?_
          refine r_goto 80 9 hC dX5_chooseRelay_80 (by decide) ?_
          refine r_weak (ls' := [some (.ref (q0)), some (.ref (q1)), some (.int (x2)), some (.int (x3)), some (.int (x14)), some (.int (r20)), some (.int (x14 + 1)), none]) (And.intro rfl (And.intro rfl (And.intro rfl (And.intro rfl (And.intro rfl (And.intro rfl (And.intro rfl (trivial)))))))) ?_
          exact h
        · replace h := h.2 hc
          refine r_iload 62 hC dX5_chooseRelay_62 rfl ?_
          refine r_iload 64 hC dX5_chooseRelay_64 rfl ?_
          refine r_icmp_ge 66 77 hC dX5_chooseRelay_66 (by decide) (fun hc => ?_) (fun hc => ?_)
          · replace h := h.1 hc
            refine r_iinc 77 (v := x14 + 1) [some (.ref (q0)), some (.ref (q1)), some (.int (x2)), some (.int (x3)), some (.int (x12)), some (.int (x13)), some (.int (x14 + 1)), some (.int (r20))] hC dX5_chooseRelay_77 rfl (by rfl) (by decide) rfl ?_
            refine r_goto 80 9 hC dX5_chooseRelay_80 (by decide) ?_
            refine r_weak (ls' := [some (.ref (q0)), some (.ref (q1)), some (.int (x2)), some (.int (x3)), some (.int (x12)), some (.int (x13)), some (.int (x14 + 1)), none]) (And.intro rfl (And.intro rfl (And.intro rfl (And.intro rfl (And.intro rfl (And.intro rfl (And.intro rfl (trivial)))))))) ?_
            exact h
          · replace h := h.2 hc
            refine r_iload 69 hC dX5_chooseRelay_69 rfl ?_
            refine r_istore 71 [some (.ref (q0)), some (.ref (q1)), some (.int (x2)), some (.int (x3)), some (.int (x14)), some (.int (x13)), some (.int (x14)), some (.int (r20))] hC dX5_chooseRelay_71 (by decide) rfl ?_
            refine r_iload 73 hC dX5_chooseRelay_73 rfl ?_
            refine r_istore 75 [some (.ref (q0)), some (.ref (q1)), some (.int (x2)), some (.int (x3)), some (.int (x14)), some (.int (r20)), some (.int (x14)), some (.int (r20))] hC dX5_chooseRelay_75 (by decide) rfl ?_
            refine r_iinc 77 (v := x14 + 1) [some (.ref (q0)), some (.ref (q1)), some (.int (x2)), some (.int (x3)), some (.int (x14)), some (.int (r20)), some (.int (x14 + 1)), some (.int (r20))] hC dX5_chooseRelay_77 rfl (by rfl) (by decide) rfl ?_
            refine r_goto 80 9 hC dX5_chooseRelay_80 (by decide) ?_
            refine r_weak (ls' := [some (.ref (q0)), some (.ref (q1)), some (.int (x2)), some (.int (x3)), some (.int (x14)), some (.int (r20)), some (.int (x14 + 1)), none]) (And.intro rfl (And.intro rfl (And.intro rfl (And.intro rfl (And.intro rfl (And.intro rfl (And.intro rfl (trivial)))))))) ?_
            exact h

def wX5_upgrade (G : pm_G) (q0 : Nat) (q1 : Nat) (q2 : Nat) (I : pm_I) (K : pm_I → Prop) : Prop :=
  ∀ I10 : pm_I, I10 = pm_up I (q2) 6 (0) → (((I10 q2 4) = (-1) → (wX4_changePath G (q2) (100) I10 (fun I11 => wX1_delayAlong G (q1) (q2) I11 (fun r13 I12 => wX4_startWaiting G (q2) ((I11 q0 0) + r13) I12 (fun I14 => K I14))))) ∧ (¬ (I10 q2 4) = (-1) → (∀ I15 : pm_I, I15 = pm_up I10 (q2) 5 (I10 (q2) 4) → (wX4_changePath G (q2) (100) I15 (fun I16 => wX1_delayAlong G (q1) (q2) I16 (fun r18 I17 => wX4_startWaiting G (q2) ((I16 q0 0) + r18) I17 (fun I19 => K I19)))))))

set_option maxRecDepth 20000 in
theorem sX5_upgrade {G : pm_G} {l : Launch} (hG : pm_ok G) (q0 : Nat) (q1 : Nat) (q2 : Nat) (I : pm_I) (K : pm_I → Prop) (hk0 : pm_k G q0 (.inl 5)) (hk1 : pm_k G q1 (.inl 1)) (hk2 : pm_k G q2 (.inl 4)) (h : wX5_upgrade G q0 q1 q2 I K) : pm_Ct G l yX5_upgrade cX5_upgrade 3 none { frames := 4, cells := 0, slots := 0, locals := 321 } [.ref (q0), .ref (q1), .ref (q2)] I (pm_Kv K) := by
  unfold wX5_upgrade at h
  refine pm_enter (by decide +kernel) hG rfl (Nat.le_of_ble_eq_true rfl) rfl (fun X hl hC hE => ?_)
  subst hl
  have hab : 0 ≤ 0 ∧ 0 ≤ 0 := ⟨Nat.le_refl 0, Nat.le_refl 0⟩
  have hC : pm_C G X cX5_upgrade 3 RX5 none { frames := 4, cells := 0, slots := 0, locals := 321 } := hC
  refine r_aload_n 0 hC dX5_upgrade_0 rfl rfl ?_
  refine r_iconst 1 (v := 0) hC dX5_upgrade_1 (by decide) ?_
  refine r_putIN4 2 hC hk2 6 (by decide) tw_274 rfl rfl (by decide +kernel) ps_4_6 dX5_upgrade_2 (fun I10 hI => ?_)
  replace h := h I10 hI; clear hI
  refine r_aload_n 5 hC dX5_upgrade_5 rfl rfl ?_
  refine r_getIN4 6 (x := I10 (q2) 4) hC hk2 4 (by decide) tw_268 rfl rfl dX5_upgrade_6 ?_
  refine r_iconst 9 (v := -1) hC dX5_upgrade_9 (by decide) ?_
  refine r_icmp_eq 10 21 hC dX5_upgrade_10 (by decide) (fun hc => ?_) (fun hc => ?_)
  · replace h := h.1 hc
    refine r_aload_n 21 hC dX5_upgrade_21 rfl rfl ?_
    refine r_bipush 22 (v := 100) hC dX5_upgrade_22 (by decide) ?_
    refine r_callVN_v 24 (n := 1) [.int (100)] [] hC hk2 rfl dX5_upgrade_24 (by decide) (by decide) tw_997 tw_133 ⟨by decide, by decide, by decide +kernel⟩ tw_994 tw_996 tw_59 rfl rfl (sX4_changePath (l := pm_l X) hG (q2) (100) _ _ hk2 h) hab (Nat.le_of_ble_eq_true rfl) ?_
    clear h; intro I11 h
    refine r_aload_n 27 hC dX5_upgrade_27 rfl rfl ?_
    refine r_aload_n 28 hC dX5_upgrade_28 rfl rfl ?_
    refine r_getI5 29 (x := I11 (q0) 0) hC hk0 0 (by decide) tw_327 rfl rfl dX5_upgrade_29 ?_
    refine r_aload_n 32 hC dX5_upgrade_32 rfl rfl ?_
    refine r_aload_n 33 hC dX5_upgrade_33 rfl rfl ?_
    refine r_callVN_i 34 (n := 1) [.ref (q2)] [.int (I11 (q0) 0), .ref (q2)] hC hk1 rfl dX5_upgrade_34 (by decide) (by decide) tw_1005 tw_130 ⟨by decide, by decide, by decide +kernel⟩ tw_1002 tw_1004 tw_61 rfl rfl (sX1_delayAlong (l := pm_l X) hG (q1) (q2) _ _ hk1 hk2 h) hab (Nat.le_of_ble_eq_true rfl) ?_
    clear h; intro r13 I12 h
    refine r_iadd 37 hC dX5_upgrade_37 ?_
    refine r_callVN_v 38 (n := 1) [.int ((I11 q0 0) + r13)] [] hC hk2 rfl dX5_upgrade_38 (by decide) (by decide) tw_1010 tw_133 ⟨by decide, by decide, by decide +kernel⟩ tw_1007 tw_1009 tw_62 rfl rfl (sX4_startWaiting (l := pm_l X) hG (q2) ((I11 q0 0) + r13) _ _ hk2 h) hab (Nat.le_of_ble_eq_true rfl) ?_
    clear h; intro I14 h
    exact r_vret 41 hC hE dX5_upgrade_41 ⟨rfl, h⟩
  · replace h := h.2 hc
    refine r_aload_n 13 hC dX5_upgrade_13 rfl rfl ?_
    refine r_aload_n 14 hC dX5_upgrade_14 rfl rfl ?_
    refine r_getIN4 15 (x := I10 (q2) 4) hC hk2 4 (by decide) tw_268 rfl rfl dX5_upgrade_15 ?_
    refine r_putIN4 18 hC hk2 5 (by decide) tw_272 rfl rfl (by decide +kernel) ps_4_5 dX5_upgrade_18 (fun I15 hI => ?_)
    replace h := h I15 hI; clear hI
    refine r_aload_n 21 hC dX5_upgrade_21 rfl rfl ?_
    refine r_bipush 22 (v := 100) hC dX5_upgrade_22 (by decide) ?_
    refine r_callVN_v 24 (n := 1) [.int (100)] [] hC hk2 rfl dX5_upgrade_24 (by decide) (by decide) tw_997 tw_133 ⟨by decide, by decide, by decide +kernel⟩ tw_994 tw_996 tw_59 rfl rfl (sX4_changePath (l := pm_l X) hG (q2) (100) _ _ hk2 h) hab (Nat.le_of_ble_eq_true rfl) ?_
    clear h; intro I16 h
    refine r_aload_n 27 hC dX5_upgrade_27 rfl rfl ?_
    refine r_aload_n 28 hC dX5_upgrade_28 rfl rfl ?_
    refine r_getI5 29 (x := I16 (q0) 0) hC hk0 0 (by decide) tw_327 rfl rfl dX5_upgrade_29 ?_
    refine r_aload_n 32 hC dX5_upgrade_32 rfl rfl ?_
    refine r_aload_n 33 hC dX5_upgrade_33 rfl rfl ?_
    refine r_callVN_i 34 (n := 1) [.ref (q2)] [.int (I16 (q0) 0), .ref (q2)] hC hk1 rfl dX5_upgrade_34 (by decide) (by decide) tw_1005 tw_130 ⟨by decide, by decide, by decide +kernel⟩ tw_1002 tw_1004 tw_61 rfl rfl (sX1_delayAlong (l := pm_l X) hG (q1) (q2) _ _ hk1 hk2 h) hab (Nat.le_of_ble_eq_true rfl) ?_
    clear h; intro r18 I17 h
    refine r_iadd 37 hC dX5_upgrade_37 ?_
    refine r_callVN_v 38 (n := 1) [.int ((I16 q0 0) + r18)] [] hC hk2 rfl dX5_upgrade_38 (by decide) (by decide) tw_1010 tw_133 ⟨by decide, by decide, by decide +kernel⟩ tw_1007 tw_1009 tw_62 rfl rfl (sX4_startWaiting (l := pm_l X) hG (q2) ((I16 q0 0) + r18) _ _ hk2 h) hab (Nat.le_of_ble_eq_true rfl) ?_
    clear h; intro I19 h
    exact r_vret 41 hC hE dX5_upgrade_41 ⟨rfl, h⟩

def wX5_probeIfDue (G : pm_G) (q0 : Nat) (q1 : Nat) (q2 : Nat) (I : pm_I) (K : pm_I → Prop) : Prop :=
  ((I q1 6) < 1 → K I) ∧ (¬ (I q1 6) < 1 → ((¬ (I (q1) 6) = 0) ∧ (((((I q0 0) - (I q2 3)) - ((I q0 0) - (I q2 3)) / (I q1 6) * (I q1 6)) = 0 → (wX5_linkIsUp G (q0) (I (q2) 1) (I (q2) 2) I (fun r11 I10 => (¬ r11 = 0 → (∀ I12 : pm_I, I12 = pm_up I10 (q2) 6 ((I10 q2 6) + 1) → (((I12 q2 6) < (I12 q1 7) → K I12) ∧ (¬ (I12 q2 6) < (I12 q1 7) → (wX5_upgrade G (q0) (q1) (q2) I12 (fun I13 => K I13)))))) ∧ (r11 = 0 → (∀ I14 : pm_I, I14 = pm_up I10 (q2) 6 (0) → K I14))))) ∧ (¬ (((I q0 0) - (I q2 3)) - ((I q0 0) - (I q2 3)) / (I q1 6) * (I q1 6)) = 0 → K I))))

set_option maxRecDepth 20000 in
theorem sX5_probeIfDue {G : pm_G} {l : Launch} (hG : pm_ok G) (q0 : Nat) (q1 : Nat) (q2 : Nat) (I : pm_I) (K : pm_I → Prop) (hk0 : pm_k G q0 (.inl 5)) (hk1 : pm_k G q1 (.inl 1)) (hk2 : pm_k G q2 (.inl 4)) (h : wX5_probeIfDue G q0 q1 q2 I K) : pm_Ct G l yX5_probeIfDue cX5_probeIfDue 3 none { frames := 5, cells := 0, slots := 0, locals := 407 } [.ref (q0), .ref (q1), .ref (q2)] I (pm_Kv K) := by
  unfold wX5_probeIfDue at h
  refine pm_enter (by decide +kernel) hG rfl (Nat.le_of_ble_eq_true rfl) rfl (fun X hl hC hE => ?_)
  subst hl
  have hab : 0 ≤ 0 ∧ 0 ≤ 0 := ⟨Nat.le_refl 0, Nat.le_refl 0⟩
  have hC : pm_C G X cX5_probeIfDue 3 RX5 none { frames := 5, cells := 0, slots := 0, locals := 407 } := hC
  refine r_aload_n 0 hC dX5_probeIfDue_0 rfl rfl ?_
  refine r_getIN1 1 (x := I (q1) 6) hC hk1 6 (by decide) tw_216 rfl rfl dX5_probeIfDue_1 ?_
  refine r_iconst 4 (v := 1) hC dX5_probeIfDue_4 (by decide) ?_
  refine r_icmp_lt 5 25 hC dX5_probeIfDue_5 (by decide) (fun hc => ?_) (fun hc => ?_)
  · replace h := h.1 hc
    exact r_vret 25 hC hE dX5_probeIfDue_25 ⟨rfl, h⟩
  · replace h := h.2 hc
    refine r_aload_n 8 hC dX5_probeIfDue_8 rfl rfl ?_
    refine r_getI5 9 (x := I (q0) 0) hC hk0 0 (by decide) tw_327 rfl rfl dX5_probeIfDue_9 ?_
    refine r_aload_n 12 hC dX5_probeIfDue_12 rfl rfl ?_
    refine r_getIN4 13 (x := I (q2) 3) hC hk2 3 (by decide) tw_265 rfl rfl dX5_probeIfDue_13 ?_
    refine r_isub 16 hC dX5_probeIfDue_16 ?_
    refine r_aload_n 17 hC dX5_probeIfDue_17 rfl rfl ?_
    refine r_getIN1 18 (x := I (q1) 6) hC hk1 6 (by decide) tw_216 rfl rfl dX5_probeIfDue_18 ?_
    refine r_irem 21 hC dX5_probeIfDue_21 h.1 ?_
    replace h := h.2
    refine r_if_eq 22 26 hC dX5_probeIfDue_22 (by decide) (fun hc => ?_) (fun hc => ?_)
    · replace h := h.1 hc
      refine r_aload_n 26 hC dX5_probeIfDue_26 rfl rfl ?_
      refine r_aload_n 27 hC dX5_probeIfDue_27 rfl rfl ?_
      refine r_getIN4 28 (x := I (q2) 1) hC hk2 1 (by decide) tw_260 rfl rfl dX5_probeIfDue_28 ?_
      refine r_aload_n 31 hC dX5_probeIfDue_31 rfl rfl ?_
      refine r_getIN4 32 (x := I (q2) 2) hC hk2 2 (by decide) tw_263 rfl rfl dX5_probeIfDue_32 ?_
      refine r_callV_i 35 (n := 2) [.int (I (q2) 1), .int (I (q2) 2)] [] hC hk0 rfl dX5_probeIfDue_35 (by decide) (by decide) tw_759 tw_132 ⟨by decide, by decide, by decide +kernel⟩ tw_815 tw_758 tw_37 rfl rfl (sX5_linkIsUp (l := pm_l X) hG (q0) (I (q2) 1) (I (q2) 2) _ _ hk0 h) hab (Nat.le_of_ble_eq_true rfl) ?_
      clear h; intro r11 I10 h
      refine r_if_ne 38 47 hC dX5_probeIfDue_38 (by decide) (fun hc => ?_) (fun hc => ?_)
      · replace h := h.1 hc
        refine r_aload_n 47 hC dX5_probeIfDue_47 rfl rfl ?_
        refine r_dup 48 hC dX5_probeIfDue_48 rfl ?_
        refine r_getIN4 49 (x := I10 (q2) 6) hC hk2 6 (by decide) tw_274 rfl rfl dX5_probeIfDue_49 ?_
        refine r_iconst 52 (v := 1) hC dX5_probeIfDue_52 (by decide) ?_
        refine r_iadd 53 hC dX5_probeIfDue_53 ?_
        refine r_putIN4 54 hC hk2 6 (by decide) tw_274 rfl rfl (by decide +kernel) ps_4_6 dX5_probeIfDue_54 (fun I12 hI => ?_)
        replace h := h I12 hI; clear hI
        refine r_aload_n 57 hC dX5_probeIfDue_57 rfl rfl ?_
        refine r_getIN4 58 (x := I12 (q2) 6) hC hk2 6 (by decide) tw_274 rfl rfl dX5_probeIfDue_58 ?_
        refine r_aload_n 61 hC dX5_probeIfDue_61 rfl rfl ?_
        refine r_getIN1 62 (x := I12 (q1) 7) hC hk1 7 (by decide) tw_219 rfl rfl dX5_probeIfDue_62 ?_
        refine r_icmp_lt 65 74 hC dX5_probeIfDue_65 (by decide) (fun hc => ?_) (fun hc => ?_)
        · replace h := h.1 hc
          exact r_vret 74 hC hE dX5_probeIfDue_74 ⟨rfl, h⟩
        · replace h := h.2 hc
          refine r_aload_n 68 hC dX5_probeIfDue_68 rfl rfl ?_
          refine r_aload_n 69 hC dX5_probeIfDue_69 rfl rfl ?_
          refine r_aload_n 70 hC dX5_probeIfDue_70 rfl rfl ?_
          refine r_callV_v 71 (n := 2) [.ref (q1), .ref (q2)] [] hC hk0 rfl dX5_probeIfDue_71 (by decide) (by decide) tw_993 tw_132 ⟨by decide, by decide, by decide +kernel⟩ tw_990 tw_992 tw_58 rfl rfl (sX5_upgrade (l := pm_l X) hG (q0) (q1) (q2) _ _ hk0 hk1 hk2 h) hab (Nat.le_of_ble_eq_true rfl) ?_
          clear h; intro I13 h
          exact r_vret 74 hC hE dX5_probeIfDue_74 ⟨rfl, h⟩
      · replace h := h.2 hc
        refine r_aload_n 41 hC dX5_probeIfDue_41 rfl rfl ?_
        refine r_iconst 42 (v := 0) hC dX5_probeIfDue_42 (by decide) ?_
        refine r_putIN4 43 hC hk2 6 (by decide) tw_274 rfl rfl (by decide +kernel) ps_4_6 dX5_probeIfDue_43 (fun I14 hI => ?_)
        replace h := h I14 hI; clear hI
        exact r_vret 46 hC hE dX5_probeIfDue_46 ⟨rfl, h⟩
    · replace h := h.2 hc
      exact r_vret 25 hC hE dX5_probeIfDue_25 ⟨rfl, h⟩

def wX5_seekRelay (G : pm_G) (q0 : Nat) (q1 : Nat) (q2 : Nat) (I : pm_I) (K : pm_I → Prop) : Prop :=
  wX5_chooseRelay G (q0) (q1) (I (q2) 1) (I (q2) 2) I (fun r11 I10 => (r11 = (-1) → K I10) ∧ (¬ r11 = (-1) → (wX4_changePath G (q2) (r11) I10 (fun I12 => wX1_delayAlong G (q1) (q2) I12 (fun r14 I13 => wX4_startWaiting G (q2) ((I12 q0 0) + r14) I13 (fun I15 => K I15))))))

set_option maxRecDepth 20000 in
theorem sX5_seekRelay {G : pm_G} {l : Launch} (hG : pm_ok G) (q0 : Nat) (q1 : Nat) (q2 : Nat) (I : pm_I) (K : pm_I → Prop) (hk0 : pm_k G q0 (.inl 5)) (hk1 : pm_k G q1 (.inl 1)) (hk2 : pm_k G q2 (.inl 4)) (h : wX5_seekRelay G q0 q1 q2 I K) : pm_Ct G l yX5_seekRelay cX5_seekRelay 4 none { frames := 5, cells := 0, slots := 0, locals := 421 } [.ref (q0), .ref (q1), .ref (q2)] I (pm_Kv K) := by
  unfold wX5_seekRelay at h
  refine pm_enter (by decide +kernel) hG rfl (Nat.le_of_ble_eq_true rfl) rfl (fun X hl hC hE => ?_)
  subst hl
  have hab : 0 ≤ 0 ∧ 0 ≤ 0 := ⟨Nat.le_refl 0, Nat.le_refl 0⟩
  have hC : pm_C G X cX5_seekRelay 4 RX5 none { frames := 5, cells := 0, slots := 0, locals := 421 } := hC
  refine r_aload_n 0 hC dX5_seekRelay_0 rfl rfl ?_
  refine r_aload_n 1 hC dX5_seekRelay_1 rfl rfl ?_
  refine r_aload_n 2 hC dX5_seekRelay_2 rfl rfl ?_
  refine r_getIN4 3 (x := I (q2) 1) hC hk2 1 (by decide) tw_260 rfl rfl dX5_seekRelay_3 ?_
  refine r_aload_n 6 hC dX5_seekRelay_6 rfl rfl ?_
  refine r_getIN4 7 (x := I (q2) 2) hC hk2 2 (by decide) tw_263 rfl rfl dX5_seekRelay_7 ?_
  refine r_callV_i 10 (n := 3) [.ref (q1), .int (I (q2) 1), .int (I (q2) 2)] [] hC hk0 rfl dX5_seekRelay_10 (by decide) (by decide) tw_809 tw_132 ⟨by decide, by decide, by decide +kernel⟩ tw_1015 tw_808 tw_42 rfl rfl (sX5_chooseRelay (l := pm_l X) hG (q0) (q1) (I (q2) 1) (I (q2) 2) _ _ hk0 hk1 h) hab (Nat.le_of_ble_eq_true rfl) ?_
  clear h; intro r11 I10 h
  refine r_istore_n 13 [some (.ref (q0)), some (.ref (q1)), some (.ref (q2)), some (.int (r11))] hC dX5_seekRelay_13 rfl (by decide) rfl ?_
  refine r_iload_n 14 hC dX5_seekRelay_14 rfl rfl ?_
  refine r_iconst 15 (v := -1) hC dX5_seekRelay_15 (by decide) ?_
  refine r_icmp_eq 16 38 hC dX5_seekRelay_16 (by decide) (fun hc => ?_) (fun hc => ?_)
  · replace h := h.1 hc
    exact r_vret 38 hC hE dX5_seekRelay_38 ⟨rfl, h⟩
  · replace h := h.2 hc
    refine r_aload_n 19 hC dX5_seekRelay_19 rfl rfl ?_
    refine r_iload_n 20 hC dX5_seekRelay_20 rfl rfl ?_
    refine r_callVN_v 21 (n := 1) [.int (r11)] [] hC hk2 rfl dX5_seekRelay_21 (by decide) (by decide) tw_997 tw_133 ⟨by decide, by decide, by decide +kernel⟩ tw_994 tw_996 tw_59 rfl rfl (sX4_changePath (l := pm_l X) hG (q2) (r11) _ _ hk2 h) hab (Nat.le_of_ble_eq_true rfl) ?_
    clear h; intro I12 h
    refine r_aload_n 24 hC dX5_seekRelay_24 rfl rfl ?_
    refine r_aload_n 25 hC dX5_seekRelay_25 rfl rfl ?_
    refine r_getI5 26 (x := I12 (q0) 0) hC hk0 0 (by decide) tw_327 rfl rfl dX5_seekRelay_26 ?_
    refine r_aload_n 29 hC dX5_seekRelay_29 rfl rfl ?_
    refine r_aload_n 30 hC dX5_seekRelay_30 rfl rfl ?_
    refine r_callVN_i 31 (n := 1) [.ref (q2)] [.int (I12 (q0) 0), .ref (q2)] hC hk1 rfl dX5_seekRelay_31 (by decide) (by decide) tw_1005 tw_130 ⟨by decide, by decide, by decide +kernel⟩ tw_1002 tw_1004 tw_61 rfl rfl (sX1_delayAlong (l := pm_l X) hG (q1) (q2) _ _ hk1 hk2 h) hab (Nat.le_of_ble_eq_true rfl) ?_
    clear h; intro r14 I13 h
    refine r_iadd 34 hC dX5_seekRelay_34 ?_
    refine r_callVN_v 35 (n := 1) [.int ((I12 q0 0) + r14)] [] hC hk2 rfl dX5_seekRelay_35 (by decide) (by decide) tw_1010 tw_133 ⟨by decide, by decide, by decide +kernel⟩ tw_1007 tw_1009 tw_62 rfl rfl (sX4_startWaiting (l := pm_l X) hG (q2) ((I12 q0 0) + r14) _ _ hk2 h) hab (Nat.le_of_ble_eq_true rfl) ?_
    clear h; intro I15 h
    exact r_vret 38 hC hE dX5_seekRelay_38 ⟨rfl, h⟩

def wX5_passTick (G : pm_G) (q0 : Nat) (q1 : Nat) (I : pm_I) (K : Int32 → pm_I → Prop) : Prop :=
  ∀ I10 : pm_I, I10 = pm_up I (q0) 0 ((I q0 0) + 1) → (pm_lp3 (fun (P11 : Int32 → Int32 → pm_I → Prop) (x13 : Int32) (x14 : Int32) (I12 : pm_I) => (6 ≤ x14 → (pm_lp2 (fun (P15 : Int32 → pm_I → Prop) (x17 : Int32) (I16 : pm_I) => (6 ≤ x17 → (pm_lp2 (fun (P18 : Int32 → pm_I → Prop) (x20 : Int32) (I19 : pm_I) => (6 ≤ x20 → (pm_lp2 (fun (P21 : Int32 → pm_I → Prop) (x23 : Int32) (I22 : pm_I) => (6 ≤ x23 → (K (x13) I22)) ∧ (¬ 6 ≤ x23 → (vp_in (x23) 6 ∧ (((I22 (q0 + 3 + 1 + 5 * (x23).toNatClampNeg) 0) = 0 → (P21 (x23 + 1) I22)) ∧ (¬ (I22 (q0 + 3 + 1 + 5 * (x23).toNatClampNeg) 0) = 0 → (vp_in (x23) 6 ∧ (wX4_dropEmptyOldPath G (q0 + 3 + 1 + 5 * (x23).toNatClampNeg) I22 (fun I26 => P21 (x23 + 1) I26)))))))) (0) I19)) ∧ (¬ 6 ≤ x20 → (vp_in (x20) 6 ∧ (((I19 (q0 + 3 + 1 + 5 * (x20).toNatClampNeg) 0) = 0 → (P18 (x20 + 1) I19)) ∧ (¬ (I19 (q0 + 3 + 1 + 5 * (x20).toNatClampNeg) 0) = 0 → (vp_in (x20) 6 ∧ ((¬ (I19 (q0 + 3 + 1 + 5 * (x20).toNatClampNeg) 4) = (-1) → (P18 (x20 + 1) I19)) ∧ ((I19 (q0 + 3 + 1 + 5 * (x20).toNatClampNeg) 4) = (-1) → (vp_in (x20) 6 ∧ (wX5_seekRelay G (q0) (q1) (q0 + 3 + 1 + 5 * (x20).toNatClampNeg) I19 (fun I30 => P18 (x20 + 1) I30))))))))))) (0) I16)) ∧ (¬ 6 ≤ x17 → (vp_in (x17) 6 ∧ (((I16 (q0 + 3 + 1 + 5 * (x17).toNatClampNeg) 0) = 0 → (P15 (x17 + 1) I16)) ∧ (¬ (I16 (q0 + 3 + 1 + 5 * (x17).toNatClampNeg) 0) = 0 → (vp_in (x17) 6 ∧ (((I16 (q0 + 3 + 1 + 5 * (x17).toNatClampNeg) 4) = 100 → (P15 (x17 + 1) I16)) ∧ (¬ (I16 (q0 + 3 + 1 + 5 * (x17).toNatClampNeg) 4) = 100 → (vp_in (x17) 6 ∧ (wX5_probeIfDue G (q0) (q1) (q0 + 3 + 1 + 5 * (x17).toNatClampNeg) I16 (fun I34 => P15 (x17 + 1) I34))))))))))) (0) I12)) ∧ (¬ 6 ≤ x14 → (vp_in (x14) 6 ∧ (((I12 (q0 + 3 + 1 + 5 * (x14).toNatClampNeg) 0) = 0 → (P11 (x13) (x14 + 1) I12)) ∧ (¬ (I12 (q0 + 3 + 1 + 5 * (x14).toNatClampNeg) 0) = 0 → (vp_in (x14) 6 ∧ (wX4_takeArrivals G (q0 + 3 + 1 + 5 * (x14).toNatClampNeg) (I12 (q0) 0) I12 (fun r38 I37 => P11 (x13 + r38) (x14 + 1) I37)))))))) (0) (0) I10)

set_option maxRecDepth 20000 in
theorem sX5_passTick {G : pm_G} {l : Launch} (hG : pm_ok G) (q0 : Nat) (q1 : Nat) (I : pm_I) (K : Int32 → pm_I → Prop) (hk0 : pm_k G q0 (.inl 5)) (hk1 : pm_k G q1 (.inl 1)) (h : wX5_passTick G q0 q1 I K) : pm_Ct G l yX5_passTick cX5_passTick 4 (some .int) { frames := 6, cells := 0, slots := 0, locals := 508 } [.ref (q0), .ref (q1)] I (pm_Ki K) := by
  unfold wX5_passTick at h
  refine pm_enter (by decide +kernel) hG rfl (Nat.le_of_ble_eq_true rfl) rfl (fun X hl hC hE => ?_)
  subst hl
  have hab : 0 ≤ 0 ∧ 0 ≤ 0 := ⟨Nat.le_refl 0, Nat.le_refl 0⟩
  have hC : pm_C G X cX5_passTick 4 RX5 (some .int) { frames := 6, cells := 0, slots := 0, locals := 508 } := hC
  refine r_aload_n 0 hC dX5_passTick_0 rfl rfl ?_
  refine r_dup 1 hC dX5_passTick_1 rfl ?_
  refine r_getI5 2 (x := I (q0) 0) hC hk0 0 (by decide) tw_327 rfl rfl dX5_passTick_2 ?_
  refine r_iconst 5 (v := 1) hC dX5_passTick_5 (by decide) ?_
  refine r_iadd 6 hC dX5_passTick_6 ?_
  refine r_putI5 7 hC hk0 0 (by decide) tw_327 rfl rfl (by decide +kernel) ps_5_0 dX5_passTick_7 (fun I10 hI => ?_)
  replace h := h I10 hI; clear hI
  refine r_iconst 10 (v := 0) hC dX5_passTick_10 (by decide) ?_
  refine r_istore_n 11 [some (.ref (q0)), some (.ref (q1)), some (.int (0)), none] hC dX5_passTick_11 rfl (by decide) rfl ?_
  refine r_iconst 12 (v := 0) hC dX5_passTick_12 (by decide) ?_
  refine r_istore_n 13 [some (.ref (q0)), some (.ref (q1)), some (.int (0)), some (.int (0))] hC dX5_passTick_13 rfl (by decide) rfl ?_
  refine h (fun x13 x14 I12 => pm_R G X 4 0 0 14 [some (.ref (q0)), some (.ref (q1)), some (.int (x13)), some (.int (x14))] [] I12) ?_
  clear h; intro x13 x14 I12 h
  refine r_iload_n 14 hC dX5_passTick_14 rfl rfl ?_
  refine r_bipush 15 (v := 6) hC dX5_passTick_15 (by decide) ?_
  refine r_icmp_ge 17 54 hC dX5_passTick_17 (by decide) (fun hc => ?_) (fun hc => ?_)
  · replace h := h.1 hc
    refine r_iconst 54 (v := 0) hC dX5_passTick_54 (by decide) ?_
    refine r_istore_n 55 [some (.ref (q0)), some (.ref (q1)), some (.int (x13)), some (.int (0))] hC dX5_passTick_55 rfl (by decide) rfl ?_
    refine h (fun x17 I16 => pm_R G X 4 0 0 56 [some (.ref (q0)), some (.ref (q1)), some (.int (x13)), some (.int (x17))] [] I16) ?_
    clear h; intro x17 I16 h
    refine r_iload_n 56 hC dX5_passTick_56 rfl rfl ?_
    refine r_bipush 57 (v := 6) hC dX5_passTick_57 (by decide) ?_
    refine r_icmp_ge 59 105 hC dX5_passTick_59 (by decide) (fun hc => ?_) (fun hc => ?_)
    · replace h := h.1 hc
      refine r_iconst 105 (v := 0) hC dX5_passTick_105 (by decide) ?_
      refine r_istore_n 106 [some (.ref (q0)), some (.ref (q1)), some (.int (x13)), some (.int (0))] hC dX5_passTick_106 rfl (by decide) rfl ?_
      refine h (fun x20 I19 => pm_R G X 4 0 0 107 [some (.ref (q0)), some (.ref (q1)), some (.int (x13)), some (.int (x20))] [] I19) ?_
      clear h; intro x20 I19 h
      refine r_iload_n 107 hC dX5_passTick_107 rfl rfl ?_
      refine r_bipush 108 (v := 6) hC dX5_passTick_108 (by decide) ?_
      refine r_icmp_ge 110 155 hC dX5_passTick_110 (by decide) (fun hc => ?_) (fun hc => ?_)
      · replace h := h.1 hc
        refine r_iconst 155 (v := 0) hC dX5_passTick_155 (by decide) ?_
        refine r_istore_n 156 [some (.ref (q0)), some (.ref (q1)), some (.int (x13)), some (.int (0))] hC dX5_passTick_156 rfl (by decide) rfl ?_
        refine r_weak (ls' := [some (.ref (q0)), none, some (.int (x13)), some (.int (0))]) (And.intro rfl (And.intro rfl (And.intro rfl (trivial)))) ?_
        refine h (fun x23 I22 => pm_R G X 4 0 0 157 [some (.ref (q0)), none, some (.int (x13)), some (.int (x23))] [] I22) ?_
        clear h; intro x23 I22 h
        refine r_iload_n 157 hC dX5_passTick_157 rfl rfl ?_
        refine r_bipush 158 (v := 6) hC dX5_passTick_158 (by decide) ?_
        refine r_icmp_ge 160 190 hC dX5_passTick_160 (by decide) (fun hc => ?_) (fun hc => ?_)
        · replace h := h.1 hc
          refine r_iload_n 190 hC dX5_passTick_190 rfl rfl ?_
          exact r_iret 191 hC hE rfl dX5_passTick_191 ⟨_, rfl, h⟩
        · replace h := h.2 hc
          refine r_aload_n 163 hC dX5_passTick_163 rfl rfl ?_
          refine r_getR5 164 (r1 := q0 + 3) hC hk0 3 (by decide) tw_332 rfl rfl dX5_passTick_164 ?_
          refine r_iload_n 167 hC dX5_passTick_167 rfl rfl ?_
          have hg24 := h.1; replace h := h.2
          refine r_aald4 168 hC ((pm_s5 hG hk0).2.2) hg24 dX5_passTick_168 ?_
          refine r_getIN4 169 (x := I22 (q0 + 3 + 1 + 5 * (x23).toNatClampNeg) 0) hC (pm_sa4 hG ((pm_s5 hG hk0).2.2) hg24) 0 (by decide) tw_256 rfl rfl dX5_passTick_169 ?_
          refine r_if_eq 172 184 hC dX5_passTick_172 (by decide) (fun hc => ?_) (fun hc => ?_)
          · replace h := h.1 hc
            refine r_iinc 184 (v := x23 + 1) [some (.ref (q0)), none, some (.int (x13)), some (.int (x23 + 1))] hC dX5_passTick_184 rfl (by rfl) (by decide) rfl ?_
            refine r_goto 187 157 hC dX5_passTick_187 (by decide) ?_
            exact h
          · replace h := h.2 hc
            refine r_aload_n 175 hC dX5_passTick_175 rfl rfl ?_
            refine r_getR5 176 (r1 := q0 + 3) hC hk0 3 (by decide) tw_332 rfl rfl dX5_passTick_176 ?_
            refine r_iload_n 179 hC dX5_passTick_179 rfl rfl ?_
            have hg25 := h.1; replace h := h.2
            refine r_aald4 180 hC ((pm_s5 hG hk0).2.2) hg25 dX5_passTick_180 ?_
            refine r_callVN_v 181 (n := 0) [] [] hC (pm_sa4 hG ((pm_s5 hG hk0).2.2) hg25) rfl dX5_passTick_181 (by decide) (by decide) tw_1019 tw_133 ⟨by decide, by decide, by decide +kernel⟩ tw_1016 tw_1018 tw_64 rfl rfl (sX4_dropEmptyOldPath (l := pm_l X) hG (q0 + 3 + 1 + 5 * (x23).toNatClampNeg) _ _ (pm_sa4 hG ((pm_s5 hG hk0).2.2) hg25) h) hab (Nat.le_of_ble_eq_true rfl) ?_
            clear h; intro I26 h
            refine r_iinc 184 (v := x23 + 1) [some (.ref (q0)), none, some (.int (x13)), some (.int (x23 + 1))] hC dX5_passTick_184 rfl (by rfl) (by decide) rfl ?_
            refine r_goto 187 157 hC dX5_passTick_187 (by decide) ?_
            exact h
      · replace h := h.2 hc
        refine r_aload_n 113 hC dX5_passTick_113 rfl rfl ?_
        refine r_getR5 114 (r1 := q0 + 3) hC hk0 3 (by decide) tw_332 rfl rfl dX5_passTick_114 ?_
        refine r_iload_n 117 hC dX5_passTick_117 rfl rfl ?_
        have hg27 := h.1; replace h := h.2
        refine r_aald4 118 hC ((pm_s5 hG hk0).2.2) hg27 dX5_passTick_118 ?_
        refine r_getIN4 119 (x := I19 (q0 + 3 + 1 + 5 * (x20).toNatClampNeg) 0) hC (pm_sa4 hG ((pm_s5 hG hk0).2.2) hg27) 0 (by decide) tw_256 rfl rfl dX5_passTick_119 ?_
        refine r_if_eq 122 149 hC dX5_passTick_122 (by decide) (fun hc => ?_) (fun hc => ?_)
        · replace h := h.1 hc
          refine r_iinc 149 (v := x20 + 1) [some (.ref (q0)), some (.ref (q1)), some (.int (x13)), some (.int (x20 + 1))] hC dX5_passTick_149 rfl (by rfl) (by decide) rfl ?_
          refine r_goto 152 107 hC dX5_passTick_152 (by decide) ?_
          exact h
        · replace h := h.2 hc
          refine r_aload_n 125 hC dX5_passTick_125 rfl rfl ?_
          refine r_getR5 126 (r1 := q0 + 3) hC hk0 3 (by decide) tw_332 rfl rfl dX5_passTick_126 ?_
          refine r_iload_n 129 hC dX5_passTick_129 rfl rfl ?_
          have hg28 := h.1; replace h := h.2
          refine r_aald4 130 hC ((pm_s5 hG hk0).2.2) hg28 dX5_passTick_130 ?_
          refine r_getIN4 131 (x := I19 (q0 + 3 + 1 + 5 * (x20).toNatClampNeg) 4) hC (pm_sa4 hG ((pm_s5 hG hk0).2.2) hg28) 4 (by decide) tw_268 rfl rfl dX5_passTick_131 ?_
          refine r_iconst 134 (v := -1) hC dX5_passTick_134 (by decide) ?_
          refine r_icmp_ne 135 149 hC dX5_passTick_135 (by decide) (fun hc => ?_) (fun hc => ?_)
          · replace h := h.1 hc
            refine r_iinc 149 (v := x20 + 1) [some (.ref (q0)), some (.ref (q1)), some (.int (x13)), some (.int (x20 + 1))] hC dX5_passTick_149 rfl (by rfl) (by decide) rfl ?_
            refine r_goto 152 107 hC dX5_passTick_152 (by decide) ?_
            exact h
          · replace h := h.2 hc
            refine r_aload_n 138 hC dX5_passTick_138 rfl rfl ?_
            refine r_aload_n 139 hC dX5_passTick_139 rfl rfl ?_
            refine r_aload_n 140 hC dX5_passTick_140 rfl rfl ?_
            refine r_getR5 141 (r1 := q0 + 3) hC hk0 3 (by decide) tw_332 rfl rfl dX5_passTick_141 ?_
            refine r_iload_n 144 hC dX5_passTick_144 rfl rfl ?_
            have hg29 := h.1; replace h := h.2
            refine r_aald4 145 hC ((pm_s5 hG hk0).2.2) hg29 dX5_passTick_145 ?_
            refine r_callV_v 146 (n := 2) [.ref (q1), .ref (q0 + 3 + 1 + 5 * (x20).toNatClampNeg)] [] hC hk0 rfl dX5_passTick_146 (by decide) (by decide) tw_1014 tw_132 ⟨by decide, by decide, by decide +kernel⟩ tw_1011 tw_1013 tw_63 rfl rfl (sX5_seekRelay (l := pm_l X) hG (q0) (q1) (q0 + 3 + 1 + 5 * (x20).toNatClampNeg) _ _ hk0 hk1 (pm_sa4 hG ((pm_s5 hG hk0).2.2) hg29) h) hab (Nat.le_of_ble_eq_true rfl) ?_
            clear h; intro I30 h
            refine r_iinc 149 (v := x20 + 1) [some (.ref (q0)), some (.ref (q1)), some (.int (x13)), some (.int (x20 + 1))] hC dX5_passTick_149 rfl (by rfl) (by decide) rfl ?_
            refine r_goto 152 107 hC dX5_passTick_152 (by decide) ?_
            exact h
    · replace h := h.2 hc
      refine r_aload_n 62 hC dX5_passTick_62 rfl rfl ?_
      refine r_getR5 63 (r1 := q0 + 3) hC hk0 3 (by decide) tw_332 rfl rfl dX5_passTick_63 ?_
      refine r_iload_n 66 hC dX5_passTick_66 rfl rfl ?_
      have hg31 := h.1; replace h := h.2
      refine r_aald4 67 hC ((pm_s5 hG hk0).2.2) hg31 dX5_passTick_67 ?_
      refine r_getIN4 68 (x := I16 (q0 + 3 + 1 + 5 * (x17).toNatClampNeg) 0) hC (pm_sa4 hG ((pm_s5 hG hk0).2.2) hg31) 0 (by decide) tw_256 rfl rfl dX5_passTick_68 ?_
      refine r_if_eq 71 99 hC dX5_passTick_71 (by decide) (fun hc => ?_) (fun hc => ?_)
      · replace h := h.1 hc
        refine r_iinc 99 (v := x17 + 1) [some (.ref (q0)), some (.ref (q1)), some (.int (x13)), some (.int (x17 + 1))] hC dX5_passTick_99 rfl (by rfl) (by decide) rfl ?_
        refine r_goto 102 56 hC dX5_passTick_102 (by decide) ?_
        exact h
      · replace h := h.2 hc
        refine r_aload_n 74 hC dX5_passTick_74 rfl rfl ?_
        refine r_getR5 75 (r1 := q0 + 3) hC hk0 3 (by decide) tw_332 rfl rfl dX5_passTick_75 ?_
        refine r_iload_n 78 hC dX5_passTick_78 rfl rfl ?_
        have hg32 := h.1; replace h := h.2
        refine r_aald4 79 hC ((pm_s5 hG hk0).2.2) hg32 dX5_passTick_79 ?_
        refine r_getIN4 80 (x := I16 (q0 + 3 + 1 + 5 * (x17).toNatClampNeg) 4) hC (pm_sa4 hG ((pm_s5 hG hk0).2.2) hg32) 4 (by decide) tw_268 rfl rfl dX5_passTick_80 ?_
        refine r_bipush 83 (v := 100) hC dX5_passTick_83 (by decide) ?_
        refine r_icmp_eq 85 99 hC dX5_passTick_85 (by decide) (fun hc => ?_) (fun hc => ?_)
        · replace h := h.1 hc
          refine r_iinc 99 (v := x17 + 1) [some (.ref (q0)), some (.ref (q1)), some (.int (x13)), some (.int (x17 + 1))] hC dX5_passTick_99 rfl (by rfl) (by decide) rfl ?_
          refine r_goto 102 56 hC dX5_passTick_102 (by decide) ?_
          exact h
        · replace h := h.2 hc
          refine r_aload_n 88 hC dX5_passTick_88 rfl rfl ?_
          refine r_aload_n 89 hC dX5_passTick_89 rfl rfl ?_
          refine r_aload_n 90 hC dX5_passTick_90 rfl rfl ?_
          refine r_getR5 91 (r1 := q0 + 3) hC hk0 3 (by decide) tw_332 rfl rfl dX5_passTick_91 ?_
          refine r_iload_n 94 hC dX5_passTick_94 rfl rfl ?_
          have hg33 := h.1; replace h := h.2
          refine r_aald4 95 hC ((pm_s5 hG hk0).2.2) hg33 dX5_passTick_95 ?_
          refine r_callV_v 96 (n := 2) [.ref (q1), .ref (q0 + 3 + 1 + 5 * (x17).toNatClampNeg)] [] hC hk0 rfl dX5_passTick_96 (by decide) (by decide) tw_989 tw_132 ⟨by decide, by decide, by decide +kernel⟩ tw_986 tw_988 tw_57 rfl rfl (sX5_probeIfDue (l := pm_l X) hG (q0) (q1) (q0 + 3 + 1 + 5 * (x17).toNatClampNeg) _ _ hk0 hk1 (pm_sa4 hG ((pm_s5 hG hk0).2.2) hg33) h) hab (Nat.le_of_ble_eq_true rfl) ?_
          clear h; intro I34 h
          refine r_iinc 99 (v := x17 + 1) [some (.ref (q0)), some (.ref (q1)), some (.int (x13)), some (.int (x17 + 1))] hC dX5_passTick_99 rfl (by rfl) (by decide) rfl ?_
          refine r_goto 102 56 hC dX5_passTick_102 (by decide) ?_
          exact h
  · replace h := h.2 hc
    refine r_aload_n 20 hC dX5_passTick_20 rfl rfl ?_
    refine r_getR5 21 (r1 := q0 + 3) hC hk0 3 (by decide) tw_332 rfl rfl dX5_passTick_21 ?_
    refine r_iload_n 24 hC dX5_passTick_24 rfl rfl ?_
    have hg35 := h.1; replace h := h.2
    refine r_aald4 25 hC ((pm_s5 hG hk0).2.2) hg35 dX5_passTick_25 ?_
    refine r_getIN4 26 (x := I12 (q0 + 3 + 1 + 5 * (x14).toNatClampNeg) 0) hC (pm_sa4 hG ((pm_s5 hG hk0).2.2) hg35) 0 (by decide) tw_256 rfl rfl dX5_passTick_26 ?_
    refine r_if_eq 29 48 hC dX5_passTick_29 (by decide) (fun hc => ?_) (fun hc => ?_)
    · replace h := h.1 hc
      refine r_iinc 48 (v := x14 + 1) [some (.ref (q0)), some (.ref (q1)), some (.int (x13)), some (.int (x14 + 1))] hC dX5_passTick_48 rfl (by rfl) (by decide) rfl ?_
      refine r_goto 51 14 hC dX5_passTick_51 (by decide) ?_
      exact h
    · replace h := h.2 hc
      refine r_iload_n 32 hC dX5_passTick_32 rfl rfl ?_
      refine r_aload_n 33 hC dX5_passTick_33 rfl rfl ?_
      refine r_getR5 34 (r1 := q0 + 3) hC hk0 3 (by decide) tw_332 rfl rfl dX5_passTick_34 ?_
      refine r_iload_n 37 hC dX5_passTick_37 rfl rfl ?_
      have hg36 := h.1; replace h := h.2
      refine r_aald4 38 hC ((pm_s5 hG hk0).2.2) hg36 dX5_passTick_38 ?_
      refine r_aload_n 39 hC dX5_passTick_39 rfl rfl ?_
      refine r_getI5 40 (x := I12 (q0) 0) hC hk0 0 (by decide) tw_327 rfl rfl dX5_passTick_40 ?_
      refine r_callVN_i 43 (n := 1) [.int (I12 (q0) 0)] [.int (x13)] hC (pm_sa4 hG ((pm_s5 hG hk0).2.2) hg36) rfl dX5_passTick_43 (by decide) (by decide) tw_985 tw_133 ⟨by decide, by decide, by decide +kernel⟩ tw_982 tw_984 tw_56 rfl rfl (sX4_takeArrivals (l := pm_l X) hG (q0 + 3 + 1 + 5 * (x14).toNatClampNeg) (I12 (q0) 0) _ _ (pm_sa4 hG ((pm_s5 hG hk0).2.2) hg36) h) hab (Nat.le_of_ble_eq_true rfl) ?_
      clear h; intro r38 I37 h
      refine r_iadd 46 hC dX5_passTick_46 ?_
      refine r_istore_n 47 [some (.ref (q0)), some (.ref (q1)), some (.int (x13 + r38)), some (.int (x14))] hC dX5_passTick_47 rfl (by decide) rfl ?_
      refine r_iinc 48 (v := x14 + 1) [some (.ref (q0)), some (.ref (q1)), some (.int (x13 + r38)), some (.int (x14 + 1))] hC dX5_passTick_48 rfl (by rfl) (by decide) rfl ?_
      refine r_goto 51 14 hC dX5_passTick_51 (by decide) ?_
      exact h

def wX5_leavePaths (G : pm_G) (q0 : Nat) (q1 : Nat) (q2 : Nat) (x3 : Int32) (x4 : Int32) (I : pm_I) (K : pm_I → Prop) : Prop :=
  wX4_routeUses G (q2) (I (q2) 5) (x3) (x4) I (fun r11 I10 => (r11 = 0 → (wX4_routeUses G (q2) (I10 (q2) 4) (x3) (x4) I10 (fun r13 I12 => (r13 = 0 → K I12) ∧ (¬ r13 = 0 → (∀ I14 : pm_I, I14 = pm_up I12 (q2) 6 (0) → (wX5_chooseRelay G (q0) (q1) (I14 (q2) 1) (I14 (q2) 2) I14 (fun r16 I15 => wX4_changePath G (q2) (r16) I15 (fun I17 => K I17)))))))) ∧ (¬ r11 = 0 → (∀ I18 : pm_I, I18 = pm_up I10 (q2) 5 (-1) → (wX4_routeUses G (q2) (I18 (q2) 4) (x3) (x4) I18 (fun r20 I19 => (r20 = 0 → K I19) ∧ (¬ r20 = 0 → (∀ I21 : pm_I, I21 = pm_up I19 (q2) 6 (0) → (wX5_chooseRelay G (q0) (q1) (I21 (q2) 1) (I21 (q2) 2) I21 (fun r23 I22 => wX4_changePath G (q2) (r23) I22 (fun I24 => K I24))))))))))

set_option maxRecDepth 20000 in
theorem sX5_leavePaths {G : pm_G} {l : Launch} (hG : pm_ok G) (q0 : Nat) (q1 : Nat) (q2 : Nat) (x3 : Int32) (x4 : Int32) (I : pm_I) (K : pm_I → Prop) (hk0 : pm_k G q0 (.inl 5)) (hk1 : pm_k G q1 (.inl 1)) (hk2 : pm_k G q2 (.inl 4)) (h : wX5_leavePaths G q0 q1 q2 x3 x4 I K) : pm_Ct G l yX5_leavePaths cX5_leavePaths 5 none { frames := 5, cells := 0, slots := 0, locals := 421 } [.ref (q0), .ref (q1), .ref (q2), .int (x3), .int (x4)] I (pm_Kv K) := by
  unfold wX5_leavePaths at h
  refine pm_enter (by decide +kernel) hG rfl (Nat.le_of_ble_eq_true rfl) rfl (fun X hl hC hE => ?_)
  subst hl
  have hab : 0 ≤ 0 ∧ 0 ≤ 0 := ⟨Nat.le_refl 0, Nat.le_refl 0⟩
  have hC : pm_C G X cX5_leavePaths 5 RX5 none { frames := 5, cells := 0, slots := 0, locals := 421 } := hC
  refine r_aload_n 0 hC dX5_leavePaths_0 rfl rfl ?_
  refine r_aload_n 1 hC dX5_leavePaths_1 rfl rfl ?_
  refine r_getIN4 2 (x := I (q2) 5) hC hk2 5 (by decide) tw_272 rfl rfl dX5_leavePaths_2 ?_
  refine r_iload_n 5 hC dX5_leavePaths_5 rfl rfl ?_
  refine r_iload 6 hC dX5_leavePaths_6 rfl ?_
  refine r_callVN_i 8 (n := 3) [.int (I (q2) 5), .int (x3), .int (x4)] [] hC hk2 rfl dX5_leavePaths_8 (by decide) (by decide) tw_1117 tw_133 ⟨by decide, by decide, by decide +kernel⟩ tw_1114 tw_1116 tw_73 rfl rfl (sX4_routeUses (l := pm_l X) hG (q2) (I (q2) 5) (x3) (x4) _ _ hk2 h) hab (Nat.le_of_ble_eq_true rfl) ?_
  clear h; intro r11 I10 h
  refine r_if_eq 11 19 hC dX5_leavePaths_11 (by decide) (fun hc => ?_) (fun hc => ?_)
  · replace h := h.1 hc
    refine r_aload_n 19 hC dX5_leavePaths_19 rfl rfl ?_
    refine r_aload_n 20 hC dX5_leavePaths_20 rfl rfl ?_
    refine r_getIN4 21 (x := I10 (q2) 4) hC hk2 4 (by decide) tw_268 rfl rfl dX5_leavePaths_21 ?_
    refine r_iload_n 24 hC dX5_leavePaths_24 rfl rfl ?_
    refine r_iload 25 hC dX5_leavePaths_25 rfl ?_
    refine r_callVN_i 27 (n := 3) [.int (I10 (q2) 4), .int (x3), .int (x4)] [] hC hk2 rfl dX5_leavePaths_27 (by decide) (by decide) tw_1117 tw_133 ⟨by decide, by decide, by decide +kernel⟩ tw_1114 tw_1116 tw_73 rfl rfl (sX4_routeUses (l := pm_l X) hG (q2) (I10 (q2) 4) (x3) (x4) _ _ hk2 h) hab (Nat.le_of_ble_eq_true rfl) ?_
    clear h; intro r13 I12 h
    refine r_if_eq 30 55 hC dX5_leavePaths_30 (by decide) (fun hc => ?_) (fun hc => ?_)
    · replace h := h.1 hc
      exact r_vret 55 hC hE dX5_leavePaths_55 ⟨rfl, h⟩
    · replace h := h.2 hc
      refine r_aload_n 33 hC dX5_leavePaths_33 rfl rfl ?_
      refine r_iconst 34 (v := 0) hC dX5_leavePaths_34 (by decide) ?_
      refine r_putIN4 35 hC hk2 6 (by decide) tw_274 rfl rfl (by decide +kernel) ps_4_6 dX5_leavePaths_35 (fun I14 hI => ?_)
      replace h := h I14 hI; clear hI
      refine r_aload_n 38 hC dX5_leavePaths_38 rfl rfl ?_
      refine r_aload_n 39 hC dX5_leavePaths_39 rfl rfl ?_
      refine r_aload_n 40 hC dX5_leavePaths_40 rfl rfl ?_
      refine r_aload_n 41 hC dX5_leavePaths_41 rfl rfl ?_
      refine r_getIN4 42 (x := I14 (q2) 1) hC hk2 1 (by decide) tw_260 rfl rfl dX5_leavePaths_42 ?_
      refine r_aload_n 45 hC dX5_leavePaths_45 rfl rfl ?_
      refine r_getIN4 46 (x := I14 (q2) 2) hC hk2 2 (by decide) tw_263 rfl rfl dX5_leavePaths_46 ?_
      refine r_callV_i 49 (n := 3) [.ref (q1), .int (I14 (q2) 1), .int (I14 (q2) 2)] [.ref (q2)] hC hk0 rfl dX5_leavePaths_49 (by decide) (by decide) tw_809 tw_132 ⟨by decide, by decide, by decide +kernel⟩ tw_1015 tw_808 tw_42 rfl rfl (sX5_chooseRelay (l := pm_l X) hG (q0) (q1) (I14 (q2) 1) (I14 (q2) 2) _ _ hk0 hk1 h) hab (Nat.le_of_ble_eq_true rfl) ?_
      clear h; intro r16 I15 h
      refine r_callVN_v 52 (n := 1) [.int (r16)] [] hC hk2 rfl dX5_leavePaths_52 (by decide) (by decide) tw_997 tw_133 ⟨by decide, by decide, by decide +kernel⟩ tw_994 tw_996 tw_59 rfl rfl (sX4_changePath (l := pm_l X) hG (q2) (r16) _ _ hk2 h) hab (Nat.le_of_ble_eq_true rfl) ?_
      clear h; intro I17 h
      exact r_vret 55 hC hE dX5_leavePaths_55 ⟨rfl, h⟩
  · replace h := h.2 hc
    refine r_aload_n 14 hC dX5_leavePaths_14 rfl rfl ?_
    refine r_iconst 15 (v := -1) hC dX5_leavePaths_15 (by decide) ?_
    refine r_putIN4 16 hC hk2 5 (by decide) tw_272 rfl rfl (by decide +kernel) ps_4_5 dX5_leavePaths_16 (fun I18 hI => ?_)
    replace h := h I18 hI; clear hI
    refine r_aload_n 19 hC dX5_leavePaths_19 rfl rfl ?_
    refine r_aload_n 20 hC dX5_leavePaths_20 rfl rfl ?_
    refine r_getIN4 21 (x := I18 (q2) 4) hC hk2 4 (by decide) tw_268 rfl rfl dX5_leavePaths_21 ?_
    refine r_iload_n 24 hC dX5_leavePaths_24 rfl rfl ?_
    refine r_iload 25 hC dX5_leavePaths_25 rfl ?_
    refine r_callVN_i 27 (n := 3) [.int (I18 (q2) 4), .int (x3), .int (x4)] [] hC hk2 rfl dX5_leavePaths_27 (by decide) (by decide) tw_1117 tw_133 ⟨by decide, by decide, by decide +kernel⟩ tw_1114 tw_1116 tw_73 rfl rfl (sX4_routeUses (l := pm_l X) hG (q2) (I18 (q2) 4) (x3) (x4) _ _ hk2 h) hab (Nat.le_of_ble_eq_true rfl) ?_
    clear h; intro r20 I19 h
    refine r_if_eq 30 55 hC dX5_leavePaths_30 (by decide) (fun hc => ?_) (fun hc => ?_)
    · replace h := h.1 hc
      exact r_vret 55 hC hE dX5_leavePaths_55 ⟨rfl, h⟩
    · replace h := h.2 hc
      refine r_aload_n 33 hC dX5_leavePaths_33 rfl rfl ?_
      refine r_iconst 34 (v := 0) hC dX5_leavePaths_34 (by decide) ?_
      refine r_putIN4 35 hC hk2 6 (by decide) tw_274 rfl rfl (by decide +kernel) ps_4_6 dX5_leavePaths_35 (fun I21 hI => ?_)
      replace h := h I21 hI; clear hI
      refine r_aload_n 38 hC dX5_leavePaths_38 rfl rfl ?_
      refine r_aload_n 39 hC dX5_leavePaths_39 rfl rfl ?_
      refine r_aload_n 40 hC dX5_leavePaths_40 rfl rfl ?_
      refine r_aload_n 41 hC dX5_leavePaths_41 rfl rfl ?_
      refine r_getIN4 42 (x := I21 (q2) 1) hC hk2 1 (by decide) tw_260 rfl rfl dX5_leavePaths_42 ?_
      refine r_aload_n 45 hC dX5_leavePaths_45 rfl rfl ?_
      refine r_getIN4 46 (x := I21 (q2) 2) hC hk2 2 (by decide) tw_263 rfl rfl dX5_leavePaths_46 ?_
      refine r_callV_i 49 (n := 3) [.ref (q1), .int (I21 (q2) 1), .int (I21 (q2) 2)] [.ref (q2)] hC hk0 rfl dX5_leavePaths_49 (by decide) (by decide) tw_809 tw_132 ⟨by decide, by decide, by decide +kernel⟩ tw_1015 tw_808 tw_42 rfl rfl (sX5_chooseRelay (l := pm_l X) hG (q0) (q1) (I21 (q2) 1) (I21 (q2) 2) _ _ hk0 hk1 h) hab (Nat.le_of_ble_eq_true rfl) ?_
      clear h; intro r23 I22 h
      refine r_callVN_v 52 (n := 1) [.int (r23)] [] hC hk2 rfl dX5_leavePaths_52 (by decide) (by decide) tw_997 tw_133 ⟨by decide, by decide, by decide +kernel⟩ tw_994 tw_996 tw_59 rfl rfl (sX4_changePath (l := pm_l X) hG (q2) (r23) _ _ hk2 h) hab (Nat.le_of_ble_eq_true rfl) ?_
      clear h; intro I24 h
      exact r_vret 55 hC hE dX5_leavePaths_55 ⟨rfl, h⟩

def wX5_leaveLink (G : pm_G) (q0 : Nat) (q1 : Nat) (x2 : Int32) (x3 : Int32) (I : pm_I) (K : Int32 → pm_I → Prop) : Prop :=
  pm_lp3 (fun (P10 : Int32 → Int32 → pm_I → Prop) (x12 : Int32) (x13 : Int32) (I11 : pm_I) => (6 ≤ x13 → (K (x12) I11)) ∧ (¬ 6 ≤ x13 → (vp_in (x13) 6 ∧ (((I11 (q0 + 3 + 1 + 5 * (x13).toNatClampNeg) 0) = 0 → (P10 (x12) (x13 + 1) I11)) ∧ (¬ (I11 (q0 + 3 + 1 + 5 * (x13).toNatClampNeg) 0) = 0 → (wX5_leavePaths G (q0) (q1) (q0 + 3 + 1 + 5 * (x13).toNatClampNeg) (x2) (x3) I11 (fun I15 => wX1_delayAlong G (q1) (q0 + 3 + 1 + 5 * (x13).toNatClampNeg) I15 (fun r17 I16 => wX4_moveMessages G (q0 + 3 + 1 + 5 * (x13).toNatClampNeg) (x2) (x3) ((I15 q0 0) + r17) I16 (fun r19 I18 => P10 (x12 + r19) (x13 + 1) I18))))))))) (0) (0) I

set_option maxRecDepth 20000 in
theorem sX5_leaveLink {G : pm_G} {l : Launch} (hG : pm_ok G) (q0 : Nat) (q1 : Nat) (x2 : Int32) (x3 : Int32) (I : pm_I) (K : Int32 → pm_I → Prop) (hk0 : pm_k G q0 (.inl 5)) (hk1 : pm_k G q1 (.inl 1)) (h : wX5_leaveLink G q0 q1 x2 x3 I K) : pm_Ct G l yX5_leaveLink cX5_leaveLink 7 (some .int) { frames := 6, cells := 0, slots := 0, locals := 509 } [.ref (q0), .ref (q1), .int (x2), .int (x3)] I (pm_Ki K) := by
  unfold wX5_leaveLink at h
  refine pm_enter (by decide +kernel) hG rfl (Nat.le_of_ble_eq_true rfl) rfl (fun X hl hC hE => ?_)
  subst hl
  have hab : 0 ≤ 0 ∧ 0 ≤ 0 := ⟨Nat.le_refl 0, Nat.le_refl 0⟩
  have hC : pm_C G X cX5_leaveLink 7 RX5 (some .int) { frames := 6, cells := 0, slots := 0, locals := 509 } := hC
  refine r_iconst 0 (v := 0) hC dX5_leaveLink_0 (by decide) ?_
  refine r_istore 1 [some (.ref (q0)), some (.ref (q1)), some (.int (x2)), some (.int (x3)), some (.int (0)), none, none] hC dX5_leaveLink_1 (by decide) rfl ?_
  refine r_iconst 3 (v := 0) hC dX5_leaveLink_3 (by decide) ?_
  refine r_istore 4 [some (.ref (q0)), some (.ref (q1)), some (.int (x2)), some (.int (x3)), some (.int (0)), some (.int (0)), none] hC dX5_leaveLink_4 (by decide) rfl ?_
  refine h (fun x12 x13 I11 => pm_R G X 7 0 0 6 [some (.ref (q0)), some (.ref (q1)), some (.int (x2)), some (.int (x3)), some (.int (x12)), some (.int (x13)), none] [] I11) ?_
  clear h; intro x12 x13 I11 h
  refine r_iload 6 hC dX5_leaveLink_6 rfl ?_
  refine r_bipush 8 (v := 6) hC dX5_leaveLink_8 (by decide) ?_
  refine r_icmp_ge 10 68 hC dX5_leaveLink_10 (by decide) (fun hc => ?_) (fun hc => ?_)
  · replace h := h.1 hc
    refine r_iload 68 hC dX5_leaveLink_68 rfl ?_
    exact r_iret 70 hC hE rfl dX5_leaveLink_70 ⟨_, rfl, h⟩
  · replace h := h.2 hc
    refine r_aload_n 13 hC dX5_leaveLink_13 rfl rfl ?_
    refine r_getR5 14 (r1 := q0 + 3) hC hk0 3 (by decide) tw_332 rfl rfl dX5_leaveLink_14 ?_
    refine r_iload 17 hC dX5_leaveLink_17 rfl ?_
    have hg14 := h.1; replace h := h.2
    refine r_aald4 19 hC ((pm_s5 hG hk0).2.2) hg14 dX5_leaveLink_19 ?_
    refine r_astore 20 [some (.ref (q0)), some (.ref (q1)), some (.int (x2)), some (.int (x3)), some (.int (x12)), some (.int (x13)), some (.ref (q0 + 3 + 1 + 5 * (x13).toNatClampNeg))] hC dX5_leaveLink_20 (by decide) rfl ?_
    refine r_aload 22 hC dX5_leaveLink_22 rfl ?_
    refine r_getIN4 24 (x := I11 (q0 + 3 + 1 + 5 * (x13).toNatClampNeg) 0) hC (pm_sa4 hG ((pm_s5 hG hk0).2.2) hg14) 0 (by decide) tw_256 rfl rfl dX5_leaveLink_24 ?_
    refine r_if_eq 27 62 hC dX5_leaveLink_27 (by decide) (fun hc => ?_) (fun hc => ?_)
    · replace h := h.1 hc
      refine r_iinc 62 (v := x13 + 1) [some (.ref (q0)), some (.ref (q1)), some (.int (x2)), some (.int (x3)), some (.int (x12)), some (.int (x13 + 1)), some (.ref (q0 + 3 + 1 + 5 * (x13).toNatClampNeg))] hC dX5_leaveLink_62 rfl (by rfl) (by decide) rfl ?_
      refine r_goto 65 6 hC dX5_leaveLink_65 (by decide) ?_
      refine r_weak (ls' := [some (.ref (q0)), some (.ref (q1)), some (.int (x2)), some (.int (x3)), some (.int (x12)), some (.int (x13 + 1)), none]) (And.intro rfl (And.intro rfl (And.intro rfl (And.intro rfl (And.intro rfl (And.intro rfl (trivial))))))) ?_
      exact h
    · replace h := h.2 hc
      refine r_aload_n 30 hC dX5_leaveLink_30 rfl rfl ?_
      refine r_aload_n 31 hC dX5_leaveLink_31 rfl rfl ?_
      refine r_aload 32 hC dX5_leaveLink_32 rfl ?_
      refine r_iload_n 34 hC dX5_leaveLink_34 rfl rfl ?_
      refine r_iload_n 35 hC dX5_leaveLink_35 rfl rfl ?_
      refine r_callV_v 36 (n := 4) [.ref (q1), .ref (q0 + 3 + 1 + 5 * (x13).toNatClampNeg), .int (x2), .int (x3)] [] hC hk0 rfl dX5_leaveLink_36 (by decide) (by decide) tw_1113 tw_132 ⟨by decide, by decide, by decide +kernel⟩ tw_1110 tw_1112 tw_72 rfl rfl (sX5_leavePaths (l := pm_l X) hG (q0) (q1) (q0 + 3 + 1 + 5 * (x13).toNatClampNeg) (x2) (x3) _ _ hk0 hk1 (pm_sa4 hG ((pm_s5 hG hk0).2.2) hg14) h) hab (Nat.le_of_ble_eq_true rfl) ?_
      clear h; intro I15 h
      refine r_iload 39 hC dX5_leaveLink_39 rfl ?_
      refine r_aload 41 hC dX5_leaveLink_41 rfl ?_
      refine r_iload_n 43 hC dX5_leaveLink_43 rfl rfl ?_
      refine r_iload_n 44 hC dX5_leaveLink_44 rfl rfl ?_
      refine r_aload_n 45 hC dX5_leaveLink_45 rfl rfl ?_
      refine r_getI5 46 (x := I15 (q0) 0) hC hk0 0 (by decide) tw_327 rfl rfl dX5_leaveLink_46 ?_
      refine r_aload_n 49 hC dX5_leaveLink_49 rfl rfl ?_
      refine r_aload 50 hC dX5_leaveLink_50 rfl ?_
      refine r_callVN_i 52 (n := 1) [.ref (q0 + 3 + 1 + 5 * (x13).toNatClampNeg)] [.int (I15 (q0) 0), .int (x3), .int (x2), .ref (q0 + 3 + 1 + 5 * (x13).toNatClampNeg), .int (x12)] hC hk1 rfl dX5_leaveLink_52 (by decide) (by decide) tw_1005 tw_130 ⟨by decide, by decide, by decide +kernel⟩ tw_1002 tw_1004 tw_61 rfl rfl (sX1_delayAlong (l := pm_l X) hG (q1) (q0 + 3 + 1 + 5 * (x13).toNatClampNeg) _ _ hk1 (pm_sa4 hG ((pm_s5 hG hk0).2.2) hg14) h) hab (Nat.le_of_ble_eq_true rfl) ?_
      clear h; intro r17 I16 h
      refine r_iadd 55 hC dX5_leaveLink_55 ?_
      refine r_callVN_i 56 (n := 3) [.int (x2), .int (x3), .int ((I15 q0 0) + r17)] [.int (x12)] hC (pm_sa4 hG ((pm_s5 hG hk0).2.2) hg14) rfl dX5_leaveLink_56 (by decide) (by decide) tw_1124 tw_133 ⟨by decide, by decide, by decide +kernel⟩ tw_1121 tw_1123 tw_74 rfl rfl (sX4_moveMessages (l := pm_l X) hG (q0 + 3 + 1 + 5 * (x13).toNatClampNeg) (x2) (x3) ((I15 q0 0) + r17) _ _ (pm_sa4 hG ((pm_s5 hG hk0).2.2) hg14) h) hab (Nat.le_of_ble_eq_true rfl) ?_
      clear h; intro r19 I18 h
      refine r_iadd 59 hC dX5_leaveLink_59 ?_
      refine r_istore 60 [some (.ref (q0)), some (.ref (q1)), some (.int (x2)), some (.int (x3)), some (.int (x12 + r19)), some (.int (x13)), some (.ref (q0 + 3 + 1 + 5 * (x13).toNatClampNeg))] hC dX5_leaveLink_60 (by decide) rfl ?_
      refine r_iinc 62 (v := x13 + 1) [some (.ref (q0)), some (.ref (q1)), some (.int (x2)), some (.int (x3)), some (.int (x12 + r19)), some (.int (x13 + 1)), some (.ref (q0 + 3 + 1 + 5 * (x13).toNatClampNeg))] hC dX5_leaveLink_62 rfl (by rfl) (by decide) rfl ?_
      refine r_goto 65 6 hC dX5_leaveLink_65 (by decide) ?_
      refine r_weak (ls' := [some (.ref (q0)), some (.ref (q1)), some (.int (x2)), some (.int (x3)), some (.int (x12 + r19)), some (.int (x13 + 1)), none]) (And.intro rfl (And.intro rfl (And.intro rfl (And.intro rfl (And.intro rfl (And.intro rfl (trivial))))))) ?_
      exact h
