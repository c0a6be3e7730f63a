def wX7_isWord (G : pm_G) (q0 : Nat) (s1 : Nat) (I : pm_I) (K : Int32 → pm_I → Prop) : Prop :=
  (¬ (I q0 14) = 1 → (pm_lp3 (fun (P10 : Int32 → Int32 → pm_I → Prop) (x12 : Int32) (x13 : Int32) (I11 : pm_I) => ((Int32.ofNat (pm_slen.getD s1 0)) ≤ x13 → (((x12) = 0 ∨ (x12) = 1) ∧ K (x12) I11)) ∧ (¬ (Int32.ofNat (pm_slen.getD s1 0)) ≤ x13 → ((x12 = 0 → (((x12) = 0 ∨ (x12) = 1) ∧ K (x12) I11)) ∧ (¬ x12 = 0 → (vp_in ((I11 q0 12) + x13) 600 ∧ (vp_in (x13) (pm_slen.getD s1 0) ∧ ((¬ (I11 (q0 + 9) ((I11 q0 12) + x13).toNatClampNeg) = ((pm_sbyt.getD s1 []).getD (x13).toNatClampNeg 0) → (P10 (0) (x13 + 1) I11)) ∧ ((I11 (q0 + 9) ((I11 q0 12) + x13).toNatClampNeg) = ((pm_sbyt.getD s1 []).getD (x13).toNatClampNeg 0) → (P10 (1) (x13 + 1) I11))))))))) (0) (0) I)) ∧ ((I q0 14) = 1 → ((¬ ((I q0 13) - (I q0 12)) = (Int32.ofNat (pm_slen.getD s1 0)) → (pm_lp3 (fun (P15 : Int32 → Int32 → pm_I → Prop) (x17 : Int32) (x18 : Int32) (I16 : pm_I) => ((Int32.ofNat (pm_slen.getD s1 0)) ≤ x18 → (((x17) = 0 ∨ (x17) = 1) ∧ K (x17) I16)) ∧ (¬ (Int32.ofNat (pm_slen.getD s1 0)) ≤ x18 → ((x17 = 0 → (((x17) = 0 ∨ (x17) = 1) ∧ K (x17) I16)) ∧ (¬ x17 = 0 → (vp_in ((I16 q0 12) + x18) 600 ∧ (vp_in (x18) (pm_slen.getD s1 0) ∧ ((¬ (I16 (q0 + 9) ((I16 q0 12) + x18).toNatClampNeg) = ((pm_sbyt.getD s1 []).getD (x18).toNatClampNeg 0) → (P15 (0) (x18 + 1) I16)) ∧ ((I16 (q0 + 9) ((I16 q0 12) + x18).toNatClampNeg) = ((pm_sbyt.getD s1 []).getD (x18).toNatClampNeg 0) → (P15 (1) (x18 + 1) I16))))))))) (0) (0) I)) ∧ (((I q0 13) - (I q0 12)) = (Int32.ofNat (pm_slen.getD s1 0)) → (pm_lp3 (fun (P20 : Int32 → Int32 → pm_I → Prop) (x22 : Int32) (x23 : Int32) (I21 : pm_I) => ((Int32.ofNat (pm_slen.getD s1 0)) ≤ x23 → (((x22) = 0 ∨ (x22) = 1) ∧ K (x22) I21)) ∧ (¬ (Int32.ofNat (pm_slen.getD s1 0)) ≤ x23 → ((x22 = 0 → (((x22) = 0 ∨ (x22) = 1) ∧ K (x22) I21)) ∧ (¬ x22 = 0 → (vp_in ((I21 q0 12) + x23) 600 ∧ (vp_in (x23) (pm_slen.getD s1 0) ∧ ((¬ (I21 (q0 + 9) ((I21 q0 12) + x23).toNatClampNeg) = ((pm_sbyt.getD s1 []).getD (x23).toNatClampNeg 0) → (P20 (0) (x23 + 1) I21)) ∧ ((I21 (q0 + 9) ((I21 q0 12) + x23).toNatClampNeg) = ((pm_sbyt.getD s1 []).getD (x23).toNatClampNeg 0) → (P20 (1) (x23 + 1) I21))))))))) (1) (0) I))))

set_option maxRecDepth 20000 in
theorem sX7_isWord {G : pm_G} {l : Launch} (hG : pm_ok G) (hS : pm_str G) (q0 : Nat) (s1 : Nat) (I : pm_I) (K : Int32 → pm_I → Prop) (hk0 : pm_k G q0 (.inl 7)) (hs1 : s1 < 11) (h : wX7_isWord G q0 s1 I K) : pm_Ct G l yX7_isWord cX7_isWord 4 (some .boolean) { frames := 5, cells := 0, slots := 0, locals := 435 } [.ref (q0), .ref (1000000 + s1)] I (pm_Ki K) := by
  unfold wX7_isWord at h
  refine pm_enter (by decide +kernel) hG rfl (Nat.le_of_ble_eq_true rfl) rfl (fun X hl hC hE => ?_)
  subst hl
  have hab : 0 ≤ 0 ∧ 0 ≤ 0 := ⟨Nat.le_refl 0, Nat.le_refl 0⟩
  have hC : pm_C G X cX7_isWord 4 RX7 (some .boolean) { frames := 5, cells := 0, slots := 0, locals := 435 } := hC
  refine r_aload_n 0 hC dX7_isWord_0 rfl rfl ?_
  refine r_getI7 1 (x := I (q0) 14) hC hk0 14 (by decide) tw_1193 rfl rfl dX7_isWord_1 ?_
  refine r_iconst 4 (v := 1) hC dX7_isWord_4 (by decide) ?_
  refine r_icmp_ne 5 28 hC dX7_isWord_5 (by decide) (fun hc => ?_) (fun hc => ?_)
  · replace h := h.1 hc
    refine r_iconst 28 (v := 0) hC dX7_isWord_28 (by decide) ?_
    refine r_istore_n 29 [some (.ref (q0)), some (.ref (1000000 + s1)), some (.int (0)), none] hC dX7_isWord_29 rfl (by decide) rfl ?_
    refine r_iconst 30 (v := 0) hC dX7_isWord_30 (by decide) ?_
    refine r_istore_n 31 [some (.ref (q0)), some (.ref (1000000 + s1)), some (.int (0)), some (.int (0))] hC dX7_isWord_31 rfl (by decide) rfl ?_
    refine h (fun x12 x13 I11 => pm_R G X 4 0 0 32 [some (.ref (q0)), some (.ref (1000000 + s1)), some (.int (x12)), some (.int (x13))] [] I11) ?_
    clear h; intro x12 x13 I11 h
    refine r_iload_n 32 hC dX7_isWord_32 rfl rfl ?_
    refine r_aload_n 33 hC dX7_isWord_33 rfl rfl ?_
    refine r_callStr 34 (n := 0) [] [.int (x13)] hS hs1 hC dX7_isWord_34 (by decide) (by decide) tw_584 tw_141 ⟨by decide, by decide, by decide +kernel⟩ tw_1313 tw_582 tw_583 rfl rfl (sJ0_length_8abf5 hG hS s1 hs1 I11) hab (Nat.le_of_ble_eq_true rfl) ?_
    rintro _ _ ⟨rfl, rfl⟩
    refine r_icmp_ge 37 75 hC dX7_isWord_37 (by decide) (fun hc => ?_) (fun hc => ?_)
    · replace h := h.1 hc
      refine r_iload_n 75 hC dX7_isWord_75 rfl rfl ?_
      exact r_iret 76 hC hE (pm_nz h.1).1 dX7_isWord_76 ⟨_, rfl, h.2⟩
    · replace h := h.2 hc
      refine r_iload_n 40 hC dX7_isWord_40 rfl rfl ?_
      refine r_if_eq 41 75 hC dX7_isWord_41 (by decide) (fun hc => ?_) (fun hc => ?_)
      · replace h := h.1 hc
        refine r_iload_n 75 hC dX7_isWord_75 rfl rfl ?_
        exact r_iret 76 hC hE (pm_nz h.1).1 dX7_isWord_76 ⟨_, rfl, h.2⟩
      · replace h := h.2 hc
        refine r_aload_n 44 hC dX7_isWord_44 rfl rfl ?_
        refine r_getR7 45 (r1 := q0 + 9) hC hk0 9 (by decide) tw_1188 rfl rfl dX7_isWord_45 ?_
        refine r_aload_n 48 hC dX7_isWord_48 rfl rfl ?_
        refine r_getI7 49 (x := I11 (q0) 12) hC hk0 12 (by decide) tw_1191 rfl rfl dX7_isWord_49 ?_
        refine r_iload_n 52 hC dX7_isWord_52 rfl rfl ?_
        refine r_iadd 53 hC dX7_isWord_53 ?_
        refine r_bald 54 hC ((pm_s7 hG hk0).2.2.2.2.2.2.2.2.1) h.1 dX7_isWord_54 ?_
        replace h := h.2
        refine r_aload_n 55 hC dX7_isWord_55 rfl rfl ?_
        refine r_iload_n 56 hC dX7_isWord_56 rfl rfl ?_
        have hg14 := h.1; replace h := h.2
        refine r_callStr 57 (n := 1) [.int (x13)] [.int (I11 (q0 + 9) ((I11 q0 12) + x13).toNatClampNeg)] hS hs1 hC dX7_isWord_57 (by decide) (by decide) tw_594 tw_141 ⟨by decide, by decide, by decide +kernel⟩ tw_1314 tw_592 tw_593 rfl rfl (sJ0_charAt_5068e hG hS s1 hs1 (x13) hg14 I11) hab (Nat.le_of_ble_eq_true rfl) ?_
        rintro _ _ ⟨rfl, rfl⟩
        refine r_icmp_ne 60 67 hC dX7_isWord_60 (by decide) (fun hc => ?_) (fun hc => ?_)
        · replace h := h.1 hc
          refine r_iconst 67 (v := 0) hC dX7_isWord_67 (by decide) ?_
          refine r_istore_n 68 [some (.ref (q0)), some (.ref (1000000 + s1)), some (.int (0)), some (.int (x13))] hC dX7_isWord_68 rfl (by decide) rfl ?_
          refine r_iinc 69 (v := x13 + 1) [some (.ref (q0)), some (.ref (1000000 + s1)), some (.int (0)), some (.int (x13 + 1))] hC dX7_isWord_69 rfl (by rfl) (by decide) rfl ?_
          refine r_goto 72 32 hC dX7_isWord_72 (by decide) ?_
          exact h
        · replace h := h.2 hc
          refine r_iconst 63 (v := 1) hC dX7_isWord_63 (by decide) ?_
          refine r_goto 64 68 hC dX7_isWord_64 (by decide) ?_
          refine r_istore_n 68 [some (.ref (q0)), some (.ref (1000000 + s1)), some (.int (1)), some (.int (x13))] hC dX7_isWord_68 rfl (by decide) rfl ?_
          refine r_iinc 69 (v := x13 + 1) [some (.ref (q0)), some (.ref (1000000 + s1)), some (.int (1)), some (.int (x13 + 1))] hC dX7_isWord_69 rfl (by rfl) (by decide) rfl ?_
          refine r_goto 72 32 hC dX7_isWord_72 (by decide) ?_
          exact h
  · replace h := h.2 hc
    refine r_aload_n 8 hC dX7_isWord_8 rfl rfl ?_
    refine r_getI7 9 (x := I (q0) 13) hC hk0 13 (by decide) tw_1192 rfl rfl dX7_isWord_9 ?_
    refine r_aload_n 12 hC dX7_isWord_12 rfl rfl ?_
    refine r_getI7 13 (x := I (q0) 12) hC hk0 12 (by decide) tw_1191 rfl rfl dX7_isWord_13 ?_
    refine r_isub 16 hC dX7_isWord_16 ?_
    refine r_aload_n 17 hC dX7_isWord_17 rfl rfl ?_
    refine r_callStr 18 (n := 0) [] [.int ((I q0 13) - (I q0 12))] hS hs1 hC dX7_isWord_18 (by decide) (by decide) tw_584 tw_141 ⟨by decide, by decide, by decide +kernel⟩ tw_1313 tw_582 tw_583 rfl rfl (sJ0_length_8abf5 hG hS s1 hs1 I) hab (Nat.le_of_ble_eq_true rfl) ?_
    rintro _ _ ⟨rfl, rfl⟩
    refine r_icmp_ne 21 28 hC dX7_isWord_21 (by decide) (fun hc => ?_) (fun hc => ?_)
    · replace h := h.1 hc
      refine r_iconst 28 (v := 0) hC dX7_isWord_28 (by decide) ?_
      refine r_istore_n 29 [some (.ref (q0)), some (.ref (1000000 + s1)), some (.int (0)), none] hC dX7_isWord_29 rfl (by decide) rfl ?_
      refine r_iconst 30 (v := 0) hC dX7_isWord_30 (by decide) ?_
      refine r_istore_n 31 [some (.ref (q0)), some (.ref (1000000 + s1)), some (.int (0)), some (.int (0))] hC dX7_isWord_31 rfl (by decide) rfl ?_
      refine h (fun x17 x18 I16 => pm_R G X 4 0 0 32 [some (.ref (q0)), some (.ref (1000000 + s1)), some (.int (x17)), some (.int (x18))] [] I16) ?_
      clear h; intro x17 x18 I16 h
      refine r_iload_n 32 hC dX7_isWord_32 rfl rfl ?_
      refine r_aload_n 33 hC dX7_isWord_33 rfl rfl ?_
      refine r_callStr 34 (n := 0) [] [.int (x18)] hS hs1 hC dX7_isWord_34 (by decide) (by decide) tw_584 tw_141 ⟨by decide, by decide, by decide +kernel⟩ tw_1313 tw_582 tw_583 rfl rfl (sJ0_length_8abf5 hG hS s1 hs1 I16) hab (Nat.le_of_ble_eq_true rfl) ?_
      rintro _ _ ⟨rfl, rfl⟩
      refine r_icmp_ge 37 75 hC dX7_isWord_37 (by decide) (fun hc => ?_) (fun hc => ?_)
      · replace h := h.1 hc
        refine r_iload_n 75 hC dX7_isWord_75 rfl rfl ?_
        exact r_iret 76 hC hE (pm_nz h.1).1 dX7_isWord_76 ⟨_, rfl, h.2⟩
      · replace h := h.2 hc
        refine r_iload_n 40 hC dX7_isWord_40 rfl rfl ?_
        refine r_if_eq 41 75 hC dX7_isWord_41 (by decide) (fun hc => ?_) (fun hc => ?_)
        · replace h := h.1 hc
          refine r_iload_n 75 hC dX7_isWord_75 rfl rfl ?_
          exact r_iret 76 hC hE (pm_nz h.1).1 dX7_isWord_76 ⟨_, rfl, h.2⟩
        · replace h := h.2 hc
          refine r_aload_n 44 hC dX7_isWord_44 rfl rfl ?_
          refine r_getR7 45 (r1 := q0 + 9) hC hk0 9 (by decide) tw_1188 rfl rfl dX7_isWord_45 ?_
          refine r_aload_n 48 hC dX7_isWord_48 rfl rfl ?_
          refine r_getI7 49 (x := I16 (q0) 12) hC hk0 12 (by decide) tw_1191 rfl rfl dX7_isWord_49 ?_
          refine r_iload_n 52 hC dX7_isWord_52 rfl rfl ?_
          refine r_iadd 53 hC dX7_isWord_53 ?_
          refine r_bald 54 hC ((pm_s7 hG hk0).2.2.2.2.2.2.2.2.1) h.1 dX7_isWord_54 ?_
          replace h := h.2
          refine r_aload_n 55 hC dX7_isWord_55 rfl rfl ?_
          refine r_iload_n 56 hC dX7_isWord_56 rfl rfl ?_
          have hg19 := h.1; replace h := h.2
          refine r_callStr 57 (n := 1) [.int (x18)] [.int (I16 (q0 + 9) ((I16 q0 12) + x18).toNatClampNeg)] hS hs1 hC dX7_isWord_57 (by decide) (by decide) tw_594 tw_141 ⟨by decide, by decide, by decide +kernel⟩ tw_1314 tw_592 tw_593 rfl rfl (sJ0_charAt_5068e hG hS s1 hs1 (x18) hg19 I16) hab (Nat.le_of_ble_eq_true rfl) ?_
          rintro _ _ ⟨rfl, rfl⟩
          refine r_icmp_ne 60 67 hC dX7_isWord_60 (by decide) (fun hc => ?_) (fun hc => ?_)
          · replace h := h.1 hc
            refine r_iconst 67 (v := 0) hC dX7_isWord_67 (by decide) ?_
            refine r_istore_n 68 [some (.ref (q0)), some (.ref (1000000 + s1)), some (.int (0)), some (.int (x18))] hC dX7_isWord_68 rfl (by decide) rfl ?_
            refine r_iinc 69 (v := x18 + 1) [some (.ref (q0)), some (.ref (1000000 + s1)), some (.int (0)), some (.int (x18 + 1))] hC dX7_isWord_69 rfl (by rfl) (by decide) rfl ?_
            refine r_goto 72 32 hC dX7_isWord_72 (by decide) ?_
            exact h
          · replace h := h.2 hc
            refine r_iconst 63 (v := 1) hC dX7_isWord_63 (by decide) ?_
            refine r_goto 64 68 hC dX7_isWord_64 (by decide) ?_
            refine r_istore_n 68 [some (.ref (q0)), some (.ref (1000000 + s1)), some (.int (1)), some (.int (x18))] hC dX7_isWord_68 rfl (by decide) rfl ?_
            refine r_iinc 69 (v := x18 + 1) [some (.ref (q0)), some (.ref (1000000 + s1)), some (.int (1)), some (.int (x18 + 1))] hC dX7_isWord_69 rfl (by rfl) (by decide) rfl ?_
            refine r_goto 72 32 hC dX7_isWord_72 (by decide) ?_
            exact h
    · replace h := h.2 hc
      refine r_iconst 24 (v := 1) hC dX7_isWord_24 (by decide) ?_
      refine r_goto 25 29 hC dX7_isWord_25 (by decide) ?_
      refine r_istore_n 29 [some (.ref (q0)), some (.ref (1000000 + s1)), some (.int (1)), none] hC dX7_isWord_29 rfl (by decide) rfl ?_
      refine r_iconst 30 (v := 0) hC dX7_isWord_30 (by decide) ?_
      refine r_istore_n 31 [some (.ref (q0)), some (.ref (1000000 + s1)), some (.int (1)), some (.int (0))] hC dX7_isWord_31 rfl (by decide) rfl ?_
      refine h (fun x22 x23 I21 => pm_R G X 4 0 0 32 [some (.ref (q0)), some (.ref (1000000 + s1)), some (.int (x22)), some (.int (x23))] [] I21) ?_
      clear h; intro x22 x23 I21 h
      refine r_iload_n 32 hC dX7_isWord_32 rfl rfl ?_
      refine r_aload_n 33 hC dX7_isWord_33 rfl rfl ?_
      refine r_callStr 34 (n := 0) [] [.int (x23)] hS hs1 hC dX7_isWord_34 (by decide) (by decide) tw_584 tw_141 ⟨by decide, by decide, by decide +kernel⟩ tw_1313 tw_582 tw_583 rfl rfl (sJ0_length_8abf5 hG hS s1 hs1 I21) hab (Nat.le_of_ble_eq_true rfl) ?_
      rintro _ _ ⟨rfl, rfl⟩
      refine r_icmp_ge 37 75 hC dX7_isWord_37 (by decide) (fun hc => ?_) (fun hc => ?_)
      · replace h := h.1 hc
        refine r_iload_n 75 hC dX7_isWord_75 rfl rfl ?_
        exact r_iret 76 hC hE (pm_nz h.1).1 dX7_isWord_76 ⟨_, rfl, h.2⟩
      · replace h := h.2 hc
        refine r_iload_n 40 hC dX7_isWord_40 rfl rfl ?_
        refine r_if_eq 41 75 hC dX7_isWord_41 (by decide) (fun hc => ?_) (fun hc => ?_)
        · replace h := h.1 hc
          refine r_iload_n 75 hC dX7_isWord_75 rfl rfl ?_
          exact r_iret 76 hC hE (pm_nz h.1).1 dX7_isWord_76 ⟨_, rfl, h.2⟩
        · replace h := h.2 hc
          refine r_aload_n 44 hC dX7_isWord_44 rfl rfl ?_
          refine r_getR7 45 (r1 := q0 + 9) hC hk0 9 (by decide) tw_1188 rfl rfl dX7_isWord_45 ?_
          refine r_aload_n 48 hC dX7_isWord_48 rfl rfl ?_
          refine r_getI7 49 (x := I21 (q0) 12) hC hk0 12 (by decide) tw_1191 rfl rfl dX7_isWord_49 ?_
          refine r_iload_n 52 hC dX7_isWord_52 rfl rfl ?_
          refine r_iadd 53 hC dX7_isWord_53 ?_
          refine r_bald 54 hC ((pm_s7 hG hk0).2.2.2.2.2.2.2.2.1) h.1 dX7_isWord_54 ?_
          replace h := h.2
          refine r_aload_n 55 hC dX7_isWord_55 rfl rfl ?_
          refine r_iload_n 56 hC dX7_isWord_56 rfl rfl ?_
          have hg24 := h.1; replace h := h.2
          refine r_callStr 57 (n := 1) [.int (x23)] [.int (I21 (q0 + 9) ((I21 q0 12) + x23).toNatClampNeg)] hS hs1 hC dX7_isWord_57 (by decide) (by decide) tw_594 tw_141 ⟨by decide, by decide, by decide +kernel⟩ tw_1314 tw_592 tw_593 rfl rfl (sJ0_charAt_5068e hG hS s1 hs1 (x23) hg24 I21) hab (Nat.le_of_ble_eq_true rfl) ?_
          rintro _ _ ⟨rfl, rfl⟩
          refine r_icmp_ne 60 67 hC dX7_isWord_60 (by decide) (fun hc => ?_) (fun hc => ?_)
          · replace h := h.1 hc
            refine r_iconst 67 (v := 0) hC dX7_isWord_67 (by decide) ?_
            refine r_istore_n 68 [some (.ref (q0)), some (.ref (1000000 + s1)), some (.int (0)), some (.int (x23))] hC dX7_isWord_68 rfl (by decide) rfl ?_
            refine r_iinc 69 (v := x23 + 1) [some (.ref (q0)), some (.ref (1000000 + s1)), some (.int (0)), some (.int (x23 + 1))] hC dX7_isWord_69 rfl (by rfl) (by decide) rfl ?_
            refine r_goto 72 32 hC dX7_isWord_72 (by decide) ?_
            exact h
          · replace h := h.2 hc
            refine r_iconst 63 (v := 1) hC dX7_isWord_63 (by decide) ?_
            refine r_goto 64 68 hC dX7_isWord_64 (by decide) ?_
            refine r_istore_n 68 [some (.ref (q0)), some (.ref (1000000 + s1)), some (.int (1)), some (.int (x23))] hC dX7_isWord_68 rfl (by decide) rfl ?_
            refine r_iinc 69 (v := x23 + 1) [some (.ref (q0)), some (.ref (1000000 + s1)), some (.int (1)), some (.int (x23 + 1))] hC dX7_isWord_69 rfl (by rfl) (by decide) rfl ?_
            refine r_goto 72 32 hC dX7_isWord_72 (by decide) ?_
            exact h

def wX7_nameHere (G : pm_G) (q0 : Nat) (I : pm_I) (K : Int32 → pm_I → Prop) : Prop :=
  wX7_isWord G (q0) 6 I (fun r11 I10 => (r11 = 0 → (wX7_isWord G (q0) 7 I10 (fun r13 I12 => (r13 = 0 → (wX7_isWord G (q0) 8 I12 (fun r15 I14 => (r15 = 0 → (wX7_isWord G (q0) 9 I14 (fun r17 I16 => (r17 = 0 → (wX7_isWord G (q0) 10 I16 (fun r19 I18 => (r19 = 0 → (K (0) I18)) ∧ (¬ r19 = 0 → (K (5) I18))))) ∧ (¬ r17 = 0 → (K (4) I16))))) ∧ (¬ r15 = 0 → (K (3) I14))))) ∧ (¬ r13 = 0 → (K (2) I12))))) ∧ (¬ r11 = 0 → (K (1) I10)))

set_option maxRecDepth 20000 in
theorem sX7_nameHere {G : pm_G} {l : Launch} (hG : pm_ok G) (hS : pm_str G) (q0 : Nat) (I : pm_I) (K : Int32 → pm_I → Prop) (hk0 : pm_k G q0 (.inl 7)) (h : wX7_nameHere G q0 I K) : pm_Ct G l yX7_nameHere cX7_nameHere 1 (some .int) { frames := 6, cells := 0, slots := 0, locals := 522 } [.ref (q0)] I (pm_Ki K) := by
  unfold wX7_nameHere at h
  refine pm_enter (by decide +kernel) hG rfl (Nat.le_of_ble_eq_true rfl) rfl (fun X hl hC hE => ?_)
  subst hl
  have hab : 0 ≤ 0 ∧ 0 ≤ 0 := ⟨Nat.le_refl 0, Nat.le_refl 0⟩
  have hC : pm_C G X cX7_nameHere 1 RX7 (some .int) { frames := 6, cells := 0, slots := 0, locals := 522 } := hC
  refine r_aload_n 0 hC dX7_nameHere_0 rfl rfl ?_
  refine r_ldcS 1 (i := 6) (tx := "first") hS hC (by decide) dX7_nameHere_1 ?_
  refine r_callV_i 3 (n := 1) [.ref (1000000 + 6)] [] hC hk0 rfl dX7_nameHere_3 (by decide) (by decide) tw_1312 tw_135 ⟨by decide, by decide, by decide +kernel⟩ tw_1309 tw_1311 tw_85 rfl rfl (sX7_isWord (l := pm_l X) hG hS (q0) 6 _ _ hk0 (by decide) h) hab (Nat.le_of_ble_eq_true rfl) ?_
  clear h; intro r11 I10 h
  refine r_if_eq 6 11 hC dX7_nameHere_6 (by decide) (fun hc => ?_) (fun hc => ?_)
  · replace h := h.1 hc
    refine r_aload_n 11 hC dX7_nameHere_11 rfl rfl ?_
    refine r_ldcS 12 (i := 7) (tx := "second") hS hC (by decide) dX7_nameHere_12 ?_
    refine r_callV_i 14 (n := 1) [.ref (1000000 + 7)] [] hC hk0 rfl dX7_nameHere_14 (by decide) (by decide) tw_1312 tw_135 ⟨by decide, by decide, by decide +kernel⟩ tw_1309 tw_1311 tw_85 rfl rfl (sX7_isWord (l := pm_l X) hG hS (q0) 7 _ _ hk0 (by decide) h) hab (Nat.le_of_ble_eq_true rfl) ?_
    clear h; intro r13 I12 h
    refine r_if_eq 17 22 hC dX7_nameHere_17 (by decide) (fun hc => ?_) (fun hc => ?_)
    · replace h := h.1 hc
      refine r_aload_n 22 hC dX7_nameHere_22 rfl rfl ?_
      refine r_ldcS 23 (i := 8) (tx := "load") hS hC (by decide) dX7_nameHere_23 ?_
      refine r_callV_i 25 (n := 1) [.ref (1000000 + 8)] [] hC hk0 rfl dX7_nameHere_25 (by decide) (by decide) tw_1312 tw_135 ⟨by decide, by decide, by decide +kernel⟩ tw_1309 tw_1311 tw_85 rfl rfl (sX7_isWord (l := pm_l X) hG hS (q0) 8 _ _ hk0 (by decide) h) hab (Nat.le_of_ble_eq_true rfl) ?_
      clear h; intro r15 I14 h
      refine r_if_eq 28 35 hC dX7_nameHere_28 (by decide) (fun hc => ?_) (fun hc => ?_)
      · replace h := h.1 hc
        refine r_aload_n 35 hC dX7_nameHere_35 rfl rfl ?_
        refine r_ldcS 36 (i := 9) (tx := "capacity") hS hC (by decide) dX7_nameHere_36 ?_
        refine r_callV_i 38 (n := 1) [.ref (1000000 + 9)] [] hC hk0 rfl dX7_nameHere_38 (by decide) (by decide) tw_1312 tw_135 ⟨by decide, by decide, by decide +kernel⟩ tw_1309 tw_1311 tw_85 rfl rfl (sX7_isWord (l := pm_l X) hG hS (q0) 9 _ _ hk0 (by decide) h) hab (Nat.le_of_ble_eq_true rfl) ?_
        clear h; intro r17 I16 h
        refine r_if_eq 41 48 hC dX7_nameHere_41 (by decide) (fun hc => ?_) (fun hc => ?_)
        · replace h := h.1 hc
          refine r_aload_n 48 hC dX7_nameHere_48 rfl rfl ?_
          refine r_ldcS 49 (i := 10) (tx := "zones") hS hC (by decide) dX7_nameHere_49 ?_
          refine r_callV_i 51 (n := 1) [.ref (1000000 + 10)] [] hC hk0 rfl dX7_nameHere_51 (by decide) (by decide) tw_1312 tw_135 ⟨by decide, by decide, by decide +kernel⟩ tw_1309 tw_1311 tw_85 rfl rfl (sX7_isWord (l := pm_l X) hG hS (q0) 10 _ _ hk0 (by decide) h) hab (Nat.le_of_ble_eq_true rfl) ?_
          clear h; intro r19 I18 h
          refine r_if_eq 54 61 hC dX7_nameHere_54 (by decide) (fun hc => ?_) (fun hc => ?_)
          · replace h := h.1 hc
            refine r_iconst 61 (v := 0) hC dX7_nameHere_61 (by decide) ?_
            exact r_iret 62 hC hE rfl dX7_nameHere_62 ⟨_, rfl, h⟩
          · replace h := h.2 hc
            refine r_iconst 57 (v := 5) hC dX7_nameHere_57 (by decide) ?_
            refine r_goto 58 62 hC dX7_nameHere_58 (by decide) ?_
            exact r_iret 62 hC hE rfl dX7_nameHere_62 ⟨_, rfl, h⟩
        · replace h := h.2 hc
          refine r_iconst 44 (v := 4) hC dX7_nameHere_44 (by decide) ?_
          refine r_goto 45 62 hC dX7_nameHere_45 (by decide) ?_
          exact r_iret 62 hC hE rfl dX7_nameHere_62 ⟨_, rfl, h⟩
      · replace h := h.2 hc
        refine r_iconst 31 (v := 3) hC dX7_nameHere_31 (by decide) ?_
        refine r_goto 32 62 hC dX7_nameHere_32 (by decide) ?_
        exact r_iret 62 hC hE rfl dX7_nameHere_62 ⟨_, rfl, h⟩
    · replace h := h.2 hc
      refine r_iconst 20 (v := 2) hC dX7_nameHere_20 (by decide) ?_
      exact r_iret 21 hC hE rfl dX7_nameHere_21 ⟨_, rfl, h⟩
  · replace h := h.2 hc
    refine r_iconst 9 (v := 1) hC dX7_nameHere_9 (by decide) ?_
    exact r_iret 10 hC hE rfl dX7_nameHere_10 ⟨_, rfl, h⟩

def wX7_factor (Rr : Nat → pm_I → (Int32 → pm_I → Prop) → Prop) (G : pm_G) (q0 : Nat) (I : pm_I) (K : Int32 → pm_I → Prop) : Prop :=
  wX7_isSignHere G (q0) (40) I (fun r11 I10 => (r11 = 0 → ((¬ (I10 q0 14) = 2 → (wX7_nameHere G (q0) I10 (fun r13 I12 => (¬ r13 = 0 → (wX7_advance G (q0) I12 (fun I14 => wX7_emit G (q0) (r13) I14 (fun r16 I15 => ((r16) = 0 ∨ (r16) = 1) ∧ K (r16) I15)))) ∧ (r13 = 0 → (wX7_fails G (q0) (1) I12 (fun r18 I17 => ((r18) = 0 ∨ (r18) = 1) ∧ K (r18) I17)))))) ∧ ((I10 q0 14) = 2 → ((¬ (100 + (I10 q0 15)) = 0 → (wX7_advance G (q0) I10 (fun I19 => wX7_emit G (q0) (100 + (I10 q0 15)) I19 (fun r21 I20 => ((r21) = 0 ∨ (r21) = 1) ∧ K (r21) I20)))) ∧ ((100 + (I10 q0 15)) = 0 → (wX7_fails G (q0) (1) I10 (fun r23 I22 => ((r23) = 0 ∨ (r23) = 1) ∧ K (r23) I22))))))) ∧ (¬ r11 = 0 → ((5 ≤ (I10 q0 22) → (wX7_starts G (q0) (4) (0) I10 (fun r25 I24 => (¬ r25 = 0 → (∀ I26 : pm_I, I26 = pm_up I24 (q0) 22 ((I24 q0 22) + 1) → (Rr (q0) I26 (fun r28 I27 => (r28 = 0 → (∀ I29 : pm_I, I29 = pm_up I27 (q0) 22 ((I27 q0 22) - 1) → K 0 I29)) ∧ (¬ r28 = 0 → (wX7_closes G (q0) (41) I27 (fun r31 I30 => (r31 = 0 → (∀ I32 : pm_I, I32 = pm_up I30 (q0) 22 ((I30 q0 22) - 1) → K 0 I32)) ∧ (¬ r31 = 0 → (∀ I33 : pm_I, I33 = pm_up I30 (q0) 22 ((I30 q0 22) - 1) → K 1 I33))))))))) ∧ (r25 = 0 → K 0 I24)))) ∧ (¬ 5 ≤ (I10 q0 22) → (wX7_starts G (q0) (4) (1) I10 (fun r35 I34 => (¬ r35 = 0 → (∀ I36 : pm_I, I36 = pm_up I34 (q0) 22 ((I34 q0 22) + 1) → (Rr (q0) I36 (fun r38 I37 => (r38 = 0 → (∀ I39 : pm_I, I39 = pm_up I37 (q0) 22 ((I37 q0 22) - 1) → K 0 I39)) ∧ (¬ r38 = 0 → (wX7_closes G (q0) (41) I37 (fun r41 I40 => (r41 = 0 → (∀ I42 : pm_I, I42 = pm_up I40 (q0) 22 ((I40 q0 22) - 1) → K 0 I42)) ∧ (¬ r41 = 0 → (∀ I43 : pm_I, I43 = pm_up I40 (q0) 22 ((I40 q0 22) - 1) → K 1 I43))))))))) ∧ (r35 = 0 → K 0 I34)))))))

set_option maxRecDepth 20000 in
theorem sX7_factor {G : pm_G} {l : Launch} (hG : pm_ok G) (hS : pm_str G) (d : Nat) (Rr : Nat → pm_I → (Int32 → pm_I → Prop) → Prop) (hR : ∀ (q : Nat) (I : pm_I) (K : Int32 → pm_I → Prop), pm_k G q (.inl 7) → Rr q I K → pm_Ct G l yX7_sum cX7_sum 2 (some .boolean) { frames := 3 * d + 20, cells := 0, slots := 0, locals := 120 * d + 2000 } [.ref q] I (pm_Ki K)) (q0 : Nat) (I : pm_I) (K : Int32 → pm_I → Prop) (hk0 : pm_k G q0 (.inl 7)) (h : wX7_factor Rr G q0 I K) : pm_Ct G l yX7_factor cX7_factor 2 (some .boolean) { frames := 3 * d + 21, cells := 0, slots := 0, locals := 120 * d + 2035 } [.ref (q0)] I (pm_Ki K) := by
  unfold wX7_factor at h
  refine pm_enter (by decide +kernel) hG rfl (Nat.le_of_ble_eq_true rfl) rfl (fun X hl hC hE => ?_)
  subst hl
  have hab : 0 ≤ 0 ∧ 0 ≤ 0 := ⟨Nat.le_refl 0, Nat.le_refl 0⟩
  have hC : pm_C G X cX7_factor 2 RX7 (some .boolean) { frames := 3 * d + 21, cells := 0, slots := 0, locals := 120 * d + 2035 } := hC
  refine r_aload_n 0 hC dX7_factor_0 rfl rfl ?_
  refine r_bipush 1 (v := 40) hC dX7_factor_1 (by decide) ?_
  refine r_callV_i 3 (n := 1) [.int (40)] [] hC hk0 rfl dX7_factor_3 (by show 1 + 1 ≤ 3 * d + 21; omega) (by show 8 + (2 + 11) + (64) ≤ 120 * d + 2035; omega) tw_1370 tw_135 ⟨by decide, by decide, by decide +kernel⟩ tw_1367 tw_1369 tw_97 rfl rfl (sX7_isSignHere (l := pm_l X) hG (q0) (40) _ _ hk0 h) hab (Nat.le_of_ble_eq_true rfl) ?_
  clear h; intro r11 I10 h
  refine r_if_eq 6 76 hC dX7_factor_6 (by decide) (fun hc => ?_) (fun hc => ?_)
  · replace h := h.1 hc
    refine r_aload_n 76 hC dX7_factor_76 rfl rfl ?_
    refine r_getI7 77 (x := I10 (q0) 14) hC hk0 14 (by decide) tw_1193 rfl rfl dX7_factor_77 ?_
    refine r_iconst 80 (v := 2) hC dX7_factor_80 (by decide) ?_
    refine r_icmp_ne 81 94 hC dX7_factor_81 (by decide) (fun hc => ?_) (fun hc => ?_)
    · replace h := h.1 hc
      refine r_aload_n 94 hC dX7_factor_94 rfl rfl ?_
      refine r_callV_i 95 (n := 0) [] [] hC hk0 rfl dX7_factor_95 (by show 6 + 1 ≤ 3 * d + 21; omega) (by show 8 + (1 + 11) + (522) ≤ 120 * d + 2035; omega) tw_1378 tw_135 ⟨by decide, by decide, by decide +kernel⟩ tw_1375 tw_1377 tw_99 rfl rfl (sX7_nameHere (l := pm_l X) hG hS (q0) _ _ hk0 h) hab (Nat.le_of_ble_eq_true rfl) ?_
      clear h; intro r13 I12 h
      refine r_istore_n 98 [some (.ref (q0)), some (.int (r13))] hC dX7_factor_98 rfl (by decide) rfl ?_
      refine r_iload_n 99 hC dX7_factor_99 rfl rfl ?_
      refine r_if_ne 100 109 hC dX7_factor_100 (by decide) (fun hc => ?_) (fun hc => ?_)
      · replace h := h.1 hc
        refine r_aload_n 109 hC dX7_factor_109 rfl rfl ?_
        refine r_callV_v 110 (n := 0) [] [] hC hk0 rfl dX7_factor_110 (by show 2 + 1 ≤ 3 * d + 21; omega) (by show 8 + (2 + 11) + (150) ≤ 120 * d + 2035; omega) tw_1296 tw_135 ⟨by decide, by decide, by decide +kernel⟩ tw_1293 tw_1295 tw_82 rfl rfl (sX7_advance (l := pm_l X) hG (q0) _ _ hk0 h) hab (Nat.le_of_ble_eq_true rfl) ?_
        clear h; intro I14 h
        refine r_aload_n 113 hC dX7_factor_113 rfl rfl ?_
        refine r_iload_n 114 hC dX7_factor_114 rfl rfl ?_
        refine r_callV_i 115 (n := 1) [.int (r13)] [] hC hk0 rfl dX7_factor_115 (by show 1 + 1 ≤ 3 * d + 21; omega) (by show 8 + (2 + 11) + (64) ≤ 120 * d + 2035; omega) tw_1167 tw_135 ⟨by decide, by decide, by decide +kernel⟩ tw_1164 tw_1166 tw_77 rfl rfl (sX7_emit (l := pm_l X) hG (q0) (r13) _ _ hk0 h) hab (Nat.le_of_ble_eq_true rfl) ?_
        clear h; intro r16 I15 h
        exact r_iret 118 hC hE (pm_nz h.1).1 dX7_factor_118 ⟨_, rfl, h.2⟩
      · replace h := h.2 hc
        refine r_aload_n 103 hC dX7_factor_103 rfl rfl ?_
        refine r_iconst 104 (v := 1) hC dX7_factor_104 (by decide) ?_
        refine r_callV_i 105 (n := 1) [.int (1)] [] hC hk0 rfl dX7_factor_105 (by show 1 + 1 ≤ 3 * d + 21; omega) (by show 8 + (2 + 11) + (64) ≤ 120 * d + 2035; omega) tw_1326 tw_135 ⟨by decide, by decide, by decide +kernel⟩ tw_1323 tw_1325 tw_88 rfl rfl (sX7_fails (l := pm_l X) hG (q0) (1) _ _ hk0 h) hab (Nat.le_of_ble_eq_true rfl) ?_
        clear h; intro r18 I17 h
        exact r_iret 108 hC hE (pm_nz h.1).1 dX7_factor_108 ⟨_, rfl, h.2⟩
    · replace h := h.2 hc
      refine r_bipush 84 (v := 100) hC dX7_factor_84 (by decide) ?_
      refine r_aload_n 86 hC dX7_factor_86 rfl rfl ?_
      refine r_getI7 87 (x := I10 (q0) 15) hC hk0 15 (by decide) tw_1194 rfl rfl dX7_factor_87 ?_
      refine r_iadd 90 hC dX7_factor_90 ?_
      refine r_goto 91 98 hC dX7_factor_91 (by decide) ?_
      refine r_istore_n 98 [some (.ref (q0)), some (.int (100 + (I10 q0 15)))] hC dX7_factor_98 rfl (by decide) rfl ?_
      refine r_iload_n 99 hC dX7_factor_99 rfl rfl ?_
      refine r_if_ne 100 109 hC dX7_factor_100 (by decide) (fun hc => ?_) (fun hc => ?_)
      · replace h := h.1 hc
        refine r_aload_n 109 hC dX7_factor_109 rfl rfl ?_
        refine r_callV_v 110 (n := 0) [] [] hC hk0 rfl dX7_factor_110 (by show 2 + 1 ≤ 3 * d + 21; omega) (by show 8 + (2 + 11) + (150) ≤ 120 * d + 2035; omega) tw_1296 tw_135 ⟨by decide, by decide, by decide +kernel⟩ tw_1293 tw_1295 tw_82 rfl rfl (sX7_advance (l := pm_l X) hG (q0) _ _ hk0 h) hab (Nat.le_of_ble_eq_true rfl) ?_
        clear h; intro I19 h
        refine r_aload_n 113 hC dX7_factor_113 rfl rfl ?_
        refine r_iload_n 114 hC dX7_factor_114 rfl rfl ?_
        refine r_callV_i 115 (n := 1) [.int (100 + (I10 q0 15))] [] hC hk0 rfl dX7_factor_115 (by show 1 + 1 ≤ 3 * d + 21; omega) (by show 8 + (2 + 11) + (64) ≤ 120 * d + 2035; omega) tw_1167 tw_135 ⟨by decide, by decide, by decide +kernel⟩ tw_1164 tw_1166 tw_77 rfl rfl (sX7_emit (l := pm_l X) hG (q0) (100 + (I10 q0 15)) _ _ hk0 h) hab (Nat.le_of_ble_eq_true rfl) ?_
        clear h; intro r21 I20 h
        exact r_iret 118 hC hE (pm_nz h.1).1 dX7_factor_118 ⟨_, rfl, h.2⟩
      · replace h := h.2 hc
        refine r_aload_n 103 hC dX7_factor_103 rfl rfl ?_
        refine r_iconst 104 (v := 1) hC dX7_factor_104 (by decide) ?_
        refine r_callV_i 105 (n := 1) [.int (1)] [] hC hk0 rfl dX7_factor_105 (by show 1 + 1 ≤ 3 * d + 21; omega) (by show 8 + (2 + 11) + (64) ≤ 120 * d + 2035; omega) tw_1326 tw_135 ⟨by decide, by decide, by decide +kernel⟩ tw_1323 tw_1325 tw_88 rfl rfl (sX7_fails (l := pm_l X) hG (q0) (1) _ _ hk0 h) hab (Nat.le_of_ble_eq_true rfl) ?_
        clear h; intro r23 I22 h
        exact r_iret 108 hC hE (pm_nz h.1).1 dX7_factor_108 ⟨_, rfl, h.2⟩
  · replace h := h.2 hc
    refine r_aload_n 9 hC dX7_factor_9 rfl rfl ?_
    refine r_iconst 10 (v := 4) hC dX7_factor_10 (by decide) ?_
    refine r_aload_n 11 hC dX7_factor_11 rfl rfl ?_
    refine r_getI7 12 (x := I10 (q0) 22) hC hk0 22 (by decide) tw_1201 rfl rfl dX7_factor_12 ?_
    refine r_iconst 15 (v := 5) hC dX7_factor_15 (by decide) ?_
    refine r_icmp_ge 16 23 hC dX7_factor_16 (by decide) (fun hc => ?_) (fun hc => ?_)
    · replace h := h.1 hc
      refine r_iconst 23 (v := 0) hC dX7_factor_23 (by decide) ?_
      refine r_callV_i 24 (n := 2) [.int (4), .int (0)] [] hC hk0 rfl dX7_factor_24 (by show 3 + 1 ≤ 3 * d + 21; omega) (by show 8 + (3 + 11) + (235) ≤ 120 * d + 2035; omega) tw_1322 tw_135 ⟨by decide, by decide, by decide +kernel⟩ tw_1319 tw_1321 tw_87 rfl rfl (sX7_starts (l := pm_l X) hG (q0) (4) (0) _ _ hk0 h) hab (Nat.le_of_ble_eq_true rfl) ?_
      clear h; intro r25 I24 h
      refine r_if_ne 27 32 hC dX7_factor_27 (by decide) (fun hc => ?_) (fun hc => ?_)
      · replace h := h.1 hc
        refine r_aload_n 32 hC dX7_factor_32 rfl rfl ?_
        refine r_dup 33 hC dX7_factor_33 rfl ?_
        refine r_getI7 34 (x := I24 (q0) 22) hC hk0 22 (by decide) tw_1201 rfl rfl dX7_factor_34 ?_
        refine r_iconst 37 (v := 1) hC dX7_factor_37 (by decide) ?_
        refine r_iadd 38 hC dX7_factor_38 ?_
        refine r_putI7 39 hC hk0 22 (by decide) tw_1201 rfl rfl (by decide +kernel) ps_7_22 dX7_factor_39 (fun I26 hI => ?_)
        replace h := h I26 hI; clear hI
        refine r_aload_n 42 hC dX7_factor_42 rfl rfl ?_
        refine r_callV_i 43 (n := 0) [] [] hC hk0 rfl dX7_factor_43 (by show 3 * d + 20 + 1 ≤ 3 * d + 21; omega) (by show 8 + (2 + 11) + (120 * d + 2000) ≤ 120 * d + 2035; omega) tw_1358 tw_135 ⟨by decide, by decide, by decide +kernel⟩ tw_1355 tw_1357 tw_94 rfl rfl (hR _ _ _ hk0 h) hab (Nat.le_of_ble_eq_true rfl) ?_
        clear h; intro r28 I27 h
        refine r_if_eq 46 62 hC dX7_factor_46 (by decide) (fun hc => ?_) (fun hc => ?_)
        · replace h := h.1 hc
          refine r_iconst 62 (v := 0) hC dX7_factor_62 (by decide) ?_
          refine r_istore_n 63 [some (.ref (q0)), some (.int (0))] hC dX7_factor_63 rfl (by decide) rfl ?_
          refine r_aload_n 64 hC dX7_factor_64 rfl rfl ?_
          refine r_dup 65 hC dX7_factor_65 rfl ?_
          refine r_getI7 66 (x := I27 (q0) 22) hC hk0 22 (by decide) tw_1201 rfl rfl dX7_factor_66 ?_
          refine r_iconst 69 (v := 1) hC dX7_factor_69 (by decide) ?_
          refine r_isub 70 hC dX7_factor_70 ?_
          refine r_putI7 71 hC hk0 22 (by decide) tw_1201 rfl rfl (by decide +kernel) ps_7_22 dX7_factor_71 (fun I29 hI => ?_)
          replace h := h I29 hI; clear hI
          refine r_iload_n 74 hC dX7_factor_74 rfl rfl ?_
          exact r_iret 75 hC hE rfl dX7_factor_75 ⟨_, rfl, h⟩
        · replace h := h.2 hc
          refine r_aload_n 49 hC dX7_factor_49 rfl rfl ?_
          refine r_bipush 50 (v := 41) hC dX7_factor_50 (by decide) ?_
          refine r_callV_i 52 (n := 1) [.int (41)] [] hC hk0 rfl dX7_factor_52 (by show 3 + 1 ≤ 3 * d + 21; omega) (by show 8 + (2 + 11) + (235) ≤ 120 * d + 2035; omega) tw_1374 tw_135 ⟨by decide, by decide, by decide +kernel⟩ tw_1371 tw_1373 tw_98 rfl rfl (sX7_closes (l := pm_l X) hG (q0) (41) _ _ hk0 h) hab (Nat.le_of_ble_eq_true rfl) ?_
          clear h; intro r31 I30 h
          refine r_if_eq 55 62 hC dX7_factor_55 (by decide) (fun hc => ?_) (fun hc => ?_)
          · replace h := h.1 hc
            refine r_iconst 62 (v := 0) hC dX7_factor_62 (by decide) ?_
            refine r_istore_n 63 [some (.ref (q0)), some (.int (0))] hC dX7_factor_63 rfl (by decide) rfl ?_
            refine r_aload_n 64 hC dX7_factor_64 rfl rfl ?_
            refine r_dup 65 hC dX7_factor_65 rfl ?_
            refine r_getI7 66 (x := I30 (q0) 22) hC hk0 22 (by decide) tw_1201 rfl rfl dX7_factor_66 ?_
            refine r_iconst 69 (v := 1) hC dX7_factor_69 (by decide) ?_
            refine r_isub 70 hC dX7_factor_70 ?_
            refine r_putI7 71 hC hk0 22 (by decide) tw_1201 rfl rfl (by decide +kernel) ps_7_22 dX7_factor_71 (fun I32 hI => ?_)
            replace h := h I32 hI; clear hI
            refine r_iload_n 74 hC dX7_factor_74 rfl rfl ?_
            exact r_iret 75 hC hE rfl dX7_factor_75 ⟨_, rfl, h⟩
          · replace h := h.2 hc
            refine r_iconst 58 (v := 1) hC dX7_factor_58 (by decide) ?_
            refine r_goto 59 63 hC dX7_factor_59 (by decide) ?_
            refine r_istore_n 63 [some (.ref (q0)), some (.int (1))] hC dX7_factor_63 rfl (by decide) rfl ?_
            refine r_aload_n 64 hC dX7_factor_64 rfl rfl ?_
            refine r_dup 65 hC dX7_factor_65 rfl ?_
            refine r_getI7 66 (x := I30 (q0) 22) hC hk0 22 (by decide) tw_1201 rfl rfl dX7_factor_66 ?_
            refine r_iconst 69 (v := 1) hC dX7_factor_69 (by decide) ?_
            refine r_isub 70 hC dX7_factor_70 ?_
            refine r_putI7 71 hC hk0 22 (by decide) tw_1201 rfl rfl (by decide +kernel) ps_7_22 dX7_factor_71 (fun I33 hI => ?_)
            replace h := h I33 hI; clear hI
            refine r_iload_n 74 hC dX7_factor_74 rfl rfl ?_
            exact r_iret 75 hC hE rfl dX7_factor_75 ⟨_, rfl, h⟩
      · replace h := h.2 hc
        refine r_iconst 30 (v := 0) hC dX7_factor_30 (by decide) ?_
        exact r_iret 31 hC hE rfl dX7_factor_31 ⟨_, rfl, h⟩
    · replace h := h.2 hc
      refine r_iconst 19 (v := 1) hC dX7_factor_19 (by decide) ?_
      refine r_goto 20 24 hC dX7_factor_20 (by decide) ?_
      refine r_callV_i 24 (n := 2) [.int (4), .int (1)] [] hC hk0 rfl dX7_factor_24 (by show 3 + 1 ≤ 3 * d + 21; omega) (by show 8 + (3 + 11) + (235) ≤ 120 * d + 2035; omega) tw_1322 tw_135 ⟨by decide, by decide, by decide +kernel⟩ tw_1319 tw_1321 tw_87 rfl rfl (sX7_starts (l := pm_l X) hG (q0) (4) (1) _ _ hk0 h) hab (Nat.le_of_ble_eq_true rfl) ?_
      clear h; intro r35 I34 h
      refine r_if_ne 27 32 hC dX7_factor_27 (by decide) (fun hc => ?_) (fun hc => ?_)
      · replace h := h.1 hc
        refine r_aload_n 32 hC dX7_factor_32 rfl rfl ?_
        refine r_dup 33 hC dX7_factor_33 rfl ?_
        refine r_getI7 34 (x := I34 (q0) 22) hC hk0 22 (by decide) tw_1201 rfl rfl dX7_factor_34 ?_
        refine r_iconst 37 (v := 1) hC dX7_factor_37 (by decide) ?_
        refine r_iadd 38 hC dX7_factor_38 ?_
        refine r_putI7 39 hC hk0 22 (by decide) tw_1201 rfl rfl (by decide +kernel) ps_7_22 dX7_factor_39 (fun I36 hI => ?_)
        replace h := h I36 hI; clear hI
        refine r_aload_n 42 hC dX7_factor_42 rfl rfl ?_
        refine r_callV_i 43 (n := 0) [] [] hC hk0 rfl dX7_factor_43 (by show 3 * d + 20 + 1 ≤ 3 * d + 21; omega) (by show 8 + (2 + 11) + (120 * d + 2000) ≤ 120 * d + 2035; omega) tw_1358 tw_135 ⟨by decide, by decide, by decide +kernel⟩ tw_1355 tw_1357 tw_94 rfl rfl (hR _ _ _ hk0 h) hab (Nat.le_of_ble_eq_true rfl) ?_
        clear h; intro r38 I37 h
        refine r_if_eq 46 62 hC dX7_factor_46 (by decide) (fun hc => ?_) (fun hc => ?_)
        · replace h := h.1 hc
          refine r_iconst 62 (v := 0) hC dX7_factor_62 (by decide) ?_
          refine r_istore_n 63 [some (.ref (q0)), some (.int (0))] hC dX7_factor_63 rfl (by decide) rfl ?_
          refine r_aload_n 64 hC dX7_factor_64 rfl rfl ?_
          refine r_dup 65 hC dX7_factor_65 rfl ?_
          refine r_getI7 66 (x := I37 (q0) 22) hC hk0 22 (by decide) tw_1201 rfl rfl dX7_factor_66 ?_
          refine r_iconst 69 (v := 1) hC dX7_factor_69 (by decide) ?_
          refine r_isub 70 hC dX7_factor_70 ?_
          refine r_putI7 71 hC hk0 22 (by decide) tw_1201 rfl rfl (by decide +kernel) ps_7_22 dX7_factor_71 (fun I39 hI => ?_)
          replace h := h I39 hI; clear hI
          refine r_iload_n 74 hC dX7_factor_74 rfl rfl ?_
          exact r_iret 75 hC hE rfl dX7_factor_75 ⟨_, rfl, h⟩
        · replace h := h.2 hc
          refine r_aload_n 49 hC dX7_factor_49 rfl rfl ?_
          refine r_bipush 50 (v := 41) hC dX7_factor_50 (by decide) ?_
          refine r_callV_i 52 (n := 1) [.int (41)] [] hC hk0 rfl dX7_factor_52 (by show 3 + 1 ≤ 3 * d + 21; omega) (by show 8 + (2 + 11) + (235) ≤ 120 * d + 2035; omega) tw_1374 tw_135 ⟨by decide, by decide, by decide +kernel⟩ tw_1371 tw_1373 tw_98 rfl rfl (sX7_closes (l := pm_l X) hG (q0) (41) _ _ hk0 h) hab (Nat.le_of_ble_eq_true rfl) ?_
          clear h; intro r41 I40 h
          refine r_if_eq 55 62 hC dX7_factor_55 (by decide) (fun hc => ?_) (fun hc => ?_)
          · replace h := h.1 hc
            refine r_iconst 62 (v := 0) hC dX7_factor_62 (by decide) ?_
            refine r_istore_n 63 [some (.ref (q0)), some (.int (0))] hC dX7_factor_63 rfl (by decide) rfl ?_
            refine r_aload_n 64 hC dX7_factor_64 rfl rfl ?_
            refine r_dup 65 hC dX7_factor_65 rfl ?_
            refine r_getI7 66 (x := I40 (q0) 22) hC hk0 22 (by decide) tw_1201 rfl rfl dX7_factor_66 ?_
            refine r_iconst 69 (v := 1) hC dX7_factor_69 (by decide) ?_
            refine r_isub 70 hC dX7_factor_70 ?_
            refine r_putI7 71 hC hk0 22 (by decide) tw_1201 rfl rfl (by decide +kernel) ps_7_22 dX7_factor_71 (fun I42 hI => ?_)
            replace h := h I42 hI; clear hI
            refine r_iload_n 74 hC dX7_factor_74 rfl rfl ?_
            exact r_iret 75 hC hE rfl dX7_factor_75 ⟨_, rfl, h⟩
          · replace h := h.2 hc
            refine r_iconst 58 (v := 1) hC dX7_factor_58 (by decide) ?_
            refine r_goto 59 63 hC dX7_factor_59 (by decide) ?_
            refine r_istore_n 63 [some (.ref (q0)), some (.int (1))] hC dX7_factor_63 rfl (by decide) rfl ?_
            refine r_aload_n 64 hC dX7_factor_64 rfl rfl ?_
            refine r_dup 65 hC dX7_factor_65 rfl ?_
            refine r_getI7 66 (x := I40 (q0) 22) hC hk0 22 (by decide) tw_1201 rfl rfl dX7_factor_66 ?_
            refine r_iconst 69 (v := 1) hC dX7_factor_69 (by decide) ?_
            refine r_isub 70 hC dX7_factor_70 ?_
            refine r_putI7 71 hC hk0 22 (by decide) tw_1201 rfl rfl (by decide +kernel) ps_7_22 dX7_factor_71 (fun I43 hI => ?_)
            replace h := h I43 hI; clear hI
            refine r_iload_n 74 hC dX7_factor_74 rfl rfl ?_
            exact r_iret 75 hC hE rfl dX7_factor_75 ⟨_, rfl, h⟩
      · replace h := h.2 hc
        refine r_iconst 30 (v := 0) hC dX7_factor_30 (by decide) ?_
        exact r_iret 31 hC hE rfl dX7_factor_31 ⟨_, rfl, h⟩

def wX7_term (Rr : Nat → pm_I → (Int32 → pm_I → Prop) → Prop) (G : pm_G) (q0 : Nat) (I : pm_I) (K : Int32 → pm_I → Prop) : Prop :=
  wX7_factor Rr G (q0) I (fun r11 I10 => (¬ r11 = 0 → (pm_lp1 (fun (P12 : pm_I → Prop)  (I13 : pm_I) => wX7_isSignHere G (q0) (42) I13 (fun r15 I14 => (¬ r15 = 0 → ((¬ (I14 q0 15) = 42 → (wX7_advance G (q0) I14 (fun I16 => wX7_factor Rr G (q0) I16 (fun r18 I17 => (¬ r18 = 0 → (wX7_emit G (q0) (-4) I17 (fun r20 I19 => P12  I19))) ∧ (r18 = 0 → K 0 I17))))) ∧ ((I14 q0 15) = 42 → (wX7_advance G (q0) I14 (fun I21 => wX7_factor Rr G (q0) I21 (fun r23 I22 => (¬ r23 = 0 → (wX7_emit G (q0) (-3) I22 (fun r25 I24 => P12  I24))) ∧ (r23 = 0 → K 0 I22))))))) ∧ (r15 = 0 → (wX7_isSignHere G (q0) (47) I14 (fun r27 I26 => (r27 = 0 → K 1 I26) ∧ (¬ r27 = 0 → ((¬ (I26 q0 15) = 42 → (wX7_advance G (q0) I26 (fun I28 => wX7_factor Rr G (q0) I28 (fun r30 I29 => (¬ r30 = 0 → (wX7_emit G (q0) (-4) I29 (fun r32 I31 => P12  I31))) ∧ (r30 = 0 → K 0 I29))))) ∧ ((I26 q0 15) = 42 → (wX7_advance G (q0) I26 (fun I33 => wX7_factor Rr G (q0) I33 (fun r35 I34 => (¬ r35 = 0 → (wX7_emit G (q0) (-3) I34 (fun r37 I36 => P12  I36))) ∧ (r35 = 0 → K 0 I34))))))))))))  I10)) ∧ (r11 = 0 → K 0 I10))

set_option maxRecDepth 20000 in
theorem sX7_term {G : pm_G} {l : Launch} (hG : pm_ok G) (hS : pm_str G) (d : Nat) (Rr : Nat → pm_I → (Int32 → pm_I → Prop) → Prop) (hR : ∀ (q : Nat) (I : pm_I) (K : Int32 → pm_I → Prop), pm_k G q (.inl 7) → Rr q I K → pm_Ct G l yX7_sum cX7_sum 2 (some .boolean) { frames := 3 * d + 20, cells := 0, slots := 0, locals := 120 * d + 2000 } [.ref q] I (pm_Ki K)) (q0 : Nat) (I : pm_I) (K : Int32 → pm_I → Prop) (hk0 : pm_k G q0 (.inl 7)) (h : wX7_term Rr G q0 I K) : pm_Ct G l yX7_term cX7_term 2 (some .boolean) { frames := 3 * d + 22, cells := 0, slots := 0, locals := 120 * d + 2070 } [.ref (q0)] I (pm_Ki K) := by
  unfold wX7_term at h
  refine pm_enter (by decide +kernel) hG rfl (Nat.le_of_ble_eq_true rfl) rfl (fun X hl hC hE => ?_)
  subst hl
  have hab : 0 ≤ 0 ∧ 0 ≤ 0 := ⟨Nat.le_refl 0, Nat.le_refl 0⟩
  have hC : pm_C G X cX7_term 2 RX7 (some .boolean) { frames := 3 * d + 22, cells := 0, slots := 0, locals := 120 * d + 2070 } := hC
  refine r_aload_n 0 hC dX7_term_0 rfl rfl ?_
  refine r_callV_i 1 (n := 0) [] [] hC hk0 rfl dX7_term_1 (by show 3 * d + 21 + 1 ≤ 3 * d + 22; omega) (by show 8 + (2 + 11) + (120 * d + 2035) ≤ 120 * d + 2070; omega) tw_1366 tw_135 ⟨by decide, by decide, by decide +kernel⟩ tw_1363 tw_1365 tw_96 rfl rfl (sX7_factor (l := pm_l X) hG hS d Rr hR (q0) _ _ hk0 h) hab (Nat.le_of_ble_eq_true rfl) ?_
  clear h; intro r11 I10 h
  refine r_if_ne 4 9 hC dX7_term_4 (by decide) (fun hc => ?_) (fun hc => ?_)
  · replace h := h.1 hc
    refine h (fun  I13 => pm_R G X 2 0 0 9 [some (.ref (q0)), none] [] I13) ?_
    clear h; intro  I13 h
    refine r_aload_n 9 hC dX7_term_9 rfl rfl ?_
    refine r_bipush 10 (v := 42) hC dX7_term_10 (by decide) ?_
    refine r_callV_i 12 (n := 1) [.int (42)] [] hC hk0 rfl dX7_term_12 (by show 1 + 1 ≤ 3 * d + 22; omega) (by show 8 + (2 + 11) + (64) ≤ 120 * d + 2070; omega) tw_1370 tw_135 ⟨by decide, by decide, by decide +kernel⟩ tw_1367 tw_1369 tw_97 rfl rfl (sX7_isSignHere (l := pm_l X) hG (q0) (42) _ _ hk0 h) hab (Nat.le_of_ble_eq_true rfl) ?_
    clear h; intro r15 I14 h
    refine r_if_ne 15 27 hC dX7_term_15 (by decide) (fun hc => ?_) (fun hc => ?_)
    · replace h := h.1 hc
      refine r_aload_n 27 hC dX7_term_27 rfl rfl ?_
      refine r_getI7 28 (x := I14 (q0) 15) hC hk0 15 (by decide) tw_1194 rfl rfl dX7_term_28 ?_
      refine r_bipush 31 (v := 42) hC dX7_term_31 (by decide) ?_
      refine r_icmp_ne 33 41 hC dX7_term_33 (by decide) (fun hc => ?_) (fun hc => ?_)
      · replace h := h.1 hc
        refine r_bipush 41 (v := -4) hC dX7_term_41 (by decide) ?_
        refine r_istore_n 43 [some (.ref (q0)), some (.int (-4))] hC dX7_term_43 rfl (by decide) rfl ?_
        refine r_aload_n 44 hC dX7_term_44 rfl rfl ?_
        refine r_callV_v 45 (n := 0) [] [] hC hk0 rfl dX7_term_45 (by show 2 + 1 ≤ 3 * d + 22; omega) (by show 8 + (2 + 11) + (150) ≤ 120 * d + 2070; omega) tw_1296 tw_135 ⟨by decide, by decide, by decide +kernel⟩ tw_1293 tw_1295 tw_82 rfl rfl (sX7_advance (l := pm_l X) hG (q0) _ _ hk0 h) hab (Nat.le_of_ble_eq_true rfl) ?_
        clear h; intro I16 h
        refine r_aload_n 48 hC dX7_term_48 rfl rfl ?_
        refine r_callV_i 49 (n := 0) [] [] hC hk0 rfl dX7_term_49 (by show 3 * d + 21 + 1 ≤ 3 * d + 22; omega) (by show 8 + (2 + 11) + (120 * d + 2035) ≤ 120 * d + 2070; omega) tw_1366 tw_135 ⟨by decide, by decide, by decide +kernel⟩ tw_1363 tw_1365 tw_96 rfl rfl (sX7_factor (l := pm_l X) hG hS d Rr hR (q0) _ _ hk0 h) hab (Nat.le_of_ble_eq_true rfl) ?_
        clear h; intro r18 I17 h
        refine r_if_ne 52 57 hC dX7_term_52 (by decide) (fun hc => ?_) (fun hc => ?_)
        · replace h := h.1 hc
          refine r_aload_n 57 hC dX7_term_57 rfl rfl ?_
          refine r_iload_n 58 hC dX7_term_58 rfl rfl ?_
          refine r_callV_i 59 (n := 1) [.int (-4)] [] hC hk0 rfl dX7_term_59 (by show 1 + 1 ≤ 3 * d + 22; omega) (by show 8 + (2 + 11) + (64) ≤ 120 * d + 2070; omega) tw_1167 tw_135 ⟨by decide, by decide, by decide +kernel⟩ tw_1164 tw_1166 tw_77 rfl rfl (sX7_emit (l := pm_l X) hG (q0) (-4) _ _ hk0 h) hab (Nat.le_of_ble_eq_true rfl) ?_
          clear h; intro r20 I19 h
          refine r_pop 62 hC dX7_term_62 rfl ?_
          refine r_goto 63 9 hC dX7_term_63 (by decide) ?_
          refine r_weak (ls' := [some (.ref (q0)), none]) (And.intro rfl (trivial)) ?_
          exact h
        · replace h := h.2 hc
          refine r_iconst 55 (v := 0) hC dX7_term_55 (by decide) ?_
          exact r_iret 56 hC hE rfl dX7_term_56 ⟨_, rfl, h⟩
      · replace h := h.2 hc
        refine r_bipush 36 (v := -3) hC dX7_term_36 (by decide) ?_
        refine r_goto 38 43 hC dX7_term_38 (by decide) ?_
        refine r_istore_n 43 [some (.ref (q0)), some (.int (-3))] hC dX7_term_43 rfl (by decide) rfl ?_
        refine r_aload_n 44 hC dX7_term_44 rfl rfl ?_
        refine r_callV_v 45 (n := 0) [] [] hC hk0 rfl dX7_term_45 (by show 2 + 1 ≤ 3 * d + 22; omega) (by show 8 + (2 + 11) + (150) ≤ 120 * d + 2070; omega) tw_1296 tw_135 ⟨by decide, by decide, by decide +kernel⟩ tw_1293 tw_1295 tw_82 rfl rfl (sX7_advance (l := pm_l X) hG (q0) _ _ hk0 h) hab (Nat.le_of_ble_eq_true rfl) ?_
        clear h; intro I21 h
        refine r_aload_n 48 hC dX7_term_48 rfl rfl ?_
        refine r_callV_i 49 (n := 0) [] [] hC hk0 rfl dX7_term_49 (by show 3 * d + 21 + 1 ≤ 3 * d + 22; omega) (by show 8 + (2 + 11) + (120 * d + 2035) ≤ 120 * d + 2070; omega) tw_1366 tw_135 ⟨by decide, by decide, by decide +kernel⟩ tw_1363 tw_1365 tw_96 rfl rfl (sX7_factor (l := pm_l X) hG hS d Rr hR (q0) _ _ hk0 h) hab (Nat.le_of_ble_eq_true rfl) ?_
        clear h; intro r23 I22 h
        refine r_if_ne 52 57 hC dX7_term_52 (by decide) (fun hc => ?_) (fun hc => ?_)
        · replace h := h.1 hc
          refine r_aload_n 57 hC dX7_term_57 rfl rfl ?_
          refine r_iload_n 58 hC dX7_term_58 rfl rfl ?_
          refine r_callV_i 59 (n := 1) [.int (-3)] [] hC hk0 rfl dX7_term_59 (by show 1 + 1 ≤ 3 * d + 22; omega) (by show 8 + (2 + 11) + (64) ≤ 120 * d + 2070; omega) tw_1167 tw_135 ⟨by decide, by decide, by decide +kernel⟩ tw_1164 tw_1166 tw_77 rfl rfl (sX7_emit (l := pm_l X) hG (q0) (-3) _ _ hk0 h) hab (Nat.le_of_ble_eq_true rfl) ?_
          clear h; intro r25 I24 h
          refine r_pop 62 hC dX7_term_62 rfl ?_
          refine r_goto 63 9 hC dX7_term_63 (by decide) ?_
          refine r_weak (ls' := [some (.ref (q0)), none]) (And.intro rfl (trivial)) ?_
          exact h
        · replace h := h.2 hc
          refine r_iconst 55 (v := 0) hC dX7_term_55 (by decide) ?_
          exact r_iret 56 hC hE rfl dX7_term_56 ⟨_, rfl, h⟩
    · replace h := h.2 hc
      refine r_aload_n 18 hC dX7_term_18 rfl rfl ?_
      refine r_bipush 19 (v := 47) hC dX7_term_19 (by decide) ?_
      refine r_callV_i 21 (n := 1) [.int (47)] [] hC hk0 rfl dX7_term_21 (by show 1 + 1 ≤ 3 * d + 22; omega) (by show 8 + (2 + 11) + (64) ≤ 120 * d + 2070; omega) tw_1370 tw_135 ⟨by decide, by decide, by decide +kernel⟩ tw_1367 tw_1369 tw_97 rfl rfl (sX7_isSignHere (l := pm_l X) hG (q0) (47) _ _ hk0 h) hab (Nat.le_of_ble_eq_true rfl) ?_
      clear h; intro r27 I26 h
      refine r_if_eq 24 66 hC dX7_term_24 (by decide) (fun hc => ?_) (fun hc => ?_)
      · replace h := h.1 hc
        refine r_iconst 66 (v := 1) hC dX7_term_66 (by decide) ?_
        exact r_iret 67 hC hE rfl dX7_term_67 ⟨_, rfl, h⟩
      · replace h := h.2 hc
        refine r_aload_n 27 hC dX7_term_27 rfl rfl ?_
        refine r_getI7 28 (x := I26 (q0) 15) hC hk0 15 (by decide) tw_1194 rfl rfl dX7_term_28 ?_
        refine r_bipush 31 (v := 42) hC dX7_term_31 (by decide) ?_
        refine r_icmp_ne 33 41 hC dX7_term_33 (by decide) (fun hc => ?_) (fun hc => ?_)
        · replace h := h.1 hc
          refine r_bipush 41 (v := -4) hC dX7_term_41 (by decide) ?_
          refine r_istore_n 43 [some (.ref (q0)), some (.int (-4))] hC dX7_term_43 rfl (by decide) rfl ?_
          refine r_aload_n 44 hC dX7_term_44 rfl rfl ?_
          refine r_callV_v 45 (n := 0) [] [] hC hk0 rfl dX7_term_45 (by show 2 + 1 ≤ 3 * d + 22; omega) (by show 8 + (2 + 11) + (150) ≤ 120 * d + 2070; omega) tw_1296 tw_135 ⟨by decide, by decide, by decide +kernel⟩ tw_1293 tw_1295 tw_82 rfl rfl (sX7_advance (l := pm_l X) hG (q0) _ _ hk0 h) hab (Nat.le_of_ble_eq_true rfl) ?_
          clear h; intro I28 h
          refine r_aload_n 48 hC dX7_term_48 rfl rfl ?_
          refine r_callV_i 49 (n := 0) [] [] hC hk0 rfl dX7_term_49 (by show 3 * d + 21 + 1 ≤ 3 * d + 22; omega) (by show 8 + (2 + 11) + (120 * d + 2035) ≤ 120 * d + 2070; omega) tw_1366 tw_135 ⟨by decide, by decide, by decide +kernel⟩ tw_1363 tw_1365 tw_96 rfl rfl (sX7_factor (l := pm_l X) hG hS d Rr hR (q0) _ _ hk0 h) hab (Nat.le_of_ble_eq_true rfl) ?_
          clear h; intro r30 I29 h
          refine r_if_ne 52 57 hC dX7_term_52 (by decide) (fun hc => ?_) (fun hc => ?_)
          · replace h := h.1 hc
            refine r_aload_n 57 hC dX7_term_57 rfl rfl ?_
            refine r_iload_n 58 hC dX7_term_58 rfl rfl ?_
            refine r_callV_i 59 (n := 1) [.int (-4)] [] hC hk0 rfl dX7_term_59 (by show 1 + 1 ≤ 3 * d + 22; omega) (by show 8 + (2 + 11) + (64) ≤ 120 * d + 2070; omega) tw_1167 tw_135 ⟨by decide, by decide, by decide +kernel⟩ tw_1164 tw_1166 tw_77 rfl rfl (sX7_emit (l := pm_l X) hG (q0) (-4) _ _ hk0 h) hab (Nat.le_of_ble_eq_true rfl) ?_
            clear h; intro r32 I31 h
            refine r_pop 62 hC dX7_term_62 rfl ?_
            refine r_goto 63 9 hC dX7_term_63 (by decide) ?_
            refine r_weak (ls' := [some (.ref (q0)), none]) (And.intro rfl (trivial)) ?_
            exact h
          · replace h := h.2 hc
            refine r_iconst 55 (v := 0) hC dX7_term_55 (by decide) ?_
            exact r_iret 56 hC hE rfl dX7_term_56 ⟨_, rfl, h⟩
        · replace h := h.2 hc
          refine r_bipush 36 (v := -3) hC dX7_term_36 (by decide) ?_
          refine r_goto 38 43 hC dX7_term_38 (by decide) ?_
          refine r_istore_n 43 [some (.ref (q0)), some (.int (-3))] hC dX7_term_43 rfl (by decide) rfl ?_
          refine r_aload_n 44 hC dX7_term_44 rfl rfl ?_
          refine r_callV_v 45 (n := 0) [] [] hC hk0 rfl dX7_term_45 (by show 2 + 1 ≤ 3 * d + 22; omega) (by show 8 + (2 + 11) + (150) ≤ 120 * d + 2070; omega) tw_1296 tw_135 ⟨by decide, by decide, by decide +kernel⟩ tw_1293 tw_1295 tw_82 rfl rfl (sX7_advance (l := pm_l X) hG (q0) _ _ hk0 h) hab (Nat.le_of_ble_eq_true rfl) ?_
          clear h; intro I33 h
          refine r_aload_n 48 hC dX7_term_48 rfl rfl ?_
          refine r_callV_i 49 (n := 0) [] [] hC hk0 rfl dX7_term_49 (by show 3 * d + 21 + 1 ≤ 3 * d + 22; omega) (by show 8 + (2 + 11) + (120 * d + 2035) ≤ 120 * d + 2070; omega) tw_1366 tw_135 ⟨by decide, by decide, by decide +kernel⟩ tw_1363 tw_1365 tw_96 rfl rfl (sX7_factor (l := pm_l X) hG hS d Rr hR (q0) _ _ hk0 h) hab (Nat.le_of_ble_eq_true rfl) ?_
          clear h; intro r35 I34 h
          refine r_if_ne 52 57 hC dX7_term_52 (by decide) (fun hc => ?_) (fun hc => ?_)
          · replace h := h.1 hc
            refine r_aload_n 57 hC dX7_term_57 rfl rfl ?_
            refine r_iload_n 58 hC dX7_term_58 rfl rfl ?_
            refine r_callV_i 59 (n := 1) [.int (-3)] [] hC hk0 rfl dX7_term_59 (by show 1 + 1 ≤ 3 * d + 22; omega) (by show 8 + (2 + 11) + (64) ≤ 120 * d + 2070; omega) tw_1167 tw_135 ⟨by decide, by decide, by decide +kernel⟩ tw_1164 tw_1166 tw_77 rfl rfl (sX7_emit (l := pm_l X) hG (q0) (-3) _ _ hk0 h) hab (Nat.le_of_ble_eq_true rfl) ?_
            clear h; intro r37 I36 h
            refine r_pop 62 hC dX7_term_62 rfl ?_
            refine r_goto 63 9 hC dX7_term_63 (by decide) ?_
            refine r_weak (ls' := [some (.ref (q0)), none]) (And.intro rfl (trivial)) ?_
            exact h
          · replace h := h.2 hc
            refine r_iconst 55 (v := 0) hC dX7_term_55 (by decide) ?_
            exact r_iret 56 hC hE rfl dX7_term_56 ⟨_, rfl, h⟩
  · replace h := h.2 hc
    refine r_iconst 7 (v := 0) hC dX7_term_7 (by decide) ?_
    exact r_iret 8 hC hE rfl dX7_term_8 ⟨_, rfl, h⟩

def wX7_sumF (Rr : Nat → pm_I → (Int32 → pm_I → Prop) → Prop) (G : pm_G) (q0 : Nat) (I : pm_I) (K : Int32 → pm_I → Prop) : Prop :=
  wX7_term Rr G (q0) I (fun r11 I10 => (¬ r11 = 0 → (pm_lp1 (fun (P12 : pm_I → Prop)  (I13 : pm_I) => wX7_isSignHere G (q0) (43) I13 (fun r15 I14 => (¬ r15 = 0 → ((¬ (I14 q0 15) = 43 → (wX7_advance G (q0) I14 (fun I16 => wX7_term Rr G (q0) I16 (fun r18 I17 => (¬ r18 = 0 → (wX7_emit G (q0) (-2) I17 (fun r20 I19 => P12  I19))) ∧ (r18 = 0 → K 0 I17))))) ∧ ((I14 q0 15) = 43 → (wX7_advance G (q0) I14 (fun I21 => wX7_term Rr G (q0) I21 (fun r23 I22 => (¬ r23 = 0 → (wX7_emit G (q0) (-1) I22 (fun r25 I24 => P12  I24))) ∧ (r23 = 0 → K 0 I22))))))) ∧ (r15 = 0 → (wX7_isSignHere G (q0) (45) I14 (fun r27 I26 => (r27 = 0 → K 1 I26) ∧ (¬ r27 = 0 → ((¬ (I26 q0 15) = 43 → (wX7_advance G (q0) I26 (fun I28 => wX7_term Rr G (q0) I28 (fun r30 I29 => (¬ r30 = 0 → (wX7_emit G (q0) (-2) I29 (fun r32 I31 => P12  I31))) ∧ (r30 = 0 → K 0 I29))))) ∧ ((I26 q0 15) = 43 → (wX7_advance G (q0) I26 (fun I33 => wX7_term Rr G (q0) I33 (fun r35 I34 => (¬ r35 = 0 → (wX7_emit G (q0) (-1) I34 (fun r37 I36 => P12  I36))) ∧ (r35 = 0 → K 0 I34))))))))))))  I10)) ∧ (r11 = 0 → K 0 I10))

set_option maxRecDepth 20000 in
theorem sX7_sumF {G : pm_G} {l : Launch} (hG : pm_ok G) (hS : pm_str G) (d : Nat) (Rr : Nat → pm_I → (Int32 → pm_I → Prop) → Prop) (hR : ∀ (q : Nat) (I : pm_I) (K : Int32 → pm_I → Prop), pm_k G q (.inl 7) → Rr q I K → pm_Ct G l yX7_sum cX7_sum 2 (some .boolean) { frames := 3 * d + 20, cells := 0, slots := 0, locals := 120 * d + 2000 } [.ref q] I (pm_Ki K)) (q0 : Nat) (I : pm_I) (K : Int32 → pm_I → Prop) (hk0 : pm_k G q0 (.inl 7)) (h : wX7_sumF Rr G q0 I K) : pm_Ct G l yX7_sum cX7_sum 2 (some .boolean) { frames := 3 * d + 23, cells := 0, slots := 0, locals := 120 * d + 2120 } [.ref (q0)] I (pm_Ki K) := by
  unfold wX7_sumF at h
  refine pm_enter (by decide +kernel) hG rfl (Nat.le_of_ble_eq_true rfl) rfl (fun X hl hC hE => ?_)
  subst hl
  have hab : 0 ≤ 0 ∧ 0 ≤ 0 := ⟨Nat.le_refl 0, Nat.le_refl 0⟩
  have hC : pm_C G X cX7_sum 2 RX7 (some .boolean) { frames := 3 * d + 23, cells := 0, slots := 0, locals := 120 * d + 2120 } := hC
  refine r_aload_n 0 hC dX7_sum_0 rfl rfl ?_
  refine r_callV_i 1 (n := 0) [] [] hC hk0 rfl dX7_sum_1 (by show 3 * d + 22 + 1 ≤ 3 * d + 23; omega) (by show 8 + (2 + 11) + (120 * d + 2070) ≤ 120 * d + 2120; omega) tw_1362 tw_135 ⟨by decide, by decide, by decide +kernel⟩ tw_1359 tw_1361 tw_95 rfl rfl (sX7_term (l := pm_l X) hG hS d Rr hR (q0) _ _ hk0 h) hab (Nat.le_of_ble_eq_true rfl) ?_
  clear h; intro r11 I10 h
  refine r_if_ne 4 9 hC dX7_sum_4 (by decide) (fun hc => ?_) (fun hc => ?_)
  · replace h := h.1 hc
    refine h (fun  I13 => pm_R G X 2 0 0 9 [some (.ref (q0)), none] [] I13) ?_
    clear h; intro  I13 h
    refine r_aload_n 9 hC dX7_sum_9 rfl rfl ?_
    refine r_bipush 10 (v := 43) hC dX7_sum_10 (by decide) ?_
    refine r_callV_i 12 (n := 1) [.int (43)] [] hC hk0 rfl dX7_sum_12 (by show 1 + 1 ≤ 3 * d + 23; omega) (by show 8 + (2 + 11) + (64) ≤ 120 * d + 2120; omega) tw_1370 tw_135 ⟨by decide, by decide, by decide +kernel⟩ tw_1367 tw_1369 tw_97 rfl rfl (sX7_isSignHere (l := pm_l X) hG (q0) (43) _ _ hk0 h) hab (Nat.le_of_ble_eq_true rfl) ?_
    clear h; intro r15 I14 h
    refine r_if_ne 15 27 hC dX7_sum_15 (by decide) (fun hc => ?_) (fun hc => ?_)
    · replace h := h.1 hc
      refine r_aload_n 27 hC dX7_sum_27 rfl rfl ?_
      refine r_getI7 28 (x := I14 (q0) 15) hC hk0 15 (by decide) tw_1194 rfl rfl dX7_sum_28 ?_
      refine r_bipush 31 (v := 43) hC dX7_sum_31 (by decide) ?_
      refine r_icmp_ne 33 40 hC dX7_sum_33 (by decide) (fun hc => ?_) (fun hc => ?_)
      · replace h := h.1 hc
        refine r_bipush 40 (v := -2) hC dX7_sum_40 (by decide) ?_
        refine r_istore_n 42 [some (.ref (q0)), some (.int (-2))] hC dX7_sum_42 rfl (by decide) rfl ?_
        refine r_aload_n 43 hC dX7_sum_43 rfl rfl ?_
        refine r_callV_v 44 (n := 0) [] [] hC hk0 rfl dX7_sum_44 (by show 2 + 1 ≤ 3 * d + 23; omega) (by show 8 + (2 + 11) + (150) ≤ 120 * d + 2120; omega) tw_1296 tw_135 ⟨by decide, by decide, by decide +kernel⟩ tw_1293 tw_1295 tw_82 rfl rfl (sX7_advance (l := pm_l X) hG (q0) _ _ hk0 h) hab (Nat.le_of_ble_eq_true rfl) ?_
        clear h; intro I16 h
        refine r_aload_n 47 hC dX7_sum_47 rfl rfl ?_
        refine r_callV_i 48 (n := 0) [] [] hC hk0 rfl dX7_sum_48 (by show 3 * d + 22 + 1 ≤ 3 * d + 23; omega) (by show 8 + (2 + 11) + (120 * d + 2070) ≤ 120 * d + 2120; omega) tw_1362 tw_135 ⟨by decide, by decide, by decide +kernel⟩ tw_1359 tw_1361 tw_95 rfl rfl (sX7_term (l := pm_l X) hG hS d Rr hR (q0) _ _ hk0 h) hab (Nat.le_of_ble_eq_true rfl) ?_
        clear h; intro r18 I17 h
        refine r_if_ne 51 56 hC dX7_sum_51 (by decide) (fun hc => ?_) (fun hc => ?_)
        · replace h := h.1 hc
          refine r_aload_n 56 hC dX7_sum_56 rfl rfl ?_
          refine r_iload_n 57 hC dX7_sum_57 rfl rfl ?_
          refine r_callV_i 58 (n := 1) [.int (-2)] [] hC hk0 rfl dX7_sum_58 (by show 1 + 1 ≤ 3 * d + 23; omega) (by show 8 + (2 + 11) + (64) ≤ 120 * d + 2120; omega) tw_1167 tw_135 ⟨by decide, by decide, by decide +kernel⟩ tw_1164 tw_1166 tw_77 rfl rfl (sX7_emit (l := pm_l X) hG (q0) (-2) _ _ hk0 h) hab (Nat.le_of_ble_eq_true rfl) ?_
          clear h; intro r20 I19 h
          refine r_pop 61 hC dX7_sum_61 rfl ?_
          refine r_goto 62 9 hC dX7_sum_62 (by decide) ?_
          refine r_weak (ls' := [some (.ref (q0)), none]) (And.intro rfl (trivial)) ?_
          exact h
        · replace h := h.2 hc
          refine r_iconst 54 (v := 0) hC dX7_sum_54 (by decide) ?_
          exact r_iret 55 hC hE rfl dX7_sum_55 ⟨_, rfl, h⟩
      · replace h := h.2 hc
        refine r_iconst 36 (v := -1) hC dX7_sum_36 (by decide) ?_
        refine r_goto 37 42 hC dX7_sum_37 (by decide) ?_
        refine r_istore_n 42 [some (.ref (q0)), some (.int (-1))] hC dX7_sum_42 rfl (by decide) rfl ?_
        refine r_aload_n 43 hC dX7_sum_43 rfl rfl ?_
        refine r_callV_v 44 (n := 0) [] [] hC hk0 rfl dX7_sum_44 (by show 2 + 1 ≤ 3 * d + 23; omega) (by show 8 + (2 + 11) + (150) ≤ 120 * d + 2120; omega) tw_1296 tw_135 ⟨by decide, by decide, by decide +kernel⟩ tw_1293 tw_1295 tw_82 rfl rfl (sX7_advance (l := pm_l X) hG (q0) _ _ hk0 h) hab (Nat.le_of_ble_eq_true rfl) ?_
        clear h; intro I21 h
        refine r_aload_n 47 hC dX7_sum_47 rfl rfl ?_
        refine r_callV_i 48 (n := 0) [] [] hC hk0 rfl dX7_sum_48 (by show 3 * d + 22 + 1 ≤ 3 * d + 23; omega) (by show 8 + (2 + 11) + (120 * d + 2070) ≤ 120 * d + 2120; omega) tw_1362 tw_135 ⟨by decide, by decide, by decide +kernel⟩ tw_1359 tw_1361 tw_95 rfl rfl (sX7_term (l := pm_l X) hG hS d Rr hR (q0) _ _ hk0 h) hab (Nat.le_of_ble_eq_true rfl) ?_
        clear h; intro r23 I22 h
        refine r_if_ne 51 56 hC dX7_sum_51 (by decide) (fun hc => ?_) (fun hc => ?_)
        · replace h := h.1 hc
          refine r_aload_n 56 hC dX7_sum_56 rfl rfl ?_
          refine r_iload_n 57 hC dX7_sum_57 rfl rfl ?_
          refine r_callV_i 58 (n := 1) [.int (-1)] [] hC hk0 rfl dX7_sum_58 (by show 1 + 1 ≤ 3 * d + 23; omega) (by show 8 + (2 + 11) + (64) ≤ 120 * d + 2120; omega) tw_1167 tw_135 ⟨by decide, by decide, by decide +kernel⟩ tw_1164 tw_1166 tw_77 rfl rfl (sX7_emit (l := pm_l X) hG (q0) (-1) _ _ hk0 h) hab (Nat.le_of_ble_eq_true rfl) ?_
          clear h; intro r25 I24 h
          refine r_pop 61 hC dX7_sum_61 rfl ?_
          refine r_goto 62 9 hC dX7_sum_62 (by decide) ?_
          refine r_weak (ls' := [some (.ref (q0)), none]) (And.intro rfl (trivial)) ?_
          exact h
        · replace h := h.2 hc
          refine r_iconst 54 (v := 0) hC dX7_sum_54 (by decide) ?_
          exact r_iret 55 hC hE rfl dX7_sum_55 ⟨_, rfl, h⟩
    · replace h := h.2 hc
      refine r_aload_n 18 hC dX7_sum_18 rfl rfl ?_
      refine r_bipush 19 (v := 45) hC dX7_sum_19 (by decide) ?_
      refine r_callV_i 21 (n := 1) [.int (45)] [] hC hk0 rfl dX7_sum_21 (by show 1 + 1 ≤ 3 * d + 23; omega) (by show 8 + (2 + 11) + (64) ≤ 120 * d + 2120; omega) tw_1370 tw_135 ⟨by decide, by decide, by decide +kernel⟩ tw_1367 tw_1369 tw_97 rfl rfl (sX7_isSignHere (l := pm_l X) hG (q0) (45) _ _ hk0 h) hab (Nat.le_of_ble_eq_true rfl) ?_
      clear h; intro r27 I26 h
      refine r_if_eq 24 65 hC dX7_sum_24 (by decide) (fun hc => ?_) (fun hc => ?_)
      · replace h := h.1 hc
        refine r_iconst 65 (v := 1) hC dX7_sum_65 (by decide) ?_
        exact r_iret 66 hC hE rfl dX7_sum_66 ⟨_, rfl, h⟩
      · replace h := h.2 hc
        refine r_aload_n 27 hC dX7_sum_27 rfl rfl ?_
        refine r_getI7 28 (x := I26 (q0) 15) hC hk0 15 (by decide) tw_1194 rfl rfl dX7_sum_28 ?_
        refine r_bipush 31 (v := 43) hC dX7_sum_31 (by decide) ?_
        refine r_icmp_ne 33 40 hC dX7_sum_33 (by decide) (fun hc => ?_) (fun hc => ?_)
        · replace h := h.1 hc
          refine r_bipush 40 (v := -2) hC dX7_sum_40 (by decide) ?_
          refine r_istore_n 42 [some (.ref (q0)), some (.int (-2))] hC dX7_sum_42 rfl (by decide) rfl ?_
          refine r_aload_n 43 hC dX7_sum_43 rfl rfl ?_
          refine r_callV_v 44 (n := 0) [] [] hC hk0 rfl dX7_sum_44 (by show 2 + 1 ≤ 3 * d + 23; omega) (by show 8 + (2 + 11) + (150) ≤ 120 * d + 2120; omega) tw_1296 tw_135 ⟨by decide, by decide, by decide +kernel⟩ tw_1293 tw_1295 tw_82 rfl rfl (sX7_advance (l := pm_l X) hG (q0) _ _ hk0 h) hab (Nat.le_of_ble_eq_true rfl) ?_
          clear h; intro I28 h
          refine r_aload_n 47 hC dX7_sum_47 rfl rfl ?_
          refine r_callV_i 48 (n := 0) [] [] hC hk0 rfl dX7_sum_48 (by show 3 * d + 22 + 1 ≤ 3 * d + 23; omega) (by show 8 + (2 + 11) + (120 * d + 2070) ≤ 120 * d + 2120; omega) tw_1362 tw_135 ⟨by decide, by decide, by decide +kernel⟩ tw_1359 tw_1361 tw_95 rfl rfl (sX7_term (l := pm_l X) hG hS d Rr hR (q0) _ _ hk0 h) hab (Nat.le_of_ble_eq_true rfl) ?_
          clear h; intro r30 I29 h
          refine r_if_ne 51 56 hC dX7_sum_51 (by decide) (fun hc => ?_) (fun hc => ?_)
          · replace h := h.1 hc
            refine r_aload_n 56 hC dX7_sum_56 rfl rfl ?_
            refine r_iload_n 57 hC dX7_sum_57 rfl rfl ?_
            refine r_callV_i 58 (n := 1) [.int (-2)] [] hC hk0 rfl dX7_sum_58 (by show 1 + 1 ≤ 3 * d + 23; omega) (by show 8 + (2 + 11) + (64) ≤ 120 * d + 2120; omega) tw_1167 tw_135 ⟨by decide, by decide, by decide +kernel⟩ tw_1164 tw_1166 tw_77 rfl rfl (sX7_emit (l := pm_l X) hG (q0) (-2) _ _ hk0 h) hab (Nat.le_of_ble_eq_true rfl) ?_
            clear h; intro r32 I31 h
            refine r_pop 61 hC dX7_sum_61 rfl ?_
            refine r_goto 62 9 hC dX7_sum_62 (by decide) ?_
            refine r_weak (ls' := [some (.ref (q0)), none]) (And.intro rfl (trivial)) ?_
            exact h
          · replace h := h.2 hc
            refine r_iconst 54 (v := 0) hC dX7_sum_54 (by decide) ?_
            exact r_iret 55 hC hE rfl dX7_sum_55 ⟨_, rfl, h⟩
        · replace h := h.2 hc
          refine r_iconst 36 (v := -1) hC dX7_sum_36 (by decide) ?_
          refine r_goto 37 42 hC dX7_sum_37 (by decide) ?_
          refine r_istore_n 42 [some (.ref (q0)), some (.int (-1))] hC dX7_sum_42 rfl (by decide) rfl ?_
          refine r_aload_n 43 hC dX7_sum_43 rfl rfl ?_
          refine r_callV_v 44 (n := 0) [] [] hC hk0 rfl dX7_sum_44 (by show 2 + 1 ≤ 3 * d + 23; omega) (by show 8 + (2 + 11) + (150) ≤ 120 * d + 2120; omega) tw_1296 tw_135 ⟨by decide, by decide, by decide +kernel⟩ tw_1293 tw_1295 tw_82 rfl rfl (sX7_advance (l := pm_l X) hG (q0) _ _ hk0 h) hab (Nat.le_of_ble_eq_true rfl) ?_
          clear h; intro I33 h
          refine r_aload_n 47 hC dX7_sum_47 rfl rfl ?_
          refine r_callV_i 48 (n := 0) [] [] hC hk0 rfl dX7_sum_48 (by show 3 * d + 22 + 1 ≤ 3 * d + 23; omega) (by show 8 + (2 + 11) + (120 * d + 2070) ≤ 120 * d + 2120; omega) tw_1362 tw_135 ⟨by decide, by decide, by decide +kernel⟩ tw_1359 tw_1361 tw_95 rfl rfl (sX7_term (l := pm_l X) hG hS d Rr hR (q0) _ _ hk0 h) hab (Nat.le_of_ble_eq_true rfl) ?_
          clear h; intro r35 I34 h
          refine r_if_ne 51 56 hC dX7_sum_51 (by decide) (fun hc => ?_) (fun hc => ?_)
          · replace h := h.1 hc
            refine r_aload_n 56 hC dX7_sum_56 rfl rfl ?_
            refine r_iload_n 57 hC dX7_sum_57 rfl rfl ?_
            refine r_callV_i 58 (n := 1) [.int (-1)] [] hC hk0 rfl dX7_sum_58 (by show 1 + 1 ≤ 3 * d + 23; omega) (by show 8 + (2 + 11) + (64) ≤ 120 * d + 2120; omega) tw_1167 tw_135 ⟨by decide, by decide, by decide +kernel⟩ tw_1164 tw_1166 tw_77 rfl rfl (sX7_emit (l := pm_l X) hG (q0) (-1) _ _ hk0 h) hab (Nat.le_of_ble_eq_true rfl) ?_
            clear h; intro r37 I36 h
            refine r_pop 61 hC dX7_sum_61 rfl ?_
            refine r_goto 62 9 hC dX7_sum_62 (by decide) ?_
            refine r_weak (ls' := [some (.ref (q0)), none]) (And.intro rfl (trivial)) ?_
            exact h
          · replace h := h.2 hc
            refine r_iconst 54 (v := 0) hC dX7_sum_54 (by decide) ?_
            exact r_iret 55 hC hE rfl dX7_sum_55 ⟨_, rfl, h⟩
  · replace h := h.2 hc
    refine r_iconst 7 (v := 0) hC dX7_sum_7 (by decide) ?_
    exact r_iret 8 hC hE rfl dX7_sum_8 ⟨_, rfl, h⟩

def wX7_sum : Nat → pm_G → Nat → pm_I → (Int32 → pm_I → Prop) → Prop
  | 0, _ => fun _ _ _ => False
  | d + 1, G => fun q0 I K => wX7_sumF (wX7_sum d G) G q0 I K

theorem sX7_sum {G : pm_G} {l : Launch} (hG : pm_ok G) (hS : pm_str G) : ∀ (d : Nat) (q0 : Nat) (I : pm_I) (K : Int32 → pm_I → Prop) (hk0 : pm_k G q0 (.inl 7)) (h : wX7_sum d G q0 I K), pm_Ct G l yX7_sum cX7_sum 2 (some .boolean) { frames := 3 * d + 20, cells := 0, slots := 0, locals := 120 * d + 2000 } [.ref q0] I (pm_Ki K) := by
  intro d
  induction d with
  | zero => intro q0 I K hk0 h; exact absurd h (by simp [wX7_sum])
  | succ d ih =>
    intro q0 I K hk0 h
    exact sX7_sumF hG hS d (wX7_sum d G) (fun q I K hk h => ih q I K hk h) q0 I K hk0 h

def wX7_statement (G : pm_G) (q0 : Nat) (I : pm_I) (K : Int32 → pm_I → Prop) : Prop :=
  wX7_isWord G (q0) 0 I (fun r11 I10 => (r11 = 0 → (wX7_isWord G (q0) 1 I10 (fun r13 I12 => (r13 = 0 → (wX7_isWord G (q0) 2 I12 (fun r15 I14 => (r15 = 0 → (wX7_isWord G (q0) 4 I14 (fun r17 I16 => (r17 = 0 → (wX7_isWord G (q0) 5 I16 (fun r19 I18 => (r19 = 0 → (wX7_isWord G (q0) 3 I18 (fun r21 I20 => (¬ r21 = 0 → ((∀ I22 : pm_I, I22 = pm_up I20 (q0 + 7) ((1 : Int32).toNatClampNeg) (0) → (∀ I23 : pm_I, I23 = pm_up I22 (q0) 22 (0) → (wX7_once G (q0) (2) I23 (fun r25 I24 => (r25 = 0 → K 0 I24) ∧ (¬ r25 = 0 → (wX7_sum 6 G (q0) I24 (fun r27 I26 => (r27 = 0 → K 0 I26) ∧ (¬ r27 = 0 → K 1 I26)))))))))) ∧ (r21 = 0 → (wX7_fails G (q0) (1) I20 (fun r29 I28 => ((r29) = 0 ∨ (r29) = 1) ∧ K (r29) I28)))))) ∧ (¬ r19 = 0 → (wX7_once G (q0) (1) I18 (fun r31 I30 => (r31 = 0 → K 0 I30) ∧ (¬ r31 = 0 → (wX7_sets G (q0) (3) (1) (99) I30 (fun r33 I32 => (r33 = 0 → K 0 I32) ∧ (¬ r33 = 0 → K 1 I32)))))))))) ∧ (¬ r17 = 0 → (wX7_once G (q0) (0) I16 (fun r35 I34 => (r35 = 0 → K 0 I34) ∧ (¬ r35 = 0 → (wX7_sets G (q0) (1) (1) (20) I34 (fun r37 I36 => (r37 = 0 → K 0 I36) ∧ (¬ r37 = 0 → (wX7_sets G (q0) (2) (1) (9) I36 (fun r39 I38 => (r39 = 0 → K 0 I38) ∧ (¬ r39 = 0 → K 1 I38))))))))))))) ∧ (¬ r15 = 0 → (wX7_takesTwo G (q0) I14 (fun r41 I40 => (¬ r41 = 0 → (vp_in (8 + (I40 q0 20)) 16 ∧ (vp_in (8 + (I40 q0 20)) 16 ∧ (∀ I42 : pm_I, I42 = pm_up I40 (q0 + 6) ((8 + (I40 q0 20)).toNatClampNeg) ((I40 (q0 + 6) (8 + (I40 q0 20)).toNatClampNeg) ||| (1 <<< ((I40 q0 21) &&& 31))) → (vp_in (8 + (I42 q0 21)) 16 ∧ (vp_in (8 + (I42 q0 21)) 16 ∧ (∀ I43 : pm_I, I43 = pm_up I42 (q0 + 6) ((8 + (I42 q0 21)).toNatClampNeg) ((I42 (q0 + 6) (8 + (I42 q0 21)).toNatClampNeg) ||| (1 <<< ((I42 q0 20) &&& 31))) → K 1 I43))))))) ∧ (r41 = 0 → K 0 I40))))))) ∧ (¬ r13 = 0 → (wX7_takesTwo G (q0) I12 (fun r45 I44 => (r45 = 0 → K 0 I44) ∧ (¬ r45 = 0 → (wX7_takes G (q0) (1) (99) I44 (fun r47 I46 => (¬ r47 = 0 → (vp_in ((64 + (8 * (I46 q0 20))) + (I46 q0 21)) 128 ∧ (∀ I48 : pm_I, I48 = pm_up I46 (q0 + 5) (((64 + (8 * (I46 q0 20))) + (I46 q0 21)).toNatClampNeg) (I46 (q0) 18) → (vp_in ((64 + (8 * (I48 q0 21))) + (I48 q0 20)) 128 ∧ (∀ I49 : pm_I, I49 = pm_up I48 (q0 + 5) (((64 + (8 * (I48 q0 21))) + (I48 q0 20)).toNatClampNeg) (I48 (q0) 18) → K 1 I49))))) ∧ (r47 = 0 → K 0 I46)))))))))) ∧ (¬ r11 = 0 → (wX7_peerLine G (q0) I10 (fun r51 I50 => ((r51) = 0 ∨ (r51) = 1) ∧ K (r51) I50))))

set_option maxRecDepth 20000 in
theorem sX7_statement {G : pm_G} {l : Launch} (hG : pm_ok G) (hS : pm_str G) (q0 : Nat) (I : pm_I) (K : Int32 → pm_I → Prop) (hk0 : pm_k G q0 (.inl 7)) (h : wX7_statement G q0 I K) : pm_Ct G l yX7_statement cX7_statement 1 (some .boolean) { frames := 39, cells := 0, slots := 0, locals := 2805 } [.ref (q0)] I (pm_Ki K) := by
  unfold wX7_statement at h
  refine pm_enter (by decide +kernel) hG rfl (Nat.le_of_ble_eq_true rfl) rfl (fun X hl hC hE => ?_)
  subst hl
  have hab : 0 ≤ 0 ∧ 0 ≤ 0 := ⟨Nat.le_refl 0, Nat.le_refl 0⟩
  have hC : pm_C G X cX7_statement 1 RX7 (some .boolean) { frames := 39, cells := 0, slots := 0, locals := 2805 } := hC
  refine r_aload_n 0 hC dX7_statement_0 rfl rfl ?_
  refine r_ldcS 1 (i := 0) (tx := "peer") hS hC (by decide) dX7_statement_1 ?_
  refine r_callV_i 3 (n := 1) [.ref (1000000 + 0)] [] hC hk0 rfl dX7_statement_3 (by decide) (by decide) tw_1312 tw_135 ⟨by decide, by decide, by decide +kernel⟩ tw_1309 tw_1311 tw_85 rfl rfl (sX7_isWord (l := pm_l X) hG hS (q0) 0 _ _ hk0 (by decide) h) hab (Nat.le_of_ble_eq_true rfl) ?_
  clear h; intro r11 I10 h
  refine r_if_eq 6 14 hC dX7_statement_6 (by decide) (fun hc => ?_) (fun hc => ?_)
  · replace h := h.1 hc
    refine r_aload_n 14 hC dX7_statement_14 rfl rfl ?_
    refine r_ldcS 15 (i := 1) (tx := "link") hS hC (by decide) dX7_statement_15 ?_
    refine r_callV_i 17 (n := 1) [.ref (1000000 + 1)] [] hC hk0 rfl dX7_statement_17 (by decide) (by decide) tw_1312 tw_135 ⟨by decide, by decide, by decide +kernel⟩ tw_1309 tw_1311 tw_85 rfl rfl (sX7_isWord (l := pm_l X) hG hS (q0) 1 _ _ hk0 (by decide) h) hab (Nat.le_of_ble_eq_true rfl) ?_
    clear h; intro r13 I12 h
    refine r_if_eq 20 92 hC dX7_statement_20 (by decide) (fun hc => ?_) (fun hc => ?_)
    · replace h := h.1 hc
      refine r_aload_n 92 hC dX7_statement_92 rfl rfl ?_
      refine r_ldcS 93 (i := 2) (tx := "knows") hS hC (by decide) dX7_statement_93 ?_
      refine r_callV_i 95 (n := 1) [.ref (1000000 + 2)] [] hC hk0 rfl dX7_statement_95 (by decide) (by decide) tw_1312 tw_135 ⟨by decide, by decide, by decide +kernel⟩ tw_1309 tw_1311 tw_85 rfl rfl (sX7_isWord (l := pm_l X) hG hS (q0) 2 _ _ hk0 (by decide) h) hab (Nat.le_of_ble_eq_true rfl) ?_
      clear h; intro r15 I14 h
      refine r_if_eq 98 154 hC dX7_statement_98 (by decide) (fun hc => ?_) (fun hc => ?_)
      · replace h := h.1 hc
        refine r_aload_n 154 hC dX7_statement_154 rfl rfl ?_
        refine r_ldcS 155 (i := 4) (tx := "probe") hS hC (by decide) dX7_statement_155 ?_
        refine r_callV_i 157 (n := 1) [.ref (1000000 + 4)] [] hC hk0 rfl dX7_statement_157 (by decide) (by decide) tw_1312 tw_135 ⟨by decide, by decide, by decide +kernel⟩ tw_1309 tw_1311 tw_85 rfl rfl (sX7_isWord (l := pm_l X) hG hS (q0) 4 _ _ hk0 (by decide) h) hab (Nat.le_of_ble_eq_true rfl) ?_
        clear h; intro r17 I16 h
        refine r_if_eq 160 199 hC dX7_statement_160 (by decide) (fun hc => ?_) (fun hc => ?_)
        · replace h := h.1 hc
          refine r_aload_n 199 hC dX7_statement_199 rfl rfl ?_
          refine r_ldcS 200 (i := 5) (tx := "keys") hS hC (by decide) dX7_statement_200 ?_
          refine r_callV_i 202 (n := 1) [.ref (1000000 + 5)] [] hC hk0 rfl dX7_statement_202 (by decide) (by decide) tw_1312 tw_135 ⟨by decide, by decide, by decide +kernel⟩ tw_1309 tw_1311 tw_85 rfl rfl (sX7_isWord (l := pm_l X) hG hS (q0) 5 _ _ hk0 (by decide) h) hab (Nat.le_of_ble_eq_true rfl) ?_
          clear h; intro r19 I18 h
          refine r_if_eq 205 233 hC dX7_statement_205 (by decide) (fun hc => ?_) (fun hc => ?_)
          · replace h := h.1 hc
            refine r_aload_n 233 hC dX7_statement_233 rfl rfl ?_
            refine r_ldcS 234 (i := 3) (tx := "score") hS hC (by decide) dX7_statement_234 ?_
            refine r_callV_i 236 (n := 1) [.ref (1000000 + 3)] [] hC hk0 rfl dX7_statement_236 (by decide) (by decide) tw_1312 tw_135 ⟨by decide, by decide, by decide +kernel⟩ tw_1309 tw_1311 tw_85 rfl rfl (sX7_isWord (l := pm_l X) hG hS (q0) 3 _ _ hk0 (by decide) h) hab (Nat.le_of_ble_eq_true rfl) ?_
            clear h; intro r21 I20 h
            refine r_if_ne 239 248 hC dX7_statement_239 (by decide) (fun hc => ?_) (fun hc => ?_)
            · replace h := h.1 hc
              refine r_aload_n 248 hC dX7_statement_248 rfl rfl ?_
              refine r_getR7 249 (r1 := q0 + 7) hC hk0 7 (by decide) tw_1186 rfl rfl dX7_statement_249 ?_
              refine r_iconst 252 (v := 1) hC dX7_statement_252 (by decide) ?_
              refine r_iconst 253 (v := 0) hC dX7_statement_253 (by decide) ?_
              refine r_iast 254 hC ((pm_s7 hG hk0).2.2.2.2.2.2.1) (by unfold vp_in; decide) dX7_statement_254 (fun I22 hI => ?_)
              replace h := h I22 hI; clear hI
              refine r_aload_n 255 hC dX7_statement_255 rfl rfl ?_
              refine r_iconst 256 (v := 0) hC dX7_statement_256 (by decide) ?_
              refine r_putI7 257 hC hk0 22 (by decide) tw_1201 rfl rfl (by decide +kernel) ps_7_22 dX7_statement_257 (fun I23 hI => ?_)
              replace h := h I23 hI; clear hI
              refine r_aload_n 260 hC dX7_statement_260 rfl rfl ?_
              refine r_iconst 261 (v := 2) hC dX7_statement_261 (by decide) ?_
              refine r_callV_i 262 (n := 1) [.int (2)] [] hC hk0 rfl dX7_statement_262 (by decide) (by decide) tw_1345 tw_135 ⟨by decide, by decide, by decide +kernel⟩ tw_1342 tw_1344 tw_92 rfl rfl (sX7_once (l := pm_l X) hG (q0) (2) _ _ hk0 h) hab (Nat.le_of_ble_eq_true rfl) ?_
              clear h; intro r25 I24 h
              refine r_if_eq 265 279 hC dX7_statement_265 (by decide) (fun hc => ?_) (fun hc => ?_)
              · replace h := h.1 hc
                refine r_iconst 279 (v := 0) hC dX7_statement_279 (by decide) ?_
                exact r_iret 280 hC hE rfl dX7_statement_280 ⟨_, rfl, h⟩
              · replace h := h.2 hc
                refine r_aload_n 268 hC dX7_statement_268 rfl rfl ?_
                refine r_callV_i 269 (n := 0) [] [] hC hk0 rfl dX7_statement_269 (by decide) (by decide) tw_1358 tw_135 ⟨by decide, by decide, by decide +kernel⟩ tw_1355 tw_1357 tw_94 rfl rfl (sX7_sum (l := pm_l X) hG hS 6 (q0) _ _ hk0 h) hab (Nat.le_of_ble_eq_true rfl) ?_
                clear h; intro r27 I26 h
                refine r_if_eq 272 279 hC dX7_statement_272 (by decide) (fun hc => ?_) (fun hc => ?_)
                · replace h := h.1 hc
                  refine r_iconst 279 (v := 0) hC dX7_statement_279 (by decide) ?_
                  exact r_iret 280 hC hE rfl dX7_statement_280 ⟨_, rfl, h⟩
                · replace h := h.2 hc
                  refine r_iconst 275 (v := 1) hC dX7_statement_275 (by decide) ?_
                  refine r_goto 276 280 hC dX7_statement_276 (by decide) ?_
                  exact r_iret 280 hC hE rfl dX7_statement_280 ⟨_, rfl, h⟩
            · replace h := h.2 hc
              refine r_aload_n 242 hC dX7_statement_242 rfl rfl ?_
              refine r_iconst 243 (v := 1) hC dX7_statement_243 (by decide) ?_
              refine r_callV_i 244 (n := 1) [.int (1)] [] hC hk0 rfl dX7_statement_244 (by decide) (by decide) tw_1326 tw_135 ⟨by decide, by decide, by decide +kernel⟩ tw_1323 tw_1325 tw_88 rfl rfl (sX7_fails (l := pm_l X) hG (q0) (1) _ _ hk0 h) hab (Nat.le_of_ble_eq_true rfl) ?_
              clear h; intro r29 I28 h
              exact r_iret 247 hC hE (pm_nz h.1).1 dX7_statement_247 ⟨_, rfl, h.2⟩
          · replace h := h.2 hc
            refine r_aload_n 208 hC dX7_statement_208 rfl rfl ?_
            refine r_iconst 209 (v := 1) hC dX7_statement_209 (by decide) ?_
            refine r_callV_i 210 (n := 1) [.int (1)] [] hC hk0 rfl dX7_statement_210 (by decide) (by decide) tw_1345 tw_135 ⟨by decide, by decide, by decide +kernel⟩ tw_1342 tw_1344 tw_92 rfl rfl (sX7_once (l := pm_l X) hG (q0) (1) _ _ hk0 h) hab (Nat.le_of_ble_eq_true rfl) ?_
            clear h; intro r31 I30 h
            refine r_if_eq 213 231 hC dX7_statement_213 (by decide) (fun hc => ?_) (fun hc => ?_)
            · replace h := h.1 hc
              refine r_iconst 231 (v := 0) hC dX7_statement_231 (by decide) ?_
              exact r_iret 232 hC hE rfl dX7_statement_232 ⟨_, rfl, h⟩
            · replace h := h.2 hc
              refine r_aload_n 216 hC dX7_statement_216 rfl rfl ?_
              refine r_iconst 217 (v := 3) hC dX7_statement_217 (by decide) ?_
              refine r_iconst 218 (v := 1) hC dX7_statement_218 (by decide) ?_
              refine r_bipush 219 (v := 99) hC dX7_statement_219 (by decide) ?_
              refine r_callV_i 221 (n := 3) [.int (3), .int (1), .int (99)] [] hC hk0 rfl dX7_statement_221 (by decide) (by decide) tw_1352 tw_135 ⟨by decide, by decide, by decide +kernel⟩ tw_1349 tw_1351 tw_93 rfl rfl (sX7_sets (l := pm_l X) hG (q0) (3) (1) (99) _ _ hk0 h) hab (Nat.le_of_ble_eq_true rfl) ?_
              clear h; intro r33 I32 h
              refine r_if_eq 224 231 hC dX7_statement_224 (by decide) (fun hc => ?_) (fun hc => ?_)
              · replace h := h.1 hc
                refine r_iconst 231 (v := 0) hC dX7_statement_231 (by decide) ?_
                exact r_iret 232 hC hE rfl dX7_statement_232 ⟨_, rfl, h⟩
              · replace h := h.2 hc
                refine r_iconst 227 (v := 1) hC dX7_statement_227 (by decide) ?_
                refine r_goto 228 232 hC dX7_statement_228 (by decide) ?_
                exact r_iret 232 hC hE rfl dX7_statement_232 ⟨_, rfl, h⟩
        · replace h := h.2 hc
          refine r_aload_n 163 hC dX7_statement_163 rfl rfl ?_
          refine r_iconst 164 (v := 0) hC dX7_statement_164 (by decide) ?_
          refine r_callV_i 165 (n := 1) [.int (0)] [] hC hk0 rfl dX7_statement_165 (by decide) (by decide) tw_1345 tw_135 ⟨by decide, by decide, by decide +kernel⟩ tw_1342 tw_1344 tw_92 rfl rfl (sX7_once (l := pm_l X) hG (q0) (0) _ _ hk0 h) hab (Nat.le_of_ble_eq_true rfl) ?_
          clear h; intro r35 I34 h
          refine r_if_eq 168 197 hC dX7_statement_168 (by decide) (fun hc => ?_) (fun hc => ?_)
          · replace h := h.1 hc
            refine r_iconst 197 (v := 0) hC dX7_statement_197 (by decide) ?_
            exact r_iret 198 hC hE rfl dX7_statement_198 ⟨_, rfl, h⟩
          · replace h := h.2 hc
            refine r_aload_n 171 hC dX7_statement_171 rfl rfl ?_
            refine r_iconst 172 (v := 1) hC dX7_statement_172 (by decide) ?_
            refine r_iconst 173 (v := 1) hC dX7_statement_173 (by decide) ?_
            refine r_bipush 174 (v := 20) hC dX7_statement_174 (by decide) ?_
            refine r_callV_i 176 (n := 3) [.int (1), .int (1), .int (20)] [] hC hk0 rfl dX7_statement_176 (by decide) (by decide) tw_1352 tw_135 ⟨by decide, by decide, by decide +kernel⟩ tw_1349 tw_1351 tw_93 rfl rfl (sX7_sets (l := pm_l X) hG (q0) (1) (1) (20) _ _ hk0 h) hab (Nat.le_of_ble_eq_true rfl) ?_
            clear h; intro r37 I36 h
            refine r_if_eq 179 197 hC dX7_statement_179 (by decide) (fun hc => ?_) (fun hc => ?_)
            · replace h := h.1 hc
              refine r_iconst 197 (v := 0) hC dX7_statement_197 (by decide) ?_
              exact r_iret 198 hC hE rfl dX7_statement_198 ⟨_, rfl, h⟩
            · replace h := h.2 hc
              refine r_aload_n 182 hC dX7_statement_182 rfl rfl ?_
              refine r_iconst 183 (v := 2) hC dX7_statement_183 (by decide) ?_
              refine r_iconst 184 (v := 1) hC dX7_statement_184 (by decide) ?_
              refine r_bipush 185 (v := 9) hC dX7_statement_185 (by decide) ?_
              refine r_callV_i 187 (n := 3) [.int (2), .int (1), .int (9)] [] hC hk0 rfl dX7_statement_187 (by decide) (by decide) tw_1352 tw_135 ⟨by decide, by decide, by decide +kernel⟩ tw_1349 tw_1351 tw_93 rfl rfl (sX7_sets (l := pm_l X) hG (q0) (2) (1) (9) _ _ hk0 h) hab (Nat.le_of_ble_eq_true rfl) ?_
              clear h; intro r39 I38 h
              refine r_if_eq 190 197 hC dX7_statement_190 (by decide) (fun hc => ?_) (fun hc => ?_)
              · replace h := h.1 hc
                refine r_iconst 197 (v := 0) hC dX7_statement_197 (by decide) ?_
                exact r_iret 198 hC hE rfl dX7_statement_198 ⟨_, rfl, h⟩
              · replace h := h.2 hc
                refine r_iconst 193 (v := 1) hC dX7_statement_193 (by decide) ?_
                refine r_goto 194 198 hC dX7_statement_194 (by decide) ?_
                exact r_iret 198 hC hE rfl dX7_statement_198 ⟨_, rfl, h⟩
      · replace h := h.2 hc
        refine r_aload_n 101 hC dX7_statement_101 rfl rfl ?_
        refine r_callV_i 102 (n := 0) [] [] hC hk0 rfl dX7_statement_102 (by decide) (by decide) tw_1339 tw_135 ⟨by decide, by decide, by decide +kernel⟩ tw_1336 tw_1338 tw_91 rfl rfl (sX7_takesTwo (l := pm_l X) hG (q0) _ _ hk0 h) hab (Nat.le_of_ble_eq_true rfl) ?_
        clear h; intro r41 I40 h
        refine r_if_ne 105 110 hC dX7_statement_105 (by decide) (fun hc => ?_) (fun hc => ?_)
        · replace h := h.1 hc
          refine r_aload_n 110 hC dX7_statement_110 rfl rfl ?_
          refine r_getR7 111 (r1 := q0 + 6) hC hk0 6 (by decide) tw_1185 rfl rfl dX7_statement_111 ?_
          refine r_bipush 114 (v := 8) hC dX7_statement_114 (by decide) ?_
          refine r_aload_n 116 hC dX7_statement_116 rfl rfl ?_
          refine r_getI7 117 (x := I40 (q0) 20) hC hk0 20 (by decide) tw_1199 rfl rfl dX7_statement_117 ?_
          refine r_iadd 120 hC dX7_statement_120 ?_
          refine r_dup2 121 hC dX7_statement_121 rfl rfl ?_
          refine r_iald 122 hC ((pm_s7 hG hk0).2.2.2.2.2.1) h.1 dX7_statement_122 ?_
          replace h := h.2
          refine r_iconst 123 (v := 1) hC dX7_statement_123 (by decide) ?_
          refine r_aload_n 124 hC dX7_statement_124 rfl rfl ?_
          refine r_getI7 125 (x := I40 (q0) 21) hC hk0 21 (by decide) tw_1200 rfl rfl dX7_statement_125 ?_
          refine r_ishl 128 hC dX7_statement_128 ?_
          refine r_ior 129 hC dX7_statement_129 ?_
          refine r_iast 130 hC ((pm_s7 hG hk0).2.2.2.2.2.1) h.1 dX7_statement_130 (fun I42 hI => ?_)
          replace h := h.2
          replace h := h I42 hI; clear hI
          refine r_aload_n 131 hC dX7_statement_131 rfl rfl ?_
          refine r_getR7 132 (r1 := q0 + 6) hC hk0 6 (by decide) tw_1185 rfl rfl dX7_statement_132 ?_
          refine r_bipush 135 (v := 8) hC dX7_statement_135 (by decide) ?_
          refine r_aload_n 137 hC dX7_statement_137 rfl rfl ?_
          refine r_getI7 138 (x := I42 (q0) 21) hC hk0 21 (by decide) tw_1200 rfl rfl dX7_statement_138 ?_
          refine r_iadd 141 hC dX7_statement_141 ?_
          refine r_dup2 142 hC dX7_statement_142 rfl rfl ?_
          refine r_iald 143 hC ((pm_s7 hG hk0).2.2.2.2.2.1) h.1 dX7_statement_143 ?_
          replace h := h.2
          refine r_iconst 144 (v := 1) hC dX7_statement_144 (by decide) ?_
          refine r_aload_n 145 hC dX7_statement_145 rfl rfl ?_
          refine r_getI7 146 (x := I42 (q0) 20) hC hk0 20 (by decide) tw_1199 rfl rfl dX7_statement_146 ?_
          refine r_ishl 149 hC dX7_statement_149 ?_
          refine r_ior 150 hC dX7_statement_150 ?_
          refine r_iast 151 hC ((pm_s7 hG hk0).2.2.2.2.2.1) h.1 dX7_statement_151 (fun I43 hI => ?_)
          replace h := h.2
          replace h := h I43 hI; clear hI
          refine r_iconst 152 (v := 1) hC dX7_statement_152 (by decide) ?_
          exact r_iret 153 hC hE rfl dX7_statement_153 ⟨_, rfl, h⟩
        · replace h := h.2 hc
          refine r_iconst 108 (v := 0) hC dX7_statement_108 (by decide) ?_
          exact r_iret 109 hC hE rfl dX7_statement_109 ⟨_, rfl, h⟩
    · replace h := h.2 hc
      refine r_aload_n 23 hC dX7_statement_23 rfl rfl ?_
      refine r_callV_i 24 (n := 0) [] [] hC hk0 rfl dX7_statement_24 (by decide) (by decide) tw_1339 tw_135 ⟨by decide, by decide, by decide +kernel⟩ tw_1336 tw_1338 tw_91 rfl rfl (sX7_takesTwo (l := pm_l X) hG (q0) _ _ hk0 h) hab (Nat.le_of_ble_eq_true rfl) ?_
      clear h; intro r45 I44 h
      refine r_if_eq 27 40 hC dX7_statement_27 (by decide) (fun hc => ?_) (fun hc => ?_)
      · replace h := h.1 hc
        refine r_iconst 40 (v := 0) hC dX7_statement_40 (by decide) ?_
        exact r_iret 41 hC hE rfl dX7_statement_41 ⟨_, rfl, h⟩
      · replace h := h.2 hc
        refine r_aload_n 30 hC dX7_statement_30 rfl rfl ?_
        refine r_iconst 31 (v := 1) hC dX7_statement_31 (by decide) ?_
        refine r_bipush 32 (v := 99) hC dX7_statement_32 (by decide) ?_
        refine r_callV_i 34 (n := 2) [.int (1), .int (99)] [] hC hk0 rfl dX7_statement_34 (by decide) (by decide) tw_1330 tw_135 ⟨by decide, by decide, by decide +kernel⟩ tw_1327 tw_1329 tw_89 rfl rfl (sX7_takes (l := pm_l X) hG (q0) (1) (99) _ _ hk0 h) hab (Nat.le_of_ble_eq_true rfl) ?_
        clear h; intro r47 I46 h
        refine r_if_ne 37 42 hC dX7_statement_37 (by decide) (fun hc => ?_) (fun hc => ?_)
        · replace h := h.1 hc
          refine r_aload_n 42 hC dX7_statement_42 rfl rfl ?_
          refine r_getR7 43 (r1 := q0 + 5) hC hk0 5 (by decide) tw_1184 rfl rfl dX7_statement_43 ?_
          refine r_bipush 46 (v := 64) hC dX7_statement_46 (by decide) ?_
          refine r_bipush 48 (v := 8) hC dX7_statement_48 (by decide) ?_
          refine r_aload_n 50 hC dX7_statement_50 rfl rfl ?_
          refine r_getI7 51 (x := I46 (q0) 20) hC hk0 20 (by decide) tw_1199 rfl rfl dX7_statement_51 ?_
          refine r_imul 54 hC dX7_statement_54 ?_
          refine r_iadd 55 hC dX7_statement_55 ?_
          refine r_aload_n 56 hC dX7_statement_56 rfl rfl ?_
          refine r_getI7 57 (x := I46 (q0) 21) hC hk0 21 (by decide) tw_1200 rfl rfl dX7_statement_57 ?_
          refine r_iadd 60 hC dX7_statement_60 ?_
          refine r_aload_n 61 hC dX7_statement_61 rfl rfl ?_
          refine r_getI7 62 (x := I46 (q0) 18) hC hk0 18 (by decide) tw_1197 rfl rfl dX7_statement_62 ?_
          refine r_iast 65 hC ((pm_s7 hG hk0).2.2.2.2.1) h.1 dX7_statement_65 (fun I48 hI => ?_)
          replace h := h.2
          replace h := h I48 hI; clear hI
          refine r_aload_n 66 hC dX7_statement_66 rfl rfl ?_
          refine r_getR7 67 (r1 := q0 + 5) hC hk0 5 (by decide) tw_1184 rfl rfl dX7_statement_67 ?_
          refine r_bipush 70 (v := 64) hC dX7_statement_70 (by decide) ?_
          refine r_bipush 72 (v := 8) hC dX7_statement_72 (by decide) ?_
          refine r_aload_n 74 hC dX7_statement_74 rfl rfl ?_
          refine r_getI7 75 (x := I48 (q0) 21) hC hk0 21 (by decide) tw_1200 rfl rfl dX7_statement_75 ?_
          refine r_imul 78 hC dX7_statement_78 ?_
          refine r_iadd 79 hC dX7_statement_79 ?_
          refine r_aload_n 80 hC dX7_statement_80 rfl rfl ?_
          refine r_getI7 81 (x := I48 (q0) 20) hC hk0 20 (by decide) tw_1199 rfl rfl dX7_statement_81 ?_
          refine r_iadd 84 hC dX7_statement_84 ?_
          refine r_aload_n 85 hC dX7_statement_85 rfl rfl ?_
          refine r_getI7 86 (x := I48 (q0) 18) hC hk0 18 (by decide) tw_1197 rfl rfl dX7_statement_86 ?_
          refine r_iast 89 hC ((pm_s7 hG hk0).2.2.2.2.1) h.1 dX7_statement_89 (fun I49 hI => ?_)
          replace h := h.2
          replace h := h I49 hI; clear hI
          refine r_iconst 90 (v := 1) hC dX7_statement_90 (by decide) ?_
          exact r_iret 91 hC hE rfl dX7_statement_91 ⟨_, rfl, h⟩
        · replace h := h.2 hc
          refine r_iconst 40 (v := 0) hC dX7_statement_40 (by decide) ?_
          exact r_iret 41 hC hE rfl dX7_statement_41 ⟨_, rfl, h⟩
  · replace h := h.2 hc
    refine r_aload_n 9 hC dX7_statement_9 rfl rfl ?_
    refine r_callV_i 10 (n := 0) [] [] hC hk0 rfl dX7_statement_10 (by decide) (by decide) tw_1318 tw_135 ⟨by decide, by decide, by decide +kernel⟩ tw_1315 tw_1317 tw_86 rfl rfl (sX7_peerLine (l := pm_l X) hG (q0) _ _ hk0 h) hab (Nat.le_of_ble_eq_true rfl) ?_
    clear h; intro r51 I50 h
    exact r_iret 13 hC hE (pm_nz h.1).1 dX7_statement_13 ⟨_, rfl, h.2⟩

def wX7_parse (G : pm_G) (q0 : Nat) (x1 : Int32) (I : pm_I) (K : Int32 → pm_I → Prop) : Prop :=
  ∀ I10 : pm_I, I10 = pm_up I (q0) 0 (0) → (wX7_within G (x1) (0) (I10 (q0) 10) I10 (fun r12 I11 => (¬ r12 = 0 → (wX7_throwsIf G (q0) (0) (1) I11 (fun r14 I13 => (r14 = 0 → (∀ I15 : pm_I, I15 = pm_up I13 (q0) 11 (x1) → (∀ I16 : pm_I, I16 = pm_up I15 (q0) 10 (0) → (∀ I17 : pm_I, I17 = pm_up I16 (q0) 13 (0) → (∀ I18 : pm_I, I18 = pm_up I17 (q0) 16 (0) → (∀ I19 : pm_I, I19 = pm_up I18 (q0) 17 (-1) → (∀ I20 : pm_I, I20 = pm_up I19 (q0) 19 (0) → (wX7_clearDraft G (q0) I20 (fun I21 => wX7_advance G (q0) I21 (fun I22 => pm_lp2 (fun (P23 : Int32 → pm_I → Prop) (x25 : Int32) (I24 : pm_I) => (x25 = 0 → ((¬ x25 = 0 → (wX7_liftsAll G (q0) I24 (fun I26 => wX7_begins G (q0) I26 (fun I27 => K (0) I27)))) ∧ (x25 = 0 → (K (I24 (q0) 16) I24)))) ∧ (¬ x25 = 0 → (((I24 q0 14) = 0 → ((¬ x25 = 0 → (wX7_liftsAll G (q0) I24 (fun I28 => wX7_begins G (q0) I28 (fun I29 => K (0) I29)))) ∧ (x25 = 0 → (K (I24 (q0) 16) I24)))) ∧ (¬ (I24 q0 14) = 0 → (wX7_statement G (q0) I24 (fun r31 I30 => (r31 = 0 → (P23 (0) I30)) ∧ (¬ r31 = 0 → (wX7_closes G (q0) (59) I30 (fun r33 I32 => (r33 = 0 → (P23 (0) I32)) ∧ (¬ r33 = 0 → (P23 (1) I32))))))))))) (1) I22)))))))))) ∧ (¬ r14 = 0 → (K (0) I13))))) ∧ (r12 = 0 → (wX7_throwsIf G (q0) (1) (1) I11 (fun r35 I34 => (r35 = 0 → (∀ I36 : pm_I, I36 = pm_up I34 (q0) 11 (x1) → (∀ I37 : pm_I, I37 = pm_up I36 (q0) 10 (0) → (∀ I38 : pm_I, I38 = pm_up I37 (q0) 13 (0) → (∀ I39 : pm_I, I39 = pm_up I38 (q0) 16 (0) → (∀ I40 : pm_I, I40 = pm_up I39 (q0) 17 (-1) → (∀ I41 : pm_I, I41 = pm_up I40 (q0) 19 (0) → (wX7_clearDraft G (q0) I41 (fun I42 => wX7_advance G (q0) I42 (fun I43 => pm_lp2 (fun (P44 : Int32 → pm_I → Prop) (x46 : Int32) (I45 : pm_I) => (x46 = 0 → ((¬ x46 = 0 → (wX7_liftsAll G (q0) I45 (fun I47 => wX7_begins G (q0) I47 (fun I48 => K (0) I48)))) ∧ (x46 = 0 → (K (I45 (q0) 16) I45)))) ∧ (¬ x46 = 0 → (((I45 q0 14) = 0 → ((¬ x46 = 0 → (wX7_liftsAll G (q0) I45 (fun I49 => wX7_begins G (q0) I49 (fun I50 => K (0) I50)))) ∧ (x46 = 0 → (K (I45 (q0) 16) I45)))) ∧ (¬ (I45 q0 14) = 0 → (wX7_statement G (q0) I45 (fun r52 I51 => (r52 = 0 → (P44 (0) I51)) ∧ (¬ r52 = 0 → (wX7_closes G (q0) (59) I51 (fun r54 I53 => (r54 = 0 → (P44 (0) I53)) ∧ (¬ r54 = 0 → (P44 (1) I53))))))))))) (1) I43)))))))))) ∧ (¬ r35 = 0 → (K (0) I34)))))))

set_option maxRecDepth 20000 in
theorem sX7_parse {G : pm_G} {l : Launch} (hG : pm_ok G) (hS : pm_str G) (q0 : Nat) (x1 : Int32) (I : pm_I) (K : Int32 → pm_I → Prop) (hk0 : pm_k G q0 (.inl 7)) (h : wX7_parse G q0 x1 I K) : pm_Ct G l yX7_parse cX7_parse 3 (some .int) { frames := 40, cells := 0, slots := 0, locals := 2889 } [.ref (q0), .int (x1)] I (pm_Ki K) := by
  unfold wX7_parse at h
  refine pm_enter (by decide +kernel) hG rfl (Nat.le_of_ble_eq_true rfl) rfl (fun X hl hC hE => ?_)
  subst hl
  have hab : 0 ≤ 0 ∧ 0 ≤ 0 := ⟨Nat.le_refl 0, Nat.le_refl 0⟩
  have hC : pm_C G X cX7_parse 3 RX7 (some .int) { frames := 40, cells := 0, slots := 0, locals := 2889 } := hC
  refine r_aload_n 0 hC dX7_parse_0 rfl rfl ?_
  refine r_iconst 1 (v := 0) hC dX7_parse_1 (by decide) ?_
  refine r_putI7 2 hC hk0 0 (by decide) tw_1179 rfl rfl (by decide +kernel) ps_7_0 dX7_parse_2 (fun I10 hI => ?_)
  replace h := h I10 hI; clear hI
  refine r_aload_n 5 hC dX7_parse_5 rfl rfl ?_
  refine r_iload_n 6 hC dX7_parse_6 rfl rfl ?_
  refine r_iconst 7 (v := 0) hC dX7_parse_7 (by decide) ?_
  refine r_aload_n 8 hC dX7_parse_8 rfl rfl ?_
  refine r_getI7 9 (x := I10 (q0) 10) hC hk0 10 (by decide) tw_1189 rfl rfl dX7_parse_9 ?_
  refine r_callS_i 12 (n := 3) [.int (x1), .int (0), .int (I10 (q0) 10)] [.ref (q0)] hC dX7_parse_12 (by decide) (by decide) tw_1288 tw_135 ⟨by decide, by decide, by decide +kernel⟩ tw_1286 tw_1287 rfl rfl (sX7_within (l := pm_l X) hG (x1) (0) (I10 (q0) 10) _ _ h) hab (Nat.le_of_ble_eq_true rfl) ?_
  clear h; intro r12 I11 h
  refine r_if_ne 15 22 hC dX7_parse_15 (by decide) (fun hc => ?_) (fun hc => ?_)
  · replace h := h.1 hc
    refine r_iconst 22 (v := 0) hC dX7_parse_22 (by decide) ?_
    refine r_iconst 23 (v := 1) hC dX7_parse_23 (by decide) ?_
    refine r_callV_i 24 (n := 2) [.int (0), .int (1)] [] hC hk0 rfl dX7_parse_24 (by decide) (by decide) tw_1292 tw_135 ⟨by decide, by decide, by decide +kernel⟩ tw_1289 tw_1291 tw_81 rfl rfl (sX7_throwsIf (l := pm_l X) hG (q0) (0) (1) _ _ hk0 h) hab (Nat.le_of_ble_eq_true rfl) ?_
    clear h; intro r14 I13 h
    refine r_if_eq 27 32 hC dX7_parse_27 (by decide) (fun hc => ?_) (fun hc => ?_)
    · replace h := h.1 hc
      refine r_aload_n 32 hC dX7_parse_32 rfl rfl ?_
      refine r_iload_n 33 hC dX7_parse_33 rfl rfl ?_
      refine r_putI7 34 hC hk0 11 (by decide) tw_1190 rfl rfl (by decide +kernel) ps_7_11 dX7_parse_34 (fun I15 hI => ?_)
      replace h := h I15 hI; clear hI
      refine r_aload_n 37 hC dX7_parse_37 rfl rfl ?_
      refine r_iconst 38 (v := 0) hC dX7_parse_38 (by decide) ?_
      refine r_putI7 39 hC hk0 10 (by decide) tw_1189 rfl rfl (by decide +kernel) ps_7_10 dX7_parse_39 (fun I16 hI => ?_)
      replace h := h I16 hI; clear hI
      refine r_aload_n 42 hC dX7_parse_42 rfl rfl ?_
      refine r_iconst 43 (v := 0) hC dX7_parse_43 (by decide) ?_
      refine r_putI7 44 hC hk0 13 (by decide) tw_1192 rfl rfl (by decide +kernel) ps_7_13 dX7_parse_44 (fun I17 hI => ?_)
      replace h := h I17 hI; clear hI
      refine r_aload_n 47 hC dX7_parse_47 rfl rfl ?_
      refine r_iconst 48 (v := 0) hC dX7_parse_48 (by decide) ?_
      refine r_putI7 49 hC hk0 16 (by decide) tw_1195 rfl rfl (by decide +kernel) ps_7_16 dX7_parse_49 (fun I18 hI => ?_)
      replace h := h I18 hI; clear hI
      refine r_aload_n 52 hC dX7_parse_52 rfl rfl ?_
      refine r_iconst 53 (v := -1) hC dX7_parse_53 (by decide) ?_
      refine r_putI7 54 hC hk0 17 (by decide) tw_1196 rfl rfl (by decide +kernel) ps_7_17 dX7_parse_54 (fun I19 hI => ?_)
      replace h := h I19 hI; clear hI
      refine r_aload_n 57 hC dX7_parse_57 rfl rfl ?_
      refine r_iconst 58 (v := 0) hC dX7_parse_58 (by decide) ?_
      refine r_putI7 59 hC hk0 19 (by decide) tw_1198 rfl rfl (by decide +kernel) ps_7_19 dX7_parse_59 (fun I20 hI => ?_)
      replace h := h I20 hI; clear hI
      refine r_aload_n 62 hC dX7_parse_62 rfl rfl ?_
      refine r_callV_v 63 (n := 0) [] [] hC hk0 rfl dX7_parse_63 (by decide) (by decide) tw_1163 tw_135 ⟨by decide, by decide, by decide +kernel⟩ tw_1160 tw_1162 tw_76 rfl rfl (sX7_clearDraft (l := pm_l X) hG (q0) _ _ hk0 h) hab (Nat.le_of_ble_eq_true rfl) ?_
      clear h; intro I21 h
      refine r_aload_n 66 hC dX7_parse_66 rfl rfl ?_
      refine r_callV_v 67 (n := 0) [] [] hC hk0 rfl dX7_parse_67 (by decide) (by decide) tw_1296 tw_135 ⟨by decide, by decide, by decide +kernel⟩ tw_1293 tw_1295 tw_82 rfl rfl (sX7_advance (l := pm_l X) hG (q0) _ _ hk0 h) hab (Nat.le_of_ble_eq_true rfl) ?_
      clear h; intro I22 h
      refine r_iconst 70 (v := 1) hC dX7_parse_70 (by decide) ?_
      refine r_istore_n 71 [some (.ref (q0)), some (.int (x1)), some (.int (1))] hC dX7_parse_71 rfl (by decide) rfl ?_
      refine r_weak (ls' := [some (.ref (q0)), none, some (.int (1))]) (And.intro rfl (And.intro rfl (trivial))) ?_
      refine h (fun x25 I24 => pm_R G X 3 0 0 72 [some (.ref (q0)), none, some (.int (x25))] [] I24) ?_
      clear h; intro x25 I24 h
      refine r_iload_n 72 hC dX7_parse_72 rfl rfl ?_
      refine r_if_eq 73 108 hC dX7_parse_73 (by decide) (fun hc => ?_) (fun hc => ?_)
      · replace h := h.1 hc
        refine r_iload_n 108 hC dX7_parse_108 rfl rfl ?_
        refine r_if_ne 109 117 hC dX7_parse_109 (by decide) (fun hc => ?_) (fun hc => ?_)
        · replace h := h.1 hc
          refine r_aload_n 117 hC dX7_parse_117 rfl rfl ?_
          refine r_callV_v 118 (n := 0) [] [] hC hk0 rfl dX7_parse_118 (by decide) (by decide) tw_1171 tw_135 ⟨by decide, by decide, by decide +kernel⟩ tw_1168 tw_1170 tw_78 rfl rfl (sX7_liftsAll (l := pm_l X) hG (q0) _ _ hk0 h) hab (Nat.le_of_ble_eq_true rfl) ?_
          clear h; intro I26 h
          refine r_aload_n 121 hC dX7_parse_121 rfl rfl ?_
          refine r_callV_v 122 (n := 0) [] [] hC hk0 rfl dX7_parse_122 (by decide) (by decide) tw_1178 tw_135 ⟨by decide, by decide, by decide +kernel⟩ tw_1175 tw_1177 tw_79 rfl rfl (sX7_begins (l := pm_l X) hG (q0) _ _ hk0 h) hab (Nat.le_of_ble_eq_true rfl) ?_
          clear h; intro I27 h
          refine r_iconst 125 (v := 0) hC dX7_parse_125 (by decide) ?_
          exact r_iret 126 hC hE rfl dX7_parse_126 ⟨_, rfl, h⟩
        · replace h := h.2 hc
          refine r_aload_n 112 hC dX7_parse_112 rfl rfl ?_
          refine r_getI7 113 (x := I24 (q0) 16) hC hk0 16 (by decide) tw_1195 rfl rfl dX7_parse_113 ?_
          exact r_iret 116 hC hE rfl dX7_parse_116 ⟨_, rfl, h⟩
      · replace h := h.2 hc
        refine r_aload_n 76 hC dX7_parse_76 rfl rfl ?_
        refine r_getI7 77 (x := I24 (q0) 14) hC hk0 14 (by decide) tw_1193 rfl rfl dX7_parse_77 ?_
        refine r_if_eq 80 108 hC dX7_parse_80 (by decide) (fun hc => ?_) (fun hc => ?_)
        · replace h := h.1 hc
          refine r_iload_n 108 hC dX7_parse_108 rfl rfl ?_
          refine r_if_ne 109 117 hC dX7_parse_109 (by decide) (fun hc => ?_) (fun hc => ?_)
          · replace h := h.1 hc
            refine r_aload_n 117 hC dX7_parse_117 rfl rfl ?_
            refine r_callV_v 118 (n := 0) [] [] hC hk0 rfl dX7_parse_118 (by decide) (by decide) tw_1171 tw_135 ⟨by decide, by decide, by decide +kernel⟩ tw_1168 tw_1170 tw_78 rfl rfl (sX7_liftsAll (l := pm_l X) hG (q0) _ _ hk0 h) hab (Nat.le_of_ble_eq_true rfl) ?_
            clear h; intro I28 h
            refine r_aload_n 121 hC dX7_parse_121 rfl rfl ?_
            refine r_callV_v 122 (n := 0) [] [] hC hk0 rfl dX7_parse_122 (by decide) (by decide) tw_1178 tw_135 ⟨by decide, by decide, by decide +kernel⟩ tw_1175 tw_1177 tw_79 rfl rfl (sX7_begins (l := pm_l X) hG (q0) _ _ hk0 h) hab (Nat.le_of_ble_eq_true rfl) ?_
            clear h; intro I29 h
            refine r_iconst 125 (v := 0) hC dX7_parse_125 (by decide) ?_
            exact r_iret 126 hC hE rfl dX7_parse_126 ⟨_, rfl, h⟩
          · replace h := h.2 hc
            refine r_aload_n 112 hC dX7_parse_112 rfl rfl ?_
            refine r_getI7 113 (x := I24 (q0) 16) hC hk0 16 (by decide) tw_1195 rfl rfl dX7_parse_113 ?_
            exact r_iret 116 hC hE rfl dX7_parse_116 ⟨_, rfl, h⟩
        · replace h := h.2 hc
          refine r_aload_n 83 hC dX7_parse_83 rfl rfl ?_
          refine r_callV_i 84 (n := 0) [] [] hC hk0 rfl dX7_parse_84 (by decide) (by decide) tw_1307 tw_135 ⟨by decide, by decide, by decide +kernel⟩ tw_1304 tw_1306 tw_84 rfl rfl (sX7_statement (l := pm_l X) hG hS (q0) _ _ hk0 h) hab (Nat.le_of_ble_eq_true rfl) ?_
          clear h; intro r31 I30 h
          refine r_if_eq 87 103 hC dX7_parse_87 (by decide) (fun hc => ?_) (fun hc => ?_)
          · replace h := h.1 hc
            refine r_iconst 103 (v := 0) hC dX7_parse_103 (by decide) ?_
            refine r_istore_n 104 [some (.ref (q0)), none, some (.int (0))] hC dX7_parse_104 rfl (by decide) rfl ?_
            refine r_goto 105 72 hC dX7_parse_105 (by decide) ?_
            exact h
          · replace h := h.2 hc
            refine r_aload_n 90 hC dX7_parse_90 rfl rfl ?_
            refine r_bipush 91 (v := 59) hC dX7_parse_91 (by decide) ?_
            refine r_callV_i 93 (n := 1) [.int (59)] [] hC hk0 rfl dX7_parse_93 (by decide) (by decide) tw_1374 tw_135 ⟨by decide, by decide, by decide +kernel⟩ tw_1371 tw_1373 tw_98 rfl rfl (sX7_closes (l := pm_l X) hG (q0) (59) _ _ hk0 h) hab (Nat.le_of_ble_eq_true rfl) ?_
            clear h; intro r33 I32 h
            refine r_if_eq 96 103 hC dX7_parse_96 (by decide) (fun hc => ?_) (fun hc => ?_)
            · replace h := h.1 hc
              refine r_iconst 103 (v := 0) hC dX7_parse_103 (by decide) ?_
              refine r_istore_n 104 [some (.ref (q0)), none, some (.int (0))] hC dX7_parse_104 rfl (by decide) rfl ?_
              refine r_goto 105 72 hC dX7_parse_105 (by decide) ?_
              exact h
            · replace h := h.2 hc
              refine r_iconst 99 (v := 1) hC dX7_parse_99 (by decide) ?_
              refine r_goto 100 104 hC dX7_parse_100 (by decide) ?_
              refine r_istore_n 104 [some (.ref (q0)), none, some (.int (1))] hC dX7_parse_104 rfl (by decide) rfl ?_
              refine r_goto 105 72 hC dX7_parse_105 (by decide) ?_
              exact h
    · replace h := h.2 hc
      refine r_iconst 30 (v := 0) hC dX7_parse_30 (by decide) ?_
      exact r_iret 31 hC hE rfl dX7_parse_31 ⟨_, rfl, h⟩
  · replace h := h.2 hc
    refine r_iconst 18 (v := 1) hC dX7_parse_18 (by decide) ?_
    refine r_goto 19 23 hC dX7_parse_19 (by decide) ?_
    refine r_iconst 23 (v := 1) hC dX7_parse_23 (by decide) ?_
    refine r_callV_i 24 (n := 2) [.int (1), .int (1)] [] hC hk0 rfl dX7_parse_24 (by decide) (by decide) tw_1292 tw_135 ⟨by decide, by decide, by decide +kernel⟩ tw_1289 tw_1291 tw_81 rfl rfl (sX7_throwsIf (l := pm_l X) hG (q0) (1) (1) _ _ hk0 h) hab (Nat.le_of_ble_eq_true rfl) ?_
    clear h; intro r35 I34 h
    refine r_if_eq 27 32 hC dX7_parse_27 (by decide) (fun hc => ?_) (fun hc => ?_)
    · replace h := h.1 hc
      refine r_aload_n 32 hC dX7_parse_32 rfl rfl ?_
      refine r_iload_n 33 hC dX7_parse_33 rfl rfl ?_
      refine r_putI7 34 hC hk0 11 (by decide) tw_1190 rfl rfl (by decide +kernel) ps_7_11 dX7_parse_34 (fun I36 hI => ?_)
      replace h := h I36 hI; clear hI
      refine r_aload_n 37 hC dX7_parse_37 rfl rfl ?_
      refine r_iconst 38 (v := 0) hC dX7_parse_38 (by decide) ?_
      refine r_putI7 39 hC hk0 10 (by decide) tw_1189 rfl rfl (by decide +kernel) ps_7_10 dX7_parse_39 (fun I37 hI => ?_)
      replace h := h I37 hI; clear hI
      refine r_aload_n 42 hC dX7_parse_42 rfl rfl ?_
      refine r_iconst 43 (v := 0) hC dX7_parse_43 (by decide) ?_
      refine r_putI7 44 hC hk0 13 (by decide) tw_1192 rfl rfl (by decide +kernel) ps_7_13 dX7_parse_44 (fun I38 hI => ?_)
      replace h := h I38 hI; clear hI
      refine r_aload_n 47 hC dX7_parse_47 rfl rfl ?_
      refine r_iconst 48 (v := 0) hC dX7_parse_48 (by decide) ?_
      refine r_putI7 49 hC hk0 16 (by decide) tw_1195 rfl rfl (by decide +kernel) ps_7_16 dX7_parse_49 (fun I39 hI => ?_)
      replace h := h I39 hI; clear hI
      refine r_aload_n 52 hC dX7_parse_52 rfl rfl ?_
      refine r_iconst 53 (v := -1) hC dX7_parse_53 (by decide) ?_
      refine r_putI7 54 hC hk0 17 (by decide) tw_1196 rfl rfl (by decide +kernel) ps_7_17 dX7_parse_54 (fun I40 hI => ?_)
      replace h := h I40 hI; clear hI
      refine r_aload_n 57 hC dX7_parse_57 rfl rfl ?_
      refine r_iconst 58 (v := 0) hC dX7_parse_58 (by decide) ?_
      refine r_putI7 59 hC hk0 19 (by decide) tw_1198 rfl rfl (by decide +kernel) ps_7_19 dX7_parse_59 (fun I41 hI => ?_)
      replace h := h I41 hI; clear hI
      refine r_aload_n 62 hC dX7_parse_62 rfl rfl ?_
      refine r_callV_v 63 (n := 0) [] [] hC hk0 rfl dX7_parse_63 (by decide) (by decide) tw_1163 tw_135 ⟨by decide, by decide, by decide +kernel⟩ tw_1160 tw_1162 tw_76 rfl rfl (sX7_clearDraft (l := pm_l X) hG (q0) _ _ hk0 h) hab (Nat.le_of_ble_eq_true rfl) ?_
      clear h; intro I42 h
      refine r_aload_n 66 hC dX7_parse_66 rfl rfl ?_
      refine r_callV_v 67 (n := 0) [] [] hC hk0 rfl dX7_parse_67 (by decide) (by decide) tw_1296 tw_135 ⟨by decide, by decide, by decide +kernel⟩ tw_1293 tw_1295 tw_82 rfl rfl (sX7_advance (l := pm_l X) hG (q0) _ _ hk0 h) hab (Nat.le_of_ble_eq_true rfl) ?_
      clear h; intro I43 h
      refine r_iconst 70 (v := 1) hC dX7_parse_70 (by decide) ?_
      refine r_istore_n 71 [some (.ref (q0)), some (.int (x1)), some (.int (1))] hC dX7_parse_71 rfl (by decide) rfl ?_
      refine r_weak (ls' := [some (.ref (q0)), none, some (.int (1))]) (And.intro rfl (And.intro rfl (trivial))) ?_
      refine h (fun x46 I45 => pm_R G X 3 0 0 72 [some (.ref (q0)), none, some (.int (x46))] [] I45) ?_
      clear h; intro x46 I45 h
      refine r_iload_n 72 hC dX7_parse_72 rfl rfl ?_
      refine r_if_eq 73 108 hC dX7_parse_73 (by decide) (fun hc => ?_) (fun hc => ?_)
      · replace h := h.1 hc
        refine r_iload_n 108 hC dX7_parse_108 rfl rfl ?_
        refine r_if_ne 109 117 hC dX7_parse_109 (by decide) (fun hc => ?_) (fun hc => ?_)
        · replace h := h.1 hc
          refine r_aload_n 117 hC dX7_parse_117 rfl rfl ?_
          refine r_callV_v 118 (n := 0) [] [] hC hk0 rfl dX7_parse_118 (by decide) (by decide) tw_1171 tw_135 ⟨by decide, by decide, by decide +kernel⟩ tw_1168 tw_1170 tw_78 rfl rfl (sX7_liftsAll (l := pm_l X) hG (q0) _ _ hk0 h) hab (Nat.le_of_ble_eq_true rfl) ?_
          clear h; intro I47 h
          refine r_aload_n 121 hC dX7_parse_121 rfl rfl ?_
          refine r_callV_v 122 (n := 0) [] [] hC hk0 rfl dX7_parse_122 (by decide) (by decide) tw_1178 tw_135 ⟨by decide, by decide, by decide +kernel⟩ tw_1175 tw_1177 tw_79 rfl rfl (sX7_begins (l := pm_l X) hG (q0) _ _ hk0 h) hab (Nat.le_of_ble_eq_true rfl) ?_
          clear h; intro I48 h
          refine r_iconst 125 (v := 0) hC dX7_parse_125 (by decide) ?_
          exact r_iret 126 hC hE rfl dX7_parse_126 ⟨_, rfl, h⟩
        · replace h := h.2 hc
          refine r_aload_n 112 hC dX7_parse_112 rfl rfl ?_
          refine r_getI7 113 (x := I45 (q0) 16) hC hk0 16 (by decide) tw_1195 rfl rfl dX7_parse_113 ?_
          exact r_iret 116 hC hE rfl dX7_parse_116 ⟨_, rfl, h⟩
      · replace h := h.2 hc
        refine r_aload_n 76 hC dX7_parse_76 rfl rfl ?_
        refine r_getI7 77 (x := I45 (q0) 14) hC hk0 14 (by decide) tw_1193 rfl rfl dX7_parse_77 ?_
        refine r_if_eq 80 108 hC dX7_parse_80 (by decide) (fun hc => ?_) (fun hc => ?_)
        · replace h := h.1 hc
          refine r_iload_n 108 hC dX7_parse_108 rfl rfl ?_
          refine r_if_ne 109 117 hC dX7_parse_109 (by decide) (fun hc => ?_) (fun hc => ?_)
          · replace h := h.1 hc
            refine r_aload_n 117 hC dX7_parse_117 rfl rfl ?_
            refine r_callV_v 118 (n := 0) [] [] hC hk0 rfl dX7_parse_118 (by decide) (by decide) tw_1171 tw_135 ⟨by decide, by decide, by decide +kernel⟩ tw_1168 tw_1170 tw_78 rfl rfl (sX7_liftsAll (l := pm_l X) hG (q0) _ _ hk0 h) hab (Nat.le_of_ble_eq_true rfl) ?_
            clear h; intro I49 h
            refine r_aload_n 121 hC dX7_parse_121 rfl rfl ?_
            refine r_callV_v 122 (n := 0) [] [] hC hk0 rfl dX7_parse_122 (by decide) (by decide) tw_1178 tw_135 ⟨by decide, by decide, by decide +kernel⟩ tw_1175 tw_1177 tw_79 rfl rfl (sX7_begins (l := pm_l X) hG (q0) _ _ hk0 h) hab (Nat.le_of_ble_eq_true rfl) ?_
            clear h; intro I50 h
            refine r_iconst 125 (v := 0) hC dX7_parse_125 (by decide) ?_
            exact r_iret 126 hC hE rfl dX7_parse_126 ⟨_, rfl, h⟩
          · replace h := h.2 hc
            refine r_aload_n 112 hC dX7_parse_112 rfl rfl ?_
            refine r_getI7 113 (x := I45 (q0) 16) hC hk0 16 (by decide) tw_1195 rfl rfl dX7_parse_113 ?_
            exact r_iret 116 hC hE rfl dX7_parse_116 ⟨_, rfl, h⟩
        · replace h := h.2 hc
          refine r_aload_n 83 hC dX7_parse_83 rfl rfl ?_
          refine r_callV_i 84 (n := 0) [] [] hC hk0 rfl dX7_parse_84 (by decide) (by decide) tw_1307 tw_135 ⟨by decide, by decide, by decide +kernel⟩ tw_1304 tw_1306 tw_84 rfl rfl (sX7_statement (l := pm_l X) hG hS (q0) _ _ hk0 h) hab (Nat.le_of_ble_eq_true rfl) ?_
          clear h; intro r52 I51 h
          refine r_if_eq 87 103 hC dX7_parse_87 (by decide) (fun hc => ?_) (fun hc => ?_)
          · replace h := h.1 hc
            refine r_iconst 103 (v := 0) hC dX7_parse_103 (by decide) ?_
            refine r_istore_n 104 [some (.ref (q0)), none, some (.int (0))] hC dX7_parse_104 rfl (by decide) rfl ?_
            refine r_goto 105 72 hC dX7_parse_105 (by decide) ?_
            exact h
          · replace h := h.2 hc
            refine r_aload_n 90 hC dX7_parse_90 rfl rfl ?_
            refine r_bipush 91 (v := 59) hC dX7_parse_91 (by decide) ?_
            refine r_callV_i 93 (n := 1) [.int (59)] [] hC hk0 rfl dX7_parse_93 (by decide) (by decide) tw_1374 tw_135 ⟨by decide, by decide, by decide +kernel⟩ tw_1371 tw_1373 tw_98 rfl rfl (sX7_closes (l := pm_l X) hG (q0) (59) _ _ hk0 h) hab (Nat.le_of_ble_eq_true rfl) ?_
            clear h; intro r54 I53 h
            refine r_if_eq 96 103 hC dX7_parse_96 (by decide) (fun hc => ?_) (fun hc => ?_)
            · replace h := h.1 hc
              refine r_iconst 103 (v := 0) hC dX7_parse_103 (by decide) ?_
              refine r_istore_n 104 [some (.ref (q0)), none, some (.int (0))] hC dX7_parse_104 rfl (by decide) rfl ?_
              refine r_goto 105 72 hC dX7_parse_105 (by decide) ?_
              exact h
            · replace h := h.2 hc
              refine r_iconst 99 (v := 1) hC dX7_parse_99 (by decide) ?_
              refine r_goto 100 104 hC dX7_parse_100 (by decide) ?_
              refine r_istore_n 104 [some (.ref (q0)), none, some (.int (1))] hC dX7_parse_104 rfl (by decide) rfl ?_
              refine r_goto 105 72 hC dX7_parse_105 (by decide) ?_
              exact h
    · replace h := h.2 hc
      refine r_iconst 30 (v := 0) hC dX7_parse_30 (by decide) ?_
      exact r_iret 31 hC hE rfl dX7_parse_31 ⟨_, rfl, h⟩
