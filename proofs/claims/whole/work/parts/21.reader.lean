def wX2_fail (G : pm_G) (q0 : Nat) (x1 : Int32) (I : pm_I) (K : pm_I → Prop) : Prop :=
  (¬ (I q0 8) = 0 → (∀ I10 : pm_I, I10 = pm_up I (q0) 5 (0) → K I10)) ∧ ((I q0 8) = 0 → (∀ I11 : pm_I, I11 = pm_up I (q0) 8 (x1) → (∀ I12 : pm_I, I12 = pm_up I11 (q0) 9 (I11 (q0) 4) → (∀ I13 : pm_I, I13 = pm_up I12 (q0) 5 (0) → K I13))))

set_option maxRecDepth 20000 in
theorem sX2_fail {G : pm_G} {l : Launch} (hG : pm_ok G) (q0 : Nat) (x1 : Int32) (I : pm_I) (K : pm_I → Prop) (hk0 : pm_k G q0 (.inl 2)) (h : wX2_fail G q0 x1 I K) : pm_Ct G l yX2_fail cX2_fail 2 none { frames := 1, cells := 0, slots := 0, locals := 64 } [.ref (q0), .int (x1)] I (pm_Kv K) := by
  unfold wX2_fail at h
  refine pm_enter (by decide +kernel) hG rfl (Nat.le_of_ble_eq_true rfl) rfl (fun X hl hC hE => ?_)
  subst hl
  have hab : 0 ≤ 0 ∧ 0 ≤ 0 := ⟨Nat.le_refl 0, Nat.le_refl 0⟩
  have hC : pm_C G X cX2_fail 2 RX2 none { frames := 1, cells := 0, slots := 0, locals := 64 } := hC
  refine r_aload_n 0 hC dX2_fail_0 rfl rfl ?_
  refine r_getI2 1 (x := I (q0) 8) hC hk0 8 (by decide) tw_527 rfl rfl dX2_fail_1 ?_
  refine r_if_ne 4 20 hC dX2_fail_4 (by decide) (fun hc => ?_) (fun hc => ?_)
  · replace h := h.1 hc
    refine r_aload_n 20 hC dX2_fail_20 rfl rfl ?_
    refine r_iconst 21 (v := 0) hC dX2_fail_21 (by decide) ?_
    refine r_putI2 22 hC hk0 5 (by decide) tw_524 rfl rfl (by decide +kernel) ps_2_5 dX2_fail_22 (fun I10 hI => ?_)
    replace h := h I10 hI; clear hI
    exact r_vret 25 hC hE dX2_fail_25 ⟨rfl, h⟩
  · replace h := h.2 hc
    refine r_aload_n 7 hC dX2_fail_7 rfl rfl ?_
    refine r_iload_n 8 hC dX2_fail_8 rfl rfl ?_
    refine r_putI2 9 hC hk0 8 (by decide) tw_527 rfl rfl (by decide +kernel) ps_2_8 dX2_fail_9 (fun I11 hI => ?_)
    replace h := h I11 hI; clear hI
    refine r_aload_n 12 hC dX2_fail_12 rfl rfl ?_
    refine r_aload_n 13 hC dX2_fail_13 rfl rfl ?_
    refine r_getI2 14 (x := I11 (q0) 4) hC hk0 4 (by decide) tw_523 rfl rfl dX2_fail_14 ?_
    refine r_putI2 17 hC hk0 9 (by decide) tw_528 rfl rfl (by decide +kernel) ps_2_9 dX2_fail_17 (fun I12 hI => ?_)
    replace h := h I12 hI; clear hI
    refine r_aload_n 20 hC dX2_fail_20 rfl rfl ?_
    refine r_iconst 21 (v := 0) hC dX2_fail_21 (by decide) ?_
    refine r_putI2 22 hC hk0 5 (by decide) tw_524 rfl rfl (by decide +kernel) ps_2_5 dX2_fail_22 (fun I13 hI => ?_)
    replace h := h I13 hI; clear hI
    exact r_vret 25 hC hE dX2_fail_25 ⟨rfl, h⟩

def wX2_require (G : pm_G) (q0 : Nat) (x1 : Int32) (I : pm_I) (K : pm_I → Prop) : Prop :=
  ((I q0 5) = x1 → K I) ∧ (¬ (I q0 5) = x1 → (wX2_fail G (q0) (1) I (fun I10 => K I10)))

set_option maxRecDepth 20000 in
theorem sX2_require {G : pm_G} {l : Launch} (hG : pm_ok G) (q0 : Nat) (x1 : Int32) (I : pm_I) (K : pm_I → Prop) (hk0 : pm_k G q0 (.inl 2)) (h : wX2_require G q0 x1 I K) : pm_Ct G l yX2_require cX2_require 2 none { frames := 2, cells := 0, slots := 0, locals := 149 } [.ref (q0), .int (x1)] I (pm_Kv K) := by
  unfold wX2_require at h
  refine pm_enter (by decide +kernel) hG rfl (Nat.le_of_ble_eq_true rfl) rfl (fun X hl hC hE => ?_)
  subst hl
  have hab : 0 ≤ 0 ∧ 0 ≤ 0 := ⟨Nat.le_refl 0, Nat.le_refl 0⟩
  have hC : pm_C G X cX2_require 2 RX2 none { frames := 2, cells := 0, slots := 0, locals := 149 } := hC
  refine r_aload_n 0 hC dX2_require_0 rfl rfl ?_
  refine r_getI2 1 (x := I (q0) 5) hC hk0 5 (by decide) tw_524 rfl rfl dX2_require_1 ?_
  refine r_iload_n 4 hC dX2_require_4 rfl rfl ?_
  refine r_icmp_eq 5 13 hC dX2_require_5 (by decide) (fun hc => ?_) (fun hc => ?_)
  · replace h := h.1 hc
    exact r_vret 13 hC hE dX2_require_13 ⟨rfl, h⟩
  · replace h := h.2 hc
    refine r_aload_n 8 hC dX2_require_8 rfl rfl ?_
    refine r_iconst 9 (v := 1) hC dX2_require_9 (by decide) ?_
    refine r_callV_v 10 (n := 1) [.int (1)] [] hC hk0 rfl dX2_require_10 (by decide) (by decide) tw_636 tw_140 ⟨by decide, by decide, by decide +kernel⟩ tw_633 tw_635 tw_17 rfl rfl (sX2_fail (l := pm_l X) hG (q0) (1) _ _ hk0 h) hab (Nat.le_of_ble_eq_true rfl) ?_
    clear h; intro I10 h
    exact r_vret 13 hC hE dX2_require_13 ⟨rfl, h⟩

def wX2_takeWord (G : pm_G) (q0 : Nat) (I : pm_I) (K : pm_I → Prop) : Prop :=
  pm_lp1 (fun (P10 : pm_I → Prop)  (I11 : pm_I) => ((I11 q0 1) ≤ (I11 q0 3) → ((8 < ((I11 q0 3) - (I11 q0 4)) → (∀ I12 : pm_I, I12 = pm_up I11 (q0) 5 (3) → K I12)) ∧ (¬ 8 < ((I11 q0 3) - (I11 q0 4)) → (∀ I13 : pm_I, I13 = pm_up I11 (q0) 5 (1) → K I13)))) ∧ (¬ (I11 q0 1) ≤ (I11 q0 3) → (vp_in (I11 (q0) 3) 600 ∧ (((I11 2 (I11 q0 3).toNatClampNeg) < 97 → ((8 < ((I11 q0 3) - (I11 q0 4)) → (∀ I14 : pm_I, I14 = pm_up I11 (q0) 5 (3) → K I14)) ∧ (¬ 8 < ((I11 q0 3) - (I11 q0 4)) → (∀ I15 : pm_I, I15 = pm_up I11 (q0) 5 (1) → K I15)))) ∧ (¬ (I11 2 (I11 q0 3).toNatClampNeg) < 97 → (vp_in (I11 (q0) 3) 600 ∧ ((122 < (I11 2 (I11 q0 3).toNatClampNeg) → ((8 < ((I11 q0 3) - (I11 q0 4)) → (∀ I16 : pm_I, I16 = pm_up I11 (q0) 5 (3) → K I16)) ∧ (¬ 8 < ((I11 q0 3) - (I11 q0 4)) → (∀ I17 : pm_I, I17 = pm_up I11 (q0) 5 (1) → K I17)))) ∧ (¬ 122 < (I11 2 (I11 q0 3).toNatClampNeg) → (∀ I18 : pm_I, I18 = pm_up I11 (q0) 3 ((I11 q0 3) + 1) → P10  I18)))))))))  I

set_option maxRecDepth 20000 in
theorem sX2_takeWord {G : pm_G} {l : Launch} (hG : pm_ok G) (q0 : Nat) (I : pm_I) (K : pm_I → Prop) (hk0 : pm_k G q0 (.inl 2)) (h : wX2_takeWord G q0 I K) : pm_Ct G l yX2_takeWord cX2_takeWord 1 none { frames := 1, cells := 0, slots := 0, locals := 64 } [.ref (q0)] I (pm_Kv K) := by
  unfold wX2_takeWord at h
  refine pm_enter (by decide +kernel) hG rfl (Nat.le_of_ble_eq_true rfl) rfl (fun X hl hC hE => ?_)
  subst hl
  have hab : 0 ≤ 0 ∧ 0 ≤ 0 := ⟨Nat.le_refl 0, Nat.le_refl 0⟩
  have hC : pm_C G X cX2_takeWord 1 RX2 none { frames := 1, cells := 0, slots := 0, locals := 64 } := hC
  refine h (fun  I11 => pm_R G X 1 0 0 0 [some (.ref (q0))] [] I11) ?_
  clear h; intro  I11 h
  refine r_aload_n 0 hC dX2_takeWord_0 rfl rfl ?_
  refine r_getI2 1 (x := I11 (q0) 3) hC hk0 3 (by decide) tw_522 rfl rfl dX2_takeWord_1 ?_
  refine r_aload_n 4 hC dX2_takeWord_4 rfl rfl ?_
  refine r_getI2 5 (x := I11 (q0) 1) hC hk0 1 (by decide) tw_520 rfl rfl dX2_takeWord_5 ?_
  refine r_icmp_ge 8 52 hC dX2_takeWord_8 (by decide) (fun hc => ?_) (fun hc => ?_)
  · replace h := h.1 hc
    refine r_aload_n 52 hC dX2_takeWord_52 rfl rfl ?_
    refine r_aload_n 53 hC dX2_takeWord_53 rfl rfl ?_
    refine r_getI2 54 (x := I11 (q0) 3) hC hk0 3 (by decide) tw_522 rfl rfl dX2_takeWord_54 ?_
    refine r_aload_n 57 hC dX2_takeWord_57 rfl rfl ?_
    refine r_getI2 58 (x := I11 (q0) 4) hC hk0 4 (by decide) tw_523 rfl rfl dX2_takeWord_58 ?_
    refine r_isub 61 hC dX2_takeWord_61 ?_
    refine r_bipush 62 (v := 8) hC dX2_takeWord_62 (by decide) ?_
    refine r_icmp_gt 64 71 hC dX2_takeWord_64 (by decide) (fun hc => ?_) (fun hc => ?_)
    · replace h := h.1 hc
      refine r_iconst 71 (v := 3) hC dX2_takeWord_71 (by decide) ?_
      refine r_putI2 72 hC hk0 5 (by decide) tw_524 rfl rfl (by decide +kernel) ps_2_5 dX2_takeWord_72 (fun I12 hI => ?_)
      replace h := h I12 hI; clear hI
      exact r_vret 75 hC hE dX2_takeWord_75 ⟨rfl, h⟩
    · replace h := h.2 hc
      refine r_iconst 67 (v := 1) hC dX2_takeWord_67 (by decide) ?_
      refine r_goto 68 72 hC dX2_takeWord_68 (by decide) ?_
      refine r_putI2 72 hC hk0 5 (by decide) tw_524 rfl rfl (by decide +kernel) ps_2_5 dX2_takeWord_72 (fun I13 hI => ?_)
      replace h := h I13 hI; clear hI
      exact r_vret 75 hC hE dX2_takeWord_75 ⟨rfl, h⟩
  · replace h := h.2 hc
    refine r_aload_n 11 hC dX2_takeWord_11 rfl rfl ?_
    refine r_getR2 12 (r1 := 2) hC hk0 0 (by decide) tw_519 rfl rfl dX2_takeWord_12 ?_
    refine r_aload_n 15 hC dX2_takeWord_15 rfl rfl ?_
    refine r_getI2 16 (x := I11 (q0) 3) hC hk0 3 (by decide) tw_522 rfl rfl dX2_takeWord_16 ?_
    refine r_bald 19 hC ((pm_s2 hG hk0)) h.1 dX2_takeWord_19 ?_
    replace h := h.2
    refine r_bipush 20 (v := 97) hC dX2_takeWord_20 (by decide) ?_
    refine r_icmp_lt 22 52 hC dX2_takeWord_22 (by decide) (fun hc => ?_) (fun hc => ?_)
    · replace h := h.1 hc
      refine r_aload_n 52 hC dX2_takeWord_52 rfl rfl ?_
      refine r_aload_n 53 hC dX2_takeWord_53 rfl rfl ?_
      refine r_getI2 54 (x := I11 (q0) 3) hC hk0 3 (by decide) tw_522 rfl rfl dX2_takeWord_54 ?_
      refine r_aload_n 57 hC dX2_takeWord_57 rfl rfl ?_
      refine r_getI2 58 (x := I11 (q0) 4) hC hk0 4 (by decide) tw_523 rfl rfl dX2_takeWord_58 ?_
      refine r_isub 61 hC dX2_takeWord_61 ?_
      refine r_bipush 62 (v := 8) hC dX2_takeWord_62 (by decide) ?_
      refine r_icmp_gt 64 71 hC dX2_takeWord_64 (by decide) (fun hc => ?_) (fun hc => ?_)
      · replace h := h.1 hc
        refine r_iconst 71 (v := 3) hC dX2_takeWord_71 (by decide) ?_
        refine r_putI2 72 hC hk0 5 (by decide) tw_524 rfl rfl (by decide +kernel) ps_2_5 dX2_takeWord_72 (fun I14 hI => ?_)
        replace h := h I14 hI; clear hI
        exact r_vret 75 hC hE dX2_takeWord_75 ⟨rfl, h⟩
      · replace h := h.2 hc
        refine r_iconst 67 (v := 1) hC dX2_takeWord_67 (by decide) ?_
        refine r_goto 68 72 hC dX2_takeWord_68 (by decide) ?_
        refine r_putI2 72 hC hk0 5 (by decide) tw_524 rfl rfl (by decide +kernel) ps_2_5 dX2_takeWord_72 (fun I15 hI => ?_)
        replace h := h I15 hI; clear hI
        exact r_vret 75 hC hE dX2_takeWord_75 ⟨rfl, h⟩
    · replace h := h.2 hc
      refine r_aload_n 25 hC dX2_takeWord_25 rfl rfl ?_
      refine r_getR2 26 (r1 := 2) hC hk0 0 (by decide) tw_519 rfl rfl dX2_takeWord_26 ?_
      refine r_aload_n 29 hC dX2_takeWord_29 rfl rfl ?_
      refine r_getI2 30 (x := I11 (q0) 3) hC hk0 3 (by decide) tw_522 rfl rfl dX2_takeWord_30 ?_
      refine r_bald 33 hC ((pm_s2 hG hk0)) h.1 dX2_takeWord_33 ?_
      replace h := h.2
      refine r_bipush 34 (v := 122) hC dX2_takeWord_34 (by decide) ?_
      refine r_icmp_gt 36 52 hC dX2_takeWord_36 (by decide) (fun hc => ?_) (fun hc => ?_)
      · replace h := h.1 hc
        refine r_aload_n 52 hC dX2_takeWord_52 rfl rfl ?_
        refine r_aload_n 53 hC dX2_takeWord_53 rfl rfl ?_
        refine r_getI2 54 (x := I11 (q0) 3) hC hk0 3 (by decide) tw_522 rfl rfl dX2_takeWord_54 ?_
        refine r_aload_n 57 hC dX2_takeWord_57 rfl rfl ?_
        refine r_getI2 58 (x := I11 (q0) 4) hC hk0 4 (by decide) tw_523 rfl rfl dX2_takeWord_58 ?_
        refine r_isub 61 hC dX2_takeWord_61 ?_
        refine r_bipush 62 (v := 8) hC dX2_takeWord_62 (by decide) ?_
        refine r_icmp_gt 64 71 hC dX2_takeWord_64 (by decide) (fun hc => ?_) (fun hc => ?_)
        · replace h := h.1 hc
          refine r_iconst 71 (v := 3) hC dX2_takeWord_71 (by decide) ?_
          refine r_putI2 72 hC hk0 5 (by decide) tw_524 rfl rfl (by decide +kernel) ps_2_5 dX2_takeWord_72 (fun I16 hI => ?_)
          replace h := h I16 hI; clear hI
          exact r_vret 75 hC hE dX2_takeWord_75 ⟨rfl, h⟩
        · replace h := h.2 hc
          refine r_iconst 67 (v := 1) hC dX2_takeWord_67 (by decide) ?_
          refine r_goto 68 72 hC dX2_takeWord_68 (by decide) ?_
          refine r_putI2 72 hC hk0 5 (by decide) tw_524 rfl rfl (by decide +kernel) ps_2_5 dX2_takeWord_72 (fun I17 hI => ?_)
          replace h := h I17 hI; clear hI
          exact r_vret 75 hC hE dX2_takeWord_75 ⟨rfl, h⟩
      · replace h := h.2 hc
        refine r_aload_n 39 hC dX2_takeWord_39 rfl rfl ?_
        refine r_dup 40 hC dX2_takeWord_40 rfl ?_
        refine r_getI2 41 (x := I11 (q0) 3) hC hk0 3 (by decide) tw_522 rfl rfl dX2_takeWord_41 ?_
        refine r_iconst 44 (v := 1) hC dX2_takeWord_44 (by decide) ?_
        refine r_iadd 45 hC dX2_takeWord_45 ?_
        refine r_putI2 46 hC hk0 3 (by decide) tw_522 rfl rfl (by decide +kernel) ps_2_3 dX2_takeWord_46 (fun I18 hI => ?_)
        replace h := h I18 hI; clear hI
        refine r_goto 49 0 hC dX2_takeWord_49 (by decide) ?_
        exact h

def wX2_takeNumber (G : pm_G) (q0 : Nat) (I : pm_I) (K : pm_I → Prop) : Prop :=
  ∀ I10 : pm_I, I10 = pm_up I (q0) 6 (0) → (pm_lp1 (fun (P11 : pm_I → Prop)  (I12 : pm_I) => ((I12 q0 1) ≤ (I12 q0 3) → ((4 < ((I12 q0 3) - (I12 q0 4)) → (∀ I13 : pm_I, I13 = pm_up I12 (q0) 5 (3) → K I13)) ∧ (¬ 4 < ((I12 q0 3) - (I12 q0 4)) → (∀ I14 : pm_I, I14 = pm_up I12 (q0) 5 (2) → K I14)))) ∧ (¬ (I12 q0 1) ≤ (I12 q0 3) → (vp_in (I12 (q0) 3) 600 ∧ (((I12 2 (I12 q0 3).toNatClampNeg) < 48 → ((4 < ((I12 q0 3) - (I12 q0 4)) → (∀ I15 : pm_I, I15 = pm_up I12 (q0) 5 (3) → K I15)) ∧ (¬ 4 < ((I12 q0 3) - (I12 q0 4)) → (∀ I16 : pm_I, I16 = pm_up I12 (q0) 5 (2) → K I16)))) ∧ (¬ (I12 2 (I12 q0 3).toNatClampNeg) < 48 → (vp_in (I12 (q0) 3) 600 ∧ ((57 < (I12 2 (I12 q0 3).toNatClampNeg) → ((4 < ((I12 q0 3) - (I12 q0 4)) → (∀ I17 : pm_I, I17 = pm_up I12 (q0) 5 (3) → K I17)) ∧ (¬ 4 < ((I12 q0 3) - (I12 q0 4)) → (∀ I18 : pm_I, I18 = pm_up I12 (q0) 5 (2) → K I18)))) ∧ (¬ 57 < (I12 2 (I12 q0 3).toNatClampNeg) → (vp_in (I12 (q0) 3) 600 ∧ (∀ I19 : pm_I, I19 = pm_up I12 (q0) 6 ((((I12 q0 6) * 10) + (I12 2 (I12 q0 3).toNatClampNeg)) - 48) → (∀ I20 : pm_I, I20 = pm_up I19 (q0) 3 ((I19 q0 3) + 1) → P11  I20)))))))))))  I10)

set_option maxRecDepth 20000 in
theorem sX2_takeNumber {G : pm_G} {l : Launch} (hG : pm_ok G) (q0 : Nat) (I : pm_I) (K : pm_I → Prop) (hk0 : pm_k G q0 (.inl 2)) (h : wX2_takeNumber G q0 I K) : pm_Ct G l yX2_takeNumber cX2_takeNumber 1 none { frames := 1, cells := 0, slots := 0, locals := 64 } [.ref (q0)] I (pm_Kv K) := by
  unfold wX2_takeNumber at h
  refine pm_enter (by decide +kernel) hG rfl (Nat.le_of_ble_eq_true rfl) rfl (fun X hl hC hE => ?_)
  subst hl
  have hab : 0 ≤ 0 ∧ 0 ≤ 0 := ⟨Nat.le_refl 0, Nat.le_refl 0⟩
  have hC : pm_C G X cX2_takeNumber 1 RX2 none { frames := 1, cells := 0, slots := 0, locals := 64 } := hC
  refine r_aload_n 0 hC dX2_takeNumber_0 rfl rfl ?_
  refine r_iconst 1 (v := 0) hC dX2_takeNumber_1 (by decide) ?_
  refine r_putI2 2 hC hk0 6 (by decide) tw_525 rfl rfl (by decide +kernel) ps_2_6 dX2_takeNumber_2 (fun I10 hI => ?_)
  replace h := h I10 hI; clear hI
  refine h (fun  I12 => pm_R G X 1 0 0 5 [some (.ref (q0))] [] I12) ?_
  clear h; intro  I12 h
  refine r_aload_n 5 hC dX2_takeNumber_5 rfl rfl ?_
  refine r_getI2 6 (x := I12 (q0) 3) hC hk0 3 (by decide) tw_522 rfl rfl dX2_takeNumber_6 ?_
  refine r_aload_n 9 hC dX2_takeNumber_9 rfl rfl ?_
  refine r_getI2 10 (x := I12 (q0) 1) hC hk0 1 (by decide) tw_520 rfl rfl dX2_takeNumber_10 ?_
  refine r_icmp_ge 13 81 hC dX2_takeNumber_13 (by decide) (fun hc => ?_) (fun hc => ?_)
  · replace h := h.1 hc
    refine r_aload_n 81 hC dX2_takeNumber_81 rfl rfl ?_
    refine r_aload_n 82 hC dX2_takeNumber_82 rfl rfl ?_
    refine r_getI2 83 (x := I12 (q0) 3) hC hk0 3 (by decide) tw_522 rfl rfl dX2_takeNumber_83 ?_
    refine r_aload_n 86 hC dX2_takeNumber_86 rfl rfl ?_
    refine r_getI2 87 (x := I12 (q0) 4) hC hk0 4 (by decide) tw_523 rfl rfl dX2_takeNumber_87 ?_
    refine r_isub 90 hC dX2_takeNumber_90 ?_
    refine r_iconst 91 (v := 4) hC dX2_takeNumber_91 (by decide) ?_
    refine r_icmp_gt 92 99 hC dX2_takeNumber_92 (by decide) (fun hc => ?_) (fun hc => ?_)
    · replace h := h.1 hc
      refine r_iconst 99 (v := 3) hC dX2_takeNumber_99 (by decide) ?_
      refine r_putI2 100 hC hk0 5 (by decide) tw_524 rfl rfl (by decide +kernel) ps_2_5 dX2_takeNumber_100 (fun I13 hI => ?_)
      replace h := h I13 hI; clear hI
      exact r_vret 103 hC hE dX2_takeNumber_103 ⟨rfl, h⟩
    · replace h := h.2 hc
      refine r_iconst 95 (v := 2) hC dX2_takeNumber_95 (by decide) ?_
      refine r_goto 96 100 hC dX2_takeNumber_96 (by decide) ?_
      refine r_putI2 100 hC hk0 5 (by decide) tw_524 rfl rfl (by decide +kernel) ps_2_5 dX2_takeNumber_100 (fun I14 hI => ?_)
      replace h := h I14 hI; clear hI
      exact r_vret 103 hC hE dX2_takeNumber_103 ⟨rfl, h⟩
  · replace h := h.2 hc
    refine r_aload_n 16 hC dX2_takeNumber_16 rfl rfl ?_
    refine r_getR2 17 (r1 := 2) hC hk0 0 (by decide) tw_519 rfl rfl dX2_takeNumber_17 ?_
    refine r_aload_n 20 hC dX2_takeNumber_20 rfl rfl ?_
    refine r_getI2 21 (x := I12 (q0) 3) hC hk0 3 (by decide) tw_522 rfl rfl dX2_takeNumber_21 ?_
    refine r_bald 24 hC ((pm_s2 hG hk0)) h.1 dX2_takeNumber_24 ?_
    replace h := h.2
    refine r_bipush 25 (v := 48) hC dX2_takeNumber_25 (by decide) ?_
    refine r_icmp_lt 27 81 hC dX2_takeNumber_27 (by decide) (fun hc => ?_) (fun hc => ?_)
    · replace h := h.1 hc
      refine r_aload_n 81 hC dX2_takeNumber_81 rfl rfl ?_
      refine r_aload_n 82 hC dX2_takeNumber_82 rfl rfl ?_
      refine r_getI2 83 (x := I12 (q0) 3) hC hk0 3 (by decide) tw_522 rfl rfl dX2_takeNumber_83 ?_
      refine r_aload_n 86 hC dX2_takeNumber_86 rfl rfl ?_
      refine r_getI2 87 (x := I12 (q0) 4) hC hk0 4 (by decide) tw_523 rfl rfl dX2_takeNumber_87 ?_
      refine r_isub 90 hC dX2_takeNumber_90 ?_
      refine r_iconst 91 (v := 4) hC dX2_takeNumber_91 (by decide) ?_
      refine r_icmp_gt 92 99 hC dX2_takeNumber_92 (by decide) (fun hc => ?_) (fun hc => ?_)
      · replace h := h.1 hc
        refine r_iconst 99 (v := 3) hC dX2_takeNumber_99 (by decide) ?_
        refine r_putI2 100 hC hk0 5 (by decide) tw_524 rfl rfl (by decide +kernel) ps_2_5 dX2_takeNumber_100 (fun I15 hI => ?_)
        replace h := h I15 hI; clear hI
        exact r_vret 103 hC hE dX2_takeNumber_103 ⟨rfl, h⟩
      · replace h := h.2 hc
        refine r_iconst 95 (v := 2) hC dX2_takeNumber_95 (by decide) ?_
        refine r_goto 96 100 hC dX2_takeNumber_96 (by decide) ?_
        refine r_putI2 100 hC hk0 5 (by decide) tw_524 rfl rfl (by decide +kernel) ps_2_5 dX2_takeNumber_100 (fun I16 hI => ?_)
        replace h := h I16 hI; clear hI
        exact r_vret 103 hC hE dX2_takeNumber_103 ⟨rfl, h⟩
    · replace h := h.2 hc
      refine r_aload_n 30 hC dX2_takeNumber_30 rfl rfl ?_
      refine r_getR2 31 (r1 := 2) hC hk0 0 (by decide) tw_519 rfl rfl dX2_takeNumber_31 ?_
      refine r_aload_n 34 hC dX2_takeNumber_34 rfl rfl ?_
      refine r_getI2 35 (x := I12 (q0) 3) hC hk0 3 (by decide) tw_522 rfl rfl dX2_takeNumber_35 ?_
      refine r_bald 38 hC ((pm_s2 hG hk0)) h.1 dX2_takeNumber_38 ?_
      replace h := h.2
      refine r_bipush 39 (v := 57) hC dX2_takeNumber_39 (by decide) ?_
      refine r_icmp_gt 41 81 hC dX2_takeNumber_41 (by decide) (fun hc => ?_) (fun hc => ?_)
      · replace h := h.1 hc
        refine r_aload_n 81 hC dX2_takeNumber_81 rfl rfl ?_
        refine r_aload_n 82 hC dX2_takeNumber_82 rfl rfl ?_
        refine r_getI2 83 (x := I12 (q0) 3) hC hk0 3 (by decide) tw_522 rfl rfl dX2_takeNumber_83 ?_
        refine r_aload_n 86 hC dX2_takeNumber_86 rfl rfl ?_
        refine r_getI2 87 (x := I12 (q0) 4) hC hk0 4 (by decide) tw_523 rfl rfl dX2_takeNumber_87 ?_
        refine r_isub 90 hC dX2_takeNumber_90 ?_
        refine r_iconst 91 (v := 4) hC dX2_takeNumber_91 (by decide) ?_
        refine r_icmp_gt 92 99 hC dX2_takeNumber_92 (by decide) (fun hc => ?_) (fun hc => ?_)
        · replace h := h.1 hc
          refine r_iconst 99 (v := 3) hC dX2_takeNumber_99 (by decide) ?_
          refine r_putI2 100 hC hk0 5 (by decide) tw_524 rfl rfl (by decide +kernel) ps_2_5 dX2_takeNumber_100 (fun I17 hI => ?_)
          replace h := h I17 hI; clear hI
          exact r_vret 103 hC hE dX2_takeNumber_103 ⟨rfl, h⟩
        · replace h := h.2 hc
          refine r_iconst 95 (v := 2) hC dX2_takeNumber_95 (by decide) ?_
          refine r_goto 96 100 hC dX2_takeNumber_96 (by decide) ?_
          refine r_putI2 100 hC hk0 5 (by decide) tw_524 rfl rfl (by decide +kernel) ps_2_5 dX2_takeNumber_100 (fun I18 hI => ?_)
          replace h := h I18 hI; clear hI
          exact r_vret 103 hC hE dX2_takeNumber_103 ⟨rfl, h⟩
      · replace h := h.2 hc
        refine r_aload_n 44 hC dX2_takeNumber_44 rfl rfl ?_
        refine r_aload_n 45 hC dX2_takeNumber_45 rfl rfl ?_
        refine r_getI2 46 (x := I12 (q0) 6) hC hk0 6 (by decide) tw_525 rfl rfl dX2_takeNumber_46 ?_
        refine r_bipush 49 (v := 10) hC dX2_takeNumber_49 (by decide) ?_
        refine r_imul 51 hC dX2_takeNumber_51 ?_
        refine r_aload_n 52 hC dX2_takeNumber_52 rfl rfl ?_
        refine r_getR2 53 (r1 := 2) hC hk0 0 (by decide) tw_519 rfl rfl dX2_takeNumber_53 ?_
        refine r_aload_n 56 hC dX2_takeNumber_56 rfl rfl ?_
        refine r_getI2 57 (x := I12 (q0) 3) hC hk0 3 (by decide) tw_522 rfl rfl dX2_takeNumber_57 ?_
        refine r_bald 60 hC ((pm_s2 hG hk0)) h.1 dX2_takeNumber_60 ?_
        replace h := h.2
        refine r_iadd 61 hC dX2_takeNumber_61 ?_
        refine r_bipush 62 (v := 48) hC dX2_takeNumber_62 (by decide) ?_
        refine r_isub 64 hC dX2_takeNumber_64 ?_
        refine r_putI2 65 hC hk0 6 (by decide) tw_525 rfl rfl (by decide +kernel) ps_2_6 dX2_takeNumber_65 (fun I19 hI => ?_)
        replace h := h I19 hI; clear hI
        refine r_aload_n 68 hC dX2_takeNumber_68 rfl rfl ?_
        refine r_dup 69 hC dX2_takeNumber_69 rfl ?_
        refine r_getI2 70 (x := I19 (q0) 3) hC hk0 3 (by decide) tw_522 rfl rfl dX2_takeNumber_70 ?_
        refine r_iconst 73 (v := 1) hC dX2_takeNumber_73 (by decide) ?_
        refine r_iadd 74 hC dX2_takeNumber_74 ?_
        refine r_putI2 75 hC hk0 3 (by decide) tw_522 rfl rfl (by decide +kernel) ps_2_3 dX2_takeNumber_75 (fun I20 hI => ?_)
        replace h := h I20 hI; clear hI
        refine r_goto 78 5 hC dX2_takeNumber_78 (by decide) ?_
        exact h

def wX2_takeSign (G : pm_G) (q0 : Nat) (I : pm_I) (K : pm_I → Prop) : Prop :=
  vp_in (I (q0) 3) 600 ∧ (∀ I10 : pm_I, I10 = pm_up I (q0) 3 ((I q0 3) + 1) → (((I (2) (I (q0) 3).toNatClampNeg) = 40 ∨ (I (2) (I (q0) 3).toNatClampNeg) = 41 ∨ (I (2) (I (q0) 3).toNatClampNeg) = 42 ∨ (I (2) (I (q0) 3).toNatClampNeg) = 43 ∨ (I (2) (I (q0) 3).toNatClampNeg) = 45 ∨ (I (2) (I (q0) 3).toNatClampNeg) = 47 ∨ (I (2) (I (q0) 3).toNatClampNeg) = 59 → (∀ I11 : pm_I, I11 = pm_up I10 (q0) 5 (I (2) (I (q0) 3).toNatClampNeg) → K I11)) ∧ (¬ ((I (2) (I (q0) 3).toNatClampNeg) = 40 ∨ (I (2) (I (q0) 3).toNatClampNeg) = 41 ∨ (I (2) (I (q0) 3).toNatClampNeg) = 42 ∨ (I (2) (I (q0) 3).toNatClampNeg) = 43 ∨ (I (2) (I (q0) 3).toNatClampNeg) = 45 ∨ (I (2) (I (q0) 3).toNatClampNeg) = 47 ∨ (I (2) (I (q0) 3).toNatClampNeg) = 59) → (∀ I12 : pm_I, I12 = pm_up I10 (q0) 5 (3) → K I12))))

set_option maxRecDepth 20000 in
theorem sX2_takeSign {G : pm_G} {l : Launch} (hG : pm_ok G) (q0 : Nat) (I : pm_I) (K : pm_I → Prop) (hk0 : pm_k G q0 (.inl 2)) (h : wX2_takeSign G q0 I K) : pm_Ct G l yX2_takeSign cX2_takeSign 2 none { frames := 1, cells := 0, slots := 0, locals := 64 } [.ref (q0)] I (pm_Kv K) := by
  unfold wX2_takeSign at h
  refine pm_enter (by decide +kernel) hG rfl (Nat.le_of_ble_eq_true rfl) rfl (fun X hl hC hE => ?_)
  subst hl
  have hab : 0 ≤ 0 ∧ 0 ≤ 0 := ⟨Nat.le_refl 0, Nat.le_refl 0⟩
  have hC : pm_C G X cX2_takeSign 2 RX2 none { frames := 1, cells := 0, slots := 0, locals := 64 } := hC
  refine r_aload_n 0 hC dX2_takeSign_0 rfl rfl ?_
  refine r_getR2 1 (r1 := 2) hC hk0 0 (by decide) tw_519 rfl rfl dX2_takeSign_1 ?_
  refine r_aload_n 4 hC dX2_takeSign_4 rfl rfl ?_
  refine r_getI2 5 (x := I (q0) 3) hC hk0 3 (by decide) tw_522 rfl rfl dX2_takeSign_5 ?_
  refine r_bald 8 hC ((pm_s2 hG hk0)) h.1 dX2_takeSign_8 ?_
  replace h := h.2
  refine r_istore_n 9 [some (.ref (q0)), some (.int (I (2) (I (q0) 3).toNatClampNeg))] hC dX2_takeSign_9 rfl (by decide) rfl ?_
  refine r_aload_n 10 hC dX2_takeSign_10 rfl rfl ?_
  refine r_dup 11 hC dX2_takeSign_11 rfl ?_
  refine r_getI2 12 (x := I (q0) 3) hC hk0 3 (by decide) tw_522 rfl rfl dX2_takeSign_12 ?_
  refine r_iconst 15 (v := 1) hC dX2_takeSign_15 (by decide) ?_
  refine r_iadd 16 hC dX2_takeSign_16 ?_
  refine r_putI2 17 hC hk0 3 (by decide) tw_522 rfl rfl (by decide +kernel) ps_2_3 dX2_takeSign_17 (fun I10 hI => ?_)
  replace h := h I10 hI; clear hI
  refine r_iload_n 20 hC dX2_takeSign_20 rfl rfl ?_
  by_cases hs0 : (I (2) (I (q0) 3).toNatClampNeg) = 40 ∨ (I (2) (I (q0) 3).toNatClampNeg) = 41 ∨ (I (2) (I (q0) 3).toNatClampNeg) = 42 ∨ (I (2) (I (q0) 3).toNatClampNeg) = 43 ∨ (I (2) (I (q0) 3).toNatClampNeg) = 45 ∨ (I (2) (I (q0) 3).toNatClampNeg) = 47 ∨ (I (2) (I (q0) 3).toNatClampNeg) = 59
  · replace h := h.1 hs0
    have hst : pm_R G X 2 0 0 116 [some (.ref (q0)), some (.int (I (2) (I (q0) 3).toNatClampNeg))] [] I10 := by
      refine r_aload_n 116 hC dX2_takeSign_116 rfl rfl ?_
      refine r_iload_n 117 hC dX2_takeSign_117 rfl rfl ?_
      refine r_putI2 118 hC hk0 5 (by decide) tw_524 rfl rfl (by decide +kernel) ps_2_5 dX2_takeSign_118 (fun I11 hI => ?_)
      replace h := h I11 hI; clear hI
      refine r_goto 121 129 hC dX2_takeSign_121 (by decide) ?_
      exact r_vret 129 hC hE dX2_takeSign_129 ⟨rfl, h⟩
    rcases hs0 with hs | hs | hs | hs | hs | hs | hs
    all_goals exact r_tabIn 21 116 (off := 95) hC dX2_takeSign_21 (by rw [hs]; decide) (by rw [hs]; decide) (by rw [hs]; decide) (by decide) hst
  replace h := h.2 hs0
  have hst : pm_R G X 2 0 0 124 [some (.ref (q0)), some (.int (I (2) (I (q0) 3).toNatClampNeg))] [] I10 := by
    refine r_aload_n 124 hC dX2_takeSign_124 rfl rfl ?_
    refine r_iconst 125 (v := 3) hC dX2_takeSign_125 (by decide) ?_
    refine r_putI2 126 hC hk0 5 (by decide) tw_524 rfl rfl (by decide +kernel) ps_2_5 dX2_takeSign_126 (fun I12 hI => ?_)
    replace h := h I12 hI; clear hI
    exact r_vret 129 hC hE dX2_takeSign_129 ⟨rfl, h⟩
  by_cases hlo : (I (2) (I (q0) 3).toNatClampNeg).toInt < 40
  · exact r_tabOut 21 124 hC dX2_takeSign_21 (Or.inl hlo) (by decide) hst
  by_cases hhi : 59 < (I (2) (I (q0) 3).toNatClampNeg).toInt
  · exact r_tabOut 21 124 hC dX2_takeSign_21 (Or.inr hhi) (by decide) hst
  have hal : (I (2) (I (q0) 3).toNatClampNeg).toInt = 40 ∨ (I (2) (I (q0) 3).toNatClampNeg).toInt = 41 ∨ (I (2) (I (q0) 3).toNatClampNeg).toInt = 42 ∨ (I (2) (I (q0) 3).toNatClampNeg).toInt = 43 ∨ (I (2) (I (q0) 3).toNatClampNeg).toInt = 44 ∨ (I (2) (I (q0) 3).toNatClampNeg).toInt = 45 ∨ (I (2) (I (q0) 3).toNatClampNeg).toInt = 46 ∨ (I (2) (I (q0) 3).toNatClampNeg).toInt = 47 ∨ (I (2) (I (q0) 3).toNatClampNeg).toInt = 48 ∨ (I (2) (I (q0) 3).toNatClampNeg).toInt = 49 ∨ (I (2) (I (q0) 3).toNatClampNeg).toInt = 50 ∨ (I (2) (I (q0) 3).toNatClampNeg).toInt = 51 ∨ (I (2) (I (q0) 3).toNatClampNeg).toInt = 52 ∨ (I (2) (I (q0) 3).toNatClampNeg).toInt = 53 ∨ (I (2) (I (q0) 3).toNatClampNeg).toInt = 54 ∨ (I (2) (I (q0) 3).toNatClampNeg).toInt = 55 ∨ (I (2) (I (q0) 3).toNatClampNeg).toInt = 56 ∨ (I (2) (I (q0) 3).toNatClampNeg).toInt = 57 ∨ (I (2) (I (q0) 3).toNatClampNeg).toInt = 58 ∨ (I (2) (I (q0) 3).toNatClampNeg).toInt = 59 := by
    omega
  rcases hal with hv | hv | hv | hv | hv | hv | hv | hv | hv | hv | hv | hv | hv | hv | hv | hv | hv | hv | hv | hv
  · exact absurd (Or.inl (Int32.toInt_inj.mp (by rw [hv]; decide))) hs0
  · exact absurd (Or.inr (Or.inl (Int32.toInt_inj.mp (by rw [hv]; decide)))) hs0
  · exact absurd (Or.inr (Or.inr (Or.inl (Int32.toInt_inj.mp (by rw [hv]; decide))))) hs0
  · exact absurd (Or.inr (Or.inr (Or.inr (Or.inl (Int32.toInt_inj.mp (by rw [hv]; decide)))))) hs0
  · exact r_tabIn 21 124 (off := 103) hC dX2_takeSign_21 (by rw [hv]; decide) (by rw [hv]; decide) (by rw [hv]; decide) (by decide) hst
  · exact absurd (Or.inr (Or.inr (Or.inr (Or.inr (Or.inl (Int32.toInt_inj.mp (by rw [hv]; decide))))))) hs0
  · exact r_tabIn 21 124 (off := 103) hC dX2_takeSign_21 (by rw [hv]; decide) (by rw [hv]; decide) (by rw [hv]; decide) (by decide) hst
  · exact absurd (Or.inr (Or.inr (Or.inr (Or.inr (Or.inr (Or.inl (Int32.toInt_inj.mp (by rw [hv]; decide)))))))) hs0
  · exact r_tabIn 21 124 (off := 103) hC dX2_takeSign_21 (by rw [hv]; decide) (by rw [hv]; decide) (by rw [hv]; decide) (by decide) hst
  · exact r_tabIn 21 124 (off := 103) hC dX2_takeSign_21 (by rw [hv]; decide) (by rw [hv]; decide) (by rw [hv]; decide) (by decide) hst
  · exact r_tabIn 21 124 (off := 103) hC dX2_takeSign_21 (by rw [hv]; decide) (by rw [hv]; decide) (by rw [hv]; decide) (by decide) hst
  · exact r_tabIn 21 124 (off := 103) hC dX2_takeSign_21 (by rw [hv]; decide) (by rw [hv]; decide) (by rw [hv]; decide) (by decide) hst
  · exact r_tabIn 21 124 (off := 103) hC dX2_takeSign_21 (by rw [hv]; decide) (by rw [hv]; decide) (by rw [hv]; decide) (by decide) hst
  · exact r_tabIn 21 124 (off := 103) hC dX2_takeSign_21 (by rw [hv]; decide) (by rw [hv]; decide) (by rw [hv]; decide) (by decide) hst
  · exact r_tabIn 21 124 (off := 103) hC dX2_takeSign_21 (by rw [hv]; decide) (by rw [hv]; decide) (by rw [hv]; decide) (by decide) hst
  · exact r_tabIn 21 124 (off := 103) hC dX2_takeSign_21 (by rw [hv]; decide) (by rw [hv]; decide) (by rw [hv]; decide) (by decide) hst
  · exact r_tabIn 21 124 (off := 103) hC dX2_takeSign_21 (by rw [hv]; decide) (by rw [hv]; decide) (by rw [hv]; decide) (by decide) hst
  · exact r_tabIn 21 124 (off := 103) hC dX2_takeSign_21 (by rw [hv]; decide) (by rw [hv]; decide) (by rw [hv]; decide) (by decide) hst
  · exact r_tabIn 21 124 (off := 103) hC dX2_takeSign_21 (by rw [hv]; decide) (by rw [hv]; decide) (by rw [hv]; decide) (by decide) hst
  · exact absurd (Or.inr (Or.inr (Or.inr (Or.inr (Or.inr (Or.inr (Int32.toInt_inj.mp (by rw [hv]; decide)))))))) hs0

def wX2_advance (G : pm_G) (q0 : Nat) (I : pm_I) (K : pm_I → Prop) : Prop :=
  ((I q0 8) = 0 → (pm_lp1 (fun (P10 : pm_I → Prop)  (I11 : pm_I) => ((I11 q0 1) ≤ (I11 q0 3) → (∀ I12 : pm_I, I12 = pm_up I11 (q0) 4 (I11 (q0) 3) → (((I12 q0 3) < (I12 q0 1) → (vp_in (I12 (q0) 3) 600 ∧ (((I12 2 (I12 q0 3).toNatClampNeg) < 97 → (vp_in (I12 (q0) 3) 600 ∧ (((I12 2 (I12 q0 3).toNatClampNeg) < 48 → (wX2_takeSign G (q0) I12 (fun I13 => K I13))) ∧ (¬ (I12 2 (I12 q0 3).toNatClampNeg) < 48 → (vp_in (I12 (q0) 3) 600 ∧ ((57 < (I12 2 (I12 q0 3).toNatClampNeg) → (wX2_takeSign G (q0) I12 (fun I14 => K I14))) ∧ (¬ 57 < (I12 2 (I12 q0 3).toNatClampNeg) → (wX2_takeNumber G (q0) I12 (fun I15 => K I15))))))))) ∧ (¬ (I12 2 (I12 q0 3).toNatClampNeg) < 97 → (vp_in (I12 (q0) 3) 600 ∧ ((122 < (I12 2 (I12 q0 3).toNatClampNeg) → (vp_in (I12 (q0) 3) 600 ∧ (((I12 2 (I12 q0 3).toNatClampNeg) < 48 → (wX2_takeSign G (q0) I12 (fun I16 => K I16))) ∧ (¬ (I12 2 (I12 q0 3).toNatClampNeg) < 48 → (vp_in (I12 (q0) 3) 600 ∧ ((57 < (I12 2 (I12 q0 3).toNatClampNeg) → (wX2_takeSign G (q0) I12 (fun I17 => K I17))) ∧ (¬ 57 < (I12 2 (I12 q0 3).toNatClampNeg) → (wX2_takeNumber G (q0) I12 (fun I18 => K I18))))))))) ∧ (¬ 122 < (I12 2 (I12 q0 3).toNatClampNeg) → (wX2_takeWord G (q0) I12 (fun I19 => K I19))))))))) ∧ (¬ (I12 q0 3) < (I12 q0 1) → (∀ I20 : pm_I, I20 = pm_up I12 (q0) 5 (0) → K I20))))) ∧ (¬ (I11 q0 1) ≤ (I11 q0 3) → (vp_in (I11 (q0) 3) 600 ∧ (((I11 2 (I11 q0 3).toNatClampNeg) = 32 → (∀ I21 : pm_I, I21 = pm_up I11 (q0) 3 ((I11 q0 3) + 1) → P10  I21)) ∧ (¬ (I11 2 (I11 q0 3).toNatClampNeg) = 32 → (vp_in (I11 (q0) 3) 600 ∧ ((¬ (I11 2 (I11 q0 3).toNatClampNeg) = 10 → (∀ I22 : pm_I, I22 = pm_up I11 (q0) 4 (I11 (q0) 3) → (((I22 q0 3) < (I22 q0 1) → (vp_in (I22 (q0) 3) 600 ∧ (((I22 2 (I22 q0 3).toNatClampNeg) < 97 → (vp_in (I22 (q0) 3) 600 ∧ (((I22 2 (I22 q0 3).toNatClampNeg) < 48 → (wX2_takeSign G (q0) I22 (fun I23 => K I23))) ∧ (¬ (I22 2 (I22 q0 3).toNatClampNeg) < 48 → (vp_in (I22 (q0) 3) 600 ∧ ((57 < (I22 2 (I22 q0 3).toNatClampNeg) → (wX2_takeSign G (q0) I22 (fun I24 => K I24))) ∧ (¬ 57 < (I22 2 (I22 q0 3).toNatClampNeg) → (wX2_takeNumber G (q0) I22 (fun I25 => K I25))))))))) ∧ (¬ (I22 2 (I22 q0 3).toNatClampNeg) < 97 → (vp_in (I22 (q0) 3) 600 ∧ ((122 < (I22 2 (I22 q0 3).toNatClampNeg) → (vp_in (I22 (q0) 3) 600 ∧ (((I22 2 (I22 q0 3).toNatClampNeg) < 48 → (wX2_takeSign G (q0) I22 (fun I26 => K I26))) ∧ (¬ (I22 2 (I22 q0 3).toNatClampNeg) < 48 → (vp_in (I22 (q0) 3) 600 ∧ ((57 < (I22 2 (I22 q0 3).toNatClampNeg) → (wX2_takeSign G (q0) I22 (fun I27 => K I27))) ∧ (¬ 57 < (I22 2 (I22 q0 3).toNatClampNeg) → (wX2_takeNumber G (q0) I22 (fun I28 => K I28))))))))) ∧ (¬ 122 < (I22 2 (I22 q0 3).toNatClampNeg) → (wX2_takeWord G (q0) I22 (fun I29 => K I29))))))))) ∧ (¬ (I22 q0 3) < (I22 q0 1) → (∀ I30 : pm_I, I30 = pm_up I22 (q0) 5 (0) → K I30))))) ∧ ((I11 2 (I11 q0 3).toNatClampNeg) = 10 → (∀ I31 : pm_I, I31 = pm_up I11 (q0) 3 ((I11 q0 3) + 1) → P10  I31)))))))))  I)) ∧ (¬ (I q0 8) = 0 → K I)

set_option maxRecDepth 20000 in
theorem sX2_advance {G : pm_G} {l : Launch} (hG : pm_ok G) (q0 : Nat) (I : pm_I) (K : pm_I → Prop) (hk0 : pm_k G q0 (.inl 2)) (h : wX2_advance G q0 I K) : pm_Ct G l yX2_advance cX2_advance 1 none { frames := 2, cells := 0, slots := 0, locals := 149 } [.ref (q0)] I (pm_Kv K) := by
  unfold wX2_advance at h
  refine pm_enter (by decide +kernel) hG rfl (Nat.le_of_ble_eq_true rfl) rfl (fun X hl hC hE => ?_)
  subst hl
  have hab : 0 ≤ 0 ∧ 0 ≤ 0 := ⟨Nat.le_refl 0, Nat.le_refl 0⟩
  have hC : pm_C G X cX2_advance 1 RX2 none { frames := 2, cells := 0, slots := 0, locals := 149 } := hC
  refine r_aload_n 0 hC dX2_advance_0 rfl rfl ?_
  refine r_getI2 1 (x := I (q0) 8) hC hk0 8 (by decide) tw_527 rfl rfl dX2_advance_1 ?_
  refine r_if_eq 4 8 hC dX2_advance_4 (by decide) (fun hc => ?_) (fun hc => ?_)
  · replace h := h.1 hc
    refine h (fun  I11 => pm_R G X 1 0 0 8 [some (.ref (q0))] [] I11) ?_
    clear h; intro  I11 h
    refine r_aload_n 8 hC dX2_advance_8 rfl rfl ?_
    refine r_getI2 9 (x := I11 (q0) 3) hC hk0 3 (by decide) tw_522 rfl rfl dX2_advance_9 ?_
    refine r_aload_n 12 hC dX2_advance_12 rfl rfl ?_
    refine r_getI2 13 (x := I11 (q0) 1) hC hk0 1 (by decide) tw_520 rfl rfl dX2_advance_13 ?_
    refine r_icmp_ge 16 60 hC dX2_advance_16 (by decide) (fun hc => ?_) (fun hc => ?_)
    · replace h := h.1 hc
      refine r_aload_n 60 hC dX2_advance_60 rfl rfl ?_
      refine r_aload_n 61 hC dX2_advance_61 rfl rfl ?_
      refine r_getI2 62 (x := I11 (q0) 3) hC hk0 3 (by decide) tw_522 rfl rfl dX2_advance_62 ?_
      refine r_putI2 65 hC hk0 4 (by decide) tw_523 rfl rfl (by decide +kernel) ps_2_4 dX2_advance_65 (fun I12 hI => ?_)
      replace h := h I12 hI; clear hI
      refine r_aload_n 68 hC dX2_advance_68 rfl rfl ?_
      refine r_getI2 69 (x := I12 (q0) 3) hC hk0 3 (by decide) tw_522 rfl rfl dX2_advance_69 ?_
      refine r_aload_n 72 hC dX2_advance_72 rfl rfl ?_
      refine r_getI2 73 (x := I12 (q0) 1) hC hk0 1 (by decide) tw_520 rfl rfl dX2_advance_73 ?_
      refine r_icmp_lt 76 87 hC dX2_advance_76 (by decide) (fun hc => ?_) (fun hc => ?_)
      · replace h := h.1 hc
        refine r_aload_n 87 hC dX2_advance_87 rfl rfl ?_
        refine r_getR2 88 (r1 := 2) hC hk0 0 (by decide) tw_519 rfl rfl dX2_advance_88 ?_
        refine r_aload_n 91 hC dX2_advance_91 rfl rfl ?_
        refine r_getI2 92 (x := I12 (q0) 3) hC hk0 3 (by decide) tw_522 rfl rfl dX2_advance_92 ?_
        refine r_bald 95 hC ((pm_s2 hG hk0)) h.1 dX2_advance_95 ?_
        replace h := h.2
        refine r_bipush 96 (v := 97) hC dX2_advance_96 (by decide) ?_
        refine r_icmp_lt 98 122 hC dX2_advance_98 (by decide) (fun hc => ?_) (fun hc => ?_)
        · replace h := h.1 hc
          refine r_aload_n 122 hC dX2_advance_122 rfl rfl ?_
          refine r_getR2 123 (r1 := 2) hC hk0 0 (by decide) tw_519 rfl rfl dX2_advance_123 ?_
          refine r_aload_n 126 hC dX2_advance_126 rfl rfl ?_
          refine r_getI2 127 (x := I12 (q0) 3) hC hk0 3 (by decide) tw_522 rfl rfl dX2_advance_127 ?_
          refine r_bald 130 hC ((pm_s2 hG hk0)) h.1 dX2_advance_130 ?_
          replace h := h.2
          refine r_bipush 131 (v := 48) hC dX2_advance_131 (by decide) ?_
          refine r_icmp_lt 133 157 hC dX2_advance_133 (by decide) (fun hc => ?_) (fun hc => ?_)
          · replace h := h.1 hc
            refine r_aload_n 157 hC dX2_advance_157 rfl rfl ?_
            refine r_callV_v 158 (n := 0) [] [] hC hk0 rfl dX2_advance_158 (by decide) (by decide) tw_571 tw_140 ⟨by decide, by decide, by decide +kernel⟩ tw_568 tw_570 tw_13 rfl rfl (sX2_takeSign (l := pm_l X) hG (q0) _ _ hk0 h) hab (Nat.le_of_ble_eq_true rfl) ?_
            clear h; intro I13 h
            exact r_vret 161 hC hE dX2_advance_161 ⟨rfl, h⟩
          · replace h := h.2 hc
            refine r_aload_n 136 hC dX2_advance_136 rfl rfl ?_
            refine r_getR2 137 (r1 := 2) hC hk0 0 (by decide) tw_519 rfl rfl dX2_advance_137 ?_
            refine r_aload_n 140 hC dX2_advance_140 rfl rfl ?_
            refine r_getI2 141 (x := I12 (q0) 3) hC hk0 3 (by decide) tw_522 rfl rfl dX2_advance_141 ?_
            refine r_bald 144 hC ((pm_s2 hG hk0)) h.1 dX2_advance_144 ?_
            replace h := h.2
            refine r_bipush 145 (v := 57) hC dX2_advance_145 (by decide) ?_
            refine r_icmp_gt 147 157 hC dX2_advance_147 (by decide) (fun hc => ?_) (fun hc => ?_)
            · replace h := h.1 hc
              refine r_aload_n 157 hC dX2_advance_157 rfl rfl ?_
              refine r_callV_v 158 (n := 0) [] [] hC hk0 rfl dX2_advance_158 (by decide) (by decide) tw_571 tw_140 ⟨by decide, by decide, by decide +kernel⟩ tw_568 tw_570 tw_13 rfl rfl (sX2_takeSign (l := pm_l X) hG (q0) _ _ hk0 h) hab (Nat.le_of_ble_eq_true rfl) ?_
              clear h; intro I14 h
              exact r_vret 161 hC hE dX2_advance_161 ⟨rfl, h⟩
            · replace h := h.2 hc
              refine r_aload_n 150 hC dX2_advance_150 rfl rfl ?_
              refine r_callV_v 151 (n := 0) [] [] hC hk0 rfl dX2_advance_151 (by decide) (by decide) tw_567 tw_140 ⟨by decide, by decide, by decide +kernel⟩ tw_564 tw_566 tw_12 rfl rfl (sX2_takeNumber (l := pm_l X) hG (q0) _ _ hk0 h) hab (Nat.le_of_ble_eq_true rfl) ?_
              clear h; intro I15 h
              refine r_goto 154 161 hC dX2_advance_154 (by decide) ?_
              exact r_vret 161 hC hE dX2_advance_161 ⟨rfl, h⟩
        · replace h := h.2 hc
          refine r_aload_n 101 hC dX2_advance_101 rfl rfl ?_
          refine r_getR2 102 (r1 := 2) hC hk0 0 (by decide) tw_519 rfl rfl dX2_advance_102 ?_
          refine r_aload_n 105 hC dX2_advance_105 rfl rfl ?_
          refine r_getI2 106 (x := I12 (q0) 3) hC hk0 3 (by decide) tw_522 rfl rfl dX2_advance_106 ?_
          refine r_bald 109 hC ((pm_s2 hG hk0)) h.1 dX2_advance_109 ?_
          replace h := h.2
          refine r_bipush 110 (v := 122) hC dX2_advance_110 (by decide) ?_
          refine r_icmp_gt 112 122 hC dX2_advance_112 (by decide) (fun hc => ?_) (fun hc => ?_)
          · replace h := h.1 hc
            refine r_aload_n 122 hC dX2_advance_122 rfl rfl ?_
            refine r_getR2 123 (r1 := 2) hC hk0 0 (by decide) tw_519 rfl rfl dX2_advance_123 ?_
            refine r_aload_n 126 hC dX2_advance_126 rfl rfl ?_
            refine r_getI2 127 (x := I12 (q0) 3) hC hk0 3 (by decide) tw_522 rfl rfl dX2_advance_127 ?_
            refine r_bald 130 hC ((pm_s2 hG hk0)) h.1 dX2_advance_130 ?_
            replace h := h.2
            refine r_bipush 131 (v := 48) hC dX2_advance_131 (by decide) ?_
            refine r_icmp_lt 133 157 hC dX2_advance_133 (by decide) (fun hc => ?_) (fun hc => ?_)
            · replace h := h.1 hc
              refine r_aload_n 157 hC dX2_advance_157 rfl rfl ?_
              refine r_callV_v 158 (n := 0) [] [] hC hk0 rfl dX2_advance_158 (by decide) (by decide) tw_571 tw_140 ⟨by decide, by decide, by decide +kernel⟩ tw_568 tw_570 tw_13 rfl rfl (sX2_takeSign (l := pm_l X) hG (q0) _ _ hk0 h) hab (Nat.le_of_ble_eq_true rfl) ?_
              clear h; intro I16 h
              exact r_vret 161 hC hE dX2_advance_161 ⟨rfl, h⟩
            · replace h := h.2 hc
              refine r_aload_n 136 hC dX2_advance_136 rfl rfl ?_
              refine r_getR2 137 (r1 := 2) hC hk0 0 (by decide) tw_519 rfl rfl dX2_advance_137 ?_
              refine r_aload_n 140 hC dX2_advance_140 rfl rfl ?_
              refine r_getI2 141 (x := I12 (q0) 3) hC hk0 3 (by decide) tw_522 rfl rfl dX2_advance_141 ?_
              refine r_bald 144 hC ((pm_s2 hG hk0)) h.1 dX2_advance_144 ?_
              replace h := h.2
              refine r_bipush 145 (v := 57) hC dX2_advance_145 (by decide) ?_
              refine r_icmp_gt 147 157 hC dX2_advance_147 (by decide) (fun hc => ?_) (fun hc => ?_)
              · replace h := h.1 hc
                refine r_aload_n 157 hC dX2_advance_157 rfl rfl ?_
                refine r_callV_v 158 (n := 0) [] [] hC hk0 rfl dX2_advance_158 (by decide) (by decide) tw_571 tw_140 ⟨by decide, by decide, by decide +kernel⟩ tw_568 tw_570 tw_13 rfl rfl (sX2_takeSign (l := pm_l X) hG (q0) _ _ hk0 h) hab (Nat.le_of_ble_eq_true rfl) ?_
                clear h; intro I17 h
                exact r_vret 161 hC hE dX2_advance_161 ⟨rfl, h⟩
              · replace h := h.2 hc
                refine r_aload_n 150 hC dX2_advance_150 rfl rfl ?_
                refine r_callV_v 151 (n := 0) [] [] hC hk0 rfl dX2_advance_151 (by decide) (by decide) tw_567 tw_140 ⟨by decide, by decide, by decide +kernel⟩ tw_564 tw_566 tw_12 rfl rfl (sX2_takeNumber (l := pm_l X) hG (q0) _ _ hk0 h) hab (Nat.le_of_ble_eq_true rfl) ?_
                clear h; intro I18 h
                refine r_goto 154 161 hC dX2_advance_154 (by decide) ?_
                exact r_vret 161 hC hE dX2_advance_161 ⟨rfl, h⟩
          · replace h := h.2 hc
            refine r_aload_n 115 hC dX2_advance_115 rfl rfl ?_
            refine r_callV_v 116 (n := 0) [] [] hC hk0 rfl dX2_advance_116 (by decide) (by decide) tw_563 tw_140 ⟨by decide, by decide, by decide +kernel⟩ tw_560 tw_562 tw_11 rfl rfl (sX2_takeWord (l := pm_l X) hG (q0) _ _ hk0 h) hab (Nat.le_of_ble_eq_true rfl) ?_
            clear h; intro I19 h
            refine r_goto 119 161 hC dX2_advance_119 (by decide) ?_
            exact r_vret 161 hC hE dX2_advance_161 ⟨rfl, h⟩
      · replace h := h.2 hc
        refine r_aload_n 79 hC dX2_advance_79 rfl rfl ?_
        refine r_iconst 80 (v := 0) hC dX2_advance_80 (by decide) ?_
        refine r_putI2 81 hC hk0 5 (by decide) tw_524 rfl rfl (by decide +kernel) ps_2_5 dX2_advance_81 (fun I20 hI => ?_)
        replace h := h I20 hI; clear hI
        refine r_goto 84 161 hC dX2_advance_84 (by decide) ?_
        exact r_vret 161 hC hE dX2_advance_161 ⟨rfl, h⟩
    · replace h := h.2 hc
      refine r_aload_n 19 hC dX2_advance_19 rfl rfl ?_
      refine r_getR2 20 (r1 := 2) hC hk0 0 (by decide) tw_519 rfl rfl dX2_advance_20 ?_
      refine r_aload_n 23 hC dX2_advance_23 rfl rfl ?_
      refine r_getI2 24 (x := I11 (q0) 3) hC hk0 3 (by decide) tw_522 rfl rfl dX2_advance_24 ?_
      refine r_bald 27 hC ((pm_s2 hG hk0)) h.1 dX2_advance_27 ?_
      replace h := h.2
      refine r_bipush 28 (v := 32) hC dX2_advance_28 (by decide) ?_
      refine r_icmp_eq 30 47 hC dX2_advance_30 (by decide) (fun hc => ?_) (fun hc => ?_)
      · replace h := h.1 hc
        refine r_aload_n 47 hC dX2_advance_47 rfl rfl ?_
        refine r_dup 48 hC dX2_advance_48 rfl ?_
        refine r_getI2 49 (x := I11 (q0) 3) hC hk0 3 (by decide) tw_522 rfl rfl dX2_advance_49 ?_
        refine r_iconst 52 (v := 1) hC dX2_advance_52 (by decide) ?_
        refine r_iadd 53 hC dX2_advance_53 ?_
        refine r_putI2 54 hC hk0 3 (by decide) tw_522 rfl rfl (by decide +kernel) ps_2_3 dX2_advance_54 (fun I21 hI => ?_)
        replace h := h I21 hI; clear hI
        refine r_goto 57 8 hC dX2_advance_57 (by decide) ?_
        exact h
      · replace h := h.2 hc
        refine r_aload_n 33 hC dX2_advance_33 rfl rfl ?_
        refine r_getR2 34 (r1 := 2) hC hk0 0 (by decide) tw_519 rfl rfl dX2_advance_34 ?_
        refine r_aload_n 37 hC dX2_advance_37 rfl rfl ?_
        refine r_getI2 38 (x := I11 (q0) 3) hC hk0 3 (by decide) tw_522 rfl rfl dX2_advance_38 ?_
        refine r_bald 41 hC ((pm_s2 hG hk0)) h.1 dX2_advance_41 ?_
        replace h := h.2
        refine r_bipush 42 (v := 10) hC dX2_advance_42 (by decide) ?_
        refine r_icmp_ne 44 60 hC dX2_advance_44 (by decide) (fun hc => ?_) (fun hc => ?_)
        · replace h := h.1 hc
          refine r_aload_n 60 hC dX2_advance_60 rfl rfl ?_
          refine r_aload_n 61 hC dX2_advance_61 rfl rfl ?_
          refine r_getI2 62 (x := I11 (q0) 3) hC hk0 3 (by decide) tw_522 rfl rfl dX2_advance_62 ?_
          refine r_putI2 65 hC hk0 4 (by decide) tw_523 rfl rfl (by decide +kernel) ps_2_4 dX2_advance_65 (fun I22 hI => ?_)
          replace h := h I22 hI; clear hI
          refine r_aload_n 68 hC dX2_advance_68 rfl rfl ?_
          refine r_getI2 69 (x := I22 (q0) 3) hC hk0 3 (by decide) tw_522 rfl rfl dX2_advance_69 ?_
          refine r_aload_n 72 hC dX2_advance_72 rfl rfl ?_
          refine r_getI2 73 (x := I22 (q0) 1) hC hk0 1 (by decide) tw_520 rfl rfl dX2_advance_73 ?_
          refine r_icmp_lt 76 87 hC dX2_advance_76 (by decide) (fun hc => ?_) (fun hc => ?_)
          · replace h := h.1 hc
            refine r_aload_n 87 hC dX2_advance_87 rfl rfl ?_
            refine r_getR2 88 (r1 := 2) hC hk0 0 (by decide) tw_519 rfl rfl dX2_advance_88 ?_
            refine r_aload_n 91 hC dX2_advance_91 rfl rfl ?_
            refine r_getI2 92 (x := I22 (q0) 3) hC hk0 3 (by decide) tw_522 rfl rfl dX2_advance_92 ?_
            refine r_bald 95 hC ((pm_s2 hG hk0)) h.1 dX2_advance_95 ?_
            replace h := h.2
            refine r_bipush 96 (v := 97) hC dX2_advance_96 (by decide) ?_
            refine r_icmp_lt 98 122 hC dX2_advance_98 (by decide) (fun hc => ?_) (fun hc => ?_)
            · replace h := h.1 hc
              refine r_aload_n 122 hC dX2_advance_122 rfl rfl ?_
              refine r_getR2 123 (r1 := 2) hC hk0 0 (by decide) tw_519 rfl rfl dX2_advance_123 ?_
              refine r_aload_n 126 hC dX2_advance_126 rfl rfl ?_
              refine r_getI2 127 (x := I22 (q0) 3) hC hk0 3 (by decide) tw_522 rfl rfl dX2_advance_127 ?_
              refine r_bald 130 hC ((pm_s2 hG hk0)) h.1 dX2_advance_130 ?_
              replace h := h.2
              refine r_bipush 131 (v := 48) hC dX2_advance_131 (by decide) ?_
              refine r_icmp_lt 133 157 hC dX2_advance_133 (by decide) (fun hc => ?_) (fun hc => ?_)
              · replace h := h.1 hc
                refine r_aload_n 157 hC dX2_advance_157 rfl rfl ?_
                refine r_callV_v 158 (n := 0) [] [] hC hk0 rfl dX2_advance_158 (by decide) (by decide) tw_571 tw_140 ⟨by decide, by decide, by decide +kernel⟩ tw_568 tw_570 tw_13 rfl rfl (sX2_takeSign (l := pm_l X) hG (q0) _ _ hk0 h) hab (Nat.le_of_ble_eq_true rfl) ?_
                clear h; intro I23 h
                exact r_vret 161 hC hE dX2_advance_161 ⟨rfl, h⟩
              · replace h := h.2 hc
                refine r_aload_n 136 hC dX2_advance_136 rfl rfl ?_
                refine r_getR2 137 (r1 := 2) hC hk0 0 (by decide) tw_519 rfl rfl dX2_advance_137 ?_
                refine r_aload_n 140 hC dX2_advance_140 rfl rfl ?_
                refine r_getI2 141 (x := I22 (q0) 3) hC hk0 3 (by decide) tw_522 rfl rfl dX2_advance_141 ?_
                refine r_bald 144 hC ((pm_s2 hG hk0)) h.1 dX2_advance_144 ?_
                replace h := h.2
                refine r_bipush 145 (v := 57) hC dX2_advance_145 (by decide) ?_
                refine r_icmp_gt 147 157 hC dX2_advance_147 (by decide) (fun hc => ?_) (fun hc => ?_)
                · replace h := h.1 hc
                  refine r_aload_n 157 hC dX2_advance_157 rfl rfl ?_
                  refine r_callV_v 158 (n := 0) [] [] hC hk0 rfl dX2_advance_158 (by decide) (by decide) tw_571 tw_140 ⟨by decide, by decide, by decide +kernel⟩ tw_568 tw_570 tw_13 rfl rfl (sX2_takeSign (l := pm_l X) hG (q0) _ _ hk0 h) hab (Nat.le_of_ble_eq_true rfl) ?_
                  clear h; intro I24 h
                  exact r_vret 161 hC hE dX2_advance_161 ⟨rfl, h⟩
                · replace h := h.2 hc
                  refine r_aload_n 150 hC dX2_advance_150 rfl rfl ?_
                  refine r_callV_v 151 (n := 0) [] [] hC hk0 rfl dX2_advance_151 (by decide) (by decide) tw_567 tw_140 ⟨by decide, by decide, by decide +kernel⟩ tw_564 tw_566 tw_12 rfl rfl (sX2_takeNumber (l := pm_l X) hG (q0) _ _ hk0 h) hab (Nat.le_of_ble_eq_true rfl) ?_
                  clear h; intro I25 h
                  refine r_goto 154 161 hC dX2_advance_154 (by decide) ?_
                  exact r_vret 161 hC hE dX2_advance_161 ⟨rfl, h⟩
            · replace h := h.2 hc
              refine r_aload_n 101 hC dX2_advance_101 rfl rfl ?_
              refine r_getR2 102 (r1 := 2) hC hk0 0 (by decide) tw_519 rfl rfl dX2_advance_102 ?_
              refine r_aload_n 105 hC dX2_advance_105 rfl rfl ?_
              refine r_getI2 106 (x := I22 (q0) 3) hC hk0 3 (by decide) tw_522 rfl rfl dX2_advance_106 ?_
              refine r_bald 109 hC ((pm_s2 hG hk0)) h.1 dX2_advance_109 ?_
              replace h := h.2
              refine r_bipush 110 (v := 122) hC dX2_advance_110 (by decide) ?_
              refine r_icmp_gt 112 122 hC dX2_advance_112 (by decide) (fun hc => ?_) (fun hc => ?_)
              · replace h := h.1 hc
                refine r_aload_n 122 hC dX2_advance_122 rfl rfl ?_
                refine r_getR2 123 (r1 := 2) hC hk0 0 (by decide) tw_519 rfl rfl dX2_advance_123 ?_
                refine r_aload_n 126 hC dX2_advance_126 rfl rfl ?_
                refine r_getI2 127 (x := I22 (q0) 3) hC hk0 3 (by decide) tw_522 rfl rfl dX2_advance_127 ?_
                refine r_bald 130 hC ((pm_s2 hG hk0)) h.1 dX2_advance_130 ?_
                replace h := h.2
                refine r_bipush 131 (v := 48) hC dX2_advance_131 (by decide) ?_
                refine r_icmp_lt 133 157 hC dX2_advance_133 (by decide) (fun hc => ?_) (fun hc => ?_)
                · replace h := h.1 hc
                  refine r_aload_n 157 hC dX2_advance_157 rfl rfl ?_
                  refine r_callV_v 158 (n := 0) [] [] hC hk0 rfl dX2_advance_158 (by decide) (by decide) tw_571 tw_140 ⟨by decide, by decide, by decide +kernel⟩ tw_568 tw_570 tw_13 rfl rfl (sX2_takeSign (l := pm_l X) hG (q0) _ _ hk0 h) hab (Nat.le_of_ble_eq_true rfl) ?_
                  clear h; intro I26 h
                  exact r_vret 161 hC hE dX2_advance_161 ⟨rfl, h⟩
                · replace h := h.2 hc
                  refine r_aload_n 136 hC dX2_advance_136 rfl rfl ?_
                  refine r_getR2 137 (r1 := 2) hC hk0 0 (by decide) tw_519 rfl rfl dX2_advance_137 ?_
                  refine r_aload_n 140 hC dX2_advance_140 rfl rfl ?_
                  refine r_getI2 141 (x := I22 (q0) 3) hC hk0 3 (by decide) tw_522 rfl rfl dX2_advance_141 ?_
                  refine r_bald 144 hC ((pm_s2 hG hk0)) h.1 dX2_advance_144 ?_
                  replace h := h.2
                  refine r_bipush 145 (v := 57) hC dX2_advance_145 (by decide) ?_
                  refine r_icmp_gt 147 157 hC dX2_advance_147 (by decide) (fun hc => ?_) (fun hc => ?_)
                  · replace h := h.1 hc
                    refine r_aload_n 157 hC dX2_advance_157 rfl rfl ?_
                    refine r_callV_v 158 (n := 0) [] [] hC hk0 rfl dX2_advance_158 (by decide) (by decide) tw_571 tw_140 ⟨by decide, by decide, by decide +kernel⟩ tw_568 tw_570 tw_13 rfl rfl (sX2_takeSign (l := pm_l X) hG (q0) _ _ hk0 h) hab (Nat.le_of_ble_eq_true rfl) ?_
                    clear h; intro I27 h
                    exact r_vret 161 hC hE dX2_advance_161 ⟨rfl, h⟩
                  · replace h := h.2 hc
                    refine r_aload_n 150 hC dX2_advance_150 rfl rfl ?_
                    refine r_callV_v 151 (n := 0) [] [] hC hk0 rfl dX2_advance_151 (by decide) (by decide) tw_567 tw_140 ⟨by decide, by decide, by decide +kernel⟩ tw_564 tw_566 tw_12 rfl rfl (sX2_takeNumber (l := pm_l X) hG (q0) _ _ hk0 h) hab (Nat.le_of_ble_eq_true rfl) ?_
                    clear h; intro I28 h
                    refine r_goto 154 161 hC dX2_advance_154 (by decide) ?_
                    exact r_vret 161 hC hE dX2_advance_161 ⟨rfl, h⟩
              · replace h := h.2 hc
                refine r_aload_n 115 hC dX2_advance_115 rfl rfl ?_
                refine r_callV_v 116 (n := 0) [] [] hC hk0 rfl dX2_advance_116 (by decide) (by decide) tw_563 tw_140 ⟨by decide, by decide, by decide +kernel⟩ tw_560 tw_562 tw_11 rfl rfl (sX2_takeWord (l := pm_l X) hG (q0) _ _ hk0 h) hab (Nat.le_of_ble_eq_true rfl) ?_
                clear h; intro I29 h
                refine r_goto 119 161 hC dX2_advance_119 (by decide) ?_
                exact r_vret 161 hC hE dX2_advance_161 ⟨rfl, h⟩
          · replace h := h.2 hc
            refine r_aload_n 79 hC dX2_advance_79 rfl rfl ?_
            refine r_iconst 80 (v := 0) hC dX2_advance_80 (by decide) ?_
            refine r_putI2 81 hC hk0 5 (by decide) tw_524 rfl rfl (by decide +kernel) ps_2_5 dX2_advance_81 (fun I30 hI => ?_)
            replace h := h I30 hI; clear hI
            refine r_goto 84 161 hC dX2_advance_84 (by decide) ?_
            exact r_vret 161 hC hE dX2_advance_161 ⟨rfl, h⟩
        · replace h := h.2 hc
          refine r_aload_n 47 hC dX2_advance_47 rfl rfl ?_
          refine r_dup 48 hC dX2_advance_48 rfl ?_
          refine r_getI2 49 (x := I11 (q0) 3) hC hk0 3 (by decide) tw_522 rfl rfl dX2_advance_49 ?_
          refine r_iconst 52 (v := 1) hC dX2_advance_52 (by decide) ?_
          refine r_iadd 53 hC dX2_advance_53 ?_
          refine r_putI2 54 hC hk0 3 (by decide) tw_522 rfl rfl (by decide +kernel) ps_2_3 dX2_advance_54 (fun I31 hI => ?_)
          replace h := h I31 hI; clear hI
          refine r_goto 57 8 hC dX2_advance_57 (by decide) ?_
          exact h
  · replace h := h.2 hc
    exact r_vret 7 hC hE dX2_advance_7 ⟨rfl, h⟩

def wX2_wordIs (G : pm_G) (q0 : Nat) (s1 : Nat) (I : pm_I) (K : Int32 → pm_I → Prop) : Prop :=
  (¬ (I q0 5) = 1 → K 0 I) ∧ ((I q0 5) = 1 → ((((I q0 3) - (I q0 4)) = (Int32.ofNat (pm_slen.getD s1 0)) → (pm_lp2 (fun (P10 : Int32 → pm_I → Prop) (x12 : Int32) (I11 : pm_I) => ((Int32.ofNat (pm_slen.getD s1 0)) ≤ x12 → K 1 I11) ∧ (¬ (Int32.ofNat (pm_slen.getD s1 0)) ≤ x12 → (vp_in ((I11 q0 4) + x12) 600 ∧ (vp_in (x12) (pm_slen.getD s1 0) ∧ (((I11 2 ((I11 q0 4) + x12).toNatClampNeg) = ((pm_sbyt.getD s1 []).getD (x12).toNatClampNeg 0) → (P10 (x12 + 1) I11)) ∧ (¬ (I11 2 ((I11 q0 4) + x12).toNatClampNeg) = ((pm_sbyt.getD s1 []).getD (x12).toNatClampNeg 0) → K 0 I11)))))) (0) I)) ∧ (¬ ((I q0 3) - (I q0 4)) = (Int32.ofNat (pm_slen.getD s1 0)) → K 0 I)))

set_option maxRecDepth 20000 in
theorem sX2_wordIs {G : pm_G} {l : Launch} (hG : pm_ok G) (hS : pm_str G) (q0 : Nat) (s1 : Nat) (I : pm_I) (K : Int32 → pm_I → Prop) (hk0 : pm_k G q0 (.inl 2)) (hs1 : s1 < 11) (h : wX2_wordIs G q0 s1 I K) : pm_Ct G l yX2_wordIs cX2_wordIs 3 (some .boolean) { frames := 5, cells := 0, slots := 0, locals := 435 } [.ref (q0), .ref (1000000 + s1)] I (pm_Ki K) := by
  unfold wX2_wordIs at h
  refine pm_enter (by decide +kernel) hG rfl (Nat.le_of_ble_eq_true rfl) rfl (fun X hl hC hE => ?_)
  subst hl
  have hab : 0 ≤ 0 ∧ 0 ≤ 0 := ⟨Nat.le_refl 0, Nat.le_refl 0⟩
  have hC : pm_C G X cX2_wordIs 3 RX2 (some .boolean) { frames := 5, cells := 0, slots := 0, locals := 435 } := hC
  refine r_aload_n 0 hC dX2_wordIs_0 rfl rfl ?_
  refine r_getI2 1 (x := I (q0) 5) hC hk0 5 (by decide) tw_524 rfl rfl dX2_wordIs_1 ?_
  refine r_iconst 4 (v := 1) hC dX2_wordIs_4 (by decide) ?_
  refine r_icmp_ne 5 24 hC dX2_wordIs_5 (by decide) (fun hc => ?_) (fun hc => ?_)
  · replace h := h.1 hc
    refine r_iconst 24 (v := 0) hC dX2_wordIs_24 (by decide) ?_
    exact r_iret 25 hC hE rfl dX2_wordIs_25 ⟨_, rfl, h⟩
  · replace h := h.2 hc
    refine r_aload_n 8 hC dX2_wordIs_8 rfl rfl ?_
    refine r_getI2 9 (x := I (q0) 3) hC hk0 3 (by decide) tw_522 rfl rfl dX2_wordIs_9 ?_
    refine r_aload_n 12 hC dX2_wordIs_12 rfl rfl ?_
    refine r_getI2 13 (x := I (q0) 4) hC hk0 4 (by decide) tw_523 rfl rfl dX2_wordIs_13 ?_
    refine r_isub 16 hC dX2_wordIs_16 ?_
    refine r_aload_n 17 hC dX2_wordIs_17 rfl rfl ?_
    refine r_callStr 18 (n := 0) [] [.int ((I q0 3) - (I q0 4))] hS hs1 hC dX2_wordIs_18 (by decide) (by decide) tw_584 tw_141 ⟨by decide, by decide, by decide +kernel⟩ tw_581 tw_582 tw_583 rfl rfl (sJ0_length_8abf5 hG hS s1 hs1 I) hab (Nat.le_of_ble_eq_true rfl) ?_
    rintro _ _ ⟨rfl, rfl⟩
    refine r_icmp_eq 21 26 hC dX2_wordIs_21 (by decide) (fun hc => ?_) (fun hc => ?_)
    · replace h := h.1 hc
      refine r_iconst 26 (v := 0) hC dX2_wordIs_26 (by decide) ?_
      refine r_istore_n 27 [some (.ref (q0)), some (.ref (1000000 + s1)), some (.int (0))] hC dX2_wordIs_27 rfl (by decide) rfl ?_
      refine h (fun x12 I11 => pm_R G X 3 0 0 28 [some (.ref (q0)), some (.ref (1000000 + s1)), some (.int (x12))] [] I11) ?_
      clear h; intro x12 I11 h
      refine r_iload_n 28 hC dX2_wordIs_28 rfl rfl ?_
      refine r_aload_n 29 hC dX2_wordIs_29 rfl rfl ?_
      refine r_callStr 30 (n := 0) [] [.int (x12)] hS hs1 hC dX2_wordIs_30 (by decide) (by decide) tw_584 tw_141 ⟨by decide, by decide, by decide +kernel⟩ tw_581 tw_582 tw_583 rfl rfl (sJ0_length_8abf5 hG hS s1 hs1 I11) hab (Nat.le_of_ble_eq_true rfl) ?_
      rintro _ _ ⟨rfl, rfl⟩
      refine r_icmp_ge 33 63 hC dX2_wordIs_33 (by decide) (fun hc => ?_) (fun hc => ?_)
      · replace h := h.1 hc
        refine r_iconst 63 (v := 1) hC dX2_wordIs_63 (by decide) ?_
        exact r_iret 64 hC hE rfl dX2_wordIs_64 ⟨_, rfl, h⟩
      · replace h := h.2 hc
        refine r_aload_n 36 hC dX2_wordIs_36 rfl rfl ?_
        refine r_getR2 37 (r1 := 2) hC hk0 0 (by decide) tw_519 rfl rfl dX2_wordIs_37 ?_
        refine r_aload_n 40 hC dX2_wordIs_40 rfl rfl ?_
        refine r_getI2 41 (x := I11 (q0) 4) hC hk0 4 (by decide) tw_523 rfl rfl dX2_wordIs_41 ?_
        refine r_iload_n 44 hC dX2_wordIs_44 rfl rfl ?_
        refine r_iadd 45 hC dX2_wordIs_45 ?_
        refine r_bald 46 hC ((pm_s2 hG hk0)) h.1 dX2_wordIs_46 ?_
        replace h := h.2
        refine r_aload_n 47 hC dX2_wordIs_47 rfl rfl ?_
        refine r_iload_n 48 hC dX2_wordIs_48 rfl rfl ?_
        have hg13 := h.1; replace h := h.2
        refine r_callStr 49 (n := 1) [.int (x12)] [.int (I11 (2) ((I11 q0 4) + x12).toNatClampNeg)] hS hs1 hC dX2_wordIs_49 (by decide) (by decide) tw_594 tw_141 ⟨by decide, by decide, by decide +kernel⟩ tw_591 tw_592 tw_593 rfl rfl (sJ0_charAt_5068e hG hS s1 hs1 (x12) hg13 I11) hab (Nat.le_of_ble_eq_true rfl) ?_
        rintro _ _ ⟨rfl, rfl⟩
        refine r_icmp_eq 52 57 hC dX2_wordIs_52 (by decide) (fun hc => ?_) (fun hc => ?_)
        · replace h := h.1 hc
          refine r_iinc 57 (v := x12 + 1) [some (.ref (q0)), some (.ref (1000000 + s1)), some (.int (x12 + 1))] hC dX2_wordIs_57 rfl (by rfl) (by decide) rfl ?_
          refine r_goto 60 28 hC dX2_wordIs_60 (by decide) ?_
          exact h
        · replace h := h.2 hc
          refine r_iconst 55 (v := 0) hC dX2_wordIs_55 (by decide) ?_
          exact r_iret 56 hC hE rfl dX2_wordIs_56 ⟨_, rfl, h⟩
    · replace h := h.2 hc
      refine r_iconst 24 (v := 0) hC dX2_wordIs_24 (by decide) ?_
      exact r_iret 25 hC hE rfl dX2_wordIs_25 ⟨_, rfl, h⟩

def wX2_readNumber (G : pm_G) (q0 : Nat) (x1 : Int32) (x2 : Int32) (x3 : Int32) (I : pm_I) (K : Int32 → pm_I → Prop) : Prop :=
  ((I q0 5) = 2 → (((I q0 6) < x1 → (wX2_fail G (q0) (3) I (fun I10 => K (0) I10))) ∧ (¬ (I q0 6) < x1 → (((I q0 6) ≤ x2 → ((¬ (I q0 6) = x3 → (wX2_advance G (q0) I (fun I11 => K (I (q0) 6) I11))) ∧ ((I q0 6) = x3 → (wX2_fail G (q0) (5) I (fun I12 => K (0) I12))))) ∧ (¬ (I q0 6) ≤ x2 → (wX2_fail G (q0) (3) I (fun I13 => K (0) I13))))))) ∧ (¬ (I q0 5) = 2 → (wX2_fail G (q0) (1) I (fun I14 => K (0) I14)))

set_option maxRecDepth 20000 in
theorem sX2_readNumber {G : pm_G} {l : Launch} (hG : pm_ok G) (q0 : Nat) (x1 : Int32) (x2 : Int32) (x3 : Int32) (I : pm_I) (K : Int32 → pm_I → Prop) (hk0 : pm_k G q0 (.inl 2)) (h : wX2_readNumber G q0 x1 x2 x3 I K) : pm_Ct G l yX2_readNumber cX2_readNumber 5 (some .int) { frames := 3, cells := 0, slots := 0, locals := 233 } [.ref (q0), .int (x1), .int (x2), .int (x3)] I (pm_Ki K) := by
  unfold wX2_readNumber at h
  refine pm_enter (by decide +kernel) hG rfl (Nat.le_of_ble_eq_true rfl) rfl (fun X hl hC hE => ?_)
  subst hl
  have hab : 0 ≤ 0 ∧ 0 ≤ 0 := ⟨Nat.le_refl 0, Nat.le_refl 0⟩
  have hC : pm_C G X cX2_readNumber 5 RX2 (some .int) { frames := 3, cells := 0, slots := 0, locals := 233 } := hC
  refine r_aload_n 0 hC dX2_readNumber_0 rfl rfl ?_
  refine r_getI2 1 (x := I (q0) 5) hC hk0 5 (by decide) tw_524 rfl rfl dX2_readNumber_1 ?_
  refine r_iconst 4 (v := 2) hC dX2_readNumber_4 (by decide) ?_
  refine r_icmp_eq 5 15 hC dX2_readNumber_5 (by decide) (fun hc => ?_) (fun hc => ?_)
  · replace h := h.1 hc
    refine r_aload_n 15 hC dX2_readNumber_15 rfl rfl ?_
    refine r_getI2 16 (x := I (q0) 6) hC hk0 6 (by decide) tw_525 rfl rfl dX2_readNumber_16 ?_
    refine r_istore 19 [some (.ref (q0)), some (.int (x1)), some (.int (x2)), some (.int (x3)), some (.int (I (q0) 6))] hC dX2_readNumber_19 (by decide) rfl ?_
    refine r_iload 21 hC dX2_readNumber_21 rfl ?_
    refine r_iload_n 23 hC dX2_readNumber_23 rfl rfl ?_
    refine r_icmp_lt 24 33 hC dX2_readNumber_24 (by decide) (fun hc => ?_) (fun hc => ?_)
    · replace h := h.1 hc
      refine r_aload_n 33 hC dX2_readNumber_33 rfl rfl ?_
      refine r_iconst 34 (v := 3) hC dX2_readNumber_34 (by decide) ?_
      refine r_callV_v 35 (n := 1) [.int (3)] [] hC hk0 rfl dX2_readNumber_35 (by decide) (by decide) tw_636 tw_140 ⟨by decide, by decide, by decide +kernel⟩ tw_633 tw_635 tw_17 rfl rfl (sX2_fail (l := pm_l X) hG (q0) (3) _ _ hk0 h) hab (Nat.le_of_ble_eq_true rfl) ?_
      clear h; intro I10 h
      refine r_iconst 38 (v := 0) hC dX2_readNumber_38 (by decide) ?_
      exact r_iret 39 hC hE rfl dX2_readNumber_39 ⟨_, rfl, h⟩
    · replace h := h.2 hc
      refine r_iload 27 hC dX2_readNumber_27 rfl ?_
      refine r_iload_n 29 hC dX2_readNumber_29 rfl rfl ?_
      refine r_icmp_le 30 40 hC dX2_readNumber_30 (by decide) (fun hc => ?_) (fun hc => ?_)
      · replace h := h.1 hc
        refine r_iload 40 hC dX2_readNumber_40 rfl ?_
        refine r_iload_n 42 hC dX2_readNumber_42 rfl rfl ?_
        refine r_icmp_ne 43 53 hC dX2_readNumber_43 (by decide) (fun hc => ?_) (fun hc => ?_)
        · replace h := h.1 hc
          refine r_aload_n 53 hC dX2_readNumber_53 rfl rfl ?_
          refine r_callV_v 54 (n := 0) [] [] hC hk0 rfl dX2_readNumber_54 (by decide) (by decide) tw_559 tw_140 ⟨by decide, by decide, by decide +kernel⟩ tw_556 tw_558 tw_10 rfl rfl (sX2_advance (l := pm_l X) hG (q0) _ _ hk0 h) hab (Nat.le_of_ble_eq_true rfl) ?_
          clear h; intro I11 h
          refine r_iload 57 hC dX2_readNumber_57 rfl ?_
          exact r_iret 59 hC hE rfl dX2_readNumber_59 ⟨_, rfl, h⟩
        · replace h := h.2 hc
          refine r_aload_n 46 hC dX2_readNumber_46 rfl rfl ?_
          refine r_iconst 47 (v := 5) hC dX2_readNumber_47 (by decide) ?_
          refine r_callV_v 48 (n := 1) [.int (5)] [] hC hk0 rfl dX2_readNumber_48 (by decide) (by decide) tw_636 tw_140 ⟨by decide, by decide, by decide +kernel⟩ tw_633 tw_635 tw_17 rfl rfl (sX2_fail (l := pm_l X) hG (q0) (5) _ _ hk0 h) hab (Nat.le_of_ble_eq_true rfl) ?_
          clear h; intro I12 h
          refine r_iconst 51 (v := 0) hC dX2_readNumber_51 (by decide) ?_
          exact r_iret 52 hC hE rfl dX2_readNumber_52 ⟨_, rfl, h⟩
      · replace h := h.2 hc
        refine r_aload_n 33 hC dX2_readNumber_33 rfl rfl ?_
        refine r_iconst 34 (v := 3) hC dX2_readNumber_34 (by decide) ?_
        refine r_callV_v 35 (n := 1) [.int (3)] [] hC hk0 rfl dX2_readNumber_35 (by decide) (by decide) tw_636 tw_140 ⟨by decide, by decide, by decide +kernel⟩ tw_633 tw_635 tw_17 rfl rfl (sX2_fail (l := pm_l X) hG (q0) (3) _ _ hk0 h) hab (Nat.le_of_ble_eq_true rfl) ?_
        clear h; intro I13 h
        refine r_iconst 38 (v := 0) hC dX2_readNumber_38 (by decide) ?_
        exact r_iret 39 hC hE rfl dX2_readNumber_39 ⟨_, rfl, h⟩
  · replace h := h.2 hc
    refine r_aload_n 8 hC dX2_readNumber_8 rfl rfl ?_
    refine r_iconst 9 (v := 1) hC dX2_readNumber_9 (by decide) ?_
    refine r_callV_v 10 (n := 1) [.int (1)] [] hC hk0 rfl dX2_readNumber_10 (by decide) (by decide) tw_636 tw_140 ⟨by decide, by decide, by decide +kernel⟩ tw_633 tw_635 tw_17 rfl rfl (sX2_fail (l := pm_l X) hG (q0) (1) _ _ hk0 h) hab (Nat.le_of_ble_eq_true rfl) ?_
    clear h; intro I14 h
    refine r_iconst 13 (v := 0) hC dX2_readNumber_13 (by decide) ?_
    exact r_iret 14 hC hE rfl dX2_readNumber_14 ⟨_, rfl, h⟩

def wX2_beginsOnly (G : pm_G) (q0 : Nat) (x1 : Int32) (I : pm_I) (K : Int32 → pm_I → Prop) : Prop :=
  (((I q0 7) &&& x1) = 0 → (∀ I10 : pm_I, I10 = pm_up I (q0) 7 ((I q0 7) ||| x1) → (wX2_advance G (q0) I10 (fun I11 => K 1 I11)))) ∧ (¬ ((I q0 7) &&& x1) = 0 → (wX2_fail G (q0) (2) I (fun I12 => K 0 I12)))

set_option maxRecDepth 20000 in
theorem sX2_beginsOnly {G : pm_G} {l : Launch} (hG : pm_ok G) (q0 : Nat) (x1 : Int32) (I : pm_I) (K : Int32 → pm_I → Prop) (hk0 : pm_k G q0 (.inl 2)) (h : wX2_beginsOnly G q0 x1 I K) : pm_Ct G l yX2_beginsOnly cX2_beginsOnly 2 (some .boolean) { frames := 3, cells := 0, slots := 0, locals := 233 } [.ref (q0), .int (x1)] I (pm_Ki K) := by
  unfold wX2_beginsOnly at h
  refine pm_enter (by decide +kernel) hG rfl (Nat.le_of_ble_eq_true rfl) rfl (fun X hl hC hE => ?_)
  subst hl
  have hab : 0 ≤ 0 ∧ 0 ≤ 0 := ⟨Nat.le_refl 0, Nat.le_refl 0⟩
  have hC : pm_C G X cX2_beginsOnly 2 RX2 (some .boolean) { frames := 3, cells := 0, slots := 0, locals := 233 } := hC
  refine r_aload_n 0 hC dX2_beginsOnly_0 rfl rfl ?_
  refine r_getI2 1 (x := I (q0) 7) hC hk0 7 (by decide) tw_526 rfl rfl dX2_beginsOnly_1 ?_
  refine r_iload_n 4 hC dX2_beginsOnly_4 rfl rfl ?_
  refine r_iand 5 hC dX2_beginsOnly_5 ?_
  refine r_if_eq 6 16 hC dX2_beginsOnly_6 (by decide) (fun hc => ?_) (fun hc => ?_)
  · replace h := h.1 hc
    refine r_aload_n 16 hC dX2_beginsOnly_16 rfl rfl ?_
    refine r_dup 17 hC dX2_beginsOnly_17 rfl ?_
    refine r_getI2 18 (x := I (q0) 7) hC hk0 7 (by decide) tw_526 rfl rfl dX2_beginsOnly_18 ?_
    refine r_iload_n 21 hC dX2_beginsOnly_21 rfl rfl ?_
    refine r_ior 22 hC dX2_beginsOnly_22 ?_
    refine r_putI2 23 hC hk0 7 (by decide) tw_526 rfl rfl (by decide +kernel) ps_2_7 dX2_beginsOnly_23 (fun I10 hI => ?_)
    replace h := h I10 hI; clear hI
    refine r_aload_n 26 hC dX2_beginsOnly_26 rfl rfl ?_
    refine r_callV_v 27 (n := 0) [] [] hC hk0 rfl dX2_beginsOnly_27 (by decide) (by decide) tw_559 tw_140 ⟨by decide, by decide, by decide +kernel⟩ tw_556 tw_558 tw_10 rfl rfl (sX2_advance (l := pm_l X) hG (q0) _ _ hk0 h) hab (Nat.le_of_ble_eq_true rfl) ?_
    clear h; intro I11 h
    refine r_iconst 30 (v := 1) hC dX2_beginsOnly_30 (by decide) ?_
    exact r_iret 31 hC hE rfl dX2_beginsOnly_31 ⟨_, rfl, h⟩
  · replace h := h.2 hc
    refine r_aload_n 9 hC dX2_beginsOnly_9 rfl rfl ?_
    refine r_iconst 10 (v := 2) hC dX2_beginsOnly_10 (by decide) ?_
    refine r_callV_v 11 (n := 1) [.int (2)] [] hC hk0 rfl dX2_beginsOnly_11 (by decide) (by decide) tw_636 tw_140 ⟨by decide, by decide, by decide +kernel⟩ tw_633 tw_635 tw_17 rfl rfl (sX2_fail (l := pm_l X) hG (q0) (2) _ _ hk0 h) hab (Nat.le_of_ble_eq_true rfl) ?_
    clear h; intro I12 h
    refine r_iconst 14 (v := 0) hC dX2_beginsOnly_14 (by decide) ?_
    exact r_iret 15 hC hE rfl dX2_beginsOnly_15 ⟨_, rfl, h⟩

def wX2_readPeer (G : pm_G) (q0 : Nat) (I : pm_I) (K : pm_I → Prop) : Prop :=
  pm_k G ((I (q0) 2).toNatClampNeg) (.inl 1) ∧ (((I ((I q0 2).toNatClampNeg) 0) < 8 → (wX2_advance G (q0) I (fun I11 => wX2_readNumber G (q0) (0) (9) (-1) I11 (fun r13 I12 => wX2_readNumber G (q0) (0) (9) (-1) I12 (fun r15 I14 => (¬ (I14 q0 8) = 0 → K I14) ∧ ((I14 q0 8) = 0 → (pm_k G ((I14 (q0) 2).toNatClampNeg) (.inl 1) ∧ (wX1_addPeer G ((I14 (q0) 2).toNatClampNeg) (r13) (r15) I14 (fun I17 => K I17))))))))) ∧ (¬ (I ((I q0 2).toNatClampNeg) 0) < 8 → (wX2_fail G (q0) (4) I (fun I18 => K I18))))

set_option maxRecDepth 20000 in
theorem sX2_readPeer {G : pm_G} {l : Launch} (hG : pm_ok G) (q0 : Nat) (I : pm_I) (K : pm_I → Prop) (hk0 : pm_k G q0 (.inl 2)) (h : wX2_readPeer G q0 I K) : pm_Ct G l yX2_readPeer cX2_readPeer 3 none { frames := 4, cells := 0, slots := 0, locals := 321 } [.ref (q0)] I (pm_Kv K) := by
  unfold wX2_readPeer at h
  refine pm_enter (by decide +kernel) hG rfl (Nat.le_of_ble_eq_true rfl) rfl (fun X hl hC hE => ?_)
  subst hl
  have hab : 0 ≤ 0 ∧ 0 ≤ 0 := ⟨Nat.le_refl 0, Nat.le_refl 0⟩
  have hC : pm_C G X cX2_readPeer 3 RX2 none { frames := 4, cells := 0, slots := 0, locals := 321 } := hC
  refine r_aload_n 0 hC dX2_readPeer_0 rfl rfl ?_
  refine r_getR2 1 (r1 := (I (q0) 2).toNatClampNeg) hC hk0 2 (by decide) tw_521 rfl rfl dX2_readPeer_1 ?_
  have hg10 := h.1; replace h := h.2
  refine r_getIN1 4 (x := I ((I (q0) 2).toNatClampNeg) 0) hC hg10 0 (by decide) tw_202 rfl rfl dX2_readPeer_4 ?_
  refine r_bipush 7 (v := 8) hC dX2_readPeer_7 (by decide) ?_
  refine r_icmp_lt 9 18 hC dX2_readPeer_9 (by decide) (fun hc => ?_) (fun hc => ?_)
  · replace h := h.1 hc
    refine r_aload_n 18 hC dX2_readPeer_18 rfl rfl ?_
    refine r_callV_v 19 (n := 0) [] [] hC hk0 rfl dX2_readPeer_19 (by decide) (by decide) tw_559 tw_140 ⟨by decide, by decide, by decide +kernel⟩ tw_556 tw_558 tw_10 rfl rfl (sX2_advance (l := pm_l X) hG (q0) _ _ hk0 h) hab (Nat.le_of_ble_eq_true rfl) ?_
    clear h; intro I11 h
    refine r_aload_n 22 hC dX2_readPeer_22 rfl rfl ?_
    refine r_iconst 23 (v := 0) hC dX2_readPeer_23 (by decide) ?_
    refine r_bipush 24 (v := 9) hC dX2_readPeer_24 (by decide) ?_
    refine r_iconst 26 (v := -1) hC dX2_readPeer_26 (by decide) ?_
    refine r_callV_i 27 (n := 3) [.int (0), .int (9), .int (-1)] [] hC hk0 rfl dX2_readPeer_27 (by decide) (by decide) tw_640 tw_140 ⟨by decide, by decide, by decide +kernel⟩ tw_637 tw_639 tw_18 rfl rfl (sX2_readNumber (l := pm_l X) hG (q0) (0) (9) (-1) _ _ hk0 h) hab (Nat.le_of_ble_eq_true rfl) ?_
    clear h; intro r13 I12 h
    refine r_istore_n 30 [some (.ref (q0)), some (.int (r13)), none] hC dX2_readPeer_30 rfl (by decide) rfl ?_
    refine r_aload_n 31 hC dX2_readPeer_31 rfl rfl ?_
    refine r_iconst 32 (v := 0) hC dX2_readPeer_32 (by decide) ?_
    refine r_bipush 33 (v := 9) hC dX2_readPeer_33 (by decide) ?_
    refine r_iconst 35 (v := -1) hC dX2_readPeer_35 (by decide) ?_
    refine r_callV_i 36 (n := 3) [.int (0), .int (9), .int (-1)] [] hC hk0 rfl dX2_readPeer_36 (by decide) (by decide) tw_640 tw_140 ⟨by decide, by decide, by decide +kernel⟩ tw_637 tw_639 tw_18 rfl rfl (sX2_readNumber (l := pm_l X) hG (q0) (0) (9) (-1) _ _ hk0 h) hab (Nat.le_of_ble_eq_true rfl) ?_
    clear h; intro r15 I14 h
    refine r_istore_n 39 [some (.ref (q0)), some (.int (r13)), some (.int (r15))] hC dX2_readPeer_39 rfl (by decide) rfl ?_
    refine r_aload_n 40 hC dX2_readPeer_40 rfl rfl ?_
    refine r_getI2 41 (x := I14 (q0) 8) hC hk0 8 (by decide) tw_527 rfl rfl dX2_readPeer_41 ?_
    refine r_if_ne 44 56 hC dX2_readPeer_44 (by decide) (fun hc => ?_) (fun hc => ?_)
    · replace h := h.1 hc
      exact r_vret 56 hC hE dX2_readPeer_56 ⟨rfl, h⟩
    · replace h := h.2 hc
      refine r_aload_n 47 hC dX2_readPeer_47 rfl rfl ?_
      refine r_getR2 48 (r1 := (I14 (q0) 2).toNatClampNeg) hC hk0 2 (by decide) tw_521 rfl rfl dX2_readPeer_48 ?_
      have hg16 := h.1; replace h := h.2
      refine r_iload_n 51 hC dX2_readPeer_51 rfl rfl ?_
      refine r_iload_n 52 hC dX2_readPeer_52 rfl rfl ?_
      refine r_callVN_v 53 (n := 2) [.int (r13), .int (r15)] [] hC hg16 rfl dX2_readPeer_53 (by decide) (by decide) tw_644 tw_130 ⟨by decide, by decide, by decide +kernel⟩ tw_641 tw_643 tw_19 rfl rfl (sX1_addPeer (l := pm_l X) hG ((I14 (q0) 2).toNatClampNeg) (r13) (r15) _ _ hg16 h) hab (Nat.le_of_ble_eq_true rfl) ?_
      clear h; intro I17 h
      exact r_vret 56 hC hE dX2_readPeer_56 ⟨rfl, h⟩
  · replace h := h.2 hc
    refine r_aload_n 12 hC dX2_readPeer_12 rfl rfl ?_
    refine r_iconst 13 (v := 4) hC dX2_readPeer_13 (by decide) ?_
    refine r_callV_v 14 (n := 1) [.int (4)] [] hC hk0 rfl dX2_readPeer_14 (by decide) (by decide) tw_636 tw_140 ⟨by decide, by decide, by decide +kernel⟩ tw_633 tw_635 tw_17 rfl rfl (sX2_fail (l := pm_l X) hG (q0) (4) _ _ hk0 h) hab (Nat.le_of_ble_eq_true rfl) ?_
    clear h; intro I18 h
    exact r_vret 17 hC hE dX2_readPeer_17 ⟨rfl, h⟩

def wX2_readLink (G : pm_G) (q0 : Nat) (I : pm_I) (K : pm_I → Prop) : Prop :=
  wX2_advance G (q0) I (fun I10 => pm_k G ((I10 (q0) 2).toNatClampNeg) (.inl 1) ∧ (wX2_readNumber G (q0) (0) ((I10 ((I10 q0 2).toNatClampNeg) 0) - 1) (-1) I10 (fun r13 I12 => pm_k G ((I12 (q0) 2).toNatClampNeg) (.inl 1) ∧ (wX2_readNumber G (q0) (0) ((I12 ((I12 q0 2).toNatClampNeg) 0) - 1) (r13) I12 (fun r16 I15 => wX2_readNumber G (q0) (1) (99) (-1) I15 (fun r18 I17 => (¬ (I17 q0 8) = 0 → K I17) ∧ ((I17 q0 8) = 0 → (pm_k G ((I17 (q0) 2).toNatClampNeg) (.inl 1) ∧ (wX1_addLink G ((I17 (q0) 2).toNatClampNeg) (r13) (r16) (r18) I17 (fun I20 => K I20))))))))))

set_option maxRecDepth 20000 in
theorem sX2_readLink {G : pm_G} {l : Launch} (hG : pm_ok G) (q0 : Nat) (I : pm_I) (K : pm_I → Prop) (hk0 : pm_k G q0 (.inl 2)) (h : wX2_readLink G q0 I K) : pm_Ct G l yX2_readLink cX2_readLink 4 none { frames := 4, cells := 0, slots := 0, locals := 321 } [.ref (q0)] I (pm_Kv K) := by
  unfold wX2_readLink at h
  refine pm_enter (by decide +kernel) hG rfl (Nat.le_of_ble_eq_true rfl) rfl (fun X hl hC hE => ?_)
  subst hl
  have hab : 0 ≤ 0 ∧ 0 ≤ 0 := ⟨Nat.le_refl 0, Nat.le_refl 0⟩
  have hC : pm_C G X cX2_readLink 4 RX2 none { frames := 4, cells := 0, slots := 0, locals := 321 } := hC
  refine r_aload_n 0 hC dX2_readLink_0 rfl rfl ?_
  refine r_callV_v 1 (n := 0) [] [] hC hk0 rfl dX2_readLink_1 (by decide) (by decide) tw_559 tw_140 ⟨by decide, by decide, by decide +kernel⟩ tw_556 tw_558 tw_10 rfl rfl (sX2_advance (l := pm_l X) hG (q0) _ _ hk0 h) hab (Nat.le_of_ble_eq_true rfl) ?_
  clear h; intro I10 h
  refine r_aload_n 4 hC dX2_readLink_4 rfl rfl ?_
  refine r_iconst 5 (v := 0) hC dX2_readLink_5 (by decide) ?_
  refine r_aload_n 6 hC dX2_readLink_6 rfl rfl ?_
  refine r_getR2 7 (r1 := (I10 (q0) 2).toNatClampNeg) hC hk0 2 (by decide) tw_521 rfl rfl dX2_readLink_7 ?_
  have hg11 := h.1; replace h := h.2
  refine r_getIN1 10 (x := I10 ((I10 (q0) 2).toNatClampNeg) 0) hC hg11 0 (by decide) tw_202 rfl rfl dX2_readLink_10 ?_
  refine r_iconst 13 (v := 1) hC dX2_readLink_13 (by decide) ?_
  refine r_isub 14 hC dX2_readLink_14 ?_
  refine r_iconst 15 (v := -1) hC dX2_readLink_15 (by decide) ?_
  refine r_callV_i 16 (n := 3) [.int (0), .int ((I10 ((I10 q0 2).toNatClampNeg) 0) - 1), .int (-1)] [] hC hk0 rfl dX2_readLink_16 (by decide) (by decide) tw_640 tw_140 ⟨by decide, by decide, by decide +kernel⟩ tw_637 tw_639 tw_18 rfl rfl (sX2_readNumber (l := pm_l X) hG (q0) (0) ((I10 ((I10 q0 2).toNatClampNeg) 0) - 1) (-1) _ _ hk0 h) hab (Nat.le_of_ble_eq_true rfl) ?_
  clear h; intro r13 I12 h
  refine r_istore_n 19 [some (.ref (q0)), some (.int (r13)), none, none] hC dX2_readLink_19 rfl (by decide) rfl ?_
  refine r_aload_n 20 hC dX2_readLink_20 rfl rfl ?_
  refine r_iconst 21 (v := 0) hC dX2_readLink_21 (by decide) ?_
  refine r_aload_n 22 hC dX2_readLink_22 rfl rfl ?_
  refine r_getR2 23 (r1 := (I12 (q0) 2).toNatClampNeg) hC hk0 2 (by decide) tw_521 rfl rfl dX2_readLink_23 ?_
  have hg14 := h.1; replace h := h.2
  refine r_getIN1 26 (x := I12 ((I12 (q0) 2).toNatClampNeg) 0) hC hg14 0 (by decide) tw_202 rfl rfl dX2_readLink_26 ?_
  refine r_iconst 29 (v := 1) hC dX2_readLink_29 (by decide) ?_
  refine r_isub 30 hC dX2_readLink_30 ?_
  refine r_iload_n 31 hC dX2_readLink_31 rfl rfl ?_
  refine r_callV_i 32 (n := 3) [.int (0), .int ((I12 ((I12 q0 2).toNatClampNeg) 0) - 1), .int (r13)] [] hC hk0 rfl dX2_readLink_32 (by decide) (by decide) tw_640 tw_140 ⟨by decide, by decide, by decide +kernel⟩ tw_637 tw_639 tw_18 rfl rfl (sX2_readNumber (l := pm_l X) hG (q0) (0) ((I12 ((I12 q0 2).toNatClampNeg) 0) - 1) (r13) _ _ hk0 h) hab (Nat.le_of_ble_eq_true rfl) ?_
  clear h; intro r16 I15 h
  refine r_istore_n 35 [some (.ref (q0)), some (.int (r13)), some (.int (r16)), none] hC dX2_readLink_35 rfl (by decide) rfl ?_
  refine r_aload_n 36 hC dX2_readLink_36 rfl rfl ?_
  refine r_iconst 37 (v := 1) hC dX2_readLink_37 (by decide) ?_
  refine r_bipush 38 (v := 99) hC dX2_readLink_38 (by decide) ?_
  refine r_iconst 40 (v := -1) hC dX2_readLink_40 (by decide) ?_
  refine r_callV_i 41 (n := 3) [.int (1), .int (99), .int (-1)] [] hC hk0 rfl dX2_readLink_41 (by decide) (by decide) tw_640 tw_140 ⟨by decide, by decide, by decide +kernel⟩ tw_637 tw_639 tw_18 rfl rfl (sX2_readNumber (l := pm_l X) hG (q0) (1) (99) (-1) _ _ hk0 h) hab (Nat.le_of_ble_eq_true rfl) ?_
  clear h; intro r18 I17 h
  refine r_istore_n 44 [some (.ref (q0)), some (.int (r13)), some (.int (r16)), some (.int (r18))] hC dX2_readLink_44 rfl (by decide) rfl ?_
  refine r_aload_n 45 hC dX2_readLink_45 rfl rfl ?_
  refine r_getI2 46 (x := I17 (q0) 8) hC hk0 8 (by decide) tw_527 rfl rfl dX2_readLink_46 ?_
  refine r_if_ne 49 62 hC dX2_readLink_49 (by decide) (fun hc => ?_) (fun hc => ?_)
  · replace h := h.1 hc
    exact r_vret 62 hC hE dX2_readLink_62 ⟨rfl, h⟩
  · replace h := h.2 hc
    refine r_aload_n 52 hC dX2_readLink_52 rfl rfl ?_
    refine r_getR2 53 (r1 := (I17 (q0) 2).toNatClampNeg) hC hk0 2 (by decide) tw_521 rfl rfl dX2_readLink_53 ?_
    have hg19 := h.1; replace h := h.2
    refine r_iload_n 56 hC dX2_readLink_56 rfl rfl ?_
    refine r_iload_n 57 hC dX2_readLink_57 rfl rfl ?_
    refine r_iload_n 58 hC dX2_readLink_58 rfl rfl ?_
    refine r_callVN_v 59 (n := 3) [.int (r13), .int (r16), .int (r18)] [] hC hg19 rfl dX2_readLink_59 (by decide) (by decide) tw_653 tw_130 ⟨by decide, by decide, by decide +kernel⟩ tw_650 tw_652 tw_21 rfl rfl (sX1_addLink (l := pm_l X) hG ((I17 (q0) 2).toNatClampNeg) (r13) (r16) (r18) _ _ hg19 h) hab (Nat.le_of_ble_eq_true rfl) ?_
    clear h; intro I20 h
    exact r_vret 62 hC hE dX2_readLink_62 ⟨rfl, h⟩

def wX2_readKnows (G : pm_G) (q0 : Nat) (I : pm_I) (K : pm_I → Prop) : Prop :=
  wX2_advance G (q0) I (fun I10 => pm_k G ((I10 (q0) 2).toNatClampNeg) (.inl 1) ∧ (wX2_readNumber G (q0) (0) ((I10 ((I10 q0 2).toNatClampNeg) 0) - 1) (-1) I10 (fun r13 I12 => pm_k G ((I12 (q0) 2).toNatClampNeg) (.inl 1) ∧ (wX2_readNumber G (q0) (0) ((I12 ((I12 q0 2).toNatClampNeg) 0) - 1) (r13) I12 (fun r16 I15 => (¬ (I15 q0 8) = 0 → K I15) ∧ ((I15 q0 8) = 0 → (pm_k G ((I15 (q0) 2).toNatClampNeg) (.inl 1) ∧ (wX1_addAcquaintance G ((I15 (q0) 2).toNatClampNeg) (r13) (r16) I15 (fun I18 => K I18)))))))))

set_option maxRecDepth 20000 in
theorem sX2_readKnows {G : pm_G} {l : Launch} (hG : pm_ok G) (q0 : Nat) (I : pm_I) (K : pm_I → Prop) (hk0 : pm_k G q0 (.inl 2)) (h : wX2_readKnows G q0 I K) : pm_Ct G l yX2_readKnows cX2_readKnows 3 none { frames := 4, cells := 0, slots := 0, locals := 321 } [.ref (q0)] I (pm_Kv K) := by
  unfold wX2_readKnows at h
  refine pm_enter (by decide +kernel) hG rfl (Nat.le_of_ble_eq_true rfl) rfl (fun X hl hC hE => ?_)
  subst hl
  have hab : 0 ≤ 0 ∧ 0 ≤ 0 := ⟨Nat.le_refl 0, Nat.le_refl 0⟩
  have hC : pm_C G X cX2_readKnows 3 RX2 none { frames := 4, cells := 0, slots := 0, locals := 321 } := hC
  refine r_aload_n 0 hC dX2_readKnows_0 rfl rfl ?_
  refine r_callV_v 1 (n := 0) [] [] hC hk0 rfl dX2_readKnows_1 (by decide) (by decide) tw_559 tw_140 ⟨by decide, by decide, by decide +kernel⟩ tw_556 tw_558 tw_10 rfl rfl (sX2_advance (l := pm_l X) hG (q0) _ _ hk0 h) hab (Nat.le_of_ble_eq_true rfl) ?_
  clear h; intro I10 h
  refine r_aload_n 4 hC dX2_readKnows_4 rfl rfl ?_
  refine r_iconst 5 (v := 0) hC dX2_readKnows_5 (by decide) ?_
  refine r_aload_n 6 hC dX2_readKnows_6 rfl rfl ?_
  refine r_getR2 7 (r1 := (I10 (q0) 2).toNatClampNeg) hC hk0 2 (by decide) tw_521 rfl rfl dX2_readKnows_7 ?_
  have hg11 := h.1; replace h := h.2
  refine r_getIN1 10 (x := I10 ((I10 (q0) 2).toNatClampNeg) 0) hC hg11 0 (by decide) tw_202 rfl rfl dX2_readKnows_10 ?_
  refine r_iconst 13 (v := 1) hC dX2_readKnows_13 (by decide) ?_
  refine r_isub 14 hC dX2_readKnows_14 ?_
  refine r_iconst 15 (v := -1) hC dX2_readKnows_15 (by decide) ?_
  refine r_callV_i 16 (n := 3) [.int (0), .int ((I10 ((I10 q0 2).toNatClampNeg) 0) - 1), .int (-1)] [] hC hk0 rfl dX2_readKnows_16 (by decide) (by decide) tw_640 tw_140 ⟨by decide, by decide, by decide +kernel⟩ tw_637 tw_639 tw_18 rfl rfl (sX2_readNumber (l := pm_l X) hG (q0) (0) ((I10 ((I10 q0 2).toNatClampNeg) 0) - 1) (-1) _ _ hk0 h) hab (Nat.le_of_ble_eq_true rfl) ?_
  clear h; intro r13 I12 h
  refine r_istore_n 19 [some (.ref (q0)), some (.int (r13)), none] hC dX2_readKnows_19 rfl (by decide) rfl ?_
  refine r_aload_n 20 hC dX2_readKnows_20 rfl rfl ?_
  refine r_iconst 21 (v := 0) hC dX2_readKnows_21 (by decide) ?_
  refine r_aload_n 22 hC dX2_readKnows_22 rfl rfl ?_
  refine r_getR2 23 (r1 := (I12 (q0) 2).toNatClampNeg) hC hk0 2 (by decide) tw_521 rfl rfl dX2_readKnows_23 ?_
  have hg14 := h.1; replace h := h.2
  refine r_getIN1 26 (x := I12 ((I12 (q0) 2).toNatClampNeg) 0) hC hg14 0 (by decide) tw_202 rfl rfl dX2_readKnows_26 ?_
  refine r_iconst 29 (v := 1) hC dX2_readKnows_29 (by decide) ?_
  refine r_isub 30 hC dX2_readKnows_30 ?_
  refine r_iload_n 31 hC dX2_readKnows_31 rfl rfl ?_
  refine r_callV_i 32 (n := 3) [.int (0), .int ((I12 ((I12 q0 2).toNatClampNeg) 0) - 1), .int (r13)] [] hC hk0 rfl dX2_readKnows_32 (by decide) (by decide) tw_640 tw_140 ⟨by decide, by decide, by decide +kernel⟩ tw_637 tw_639 tw_18 rfl rfl (sX2_readNumber (l := pm_l X) hG (q0) (0) ((I12 ((I12 q0 2).toNatClampNeg) 0) - 1) (r13) _ _ hk0 h) hab (Nat.le_of_ble_eq_true rfl) ?_
  clear h; intro r16 I15 h
  refine r_istore_n 35 [some (.ref (q0)), some (.int (r13)), some (.int (r16))] hC dX2_readKnows_35 rfl (by decide) rfl ?_
  refine r_aload_n 36 hC dX2_readKnows_36 rfl rfl ?_
  refine r_getI2 37 (x := I15 (q0) 8) hC hk0 8 (by decide) tw_527 rfl rfl dX2_readKnows_37 ?_
  refine r_if_ne 40 52 hC dX2_readKnows_40 (by decide) (fun hc => ?_) (fun hc => ?_)
  · replace h := h.1 hc
    exact r_vret 52 hC hE dX2_readKnows_52 ⟨rfl, h⟩
  · replace h := h.2 hc
    refine r_aload_n 43 hC dX2_readKnows_43 rfl rfl ?_
    refine r_getR2 44 (r1 := (I15 (q0) 2).toNatClampNeg) hC hk0 2 (by decide) tw_521 rfl rfl dX2_readKnows_44 ?_
    have hg17 := h.1; replace h := h.2
    refine r_iload_n 47 hC dX2_readKnows_47 rfl rfl ?_
    refine r_iload_n 48 hC dX2_readKnows_48 rfl rfl ?_
    refine r_callVN_v 49 (n := 2) [.int (r13), .int (r16)] [] hC hg17 rfl dX2_readKnows_49 (by decide) (by decide) tw_662 tw_130 ⟨by decide, by decide, by decide +kernel⟩ tw_659 tw_661 tw_23 rfl rfl (sX1_addAcquaintance (l := pm_l X) hG ((I15 (q0) 2).toNatClampNeg) (r13) (r16) _ _ hg17 h) hab (Nat.le_of_ble_eq_true rfl) ?_
    clear h; intro I18 h
    exact r_vret 52 hC hE dX2_readKnows_52 ⟨rfl, h⟩

def wX2_readInput (G : pm_G) (q0 : Nat) (I : pm_I) (K : pm_I → Prop) : Prop :=
  wX2_wordIs G (q0) 6 I (fun r11 I10 => (r11 = 0 → (wX2_wordIs G (q0) 7 I10 (fun r13 I12 => (r13 = 0 → (wX2_wordIs G (q0) 8 I12 (fun r15 I14 => (r15 = 0 → (wX2_wordIs G (q0) 9 I14 (fun r17 I16 => (r17 = 0 → (wX2_wordIs G (q0) 10 I16 (fun r19 I18 => (r19 = 0 → (wX2_fail G (q0) (1) I18 (fun I20 => K I20))) ∧ (¬ r19 = 0 → (pm_k G ((I18 (q0) 2).toNatClampNeg) (.inl 1) ∧ (wX3_put G ((I18 (q0) 2).toNatClampNeg + 5) (-5) I18 (fun I22 => K I22))))))) ∧ (¬ r17 = 0 → (pm_k G ((I16 (q0) 2).toNatClampNeg) (.inl 1) ∧ (wX3_put G ((I16 (q0) 2).toNatClampNeg + 5) (-4) I16 (fun I24 => K I24))))))) ∧ (¬ r15 = 0 → (pm_k G ((I14 (q0) 2).toNatClampNeg) (.inl 1) ∧ (wX3_put G ((I14 (q0) 2).toNatClampNeg + 5) (-3) I14 (fun I26 => K I26))))))) ∧ (¬ r13 = 0 → (pm_k G ((I12 (q0) 2).toNatClampNeg) (.inl 1) ∧ (wX3_put G ((I12 (q0) 2).toNatClampNeg + 5) (-2) I12 (fun I28 => K I28))))))) ∧ (¬ r11 = 0 → (pm_k G ((I10 (q0) 2).toNatClampNeg) (.inl 1) ∧ (wX3_put G ((I10 (q0) 2).toNatClampNeg + 5) (-1) I10 (fun I30 => K I30)))))

set_option maxRecDepth 20000 in
theorem sX2_readInput {G : pm_G} {l : Launch} (hG : pm_ok G) (hS : pm_str G) (q0 : Nat) (I : pm_I) (K : pm_I → Prop) (hk0 : pm_k G q0 (.inl 2)) (h : wX2_readInput G q0 I K) : pm_Ct G l yX2_readInput cX2_readInput 1 none { frames := 6, cells := 0, slots := 0, locals := 521 } [.ref (q0)] I (pm_Kv K) := by
  unfold wX2_readInput at h
  refine pm_enter (by decide +kernel) hG rfl (Nat.le_of_ble_eq_true rfl) rfl (fun X hl hC hE => ?_)
  subst hl
  have hab : 0 ≤ 0 ∧ 0 ≤ 0 := ⟨Nat.le_refl 0, Nat.le_refl 0⟩
  have hC : pm_C G X cX2_readInput 1 RX2 none { frames := 6, cells := 0, slots := 0, locals := 521 } := hC
  refine r_aload_n 0 hC dX2_readInput_0 rfl rfl ?_
  refine r_ldcS 1 (i := 6) (tx := "first") hS hC (by decide) dX2_readInput_1 ?_
  refine r_callV_i 3 (n := 1) [.ref (1000000 + 6)] [] hC hk0 rfl dX2_readInput_3 (by decide) (by decide) tw_580 tw_140 ⟨by decide, by decide, by decide +kernel⟩ tw_577 tw_579 tw_15 rfl rfl (sX2_wordIs (l := pm_l X) hG hS (q0) 6 _ _ hk0 (by decide) h) hab (Nat.le_of_ble_eq_true rfl) ?_
  clear h; intro r11 I10 h
  refine r_if_eq 6 23 hC dX2_readInput_6 (by decide) (fun hc => ?_) (fun hc => ?_)
  · replace h := h.1 hc
    refine r_aload_n 23 hC dX2_readInput_23 rfl rfl ?_
    refine r_ldcS 24 (i := 7) (tx := "second") hS hC (by decide) dX2_readInput_24 ?_
    refine r_callV_i 26 (n := 1) [.ref (1000000 + 7)] [] hC hk0 rfl dX2_readInput_26 (by decide) (by decide) tw_580 tw_140 ⟨by decide, by decide, by decide +kernel⟩ tw_577 tw_579 tw_15 rfl rfl (sX2_wordIs (l := pm_l X) hG hS (q0) 7 _ _ hk0 (by decide) h) hab (Nat.le_of_ble_eq_true rfl) ?_
    clear h; intro r13 I12 h
    refine r_if_eq 29 47 hC dX2_readInput_29 (by decide) (fun hc => ?_) (fun hc => ?_)
    · replace h := h.1 hc
      refine r_aload_n 47 hC dX2_readInput_47 rfl rfl ?_
      refine r_ldcS 48 (i := 8) (tx := "load") hS hC (by decide) dX2_readInput_48 ?_
      refine r_callV_i 50 (n := 1) [.ref (1000000 + 8)] [] hC hk0 rfl dX2_readInput_50 (by decide) (by decide) tw_580 tw_140 ⟨by decide, by decide, by decide +kernel⟩ tw_577 tw_579 tw_15 rfl rfl (sX2_wordIs (l := pm_l X) hG hS (q0) 8 _ _ hk0 (by decide) h) hab (Nat.le_of_ble_eq_true rfl) ?_
      clear h; intro r15 I14 h
      refine r_if_eq 53 71 hC dX2_readInput_53 (by decide) (fun hc => ?_) (fun hc => ?_)
      · replace h := h.1 hc
        refine r_aload_n 71 hC dX2_readInput_71 rfl rfl ?_
        refine r_ldcS 72 (i := 9) (tx := "capacity") hS hC (by decide) dX2_readInput_72 ?_
        refine r_callV_i 74 (n := 1) [.ref (1000000 + 9)] [] hC hk0 rfl dX2_readInput_74 (by decide) (by decide) tw_580 tw_140 ⟨by decide, by decide, by decide +kernel⟩ tw_577 tw_579 tw_15 rfl rfl (sX2_wordIs (l := pm_l X) hG hS (q0) 9 _ _ hk0 (by decide) h) hab (Nat.le_of_ble_eq_true rfl) ?_
        clear h; intro r17 I16 h
        refine r_if_eq 77 95 hC dX2_readInput_77 (by decide) (fun hc => ?_) (fun hc => ?_)
        · replace h := h.1 hc
          refine r_aload_n 95 hC dX2_readInput_95 rfl rfl ?_
          refine r_ldcS 96 (i := 10) (tx := "zones") hS hC (by decide) dX2_readInput_96 ?_
          refine r_callV_i 98 (n := 1) [.ref (1000000 + 10)] [] hC hk0 rfl dX2_readInput_98 (by decide) (by decide) tw_580 tw_140 ⟨by decide, by decide, by decide +kernel⟩ tw_577 tw_579 tw_15 rfl rfl (sX2_wordIs (l := pm_l X) hG hS (q0) 10 _ _ hk0 (by decide) h) hab (Nat.le_of_ble_eq_true rfl) ?_
          clear h; intro r19 I18 h
          refine r_if_eq 101 119 hC dX2_readInput_101 (by decide) (fun hc => ?_) (fun hc => ?_)
          · replace h := h.1 hc
            refine r_aload_n 119 hC dX2_readInput_119 rfl rfl ?_
            refine r_iconst 120 (v := 1) hC dX2_readInput_120 (by decide) ?_
            refine r_callV_v 121 (n := 1) [.int (1)] [] hC hk0 rfl dX2_readInput_121 (by decide) (by decide) tw_636 tw_140 ⟨by decide, by decide, by decide +kernel⟩ tw_633 tw_635 tw_17 rfl rfl (sX2_fail (l := pm_l X) hG (q0) (1) _ _ hk0 h) hab (Nat.le_of_ble_eq_true rfl) ?_
            clear h; intro I20 h
            exact r_vret 124 hC hE dX2_readInput_124 ⟨rfl, h⟩
          · replace h := h.2 hc
            refine r_aload_n 104 hC dX2_readInput_104 rfl rfl ?_
            refine r_getR2 105 (r1 := (I18 (q0) 2).toNatClampNeg) hC hk0 2 (by decide) tw_521 rfl rfl dX2_readInput_105 ?_
            have hg21 := h.1; replace h := h.2
            refine r_getRN1 108 (r1 := (I18 (q0) 2).toNatClampNeg + 5) hC hg21 5 (by decide) tw_212 rfl rfl dX2_readInput_108 ?_
            refine r_bipush 111 (v := -5) hC dX2_readInput_111 (by decide) ?_
            refine r_callVN_v 113 (n := 1) [.int (-5)] [] hC ((pm_s1 hG hg21).2.2.2.2) rfl dX2_readInput_113 (by decide) (by decide) tw_200 tw_131 ⟨by decide, by decide, by decide +kernel⟩ tw_681 tw_199 tw_3 rfl rfl (sX3_put (l := pm_l X) hG ((I18 (q0) 2).toNatClampNeg + 5) (-5) _ _ ((pm_s1 hG hg21).2.2.2.2) h) hab (Nat.le_of_ble_eq_true rfl) ?_
            clear h; intro I22 h
            refine r_goto 116 124 hC dX2_readInput_116 (by decide) ?_
            exact r_vret 124 hC hE dX2_readInput_124 ⟨rfl, h⟩
        · replace h := h.2 hc
          refine r_aload_n 80 hC dX2_readInput_80 rfl rfl ?_
          refine r_getR2 81 (r1 := (I16 (q0) 2).toNatClampNeg) hC hk0 2 (by decide) tw_521 rfl rfl dX2_readInput_81 ?_
          have hg23 := h.1; replace h := h.2
          refine r_getRN1 84 (r1 := (I16 (q0) 2).toNatClampNeg + 5) hC hg23 5 (by decide) tw_212 rfl rfl dX2_readInput_84 ?_
          refine r_bipush 87 (v := -4) hC dX2_readInput_87 (by decide) ?_
          refine r_callVN_v 89 (n := 1) [.int (-4)] [] hC ((pm_s1 hG hg23).2.2.2.2) rfl dX2_readInput_89 (by decide) (by decide) tw_200 tw_131 ⟨by decide, by decide, by decide +kernel⟩ tw_681 tw_199 tw_3 rfl rfl (sX3_put (l := pm_l X) hG ((I16 (q0) 2).toNatClampNeg + 5) (-4) _ _ ((pm_s1 hG hg23).2.2.2.2) h) hab (Nat.le_of_ble_eq_true rfl) ?_
          clear h; intro I24 h
          refine r_goto 92 124 hC dX2_readInput_92 (by decide) ?_
          exact r_vret 124 hC hE dX2_readInput_124 ⟨rfl, h⟩
      · replace h := h.2 hc
        refine r_aload_n 56 hC dX2_readInput_56 rfl rfl ?_
        refine r_getR2 57 (r1 := (I14 (q0) 2).toNatClampNeg) hC hk0 2 (by decide) tw_521 rfl rfl dX2_readInput_57 ?_
        have hg25 := h.1; replace h := h.2
        refine r_getRN1 60 (r1 := (I14 (q0) 2).toNatClampNeg + 5) hC hg25 5 (by decide) tw_212 rfl rfl dX2_readInput_60 ?_
        refine r_bipush 63 (v := -3) hC dX2_readInput_63 (by decide) ?_
        refine r_callVN_v 65 (n := 1) [.int (-3)] [] hC ((pm_s1 hG hg25).2.2.2.2) rfl dX2_readInput_65 (by decide) (by decide) tw_200 tw_131 ⟨by decide, by decide, by decide +kernel⟩ tw_681 tw_199 tw_3 rfl rfl (sX3_put (l := pm_l X) hG ((I14 (q0) 2).toNatClampNeg + 5) (-3) _ _ ((pm_s1 hG hg25).2.2.2.2) h) hab (Nat.le_of_ble_eq_true rfl) ?_
        clear h; intro I26 h
        refine r_goto 68 124 hC dX2_readInput_68 (by decide) ?_
        exact r_vret 124 hC hE dX2_readInput_124 ⟨rfl, h⟩
    · replace h := h.2 hc
      refine r_aload_n 32 hC dX2_readInput_32 rfl rfl ?_
      refine r_getR2 33 (r1 := (I12 (q0) 2).toNatClampNeg) hC hk0 2 (by decide) tw_521 rfl rfl dX2_readInput_33 ?_
      have hg27 := h.1; replace h := h.2
      refine r_getRN1 36 (r1 := (I12 (q0) 2).toNatClampNeg + 5) hC hg27 5 (by decide) tw_212 rfl rfl dX2_readInput_36 ?_
      refine r_bipush 39 (v := -2) hC dX2_readInput_39 (by decide) ?_
      refine r_callVN_v 41 (n := 1) [.int (-2)] [] hC ((pm_s1 hG hg27).2.2.2.2) rfl dX2_readInput_41 (by decide) (by decide) tw_200 tw_131 ⟨by decide, by decide, by decide +kernel⟩ tw_681 tw_199 tw_3 rfl rfl (sX3_put (l := pm_l X) hG ((I12 (q0) 2).toNatClampNeg + 5) (-2) _ _ ((pm_s1 hG hg27).2.2.2.2) h) hab (Nat.le_of_ble_eq_true rfl) ?_
      clear h; intro I28 h
      refine r_goto 44 124 hC dX2_readInput_44 (by decide) ?_
      exact r_vret 124 hC hE dX2_readInput_124 ⟨rfl, h⟩
  · replace h := h.2 hc
    refine r_aload_n 9 hC dX2_readInput_9 rfl rfl ?_
    refine r_getR2 10 (r1 := (I10 (q0) 2).toNatClampNeg) hC hk0 2 (by decide) tw_521 rfl rfl dX2_readInput_10 ?_
    have hg29 := h.1; replace h := h.2
    refine r_getRN1 13 (r1 := (I10 (q0) 2).toNatClampNeg + 5) hC hg29 5 (by decide) tw_212 rfl rfl dX2_readInput_13 ?_
    refine r_iconst 16 (v := -1) hC dX2_readInput_16 (by decide) ?_
    refine r_callVN_v 17 (n := 1) [.int (-1)] [] hC ((pm_s1 hG hg29).2.2.2.2) rfl dX2_readInput_17 (by decide) (by decide) tw_200 tw_131 ⟨by decide, by decide, by decide +kernel⟩ tw_681 tw_199 tw_3 rfl rfl (sX3_put (l := pm_l X) hG ((I10 (q0) 2).toNatClampNeg + 5) (-1) _ _ ((pm_s1 hG hg29).2.2.2.2) h) hab (Nat.le_of_ble_eq_true rfl) ?_
    clear h; intro I30 h
    refine r_goto 20 124 hC dX2_readInput_20 (by decide) ?_
    exact r_vret 124 hC hE dX2_readInput_124 ⟨rfl, h⟩

def wX2_readFactor (Rr : Nat → Int32 → pm_I → (pm_I → Prop) → Prop) (G : pm_G) (q0 : Nat) (x1 : Int32) (I : pm_I) (K : pm_I → Prop) : Prop :=
  (¬ (I q0 5) = 2 → ((¬ (I q0 5) = 1 → (((I q0 5) = 40 → ((x1 < 5 → (wX2_advance G (q0) I (fun I10 => Rr (q0) (x1 + 1) I10 (fun I11 => wX2_require G (q0) (41) I11 (fun I12 => wX2_advance G (q0) I12 (fun I13 => K I13)))))) ∧ (¬ x1 < 5 → (wX2_fail G (q0) (4) I (fun I14 => K I14))))) ∧ (¬ (I q0 5) = 40 → (wX2_fail G (q0) (1) I (fun I15 => K I15))))) ∧ ((I q0 5) = 1 → (wX2_readInput G (q0) I (fun I16 => wX2_advance G (q0) I16 (fun I17 => K I17)))))) ∧ ((I q0 5) = 2 → (pm_k G ((I (q0) 2).toNatClampNeg) (.inl 1) ∧ (wX3_put G ((I (q0) 2).toNatClampNeg + 5) (I (q0) 6) I (fun I19 => wX2_advance G (q0) I19 (fun I20 => K I20)))))

set_option maxRecDepth 20000 in
theorem sX2_readFactor {G : pm_G} {l : Launch} (hG : pm_ok G) (hS : pm_str G) (d : Nat) (Rr : Nat → Int32 → pm_I → (pm_I → Prop) → Prop) (hR : ∀ (q : Nat) (x : Int32) (I : pm_I) (K : pm_I → Prop), pm_k G q (.inl 2) → Rr q x I K → pm_Ct G l yX2_readSum cX2_readSum 4 none { frames := 3 * d + 20, cells := 0, slots := 0, locals := 120 * d + 2000 } [.ref q, .int x] I (pm_Kv K)) (q0 : Nat) (x1 : Int32) (I : pm_I) (K : pm_I → Prop) (hk0 : pm_k G q0 (.inl 2)) (h : wX2_readFactor Rr G q0 x1 I K) : pm_Ct G l yX2_readFactor cX2_readFactor 2 none { frames := 3 * d + 21, cells := 0, slots := 0, locals := 120 * d + 2035 } [.ref (q0), .int (x1)] I (pm_Kv K) := by
  unfold wX2_readFactor at h
  refine pm_enter (by decide +kernel) hG rfl (Nat.le_of_ble_eq_true rfl) rfl (fun X hl hC hE => ?_)
  subst hl
  have hab : 0 ≤ 0 ∧ 0 ≤ 0 := ⟨Nat.le_refl 0, Nat.le_refl 0⟩
  have hC : pm_C G X cX2_readFactor 2 RX2 none { frames := 3 * d + 21, cells := 0, slots := 0, locals := 120 * d + 2035 } := hC
  refine r_aload_n 0 hC dX2_readFactor_0 rfl rfl ?_
  refine r_getI2 1 (x := I (q0) 5) hC hk0 5 (by decide) tw_524 rfl rfl dX2_readFactor_1 ?_
  refine r_iconst 4 (v := 2) hC dX2_readFactor_4 (by decide) ?_
  refine r_icmp_ne 5 29 hC dX2_readFactor_5 (by decide) (fun hc => ?_) (fun hc => ?_)
  · replace h := h.1 hc
    refine r_aload_n 29 hC dX2_readFactor_29 rfl rfl ?_
    refine r_getI2 30 (x := I (q0) 5) hC hk0 5 (by decide) tw_524 rfl rfl dX2_readFactor_30 ?_
    refine r_iconst 33 (v := 1) hC dX2_readFactor_33 (by decide) ?_
    refine r_icmp_ne 34 48 hC dX2_readFactor_34 (by decide) (fun hc => ?_) (fun hc => ?_)
    · replace h := h.1 hc
      refine r_aload_n 48 hC dX2_readFactor_48 rfl rfl ?_
      refine r_getI2 49 (x := I (q0) 5) hC hk0 5 (by decide) tw_524 rfl rfl dX2_readFactor_49 ?_
      refine r_bipush 52 (v := 40) hC dX2_readFactor_52 (by decide) ?_
      refine r_icmp_eq 54 65 hC dX2_readFactor_54 (by decide) (fun hc => ?_) (fun hc => ?_)
      · replace h := h.1 hc
        refine r_iload_n 65 hC dX2_readFactor_65 rfl rfl ?_
        refine r_iconst 66 (v := 5) hC dX2_readFactor_66 (by decide) ?_
        refine r_icmp_lt 67 78 hC dX2_readFactor_67 (by decide) (fun hc => ?_) (fun hc => ?_)
        · replace h := h.1 hc
          refine r_aload_n 78 hC dX2_readFactor_78 rfl rfl ?_
          refine r_callV_v 79 (n := 0) [] [] hC hk0 rfl dX2_readFactor_79 (by show 2 + 1 ≤ 3 * d + 21; omega) (by show 8 + (1 + 11) + (149) ≤ 120 * d + 2035; omega) tw_559 tw_140 ⟨by decide, by decide, by decide +kernel⟩ tw_556 tw_558 tw_10 rfl rfl (sX2_advance (l := pm_l X) hG (q0) _ _ hk0 h) hab (Nat.le_of_ble_eq_true rfl) ?_
          clear h; intro I10 h
          refine r_aload_n 82 hC dX2_readFactor_82 rfl rfl ?_
          refine r_iload_n 83 hC dX2_readFactor_83 rfl rfl ?_
          refine r_iconst 84 (v := 1) hC dX2_readFactor_84 (by decide) ?_
          refine r_iadd 85 hC dX2_readFactor_85 ?_
          refine r_callV_v 86 (n := 1) [.int (x1 + 1)] [] hC hk0 rfl dX2_readFactor_86 (by show 3 * d + 20 + 1 ≤ 3 * d + 21; omega) (by show 8 + (4 + 11) + (120 * d + 2000) ≤ 120 * d + 2035; omega) tw_672 tw_140 ⟨by decide, by decide, by decide +kernel⟩ tw_669 tw_671 tw_25 rfl rfl (hR _ _ _ _ hk0 h) hab (Nat.le_of_ble_eq_true rfl) ?_
          clear h; intro I11 h
          refine r_aload_n 89 hC dX2_readFactor_89 rfl rfl ?_
          refine r_bipush 90 (v := 41) hC dX2_readFactor_90 (by decide) ?_
          refine r_callV_v 92 (n := 1) [.int (41)] [] hC hk0 rfl dX2_readFactor_92 (by show 2 + 1 ≤ 3 * d + 21; omega) (by show 8 + (2 + 11) + (149) ≤ 120 * d + 2035; omega) tw_694 tw_140 ⟨by decide, by decide, by decide +kernel⟩ tw_691 tw_693 tw_29 rfl rfl (sX2_require (l := pm_l X) hG (q0) (41) _ _ hk0 h) hab (Nat.le_of_ble_eq_true rfl) ?_
          clear h; intro I12 h
          refine r_aload_n 95 hC dX2_readFactor_95 rfl rfl ?_
          refine r_callV_v 96 (n := 0) [] [] hC hk0 rfl dX2_readFactor_96 (by show 2 + 1 ≤ 3 * d + 21; omega) (by show 8 + (1 + 11) + (149) ≤ 120 * d + 2035; omega) tw_559 tw_140 ⟨by decide, by decide, by decide +kernel⟩ tw_556 tw_558 tw_10 rfl rfl (sX2_advance (l := pm_l X) hG (q0) _ _ hk0 h) hab (Nat.le_of_ble_eq_true rfl) ?_
          clear h; intro I13 h
          exact r_vret 99 hC hE dX2_readFactor_99 ⟨rfl, h⟩
        · replace h := h.2 hc
          refine r_aload_n 70 hC dX2_readFactor_70 rfl rfl ?_
          refine r_iconst 71 (v := 4) hC dX2_readFactor_71 (by decide) ?_
          refine r_callV_v 72 (n := 1) [.int (4)] [] hC hk0 rfl dX2_readFactor_72 (by show 1 + 1 ≤ 3 * d + 21; omega) (by show 8 + (2 + 11) + (64) ≤ 120 * d + 2035; omega) tw_636 tw_140 ⟨by decide, by decide, by decide +kernel⟩ tw_633 tw_635 tw_17 rfl rfl (sX2_fail (l := pm_l X) hG (q0) (4) _ _ hk0 h) hab (Nat.le_of_ble_eq_true rfl) ?_
          clear h; intro I14 h
          refine r_goto 75 99 hC dX2_readFactor_75 (by decide) ?_
          exact r_vret 99 hC hE dX2_readFactor_99 ⟨rfl, h⟩
      · replace h := h.2 hc
        refine r_aload_n 57 hC dX2_readFactor_57 rfl rfl ?_
        refine r_iconst 58 (v := 1) hC dX2_readFactor_58 (by decide) ?_
        refine r_callV_v 59 (n := 1) [.int (1)] [] hC hk0 rfl dX2_readFactor_59 (by show 1 + 1 ≤ 3 * d + 21; omega) (by show 8 + (2 + 11) + (64) ≤ 120 * d + 2035; omega) tw_636 tw_140 ⟨by decide, by decide, by decide +kernel⟩ tw_633 tw_635 tw_17 rfl rfl (sX2_fail (l := pm_l X) hG (q0) (1) _ _ hk0 h) hab (Nat.le_of_ble_eq_true rfl) ?_
        clear h; intro I15 h
        refine r_goto 62 99 hC dX2_readFactor_62 (by decide) ?_
        exact r_vret 99 hC hE dX2_readFactor_99 ⟨rfl, h⟩
    · replace h := h.2 hc
      refine r_aload_n 37 hC dX2_readFactor_37 rfl rfl ?_
      refine r_callV_v 38 (n := 0) [] [] hC hk0 rfl dX2_readFactor_38 (by show 6 + 1 ≤ 3 * d + 21; omega) (by show 8 + (1 + 11) + (521) ≤ 120 * d + 2035; omega) tw_685 tw_140 ⟨by decide, by decide, by decide +kernel⟩ tw_682 tw_684 tw_28 rfl rfl (sX2_readInput (l := pm_l X) hG hS (q0) _ _ hk0 h) hab (Nat.le_of_ble_eq_true rfl) ?_
      clear h; intro I16 h
      refine r_aload_n 41 hC dX2_readFactor_41 rfl rfl ?_
      refine r_callV_v 42 (n := 0) [] [] hC hk0 rfl dX2_readFactor_42 (by show 2 + 1 ≤ 3 * d + 21; omega) (by show 8 + (1 + 11) + (149) ≤ 120 * d + 2035; omega) tw_559 tw_140 ⟨by decide, by decide, by decide +kernel⟩ tw_556 tw_558 tw_10 rfl rfl (sX2_advance (l := pm_l X) hG (q0) _ _ hk0 h) hab (Nat.le_of_ble_eq_true rfl) ?_
      clear h; intro I17 h
      refine r_goto 45 99 hC dX2_readFactor_45 (by decide) ?_
      exact r_vret 99 hC hE dX2_readFactor_99 ⟨rfl, h⟩
  · replace h := h.2 hc
    refine r_aload_n 8 hC dX2_readFactor_8 rfl rfl ?_
    refine r_getR2 9 (r1 := (I (q0) 2).toNatClampNeg) hC hk0 2 (by decide) tw_521 rfl rfl dX2_readFactor_9 ?_
    have hg18 := h.1; replace h := h.2
    refine r_getRN1 12 (r1 := (I (q0) 2).toNatClampNeg + 5) hC hg18 5 (by decide) tw_212 rfl rfl dX2_readFactor_12 ?_
    refine r_aload_n 15 hC dX2_readFactor_15 rfl rfl ?_
    refine r_getI2 16 (x := I (q0) 6) hC hk0 6 (by decide) tw_525 rfl rfl dX2_readFactor_16 ?_
    refine r_callVN_v 19 (n := 1) [.int (I (q0) 6)] [] hC ((pm_s1 hG hg18).2.2.2.2) rfl dX2_readFactor_19 (by show 1 + 1 ≤ 3 * d + 21; omega) (by show 8 + (2 + 11) + (64) ≤ 120 * d + 2035; omega) tw_200 tw_131 ⟨by decide, by decide, by decide +kernel⟩ tw_681 tw_199 tw_3 rfl rfl (sX3_put (l := pm_l X) hG ((I (q0) 2).toNatClampNeg + 5) (I (q0) 6) _ _ ((pm_s1 hG hg18).2.2.2.2) h) hab (Nat.le_of_ble_eq_true rfl) ?_
    clear h; intro I19 h
    refine r_aload_n 22 hC dX2_readFactor_22 rfl rfl ?_
    refine r_callV_v 23 (n := 0) [] [] hC hk0 rfl dX2_readFactor_23 (by show 2 + 1 ≤ 3 * d + 21; omega) (by show 8 + (1 + 11) + (149) ≤ 120 * d + 2035; omega) tw_559 tw_140 ⟨by decide, by decide, by decide +kernel⟩ tw_556 tw_558 tw_10 rfl rfl (sX2_advance (l := pm_l X) hG (q0) _ _ hk0 h) hab (Nat.le_of_ble_eq_true rfl) ?_
    clear h; intro I20 h
    refine r_goto 26 99 hC dX2_readFactor_26 (by decide) ?_
    exact r_vret 99 hC hE dX2_readFactor_99 ⟨rfl, h⟩

def wX2_readTerm (Rr : Nat → Int32 → pm_I → (pm_I → Prop) → Prop) (G : pm_G) (q0 : Nat) (x1 : Int32) (I : pm_I) (K : pm_I → Prop) : Prop :=
  wX2_readFactor Rr G (q0) (x1) I (fun I10 => pm_lp2 (fun (P11 : Int32 → pm_I → Prop) (x13 : Int32) (I12 : pm_I) => (600 ≤ x13 → K I12) ∧ (¬ 600 ≤ x13 → (((I12 q0 5) = 42 → ((¬ (I12 q0 5) = 42 → (wX2_advance G (q0) I12 (fun I14 => wX2_readFactor Rr G (q0) (x1) I14 (fun I15 => pm_k G ((I15 (q0) 2).toNatClampNeg) (.inl 1) ∧ (wX3_put G ((I15 (q0) 2).toNatClampNeg + 5) (-9) I15 (fun I17 => P11 (x13 + 1) I17)))))) ∧ ((I12 q0 5) = 42 → (wX2_advance G (q0) I12 (fun I18 => wX2_readFactor Rr G (q0) (x1) I18 (fun I19 => pm_k G ((I19 (q0) 2).toNatClampNeg) (.inl 1) ∧ (wX3_put G ((I19 (q0) 2).toNatClampNeg + 5) (-8) I19 (fun I21 => P11 (x13 + 1) I21)))))))) ∧ (¬ (I12 q0 5) = 42 → ((¬ (I12 q0 5) = 47 → K I12) ∧ ((I12 q0 5) = 47 → ((¬ (I12 q0 5) = 42 → (wX2_advance G (q0) I12 (fun I22 => wX2_readFactor Rr G (q0) (x1) I22 (fun I23 => pm_k G ((I23 (q0) 2).toNatClampNeg) (.inl 1) ∧ (wX3_put G ((I23 (q0) 2).toNatClampNeg + 5) (-9) I23 (fun I25 => P11 (x13 + 1) I25)))))) ∧ ((I12 q0 5) = 42 → (wX2_advance G (q0) I12 (fun I26 => wX2_readFactor Rr G (q0) (x1) I26 (fun I27 => pm_k G ((I27 (q0) 2).toNatClampNeg) (.inl 1) ∧ (wX3_put G ((I27 (q0) 2).toNatClampNeg + 5) (-8) I27 (fun I29 => P11 (x13 + 1) I29))))))))))))) (0) I10)

set_option maxRecDepth 20000 in
theorem sX2_readTerm {G : pm_G} {l : Launch} (hG : pm_ok G) (hS : pm_str G) (d : Nat) (Rr : Nat → Int32 → pm_I → (pm_I → Prop) → Prop) (hR : ∀ (q : Nat) (x : Int32) (I : pm_I) (K : pm_I → Prop), pm_k G q (.inl 2) → Rr q x I K → pm_Ct G l yX2_readSum cX2_readSum 4 none { frames := 3 * d + 20, cells := 0, slots := 0, locals := 120 * d + 2000 } [.ref q, .int x] I (pm_Kv K)) (q0 : Nat) (x1 : Int32) (I : pm_I) (K : pm_I → Prop) (hk0 : pm_k G q0 (.inl 2)) (h : wX2_readTerm Rr G q0 x1 I K) : pm_Ct G l yX2_readTerm cX2_readTerm 4 none { frames := 3 * d + 22, cells := 0, slots := 0, locals := 120 * d + 2070 } [.ref (q0), .int (x1)] I (pm_Kv K) := by
  unfold wX2_readTerm at h
  refine pm_enter (by decide +kernel) hG rfl (Nat.le_of_ble_eq_true rfl) rfl (fun X hl hC hE => ?_)
  subst hl
  have hab : 0 ≤ 0 ∧ 0 ≤ 0 := ⟨Nat.le_refl 0, Nat.le_refl 0⟩
  have hC : pm_C G X cX2_readTerm 4 RX2 none { frames := 3 * d + 22, cells := 0, slots := 0, locals := 120 * d + 2070 } := hC
  refine r_aload_n 0 hC dX2_readTerm_0 rfl rfl ?_
  refine r_iload_n 1 hC dX2_readTerm_1 rfl rfl ?_
  refine r_callV_v 2 (n := 1) [.int (x1)] [] hC hk0 rfl dX2_readTerm_2 (by show 3 * d + 21 + 1 ≤ 3 * d + 22; omega) (by show 8 + (2 + 11) + (120 * d + 2035) ≤ 120 * d + 2070; omega) tw_680 tw_140 ⟨by decide, by decide, by decide +kernel⟩ tw_677 tw_679 tw_27 rfl rfl (sX2_readFactor (l := pm_l X) hG hS d Rr hR (q0) (x1) _ _ hk0 h) hab (Nat.le_of_ble_eq_true rfl) ?_
  clear h; intro I10 h
  refine r_iconst 5 (v := 0) hC dX2_readTerm_5 (by decide) ?_
  refine r_istore_n 6 [some (.ref (q0)), some (.int (x1)), some (.int (0)), none] hC dX2_readTerm_6 rfl (by decide) rfl ?_
  refine h (fun x13 I12 => pm_R G X 4 0 0 7 [some (.ref (q0)), some (.int (x1)), some (.int (x13)), none] [] I12) ?_
  clear h; intro x13 I12 h
  refine r_iload_n 7 hC dX2_readTerm_7 rfl rfl ?_
  refine r_sipush 8 (v := 600) hC dX2_readTerm_8 (by decide) ?_
  refine r_icmp_ge 11 75 hC dX2_readTerm_11 (by decide) (fun hc => ?_) (fun hc => ?_)
  · replace h := h.1 hc
    exact r_vret 75 hC hE dX2_readTerm_75 ⟨rfl, h⟩
  · replace h := h.2 hc
    refine r_aload_n 14 hC dX2_readTerm_14 rfl rfl ?_
    refine r_getI2 15 (x := I12 (q0) 5) hC hk0 5 (by decide) tw_524 rfl rfl dX2_readTerm_15 ?_
    refine r_bipush 18 (v := 42) hC dX2_readTerm_18 (by decide) ?_
    refine r_icmp_eq 20 32 hC dX2_readTerm_20 (by decide) (fun hc => ?_) (fun hc => ?_)
    · replace h := h.1 hc
      refine r_aload_n 32 hC dX2_readTerm_32 rfl rfl ?_
      refine r_getI2 33 (x := I12 (q0) 5) hC hk0 5 (by decide) tw_524 rfl rfl dX2_readTerm_33 ?_
      refine r_bipush 36 (v := 42) hC dX2_readTerm_36 (by decide) ?_
      refine r_icmp_ne 38 46 hC dX2_readTerm_38 (by decide) (fun hc => ?_) (fun hc => ?_)
      · replace h := h.1 hc
        refine r_bipush 46 (v := -9) hC dX2_readTerm_46 (by decide) ?_
        refine r_istore_n 48 [some (.ref (q0)), some (.int (x1)), some (.int (x13)), some (.int (-9))] hC dX2_readTerm_48 rfl (by decide) rfl ?_
        refine r_aload_n 49 hC dX2_readTerm_49 rfl rfl ?_
        refine r_callV_v 50 (n := 0) [] [] hC hk0 rfl dX2_readTerm_50 (by show 2 + 1 ≤ 3 * d + 22; omega) (by show 8 + (1 + 11) + (149) ≤ 120 * d + 2070; omega) tw_559 tw_140 ⟨by decide, by decide, by decide +kernel⟩ tw_556 tw_558 tw_10 rfl rfl (sX2_advance (l := pm_l X) hG (q0) _ _ hk0 h) hab (Nat.le_of_ble_eq_true rfl) ?_
        clear h; intro I14 h
        refine r_aload_n 53 hC dX2_readTerm_53 rfl rfl ?_
        refine r_iload_n 54 hC dX2_readTerm_54 rfl rfl ?_
        refine r_callV_v 55 (n := 1) [.int (x1)] [] hC hk0 rfl dX2_readTerm_55 (by show 3 * d + 21 + 1 ≤ 3 * d + 22; omega) (by show 8 + (2 + 11) + (120 * d + 2035) ≤ 120 * d + 2070; omega) tw_680 tw_140 ⟨by decide, by decide, by decide +kernel⟩ tw_677 tw_679 tw_27 rfl rfl (sX2_readFactor (l := pm_l X) hG hS d Rr hR (q0) (x1) _ _ hk0 h) hab (Nat.le_of_ble_eq_true rfl) ?_
        clear h; intro I15 h
        refine r_aload_n 58 hC dX2_readTerm_58 rfl rfl ?_
        refine r_getR2 59 (r1 := (I15 (q0) 2).toNatClampNeg) hC hk0 2 (by decide) tw_521 rfl rfl dX2_readTerm_59 ?_
        have hg16 := h.1; replace h := h.2
        refine r_getRN1 62 (r1 := (I15 (q0) 2).toNatClampNeg + 5) hC hg16 5 (by decide) tw_212 rfl rfl dX2_readTerm_62 ?_
        refine r_iload_n 65 hC dX2_readTerm_65 rfl rfl ?_
        refine r_callVN_v 66 (n := 1) [.int (-9)] [] hC ((pm_s1 hG hg16).2.2.2.2) rfl dX2_readTerm_66 (by show 1 + 1 ≤ 3 * d + 22; omega) (by show 8 + (2 + 11) + (64) ≤ 120 * d + 2070; omega) tw_200 tw_131 ⟨by decide, by decide, by decide +kernel⟩ tw_681 tw_199 tw_3 rfl rfl (sX3_put (l := pm_l X) hG ((I15 (q0) 2).toNatClampNeg + 5) (-9) _ _ ((pm_s1 hG hg16).2.2.2.2) h) hab (Nat.le_of_ble_eq_true rfl) ?_
        clear h; intro I17 h
        refine r_iinc 69 (v := x13 + 1) [some (.ref (q0)), some (.int (x1)), some (.int (x13 + 1)), some (.int (-9))] hC dX2_readTerm_69 rfl (by rfl) (by decide) rfl ?_
        refine r_goto 72 7 hC dX2_readTerm_72 (by decide) ?_
        refine r_weak (ls' := [some (.ref (q0)), some (.int (x1)), some (.int (x13 + 1)), none]) (And.intro rfl (And.intro rfl (And.intro rfl (trivial)))) ?_
        exact h
      · replace h := h.2 hc
        refine r_bipush 41 (v := -8) hC dX2_readTerm_41 (by decide) ?_
        refine r_goto 43 48 hC dX2_readTerm_43 (by decide) ?_
        refine r_istore_n 48 [some (.ref (q0)), some (.int (x1)), some (.int (x13)), some (.int (-8))] hC dX2_readTerm_48 rfl (by decide) rfl ?_
        refine r_aload_n 49 hC dX2_readTerm_49 rfl rfl ?_
        refine r_callV_v 50 (n := 0) [] [] hC hk0 rfl dX2_readTerm_50 (by show 2 + 1 ≤ 3 * d + 22; omega) (by show 8 + (1 + 11) + (149) ≤ 120 * d + 2070; omega) tw_559 tw_140 ⟨by decide, by decide, by decide +kernel⟩ tw_556 tw_558 tw_10 rfl rfl (sX2_advance (l := pm_l X) hG (q0) _ _ hk0 h) hab (Nat.le_of_ble_eq_true rfl) ?_
        clear h; intro I18 h
        refine r_aload_n 53 hC dX2_readTerm_53 rfl rfl ?_
        refine r_iload_n 54 hC dX2_readTerm_54 rfl rfl ?_
        refine r_callV_v 55 (n := 1) [.int (x1)] [] hC hk0 rfl dX2_readTerm_55 (by show 3 * d + 21 + 1 ≤ 3 * d + 22; omega) (by show 8 + (2 + 11) + (120 * d + 2035) ≤ 120 * d + 2070; omega) tw_680 tw_140 ⟨by decide, by decide, by decide +kernel⟩ tw_677 tw_679 tw_27 rfl rfl (sX2_readFactor (l := pm_l X) hG hS d Rr hR (q0) (x1) _ _ hk0 h) hab (Nat.le_of_ble_eq_true rfl) ?_
        clear h; intro I19 h
        refine r_aload_n 58 hC dX2_readTerm_58 rfl rfl ?_
        refine r_getR2 59 (r1 := (I19 (q0) 2).toNatClampNeg) hC hk0 2 (by decide) tw_521 rfl rfl dX2_readTerm_59 ?_
        have hg20 := h.1; replace h := h.2
        refine r_getRN1 62 (r1 := (I19 (q0) 2).toNatClampNeg + 5) hC hg20 5 (by decide) tw_212 rfl rfl dX2_readTerm_62 ?_
        refine r_iload_n 65 hC dX2_readTerm_65 rfl rfl ?_
        refine r_callVN_v 66 (n := 1) [.int (-8)] [] hC ((pm_s1 hG hg20).2.2.2.2) rfl dX2_readTerm_66 (by show 1 + 1 ≤ 3 * d + 22; omega) (by show 8 + (2 + 11) + (64) ≤ 120 * d + 2070; omega) tw_200 tw_131 ⟨by decide, by decide, by decide +kernel⟩ tw_681 tw_199 tw_3 rfl rfl (sX3_put (l := pm_l X) hG ((I19 (q0) 2).toNatClampNeg + 5) (-8) _ _ ((pm_s1 hG hg20).2.2.2.2) h) hab (Nat.le_of_ble_eq_true rfl) ?_
        clear h; intro I21 h
        refine r_iinc 69 (v := x13 + 1) [some (.ref (q0)), some (.int (x1)), some (.int (x13 + 1)), some (.int (-8))] hC dX2_readTerm_69 rfl (by rfl) (by decide) rfl ?_
        refine r_goto 72 7 hC dX2_readTerm_72 (by decide) ?_
        refine r_weak (ls' := [some (.ref (q0)), some (.int (x1)), some (.int (x13 + 1)), none]) (And.intro rfl (And.intro rfl (And.intro rfl (trivial)))) ?_
        exact h
    · replace h := h.2 hc
      refine r_aload_n 23 hC dX2_readTerm_23 rfl rfl ?_
      refine r_getI2 24 (x := I12 (q0) 5) hC hk0 5 (by decide) tw_524 rfl rfl dX2_readTerm_24 ?_
      refine r_bipush 27 (v := 47) hC dX2_readTerm_27 (by decide) ?_
      refine r_icmp_ne 29 75 hC dX2_readTerm_29 (by decide) (fun hc => ?_) (fun hc => ?_)
      · replace h := h.1 hc
        exact r_vret 75 hC hE dX2_readTerm_75 ⟨rfl, h⟩
      · replace h := h.2 hc
        refine r_aload_n 32 hC dX2_readTerm_32 rfl rfl ?_
        refine r_getI2 33 (x := I12 (q0) 5) hC hk0 5 (by decide) tw_524 rfl rfl dX2_readTerm_33 ?_
        refine r_bipush 36 (v := 42) hC dX2_readTerm_36 (by decide) ?_
        refine r_icmp_ne 38 46 hC dX2_readTerm_38 (by decide) (fun hc => ?_) (fun hc => ?_)
        · replace h := h.1 hc
          refine r_bipush 46 (v := -9) hC dX2_readTerm_46 (by decide) ?_
          refine r_istore_n 48 [some (.ref (q0)), some (.int (x1)), some (.int (x13)), some (.int (-9))] hC dX2_readTerm_48 rfl (by decide) rfl ?_
          refine r_aload_n 49 hC dX2_readTerm_49 rfl rfl ?_
          refine r_callV_v 50 (n := 0) [] [] hC hk0 rfl dX2_readTerm_50 (by show 2 + 1 ≤ 3 * d + 22; omega) (by show 8 + (1 + 11) + (149) ≤ 120 * d + 2070; omega) tw_559 tw_140 ⟨by decide, by decide, by decide +kernel⟩ tw_556 tw_558 tw_10 rfl rfl (sX2_advance (l := pm_l X) hG (q0) _ _ hk0 h) hab (Nat.le_of_ble_eq_true rfl) ?_
          clear h; intro I22 h
          refine r_aload_n 53 hC dX2_readTerm_53 rfl rfl ?_
          refine r_iload_n 54 hC dX2_readTerm_54 rfl rfl ?_
          refine r_callV_v 55 (n := 1) [.int (x1)] [] hC hk0 rfl dX2_readTerm_55 (by show 3 * d + 21 + 1 ≤ 3 * d + 22; omega) (by show 8 + (2 + 11) + (120 * d + 2035) ≤ 120 * d + 2070; omega) tw_680 tw_140 ⟨by decide, by decide, by decide +kernel⟩ tw_677 tw_679 tw_27 rfl rfl (sX2_readFactor (l := pm_l X) hG hS d Rr hR (q0) (x1) _ _ hk0 h) hab (Nat.le_of_ble_eq_true rfl) ?_
          clear h; intro I23 h
          refine r_aload_n 58 hC dX2_readTerm_58 rfl rfl ?_
          refine r_getR2 59 (r1 := (I23 (q0) 2).toNatClampNeg) hC hk0 2 (by decide) tw_521 rfl rfl dX2_readTerm_59 ?_
          have hg24 := h.1; replace h := h.2
          refine r_getRN1 62 (r1 := (I23 (q0) 2).toNatClampNeg + 5) hC hg24 5 (by decide) tw_212 rfl rfl dX2_readTerm_62 ?_
          refine r_iload_n 65 hC dX2_readTerm_65 rfl rfl ?_
          refine r_callVN_v 66 (n := 1) [.int (-9)] [] hC ((pm_s1 hG hg24).2.2.2.2) rfl dX2_readTerm_66 (by show 1 + 1 ≤ 3 * d + 22; omega) (by show 8 + (2 + 11) + (64) ≤ 120 * d + 2070; omega) tw_200 tw_131 ⟨by decide, by decide, by decide +kernel⟩ tw_681 tw_199 tw_3 rfl rfl (sX3_put (l := pm_l X) hG ((I23 (q0) 2).toNatClampNeg + 5) (-9) _ _ ((pm_s1 hG hg24).2.2.2.2) h) hab (Nat.le_of_ble_eq_true rfl) ?_
          clear h; intro I25 h
          refine r_iinc 69 (v := x13 + 1) [some (.ref (q0)), some (.int (x1)), some (.int (x13 + 1)), some (.int (-9))] hC dX2_readTerm_69 rfl (by rfl) (by decide) rfl ?_
          refine r_goto 72 7 hC dX2_readTerm_72 (by decide) ?_
          refine r_weak (ls' := [some (.ref (q0)), some (.int (x1)), some (.int (x13 + 1)), none]) (And.intro rfl (And.intro rfl (And.intro rfl (trivial)))) ?_
          exact h
        · replace h := h.2 hc
          refine r_bipush 41 (v := -8) hC dX2_readTerm_41 (by decide) ?_
          refine r_goto 43 48 hC dX2_readTerm_43 (by decide) ?_
          refine r_istore_n 48 [some (.ref (q0)), some (.int (x1)), some (.int (x13)), some (.int (-8))] hC dX2_readTerm_48 rfl (by decide) rfl ?_
          refine r_aload_n 49 hC dX2_readTerm_49 rfl rfl ?_
          refine r_callV_v 50 (n := 0) [] [] hC hk0 rfl dX2_readTerm_50 (by show 2 + 1 ≤ 3 * d + 22; omega) (by show 8 + (1 + 11) + (149) ≤ 120 * d + 2070; omega) tw_559 tw_140 ⟨by decide, by decide, by decide +kernel⟩ tw_556 tw_558 tw_10 rfl rfl (sX2_advance (l := pm_l X) hG (q0) _ _ hk0 h) hab (Nat.le_of_ble_eq_true rfl) ?_
          clear h; intro I26 h
          refine r_aload_n 53 hC dX2_readTerm_53 rfl rfl ?_
          refine r_iload_n 54 hC dX2_readTerm_54 rfl rfl ?_
          refine r_callV_v 55 (n := 1) [.int (x1)] [] hC hk0 rfl dX2_readTerm_55 (by show 3 * d + 21 + 1 ≤ 3 * d + 22; omega) (by show 8 + (2 + 11) + (120 * d + 2035) ≤ 120 * d + 2070; omega) tw_680 tw_140 ⟨by decide, by decide, by decide +kernel⟩ tw_677 tw_679 tw_27 rfl rfl (sX2_readFactor (l := pm_l X) hG hS d Rr hR (q0) (x1) _ _ hk0 h) hab (Nat.le_of_ble_eq_true rfl) ?_
          clear h; intro I27 h
          refine r_aload_n 58 hC dX2_readTerm_58 rfl rfl ?_
          refine r_getR2 59 (r1 := (I27 (q0) 2).toNatClampNeg) hC hk0 2 (by decide) tw_521 rfl rfl dX2_readTerm_59 ?_
          have hg28 := h.1; replace h := h.2
          refine r_getRN1 62 (r1 := (I27 (q0) 2).toNatClampNeg + 5) hC hg28 5 (by decide) tw_212 rfl rfl dX2_readTerm_62 ?_
          refine r_iload_n 65 hC dX2_readTerm_65 rfl rfl ?_
          refine r_callVN_v 66 (n := 1) [.int (-8)] [] hC ((pm_s1 hG hg28).2.2.2.2) rfl dX2_readTerm_66 (by show 1 + 1 ≤ 3 * d + 22; omega) (by show 8 + (2 + 11) + (64) ≤ 120 * d + 2070; omega) tw_200 tw_131 ⟨by decide, by decide, by decide +kernel⟩ tw_681 tw_199 tw_3 rfl rfl (sX3_put (l := pm_l X) hG ((I27 (q0) 2).toNatClampNeg + 5) (-8) _ _ ((pm_s1 hG hg28).2.2.2.2) h) hab (Nat.le_of_ble_eq_true rfl) ?_
          clear h; intro I29 h
          refine r_iinc 69 (v := x13 + 1) [some (.ref (q0)), some (.int (x1)), some (.int (x13 + 1)), some (.int (-8))] hC dX2_readTerm_69 rfl (by rfl) (by decide) rfl ?_
          refine r_goto 72 7 hC dX2_readTerm_72 (by decide) ?_
          refine r_weak (ls' := [some (.ref (q0)), some (.int (x1)), some (.int (x13 + 1)), none]) (And.intro rfl (And.intro rfl (And.intro rfl (trivial)))) ?_
          exact h

def wX2_readSumF (Rr : Nat → Int32 → pm_I → (pm_I → Prop) → Prop) (G : pm_G) (q0 : Nat) (x1 : Int32) (I : pm_I) (K : pm_I → Prop) : Prop :=
  wX2_readTerm Rr G (q0) (x1) I (fun I10 => pm_lp2 (fun (P11 : Int32 → pm_I → Prop) (x13 : Int32) (I12 : pm_I) => (600 ≤ x13 → K I12) ∧ (¬ 600 ≤ x13 → (((I12 q0 5) = 43 → ((¬ (I12 q0 5) = 43 → (wX2_advance G (q0) I12 (fun I14 => wX2_readTerm Rr G (q0) (x1) I14 (fun I15 => pm_k G ((I15 (q0) 2).toNatClampNeg) (.inl 1) ∧ (wX3_put G ((I15 (q0) 2).toNatClampNeg + 5) (-7) I15 (fun I17 => P11 (x13 + 1) I17)))))) ∧ ((I12 q0 5) = 43 → (wX2_advance G (q0) I12 (fun I18 => wX2_readTerm Rr G (q0) (x1) I18 (fun I19 => pm_k G ((I19 (q0) 2).toNatClampNeg) (.inl 1) ∧ (wX3_put G ((I19 (q0) 2).toNatClampNeg + 5) (-6) I19 (fun I21 => P11 (x13 + 1) I21)))))))) ∧ (¬ (I12 q0 5) = 43 → ((¬ (I12 q0 5) = 45 → K I12) ∧ ((I12 q0 5) = 45 → ((¬ (I12 q0 5) = 43 → (wX2_advance G (q0) I12 (fun I22 => wX2_readTerm Rr G (q0) (x1) I22 (fun I23 => pm_k G ((I23 (q0) 2).toNatClampNeg) (.inl 1) ∧ (wX3_put G ((I23 (q0) 2).toNatClampNeg + 5) (-7) I23 (fun I25 => P11 (x13 + 1) I25)))))) ∧ ((I12 q0 5) = 43 → (wX2_advance G (q0) I12 (fun I26 => wX2_readTerm Rr G (q0) (x1) I26 (fun I27 => pm_k G ((I27 (q0) 2).toNatClampNeg) (.inl 1) ∧ (wX3_put G ((I27 (q0) 2).toNatClampNeg + 5) (-6) I27 (fun I29 => P11 (x13 + 1) I29))))))))))))) (0) I10)

set_option maxRecDepth 20000 in
theorem sX2_readSumF {G : pm_G} {l : Launch} (hG : pm_ok G) (hS : pm_str G) (d : Nat) (Rr : Nat → Int32 → pm_I → (pm_I → Prop) → Prop) (hR : ∀ (q : Nat) (x : Int32) (I : pm_I) (K : pm_I → Prop), pm_k G q (.inl 2) → Rr q x I K → pm_Ct G l yX2_readSum cX2_readSum 4 none { frames := 3 * d + 20, cells := 0, slots := 0, locals := 120 * d + 2000 } [.ref q, .int x] I (pm_Kv K)) (q0 : Nat) (x1 : Int32) (I : pm_I) (K : pm_I → Prop) (hk0 : pm_k G q0 (.inl 2)) (h : wX2_readSumF Rr G q0 x1 I K) : pm_Ct G l yX2_readSum cX2_readSum 4 none { frames := 3 * d + 23, cells := 0, slots := 0, locals := 120 * d + 2120 } [.ref (q0), .int (x1)] I (pm_Kv K) := by
  unfold wX2_readSumF at h
  refine pm_enter (by decide +kernel) hG rfl (Nat.le_of_ble_eq_true rfl) rfl (fun X hl hC hE => ?_)
  subst hl
  have hab : 0 ≤ 0 ∧ 0 ≤ 0 := ⟨Nat.le_refl 0, Nat.le_refl 0⟩
  have hC : pm_C G X cX2_readSum 4 RX2 none { frames := 3 * d + 23, cells := 0, slots := 0, locals := 120 * d + 2120 } := hC
  refine r_aload_n 0 hC dX2_readSum_0 rfl rfl ?_
  refine r_iload_n 1 hC dX2_readSum_1 rfl rfl ?_
  refine r_callV_v 2 (n := 1) [.int (x1)] [] hC hk0 rfl dX2_readSum_2 (by show 3 * d + 22 + 1 ≤ 3 * d + 23; omega) (by show 8 + (4 + 11) + (120 * d + 2070) ≤ 120 * d + 2120; omega) tw_676 tw_140 ⟨by decide, by decide, by decide +kernel⟩ tw_673 tw_675 tw_26 rfl rfl (sX2_readTerm (l := pm_l X) hG hS d Rr hR (q0) (x1) _ _ hk0 h) hab (Nat.le_of_ble_eq_true rfl) ?_
  clear h; intro I10 h
  refine r_iconst 5 (v := 0) hC dX2_readSum_5 (by decide) ?_
  refine r_istore_n 6 [some (.ref (q0)), some (.int (x1)), some (.int (0)), none] hC dX2_readSum_6 rfl (by decide) rfl ?_
  refine h (fun x13 I12 => pm_R G X 4 0 0 7 [some (.ref (q0)), some (.int (x1)), some (.int (x13)), none] [] I12) ?_
  clear h; intro x13 I12 h
  refine r_iload_n 7 hC dX2_readSum_7 rfl rfl ?_
  refine r_sipush 8 (v := 600) hC dX2_readSum_8 (by decide) ?_
  refine r_icmp_ge 11 75 hC dX2_readSum_11 (by decide) (fun hc => ?_) (fun hc => ?_)
  · replace h := h.1 hc
    exact r_vret 75 hC hE dX2_readSum_75 ⟨rfl, h⟩
  · replace h := h.2 hc
    refine r_aload_n 14 hC dX2_readSum_14 rfl rfl ?_
    refine r_getI2 15 (x := I12 (q0) 5) hC hk0 5 (by decide) tw_524 rfl rfl dX2_readSum_15 ?_
    refine r_bipush 18 (v := 43) hC dX2_readSum_18 (by decide) ?_
    refine r_icmp_eq 20 32 hC dX2_readSum_20 (by decide) (fun hc => ?_) (fun hc => ?_)
    · replace h := h.1 hc
      refine r_aload_n 32 hC dX2_readSum_32 rfl rfl ?_
      refine r_getI2 33 (x := I12 (q0) 5) hC hk0 5 (by decide) tw_524 rfl rfl dX2_readSum_33 ?_
      refine r_bipush 36 (v := 43) hC dX2_readSum_36 (by decide) ?_
      refine r_icmp_ne 38 46 hC dX2_readSum_38 (by decide) (fun hc => ?_) (fun hc => ?_)
      · replace h := h.1 hc
        refine r_bipush 46 (v := -7) hC dX2_readSum_46 (by decide) ?_
        refine r_istore_n 48 [some (.ref (q0)), some (.int (x1)), some (.int (x13)), some (.int (-7))] hC dX2_readSum_48 rfl (by decide) rfl ?_
        refine r_aload_n 49 hC dX2_readSum_49 rfl rfl ?_
        refine r_callV_v 50 (n := 0) [] [] hC hk0 rfl dX2_readSum_50 (by show 2 + 1 ≤ 3 * d + 23; omega) (by show 8 + (1 + 11) + (149) ≤ 120 * d + 2120; omega) tw_559 tw_140 ⟨by decide, by decide, by decide +kernel⟩ tw_556 tw_558 tw_10 rfl rfl (sX2_advance (l := pm_l X) hG (q0) _ _ hk0 h) hab (Nat.le_of_ble_eq_true rfl) ?_
        clear h; intro I14 h
        refine r_aload_n 53 hC dX2_readSum_53 rfl rfl ?_
        refine r_iload_n 54 hC dX2_readSum_54 rfl rfl ?_
        refine r_callV_v 55 (n := 1) [.int (x1)] [] hC hk0 rfl dX2_readSum_55 (by show 3 * d + 22 + 1 ≤ 3 * d + 23; omega) (by show 8 + (4 + 11) + (120 * d + 2070) ≤ 120 * d + 2120; omega) tw_676 tw_140 ⟨by decide, by decide, by decide +kernel⟩ tw_673 tw_675 tw_26 rfl rfl (sX2_readTerm (l := pm_l X) hG hS d Rr hR (q0) (x1) _ _ hk0 h) hab (Nat.le_of_ble_eq_true rfl) ?_
        clear h; intro I15 h
        refine r_aload_n 58 hC dX2_readSum_58 rfl rfl ?_
        refine r_getR2 59 (r1 := (I15 (q0) 2).toNatClampNeg) hC hk0 2 (by decide) tw_521 rfl rfl dX2_readSum_59 ?_
        have hg16 := h.1; replace h := h.2
        refine r_getRN1 62 (r1 := (I15 (q0) 2).toNatClampNeg + 5) hC hg16 5 (by decide) tw_212 rfl rfl dX2_readSum_62 ?_
        refine r_iload_n 65 hC dX2_readSum_65 rfl rfl ?_
        refine r_callVN_v 66 (n := 1) [.int (-7)] [] hC ((pm_s1 hG hg16).2.2.2.2) rfl dX2_readSum_66 (by show 1 + 1 ≤ 3 * d + 23; omega) (by show 8 + (2 + 11) + (64) ≤ 120 * d + 2120; omega) tw_200 tw_131 ⟨by decide, by decide, by decide +kernel⟩ tw_681 tw_199 tw_3 rfl rfl (sX3_put (l := pm_l X) hG ((I15 (q0) 2).toNatClampNeg + 5) (-7) _ _ ((pm_s1 hG hg16).2.2.2.2) h) hab (Nat.le_of_ble_eq_true rfl) ?_
        clear h; intro I17 h
        refine r_iinc 69 (v := x13 + 1) [some (.ref (q0)), some (.int (x1)), some (.int (x13 + 1)), some (.int (-7))] hC dX2_readSum_69 rfl (by rfl) (by decide) rfl ?_
        refine r_goto 72 7 hC dX2_readSum_72 (by decide) ?_
        refine r_weak (ls' := [some (.ref (q0)), some (.int (x1)), some (.int (x13 + 1)), none]) (And.intro rfl (And.intro rfl (And.intro rfl (trivial)))) ?_
        exact h
      · replace h := h.2 hc
        refine r_bipush 41 (v := -6) hC dX2_readSum_41 (by decide) ?_
        refine r_goto 43 48 hC dX2_readSum_43 (by decide) ?_
        refine r_istore_n 48 [some (.ref (q0)), some (.int (x1)), some (.int (x13)), some (.int (-6))] hC dX2_readSum_48 rfl (by decide) rfl ?_
        refine r_aload_n 49 hC dX2_readSum_49 rfl rfl ?_
        refine r_callV_v 50 (n := 0) [] [] hC hk0 rfl dX2_readSum_50 (by show 2 + 1 ≤ 3 * d + 23; omega) (by show 8 + (1 + 11) + (149) ≤ 120 * d + 2120; omega) tw_559 tw_140 ⟨by decide, by decide, by decide +kernel⟩ tw_556 tw_558 tw_10 rfl rfl (sX2_advance (l := pm_l X) hG (q0) _ _ hk0 h) hab (Nat.le_of_ble_eq_true rfl) ?_
        clear h; intro I18 h
        refine r_aload_n 53 hC dX2_readSum_53 rfl rfl ?_
        refine r_iload_n 54 hC dX2_readSum_54 rfl rfl ?_
        refine r_callV_v 55 (n := 1) [.int (x1)] [] hC hk0 rfl dX2_readSum_55 (by show 3 * d + 22 + 1 ≤ 3 * d + 23; omega) (by show 8 + (4 + 11) + (120 * d + 2070) ≤ 120 * d + 2120; omega) tw_676 tw_140 ⟨by decide, by decide, by decide +kernel⟩ tw_673 tw_675 tw_26 rfl rfl (sX2_readTerm (l := pm_l X) hG hS d Rr hR (q0) (x1) _ _ hk0 h) hab (Nat.le_of_ble_eq_true rfl) ?_
        clear h; intro I19 h
        refine r_aload_n 58 hC dX2_readSum_58 rfl rfl ?_
        refine r_getR2 59 (r1 := (I19 (q0) 2).toNatClampNeg) hC hk0 2 (by decide) tw_521 rfl rfl dX2_readSum_59 ?_
        have hg20 := h.1; replace h := h.2
        refine r_getRN1 62 (r1 := (I19 (q0) 2).toNatClampNeg + 5) hC hg20 5 (by decide) tw_212 rfl rfl dX2_readSum_62 ?_
        refine r_iload_n 65 hC dX2_readSum_65 rfl rfl ?_
        refine r_callVN_v 66 (n := 1) [.int (-6)] [] hC ((pm_s1 hG hg20).2.2.2.2) rfl dX2_readSum_66 (by show 1 + 1 ≤ 3 * d + 23; omega) (by show 8 + (2 + 11) + (64) ≤ 120 * d + 2120; omega) tw_200 tw_131 ⟨by decide, by decide, by decide +kernel⟩ tw_681 tw_199 tw_3 rfl rfl (sX3_put (l := pm_l X) hG ((I19 (q0) 2).toNatClampNeg + 5) (-6) _ _ ((pm_s1 hG hg20).2.2.2.2) h) hab (Nat.le_of_ble_eq_true rfl) ?_
        clear h; intro I21 h
        refine r_iinc 69 (v := x13 + 1) [some (.ref (q0)), some (.int (x1)), some (.int (x13 + 1)), some (.int (-6))] hC dX2_readSum_69 rfl (by rfl) (by decide) rfl ?_
        refine r_goto 72 7 hC dX2_readSum_72 (by decide) ?_
        refine r_weak (ls' := [some (.ref (q0)), some (.int (x1)), some (.int (x13 + 1)), none]) (And.intro rfl (And.intro rfl (And.intro rfl (trivial)))) ?_
        exact h
    · replace h := h.2 hc
      refine r_aload_n 23 hC dX2_readSum_23 rfl rfl ?_
      refine r_getI2 24 (x := I12 (q0) 5) hC hk0 5 (by decide) tw_524 rfl rfl dX2_readSum_24 ?_
      refine r_bipush 27 (v := 45) hC dX2_readSum_27 (by decide) ?_
      refine r_icmp_ne 29 75 hC dX2_readSum_29 (by decide) (fun hc => ?_) (fun hc => ?_)
      · replace h := h.1 hc
        exact r_vret 75 hC hE dX2_readSum_75 ⟨rfl, h⟩
      · replace h := h.2 hc
        refine r_aload_n 32 hC dX2_readSum_32 rfl rfl ?_
        refine r_getI2 33 (x := I12 (q0) 5) hC hk0 5 (by decide) tw_524 rfl rfl dX2_readSum_33 ?_
        refine r_bipush 36 (v := 43) hC dX2_readSum_36 (by decide) ?_
        refine r_icmp_ne 38 46 hC dX2_readSum_38 (by decide) (fun hc => ?_) (fun hc => ?_)
        · replace h := h.1 hc
          refine r_bipush 46 (v := -7) hC dX2_readSum_46 (by decide) ?_
          refine r_istore_n 48 [some (.ref (q0)), some (.int (x1)), some (.int (x13)), some (.int (-7))] hC dX2_readSum_48 rfl (by decide) rfl ?_
          refine r_aload_n 49 hC dX2_readSum_49 rfl rfl ?_
          refine r_callV_v 50 (n := 0) [] [] hC hk0 rfl dX2_readSum_50 (by show 2 + 1 ≤ 3 * d + 23; omega) (by show 8 + (1 + 11) + (149) ≤ 120 * d + 2120; omega) tw_559 tw_140 ⟨by decide, by decide, by decide +kernel⟩ tw_556 tw_558 tw_10 rfl rfl (sX2_advance (l := pm_l X) hG (q0) _ _ hk0 h) hab (Nat.le_of_ble_eq_true rfl) ?_
          clear h; intro I22 h
          refine r_aload_n 53 hC dX2_readSum_53 rfl rfl ?_
          refine r_iload_n 54 hC dX2_readSum_54 rfl rfl ?_
          refine r_callV_v 55 (n := 1) [.int (x1)] [] hC hk0 rfl dX2_readSum_55 (by show 3 * d + 22 + 1 ≤ 3 * d + 23; omega) (by show 8 + (4 + 11) + (120 * d + 2070) ≤ 120 * d + 2120; omega) tw_676 tw_140 ⟨by decide, by decide, by decide +kernel⟩ tw_673 tw_675 tw_26 rfl rfl (sX2_readTerm (l := pm_l X) hG hS d Rr hR (q0) (x1) _ _ hk0 h) hab (Nat.le_of_ble_eq_true rfl) ?_
          clear h; intro I23 h
          refine r_aload_n 58 hC dX2_readSum_58 rfl rfl ?_
          refine r_getR2 59 (r1 := (I23 (q0) 2).toNatClampNeg) hC hk0 2 (by decide) tw_521 rfl rfl dX2_readSum_59 ?_
          have hg24 := h.1; replace h := h.2
          refine r_getRN1 62 (r1 := (I23 (q0) 2).toNatClampNeg + 5) hC hg24 5 (by decide) tw_212 rfl rfl dX2_readSum_62 ?_
          refine r_iload_n 65 hC dX2_readSum_65 rfl rfl ?_
          refine r_callVN_v 66 (n := 1) [.int (-7)] [] hC ((pm_s1 hG hg24).2.2.2.2) rfl dX2_readSum_66 (by show 1 + 1 ≤ 3 * d + 23; omega) (by show 8 + (2 + 11) + (64) ≤ 120 * d + 2120; omega) tw_200 tw_131 ⟨by decide, by decide, by decide +kernel⟩ tw_681 tw_199 tw_3 rfl rfl (sX3_put (l := pm_l X) hG ((I23 (q0) 2).toNatClampNeg + 5) (-7) _ _ ((pm_s1 hG hg24).2.2.2.2) h) hab (Nat.le_of_ble_eq_true rfl) ?_
          clear h; intro I25 h
          refine r_iinc 69 (v := x13 + 1) [some (.ref (q0)), some (.int (x1)), some (.int (x13 + 1)), some (.int (-7))] hC dX2_readSum_69 rfl (by rfl) (by decide) rfl ?_
          refine r_goto 72 7 hC dX2_readSum_72 (by decide) ?_
          refine r_weak (ls' := [some (.ref (q0)), some (.int (x1)), some (.int (x13 + 1)), none]) (And.intro rfl (And.intro rfl (And.intro rfl (trivial)))) ?_
          exact h
        · replace h := h.2 hc
          refine r_bipush 41 (v := -6) hC dX2_readSum_41 (by decide) ?_
          refine r_goto 43 48 hC dX2_readSum_43 (by decide) ?_
          refine r_istore_n 48 [some (.ref (q0)), some (.int (x1)), some (.int (x13)), some (.int (-6))] hC dX2_readSum_48 rfl (by decide) rfl ?_
          refine r_aload_n 49 hC dX2_readSum_49 rfl rfl ?_
          refine r_callV_v 50 (n := 0) [] [] hC hk0 rfl dX2_readSum_50 (by show 2 + 1 ≤ 3 * d + 23; omega) (by show 8 + (1 + 11) + (149) ≤ 120 * d + 2120; omega) tw_559 tw_140 ⟨by decide, by decide, by decide +kernel⟩ tw_556 tw_558 tw_10 rfl rfl (sX2_advance (l := pm_l X) hG (q0) _ _ hk0 h) hab (Nat.le_of_ble_eq_true rfl) ?_
          clear h; intro I26 h
          refine r_aload_n 53 hC dX2_readSum_53 rfl rfl ?_
          refine r_iload_n 54 hC dX2_readSum_54 rfl rfl ?_
          refine r_callV_v 55 (n := 1) [.int (x1)] [] hC hk0 rfl dX2_readSum_55 (by show 3 * d + 22 + 1 ≤ 3 * d + 23; omega) (by show 8 + (4 + 11) + (120 * d + 2070) ≤ 120 * d + 2120; omega) tw_676 tw_140 ⟨by decide, by decide, by decide +kernel⟩ tw_673 tw_675 tw_26 rfl rfl (sX2_readTerm (l := pm_l X) hG hS d Rr hR (q0) (x1) _ _ hk0 h) hab (Nat.le_of_ble_eq_true rfl) ?_
          clear h; intro I27 h
          refine r_aload_n 58 hC dX2_readSum_58 rfl rfl ?_
          refine r_getR2 59 (r1 := (I27 (q0) 2).toNatClampNeg) hC hk0 2 (by decide) tw_521 rfl rfl dX2_readSum_59 ?_
          have hg28 := h.1; replace h := h.2
          refine r_getRN1 62 (r1 := (I27 (q0) 2).toNatClampNeg + 5) hC hg28 5 (by decide) tw_212 rfl rfl dX2_readSum_62 ?_
          refine r_iload_n 65 hC dX2_readSum_65 rfl rfl ?_
          refine r_callVN_v 66 (n := 1) [.int (-6)] [] hC ((pm_s1 hG hg28).2.2.2.2) rfl dX2_readSum_66 (by show 1 + 1 ≤ 3 * d + 23; omega) (by show 8 + (2 + 11) + (64) ≤ 120 * d + 2120; omega) tw_200 tw_131 ⟨by decide, by decide, by decide +kernel⟩ tw_681 tw_199 tw_3 rfl rfl (sX3_put (l := pm_l X) hG ((I27 (q0) 2).toNatClampNeg + 5) (-6) _ _ ((pm_s1 hG hg28).2.2.2.2) h) hab (Nat.le_of_ble_eq_true rfl) ?_
          clear h; intro I29 h
          refine r_iinc 69 (v := x13 + 1) [some (.ref (q0)), some (.int (x1)), some (.int (x13 + 1)), some (.int (-6))] hC dX2_readSum_69 rfl (by rfl) (by decide) rfl ?_
          refine r_goto 72 7 hC dX2_readSum_72 (by decide) ?_
          refine r_weak (ls' := [some (.ref (q0)), some (.int (x1)), some (.int (x13 + 1)), none]) (And.intro rfl (And.intro rfl (And.intro rfl (trivial)))) ?_
          exact h

def wX2_readSum : Nat → pm_G → Nat → Int32 → pm_I → (pm_I → Prop) → Prop
  | 0, _ => fun _ _ _ _ => False
  | d + 1, G => fun q0 x1 I K => wX2_readSumF (wX2_readSum d G) G q0 x1 I K

theorem sX2_readSum {G : pm_G} {l : Launch} (hG : pm_ok G) (hS : pm_str G) : ∀ (d : Nat) (q0 : Nat) (x1 : Int32) (I : pm_I) (K : pm_I → Prop) (hk0 : pm_k G q0 (.inl 2)) (h : wX2_readSum d G q0 x1 I K), pm_Ct G l yX2_readSum cX2_readSum 4 none { frames := 3 * d + 20, cells := 0, slots := 0, locals := 120 * d + 2000 } [.ref q0, .int x1] I (pm_Kv K) := by
  intro d
  induction d with
  | zero => intro q0 x1 I K hk0 h; exact absurd h (by simp [wX2_readSum])
  | succ d ih =>
    intro q0 x1 I K hk0 h
    exact sX2_readSumF hG hS d (wX2_readSum d G) (fun q x I K hk h => ih q x I K hk h) q0 x1 I K hk0 h

def wX2_readStatement (G : pm_G) (q0 : Nat) (I : pm_I) (K : pm_I → Prop) : Prop :=
  wX2_wordIs G (q0) 0 I (fun r11 I10 => (r11 = 0 → (wX2_wordIs G (q0) 1 I10 (fun r13 I12 => (r13 = 0 → (wX2_wordIs G (q0) 2 I12 (fun r15 I14 => (r15 = 0 → (wX2_wordIs G (q0) 3 I14 (fun r17 I16 => (r17 = 0 → (wX2_wordIs G (q0) 4 I16 (fun r19 I18 => (r19 = 0 → (wX2_wordIs G (q0) 5 I18 (fun r21 I20 => (r21 = 0 → (wX2_fail G (q0) (1) I20 (fun I22 => K I22))) ∧ (¬ r21 = 0 → (wX2_beginsOnly G (q0) (4) I20 (fun r24 I23 => (r24 = 0 → K I23) ∧ (¬ r24 = 0 → (pm_k G ((I23 (q0) 2).toNatClampNeg) (.inl 1) ∧ (wX2_readNumber G (q0) (1) (99) (-1) I23 (fun r27 I26 => ∀ I28 : pm_I, I28 = pm_up I26 ((I23 (q0) 2).toNatClampNeg) 8 (r27) → K I28)))))))))) ∧ (¬ r19 = 0 → (wX2_beginsOnly G (q0) (2) I18 (fun r30 I29 => (r30 = 0 → K I29) ∧ (¬ r30 = 0 → (pm_k G ((I29 (q0) 2).toNatClampNeg) (.inl 1) ∧ (wX2_readNumber G (q0) (1) (20) (-1) I29 (fun r33 I32 => ∀ I34 : pm_I, I34 = pm_up I32 ((I29 (q0) 2).toNatClampNeg) 6 (r33) → (pm_k G ((I34 (q0) 2).toNatClampNeg) (.inl 1) ∧ (wX2_readNumber G (q0) (1) (9) (-1) I34 (fun r37 I36 => ∀ I38 : pm_I, I38 = pm_up I36 ((I34 (q0) 2).toNatClampNeg) 7 (r37) → K I38))))))))))))) ∧ (¬ r17 = 0 → (wX2_beginsOnly G (q0) (1) I16 (fun r40 I39 => (r40 = 0 → K I39) ∧ (¬ r40 = 0 → (pm_k G ((I39 (q0) 2).toNatClampNeg) (.inl 1) ∧ (wX3_clear G ((I39 (q0) 2).toNatClampNeg + 5) I39 (fun I42 => wX2_readSum 6 G (q0) (0) I42 (fun I43 => K I43))))))))))) ∧ (¬ r15 = 0 → (wX2_readKnows G (q0) I14 (fun I44 => K I44)))))) ∧ (¬ r13 = 0 → (wX2_readLink G (q0) I12 (fun I45 => K I45)))))) ∧ (¬ r11 = 0 → (wX2_readPeer G (q0) I10 (fun I46 => K I46))))

set_option maxRecDepth 20000 in
theorem sX2_readStatement {G : pm_G} {l : Launch} (hG : pm_ok G) (hS : pm_str G) (q0 : Nat) (I : pm_I) (K : pm_I → Prop) (hk0 : pm_k G q0 (.inl 2)) (h : wX2_readStatement G q0 I K) : pm_Ct G l yX2_readStatement cX2_readStatement 1 none { frames := 39, cells := 0, slots := 0, locals := 2807 } [.ref (q0)] I (pm_Kv K) := by
  unfold wX2_readStatement at h
  refine pm_enter (by decide +kernel) hG rfl (Nat.le_of_ble_eq_true rfl) rfl (fun X hl hC hE => ?_)
  subst hl
  have hab : 0 ≤ 0 ∧ 0 ≤ 0 := ⟨Nat.le_refl 0, Nat.le_refl 0⟩
  have hC : pm_C G X cX2_readStatement 1 RX2 none { frames := 39, cells := 0, slots := 0, locals := 2807 } := hC
  refine r_aload_n 0 hC dX2_readStatement_0 rfl rfl ?_
  refine r_ldcS 1 (i := 0) (tx := "peer") hS hC (by decide) dX2_readStatement_1 ?_
  refine r_callV_i 3 (n := 1) [.ref (1000000 + 0)] [] hC hk0 rfl dX2_readStatement_3 (by decide) (by decide) tw_580 tw_140 ⟨by decide, by decide, by decide +kernel⟩ tw_577 tw_579 tw_15 rfl rfl (sX2_wordIs (l := pm_l X) hG hS (q0) 0 _ _ hk0 (by decide) h) hab (Nat.le_of_ble_eq_true rfl) ?_
  clear h; intro r11 I10 h
  refine r_if_eq 6 16 hC dX2_readStatement_6 (by decide) (fun hc => ?_) (fun hc => ?_)
  · replace h := h.1 hc
    refine r_aload_n 16 hC dX2_readStatement_16 rfl rfl ?_
    refine r_ldcS 17 (i := 1) (tx := "link") hS hC (by decide) dX2_readStatement_17 ?_
    refine r_callV_i 19 (n := 1) [.ref (1000000 + 1)] [] hC hk0 rfl dX2_readStatement_19 (by decide) (by decide) tw_580 tw_140 ⟨by decide, by decide, by decide +kernel⟩ tw_577 tw_579 tw_15 rfl rfl (sX2_wordIs (l := pm_l X) hG hS (q0) 1 _ _ hk0 (by decide) h) hab (Nat.le_of_ble_eq_true rfl) ?_
    clear h; intro r13 I12 h
    refine r_if_eq 22 32 hC dX2_readStatement_22 (by decide) (fun hc => ?_) (fun hc => ?_)
    · replace h := h.1 hc
      refine r_aload_n 32 hC dX2_readStatement_32 rfl rfl ?_
      refine r_ldcS 33 (i := 2) (tx := "knows") hS hC (by decide) dX2_readStatement_33 ?_
      refine r_callV_i 35 (n := 1) [.ref (1000000 + 2)] [] hC hk0 rfl dX2_readStatement_35 (by decide) (by decide) tw_580 tw_140 ⟨by decide, by decide, by decide +kernel⟩ tw_577 tw_579 tw_15 rfl rfl (sX2_wordIs (l := pm_l X) hG hS (q0) 2 _ _ hk0 (by decide) h) hab (Nat.le_of_ble_eq_true rfl) ?_
      clear h; intro r15 I14 h
      refine r_if_eq 38 48 hC dX2_readStatement_38 (by decide) (fun hc => ?_) (fun hc => ?_)
      · replace h := h.1 hc
        refine r_aload_n 48 hC dX2_readStatement_48 rfl rfl ?_
        refine r_ldcS 49 (i := 3) (tx := "score") hS hC (by decide) dX2_readStatement_49 ?_
        refine r_callV_i 51 (n := 1) [.ref (1000000 + 3)] [] hC hk0 rfl dX2_readStatement_51 (by decide) (by decide) tw_580 tw_140 ⟨by decide, by decide, by decide +kernel⟩ tw_577 tw_579 tw_15 rfl rfl (sX2_wordIs (l := pm_l X) hG hS (q0) 3 _ _ hk0 (by decide) h) hab (Nat.le_of_ble_eq_true rfl) ?_
        clear h; intro r17 I16 h
        refine r_if_eq 54 83 hC dX2_readStatement_54 (by decide) (fun hc => ?_) (fun hc => ?_)
        · replace h := h.1 hc
          refine r_aload_n 83 hC dX2_readStatement_83 rfl rfl ?_
          refine r_ldcS 84 (i := 4) (tx := "probe") hS hC (by decide) dX2_readStatement_84 ?_
          refine r_callV_i 86 (n := 1) [.ref (1000000 + 4)] [] hC hk0 rfl dX2_readStatement_86 (by decide) (by decide) tw_580 tw_140 ⟨by decide, by decide, by decide +kernel⟩ tw_577 tw_579 tw_15 rfl rfl (sX2_wordIs (l := pm_l X) hG hS (q0) 4 _ _ hk0 (by decide) h) hab (Nat.le_of_ble_eq_true rfl) ?_
          clear h; intro r19 I18 h
          refine r_if_eq 89 133 hC dX2_readStatement_89 (by decide) (fun hc => ?_) (fun hc => ?_)
          · replace h := h.1 hc
            refine r_aload_n 133 hC dX2_readStatement_133 rfl rfl ?_
            refine r_ldcS 134 (i := 5) (tx := "keys") hS hC (by decide) dX2_readStatement_134 ?_
            refine r_callV_i 136 (n := 1) [.ref (1000000 + 5)] [] hC hk0 rfl dX2_readStatement_136 (by decide) (by decide) tw_580 tw_140 ⟨by decide, by decide, by decide +kernel⟩ tw_577 tw_579 tw_15 rfl rfl (sX2_wordIs (l := pm_l X) hG hS (q0) 5 _ _ hk0 (by decide) h) hab (Nat.le_of_ble_eq_true rfl) ?_
            clear h; intro r21 I20 h
            refine r_if_eq 139 168 hC dX2_readStatement_139 (by decide) (fun hc => ?_) (fun hc => ?_)
            · replace h := h.1 hc
              refine r_aload_n 168 hC dX2_readStatement_168 rfl rfl ?_
              refine r_iconst 169 (v := 1) hC dX2_readStatement_169 (by decide) ?_
              refine r_callV_v 170 (n := 1) [.int (1)] [] hC hk0 rfl dX2_readStatement_170 (by decide) (by decide) tw_636 tw_140 ⟨by decide, by decide, by decide +kernel⟩ tw_633 tw_635 tw_17 rfl rfl (sX2_fail (l := pm_l X) hG (q0) (1) _ _ hk0 h) hab (Nat.le_of_ble_eq_true rfl) ?_
              clear h; intro I22 h
              exact r_vret 173 hC hE dX2_readStatement_173 ⟨rfl, h⟩
            · replace h := h.2 hc
              refine r_aload_n 142 hC dX2_readStatement_142 rfl rfl ?_
              refine r_iconst 143 (v := 4) hC dX2_readStatement_143 (by decide) ?_
              refine r_callV_i 144 (n := 1) [.int (4)] [] hC hk0 rfl dX2_readStatement_144 (by decide) (by decide) tw_667 tw_140 ⟨by decide, by decide, by decide +kernel⟩ tw_664 tw_666 tw_24 rfl rfl (sX2_beginsOnly (l := pm_l X) hG (q0) (4) _ _ hk0 h) hab (Nat.le_of_ble_eq_true rfl) ?_
              clear h; intro r24 I23 h
              refine r_if_eq 147 173 hC dX2_readStatement_147 (by decide) (fun hc => ?_) (fun hc => ?_)
              · replace h := h.1 hc
                exact r_vret 173 hC hE dX2_readStatement_173 ⟨rfl, h⟩
              · replace h := h.2 hc
                refine r_aload_n 150 hC dX2_readStatement_150 rfl rfl ?_
                refine r_getR2 151 (r1 := (I23 (q0) 2).toNatClampNeg) hC hk0 2 (by decide) tw_521 rfl rfl dX2_readStatement_151 ?_
                have hg25 := h.1; replace h := h.2
                refine r_aload_n 154 hC dX2_readStatement_154 rfl rfl ?_
                refine r_iconst 155 (v := 1) hC dX2_readStatement_155 (by decide) ?_
                refine r_bipush 156 (v := 99) hC dX2_readStatement_156 (by decide) ?_
                refine r_iconst 158 (v := -1) hC dX2_readStatement_158 (by decide) ?_
                refine r_callV_i 159 (n := 3) [.int (1), .int (99), .int (-1)] [.ref ((I23 (q0) 2).toNatClampNeg)] hC hk0 rfl dX2_readStatement_159 (by decide) (by decide) tw_640 tw_140 ⟨by decide, by decide, by decide +kernel⟩ tw_637 tw_639 tw_18 rfl rfl (sX2_readNumber (l := pm_l X) hG (q0) (1) (99) (-1) _ _ hk0 h) hab (Nat.le_of_ble_eq_true rfl) ?_
                clear h; intro r27 I26 h
                refine r_putIN1 162 hC hg25 8 (by decide) tw_221 rfl rfl (by decide +kernel) ps_1_8 dX2_readStatement_162 (fun I28 hI => ?_)
                replace h := h I28 hI; clear hI
                refine r_goto 165 173 hC dX2_readStatement_165 (by decide) ?_
                exact r_vret 173 hC hE dX2_readStatement_173 ⟨rfl, h⟩
          · replace h := h.2 hc
            refine r_aload_n 92 hC dX2_readStatement_92 rfl rfl ?_
            refine r_iconst 93 (v := 2) hC dX2_readStatement_93 (by decide) ?_
            refine r_callV_i 94 (n := 1) [.int (2)] [] hC hk0 rfl dX2_readStatement_94 (by decide) (by decide) tw_667 tw_140 ⟨by decide, by decide, by decide +kernel⟩ tw_664 tw_666 tw_24 rfl rfl (sX2_beginsOnly (l := pm_l X) hG (q0) (2) _ _ hk0 h) hab (Nat.le_of_ble_eq_true rfl) ?_
            clear h; intro r30 I29 h
            refine r_if_eq 97 173 hC dX2_readStatement_97 (by decide) (fun hc => ?_) (fun hc => ?_)
            · replace h := h.1 hc
              exact r_vret 173 hC hE dX2_readStatement_173 ⟨rfl, h⟩
            · replace h := h.2 hc
              refine r_aload_n 100 hC dX2_readStatement_100 rfl rfl ?_
              refine r_getR2 101 (r1 := (I29 (q0) 2).toNatClampNeg) hC hk0 2 (by decide) tw_521 rfl rfl dX2_readStatement_101 ?_
              have hg31 := h.1; replace h := h.2
              refine r_aload_n 104 hC dX2_readStatement_104 rfl rfl ?_
              refine r_iconst 105 (v := 1) hC dX2_readStatement_105 (by decide) ?_
              refine r_bipush 106 (v := 20) hC dX2_readStatement_106 (by decide) ?_
              refine r_iconst 108 (v := -1) hC dX2_readStatement_108 (by decide) ?_
              refine r_callV_i 109 (n := 3) [.int (1), .int (20), .int (-1)] [.ref ((I29 (q0) 2).toNatClampNeg)] hC hk0 rfl dX2_readStatement_109 (by decide) (by decide) tw_640 tw_140 ⟨by decide, by decide, by decide +kernel⟩ tw_637 tw_639 tw_18 rfl rfl (sX2_readNumber (l := pm_l X) hG (q0) (1) (20) (-1) _ _ hk0 h) hab (Nat.le_of_ble_eq_true rfl) ?_
              clear h; intro r33 I32 h
              refine r_putIN1 112 hC hg31 6 (by decide) tw_215 rfl rfl (by decide +kernel) ps_1_6 dX2_readStatement_112 (fun I34 hI => ?_)
              replace h := h I34 hI; clear hI
              refine r_aload_n 115 hC dX2_readStatement_115 rfl rfl ?_
              refine r_getR2 116 (r1 := (I34 (q0) 2).toNatClampNeg) hC hk0 2 (by decide) tw_521 rfl rfl dX2_readStatement_116 ?_
              have hg35 := h.1; replace h := h.2
              refine r_aload_n 119 hC dX2_readStatement_119 rfl rfl ?_
              refine r_iconst 120 (v := 1) hC dX2_readStatement_120 (by decide) ?_
              refine r_bipush 121 (v := 9) hC dX2_readStatement_121 (by decide) ?_
              refine r_iconst 123 (v := -1) hC dX2_readStatement_123 (by decide) ?_
              refine r_callV_i 124 (n := 3) [.int (1), .int (9), .int (-1)] [.ref ((I34 (q0) 2).toNatClampNeg)] hC hk0 rfl dX2_readStatement_124 (by decide) (by decide) tw_640 tw_140 ⟨by decide, by decide, by decide +kernel⟩ tw_637 tw_639 tw_18 rfl rfl (sX2_readNumber (l := pm_l X) hG (q0) (1) (9) (-1) _ _ hk0 h) hab (Nat.le_of_ble_eq_true rfl) ?_
              clear h; intro r37 I36 h
              refine r_putIN1 127 hC hg35 7 (by decide) tw_218 rfl rfl (by decide +kernel) ps_1_7 dX2_readStatement_127 (fun I38 hI => ?_)
              replace h := h I38 hI; clear hI
              refine r_goto 130 173 hC dX2_readStatement_130 (by decide) ?_
              exact r_vret 173 hC hE dX2_readStatement_173 ⟨rfl, h⟩
        · replace h := h.2 hc
          refine r_aload_n 57 hC dX2_readStatement_57 rfl rfl ?_
          refine r_iconst 58 (v := 1) hC dX2_readStatement_58 (by decide) ?_
          refine r_callV_i 59 (n := 1) [.int (1)] [] hC hk0 rfl dX2_readStatement_59 (by decide) (by decide) tw_667 tw_140 ⟨by decide, by decide, by decide +kernel⟩ tw_664 tw_666 tw_24 rfl rfl (sX2_beginsOnly (l := pm_l X) hG (q0) (1) _ _ hk0 h) hab (Nat.le_of_ble_eq_true rfl) ?_
          clear h; intro r40 I39 h
          refine r_if_eq 62 173 hC dX2_readStatement_62 (by decide) (fun hc => ?_) (fun hc => ?_)
          · replace h := h.1 hc
            exact r_vret 173 hC hE dX2_readStatement_173 ⟨rfl, h⟩
          · replace h := h.2 hc
            refine r_aload_n 65 hC dX2_readStatement_65 rfl rfl ?_
            refine r_getR2 66 (r1 := (I39 (q0) 2).toNatClampNeg) hC hk0 2 (by decide) tw_521 rfl rfl dX2_readStatement_66 ?_
            have hg41 := h.1; replace h := h.2
            refine r_getRN1 69 (r1 := (I39 (q0) 2).toNatClampNeg + 5) hC hg41 5 (by decide) tw_212 rfl rfl dX2_readStatement_69 ?_
            refine r_callVN_v 72 (n := 0) [] [] hC ((pm_s1 hG hg41).2.2.2.2) rfl dX2_readStatement_72 (by decide) (by decide) tw_196 tw_131 ⟨by decide, by decide, by decide +kernel⟩ tw_668 tw_195 tw_2 rfl rfl (sX3_clear (l := pm_l X) hG ((I39 (q0) 2).toNatClampNeg + 5) _ _ ((pm_s1 hG hg41).2.2.2.2) h) hab (Nat.le_of_ble_eq_true rfl) ?_
            clear h; intro I42 h
            refine r_aload_n 75 hC dX2_readStatement_75 rfl rfl ?_
            refine r_iconst 76 (v := 0) hC dX2_readStatement_76 (by decide) ?_
            refine r_callV_v 77 (n := 1) [.int (0)] [] hC hk0 rfl dX2_readStatement_77 (by decide) (by decide) tw_672 tw_140 ⟨by decide, by decide, by decide +kernel⟩ tw_669 tw_671 tw_25 rfl rfl (sX2_readSum (l := pm_l X) hG hS 6 (q0) (0) _ _ hk0 h) hab (Nat.le_of_ble_eq_true rfl) ?_
            clear h; intro I43 h
            refine r_goto 80 173 hC dX2_readStatement_80 (by decide) ?_
            exact r_vret 173 hC hE dX2_readStatement_173 ⟨rfl, h⟩
      · replace h := h.2 hc
        refine r_aload_n 41 hC dX2_readStatement_41 rfl rfl ?_
        refine r_callV_v 42 (n := 0) [] [] hC hk0 rfl dX2_readStatement_42 (by decide) (by decide) tw_658 tw_140 ⟨by decide, by decide, by decide +kernel⟩ tw_655 tw_657 tw_22 rfl rfl (sX2_readKnows (l := pm_l X) hG (q0) _ _ hk0 h) hab (Nat.le_of_ble_eq_true rfl) ?_
        clear h; intro I44 h
        refine r_goto 45 173 hC dX2_readStatement_45 (by decide) ?_
        exact r_vret 173 hC hE dX2_readStatement_173 ⟨rfl, h⟩
    · replace h := h.2 hc
      refine r_aload_n 25 hC dX2_readStatement_25 rfl rfl ?_
      refine r_callV_v 26 (n := 0) [] [] hC hk0 rfl dX2_readStatement_26 (by decide) (by decide) tw_649 tw_140 ⟨by decide, by decide, by decide +kernel⟩ tw_646 tw_648 tw_20 rfl rfl (sX2_readLink (l := pm_l X) hG (q0) _ _ hk0 h) hab (Nat.le_of_ble_eq_true rfl) ?_
      clear h; intro I45 h
      refine r_goto 29 173 hC dX2_readStatement_29 (by decide) ?_
      exact r_vret 173 hC hE dX2_readStatement_173 ⟨rfl, h⟩
  · replace h := h.2 hc
    refine r_aload_n 9 hC dX2_readStatement_9 rfl rfl ?_
    refine r_callV_v 10 (n := 0) [] [] hC hk0 rfl dX2_readStatement_10 (by decide) (by decide) tw_632 tw_140 ⟨by decide, by decide, by decide +kernel⟩ tw_629 tw_631 tw_16 rfl rfl (sX2_readPeer (l := pm_l X) hG (q0) _ _ hk0 h) hab (Nat.le_of_ble_eq_true rfl) ?_
    clear h; intro I46 h
    refine r_goto 13 173 hC dX2_readStatement_13 (by decide) ?_
    exact r_vret 173 hC hE dX2_readStatement_173 ⟨rfl, h⟩

def wX2_readOverlay (G : pm_G) (q0 : Nat) (I : pm_I) (K : Int32 → pm_I → Prop) : Prop :=
  pm_k G ((I (q0) 2).toNatClampNeg) (.inl 1) ∧ (wX1_clear G ((I (q0) 2).toNatClampNeg) I (fun I11 => wX2_advance G (q0) I11 (fun I12 => pm_lp2 (fun (P13 : Int32 → pm_I → Prop) (x15 : Int32) (I14 : pm_I) => (600 ≤ x15 → (K (I14 (q0) 8) I14)) ∧ (¬ 600 ≤ x15 → (((I14 q0 5) = 0 → (K (I14 (q0) 8) I14)) ∧ (¬ (I14 q0 5) = 0 → (wX2_readStatement G (q0) I14 (fun I16 => wX2_require G (q0) (59) I16 (fun I17 => wX2_advance G (q0) I17 (fun I18 => P13 (x15 + 1) I18)))))))) (0) I12)))

set_option maxRecDepth 20000 in
theorem sX2_readOverlay {G : pm_G} {l : Launch} (hG : pm_ok G) (hS : pm_str G) (q0 : Nat) (I : pm_I) (K : Int32 → pm_I → Prop) (hk0 : pm_k G q0 (.inl 2)) (h : wX2_readOverlay G q0 I K) : pm_Ct G l yX2_readOverlay cX2_readOverlay 2 (some .int) { frames := 40, cells := 0, slots := 0, locals := 2891 } [.ref (q0)] I (pm_Ki K) := by
  unfold wX2_readOverlay at h
  refine pm_enter (by decide +kernel) hG rfl (Nat.le_of_ble_eq_true rfl) rfl (fun X hl hC hE => ?_)
  subst hl
  have hab : 0 ≤ 0 ∧ 0 ≤ 0 := ⟨Nat.le_refl 0, Nat.le_refl 0⟩
  have hC : pm_C G X cX2_readOverlay 2 RX2 (some .int) { frames := 40, cells := 0, slots := 0, locals := 2891 } := hC
  refine r_aload_n 0 hC dX2_readOverlay_0 rfl rfl ?_
  refine r_getR2 1 (r1 := (I (q0) 2).toNatClampNeg) hC hk0 2 (by decide) tw_521 rfl rfl dX2_readOverlay_1 ?_
  have hg10 := h.1; replace h := h.2
  refine r_callVN_v 4 (n := 0) [] [] hC hg10 rfl dX2_readOverlay_4 (by decide) (by decide) tw_188 tw_130 ⟨by decide, by decide, by decide +kernel⟩ tw_555 tw_187 tw_0 rfl rfl (sX1_clear (l := pm_l X) hG ((I (q0) 2).toNatClampNeg) _ _ hg10 h) hab (Nat.le_of_ble_eq_true rfl) ?_
  clear h; intro I11 h
  refine r_aload_n 7 hC dX2_readOverlay_7 rfl rfl ?_
  refine r_callV_v 8 (n := 0) [] [] hC hk0 rfl dX2_readOverlay_8 (by decide) (by decide) tw_559 tw_140 ⟨by decide, by decide, by decide +kernel⟩ tw_556 tw_558 tw_10 rfl rfl (sX2_advance (l := pm_l X) hG (q0) _ _ hk0 h) hab (Nat.le_of_ble_eq_true rfl) ?_
  clear h; intro I12 h
  refine r_iconst 11 (v := 0) hC dX2_readOverlay_11 (by decide) ?_
  refine r_istore_n 12 [some (.ref (q0)), some (.int (0))] hC dX2_readOverlay_12 rfl (by decide) rfl ?_
  refine h (fun x15 I14 => pm_R G X 2 0 0 13 [some (.ref (q0)), some (.int (x15))] [] I14) ?_
  clear h; intro x15 I14 h
  refine r_iload_n 13 hC dX2_readOverlay_13 rfl rfl ?_
  refine r_sipush 14 (v := 600) hC dX2_readOverlay_14 (by decide) ?_
  refine r_icmp_ge 17 47 hC dX2_readOverlay_17 (by decide) (fun hc => ?_) (fun hc => ?_)
  · replace h := h.1 hc
    refine r_aload_n 47 hC dX2_readOverlay_47 rfl rfl ?_
    refine r_getI2 48 (x := I14 (q0) 8) hC hk0 8 (by decide) tw_527 rfl rfl dX2_readOverlay_48 ?_
    exact r_iret 51 hC hE rfl dX2_readOverlay_51 ⟨_, rfl, h⟩
  · replace h := h.2 hc
    refine r_aload_n 20 hC dX2_readOverlay_20 rfl rfl ?_
    refine r_getI2 21 (x := I14 (q0) 5) hC hk0 5 (by decide) tw_524 rfl rfl dX2_readOverlay_21 ?_
    refine r_if_eq 24 47 hC dX2_readOverlay_24 (by decide) (fun hc => ?_) (fun hc => ?_)
    · replace h := h.1 hc
      refine r_aload_n 47 hC dX2_readOverlay_47 rfl rfl ?_
      refine r_getI2 48 (x := I14 (q0) 8) hC hk0 8 (by decide) tw_527 rfl rfl dX2_readOverlay_48 ?_
      exact r_iret 51 hC hE rfl dX2_readOverlay_51 ⟨_, rfl, h⟩
    · replace h := h.2 hc
      refine r_aload_n 27 hC dX2_readOverlay_27 rfl rfl ?_
      refine r_callV_v 28 (n := 0) [] [] hC hk0 rfl dX2_readOverlay_28 (by decide) (by decide) tw_575 tw_140 ⟨by decide, by decide, by decide +kernel⟩ tw_572 tw_574 tw_14 rfl rfl (sX2_readStatement (l := pm_l X) hG hS (q0) _ _ hk0 h) hab (Nat.le_of_ble_eq_true rfl) ?_
      clear h; intro I16 h
      refine r_aload_n 31 hC dX2_readOverlay_31 rfl rfl ?_
      refine r_bipush 32 (v := 59) hC dX2_readOverlay_32 (by decide) ?_
      refine r_callV_v 34 (n := 1) [.int (59)] [] hC hk0 rfl dX2_readOverlay_34 (by decide) (by decide) tw_694 tw_140 ⟨by decide, by decide, by decide +kernel⟩ tw_691 tw_693 tw_29 rfl rfl (sX2_require (l := pm_l X) hG (q0) (59) _ _ hk0 h) hab (Nat.le_of_ble_eq_true rfl) ?_
      clear h; intro I17 h
      refine r_aload_n 37 hC dX2_readOverlay_37 rfl rfl ?_
      refine r_callV_v 38 (n := 0) [] [] hC hk0 rfl dX2_readOverlay_38 (by decide) (by decide) tw_559 tw_140 ⟨by decide, by decide, by decide +kernel⟩ tw_556 tw_558 tw_10 rfl rfl (sX2_advance (l := pm_l X) hG (q0) _ _ hk0 h) hab (Nat.le_of_ble_eq_true rfl) ?_
      clear h; intro I18 h
      refine r_iinc 41 (v := x15 + 1) [some (.ref (q0)), some (.int (x15 + 1))] hC dX2_readOverlay_41 rfl (by rfl) (by decide) rfl ?_
      refine r_goto 44 13 hC dX2_readOverlay_44 (by decide) ?_
      exact h
