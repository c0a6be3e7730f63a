def wX6_putFourBytes (G : pm_G) (q0 : Nat) (x1 : Int32) (I : pm_I) (K : pm_I → Prop) : Prop :=
  pm_lp2 (fun (P10 : Int32 → pm_I → Prop) (x12 : Int32) (I11 : pm_I) => (x12 < 0 → K I11) ∧ (¬ x12 < 0 → ((600 ≤ (I11 q0 1) → (P10 (x12 + (-8)) I11)) ∧ (¬ 600 ≤ (I11 q0 1) → (vp_in (I11 (q0) 1) 600 ∧ (∀ I13 : pm_I, I13 = pm_up I11 (q0 + 1) ((I11 (q0) 1).toNatClampNeg) (vp_nar .byte ((x1 >>> (x12 &&& 31)).toInt8.toInt32)) → (∀ I14 : pm_I, I14 = pm_up I13 (q0) 1 ((I13 q0 1) + 1) → (P10 (x12 + (-8)) I14)))))))) (24) I

set_option maxRecDepth 20000 in
theorem sX6_putFourBytes {G : pm_G} {l : Launch} (hG : pm_ok G) (q0 : Nat) (x1 : Int32) (I : pm_I) (K : pm_I → Prop) (hk0 : pm_k G q0 (.inl 6)) (h : wX6_putFourBytes G q0 x1 I K) : pm_Ct G l yX6_putFourBytes cX6_putFourBytes 3 none { frames := 1, cells := 0, slots := 0, locals := 64 } [.ref (q0), .int (x1)] I (pm_Kv K) := by
  unfold wX6_putFourBytes at h
  refine pm_enter (by decide +kernel) hG rfl (Nat.le_of_ble_eq_true rfl) rfl (fun X hl hC hE => ?_)
  subst hl
  have hab : 0 ≤ 0 ∧ 0 ≤ 0 := ⟨Nat.le_refl 0, Nat.le_refl 0⟩
  have hC : pm_C G X cX6_putFourBytes 3 RX6 none { frames := 1, cells := 0, slots := 0, locals := 64 } := hC
  refine r_bipush 0 (v := 24) hC dX6_putFourBytes_0 (by decide) ?_
  refine r_istore_n 2 [some (.ref (q0)), some (.int (x1)), some (.int (24))] hC dX6_putFourBytes_2 rfl (by decide) rfl ?_
  refine h (fun x12 I11 => pm_R G X 3 0 0 3 [some (.ref (q0)), some (.int (x1)), some (.int (x12))] [] I11) ?_
  clear h; intro x12 I11 h
  refine r_iload_n 3 hC dX6_putFourBytes_3 rfl rfl ?_
  refine r_if_lt 4 46 hC dX6_putFourBytes_4 (by decide) (fun hc => ?_) (fun hc => ?_)
  · replace h := h.1 hc
    exact r_vret 46 hC hE dX6_putFourBytes_46 ⟨rfl, h⟩
  · replace h := h.2 hc
    refine r_aload_n 7 hC dX6_putFourBytes_7 rfl rfl ?_
    refine r_getI6 8 (x := I11 (q0) 1) hC hk0 1 (by decide) tw_363 rfl rfl dX6_putFourBytes_8 ?_
    refine r_sipush 11 (v := 600) hC dX6_putFourBytes_11 (by decide) ?_
    refine r_icmp_ge 14 40 hC dX6_putFourBytes_14 (by decide) (fun hc => ?_) (fun hc => ?_)
    · replace h := h.1 hc
      refine r_iinc 40 (v := x12 + (-8)) [some (.ref (q0)), some (.int (x1)), some (.int (x12 + (-8)))] hC dX6_putFourBytes_40 rfl (by rfl) (by decide) rfl ?_
      refine r_goto 43 3 hC dX6_putFourBytes_43 (by decide) ?_
      exact h
    · replace h := h.2 hc
      refine r_aload_n 17 hC dX6_putFourBytes_17 rfl rfl ?_
      refine r_getR6 18 (r1 := q0 + 1) hC hk0 0 (by decide) tw_362 rfl rfl dX6_putFourBytes_18 ?_
      refine r_aload_n 21 hC dX6_putFourBytes_21 rfl rfl ?_
      refine r_getI6 22 (x := I11 (q0) 1) hC hk0 1 (by decide) tw_363 rfl rfl dX6_putFourBytes_22 ?_
      refine r_iload_n 25 hC dX6_putFourBytes_25 rfl rfl ?_
      refine r_iload_n 26 hC dX6_putFourBytes_26 rfl rfl ?_
      refine r_ishr 27 hC dX6_putFourBytes_27 ?_
      refine r_i2b 28 hC dX6_putFourBytes_28 ?_
      refine r_bast 29 hC ((pm_s6 hG hk0).1) h.1 dX6_putFourBytes_29 (fun I13 hI => ?_)
      replace h := h.2
      replace h := h I13 hI; clear hI
      refine r_aload_n 30 hC dX6_putFourBytes_30 rfl rfl ?_
      refine r_dup 31 hC dX6_putFourBytes_31 rfl ?_
      refine r_getI6 32 (x := I13 (q0) 1) hC hk0 1 (by decide) tw_363 rfl rfl dX6_putFourBytes_32 ?_
      refine r_iconst 35 (v := 1) hC dX6_putFourBytes_35 (by decide) ?_
      refine r_iadd 36 hC dX6_putFourBytes_36 ?_
      refine r_putI6 37 hC hk0 1 (by decide) tw_363 rfl rfl (by decide +kernel) ps_6_1 dX6_putFourBytes_37 (fun I14 hI => ?_)
      replace h := h I14 hI; clear hI
      refine r_iinc 40 (v := x12 + (-8)) [some (.ref (q0)), some (.int (x1)), some (.int (x12 + (-8)))] hC dX6_putFourBytes_40 rfl (by rfl) (by decide) rfl ?_
      refine r_goto 43 3 hC dX6_putFourBytes_43 (by decide) ?_
      exact h

def wX6_append (G : pm_G) (q0 : Nat) (x1 : Int32) (x2 : Int32) (x3 : Int32) (x4 : Int32) (x5 : Int32) (I : pm_I) (K : Int32 → pm_I → Prop) : Prop :=
  ((I q0 1) ≤ 580 → (wX6_putFourBytes G (q0) (x1) I (fun I10 => wX6_putFourBytes G (q0) (x2) I10 (fun I11 => wX6_putFourBytes G (q0) (x3) I11 (fun I12 => wX6_putFourBytes G (q0) (x4) I12 (fun I13 => wX6_putFourBytes G (q0) (x5) I13 (fun I14 => K (I14 (q0) 1) I14))))))) ∧ (¬ (I q0 1) ≤ 580 → (K (-1) I))

set_option maxRecDepth 20000 in
theorem sX6_append {G : pm_G} {l : Launch} (hG : pm_ok G) (q0 : Nat) (x1 : Int32) (x2 : Int32) (x3 : Int32) (x4 : Int32) (x5 : Int32) (I : pm_I) (K : Int32 → pm_I → Prop) (hk0 : pm_k G q0 (.inl 6)) (h : wX6_append G q0 x1 x2 x3 x4 x5 I K) : pm_Ct G l yX6_append cX6_append 6 (some .int) { frames := 2, cells := 0, slots := 0, locals := 150 } [.ref (q0), .int (x1), .int (x2), .int (x3), .int (x4), .int (x5)] I (pm_Ki K) := by
  unfold wX6_append at h
  refine pm_enter (by decide +kernel) hG rfl (Nat.le_of_ble_eq_true rfl) rfl (fun X hl hC hE => ?_)
  subst hl
  have hab : 0 ≤ 0 ∧ 0 ≤ 0 := ⟨Nat.le_refl 0, Nat.le_refl 0⟩
  have hC : pm_C G X cX6_append 6 RX6 (some .int) { frames := 2, cells := 0, slots := 0, locals := 150 } := hC
  refine r_aload_n 0 hC dX6_append_0 rfl rfl ?_
  refine r_getI6 1 (x := I (q0) 1) hC hk0 1 (by decide) tw_363 rfl rfl dX6_append_1 ?_
  refine r_sipush 4 (v := 580) hC dX6_append_4 (by decide) ?_
  refine r_icmp_le 7 12 hC dX6_append_7 (by decide) (fun hc => ?_) (fun hc => ?_)
  · replace h := h.1 hc
    refine r_aload_n 12 hC dX6_append_12 rfl rfl ?_
    refine r_iload_n 13 hC dX6_append_13 rfl rfl ?_
    refine r_callV_v 14 (n := 1) [.int (x1)] [] hC hk0 rfl dX6_append_14 (by decide) (by decide) tw_401 tw_129 ⟨by decide, by decide, by decide +kernel⟩ tw_398 tw_400 tw_4 rfl rfl (sX6_putFourBytes (l := pm_l X) hG (q0) (x1) _ _ hk0 h) hab (Nat.le_of_ble_eq_true rfl) ?_
    clear h; intro I10 h
    refine r_aload_n 17 hC dX6_append_17 rfl rfl ?_
    refine r_iload_n 18 hC dX6_append_18 rfl rfl ?_
    refine r_callV_v 19 (n := 1) [.int (x2)] [] hC hk0 rfl dX6_append_19 (by decide) (by decide) tw_401 tw_129 ⟨by decide, by decide, by decide +kernel⟩ tw_398 tw_400 tw_4 rfl rfl (sX6_putFourBytes (l := pm_l X) hG (q0) (x2) _ _ hk0 h) hab (Nat.le_of_ble_eq_true rfl) ?_
    clear h; intro I11 h
    refine r_aload_n 22 hC dX6_append_22 rfl rfl ?_
    refine r_iload_n 23 hC dX6_append_23 rfl rfl ?_
    refine r_callV_v 24 (n := 1) [.int (x3)] [] hC hk0 rfl dX6_append_24 (by decide) (by decide) tw_401 tw_129 ⟨by decide, by decide, by decide +kernel⟩ tw_398 tw_400 tw_4 rfl rfl (sX6_putFourBytes (l := pm_l X) hG (q0) (x3) _ _ hk0 h) hab (Nat.le_of_ble_eq_true rfl) ?_
    clear h; intro I12 h
    refine r_aload_n 27 hC dX6_append_27 rfl rfl ?_
    refine r_iload 28 hC dX6_append_28 rfl ?_
    refine r_callV_v 30 (n := 1) [.int (x4)] [] hC hk0 rfl dX6_append_30 (by decide) (by decide) tw_401 tw_129 ⟨by decide, by decide, by decide +kernel⟩ tw_398 tw_400 tw_4 rfl rfl (sX6_putFourBytes (l := pm_l X) hG (q0) (x4) _ _ hk0 h) hab (Nat.le_of_ble_eq_true rfl) ?_
    clear h; intro I13 h
    refine r_aload_n 33 hC dX6_append_33 rfl rfl ?_
    refine r_iload 34 hC dX6_append_34 rfl ?_
    refine r_callV_v 36 (n := 1) [.int (x5)] [] hC hk0 rfl dX6_append_36 (by decide) (by decide) tw_401 tw_129 ⟨by decide, by decide, by decide +kernel⟩ tw_398 tw_400 tw_4 rfl rfl (sX6_putFourBytes (l := pm_l X) hG (q0) (x5) _ _ hk0 h) hab (Nat.le_of_ble_eq_true rfl) ?_
    clear h; intro I14 h
    refine r_aload_n 39 hC dX6_append_39 rfl rfl ?_
    refine r_getI6 40 (x := I14 (q0) 1) hC hk0 1 (by decide) tw_363 rfl rfl dX6_append_40 ?_
    exact r_iret 43 hC hE rfl dX6_append_43 ⟨_, rfl, h⟩
  · replace h := h.2 hc
    refine r_iconst 10 (v := -1) hC dX6_append_10 (by decide) ?_
    exact r_iret 11 hC hE rfl dX6_append_11 ⟨_, rfl, h⟩

def wX6_useDraft (G : pm_G) (q0 : Nat) (I : pm_I) (K : pm_I → Prop) : Prop :=
  pm_k G ((I (q0) 3).toNatClampNeg) (.inl 1) ∧ (pm_k G ((I (q0) 4).toNatClampNeg) (.inl 1) ∧ (∀ I12 : pm_I, I12 = pm_up I (q0) 3 (I (q0) 4) → (∀ I13 : pm_I, I13 = pm_up I12 (q0) 4 (I (q0) 3) → (pm_k G ((I13 (q0) 3).toNatClampNeg) (.inl 1) ∧ (wX5_beginWith G (q0 + 18) ((I13 (q0) 3).toNatClampNeg) I13 (fun I15 => wX0_forget G (q0 + 86) I15 (fun I16 => pm_lp2 (fun (P17 : Int32 → pm_I → Prop) (x19 : Int32) (I18 : pm_I) => (2 ≤ x19 → K I18) ∧ (¬ 2 ≤ x19 → (vp_in (x19) 2 ∧ (∀ I20 : pm_I, I20 = pm_up I18 (q0 + 497) ((x19).toNatClampNeg) (vp_nar .boolean (0)) → (P17 (x19 + 1) I20))))) (0) I16)))))))

set_option maxRecDepth 20000 in
theorem sX6_useDraft {G : pm_G} {l : Launch} (hG : pm_ok G) (q0 : Nat) (I : pm_I) (K : pm_I → Prop) (hk0 : pm_k G q0 (.inl 6)) (h : wX6_useDraft G q0 I K) : pm_Ct G l yX6_useDraft cX6_useDraft 3 none { frames := 3, cells := 0, slots := 0, locals := 237 } [.ref (q0)] I (pm_Kv K) := by
  unfold wX6_useDraft at h
  refine pm_enter (by decide +kernel) hG rfl (Nat.le_of_ble_eq_true rfl) rfl (fun X hl hC hE => ?_)
  subst hl
  have hab : 0 ≤ 0 ∧ 0 ≤ 0 := ⟨Nat.le_refl 0, Nat.le_refl 0⟩
  have hC : pm_C G X cX6_useDraft 3 RX6 none { frames := 3, cells := 0, slots := 0, locals := 237 } := hC
  refine r_aload_n 0 hC dX6_useDraft_0 rfl rfl ?_
  refine r_getR6 1 (r1 := (I (q0) 3).toNatClampNeg) hC hk0 3 (by decide) tw_365 rfl rfl dX6_useDraft_1 ?_
  have hg10 := h.1; replace h := h.2
  refine r_astore_n 4 [some (.ref (q0)), some (.ref ((I (q0) 3).toNatClampNeg)), none] hC dX6_useDraft_4 rfl (by decide) rfl ?_
  refine r_aload_n 5 hC dX6_useDraft_5 rfl rfl ?_
  refine r_aload_n 6 hC dX6_useDraft_6 rfl rfl ?_
  refine r_getR6 7 (r1 := (I (q0) 4).toNatClampNeg) hC hk0 4 (by decide) tw_366 rfl rfl dX6_useDraft_7 ?_
  have hg11 := h.1; replace h := h.2
  refine r_putR6 10 (x := I (q0) 4) hC hk0 3 (Or.inl rfl) tw_365 rfl dX6_useDraft_10 (fun I12 hI => ?_)
  replace h := h I12 hI; clear hI
  refine r_aload_n 13 hC dX6_useDraft_13 rfl rfl ?_
  refine r_aload_n 14 hC dX6_useDraft_14 rfl rfl ?_
  refine r_putR6 15 (x := I (q0) 3) hC hk0 4 (Or.inr rfl) tw_366 rfl dX6_useDraft_15 (fun I13 hI => ?_)
  replace h := h I13 hI; clear hI
  refine r_aload_n 18 hC dX6_useDraft_18 rfl rfl ?_
  refine r_getR6 19 (r1 := q0 + 18) hC hk0 5 (by decide) tw_367 rfl rfl dX6_useDraft_19 ?_
  refine r_aload_n 22 hC dX6_useDraft_22 rfl rfl ?_
  refine r_getR6 23 (r1 := (I13 (q0) 3).toNatClampNeg) hC hk0 3 (by decide) tw_365 rfl rfl dX6_useDraft_23 ?_
  have hg14 := h.1; replace h := h.2
  refine r_callVN_v 26 (n := 1) [.ref ((I13 (q0) 3).toNatClampNeg)] [] hC ((pm_s6 hG hk0).2.1) rfl dX6_useDraft_26 (by decide) (by decide) tw_704 tw_132 ⟨by decide, by decide, by decide +kernel⟩ tw_701 tw_703 tw_31 rfl rfl (sX5_beginWith (l := pm_l X) hG (q0 + 18) ((I13 (q0) 3).toNatClampNeg) _ _ ((pm_s6 hG hk0).2.1) hg14 h) hab (Nat.le_of_ble_eq_true rfl) ?_
  clear h; intro I15 h
  refine r_aload_n 29 hC dX6_useDraft_29 rfl rfl ?_
  refine r_getR6 30 (r1 := q0 + 86) hC hk0 7 (by decide) tw_369 rfl rfl dX6_useDraft_30 ?_
  refine r_callVN_v 33 (n := 0) [] [] hC ((pm_s6 hG hk0).2.2.2.1) rfl dX6_useDraft_33 (by decide) (by decide) tw_712 tw_134 ⟨by decide, by decide, by decide +kernel⟩ tw_709 tw_711 tw_33 rfl rfl (sX0_forget (l := pm_l X) hG (q0 + 86) _ _ ((pm_s6 hG hk0).2.2.2.1) h) hab (Nat.le_of_ble_eq_true rfl) ?_
  clear h; intro I16 h
  refine r_iconst 36 (v := 0) hC dX6_useDraft_36 (by decide) ?_
  refine r_istore_n 37 [some (.ref (q0)), some (.ref ((I (q0) 3).toNatClampNeg)), some (.int (0))] hC dX6_useDraft_37 rfl (by decide) rfl ?_
  refine r_weak (ls' := [some (.ref (q0)), none, some (.int (0))]) (And.intro rfl (And.intro rfl (trivial))) ?_
  refine h (fun x19 I18 => pm_R G X 3 0 0 38 [some (.ref (q0)), none, some (.int (x19))] [] I18) ?_
  clear h; intro x19 I18 h
  refine r_iload_n 38 hC dX6_useDraft_38 rfl rfl ?_
  refine r_iconst 39 (v := 2) hC dX6_useDraft_39 (by decide) ?_
  refine r_icmp_ge 40 56 hC dX6_useDraft_40 (by decide) (fun hc => ?_) (fun hc => ?_)
  · replace h := h.1 hc
    exact r_vret 56 hC hE dX6_useDraft_56 ⟨rfl, h⟩
  · replace h := h.2 hc
    refine r_aload_n 43 hC dX6_useDraft_43 rfl rfl ?_
    refine r_getR6 44 (r1 := q0 + 497) hC hk0 9 (by decide) tw_371 rfl rfl dX6_useDraft_44 ?_
    refine r_iload_n 47 hC dX6_useDraft_47 rfl rfl ?_
    refine r_iconst 48 (v := 0) hC dX6_useDraft_48 (by decide) ?_
    refine r_zast 49 hC ((pm_s6 hG hk0).2.2.2.2.2) h.1 dX6_useDraft_49 (fun I20 hI => ?_)
    replace h := h.2
    replace h := h I20 hI; clear hI
    refine r_iinc 50 (v := x19 + 1) [some (.ref (q0)), none, some (.int (x19 + 1))] hC dX6_useDraft_50 rfl (by rfl) (by decide) rfl ?_
    refine r_goto 53 38 hC dX6_useDraft_53 (by decide) ?_
    exact h

def wX6_errorPosition (G : pm_G) (q0 : Nat) (I : pm_I) (K : Int32 → pm_I → Prop) : Prop :=
  K (I (q0) 2) I

set_option maxRecDepth 20000 in
theorem sX6_errorPosition {G : pm_G} {l : Launch} (hG : pm_ok G) (q0 : Nat) (I : pm_I) (K : Int32 → pm_I → Prop) (hk0 : pm_k G q0 (.inl 6)) (h : wX6_errorPosition G q0 I K) : pm_Ct G l yX6_errorPosition cX6_errorPosition 1 (some .int) { frames := 1, cells := 0, slots := 0, locals := 64 } [.ref (q0)] I (pm_Ki K) := by
  unfold wX6_errorPosition at h
  refine pm_enter (by decide +kernel) hG rfl (Nat.le_of_ble_eq_true rfl) rfl (fun X hl hC hE => ?_)
  subst hl
  have hab : 0 ≤ 0 ∧ 0 ≤ 0 := ⟨Nat.le_refl 0, Nat.le_refl 0⟩
  have hC : pm_C G X cX6_errorPosition 1 RX6 (some .int) { frames := 1, cells := 0, slots := 0, locals := 64 } := hC
  refine r_aload_n 0 hC dX6_errorPosition_0 rfl rfl ?_
  refine r_getI6 1 (x := I (q0) 2) hC hk0 2 (by decide) tw_364 rfl rfl dX6_errorPosition_1 ?_
  exact r_iret 4 hC hE rfl dX6_errorPosition_4 ⟨_, rfl, h⟩

def wX6_peerCount (G : pm_G) (q0 : Nat) (I : pm_I) (K : Int32 → pm_I → Prop) : Prop :=
  pm_k G ((I (q0) 3).toNatClampNeg) (.inl 1) ∧ (K (I ((I (q0) 3).toNatClampNeg) 0) I)

set_option maxRecDepth 20000 in
theorem sX6_peerCount {G : pm_G} {l : Launch} (hG : pm_ok G) (q0 : Nat) (I : pm_I) (K : Int32 → pm_I → Prop) (hk0 : pm_k G q0 (.inl 6)) (h : wX6_peerCount G q0 I K) : pm_Ct G l yX6_peerCount cX6_peerCount 1 (some .int) { frames := 1, cells := 0, slots := 0, locals := 64 } [.ref (q0)] I (pm_Ki K) := by
  unfold wX6_peerCount at h
  refine pm_enter (by decide +kernel) hG rfl (Nat.le_of_ble_eq_true rfl) rfl (fun X hl hC hE => ?_)
  subst hl
  have hab : 0 ≤ 0 ∧ 0 ≤ 0 := ⟨Nat.le_refl 0, Nat.le_refl 0⟩
  have hC : pm_C G X cX6_peerCount 1 RX6 (some .int) { frames := 1, cells := 0, slots := 0, locals := 64 } := hC
  refine r_aload_n 0 hC dX6_peerCount_0 rfl rfl ?_
  refine r_getR6 1 (r1 := (I (q0) 3).toNatClampNeg) hC hk0 3 (by decide) tw_365 rfl rfl dX6_peerCount_1 ?_
  have hg10 := h.1; replace h := h.2
  refine r_getIN1 4 (x := I ((I (q0) 3).toNatClampNeg) 0) hC hg10 0 (by decide) tw_203 rfl rfl dX6_peerCount_4 ?_
  exact r_iret 7 hC hE rfl dX6_peerCount_7 ⟨_, rfl, h⟩

def wX6_tick (G : pm_G) (q0 : Nat) (I : pm_I) (K : Int32 → pm_I → Prop) : Prop :=
  K (I (q0 + 18) 0) I

set_option maxRecDepth 20000 in
theorem sX6_tick {G : pm_G} {l : Launch} (hG : pm_ok G) (q0 : Nat) (I : pm_I) (K : Int32 → pm_I → Prop) (hk0 : pm_k G q0 (.inl 6)) (h : wX6_tick G q0 I K) : pm_Ct G l yX6_tick cX6_tick 1 (some .int) { frames := 1, cells := 0, slots := 0, locals := 64 } [.ref (q0)] I (pm_Ki K) := by
  unfold wX6_tick at h
  refine pm_enter (by decide +kernel) hG rfl (Nat.le_of_ble_eq_true rfl) rfl (fun X hl hC hE => ?_)
  subst hl
  have hab : 0 ≤ 0 ∧ 0 ≤ 0 := ⟨Nat.le_refl 0, Nat.le_refl 0⟩
  have hC : pm_C G X cX6_tick 1 RX6 (some .int) { frames := 1, cells := 0, slots := 0, locals := 64 } := hC
  refine r_aload_n 0 hC dX6_tick_0 rfl rfl ?_
  refine r_getR6 1 (r1 := q0 + 18) hC hk0 5 (by decide) tw_367 rfl rfl dX6_tick_1 ?_
  refine r_getIN5 4 (x := I (q0 + 18) 0) hC ((pm_s6 hG hk0).2.1) 0 (by decide) tw_328 rfl rfl dX6_tick_4 ?_
  exact r_iret 7 hC hE rfl dX6_tick_7 ⟨_, rfl, h⟩

def wX6_checkPeer (G : pm_G) (q0 : Nat) (x1 : Int32) (I : pm_I) (K : pm_I → Prop) (E : Nat → pm_I → Prop) : Prop :=
  (x1 < 0 → E 3 I) ∧ (¬ x1 < 0 → (pm_k G ((I (q0) 3).toNatClampNeg) (.inl 1) ∧ ((x1 < (I ((I q0 3).toNatClampNeg) 0) → K I) ∧ (¬ x1 < (I ((I q0 3).toNatClampNeg) 0) → E 3 I))))

set_option maxRecDepth 20000 in
theorem sX6_checkPeer {G : pm_G} {l : Launch} (hG : pm_ok G) (hst : l.stackTraces = false) (hX : pm_exc G) (q0 : Nat) (x1 : Int32) (I : pm_I) (K : pm_I → Prop) (E : Nat → pm_I → Prop) (hk0 : pm_k G q0 (.inl 6)) (h : wX6_checkPeer G q0 x1 I K E) : pm_Xt G l yX6_checkPeer cX6_checkPeer 2 none 6 100 1 6 [.ref (q0), .int (x1)] I (pm_Kv K) E := by
  unfold wX6_checkPeer at h
  refine pm_enterX (by decide +kernel) hst hG rfl (Nat.le_of_ble_eq_true rfl) rfl (fun X hl hC hE => ?_)
  subst hl
  have hC : pm_C G X cX6_checkPeer 2 RX6 none { frames := 6, cells := 1, slots := 6, locals := 100 } := hC
  refine r_iload_n 0 hC dX6_checkPeer_0 rfl rfl ?_
  refine r_if_lt 1 15 hC dX6_checkPeer_1 (by decide) (fun hc => ?_) (fun hc => ?_)
  · replace h := h.1 hc
    exact x_throwW 15 3 (tx := "there is no such peer") hC hE hX (by decide) (by decide) tw_729 tw_145 (by decide) dX6_checkPeer_15 dX6_checkPeer_18 dX6_checkPeer_19 dX6_checkPeer_22 dX6_checkPeer_25 (by decide) (by decide) ⟨by decide, by decide⟩ ⟨by decide, by decide⟩ (Nat.le_of_ble_eq_true rfl) h
  · replace h := h.2 hc
    refine r_iload_n 4 hC dX6_checkPeer_4 rfl rfl ?_
    refine r_aload_n 5 hC dX6_checkPeer_5 rfl rfl ?_
    refine r_getR6 6 (r1 := (I (q0) 3).toNatClampNeg) hC hk0 3 (by decide) tw_365 rfl rfl dX6_checkPeer_6 ?_
    have hg10 := h.1; replace h := h.2
    refine r_getIN1 9 (x := I ((I (q0) 3).toNatClampNeg) 0) hC hg10 0 (by decide) tw_203 rfl rfl dX6_checkPeer_9 ?_
    refine r_icmp_lt 12 26 hC dX6_checkPeer_12 (by decide) (fun hc => ?_) (fun hc => ?_)
    · replace h := h.1 hc
      exact x_vret 26 hC hE ⟨by decide, by decide⟩ dX6_checkPeer_26 ⟨rfl, h⟩
    · replace h := h.2 hc
      exact x_throwW 15 3 (tx := "there is no such peer") hC hE hX (by decide) (by decide) tw_729 tw_145 (by decide) dX6_checkPeer_15 dX6_checkPeer_18 dX6_checkPeer_19 dX6_checkPeer_22 dX6_checkPeer_25 (by decide) (by decide) ⟨by decide, by decide⟩ ⟨by decide, by decide⟩ (Nat.le_of_ble_eq_true rfl) h

def wX6_checkPeers (G : pm_G) (q0 : Nat) (x1 : Int32) (x2 : Int32) (I : pm_I) (K : pm_I → Prop) (E : Nat → pm_I → Prop) : Prop :=
  wX6_checkPeer G (q0) (x1) I (fun I10 => wX6_checkPeer G (q0) (x2) I10 (fun I11 => K I11) E) E

set_option maxRecDepth 20000 in
theorem sX6_checkPeers {G : pm_G} {l : Launch} (hG : pm_ok G) (hst : l.stackTraces = false) (hX : pm_exc G) (q0 : Nat) (x1 : Int32) (x2 : Int32) (I : pm_I) (K : pm_I → Prop) (E : Nat → pm_I → Prop) (hk0 : pm_k G q0 (.inl 6)) (h : wX6_checkPeers G q0 x1 x2 I K E) : pm_Xt G l yX6_checkPeers cX6_checkPeers 3 none 7 221 2 12 [.ref (q0), .int (x1), .int (x2)] I (pm_Kv K) E := by
  unfold wX6_checkPeers at h
  refine pm_enterX (by decide +kernel) hst hG rfl (Nat.le_of_ble_eq_true rfl) rfl (fun X hl hC hE => ?_)
  subst hl
  have hC : pm_C G X cX6_checkPeers 3 RX6 none { frames := 7, cells := 2, slots := 12, locals := 221 } := hC
  refine r_aload_n 0 hC dX6_checkPeers_0 rfl rfl ?_
  refine r_iload_n 1 hC dX6_checkPeers_1 rfl rfl ?_
  refine x_call_v 2 (n := 1) (mcc := 1) (msc := 6) [.int (x1)] [] hC hE hk0 rfl dX6_checkPeers_2 (by decide) (by decide) tw_728 tw_129 ⟨by decide, by decide, by decide +kernel⟩ tw_725 tw_727 tw_35 rfl rfl (sX6_checkPeer (l := pm_l X) hG hst hX (q0) (x1) _ _ _ hk0 h) ⟨by decide, by decide⟩ ⟨by decide, by decide⟩ (Nat.le_of_ble_eq_true rfl) ?_
  clear h; intro I10 h
  show pm_R G X 3 1 6 5 [some (.ref (q0)), some (.int (x1)), some (.int (x2))] [] I10
  refine r_aload_n 5 hC dX6_checkPeers_5 rfl rfl ?_
  refine r_iload_n 6 hC dX6_checkPeers_6 rfl rfl ?_
  refine x_call_v 7 (n := 1) (mcc := 1) (msc := 6) [.int (x2)] [] hC hE hk0 rfl dX6_checkPeers_7 (by decide) (by decide) tw_728 tw_129 ⟨by decide, by decide, by decide +kernel⟩ tw_725 tw_727 tw_35 rfl rfl (sX6_checkPeer (l := pm_l X) hG hst hX (q0) (x2) _ _ _ hk0 h) ⟨by decide, by decide⟩ ⟨by decide, by decide⟩ (Nat.le_of_ble_eq_true rfl) ?_
  clear h; intro I11 h
  show pm_R G X 3 2 12 10 [some (.ref (q0)), some (.int (x1)), some (.int (x2))] [] I11
  exact x_vret 10 hC hE ⟨by decide, by decide⟩ dX6_checkPeers_10 ⟨rfl, h⟩

def wX6_knows (G : pm_G) (q0 : Nat) (x1 : Int32) (x2 : Int32) (I : pm_I) (K : Int32 → pm_I → Prop) (E : Nat → pm_I → Prop) : Prop :=
  wX6_checkPeers G (q0) (x1) (x2) I (fun I10 => wX5_acquainted G (q0 + 18) (x1) (x2) I10 (fun r12 I11 => ((r12) = 0 ∨ (r12) = 1) ∧ K (r12) I11)) E

set_option maxRecDepth 20000 in
theorem sX6_knows {G : pm_G} {l : Launch} (hG : pm_ok G) (hst : l.stackTraces = false) (hX : pm_exc G) (q0 : Nat) (x1 : Int32) (x2 : Int32) (I : pm_I) (K : Int32 → pm_I → Prop) (E : Nat → pm_I → Prop) (hk0 : pm_k G q0 (.inl 6)) (h : wX6_knows G q0 x1 x2 I K E) : pm_Xt G l yX6_knows cX6_knows 3 (some .boolean) 8 343 2 12 [.ref (q0), .int (x1), .int (x2)] I (pm_Ki K) E := by
  unfold wX6_knows at h
  refine pm_enterX (by decide +kernel) hst hG rfl (Nat.le_of_ble_eq_true rfl) rfl (fun X hl hC hE => ?_)
  subst hl
  have hC : pm_C G X cX6_knows 3 RX6 (some .boolean) { frames := 8, cells := 2, slots := 12, locals := 343 } := hC
  refine r_aload_n 0 hC dX6_knows_0 rfl rfl ?_
  refine r_iload_n 1 hC dX6_knows_1 rfl rfl ?_
  refine r_iload_n 2 hC dX6_knows_2 rfl rfl ?_
  refine x_call_v 3 (n := 2) (mcc := 2) (msc := 12) [.int (x1), .int (x2)] [] hC hE hk0 rfl dX6_knows_3 (by decide) (by decide) tw_724 tw_129 ⟨by decide, by decide, by decide +kernel⟩ tw_721 tw_723 tw_34 rfl rfl (sX6_checkPeers (l := pm_l X) hG hst hX (q0) (x1) (x2) _ _ _ hk0 h) ⟨by decide, by decide⟩ ⟨by decide, by decide⟩ (Nat.le_of_ble_eq_true rfl) ?_
  clear h; intro I10 h
  show pm_R G X 3 2 12 6 [some (.ref (q0)), some (.int (x1)), some (.int (x2))] [] I10
  refine r_aload_n 6 hC dX6_knows_6 rfl rfl ?_
  refine r_getR6 7 (r1 := q0 + 18) hC hk0 5 (by decide) tw_367 rfl rfl dX6_knows_7 ?_
  refine r_iload_n 10 hC dX6_knows_10 rfl rfl ?_
  refine r_iload_n 11 hC dX6_knows_11 rfl rfl ?_
  refine r_callVN_i 12 (n := 2) [.int (x1), .int (x2)] [] hC ((pm_s6 hG hk0).2.1) rfl dX6_knows_12 (by decide) (by decide) tw_748 tw_132 ⟨by decide, by decide, by decide +kernel⟩ tw_745 tw_747 tw_36 rfl rfl (sX5_acquainted (l := pm_l X) hG (q0 + 18) (x1) (x2) _ _ ((pm_s6 hG hk0).2.1) h) ⟨by decide, by decide⟩ (Nat.le_of_ble_eq_true rfl) ?_
  clear h; intro r12 I11 h
  exact x_iret 15 hC hE ⟨by decide, by decide⟩ (pm_nz h.1).1 dX6_knows_15 ⟨_, rfl, h.2⟩

def wX6_delay (G : pm_G) (q0 : Nat) (x1 : Int32) (x2 : Int32) (I : pm_I) (K : Int32 → pm_I → Prop) (E : Nat → pm_I → Prop) : Prop :=
  wX6_checkPeers G (q0) (x1) (x2) I (fun I10 => wX5_linkIsUp G (q0 + 18) (x1) (x2) I10 (fun r12 I11 => (r12 = 0 → (K (-1) I11)) ∧ (¬ r12 = 0 → (pm_k G ((I11 (q0) 3).toNatClampNeg) (.inl 1) ∧ (wX1_delayBetween G ((I11 (q0) 3).toNatClampNeg) (x1) (x2) I11 (fun r15 I14 => K (r15) I14)))))) E

set_option maxRecDepth 20000 in
theorem sX6_delay {G : pm_G} {l : Launch} (hG : pm_ok G) (hst : l.stackTraces = false) (hX : pm_exc G) (q0 : Nat) (x1 : Int32) (x2 : Int32) (I : pm_I) (K : Int32 → pm_I → Prop) (E : Nat → pm_I → Prop) (hk0 : pm_k G q0 (.inl 6)) (h : wX6_delay G q0 x1 x2 I K E) : pm_Xt G l yX6_delay cX6_delay 3 (some .int) 8 343 2 12 [.ref (q0), .int (x1), .int (x2)] I (pm_Ki K) E := by
  unfold wX6_delay at h
  refine pm_enterX (by decide +kernel) hst hG rfl (Nat.le_of_ble_eq_true rfl) rfl (fun X hl hC hE => ?_)
  subst hl
  have hC : pm_C G X cX6_delay 3 RX6 (some .int) { frames := 8, cells := 2, slots := 12, locals := 343 } := hC
  refine r_aload_n 0 hC dX6_delay_0 rfl rfl ?_
  refine r_iload_n 1 hC dX6_delay_1 rfl rfl ?_
  refine r_iload_n 2 hC dX6_delay_2 rfl rfl ?_
  refine x_call_v 3 (n := 2) (mcc := 2) (msc := 12) [.int (x1), .int (x2)] [] hC hE hk0 rfl dX6_delay_3 (by decide) (by decide) tw_724 tw_129 ⟨by decide, by decide, by decide +kernel⟩ tw_721 tw_723 tw_34 rfl rfl (sX6_checkPeers (l := pm_l X) hG hst hX (q0) (x1) (x2) _ _ _ hk0 h) ⟨by decide, by decide⟩ ⟨by decide, by decide⟩ (Nat.le_of_ble_eq_true rfl) ?_
  clear h; intro I10 h
  show pm_R G X 3 2 12 6 [some (.ref (q0)), some (.int (x1)), some (.int (x2))] [] I10
  refine r_aload_n 6 hC dX6_delay_6 rfl rfl ?_
  refine r_getR6 7 (r1 := q0 + 18) hC hk0 5 (by decide) tw_367 rfl rfl dX6_delay_7 ?_
  refine r_iload_n 10 hC dX6_delay_10 rfl rfl ?_
  refine r_iload_n 11 hC dX6_delay_11 rfl rfl ?_
  refine r_callVN_i 12 (n := 2) [.int (x1), .int (x2)] [] hC ((pm_s6 hG hk0).2.1) rfl dX6_delay_12 (by decide) (by decide) tw_759 tw_132 ⟨by decide, by decide, by decide +kernel⟩ tw_756 tw_758 tw_37 rfl rfl (sX5_linkIsUp (l := pm_l X) hG (q0 + 18) (x1) (x2) _ _ ((pm_s6 hG hk0).2.1) h) ⟨by decide, by decide⟩ (Nat.le_of_ble_eq_true rfl) ?_
  clear h; intro r12 I11 h
  refine r_if_eq 15 30 hC dX6_delay_15 (by decide) (fun hc => ?_) (fun hc => ?_)
  · replace h := h.1 hc
    refine r_iconst 30 (v := -1) hC dX6_delay_30 (by decide) ?_
    exact x_iret 31 hC hE ⟨by decide, by decide⟩ rfl dX6_delay_31 ⟨_, rfl, h⟩
  · replace h := h.2 hc
    refine r_aload_n 18 hC dX6_delay_18 rfl rfl ?_
    refine r_getR6 19 (r1 := (I11 (q0) 3).toNatClampNeg) hC hk0 3 (by decide) tw_365 rfl rfl dX6_delay_19 ?_
    have hg13 := h.1; replace h := h.2
    refine r_iload_n 22 hC dX6_delay_22 rfl rfl ?_
    refine r_iload_n 23 hC dX6_delay_23 rfl rfl ?_
    refine r_callVN_i 24 (n := 2) [.int (x1), .int (x2)] [] hC hg13 rfl dX6_delay_24 (by decide) (by decide) tw_708 tw_130 ⟨by decide, by decide, by decide +kernel⟩ tw_760 tw_707 tw_32 rfl rfl (sX1_delayBetween (l := pm_l X) hG ((I11 (q0) 3).toNatClampNeg) (x1) (x2) _ _ hg13 h) ⟨by decide, by decide⟩ (Nat.le_of_ble_eq_true rfl) ?_
    clear h; intro r15 I14 h
    refine r_goto 27 31 hC dX6_delay_27 (by decide) ?_
    exact x_iret 31 hC hE ⟨by decide, by decide⟩ rfl dX6_delay_31 ⟨_, rfl, h⟩

def wX6_checkTwoPeers (G : pm_G) (q0 : Nat) (x1 : Int32) (x2 : Int32) (I : pm_I) (K : pm_I → Prop) (E : Nat → pm_I → Prop) : Prop :=
  wX6_checkPeers G (q0) (x1) (x2) I (fun I10 => (¬ x1 = x2 → K I10) ∧ (x1 = x2 → E 1 I10)) E

set_option maxRecDepth 20000 in
theorem sX6_checkTwoPeers {G : pm_G} {l : Launch} (hG : pm_ok G) (hst : l.stackTraces = false) (hX : pm_exc G) (q0 : Nat) (x1 : Int32) (x2 : Int32) (I : pm_I) (K : pm_I → Prop) (E : Nat → pm_I → Prop) (hk0 : pm_k G q0 (.inl 6)) (h : wX6_checkTwoPeers G q0 x1 x2 I K E) : pm_Xt G l yX6_checkTwoPeers cX6_checkTwoPeers 3 none 8 343 3 18 [.ref (q0), .int (x1), .int (x2)] I (pm_Kv K) E := by
  unfold wX6_checkTwoPeers at h
  refine pm_enterX (by decide +kernel) hst hG rfl (Nat.le_of_ble_eq_true rfl) rfl (fun X hl hC hE => ?_)
  subst hl
  have hC : pm_C G X cX6_checkTwoPeers 3 RX6 none { frames := 8, cells := 3, slots := 18, locals := 343 } := hC
  refine r_aload_n 0 hC dX6_checkTwoPeers_0 rfl rfl ?_
  refine r_iload_n 1 hC dX6_checkTwoPeers_1 rfl rfl ?_
  refine r_iload_n 2 hC dX6_checkTwoPeers_2 rfl rfl ?_
  refine x_call_v 3 (n := 2) (mcc := 2) (msc := 12) [.int (x1), .int (x2)] [] hC hE hk0 rfl dX6_checkTwoPeers_3 (by decide) (by decide) tw_724 tw_129 ⟨by decide, by decide, by decide +kernel⟩ tw_721 tw_723 tw_34 rfl rfl (sX6_checkPeers (l := pm_l X) hG hst hX (q0) (x1) (x2) _ _ _ hk0 h) ⟨by decide, by decide⟩ ⟨by decide, by decide⟩ (Nat.le_of_ble_eq_true rfl) ?_
  clear h; intro I10 h
  show pm_R G X 3 2 12 6 [some (.ref (q0)), some (.int (x1)), some (.int (x2))] [] I10
  refine r_iload_n 6 hC dX6_checkTwoPeers_6 rfl rfl ?_
  refine r_iload_n 7 hC dX6_checkTwoPeers_7 rfl rfl ?_
  refine r_icmp_ne 8 22 hC dX6_checkTwoPeers_8 (by decide) (fun hc => ?_) (fun hc => ?_)
  · replace h := h.1 hc
    exact x_vret 22 hC hE ⟨by decide, by decide⟩ dX6_checkTwoPeers_22 ⟨rfl, h⟩
  · replace h := h.2 hc
    exact x_throwW 11 1 (tx := "both peers are the same") hC hE hX (by decide) (by decide) tw_446 tw_139 (by decide) dX6_checkTwoPeers_11 dX6_checkTwoPeers_14 dX6_checkTwoPeers_15 dX6_checkTwoPeers_18 dX6_checkTwoPeers_21 (by decide) (by decide) ⟨by decide, by decide⟩ ⟨by decide, by decide⟩ (Nat.le_of_ble_eq_true rfl) h

def wX6_introductionsNeeded (G : pm_G) (q0 : Nat) (x1 : Int32) (x2 : Int32) (I : pm_I) (K : Int32 → pm_I → Prop) (E : Nat → pm_I → Prop) : Prop :=
  wX6_checkTwoPeers G (q0) (x1) (x2) I (fun I10 => wX5_stepsBetween G (q0 + 18) (x1) (x2) I10 (fun r12 I11 => (¬ r12 = (-1) → (K (r12 - 1) I11)) ∧ (r12 = (-1) → (K (-1) I11)))) E

set_option maxRecDepth 20000 in
theorem sX6_introductionsNeeded {G : pm_G} {l : Launch} (hG : pm_ok G) (hst : l.stackTraces = false) (hX : pm_exc G) (q0 : Nat) (x1 : Int32) (x2 : Int32) (I : pm_I) (K : Int32 → pm_I → Prop) (E : Nat → pm_I → Prop) (hk0 : pm_k G q0 (.inl 6)) (h : wX6_introductionsNeeded G q0 x1 x2 I K E) : pm_Xt G l yX6_introductionsNeeded cX6_introductionsNeeded 4 (some .int) 9 465 3 18 [.ref (q0), .int (x1), .int (x2)] I (pm_Ki K) E := by
  unfold wX6_introductionsNeeded at h
  refine pm_enterX (by decide +kernel) hst hG rfl (Nat.le_of_ble_eq_true rfl) rfl (fun X hl hC hE => ?_)
  subst hl
  have hC : pm_C G X cX6_introductionsNeeded 4 RX6 (some .int) { frames := 9, cells := 3, slots := 18, locals := 465 } := hC
  refine r_aload_n 0 hC dX6_introductionsNeeded_0 rfl rfl ?_
  refine r_iload_n 1 hC dX6_introductionsNeeded_1 rfl rfl ?_
  refine r_iload_n 2 hC dX6_introductionsNeeded_2 rfl rfl ?_
  refine x_call_v 3 (n := 2) (mcc := 3) (msc := 18) [.int (x1), .int (x2)] [] hC hE hk0 rfl dX6_introductionsNeeded_3 (by decide) (by decide) tw_771 tw_129 ⟨by decide, by decide, by decide +kernel⟩ tw_768 tw_770 tw_38 rfl rfl (sX6_checkTwoPeers (l := pm_l X) hG hst hX (q0) (x1) (x2) _ _ _ hk0 h) ⟨by decide, by decide⟩ ⟨by decide, by decide⟩ (Nat.le_of_ble_eq_true rfl) ?_
  clear h; intro I10 h
  show pm_R G X 4 3 18 6 [some (.ref (q0)), some (.int (x1)), some (.int (x2)), none] [] I10
  refine r_aload_n 6 hC dX6_introductionsNeeded_6 rfl rfl ?_
  refine r_getR6 7 (r1 := q0 + 18) hC hk0 5 (by decide) tw_367 rfl rfl dX6_introductionsNeeded_7 ?_
  refine r_iload_n 10 hC dX6_introductionsNeeded_10 rfl rfl ?_
  refine r_iload_n 11 hC dX6_introductionsNeeded_11 rfl rfl ?_
  refine r_callVN_i 12 (n := 2) [.int (x1), .int (x2)] [] hC ((pm_s6 hG hk0).2.1) rfl dX6_introductionsNeeded_12 (by decide) (by decide) tw_776 tw_132 ⟨by decide, by decide, by decide +kernel⟩ tw_773 tw_775 tw_39 rfl rfl (sX5_stepsBetween (l := pm_l X) hG (q0 + 18) (x1) (x2) _ _ ((pm_s6 hG hk0).2.1) h) ⟨by decide, by decide⟩ (Nat.le_of_ble_eq_true rfl) ?_
  clear h; intro r12 I11 h
  refine r_istore_n 15 [some (.ref (q0)), some (.int (x1)), some (.int (x2)), some (.int (r12))] hC dX6_introductionsNeeded_15 rfl (by decide) rfl ?_
  refine r_iload_n 16 hC dX6_introductionsNeeded_16 rfl rfl ?_
  refine r_iconst 17 (v := -1) hC dX6_introductionsNeeded_17 (by decide) ?_
  refine r_icmp_ne 18 25 hC dX6_introductionsNeeded_18 (by decide) (fun hc => ?_) (fun hc => ?_)
  · replace h := h.1 hc
    refine r_iload_n 25 hC dX6_introductionsNeeded_25 rfl rfl ?_
    refine r_iconst 26 (v := 1) hC dX6_introductionsNeeded_26 (by decide) ?_
    refine r_isub 27 hC dX6_introductionsNeeded_27 ?_
    exact x_iret 28 hC hE ⟨by decide, by decide⟩ rfl dX6_introductionsNeeded_28 ⟨_, rfl, h⟩
  · replace h := h.2 hc
    refine r_iconst 21 (v := -1) hC dX6_introductionsNeeded_21 (by decide) ?_
    refine r_goto 22 28 hC dX6_introductionsNeeded_22 (by decide) ?_
    exact x_iret 28 hC hE ⟨by decide, by decide⟩ rfl dX6_introductionsNeeded_28 ⟨_, rfl, h⟩

def wX6_introducer (G : pm_G) (q0 : Nat) (x1 : Int32) (x2 : Int32) (I : pm_I) (K : Int32 → pm_I → Prop) (E : Nat → pm_I → Prop) : Prop :=
  wX6_checkTwoPeers G (q0) (x1) (x2) I (fun I10 => pm_lp2 (fun (P11 : Int32 → pm_I → Prop) (x13 : Int32) (I12 : pm_I) => pm_k G ((I12 (q0) 3).toNatClampNeg) (.inl 1) ∧ (((I12 ((I12 q0 3).toNatClampNeg) 0) ≤ x13 → (K (-1) I12)) ∧ (¬ (I12 ((I12 q0 3).toNatClampNeg) 0) ≤ x13 → (wX5_acquainted G (q0 + 18) (x13) (x1) I12 (fun r16 I15 => (r16 = 0 → (P11 (x13 + 1) I15)) ∧ (¬ r16 = 0 → (wX5_acquainted G (q0 + 18) (x13) (x2) I15 (fun r18 I17 => (r18 = 0 → (P11 (x13 + 1) I17)) ∧ (¬ r18 = 0 → (K (x13) I17)))))))))) (0) I10) E

set_option maxRecDepth 20000 in
theorem sX6_introducer {G : pm_G} {l : Launch} (hG : pm_ok G) (hst : l.stackTraces = false) (hX : pm_exc G) (q0 : Nat) (x1 : Int32) (x2 : Int32) (I : pm_I) (K : Int32 → pm_I → Prop) (E : Nat → pm_I → Prop) (hk0 : pm_k G q0 (.inl 6)) (h : wX6_introducer G q0 x1 x2 I K E) : pm_Xt G l yX6_introducer cX6_introducer 4 (some .int) 9 465 3 18 [.ref (q0), .int (x1), .int (x2)] I (pm_Ki K) E := by
  unfold wX6_introducer at h
  refine pm_enterX (by decide +kernel) hst hG rfl (Nat.le_of_ble_eq_true rfl) rfl (fun X hl hC hE => ?_)
  subst hl
  have hC : pm_C G X cX6_introducer 4 RX6 (some .int) { frames := 9, cells := 3, slots := 18, locals := 465 } := hC
  refine r_aload_n 0 hC dX6_introducer_0 rfl rfl ?_
  refine r_iload_n 1 hC dX6_introducer_1 rfl rfl ?_
  refine r_iload_n 2 hC dX6_introducer_2 rfl rfl ?_
  refine x_call_v 3 (n := 2) (mcc := 3) (msc := 18) [.int (x1), .int (x2)] [] hC hE hk0 rfl dX6_introducer_3 (by decide) (by decide) tw_771 tw_129 ⟨by decide, by decide, by decide +kernel⟩ tw_768 tw_770 tw_38 rfl rfl (sX6_checkTwoPeers (l := pm_l X) hG hst hX (q0) (x1) (x2) _ _ _ hk0 h) ⟨by decide, by decide⟩ ⟨by decide, by decide⟩ (Nat.le_of_ble_eq_true rfl) ?_
  clear h; intro I10 h
  show pm_R G X 4 3 18 6 [some (.ref (q0)), some (.int (x1)), some (.int (x2)), none] [] I10
  refine r_iconst 6 (v := 0) hC dX6_introducer_6 (by decide) ?_
  refine r_istore_n 7 [some (.ref (q0)), some (.int (x1)), some (.int (x2)), some (.int (0))] hC dX6_introducer_7 rfl (by decide) rfl ?_
  refine h (fun x13 I12 => pm_R G X 4 3 18 8 [some (.ref (q0)), some (.int (x1)), some (.int (x2)), some (.int (x13))] [] I12) ?_
  clear h; intro x13 I12 h
  refine r_iload_n 8 hC dX6_introducer_8 rfl rfl ?_
  refine r_aload_n 9 hC dX6_introducer_9 rfl rfl ?_
  refine r_getR6 10 (r1 := (I12 (q0) 3).toNatClampNeg) hC hk0 3 (by decide) tw_365 rfl rfl dX6_introducer_10 ?_
  have hg14 := h.1; replace h := h.2
  refine r_getIN1 13 (x := I12 ((I12 (q0) 3).toNatClampNeg) 0) hC hg14 0 (by decide) tw_203 rfl rfl dX6_introducer_13 ?_
  refine r_icmp_ge 16 51 hC dX6_introducer_16 (by decide) (fun hc => ?_) (fun hc => ?_)
  · replace h := h.1 hc
    refine r_iconst 51 (v := -1) hC dX6_introducer_51 (by decide) ?_
    exact x_iret 52 hC hE ⟨by decide, by decide⟩ rfl dX6_introducer_52 ⟨_, rfl, h⟩
  · replace h := h.2 hc
    refine r_aload_n 19 hC dX6_introducer_19 rfl rfl ?_
    refine r_getR6 20 (r1 := q0 + 18) hC hk0 5 (by decide) tw_367 rfl rfl dX6_introducer_20 ?_
    refine r_iload_n 23 hC dX6_introducer_23 rfl rfl ?_
    refine r_iload_n 24 hC dX6_introducer_24 rfl rfl ?_
    refine r_callVN_i 25 (n := 2) [.int (x13), .int (x1)] [] hC ((pm_s6 hG hk0).2.1) rfl dX6_introducer_25 (by decide) (by decide) tw_748 tw_132 ⟨by decide, by decide, by decide +kernel⟩ tw_745 tw_747 tw_36 rfl rfl (sX5_acquainted (l := pm_l X) hG (q0 + 18) (x13) (x1) _ _ ((pm_s6 hG hk0).2.1) h) ⟨by decide, by decide⟩ (Nat.le_of_ble_eq_true rfl) ?_
    clear h; intro r16 I15 h
    refine r_if_eq 28 45 hC dX6_introducer_28 (by decide) (fun hc => ?_) (fun hc => ?_)
    · replace h := h.1 hc
      refine r_iinc 45 (v := x13 + 1) [some (.ref (q0)), some (.int (x1)), some (.int (x2)), some (.int (x13 + 1))] hC dX6_introducer_45 rfl (by rfl) (by decide) rfl ?_
      refine r_goto 48 8 hC dX6_introducer_48 (by decide) ?_
      exact h
    · replace h := h.2 hc
      refine r_aload_n 31 hC dX6_introducer_31 rfl rfl ?_
      refine r_getR6 32 (r1 := q0 + 18) hC hk0 5 (by decide) tw_367 rfl rfl dX6_introducer_32 ?_
      refine r_iload_n 35 hC dX6_introducer_35 rfl rfl ?_
      refine r_iload_n 36 hC dX6_introducer_36 rfl rfl ?_
      refine r_callVN_i 37 (n := 2) [.int (x13), .int (x2)] [] hC ((pm_s6 hG hk0).2.1) rfl dX6_introducer_37 (by decide) (by decide) tw_748 tw_132 ⟨by decide, by decide, by decide +kernel⟩ tw_745 tw_747 tw_36 rfl rfl (sX5_acquainted (l := pm_l X) hG (q0 + 18) (x13) (x2) _ _ ((pm_s6 hG hk0).2.1) h) ⟨by decide, by decide⟩ (Nat.le_of_ble_eq_true rfl) ?_
      clear h; intro r18 I17 h
      refine r_if_eq 40 45 hC dX6_introducer_40 (by decide) (fun hc => ?_) (fun hc => ?_)
      · replace h := h.1 hc
        refine r_iinc 45 (v := x13 + 1) [some (.ref (q0)), some (.int (x1)), some (.int (x2)), some (.int (x13 + 1))] hC dX6_introducer_45 rfl (by rfl) (by decide) rfl ?_
        refine r_goto 48 8 hC dX6_introducer_48 (by decide) ?_
        exact h
      · replace h := h.2 hc
        refine r_iload_n 43 hC dX6_introducer_43 rfl rfl ?_
        exact x_iret 44 hC hE ⟨by decide, by decide⟩ rfl dX6_introducer_44 ⟨_, rfl, h⟩

def wX6_load (G : pm_G) (q0 : Nat) (x1 : Int32) (I : pm_I) (K : Int32 → pm_I → Prop) (E : Nat → pm_I → Prop) : Prop :=
  wX6_checkPeer G (q0) (x1) I (fun I10 => wX5_loadOf G (q0 + 18) (x1) I10 (fun r12 I11 => K (r12) I11)) E

set_option maxRecDepth 20000 in
theorem sX6_load {G : pm_G} {l : Launch} (hG : pm_ok G) (hst : l.stackTraces = false) (hX : pm_exc G) (q0 : Nat) (x1 : Int32) (I : pm_I) (K : Int32 → pm_I → Prop) (E : Nat → pm_I → Prop) (hk0 : pm_k G q0 (.inl 6)) (h : wX6_load G q0 x1 I K E) : pm_Xt G l yX6_load cX6_load 2 (some .int) 7 272 1 6 [.ref (q0), .int (x1)] I (pm_Ki K) E := by
  unfold wX6_load at h
  refine pm_enterX (by decide +kernel) hst hG rfl (Nat.le_of_ble_eq_true rfl) rfl (fun X hl hC hE => ?_)
  subst hl
  have hC : pm_C G X cX6_load 2 RX6 (some .int) { frames := 7, cells := 1, slots := 6, locals := 272 } := hC
  refine r_aload_n 0 hC dX6_load_0 rfl rfl ?_
  refine r_iload_n 1 hC dX6_load_1 rfl rfl ?_
  refine x_call_v 2 (n := 1) (mcc := 1) (msc := 6) [.int (x1)] [] hC hE hk0 rfl dX6_load_2 (by decide) (by decide) tw_728 tw_129 ⟨by decide, by decide, by decide +kernel⟩ tw_725 tw_727 tw_35 rfl rfl (sX6_checkPeer (l := pm_l X) hG hst hX (q0) (x1) _ _ _ hk0 h) ⟨by decide, by decide⟩ ⟨by decide, by decide⟩ (Nat.le_of_ble_eq_true rfl) ?_
  clear h; intro I10 h
  show pm_R G X 2 1 6 5 [some (.ref (q0)), some (.int (x1))] [] I10
  refine r_aload_n 5 hC dX6_load_5 rfl rfl ?_
  refine r_getR6 6 (r1 := q0 + 18) hC hk0 5 (by decide) tw_367 rfl rfl dX6_load_6 ?_
  refine r_iload_n 9 hC dX6_load_9 rfl rfl ?_
  refine r_callVN_i 10 (n := 1) [.int (x1)] [] hC ((pm_s6 hG hk0).2.1) rfl dX6_load_10 (by decide) (by decide) tw_794 tw_132 ⟨by decide, by decide, by decide +kernel⟩ tw_791 tw_793 tw_40 rfl rfl (sX5_loadOf (l := pm_l X) hG (q0 + 18) (x1) _ _ ((pm_s6 hG hk0).2.1) h) ⟨by decide, by decide⟩ (Nat.le_of_ble_eq_true rfl) ?_
  clear h; intro r12 I11 h
  exact x_iret 13 hC hE ⟨by decide, by decide⟩ rfl dX6_load_13 ⟨_, rfl, h⟩

def wX6_bestRelay (G : pm_G) (q0 : Nat) (x1 : Int32) (x2 : Int32) (I : pm_I) (K : Int32 → pm_I → Prop) (E : Nat → pm_I → Prop) : Prop :=
  wX6_checkTwoPeers G (q0) (x1) (x2) I (fun I10 => pm_k G ((I10 (q0) 3).toNatClampNeg) (.inl 1) ∧ (wX5_chooseRelay G (q0 + 18) ((I10 (q0) 3).toNatClampNeg) (x1) (x2) I10 (fun r13 I12 => K (r13) I12))) E

set_option maxRecDepth 20000 in
theorem sX6_bestRelay {G : pm_G} {l : Launch} (hG : pm_ok G) (hst : l.stackTraces = false) (hX : pm_exc G) (q0 : Nat) (x1 : Int32) (x2 : Int32) (I : pm_I) (K : Int32 → pm_I → Prop) (E : Nat → pm_I → Prop) (hk0 : pm_k G q0 (.inl 6)) (h : wX6_bestRelay G q0 x1 x2 I K E) : pm_Xt G l yX6_bestRelay cX6_bestRelay 3 (some .int) 9 465 3 18 [.ref (q0), .int (x1), .int (x2)] I (pm_Ki K) E := by
  unfold wX6_bestRelay at h
  refine pm_enterX (by decide +kernel) hst hG rfl (Nat.le_of_ble_eq_true rfl) rfl (fun X hl hC hE => ?_)
  subst hl
  have hC : pm_C G X cX6_bestRelay 3 RX6 (some .int) { frames := 9, cells := 3, slots := 18, locals := 465 } := hC
  refine r_aload_n 0 hC dX6_bestRelay_0 rfl rfl ?_
  refine r_iload_n 1 hC dX6_bestRelay_1 rfl rfl ?_
  refine r_iload_n 2 hC dX6_bestRelay_2 rfl rfl ?_
  refine x_call_v 3 (n := 2) (mcc := 3) (msc := 18) [.int (x1), .int (x2)] [] hC hE hk0 rfl dX6_bestRelay_3 (by decide) (by decide) tw_771 tw_129 ⟨by decide, by decide, by decide +kernel⟩ tw_768 tw_770 tw_38 rfl rfl (sX6_checkTwoPeers (l := pm_l X) hG hst hX (q0) (x1) (x2) _ _ _ hk0 h) ⟨by decide, by decide⟩ ⟨by decide, by decide⟩ (Nat.le_of_ble_eq_true rfl) ?_
  clear h; intro I10 h
  show pm_R G X 3 3 18 6 [some (.ref (q0)), some (.int (x1)), some (.int (x2))] [] I10
  refine r_aload_n 6 hC dX6_bestRelay_6 rfl rfl ?_
  refine r_getR6 7 (r1 := q0 + 18) hC hk0 5 (by decide) tw_367 rfl rfl dX6_bestRelay_7 ?_
  refine r_aload_n 10 hC dX6_bestRelay_10 rfl rfl ?_
  refine r_getR6 11 (r1 := (I10 (q0) 3).toNatClampNeg) hC hk0 3 (by decide) tw_365 rfl rfl dX6_bestRelay_11 ?_
  have hg11 := h.1; replace h := h.2
  refine r_iload_n 14 hC dX6_bestRelay_14 rfl rfl ?_
  refine r_iload_n 15 hC dX6_bestRelay_15 rfl rfl ?_
  refine r_callVN_i 16 (n := 3) [.ref ((I10 (q0) 3).toNatClampNeg), .int (x1), .int (x2)] [] hC ((pm_s6 hG hk0).2.1) rfl dX6_bestRelay_16 (by decide) (by decide) tw_809 tw_132 ⟨by decide, by decide, by decide +kernel⟩ tw_806 tw_808 tw_42 rfl rfl (sX5_chooseRelay (l := pm_l X) hG (q0 + 18) ((I10 (q0) 3).toNatClampNeg) (x1) (x2) _ _ ((pm_s6 hG hk0).2.1) hg11 h) ⟨by decide, by decide⟩ (Nat.le_of_ble_eq_true rfl) ?_
  clear h; intro r13 I12 h
  exact x_iret 19 hC hE ⟨by decide, by decide⟩ rfl dX6_bestRelay_19 ⟨_, rfl, h⟩

def wX6_checkThreePeers (G : pm_G) (q0 : Nat) (x1 : Int32) (x2 : Int32) (x3 : Int32) (I : pm_I) (K : pm_I → Prop) (E : Nat → pm_I → Prop) : Prop :=
  wX6_checkPeer G (q0) (x1) I (fun I10 => wX6_checkPeers G (q0) (x2) (x3) I10 (fun I11 => (x1 = x2 → E 1 I11) ∧ (¬ x1 = x2 → ((x1 = x3 → E 1 I11) ∧ (¬ x1 = x3 → ((¬ x2 = x3 → K I11) ∧ (x2 = x3 → E 1 I11)))))) E) E

set_option maxRecDepth 20000 in
theorem sX6_checkThreePeers {G : pm_G} {l : Launch} (hG : pm_ok G) (hst : l.stackTraces = false) (hX : pm_exc G) (q0 : Nat) (x1 : Int32) (x2 : Int32) (x3 : Int32) (I : pm_I) (K : pm_I → Prop) (E : Nat → pm_I → Prop) (hk0 : pm_k G q0 (.inl 6)) (h : wX6_checkThreePeers G q0 x1 x2 x3 I K E) : pm_Xt G l yX6_checkThreePeers cX6_checkThreePeers 4 none 8 343 4 24 [.ref (q0), .int (x1), .int (x2), .int (x3)] I (pm_Kv K) E := by
  unfold wX6_checkThreePeers at h
  refine pm_enterX (by decide +kernel) hst hG rfl (Nat.le_of_ble_eq_true rfl) rfl (fun X hl hC hE => ?_)
  subst hl
  have hC : pm_C G X cX6_checkThreePeers 4 RX6 none { frames := 8, cells := 4, slots := 24, locals := 343 } := hC
  refine r_aload_n 0 hC dX6_checkThreePeers_0 rfl rfl ?_
  refine r_iload_n 1 hC dX6_checkThreePeers_1 rfl rfl ?_
  refine x_call_v 2 (n := 1) (mcc := 1) (msc := 6) [.int (x1)] [] hC hE hk0 rfl dX6_checkThreePeers_2 (by decide) (by decide) tw_728 tw_129 ⟨by decide, by decide, by decide +kernel⟩ tw_725 tw_727 tw_35 rfl rfl (sX6_checkPeer (l := pm_l X) hG hst hX (q0) (x1) _ _ _ hk0 h) ⟨by decide, by decide⟩ ⟨by decide, by decide⟩ (Nat.le_of_ble_eq_true rfl) ?_
  clear h; intro I10 h
  show pm_R G X 4 1 6 5 [some (.ref (q0)), some (.int (x1)), some (.int (x2)), some (.int (x3))] [] I10
  refine r_aload_n 5 hC dX6_checkThreePeers_5 rfl rfl ?_
  refine r_iload_n 6 hC dX6_checkThreePeers_6 rfl rfl ?_
  refine r_iload_n 7 hC dX6_checkThreePeers_7 rfl rfl ?_
  refine x_call_v 8 (n := 2) (mcc := 2) (msc := 12) [.int (x2), .int (x3)] [] hC hE hk0 rfl dX6_checkThreePeers_8 (by decide) (by decide) tw_724 tw_129 ⟨by decide, by decide, by decide +kernel⟩ tw_721 tw_723 tw_34 rfl rfl (sX6_checkPeers (l := pm_l X) hG hst hX (q0) (x2) (x3) _ _ _ hk0 h) ⟨by decide, by decide⟩ ⟨by decide, by decide⟩ (Nat.le_of_ble_eq_true rfl) ?_
  clear h; intro I11 h
  show pm_R G X 4 3 18 11 [some (.ref (q0)), some (.int (x1)), some (.int (x2)), some (.int (x3))] [] I11
  refine r_iload_n 11 hC dX6_checkThreePeers_11 rfl rfl ?_
  refine r_iload_n 12 hC dX6_checkThreePeers_12 rfl rfl ?_
  refine r_icmp_eq 13 26 hC dX6_checkThreePeers_13 (by decide) (fun hc => ?_) (fun hc => ?_)
  · replace h := h.1 hc
    exact x_throwW 26 1 (tx := "two of the peers are the same") hC hE hX (by decide) (by decide) tw_446 tw_139 (by decide) dX6_checkThreePeers_26 dX6_checkThreePeers_29 dX6_checkThreePeers_30 dX6_checkThreePeers_33 dX6_checkThreePeers_36 (by decide) (by decide) ⟨by decide, by decide⟩ ⟨by decide, by decide⟩ (Nat.le_of_ble_eq_true rfl) h
  · replace h := h.2 hc
    refine r_iload_n 16 hC dX6_checkThreePeers_16 rfl rfl ?_
    refine r_iload_n 17 hC dX6_checkThreePeers_17 rfl rfl ?_
    refine r_icmp_eq 18 26 hC dX6_checkThreePeers_18 (by decide) (fun hc => ?_) (fun hc => ?_)
    · replace h := h.1 hc
      exact x_throwW 26 1 (tx := "two of the peers are the same") hC hE hX (by decide) (by decide) tw_446 tw_139 (by decide) dX6_checkThreePeers_26 dX6_checkThreePeers_29 dX6_checkThreePeers_30 dX6_checkThreePeers_33 dX6_checkThreePeers_36 (by decide) (by decide) ⟨by decide, by decide⟩ ⟨by decide, by decide⟩ (Nat.le_of_ble_eq_true rfl) h
    · replace h := h.2 hc
      refine r_iload_n 21 hC dX6_checkThreePeers_21 rfl rfl ?_
      refine r_iload_n 22 hC dX6_checkThreePeers_22 rfl rfl ?_
      refine r_icmp_ne 23 37 hC dX6_checkThreePeers_23 (by decide) (fun hc => ?_) (fun hc => ?_)
      · replace h := h.1 hc
        exact x_vret 37 hC hE ⟨by decide, by decide⟩ dX6_checkThreePeers_37 ⟨rfl, h⟩
      · replace h := h.2 hc
        exact x_throwW 26 1 (tx := "two of the peers are the same") hC hE hX (by decide) (by decide) tw_446 tw_139 (by decide) dX6_checkThreePeers_26 dX6_checkThreePeers_29 dX6_checkThreePeers_30 dX6_checkThreePeers_33 dX6_checkThreePeers_36 (by decide) (by decide) ⟨by decide, by decide⟩ ⟨by decide, by decide⟩ (Nat.le_of_ble_eq_true rfl) h

def wX6_relayScore (G : pm_G) (q0 : Nat) (x1 : Int32) (x2 : Int32) (x3 : Int32) (I : pm_I) (K : Int32 → pm_I → Prop) (E : Nat → pm_I → Prop) : Prop :=
  wX6_checkThreePeers G (q0) (x1) (x2) (x3) I (fun I10 => wX5_canRelay G (q0 + 18) (x1) (x2) (x3) I10 (fun r12 I11 => (¬ r12 = 0 → (pm_k G ((I11 (q0) 3).toNatClampNeg) (.inl 1) ∧ (wX5_scoreOf G (q0 + 18) ((I11 (q0) 3).toNatClampNeg) (x1) (x2) (x3) I11 (fun r15 I14 => K (r15) I14)))) ∧ (r12 = 0 → E 2 I11))) E

set_option maxRecDepth 20000 in
theorem sX6_relayScore {G : pm_G} {l : Launch} (hG : pm_ok G) (hst : l.stackTraces = false) (hX : pm_exc G) (q0 : Nat) (x1 : Int32) (x2 : Int32) (x3 : Int32) (I : pm_I) (K : Int32 → pm_I → Prop) (E : Nat → pm_I → Prop) (hk0 : pm_k G q0 (.inl 6)) (h : wX6_relayScore G q0 x1 x2 x3 I K E) : pm_Xt G l yX6_relayScore cX6_relayScore 4 (some .int) 9 466 5 30 [.ref (q0), .int (x1), .int (x2), .int (x3)] I (pm_Ki K) E := by
  unfold wX6_relayScore at h
  refine pm_enterX (by decide +kernel) hst hG rfl (Nat.le_of_ble_eq_true rfl) rfl (fun X hl hC hE => ?_)
  subst hl
  have hC : pm_C G X cX6_relayScore 4 RX6 (some .int) { frames := 9, cells := 5, slots := 30, locals := 466 } := hC
  refine r_aload_n 0 hC dX6_relayScore_0 rfl rfl ?_
  refine r_iload_n 1 hC dX6_relayScore_1 rfl rfl ?_
  refine r_iload_n 2 hC dX6_relayScore_2 rfl rfl ?_
  refine r_iload_n 3 hC dX6_relayScore_3 rfl rfl ?_
  refine x_call_v 4 (n := 3) (mcc := 4) (msc := 24) [.int (x1), .int (x2), .int (x3)] [] hC hE hk0 rfl dX6_relayScore_4 (by decide) (by decide) tw_848 tw_129 ⟨by decide, by decide, by decide +kernel⟩ tw_845 tw_847 tw_49 rfl rfl (sX6_checkThreePeers (l := pm_l X) hG hst hX (q0) (x1) (x2) (x3) _ _ _ hk0 h) ⟨by decide, by decide⟩ ⟨by decide, by decide⟩ (Nat.le_of_ble_eq_true rfl) ?_
  clear h; intro I10 h
  show pm_R G X 4 4 24 7 [some (.ref (q0)), some (.int (x1)), some (.int (x2)), some (.int (x3))] [] I10
  refine r_aload_n 7 hC dX6_relayScore_7 rfl rfl ?_
  refine r_getR6 8 (r1 := q0 + 18) hC hk0 5 (by decide) tw_367 rfl rfl dX6_relayScore_8 ?_
  refine r_iload_n 11 hC dX6_relayScore_11 rfl rfl ?_
  refine r_iload_n 12 hC dX6_relayScore_12 rfl rfl ?_
  refine r_iload_n 13 hC dX6_relayScore_13 rfl rfl ?_
  refine r_callVN_i 14 (n := 3) [.int (x1), .int (x2), .int (x3)] [] hC ((pm_s6 hG hk0).2.1) rfl dX6_relayScore_14 (by decide) (by decide) tw_813 tw_132 ⟨by decide, by decide, by decide +kernel⟩ tw_850 tw_812 tw_43 rfl rfl (sX5_canRelay (l := pm_l X) hG (q0 + 18) (x1) (x2) (x3) _ _ ((pm_s6 hG hk0).2.1) h) ⟨by decide, by decide⟩ (Nat.le_of_ble_eq_true rfl) ?_
  clear h; intro r12 I11 h
  refine r_if_ne 17 30 hC dX6_relayScore_17 (by decide) (fun hc => ?_) (fun hc => ?_)
  · replace h := h.1 hc
    refine r_aload_n 30 hC dX6_relayScore_30 rfl rfl ?_
    refine r_getR6 31 (r1 := q0 + 18) hC hk0 5 (by decide) tw_367 rfl rfl dX6_relayScore_31 ?_
    refine r_aload_n 34 hC dX6_relayScore_34 rfl rfl ?_
    refine r_getR6 35 (r1 := (I11 (q0) 3).toNatClampNeg) hC hk0 3 (by decide) tw_365 rfl rfl dX6_relayScore_35 ?_
    have hg13 := h.1; replace h := h.2
    refine r_iload_n 38 hC dX6_relayScore_38 rfl rfl ?_
    refine r_iload_n 39 hC dX6_relayScore_39 rfl rfl ?_
    refine r_iload_n 40 hC dX6_relayScore_40 rfl rfl ?_
    refine r_callVN_i 41 (n := 4) [.ref ((I11 (q0) 3).toNatClampNeg), .int (x1), .int (x2), .int (x3)] [] hC ((pm_s6 hG hk0).2.1) rfl dX6_relayScore_41 (by decide) (by decide) tw_820 tw_132 ⟨by decide, by decide, by decide +kernel⟩ tw_867 tw_819 tw_44 rfl rfl (sX5_scoreOf (l := pm_l X) hG (q0 + 18) ((I11 (q0) 3).toNatClampNeg) (x1) (x2) (x3) _ _ ((pm_s6 hG hk0).2.1) hg13 h) ⟨by decide, by decide⟩ (Nat.le_of_ble_eq_true rfl) ?_
    clear h; intro r15 I14 h
    exact x_iret 44 hC hE ⟨by decide, by decide⟩ rfl dX6_relayScore_44 ⟨_, rfl, h⟩
  · replace h := h.2 hc
    exact x_throw 20 2 (tx := "this peer can't be the relay") hC hE hX (by decide) (by decide) tw_851 tw_146 (by decide) dX6_relayScore_20 dX6_relayScore_23 dX6_relayScore_24 dX6_relayScore_26 dX6_relayScore_29 (by decide) (by decide) ⟨by decide, by decide⟩ ⟨by decide, by decide⟩ (Nat.le_of_ble_eq_true rfl) h

def wX6_sessions (G : pm_G) (q0 : Nat) (I : pm_I) (K : Int32 → pm_I → Prop) : Prop :=
  pm_lp3 (fun (P10 : Int32 → Int32 → pm_I → Prop) (x12 : Int32) (x13 : Int32) (I11 : pm_I) => (6 ≤ x13 → (K (x12) I11)) ∧ (¬ 6 ≤ x13 → (vp_in (x13) 6 ∧ (((I11 (q0 + 18 + 3 + 1 + 5 * (x13).toNatClampNeg) 0) = 0 → (P10 (x12) (x13 + 1) I11)) ∧ (¬ (I11 (q0 + 18 + 3 + 1 + 5 * (x13).toNatClampNeg) 0) = 0 → (P10 (x12 ||| (1 <<< (x13 &&& 31))) (x13 + 1) I11)))))) (0) (0) I

set_option maxRecDepth 20000 in
theorem sX6_sessions {G : pm_G} {l : Launch} (hG : pm_ok G) (q0 : Nat) (I : pm_I) (K : Int32 → pm_I → Prop) (hk0 : pm_k G q0 (.inl 6)) (h : wX6_sessions G q0 I K) : pm_Ct G l yX6_sessions cX6_sessions 3 (some .int) { frames := 1, cells := 0, slots := 0, locals := 64 } [.ref (q0)] I (pm_Ki K) := by
  unfold wX6_sessions at h
  refine pm_enter (by decide +kernel) hG rfl (Nat.le_of_ble_eq_true rfl) rfl (fun X hl hC hE => ?_)
  subst hl
  have hab : 0 ≤ 0 ∧ 0 ≤ 0 := ⟨Nat.le_refl 0, Nat.le_refl 0⟩
  have hC : pm_C G X cX6_sessions 3 RX6 (some .int) { frames := 1, cells := 0, slots := 0, locals := 64 } := hC
  refine r_iconst 0 (v := 0) hC dX6_sessions_0 (by decide) ?_
  refine r_istore_n 1 [some (.ref (q0)), some (.int (0)), none] hC dX6_sessions_1 rfl (by decide) rfl ?_
  refine r_iconst 2 (v := 0) hC dX6_sessions_2 (by decide) ?_
  refine r_istore_n 3 [some (.ref (q0)), some (.int (0)), some (.int (0))] hC dX6_sessions_3 rfl (by decide) rfl ?_
  refine h (fun x12 x13 I11 => pm_R G X 3 0 0 4 [some (.ref (q0)), some (.int (x12)), some (.int (x13))] [] I11) ?_
  clear h; intro x12 x13 I11 h
  refine r_iload_n 4 hC dX6_sessions_4 rfl rfl ?_
  refine r_bipush 5 (v := 6) hC dX6_sessions_5 (by decide) ?_
  refine r_icmp_ge 7 37 hC dX6_sessions_7 (by decide) (fun hc => ?_) (fun hc => ?_)
  · replace h := h.1 hc
    refine r_iload_n 37 hC dX6_sessions_37 rfl rfl ?_
    exact r_iret 38 hC hE rfl dX6_sessions_38 ⟨_, rfl, h⟩
  · replace h := h.2 hc
    refine r_aload_n 10 hC dX6_sessions_10 rfl rfl ?_
    refine r_getR6 11 (r1 := q0 + 18) hC hk0 5 (by decide) tw_367 rfl rfl dX6_sessions_11 ?_
    refine r_getRN5 14 (r1 := q0 + 18 + 3) hC ((pm_s6 hG hk0).2.1) 3 (by decide) tw_333 rfl rfl dX6_sessions_14 ?_
    refine r_iload_n 17 hC dX6_sessions_17 rfl rfl ?_
    have hg14 := h.1; replace h := h.2
    refine r_aald4 18 hC ((pm_s5 hG ((pm_s6 hG hk0).2.1)).2.2) hg14 dX6_sessions_18 ?_
    refine r_getIN4 19 (x := I11 (q0 + 18 + 3 + 1 + 5 * (x13).toNatClampNeg) 0) hC (pm_sa4 hG ((pm_s5 hG ((pm_s6 hG hk0).2.1)).2.2) hg14) 0 (by decide) tw_257 rfl rfl dX6_sessions_19 ?_
    refine r_if_eq 22 31 hC dX6_sessions_22 (by decide) (fun hc => ?_) (fun hc => ?_)
    · replace h := h.1 hc
      refine r_iinc 31 (v := x13 + 1) [some (.ref (q0)), some (.int (x12)), some (.int (x13 + 1))] hC dX6_sessions_31 rfl (by rfl) (by decide) rfl ?_
      refine r_goto 34 4 hC dX6_sessions_34 (by decide) ?_
      exact h
    · replace h := h.2 hc
      refine r_iload_n 25 hC dX6_sessions_25 rfl rfl ?_
      refine r_iconst 26 (v := 1) hC dX6_sessions_26 (by decide) ?_
      refine r_iload_n 27 hC dX6_sessions_27 rfl rfl ?_
      refine r_ishl 28 hC dX6_sessions_28 ?_
      refine r_ior 29 hC dX6_sessions_29 ?_
      refine r_istore_n 30 [some (.ref (q0)), some (.int (x12 ||| (1 <<< (x13 &&& 31)))), some (.int (x13))] hC dX6_sessions_30 rfl (by decide) rfl ?_
      refine r_iinc 31 (v := x13 + 1) [some (.ref (q0)), some (.int (x12 ||| (1 <<< (x13 &&& 31)))), some (.int (x13 + 1))] hC dX6_sessions_31 rfl (by rfl) (by decide) rfl ?_
      refine r_goto 34 4 hC dX6_sessions_34 (by decide) ?_
      exact h

def wX6_session (G : pm_G) (q0 : Nat) (x1 : Int32) (x2 : Int32) (I : pm_I) (K : Int32 → pm_I → Prop) (E : Nat → pm_I → Prop) : Prop :=
  wX6_checkTwoPeers G (q0) (x1) (x2) I (fun I10 => wX5_findSession G (q0 + 18) (x1) (x2) I10 (fun r12 I11 => K (r12) I11)) E

set_option maxRecDepth 20000 in
theorem sX6_session {G : pm_G} {l : Launch} (hG : pm_ok G) (hst : l.stackTraces = false) (hX : pm_exc G) (q0 : Nat) (x1 : Int32) (x2 : Int32) (I : pm_I) (K : Int32 → pm_I → Prop) (E : Nat → pm_I → Prop) (hk0 : pm_k G q0 (.inl 6)) (h : wX6_session G q0 x1 x2 I K E) : pm_Xt G l yX6_session cX6_session 3 (some .int) 9 465 3 18 [.ref (q0), .int (x1), .int (x2)] I (pm_Ki K) E := by
  unfold wX6_session at h
  refine pm_enterX (by decide +kernel) hst hG rfl (Nat.le_of_ble_eq_true rfl) rfl (fun X hl hC hE => ?_)
  subst hl
  have hC : pm_C G X cX6_session 3 RX6 (some .int) { frames := 9, cells := 3, slots := 18, locals := 465 } := hC
  refine r_aload_n 0 hC dX6_session_0 rfl rfl ?_
  refine r_iload_n 1 hC dX6_session_1 rfl rfl ?_
  refine r_iload_n 2 hC dX6_session_2 rfl rfl ?_
  refine x_call_v 3 (n := 2) (mcc := 3) (msc := 18) [.int (x1), .int (x2)] [] hC hE hk0 rfl dX6_session_3 (by decide) (by decide) tw_771 tw_129 ⟨by decide, by decide, by decide +kernel⟩ tw_768 tw_770 tw_38 rfl rfl (sX6_checkTwoPeers (l := pm_l X) hG hst hX (q0) (x1) (x2) _ _ _ hk0 h) ⟨by decide, by decide⟩ ⟨by decide, by decide⟩ (Nat.le_of_ble_eq_true rfl) ?_
  clear h; intro I10 h
  show pm_R G X 3 3 18 6 [some (.ref (q0)), some (.int (x1)), some (.int (x2))] [] I10
  refine r_aload_n 6 hC dX6_session_6 rfl rfl ?_
  refine r_getR6 7 (r1 := q0 + 18) hC hk0 5 (by decide) tw_367 rfl rfl dX6_session_7 ?_
  refine r_iload_n 10 hC dX6_session_10 rfl rfl ?_
  refine r_iload_n 11 hC dX6_session_11 rfl rfl ?_
  refine r_callVN_i 12 (n := 2) [.int (x1), .int (x2)] [] hC ((pm_s6 hG hk0).2.1) rfl dX6_session_12 (by decide) (by decide) tw_878 tw_132 ⟨by decide, by decide, by decide +kernel⟩ tw_875 tw_877 tw_50 rfl rfl (sX5_findSession (l := pm_l X) hG (q0 + 18) (x1) (x2) _ _ ((pm_s6 hG hk0).2.1) h) ⟨by decide, by decide⟩ (Nat.le_of_ble_eq_true rfl) ?_
  clear h; intro r12 I11 h
  exact x_iret 15 hC hE ⟨by decide, by decide⟩ rfl dX6_session_15 ⟨_, rfl, h⟩

def wX6_openSession (G : pm_G) (q0 : Nat) (x1 : Int32) (I : pm_I) (K : Nat → pm_I → Prop) (E : Nat → pm_I → Prop) : Prop :=
  (x1 < 0 → E 3 I) ∧ (¬ x1 < 0 → ((6 ≤ x1 → E 3 I) ∧ (¬ 6 ≤ x1 → (vp_in (x1) 6 ∧ ((¬ (I (q0 + 18 + 3 + 1 + 5 * (x1).toNatClampNeg) 0) = 0 → (vp_in (x1) 6 ∧ (K (q0 + 18 + 3 + 1 + 5 * (x1).toNatClampNeg) I))) ∧ ((I (q0 + 18 + 3 + 1 + 5 * (x1).toNatClampNeg) 0) = 0 → E 3 I))))))

set_option maxRecDepth 20000 in
theorem sX6_openSession {G : pm_G} {l : Launch} (hG : pm_ok G) (hst : l.stackTraces = false) (hX : pm_exc G) (q0 : Nat) (x1 : Int32) (I : pm_I) (K : Nat → pm_I → Prop) (E : Nat → pm_I → Prop) (hk0 : pm_k G q0 (.inl 6)) (h : wX6_openSession G q0 x1 I K E) : pm_Xt G l yX6_openSession cX6_openSession 2 (some (.object "PeerOverlay$Session")) 6 100 1 6 [.ref (q0), .int (x1)] I (pm_Kr K) E := by
  unfold wX6_openSession at h
  refine pm_enterX (by decide +kernel) hst hG rfl (Nat.le_of_ble_eq_true rfl) rfl (fun X hl hC hE => ?_)
  subst hl
  have hC : pm_C G X cX6_openSession 2 RX6 (some (.object "PeerOverlay$Session")) { frames := 6, cells := 1, slots := 6, locals := 100 } := hC
  refine r_iload_n 0 hC dX6_openSession_0 rfl rfl ?_
  refine r_if_lt 1 25 hC dX6_openSession_1 (by decide) (fun hc => ?_) (fun hc => ?_)
  · replace h := h.1 hc
    exact x_throwW 25 3 (tx := "there is no such session") hC hE hX (by decide) (by decide) tw_729 tw_145 (by decide) dX6_openSession_25 dX6_openSession_28 dX6_openSession_29 dX6_openSession_32 dX6_openSession_35 (by decide) (by decide) ⟨by decide, by decide⟩ ⟨by decide, by decide⟩ (Nat.le_of_ble_eq_true rfl) h
  · replace h := h.2 hc
    refine r_iload_n 4 hC dX6_openSession_4 rfl rfl ?_
    refine r_bipush 5 (v := 6) hC dX6_openSession_5 (by decide) ?_
    refine r_icmp_ge 7 25 hC dX6_openSession_7 (by decide) (fun hc => ?_) (fun hc => ?_)
    · replace h := h.1 hc
      exact x_throwW 25 3 (tx := "there is no such session") hC hE hX (by decide) (by decide) tw_729 tw_145 (by decide) dX6_openSession_25 dX6_openSession_28 dX6_openSession_29 dX6_openSession_32 dX6_openSession_35 (by decide) (by decide) ⟨by decide, by decide⟩ ⟨by decide, by decide⟩ (Nat.le_of_ble_eq_true rfl) h
    · replace h := h.2 hc
      refine r_aload_n 10 hC dX6_openSession_10 rfl rfl ?_
      refine r_getR6 11 (r1 := q0 + 18) hC hk0 5 (by decide) tw_367 rfl rfl dX6_openSession_11 ?_
      refine r_getRN5 14 (r1 := q0 + 18 + 3) hC ((pm_s6 hG hk0).2.1) 3 (by decide) tw_333 rfl rfl dX6_openSession_14 ?_
      refine r_iload_n 17 hC dX6_openSession_17 rfl rfl ?_
      have hg10 := h.1; replace h := h.2
      refine r_aald4 18 hC ((pm_s5 hG ((pm_s6 hG hk0).2.1)).2.2) hg10 dX6_openSession_18 ?_
      refine r_getIN4 19 (x := I (q0 + 18 + 3 + 1 + 5 * (x1).toNatClampNeg) 0) hC (pm_sa4 hG ((pm_s5 hG ((pm_s6 hG hk0).2.1)).2.2) hg10) 0 (by decide) tw_257 rfl rfl dX6_openSession_19 ?_
      refine r_if_ne 22 36 hC dX6_openSession_22 (by decide) (fun hc => ?_) (fun hc => ?_)
      · replace h := h.1 hc
        refine r_aload_n 36 hC dX6_openSession_36 rfl rfl ?_
        refine r_getR6 37 (r1 := q0 + 18) hC hk0 5 (by decide) tw_367 rfl rfl dX6_openSession_37 ?_
        refine r_getRN5 40 (r1 := q0 + 18 + 3) hC ((pm_s6 hG hk0).2.1) 3 (by decide) tw_333 rfl rfl dX6_openSession_40 ?_
        refine r_iload_n 43 hC dX6_openSession_43 rfl rfl ?_
        have hg11 := h.1; replace h := h.2
        refine r_aald4 44 hC ((pm_s5 hG ((pm_s6 hG hk0).2.1)).2.2) hg11 dX6_openSession_44 ?_
        exact x_aret 45 hC hE ⟨by decide, by decide⟩ dX6_openSession_45 ⟨_, rfl, h⟩
      · replace h := h.2 hc
        exact x_throwW 25 3 (tx := "there is no such session") hC hE hX (by decide) (by decide) tw_729 tw_145 (by decide) dX6_openSession_25 dX6_openSession_28 dX6_openSession_29 dX6_openSession_32 dX6_openSession_35 (by decide) (by decide) ⟨by decide, by decide⟩ ⟨by decide, by decide⟩ (Nat.le_of_ble_eq_true rfl) h

def wX6_path (G : pm_G) (q0 : Nat) (x1 : Int32) (I : pm_I) (K : Int32 → pm_I → Prop) (E : Nat → pm_I → Prop) : Prop :=
  wX6_openSession G (q0) (x1) I (fun r11 I10 => pm_k G r11 (.inl 4) ∧ (K (I10 (r11) 4) I10)) E

set_option maxRecDepth 20000 in
theorem sX6_path {G : pm_G} {l : Launch} (hG : pm_ok G) (hst : l.stackTraces = false) (hX : pm_exc G) (q0 : Nat) (x1 : Int32) (I : pm_I) (K : Int32 → pm_I → Prop) (E : Nat → pm_I → Prop) (hk0 : pm_k G q0 (.inl 6)) (h : wX6_path G q0 x1 I K E) : pm_Xt G l yX6_path cX6_path 2 (some .int) 7 221 1 6 [.ref (q0), .int (x1)] I (pm_Ki K) E := by
  unfold wX6_path at h
  refine pm_enterX (by decide +kernel) hst hG rfl (Nat.le_of_ble_eq_true rfl) rfl (fun X hl hC hE => ?_)
  subst hl
  have hC : pm_C G X cX6_path 2 RX6 (some .int) { frames := 7, cells := 1, slots := 6, locals := 221 } := hC
  refine r_aload_n 0 hC dX6_path_0 rfl rfl ?_
  refine r_iload_n 1 hC dX6_path_1 rfl rfl ?_
  refine x_call_r 2 (n := 1) (mcc := 1) (msc := 6) [.int (x1)] [] hC hE hk0 rfl dX6_path_2 (by decide) (by decide) tw_889 tw_129 ⟨by decide, by decide, by decide +kernel⟩ tw_886 tw_888 tw_51 rfl rfl (sX6_openSession (l := pm_l X) hG hst hX (q0) (x1) _ _ _ hk0 h) ⟨by decide, by decide⟩ ⟨by decide, by decide⟩ (Nat.le_of_ble_eq_true rfl) ?_
  clear h; intro r11 I10 h
  have hg12 := h.1; replace h := h.2
  show pm_R G X 2 1 6 5 [some (.ref (q0)), some (.int (x1))] [.ref (r11)] I10
  refine r_getIN4 5 (x := I10 (r11) 4) hC hg12 4 (by decide) tw_269 rfl rfl dX6_path_5 ?_
  exact x_iret 8 hC hE ⟨by decide, by decide⟩ rfl dX6_path_8 ⟨_, rfl, h⟩

def wX6_oldPath (G : pm_G) (q0 : Nat) (x1 : Int32) (I : pm_I) (K : Int32 → pm_I → Prop) (E : Nat → pm_I → Prop) : Prop :=
  wX6_openSession G (q0) (x1) I (fun r11 I10 => pm_k G r11 (.inl 4) ∧ (K (I10 (r11) 5) I10)) E

set_option maxRecDepth 20000 in
theorem sX6_oldPath {G : pm_G} {l : Launch} (hG : pm_ok G) (hst : l.stackTraces = false) (hX : pm_exc G) (q0 : Nat) (x1 : Int32) (I : pm_I) (K : Int32 → pm_I → Prop) (E : Nat → pm_I → Prop) (hk0 : pm_k G q0 (.inl 6)) (h : wX6_oldPath G q0 x1 I K E) : pm_Xt G l yX6_oldPath cX6_oldPath 2 (some .int) 7 221 1 6 [.ref (q0), .int (x1)] I (pm_Ki K) E := by
  unfold wX6_oldPath at h
  refine pm_enterX (by decide +kernel) hst hG rfl (Nat.le_of_ble_eq_true rfl) rfl (fun X hl hC hE => ?_)
  subst hl
  have hC : pm_C G X cX6_oldPath 2 RX6 (some .int) { frames := 7, cells := 1, slots := 6, locals := 221 } := hC
  refine r_aload_n 0 hC dX6_oldPath_0 rfl rfl ?_
  refine r_iload_n 1 hC dX6_oldPath_1 rfl rfl ?_
  refine x_call_r 2 (n := 1) (mcc := 1) (msc := 6) [.int (x1)] [] hC hE hk0 rfl dX6_oldPath_2 (by decide) (by decide) tw_889 tw_129 ⟨by decide, by decide, by decide +kernel⟩ tw_886 tw_888 tw_51 rfl rfl (sX6_openSession (l := pm_l X) hG hst hX (q0) (x1) _ _ _ hk0 h) ⟨by decide, by decide⟩ ⟨by decide, by decide⟩ (Nat.le_of_ble_eq_true rfl) ?_
  clear h; intro r11 I10 h
  have hg12 := h.1; replace h := h.2
  show pm_R G X 2 1 6 5 [some (.ref (q0)), some (.int (x1))] [.ref (r11)] I10
  refine r_getIN4 5 (x := I10 (r11) 5) hC hg12 5 (by decide) tw_271 rfl rfl dX6_oldPath_5 ?_
  exact x_iret 8 hC hE ⟨by decide, by decide⟩ rfl dX6_oldPath_8 ⟨_, rfl, h⟩

def wX6_successes (G : pm_G) (q0 : Nat) (x1 : Int32) (I : pm_I) (K : Int32 → pm_I → Prop) (E : Nat → pm_I → Prop) : Prop :=
  wX6_openSession G (q0) (x1) I (fun r11 I10 => pm_k G r11 (.inl 4) ∧ (K (I10 (r11) 6) I10)) E

set_option maxRecDepth 20000 in
theorem sX6_successes {G : pm_G} {l : Launch} (hG : pm_ok G) (hst : l.stackTraces = false) (hX : pm_exc G) (q0 : Nat) (x1 : Int32) (I : pm_I) (K : Int32 → pm_I → Prop) (E : Nat → pm_I → Prop) (hk0 : pm_k G q0 (.inl 6)) (h : wX6_successes G q0 x1 I K E) : pm_Xt G l yX6_successes cX6_successes 2 (some .int) 7 221 1 6 [.ref (q0), .int (x1)] I (pm_Ki K) E := by
  unfold wX6_successes at h
  refine pm_enterX (by decide +kernel) hst hG rfl (Nat.le_of_ble_eq_true rfl) rfl (fun X hl hC hE => ?_)
  subst hl
  have hC : pm_C G X cX6_successes 2 RX6 (some .int) { frames := 7, cells := 1, slots := 6, locals := 221 } := hC
  refine r_aload_n 0 hC dX6_successes_0 rfl rfl ?_
  refine r_iload_n 1 hC dX6_successes_1 rfl rfl ?_
  refine x_call_r 2 (n := 1) (mcc := 1) (msc := 6) [.int (x1)] [] hC hE hk0 rfl dX6_successes_2 (by decide) (by decide) tw_889 tw_129 ⟨by decide, by decide, by decide +kernel⟩ tw_886 tw_888 tw_51 rfl rfl (sX6_openSession (l := pm_l X) hG hst hX (q0) (x1) _ _ _ hk0 h) ⟨by decide, by decide⟩ ⟨by decide, by decide⟩ (Nat.le_of_ble_eq_true rfl) ?_
  clear h; intro r11 I10 h
  have hg12 := h.1; replace h := h.2
  show pm_R G X 2 1 6 5 [some (.ref (q0)), some (.int (x1))] [.ref (r11)] I10
  refine r_getIN4 5 (x := I10 (r11) 6) hC hg12 6 (by decide) tw_275 rfl rfl dX6_successes_5 ?_
  exact x_iret 8 hC hE ⟨by decide, by decide⟩ rfl dX6_successes_8 ⟨_, rfl, h⟩

def wX6_messages (G : pm_G) (q0 : Nat) (x1 : Int32) (x2 : Int32) (I : pm_I) (K : Int32 → pm_I → Prop) (E : Nat → pm_I → Prop) : Prop :=
  wX6_openSession G (q0) (x1) I (fun r11 I10 => pm_k G r11 (.inl 4) ∧ ((x2 < 0 → E 1 I10) ∧ (¬ x2 < 0 → ((x2 ≤ 3 → ((¬ x2 = 3 → (wX4_countUndelivered G (r11) (x2) I10 (fun r14 I13 => K (r14) I13))) ∧ (x2 = 3 → (K (I10 (r11) 8) I10)))) ∧ (¬ x2 ≤ 3 → E 1 I10))))) E

set_option maxRecDepth 20000 in
theorem sX6_messages {G : pm_G} {l : Launch} (hG : pm_ok G) (hst : l.stackTraces = false) (hX : pm_exc G) (q0 : Nat) (x1 : Int32) (x2 : Int32) (I : pm_I) (K : Int32 → pm_I → Prop) (E : Nat → pm_I → Prop) (hk0 : pm_k G q0 (.inl 6)) (h : wX6_messages G q0 x1 x2 I K E) : pm_Xt G l yX6_messages cX6_messages 4 (some .int) 7 357 2 12 [.ref (q0), .int (x1), .int (x2)] I (pm_Ki K) E := by
  unfold wX6_messages at h
  refine pm_enterX (by decide +kernel) hst hG rfl (Nat.le_of_ble_eq_true rfl) rfl (fun X hl hC hE => ?_)
  subst hl
  have hC : pm_C G X cX6_messages 4 RX6 (some .int) { frames := 7, cells := 2, slots := 12, locals := 357 } := hC
  refine r_aload_n 0 hC dX6_messages_0 rfl rfl ?_
  refine r_iload_n 1 hC dX6_messages_1 rfl rfl ?_
  refine x_call_r 2 (n := 1) (mcc := 1) (msc := 6) [.int (x1)] [] hC hE hk0 rfl dX6_messages_2 (by decide) (by decide) tw_889 tw_129 ⟨by decide, by decide, by decide +kernel⟩ tw_886 tw_888 tw_51 rfl rfl (sX6_openSession (l := pm_l X) hG hst hX (q0) (x1) _ _ _ hk0 h) ⟨by decide, by decide⟩ ⟨by decide, by decide⟩ (Nat.le_of_ble_eq_true rfl) ?_
  clear h; intro r11 I10 h
  have hg12 := h.1; replace h := h.2
  show pm_R G X 4 1 6 5 [some (.ref (q0)), some (.int (x1)), some (.int (x2)), none] [.ref (r11)] I10
  refine r_astore_n 5 [some (.ref (q0)), some (.int (x1)), some (.int (x2)), some (.ref (r11))] hC dX6_messages_5 rfl (by decide) rfl ?_
  refine r_iload_n 6 hC dX6_messages_6 rfl rfl ?_
  refine r_if_lt 7 15 hC dX6_messages_7 (by decide) (fun hc => ?_) (fun hc => ?_)
  · replace h := h.1 hc
    exact x_throw 15 1 (tx := "the state is out of range") hC hE hX (by decide) (by decide) tw_446 tw_139 (by decide) dX6_messages_15 dX6_messages_18 dX6_messages_19 dX6_messages_21 dX6_messages_24 (by decide) (by decide) ⟨by decide, by decide⟩ ⟨by decide, by decide⟩ (Nat.le_of_ble_eq_true rfl) h
  · replace h := h.2 hc
    refine r_iload_n 10 hC dX6_messages_10 rfl rfl ?_
    refine r_iconst 11 (v := 3) hC dX6_messages_11 (by decide) ?_
    refine r_icmp_le 12 25 hC dX6_messages_12 (by decide) (fun hc => ?_) (fun hc => ?_)
    · replace h := h.1 hc
      refine r_iload_n 25 hC dX6_messages_25 rfl rfl ?_
      refine r_iconst 26 (v := 3) hC dX6_messages_26 (by decide) ?_
      refine r_icmp_ne 27 37 hC dX6_messages_27 (by decide) (fun hc => ?_) (fun hc => ?_)
      · replace h := h.1 hc
        refine r_aload_n 37 hC dX6_messages_37 rfl rfl ?_
        refine r_iload_n 38 hC dX6_messages_38 rfl rfl ?_
        refine r_callVN_i 39 (n := 1) [.int (x2)] [] hC hg12 rfl dX6_messages_39 (by decide) (by decide) tw_916 tw_133 ⟨by decide, by decide, by decide +kernel⟩ tw_913 tw_915 tw_52 rfl rfl (sX4_countUndelivered (l := pm_l X) hG (r11) (x2) _ _ hg12 h) ⟨by decide, by decide⟩ (Nat.le_of_ble_eq_true rfl) ?_
        clear h; intro r14 I13 h
        exact x_iret 42 hC hE ⟨by decide, by decide⟩ rfl dX6_messages_42 ⟨_, rfl, h⟩
      · replace h := h.2 hc
        refine r_aload_n 30 hC dX6_messages_30 rfl rfl ?_
        refine r_getIN4 31 (x := I10 (r11) 8) hC hg12 8 (by decide) tw_279 rfl rfl dX6_messages_31 ?_
        refine r_goto 34 42 hC dX6_messages_34 (by decide) ?_
        exact x_iret 42 hC hE ⟨by decide, by decide⟩ rfl dX6_messages_42 ⟨_, rfl, h⟩
    · replace h := h.2 hc
      exact x_throw 15 1 (tx := "the state is out of range") hC hE hX (by decide) (by decide) tw_446 tw_139 (by decide) dX6_messages_15 dX6_messages_18 dX6_messages_19 dX6_messages_21 dX6_messages_24 (by decide) (by decide) ⟨by decide, by decide⟩ ⟨by decide, by decide⟩ (Nat.le_of_ble_eq_true rfl) h

def wX6_lastValue (G : pm_G) (q0 : Nat) (x1 : Int32) (I : pm_I) (K : Int32 → pm_I → Prop) (E : Nat → pm_I → Prop) : Prop :=
  wX6_openSession G (q0) (x1) I (fun r11 I10 => pm_k G r11 (.inl 4) ∧ ((¬ (I10 r11 8) = 0 → (K (I10 (r11) 11) I10)) ∧ ((I10 r11 8) = 0 → E 2 I10))) E

set_option maxRecDepth 20000 in
theorem sX6_lastValue {G : pm_G} {l : Launch} (hG : pm_ok G) (hst : l.stackTraces = false) (hX : pm_exc G) (q0 : Nat) (x1 : Int32) (I : pm_I) (K : Int32 → pm_I → Prop) (E : Nat → pm_I → Prop) (hk0 : pm_k G q0 (.inl 6)) (h : wX6_lastValue G q0 x1 I K E) : pm_Xt G l yX6_lastValue cX6_lastValue 3 (some .int) 7 221 2 12 [.ref (q0), .int (x1)] I (pm_Ki K) E := by
  unfold wX6_lastValue at h
  refine pm_enterX (by decide +kernel) hst hG rfl (Nat.le_of_ble_eq_true rfl) rfl (fun X hl hC hE => ?_)
  subst hl
  have hC : pm_C G X cX6_lastValue 3 RX6 (some .int) { frames := 7, cells := 2, slots := 12, locals := 221 } := hC
  refine r_aload_n 0 hC dX6_lastValue_0 rfl rfl ?_
  refine r_iload_n 1 hC dX6_lastValue_1 rfl rfl ?_
  refine x_call_r 2 (n := 1) (mcc := 1) (msc := 6) [.int (x1)] [] hC hE hk0 rfl dX6_lastValue_2 (by decide) (by decide) tw_889 tw_129 ⟨by decide, by decide, by decide +kernel⟩ tw_886 tw_888 tw_51 rfl rfl (sX6_openSession (l := pm_l X) hG hst hX (q0) (x1) _ _ _ hk0 h) ⟨by decide, by decide⟩ ⟨by decide, by decide⟩ (Nat.le_of_ble_eq_true rfl) ?_
  clear h; intro r11 I10 h
  have hg12 := h.1; replace h := h.2
  show pm_R G X 3 1 6 5 [some (.ref (q0)), some (.int (x1)), none] [.ref (r11)] I10
  refine r_astore_n 5 [some (.ref (q0)), some (.int (x1)), some (.ref (r11))] hC dX6_lastValue_5 rfl (by decide) rfl ?_
  refine r_aload_n 6 hC dX6_lastValue_6 rfl rfl ?_
  refine r_getIN4 7 (x := I10 (r11) 8) hC hg12 8 (by decide) tw_279 rfl rfl dX6_lastValue_7 ?_
  refine r_if_ne 10 23 hC dX6_lastValue_10 (by decide) (fun hc => ?_) (fun hc => ?_)
  · replace h := h.1 hc
    refine r_aload_n 23 hC dX6_lastValue_23 rfl rfl ?_
    refine r_getIN4 24 (x := I10 (r11) 11) hC hg12 11 (by decide) tw_285 rfl rfl dX6_lastValue_24 ?_
    exact x_iret 27 hC hE ⟨by decide, by decide⟩ rfl dX6_lastValue_27 ⟨_, rfl, h⟩
  · replace h := h.2 hc
    exact x_throw 13 2 (tx := "no message was delivered") hC hE hX (by decide) (by decide) tw_851 tw_146 (by decide) dX6_lastValue_13 dX6_lastValue_16 dX6_lastValue_17 dX6_lastValue_19 dX6_lastValue_22 (by decide) (by decide) ⟨by decide, by decide⟩ ⟨by decide, by decide⟩ (Nat.le_of_ble_eq_true rfl) h

def wX6_digest (G : pm_G) (q0 : Nat) (x1 : Int32) (I : pm_I) (K : Int32 → pm_I → Prop) (E : Nat → pm_I → Prop) : Prop :=
  wX6_openSession G (q0) (x1) I (fun r11 I10 => pm_k G r11 (.inl 4) ∧ (K (I10 (r11) 12) I10)) E

set_option maxRecDepth 20000 in
theorem sX6_digest {G : pm_G} {l : Launch} (hG : pm_ok G) (hst : l.stackTraces = false) (hX : pm_exc G) (q0 : Nat) (x1 : Int32) (I : pm_I) (K : Int32 → pm_I → Prop) (E : Nat → pm_I → Prop) (hk0 : pm_k G q0 (.inl 6)) (h : wX6_digest G q0 x1 I K E) : pm_Xt G l yX6_digest cX6_digest 2 (some .int) 7 221 1 6 [.ref (q0), .int (x1)] I (pm_Ki K) E := by
  unfold wX6_digest at h
  refine pm_enterX (by decide +kernel) hst hG rfl (Nat.le_of_ble_eq_true rfl) rfl (fun X hl hC hE => ?_)
  subst hl
  have hC : pm_C G X cX6_digest 2 RX6 (some .int) { frames := 7, cells := 1, slots := 6, locals := 221 } := hC
  refine r_aload_n 0 hC dX6_digest_0 rfl rfl ?_
  refine r_iload_n 1 hC dX6_digest_1 rfl rfl ?_
  refine x_call_r 2 (n := 1) (mcc := 1) (msc := 6) [.int (x1)] [] hC hE hk0 rfl dX6_digest_2 (by decide) (by decide) tw_889 tw_129 ⟨by decide, by decide, by decide +kernel⟩ tw_886 tw_888 tw_51 rfl rfl (sX6_openSession (l := pm_l X) hG hst hX (q0) (x1) _ _ _ hk0 h) ⟨by decide, by decide⟩ ⟨by decide, by decide⟩ (Nat.le_of_ble_eq_true rfl) ?_
  clear h; intro r11 I10 h
  have hg12 := h.1; replace h := h.2
  show pm_R G X 2 1 6 5 [some (.ref (q0)), some (.int (x1))] [.ref (r11)] I10
  refine r_getIN4 5 (x := I10 (r11) 12) hC hg12 12 (by decide) tw_287 rfl rfl dX6_digest_5 ?_
  exact x_iret 8 hC hE ⟨by decide, by decide⟩ rfl dX6_digest_8 ⟨_, rfl, h⟩

def wX6_key (G : pm_G) (q0 : Nat) (x1 : Int32) (I : pm_I) (K : Int32 → pm_I → Prop) (E : Nat → pm_I → Prop) : Prop :=
  wX6_openSession G (q0) (x1) I (fun r11 I10 => pm_k G r11 (.inl 4) ∧ (K (I10 (r11) 9) I10)) E

set_option maxRecDepth 20000 in
theorem sX6_key {G : pm_G} {l : Launch} (hG : pm_ok G) (hst : l.stackTraces = false) (hX : pm_exc G) (q0 : Nat) (x1 : Int32) (I : pm_I) (K : Int32 → pm_I → Prop) (E : Nat → pm_I → Prop) (hk0 : pm_k G q0 (.inl 6)) (h : wX6_key G q0 x1 I K E) : pm_Xt G l yX6_key cX6_key 2 (some .int) 7 221 1 6 [.ref (q0), .int (x1)] I (pm_Ki K) E := by
  unfold wX6_key at h
  refine pm_enterX (by decide +kernel) hst hG rfl (Nat.le_of_ble_eq_true rfl) rfl (fun X hl hC hE => ?_)
  subst hl
  have hC : pm_C G X cX6_key 2 RX6 (some .int) { frames := 7, cells := 1, slots := 6, locals := 221 } := hC
  refine r_aload_n 0 hC dX6_key_0 rfl rfl ?_
  refine r_iload_n 1 hC dX6_key_1 rfl rfl ?_
  refine x_call_r 2 (n := 1) (mcc := 1) (msc := 6) [.int (x1)] [] hC hE hk0 rfl dX6_key_2 (by decide) (by decide) tw_889 tw_129 ⟨by decide, by decide, by decide +kernel⟩ tw_886 tw_888 tw_51 rfl rfl (sX6_openSession (l := pm_l X) hG hst hX (q0) (x1) _ _ _ hk0 h) ⟨by decide, by decide⟩ ⟨by decide, by decide⟩ (Nat.le_of_ble_eq_true rfl) ?_
  clear h; intro r11 I10 h
  have hg12 := h.1; replace h := h.2
  show pm_R G X 2 1 6 5 [some (.ref (q0)), some (.int (x1))] [.ref (r11)] I10
  refine r_getIN4 5 (x := I10 (r11) 9) hC hg12 9 (by decide) tw_281 rfl rfl dX6_key_5 ?_
  exact x_iret 8 hC hE ⟨by decide, by decide⟩ rfl dX6_key_8 ⟨_, rfl, h⟩

def wX6_oldestKey (G : pm_G) (q0 : Nat) (x1 : Int32) (I : pm_I) (K : Int32 → pm_I → Prop) (E : Nat → pm_I → Prop) : Prop :=
  wX6_openSession G (q0) (x1) I (fun r11 I10 => pm_k G r11 (.inl 4) ∧ (wX4_firstNeededKey G (r11) I10 (fun r14 I13 => K (r14) I13))) E

set_option maxRecDepth 20000 in
theorem sX6_oldestKey {G : pm_G} {l : Launch} (hG : pm_ok G) (hst : l.stackTraces = false) (hX : pm_exc G) (q0 : Nat) (x1 : Int32) (I : pm_I) (K : Int32 → pm_I → Prop) (E : Nat → pm_I → Prop) (hk0 : pm_k G q0 (.inl 6)) (h : wX6_oldestKey G q0 x1 I K E) : pm_Xt G l yX6_oldestKey cX6_oldestKey 2 (some .int) 7 354 1 6 [.ref (q0), .int (x1)] I (pm_Ki K) E := by
  unfold wX6_oldestKey at h
  refine pm_enterX (by decide +kernel) hst hG rfl (Nat.le_of_ble_eq_true rfl) rfl (fun X hl hC hE => ?_)
  subst hl
  have hC : pm_C G X cX6_oldestKey 2 RX6 (some .int) { frames := 7, cells := 1, slots := 6, locals := 354 } := hC
  refine r_aload_n 0 hC dX6_oldestKey_0 rfl rfl ?_
  refine r_iload_n 1 hC dX6_oldestKey_1 rfl rfl ?_
  refine x_call_r 2 (n := 1) (mcc := 1) (msc := 6) [.int (x1)] [] hC hE hk0 rfl dX6_oldestKey_2 (by decide) (by decide) tw_889 tw_129 ⟨by decide, by decide, by decide +kernel⟩ tw_886 tw_888 tw_51 rfl rfl (sX6_openSession (l := pm_l X) hG hst hX (q0) (x1) _ _ _ hk0 h) ⟨by decide, by decide⟩ ⟨by decide, by decide⟩ (Nat.le_of_ble_eq_true rfl) ?_
  clear h; intro r11 I10 h
  have hg12 := h.1; replace h := h.2
  show pm_R G X 2 1 6 5 [some (.ref (q0)), some (.int (x1))] [.ref (r11)] I10
  refine r_callVN_i 5 (n := 0) [] [] hC hg12 rfl dX6_oldestKey_5 (by decide) (by decide) tw_958 tw_133 ⟨by decide, by decide, by decide +kernel⟩ tw_955 tw_957 tw_53 rfl rfl (sX4_firstNeededKey (l := pm_l X) hG (r11) _ _ hg12 h) ⟨by decide, by decide⟩ (Nat.le_of_ble_eq_true rfl) ?_
  clear h; intro r14 I13 h
  exact x_iret 8 hC hE ⟨by decide, by decide⟩ rfl dX6_oldestKey_8 ⟨_, rfl, h⟩

def wX6_keyStart (G : pm_G) (q0 : Nat) (x1 : Int32) (I : pm_I) (K : Int32 → pm_I → Prop) (E : Nat → pm_I → Prop) : Prop :=
  wX6_openSession G (q0) (x1) I (fun r11 I10 => pm_k G r11 (.inl 4) ∧ (K ((I10 r11 7) - (I10 r11 10)) I10)) E

set_option maxRecDepth 20000 in
theorem sX6_keyStart {G : pm_G} {l : Launch} (hG : pm_ok G) (hst : l.stackTraces = false) (hX : pm_exc G) (q0 : Nat) (x1 : Int32) (I : pm_I) (K : Int32 → pm_I → Prop) (E : Nat → pm_I → Prop) (hk0 : pm_k G q0 (.inl 6)) (h : wX6_keyStart G q0 x1 I K E) : pm_Xt G l yX6_keyStart cX6_keyStart 3 (some .int) 7 221 1 6 [.ref (q0), .int (x1)] I (pm_Ki K) E := by
  unfold wX6_keyStart at h
  refine pm_enterX (by decide +kernel) hst hG rfl (Nat.le_of_ble_eq_true rfl) rfl (fun X hl hC hE => ?_)
  subst hl
  have hC : pm_C G X cX6_keyStart 3 RX6 (some .int) { frames := 7, cells := 1, slots := 6, locals := 221 } := hC
  refine r_aload_n 0 hC dX6_keyStart_0 rfl rfl ?_
  refine r_iload_n 1 hC dX6_keyStart_1 rfl rfl ?_
  refine x_call_r 2 (n := 1) (mcc := 1) (msc := 6) [.int (x1)] [] hC hE hk0 rfl dX6_keyStart_2 (by decide) (by decide) tw_889 tw_129 ⟨by decide, by decide, by decide +kernel⟩ tw_886 tw_888 tw_51 rfl rfl (sX6_openSession (l := pm_l X) hG hst hX (q0) (x1) _ _ _ hk0 h) ⟨by decide, by decide⟩ ⟨by decide, by decide⟩ (Nat.le_of_ble_eq_true rfl) ?_
  clear h; intro r11 I10 h
  have hg12 := h.1; replace h := h.2
  show pm_R G X 3 1 6 5 [some (.ref (q0)), some (.int (x1)), none] [.ref (r11)] I10
  refine r_astore_n 5 [some (.ref (q0)), some (.int (x1)), some (.ref (r11))] hC dX6_keyStart_5 rfl (by decide) rfl ?_
  refine r_aload_n 6 hC dX6_keyStart_6 rfl rfl ?_
  refine r_getIN4 7 (x := I10 (r11) 7) hC hg12 7 (by decide) tw_277 rfl rfl dX6_keyStart_7 ?_
  refine r_aload_n 10 hC dX6_keyStart_10 rfl rfl ?_
  refine r_getIN4 11 (x := I10 (r11) 10) hC hg12 10 (by decide) tw_283 rfl rfl dX6_keyStart_11 ?_
  refine r_isub 14 hC dX6_keyStart_14 ?_
  exact x_iret 15 hC hE ⟨by decide, by decide⟩ rfl dX6_keyStart_15 ⟨_, rfl, h⟩

def wX6_forecastOf (G : pm_G) (q0 : Nat) (x1 : Int32) (I : pm_I) (K : Nat → pm_I → Prop) (E : Nat → pm_I → Prop) : Prop :=
  wX6_openSession G (q0) (x1) I (fun r11 I10 => pm_k G r11 (.inl 4) ∧ (wX5_copyFrom G (q0 + 52) (q0 + 18) I10 (fun I13 => vp_in (x1) 6 ∧ (K (q0 + 52 + 3 + 1 + 5 * (x1).toNatClampNeg) I13)))) E

set_option maxRecDepth 20000 in
theorem sX6_forecastOf {G : pm_G} {l : Launch} (hG : pm_ok G) (hst : l.stackTraces = false) (hX : pm_exc G) (q0 : Nat) (x1 : Int32) (I : pm_I) (K : Nat → pm_I → Prop) (E : Nat → pm_I → Prop) (hk0 : pm_k G q0 (.inl 6)) (h : wX6_forecastOf G q0 x1 I K E) : pm_Xt G l yX6_forecastOf cX6_forecastOf 2 (some (.object "PeerOverlay$Session")) 7 271 1 6 [.ref (q0), .int (x1)] I (pm_Kr K) E := by
  unfold wX6_forecastOf at h
  refine pm_enterX (by decide +kernel) hst hG rfl (Nat.le_of_ble_eq_true rfl) rfl (fun X hl hC hE => ?_)
  subst hl
  have hC : pm_C G X cX6_forecastOf 2 RX6 (some (.object "PeerOverlay$Session")) { frames := 7, cells := 1, slots := 6, locals := 271 } := hC
  refine r_aload_n 0 hC dX6_forecastOf_0 rfl rfl ?_
  refine r_iload_n 1 hC dX6_forecastOf_1 rfl rfl ?_
  refine x_call_r 2 (n := 1) (mcc := 1) (msc := 6) [.int (x1)] [] hC hE hk0 rfl dX6_forecastOf_2 (by decide) (by decide) tw_889 tw_129 ⟨by decide, by decide, by decide +kernel⟩ tw_886 tw_888 tw_51 rfl rfl (sX6_openSession (l := pm_l X) hG hst hX (q0) (x1) _ _ _ hk0 h) ⟨by decide, by decide⟩ ⟨by decide, by decide⟩ (Nat.le_of_ble_eq_true rfl) ?_
  clear h; intro r11 I10 h
  have hg12 := h.1; replace h := h.2
  show pm_R G X 2 1 6 5 [some (.ref (q0)), some (.int (x1))] [.ref (r11)] I10
  refine r_pop 5 hC dX6_forecastOf_5 rfl ?_
  refine r_aload_n 6 hC dX6_forecastOf_6 rfl rfl ?_
  refine r_getR6 7 (r1 := q0 + 52) hC hk0 6 (by decide) tw_368 rfl rfl dX6_forecastOf_7 ?_
  refine r_aload_n 10 hC dX6_forecastOf_10 rfl rfl ?_
  refine r_getR6 11 (r1 := q0 + 18) hC hk0 5 (by decide) tw_367 rfl rfl dX6_forecastOf_11 ?_
  refine r_callVN_v 14 (n := 1) [.ref (q0 + 18)] [] hC ((pm_s6 hG hk0).2.2.1) rfl dX6_forecastOf_14 (by decide) (by decide) tw_429 tw_132 ⟨by decide, by decide, by decide +kernel⟩ tw_977 tw_428 tw_6 rfl rfl (sX5_copyFrom (l := pm_l X) hG (q0 + 52) (q0 + 18) _ _ ((pm_s6 hG hk0).2.2.1) ((pm_s6 hG hk0).2.1) h) ⟨by decide, by decide⟩ (Nat.le_of_ble_eq_true rfl) ?_
  clear h; intro I13 h
  refine r_aload_n 17 hC dX6_forecastOf_17 rfl rfl ?_
  refine r_getR6 18 (r1 := q0 + 52) hC hk0 6 (by decide) tw_368 rfl rfl dX6_forecastOf_18 ?_
  refine r_getRN5 21 (r1 := q0 + 52 + 3) hC ((pm_s6 hG hk0).2.2.1) 3 (by decide) tw_333 rfl rfl dX6_forecastOf_21 ?_
  refine r_iload_n 24 hC dX6_forecastOf_24 rfl rfl ?_
  have hg14 := h.1; replace h := h.2
  refine r_aald4 25 hC ((pm_s5 hG ((pm_s6 hG hk0).2.2.1)).2.2) hg14 dX6_forecastOf_25 ?_
  exact x_aret 26 hC hE ⟨by decide, by decide⟩ dX6_forecastOf_26 ⟨_, rfl, h⟩

def wX6_ticksToDeliver (G : pm_G) (q0 : Nat) (x1 : Int32) (I : pm_I) (K : Int32 → pm_I → Prop) (E : Nat → pm_I → Prop) : Prop :=
  wX6_forecastOf G (q0) (x1) I (fun r11 I10 => pm_k G r11 (.inl 4) ∧ (pm_lp2 (fun (P13 : Int32 → pm_I → Prop) (x15 : Int32) (I14 : pm_I) => (300 < x15 → (K (-1) I14)) ∧ (¬ 300 < x15 → ((¬ (I14 r11 8) = (I14 r11 7) → (pm_k G ((I14 (q0) 3).toNatClampNeg) (.inl 1) ∧ (wX5_passTick G (q0 + 52) ((I14 (q0) 3).toNatClampNeg) I14 (fun r18 I17 => P13 (x15 + 1) I17)))) ∧ ((I14 r11 8) = (I14 r11 7) → (K (x15) I14))))) (0) I10)) E

set_option maxRecDepth 20000 in
theorem sX6_ticksToDeliver {G : pm_G} {l : Launch} (hG : pm_ok G) (hst : l.stackTraces = false) (hX : pm_exc G) (q0 : Nat) (x1 : Int32) (I : pm_I) (K : Int32 → pm_I → Prop) (E : Nat → pm_I → Prop) (hk0 : pm_k G q0 (.inl 6)) (h : wX6_ticksToDeliver G q0 x1 I K E) : pm_Xt G l yX6_ticksToDeliver cX6_ticksToDeliver 4 (some .int) 8 631 1 6 [.ref (q0), .int (x1)] I (pm_Ki K) E := by
  unfold wX6_ticksToDeliver at h
  refine pm_enterX (by decide +kernel) hst hG rfl (Nat.le_of_ble_eq_true rfl) rfl (fun X hl hC hE => ?_)
  subst hl
  have hC : pm_C G X cX6_ticksToDeliver 4 RX6 (some .int) { frames := 8, cells := 1, slots := 6, locals := 631 } := hC
  refine r_aload_n 0 hC dX6_ticksToDeliver_0 rfl rfl ?_
  refine r_iload_n 1 hC dX6_ticksToDeliver_1 rfl rfl ?_
  refine x_call_r 2 (n := 1) (mcc := 1) (msc := 6) [.int (x1)] [] hC hE hk0 rfl dX6_ticksToDeliver_2 (by decide) (by decide) tw_976 tw_129 ⟨by decide, by decide, by decide +kernel⟩ tw_973 tw_975 tw_54 rfl rfl (sX6_forecastOf (l := pm_l X) hG hst hX (q0) (x1) _ _ _ hk0 h) ⟨by decide, by decide⟩ ⟨by decide, by decide⟩ (Nat.le_of_ble_eq_true rfl) ?_
  clear h; intro r11 I10 h
  have hg12 := h.1; replace h := h.2
  show pm_R G X 4 1 6 5 [some (.ref (q0)), some (.int (x1)), none, none] [.ref (r11)] I10
  refine r_astore_n 5 [some (.ref (q0)), some (.int (x1)), some (.ref (r11)), none] hC dX6_ticksToDeliver_5 rfl (by decide) rfl ?_
  refine r_iconst 6 (v := 0) hC dX6_ticksToDeliver_6 (by decide) ?_
  refine r_istore_n 7 [some (.ref (q0)), some (.int (x1)), some (.ref (r11)), some (.int (0))] hC dX6_ticksToDeliver_7 rfl (by decide) rfl ?_
  refine r_weak (ls' := [some (.ref (q0)), none, some (.ref (r11)), some (.int (0))]) (And.intro rfl (And.intro rfl (And.intro rfl (trivial)))) ?_
  refine h (fun x15 I14 => pm_R G X 4 1 6 8 [some (.ref (q0)), none, some (.ref (r11)), some (.int (x15))] [] I14) ?_
  clear h; intro x15 I14 h
  refine r_iload_n 8 hC dX6_ticksToDeliver_8 rfl rfl ?_
  refine r_sipush 9 (v := 300) hC dX6_ticksToDeliver_9 (by decide) ?_
  refine r_icmp_gt 12 46 hC dX6_ticksToDeliver_12 (by decide) (fun hc => ?_) (fun hc => ?_)
  · replace h := h.1 hc
    refine r_iconst 46 (v := -1) hC dX6_ticksToDeliver_46 (by decide) ?_
    exact x_iret 47 hC hE ⟨by decide, by decide⟩ rfl dX6_ticksToDeliver_47 ⟨_, rfl, h⟩
  · replace h := h.2 hc
    refine r_aload_n 15 hC dX6_ticksToDeliver_15 rfl rfl ?_
    refine r_getIN4 16 (x := I14 (r11) 8) hC hg12 8 (by decide) tw_279 rfl rfl dX6_ticksToDeliver_16 ?_
    refine r_aload_n 19 hC dX6_ticksToDeliver_19 rfl rfl ?_
    refine r_getIN4 20 (x := I14 (r11) 7) hC hg12 7 (by decide) tw_277 rfl rfl dX6_ticksToDeliver_20 ?_
    refine r_icmp_ne 23 28 hC dX6_ticksToDeliver_23 (by decide) (fun hc => ?_) (fun hc => ?_)
    · replace h := h.1 hc
      refine r_aload_n 28 hC dX6_ticksToDeliver_28 rfl rfl ?_
      refine r_getR6 29 (r1 := q0 + 52) hC hk0 6 (by decide) tw_368 rfl rfl dX6_ticksToDeliver_29 ?_
      refine r_aload_n 32 hC dX6_ticksToDeliver_32 rfl rfl ?_
      refine r_getR6 33 (r1 := (I14 (q0) 3).toNatClampNeg) hC hk0 3 (by decide) tw_365 rfl rfl dX6_ticksToDeliver_33 ?_
      have hg16 := h.1; replace h := h.2
      refine r_callVN_i 36 (n := 1) [.ref ((I14 (q0) 3).toNatClampNeg)] [] hC ((pm_s6 hG hk0).2.2.1) rfl dX6_ticksToDeliver_36 (by decide) (by decide) tw_981 tw_132 ⟨by decide, by decide, by decide +kernel⟩ tw_978 tw_980 tw_55 rfl rfl (sX5_passTick (l := pm_l X) hG (q0 + 52) ((I14 (q0) 3).toNatClampNeg) _ _ ((pm_s6 hG hk0).2.2.1) hg16 h) ⟨by decide, by decide⟩ (Nat.le_of_ble_eq_true rfl) ?_
      clear h; intro r18 I17 h
      refine r_pop 39 hC dX6_ticksToDeliver_39 rfl ?_
      refine r_iinc 40 (v := x15 + 1) [some (.ref (q0)), none, some (.ref (r11)), some (.int (x15 + 1))] hC dX6_ticksToDeliver_40 rfl (by rfl) (by decide) rfl ?_
      refine r_goto 43 8 hC dX6_ticksToDeliver_43 (by decide) ?_
      exact h
    · replace h := h.2 hc
      refine r_iload_n 26 hC dX6_ticksToDeliver_26 rfl rfl ?_
      exact x_iret 27 hC hE ⟨by decide, by decide⟩ rfl dX6_ticksToDeliver_27 ⟨_, rfl, h⟩

def wX6_ticksToDirect (G : pm_G) (q0 : Nat) (x1 : Int32) (I : pm_I) (K : Int32 → pm_I → Prop) (E : Nat → pm_I → Prop) : Prop :=
  wX6_forecastOf G (q0) (x1) I (fun r11 I10 => pm_k G r11 (.inl 4) ∧ (pm_lp2 (fun (P13 : Int32 → pm_I → Prop) (x15 : Int32) (I14 : pm_I) => (300 < x15 → (K (-1) I14)) ∧ (¬ 300 < x15 → ((¬ (I14 r11 4) = 100 → (pm_k G ((I14 (q0) 3).toNatClampNeg) (.inl 1) ∧ (wX5_passTick G (q0 + 52) ((I14 (q0) 3).toNatClampNeg) I14 (fun r18 I17 => P13 (x15 + 1) I17)))) ∧ ((I14 r11 4) = 100 → (K (x15) I14))))) (0) I10)) E

set_option maxRecDepth 20000 in
theorem sX6_ticksToDirect {G : pm_G} {l : Launch} (hG : pm_ok G) (hst : l.stackTraces = false) (hX : pm_exc G) (q0 : Nat) (x1 : Int32) (I : pm_I) (K : Int32 → pm_I → Prop) (E : Nat → pm_I → Prop) (hk0 : pm_k G q0 (.inl 6)) (h : wX6_ticksToDirect G q0 x1 I K E) : pm_Xt G l yX6_ticksToDirect cX6_ticksToDirect 4 (some .int) 8 631 1 6 [.ref (q0), .int (x1)] I (pm_Ki K) E := by
  unfold wX6_ticksToDirect at h
  refine pm_enterX (by decide +kernel) hst hG rfl (Nat.le_of_ble_eq_true rfl) rfl (fun X hl hC hE => ?_)
  subst hl
  have hC : pm_C G X cX6_ticksToDirect 4 RX6 (some .int) { frames := 8, cells := 1, slots := 6, locals := 631 } := hC
  refine r_aload_n 0 hC dX6_ticksToDirect_0 rfl rfl ?_
  refine r_iload_n 1 hC dX6_ticksToDirect_1 rfl rfl ?_
  refine x_call_r 2 (n := 1) (mcc := 1) (msc := 6) [.int (x1)] [] hC hE hk0 rfl dX6_ticksToDirect_2 (by decide) (by decide) tw_976 tw_129 ⟨by decide, by decide, by decide +kernel⟩ tw_973 tw_975 tw_54 rfl rfl (sX6_forecastOf (l := pm_l X) hG hst hX (q0) (x1) _ _ _ hk0 h) ⟨by decide, by decide⟩ ⟨by decide, by decide⟩ (Nat.le_of_ble_eq_true rfl) ?_
  clear h; intro r11 I10 h
  have hg12 := h.1; replace h := h.2
  show pm_R G X 4 1 6 5 [some (.ref (q0)), some (.int (x1)), none, none] [.ref (r11)] I10
  refine r_astore_n 5 [some (.ref (q0)), some (.int (x1)), some (.ref (r11)), none] hC dX6_ticksToDirect_5 rfl (by decide) rfl ?_
  refine r_iconst 6 (v := 0) hC dX6_ticksToDirect_6 (by decide) ?_
  refine r_istore_n 7 [some (.ref (q0)), some (.int (x1)), some (.ref (r11)), some (.int (0))] hC dX6_ticksToDirect_7 rfl (by decide) rfl ?_
  refine r_weak (ls' := [some (.ref (q0)), none, some (.ref (r11)), some (.int (0))]) (And.intro rfl (And.intro rfl (And.intro rfl (trivial)))) ?_
  refine h (fun x15 I14 => pm_R G X 4 1 6 8 [some (.ref (q0)), none, some (.ref (r11)), some (.int (x15))] [] I14) ?_
  clear h; intro x15 I14 h
  refine r_iload_n 8 hC dX6_ticksToDirect_8 rfl rfl ?_
  refine r_sipush 9 (v := 300) hC dX6_ticksToDirect_9 (by decide) ?_
  refine r_icmp_gt 12 44 hC dX6_ticksToDirect_12 (by decide) (fun hc => ?_) (fun hc => ?_)
  · replace h := h.1 hc
    refine r_iconst 44 (v := -1) hC dX6_ticksToDirect_44 (by decide) ?_
    exact x_iret 45 hC hE ⟨by decide, by decide⟩ rfl dX6_ticksToDirect_45 ⟨_, rfl, h⟩
  · replace h := h.2 hc
    refine r_aload_n 15 hC dX6_ticksToDirect_15 rfl rfl ?_
    refine r_getIN4 16 (x := I14 (r11) 4) hC hg12 4 (by decide) tw_269 rfl rfl dX6_ticksToDirect_16 ?_
    refine r_bipush 19 (v := 100) hC dX6_ticksToDirect_19 (by decide) ?_
    refine r_icmp_ne 21 26 hC dX6_ticksToDirect_21 (by decide) (fun hc => ?_) (fun hc => ?_)
    · replace h := h.1 hc
      refine r_aload_n 26 hC dX6_ticksToDirect_26 rfl rfl ?_
      refine r_getR6 27 (r1 := q0 + 52) hC hk0 6 (by decide) tw_368 rfl rfl dX6_ticksToDirect_27 ?_
      refine r_aload_n 30 hC dX6_ticksToDirect_30 rfl rfl ?_
      refine r_getR6 31 (r1 := (I14 (q0) 3).toNatClampNeg) hC hk0 3 (by decide) tw_365 rfl rfl dX6_ticksToDirect_31 ?_
      have hg16 := h.1; replace h := h.2
      refine r_callVN_i 34 (n := 1) [.ref ((I14 (q0) 3).toNatClampNeg)] [] hC ((pm_s6 hG hk0).2.2.1) rfl dX6_ticksToDirect_34 (by decide) (by decide) tw_981 tw_132 ⟨by decide, by decide, by decide +kernel⟩ tw_978 tw_980 tw_55 rfl rfl (sX5_passTick (l := pm_l X) hG (q0 + 52) ((I14 (q0) 3).toNatClampNeg) _ _ ((pm_s6 hG hk0).2.2.1) hg16 h) ⟨by decide, by decide⟩ (Nat.le_of_ble_eq_true rfl) ?_
      clear h; intro r18 I17 h
      refine r_pop 37 hC dX6_ticksToDirect_37 rfl ?_
      refine r_iinc 38 (v := x15 + 1) [some (.ref (q0)), none, some (.ref (r11)), some (.int (x15 + 1))] hC dX6_ticksToDirect_38 rfl (by rfl) (by decide) rfl ?_
      refine r_goto 41 8 hC dX6_ticksToDirect_41 (by decide) ?_
      exact h
    · replace h := h.2 hc
      refine r_iload_n 24 hC dX6_ticksToDirect_24 rfl rfl ?_
      exact x_iret 25 hC hE ⟨by decide, by decide⟩ rfl dX6_ticksToDirect_25 ⟨_, rfl, h⟩

def wX6_run (G : pm_G) (q0 : Nat) (x1 : Int32) (I : pm_I) (K : Int32 → pm_I → Prop) (E : Nat → pm_I → Prop) : Prop :=
  (x1 < 1 → E 1 I) ∧ (¬ x1 < 1 → ((x1 ≤ 300 → ((x1 ≤ (9999 - (I (q0 + 18) 0)) → (wX0_keep G (q0 + 86) (q0 + 18) I (fun I10 => pm_lp3 (fun (P11 : Int32 → Int32 → pm_I → Prop) (x13 : Int32) (x14 : Int32) (I12 : pm_I) => (x1 ≤ x14 → (K (x13) I12)) ∧ (¬ x1 ≤ x14 → (pm_k G ((I12 (q0) 3).toNatClampNeg) (.inl 1) ∧ (wX5_passTick G (q0 + 18) ((I12 (q0) 3).toNatClampNeg) I12 (fun r17 I16 => P11 (x13 + r17) (x14 + 1) I16))))) (0) (0) I10))) ∧ (¬ x1 ≤ (9999 - (I (q0 + 18) 0)) → E 2 I))) ∧ (¬ x1 ≤ 300 → E 1 I)))

set_option maxRecDepth 20000 in
theorem sX6_run {G : pm_G} {l : Launch} (hG : pm_ok G) (hst : l.stackTraces = false) (hX : pm_exc G) (q0 : Nat) (x1 : Int32) (I : pm_I) (K : Int32 → pm_I → Prop) (E : Nat → pm_I → Prop) (hk0 : pm_k G q0 (.inl 6)) (h : wX6_run G q0 x1 I K E) : pm_Xt G l yX6_run cX6_run 4 (some .int) 7 631 1 6 [.ref (q0), .int (x1)] I (pm_Ki K) E := by
  unfold wX6_run at h
  refine pm_enterX (by decide +kernel) hst hG rfl (Nat.le_of_ble_eq_true rfl) rfl (fun X hl hC hE => ?_)
  subst hl
  have hC : pm_C G X cX6_run 4 RX6 (some .int) { frames := 7, cells := 1, slots := 6, locals := 631 } := hC
  refine r_iload_n 0 hC dX6_run_0 rfl rfl ?_
  refine r_iconst 1 (v := 1) hC dX6_run_1 (by decide) ?_
  refine r_icmp_lt 2 12 hC dX6_run_2 (by decide) (fun hc => ?_) (fun hc => ?_)
  · replace h := h.1 hc
    exact x_throw 12 1 (tx := "the number of ticks is out of range") hC hE hX (by decide) (by decide) tw_446 tw_139 (by decide) dX6_run_12 dX6_run_15 dX6_run_16 dX6_run_18 dX6_run_21 (by decide) (by decide) ⟨by decide, by decide⟩ ⟨by decide, by decide⟩ (Nat.le_of_ble_eq_true rfl) h
  · replace h := h.2 hc
    refine r_iload_n 5 hC dX6_run_5 rfl rfl ?_
    refine r_sipush 6 (v := 300) hC dX6_run_6 (by decide) ?_
    refine r_icmp_le 9 22 hC dX6_run_9 (by decide) (fun hc => ?_) (fun hc => ?_)
    · replace h := h.1 hc
      refine r_iload_n 22 hC dX6_run_22 rfl rfl ?_
      refine r_sipush 23 (v := 9999) hC dX6_run_23 (by decide) ?_
      refine r_aload_n 26 hC dX6_run_26 rfl rfl ?_
      refine r_getR6 27 (r1 := q0 + 18) hC hk0 5 (by decide) tw_367 rfl rfl dX6_run_27 ?_
      refine r_getIN5 30 (x := I (q0 + 18) 0) hC ((pm_s6 hG hk0).2.1) 0 (by decide) tw_328 rfl rfl dX6_run_30 ?_
      refine r_isub 33 hC dX6_run_33 ?_
      refine r_icmp_le 34 47 hC dX6_run_34 (by decide) (fun hc => ?_) (fun hc => ?_)
      · replace h := h.1 hc
        refine r_aload_n 47 hC dX6_run_47 rfl rfl ?_
        refine r_getR6 48 (r1 := q0 + 86) hC hk0 7 (by decide) tw_369 rfl rfl dX6_run_48 ?_
        refine r_aload_n 51 hC dX6_run_51 rfl rfl ?_
        refine r_getR6 52 (r1 := q0 + 18) hC hk0 5 (by decide) tw_367 rfl rfl dX6_run_52 ?_
        refine r_callVN_v 55 (n := 1) [.ref (q0 + 18)] [] hC ((pm_s6 hG hk0).2.2.2.1) rfl dX6_run_55 (by decide) (by decide) tw_1039 tw_134 ⟨by decide, by decide, by decide +kernel⟩ tw_1036 tw_1038 tw_65 rfl rfl (sX0_keep (l := pm_l X) hG (q0 + 86) (q0 + 18) _ _ ((pm_s6 hG hk0).2.2.2.1) ((pm_s6 hG hk0).2.1) h) ⟨by decide, by decide⟩ (Nat.le_of_ble_eq_true rfl) ?_
        clear h; intro I10 h
        refine r_iconst 58 (v := 0) hC dX6_run_58 (by decide) ?_
        refine r_istore_n 59 [some (.ref (q0)), some (.int (x1)), some (.int (0)), none] hC dX6_run_59 rfl (by decide) rfl ?_
        refine r_iconst 60 (v := 0) hC dX6_run_60 (by decide) ?_
        refine r_istore_n 61 [some (.ref (q0)), some (.int (x1)), some (.int (0)), some (.int (0))] hC dX6_run_61 rfl (by decide) rfl ?_
        refine h (fun x13 x14 I12 => pm_R G X 4 0 0 62 [some (.ref (q0)), some (.int (x1)), some (.int (x13)), some (.int (x14))] [] I12) ?_
        clear h; intro x13 x14 I12 h
        refine r_iload_n 62 hC dX6_run_62 rfl rfl ?_
        refine r_iload_n 63 hC dX6_run_63 rfl rfl ?_
        refine r_icmp_ge 64 87 hC dX6_run_64 (by decide) (fun hc => ?_) (fun hc => ?_)
        · replace h := h.1 hc
          refine r_iload_n 87 hC dX6_run_87 rfl rfl ?_
          exact x_iret 88 hC hE ⟨by decide, by decide⟩ rfl dX6_run_88 ⟨_, rfl, h⟩
        · replace h := h.2 hc
          refine r_iload_n 67 hC dX6_run_67 rfl rfl ?_
          refine r_aload_n 68 hC dX6_run_68 rfl rfl ?_
          refine r_getR6 69 (r1 := q0 + 18) hC hk0 5 (by decide) tw_367 rfl rfl dX6_run_69 ?_
          refine r_aload_n 72 hC dX6_run_72 rfl rfl ?_
          refine r_getR6 73 (r1 := (I12 (q0) 3).toNatClampNeg) hC hk0 3 (by decide) tw_365 rfl rfl dX6_run_73 ?_
          have hg15 := h.1; replace h := h.2
          refine r_callVN_i 76 (n := 1) [.ref ((I12 (q0) 3).toNatClampNeg)] [.int (x13)] hC ((pm_s6 hG hk0).2.1) rfl dX6_run_76 (by decide) (by decide) tw_981 tw_132 ⟨by decide, by decide, by decide +kernel⟩ tw_978 tw_980 tw_55 rfl rfl (sX5_passTick (l := pm_l X) hG (q0 + 18) ((I12 (q0) 3).toNatClampNeg) _ _ ((pm_s6 hG hk0).2.1) hg15 h) ⟨by decide, by decide⟩ (Nat.le_of_ble_eq_true rfl) ?_
          clear h; intro r17 I16 h
          refine r_iadd 79 hC dX6_run_79 ?_
          refine r_istore_n 80 [some (.ref (q0)), some (.int (x1)), some (.int (x13 + r17)), some (.int (x14))] hC dX6_run_80 rfl (by decide) rfl ?_
          refine r_iinc 81 (v := x14 + 1) [some (.ref (q0)), some (.int (x1)), some (.int (x13 + r17)), some (.int (x14 + 1))] hC dX6_run_81 rfl (by rfl) (by decide) rfl ?_
          refine r_goto 84 62 hC dX6_run_84 (by decide) ?_
          exact h
      · replace h := h.2 hc
        exact x_throw 37 2 (tx := "the number of the tick would be too large") hC hE hX (by decide) (by decide) tw_851 tw_146 (by decide) dX6_run_37 dX6_run_40 dX6_run_41 dX6_run_43 dX6_run_46 (by decide) (by decide) ⟨by decide, by decide⟩ ⟨by decide, by decide⟩ (Nat.le_of_ble_eq_true rfl) h
    · replace h := h.2 hc
      exact x_throw 12 1 (tx := "the number of ticks is out of range") hC hE hX (by decide) (by decide) tw_446 tw_139 (by decide) dX6_run_12 dX6_run_15 dX6_run_16 dX6_run_18 dX6_run_21 (by decide) (by decide) ⟨by decide, by decide⟩ ⟨by decide, by decide⟩ (Nat.le_of_ble_eq_true rfl) h

def wX6_introduce (G : pm_G) (q0 : Nat) (x1 : Int32) (x2 : Int32) (x3 : Int32) (I : pm_I) (K : Int32 → pm_I → Prop) (E : Nat → pm_I → Prop) : Prop :=
  wX6_checkThreePeers G (q0) (x1) (x2) (x3) I (fun I10 => wX5_acquainted G (q0 + 18) (x1) (x2) I10 (fun r12 I11 => (r12 = 0 → E 2 I11) ∧ (¬ r12 = 0 → (wX5_acquainted G (q0 + 18) (x1) (x3) I11 (fun r14 I13 => (¬ r14 = 0 → (wX5_acquainted G (q0 + 18) (x2) (x3) I13 (fun r16 I15 => (r16 = 0 → (wX0_keep G (q0 + 86) (q0 + 18) I15 (fun I17 => wX5_acquaint G (q0 + 18) (x2) (x3) I17 (fun I18 => vp_in (x2) 8 ∧ (wJ6_bitCount_0f7a4 G (I18 (q0 + 18 + 2) (x2).toNatClampNeg) I18 (fun r20 I19 => K (r20) I19)))))) ∧ (¬ r16 = 0 → E 2 I15)))) ∧ (r14 = 0 → E 2 I13)))))) E

set_option maxRecDepth 20000 in
theorem sX6_introduce {G : pm_G} {l : Launch} (hG : pm_ok G) (hst : l.stackTraces = false) (hX : pm_exc G) (q0 : Nat) (x1 : Int32) (x2 : Int32) (x3 : Int32) (I : pm_I) (K : Int32 → pm_I → Prop) (E : Nat → pm_I → Prop) (hk0 : pm_k G q0 (.inl 6)) (h : wX6_introduce G q0 x1 x2 x3 I K E) : pm_Xt G l yX6_introduce cX6_introduce 4 (some .int) 9 466 5 30 [.ref (q0), .int (x1), .int (x2), .int (x3)] I (pm_Ki K) E := by
  unfold wX6_introduce at h
  refine pm_enterX (by decide +kernel) hst hG rfl (Nat.le_of_ble_eq_true rfl) rfl (fun X hl hC hE => ?_)
  subst hl
  have hC : pm_C G X cX6_introduce 4 RX6 (some .int) { frames := 9, cells := 5, slots := 30, locals := 466 } := hC
  refine r_aload_n 0 hC dX6_introduce_0 rfl rfl ?_
  refine r_iload_n 1 hC dX6_introduce_1 rfl rfl ?_
  refine r_iload_n 2 hC dX6_introduce_2 rfl rfl ?_
  refine r_iload_n 3 hC dX6_introduce_3 rfl rfl ?_
  refine x_call_v 4 (n := 3) (mcc := 4) (msc := 24) [.int (x1), .int (x2), .int (x3)] [] hC hE hk0 rfl dX6_introduce_4 (by decide) (by decide) tw_848 tw_129 ⟨by decide, by decide, by decide +kernel⟩ tw_845 tw_847 tw_49 rfl rfl (sX6_checkThreePeers (l := pm_l X) hG hst hX (q0) (x1) (x2) (x3) _ _ _ hk0 h) ⟨by decide, by decide⟩ ⟨by decide, by decide⟩ (Nat.le_of_ble_eq_true rfl) ?_
  clear h; intro I10 h
  show pm_R G X 4 4 24 7 [some (.ref (q0)), some (.int (x1)), some (.int (x2)), some (.int (x3))] [] I10
  refine r_aload_n 7 hC dX6_introduce_7 rfl rfl ?_
  refine r_getR6 8 (r1 := q0 + 18) hC hk0 5 (by decide) tw_367 rfl rfl dX6_introduce_8 ?_
  refine r_iload_n 11 hC dX6_introduce_11 rfl rfl ?_
  refine r_iload_n 12 hC dX6_introduce_12 rfl rfl ?_
  refine r_callVN_i 13 (n := 2) [.int (x1), .int (x2)] [] hC ((pm_s6 hG hk0).2.1) rfl dX6_introduce_13 (by decide) (by decide) tw_748 tw_132 ⟨by decide, by decide, by decide +kernel⟩ tw_745 tw_747 tw_36 rfl rfl (sX5_acquainted (l := pm_l X) hG (q0 + 18) (x1) (x2) _ _ ((pm_s6 hG hk0).2.1) h) ⟨by decide, by decide⟩ (Nat.le_of_ble_eq_true rfl) ?_
  clear h; intro r12 I11 h
  refine r_if_eq 16 31 hC dX6_introduce_16 (by decide) (fun hc => ?_) (fun hc => ?_)
  · replace h := h.1 hc
    exact x_throw 31 2 (tx := "the peer does not know both") hC hE hX (by decide) (by decide) tw_851 tw_146 (by decide) dX6_introduce_31 dX6_introduce_34 dX6_introduce_35 dX6_introduce_37 dX6_introduce_40 (by decide) (by decide) ⟨by decide, by decide⟩ ⟨by decide, by decide⟩ (Nat.le_of_ble_eq_true rfl) h
  · replace h := h.2 hc
    refine r_aload_n 19 hC dX6_introduce_19 rfl rfl ?_
    refine r_getR6 20 (r1 := q0 + 18) hC hk0 5 (by decide) tw_367 rfl rfl dX6_introduce_20 ?_
    refine r_iload_n 23 hC dX6_introduce_23 rfl rfl ?_
    refine r_iload_n 24 hC dX6_introduce_24 rfl rfl ?_
    refine r_callVN_i 25 (n := 2) [.int (x1), .int (x3)] [] hC ((pm_s6 hG hk0).2.1) rfl dX6_introduce_25 (by decide) (by decide) tw_748 tw_132 ⟨by decide, by decide, by decide +kernel⟩ tw_745 tw_747 tw_36 rfl rfl (sX5_acquainted (l := pm_l X) hG (q0 + 18) (x1) (x3) _ _ ((pm_s6 hG hk0).2.1) h) ⟨by decide, by decide⟩ (Nat.le_of_ble_eq_true rfl) ?_
    clear h; intro r14 I13 h
    refine r_if_ne 28 41 hC dX6_introduce_28 (by decide) (fun hc => ?_) (fun hc => ?_)
    · replace h := h.1 hc
      refine r_aload_n 41 hC dX6_introduce_41 rfl rfl ?_
      refine r_getR6 42 (r1 := q0 + 18) hC hk0 5 (by decide) tw_367 rfl rfl dX6_introduce_42 ?_
      refine r_iload_n 45 hC dX6_introduce_45 rfl rfl ?_
      refine r_iload_n 46 hC dX6_introduce_46 rfl rfl ?_
      refine r_callVN_i 47 (n := 2) [.int (x2), .int (x3)] [] hC ((pm_s6 hG hk0).2.1) rfl dX6_introduce_47 (by decide) (by decide) tw_748 tw_132 ⟨by decide, by decide, by decide +kernel⟩ tw_745 tw_747 tw_36 rfl rfl (sX5_acquainted (l := pm_l X) hG (q0 + 18) (x2) (x3) _ _ ((pm_s6 hG hk0).2.1) h) ⟨by decide, by decide⟩ (Nat.le_of_ble_eq_true rfl) ?_
      clear h; intro r16 I15 h
      refine r_if_eq 50 63 hC dX6_introduce_50 (by decide) (fun hc => ?_) (fun hc => ?_)
      · replace h := h.1 hc
        refine r_aload_n 63 hC dX6_introduce_63 rfl rfl ?_
        refine r_getR6 64 (r1 := q0 + 86) hC hk0 7 (by decide) tw_369 rfl rfl dX6_introduce_64 ?_
        refine r_aload_n 67 hC dX6_introduce_67 rfl rfl ?_
        refine r_getR6 68 (r1 := q0 + 18) hC hk0 5 (by decide) tw_367 rfl rfl dX6_introduce_68 ?_
        refine r_callVN_v 71 (n := 1) [.ref (q0 + 18)] [] hC ((pm_s6 hG hk0).2.2.2.1) rfl dX6_introduce_71 (by decide) (by decide) tw_1039 tw_134 ⟨by decide, by decide, by decide +kernel⟩ tw_1036 tw_1038 tw_65 rfl rfl (sX0_keep (l := pm_l X) hG (q0 + 86) (q0 + 18) _ _ ((pm_s6 hG hk0).2.2.2.1) ((pm_s6 hG hk0).2.1) h) ⟨by decide, by decide⟩ (Nat.le_of_ble_eq_true rfl) ?_
        clear h; intro I17 h
        refine r_aload_n 74 hC dX6_introduce_74 rfl rfl ?_
        refine r_getR6 75 (r1 := q0 + 18) hC hk0 5 (by decide) tw_367 rfl rfl dX6_introduce_75 ?_
        refine r_iload_n 78 hC dX6_introduce_78 rfl rfl ?_
        refine r_iload_n 79 hC dX6_introduce_79 rfl rfl ?_
        refine r_callVN_v 80 (n := 2) [.int (x2), .int (x3)] [] hC ((pm_s6 hG hk0).2.1) rfl dX6_introduce_80 (by decide) (by decide) tw_1055 tw_132 ⟨by decide, by decide, by decide +kernel⟩ tw_1052 tw_1054 tw_66 rfl rfl (sX5_acquaint (l := pm_l X) hG (q0 + 18) (x2) (x3) _ _ ((pm_s6 hG hk0).2.1) h) ⟨by decide, by decide⟩ (Nat.le_of_ble_eq_true rfl) ?_
        clear h; intro I18 h
        refine r_aload_n 83 hC dX6_introduce_83 rfl rfl ?_
        refine r_getR6 84 (r1 := q0 + 18) hC hk0 5 (by decide) tw_367 rfl rfl dX6_introduce_84 ?_
        refine r_getRN5 87 (r1 := q0 + 18 + 2) hC ((pm_s6 hG hk0).2.1) 2 (by decide) tw_331 rfl rfl dX6_introduce_87 ?_
        refine r_iload_n 90 hC dX6_introduce_90 rfl rfl ?_
        refine r_iald 91 hC ((pm_s5 hG ((pm_s6 hG hk0).2.1)).2.1) h.1 dX6_introduce_91 ?_
        replace h := h.2
        refine r_callS_i 92 (n := 1) [.int (I18 (q0 + 18 + 2) (x2).toNatClampNeg)] [] hC dX6_introduce_92 (by decide) (by decide) tw_1058 tw_149 ⟨by decide, by decide, by decide +kernel⟩ tw_1056 tw_1057 rfl rfl (sJ6_bitCount_0f7a4 (l := pm_l X) hG (I18 (q0 + 18 + 2) (x2).toNatClampNeg) _ _ h) ⟨by decide, by decide⟩ (Nat.le_of_ble_eq_true rfl) ?_
        clear h; intro r20 I19 h
        exact x_iret 95 hC hE ⟨by decide, by decide⟩ rfl dX6_introduce_95 ⟨_, rfl, h⟩
      · replace h := h.2 hc
        exact x_throw 53 2 (tx := "the two know each other already") hC hE hX (by decide) (by decide) tw_851 tw_146 (by decide) dX6_introduce_53 dX6_introduce_56 dX6_introduce_57 dX6_introduce_59 dX6_introduce_62 (by decide) (by decide) ⟨by decide, by decide⟩ ⟨by decide, by decide⟩ (Nat.le_of_ble_eq_true rfl) h
    · replace h := h.2 hc
      exact x_throw 31 2 (tx := "the peer does not know both") hC hE hX (by decide) (by decide) tw_851 tw_146 (by decide) dX6_introduce_31 dX6_introduce_34 dX6_introduce_35 dX6_introduce_37 dX6_introduce_40 (by decide) (by decide) ⟨by decide, by decide⟩ ⟨by decide, by decide⟩ (Nat.le_of_ble_eq_true rfl) h

def wX6_open (G : pm_G) (q0 : Nat) (x1 : Int32) (x2 : Int32) (I : pm_I) (K : Int32 → pm_I → Prop) (E : Nat → pm_I → Prop) : Prop :=
  wX6_checkTwoPeers G (q0) (x1) (x2) I (fun I10 => wX5_freeSession G (q0 + 18) I10 (fun r12 I11 => (¬ r12 = (-1) → (wX5_acquainted G (q0 + 18) (x1) (x2) I11 (fun r14 I13 => (¬ r14 = 0 → (wX5_findSession G (q0 + 18) (x1) (x2) I13 (fun r16 I15 => (r16 = (-1) → (wX0_keep G (q0 + 86) (q0 + 18) I15 (fun I17 => pm_k G ((I17 (q0) 3).toNatClampNeg) (.inl 1) ∧ (wX5_chooseRelay G (q0 + 18) ((I17 (q0) 3).toNatClampNeg) (x1) (x2) I17 (fun r20 I19 => vp_in (r12) 6 ∧ (wX4_begin G (q0 + 18 + 3 + 1 + 5 * (r12).toNatClampNeg) (x1) (x2) (I19 (q0 + 18) 0) (r20) I19 (fun I22 => K (r12) I22))))))) ∧ (¬ r16 = (-1) → E 2 I15)))) ∧ (r14 = 0 → E 2 I13)))) ∧ (r12 = (-1) → E 2 I11))) E

set_option maxRecDepth 20000 in
theorem sX6_open {G : pm_G} {l : Launch} (hG : pm_ok G) (hst : l.stackTraces = false) (hX : pm_exc G) (q0 : Nat) (x1 : Int32) (x2 : Int32) (I : pm_I) (K : Int32 → pm_I → Prop) (E : Nat → pm_I → Prop) (hk0 : pm_k G q0 (.inl 6)) (h : wX6_open G q0 x1 x2 I K E) : pm_Xt G l yX6_open cX6_open 5 (some .int) 9 465 4 24 [.ref (q0), .int (x1), .int (x2)] I (pm_Ki K) E := by
  unfold wX6_open at h
  refine pm_enterX (by decide +kernel) hst hG rfl (Nat.le_of_ble_eq_true rfl) rfl (fun X hl hC hE => ?_)
  subst hl
  have hC : pm_C G X cX6_open 5 RX6 (some .int) { frames := 9, cells := 4, slots := 24, locals := 465 } := hC
  refine r_aload_n 0 hC dX6_open_0 rfl rfl ?_
  refine r_iload_n 1 hC dX6_open_1 rfl rfl ?_
  refine r_iload_n 2 hC dX6_open_2 rfl rfl ?_
  refine x_call_v 3 (n := 2) (mcc := 3) (msc := 18) [.int (x1), .int (x2)] [] hC hE hk0 rfl dX6_open_3 (by decide) (by decide) tw_771 tw_129 ⟨by decide, by decide, by decide +kernel⟩ tw_768 tw_770 tw_38 rfl rfl (sX6_checkTwoPeers (l := pm_l X) hG hst hX (q0) (x1) (x2) _ _ _ hk0 h) ⟨by decide, by decide⟩ ⟨by decide, by decide⟩ (Nat.le_of_ble_eq_true rfl) ?_
  clear h; intro I10 h
  show pm_R G X 5 3 18 6 [some (.ref (q0)), some (.int (x1)), some (.int (x2)), none, none] [] I10
  refine r_aload_n 6 hC dX6_open_6 rfl rfl ?_
  refine r_getR6 7 (r1 := q0 + 18) hC hk0 5 (by decide) tw_367 rfl rfl dX6_open_7 ?_
  refine r_callVN_i 10 (n := 0) [] [] hC ((pm_s6 hG hk0).2.1) rfl dX6_open_10 (by decide) (by decide) tw_1072 tw_132 ⟨by decide, by decide, by decide +kernel⟩ tw_1069 tw_1071 tw_67 rfl rfl (sX5_freeSession (l := pm_l X) hG (q0 + 18) _ _ ((pm_s6 hG hk0).2.1) h) ⟨by decide, by decide⟩ (Nat.le_of_ble_eq_true rfl) ?_
  clear h; intro r12 I11 h
  refine r_istore_n 13 [some (.ref (q0)), some (.int (x1)), some (.int (x2)), some (.int (r12)), none] hC dX6_open_13 rfl (by decide) rfl ?_
  refine r_iload_n 14 hC dX6_open_14 rfl rfl ?_
  refine r_iconst 15 (v := -1) hC dX6_open_15 (by decide) ?_
  refine r_icmp_ne 16 29 hC dX6_open_16 (by decide) (fun hc => ?_) (fun hc => ?_)
  · replace h := h.1 hc
    refine r_aload_n 29 hC dX6_open_29 rfl rfl ?_
    refine r_getR6 30 (r1 := q0 + 18) hC hk0 5 (by decide) tw_367 rfl rfl dX6_open_30 ?_
    refine r_iload_n 33 hC dX6_open_33 rfl rfl ?_
    refine r_iload_n 34 hC dX6_open_34 rfl rfl ?_
    refine r_callVN_i 35 (n := 2) [.int (x1), .int (x2)] [] hC ((pm_s6 hG hk0).2.1) rfl dX6_open_35 (by decide) (by decide) tw_748 tw_132 ⟨by decide, by decide, by decide +kernel⟩ tw_745 tw_747 tw_36 rfl rfl (sX5_acquainted (l := pm_l X) hG (q0 + 18) (x1) (x2) _ _ ((pm_s6 hG hk0).2.1) h) ⟨by decide, by decide⟩ (Nat.le_of_ble_eq_true rfl) ?_
    clear h; intro r14 I13 h
    refine r_if_ne 38 51 hC dX6_open_38 (by decide) (fun hc => ?_) (fun hc => ?_)
    · replace h := h.1 hc
      refine r_aload_n 51 hC dX6_open_51 rfl rfl ?_
      refine r_getR6 52 (r1 := q0 + 18) hC hk0 5 (by decide) tw_367 rfl rfl dX6_open_52 ?_
      refine r_iload_n 55 hC dX6_open_55 rfl rfl ?_
      refine r_iload_n 56 hC dX6_open_56 rfl rfl ?_
      refine r_callVN_i 57 (n := 2) [.int (x1), .int (x2)] [] hC ((pm_s6 hG hk0).2.1) rfl dX6_open_57 (by decide) (by decide) tw_878 tw_132 ⟨by decide, by decide, by decide +kernel⟩ tw_875 tw_877 tw_50 rfl rfl (sX5_findSession (l := pm_l X) hG (q0 + 18) (x1) (x2) _ _ ((pm_s6 hG hk0).2.1) h) ⟨by decide, by decide⟩ (Nat.le_of_ble_eq_true rfl) ?_
      clear h; intro r16 I15 h
      refine r_iconst 60 (v := -1) hC dX6_open_60 (by decide) ?_
      refine r_icmp_eq 61 74 hC dX6_open_61 (by decide) (fun hc => ?_) (fun hc => ?_)
      · replace h := h.1 hc
        refine r_aload_n 74 hC dX6_open_74 rfl rfl ?_
        refine r_getR6 75 (r1 := q0 + 86) hC hk0 7 (by decide) tw_369 rfl rfl dX6_open_75 ?_
        refine r_aload_n 78 hC dX6_open_78 rfl rfl ?_
        refine r_getR6 79 (r1 := q0 + 18) hC hk0 5 (by decide) tw_367 rfl rfl dX6_open_79 ?_
        refine r_callVN_v 82 (n := 1) [.ref (q0 + 18)] [] hC ((pm_s6 hG hk0).2.2.2.1) rfl dX6_open_82 (by decide) (by decide) tw_1039 tw_134 ⟨by decide, by decide, by decide +kernel⟩ tw_1036 tw_1038 tw_65 rfl rfl (sX0_keep (l := pm_l X) hG (q0 + 86) (q0 + 18) _ _ ((pm_s6 hG hk0).2.2.2.1) ((pm_s6 hG hk0).2.1) h) ⟨by decide, by decide⟩ (Nat.le_of_ble_eq_true rfl) ?_
        clear h; intro I17 h
        refine r_aload_n 85 hC dX6_open_85 rfl rfl ?_
        refine r_getR6 86 (r1 := q0 + 18) hC hk0 5 (by decide) tw_367 rfl rfl dX6_open_86 ?_
        refine r_aload_n 89 hC dX6_open_89 rfl rfl ?_
        refine r_getR6 90 (r1 := (I17 (q0) 3).toNatClampNeg) hC hk0 3 (by decide) tw_365 rfl rfl dX6_open_90 ?_
        have hg18 := h.1; replace h := h.2
        refine r_iload_n 93 hC dX6_open_93 rfl rfl ?_
        refine r_iload_n 94 hC dX6_open_94 rfl rfl ?_
        refine r_callVN_i 95 (n := 3) [.ref ((I17 (q0) 3).toNatClampNeg), .int (x1), .int (x2)] [] hC ((pm_s6 hG hk0).2.1) rfl dX6_open_95 (by decide) (by decide) tw_809 tw_132 ⟨by decide, by decide, by decide +kernel⟩ tw_806 tw_808 tw_42 rfl rfl (sX5_chooseRelay (l := pm_l X) hG (q0 + 18) ((I17 (q0) 3).toNatClampNeg) (x1) (x2) _ _ ((pm_s6 hG hk0).2.1) hg18 h) ⟨by decide, by decide⟩ (Nat.le_of_ble_eq_true rfl) ?_
        clear h; intro r20 I19 h
        refine r_istore 98 [some (.ref (q0)), some (.int (x1)), some (.int (x2)), some (.int (r12)), some (.int (r20))] hC dX6_open_98 (by decide) rfl ?_
        refine r_aload_n 100 hC dX6_open_100 rfl rfl ?_
        refine r_getR6 101 (r1 := q0 + 18) hC hk0 5 (by decide) tw_367 rfl rfl dX6_open_101 ?_
        refine r_getRN5 104 (r1 := q0 + 18 + 3) hC ((pm_s6 hG hk0).2.1) 3 (by decide) tw_333 rfl rfl dX6_open_104 ?_
        refine r_iload_n 107 hC dX6_open_107 rfl rfl ?_
        have hg21 := h.1; replace h := h.2
        refine r_aald4 108 hC ((pm_s5 hG ((pm_s6 hG hk0).2.1)).2.2) hg21 dX6_open_108 ?_
        refine r_iload_n 109 hC dX6_open_109 rfl rfl ?_
        refine r_iload_n 110 hC dX6_open_110 rfl rfl ?_
        refine r_aload_n 111 hC dX6_open_111 rfl rfl ?_
        refine r_getR6 112 (r1 := q0 + 18) hC hk0 5 (by decide) tw_367 rfl rfl dX6_open_112 ?_
        refine r_getIN5 115 (x := I19 (q0 + 18) 0) hC ((pm_s6 hG hk0).2.1) 0 (by decide) tw_328 rfl rfl dX6_open_115 ?_
        refine r_iload 118 hC dX6_open_118 rfl ?_
        refine r_callVN_v 120 (n := 4) [.int (x1), .int (x2), .int (I19 (q0 + 18) 0), .int (r20)] [] hC (pm_sa4 hG ((pm_s5 hG ((pm_s6 hG hk0).2.1)).2.2) hg21) rfl dX6_open_120 (by decide) (by decide) tw_1079 tw_133 ⟨by decide, by decide, by decide +kernel⟩ tw_1076 tw_1078 tw_68 rfl rfl (sX4_begin (l := pm_l X) hG (q0 + 18 + 3 + 1 + 5 * (r12).toNatClampNeg) (x1) (x2) (I19 (q0 + 18) 0) (r20) _ _ (pm_sa4 hG ((pm_s5 hG ((pm_s6 hG hk0).2.1)).2.2) hg21) h) ⟨by decide, by decide⟩ (Nat.le_of_ble_eq_true rfl) ?_
        clear h; intro I22 h
        refine r_iload_n 123 hC dX6_open_123 rfl rfl ?_
        exact x_iret 124 hC hE ⟨by decide, by decide⟩ rfl dX6_open_124 ⟨_, rfl, h⟩
      · replace h := h.2 hc
        exact x_throw 64 2 (tx := "there is such a session already") hC hE hX (by decide) (by decide) tw_851 tw_146 (by decide) dX6_open_64 dX6_open_67 dX6_open_68 dX6_open_70 dX6_open_73 (by decide) (by decide) ⟨by decide, by decide⟩ ⟨by decide, by decide⟩ (Nat.le_of_ble_eq_true rfl) h
    · replace h := h.2 hc
      exact x_throw 41 2 (tx := "the two don't know each other") hC hE hX (by decide) (by decide) tw_851 tw_146 (by decide) dX6_open_41 dX6_open_44 dX6_open_45 dX6_open_47 dX6_open_50 (by decide) (by decide) ⟨by decide, by decide⟩ ⟨by decide, by decide⟩ (Nat.le_of_ble_eq_true rfl) h
  · replace h := h.2 hc
    exact x_throw 19 2 (tx := "all sessions are open") hC hE hX (by decide) (by decide) tw_851 tw_146 (by decide) dX6_open_19 dX6_open_22 dX6_open_23 dX6_open_25 dX6_open_28 (by decide) (by decide) ⟨by decide, by decide⟩ ⟨by decide, by decide⟩ (Nat.le_of_ble_eq_true rfl) h

def wX6_send (G : pm_G) (q0 : Nat) (x1 : Int32) (x2 : Int32) (I : pm_I) (K : Int32 → pm_I → Prop) (E : Nat → pm_I → Prop) : Prop :=
  wX6_openSession G (q0) (x1) I (fun r11 I10 => pm_k G r11 (.inl 4) ∧ ((((I10 r11 7) - (I10 r11 8)) < 24 → (wX0_keep G (q0 + 86) (q0 + 18) I10 (fun I13 => pm_k G ((I13 (q0) 3).toNatClampNeg) (.inl 1) ∧ (pm_k G ((I13 (q0) 3).toNatClampNeg) (.inl 1) ∧ (wX1_delayAlong G ((I13 (q0) 3).toNatClampNeg) (r11) I13 (fun r17 I16 => wX4_addMessage G (r11) (x2) (I13 ((I13 (q0) 3).toNatClampNeg) 8) ((I13 (q0 + 18) 0) + r17) I16 (fun r19 I18 => K (r19) I18))))))) ∧ (¬ ((I10 r11 7) - (I10 r11 8)) < 24 → E 2 I10))) E

set_option maxRecDepth 20000 in
theorem sX6_send {G : pm_G} {l : Launch} (hG : pm_ok G) (hst : l.stackTraces = false) (hX : pm_exc G) (q0 : Nat) (x1 : Int32) (x2 : Int32) (I : pm_I) (K : Int32 → pm_I → Prop) (E : Nat → pm_I → Prop) (hk0 : pm_k G q0 (.inl 6)) (h : wX6_send G q0 x1 x2 I K E) : pm_Xt G l yX6_send cX6_send 4 (some .int) 7 359 2 12 [.ref (q0), .int (x1), .int (x2)] I (pm_Ki K) E := by
  unfold wX6_send at h
  refine pm_enterX (by decide +kernel) hst hG rfl (Nat.le_of_ble_eq_true rfl) rfl (fun X hl hC hE => ?_)
  subst hl
  have hC : pm_C G X cX6_send 4 RX6 (some .int) { frames := 7, cells := 2, slots := 12, locals := 359 } := hC
  refine r_aload_n 0 hC dX6_send_0 rfl rfl ?_
  refine r_iload_n 1 hC dX6_send_1 rfl rfl ?_
  refine x_call_r 2 (n := 1) (mcc := 1) (msc := 6) [.int (x1)] [] hC hE hk0 rfl dX6_send_2 (by decide) (by decide) tw_889 tw_129 ⟨by decide, by decide, by decide +kernel⟩ tw_886 tw_888 tw_51 rfl rfl (sX6_openSession (l := pm_l X) hG hst hX (q0) (x1) _ _ _ hk0 h) ⟨by decide, by decide⟩ ⟨by decide, by decide⟩ (Nat.le_of_ble_eq_true rfl) ?_
  clear h; intro r11 I10 h
  have hg12 := h.1; replace h := h.2
  show pm_R G X 4 1 6 5 [some (.ref (q0)), some (.int (x1)), some (.int (x2)), none] [.ref (r11)] I10
  refine r_astore_n 5 [some (.ref (q0)), some (.int (x1)), some (.int (x2)), some (.ref (r11))] hC dX6_send_5 rfl (by decide) rfl ?_
  refine r_aload_n 6 hC dX6_send_6 rfl rfl ?_
  refine r_getIN4 7 (x := I10 (r11) 7) hC hg12 7 (by decide) tw_277 rfl rfl dX6_send_7 ?_
  refine r_aload_n 10 hC dX6_send_10 rfl rfl ?_
  refine r_getIN4 11 (x := I10 (r11) 8) hC hg12 8 (by decide) tw_279 rfl rfl dX6_send_11 ?_
  refine r_isub 14 hC dX6_send_14 ?_
  refine r_bipush 15 (v := 24) hC dX6_send_15 (by decide) ?_
  refine r_icmp_lt 17 30 hC dX6_send_17 (by decide) (fun hc => ?_) (fun hc => ?_)
  · replace h := h.1 hc
    refine r_aload_n 30 hC dX6_send_30 rfl rfl ?_
    refine r_getR6 31 (r1 := q0 + 86) hC hk0 7 (by decide) tw_369 rfl rfl dX6_send_31 ?_
    refine r_aload_n 34 hC dX6_send_34 rfl rfl ?_
    refine r_getR6 35 (r1 := q0 + 18) hC hk0 5 (by decide) tw_367 rfl rfl dX6_send_35 ?_
    refine r_callVN_v 38 (n := 1) [.ref (q0 + 18)] [] hC ((pm_s6 hG hk0).2.2.2.1) rfl dX6_send_38 (by decide) (by decide) tw_1039 tw_134 ⟨by decide, by decide, by decide +kernel⟩ tw_1036 tw_1038 tw_65 rfl rfl (sX0_keep (l := pm_l X) hG (q0 + 86) (q0 + 18) _ _ ((pm_s6 hG hk0).2.2.2.1) ((pm_s6 hG hk0).2.1) h) ⟨by decide, by decide⟩ (Nat.le_of_ble_eq_true rfl) ?_
    clear h; intro I13 h
    refine r_aload_n 41 hC dX6_send_41 rfl rfl ?_
    refine r_iload_n 42 hC dX6_send_42 rfl rfl ?_
    refine r_aload_n 43 hC dX6_send_43 rfl rfl ?_
    refine r_getR6 44 (r1 := (I13 (q0) 3).toNatClampNeg) hC hk0 3 (by decide) tw_365 rfl rfl dX6_send_44 ?_
    have hg14 := h.1; replace h := h.2
    refine r_getIN1 47 (x := I13 ((I13 (q0) 3).toNatClampNeg) 8) hC hg14 8 (by decide) tw_222 rfl rfl dX6_send_47 ?_
    refine r_aload_n 50 hC dX6_send_50 rfl rfl ?_
    refine r_getR6 51 (r1 := q0 + 18) hC hk0 5 (by decide) tw_367 rfl rfl dX6_send_51 ?_
    refine r_getIN5 54 (x := I13 (q0 + 18) 0) hC ((pm_s6 hG hk0).2.1) 0 (by decide) tw_328 rfl rfl dX6_send_54 ?_
    refine r_aload_n 57 hC dX6_send_57 rfl rfl ?_
    refine r_getR6 58 (r1 := (I13 (q0) 3).toNatClampNeg) hC hk0 3 (by decide) tw_365 rfl rfl dX6_send_58 ?_
    have hg15 := h.1; replace h := h.2
    refine r_aload_n 61 hC dX6_send_61 rfl rfl ?_
    refine r_callVN_i 62 (n := 1) [.ref (r11)] [.int (I13 (q0 + 18) 0), .int (I13 ((I13 (q0) 3).toNatClampNeg) 8), .int (x2), .ref (r11)] hC hg15 rfl dX6_send_62 (by decide) (by decide) tw_1005 tw_130 ⟨by decide, by decide, by decide +kernel⟩ tw_1088 tw_1004 tw_61 rfl rfl (sX1_delayAlong (l := pm_l X) hG ((I13 (q0) 3).toNatClampNeg) (r11) _ _ hg15 hg12 h) ⟨by decide, by decide⟩ (Nat.le_of_ble_eq_true rfl) ?_
    clear h; intro r17 I16 h
    refine r_iadd 65 hC dX6_send_65 ?_
    refine r_callVN_i 66 (n := 3) [.int (x2), .int (I13 ((I13 (q0) 3).toNatClampNeg) 8), .int ((I13 (q0 + 18) 0) + r17)] [] hC hg12 rfl dX6_send_66 (by decide) (by decide) tw_1092 tw_133 ⟨by decide, by decide, by decide +kernel⟩ tw_1089 tw_1091 tw_69 rfl rfl (sX4_addMessage (l := pm_l X) hG (r11) (x2) (I13 ((I13 (q0) 3).toNatClampNeg) 8) ((I13 (q0 + 18) 0) + r17) _ _ hg12 h) ⟨by decide, by decide⟩ (Nat.le_of_ble_eq_true rfl) ?_
    clear h; intro r19 I18 h
    exact x_iret 69 hC hE ⟨by decide, by decide⟩ rfl dX6_send_69 ⟨_, rfl, h⟩
  · replace h := h.2 hc
    exact x_throw 20 2 (tx := "too many messages are not delivered") hC hE hX (by decide) (by decide) tw_851 tw_146 (by decide) dX6_send_20 dX6_send_23 dX6_send_24 dX6_send_26 dX6_send_29 (by decide) (by decide) ⟨by decide, by decide⟩ ⟨by decide, by decide⟩ (Nat.le_of_ble_eq_true rfl) h

def wX6_setLink (G : pm_G) (q0 : Nat) (x1 : Int32) (x2 : Int32) (x3 : Int32) (I : pm_I) (K : Int32 → pm_I → Prop) (E : Nat → pm_I → Prop) : Prop :=
  wX6_checkTwoPeers G (q0) (x1) (x2) I (fun I10 => pm_k G ((I10 (q0) 3).toNatClampNeg) (.inl 1) ∧ (wX1_delayBetween G ((I10 (q0) 3).toNatClampNeg) (x1) (x2) I10 (fun r13 I12 => (¬ r13 = 0 → (wX5_linkIsUp G (q0 + 18) (x1) (x2) I12 (fun r15 I14 => (¬ r15 = x3 → (wX0_keep G (q0 + 86) (q0 + 18) I14 (fun I16 => wX5_turnLink G (q0 + 18) (x1) (x2) I16 (fun I17 => (x3 = 0 → (pm_k G ((I17 (q0) 3).toNatClampNeg) (.inl 1) ∧ (wX5_leaveLink G (q0 + 18) ((I17 (q0) 3).toNatClampNeg) (x1) (x2) I17 (fun r20 I19 => K (r20) I19)))) ∧ (¬ x3 = 0 → (K (0) I17)))))) ∧ (r15 = x3 → E 2 I14)))) ∧ (r13 = 0 → E 2 I12)))) E

set_option maxRecDepth 20000 in
theorem sX6_setLink {G : pm_G} {l : Launch} (hG : pm_ok G) (hst : l.stackTraces = false) (hX : pm_exc G) (q0 : Nat) (x1 : Int32) (x2 : Int32) (x3 : Int32) (I : pm_I) (K : Int32 → pm_I → Prop) (E : Nat → pm_I → Prop) (hk0 : pm_k G q0 (.inl 6)) (h : wX6_setLink G q0 x1 x2 x3 I K E) : pm_Xt G l yX6_setLink cX6_setLink 4 (some .int) 9 635 4 24 [.ref (q0), .int (x1), .int (x2), .int (x3)] I (pm_Ki K) E := by
  unfold wX6_setLink at h
  refine pm_enterX (by decide +kernel) hst hG rfl (Nat.le_of_ble_eq_true rfl) rfl (fun X hl hC hE => ?_)
  subst hl
  have hC : pm_C G X cX6_setLink 4 RX6 (some .int) { frames := 9, cells := 4, slots := 24, locals := 635 } := hC
  refine r_aload_n 0 hC dX6_setLink_0 rfl rfl ?_
  refine r_iload_n 1 hC dX6_setLink_1 rfl rfl ?_
  refine r_iload_n 2 hC dX6_setLink_2 rfl rfl ?_
  refine x_call_v 3 (n := 2) (mcc := 3) (msc := 18) [.int (x1), .int (x2)] [] hC hE hk0 rfl dX6_setLink_3 (by decide) (by decide) tw_771 tw_129 ⟨by decide, by decide, by decide +kernel⟩ tw_768 tw_770 tw_38 rfl rfl (sX6_checkTwoPeers (l := pm_l X) hG hst hX (q0) (x1) (x2) _ _ _ hk0 h) ⟨by decide, by decide⟩ ⟨by decide, by decide⟩ (Nat.le_of_ble_eq_true rfl) ?_
  clear h; intro I10 h
  show pm_R G X 4 3 18 6 [some (.ref (q0)), some (.int (x1)), some (.int (x2)), some (.int (x3))] [] I10
  refine r_aload_n 6 hC dX6_setLink_6 rfl rfl ?_
  refine r_getR6 7 (r1 := (I10 (q0) 3).toNatClampNeg) hC hk0 3 (by decide) tw_365 rfl rfl dX6_setLink_7 ?_
  have hg11 := h.1; replace h := h.2
  refine r_iload_n 10 hC dX6_setLink_10 rfl rfl ?_
  refine r_iload_n 11 hC dX6_setLink_11 rfl rfl ?_
  refine r_callVN_i 12 (n := 2) [.int (x1), .int (x2)] [] hC hg11 rfl dX6_setLink_12 (by decide) (by decide) tw_708 tw_130 ⟨by decide, by decide, by decide +kernel⟩ tw_760 tw_707 tw_32 rfl rfl (sX1_delayBetween (l := pm_l X) hG ((I10 (q0) 3).toNatClampNeg) (x1) (x2) _ _ hg11 h) ⟨by decide, by decide⟩ (Nat.le_of_ble_eq_true rfl) ?_
  clear h; intro r13 I12 h
  refine r_if_ne 15 28 hC dX6_setLink_15 (by decide) (fun hc => ?_) (fun hc => ?_)
  · replace h := h.1 hc
    refine r_aload_n 28 hC dX6_setLink_28 rfl rfl ?_
    refine r_getR6 29 (r1 := q0 + 18) hC hk0 5 (by decide) tw_367 rfl rfl dX6_setLink_29 ?_
    refine r_iload_n 32 hC dX6_setLink_32 rfl rfl ?_
    refine r_iload_n 33 hC dX6_setLink_33 rfl rfl ?_
    refine r_callVN_i 34 (n := 2) [.int (x1), .int (x2)] [] hC ((pm_s6 hG hk0).2.1) rfl dX6_setLink_34 (by decide) (by decide) tw_759 tw_132 ⟨by decide, by decide, by decide +kernel⟩ tw_756 tw_758 tw_37 rfl rfl (sX5_linkIsUp (l := pm_l X) hG (q0 + 18) (x1) (x2) _ _ ((pm_s6 hG hk0).2.1) h) ⟨by decide, by decide⟩ (Nat.le_of_ble_eq_true rfl) ?_
    clear h; intro r15 I14 h
    refine r_iload_n 37 hC dX6_setLink_37 rfl rfl ?_
    refine r_icmp_ne 38 51 hC dX6_setLink_38 (by decide) (fun hc => ?_) (fun hc => ?_)
    · replace h := h.1 hc
      refine r_aload_n 51 hC dX6_setLink_51 rfl rfl ?_
      refine r_getR6 52 (r1 := q0 + 86) hC hk0 7 (by decide) tw_369 rfl rfl dX6_setLink_52 ?_
      refine r_aload_n 55 hC dX6_setLink_55 rfl rfl ?_
      refine r_getR6 56 (r1 := q0 + 18) hC hk0 5 (by decide) tw_367 rfl rfl dX6_setLink_56 ?_
      refine r_callVN_v 59 (n := 1) [.ref (q0 + 18)] [] hC ((pm_s6 hG hk0).2.2.2.1) rfl dX6_setLink_59 (by decide) (by decide) tw_1039 tw_134 ⟨by decide, by decide, by decide +kernel⟩ tw_1036 tw_1038 tw_65 rfl rfl (sX0_keep (l := pm_l X) hG (q0 + 86) (q0 + 18) _ _ ((pm_s6 hG hk0).2.2.2.1) ((pm_s6 hG hk0).2.1) h) ⟨by decide, by decide⟩ (Nat.le_of_ble_eq_true rfl) ?_
      clear h; intro I16 h
      refine r_aload_n 62 hC dX6_setLink_62 rfl rfl ?_
      refine r_getR6 63 (r1 := q0 + 18) hC hk0 5 (by decide) tw_367 rfl rfl dX6_setLink_63 ?_
      refine r_iload_n 66 hC dX6_setLink_66 rfl rfl ?_
      refine r_iload_n 67 hC dX6_setLink_67 rfl rfl ?_
      refine r_callVN_v 68 (n := 2) [.int (x1), .int (x2)] [] hC ((pm_s6 hG hk0).2.1) rfl dX6_setLink_68 (by decide) (by decide) tw_1105 tw_132 ⟨by decide, by decide, by decide +kernel⟩ tw_1102 tw_1104 tw_70 rfl rfl (sX5_turnLink (l := pm_l X) hG (q0 + 18) (x1) (x2) _ _ ((pm_s6 hG hk0).2.1) h) ⟨by decide, by decide⟩ (Nat.le_of_ble_eq_true rfl) ?_
      clear h; intro I17 h
      refine r_iload_n 71 hC dX6_setLink_71 rfl rfl ?_
      refine r_if_eq 72 79 hC dX6_setLink_72 (by decide) (fun hc => ?_) (fun hc => ?_)
      · replace h := h.1 hc
        refine r_aload_n 79 hC dX6_setLink_79 rfl rfl ?_
        refine r_getR6 80 (r1 := q0 + 18) hC hk0 5 (by decide) tw_367 rfl rfl dX6_setLink_80 ?_
        refine r_aload_n 83 hC dX6_setLink_83 rfl rfl ?_
        refine r_getR6 84 (r1 := (I17 (q0) 3).toNatClampNeg) hC hk0 3 (by decide) tw_365 rfl rfl dX6_setLink_84 ?_
        have hg18 := h.1; replace h := h.2
        refine r_iload_n 87 hC dX6_setLink_87 rfl rfl ?_
        refine r_iload_n 88 hC dX6_setLink_88 rfl rfl ?_
        refine r_callVN_i 89 (n := 3) [.ref ((I17 (q0) 3).toNatClampNeg), .int (x1), .int (x2)] [] hC ((pm_s6 hG hk0).2.1) rfl dX6_setLink_89 (by decide) (by decide) tw_1109 tw_132 ⟨by decide, by decide, by decide +kernel⟩ tw_1106 tw_1108 tw_71 rfl rfl (sX5_leaveLink (l := pm_l X) hG (q0 + 18) ((I17 (q0) 3).toNatClampNeg) (x1) (x2) _ _ ((pm_s6 hG hk0).2.1) hg18 h) ⟨by decide, by decide⟩ (Nat.le_of_ble_eq_true rfl) ?_
        clear h; intro r20 I19 h
        exact x_iret 92 hC hE ⟨by decide, by decide⟩ rfl dX6_setLink_92 ⟨_, rfl, h⟩
      · replace h := h.2 hc
        refine r_iconst 75 (v := 0) hC dX6_setLink_75 (by decide) ?_
        refine r_goto 76 92 hC dX6_setLink_76 (by decide) ?_
        exact x_iret 92 hC hE ⟨by decide, by decide⟩ rfl dX6_setLink_92 ⟨_, rfl, h⟩
    · replace h := h.2 hc
      exact x_throw 41 2 (tx := "the link is so already") hC hE hX (by decide) (by decide) tw_851 tw_146 (by decide) dX6_setLink_41 dX6_setLink_44 dX6_setLink_45 dX6_setLink_47 dX6_setLink_50 (by decide) (by decide) ⟨by decide, by decide⟩ ⟨by decide, by decide⟩ (Nat.le_of_ble_eq_true rfl) h
  · replace h := h.2 hc
    exact x_throw 18 2 (tx := "there is no such link") hC hE hX (by decide) (by decide) tw_851 tw_146 (by decide) dX6_setLink_18 dX6_setLink_21 dX6_setLink_22 dX6_setLink_24 dX6_setLink_27 (by decide) (by decide) ⟨by decide, by decide⟩ ⟨by decide, by decide⟩ (Nat.le_of_ble_eq_true rfl) h

def wX6_close (G : pm_G) (q0 : Nat) (x1 : Int32) (I : pm_I) (K : Int32 → pm_I → Prop) (E : Nat → pm_I → Prop) : Prop :=
  wX6_openSession G (q0) (x1) I (fun r11 I10 => pm_k G r11 (.inl 4) ∧ (((I10 r11 8) = (I10 r11 7) → (wX0_keep G (q0 + 86) (q0 + 18) I10 (fun I13 => ∀ I14 : pm_I, I14 = pm_up I13 (r11) 0 (0) → (K (I14 (r11) 7) I14)))) ∧ (¬ (I10 r11 8) = (I10 r11 7) → E 2 I10))) E

set_option maxRecDepth 20000 in
theorem sX6_close {G : pm_G} {l : Launch} (hG : pm_ok G) (hst : l.stackTraces = false) (hX : pm_exc G) (q0 : Nat) (x1 : Int32) (I : pm_I) (K : Int32 → pm_I → Prop) (E : Nat → pm_I → Prop) (hk0 : pm_k G q0 (.inl 6)) (h : wX6_close G q0 x1 I K E) : pm_Xt G l yX6_close cX6_close 3 (some .int) 7 356 2 12 [.ref (q0), .int (x1)] I (pm_Ki K) E := by
  unfold wX6_close at h
  refine pm_enterX (by decide +kernel) hst hG rfl (Nat.le_of_ble_eq_true rfl) rfl (fun X hl hC hE => ?_)
  subst hl
  have hC : pm_C G X cX6_close 3 RX6 (some .int) { frames := 7, cells := 2, slots := 12, locals := 356 } := hC
  refine r_aload_n 0 hC dX6_close_0 rfl rfl ?_
  refine r_iload_n 1 hC dX6_close_1 rfl rfl ?_
  refine x_call_r 2 (n := 1) (mcc := 1) (msc := 6) [.int (x1)] [] hC hE hk0 rfl dX6_close_2 (by decide) (by decide) tw_889 tw_129 ⟨by decide, by decide, by decide +kernel⟩ tw_886 tw_888 tw_51 rfl rfl (sX6_openSession (l := pm_l X) hG hst hX (q0) (x1) _ _ _ hk0 h) ⟨by decide, by decide⟩ ⟨by decide, by decide⟩ (Nat.le_of_ble_eq_true rfl) ?_
  clear h; intro r11 I10 h
  have hg12 := h.1; replace h := h.2
  show pm_R G X 3 1 6 5 [some (.ref (q0)), some (.int (x1)), none] [.ref (r11)] I10
  refine r_astore_n 5 [some (.ref (q0)), some (.int (x1)), some (.ref (r11))] hC dX6_close_5 rfl (by decide) rfl ?_
  refine r_aload_n 6 hC dX6_close_6 rfl rfl ?_
  refine r_getIN4 7 (x := I10 (r11) 8) hC hg12 8 (by decide) tw_279 rfl rfl dX6_close_7 ?_
  refine r_aload_n 10 hC dX6_close_10 rfl rfl ?_
  refine r_getIN4 11 (x := I10 (r11) 7) hC hg12 7 (by decide) tw_277 rfl rfl dX6_close_11 ?_
  refine r_icmp_eq 14 27 hC dX6_close_14 (by decide) (fun hc => ?_) (fun hc => ?_)
  · replace h := h.1 hc
    refine r_aload_n 27 hC dX6_close_27 rfl rfl ?_
    refine r_getR6 28 (r1 := q0 + 86) hC hk0 7 (by decide) tw_369 rfl rfl dX6_close_28 ?_
    refine r_aload_n 31 hC dX6_close_31 rfl rfl ?_
    refine r_getR6 32 (r1 := q0 + 18) hC hk0 5 (by decide) tw_367 rfl rfl dX6_close_32 ?_
    refine r_callVN_v 35 (n := 1) [.ref (q0 + 18)] [] hC ((pm_s6 hG hk0).2.2.2.1) rfl dX6_close_35 (by decide) (by decide) tw_1039 tw_134 ⟨by decide, by decide, by decide +kernel⟩ tw_1036 tw_1038 tw_65 rfl rfl (sX0_keep (l := pm_l X) hG (q0 + 86) (q0 + 18) _ _ ((pm_s6 hG hk0).2.2.2.1) ((pm_s6 hG hk0).2.1) h) ⟨by decide, by decide⟩ (Nat.le_of_ble_eq_true rfl) ?_
    clear h; intro I13 h
    refine r_aload_n 38 hC dX6_close_38 rfl rfl ?_
    refine r_iconst 39 (v := 0) hC dX6_close_39 (by decide) ?_
    refine r_putZN4 40 hC hg12 tw_257 (Or.inl rfl) dX6_close_40 (fun I14 hI => ?_)
    replace h := h I14 hI; clear hI
    refine r_aload_n 43 hC dX6_close_43 rfl rfl ?_
    refine r_getIN4 44 (x := I14 (r11) 7) hC hg12 7 (by decide) tw_277 rfl rfl dX6_close_44 ?_
    exact x_iret 47 hC hE ⟨by decide, by decide⟩ rfl dX6_close_47 ⟨_, rfl, h⟩
  · replace h := h.2 hc
    exact x_throw 17 2 (tx := "a message has not been delivered") hC hE hX (by decide) (by decide) tw_851 tw_146 (by decide) dX6_close_17 dX6_close_20 dX6_close_21 dX6_close_23 dX6_close_26 (by decide) (by decide) ⟨by decide, by decide⟩ ⟨by decide, by decide⟩ (Nat.le_of_ble_eq_true rfl) h

def wX6_undo (G : pm_G) (q0 : Nat) (I : pm_I) (K : Int32 → pm_I → Prop) : Prop :=
  wX0_takeBack G (q0 + 86) (q0 + 18) I (fun r11 I10 => K (r11) I10)

set_option maxRecDepth 20000 in
theorem sX6_undo {G : pm_G} {l : Launch} (hG : pm_ok G) (q0 : Nat) (I : pm_I) (K : Int32 → pm_I → Prop) (hk0 : pm_k G q0 (.inl 6)) (h : wX6_undo G q0 I K) : pm_Ct G l yX6_undo cX6_undo 1 (some .int) { frames := 4, cells := 0, slots := 0, locals := 320 } [.ref (q0)] I (pm_Ki K) := by
  unfold wX6_undo at h
  refine pm_enter (by decide +kernel) hG rfl (Nat.le_of_ble_eq_true rfl) rfl (fun X hl hC hE => ?_)
  subst hl
  have hab : 0 ≤ 0 ∧ 0 ≤ 0 := ⟨Nat.le_refl 0, Nat.le_refl 0⟩
  have hC : pm_C G X cX6_undo 1 RX6 (some .int) { frames := 4, cells := 0, slots := 0, locals := 320 } := hC
  refine r_aload_n 0 hC dX6_undo_0 rfl rfl ?_
  refine r_getR6 1 (r1 := q0 + 86) hC hk0 7 (by decide) tw_369 rfl rfl dX6_undo_1 ?_
  refine r_aload_n 4 hC dX6_undo_4 rfl rfl ?_
  refine r_getR6 5 (r1 := q0 + 18) hC hk0 5 (by decide) tw_367 rfl rfl dX6_undo_5 ?_
  refine r_callVN_i 8 (n := 1) [.ref (q0 + 18)] [] hC ((pm_s6 hG hk0).2.2.2.1) rfl dX6_undo_8 (by decide) (by decide) tw_425 tw_134 ⟨by decide, by decide, by decide +kernel⟩ tw_422 tw_424 tw_5 rfl rfl (sX0_takeBack (l := pm_l X) hG (q0 + 86) (q0 + 18) _ _ ((pm_s6 hG hk0).2.2.2.1) ((pm_s6 hG hk0).2.1) h) hab (Nat.le_of_ble_eq_true rfl) ?_
  clear h; intro r11 I10 h
  exact r_iret 11 hC hE rfl dX6_undo_11 ⟨_, rfl, h⟩

def wX6_checkSlot (G : pm_G) (q0 : Nat) (x1 : Int32) (I : pm_I) (K : pm_I → Prop) (E : Nat → pm_I → Prop) : Prop :=
  (x1 < 0 → E 3 I) ∧ (¬ x1 < 0 → ((x1 < 2 → K I) ∧ (¬ x1 < 2 → E 3 I)))

set_option maxRecDepth 20000 in
theorem sX6_checkSlot {G : pm_G} {l : Launch} (hG : pm_ok G) (hst : l.stackTraces = false) (hX : pm_exc G) (q0 : Nat) (x1 : Int32) (I : pm_I) (K : pm_I → Prop) (E : Nat → pm_I → Prop) (hk0 : pm_k G q0 (.inl 6)) (h : wX6_checkSlot G q0 x1 I K E) : pm_Xt G l yX6_checkSlot cX6_checkSlot 2 none 6 100 1 6 [.ref (q0), .int (x1)] I (pm_Kv K) E := by
  unfold wX6_checkSlot at h
  refine pm_enterX (by decide +kernel) hst hG rfl (Nat.le_of_ble_eq_true rfl) rfl (fun X hl hC hE => ?_)
  subst hl
  have hC : pm_C G X cX6_checkSlot 2 RX6 none { frames := 6, cells := 1, slots := 6, locals := 100 } := hC
  refine r_iload_n 0 hC dX6_checkSlot_0 rfl rfl ?_
  refine r_if_lt 1 9 hC dX6_checkSlot_1 (by decide) (fun hc => ?_) (fun hc => ?_)
  · replace h := h.1 hc
    exact x_throwW 9 3 (tx := "there is no such slot") hC hE hX (by decide) (by decide) tw_729 tw_145 (by decide) dX6_checkSlot_9 dX6_checkSlot_12 dX6_checkSlot_13 dX6_checkSlot_16 dX6_checkSlot_19 (by decide) (by decide) ⟨by decide, by decide⟩ ⟨by decide, by decide⟩ (Nat.le_of_ble_eq_true rfl) h
  · replace h := h.2 hc
    refine r_iload_n 4 hC dX6_checkSlot_4 rfl rfl ?_
    refine r_iconst 5 (v := 2) hC dX6_checkSlot_5 (by decide) ?_
    refine r_icmp_lt 6 20 hC dX6_checkSlot_6 (by decide) (fun hc => ?_) (fun hc => ?_)
    · replace h := h.1 hc
      exact x_vret 20 hC hE ⟨by decide, by decide⟩ dX6_checkSlot_20 ⟨rfl, h⟩
    · replace h := h.2 hc
      exact x_throwW 9 3 (tx := "there is no such slot") hC hE hX (by decide) (by decide) tw_729 tw_145 (by decide) dX6_checkSlot_9 dX6_checkSlot_12 dX6_checkSlot_13 dX6_checkSlot_16 dX6_checkSlot_19 (by decide) (by decide) ⟨by decide, by decide⟩ ⟨by decide, by decide⟩ (Nat.le_of_ble_eq_true rfl) h

def wX6_saveSnapshot (G : pm_G) (q0 : Nat) (x1 : Int32) (I : pm_I) (K : Int32 → pm_I → Prop) (E : Nat → pm_I → Prop) : Prop :=
  wX6_checkSlot G (q0) (x1) I (fun I10 => vp_in (x1) 2 ∧ (vp_in (x1) 2 ∧ (wX5_copyFrom G (q0 + 428 + 1 + 34 * (x1).toNatClampNeg) (q0 + 18) I10 (fun I12 => vp_in (x1) 2 ∧ (∀ I13 : pm_I, I13 = pm_up I12 (q0 + 497) ((x1).toNatClampNeg) (vp_nar .boolean (1)) → (((I10 (q0 + 497) (x1).toNatClampNeg) = 0 ∨ (I10 (q0 + 497) (x1).toNatClampNeg) = 1) ∧ K (I10 (q0 + 497) (x1).toNatClampNeg) I13)))))) E

set_option maxRecDepth 20000 in
theorem sX6_saveSnapshot {G : pm_G} {l : Launch} (hG : pm_ok G) (hst : l.stackTraces = false) (hX : pm_exc G) (q0 : Nat) (x1 : Int32) (I : pm_I) (K : Int32 → pm_I → Prop) (E : Nat → pm_I → Prop) (hk0 : pm_k G q0 (.inl 6)) (h : wX6_saveSnapshot G q0 x1 I K E) : pm_Xt G l yX6_saveSnapshot cX6_saveSnapshot 3 (some .boolean) 7 271 1 6 [.ref (q0), .int (x1)] I (pm_Ki K) E := by
  unfold wX6_saveSnapshot at h
  refine pm_enterX (by decide +kernel) hst hG rfl (Nat.le_of_ble_eq_true rfl) rfl (fun X hl hC hE => ?_)
  subst hl
  have hC : pm_C G X cX6_saveSnapshot 3 RX6 (some .boolean) { frames := 7, cells := 1, slots := 6, locals := 271 } := hC
  refine r_aload_n 0 hC dX6_saveSnapshot_0 rfl rfl ?_
  refine r_iload_n 1 hC dX6_saveSnapshot_1 rfl rfl ?_
  refine x_call_v 2 (n := 1) (mcc := 1) (msc := 6) [.int (x1)] [] hC hE hk0 rfl dX6_saveSnapshot_2 (by decide) (by decide) tw_1144 tw_129 ⟨by decide, by decide, by decide +kernel⟩ tw_1141 tw_1143 tw_75 rfl rfl (sX6_checkSlot (l := pm_l X) hG hst hX (q0) (x1) _ _ _ hk0 h) ⟨by decide, by decide⟩ ⟨by decide, by decide⟩ (Nat.le_of_ble_eq_true rfl) ?_
  clear h; intro I10 h
  show pm_R G X 3 1 6 5 [some (.ref (q0)), some (.int (x1)), none] [] I10
  refine r_aload_n 5 hC dX6_saveSnapshot_5 rfl rfl ?_
  refine r_getR6 6 (r1 := q0 + 497) hC hk0 9 (by decide) tw_371 rfl rfl dX6_saveSnapshot_6 ?_
  refine r_iload_n 9 hC dX6_saveSnapshot_9 rfl rfl ?_
  refine r_zald 10 hC ((pm_s6 hG hk0).2.2.2.2.2) h.1 dX6_saveSnapshot_10 ?_
  replace h := h.2
  refine r_istore_n 11 [some (.ref (q0)), some (.int (x1)), some (.int (I10 (q0 + 497) (x1).toNatClampNeg))] hC dX6_saveSnapshot_11 rfl (by decide) rfl ?_
  refine r_aload_n 12 hC dX6_saveSnapshot_12 rfl rfl ?_
  refine r_getR6 13 (r1 := q0 + 428) hC hk0 8 (by decide) tw_370 rfl rfl dX6_saveSnapshot_13 ?_
  refine r_iload_n 16 hC dX6_saveSnapshot_16 rfl rfl ?_
  have hg11 := h.1; replace h := h.2
  refine r_aald5 17 hC ((pm_s6 hG hk0).2.2.2.2.1) hg11 dX6_saveSnapshot_17 ?_
  refine r_aload_n 18 hC dX6_saveSnapshot_18 rfl rfl ?_
  refine r_getR6 19 (r1 := q0 + 18) hC hk0 5 (by decide) tw_367 rfl rfl dX6_saveSnapshot_19 ?_
  refine r_callVN_v 22 (n := 1) [.ref (q0 + 18)] [] hC (pm_sa5 hG ((pm_s6 hG hk0).2.2.2.2.1) hg11) rfl dX6_saveSnapshot_22 (by decide) (by decide) tw_429 tw_132 ⟨by decide, by decide, by decide +kernel⟩ tw_977 tw_428 tw_6 rfl rfl (sX5_copyFrom (l := pm_l X) hG (q0 + 428 + 1 + 34 * (x1).toNatClampNeg) (q0 + 18) _ _ (pm_sa5 hG ((pm_s6 hG hk0).2.2.2.2.1) hg11) ((pm_s6 hG hk0).2.1) h) ⟨by decide, by decide⟩ (Nat.le_of_ble_eq_true rfl) ?_
  clear h; intro I12 h
  refine r_aload_n 25 hC dX6_saveSnapshot_25 rfl rfl ?_
  refine r_getR6 26 (r1 := q0 + 497) hC hk0 9 (by decide) tw_371 rfl rfl dX6_saveSnapshot_26 ?_
  refine r_iload_n 29 hC dX6_saveSnapshot_29 rfl rfl ?_
  refine r_iconst 30 (v := 1) hC dX6_saveSnapshot_30 (by decide) ?_
  refine r_zast 31 hC ((pm_s6 hG hk0).2.2.2.2.2) h.1 dX6_saveSnapshot_31 (fun I13 hI => ?_)
  replace h := h.2
  replace h := h I13 hI; clear hI
  refine r_iload_n 32 hC dX6_saveSnapshot_32 rfl rfl ?_
  exact x_iret 33 hC hE ⟨by decide, by decide⟩ (pm_nz h.1).1 dX6_saveSnapshot_33 ⟨_, rfl, h.2⟩

def wX6_restoreSnapshot (G : pm_G) (q0 : Nat) (x1 : Int32) (I : pm_I) (K : Int32 → pm_I → Prop) (E : Nat → pm_I → Prop) : Prop :=
  wX6_checkSlot G (q0) (x1) I (fun I10 => vp_in (x1) 2 ∧ ((¬ (I10 (q0 + 497) (x1).toNatClampNeg) = 0 → (vp_in (x1) 2 ∧ (wX5_copyFrom G (q0 + 18) (q0 + 428 + 1 + 34 * (x1).toNatClampNeg) I10 (fun I12 => wX0_forget G (q0 + 86) I12 (fun I13 => K (I13 (q0 + 18) 0) I13))))) ∧ ((I10 (q0 + 497) (x1).toNatClampNeg) = 0 → E 2 I10))) E

set_option maxRecDepth 20000 in
theorem sX6_restoreSnapshot {G : pm_G} {l : Launch} (hG : pm_ok G) (hst : l.stackTraces = false) (hX : pm_exc G) (q0 : Nat) (x1 : Int32) (I : pm_I) (K : Int32 → pm_I → Prop) (E : Nat → pm_I → Prop) (hk0 : pm_k G q0 (.inl 6)) (h : wX6_restoreSnapshot G q0 x1 I K E) : pm_Xt G l yX6_restoreSnapshot cX6_restoreSnapshot 2 (some .int) 7 271 2 12 [.ref (q0), .int (x1)] I (pm_Ki K) E := by
  unfold wX6_restoreSnapshot at h
  refine pm_enterX (by decide +kernel) hst hG rfl (Nat.le_of_ble_eq_true rfl) rfl (fun X hl hC hE => ?_)
  subst hl
  have hC : pm_C G X cX6_restoreSnapshot 2 RX6 (some .int) { frames := 7, cells := 2, slots := 12, locals := 271 } := hC
  refine r_aload_n 0 hC dX6_restoreSnapshot_0 rfl rfl ?_
  refine r_iload_n 1 hC dX6_restoreSnapshot_1 rfl rfl ?_
  refine x_call_v 2 (n := 1) (mcc := 1) (msc := 6) [.int (x1)] [] hC hE hk0 rfl dX6_restoreSnapshot_2 (by decide) (by decide) tw_1144 tw_129 ⟨by decide, by decide, by decide +kernel⟩ tw_1141 tw_1143 tw_75 rfl rfl (sX6_checkSlot (l := pm_l X) hG hst hX (q0) (x1) _ _ _ hk0 h) ⟨by decide, by decide⟩ ⟨by decide, by decide⟩ (Nat.le_of_ble_eq_true rfl) ?_
  clear h; intro I10 h
  show pm_R G X 2 1 6 5 [some (.ref (q0)), some (.int (x1))] [] I10
  refine r_aload_n 5 hC dX6_restoreSnapshot_5 rfl rfl ?_
  refine r_getR6 6 (r1 := q0 + 497) hC hk0 9 (by decide) tw_371 rfl rfl dX6_restoreSnapshot_6 ?_
  refine r_iload_n 9 hC dX6_restoreSnapshot_9 rfl rfl ?_
  refine r_zald 10 hC ((pm_s6 hG hk0).2.2.2.2.2) h.1 dX6_restoreSnapshot_10 ?_
  replace h := h.2
  refine r_if_ne 11 25 hC dX6_restoreSnapshot_11 (by decide) (fun hc => ?_) (fun hc => ?_)
  · replace h := h.1 hc
    refine r_aload_n 25 hC dX6_restoreSnapshot_25 rfl rfl ?_
    refine r_getR6 26 (r1 := q0 + 18) hC hk0 5 (by decide) tw_367 rfl rfl dX6_restoreSnapshot_26 ?_
    refine r_aload_n 29 hC dX6_restoreSnapshot_29 rfl rfl ?_
    refine r_getR6 30 (r1 := q0 + 428) hC hk0 8 (by decide) tw_370 rfl rfl dX6_restoreSnapshot_30 ?_
    refine r_iload_n 33 hC dX6_restoreSnapshot_33 rfl rfl ?_
    have hg11 := h.1; replace h := h.2
    refine r_aald5 34 hC ((pm_s6 hG hk0).2.2.2.2.1) hg11 dX6_restoreSnapshot_34 ?_
    refine r_callVN_v 35 (n := 1) [.ref (q0 + 428 + 1 + 34 * (x1).toNatClampNeg)] [] hC ((pm_s6 hG hk0).2.1) rfl dX6_restoreSnapshot_35 (by decide) (by decide) tw_429 tw_132 ⟨by decide, by decide, by decide +kernel⟩ tw_977 tw_428 tw_6 rfl rfl (sX5_copyFrom (l := pm_l X) hG (q0 + 18) (q0 + 428 + 1 + 34 * (x1).toNatClampNeg) _ _ ((pm_s6 hG hk0).2.1) (pm_sa5 hG ((pm_s6 hG hk0).2.2.2.2.1) hg11) h) ⟨by decide, by decide⟩ (Nat.le_of_ble_eq_true rfl) ?_
    clear h; intro I12 h
    refine r_aload_n 38 hC dX6_restoreSnapshot_38 rfl rfl ?_
    refine r_getR6 39 (r1 := q0 + 86) hC hk0 7 (by decide) tw_369 rfl rfl dX6_restoreSnapshot_39 ?_
    refine r_callVN_v 42 (n := 0) [] [] hC ((pm_s6 hG hk0).2.2.2.1) rfl dX6_restoreSnapshot_42 (by decide) (by decide) tw_712 tw_134 ⟨by decide, by decide, by decide +kernel⟩ tw_709 tw_711 tw_33 rfl rfl (sX0_forget (l := pm_l X) hG (q0 + 86) _ _ ((pm_s6 hG hk0).2.2.2.1) h) ⟨by decide, by decide⟩ (Nat.le_of_ble_eq_true rfl) ?_
    clear h; intro I13 h
    refine r_aload_n 45 hC dX6_restoreSnapshot_45 rfl rfl ?_
    refine r_getR6 46 (r1 := q0 + 18) hC hk0 5 (by decide) tw_367 rfl rfl dX6_restoreSnapshot_46 ?_
    refine r_getIN5 49 (x := I13 (q0 + 18) 0) hC ((pm_s6 hG hk0).2.1) 0 (by decide) tw_328 rfl rfl dX6_restoreSnapshot_49 ?_
    exact x_iret 52 hC hE ⟨by decide, by decide⟩ rfl dX6_restoreSnapshot_52 ⟨_, rfl, h⟩
  · replace h := h.2 hc
    exact x_throwW 14 2 (tx := "the slot is empty") hC hE hX (by decide) (by decide) tw_851 tw_146 (by decide) dX6_restoreSnapshot_14 dX6_restoreSnapshot_17 dX6_restoreSnapshot_18 dX6_restoreSnapshot_21 dX6_restoreSnapshot_24 (by decide) (by decide) ⟨by decide, by decide⟩ ⟨by decide, by decide⟩ (Nat.le_of_ble_eq_true rfl) h
