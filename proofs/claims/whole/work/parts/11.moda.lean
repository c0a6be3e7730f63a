def wX7_thrown (G : pm_G) (q0 : Nat) (I : pm_I) (K : Int32 → pm_I → Prop) : Prop :=
  K (I (q0) 0) I

set_option maxRecDepth 20000 in
theorem sX7_thrown {G : pm_G} {l : Launch} (hG : pm_ok G) (q0 : Nat) (I : pm_I) (K : Int32 → pm_I → Prop) (hk0 : pm_k G q0 (.inl 7)) (h : wX7_thrown G q0 I K) : pm_Ct G l yX7_thrown cX7_thrown 1 (some .int) { frames := 1, cells := 0, slots := 0, locals := 64 } [.ref (q0)] I (pm_Ki K) := by
  unfold wX7_thrown at h
  refine pm_enter (by decide +kernel) hG rfl (Nat.le_of_ble_eq_true rfl) rfl (fun X hl hC hE => ?_)
  subst hl
  have hab : 0 ≤ 0 ∧ 0 ≤ 0 := ⟨Nat.le_refl 0, Nat.le_refl 0⟩
  have hC : pm_C G X cX7_thrown 1 RX7 (some .int) { frames := 1, cells := 0, slots := 0, locals := 64 } := hC
  refine r_aload_n 0 hC dX7_thrown_0 rfl rfl ?_
  refine r_getI7 1 (x := I (q0) 0) hC hk0 0 (by decide) tw_1179 rfl rfl dX7_thrown_1 ?_
  exact r_iret 4 hC hE rfl dX7_thrown_4 ⟨_, rfl, h⟩

def wX7_within (G : pm_G) (x0 : Int32) (x1 : Int32) (x2 : Int32) (I : pm_I) (K : Int32 → pm_I → Prop) : Prop :=
  (x0 < x1 → K 0 I) ∧ (¬ x0 < x1 → ((x2 < x0 → K 0 I) ∧ (¬ x2 < x0 → K 1 I)))

set_option maxRecDepth 20000 in
theorem sX7_within {G : pm_G} {l : Launch} (hG : pm_ok G) (x0 : Int32) (x1 : Int32) (x2 : Int32) (I : pm_I) (K : Int32 → pm_I → Prop)  (h : wX7_within G x0 x1 x2 I K) : pm_Ct G l yX7_within cX7_within 3 (some .boolean) { frames := 1, cells := 0, slots := 0, locals := 64 } [.int (x0), .int (x1), .int (x2)] I (pm_Ki K) := by
  unfold wX7_within at h
  refine pm_enter (by decide +kernel) hG rfl (Nat.le_of_ble_eq_true rfl) rfl (fun X hl hC hE => ?_)
  subst hl
  have hab : 0 ≤ 0 ∧ 0 ≤ 0 := ⟨Nat.le_refl 0, Nat.le_refl 0⟩
  have hC : pm_C G X cX7_within 3 RX7 (some .boolean) { frames := 1, cells := 0, slots := 0, locals := 64 } := hC
  refine r_iload_n 0 hC dX7_within_0 rfl rfl ?_
  refine r_iload_n 1 hC dX7_within_1 rfl rfl ?_
  refine r_icmp_lt 2 14 hC dX7_within_2 (by decide) (fun hc => ?_) (fun hc => ?_)
  · replace h := h.1 hc
    refine r_iconst 14 (v := 0) hC dX7_within_14 (by decide) ?_
    exact r_iret 15 hC hE rfl dX7_within_15 ⟨_, rfl, h⟩
  · replace h := h.2 hc
    refine r_iload_n 5 hC dX7_within_5 rfl rfl ?_
    refine r_iload_n 6 hC dX7_within_6 rfl rfl ?_
    refine r_icmp_gt 7 14 hC dX7_within_7 (by decide) (fun hc => ?_) (fun hc => ?_)
    · replace h := h.1 hc
      refine r_iconst 14 (v := 0) hC dX7_within_14 (by decide) ?_
      exact r_iret 15 hC hE rfl dX7_within_15 ⟨_, rfl, h⟩
    · replace h := h.2 hc
      refine r_iconst 10 (v := 1) hC dX7_within_10 (by decide) ?_
      refine r_goto 11 15 hC dX7_within_11 (by decide) ?_
      exact r_iret 15 hC hE rfl dX7_within_15 ⟨_, rfl, h⟩

def wX7_has (G : pm_G) (x0 : Int32) (x1 : Int32) (I : pm_I) (K : Int32 → pm_I → Prop) : Prop :=
  (¬ ((x0 >>> (x1 &&& 31)) &&& 1) = 1 → K 0 I) ∧ (((x0 >>> (x1 &&& 31)) &&& 1) = 1 → K 1 I)

set_option maxRecDepth 20000 in
theorem sX7_has {G : pm_G} {l : Launch} (hG : pm_ok G) (x0 : Int32) (x1 : Int32) (I : pm_I) (K : Int32 → pm_I → Prop)  (h : wX7_has G x0 x1 I K) : pm_Ct G l yX7_has cX7_has 2 (some .boolean) { frames := 1, cells := 0, slots := 0, locals := 64 } [.int (x0), .int (x1)] I (pm_Ki K) := by
  unfold wX7_has at h
  refine pm_enter (by decide +kernel) hG rfl (Nat.le_of_ble_eq_true rfl) rfl (fun X hl hC hE => ?_)
  subst hl
  have hab : 0 ≤ 0 ∧ 0 ≤ 0 := ⟨Nat.le_refl 0, Nat.le_refl 0⟩
  have hC : pm_C G X cX7_has 2 RX7 (some .boolean) { frames := 1, cells := 0, slots := 0, locals := 64 } := hC
  refine r_iload_n 0 hC dX7_has_0 rfl rfl ?_
  refine r_iload_n 1 hC dX7_has_1 rfl rfl ?_
  refine r_ishr 2 hC dX7_has_2 ?_
  refine r_iconst 3 (v := 1) hC dX7_has_3 (by decide) ?_
  refine r_iand 4 hC dX7_has_4 ?_
  refine r_iconst 5 (v := 1) hC dX7_has_5 (by decide) ?_
  refine r_icmp_ne 6 13 hC dX7_has_6 (by decide) (fun hc => ?_) (fun hc => ?_)
  · replace h := h.1 hc
    refine r_iconst 13 (v := 0) hC dX7_has_13 (by decide) ?_
    exact r_iret 14 hC hE rfl dX7_has_14 ⟨_, rfl, h⟩
  · replace h := h.2 hc
    refine r_iconst 9 (v := 1) hC dX7_has_9 (by decide) ?_
    refine r_goto 10 14 hC dX7_has_10 (by decide) ?_
    exact r_iret 14 hC hE rfl dX7_has_14 ⟨_, rfl, h⟩

def wX7_bits (G : pm_G) (x0 : Int32) (I : pm_I) (K : Int32 → pm_I → Prop) : Prop :=
  pm_lp3 (fun (P10 : Int32 → Int32 → pm_I → Prop) (x12 : Int32) (x13 : Int32) (I11 : pm_I) => (x13 = 0 → (K (x12) I11)) ∧ (¬ x13 = 0 → (P10 (x12 + 1) (x13 &&& (x13 - 1)) I11))) (0) (x0) I

set_option maxRecDepth 20000 in
theorem sX7_bits {G : pm_G} {l : Launch} (hG : pm_ok G) (x0 : Int32) (I : pm_I) (K : Int32 → pm_I → Prop)  (h : wX7_bits G x0 I K) : pm_Ct G l yX7_bits cX7_bits 3 (some .int) { frames := 1, cells := 0, slots := 0, locals := 64 } [.int (x0)] I (pm_Ki K) := by
  unfold wX7_bits at h
  refine pm_enter (by decide +kernel) hG rfl (Nat.le_of_ble_eq_true rfl) rfl (fun X hl hC hE => ?_)
  subst hl
  have hab : 0 ≤ 0 ∧ 0 ≤ 0 := ⟨Nat.le_refl 0, Nat.le_refl 0⟩
  have hC : pm_C G X cX7_bits 3 RX7 (some .int) { frames := 1, cells := 0, slots := 0, locals := 64 } := hC
  refine r_iconst 0 (v := 0) hC dX7_bits_0 (by decide) ?_
  refine r_istore_n 1 [some (.int (x0)), some (.int (0)), none] hC dX7_bits_1 rfl (by decide) rfl ?_
  refine r_iload_n 2 hC dX7_bits_2 rfl rfl ?_
  refine r_istore_n 3 [some (.int (x0)), some (.int (0)), some (.int (x0))] hC dX7_bits_3 rfl (by decide) rfl ?_
  refine r_weak (ls' := [none, some (.int (0)), some (.int (x0))]) (And.intro rfl (And.intro rfl (trivial))) ?_
  refine h (fun x12 x13 I11 => pm_R G X 3 0 0 4 [none, some (.int (x12)), some (.int (x13))] [] I11) ?_
  clear h; intro x12 x13 I11 h
  refine r_iload_n 4 hC dX7_bits_4 rfl rfl ?_
  refine r_if_eq 5 20 hC dX7_bits_5 (by decide) (fun hc => ?_) (fun hc => ?_)
  · replace h := h.1 hc
    refine r_iload_n 20 hC dX7_bits_20 rfl rfl ?_
    exact r_iret 21 hC hE rfl dX7_bits_21 ⟨_, rfl, h⟩
  · replace h := h.2 hc
    refine r_iinc 8 (v := x12 + 1) [none, some (.int (x12 + 1)), some (.int (x13))] hC dX7_bits_8 rfl (by rfl) (by decide) rfl ?_
    refine r_iload_n 11 hC dX7_bits_11 rfl rfl ?_
    refine r_iload_n 12 hC dX7_bits_12 rfl rfl ?_
    refine r_iconst 13 (v := 1) hC dX7_bits_13 (by decide) ?_
    refine r_isub 14 hC dX7_bits_14 ?_
    refine r_iand 15 hC dX7_bits_15 ?_
    refine r_istore_n 16 [none, some (.int (x12 + 1)), some (.int (x13 &&& (x13 - 1)))] hC dX7_bits_16 rfl (by decide) rfl ?_
    refine r_goto 17 4 hC dX7_bits_17 (by decide) ?_
    exact h

def wX7_throwsIf (G : pm_G) (q0 : Nat) (x1 : Int32) (x2 : Int32) (I : pm_I) (K : Int32 → pm_I → Prop) : Prop :=
  (¬ (I q0 0) = 0 → (((I q0 0) ≤ 0 → K 0 I) ∧ (¬ (I q0 0) ≤ 0 → K 1 I))) ∧ ((I q0 0) = 0 → ((x1 = 0 → (((I q0 0) ≤ 0 → K 0 I) ∧ (¬ (I q0 0) ≤ 0 → K 1 I))) ∧ (¬ x1 = 0 → (∀ I10 : pm_I, I10 = pm_up I (q0) 0 (x2) → (((I10 q0 0) ≤ 0 → K 0 I10) ∧ (¬ (I10 q0 0) ≤ 0 → K 1 I10))))))

set_option maxRecDepth 20000 in
theorem sX7_throwsIf {G : pm_G} {l : Launch} (hG : pm_ok G) (q0 : Nat) (x1 : Int32) (x2 : Int32) (I : pm_I) (K : Int32 → pm_I → Prop) (hk0 : pm_k G q0 (.inl 7)) (h : wX7_throwsIf G q0 x1 x2 I K) : pm_Ct G l yX7_throwsIf cX7_throwsIf 3 (some .boolean) { frames := 1, cells := 0, slots := 0, locals := 64 } [.ref (q0), .int (x1), .int (x2)] I (pm_Ki K) := by
  unfold wX7_throwsIf at h
  refine pm_enter (by decide +kernel) hG rfl (Nat.le_of_ble_eq_true rfl) rfl (fun X hl hC hE => ?_)
  subst hl
  have hab : 0 ≤ 0 ∧ 0 ≤ 0 := ⟨Nat.le_refl 0, Nat.le_refl 0⟩
  have hC : pm_C G X cX7_throwsIf 3 RX7 (some .boolean) { frames := 1, cells := 0, slots := 0, locals := 64 } := hC
  refine r_aload_n 0 hC dX7_throwsIf_0 rfl rfl ?_
  refine r_getI7 1 (x := I (q0) 0) hC hk0 0 (by decide) tw_1179 rfl rfl dX7_throwsIf_1 ?_
  refine r_if_ne 4 16 hC dX7_throwsIf_4 (by decide) (fun hc => ?_) (fun hc => ?_)
  · replace h := h.1 hc
    refine r_aload_n 16 hC dX7_throwsIf_16 rfl rfl ?_
    refine r_getI7 17 (x := I (q0) 0) hC hk0 0 (by decide) tw_1179 rfl rfl dX7_throwsIf_17 ?_
    refine r_if_le 20 27 hC dX7_throwsIf_20 (by decide) (fun hc => ?_) (fun hc => ?_)
    · replace h := h.1 hc
      refine r_iconst 27 (v := 0) hC dX7_throwsIf_27 (by decide) ?_
      exact r_iret 28 hC hE rfl dX7_throwsIf_28 ⟨_, rfl, h⟩
    · replace h := h.2 hc
      refine r_iconst 23 (v := 1) hC dX7_throwsIf_23 (by decide) ?_
      refine r_goto 24 28 hC dX7_throwsIf_24 (by decide) ?_
      exact r_iret 28 hC hE rfl dX7_throwsIf_28 ⟨_, rfl, h⟩
  · replace h := h.2 hc
    refine r_iload_n 7 hC dX7_throwsIf_7 rfl rfl ?_
    refine r_if_eq 8 16 hC dX7_throwsIf_8 (by decide) (fun hc => ?_) (fun hc => ?_)
    · replace h := h.1 hc
      refine r_aload_n 16 hC dX7_throwsIf_16 rfl rfl ?_
      refine r_getI7 17 (x := I (q0) 0) hC hk0 0 (by decide) tw_1179 rfl rfl dX7_throwsIf_17 ?_
      refine r_if_le 20 27 hC dX7_throwsIf_20 (by decide) (fun hc => ?_) (fun hc => ?_)
      · replace h := h.1 hc
        refine r_iconst 27 (v := 0) hC dX7_throwsIf_27 (by decide) ?_
        exact r_iret 28 hC hE rfl dX7_throwsIf_28 ⟨_, rfl, h⟩
      · replace h := h.2 hc
        refine r_iconst 23 (v := 1) hC dX7_throwsIf_23 (by decide) ?_
        refine r_goto 24 28 hC dX7_throwsIf_24 (by decide) ?_
        exact r_iret 28 hC hE rfl dX7_throwsIf_28 ⟨_, rfl, h⟩
    · replace h := h.2 hc
      refine r_aload_n 11 hC dX7_throwsIf_11 rfl rfl ?_
      refine r_iload_n 12 hC dX7_throwsIf_12 rfl rfl ?_
      refine r_putI7 13 hC hk0 0 (by decide) tw_1179 rfl rfl (by decide +kernel) ps_7_0 dX7_throwsIf_13 (fun I10 hI => ?_)
      replace h := h I10 hI; clear hI
      refine r_aload_n 16 hC dX7_throwsIf_16 rfl rfl ?_
      refine r_getI7 17 (x := I10 (q0) 0) hC hk0 0 (by decide) tw_1179 rfl rfl dX7_throwsIf_17 ?_
      refine r_if_le 20 27 hC dX7_throwsIf_20 (by decide) (fun hc => ?_) (fun hc => ?_)
      · replace h := h.1 hc
        refine r_iconst 27 (v := 0) hC dX7_throwsIf_27 (by decide) ?_
        exact r_iret 28 hC hE rfl dX7_throwsIf_28 ⟨_, rfl, h⟩
      · replace h := h.2 hc
        refine r_iconst 23 (v := 1) hC dX7_throwsIf_23 (by decide) ?_
        refine r_goto 24 28 hC dX7_throwsIf_24 (by decide) ?_
        exact r_iret 28 hC hE rfl dX7_throwsIf_28 ⟨_, rfl, h⟩

def wX7_lifts (G : pm_G) (q0 n0 : Nat) (I : pm_I) (K : pm_I → Prop) : Prop :=
  pm_lp2 (fun (P10 : Int32 → pm_I → Prop) (x12 : Int32) (I11 : pm_I) => (((Int32.ofNat n0) / 2) ≤ x12 → K I11) ∧ (¬ ((Int32.ofNat n0) / 2) ≤ x12 → (vp_in (((Int32.ofNat n0) / 2) + x12) n0 ∧ (vp_in (x12) n0 ∧ (∀ I13 : pm_I, I13 = pm_up I11 (q0) ((x12).toNatClampNeg) (I11 (q0) (((Int32.ofNat n0) / 2) + x12).toNatClampNeg) → (P10 (x12 + 1) I13)))))) (0) I

set_option maxRecDepth 20000 in
theorem sX7_lifts {G : pm_G} {l : Launch} (hG : pm_ok G) (q0 n0 : Nat) (I : pm_I) (K : pm_I → Prop) (hk0 : pm_k G q0 (.inr (0, n0))) (h : wX7_lifts G q0 n0 I K) : pm_Ct G l yX7_lifts cX7_lifts 2 none { frames := 1, cells := 0, slots := 0, locals := 64 } [.ref (q0)] I (pm_Kv K) := by
  unfold wX7_lifts at h
  refine pm_enter (by decide +kernel) hG rfl (Nat.le_of_ble_eq_true rfl) rfl (fun X hl hC hE => ?_)
  subst hl
  have hab : 0 ≤ 0 ∧ 0 ≤ 0 := ⟨Nat.le_refl 0, Nat.le_refl 0⟩
  have hC : pm_C G X cX7_lifts 2 RX7 none { frames := 1, cells := 0, slots := 0, locals := 64 } := hC
  refine r_iconst 0 (v := 0) hC dX7_lifts_0 (by decide) ?_
  refine r_istore_n 1 [some (.ref (q0)), some (.int (0))] hC dX7_lifts_1 rfl (by decide) rfl ?_
  refine h (fun x12 I11 => pm_R G X 2 0 0 2 [some (.ref (q0)), some (.int (x12))] [] I11) ?_
  clear h; intro x12 I11 h
  refine r_iload_n 2 hC dX7_lifts_2 rfl rfl ?_
  refine r_aload_n 3 hC dX7_lifts_3 rfl rfl ?_
  refine r_alen0 4 (v := Int32.ofNat n0) hC hk0 rfl dX7_lifts_4 ?_
  refine r_iconst 5 (v := 2) hC dX7_lifts_5 (by decide) ?_
  refine r_idiv 6 hC dX7_lifts_6 (by decide) ?_
  refine r_icmp_ge 7 27 hC dX7_lifts_7 (by decide) (fun hc => ?_) (fun hc => ?_)
  · replace h := h.1 hc
    exact r_vret 27 hC hE dX7_lifts_27 ⟨rfl, h⟩
  · replace h := h.2 hc
    refine r_aload_n 10 hC dX7_lifts_10 rfl rfl ?_
    refine r_iload_n 11 hC dX7_lifts_11 rfl rfl ?_
    refine r_aload_n 12 hC dX7_lifts_12 rfl rfl ?_
    refine r_aload_n 13 hC dX7_lifts_13 rfl rfl ?_
    refine r_alen0 14 (v := Int32.ofNat n0) hC hk0 rfl dX7_lifts_14 ?_
    refine r_iconst 15 (v := 2) hC dX7_lifts_15 (by decide) ?_
    refine r_idiv 16 hC dX7_lifts_16 (by decide) ?_
    refine r_iload_n 17 hC dX7_lifts_17 rfl rfl ?_
    refine r_iadd 18 hC dX7_lifts_18 ?_
    refine r_iald 19 hC hk0 h.1 dX7_lifts_19 ?_
    replace h := h.2
    refine r_iast 20 hC hk0 h.1 dX7_lifts_20 (fun I13 hI => ?_)
    replace h := h.2
    replace h := h I13 hI; clear hI
    refine r_iinc 21 (v := x12 + 1) [some (.ref (q0)), some (.int (x12 + 1))] hC dX7_lifts_21 rfl (by rfl) (by decide) rfl ?_
    refine r_goto 24 2 hC dX7_lifts_24 (by decide) ?_
    exact h

def wX7_liftsAll (G : pm_G) (q0 : Nat) (I : pm_I) (K : pm_I → Prop) : Prop :=
  wX7_lifts G (q0 + 2) 8 I (fun I10 => wX7_lifts G (q0 + 3) 16 I10 (fun I11 => wX7_lifts G (q0 + 4) 16 I11 (fun I12 => wX7_lifts G (q0 + 5) 128 I12 (fun I13 => wX7_lifts G (q0 + 6) 16 I13 (fun I14 => wX7_lifts G (q0 + 7) 2 I14 (fun I15 => wX7_lifts G (q0 + 8) 1240 I15 (fun I16 => K I16)))))))

set_option maxRecDepth 20000 in
theorem sX7_liftsAll {G : pm_G} {l : Launch} (hG : pm_ok G) (q0 : Nat) (I : pm_I) (K : pm_I → Prop) (hk0 : pm_k G q0 (.inl 7)) (h : wX7_liftsAll G q0 I K) : pm_Ct G l yX7_liftsAll cX7_liftsAll 1 none { frames := 2, cells := 0, slots := 0, locals := 149 } [.ref (q0)] I (pm_Kv K) := by
  unfold wX7_liftsAll at h
  refine pm_enter (by decide +kernel) hG rfl (Nat.le_of_ble_eq_true rfl) rfl (fun X hl hC hE => ?_)
  subst hl
  have hab : 0 ≤ 0 ∧ 0 ≤ 0 := ⟨Nat.le_refl 0, Nat.le_refl 0⟩
  have hC : pm_C G X cX7_liftsAll 1 RX7 none { frames := 2, cells := 0, slots := 0, locals := 149 } := hC
  refine r_aload_n 0 hC dX7_liftsAll_0 rfl rfl ?_
  refine r_getR7 1 (r1 := q0 + 2) hC hk0 2 (by decide) tw_1181 rfl rfl dX7_liftsAll_1 ?_
  refine r_callS_v 4 (n := 1) [.ref (q0 + 2)] [] hC dX7_liftsAll_4 (by decide) (by decide) tw_1174 tw_135 ⟨by decide, by decide, by decide +kernel⟩ tw_1172 tw_1173 rfl rfl (sX7_lifts (l := pm_l X) hG (q0 + 2) 8 _ _ ((pm_s7 hG hk0).2.1) h) hab (Nat.le_of_ble_eq_true rfl) ?_
  clear h; intro I10 h
  refine r_aload_n 7 hC dX7_liftsAll_7 rfl rfl ?_
  refine r_getR7 8 (r1 := q0 + 3) hC hk0 3 (by decide) tw_1182 rfl rfl dX7_liftsAll_8 ?_
  refine r_callS_v 11 (n := 1) [.ref (q0 + 3)] [] hC dX7_liftsAll_11 (by decide) (by decide) tw_1174 tw_135 ⟨by decide, by decide, by decide +kernel⟩ tw_1172 tw_1173 rfl rfl (sX7_lifts (l := pm_l X) hG (q0 + 3) 16 _ _ ((pm_s7 hG hk0).2.2.1) h) hab (Nat.le_of_ble_eq_true rfl) ?_
  clear h; intro I11 h
  refine r_aload_n 14 hC dX7_liftsAll_14 rfl rfl ?_
  refine r_getR7 15 (r1 := q0 + 4) hC hk0 4 (by decide) tw_1183 rfl rfl dX7_liftsAll_15 ?_
  refine r_callS_v 18 (n := 1) [.ref (q0 + 4)] [] hC dX7_liftsAll_18 (by decide) (by decide) tw_1174 tw_135 ⟨by decide, by decide, by decide +kernel⟩ tw_1172 tw_1173 rfl rfl (sX7_lifts (l := pm_l X) hG (q0 + 4) 16 _ _ ((pm_s7 hG hk0).2.2.2.1) h) hab (Nat.le_of_ble_eq_true rfl) ?_
  clear h; intro I12 h
  refine r_aload_n 21 hC dX7_liftsAll_21 rfl rfl ?_
  refine r_getR7 22 (r1 := q0 + 5) hC hk0 5 (by decide) tw_1184 rfl rfl dX7_liftsAll_22 ?_
  refine r_callS_v 25 (n := 1) [.ref (q0 + 5)] [] hC dX7_liftsAll_25 (by decide) (by decide) tw_1174 tw_135 ⟨by decide, by decide, by decide +kernel⟩ tw_1172 tw_1173 rfl rfl (sX7_lifts (l := pm_l X) hG (q0 + 5) 128 _ _ ((pm_s7 hG hk0).2.2.2.2.1) h) hab (Nat.le_of_ble_eq_true rfl) ?_
  clear h; intro I13 h
  refine r_aload_n 28 hC dX7_liftsAll_28 rfl rfl ?_
  refine r_getR7 29 (r1 := q0 + 6) hC hk0 6 (by decide) tw_1185 rfl rfl dX7_liftsAll_29 ?_
  refine r_callS_v 32 (n := 1) [.ref (q0 + 6)] [] hC dX7_liftsAll_32 (by decide) (by decide) tw_1174 tw_135 ⟨by decide, by decide, by decide +kernel⟩ tw_1172 tw_1173 rfl rfl (sX7_lifts (l := pm_l X) hG (q0 + 6) 16 _ _ ((pm_s7 hG hk0).2.2.2.2.2.1) h) hab (Nat.le_of_ble_eq_true rfl) ?_
  clear h; intro I14 h
  refine r_aload_n 35 hC dX7_liftsAll_35 rfl rfl ?_
  refine r_getR7 36 (r1 := q0 + 7) hC hk0 7 (by decide) tw_1186 rfl rfl dX7_liftsAll_36 ?_
  refine r_callS_v 39 (n := 1) [.ref (q0 + 7)] [] hC dX7_liftsAll_39 (by decide) (by decide) tw_1174 tw_135 ⟨by decide, by decide, by decide +kernel⟩ tw_1172 tw_1173 rfl rfl (sX7_lifts (l := pm_l X) hG (q0 + 7) 2 _ _ ((pm_s7 hG hk0).2.2.2.2.2.2.1) h) hab (Nat.le_of_ble_eq_true rfl) ?_
  clear h; intro I15 h
  refine r_aload_n 42 hC dX7_liftsAll_42 rfl rfl ?_
  refine r_getR7 43 (r1 := q0 + 8) hC hk0 8 (by decide) tw_1187 rfl rfl dX7_liftsAll_43 ?_
  refine r_callS_v 46 (n := 1) [.ref (q0 + 8)] [] hC dX7_liftsAll_46 (by decide) (by decide) tw_1174 tw_135 ⟨by decide, by decide, by decide +kernel⟩ tw_1172 tw_1173 rfl rfl (sX7_lifts (l := pm_l X) hG (q0 + 8) 1240 _ _ ((pm_s7 hG hk0).2.2.2.2.2.2.2.1) h) hab (Nat.le_of_ble_eq_true rfl) ?_
  clear h; intro I16 h
  exact r_vret 49 hC hE dX7_liftsAll_49 ⟨rfl, h⟩

def wX7_emit (G : pm_G) (q0 : Nat) (x1 : Int32) (I : pm_I) (K : Int32 → pm_I → Prop) : Prop :=
  vp_in (620 + (I (q0 + 7) (1 : Int32).toNatClampNeg)) 1240 ∧ (∀ I10 : pm_I, I10 = pm_up I (q0 + 8) ((620 + (I (q0 + 7) (1 : Int32).toNatClampNeg)).toNatClampNeg) (x1) → ((∀ I11 : pm_I, I11 = pm_up I10 (q0 + 7) ((1 : Int32).toNatClampNeg) ((I10 (q0 + 7) (1 : Int32).toNatClampNeg) + 1) → K 1 I11)))

set_option maxRecDepth 20000 in
theorem sX7_emit {G : pm_G} {l : Launch} (hG : pm_ok G) (q0 : Nat) (x1 : Int32) (I : pm_I) (K : Int32 → pm_I → Prop) (hk0 : pm_k G q0 (.inl 7)) (h : wX7_emit G q0 x1 I K) : pm_Ct G l yX7_emit cX7_emit 2 (some .boolean) { frames := 1, cells := 0, slots := 0, locals := 64 } [.ref (q0), .int (x1)] I (pm_Ki K) := by
  unfold wX7_emit at h
  refine pm_enter (by decide +kernel) hG rfl (Nat.le_of_ble_eq_true rfl) rfl (fun X hl hC hE => ?_)
  subst hl
  have hab : 0 ≤ 0 ∧ 0 ≤ 0 := ⟨Nat.le_refl 0, Nat.le_refl 0⟩
  have hC : pm_C G X cX7_emit 2 RX7 (some .boolean) { frames := 1, cells := 0, slots := 0, locals := 64 } := hC
  refine r_aload_n 0 hC dX7_emit_0 rfl rfl ?_
  refine r_getR7 1 (r1 := q0 + 8) hC hk0 8 (by decide) tw_1187 rfl rfl dX7_emit_1 ?_
  refine r_sipush 4 (v := 620) hC dX7_emit_4 (by decide) ?_
  refine r_aload_n 7 hC dX7_emit_7 rfl rfl ?_
  refine r_getR7 8 (r1 := q0 + 7) hC hk0 7 (by decide) tw_1186 rfl rfl dX7_emit_8 ?_
  refine r_iconst 11 (v := 1) hC dX7_emit_11 (by decide) ?_
  refine r_iald 12 hC ((pm_s7 hG hk0).2.2.2.2.2.2.1) (by unfold vp_in; decide) dX7_emit_12 ?_
  refine r_iadd 13 hC dX7_emit_13 ?_
  refine r_iload_n 14 hC dX7_emit_14 rfl rfl ?_
  refine r_iast 15 hC ((pm_s7 hG hk0).2.2.2.2.2.2.2.1) h.1 dX7_emit_15 (fun I10 hI => ?_)
  replace h := h.2
  replace h := h I10 hI; clear hI
  refine r_aload_n 16 hC dX7_emit_16 rfl rfl ?_
  refine r_getR7 17 (r1 := q0 + 7) hC hk0 7 (by decide) tw_1186 rfl rfl dX7_emit_17 ?_
  refine r_iconst 20 (v := 1) hC dX7_emit_20 (by decide) ?_
  refine r_dup2 21 hC dX7_emit_21 rfl rfl ?_
  refine r_iald 22 hC ((pm_s7 hG hk0).2.2.2.2.2.2.1) (by unfold vp_in; decide) dX7_emit_22 ?_
  refine r_iconst 23 (v := 1) hC dX7_emit_23 (by decide) ?_
  refine r_iadd 24 hC dX7_emit_24 ?_
  refine r_iast 25 hC ((pm_s7 hG hk0).2.2.2.2.2.2.1) (by unfold vp_in; decide) dX7_emit_25 (fun I11 hI => ?_)
  replace h := h I11 hI; clear hI
  refine r_iconst 26 (v := 1) hC dX7_emit_26 (by decide) ?_
  exact r_iret 27 hC hE rfl dX7_emit_27 ⟨_, rfl, h⟩

def wX7_clearDraft (G : pm_G) (q0 : Nat) (I : pm_I) (K : pm_I → Prop) : Prop :=
  (∀ I10 : pm_I, I10 = pm_up I (q0 + 2) ((4 : Int32).toNatClampNeg) (0) → ((∀ I11 : pm_I, I11 = pm_up I10 (q0 + 2) ((5 : Int32).toNatClampNeg) (3) → ((∀ I12 : pm_I, I12 = pm_up I11 (q0 + 2) ((6 : Int32).toNatClampNeg) (2) → ((∀ I13 : pm_I, I13 = pm_up I12 (q0 + 2) ((7 : Int32).toNatClampNeg) (10) → (pm_lp2 (fun (P14 : Int32 → pm_I → Prop) (x16 : Int32) (I15 : pm_I) => (64 ≤ x16 → (pm_lp2 (fun (P17 : Int32 → pm_I → Prop) (x19 : Int32) (I18 : pm_I) => (8 ≤ x19 → ((∀ I20 : pm_I, I20 = pm_up I18 (q0 + 7) ((1 : Int32).toNatClampNeg) (0) → (wX7_emit G (q0) (1) I20 (fun r22 I21 => wX7_emit G (q0) (2) I21 (fun r24 I23 => wX7_emit G (q0) (-1) I23 (fun r26 I25 => wX7_emit G (q0) (3) I25 (fun r28 I27 => wX7_emit G (q0) (110) I27 (fun r30 I29 => wX7_emit G (q0) (-3) I29 (fun r32 I31 => wX7_emit G (q0) (-1) I31 (fun r34 I33 => K I33))))))))))) ∧ (¬ 8 ≤ x19 → (vp_in (8 + x19) 16 ∧ (∀ I35 : pm_I, I35 = pm_up I18 (q0 + 6) ((8 + x19).toNatClampNeg) (0) → (P17 (x19 + 1) I35))))) (0) I15)) ∧ (¬ 64 ≤ x16 → (vp_in (64 + x16) 128 ∧ (∀ I36 : pm_I, I36 = pm_up I15 (q0 + 5) ((64 + x16).toNatClampNeg) (0) → (P14 (x16 + 1) I36))))) (0) I13))))))))

set_option maxRecDepth 20000 in
theorem sX7_clearDraft {G : pm_G} {l : Launch} (hG : pm_ok G) (q0 : Nat) (I : pm_I) (K : pm_I → Prop) (hk0 : pm_k G q0 (.inl 7)) (h : wX7_clearDraft G q0 I K) : pm_Ct G l yX7_clearDraft cX7_clearDraft 2 none { frames := 2, cells := 0, slots := 0, locals := 149 } [.ref (q0)] I (pm_Kv K) := by
  unfold wX7_clearDraft at h
  refine pm_enter (by decide +kernel) hG rfl (Nat.le_of_ble_eq_true rfl) rfl (fun X hl hC hE => ?_)
  subst hl
  have hab : 0 ≤ 0 ∧ 0 ≤ 0 := ⟨Nat.le_refl 0, Nat.le_refl 0⟩
  have hC : pm_C G X cX7_clearDraft 2 RX7 none { frames := 2, cells := 0, slots := 0, locals := 149 } := hC
  refine r_aload_n 0 hC dX7_clearDraft_0 rfl rfl ?_
  refine r_getR7 1 (r1 := q0 + 2) hC hk0 2 (by decide) tw_1181 rfl rfl dX7_clearDraft_1 ?_
  refine r_iconst 4 (v := 4) hC dX7_clearDraft_4 (by decide) ?_
  refine r_iconst 5 (v := 0) hC dX7_clearDraft_5 (by decide) ?_
  refine r_iast 6 hC ((pm_s7 hG hk0).2.1) (by unfold vp_in; decide) dX7_clearDraft_6 (fun I10 hI => ?_)
  replace h := h I10 hI; clear hI
  refine r_aload_n 7 hC dX7_clearDraft_7 rfl rfl ?_
  refine r_getR7 8 (r1 := q0 + 2) hC hk0 2 (by decide) tw_1181 rfl rfl dX7_clearDraft_8 ?_
  refine r_iconst 11 (v := 5) hC dX7_clearDraft_11 (by decide) ?_
  refine r_iconst 12 (v := 3) hC dX7_clearDraft_12 (by decide) ?_
  refine r_iast 13 hC ((pm_s7 hG hk0).2.1) (by unfold vp_in; decide) dX7_clearDraft_13 (fun I11 hI => ?_)
  replace h := h I11 hI; clear hI
  refine r_aload_n 14 hC dX7_clearDraft_14 rfl rfl ?_
  refine r_getR7 15 (r1 := q0 + 2) hC hk0 2 (by decide) tw_1181 rfl rfl dX7_clearDraft_15 ?_
  refine r_bipush 18 (v := 6) hC dX7_clearDraft_18 (by decide) ?_
  refine r_iconst 20 (v := 2) hC dX7_clearDraft_20 (by decide) ?_
  refine r_iast 21 hC ((pm_s7 hG hk0).2.1) (by unfold vp_in; decide) dX7_clearDraft_21 (fun I12 hI => ?_)
  replace h := h I12 hI; clear hI
  refine r_aload_n 22 hC dX7_clearDraft_22 rfl rfl ?_
  refine r_getR7 23 (r1 := q0 + 2) hC hk0 2 (by decide) tw_1181 rfl rfl dX7_clearDraft_23 ?_
  refine r_bipush 26 (v := 7) hC dX7_clearDraft_26 (by decide) ?_
  refine r_bipush 28 (v := 10) hC dX7_clearDraft_28 (by decide) ?_
  refine r_iast 30 hC ((pm_s7 hG hk0).2.1) (by unfold vp_in; decide) dX7_clearDraft_30 (fun I13 hI => ?_)
  replace h := h I13 hI; clear hI
  refine r_iconst 31 (v := 0) hC dX7_clearDraft_31 (by decide) ?_
  refine r_istore_n 32 [some (.ref (q0)), some (.int (0))] hC dX7_clearDraft_32 rfl (by decide) rfl ?_
  refine h (fun x16 I15 => pm_R G X 2 0 0 33 [some (.ref (q0)), some (.int (x16))] [] I15) ?_
  clear h; intro x16 I15 h
  refine r_iload_n 33 hC dX7_clearDraft_33 rfl rfl ?_
  refine r_bipush 34 (v := 64) hC dX7_clearDraft_34 (by decide) ?_
  refine r_icmp_ge 36 55 hC dX7_clearDraft_36 (by decide) (fun hc => ?_) (fun hc => ?_)
  · replace h := h.1 hc
    refine r_iconst 55 (v := 0) hC dX7_clearDraft_55 (by decide) ?_
    refine r_istore_n 56 [some (.ref (q0)), some (.int (0))] hC dX7_clearDraft_56 rfl (by decide) rfl ?_
    refine h (fun x19 I18 => pm_R G X 2 0 0 57 [some (.ref (q0)), some (.int (x19))] [] I18) ?_
    clear h; intro x19 I18 h
    refine r_iload_n 57 hC dX7_clearDraft_57 rfl rfl ?_
    refine r_bipush 58 (v := 8) hC dX7_clearDraft_58 (by decide) ?_
    refine r_icmp_ge 60 79 hC dX7_clearDraft_60 (by decide) (fun hc => ?_) (fun hc => ?_)
    · replace h := h.1 hc
      refine r_aload_n 79 hC dX7_clearDraft_79 rfl rfl ?_
      refine r_getR7 80 (r1 := q0 + 7) hC hk0 7 (by decide) tw_1186 rfl rfl dX7_clearDraft_80 ?_
      refine r_iconst 83 (v := 1) hC dX7_clearDraft_83 (by decide) ?_
      refine r_iconst 84 (v := 0) hC dX7_clearDraft_84 (by decide) ?_
      refine r_iast 85 hC ((pm_s7 hG hk0).2.2.2.2.2.2.1) (by unfold vp_in; decide) dX7_clearDraft_85 (fun I20 hI => ?_)
      replace h := h I20 hI; clear hI
      refine r_aload_n 86 hC dX7_clearDraft_86 rfl rfl ?_
      refine r_iconst 87 (v := 1) hC dX7_clearDraft_87 (by decide) ?_
      refine r_callV_i 88 (n := 1) [.int (1)] [] hC hk0 rfl dX7_clearDraft_88 (by decide) (by decide) tw_1167 tw_135 ⟨by decide, by decide, by decide +kernel⟩ tw_1164 tw_1166 tw_77 rfl rfl (sX7_emit (l := pm_l X) hG (q0) (1) _ _ hk0 h) hab (Nat.le_of_ble_eq_true rfl) ?_
      clear h; intro r22 I21 h
      refine r_pop 91 hC dX7_clearDraft_91 rfl ?_
      refine r_aload_n 92 hC dX7_clearDraft_92 rfl rfl ?_
      refine r_iconst 93 (v := 2) hC dX7_clearDraft_93 (by decide) ?_
      refine r_callV_i 94 (n := 1) [.int (2)] [] hC hk0 rfl dX7_clearDraft_94 (by decide) (by decide) tw_1167 tw_135 ⟨by decide, by decide, by decide +kernel⟩ tw_1164 tw_1166 tw_77 rfl rfl (sX7_emit (l := pm_l X) hG (q0) (2) _ _ hk0 h) hab (Nat.le_of_ble_eq_true rfl) ?_
      clear h; intro r24 I23 h
      refine r_pop 97 hC dX7_clearDraft_97 rfl ?_
      refine r_aload_n 98 hC dX7_clearDraft_98 rfl rfl ?_
      refine r_iconst 99 (v := -1) hC dX7_clearDraft_99 (by decide) ?_
      refine r_callV_i 100 (n := 1) [.int (-1)] [] hC hk0 rfl dX7_clearDraft_100 (by decide) (by decide) tw_1167 tw_135 ⟨by decide, by decide, by decide +kernel⟩ tw_1164 tw_1166 tw_77 rfl rfl (sX7_emit (l := pm_l X) hG (q0) (-1) _ _ hk0 h) hab (Nat.le_of_ble_eq_true rfl) ?_
      clear h; intro r26 I25 h
      refine r_pop 103 hC dX7_clearDraft_103 rfl ?_
      refine r_aload_n 104 hC dX7_clearDraft_104 rfl rfl ?_
      refine r_iconst 105 (v := 3) hC dX7_clearDraft_105 (by decide) ?_
      refine r_callV_i 106 (n := 1) [.int (3)] [] hC hk0 rfl dX7_clearDraft_106 (by decide) (by decide) tw_1167 tw_135 ⟨by decide, by decide, by decide +kernel⟩ tw_1164 tw_1166 tw_77 rfl rfl (sX7_emit (l := pm_l X) hG (q0) (3) _ _ hk0 h) hab (Nat.le_of_ble_eq_true rfl) ?_
      clear h; intro r28 I27 h
      refine r_pop 109 hC dX7_clearDraft_109 rfl ?_
      refine r_aload_n 110 hC dX7_clearDraft_110 rfl rfl ?_
      refine r_bipush 111 (v := 110) hC dX7_clearDraft_111 (by decide) ?_
      refine r_callV_i 113 (n := 1) [.int (110)] [] hC hk0 rfl dX7_clearDraft_113 (by decide) (by decide) tw_1167 tw_135 ⟨by decide, by decide, by decide +kernel⟩ tw_1164 tw_1166 tw_77 rfl rfl (sX7_emit (l := pm_l X) hG (q0) (110) _ _ hk0 h) hab (Nat.le_of_ble_eq_true rfl) ?_
      clear h; intro r30 I29 h
      refine r_pop 116 hC dX7_clearDraft_116 rfl ?_
      refine r_aload_n 117 hC dX7_clearDraft_117 rfl rfl ?_
      refine r_bipush 118 (v := -3) hC dX7_clearDraft_118 (by decide) ?_
      refine r_callV_i 120 (n := 1) [.int (-3)] [] hC hk0 rfl dX7_clearDraft_120 (by decide) (by decide) tw_1167 tw_135 ⟨by decide, by decide, by decide +kernel⟩ tw_1164 tw_1166 tw_77 rfl rfl (sX7_emit (l := pm_l X) hG (q0) (-3) _ _ hk0 h) hab (Nat.le_of_ble_eq_true rfl) ?_
      clear h; intro r32 I31 h
      refine r_pop 123 hC dX7_clearDraft_123 rfl ?_
      refine r_aload_n 124 hC dX7_clearDraft_124 rfl rfl ?_
      refine r_iconst 125 (v := -1) hC dX7_clearDraft_125 (by decide) ?_
      refine r_callV_i 126 (n := 1) [.int (-1)] [] hC hk0 rfl dX7_clearDraft_126 (by decide) (by decide) tw_1167 tw_135 ⟨by decide, by decide, by decide +kernel⟩ tw_1164 tw_1166 tw_77 rfl rfl (sX7_emit (l := pm_l X) hG (q0) (-1) _ _ hk0 h) hab (Nat.le_of_ble_eq_true rfl) ?_
      clear h; intro r34 I33 h
      refine r_pop 129 hC dX7_clearDraft_129 rfl ?_
      exact r_vret 130 hC hE dX7_clearDraft_130 ⟨rfl, h⟩
    · replace h := h.2 hc
      refine r_aload_n 63 hC dX7_clearDraft_63 rfl rfl ?_
      refine r_getR7 64 (r1 := q0 + 6) hC hk0 6 (by decide) tw_1185 rfl rfl dX7_clearDraft_64 ?_
      refine r_bipush 67 (v := 8) hC dX7_clearDraft_67 (by decide) ?_
      refine r_iload_n 69 hC dX7_clearDraft_69 rfl rfl ?_
      refine r_iadd 70 hC dX7_clearDraft_70 ?_
      refine r_iconst 71 (v := 0) hC dX7_clearDraft_71 (by decide) ?_
      refine r_iast 72 hC ((pm_s7 hG hk0).2.2.2.2.2.1) h.1 dX7_clearDraft_72 (fun I35 hI => ?_)
      replace h := h.2
      replace h := h I35 hI; clear hI
      refine r_iinc 73 (v := x19 + 1) [some (.ref (q0)), some (.int (x19 + 1))] hC dX7_clearDraft_73 rfl (by rfl) (by decide) rfl ?_
      refine r_goto 76 57 hC dX7_clearDraft_76 (by decide) ?_
      exact h
  · replace h := h.2 hc
    refine r_aload_n 39 hC dX7_clearDraft_39 rfl rfl ?_
    refine r_getR7 40 (r1 := q0 + 5) hC hk0 5 (by decide) tw_1184 rfl rfl dX7_clearDraft_40 ?_
    refine r_bipush 43 (v := 64) hC dX7_clearDraft_43 (by decide) ?_
    refine r_iload_n 45 hC dX7_clearDraft_45 rfl rfl ?_
    refine r_iadd 46 hC dX7_clearDraft_46 ?_
    refine r_iconst 47 (v := 0) hC dX7_clearDraft_47 (by decide) ?_
    refine r_iast 48 hC ((pm_s7 hG hk0).2.2.2.2.1) h.1 dX7_clearDraft_48 (fun I36 hI => ?_)
    replace h := h.2
    replace h := h I36 hI; clear hI
    refine r_iinc 49 (v := x16 + 1) [some (.ref (q0)), some (.int (x16 + 1))] hC dX7_clearDraft_49 rfl (by rfl) (by decide) rfl ?_
    refine r_goto 52 33 hC dX7_clearDraft_52 (by decide) ?_
    exact h

def wX7_bytesOf (G : pm_G) (q0 : Nat) (x1 : Int32) (I : pm_I) (K : pm_I → Prop) : Prop :=
  pm_lp2 (fun (P10 : Int32 → pm_I → Prop) (x12 : Int32) (I11 : pm_I) => (x12 < 0 → K I11) ∧ (¬ x12 < 0 → (vp_in (I11 (q0) 10) 600 ∧ (∀ I13 : pm_I, I13 = pm_up I11 (q0 + 9) ((I11 (q0) 10).toNatClampNeg) (vp_nar .byte ((x1 >>> (x12 &&& 31)).toInt8.toInt32)) → (∀ I14 : pm_I, I14 = pm_up I13 (q0) 10 ((I13 q0 10) + 1) → (P10 (x12 + (-8)) I14)))))) (24) I

set_option maxRecDepth 20000 in
theorem sX7_bytesOf {G : pm_G} {l : Launch} (hG : pm_ok G) (q0 : Nat) (x1 : Int32) (I : pm_I) (K : pm_I → Prop) (hk0 : pm_k G q0 (.inl 7)) (h : wX7_bytesOf G q0 x1 I K) : pm_Ct G l yX7_bytesOf cX7_bytesOf 3 none { frames := 1, cells := 0, slots := 0, locals := 64 } [.ref (q0), .int (x1)] I (pm_Kv K) := by
  unfold wX7_bytesOf at h
  refine pm_enter (by decide +kernel) hG rfl (Nat.le_of_ble_eq_true rfl) rfl (fun X hl hC hE => ?_)
  subst hl
  have hab : 0 ≤ 0 ∧ 0 ≤ 0 := ⟨Nat.le_refl 0, Nat.le_refl 0⟩
  have hC : pm_C G X cX7_bytesOf 3 RX7 none { frames := 1, cells := 0, slots := 0, locals := 64 } := hC
  refine r_bipush 0 (v := 24) hC dX7_bytesOf_0 (by decide) ?_
  refine r_istore_n 2 [some (.ref (q0)), some (.int (x1)), some (.int (24))] hC dX7_bytesOf_2 rfl (by decide) rfl ?_
  refine h (fun x12 I11 => pm_R G X 3 0 0 3 [some (.ref (q0)), some (.int (x1)), some (.int (x12))] [] I11) ?_
  clear h; intro x12 I11 h
  refine r_iload_n 3 hC dX7_bytesOf_3 rfl rfl ?_
  refine r_if_lt 4 36 hC dX7_bytesOf_4 (by decide) (fun hc => ?_) (fun hc => ?_)
  · replace h := h.1 hc
    exact r_vret 36 hC hE dX7_bytesOf_36 ⟨rfl, h⟩
  · replace h := h.2 hc
    refine r_aload_n 7 hC dX7_bytesOf_7 rfl rfl ?_
    refine r_getR7 8 (r1 := q0 + 9) hC hk0 9 (by decide) tw_1188 rfl rfl dX7_bytesOf_8 ?_
    refine r_aload_n 11 hC dX7_bytesOf_11 rfl rfl ?_
    refine r_getI7 12 (x := I11 (q0) 10) hC hk0 10 (by decide) tw_1189 rfl rfl dX7_bytesOf_12 ?_
    refine r_iload_n 15 hC dX7_bytesOf_15 rfl rfl ?_
    refine r_iload_n 16 hC dX7_bytesOf_16 rfl rfl ?_
    refine r_ishr 17 hC dX7_bytesOf_17 ?_
    refine r_i2b 18 hC dX7_bytesOf_18 ?_
    refine r_bast 19 hC ((pm_s7 hG hk0).2.2.2.2.2.2.2.2.1) h.1 dX7_bytesOf_19 (fun I13 hI => ?_)
    replace h := h.2
    replace h := h I13 hI; clear hI
    refine r_aload_n 20 hC dX7_bytesOf_20 rfl rfl ?_
    refine r_dup 21 hC dX7_bytesOf_21 rfl ?_
    refine r_getI7 22 (x := I13 (q0) 10) hC hk0 10 (by decide) tw_1189 rfl rfl dX7_bytesOf_22 ?_
    refine r_iconst 25 (v := 1) hC dX7_bytesOf_25 (by decide) ?_
    refine r_iadd 26 hC dX7_bytesOf_26 ?_
    refine r_putI7 27 hC hk0 10 (by decide) tw_1189 rfl rfl (by decide +kernel) ps_7_10 dX7_bytesOf_27 (fun I14 hI => ?_)
    replace h := h I14 hI; clear hI
    refine r_iinc 30 (v := x12 + (-8)) [some (.ref (q0)), some (.int (x1)), some (.int (x12 + (-8)))] hC dX7_bytesOf_30 rfl (by rfl) (by decide) rfl ?_
    refine r_goto 33 3 hC dX7_bytesOf_33 (by decide) ?_
    exact h

def wX7_append (G : pm_G) (q0 : Nat) (x1 : Int32) (x2 : Int32) (x3 : Int32) (x4 : Int32) (x5 : Int32) (I : pm_I) (K : Int32 → pm_I → Prop) : Prop :=
  ∀ I10 : pm_I, I10 = pm_up I (q0) 0 (0) → ((((I10 q0 10) + 20) ≤ 600 → (wX7_bytesOf G (q0) (x1) I10 (fun I11 => wX7_bytesOf G (q0) (x2) I11 (fun I12 => wX7_bytesOf G (q0) (x3) I12 (fun I13 => wX7_bytesOf G (q0) (x4) I13 (fun I14 => wX7_bytesOf G (q0) (x5) I14 (fun I15 => K (I15 (q0) 10) I15))))))) ∧ (¬ ((I10 q0 10) + 20) ≤ 600 → (K (-1) I10)))

set_option maxRecDepth 20000 in
theorem sX7_append {G : pm_G} {l : Launch} (hG : pm_ok G) (q0 : Nat) (x1 : Int32) (x2 : Int32) (x3 : Int32) (x4 : Int32) (x5 : Int32) (I : pm_I) (K : Int32 → pm_I → Prop) (hk0 : pm_k G q0 (.inl 7)) (h : wX7_append G q0 x1 x2 x3 x4 x5 I K) : pm_Ct G l yX7_append cX7_append 6 (some .int) { frames := 2, cells := 0, slots := 0, locals := 150 } [.ref (q0), .int (x1), .int (x2), .int (x3), .int (x4), .int (x5)] I (pm_Ki K) := by
  unfold wX7_append at h
  refine pm_enter (by decide +kernel) hG rfl (Nat.le_of_ble_eq_true rfl) rfl (fun X hl hC hE => ?_)
  subst hl
  have hab : 0 ≤ 0 ∧ 0 ≤ 0 := ⟨Nat.le_refl 0, Nat.le_refl 0⟩
  have hC : pm_C G X cX7_append 6 RX7 (some .int) { frames := 2, cells := 0, slots := 0, locals := 150 } := hC
  refine r_aload_n 0 hC dX7_append_0 rfl rfl ?_
  refine r_iconst 1 (v := 0) hC dX7_append_1 (by decide) ?_
  refine r_putI7 2 hC hk0 0 (by decide) tw_1179 rfl rfl (by decide +kernel) ps_7_0 dX7_append_2 (fun I10 hI => ?_)
  replace h := h I10 hI; clear hI
  refine r_aload_n 5 hC dX7_append_5 rfl rfl ?_
  refine r_getI7 6 (x := I10 (q0) 10) hC hk0 10 (by decide) tw_1189 rfl rfl dX7_append_6 ?_
  refine r_bipush 9 (v := 20) hC dX7_append_9 (by decide) ?_
  refine r_iadd 11 hC dX7_append_11 ?_
  refine r_sipush 12 (v := 600) hC dX7_append_12 (by decide) ?_
  refine r_icmp_le 15 20 hC dX7_append_15 (by decide) (fun hc => ?_) (fun hc => ?_)
  · replace h := h.1 hc
    refine r_aload_n 20 hC dX7_append_20 rfl rfl ?_
    refine r_iload_n 21 hC dX7_append_21 rfl rfl ?_
    refine r_callV_v 22 (n := 1) [.int (x1)] [] hC hk0 rfl dX7_append_22 (by decide) (by decide) tw_1281 tw_135 ⟨by decide, by decide, by decide +kernel⟩ tw_1278 tw_1280 tw_80 rfl rfl (sX7_bytesOf (l := pm_l X) hG (q0) (x1) _ _ hk0 h) hab (Nat.le_of_ble_eq_true rfl) ?_
    clear h; intro I11 h
    refine r_aload_n 25 hC dX7_append_25 rfl rfl ?_
    refine r_iload_n 26 hC dX7_append_26 rfl rfl ?_
    refine r_callV_v 27 (n := 1) [.int (x2)] [] hC hk0 rfl dX7_append_27 (by decide) (by decide) tw_1281 tw_135 ⟨by decide, by decide, by decide +kernel⟩ tw_1278 tw_1280 tw_80 rfl rfl (sX7_bytesOf (l := pm_l X) hG (q0) (x2) _ _ hk0 h) hab (Nat.le_of_ble_eq_true rfl) ?_
    clear h; intro I12 h
    refine r_aload_n 30 hC dX7_append_30 rfl rfl ?_
    refine r_iload_n 31 hC dX7_append_31 rfl rfl ?_
    refine r_callV_v 32 (n := 1) [.int (x3)] [] hC hk0 rfl dX7_append_32 (by decide) (by decide) tw_1281 tw_135 ⟨by decide, by decide, by decide +kernel⟩ tw_1278 tw_1280 tw_80 rfl rfl (sX7_bytesOf (l := pm_l X) hG (q0) (x3) _ _ hk0 h) hab (Nat.le_of_ble_eq_true rfl) ?_
    clear h; intro I13 h
    refine r_aload_n 35 hC dX7_append_35 rfl rfl ?_
    refine r_iload 36 hC dX7_append_36 rfl ?_
    refine r_callV_v 38 (n := 1) [.int (x4)] [] hC hk0 rfl dX7_append_38 (by decide) (by decide) tw_1281 tw_135 ⟨by decide, by decide, by decide +kernel⟩ tw_1278 tw_1280 tw_80 rfl rfl (sX7_bytesOf (l := pm_l X) hG (q0) (x4) _ _ hk0 h) hab (Nat.le_of_ble_eq_true rfl) ?_
    clear h; intro I14 h
    refine r_aload_n 41 hC dX7_append_41 rfl rfl ?_
    refine r_iload 42 hC dX7_append_42 rfl ?_
    refine r_callV_v 44 (n := 1) [.int (x5)] [] hC hk0 rfl dX7_append_44 (by decide) (by decide) tw_1281 tw_135 ⟨by decide, by decide, by decide +kernel⟩ tw_1278 tw_1280 tw_80 rfl rfl (sX7_bytesOf (l := pm_l X) hG (q0) (x5) _ _ hk0 h) hab (Nat.le_of_ble_eq_true rfl) ?_
    clear h; intro I15 h
    refine r_aload_n 47 hC dX7_append_47 rfl rfl ?_
    refine r_getI7 48 (x := I15 (q0) 10) hC hk0 10 (by decide) tw_1189 rfl rfl dX7_append_48 ?_
    exact r_iret 51 hC hE rfl dX7_append_51 ⟨_, rfl, h⟩
  · replace h := h.2 hc
    refine r_iconst 18 (v := -1) hC dX7_append_18 (by decide) ?_
    exact r_iret 19 hC hE rfl dX7_append_19 ⟨_, rfl, h⟩

def wX7_byteAt (G : pm_G) (q0 : Nat) (x1 : Int32) (I : pm_I) (K : Int32 → pm_I → Prop) : Prop :=
  ((I q0 11) ≤ x1 → (K (-1) I)) ∧ (¬ (I q0 11) ≤ x1 → (vp_in (x1) 600 ∧ (K ((I (q0 + 9) (x1).toNatClampNeg) &&& 255) I)))

set_option maxRecDepth 20000 in
theorem sX7_byteAt {G : pm_G} {l : Launch} (hG : pm_ok G) (q0 : Nat) (x1 : Int32) (I : pm_I) (K : Int32 → pm_I → Prop) (hk0 : pm_k G q0 (.inl 7)) (h : wX7_byteAt G q0 x1 I K) : pm_Ct G l yX7_byteAt cX7_byteAt 2 (some .int) { frames := 1, cells := 0, slots := 0, locals := 64 } [.ref (q0), .int (x1)] I (pm_Ki K) := by
  unfold wX7_byteAt at h
  refine pm_enter (by decide +kernel) hG rfl (Nat.le_of_ble_eq_true rfl) rfl (fun X hl hC hE => ?_)
  subst hl
  have hab : 0 ≤ 0 ∧ 0 ≤ 0 := ⟨Nat.le_refl 0, Nat.le_refl 0⟩
  have hC : pm_C G X cX7_byteAt 2 RX7 (some .int) { frames := 1, cells := 0, slots := 0, locals := 64 } := hC
  refine r_iload_n 0 hC dX7_byteAt_0 rfl rfl ?_
  refine r_aload_n 1 hC dX7_byteAt_1 rfl rfl ?_
  refine r_getI7 2 (x := I (q0) 11) hC hk0 11 (by decide) tw_1190 rfl rfl dX7_byteAt_2 ?_
  refine r_icmp_ge 5 21 hC dX7_byteAt_5 (by decide) (fun hc => ?_) (fun hc => ?_)
  · replace h := h.1 hc
    refine r_iconst 21 (v := -1) hC dX7_byteAt_21 (by decide) ?_
    exact r_iret 22 hC hE rfl dX7_byteAt_22 ⟨_, rfl, h⟩
  · replace h := h.2 hc
    refine r_aload_n 8 hC dX7_byteAt_8 rfl rfl ?_
    refine r_getR7 9 (r1 := q0 + 9) hC hk0 9 (by decide) tw_1188 rfl rfl dX7_byteAt_9 ?_
    refine r_iload_n 12 hC dX7_byteAt_12 rfl rfl ?_
    refine r_bald 13 hC ((pm_s7 hG hk0).2.2.2.2.2.2.2.2.1) h.1 dX7_byteAt_13 ?_
    replace h := h.2
    refine r_sipush 14 (v := 255) hC dX7_byteAt_14 (by decide) ?_
    refine r_iand 17 hC dX7_byteAt_17 ?_
    refine r_goto 18 22 hC dX7_byteAt_18 (by decide) ?_
    exact r_iret 22 hC hE rfl dX7_byteAt_22 ⟨_, rfl, h⟩

def wX7_isSign (G : pm_G) (x0 : Int32) (I : pm_I) (K : Int32 → pm_I → Prop) : Prop :=
  (x0 = 59 → K 1 I) ∧ (¬ x0 = 59 → ((x0 = 40 → K 1 I) ∧ (¬ x0 = 40 → ((x0 = 41 → K 1 I) ∧ (¬ x0 = 41 → ((x0 = 43 → K 1 I) ∧ (¬ x0 = 43 → ((x0 = 45 → K 1 I) ∧ (¬ x0 = 45 → ((x0 = 42 → K 1 I) ∧ (¬ x0 = 42 → ((¬ x0 = 47 → K 0 I) ∧ (x0 = 47 → K 1 I)))))))))))))

set_option maxRecDepth 20000 in
theorem sX7_isSign {G : pm_G} {l : Launch} (hG : pm_ok G) (x0 : Int32) (I : pm_I) (K : Int32 → pm_I → Prop)  (h : wX7_isSign G x0 I K) : pm_Ct G l yX7_isSign cX7_isSign 1 (some .boolean) { frames := 1, cells := 0, slots := 0, locals := 64 } [.int (x0)] I (pm_Ki K) := by
  unfold wX7_isSign at h
  refine pm_enter (by decide +kernel) hG rfl (Nat.le_of_ble_eq_true rfl) rfl (fun X hl hC hE => ?_)
  subst hl
  have hab : 0 ≤ 0 ∧ 0 ≤ 0 := ⟨Nat.le_refl 0, Nat.le_refl 0⟩
  have hC : pm_C G X cX7_isSign 1 RX7 (some .boolean) { frames := 1, cells := 0, slots := 0, locals := 64 } := hC
  refine r_iload_n 0 hC dX7_isSign_0 rfl rfl ?_
  refine r_bipush 1 (v := 59) hC dX7_isSign_1 (by decide) ?_
  refine r_icmp_eq 3 42 hC dX7_isSign_3 (by decide) (fun hc => ?_) (fun hc => ?_)
  · replace h := h.1 hc
    refine r_iconst 42 (v := 1) hC dX7_isSign_42 (by decide) ?_
    refine r_goto 43 47 hC dX7_isSign_43 (by decide) ?_
    exact r_iret 47 hC hE rfl dX7_isSign_47 ⟨_, rfl, h⟩
  · replace h := h.2 hc
    refine r_iload_n 6 hC dX7_isSign_6 rfl rfl ?_
    refine r_bipush 7 (v := 40) hC dX7_isSign_7 (by decide) ?_
    refine r_icmp_eq 9 42 hC dX7_isSign_9 (by decide) (fun hc => ?_) (fun hc => ?_)
    · replace h := h.1 hc
      refine r_iconst 42 (v := 1) hC dX7_isSign_42 (by decide) ?_
      refine r_goto 43 47 hC dX7_isSign_43 (by decide) ?_
      exact r_iret 47 hC hE rfl dX7_isSign_47 ⟨_, rfl, h⟩
    · replace h := h.2 hc
      refine r_iload_n 12 hC dX7_isSign_12 rfl rfl ?_
      refine r_bipush 13 (v := 41) hC dX7_isSign_13 (by decide) ?_
      refine r_icmp_eq 15 42 hC dX7_isSign_15 (by decide) (fun hc => ?_) (fun hc => ?_)
      · replace h := h.1 hc
        refine r_iconst 42 (v := 1) hC dX7_isSign_42 (by decide) ?_
        refine r_goto 43 47 hC dX7_isSign_43 (by decide) ?_
        exact r_iret 47 hC hE rfl dX7_isSign_47 ⟨_, rfl, h⟩
      · replace h := h.2 hc
        refine r_iload_n 18 hC dX7_isSign_18 rfl rfl ?_
        refine r_bipush 19 (v := 43) hC dX7_isSign_19 (by decide) ?_
        refine r_icmp_eq 21 42 hC dX7_isSign_21 (by decide) (fun hc => ?_) (fun hc => ?_)
        · replace h := h.1 hc
          refine r_iconst 42 (v := 1) hC dX7_isSign_42 (by decide) ?_
          refine r_goto 43 47 hC dX7_isSign_43 (by decide) ?_
          exact r_iret 47 hC hE rfl dX7_isSign_47 ⟨_, rfl, h⟩
        · replace h := h.2 hc
          refine r_iload_n 24 hC dX7_isSign_24 rfl rfl ?_
          refine r_bipush 25 (v := 45) hC dX7_isSign_25 (by decide) ?_
          refine r_icmp_eq 27 42 hC dX7_isSign_27 (by decide) (fun hc => ?_) (fun hc => ?_)
          · replace h := h.1 hc
            refine r_iconst 42 (v := 1) hC dX7_isSign_42 (by decide) ?_
            refine r_goto 43 47 hC dX7_isSign_43 (by decide) ?_
            exact r_iret 47 hC hE rfl dX7_isSign_47 ⟨_, rfl, h⟩
          · replace h := h.2 hc
            refine r_iload_n 30 hC dX7_isSign_30 rfl rfl ?_
            refine r_bipush 31 (v := 42) hC dX7_isSign_31 (by decide) ?_
            refine r_icmp_eq 33 42 hC dX7_isSign_33 (by decide) (fun hc => ?_) (fun hc => ?_)
            · replace h := h.1 hc
              refine r_iconst 42 (v := 1) hC dX7_isSign_42 (by decide) ?_
              refine r_goto 43 47 hC dX7_isSign_43 (by decide) ?_
              exact r_iret 47 hC hE rfl dX7_isSign_47 ⟨_, rfl, h⟩
            · replace h := h.2 hc
              refine r_iload_n 36 hC dX7_isSign_36 rfl rfl ?_
              refine r_bipush 37 (v := 47) hC dX7_isSign_37 (by decide) ?_
              refine r_icmp_ne 39 46 hC dX7_isSign_39 (by decide) (fun hc => ?_) (fun hc => ?_)
              · replace h := h.1 hc
                refine r_iconst 46 (v := 0) hC dX7_isSign_46 (by decide) ?_
                exact r_iret 47 hC hE rfl dX7_isSign_47 ⟨_, rfl, h⟩
              · replace h := h.2 hc
                refine r_iconst 42 (v := 1) hC dX7_isSign_42 (by decide) ?_
                refine r_goto 43 47 hC dX7_isSign_43 (by decide) ?_
                exact r_iret 47 hC hE rfl dX7_isSign_47 ⟨_, rfl, h⟩

def wX7_advance (G : pm_G) (q0 : Nat) (I : pm_I) (K : pm_I → Prop) : Prop :=
  pm_lp1 (fun (P10 : pm_I → Prop)  (I11 : pm_I) => wX7_byteAt G (q0) (I11 (q0) 13) I11 (fun r13 I12 => (r13 = 32 → (∀ I14 : pm_I, I14 = pm_up I12 (q0) 13 ((I12 q0 13) + 1) → P10  I14)) ∧ (¬ r13 = 32 → (wX7_byteAt G (q0) (I12 (q0) 13) I12 (fun r16 I15 => (¬ r16 = 10 → (∀ I17 : pm_I, I17 = pm_up I15 (q0) 12 (I15 (q0) 13) → (∀ I18 : pm_I, I18 = pm_up I17 (q0) 15 (0) → (wX7_byteAt G (q0) (I18 (q0) 13) I18 (fun r20 I19 => (¬ r20 = (-1) → (wX7_within G (r20) (97) (122) I19 (fun r22 I21 => (r22 = 0 → (wX7_within G (r20) (48) (57) I21 (fun r24 I23 => (r24 = 0 → (∀ I25 : pm_I, I25 = pm_up I23 (q0) 13 ((I23 q0 13) + 1) → (∀ I26 : pm_I, I26 = pm_up I25 (q0) 15 (r20) → (wX7_isSign G (r20) I26 (fun r28 I27 => (r28 = 0 → (∀ I29 : pm_I, I29 = pm_up I27 (q0) 14 (4) → K I29)) ∧ (¬ r28 = 0 → (∀ I30 : pm_I, I30 = pm_up I27 (q0) 14 (3) → K I30))))))) ∧ (¬ r24 = 0 → (pm_lp1 (fun (P31 : pm_I → Prop)  (I32 : pm_I) => wX7_byteAt G (q0) (I32 (q0) 13) I32 (fun r34 I33 => wX7_within G (r34) (48) (57) I33 (fun r36 I35 => (r36 = 0 → ((((I35 q0 13) - (I35 q0 12)) ≤ 4 → (∀ I37 : pm_I, I37 = pm_up I35 (q0) 14 (2) → K I37)) ∧ (¬ ((I35 q0 13) - (I35 q0 12)) ≤ 4 → (∀ I38 : pm_I, I38 = pm_up I35 (q0) 14 (4) → K I38)))) ∧ (¬ r36 = 0 → ((4 ≤ ((I35 q0 13) - (I35 q0 12)) → (∀ I39 : pm_I, I39 = pm_up I35 (q0) 15 (I35 (q0) 15) → (∀ I40 : pm_I, I40 = pm_up I39 (q0) 13 ((I39 q0 13) + 1) → P31  I40))) ∧ (¬ 4 ≤ ((I35 q0 13) - (I35 q0 12)) → (wX7_byteAt G (q0) (I35 (q0) 13) I35 (fun r42 I41 => ∀ I43 : pm_I, I43 = pm_up I41 (q0) 15 (((10 * (I35 q0 15)) + r42) - 48) → (∀ I44 : pm_I, I44 = pm_up I43 (q0) 13 ((I43 q0 13) + 1) → P31  I44)))))))))  I23))))) ∧ (¬ r22 = 0 → (pm_lp1 (fun (P45 : pm_I → Prop)  (I46 : pm_I) => wX7_byteAt G (q0) (I46 (q0) 13) I46 (fun r48 I47 => wX7_within G (r48) (97) (122) I47 (fun r50 I49 => (r50 = 0 → ((((I49 q0 13) - (I49 q0 12)) ≤ 8 → (∀ I51 : pm_I, I51 = pm_up I49 (q0) 14 (1) → K I51)) ∧ (¬ ((I49 q0 13) - (I49 q0 12)) ≤ 8 → (∀ I52 : pm_I, I52 = pm_up I49 (q0) 14 (4) → K I52)))) ∧ (¬ r50 = 0 → (∀ I53 : pm_I, I53 = pm_up I49 (q0) 13 ((I49 q0 13) + 1) → P45  I53)))))  I21))))) ∧ (r20 = (-1) → (∀ I54 : pm_I, I54 = pm_up I19 (q0) 14 (0) → K I54))))))) ∧ (r16 = 10 → (∀ I55 : pm_I, I55 = pm_up I15 (q0) 13 ((I15 q0 13) + 1) → P10  I55)))))))  I

set_option maxRecDepth 20000 in
theorem sX7_advance {G : pm_G} {l : Launch} (hG : pm_ok G) (q0 : Nat) (I : pm_I) (K : pm_I → Prop) (hk0 : pm_k G q0 (.inl 7)) (h : wX7_advance G q0 I K) : pm_Ct G l yX7_advance cX7_advance 2 none { frames := 2, cells := 0, slots := 0, locals := 150 } [.ref (q0)] I (pm_Kv K) := by
  unfold wX7_advance at h
  refine pm_enter (by decide +kernel) hG rfl (Nat.le_of_ble_eq_true rfl) rfl (fun X hl hC hE => ?_)
  subst hl
  have hab : 0 ≤ 0 ∧ 0 ≤ 0 := ⟨Nat.le_refl 0, Nat.le_refl 0⟩
  have hC : pm_C G X cX7_advance 2 RX7 none { frames := 2, cells := 0, slots := 0, locals := 150 } := hC
  refine h (fun  I11 => pm_R G X 2 0 0 0 [some (.ref (q0)), none] [] I11) ?_
  clear h; intro  I11 h
  refine r_aload_n 0 hC dX7_advance_0 rfl rfl ?_
  refine r_aload_n 1 hC dX7_advance_1 rfl rfl ?_
  refine r_getI7 2 (x := I11 (q0) 13) hC hk0 13 (by decide) tw_1192 rfl rfl dX7_advance_2 ?_
  refine r_callV_i 5 (n := 1) [.int (I11 (q0) 13)] [] hC hk0 rfl dX7_advance_5 (by decide) (by decide) tw_1300 tw_135 ⟨by decide, by decide, by decide +kernel⟩ tw_1297 tw_1299 tw_83 rfl rfl (sX7_byteAt (l := pm_l X) hG (q0) (I11 (q0) 13) _ _ hk0 h) hab (Nat.le_of_ble_eq_true rfl) ?_
  clear h; intro r13 I12 h
  refine r_bipush 8 (v := 32) hC dX7_advance_8 (by decide) ?_
  refine r_icmp_eq 10 26 hC dX7_advance_10 (by decide) (fun hc => ?_) (fun hc => ?_)
  · replace h := h.1 hc
    refine r_aload_n 26 hC dX7_advance_26 rfl rfl ?_
    refine r_dup 27 hC dX7_advance_27 rfl ?_
    refine r_getI7 28 (x := I12 (q0) 13) hC hk0 13 (by decide) tw_1192 rfl rfl dX7_advance_28 ?_
    refine r_iconst 31 (v := 1) hC dX7_advance_31 (by decide) ?_
    refine r_iadd 32 hC dX7_advance_32 ?_
    refine r_putI7 33 hC hk0 13 (by decide) tw_1192 rfl rfl (by decide +kernel) ps_7_13 dX7_advance_33 (fun I14 hI => ?_)
    replace h := h I14 hI; clear hI
    refine r_goto 36 0 hC dX7_advance_36 (by decide) ?_
    exact h
  · replace h := h.2 hc
    refine r_aload_n 13 hC dX7_advance_13 rfl rfl ?_
    refine r_aload_n 14 hC dX7_advance_14 rfl rfl ?_
    refine r_getI7 15 (x := I12 (q0) 13) hC hk0 13 (by decide) tw_1192 rfl rfl dX7_advance_15 ?_
    refine r_callV_i 18 (n := 1) [.int (I12 (q0) 13)] [] hC hk0 rfl dX7_advance_18 (by decide) (by decide) tw_1300 tw_135 ⟨by decide, by decide, by decide +kernel⟩ tw_1297 tw_1299 tw_83 rfl rfl (sX7_byteAt (l := pm_l X) hG (q0) (I12 (q0) 13) _ _ hk0 h) hab (Nat.le_of_ble_eq_true rfl) ?_
    clear h; intro r16 I15 h
    refine r_bipush 21 (v := 10) hC dX7_advance_21 (by decide) ?_
    refine r_icmp_ne 23 39 hC dX7_advance_23 (by decide) (fun hc => ?_) (fun hc => ?_)
    · replace h := h.1 hc
      refine r_aload_n 39 hC dX7_advance_39 rfl rfl ?_
      refine r_aload_n 40 hC dX7_advance_40 rfl rfl ?_
      refine r_getI7 41 (x := I15 (q0) 13) hC hk0 13 (by decide) tw_1192 rfl rfl dX7_advance_41 ?_
      refine r_putI7 44 hC hk0 12 (by decide) tw_1191 rfl rfl (by decide +kernel) ps_7_12 dX7_advance_44 (fun I17 hI => ?_)
      replace h := h I17 hI; clear hI
      refine r_aload_n 47 hC dX7_advance_47 rfl rfl ?_
      refine r_iconst 48 (v := 0) hC dX7_advance_48 (by decide) ?_
      refine r_putI7 49 hC hk0 15 (by decide) tw_1194 rfl rfl (by decide +kernel) ps_7_15 dX7_advance_49 (fun I18 hI => ?_)
      replace h := h I18 hI; clear hI
      refine r_aload_n 52 hC dX7_advance_52 rfl rfl ?_
      refine r_aload_n 53 hC dX7_advance_53 rfl rfl ?_
      refine r_getI7 54 (x := I18 (q0) 13) hC hk0 13 (by decide) tw_1192 rfl rfl dX7_advance_54 ?_
      refine r_callV_i 57 (n := 1) [.int (I18 (q0) 13)] [] hC hk0 rfl dX7_advance_57 (by decide) (by decide) tw_1300 tw_135 ⟨by decide, by decide, by decide +kernel⟩ tw_1297 tw_1299 tw_83 rfl rfl (sX7_byteAt (l := pm_l X) hG (q0) (I18 (q0) 13) _ _ hk0 h) hab (Nat.le_of_ble_eq_true rfl) ?_
      clear h; intro r20 I19 h
      refine r_istore_n 60 [some (.ref (q0)), some (.int (r20))] hC dX7_advance_60 rfl (by decide) rfl ?_
      refine r_iload_n 61 hC dX7_advance_61 rfl rfl ?_
      refine r_iconst 62 (v := -1) hC dX7_advance_62 (by decide) ?_
      refine r_icmp_ne 63 74 hC dX7_advance_63 (by decide) (fun hc => ?_) (fun hc => ?_)
      · replace h := h.1 hc
        refine r_iload_n 74 hC dX7_advance_74 rfl rfl ?_
        refine r_bipush 75 (v := 97) hC dX7_advance_75 (by decide) ?_
        refine r_bipush 77 (v := 122) hC dX7_advance_77 (by decide) ?_
        refine r_callS_i 79 (n := 3) [.int (r20), .int (97), .int (122)] [] hC dX7_advance_79 (by decide) (by decide) tw_1288 tw_135 ⟨by decide, by decide, by decide +kernel⟩ tw_1286 tw_1287 rfl rfl (sX7_within (l := pm_l X) hG (r20) (97) (122) _ _ h) hab (Nat.le_of_ble_eq_true rfl) ?_
        clear h; intro r22 I21 h
        refine r_if_eq 82 142 hC dX7_advance_82 (by decide) (fun hc => ?_) (fun hc => ?_)
        · replace h := h.1 hc
          refine r_iload_n 142 hC dX7_advance_142 rfl rfl ?_
          refine r_bipush 143 (v := 48) hC dX7_advance_143 (by decide) ?_
          refine r_bipush 145 (v := 57) hC dX7_advance_145 (by decide) ?_
          refine r_callS_i 147 (n := 3) [.int (r20), .int (48), .int (57)] [] hC dX7_advance_147 (by decide) (by decide) tw_1288 tw_135 ⟨by decide, by decide, by decide +kernel⟩ tw_1286 tw_1287 rfl rfl (sX7_within (l := pm_l X) hG (r20) (48) (57) _ _ h) hab (Nat.le_of_ble_eq_true rfl) ?_
          clear h; intro r24 I23 h
          refine r_if_eq 150 252 hC dX7_advance_150 (by decide) (fun hc => ?_) (fun hc => ?_)
          · replace h := h.1 hc
            refine r_aload_n 252 hC dX7_advance_252 rfl rfl ?_
            refine r_dup 253 hC dX7_advance_253 rfl ?_
            refine r_getI7 254 (x := I23 (q0) 13) hC hk0 13 (by decide) tw_1192 rfl rfl dX7_advance_254 ?_
            refine r_iconst 257 (v := 1) hC dX7_advance_257 (by decide) ?_
            refine r_iadd 258 hC dX7_advance_258 ?_
            refine r_putI7 259 hC hk0 13 (by decide) tw_1192 rfl rfl (by decide +kernel) ps_7_13 dX7_advance_259 (fun I25 hI => ?_)
            replace h := h I25 hI; clear hI
            refine r_aload_n 262 hC dX7_advance_262 rfl rfl ?_
            refine r_iload_n 263 hC dX7_advance_263 rfl rfl ?_
            refine r_putI7 264 hC hk0 15 (by decide) tw_1194 rfl rfl (by decide +kernel) ps_7_15 dX7_advance_264 (fun I26 hI => ?_)
            replace h := h I26 hI; clear hI
            refine r_aload_n 267 hC dX7_advance_267 rfl rfl ?_
            refine r_iload_n 268 hC dX7_advance_268 rfl rfl ?_
            refine r_callS_i 269 (n := 1) [.int (r20)] [.ref (q0)] hC dX7_advance_269 (by decide) (by decide) tw_1303 tw_135 ⟨by decide, by decide, by decide +kernel⟩ tw_1301 tw_1302 rfl rfl (sX7_isSign (l := pm_l X) hG (r20) _ _ h) hab (Nat.le_of_ble_eq_true rfl) ?_
            clear h; intro r28 I27 h
            refine r_if_eq 272 279 hC dX7_advance_272 (by decide) (fun hc => ?_) (fun hc => ?_)
            · replace h := h.1 hc
              refine r_iconst 279 (v := 4) hC dX7_advance_279 (by decide) ?_
              refine r_putI7 280 hC hk0 14 (by decide) tw_1193 rfl rfl (by decide +kernel) ps_7_14 dX7_advance_280 (fun I29 hI => ?_)
              replace h := h I29 hI; clear hI
              exact r_vret 283 hC hE dX7_advance_283 ⟨rfl, h⟩
            · replace h := h.2 hc
              refine r_iconst 275 (v := 3) hC dX7_advance_275 (by decide) ?_
              refine r_goto 276 280 hC dX7_advance_276 (by decide) ?_
              refine r_putI7 280 hC hk0 14 (by decide) tw_1193 rfl rfl (by decide +kernel) ps_7_14 dX7_advance_280 (fun I30 hI => ?_)
              replace h := h I30 hI; clear hI
              exact r_vret 283 hC hE dX7_advance_283 ⟨rfl, h⟩
          · replace h := h.2 hc
            refine r_weak (ls' := [some (.ref (q0)), none]) (And.intro rfl (trivial)) ?_
            refine h (fun  I32 => pm_R G X 2 0 0 153 [some (.ref (q0)), none] [] I32) ?_
            clear h; intro  I32 h
            refine r_aload_n 153 hC dX7_advance_153 rfl rfl ?_
            refine r_aload_n 154 hC dX7_advance_154 rfl rfl ?_
            refine r_getI7 155 (x := I32 (q0) 13) hC hk0 13 (by decide) tw_1192 rfl rfl dX7_advance_155 ?_
            refine r_callV_i 158 (n := 1) [.int (I32 (q0) 13)] [] hC hk0 rfl dX7_advance_158 (by decide) (by decide) tw_1300 tw_135 ⟨by decide, by decide, by decide +kernel⟩ tw_1297 tw_1299 tw_83 rfl rfl (sX7_byteAt (l := pm_l X) hG (q0) (I32 (q0) 13) _ _ hk0 h) hab (Nat.le_of_ble_eq_true rfl) ?_
            clear h; intro r34 I33 h
            refine r_bipush 161 (v := 48) hC dX7_advance_161 (by decide) ?_
            refine r_bipush 163 (v := 57) hC dX7_advance_163 (by decide) ?_
            refine r_callS_i 165 (n := 3) [.int (r34), .int (48), .int (57)] [] hC dX7_advance_165 (by decide) (by decide) tw_1288 tw_135 ⟨by decide, by decide, by decide +kernel⟩ tw_1286 tw_1287 rfl rfl (sX7_within (l := pm_l X) hG (r34) (48) (57) _ _ h) hab (Nat.le_of_ble_eq_true rfl) ?_
            clear h; intro r36 I35 h
            refine r_if_eq 168 227 hC dX7_advance_168 (by decide) (fun hc => ?_) (fun hc => ?_)
            · replace h := h.1 hc
              refine r_aload_n 227 hC dX7_advance_227 rfl rfl ?_
              refine r_aload_n 228 hC dX7_advance_228 rfl rfl ?_
              refine r_getI7 229 (x := I35 (q0) 13) hC hk0 13 (by decide) tw_1192 rfl rfl dX7_advance_229 ?_
              refine r_aload_n 232 hC dX7_advance_232 rfl rfl ?_
              refine r_getI7 233 (x := I35 (q0) 12) hC hk0 12 (by decide) tw_1191 rfl rfl dX7_advance_233 ?_
              refine r_isub 236 hC dX7_advance_236 ?_
              refine r_iconst 237 (v := 4) hC dX7_advance_237 (by decide) ?_
              refine r_icmp_le 238 245 hC dX7_advance_238 (by decide) (fun hc => ?_) (fun hc => ?_)
              · replace h := h.1 hc
                refine r_iconst 245 (v := 2) hC dX7_advance_245 (by decide) ?_
                refine r_putI7 246 hC hk0 14 (by decide) tw_1193 rfl rfl (by decide +kernel) ps_7_14 dX7_advance_246 (fun I37 hI => ?_)
                replace h := h I37 hI; clear hI
                refine r_goto 249 283 hC dX7_advance_249 (by decide) ?_
                exact r_vret 283 hC hE dX7_advance_283 ⟨rfl, h⟩
              · replace h := h.2 hc
                refine r_iconst 241 (v := 4) hC dX7_advance_241 (by decide) ?_
                refine r_goto 242 246 hC dX7_advance_242 (by decide) ?_
                refine r_putI7 246 hC hk0 14 (by decide) tw_1193 rfl rfl (by decide +kernel) ps_7_14 dX7_advance_246 (fun I38 hI => ?_)
                replace h := h I38 hI; clear hI
                refine r_goto 249 283 hC dX7_advance_249 (by decide) ?_
                exact r_vret 283 hC hE dX7_advance_283 ⟨rfl, h⟩
            · replace h := h.2 hc
              refine r_aload_n 171 hC dX7_advance_171 rfl rfl ?_
              refine r_aload_n 172 hC dX7_advance_172 rfl rfl ?_
              refine r_getI7 173 (x := I35 (q0) 13) hC hk0 13 (by decide) tw_1192 rfl rfl dX7_advance_173 ?_
              refine r_aload_n 176 hC dX7_advance_176 rfl rfl ?_
              refine r_getI7 177 (x := I35 (q0) 12) hC hk0 12 (by decide) tw_1191 rfl rfl dX7_advance_177 ?_
              refine r_isub 180 hC dX7_advance_180 ?_
              refine r_iconst 181 (v := 4) hC dX7_advance_181 (by decide) ?_
              refine r_icmp_ge 182 207 hC dX7_advance_182 (by decide) (fun hc => ?_) (fun hc => ?_)
              · replace h := h.1 hc
                refine r_aload_n 207 hC dX7_advance_207 rfl rfl ?_
                refine r_getI7 208 (x := I35 (q0) 15) hC hk0 15 (by decide) tw_1194 rfl rfl dX7_advance_208 ?_
                refine r_putI7 211 hC hk0 15 (by decide) tw_1194 rfl rfl (by decide +kernel) ps_7_15 dX7_advance_211 (fun I39 hI => ?_)
                replace h := h I39 hI; clear hI
                refine r_aload_n 214 hC dX7_advance_214 rfl rfl ?_
                refine r_dup 215 hC dX7_advance_215 rfl ?_
                refine r_getI7 216 (x := I39 (q0) 13) hC hk0 13 (by decide) tw_1192 rfl rfl dX7_advance_216 ?_
                refine r_iconst 219 (v := 1) hC dX7_advance_219 (by decide) ?_
                refine r_iadd 220 hC dX7_advance_220 ?_
                refine r_putI7 221 hC hk0 13 (by decide) tw_1192 rfl rfl (by decide +kernel) ps_7_13 dX7_advance_221 (fun I40 hI => ?_)
                replace h := h I40 hI; clear hI
                refine r_goto 224 153 hC dX7_advance_224 (by decide) ?_
                exact h
              · replace h := h.2 hc
                refine r_bipush 185 (v := 10) hC dX7_advance_185 (by decide) ?_
                refine r_aload_n 187 hC dX7_advance_187 rfl rfl ?_
                refine r_getI7 188 (x := I35 (q0) 15) hC hk0 15 (by decide) tw_1194 rfl rfl dX7_advance_188 ?_
                refine r_imul 191 hC dX7_advance_191 ?_
                refine r_aload_n 192 hC dX7_advance_192 rfl rfl ?_
                refine r_aload_n 193 hC dX7_advance_193 rfl rfl ?_
                refine r_getI7 194 (x := I35 (q0) 13) hC hk0 13 (by decide) tw_1192 rfl rfl dX7_advance_194 ?_
                refine r_callV_i 197 (n := 1) [.int (I35 (q0) 13)] [.int (10 * (I35 q0 15)), .ref (q0)] hC hk0 rfl dX7_advance_197 (by decide) (by decide) tw_1300 tw_135 ⟨by decide, by decide, by decide +kernel⟩ tw_1297 tw_1299 tw_83 rfl rfl (sX7_byteAt (l := pm_l X) hG (q0) (I35 (q0) 13) _ _ hk0 h) hab (Nat.le_of_ble_eq_true rfl) ?_
                clear h; intro r42 I41 h
                refine r_iadd 200 hC dX7_advance_200 ?_
                refine r_bipush 201 (v := 48) hC dX7_advance_201 (by decide) ?_
                refine r_isub 203 hC dX7_advance_203 ?_
                refine r_goto 204 211 hC dX7_advance_204 (by decide) ?_
                refine r_putI7 211 hC hk0 15 (by decide) tw_1194 rfl rfl (by decide +kernel) ps_7_15 dX7_advance_211 (fun I43 hI => ?_)
                replace h := h I43 hI; clear hI
                refine r_aload_n 214 hC dX7_advance_214 rfl rfl ?_
                refine r_dup 215 hC dX7_advance_215 rfl ?_
                refine r_getI7 216 (x := I43 (q0) 13) hC hk0 13 (by decide) tw_1192 rfl rfl dX7_advance_216 ?_
                refine r_iconst 219 (v := 1) hC dX7_advance_219 (by decide) ?_
                refine r_iadd 220 hC dX7_advance_220 ?_
                refine r_putI7 221 hC hk0 13 (by decide) tw_1192 rfl rfl (by decide +kernel) ps_7_13 dX7_advance_221 (fun I44 hI => ?_)
                replace h := h I44 hI; clear hI
                refine r_goto 224 153 hC dX7_advance_224 (by decide) ?_
                exact h
        · replace h := h.2 hc
          refine r_weak (ls' := [some (.ref (q0)), none]) (And.intro rfl (trivial)) ?_
          refine h (fun  I46 => pm_R G X 2 0 0 85 [some (.ref (q0)), none] [] I46) ?_
          clear h; intro  I46 h
          refine r_aload_n 85 hC dX7_advance_85 rfl rfl ?_
          refine r_aload_n 86 hC dX7_advance_86 rfl rfl ?_
          refine r_getI7 87 (x := I46 (q0) 13) hC hk0 13 (by decide) tw_1192 rfl rfl dX7_advance_87 ?_
          refine r_callV_i 90 (n := 1) [.int (I46 (q0) 13)] [] hC hk0 rfl dX7_advance_90 (by decide) (by decide) tw_1300 tw_135 ⟨by decide, by decide, by decide +kernel⟩ tw_1297 tw_1299 tw_83 rfl rfl (sX7_byteAt (l := pm_l X) hG (q0) (I46 (q0) 13) _ _ hk0 h) hab (Nat.le_of_ble_eq_true rfl) ?_
          clear h; intro r48 I47 h
          refine r_bipush 93 (v := 97) hC dX7_advance_93 (by decide) ?_
          refine r_bipush 95 (v := 122) hC dX7_advance_95 (by decide) ?_
          refine r_callS_i 97 (n := 3) [.int (r48), .int (97), .int (122)] [] hC dX7_advance_97 (by decide) (by decide) tw_1288 tw_135 ⟨by decide, by decide, by decide +kernel⟩ tw_1286 tw_1287 rfl rfl (sX7_within (l := pm_l X) hG (r48) (97) (122) _ _ h) hab (Nat.le_of_ble_eq_true rfl) ?_
          clear h; intro r50 I49 h
          refine r_if_eq 100 116 hC dX7_advance_100 (by decide) (fun hc => ?_) (fun hc => ?_)
          · replace h := h.1 hc
            refine r_aload_n 116 hC dX7_advance_116 rfl rfl ?_
            refine r_aload_n 117 hC dX7_advance_117 rfl rfl ?_
            refine r_getI7 118 (x := I49 (q0) 13) hC hk0 13 (by decide) tw_1192 rfl rfl dX7_advance_118 ?_
            refine r_aload_n 121 hC dX7_advance_121 rfl rfl ?_
            refine r_getI7 122 (x := I49 (q0) 12) hC hk0 12 (by decide) tw_1191 rfl rfl dX7_advance_122 ?_
            refine r_isub 125 hC dX7_advance_125 ?_
            refine r_bipush 126 (v := 8) hC dX7_advance_126 (by decide) ?_
            refine r_icmp_le 128 135 hC dX7_advance_128 (by decide) (fun hc => ?_) (fun hc => ?_)
            · replace h := h.1 hc
              refine r_iconst 135 (v := 1) hC dX7_advance_135 (by decide) ?_
              refine r_putI7 136 hC hk0 14 (by decide) tw_1193 rfl rfl (by decide +kernel) ps_7_14 dX7_advance_136 (fun I51 hI => ?_)
              replace h := h I51 hI; clear hI
              refine r_goto 139 283 hC dX7_advance_139 (by decide) ?_
              exact r_vret 283 hC hE dX7_advance_283 ⟨rfl, h⟩
            · replace h := h.2 hc
              refine r_iconst 131 (v := 4) hC dX7_advance_131 (by decide) ?_
              refine r_goto 132 136 hC dX7_advance_132 (by decide) ?_
              refine r_putI7 136 hC hk0 14 (by decide) tw_1193 rfl rfl (by decide +kernel) ps_7_14 dX7_advance_136 (fun I52 hI => ?_)
              replace h := h I52 hI; clear hI
              refine r_goto 139 283 hC dX7_advance_139 (by decide) ?_
              exact r_vret 283 hC hE dX7_advance_283 ⟨rfl, h⟩
          · replace h := h.2 hc
            refine r_aload_n 103 hC dX7_advance_103 rfl rfl ?_
            refine r_dup 104 hC dX7_advance_104 rfl ?_
            refine r_getI7 105 (x := I49 (q0) 13) hC hk0 13 (by decide) tw_1192 rfl rfl dX7_advance_105 ?_
            refine r_iconst 108 (v := 1) hC dX7_advance_108 (by decide) ?_
            refine r_iadd 109 hC dX7_advance_109 ?_
            refine r_putI7 110 hC hk0 13 (by decide) tw_1192 rfl rfl (by decide +kernel) ps_7_13 dX7_advance_110 (fun I53 hI => ?_)
            replace h := h I53 hI; clear hI
            refine r_goto 113 85 hC dX7_advance_113 (by decide) ?_
            exact h
      · replace h := h.2 hc
        refine r_aload_n 66 hC dX7_advance_66 rfl rfl ?_
        refine r_iconst 67 (v := 0) hC dX7_advance_67 (by decide) ?_
        refine r_putI7 68 hC hk0 14 (by decide) tw_1193 rfl rfl (by decide +kernel) ps_7_14 dX7_advance_68 (fun I54 hI => ?_)
        replace h := h I54 hI; clear hI
        refine r_goto 71 283 hC dX7_advance_71 (by decide) ?_
        exact r_vret 283 hC hE dX7_advance_283 ⟨rfl, h⟩
    · replace h := h.2 hc
      refine r_aload_n 26 hC dX7_advance_26 rfl rfl ?_
      refine r_dup 27 hC dX7_advance_27 rfl ?_
      refine r_getI7 28 (x := I15 (q0) 13) hC hk0 13 (by decide) tw_1192 rfl rfl dX7_advance_28 ?_
      refine r_iconst 31 (v := 1) hC dX7_advance_31 (by decide) ?_
      refine r_iadd 32 hC dX7_advance_32 ?_
      refine r_putI7 33 hC hk0 13 (by decide) tw_1192 rfl rfl (by decide +kernel) ps_7_13 dX7_advance_33 (fun I55 hI => ?_)
      replace h := h I55 hI; clear hI
      refine r_goto 36 0 hC dX7_advance_36 (by decide) ?_
      exact h

def wX7_isSignHere (G : pm_G) (q0 : Nat) (x1 : Int32) (I : pm_I) (K : Int32 → pm_I → Prop) : Prop :=
  (¬ (I q0 14) = 3 → K 0 I) ∧ ((I q0 14) = 3 → ((¬ (I q0 15) = x1 → K 0 I) ∧ ((I q0 15) = x1 → K 1 I)))

set_option maxRecDepth 20000 in
theorem sX7_isSignHere {G : pm_G} {l : Launch} (hG : pm_ok G) (q0 : Nat) (x1 : Int32) (I : pm_I) (K : Int32 → pm_I → Prop) (hk0 : pm_k G q0 (.inl 7)) (h : wX7_isSignHere G q0 x1 I K) : pm_Ct G l yX7_isSignHere cX7_isSignHere 2 (some .boolean) { frames := 1, cells := 0, slots := 0, locals := 64 } [.ref (q0), .int (x1)] I (pm_Ki K) := by
  unfold wX7_isSignHere at h
  refine pm_enter (by decide +kernel) hG rfl (Nat.le_of_ble_eq_true rfl) rfl (fun X hl hC hE => ?_)
  subst hl
  have hab : 0 ≤ 0 ∧ 0 ≤ 0 := ⟨Nat.le_refl 0, Nat.le_refl 0⟩
  have hC : pm_C G X cX7_isSignHere 2 RX7 (some .boolean) { frames := 1, cells := 0, slots := 0, locals := 64 } := hC
  refine r_aload_n 0 hC dX7_isSignHere_0 rfl rfl ?_
  refine r_getI7 1 (x := I (q0) 14) hC hk0 14 (by decide) tw_1193 rfl rfl dX7_isSignHere_1 ?_
  refine r_iconst 4 (v := 3) hC dX7_isSignHere_4 (by decide) ?_
  refine r_icmp_ne 5 20 hC dX7_isSignHere_5 (by decide) (fun hc => ?_) (fun hc => ?_)
  · replace h := h.1 hc
    refine r_iconst 20 (v := 0) hC dX7_isSignHere_20 (by decide) ?_
    exact r_iret 21 hC hE rfl dX7_isSignHere_21 ⟨_, rfl, h⟩
  · replace h := h.2 hc
    refine r_aload_n 8 hC dX7_isSignHere_8 rfl rfl ?_
    refine r_getI7 9 (x := I (q0) 15) hC hk0 15 (by decide) tw_1194 rfl rfl dX7_isSignHere_9 ?_
    refine r_iload_n 12 hC dX7_isSignHere_12 rfl rfl ?_
    refine r_icmp_ne 13 20 hC dX7_isSignHere_13 (by decide) (fun hc => ?_) (fun hc => ?_)
    · replace h := h.1 hc
      refine r_iconst 20 (v := 0) hC dX7_isSignHere_20 (by decide) ?_
      exact r_iret 21 hC hE rfl dX7_isSignHere_21 ⟨_, rfl, h⟩
    · replace h := h.2 hc
      refine r_iconst 16 (v := 1) hC dX7_isSignHere_16 (by decide) ?_
      refine r_goto 17 21 hC dX7_isSignHere_17 (by decide) ?_
      exact r_iret 21 hC hE rfl dX7_isSignHere_21 ⟨_, rfl, h⟩

def wX7_fails (G : pm_G) (q0 : Nat) (x1 : Int32) (I : pm_I) (K : Int32 → pm_I → Prop) : Prop :=
  (¬ (I q0 16) = 0 → K 0 I) ∧ ((I q0 16) = 0 → (∀ I10 : pm_I, I10 = pm_up I (q0) 16 (x1) → (∀ I11 : pm_I, I11 = pm_up I10 (q0) 17 (I10 (q0) 12) → K 0 I11)))

set_option maxRecDepth 20000 in
theorem sX7_fails {G : pm_G} {l : Launch} (hG : pm_ok G) (q0 : Nat) (x1 : Int32) (I : pm_I) (K : Int32 → pm_I → Prop) (hk0 : pm_k G q0 (.inl 7)) (h : wX7_fails G q0 x1 I K) : pm_Ct G l yX7_fails cX7_fails 2 (some .boolean) { frames := 1, cells := 0, slots := 0, locals := 64 } [.ref (q0), .int (x1)] I (pm_Ki K) := by
  unfold wX7_fails at h
  refine pm_enter (by decide +kernel) hG rfl (Nat.le_of_ble_eq_true rfl) rfl (fun X hl hC hE => ?_)
  subst hl
  have hab : 0 ≤ 0 ∧ 0 ≤ 0 := ⟨Nat.le_refl 0, Nat.le_refl 0⟩
  have hC : pm_C G X cX7_fails 2 RX7 (some .boolean) { frames := 1, cells := 0, slots := 0, locals := 64 } := hC
  refine r_aload_n 0 hC dX7_fails_0 rfl rfl ?_
  refine r_getI7 1 (x := I (q0) 16) hC hk0 16 (by decide) tw_1195 rfl rfl dX7_fails_1 ?_
  refine r_if_ne 4 20 hC dX7_fails_4 (by decide) (fun hc => ?_) (fun hc => ?_)
  · replace h := h.1 hc
    refine r_iconst 20 (v := 0) hC dX7_fails_20 (by decide) ?_
    exact r_iret 21 hC hE rfl dX7_fails_21 ⟨_, rfl, h⟩
  · replace h := h.2 hc
    refine r_aload_n 7 hC dX7_fails_7 rfl rfl ?_
    refine r_iload_n 8 hC dX7_fails_8 rfl rfl ?_
    refine r_putI7 9 hC hk0 16 (by decide) tw_1195 rfl rfl (by decide +kernel) ps_7_16 dX7_fails_9 (fun I10 hI => ?_)
    replace h := h I10 hI; clear hI
    refine r_aload_n 12 hC dX7_fails_12 rfl rfl ?_
    refine r_aload_n 13 hC dX7_fails_13 rfl rfl ?_
    refine r_getI7 14 (x := I10 (q0) 12) hC hk0 12 (by decide) tw_1191 rfl rfl dX7_fails_14 ?_
    refine r_putI7 17 hC hk0 17 (by decide) tw_1196 rfl rfl (by decide +kernel) ps_7_17 dX7_fails_17 (fun I11 hI => ?_)
    replace h := h I11 hI; clear hI
    refine r_iconst 20 (v := 0) hC dX7_fails_20 (by decide) ?_
    exact r_iret 21 hC hE rfl dX7_fails_21 ⟨_, rfl, h⟩

def wX7_sees (G : pm_G) (q0 : Nat) (x1 : Int32) (x2 : Int32) (I : pm_I) (K : Int32 → pm_I → Prop) : Prop :=
  ((I q0 14) = 2 → (wX7_within G (I (q0) 15) (x1) (x2) I (fun r11 I10 => (¬ r11 = 0 → (∀ I12 : pm_I, I12 = pm_up I10 (q0) 18 (I10 (q0) 15) → K 1 I12)) ∧ (r11 = 0 → (wX7_fails G (q0) (3) I10 (fun r14 I13 => ((r14) = 0 ∨ (r14) = 1) ∧ K (r14) I13)))))) ∧ (¬ (I q0 14) = 2 → (wX7_fails G (q0) (1) I (fun r16 I15 => ((r16) = 0 ∨ (r16) = 1) ∧ K (r16) I15)))

set_option maxRecDepth 20000 in
theorem sX7_sees {G : pm_G} {l : Launch} (hG : pm_ok G) (q0 : Nat) (x1 : Int32) (x2 : Int32) (I : pm_I) (K : Int32 → pm_I → Prop) (hk0 : pm_k G q0 (.inl 7)) (h : wX7_sees G q0 x1 x2 I K) : pm_Ct G l yX7_sees cX7_sees 3 (some .boolean) { frames := 2, cells := 0, slots := 0, locals := 150 } [.ref (q0), .int (x1), .int (x2)] I (pm_Ki K) := by
  unfold wX7_sees at h
  refine pm_enter (by decide +kernel) hG rfl (Nat.le_of_ble_eq_true rfl) rfl (fun X hl hC hE => ?_)
  subst hl
  have hab : 0 ≤ 0 ∧ 0 ≤ 0 := ⟨Nat.le_refl 0, Nat.le_refl 0⟩
  have hC : pm_C G X cX7_sees 3 RX7 (some .boolean) { frames := 2, cells := 0, slots := 0, locals := 150 } := hC
  refine r_aload_n 0 hC dX7_sees_0 rfl rfl ?_
  refine r_getI7 1 (x := I (q0) 14) hC hk0 14 (by decide) tw_1193 rfl rfl dX7_sees_1 ?_
  refine r_iconst 4 (v := 2) hC dX7_sees_4 (by decide) ?_
  refine r_icmp_eq 5 14 hC dX7_sees_5 (by decide) (fun hc => ?_) (fun hc => ?_)
  · replace h := h.1 hc
    refine r_aload_n 14 hC dX7_sees_14 rfl rfl ?_
    refine r_getI7 15 (x := I (q0) 15) hC hk0 15 (by decide) tw_1194 rfl rfl dX7_sees_15 ?_
    refine r_iload_n 18 hC dX7_sees_18 rfl rfl ?_
    refine r_iload_n 19 hC dX7_sees_19 rfl rfl ?_
    refine r_callS_i 20 (n := 3) [.int (I (q0) 15), .int (x1), .int (x2)] [] hC dX7_sees_20 (by decide) (by decide) tw_1288 tw_135 ⟨by decide, by decide, by decide +kernel⟩ tw_1286 tw_1287 rfl rfl (sX7_within (l := pm_l X) hG (I (q0) 15) (x1) (x2) _ _ h) hab (Nat.le_of_ble_eq_true rfl) ?_
    clear h; intro r11 I10 h
    refine r_if_ne 23 32 hC dX7_sees_23 (by decide) (fun hc => ?_) (fun hc => ?_)
    · replace h := h.1 hc
      refine r_aload_n 32 hC dX7_sees_32 rfl rfl ?_
      refine r_aload_n 33 hC dX7_sees_33 rfl rfl ?_
      refine r_getI7 34 (x := I10 (q0) 15) hC hk0 15 (by decide) tw_1194 rfl rfl dX7_sees_34 ?_
      refine r_putI7 37 hC hk0 18 (by decide) tw_1197 rfl rfl (by decide +kernel) ps_7_18 dX7_sees_37 (fun I12 hI => ?_)
      replace h := h I12 hI; clear hI
      refine r_iconst 40 (v := 1) hC dX7_sees_40 (by decide) ?_
      exact r_iret 41 hC hE rfl dX7_sees_41 ⟨_, rfl, h⟩
    · replace h := h.2 hc
      refine r_aload_n 26 hC dX7_sees_26 rfl rfl ?_
      refine r_iconst 27 (v := 3) hC dX7_sees_27 (by decide) ?_
      refine r_callV_i 28 (n := 1) [.int (3)] [] hC hk0 rfl dX7_sees_28 (by decide) (by decide) tw_1326 tw_135 ⟨by decide, by decide, by decide +kernel⟩ tw_1323 tw_1325 tw_88 rfl rfl (sX7_fails (l := pm_l X) hG (q0) (3) _ _ hk0 h) hab (Nat.le_of_ble_eq_true rfl) ?_
      clear h; intro r14 I13 h
      exact r_iret 31 hC hE (pm_nz h.1).1 dX7_sees_31 ⟨_, rfl, h.2⟩
  · replace h := h.2 hc
    refine r_aload_n 8 hC dX7_sees_8 rfl rfl ?_
    refine r_iconst 9 (v := 1) hC dX7_sees_9 (by decide) ?_
    refine r_callV_i 10 (n := 1) [.int (1)] [] hC hk0 rfl dX7_sees_10 (by decide) (by decide) tw_1326 tw_135 ⟨by decide, by decide, by decide +kernel⟩ tw_1323 tw_1325 tw_88 rfl rfl (sX7_fails (l := pm_l X) hG (q0) (1) _ _ hk0 h) hab (Nat.le_of_ble_eq_true rfl) ?_
    clear h; intro r16 I15 h
    exact r_iret 13 hC hE (pm_nz h.1).1 dX7_sees_13 ⟨_, rfl, h.2⟩

def wX7_takes (G : pm_G) (q0 : Nat) (x1 : Int32) (x2 : Int32) (I : pm_I) (K : Int32 → pm_I → Prop) : Prop :=
  wX7_sees G (q0) (x1) (x2) I (fun r11 I10 => (¬ r11 = 0 → (wX7_advance G (q0) I10 (fun I12 => K 1 I12))) ∧ (r11 = 0 → K 0 I10))

set_option maxRecDepth 20000 in
theorem sX7_takes {G : pm_G} {l : Launch} (hG : pm_ok G) (q0 : Nat) (x1 : Int32) (x2 : Int32) (I : pm_I) (K : Int32 → pm_I → Prop) (hk0 : pm_k G q0 (.inl 7)) (h : wX7_takes G q0 x1 x2 I K) : pm_Ct G l yX7_takes cX7_takes 3 (some .boolean) { frames := 3, cells := 0, slots := 0, locals := 236 } [.ref (q0), .int (x1), .int (x2)] I (pm_Ki K) := by
  unfold wX7_takes at h
  refine pm_enter (by decide +kernel) hG rfl (Nat.le_of_ble_eq_true rfl) rfl (fun X hl hC hE => ?_)
  subst hl
  have hab : 0 ≤ 0 ∧ 0 ≤ 0 := ⟨Nat.le_refl 0, Nat.le_refl 0⟩
  have hC : pm_C G X cX7_takes 3 RX7 (some .boolean) { frames := 3, cells := 0, slots := 0, locals := 236 } := hC
  refine r_aload_n 0 hC dX7_takes_0 rfl rfl ?_
  refine r_iload_n 1 hC dX7_takes_1 rfl rfl ?_
  refine r_iload_n 2 hC dX7_takes_2 rfl rfl ?_
  refine r_callV_i 3 (n := 2) [.int (x1), .int (x2)] [] hC hk0 rfl dX7_takes_3 (by decide) (by decide) tw_1334 tw_135 ⟨by decide, by decide, by decide +kernel⟩ tw_1331 tw_1333 tw_90 rfl rfl (sX7_sees (l := pm_l X) hG (q0) (x1) (x2) _ _ hk0 h) hab (Nat.le_of_ble_eq_true rfl) ?_
  clear h; intro r11 I10 h
  refine r_if_ne 6 11 hC dX7_takes_6 (by decide) (fun hc => ?_) (fun hc => ?_)
  · replace h := h.1 hc
    refine r_aload_n 11 hC dX7_takes_11 rfl rfl ?_
    refine r_callV_v 12 (n := 0) [] [] hC hk0 rfl dX7_takes_12 (by decide) (by decide) tw_1296 tw_135 ⟨by decide, by decide, by decide +kernel⟩ tw_1293 tw_1295 tw_82 rfl rfl (sX7_advance (l := pm_l X) hG (q0) _ _ hk0 h) hab (Nat.le_of_ble_eq_true rfl) ?_
    clear h; intro I12 h
    refine r_iconst 15 (v := 1) hC dX7_takes_15 (by decide) ?_
    exact r_iret 16 hC hE rfl dX7_takes_16 ⟨_, rfl, h⟩
  · replace h := h.2 hc
    refine r_iconst 9 (v := 0) hC dX7_takes_9 (by decide) ?_
    exact r_iret 10 hC hE rfl dX7_takes_10 ⟨_, rfl, h⟩

def wX7_starts (G : pm_G) (q0 : Nat) (x1 : Int32) (x2 : Int32) (I : pm_I) (K : Int32 → pm_I → Prop) : Prop :=
  (¬ x2 = 0 → (wX7_advance G (q0) I (fun I10 => K 1 I10))) ∧ (x2 = 0 → (wX7_fails G (q0) (x1) I (fun r12 I11 => ((r12) = 0 ∨ (r12) = 1) ∧ K (r12) I11)))

set_option maxRecDepth 20000 in
theorem sX7_starts {G : pm_G} {l : Launch} (hG : pm_ok G) (q0 : Nat) (x1 : Int32) (x2 : Int32) (I : pm_I) (K : Int32 → pm_I → Prop) (hk0 : pm_k G q0 (.inl 7)) (h : wX7_starts G q0 x1 x2 I K) : pm_Ct G l yX7_starts cX7_starts 3 (some .boolean) { frames := 3, cells := 0, slots := 0, locals := 235 } [.ref (q0), .int (x1), .int (x2)] I (pm_Ki K) := by
  unfold wX7_starts at h
  refine pm_enter (by decide +kernel) hG rfl (Nat.le_of_ble_eq_true rfl) rfl (fun X hl hC hE => ?_)
  subst hl
  have hab : 0 ≤ 0 ∧ 0 ≤ 0 := ⟨Nat.le_refl 0, Nat.le_refl 0⟩
  have hC : pm_C G X cX7_starts 3 RX7 (some .boolean) { frames := 3, cells := 0, slots := 0, locals := 235 } := hC
  refine r_iload_n 0 hC dX7_starts_0 rfl rfl ?_
  refine r_if_ne 1 10 hC dX7_starts_1 (by decide) (fun hc => ?_) (fun hc => ?_)
  · replace h := h.1 hc
    refine r_aload_n 10 hC dX7_starts_10 rfl rfl ?_
    refine r_callV_v 11 (n := 0) [] [] hC hk0 rfl dX7_starts_11 (by decide) (by decide) tw_1296 tw_135 ⟨by decide, by decide, by decide +kernel⟩ tw_1293 tw_1295 tw_82 rfl rfl (sX7_advance (l := pm_l X) hG (q0) _ _ hk0 h) hab (Nat.le_of_ble_eq_true rfl) ?_
    clear h; intro I10 h
    refine r_iconst 14 (v := 1) hC dX7_starts_14 (by decide) ?_
    exact r_iret 15 hC hE rfl dX7_starts_15 ⟨_, rfl, h⟩
  · replace h := h.2 hc
    refine r_aload_n 4 hC dX7_starts_4 rfl rfl ?_
    refine r_iload_n 5 hC dX7_starts_5 rfl rfl ?_
    refine r_callV_i 6 (n := 1) [.int (x1)] [] hC hk0 rfl dX7_starts_6 (by decide) (by decide) tw_1326 tw_135 ⟨by decide, by decide, by decide +kernel⟩ tw_1323 tw_1325 tw_88 rfl rfl (sX7_fails (l := pm_l X) hG (q0) (x1) _ _ hk0 h) hab (Nat.le_of_ble_eq_true rfl) ?_
    clear h; intro r12 I11 h
    exact r_iret 9 hC hE (pm_nz h.1).1 dX7_starts_9 ⟨_, rfl, h.2⟩

def wX7_once (G : pm_G) (q0 : Nat) (x1 : Int32) (I : pm_I) (K : Int32 → pm_I → Prop) : Prop :=
  wX7_has G (I (q0) 19) (x1) I (fun r11 I10 => (¬ r11 = 0 → (wX7_starts G (q0) (2) (0) I10 (fun r13 I12 => (¬ r13 = 0 → (∀ I14 : pm_I, I14 = pm_up I12 (q0) 19 ((I12 q0 19) ||| (1 <<< (x1 &&& 31))) → K 1 I14)) ∧ (r13 = 0 → K 0 I12)))) ∧ (r11 = 0 → (wX7_starts G (q0) (2) (1) I10 (fun r16 I15 => (¬ r16 = 0 → (∀ I17 : pm_I, I17 = pm_up I15 (q0) 19 ((I15 q0 19) ||| (1 <<< (x1 &&& 31))) → K 1 I17)) ∧ (r16 = 0 → K 0 I15)))))

set_option maxRecDepth 20000 in
theorem sX7_once {G : pm_G} {l : Launch} (hG : pm_ok G) (q0 : Nat) (x1 : Int32) (I : pm_I) (K : Int32 → pm_I → Prop) (hk0 : pm_k G q0 (.inl 7)) (h : wX7_once G q0 x1 I K) : pm_Ct G l yX7_once cX7_once 2 (some .boolean) { frames := 4, cells := 0, slots := 0, locals := 321 } [.ref (q0), .int (x1)] I (pm_Ki K) := by
  unfold wX7_once at h
  refine pm_enter (by decide +kernel) hG rfl (Nat.le_of_ble_eq_true rfl) rfl (fun X hl hC hE => ?_)
  subst hl
  have hab : 0 ≤ 0 ∧ 0 ≤ 0 := ⟨Nat.le_refl 0, Nat.le_refl 0⟩
  have hC : pm_C G X cX7_once 2 RX7 (some .boolean) { frames := 4, cells := 0, slots := 0, locals := 321 } := hC
  refine r_aload_n 0 hC dX7_once_0 rfl rfl ?_
  refine r_iconst 1 (v := 2) hC dX7_once_1 (by decide) ?_
  refine r_aload_n 2 hC dX7_once_2 rfl rfl ?_
  refine r_getI7 3 (x := I (q0) 19) hC hk0 19 (by decide) tw_1198 rfl rfl dX7_once_3 ?_
  refine r_iload_n 6 hC dX7_once_6 rfl rfl ?_
  refine r_callS_i 7 (n := 2) [.int (I (q0) 19), .int (x1)] [.int (2), .ref (q0)] hC dX7_once_7 (by decide) (by decide) tw_1348 tw_135 ⟨by decide, by decide, by decide +kernel⟩ tw_1346 tw_1347 rfl rfl (sX7_has (l := pm_l X) hG (I (q0) 19) (x1) _ _ h) hab (Nat.le_of_ble_eq_true rfl) ?_
  clear h; intro r11 I10 h
  refine r_if_ne 10 17 hC dX7_once_10 (by decide) (fun hc => ?_) (fun hc => ?_)
  · replace h := h.1 hc
    refine r_iconst 17 (v := 0) hC dX7_once_17 (by decide) ?_
    refine r_callV_i 18 (n := 2) [.int (2), .int (0)] [] hC hk0 rfl dX7_once_18 (by decide) (by decide) tw_1322 tw_135 ⟨by decide, by decide, by decide +kernel⟩ tw_1319 tw_1321 tw_87 rfl rfl (sX7_starts (l := pm_l X) hG (q0) (2) (0) _ _ hk0 h) hab (Nat.le_of_ble_eq_true rfl) ?_
    clear h; intro r13 I12 h
    refine r_if_ne 21 26 hC dX7_once_21 (by decide) (fun hc => ?_) (fun hc => ?_)
    · replace h := h.1 hc
      refine r_aload_n 26 hC dX7_once_26 rfl rfl ?_
      refine r_dup 27 hC dX7_once_27 rfl ?_
      refine r_getI7 28 (x := I12 (q0) 19) hC hk0 19 (by decide) tw_1198 rfl rfl dX7_once_28 ?_
      refine r_iconst 31 (v := 1) hC dX7_once_31 (by decide) ?_
      refine r_iload_n 32 hC dX7_once_32 rfl rfl ?_
      refine r_ishl 33 hC dX7_once_33 ?_
      refine r_ior 34 hC dX7_once_34 ?_
      refine r_putI7 35 hC hk0 19 (by decide) tw_1198 rfl rfl (by decide +kernel) ps_7_19 dX7_once_35 (fun I14 hI => ?_)
      replace h := h I14 hI; clear hI
      refine r_iconst 38 (v := 1) hC dX7_once_38 (by decide) ?_
      exact r_iret 39 hC hE rfl dX7_once_39 ⟨_, rfl, h⟩
    · replace h := h.2 hc
      refine r_iconst 24 (v := 0) hC dX7_once_24 (by decide) ?_
      exact r_iret 25 hC hE rfl dX7_once_25 ⟨_, rfl, h⟩
  · replace h := h.2 hc
    refine r_iconst 13 (v := 1) hC dX7_once_13 (by decide) ?_
    refine r_goto 14 18 hC dX7_once_14 (by decide) ?_
    refine r_callV_i 18 (n := 2) [.int (2), .int (1)] [] hC hk0 rfl dX7_once_18 (by decide) (by decide) tw_1322 tw_135 ⟨by decide, by decide, by decide +kernel⟩ tw_1319 tw_1321 tw_87 rfl rfl (sX7_starts (l := pm_l X) hG (q0) (2) (1) _ _ hk0 h) hab (Nat.le_of_ble_eq_true rfl) ?_
    clear h; intro r16 I15 h
    refine r_if_ne 21 26 hC dX7_once_21 (by decide) (fun hc => ?_) (fun hc => ?_)
    · replace h := h.1 hc
      refine r_aload_n 26 hC dX7_once_26 rfl rfl ?_
      refine r_dup 27 hC dX7_once_27 rfl ?_
      refine r_getI7 28 (x := I15 (q0) 19) hC hk0 19 (by decide) tw_1198 rfl rfl dX7_once_28 ?_
      refine r_iconst 31 (v := 1) hC dX7_once_31 (by decide) ?_
      refine r_iload_n 32 hC dX7_once_32 rfl rfl ?_
      refine r_ishl 33 hC dX7_once_33 ?_
      refine r_ior 34 hC dX7_once_34 ?_
      refine r_putI7 35 hC hk0 19 (by decide) tw_1198 rfl rfl (by decide +kernel) ps_7_19 dX7_once_35 (fun I17 hI => ?_)
      replace h := h I17 hI; clear hI
      refine r_iconst 38 (v := 1) hC dX7_once_38 (by decide) ?_
      exact r_iret 39 hC hE rfl dX7_once_39 ⟨_, rfl, h⟩
    · replace h := h.2 hc
      refine r_iconst 24 (v := 0) hC dX7_once_24 (by decide) ?_
      exact r_iret 25 hC hE rfl dX7_once_25 ⟨_, rfl, h⟩

def wX7_sets (G : pm_G) (q0 : Nat) (x1 : Int32) (x2 : Int32) (x3 : Int32) (I : pm_I) (K : Int32 → pm_I → Prop) : Prop :=
  wX7_takes G (q0) (x2) (x3) I (fun r11 I10 => (¬ r11 = 0 → (vp_in (4 + x1) 8 ∧ (∀ I12 : pm_I, I12 = pm_up I10 (q0 + 2) ((4 + x1).toNatClampNeg) (I10 (q0) 18) → K 1 I12))) ∧ (r11 = 0 → K 0 I10))

set_option maxRecDepth 20000 in
theorem sX7_sets {G : pm_G} {l : Launch} (hG : pm_ok G) (q0 : Nat) (x1 : Int32) (x2 : Int32) (x3 : Int32) (I : pm_I) (K : Int32 → pm_I → Prop) (hk0 : pm_k G q0 (.inl 7)) (h : wX7_sets G q0 x1 x2 x3 I K) : pm_Ct G l yX7_sets cX7_sets 4 (some .boolean) { frames := 4, cells := 0, slots := 0, locals := 322 } [.ref (q0), .int (x1), .int (x2), .int (x3)] I (pm_Ki K) := by
  unfold wX7_sets at h
  refine pm_enter (by decide +kernel) hG rfl (Nat.le_of_ble_eq_true rfl) rfl (fun X hl hC hE => ?_)
  subst hl
  have hab : 0 ≤ 0 ∧ 0 ≤ 0 := ⟨Nat.le_refl 0, Nat.le_refl 0⟩
  have hC : pm_C G X cX7_sets 4 RX7 (some .boolean) { frames := 4, cells := 0, slots := 0, locals := 322 } := hC
  refine r_aload_n 0 hC dX7_sets_0 rfl rfl ?_
  refine r_iload_n 1 hC dX7_sets_1 rfl rfl ?_
  refine r_iload_n 2 hC dX7_sets_2 rfl rfl ?_
  refine r_callV_i 3 (n := 2) [.int (x2), .int (x3)] [] hC hk0 rfl dX7_sets_3 (by decide) (by decide) tw_1330 tw_135 ⟨by decide, by decide, by decide +kernel⟩ tw_1327 tw_1329 tw_89 rfl rfl (sX7_takes (l := pm_l X) hG (q0) (x2) (x3) _ _ hk0 h) hab (Nat.le_of_ble_eq_true rfl) ?_
  clear h; intro r11 I10 h
  refine r_if_ne 6 11 hC dX7_sets_6 (by decide) (fun hc => ?_) (fun hc => ?_)
  · replace h := h.1 hc
    refine r_aload_n 11 hC dX7_sets_11 rfl rfl ?_
    refine r_getR7 12 (r1 := q0 + 2) hC hk0 2 (by decide) tw_1181 rfl rfl dX7_sets_12 ?_
    refine r_iconst 15 (v := 4) hC dX7_sets_15 (by decide) ?_
    refine r_iload_n 16 hC dX7_sets_16 rfl rfl ?_
    refine r_iadd 17 hC dX7_sets_17 ?_
    refine r_aload_n 18 hC dX7_sets_18 rfl rfl ?_
    refine r_getI7 19 (x := I10 (q0) 18) hC hk0 18 (by decide) tw_1197 rfl rfl dX7_sets_19 ?_
    refine r_iast 22 hC ((pm_s7 hG hk0).2.1) h.1 dX7_sets_22 (fun I12 hI => ?_)
    replace h := h.2
    replace h := h I12 hI; clear hI
    refine r_iconst 23 (v := 1) hC dX7_sets_23 (by decide) ?_
    exact r_iret 24 hC hE rfl dX7_sets_24 ⟨_, rfl, h⟩
  · replace h := h.2 hc
    refine r_iconst 9 (v := 0) hC dX7_sets_9 (by decide) ?_
    exact r_iret 10 hC hE rfl dX7_sets_10 ⟨_, rfl, h⟩

def wX7_closes (G : pm_G) (q0 : Nat) (x1 : Int32) (I : pm_I) (K : Int32 → pm_I → Prop) : Prop :=
  wX7_isSignHere G (q0) (x1) I (fun r11 I10 => (¬ r11 = 0 → (wX7_advance G (q0) I10 (fun I12 => K 1 I12))) ∧ (r11 = 0 → (wX7_fails G (q0) (1) I10 (fun r14 I13 => ((r14) = 0 ∨ (r14) = 1) ∧ K (r14) I13))))

set_option maxRecDepth 20000 in
theorem sX7_closes {G : pm_G} {l : Launch} (hG : pm_ok G) (q0 : Nat) (x1 : Int32) (I : pm_I) (K : Int32 → pm_I → Prop) (hk0 : pm_k G q0 (.inl 7)) (h : wX7_closes G q0 x1 I K) : pm_Ct G l yX7_closes cX7_closes 2 (some .boolean) { frames := 3, cells := 0, slots := 0, locals := 235 } [.ref (q0), .int (x1)] I (pm_Ki K) := by
  unfold wX7_closes at h
  refine pm_enter (by decide +kernel) hG rfl (Nat.le_of_ble_eq_true rfl) rfl (fun X hl hC hE => ?_)
  subst hl
  have hab : 0 ≤ 0 ∧ 0 ≤ 0 := ⟨Nat.le_refl 0, Nat.le_refl 0⟩
  have hC : pm_C G X cX7_closes 2 RX7 (some .boolean) { frames := 3, cells := 0, slots := 0, locals := 235 } := hC
  refine r_aload_n 0 hC dX7_closes_0 rfl rfl ?_
  refine r_iload_n 1 hC dX7_closes_1 rfl rfl ?_
  refine r_callV_i 2 (n := 1) [.int (x1)] [] hC hk0 rfl dX7_closes_2 (by decide) (by decide) tw_1370 tw_135 ⟨by decide, by decide, by decide +kernel⟩ tw_1367 tw_1369 tw_97 rfl rfl (sX7_isSignHere (l := pm_l X) hG (q0) (x1) _ _ hk0 h) hab (Nat.le_of_ble_eq_true rfl) ?_
  clear h; intro r11 I10 h
  refine r_if_ne 5 14 hC dX7_closes_5 (by decide) (fun hc => ?_) (fun hc => ?_)
  · replace h := h.1 hc
    refine r_aload_n 14 hC dX7_closes_14 rfl rfl ?_
    refine r_callV_v 15 (n := 0) [] [] hC hk0 rfl dX7_closes_15 (by decide) (by decide) tw_1296 tw_135 ⟨by decide, by decide, by decide +kernel⟩ tw_1293 tw_1295 tw_82 rfl rfl (sX7_advance (l := pm_l X) hG (q0) _ _ hk0 h) hab (Nat.le_of_ble_eq_true rfl) ?_
    clear h; intro I12 h
    refine r_iconst 18 (v := 1) hC dX7_closes_18 (by decide) ?_
    exact r_iret 19 hC hE rfl dX7_closes_19 ⟨_, rfl, h⟩
  · replace h := h.2 hc
    refine r_aload_n 8 hC dX7_closes_8 rfl rfl ?_
    refine r_iconst 9 (v := 1) hC dX7_closes_9 (by decide) ?_
    refine r_callV_i 10 (n := 1) [.int (1)] [] hC hk0 rfl dX7_closes_10 (by decide) (by decide) tw_1326 tw_135 ⟨by decide, by decide, by decide +kernel⟩ tw_1323 tw_1325 tw_88 rfl rfl (sX7_fails (l := pm_l X) hG (q0) (1) _ _ hk0 h) hab (Nat.le_of_ble_eq_true rfl) ?_
    clear h; intro r14 I13 h
    exact r_iret 13 hC hE (pm_nz h.1).1 dX7_closes_13 ⟨_, rfl, h.2⟩

def wX7_takesTwo (G : pm_G) (q0 : Nat) (I : pm_I) (K : Int32 → pm_I → Prop) : Prop :=
  wX7_advance G (q0) I (fun I10 => wX7_takes G (q0) (0) ((I10 (q0 + 2) (4 : Int32).toNatClampNeg) - 1) I10 (fun r12 I11 => (¬ r12 = 0 → (∀ I13 : pm_I, I13 = pm_up I11 (q0) 20 (I11 (q0) 18) → (wX7_sees G (q0) (0) ((I10 (q0 + 2) (4 : Int32).toNatClampNeg) - 1) I13 (fun r15 I14 => (r15 = 0 → K 0 I14) ∧ (¬ r15 = 0 → (((I14 q0 18) = (I14 q0 20) → (wX7_starts G (q0) (5) (0) I14 (fun r17 I16 => (¬ r17 = 0 → (∀ I18 : pm_I, I18 = pm_up I16 (q0) 21 (I16 (q0) 18) → K 1 I18)) ∧ (r17 = 0 → K 0 I16)))) ∧ (¬ (I14 q0 18) = (I14 q0 20) → (wX7_starts G (q0) (5) (1) I14 (fun r20 I19 => (¬ r20 = 0 → (∀ I21 : pm_I, I21 = pm_up I19 (q0) 21 (I19 (q0) 18) → K 1 I21)) ∧ (r20 = 0 → K 0 I19)))))))))) ∧ (r12 = 0 → K 0 I11)))

set_option maxRecDepth 20000 in
theorem sX7_takesTwo {G : pm_G} {l : Launch} (hG : pm_ok G) (q0 : Nat) (I : pm_I) (K : Int32 → pm_I → Prop) (hk0 : pm_k G q0 (.inl 7)) (h : wX7_takesTwo G q0 I K) : pm_Ct G l yX7_takesTwo cX7_takesTwo 2 (some .boolean) { frames := 4, cells := 0, slots := 0, locals := 322 } [.ref (q0)] I (pm_Ki K) := by
  unfold wX7_takesTwo at h
  refine pm_enter (by decide +kernel) hG rfl (Nat.le_of_ble_eq_true rfl) rfl (fun X hl hC hE => ?_)
  subst hl
  have hab : 0 ≤ 0 ∧ 0 ≤ 0 := ⟨Nat.le_refl 0, Nat.le_refl 0⟩
  have hC : pm_C G X cX7_takesTwo 2 RX7 (some .boolean) { frames := 4, cells := 0, slots := 0, locals := 322 } := hC
  refine r_aload_n 0 hC dX7_takesTwo_0 rfl rfl ?_
  refine r_callV_v 1 (n := 0) [] [] hC hk0 rfl dX7_takesTwo_1 (by decide) (by decide) tw_1296 tw_135 ⟨by decide, by decide, by decide +kernel⟩ tw_1293 tw_1295 tw_82 rfl rfl (sX7_advance (l := pm_l X) hG (q0) _ _ hk0 h) hab (Nat.le_of_ble_eq_true rfl) ?_
  clear h; intro I10 h
  refine r_aload_n 4 hC dX7_takesTwo_4 rfl rfl ?_
  refine r_getR7 5 (r1 := q0 + 2) hC hk0 2 (by decide) tw_1181 rfl rfl dX7_takesTwo_5 ?_
  refine r_iconst 8 (v := 4) hC dX7_takesTwo_8 (by decide) ?_
  refine r_iald 9 hC ((pm_s7 hG hk0).2.1) (by unfold vp_in; decide) dX7_takesTwo_9 ?_
  refine r_iconst 10 (v := 1) hC dX7_takesTwo_10 (by decide) ?_
  refine r_isub 11 hC dX7_takesTwo_11 ?_
  refine r_istore_n 12 [some (.ref (q0)), some (.int ((I10 (q0 + 2) (4 : Int32).toNatClampNeg) - 1))] hC dX7_takesTwo_12 rfl (by decide) rfl ?_
  refine r_aload_n 13 hC dX7_takesTwo_13 rfl rfl ?_
  refine r_iconst 14 (v := 0) hC dX7_takesTwo_14 (by decide) ?_
  refine r_iload_n 15 hC dX7_takesTwo_15 rfl rfl ?_
  refine r_callV_i 16 (n := 2) [.int (0), .int ((I10 (q0 + 2) (4 : Int32).toNatClampNeg) - 1)] [] hC hk0 rfl dX7_takesTwo_16 (by decide) (by decide) tw_1330 tw_135 ⟨by decide, by decide, by decide +kernel⟩ tw_1327 tw_1329 tw_89 rfl rfl (sX7_takes (l := pm_l X) hG (q0) (0) ((I10 (q0 + 2) (4 : Int32).toNatClampNeg) - 1) _ _ hk0 h) hab (Nat.le_of_ble_eq_true rfl) ?_
  clear h; intro r12 I11 h
  refine r_if_ne 19 24 hC dX7_takesTwo_19 (by decide) (fun hc => ?_) (fun hc => ?_)
  · replace h := h.1 hc
    refine r_aload_n 24 hC dX7_takesTwo_24 rfl rfl ?_
    refine r_aload_n 25 hC dX7_takesTwo_25 rfl rfl ?_
    refine r_getI7 26 (x := I11 (q0) 18) hC hk0 18 (by decide) tw_1197 rfl rfl dX7_takesTwo_26 ?_
    refine r_putI7 29 hC hk0 20 (by decide) tw_1199 rfl rfl (by decide +kernel) ps_7_20 dX7_takesTwo_29 (fun I13 hI => ?_)
    replace h := h I13 hI; clear hI
    refine r_aload_n 32 hC dX7_takesTwo_32 rfl rfl ?_
    refine r_iconst 33 (v := 0) hC dX7_takesTwo_33 (by decide) ?_
    refine r_iload_n 34 hC dX7_takesTwo_34 rfl rfl ?_
    refine r_callV_i 35 (n := 2) [.int (0), .int ((I10 (q0 + 2) (4 : Int32).toNatClampNeg) - 1)] [] hC hk0 rfl dX7_takesTwo_35 (by decide) (by decide) tw_1334 tw_135 ⟨by decide, by decide, by decide +kernel⟩ tw_1331 tw_1333 tw_90 rfl rfl (sX7_sees (l := pm_l X) hG (q0) (0) ((I10 (q0 + 2) (4 : Int32).toNatClampNeg) - 1) _ _ hk0 h) hab (Nat.le_of_ble_eq_true rfl) ?_
    clear h; intro r15 I14 h
    refine r_if_eq 38 65 hC dX7_takesTwo_38 (by decide) (fun hc => ?_) (fun hc => ?_)
    · replace h := h.1 hc
      refine r_iconst 65 (v := 0) hC dX7_takesTwo_65 (by decide) ?_
      exact r_iret 66 hC hE rfl dX7_takesTwo_66 ⟨_, rfl, h⟩
    · replace h := h.2 hc
      refine r_aload_n 41 hC dX7_takesTwo_41 rfl rfl ?_
      refine r_iconst 42 (v := 5) hC dX7_takesTwo_42 (by decide) ?_
      refine r_aload_n 43 hC dX7_takesTwo_43 rfl rfl ?_
      refine r_getI7 44 (x := I14 (q0) 18) hC hk0 18 (by decide) tw_1197 rfl rfl dX7_takesTwo_44 ?_
      refine r_aload_n 47 hC dX7_takesTwo_47 rfl rfl ?_
      refine r_getI7 48 (x := I14 (q0) 20) hC hk0 20 (by decide) tw_1199 rfl rfl dX7_takesTwo_48 ?_
      refine r_icmp_eq 51 58 hC dX7_takesTwo_51 (by decide) (fun hc => ?_) (fun hc => ?_)
      · replace h := h.1 hc
        refine r_iconst 58 (v := 0) hC dX7_takesTwo_58 (by decide) ?_
        refine r_callV_i 59 (n := 2) [.int (5), .int (0)] [] hC hk0 rfl dX7_takesTwo_59 (by decide) (by decide) tw_1322 tw_135 ⟨by decide, by decide, by decide +kernel⟩ tw_1319 tw_1321 tw_87 rfl rfl (sX7_starts (l := pm_l X) hG (q0) (5) (0) _ _ hk0 h) hab (Nat.le_of_ble_eq_true rfl) ?_
        clear h; intro r17 I16 h
        refine r_if_ne 62 67 hC dX7_takesTwo_62 (by decide) (fun hc => ?_) (fun hc => ?_)
        · replace h := h.1 hc
          refine r_aload_n 67 hC dX7_takesTwo_67 rfl rfl ?_
          refine r_aload_n 68 hC dX7_takesTwo_68 rfl rfl ?_
          refine r_getI7 69 (x := I16 (q0) 18) hC hk0 18 (by decide) tw_1197 rfl rfl dX7_takesTwo_69 ?_
          refine r_putI7 72 hC hk0 21 (by decide) tw_1200 rfl rfl (by decide +kernel) ps_7_21 dX7_takesTwo_72 (fun I18 hI => ?_)
          replace h := h I18 hI; clear hI
          refine r_iconst 75 (v := 1) hC dX7_takesTwo_75 (by decide) ?_
          exact r_iret 76 hC hE rfl dX7_takesTwo_76 ⟨_, rfl, h⟩
        · replace h := h.2 hc
          refine r_iconst 65 (v := 0) hC dX7_takesTwo_65 (by decide) ?_
          exact r_iret 66 hC hE rfl dX7_takesTwo_66 ⟨_, rfl, h⟩
      · replace h := h.2 hc
        refine r_iconst 54 (v := 1) hC dX7_takesTwo_54 (by decide) ?_
        refine r_goto 55 59 hC dX7_takesTwo_55 (by decide) ?_
        refine r_callV_i 59 (n := 2) [.int (5), .int (1)] [] hC hk0 rfl dX7_takesTwo_59 (by decide) (by decide) tw_1322 tw_135 ⟨by decide, by decide, by decide +kernel⟩ tw_1319 tw_1321 tw_87 rfl rfl (sX7_starts (l := pm_l X) hG (q0) (5) (1) _ _ hk0 h) hab (Nat.le_of_ble_eq_true rfl) ?_
        clear h; intro r20 I19 h
        refine r_if_ne 62 67 hC dX7_takesTwo_62 (by decide) (fun hc => ?_) (fun hc => ?_)
        · replace h := h.1 hc
          refine r_aload_n 67 hC dX7_takesTwo_67 rfl rfl ?_
          refine r_aload_n 68 hC dX7_takesTwo_68 rfl rfl ?_
          refine r_getI7 69 (x := I19 (q0) 18) hC hk0 18 (by decide) tw_1197 rfl rfl dX7_takesTwo_69 ?_
          refine r_putI7 72 hC hk0 21 (by decide) tw_1200 rfl rfl (by decide +kernel) ps_7_21 dX7_takesTwo_72 (fun I21 hI => ?_)
          replace h := h I21 hI; clear hI
          refine r_iconst 75 (v := 1) hC dX7_takesTwo_75 (by decide) ?_
          exact r_iret 76 hC hE rfl dX7_takesTwo_76 ⟨_, rfl, h⟩
        · replace h := h.2 hc
          refine r_iconst 65 (v := 0) hC dX7_takesTwo_65 (by decide) ?_
          exact r_iret 66 hC hE rfl dX7_takesTwo_66 ⟨_, rfl, h⟩
  · replace h := h.2 hc
    refine r_iconst 22 (v := 0) hC dX7_takesTwo_22 (by decide) ?_
    exact r_iret 23 hC hE rfl dX7_takesTwo_23 ⟨_, rfl, h⟩

def wX7_peerLine (G : pm_G) (q0 : Nat) (I : pm_I) (K : Int32 → pm_I → Prop) : Prop :=
  (8 ≤ (I (q0 + 2) (4 : Int32).toNatClampNeg) → (wX7_starts G (q0) (4) (0) I (fun r11 I10 => (r11 = 0 → K 0 I10) ∧ (¬ r11 = 0 → (wX7_takes G (q0) (0) (9) I10 (fun r13 I12 => (¬ r13 = 0 → (vp_in (8 + (I (q0 + 2) (4 : Int32).toNatClampNeg)) 16 ∧ (∀ I14 : pm_I, I14 = pm_up I12 (q0 + 3) ((8 + (I (q0 + 2) (4 : Int32).toNatClampNeg)).toNatClampNeg) (I12 (q0) 18) → (wX7_takes G (q0) (0) (9) I14 (fun r16 I15 => (¬ r16 = 0 → (vp_in (8 + (I (q0 + 2) (4 : Int32).toNatClampNeg)) 16 ∧ (∀ I17 : pm_I, I17 = pm_up I15 (q0 + 4) ((8 + (I (q0 + 2) (4 : Int32).toNatClampNeg)).toNatClampNeg) (I15 (q0) 18) → ((∀ I18 : pm_I, I18 = pm_up I17 (q0 + 2) ((4 : Int32).toNatClampNeg) ((I17 (q0 + 2) (4 : Int32).toNatClampNeg) + 1) → K 1 I18))))) ∧ (r16 = 0 → K 0 I15)))))) ∧ (r13 = 0 → K 0 I12))))))) ∧ (¬ 8 ≤ (I (q0 + 2) (4 : Int32).toNatClampNeg) → (wX7_starts G (q0) (4) (1) I (fun r20 I19 => (r20 = 0 → K 0 I19) ∧ (¬ r20 = 0 → (wX7_takes G (q0) (0) (9) I19 (fun r22 I21 => (¬ r22 = 0 → (vp_in (8 + (I (q0 + 2) (4 : Int32).toNatClampNeg)) 16 ∧ (∀ I23 : pm_I, I23 = pm_up I21 (q0 + 3) ((8 + (I (q0 + 2) (4 : Int32).toNatClampNeg)).toNatClampNeg) (I21 (q0) 18) → (wX7_takes G (q0) (0) (9) I23 (fun r25 I24 => (¬ r25 = 0 → (vp_in (8 + (I (q0 + 2) (4 : Int32).toNatClampNeg)) 16 ∧ (∀ I26 : pm_I, I26 = pm_up I24 (q0 + 4) ((8 + (I (q0 + 2) (4 : Int32).toNatClampNeg)).toNatClampNeg) (I24 (q0) 18) → ((∀ I27 : pm_I, I27 = pm_up I26 (q0 + 2) ((4 : Int32).toNatClampNeg) ((I26 (q0 + 2) (4 : Int32).toNatClampNeg) + 1) → K 1 I27))))) ∧ (r25 = 0 → K 0 I24)))))) ∧ (r22 = 0 → K 0 I21)))))))

set_option maxRecDepth 20000 in
theorem sX7_peerLine {G : pm_G} {l : Launch} (hG : pm_ok G) (q0 : Nat) (I : pm_I) (K : Int32 → pm_I → Prop) (hk0 : pm_k G q0 (.inl 7)) (h : wX7_peerLine G q0 I K) : pm_Ct G l yX7_peerLine cX7_peerLine 2 (some .boolean) { frames := 4, cells := 0, slots := 0, locals := 322 } [.ref (q0)] I (pm_Ki K) := by
  unfold wX7_peerLine at h
  refine pm_enter (by decide +kernel) hG rfl (Nat.le_of_ble_eq_true rfl) rfl (fun X hl hC hE => ?_)
  subst hl
  have hab : 0 ≤ 0 ∧ 0 ≤ 0 := ⟨Nat.le_refl 0, Nat.le_refl 0⟩
  have hC : pm_C G X cX7_peerLine 2 RX7 (some .boolean) { frames := 4, cells := 0, slots := 0, locals := 322 } := hC
  refine r_aload_n 0 hC dX7_peerLine_0 rfl rfl ?_
  refine r_getR7 1 (r1 := q0 + 2) hC hk0 2 (by decide) tw_1181 rfl rfl dX7_peerLine_1 ?_
  refine r_iconst 4 (v := 4) hC dX7_peerLine_4 (by decide) ?_
  refine r_iald 5 hC ((pm_s7 hG hk0).2.1) (by unfold vp_in; decide) dX7_peerLine_5 ?_
  refine r_istore_n 6 [some (.ref (q0)), some (.int (I (q0 + 2) (4 : Int32).toNatClampNeg))] hC dX7_peerLine_6 rfl (by decide) rfl ?_
  refine r_aload_n 7 hC dX7_peerLine_7 rfl rfl ?_
  refine r_iconst 8 (v := 4) hC dX7_peerLine_8 (by decide) ?_
  refine r_iload_n 9 hC dX7_peerLine_9 rfl rfl ?_
  refine r_bipush 10 (v := 8) hC dX7_peerLine_10 (by decide) ?_
  refine r_icmp_ge 12 19 hC dX7_peerLine_12 (by decide) (fun hc => ?_) (fun hc => ?_)
  · replace h := h.1 hc
    refine r_iconst 19 (v := 0) hC dX7_peerLine_19 (by decide) ?_
    refine r_callV_i 20 (n := 2) [.int (4), .int (0)] [] hC hk0 rfl dX7_peerLine_20 (by decide) (by decide) tw_1322 tw_135 ⟨by decide, by decide, by decide +kernel⟩ tw_1319 tw_1321 tw_87 rfl rfl (sX7_starts (l := pm_l X) hG (q0) (4) (0) _ _ hk0 h) hab (Nat.le_of_ble_eq_true rfl) ?_
    clear h; intro r11 I10 h
    refine r_if_eq 23 36 hC dX7_peerLine_23 (by decide) (fun hc => ?_) (fun hc => ?_)
    · replace h := h.1 hc
      refine r_iconst 36 (v := 0) hC dX7_peerLine_36 (by decide) ?_
      exact r_iret 37 hC hE rfl dX7_peerLine_37 ⟨_, rfl, h⟩
    · replace h := h.2 hc
      refine r_aload_n 26 hC dX7_peerLine_26 rfl rfl ?_
      refine r_iconst 27 (v := 0) hC dX7_peerLine_27 (by decide) ?_
      refine r_bipush 28 (v := 9) hC dX7_peerLine_28 (by decide) ?_
      refine r_callV_i 30 (n := 2) [.int (0), .int (9)] [] hC hk0 rfl dX7_peerLine_30 (by decide) (by decide) tw_1330 tw_135 ⟨by decide, by decide, by decide +kernel⟩ tw_1327 tw_1329 tw_89 rfl rfl (sX7_takes (l := pm_l X) hG (q0) (0) (9) _ _ hk0 h) hab (Nat.le_of_ble_eq_true rfl) ?_
      clear h; intro r13 I12 h
      refine r_if_ne 33 38 hC dX7_peerLine_33 (by decide) (fun hc => ?_) (fun hc => ?_)
      · replace h := h.1 hc
        refine r_aload_n 38 hC dX7_peerLine_38 rfl rfl ?_
        refine r_getR7 39 (r1 := q0 + 3) hC hk0 3 (by decide) tw_1182 rfl rfl dX7_peerLine_39 ?_
        refine r_bipush 42 (v := 8) hC dX7_peerLine_42 (by decide) ?_
        refine r_iload_n 44 hC dX7_peerLine_44 rfl rfl ?_
        refine r_iadd 45 hC dX7_peerLine_45 ?_
        refine r_aload_n 46 hC dX7_peerLine_46 rfl rfl ?_
        refine r_getI7 47 (x := I12 (q0) 18) hC hk0 18 (by decide) tw_1197 rfl rfl dX7_peerLine_47 ?_
        refine r_iast 50 hC ((pm_s7 hG hk0).2.2.1) h.1 dX7_peerLine_50 (fun I14 hI => ?_)
        replace h := h.2
        replace h := h I14 hI; clear hI
        refine r_aload_n 51 hC dX7_peerLine_51 rfl rfl ?_
        refine r_iconst 52 (v := 0) hC dX7_peerLine_52 (by decide) ?_
        refine r_bipush 53 (v := 9) hC dX7_peerLine_53 (by decide) ?_
        refine r_callV_i 55 (n := 2) [.int (0), .int (9)] [] hC hk0 rfl dX7_peerLine_55 (by decide) (by decide) tw_1330 tw_135 ⟨by decide, by decide, by decide +kernel⟩ tw_1327 tw_1329 tw_89 rfl rfl (sX7_takes (l := pm_l X) hG (q0) (0) (9) _ _ hk0 h) hab (Nat.le_of_ble_eq_true rfl) ?_
        clear h; intro r16 I15 h
        refine r_if_ne 58 63 hC dX7_peerLine_58 (by decide) (fun hc => ?_) (fun hc => ?_)
        · replace h := h.1 hc
          refine r_aload_n 63 hC dX7_peerLine_63 rfl rfl ?_
          refine r_getR7 64 (r1 := q0 + 4) hC hk0 4 (by decide) tw_1183 rfl rfl dX7_peerLine_64 ?_
          refine r_bipush 67 (v := 8) hC dX7_peerLine_67 (by decide) ?_
          refine r_iload_n 69 hC dX7_peerLine_69 rfl rfl ?_
          refine r_iadd 70 hC dX7_peerLine_70 ?_
          refine r_aload_n 71 hC dX7_peerLine_71 rfl rfl ?_
          refine r_getI7 72 (x := I15 (q0) 18) hC hk0 18 (by decide) tw_1197 rfl rfl dX7_peerLine_72 ?_
          refine r_iast 75 hC ((pm_s7 hG hk0).2.2.2.1) h.1 dX7_peerLine_75 (fun I17 hI => ?_)
          replace h := h.2
          replace h := h I17 hI; clear hI
          refine r_aload_n 76 hC dX7_peerLine_76 rfl rfl ?_
          refine r_getR7 77 (r1 := q0 + 2) hC hk0 2 (by decide) tw_1181 rfl rfl dX7_peerLine_77 ?_
          refine r_iconst 80 (v := 4) hC dX7_peerLine_80 (by decide) ?_
          refine r_dup2 81 hC dX7_peerLine_81 rfl rfl ?_
          refine r_iald 82 hC ((pm_s7 hG hk0).2.1) (by unfold vp_in; decide) dX7_peerLine_82 ?_
          refine r_iconst 83 (v := 1) hC dX7_peerLine_83 (by decide) ?_
          refine r_iadd 84 hC dX7_peerLine_84 ?_
          refine r_iast 85 hC ((pm_s7 hG hk0).2.1) (by unfold vp_in; decide) dX7_peerLine_85 (fun I18 hI => ?_)
          replace h := h I18 hI; clear hI
          refine r_iconst 86 (v := 1) hC dX7_peerLine_86 (by decide) ?_
          exact r_iret 87 hC hE rfl dX7_peerLine_87 ⟨_, rfl, h⟩
        · replace h := h.2 hc
          refine r_iconst 61 (v := 0) hC dX7_peerLine_61 (by decide) ?_
          exact r_iret 62 hC hE rfl dX7_peerLine_62 ⟨_, rfl, h⟩
      · replace h := h.2 hc
        refine r_iconst 36 (v := 0) hC dX7_peerLine_36 (by decide) ?_
        exact r_iret 37 hC hE rfl dX7_peerLine_37 ⟨_, rfl, h⟩
  · replace h := h.2 hc
    refine r_iconst 15 (v := 1) hC dX7_peerLine_15 (by decide) ?_
    refine r_goto 16 20 hC dX7_peerLine_16 (by decide) ?_
    refine r_callV_i 20 (n := 2) [.int (4), .int (1)] [] hC hk0 rfl dX7_peerLine_20 (by decide) (by decide) tw_1322 tw_135 ⟨by decide, by decide, by decide +kernel⟩ tw_1319 tw_1321 tw_87 rfl rfl (sX7_starts (l := pm_l X) hG (q0) (4) (1) _ _ hk0 h) hab (Nat.le_of_ble_eq_true rfl) ?_
    clear h; intro r20 I19 h
    refine r_if_eq 23 36 hC dX7_peerLine_23 (by decide) (fun hc => ?_) (fun hc => ?_)
    · replace h := h.1 hc
      refine r_iconst 36 (v := 0) hC dX7_peerLine_36 (by decide) ?_
      exact r_iret 37 hC hE rfl dX7_peerLine_37 ⟨_, rfl, h⟩
    · replace h := h.2 hc
      refine r_aload_n 26 hC dX7_peerLine_26 rfl rfl ?_
      refine r_iconst 27 (v := 0) hC dX7_peerLine_27 (by decide) ?_
      refine r_bipush 28 (v := 9) hC dX7_peerLine_28 (by decide) ?_
      refine r_callV_i 30 (n := 2) [.int (0), .int (9)] [] hC hk0 rfl dX7_peerLine_30 (by decide) (by decide) tw_1330 tw_135 ⟨by decide, by decide, by decide +kernel⟩ tw_1327 tw_1329 tw_89 rfl rfl (sX7_takes (l := pm_l X) hG (q0) (0) (9) _ _ hk0 h) hab (Nat.le_of_ble_eq_true rfl) ?_
      clear h; intro r22 I21 h
      refine r_if_ne 33 38 hC dX7_peerLine_33 (by decide) (fun hc => ?_) (fun hc => ?_)
      · replace h := h.1 hc
        refine r_aload_n 38 hC dX7_peerLine_38 rfl rfl ?_
        refine r_getR7 39 (r1 := q0 + 3) hC hk0 3 (by decide) tw_1182 rfl rfl dX7_peerLine_39 ?_
        refine r_bipush 42 (v := 8) hC dX7_peerLine_42 (by decide) ?_
        refine r_iload_n 44 hC dX7_peerLine_44 rfl rfl ?_
        refine r_iadd 45 hC dX7_peerLine_45 ?_
        refine r_aload_n 46 hC dX7_peerLine_46 rfl rfl ?_
        refine r_getI7 47 (x := I21 (q0) 18) hC hk0 18 (by decide) tw_1197 rfl rfl dX7_peerLine_47 ?_
        refine r_iast 50 hC ((pm_s7 hG hk0).2.2.1) h.1 dX7_peerLine_50 (fun I23 hI => ?_)
        replace h := h.2
        replace h := h I23 hI; clear hI
        refine r_aload_n 51 hC dX7_peerLine_51 rfl rfl ?_
        refine r_iconst 52 (v := 0) hC dX7_peerLine_52 (by decide) ?_
        refine r_bipush 53 (v := 9) hC dX7_peerLine_53 (by decide) ?_
        refine r_callV_i 55 (n := 2) [.int (0), .int (9)] [] hC hk0 rfl dX7_peerLine_55 (by decide) (by decide) tw_1330 tw_135 ⟨by decide, by decide, by decide +kernel⟩ tw_1327 tw_1329 tw_89 rfl rfl (sX7_takes (l := pm_l X) hG (q0) (0) (9) _ _ hk0 h) hab (Nat.le_of_ble_eq_true rfl) ?_
        clear h; intro r25 I24 h
        refine r_if_ne 58 63 hC dX7_peerLine_58 (by decide) (fun hc => ?_) (fun hc => ?_)
        · replace h := h.1 hc
          refine r_aload_n 63 hC dX7_peerLine_63 rfl rfl ?_
          refine r_getR7 64 (r1 := q0 + 4) hC hk0 4 (by decide) tw_1183 rfl rfl dX7_peerLine_64 ?_
          refine r_bipush 67 (v := 8) hC dX7_peerLine_67 (by decide) ?_
          refine r_iload_n 69 hC dX7_peerLine_69 rfl rfl ?_
          refine r_iadd 70 hC dX7_peerLine_70 ?_
          refine r_aload_n 71 hC dX7_peerLine_71 rfl rfl ?_
          refine r_getI7 72 (x := I24 (q0) 18) hC hk0 18 (by decide) tw_1197 rfl rfl dX7_peerLine_72 ?_
          refine r_iast 75 hC ((pm_s7 hG hk0).2.2.2.1) h.1 dX7_peerLine_75 (fun I26 hI => ?_)
          replace h := h.2
          replace h := h I26 hI; clear hI
          refine r_aload_n 76 hC dX7_peerLine_76 rfl rfl ?_
          refine r_getR7 77 (r1 := q0 + 2) hC hk0 2 (by decide) tw_1181 rfl rfl dX7_peerLine_77 ?_
          refine r_iconst 80 (v := 4) hC dX7_peerLine_80 (by decide) ?_
          refine r_dup2 81 hC dX7_peerLine_81 rfl rfl ?_
          refine r_iald 82 hC ((pm_s7 hG hk0).2.1) (by unfold vp_in; decide) dX7_peerLine_82 ?_
          refine r_iconst 83 (v := 1) hC dX7_peerLine_83 (by decide) ?_
          refine r_iadd 84 hC dX7_peerLine_84 ?_
          refine r_iast 85 hC ((pm_s7 hG hk0).2.1) (by unfold vp_in; decide) dX7_peerLine_85 (fun I27 hI => ?_)
          replace h := h I27 hI; clear hI
          refine r_iconst 86 (v := 1) hC dX7_peerLine_86 (by decide) ?_
          exact r_iret 87 hC hE rfl dX7_peerLine_87 ⟨_, rfl, h⟩
        · replace h := h.2 hc
          refine r_iconst 61 (v := 0) hC dX7_peerLine_61 (by decide) ?_
          exact r_iret 62 hC hE rfl dX7_peerLine_62 ⟨_, rfl, h⟩
      · replace h := h.2 hc
        refine r_iconst 36 (v := 0) hC dX7_peerLine_36 (by decide) ?_
        exact r_iret 37 hC hE rfl dX7_peerLine_37 ⟨_, rfl, h⟩

def wX7_joined (G : pm_G) (x0 : Int32) (x1 : Int32) (x2 : Int32) (I : pm_I) (K : Int32 → pm_I → Prop) : Prop :=
  ((x0) = (-1) → (K (x1 + x2) I)) ∧ ((x0) = (-2) → (K (x1 - x2) I)) ∧ ((x0) = (-3) → (K (x1 * x2) I)) ∧ (¬ ((x0) = (-1)) ∧ ¬ ((x0) = (-2)) ∧ ¬ ((x0) = (-3)) → ((¬ x2 = 0 → ((¬ (x2) = 0) ∧ (K (x1 / x2) I))) ∧ (x2 = 0 → (K (0) I))))

set_option maxRecDepth 20000 in
theorem sX7_joined {G : pm_G} {l : Launch} (hG : pm_ok G) (x0 : Int32) (x1 : Int32) (x2 : Int32) (I : pm_I) (K : Int32 → pm_I → Prop)  (h : wX7_joined G x0 x1 x2 I K) : pm_Ct G l yX7_joined cX7_joined 3 (some .int) { frames := 1, cells := 0, slots := 0, locals := 64 } [.int (x0), .int (x1), .int (x2)] I (pm_Ki K) := by
  unfold wX7_joined at h
  refine pm_enter (by decide +kernel) hG rfl (Nat.le_of_ble_eq_true rfl) rfl (fun X hl hC hE => ?_)
  subst hl
  have hab : 0 ≤ 0 ∧ 0 ≤ 0 := ⟨Nat.le_refl 0, Nat.le_refl 0⟩
  have hC : pm_C G X cX7_joined 3 RX7 (some .int) { frames := 1, cells := 0, slots := 0, locals := 64 } := hC
  refine r_iload_n 0 hC dX7_joined_0 rfl rfl ?_
  by_cases hs0 : (x0) = (-1)
  · replace h := h.1 hs0
    refine r_tabIn 1 28 (off := 27) hC dX7_joined_1 (by rw [hs0]; decide) (by rw [hs0]; decide) (by rw [hs0]; decide) (by decide) ?_
    refine r_iload_n 28 hC dX7_joined_28 rfl rfl ?_
    refine r_iload_n 29 hC dX7_joined_29 rfl rfl ?_
    refine r_iadd 30 hC dX7_joined_30 ?_
    exact r_iret 31 hC hE rfl dX7_joined_31 ⟨_, rfl, h⟩
  by_cases hs1 : (x0) = (-2)
  · replace h := h.2.1 hs1
    refine r_tabIn 1 32 (off := 31) hC dX7_joined_1 (by rw [hs1]; decide) (by rw [hs1]; decide) (by rw [hs1]; decide) (by decide) ?_
    refine r_iload_n 32 hC dX7_joined_32 rfl rfl ?_
    refine r_iload_n 33 hC dX7_joined_33 rfl rfl ?_
    refine r_isub 34 hC dX7_joined_34 ?_
    exact r_iret 35 hC hE rfl dX7_joined_35 ⟨_, rfl, h⟩
  by_cases hs2 : (x0) = (-3)
  · replace h := h.2.2.1 hs2
    refine r_tabIn 1 36 (off := 35) hC dX7_joined_1 (by rw [hs2]; decide) (by rw [hs2]; decide) (by rw [hs2]; decide) (by decide) ?_
    refine r_iload_n 36 hC dX7_joined_36 rfl rfl ?_
    refine r_iload_n 37 hC dX7_joined_37 rfl rfl ?_
    refine r_imul 38 hC dX7_joined_38 ?_
    exact r_iret 39 hC hE rfl dX7_joined_39 ⟨_, rfl, h⟩
  replace h := h.2.2.2 ⟨hs0, hs1, hs2⟩
  have hst : pm_R G X 3 0 0 40 [some (.int (x0)), some (.int (x1)), some (.int (x2))] [] I := by
    refine r_iload_n 40 hC dX7_joined_40 rfl rfl ?_
    refine r_if_ne 41 48 hC dX7_joined_41 (by decide) (fun hc => ?_) (fun hc => ?_)
    · replace h := h.1 hc
      refine r_iload_n 48 hC dX7_joined_48 rfl rfl ?_
      refine r_iload_n 49 hC dX7_joined_49 rfl rfl ?_
      refine r_idiv 50 hC dX7_joined_50 h.1 ?_
      replace h := h.2
      exact r_iret 51 hC hE rfl dX7_joined_51 ⟨_, rfl, h⟩
    · replace h := h.2 hc
      refine r_iconst 44 (v := 0) hC dX7_joined_44 (by decide) ?_
      refine r_goto 45 51 hC dX7_joined_45 (by decide) ?_
      exact r_iret 51 hC hE rfl dX7_joined_51 ⟨_, rfl, h⟩
  by_cases hlo : (x0).toInt < -3
  · exact r_tabOut 1 40 hC dX7_joined_1 (Or.inl hlo) (by decide) hst
  by_cases hhi : -1 < (x0).toInt
  · exact r_tabOut 1 40 hC dX7_joined_1 (Or.inr hhi) (by decide) hst
  have hal : (x0).toInt = -3 ∨ (x0).toInt = -2 ∨ (x0).toInt = -1 := by
    omega
  rcases hal with hv | hv | hv
  · exact absurd (Int32.toInt_inj.mp (by rw [hv]; decide)) hs2
  · exact absurd (Int32.toInt_inj.mp (by rw [hv]; decide)) hs1
  · exact absurd (Int32.toInt_inj.mp (by rw [hv]; decide)) hs0

def wX7_of (G : pm_G) (x0 : Int32) (x1 : Int32) (I : pm_I) (K : Int32 → pm_I → Prop) : Prop :=
  K ((17 + (134 * x0)) + x1) I

set_option maxRecDepth 20000 in
theorem sX7_of {G : pm_G} {l : Launch} (hG : pm_ok G) (x0 : Int32) (x1 : Int32) (I : pm_I) (K : Int32 → pm_I → Prop)  (h : wX7_of G x0 x1 I K) : pm_Ct G l yX7_of cX7_of 2 (some .int) { frames := 1, cells := 0, slots := 0, locals := 64 } [.int (x0), .int (x1)] I (pm_Ki K) := by
  unfold wX7_of at h
  refine pm_enter (by decide +kernel) hG rfl (Nat.le_of_ble_eq_true rfl) rfl (fun X hl hC hE => ?_)
  subst hl
  have hab : 0 ≤ 0 ∧ 0 ≤ 0 := ⟨Nat.le_refl 0, Nat.le_refl 0⟩
  have hC : pm_C G X cX7_of 2 RX7 (some .int) { frames := 1, cells := 0, slots := 0, locals := 64 } := hC
  refine r_bipush 0 (v := 17) hC dX7_of_0 (by decide) ?_
  refine r_sipush 2 (v := 134) hC dX7_of_2 (by decide) ?_
  refine r_iload_n 5 hC dX7_of_5 rfl rfl ?_
  refine r_imul 6 hC dX7_of_6 ?_
  refine r_iadd 7 hC dX7_of_7 ?_
  refine r_iload_n 8 hC dX7_of_8 rfl rfl ?_
  refine r_iadd 9 hC dX7_of_9 ?_
  exact r_iret 10 hC hE rfl dX7_of_10 ⟨_, rfl, h⟩

def wX7_isOpen (G : pm_G) (q0 : Nat) (x1 : Int32) (I : pm_I) (K : Int32 → pm_I → Prop) : Prop :=
  wX7_of G (x1) (0) I (fun r11 I10 => vp_in (r11) 821 ∧ ((¬ (I10 (q0 + 1) (r11).toNatClampNeg) = 1 → K 0 I10) ∧ ((I10 (q0 + 1) (r11).toNatClampNeg) = 1 → K 1 I10)))

set_option maxRecDepth 20000 in
theorem sX7_isOpen {G : pm_G} {l : Launch} (hG : pm_ok G) (q0 : Nat) (x1 : Int32) (I : pm_I) (K : Int32 → pm_I → Prop) (hk0 : pm_k G q0 (.inl 7)) (h : wX7_isOpen G q0 x1 I K) : pm_Ct G l yX7_isOpen cX7_isOpen 2 (some .boolean) { frames := 2, cells := 0, slots := 0, locals := 149 } [.ref (q0), .int (x1)] I (pm_Ki K) := by
  unfold wX7_isOpen at h
  refine pm_enter (by decide +kernel) hG rfl (Nat.le_of_ble_eq_true rfl) rfl (fun X hl hC hE => ?_)
  subst hl
  have hab : 0 ≤ 0 ∧ 0 ≤ 0 := ⟨Nat.le_refl 0, Nat.le_refl 0⟩
  have hC : pm_C G X cX7_isOpen 2 RX7 (some .boolean) { frames := 2, cells := 0, slots := 0, locals := 149 } := hC
  refine r_aload_n 0 hC dX7_isOpen_0 rfl rfl ?_
  refine r_getR7 1 (r1 := q0 + 1) hC hk0 1 (by decide) tw_1180 rfl rfl dX7_isOpen_1 ?_
  refine r_iload_n 4 hC dX7_isOpen_4 rfl rfl ?_
  refine r_iconst 5 (v := 0) hC dX7_isOpen_5 (by decide) ?_
  refine r_callS_i 6 (n := 2) [.int (x1), .int (0)] [.ref (q0 + 1)] hC dX7_isOpen_6 (by decide) (by decide) tw_1446 tw_135 ⟨by decide, by decide, by decide +kernel⟩ tw_1444 tw_1445 rfl rfl (sX7_of (l := pm_l X) hG (x1) (0) _ _ h) hab (Nat.le_of_ble_eq_true rfl) ?_
  clear h; intro r11 I10 h
  refine r_iald 9 hC ((pm_s7 hG hk0).1) h.1 dX7_isOpen_9 ?_
  replace h := h.2
  refine r_iconst 10 (v := 1) hC dX7_isOpen_10 (by decide) ?_
  refine r_icmp_ne 11 18 hC dX7_isOpen_11 (by decide) (fun hc => ?_) (fun hc => ?_)
  · replace h := h.1 hc
    refine r_iconst 18 (v := 0) hC dX7_isOpen_18 (by decide) ?_
    exact r_iret 19 hC hE rfl dX7_isOpen_19 ⟨_, rfl, h⟩
  · replace h := h.2 hc
    refine r_iconst 14 (v := 1) hC dX7_isOpen_14 (by decide) ?_
    refine r_goto 15 19 hC dX7_isOpen_15 (by decide) ?_
    exact r_iret 19 hC hE rfl dX7_isOpen_19 ⟨_, rfl, h⟩

def wX7_loadOf (G : pm_G) (q0 : Nat) (x1 : Int32) (I : pm_I) (K : Int32 → pm_I → Prop) : Prop :=
  pm_lp3 (fun (P10 : Int32 → Int32 → pm_I → Prop) (x12 : Int32) (x13 : Int32) (I11 : pm_I) => (6 ≤ x13 → (K (x12) I11)) ∧ (¬ 6 ≤ x13 → (wX7_isOpen G (q0) (x13) I11 (fun r15 I14 => (r15 = 0 → (P10 (x12 + 0) (x13 + 1) I14)) ∧ (¬ r15 = 0 → (wX7_of G (x13) (3) I14 (fun r17 I16 => vp_in (r17) 821 ∧ (((I16 (q0 + 1) (r17).toNatClampNeg) = x1 → (P10 (x12 + 1) (x13 + 1) I16)) ∧ (¬ (I16 (q0 + 1) (r17).toNatClampNeg) = x1 → (wX7_of G (x13) (4) I16 (fun r19 I18 => vp_in (r19) 821 ∧ ((¬ (I18 (q0 + 1) (r19).toNatClampNeg) = x1 → (P10 (x12 + 0) (x13 + 1) I18)) ∧ ((I18 (q0 + 1) (r19).toNatClampNeg) = x1 → (P10 (x12 + 1) (x13 + 1) I18)))))))))))))) (0) (0) I

set_option maxRecDepth 20000 in
theorem sX7_loadOf {G : pm_G} {l : Launch} (hG : pm_ok G) (q0 : Nat) (x1 : Int32) (I : pm_I) (K : Int32 → pm_I → Prop) (hk0 : pm_k G q0 (.inl 7)) (h : wX7_loadOf G q0 x1 I K) : pm_Ct G l yX7_loadOf cX7_loadOf 4 (some .int) { frames := 3, cells := 0, slots := 0, locals := 234 } [.ref (q0), .int (x1)] I (pm_Ki K) := by
  unfold wX7_loadOf at h
  refine pm_enter (by decide +kernel) hG rfl (Nat.le_of_ble_eq_true rfl) rfl (fun X hl hC hE => ?_)
  subst hl
  have hab : 0 ≤ 0 ∧ 0 ≤ 0 := ⟨Nat.le_refl 0, Nat.le_refl 0⟩
  have hC : pm_C G X cX7_loadOf 4 RX7 (some .int) { frames := 3, cells := 0, slots := 0, locals := 234 } := hC
  refine r_iconst 0 (v := 0) hC dX7_loadOf_0 (by decide) ?_
  refine r_istore_n 1 [some (.ref (q0)), some (.int (x1)), some (.int (0)), none] hC dX7_loadOf_1 rfl (by decide) rfl ?_
  refine r_iconst 2 (v := 0) hC dX7_loadOf_2 (by decide) ?_
  refine r_istore_n 3 [some (.ref (q0)), some (.int (x1)), some (.int (0)), some (.int (0))] hC dX7_loadOf_3 rfl (by decide) rfl ?_
  refine h (fun x12 x13 I11 => pm_R G X 4 0 0 4 [some (.ref (q0)), some (.int (x1)), some (.int (x12)), some (.int (x13))] [] I11) ?_
  clear h; intro x12 x13 I11 h
  refine r_iload_n 4 hC dX7_loadOf_4 rfl rfl ?_
  refine r_bipush 5 (v := 6) hC dX7_loadOf_5 (by decide) ?_
  refine r_icmp_ge 7 60 hC dX7_loadOf_7 (by decide) (fun hc => ?_) (fun hc => ?_)
  · replace h := h.1 hc
    refine r_iload_n 60 hC dX7_loadOf_60 rfl rfl ?_
    exact r_iret 61 hC hE rfl dX7_loadOf_61 ⟨_, rfl, h⟩
  · replace h := h.2 hc
    refine r_iload_n 10 hC dX7_loadOf_10 rfl rfl ?_
    refine r_aload_n 11 hC dX7_loadOf_11 rfl rfl ?_
    refine r_iload_n 12 hC dX7_loadOf_12 rfl rfl ?_
    refine r_callV_i 13 (n := 1) [.int (x13)] [.int (x12)] hC hk0 rfl dX7_loadOf_13 (by decide) (by decide) tw_1443 tw_135 ⟨by decide, by decide, by decide +kernel⟩ tw_1440 tw_1442 tw_106 rfl rfl (sX7_isOpen (l := pm_l X) hG (q0) (x13) _ _ hk0 h) hab (Nat.le_of_ble_eq_true rfl) ?_
    clear h; intro r15 I14 h
    refine r_if_eq 16 51 hC dX7_loadOf_16 (by decide) (fun hc => ?_) (fun hc => ?_)
    · replace h := h.1 hc
      refine r_iconst 51 (v := 0) hC dX7_loadOf_51 (by decide) ?_
      refine r_iadd 52 hC dX7_loadOf_52 ?_
      refine r_istore_n 53 [some (.ref (q0)), some (.int (x1)), some (.int (x12 + 0)), some (.int (x13))] hC dX7_loadOf_53 rfl (by decide) rfl ?_
      refine r_iinc 54 (v := x13 + 1) [some (.ref (q0)), some (.int (x1)), some (.int (x12 + 0)), some (.int (x13 + 1))] hC dX7_loadOf_54 rfl (by rfl) (by decide) rfl ?_
      refine r_goto 57 4 hC dX7_loadOf_57 (by decide) ?_
      exact h
    · replace h := h.2 hc
      refine r_aload_n 19 hC dX7_loadOf_19 rfl rfl ?_
      refine r_getR7 20 (r1 := q0 + 1) hC hk0 1 (by decide) tw_1180 rfl rfl dX7_loadOf_20 ?_
      refine r_iload_n 23 hC dX7_loadOf_23 rfl rfl ?_
      refine r_iconst 24 (v := 3) hC dX7_loadOf_24 (by decide) ?_
      refine r_callS_i 25 (n := 2) [.int (x13), .int (3)] [.ref (q0 + 1), .int (x12)] hC dX7_loadOf_25 (by decide) (by decide) tw_1446 tw_135 ⟨by decide, by decide, by decide +kernel⟩ tw_1444 tw_1445 rfl rfl (sX7_of (l := pm_l X) hG (x13) (3) _ _ h) hab (Nat.le_of_ble_eq_true rfl) ?_
      clear h; intro r17 I16 h
      refine r_iald 28 hC ((pm_s7 hG hk0).1) h.1 dX7_loadOf_28 ?_
      replace h := h.2
      refine r_iload_n 29 hC dX7_loadOf_29 rfl rfl ?_
      refine r_icmp_eq 30 47 hC dX7_loadOf_30 (by decide) (fun hc => ?_) (fun hc => ?_)
      · replace h := h.1 hc
        refine r_iconst 47 (v := 1) hC dX7_loadOf_47 (by decide) ?_
        refine r_goto 48 52 hC dX7_loadOf_48 (by decide) ?_
        refine r_iadd 52 hC dX7_loadOf_52 ?_
        refine r_istore_n 53 [some (.ref (q0)), some (.int (x1)), some (.int (x12 + 1)), some (.int (x13))] hC dX7_loadOf_53 rfl (by decide) rfl ?_
        refine r_iinc 54 (v := x13 + 1) [some (.ref (q0)), some (.int (x1)), some (.int (x12 + 1)), some (.int (x13 + 1))] hC dX7_loadOf_54 rfl (by rfl) (by decide) rfl ?_
        refine r_goto 57 4 hC dX7_loadOf_57 (by decide) ?_
        exact h
      · replace h := h.2 hc
        refine r_aload_n 33 hC dX7_loadOf_33 rfl rfl ?_
        refine r_getR7 34 (r1 := q0 + 1) hC hk0 1 (by decide) tw_1180 rfl rfl dX7_loadOf_34 ?_
        refine r_iload_n 37 hC dX7_loadOf_37 rfl rfl ?_
        refine r_iconst 38 (v := 4) hC dX7_loadOf_38 (by decide) ?_
        refine r_callS_i 39 (n := 2) [.int (x13), .int (4)] [.ref (q0 + 1), .int (x12)] hC dX7_loadOf_39 (by decide) (by decide) tw_1446 tw_135 ⟨by decide, by decide, by decide +kernel⟩ tw_1444 tw_1445 rfl rfl (sX7_of (l := pm_l X) hG (x13) (4) _ _ h) hab (Nat.le_of_ble_eq_true rfl) ?_
        clear h; intro r19 I18 h
        refine r_iald 42 hC ((pm_s7 hG hk0).1) h.1 dX7_loadOf_42 ?_
        replace h := h.2
        refine r_iload_n 43 hC dX7_loadOf_43 rfl rfl ?_
        refine r_icmp_ne 44 51 hC dX7_loadOf_44 (by decide) (fun hc => ?_) (fun hc => ?_)
        · replace h := h.1 hc
          refine r_iconst 51 (v := 0) hC dX7_loadOf_51 (by decide) ?_
          refine r_iadd 52 hC dX7_loadOf_52 ?_
          refine r_istore_n 53 [some (.ref (q0)), some (.int (x1)), some (.int (x12 + 0)), some (.int (x13))] hC dX7_loadOf_53 rfl (by decide) rfl ?_
          refine r_iinc 54 (v := x13 + 1) [some (.ref (q0)), some (.int (x1)), some (.int (x12 + 0)), some (.int (x13 + 1))] hC dX7_loadOf_54 rfl (by rfl) (by decide) rfl ?_
          refine r_goto 57 4 hC dX7_loadOf_57 (by decide) ?_
          exact h
        · replace h := h.2 hc
          refine r_iconst 47 (v := 1) hC dX7_loadOf_47 (by decide) ?_
          refine r_goto 48 52 hC dX7_loadOf_48 (by decide) ?_
          refine r_iadd 52 hC dX7_loadOf_52 ?_
          refine r_istore_n 53 [some (.ref (q0)), some (.int (x1)), some (.int (x12 + 1)), some (.int (x13))] hC dX7_loadOf_53 rfl (by decide) rfl ?_
          refine r_iinc 54 (v := x13 + 1) [some (.ref (q0)), some (.int (x1)), some (.int (x12 + 1)), some (.int (x13 + 1))] hC dX7_loadOf_54 rfl (by rfl) (by decide) rfl ?_
          refine r_goto 57 4 hC dX7_loadOf_57 (by decide) ?_
          exact h

def wX7_scoreOf (G : pm_G) (q0 : Nat) (x1 : Int32) (x2 : Int32) (x3 : Int32) (I : pm_I) (K : Int32 → pm_I → Prop) : Prop :=
  vp_in ((8 * x2) + x1) 128 ∧ ((∀ I10 : pm_I, I10 = pm_up I (q0 + 11) ((1 : Int32).toNatClampNeg) (I (q0 + 5) ((8 * x2) + x1).toNatClampNeg) → (vp_in ((8 * x1) + x3) 128 ∧ ((∀ I11 : pm_I, I11 = pm_up I10 (q0 + 11) ((2 : Int32).toNatClampNeg) (I10 (q0 + 5) ((8 * x1) + x3).toNatClampNeg) → (wX7_loadOf G (q0) (x1) I11 (fun r13 I12 => (∀ I14 : pm_I, I14 = pm_up I12 (q0 + 11) ((3 : Int32).toNatClampNeg) (r13) → (vp_in (x1) 16 ∧ ((∀ I15 : pm_I, I15 = pm_up I14 (q0 + 11) ((4 : Int32).toNatClampNeg) (I14 (q0 + 3) (x1).toNatClampNeg) → (vp_in (x2) 16 ∧ (vp_in (x1) 16 ∧ (((I15 (q0 + 4) (x2).toNatClampNeg) = (I15 (q0 + 4) (x1).toNatClampNeg) → (vp_in (x3) 16 ∧ (vp_in (x1) 16 ∧ (((I15 (q0 + 4) (x3).toNatClampNeg) = (I15 (q0 + 4) (x1).toNatClampNeg) → ((∀ I16 : pm_I, I16 = pm_up I15 (q0 + 11) ((5 : Int32).toNatClampNeg) (0 + 0) → (pm_lp3 (fun (P17 : Int32 → Int32 → pm_I → Prop) (x19 : Int32) (x20 : Int32) (I18 : pm_I) => ((I18 (q0 + 7) (0 : Int32).toNatClampNeg) ≤ x20 → (K (I18 (q0 + 10) (0 : Int32).toNatClampNeg) I18)) ∧ (¬ (I18 (q0 + 7) (0 : Int32).toNatClampNeg) ≤ x20 → (vp_in (x20) 1240 ∧ (((I18 (q0 + 8) (x20).toNatClampNeg) ≤ 0 → (vp_in ((x19 + (-1)) - 1) 40 ∧ (vp_in (x19 + (-1)) 40 ∧ (wX7_joined G (I18 (q0 + 8) (x20).toNatClampNeg) (I18 (q0 + 10) ((x19 + (-1)) - 1).toNatClampNeg) (I18 (q0 + 10) (x19 + (-1)).toNatClampNeg) I18 (fun r22 I21 => vp_in ((x19 + (-1)) - 1) 40 ∧ (∀ I23 : pm_I, I23 = pm_up I21 (q0 + 10) (((x19 + (-1)) - 1).toNatClampNeg) (r22) → (P17 (x19 + (-1)) (x20 + 1) I23))))))) ∧ (¬ (I18 (q0 + 8) (x20).toNatClampNeg) ≤ 0 → (((I18 (q0 + 8) (x20).toNatClampNeg) < 100 → (vp_in (I18 (q0 + 8) (x20).toNatClampNeg) 6 ∧ (vp_in (x19) 40 ∧ (∀ I24 : pm_I, I24 = pm_up I18 (q0 + 10) ((x19).toNatClampNeg) (I18 (q0 + 11) (I18 (q0 + 8) (x20).toNatClampNeg).toNatClampNeg) → (P17 (x19 + 1) (x20 + 1) I24))))) ∧ (¬ (I18 (q0 + 8) (x20).toNatClampNeg) < 100 → (vp_in (x19) 40 ∧ (∀ I25 : pm_I, I25 = pm_up I18 (q0 + 10) ((x19).toNatClampNeg) ((I18 (q0 + 8) (x20).toNatClampNeg) - 100) → (P17 (x19 + 1) (x20 + 1) I25)))))))))) (0) (0) I16)))) ∧ (¬ (I15 (q0 + 4) (x3).toNatClampNeg) = (I15 (q0 + 4) (x1).toNatClampNeg) → ((∀ I26 : pm_I, I26 = pm_up I15 (q0 + 11) ((5 : Int32).toNatClampNeg) (0 + 1) → (pm_lp3 (fun (P27 : Int32 → Int32 → pm_I → Prop) (x29 : Int32) (x30 : Int32) (I28 : pm_I) => ((I28 (q0 + 7) (0 : Int32).toNatClampNeg) ≤ x30 → (K (I28 (q0 + 10) (0 : Int32).toNatClampNeg) I28)) ∧ (¬ (I28 (q0 + 7) (0 : Int32).toNatClampNeg) ≤ x30 → (vp_in (x30) 1240 ∧ (((I28 (q0 + 8) (x30).toNatClampNeg) ≤ 0 → (vp_in ((x29 + (-1)) - 1) 40 ∧ (vp_in (x29 + (-1)) 40 ∧ (wX7_joined G (I28 (q0 + 8) (x30).toNatClampNeg) (I28 (q0 + 10) ((x29 + (-1)) - 1).toNatClampNeg) (I28 (q0 + 10) (x29 + (-1)).toNatClampNeg) I28 (fun r32 I31 => vp_in ((x29 + (-1)) - 1) 40 ∧ (∀ I33 : pm_I, I33 = pm_up I31 (q0 + 10) (((x29 + (-1)) - 1).toNatClampNeg) (r32) → (P27 (x29 + (-1)) (x30 + 1) I33))))))) ∧ (¬ (I28 (q0 + 8) (x30).toNatClampNeg) ≤ 0 → (((I28 (q0 + 8) (x30).toNatClampNeg) < 100 → (vp_in (I28 (q0 + 8) (x30).toNatClampNeg) 6 ∧ (vp_in (x29) 40 ∧ (∀ I34 : pm_I, I34 = pm_up I28 (q0 + 10) ((x29).toNatClampNeg) (I28 (q0 + 11) (I28 (q0 + 8) (x30).toNatClampNeg).toNatClampNeg) → (P27 (x29 + 1) (x30 + 1) I34))))) ∧ (¬ (I28 (q0 + 8) (x30).toNatClampNeg) < 100 → (vp_in (x29) 40 ∧ (∀ I35 : pm_I, I35 = pm_up I28 (q0 + 10) ((x29).toNatClampNeg) ((I28 (q0 + 8) (x30).toNatClampNeg) - 100) → (P27 (x29 + 1) (x30 + 1) I35)))))))))) (0) (0) I26)))))))) ∧ (¬ (I15 (q0 + 4) (x2).toNatClampNeg) = (I15 (q0 + 4) (x1).toNatClampNeg) → (vp_in (x3) 16 ∧ (vp_in (x1) 16 ∧ (((I15 (q0 + 4) (x3).toNatClampNeg) = (I15 (q0 + 4) (x1).toNatClampNeg) → ((∀ I36 : pm_I, I36 = pm_up I15 (q0 + 11) ((5 : Int32).toNatClampNeg) (1 + 0) → (pm_lp3 (fun (P37 : Int32 → Int32 → pm_I → Prop) (x39 : Int32) (x40 : Int32) (I38 : pm_I) => ((I38 (q0 + 7) (0 : Int32).toNatClampNeg) ≤ x40 → (K (I38 (q0 + 10) (0 : Int32).toNatClampNeg) I38)) ∧ (¬ (I38 (q0 + 7) (0 : Int32).toNatClampNeg) ≤ x40 → (vp_in (x40) 1240 ∧ (((I38 (q0 + 8) (x40).toNatClampNeg) ≤ 0 → (vp_in ((x39 + (-1)) - 1) 40 ∧ (vp_in (x39 + (-1)) 40 ∧ (wX7_joined G (I38 (q0 + 8) (x40).toNatClampNeg) (I38 (q0 + 10) ((x39 + (-1)) - 1).toNatClampNeg) (I38 (q0 + 10) (x39 + (-1)).toNatClampNeg) I38 (fun r42 I41 => vp_in ((x39 + (-1)) - 1) 40 ∧ (∀ I43 : pm_I, I43 = pm_up I41 (q0 + 10) (((x39 + (-1)) - 1).toNatClampNeg) (r42) → (P37 (x39 + (-1)) (x40 + 1) I43))))))) ∧ (¬ (I38 (q0 + 8) (x40).toNatClampNeg) ≤ 0 → (((I38 (q0 + 8) (x40).toNatClampNeg) < 100 → (vp_in (I38 (q0 + 8) (x40).toNatClampNeg) 6 ∧ (vp_in (x39) 40 ∧ (∀ I44 : pm_I, I44 = pm_up I38 (q0 + 10) ((x39).toNatClampNeg) (I38 (q0 + 11) (I38 (q0 + 8) (x40).toNatClampNeg).toNatClampNeg) → (P37 (x39 + 1) (x40 + 1) I44))))) ∧ (¬ (I38 (q0 + 8) (x40).toNatClampNeg) < 100 → (vp_in (x39) 40 ∧ (∀ I45 : pm_I, I45 = pm_up I38 (q0 + 10) ((x39).toNatClampNeg) ((I38 (q0 + 8) (x40).toNatClampNeg) - 100) → (P37 (x39 + 1) (x40 + 1) I45)))))))))) (0) (0) I36)))) ∧ (¬ (I15 (q0 + 4) (x3).toNatClampNeg) = (I15 (q0 + 4) (x1).toNatClampNeg) → ((∀ I46 : pm_I, I46 = pm_up I15 (q0 + 11) ((5 : Int32).toNatClampNeg) (1 + 1) → (pm_lp3 (fun (P47 : Int32 → Int32 → pm_I → Prop) (x49 : Int32) (x50 : Int32) (I48 : pm_I) => ((I48 (q0 + 7) (0 : Int32).toNatClampNeg) ≤ x50 → (K (I48 (q0 + 10) (0 : Int32).toNatClampNeg) I48)) ∧ (¬ (I48 (q0 + 7) (0 : Int32).toNatClampNeg) ≤ x50 → (vp_in (x50) 1240 ∧ (((I48 (q0 + 8) (x50).toNatClampNeg) ≤ 0 → (vp_in ((x49 + (-1)) - 1) 40 ∧ (vp_in (x49 + (-1)) 40 ∧ (wX7_joined G (I48 (q0 + 8) (x50).toNatClampNeg) (I48 (q0 + 10) ((x49 + (-1)) - 1).toNatClampNeg) (I48 (q0 + 10) (x49 + (-1)).toNatClampNeg) I48 (fun r52 I51 => vp_in ((x49 + (-1)) - 1) 40 ∧ (∀ I53 : pm_I, I53 = pm_up I51 (q0 + 10) (((x49 + (-1)) - 1).toNatClampNeg) (r52) → (P47 (x49 + (-1)) (x50 + 1) I53))))))) ∧ (¬ (I48 (q0 + 8) (x50).toNatClampNeg) ≤ 0 → (((I48 (q0 + 8) (x50).toNatClampNeg) < 100 → (vp_in (I48 (q0 + 8) (x50).toNatClampNeg) 6 ∧ (vp_in (x49) 40 ∧ (∀ I54 : pm_I, I54 = pm_up I48 (q0 + 10) ((x49).toNatClampNeg) (I48 (q0 + 11) (I48 (q0 + 8) (x50).toNatClampNeg).toNatClampNeg) → (P47 (x49 + 1) (x50 + 1) I54))))) ∧ (¬ (I48 (q0 + 8) (x50).toNatClampNeg) < 100 → (vp_in (x49) 40 ∧ (∀ I55 : pm_I, I55 = pm_up I48 (q0 + 10) ((x49).toNatClampNeg) ((I48 (q0 + 8) (x50).toNatClampNeg) - 100) → (P47 (x49 + 1) (x50 + 1) I55)))))))))) (0) (0) I46))))))))))))))))))))))

set_option maxRecDepth 20000 in
theorem sX7_scoreOf {G : pm_G} {l : Launch} (hG : pm_ok G) (q0 : Nat) (x1 : Int32) (x2 : Int32) (x3 : Int32) (I : pm_I) (K : Int32 → pm_I → Prop) (hk0 : pm_k G q0 (.inl 7)) (h : wX7_scoreOf G q0 x1 x2 x3 I K) : pm_Ct G l yX7_scoreOf cX7_scoreOf 7 (some .int) { frames := 4, cells := 0, slots := 0, locals := 321 } [.ref (q0), .int (x1), .int (x2), .int (x3)] I (pm_Ki K) := by
  unfold wX7_scoreOf at h
  refine pm_enter (by decide +kernel) hG rfl (Nat.le_of_ble_eq_true rfl) rfl (fun X hl hC hE => ?_)
  subst hl
  have hab : 0 ≤ 0 ∧ 0 ≤ 0 := ⟨Nat.le_refl 0, Nat.le_refl 0⟩
  have hC : pm_C G X cX7_scoreOf 7 RX7 (some .int) { frames := 4, cells := 0, slots := 0, locals := 321 } := hC
  refine r_aload_n 0 hC dX7_scoreOf_0 rfl rfl ?_
  refine r_getR7 1 (r1 := q0 + 11) hC hk0 24 (by decide) tw_1203 rfl rfl dX7_scoreOf_1 ?_
  refine r_iconst 4 (v := 1) hC dX7_scoreOf_4 (by decide) ?_
  refine r_aload_n 5 hC dX7_scoreOf_5 rfl rfl ?_
  refine r_getR7 6 (r1 := q0 + 5) hC hk0 5 (by decide) tw_1184 rfl rfl dX7_scoreOf_6 ?_
  refine r_bipush 9 (v := 8) hC dX7_scoreOf_9 (by decide) ?_
  refine r_iload_n 11 hC dX7_scoreOf_11 rfl rfl ?_
  refine r_imul 12 hC dX7_scoreOf_12 ?_
  refine r_iload_n 13 hC dX7_scoreOf_13 rfl rfl ?_
  refine r_iadd 14 hC dX7_scoreOf_14 ?_
  refine r_iald 15 hC ((pm_s7 hG hk0).2.2.2.2.1) h.1 dX7_scoreOf_15 ?_
  replace h := h.2
  refine r_iast 16 hC ((pm_s7 hG hk0).2.2.2.2.2.2.2.2.2.2.1) (by unfold vp_in; decide) dX7_scoreOf_16 (fun I10 hI => ?_)
  replace h := h I10 hI; clear hI
  refine r_aload_n 17 hC dX7_scoreOf_17 rfl rfl ?_
  refine r_getR7 18 (r1 := q0 + 11) hC hk0 24 (by decide) tw_1203 rfl rfl dX7_scoreOf_18 ?_
  refine r_iconst 21 (v := 2) hC dX7_scoreOf_21 (by decide) ?_
  refine r_aload_n 22 hC dX7_scoreOf_22 rfl rfl ?_
  refine r_getR7 23 (r1 := q0 + 5) hC hk0 5 (by decide) tw_1184 rfl rfl dX7_scoreOf_23 ?_
  refine r_bipush 26 (v := 8) hC dX7_scoreOf_26 (by decide) ?_
  refine r_iload_n 28 hC dX7_scoreOf_28 rfl rfl ?_
  refine r_imul 29 hC dX7_scoreOf_29 ?_
  refine r_iload_n 30 hC dX7_scoreOf_30 rfl rfl ?_
  refine r_iadd 31 hC dX7_scoreOf_31 ?_
  refine r_iald 32 hC ((pm_s7 hG hk0).2.2.2.2.1) h.1 dX7_scoreOf_32 ?_
  replace h := h.2
  refine r_iast 33 hC ((pm_s7 hG hk0).2.2.2.2.2.2.2.2.2.2.1) (by unfold vp_in; decide) dX7_scoreOf_33 (fun I11 hI => ?_)
  replace h := h I11 hI; clear hI
  refine r_aload_n 34 hC dX7_scoreOf_34 rfl rfl ?_
  refine r_getR7 35 (r1 := q0 + 11) hC hk0 24 (by decide) tw_1203 rfl rfl dX7_scoreOf_35 ?_
  refine r_iconst 38 (v := 3) hC dX7_scoreOf_38 (by decide) ?_
  refine r_aload_n 39 hC dX7_scoreOf_39 rfl rfl ?_
  refine r_iload_n 40 hC dX7_scoreOf_40 rfl rfl ?_
  refine r_callV_i 41 (n := 1) [.int (x1)] [.int (3), .ref (q0 + 11)] hC hk0 rfl dX7_scoreOf_41 (by decide) (by decide) tw_1439 tw_135 ⟨by decide, by decide, by decide +kernel⟩ tw_1436 tw_1438 tw_105 rfl rfl (sX7_loadOf (l := pm_l X) hG (q0) (x1) _ _ hk0 h) hab (Nat.le_of_ble_eq_true rfl) ?_
  clear h; intro r13 I12 h
  refine r_iast 44 hC ((pm_s7 hG hk0).2.2.2.2.2.2.2.2.2.2.1) (by unfold vp_in; decide) dX7_scoreOf_44 (fun I14 hI => ?_)
  replace h := h I14 hI; clear hI
  refine r_aload_n 45 hC dX7_scoreOf_45 rfl rfl ?_
  refine r_getR7 46 (r1 := q0 + 11) hC hk0 24 (by decide) tw_1203 rfl rfl dX7_scoreOf_46 ?_
  refine r_iconst 49 (v := 4) hC dX7_scoreOf_49 (by decide) ?_
  refine r_aload_n 50 hC dX7_scoreOf_50 rfl rfl ?_
  refine r_getR7 51 (r1 := q0 + 3) hC hk0 3 (by decide) tw_1182 rfl rfl dX7_scoreOf_51 ?_
  refine r_iload_n 54 hC dX7_scoreOf_54 rfl rfl ?_
  refine r_iald 55 hC ((pm_s7 hG hk0).2.2.1) h.1 dX7_scoreOf_55 ?_
  replace h := h.2
  refine r_iast 56 hC ((pm_s7 hG hk0).2.2.2.2.2.2.2.2.2.2.1) (by unfold vp_in; decide) dX7_scoreOf_56 (fun I15 hI => ?_)
  replace h := h I15 hI; clear hI
  refine r_aload_n 57 hC dX7_scoreOf_57 rfl rfl ?_
  refine r_getR7 58 (r1 := q0 + 11) hC hk0 24 (by decide) tw_1203 rfl rfl dX7_scoreOf_58 ?_
  refine r_iconst 61 (v := 5) hC dX7_scoreOf_61 (by decide) ?_
  refine r_aload_n 62 hC dX7_scoreOf_62 rfl rfl ?_
  refine r_getR7 63 (r1 := q0 + 4) hC hk0 4 (by decide) tw_1183 rfl rfl dX7_scoreOf_63 ?_
  refine r_iload_n 66 hC dX7_scoreOf_66 rfl rfl ?_
  refine r_iald 67 hC ((pm_s7 hG hk0).2.2.2.1) h.1 dX7_scoreOf_67 ?_
  replace h := h.2
  refine r_aload_n 68 hC dX7_scoreOf_68 rfl rfl ?_
  refine r_getR7 69 (r1 := q0 + 4) hC hk0 4 (by decide) tw_1183 rfl rfl dX7_scoreOf_69 ?_
  refine r_iload_n 72 hC dX7_scoreOf_72 rfl rfl ?_
  refine r_iald 73 hC ((pm_s7 hG hk0).2.2.2.1) h.1 dX7_scoreOf_73 ?_
  replace h := h.2
  refine r_icmp_eq 74 81 hC dX7_scoreOf_74 (by decide) (fun hc => ?_) (fun hc => ?_)
  · replace h := h.1 hc
    refine r_iconst 81 (v := 0) hC dX7_scoreOf_81 (by decide) ?_
    refine r_aload_n 82 hC dX7_scoreOf_82 rfl rfl ?_
    refine r_getR7 83 (r1 := q0 + 4) hC hk0 4 (by decide) tw_1183 rfl rfl dX7_scoreOf_83 ?_
    refine r_iload_n 86 hC dX7_scoreOf_86 rfl rfl ?_
    refine r_iald 87 hC ((pm_s7 hG hk0).2.2.2.1) h.1 dX7_scoreOf_87 ?_
    replace h := h.2
    refine r_aload_n 88 hC dX7_scoreOf_88 rfl rfl ?_
    refine r_getR7 89 (r1 := q0 + 4) hC hk0 4 (by decide) tw_1183 rfl rfl dX7_scoreOf_89 ?_
    refine r_iload_n 92 hC dX7_scoreOf_92 rfl rfl ?_
    refine r_iald 93 hC ((pm_s7 hG hk0).2.2.2.1) h.1 dX7_scoreOf_93 ?_
    replace h := h.2
    refine r_icmp_eq 94 101 hC dX7_scoreOf_94 (by decide) (fun hc => ?_) (fun hc => ?_)
    · replace h := h.1 hc
      refine r_iconst 101 (v := 0) hC dX7_scoreOf_101 (by decide) ?_
      refine r_iadd 102 hC dX7_scoreOf_102 ?_
      refine r_iast 103 hC ((pm_s7 hG hk0).2.2.2.2.2.2.2.2.2.2.1) (by unfold vp_in; decide) dX7_scoreOf_103 (fun I16 hI => ?_)
      replace h := h I16 hI; clear hI
      refine r_iconst 104 (v := 0) hC dX7_scoreOf_104 (by decide) ?_
      refine r_istore 105 [some (.ref (q0)), some (.int (x1)), some (.int (x2)), some (.int (x3)), some (.int (0)), none, none] hC dX7_scoreOf_105 (by decide) rfl ?_
      refine r_iconst 107 (v := 0) hC dX7_scoreOf_107 (by decide) ?_
      refine r_istore 108 [some (.ref (q0)), some (.int (x1)), some (.int (x2)), some (.int (x3)), some (.int (0)), some (.int (0)), none] hC dX7_scoreOf_108 (by decide) rfl ?_
      refine r_weak (ls' := [some (.ref (q0)), none, none, none, some (.int (0)), some (.int (0)), none]) (And.intro rfl (And.intro rfl (And.intro rfl (trivial)))) ?_
      refine h (fun x19 x20 I18 => pm_R G X 7 0 0 110 [some (.ref (q0)), none, none, none, some (.int (x19)), some (.int (x20)), none] [] I18) ?_
      clear h; intro x19 x20 I18 h
      refine r_iload 110 hC dX7_scoreOf_110 rfl ?_
      refine r_aload_n 112 hC dX7_scoreOf_112 rfl rfl ?_
      refine r_getR7 113 (r1 := q0 + 7) hC hk0 7 (by decide) tw_1186 rfl rfl dX7_scoreOf_113 ?_
      refine r_iconst 116 (v := 0) hC dX7_scoreOf_116 (by decide) ?_
      refine r_iald 117 hC ((pm_s7 hG hk0).2.2.2.2.2.2.1) (by unfold vp_in; decide) dX7_scoreOf_117 ?_
      refine r_icmp_ge 118 209 hC dX7_scoreOf_118 (by decide) (fun hc => ?_) (fun hc => ?_)
      · replace h := h.1 hc
        refine r_aload_n 209 hC dX7_scoreOf_209 rfl rfl ?_
        refine r_getR7 210 (r1 := q0 + 10) hC hk0 23 (by decide) tw_1202 rfl rfl dX7_scoreOf_210 ?_
        refine r_iconst 213 (v := 0) hC dX7_scoreOf_213 (by decide) ?_
        refine r_iald 214 hC ((pm_s7 hG hk0).2.2.2.2.2.2.2.2.2.1) (by unfold vp_in; decide) dX7_scoreOf_214 ?_
        exact r_iret 215 hC hE rfl dX7_scoreOf_215 ⟨_, rfl, h⟩
      · replace h := h.2 hc
        refine r_aload_n 121 hC dX7_scoreOf_121 rfl rfl ?_
        refine r_getR7 122 (r1 := q0 + 8) hC hk0 8 (by decide) tw_1187 rfl rfl dX7_scoreOf_122 ?_
        refine r_iload 125 hC dX7_scoreOf_125 rfl ?_
        refine r_iald 127 hC ((pm_s7 hG hk0).2.2.2.2.2.2.2.1) h.1 dX7_scoreOf_127 ?_
        replace h := h.2
        refine r_istore 128 [some (.ref (q0)), none, none, none, some (.int (x19)), some (.int (x20)), some (.int (I18 (q0 + 8) (x20).toNatClampNeg))] hC dX7_scoreOf_128 (by decide) rfl ?_
        refine r_iload 130 hC dX7_scoreOf_130 rfl ?_
        refine r_if_le 132 170 hC dX7_scoreOf_132 (by decide) (fun hc => ?_) (fun hc => ?_)
        · replace h := h.1 hc
          refine r_iinc 170 (v := x19 + (-1)) [some (.ref (q0)), none, none, none, some (.int (x19 + (-1))), some (.int (x20)), some (.int (I18 (q0 + 8) (x20).toNatClampNeg))] hC dX7_scoreOf_170 rfl (by rfl) (by decide) rfl ?_
          refine r_aload_n 173 hC dX7_scoreOf_173 rfl rfl ?_
          refine r_getR7 174 (r1 := q0 + 10) hC hk0 23 (by decide) tw_1202 rfl rfl dX7_scoreOf_174 ?_
          refine r_iload 177 hC dX7_scoreOf_177 rfl ?_
          refine r_iconst 179 (v := 1) hC dX7_scoreOf_179 (by decide) ?_
          refine r_isub 180 hC dX7_scoreOf_180 ?_
          refine r_iload 181 hC dX7_scoreOf_181 rfl ?_
          refine r_aload_n 183 hC dX7_scoreOf_183 rfl rfl ?_
          refine r_getR7 184 (r1 := q0 + 10) hC hk0 23 (by decide) tw_1202 rfl rfl dX7_scoreOf_184 ?_
          refine r_iload 187 hC dX7_scoreOf_187 rfl ?_
          refine r_iconst 189 (v := 1) hC dX7_scoreOf_189 (by decide) ?_
          refine r_isub 190 hC dX7_scoreOf_190 ?_
          refine r_iald 191 hC ((pm_s7 hG hk0).2.2.2.2.2.2.2.2.2.1) h.1 dX7_scoreOf_191 ?_
          replace h := h.2
          refine r_aload_n 192 hC dX7_scoreOf_192 rfl rfl ?_
          refine r_getR7 193 (r1 := q0 + 10) hC hk0 23 (by decide) tw_1202 rfl rfl dX7_scoreOf_193 ?_
          refine r_iload 196 hC dX7_scoreOf_196 rfl ?_
          refine r_iald 198 hC ((pm_s7 hG hk0).2.2.2.2.2.2.2.2.2.1) h.1 dX7_scoreOf_198 ?_
          replace h := h.2
          refine r_callS_i 199 (n := 3) [.int (I18 (q0 + 8) (x20).toNatClampNeg), .int (I18 (q0 + 10) ((x19 + (-1)) - 1).toNatClampNeg), .int (I18 (q0 + 10) (x19 + (-1)).toNatClampNeg)] [.int ((x19 + (-1)) - 1), .ref (q0 + 10)] hC dX7_scoreOf_199 (by decide) (by decide) tw_1465 tw_135 ⟨by decide, by decide, by decide +kernel⟩ tw_1463 tw_1464 rfl rfl (sX7_joined (l := pm_l X) hG (I18 (q0 + 8) (x20).toNatClampNeg) (I18 (q0 + 10) ((x19 + (-1)) - 1).toNatClampNeg) (I18 (q0 + 10) (x19 + (-1)).toNatClampNeg) _ _ h) hab (Nat.le_of_ble_eq_true rfl) ?_
          clear h; intro r22 I21 h
          refine r_iast 202 hC ((pm_s7 hG hk0).2.2.2.2.2.2.2.2.2.1) h.1 dX7_scoreOf_202 (fun I23 hI => ?_)
          replace h := h.2
          replace h := h I23 hI; clear hI
          refine r_iinc 203 (v := x20 + 1) [some (.ref (q0)), none, none, none, some (.int (x19 + (-1))), some (.int (x20 + 1)), some (.int (I18 (q0 + 8) (x20).toNatClampNeg))] hC dX7_scoreOf_203 rfl (by rfl) (by decide) rfl ?_
          refine r_goto 206 110 hC dX7_scoreOf_206 (by decide) ?_
          refine r_weak (ls' := [some (.ref (q0)), none, none, none, some (.int (x19 + (-1))), some (.int (x20 + 1)), none]) (And.intro rfl (And.intro rfl (And.intro rfl (trivial)))) ?_
          exact h
        · replace h := h.2 hc
          refine r_aload_n 135 hC dX7_scoreOf_135 rfl rfl ?_
          refine r_getR7 136 (r1 := q0 + 10) hC hk0 23 (by decide) tw_1202 rfl rfl dX7_scoreOf_136 ?_
          refine r_iload 139 hC dX7_scoreOf_139 rfl ?_
          refine r_iload 141 hC dX7_scoreOf_141 rfl ?_
          refine r_bipush 143 (v := 100) hC dX7_scoreOf_143 (by decide) ?_
          refine r_icmp_lt 145 156 hC dX7_scoreOf_145 (by decide) (fun hc => ?_) (fun hc => ?_)
          · replace h := h.1 hc
            refine r_aload_n 156 hC dX7_scoreOf_156 rfl rfl ?_
            refine r_getR7 157 (r1 := q0 + 11) hC hk0 24 (by decide) tw_1203 rfl rfl dX7_scoreOf_157 ?_
            refine r_iload 160 hC dX7_scoreOf_160 rfl ?_
            refine r_iald 162 hC ((pm_s7 hG hk0).2.2.2.2.2.2.2.2.2.2.1) h.1 dX7_scoreOf_162 ?_
            replace h := h.2
            refine r_iast 163 hC ((pm_s7 hG hk0).2.2.2.2.2.2.2.2.2.1) h.1 dX7_scoreOf_163 (fun I24 hI => ?_)
            replace h := h.2
            replace h := h I24 hI; clear hI
            refine r_iinc 164 (v := x19 + 1) [some (.ref (q0)), none, none, none, some (.int (x19 + 1)), some (.int (x20)), some (.int (I18 (q0 + 8) (x20).toNatClampNeg))] hC dX7_scoreOf_164 rfl (by rfl) (by decide) rfl ?_
            refine r_goto 167 203 hC dX7_scoreOf_167 (by decide) ?_
            refine r_iinc 203 (v := x20 + 1) [some (.ref (q0)), none, none, none, some (.int (x19 + 1)), some (.int (x20 + 1)), some (.int (I18 (q0 + 8) (x20).toNatClampNeg))] hC dX7_scoreOf_203 rfl (by rfl) (by decide) rfl ?_
            refine r_goto 206 110 hC dX7_scoreOf_206 (by decide) ?_
            refine r_weak (ls' := [some (.ref (q0)), none, none, none, some (.int (x19 + 1)), some (.int (x20 + 1)), none]) (And.intro rfl (And.intro rfl (And.intro rfl (trivial)))) ?_
            exact h
          · replace h := h.2 hc
            refine r_iload 148 hC dX7_scoreOf_148 rfl ?_
            refine r_bipush 150 (v := 100) hC dX7_scoreOf_150 (by decide) ?_
            refine r_isub 152 hC dX7_scoreOf_152 ?_
            refine r_goto 153 163 hC dX7_scoreOf_153 (by decide) ?_
            refine r_iast 163 hC ((pm_s7 hG hk0).2.2.2.2.2.2.2.2.2.1) h.1 dX7_scoreOf_163 (fun I25 hI => ?_)
            replace h := h.2
            replace h := h I25 hI; clear hI
            refine r_iinc 164 (v := x19 + 1) [some (.ref (q0)), none, none, none, some (.int (x19 + 1)), some (.int (x20)), some (.int (I18 (q0 + 8) (x20).toNatClampNeg))] hC dX7_scoreOf_164 rfl (by rfl) (by decide) rfl ?_
            refine r_goto 167 203 hC dX7_scoreOf_167 (by decide) ?_
            refine r_iinc 203 (v := x20 + 1) [some (.ref (q0)), none, none, none, some (.int (x19 + 1)), some (.int (x20 + 1)), some (.int (I18 (q0 + 8) (x20).toNatClampNeg))] hC dX7_scoreOf_203 rfl (by rfl) (by decide) rfl ?_
            refine r_goto 206 110 hC dX7_scoreOf_206 (by decide) ?_
            refine r_weak (ls' := [some (.ref (q0)), none, none, none, some (.int (x19 + 1)), some (.int (x20 + 1)), none]) (And.intro rfl (And.intro rfl (And.intro rfl (trivial)))) ?_
            exact h
    · replace h := h.2 hc
      refine r_iconst 97 (v := 1) hC dX7_scoreOf_97 (by decide) ?_
      refine r_goto 98 102 hC dX7_scoreOf_98 (by decide) ?_
      refine r_iadd 102 hC dX7_scoreOf_102 ?_
      refine r_iast 103 hC ((pm_s7 hG hk0).2.2.2.2.2.2.2.2.2.2.1) (by unfold vp_in; decide) dX7_scoreOf_103 (fun I26 hI => ?_)
      replace h := h I26 hI; clear hI
      refine r_iconst 104 (v := 0) hC dX7_scoreOf_104 (by decide) ?_
      refine r_istore 105 [some (.ref (q0)), some (.int (x1)), some (.int (x2)), some (.int (x3)), some (.int (0)), none, none] hC dX7_scoreOf_105 (by decide) rfl ?_
      refine r_iconst 107 (v := 0) hC dX7_scoreOf_107 (by decide) ?_
      refine r_istore 108 [some (.ref (q0)), some (.int (x1)), some (.int (x2)), some (.int (x3)), some (.int (0)), some (.int (0)), none] hC dX7_scoreOf_108 (by decide) rfl ?_
      refine r_weak (ls' := [some (.ref (q0)), none, none, none, some (.int (0)), some (.int (0)), none]) (And.intro rfl (And.intro rfl (And.intro rfl (trivial)))) ?_
      refine h (fun x29 x30 I28 => pm_R G X 7 0 0 110 [some (.ref (q0)), none, none, none, some (.int (x29)), some (.int (x30)), none] [] I28) ?_
      clear h; intro x29 x30 I28 h
      refine r_iload 110 hC dX7_scoreOf_110 rfl ?_
      refine r_aload_n 112 hC dX7_scoreOf_112 rfl rfl ?_
      refine r_getR7 113 (r1 := q0 + 7) hC hk0 7 (by decide) tw_1186 rfl rfl dX7_scoreOf_113 ?_
      refine r_iconst 116 (v := 0) hC dX7_scoreOf_116 (by decide) ?_
      refine r_iald 117 hC ((pm_s7 hG hk0).2.2.2.2.2.2.1) (by unfold vp_in; decide) dX7_scoreOf_117 ?_
      refine r_icmp_ge 118 209 hC dX7_scoreOf_118 (by decide) (fun hc => ?_) (fun hc => ?_)
      · replace h := h.1 hc
        refine r_aload_n 209 hC dX7_scoreOf_209 rfl rfl ?_
        refine r_getR7 210 (r1 := q0 + 10) hC hk0 23 (by decide) tw_1202 rfl rfl dX7_scoreOf_210 ?_
        refine r_iconst 213 (v := 0) hC dX7_scoreOf_213 (by decide) ?_
        refine r_iald 214 hC ((pm_s7 hG hk0).2.2.2.2.2.2.2.2.2.1) (by unfold vp_in; decide) dX7_scoreOf_214 ?_
        exact r_iret 215 hC hE rfl dX7_scoreOf_215 ⟨_, rfl, h⟩
      · replace h := h.2 hc
        refine r_aload_n 121 hC dX7_scoreOf_121 rfl rfl ?_
        refine r_getR7 122 (r1 := q0 + 8) hC hk0 8 (by decide) tw_1187 rfl rfl dX7_scoreOf_122 ?_
        refine r_iload 125 hC dX7_scoreOf_125 rfl ?_
        refine r_iald 127 hC ((pm_s7 hG hk0).2.2.2.2.2.2.2.1) h.1 dX7_scoreOf_127 ?_
        replace h := h.2
        refine r_istore 128 [some (.ref (q0)), none, none, none, some (.int (x29)), some (.int (x30)), some (.int (I28 (q0 + 8) (x30).toNatClampNeg))] hC dX7_scoreOf_128 (by decide) rfl ?_
        refine r_iload 130 hC dX7_scoreOf_130 rfl ?_
        refine r_if_le 132 170 hC dX7_scoreOf_132 (by decide) (fun hc => ?_) (fun hc => ?_)
        · replace h := h.1 hc
          refine r_iinc 170 (v := x29 + (-1)) [some (.ref (q0)), none, none, none, some (.int (x29 + (-1))), some (.int (x30)), some (.int (I28 (q0 + 8) (x30).toNatClampNeg))] hC dX7_scoreOf_170 rfl (by rfl) (by decide) rfl ?_
          refine r_aload_n 173 hC dX7_scoreOf_173 rfl rfl ?_
          refine r_getR7 174 (r1 := q0 + 10) hC hk0 23 (by decide) tw_1202 rfl rfl dX7_scoreOf_174 ?_
          refine r_iload 177 hC dX7_scoreOf_177 rfl ?_
          refine r_iconst 179 (v := 1) hC dX7_scoreOf_179 (by decide) ?_
          refine r_isub 180 hC dX7_scoreOf_180 ?_
          refine r_iload 181 hC dX7_scoreOf_181 rfl ?_
          refine r_aload_n 183 hC dX7_scoreOf_183 rfl rfl ?_
          refine r_getR7 184 (r1 := q0 + 10) hC hk0 23 (by decide) tw_1202 rfl rfl dX7_scoreOf_184 ?_
          refine r_iload 187 hC dX7_scoreOf_187 rfl ?_
          refine r_iconst 189 (v := 1) hC dX7_scoreOf_189 (by decide) ?_
          refine r_isub 190 hC dX7_scoreOf_190 ?_
          refine r_iald 191 hC ((pm_s7 hG hk0).2.2.2.2.2.2.2.2.2.1) h.1 dX7_scoreOf_191 ?_
          replace h := h.2
          refine r_aload_n 192 hC dX7_scoreOf_192 rfl rfl ?_
          refine r_getR7 193 (r1 := q0 + 10) hC hk0 23 (by decide) tw_1202 rfl rfl dX7_scoreOf_193 ?_
          refine r_iload 196 hC dX7_scoreOf_196 rfl ?_
          refine r_iald 198 hC ((pm_s7 hG hk0).2.2.2.2.2.2.2.2.2.1) h.1 dX7_scoreOf_198 ?_
          replace h := h.2
          refine r_callS_i 199 (n := 3) [.int (I28 (q0 + 8) (x30).toNatClampNeg), .int (I28 (q0 + 10) ((x29 + (-1)) - 1).toNatClampNeg), .int (I28 (q0 + 10) (x29 + (-1)).toNatClampNeg)] [.int ((x29 + (-1)) - 1), .ref (q0 + 10)] hC dX7_scoreOf_199 (by decide) (by decide) tw_1465 tw_135 ⟨by decide, by decide, by decide +kernel⟩ tw_1463 tw_1464 rfl rfl (sX7_joined (l := pm_l X) hG (I28 (q0 + 8) (x30).toNatClampNeg) (I28 (q0 + 10) ((x29 + (-1)) - 1).toNatClampNeg) (I28 (q0 + 10) (x29 + (-1)).toNatClampNeg) _ _ h) hab (Nat.le_of_ble_eq_true rfl) ?_
          clear h; intro r32 I31 h
          refine r_iast 202 hC ((pm_s7 hG hk0).2.2.2.2.2.2.2.2.2.1) h.1 dX7_scoreOf_202 (fun I33 hI => ?_)
          replace h := h.2
          replace h := h I33 hI; clear hI
          refine r_iinc 203 (v := x30 + 1) [some (.ref (q0)), none, none, none, some (.int (x29 + (-1))), some (.int (x30 + 1)), some (.int (I28 (q0 + 8) (x30).toNatClampNeg))] hC dX7_scoreOf_203 rfl (by rfl) (by decide) rfl ?_
          refine r_goto 206 110 hC dX7_scoreOf_206 (by decide) ?_
          refine r_weak (ls' := [some (.ref (q0)), none, none, none, some (.int (x29 + (-1))), some (.int (x30 + 1)), none]) (And.intro rfl (And.intro rfl (And.intro rfl (trivial)))) ?_
          exact h
        · replace h := h.2 hc
          refine r_aload_n 135 hC dX7_scoreOf_135 rfl rfl ?_
          refine r_getR7 136 (r1 := q0 + 10) hC hk0 23 (by decide) tw_1202 rfl rfl dX7_scoreOf_136 ?_
          refine r_iload 139 hC dX7_scoreOf_139 rfl ?_
          refine r_iload 141 hC dX7_scoreOf_141 rfl ?_
          refine r_bipush 143 (v := 100) hC dX7_scoreOf_143 (by decide) ?_
          refine r_icmp_lt 145 156 hC dX7_scoreOf_145 (by decide) (fun hc => ?_) (fun hc => ?_)
          · replace h := h.1 hc
            refine r_aload_n 156 hC dX7_scoreOf_156 rfl rfl ?_
            refine r_getR7 157 (r1 := q0 + 11) hC hk0 24 (by decide) tw_1203 rfl rfl dX7_scoreOf_157 ?_
            refine r_iload 160 hC dX7_scoreOf_160 rfl ?_
            refine r_iald 162 hC ((pm_s7 hG hk0).2.2.2.2.2.2.2.2.2.2.1) h.1 dX7_scoreOf_162 ?_
            replace h := h.2
            refine r_iast 163 hC ((pm_s7 hG hk0).2.2.2.2.2.2.2.2.2.1) h.1 dX7_scoreOf_163 (fun I34 hI => ?_)
            replace h := h.2
            replace h := h I34 hI; clear hI
            refine r_iinc 164 (v := x29 + 1) [some (.ref (q0)), none, none, none, some (.int (x29 + 1)), some (.int (x30)), some (.int (I28 (q0 + 8) (x30).toNatClampNeg))] hC dX7_scoreOf_164 rfl (by rfl) (by decide) rfl ?_
            refine r_goto 167 203 hC dX7_scoreOf_167 (by decide) ?_
            refine r_iinc 203 (v := x30 + 1) [some (.ref (q0)), none, none, none, some (.int (x29 + 1)), some (.int (x30 + 1)), some (.int (I28 (q0 + 8) (x30).toNatClampNeg))] hC dX7_scoreOf_203 rfl (by rfl) (by decide) rfl ?_
            refine r_goto 206 110 hC dX7_scoreOf_206 (by decide) ?_
            refine r_weak (ls' := [some (.ref (q0)), none, none, none, some (.int (x29 + 1)), some (.int (x30 + 1)), none]) (And.intro rfl (And.intro rfl (And.intro rfl (trivial)))) ?_
            exact h
          · replace h := h.2 hc
            refine r_iload 148 hC dX7_scoreOf_148 rfl ?_
            refine r_bipush 150 (v := 100) hC dX7_scoreOf_150 (by decide) ?_
            refine r_isub 152 hC dX7_scoreOf_152 ?_
            refine r_goto 153 163 hC dX7_scoreOf_153 (by decide) ?_
            refine r_iast 163 hC ((pm_s7 hG hk0).2.2.2.2.2.2.2.2.2.1) h.1 dX7_scoreOf_163 (fun I35 hI => ?_)
            replace h := h.2
            replace h := h I35 hI; clear hI
            refine r_iinc 164 (v := x29 + 1) [some (.ref (q0)), none, none, none, some (.int (x29 + 1)), some (.int (x30)), some (.int (I28 (q0 + 8) (x30).toNatClampNeg))] hC dX7_scoreOf_164 rfl (by rfl) (by decide) rfl ?_
            refine r_goto 167 203 hC dX7_scoreOf_167 (by decide) ?_
            refine r_iinc 203 (v := x30 + 1) [some (.ref (q0)), none, none, none, some (.int (x29 + 1)), some (.int (x30 + 1)), some (.int (I28 (q0 + 8) (x30).toNatClampNeg))] hC dX7_scoreOf_203 rfl (by rfl) (by decide) rfl ?_
            refine r_goto 206 110 hC dX7_scoreOf_206 (by decide) ?_
            refine r_weak (ls' := [some (.ref (q0)), none, none, none, some (.int (x29 + 1)), some (.int (x30 + 1)), none]) (And.intro rfl (And.intro rfl (And.intro rfl (trivial)))) ?_
            exact h
  · replace h := h.2 hc
    refine r_iconst 77 (v := 1) hC dX7_scoreOf_77 (by decide) ?_
    refine r_goto 78 82 hC dX7_scoreOf_78 (by decide) ?_
    refine r_aload_n 82 hC dX7_scoreOf_82 rfl rfl ?_
    refine r_getR7 83 (r1 := q0 + 4) hC hk0 4 (by decide) tw_1183 rfl rfl dX7_scoreOf_83 ?_
    refine r_iload_n 86 hC dX7_scoreOf_86 rfl rfl ?_
    refine r_iald 87 hC ((pm_s7 hG hk0).2.2.2.1) h.1 dX7_scoreOf_87 ?_
    replace h := h.2
    refine r_aload_n 88 hC dX7_scoreOf_88 rfl rfl ?_
    refine r_getR7 89 (r1 := q0 + 4) hC hk0 4 (by decide) tw_1183 rfl rfl dX7_scoreOf_89 ?_
    refine r_iload_n 92 hC dX7_scoreOf_92 rfl rfl ?_
    refine r_iald 93 hC ((pm_s7 hG hk0).2.2.2.1) h.1 dX7_scoreOf_93 ?_
    replace h := h.2
    refine r_icmp_eq 94 101 hC dX7_scoreOf_94 (by decide) (fun hc => ?_) (fun hc => ?_)
    · replace h := h.1 hc
      refine r_iconst 101 (v := 0) hC dX7_scoreOf_101 (by decide) ?_
      refine r_iadd 102 hC dX7_scoreOf_102 ?_
      refine r_iast 103 hC ((pm_s7 hG hk0).2.2.2.2.2.2.2.2.2.2.1) (by unfold vp_in; decide) dX7_scoreOf_103 (fun I36 hI => ?_)
      replace h := h I36 hI; clear hI
      refine r_iconst 104 (v := 0) hC dX7_scoreOf_104 (by decide) ?_
      refine r_istore 105 [some (.ref (q0)), some (.int (x1)), some (.int (x2)), some (.int (x3)), some (.int (0)), none, none] hC dX7_scoreOf_105 (by decide) rfl ?_
      refine r_iconst 107 (v := 0) hC dX7_scoreOf_107 (by decide) ?_
      refine r_istore 108 [some (.ref (q0)), some (.int (x1)), some (.int (x2)), some (.int (x3)), some (.int (0)), some (.int (0)), none] hC dX7_scoreOf_108 (by decide) rfl ?_
      refine r_weak (ls' := [some (.ref (q0)), none, none, none, some (.int (0)), some (.int (0)), none]) (And.intro rfl (And.intro rfl (And.intro rfl (trivial)))) ?_
      refine h (fun x39 x40 I38 => pm_R G X 7 0 0 110 [some (.ref (q0)), none, none, none, some (.int (x39)), some (.int (x40)), none] [] I38) ?_
      clear h; intro x39 x40 I38 h
      refine r_iload 110 hC dX7_scoreOf_110 rfl ?_
      refine r_aload_n 112 hC dX7_scoreOf_112 rfl rfl ?_
      refine r_getR7 113 (r1 := q0 + 7) hC hk0 7 (by decide) tw_1186 rfl rfl dX7_scoreOf_113 ?_
      refine r_iconst 116 (v := 0) hC dX7_scoreOf_116 (by decide) ?_
      refine r_iald 117 hC ((pm_s7 hG hk0).2.2.2.2.2.2.1) (by unfold vp_in; decide) dX7_scoreOf_117 ?_
      refine r_icmp_ge 118 209 hC dX7_scoreOf_118 (by decide) (fun hc => ?_) (fun hc => ?_)
      · replace h := h.1 hc
        refine r_aload_n 209 hC dX7_scoreOf_209 rfl rfl ?_
        refine r_getR7 210 (r1 := q0 + 10) hC hk0 23 (by decide) tw_1202 rfl rfl dX7_scoreOf_210 ?_
        refine r_iconst 213 (v := 0) hC dX7_scoreOf_213 (by decide) ?_
        refine r_iald 214 hC ((pm_s7 hG hk0).2.2.2.2.2.2.2.2.2.1) (by unfold vp_in; decide) dX7_scoreOf_214 ?_
        exact r_iret 215 hC hE rfl dX7_scoreOf_215 ⟨_, rfl, h⟩
      · replace h := h.2 hc
        refine r_aload_n 121 hC dX7_scoreOf_121 rfl rfl ?_
        refine r_getR7 122 (r1 := q0 + 8) hC hk0 8 (by decide) tw_1187 rfl rfl dX7_scoreOf_122 ?_
        refine r_iload 125 hC dX7_scoreOf_125 rfl ?_
        refine r_iald 127 hC ((pm_s7 hG hk0).2.2.2.2.2.2.2.1) h.1 dX7_scoreOf_127 ?_
        replace h := h.2
        refine r_istore 128 [some (.ref (q0)), none, none, none, some (.int (x39)), some (.int (x40)), some (.int (I38 (q0 + 8) (x40).toNatClampNeg))] hC dX7_scoreOf_128 (by decide) rfl ?_
        refine r_iload 130 hC dX7_scoreOf_130 rfl ?_
        refine r_if_le 132 170 hC dX7_scoreOf_132 (by decide) (fun hc => ?_) (fun hc => ?_)
        · replace h := h.1 hc
          refine r_iinc 170 (v := x39 + (-1)) [some (.ref (q0)), none, none, none, some (.int (x39 + (-1))), some (.int (x40)), some (.int (I38 (q0 + 8) (x40).toNatClampNeg))] hC dX7_scoreOf_170 rfl (by rfl) (by decide) rfl ?_
          refine r_aload_n 173 hC dX7_scoreOf_173 rfl rfl ?_
          refine r_getR7 174 (r1 := q0 + 10) hC hk0 23 (by decide) tw_1202 rfl rfl dX7_scoreOf_174 ?_
          refine r_iload 177 hC dX7_scoreOf_177 rfl ?_
          refine r_iconst 179 (v := 1) hC dX7_scoreOf_179 (by decide) ?_
          refine r_isub 180 hC dX7_scoreOf_180 ?_
          refine r_iload 181 hC dX7_scoreOf_181 rfl ?_
          refine r_aload_n 183 hC dX7_scoreOf_183 rfl rfl ?_
          refine r_getR7 184 (r1 := q0 + 10) hC hk0 23 (by decide) tw_1202 rfl rfl dX7_scoreOf_184 ?_
          refine r_iload 187 hC dX7_scoreOf_187 rfl ?_
          refine r_iconst 189 (v := 1) hC dX7_scoreOf_189 (by decide) ?_
          refine r_isub 190 hC dX7_scoreOf_190 ?_
          refine r_iald 191 hC ((pm_s7 hG hk0).2.2.2.2.2.2.2.2.2.1) h.1 dX7_scoreOf_191 ?_
          replace h := h.2
          refine r_aload_n 192 hC dX7_scoreOf_192 rfl rfl ?_
          refine r_getR7 193 (r1 := q0 + 10) hC hk0 23 (by decide) tw_1202 rfl rfl dX7_scoreOf_193 ?_
          refine r_iload 196 hC dX7_scoreOf_196 rfl ?_
          refine r_iald 198 hC ((pm_s7 hG hk0).2.2.2.2.2.2.2.2.2.1) h.1 dX7_scoreOf_198 ?_
          replace h := h.2
          refine r_callS_i 199 (n := 3) [.int (I38 (q0 + 8) (x40).toNatClampNeg), .int (I38 (q0 + 10) ((x39 + (-1)) - 1).toNatClampNeg), .int (I38 (q0 + 10) (x39 + (-1)).toNatClampNeg)] [.int ((x39 + (-1)) - 1), .ref (q0 + 10)] hC dX7_scoreOf_199 (by decide) (by decide) tw_1465 tw_135 ⟨by decide, by decide, by decide +kernel⟩ tw_1463 tw_1464 rfl rfl (sX7_joined (l := pm_l X) hG (I38 (q0 + 8) (x40).toNatClampNeg) (I38 (q0 + 10) ((x39 + (-1)) - 1).toNatClampNeg) (I38 (q0 + 10) (x39 + (-1)).toNatClampNeg) _ _ h) hab (Nat.le_of_ble_eq_true rfl) ?_
          clear h; intro r42 I41 h
          refine r_iast 202 hC ((pm_s7 hG hk0).2.2.2.2.2.2.2.2.2.1) h.1 dX7_scoreOf_202 (fun I43 hI => ?_)
          replace h := h.2
          replace h := h I43 hI; clear hI
          refine r_iinc 203 (v := x40 + 1) [some (.ref (q0)), none, none, none, some (.int (x39 + (-1))), some (.int (x40 + 1)), some (.int (I38 (q0 + 8) (x40).toNatClampNeg))] hC dX7_scoreOf_203 rfl (by rfl) (by decide) rfl ?_
          refine r_goto 206 110 hC dX7_scoreOf_206 (by decide) ?_
          refine r_weak (ls' := [some (.ref (q0)), none, none, none, some (.int (x39 + (-1))), some (.int (x40 + 1)), none]) (And.intro rfl (And.intro rfl (And.intro rfl (trivial)))) ?_
          exact h
        · replace h := h.2 hc
          refine r_aload_n 135 hC dX7_scoreOf_135 rfl rfl ?_
          refine r_getR7 136 (r1 := q0 + 10) hC hk0 23 (by decide) tw_1202 rfl rfl dX7_scoreOf_136 ?_
          refine r_iload 139 hC dX7_scoreOf_139 rfl ?_
          refine r_iload 141 hC dX7_scoreOf_141 rfl ?_
          refine r_bipush 143 (v := 100) hC dX7_scoreOf_143 (by decide) ?_
          refine r_icmp_lt 145 156 hC dX7_scoreOf_145 (by decide) (fun hc => ?_) (fun hc => ?_)
          · replace h := h.1 hc
            refine r_aload_n 156 hC dX7_scoreOf_156 rfl rfl ?_
            refine r_getR7 157 (r1 := q0 + 11) hC hk0 24 (by decide) tw_1203 rfl rfl dX7_scoreOf_157 ?_
            refine r_iload 160 hC dX7_scoreOf_160 rfl ?_
            refine r_iald 162 hC ((pm_s7 hG hk0).2.2.2.2.2.2.2.2.2.2.1) h.1 dX7_scoreOf_162 ?_
            replace h := h.2
            refine r_iast 163 hC ((pm_s7 hG hk0).2.2.2.2.2.2.2.2.2.1) h.1 dX7_scoreOf_163 (fun I44 hI => ?_)
            replace h := h.2
            replace h := h I44 hI; clear hI
            refine r_iinc 164 (v := x39 + 1) [some (.ref (q0)), none, none, none, some (.int (x39 + 1)), some (.int (x40)), some (.int (I38 (q0 + 8) (x40).toNatClampNeg))] hC dX7_scoreOf_164 rfl (by rfl) (by decide) rfl ?_
            refine r_goto 167 203 hC dX7_scoreOf_167 (by decide) ?_
            refine r_iinc 203 (v := x40 + 1) [some (.ref (q0)), none, none, none, some (.int (x39 + 1)), some (.int (x40 + 1)), some (.int (I38 (q0 + 8) (x40).toNatClampNeg))] hC dX7_scoreOf_203 rfl (by rfl) (by decide) rfl ?_
            refine r_goto 206 110 hC dX7_scoreOf_206 (by decide) ?_
            refine r_weak (ls' := [some (.ref (q0)), none, none, none, some (.int (x39 + 1)), some (.int (x40 + 1)), none]) (And.intro rfl (And.intro rfl (And.intro rfl (trivial)))) ?_
            exact h
          · replace h := h.2 hc
            refine r_iload 148 hC dX7_scoreOf_148 rfl ?_
            refine r_bipush 150 (v := 100) hC dX7_scoreOf_150 (by decide) ?_
            refine r_isub 152 hC dX7_scoreOf_152 ?_
            refine r_goto 153 163 hC dX7_scoreOf_153 (by decide) ?_
            refine r_iast 163 hC ((pm_s7 hG hk0).2.2.2.2.2.2.2.2.2.1) h.1 dX7_scoreOf_163 (fun I45 hI => ?_)
            replace h := h.2
            replace h := h I45 hI; clear hI
            refine r_iinc 164 (v := x39 + 1) [some (.ref (q0)), none, none, none, some (.int (x39 + 1)), some (.int (x40)), some (.int (I38 (q0 + 8) (x40).toNatClampNeg))] hC dX7_scoreOf_164 rfl (by rfl) (by decide) rfl ?_
            refine r_goto 167 203 hC dX7_scoreOf_167 (by decide) ?_
            refine r_iinc 203 (v := x40 + 1) [some (.ref (q0)), none, none, none, some (.int (x39 + 1)), some (.int (x40 + 1)), some (.int (I38 (q0 + 8) (x40).toNatClampNeg))] hC dX7_scoreOf_203 rfl (by rfl) (by decide) rfl ?_
            refine r_goto 206 110 hC dX7_scoreOf_206 (by decide) ?_
            refine r_weak (ls' := [some (.ref (q0)), none, none, none, some (.int (x39 + 1)), some (.int (x40 + 1)), none]) (And.intro rfl (And.intro rfl (And.intro rfl (trivial)))) ?_
            exact h
    · replace h := h.2 hc
      refine r_iconst 97 (v := 1) hC dX7_scoreOf_97 (by decide) ?_
      refine r_goto 98 102 hC dX7_scoreOf_98 (by decide) ?_
      refine r_iadd 102 hC dX7_scoreOf_102 ?_
      refine r_iast 103 hC ((pm_s7 hG hk0).2.2.2.2.2.2.2.2.2.2.1) (by unfold vp_in; decide) dX7_scoreOf_103 (fun I46 hI => ?_)
      replace h := h I46 hI; clear hI
      refine r_iconst 104 (v := 0) hC dX7_scoreOf_104 (by decide) ?_
      refine r_istore 105 [some (.ref (q0)), some (.int (x1)), some (.int (x2)), some (.int (x3)), some (.int (0)), none, none] hC dX7_scoreOf_105 (by decide) rfl ?_
      refine r_iconst 107 (v := 0) hC dX7_scoreOf_107 (by decide) ?_
      refine r_istore 108 [some (.ref (q0)), some (.int (x1)), some (.int (x2)), some (.int (x3)), some (.int (0)), some (.int (0)), none] hC dX7_scoreOf_108 (by decide) rfl ?_
      refine r_weak (ls' := [some (.ref (q0)), none, none, none, some (.int (0)), some (.int (0)), none]) (And.intro rfl (And.intro rfl (And.intro rfl (trivial)))) ?_
      refine h (fun x49 x50 I48 => pm_R G X 7 0 0 110 [some (.ref (q0)), none, none, none, some (.int (x49)), some (.int (x50)), none] [] I48) ?_
      clear h; intro x49 x50 I48 h
      refine r_iload 110 hC dX7_scoreOf_110 rfl ?_
      refine r_aload_n 112 hC dX7_scoreOf_112 rfl rfl ?_
      refine r_getR7 113 (r1 := q0 + 7) hC hk0 7 (by decide) tw_1186 rfl rfl dX7_scoreOf_113 ?_
      refine r_iconst 116 (v := 0) hC dX7_scoreOf_116 (by decide) ?_
      refine r_iald 117 hC ((pm_s7 hG hk0).2.2.2.2.2.2.1) (by unfold vp_in; decide) dX7_scoreOf_117 ?_
      refine r_icmp_ge 118 209 hC dX7_scoreOf_118 (by decide) (fun hc => ?_) (fun hc => ?_)
      · replace h := h.1 hc
        refine r_aload_n 209 hC dX7_scoreOf_209 rfl rfl ?_
        refine r_getR7 210 (r1 := q0 + 10) hC hk0 23 (by decide) tw_1202 rfl rfl dX7_scoreOf_210 ?_
        refine r_iconst 213 (v := 0) hC dX7_scoreOf_213 (by decide) ?_
        refine r_iald 214 hC ((pm_s7 hG hk0).2.2.2.2.2.2.2.2.2.1) (by unfold vp_in; decide) dX7_scoreOf_214 ?_
        exact r_iret 215 hC hE rfl dX7_scoreOf_215 ⟨_, rfl, h⟩
      · replace h := h.2 hc
        refine r_aload_n 121 hC dX7_scoreOf_121 rfl rfl ?_
        refine r_getR7 122 (r1 := q0 + 8) hC hk0 8 (by decide) tw_1187 rfl rfl dX7_scoreOf_122 ?_
        refine r_iload 125 hC dX7_scoreOf_125 rfl ?_
        refine r_iald 127 hC ((pm_s7 hG hk0).2.2.2.2.2.2.2.1) h.1 dX7_scoreOf_127 ?_
        replace h := h.2
        refine r_istore 128 [some (.ref (q0)), none, none, none, some (.int (x49)), some (.int (x50)), some (.int (I48 (q0 + 8) (x50).toNatClampNeg))] hC dX7_scoreOf_128 (by decide) rfl ?_
        refine r_iload 130 hC dX7_scoreOf_130 rfl ?_
        refine r_if_le 132 170 hC dX7_scoreOf_132 (by decide) (fun hc => ?_) (fun hc => ?_)
        · replace h := h.1 hc
          refine r_iinc 170 (v := x49 + (-1)) [some (.ref (q0)), none, none, none, some (.int (x49 + (-1))), some (.int (x50)), some (.int (I48 (q0 + 8) (x50).toNatClampNeg))] hC dX7_scoreOf_170 rfl (by rfl) (by decide) rfl ?_
          refine r_aload_n 173 hC dX7_scoreOf_173 rfl rfl ?_
          refine r_getR7 174 (r1 := q0 + 10) hC hk0 23 (by decide) tw_1202 rfl rfl dX7_scoreOf_174 ?_
          refine r_iload 177 hC dX7_scoreOf_177 rfl ?_
          refine r_iconst 179 (v := 1) hC dX7_scoreOf_179 (by decide) ?_
          refine r_isub 180 hC dX7_scoreOf_180 ?_
          refine r_iload 181 hC dX7_scoreOf_181 rfl ?_
          refine r_aload_n 183 hC dX7_scoreOf_183 rfl rfl ?_
          refine r_getR7 184 (r1 := q0 + 10) hC hk0 23 (by decide) tw_1202 rfl rfl dX7_scoreOf_184 ?_
          refine r_iload 187 hC dX7_scoreOf_187 rfl ?_
          refine r_iconst 189 (v := 1) hC dX7_scoreOf_189 (by decide) ?_
          refine r_isub 190 hC dX7_scoreOf_190 ?_
          refine r_iald 191 hC ((pm_s7 hG hk0).2.2.2.2.2.2.2.2.2.1) h.1 dX7_scoreOf_191 ?_
          replace h := h.2
          refine r_aload_n 192 hC dX7_scoreOf_192 rfl rfl ?_
          refine r_getR7 193 (r1 := q0 + 10) hC hk0 23 (by decide) tw_1202 rfl rfl dX7_scoreOf_193 ?_
          refine r_iload 196 hC dX7_scoreOf_196 rfl ?_
          refine r_iald 198 hC ((pm_s7 hG hk0).2.2.2.2.2.2.2.2.2.1) h.1 dX7_scoreOf_198 ?_
          replace h := h.2
          refine r_callS_i 199 (n := 3) [.int (I48 (q0 + 8) (x50).toNatClampNeg), .int (I48 (q0 + 10) ((x49 + (-1)) - 1).toNatClampNeg), .int (I48 (q0 + 10) (x49 + (-1)).toNatClampNeg)] [.int ((x49 + (-1)) - 1), .ref (q0 + 10)] hC dX7_scoreOf_199 (by decide) (by decide) tw_1465 tw_135 ⟨by decide, by decide, by decide +kernel⟩ tw_1463 tw_1464 rfl rfl (sX7_joined (l := pm_l X) hG (I48 (q0 + 8) (x50).toNatClampNeg) (I48 (q0 + 10) ((x49 + (-1)) - 1).toNatClampNeg) (I48 (q0 + 10) (x49 + (-1)).toNatClampNeg) _ _ h) hab (Nat.le_of_ble_eq_true rfl) ?_
          clear h; intro r52 I51 h
          refine r_iast 202 hC ((pm_s7 hG hk0).2.2.2.2.2.2.2.2.2.1) h.1 dX7_scoreOf_202 (fun I53 hI => ?_)
          replace h := h.2
          replace h := h I53 hI; clear hI
          refine r_iinc 203 (v := x50 + 1) [some (.ref (q0)), none, none, none, some (.int (x49 + (-1))), some (.int (x50 + 1)), some (.int (I48 (q0 + 8) (x50).toNatClampNeg))] hC dX7_scoreOf_203 rfl (by rfl) (by decide) rfl ?_
          refine r_goto 206 110 hC dX7_scoreOf_206 (by decide) ?_
          refine r_weak (ls' := [some (.ref (q0)), none, none, none, some (.int (x49 + (-1))), some (.int (x50 + 1)), none]) (And.intro rfl (And.intro rfl (And.intro rfl (trivial)))) ?_
          exact h
        · replace h := h.2 hc
          refine r_aload_n 135 hC dX7_scoreOf_135 rfl rfl ?_
          refine r_getR7 136 (r1 := q0 + 10) hC hk0 23 (by decide) tw_1202 rfl rfl dX7_scoreOf_136 ?_
          refine r_iload 139 hC dX7_scoreOf_139 rfl ?_
          refine r_iload 141 hC dX7_scoreOf_141 rfl ?_
          refine r_bipush 143 (v := 100) hC dX7_scoreOf_143 (by decide) ?_
          refine r_icmp_lt 145 156 hC dX7_scoreOf_145 (by decide) (fun hc => ?_) (fun hc => ?_)
          · replace h := h.1 hc
            refine r_aload_n 156 hC dX7_scoreOf_156 rfl rfl ?_
            refine r_getR7 157 (r1 := q0 + 11) hC hk0 24 (by decide) tw_1203 rfl rfl dX7_scoreOf_157 ?_
            refine r_iload 160 hC dX7_scoreOf_160 rfl ?_
            refine r_iald 162 hC ((pm_s7 hG hk0).2.2.2.2.2.2.2.2.2.2.1) h.1 dX7_scoreOf_162 ?_
            replace h := h.2
            refine r_iast 163 hC ((pm_s7 hG hk0).2.2.2.2.2.2.2.2.2.1) h.1 dX7_scoreOf_163 (fun I54 hI => ?_)
            replace h := h.2
            replace h := h I54 hI; clear hI
            refine r_iinc 164 (v := x49 + 1) [some (.ref (q0)), none, none, none, some (.int (x49 + 1)), some (.int (x50)), some (.int (I48 (q0 + 8) (x50).toNatClampNeg))] hC dX7_scoreOf_164 rfl (by rfl) (by decide) rfl ?_
            refine r_goto 167 203 hC dX7_scoreOf_167 (by decide) ?_
            refine r_iinc 203 (v := x50 + 1) [some (.ref (q0)), none, none, none, some (.int (x49 + 1)), some (.int (x50 + 1)), some (.int (I48 (q0 + 8) (x50).toNatClampNeg))] hC dX7_scoreOf_203 rfl (by rfl) (by decide) rfl ?_
            refine r_goto 206 110 hC dX7_scoreOf_206 (by decide) ?_
            refine r_weak (ls' := [some (.ref (q0)), none, none, none, some (.int (x49 + 1)), some (.int (x50 + 1)), none]) (And.intro rfl (And.intro rfl (And.intro rfl (trivial)))) ?_
            exact h
          · replace h := h.2 hc
            refine r_iload 148 hC dX7_scoreOf_148 rfl ?_
            refine r_bipush 150 (v := 100) hC dX7_scoreOf_150 (by decide) ?_
            refine r_isub 152 hC dX7_scoreOf_152 ?_
            refine r_goto 153 163 hC dX7_scoreOf_153 (by decide) ?_
            refine r_iast 163 hC ((pm_s7 hG hk0).2.2.2.2.2.2.2.2.2.1) h.1 dX7_scoreOf_163 (fun I55 hI => ?_)
            replace h := h.2
            replace h := h I55 hI; clear hI
            refine r_iinc 164 (v := x49 + 1) [some (.ref (q0)), none, none, none, some (.int (x49 + 1)), some (.int (x50)), some (.int (I48 (q0 + 8) (x50).toNatClampNeg))] hC dX7_scoreOf_164 rfl (by rfl) (by decide) rfl ?_
            refine r_goto 167 203 hC dX7_scoreOf_167 (by decide) ?_
            refine r_iinc 203 (v := x50 + 1) [some (.ref (q0)), none, none, none, some (.int (x49 + 1)), some (.int (x50 + 1)), some (.int (I48 (q0 + 8) (x50).toNatClampNeg))] hC dX7_scoreOf_203 rfl (by rfl) (by decide) rfl ?_
            refine r_goto 206 110 hC dX7_scoreOf_206 (by decide) ?_
            refine r_weak (ls' := [some (.ref (q0)), none, none, none, some (.int (x49 + 1)), some (.int (x50 + 1)), none]) (And.intro rfl (And.intro rfl (And.intro rfl (trivial)))) ?_
            exact h

def wX7_errorPosition (G : pm_G) (q0 : Nat) (I : pm_I) (K : Int32 → pm_I → Prop) : Prop :=
  ∀ I10 : pm_I, I10 = pm_up I (q0) 0 (0) → (K (I10 (q0) 17) I10)

set_option maxRecDepth 20000 in
theorem sX7_errorPosition {G : pm_G} {l : Launch} (hG : pm_ok G) (q0 : Nat) (I : pm_I) (K : Int32 → pm_I → Prop) (hk0 : pm_k G q0 (.inl 7)) (h : wX7_errorPosition G q0 I K) : pm_Ct G l yX7_errorPosition cX7_errorPosition 1 (some .int) { frames := 1, cells := 0, slots := 0, locals := 64 } [.ref (q0)] I (pm_Ki K) := by
  unfold wX7_errorPosition at h
  refine pm_enter (by decide +kernel) hG rfl (Nat.le_of_ble_eq_true rfl) rfl (fun X hl hC hE => ?_)
  subst hl
  have hab : 0 ≤ 0 ∧ 0 ≤ 0 := ⟨Nat.le_refl 0, Nat.le_refl 0⟩
  have hC : pm_C G X cX7_errorPosition 1 RX7 (some .int) { frames := 1, cells := 0, slots := 0, locals := 64 } := hC
  refine r_aload_n 0 hC dX7_errorPosition_0 rfl rfl ?_
  refine r_iconst 1 (v := 0) hC dX7_errorPosition_1 (by decide) ?_
  refine r_putI7 2 hC hk0 0 (by decide) tw_1179 rfl rfl (by decide +kernel) ps_7_0 dX7_errorPosition_2 (fun I10 hI => ?_)
  replace h := h I10 hI; clear hI
  refine r_aload_n 5 hC dX7_errorPosition_5 rfl rfl ?_
  refine r_getI7 6 (x := I10 (q0) 17) hC hk0 17 (by decide) tw_1196 rfl rfl dX7_errorPosition_6 ?_
  exact r_iret 9 hC hE rfl dX7_errorPosition_9 ⟨_, rfl, h⟩

def wX7_begins (G : pm_G) (q0 : Nat) (I : pm_I) (K : pm_I → Prop) : Prop :=
  pm_lp2 (fun (P10 : Int32 → pm_I → Prop) (x12 : Int32) (I11 : pm_I) => (821 ≤ x12 → (pm_lp2 (fun (P13 : Int32 → pm_I → Prop) (x15 : Int32) (I14 : pm_I) => (8 ≤ x15 → (∀ I16 : pm_I, I16 = pm_up I14 (q0) 26 (0) → ((∀ I17 : pm_I, I17 = pm_up I16 (q0 + 15) ((0 : Int32).toNatClampNeg) (vp_nar .boolean (0)) → ((∀ I18 : pm_I, I18 = pm_up I17 (q0 + 15) ((1 : Int32).toNatClampNeg) (vp_nar .boolean (0)) → K I18)))))) ∧ (¬ 8 ≤ x15 → (vp_in (x15) 16 ∧ (vp_in (1 + x15) 821 ∧ (∀ I19 : pm_I, I19 = pm_up I14 (q0 + 1) ((1 + x15).toNatClampNeg) (I14 (q0 + 6) (x15).toNatClampNeg) → (pm_lp2 (fun (P20 : Int32 → pm_I → Prop) (x22 : Int32) (I21 : pm_I) => (8 ≤ x22 → (P13 (x15 + 1) I21)) ∧ (¬ 8 ≤ x22 → (vp_in (9 + x15) 821 ∧ (vp_in ((8 * x15) + x22) 128 ∧ (((I21 (q0 + 5) ((8 * x15) + x22).toNatClampNeg) ≤ 0 → (vp_in (9 + x15) 821 ∧ (∀ I23 : pm_I, I23 = pm_up I21 (q0 + 1) ((9 + x15).toNatClampNeg) ((I21 (q0 + 1) (9 + x15).toNatClampNeg) ||| 0) → (P20 (x22 + 1) I23)))) ∧ (¬ (I21 (q0 + 5) ((8 * x15) + x22).toNatClampNeg) ≤ 0 → (vp_in (9 + x15) 821 ∧ (∀ I24 : pm_I, I24 = pm_up I21 (q0 + 1) ((9 + x15).toNatClampNeg) ((I21 (q0 + 1) (9 + x15).toNatClampNeg) ||| (1 <<< (x22 &&& 31))) → (P20 (x22 + 1) I24))))))))) (0) I19)))))) (0) I11)) ∧ (¬ 821 ≤ x12 → (vp_in (x12) 821 ∧ (∀ I25 : pm_I, I25 = pm_up I11 (q0 + 1) ((x12).toNatClampNeg) (0) → (P10 (x12 + 1) I25))))) (0) I

set_option maxRecDepth 20000 in
theorem sX7_begins {G : pm_G} {l : Launch} (hG : pm_ok G) (q0 : Nat) (I : pm_I) (K : pm_I → Prop) (hk0 : pm_k G q0 (.inl 7)) (h : wX7_begins G q0 I K) : pm_Ct G l yX7_begins cX7_begins 3 none { frames := 1, cells := 0, slots := 0, locals := 64 } [.ref (q0)] I (pm_Kv K) := by
  unfold wX7_begins at h
  refine pm_enter (by decide +kernel) hG rfl (Nat.le_of_ble_eq_true rfl) rfl (fun X hl hC hE => ?_)
  subst hl
  have hab : 0 ≤ 0 ∧ 0 ≤ 0 := ⟨Nat.le_refl 0, Nat.le_refl 0⟩
  have hC : pm_C G X cX7_begins 3 RX7 none { frames := 1, cells := 0, slots := 0, locals := 64 } := hC
  refine r_iconst 0 (v := 0) hC dX7_begins_0 (by decide) ?_
  refine r_istore_n 1 [some (.ref (q0)), some (.int (0)), none] hC dX7_begins_1 rfl (by decide) rfl ?_
  refine h (fun x12 I11 => pm_R G X 3 0 0 2 [some (.ref (q0)), some (.int (x12)), none] [] I11) ?_
  clear h; intro x12 I11 h
  refine r_iload_n 2 hC dX7_begins_2 rfl rfl ?_
  refine r_sipush 3 (v := 821) hC dX7_begins_3 (by decide) ?_
  refine r_icmp_ge 6 22 hC dX7_begins_6 (by decide) (fun hc => ?_) (fun hc => ?_)
  · replace h := h.1 hc
    refine r_iconst 22 (v := 0) hC dX7_begins_22 (by decide) ?_
    refine r_istore_n 23 [some (.ref (q0)), some (.int (0)), none] hC dX7_begins_23 rfl (by decide) rfl ?_
    refine h (fun x15 I14 => pm_R G X 3 0 0 24 [some (.ref (q0)), some (.int (x15)), none] [] I14) ?_
    clear h; intro x15 I14 h
    refine r_iload_n 24 hC dX7_begins_24 rfl rfl ?_
    refine r_bipush 25 (v := 8) hC dX7_begins_25 (by decide) ?_
    refine r_icmp_ge 27 97 hC dX7_begins_27 (by decide) (fun hc => ?_) (fun hc => ?_)
    · replace h := h.1 hc
      refine r_aload_n 97 hC dX7_begins_97 rfl rfl ?_
      refine r_iconst 98 (v := 0) hC dX7_begins_98 (by decide) ?_
      refine r_putI7 99 hC hk0 26 (by decide) tw_1205 rfl rfl (by decide +kernel) ps_7_26 dX7_begins_99 (fun I16 hI => ?_)
      replace h := h I16 hI; clear hI
      refine r_aload_n 102 hC dX7_begins_102 rfl rfl ?_
      refine r_getR7 103 (r1 := q0 + 15) hC hk0 29 (by decide) tw_1208 rfl rfl dX7_begins_103 ?_
      refine r_iconst 106 (v := 0) hC dX7_begins_106 (by decide) ?_
      refine r_iconst 107 (v := 0) hC dX7_begins_107 (by decide) ?_
      refine r_zast 108 hC ((pm_s7 hG hk0).2.2.2.2.2.2.2.2.2.2.2.2.2.2) (by unfold vp_in; decide) dX7_begins_108 (fun I17 hI => ?_)
      replace h := h I17 hI; clear hI
      refine r_aload_n 109 hC dX7_begins_109 rfl rfl ?_
      refine r_getR7 110 (r1 := q0 + 15) hC hk0 29 (by decide) tw_1208 rfl rfl dX7_begins_110 ?_
      refine r_iconst 113 (v := 1) hC dX7_begins_113 (by decide) ?_
      refine r_iconst 114 (v := 0) hC dX7_begins_114 (by decide) ?_
      refine r_zast 115 hC ((pm_s7 hG hk0).2.2.2.2.2.2.2.2.2.2.2.2.2.2) (by unfold vp_in; decide) dX7_begins_115 (fun I18 hI => ?_)
      replace h := h I18 hI; clear hI
      exact r_vret 116 hC hE dX7_begins_116 ⟨rfl, h⟩
    · replace h := h.2 hc
      refine r_aload_n 30 hC dX7_begins_30 rfl rfl ?_
      refine r_getR7 31 (r1 := q0 + 1) hC hk0 1 (by decide) tw_1180 rfl rfl dX7_begins_31 ?_
      refine r_iconst 34 (v := 1) hC dX7_begins_34 (by decide) ?_
      refine r_iload_n 35 hC dX7_begins_35 rfl rfl ?_
      refine r_iadd 36 hC dX7_begins_36 ?_
      refine r_aload_n 37 hC dX7_begins_37 rfl rfl ?_
      refine r_getR7 38 (r1 := q0 + 6) hC hk0 6 (by decide) tw_1185 rfl rfl dX7_begins_38 ?_
      refine r_iload_n 41 hC dX7_begins_41 rfl rfl ?_
      refine r_iald 42 hC ((pm_s7 hG hk0).2.2.2.2.2.1) h.1 dX7_begins_42 ?_
      replace h := h.2
      refine r_iast 43 hC ((pm_s7 hG hk0).1) h.1 dX7_begins_43 (fun I19 hI => ?_)
      replace h := h.2
      replace h := h I19 hI; clear hI
      refine r_iconst 44 (v := 0) hC dX7_begins_44 (by decide) ?_
      refine r_istore_n 45 [some (.ref (q0)), some (.int (x15)), some (.int (0))] hC dX7_begins_45 rfl (by decide) rfl ?_
      refine h (fun x22 I21 => pm_R G X 3 0 0 46 [some (.ref (q0)), some (.int (x15)), some (.int (x22))] [] I21) ?_
      clear h; intro x22 I21 h
      refine r_iload_n 46 hC dX7_begins_46 rfl rfl ?_
      refine r_bipush 47 (v := 8) hC dX7_begins_47 (by decide) ?_
      refine r_icmp_ge 49 91 hC dX7_begins_49 (by decide) (fun hc => ?_) (fun hc => ?_)
      · replace h := h.1 hc
        refine r_iinc 91 (v := x15 + 1) [some (.ref (q0)), some (.int (x15 + 1)), some (.int (x22))] hC dX7_begins_91 rfl (by rfl) (by decide) rfl ?_
        refine r_goto 94 24 hC dX7_begins_94 (by decide) ?_
        refine r_weak (ls' := [some (.ref (q0)), some (.int (x15 + 1)), none]) (And.intro rfl (And.intro rfl (trivial))) ?_
        exact h
      · replace h := h.2 hc
        refine r_aload_n 52 hC dX7_begins_52 rfl rfl ?_
        refine r_getR7 53 (r1 := q0 + 1) hC hk0 1 (by decide) tw_1180 rfl rfl dX7_begins_53 ?_
        refine r_bipush 56 (v := 9) hC dX7_begins_56 (by decide) ?_
        refine r_iload_n 58 hC dX7_begins_58 rfl rfl ?_
        refine r_iadd 59 hC dX7_begins_59 ?_
        refine r_dup2 60 hC dX7_begins_60 rfl rfl ?_
        refine r_iald 61 hC ((pm_s7 hG hk0).1) h.1 dX7_begins_61 ?_
        replace h := h.2
        refine r_aload_n 62 hC dX7_begins_62 rfl rfl ?_
        refine r_getR7 63 (r1 := q0 + 5) hC hk0 5 (by decide) tw_1184 rfl rfl dX7_begins_63 ?_
        refine r_bipush 66 (v := 8) hC dX7_begins_66 (by decide) ?_
        refine r_iload_n 68 hC dX7_begins_68 rfl rfl ?_
        refine r_imul 69 hC dX7_begins_69 ?_
        refine r_iload_n 70 hC dX7_begins_70 rfl rfl ?_
        refine r_iadd 71 hC dX7_begins_71 ?_
        refine r_iald 72 hC ((pm_s7 hG hk0).2.2.2.2.1) h.1 dX7_begins_72 ?_
        replace h := h.2
        refine r_if_le 73 82 hC dX7_begins_73 (by decide) (fun hc => ?_) (fun hc => ?_)
        · replace h := h.1 hc
          refine r_iconst 82 (v := 0) hC dX7_begins_82 (by decide) ?_
          refine r_ior 83 hC dX7_begins_83 ?_
          refine r_iast 84 hC ((pm_s7 hG hk0).1) h.1 dX7_begins_84 (fun I23 hI => ?_)
          replace h := h.2
          replace h := h I23 hI; clear hI
          refine r_iinc 85 (v := x22 + 1) [some (.ref (q0)), some (.int (x15)), some (.int (x22 + 1))] hC dX7_begins_85 rfl (by rfl) (by decide) rfl ?_
          refine r_goto 88 46 hC dX7_begins_88 (by decide) ?_
          exact h
        · replace h := h.2 hc
          refine r_iconst 76 (v := 1) hC dX7_begins_76 (by decide) ?_
          refine r_iload_n 77 hC dX7_begins_77 rfl rfl ?_
          refine r_ishl 78 hC dX7_begins_78 ?_
          refine r_goto 79 83 hC dX7_begins_79 (by decide) ?_
          refine r_ior 83 hC dX7_begins_83 ?_
          refine r_iast 84 hC ((pm_s7 hG hk0).1) h.1 dX7_begins_84 (fun I24 hI => ?_)
          replace h := h.2
          replace h := h I24 hI; clear hI
          refine r_iinc 85 (v := x22 + 1) [some (.ref (q0)), some (.int (x15)), some (.int (x22 + 1))] hC dX7_begins_85 rfl (by rfl) (by decide) rfl ?_
          refine r_goto 88 46 hC dX7_begins_88 (by decide) ?_
          exact h
  · replace h := h.2 hc
    refine r_aload_n 9 hC dX7_begins_9 rfl rfl ?_
    refine r_getR7 10 (r1 := q0 + 1) hC hk0 1 (by decide) tw_1180 rfl rfl dX7_begins_10 ?_
    refine r_iload_n 13 hC dX7_begins_13 rfl rfl ?_
    refine r_iconst 14 (v := 0) hC dX7_begins_14 (by decide) ?_
    refine r_iast 15 hC ((pm_s7 hG hk0).1) h.1 dX7_begins_15 (fun I25 hI => ?_)
    replace h := h.2
    replace h := h I25 hI; clear hI
    refine r_iinc 16 (v := x12 + 1) [some (.ref (q0)), some (.int (x12 + 1)), none] hC dX7_begins_16 rfl (by rfl) (by decide) rfl ?_
    refine r_goto 19 2 hC dX7_begins_19 (by decide) ?_
    exact h

def wX7_peerCount (G : pm_G) (q0 : Nat) (I : pm_I) (K : Int32 → pm_I → Prop) : Prop :=
  ∀ I10 : pm_I, I10 = pm_up I (q0) 0 (0) → (K (I10 (q0 + 2) (0 : Int32).toNatClampNeg) I10)

set_option maxRecDepth 20000 in
theorem sX7_peerCount {G : pm_G} {l : Launch} (hG : pm_ok G) (q0 : Nat) (I : pm_I) (K : Int32 → pm_I → Prop) (hk0 : pm_k G q0 (.inl 7)) (h : wX7_peerCount G q0 I K) : pm_Ct G l yX7_peerCount cX7_peerCount 1 (some .int) { frames := 1, cells := 0, slots := 0, locals := 64 } [.ref (q0)] I (pm_Ki K) := by
  unfold wX7_peerCount at h
  refine pm_enter (by decide +kernel) hG rfl (Nat.le_of_ble_eq_true rfl) rfl (fun X hl hC hE => ?_)
  subst hl
  have hab : 0 ≤ 0 ∧ 0 ≤ 0 := ⟨Nat.le_refl 0, Nat.le_refl 0⟩
  have hC : pm_C G X cX7_peerCount 1 RX7 (some .int) { frames := 1, cells := 0, slots := 0, locals := 64 } := hC
  refine r_aload_n 0 hC dX7_peerCount_0 rfl rfl ?_
  refine r_iconst 1 (v := 0) hC dX7_peerCount_1 (by decide) ?_
  refine r_putI7 2 hC hk0 0 (by decide) tw_1179 rfl rfl (by decide +kernel) ps_7_0 dX7_peerCount_2 (fun I10 hI => ?_)
  replace h := h I10 hI; clear hI
  refine r_aload_n 5 hC dX7_peerCount_5 rfl rfl ?_
  refine r_getR7 6 (r1 := q0 + 2) hC hk0 2 (by decide) tw_1181 rfl rfl dX7_peerCount_6 ?_
  refine r_iconst 9 (v := 0) hC dX7_peerCount_9 (by decide) ?_
  refine r_iald 10 hC ((pm_s7 hG hk0).2.1) (by unfold vp_in; decide) dX7_peerCount_10 ?_
  exact r_iret 11 hC hE rfl dX7_peerCount_11 ⟨_, rfl, h⟩

def wX7_tick (G : pm_G) (q0 : Nat) (I : pm_I) (K : Int32 → pm_I → Prop) : Prop :=
  ∀ I10 : pm_I, I10 = pm_up I (q0) 0 (0) → (K (I10 (q0 + 1) (0 : Int32).toNatClampNeg) I10)

set_option maxRecDepth 20000 in
theorem sX7_tick {G : pm_G} {l : Launch} (hG : pm_ok G) (q0 : Nat) (I : pm_I) (K : Int32 → pm_I → Prop) (hk0 : pm_k G q0 (.inl 7)) (h : wX7_tick G q0 I K) : pm_Ct G l yX7_tick cX7_tick 1 (some .int) { frames := 1, cells := 0, slots := 0, locals := 64 } [.ref (q0)] I (pm_Ki K) := by
  unfold wX7_tick at h
  refine pm_enter (by decide +kernel) hG rfl (Nat.le_of_ble_eq_true rfl) rfl (fun X hl hC hE => ?_)
  subst hl
  have hab : 0 ≤ 0 ∧ 0 ≤ 0 := ⟨Nat.le_refl 0, Nat.le_refl 0⟩
  have hC : pm_C G X cX7_tick 1 RX7 (some .int) { frames := 1, cells := 0, slots := 0, locals := 64 } := hC
  refine r_aload_n 0 hC dX7_tick_0 rfl rfl ?_
  refine r_iconst 1 (v := 0) hC dX7_tick_1 (by decide) ?_
  refine r_putI7 2 hC hk0 0 (by decide) tw_1179 rfl rfl (by decide +kernel) ps_7_0 dX7_tick_2 (fun I10 hI => ?_)
  replace h := h I10 hI; clear hI
  refine r_aload_n 5 hC dX7_tick_5 rfl rfl ?_
  refine r_getR7 6 (r1 := q0 + 1) hC hk0 1 (by decide) tw_1180 rfl rfl dX7_tick_6 ?_
  refine r_iconst 9 (v := 0) hC dX7_tick_9 (by decide) ?_
  refine r_iald 10 hC ((pm_s7 hG hk0).1) (by unfold vp_in; decide) dX7_tick_10 ?_
  exact r_iret 11 hC hE rfl dX7_tick_11 ⟨_, rfl, h⟩

def wX7_no (G : pm_G) (q0 : Nat) (x1 : Int32) (x2 : Int32) (I : pm_I) (K : Int32 → pm_I → Prop) : Prop :=
  wX7_within G (x1) (0) (x2 - 1) I (fun r11 I10 => (¬ r11 = 0 → (wX7_throwsIf G (q0) (0) (1) I10 (fun r13 I12 => ((r13) = 0 ∨ (r13) = 1) ∧ K (r13) I12))) ∧ (r11 = 0 → (wX7_throwsIf G (q0) (1) (1) I10 (fun r15 I14 => ((r15) = 0 ∨ (r15) = 1) ∧ K (r15) I14))))

set_option maxRecDepth 20000 in
theorem sX7_no {G : pm_G} {l : Launch} (hG : pm_ok G) (q0 : Nat) (x1 : Int32) (x2 : Int32) (I : pm_I) (K : Int32 → pm_I → Prop) (hk0 : pm_k G q0 (.inl 7)) (h : wX7_no G q0 x1 x2 I K) : pm_Ct G l yX7_no cX7_no 3 (some .boolean) { frames := 2, cells := 0, slots := 0, locals := 150 } [.ref (q0), .int (x1), .int (x2)] I (pm_Ki K) := by
  unfold wX7_no at h
  refine pm_enter (by decide +kernel) hG rfl (Nat.le_of_ble_eq_true rfl) rfl (fun X hl hC hE => ?_)
  subst hl
  have hab : 0 ≤ 0 ∧ 0 ≤ 0 := ⟨Nat.le_refl 0, Nat.le_refl 0⟩
  have hC : pm_C G X cX7_no 3 RX7 (some .boolean) { frames := 2, cells := 0, slots := 0, locals := 150 } := hC
  refine r_aload_n 0 hC dX7_no_0 rfl rfl ?_
  refine r_iload_n 1 hC dX7_no_1 rfl rfl ?_
  refine r_iconst 2 (v := 0) hC dX7_no_2 (by decide) ?_
  refine r_iload_n 3 hC dX7_no_3 rfl rfl ?_
  refine r_iconst 4 (v := 1) hC dX7_no_4 (by decide) ?_
  refine r_isub 5 hC dX7_no_5 ?_
  refine r_callS_i 6 (n := 3) [.int (x1), .int (0), .int (x2 - 1)] [.ref (q0)] hC dX7_no_6 (by decide) (by decide) tw_1288 tw_135 ⟨by decide, by decide, by decide +kernel⟩ tw_1286 tw_1287 rfl rfl (sX7_within (l := pm_l X) hG (x1) (0) (x2 - 1) _ _ h) hab (Nat.le_of_ble_eq_true rfl) ?_
  clear h; intro r11 I10 h
  refine r_if_ne 9 16 hC dX7_no_9 (by decide) (fun hc => ?_) (fun hc => ?_)
  · replace h := h.1 hc
    refine r_iconst 16 (v := 0) hC dX7_no_16 (by decide) ?_
    refine r_iconst 17 (v := 1) hC dX7_no_17 (by decide) ?_
    refine r_callV_i 18 (n := 2) [.int (0), .int (1)] [] hC hk0 rfl dX7_no_18 (by decide) (by decide) tw_1292 tw_135 ⟨by decide, by decide, by decide +kernel⟩ tw_1289 tw_1291 tw_81 rfl rfl (sX7_throwsIf (l := pm_l X) hG (q0) (0) (1) _ _ hk0 h) hab (Nat.le_of_ble_eq_true rfl) ?_
    clear h; intro r13 I12 h
    exact r_iret 21 hC hE (pm_nz h.1).1 dX7_no_21 ⟨_, rfl, h.2⟩
  · replace h := h.2 hc
    refine r_iconst 12 (v := 1) hC dX7_no_12 (by decide) ?_
    refine r_goto 13 17 hC dX7_no_13 (by decide) ?_
    refine r_iconst 17 (v := 1) hC dX7_no_17 (by decide) ?_
    refine r_callV_i 18 (n := 2) [.int (1), .int (1)] [] hC hk0 rfl dX7_no_18 (by decide) (by decide) tw_1292 tw_135 ⟨by decide, by decide, by decide +kernel⟩ tw_1289 tw_1291 tw_81 rfl rfl (sX7_throwsIf (l := pm_l X) hG (q0) (1) (1) _ _ hk0 h) hab (Nat.le_of_ble_eq_true rfl) ?_
    clear h; intro r15 I14 h
    exact r_iret 21 hC hE (pm_nz h.1).1 dX7_no_21 ⟨_, rfl, h.2⟩

def wX7_noPeers (G : pm_G) (q0 : Nat) (x1 : Int32) (x2 : Int32) (I : pm_I) (K : Int32 → pm_I → Prop) : Prop :=
  ∀ I10 : pm_I, I10 = pm_up I (q0) 0 (0) → (wX7_no G (q0) (x1) (I10 (q0 + 2) (0 : Int32).toNatClampNeg) I10 (fun r12 I11 => (¬ r12 = 0 → K 1 I11) ∧ (r12 = 0 → (wX7_no G (q0) (x2) (I11 (q0 + 2) (0 : Int32).toNatClampNeg) I11 (fun r14 I13 => (r14 = 0 → K 0 I13) ∧ (¬ r14 = 0 → K 1 I13))))))

set_option maxRecDepth 20000 in
theorem sX7_noPeers {G : pm_G} {l : Launch} (hG : pm_ok G) (q0 : Nat) (x1 : Int32) (x2 : Int32) (I : pm_I) (K : Int32 → pm_I → Prop) (hk0 : pm_k G q0 (.inl 7)) (h : wX7_noPeers G q0 x1 x2 I K) : pm_Ct G l yX7_noPeers cX7_noPeers 3 (some .boolean) { frames := 3, cells := 0, slots := 0, locals := 236 } [.ref (q0), .int (x1), .int (x2)] I (pm_Ki K) := by
  unfold wX7_noPeers at h
  refine pm_enter (by decide +kernel) hG rfl (Nat.le_of_ble_eq_true rfl) rfl (fun X hl hC hE => ?_)
  subst hl
  have hab : 0 ≤ 0 ∧ 0 ≤ 0 := ⟨Nat.le_refl 0, Nat.le_refl 0⟩
  have hC : pm_C G X cX7_noPeers 3 RX7 (some .boolean) { frames := 3, cells := 0, slots := 0, locals := 236 } := hC
  refine r_aload_n 0 hC dX7_noPeers_0 rfl rfl ?_
  refine r_iconst 1 (v := 0) hC dX7_noPeers_1 (by decide) ?_
  refine r_putI7 2 hC hk0 0 (by decide) tw_1179 rfl rfl (by decide +kernel) ps_7_0 dX7_noPeers_2 (fun I10 hI => ?_)
  replace h := h I10 hI; clear hI
  refine r_aload_n 5 hC dX7_noPeers_5 rfl rfl ?_
  refine r_iload_n 6 hC dX7_noPeers_6 rfl rfl ?_
  refine r_aload_n 7 hC dX7_noPeers_7 rfl rfl ?_
  refine r_getR7 8 (r1 := q0 + 2) hC hk0 2 (by decide) tw_1181 rfl rfl dX7_noPeers_8 ?_
  refine r_iconst 11 (v := 0) hC dX7_noPeers_11 (by decide) ?_
  refine r_iald 12 hC ((pm_s7 hG hk0).2.1) (by unfold vp_in; decide) dX7_noPeers_12 ?_
  refine r_callV_i 13 (n := 2) [.int (x1), .int (I10 (q0 + 2) (0 : Int32).toNatClampNeg)] [] hC hk0 rfl dX7_noPeers_13 (by decide) (by decide) tw_1407 tw_135 ⟨by decide, by decide, by decide +kernel⟩ tw_1404 tw_1406 tw_101 rfl rfl (sX7_no (l := pm_l X) hG (q0) (x1) (I10 (q0 + 2) (0 : Int32).toNatClampNeg) _ _ hk0 h) hab (Nat.le_of_ble_eq_true rfl) ?_
  clear h; intro r12 I11 h
  refine r_if_ne 16 33 hC dX7_noPeers_16 (by decide) (fun hc => ?_) (fun hc => ?_)
  · replace h := h.1 hc
    refine r_iconst 33 (v := 1) hC dX7_noPeers_33 (by decide) ?_
    refine r_goto 34 38 hC dX7_noPeers_34 (by decide) ?_
    exact r_iret 38 hC hE rfl dX7_noPeers_38 ⟨_, rfl, h⟩
  · replace h := h.2 hc
    refine r_aload_n 19 hC dX7_noPeers_19 rfl rfl ?_
    refine r_iload_n 20 hC dX7_noPeers_20 rfl rfl ?_
    refine r_aload_n 21 hC dX7_noPeers_21 rfl rfl ?_
    refine r_getR7 22 (r1 := q0 + 2) hC hk0 2 (by decide) tw_1181 rfl rfl dX7_noPeers_22 ?_
    refine r_iconst 25 (v := 0) hC dX7_noPeers_25 (by decide) ?_
    refine r_iald 26 hC ((pm_s7 hG hk0).2.1) (by unfold vp_in; decide) dX7_noPeers_26 ?_
    refine r_callV_i 27 (n := 2) [.int (x2), .int (I11 (q0 + 2) (0 : Int32).toNatClampNeg)] [] hC hk0 rfl dX7_noPeers_27 (by decide) (by decide) tw_1407 tw_135 ⟨by decide, by decide, by decide +kernel⟩ tw_1404 tw_1406 tw_101 rfl rfl (sX7_no (l := pm_l X) hG (q0) (x2) (I11 (q0 + 2) (0 : Int32).toNatClampNeg) _ _ hk0 h) hab (Nat.le_of_ble_eq_true rfl) ?_
    clear h; intro r14 I13 h
    refine r_if_eq 30 37 hC dX7_noPeers_30 (by decide) (fun hc => ?_) (fun hc => ?_)
    · replace h := h.1 hc
      refine r_iconst 37 (v := 0) hC dX7_noPeers_37 (by decide) ?_
      exact r_iret 38 hC hE rfl dX7_noPeers_38 ⟨_, rfl, h⟩
    · replace h := h.2 hc
      refine r_iconst 33 (v := 1) hC dX7_noPeers_33 (by decide) ?_
      refine r_goto 34 38 hC dX7_noPeers_34 (by decide) ?_
      exact r_iret 38 hC hE rfl dX7_noPeers_38 ⟨_, rfl, h⟩

def wX7_noTwo (G : pm_G) (q0 : Nat) (x1 : Int32) (x2 : Int32) (I : pm_I) (K : Int32 → pm_I → Prop) : Prop :=
  wX7_noPeers G (q0) (x1) (x2) I (fun r11 I10 => (¬ r11 = 0 → K 1 I10) ∧ (r11 = 0 → ((¬ x1 = x2 → (wX7_throwsIf G (q0) (0) (2) I10 (fun r13 I12 => (r13 = 0 → K 0 I12) ∧ (¬ r13 = 0 → K 1 I12)))) ∧ (x1 = x2 → (wX7_throwsIf G (q0) (1) (2) I10 (fun r15 I14 => (r15 = 0 → K 0 I14) ∧ (¬ r15 = 0 → K 1 I14)))))))

set_option maxRecDepth 20000 in
theorem sX7_noTwo {G : pm_G} {l : Launch} (hG : pm_ok G) (q0 : Nat) (x1 : Int32) (x2 : Int32) (I : pm_I) (K : Int32 → pm_I → Prop) (hk0 : pm_k G q0 (.inl 7)) (h : wX7_noTwo G q0 x1 x2 I K) : pm_Ct G l yX7_noTwo cX7_noTwo 3 (some .boolean) { frames := 4, cells := 0, slots := 0, locals := 322 } [.ref (q0), .int (x1), .int (x2)] I (pm_Ki K) := by
  unfold wX7_noTwo at h
  refine pm_enter (by decide +kernel) hG rfl (Nat.le_of_ble_eq_true rfl) rfl (fun X hl hC hE => ?_)
  subst hl
  have hab : 0 ≤ 0 ∧ 0 ≤ 0 := ⟨Nat.le_refl 0, Nat.le_refl 0⟩
  have hC : pm_C G X cX7_noTwo 3 RX7 (some .boolean) { frames := 4, cells := 0, slots := 0, locals := 322 } := hC
  refine r_aload_n 0 hC dX7_noTwo_0 rfl rfl ?_
  refine r_iload_n 1 hC dX7_noTwo_1 rfl rfl ?_
  refine r_iload_n 2 hC dX7_noTwo_2 rfl rfl ?_
  refine r_callV_i 3 (n := 2) [.int (x1), .int (x2)] [] hC hk0 rfl dX7_noTwo_3 (by decide) (by decide) tw_1403 tw_135 ⟨by decide, by decide, by decide +kernel⟩ tw_1400 tw_1402 tw_100 rfl rfl (sX7_noPeers (l := pm_l X) hG (q0) (x1) (x2) _ _ hk0 h) hab (Nat.le_of_ble_eq_true rfl) ?_
  clear h; intro r11 I10 h
  refine r_if_ne 6 27 hC dX7_noTwo_6 (by decide) (fun hc => ?_) (fun hc => ?_)
  · replace h := h.1 hc
    refine r_iconst 27 (v := 1) hC dX7_noTwo_27 (by decide) ?_
    refine r_goto 28 32 hC dX7_noTwo_28 (by decide) ?_
    exact r_iret 32 hC hE rfl dX7_noTwo_32 ⟨_, rfl, h⟩
  · replace h := h.2 hc
    refine r_aload_n 9 hC dX7_noTwo_9 rfl rfl ?_
    refine r_iload_n 10 hC dX7_noTwo_10 rfl rfl ?_
    refine r_iload_n 11 hC dX7_noTwo_11 rfl rfl ?_
    refine r_icmp_ne 12 19 hC dX7_noTwo_12 (by decide) (fun hc => ?_) (fun hc => ?_)
    · replace h := h.1 hc
      refine r_iconst 19 (v := 0) hC dX7_noTwo_19 (by decide) ?_
      refine r_iconst 20 (v := 2) hC dX7_noTwo_20 (by decide) ?_
      refine r_callV_i 21 (n := 2) [.int (0), .int (2)] [] hC hk0 rfl dX7_noTwo_21 (by decide) (by decide) tw_1292 tw_135 ⟨by decide, by decide, by decide +kernel⟩ tw_1289 tw_1291 tw_81 rfl rfl (sX7_throwsIf (l := pm_l X) hG (q0) (0) (2) _ _ hk0 h) hab (Nat.le_of_ble_eq_true rfl) ?_
      clear h; intro r13 I12 h
      refine r_if_eq 24 31 hC dX7_noTwo_24 (by decide) (fun hc => ?_) (fun hc => ?_)
      · replace h := h.1 hc
        refine r_iconst 31 (v := 0) hC dX7_noTwo_31 (by decide) ?_
        exact r_iret 32 hC hE rfl dX7_noTwo_32 ⟨_, rfl, h⟩
      · replace h := h.2 hc
        refine r_iconst 27 (v := 1) hC dX7_noTwo_27 (by decide) ?_
        refine r_goto 28 32 hC dX7_noTwo_28 (by decide) ?_
        exact r_iret 32 hC hE rfl dX7_noTwo_32 ⟨_, rfl, h⟩
    · replace h := h.2 hc
      refine r_iconst 15 (v := 1) hC dX7_noTwo_15 (by decide) ?_
      refine r_goto 16 20 hC dX7_noTwo_16 (by decide) ?_
      refine r_iconst 20 (v := 2) hC dX7_noTwo_20 (by decide) ?_
      refine r_callV_i 21 (n := 2) [.int (1), .int (2)] [] hC hk0 rfl dX7_noTwo_21 (by decide) (by decide) tw_1292 tw_135 ⟨by decide, by decide, by decide +kernel⟩ tw_1289 tw_1291 tw_81 rfl rfl (sX7_throwsIf (l := pm_l X) hG (q0) (1) (2) _ _ hk0 h) hab (Nat.le_of_ble_eq_true rfl) ?_
      clear h; intro r15 I14 h
      refine r_if_eq 24 31 hC dX7_noTwo_24 (by decide) (fun hc => ?_) (fun hc => ?_)
      · replace h := h.1 hc
        refine r_iconst 31 (v := 0) hC dX7_noTwo_31 (by decide) ?_
        exact r_iret 32 hC hE rfl dX7_noTwo_32 ⟨_, rfl, h⟩
      · replace h := h.2 hc
        refine r_iconst 27 (v := 1) hC dX7_noTwo_27 (by decide) ?_
        refine r_goto 28 32 hC dX7_noTwo_28 (by decide) ?_
        exact r_iret 32 hC hE rfl dX7_noTwo_32 ⟨_, rfl, h⟩

def wX7_areKnown (G : pm_G) (q0 : Nat) (x1 : Int32) (x2 : Int32) (I : pm_I) (K : Int32 → pm_I → Prop) : Prop :=
  vp_in (1 + x1) 821 ∧ (wX7_has G (I (q0 + 1) (1 + x1).toNatClampNeg) (x2) I (fun r11 I10 => ((r11) = 0 ∨ (r11) = 1) ∧ K (r11) I10))

set_option maxRecDepth 20000 in
theorem sX7_areKnown {G : pm_G} {l : Launch} (hG : pm_ok G) (q0 : Nat) (x1 : Int32) (x2 : Int32) (I : pm_I) (K : Int32 → pm_I → Prop) (hk0 : pm_k G q0 (.inl 7)) (h : wX7_areKnown G q0 x1 x2 I K) : pm_Ct G l yX7_areKnown cX7_areKnown 3 (some .boolean) { frames := 2, cells := 0, slots := 0, locals := 149 } [.ref (q0), .int (x1), .int (x2)] I (pm_Ki K) := by
  unfold wX7_areKnown at h
  refine pm_enter (by decide +kernel) hG rfl (Nat.le_of_ble_eq_true rfl) rfl (fun X hl hC hE => ?_)
  subst hl
  have hab : 0 ≤ 0 ∧ 0 ≤ 0 := ⟨Nat.le_refl 0, Nat.le_refl 0⟩
  have hC : pm_C G X cX7_areKnown 3 RX7 (some .boolean) { frames := 2, cells := 0, slots := 0, locals := 149 } := hC
  refine r_aload_n 0 hC dX7_areKnown_0 rfl rfl ?_
  refine r_getR7 1 (r1 := q0 + 1) hC hk0 1 (by decide) tw_1180 rfl rfl dX7_areKnown_1 ?_
  refine r_iconst 4 (v := 1) hC dX7_areKnown_4 (by decide) ?_
  refine r_iload_n 5 hC dX7_areKnown_5 rfl rfl ?_
  refine r_iadd 6 hC dX7_areKnown_6 ?_
  refine r_iald 7 hC ((pm_s7 hG hk0).1) h.1 dX7_areKnown_7 ?_
  replace h := h.2
  refine r_iload_n 8 hC dX7_areKnown_8 rfl rfl ?_
  refine r_callS_i 9 (n := 2) [.int (I (q0 + 1) (1 + x1).toNatClampNeg), .int (x2)] [] hC dX7_areKnown_9 (by decide) (by decide) tw_1348 tw_135 ⟨by decide, by decide, by decide +kernel⟩ tw_1346 tw_1347 rfl rfl (sX7_has (l := pm_l X) hG (I (q0 + 1) (1 + x1).toNatClampNeg) (x2) _ _ h) hab (Nat.le_of_ble_eq_true rfl) ?_
  clear h; intro r11 I10 h
  exact r_iret 12 hC hE (pm_nz h.1).1 dX7_areKnown_12 ⟨_, rfl, h.2⟩

def wX7_isUp (G : pm_G) (q0 : Nat) (x1 : Int32) (x2 : Int32) (I : pm_I) (K : Int32 → pm_I → Prop) : Prop :=
  vp_in (9 + x1) 821 ∧ (wX7_has G (I (q0 + 1) (9 + x1).toNatClampNeg) (x2) I (fun r11 I10 => ((r11) = 0 ∨ (r11) = 1) ∧ K (r11) I10))

set_option maxRecDepth 20000 in
theorem sX7_isUp {G : pm_G} {l : Launch} (hG : pm_ok G) (q0 : Nat) (x1 : Int32) (x2 : Int32) (I : pm_I) (K : Int32 → pm_I → Prop) (hk0 : pm_k G q0 (.inl 7)) (h : wX7_isUp G q0 x1 x2 I K) : pm_Ct G l yX7_isUp cX7_isUp 3 (some .boolean) { frames := 2, cells := 0, slots := 0, locals := 149 } [.ref (q0), .int (x1), .int (x2)] I (pm_Ki K) := by
  unfold wX7_isUp at h
  refine pm_enter (by decide +kernel) hG rfl (Nat.le_of_ble_eq_true rfl) rfl (fun X hl hC hE => ?_)
  subst hl
  have hab : 0 ≤ 0 ∧ 0 ≤ 0 := ⟨Nat.le_refl 0, Nat.le_refl 0⟩
  have hC : pm_C G X cX7_isUp 3 RX7 (some .boolean) { frames := 2, cells := 0, slots := 0, locals := 149 } := hC
  refine r_aload_n 0 hC dX7_isUp_0 rfl rfl ?_
  refine r_getR7 1 (r1 := q0 + 1) hC hk0 1 (by decide) tw_1180 rfl rfl dX7_isUp_1 ?_
  refine r_bipush 4 (v := 9) hC dX7_isUp_4 (by decide) ?_
  refine r_iload_n 6 hC dX7_isUp_6 rfl rfl ?_
  refine r_iadd 7 hC dX7_isUp_7 ?_
  refine r_iald 8 hC ((pm_s7 hG hk0).1) h.1 dX7_isUp_8 ?_
  replace h := h.2
  refine r_iload_n 9 hC dX7_isUp_9 rfl rfl ?_
  refine r_callS_i 10 (n := 2) [.int (I (q0 + 1) (9 + x1).toNatClampNeg), .int (x2)] [] hC dX7_isUp_10 (by decide) (by decide) tw_1348 tw_135 ⟨by decide, by decide, by decide +kernel⟩ tw_1346 tw_1347 rfl rfl (sX7_has (l := pm_l X) hG (I (q0 + 1) (9 + x1).toNatClampNeg) (x2) _ _ h) hab (Nat.le_of_ble_eq_true rfl) ?_
  clear h; intro r11 I10 h
  exact r_iret 13 hC hE (pm_nz h.1).1 dX7_isUp_13 ⟨_, rfl, h.2⟩

def wX7_knows (G : pm_G) (q0 : Nat) (x1 : Int32) (x2 : Int32) (I : pm_I) (K : Int32 → pm_I → Prop) : Prop :=
  wX7_noPeers G (q0) (x1) (x2) I (fun r11 I10 => (¬ r11 = 0 → K 0 I10) ∧ (r11 = 0 → (wX7_areKnown G (q0) (x1) (x2) I10 (fun r13 I12 => (r13 = 0 → K 0 I12) ∧ (¬ r13 = 0 → K 1 I12)))))

set_option maxRecDepth 20000 in
theorem sX7_knows {G : pm_G} {l : Launch} (hG : pm_ok G) (q0 : Nat) (x1 : Int32) (x2 : Int32) (I : pm_I) (K : Int32 → pm_I → Prop) (hk0 : pm_k G q0 (.inl 7)) (h : wX7_knows G q0 x1 x2 I K) : pm_Ct G l yX7_knows cX7_knows 3 (some .boolean) { frames := 4, cells := 0, slots := 0, locals := 322 } [.ref (q0), .int (x1), .int (x2)] I (pm_Ki K) := by
  unfold wX7_knows at h
  refine pm_enter (by decide +kernel) hG rfl (Nat.le_of_ble_eq_true rfl) rfl (fun X hl hC hE => ?_)
  subst hl
  have hab : 0 ≤ 0 ∧ 0 ≤ 0 := ⟨Nat.le_refl 0, Nat.le_refl 0⟩
  have hC : pm_C G X cX7_knows 3 RX7 (some .boolean) { frames := 4, cells := 0, slots := 0, locals := 322 } := hC
  refine r_aload_n 0 hC dX7_knows_0 rfl rfl ?_
  refine r_iload_n 1 hC dX7_knows_1 rfl rfl ?_
  refine r_iload_n 2 hC dX7_knows_2 rfl rfl ?_
  refine r_callV_i 3 (n := 2) [.int (x1), .int (x2)] [] hC hk0 rfl dX7_knows_3 (by decide) (by decide) tw_1403 tw_135 ⟨by decide, by decide, by decide +kernel⟩ tw_1400 tw_1402 tw_100 rfl rfl (sX7_noPeers (l := pm_l X) hG (q0) (x1) (x2) _ _ hk0 h) hab (Nat.le_of_ble_eq_true rfl) ?_
  clear h; intro r11 I10 h
  refine r_if_ne 6 22 hC dX7_knows_6 (by decide) (fun hc => ?_) (fun hc => ?_)
  · replace h := h.1 hc
    refine r_iconst 22 (v := 0) hC dX7_knows_22 (by decide) ?_
    exact r_iret 23 hC hE rfl dX7_knows_23 ⟨_, rfl, h⟩
  · replace h := h.2 hc
    refine r_aload_n 9 hC dX7_knows_9 rfl rfl ?_
    refine r_iload_n 10 hC dX7_knows_10 rfl rfl ?_
    refine r_iload_n 11 hC dX7_knows_11 rfl rfl ?_
    refine r_callV_i 12 (n := 2) [.int (x1), .int (x2)] [] hC hk0 rfl dX7_knows_12 (by decide) (by decide) tw_1411 tw_135 ⟨by decide, by decide, by decide +kernel⟩ tw_1408 tw_1410 tw_102 rfl rfl (sX7_areKnown (l := pm_l X) hG (q0) (x1) (x2) _ _ hk0 h) hab (Nat.le_of_ble_eq_true rfl) ?_
    clear h; intro r13 I12 h
    refine r_if_eq 15 22 hC dX7_knows_15 (by decide) (fun hc => ?_) (fun hc => ?_)
    · replace h := h.1 hc
      refine r_iconst 22 (v := 0) hC dX7_knows_22 (by decide) ?_
      exact r_iret 23 hC hE rfl dX7_knows_23 ⟨_, rfl, h⟩
    · replace h := h.2 hc
      refine r_iconst 18 (v := 1) hC dX7_knows_18 (by decide) ?_
      refine r_goto 19 23 hC dX7_knows_19 (by decide) ?_
      exact r_iret 23 hC hE rfl dX7_knows_23 ⟨_, rfl, h⟩

def wX7_delay (G : pm_G) (q0 : Nat) (x1 : Int32) (x2 : Int32) (I : pm_I) (K : Int32 → pm_I → Prop) : Prop :=
  wX7_noPeers G (q0) (x1) (x2) I (fun r11 I10 => (r11 = 0 → (wX7_isUp G (q0) (x1) (x2) I10 (fun r13 I12 => (r13 = 0 → (K (-1) I12)) ∧ (¬ r13 = 0 → (vp_in ((8 * x1) + x2) 128 ∧ (K (I12 (q0 + 5) ((8 * x1) + x2).toNatClampNeg) I12)))))) ∧ (¬ r11 = 0 → (K (0) I10)))

set_option maxRecDepth 20000 in
theorem sX7_delay {G : pm_G} {l : Launch} (hG : pm_ok G) (q0 : Nat) (x1 : Int32) (x2 : Int32) (I : pm_I) (K : Int32 → pm_I → Prop) (hk0 : pm_k G q0 (.inl 7)) (h : wX7_delay G q0 x1 x2 I K) : pm_Ct G l yX7_delay cX7_delay 3 (some .int) { frames := 4, cells := 0, slots := 0, locals := 322 } [.ref (q0), .int (x1), .int (x2)] I (pm_Ki K) := by
  unfold wX7_delay at h
  refine pm_enter (by decide +kernel) hG rfl (Nat.le_of_ble_eq_true rfl) rfl (fun X hl hC hE => ?_)
  subst hl
  have hab : 0 ≤ 0 ∧ 0 ≤ 0 := ⟨Nat.le_refl 0, Nat.le_refl 0⟩
  have hC : pm_C G X cX7_delay 3 RX7 (some .int) { frames := 4, cells := 0, slots := 0, locals := 322 } := hC
  refine r_aload_n 0 hC dX7_delay_0 rfl rfl ?_
  refine r_iload_n 1 hC dX7_delay_1 rfl rfl ?_
  refine r_iload_n 2 hC dX7_delay_2 rfl rfl ?_
  refine r_callV_i 3 (n := 2) [.int (x1), .int (x2)] [] hC hk0 rfl dX7_delay_3 (by decide) (by decide) tw_1403 tw_135 ⟨by decide, by decide, by decide +kernel⟩ tw_1400 tw_1402 tw_100 rfl rfl (sX7_noPeers (l := pm_l X) hG (q0) (x1) (x2) _ _ hk0 h) hab (Nat.le_of_ble_eq_true rfl) ?_
  clear h; intro r11 I10 h
  refine r_if_eq 6 13 hC dX7_delay_6 (by decide) (fun hc => ?_) (fun hc => ?_)
  · replace h := h.1 hc
    refine r_aload_n 13 hC dX7_delay_13 rfl rfl ?_
    refine r_iload_n 14 hC dX7_delay_14 rfl rfl ?_
    refine r_iload_n 15 hC dX7_delay_15 rfl rfl ?_
    refine r_callV_i 16 (n := 2) [.int (x1), .int (x2)] [] hC hk0 rfl dX7_delay_16 (by decide) (by decide) tw_1419 tw_135 ⟨by decide, by decide, by decide +kernel⟩ tw_1416 tw_1418 tw_103 rfl rfl (sX7_isUp (l := pm_l X) hG (q0) (x1) (x2) _ _ hk0 h) hab (Nat.le_of_ble_eq_true rfl) ?_
    clear h; intro r13 I12 h
    refine r_if_eq 19 36 hC dX7_delay_19 (by decide) (fun hc => ?_) (fun hc => ?_)
    · replace h := h.1 hc
      refine r_iconst 36 (v := -1) hC dX7_delay_36 (by decide) ?_
      exact r_iret 37 hC hE rfl dX7_delay_37 ⟨_, rfl, h⟩
    · replace h := h.2 hc
      refine r_aload_n 22 hC dX7_delay_22 rfl rfl ?_
      refine r_getR7 23 (r1 := q0 + 5) hC hk0 5 (by decide) tw_1184 rfl rfl dX7_delay_23 ?_
      refine r_bipush 26 (v := 8) hC dX7_delay_26 (by decide) ?_
      refine r_iload_n 28 hC dX7_delay_28 rfl rfl ?_
      refine r_imul 29 hC dX7_delay_29 ?_
      refine r_iload_n 30 hC dX7_delay_30 rfl rfl ?_
      refine r_iadd 31 hC dX7_delay_31 ?_
      refine r_iald 32 hC ((pm_s7 hG hk0).2.2.2.2.1) h.1 dX7_delay_32 ?_
      replace h := h.2
      refine r_goto 33 37 hC dX7_delay_33 (by decide) ?_
      exact r_iret 37 hC hE rfl dX7_delay_37 ⟨_, rfl, h⟩
  · replace h := h.2 hc
    refine r_iconst 9 (v := 0) hC dX7_delay_9 (by decide) ?_
    refine r_goto 10 37 hC dX7_delay_10 (by decide) ?_
    exact r_iret 37 hC hE rfl dX7_delay_37 ⟨_, rfl, h⟩

def wX7_introductionsNeeded (G : pm_G) (q0 : Nat) (x1 : Int32) (x2 : Int32) (I : pm_I) (K : Int32 → pm_I → Prop) : Prop :=
  wX7_noTwo G (q0) (x1) (x2) I (fun r11 I10 => (r11 = 0 → (pm_lp3 (fun (P12 : Int32 → Int32 → pm_I → Prop) (x14 : Int32) (x15 : Int32) (I13 : pm_I) => (8 ≤ x15 → (K (-1) I13)) ∧ (¬ 8 ≤ x15 → (pm_lp3 (fun (P16 : Int32 → Int32 → pm_I → Prop) (x18 : Int32) (x19 : Int32) (I17 : pm_I) => ((I17 (q0 + 2) (0 : Int32).toNatClampNeg) ≤ x19 → (wX7_has G (x18) (x2) I17 (fun r21 I20 => (r21 = 0 → (P12 (x18) (x15 + 1) I20)) ∧ (¬ r21 = 0 → (K (x15) I20))))) ∧ (¬ (I17 (q0 + 2) (0 : Int32).toNatClampNeg) ≤ x19 → (wX7_has G (x14) (x19) I17 (fun r23 I22 => (r23 = 0 → (P16 (x18 ||| 0) (x19 + 1) I22)) ∧ (¬ r23 = 0 → (vp_in (1 + x19) 821 ∧ (P16 (x18 ||| (I22 (q0 + 1) (1 + x19).toNatClampNeg)) (x19 + 1) I22))))))) (x14) (0) I13))) (1 <<< (x1 &&& 31)) (0) I10)) ∧ (¬ r11 = 0 → (K (0) I10)))

set_option maxRecDepth 20000 in
theorem sX7_introductionsNeeded {G : pm_G} {l : Launch} (hG : pm_ok G) (q0 : Nat) (x1 : Int32) (x2 : Int32) (I : pm_I) (K : Int32 → pm_I → Prop) (hk0 : pm_k G q0 (.inl 7)) (h : wX7_introductionsNeeded G q0 x1 x2 I K) : pm_Ct G l yX7_introductionsNeeded cX7_introductionsNeeded 7 (some .int) { frames := 5, cells := 0, slots := 0, locals := 408 } [.ref (q0), .int (x1), .int (x2)] I (pm_Ki K) := by
  unfold wX7_introductionsNeeded at h
  refine pm_enter (by decide +kernel) hG rfl (Nat.le_of_ble_eq_true rfl) rfl (fun X hl hC hE => ?_)
  subst hl
  have hab : 0 ≤ 0 ∧ 0 ≤ 0 := ⟨Nat.le_refl 0, Nat.le_refl 0⟩
  have hC : pm_C G X cX7_introductionsNeeded 7 RX7 (some .int) { frames := 5, cells := 0, slots := 0, locals := 408 } := hC
  refine r_aload_n 0 hC dX7_introductionsNeeded_0 rfl rfl ?_
  refine r_iload_n 1 hC dX7_introductionsNeeded_1 rfl rfl ?_
  refine r_iload_n 2 hC dX7_introductionsNeeded_2 rfl rfl ?_
  refine r_callV_i 3 (n := 2) [.int (x1), .int (x2)] [] hC hk0 rfl dX7_introductionsNeeded_3 (by decide) (by decide) tw_1427 tw_135 ⟨by decide, by decide, by decide +kernel⟩ tw_1424 tw_1426 tw_104 rfl rfl (sX7_noTwo (l := pm_l X) hG (q0) (x1) (x2) _ _ hk0 h) hab (Nat.le_of_ble_eq_true rfl) ?_
  clear h; intro r11 I10 h
  refine r_if_eq 6 11 hC dX7_introductionsNeeded_6 (by decide) (fun hc => ?_) (fun hc => ?_)
  · replace h := h.1 hc
    refine r_iconst 11 (v := 1) hC dX7_introductionsNeeded_11 (by decide) ?_
    refine r_iload_n 12 hC dX7_introductionsNeeded_12 rfl rfl ?_
    refine r_ishl 13 hC dX7_introductionsNeeded_13 ?_
    refine r_istore_n 14 [some (.ref (q0)), some (.int (x1)), some (.int (x2)), some (.int (1 <<< (x1 &&& 31))), none, none, none] hC dX7_introductionsNeeded_14 rfl (by decide) rfl ?_
    refine r_iconst 15 (v := 0) hC dX7_introductionsNeeded_15 (by decide) ?_
    refine r_istore 16 [some (.ref (q0)), some (.int (x1)), some (.int (x2)), some (.int (1 <<< (x1 &&& 31))), some (.int (0)), none, none] hC dX7_introductionsNeeded_16 (by decide) rfl ?_
    refine r_weak (ls' := [some (.ref (q0)), none, some (.int (x2)), some (.int (1 <<< (x1 &&& 31))), some (.int (0)), none, none]) (And.intro rfl (And.intro rfl (And.intro rfl (And.intro rfl (trivial))))) ?_
    refine h (fun x14 x15 I13 => pm_R G X 7 0 0 18 [some (.ref (q0)), none, some (.int (x2)), some (.int (x14)), some (.int (x15)), none, none] [] I13) ?_
    clear h; intro x14 x15 I13 h
    refine r_iload 18 hC dX7_introductionsNeeded_18 rfl ?_
    refine r_bipush 20 (v := 8) hC dX7_introductionsNeeded_20 (by decide) ?_
    refine r_icmp_ge 22 96 hC dX7_introductionsNeeded_22 (by decide) (fun hc => ?_) (fun hc => ?_)
    · replace h := h.1 hc
      refine r_iconst 96 (v := -1) hC dX7_introductionsNeeded_96 (by decide) ?_
      exact r_iret 97 hC hE rfl dX7_introductionsNeeded_97 ⟨_, rfl, h⟩
    · replace h := h.2 hc
      refine r_iload_n 25 hC dX7_introductionsNeeded_25 rfl rfl ?_
      refine r_istore 26 [some (.ref (q0)), none, some (.int (x2)), some (.int (x14)), some (.int (x15)), some (.int (x14)), none] hC dX7_introductionsNeeded_26 (by decide) rfl ?_
      refine r_iconst 28 (v := 0) hC dX7_introductionsNeeded_28 (by decide) ?_
      refine r_istore 29 [some (.ref (q0)), none, some (.int (x2)), some (.int (x14)), some (.int (x15)), some (.int (x14)), some (.int (0))] hC dX7_introductionsNeeded_29 (by decide) rfl ?_
      refine h (fun x18 x19 I17 => pm_R G X 7 0 0 31 [some (.ref (q0)), none, some (.int (x2)), some (.int (x14)), some (.int (x15)), some (.int (x18)), some (.int (x19))] [] I17) ?_
      clear h; intro x18 x19 I17 h
      refine r_iload 31 hC dX7_introductionsNeeded_31 rfl ?_
      refine r_aload_n 33 hC dX7_introductionsNeeded_33 rfl rfl ?_
      refine r_getR7 34 (r1 := q0 + 2) hC hk0 2 (by decide) tw_1181 rfl rfl dX7_introductionsNeeded_34 ?_
      refine r_iconst 37 (v := 0) hC dX7_introductionsNeeded_37 (by decide) ?_
      refine r_iald 38 hC ((pm_s7 hG hk0).2.1) (by unfold vp_in; decide) dX7_introductionsNeeded_38 ?_
      refine r_icmp_ge 39 75 hC dX7_introductionsNeeded_39 (by decide) (fun hc => ?_) (fun hc => ?_)
      · replace h := h.1 hc
        refine r_iload 75 hC dX7_introductionsNeeded_75 rfl ?_
        refine r_iload_n 77 hC dX7_introductionsNeeded_77 rfl rfl ?_
        refine r_callS_i 78 (n := 2) [.int (x18), .int (x2)] [] hC dX7_introductionsNeeded_78 (by decide) (by decide) tw_1348 tw_135 ⟨by decide, by decide, by decide +kernel⟩ tw_1346 tw_1347 rfl rfl (sX7_has (l := pm_l X) hG (x18) (x2) _ _ h) hab (Nat.le_of_ble_eq_true rfl) ?_
        clear h; intro r21 I20 h
        refine r_if_eq 81 87 hC dX7_introductionsNeeded_81 (by decide) (fun hc => ?_) (fun hc => ?_)
        · replace h := h.1 hc
          refine r_iload 87 hC dX7_introductionsNeeded_87 rfl ?_
          refine r_istore_n 89 [some (.ref (q0)), none, some (.int (x2)), some (.int (x18)), some (.int (x15)), some (.int (x18)), some (.int (x19))] hC dX7_introductionsNeeded_89 rfl (by decide) rfl ?_
          refine r_iinc 90 (v := x15 + 1) [some (.ref (q0)), none, some (.int (x2)), some (.int (x18)), some (.int (x15 + 1)), some (.int (x18)), some (.int (x19))] hC dX7_introductionsNeeded_90 rfl (by rfl) (by decide) rfl ?_
          refine r_goto 93 18 hC dX7_introductionsNeeded_93 (by decide) ?_
          refine r_weak (ls' := [some (.ref (q0)), none, some (.int (x2)), some (.int (x18)), some (.int (x15 + 1)), none, none]) (And.intro rfl (And.intro rfl (And.intro rfl (And.intro rfl (trivial))))) ?_
          exact h
        · replace h := h.2 hc
          refine r_iload 84 hC dX7_introductionsNeeded_84 rfl ?_
          exact r_iret 86 hC hE rfl dX7_introductionsNeeded_86 ⟨_, rfl, h⟩
      · replace h := h.2 hc
        refine r_iload 42 hC dX7_introductionsNeeded_42 rfl ?_
        refine r_iload_n 44 hC dX7_introductionsNeeded_44 rfl rfl ?_
        refine r_iload 45 hC dX7_introductionsNeeded_45 rfl ?_
        refine r_callS_i 47 (n := 2) [.int (x14), .int (x19)] [.int (x18)] hC dX7_introductionsNeeded_47 (by decide) (by decide) tw_1348 tw_135 ⟨by decide, by decide, by decide +kernel⟩ tw_1346 tw_1347 rfl rfl (sX7_has (l := pm_l X) hG (x14) (x19) _ _ h) hab (Nat.le_of_ble_eq_true rfl) ?_
        clear h; intro r23 I22 h
        refine r_if_eq 50 65 hC dX7_introductionsNeeded_50 (by decide) (fun hc => ?_) (fun hc => ?_)
        · replace h := h.1 hc
          refine r_iconst 65 (v := 0) hC dX7_introductionsNeeded_65 (by decide) ?_
          refine r_ior 66 hC dX7_introductionsNeeded_66 ?_
          refine r_istore 67 [some (.ref (q0)), none, some (.int (x2)), some (.int (x14)), some (.int (x15)), some (.int (x18 ||| 0)), some (.int (x19))] hC dX7_introductionsNeeded_67 (by decide) rfl ?_
          refine r_iinc 69 (v := x19 + 1) [some (.ref (q0)), none, some (.int (x2)), some (.int (x14)), some (.int (x15)), some (.int (x18 ||| 0)), some (.int (x19 + 1))] hC dX7_introductionsNeeded_69 rfl (by rfl) (by decide) rfl ?_
          refine r_goto 72 31 hC dX7_introductionsNeeded_72 (by decide) ?_
          exact h
        · replace h := h.2 hc
          refine r_aload_n 53 hC dX7_introductionsNeeded_53 rfl rfl ?_
          refine r_getR7 54 (r1 := q0 + 1) hC hk0 1 (by decide) tw_1180 rfl rfl dX7_introductionsNeeded_54 ?_
          refine r_iconst 57 (v := 1) hC dX7_introductionsNeeded_57 (by decide) ?_
          refine r_iload 58 hC dX7_introductionsNeeded_58 rfl ?_
          refine r_iadd 60 hC dX7_introductionsNeeded_60 ?_
          refine r_iald 61 hC ((pm_s7 hG hk0).1) h.1 dX7_introductionsNeeded_61 ?_
          replace h := h.2
          refine r_goto 62 66 hC dX7_introductionsNeeded_62 (by decide) ?_
          refine r_ior 66 hC dX7_introductionsNeeded_66 ?_
          refine r_istore 67 [some (.ref (q0)), none, some (.int (x2)), some (.int (x14)), some (.int (x15)), some (.int (x18 ||| (I22 (q0 + 1) (1 + x19).toNatClampNeg))), some (.int (x19))] hC dX7_introductionsNeeded_67 (by decide) rfl ?_
          refine r_iinc 69 (v := x19 + 1) [some (.ref (q0)), none, some (.int (x2)), some (.int (x14)), some (.int (x15)), some (.int (x18 ||| (I22 (q0 + 1) (1 + x19).toNatClampNeg))), some (.int (x19 + 1))] hC dX7_introductionsNeeded_69 rfl (by rfl) (by decide) rfl ?_
          refine r_goto 72 31 hC dX7_introductionsNeeded_72 (by decide) ?_
          exact h
  · replace h := h.2 hc
    refine r_iconst 9 (v := 0) hC dX7_introductionsNeeded_9 (by decide) ?_
    exact r_iret 10 hC hE rfl dX7_introductionsNeeded_10 ⟨_, rfl, h⟩

def wX7_introducer (G : pm_G) (q0 : Nat) (x1 : Int32) (x2 : Int32) (I : pm_I) (K : Int32 → pm_I → Prop) : Prop :=
  wX7_noTwo G (q0) (x1) (x2) I (fun r11 I10 => (r11 = 0 → (pm_lp2 (fun (P12 : Int32 → pm_I → Prop) (x14 : Int32) (I13 : pm_I) => ((I13 (q0 + 2) (0 : Int32).toNatClampNeg) ≤ x14 → (K (-1) I13)) ∧ (¬ (I13 (q0 + 2) (0 : Int32).toNatClampNeg) ≤ x14 → (wX7_areKnown G (q0) (x14) (x1) I13 (fun r16 I15 => (r16 = 0 → (P12 (x14 + 1) I15)) ∧ (¬ r16 = 0 → (wX7_areKnown G (q0) (x14) (x2) I15 (fun r18 I17 => (r18 = 0 → (P12 (x14 + 1) I17)) ∧ (¬ r18 = 0 → (K (x14) I17))))))))) (0) I10)) ∧ (¬ r11 = 0 → (K (0) I10)))

set_option maxRecDepth 20000 in
theorem sX7_introducer {G : pm_G} {l : Launch} (hG : pm_ok G) (q0 : Nat) (x1 : Int32) (x2 : Int32) (I : pm_I) (K : Int32 → pm_I → Prop) (hk0 : pm_k G q0 (.inl 7)) (h : wX7_introducer G q0 x1 x2 I K) : pm_Ct G l yX7_introducer cX7_introducer 4 (some .int) { frames := 5, cells := 0, slots := 0, locals := 408 } [.ref (q0), .int (x1), .int (x2)] I (pm_Ki K) := by
  unfold wX7_introducer at h
  refine pm_enter (by decide +kernel) hG rfl (Nat.le_of_ble_eq_true rfl) rfl (fun X hl hC hE => ?_)
  subst hl
  have hab : 0 ≤ 0 ∧ 0 ≤ 0 := ⟨Nat.le_refl 0, Nat.le_refl 0⟩
  have hC : pm_C G X cX7_introducer 4 RX7 (some .int) { frames := 5, cells := 0, slots := 0, locals := 408 } := hC
  refine r_aload_n 0 hC dX7_introducer_0 rfl rfl ?_
  refine r_iload_n 1 hC dX7_introducer_1 rfl rfl ?_
  refine r_iload_n 2 hC dX7_introducer_2 rfl rfl ?_
  refine r_callV_i 3 (n := 2) [.int (x1), .int (x2)] [] hC hk0 rfl dX7_introducer_3 (by decide) (by decide) tw_1427 tw_135 ⟨by decide, by decide, by decide +kernel⟩ tw_1424 tw_1426 tw_104 rfl rfl (sX7_noTwo (l := pm_l X) hG (q0) (x1) (x2) _ _ hk0 h) hab (Nat.le_of_ble_eq_true rfl) ?_
  clear h; intro r11 I10 h
  refine r_if_eq 6 11 hC dX7_introducer_6 (by decide) (fun hc => ?_) (fun hc => ?_)
  · replace h := h.1 hc
    refine r_iconst 11 (v := 0) hC dX7_introducer_11 (by decide) ?_
    refine r_istore_n 12 [some (.ref (q0)), some (.int (x1)), some (.int (x2)), some (.int (0))] hC dX7_introducer_12 rfl (by decide) rfl ?_
    refine h (fun x14 I13 => pm_R G X 4 0 0 13 [some (.ref (q0)), some (.int (x1)), some (.int (x2)), some (.int (x14))] [] I13) ?_
    clear h; intro x14 I13 h
    refine r_iload_n 13 hC dX7_introducer_13 rfl rfl ?_
    refine r_aload_n 14 hC dX7_introducer_14 rfl rfl ?_
    refine r_getR7 15 (r1 := q0 + 2) hC hk0 2 (by decide) tw_1181 rfl rfl dX7_introducer_15 ?_
    refine r_iconst 18 (v := 0) hC dX7_introducer_18 (by decide) ?_
    refine r_iald 19 hC ((pm_s7 hG hk0).2.1) (by unfold vp_in; decide) dX7_introducer_19 ?_
    refine r_icmp_ge 20 49 hC dX7_introducer_20 (by decide) (fun hc => ?_) (fun hc => ?_)
    · replace h := h.1 hc
      refine r_iconst 49 (v := -1) hC dX7_introducer_49 (by decide) ?_
      exact r_iret 50 hC hE rfl dX7_introducer_50 ⟨_, rfl, h⟩
    · replace h := h.2 hc
      refine r_aload_n 23 hC dX7_introducer_23 rfl rfl ?_
      refine r_iload_n 24 hC dX7_introducer_24 rfl rfl ?_
      refine r_iload_n 25 hC dX7_introducer_25 rfl rfl ?_
      refine r_callV_i 26 (n := 2) [.int (x14), .int (x1)] [] hC hk0 rfl dX7_introducer_26 (by decide) (by decide) tw_1411 tw_135 ⟨by decide, by decide, by decide +kernel⟩ tw_1408 tw_1410 tw_102 rfl rfl (sX7_areKnown (l := pm_l X) hG (q0) (x14) (x1) _ _ hk0 h) hab (Nat.le_of_ble_eq_true rfl) ?_
      clear h; intro r16 I15 h
      refine r_if_eq 29 43 hC dX7_introducer_29 (by decide) (fun hc => ?_) (fun hc => ?_)
      · replace h := h.1 hc
        refine r_iinc 43 (v := x14 + 1) [some (.ref (q0)), some (.int (x1)), some (.int (x2)), some (.int (x14 + 1))] hC dX7_introducer_43 rfl (by rfl) (by decide) rfl ?_
        refine r_goto 46 13 hC dX7_introducer_46 (by decide) ?_
        exact h
      · replace h := h.2 hc
        refine r_aload_n 32 hC dX7_introducer_32 rfl rfl ?_
        refine r_iload_n 33 hC dX7_introducer_33 rfl rfl ?_
        refine r_iload_n 34 hC dX7_introducer_34 rfl rfl ?_
        refine r_callV_i 35 (n := 2) [.int (x14), .int (x2)] [] hC hk0 rfl dX7_introducer_35 (by decide) (by decide) tw_1411 tw_135 ⟨by decide, by decide, by decide +kernel⟩ tw_1408 tw_1410 tw_102 rfl rfl (sX7_areKnown (l := pm_l X) hG (q0) (x14) (x2) _ _ hk0 h) hab (Nat.le_of_ble_eq_true rfl) ?_
        clear h; intro r18 I17 h
        refine r_if_eq 38 43 hC dX7_introducer_38 (by decide) (fun hc => ?_) (fun hc => ?_)
        · replace h := h.1 hc
          refine r_iinc 43 (v := x14 + 1) [some (.ref (q0)), some (.int (x1)), some (.int (x2)), some (.int (x14 + 1))] hC dX7_introducer_43 rfl (by rfl) (by decide) rfl ?_
          refine r_goto 46 13 hC dX7_introducer_46 (by decide) ?_
          exact h
        · replace h := h.2 hc
          refine r_iload_n 41 hC dX7_introducer_41 rfl rfl ?_
          exact r_iret 42 hC hE rfl dX7_introducer_42 ⟨_, rfl, h⟩
  · replace h := h.2 hc
    refine r_iconst 9 (v := 0) hC dX7_introducer_9 (by decide) ?_
    exact r_iret 10 hC hE rfl dX7_introducer_10 ⟨_, rfl, h⟩

def wX7_load (G : pm_G) (q0 : Nat) (x1 : Int32) (I : pm_I) (K : Int32 → pm_I → Prop) : Prop :=
  wX7_noPeers G (q0) (x1) (x1) I (fun r11 I10 => (r11 = 0 → (wX7_loadOf G (q0) (x1) I10 (fun r13 I12 => K (r13) I12))) ∧ (¬ r11 = 0 → (K (0) I10)))

set_option maxRecDepth 20000 in
theorem sX7_load {G : pm_G} {l : Launch} (hG : pm_ok G) (q0 : Nat) (x1 : Int32) (I : pm_I) (K : Int32 → pm_I → Prop) (hk0 : pm_k G q0 (.inl 7)) (h : wX7_load G q0 x1 I K) : pm_Ct G l yX7_load cX7_load 2 (some .int) { frames := 4, cells := 0, slots := 0, locals := 322 } [.ref (q0), .int (x1)] I (pm_Ki K) := by
  unfold wX7_load at h
  refine pm_enter (by decide +kernel) hG rfl (Nat.le_of_ble_eq_true rfl) rfl (fun X hl hC hE => ?_)
  subst hl
  have hab : 0 ≤ 0 ∧ 0 ≤ 0 := ⟨Nat.le_refl 0, Nat.le_refl 0⟩
  have hC : pm_C G X cX7_load 2 RX7 (some .int) { frames := 4, cells := 0, slots := 0, locals := 322 } := hC
  refine r_aload_n 0 hC dX7_load_0 rfl rfl ?_
  refine r_iload_n 1 hC dX7_load_1 rfl rfl ?_
  refine r_iload_n 2 hC dX7_load_2 rfl rfl ?_
  refine r_callV_i 3 (n := 2) [.int (x1), .int (x1)] [] hC hk0 rfl dX7_load_3 (by decide) (by decide) tw_1403 tw_135 ⟨by decide, by decide, by decide +kernel⟩ tw_1400 tw_1402 tw_100 rfl rfl (sX7_noPeers (l := pm_l X) hG (q0) (x1) (x1) _ _ hk0 h) hab (Nat.le_of_ble_eq_true rfl) ?_
  clear h; intro r11 I10 h
  refine r_if_eq 6 13 hC dX7_load_6 (by decide) (fun hc => ?_) (fun hc => ?_)
  · replace h := h.1 hc
    refine r_aload_n 13 hC dX7_load_13 rfl rfl ?_
    refine r_iload_n 14 hC dX7_load_14 rfl rfl ?_
    refine r_callV_i 15 (n := 1) [.int (x1)] [] hC hk0 rfl dX7_load_15 (by decide) (by decide) tw_1439 tw_135 ⟨by decide, by decide, by decide +kernel⟩ tw_1436 tw_1438 tw_105 rfl rfl (sX7_loadOf (l := pm_l X) hG (q0) (x1) _ _ hk0 h) hab (Nat.le_of_ble_eq_true rfl) ?_
    clear h; intro r13 I12 h
    exact r_iret 18 hC hE rfl dX7_load_18 ⟨_, rfl, h⟩
  · replace h := h.2 hc
    refine r_iconst 9 (v := 0) hC dX7_load_9 (by decide) ?_
    refine r_goto 10 18 hC dX7_load_10 (by decide) ?_
    exact r_iret 18 hC hE rfl dX7_load_18 ⟨_, rfl, h⟩

def wX7_canRelay (G : pm_G) (q0 : Nat) (x1 : Int32) (x2 : Int32) (x3 : Int32) (I : pm_I) (K : Int32 → pm_I → Prop) : Prop :=
  (x1 = x2 → K 0 I) ∧ (¬ x1 = x2 → ((x1 = x3 → K 0 I) ∧ (¬ x1 = x3 → (wX7_areKnown G (q0) (x1) (x2) I (fun r11 I10 => (r11 = 0 → K 0 I10) ∧ (¬ r11 = 0 → (wX7_areKnown G (q0) (x1) (x3) I10 (fun r13 I12 => (r13 = 0 → K 0 I12) ∧ (¬ r13 = 0 → (wX7_isUp G (q0) (x1) (x2) I12 (fun r15 I14 => (r15 = 0 → K 0 I14) ∧ (¬ r15 = 0 → (wX7_isUp G (q0) (x1) (x3) I14 (fun r17 I16 => (r17 = 0 → K 0 I16) ∧ (¬ r17 = 0 → K 1 I16)))))))))))))))

set_option maxRecDepth 20000 in
theorem sX7_canRelay {G : pm_G} {l : Launch} (hG : pm_ok G) (q0 : Nat) (x1 : Int32) (x2 : Int32) (x3 : Int32) (I : pm_I) (K : Int32 → pm_I → Prop) (hk0 : pm_k G q0 (.inl 7)) (h : wX7_canRelay G q0 x1 x2 x3 I K) : pm_Ct G l yX7_canRelay cX7_canRelay 4 (some .boolean) { frames := 3, cells := 0, slots := 0, locals := 235 } [.ref (q0), .int (x1), .int (x2), .int (x3)] I (pm_Ki K) := by
  unfold wX7_canRelay at h
  refine pm_enter (by decide +kernel) hG rfl (Nat.le_of_ble_eq_true rfl) rfl (fun X hl hC hE => ?_)
  subst hl
  have hab : 0 ≤ 0 ∧ 0 ≤ 0 := ⟨Nat.le_refl 0, Nat.le_refl 0⟩
  have hC : pm_C G X cX7_canRelay 4 RX7 (some .boolean) { frames := 3, cells := 0, slots := 0, locals := 235 } := hC
  refine r_iload_n 0 hC dX7_canRelay_0 rfl rfl ?_
  refine r_iload_n 1 hC dX7_canRelay_1 rfl rfl ?_
  refine r_icmp_eq 2 50 hC dX7_canRelay_2 (by decide) (fun hc => ?_) (fun hc => ?_)
  · replace h := h.1 hc
    refine r_iconst 50 (v := 0) hC dX7_canRelay_50 (by decide) ?_
    exact r_iret 51 hC hE rfl dX7_canRelay_51 ⟨_, rfl, h⟩
  · replace h := h.2 hc
    refine r_iload_n 5 hC dX7_canRelay_5 rfl rfl ?_
    refine r_iload_n 6 hC dX7_canRelay_6 rfl rfl ?_
    refine r_icmp_eq 7 50 hC dX7_canRelay_7 (by decide) (fun hc => ?_) (fun hc => ?_)
    · replace h := h.1 hc
      refine r_iconst 50 (v := 0) hC dX7_canRelay_50 (by decide) ?_
      exact r_iret 51 hC hE rfl dX7_canRelay_51 ⟨_, rfl, h⟩
    · replace h := h.2 hc
      refine r_aload_n 10 hC dX7_canRelay_10 rfl rfl ?_
      refine r_iload_n 11 hC dX7_canRelay_11 rfl rfl ?_
      refine r_iload_n 12 hC dX7_canRelay_12 rfl rfl ?_
      refine r_callV_i 13 (n := 2) [.int (x1), .int (x2)] [] hC hk0 rfl dX7_canRelay_13 (by decide) (by decide) tw_1411 tw_135 ⟨by decide, by decide, by decide +kernel⟩ tw_1408 tw_1410 tw_102 rfl rfl (sX7_areKnown (l := pm_l X) hG (q0) (x1) (x2) _ _ hk0 h) hab (Nat.le_of_ble_eq_true rfl) ?_
      clear h; intro r11 I10 h
      refine r_if_eq 16 50 hC dX7_canRelay_16 (by decide) (fun hc => ?_) (fun hc => ?_)
      · replace h := h.1 hc
        refine r_iconst 50 (v := 0) hC dX7_canRelay_50 (by decide) ?_
        exact r_iret 51 hC hE rfl dX7_canRelay_51 ⟨_, rfl, h⟩
      · replace h := h.2 hc
        refine r_aload_n 19 hC dX7_canRelay_19 rfl rfl ?_
        refine r_iload_n 20 hC dX7_canRelay_20 rfl rfl ?_
        refine r_iload_n 21 hC dX7_canRelay_21 rfl rfl ?_
        refine r_callV_i 22 (n := 2) [.int (x1), .int (x3)] [] hC hk0 rfl dX7_canRelay_22 (by decide) (by decide) tw_1411 tw_135 ⟨by decide, by decide, by decide +kernel⟩ tw_1408 tw_1410 tw_102 rfl rfl (sX7_areKnown (l := pm_l X) hG (q0) (x1) (x3) _ _ hk0 h) hab (Nat.le_of_ble_eq_true rfl) ?_
        clear h; intro r13 I12 h
        refine r_if_eq 25 50 hC dX7_canRelay_25 (by decide) (fun hc => ?_) (fun hc => ?_)
        · replace h := h.1 hc
          refine r_iconst 50 (v := 0) hC dX7_canRelay_50 (by decide) ?_
          exact r_iret 51 hC hE rfl dX7_canRelay_51 ⟨_, rfl, h⟩
        · replace h := h.2 hc
          refine r_aload_n 28 hC dX7_canRelay_28 rfl rfl ?_
          refine r_iload_n 29 hC dX7_canRelay_29 rfl rfl ?_
          refine r_iload_n 30 hC dX7_canRelay_30 rfl rfl ?_
          refine r_callV_i 31 (n := 2) [.int (x1), .int (x2)] [] hC hk0 rfl dX7_canRelay_31 (by decide) (by decide) tw_1419 tw_135 ⟨by decide, by decide, by decide +kernel⟩ tw_1416 tw_1418 tw_103 rfl rfl (sX7_isUp (l := pm_l X) hG (q0) (x1) (x2) _ _ hk0 h) hab (Nat.le_of_ble_eq_true rfl) ?_
          clear h; intro r15 I14 h
          refine r_if_eq 34 50 hC dX7_canRelay_34 (by decide) (fun hc => ?_) (fun hc => ?_)
          · replace h := h.1 hc
            refine r_iconst 50 (v := 0) hC dX7_canRelay_50 (by decide) ?_
            exact r_iret 51 hC hE rfl dX7_canRelay_51 ⟨_, rfl, h⟩
          · replace h := h.2 hc
            refine r_aload_n 37 hC dX7_canRelay_37 rfl rfl ?_
            refine r_iload_n 38 hC dX7_canRelay_38 rfl rfl ?_
            refine r_iload_n 39 hC dX7_canRelay_39 rfl rfl ?_
            refine r_callV_i 40 (n := 2) [.int (x1), .int (x3)] [] hC hk0 rfl dX7_canRelay_40 (by decide) (by decide) tw_1419 tw_135 ⟨by decide, by decide, by decide +kernel⟩ tw_1416 tw_1418 tw_103 rfl rfl (sX7_isUp (l := pm_l X) hG (q0) (x1) (x3) _ _ hk0 h) hab (Nat.le_of_ble_eq_true rfl) ?_
            clear h; intro r17 I16 h
            refine r_if_eq 43 50 hC dX7_canRelay_43 (by decide) (fun hc => ?_) (fun hc => ?_)
            · replace h := h.1 hc
              refine r_iconst 50 (v := 0) hC dX7_canRelay_50 (by decide) ?_
              exact r_iret 51 hC hE rfl dX7_canRelay_51 ⟨_, rfl, h⟩
            · replace h := h.2 hc
              refine r_iconst 46 (v := 1) hC dX7_canRelay_46 (by decide) ?_
              refine r_goto 47 51 hC dX7_canRelay_47 (by decide) ?_
              exact r_iret 51 hC hE rfl dX7_canRelay_51 ⟨_, rfl, h⟩

def wX7_bestFor (G : pm_G) (q0 : Nat) (x1 : Int32) (x2 : Int32) (I : pm_I) (K : Int32 → pm_I → Prop) : Prop :=
  pm_lp4 (fun (P10 : Int32 → Int32 → Int32 → pm_I → Prop) (x12 : Int32) (x13 : Int32) (x14 : Int32) (I11 : pm_I) => ((I11 (q0 + 2) (0 : Int32).toNatClampNeg) ≤ x14 → (K (x12) I11)) ∧ (¬ (I11 (q0 + 2) (0 : Int32).toNatClampNeg) ≤ x14 → (wX7_canRelay G (q0) (x14) (x1) (x2) I11 (fun r16 I15 => (r16 = 0 → (P10 (x12) (x13) (x14 + 1) I15)) ∧ (¬ r16 = 0 → (wX7_loadOf G (q0) (x14) I15 (fun r18 I17 => vp_in (x14) 16 ∧ ((r18 < (I17 (q0 + 3) (x14).toNatClampNeg) → (wX7_scoreOf G (q0) (x14) (x1) (x2) I17 (fun r20 I19 => (x12 = (-1) → (P10 (x14) (r20) (x14 + 1) I19)) ∧ (¬ x12 = (-1) → ((x13 ≤ r20 → (P10 (x12) (x13) (x14 + 1) I19)) ∧ (¬ x13 ≤ r20 → (P10 (x14) (r20) (x14 + 1) I19))))))) ∧ (¬ r18 < (I17 (q0 + 3) (x14).toNatClampNeg) → (P10 (x12) (x13) (x14 + 1) I17)))))))))) (-1) (0) (0) I

set_option maxRecDepth 20000 in
theorem sX7_bestFor {G : pm_G} {l : Launch} (hG : pm_ok G) (q0 : Nat) (x1 : Int32) (x2 : Int32) (I : pm_I) (K : Int32 → pm_I → Prop) (hk0 : pm_k G q0 (.inl 7)) (h : wX7_bestFor G q0 x1 x2 I K) : pm_Ct G l yX7_bestFor cX7_bestFor 7 (some .int) { frames := 5, cells := 0, slots := 0, locals := 411 } [.ref (q0), .int (x1), .int (x2)] I (pm_Ki K) := by
  unfold wX7_bestFor at h
  refine pm_enter (by decide +kernel) hG rfl (Nat.le_of_ble_eq_true rfl) rfl (fun X hl hC hE => ?_)
  subst hl
  have hab : 0 ≤ 0 ∧ 0 ≤ 0 := ⟨Nat.le_refl 0, Nat.le_refl 0⟩
  have hC : pm_C G X cX7_bestFor 7 RX7 (some .int) { frames := 5, cells := 0, slots := 0, locals := 411 } := hC
  refine r_iconst 0 (v := -1) hC dX7_bestFor_0 (by decide) ?_
  refine r_istore_n 1 [some (.ref (q0)), some (.int (x1)), some (.int (x2)), some (.int (-1)), none, none, none] hC dX7_bestFor_1 rfl (by decide) rfl ?_
  refine r_iconst 2 (v := 0) hC dX7_bestFor_2 (by decide) ?_
  refine r_istore 3 [some (.ref (q0)), some (.int (x1)), some (.int (x2)), some (.int (-1)), some (.int (0)), none, none] hC dX7_bestFor_3 (by decide) rfl ?_
  refine r_iconst 5 (v := 0) hC dX7_bestFor_5 (by decide) ?_
  refine r_istore 6 [some (.ref (q0)), some (.int (x1)), some (.int (x2)), some (.int (-1)), some (.int (0)), some (.int (0)), none] hC dX7_bestFor_6 (by decide) rfl ?_
  refine h (fun x12 x13 x14 I11 => pm_R G X 7 0 0 8 [some (.ref (q0)), some (.int (x1)), some (.int (x2)), some (.int (x12)), some (.int (x13)), some (.int (x14)), none] [] I11) ?_
  clear h; intro x12 x13 x14 I11 h
  refine r_iload 8 hC dX7_bestFor_8 rfl ?_
  refine r_aload_n 10 hC dX7_bestFor_10 rfl rfl ?_
  refine r_getR7 11 (r1 := q0 + 2) hC hk0 2 (by decide) tw_1181 rfl rfl dX7_bestFor_11 ?_
  refine r_iconst 14 (v := 0) hC dX7_bestFor_14 (by decide) ?_
  refine r_iald 15 hC ((pm_s7 hG hk0).2.1) (by unfold vp_in; decide) dX7_bestFor_15 ?_
  refine r_icmp_ge 16 84 hC dX7_bestFor_16 (by decide) (fun hc => ?_) (fun hc => ?_)
  · replace h := h.1 hc
    refine r_iload_n 84 hC dX7_bestFor_84 rfl rfl ?_
    exact r_iret 85 hC hE rfl dX7_bestFor_85 ⟨_, rfl, h⟩
  · replace h := h.2 hc
    refine r_aload_n 19 hC dX7_bestFor_19 rfl rfl ?_
    refine r_iload 20 hC dX7_bestFor_20 rfl ?_
    refine r_iload_n 22 hC dX7_bestFor_22 rfl rfl ?_
    refine r_iload_n 23 hC dX7_bestFor_23 rfl rfl ?_
    refine r_callV_i 24 (n := 3) [.int (x14), .int (x1), .int (x2)] [] hC hk0 rfl dX7_bestFor_24 (by decide) (by decide) tw_1458 tw_135 ⟨by decide, by decide, by decide +kernel⟩ tw_1455 tw_1457 tw_108 rfl rfl (sX7_canRelay (l := pm_l X) hG (q0) (x14) (x1) (x2) _ _ hk0 h) hab (Nat.le_of_ble_eq_true rfl) ?_
    clear h; intro r16 I15 h
    refine r_if_eq 27 78 hC dX7_bestFor_27 (by decide) (fun hc => ?_) (fun hc => ?_)
    · replace h := h.1 hc
      refine r_iinc 78 (v := x14 + 1) [some (.ref (q0)), some (.int (x1)), some (.int (x2)), some (.int (x12)), some (.int (x13)), some (.int (x14 + 1)), none] hC dX7_bestFor_78 rfl (by rfl) (by decide) rfl ?_
      refine r_goto 81 8 hC dX7_bestFor_81 (by decide) ?_
      exact h
    · replace h := h.2 hc
      refine r_aload_n 30 hC dX7_bestFor_30 rfl rfl ?_
      refine r_iload 31 hC dX7_bestFor_31 rfl ?_
      refine r_callV_i 33 (n := 1) [.int (x14)] [] hC hk0 rfl dX7_bestFor_33 (by decide) (by decide) tw_1439 tw_135 ⟨by decide, by decide, by decide +kernel⟩ tw_1436 tw_1438 tw_105 rfl rfl (sX7_loadOf (l := pm_l X) hG (q0) (x14) _ _ hk0 h) hab (Nat.le_of_ble_eq_true rfl) ?_
      clear h; intro r18 I17 h
      refine r_aload_n 36 hC dX7_bestFor_36 rfl rfl ?_
      refine r_getR7 37 (r1 := q0 + 3) hC hk0 3 (by decide) tw_1182 rfl rfl dX7_bestFor_37 ?_
      refine r_iload 40 hC dX7_bestFor_40 rfl ?_
      refine r_iald 42 hC ((pm_s7 hG hk0).2.2.1) h.1 dX7_bestFor_42 ?_
      replace h := h.2
      refine r_icmp_lt 43 49 hC dX7_bestFor_43 (by decide) (fun hc => ?_) (fun hc => ?_)
      · replace h := h.1 hc
        refine r_aload_n 49 hC dX7_bestFor_49 rfl rfl ?_
        refine r_iload 50 hC dX7_bestFor_50 rfl ?_
        refine r_iload_n 52 hC dX7_bestFor_52 rfl rfl ?_
        refine r_iload_n 53 hC dX7_bestFor_53 rfl rfl ?_
        refine r_callV_i 54 (n := 3) [.int (x14), .int (x1), .int (x2)] [] hC hk0 rfl dX7_bestFor_54 (by decide) (by decide) tw_1462 tw_135 ⟨by decide, by decide, by decide +kernel⟩ tw_1459 tw_1461 tw_109 rfl rfl (sX7_scoreOf (l := pm_l X) hG (q0) (x14) (x1) (x2) _ _ hk0 h) hab (Nat.le_of_ble_eq_true rfl) ?_
        clear h; intro r20 I19 h
        refine r_istore 57 [some (.ref (q0)), some (.int (x1)), some (.int (x2)), some (.int (x12)), some (.int (x13)), some (.int (x14)), some (.int (r20))] hC dX7_bestFor_57 (by decide) rfl ?_
        refine r_iload_n 59 hC dX7_bestFor_59 rfl rfl ?_
        refine r_iconst 60 (v := -1) hC dX7_bestFor_60 (by decide) ?_
        refine r_icmp_eq 61 71 hC dX7_bestFor_61 (by decide) (fun hc => ?_) (fun hc => ?_)
        · replace h := h.1 hc
          refine r_iload 71 hC dX7_bestFor_71 rfl ?_
          refine r_istore_n 73 [some (.ref (q0)), some (.int (x1)), some (.int (x2)), some (.int (x14)), some (.int (x13)), some (.int (x14)), some (.int (r20))] hC dX7_bestFor_73 rfl (by decide) rfl ?_
          refine r_iload 74 hC dX7_bestFor_74 rfl ?_
          refine r_istore 76 [some (.ref (q0)), some (.int (x1)), some (.int (x2)), some (.int (x14)), some (.int (r20)), some (.int (x14)), some (.int (r20))] hC dX7_bestFor_76 (by decide) rfl ?_
          refine r_iinc 78 (v := x14 + 1) [some (.ref (q0)), some (.int (x1)), some (.int (x2)), some (.int (x14)), some (.int (r20)), some (.int (x14 + 1)), some (.int (r20))] hC dX7_bestFor_78 rfl (by rfl) (by decide) rfl ?_
          refine r_goto 81 8 hC dX7_bestFor_81 (by decide) ?_
          refine r_weak (ls' := [some (.ref (q0)), some (.int (x1)), some (.int (x2)), some (.int (x14)), some (.int (r20)), some (.int (x14 + 1)), none]) (And.intro rfl (And.intro rfl (And.intro rfl (And.intro rfl (And.intro rfl (And.intro rfl (trivial))))))) ?_
          exact h
        · replace h := h.2 hc
          refine r_iload 64 hC dX7_bestFor_64 rfl ?_
          refine r_iload 66 hC dX7_bestFor_66 rfl ?_
          refine r_icmp_ge 68 78 hC dX7_bestFor_68 (by decide) (fun hc => ?_) (fun hc => ?_)
          · replace h := h.1 hc
            refine r_iinc 78 (v := x14 + 1) [some (.ref (q0)), some (.int (x1)), some (.int (x2)), some (.int (x12)), some (.int (x13)), some (.int (x14 + 1)), some (.int (r20))] hC dX7_bestFor_78 rfl (by rfl) (by decide) rfl ?_
            refine r_goto 81 8 hC dX7_bestFor_81 (by decide) ?_
            refine r_weak (ls' := [some (.ref (q0)), some (.int (x1)), some (.int (x2)), some (.int (x12)), some (.int (x13)), some (.int (x14 + 1)), none]) (And.intro rfl (And.intro rfl (And.intro rfl (And.intro rfl (And.intro rfl (And.intro rfl (trivial))))))) ?_
            exact h
          · replace h := h.2 hc
            refine r_iload 71 hC dX7_bestFor_71 rfl ?_
            refine r_istore_n 73 [some (.ref (q0)), some (.int (x1)), some (.int (x2)), some (.int (x14)), some (.int (x13)), some (.int (x14)), some (.int (r20))] hC dX7_bestFor_73 rfl (by decide) rfl ?_
            refine r_iload 74 hC dX7_bestFor_74 rfl ?_
            refine r_istore 76 [some (.ref (q0)), some (.int (x1)), some (.int (x2)), some (.int (x14)), some (.int (r20)), some (.int (x14)), some (.int (r20))] hC dX7_bestFor_76 (by decide) rfl ?_
            refine r_iinc 78 (v := x14 + 1) [some (.ref (q0)), some (.int (x1)), some (.int (x2)), some (.int (x14)), some (.int (r20)), some (.int (x14 + 1)), some (.int (r20))] hC dX7_bestFor_78 rfl (by rfl) (by decide) rfl ?_
            refine r_goto 81 8 hC dX7_bestFor_81 (by decide) ?_
            refine r_weak (ls' := [some (.ref (q0)), some (.int (x1)), some (.int (x2)), some (.int (x14)), some (.int (r20)), some (.int (x14 + 1)), none]) (And.intro rfl (And.intro rfl (And.intro rfl (And.intro rfl (And.intro rfl (And.intro rfl (trivial))))))) ?_
            exact h
      · replace h := h.2 hc
        refine r_goto 46 78 hC dX7_bestFor_46 (by decide) ?_
        refine r_iinc 78 (v := x14 + 1) [some (.ref (q0)), some (.int (x1)), some (.int (x2)), some (.int (x12)), some (.int (x13)), some (.int (x14 + 1)), none] hC dX7_bestFor_78 rfl (by rfl) (by decide) rfl ?_
        refine r_goto 81 8 hC dX7_bestFor_81 (by decide) ?_
        exact h

def wX7_bestRelay (G : pm_G) (q0 : Nat) (x1 : Int32) (x2 : Int32) (I : pm_I) (K : Int32 → pm_I → Prop) : Prop :=
  wX7_noTwo G (q0) (x1) (x2) I (fun r11 I10 => (r11 = 0 → (wX7_bestFor G (q0) (x1) (x2) I10 (fun r13 I12 => K (r13) I12))) ∧ (¬ r11 = 0 → (K (0) I10)))

set_option maxRecDepth 20000 in
theorem sX7_bestRelay {G : pm_G} {l : Launch} (hG : pm_ok G) (q0 : Nat) (x1 : Int32) (x2 : Int32) (I : pm_I) (K : Int32 → pm_I → Prop) (hk0 : pm_k G q0 (.inl 7)) (h : wX7_bestRelay G q0 x1 x2 I K) : pm_Ct G l yX7_bestRelay cX7_bestRelay 3 (some .int) { frames := 6, cells := 0, slots := 0, locals := 501 } [.ref (q0), .int (x1), .int (x2)] I (pm_Ki K) := by
  unfold wX7_bestRelay at h
  refine pm_enter (by decide +kernel) hG rfl (Nat.le_of_ble_eq_true rfl) rfl (fun X hl hC hE => ?_)
  subst hl
  have hab : 0 ≤ 0 ∧ 0 ≤ 0 := ⟨Nat.le_refl 0, Nat.le_refl 0⟩
  have hC : pm_C G X cX7_bestRelay 3 RX7 (some .int) { frames := 6, cells := 0, slots := 0, locals := 501 } := hC
  refine r_aload_n 0 hC dX7_bestRelay_0 rfl rfl ?_
  refine r_iload_n 1 hC dX7_bestRelay_1 rfl rfl ?_
  refine r_iload_n 2 hC dX7_bestRelay_2 rfl rfl ?_
  refine r_callV_i 3 (n := 2) [.int (x1), .int (x2)] [] hC hk0 rfl dX7_bestRelay_3 (by decide) (by decide) tw_1427 tw_135 ⟨by decide, by decide, by decide +kernel⟩ tw_1424 tw_1426 tw_104 rfl rfl (sX7_noTwo (l := pm_l X) hG (q0) (x1) (x2) _ _ hk0 h) hab (Nat.le_of_ble_eq_true rfl) ?_
  clear h; intro r11 I10 h
  refine r_if_eq 6 13 hC dX7_bestRelay_6 (by decide) (fun hc => ?_) (fun hc => ?_)
  · replace h := h.1 hc
    refine r_aload_n 13 hC dX7_bestRelay_13 rfl rfl ?_
    refine r_iload_n 14 hC dX7_bestRelay_14 rfl rfl ?_
    refine r_iload_n 15 hC dX7_bestRelay_15 rfl rfl ?_
    refine r_callV_i 16 (n := 2) [.int (x1), .int (x2)] [] hC hk0 rfl dX7_bestRelay_16 (by decide) (by decide) tw_1454 tw_135 ⟨by decide, by decide, by decide +kernel⟩ tw_1451 tw_1453 tw_107 rfl rfl (sX7_bestFor (l := pm_l X) hG (q0) (x1) (x2) _ _ hk0 h) hab (Nat.le_of_ble_eq_true rfl) ?_
    clear h; intro r13 I12 h
    exact r_iret 19 hC hE rfl dX7_bestRelay_19 ⟨_, rfl, h⟩
  · replace h := h.2 hc
    refine r_iconst 9 (v := 0) hC dX7_bestRelay_9 (by decide) ?_
    refine r_goto 10 19 hC dX7_bestRelay_10 (by decide) ?_
    exact r_iret 19 hC hE rfl dX7_bestRelay_19 ⟨_, rfl, h⟩

def wX7_noThree (G : pm_G) (q0 : Nat) (x1 : Int32) (x2 : Int32) (x3 : Int32) (I : pm_I) (K : Int32 → pm_I → Prop) : Prop :=
  ∀ I10 : pm_I, I10 = pm_up I (q0) 0 (0) → (wX7_no G (q0) (x1) (I10 (q0 + 2) (0 : Int32).toNatClampNeg) I10 (fun r12 I11 => (¬ r12 = 0 → K 1 I11) ∧ (r12 = 0 → (wX7_no G (q0) (x2) (I11 (q0 + 2) (0 : Int32).toNatClampNeg) I11 (fun r14 I13 => (¬ r14 = 0 → K 1 I13) ∧ (r14 = 0 → (wX7_no G (q0) (x3) (I13 (q0 + 2) (0 : Int32).toNatClampNeg) I13 (fun r16 I15 => (¬ r16 = 0 → K 1 I15) ∧ (r16 = 0 → ((x1 = x2 → (wX7_throwsIf G (q0) (1) (2) I15 (fun r18 I17 => (r18 = 0 → K 0 I17) ∧ (¬ r18 = 0 → K 1 I17)))) ∧ (¬ x1 = x2 → ((x1 = x3 → (wX7_throwsIf G (q0) (1) (2) I15 (fun r20 I19 => (r20 = 0 → K 0 I19) ∧ (¬ r20 = 0 → K 1 I19)))) ∧ (¬ x1 = x3 → ((¬ x2 = x3 → (wX7_throwsIf G (q0) (0) (2) I15 (fun r22 I21 => (r22 = 0 → K 0 I21) ∧ (¬ r22 = 0 → K 1 I21)))) ∧ (x2 = x3 → (wX7_throwsIf G (q0) (1) (2) I15 (fun r24 I23 => (r24 = 0 → K 0 I23) ∧ (¬ r24 = 0 → K 1 I23))))))))))))))))))

set_option maxRecDepth 20000 in
theorem sX7_noThree {G : pm_G} {l : Launch} (hG : pm_ok G) (q0 : Nat) (x1 : Int32) (x2 : Int32) (x3 : Int32) (I : pm_I) (K : Int32 → pm_I → Prop) (hk0 : pm_k G q0 (.inl 7)) (h : wX7_noThree G q0 x1 x2 x3 I K) : pm_Ct G l yX7_noThree cX7_noThree 4 (some .boolean) { frames := 3, cells := 0, slots := 0, locals := 236 } [.ref (q0), .int (x1), .int (x2), .int (x3)] I (pm_Ki K) := by
  unfold wX7_noThree at h
  refine pm_enter (by decide +kernel) hG rfl (Nat.le_of_ble_eq_true rfl) rfl (fun X hl hC hE => ?_)
  subst hl
  have hab : 0 ≤ 0 ∧ 0 ≤ 0 := ⟨Nat.le_refl 0, Nat.le_refl 0⟩
  have hC : pm_C G X cX7_noThree 4 RX7 (some .boolean) { frames := 3, cells := 0, slots := 0, locals := 236 } := hC
  refine r_aload_n 0 hC dX7_noThree_0 rfl rfl ?_
  refine r_iconst 1 (v := 0) hC dX7_noThree_1 (by decide) ?_
  refine r_putI7 2 hC hk0 0 (by decide) tw_1179 rfl rfl (by decide +kernel) ps_7_0 dX7_noThree_2 (fun I10 hI => ?_)
  replace h := h I10 hI; clear hI
  refine r_aload_n 5 hC dX7_noThree_5 rfl rfl ?_
  refine r_iload_n 6 hC dX7_noThree_6 rfl rfl ?_
  refine r_aload_n 7 hC dX7_noThree_7 rfl rfl ?_
  refine r_getR7 8 (r1 := q0 + 2) hC hk0 2 (by decide) tw_1181 rfl rfl dX7_noThree_8 ?_
  refine r_iconst 11 (v := 0) hC dX7_noThree_11 (by decide) ?_
  refine r_iald 12 hC ((pm_s7 hG hk0).2.1) (by unfold vp_in; decide) dX7_noThree_12 ?_
  refine r_callV_i 13 (n := 2) [.int (x1), .int (I10 (q0 + 2) (0 : Int32).toNatClampNeg)] [] hC hk0 rfl dX7_noThree_13 (by decide) (by decide) tw_1407 tw_135 ⟨by decide, by decide, by decide +kernel⟩ tw_1404 tw_1406 tw_101 rfl rfl (sX7_no (l := pm_l X) hG (q0) (x1) (I10 (q0 + 2) (0 : Int32).toNatClampNeg) _ _ hk0 h) hab (Nat.le_of_ble_eq_true rfl) ?_
  clear h; intro r12 I11 h
  refine r_if_ne 16 75 hC dX7_noThree_16 (by decide) (fun hc => ?_) (fun hc => ?_)
  · replace h := h.1 hc
    refine r_iconst 75 (v := 1) hC dX7_noThree_75 (by decide) ?_
    refine r_goto 76 80 hC dX7_noThree_76 (by decide) ?_
    exact r_iret 80 hC hE rfl dX7_noThree_80 ⟨_, rfl, h⟩
  · replace h := h.2 hc
    refine r_aload_n 19 hC dX7_noThree_19 rfl rfl ?_
    refine r_iload_n 20 hC dX7_noThree_20 rfl rfl ?_
    refine r_aload_n 21 hC dX7_noThree_21 rfl rfl ?_
    refine r_getR7 22 (r1 := q0 + 2) hC hk0 2 (by decide) tw_1181 rfl rfl dX7_noThree_22 ?_
    refine r_iconst 25 (v := 0) hC dX7_noThree_25 (by decide) ?_
    refine r_iald 26 hC ((pm_s7 hG hk0).2.1) (by unfold vp_in; decide) dX7_noThree_26 ?_
    refine r_callV_i 27 (n := 2) [.int (x2), .int (I11 (q0 + 2) (0 : Int32).toNatClampNeg)] [] hC hk0 rfl dX7_noThree_27 (by decide) (by decide) tw_1407 tw_135 ⟨by decide, by decide, by decide +kernel⟩ tw_1404 tw_1406 tw_101 rfl rfl (sX7_no (l := pm_l X) hG (q0) (x2) (I11 (q0 + 2) (0 : Int32).toNatClampNeg) _ _ hk0 h) hab (Nat.le_of_ble_eq_true rfl) ?_
    clear h; intro r14 I13 h
    refine r_if_ne 30 75 hC dX7_noThree_30 (by decide) (fun hc => ?_) (fun hc => ?_)
    · replace h := h.1 hc
      refine r_iconst 75 (v := 1) hC dX7_noThree_75 (by decide) ?_
      refine r_goto 76 80 hC dX7_noThree_76 (by decide) ?_
      exact r_iret 80 hC hE rfl dX7_noThree_80 ⟨_, rfl, h⟩
    · replace h := h.2 hc
      refine r_aload_n 33 hC dX7_noThree_33 rfl rfl ?_
      refine r_iload_n 34 hC dX7_noThree_34 rfl rfl ?_
      refine r_aload_n 35 hC dX7_noThree_35 rfl rfl ?_
      refine r_getR7 36 (r1 := q0 + 2) hC hk0 2 (by decide) tw_1181 rfl rfl dX7_noThree_36 ?_
      refine r_iconst 39 (v := 0) hC dX7_noThree_39 (by decide) ?_
      refine r_iald 40 hC ((pm_s7 hG hk0).2.1) (by unfold vp_in; decide) dX7_noThree_40 ?_
      refine r_callV_i 41 (n := 2) [.int (x3), .int (I13 (q0 + 2) (0 : Int32).toNatClampNeg)] [] hC hk0 rfl dX7_noThree_41 (by decide) (by decide) tw_1407 tw_135 ⟨by decide, by decide, by decide +kernel⟩ tw_1404 tw_1406 tw_101 rfl rfl (sX7_no (l := pm_l X) hG (q0) (x3) (I13 (q0 + 2) (0 : Int32).toNatClampNeg) _ _ hk0 h) hab (Nat.le_of_ble_eq_true rfl) ?_
      clear h; intro r16 I15 h
      refine r_if_ne 44 75 hC dX7_noThree_44 (by decide) (fun hc => ?_) (fun hc => ?_)
      · replace h := h.1 hc
        refine r_iconst 75 (v := 1) hC dX7_noThree_75 (by decide) ?_
        refine r_goto 76 80 hC dX7_noThree_76 (by decide) ?_
        exact r_iret 80 hC hE rfl dX7_noThree_80 ⟨_, rfl, h⟩
      · replace h := h.2 hc
        refine r_aload_n 47 hC dX7_noThree_47 rfl rfl ?_
        refine r_iload_n 48 hC dX7_noThree_48 rfl rfl ?_
        refine r_iload_n 49 hC dX7_noThree_49 rfl rfl ?_
        refine r_icmp_eq 50 63 hC dX7_noThree_50 (by decide) (fun hc => ?_) (fun hc => ?_)
        · replace h := h.1 hc
          refine r_iconst 63 (v := 1) hC dX7_noThree_63 (by decide) ?_
          refine r_goto 64 68 hC dX7_noThree_64 (by decide) ?_
          refine r_iconst 68 (v := 2) hC dX7_noThree_68 (by decide) ?_
          refine r_callV_i 69 (n := 2) [.int (1), .int (2)] [] hC hk0 rfl dX7_noThree_69 (by decide) (by decide) tw_1292 tw_135 ⟨by decide, by decide, by decide +kernel⟩ tw_1289 tw_1291 tw_81 rfl rfl (sX7_throwsIf (l := pm_l X) hG (q0) (1) (2) _ _ hk0 h) hab (Nat.le_of_ble_eq_true rfl) ?_
          clear h; intro r18 I17 h
          refine r_if_eq 72 79 hC dX7_noThree_72 (by decide) (fun hc => ?_) (fun hc => ?_)
          · replace h := h.1 hc
            refine r_iconst 79 (v := 0) hC dX7_noThree_79 (by decide) ?_
            exact r_iret 80 hC hE rfl dX7_noThree_80 ⟨_, rfl, h⟩
          · replace h := h.2 hc
            refine r_iconst 75 (v := 1) hC dX7_noThree_75 (by decide) ?_
            refine r_goto 76 80 hC dX7_noThree_76 (by decide) ?_
            exact r_iret 80 hC hE rfl dX7_noThree_80 ⟨_, rfl, h⟩
        · replace h := h.2 hc
          refine r_iload_n 53 hC dX7_noThree_53 rfl rfl ?_
          refine r_iload_n 54 hC dX7_noThree_54 rfl rfl ?_
          refine r_icmp_eq 55 63 hC dX7_noThree_55 (by decide) (fun hc => ?_) (fun hc => ?_)
          · replace h := h.1 hc
            refine r_iconst 63 (v := 1) hC dX7_noThree_63 (by decide) ?_
            refine r_goto 64 68 hC dX7_noThree_64 (by decide) ?_
            refine r_iconst 68 (v := 2) hC dX7_noThree_68 (by decide) ?_
            refine r_callV_i 69 (n := 2) [.int (1), .int (2)] [] hC hk0 rfl dX7_noThree_69 (by decide) (by decide) tw_1292 tw_135 ⟨by decide, by decide, by decide +kernel⟩ tw_1289 tw_1291 tw_81 rfl rfl (sX7_throwsIf (l := pm_l X) hG (q0) (1) (2) _ _ hk0 h) hab (Nat.le_of_ble_eq_true rfl) ?_
            clear h; intro r20 I19 h
            refine r_if_eq 72 79 hC dX7_noThree_72 (by decide) (fun hc => ?_) (fun hc => ?_)
            · replace h := h.1 hc
              refine r_iconst 79 (v := 0) hC dX7_noThree_79 (by decide) ?_
              exact r_iret 80 hC hE rfl dX7_noThree_80 ⟨_, rfl, h⟩
            · replace h := h.2 hc
              refine r_iconst 75 (v := 1) hC dX7_noThree_75 (by decide) ?_
              refine r_goto 76 80 hC dX7_noThree_76 (by decide) ?_
              exact r_iret 80 hC hE rfl dX7_noThree_80 ⟨_, rfl, h⟩
          · replace h := h.2 hc
            refine r_iload_n 58 hC dX7_noThree_58 rfl rfl ?_
            refine r_iload_n 59 hC dX7_noThree_59 rfl rfl ?_
            refine r_icmp_ne 60 67 hC dX7_noThree_60 (by decide) (fun hc => ?_) (fun hc => ?_)
            · replace h := h.1 hc
              refine r_iconst 67 (v := 0) hC dX7_noThree_67 (by decide) ?_
              refine r_iconst 68 (v := 2) hC dX7_noThree_68 (by decide) ?_
              refine r_callV_i 69 (n := 2) [.int (0), .int (2)] [] hC hk0 rfl dX7_noThree_69 (by decide) (by decide) tw_1292 tw_135 ⟨by decide, by decide, by decide +kernel⟩ tw_1289 tw_1291 tw_81 rfl rfl (sX7_throwsIf (l := pm_l X) hG (q0) (0) (2) _ _ hk0 h) hab (Nat.le_of_ble_eq_true rfl) ?_
              clear h; intro r22 I21 h
              refine r_if_eq 72 79 hC dX7_noThree_72 (by decide) (fun hc => ?_) (fun hc => ?_)
              · replace h := h.1 hc
                refine r_iconst 79 (v := 0) hC dX7_noThree_79 (by decide) ?_
                exact r_iret 80 hC hE rfl dX7_noThree_80 ⟨_, rfl, h⟩
              · replace h := h.2 hc
                refine r_iconst 75 (v := 1) hC dX7_noThree_75 (by decide) ?_
                refine r_goto 76 80 hC dX7_noThree_76 (by decide) ?_
                exact r_iret 80 hC hE rfl dX7_noThree_80 ⟨_, rfl, h⟩
            · replace h := h.2 hc
              refine r_iconst 63 (v := 1) hC dX7_noThree_63 (by decide) ?_
              refine r_goto 64 68 hC dX7_noThree_64 (by decide) ?_
              refine r_iconst 68 (v := 2) hC dX7_noThree_68 (by decide) ?_
              refine r_callV_i 69 (n := 2) [.int (1), .int (2)] [] hC hk0 rfl dX7_noThree_69 (by decide) (by decide) tw_1292 tw_135 ⟨by decide, by decide, by decide +kernel⟩ tw_1289 tw_1291 tw_81 rfl rfl (sX7_throwsIf (l := pm_l X) hG (q0) (1) (2) _ _ hk0 h) hab (Nat.le_of_ble_eq_true rfl) ?_
              clear h; intro r24 I23 h
              refine r_if_eq 72 79 hC dX7_noThree_72 (by decide) (fun hc => ?_) (fun hc => ?_)
              · replace h := h.1 hc
                refine r_iconst 79 (v := 0) hC dX7_noThree_79 (by decide) ?_
                exact r_iret 80 hC hE rfl dX7_noThree_80 ⟨_, rfl, h⟩
              · replace h := h.2 hc
                refine r_iconst 75 (v := 1) hC dX7_noThree_75 (by decide) ?_
                refine r_goto 76 80 hC dX7_noThree_76 (by decide) ?_
                exact r_iret 80 hC hE rfl dX7_noThree_80 ⟨_, rfl, h⟩

def wX7_relayScore (G : pm_G) (q0 : Nat) (x1 : Int32) (x2 : Int32) (x3 : Int32) (I : pm_I) (K : Int32 → pm_I → Prop) : Prop :=
  wX7_noThree G (q0) (x1) (x2) (x3) I (fun r11 I10 => (¬ r11 = 0 → (K (0) I10)) ∧ (r11 = 0 → (wX7_canRelay G (q0) (x1) (x2) (x3) I10 (fun r13 I12 => (¬ r13 = 0 → (wX7_throwsIf G (q0) (0) (3) I12 (fun r15 I14 => (r15 = 0 → (wX7_scoreOf G (q0) (x1) (x2) (x3) I14 (fun r17 I16 => K (r17) I16))) ∧ (¬ r15 = 0 → (K (0) I14))))) ∧ (r13 = 0 → (wX7_throwsIf G (q0) (1) (3) I12 (fun r19 I18 => (r19 = 0 → (wX7_scoreOf G (q0) (x1) (x2) (x3) I18 (fun r21 I20 => K (r21) I20))) ∧ (¬ r19 = 0 → (K (0) I18)))))))))

set_option maxRecDepth 20000 in
theorem sX7_relayScore {G : pm_G} {l : Launch} (hG : pm_ok G) (q0 : Nat) (x1 : Int32) (x2 : Int32) (x3 : Int32) (I : pm_I) (K : Int32 → pm_I → Prop) (hk0 : pm_k G q0 (.inl 7)) (h : wX7_relayScore G q0 x1 x2 x3 I K) : pm_Ct G l yX7_relayScore cX7_relayScore 4 (some .int) { frames := 5, cells := 0, slots := 0, locals := 411 } [.ref (q0), .int (x1), .int (x2), .int (x3)] I (pm_Ki K) := by
  unfold wX7_relayScore at h
  refine pm_enter (by decide +kernel) hG rfl (Nat.le_of_ble_eq_true rfl) rfl (fun X hl hC hE => ?_)
  subst hl
  have hab : 0 ≤ 0 ∧ 0 ≤ 0 := ⟨Nat.le_refl 0, Nat.le_refl 0⟩
  have hC : pm_C G X cX7_relayScore 4 RX7 (some .int) { frames := 5, cells := 0, slots := 0, locals := 411 } := hC
  refine r_aload_n 0 hC dX7_relayScore_0 rfl rfl ?_
  refine r_iload_n 1 hC dX7_relayScore_1 rfl rfl ?_
  refine r_iload_n 2 hC dX7_relayScore_2 rfl rfl ?_
  refine r_iload_n 3 hC dX7_relayScore_3 rfl rfl ?_
  refine r_callV_i 4 (n := 3) [.int (x1), .int (x2), .int (x3)] [] hC hk0 rfl dX7_relayScore_4 (by decide) (by decide) tw_1473 tw_135 ⟨by decide, by decide, by decide +kernel⟩ tw_1470 tw_1472 tw_110 rfl rfl (sX7_noThree (l := pm_l X) hG (q0) (x1) (x2) (x3) _ _ hk0 h) hab (Nat.le_of_ble_eq_true rfl) ?_
  clear h; intro r11 I10 h
  refine r_if_ne 7 33 hC dX7_relayScore_7 (by decide) (fun hc => ?_) (fun hc => ?_)
  · replace h := h.1 hc
    refine r_iconst 33 (v := 0) hC dX7_relayScore_33 (by decide) ?_
    exact r_iret 34 hC hE rfl dX7_relayScore_34 ⟨_, rfl, h⟩
  · replace h := h.2 hc
    refine r_aload_n 10 hC dX7_relayScore_10 rfl rfl ?_
    refine r_aload_n 11 hC dX7_relayScore_11 rfl rfl ?_
    refine r_iload_n 12 hC dX7_relayScore_12 rfl rfl ?_
    refine r_iload_n 13 hC dX7_relayScore_13 rfl rfl ?_
    refine r_iload_n 14 hC dX7_relayScore_14 rfl rfl ?_
    refine r_callV_i 15 (n := 3) [.int (x1), .int (x2), .int (x3)] [.ref (q0)] hC hk0 rfl dX7_relayScore_15 (by decide) (by decide) tw_1458 tw_135 ⟨by decide, by decide, by decide +kernel⟩ tw_1455 tw_1457 tw_108 rfl rfl (sX7_canRelay (l := pm_l X) hG (q0) (x1) (x2) (x3) _ _ hk0 h) hab (Nat.le_of_ble_eq_true rfl) ?_
    clear h; intro r13 I12 h
    refine r_if_ne 18 25 hC dX7_relayScore_18 (by decide) (fun hc => ?_) (fun hc => ?_)
    · replace h := h.1 hc
      refine r_iconst 25 (v := 0) hC dX7_relayScore_25 (by decide) ?_
      refine r_iconst 26 (v := 3) hC dX7_relayScore_26 (by decide) ?_
      refine r_callV_i 27 (n := 2) [.int (0), .int (3)] [] hC hk0 rfl dX7_relayScore_27 (by decide) (by decide) tw_1292 tw_135 ⟨by decide, by decide, by decide +kernel⟩ tw_1289 tw_1291 tw_81 rfl rfl (sX7_throwsIf (l := pm_l X) hG (q0) (0) (3) _ _ hk0 h) hab (Nat.le_of_ble_eq_true rfl) ?_
      clear h; intro r15 I14 h
      refine r_if_eq 30 35 hC dX7_relayScore_30 (by decide) (fun hc => ?_) (fun hc => ?_)
      · replace h := h.1 hc
        refine r_aload_n 35 hC dX7_relayScore_35 rfl rfl ?_
        refine r_iload_n 36 hC dX7_relayScore_36 rfl rfl ?_
        refine r_iload_n 37 hC dX7_relayScore_37 rfl rfl ?_
        refine r_iload_n 38 hC dX7_relayScore_38 rfl rfl ?_
        refine r_callV_i 39 (n := 3) [.int (x1), .int (x2), .int (x3)] [] hC hk0 rfl dX7_relayScore_39 (by decide) (by decide) tw_1462 tw_135 ⟨by decide, by decide, by decide +kernel⟩ tw_1459 tw_1461 tw_109 rfl rfl (sX7_scoreOf (l := pm_l X) hG (q0) (x1) (x2) (x3) _ _ hk0 h) hab (Nat.le_of_ble_eq_true rfl) ?_
        clear h; intro r17 I16 h
        exact r_iret 42 hC hE rfl dX7_relayScore_42 ⟨_, rfl, h⟩
      · replace h := h.2 hc
        refine r_iconst 33 (v := 0) hC dX7_relayScore_33 (by decide) ?_
        exact r_iret 34 hC hE rfl dX7_relayScore_34 ⟨_, rfl, h⟩
    · replace h := h.2 hc
      refine r_iconst 21 (v := 1) hC dX7_relayScore_21 (by decide) ?_
      refine r_goto 22 26 hC dX7_relayScore_22 (by decide) ?_
      refine r_iconst 26 (v := 3) hC dX7_relayScore_26 (by decide) ?_
      refine r_callV_i 27 (n := 2) [.int (1), .int (3)] [] hC hk0 rfl dX7_relayScore_27 (by decide) (by decide) tw_1292 tw_135 ⟨by decide, by decide, by decide +kernel⟩ tw_1289 tw_1291 tw_81 rfl rfl (sX7_throwsIf (l := pm_l X) hG (q0) (1) (3) _ _ hk0 h) hab (Nat.le_of_ble_eq_true rfl) ?_
      clear h; intro r19 I18 h
      refine r_if_eq 30 35 hC dX7_relayScore_30 (by decide) (fun hc => ?_) (fun hc => ?_)
      · replace h := h.1 hc
        refine r_aload_n 35 hC dX7_relayScore_35 rfl rfl ?_
        refine r_iload_n 36 hC dX7_relayScore_36 rfl rfl ?_
        refine r_iload_n 37 hC dX7_relayScore_37 rfl rfl ?_
        refine r_iload_n 38 hC dX7_relayScore_38 rfl rfl ?_
        refine r_callV_i 39 (n := 3) [.int (x1), .int (x2), .int (x3)] [] hC hk0 rfl dX7_relayScore_39 (by decide) (by decide) tw_1462 tw_135 ⟨by decide, by decide, by decide +kernel⟩ tw_1459 tw_1461 tw_109 rfl rfl (sX7_scoreOf (l := pm_l X) hG (q0) (x1) (x2) (x3) _ _ hk0 h) hab (Nat.le_of_ble_eq_true rfl) ?_
        clear h; intro r21 I20 h
        exact r_iret 42 hC hE rfl dX7_relayScore_42 ⟨_, rfl, h⟩
      · replace h := h.2 hc
        refine r_iconst 33 (v := 0) hC dX7_relayScore_33 (by decide) ?_
        exact r_iret 34 hC hE rfl dX7_relayScore_34 ⟨_, rfl, h⟩

def wX7_sessions (G : pm_G) (q0 : Nat) (I : pm_I) (K : Int32 → pm_I → Prop) : Prop :=
  ∀ I10 : pm_I, I10 = pm_up I (q0) 0 (0) → (pm_lp3 (fun (P11 : Int32 → Int32 → pm_I → Prop) (x13 : Int32) (x14 : Int32) (I12 : pm_I) => (6 ≤ x14 → (K (x13) I12)) ∧ (¬ 6 ≤ x14 → (wX7_isOpen G (q0) (x14) I12 (fun r16 I15 => (r16 = 0 → (P11 (x13 ||| 0) (x14 + 1) I15)) ∧ (¬ r16 = 0 → (P11 (x13 ||| (1 <<< (x14 &&& 31))) (x14 + 1) I15)))))) (0) (0) I10)

set_option maxRecDepth 20000 in
theorem sX7_sessions {G : pm_G} {l : Launch} (hG : pm_ok G) (q0 : Nat) (I : pm_I) (K : Int32 → pm_I → Prop) (hk0 : pm_k G q0 (.inl 7)) (h : wX7_sessions G q0 I K) : pm_Ct G l yX7_sessions cX7_sessions 3 (some .int) { frames := 3, cells := 0, slots := 0, locals := 234 } [.ref (q0)] I (pm_Ki K) := by
  unfold wX7_sessions at h
  refine pm_enter (by decide +kernel) hG rfl (Nat.le_of_ble_eq_true rfl) rfl (fun X hl hC hE => ?_)
  subst hl
  have hab : 0 ≤ 0 ∧ 0 ≤ 0 := ⟨Nat.le_refl 0, Nat.le_refl 0⟩
  have hC : pm_C G X cX7_sessions 3 RX7 (some .int) { frames := 3, cells := 0, slots := 0, locals := 234 } := hC
  refine r_aload_n 0 hC dX7_sessions_0 rfl rfl ?_
  refine r_iconst 1 (v := 0) hC dX7_sessions_1 (by decide) ?_
  refine r_putI7 2 hC hk0 0 (by decide) tw_1179 rfl rfl (by decide +kernel) ps_7_0 dX7_sessions_2 (fun I10 hI => ?_)
  replace h := h I10 hI; clear hI
  refine r_iconst 5 (v := 0) hC dX7_sessions_5 (by decide) ?_
  refine r_istore_n 6 [some (.ref (q0)), some (.int (0)), none] hC dX7_sessions_6 rfl (by decide) rfl ?_
  refine r_iconst 7 (v := 0) hC dX7_sessions_7 (by decide) ?_
  refine r_istore_n 8 [some (.ref (q0)), some (.int (0)), some (.int (0))] hC dX7_sessions_8 rfl (by decide) rfl ?_
  refine h (fun x13 x14 I12 => pm_R G X 3 0 0 9 [some (.ref (q0)), some (.int (x13)), some (.int (x14))] [] I12) ?_
  clear h; intro x13 x14 I12 h
  refine r_iload_n 9 hC dX7_sessions_9 rfl rfl ?_
  refine r_bipush 10 (v := 6) hC dX7_sessions_10 (by decide) ?_
  refine r_icmp_ge 12 39 hC dX7_sessions_12 (by decide) (fun hc => ?_) (fun hc => ?_)
  · replace h := h.1 hc
    refine r_iload_n 39 hC dX7_sessions_39 rfl rfl ?_
    exact r_iret 40 hC hE rfl dX7_sessions_40 ⟨_, rfl, h⟩
  · replace h := h.2 hc
    refine r_iload_n 15 hC dX7_sessions_15 rfl rfl ?_
    refine r_aload_n 16 hC dX7_sessions_16 rfl rfl ?_
    refine r_iload_n 17 hC dX7_sessions_17 rfl rfl ?_
    refine r_callV_i 18 (n := 1) [.int (x14)] [.int (x13)] hC hk0 rfl dX7_sessions_18 (by decide) (by decide) tw_1443 tw_135 ⟨by decide, by decide, by decide +kernel⟩ tw_1440 tw_1442 tw_106 rfl rfl (sX7_isOpen (l := pm_l X) hG (q0) (x14) _ _ hk0 h) hab (Nat.le_of_ble_eq_true rfl) ?_
    clear h; intro r16 I15 h
    refine r_if_eq 21 30 hC dX7_sessions_21 (by decide) (fun hc => ?_) (fun hc => ?_)
    · replace h := h.1 hc
      refine r_iconst 30 (v := 0) hC dX7_sessions_30 (by decide) ?_
      refine r_ior 31 hC dX7_sessions_31 ?_
      refine r_istore_n 32 [some (.ref (q0)), some (.int (x13 ||| 0)), some (.int (x14))] hC dX7_sessions_32 rfl (by decide) rfl ?_
      refine r_iinc 33 (v := x14 + 1) [some (.ref (q0)), some (.int (x13 ||| 0)), some (.int (x14 + 1))] hC dX7_sessions_33 rfl (by rfl) (by decide) rfl ?_
      refine r_goto 36 9 hC dX7_sessions_36 (by decide) ?_
      exact h
    · replace h := h.2 hc
      refine r_iconst 24 (v := 1) hC dX7_sessions_24 (by decide) ?_
      refine r_iload_n 25 hC dX7_sessions_25 rfl rfl ?_
      refine r_ishl 26 hC dX7_sessions_26 ?_
      refine r_goto 27 31 hC dX7_sessions_27 (by decide) ?_
      refine r_ior 31 hC dX7_sessions_31 ?_
      refine r_istore_n 32 [some (.ref (q0)), some (.int (x13 ||| (1 <<< (x14 &&& 31)))), some (.int (x14))] hC dX7_sessions_32 rfl (by decide) rfl ?_
      refine r_iinc 33 (v := x14 + 1) [some (.ref (q0)), some (.int (x13 ||| (1 <<< (x14 &&& 31)))), some (.int (x14 + 1))] hC dX7_sessions_33 rfl (by rfl) (by decide) rfl ?_
      refine r_goto 36 9 hC dX7_sessions_36 (by decide) ?_
      exact h

def wX7_sessionOf (G : pm_G) (q0 : Nat) (x1 : Int32) (x2 : Int32) (I : pm_I) (K : Int32 → pm_I → Prop) : Prop :=
  pm_lp2 (fun (P10 : Int32 → pm_I → Prop) (x12 : Int32) (I11 : pm_I) => (6 ≤ x12 → (K (-1) I11)) ∧ (¬ 6 ≤ x12 → (wX7_isOpen G (q0) (x12) I11 (fun r14 I13 => (r14 = 0 → (P10 (x12 + 1) I13)) ∧ (¬ r14 = 0 → (wX7_of G (x12) (1) I13 (fun r16 I15 => vp_in (r16) 821 ∧ ((¬ (I15 (q0 + 1) (r16).toNatClampNeg) = x1 → (P10 (x12 + 1) I15)) ∧ ((I15 (q0 + 1) (r16).toNatClampNeg) = x1 → (wX7_of G (x12) (2) I15 (fun r18 I17 => vp_in (r18) 821 ∧ ((¬ (I17 (q0 + 1) (r18).toNatClampNeg) = x2 → (P10 (x12 + 1) I17)) ∧ ((I17 (q0 + 1) (r18).toNatClampNeg) = x2 → (K (x12) I17)))))))))))))) (0) I

set_option maxRecDepth 20000 in
theorem sX7_sessionOf {G : pm_G} {l : Launch} (hG : pm_ok G) (q0 : Nat) (x1 : Int32) (x2 : Int32) (I : pm_I) (K : Int32 → pm_I → Prop) (hk0 : pm_k G q0 (.inl 7)) (h : wX7_sessionOf G q0 x1 x2 I K) : pm_Ct G l yX7_sessionOf cX7_sessionOf 4 (some .int) { frames := 3, cells := 0, slots := 0, locals := 234 } [.ref (q0), .int (x1), .int (x2)] I (pm_Ki K) := by
  unfold wX7_sessionOf at h
  refine pm_enter (by decide +kernel) hG rfl (Nat.le_of_ble_eq_true rfl) rfl (fun X hl hC hE => ?_)
  subst hl
  have hab : 0 ≤ 0 ∧ 0 ≤ 0 := ⟨Nat.le_refl 0, Nat.le_refl 0⟩
  have hC : pm_C G X cX7_sessionOf 4 RX7 (some .int) { frames := 3, cells := 0, slots := 0, locals := 234 } := hC
  refine r_iconst 0 (v := 0) hC dX7_sessionOf_0 (by decide) ?_
  refine r_istore_n 1 [some (.ref (q0)), some (.int (x1)), some (.int (x2)), some (.int (0))] hC dX7_sessionOf_1 rfl (by decide) rfl ?_
  refine h (fun x12 I11 => pm_R G X 4 0 0 2 [some (.ref (q0)), some (.int (x1)), some (.int (x2)), some (.int (x12))] [] I11) ?_
  clear h; intro x12 I11 h
  refine r_iload_n 2 hC dX7_sessionOf_2 rfl rfl ?_
  refine r_bipush 3 (v := 6) hC dX7_sessionOf_3 (by decide) ?_
  refine r_icmp_ge 5 52 hC dX7_sessionOf_5 (by decide) (fun hc => ?_) (fun hc => ?_)
  · replace h := h.1 hc
    refine r_iconst 52 (v := -1) hC dX7_sessionOf_52 (by decide) ?_
    exact r_iret 53 hC hE rfl dX7_sessionOf_53 ⟨_, rfl, h⟩
  · replace h := h.2 hc
    refine r_aload_n 8 hC dX7_sessionOf_8 rfl rfl ?_
    refine r_iload_n 9 hC dX7_sessionOf_9 rfl rfl ?_
    refine r_callV_i 10 (n := 1) [.int (x12)] [] hC hk0 rfl dX7_sessionOf_10 (by decide) (by decide) tw_1443 tw_135 ⟨by decide, by decide, by decide +kernel⟩ tw_1440 tw_1442 tw_106 rfl rfl (sX7_isOpen (l := pm_l X) hG (q0) (x12) _ _ hk0 h) hab (Nat.le_of_ble_eq_true rfl) ?_
    clear h; intro r14 I13 h
    refine r_if_eq 13 46 hC dX7_sessionOf_13 (by decide) (fun hc => ?_) (fun hc => ?_)
    · replace h := h.1 hc
      refine r_iinc 46 (v := x12 + 1) [some (.ref (q0)), some (.int (x1)), some (.int (x2)), some (.int (x12 + 1))] hC dX7_sessionOf_46 rfl (by rfl) (by decide) rfl ?_
      refine r_goto 49 2 hC dX7_sessionOf_49 (by decide) ?_
      exact h
    · replace h := h.2 hc
      refine r_aload_n 16 hC dX7_sessionOf_16 rfl rfl ?_
      refine r_getR7 17 (r1 := q0 + 1) hC hk0 1 (by decide) tw_1180 rfl rfl dX7_sessionOf_17 ?_
      refine r_iload_n 20 hC dX7_sessionOf_20 rfl rfl ?_
      refine r_iconst 21 (v := 1) hC dX7_sessionOf_21 (by decide) ?_
      refine r_callS_i 22 (n := 2) [.int (x12), .int (1)] [.ref (q0 + 1)] hC dX7_sessionOf_22 (by decide) (by decide) tw_1446 tw_135 ⟨by decide, by decide, by decide +kernel⟩ tw_1444 tw_1445 rfl rfl (sX7_of (l := pm_l X) hG (x12) (1) _ _ h) hab (Nat.le_of_ble_eq_true rfl) ?_
      clear h; intro r16 I15 h
      refine r_iald 25 hC ((pm_s7 hG hk0).1) h.1 dX7_sessionOf_25 ?_
      replace h := h.2
      refine r_iload_n 26 hC dX7_sessionOf_26 rfl rfl ?_
      refine r_icmp_ne 27 46 hC dX7_sessionOf_27 (by decide) (fun hc => ?_) (fun hc => ?_)
      · replace h := h.1 hc
        refine r_iinc 46 (v := x12 + 1) [some (.ref (q0)), some (.int (x1)), some (.int (x2)), some (.int (x12 + 1))] hC dX7_sessionOf_46 rfl (by rfl) (by decide) rfl ?_
        refine r_goto 49 2 hC dX7_sessionOf_49 (by decide) ?_
        exact h
      · replace h := h.2 hc
        refine r_aload_n 30 hC dX7_sessionOf_30 rfl rfl ?_
        refine r_getR7 31 (r1 := q0 + 1) hC hk0 1 (by decide) tw_1180 rfl rfl dX7_sessionOf_31 ?_
        refine r_iload_n 34 hC dX7_sessionOf_34 rfl rfl ?_
        refine r_iconst 35 (v := 2) hC dX7_sessionOf_35 (by decide) ?_
        refine r_callS_i 36 (n := 2) [.int (x12), .int (2)] [.ref (q0 + 1)] hC dX7_sessionOf_36 (by decide) (by decide) tw_1446 tw_135 ⟨by decide, by decide, by decide +kernel⟩ tw_1444 tw_1445 rfl rfl (sX7_of (l := pm_l X) hG (x12) (2) _ _ h) hab (Nat.le_of_ble_eq_true rfl) ?_
        clear h; intro r18 I17 h
        refine r_iald 39 hC ((pm_s7 hG hk0).1) h.1 dX7_sessionOf_39 ?_
        replace h := h.2
        refine r_iload_n 40 hC dX7_sessionOf_40 rfl rfl ?_
        refine r_icmp_ne 41 46 hC dX7_sessionOf_41 (by decide) (fun hc => ?_) (fun hc => ?_)
        · replace h := h.1 hc
          refine r_iinc 46 (v := x12 + 1) [some (.ref (q0)), some (.int (x1)), some (.int (x2)), some (.int (x12 + 1))] hC dX7_sessionOf_46 rfl (by rfl) (by decide) rfl ?_
          refine r_goto 49 2 hC dX7_sessionOf_49 (by decide) ?_
          exact h
        · replace h := h.2 hc
          refine r_iload_n 44 hC dX7_sessionOf_44 rfl rfl ?_
          exact r_iret 45 hC hE rfl dX7_sessionOf_45 ⟨_, rfl, h⟩

def wX7_session (G : pm_G) (q0 : Nat) (x1 : Int32) (x2 : Int32) (I : pm_I) (K : Int32 → pm_I → Prop) : Prop :=
  wX7_noTwo G (q0) (x1) (x2) I (fun r11 I10 => (r11 = 0 → (wX7_sessionOf G (q0) (x1) (x2) I10 (fun r13 I12 => K (r13) I12))) ∧ (¬ r11 = 0 → (K (0) I10)))

set_option maxRecDepth 20000 in
theorem sX7_session {G : pm_G} {l : Launch} (hG : pm_ok G) (q0 : Nat) (x1 : Int32) (x2 : Int32) (I : pm_I) (K : Int32 → pm_I → Prop) (hk0 : pm_k G q0 (.inl 7)) (h : wX7_session G q0 x1 x2 I K) : pm_Ct G l yX7_session cX7_session 3 (some .int) { frames := 5, cells := 0, slots := 0, locals := 408 } [.ref (q0), .int (x1), .int (x2)] I (pm_Ki K) := by
  unfold wX7_session at h
  refine pm_enter (by decide +kernel) hG rfl (Nat.le_of_ble_eq_true rfl) rfl (fun X hl hC hE => ?_)
  subst hl
  have hab : 0 ≤ 0 ∧ 0 ≤ 0 := ⟨Nat.le_refl 0, Nat.le_refl 0⟩
  have hC : pm_C G X cX7_session 3 RX7 (some .int) { frames := 5, cells := 0, slots := 0, locals := 408 } := hC
  refine r_aload_n 0 hC dX7_session_0 rfl rfl ?_
  refine r_iload_n 1 hC dX7_session_1 rfl rfl ?_
  refine r_iload_n 2 hC dX7_session_2 rfl rfl ?_
  refine r_callV_i 3 (n := 2) [.int (x1), .int (x2)] [] hC hk0 rfl dX7_session_3 (by decide) (by decide) tw_1427 tw_135 ⟨by decide, by decide, by decide +kernel⟩ tw_1424 tw_1426 tw_104 rfl rfl (sX7_noTwo (l := pm_l X) hG (q0) (x1) (x2) _ _ hk0 h) hab (Nat.le_of_ble_eq_true rfl) ?_
  clear h; intro r11 I10 h
  refine r_if_eq 6 13 hC dX7_session_6 (by decide) (fun hc => ?_) (fun hc => ?_)
  · replace h := h.1 hc
    refine r_aload_n 13 hC dX7_session_13 rfl rfl ?_
    refine r_iload_n 14 hC dX7_session_14 rfl rfl ?_
    refine r_iload_n 15 hC dX7_session_15 rfl rfl ?_
    refine r_callV_i 16 (n := 2) [.int (x1), .int (x2)] [] hC hk0 rfl dX7_session_16 (by decide) (by decide) tw_1485 tw_135 ⟨by decide, by decide, by decide +kernel⟩ tw_1482 tw_1484 tw_111 rfl rfl (sX7_sessionOf (l := pm_l X) hG (q0) (x1) (x2) _ _ hk0 h) hab (Nat.le_of_ble_eq_true rfl) ?_
    clear h; intro r13 I12 h
    exact r_iret 19 hC hE rfl dX7_session_19 ⟨_, rfl, h⟩
  · replace h := h.2 hc
    refine r_iconst 9 (v := 0) hC dX7_session_9 (by decide) ?_
    refine r_goto 10 19 hC dX7_session_10 (by decide) ?_
    exact r_iret 19 hC hE rfl dX7_session_19 ⟨_, rfl, h⟩

def wX7_noSession (G : pm_G) (q0 : Nat) (x1 : Int32) (I : pm_I) (K : Int32 → pm_I → Prop) : Prop :=
  ∀ I10 : pm_I, I10 = pm_up I (q0) 0 (0) → (wX7_no G (q0) (x1) (6) I10 (fun r12 I11 => (¬ r12 = 0 → K 1 I11) ∧ (r12 = 0 → (wX7_isOpen G (q0) (x1) I11 (fun r14 I13 => (¬ r14 = 0 → (wX7_throwsIf G (q0) (0) (1) I13 (fun r16 I15 => (r16 = 0 → K 0 I15) ∧ (¬ r16 = 0 → K 1 I15)))) ∧ (r14 = 0 → (wX7_throwsIf G (q0) (1) (1) I13 (fun r18 I17 => (r18 = 0 → K 0 I17) ∧ (¬ r18 = 0 → K 1 I17)))))))))

set_option maxRecDepth 20000 in
theorem sX7_noSession {G : pm_G} {l : Launch} (hG : pm_ok G) (q0 : Nat) (x1 : Int32) (I : pm_I) (K : Int32 → pm_I → Prop) (hk0 : pm_k G q0 (.inl 7)) (h : wX7_noSession G q0 x1 I K) : pm_Ct G l yX7_noSession cX7_noSession 2 (some .boolean) { frames := 3, cells := 0, slots := 0, locals := 236 } [.ref (q0), .int (x1)] I (pm_Ki K) := by
  unfold wX7_noSession at h
  refine pm_enter (by decide +kernel) hG rfl (Nat.le_of_ble_eq_true rfl) rfl (fun X hl hC hE => ?_)
  subst hl
  have hab : 0 ≤ 0 ∧ 0 ≤ 0 := ⟨Nat.le_refl 0, Nat.le_refl 0⟩
  have hC : pm_C G X cX7_noSession 2 RX7 (some .boolean) { frames := 3, cells := 0, slots := 0, locals := 236 } := hC
  refine r_aload_n 0 hC dX7_noSession_0 rfl rfl ?_
  refine r_iconst 1 (v := 0) hC dX7_noSession_1 (by decide) ?_
  refine r_putI7 2 hC hk0 0 (by decide) tw_1179 rfl rfl (by decide +kernel) ps_7_0 dX7_noSession_2 (fun I10 hI => ?_)
  replace h := h I10 hI; clear hI
  refine r_aload_n 5 hC dX7_noSession_5 rfl rfl ?_
  refine r_iload_n 6 hC dX7_noSession_6 rfl rfl ?_
  refine r_bipush 7 (v := 6) hC dX7_noSession_7 (by decide) ?_
  refine r_callV_i 9 (n := 2) [.int (x1), .int (6)] [] hC hk0 rfl dX7_noSession_9 (by decide) (by decide) tw_1407 tw_135 ⟨by decide, by decide, by decide +kernel⟩ tw_1404 tw_1406 tw_101 rfl rfl (sX7_no (l := pm_l X) hG (q0) (x1) (6) _ _ hk0 h) hab (Nat.le_of_ble_eq_true rfl) ?_
  clear h; intro r12 I11 h
  refine r_if_ne 12 36 hC dX7_noSession_12 (by decide) (fun hc => ?_) (fun hc => ?_)
  · replace h := h.1 hc
    refine r_iconst 36 (v := 1) hC dX7_noSession_36 (by decide) ?_
    refine r_goto 37 41 hC dX7_noSession_37 (by decide) ?_
    exact r_iret 41 hC hE rfl dX7_noSession_41 ⟨_, rfl, h⟩
  · replace h := h.2 hc
    refine r_aload_n 15 hC dX7_noSession_15 rfl rfl ?_
    refine r_aload_n 16 hC dX7_noSession_16 rfl rfl ?_
    refine r_iload_n 17 hC dX7_noSession_17 rfl rfl ?_
    refine r_callV_i 18 (n := 1) [.int (x1)] [.ref (q0)] hC hk0 rfl dX7_noSession_18 (by decide) (by decide) tw_1443 tw_135 ⟨by decide, by decide, by decide +kernel⟩ tw_1440 tw_1442 tw_106 rfl rfl (sX7_isOpen (l := pm_l X) hG (q0) (x1) _ _ hk0 h) hab (Nat.le_of_ble_eq_true rfl) ?_
    clear h; intro r14 I13 h
    refine r_if_ne 21 28 hC dX7_noSession_21 (by decide) (fun hc => ?_) (fun hc => ?_)
    · replace h := h.1 hc
      refine r_iconst 28 (v := 0) hC dX7_noSession_28 (by decide) ?_
      refine r_iconst 29 (v := 1) hC dX7_noSession_29 (by decide) ?_
      refine r_callV_i 30 (n := 2) [.int (0), .int (1)] [] hC hk0 rfl dX7_noSession_30 (by decide) (by decide) tw_1292 tw_135 ⟨by decide, by decide, by decide +kernel⟩ tw_1289 tw_1291 tw_81 rfl rfl (sX7_throwsIf (l := pm_l X) hG (q0) (0) (1) _ _ hk0 h) hab (Nat.le_of_ble_eq_true rfl) ?_
      clear h; intro r16 I15 h
      refine r_if_eq 33 40 hC dX7_noSession_33 (by decide) (fun hc => ?_) (fun hc => ?_)
      · replace h := h.1 hc
        refine r_iconst 40 (v := 0) hC dX7_noSession_40 (by decide) ?_
        exact r_iret 41 hC hE rfl dX7_noSession_41 ⟨_, rfl, h⟩
      · replace h := h.2 hc
        refine r_iconst 36 (v := 1) hC dX7_noSession_36 (by decide) ?_
        refine r_goto 37 41 hC dX7_noSession_37 (by decide) ?_
        exact r_iret 41 hC hE rfl dX7_noSession_41 ⟨_, rfl, h⟩
    · replace h := h.2 hc
      refine r_iconst 24 (v := 1) hC dX7_noSession_24 (by decide) ?_
      refine r_goto 25 29 hC dX7_noSession_25 (by decide) ?_
      refine r_iconst 29 (v := 1) hC dX7_noSession_29 (by decide) ?_
      refine r_callV_i 30 (n := 2) [.int (1), .int (1)] [] hC hk0 rfl dX7_noSession_30 (by decide) (by decide) tw_1292 tw_135 ⟨by decide, by decide, by decide +kernel⟩ tw_1289 tw_1291 tw_81 rfl rfl (sX7_throwsIf (l := pm_l X) hG (q0) (1) (1) _ _ hk0 h) hab (Nat.le_of_ble_eq_true rfl) ?_
      clear h; intro r18 I17 h
      refine r_if_eq 33 40 hC dX7_noSession_33 (by decide) (fun hc => ?_) (fun hc => ?_)
      · replace h := h.1 hc
        refine r_iconst 40 (v := 0) hC dX7_noSession_40 (by decide) ?_
        exact r_iret 41 hC hE rfl dX7_noSession_41 ⟨_, rfl, h⟩
      · replace h := h.2 hc
        refine r_iconst 36 (v := 1) hC dX7_noSession_36 (by decide) ?_
        refine r_goto 37 41 hC dX7_noSession_37 (by decide) ?_
        exact r_iret 41 hC hE rfl dX7_noSession_41 ⟨_, rfl, h⟩

def wX7_asked (G : pm_G) (q0 : Nat) (x1 : Int32) (x2 : Int32) (I : pm_I) (K : Int32 → pm_I → Prop) : Prop :=
  wX7_noSession G (q0) (x1) I (fun r11 I10 => (r11 = 0 → (wX7_of G (x1) (x2) I10 (fun r13 I12 => vp_in (r13) 821 ∧ (K (I12 (q0 + 1) (r13).toNatClampNeg) I12)))) ∧ (¬ r11 = 0 → (K (0) I10)))

set_option maxRecDepth 20000 in
theorem sX7_asked {G : pm_G} {l : Launch} (hG : pm_ok G) (q0 : Nat) (x1 : Int32) (x2 : Int32) (I : pm_I) (K : Int32 → pm_I → Prop) (hk0 : pm_k G q0 (.inl 7)) (h : wX7_asked G q0 x1 x2 I K) : pm_Ct G l yX7_asked cX7_asked 3 (some .int) { frames := 4, cells := 0, slots := 0, locals := 321 } [.ref (q0), .int (x1), .int (x2)] I (pm_Ki K) := by
  unfold wX7_asked at h
  refine pm_enter (by decide +kernel) hG rfl (Nat.le_of_ble_eq_true rfl) rfl (fun X hl hC hE => ?_)
  subst hl
  have hab : 0 ≤ 0 ∧ 0 ≤ 0 := ⟨Nat.le_refl 0, Nat.le_refl 0⟩
  have hC : pm_C G X cX7_asked 3 RX7 (some .int) { frames := 4, cells := 0, slots := 0, locals := 321 } := hC
  refine r_aload_n 0 hC dX7_asked_0 rfl rfl ?_
  refine r_iload_n 1 hC dX7_asked_1 rfl rfl ?_
  refine r_callV_i 2 (n := 1) [.int (x1)] [] hC hk0 rfl dX7_asked_2 (by decide) (by decide) tw_1497 tw_135 ⟨by decide, by decide, by decide +kernel⟩ tw_1494 tw_1496 tw_113 rfl rfl (sX7_noSession (l := pm_l X) hG (q0) (x1) _ _ hk0 h) hab (Nat.le_of_ble_eq_true rfl) ?_
  clear h; intro r11 I10 h
  refine r_if_eq 5 12 hC dX7_asked_5 (by decide) (fun hc => ?_) (fun hc => ?_)
  · replace h := h.1 hc
    refine r_aload_n 12 hC dX7_asked_12 rfl rfl ?_
    refine r_getR7 13 (r1 := q0 + 1) hC hk0 1 (by decide) tw_1180 rfl rfl dX7_asked_13 ?_
    refine r_iload_n 16 hC dX7_asked_16 rfl rfl ?_
    refine r_iload_n 17 hC dX7_asked_17 rfl rfl ?_
    refine r_callS_i 18 (n := 2) [.int (x1), .int (x2)] [.ref (q0 + 1)] hC dX7_asked_18 (by decide) (by decide) tw_1446 tw_135 ⟨by decide, by decide, by decide +kernel⟩ tw_1444 tw_1445 rfl rfl (sX7_of (l := pm_l X) hG (x1) (x2) _ _ h) hab (Nat.le_of_ble_eq_true rfl) ?_
    clear h; intro r13 I12 h
    refine r_iald 21 hC ((pm_s7 hG hk0).1) h.1 dX7_asked_21 ?_
    replace h := h.2
    exact r_iret 22 hC hE rfl dX7_asked_22 ⟨_, rfl, h⟩
  · replace h := h.2 hc
    refine r_iconst 8 (v := 0) hC dX7_asked_8 (by decide) ?_
    refine r_goto 9 22 hC dX7_asked_9 (by decide) ?_
    exact r_iret 22 hC hE rfl dX7_asked_22 ⟨_, rfl, h⟩

def wX7_path (G : pm_G) (q0 : Nat) (x1 : Int32) (I : pm_I) (K : Int32 → pm_I → Prop) : Prop :=
  wX7_asked G (q0) (x1) (3) I (fun r11 I10 => K (r11) I10)

set_option maxRecDepth 20000 in
theorem sX7_path {G : pm_G} {l : Launch} (hG : pm_ok G) (q0 : Nat) (x1 : Int32) (I : pm_I) (K : Int32 → pm_I → Prop) (hk0 : pm_k G q0 (.inl 7)) (h : wX7_path G q0 x1 I K) : pm_Ct G l yX7_path cX7_path 2 (some .int) { frames := 5, cells := 0, slots := 0, locals := 407 } [.ref (q0), .int (x1)] I (pm_Ki K) := by
  unfold wX7_path at h
  refine pm_enter (by decide +kernel) hG rfl (Nat.le_of_ble_eq_true rfl) rfl (fun X hl hC hE => ?_)
  subst hl
  have hab : 0 ≤ 0 ∧ 0 ≤ 0 := ⟨Nat.le_refl 0, Nat.le_refl 0⟩
  have hC : pm_C G X cX7_path 2 RX7 (some .int) { frames := 5, cells := 0, slots := 0, locals := 407 } := hC
  refine r_aload_n 0 hC dX7_path_0 rfl rfl ?_
  refine r_iload_n 1 hC dX7_path_1 rfl rfl ?_
  refine r_iconst 2 (v := 3) hC dX7_path_2 (by decide) ?_
  refine r_callV_i 3 (n := 2) [.int (x1), .int (3)] [] hC hk0 rfl dX7_path_3 (by decide) (by decide) tw_1493 tw_135 ⟨by decide, by decide, by decide +kernel⟩ tw_1490 tw_1492 tw_112 rfl rfl (sX7_asked (l := pm_l X) hG (q0) (x1) (3) _ _ hk0 h) hab (Nat.le_of_ble_eq_true rfl) ?_
  clear h; intro r11 I10 h
  exact r_iret 6 hC hE rfl dX7_path_6 ⟨_, rfl, h⟩

def wX7_oldPath (G : pm_G) (q0 : Nat) (x1 : Int32) (I : pm_I) (K : Int32 → pm_I → Prop) : Prop :=
  wX7_asked G (q0) (x1) (4) I (fun r11 I10 => K (r11) I10)

set_option maxRecDepth 20000 in
theorem sX7_oldPath {G : pm_G} {l : Launch} (hG : pm_ok G) (q0 : Nat) (x1 : Int32) (I : pm_I) (K : Int32 → pm_I → Prop) (hk0 : pm_k G q0 (.inl 7)) (h : wX7_oldPath G q0 x1 I K) : pm_Ct G l yX7_oldPath cX7_oldPath 2 (some .int) { frames := 5, cells := 0, slots := 0, locals := 407 } [.ref (q0), .int (x1)] I (pm_Ki K) := by
  unfold wX7_oldPath at h
  refine pm_enter (by decide +kernel) hG rfl (Nat.le_of_ble_eq_true rfl) rfl (fun X hl hC hE => ?_)
  subst hl
  have hab : 0 ≤ 0 ∧ 0 ≤ 0 := ⟨Nat.le_refl 0, Nat.le_refl 0⟩
  have hC : pm_C G X cX7_oldPath 2 RX7 (some .int) { frames := 5, cells := 0, slots := 0, locals := 407 } := hC
  refine r_aload_n 0 hC dX7_oldPath_0 rfl rfl ?_
  refine r_iload_n 1 hC dX7_oldPath_1 rfl rfl ?_
  refine r_iconst 2 (v := 4) hC dX7_oldPath_2 (by decide) ?_
  refine r_callV_i 3 (n := 2) [.int (x1), .int (4)] [] hC hk0 rfl dX7_oldPath_3 (by decide) (by decide) tw_1493 tw_135 ⟨by decide, by decide, by decide +kernel⟩ tw_1490 tw_1492 tw_112 rfl rfl (sX7_asked (l := pm_l X) hG (q0) (x1) (4) _ _ hk0 h) hab (Nat.le_of_ble_eq_true rfl) ?_
  clear h; intro r11 I10 h
  exact r_iret 6 hC hE rfl dX7_oldPath_6 ⟨_, rfl, h⟩

def wX7_successes (G : pm_G) (q0 : Nat) (x1 : Int32) (I : pm_I) (K : Int32 → pm_I → Prop) : Prop :=
  wX7_asked G (q0) (x1) (5) I (fun r11 I10 => K (r11) I10)

set_option maxRecDepth 20000 in
theorem sX7_successes {G : pm_G} {l : Launch} (hG : pm_ok G) (q0 : Nat) (x1 : Int32) (I : pm_I) (K : Int32 → pm_I → Prop) (hk0 : pm_k G q0 (.inl 7)) (h : wX7_successes G q0 x1 I K) : pm_Ct G l yX7_successes cX7_successes 2 (some .int) { frames := 5, cells := 0, slots := 0, locals := 407 } [.ref (q0), .int (x1)] I (pm_Ki K) := by
  unfold wX7_successes at h
  refine pm_enter (by decide +kernel) hG rfl (Nat.le_of_ble_eq_true rfl) rfl (fun X hl hC hE => ?_)
  subst hl
  have hab : 0 ≤ 0 ∧ 0 ≤ 0 := ⟨Nat.le_refl 0, Nat.le_refl 0⟩
  have hC : pm_C G X cX7_successes 2 RX7 (some .int) { frames := 5, cells := 0, slots := 0, locals := 407 } := hC
  refine r_aload_n 0 hC dX7_successes_0 rfl rfl ?_
  refine r_iload_n 1 hC dX7_successes_1 rfl rfl ?_
  refine r_iconst 2 (v := 5) hC dX7_successes_2 (by decide) ?_
  refine r_callV_i 3 (n := 2) [.int (x1), .int (5)] [] hC hk0 rfl dX7_successes_3 (by decide) (by decide) tw_1493 tw_135 ⟨by decide, by decide, by decide +kernel⟩ tw_1490 tw_1492 tw_112 rfl rfl (sX7_asked (l := pm_l X) hG (q0) (x1) (5) _ _ hk0 h) hab (Nat.le_of_ble_eq_true rfl) ?_
  clear h; intro r11 I10 h
  exact r_iret 6 hC hE rfl dX7_successes_6 ⟨_, rfl, h⟩

def wX7_undelivered (G : pm_G) (q0 : Nat) (x1 : Int32) (I : pm_I) (K : Int32 → pm_I → Prop) : Prop :=
  wX7_of G (x1) (7) I (fun r11 I10 => vp_in (r11) 821 ∧ (wX7_of G (x1) (8) I10 (fun r13 I12 => vp_in (r13) 821 ∧ (K ((I10 (q0 + 1) (r11).toNatClampNeg) - (I12 (q0 + 1) (r13).toNatClampNeg)) I12))))

set_option maxRecDepth 20000 in
theorem sX7_undelivered {G : pm_G} {l : Launch} (hG : pm_ok G) (q0 : Nat) (x1 : Int32) (I : pm_I) (K : Int32 → pm_I → Prop) (hk0 : pm_k G q0 (.inl 7)) (h : wX7_undelivered G q0 x1 I K) : pm_Ct G l yX7_undelivered cX7_undelivered 2 (some .int) { frames := 2, cells := 0, slots := 0, locals := 149 } [.ref (q0), .int (x1)] I (pm_Ki K) := by
  unfold wX7_undelivered at h
  refine pm_enter (by decide +kernel) hG rfl (Nat.le_of_ble_eq_true rfl) rfl (fun X hl hC hE => ?_)
  subst hl
  have hab : 0 ≤ 0 ∧ 0 ≤ 0 := ⟨Nat.le_refl 0, Nat.le_refl 0⟩
  have hC : pm_C G X cX7_undelivered 2 RX7 (some .int) { frames := 2, cells := 0, slots := 0, locals := 149 } := hC
  refine r_aload_n 0 hC dX7_undelivered_0 rfl rfl ?_
  refine r_getR7 1 (r1 := q0 + 1) hC hk0 1 (by decide) tw_1180 rfl rfl dX7_undelivered_1 ?_
  refine r_iload_n 4 hC dX7_undelivered_4 rfl rfl ?_
  refine r_bipush 5 (v := 7) hC dX7_undelivered_5 (by decide) ?_
  refine r_callS_i 7 (n := 2) [.int (x1), .int (7)] [.ref (q0 + 1)] hC dX7_undelivered_7 (by decide) (by decide) tw_1446 tw_135 ⟨by decide, by decide, by decide +kernel⟩ tw_1444 tw_1445 rfl rfl (sX7_of (l := pm_l X) hG (x1) (7) _ _ h) hab (Nat.le_of_ble_eq_true rfl) ?_
  clear h; intro r11 I10 h
  refine r_iald 10 hC ((pm_s7 hG hk0).1) h.1 dX7_undelivered_10 ?_
  replace h := h.2
  refine r_aload_n 11 hC dX7_undelivered_11 rfl rfl ?_
  refine r_getR7 12 (r1 := q0 + 1) hC hk0 1 (by decide) tw_1180 rfl rfl dX7_undelivered_12 ?_
  refine r_iload_n 15 hC dX7_undelivered_15 rfl rfl ?_
  refine r_bipush 16 (v := 8) hC dX7_undelivered_16 (by decide) ?_
  refine r_callS_i 18 (n := 2) [.int (x1), .int (8)] [.ref (q0 + 1), .int (I10 (q0 + 1) (r11).toNatClampNeg)] hC dX7_undelivered_18 (by decide) (by decide) tw_1446 tw_135 ⟨by decide, by decide, by decide +kernel⟩ tw_1444 tw_1445 rfl rfl (sX7_of (l := pm_l X) hG (x1) (8) _ _ h) hab (Nat.le_of_ble_eq_true rfl) ?_
  clear h; intro r13 I12 h
  refine r_iald 21 hC ((pm_s7 hG hk0).1) h.1 dX7_undelivered_21 ?_
  replace h := h.2
  refine r_isub 22 hC dX7_undelivered_22 ?_
  exact r_iret 23 hC hE rfl dX7_undelivered_23 ⟨_, rfl, h⟩

def wX7_message (G : pm_G) (x0 : Int32) (x1 : Int32) (I : pm_I) (K : Int32 → pm_I → Prop) : Prop :=
  wX7_of G (x0) (14) I (fun r11 I10 => K (r11 + (5 * x1)) I10)

set_option maxRecDepth 20000 in
theorem sX7_message {G : pm_G} {l : Launch} (hG : pm_ok G) (x0 : Int32) (x1 : Int32) (I : pm_I) (K : Int32 → pm_I → Prop)  (h : wX7_message G x0 x1 I K) : pm_Ct G l yX7_message cX7_message 2 (some .int) { frames := 2, cells := 0, slots := 0, locals := 149 } [.int (x0), .int (x1)] I (pm_Ki K) := by
  unfold wX7_message at h
  refine pm_enter (by decide +kernel) hG rfl (Nat.le_of_ble_eq_true rfl) rfl (fun X hl hC hE => ?_)
  subst hl
  have hab : 0 ≤ 0 ∧ 0 ≤ 0 := ⟨Nat.le_refl 0, Nat.le_refl 0⟩
  have hC : pm_C G X cX7_message 2 RX7 (some .int) { frames := 2, cells := 0, slots := 0, locals := 149 } := hC
  refine r_iload_n 0 hC dX7_message_0 rfl rfl ?_
  refine r_bipush 1 (v := 14) hC dX7_message_1 (by decide) ?_
  refine r_callS_i 3 (n := 2) [.int (x0), .int (14)] [] hC dX7_message_3 (by decide) (by decide) tw_1446 tw_135 ⟨by decide, by decide, by decide +kernel⟩ tw_1444 tw_1445 rfl rfl (sX7_of (l := pm_l X) hG (x0) (14) _ _ h) hab (Nat.le_of_ble_eq_true rfl) ?_
  clear h; intro r11 I10 h
  refine r_iconst 6 (v := 5) hC dX7_message_6 (by decide) ?_
  refine r_iload_n 7 hC dX7_message_7 rfl rfl ?_
  refine r_imul 8 hC dX7_message_8 ?_
  refine r_iadd 9 hC dX7_message_9 ?_
  exact r_iret 10 hC hE rfl dX7_message_10 ⟨_, rfl, h⟩

def wX7_inState (G : pm_G) (q0 : Nat) (x1 : Int32) (x2 : Int32) (I : pm_I) (K : Int32 → pm_I → Prop) : Prop :=
  pm_lp3 (fun (P10 : Int32 → Int32 → pm_I → Prop) (x12 : Int32) (x13 : Int32) (I11 : pm_I) => wX7_undelivered G (q0) (x1) I11 (fun r15 I14 => (r15 ≤ x13 → (K (x12) I14)) ∧ (¬ r15 ≤ x13 → (wX7_message G (x1) (x13) I14 (fun r17 I16 => vp_in (r17 + 0) 821 ∧ ((¬ (I16 (q0 + 1) (r17 + 0).toNatClampNeg) = x2 → (P10 (x12 + 0) (x13 + 1) I16)) ∧ ((I16 (q0 + 1) (r17 + 0).toNatClampNeg) = x2 → (P10 (x12 + 1) (x13 + 1) I16)))))))) (0) (0) I

set_option maxRecDepth 20000 in
theorem sX7_inState {G : pm_G} {l : Launch} (hG : pm_ok G) (q0 : Nat) (x1 : Int32) (x2 : Int32) (I : pm_I) (K : Int32 → pm_I → Prop) (hk0 : pm_k G q0 (.inl 7)) (h : wX7_inState G q0 x1 x2 I K) : pm_Ct G l yX7_inState cX7_inState 5 (some .int) { frames := 3, cells := 0, slots := 0, locals := 234 } [.ref (q0), .int (x1), .int (x2)] I (pm_Ki K) := by
  unfold wX7_inState at h
  refine pm_enter (by decide +kernel) hG rfl (Nat.le_of_ble_eq_true rfl) rfl (fun X hl hC hE => ?_)
  subst hl
  have hab : 0 ≤ 0 ∧ 0 ≤ 0 := ⟨Nat.le_refl 0, Nat.le_refl 0⟩
  have hC : pm_C G X cX7_inState 5 RX7 (some .int) { frames := 3, cells := 0, slots := 0, locals := 234 } := hC
  refine r_iconst 0 (v := 0) hC dX7_inState_0 (by decide) ?_
  refine r_istore_n 1 [some (.ref (q0)), some (.int (x1)), some (.int (x2)), some (.int (0)), none] hC dX7_inState_1 rfl (by decide) rfl ?_
  refine r_iconst 2 (v := 0) hC dX7_inState_2 (by decide) ?_
  refine r_istore 3 [some (.ref (q0)), some (.int (x1)), some (.int (x2)), some (.int (0)), some (.int (0))] hC dX7_inState_3 (by decide) rfl ?_
  refine h (fun x12 x13 I11 => pm_R G X 5 0 0 5 [some (.ref (q0)), some (.int (x1)), some (.int (x2)), some (.int (x12)), some (.int (x13))] [] I11) ?_
  clear h; intro x12 x13 I11 h
  refine r_iload 5 hC dX7_inState_5 rfl ?_
  refine r_aload_n 7 hC dX7_inState_7 rfl rfl ?_
  refine r_iload_n 8 hC dX7_inState_8 rfl rfl ?_
  refine r_callV_i 9 (n := 1) [.int (x1)] [.int (x13)] hC hk0 rfl dX7_inState_9 (by decide) (by decide) tw_1517 tw_135 ⟨by decide, by decide, by decide +kernel⟩ tw_1514 tw_1516 tw_115 rfl rfl (sX7_undelivered (l := pm_l X) hG (q0) (x1) _ _ hk0 h) hab (Nat.le_of_ble_eq_true rfl) ?_
  clear h; intro r15 I14 h
  refine r_icmp_ge 12 46 hC dX7_inState_12 (by decide) (fun hc => ?_) (fun hc => ?_)
  · replace h := h.1 hc
    refine r_iload_n 46 hC dX7_inState_46 rfl rfl ?_
    exact r_iret 47 hC hE rfl dX7_inState_47 ⟨_, rfl, h⟩
  · replace h := h.2 hc
    refine r_iload_n 15 hC dX7_inState_15 rfl rfl ?_
    refine r_aload_n 16 hC dX7_inState_16 rfl rfl ?_
    refine r_getR7 17 (r1 := q0 + 1) hC hk0 1 (by decide) tw_1180 rfl rfl dX7_inState_17 ?_
    refine r_iload_n 20 hC dX7_inState_20 rfl rfl ?_
    refine r_iload 21 hC dX7_inState_21 rfl ?_
    refine r_callS_i 23 (n := 2) [.int (x1), .int (x13)] [.ref (q0 + 1), .int (x12)] hC dX7_inState_23 (by decide) (by decide) tw_1520 tw_135 ⟨by decide, by decide, by decide +kernel⟩ tw_1518 tw_1519 rfl rfl (sX7_message (l := pm_l X) hG (x1) (x13) _ _ h) hab (Nat.le_of_ble_eq_true rfl) ?_
    clear h; intro r17 I16 h
    refine r_iconst 26 (v := 0) hC dX7_inState_26 (by decide) ?_
    refine r_iadd 27 hC dX7_inState_27 ?_
    refine r_iald 28 hC ((pm_s7 hG hk0).1) h.1 dX7_inState_28 ?_
    replace h := h.2
    refine r_iload_n 29 hC dX7_inState_29 rfl rfl ?_
    refine r_icmp_ne 30 37 hC dX7_inState_30 (by decide) (fun hc => ?_) (fun hc => ?_)
    · replace h := h.1 hc
      refine r_iconst 37 (v := 0) hC dX7_inState_37 (by decide) ?_
      refine r_iadd 38 hC dX7_inState_38 ?_
      refine r_istore_n 39 [some (.ref (q0)), some (.int (x1)), some (.int (x2)), some (.int (x12 + 0)), some (.int (x13))] hC dX7_inState_39 rfl (by decide) rfl ?_
      refine r_iinc 40 (v := x13 + 1) [some (.ref (q0)), some (.int (x1)), some (.int (x2)), some (.int (x12 + 0)), some (.int (x13 + 1))] hC dX7_inState_40 rfl (by rfl) (by decide) rfl ?_
      refine r_goto 43 5 hC dX7_inState_43 (by decide) ?_
      exact h
    · replace h := h.2 hc
      refine r_iconst 33 (v := 1) hC dX7_inState_33 (by decide) ?_
      refine r_goto 34 38 hC dX7_inState_34 (by decide) ?_
      refine r_iadd 38 hC dX7_inState_38 ?_
      refine r_istore_n 39 [some (.ref (q0)), some (.int (x1)), some (.int (x2)), some (.int (x12 + 1)), some (.int (x13))] hC dX7_inState_39 rfl (by decide) rfl ?_
      refine r_iinc 40 (v := x13 + 1) [some (.ref (q0)), some (.int (x1)), some (.int (x2)), some (.int (x12 + 1)), some (.int (x13 + 1))] hC dX7_inState_40 rfl (by rfl) (by decide) rfl ?_
      refine r_goto 43 5 hC dX7_inState_43 (by decide) ?_
      exact h

def wX7_messages (G : pm_G) (q0 : Nat) (x1 : Int32) (x2 : Int32) (I : pm_I) (K : Int32 → pm_I → Prop) : Prop :=
  wX7_noSession G (q0) (x1) I (fun r11 I10 => (¬ r11 = 0 → (K (0) I10)) ∧ (r11 = 0 → (wX7_within G (x2) (0) (3) I10 (fun r13 I12 => (¬ r13 = 0 → (wX7_throwsIf G (q0) (0) (2) I12 (fun r15 I14 => (r15 = 0 → ((¬ x2 = 3 → (wX7_inState G (q0) (x1) (x2) I14 (fun r17 I16 => K (r17) I16))) ∧ (x2 = 3 → (wX7_of G (x1) (8) I14 (fun r19 I18 => vp_in (r19) 821 ∧ (K (I18 (q0 + 1) (r19).toNatClampNeg) I18)))))) ∧ (¬ r15 = 0 → (K (0) I14))))) ∧ (r13 = 0 → (wX7_throwsIf G (q0) (1) (2) I12 (fun r21 I20 => (r21 = 0 → ((¬ x2 = 3 → (wX7_inState G (q0) (x1) (x2) I20 (fun r23 I22 => K (r23) I22))) ∧ (x2 = 3 → (wX7_of G (x1) (8) I20 (fun r25 I24 => vp_in (r25) 821 ∧ (K (I24 (q0 + 1) (r25).toNatClampNeg) I24)))))) ∧ (¬ r21 = 0 → (K (0) I20)))))))))

set_option maxRecDepth 20000 in
theorem sX7_messages {G : pm_G} {l : Launch} (hG : pm_ok G) (q0 : Nat) (x1 : Int32) (x2 : Int32) (I : pm_I) (K : Int32 → pm_I → Prop) (hk0 : pm_k G q0 (.inl 7)) (h : wX7_messages G q0 x1 x2 I K) : pm_Ct G l yX7_messages cX7_messages 3 (some .int) { frames := 4, cells := 0, slots := 0, locals := 322 } [.ref (q0), .int (x1), .int (x2)] I (pm_Ki K) := by
  unfold wX7_messages at h
  refine pm_enter (by decide +kernel) hG rfl (Nat.le_of_ble_eq_true rfl) rfl (fun X hl hC hE => ?_)
  subst hl
  have hab : 0 ≤ 0 ∧ 0 ≤ 0 := ⟨Nat.le_refl 0, Nat.le_refl 0⟩
  have hC : pm_C G X cX7_messages 3 RX7 (some .int) { frames := 4, cells := 0, slots := 0, locals := 322 } := hC
  refine r_aload_n 0 hC dX7_messages_0 rfl rfl ?_
  refine r_iload_n 1 hC dX7_messages_1 rfl rfl ?_
  refine r_callV_i 2 (n := 1) [.int (x1)] [] hC hk0 rfl dX7_messages_2 (by decide) (by decide) tw_1497 tw_135 ⟨by decide, by decide, by decide +kernel⟩ tw_1494 tw_1496 tw_113 rfl rfl (sX7_noSession (l := pm_l X) hG (q0) (x1) _ _ hk0 h) hab (Nat.le_of_ble_eq_true rfl) ?_
  clear h; intro r11 I10 h
  refine r_if_ne 5 30 hC dX7_messages_5 (by decide) (fun hc => ?_) (fun hc => ?_)
  · replace h := h.1 hc
    refine r_iconst 30 (v := 0) hC dX7_messages_30 (by decide) ?_
    exact r_iret 31 hC hE rfl dX7_messages_31 ⟨_, rfl, h⟩
  · replace h := h.2 hc
    refine r_aload_n 8 hC dX7_messages_8 rfl rfl ?_
    refine r_iload_n 9 hC dX7_messages_9 rfl rfl ?_
    refine r_iconst 10 (v := 0) hC dX7_messages_10 (by decide) ?_
    refine r_iconst 11 (v := 3) hC dX7_messages_11 (by decide) ?_
    refine r_callS_i 12 (n := 3) [.int (x2), .int (0), .int (3)] [.ref (q0)] hC dX7_messages_12 (by decide) (by decide) tw_1288 tw_135 ⟨by decide, by decide, by decide +kernel⟩ tw_1286 tw_1287 rfl rfl (sX7_within (l := pm_l X) hG (x2) (0) (3) _ _ h) hab (Nat.le_of_ble_eq_true rfl) ?_
    clear h; intro r13 I12 h
    refine r_if_ne 15 22 hC dX7_messages_15 (by decide) (fun hc => ?_) (fun hc => ?_)
    · replace h := h.1 hc
      refine r_iconst 22 (v := 0) hC dX7_messages_22 (by decide) ?_
      refine r_iconst 23 (v := 2) hC dX7_messages_23 (by decide) ?_
      refine r_callV_i 24 (n := 2) [.int (0), .int (2)] [] hC hk0 rfl dX7_messages_24 (by decide) (by decide) tw_1292 tw_135 ⟨by decide, by decide, by decide +kernel⟩ tw_1289 tw_1291 tw_81 rfl rfl (sX7_throwsIf (l := pm_l X) hG (q0) (0) (2) _ _ hk0 h) hab (Nat.le_of_ble_eq_true rfl) ?_
      clear h; intro r15 I14 h
      refine r_if_eq 27 32 hC dX7_messages_27 (by decide) (fun hc => ?_) (fun hc => ?_)
      · replace h := h.1 hc
        refine r_iload_n 32 hC dX7_messages_32 rfl rfl ?_
        refine r_iconst 33 (v := 3) hC dX7_messages_33 (by decide) ?_
        refine r_icmp_ne 34 51 hC dX7_messages_34 (by decide) (fun hc => ?_) (fun hc => ?_)
        · replace h := h.1 hc
          refine r_aload_n 51 hC dX7_messages_51 rfl rfl ?_
          refine r_iload_n 52 hC dX7_messages_52 rfl rfl ?_
          refine r_iload_n 53 hC dX7_messages_53 rfl rfl ?_
          refine r_callV_i 54 (n := 2) [.int (x1), .int (x2)] [] hC hk0 rfl dX7_messages_54 (by decide) (by decide) tw_1513 tw_135 ⟨by decide, by decide, by decide +kernel⟩ tw_1510 tw_1512 tw_114 rfl rfl (sX7_inState (l := pm_l X) hG (q0) (x1) (x2) _ _ hk0 h) hab (Nat.le_of_ble_eq_true rfl) ?_
          clear h; intro r17 I16 h
          exact r_iret 57 hC hE rfl dX7_messages_57 ⟨_, rfl, h⟩
        · replace h := h.2 hc
          refine r_aload_n 37 hC dX7_messages_37 rfl rfl ?_
          refine r_getR7 38 (r1 := q0 + 1) hC hk0 1 (by decide) tw_1180 rfl rfl dX7_messages_38 ?_
          refine r_iload_n 41 hC dX7_messages_41 rfl rfl ?_
          refine r_bipush 42 (v := 8) hC dX7_messages_42 (by decide) ?_
          refine r_callS_i 44 (n := 2) [.int (x1), .int (8)] [.ref (q0 + 1)] hC dX7_messages_44 (by decide) (by decide) tw_1446 tw_135 ⟨by decide, by decide, by decide +kernel⟩ tw_1444 tw_1445 rfl rfl (sX7_of (l := pm_l X) hG (x1) (8) _ _ h) hab (Nat.le_of_ble_eq_true rfl) ?_
          clear h; intro r19 I18 h
          refine r_iald 47 hC ((pm_s7 hG hk0).1) h.1 dX7_messages_47 ?_
          replace h := h.2
          refine r_goto 48 57 hC dX7_messages_48 (by decide) ?_
          exact r_iret 57 hC hE rfl dX7_messages_57 ⟨_, rfl, h⟩
      · replace h := h.2 hc
        refine r_iconst 30 (v := 0) hC dX7_messages_30 (by decide) ?_
        exact r_iret 31 hC hE rfl dX7_messages_31 ⟨_, rfl, h⟩
    · replace h := h.2 hc
      refine r_iconst 18 (v := 1) hC dX7_messages_18 (by decide) ?_
      refine r_goto 19 23 hC dX7_messages_19 (by decide) ?_
      refine r_iconst 23 (v := 2) hC dX7_messages_23 (by decide) ?_
      refine r_callV_i 24 (n := 2) [.int (1), .int (2)] [] hC hk0 rfl dX7_messages_24 (by decide) (by decide) tw_1292 tw_135 ⟨by decide, by decide, by decide +kernel⟩ tw_1289 tw_1291 tw_81 rfl rfl (sX7_throwsIf (l := pm_l X) hG (q0) (1) (2) _ _ hk0 h) hab (Nat.le_of_ble_eq_true rfl) ?_
      clear h; intro r21 I20 h
      refine r_if_eq 27 32 hC dX7_messages_27 (by decide) (fun hc => ?_) (fun hc => ?_)
      · replace h := h.1 hc
        refine r_iload_n 32 hC dX7_messages_32 rfl rfl ?_
        refine r_iconst 33 (v := 3) hC dX7_messages_33 (by decide) ?_
        refine r_icmp_ne 34 51 hC dX7_messages_34 (by decide) (fun hc => ?_) (fun hc => ?_)
        · replace h := h.1 hc
          refine r_aload_n 51 hC dX7_messages_51 rfl rfl ?_
          refine r_iload_n 52 hC dX7_messages_52 rfl rfl ?_
          refine r_iload_n 53 hC dX7_messages_53 rfl rfl ?_
          refine r_callV_i 54 (n := 2) [.int (x1), .int (x2)] [] hC hk0 rfl dX7_messages_54 (by decide) (by decide) tw_1513 tw_135 ⟨by decide, by decide, by decide +kernel⟩ tw_1510 tw_1512 tw_114 rfl rfl (sX7_inState (l := pm_l X) hG (q0) (x1) (x2) _ _ hk0 h) hab (Nat.le_of_ble_eq_true rfl) ?_
          clear h; intro r23 I22 h
          exact r_iret 57 hC hE rfl dX7_messages_57 ⟨_, rfl, h⟩
        · replace h := h.2 hc
          refine r_aload_n 37 hC dX7_messages_37 rfl rfl ?_
          refine r_getR7 38 (r1 := q0 + 1) hC hk0 1 (by decide) tw_1180 rfl rfl dX7_messages_38 ?_
          refine r_iload_n 41 hC dX7_messages_41 rfl rfl ?_
          refine r_bipush 42 (v := 8) hC dX7_messages_42 (by decide) ?_
          refine r_callS_i 44 (n := 2) [.int (x1), .int (8)] [.ref (q0 + 1)] hC dX7_messages_44 (by decide) (by decide) tw_1446 tw_135 ⟨by decide, by decide, by decide +kernel⟩ tw_1444 tw_1445 rfl rfl (sX7_of (l := pm_l X) hG (x1) (8) _ _ h) hab (Nat.le_of_ble_eq_true rfl) ?_
          clear h; intro r25 I24 h
          refine r_iald 47 hC ((pm_s7 hG hk0).1) h.1 dX7_messages_47 ?_
          replace h := h.2
          refine r_goto 48 57 hC dX7_messages_48 (by decide) ?_
          exact r_iret 57 hC hE rfl dX7_messages_57 ⟨_, rfl, h⟩
      · replace h := h.2 hc
        refine r_iconst 30 (v := 0) hC dX7_messages_30 (by decide) ?_
        exact r_iret 31 hC hE rfl dX7_messages_31 ⟨_, rfl, h⟩

def wX7_lastValue (G : pm_G) (q0 : Nat) (x1 : Int32) (I : pm_I) (K : Int32 → pm_I → Prop) : Prop :=
  wX7_noSession G (q0) (x1) I (fun r11 I10 => (¬ r11 = 0 → (K (0) I10)) ∧ (r11 = 0 → (wX7_of G (x1) (8) I10 (fun r13 I12 => vp_in (r13) 821 ∧ ((¬ (I12 (q0 + 1) (r13).toNatClampNeg) = 0 → (wX7_throwsIf G (q0) (0) (2) I12 (fun r15 I14 => (r15 = 0 → (wX7_of G (x1) (10) I14 (fun r17 I16 => vp_in (r17) 821 ∧ (K (I16 (q0 + 1) (r17).toNatClampNeg) I16)))) ∧ (¬ r15 = 0 → (K (0) I14))))) ∧ ((I12 (q0 + 1) (r13).toNatClampNeg) = 0 → (wX7_throwsIf G (q0) (1) (2) I12 (fun r19 I18 => (r19 = 0 → (wX7_of G (x1) (10) I18 (fun r21 I20 => vp_in (r21) 821 ∧ (K (I20 (q0 + 1) (r21).toNatClampNeg) I20)))) ∧ (¬ r19 = 0 → (K (0) I18))))))))))

set_option maxRecDepth 20000 in
theorem sX7_lastValue {G : pm_G} {l : Launch} (hG : pm_ok G) (q0 : Nat) (x1 : Int32) (I : pm_I) (K : Int32 → pm_I → Prop) (hk0 : pm_k G q0 (.inl 7)) (h : wX7_lastValue G q0 x1 I K) : pm_Ct G l yX7_lastValue cX7_lastValue 2 (some .int) { frames := 4, cells := 0, slots := 0, locals := 321 } [.ref (q0), .int (x1)] I (pm_Ki K) := by
  unfold wX7_lastValue at h
  refine pm_enter (by decide +kernel) hG rfl (Nat.le_of_ble_eq_true rfl) rfl (fun X hl hC hE => ?_)
  subst hl
  have hab : 0 ≤ 0 ∧ 0 ≤ 0 := ⟨Nat.le_refl 0, Nat.le_refl 0⟩
  have hC : pm_C G X cX7_lastValue 2 RX7 (some .int) { frames := 4, cells := 0, slots := 0, locals := 321 } := hC
  refine r_aload_n 0 hC dX7_lastValue_0 rfl rfl ?_
  refine r_iload_n 1 hC dX7_lastValue_1 rfl rfl ?_
  refine r_callV_i 2 (n := 1) [.int (x1)] [] hC hk0 rfl dX7_lastValue_2 (by decide) (by decide) tw_1497 tw_135 ⟨by decide, by decide, by decide +kernel⟩ tw_1494 tw_1496 tw_113 rfl rfl (sX7_noSession (l := pm_l X) hG (q0) (x1) _ _ hk0 h) hab (Nat.le_of_ble_eq_true rfl) ?_
  clear h; intro r11 I10 h
  refine r_if_ne 5 35 hC dX7_lastValue_5 (by decide) (fun hc => ?_) (fun hc => ?_)
  · replace h := h.1 hc
    refine r_iconst 35 (v := 0) hC dX7_lastValue_35 (by decide) ?_
    refine r_goto 36 50 hC dX7_lastValue_36 (by decide) ?_
    exact r_iret 50 hC hE rfl dX7_lastValue_50 ⟨_, rfl, h⟩
  · replace h := h.2 hc
    refine r_aload_n 8 hC dX7_lastValue_8 rfl rfl ?_
    refine r_aload_n 9 hC dX7_lastValue_9 rfl rfl ?_
    refine r_getR7 10 (r1 := q0 + 1) hC hk0 1 (by decide) tw_1180 rfl rfl dX7_lastValue_10 ?_
    refine r_iload_n 13 hC dX7_lastValue_13 rfl rfl ?_
    refine r_bipush 14 (v := 8) hC dX7_lastValue_14 (by decide) ?_
    refine r_callS_i 16 (n := 2) [.int (x1), .int (8)] [.ref (q0 + 1), .ref (q0)] hC dX7_lastValue_16 (by decide) (by decide) tw_1446 tw_135 ⟨by decide, by decide, by decide +kernel⟩ tw_1444 tw_1445 rfl rfl (sX7_of (l := pm_l X) hG (x1) (8) _ _ h) hab (Nat.le_of_ble_eq_true rfl) ?_
    clear h; intro r13 I12 h
    refine r_iald 19 hC ((pm_s7 hG hk0).1) h.1 dX7_lastValue_19 ?_
    replace h := h.2
    refine r_if_ne 20 27 hC dX7_lastValue_20 (by decide) (fun hc => ?_) (fun hc => ?_)
    · replace h := h.1 hc
      refine r_iconst 27 (v := 0) hC dX7_lastValue_27 (by decide) ?_
      refine r_iconst 28 (v := 2) hC dX7_lastValue_28 (by decide) ?_
      refine r_callV_i 29 (n := 2) [.int (0), .int (2)] [] hC hk0 rfl dX7_lastValue_29 (by decide) (by decide) tw_1292 tw_135 ⟨by decide, by decide, by decide +kernel⟩ tw_1289 tw_1291 tw_81 rfl rfl (sX7_throwsIf (l := pm_l X) hG (q0) (0) (2) _ _ hk0 h) hab (Nat.le_of_ble_eq_true rfl) ?_
      clear h; intro r15 I14 h
      refine r_if_eq 32 39 hC dX7_lastValue_32 (by decide) (fun hc => ?_) (fun hc => ?_)
      · replace h := h.1 hc
        refine r_aload_n 39 hC dX7_lastValue_39 rfl rfl ?_
        refine r_getR7 40 (r1 := q0 + 1) hC hk0 1 (by decide) tw_1180 rfl rfl dX7_lastValue_40 ?_
        refine r_iload_n 43 hC dX7_lastValue_43 rfl rfl ?_
        refine r_bipush 44 (v := 10) hC dX7_lastValue_44 (by decide) ?_
        refine r_callS_i 46 (n := 2) [.int (x1), .int (10)] [.ref (q0 + 1)] hC dX7_lastValue_46 (by decide) (by decide) tw_1446 tw_135 ⟨by decide, by decide, by decide +kernel⟩ tw_1444 tw_1445 rfl rfl (sX7_of (l := pm_l X) hG (x1) (10) _ _ h) hab (Nat.le_of_ble_eq_true rfl) ?_
        clear h; intro r17 I16 h
        refine r_iald 49 hC ((pm_s7 hG hk0).1) h.1 dX7_lastValue_49 ?_
        replace h := h.2
        exact r_iret 50 hC hE rfl dX7_lastValue_50 ⟨_, rfl, h⟩
      · replace h := h.2 hc
        refine r_iconst 35 (v := 0) hC dX7_lastValue_35 (by decide) ?_
        refine r_goto 36 50 hC dX7_lastValue_36 (by decide) ?_
        exact r_iret 50 hC hE rfl dX7_lastValue_50 ⟨_, rfl, h⟩
    · replace h := h.2 hc
      refine r_iconst 23 (v := 1) hC dX7_lastValue_23 (by decide) ?_
      refine r_goto 24 28 hC dX7_lastValue_24 (by decide) ?_
      refine r_iconst 28 (v := 2) hC dX7_lastValue_28 (by decide) ?_
      refine r_callV_i 29 (n := 2) [.int (1), .int (2)] [] hC hk0 rfl dX7_lastValue_29 (by decide) (by decide) tw_1292 tw_135 ⟨by decide, by decide, by decide +kernel⟩ tw_1289 tw_1291 tw_81 rfl rfl (sX7_throwsIf (l := pm_l X) hG (q0) (1) (2) _ _ hk0 h) hab (Nat.le_of_ble_eq_true rfl) ?_
      clear h; intro r19 I18 h
      refine r_if_eq 32 39 hC dX7_lastValue_32 (by decide) (fun hc => ?_) (fun hc => ?_)
      · replace h := h.1 hc
        refine r_aload_n 39 hC dX7_lastValue_39 rfl rfl ?_
        refine r_getR7 40 (r1 := q0 + 1) hC hk0 1 (by decide) tw_1180 rfl rfl dX7_lastValue_40 ?_
        refine r_iload_n 43 hC dX7_lastValue_43 rfl rfl ?_
        refine r_bipush 44 (v := 10) hC dX7_lastValue_44 (by decide) ?_
        refine r_callS_i 46 (n := 2) [.int (x1), .int (10)] [.ref (q0 + 1)] hC dX7_lastValue_46 (by decide) (by decide) tw_1446 tw_135 ⟨by decide, by decide, by decide +kernel⟩ tw_1444 tw_1445 rfl rfl (sX7_of (l := pm_l X) hG (x1) (10) _ _ h) hab (Nat.le_of_ble_eq_true rfl) ?_
        clear h; intro r21 I20 h
        refine r_iald 49 hC ((pm_s7 hG hk0).1) h.1 dX7_lastValue_49 ?_
        replace h := h.2
        exact r_iret 50 hC hE rfl dX7_lastValue_50 ⟨_, rfl, h⟩
      · replace h := h.2 hc
        refine r_iconst 35 (v := 0) hC dX7_lastValue_35 (by decide) ?_
        refine r_goto 36 50 hC dX7_lastValue_36 (by decide) ?_
        exact r_iret 50 hC hE rfl dX7_lastValue_50 ⟨_, rfl, h⟩

def wX7_digest (G : pm_G) (q0 : Nat) (x1 : Int32) (I : pm_I) (K : Int32 → pm_I → Prop) : Prop :=
  wX7_asked G (q0) (x1) (9) I (fun r11 I10 => K (r11) I10)

set_option maxRecDepth 20000 in
theorem sX7_digest {G : pm_G} {l : Launch} (hG : pm_ok G) (q0 : Nat) (x1 : Int32) (I : pm_I) (K : Int32 → pm_I → Prop) (hk0 : pm_k G q0 (.inl 7)) (h : wX7_digest G q0 x1 I K) : pm_Ct G l yX7_digest cX7_digest 2 (some .int) { frames := 5, cells := 0, slots := 0, locals := 407 } [.ref (q0), .int (x1)] I (pm_Ki K) := by
  unfold wX7_digest at h
  refine pm_enter (by decide +kernel) hG rfl (Nat.le_of_ble_eq_true rfl) rfl (fun X hl hC hE => ?_)
  subst hl
  have hab : 0 ≤ 0 ∧ 0 ≤ 0 := ⟨Nat.le_refl 0, Nat.le_refl 0⟩
  have hC : pm_C G X cX7_digest 2 RX7 (some .int) { frames := 5, cells := 0, slots := 0, locals := 407 } := hC
  refine r_aload_n 0 hC dX7_digest_0 rfl rfl ?_
  refine r_iload_n 1 hC dX7_digest_1 rfl rfl ?_
  refine r_bipush 2 (v := 9) hC dX7_digest_2 (by decide) ?_
  refine r_callV_i 4 (n := 2) [.int (x1), .int (9)] [] hC hk0 rfl dX7_digest_4 (by decide) (by decide) tw_1493 tw_135 ⟨by decide, by decide, by decide +kernel⟩ tw_1490 tw_1492 tw_112 rfl rfl (sX7_asked (l := pm_l X) hG (q0) (x1) (9) _ _ hk0 h) hab (Nat.le_of_ble_eq_true rfl) ?_
  clear h; intro r11 I10 h
  exact r_iret 7 hC hE rfl dX7_digest_7 ⟨_, rfl, h⟩

def wX7_key (G : pm_G) (q0 : Nat) (x1 : Int32) (I : pm_I) (K : Int32 → pm_I → Prop) : Prop :=
  wX7_asked G (q0) (x1) (11) I (fun r11 I10 => K (r11) I10)

set_option maxRecDepth 20000 in
theorem sX7_key {G : pm_G} {l : Launch} (hG : pm_ok G) (q0 : Nat) (x1 : Int32) (I : pm_I) (K : Int32 → pm_I → Prop) (hk0 : pm_k G q0 (.inl 7)) (h : wX7_key G q0 x1 I K) : pm_Ct G l yX7_key cX7_key 2 (some .int) { frames := 5, cells := 0, slots := 0, locals := 407 } [.ref (q0), .int (x1)] I (pm_Ki K) := by
  unfold wX7_key at h
  refine pm_enter (by decide +kernel) hG rfl (Nat.le_of_ble_eq_true rfl) rfl (fun X hl hC hE => ?_)
  subst hl
  have hab : 0 ≤ 0 ∧ 0 ≤ 0 := ⟨Nat.le_refl 0, Nat.le_refl 0⟩
  have hC : pm_C G X cX7_key 2 RX7 (some .int) { frames := 5, cells := 0, slots := 0, locals := 407 } := hC
  refine r_aload_n 0 hC dX7_key_0 rfl rfl ?_
  refine r_iload_n 1 hC dX7_key_1 rfl rfl ?_
  refine r_bipush 2 (v := 11) hC dX7_key_2 (by decide) ?_
  refine r_callV_i 4 (n := 2) [.int (x1), .int (11)] [] hC hk0 rfl dX7_key_4 (by decide) (by decide) tw_1493 tw_135 ⟨by decide, by decide, by decide +kernel⟩ tw_1490 tw_1492 tw_112 rfl rfl (sX7_asked (l := pm_l X) hG (q0) (x1) (11) _ _ hk0 h) hab (Nat.le_of_ble_eq_true rfl) ?_
  clear h; intro r11 I10 h
  exact r_iret 7 hC hE rfl dX7_key_7 ⟨_, rfl, h⟩

def wX7_oldestKey (G : pm_G) (q0 : Nat) (x1 : Int32) (I : pm_I) (K : Int32 → pm_I → Prop) : Prop :=
  wX7_noSession G (q0) (x1) I (fun r11 I10 => (r11 = 0 → (wX7_undelivered G (q0) (x1) I10 (fun r13 I12 => (r13 ≤ 0 → (wX7_of G (x1) (11) I12 (fun r15 I14 => vp_in (r15) 821 ∧ (K (I14 (q0 + 1) (r15).toNatClampNeg) I14)))) ∧ (¬ r13 ≤ 0 → (wX7_message G (x1) (0) I12 (fun r17 I16 => vp_in (r17 + 2) 821 ∧ (K (I16 (q0 + 1) (r17 + 2).toNatClampNeg) I16))))))) ∧ (¬ r11 = 0 → (K (0) I10)))

set_option maxRecDepth 20000 in
theorem sX7_oldestKey {G : pm_G} {l : Launch} (hG : pm_ok G) (q0 : Nat) (x1 : Int32) (I : pm_I) (K : Int32 → pm_I → Prop) (hk0 : pm_k G q0 (.inl 7)) (h : wX7_oldestKey G q0 x1 I K) : pm_Ct G l yX7_oldestKey cX7_oldestKey 2 (some .int) { frames := 4, cells := 0, slots := 0, locals := 321 } [.ref (q0), .int (x1)] I (pm_Ki K) := by
  unfold wX7_oldestKey at h
  refine pm_enter (by decide +kernel) hG rfl (Nat.le_of_ble_eq_true rfl) rfl (fun X hl hC hE => ?_)
  subst hl
  have hab : 0 ≤ 0 ∧ 0 ≤ 0 := ⟨Nat.le_refl 0, Nat.le_refl 0⟩
  have hC : pm_C G X cX7_oldestKey 2 RX7 (some .int) { frames := 4, cells := 0, slots := 0, locals := 321 } := hC
  refine r_aload_n 0 hC dX7_oldestKey_0 rfl rfl ?_
  refine r_iload_n 1 hC dX7_oldestKey_1 rfl rfl ?_
  refine r_callV_i 2 (n := 1) [.int (x1)] [] hC hk0 rfl dX7_oldestKey_2 (by decide) (by decide) tw_1497 tw_135 ⟨by decide, by decide, by decide +kernel⟩ tw_1494 tw_1496 tw_113 rfl rfl (sX7_noSession (l := pm_l X) hG (q0) (x1) _ _ hk0 h) hab (Nat.le_of_ble_eq_true rfl) ?_
  clear h; intro r11 I10 h
  refine r_if_eq 5 12 hC dX7_oldestKey_5 (by decide) (fun hc => ?_) (fun hc => ?_)
  · replace h := h.1 hc
    refine r_aload_n 12 hC dX7_oldestKey_12 rfl rfl ?_
    refine r_iload_n 13 hC dX7_oldestKey_13 rfl rfl ?_
    refine r_callV_i 14 (n := 1) [.int (x1)] [] hC hk0 rfl dX7_oldestKey_14 (by decide) (by decide) tw_1517 tw_135 ⟨by decide, by decide, by decide +kernel⟩ tw_1514 tw_1516 tw_115 rfl rfl (sX7_undelivered (l := pm_l X) hG (q0) (x1) _ _ hk0 h) hab (Nat.le_of_ble_eq_true rfl) ?_
    clear h; intro r13 I12 h
    refine r_if_le 17 35 hC dX7_oldestKey_17 (by decide) (fun hc => ?_) (fun hc => ?_)
    · replace h := h.1 hc
      refine r_aload_n 35 hC dX7_oldestKey_35 rfl rfl ?_
      refine r_getR7 36 (r1 := q0 + 1) hC hk0 1 (by decide) tw_1180 rfl rfl dX7_oldestKey_36 ?_
      refine r_iload_n 39 hC dX7_oldestKey_39 rfl rfl ?_
      refine r_bipush 40 (v := 11) hC dX7_oldestKey_40 (by decide) ?_
      refine r_callS_i 42 (n := 2) [.int (x1), .int (11)] [.ref (q0 + 1)] hC dX7_oldestKey_42 (by decide) (by decide) tw_1446 tw_135 ⟨by decide, by decide, by decide +kernel⟩ tw_1444 tw_1445 rfl rfl (sX7_of (l := pm_l X) hG (x1) (11) _ _ h) hab (Nat.le_of_ble_eq_true rfl) ?_
      clear h; intro r15 I14 h
      refine r_iald 45 hC ((pm_s7 hG hk0).1) h.1 dX7_oldestKey_45 ?_
      replace h := h.2
      exact r_iret 46 hC hE rfl dX7_oldestKey_46 ⟨_, rfl, h⟩
    · replace h := h.2 hc
      refine r_aload_n 20 hC dX7_oldestKey_20 rfl rfl ?_
      refine r_getR7 21 (r1 := q0 + 1) hC hk0 1 (by decide) tw_1180 rfl rfl dX7_oldestKey_21 ?_
      refine r_iload_n 24 hC dX7_oldestKey_24 rfl rfl ?_
      refine r_iconst 25 (v := 0) hC dX7_oldestKey_25 (by decide) ?_
      refine r_callS_i 26 (n := 2) [.int (x1), .int (0)] [.ref (q0 + 1)] hC dX7_oldestKey_26 (by decide) (by decide) tw_1520 tw_135 ⟨by decide, by decide, by decide +kernel⟩ tw_1518 tw_1519 rfl rfl (sX7_message (l := pm_l X) hG (x1) (0) _ _ h) hab (Nat.le_of_ble_eq_true rfl) ?_
      clear h; intro r17 I16 h
      refine r_iconst 29 (v := 2) hC dX7_oldestKey_29 (by decide) ?_
      refine r_iadd 30 hC dX7_oldestKey_30 ?_
      refine r_iald 31 hC ((pm_s7 hG hk0).1) h.1 dX7_oldestKey_31 ?_
      replace h := h.2
      refine r_goto 32 46 hC dX7_oldestKey_32 (by decide) ?_
      exact r_iret 46 hC hE rfl dX7_oldestKey_46 ⟨_, rfl, h⟩
  · replace h := h.2 hc
    refine r_iconst 8 (v := 0) hC dX7_oldestKey_8 (by decide) ?_
    refine r_goto 9 46 hC dX7_oldestKey_9 (by decide) ?_
    exact r_iret 46 hC hE rfl dX7_oldestKey_46 ⟨_, rfl, h⟩

def wX7_keyStart (G : pm_G) (q0 : Nat) (x1 : Int32) (I : pm_I) (K : Int32 → pm_I → Prop) : Prop :=
  wX7_asked G (q0) (x1) (13) I (fun r11 I10 => K (r11) I10)

set_option maxRecDepth 20000 in
theorem sX7_keyStart {G : pm_G} {l : Launch} (hG : pm_ok G) (q0 : Nat) (x1 : Int32) (I : pm_I) (K : Int32 → pm_I → Prop) (hk0 : pm_k G q0 (.inl 7)) (h : wX7_keyStart G q0 x1 I K) : pm_Ct G l yX7_keyStart cX7_keyStart 2 (some .int) { frames := 5, cells := 0, slots := 0, locals := 407 } [.ref (q0), .int (x1)] I (pm_Ki K) := by
  unfold wX7_keyStart at h
  refine pm_enter (by decide +kernel) hG rfl (Nat.le_of_ble_eq_true rfl) rfl (fun X hl hC hE => ?_)
  subst hl
  have hab : 0 ≤ 0 ∧ 0 ≤ 0 := ⟨Nat.le_refl 0, Nat.le_refl 0⟩
  have hC : pm_C G X cX7_keyStart 2 RX7 (some .int) { frames := 5, cells := 0, slots := 0, locals := 407 } := hC
  refine r_aload_n 0 hC dX7_keyStart_0 rfl rfl ?_
  refine r_iload_n 1 hC dX7_keyStart_1 rfl rfl ?_
  refine r_bipush 2 (v := 13) hC dX7_keyStart_2 (by decide) ?_
  refine r_callV_i 4 (n := 2) [.int (x1), .int (13)] [] hC hk0 rfl dX7_keyStart_4 (by decide) (by decide) tw_1493 tw_135 ⟨by decide, by decide, by decide +kernel⟩ tw_1490 tw_1492 tw_112 rfl rfl (sX7_asked (l := pm_l X) hG (q0) (x1) (13) _ _ hk0 h) hab (Nat.le_of_ble_eq_true rfl) ?_
  clear h; intro r11 I10 h
  exact r_iret 7 hC hE rfl dX7_keyStart_7 ⟨_, rfl, h⟩

def wX7_turnsKey (G : pm_G) (q0 : Nat) (x1 : Int32) (I : pm_I) (K : pm_I → Prop) : Prop :=
  wX7_of G (x1) (11) I (fun r11 I10 => vp_in (r11) 821 ∧ (vp_in (r11) 821 ∧ (∀ I12 : pm_I, I12 = pm_up I10 (q0 + 1) ((r11).toNatClampNeg) ((I10 (q0 + 1) (r11).toNatClampNeg) + 1) → (wX7_of G (x1) (12) I12 (fun r14 I13 => vp_in (r14) 821 ∧ (∀ I15 : pm_I, I15 = pm_up I13 (q0 + 1) ((r14).toNatClampNeg) (0) → (wX7_of G (x1) (13) I15 (fun r17 I16 => wX7_of G (x1) (7) I16 (fun r19 I18 => vp_in (r19) 821 ∧ (vp_in (r17) 821 ∧ (∀ I20 : pm_I, I20 = pm_up I18 (q0 + 1) ((r17).toNatClampNeg) (I18 (q0 + 1) (r19).toNatClampNeg) → K I20)))))))))))

set_option maxRecDepth 20000 in
theorem sX7_turnsKey {G : pm_G} {l : Launch} (hG : pm_ok G) (q0 : Nat) (x1 : Int32) (I : pm_I) (K : pm_I → Prop) (hk0 : pm_k G q0 (.inl 7)) (h : wX7_turnsKey G q0 x1 I K) : pm_Ct G l yX7_turnsKey cX7_turnsKey 2 none { frames := 2, cells := 0, slots := 0, locals := 149 } [.ref (q0), .int (x1)] I (pm_Kv K) := by
  unfold wX7_turnsKey at h
  refine pm_enter (by decide +kernel) hG rfl (Nat.le_of_ble_eq_true rfl) rfl (fun X hl hC hE => ?_)
  subst hl
  have hab : 0 ≤ 0 ∧ 0 ≤ 0 := ⟨Nat.le_refl 0, Nat.le_refl 0⟩
  have hC : pm_C G X cX7_turnsKey 2 RX7 none { frames := 2, cells := 0, slots := 0, locals := 149 } := hC
  refine r_aload_n 0 hC dX7_turnsKey_0 rfl rfl ?_
  refine r_getR7 1 (r1 := q0 + 1) hC hk0 1 (by decide) tw_1180 rfl rfl dX7_turnsKey_1 ?_
  refine r_iload_n 4 hC dX7_turnsKey_4 rfl rfl ?_
  refine r_bipush 5 (v := 11) hC dX7_turnsKey_5 (by decide) ?_
  refine r_callS_i 7 (n := 2) [.int (x1), .int (11)] [.ref (q0 + 1)] hC dX7_turnsKey_7 (by decide) (by decide) tw_1446 tw_135 ⟨by decide, by decide, by decide +kernel⟩ tw_1444 tw_1445 rfl rfl (sX7_of (l := pm_l X) hG (x1) (11) _ _ h) hab (Nat.le_of_ble_eq_true rfl) ?_
  clear h; intro r11 I10 h
  refine r_dup2 10 hC dX7_turnsKey_10 rfl rfl ?_
  refine r_iald 11 hC ((pm_s7 hG hk0).1) h.1 dX7_turnsKey_11 ?_
  replace h := h.2
  refine r_iconst 12 (v := 1) hC dX7_turnsKey_12 (by decide) ?_
  refine r_iadd 13 hC dX7_turnsKey_13 ?_
  refine r_iast 14 hC ((pm_s7 hG hk0).1) h.1 dX7_turnsKey_14 (fun I12 hI => ?_)
  replace h := h.2
  replace h := h I12 hI; clear hI
  refine r_aload_n 15 hC dX7_turnsKey_15 rfl rfl ?_
  refine r_getR7 16 (r1 := q0 + 1) hC hk0 1 (by decide) tw_1180 rfl rfl dX7_turnsKey_16 ?_
  refine r_iload_n 19 hC dX7_turnsKey_19 rfl rfl ?_
  refine r_bipush 20 (v := 12) hC dX7_turnsKey_20 (by decide) ?_
  refine r_callS_i 22 (n := 2) [.int (x1), .int (12)] [.ref (q0 + 1)] hC dX7_turnsKey_22 (by decide) (by decide) tw_1446 tw_135 ⟨by decide, by decide, by decide +kernel⟩ tw_1444 tw_1445 rfl rfl (sX7_of (l := pm_l X) hG (x1) (12) _ _ h) hab (Nat.le_of_ble_eq_true rfl) ?_
  clear h; intro r14 I13 h
  refine r_iconst 25 (v := 0) hC dX7_turnsKey_25 (by decide) ?_
  refine r_iast 26 hC ((pm_s7 hG hk0).1) h.1 dX7_turnsKey_26 (fun I15 hI => ?_)
  replace h := h.2
  replace h := h I15 hI; clear hI
  refine r_aload_n 27 hC dX7_turnsKey_27 rfl rfl ?_
  refine r_getR7 28 (r1 := q0 + 1) hC hk0 1 (by decide) tw_1180 rfl rfl dX7_turnsKey_28 ?_
  refine r_iload_n 31 hC dX7_turnsKey_31 rfl rfl ?_
  refine r_bipush 32 (v := 13) hC dX7_turnsKey_32 (by decide) ?_
  refine r_callS_i 34 (n := 2) [.int (x1), .int (13)] [.ref (q0 + 1)] hC dX7_turnsKey_34 (by decide) (by decide) tw_1446 tw_135 ⟨by decide, by decide, by decide +kernel⟩ tw_1444 tw_1445 rfl rfl (sX7_of (l := pm_l X) hG (x1) (13) _ _ h) hab (Nat.le_of_ble_eq_true rfl) ?_
  clear h; intro r17 I16 h
  refine r_aload_n 37 hC dX7_turnsKey_37 rfl rfl ?_
  refine r_getR7 38 (r1 := q0 + 1) hC hk0 1 (by decide) tw_1180 rfl rfl dX7_turnsKey_38 ?_
  refine r_iload_n 41 hC dX7_turnsKey_41 rfl rfl ?_
  refine r_bipush 42 (v := 7) hC dX7_turnsKey_42 (by decide) ?_
  refine r_callS_i 44 (n := 2) [.int (x1), .int (7)] [.ref (q0 + 1), .int (r17), .ref (q0 + 1)] hC dX7_turnsKey_44 (by decide) (by decide) tw_1446 tw_135 ⟨by decide, by decide, by decide +kernel⟩ tw_1444 tw_1445 rfl rfl (sX7_of (l := pm_l X) hG (x1) (7) _ _ h) hab (Nat.le_of_ble_eq_true rfl) ?_
  clear h; intro r19 I18 h
  refine r_iald 47 hC ((pm_s7 hG hk0).1) h.1 dX7_turnsKey_47 ?_
  replace h := h.2
  refine r_iast 48 hC ((pm_s7 hG hk0).1) h.1 dX7_turnsKey_48 (fun I20 hI => ?_)
  replace h := h.2
  replace h := h I20 hI; clear hI
  exact r_vret 49 hC hE dX7_turnsKey_49 ⟨rfl, h⟩

def wX7_delayBy (G : pm_G) (q0 : Nat) (x1 : Int32) (x2 : Int32) (I : pm_I) (K : Int32 → pm_I → Prop) : Prop :=
  wX7_of G (x1) (1) I (fun r11 I10 => vp_in (r11) 821 ∧ (wX7_of G (x1) (2) I10 (fun r13 I12 => vp_in (r13) 821 ∧ ((¬ x2 = 100 → (vp_in ((8 * (I10 (q0 + 1) (r11).toNatClampNeg)) + x2) 128 ∧ (vp_in ((8 * x2) + (I12 (q0 + 1) (r13).toNatClampNeg)) 128 ∧ (K ((I12 (q0 + 5) ((8 * (I10 (q0 + 1) (r11).toNatClampNeg)) + x2).toNatClampNeg) + (I12 (q0 + 5) ((8 * x2) + (I12 (q0 + 1) (r13).toNatClampNeg)).toNatClampNeg)) I12)))) ∧ (x2 = 100 → (vp_in ((8 * (I10 (q0 + 1) (r11).toNatClampNeg)) + (I12 (q0 + 1) (r13).toNatClampNeg)) 128 ∧ (K (I12 (q0 + 5) ((8 * (I10 (q0 + 1) (r11).toNatClampNeg)) + (I12 (q0 + 1) (r13).toNatClampNeg)).toNatClampNeg) I12)))))))

set_option maxRecDepth 20000 in
theorem sX7_delayBy {G : pm_G} {l : Launch} (hG : pm_ok G) (q0 : Nat) (x1 : Int32) (x2 : Int32) (I : pm_I) (K : Int32 → pm_I → Prop) (hk0 : pm_k G q0 (.inl 7)) (h : wX7_delayBy G q0 x1 x2 I K) : pm_Ct G l yX7_delayBy cX7_delayBy 5 (some .int) { frames := 2, cells := 0, slots := 0, locals := 149 } [.ref (q0), .int (x1), .int (x2)] I (pm_Ki K) := by
  unfold wX7_delayBy at h
  refine pm_enter (by decide +kernel) hG rfl (Nat.le_of_ble_eq_true rfl) rfl (fun X hl hC hE => ?_)
  subst hl
  have hab : 0 ≤ 0 ∧ 0 ≤ 0 := ⟨Nat.le_refl 0, Nat.le_refl 0⟩
  have hC : pm_C G X cX7_delayBy 5 RX7 (some .int) { frames := 2, cells := 0, slots := 0, locals := 149 } := hC
  refine r_aload_n 0 hC dX7_delayBy_0 rfl rfl ?_
  refine r_getR7 1 (r1 := q0 + 1) hC hk0 1 (by decide) tw_1180 rfl rfl dX7_delayBy_1 ?_
  refine r_iload_n 4 hC dX7_delayBy_4 rfl rfl ?_
  refine r_iconst 5 (v := 1) hC dX7_delayBy_5 (by decide) ?_
  refine r_callS_i 6 (n := 2) [.int (x1), .int (1)] [.ref (q0 + 1)] hC dX7_delayBy_6 (by decide) (by decide) tw_1446 tw_135 ⟨by decide, by decide, by decide +kernel⟩ tw_1444 tw_1445 rfl rfl (sX7_of (l := pm_l X) hG (x1) (1) _ _ h) hab (Nat.le_of_ble_eq_true rfl) ?_
  clear h; intro r11 I10 h
  refine r_iald 9 hC ((pm_s7 hG hk0).1) h.1 dX7_delayBy_9 ?_
  replace h := h.2
  refine r_istore_n 10 [some (.ref (q0)), some (.int (x1)), some (.int (x2)), some (.int (I10 (q0 + 1) (r11).toNatClampNeg)), none] hC dX7_delayBy_10 rfl (by decide) rfl ?_
  refine r_aload_n 11 hC dX7_delayBy_11 rfl rfl ?_
  refine r_getR7 12 (r1 := q0 + 1) hC hk0 1 (by decide) tw_1180 rfl rfl dX7_delayBy_12 ?_
  refine r_iload_n 15 hC dX7_delayBy_15 rfl rfl ?_
  refine r_iconst 16 (v := 2) hC dX7_delayBy_16 (by decide) ?_
  refine r_callS_i 17 (n := 2) [.int (x1), .int (2)] [.ref (q0 + 1)] hC dX7_delayBy_17 (by decide) (by decide) tw_1446 tw_135 ⟨by decide, by decide, by decide +kernel⟩ tw_1444 tw_1445 rfl rfl (sX7_of (l := pm_l X) hG (x1) (2) _ _ h) hab (Nat.le_of_ble_eq_true rfl) ?_
  clear h; intro r13 I12 h
  refine r_iald 20 hC ((pm_s7 hG hk0).1) h.1 dX7_delayBy_20 ?_
  replace h := h.2
  refine r_istore 21 [some (.ref (q0)), some (.int (x1)), some (.int (x2)), some (.int (I10 (q0 + 1) (r11).toNatClampNeg)), some (.int (I12 (q0 + 1) (r13).toNatClampNeg))] hC dX7_delayBy_21 (by decide) rfl ?_
  refine r_iload_n 23 hC dX7_delayBy_23 rfl rfl ?_
  refine r_bipush 24 (v := 100) hC dX7_delayBy_24 (by decide) ?_
  refine r_icmp_ne 26 44 hC dX7_delayBy_26 (by decide) (fun hc => ?_) (fun hc => ?_)
  · replace h := h.1 hc
    refine r_aload_n 44 hC dX7_delayBy_44 rfl rfl ?_
    refine r_getR7 45 (r1 := q0 + 5) hC hk0 5 (by decide) tw_1184 rfl rfl dX7_delayBy_45 ?_
    refine r_bipush 48 (v := 8) hC dX7_delayBy_48 (by decide) ?_
    refine r_iload_n 50 hC dX7_delayBy_50 rfl rfl ?_
    refine r_imul 51 hC dX7_delayBy_51 ?_
    refine r_iload_n 52 hC dX7_delayBy_52 rfl rfl ?_
    refine r_iadd 53 hC dX7_delayBy_53 ?_
    refine r_iald 54 hC ((pm_s7 hG hk0).2.2.2.2.1) h.1 dX7_delayBy_54 ?_
    replace h := h.2
    refine r_aload_n 55 hC dX7_delayBy_55 rfl rfl ?_
    refine r_getR7 56 (r1 := q0 + 5) hC hk0 5 (by decide) tw_1184 rfl rfl dX7_delayBy_56 ?_
    refine r_bipush 59 (v := 8) hC dX7_delayBy_59 (by decide) ?_
    refine r_iload_n 61 hC dX7_delayBy_61 rfl rfl ?_
    refine r_imul 62 hC dX7_delayBy_62 ?_
    refine r_iload 63 hC dX7_delayBy_63 rfl ?_
    refine r_iadd 65 hC dX7_delayBy_65 ?_
    refine r_iald 66 hC ((pm_s7 hG hk0).2.2.2.2.1) h.1 dX7_delayBy_66 ?_
    replace h := h.2
    refine r_iadd 67 hC dX7_delayBy_67 ?_
    exact r_iret 68 hC hE rfl dX7_delayBy_68 ⟨_, rfl, h⟩
  · replace h := h.2 hc
    refine r_aload_n 29 hC dX7_delayBy_29 rfl rfl ?_
    refine r_getR7 30 (r1 := q0 + 5) hC hk0 5 (by decide) tw_1184 rfl rfl dX7_delayBy_30 ?_
    refine r_bipush 33 (v := 8) hC dX7_delayBy_33 (by decide) ?_
    refine r_iload_n 35 hC dX7_delayBy_35 rfl rfl ?_
    refine r_imul 36 hC dX7_delayBy_36 ?_
    refine r_iload 37 hC dX7_delayBy_37 rfl ?_
    refine r_iadd 39 hC dX7_delayBy_39 ?_
    refine r_iald 40 hC ((pm_s7 hG hk0).2.2.2.2.1) h.1 dX7_delayBy_40 ?_
    replace h := h.2
    refine r_goto 41 68 hC dX7_delayBy_41 (by decide) ?_
    exact r_iret 68 hC hE rfl dX7_delayBy_68 ⟨_, rfl, h⟩

def wX7_travels (G : pm_G) (q0 : Nat) (x1 : Int32) (x2 : Int32) (I : pm_I) (K : pm_I → Prop) : Prop :=
  wX7_of G (x1) (3) I (fun r11 I10 => vp_in (r11) 821 ∧ ((¬ (I10 (q0 + 1) (r11).toNatClampNeg) = (-1) → (vp_in (x2 + 0) 821 ∧ (∀ I12 : pm_I, I12 = pm_up I10 (q0 + 1) ((x2 + 0).toNatClampNeg) (1) → (vp_in (x2 + 4) 821 ∧ (∀ I13 : pm_I, I13 = pm_up I12 (q0 + 1) ((x2 + 4).toNatClampNeg) (I10 (q0 + 1) (r11).toNatClampNeg) → ((¬ (I10 (q0 + 1) (r11).toNatClampNeg) = (-1) → (wX7_delayBy G (q0) (x1) (I10 (q0 + 1) (r11).toNatClampNeg) I13 (fun r15 I14 => vp_in (x2 + 3) 821 ∧ (∀ I16 : pm_I, I16 = pm_up I14 (q0 + 1) ((x2 + 3).toNatClampNeg) ((I13 (q0 + 1) (0 : Int32).toNatClampNeg) + r15) → K I16)))) ∧ ((I10 (q0 + 1) (r11).toNatClampNeg) = (-1) → (vp_in (x2 + 3) 821 ∧ (∀ I17 : pm_I, I17 = pm_up I13 (q0 + 1) ((x2 + 3).toNatClampNeg) (-1) → K I17))))))))) ∧ ((I10 (q0 + 1) (r11).toNatClampNeg) = (-1) → (vp_in (x2 + 0) 821 ∧ (∀ I18 : pm_I, I18 = pm_up I10 (q0 + 1) ((x2 + 0).toNatClampNeg) (0) → (vp_in (x2 + 4) 821 ∧ (∀ I19 : pm_I, I19 = pm_up I18 (q0 + 1) ((x2 + 4).toNatClampNeg) (I10 (q0 + 1) (r11).toNatClampNeg) → ((¬ (I10 (q0 + 1) (r11).toNatClampNeg) = (-1) → (wX7_delayBy G (q0) (x1) (I10 (q0 + 1) (r11).toNatClampNeg) I19 (fun r21 I20 => vp_in (x2 + 3) 821 ∧ (∀ I22 : pm_I, I22 = pm_up I20 (q0 + 1) ((x2 + 3).toNatClampNeg) ((I19 (q0 + 1) (0 : Int32).toNatClampNeg) + r21) → K I22)))) ∧ ((I10 (q0 + 1) (r11).toNatClampNeg) = (-1) → (vp_in (x2 + 3) 821 ∧ (∀ I23 : pm_I, I23 = pm_up I19 (q0 + 1) ((x2 + 3).toNatClampNeg) (-1) → K I23)))))))))))

set_option maxRecDepth 20000 in
theorem sX7_travels {G : pm_G} {l : Launch} (hG : pm_ok G) (q0 : Nat) (x1 : Int32) (x2 : Int32) (I : pm_I) (K : pm_I → Prop) (hk0 : pm_k G q0 (.inl 7)) (h : wX7_travels G q0 x1 x2 I K) : pm_Ct G l yX7_travels cX7_travels 4 none { frames := 3, cells := 0, slots := 0, locals := 237 } [.ref (q0), .int (x1), .int (x2)] I (pm_Kv K) := by
  unfold wX7_travels at h
  refine pm_enter (by decide +kernel) hG rfl (Nat.le_of_ble_eq_true rfl) rfl (fun X hl hC hE => ?_)
  subst hl
  have hab : 0 ≤ 0 ∧ 0 ≤ 0 := ⟨Nat.le_refl 0, Nat.le_refl 0⟩
  have hC : pm_C G X cX7_travels 4 RX7 none { frames := 3, cells := 0, slots := 0, locals := 237 } := hC
  refine r_aload_n 0 hC dX7_travels_0 rfl rfl ?_
  refine r_getR7 1 (r1 := q0 + 1) hC hk0 1 (by decide) tw_1180 rfl rfl dX7_travels_1 ?_
  refine r_iload_n 4 hC dX7_travels_4 rfl rfl ?_
  refine r_iconst 5 (v := 3) hC dX7_travels_5 (by decide) ?_
  refine r_callS_i 6 (n := 2) [.int (x1), .int (3)] [.ref (q0 + 1)] hC dX7_travels_6 (by decide) (by decide) tw_1446 tw_135 ⟨by decide, by decide, by decide +kernel⟩ tw_1444 tw_1445 rfl rfl (sX7_of (l := pm_l X) hG (x1) (3) _ _ h) hab (Nat.le_of_ble_eq_true rfl) ?_
  clear h; intro r11 I10 h
  refine r_iald 9 hC ((pm_s7 hG hk0).1) h.1 dX7_travels_9 ?_
  replace h := h.2
  refine r_istore_n 10 [some (.ref (q0)), some (.int (x1)), some (.int (x2)), some (.int (I10 (q0 + 1) (r11).toNatClampNeg))] hC dX7_travels_10 rfl (by decide) rfl ?_
  refine r_aload_n 11 hC dX7_travels_11 rfl rfl ?_
  refine r_getR7 12 (r1 := q0 + 1) hC hk0 1 (by decide) tw_1180 rfl rfl dX7_travels_12 ?_
  refine r_iload_n 15 hC dX7_travels_15 rfl rfl ?_
  refine r_iconst 16 (v := 0) hC dX7_travels_16 (by decide) ?_
  refine r_iadd 17 hC dX7_travels_17 ?_
  refine r_iload_n 18 hC dX7_travels_18 rfl rfl ?_
  refine r_iconst 19 (v := -1) hC dX7_travels_19 (by decide) ?_
  refine r_icmp_ne 20 27 hC dX7_travels_20 (by decide) (fun hc => ?_) (fun hc => ?_)
  · replace h := h.1 hc
    refine r_iconst 27 (v := 1) hC dX7_travels_27 (by decide) ?_
    refine r_iast 28 hC ((pm_s7 hG hk0).1) h.1 dX7_travels_28 (fun I12 hI => ?_)
    replace h := h.2
    replace h := h I12 hI; clear hI
    refine r_aload_n 29 hC dX7_travels_29 rfl rfl ?_
    refine r_getR7 30 (r1 := q0 + 1) hC hk0 1 (by decide) tw_1180 rfl rfl dX7_travels_30 ?_
    refine r_iload_n 33 hC dX7_travels_33 rfl rfl ?_
    refine r_iconst 34 (v := 4) hC dX7_travels_34 (by decide) ?_
    refine r_iadd 35 hC dX7_travels_35 ?_
    refine r_iload_n 36 hC dX7_travels_36 rfl rfl ?_
    refine r_iast 37 hC ((pm_s7 hG hk0).1) h.1 dX7_travels_37 (fun I13 hI => ?_)
    replace h := h.2
    replace h := h I13 hI; clear hI
    refine r_aload_n 38 hC dX7_travels_38 rfl rfl ?_
    refine r_getR7 39 (r1 := q0 + 1) hC hk0 1 (by decide) tw_1180 rfl rfl dX7_travels_39 ?_
    refine r_iload_n 42 hC dX7_travels_42 rfl rfl ?_
    refine r_iconst 43 (v := 3) hC dX7_travels_43 (by decide) ?_
    refine r_iadd 44 hC dX7_travels_44 ?_
    refine r_iload_n 45 hC dX7_travels_45 rfl rfl ?_
    refine r_iconst 46 (v := -1) hC dX7_travels_46 (by decide) ?_
    refine r_icmp_ne 47 54 hC dX7_travels_47 (by decide) (fun hc => ?_) (fun hc => ?_)
    · replace h := h.1 hc
      refine r_aload_n 54 hC dX7_travels_54 rfl rfl ?_
      refine r_getR7 55 (r1 := q0 + 1) hC hk0 1 (by decide) tw_1180 rfl rfl dX7_travels_55 ?_
      refine r_iconst 58 (v := 0) hC dX7_travels_58 (by decide) ?_
      refine r_iald 59 hC ((pm_s7 hG hk0).1) (by unfold vp_in; decide) dX7_travels_59 ?_
      refine r_aload_n 60 hC dX7_travels_60 rfl rfl ?_
      refine r_iload_n 61 hC dX7_travels_61 rfl rfl ?_
      refine r_iload_n 62 hC dX7_travels_62 rfl rfl ?_
      refine r_callV_i 63 (n := 2) [.int (x1), .int (I10 (q0 + 1) (r11).toNatClampNeg)] [.int (I13 (q0 + 1) (0 : Int32).toNatClampNeg), .int (x2 + 3), .ref (q0 + 1)] hC hk0 rfl dX7_travels_63 (by decide) (by decide) tw_1575 tw_135 ⟨by decide, by decide, by decide +kernel⟩ tw_1572 tw_1574 tw_122 rfl rfl (sX7_delayBy (l := pm_l X) hG (q0) (x1) (I10 (q0 + 1) (r11).toNatClampNeg) _ _ hk0 h) hab (Nat.le_of_ble_eq_true rfl) ?_
      clear h; intro r15 I14 h
      refine r_iadd 66 hC dX7_travels_66 ?_
      refine r_iast 67 hC ((pm_s7 hG hk0).1) h.1 dX7_travels_67 (fun I16 hI => ?_)
      replace h := h.2
      replace h := h I16 hI; clear hI
      exact r_vret 68 hC hE dX7_travels_68 ⟨rfl, h⟩
    · replace h := h.2 hc
      refine r_iconst 50 (v := -1) hC dX7_travels_50 (by decide) ?_
      refine r_goto 51 67 hC dX7_travels_51 (by decide) ?_
      refine r_iast 67 hC ((pm_s7 hG hk0).1) h.1 dX7_travels_67 (fun I17 hI => ?_)
      replace h := h.2
      replace h := h I17 hI; clear hI
      exact r_vret 68 hC hE dX7_travels_68 ⟨rfl, h⟩
  · replace h := h.2 hc
    refine r_iconst 23 (v := 0) hC dX7_travels_23 (by decide) ?_
    refine r_goto 24 28 hC dX7_travels_24 (by decide) ?_
    refine r_iast 28 hC ((pm_s7 hG hk0).1) h.1 dX7_travels_28 (fun I18 hI => ?_)
    replace h := h.2
    replace h := h I18 hI; clear hI
    refine r_aload_n 29 hC dX7_travels_29 rfl rfl ?_
    refine r_getR7 30 (r1 := q0 + 1) hC hk0 1 (by decide) tw_1180 rfl rfl dX7_travels_30 ?_
    refine r_iload_n 33 hC dX7_travels_33 rfl rfl ?_
    refine r_iconst 34 (v := 4) hC dX7_travels_34 (by decide) ?_
    refine r_iadd 35 hC dX7_travels_35 ?_
    refine r_iload_n 36 hC dX7_travels_36 rfl rfl ?_
    refine r_iast 37 hC ((pm_s7 hG hk0).1) h.1 dX7_travels_37 (fun I19 hI => ?_)
    replace h := h.2
    replace h := h I19 hI; clear hI
    refine r_aload_n 38 hC dX7_travels_38 rfl rfl ?_
    refine r_getR7 39 (r1 := q0 + 1) hC hk0 1 (by decide) tw_1180 rfl rfl dX7_travels_39 ?_
    refine r_iload_n 42 hC dX7_travels_42 rfl rfl ?_
    refine r_iconst 43 (v := 3) hC dX7_travels_43 (by decide) ?_
    refine r_iadd 44 hC dX7_travels_44 ?_
    refine r_iload_n 45 hC dX7_travels_45 rfl rfl ?_
    refine r_iconst 46 (v := -1) hC dX7_travels_46 (by decide) ?_
    refine r_icmp_ne 47 54 hC dX7_travels_47 (by decide) (fun hc => ?_) (fun hc => ?_)
    · replace h := h.1 hc
      refine r_aload_n 54 hC dX7_travels_54 rfl rfl ?_
      refine r_getR7 55 (r1 := q0 + 1) hC hk0 1 (by decide) tw_1180 rfl rfl dX7_travels_55 ?_
      refine r_iconst 58 (v := 0) hC dX7_travels_58 (by decide) ?_
      refine r_iald 59 hC ((pm_s7 hG hk0).1) (by unfold vp_in; decide) dX7_travels_59 ?_
      refine r_aload_n 60 hC dX7_travels_60 rfl rfl ?_
      refine r_iload_n 61 hC dX7_travels_61 rfl rfl ?_
      refine r_iload_n 62 hC dX7_travels_62 rfl rfl ?_
      refine r_callV_i 63 (n := 2) [.int (x1), .int (I10 (q0 + 1) (r11).toNatClampNeg)] [.int (I19 (q0 + 1) (0 : Int32).toNatClampNeg), .int (x2 + 3), .ref (q0 + 1)] hC hk0 rfl dX7_travels_63 (by decide) (by decide) tw_1575 tw_135 ⟨by decide, by decide, by decide +kernel⟩ tw_1572 tw_1574 tw_122 rfl rfl (sX7_delayBy (l := pm_l X) hG (q0) (x1) (I10 (q0 + 1) (r11).toNatClampNeg) _ _ hk0 h) hab (Nat.le_of_ble_eq_true rfl) ?_
      clear h; intro r21 I20 h
      refine r_iadd 66 hC dX7_travels_66 ?_
      refine r_iast 67 hC ((pm_s7 hG hk0).1) h.1 dX7_travels_67 (fun I22 hI => ?_)
      replace h := h.2
      replace h := h I22 hI; clear hI
      exact r_vret 68 hC hE dX7_travels_68 ⟨rfl, h⟩
    · replace h := h.2 hc
      refine r_iconst 50 (v := -1) hC dX7_travels_50 (by decide) ?_
      refine r_goto 51 67 hC dX7_travels_51 (by decide) ?_
      refine r_iast 67 hC ((pm_s7 hG hk0).1) h.1 dX7_travels_67 (fun I23 hI => ?_)
      replace h := h.2
      replace h := h I23 hI; clear hI
      exact r_vret 68 hC hE dX7_travels_68 ⟨rfl, h⟩

def wX7_takesPath (G : pm_G) (q0 : Nat) (x1 : Int32) (x2 : Int32) (I : pm_I) (K : pm_I → Prop) : Prop :=
  wX7_of G (x1) (3) I (fun r11 I10 => vp_in (r11) 821 ∧ (∀ I12 : pm_I, I12 = pm_up I10 (q0 + 1) ((r11).toNatClampNeg) (x2) → (wX7_of G (x1) (12) I12 (fun r14 I13 => vp_in (r14) 821 ∧ (((I13 (q0 + 1) (r14).toNatClampNeg) ≤ 0 → (pm_lp2 (fun (P15 : Int32 → pm_I → Prop) (x17 : Int32) (I16 : pm_I) => wX7_undelivered G (q0) (x1) I16 (fun r19 I18 => (r19 ≤ x17 → K I18) ∧ (¬ r19 ≤ x17 → (wX7_message G (x1) (x17) I18 (fun r21 I20 => vp_in (r21 + 0) 821 ∧ ((¬ (I20 (q0 + 1) (r21 + 0).toNatClampNeg) = 0 → (P15 (x17 + 1) I20)) ∧ ((I20 (q0 + 1) (r21 + 0).toNatClampNeg) = 0 → (wX7_message G (x1) (x17) I20 (fun r23 I22 => wX7_travels G (q0) (x1) (r23) I22 (fun I24 => P15 (x17 + 1) I24)))))))))) (0) I13)) ∧ (¬ (I13 (q0 + 1) (r14).toNatClampNeg) ≤ 0 → (wX7_turnsKey G (q0) (x1) I13 (fun I25 => pm_lp2 (fun (P26 : Int32 → pm_I → Prop) (x28 : Int32) (I27 : pm_I) => wX7_undelivered G (q0) (x1) I27 (fun r30 I29 => (r30 ≤ x28 → K I29) ∧ (¬ r30 ≤ x28 → (wX7_message G (x1) (x28) I29 (fun r32 I31 => vp_in (r32 + 0) 821 ∧ ((¬ (I31 (q0 + 1) (r32 + 0).toNatClampNeg) = 0 → (P26 (x28 + 1) I31)) ∧ ((I31 (q0 + 1) (r32 + 0).toNatClampNeg) = 0 → (wX7_message G (x1) (x28) I31 (fun r34 I33 => wX7_travels G (q0) (x1) (r34) I33 (fun I35 => P26 (x28 + 1) I35)))))))))) (0) I25))))))))

set_option maxRecDepth 20000 in
theorem sX7_takesPath {G : pm_G} {l : Launch} (hG : pm_ok G) (q0 : Nat) (x1 : Int32) (x2 : Int32) (I : pm_I) (K : pm_I → Prop) (hk0 : pm_k G q0 (.inl 7)) (h : wX7_takesPath G q0 x1 x2 I K) : pm_Ct G l yX7_takesPath cX7_takesPath 4 none { frames := 4, cells := 0, slots := 0, locals := 324 } [.ref (q0), .int (x1), .int (x2)] I (pm_Kv K) := by
  unfold wX7_takesPath at h
  refine pm_enter (by decide +kernel) hG rfl (Nat.le_of_ble_eq_true rfl) rfl (fun X hl hC hE => ?_)
  subst hl
  have hab : 0 ≤ 0 ∧ 0 ≤ 0 := ⟨Nat.le_refl 0, Nat.le_refl 0⟩
  have hC : pm_C G X cX7_takesPath 4 RX7 none { frames := 4, cells := 0, slots := 0, locals := 324 } := hC
  refine r_aload_n 0 hC dX7_takesPath_0 rfl rfl ?_
  refine r_getR7 1 (r1 := q0 + 1) hC hk0 1 (by decide) tw_1180 rfl rfl dX7_takesPath_1 ?_
  refine r_iload_n 4 hC dX7_takesPath_4 rfl rfl ?_
  refine r_iconst 5 (v := 3) hC dX7_takesPath_5 (by decide) ?_
  refine r_callS_i 6 (n := 2) [.int (x1), .int (3)] [.ref (q0 + 1)] hC dX7_takesPath_6 (by decide) (by decide) tw_1446 tw_135 ⟨by decide, by decide, by decide +kernel⟩ tw_1444 tw_1445 rfl rfl (sX7_of (l := pm_l X) hG (x1) (3) _ _ h) hab (Nat.le_of_ble_eq_true rfl) ?_
  clear h; intro r11 I10 h
  refine r_iload_n 9 hC dX7_takesPath_9 rfl rfl ?_
  refine r_iast 10 hC ((pm_s7 hG hk0).1) h.1 dX7_takesPath_10 (fun I12 hI => ?_)
  replace h := h.2
  replace h := h I12 hI; clear hI
  refine r_aload_n 11 hC dX7_takesPath_11 rfl rfl ?_
  refine r_getR7 12 (r1 := q0 + 1) hC hk0 1 (by decide) tw_1180 rfl rfl dX7_takesPath_12 ?_
  refine r_iload_n 15 hC dX7_takesPath_15 rfl rfl ?_
  refine r_bipush 16 (v := 12) hC dX7_takesPath_16 (by decide) ?_
  refine r_callS_i 18 (n := 2) [.int (x1), .int (12)] [.ref (q0 + 1)] hC dX7_takesPath_18 (by decide) (by decide) tw_1446 tw_135 ⟨by decide, by decide, by decide +kernel⟩ tw_1444 tw_1445 rfl rfl (sX7_of (l := pm_l X) hG (x1) (12) _ _ h) hab (Nat.le_of_ble_eq_true rfl) ?_
  clear h; intro r14 I13 h
  refine r_iald 21 hC ((pm_s7 hG hk0).1) h.1 dX7_takesPath_21 ?_
  replace h := h.2
  refine r_if_le 22 30 hC dX7_takesPath_22 (by decide) (fun hc => ?_) (fun hc => ?_)
  · replace h := h.1 hc
    refine r_iconst 30 (v := 0) hC dX7_takesPath_30 (by decide) ?_
    refine r_istore_n 31 [some (.ref (q0)), some (.int (x1)), some (.int (x2)), some (.int (0))] hC dX7_takesPath_31 rfl (by decide) rfl ?_
    refine r_weak (ls' := [some (.ref (q0)), some (.int (x1)), none, some (.int (0))]) (And.intro rfl (And.intro rfl (And.intro rfl (trivial)))) ?_
    refine h (fun x17 I16 => pm_R G X 4 0 0 32 [some (.ref (q0)), some (.int (x1)), none, some (.int (x17))] [] I16) ?_
    clear h; intro x17 I16 h
    refine r_iload_n 32 hC dX7_takesPath_32 rfl rfl ?_
    refine r_aload_n 33 hC dX7_takesPath_33 rfl rfl ?_
    refine r_iload_n 34 hC dX7_takesPath_34 rfl rfl ?_
    refine r_callV_i 35 (n := 1) [.int (x1)] [.int (x17)] hC hk0 rfl dX7_takesPath_35 (by decide) (by decide) tw_1517 tw_135 ⟨by decide, by decide, by decide +kernel⟩ tw_1514 tw_1516 tw_115 rfl rfl (sX7_undelivered (l := pm_l X) hG (q0) (x1) _ _ hk0 h) hab (Nat.le_of_ble_eq_true rfl) ?_
    clear h; intro r19 I18 h
    refine r_icmp_ge 38 72 hC dX7_takesPath_38 (by decide) (fun hc => ?_) (fun hc => ?_)
    · replace h := h.1 hc
      exact r_vret 72 hC hE dX7_takesPath_72 ⟨rfl, h⟩
    · replace h := h.2 hc
      refine r_aload_n 41 hC dX7_takesPath_41 rfl rfl ?_
      refine r_getR7 42 (r1 := q0 + 1) hC hk0 1 (by decide) tw_1180 rfl rfl dX7_takesPath_42 ?_
      refine r_iload_n 45 hC dX7_takesPath_45 rfl rfl ?_
      refine r_iload_n 46 hC dX7_takesPath_46 rfl rfl ?_
      refine r_callS_i 47 (n := 2) [.int (x1), .int (x17)] [.ref (q0 + 1)] hC dX7_takesPath_47 (by decide) (by decide) tw_1520 tw_135 ⟨by decide, by decide, by decide +kernel⟩ tw_1518 tw_1519 rfl rfl (sX7_message (l := pm_l X) hG (x1) (x17) _ _ h) hab (Nat.le_of_ble_eq_true rfl) ?_
      clear h; intro r21 I20 h
      refine r_iconst 50 (v := 0) hC dX7_takesPath_50 (by decide) ?_
      refine r_iadd 51 hC dX7_takesPath_51 ?_
      refine r_iald 52 hC ((pm_s7 hG hk0).1) h.1 dX7_takesPath_52 ?_
      replace h := h.2
      refine r_if_ne 53 66 hC dX7_takesPath_53 (by decide) (fun hc => ?_) (fun hc => ?_)
      · replace h := h.1 hc
        refine r_iinc 66 (v := x17 + 1) [some (.ref (q0)), some (.int (x1)), none, some (.int (x17 + 1))] hC dX7_takesPath_66 rfl (by rfl) (by decide) rfl ?_
        refine r_goto 69 32 hC dX7_takesPath_69 (by decide) ?_
        exact h
      · replace h := h.2 hc
        refine r_aload_n 56 hC dX7_takesPath_56 rfl rfl ?_
        refine r_iload_n 57 hC dX7_takesPath_57 rfl rfl ?_
        refine r_iload_n 58 hC dX7_takesPath_58 rfl rfl ?_
        refine r_iload_n 59 hC dX7_takesPath_59 rfl rfl ?_
        refine r_callS_i 60 (n := 2) [.int (x1), .int (x17)] [.int (x1), .ref (q0)] hC dX7_takesPath_60 (by decide) (by decide) tw_1520 tw_135 ⟨by decide, by decide, by decide +kernel⟩ tw_1518 tw_1519 rfl rfl (sX7_message (l := pm_l X) hG (x1) (x17) _ _ h) hab (Nat.le_of_ble_eq_true rfl) ?_
        clear h; intro r23 I22 h
        refine r_callV_v 63 (n := 2) [.int (x1), .int (r23)] [] hC hk0 rfl dX7_takesPath_63 (by decide) (by decide) tw_1571 tw_135 ⟨by decide, by decide, by decide +kernel⟩ tw_1568 tw_1570 tw_121 rfl rfl (sX7_travels (l := pm_l X) hG (q0) (x1) (r23) _ _ hk0 h) hab (Nat.le_of_ble_eq_true rfl) ?_
        clear h; intro I24 h
        refine r_iinc 66 (v := x17 + 1) [some (.ref (q0)), some (.int (x1)), none, some (.int (x17 + 1))] hC dX7_takesPath_66 rfl (by rfl) (by decide) rfl ?_
        refine r_goto 69 32 hC dX7_takesPath_69 (by decide) ?_
        exact h
  · replace h := h.2 hc
    refine r_aload_n 25 hC dX7_takesPath_25 rfl rfl ?_
    refine r_iload_n 26 hC dX7_takesPath_26 rfl rfl ?_
    refine r_callV_v 27 (n := 1) [.int (x1)] [] hC hk0 rfl dX7_takesPath_27 (by decide) (by decide) tw_1567 tw_135 ⟨by decide, by decide, by decide +kernel⟩ tw_1564 tw_1566 tw_120 rfl rfl (sX7_turnsKey (l := pm_l X) hG (q0) (x1) _ _ hk0 h) hab (Nat.le_of_ble_eq_true rfl) ?_
    clear h; intro I25 h
    refine r_iconst 30 (v := 0) hC dX7_takesPath_30 (by decide) ?_
    refine r_istore_n 31 [some (.ref (q0)), some (.int (x1)), some (.int (x2)), some (.int (0))] hC dX7_takesPath_31 rfl (by decide) rfl ?_
    refine r_weak (ls' := [some (.ref (q0)), some (.int (x1)), none, some (.int (0))]) (And.intro rfl (And.intro rfl (And.intro rfl (trivial)))) ?_
    refine h (fun x28 I27 => pm_R G X 4 0 0 32 [some (.ref (q0)), some (.int (x1)), none, some (.int (x28))] [] I27) ?_
    clear h; intro x28 I27 h
    refine r_iload_n 32 hC dX7_takesPath_32 rfl rfl ?_
    refine r_aload_n 33 hC dX7_takesPath_33 rfl rfl ?_
    refine r_iload_n 34 hC dX7_takesPath_34 rfl rfl ?_
    refine r_callV_i 35 (n := 1) [.int (x1)] [.int (x28)] hC hk0 rfl dX7_takesPath_35 (by decide) (by decide) tw_1517 tw_135 ⟨by decide, by decide, by decide +kernel⟩ tw_1514 tw_1516 tw_115 rfl rfl (sX7_undelivered (l := pm_l X) hG (q0) (x1) _ _ hk0 h) hab (Nat.le_of_ble_eq_true rfl) ?_
    clear h; intro r30 I29 h
    refine r_icmp_ge 38 72 hC dX7_takesPath_38 (by decide) (fun hc => ?_) (fun hc => ?_)
    · replace h := h.1 hc
      exact r_vret 72 hC hE dX7_takesPath_72 ⟨rfl, h⟩
    · replace h := h.2 hc
      refine r_aload_n 41 hC dX7_takesPath_41 rfl rfl ?_
      refine r_getR7 42 (r1 := q0 + 1) hC hk0 1 (by decide) tw_1180 rfl rfl dX7_takesPath_42 ?_
      refine r_iload_n 45 hC dX7_takesPath_45 rfl rfl ?_
      refine r_iload_n 46 hC dX7_takesPath_46 rfl rfl ?_
      refine r_callS_i 47 (n := 2) [.int (x1), .int (x28)] [.ref (q0 + 1)] hC dX7_takesPath_47 (by decide) (by decide) tw_1520 tw_135 ⟨by decide, by decide, by decide +kernel⟩ tw_1518 tw_1519 rfl rfl (sX7_message (l := pm_l X) hG (x1) (x28) _ _ h) hab (Nat.le_of_ble_eq_true rfl) ?_
      clear h; intro r32 I31 h
      refine r_iconst 50 (v := 0) hC dX7_takesPath_50 (by decide) ?_
      refine r_iadd 51 hC dX7_takesPath_51 ?_
      refine r_iald 52 hC ((pm_s7 hG hk0).1) h.1 dX7_takesPath_52 ?_
      replace h := h.2
      refine r_if_ne 53 66 hC dX7_takesPath_53 (by decide) (fun hc => ?_) (fun hc => ?_)
      · replace h := h.1 hc
        refine r_iinc 66 (v := x28 + 1) [some (.ref (q0)), some (.int (x1)), none, some (.int (x28 + 1))] hC dX7_takesPath_66 rfl (by rfl) (by decide) rfl ?_
        refine r_goto 69 32 hC dX7_takesPath_69 (by decide) ?_
        exact h
      · replace h := h.2 hc
        refine r_aload_n 56 hC dX7_takesPath_56 rfl rfl ?_
        refine r_iload_n 57 hC dX7_takesPath_57 rfl rfl ?_
        refine r_iload_n 58 hC dX7_takesPath_58 rfl rfl ?_
        refine r_iload_n 59 hC dX7_takesPath_59 rfl rfl ?_
        refine r_callS_i 60 (n := 2) [.int (x1), .int (x28)] [.int (x1), .ref (q0)] hC dX7_takesPath_60 (by decide) (by decide) tw_1520 tw_135 ⟨by decide, by decide, by decide +kernel⟩ tw_1518 tw_1519 rfl rfl (sX7_message (l := pm_l X) hG (x1) (x28) _ _ h) hab (Nat.le_of_ble_eq_true rfl) ?_
        clear h; intro r34 I33 h
        refine r_callV_v 63 (n := 2) [.int (x1), .int (r34)] [] hC hk0 rfl dX7_takesPath_63 (by decide) (by decide) tw_1571 tw_135 ⟨by decide, by decide, by decide +kernel⟩ tw_1568 tw_1570 tw_121 rfl rfl (sX7_travels (l := pm_l X) hG (q0) (x1) (r34) _ _ hk0 h) hab (Nat.le_of_ble_eq_true rfl) ?_
        clear h; intro I35 h
        refine r_iinc 66 (v := x28 + 1) [some (.ref (q0)), some (.int (x1)), none, some (.int (x28 + 1))] hC dX7_takesPath_66 rfl (by rfl) (by decide) rfl ?_
        refine r_goto 69 32 hC dX7_takesPath_69 (by decide) ?_
        exact h

def wX7_delivers (G : pm_G) (q0 : Nat) (x1 : Int32) (I : pm_I) (K : Int32 → pm_I → Prop) : Prop :=
  pm_lp2 (fun (P10 : Int32 → pm_I → Prop) (x12 : Int32) (I11 : pm_I) => wX7_undelivered G (q0) (x1) I11 (fun r14 I13 => (r14 ≤ x12 → (pm_lp2 (fun (P15 : Int32 → pm_I → Prop) (x17 : Int32) (I16 : pm_I) => wX7_undelivered G (q0) (x1) I16 (fun r19 I18 => (r19 ≤ 0 → (K (x17) I18)) ∧ (¬ r19 ≤ 0 → (wX7_message G (x1) (0) I18 (fun r21 I20 => vp_in (r21 + 0) 821 ∧ ((¬ (I20 (q0 + 1) (r21 + 0).toNatClampNeg) = 2 → (K (x17) I20)) ∧ ((I20 (q0 + 1) (r21 + 0).toNatClampNeg) = 2 → (wX7_of G (x1) (10) I20 (fun r23 I22 => wX7_message G (x1) (0) I22 (fun r25 I24 => vp_in (r25 + 1) 821 ∧ (vp_in (r23) 821 ∧ (∀ I26 : pm_I, I26 = pm_up I24 (q0 + 1) ((r23).toNatClampNeg) (I24 (q0 + 1) (r25 + 1).toNatClampNeg) → (wX7_of G (x1) (9) I26 (fun r28 I27 => wX7_of G (x1) (9) I27 (fun r30 I29 => vp_in (r30) 821 ∧ (wX7_message G (x1) (0) I29 (fun r32 I31 => vp_in (r32 + 1) 821 ∧ (vp_in (r28) 821 ∧ (∀ I33 : pm_I, I33 = pm_up I31 (q0 + 1) ((r28).toNatClampNeg) ((31 * (I29 (q0 + 1) (r30).toNatClampNeg)) + (I31 (q0 + 1) (r32 + 1).toNatClampNeg)) → (wX7_message G (x1) (0) I33 (fun r35 I34 => pm_lp2 (fun (P36 : Int32 → pm_I → Prop) (x38 : Int32) (I37 : pm_I) => wX7_undelivered G (q0) (x1) I37 (fun r40 I39 => wX7_message G (x1) (r40 - 1) I39 (fun r42 I41 => (r42 ≤ x38 → (wX7_of G (x1) (8) I41 (fun r44 I43 => vp_in (r44) 821 ∧ (vp_in (r44) 821 ∧ (∀ I45 : pm_I, I45 = pm_up I43 (q0 + 1) ((r44).toNatClampNeg) ((I43 (q0 + 1) (r44).toNatClampNeg) + 1) → (P15 (x17 + 1) I45)))))) ∧ (¬ r42 ≤ x38 → (vp_in (x38 + 5) 821 ∧ (vp_in (x38) 821 ∧ (∀ I46 : pm_I, I46 = pm_up I41 (q0 + 1) ((x38).toNatClampNeg) (I41 (q0 + 1) (x38 + 5).toNatClampNeg) → (P36 (x38 + 1) I46)))))))) (r35) I34))))))))))))))))))))) (0) I13)) ∧ (¬ r14 ≤ x12 → (wX7_message G (x1) (x12) I13 (fun r48 I47 => vp_in (r48 + 0) 821 ∧ ((¬ (I47 (q0 + 1) (r48 + 0).toNatClampNeg) = 1 → (P10 (x12 + 1) I47)) ∧ ((I47 (q0 + 1) (r48 + 0).toNatClampNeg) = 1 → (vp_in (r48 + 3) 821 ∧ ((¬ (I47 (q0 + 1) (r48 + 3).toNatClampNeg) = (I47 (q0 + 1) (0 : Int32).toNatClampNeg) → (P10 (x12 + 1) I47)) ∧ ((I47 (q0 + 1) (r48 + 3).toNatClampNeg) = (I47 (q0 + 1) (0 : Int32).toNatClampNeg) → (vp_in (r48 + 0) 821 ∧ (∀ I49 : pm_I, I49 = pm_up I47 (q0 + 1) ((r48 + 0).toNatClampNeg) (2) → (P10 (x12 + 1) I49))))))))))))) (0) I

set_option maxRecDepth 20000 in
theorem sX7_delivers {G : pm_G} {l : Launch} (hG : pm_ok G) (q0 : Nat) (x1 : Int32) (I : pm_I) (K : Int32 → pm_I → Prop) (hk0 : pm_k G q0 (.inl 7)) (h : wX7_delivers G q0 x1 I K) : pm_Ct G l yX7_delivers cX7_delivers 4 (some .int) { frames := 3, cells := 0, slots := 0, locals := 234 } [.ref (q0), .int (x1)] I (pm_Ki K) := by
  unfold wX7_delivers at h
  refine pm_enter (by decide +kernel) hG rfl (Nat.le_of_ble_eq_true rfl) rfl (fun X hl hC hE => ?_)
  subst hl
  have hab : 0 ≤ 0 ∧ 0 ≤ 0 := ⟨Nat.le_refl 0, Nat.le_refl 0⟩
  have hC : pm_C G X cX7_delivers 4 RX7 (some .int) { frames := 3, cells := 0, slots := 0, locals := 234 } := hC
  refine r_iconst 0 (v := 0) hC dX7_delivers_0 (by decide) ?_
  refine r_istore_n 1 [some (.ref (q0)), some (.int (x1)), some (.int (0)), none] hC dX7_delivers_1 rfl (by decide) rfl ?_
  refine h (fun x12 I11 => pm_R G X 4 0 0 2 [some (.ref (q0)), some (.int (x1)), some (.int (x12)), none] [] I11) ?_
  clear h; intro x12 I11 h
  refine r_iload_n 2 hC dX7_delivers_2 rfl rfl ?_
  refine r_aload_n 3 hC dX7_delivers_3 rfl rfl ?_
  refine r_iload_n 4 hC dX7_delivers_4 rfl rfl ?_
  refine r_callV_i 5 (n := 1) [.int (x1)] [.int (x12)] hC hk0 rfl dX7_delivers_5 (by decide) (by decide) tw_1517 tw_135 ⟨by decide, by decide, by decide +kernel⟩ tw_1514 tw_1516 tw_115 rfl rfl (sX7_undelivered (l := pm_l X) hG (q0) (x1) _ _ hk0 h) hab (Nat.le_of_ble_eq_true rfl) ?_
  clear h; intro r14 I13 h
  refine r_icmp_ge 8 61 hC dX7_delivers_8 (by decide) (fun hc => ?_) (fun hc => ?_)
  · replace h := h.1 hc
    refine r_iconst 61 (v := 0) hC dX7_delivers_61 (by decide) ?_
    refine r_istore_n 62 [some (.ref (q0)), some (.int (x1)), some (.int (0)), none] hC dX7_delivers_62 rfl (by decide) rfl ?_
    refine h (fun x17 I16 => pm_R G X 4 0 0 63 [some (.ref (q0)), some (.int (x1)), some (.int (x17)), none] [] I16) ?_
    clear h; intro x17 I16 h
    refine r_aload_n 63 hC dX7_delivers_63 rfl rfl ?_
    refine r_iload_n 64 hC dX7_delivers_64 rfl rfl ?_
    refine r_callV_i 65 (n := 1) [.int (x1)] [] hC hk0 rfl dX7_delivers_65 (by decide) (by decide) tw_1517 tw_135 ⟨by decide, by decide, by decide +kernel⟩ tw_1514 tw_1516 tw_115 rfl rfl (sX7_undelivered (l := pm_l X) hG (q0) (x1) _ _ hk0 h) hab (Nat.le_of_ble_eq_true rfl) ?_
    clear h; intro r19 I18 h
    refine r_if_le 68 210 hC dX7_delivers_68 (by decide) (fun hc => ?_) (fun hc => ?_)
    · replace h := h.1 hc
      refine r_iload_n 210 hC dX7_delivers_210 rfl rfl ?_
      exact r_iret 211 hC hE rfl dX7_delivers_211 ⟨_, rfl, h⟩
    · replace h := h.2 hc
      refine r_aload_n 71 hC dX7_delivers_71 rfl rfl ?_
      refine r_getR7 72 (r1 := q0 + 1) hC hk0 1 (by decide) tw_1180 rfl rfl dX7_delivers_72 ?_
      refine r_iload_n 75 hC dX7_delivers_75 rfl rfl ?_
      refine r_iconst 76 (v := 0) hC dX7_delivers_76 (by decide) ?_
      refine r_callS_i 77 (n := 2) [.int (x1), .int (0)] [.ref (q0 + 1)] hC dX7_delivers_77 (by decide) (by decide) tw_1520 tw_135 ⟨by decide, by decide, by decide +kernel⟩ tw_1518 tw_1519 rfl rfl (sX7_message (l := pm_l X) hG (x1) (0) _ _ h) hab (Nat.le_of_ble_eq_true rfl) ?_
      clear h; intro r21 I20 h
      refine r_iconst 80 (v := 0) hC dX7_delivers_80 (by decide) ?_
      refine r_iadd 81 hC dX7_delivers_81 ?_
      refine r_iald 82 hC ((pm_s7 hG hk0).1) h.1 dX7_delivers_82 ?_
      replace h := h.2
      refine r_iconst 83 (v := 2) hC dX7_delivers_83 (by decide) ?_
      refine r_icmp_ne 84 210 hC dX7_delivers_84 (by decide) (fun hc => ?_) (fun hc => ?_)
      · replace h := h.1 hc
        refine r_iload_n 210 hC dX7_delivers_210 rfl rfl ?_
        exact r_iret 211 hC hE rfl dX7_delivers_211 ⟨_, rfl, h⟩
      · replace h := h.2 hc
        refine r_aload_n 87 hC dX7_delivers_87 rfl rfl ?_
        refine r_getR7 88 (r1 := q0 + 1) hC hk0 1 (by decide) tw_1180 rfl rfl dX7_delivers_88 ?_
        refine r_iload_n 91 hC dX7_delivers_91 rfl rfl ?_
        refine r_bipush 92 (v := 10) hC dX7_delivers_92 (by decide) ?_
        refine r_callS_i 94 (n := 2) [.int (x1), .int (10)] [.ref (q0 + 1)] hC dX7_delivers_94 (by decide) (by decide) tw_1446 tw_135 ⟨by decide, by decide, by decide +kernel⟩ tw_1444 tw_1445 rfl rfl (sX7_of (l := pm_l X) hG (x1) (10) _ _ h) hab (Nat.le_of_ble_eq_true rfl) ?_
        clear h; intro r23 I22 h
        refine r_aload_n 97 hC dX7_delivers_97 rfl rfl ?_
        refine r_getR7 98 (r1 := q0 + 1) hC hk0 1 (by decide) tw_1180 rfl rfl dX7_delivers_98 ?_
        refine r_iload_n 101 hC dX7_delivers_101 rfl rfl ?_
        refine r_iconst 102 (v := 0) hC dX7_delivers_102 (by decide) ?_
        refine r_callS_i 103 (n := 2) [.int (x1), .int (0)] [.ref (q0 + 1), .int (r23), .ref (q0 + 1)] hC dX7_delivers_103 (by decide) (by decide) tw_1520 tw_135 ⟨by decide, by decide, by decide +kernel⟩ tw_1518 tw_1519 rfl rfl (sX7_message (l := pm_l X) hG (x1) (0) _ _ h) hab (Nat.le_of_ble_eq_true rfl) ?_
        clear h; intro r25 I24 h
        refine r_iconst 106 (v := 1) hC dX7_delivers_106 (by decide) ?_
        refine r_iadd 107 hC dX7_delivers_107 ?_
        refine r_iald 108 hC ((pm_s7 hG hk0).1) h.1 dX7_delivers_108 ?_
        replace h := h.2
        refine r_iast 109 hC ((pm_s7 hG hk0).1) h.1 dX7_delivers_109 (fun I26 hI => ?_)
        replace h := h.2
        replace h := h I26 hI; clear hI
        refine r_aload_n 110 hC dX7_delivers_110 rfl rfl ?_
        refine r_getR7 111 (r1 := q0 + 1) hC hk0 1 (by decide) tw_1180 rfl rfl dX7_delivers_111 ?_
        refine r_iload_n 114 hC dX7_delivers_114 rfl rfl ?_
        refine r_bipush 115 (v := 9) hC dX7_delivers_115 (by decide) ?_
        refine r_callS_i 117 (n := 2) [.int (x1), .int (9)] [.ref (q0 + 1)] hC dX7_delivers_117 (by decide) (by decide) tw_1446 tw_135 ⟨by decide, by decide, by decide +kernel⟩ tw_1444 tw_1445 rfl rfl (sX7_of (l := pm_l X) hG (x1) (9) _ _ h) hab (Nat.le_of_ble_eq_true rfl) ?_
        clear h; intro r28 I27 h
        refine r_bipush 120 (v := 31) hC dX7_delivers_120 (by decide) ?_
        refine r_aload_n 122 hC dX7_delivers_122 rfl rfl ?_
        refine r_getR7 123 (r1 := q0 + 1) hC hk0 1 (by decide) tw_1180 rfl rfl dX7_delivers_123 ?_
        refine r_iload_n 126 hC dX7_delivers_126 rfl rfl ?_
        refine r_bipush 127 (v := 9) hC dX7_delivers_127 (by decide) ?_
        refine r_callS_i 129 (n := 2) [.int (x1), .int (9)] [.ref (q0 + 1), .int (31), .int (r28), .ref (q0 + 1)] hC dX7_delivers_129 (by decide) (by decide) tw_1446 tw_135 ⟨by decide, by decide, by decide +kernel⟩ tw_1444 tw_1445 rfl rfl (sX7_of (l := pm_l X) hG (x1) (9) _ _ h) hab (Nat.le_of_ble_eq_true rfl) ?_
        clear h; intro r30 I29 h
        refine r_iald 132 hC ((pm_s7 hG hk0).1) h.1 dX7_delivers_132 ?_
        replace h := h.2
        refine r_imul 133 hC dX7_delivers_133 ?_
        refine r_aload_n 134 hC dX7_delivers_134 rfl rfl ?_
        refine r_getR7 135 (r1 := q0 + 1) hC hk0 1 (by decide) tw_1180 rfl rfl dX7_delivers_135 ?_
        refine r_iload_n 138 hC dX7_delivers_138 rfl rfl ?_
        refine r_iconst 139 (v := 0) hC dX7_delivers_139 (by decide) ?_
        refine r_callS_i 140 (n := 2) [.int (x1), .int (0)] [.ref (q0 + 1), .int (31 * (I29 (q0 + 1) (r30).toNatClampNeg)), .int (r28), .ref (q0 + 1)] hC dX7_delivers_140 (by decide) (by decide) tw_1520 tw_135 ⟨by decide, by decide, by decide +kernel⟩ tw_1518 tw_1519 rfl rfl (sX7_message (l := pm_l X) hG (x1) (0) _ _ h) hab (Nat.le_of_ble_eq_true rfl) ?_
        clear h; intro r32 I31 h
        refine r_iconst 143 (v := 1) hC dX7_delivers_143 (by decide) ?_
        refine r_iadd 144 hC dX7_delivers_144 ?_
        refine r_iald 145 hC ((pm_s7 hG hk0).1) h.1 dX7_delivers_145 ?_
        replace h := h.2
        refine r_iadd 146 hC dX7_delivers_146 ?_
        refine r_iast 147 hC ((pm_s7 hG hk0).1) h.1 dX7_delivers_147 (fun I33 hI => ?_)
        replace h := h.2
        replace h := h I33 hI; clear hI
        refine r_iload_n 148 hC dX7_delivers_148 rfl rfl ?_
        refine r_iconst 149 (v := 0) hC dX7_delivers_149 (by decide) ?_
        refine r_callS_i 150 (n := 2) [.int (x1), .int (0)] [] hC dX7_delivers_150 (by decide) (by decide) tw_1520 tw_135 ⟨by decide, by decide, by decide +kernel⟩ tw_1518 tw_1519 rfl rfl (sX7_message (l := pm_l X) hG (x1) (0) _ _ h) hab (Nat.le_of_ble_eq_true rfl) ?_
        clear h; intro r35 I34 h
        refine r_istore_n 153 [some (.ref (q0)), some (.int (x1)), some (.int (x17)), some (.int (r35))] hC dX7_delivers_153 rfl (by decide) rfl ?_
        refine h (fun x38 I37 => pm_R G X 4 0 0 154 [some (.ref (q0)), some (.int (x1)), some (.int (x17)), some (.int (x38))] [] I37) ?_
        clear h; intro x38 I37 h
        refine r_iload_n 154 hC dX7_delivers_154 rfl rfl ?_
        refine r_iload_n 155 hC dX7_delivers_155 rfl rfl ?_
        refine r_aload_n 156 hC dX7_delivers_156 rfl rfl ?_
        refine r_iload_n 157 hC dX7_delivers_157 rfl rfl ?_
        refine r_callV_i 158 (n := 1) [.int (x1)] [.int (x1), .int (x38)] hC hk0 rfl dX7_delivers_158 (by decide) (by decide) tw_1517 tw_135 ⟨by decide, by decide, by decide +kernel⟩ tw_1514 tw_1516 tw_115 rfl rfl (sX7_undelivered (l := pm_l X) hG (q0) (x1) _ _ hk0 h) hab (Nat.le_of_ble_eq_true rfl) ?_
        clear h; intro r40 I39 h
        refine r_iconst 161 (v := 1) hC dX7_delivers_161 (by decide) ?_
        refine r_isub 162 hC dX7_delivers_162 ?_
        refine r_callS_i 163 (n := 2) [.int (x1), .int (r40 - 1)] [.int (x38)] hC dX7_delivers_163 (by decide) (by decide) tw_1520 tw_135 ⟨by decide, by decide, by decide +kernel⟩ tw_1518 tw_1519 rfl rfl (sX7_message (l := pm_l X) hG (x1) (r40 - 1) _ _ h) hab (Nat.le_of_ble_eq_true rfl) ?_
        clear h; intro r42 I41 h
        refine r_icmp_ge 166 189 hC dX7_delivers_166 (by decide) (fun hc => ?_) (fun hc => ?_)
        · replace h := h.1 hc
          refine r_aload_n 189 hC dX7_delivers_189 rfl rfl ?_
          refine r_getR7 190 (r1 := q0 + 1) hC hk0 1 (by decide) tw_1180 rfl rfl dX7_delivers_190 ?_
          refine r_iload_n 193 hC dX7_delivers_193 rfl rfl ?_
          refine r_bipush 194 (v := 8) hC dX7_delivers_194 (by decide) ?_
          refine r_callS_i 196 (n := 2) [.int (x1), .int (8)] [.ref (q0 + 1)] hC dX7_delivers_196 (by decide) (by decide) tw_1446 tw_135 ⟨by decide, by decide, by decide +kernel⟩ tw_1444 tw_1445 rfl rfl (sX7_of (l := pm_l X) hG (x1) (8) _ _ h) hab (Nat.le_of_ble_eq_true rfl) ?_
          clear h; intro r44 I43 h
          refine r_dup2 199 hC dX7_delivers_199 rfl rfl ?_
          refine r_iald 200 hC ((pm_s7 hG hk0).1) h.1 dX7_delivers_200 ?_
          replace h := h.2
          refine r_iconst 201 (v := 1) hC dX7_delivers_201 (by decide) ?_
          refine r_iadd 202 hC dX7_delivers_202 ?_
          refine r_iast 203 hC ((pm_s7 hG hk0).1) h.1 dX7_delivers_203 (fun I45 hI => ?_)
          replace h := h.2
          replace h := h I45 hI; clear hI
          refine r_iinc 204 (v := x17 + 1) [some (.ref (q0)), some (.int (x1)), some (.int (x17 + 1)), some (.int (x38))] hC dX7_delivers_204 rfl (by rfl) (by decide) rfl ?_
          refine r_goto 207 63 hC dX7_delivers_207 (by decide) ?_
          refine r_weak (ls' := [some (.ref (q0)), some (.int (x1)), some (.int (x17 + 1)), none]) (And.intro rfl (And.intro rfl (And.intro rfl (trivial)))) ?_
          exact h
        · replace h := h.2 hc
          refine r_aload_n 169 hC dX7_delivers_169 rfl rfl ?_
          refine r_getR7 170 (r1 := q0 + 1) hC hk0 1 (by decide) tw_1180 rfl rfl dX7_delivers_170 ?_
          refine r_iload_n 173 hC dX7_delivers_173 rfl rfl ?_
          refine r_aload_n 174 hC dX7_delivers_174 rfl rfl ?_
          refine r_getR7 175 (r1 := q0 + 1) hC hk0 1 (by decide) tw_1180 rfl rfl dX7_delivers_175 ?_
          refine r_iload_n 178 hC dX7_delivers_178 rfl rfl ?_
          refine r_iconst 179 (v := 5) hC dX7_delivers_179 (by decide) ?_
          refine r_iadd 180 hC dX7_delivers_180 ?_
          refine r_iald 181 hC ((pm_s7 hG hk0).1) h.1 dX7_delivers_181 ?_
          replace h := h.2
          refine r_iast 182 hC ((pm_s7 hG hk0).1) h.1 dX7_delivers_182 (fun I46 hI => ?_)
          replace h := h.2
          replace h := h I46 hI; clear hI
          refine r_iinc 183 (v := x38 + 1) [some (.ref (q0)), some (.int (x1)), some (.int (x17)), some (.int (x38 + 1))] hC dX7_delivers_183 rfl (by rfl) (by decide) rfl ?_
          refine r_goto 186 154 hC dX7_delivers_186 (by decide) ?_
          exact h
  · replace h := h.2 hc
    refine r_iload_n 11 hC dX7_delivers_11 rfl rfl ?_
    refine r_iload_n 12 hC dX7_delivers_12 rfl rfl ?_
    refine r_callS_i 13 (n := 2) [.int (x1), .int (x12)] [] hC dX7_delivers_13 (by decide) (by decide) tw_1520 tw_135 ⟨by decide, by decide, by decide +kernel⟩ tw_1518 tw_1519 rfl rfl (sX7_message (l := pm_l X) hG (x1) (x12) _ _ h) hab (Nat.le_of_ble_eq_true rfl) ?_
    clear h; intro r48 I47 h
    refine r_istore_n 16 [some (.ref (q0)), some (.int (x1)), some (.int (x12)), some (.int (r48))] hC dX7_delivers_16 rfl (by decide) rfl ?_
    refine r_aload_n 17 hC dX7_delivers_17 rfl rfl ?_
    refine r_getR7 18 (r1 := q0 + 1) hC hk0 1 (by decide) tw_1180 rfl rfl dX7_delivers_18 ?_
    refine r_iload_n 21 hC dX7_delivers_21 rfl rfl ?_
    refine r_iconst 22 (v := 0) hC dX7_delivers_22 (by decide) ?_
    refine r_iadd 23 hC dX7_delivers_23 ?_
    refine r_iald 24 hC ((pm_s7 hG hk0).1) h.1 dX7_delivers_24 ?_
    replace h := h.2
    refine r_iconst 25 (v := 1) hC dX7_delivers_25 (by decide) ?_
    refine r_icmp_ne 26 55 hC dX7_delivers_26 (by decide) (fun hc => ?_) (fun hc => ?_)
    · replace h := h.1 hc
      refine r_iinc 55 (v := x12 + 1) [some (.ref (q0)), some (.int (x1)), some (.int (x12 + 1)), some (.int (r48))] hC dX7_delivers_55 rfl (by rfl) (by decide) rfl ?_
      refine r_goto 58 2 hC dX7_delivers_58 (by decide) ?_
      refine r_weak (ls' := [some (.ref (q0)), some (.int (x1)), some (.int (x12 + 1)), none]) (And.intro rfl (And.intro rfl (And.intro rfl (trivial)))) ?_
      exact h
    · replace h := h.2 hc
      refine r_aload_n 29 hC dX7_delivers_29 rfl rfl ?_
      refine r_getR7 30 (r1 := q0 + 1) hC hk0 1 (by decide) tw_1180 rfl rfl dX7_delivers_30 ?_
      refine r_iload_n 33 hC dX7_delivers_33 rfl rfl ?_
      refine r_iconst 34 (v := 3) hC dX7_delivers_34 (by decide) ?_
      refine r_iadd 35 hC dX7_delivers_35 ?_
      refine r_iald 36 hC ((pm_s7 hG hk0).1) h.1 dX7_delivers_36 ?_
      replace h := h.2
      refine r_aload_n 37 hC dX7_delivers_37 rfl rfl ?_
      refine r_getR7 38 (r1 := q0 + 1) hC hk0 1 (by decide) tw_1180 rfl rfl dX7_delivers_38 ?_
      refine r_iconst 41 (v := 0) hC dX7_delivers_41 (by decide) ?_
      refine r_iald 42 hC ((pm_s7 hG hk0).1) (by unfold vp_in; decide) dX7_delivers_42 ?_
      refine r_icmp_ne 43 55 hC dX7_delivers_43 (by decide) (fun hc => ?_) (fun hc => ?_)
      · replace h := h.1 hc
        refine r_iinc 55 (v := x12 + 1) [some (.ref (q0)), some (.int (x1)), some (.int (x12 + 1)), some (.int (r48))] hC dX7_delivers_55 rfl (by rfl) (by decide) rfl ?_
        refine r_goto 58 2 hC dX7_delivers_58 (by decide) ?_
        refine r_weak (ls' := [some (.ref (q0)), some (.int (x1)), some (.int (x12 + 1)), none]) (And.intro rfl (And.intro rfl (And.intro rfl (trivial)))) ?_
        exact h
      · replace h := h.2 hc
        refine r_aload_n 46 hC dX7_delivers_46 rfl rfl ?_
        refine r_getR7 47 (r1 := q0 + 1) hC hk0 1 (by decide) tw_1180 rfl rfl dX7_delivers_47 ?_
        refine r_iload_n 50 hC dX7_delivers_50 rfl rfl ?_
        refine r_iconst 51 (v := 0) hC dX7_delivers_51 (by decide) ?_
        refine r_iadd 52 hC dX7_delivers_52 ?_
        refine r_iconst 53 (v := 2) hC dX7_delivers_53 (by decide) ?_
        refine r_iast 54 hC ((pm_s7 hG hk0).1) h.1 dX7_delivers_54 (fun I49 hI => ?_)
        replace h := h.2
        replace h := h I49 hI; clear hI
        refine r_iinc 55 (v := x12 + 1) [some (.ref (q0)), some (.int (x1)), some (.int (x12 + 1)), some (.int (r48))] hC dX7_delivers_55 rfl (by rfl) (by decide) rfl ?_
        refine r_goto 58 2 hC dX7_delivers_58 (by decide) ?_
        refine r_weak (ls' := [some (.ref (q0)), some (.int (x1)), some (.int (x12 + 1)), none]) (And.intro rfl (And.intro rfl (And.intro rfl (trivial)))) ?_
        exact h

def wX7_probes (G : pm_G) (q0 : Nat) (x1 : Int32) (I : pm_I) (K : pm_I → Prop) : Prop :=
  wX7_of G (x1) (3) I (fun r11 I10 => vp_in (r11) 821 ∧ (((I10 (q0 + 1) (r11).toNatClampNeg) = 100 → K I10) ∧ (¬ (I10 (q0 + 1) (r11).toNatClampNeg) = 100 → (wX7_of G (x1) (6) I10 (fun r13 I12 => vp_in (r13) 821 ∧ ((¬ (I12 (q0 + 2) (1 : Int32).toNatClampNeg) = 0) ∧ ((¬ (((I10 (q0 + 1) (0 : Int32).toNatClampNeg) - (I12 (q0 + 1) (r13).toNatClampNeg)) - ((I10 (q0 + 1) (0 : Int32).toNatClampNeg) - (I12 (q0 + 1) (r13).toNatClampNeg)) / (I12 (q0 + 2) (1 : Int32).toNatClampNeg) * (I12 (q0 + 2) (1 : Int32).toNatClampNeg)) = 0 → K I12) ∧ ((((I10 (q0 + 1) (0 : Int32).toNatClampNeg) - (I12 (q0 + 1) (r13).toNatClampNeg)) - ((I10 (q0 + 1) (0 : Int32).toNatClampNeg) - (I12 (q0 + 1) (r13).toNatClampNeg)) / (I12 (q0 + 2) (1 : Int32).toNatClampNeg) * (I12 (q0 + 2) (1 : Int32).toNatClampNeg)) = 0 → (wX7_of G (x1) (5) I12 (fun r15 I14 => wX7_of G (x1) (1) I14 (fun r17 I16 => vp_in (r17) 821 ∧ (wX7_of G (x1) (2) I16 (fun r19 I18 => vp_in (r19) 821 ∧ (wX7_isUp G (q0) (I16 (q0 + 1) (r17).toNatClampNeg) (I18 (q0 + 1) (r19).toNatClampNeg) I18 (fun r21 I20 => (r21 = 0 → (vp_in (r15) 821 ∧ (∀ I22 : pm_I, I22 = pm_up I20 (q0 + 1) ((r15).toNatClampNeg) (0) → (wX7_of G (x1) (5) I22 (fun r24 I23 => vp_in (r24) 821 ∧ ((¬ (I23 (q0 + 1) (r24).toNatClampNeg) = (I23 (q0 + 2) (2 : Int32).toNatClampNeg) → K I23) ∧ ((I23 (q0 + 1) (r24).toNatClampNeg) = (I23 (q0 + 2) (2 : Int32).toNatClampNeg) → (wX7_of G (x1) (3) I23 (fun r26 I25 => vp_in (r26) 821 ∧ (wX7_of G (x1) (5) I25 (fun r28 I27 => vp_in (r28) 821 ∧ (∀ I29 : pm_I, I29 = pm_up I27 (q0 + 1) ((r28).toNatClampNeg) (0) → (wX7_of G (x1) (4) I29 (fun r31 I30 => (¬ (I25 (q0 + 1) (r26).toNatClampNeg) = (-1) → (vp_in (r31) 821 ∧ (∀ I32 : pm_I, I32 = pm_up I30 (q0 + 1) ((r31).toNatClampNeg) (I25 (q0 + 1) (r26).toNatClampNeg) → (wX7_takesPath G (q0) (x1) (100) I32 (fun I33 => K I33))))) ∧ ((I25 (q0 + 1) (r26).toNatClampNeg) = (-1) → (wX7_of G (x1) (4) I30 (fun r35 I34 => vp_in (r35) 821 ∧ (vp_in (r31) 821 ∧ (∀ I36 : pm_I, I36 = pm_up I34 (q0 + 1) ((r31).toNatClampNeg) (I34 (q0 + 1) (r35).toNatClampNeg) → (wX7_takesPath G (q0) (x1) (100) I36 (fun I37 => K I37))))))))))))))))))))) ∧ (¬ r21 = 0 → (wX7_of G (x1) (5) I20 (fun r39 I38 => vp_in (r39) 821 ∧ (vp_in (r15) 821 ∧ (∀ I40 : pm_I, I40 = pm_up I38 (q0 + 1) ((r15).toNatClampNeg) ((I38 (q0 + 1) (r39).toNatClampNeg) + 1) → (wX7_of G (x1) (5) I40 (fun r42 I41 => vp_in (r42) 821 ∧ ((¬ (I41 (q0 + 1) (r42).toNatClampNeg) = (I41 (q0 + 2) (2 : Int32).toNatClampNeg) → K I41) ∧ ((I41 (q0 + 1) (r42).toNatClampNeg) = (I41 (q0 + 2) (2 : Int32).toNatClampNeg) → (wX7_of G (x1) (3) I41 (fun r44 I43 => vp_in (r44) 821 ∧ (wX7_of G (x1) (5) I43 (fun r46 I45 => vp_in (r46) 821 ∧ (∀ I47 : pm_I, I47 = pm_up I45 (q0 + 1) ((r46).toNatClampNeg) (0) → (wX7_of G (x1) (4) I47 (fun r49 I48 => (¬ (I43 (q0 + 1) (r44).toNatClampNeg) = (-1) → (vp_in (r49) 821 ∧ (∀ I50 : pm_I, I50 = pm_up I48 (q0 + 1) ((r49).toNatClampNeg) (I43 (q0 + 1) (r44).toNatClampNeg) → (wX7_takesPath G (q0) (x1) (100) I50 (fun I51 => K I51))))) ∧ ((I43 (q0 + 1) (r44).toNatClampNeg) = (-1) → (wX7_of G (x1) (4) I48 (fun r53 I52 => vp_in (r53) 821 ∧ (vp_in (r49) 821 ∧ (∀ I54 : pm_I, I54 = pm_up I52 (q0 + 1) ((r49).toNatClampNeg) (I52 (q0 + 1) (r53).toNatClampNeg) → (wX7_takesPath G (q0) (x1) (100) I54 (fun I55 => K I55))))))))))))))))))))))))))))))))))))))

set_option maxRecDepth 20000 in
theorem sX7_probes {G : pm_G} {l : Launch} (hG : pm_ok G) (q0 : Nat) (x1 : Int32) (I : pm_I) (K : pm_I → Prop) (hk0 : pm_k G q0 (.inl 7)) (h : wX7_probes G q0 x1 I K) : pm_Ct G l yX7_probes cX7_probes 4 none { frames := 5, cells := 0, slots := 0, locals := 411 } [.ref (q0), .int (x1)] I (pm_Kv K) := by
  unfold wX7_probes at h
  refine pm_enter (by decide +kernel) hG rfl (Nat.le_of_ble_eq_true rfl) rfl (fun X hl hC hE => ?_)
  subst hl
  have hab : 0 ≤ 0 ∧ 0 ≤ 0 := ⟨Nat.le_refl 0, Nat.le_refl 0⟩
  have hC : pm_C G X cX7_probes 4 RX7 none { frames := 5, cells := 0, slots := 0, locals := 411 } := hC
  refine r_aload_n 0 hC dX7_probes_0 rfl rfl ?_
  refine r_getR7 1 (r1 := q0 + 1) hC hk0 1 (by decide) tw_1180 rfl rfl dX7_probes_1 ?_
  refine r_iload_n 4 hC dX7_probes_4 rfl rfl ?_
  refine r_iconst 5 (v := 3) hC dX7_probes_5 (by decide) ?_
  refine r_callS_i 6 (n := 2) [.int (x1), .int (3)] [.ref (q0 + 1)] hC dX7_probes_6 (by decide) (by decide) tw_1446 tw_135 ⟨by decide, by decide, by decide +kernel⟩ tw_1444 tw_1445 rfl rfl (sX7_of (l := pm_l X) hG (x1) (3) _ _ h) hab (Nat.le_of_ble_eq_true rfl) ?_
  clear h; intro r11 I10 h
  refine r_iald 9 hC ((pm_s7 hG hk0).1) h.1 dX7_probes_9 ?_
  replace h := h.2
  refine r_bipush 10 (v := 100) hC dX7_probes_10 (by decide) ?_
  refine r_icmp_eq 12 47 hC dX7_probes_12 (by decide) (fun hc => ?_) (fun hc => ?_)
  · replace h := h.1 hc
    refine r_iconst 47 (v := 0) hC dX7_probes_47 (by decide) ?_
    refine r_istore_n 48 [some (.ref (q0)), some (.int (x1)), some (.int (0)), none] hC dX7_probes_48 rfl (by decide) rfl ?_
    refine r_iload_n 49 hC dX7_probes_49 rfl rfl ?_
    refine r_if_ne 50 54 hC dX7_probes_50 (by decide) (fun hc => absurd hc (by decide)) (fun hc => ?_)
    exact r_vret 53 hC hE dX7_probes_53 ⟨rfl, h⟩
  · replace h := h.2 hc
    refine r_aload_n 15 hC dX7_probes_15 rfl rfl ?_
    refine r_getR7 16 (r1 := q0 + 1) hC hk0 1 (by decide) tw_1180 rfl rfl dX7_probes_16 ?_
    refine r_iconst 19 (v := 0) hC dX7_probes_19 (by decide) ?_
    refine r_iald 20 hC ((pm_s7 hG hk0).1) (by unfold vp_in; decide) dX7_probes_20 ?_
    refine r_aload_n 21 hC dX7_probes_21 rfl rfl ?_
    refine r_getR7 22 (r1 := q0 + 1) hC hk0 1 (by decide) tw_1180 rfl rfl dX7_probes_22 ?_
    refine r_iload_n 25 hC dX7_probes_25 rfl rfl ?_
    refine r_bipush 26 (v := 6) hC dX7_probes_26 (by decide) ?_
    refine r_callS_i 28 (n := 2) [.int (x1), .int (6)] [.ref (q0 + 1), .int (I10 (q0 + 1) (0 : Int32).toNatClampNeg)] hC dX7_probes_28 (by decide) (by decide) tw_1446 tw_135 ⟨by decide, by decide, by decide +kernel⟩ tw_1444 tw_1445 rfl rfl (sX7_of (l := pm_l X) hG (x1) (6) _ _ h) hab (Nat.le_of_ble_eq_true rfl) ?_
    clear h; intro r13 I12 h
    refine r_iald 31 hC ((pm_s7 hG hk0).1) h.1 dX7_probes_31 ?_
    replace h := h.2
    refine r_isub 32 hC dX7_probes_32 ?_
    refine r_aload_n 33 hC dX7_probes_33 rfl rfl ?_
    refine r_getR7 34 (r1 := q0 + 2) hC hk0 2 (by decide) tw_1181 rfl rfl dX7_probes_34 ?_
    refine r_iconst 37 (v := 1) hC dX7_probes_37 (by decide) ?_
    refine r_iald 38 hC ((pm_s7 hG hk0).2.1) (by unfold vp_in; decide) dX7_probes_38 ?_
    refine r_irem 39 hC dX7_probes_39 h.1 ?_
    replace h := h.2
    refine r_if_ne 40 47 hC dX7_probes_40 (by decide) (fun hc => ?_) (fun hc => ?_)
    · replace h := h.1 hc
      refine r_iconst 47 (v := 0) hC dX7_probes_47 (by decide) ?_
      refine r_istore_n 48 [some (.ref (q0)), some (.int (x1)), some (.int (0)), none] hC dX7_probes_48 rfl (by decide) rfl ?_
      refine r_iload_n 49 hC dX7_probes_49 rfl rfl ?_
      refine r_if_ne 50 54 hC dX7_probes_50 (by decide) (fun hc => absurd hc (by decide)) (fun hc => ?_)
      exact r_vret 53 hC hE dX7_probes_53 ⟨rfl, h⟩
    · replace h := h.2 hc
      refine r_iconst 43 (v := 1) hC dX7_probes_43 (by decide) ?_
      refine r_goto 44 48 hC dX7_probes_44 (by decide) ?_
      refine r_istore_n 48 [some (.ref (q0)), some (.int (x1)), some (.int (1)), none] hC dX7_probes_48 rfl (by decide) rfl ?_
      refine r_iload_n 49 hC dX7_probes_49 rfl rfl ?_
      refine r_if_ne 50 54 hC dX7_probes_50 (by decide) (fun hc => ?_) (fun hc => absurd hc (by decide))
      refine r_aload_n 54 hC dX7_probes_54 rfl rfl ?_
      refine r_getR7 55 (r1 := q0 + 1) hC hk0 1 (by decide) tw_1180 rfl rfl dX7_probes_55 ?_
      refine r_iload_n 58 hC dX7_probes_58 rfl rfl ?_
      refine r_iconst 59 (v := 5) hC dX7_probes_59 (by decide) ?_
      refine r_callS_i 60 (n := 2) [.int (x1), .int (5)] [.ref (q0 + 1)] hC dX7_probes_60 (by decide) (by decide) tw_1446 tw_135 ⟨by decide, by decide, by decide +kernel⟩ tw_1444 tw_1445 rfl rfl (sX7_of (l := pm_l X) hG (x1) (5) _ _ h) hab (Nat.le_of_ble_eq_true rfl) ?_
      clear h; intro r15 I14 h
      refine r_aload_n 63 hC dX7_probes_63 rfl rfl ?_
      refine r_aload_n 64 hC dX7_probes_64 rfl rfl ?_
      refine r_getR7 65 (r1 := q0 + 1) hC hk0 1 (by decide) tw_1180 rfl rfl dX7_probes_65 ?_
      refine r_iload_n 68 hC dX7_probes_68 rfl rfl ?_
      refine r_iconst 69 (v := 1) hC dX7_probes_69 (by decide) ?_
      refine r_callS_i 70 (n := 2) [.int (x1), .int (1)] [.ref (q0 + 1), .ref (q0), .int (r15), .ref (q0 + 1)] hC dX7_probes_70 (by decide) (by decide) tw_1446 tw_135 ⟨by decide, by decide, by decide +kernel⟩ tw_1444 tw_1445 rfl rfl (sX7_of (l := pm_l X) hG (x1) (1) _ _ h) hab (Nat.le_of_ble_eq_true rfl) ?_
      clear h; intro r17 I16 h
      refine r_iald 73 hC ((pm_s7 hG hk0).1) h.1 dX7_probes_73 ?_
      replace h := h.2
      refine r_aload_n 74 hC dX7_probes_74 rfl rfl ?_
      refine r_getR7 75 (r1 := q0 + 1) hC hk0 1 (by decide) tw_1180 rfl rfl dX7_probes_75 ?_
      refine r_iload_n 78 hC dX7_probes_78 rfl rfl ?_
      refine r_iconst 79 (v := 2) hC dX7_probes_79 (by decide) ?_
      refine r_callS_i 80 (n := 2) [.int (x1), .int (2)] [.ref (q0 + 1), .int (I16 (q0 + 1) (r17).toNatClampNeg), .ref (q0), .int (r15), .ref (q0 + 1)] hC dX7_probes_80 (by decide) (by decide) tw_1446 tw_135 ⟨by decide, by decide, by decide +kernel⟩ tw_1444 tw_1445 rfl rfl (sX7_of (l := pm_l X) hG (x1) (2) _ _ h) hab (Nat.le_of_ble_eq_true rfl) ?_
      clear h; intro r19 I18 h
      refine r_iald 83 hC ((pm_s7 hG hk0).1) h.1 dX7_probes_83 ?_
      replace h := h.2
      refine r_callV_i 84 (n := 2) [.int (I16 (q0 + 1) (r17).toNatClampNeg), .int (I18 (q0 + 1) (r19).toNatClampNeg)] [.int (r15), .ref (q0 + 1)] hC hk0 rfl dX7_probes_84 (by decide) (by decide) tw_1419 tw_135 ⟨by decide, by decide, by decide +kernel⟩ tw_1416 tw_1418 tw_103 rfl rfl (sX7_isUp (l := pm_l X) hG (q0) (I16 (q0 + 1) (r17).toNatClampNeg) (I18 (q0 + 1) (r19).toNatClampNeg) _ _ hk0 h) hab (Nat.le_of_ble_eq_true rfl) ?_
      clear h; intro r21 I20 h
      refine r_if_eq 87 105 hC dX7_probes_87 (by decide) (fun hc => ?_) (fun hc => ?_)
      · replace h := h.1 hc
        refine r_iconst 105 (v := 0) hC dX7_probes_105 (by decide) ?_
        refine r_iast 106 hC ((pm_s7 hG hk0).1) h.1 dX7_probes_106 (fun I22 hI => ?_)
        replace h := h.2
        replace h := h I22 hI; clear hI
        refine r_aload_n 107 hC dX7_probes_107 rfl rfl ?_
        refine r_getR7 108 (r1 := q0 + 1) hC hk0 1 (by decide) tw_1180 rfl rfl dX7_probes_108 ?_
        refine r_iload_n 111 hC dX7_probes_111 rfl rfl ?_
        refine r_iconst 112 (v := 5) hC dX7_probes_112 (by decide) ?_
        refine r_callS_i 113 (n := 2) [.int (x1), .int (5)] [.ref (q0 + 1)] hC dX7_probes_113 (by decide) (by decide) tw_1446 tw_135 ⟨by decide, by decide, by decide +kernel⟩ tw_1444 tw_1445 rfl rfl (sX7_of (l := pm_l X) hG (x1) (5) _ _ h) hab (Nat.le_of_ble_eq_true rfl) ?_
        clear h; intro r24 I23 h
        refine r_iald 116 hC ((pm_s7 hG hk0).1) h.1 dX7_probes_116 ?_
        replace h := h.2
        refine r_aload_n 117 hC dX7_probes_117 rfl rfl ?_
        refine r_getR7 118 (r1 := q0 + 2) hC hk0 2 (by decide) tw_1181 rfl rfl dX7_probes_118 ?_
        refine r_iconst 121 (v := 2) hC dX7_probes_121 (by decide) ?_
        refine r_iald 122 hC ((pm_s7 hG hk0).2.1) (by unfold vp_in; decide) dX7_probes_122 ?_
        refine r_icmp_ne 123 184 hC dX7_probes_123 (by decide) (fun hc => ?_) (fun hc => ?_)
        · replace h := h.1 hc
          exact r_vret 184 hC hE dX7_probes_184 ⟨rfl, h⟩
        · replace h := h.2 hc
          refine r_aload_n 126 hC dX7_probes_126 rfl rfl ?_
          refine r_getR7 127 (r1 := q0 + 1) hC hk0 1 (by decide) tw_1180 rfl rfl dX7_probes_127 ?_
          refine r_iload_n 130 hC dX7_probes_130 rfl rfl ?_
          refine r_iconst 131 (v := 3) hC dX7_probes_131 (by decide) ?_
          refine r_callS_i 132 (n := 2) [.int (x1), .int (3)] [.ref (q0 + 1)] hC dX7_probes_132 (by decide) (by decide) tw_1446 tw_135 ⟨by decide, by decide, by decide +kernel⟩ tw_1444 tw_1445 rfl rfl (sX7_of (l := pm_l X) hG (x1) (3) _ _ h) hab (Nat.le_of_ble_eq_true rfl) ?_
          clear h; intro r26 I25 h
          refine r_iald 135 hC ((pm_s7 hG hk0).1) h.1 dX7_probes_135 ?_
          replace h := h.2
          refine r_istore_n 136 [some (.ref (q0)), some (.int (x1)), some (.int (1)), some (.int (I25 (q0 + 1) (r26).toNatClampNeg))] hC dX7_probes_136 rfl (by decide) rfl ?_
          refine r_aload_n 137 hC dX7_probes_137 rfl rfl ?_
          refine r_getR7 138 (r1 := q0 + 1) hC hk0 1 (by decide) tw_1180 rfl rfl dX7_probes_138 ?_
          refine r_iload_n 141 hC dX7_probes_141 rfl rfl ?_
          refine r_iconst 142 (v := 5) hC dX7_probes_142 (by decide) ?_
          refine r_callS_i 143 (n := 2) [.int (x1), .int (5)] [.ref (q0 + 1)] hC dX7_probes_143 (by decide) (by decide) tw_1446 tw_135 ⟨by decide, by decide, by decide +kernel⟩ tw_1444 tw_1445 rfl rfl (sX7_of (l := pm_l X) hG (x1) (5) _ _ h) hab (Nat.le_of_ble_eq_true rfl) ?_
          clear h; intro r28 I27 h
          refine r_iconst 146 (v := 0) hC dX7_probes_146 (by decide) ?_
          refine r_iast 147 hC ((pm_s7 hG hk0).1) h.1 dX7_probes_147 (fun I29 hI => ?_)
          replace h := h.2
          replace h := h I29 hI; clear hI
          refine r_aload_n 148 hC dX7_probes_148 rfl rfl ?_
          refine r_getR7 149 (r1 := q0 + 1) hC hk0 1 (by decide) tw_1180 rfl rfl dX7_probes_149 ?_
          refine r_iload_n 152 hC dX7_probes_152 rfl rfl ?_
          refine r_iconst 153 (v := 4) hC dX7_probes_153 (by decide) ?_
          refine r_callS_i 154 (n := 2) [.int (x1), .int (4)] [.ref (q0 + 1)] hC dX7_probes_154 (by decide) (by decide) tw_1446 tw_135 ⟨by decide, by decide, by decide +kernel⟩ tw_1444 tw_1445 rfl rfl (sX7_of (l := pm_l X) hG (x1) (4) _ _ h) hab (Nat.le_of_ble_eq_true rfl) ?_
          clear h; intro r31 I30 h
          refine r_iload_n 157 hC dX7_probes_157 rfl rfl ?_
          refine r_iconst 158 (v := -1) hC dX7_probes_158 (by decide) ?_
          refine r_icmp_ne 159 175 hC dX7_probes_159 (by decide) (fun hc => ?_) (fun hc => ?_)
          · replace h := h.1 hc
            refine r_iload_n 175 hC dX7_probes_175 rfl rfl ?_
            refine r_iast 176 hC ((pm_s7 hG hk0).1) h.1 dX7_probes_176 (fun I32 hI => ?_)
            replace h := h.2
            replace h := h I32 hI; clear hI
            refine r_aload_n 177 hC dX7_probes_177 rfl rfl ?_
            refine r_iload_n 178 hC dX7_probes_178 rfl rfl ?_
            refine r_bipush 179 (v := 100) hC dX7_probes_179 (by decide) ?_
            refine r_callV_v 181 (n := 2) [.int (x1), .int (100)] [] hC hk0 rfl dX7_probes_181 (by decide) (by decide) tw_1563 tw_135 ⟨by decide, by decide, by decide +kernel⟩ tw_1560 tw_1562 tw_119 rfl rfl (sX7_takesPath (l := pm_l X) hG (q0) (x1) (100) _ _ hk0 h) hab (Nat.le_of_ble_eq_true rfl) ?_
            clear h; intro I33 h
            exact r_vret 184 hC hE dX7_probes_184 ⟨rfl, h⟩
          · replace h := h.2 hc
            refine r_aload_n 162 hC dX7_probes_162 rfl rfl ?_
            refine r_getR7 163 (r1 := q0 + 1) hC hk0 1 (by decide) tw_1180 rfl rfl dX7_probes_163 ?_
            refine r_iload_n 166 hC dX7_probes_166 rfl rfl ?_
            refine r_iconst 167 (v := 4) hC dX7_probes_167 (by decide) ?_
            refine r_callS_i 168 (n := 2) [.int (x1), .int (4)] [.ref (q0 + 1), .int (r31), .ref (q0 + 1)] hC dX7_probes_168 (by decide) (by decide) tw_1446 tw_135 ⟨by decide, by decide, by decide +kernel⟩ tw_1444 tw_1445 rfl rfl (sX7_of (l := pm_l X) hG (x1) (4) _ _ h) hab (Nat.le_of_ble_eq_true rfl) ?_
            clear h; intro r35 I34 h
            refine r_iald 171 hC ((pm_s7 hG hk0).1) h.1 dX7_probes_171 ?_
            replace h := h.2
            refine r_goto 172 176 hC dX7_probes_172 (by decide) ?_
            refine r_iast 176 hC ((pm_s7 hG hk0).1) h.1 dX7_probes_176 (fun I36 hI => ?_)
            replace h := h.2
            replace h := h I36 hI; clear hI
            refine r_aload_n 177 hC dX7_probes_177 rfl rfl ?_
            refine r_iload_n 178 hC dX7_probes_178 rfl rfl ?_
            refine r_bipush 179 (v := 100) hC dX7_probes_179 (by decide) ?_
            refine r_callV_v 181 (n := 2) [.int (x1), .int (100)] [] hC hk0 rfl dX7_probes_181 (by decide) (by decide) tw_1563 tw_135 ⟨by decide, by decide, by decide +kernel⟩ tw_1560 tw_1562 tw_119 rfl rfl (sX7_takesPath (l := pm_l X) hG (q0) (x1) (100) _ _ hk0 h) hab (Nat.le_of_ble_eq_true rfl) ?_
            clear h; intro I37 h
            exact r_vret 184 hC hE dX7_probes_184 ⟨rfl, h⟩
      · replace h := h.2 hc
        refine r_aload_n 90 hC dX7_probes_90 rfl rfl ?_
        refine r_getR7 91 (r1 := q0 + 1) hC hk0 1 (by decide) tw_1180 rfl rfl dX7_probes_91 ?_
        refine r_iload_n 94 hC dX7_probes_94 rfl rfl ?_
        refine r_iconst 95 (v := 5) hC dX7_probes_95 (by decide) ?_
        refine r_callS_i 96 (n := 2) [.int (x1), .int (5)] [.ref (q0 + 1), .int (r15), .ref (q0 + 1)] hC dX7_probes_96 (by decide) (by decide) tw_1446 tw_135 ⟨by decide, by decide, by decide +kernel⟩ tw_1444 tw_1445 rfl rfl (sX7_of (l := pm_l X) hG (x1) (5) _ _ h) hab (Nat.le_of_ble_eq_true rfl) ?_
        clear h; intro r39 I38 h
        refine r_iald 99 hC ((pm_s7 hG hk0).1) h.1 dX7_probes_99 ?_
        replace h := h.2
        refine r_iconst 100 (v := 1) hC dX7_probes_100 (by decide) ?_
        refine r_iadd 101 hC dX7_probes_101 ?_
        refine r_goto 102 106 hC dX7_probes_102 (by decide) ?_
        refine r_iast 106 hC ((pm_s7 hG hk0).1) h.1 dX7_probes_106 (fun I40 hI => ?_)
        replace h := h.2
        replace h := h I40 hI; clear hI
        refine r_aload_n 107 hC dX7_probes_107 rfl rfl ?_
        refine r_getR7 108 (r1 := q0 + 1) hC hk0 1 (by decide) tw_1180 rfl rfl dX7_probes_108 ?_
        refine r_iload_n 111 hC dX7_probes_111 rfl rfl ?_
        refine r_iconst 112 (v := 5) hC dX7_probes_112 (by decide) ?_
        refine r_callS_i 113 (n := 2) [.int (x1), .int (5)] [.ref (q0 + 1)] hC dX7_probes_113 (by decide) (by decide) tw_1446 tw_135 ⟨by decide, by decide, by decide +kernel⟩ tw_1444 tw_1445 rfl rfl (sX7_of (l := pm_l X) hG (x1) (5) _ _ h) hab (Nat.le_of_ble_eq_true rfl) ?_
        clear h; intro r42 I41 h
        refine r_iald 116 hC ((pm_s7 hG hk0).1) h.1 dX7_probes_116 ?_
        replace h := h.2
        refine r_aload_n 117 hC dX7_probes_117 rfl rfl ?_
        refine r_getR7 118 (r1 := q0 + 2) hC hk0 2 (by decide) tw_1181 rfl rfl dX7_probes_118 ?_
        refine r_iconst 121 (v := 2) hC dX7_probes_121 (by decide) ?_
        refine r_iald 122 hC ((pm_s7 hG hk0).2.1) (by unfold vp_in; decide) dX7_probes_122 ?_
        refine r_icmp_ne 123 184 hC dX7_probes_123 (by decide) (fun hc => ?_) (fun hc => ?_)
        · replace h := h.1 hc
          exact r_vret 184 hC hE dX7_probes_184 ⟨rfl, h⟩
        · replace h := h.2 hc
          refine r_aload_n 126 hC dX7_probes_126 rfl rfl ?_
          refine r_getR7 127 (r1 := q0 + 1) hC hk0 1 (by decide) tw_1180 rfl rfl dX7_probes_127 ?_
          refine r_iload_n 130 hC dX7_probes_130 rfl rfl ?_
          refine r_iconst 131 (v := 3) hC dX7_probes_131 (by decide) ?_
          refine r_callS_i 132 (n := 2) [.int (x1), .int (3)] [.ref (q0 + 1)] hC dX7_probes_132 (by decide) (by decide) tw_1446 tw_135 ⟨by decide, by decide, by decide +kernel⟩ tw_1444 tw_1445 rfl rfl (sX7_of (l := pm_l X) hG (x1) (3) _ _ h) hab (Nat.le_of_ble_eq_true rfl) ?_
          clear h; intro r44 I43 h
          refine r_iald 135 hC ((pm_s7 hG hk0).1) h.1 dX7_probes_135 ?_
          replace h := h.2
          refine r_istore_n 136 [some (.ref (q0)), some (.int (x1)), some (.int (1)), some (.int (I43 (q0 + 1) (r44).toNatClampNeg))] hC dX7_probes_136 rfl (by decide) rfl ?_
          refine r_aload_n 137 hC dX7_probes_137 rfl rfl ?_
          refine r_getR7 138 (r1 := q0 + 1) hC hk0 1 (by decide) tw_1180 rfl rfl dX7_probes_138 ?_
          refine r_iload_n 141 hC dX7_probes_141 rfl rfl ?_
          refine r_iconst 142 (v := 5) hC dX7_probes_142 (by decide) ?_
          refine r_callS_i 143 (n := 2) [.int (x1), .int (5)] [.ref (q0 + 1)] hC dX7_probes_143 (by decide) (by decide) tw_1446 tw_135 ⟨by decide, by decide, by decide +kernel⟩ tw_1444 tw_1445 rfl rfl (sX7_of (l := pm_l X) hG (x1) (5) _ _ h) hab (Nat.le_of_ble_eq_true rfl) ?_
          clear h; intro r46 I45 h
          refine r_iconst 146 (v := 0) hC dX7_probes_146 (by decide) ?_
          refine r_iast 147 hC ((pm_s7 hG hk0).1) h.1 dX7_probes_147 (fun I47 hI => ?_)
          replace h := h.2
          replace h := h I47 hI; clear hI
          refine r_aload_n 148 hC dX7_probes_148 rfl rfl ?_
          refine r_getR7 149 (r1 := q0 + 1) hC hk0 1 (by decide) tw_1180 rfl rfl dX7_probes_149 ?_
          refine r_iload_n 152 hC dX7_probes_152 rfl rfl ?_
          refine r_iconst 153 (v := 4) hC dX7_probes_153 (by decide) ?_
          refine r_callS_i 154 (n := 2) [.int (x1), .int (4)] [.ref (q0 + 1)] hC dX7_probes_154 (by decide) (by decide) tw_1446 tw_135 ⟨by decide, by decide, by decide +kernel⟩ tw_1444 tw_1445 rfl rfl (sX7_of (l := pm_l X) hG (x1) (4) _ _ h) hab (Nat.le_of_ble_eq_true rfl) ?_
          clear h; intro r49 I48 h
          refine r_iload_n 157 hC dX7_probes_157 rfl rfl ?_
          refine r_iconst 158 (v := -1) hC dX7_probes_158 (by decide) ?_
          refine r_icmp_ne 159 175 hC dX7_probes_159 (by decide) (fun hc => ?_) (fun hc => ?_)
          · replace h := h.1 hc
            refine r_iload_n 175 hC dX7_probes_175 rfl rfl ?_
            refine r_iast 176 hC ((pm_s7 hG hk0).1) h.1 dX7_probes_176 (fun I50 hI => ?_)
            replace h := h.2
            replace h := h I50 hI; clear hI
            refine r_aload_n 177 hC dX7_probes_177 rfl rfl ?_
            refine r_iload_n 178 hC dX7_probes_178 rfl rfl ?_
            refine r_bipush 179 (v := 100) hC dX7_probes_179 (by decide) ?_
            refine r_callV_v 181 (n := 2) [.int (x1), .int (100)] [] hC hk0 rfl dX7_probes_181 (by decide) (by decide) tw_1563 tw_135 ⟨by decide, by decide, by decide +kernel⟩ tw_1560 tw_1562 tw_119 rfl rfl (sX7_takesPath (l := pm_l X) hG (q0) (x1) (100) _ _ hk0 h) hab (Nat.le_of_ble_eq_true rfl) ?_
            clear h; intro I51 h
            exact r_vret 184 hC hE dX7_probes_184 ⟨rfl, h⟩
          · replace h := h.2 hc
            refine r_aload_n 162 hC dX7_probes_162 rfl rfl ?_
            refine r_getR7 163 (r1 := q0 + 1) hC hk0 1 (by decide) tw_1180 rfl rfl dX7_probes_163 ?_
            refine r_iload_n 166 hC dX7_probes_166 rfl rfl ?_
            refine r_iconst 167 (v := 4) hC dX7_probes_167 (by decide) ?_
            refine r_callS_i 168 (n := 2) [.int (x1), .int (4)] [.ref (q0 + 1), .int (r49), .ref (q0 + 1)] hC dX7_probes_168 (by decide) (by decide) tw_1446 tw_135 ⟨by decide, by decide, by decide +kernel⟩ tw_1444 tw_1445 rfl rfl (sX7_of (l := pm_l X) hG (x1) (4) _ _ h) hab (Nat.le_of_ble_eq_true rfl) ?_
            clear h; intro r53 I52 h
            refine r_iald 171 hC ((pm_s7 hG hk0).1) h.1 dX7_probes_171 ?_
            replace h := h.2
            refine r_goto 172 176 hC dX7_probes_172 (by decide) ?_
            refine r_iast 176 hC ((pm_s7 hG hk0).1) h.1 dX7_probes_176 (fun I54 hI => ?_)
            replace h := h.2
            replace h := h I54 hI; clear hI
            refine r_aload_n 177 hC dX7_probes_177 rfl rfl ?_
            refine r_iload_n 178 hC dX7_probes_178 rfl rfl ?_
            refine r_bipush 179 (v := 100) hC dX7_probes_179 (by decide) ?_
            refine r_callV_v 181 (n := 2) [.int (x1), .int (100)] [] hC hk0 rfl dX7_probes_181 (by decide) (by decide) tw_1563 tw_135 ⟨by decide, by decide, by decide +kernel⟩ tw_1560 tw_1562 tw_119 rfl rfl (sX7_takesPath (l := pm_l X) hG (q0) (x1) (100) _ _ hk0 h) hab (Nat.le_of_ble_eq_true rfl) ?_
            clear h; intro I55 h
            exact r_vret 184 hC hE dX7_probes_184 ⟨rfl, h⟩

def wX7_emptiesOld (G : pm_G) (q0 : Nat) (x1 : Int32) (I : pm_I) (K : pm_I → Prop) : Prop :=
  pm_lp3 (fun (P10 : Int32 → Int32 → pm_I → Prop) (x12 : Int32) (x13 : Int32) (I11 : pm_I) => wX7_undelivered G (q0) (x1) I11 (fun r15 I14 => (r15 ≤ x13 → (wX7_of G (x1) (4) I14 (fun r17 I16 => (x12 = 0 → (vp_in (r17) 821 ∧ (∀ I18 : pm_I, I18 = pm_up I16 (q0 + 1) ((r17).toNatClampNeg) (-1) → K I18))) ∧ (¬ x12 = 0 → (wX7_of G (x1) (4) I16 (fun r20 I19 => vp_in (r20) 821 ∧ (vp_in (r17) 821 ∧ (∀ I21 : pm_I, I21 = pm_up I19 (q0 + 1) ((r17).toNatClampNeg) (I19 (q0 + 1) (r20).toNatClampNeg) → K I21)))))))) ∧ (¬ r15 ≤ x13 → ((¬ x12 = 0 → (P10 (1) (x13 + 1) I14)) ∧ (x12 = 0 → (wX7_message G (x1) (x13) I14 (fun r23 I22 => vp_in (r23 + 0) 821 ∧ ((¬ (I22 (q0 + 1) (r23 + 0).toNatClampNeg) = 1 → (P10 (0) (x13 + 1) I22)) ∧ ((I22 (q0 + 1) (r23 + 0).toNatClampNeg) = 1 → (wX7_message G (x1) (x13) I22 (fun r25 I24 => vp_in (r25 + 4) 821 ∧ (wX7_of G (x1) (4) I24 (fun r27 I26 => vp_in (r27) 821 ∧ ((¬ (I24 (q0 + 1) (r25 + 4).toNatClampNeg) = (I26 (q0 + 1) (r27).toNatClampNeg) → (P10 (0) (x13 + 1) I26)) ∧ ((I24 (q0 + 1) (r25 + 4).toNatClampNeg) = (I26 (q0 + 1) (r27).toNatClampNeg) → (P10 (1) (x13 + 1) I26)))))))))))))))) (0) (0) I

set_option maxRecDepth 20000 in
theorem sX7_emptiesOld {G : pm_G} {l : Launch} (hG : pm_ok G) (q0 : Nat) (x1 : Int32) (I : pm_I) (K : pm_I → Prop) (hk0 : pm_k G q0 (.inl 7)) (h : wX7_emptiesOld G q0 x1 I K) : pm_Ct G l yX7_emptiesOld cX7_emptiesOld 4 none { frames := 3, cells := 0, slots := 0, locals := 234 } [.ref (q0), .int (x1)] I (pm_Kv K) := by
  unfold wX7_emptiesOld at h
  refine pm_enter (by decide +kernel) hG rfl (Nat.le_of_ble_eq_true rfl) rfl (fun X hl hC hE => ?_)
  subst hl
  have hab : 0 ≤ 0 ∧ 0 ≤ 0 := ⟨Nat.le_refl 0, Nat.le_refl 0⟩
  have hC : pm_C G X cX7_emptiesOld 4 RX7 none { frames := 3, cells := 0, slots := 0, locals := 234 } := hC
  refine r_iconst 0 (v := 0) hC dX7_emptiesOld_0 (by decide) ?_
  refine r_istore_n 1 [some (.ref (q0)), some (.int (x1)), some (.int (0)), none] hC dX7_emptiesOld_1 rfl (by decide) rfl ?_
  refine r_iconst 2 (v := 0) hC dX7_emptiesOld_2 (by decide) ?_
  refine r_istore_n 3 [some (.ref (q0)), some (.int (x1)), some (.int (0)), some (.int (0))] hC dX7_emptiesOld_3 rfl (by decide) rfl ?_
  refine h (fun x12 x13 I11 => pm_R G X 4 0 0 4 [some (.ref (q0)), some (.int (x1)), some (.int (x12)), some (.int (x13))] [] I11) ?_
  clear h; intro x12 x13 I11 h
  refine r_iload_n 4 hC dX7_emptiesOld_4 rfl rfl ?_
  refine r_aload_n 5 hC dX7_emptiesOld_5 rfl rfl ?_
  refine r_iload_n 6 hC dX7_emptiesOld_6 rfl rfl ?_
  refine r_callV_i 7 (n := 1) [.int (x1)] [.int (x13)] hC hk0 rfl dX7_emptiesOld_7 (by decide) (by decide) tw_1517 tw_135 ⟨by decide, by decide, by decide +kernel⟩ tw_1514 tw_1516 tw_115 rfl rfl (sX7_undelivered (l := pm_l X) hG (q0) (x1) _ _ hk0 h) hab (Nat.le_of_ble_eq_true rfl) ?_
  clear h; intro r15 I14 h
  refine r_icmp_ge 10 70 hC dX7_emptiesOld_10 (by decide) (fun hc => ?_) (fun hc => ?_)
  · replace h := h.1 hc
    refine r_aload_n 70 hC dX7_emptiesOld_70 rfl rfl ?_
    refine r_getR7 71 (r1 := q0 + 1) hC hk0 1 (by decide) tw_1180 rfl rfl dX7_emptiesOld_71 ?_
    refine r_iload_n 74 hC dX7_emptiesOld_74 rfl rfl ?_
    refine r_iconst 75 (v := 4) hC dX7_emptiesOld_75 (by decide) ?_
    refine r_callS_i 76 (n := 2) [.int (x1), .int (4)] [.ref (q0 + 1)] hC dX7_emptiesOld_76 (by decide) (by decide) tw_1446 tw_135 ⟨by decide, by decide, by decide +kernel⟩ tw_1444 tw_1445 rfl rfl (sX7_of (l := pm_l X) hG (x1) (4) _ _ h) hab (Nat.le_of_ble_eq_true rfl) ?_
    clear h; intro r17 I16 h
    refine r_iload_n 79 hC dX7_emptiesOld_79 rfl rfl ?_
    refine r_if_eq 80 96 hC dX7_emptiesOld_80 (by decide) (fun hc => ?_) (fun hc => ?_)
    · replace h := h.1 hc
      refine r_iconst 96 (v := -1) hC dX7_emptiesOld_96 (by decide) ?_
      refine r_iast 97 hC ((pm_s7 hG hk0).1) h.1 dX7_emptiesOld_97 (fun I18 hI => ?_)
      replace h := h.2
      replace h := h I18 hI; clear hI
      exact r_vret 98 hC hE dX7_emptiesOld_98 ⟨rfl, h⟩
    · replace h := h.2 hc
      refine r_aload_n 83 hC dX7_emptiesOld_83 rfl rfl ?_
      refine r_getR7 84 (r1 := q0 + 1) hC hk0 1 (by decide) tw_1180 rfl rfl dX7_emptiesOld_84 ?_
      refine r_iload_n 87 hC dX7_emptiesOld_87 rfl rfl ?_
      refine r_iconst 88 (v := 4) hC dX7_emptiesOld_88 (by decide) ?_
      refine r_callS_i 89 (n := 2) [.int (x1), .int (4)] [.ref (q0 + 1), .int (r17), .ref (q0 + 1)] hC dX7_emptiesOld_89 (by decide) (by decide) tw_1446 tw_135 ⟨by decide, by decide, by decide +kernel⟩ tw_1444 tw_1445 rfl rfl (sX7_of (l := pm_l X) hG (x1) (4) _ _ h) hab (Nat.le_of_ble_eq_true rfl) ?_
      clear h; intro r20 I19 h
      refine r_iald 92 hC ((pm_s7 hG hk0).1) h.1 dX7_emptiesOld_92 ?_
      replace h := h.2
      refine r_goto 93 97 hC dX7_emptiesOld_93 (by decide) ?_
      refine r_iast 97 hC ((pm_s7 hG hk0).1) h.1 dX7_emptiesOld_97 (fun I21 hI => ?_)
      replace h := h.2
      replace h := h I21 hI; clear hI
      exact r_vret 98 hC hE dX7_emptiesOld_98 ⟨rfl, h⟩
  · replace h := h.2 hc
    refine r_iload_n 13 hC dX7_emptiesOld_13 rfl rfl ?_
    refine r_if_ne 14 58 hC dX7_emptiesOld_14 (by decide) (fun hc => ?_) (fun hc => ?_)
    · replace h := h.1 hc
      refine r_iconst 58 (v := 1) hC dX7_emptiesOld_58 (by decide) ?_
      refine r_goto 59 63 hC dX7_emptiesOld_59 (by decide) ?_
      refine r_istore_n 63 [some (.ref (q0)), some (.int (x1)), some (.int (1)), some (.int (x13))] hC dX7_emptiesOld_63 rfl (by decide) rfl ?_
      refine r_iinc 64 (v := x13 + 1) [some (.ref (q0)), some (.int (x1)), some (.int (1)), some (.int (x13 + 1))] hC dX7_emptiesOld_64 rfl (by rfl) (by decide) rfl ?_
      refine r_goto 67 4 hC dX7_emptiesOld_67 (by decide) ?_
      exact h
    · replace h := h.2 hc
      refine r_aload_n 17 hC dX7_emptiesOld_17 rfl rfl ?_
      refine r_getR7 18 (r1 := q0 + 1) hC hk0 1 (by decide) tw_1180 rfl rfl dX7_emptiesOld_18 ?_
      refine r_iload_n 21 hC dX7_emptiesOld_21 rfl rfl ?_
      refine r_iload_n 22 hC dX7_emptiesOld_22 rfl rfl ?_
      refine r_callS_i 23 (n := 2) [.int (x1), .int (x13)] [.ref (q0 + 1)] hC dX7_emptiesOld_23 (by decide) (by decide) tw_1520 tw_135 ⟨by decide, by decide, by decide +kernel⟩ tw_1518 tw_1519 rfl rfl (sX7_message (l := pm_l X) hG (x1) (x13) _ _ h) hab (Nat.le_of_ble_eq_true rfl) ?_
      clear h; intro r23 I22 h
      refine r_iconst 26 (v := 0) hC dX7_emptiesOld_26 (by decide) ?_
      refine r_iadd 27 hC dX7_emptiesOld_27 ?_
      refine r_iald 28 hC ((pm_s7 hG hk0).1) h.1 dX7_emptiesOld_28 ?_
      replace h := h.2
      refine r_iconst 29 (v := 1) hC dX7_emptiesOld_29 (by decide) ?_
      refine r_icmp_ne 30 62 hC dX7_emptiesOld_30 (by decide) (fun hc => ?_) (fun hc => ?_)
      · replace h := h.1 hc
        refine r_iconst 62 (v := 0) hC dX7_emptiesOld_62 (by decide) ?_
        refine r_istore_n 63 [some (.ref (q0)), some (.int (x1)), some (.int (0)), some (.int (x13))] hC dX7_emptiesOld_63 rfl (by decide) rfl ?_
        refine r_iinc 64 (v := x13 + 1) [some (.ref (q0)), some (.int (x1)), some (.int (0)), some (.int (x13 + 1))] hC dX7_emptiesOld_64 rfl (by rfl) (by decide) rfl ?_
        refine r_goto 67 4 hC dX7_emptiesOld_67 (by decide) ?_
        exact h
      · replace h := h.2 hc
        refine r_aload_n 33 hC dX7_emptiesOld_33 rfl rfl ?_
        refine r_getR7 34 (r1 := q0 + 1) hC hk0 1 (by decide) tw_1180 rfl rfl dX7_emptiesOld_34 ?_
        refine r_iload_n 37 hC dX7_emptiesOld_37 rfl rfl ?_
        refine r_iload_n 38 hC dX7_emptiesOld_38 rfl rfl ?_
        refine r_callS_i 39 (n := 2) [.int (x1), .int (x13)] [.ref (q0 + 1)] hC dX7_emptiesOld_39 (by decide) (by decide) tw_1520 tw_135 ⟨by decide, by decide, by decide +kernel⟩ tw_1518 tw_1519 rfl rfl (sX7_message (l := pm_l X) hG (x1) (x13) _ _ h) hab (Nat.le_of_ble_eq_true rfl) ?_
        clear h; intro r25 I24 h
        refine r_iconst 42 (v := 4) hC dX7_emptiesOld_42 (by decide) ?_
        refine r_iadd 43 hC dX7_emptiesOld_43 ?_
        refine r_iald 44 hC ((pm_s7 hG hk0).1) h.1 dX7_emptiesOld_44 ?_
        replace h := h.2
        refine r_aload_n 45 hC dX7_emptiesOld_45 rfl rfl ?_
        refine r_getR7 46 (r1 := q0 + 1) hC hk0 1 (by decide) tw_1180 rfl rfl dX7_emptiesOld_46 ?_
        refine r_iload_n 49 hC dX7_emptiesOld_49 rfl rfl ?_
        refine r_iconst 50 (v := 4) hC dX7_emptiesOld_50 (by decide) ?_
        refine r_callS_i 51 (n := 2) [.int (x1), .int (4)] [.ref (q0 + 1), .int (I24 (q0 + 1) (r25 + 4).toNatClampNeg)] hC dX7_emptiesOld_51 (by decide) (by decide) tw_1446 tw_135 ⟨by decide, by decide, by decide +kernel⟩ tw_1444 tw_1445 rfl rfl (sX7_of (l := pm_l X) hG (x1) (4) _ _ h) hab (Nat.le_of_ble_eq_true rfl) ?_
        clear h; intro r27 I26 h
        refine r_iald 54 hC ((pm_s7 hG hk0).1) h.1 dX7_emptiesOld_54 ?_
        replace h := h.2
        refine r_icmp_ne 55 62 hC dX7_emptiesOld_55 (by decide) (fun hc => ?_) (fun hc => ?_)
        · replace h := h.1 hc
          refine r_iconst 62 (v := 0) hC dX7_emptiesOld_62 (by decide) ?_
          refine r_istore_n 63 [some (.ref (q0)), some (.int (x1)), some (.int (0)), some (.int (x13))] hC dX7_emptiesOld_63 rfl (by decide) rfl ?_
          refine r_iinc 64 (v := x13 + 1) [some (.ref (q0)), some (.int (x1)), some (.int (0)), some (.int (x13 + 1))] hC dX7_emptiesOld_64 rfl (by rfl) (by decide) rfl ?_
          refine r_goto 67 4 hC dX7_emptiesOld_67 (by decide) ?_
          exact h
        · replace h := h.2 hc
          refine r_iconst 58 (v := 1) hC dX7_emptiesOld_58 (by decide) ?_
          refine r_goto 59 63 hC dX7_emptiesOld_59 (by decide) ?_
          refine r_istore_n 63 [some (.ref (q0)), some (.int (x1)), some (.int (1)), some (.int (x13))] hC dX7_emptiesOld_63 rfl (by decide) rfl ?_
          refine r_iinc 64 (v := x13 + 1) [some (.ref (q0)), some (.int (x1)), some (.int (1)), some (.int (x13 + 1))] hC dX7_emptiesOld_64 rfl (by rfl) (by decide) rfl ?_
          refine r_goto 67 4 hC dX7_emptiesOld_67 (by decide) ?_
          exact h

def wX7_ticks (G : pm_G) (q0 : Nat) (I : pm_I) (K : Int32 → pm_I → Prop) : Prop :=
  (∀ I10 : pm_I, I10 = pm_up I (q0 + 1) ((0 : Int32).toNatClampNeg) ((I (q0 + 1) (0 : Int32).toNatClampNeg) + 1) → (pm_lp3 (fun (P11 : Int32 → Int32 → pm_I → Prop) (x13 : Int32) (x14 : Int32) (I12 : pm_I) => (6 ≤ x14 → (pm_lp2 (fun (P15 : Int32 → pm_I → Prop) (x17 : Int32) (I16 : pm_I) => (6 ≤ x17 → (pm_lp2 (fun (P18 : Int32 → pm_I → Prop) (x20 : Int32) (I19 : pm_I) => (6 ≤ x20 → (pm_lp2 (fun (P21 : Int32 → pm_I → Prop) (x23 : Int32) (I22 : pm_I) => (6 ≤ x23 → (K (x13) I22)) ∧ (¬ 6 ≤ x23 → (wX7_isOpen G (q0) (x23) I22 (fun r25 I24 => (r25 = 0 → (P21 (x23 + 1) I24)) ∧ (¬ r25 = 0 → (wX7_emptiesOld G (q0) (x23) I24 (fun I26 => P21 (x23 + 1) I26))))))) (0) I19)) ∧ (¬ 6 ≤ x20 → (wX7_isOpen G (q0) (x20) I19 (fun r28 I27 => (r28 = 0 → (P18 (x20 + 1) I27)) ∧ (¬ r28 = 0 → (wX7_of G (x20) (3) I27 (fun r30 I29 => vp_in (r30) 821 ∧ ((¬ (I29 (q0 + 1) (r30).toNatClampNeg) = (-1) → (P18 (x20 + 1) I29)) ∧ ((I29 (q0 + 1) (r30).toNatClampNeg) = (-1) → (wX7_of G (x20) (1) I29 (fun r32 I31 => vp_in (r32) 821 ∧ (wX7_of G (x20) (2) I31 (fun r34 I33 => vp_in (r34) 821 ∧ (wX7_bestFor G (q0) (I31 (q0 + 1) (r32).toNatClampNeg) (I33 (q0 + 1) (r34).toNatClampNeg) I33 (fun r36 I35 => (r36 = (-1) → (P18 (x20 + 1) I35)) ∧ (¬ r36 = (-1) → (wX7_takesPath G (q0) (x20) (r36) I35 (fun I37 => P18 (x20 + 1) I37)))))))))))))))))) (0) I16)) ∧ (¬ 6 ≤ x17 → (wX7_isOpen G (q0) (x17) I16 (fun r39 I38 => (r39 = 0 → (P15 (x17 + 1) I38)) ∧ (¬ r39 = 0 → (wX7_probes G (q0) (x17) I38 (fun I40 => P15 (x17 + 1) I40))))))) (0) I12)) ∧ (¬ 6 ≤ x14 → (wX7_isOpen G (q0) (x14) I12 (fun r42 I41 => (r42 = 0 → (P11 (x13 + 0) (x14 + 1) I41)) ∧ (¬ r42 = 0 → (wX7_delivers G (q0) (x14) I41 (fun r44 I43 => P11 (x13 + r44) (x14 + 1) I43))))))) (0) (0) I10))

set_option maxRecDepth 20000 in
theorem sX7_ticks {G : pm_G} {l : Launch} (hG : pm_ok G) (q0 : Nat) (I : pm_I) (K : Int32 → pm_I → Prop) (hk0 : pm_k G q0 (.inl 7)) (h : wX7_ticks G q0 I K) : pm_Ct G l yX7_ticks cX7_ticks 4 (some .int) { frames := 6, cells := 0, slots := 0, locals := 501 } [.ref (q0)] I (pm_Ki K) := by
  unfold wX7_ticks at h
  refine pm_enter (by decide +kernel) hG rfl (Nat.le_of_ble_eq_true rfl) rfl (fun X hl hC hE => ?_)
  subst hl
  have hab : 0 ≤ 0 ∧ 0 ≤ 0 := ⟨Nat.le_refl 0, Nat.le_refl 0⟩
  have hC : pm_C G X cX7_ticks 4 RX7 (some .int) { frames := 6, cells := 0, slots := 0, locals := 501 } := hC
  refine r_aload_n 0 hC dX7_ticks_0 rfl rfl ?_
  refine r_getR7 1 (r1 := q0 + 1) hC hk0 1 (by decide) tw_1180 rfl rfl dX7_ticks_1 ?_
  refine r_iconst 4 (v := 0) hC dX7_ticks_4 (by decide) ?_
  refine r_dup2 5 hC dX7_ticks_5 rfl rfl ?_
  refine r_iald 6 hC ((pm_s7 hG hk0).1) (by unfold vp_in; decide) dX7_ticks_6 ?_
  refine r_iconst 7 (v := 1) hC dX7_ticks_7 (by decide) ?_
  refine r_iadd 8 hC dX7_ticks_8 ?_
  refine r_iast 9 hC ((pm_s7 hG hk0).1) (by unfold vp_in; decide) dX7_ticks_9 (fun I10 hI => ?_)
  replace h := h I10 hI; clear hI
  refine r_iconst 10 (v := 0) hC dX7_ticks_10 (by decide) ?_
  refine r_istore_n 11 [some (.ref (q0)), some (.int (0)), none, none] hC dX7_ticks_11 rfl (by decide) rfl ?_
  refine r_iconst 12 (v := 0) hC dX7_ticks_12 (by decide) ?_
  refine r_istore_n 13 [some (.ref (q0)), some (.int (0)), some (.int (0)), none] hC dX7_ticks_13 rfl (by decide) rfl ?_
  refine h (fun x13 x14 I12 => pm_R G X 4 0 0 14 [some (.ref (q0)), some (.int (x13)), some (.int (x14)), none] [] I12) ?_
  clear h; intro x13 x14 I12 h
  refine r_iload_n 14 hC dX7_ticks_14 rfl rfl ?_
  refine r_bipush 15 (v := 6) hC dX7_ticks_15 (by decide) ?_
  refine r_icmp_ge 17 46 hC dX7_ticks_17 (by decide) (fun hc => ?_) (fun hc => ?_)
  · replace h := h.1 hc
    refine r_iconst 46 (v := 0) hC dX7_ticks_46 (by decide) ?_
    refine r_istore_n 47 [some (.ref (q0)), some (.int (x13)), some (.int (0)), none] hC dX7_ticks_47 rfl (by decide) rfl ?_
    refine h (fun x17 I16 => pm_R G X 4 0 0 48 [some (.ref (q0)), some (.int (x13)), some (.int (x17)), none] [] I16) ?_
    clear h; intro x17 I16 h
    refine r_iload_n 48 hC dX7_ticks_48 rfl rfl ?_
    refine r_bipush 49 (v := 6) hC dX7_ticks_49 (by decide) ?_
    refine r_icmp_ge 51 73 hC dX7_ticks_51 (by decide) (fun hc => ?_) (fun hc => ?_)
    · replace h := h.1 hc
      refine r_iconst 73 (v := 0) hC dX7_ticks_73 (by decide) ?_
      refine r_istore_n 74 [some (.ref (q0)), some (.int (x13)), some (.int (0)), none] hC dX7_ticks_74 rfl (by decide) rfl ?_
      refine h (fun x20 I19 => pm_R G X 4 0 0 75 [some (.ref (q0)), some (.int (x13)), some (.int (x20)), none] [] I19) ?_
      clear h; intro x20 I19 h
      refine r_iload_n 75 hC dX7_ticks_75 rfl rfl ?_
      refine r_bipush 76 (v := 6) hC dX7_ticks_76 (by decide) ?_
      refine r_icmp_ge 78 145 hC dX7_ticks_78 (by decide) (fun hc => ?_) (fun hc => ?_)
      · replace h := h.1 hc
        refine r_iconst 145 (v := 0) hC dX7_ticks_145 (by decide) ?_
        refine r_istore_n 146 [some (.ref (q0)), some (.int (x13)), some (.int (0)), none] hC dX7_ticks_146 rfl (by decide) rfl ?_
        refine h (fun x23 I22 => pm_R G X 4 0 0 147 [some (.ref (q0)), some (.int (x13)), some (.int (x23)), none] [] I22) ?_
        clear h; intro x23 I22 h
        refine r_iload_n 147 hC dX7_ticks_147 rfl rfl ?_
        refine r_bipush 148 (v := 6) hC dX7_ticks_148 (by decide) ?_
        refine r_icmp_ge 150 172 hC dX7_ticks_150 (by decide) (fun hc => ?_) (fun hc => ?_)
        · replace h := h.1 hc
          refine r_iload_n 172 hC dX7_ticks_172 rfl rfl ?_
          exact r_iret 173 hC hE rfl dX7_ticks_173 ⟨_, rfl, h⟩
        · replace h := h.2 hc
          refine r_aload_n 153 hC dX7_ticks_153 rfl rfl ?_
          refine r_iload_n 154 hC dX7_ticks_154 rfl rfl ?_
          refine r_callV_i 155 (n := 1) [.int (x23)] [] hC hk0 rfl dX7_ticks_155 (by decide) (by decide) tw_1443 tw_135 ⟨by decide, by decide, by decide +kernel⟩ tw_1440 tw_1442 tw_106 rfl rfl (sX7_isOpen (l := pm_l X) hG (q0) (x23) _ _ hk0 h) hab (Nat.le_of_ble_eq_true rfl) ?_
          clear h; intro r25 I24 h
          refine r_if_eq 158 166 hC dX7_ticks_158 (by decide) (fun hc => ?_) (fun hc => ?_)
          · replace h := h.1 hc
            refine r_iinc 166 (v := x23 + 1) [some (.ref (q0)), some (.int (x13)), some (.int (x23 + 1)), none] hC dX7_ticks_166 rfl (by rfl) (by decide) rfl ?_
            refine r_goto 169 147 hC dX7_ticks_169 (by decide) ?_
            exact h
          · replace h := h.2 hc
            refine r_aload_n 161 hC dX7_ticks_161 rfl rfl ?_
            refine r_iload_n 162 hC dX7_ticks_162 rfl rfl ?_
            refine r_callV_v 163 (n := 1) [.int (x23)] [] hC hk0 rfl dX7_ticks_163 (by decide) (by decide) tw_1579 tw_135 ⟨by decide, by decide, by decide +kernel⟩ tw_1576 tw_1578 tw_123 rfl rfl (sX7_emptiesOld (l := pm_l X) hG (q0) (x23) _ _ hk0 h) hab (Nat.le_of_ble_eq_true rfl) ?_
            clear h; intro I26 h
            refine r_iinc 166 (v := x23 + 1) [some (.ref (q0)), some (.int (x13)), some (.int (x23 + 1)), none] hC dX7_ticks_166 rfl (by rfl) (by decide) rfl ?_
            refine r_goto 169 147 hC dX7_ticks_169 (by decide) ?_
            exact h
      · replace h := h.2 hc
        refine r_aload_n 81 hC dX7_ticks_81 rfl rfl ?_
        refine r_iload_n 82 hC dX7_ticks_82 rfl rfl ?_
        refine r_callV_i 83 (n := 1) [.int (x20)] [] hC hk0 rfl dX7_ticks_83 (by decide) (by decide) tw_1443 tw_135 ⟨by decide, by decide, by decide +kernel⟩ tw_1440 tw_1442 tw_106 rfl rfl (sX7_isOpen (l := pm_l X) hG (q0) (x20) _ _ hk0 h) hab (Nat.le_of_ble_eq_true rfl) ?_
        clear h; intro r28 I27 h
        refine r_if_eq 86 139 hC dX7_ticks_86 (by decide) (fun hc => ?_) (fun hc => ?_)
        · replace h := h.1 hc
          refine r_iinc 139 (v := x20 + 1) [some (.ref (q0)), some (.int (x13)), some (.int (x20 + 1)), none] hC dX7_ticks_139 rfl (by rfl) (by decide) rfl ?_
          refine r_goto 142 75 hC dX7_ticks_142 (by decide) ?_
          exact h
        · replace h := h.2 hc
          refine r_aload_n 89 hC dX7_ticks_89 rfl rfl ?_
          refine r_getR7 90 (r1 := q0 + 1) hC hk0 1 (by decide) tw_1180 rfl rfl dX7_ticks_90 ?_
          refine r_iload_n 93 hC dX7_ticks_93 rfl rfl ?_
          refine r_iconst 94 (v := 3) hC dX7_ticks_94 (by decide) ?_
          refine r_callS_i 95 (n := 2) [.int (x20), .int (3)] [.ref (q0 + 1)] hC dX7_ticks_95 (by decide) (by decide) tw_1446 tw_135 ⟨by decide, by decide, by decide +kernel⟩ tw_1444 tw_1445 rfl rfl (sX7_of (l := pm_l X) hG (x20) (3) _ _ h) hab (Nat.le_of_ble_eq_true rfl) ?_
          clear h; intro r30 I29 h
          refine r_iald 98 hC ((pm_s7 hG hk0).1) h.1 dX7_ticks_98 ?_
          replace h := h.2
          refine r_iconst 99 (v := -1) hC dX7_ticks_99 (by decide) ?_
          refine r_icmp_ne 100 139 hC dX7_ticks_100 (by decide) (fun hc => ?_) (fun hc => ?_)
          · replace h := h.1 hc
            refine r_iinc 139 (v := x20 + 1) [some (.ref (q0)), some (.int (x13)), some (.int (x20 + 1)), none] hC dX7_ticks_139 rfl (by rfl) (by decide) rfl ?_
            refine r_goto 142 75 hC dX7_ticks_142 (by decide) ?_
            exact h
          · replace h := h.2 hc
            refine r_aload_n 103 hC dX7_ticks_103 rfl rfl ?_
            refine r_aload_n 104 hC dX7_ticks_104 rfl rfl ?_
            refine r_getR7 105 (r1 := q0 + 1) hC hk0 1 (by decide) tw_1180 rfl rfl dX7_ticks_105 ?_
            refine r_iload_n 108 hC dX7_ticks_108 rfl rfl ?_
            refine r_iconst 109 (v := 1) hC dX7_ticks_109 (by decide) ?_
            refine r_callS_i 110 (n := 2) [.int (x20), .int (1)] [.ref (q0 + 1), .ref (q0)] hC dX7_ticks_110 (by decide) (by decide) tw_1446 tw_135 ⟨by decide, by decide, by decide +kernel⟩ tw_1444 tw_1445 rfl rfl (sX7_of (l := pm_l X) hG (x20) (1) _ _ h) hab (Nat.le_of_ble_eq_true rfl) ?_
            clear h; intro r32 I31 h
            refine r_iald 113 hC ((pm_s7 hG hk0).1) h.1 dX7_ticks_113 ?_
            replace h := h.2
            refine r_aload_n 114 hC dX7_ticks_114 rfl rfl ?_
            refine r_getR7 115 (r1 := q0 + 1) hC hk0 1 (by decide) tw_1180 rfl rfl dX7_ticks_115 ?_
            refine r_iload_n 118 hC dX7_ticks_118 rfl rfl ?_
            refine r_iconst 119 (v := 2) hC dX7_ticks_119 (by decide) ?_
            refine r_callS_i 120 (n := 2) [.int (x20), .int (2)] [.ref (q0 + 1), .int (I31 (q0 + 1) (r32).toNatClampNeg), .ref (q0)] hC dX7_ticks_120 (by decide) (by decide) tw_1446 tw_135 ⟨by decide, by decide, by decide +kernel⟩ tw_1444 tw_1445 rfl rfl (sX7_of (l := pm_l X) hG (x20) (2) _ _ h) hab (Nat.le_of_ble_eq_true rfl) ?_
            clear h; intro r34 I33 h
            refine r_iald 123 hC ((pm_s7 hG hk0).1) h.1 dX7_ticks_123 ?_
            replace h := h.2
            refine r_callV_i 124 (n := 2) [.int (I31 (q0 + 1) (r32).toNatClampNeg), .int (I33 (q0 + 1) (r34).toNatClampNeg)] [] hC hk0 rfl dX7_ticks_124 (by decide) (by decide) tw_1454 tw_135 ⟨by decide, by decide, by decide +kernel⟩ tw_1451 tw_1453 tw_107 rfl rfl (sX7_bestFor (l := pm_l X) hG (q0) (I31 (q0 + 1) (r32).toNatClampNeg) (I33 (q0 + 1) (r34).toNatClampNeg) _ _ hk0 h) hab (Nat.le_of_ble_eq_true rfl) ?_
            clear h; intro r36 I35 h
            refine r_istore_n 127 [some (.ref (q0)), some (.int (x13)), some (.int (x20)), some (.int (r36))] hC dX7_ticks_127 rfl (by decide) rfl ?_
            refine r_iload_n 128 hC dX7_ticks_128 rfl rfl ?_
            refine r_iconst 129 (v := -1) hC dX7_ticks_129 (by decide) ?_
            refine r_icmp_eq 130 139 hC dX7_ticks_130 (by decide) (fun hc => ?_) (fun hc => ?_)
            · replace h := h.1 hc
              refine r_iinc 139 (v := x20 + 1) [some (.ref (q0)), some (.int (x13)), some (.int (x20 + 1)), some (.int (r36))] hC dX7_ticks_139 rfl (by rfl) (by decide) rfl ?_
              refine r_goto 142 75 hC dX7_ticks_142 (by decide) ?_
              refine r_weak (ls' := [some (.ref (q0)), some (.int (x13)), some (.int (x20 + 1)), none]) (And.intro rfl (And.intro rfl (And.intro rfl (trivial)))) ?_
              exact h
            · replace h := h.2 hc
              refine r_aload_n 133 hC dX7_ticks_133 rfl rfl ?_
              refine r_iload_n 134 hC dX7_ticks_134 rfl rfl ?_
              refine r_iload_n 135 hC dX7_ticks_135 rfl rfl ?_
              refine r_callV_v 136 (n := 2) [.int (x20), .int (r36)] [] hC hk0 rfl dX7_ticks_136 (by decide) (by decide) tw_1563 tw_135 ⟨by decide, by decide, by decide +kernel⟩ tw_1560 tw_1562 tw_119 rfl rfl (sX7_takesPath (l := pm_l X) hG (q0) (x20) (r36) _ _ hk0 h) hab (Nat.le_of_ble_eq_true rfl) ?_
              clear h; intro I37 h
              refine r_iinc 139 (v := x20 + 1) [some (.ref (q0)), some (.int (x13)), some (.int (x20 + 1)), some (.int (r36))] hC dX7_ticks_139 rfl (by rfl) (by decide) rfl ?_
              refine r_goto 142 75 hC dX7_ticks_142 (by decide) ?_
              refine r_weak (ls' := [some (.ref (q0)), some (.int (x13)), some (.int (x20 + 1)), none]) (And.intro rfl (And.intro rfl (And.intro rfl (trivial)))) ?_
              exact h
    · replace h := h.2 hc
      refine r_aload_n 54 hC dX7_ticks_54 rfl rfl ?_
      refine r_iload_n 55 hC dX7_ticks_55 rfl rfl ?_
      refine r_callV_i 56 (n := 1) [.int (x17)] [] hC hk0 rfl dX7_ticks_56 (by decide) (by decide) tw_1443 tw_135 ⟨by decide, by decide, by decide +kernel⟩ tw_1440 tw_1442 tw_106 rfl rfl (sX7_isOpen (l := pm_l X) hG (q0) (x17) _ _ hk0 h) hab (Nat.le_of_ble_eq_true rfl) ?_
      clear h; intro r39 I38 h
      refine r_if_eq 59 67 hC dX7_ticks_59 (by decide) (fun hc => ?_) (fun hc => ?_)
      · replace h := h.1 hc
        refine r_iinc 67 (v := x17 + 1) [some (.ref (q0)), some (.int (x13)), some (.int (x17 + 1)), none] hC dX7_ticks_67 rfl (by rfl) (by decide) rfl ?_
        refine r_goto 70 48 hC dX7_ticks_70 (by decide) ?_
        exact h
      · replace h := h.2 hc
        refine r_aload_n 62 hC dX7_ticks_62 rfl rfl ?_
        refine r_iload_n 63 hC dX7_ticks_63 rfl rfl ?_
        refine r_callV_v 64 (n := 1) [.int (x17)] [] hC hk0 rfl dX7_ticks_64 (by decide) (by decide) tw_1559 tw_135 ⟨by decide, by decide, by decide +kernel⟩ tw_1556 tw_1558 tw_118 rfl rfl (sX7_probes (l := pm_l X) hG (q0) (x17) _ _ hk0 h) hab (Nat.le_of_ble_eq_true rfl) ?_
        clear h; intro I40 h
        refine r_iinc 67 (v := x17 + 1) [some (.ref (q0)), some (.int (x13)), some (.int (x17 + 1)), none] hC dX7_ticks_67 rfl (by rfl) (by decide) rfl ?_
        refine r_goto 70 48 hC dX7_ticks_70 (by decide) ?_
        exact h
  · replace h := h.2 hc
    refine r_iload_n 20 hC dX7_ticks_20 rfl rfl ?_
    refine r_aload_n 21 hC dX7_ticks_21 rfl rfl ?_
    refine r_iload_n 22 hC dX7_ticks_22 rfl rfl ?_
    refine r_callV_i 23 (n := 1) [.int (x14)] [.int (x13)] hC hk0 rfl dX7_ticks_23 (by decide) (by decide) tw_1443 tw_135 ⟨by decide, by decide, by decide +kernel⟩ tw_1440 tw_1442 tw_106 rfl rfl (sX7_isOpen (l := pm_l X) hG (q0) (x14) _ _ hk0 h) hab (Nat.le_of_ble_eq_true rfl) ?_
    clear h; intro r42 I41 h
    refine r_if_eq 26 37 hC dX7_ticks_26 (by decide) (fun hc => ?_) (fun hc => ?_)
    · replace h := h.1 hc
      refine r_iconst 37 (v := 0) hC dX7_ticks_37 (by decide) ?_
      refine r_iadd 38 hC dX7_ticks_38 ?_
      refine r_istore_n 39 [some (.ref (q0)), some (.int (x13 + 0)), some (.int (x14)), none] hC dX7_ticks_39 rfl (by decide) rfl ?_
      refine r_iinc 40 (v := x14 + 1) [some (.ref (q0)), some (.int (x13 + 0)), some (.int (x14 + 1)), none] hC dX7_ticks_40 rfl (by rfl) (by decide) rfl ?_
      refine r_goto 43 14 hC dX7_ticks_43 (by decide) ?_
      exact h
    · replace h := h.2 hc
      refine r_aload_n 29 hC dX7_ticks_29 rfl rfl ?_
      refine r_iload_n 30 hC dX7_ticks_30 rfl rfl ?_
      refine r_callV_i 31 (n := 1) [.int (x14)] [.int (x13)] hC hk0 rfl dX7_ticks_31 (by decide) (by decide) tw_1555 tw_135 ⟨by decide, by decide, by decide +kernel⟩ tw_1552 tw_1554 tw_117 rfl rfl (sX7_delivers (l := pm_l X) hG (q0) (x14) _ _ hk0 h) hab (Nat.le_of_ble_eq_true rfl) ?_
      clear h; intro r44 I43 h
      refine r_goto 34 38 hC dX7_ticks_34 (by decide) ?_
      refine r_iadd 38 hC dX7_ticks_38 ?_
      refine r_istore_n 39 [some (.ref (q0)), some (.int (x13 + r44)), some (.int (x14)), none] hC dX7_ticks_39 rfl (by decide) rfl ?_
      refine r_iinc 40 (v := x14 + 1) [some (.ref (q0)), some (.int (x13 + r44)), some (.int (x14 + 1)), none] hC dX7_ticks_40 rfl (by rfl) (by decide) rfl ?_
      refine r_goto 43 14 hC dX7_ticks_43 (by decide) ?_
      exact h

def wX7_usesLink (G : pm_G) (q0 : Nat) (x1 : Int32) (x2 : Int32) (x3 : Int32) (x4 : Int32) (I : pm_I) (K : Int32 → pm_I → Prop) : Prop :=
  wX7_of G (x1) (1) I (fun r11 I10 => vp_in (r11) 821 ∧ (wX7_of G (x1) (2) I10 (fun r13 I12 => vp_in (r13) 821 ∧ ((¬ x2 = (-1) → ((¬ x2 = 100 → ((¬ x2 = x3 → ((¬ x2 = x4 → K 0 I12) ∧ (x2 = x4 → ((x3 = (I10 (q0 + 1) (r11).toNatClampNeg) → K 1 I12) ∧ (¬ x3 = (I10 (q0 + 1) (r11).toNatClampNeg) → ((¬ x3 = (I12 (q0 + 1) (r13).toNatClampNeg) → K 0 I12) ∧ (x3 = (I12 (q0 + 1) (r13).toNatClampNeg) → K 1 I12))))))) ∧ (x2 = x3 → ((x4 = (I10 (q0 + 1) (r11).toNatClampNeg) → K 1 I12) ∧ (¬ x4 = (I10 (q0 + 1) (r11).toNatClampNeg) → ((x4 = (I12 (q0 + 1) (r13).toNatClampNeg) → K 1 I12) ∧ (¬ x4 = (I12 (q0 + 1) (r13).toNatClampNeg) → ((¬ x2 = x4 → K 0 I12) ∧ (x2 = x4 → ((x3 = (I10 (q0 + 1) (r11).toNatClampNeg) → K 1 I12) ∧ (¬ x3 = (I10 (q0 + 1) (r11).toNatClampNeg) → ((¬ x3 = (I12 (q0 + 1) (r13).toNatClampNeg) → K 0 I12) ∧ (x3 = (I12 (q0 + 1) (r13).toNatClampNeg) → K 1 I12))))))))))))) ∧ (x2 = 100 → ((¬ (I10 (q0 + 1) (r11).toNatClampNeg) = x3 → ((¬ (I10 (q0 + 1) (r11).toNatClampNeg) = x4 → K 0 I12) ∧ ((I10 (q0 + 1) (r11).toNatClampNeg) = x4 → ((¬ (I12 (q0 + 1) (r13).toNatClampNeg) = x3 → K 0 I12) ∧ ((I12 (q0 + 1) (r13).toNatClampNeg) = x3 → K 1 I12))))) ∧ ((I10 (q0 + 1) (r11).toNatClampNeg) = x3 → (((I12 (q0 + 1) (r13).toNatClampNeg) = x4 → K 1 I12) ∧ (¬ (I12 (q0 + 1) (r13).toNatClampNeg) = x4 → ((¬ (I10 (q0 + 1) (r11).toNatClampNeg) = x4 → K 0 I12) ∧ ((I10 (q0 + 1) (r11).toNatClampNeg) = x4 → ((¬ (I12 (q0 + 1) (r13).toNatClampNeg) = x3 → K 0 I12) ∧ ((I12 (q0 + 1) (r13).toNatClampNeg) = x3 → K 1 I12))))))))))) ∧ (x2 = (-1) → K 0 I12)))))

set_option maxRecDepth 20000 in
theorem sX7_usesLink {G : pm_G} {l : Launch} (hG : pm_ok G) (q0 : Nat) (x1 : Int32) (x2 : Int32) (x3 : Int32) (x4 : Int32) (I : pm_I) (K : Int32 → pm_I → Prop) (hk0 : pm_k G q0 (.inl 7)) (h : wX7_usesLink G q0 x1 x2 x3 x4 I K) : pm_Ct G l yX7_usesLink cX7_usesLink 7 (some .boolean) { frames := 2, cells := 0, slots := 0, locals := 149 } [.ref (q0), .int (x1), .int (x2), .int (x3), .int (x4)] I (pm_Ki K) := by
  unfold wX7_usesLink at h
  refine pm_enter (by decide +kernel) hG rfl (Nat.le_of_ble_eq_true rfl) rfl (fun X hl hC hE => ?_)
  subst hl
  have hab : 0 ≤ 0 ∧ 0 ≤ 0 := ⟨Nat.le_refl 0, Nat.le_refl 0⟩
  have hC : pm_C G X cX7_usesLink 7 RX7 (some .boolean) { frames := 2, cells := 0, slots := 0, locals := 149 } := hC
  refine r_aload_n 0 hC dX7_usesLink_0 rfl rfl ?_
  refine r_getR7 1 (r1 := q0 + 1) hC hk0 1 (by decide) tw_1180 rfl rfl dX7_usesLink_1 ?_
  refine r_iload_n 4 hC dX7_usesLink_4 rfl rfl ?_
  refine r_iconst 5 (v := 1) hC dX7_usesLink_5 (by decide) ?_
  refine r_callS_i 6 (n := 2) [.int (x1), .int (1)] [.ref (q0 + 1)] hC dX7_usesLink_6 (by decide) (by decide) tw_1446 tw_135 ⟨by decide, by decide, by decide +kernel⟩ tw_1444 tw_1445 rfl rfl (sX7_of (l := pm_l X) hG (x1) (1) _ _ h) hab (Nat.le_of_ble_eq_true rfl) ?_
  clear h; intro r11 I10 h
  refine r_iald 9 hC ((pm_s7 hG hk0).1) h.1 dX7_usesLink_9 ?_
  replace h := h.2
  refine r_istore 10 [some (.ref (q0)), some (.int (x1)), some (.int (x2)), some (.int (x3)), some (.int (x4)), some (.int (I10 (q0 + 1) (r11).toNatClampNeg)), none] hC dX7_usesLink_10 (by decide) rfl ?_
  refine r_aload_n 12 hC dX7_usesLink_12 rfl rfl ?_
  refine r_getR7 13 (r1 := q0 + 1) hC hk0 1 (by decide) tw_1180 rfl rfl dX7_usesLink_13 ?_
  refine r_iload_n 16 hC dX7_usesLink_16 rfl rfl ?_
  refine r_iconst 17 (v := 2) hC dX7_usesLink_17 (by decide) ?_
  refine r_callS_i 18 (n := 2) [.int (x1), .int (2)] [.ref (q0 + 1)] hC dX7_usesLink_18 (by decide) (by decide) tw_1446 tw_135 ⟨by decide, by decide, by decide +kernel⟩ tw_1444 tw_1445 rfl rfl (sX7_of (l := pm_l X) hG (x1) (2) _ _ h) hab (Nat.le_of_ble_eq_true rfl) ?_
  clear h; intro r13 I12 h
  refine r_iald 21 hC ((pm_s7 hG hk0).1) h.1 dX7_usesLink_21 ?_
  replace h := h.2
  refine r_istore 22 [some (.ref (q0)), some (.int (x1)), some (.int (x2)), some (.int (x3)), some (.int (x4)), some (.int (I10 (q0 + 1) (r11).toNatClampNeg)), some (.int (I12 (q0 + 1) (r13).toNatClampNeg))] hC dX7_usesLink_22 (by decide) rfl ?_
  refine r_iload_n 24 hC dX7_usesLink_24 rfl rfl ?_
  refine r_iconst 25 (v := -1) hC dX7_usesLink_25 (by decide) ?_
  refine r_icmp_ne 26 31 hC dX7_usesLink_26 (by decide) (fun hc => ?_) (fun hc => ?_)
  · replace h := h.1 hc
    refine r_iload_n 31 hC dX7_usesLink_31 rfl rfl ?_
    refine r_bipush 32 (v := 100) hC dX7_usesLink_32 (by decide) ?_
    refine r_icmp_ne 34 69 hC dX7_usesLink_34 (by decide) (fun hc => ?_) (fun hc => ?_)
    · replace h := h.1 hc
      refine r_iload_n 69 hC dX7_usesLink_69 rfl rfl ?_
      refine r_iload_n 70 hC dX7_usesLink_70 rfl rfl ?_
      refine r_icmp_ne 71 88 hC dX7_usesLink_71 (by decide) (fun hc => ?_) (fun hc => ?_)
      · replace h := h.1 hc
        refine r_iload_n 88 hC dX7_usesLink_88 rfl rfl ?_
        refine r_iload 89 hC dX7_usesLink_89 rfl ?_
        refine r_icmp_ne 91 110 hC dX7_usesLink_91 (by decide) (fun hc => ?_) (fun hc => ?_)
        · replace h := h.1 hc
          refine r_iconst 110 (v := 0) hC dX7_usesLink_110 (by decide) ?_
          exact r_iret 111 hC hE rfl dX7_usesLink_111 ⟨_, rfl, h⟩
        · replace h := h.2 hc
          refine r_iload_n 94 hC dX7_usesLink_94 rfl rfl ?_
          refine r_iload 95 hC dX7_usesLink_95 rfl ?_
          refine r_icmp_eq 97 106 hC dX7_usesLink_97 (by decide) (fun hc => ?_) (fun hc => ?_)
          · replace h := h.1 hc
            refine r_iconst 106 (v := 1) hC dX7_usesLink_106 (by decide) ?_
            refine r_goto 107 111 hC dX7_usesLink_107 (by decide) ?_
            exact r_iret 111 hC hE rfl dX7_usesLink_111 ⟨_, rfl, h⟩
          · replace h := h.2 hc
            refine r_iload_n 100 hC dX7_usesLink_100 rfl rfl ?_
            refine r_iload 101 hC dX7_usesLink_101 rfl ?_
            refine r_icmp_ne 103 110 hC dX7_usesLink_103 (by decide) (fun hc => ?_) (fun hc => ?_)
            · replace h := h.1 hc
              refine r_iconst 110 (v := 0) hC dX7_usesLink_110 (by decide) ?_
              exact r_iret 111 hC hE rfl dX7_usesLink_111 ⟨_, rfl, h⟩
            · replace h := h.2 hc
              refine r_iconst 106 (v := 1) hC dX7_usesLink_106 (by decide) ?_
              refine r_goto 107 111 hC dX7_usesLink_107 (by decide) ?_
              exact r_iret 111 hC hE rfl dX7_usesLink_111 ⟨_, rfl, h⟩
      · replace h := h.2 hc
        refine r_iload 74 hC dX7_usesLink_74 rfl ?_
        refine r_iload 76 hC dX7_usesLink_76 rfl ?_
        refine r_icmp_eq 78 106 hC dX7_usesLink_78 (by decide) (fun hc => ?_) (fun hc => ?_)
        · replace h := h.1 hc
          refine r_iconst 106 (v := 1) hC dX7_usesLink_106 (by decide) ?_
          refine r_goto 107 111 hC dX7_usesLink_107 (by decide) ?_
          exact r_iret 111 hC hE rfl dX7_usesLink_111 ⟨_, rfl, h⟩
        · replace h := h.2 hc
          refine r_iload 81 hC dX7_usesLink_81 rfl ?_
          refine r_iload 83 hC dX7_usesLink_83 rfl ?_
          refine r_icmp_eq 85 106 hC dX7_usesLink_85 (by decide) (fun hc => ?_) (fun hc => ?_)
          · replace h := h.1 hc
            refine r_iconst 106 (v := 1) hC dX7_usesLink_106 (by decide) ?_
            refine r_goto 107 111 hC dX7_usesLink_107 (by decide) ?_
            exact r_iret 111 hC hE rfl dX7_usesLink_111 ⟨_, rfl, h⟩
          · replace h := h.2 hc
            refine r_iload_n 88 hC dX7_usesLink_88 rfl rfl ?_
            refine r_iload 89 hC dX7_usesLink_89 rfl ?_
            refine r_icmp_ne 91 110 hC dX7_usesLink_91 (by decide) (fun hc => ?_) (fun hc => ?_)
            · replace h := h.1 hc
              refine r_iconst 110 (v := 0) hC dX7_usesLink_110 (by decide) ?_
              exact r_iret 111 hC hE rfl dX7_usesLink_111 ⟨_, rfl, h⟩
            · replace h := h.2 hc
              refine r_iload_n 94 hC dX7_usesLink_94 rfl rfl ?_
              refine r_iload 95 hC dX7_usesLink_95 rfl ?_
              refine r_icmp_eq 97 106 hC dX7_usesLink_97 (by decide) (fun hc => ?_) (fun hc => ?_)
              · replace h := h.1 hc
                refine r_iconst 106 (v := 1) hC dX7_usesLink_106 (by decide) ?_
                refine r_goto 107 111 hC dX7_usesLink_107 (by decide) ?_
                exact r_iret 111 hC hE rfl dX7_usesLink_111 ⟨_, rfl, h⟩
              · replace h := h.2 hc
                refine r_iload_n 100 hC dX7_usesLink_100 rfl rfl ?_
                refine r_iload 101 hC dX7_usesLink_101 rfl ?_
                refine r_icmp_ne 103 110 hC dX7_usesLink_103 (by decide) (fun hc => ?_) (fun hc => ?_)
                · replace h := h.1 hc
                  refine r_iconst 110 (v := 0) hC dX7_usesLink_110 (by decide) ?_
                  exact r_iret 111 hC hE rfl dX7_usesLink_111 ⟨_, rfl, h⟩
                · replace h := h.2 hc
                  refine r_iconst 106 (v := 1) hC dX7_usesLink_106 (by decide) ?_
                  refine r_goto 107 111 hC dX7_usesLink_107 (by decide) ?_
                  exact r_iret 111 hC hE rfl dX7_usesLink_111 ⟨_, rfl, h⟩
    · replace h := h.2 hc
      refine r_iload 37 hC dX7_usesLink_37 rfl ?_
      refine r_iload_n 39 hC dX7_usesLink_39 rfl rfl ?_
      refine r_icmp_ne 40 50 hC dX7_usesLink_40 (by decide) (fun hc => ?_) (fun hc => ?_)
      · replace h := h.1 hc
        refine r_iload 50 hC dX7_usesLink_50 rfl ?_
        refine r_iload 52 hC dX7_usesLink_52 rfl ?_
        refine r_icmp_ne 54 67 hC dX7_usesLink_54 (by decide) (fun hc => ?_) (fun hc => ?_)
        · replace h := h.1 hc
          refine r_iconst 67 (v := 0) hC dX7_usesLink_67 (by decide) ?_
          exact r_iret 68 hC hE rfl dX7_usesLink_68 ⟨_, rfl, h⟩
        · replace h := h.2 hc
          refine r_iload 57 hC dX7_usesLink_57 rfl ?_
          refine r_iload_n 59 hC dX7_usesLink_59 rfl rfl ?_
          refine r_icmp_ne 60 67 hC dX7_usesLink_60 (by decide) (fun hc => ?_) (fun hc => ?_)
          · replace h := h.1 hc
            refine r_iconst 67 (v := 0) hC dX7_usesLink_67 (by decide) ?_
            exact r_iret 68 hC hE rfl dX7_usesLink_68 ⟨_, rfl, h⟩
          · replace h := h.2 hc
            refine r_iconst 63 (v := 1) hC dX7_usesLink_63 (by decide) ?_
            refine r_goto 64 68 hC dX7_usesLink_64 (by decide) ?_
            exact r_iret 68 hC hE rfl dX7_usesLink_68 ⟨_, rfl, h⟩
      · replace h := h.2 hc
        refine r_iload 43 hC dX7_usesLink_43 rfl ?_
        refine r_iload 45 hC dX7_usesLink_45 rfl ?_
        refine r_icmp_eq 47 63 hC dX7_usesLink_47 (by decide) (fun hc => ?_) (fun hc => ?_)
        · replace h := h.1 hc
          refine r_iconst 63 (v := 1) hC dX7_usesLink_63 (by decide) ?_
          refine r_goto 64 68 hC dX7_usesLink_64 (by decide) ?_
          exact r_iret 68 hC hE rfl dX7_usesLink_68 ⟨_, rfl, h⟩
        · replace h := h.2 hc
          refine r_iload 50 hC dX7_usesLink_50 rfl ?_
          refine r_iload 52 hC dX7_usesLink_52 rfl ?_
          refine r_icmp_ne 54 67 hC dX7_usesLink_54 (by decide) (fun hc => ?_) (fun hc => ?_)
          · replace h := h.1 hc
            refine r_iconst 67 (v := 0) hC dX7_usesLink_67 (by decide) ?_
            exact r_iret 68 hC hE rfl dX7_usesLink_68 ⟨_, rfl, h⟩
          · replace h := h.2 hc
            refine r_iload 57 hC dX7_usesLink_57 rfl ?_
            refine r_iload_n 59 hC dX7_usesLink_59 rfl rfl ?_
            refine r_icmp_ne 60 67 hC dX7_usesLink_60 (by decide) (fun hc => ?_) (fun hc => ?_)
            · replace h := h.1 hc
              refine r_iconst 67 (v := 0) hC dX7_usesLink_67 (by decide) ?_
              exact r_iret 68 hC hE rfl dX7_usesLink_68 ⟨_, rfl, h⟩
            · replace h := h.2 hc
              refine r_iconst 63 (v := 1) hC dX7_usesLink_63 (by decide) ?_
              refine r_goto 64 68 hC dX7_usesLink_64 (by decide) ?_
              exact r_iret 68 hC hE rfl dX7_usesLink_68 ⟨_, rfl, h⟩
  · replace h := h.2 hc
    refine r_iconst 29 (v := 0) hC dX7_usesLink_29 (by decide) ?_
    exact r_iret 30 hC hE rfl dX7_usesLink_30 ⟨_, rfl, h⟩

def wX7_breaks (G : pm_G) (q0 : Nat) (x1 : Int32) (x2 : Int32) (x3 : Int32) (I : pm_I) (K : Int32 → pm_I → Prop) : Prop :=
  wX7_of G (x1) (4) I (fun r11 I10 => vp_in (r11) 821 ∧ (wX7_usesLink G (q0) (x1) (I10 (q0 + 1) (r11).toNatClampNeg) (x2) (x3) I10 (fun r13 I12 => (r13 = 0 → (wX7_of G (x1) (3) I12 (fun r15 I14 => vp_in (r15) 821 ∧ (wX7_usesLink G (q0) (x1) (I14 (q0 + 1) (r15).toNatClampNeg) (x2) (x3) I14 (fun r17 I16 => (r17 = 0 → (pm_lp3 (fun (P18 : Int32 → Int32 → pm_I → Prop) (x20 : Int32) (x21 : Int32) (I19 : pm_I) => wX7_undelivered G (q0) (x1) I19 (fun r23 I22 => (r23 ≤ x21 → (K (x20) I22)) ∧ (¬ r23 ≤ x21 → (wX7_message G (x1) (x21) I22 (fun r25 I24 => vp_in (r25 + 0) 821 ∧ ((¬ (I24 (q0 + 1) (r25 + 0).toNatClampNeg) = 1 → (P18 (x20) (x21 + 1) I24)) ∧ ((I24 (q0 + 1) (r25 + 0).toNatClampNeg) = 1 → (vp_in (r25 + 4) 821 ∧ (wX7_usesLink G (q0) (x1) (I24 (q0 + 1) (r25 + 4).toNatClampNeg) (x2) (x3) I24 (fun r27 I26 => (r27 = 0 → (P18 (x20) (x21 + 1) I26)) ∧ (¬ r27 = 0 → (wX7_travels G (q0) (x1) (r25) I26 (fun I28 => P18 (x20 + 1) (x21 + 1) I28))))))))))))) (0) (0) I16)) ∧ (¬ r17 = 0 → (wX7_of G (x1) (5) I16 (fun r30 I29 => vp_in (r30) 821 ∧ (∀ I31 : pm_I, I31 = pm_up I29 (q0 + 1) ((r30).toNatClampNeg) (0) → (wX7_of G (x1) (1) I31 (fun r33 I32 => vp_in (r33) 821 ∧ (wX7_of G (x1) (2) I32 (fun r35 I34 => vp_in (r35) 821 ∧ (wX7_bestFor G (q0) (I32 (q0 + 1) (r33).toNatClampNeg) (I34 (q0 + 1) (r35).toNatClampNeg) I34 (fun r37 I36 => wX7_takesPath G (q0) (x1) (r37) I36 (fun I38 => pm_lp3 (fun (P39 : Int32 → Int32 → pm_I → Prop) (x41 : Int32) (x42 : Int32) (I40 : pm_I) => wX7_undelivered G (q0) (x1) I40 (fun r44 I43 => (r44 ≤ x42 → (K (x41) I43)) ∧ (¬ r44 ≤ x42 → (wX7_message G (x1) (x42) I43 (fun r46 I45 => vp_in (r46 + 0) 821 ∧ ((¬ (I45 (q0 + 1) (r46 + 0).toNatClampNeg) = 1 → (P39 (x41) (x42 + 1) I45)) ∧ ((I45 (q0 + 1) (r46 + 0).toNatClampNeg) = 1 → (vp_in (r46 + 4) 821 ∧ (wX7_usesLink G (q0) (x1) (I45 (q0 + 1) (r46 + 4).toNatClampNeg) (x2) (x3) I45 (fun r48 I47 => (r48 = 0 → (P39 (x41) (x42 + 1) I47)) ∧ (¬ r48 = 0 → (wX7_travels G (q0) (x1) (r46) I47 (fun I49 => P39 (x41 + 1) (x42 + 1) I49))))))))))))) (0) (0) I38)))))))))))))))) ∧ (¬ r13 = 0 → (wX7_of G (x1) (4) I12 (fun r51 I50 => vp_in (r51) 821 ∧ (∀ I52 : pm_I, I52 = pm_up I50 (q0 + 1) ((r51).toNatClampNeg) (-1) → (wX7_of G (x1) (3) I52 (fun r54 I53 => vp_in (r54) 821 ∧ (wX7_usesLink G (q0) (x1) (I53 (q0 + 1) (r54).toNatClampNeg) (x2) (x3) I53 (fun r56 I55 => (r56 = 0 → (pm_lp3 (fun (P57 : Int32 → Int32 → pm_I → Prop) (x59 : Int32) (x60 : Int32) (I58 : pm_I) => wX7_undelivered G (q0) (x1) I58 (fun r62 I61 => (r62 ≤ x60 → (K (x59) I61)) ∧ (¬ r62 ≤ x60 → (wX7_message G (x1) (x60) I61 (fun r64 I63 => vp_in (r64 + 0) 821 ∧ ((¬ (I63 (q0 + 1) (r64 + 0).toNatClampNeg) = 1 → (P57 (x59) (x60 + 1) I63)) ∧ ((I63 (q0 + 1) (r64 + 0).toNatClampNeg) = 1 → (vp_in (r64 + 4) 821 ∧ (wX7_usesLink G (q0) (x1) (I63 (q0 + 1) (r64 + 4).toNatClampNeg) (x2) (x3) I63 (fun r66 I65 => (r66 = 0 → (P57 (x59) (x60 + 1) I65)) ∧ (¬ r66 = 0 → (wX7_travels G (q0) (x1) (r64) I65 (fun I67 => P57 (x59 + 1) (x60 + 1) I67))))))))))))) (0) (0) I55)) ∧ (¬ r56 = 0 → (wX7_of G (x1) (5) I55 (fun r69 I68 => vp_in (r69) 821 ∧ (∀ I70 : pm_I, I70 = pm_up I68 (q0 + 1) ((r69).toNatClampNeg) (0) → (wX7_of G (x1) (1) I70 (fun r72 I71 => vp_in (r72) 821 ∧ (wX7_of G (x1) (2) I71 (fun r74 I73 => vp_in (r74) 821 ∧ (wX7_bestFor G (q0) (I71 (q0 + 1) (r72).toNatClampNeg) (I73 (q0 + 1) (r74).toNatClampNeg) I73 (fun r76 I75 => wX7_takesPath G (q0) (x1) (r76) I75 (fun I77 => pm_lp3 (fun (P78 : Int32 → Int32 → pm_I → Prop) (x80 : Int32) (x81 : Int32) (I79 : pm_I) => wX7_undelivered G (q0) (x1) I79 (fun r83 I82 => (r83 ≤ x81 → (K (x80) I82)) ∧ (¬ r83 ≤ x81 → (wX7_message G (x1) (x81) I82 (fun r85 I84 => vp_in (r85 + 0) 821 ∧ ((¬ (I84 (q0 + 1) (r85 + 0).toNatClampNeg) = 1 → (P78 (x80) (x81 + 1) I84)) ∧ ((I84 (q0 + 1) (r85 + 0).toNatClampNeg) = 1 → (vp_in (r85 + 4) 821 ∧ (wX7_usesLink G (q0) (x1) (I84 (q0 + 1) (r85 + 4).toNatClampNeg) (x2) (x3) I84 (fun r87 I86 => (r87 = 0 → (P78 (x80) (x81 + 1) I86)) ∧ (¬ r87 = 0 → (wX7_travels G (q0) (x1) (r85) I86 (fun I88 => P78 (x80 + 1) (x81 + 1) I88))))))))))))) (0) (0) I77))))))))))))))))))))))

set_option maxRecDepth 20000 in
theorem sX7_breaks {G : pm_G} {l : Launch} (hG : pm_ok G) (q0 : Nat) (x1 : Int32) (x2 : Int32) (x3 : Int32) (I : pm_I) (K : Int32 → pm_I → Prop) (hk0 : pm_k G q0 (.inl 7)) (h : wX7_breaks G q0 x1 x2 x3 I K) : pm_Ct G l yX7_breaks cX7_breaks 7 (some .int) { frames := 6, cells := 0, slots := 0, locals := 501 } [.ref (q0), .int (x1), .int (x2), .int (x3)] I (pm_Ki K) := by
  unfold wX7_breaks at h
  refine pm_enter (by decide +kernel) hG rfl (Nat.le_of_ble_eq_true rfl) rfl (fun X hl hC hE => ?_)
  subst hl
  have hab : 0 ≤ 0 ∧ 0 ≤ 0 := ⟨Nat.le_refl 0, Nat.le_refl 0⟩
  have hC : pm_C G X cX7_breaks 7 RX7 (some .int) { frames := 6, cells := 0, slots := 0, locals := 501 } := hC
  refine r_aload_n 0 hC dX7_breaks_0 rfl rfl ?_
  refine r_iload_n 1 hC dX7_breaks_1 rfl rfl ?_
  refine r_aload_n 2 hC dX7_breaks_2 rfl rfl ?_
  refine r_getR7 3 (r1 := q0 + 1) hC hk0 1 (by decide) tw_1180 rfl rfl dX7_breaks_3 ?_
  refine r_iload_n 6 hC dX7_breaks_6 rfl rfl ?_
  refine r_iconst 7 (v := 4) hC dX7_breaks_7 (by decide) ?_
  refine r_callS_i 8 (n := 2) [.int (x1), .int (4)] [.ref (q0 + 1), .int (x1), .ref (q0)] hC dX7_breaks_8 (by decide) (by decide) tw_1446 tw_135 ⟨by decide, by decide, by decide +kernel⟩ tw_1444 tw_1445 rfl rfl (sX7_of (l := pm_l X) hG (x1) (4) _ _ h) hab (Nat.le_of_ble_eq_true rfl) ?_
  clear h; intro r11 I10 h
  refine r_iald 11 hC ((pm_s7 hG hk0).1) h.1 dX7_breaks_11 ?_
  replace h := h.2
  refine r_iload_n 12 hC dX7_breaks_12 rfl rfl ?_
  refine r_iload_n 13 hC dX7_breaks_13 rfl rfl ?_
  refine r_callV_i 14 (n := 4) [.int (x1), .int (I10 (q0 + 1) (r11).toNatClampNeg), .int (x2), .int (x3)] [] hC hk0 rfl dX7_breaks_14 (by decide) (by decide) tw_1618 tw_135 ⟨by decide, by decide, by decide +kernel⟩ tw_1615 tw_1617 tw_126 rfl rfl (sX7_usesLink (l := pm_l X) hG (q0) (x1) (I10 (q0 + 1) (r11).toNatClampNeg) (x2) (x3) _ _ hk0 h) hab (Nat.le_of_ble_eq_true rfl) ?_
  clear h; intro r13 I12 h
  refine r_if_eq 17 31 hC dX7_breaks_17 (by decide) (fun hc => ?_) (fun hc => ?_)
  · replace h := h.1 hc
    refine r_aload_n 31 hC dX7_breaks_31 rfl rfl ?_
    refine r_iload_n 32 hC dX7_breaks_32 rfl rfl ?_
    refine r_aload_n 33 hC dX7_breaks_33 rfl rfl ?_
    refine r_getR7 34 (r1 := q0 + 1) hC hk0 1 (by decide) tw_1180 rfl rfl dX7_breaks_34 ?_
    refine r_iload_n 37 hC dX7_breaks_37 rfl rfl ?_
    refine r_iconst 38 (v := 3) hC dX7_breaks_38 (by decide) ?_
    refine r_callS_i 39 (n := 2) [.int (x1), .int (3)] [.ref (q0 + 1), .int (x1), .ref (q0)] hC dX7_breaks_39 (by decide) (by decide) tw_1446 tw_135 ⟨by decide, by decide, by decide +kernel⟩ tw_1444 tw_1445 rfl rfl (sX7_of (l := pm_l X) hG (x1) (3) _ _ h) hab (Nat.le_of_ble_eq_true rfl) ?_
    clear h; intro r15 I14 h
    refine r_iald 42 hC ((pm_s7 hG hk0).1) h.1 dX7_breaks_42 ?_
    replace h := h.2
    refine r_iload_n 43 hC dX7_breaks_43 rfl rfl ?_
    refine r_iload_n 44 hC dX7_breaks_44 rfl rfl ?_
    refine r_callV_i 45 (n := 4) [.int (x1), .int (I14 (q0 + 1) (r15).toNatClampNeg), .int (x2), .int (x3)] [] hC hk0 rfl dX7_breaks_45 (by decide) (by decide) tw_1618 tw_135 ⟨by decide, by decide, by decide +kernel⟩ tw_1615 tw_1617 tw_126 rfl rfl (sX7_usesLink (l := pm_l X) hG (q0) (x1) (I14 (q0 + 1) (r15).toNatClampNeg) (x2) (x3) _ _ hk0 h) hab (Nat.le_of_ble_eq_true rfl) ?_
    clear h; intro r17 I16 h
    refine r_if_eq 48 91 hC dX7_breaks_48 (by decide) (fun hc => ?_) (fun hc => ?_)
    · replace h := h.1 hc
      refine r_iconst 91 (v := 0) hC dX7_breaks_91 (by decide) ?_
      refine r_istore 92 [some (.ref (q0)), some (.int (x1)), some (.int (x2)), some (.int (x3)), some (.int (0)), none, none] hC dX7_breaks_92 (by decide) rfl ?_
      refine r_iconst 94 (v := 0) hC dX7_breaks_94 (by decide) ?_
      refine r_istore 95 [some (.ref (q0)), some (.int (x1)), some (.int (x2)), some (.int (x3)), some (.int (0)), some (.int (0)), none] hC dX7_breaks_95 (by decide) rfl ?_
      refine h (fun x20 x21 I19 => pm_R G X 7 0 0 97 [some (.ref (q0)), some (.int (x1)), some (.int (x2)), some (.int (x3)), some (.int (x20)), some (.int (x21)), none] [] I19) ?_
      clear h; intro x20 x21 I19 h
      refine r_iload 97 hC dX7_breaks_97 rfl ?_
      refine r_aload_n 99 hC dX7_breaks_99 rfl rfl ?_
      refine r_iload_n 100 hC dX7_breaks_100 rfl rfl ?_
      refine r_callV_i 101 (n := 1) [.int (x1)] [.int (x21)] hC hk0 rfl dX7_breaks_101 (by decide) (by decide) tw_1517 tw_135 ⟨by decide, by decide, by decide +kernel⟩ tw_1514 tw_1516 tw_115 rfl rfl (sX7_undelivered (l := pm_l X) hG (q0) (x1) _ _ hk0 h) hab (Nat.le_of_ble_eq_true rfl) ?_
      clear h; intro r23 I22 h
      refine r_icmp_ge 104 163 hC dX7_breaks_104 (by decide) (fun hc => ?_) (fun hc => ?_)
      · replace h := h.1 hc
        refine r_iload 163 hC dX7_breaks_163 rfl ?_
        exact r_iret 165 hC hE rfl dX7_breaks_165 ⟨_, rfl, h⟩
      · replace h := h.2 hc
        refine r_iload_n 107 hC dX7_breaks_107 rfl rfl ?_
        refine r_iload 108 hC dX7_breaks_108 rfl ?_
        refine r_callS_i 110 (n := 2) [.int (x1), .int (x21)] [] hC dX7_breaks_110 (by decide) (by decide) tw_1520 tw_135 ⟨by decide, by decide, by decide +kernel⟩ tw_1518 tw_1519 rfl rfl (sX7_message (l := pm_l X) hG (x1) (x21) _ _ h) hab (Nat.le_of_ble_eq_true rfl) ?_
        clear h; intro r25 I24 h
        refine r_istore 113 [some (.ref (q0)), some (.int (x1)), some (.int (x2)), some (.int (x3)), some (.int (x20)), some (.int (x21)), some (.int (r25))] hC dX7_breaks_113 (by decide) rfl ?_
        refine r_aload_n 115 hC dX7_breaks_115 rfl rfl ?_
        refine r_getR7 116 (r1 := q0 + 1) hC hk0 1 (by decide) tw_1180 rfl rfl dX7_breaks_116 ?_
        refine r_iload 119 hC dX7_breaks_119 rfl ?_
        refine r_iconst 121 (v := 0) hC dX7_breaks_121 (by decide) ?_
        refine r_iadd 122 hC dX7_breaks_122 ?_
        refine r_iald 123 hC ((pm_s7 hG hk0).1) h.1 dX7_breaks_123 ?_
        replace h := h.2
        refine r_iconst 124 (v := 1) hC dX7_breaks_124 (by decide) ?_
        refine r_icmp_ne 125 157 hC dX7_breaks_125 (by decide) (fun hc => ?_) (fun hc => ?_)
        · replace h := h.1 hc
          refine r_iinc 157 (v := x21 + 1) [some (.ref (q0)), some (.int (x1)), some (.int (x2)), some (.int (x3)), some (.int (x20)), some (.int (x21 + 1)), some (.int (r25))] hC dX7_breaks_157 rfl (by rfl) (by decide) rfl ?_
          refine r_goto 160 97 hC dX7_breaks_160 (by decide) ?_
          refine r_weak (ls' := [some (.ref (q0)), some (.int (x1)), some (.int (x2)), some (.int (x3)), some (.int (x20)), some (.int (x21 + 1)), none]) (And.intro rfl (And.intro rfl (And.intro rfl (And.intro rfl (And.intro rfl (And.intro rfl (trivial))))))) ?_
          exact h
        · replace h := h.2 hc
          refine r_aload_n 128 hC dX7_breaks_128 rfl rfl ?_
          refine r_iload_n 129 hC dX7_breaks_129 rfl rfl ?_
          refine r_aload_n 130 hC dX7_breaks_130 rfl rfl ?_
          refine r_getR7 131 (r1 := q0 + 1) hC hk0 1 (by decide) tw_1180 rfl rfl dX7_breaks_131 ?_
          refine r_iload 134 hC dX7_breaks_134 rfl ?_
          refine r_iconst 136 (v := 4) hC dX7_breaks_136 (by decide) ?_
          refine r_iadd 137 hC dX7_breaks_137 ?_
          refine r_iald 138 hC ((pm_s7 hG hk0).1) h.1 dX7_breaks_138 ?_
          replace h := h.2
          refine r_iload_n 139 hC dX7_breaks_139 rfl rfl ?_
          refine r_iload_n 140 hC dX7_breaks_140 rfl rfl ?_
          refine r_callV_i 141 (n := 4) [.int (x1), .int (I24 (q0 + 1) (r25 + 4).toNatClampNeg), .int (x2), .int (x3)] [] hC hk0 rfl dX7_breaks_141 (by decide) (by decide) tw_1618 tw_135 ⟨by decide, by decide, by decide +kernel⟩ tw_1615 tw_1617 tw_126 rfl rfl (sX7_usesLink (l := pm_l X) hG (q0) (x1) (I24 (q0 + 1) (r25 + 4).toNatClampNeg) (x2) (x3) _ _ hk0 h) hab (Nat.le_of_ble_eq_true rfl) ?_
          clear h; intro r27 I26 h
          refine r_if_eq 144 157 hC dX7_breaks_144 (by decide) (fun hc => ?_) (fun hc => ?_)
          · replace h := h.1 hc
            refine r_iinc 157 (v := x21 + 1) [some (.ref (q0)), some (.int (x1)), some (.int (x2)), some (.int (x3)), some (.int (x20)), some (.int (x21 + 1)), some (.int (r25))] hC dX7_breaks_157 rfl (by rfl) (by decide) rfl ?_
            refine r_goto 160 97 hC dX7_breaks_160 (by decide) ?_
            refine r_weak (ls' := [some (.ref (q0)), some (.int (x1)), some (.int (x2)), some (.int (x3)), some (.int (x20)), some (.int (x21 + 1)), none]) (And.intro rfl (And.intro rfl (And.intro rfl (And.intro rfl (And.intro rfl (And.intro rfl (trivial))))))) ?_
            exact h
          · replace h := h.2 hc
            refine r_aload_n 147 hC dX7_breaks_147 rfl rfl ?_
            refine r_iload_n 148 hC dX7_breaks_148 rfl rfl ?_
            refine r_iload 149 hC dX7_breaks_149 rfl ?_
            refine r_callV_v 151 (n := 2) [.int (x1), .int (r25)] [] hC hk0 rfl dX7_breaks_151 (by decide) (by decide) tw_1571 tw_135 ⟨by decide, by decide, by decide +kernel⟩ tw_1568 tw_1570 tw_121 rfl rfl (sX7_travels (l := pm_l X) hG (q0) (x1) (r25) _ _ hk0 h) hab (Nat.le_of_ble_eq_true rfl) ?_
            clear h; intro I28 h
            refine r_iinc 154 (v := x20 + 1) [some (.ref (q0)), some (.int (x1)), some (.int (x2)), some (.int (x3)), some (.int (x20 + 1)), some (.int (x21)), some (.int (r25))] hC dX7_breaks_154 rfl (by rfl) (by decide) rfl ?_
            refine r_iinc 157 (v := x21 + 1) [some (.ref (q0)), some (.int (x1)), some (.int (x2)), some (.int (x3)), some (.int (x20 + 1)), some (.int (x21 + 1)), some (.int (r25))] hC dX7_breaks_157 rfl (by rfl) (by decide) rfl ?_
            refine r_goto 160 97 hC dX7_breaks_160 (by decide) ?_
            refine r_weak (ls' := [some (.ref (q0)), some (.int (x1)), some (.int (x2)), some (.int (x3)), some (.int (x20 + 1)), some (.int (x21 + 1)), none]) (And.intro rfl (And.intro rfl (And.intro rfl (And.intro rfl (And.intro rfl (And.intro rfl (trivial))))))) ?_
            exact h
    · replace h := h.2 hc
      refine r_aload_n 51 hC dX7_breaks_51 rfl rfl ?_
      refine r_getR7 52 (r1 := q0 + 1) hC hk0 1 (by decide) tw_1180 rfl rfl dX7_breaks_52 ?_
      refine r_iload_n 55 hC dX7_breaks_55 rfl rfl ?_
      refine r_iconst 56 (v := 5) hC dX7_breaks_56 (by decide) ?_
      refine r_callS_i 57 (n := 2) [.int (x1), .int (5)] [.ref (q0 + 1)] hC dX7_breaks_57 (by decide) (by decide) tw_1446 tw_135 ⟨by decide, by decide, by decide +kernel⟩ tw_1444 tw_1445 rfl rfl (sX7_of (l := pm_l X) hG (x1) (5) _ _ h) hab (Nat.le_of_ble_eq_true rfl) ?_
      clear h; intro r30 I29 h
      refine r_iconst 60 (v := 0) hC dX7_breaks_60 (by decide) ?_
      refine r_iast 61 hC ((pm_s7 hG hk0).1) h.1 dX7_breaks_61 (fun I31 hI => ?_)
      replace h := h.2
      replace h := h I31 hI; clear hI
      refine r_aload_n 62 hC dX7_breaks_62 rfl rfl ?_
      refine r_iload_n 63 hC dX7_breaks_63 rfl rfl ?_
      refine r_aload_n 64 hC dX7_breaks_64 rfl rfl ?_
      refine r_aload_n 65 hC dX7_breaks_65 rfl rfl ?_
      refine r_getR7 66 (r1 := q0 + 1) hC hk0 1 (by decide) tw_1180 rfl rfl dX7_breaks_66 ?_
      refine r_iload_n 69 hC dX7_breaks_69 rfl rfl ?_
      refine r_iconst 70 (v := 1) hC dX7_breaks_70 (by decide) ?_
      refine r_callS_i 71 (n := 2) [.int (x1), .int (1)] [.ref (q0 + 1), .ref (q0), .int (x1), .ref (q0)] hC dX7_breaks_71 (by decide) (by decide) tw_1446 tw_135 ⟨by decide, by decide, by decide +kernel⟩ tw_1444 tw_1445 rfl rfl (sX7_of (l := pm_l X) hG (x1) (1) _ _ h) hab (Nat.le_of_ble_eq_true rfl) ?_
      clear h; intro r33 I32 h
      refine r_iald 74 hC ((pm_s7 hG hk0).1) h.1 dX7_breaks_74 ?_
      replace h := h.2
      refine r_aload_n 75 hC dX7_breaks_75 rfl rfl ?_
      refine r_getR7 76 (r1 := q0 + 1) hC hk0 1 (by decide) tw_1180 rfl rfl dX7_breaks_76 ?_
      refine r_iload_n 79 hC dX7_breaks_79 rfl rfl ?_
      refine r_iconst 80 (v := 2) hC dX7_breaks_80 (by decide) ?_
      refine r_callS_i 81 (n := 2) [.int (x1), .int (2)] [.ref (q0 + 1), .int (I32 (q0 + 1) (r33).toNatClampNeg), .ref (q0), .int (x1), .ref (q0)] hC dX7_breaks_81 (by decide) (by decide) tw_1446 tw_135 ⟨by decide, by decide, by decide +kernel⟩ tw_1444 tw_1445 rfl rfl (sX7_of (l := pm_l X) hG (x1) (2) _ _ h) hab (Nat.le_of_ble_eq_true rfl) ?_
      clear h; intro r35 I34 h
      refine r_iald 84 hC ((pm_s7 hG hk0).1) h.1 dX7_breaks_84 ?_
      replace h := h.2
      refine r_callV_i 85 (n := 2) [.int (I32 (q0 + 1) (r33).toNatClampNeg), .int (I34 (q0 + 1) (r35).toNatClampNeg)] [.int (x1), .ref (q0)] hC hk0 rfl dX7_breaks_85 (by decide) (by decide) tw_1454 tw_135 ⟨by decide, by decide, by decide +kernel⟩ tw_1451 tw_1453 tw_107 rfl rfl (sX7_bestFor (l := pm_l X) hG (q0) (I32 (q0 + 1) (r33).toNatClampNeg) (I34 (q0 + 1) (r35).toNatClampNeg) _ _ hk0 h) hab (Nat.le_of_ble_eq_true rfl) ?_
      clear h; intro r37 I36 h
      refine r_callV_v 88 (n := 2) [.int (x1), .int (r37)] [] hC hk0 rfl dX7_breaks_88 (by decide) (by decide) tw_1563 tw_135 ⟨by decide, by decide, by decide +kernel⟩ tw_1560 tw_1562 tw_119 rfl rfl (sX7_takesPath (l := pm_l X) hG (q0) (x1) (r37) _ _ hk0 h) hab (Nat.le_of_ble_eq_true rfl) ?_
      clear h; intro I38 h
      refine r_iconst 91 (v := 0) hC dX7_breaks_91 (by decide) ?_
      refine r_istore 92 [some (.ref (q0)), some (.int (x1)), some (.int (x2)), some (.int (x3)), some (.int (0)), none, none] hC dX7_breaks_92 (by decide) rfl ?_
      refine r_iconst 94 (v := 0) hC dX7_breaks_94 (by decide) ?_
      refine r_istore 95 [some (.ref (q0)), some (.int (x1)), some (.int (x2)), some (.int (x3)), some (.int (0)), some (.int (0)), none] hC dX7_breaks_95 (by decide) rfl ?_
      refine h (fun x41 x42 I40 => pm_R G X 7 0 0 97 [some (.ref (q0)), some (.int (x1)), some (.int (x2)), some (.int (x3)), some (.int (x41)), some (.int (x42)), none] [] I40) ?_
      clear h; intro x41 x42 I40 h
      refine r_iload 97 hC dX7_breaks_97 rfl ?_
      refine r_aload_n 99 hC dX7_breaks_99 rfl rfl ?_
      refine r_iload_n 100 hC dX7_breaks_100 rfl rfl ?_
      refine r_callV_i 101 (n := 1) [.int (x1)] [.int (x42)] hC hk0 rfl dX7_breaks_101 (by decide) (by decide) tw_1517 tw_135 ⟨by decide, by decide, by decide +kernel⟩ tw_1514 tw_1516 tw_115 rfl rfl (sX7_undelivered (l := pm_l X) hG (q0) (x1) _ _ hk0 h) hab (Nat.le_of_ble_eq_true rfl) ?_
      clear h; intro r44 I43 h
      refine r_icmp_ge 104 163 hC dX7_breaks_104 (by decide) (fun hc => ?_) (fun hc => ?_)
      · replace h := h.1 hc
        refine r_iload 163 hC dX7_breaks_163 rfl ?_
        exact r_iret 165 hC hE rfl dX7_breaks_165 ⟨_, rfl, h⟩
      · replace h := h.2 hc
        refine r_iload_n 107 hC dX7_breaks_107 rfl rfl ?_
        refine r_iload 108 hC dX7_breaks_108 rfl ?_
        refine r_callS_i 110 (n := 2) [.int (x1), .int (x42)] [] hC dX7_breaks_110 (by decide) (by decide) tw_1520 tw_135 ⟨by decide, by decide, by decide +kernel⟩ tw_1518 tw_1519 rfl rfl (sX7_message (l := pm_l X) hG (x1) (x42) _ _ h) hab (Nat.le_of_ble_eq_true rfl) ?_
        clear h; intro r46 I45 h
        refine r_istore 113 [some (.ref (q0)), some (.int (x1)), some (.int (x2)), some (.int (x3)), some (.int (x41)), some (.int (x42)), some (.int (r46))] hC dX7_breaks_113 (by decide) rfl ?_
        refine r_aload_n 115 hC dX7_breaks_115 rfl rfl ?_
        refine r_getR7 116 (r1 := q0 + 1) hC hk0 1 (by decide) tw_1180 rfl rfl dX7_breaks_116 ?_
        refine r_iload 119 hC dX7_breaks_119 rfl ?_
        refine r_iconst 121 (v := 0) hC dX7_breaks_121 (by decide) ?_
        refine r_iadd 122 hC dX7_breaks_122 ?_
        refine r_iald 123 hC ((pm_s7 hG hk0).1) h.1 dX7_breaks_123 ?_
        replace h := h.2
        refine r_iconst 124 (v := 1) hC dX7_breaks_124 (by decide) ?_
        refine r_icmp_ne 125 157 hC dX7_breaks_125 (by decide) (fun hc => ?_) (fun hc => ?_)
        · replace h := h.1 hc
          refine r_iinc 157 (v := x42 + 1) [some (.ref (q0)), some (.int (x1)), some (.int (x2)), some (.int (x3)), some (.int (x41)), some (.int (x42 + 1)), some (.int (r46))] hC dX7_breaks_157 rfl (by rfl) (by decide) rfl ?_
          refine r_goto 160 97 hC dX7_breaks_160 (by decide) ?_
          refine r_weak (ls' := [some (.ref (q0)), some (.int (x1)), some (.int (x2)), some (.int (x3)), some (.int (x41)), some (.int (x42 + 1)), none]) (And.intro rfl (And.intro rfl (And.intro rfl (And.intro rfl (And.intro rfl (And.intro rfl (trivial))))))) ?_
          exact h
        · replace h := h.2 hc
          refine r_aload_n 128 hC dX7_breaks_128 rfl rfl ?_
          refine r_iload_n 129 hC dX7_breaks_129 rfl rfl ?_
          refine r_aload_n 130 hC dX7_breaks_130 rfl rfl ?_
          refine r_getR7 131 (r1 := q0 + 1) hC hk0 1 (by decide) tw_1180 rfl rfl dX7_breaks_131 ?_
          refine r_iload 134 hC dX7_breaks_134 rfl ?_
          refine r_iconst 136 (v := 4) hC dX7_breaks_136 (by decide) ?_
          refine r_iadd 137 hC dX7_breaks_137 ?_
          refine r_iald 138 hC ((pm_s7 hG hk0).1) h.1 dX7_breaks_138 ?_
          replace h := h.2
          refine r_iload_n 139 hC dX7_breaks_139 rfl rfl ?_
          refine r_iload_n 140 hC dX7_breaks_140 rfl rfl ?_
          refine r_callV_i 141 (n := 4) [.int (x1), .int (I45 (q0 + 1) (r46 + 4).toNatClampNeg), .int (x2), .int (x3)] [] hC hk0 rfl dX7_breaks_141 (by decide) (by decide) tw_1618 tw_135 ⟨by decide, by decide, by decide +kernel⟩ tw_1615 tw_1617 tw_126 rfl rfl (sX7_usesLink (l := pm_l X) hG (q0) (x1) (I45 (q0 + 1) (r46 + 4).toNatClampNeg) (x2) (x3) _ _ hk0 h) hab (Nat.le_of_ble_eq_true rfl) ?_
          clear h; intro r48 I47 h
          refine r_if_eq 144 157 hC dX7_breaks_144 (by decide) (fun hc => ?_) (fun hc => ?_)
          · replace h := h.1 hc
            refine r_iinc 157 (v := x42 + 1) [some (.ref (q0)), some (.int (x1)), some (.int (x2)), some (.int (x3)), some (.int (x41)), some (.int (x42 + 1)), some (.int (r46))] hC dX7_breaks_157 rfl (by rfl) (by decide) rfl ?_
            refine r_goto 160 97 hC dX7_breaks_160 (by decide) ?_
            refine r_weak (ls' := [some (.ref (q0)), some (.int (x1)), some (.int (x2)), some (.int (x3)), some (.int (x41)), some (.int (x42 + 1)), none]) (And.intro rfl (And.intro rfl (And.intro rfl (And.intro rfl (And.intro rfl (And.intro rfl (trivial))))))) ?_
            exact h
          · replace h := h.2 hc
            refine r_aload_n 147 hC dX7_breaks_147 rfl rfl ?_
            refine r_iload_n 148 hC dX7_breaks_148 rfl rfl ?_
            refine r_iload 149 hC dX7_breaks_149 rfl ?_
            refine r_callV_v 151 (n := 2) [.int (x1), .int (r46)] [] hC hk0 rfl dX7_breaks_151 (by decide) (by decide) tw_1571 tw_135 ⟨by decide, by decide, by decide +kernel⟩ tw_1568 tw_1570 tw_121 rfl rfl (sX7_travels (l := pm_l X) hG (q0) (x1) (r46) _ _ hk0 h) hab (Nat.le_of_ble_eq_true rfl) ?_
            clear h; intro I49 h
            refine r_iinc 154 (v := x41 + 1) [some (.ref (q0)), some (.int (x1)), some (.int (x2)), some (.int (x3)), some (.int (x41 + 1)), some (.int (x42)), some (.int (r46))] hC dX7_breaks_154 rfl (by rfl) (by decide) rfl ?_
            refine r_iinc 157 (v := x42 + 1) [some (.ref (q0)), some (.int (x1)), some (.int (x2)), some (.int (x3)), some (.int (x41 + 1)), some (.int (x42 + 1)), some (.int (r46))] hC dX7_breaks_157 rfl (by rfl) (by decide) rfl ?_
            refine r_goto 160 97 hC dX7_breaks_160 (by decide) ?_
            refine r_weak (ls' := [some (.ref (q0)), some (.int (x1)), some (.int (x2)), some (.int (x3)), some (.int (x41 + 1)), some (.int (x42 + 1)), none]) (And.intro rfl (And.intro rfl (And.intro rfl (And.intro rfl (And.intro rfl (And.intro rfl (trivial))))))) ?_
            exact h
  · replace h := h.2 hc
    refine r_aload_n 20 hC dX7_breaks_20 rfl rfl ?_
    refine r_getR7 21 (r1 := q0 + 1) hC hk0 1 (by decide) tw_1180 rfl rfl dX7_breaks_21 ?_
    refine r_iload_n 24 hC dX7_breaks_24 rfl rfl ?_
    refine r_iconst 25 (v := 4) hC dX7_breaks_25 (by decide) ?_
    refine r_callS_i 26 (n := 2) [.int (x1), .int (4)] [.ref (q0 + 1)] hC dX7_breaks_26 (by decide) (by decide) tw_1446 tw_135 ⟨by decide, by decide, by decide +kernel⟩ tw_1444 tw_1445 rfl rfl (sX7_of (l := pm_l X) hG (x1) (4) _ _ h) hab (Nat.le_of_ble_eq_true rfl) ?_
    clear h; intro r51 I50 h
    refine r_iconst 29 (v := -1) hC dX7_breaks_29 (by decide) ?_
    refine r_iast 30 hC ((pm_s7 hG hk0).1) h.1 dX7_breaks_30 (fun I52 hI => ?_)
    replace h := h.2
    replace h := h I52 hI; clear hI
    refine r_aload_n 31 hC dX7_breaks_31 rfl rfl ?_
    refine r_iload_n 32 hC dX7_breaks_32 rfl rfl ?_
    refine r_aload_n 33 hC dX7_breaks_33 rfl rfl ?_
    refine r_getR7 34 (r1 := q0 + 1) hC hk0 1 (by decide) tw_1180 rfl rfl dX7_breaks_34 ?_
    refine r_iload_n 37 hC dX7_breaks_37 rfl rfl ?_
    refine r_iconst 38 (v := 3) hC dX7_breaks_38 (by decide) ?_
    refine r_callS_i 39 (n := 2) [.int (x1), .int (3)] [.ref (q0 + 1), .int (x1), .ref (q0)] hC dX7_breaks_39 (by decide) (by decide) tw_1446 tw_135 ⟨by decide, by decide, by decide +kernel⟩ tw_1444 tw_1445 rfl rfl (sX7_of (l := pm_l X) hG (x1) (3) _ _ h) hab (Nat.le_of_ble_eq_true rfl) ?_
    clear h; intro r54 I53 h
    refine r_iald 42 hC ((pm_s7 hG hk0).1) h.1 dX7_breaks_42 ?_
    replace h := h.2
    refine r_iload_n 43 hC dX7_breaks_43 rfl rfl ?_
    refine r_iload_n 44 hC dX7_breaks_44 rfl rfl ?_
    refine r_callV_i 45 (n := 4) [.int (x1), .int (I53 (q0 + 1) (r54).toNatClampNeg), .int (x2), .int (x3)] [] hC hk0 rfl dX7_breaks_45 (by decide) (by decide) tw_1618 tw_135 ⟨by decide, by decide, by decide +kernel⟩ tw_1615 tw_1617 tw_126 rfl rfl (sX7_usesLink (l := pm_l X) hG (q0) (x1) (I53 (q0 + 1) (r54).toNatClampNeg) (x2) (x3) _ _ hk0 h) hab (Nat.le_of_ble_eq_true rfl) ?_
    clear h; intro r56 I55 h
    refine r_if_eq 48 91 hC dX7_breaks_48 (by decide) (fun hc => ?_) (fun hc => ?_)
    · replace h := h.1 hc
      refine r_iconst 91 (v := 0) hC dX7_breaks_91 (by decide) ?_
      refine r_istore 92 [some (.ref (q0)), some (.int (x1)), some (.int (x2)), some (.int (x3)), some (.int (0)), none, none] hC dX7_breaks_92 (by decide) rfl ?_
      refine r_iconst 94 (v := 0) hC dX7_breaks_94 (by decide) ?_
      refine r_istore 95 [some (.ref (q0)), some (.int (x1)), some (.int (x2)), some (.int (x3)), some (.int (0)), some (.int (0)), none] hC dX7_breaks_95 (by decide) rfl ?_
      refine h (fun x59 x60 I58 => pm_R G X 7 0 0 97 [some (.ref (q0)), some (.int (x1)), some (.int (x2)), some (.int (x3)), some (.int (x59)), some (.int (x60)), none] [] I58) ?_
      clear h; intro x59 x60 I58 h
      refine r_iload 97 hC dX7_breaks_97 rfl ?_
      refine r_aload_n 99 hC dX7_breaks_99 rfl rfl ?_
      refine r_iload_n 100 hC dX7_breaks_100 rfl rfl ?_
      refine r_callV_i 101 (n := 1) [.int (x1)] [.int (x60)] hC hk0 rfl dX7_breaks_101 (by decide) (by decide) tw_1517 tw_135 ⟨by decide, by decide, by decide +kernel⟩ tw_1514 tw_1516 tw_115 rfl rfl (sX7_undelivered (l := pm_l X) hG (q0) (x1) _ _ hk0 h) hab (Nat.le_of_ble_eq_true rfl) ?_
      clear h; intro r62 I61 h
      refine r_icmp_ge 104 163 hC dX7_breaks_104 (by decide) (fun hc => ?_) (fun hc => ?_)
      · replace h := h.1 hc
        refine r_iload 163 hC dX7_breaks_163 rfl ?_
        exact r_iret 165 hC hE rfl dX7_breaks_165 ⟨_, rfl, h⟩
      · replace h := h.2 hc
        refine r_iload_n 107 hC dX7_breaks_107 rfl rfl ?_
        refine r_iload 108 hC dX7_breaks_108 rfl ?_
        refine r_callS_i 110 (n := 2) [.int (x1), .int (x60)] [] hC dX7_breaks_110 (by decide) (by decide) tw_1520 tw_135 ⟨by decide, by decide, by decide +kernel⟩ tw_1518 tw_1519 rfl rfl (sX7_message (l := pm_l X) hG (x1) (x60) _ _ h) hab (Nat.le_of_ble_eq_true rfl) ?_
        clear h; intro r64 I63 h
        refine r_istore 113 [some (.ref (q0)), some (.int (x1)), some (.int (x2)), some (.int (x3)), some (.int (x59)), some (.int (x60)), some (.int (r64))] hC dX7_breaks_113 (by decide) rfl ?_
        refine r_aload_n 115 hC dX7_breaks_115 rfl rfl ?_
        refine r_getR7 116 (r1 := q0 + 1) hC hk0 1 (by decide) tw_1180 rfl rfl dX7_breaks_116 ?_
        refine r_iload 119 hC dX7_breaks_119 rfl ?_
        refine r_iconst 121 (v := 0) hC dX7_breaks_121 (by decide) ?_
        refine r_iadd 122 hC dX7_breaks_122 ?_
        refine r_iald 123 hC ((pm_s7 hG hk0).1) h.1 dX7_breaks_123 ?_
        replace h := h.2
        refine r_iconst 124 (v := 1) hC dX7_breaks_124 (by decide) ?_
        refine r_icmp_ne 125 157 hC dX7_breaks_125 (by decide) (fun hc => ?_) (fun hc => ?_)
        · replace h := h.1 hc
          refine r_iinc 157 (v := x60 + 1) [some (.ref (q0)), some (.int (x1)), some (.int (x2)), some (.int (x3)), some (.int (x59)), some (.int (x60 + 1)), some (.int (r64))] hC dX7_breaks_157 rfl (by rfl) (by decide) rfl ?_
          refine r_goto 160 97 hC dX7_breaks_160 (by decide) ?_
          refine r_weak (ls' := [some (.ref (q0)), some (.int (x1)), some (.int (x2)), some (.int (x3)), some (.int (x59)), some (.int (x60 + 1)), none]) (And.intro rfl (And.intro rfl (And.intro rfl (And.intro rfl (And.intro rfl (And.intro rfl (trivial))))))) ?_
          exact h
        · replace h := h.2 hc
          refine r_aload_n 128 hC dX7_breaks_128 rfl rfl ?_
          refine r_iload_n 129 hC dX7_breaks_129 rfl rfl ?_
          refine r_aload_n 130 hC dX7_breaks_130 rfl rfl ?_
          refine r_getR7 131 (r1 := q0 + 1) hC hk0 1 (by decide) tw_1180 rfl rfl dX7_breaks_131 ?_
          refine r_iload 134 hC dX7_breaks_134 rfl ?_
          refine r_iconst 136 (v := 4) hC dX7_breaks_136 (by decide) ?_
          refine r_iadd 137 hC dX7_breaks_137 ?_
          refine r_iald 138 hC ((pm_s7 hG hk0).1) h.1 dX7_breaks_138 ?_
          replace h := h.2
          refine r_iload_n 139 hC dX7_breaks_139 rfl rfl ?_
          refine r_iload_n 140 hC dX7_breaks_140 rfl rfl ?_
          refine r_callV_i 141 (n := 4) [.int (x1), .int (I63 (q0 + 1) (r64 + 4).toNatClampNeg), .int (x2), .int (x3)] [] hC hk0 rfl dX7_breaks_141 (by decide) (by decide) tw_1618 tw_135 ⟨by decide, by decide, by decide +kernel⟩ tw_1615 tw_1617 tw_126 rfl rfl (sX7_usesLink (l := pm_l X) hG (q0) (x1) (I63 (q0 + 1) (r64 + 4).toNatClampNeg) (x2) (x3) _ _ hk0 h) hab (Nat.le_of_ble_eq_true rfl) ?_
          clear h; intro r66 I65 h
          refine r_if_eq 144 157 hC dX7_breaks_144 (by decide) (fun hc => ?_) (fun hc => ?_)
          · replace h := h.1 hc
            refine r_iinc 157 (v := x60 + 1) [some (.ref (q0)), some (.int (x1)), some (.int (x2)), some (.int (x3)), some (.int (x59)), some (.int (x60 + 1)), some (.int (r64))] hC dX7_breaks_157 rfl (by rfl) (by decide) rfl ?_
            refine r_goto 160 97 hC dX7_breaks_160 (by decide) ?_
            refine r_weak (ls' := [some (.ref (q0)), some (.int (x1)), some (.int (x2)), some (.int (x3)), some (.int (x59)), some (.int (x60 + 1)), none]) (And.intro rfl (And.intro rfl (And.intro rfl (And.intro rfl (And.intro rfl (And.intro rfl (trivial))))))) ?_
            exact h
          · replace h := h.2 hc
            refine r_aload_n 147 hC dX7_breaks_147 rfl rfl ?_
            refine r_iload_n 148 hC dX7_breaks_148 rfl rfl ?_
            refine r_iload 149 hC dX7_breaks_149 rfl ?_
            refine r_callV_v 151 (n := 2) [.int (x1), .int (r64)] [] hC hk0 rfl dX7_breaks_151 (by decide) (by decide) tw_1571 tw_135 ⟨by decide, by decide, by decide +kernel⟩ tw_1568 tw_1570 tw_121 rfl rfl (sX7_travels (l := pm_l X) hG (q0) (x1) (r64) _ _ hk0 h) hab (Nat.le_of_ble_eq_true rfl) ?_
            clear h; intro I67 h
            refine r_iinc 154 (v := x59 + 1) [some (.ref (q0)), some (.int (x1)), some (.int (x2)), some (.int (x3)), some (.int (x59 + 1)), some (.int (x60)), some (.int (r64))] hC dX7_breaks_154 rfl (by rfl) (by decide) rfl ?_
            refine r_iinc 157 (v := x60 + 1) [some (.ref (q0)), some (.int (x1)), some (.int (x2)), some (.int (x3)), some (.int (x59 + 1)), some (.int (x60 + 1)), some (.int (r64))] hC dX7_breaks_157 rfl (by rfl) (by decide) rfl ?_
            refine r_goto 160 97 hC dX7_breaks_160 (by decide) ?_
            refine r_weak (ls' := [some (.ref (q0)), some (.int (x1)), some (.int (x2)), some (.int (x3)), some (.int (x59 + 1)), some (.int (x60 + 1)), none]) (And.intro rfl (And.intro rfl (And.intro rfl (And.intro rfl (And.intro rfl (And.intro rfl (trivial))))))) ?_
            exact h
    · replace h := h.2 hc
      refine r_aload_n 51 hC dX7_breaks_51 rfl rfl ?_
      refine r_getR7 52 (r1 := q0 + 1) hC hk0 1 (by decide) tw_1180 rfl rfl dX7_breaks_52 ?_
      refine r_iload_n 55 hC dX7_breaks_55 rfl rfl ?_
      refine r_iconst 56 (v := 5) hC dX7_breaks_56 (by decide) ?_
      refine r_callS_i 57 (n := 2) [.int (x1), .int (5)] [.ref (q0 + 1)] hC dX7_breaks_57 (by decide) (by decide) tw_1446 tw_135 ⟨by decide, by decide, by decide +kernel⟩ tw_1444 tw_1445 rfl rfl (sX7_of (l := pm_l X) hG (x1) (5) _ _ h) hab (Nat.le_of_ble_eq_true rfl) ?_
      clear h; intro r69 I68 h
      refine r_iconst 60 (v := 0) hC dX7_breaks_60 (by decide) ?_
      refine r_iast 61 hC ((pm_s7 hG hk0).1) h.1 dX7_breaks_61 (fun I70 hI => ?_)
      replace h := h.2
      replace h := h I70 hI; clear hI
      refine r_aload_n 62 hC dX7_breaks_62 rfl rfl ?_
      refine r_iload_n 63 hC dX7_breaks_63 rfl rfl ?_
      refine r_aload_n 64 hC dX7_breaks_64 rfl rfl ?_
      refine r_aload_n 65 hC dX7_breaks_65 rfl rfl ?_
      refine r_getR7 66 (r1 := q0 + 1) hC hk0 1 (by decide) tw_1180 rfl rfl dX7_breaks_66 ?_
      refine r_iload_n 69 hC dX7_breaks_69 rfl rfl ?_
      refine r_iconst 70 (v := 1) hC dX7_breaks_70 (by decide) ?_
      refine r_callS_i 71 (n := 2) [.int (x1), .int (1)] [.ref (q0 + 1), .ref (q0), .int (x1), .ref (q0)] hC dX7_breaks_71 (by decide) (by decide) tw_1446 tw_135 ⟨by decide, by decide, by decide +kernel⟩ tw_1444 tw_1445 rfl rfl (sX7_of (l := pm_l X) hG (x1) (1) _ _ h) hab (Nat.le_of_ble_eq_true rfl) ?_
      clear h; intro r72 I71 h
      refine r_iald 74 hC ((pm_s7 hG hk0).1) h.1 dX7_breaks_74 ?_
      replace h := h.2
      refine r_aload_n 75 hC dX7_breaks_75 rfl rfl ?_
      refine r_getR7 76 (r1 := q0 + 1) hC hk0 1 (by decide) tw_1180 rfl rfl dX7_breaks_76 ?_
      refine r_iload_n 79 hC dX7_breaks_79 rfl rfl ?_
      refine r_iconst 80 (v := 2) hC dX7_breaks_80 (by decide) ?_
      refine r_callS_i 81 (n := 2) [.int (x1), .int (2)] [.ref (q0 + 1), .int (I71 (q0 + 1) (r72).toNatClampNeg), .ref (q0), .int (x1), .ref (q0)] hC dX7_breaks_81 (by decide) (by decide) tw_1446 tw_135 ⟨by decide, by decide, by decide +kernel⟩ tw_1444 tw_1445 rfl rfl (sX7_of (l := pm_l X) hG (x1) (2) _ _ h) hab (Nat.le_of_ble_eq_true rfl) ?_
      clear h; intro r74 I73 h
      refine r_iald 84 hC ((pm_s7 hG hk0).1) h.1 dX7_breaks_84 ?_
      replace h := h.2
      refine r_callV_i 85 (n := 2) [.int (I71 (q0 + 1) (r72).toNatClampNeg), .int (I73 (q0 + 1) (r74).toNatClampNeg)] [.int (x1), .ref (q0)] hC hk0 rfl dX7_breaks_85 (by decide) (by decide) tw_1454 tw_135 ⟨by decide, by decide, by decide +kernel⟩ tw_1451 tw_1453 tw_107 rfl rfl (sX7_bestFor (l := pm_l X) hG (q0) (I71 (q0 + 1) (r72).toNatClampNeg) (I73 (q0 + 1) (r74).toNatClampNeg) _ _ hk0 h) hab (Nat.le_of_ble_eq_true rfl) ?_
      clear h; intro r76 I75 h
      refine r_callV_v 88 (n := 2) [.int (x1), .int (r76)] [] hC hk0 rfl dX7_breaks_88 (by decide) (by decide) tw_1563 tw_135 ⟨by decide, by decide, by decide +kernel⟩ tw_1560 tw_1562 tw_119 rfl rfl (sX7_takesPath (l := pm_l X) hG (q0) (x1) (r76) _ _ hk0 h) hab (Nat.le_of_ble_eq_true rfl) ?_
      clear h; intro I77 h
      refine r_iconst 91 (v := 0) hC dX7_breaks_91 (by decide) ?_
      refine r_istore 92 [some (.ref (q0)), some (.int (x1)), some (.int (x2)), some (.int (x3)), some (.int (0)), none, none] hC dX7_breaks_92 (by decide) rfl ?_
      refine r_iconst 94 (v := 0) hC dX7_breaks_94 (by decide) ?_
      refine r_istore 95 [some (.ref (q0)), some (.int (x1)), some (.int (x2)), some (.int (x3)), some (.int (0)), some (.int (0)), none] hC dX7_breaks_95 (by decide) rfl ?_
      refine h (fun x80 x81 I79 => pm_R G X 7 0 0 97 [some (.ref (q0)), some (.int (x1)), some (.int (x2)), some (.int (x3)), some (.int (x80)), some (.int (x81)), none] [] I79) ?_
      clear h; intro x80 x81 I79 h
      refine r_iload 97 hC dX7_breaks_97 rfl ?_
      refine r_aload_n 99 hC dX7_breaks_99 rfl rfl ?_
      refine r_iload_n 100 hC dX7_breaks_100 rfl rfl ?_
      refine r_callV_i 101 (n := 1) [.int (x1)] [.int (x81)] hC hk0 rfl dX7_breaks_101 (by decide) (by decide) tw_1517 tw_135 ⟨by decide, by decide, by decide +kernel⟩ tw_1514 tw_1516 tw_115 rfl rfl (sX7_undelivered (l := pm_l X) hG (q0) (x1) _ _ hk0 h) hab (Nat.le_of_ble_eq_true rfl) ?_
      clear h; intro r83 I82 h
      refine r_icmp_ge 104 163 hC dX7_breaks_104 (by decide) (fun hc => ?_) (fun hc => ?_)
      · replace h := h.1 hc
        refine r_iload 163 hC dX7_breaks_163 rfl ?_
        exact r_iret 165 hC hE rfl dX7_breaks_165 ⟨_, rfl, h⟩
      · replace h := h.2 hc
        refine r_iload_n 107 hC dX7_breaks_107 rfl rfl ?_
        refine r_iload 108 hC dX7_breaks_108 rfl ?_
        refine r_callS_i 110 (n := 2) [.int (x1), .int (x81)] [] hC dX7_breaks_110 (by decide) (by decide) tw_1520 tw_135 ⟨by decide, by decide, by decide +kernel⟩ tw_1518 tw_1519 rfl rfl (sX7_message (l := pm_l X) hG (x1) (x81) _ _ h) hab (Nat.le_of_ble_eq_true rfl) ?_
        clear h; intro r85 I84 h
        refine r_istore 113 [some (.ref (q0)), some (.int (x1)), some (.int (x2)), some (.int (x3)), some (.int (x80)), some (.int (x81)), some (.int (r85))] hC dX7_breaks_113 (by decide) rfl ?_
        refine r_aload_n 115 hC dX7_breaks_115 rfl rfl ?_
        refine r_getR7 116 (r1 := q0 + 1) hC hk0 1 (by decide) tw_1180 rfl rfl dX7_breaks_116 ?_
        refine r_iload 119 hC dX7_breaks_119 rfl ?_
        refine r_iconst 121 (v := 0) hC dX7_breaks_121 (by decide) ?_
        refine r_iadd 122 hC dX7_breaks_122 ?_
        refine r_iald 123 hC ((pm_s7 hG hk0).1) h.1 dX7_breaks_123 ?_
        replace h := h.2
        refine r_iconst 124 (v := 1) hC dX7_breaks_124 (by decide) ?_
        refine r_icmp_ne 125 157 hC dX7_breaks_125 (by decide) (fun hc => ?_) (fun hc => ?_)
        · replace h := h.1 hc
          refine r_iinc 157 (v := x81 + 1) [some (.ref (q0)), some (.int (x1)), some (.int (x2)), some (.int (x3)), some (.int (x80)), some (.int (x81 + 1)), some (.int (r85))] hC dX7_breaks_157 rfl (by rfl) (by decide) rfl ?_
          refine r_goto 160 97 hC dX7_breaks_160 (by decide) ?_
          refine r_weak (ls' := [some (.ref (q0)), some (.int (x1)), some (.int (x2)), some (.int (x3)), some (.int (x80)), some (.int (x81 + 1)), none]) (And.intro rfl (And.intro rfl (And.intro rfl (And.intro rfl (And.intro rfl (And.intro rfl (trivial))))))) ?_
          exact h
        · replace h := h.2 hc
          refine r_aload_n 128 hC dX7_breaks_128 rfl rfl ?_
          refine r_iload_n 129 hC dX7_breaks_129 rfl rfl ?_
          refine r_aload_n 130 hC dX7_breaks_130 rfl rfl ?_
          refine r_getR7 131 (r1 := q0 + 1) hC hk0 1 (by decide) tw_1180 rfl rfl dX7_breaks_131 ?_
          refine r_iload 134 hC dX7_breaks_134 rfl ?_
          refine r_iconst 136 (v := 4) hC dX7_breaks_136 (by decide) ?_
          refine r_iadd 137 hC dX7_breaks_137 ?_
          refine r_iald 138 hC ((pm_s7 hG hk0).1) h.1 dX7_breaks_138 ?_
          replace h := h.2
          refine r_iload_n 139 hC dX7_breaks_139 rfl rfl ?_
          refine r_iload_n 140 hC dX7_breaks_140 rfl rfl ?_
          refine r_callV_i 141 (n := 4) [.int (x1), .int (I84 (q0 + 1) (r85 + 4).toNatClampNeg), .int (x2), .int (x3)] [] hC hk0 rfl dX7_breaks_141 (by decide) (by decide) tw_1618 tw_135 ⟨by decide, by decide, by decide +kernel⟩ tw_1615 tw_1617 tw_126 rfl rfl (sX7_usesLink (l := pm_l X) hG (q0) (x1) (I84 (q0 + 1) (r85 + 4).toNatClampNeg) (x2) (x3) _ _ hk0 h) hab (Nat.le_of_ble_eq_true rfl) ?_
          clear h; intro r87 I86 h
          refine r_if_eq 144 157 hC dX7_breaks_144 (by decide) (fun hc => ?_) (fun hc => ?_)
          · replace h := h.1 hc
            refine r_iinc 157 (v := x81 + 1) [some (.ref (q0)), some (.int (x1)), some (.int (x2)), some (.int (x3)), some (.int (x80)), some (.int (x81 + 1)), some (.int (r85))] hC dX7_breaks_157 rfl (by rfl) (by decide) rfl ?_
            refine r_goto 160 97 hC dX7_breaks_160 (by decide) ?_
            refine r_weak (ls' := [some (.ref (q0)), some (.int (x1)), some (.int (x2)), some (.int (x3)), some (.int (x80)), some (.int (x81 + 1)), none]) (And.intro rfl (And.intro rfl (And.intro rfl (And.intro rfl (And.intro rfl (And.intro rfl (trivial))))))) ?_
            exact h
          · replace h := h.2 hc
            refine r_aload_n 147 hC dX7_breaks_147 rfl rfl ?_
            refine r_iload_n 148 hC dX7_breaks_148 rfl rfl ?_
            refine r_iload 149 hC dX7_breaks_149 rfl ?_
            refine r_callV_v 151 (n := 2) [.int (x1), .int (r85)] [] hC hk0 rfl dX7_breaks_151 (by decide) (by decide) tw_1571 tw_135 ⟨by decide, by decide, by decide +kernel⟩ tw_1568 tw_1570 tw_121 rfl rfl (sX7_travels (l := pm_l X) hG (q0) (x1) (r85) _ _ hk0 h) hab (Nat.le_of_ble_eq_true rfl) ?_
            clear h; intro I88 h
            refine r_iinc 154 (v := x80 + 1) [some (.ref (q0)), some (.int (x1)), some (.int (x2)), some (.int (x3)), some (.int (x80 + 1)), some (.int (x81)), some (.int (r85))] hC dX7_breaks_154 rfl (by rfl) (by decide) rfl ?_
            refine r_iinc 157 (v := x81 + 1) [some (.ref (q0)), some (.int (x1)), some (.int (x2)), some (.int (x3)), some (.int (x80 + 1)), some (.int (x81 + 1)), some (.int (r85))] hC dX7_breaks_157 rfl (by rfl) (by decide) rfl ?_
            refine r_goto 160 97 hC dX7_breaks_160 (by decide) ?_
            refine r_weak (ls' := [some (.ref (q0)), some (.int (x1)), some (.int (x2)), some (.int (x3)), some (.int (x80 + 1)), some (.int (x81 + 1)), none]) (And.intro rfl (And.intro rfl (And.intro rfl (And.intro rfl (And.intro rfl (And.intro rfl (trivial))))))) ?_
            exact h

def wX7_copies (G : pm_G) (q0 n0 : Nat) (x1 : Int32) (q2 n2 : Nat) (x3 : Int32) (x4 : Int32) (I : pm_I) (K : pm_I → Prop) : Prop :=
  pm_lp2 (fun (P10 : Int32 → pm_I → Prop) (x12 : Int32) (I11 : pm_I) => (x4 ≤ x12 → K I11) ∧ (¬ x4 ≤ x12 → (vp_in (x1 + x12) n0 ∧ (vp_in (x3 + x12) n2 ∧ (∀ I13 : pm_I, I13 = pm_up I11 (q2) ((x3 + x12).toNatClampNeg) (I11 (q0) (x1 + x12).toNatClampNeg) → (P10 (x12 + 1) I13)))))) (0) I

set_option maxRecDepth 20000 in
theorem sX7_copies {G : pm_G} {l : Launch} (hG : pm_ok G) (q0 n0 : Nat) (x1 : Int32) (q2 n2 : Nat) (x3 : Int32) (x4 : Int32) (I : pm_I) (K : pm_I → Prop) (hk0 : pm_k G q0 (.inr (0, n0))) (hk2 : pm_k G q2 (.inr (0, n2))) (h : wX7_copies G q0 n0 x1 q2 n2 x3 x4 I K) : pm_Ct G l yX7_copies cX7_copies 6 none { frames := 1, cells := 0, slots := 0, locals := 64 } [.ref (q0), .int (x1), .ref (q2), .int (x3), .int (x4)] I (pm_Kv K) := by
  unfold wX7_copies at h
  refine pm_enter (by decide +kernel) hG rfl (Nat.le_of_ble_eq_true rfl) rfl (fun X hl hC hE => ?_)
  subst hl
  have hab : 0 ≤ 0 ∧ 0 ≤ 0 := ⟨Nat.le_refl 0, Nat.le_refl 0⟩
  have hC : pm_C G X cX7_copies 6 RX7 none { frames := 1, cells := 0, slots := 0, locals := 64 } := hC
  refine r_iconst 0 (v := 0) hC dX7_copies_0 (by decide) ?_
  refine r_istore 1 [some (.ref (q0)), some (.int (x1)), some (.ref (q2)), some (.int (x3)), some (.int (x4)), some (.int (0))] hC dX7_copies_1 (by decide) rfl ?_
  refine h (fun x12 I11 => pm_R G X 6 0 0 3 [some (.ref (q0)), some (.int (x1)), some (.ref (q2)), some (.int (x3)), some (.int (x4)), some (.int (x12))] [] I11) ?_
  clear h; intro x12 I11 h
  refine r_iload 3 hC dX7_copies_3 rfl ?_
  refine r_iload 5 hC dX7_copies_5 rfl ?_
  refine r_icmp_ge 7 28 hC dX7_copies_7 (by decide) (fun hc => ?_) (fun hc => ?_)
  · replace h := h.1 hc
    exact r_vret 28 hC hE dX7_copies_28 ⟨rfl, h⟩
  · replace h := h.2 hc
    refine r_aload_n 10 hC dX7_copies_10 rfl rfl ?_
    refine r_iload_n 11 hC dX7_copies_11 rfl rfl ?_
    refine r_iload 12 hC dX7_copies_12 rfl ?_
    refine r_iadd 14 hC dX7_copies_14 ?_
    refine r_aload_n 15 hC dX7_copies_15 rfl rfl ?_
    refine r_iload_n 16 hC dX7_copies_16 rfl rfl ?_
    refine r_iload 17 hC dX7_copies_17 rfl ?_
    refine r_iadd 19 hC dX7_copies_19 ?_
    refine r_iald 20 hC hk0 h.1 dX7_copies_20 ?_
    replace h := h.2
    refine r_iast 21 hC hk2 h.1 dX7_copies_21 (fun I13 hI => ?_)
    replace h := h.2
    replace h := h I13 hI; clear hI
    refine r_iinc 22 (v := x12 + 1) [some (.ref (q0)), some (.int (x1)), some (.ref (q2)), some (.int (x3)), some (.int (x4)), some (.int (x12 + 1))] hC dX7_copies_22 rfl (by rfl) (by decide) rfl ?_
    refine r_goto 25 3 hC dX7_copies_25 (by decide) ?_
    exact h

def wX7_ticksToDeliver (G : pm_G) (q0 : Nat) (x1 : Int32) (I : pm_I) (K : Int32 → pm_I → Prop) : Prop :=
  wX7_noSession G (q0) (x1) I (fun r11 I10 => (r11 = 0 → (wX7_copies G (q0 + 1) 821 (0) (q0 + 12) 821 (0) (821) I10 (fun I12 => pm_lp2 (fun (P13 : Int32 → pm_I → Prop) (x15 : Int32) (I14 : pm_I) => (300 ≤ x15 → (wX7_undelivered G (q0) (x1) I14 (fun r17 I16 => (¬ r17 = 0 → (wX7_copies G (q0 + 12) 821 (0) (q0 + 1) 821 (0) (821) I16 (fun I18 => K (-1) I18))) ∧ (r17 = 0 → (wX7_copies G (q0 + 12) 821 (0) (q0 + 1) 821 (0) (821) I16 (fun I19 => K (x15) I19)))))) ∧ (¬ 300 ≤ x15 → (wX7_undelivered G (q0) (x1) I14 (fun r21 I20 => (r21 ≤ 0 → (wX7_undelivered G (q0) (x1) I20 (fun r23 I22 => (¬ r23 = 0 → (wX7_copies G (q0 + 12) 821 (0) (q0 + 1) 821 (0) (821) I22 (fun I24 => K (-1) I24))) ∧ (r23 = 0 → (wX7_copies G (q0 + 12) 821 (0) (q0 + 1) 821 (0) (821) I22 (fun I25 => K (x15) I25)))))) ∧ (¬ r21 ≤ 0 → (wX7_ticks G (q0) I20 (fun r27 I26 => P13 (x15 + 1) I26))))))) (0) I12))) ∧ (¬ r11 = 0 → (K (0) I10)))

set_option maxRecDepth 20000 in
theorem sX7_ticksToDeliver {G : pm_G} {l : Launch} (hG : pm_ok G) (q0 : Nat) (x1 : Int32) (I : pm_I) (K : Int32 → pm_I → Prop) (hk0 : pm_k G q0 (.inl 7)) (h : wX7_ticksToDeliver G q0 x1 I K) : pm_Ct G l yX7_ticksToDeliver cX7_ticksToDeliver 4 (some .int) { frames := 7, cells := 0, slots := 0, locals := 588 } [.ref (q0), .int (x1)] I (pm_Ki K) := by
  unfold wX7_ticksToDeliver at h
  refine pm_enter (by decide +kernel) hG rfl (Nat.le_of_ble_eq_true rfl) rfl (fun X hl hC hE => ?_)
  subst hl
  have hab : 0 ≤ 0 ∧ 0 ≤ 0 := ⟨Nat.le_refl 0, Nat.le_refl 0⟩
  have hC : pm_C G X cX7_ticksToDeliver 4 RX7 (some .int) { frames := 7, cells := 0, slots := 0, locals := 588 } := hC
  refine r_aload_n 0 hC dX7_ticksToDeliver_0 rfl rfl ?_
  refine r_iload_n 1 hC dX7_ticksToDeliver_1 rfl rfl ?_
  refine r_callV_i 2 (n := 1) [.int (x1)] [] hC hk0 rfl dX7_ticksToDeliver_2 (by decide) (by decide) tw_1497 tw_135 ⟨by decide, by decide, by decide +kernel⟩ tw_1494 tw_1496 tw_113 rfl rfl (sX7_noSession (l := pm_l X) hG (q0) (x1) _ _ hk0 h) hab (Nat.le_of_ble_eq_true rfl) ?_
  clear h; intro r11 I10 h
  refine r_if_eq 5 10 hC dX7_ticksToDeliver_5 (by decide) (fun hc => ?_) (fun hc => ?_)
  · replace h := h.1 hc
    refine r_aload_n 10 hC dX7_ticksToDeliver_10 rfl rfl ?_
    refine r_getR7 11 (r1 := q0 + 1) hC hk0 1 (by decide) tw_1180 rfl rfl dX7_ticksToDeliver_11 ?_
    refine r_iconst 14 (v := 0) hC dX7_ticksToDeliver_14 (by decide) ?_
    refine r_aload_n 15 hC dX7_ticksToDeliver_15 rfl rfl ?_
    refine r_getR7 16 (r1 := q0 + 12) hC hk0 25 (by decide) tw_1204 rfl rfl dX7_ticksToDeliver_16 ?_
    refine r_iconst 19 (v := 0) hC dX7_ticksToDeliver_19 (by decide) ?_
    refine r_sipush 20 (v := 821) hC dX7_ticksToDeliver_20 (by decide) ?_
    refine r_callS_v 23 (n := 5) [.ref (q0 + 1), .int (0), .ref (q0 + 12), .int (0), .int (821)] [] hC dX7_ticksToDeliver_23 (by decide) (by decide) tw_1547 tw_135 ⟨by decide, by decide, by decide +kernel⟩ tw_1545 tw_1546 rfl rfl (sX7_copies (l := pm_l X) hG (q0 + 1) 821 (0) (q0 + 12) 821 (0) (821) _ _ ((pm_s7 hG hk0).1) ((pm_s7 hG hk0).2.2.2.2.2.2.2.2.2.2.2.1) h) hab (Nat.le_of_ble_eq_true rfl) ?_
    clear h; intro I12 h
    refine r_iconst 26 (v := 0) hC dX7_ticksToDeliver_26 (by decide) ?_
    refine r_istore_n 27 [some (.ref (q0)), some (.int (x1)), some (.int (0)), none] hC dX7_ticksToDeliver_27 rfl (by decide) rfl ?_
    refine h (fun x15 I14 => pm_R G X 4 0 0 28 [some (.ref (q0)), some (.int (x1)), some (.int (x15)), none] [] I14) ?_
    clear h; intro x15 I14 h
    refine r_iload_n 28 hC dX7_ticksToDeliver_28 rfl rfl ?_
    refine r_sipush 29 (v := 300) hC dX7_ticksToDeliver_29 (by decide) ?_
    refine r_icmp_ge 32 54 hC dX7_ticksToDeliver_32 (by decide) (fun hc => ?_) (fun hc => ?_)
    · replace h := h.1 hc
      refine r_aload_n 54 hC dX7_ticksToDeliver_54 rfl rfl ?_
      refine r_iload_n 55 hC dX7_ticksToDeliver_55 rfl rfl ?_
      refine r_callV_i 56 (n := 1) [.int (x1)] [] hC hk0 rfl dX7_ticksToDeliver_56 (by decide) (by decide) tw_1517 tw_135 ⟨by decide, by decide, by decide +kernel⟩ tw_1514 tw_1516 tw_115 rfl rfl (sX7_undelivered (l := pm_l X) hG (q0) (x1) _ _ hk0 h) hab (Nat.le_of_ble_eq_true rfl) ?_
      clear h; intro r17 I16 h
      refine r_if_ne 59 66 hC dX7_ticksToDeliver_59 (by decide) (fun hc => ?_) (fun hc => ?_)
      · replace h := h.1 hc
        refine r_iconst 66 (v := 0) hC dX7_ticksToDeliver_66 (by decide) ?_
        refine r_istore_n 67 [some (.ref (q0)), some (.int (x1)), some (.int (x15)), some (.int (0))] hC dX7_ticksToDeliver_67 rfl (by decide) rfl ?_
        refine r_aload_n 68 hC dX7_ticksToDeliver_68 rfl rfl ?_
        refine r_getR7 69 (r1 := q0 + 12) hC hk0 25 (by decide) tw_1204 rfl rfl dX7_ticksToDeliver_69 ?_
        refine r_iconst 72 (v := 0) hC dX7_ticksToDeliver_72 (by decide) ?_
        refine r_aload_n 73 hC dX7_ticksToDeliver_73 rfl rfl ?_
        refine r_getR7 74 (r1 := q0 + 1) hC hk0 1 (by decide) tw_1180 rfl rfl dX7_ticksToDeliver_74 ?_
        refine r_iconst 77 (v := 0) hC dX7_ticksToDeliver_77 (by decide) ?_
        refine r_sipush 78 (v := 821) hC dX7_ticksToDeliver_78 (by decide) ?_
        refine r_callS_v 81 (n := 5) [.ref (q0 + 12), .int (0), .ref (q0 + 1), .int (0), .int (821)] [] hC dX7_ticksToDeliver_81 (by decide) (by decide) tw_1547 tw_135 ⟨by decide, by decide, by decide +kernel⟩ tw_1545 tw_1546 rfl rfl (sX7_copies (l := pm_l X) hG (q0 + 12) 821 (0) (q0 + 1) 821 (0) (821) _ _ ((pm_s7 hG hk0).2.2.2.2.2.2.2.2.2.2.2.1) ((pm_s7 hG hk0).1) h) hab (Nat.le_of_ble_eq_true rfl) ?_
        clear h; intro I18 h
        refine r_iload_n 84 hC dX7_ticksToDeliver_84 rfl rfl ?_
        refine r_if_eq 85 92 hC dX7_ticksToDeliver_85 (by decide) (fun hc => ?_) (fun hc => absurd hc (by decide))
        refine r_iconst 92 (v := -1) hC dX7_ticksToDeliver_92 (by decide) ?_
        exact r_iret 93 hC hE rfl dX7_ticksToDeliver_93 ⟨_, rfl, h⟩
      · replace h := h.2 hc
        refine r_iconst 62 (v := 1) hC dX7_ticksToDeliver_62 (by decide) ?_
        refine r_goto 63 67 hC dX7_ticksToDeliver_63 (by decide) ?_
        refine r_istore_n 67 [some (.ref (q0)), some (.int (x1)), some (.int (x15)), some (.int (1))] hC dX7_ticksToDeliver_67 rfl (by decide) rfl ?_
        refine r_aload_n 68 hC dX7_ticksToDeliver_68 rfl rfl ?_
        refine r_getR7 69 (r1 := q0 + 12) hC hk0 25 (by decide) tw_1204 rfl rfl dX7_ticksToDeliver_69 ?_
        refine r_iconst 72 (v := 0) hC dX7_ticksToDeliver_72 (by decide) ?_
        refine r_aload_n 73 hC dX7_ticksToDeliver_73 rfl rfl ?_
        refine r_getR7 74 (r1 := q0 + 1) hC hk0 1 (by decide) tw_1180 rfl rfl dX7_ticksToDeliver_74 ?_
        refine r_iconst 77 (v := 0) hC dX7_ticksToDeliver_77 (by decide) ?_
        refine r_sipush 78 (v := 821) hC dX7_ticksToDeliver_78 (by decide) ?_
        refine r_callS_v 81 (n := 5) [.ref (q0 + 12), .int (0), .ref (q0 + 1), .int (0), .int (821)] [] hC dX7_ticksToDeliver_81 (by decide) (by decide) tw_1547 tw_135 ⟨by decide, by decide, by decide +kernel⟩ tw_1545 tw_1546 rfl rfl (sX7_copies (l := pm_l X) hG (q0 + 12) 821 (0) (q0 + 1) 821 (0) (821) _ _ ((pm_s7 hG hk0).2.2.2.2.2.2.2.2.2.2.2.1) ((pm_s7 hG hk0).1) h) hab (Nat.le_of_ble_eq_true rfl) ?_
        clear h; intro I19 h
        refine r_iload_n 84 hC dX7_ticksToDeliver_84 rfl rfl ?_
        refine r_if_eq 85 92 hC dX7_ticksToDeliver_85 (by decide) (fun hc => absurd hc (by decide)) (fun hc => ?_)
        refine r_iload_n 88 hC dX7_ticksToDeliver_88 rfl rfl ?_
        refine r_goto 89 93 hC dX7_ticksToDeliver_89 (by decide) ?_
        exact r_iret 93 hC hE rfl dX7_ticksToDeliver_93 ⟨_, rfl, h⟩
    · replace h := h.2 hc
      refine r_aload_n 35 hC dX7_ticksToDeliver_35 rfl rfl ?_
      refine r_iload_n 36 hC dX7_ticksToDeliver_36 rfl rfl ?_
      refine r_callV_i 37 (n := 1) [.int (x1)] [] hC hk0 rfl dX7_ticksToDeliver_37 (by decide) (by decide) tw_1517 tw_135 ⟨by decide, by decide, by decide +kernel⟩ tw_1514 tw_1516 tw_115 rfl rfl (sX7_undelivered (l := pm_l X) hG (q0) (x1) _ _ hk0 h) hab (Nat.le_of_ble_eq_true rfl) ?_
      clear h; intro r21 I20 h
      refine r_if_le 40 54 hC dX7_ticksToDeliver_40 (by decide) (fun hc => ?_) (fun hc => ?_)
      · replace h := h.1 hc
        refine r_aload_n 54 hC dX7_ticksToDeliver_54 rfl rfl ?_
        refine r_iload_n 55 hC dX7_ticksToDeliver_55 rfl rfl ?_
        refine r_callV_i 56 (n := 1) [.int (x1)] [] hC hk0 rfl dX7_ticksToDeliver_56 (by decide) (by decide) tw_1517 tw_135 ⟨by decide, by decide, by decide +kernel⟩ tw_1514 tw_1516 tw_115 rfl rfl (sX7_undelivered (l := pm_l X) hG (q0) (x1) _ _ hk0 h) hab (Nat.le_of_ble_eq_true rfl) ?_
        clear h; intro r23 I22 h
        refine r_if_ne 59 66 hC dX7_ticksToDeliver_59 (by decide) (fun hc => ?_) (fun hc => ?_)
        · replace h := h.1 hc
          refine r_iconst 66 (v := 0) hC dX7_ticksToDeliver_66 (by decide) ?_
          refine r_istore_n 67 [some (.ref (q0)), some (.int (x1)), some (.int (x15)), some (.int (0))] hC dX7_ticksToDeliver_67 rfl (by decide) rfl ?_
          refine r_aload_n 68 hC dX7_ticksToDeliver_68 rfl rfl ?_
          refine r_getR7 69 (r1 := q0 + 12) hC hk0 25 (by decide) tw_1204 rfl rfl dX7_ticksToDeliver_69 ?_
          refine r_iconst 72 (v := 0) hC dX7_ticksToDeliver_72 (by decide) ?_
          refine r_aload_n 73 hC dX7_ticksToDeliver_73 rfl rfl ?_
          refine r_getR7 74 (r1 := q0 + 1) hC hk0 1 (by decide) tw_1180 rfl rfl dX7_ticksToDeliver_74 ?_
          refine r_iconst 77 (v := 0) hC dX7_ticksToDeliver_77 (by decide) ?_
          refine r_sipush 78 (v := 821) hC dX7_ticksToDeliver_78 (by decide) ?_
          refine r_callS_v 81 (n := 5) [.ref (q0 + 12), .int (0), .ref (q0 + 1), .int (0), .int (821)] [] hC dX7_ticksToDeliver_81 (by decide) (by decide) tw_1547 tw_135 ⟨by decide, by decide, by decide +kernel⟩ tw_1545 tw_1546 rfl rfl (sX7_copies (l := pm_l X) hG (q0 + 12) 821 (0) (q0 + 1) 821 (0) (821) _ _ ((pm_s7 hG hk0).2.2.2.2.2.2.2.2.2.2.2.1) ((pm_s7 hG hk0).1) h) hab (Nat.le_of_ble_eq_true rfl) ?_
          clear h; intro I24 h
          refine r_iload_n 84 hC dX7_ticksToDeliver_84 rfl rfl ?_
          refine r_if_eq 85 92 hC dX7_ticksToDeliver_85 (by decide) (fun hc => ?_) (fun hc => absurd hc (by decide))
          refine r_iconst 92 (v := -1) hC dX7_ticksToDeliver_92 (by decide) ?_
          exact r_iret 93 hC hE rfl dX7_ticksToDeliver_93 ⟨_, rfl, h⟩
        · replace h := h.2 hc
          refine r_iconst 62 (v := 1) hC dX7_ticksToDeliver_62 (by decide) ?_
          refine r_goto 63 67 hC dX7_ticksToDeliver_63 (by decide) ?_
          refine r_istore_n 67 [some (.ref (q0)), some (.int (x1)), some (.int (x15)), some (.int (1))] hC dX7_ticksToDeliver_67 rfl (by decide) rfl ?_
          refine r_aload_n 68 hC dX7_ticksToDeliver_68 rfl rfl ?_
          refine r_getR7 69 (r1 := q0 + 12) hC hk0 25 (by decide) tw_1204 rfl rfl dX7_ticksToDeliver_69 ?_
          refine r_iconst 72 (v := 0) hC dX7_ticksToDeliver_72 (by decide) ?_
          refine r_aload_n 73 hC dX7_ticksToDeliver_73 rfl rfl ?_
          refine r_getR7 74 (r1 := q0 + 1) hC hk0 1 (by decide) tw_1180 rfl rfl dX7_ticksToDeliver_74 ?_
          refine r_iconst 77 (v := 0) hC dX7_ticksToDeliver_77 (by decide) ?_
          refine r_sipush 78 (v := 821) hC dX7_ticksToDeliver_78 (by decide) ?_
          refine r_callS_v 81 (n := 5) [.ref (q0 + 12), .int (0), .ref (q0 + 1), .int (0), .int (821)] [] hC dX7_ticksToDeliver_81 (by decide) (by decide) tw_1547 tw_135 ⟨by decide, by decide, by decide +kernel⟩ tw_1545 tw_1546 rfl rfl (sX7_copies (l := pm_l X) hG (q0 + 12) 821 (0) (q0 + 1) 821 (0) (821) _ _ ((pm_s7 hG hk0).2.2.2.2.2.2.2.2.2.2.2.1) ((pm_s7 hG hk0).1) h) hab (Nat.le_of_ble_eq_true rfl) ?_
          clear h; intro I25 h
          refine r_iload_n 84 hC dX7_ticksToDeliver_84 rfl rfl ?_
          refine r_if_eq 85 92 hC dX7_ticksToDeliver_85 (by decide) (fun hc => absurd hc (by decide)) (fun hc => ?_)
          refine r_iload_n 88 hC dX7_ticksToDeliver_88 rfl rfl ?_
          refine r_goto 89 93 hC dX7_ticksToDeliver_89 (by decide) ?_
          exact r_iret 93 hC hE rfl dX7_ticksToDeliver_93 ⟨_, rfl, h⟩
      · replace h := h.2 hc
        refine r_aload_n 43 hC dX7_ticksToDeliver_43 rfl rfl ?_
        refine r_callV_i 44 (n := 0) [] [] hC hk0 rfl dX7_ticksToDeliver_44 (by decide) (by decide) tw_1551 tw_135 ⟨by decide, by decide, by decide +kernel⟩ tw_1548 tw_1550 tw_116 rfl rfl (sX7_ticks (l := pm_l X) hG (q0) _ _ hk0 h) hab (Nat.le_of_ble_eq_true rfl) ?_
        clear h; intro r27 I26 h
        refine r_pop 47 hC dX7_ticksToDeliver_47 rfl ?_
        refine r_iinc 48 (v := x15 + 1) [some (.ref (q0)), some (.int (x1)), some (.int (x15 + 1)), none] hC dX7_ticksToDeliver_48 rfl (by rfl) (by decide) rfl ?_
        refine r_goto 51 28 hC dX7_ticksToDeliver_51 (by decide) ?_
        exact h
  · replace h := h.2 hc
    refine r_iconst 8 (v := 0) hC dX7_ticksToDeliver_8 (by decide) ?_
    exact r_iret 9 hC hE rfl dX7_ticksToDeliver_9 ⟨_, rfl, h⟩

def wX7_ticksToDirect (G : pm_G) (q0 : Nat) (x1 : Int32) (I : pm_I) (K : Int32 → pm_I → Prop) : Prop :=
  wX7_noSession G (q0) (x1) I (fun r11 I10 => (r11 = 0 → (wX7_copies G (q0 + 1) 821 (0) (q0 + 12) 821 (0) (821) I10 (fun I12 => pm_lp2 (fun (P13 : Int32 → pm_I → Prop) (x15 : Int32) (I14 : pm_I) => (300 ≤ x15 → (wX7_of G (x1) (3) I14 (fun r17 I16 => vp_in (r17) 821 ∧ ((¬ (I16 (q0 + 1) (r17).toNatClampNeg) = 100 → (wX7_copies G (q0 + 12) 821 (0) (q0 + 1) 821 (0) (821) I16 (fun I18 => K (-1) I18))) ∧ ((I16 (q0 + 1) (r17).toNatClampNeg) = 100 → (wX7_copies G (q0 + 12) 821 (0) (q0 + 1) 821 (0) (821) I16 (fun I19 => K (x15) I19))))))) ∧ (¬ 300 ≤ x15 → (wX7_of G (x1) (3) I14 (fun r21 I20 => vp_in (r21) 821 ∧ (((I20 (q0 + 1) (r21).toNatClampNeg) = 100 → (wX7_of G (x1) (3) I20 (fun r23 I22 => vp_in (r23) 821 ∧ ((¬ (I22 (q0 + 1) (r23).toNatClampNeg) = 100 → (wX7_copies G (q0 + 12) 821 (0) (q0 + 1) 821 (0) (821) I22 (fun I24 => K (-1) I24))) ∧ ((I22 (q0 + 1) (r23).toNatClampNeg) = 100 → (wX7_copies G (q0 + 12) 821 (0) (q0 + 1) 821 (0) (821) I22 (fun I25 => K (x15) I25))))))) ∧ (¬ (I20 (q0 + 1) (r21).toNatClampNeg) = 100 → (wX7_ticks G (q0) I20 (fun r27 I26 => P13 (x15 + 1) I26)))))))) (0) I12))) ∧ (¬ r11 = 0 → (K (0) I10)))

set_option maxRecDepth 20000 in
theorem sX7_ticksToDirect {G : pm_G} {l : Launch} (hG : pm_ok G) (q0 : Nat) (x1 : Int32) (I : pm_I) (K : Int32 → pm_I → Prop) (hk0 : pm_k G q0 (.inl 7)) (h : wX7_ticksToDirect G q0 x1 I K) : pm_Ct G l yX7_ticksToDirect cX7_ticksToDirect 4 (some .int) { frames := 7, cells := 0, slots := 0, locals := 588 } [.ref (q0), .int (x1)] I (pm_Ki K) := by
  unfold wX7_ticksToDirect at h
  refine pm_enter (by decide +kernel) hG rfl (Nat.le_of_ble_eq_true rfl) rfl (fun X hl hC hE => ?_)
  subst hl
  have hab : 0 ≤ 0 ∧ 0 ≤ 0 := ⟨Nat.le_refl 0, Nat.le_refl 0⟩
  have hC : pm_C G X cX7_ticksToDirect 4 RX7 (some .int) { frames := 7, cells := 0, slots := 0, locals := 588 } := hC
  refine r_aload_n 0 hC dX7_ticksToDirect_0 rfl rfl ?_
  refine r_iload_n 1 hC dX7_ticksToDirect_1 rfl rfl ?_
  refine r_callV_i 2 (n := 1) [.int (x1)] [] hC hk0 rfl dX7_ticksToDirect_2 (by decide) (by decide) tw_1497 tw_135 ⟨by decide, by decide, by decide +kernel⟩ tw_1494 tw_1496 tw_113 rfl rfl (sX7_noSession (l := pm_l X) hG (q0) (x1) _ _ hk0 h) hab (Nat.le_of_ble_eq_true rfl) ?_
  clear h; intro r11 I10 h
  refine r_if_eq 5 10 hC dX7_ticksToDirect_5 (by decide) (fun hc => ?_) (fun hc => ?_)
  · replace h := h.1 hc
    refine r_aload_n 10 hC dX7_ticksToDirect_10 rfl rfl ?_
    refine r_getR7 11 (r1 := q0 + 1) hC hk0 1 (by decide) tw_1180 rfl rfl dX7_ticksToDirect_11 ?_
    refine r_iconst 14 (v := 0) hC dX7_ticksToDirect_14 (by decide) ?_
    refine r_aload_n 15 hC dX7_ticksToDirect_15 rfl rfl ?_
    refine r_getR7 16 (r1 := q0 + 12) hC hk0 25 (by decide) tw_1204 rfl rfl dX7_ticksToDirect_16 ?_
    refine r_iconst 19 (v := 0) hC dX7_ticksToDirect_19 (by decide) ?_
    refine r_sipush 20 (v := 821) hC dX7_ticksToDirect_20 (by decide) ?_
    refine r_callS_v 23 (n := 5) [.ref (q0 + 1), .int (0), .ref (q0 + 12), .int (0), .int (821)] [] hC dX7_ticksToDirect_23 (by decide) (by decide) tw_1547 tw_135 ⟨by decide, by decide, by decide +kernel⟩ tw_1545 tw_1546 rfl rfl (sX7_copies (l := pm_l X) hG (q0 + 1) 821 (0) (q0 + 12) 821 (0) (821) _ _ ((pm_s7 hG hk0).1) ((pm_s7 hG hk0).2.2.2.2.2.2.2.2.2.2.2.1) h) hab (Nat.le_of_ble_eq_true rfl) ?_
    clear h; intro I12 h
    refine r_iconst 26 (v := 0) hC dX7_ticksToDirect_26 (by decide) ?_
    refine r_istore_n 27 [some (.ref (q0)), some (.int (x1)), some (.int (0)), none] hC dX7_ticksToDirect_27 rfl (by decide) rfl ?_
    refine h (fun x15 I14 => pm_R G X 4 0 0 28 [some (.ref (q0)), some (.int (x1)), some (.int (x15)), none] [] I14) ?_
    clear h; intro x15 I14 h
    refine r_iload_n 28 hC dX7_ticksToDirect_28 rfl rfl ?_
    refine r_sipush 29 (v := 300) hC dX7_ticksToDirect_29 (by decide) ?_
    refine r_icmp_ge 32 61 hC dX7_ticksToDirect_32 (by decide) (fun hc => ?_) (fun hc => ?_)
    · replace h := h.1 hc
      refine r_aload_n 61 hC dX7_ticksToDirect_61 rfl rfl ?_
      refine r_getR7 62 (r1 := q0 + 1) hC hk0 1 (by decide) tw_1180 rfl rfl dX7_ticksToDirect_62 ?_
      refine r_iload_n 65 hC dX7_ticksToDirect_65 rfl rfl ?_
      refine r_iconst 66 (v := 3) hC dX7_ticksToDirect_66 (by decide) ?_
      refine r_callS_i 67 (n := 2) [.int (x1), .int (3)] [.ref (q0 + 1)] hC dX7_ticksToDirect_67 (by decide) (by decide) tw_1446 tw_135 ⟨by decide, by decide, by decide +kernel⟩ tw_1444 tw_1445 rfl rfl (sX7_of (l := pm_l X) hG (x1) (3) _ _ h) hab (Nat.le_of_ble_eq_true rfl) ?_
      clear h; intro r17 I16 h
      refine r_iald 70 hC ((pm_s7 hG hk0).1) h.1 dX7_ticksToDirect_70 ?_
      replace h := h.2
      refine r_bipush 71 (v := 100) hC dX7_ticksToDirect_71 (by decide) ?_
      refine r_icmp_ne 73 80 hC dX7_ticksToDirect_73 (by decide) (fun hc => ?_) (fun hc => ?_)
      · replace h := h.1 hc
        refine r_iconst 80 (v := 0) hC dX7_ticksToDirect_80 (by decide) ?_
        refine r_istore_n 81 [some (.ref (q0)), some (.int (x1)), some (.int (x15)), some (.int (0))] hC dX7_ticksToDirect_81 rfl (by decide) rfl ?_
        refine r_aload_n 82 hC dX7_ticksToDirect_82 rfl rfl ?_
        refine r_getR7 83 (r1 := q0 + 12) hC hk0 25 (by decide) tw_1204 rfl rfl dX7_ticksToDirect_83 ?_
        refine r_iconst 86 (v := 0) hC dX7_ticksToDirect_86 (by decide) ?_
        refine r_aload_n 87 hC dX7_ticksToDirect_87 rfl rfl ?_
        refine r_getR7 88 (r1 := q0 + 1) hC hk0 1 (by decide) tw_1180 rfl rfl dX7_ticksToDirect_88 ?_
        refine r_iconst 91 (v := 0) hC dX7_ticksToDirect_91 (by decide) ?_
        refine r_sipush 92 (v := 821) hC dX7_ticksToDirect_92 (by decide) ?_
        refine r_callS_v 95 (n := 5) [.ref (q0 + 12), .int (0), .ref (q0 + 1), .int (0), .int (821)] [] hC dX7_ticksToDirect_95 (by decide) (by decide) tw_1547 tw_135 ⟨by decide, by decide, by decide +kernel⟩ tw_1545 tw_1546 rfl rfl (sX7_copies (l := pm_l X) hG (q0 + 12) 821 (0) (q0 + 1) 821 (0) (821) _ _ ((pm_s7 hG hk0).2.2.2.2.2.2.2.2.2.2.2.1) ((pm_s7 hG hk0).1) h) hab (Nat.le_of_ble_eq_true rfl) ?_
        clear h; intro I18 h
        refine r_iload_n 98 hC dX7_ticksToDirect_98 rfl rfl ?_
        refine r_if_eq 99 106 hC dX7_ticksToDirect_99 (by decide) (fun hc => ?_) (fun hc => absurd hc (by decide))
        refine r_iconst 106 (v := -1) hC dX7_ticksToDirect_106 (by decide) ?_
        exact r_iret 107 hC hE rfl dX7_ticksToDirect_107 ⟨_, rfl, h⟩
      · replace h := h.2 hc
        refine r_iconst 76 (v := 1) hC dX7_ticksToDirect_76 (by decide) ?_
        refine r_goto 77 81 hC dX7_ticksToDirect_77 (by decide) ?_
        refine r_istore_n 81 [some (.ref (q0)), some (.int (x1)), some (.int (x15)), some (.int (1))] hC dX7_ticksToDirect_81 rfl (by decide) rfl ?_
        refine r_aload_n 82 hC dX7_ticksToDirect_82 rfl rfl ?_
        refine r_getR7 83 (r1 := q0 + 12) hC hk0 25 (by decide) tw_1204 rfl rfl dX7_ticksToDirect_83 ?_
        refine r_iconst 86 (v := 0) hC dX7_ticksToDirect_86 (by decide) ?_
        refine r_aload_n 87 hC dX7_ticksToDirect_87 rfl rfl ?_
        refine r_getR7 88 (r1 := q0 + 1) hC hk0 1 (by decide) tw_1180 rfl rfl dX7_ticksToDirect_88 ?_
        refine r_iconst 91 (v := 0) hC dX7_ticksToDirect_91 (by decide) ?_
        refine r_sipush 92 (v := 821) hC dX7_ticksToDirect_92 (by decide) ?_
        refine r_callS_v 95 (n := 5) [.ref (q0 + 12), .int (0), .ref (q0 + 1), .int (0), .int (821)] [] hC dX7_ticksToDirect_95 (by decide) (by decide) tw_1547 tw_135 ⟨by decide, by decide, by decide +kernel⟩ tw_1545 tw_1546 rfl rfl (sX7_copies (l := pm_l X) hG (q0 + 12) 821 (0) (q0 + 1) 821 (0) (821) _ _ ((pm_s7 hG hk0).2.2.2.2.2.2.2.2.2.2.2.1) ((pm_s7 hG hk0).1) h) hab (Nat.le_of_ble_eq_true rfl) ?_
        clear h; intro I19 h
        refine r_iload_n 98 hC dX7_ticksToDirect_98 rfl rfl ?_
        refine r_if_eq 99 106 hC dX7_ticksToDirect_99 (by decide) (fun hc => absurd hc (by decide)) (fun hc => ?_)
        refine r_iload_n 102 hC dX7_ticksToDirect_102 rfl rfl ?_
        refine r_goto 103 107 hC dX7_ticksToDirect_103 (by decide) ?_
        exact r_iret 107 hC hE rfl dX7_ticksToDirect_107 ⟨_, rfl, h⟩
    · replace h := h.2 hc
      refine r_aload_n 35 hC dX7_ticksToDirect_35 rfl rfl ?_
      refine r_getR7 36 (r1 := q0 + 1) hC hk0 1 (by decide) tw_1180 rfl rfl dX7_ticksToDirect_36 ?_
      refine r_iload_n 39 hC dX7_ticksToDirect_39 rfl rfl ?_
      refine r_iconst 40 (v := 3) hC dX7_ticksToDirect_40 (by decide) ?_
      refine r_callS_i 41 (n := 2) [.int (x1), .int (3)] [.ref (q0 + 1)] hC dX7_ticksToDirect_41 (by decide) (by decide) tw_1446 tw_135 ⟨by decide, by decide, by decide +kernel⟩ tw_1444 tw_1445 rfl rfl (sX7_of (l := pm_l X) hG (x1) (3) _ _ h) hab (Nat.le_of_ble_eq_true rfl) ?_
      clear h; intro r21 I20 h
      refine r_iald 44 hC ((pm_s7 hG hk0).1) h.1 dX7_ticksToDirect_44 ?_
      replace h := h.2
      refine r_bipush 45 (v := 100) hC dX7_ticksToDirect_45 (by decide) ?_
      refine r_icmp_eq 47 61 hC dX7_ticksToDirect_47 (by decide) (fun hc => ?_) (fun hc => ?_)
      · replace h := h.1 hc
        refine r_aload_n 61 hC dX7_ticksToDirect_61 rfl rfl ?_
        refine r_getR7 62 (r1 := q0 + 1) hC hk0 1 (by decide) tw_1180 rfl rfl dX7_ticksToDirect_62 ?_
        refine r_iload_n 65 hC dX7_ticksToDirect_65 rfl rfl ?_
        refine r_iconst 66 (v := 3) hC dX7_ticksToDirect_66 (by decide) ?_
        refine r_callS_i 67 (n := 2) [.int (x1), .int (3)] [.ref (q0 + 1)] hC dX7_ticksToDirect_67 (by decide) (by decide) tw_1446 tw_135 ⟨by decide, by decide, by decide +kernel⟩ tw_1444 tw_1445 rfl rfl (sX7_of (l := pm_l X) hG (x1) (3) _ _ h) hab (Nat.le_of_ble_eq_true rfl) ?_
        clear h; intro r23 I22 h
        refine r_iald 70 hC ((pm_s7 hG hk0).1) h.1 dX7_ticksToDirect_70 ?_
        replace h := h.2
        refine r_bipush 71 (v := 100) hC dX7_ticksToDirect_71 (by decide) ?_
        refine r_icmp_ne 73 80 hC dX7_ticksToDirect_73 (by decide) (fun hc => ?_) (fun hc => ?_)
        · replace h := h.1 hc
          refine r_iconst 80 (v := 0) hC dX7_ticksToDirect_80 (by decide) ?_
          refine r_istore_n 81 [some (.ref (q0)), some (.int (x1)), some (.int (x15)), some (.int (0))] hC dX7_ticksToDirect_81 rfl (by decide) rfl ?_
          refine r_aload_n 82 hC dX7_ticksToDirect_82 rfl rfl ?_
          refine r_getR7 83 (r1 := q0 + 12) hC hk0 25 (by decide) tw_1204 rfl rfl dX7_ticksToDirect_83 ?_
          refine r_iconst 86 (v := 0) hC dX7_ticksToDirect_86 (by decide) ?_
          refine r_aload_n 87 hC dX7_ticksToDirect_87 rfl rfl ?_
          refine r_getR7 88 (r1 := q0 + 1) hC hk0 1 (by decide) tw_1180 rfl rfl dX7_ticksToDirect_88 ?_
          refine r_iconst 91 (v := 0) hC dX7_ticksToDirect_91 (by decide) ?_
          refine r_sipush 92 (v := 821) hC dX7_ticksToDirect_92 (by decide) ?_
          refine r_callS_v 95 (n := 5) [.ref (q0 + 12), .int (0), .ref (q0 + 1), .int (0), .int (821)] [] hC dX7_ticksToDirect_95 (by decide) (by decide) tw_1547 tw_135 ⟨by decide, by decide, by decide +kernel⟩ tw_1545 tw_1546 rfl rfl (sX7_copies (l := pm_l X) hG (q0 + 12) 821 (0) (q0 + 1) 821 (0) (821) _ _ ((pm_s7 hG hk0).2.2.2.2.2.2.2.2.2.2.2.1) ((pm_s7 hG hk0).1) h) hab (Nat.le_of_ble_eq_true rfl) ?_
          clear h; intro I24 h
          refine r_iload_n 98 hC dX7_ticksToDirect_98 rfl rfl ?_
          refine r_if_eq 99 106 hC dX7_ticksToDirect_99 (by decide) (fun hc => ?_) (fun hc => absurd hc (by decide))
          refine r_iconst 106 (v := -1) hC dX7_ticksToDirect_106 (by decide) ?_
          exact r_iret 107 hC hE rfl dX7_ticksToDirect_107 ⟨_, rfl, h⟩
        · replace h := h.2 hc
          refine r_iconst 76 (v := 1) hC dX7_ticksToDirect_76 (by decide) ?_
          refine r_goto 77 81 hC dX7_ticksToDirect_77 (by decide) ?_
          refine r_istore_n 81 [some (.ref (q0)), some (.int (x1)), some (.int (x15)), some (.int (1))] hC dX7_ticksToDirect_81 rfl (by decide) rfl ?_
          refine r_aload_n 82 hC dX7_ticksToDirect_82 rfl rfl ?_
          refine r_getR7 83 (r1 := q0 + 12) hC hk0 25 (by decide) tw_1204 rfl rfl dX7_ticksToDirect_83 ?_
          refine r_iconst 86 (v := 0) hC dX7_ticksToDirect_86 (by decide) ?_
          refine r_aload_n 87 hC dX7_ticksToDirect_87 rfl rfl ?_
          refine r_getR7 88 (r1 := q0 + 1) hC hk0 1 (by decide) tw_1180 rfl rfl dX7_ticksToDirect_88 ?_
          refine r_iconst 91 (v := 0) hC dX7_ticksToDirect_91 (by decide) ?_
          refine r_sipush 92 (v := 821) hC dX7_ticksToDirect_92 (by decide) ?_
          refine r_callS_v 95 (n := 5) [.ref (q0 + 12), .int (0), .ref (q0 + 1), .int (0), .int (821)] [] hC dX7_ticksToDirect_95 (by decide) (by decide) tw_1547 tw_135 ⟨by decide, by decide, by decide +kernel⟩ tw_1545 tw_1546 rfl rfl (sX7_copies (l := pm_l X) hG (q0 + 12) 821 (0) (q0 + 1) 821 (0) (821) _ _ ((pm_s7 hG hk0).2.2.2.2.2.2.2.2.2.2.2.1) ((pm_s7 hG hk0).1) h) hab (Nat.le_of_ble_eq_true rfl) ?_
          clear h; intro I25 h
          refine r_iload_n 98 hC dX7_ticksToDirect_98 rfl rfl ?_
          refine r_if_eq 99 106 hC dX7_ticksToDirect_99 (by decide) (fun hc => absurd hc (by decide)) (fun hc => ?_)
          refine r_iload_n 102 hC dX7_ticksToDirect_102 rfl rfl ?_
          refine r_goto 103 107 hC dX7_ticksToDirect_103 (by decide) ?_
          exact r_iret 107 hC hE rfl dX7_ticksToDirect_107 ⟨_, rfl, h⟩
      · replace h := h.2 hc
        refine r_aload_n 50 hC dX7_ticksToDirect_50 rfl rfl ?_
        refine r_callV_i 51 (n := 0) [] [] hC hk0 rfl dX7_ticksToDirect_51 (by decide) (by decide) tw_1551 tw_135 ⟨by decide, by decide, by decide +kernel⟩ tw_1548 tw_1550 tw_116 rfl rfl (sX7_ticks (l := pm_l X) hG (q0) _ _ hk0 h) hab (Nat.le_of_ble_eq_true rfl) ?_
        clear h; intro r27 I26 h
        refine r_pop 54 hC dX7_ticksToDirect_54 rfl ?_
        refine r_iinc 55 (v := x15 + 1) [some (.ref (q0)), some (.int (x1)), some (.int (x15 + 1)), none] hC dX7_ticksToDirect_55 rfl (by rfl) (by decide) rfl ?_
        refine r_goto 58 28 hC dX7_ticksToDirect_58 (by decide) ?_
        exact h
  · replace h := h.2 hc
    refine r_iconst 8 (v := 0) hC dX7_ticksToDirect_8 (by decide) ?_
    exact r_iret 9 hC hE rfl dX7_ticksToDirect_9 ⟨_, rfl, h⟩

def wX7_keeps (G : pm_G) (q0 : Nat) (I : pm_I) (K : pm_I → Prop) : Prop :=
  (¬ (I q0 26) = 10 → (wX7_copies G (q0 + 1) 821 (0) (q0 + 13) 8210 (821 * (I q0 26)) (821) I (fun I10 => ∀ I11 : pm_I, I11 = pm_up I10 (q0) 26 ((I10 q0 26) + 1) → K I11))) ∧ ((I q0 26) = 10 → (∀ I12 : pm_I, I12 = pm_up I (q0) 26 ((I q0 26) - 1) → (wX7_copies G (q0 + 13) 8210 (821) (q0 + 13) 8210 (0) (821 * (I12 q0 26)) I12 (fun I13 => wX7_copies G (q0 + 1) 821 (0) (q0 + 13) 8210 (821 * (I13 q0 26)) (821) I13 (fun I14 => ∀ I15 : pm_I, I15 = pm_up I14 (q0) 26 ((I14 q0 26) + 1) → K I15)))))

set_option maxRecDepth 20000 in
theorem sX7_keeps {G : pm_G} {l : Launch} (hG : pm_ok G) (q0 : Nat) (I : pm_I) (K : pm_I → Prop) (hk0 : pm_k G q0 (.inl 7)) (h : wX7_keeps G q0 I K) : pm_Ct G l yX7_keeps cX7_keeps 1 none { frames := 2, cells := 0, slots := 0, locals := 153 } [.ref (q0)] I (pm_Kv K) := by
  unfold wX7_keeps at h
  refine pm_enter (by decide +kernel) hG rfl (Nat.le_of_ble_eq_true rfl) rfl (fun X hl hC hE => ?_)
  subst hl
  have hab : 0 ≤ 0 ∧ 0 ≤ 0 := ⟨Nat.le_refl 0, Nat.le_refl 0⟩
  have hC : pm_C G X cX7_keeps 1 RX7 none { frames := 2, cells := 0, slots := 0, locals := 153 } := hC
  refine r_aload_n 0 hC dX7_keeps_0 rfl rfl ?_
  refine r_getI7 1 (x := I (q0) 26) hC hk0 26 (by decide) tw_1205 rfl rfl dX7_keeps_1 ?_
  refine r_bipush 4 (v := 10) hC dX7_keeps_4 (by decide) ?_
  refine r_icmp_ne 6 42 hC dX7_keeps_6 (by decide) (fun hc => ?_) (fun hc => ?_)
  · replace h := h.1 hc
    refine r_aload_n 42 hC dX7_keeps_42 rfl rfl ?_
    refine r_getR7 43 (r1 := q0 + 1) hC hk0 1 (by decide) tw_1180 rfl rfl dX7_keeps_43 ?_
    refine r_iconst 46 (v := 0) hC dX7_keeps_46 (by decide) ?_
    refine r_aload_n 47 hC dX7_keeps_47 rfl rfl ?_
    refine r_getR7 48 (r1 := q0 + 13) hC hk0 27 (by decide) tw_1206 rfl rfl dX7_keeps_48 ?_
    refine r_sipush 51 (v := 821) hC dX7_keeps_51 (by decide) ?_
    refine r_aload_n 54 hC dX7_keeps_54 rfl rfl ?_
    refine r_getI7 55 (x := I (q0) 26) hC hk0 26 (by decide) tw_1205 rfl rfl dX7_keeps_55 ?_
    refine r_imul 58 hC dX7_keeps_58 ?_
    refine r_sipush 59 (v := 821) hC dX7_keeps_59 (by decide) ?_
    refine r_callS_v 62 (n := 5) [.ref (q0 + 1), .int (0), .ref (q0 + 13), .int (821 * (I q0 26)), .int (821)] [] hC dX7_keeps_62 (by decide) (by decide) tw_1547 tw_135 ⟨by decide, by decide, by decide +kernel⟩ tw_1545 tw_1546 rfl rfl (sX7_copies (l := pm_l X) hG (q0 + 1) 821 (0) (q0 + 13) 8210 (821 * (I q0 26)) (821) _ _ ((pm_s7 hG hk0).1) ((pm_s7 hG hk0).2.2.2.2.2.2.2.2.2.2.2.2.1) h) hab (Nat.le_of_ble_eq_true rfl) ?_
    clear h; intro I10 h
    refine r_aload_n 65 hC dX7_keeps_65 rfl rfl ?_
    refine r_dup 66 hC dX7_keeps_66 rfl ?_
    refine r_getI7 67 (x := I10 (q0) 26) hC hk0 26 (by decide) tw_1205 rfl rfl dX7_keeps_67 ?_
    refine r_iconst 70 (v := 1) hC dX7_keeps_70 (by decide) ?_
    refine r_iadd 71 hC dX7_keeps_71 ?_
    refine r_putI7 72 hC hk0 26 (by decide) tw_1205 rfl rfl (by decide +kernel) ps_7_26 dX7_keeps_72 (fun I11 hI => ?_)
    replace h := h I11 hI; clear hI
    exact r_vret 75 hC hE dX7_keeps_75 ⟨rfl, h⟩
  · replace h := h.2 hc
    refine r_aload_n 9 hC dX7_keeps_9 rfl rfl ?_
    refine r_dup 10 hC dX7_keeps_10 rfl ?_
    refine r_getI7 11 (x := I (q0) 26) hC hk0 26 (by decide) tw_1205 rfl rfl dX7_keeps_11 ?_
    refine r_iconst 14 (v := 1) hC dX7_keeps_14 (by decide) ?_
    refine r_isub 15 hC dX7_keeps_15 ?_
    refine r_putI7 16 hC hk0 26 (by decide) tw_1205 rfl rfl (by decide +kernel) ps_7_26 dX7_keeps_16 (fun I12 hI => ?_)
    replace h := h I12 hI; clear hI
    refine r_aload_n 19 hC dX7_keeps_19 rfl rfl ?_
    refine r_getR7 20 (r1 := q0 + 13) hC hk0 27 (by decide) tw_1206 rfl rfl dX7_keeps_20 ?_
    refine r_sipush 23 (v := 821) hC dX7_keeps_23 (by decide) ?_
    refine r_aload_n 26 hC dX7_keeps_26 rfl rfl ?_
    refine r_getR7 27 (r1 := q0 + 13) hC hk0 27 (by decide) tw_1206 rfl rfl dX7_keeps_27 ?_
    refine r_iconst 30 (v := 0) hC dX7_keeps_30 (by decide) ?_
    refine r_sipush 31 (v := 821) hC dX7_keeps_31 (by decide) ?_
    refine r_aload_n 34 hC dX7_keeps_34 rfl rfl ?_
    refine r_getI7 35 (x := I12 (q0) 26) hC hk0 26 (by decide) tw_1205 rfl rfl dX7_keeps_35 ?_
    refine r_imul 38 hC dX7_keeps_38 ?_
    refine r_callS_v 39 (n := 5) [.ref (q0 + 13), .int (821), .ref (q0 + 13), .int (0), .int (821 * (I12 q0 26))] [] hC dX7_keeps_39 (by decide) (by decide) tw_1547 tw_135 ⟨by decide, by decide, by decide +kernel⟩ tw_1545 tw_1546 rfl rfl (sX7_copies (l := pm_l X) hG (q0 + 13) 8210 (821) (q0 + 13) 8210 (0) (821 * (I12 q0 26)) _ _ ((pm_s7 hG hk0).2.2.2.2.2.2.2.2.2.2.2.2.1) ((pm_s7 hG hk0).2.2.2.2.2.2.2.2.2.2.2.2.1) h) hab (Nat.le_of_ble_eq_true rfl) ?_
    clear h; intro I13 h
    refine r_aload_n 42 hC dX7_keeps_42 rfl rfl ?_
    refine r_getR7 43 (r1 := q0 + 1) hC hk0 1 (by decide) tw_1180 rfl rfl dX7_keeps_43 ?_
    refine r_iconst 46 (v := 0) hC dX7_keeps_46 (by decide) ?_
    refine r_aload_n 47 hC dX7_keeps_47 rfl rfl ?_
    refine r_getR7 48 (r1 := q0 + 13) hC hk0 27 (by decide) tw_1206 rfl rfl dX7_keeps_48 ?_
    refine r_sipush 51 (v := 821) hC dX7_keeps_51 (by decide) ?_
    refine r_aload_n 54 hC dX7_keeps_54 rfl rfl ?_
    refine r_getI7 55 (x := I13 (q0) 26) hC hk0 26 (by decide) tw_1205 rfl rfl dX7_keeps_55 ?_
    refine r_imul 58 hC dX7_keeps_58 ?_
    refine r_sipush 59 (v := 821) hC dX7_keeps_59 (by decide) ?_
    refine r_callS_v 62 (n := 5) [.ref (q0 + 1), .int (0), .ref (q0 + 13), .int (821 * (I13 q0 26)), .int (821)] [] hC dX7_keeps_62 (by decide) (by decide) tw_1547 tw_135 ⟨by decide, by decide, by decide +kernel⟩ tw_1545 tw_1546 rfl rfl (sX7_copies (l := pm_l X) hG (q0 + 1) 821 (0) (q0 + 13) 8210 (821 * (I13 q0 26)) (821) _ _ ((pm_s7 hG hk0).1) ((pm_s7 hG hk0).2.2.2.2.2.2.2.2.2.2.2.2.1) h) hab (Nat.le_of_ble_eq_true rfl) ?_
    clear h; intro I14 h
    refine r_aload_n 65 hC dX7_keeps_65 rfl rfl ?_
    refine r_dup 66 hC dX7_keeps_66 rfl ?_
    refine r_getI7 67 (x := I14 (q0) 26) hC hk0 26 (by decide) tw_1205 rfl rfl dX7_keeps_67 ?_
    refine r_iconst 70 (v := 1) hC dX7_keeps_70 (by decide) ?_
    refine r_iadd 71 hC dX7_keeps_71 ?_
    refine r_putI7 72 hC hk0 26 (by decide) tw_1205 rfl rfl (by decide +kernel) ps_7_26 dX7_keeps_72 (fun I15 hI => ?_)
    replace h := h I15 hI; clear hI
    exact r_vret 75 hC hE dX7_keeps_75 ⟨rfl, h⟩

def wX7_run (G : pm_G) (q0 : Nat) (x1 : Int32) (I : pm_I) (K : Int32 → pm_I → Prop) : Prop :=
  ∀ I10 : pm_I, I10 = pm_up I (q0) 0 (0) → (wX7_within G (x1) (1) (300) I10 (fun r12 I11 => (¬ r12 = 0 → (wX7_throwsIf G (q0) (0) (1) I11 (fun r14 I13 => (¬ r14 = 0 → (K (0) I13)) ∧ (r14 = 0 → ((((I13 (q0 + 1) (0 : Int32).toNatClampNeg) + x1) ≤ 9999 → (wX7_throwsIf G (q0) (0) (2) I13 (fun r16 I15 => (r16 = 0 → (wX7_keeps G (q0) I15 (fun I17 => pm_lp3 (fun (P18 : Int32 → Int32 → pm_I → Prop) (x20 : Int32) (x21 : Int32) (I19 : pm_I) => (x1 ≤ x21 → (K (x20) I19)) ∧ (¬ x1 ≤ x21 → (wX7_ticks G (q0) I19 (fun r23 I22 => P18 (x20 + r23) (x21 + 1) I22)))) (0) (0) I17))) ∧ (¬ r16 = 0 → (K (0) I15))))) ∧ (¬ ((I13 (q0 + 1) (0 : Int32).toNatClampNeg) + x1) ≤ 9999 → (wX7_throwsIf G (q0) (1) (2) I13 (fun r25 I24 => (r25 = 0 → (wX7_keeps G (q0) I24 (fun I26 => pm_lp3 (fun (P27 : Int32 → Int32 → pm_I → Prop) (x29 : Int32) (x30 : Int32) (I28 : pm_I) => (x1 ≤ x30 → (K (x29) I28)) ∧ (¬ x1 ≤ x30 → (wX7_ticks G (q0) I28 (fun r32 I31 => P27 (x29 + r32) (x30 + 1) I31)))) (0) (0) I26))) ∧ (¬ r25 = 0 → (K (0) I24)))))))))) ∧ (r12 = 0 → (wX7_throwsIf G (q0) (1) (1) I11 (fun r34 I33 => (¬ r34 = 0 → (K (0) I33)) ∧ (r34 = 0 → ((((I33 (q0 + 1) (0 : Int32).toNatClampNeg) + x1) ≤ 9999 → (wX7_throwsIf G (q0) (0) (2) I33 (fun r36 I35 => (r36 = 0 → (wX7_keeps G (q0) I35 (fun I37 => pm_lp3 (fun (P38 : Int32 → Int32 → pm_I → Prop) (x40 : Int32) (x41 : Int32) (I39 : pm_I) => (x1 ≤ x41 → (K (x40) I39)) ∧ (¬ x1 ≤ x41 → (wX7_ticks G (q0) I39 (fun r43 I42 => P38 (x40 + r43) (x41 + 1) I42)))) (0) (0) I37))) ∧ (¬ r36 = 0 → (K (0) I35))))) ∧ (¬ ((I33 (q0 + 1) (0 : Int32).toNatClampNeg) + x1) ≤ 9999 → (wX7_throwsIf G (q0) (1) (2) I33 (fun r45 I44 => (r45 = 0 → (wX7_keeps G (q0) I44 (fun I46 => pm_lp3 (fun (P47 : Int32 → Int32 → pm_I → Prop) (x49 : Int32) (x50 : Int32) (I48 : pm_I) => (x1 ≤ x50 → (K (x49) I48)) ∧ (¬ x1 ≤ x50 → (wX7_ticks G (q0) I48 (fun r52 I51 => P47 (x49 + r52) (x50 + 1) I51)))) (0) (0) I46))) ∧ (¬ r45 = 0 → (K (0) I44))))))))))))

set_option maxRecDepth 20000 in
theorem sX7_run {G : pm_G} {l : Launch} (hG : pm_ok G) (q0 : Nat) (x1 : Int32) (I : pm_I) (K : Int32 → pm_I → Prop) (hk0 : pm_k G q0 (.inl 7)) (h : wX7_run G q0 x1 I K) : pm_Ct G l yX7_run cX7_run 4 (some .int) { frames := 7, cells := 0, slots := 0, locals := 588 } [.ref (q0), .int (x1)] I (pm_Ki K) := by
  unfold wX7_run at h
  refine pm_enter (by decide +kernel) hG rfl (Nat.le_of_ble_eq_true rfl) rfl (fun X hl hC hE => ?_)
  subst hl
  have hab : 0 ≤ 0 ∧ 0 ≤ 0 := ⟨Nat.le_refl 0, Nat.le_refl 0⟩
  have hC : pm_C G X cX7_run 4 RX7 (some .int) { frames := 7, cells := 0, slots := 0, locals := 588 } := hC
  refine r_aload_n 0 hC dX7_run_0 rfl rfl ?_
  refine r_iconst 1 (v := 0) hC dX7_run_1 (by decide) ?_
  refine r_putI7 2 hC hk0 0 (by decide) tw_1179 rfl rfl (by decide +kernel) ps_7_0 dX7_run_2 (fun I10 hI => ?_)
  replace h := h I10 hI; clear hI
  refine r_aload_n 5 hC dX7_run_5 rfl rfl ?_
  refine r_iload_n 6 hC dX7_run_6 rfl rfl ?_
  refine r_iconst 7 (v := 1) hC dX7_run_7 (by decide) ?_
  refine r_sipush 8 (v := 300) hC dX7_run_8 (by decide) ?_
  refine r_callS_i 11 (n := 3) [.int (x1), .int (1), .int (300)] [.ref (q0)] hC dX7_run_11 (by decide) (by decide) tw_1288 tw_135 ⟨by decide, by decide, by decide +kernel⟩ tw_1286 tw_1287 rfl rfl (sX7_within (l := pm_l X) hG (x1) (1) (300) _ _ h) hab (Nat.le_of_ble_eq_true rfl) ?_
  clear h; intro r12 I11 h
  refine r_if_ne 14 21 hC dX7_run_14 (by decide) (fun hc => ?_) (fun hc => ?_)
  · replace h := h.1 hc
    refine r_iconst 21 (v := 0) hC dX7_run_21 (by decide) ?_
    refine r_iconst 22 (v := 1) hC dX7_run_22 (by decide) ?_
    refine r_callV_i 23 (n := 2) [.int (0), .int (1)] [] hC hk0 rfl dX7_run_23 (by decide) (by decide) tw_1292 tw_135 ⟨by decide, by decide, by decide +kernel⟩ tw_1289 tw_1291 tw_81 rfl rfl (sX7_throwsIf (l := pm_l X) hG (q0) (0) (1) _ _ hk0 h) hab (Nat.le_of_ble_eq_true rfl) ?_
    clear h; intro r14 I13 h
    refine r_if_ne 26 56 hC dX7_run_26 (by decide) (fun hc => ?_) (fun hc => ?_)
    · replace h := h.1 hc
      refine r_iconst 56 (v := 0) hC dX7_run_56 (by decide) ?_
      exact r_iret 57 hC hE rfl dX7_run_57 ⟨_, rfl, h⟩
    · replace h := h.2 hc
      refine r_aload_n 29 hC dX7_run_29 rfl rfl ?_
      refine r_aload_n 30 hC dX7_run_30 rfl rfl ?_
      refine r_getR7 31 (r1 := q0 + 1) hC hk0 1 (by decide) tw_1180 rfl rfl dX7_run_31 ?_
      refine r_iconst 34 (v := 0) hC dX7_run_34 (by decide) ?_
      refine r_iald 35 hC ((pm_s7 hG hk0).1) (by unfold vp_in; decide) dX7_run_35 ?_
      refine r_iload_n 36 hC dX7_run_36 rfl rfl ?_
      refine r_iadd 37 hC dX7_run_37 ?_
      refine r_sipush 38 (v := 9999) hC dX7_run_38 (by decide) ?_
      refine r_icmp_le 41 48 hC dX7_run_41 (by decide) (fun hc => ?_) (fun hc => ?_)
      · replace h := h.1 hc
        refine r_iconst 48 (v := 0) hC dX7_run_48 (by decide) ?_
        refine r_iconst 49 (v := 2) hC dX7_run_49 (by decide) ?_
        refine r_callV_i 50 (n := 2) [.int (0), .int (2)] [] hC hk0 rfl dX7_run_50 (by decide) (by decide) tw_1292 tw_135 ⟨by decide, by decide, by decide +kernel⟩ tw_1289 tw_1291 tw_81 rfl rfl (sX7_throwsIf (l := pm_l X) hG (q0) (0) (2) _ _ hk0 h) hab (Nat.le_of_ble_eq_true rfl) ?_
        clear h; intro r16 I15 h
        refine r_if_eq 53 58 hC dX7_run_53 (by decide) (fun hc => ?_) (fun hc => ?_)
        · replace h := h.1 hc
          refine r_aload_n 58 hC dX7_run_58 rfl rfl ?_
          refine r_callV_v 59 (n := 0) [] [] hC hk0 rfl dX7_run_59 (by decide) (by decide) tw_1591 tw_135 ⟨by decide, by decide, by decide +kernel⟩ tw_1588 tw_1590 tw_124 rfl rfl (sX7_keeps (l := pm_l X) hG (q0) _ _ hk0 h) hab (Nat.le_of_ble_eq_true rfl) ?_
          clear h; intro I17 h
          refine r_iconst 62 (v := 0) hC dX7_run_62 (by decide) ?_
          refine r_istore_n 63 [some (.ref (q0)), some (.int (x1)), some (.int (0)), none] hC dX7_run_63 rfl (by decide) rfl ?_
          refine r_iconst 64 (v := 0) hC dX7_run_64 (by decide) ?_
          refine r_istore_n 65 [some (.ref (q0)), some (.int (x1)), some (.int (0)), some (.int (0))] hC dX7_run_65 rfl (by decide) rfl ?_
          refine h (fun x20 x21 I19 => pm_R G X 4 0 0 66 [some (.ref (q0)), some (.int (x1)), some (.int (x20)), some (.int (x21))] [] I19) ?_
          clear h; intro x20 x21 I19 h
          refine r_iload_n 66 hC dX7_run_66 rfl rfl ?_
          refine r_iload_n 67 hC dX7_run_67 rfl rfl ?_
          refine r_icmp_ge 68 84 hC dX7_run_68 (by decide) (fun hc => ?_) (fun hc => ?_)
          · replace h := h.1 hc
            refine r_iload_n 84 hC dX7_run_84 rfl rfl ?_
            exact r_iret 85 hC hE rfl dX7_run_85 ⟨_, rfl, h⟩
          · replace h := h.2 hc
            refine r_iload_n 71 hC dX7_run_71 rfl rfl ?_
            refine r_aload_n 72 hC dX7_run_72 rfl rfl ?_
            refine r_callV_i 73 (n := 0) [] [.int (x20)] hC hk0 rfl dX7_run_73 (by decide) (by decide) tw_1551 tw_135 ⟨by decide, by decide, by decide +kernel⟩ tw_1548 tw_1550 tw_116 rfl rfl (sX7_ticks (l := pm_l X) hG (q0) _ _ hk0 h) hab (Nat.le_of_ble_eq_true rfl) ?_
            clear h; intro r23 I22 h
            refine r_iadd 76 hC dX7_run_76 ?_
            refine r_istore_n 77 [some (.ref (q0)), some (.int (x1)), some (.int (x20 + r23)), some (.int (x21))] hC dX7_run_77 rfl (by decide) rfl ?_
            refine r_iinc 78 (v := x21 + 1) [some (.ref (q0)), some (.int (x1)), some (.int (x20 + r23)), some (.int (x21 + 1))] hC dX7_run_78 rfl (by rfl) (by decide) rfl ?_
            refine r_goto 81 66 hC dX7_run_81 (by decide) ?_
            exact h
        · replace h := h.2 hc
          refine r_iconst 56 (v := 0) hC dX7_run_56 (by decide) ?_
          exact r_iret 57 hC hE rfl dX7_run_57 ⟨_, rfl, h⟩
      · replace h := h.2 hc
        refine r_iconst 44 (v := 1) hC dX7_run_44 (by decide) ?_
        refine r_goto 45 49 hC dX7_run_45 (by decide) ?_
        refine r_iconst 49 (v := 2) hC dX7_run_49 (by decide) ?_
        refine r_callV_i 50 (n := 2) [.int (1), .int (2)] [] hC hk0 rfl dX7_run_50 (by decide) (by decide) tw_1292 tw_135 ⟨by decide, by decide, by decide +kernel⟩ tw_1289 tw_1291 tw_81 rfl rfl (sX7_throwsIf (l := pm_l X) hG (q0) (1) (2) _ _ hk0 h) hab (Nat.le_of_ble_eq_true rfl) ?_
        clear h; intro r25 I24 h
        refine r_if_eq 53 58 hC dX7_run_53 (by decide) (fun hc => ?_) (fun hc => ?_)
        · replace h := h.1 hc
          refine r_aload_n 58 hC dX7_run_58 rfl rfl ?_
          refine r_callV_v 59 (n := 0) [] [] hC hk0 rfl dX7_run_59 (by decide) (by decide) tw_1591 tw_135 ⟨by decide, by decide, by decide +kernel⟩ tw_1588 tw_1590 tw_124 rfl rfl (sX7_keeps (l := pm_l X) hG (q0) _ _ hk0 h) hab (Nat.le_of_ble_eq_true rfl) ?_
          clear h; intro I26 h
          refine r_iconst 62 (v := 0) hC dX7_run_62 (by decide) ?_
          refine r_istore_n 63 [some (.ref (q0)), some (.int (x1)), some (.int (0)), none] hC dX7_run_63 rfl (by decide) rfl ?_
          refine r_iconst 64 (v := 0) hC dX7_run_64 (by decide) ?_
          refine r_istore_n 65 [some (.ref (q0)), some (.int (x1)), some (.int (0)), some (.int (0))] hC dX7_run_65 rfl (by decide) rfl ?_
          refine h (fun x29 x30 I28 => pm_R G X 4 0 0 66 [some (.ref (q0)), some (.int (x1)), some (.int (x29)), some (.int (x30))] [] I28) ?_
          clear h; intro x29 x30 I28 h
          refine r_iload_n 66 hC dX7_run_66 rfl rfl ?_
          refine r_iload_n 67 hC dX7_run_67 rfl rfl ?_
          refine r_icmp_ge 68 84 hC dX7_run_68 (by decide) (fun hc => ?_) (fun hc => ?_)
          · replace h := h.1 hc
            refine r_iload_n 84 hC dX7_run_84 rfl rfl ?_
            exact r_iret 85 hC hE rfl dX7_run_85 ⟨_, rfl, h⟩
          · replace h := h.2 hc
            refine r_iload_n 71 hC dX7_run_71 rfl rfl ?_
            refine r_aload_n 72 hC dX7_run_72 rfl rfl ?_
            refine r_callV_i 73 (n := 0) [] [.int (x29)] hC hk0 rfl dX7_run_73 (by decide) (by decide) tw_1551 tw_135 ⟨by decide, by decide, by decide +kernel⟩ tw_1548 tw_1550 tw_116 rfl rfl (sX7_ticks (l := pm_l X) hG (q0) _ _ hk0 h) hab (Nat.le_of_ble_eq_true rfl) ?_
            clear h; intro r32 I31 h
            refine r_iadd 76 hC dX7_run_76 ?_
            refine r_istore_n 77 [some (.ref (q0)), some (.int (x1)), some (.int (x29 + r32)), some (.int (x30))] hC dX7_run_77 rfl (by decide) rfl ?_
            refine r_iinc 78 (v := x30 + 1) [some (.ref (q0)), some (.int (x1)), some (.int (x29 + r32)), some (.int (x30 + 1))] hC dX7_run_78 rfl (by rfl) (by decide) rfl ?_
            refine r_goto 81 66 hC dX7_run_81 (by decide) ?_
            exact h
        · replace h := h.2 hc
          refine r_iconst 56 (v := 0) hC dX7_run_56 (by decide) ?_
          exact r_iret 57 hC hE rfl dX7_run_57 ⟨_, rfl, h⟩
  · replace h := h.2 hc
    refine r_iconst 17 (v := 1) hC dX7_run_17 (by decide) ?_
    refine r_goto 18 22 hC dX7_run_18 (by decide) ?_
    refine r_iconst 22 (v := 1) hC dX7_run_22 (by decide) ?_
    refine r_callV_i 23 (n := 2) [.int (1), .int (1)] [] hC hk0 rfl dX7_run_23 (by decide) (by decide) tw_1292 tw_135 ⟨by decide, by decide, by decide +kernel⟩ tw_1289 tw_1291 tw_81 rfl rfl (sX7_throwsIf (l := pm_l X) hG (q0) (1) (1) _ _ hk0 h) hab (Nat.le_of_ble_eq_true rfl) ?_
    clear h; intro r34 I33 h
    refine r_if_ne 26 56 hC dX7_run_26 (by decide) (fun hc => ?_) (fun hc => ?_)
    · replace h := h.1 hc
      refine r_iconst 56 (v := 0) hC dX7_run_56 (by decide) ?_
      exact r_iret 57 hC hE rfl dX7_run_57 ⟨_, rfl, h⟩
    · replace h := h.2 hc
      refine r_aload_n 29 hC dX7_run_29 rfl rfl ?_
      refine r_aload_n 30 hC dX7_run_30 rfl rfl ?_
      refine r_getR7 31 (r1 := q0 + 1) hC hk0 1 (by decide) tw_1180 rfl rfl dX7_run_31 ?_
      refine r_iconst 34 (v := 0) hC dX7_run_34 (by decide) ?_
      refine r_iald 35 hC ((pm_s7 hG hk0).1) (by unfold vp_in; decide) dX7_run_35 ?_
      refine r_iload_n 36 hC dX7_run_36 rfl rfl ?_
      refine r_iadd 37 hC dX7_run_37 ?_
      refine r_sipush 38 (v := 9999) hC dX7_run_38 (by decide) ?_
      refine r_icmp_le 41 48 hC dX7_run_41 (by decide) (fun hc => ?_) (fun hc => ?_)
      · replace h := h.1 hc
        refine r_iconst 48 (v := 0) hC dX7_run_48 (by decide) ?_
        refine r_iconst 49 (v := 2) hC dX7_run_49 (by decide) ?_
        refine r_callV_i 50 (n := 2) [.int (0), .int (2)] [] hC hk0 rfl dX7_run_50 (by decide) (by decide) tw_1292 tw_135 ⟨by decide, by decide, by decide +kernel⟩ tw_1289 tw_1291 tw_81 rfl rfl (sX7_throwsIf (l := pm_l X) hG (q0) (0) (2) _ _ hk0 h) hab (Nat.le_of_ble_eq_true rfl) ?_
        clear h; intro r36 I35 h
        refine r_if_eq 53 58 hC dX7_run_53 (by decide) (fun hc => ?_) (fun hc => ?_)
        · replace h := h.1 hc
          refine r_aload_n 58 hC dX7_run_58 rfl rfl ?_
          refine r_callV_v 59 (n := 0) [] [] hC hk0 rfl dX7_run_59 (by decide) (by decide) tw_1591 tw_135 ⟨by decide, by decide, by decide +kernel⟩ tw_1588 tw_1590 tw_124 rfl rfl (sX7_keeps (l := pm_l X) hG (q0) _ _ hk0 h) hab (Nat.le_of_ble_eq_true rfl) ?_
          clear h; intro I37 h
          refine r_iconst 62 (v := 0) hC dX7_run_62 (by decide) ?_
          refine r_istore_n 63 [some (.ref (q0)), some (.int (x1)), some (.int (0)), none] hC dX7_run_63 rfl (by decide) rfl ?_
          refine r_iconst 64 (v := 0) hC dX7_run_64 (by decide) ?_
          refine r_istore_n 65 [some (.ref (q0)), some (.int (x1)), some (.int (0)), some (.int (0))] hC dX7_run_65 rfl (by decide) rfl ?_
          refine h (fun x40 x41 I39 => pm_R G X 4 0 0 66 [some (.ref (q0)), some (.int (x1)), some (.int (x40)), some (.int (x41))] [] I39) ?_
          clear h; intro x40 x41 I39 h
          refine r_iload_n 66 hC dX7_run_66 rfl rfl ?_
          refine r_iload_n 67 hC dX7_run_67 rfl rfl ?_
          refine r_icmp_ge 68 84 hC dX7_run_68 (by decide) (fun hc => ?_) (fun hc => ?_)
          · replace h := h.1 hc
            refine r_iload_n 84 hC dX7_run_84 rfl rfl ?_
            exact r_iret 85 hC hE rfl dX7_run_85 ⟨_, rfl, h⟩
          · replace h := h.2 hc
            refine r_iload_n 71 hC dX7_run_71 rfl rfl ?_
            refine r_aload_n 72 hC dX7_run_72 rfl rfl ?_
            refine r_callV_i 73 (n := 0) [] [.int (x40)] hC hk0 rfl dX7_run_73 (by decide) (by decide) tw_1551 tw_135 ⟨by decide, by decide, by decide +kernel⟩ tw_1548 tw_1550 tw_116 rfl rfl (sX7_ticks (l := pm_l X) hG (q0) _ _ hk0 h) hab (Nat.le_of_ble_eq_true rfl) ?_
            clear h; intro r43 I42 h
            refine r_iadd 76 hC dX7_run_76 ?_
            refine r_istore_n 77 [some (.ref (q0)), some (.int (x1)), some (.int (x40 + r43)), some (.int (x41))] hC dX7_run_77 rfl (by decide) rfl ?_
            refine r_iinc 78 (v := x41 + 1) [some (.ref (q0)), some (.int (x1)), some (.int (x40 + r43)), some (.int (x41 + 1))] hC dX7_run_78 rfl (by rfl) (by decide) rfl ?_
            refine r_goto 81 66 hC dX7_run_81 (by decide) ?_
            exact h
        · replace h := h.2 hc
          refine r_iconst 56 (v := 0) hC dX7_run_56 (by decide) ?_
          exact r_iret 57 hC hE rfl dX7_run_57 ⟨_, rfl, h⟩
      · replace h := h.2 hc
        refine r_iconst 44 (v := 1) hC dX7_run_44 (by decide) ?_
        refine r_goto 45 49 hC dX7_run_45 (by decide) ?_
        refine r_iconst 49 (v := 2) hC dX7_run_49 (by decide) ?_
        refine r_callV_i 50 (n := 2) [.int (1), .int (2)] [] hC hk0 rfl dX7_run_50 (by decide) (by decide) tw_1292 tw_135 ⟨by decide, by decide, by decide +kernel⟩ tw_1289 tw_1291 tw_81 rfl rfl (sX7_throwsIf (l := pm_l X) hG (q0) (1) (2) _ _ hk0 h) hab (Nat.le_of_ble_eq_true rfl) ?_
        clear h; intro r45 I44 h
        refine r_if_eq 53 58 hC dX7_run_53 (by decide) (fun hc => ?_) (fun hc => ?_)
        · replace h := h.1 hc
          refine r_aload_n 58 hC dX7_run_58 rfl rfl ?_
          refine r_callV_v 59 (n := 0) [] [] hC hk0 rfl dX7_run_59 (by decide) (by decide) tw_1591 tw_135 ⟨by decide, by decide, by decide +kernel⟩ tw_1588 tw_1590 tw_124 rfl rfl (sX7_keeps (l := pm_l X) hG (q0) _ _ hk0 h) hab (Nat.le_of_ble_eq_true rfl) ?_
          clear h; intro I46 h
          refine r_iconst 62 (v := 0) hC dX7_run_62 (by decide) ?_
          refine r_istore_n 63 [some (.ref (q0)), some (.int (x1)), some (.int (0)), none] hC dX7_run_63 rfl (by decide) rfl ?_
          refine r_iconst 64 (v := 0) hC dX7_run_64 (by decide) ?_
          refine r_istore_n 65 [some (.ref (q0)), some (.int (x1)), some (.int (0)), some (.int (0))] hC dX7_run_65 rfl (by decide) rfl ?_
          refine h (fun x49 x50 I48 => pm_R G X 4 0 0 66 [some (.ref (q0)), some (.int (x1)), some (.int (x49)), some (.int (x50))] [] I48) ?_
          clear h; intro x49 x50 I48 h
          refine r_iload_n 66 hC dX7_run_66 rfl rfl ?_
          refine r_iload_n 67 hC dX7_run_67 rfl rfl ?_
          refine r_icmp_ge 68 84 hC dX7_run_68 (by decide) (fun hc => ?_) (fun hc => ?_)
          · replace h := h.1 hc
            refine r_iload_n 84 hC dX7_run_84 rfl rfl ?_
            exact r_iret 85 hC hE rfl dX7_run_85 ⟨_, rfl, h⟩
          · replace h := h.2 hc
            refine r_iload_n 71 hC dX7_run_71 rfl rfl ?_
            refine r_aload_n 72 hC dX7_run_72 rfl rfl ?_
            refine r_callV_i 73 (n := 0) [] [.int (x49)] hC hk0 rfl dX7_run_73 (by decide) (by decide) tw_1551 tw_135 ⟨by decide, by decide, by decide +kernel⟩ tw_1548 tw_1550 tw_116 rfl rfl (sX7_ticks (l := pm_l X) hG (q0) _ _ hk0 h) hab (Nat.le_of_ble_eq_true rfl) ?_
            clear h; intro r52 I51 h
            refine r_iadd 76 hC dX7_run_76 ?_
            refine r_istore_n 77 [some (.ref (q0)), some (.int (x1)), some (.int (x49 + r52)), some (.int (x50))] hC dX7_run_77 rfl (by decide) rfl ?_
            refine r_iinc 78 (v := x50 + 1) [some (.ref (q0)), some (.int (x1)), some (.int (x49 + r52)), some (.int (x50 + 1))] hC dX7_run_78 rfl (by rfl) (by decide) rfl ?_
            refine r_goto 81 66 hC dX7_run_81 (by decide) ?_
            exact h
        · replace h := h.2 hc
          refine r_iconst 56 (v := 0) hC dX7_run_56 (by decide) ?_
          exact r_iret 57 hC hE rfl dX7_run_57 ⟨_, rfl, h⟩

def wX7_introduce (G : pm_G) (q0 : Nat) (x1 : Int32) (x2 : Int32) (x3 : Int32) (I : pm_I) (K : Int32 → pm_I → Prop) : Prop :=
  wX7_noThree G (q0) (x1) (x2) (x3) I (fun r11 I10 => (¬ r11 = 0 → (K (0) I10)) ∧ (r11 = 0 → (wX7_areKnown G (q0) (x1) (x2) I10 (fun r13 I12 => (r13 = 0 → (wX7_throwsIf G (q0) (1) (3) I12 (fun r15 I14 => (r15 = 0 → (wX7_keeps G (q0) I14 (fun I16 => vp_in (1 + x2) 821 ∧ (vp_in (1 + x2) 821 ∧ (∀ I17 : pm_I, I17 = pm_up I16 (q0 + 1) ((1 + x2).toNatClampNeg) ((I16 (q0 + 1) (1 + x2).toNatClampNeg) ||| (1 <<< (x3 &&& 31))) → (vp_in (1 + x3) 821 ∧ (vp_in (1 + x3) 821 ∧ (∀ I18 : pm_I, I18 = pm_up I17 (q0 + 1) ((1 + x3).toNatClampNeg) ((I17 (q0 + 1) (1 + x3).toNatClampNeg) ||| (1 <<< (x2 &&& 31))) → (vp_in (1 + x2) 821 ∧ (wX7_bits G (I18 (q0 + 1) (1 + x2).toNatClampNeg) I18 (fun r20 I19 => K (r20) I19))))))))))) ∧ (¬ r15 = 0 → (K (0) I14))))) ∧ (¬ r13 = 0 → (wX7_areKnown G (q0) (x1) (x3) I12 (fun r22 I21 => (r22 = 0 → (wX7_throwsIf G (q0) (1) (3) I21 (fun r24 I23 => (r24 = 0 → (wX7_keeps G (q0) I23 (fun I25 => vp_in (1 + x2) 821 ∧ (vp_in (1 + x2) 821 ∧ (∀ I26 : pm_I, I26 = pm_up I25 (q0 + 1) ((1 + x2).toNatClampNeg) ((I25 (q0 + 1) (1 + x2).toNatClampNeg) ||| (1 <<< (x3 &&& 31))) → (vp_in (1 + x3) 821 ∧ (vp_in (1 + x3) 821 ∧ (∀ I27 : pm_I, I27 = pm_up I26 (q0 + 1) ((1 + x3).toNatClampNeg) ((I26 (q0 + 1) (1 + x3).toNatClampNeg) ||| (1 <<< (x2 &&& 31))) → (vp_in (1 + x2) 821 ∧ (wX7_bits G (I27 (q0 + 1) (1 + x2).toNatClampNeg) I27 (fun r29 I28 => K (r29) I28))))))))))) ∧ (¬ r24 = 0 → (K (0) I23))))) ∧ (¬ r22 = 0 → (wX7_areKnown G (q0) (x2) (x3) I21 (fun r31 I30 => (r31 = 0 → (wX7_throwsIf G (q0) (0) (3) I30 (fun r33 I32 => (r33 = 0 → (wX7_keeps G (q0) I32 (fun I34 => vp_in (1 + x2) 821 ∧ (vp_in (1 + x2) 821 ∧ (∀ I35 : pm_I, I35 = pm_up I34 (q0 + 1) ((1 + x2).toNatClampNeg) ((I34 (q0 + 1) (1 + x2).toNatClampNeg) ||| (1 <<< (x3 &&& 31))) → (vp_in (1 + x3) 821 ∧ (vp_in (1 + x3) 821 ∧ (∀ I36 : pm_I, I36 = pm_up I35 (q0 + 1) ((1 + x3).toNatClampNeg) ((I35 (q0 + 1) (1 + x3).toNatClampNeg) ||| (1 <<< (x2 &&& 31))) → (vp_in (1 + x2) 821 ∧ (wX7_bits G (I36 (q0 + 1) (1 + x2).toNatClampNeg) I36 (fun r38 I37 => K (r38) I37))))))))))) ∧ (¬ r33 = 0 → (K (0) I32))))) ∧ (¬ r31 = 0 → (wX7_throwsIf G (q0) (1) (3) I30 (fun r40 I39 => (r40 = 0 → (wX7_keeps G (q0) I39 (fun I41 => vp_in (1 + x2) 821 ∧ (vp_in (1 + x2) 821 ∧ (∀ I42 : pm_I, I42 = pm_up I41 (q0 + 1) ((1 + x2).toNatClampNeg) ((I41 (q0 + 1) (1 + x2).toNatClampNeg) ||| (1 <<< (x3 &&& 31))) → (vp_in (1 + x3) 821 ∧ (vp_in (1 + x3) 821 ∧ (∀ I43 : pm_I, I43 = pm_up I42 (q0 + 1) ((1 + x3).toNatClampNeg) ((I42 (q0 + 1) (1 + x3).toNatClampNeg) ||| (1 <<< (x2 &&& 31))) → (vp_in (1 + x2) 821 ∧ (wX7_bits G (I43 (q0 + 1) (1 + x2).toNatClampNeg) I43 (fun r45 I44 => K (r45) I44))))))))))) ∧ (¬ r40 = 0 → (K (0) I39)))))))))))))))

set_option maxRecDepth 20000 in
theorem sX7_introduce {G : pm_G} {l : Launch} (hG : pm_ok G) (q0 : Nat) (x1 : Int32) (x2 : Int32) (x3 : Int32) (I : pm_I) (K : Int32 → pm_I → Prop) (hk0 : pm_k G q0 (.inl 7)) (h : wX7_introduce G q0 x1 x2 x3 I K) : pm_Ct G l yX7_introduce cX7_introduce 4 (some .int) { frames := 4, cells := 0, slots := 0, locals := 323 } [.ref (q0), .int (x1), .int (x2), .int (x3)] I (pm_Ki K) := by
  unfold wX7_introduce at h
  refine pm_enter (by decide +kernel) hG rfl (Nat.le_of_ble_eq_true rfl) rfl (fun X hl hC hE => ?_)
  subst hl
  have hab : 0 ≤ 0 ∧ 0 ≤ 0 := ⟨Nat.le_refl 0, Nat.le_refl 0⟩
  have hC : pm_C G X cX7_introduce 4 RX7 (some .int) { frames := 4, cells := 0, slots := 0, locals := 323 } := hC
  refine r_aload_n 0 hC dX7_introduce_0 rfl rfl ?_
  refine r_iload_n 1 hC dX7_introduce_1 rfl rfl ?_
  refine r_iload_n 2 hC dX7_introduce_2 rfl rfl ?_
  refine r_iload_n 3 hC dX7_introduce_3 rfl rfl ?_
  refine r_callV_i 4 (n := 3) [.int (x1), .int (x2), .int (x3)] [] hC hk0 rfl dX7_introduce_4 (by decide) (by decide) tw_1473 tw_135 ⟨by decide, by decide, by decide +kernel⟩ tw_1470 tw_1472 tw_110 rfl rfl (sX7_noThree (l := pm_l X) hG (q0) (x1) (x2) (x3) _ _ hk0 h) hab (Nat.le_of_ble_eq_true rfl) ?_
  clear h; intro r11 I10 h
  refine r_if_ne 7 50 hC dX7_introduce_7 (by decide) (fun hc => ?_) (fun hc => ?_)
  · replace h := h.1 hc
    refine r_iconst 50 (v := 0) hC dX7_introduce_50 (by decide) ?_
    exact r_iret 51 hC hE rfl dX7_introduce_51 ⟨_, rfl, h⟩
  · replace h := h.2 hc
    refine r_aload_n 10 hC dX7_introduce_10 rfl rfl ?_
    refine r_aload_n 11 hC dX7_introduce_11 rfl rfl ?_
    refine r_iload_n 12 hC dX7_introduce_12 rfl rfl ?_
    refine r_iload_n 13 hC dX7_introduce_13 rfl rfl ?_
    refine r_callV_i 14 (n := 2) [.int (x1), .int (x2)] [.ref (q0)] hC hk0 rfl dX7_introduce_14 (by decide) (by decide) tw_1411 tw_135 ⟨by decide, by decide, by decide +kernel⟩ tw_1408 tw_1410 tw_102 rfl rfl (sX7_areKnown (l := pm_l X) hG (q0) (x1) (x2) _ _ hk0 h) hab (Nat.le_of_ble_eq_true rfl) ?_
    clear h; intro r13 I12 h
    refine r_if_eq 17 38 hC dX7_introduce_17 (by decide) (fun hc => ?_) (fun hc => ?_)
    · replace h := h.1 hc
      refine r_iconst 38 (v := 1) hC dX7_introduce_38 (by decide) ?_
      refine r_goto 39 43 hC dX7_introduce_39 (by decide) ?_
      refine r_iconst 43 (v := 3) hC dX7_introduce_43 (by decide) ?_
      refine r_callV_i 44 (n := 2) [.int (1), .int (3)] [] hC hk0 rfl dX7_introduce_44 (by decide) (by decide) tw_1292 tw_135 ⟨by decide, by decide, by decide +kernel⟩ tw_1289 tw_1291 tw_81 rfl rfl (sX7_throwsIf (l := pm_l X) hG (q0) (1) (3) _ _ hk0 h) hab (Nat.le_of_ble_eq_true rfl) ?_
      clear h; intro r15 I14 h
      refine r_if_eq 47 52 hC dX7_introduce_47 (by decide) (fun hc => ?_) (fun hc => ?_)
      · replace h := h.1 hc
        refine r_aload_n 52 hC dX7_introduce_52 rfl rfl ?_
        refine r_callV_v 53 (n := 0) [] [] hC hk0 rfl dX7_introduce_53 (by decide) (by decide) tw_1591 tw_135 ⟨by decide, by decide, by decide +kernel⟩ tw_1588 tw_1590 tw_124 rfl rfl (sX7_keeps (l := pm_l X) hG (q0) _ _ hk0 h) hab (Nat.le_of_ble_eq_true rfl) ?_
        clear h; intro I16 h
        refine r_aload_n 56 hC dX7_introduce_56 rfl rfl ?_
        refine r_getR7 57 (r1 := q0 + 1) hC hk0 1 (by decide) tw_1180 rfl rfl dX7_introduce_57 ?_
        refine r_iconst 60 (v := 1) hC dX7_introduce_60 (by decide) ?_
        refine r_iload_n 61 hC dX7_introduce_61 rfl rfl ?_
        refine r_iadd 62 hC dX7_introduce_62 ?_
        refine r_dup2 63 hC dX7_introduce_63 rfl rfl ?_
        refine r_iald 64 hC ((pm_s7 hG hk0).1) h.1 dX7_introduce_64 ?_
        replace h := h.2
        refine r_iconst 65 (v := 1) hC dX7_introduce_65 (by decide) ?_
        refine r_iload_n 66 hC dX7_introduce_66 rfl rfl ?_
        refine r_ishl 67 hC dX7_introduce_67 ?_
        refine r_ior 68 hC dX7_introduce_68 ?_
        refine r_iast 69 hC ((pm_s7 hG hk0).1) h.1 dX7_introduce_69 (fun I17 hI => ?_)
        replace h := h.2
        replace h := h I17 hI; clear hI
        refine r_aload_n 70 hC dX7_introduce_70 rfl rfl ?_
        refine r_getR7 71 (r1 := q0 + 1) hC hk0 1 (by decide) tw_1180 rfl rfl dX7_introduce_71 ?_
        refine r_iconst 74 (v := 1) hC dX7_introduce_74 (by decide) ?_
        refine r_iload_n 75 hC dX7_introduce_75 rfl rfl ?_
        refine r_iadd 76 hC dX7_introduce_76 ?_
        refine r_dup2 77 hC dX7_introduce_77 rfl rfl ?_
        refine r_iald 78 hC ((pm_s7 hG hk0).1) h.1 dX7_introduce_78 ?_
        replace h := h.2
        refine r_iconst 79 (v := 1) hC dX7_introduce_79 (by decide) ?_
        refine r_iload_n 80 hC dX7_introduce_80 rfl rfl ?_
        refine r_ishl 81 hC dX7_introduce_81 ?_
        refine r_ior 82 hC dX7_introduce_82 ?_
        refine r_iast 83 hC ((pm_s7 hG hk0).1) h.1 dX7_introduce_83 (fun I18 hI => ?_)
        replace h := h.2
        replace h := h I18 hI; clear hI
        refine r_aload_n 84 hC dX7_introduce_84 rfl rfl ?_
        refine r_getR7 85 (r1 := q0 + 1) hC hk0 1 (by decide) tw_1180 rfl rfl dX7_introduce_85 ?_
        refine r_iconst 88 (v := 1) hC dX7_introduce_88 (by decide) ?_
        refine r_iload_n 89 hC dX7_introduce_89 rfl rfl ?_
        refine r_iadd 90 hC dX7_introduce_90 ?_
        refine r_iald 91 hC ((pm_s7 hG hk0).1) h.1 dX7_introduce_91 ?_
        replace h := h.2
        refine r_callS_i 92 (n := 1) [.int (I18 (q0 + 1) (1 + x2).toNatClampNeg)] [] hC dX7_introduce_92 (by decide) (by decide) tw_1598 tw_135 ⟨by decide, by decide, by decide +kernel⟩ tw_1596 tw_1597 rfl rfl (sX7_bits (l := pm_l X) hG (I18 (q0 + 1) (1 + x2).toNatClampNeg) _ _ h) hab (Nat.le_of_ble_eq_true rfl) ?_
        clear h; intro r20 I19 h
        exact r_iret 95 hC hE rfl dX7_introduce_95 ⟨_, rfl, h⟩
      · replace h := h.2 hc
        refine r_iconst 50 (v := 0) hC dX7_introduce_50 (by decide) ?_
        exact r_iret 51 hC hE rfl dX7_introduce_51 ⟨_, rfl, h⟩
    · replace h := h.2 hc
      refine r_aload_n 20 hC dX7_introduce_20 rfl rfl ?_
      refine r_iload_n 21 hC dX7_introduce_21 rfl rfl ?_
      refine r_iload_n 22 hC dX7_introduce_22 rfl rfl ?_
      refine r_callV_i 23 (n := 2) [.int (x1), .int (x3)] [.ref (q0)] hC hk0 rfl dX7_introduce_23 (by decide) (by decide) tw_1411 tw_135 ⟨by decide, by decide, by decide +kernel⟩ tw_1408 tw_1410 tw_102 rfl rfl (sX7_areKnown (l := pm_l X) hG (q0) (x1) (x3) _ _ hk0 h) hab (Nat.le_of_ble_eq_true rfl) ?_
      clear h; intro r22 I21 h
      refine r_if_eq 26 38 hC dX7_introduce_26 (by decide) (fun hc => ?_) (fun hc => ?_)
      · replace h := h.1 hc
        refine r_iconst 38 (v := 1) hC dX7_introduce_38 (by decide) ?_
        refine r_goto 39 43 hC dX7_introduce_39 (by decide) ?_
        refine r_iconst 43 (v := 3) hC dX7_introduce_43 (by decide) ?_
        refine r_callV_i 44 (n := 2) [.int (1), .int (3)] [] hC hk0 rfl dX7_introduce_44 (by decide) (by decide) tw_1292 tw_135 ⟨by decide, by decide, by decide +kernel⟩ tw_1289 tw_1291 tw_81 rfl rfl (sX7_throwsIf (l := pm_l X) hG (q0) (1) (3) _ _ hk0 h) hab (Nat.le_of_ble_eq_true rfl) ?_
        clear h; intro r24 I23 h
        refine r_if_eq 47 52 hC dX7_introduce_47 (by decide) (fun hc => ?_) (fun hc => ?_)
        · replace h := h.1 hc
          refine r_aload_n 52 hC dX7_introduce_52 rfl rfl ?_
          refine r_callV_v 53 (n := 0) [] [] hC hk0 rfl dX7_introduce_53 (by decide) (by decide) tw_1591 tw_135 ⟨by decide, by decide, by decide +kernel⟩ tw_1588 tw_1590 tw_124 rfl rfl (sX7_keeps (l := pm_l X) hG (q0) _ _ hk0 h) hab (Nat.le_of_ble_eq_true rfl) ?_
          clear h; intro I25 h
          refine r_aload_n 56 hC dX7_introduce_56 rfl rfl ?_
          refine r_getR7 57 (r1 := q0 + 1) hC hk0 1 (by decide) tw_1180 rfl rfl dX7_introduce_57 ?_
          refine r_iconst 60 (v := 1) hC dX7_introduce_60 (by decide) ?_
          refine r_iload_n 61 hC dX7_introduce_61 rfl rfl ?_
          refine r_iadd 62 hC dX7_introduce_62 ?_
          refine r_dup2 63 hC dX7_introduce_63 rfl rfl ?_
          refine r_iald 64 hC ((pm_s7 hG hk0).1) h.1 dX7_introduce_64 ?_
          replace h := h.2
          refine r_iconst 65 (v := 1) hC dX7_introduce_65 (by decide) ?_
          refine r_iload_n 66 hC dX7_introduce_66 rfl rfl ?_
          refine r_ishl 67 hC dX7_introduce_67 ?_
          refine r_ior 68 hC dX7_introduce_68 ?_
          refine r_iast 69 hC ((pm_s7 hG hk0).1) h.1 dX7_introduce_69 (fun I26 hI => ?_)
          replace h := h.2
          replace h := h I26 hI; clear hI
          refine r_aload_n 70 hC dX7_introduce_70 rfl rfl ?_
          refine r_getR7 71 (r1 := q0 + 1) hC hk0 1 (by decide) tw_1180 rfl rfl dX7_introduce_71 ?_
          refine r_iconst 74 (v := 1) hC dX7_introduce_74 (by decide) ?_
          refine r_iload_n 75 hC dX7_introduce_75 rfl rfl ?_
          refine r_iadd 76 hC dX7_introduce_76 ?_
          refine r_dup2 77 hC dX7_introduce_77 rfl rfl ?_
          refine r_iald 78 hC ((pm_s7 hG hk0).1) h.1 dX7_introduce_78 ?_
          replace h := h.2
          refine r_iconst 79 (v := 1) hC dX7_introduce_79 (by decide) ?_
          refine r_iload_n 80 hC dX7_introduce_80 rfl rfl ?_
          refine r_ishl 81 hC dX7_introduce_81 ?_
          refine r_ior 82 hC dX7_introduce_82 ?_
          refine r_iast 83 hC ((pm_s7 hG hk0).1) h.1 dX7_introduce_83 (fun I27 hI => ?_)
          replace h := h.2
          replace h := h I27 hI; clear hI
          refine r_aload_n 84 hC dX7_introduce_84 rfl rfl ?_
          refine r_getR7 85 (r1 := q0 + 1) hC hk0 1 (by decide) tw_1180 rfl rfl dX7_introduce_85 ?_
          refine r_iconst 88 (v := 1) hC dX7_introduce_88 (by decide) ?_
          refine r_iload_n 89 hC dX7_introduce_89 rfl rfl ?_
          refine r_iadd 90 hC dX7_introduce_90 ?_
          refine r_iald 91 hC ((pm_s7 hG hk0).1) h.1 dX7_introduce_91 ?_
          replace h := h.2
          refine r_callS_i 92 (n := 1) [.int (I27 (q0 + 1) (1 + x2).toNatClampNeg)] [] hC dX7_introduce_92 (by decide) (by decide) tw_1598 tw_135 ⟨by decide, by decide, by decide +kernel⟩ tw_1596 tw_1597 rfl rfl (sX7_bits (l := pm_l X) hG (I27 (q0 + 1) (1 + x2).toNatClampNeg) _ _ h) hab (Nat.le_of_ble_eq_true rfl) ?_
          clear h; intro r29 I28 h
          exact r_iret 95 hC hE rfl dX7_introduce_95 ⟨_, rfl, h⟩
        · replace h := h.2 hc
          refine r_iconst 50 (v := 0) hC dX7_introduce_50 (by decide) ?_
          exact r_iret 51 hC hE rfl dX7_introduce_51 ⟨_, rfl, h⟩
      · replace h := h.2 hc
        refine r_aload_n 29 hC dX7_introduce_29 rfl rfl ?_
        refine r_iload_n 30 hC dX7_introduce_30 rfl rfl ?_
        refine r_iload_n 31 hC dX7_introduce_31 rfl rfl ?_
        refine r_callV_i 32 (n := 2) [.int (x2), .int (x3)] [.ref (q0)] hC hk0 rfl dX7_introduce_32 (by decide) (by decide) tw_1411 tw_135 ⟨by decide, by decide, by decide +kernel⟩ tw_1408 tw_1410 tw_102 rfl rfl (sX7_areKnown (l := pm_l X) hG (q0) (x2) (x3) _ _ hk0 h) hab (Nat.le_of_ble_eq_true rfl) ?_
        clear h; intro r31 I30 h
        refine r_if_eq 35 42 hC dX7_introduce_35 (by decide) (fun hc => ?_) (fun hc => ?_)
        · replace h := h.1 hc
          refine r_iconst 42 (v := 0) hC dX7_introduce_42 (by decide) ?_
          refine r_iconst 43 (v := 3) hC dX7_introduce_43 (by decide) ?_
          refine r_callV_i 44 (n := 2) [.int (0), .int (3)] [] hC hk0 rfl dX7_introduce_44 (by decide) (by decide) tw_1292 tw_135 ⟨by decide, by decide, by decide +kernel⟩ tw_1289 tw_1291 tw_81 rfl rfl (sX7_throwsIf (l := pm_l X) hG (q0) (0) (3) _ _ hk0 h) hab (Nat.le_of_ble_eq_true rfl) ?_
          clear h; intro r33 I32 h
          refine r_if_eq 47 52 hC dX7_introduce_47 (by decide) (fun hc => ?_) (fun hc => ?_)
          · replace h := h.1 hc
            refine r_aload_n 52 hC dX7_introduce_52 rfl rfl ?_
            refine r_callV_v 53 (n := 0) [] [] hC hk0 rfl dX7_introduce_53 (by decide) (by decide) tw_1591 tw_135 ⟨by decide, by decide, by decide +kernel⟩ tw_1588 tw_1590 tw_124 rfl rfl (sX7_keeps (l := pm_l X) hG (q0) _ _ hk0 h) hab (Nat.le_of_ble_eq_true rfl) ?_
            clear h; intro I34 h
            refine r_aload_n 56 hC dX7_introduce_56 rfl rfl ?_
            refine r_getR7 57 (r1 := q0 + 1) hC hk0 1 (by decide) tw_1180 rfl rfl dX7_introduce_57 ?_
            refine r_iconst 60 (v := 1) hC dX7_introduce_60 (by decide) ?_
            refine r_iload_n 61 hC dX7_introduce_61 rfl rfl ?_
            refine r_iadd 62 hC dX7_introduce_62 ?_
            refine r_dup2 63 hC dX7_introduce_63 rfl rfl ?_
            refine r_iald 64 hC ((pm_s7 hG hk0).1) h.1 dX7_introduce_64 ?_
            replace h := h.2
            refine r_iconst 65 (v := 1) hC dX7_introduce_65 (by decide) ?_
            refine r_iload_n 66 hC dX7_introduce_66 rfl rfl ?_
            refine r_ishl 67 hC dX7_introduce_67 ?_
            refine r_ior 68 hC dX7_introduce_68 ?_
            refine r_iast 69 hC ((pm_s7 hG hk0).1) h.1 dX7_introduce_69 (fun I35 hI => ?_)
            replace h := h.2
            replace h := h I35 hI; clear hI
            refine r_aload_n 70 hC dX7_introduce_70 rfl rfl ?_
            refine r_getR7 71 (r1 := q0 + 1) hC hk0 1 (by decide) tw_1180 rfl rfl dX7_introduce_71 ?_
            refine r_iconst 74 (v := 1) hC dX7_introduce_74 (by decide) ?_
            refine r_iload_n 75 hC dX7_introduce_75 rfl rfl ?_
            refine r_iadd 76 hC dX7_introduce_76 ?_
            refine r_dup2 77 hC dX7_introduce_77 rfl rfl ?_
            refine r_iald 78 hC ((pm_s7 hG hk0).1) h.1 dX7_introduce_78 ?_
            replace h := h.2
            refine r_iconst 79 (v := 1) hC dX7_introduce_79 (by decide) ?_
            refine r_iload_n 80 hC dX7_introduce_80 rfl rfl ?_
            refine r_ishl 81 hC dX7_introduce_81 ?_
            refine r_ior 82 hC dX7_introduce_82 ?_
            refine r_iast 83 hC ((pm_s7 hG hk0).1) h.1 dX7_introduce_83 (fun I36 hI => ?_)
            replace h := h.2
            replace h := h I36 hI; clear hI
            refine r_aload_n 84 hC dX7_introduce_84 rfl rfl ?_
            refine r_getR7 85 (r1 := q0 + 1) hC hk0 1 (by decide) tw_1180 rfl rfl dX7_introduce_85 ?_
            refine r_iconst 88 (v := 1) hC dX7_introduce_88 (by decide) ?_
            refine r_iload_n 89 hC dX7_introduce_89 rfl rfl ?_
            refine r_iadd 90 hC dX7_introduce_90 ?_
            refine r_iald 91 hC ((pm_s7 hG hk0).1) h.1 dX7_introduce_91 ?_
            replace h := h.2
            refine r_callS_i 92 (n := 1) [.int (I36 (q0 + 1) (1 + x2).toNatClampNeg)] [] hC dX7_introduce_92 (by decide) (by decide) tw_1598 tw_135 ⟨by decide, by decide, by decide +kernel⟩ tw_1596 tw_1597 rfl rfl (sX7_bits (l := pm_l X) hG (I36 (q0 + 1) (1 + x2).toNatClampNeg) _ _ h) hab (Nat.le_of_ble_eq_true rfl) ?_
            clear h; intro r38 I37 h
            exact r_iret 95 hC hE rfl dX7_introduce_95 ⟨_, rfl, h⟩
          · replace h := h.2 hc
            refine r_iconst 50 (v := 0) hC dX7_introduce_50 (by decide) ?_
            exact r_iret 51 hC hE rfl dX7_introduce_51 ⟨_, rfl, h⟩
        · replace h := h.2 hc
          refine r_iconst 38 (v := 1) hC dX7_introduce_38 (by decide) ?_
          refine r_goto 39 43 hC dX7_introduce_39 (by decide) ?_
          refine r_iconst 43 (v := 3) hC dX7_introduce_43 (by decide) ?_
          refine r_callV_i 44 (n := 2) [.int (1), .int (3)] [] hC hk0 rfl dX7_introduce_44 (by decide) (by decide) tw_1292 tw_135 ⟨by decide, by decide, by decide +kernel⟩ tw_1289 tw_1291 tw_81 rfl rfl (sX7_throwsIf (l := pm_l X) hG (q0) (1) (3) _ _ hk0 h) hab (Nat.le_of_ble_eq_true rfl) ?_
          clear h; intro r40 I39 h
          refine r_if_eq 47 52 hC dX7_introduce_47 (by decide) (fun hc => ?_) (fun hc => ?_)
          · replace h := h.1 hc
            refine r_aload_n 52 hC dX7_introduce_52 rfl rfl ?_
            refine r_callV_v 53 (n := 0) [] [] hC hk0 rfl dX7_introduce_53 (by decide) (by decide) tw_1591 tw_135 ⟨by decide, by decide, by decide +kernel⟩ tw_1588 tw_1590 tw_124 rfl rfl (sX7_keeps (l := pm_l X) hG (q0) _ _ hk0 h) hab (Nat.le_of_ble_eq_true rfl) ?_
            clear h; intro I41 h
            refine r_aload_n 56 hC dX7_introduce_56 rfl rfl ?_
            refine r_getR7 57 (r1 := q0 + 1) hC hk0 1 (by decide) tw_1180 rfl rfl dX7_introduce_57 ?_
            refine r_iconst 60 (v := 1) hC dX7_introduce_60 (by decide) ?_
            refine r_iload_n 61 hC dX7_introduce_61 rfl rfl ?_
            refine r_iadd 62 hC dX7_introduce_62 ?_
            refine r_dup2 63 hC dX7_introduce_63 rfl rfl ?_
            refine r_iald 64 hC ((pm_s7 hG hk0).1) h.1 dX7_introduce_64 ?_
            replace h := h.2
            refine r_iconst 65 (v := 1) hC dX7_introduce_65 (by decide) ?_
            refine r_iload_n 66 hC dX7_introduce_66 rfl rfl ?_
            refine r_ishl 67 hC dX7_introduce_67 ?_
            refine r_ior 68 hC dX7_introduce_68 ?_
            refine r_iast 69 hC ((pm_s7 hG hk0).1) h.1 dX7_introduce_69 (fun I42 hI => ?_)
            replace h := h.2
            replace h := h I42 hI; clear hI
            refine r_aload_n 70 hC dX7_introduce_70 rfl rfl ?_
            refine r_getR7 71 (r1 := q0 + 1) hC hk0 1 (by decide) tw_1180 rfl rfl dX7_introduce_71 ?_
            refine r_iconst 74 (v := 1) hC dX7_introduce_74 (by decide) ?_
            refine r_iload_n 75 hC dX7_introduce_75 rfl rfl ?_
            refine r_iadd 76 hC dX7_introduce_76 ?_
            refine r_dup2 77 hC dX7_introduce_77 rfl rfl ?_
            refine r_iald 78 hC ((pm_s7 hG hk0).1) h.1 dX7_introduce_78 ?_
            replace h := h.2
            refine r_iconst 79 (v := 1) hC dX7_introduce_79 (by decide) ?_
            refine r_iload_n 80 hC dX7_introduce_80 rfl rfl ?_
            refine r_ishl 81 hC dX7_introduce_81 ?_
            refine r_ior 82 hC dX7_introduce_82 ?_
            refine r_iast 83 hC ((pm_s7 hG hk0).1) h.1 dX7_introduce_83 (fun I43 hI => ?_)
            replace h := h.2
            replace h := h I43 hI; clear hI
            refine r_aload_n 84 hC dX7_introduce_84 rfl rfl ?_
            refine r_getR7 85 (r1 := q0 + 1) hC hk0 1 (by decide) tw_1180 rfl rfl dX7_introduce_85 ?_
            refine r_iconst 88 (v := 1) hC dX7_introduce_88 (by decide) ?_
            refine r_iload_n 89 hC dX7_introduce_89 rfl rfl ?_
            refine r_iadd 90 hC dX7_introduce_90 ?_
            refine r_iald 91 hC ((pm_s7 hG hk0).1) h.1 dX7_introduce_91 ?_
            replace h := h.2
            refine r_callS_i 92 (n := 1) [.int (I43 (q0 + 1) (1 + x2).toNatClampNeg)] [] hC dX7_introduce_92 (by decide) (by decide) tw_1598 tw_135 ⟨by decide, by decide, by decide +kernel⟩ tw_1596 tw_1597 rfl rfl (sX7_bits (l := pm_l X) hG (I43 (q0 + 1) (1 + x2).toNatClampNeg) _ _ h) hab (Nat.le_of_ble_eq_true rfl) ?_
            clear h; intro r45 I44 h
            exact r_iret 95 hC hE rfl dX7_introduce_95 ⟨_, rfl, h⟩
          · replace h := h.2 hc
            refine r_iconst 50 (v := 0) hC dX7_introduce_50 (by decide) ?_
            exact r_iret 51 hC hE rfl dX7_introduce_51 ⟨_, rfl, h⟩

def wX7_open (G : pm_G) (q0 : Nat) (x1 : Int32) (x2 : Int32) (I : pm_I) (K : Int32 → pm_I → Prop) : Prop :=
  wX7_noTwo G (q0) (x1) (x2) I (fun r11 I10 => (r11 = 0 → (pm_lp2 (fun (P12 : Int32 → pm_I → Prop) (x14 : Int32) (I13 : pm_I) => (6 ≤ x14 → (wX7_areKnown G (q0) (x1) (x2) I13 (fun r16 I15 => (r16 = 0 → (wX7_throwsIf G (q0) (1) (3) I15 (fun r18 I17 => (r18 = 0 → (wX7_keeps G (q0) I17 (fun I19 => wX7_bestFor G (q0) (x1) (x2) I19 (fun r21 I20 => pm_lp2 (fun (P22 : Int32 → pm_I → Prop) (x24 : Int32) (I23 : pm_I) => (134 ≤ x24 → (wX7_of G (x14) (0) I23 (fun r26 I25 => vp_in (r26) 821 ∧ (∀ I27 : pm_I, I27 = pm_up I25 (q0 + 1) ((r26).toNatClampNeg) (1) → (wX7_of G (x14) (1) I27 (fun r29 I28 => vp_in (r29) 821 ∧ (∀ I30 : pm_I, I30 = pm_up I28 (q0 + 1) ((r29).toNatClampNeg) (x1) → (wX7_of G (x14) (2) I30 (fun r32 I31 => vp_in (r32) 821 ∧ (∀ I33 : pm_I, I33 = pm_up I31 (q0 + 1) ((r32).toNatClampNeg) (x2) → (wX7_of G (x14) (3) I33 (fun r35 I34 => vp_in (r35) 821 ∧ (∀ I36 : pm_I, I36 = pm_up I34 (q0 + 1) ((r35).toNatClampNeg) (r21) → (wX7_of G (x14) (4) I36 (fun r38 I37 => vp_in (r38) 821 ∧ (∀ I39 : pm_I, I39 = pm_up I37 (q0 + 1) ((r38).toNatClampNeg) (-1) → (wX7_of G (x14) (6) I39 (fun r41 I40 => vp_in (r41) 821 ∧ (∀ I42 : pm_I, I42 = pm_up I40 (q0 + 1) ((r41).toNatClampNeg) (I40 (q0 + 1) (0 : Int32).toNatClampNeg) → (K (x14) I42)))))))))))))))))))) ∧ (¬ 134 ≤ x24 → (wX7_of G (x14) (x24) I23 (fun r44 I43 => vp_in (r44) 821 ∧ (∀ I45 : pm_I, I45 = pm_up I43 (q0 + 1) ((r44).toNatClampNeg) (0) → (P22 (x24 + 1) I45)))))) (0) I20)))) ∧ (¬ r18 = 0 → (K (0) I17))))) ∧ (¬ r16 = 0 → (wX7_sessionOf G (q0) (x1) (x2) I15 (fun r47 I46 => (¬ r47 = (-1) → (wX7_throwsIf G (q0) (1) (3) I46 (fun r49 I48 => (r49 = 0 → (wX7_keeps G (q0) I48 (fun I50 => wX7_bestFor G (q0) (x1) (x2) I50 (fun r52 I51 => pm_lp2 (fun (P53 : Int32 → pm_I → Prop) (x55 : Int32) (I54 : pm_I) => (134 ≤ x55 → (wX7_of G (x14) (0) I54 (fun r57 I56 => vp_in (r57) 821 ∧ (∀ I58 : pm_I, I58 = pm_up I56 (q0 + 1) ((r57).toNatClampNeg) (1) → (wX7_of G (x14) (1) I58 (fun r60 I59 => vp_in (r60) 821 ∧ (∀ I61 : pm_I, I61 = pm_up I59 (q0 + 1) ((r60).toNatClampNeg) (x1) → (wX7_of G (x14) (2) I61 (fun r63 I62 => vp_in (r63) 821 ∧ (∀ I64 : pm_I, I64 = pm_up I62 (q0 + 1) ((r63).toNatClampNeg) (x2) → (wX7_of G (x14) (3) I64 (fun r66 I65 => vp_in (r66) 821 ∧ (∀ I67 : pm_I, I67 = pm_up I65 (q0 + 1) ((r66).toNatClampNeg) (r52) → (wX7_of G (x14) (4) I67 (fun r69 I68 => vp_in (r69) 821 ∧ (∀ I70 : pm_I, I70 = pm_up I68 (q0 + 1) ((r69).toNatClampNeg) (-1) → (wX7_of G (x14) (6) I70 (fun r72 I71 => vp_in (r72) 821 ∧ (∀ I73 : pm_I, I73 = pm_up I71 (q0 + 1) ((r72).toNatClampNeg) (I71 (q0 + 1) (0 : Int32).toNatClampNeg) → (K (x14) I73)))))))))))))))))))) ∧ (¬ 134 ≤ x55 → (wX7_of G (x14) (x55) I54 (fun r75 I74 => vp_in (r75) 821 ∧ (∀ I76 : pm_I, I76 = pm_up I74 (q0 + 1) ((r75).toNatClampNeg) (0) → (P53 (x55 + 1) I76)))))) (0) I51)))) ∧ (¬ r49 = 0 → (K (0) I48))))) ∧ (r47 = (-1) → ((¬ x14 = 6 → (wX7_throwsIf G (q0) (0) (3) I46 (fun r78 I77 => (r78 = 0 → (wX7_keeps G (q0) I77 (fun I79 => wX7_bestFor G (q0) (x1) (x2) I79 (fun r81 I80 => pm_lp2 (fun (P82 : Int32 → pm_I → Prop) (x84 : Int32) (I83 : pm_I) => (134 ≤ x84 → (wX7_of G (x14) (0) I83 (fun r86 I85 => vp_in (r86) 821 ∧ (∀ I87 : pm_I, I87 = pm_up I85 (q0 + 1) ((r86).toNatClampNeg) (1) → (wX7_of G (x14) (1) I87 (fun r89 I88 => vp_in (r89) 821 ∧ (∀ I90 : pm_I, I90 = pm_up I88 (q0 + 1) ((r89).toNatClampNeg) (x1) → (wX7_of G (x14) (2) I90 (fun r92 I91 => vp_in (r92) 821 ∧ (∀ I93 : pm_I, I93 = pm_up I91 (q0 + 1) ((r92).toNatClampNeg) (x2) → (wX7_of G (x14) (3) I93 (fun r95 I94 => vp_in (r95) 821 ∧ (∀ I96 : pm_I, I96 = pm_up I94 (q0 + 1) ((r95).toNatClampNeg) (r81) → (wX7_of G (x14) (4) I96 (fun r98 I97 => vp_in (r98) 821 ∧ (∀ I99 : pm_I, I99 = pm_up I97 (q0 + 1) ((r98).toNatClampNeg) (-1) → (wX7_of G (x14) (6) I99 (fun r101 I100 => vp_in (r101) 821 ∧ (∀ I102 : pm_I, I102 = pm_up I100 (q0 + 1) ((r101).toNatClampNeg) (I100 (q0 + 1) (0 : Int32).toNatClampNeg) → (K (x14) I102)))))))))))))))))))) ∧ (¬ 134 ≤ x84 → (wX7_of G (x14) (x84) I83 (fun r104 I103 => vp_in (r104) 821 ∧ (∀ I105 : pm_I, I105 = pm_up I103 (q0 + 1) ((r104).toNatClampNeg) (0) → (P82 (x84 + 1) I105)))))) (0) I80)))) ∧ (¬ r78 = 0 → (K (0) I77))))) ∧ (x14 = 6 → (wX7_throwsIf G (q0) (1) (3) I46 (fun r107 I106 => (r107 = 0 → (wX7_keeps G (q0) I106 (fun I108 => wX7_bestFor G (q0) (x1) (x2) I108 (fun r110 I109 => pm_lp2 (fun (P111 : Int32 → pm_I → Prop) (x113 : Int32) (I112 : pm_I) => (134 ≤ x113 → (wX7_of G (x14) (0) I112 (fun r115 I114 => vp_in (r115) 821 ∧ (∀ I116 : pm_I, I116 = pm_up I114 (q0 + 1) ((r115).toNatClampNeg) (1) → (wX7_of G (x14) (1) I116 (fun r118 I117 => vp_in (r118) 821 ∧ (∀ I119 : pm_I, I119 = pm_up I117 (q0 + 1) ((r118).toNatClampNeg) (x1) → (wX7_of G (x14) (2) I119 (fun r121 I120 => vp_in (r121) 821 ∧ (∀ I122 : pm_I, I122 = pm_up I120 (q0 + 1) ((r121).toNatClampNeg) (x2) → (wX7_of G (x14) (3) I122 (fun r124 I123 => vp_in (r124) 821 ∧ (∀ I125 : pm_I, I125 = pm_up I123 (q0 + 1) ((r124).toNatClampNeg) (r110) → (wX7_of G (x14) (4) I125 (fun r127 I126 => vp_in (r127) 821 ∧ (∀ I128 : pm_I, I128 = pm_up I126 (q0 + 1) ((r127).toNatClampNeg) (-1) → (wX7_of G (x14) (6) I128 (fun r130 I129 => vp_in (r130) 821 ∧ (∀ I131 : pm_I, I131 = pm_up I129 (q0 + 1) ((r130).toNatClampNeg) (I129 (q0 + 1) (0 : Int32).toNatClampNeg) → (K (x14) I131)))))))))))))))))))) ∧ (¬ 134 ≤ x113 → (wX7_of G (x14) (x113) I112 (fun r133 I132 => vp_in (r133) 821 ∧ (∀ I134 : pm_I, I134 = pm_up I132 (q0 + 1) ((r133).toNatClampNeg) (0) → (P111 (x113 + 1) I134)))))) (0) I109)))) ∧ (¬ r107 = 0 → (K (0) I106))))))))))))) ∧ (¬ 6 ≤ x14 → (wX7_isOpen G (q0) (x14) I13 (fun r136 I135 => (r136 = 0 → (wX7_areKnown G (q0) (x1) (x2) I135 (fun r138 I137 => (r138 = 0 → (wX7_throwsIf G (q0) (1) (3) I137 (fun r140 I139 => (r140 = 0 → (wX7_keeps G (q0) I139 (fun I141 => wX7_bestFor G (q0) (x1) (x2) I141 (fun r143 I142 => pm_lp2 (fun (P144 : Int32 → pm_I → Prop) (x146 : Int32) (I145 : pm_I) => (134 ≤ x146 → (wX7_of G (x14) (0) I145 (fun r148 I147 => vp_in (r148) 821 ∧ (∀ I149 : pm_I, I149 = pm_up I147 (q0 + 1) ((r148).toNatClampNeg) (1) → (wX7_of G (x14) (1) I149 (fun r151 I150 => vp_in (r151) 821 ∧ (∀ I152 : pm_I, I152 = pm_up I150 (q0 + 1) ((r151).toNatClampNeg) (x1) → (wX7_of G (x14) (2) I152 (fun r154 I153 => vp_in (r154) 821 ∧ (∀ I155 : pm_I, I155 = pm_up I153 (q0 + 1) ((r154).toNatClampNeg) (x2) → (wX7_of G (x14) (3) I155 (fun r157 I156 => vp_in (r157) 821 ∧ (∀ I158 : pm_I, I158 = pm_up I156 (q0 + 1) ((r157).toNatClampNeg) (r143) → (wX7_of G (x14) (4) I158 (fun r160 I159 => vp_in (r160) 821 ∧ (∀ I161 : pm_I, I161 = pm_up I159 (q0 + 1) ((r160).toNatClampNeg) (-1) → (wX7_of G (x14) (6) I161 (fun r163 I162 => vp_in (r163) 821 ∧ (∀ I164 : pm_I, I164 = pm_up I162 (q0 + 1) ((r163).toNatClampNeg) (I162 (q0 + 1) (0 : Int32).toNatClampNeg) → (K (x14) I164)))))))))))))))))))) ∧ (¬ 134 ≤ x146 → (wX7_of G (x14) (x146) I145 (fun r166 I165 => vp_in (r166) 821 ∧ (∀ I167 : pm_I, I167 = pm_up I165 (q0 + 1) ((r166).toNatClampNeg) (0) → (P144 (x146 + 1) I167)))))) (0) I142)))) ∧ (¬ r140 = 0 → (K (0) I139))))) ∧ (¬ r138 = 0 → (wX7_sessionOf G (q0) (x1) (x2) I137 (fun r169 I168 => (¬ r169 = (-1) → (wX7_throwsIf G (q0) (1) (3) I168 (fun r171 I170 => (r171 = 0 → (wX7_keeps G (q0) I170 (fun I172 => wX7_bestFor G (q0) (x1) (x2) I172 (fun r174 I173 => pm_lp2 (fun (P175 : Int32 → pm_I → Prop) (x177 : Int32) (I176 : pm_I) => (134 ≤ x177 → (wX7_of G (x14) (0) I176 (fun r179 I178 => vp_in (r179) 821 ∧ (∀ I180 : pm_I, I180 = pm_up I178 (q0 + 1) ((r179).toNatClampNeg) (1) → (wX7_of G (x14) (1) I180 (fun r182 I181 => vp_in (r182) 821 ∧ (∀ I183 : pm_I, I183 = pm_up I181 (q0 + 1) ((r182).toNatClampNeg) (x1) → (wX7_of G (x14) (2) I183 (fun r185 I184 => vp_in (r185) 821 ∧ (∀ I186 : pm_I, I186 = pm_up I184 (q0 + 1) ((r185).toNatClampNeg) (x2) → (wX7_of G (x14) (3) I186 (fun r188 I187 => vp_in (r188) 821 ∧ (∀ I189 : pm_I, I189 = pm_up I187 (q0 + 1) ((r188).toNatClampNeg) (r174) → (wX7_of G (x14) (4) I189 (fun r191 I190 => vp_in (r191) 821 ∧ (∀ I192 : pm_I, I192 = pm_up I190 (q0 + 1) ((r191).toNatClampNeg) (-1) → (wX7_of G (x14) (6) I192 (fun r194 I193 => vp_in (r194) 821 ∧ (∀ I195 : pm_I, I195 = pm_up I193 (q0 + 1) ((r194).toNatClampNeg) (I193 (q0 + 1) (0 : Int32).toNatClampNeg) → (K (x14) I195)))))))))))))))))))) ∧ (¬ 134 ≤ x177 → (wX7_of G (x14) (x177) I176 (fun r197 I196 => vp_in (r197) 821 ∧ (∀ I198 : pm_I, I198 = pm_up I196 (q0 + 1) ((r197).toNatClampNeg) (0) → (P175 (x177 + 1) I198)))))) (0) I173)))) ∧ (¬ r171 = 0 → (K (0) I170))))) ∧ (r169 = (-1) → ((¬ x14 = 6 → (wX7_throwsIf G (q0) (0) (3) I168 (fun r200 I199 => (r200 = 0 → (wX7_keeps G (q0) I199 (fun I201 => wX7_bestFor G (q0) (x1) (x2) I201 (fun r203 I202 => pm_lp2 (fun (P204 : Int32 → pm_I → Prop) (x206 : Int32) (I205 : pm_I) => (134 ≤ x206 → (wX7_of G (x14) (0) I205 (fun r208 I207 => vp_in (r208) 821 ∧ (∀ I209 : pm_I, I209 = pm_up I207 (q0 + 1) ((r208).toNatClampNeg) (1) → (wX7_of G (x14) (1) I209 (fun r211 I210 => vp_in (r211) 821 ∧ (∀ I212 : pm_I, I212 = pm_up I210 (q0 + 1) ((r211).toNatClampNeg) (x1) → (wX7_of G (x14) (2) I212 (fun r214 I213 => vp_in (r214) 821 ∧ (∀ I215 : pm_I, I215 = pm_up I213 (q0 + 1) ((r214).toNatClampNeg) (x2) → (wX7_of G (x14) (3) I215 (fun r217 I216 => vp_in (r217) 821 ∧ (∀ I218 : pm_I, I218 = pm_up I216 (q0 + 1) ((r217).toNatClampNeg) (r203) → (wX7_of G (x14) (4) I218 (fun r220 I219 => vp_in (r220) 821 ∧ (∀ I221 : pm_I, I221 = pm_up I219 (q0 + 1) ((r220).toNatClampNeg) (-1) → (wX7_of G (x14) (6) I221 (fun r223 I222 => vp_in (r223) 821 ∧ (∀ I224 : pm_I, I224 = pm_up I222 (q0 + 1) ((r223).toNatClampNeg) (I222 (q0 + 1) (0 : Int32).toNatClampNeg) → (K (x14) I224)))))))))))))))))))) ∧ (¬ 134 ≤ x206 → (wX7_of G (x14) (x206) I205 (fun r226 I225 => vp_in (r226) 821 ∧ (∀ I227 : pm_I, I227 = pm_up I225 (q0 + 1) ((r226).toNatClampNeg) (0) → (P204 (x206 + 1) I227)))))) (0) I202)))) ∧ (¬ r200 = 0 → (K (0) I199))))) ∧ (x14 = 6 → (wX7_throwsIf G (q0) (1) (3) I168 (fun r229 I228 => (r229 = 0 → (wX7_keeps G (q0) I228 (fun I230 => wX7_bestFor G (q0) (x1) (x2) I230 (fun r232 I231 => pm_lp2 (fun (P233 : Int32 → pm_I → Prop) (x235 : Int32) (I234 : pm_I) => (134 ≤ x235 → (wX7_of G (x14) (0) I234 (fun r237 I236 => vp_in (r237) 821 ∧ (∀ I238 : pm_I, I238 = pm_up I236 (q0 + 1) ((r237).toNatClampNeg) (1) → (wX7_of G (x14) (1) I238 (fun r240 I239 => vp_in (r240) 821 ∧ (∀ I241 : pm_I, I241 = pm_up I239 (q0 + 1) ((r240).toNatClampNeg) (x1) → (wX7_of G (x14) (2) I241 (fun r243 I242 => vp_in (r243) 821 ∧ (∀ I244 : pm_I, I244 = pm_up I242 (q0 + 1) ((r243).toNatClampNeg) (x2) → (wX7_of G (x14) (3) I244 (fun r246 I245 => vp_in (r246) 821 ∧ (∀ I247 : pm_I, I247 = pm_up I245 (q0 + 1) ((r246).toNatClampNeg) (r232) → (wX7_of G (x14) (4) I247 (fun r249 I248 => vp_in (r249) 821 ∧ (∀ I250 : pm_I, I250 = pm_up I248 (q0 + 1) ((r249).toNatClampNeg) (-1) → (wX7_of G (x14) (6) I250 (fun r252 I251 => vp_in (r252) 821 ∧ (∀ I253 : pm_I, I253 = pm_up I251 (q0 + 1) ((r252).toNatClampNeg) (I251 (q0 + 1) (0 : Int32).toNatClampNeg) → (K (x14) I253)))))))))))))))))))) ∧ (¬ 134 ≤ x235 → (wX7_of G (x14) (x235) I234 (fun r255 I254 => vp_in (r255) 821 ∧ (∀ I256 : pm_I, I256 = pm_up I254 (q0 + 1) ((r255).toNatClampNeg) (0) → (P233 (x235 + 1) I256)))))) (0) I231)))) ∧ (¬ r229 = 0 → (K (0) I228))))))))))))) ∧ (¬ r136 = 0 → (P12 (x14 + 1) I135)))))) (0) I10)) ∧ (¬ r11 = 0 → (K (0) I10)))

set_option maxRecDepth 20000 in
theorem sX7_open {G : pm_G} {l : Launch} (hG : pm_ok G) (q0 : Nat) (x1 : Int32) (x2 : Int32) (I : pm_I) (K : Int32 → pm_I → Prop) (hk0 : pm_k G q0 (.inl 7)) (h : wX7_open G q0 x1 x2 I K) : pm_Ct G l yX7_open cX7_open 6 (some .int) { frames := 6, cells := 0, slots := 0, locals := 501 } [.ref (q0), .int (x1), .int (x2)] I (pm_Ki K) := by
  unfold wX7_open at h
  refine pm_enter (by decide +kernel) hG rfl (Nat.le_of_ble_eq_true rfl) rfl (fun X hl hC hE => ?_)
  subst hl
  have hab : 0 ≤ 0 ∧ 0 ≤ 0 := ⟨Nat.le_refl 0, Nat.le_refl 0⟩
  have hC : pm_C G X cX7_open 6 RX7 (some .int) { frames := 6, cells := 0, slots := 0, locals := 501 } := hC
  refine r_aload_n 0 hC dX7_open_0 rfl rfl ?_
  refine r_iload_n 1 hC dX7_open_1 rfl rfl ?_
  refine r_iload_n 2 hC dX7_open_2 rfl rfl ?_
  refine r_callV_i 3 (n := 2) [.int (x1), .int (x2)] [] hC hk0 rfl dX7_open_3 (by decide) (by decide) tw_1427 tw_135 ⟨by decide, by decide, by decide +kernel⟩ tw_1424 tw_1426 tw_104 rfl rfl (sX7_noTwo (l := pm_l X) hG (q0) (x1) (x2) _ _ hk0 h) hab (Nat.le_of_ble_eq_true rfl) ?_
  clear h; intro r11 I10 h
  refine r_if_eq 6 11 hC dX7_open_6 (by decide) (fun hc => ?_) (fun hc => ?_)
  · replace h := h.1 hc
    refine r_iconst 11 (v := 0) hC dX7_open_11 (by decide) ?_
    refine r_istore_n 12 [some (.ref (q0)), some (.int (x1)), some (.int (x2)), some (.int (0)), none, none] hC dX7_open_12 rfl (by decide) rfl ?_
    refine h (fun x14 I13 => pm_R G X 6 0 0 13 [some (.ref (q0)), some (.int (x1)), some (.int (x2)), some (.int (x14)), none, none] [] I13) ?_
    clear h; intro x14 I13 h
    refine r_iload_n 13 hC dX7_open_13 rfl rfl ?_
    refine r_bipush 14 (v := 6) hC dX7_open_14 (by decide) ?_
    refine r_icmp_ge 16 33 hC dX7_open_16 (by decide) (fun hc => ?_) (fun hc => ?_)
    · replace h := h.1 hc
      refine r_aload_n 33 hC dX7_open_33 rfl rfl ?_
      refine r_aload_n 34 hC dX7_open_34 rfl rfl ?_
      refine r_iload_n 35 hC dX7_open_35 rfl rfl ?_
      refine r_iload_n 36 hC dX7_open_36 rfl rfl ?_
      refine r_callV_i 37 (n := 2) [.int (x1), .int (x2)] [.ref (q0)] hC hk0 rfl dX7_open_37 (by decide) (by decide) tw_1411 tw_135 ⟨by decide, by decide, by decide +kernel⟩ tw_1408 tw_1410 tw_102 rfl rfl (sX7_areKnown (l := pm_l X) hG (q0) (x1) (x2) _ _ hk0 h) hab (Nat.le_of_ble_eq_true rfl) ?_
      clear h; intro r16 I15 h
      refine r_if_eq 40 59 hC dX7_open_40 (by decide) (fun hc => ?_) (fun hc => ?_)
      · replace h := h.1 hc
        refine r_iconst 59 (v := 1) hC dX7_open_59 (by decide) ?_
        refine r_goto 60 64 hC dX7_open_60 (by decide) ?_
        refine r_iconst 64 (v := 3) hC dX7_open_64 (by decide) ?_
        refine r_callV_i 65 (n := 2) [.int (1), .int (3)] [] hC hk0 rfl dX7_open_65 (by decide) (by decide) tw_1292 tw_135 ⟨by decide, by decide, by decide +kernel⟩ tw_1289 tw_1291 tw_81 rfl rfl (sX7_throwsIf (l := pm_l X) hG (q0) (1) (3) _ _ hk0 h) hab (Nat.le_of_ble_eq_true rfl) ?_
        clear h; intro r18 I17 h
        refine r_if_eq 68 73 hC dX7_open_68 (by decide) (fun hc => ?_) (fun hc => ?_)
        · replace h := h.1 hc
          refine r_aload_n 73 hC dX7_open_73 rfl rfl ?_
          refine r_callV_v 74 (n := 0) [] [] hC hk0 rfl dX7_open_74 (by decide) (by decide) tw_1591 tw_135 ⟨by decide, by decide, by decide +kernel⟩ tw_1588 tw_1590 tw_124 rfl rfl (sX7_keeps (l := pm_l X) hG (q0) _ _ hk0 h) hab (Nat.le_of_ble_eq_true rfl) ?_
          clear h; intro I19 h
          refine r_aload_n 77 hC dX7_open_77 rfl rfl ?_
          refine r_iload_n 78 hC dX7_open_78 rfl rfl ?_
          refine r_iload_n 79 hC dX7_open_79 rfl rfl ?_
          refine r_callV_i 80 (n := 2) [.int (x1), .int (x2)] [] hC hk0 rfl dX7_open_80 (by decide) (by decide) tw_1454 tw_135 ⟨by decide, by decide, by decide +kernel⟩ tw_1451 tw_1453 tw_107 rfl rfl (sX7_bestFor (l := pm_l X) hG (q0) (x1) (x2) _ _ hk0 h) hab (Nat.le_of_ble_eq_true rfl) ?_
          clear h; intro r21 I20 h
          refine r_istore 83 [some (.ref (q0)), some (.int (x1)), some (.int (x2)), some (.int (x14)), some (.int (r21)), none] hC dX7_open_83 (by decide) rfl ?_
          refine r_iconst 85 (v := 0) hC dX7_open_85 (by decide) ?_
          refine r_istore 86 [some (.ref (q0)), some (.int (x1)), some (.int (x2)), some (.int (x14)), some (.int (r21)), some (.int (0))] hC dX7_open_86 (by decide) rfl ?_
          refine h (fun x24 I23 => pm_R G X 6 0 0 88 [some (.ref (q0)), some (.int (x1)), some (.int (x2)), some (.int (x14)), some (.int (r21)), some (.int (x24))] [] I23) ?_
          clear h; intro x24 I23 h
          refine r_iload 88 hC dX7_open_88 rfl ?_
          refine r_sipush 90 (v := 134) hC dX7_open_90 (by decide) ?_
          refine r_icmp_ge 93 114 hC dX7_open_93 (by decide) (fun hc => ?_) (fun hc => ?_)
          · replace h := h.1 hc
            refine r_aload_n 114 hC dX7_open_114 rfl rfl ?_
            refine r_getR7 115 (r1 := q0 + 1) hC hk0 1 (by decide) tw_1180 rfl rfl dX7_open_115 ?_
            refine r_iload_n 118 hC dX7_open_118 rfl rfl ?_
            refine r_iconst 119 (v := 0) hC dX7_open_119 (by decide) ?_
            refine r_callS_i 120 (n := 2) [.int (x14), .int (0)] [.ref (q0 + 1)] hC dX7_open_120 (by decide) (by decide) tw_1446 tw_135 ⟨by decide, by decide, by decide +kernel⟩ tw_1444 tw_1445 rfl rfl (sX7_of (l := pm_l X) hG (x14) (0) _ _ h) hab (Nat.le_of_ble_eq_true rfl) ?_
            clear h; intro r26 I25 h
            refine r_iconst 123 (v := 1) hC dX7_open_123 (by decide) ?_
            refine r_iast 124 hC ((pm_s7 hG hk0).1) h.1 dX7_open_124 (fun I27 hI => ?_)
            replace h := h.2
            replace h := h I27 hI; clear hI
            refine r_aload_n 125 hC dX7_open_125 rfl rfl ?_
            refine r_getR7 126 (r1 := q0 + 1) hC hk0 1 (by decide) tw_1180 rfl rfl dX7_open_126 ?_
            refine r_iload_n 129 hC dX7_open_129 rfl rfl ?_
            refine r_iconst 130 (v := 1) hC dX7_open_130 (by decide) ?_
            refine r_callS_i 131 (n := 2) [.int (x14), .int (1)] [.ref (q0 + 1)] hC dX7_open_131 (by decide) (by decide) tw_1446 tw_135 ⟨by decide, by decide, by decide +kernel⟩ tw_1444 tw_1445 rfl rfl (sX7_of (l := pm_l X) hG (x14) (1) _ _ h) hab (Nat.le_of_ble_eq_true rfl) ?_
            clear h; intro r29 I28 h
            refine r_iload_n 134 hC dX7_open_134 rfl rfl ?_
            refine r_iast 135 hC ((pm_s7 hG hk0).1) h.1 dX7_open_135 (fun I30 hI => ?_)
            replace h := h.2
            replace h := h I30 hI; clear hI
            refine r_aload_n 136 hC dX7_open_136 rfl rfl ?_
            refine r_getR7 137 (r1 := q0 + 1) hC hk0 1 (by decide) tw_1180 rfl rfl dX7_open_137 ?_
            refine r_iload_n 140 hC dX7_open_140 rfl rfl ?_
            refine r_iconst 141 (v := 2) hC dX7_open_141 (by decide) ?_
            refine r_callS_i 142 (n := 2) [.int (x14), .int (2)] [.ref (q0 + 1)] hC dX7_open_142 (by decide) (by decide) tw_1446 tw_135 ⟨by decide, by decide, by decide +kernel⟩ tw_1444 tw_1445 rfl rfl (sX7_of (l := pm_l X) hG (x14) (2) _ _ h) hab (Nat.le_of_ble_eq_true rfl) ?_
            clear h; intro r32 I31 h
            refine r_iload_n 145 hC dX7_open_145 rfl rfl ?_
            refine r_iast 146 hC ((pm_s7 hG hk0).1) h.1 dX7_open_146 (fun I33 hI => ?_)
            replace h := h.2
            replace h := h I33 hI; clear hI
            refine r_aload_n 147 hC dX7_open_147 rfl rfl ?_
            refine r_getR7 148 (r1 := q0 + 1) hC hk0 1 (by decide) tw_1180 rfl rfl dX7_open_148 ?_
            refine r_iload_n 151 hC dX7_open_151 rfl rfl ?_
            refine r_iconst 152 (v := 3) hC dX7_open_152 (by decide) ?_
            refine r_callS_i 153 (n := 2) [.int (x14), .int (3)] [.ref (q0 + 1)] hC dX7_open_153 (by decide) (by decide) tw_1446 tw_135 ⟨by decide, by decide, by decide +kernel⟩ tw_1444 tw_1445 rfl rfl (sX7_of (l := pm_l X) hG (x14) (3) _ _ h) hab (Nat.le_of_ble_eq_true rfl) ?_
            clear h; intro r35 I34 h
            refine r_iload 156 hC dX7_open_156 rfl ?_
            refine r_iast 158 hC ((pm_s7 hG hk0).1) h.1 dX7_open_158 (fun I36 hI => ?_)
            replace h := h.2
            replace h := h I36 hI; clear hI
            refine r_aload_n 159 hC dX7_open_159 rfl rfl ?_
            refine r_getR7 160 (r1 := q0 + 1) hC hk0 1 (by decide) tw_1180 rfl rfl dX7_open_160 ?_
            refine r_iload_n 163 hC dX7_open_163 rfl rfl ?_
            refine r_iconst 164 (v := 4) hC dX7_open_164 (by decide) ?_
            refine r_callS_i 165 (n := 2) [.int (x14), .int (4)] [.ref (q0 + 1)] hC dX7_open_165 (by decide) (by decide) tw_1446 tw_135 ⟨by decide, by decide, by decide +kernel⟩ tw_1444 tw_1445 rfl rfl (sX7_of (l := pm_l X) hG (x14) (4) _ _ h) hab (Nat.le_of_ble_eq_true rfl) ?_
            clear h; intro r38 I37 h
            refine r_iconst 168 (v := -1) hC dX7_open_168 (by decide) ?_
            refine r_iast 169 hC ((pm_s7 hG hk0).1) h.1 dX7_open_169 (fun I39 hI => ?_)
            replace h := h.2
            replace h := h I39 hI; clear hI
            refine r_aload_n 170 hC dX7_open_170 rfl rfl ?_
            refine r_getR7 171 (r1 := q0 + 1) hC hk0 1 (by decide) tw_1180 rfl rfl dX7_open_171 ?_
            refine r_iload_n 174 hC dX7_open_174 rfl rfl ?_
            refine r_bipush 175 (v := 6) hC dX7_open_175 (by decide) ?_
            refine r_callS_i 177 (n := 2) [.int (x14), .int (6)] [.ref (q0 + 1)] hC dX7_open_177 (by decide) (by decide) tw_1446 tw_135 ⟨by decide, by decide, by decide +kernel⟩ tw_1444 tw_1445 rfl rfl (sX7_of (l := pm_l X) hG (x14) (6) _ _ h) hab (Nat.le_of_ble_eq_true rfl) ?_
            clear h; intro r41 I40 h
            refine r_aload_n 180 hC dX7_open_180 rfl rfl ?_
            refine r_getR7 181 (r1 := q0 + 1) hC hk0 1 (by decide) tw_1180 rfl rfl dX7_open_181 ?_
            refine r_iconst 184 (v := 0) hC dX7_open_184 (by decide) ?_
            refine r_iald 185 hC ((pm_s7 hG hk0).1) (by unfold vp_in; decide) dX7_open_185 ?_
            refine r_iast 186 hC ((pm_s7 hG hk0).1) h.1 dX7_open_186 (fun I42 hI => ?_)
            replace h := h.2
            replace h := h I42 hI; clear hI
            refine r_iload_n 187 hC dX7_open_187 rfl rfl ?_
            exact r_iret 188 hC hE rfl dX7_open_188 ⟨_, rfl, h⟩
          · replace h := h.2 hc
            refine r_aload_n 96 hC dX7_open_96 rfl rfl ?_
            refine r_getR7 97 (r1 := q0 + 1) hC hk0 1 (by decide) tw_1180 rfl rfl dX7_open_97 ?_
            refine r_iload_n 100 hC dX7_open_100 rfl rfl ?_
            refine r_iload 101 hC dX7_open_101 rfl ?_
            refine r_callS_i 103 (n := 2) [.int (x14), .int (x24)] [.ref (q0 + 1)] hC dX7_open_103 (by decide) (by decide) tw_1446 tw_135 ⟨by decide, by decide, by decide +kernel⟩ tw_1444 tw_1445 rfl rfl (sX7_of (l := pm_l X) hG (x14) (x24) _ _ h) hab (Nat.le_of_ble_eq_true rfl) ?_
            clear h; intro r44 I43 h
            refine r_iconst 106 (v := 0) hC dX7_open_106 (by decide) ?_
            refine r_iast 107 hC ((pm_s7 hG hk0).1) h.1 dX7_open_107 (fun I45 hI => ?_)
            replace h := h.2
            replace h := h I45 hI; clear hI
            refine r_iinc 108 (v := x24 + 1) [some (.ref (q0)), some (.int (x1)), some (.int (x2)), some (.int (x14)), some (.int (r21)), some (.int (x24 + 1))] hC dX7_open_108 rfl (by rfl) (by decide) rfl ?_
            refine r_goto 111 88 hC dX7_open_111 (by decide) ?_
            exact h
        · replace h := h.2 hc
          refine r_iconst 71 (v := 0) hC dX7_open_71 (by decide) ?_
          exact r_iret 72 hC hE rfl dX7_open_72 ⟨_, rfl, h⟩
      · replace h := h.2 hc
        refine r_aload_n 43 hC dX7_open_43 rfl rfl ?_
        refine r_iload_n 44 hC dX7_open_44 rfl rfl ?_
        refine r_iload_n 45 hC dX7_open_45 rfl rfl ?_
        refine r_callV_i 46 (n := 2) [.int (x1), .int (x2)] [.ref (q0)] hC hk0 rfl dX7_open_46 (by decide) (by decide) tw_1485 tw_135 ⟨by decide, by decide, by decide +kernel⟩ tw_1482 tw_1484 tw_111 rfl rfl (sX7_sessionOf (l := pm_l X) hG (q0) (x1) (x2) _ _ hk0 h) hab (Nat.le_of_ble_eq_true rfl) ?_
        clear h; intro r47 I46 h
        refine r_iconst 49 (v := -1) hC dX7_open_49 (by decide) ?_
        refine r_icmp_ne 50 59 hC dX7_open_50 (by decide) (fun hc => ?_) (fun hc => ?_)
        · replace h := h.1 hc
          refine r_iconst 59 (v := 1) hC dX7_open_59 (by decide) ?_
          refine r_goto 60 64 hC dX7_open_60 (by decide) ?_
          refine r_iconst 64 (v := 3) hC dX7_open_64 (by decide) ?_
          refine r_callV_i 65 (n := 2) [.int (1), .int (3)] [] hC hk0 rfl dX7_open_65 (by decide) (by decide) tw_1292 tw_135 ⟨by decide, by decide, by decide +kernel⟩ tw_1289 tw_1291 tw_81 rfl rfl (sX7_throwsIf (l := pm_l X) hG (q0) (1) (3) _ _ hk0 h) hab (Nat.le_of_ble_eq_true rfl) ?_
          clear h; intro r49 I48 h
          refine r_if_eq 68 73 hC dX7_open_68 (by decide) (fun hc => ?_) (fun hc => ?_)
          · replace h := h.1 hc
            refine r_aload_n 73 hC dX7_open_73 rfl rfl ?_
            refine r_callV_v 74 (n := 0) [] [] hC hk0 rfl dX7_open_74 (by decide) (by decide) tw_1591 tw_135 ⟨by decide, by decide, by decide +kernel⟩ tw_1588 tw_1590 tw_124 rfl rfl (sX7_keeps (l := pm_l X) hG (q0) _ _ hk0 h) hab (Nat.le_of_ble_eq_true rfl) ?_
            clear h; intro I50 h
            refine r_aload_n 77 hC dX7_open_77 rfl rfl ?_
            refine r_iload_n 78 hC dX7_open_78 rfl rfl ?_
            refine r_iload_n 79 hC dX7_open_79 rfl rfl ?_
            refine r_callV_i 80 (n := 2) [.int (x1), .int (x2)] [] hC hk0 rfl dX7_open_80 (by decide) (by decide) tw_1454 tw_135 ⟨by decide, by decide, by decide +kernel⟩ tw_1451 tw_1453 tw_107 rfl rfl (sX7_bestFor (l := pm_l X) hG (q0) (x1) (x2) _ _ hk0 h) hab (Nat.le_of_ble_eq_true rfl) ?_
            clear h; intro r52 I51 h
            refine r_istore 83 [some (.ref (q0)), some (.int (x1)), some (.int (x2)), some (.int (x14)), some (.int (r52)), none] hC dX7_open_83 (by decide) rfl ?_
            refine r_iconst 85 (v := 0) hC dX7_open_85 (by decide) ?_
            refine r_istore 86 [some (.ref (q0)), some (.int (x1)), some (.int (x2)), some (.int (x14)), some (.int (r52)), some (.int (0))] hC dX7_open_86 (by decide) rfl ?_
            refine h (fun x55 I54 => pm_R G X 6 0 0 88 [some (.ref (q0)), some (.int (x1)), some (.int (x2)), some (.int (x14)), some (.int (r52)), some (.int (x55))] [] I54) ?_
            clear h; intro x55 I54 h
            refine r_iload 88 hC dX7_open_88 rfl ?_
            refine r_sipush 90 (v := 134) hC dX7_open_90 (by decide) ?_
            refine r_icmp_ge 93 114 hC dX7_open_93 (by decide) (fun hc => ?_) (fun hc => ?_)
            · replace h := h.1 hc
              refine r_aload_n 114 hC dX7_open_114 rfl rfl ?_
              refine r_getR7 115 (r1 := q0 + 1) hC hk0 1 (by decide) tw_1180 rfl rfl dX7_open_115 ?_
              refine r_iload_n 118 hC dX7_open_118 rfl rfl ?_
              refine r_iconst 119 (v := 0) hC dX7_open_119 (by decide) ?_
              refine r_callS_i 120 (n := 2) [.int (x14), .int (0)] [.ref (q0 + 1)] hC dX7_open_120 (by decide) (by decide) tw_1446 tw_135 ⟨by decide, by decide, by decide +kernel⟩ tw_1444 tw_1445 rfl rfl (sX7_of (l := pm_l X) hG (x14) (0) _ _ h) hab (Nat.le_of_ble_eq_true rfl) ?_
              clear h; intro r57 I56 h
              refine r_iconst 123 (v := 1) hC dX7_open_123 (by decide) ?_
              refine r_iast 124 hC ((pm_s7 hG hk0).1) h.1 dX7_open_124 (fun I58 hI => ?_)
              replace h := h.2
              replace h := h I58 hI; clear hI
              refine r_aload_n 125 hC dX7_open_125 rfl rfl ?_
              refine r_getR7 126 (r1 := q0 + 1) hC hk0 1 (by decide) tw_1180 rfl rfl dX7_open_126 ?_
              refine r_iload_n 129 hC dX7_open_129 rfl rfl ?_
              refine r_iconst 130 (v := 1) hC dX7_open_130 (by decide) ?_
              refine r_callS_i 131 (n := 2) [.int (x14), .int (1)] [.ref (q0 + 1)] hC dX7_open_131 (by decide) (by decide) tw_1446 tw_135 ⟨by decide, by decide, by decide +kernel⟩ tw_1444 tw_1445 rfl rfl (sX7_of (l := pm_l X) hG (x14) (1) _ _ h) hab (Nat.le_of_ble_eq_true rfl) ?_
              clear h; intro r60 I59 h
              refine r_iload_n 134 hC dX7_open_134 rfl rfl ?_
              refine r_iast 135 hC ((pm_s7 hG hk0).1) h.1 dX7_open_135 (fun I61 hI => ?_)
              replace h := h.2
              replace h := h I61 hI; clear hI
              refine r_aload_n 136 hC dX7_open_136 rfl rfl ?_
              refine r_getR7 137 (r1 := q0 + 1) hC hk0 1 (by decide) tw_1180 rfl rfl dX7_open_137 ?_
              refine r_iload_n 140 hC dX7_open_140 rfl rfl ?_
              refine r_iconst 141 (v := 2) hC dX7_open_141 (by decide) ?_
              refine r_callS_i 142 (n := 2) [.int (x14), .int (2)] [.ref (q0 + 1)] hC dX7_open_142 (by decide) (by decide) tw_1446 tw_135 ⟨by decide, by decide, by decide +kernel⟩ tw_1444 tw_1445 rfl rfl (sX7_of (l := pm_l X) hG (x14) (2) _ _ h) hab (Nat.le_of_ble_eq_true rfl) ?_
              clear h; intro r63 I62 h
              refine r_iload_n 145 hC dX7_open_145 rfl rfl ?_
              refine r_iast 146 hC ((pm_s7 hG hk0).1) h.1 dX7_open_146 (fun I64 hI => ?_)
              replace h := h.2
              replace h := h I64 hI; clear hI
              refine r_aload_n 147 hC dX7_open_147 rfl rfl ?_
              refine r_getR7 148 (r1 := q0 + 1) hC hk0 1 (by decide) tw_1180 rfl rfl dX7_open_148 ?_
              refine r_iload_n 151 hC dX7_open_151 rfl rfl ?_
              refine r_iconst 152 (v := 3) hC dX7_open_152 (by decide) ?_
              refine r_callS_i 153 (n := 2) [.int (x14), .int (3)] [.ref (q0 + 1)] hC dX7_open_153 (by decide) (by decide) tw_1446 tw_135 ⟨by decide, by decide, by decide +kernel⟩ tw_1444 tw_1445 rfl rfl (sX7_of (l := pm_l X) hG (x14) (3) _ _ h) hab (Nat.le_of_ble_eq_true rfl) ?_
              clear h; intro r66 I65 h
              refine r_iload 156 hC dX7_open_156 rfl ?_
              refine r_iast 158 hC ((pm_s7 hG hk0).1) h.1 dX7_open_158 (fun I67 hI => ?_)
              replace h := h.2
              replace h := h I67 hI; clear hI
              refine r_aload_n 159 hC dX7_open_159 rfl rfl ?_
              refine r_getR7 160 (r1 := q0 + 1) hC hk0 1 (by decide) tw_1180 rfl rfl dX7_open_160 ?_
              refine r_iload_n 163 hC dX7_open_163 rfl rfl ?_
              refine r_iconst 164 (v := 4) hC dX7_open_164 (by decide) ?_
              refine r_callS_i 165 (n := 2) [.int (x14), .int (4)] [.ref (q0 + 1)] hC dX7_open_165 (by decide) (by decide) tw_1446 tw_135 ⟨by decide, by decide, by decide +kernel⟩ tw_1444 tw_1445 rfl rfl (sX7_of (l := pm_l X) hG (x14) (4) _ _ h) hab (Nat.le_of_ble_eq_true rfl) ?_
              clear h; intro r69 I68 h
              refine r_iconst 168 (v := -1) hC dX7_open_168 (by decide) ?_
              refine r_iast 169 hC ((pm_s7 hG hk0).1) h.1 dX7_open_169 (fun I70 hI => ?_)
              replace h := h.2
              replace h := h I70 hI; clear hI
              refine r_aload_n 170 hC dX7_open_170 rfl rfl ?_
              refine r_getR7 171 (r1 := q0 + 1) hC hk0 1 (by decide) tw_1180 rfl rfl dX7_open_171 ?_
              refine r_iload_n 174 hC dX7_open_174 rfl rfl ?_
              refine r_bipush 175 (v := 6) hC dX7_open_175 (by decide) ?_
              refine r_callS_i 177 (n := 2) [.int (x14), .int (6)] [.ref (q0 + 1)] hC dX7_open_177 (by decide) (by decide) tw_1446 tw_135 ⟨by decide, by decide, by decide +kernel⟩ tw_1444 tw_1445 rfl rfl (sX7_of (l := pm_l X) hG (x14) (6) _ _ h) hab (Nat.le_of_ble_eq_true rfl) ?_
              clear h; intro r72 I71 h
              refine r_aload_n 180 hC dX7_open_180 rfl rfl ?_
              refine r_getR7 181 (r1 := q0 + 1) hC hk0 1 (by decide) tw_1180 rfl rfl dX7_open_181 ?_
              refine r_iconst 184 (v := 0) hC dX7_open_184 (by decide) ?_
              refine r_iald 185 hC ((pm_s7 hG hk0).1) (by unfold vp_in; decide) dX7_open_185 ?_
              refine r_iast 186 hC ((pm_s7 hG hk0).1) h.1 dX7_open_186 (fun I73 hI => ?_)
              replace h := h.2
              replace h := h I73 hI; clear hI
              refine r_iload_n 187 hC dX7_open_187 rfl rfl ?_
              exact r_iret 188 hC hE rfl dX7_open_188 ⟨_, rfl, h⟩
            · replace h := h.2 hc
              refine r_aload_n 96 hC dX7_open_96 rfl rfl ?_
              refine r_getR7 97 (r1 := q0 + 1) hC hk0 1 (by decide) tw_1180 rfl rfl dX7_open_97 ?_
              refine r_iload_n 100 hC dX7_open_100 rfl rfl ?_
              refine r_iload 101 hC dX7_open_101 rfl ?_
              refine r_callS_i 103 (n := 2) [.int (x14), .int (x55)] [.ref (q0 + 1)] hC dX7_open_103 (by decide) (by decide) tw_1446 tw_135 ⟨by decide, by decide, by decide +kernel⟩ tw_1444 tw_1445 rfl rfl (sX7_of (l := pm_l X) hG (x14) (x55) _ _ h) hab (Nat.le_of_ble_eq_true rfl) ?_
              clear h; intro r75 I74 h
              refine r_iconst 106 (v := 0) hC dX7_open_106 (by decide) ?_
              refine r_iast 107 hC ((pm_s7 hG hk0).1) h.1 dX7_open_107 (fun I76 hI => ?_)
              replace h := h.2
              replace h := h I76 hI; clear hI
              refine r_iinc 108 (v := x55 + 1) [some (.ref (q0)), some (.int (x1)), some (.int (x2)), some (.int (x14)), some (.int (r52)), some (.int (x55 + 1))] hC dX7_open_108 rfl (by rfl) (by decide) rfl ?_
              refine r_goto 111 88 hC dX7_open_111 (by decide) ?_
              exact h
          · replace h := h.2 hc
            refine r_iconst 71 (v := 0) hC dX7_open_71 (by decide) ?_
            exact r_iret 72 hC hE rfl dX7_open_72 ⟨_, rfl, h⟩
        · replace h := h.2 hc
          refine r_iload_n 53 hC dX7_open_53 rfl rfl ?_
          refine r_bipush 54 (v := 6) hC dX7_open_54 (by decide) ?_
          refine r_icmp_ne 56 63 hC dX7_open_56 (by decide) (fun hc => ?_) (fun hc => ?_)
          · replace h := h.1 hc
            refine r_iconst 63 (v := 0) hC dX7_open_63 (by decide) ?_
            refine r_iconst 64 (v := 3) hC dX7_open_64 (by decide) ?_
            refine r_callV_i 65 (n := 2) [.int (0), .int (3)] [] hC hk0 rfl dX7_open_65 (by decide) (by decide) tw_1292 tw_135 ⟨by decide, by decide, by decide +kernel⟩ tw_1289 tw_1291 tw_81 rfl rfl (sX7_throwsIf (l := pm_l X) hG (q0) (0) (3) _ _ hk0 h) hab (Nat.le_of_ble_eq_true rfl) ?_
            clear h; intro r78 I77 h
            refine r_if_eq 68 73 hC dX7_open_68 (by decide) (fun hc => ?_) (fun hc => ?_)
            · replace h := h.1 hc
              refine r_aload_n 73 hC dX7_open_73 rfl rfl ?_
              refine r_callV_v 74 (n := 0) [] [] hC hk0 rfl dX7_open_74 (by decide) (by decide) tw_1591 tw_135 ⟨by decide, by decide, by decide +kernel⟩ tw_1588 tw_1590 tw_124 rfl rfl (sX7_keeps (l := pm_l X) hG (q0) _ _ hk0 h) hab (Nat.le_of_ble_eq_true rfl) ?_
              clear h; intro I79 h
              refine r_aload_n 77 hC dX7_open_77 rfl rfl ?_
              refine r_iload_n 78 hC dX7_open_78 rfl rfl ?_
              refine r_iload_n 79 hC dX7_open_79 rfl rfl ?_
              refine r_callV_i 80 (n := 2) [.int (x1), .int (x2)] [] hC hk0 rfl dX7_open_80 (by decide) (by decide) tw_1454 tw_135 ⟨by decide, by decide, by decide +kernel⟩ tw_1451 tw_1453 tw_107 rfl rfl (sX7_bestFor (l := pm_l X) hG (q0) (x1) (x2) _ _ hk0 h) hab (Nat.le_of_ble_eq_true rfl) ?_
              clear h; intro r81 I80 h
              refine r_istore 83 [some (.ref (q0)), some (.int (x1)), some (.int (x2)), some (.int (x14)), some (.int (r81)), none] hC dX7_open_83 (by decide) rfl ?_
              refine r_iconst 85 (v := 0) hC dX7_open_85 (by decide) ?_
              refine r_istore 86 [some (.ref (q0)), some (.int (x1)), some (.int (x2)), some (.int (x14)), some (.int (r81)), some (.int (0))] hC dX7_open_86 (by decide) rfl ?_
              refine h (fun x84 I83 => pm_R G X 6 0 0 88 [some (.ref (q0)), some (.int (x1)), some (.int (x2)), some (.int (x14)), some (.int (r81)), some (.int (x84))] [] I83) ?_
              clear h; intro x84 I83 h
              refine r_iload 88 hC dX7_open_88 rfl ?_
              refine r_sipush 90 (v := 134) hC dX7_open_90 (by decide) ?_
              refine r_icmp_ge 93 114 hC dX7_open_93 (by decide) (fun hc => ?_) (fun hc => ?_)
              · replace h := h.1 hc
                refine r_aload_n 114 hC dX7_open_114 rfl rfl ?_
                refine r_getR7 115 (r1 := q0 + 1) hC hk0 1 (by decide) tw_1180 rfl rfl dX7_open_115 ?_
                refine r_iload_n 118 hC dX7_open_118 rfl rfl ?_
                refine r_iconst 119 (v := 0) hC dX7_open_119 (by decide) ?_
                refine r_callS_i 120 (n := 2) [.int (x14), .int (0)] [.ref (q0 + 1)] hC dX7_open_120 (by decide) (by decide) tw_1446 tw_135 ⟨by decide, by decide, by decide +kernel⟩ tw_1444 tw_1445 rfl rfl (sX7_of (l := pm_l X) hG (x14) (0) _ _ h) hab (Nat.le_of_ble_eq_true rfl) ?_
                clear h; intro r86 I85 h
                refine r_iconst 123 (v := 1) hC dX7_open_123 (by decide) ?_
                refine r_iast 124 hC ((pm_s7 hG hk0).1) h.1 dX7_open_124 (fun I87 hI => ?_)
                replace h := h.2
                replace h := h I87 hI; clear hI
                refine r_aload_n 125 hC dX7_open_125 rfl rfl ?_
                refine r_getR7 126 (r1 := q0 + 1) hC hk0 1 (by decide) tw_1180 rfl rfl dX7_open_126 ?_
                refine r_iload_n 129 hC dX7_open_129 rfl rfl ?_
                refine r_iconst 130 (v := 1) hC dX7_open_130 (by decide) ?_
                refine r_callS_i 131 (n := 2) [.int (x14), .int (1)] [.ref (q0 + 1)] hC dX7_open_131 (by decide) (by decide) tw_1446 tw_135 ⟨by decide, by decide, by decide +kernel⟩ tw_1444 tw_1445 rfl rfl (sX7_of (l := pm_l X) hG (x14) (1) _ _ h) hab (Nat.le_of_ble_eq_true rfl) ?_
                clear h; intro r89 I88 h
                refine r_iload_n 134 hC dX7_open_134 rfl rfl ?_
                refine r_iast 135 hC ((pm_s7 hG hk0).1) h.1 dX7_open_135 (fun I90 hI => ?_)
                replace h := h.2
                replace h := h I90 hI; clear hI
                refine r_aload_n 136 hC dX7_open_136 rfl rfl ?_
                refine r_getR7 137 (r1 := q0 + 1) hC hk0 1 (by decide) tw_1180 rfl rfl dX7_open_137 ?_
                refine r_iload_n 140 hC dX7_open_140 rfl rfl ?_
                refine r_iconst 141 (v := 2) hC dX7_open_141 (by decide) ?_
                refine r_callS_i 142 (n := 2) [.int (x14), .int (2)] [.ref (q0 + 1)] hC dX7_open_142 (by decide) (by decide) tw_1446 tw_135 ⟨by decide, by decide, by decide +kernel⟩ tw_1444 tw_1445 rfl rfl (sX7_of (l := pm_l X) hG (x14) (2) _ _ h) hab (Nat.le_of_ble_eq_true rfl) ?_
                clear h; intro r92 I91 h
                refine r_iload_n 145 hC dX7_open_145 rfl rfl ?_
                refine r_iast 146 hC ((pm_s7 hG hk0).1) h.1 dX7_open_146 (fun I93 hI => ?_)
                replace h := h.2
                replace h := h I93 hI; clear hI
                refine r_aload_n 147 hC dX7_open_147 rfl rfl ?_
                refine r_getR7 148 (r1 := q0 + 1) hC hk0 1 (by decide) tw_1180 rfl rfl dX7_open_148 ?_
                refine r_iload_n 151 hC dX7_open_151 rfl rfl ?_
                refine r_iconst 152 (v := 3) hC dX7_open_152 (by decide) ?_
                refine r_callS_i 153 (n := 2) [.int (x14), .int (3)] [.ref (q0 + 1)] hC dX7_open_153 (by decide) (by decide) tw_1446 tw_135 ⟨by decide, by decide, by decide +kernel⟩ tw_1444 tw_1445 rfl rfl (sX7_of (l := pm_l X) hG (x14) (3) _ _ h) hab (Nat.le_of_ble_eq_true rfl) ?_
                clear h; intro r95 I94 h
                refine r_iload 156 hC dX7_open_156 rfl ?_
                refine r_iast 158 hC ((pm_s7 hG hk0).1) h.1 dX7_open_158 (fun I96 hI => ?_)
                replace h := h.2
                replace h := h I96 hI; clear hI
                refine r_aload_n 159 hC dX7_open_159 rfl rfl ?_
                refine r_getR7 160 (r1 := q0 + 1) hC hk0 1 (by decide) tw_1180 rfl rfl dX7_open_160 ?_
                refine r_iload_n 163 hC dX7_open_163 rfl rfl ?_
                refine r_iconst 164 (v := 4) hC dX7_open_164 (by decide) ?_
                refine r_callS_i 165 (n := 2) [.int (x14), .int (4)] [.ref (q0 + 1)] hC dX7_open_165 (by decide) (by decide) tw_1446 tw_135 ⟨by decide, by decide, by decide +kernel⟩ tw_1444 tw_1445 rfl rfl (sX7_of (l := pm_l X) hG (x14) (4) _ _ h) hab (Nat.le_of_ble_eq_true rfl) ?_
                clear h; intro r98 I97 h
                refine r_iconst 168 (v := -1) hC dX7_open_168 (by decide) ?_
                refine r_iast 169 hC ((pm_s7 hG hk0).1) h.1 dX7_open_169 (fun I99 hI => ?_)
                replace h := h.2
                replace h := h I99 hI; clear hI
                refine r_aload_n 170 hC dX7_open_170 rfl rfl ?_
                refine r_getR7 171 (r1 := q0 + 1) hC hk0 1 (by decide) tw_1180 rfl rfl dX7_open_171 ?_
                refine r_iload_n 174 hC dX7_open_174 rfl rfl ?_
                refine r_bipush 175 (v := 6) hC dX7_open_175 (by decide) ?_
                refine r_callS_i 177 (n := 2) [.int (x14), .int (6)] [.ref (q0 + 1)] hC dX7_open_177 (by decide) (by decide) tw_1446 tw_135 ⟨by decide, by decide, by decide +kernel⟩ tw_1444 tw_1445 rfl rfl (sX7_of (l := pm_l X) hG (x14) (6) _ _ h) hab (Nat.le_of_ble_eq_true rfl) ?_
                clear h; intro r101 I100 h
                refine r_aload_n 180 hC dX7_open_180 rfl rfl ?_
                refine r_getR7 181 (r1 := q0 + 1) hC hk0 1 (by decide) tw_1180 rfl rfl dX7_open_181 ?_
                refine r_iconst 184 (v := 0) hC dX7_open_184 (by decide) ?_
                refine r_iald 185 hC ((pm_s7 hG hk0).1) (by unfold vp_in; decide) dX7_open_185 ?_
                refine r_iast 186 hC ((pm_s7 hG hk0).1) h.1 dX7_open_186 (fun I102 hI => ?_)
                replace h := h.2
                replace h := h I102 hI; clear hI
                refine r_iload_n 187 hC dX7_open_187 rfl rfl ?_
                exact r_iret 188 hC hE rfl dX7_open_188 ⟨_, rfl, h⟩
              · replace h := h.2 hc
                refine r_aload_n 96 hC dX7_open_96 rfl rfl ?_
                refine r_getR7 97 (r1 := q0 + 1) hC hk0 1 (by decide) tw_1180 rfl rfl dX7_open_97 ?_
                refine r_iload_n 100 hC dX7_open_100 rfl rfl ?_
                refine r_iload 101 hC dX7_open_101 rfl ?_
                refine r_callS_i 103 (n := 2) [.int (x14), .int (x84)] [.ref (q0 + 1)] hC dX7_open_103 (by decide) (by decide) tw_1446 tw_135 ⟨by decide, by decide, by decide +kernel⟩ tw_1444 tw_1445 rfl rfl (sX7_of (l := pm_l X) hG (x14) (x84) _ _ h) hab (Nat.le_of_ble_eq_true rfl) ?_
                clear h; intro r104 I103 h
                refine r_iconst 106 (v := 0) hC dX7_open_106 (by decide) ?_
                refine r_iast 107 hC ((pm_s7 hG hk0).1) h.1 dX7_open_107 (fun I105 hI => ?_)
                replace h := h.2
                replace h := h I105 hI; clear hI
                refine r_iinc 108 (v := x84 + 1) [some (.ref (q0)), some (.int (x1)), some (.int (x2)), some (.int (x14)), some (.int (r81)), some (.int (x84 + 1))] hC dX7_open_108 rfl (by rfl) (by decide) rfl ?_
                refine r_goto 111 88 hC dX7_open_111 (by decide) ?_
                exact h
            · replace h := h.2 hc
              refine r_iconst 71 (v := 0) hC dX7_open_71 (by decide) ?_
              exact r_iret 72 hC hE rfl dX7_open_72 ⟨_, rfl, h⟩
          · replace h := h.2 hc
            refine r_iconst 59 (v := 1) hC dX7_open_59 (by decide) ?_
            refine r_goto 60 64 hC dX7_open_60 (by decide) ?_
            refine r_iconst 64 (v := 3) hC dX7_open_64 (by decide) ?_
            refine r_callV_i 65 (n := 2) [.int (1), .int (3)] [] hC hk0 rfl dX7_open_65 (by decide) (by decide) tw_1292 tw_135 ⟨by decide, by decide, by decide +kernel⟩ tw_1289 tw_1291 tw_81 rfl rfl (sX7_throwsIf (l := pm_l X) hG (q0) (1) (3) _ _ hk0 h) hab (Nat.le_of_ble_eq_true rfl) ?_
            clear h; intro r107 I106 h
            refine r_if_eq 68 73 hC dX7_open_68 (by decide) (fun hc => ?_) (fun hc => ?_)
            · replace h := h.1 hc
              refine r_aload_n 73 hC dX7_open_73 rfl rfl ?_
              refine r_callV_v 74 (n := 0) [] [] hC hk0 rfl dX7_open_74 (by decide) (by decide) tw_1591 tw_135 ⟨by decide, by decide, by decide +kernel⟩ tw_1588 tw_1590 tw_124 rfl rfl (sX7_keeps (l := pm_l X) hG (q0) _ _ hk0 h) hab (Nat.le_of_ble_eq_true rfl) ?_
              clear h; intro I108 h
              refine r_aload_n 77 hC dX7_open_77 rfl rfl ?_
              refine r_iload_n 78 hC dX7_open_78 rfl rfl ?_
              refine r_iload_n 79 hC dX7_open_79 rfl rfl ?_
              refine r_callV_i 80 (n := 2) [.int (x1), .int (x2)] [] hC hk0 rfl dX7_open_80 (by decide) (by decide) tw_1454 tw_135 ⟨by decide, by decide, by decide +kernel⟩ tw_1451 tw_1453 tw_107 rfl rfl (sX7_bestFor (l := pm_l X) hG (q0) (x1) (x2) _ _ hk0 h) hab (Nat.le_of_ble_eq_true rfl) ?_
              clear h; intro r110 I109 h
              refine r_istore 83 [some (.ref (q0)), some (.int (x1)), some (.int (x2)), some (.int (x14)), some (.int (r110)), none] hC dX7_open_83 (by decide) rfl ?_
              refine r_iconst 85 (v := 0) hC dX7_open_85 (by decide) ?_
              refine r_istore 86 [some (.ref (q0)), some (.int (x1)), some (.int (x2)), some (.int (x14)), some (.int (r110)), some (.int (0))] hC dX7_open_86 (by decide) rfl ?_
              refine h (fun x113 I112 => pm_R G X 6 0 0 88 [some (.ref (q0)), some (.int (x1)), some (.int (x2)), some (.int (x14)), some (.int (r110)), some (.int (x113))] [] I112) ?_
              clear h; intro x113 I112 h
              refine r_iload 88 hC dX7_open_88 rfl ?_
              refine r_sipush 90 (v := 134) hC dX7_open_90 (by decide) ?_
              refine r_icmp_ge 93 114 hC dX7_open_93 (by decide) (fun hc => ?_) (fun hc => ?_)
              · replace h := h.1 hc
                refine r_aload_n 114 hC dX7_open_114 rfl rfl ?_
                refine r_getR7 115 (r1 := q0 + 1) hC hk0 1 (by decide) tw_1180 rfl rfl dX7_open_115 ?_
                refine r_iload_n 118 hC dX7_open_118 rfl rfl ?_
                refine r_iconst 119 (v := 0) hC dX7_open_119 (by decide) ?_
                refine r_callS_i 120 (n := 2) [.int (x14), .int (0)] [.ref (q0 + 1)] hC dX7_open_120 (by decide) (by decide) tw_1446 tw_135 ⟨by decide, by decide, by decide +kernel⟩ tw_1444 tw_1445 rfl rfl (sX7_of (l := pm_l X) hG (x14) (0) _ _ h) hab (Nat.le_of_ble_eq_true rfl) ?_
                clear h; intro r115 I114 h
                refine r_iconst 123 (v := 1) hC dX7_open_123 (by decide) ?_
                refine r_iast 124 hC ((pm_s7 hG hk0).1) h.1 dX7_open_124 (fun I116 hI => ?_)
                replace h := h.2
                replace h := h I116 hI; clear hI
                refine r_aload_n 125 hC dX7_open_125 rfl rfl ?_
                refine r_getR7 126 (r1 := q0 + 1) hC hk0 1 (by decide) tw_1180 rfl rfl dX7_open_126 ?_
                refine r_iload_n 129 hC dX7_open_129 rfl rfl ?_
                refine r_iconst 130 (v := 1) hC dX7_open_130 (by decide) ?_
                refine r_callS_i 131 (n := 2) [.int (x14), .int (1)] [.ref (q0 + 1)] hC dX7_open_131 (by decide) (by decide) tw_1446 tw_135 ⟨by decide, by decide, by decide +kernel⟩ tw_1444 tw_1445 rfl rfl (sX7_of (l := pm_l X) hG (x14) (1) _ _ h) hab (Nat.le_of_ble_eq_true rfl) ?_
                clear h; intro r118 I117 h
                refine r_iload_n 134 hC dX7_open_134 rfl rfl ?_
                refine r_iast 135 hC ((pm_s7 hG hk0).1) h.1 dX7_open_135 (fun I119 hI => ?_)
                replace h := h.2
                replace h := h I119 hI; clear hI
                refine r_aload_n 136 hC dX7_open_136 rfl rfl ?_
                refine r_getR7 137 (r1 := q0 + 1) hC hk0 1 (by decide) tw_1180 rfl rfl dX7_open_137 ?_
                refine r_iload_n 140 hC dX7_open_140 rfl rfl ?_
                refine r_iconst 141 (v := 2) hC dX7_open_141 (by decide) ?_
                refine r_callS_i 142 (n := 2) [.int (x14), .int (2)] [.ref (q0 + 1)] hC dX7_open_142 (by decide) (by decide) tw_1446 tw_135 ⟨by decide, by decide, by decide +kernel⟩ tw_1444 tw_1445 rfl rfl (sX7_of (l := pm_l X) hG (x14) (2) _ _ h) hab (Nat.le_of_ble_eq_true rfl) ?_
                clear h; intro r121 I120 h
                refine r_iload_n 145 hC dX7_open_145 rfl rfl ?_
                refine r_iast 146 hC ((pm_s7 hG hk0).1) h.1 dX7_open_146 (fun I122 hI => ?_)
                replace h := h.2
                replace h := h I122 hI; clear hI
                refine r_aload_n 147 hC dX7_open_147 rfl rfl ?_
                refine r_getR7 148 (r1 := q0 + 1) hC hk0 1 (by decide) tw_1180 rfl rfl dX7_open_148 ?_
                refine r_iload_n 151 hC dX7_open_151 rfl rfl ?_
                refine r_iconst 152 (v := 3) hC dX7_open_152 (by decide) ?_
                refine r_callS_i 153 (n := 2) [.int (x14), .int (3)] [.ref (q0 + 1)] hC dX7_open_153 (by decide) (by decide) tw_1446 tw_135 ⟨by decide, by decide, by decide +kernel⟩ tw_1444 tw_1445 rfl rfl (sX7_of (l := pm_l X) hG (x14) (3) _ _ h) hab (Nat.le_of_ble_eq_true rfl) ?_
                clear h; intro r124 I123 h
                refine r_iload 156 hC dX7_open_156 rfl ?_
                refine r_iast 158 hC ((pm_s7 hG hk0).1) h.1 dX7_open_158 (fun I125 hI => ?_)
                replace h := h.2
                replace h := h I125 hI; clear hI
                refine r_aload_n 159 hC dX7_open_159 rfl rfl ?_
                refine r_getR7 160 (r1 := q0 + 1) hC hk0 1 (by decide) tw_1180 rfl rfl dX7_open_160 ?_
                refine r_iload_n 163 hC dX7_open_163 rfl rfl ?_
                refine r_iconst 164 (v := 4) hC dX7_open_164 (by decide) ?_
                refine r_callS_i 165 (n := 2) [.int (x14), .int (4)] [.ref (q0 + 1)] hC dX7_open_165 (by decide) (by decide) tw_1446 tw_135 ⟨by decide, by decide, by decide +kernel⟩ tw_1444 tw_1445 rfl rfl (sX7_of (l := pm_l X) hG (x14) (4) _ _ h) hab (Nat.le_of_ble_eq_true rfl) ?_
                clear h; intro r127 I126 h
                refine r_iconst 168 (v := -1) hC dX7_open_168 (by decide) ?_
                refine r_iast 169 hC ((pm_s7 hG hk0).1) h.1 dX7_open_169 (fun I128 hI => ?_)
                replace h := h.2
                replace h := h I128 hI; clear hI
                refine r_aload_n 170 hC dX7_open_170 rfl rfl ?_
                refine r_getR7 171 (r1 := q0 + 1) hC hk0 1 (by decide) tw_1180 rfl rfl dX7_open_171 ?_
                refine r_iload_n 174 hC dX7_open_174 rfl rfl ?_
                refine r_bipush 175 (v := 6) hC dX7_open_175 (by decide) ?_
                refine r_callS_i 177 (n := 2) [.int (x14), .int (6)] [.ref (q0 + 1)] hC dX7_open_177 (by decide) (by decide) tw_1446 tw_135 ⟨by decide, by decide, by decide +kernel⟩ tw_1444 tw_1445 rfl rfl (sX7_of (l := pm_l X) hG (x14) (6) _ _ h) hab (Nat.le_of_ble_eq_true rfl) ?_
                clear h; intro r130 I129 h
                refine r_aload_n 180 hC dX7_open_180 rfl rfl ?_
                refine r_getR7 181 (r1 := q0 + 1) hC hk0 1 (by decide) tw_1180 rfl rfl dX7_open_181 ?_
                refine r_iconst 184 (v := 0) hC dX7_open_184 (by decide) ?_
                refine r_iald 185 hC ((pm_s7 hG hk0).1) (by unfold vp_in; decide) dX7_open_185 ?_
                refine r_iast 186 hC ((pm_s7 hG hk0).1) h.1 dX7_open_186 (fun I131 hI => ?_)
                replace h := h.2
                replace h := h I131 hI; clear hI
                refine r_iload_n 187 hC dX7_open_187 rfl rfl ?_
                exact r_iret 188 hC hE rfl dX7_open_188 ⟨_, rfl, h⟩
              · replace h := h.2 hc
                refine r_aload_n 96 hC dX7_open_96 rfl rfl ?_
                refine r_getR7 97 (r1 := q0 + 1) hC hk0 1 (by decide) tw_1180 rfl rfl dX7_open_97 ?_
                refine r_iload_n 100 hC dX7_open_100 rfl rfl ?_
                refine r_iload 101 hC dX7_open_101 rfl ?_
                refine r_callS_i 103 (n := 2) [.int (x14), .int (x113)] [.ref (q0 + 1)] hC dX7_open_103 (by decide) (by decide) tw_1446 tw_135 ⟨by decide, by decide, by decide +kernel⟩ tw_1444 tw_1445 rfl rfl (sX7_of (l := pm_l X) hG (x14) (x113) _ _ h) hab (Nat.le_of_ble_eq_true rfl) ?_
                clear h; intro r133 I132 h
                refine r_iconst 106 (v := 0) hC dX7_open_106 (by decide) ?_
                refine r_iast 107 hC ((pm_s7 hG hk0).1) h.1 dX7_open_107 (fun I134 hI => ?_)
                replace h := h.2
                replace h := h I134 hI; clear hI
                refine r_iinc 108 (v := x113 + 1) [some (.ref (q0)), some (.int (x1)), some (.int (x2)), some (.int (x14)), some (.int (r110)), some (.int (x113 + 1))] hC dX7_open_108 rfl (by rfl) (by decide) rfl ?_
                refine r_goto 111 88 hC dX7_open_111 (by decide) ?_
                exact h
            · replace h := h.2 hc
              refine r_iconst 71 (v := 0) hC dX7_open_71 (by decide) ?_
              exact r_iret 72 hC hE rfl dX7_open_72 ⟨_, rfl, h⟩
    · replace h := h.2 hc
      refine r_aload_n 19 hC dX7_open_19 rfl rfl ?_
      refine r_iload_n 20 hC dX7_open_20 rfl rfl ?_
      refine r_callV_i 21 (n := 1) [.int (x14)] [] hC hk0 rfl dX7_open_21 (by decide) (by decide) tw_1443 tw_135 ⟨by decide, by decide, by decide +kernel⟩ tw_1440 tw_1442 tw_106 rfl rfl (sX7_isOpen (l := pm_l X) hG (q0) (x14) _ _ hk0 h) hab (Nat.le_of_ble_eq_true rfl) ?_
      clear h; intro r136 I135 h
      refine r_if_eq 24 33 hC dX7_open_24 (by decide) (fun hc => ?_) (fun hc => ?_)
      · replace h := h.1 hc
        refine r_aload_n 33 hC dX7_open_33 rfl rfl ?_
        refine r_aload_n 34 hC dX7_open_34 rfl rfl ?_
        refine r_iload_n 35 hC dX7_open_35 rfl rfl ?_
        refine r_iload_n 36 hC dX7_open_36 rfl rfl ?_
        refine r_callV_i 37 (n := 2) [.int (x1), .int (x2)] [.ref (q0)] hC hk0 rfl dX7_open_37 (by decide) (by decide) tw_1411 tw_135 ⟨by decide, by decide, by decide +kernel⟩ tw_1408 tw_1410 tw_102 rfl rfl (sX7_areKnown (l := pm_l X) hG (q0) (x1) (x2) _ _ hk0 h) hab (Nat.le_of_ble_eq_true rfl) ?_
        clear h; intro r138 I137 h
        refine r_if_eq 40 59 hC dX7_open_40 (by decide) (fun hc => ?_) (fun hc => ?_)
        · replace h := h.1 hc
          refine r_iconst 59 (v := 1) hC dX7_open_59 (by decide) ?_
          refine r_goto 60 64 hC dX7_open_60 (by decide) ?_
          refine r_iconst 64 (v := 3) hC dX7_open_64 (by decide) ?_
          refine r_callV_i 65 (n := 2) [.int (1), .int (3)] [] hC hk0 rfl dX7_open_65 (by decide) (by decide) tw_1292 tw_135 ⟨by decide, by decide, by decide +kernel⟩ tw_1289 tw_1291 tw_81 rfl rfl (sX7_throwsIf (l := pm_l X) hG (q0) (1) (3) _ _ hk0 h) hab (Nat.le_of_ble_eq_true rfl) ?_
          clear h; intro r140 I139 h
          refine r_if_eq 68 73 hC dX7_open_68 (by decide) (fun hc => ?_) (fun hc => ?_)
          · replace h := h.1 hc
            refine r_aload_n 73 hC dX7_open_73 rfl rfl ?_
            refine r_callV_v 74 (n := 0) [] [] hC hk0 rfl dX7_open_74 (by decide) (by decide) tw_1591 tw_135 ⟨by decide, by decide, by decide +kernel⟩ tw_1588 tw_1590 tw_124 rfl rfl (sX7_keeps (l := pm_l X) hG (q0) _ _ hk0 h) hab (Nat.le_of_ble_eq_true rfl) ?_
            clear h; intro I141 h
            refine r_aload_n 77 hC dX7_open_77 rfl rfl ?_
            refine r_iload_n 78 hC dX7_open_78 rfl rfl ?_
            refine r_iload_n 79 hC dX7_open_79 rfl rfl ?_
            refine r_callV_i 80 (n := 2) [.int (x1), .int (x2)] [] hC hk0 rfl dX7_open_80 (by decide) (by decide) tw_1454 tw_135 ⟨by decide, by decide, by decide +kernel⟩ tw_1451 tw_1453 tw_107 rfl rfl (sX7_bestFor (l := pm_l X) hG (q0) (x1) (x2) _ _ hk0 h) hab (Nat.le_of_ble_eq_true rfl) ?_
            clear h; intro r143 I142 h
            refine r_istore 83 [some (.ref (q0)), some (.int (x1)), some (.int (x2)), some (.int (x14)), some (.int (r143)), none] hC dX7_open_83 (by decide) rfl ?_
            refine r_iconst 85 (v := 0) hC dX7_open_85 (by decide) ?_
            refine r_istore 86 [some (.ref (q0)), some (.int (x1)), some (.int (x2)), some (.int (x14)), some (.int (r143)), some (.int (0))] hC dX7_open_86 (by decide) rfl ?_
            refine h (fun x146 I145 => pm_R G X 6 0 0 88 [some (.ref (q0)), some (.int (x1)), some (.int (x2)), some (.int (x14)), some (.int (r143)), some (.int (x146))] [] I145) ?_
            clear h; intro x146 I145 h
            refine r_iload 88 hC dX7_open_88 rfl ?_
            refine r_sipush 90 (v := 134) hC dX7_open_90 (by decide) ?_
            refine r_icmp_ge 93 114 hC dX7_open_93 (by decide) (fun hc => ?_) (fun hc => ?_)
            · replace h := h.1 hc
              refine r_aload_n 114 hC dX7_open_114 rfl rfl ?_
              refine r_getR7 115 (r1 := q0 + 1) hC hk0 1 (by decide) tw_1180 rfl rfl dX7_open_115 ?_
              refine r_iload_n 118 hC dX7_open_118 rfl rfl ?_
              refine r_iconst 119 (v := 0) hC dX7_open_119 (by decide) ?_
              refine r_callS_i 120 (n := 2) [.int (x14), .int (0)] [.ref (q0 + 1)] hC dX7_open_120 (by decide) (by decide) tw_1446 tw_135 ⟨by decide, by decide, by decide +kernel⟩ tw_1444 tw_1445 rfl rfl (sX7_of (l := pm_l X) hG (x14) (0) _ _ h) hab (Nat.le_of_ble_eq_true rfl) ?_
              clear h; intro r148 I147 h
              refine r_iconst 123 (v := 1) hC dX7_open_123 (by decide) ?_
              refine r_iast 124 hC ((pm_s7 hG hk0).1) h.1 dX7_open_124 (fun I149 hI => ?_)
              replace h := h.2
              replace h := h I149 hI; clear hI
              refine r_aload_n 125 hC dX7_open_125 rfl rfl ?_
              refine r_getR7 126 (r1 := q0 + 1) hC hk0 1 (by decide) tw_1180 rfl rfl dX7_open_126 ?_
              refine r_iload_n 129 hC dX7_open_129 rfl rfl ?_
              refine r_iconst 130 (v := 1) hC dX7_open_130 (by decide) ?_
              refine r_callS_i 131 (n := 2) [.int (x14), .int (1)] [.ref (q0 + 1)] hC dX7_open_131 (by decide) (by decide) tw_1446 tw_135 ⟨by decide, by decide, by decide +kernel⟩ tw_1444 tw_1445 rfl rfl (sX7_of (l := pm_l X) hG (x14) (1) _ _ h) hab (Nat.le_of_ble_eq_true rfl) ?_
              clear h; intro r151 I150 h
              refine r_iload_n 134 hC dX7_open_134 rfl rfl ?_
              refine r_iast 135 hC ((pm_s7 hG hk0).1) h.1 dX7_open_135 (fun I152 hI => ?_)
              replace h := h.2
              replace h := h I152 hI; clear hI
              refine r_aload_n 136 hC dX7_open_136 rfl rfl ?_
              refine r_getR7 137 (r1 := q0 + 1) hC hk0 1 (by decide) tw_1180 rfl rfl dX7_open_137 ?_
              refine r_iload_n 140 hC dX7_open_140 rfl rfl ?_
              refine r_iconst 141 (v := 2) hC dX7_open_141 (by decide) ?_
              refine r_callS_i 142 (n := 2) [.int (x14), .int (2)] [.ref (q0 + 1)] hC dX7_open_142 (by decide) (by decide) tw_1446 tw_135 ⟨by decide, by decide, by decide +kernel⟩ tw_1444 tw_1445 rfl rfl (sX7_of (l := pm_l X) hG (x14) (2) _ _ h) hab (Nat.le_of_ble_eq_true rfl) ?_
              clear h; intro r154 I153 h
              refine r_iload_n 145 hC dX7_open_145 rfl rfl ?_
              refine r_iast 146 hC ((pm_s7 hG hk0).1) h.1 dX7_open_146 (fun I155 hI => ?_)
              replace h := h.2
              replace h := h I155 hI; clear hI
              refine r_aload_n 147 hC dX7_open_147 rfl rfl ?_
              refine r_getR7 148 (r1 := q0 + 1) hC hk0 1 (by decide) tw_1180 rfl rfl dX7_open_148 ?_
              refine r_iload_n 151 hC dX7_open_151 rfl rfl ?_
              refine r_iconst 152 (v := 3) hC dX7_open_152 (by decide) ?_
              refine r_callS_i 153 (n := 2) [.int (x14), .int (3)] [.ref (q0 + 1)] hC dX7_open_153 (by decide) (by decide) tw_1446 tw_135 ⟨by decide, by decide, by decide +kernel⟩ tw_1444 tw_1445 rfl rfl (sX7_of (l := pm_l X) hG (x14) (3) _ _ h) hab (Nat.le_of_ble_eq_true rfl) ?_
              clear h; intro r157 I156 h
              refine r_iload 156 hC dX7_open_156 rfl ?_
              refine r_iast 158 hC ((pm_s7 hG hk0).1) h.1 dX7_open_158 (fun I158 hI => ?_)
              replace h := h.2
              replace h := h I158 hI; clear hI
              refine r_aload_n 159 hC dX7_open_159 rfl rfl ?_
              refine r_getR7 160 (r1 := q0 + 1) hC hk0 1 (by decide) tw_1180 rfl rfl dX7_open_160 ?_
              refine r_iload_n 163 hC dX7_open_163 rfl rfl ?_
              refine r_iconst 164 (v := 4) hC dX7_open_164 (by decide) ?_
              refine r_callS_i 165 (n := 2) [.int (x14), .int (4)] [.ref (q0 + 1)] hC dX7_open_165 (by decide) (by decide) tw_1446 tw_135 ⟨by decide, by decide, by decide +kernel⟩ tw_1444 tw_1445 rfl rfl (sX7_of (l := pm_l X) hG (x14) (4) _ _ h) hab (Nat.le_of_ble_eq_true rfl) ?_
              clear h; intro r160 I159 h
              refine r_iconst 168 (v := -1) hC dX7_open_168 (by decide) ?_
              refine r_iast 169 hC ((pm_s7 hG hk0).1) h.1 dX7_open_169 (fun I161 hI => ?_)
              replace h := h.2
              replace h := h I161 hI; clear hI
              refine r_aload_n 170 hC dX7_open_170 rfl rfl ?_
              refine r_getR7 171 (r1 := q0 + 1) hC hk0 1 (by decide) tw_1180 rfl rfl dX7_open_171 ?_
              refine r_iload_n 174 hC dX7_open_174 rfl rfl ?_
              refine r_bipush 175 (v := 6) hC dX7_open_175 (by decide) ?_
              refine r_callS_i 177 (n := 2) [.int (x14), .int (6)] [.ref (q0 + 1)] hC dX7_open_177 (by decide) (by decide) tw_1446 tw_135 ⟨by decide, by decide, by decide +kernel⟩ tw_1444 tw_1445 rfl rfl (sX7_of (l := pm_l X) hG (x14) (6) _ _ h) hab (Nat.le_of_ble_eq_true rfl) ?_
              clear h; intro r163 I162 h
              refine r_aload_n 180 hC dX7_open_180 rfl rfl ?_
              refine r_getR7 181 (r1 := q0 + 1) hC hk0 1 (by decide) tw_1180 rfl rfl dX7_open_181 ?_
              refine r_iconst 184 (v := 0) hC dX7_open_184 (by decide) ?_
              refine r_iald 185 hC ((pm_s7 hG hk0).1) (by unfold vp_in; decide) dX7_open_185 ?_
              refine r_iast 186 hC ((pm_s7 hG hk0).1) h.1 dX7_open_186 (fun I164 hI => ?_)
              replace h := h.2
              replace h := h I164 hI; clear hI
              refine r_iload_n 187 hC dX7_open_187 rfl rfl ?_
              exact r_iret 188 hC hE rfl dX7_open_188 ⟨_, rfl, h⟩
            · replace h := h.2 hc
              refine r_aload_n 96 hC dX7_open_96 rfl rfl ?_
              refine r_getR7 97 (r1 := q0 + 1) hC hk0 1 (by decide) tw_1180 rfl rfl dX7_open_97 ?_
              refine r_iload_n 100 hC dX7_open_100 rfl rfl ?_
              refine r_iload 101 hC dX7_open_101 rfl ?_
              refine r_callS_i 103 (n := 2) [.int (x14), .int (x146)] [.ref (q0 + 1)] hC dX7_open_103 (by decide) (by decide) tw_1446 tw_135 ⟨by decide, by decide, by decide +kernel⟩ tw_1444 tw_1445 rfl rfl (sX7_of (l := pm_l X) hG (x14) (x146) _ _ h) hab (Nat.le_of_ble_eq_true rfl) ?_
              clear h; intro r166 I165 h
              refine r_iconst 106 (v := 0) hC dX7_open_106 (by decide) ?_
              refine r_iast 107 hC ((pm_s7 hG hk0).1) h.1 dX7_open_107 (fun I167 hI => ?_)
              replace h := h.2
              replace h := h I167 hI; clear hI
              refine r_iinc 108 (v := x146 + 1) [some (.ref (q0)), some (.int (x1)), some (.int (x2)), some (.int (x14)), some (.int (r143)), some (.int (x146 + 1))] hC dX7_open_108 rfl (by rfl) (by decide) rfl ?_
              refine r_goto 111 88 hC dX7_open_111 (by decide) ?_
              exact h
          · replace h := h.2 hc
            refine r_iconst 71 (v := 0) hC dX7_open_71 (by decide) ?_
            exact r_iret 72 hC hE rfl dX7_open_72 ⟨_, rfl, h⟩
        · replace h := h.2 hc
          refine r_aload_n 43 hC dX7_open_43 rfl rfl ?_
          refine r_iload_n 44 hC dX7_open_44 rfl rfl ?_
          refine r_iload_n 45 hC dX7_open_45 rfl rfl ?_
          refine r_callV_i 46 (n := 2) [.int (x1), .int (x2)] [.ref (q0)] hC hk0 rfl dX7_open_46 (by decide) (by decide) tw_1485 tw_135 ⟨by decide, by decide, by decide +kernel⟩ tw_1482 tw_1484 tw_111 rfl rfl (sX7_sessionOf (l := pm_l X) hG (q0) (x1) (x2) _ _ hk0 h) hab (Nat.le_of_ble_eq_true rfl) ?_
          clear h; intro r169 I168 h
          refine r_iconst 49 (v := -1) hC dX7_open_49 (by decide) ?_
          refine r_icmp_ne 50 59 hC dX7_open_50 (by decide) (fun hc => ?_) (fun hc => ?_)
          · replace h := h.1 hc
            refine r_iconst 59 (v := 1) hC dX7_open_59 (by decide) ?_
            refine r_goto 60 64 hC dX7_open_60 (by decide) ?_
            refine r_iconst 64 (v := 3) hC dX7_open_64 (by decide) ?_
            refine r_callV_i 65 (n := 2) [.int (1), .int (3)] [] hC hk0 rfl dX7_open_65 (by decide) (by decide) tw_1292 tw_135 ⟨by decide, by decide, by decide +kernel⟩ tw_1289 tw_1291 tw_81 rfl rfl (sX7_throwsIf (l := pm_l X) hG (q0) (1) (3) _ _ hk0 h) hab (Nat.le_of_ble_eq_true rfl) ?_
            clear h; intro r171 I170 h
            refine r_if_eq 68 73 hC dX7_open_68 (by decide) (fun hc => ?_) (fun hc => ?_)
            · replace h := h.1 hc
              refine r_aload_n 73 hC dX7_open_73 rfl rfl ?_
              refine r_callV_v 74 (n := 0) [] [] hC hk0 rfl dX7_open_74 (by decide) (by decide) tw_1591 tw_135 ⟨by decide, by decide, by decide +kernel⟩ tw_1588 tw_1590 tw_124 rfl rfl (sX7_keeps (l := pm_l X) hG (q0) _ _ hk0 h) hab (Nat.le_of_ble_eq_true rfl) ?_
              clear h; intro I172 h
              refine r_aload_n 77 hC dX7_open_77 rfl rfl ?_
              refine r_iload_n 78 hC dX7_open_78 rfl rfl ?_
              refine r_iload_n 79 hC dX7_open_79 rfl rfl ?_
              refine r_callV_i 80 (n := 2) [.int (x1), .int (x2)] [] hC hk0 rfl dX7_open_80 (by decide) (by decide) tw_1454 tw_135 ⟨by decide, by decide, by decide +kernel⟩ tw_1451 tw_1453 tw_107 rfl rfl (sX7_bestFor (l := pm_l X) hG (q0) (x1) (x2) _ _ hk0 h) hab (Nat.le_of_ble_eq_true rfl) ?_
              clear h; intro r174 I173 h
              refine r_istore 83 [some (.ref (q0)), some (.int (x1)), some (.int (x2)), some (.int (x14)), some (.int (r174)), none] hC dX7_open_83 (by decide) rfl ?_
              refine r_iconst 85 (v := 0) hC dX7_open_85 (by decide) ?_
              refine r_istore 86 [some (.ref (q0)), some (.int (x1)), some (.int (x2)), some (.int (x14)), some (.int (r174)), some (.int (0))] hC dX7_open_86 (by decide) rfl ?_
              refine h (fun x177 I176 => pm_R G X 6 0 0 88 [some (.ref (q0)), some (.int (x1)), some (.int (x2)), some (.int (x14)), some (.int (r174)), some (.int (x177))] [] I176) ?_
              clear h; intro x177 I176 h
              refine r_iload 88 hC dX7_open_88 rfl ?_
              refine r_sipush 90 (v := 134) hC dX7_open_90 (by decide) ?_
              refine r_icmp_ge 93 114 hC dX7_open_93 (by decide) (fun hc => ?_) (fun hc => ?_)
              · replace h := h.1 hc
                refine r_aload_n 114 hC dX7_open_114 rfl rfl ?_
                refine r_getR7 115 (r1 := q0 + 1) hC hk0 1 (by decide) tw_1180 rfl rfl dX7_open_115 ?_
                refine r_iload_n 118 hC dX7_open_118 rfl rfl ?_
                refine r_iconst 119 (v := 0) hC dX7_open_119 (by decide) ?_
                refine r_callS_i 120 (n := 2) [.int (x14), .int (0)] [.ref (q0 + 1)] hC dX7_open_120 (by decide) (by decide) tw_1446 tw_135 ⟨by decide, by decide, by decide +kernel⟩ tw_1444 tw_1445 rfl rfl (sX7_of (l := pm_l X) hG (x14) (0) _ _ h) hab (Nat.le_of_ble_eq_true rfl) ?_
                clear h; intro r179 I178 h
                refine r_iconst 123 (v := 1) hC dX7_open_123 (by decide) ?_
                refine r_iast 124 hC ((pm_s7 hG hk0).1) h.1 dX7_open_124 (fun I180 hI => ?_)
                replace h := h.2
                replace h := h I180 hI; clear hI
                refine r_aload_n 125 hC dX7_open_125 rfl rfl ?_
                refine r_getR7 126 (r1 := q0 + 1) hC hk0 1 (by decide) tw_1180 rfl rfl dX7_open_126 ?_
                refine r_iload_n 129 hC dX7_open_129 rfl rfl ?_
                refine r_iconst 130 (v := 1) hC dX7_open_130 (by decide) ?_
                refine r_callS_i 131 (n := 2) [.int (x14), .int (1)] [.ref (q0 + 1)] hC dX7_open_131 (by decide) (by decide) tw_1446 tw_135 ⟨by decide, by decide, by decide +kernel⟩ tw_1444 tw_1445 rfl rfl (sX7_of (l := pm_l X) hG (x14) (1) _ _ h) hab (Nat.le_of_ble_eq_true rfl) ?_
                clear h; intro r182 I181 h
                refine r_iload_n 134 hC dX7_open_134 rfl rfl ?_
                refine r_iast 135 hC ((pm_s7 hG hk0).1) h.1 dX7_open_135 (fun I183 hI => ?_)
                replace h := h.2
                replace h := h I183 hI; clear hI
                refine r_aload_n 136 hC dX7_open_136 rfl rfl ?_
                refine r_getR7 137 (r1 := q0 + 1) hC hk0 1 (by decide) tw_1180 rfl rfl dX7_open_137 ?_
                refine r_iload_n 140 hC dX7_open_140 rfl rfl ?_
                refine r_iconst 141 (v := 2) hC dX7_open_141 (by decide) ?_
                refine r_callS_i 142 (n := 2) [.int (x14), .int (2)] [.ref (q0 + 1)] hC dX7_open_142 (by decide) (by decide) tw_1446 tw_135 ⟨by decide, by decide, by decide +kernel⟩ tw_1444 tw_1445 rfl rfl (sX7_of (l := pm_l X) hG (x14) (2) _ _ h) hab (Nat.le_of_ble_eq_true rfl) ?_
                clear h; intro r185 I184 h
                refine r_iload_n 145 hC dX7_open_145 rfl rfl ?_
                refine r_iast 146 hC ((pm_s7 hG hk0).1) h.1 dX7_open_146 (fun I186 hI => ?_)
                replace h := h.2
                replace h := h I186 hI; clear hI
                refine r_aload_n 147 hC dX7_open_147 rfl rfl ?_
                refine r_getR7 148 (r1 := q0 + 1) hC hk0 1 (by decide) tw_1180 rfl rfl dX7_open_148 ?_
                refine r_iload_n 151 hC dX7_open_151 rfl rfl ?_
                refine r_iconst 152 (v := 3) hC dX7_open_152 (by decide) ?_
                refine r_callS_i 153 (n := 2) [.int (x14), .int (3)] [.ref (q0 + 1)] hC dX7_open_153 (by decide) (by decide) tw_1446 tw_135 ⟨by decide, by decide, by decide +kernel⟩ tw_1444 tw_1445 rfl rfl (sX7_of (l := pm_l X) hG (x14) (3) _ _ h) hab (Nat.le_of_ble_eq_true rfl) ?_
                clear h; intro r188 I187 h
                refine r_iload 156 hC dX7_open_156 rfl ?_
                refine r_iast 158 hC ((pm_s7 hG hk0).1) h.1 dX7_open_158 (fun I189 hI => ?_)
                replace h := h.2
                replace h := h I189 hI; clear hI
                refine r_aload_n 159 hC dX7_open_159 rfl rfl ?_
                refine r_getR7 160 (r1 := q0 + 1) hC hk0 1 (by decide) tw_1180 rfl rfl dX7_open_160 ?_
                refine r_iload_n 163 hC dX7_open_163 rfl rfl ?_
                refine r_iconst 164 (v := 4) hC dX7_open_164 (by decide) ?_
                refine r_callS_i 165 (n := 2) [.int (x14), .int (4)] [.ref (q0 + 1)] hC dX7_open_165 (by decide) (by decide) tw_1446 tw_135 ⟨by decide, by decide, by decide +kernel⟩ tw_1444 tw_1445 rfl rfl (sX7_of (l := pm_l X) hG (x14) (4) _ _ h) hab (Nat.le_of_ble_eq_true rfl) ?_
                clear h; intro r191 I190 h
                refine r_iconst 168 (v := -1) hC dX7_open_168 (by decide) ?_
                refine r_iast 169 hC ((pm_s7 hG hk0).1) h.1 dX7_open_169 (fun I192 hI => ?_)
                replace h := h.2
                replace h := h I192 hI; clear hI
                refine r_aload_n 170 hC dX7_open_170 rfl rfl ?_
                refine r_getR7 171 (r1 := q0 + 1) hC hk0 1 (by decide) tw_1180 rfl rfl dX7_open_171 ?_
                refine r_iload_n 174 hC dX7_open_174 rfl rfl ?_
                refine r_bipush 175 (v := 6) hC dX7_open_175 (by decide) ?_
                refine r_callS_i 177 (n := 2) [.int (x14), .int (6)] [.ref (q0 + 1)] hC dX7_open_177 (by decide) (by decide) tw_1446 tw_135 ⟨by decide, by decide, by decide +kernel⟩ tw_1444 tw_1445 rfl rfl (sX7_of (l := pm_l X) hG (x14) (6) _ _ h) hab (Nat.le_of_ble_eq_true rfl) ?_
                clear h; intro r194 I193 h
                refine r_aload_n 180 hC dX7_open_180 rfl rfl ?_
                refine r_getR7 181 (r1 := q0 + 1) hC hk0 1 (by decide) tw_1180 rfl rfl dX7_open_181 ?_
                refine r_iconst 184 (v := 0) hC dX7_open_184 (by decide) ?_
                refine r_iald 185 hC ((pm_s7 hG hk0).1) (by unfold vp_in; decide) dX7_open_185 ?_
                refine r_iast 186 hC ((pm_s7 hG hk0).1) h.1 dX7_open_186 (fun I195 hI => ?_)
                replace h := h.2
                replace h := h I195 hI; clear hI
                refine r_iload_n 187 hC dX7_open_187 rfl rfl ?_
                exact r_iret 188 hC hE rfl dX7_open_188 ⟨_, rfl, h⟩
              · replace h := h.2 hc
                refine r_aload_n 96 hC dX7_open_96 rfl rfl ?_
                refine r_getR7 97 (r1 := q0 + 1) hC hk0 1 (by decide) tw_1180 rfl rfl dX7_open_97 ?_
                refine r_iload_n 100 hC dX7_open_100 rfl rfl ?_
                refine r_iload 101 hC dX7_open_101 rfl ?_
                refine r_callS_i 103 (n := 2) [.int (x14), .int (x177)] [.ref (q0 + 1)] hC dX7_open_103 (by decide) (by decide) tw_1446 tw_135 ⟨by decide, by decide, by decide +kernel⟩ tw_1444 tw_1445 rfl rfl (sX7_of (l := pm_l X) hG (x14) (x177) _ _ h) hab (Nat.le_of_ble_eq_true rfl) ?_
                clear h; intro r197 I196 h
                refine r_iconst 106 (v := 0) hC dX7_open_106 (by decide) ?_
                refine r_iast 107 hC ((pm_s7 hG hk0).1) h.1 dX7_open_107 (fun I198 hI => ?_)
                replace h := h.2
                replace h := h I198 hI; clear hI
                refine r_iinc 108 (v := x177 + 1) [some (.ref (q0)), some (.int (x1)), some (.int (x2)), some (.int (x14)), some (.int (r174)), some (.int (x177 + 1))] hC dX7_open_108 rfl (by rfl) (by decide) rfl ?_
                refine r_goto 111 88 hC dX7_open_111 (by decide) ?_
                exact h
            · replace h := h.2 hc
              refine r_iconst 71 (v := 0) hC dX7_open_71 (by decide) ?_
              exact r_iret 72 hC hE rfl dX7_open_72 ⟨_, rfl, h⟩
          · replace h := h.2 hc
            refine r_iload_n 53 hC dX7_open_53 rfl rfl ?_
            refine r_bipush 54 (v := 6) hC dX7_open_54 (by decide) ?_
            refine r_icmp_ne 56 63 hC dX7_open_56 (by decide) (fun hc => ?_) (fun hc => ?_)
            · replace h := h.1 hc
              refine r_iconst 63 (v := 0) hC dX7_open_63 (by decide) ?_
              refine r_iconst 64 (v := 3) hC dX7_open_64 (by decide) ?_
              refine r_callV_i 65 (n := 2) [.int (0), .int (3)] [] hC hk0 rfl dX7_open_65 (by decide) (by decide) tw_1292 tw_135 ⟨by decide, by decide, by decide +kernel⟩ tw_1289 tw_1291 tw_81 rfl rfl (sX7_throwsIf (l := pm_l X) hG (q0) (0) (3) _ _ hk0 h) hab (Nat.le_of_ble_eq_true rfl) ?_
              clear h; intro r200 I199 h
              refine r_if_eq 68 73 hC dX7_open_68 (by decide) (fun hc => ?_) (fun hc => ?_)
              · replace h := h.1 hc
                refine r_aload_n 73 hC dX7_open_73 rfl rfl ?_
                refine r_callV_v 74 (n := 0) [] [] hC hk0 rfl dX7_open_74 (by decide) (by decide) tw_1591 tw_135 ⟨by decide, by decide, by decide +kernel⟩ tw_1588 tw_1590 tw_124 rfl rfl (sX7_keeps (l := pm_l X) hG (q0) _ _ hk0 h) hab (Nat.le_of_ble_eq_true rfl) ?_
                clear h; intro I201 h
                refine r_aload_n 77 hC dX7_open_77 rfl rfl ?_
                refine r_iload_n 78 hC dX7_open_78 rfl rfl ?_
                refine r_iload_n 79 hC dX7_open_79 rfl rfl ?_
                refine r_callV_i 80 (n := 2) [.int (x1), .int (x2)] [] hC hk0 rfl dX7_open_80 (by decide) (by decide) tw_1454 tw_135 ⟨by decide, by decide, by decide +kernel⟩ tw_1451 tw_1453 tw_107 rfl rfl (sX7_bestFor (l := pm_l X) hG (q0) (x1) (x2) _ _ hk0 h) hab (Nat.le_of_ble_eq_true rfl) ?_
                clear h; intro r203 I202 h
                refine r_istore 83 [some (.ref (q0)), some (.int (x1)), some (.int (x2)), some (.int (x14)), some (.int (r203)), none] hC dX7_open_83 (by decide) rfl ?_
                refine r_iconst 85 (v := 0) hC dX7_open_85 (by decide) ?_
                refine r_istore 86 [some (.ref (q0)), some (.int (x1)), some (.int (x2)), some (.int (x14)), some (.int (r203)), some (.int (0))] hC dX7_open_86 (by decide) rfl ?_
                refine h (fun x206 I205 => pm_R G X 6 0 0 88 [some (.ref (q0)), some (.int (x1)), some (.int (x2)), some (.int (x14)), some (.int (r203)), some (.int (x206))] [] I205) ?_
                clear h; intro x206 I205 h
                refine r_iload 88 hC dX7_open_88 rfl ?_
                refine r_sipush 90 (v := 134) hC dX7_open_90 (by decide) ?_
                refine r_icmp_ge 93 114 hC dX7_open_93 (by decide) (fun hc => ?_) (fun hc => ?_)
                · replace h := h.1 hc
                  refine r_aload_n 114 hC dX7_open_114 rfl rfl ?_
                  refine r_getR7 115 (r1 := q0 + 1) hC hk0 1 (by decide) tw_1180 rfl rfl dX7_open_115 ?_
                  refine r_iload_n 118 hC dX7_open_118 rfl rfl ?_
                  refine r_iconst 119 (v := 0) hC dX7_open_119 (by decide) ?_
                  refine r_callS_i 120 (n := 2) [.int (x14), .int (0)] [.ref (q0 + 1)] hC dX7_open_120 (by decide) (by decide) tw_1446 tw_135 ⟨by decide, by decide, by decide +kernel⟩ tw_1444 tw_1445 rfl rfl (sX7_of (l := pm_l X) hG (x14) (0) _ _ h) hab (Nat.le_of_ble_eq_true rfl) ?_
                  clear h; intro r208 I207 h
                  refine r_iconst 123 (v := 1) hC dX7_open_123 (by decide) ?_
                  refine r_iast 124 hC ((pm_s7 hG hk0).1) h.1 dX7_open_124 (fun I209 hI => ?_)
                  replace h := h.2
                  replace h := h I209 hI; clear hI
                  refine r_aload_n 125 hC dX7_open_125 rfl rfl ?_
                  refine r_getR7 126 (r1 := q0 + 1) hC hk0 1 (by decide) tw_1180 rfl rfl dX7_open_126 ?_
                  refine r_iload_n 129 hC dX7_open_129 rfl rfl ?_
                  refine r_iconst 130 (v := 1) hC dX7_open_130 (by decide) ?_
                  refine r_callS_i 131 (n := 2) [.int (x14), .int (1)] [.ref (q0 + 1)] hC dX7_open_131 (by decide) (by decide) tw_1446 tw_135 ⟨by decide, by decide, by decide +kernel⟩ tw_1444 tw_1445 rfl rfl (sX7_of (l := pm_l X) hG (x14) (1) _ _ h) hab (Nat.le_of_ble_eq_true rfl) ?_
                  clear h; intro r211 I210 h
                  refine r_iload_n 134 hC dX7_open_134 rfl rfl ?_
                  refine r_iast 135 hC ((pm_s7 hG hk0).1) h.1 dX7_open_135 (fun I212 hI => ?_)
                  replace h := h.2
                  replace h := h I212 hI; clear hI
                  refine r_aload_n 136 hC dX7_open_136 rfl rfl ?_
                  refine r_getR7 137 (r1 := q0 + 1) hC hk0 1 (by decide) tw_1180 rfl rfl dX7_open_137 ?_
                  refine r_iload_n 140 hC dX7_open_140 rfl rfl ?_
                  refine r_iconst 141 (v := 2) hC dX7_open_141 (by decide) ?_
                  refine r_callS_i 142 (n := 2) [.int (x14), .int (2)] [.ref (q0 + 1)] hC dX7_open_142 (by decide) (by decide) tw_1446 tw_135 ⟨by decide, by decide, by decide +kernel⟩ tw_1444 tw_1445 rfl rfl (sX7_of (l := pm_l X) hG (x14) (2) _ _ h) hab (Nat.le_of_ble_eq_true rfl) ?_
                  clear h; intro r214 I213 h
                  refine r_iload_n 145 hC dX7_open_145 rfl rfl ?_
                  refine r_iast 146 hC ((pm_s7 hG hk0).1) h.1 dX7_open_146 (fun I215 hI => ?_)
                  replace h := h.2
                  replace h := h I215 hI; clear hI
                  refine r_aload_n 147 hC dX7_open_147 rfl rfl ?_
                  refine r_getR7 148 (r1 := q0 + 1) hC hk0 1 (by decide) tw_1180 rfl rfl dX7_open_148 ?_
                  refine r_iload_n 151 hC dX7_open_151 rfl rfl ?_
                  refine r_iconst 152 (v := 3) hC dX7_open_152 (by decide) ?_
                  refine r_callS_i 153 (n := 2) [.int (x14), .int (3)] [.ref (q0 + 1)] hC dX7_open_153 (by decide) (by decide) tw_1446 tw_135 ⟨by decide, by decide, by decide +kernel⟩ tw_1444 tw_1445 rfl rfl (sX7_of (l := pm_l X) hG (x14) (3) _ _ h) hab (Nat.le_of_ble_eq_true rfl) ?_
                  clear h; intro r217 I216 h
                  refine r_iload 156 hC dX7_open_156 rfl ?_
                  refine r_iast 158 hC ((pm_s7 hG hk0).1) h.1 dX7_open_158 (fun I218 hI => ?_)
                  replace h := h.2
                  replace h := h I218 hI; clear hI
                  refine r_aload_n 159 hC dX7_open_159 rfl rfl ?_
                  refine r_getR7 160 (r1 := q0 + 1) hC hk0 1 (by decide) tw_1180 rfl rfl dX7_open_160 ?_
                  refine r_iload_n 163 hC dX7_open_163 rfl rfl ?_
                  refine r_iconst 164 (v := 4) hC dX7_open_164 (by decide) ?_
                  refine r_callS_i 165 (n := 2) [.int (x14), .int (4)] [.ref (q0 + 1)] hC dX7_open_165 (by decide) (by decide) tw_1446 tw_135 ⟨by decide, by decide, by decide +kernel⟩ tw_1444 tw_1445 rfl rfl (sX7_of (l := pm_l X) hG (x14) (4) _ _ h) hab (Nat.le_of_ble_eq_true rfl) ?_
                  clear h; intro r220 I219 h
                  refine r_iconst 168 (v := -1) hC dX7_open_168 (by decide) ?_
                  refine r_iast 169 hC ((pm_s7 hG hk0).1) h.1 dX7_open_169 (fun I221 hI => ?_)
                  replace h := h.2
                  replace h := h I221 hI; clear hI
                  refine r_aload_n 170 hC dX7_open_170 rfl rfl ?_
                  refine r_getR7 171 (r1 := q0 + 1) hC hk0 1 (by decide) tw_1180 rfl rfl dX7_open_171 ?_
                  refine r_iload_n 174 hC dX7_open_174 rfl rfl ?_
                  refine r_bipush 175 (v := 6) hC dX7_open_175 (by decide) ?_
                  refine r_callS_i 177 (n := 2) [.int (x14), .int (6)] [.ref (q0 + 1)] hC dX7_open_177 (by decide) (by decide) tw_1446 tw_135 ⟨by decide, by decide, by decide +kernel⟩ tw_1444 tw_1445 rfl rfl (sX7_of (l := pm_l X) hG (x14) (6) _ _ h) hab (Nat.le_of_ble_eq_true rfl) ?_
                  clear h; intro r223 I222 h
                  refine r_aload_n 180 hC dX7_open_180 rfl rfl ?_
                  refine r_getR7 181 (r1 := q0 + 1) hC hk0 1 (by decide) tw_1180 rfl rfl dX7_open_181 ?_
                  refine r_iconst 184 (v := 0) hC dX7_open_184 (by decide) ?_
                  refine r_iald 185 hC ((pm_s7 hG hk0).1) (by unfold vp_in; decide) dX7_open_185 ?_
                  refine r_iast 186 hC ((pm_s7 hG hk0).1) h.1 dX7_open_186 (fun I224 hI => ?_)
                  replace h := h.2
                  replace h := h I224 hI; clear hI
                  refine r_iload_n 187 hC dX7_open_187 rfl rfl ?_
                  exact r_iret 188 hC hE rfl dX7_open_188 ⟨_, rfl, h⟩
                · replace h := h.2 hc
                  refine r_aload_n 96 hC dX7_open_96 rfl rfl ?_
                  refine r_getR7 97 (r1 := q0 + 1) hC hk0 1 (by decide) tw_1180 rfl rfl dX7_open_97 ?_
                  refine r_iload_n 100 hC dX7_open_100 rfl rfl ?_
                  refine r_iload 101 hC dX7_open_101 rfl ?_
                  refine r_callS_i 103 (n := 2) [.int (x14), .int (x206)] [.ref (q0 + 1)] hC dX7_open_103 (by decide) (by decide) tw_1446 tw_135 ⟨by decide, by decide, by decide +kernel⟩ tw_1444 tw_1445 rfl rfl (sX7_of (l := pm_l X) hG (x14) (x206) _ _ h) hab (Nat.le_of_ble_eq_true rfl) ?_
                  clear h; intro r226 I225 h
                  refine r_iconst 106 (v := 0) hC dX7_open_106 (by decide) ?_
                  refine r_iast 107 hC ((pm_s7 hG hk0).1) h.1 dX7_open_107 (fun I227 hI => ?_)
                  replace h := h.2
                  replace h := h I227 hI; clear hI
                  refine r_iinc 108 (v := x206 + 1) [some (.ref (q0)), some (.int (x1)), some (.int (x2)), some (.int (x14)), some (.int (r203)), some (.int (x206 + 1))] hC dX7_open_108 rfl (by rfl) (by decide) rfl ?_
                  refine r_goto 111 88 hC dX7_open_111 (by decide) ?_
                  exact h
              · replace h := h.2 hc
                refine r_iconst 71 (v := 0) hC dX7_open_71 (by decide) ?_
                exact r_iret 72 hC hE rfl dX7_open_72 ⟨_, rfl, h⟩
            · replace h := h.2 hc
              refine r_iconst 59 (v := 1) hC dX7_open_59 (by decide) ?_
              refine r_goto 60 64 hC dX7_open_60 (by decide) ?_
              refine r_iconst 64 (v := 3) hC dX7_open_64 (by decide) ?_
              refine r_callV_i 65 (n := 2) [.int (1), .int (3)] [] hC hk0 rfl dX7_open_65 (by decide) (by decide) tw_1292 tw_135 ⟨by decide, by decide, by decide +kernel⟩ tw_1289 tw_1291 tw_81 rfl rfl (sX7_throwsIf (l := pm_l X) hG (q0) (1) (3) _ _ hk0 h) hab (Nat.le_of_ble_eq_true rfl) ?_
              clear h; intro r229 I228 h
              refine r_if_eq 68 73 hC dX7_open_68 (by decide) (fun hc => ?_) (fun hc => ?_)
              · replace h := h.1 hc
                refine r_aload_n 73 hC dX7_open_73 rfl rfl ?_
                refine r_callV_v 74 (n := 0) [] [] hC hk0 rfl dX7_open_74 (by decide) (by decide) tw_1591 tw_135 ⟨by decide, by decide, by decide +kernel⟩ tw_1588 tw_1590 tw_124 rfl rfl (sX7_keeps (l := pm_l X) hG (q0) _ _ hk0 h) hab (Nat.le_of_ble_eq_true rfl) ?_
                clear h; intro I230 h
                refine r_aload_n 77 hC dX7_open_77 rfl rfl ?_
                refine r_iload_n 78 hC dX7_open_78 rfl rfl ?_
                refine r_iload_n 79 hC dX7_open_79 rfl rfl ?_
                refine r_callV_i 80 (n := 2) [.int (x1), .int (x2)] [] hC hk0 rfl dX7_open_80 (by decide) (by decide) tw_1454 tw_135 ⟨by decide, by decide, by decide +kernel⟩ tw_1451 tw_1453 tw_107 rfl rfl (sX7_bestFor (l := pm_l X) hG (q0) (x1) (x2) _ _ hk0 h) hab (Nat.le_of_ble_eq_true rfl) ?_
                clear h; intro r232 I231 h
                refine r_istore 83 [some (.ref (q0)), some (.int (x1)), some (.int (x2)), some (.int (x14)), some (.int (r232)), none] hC dX7_open_83 (by decide) rfl ?_
                refine r_iconst 85 (v := 0) hC dX7_open_85 (by decide) ?_
                refine r_istore 86 [some (.ref (q0)), some (.int (x1)), some (.int (x2)), some (.int (x14)), some (.int (r232)), some (.int (0))] hC dX7_open_86 (by decide) rfl ?_
                refine h (fun x235 I234 => pm_R G X 6 0 0 88 [some (.ref (q0)), some (.int (x1)), some (.int (x2)), some (.int (x14)), some (.int (r232)), some (.int (x235))] [] I234) ?_
                clear h; intro x235 I234 h
                refine r_iload 88 hC dX7_open_88 rfl ?_
                refine r_sipush 90 (v := 134) hC dX7_open_90 (by decide) ?_
                refine r_icmp_ge 93 114 hC dX7_open_93 (by decide) (fun hc => ?_) (fun hc => ?_)
                · replace h := h.1 hc
                  refine r_aload_n 114 hC dX7_open_114 rfl rfl ?_
                  refine r_getR7 115 (r1 := q0 + 1) hC hk0 1 (by decide) tw_1180 rfl rfl dX7_open_115 ?_
                  refine r_iload_n 118 hC dX7_open_118 rfl rfl ?_
                  refine r_iconst 119 (v := 0) hC dX7_open_119 (by decide) ?_
                  refine r_callS_i 120 (n := 2) [.int (x14), .int (0)] [.ref (q0 + 1)] hC dX7_open_120 (by decide) (by decide) tw_1446 tw_135 ⟨by decide, by decide, by decide +kernel⟩ tw_1444 tw_1445 rfl rfl (sX7_of (l := pm_l X) hG (x14) (0) _ _ h) hab (Nat.le_of_ble_eq_true rfl) ?_
                  clear h; intro r237 I236 h
                  refine r_iconst 123 (v := 1) hC dX7_open_123 (by decide) ?_
                  refine r_iast 124 hC ((pm_s7 hG hk0).1) h.1 dX7_open_124 (fun I238 hI => ?_)
                  replace h := h.2
                  replace h := h I238 hI; clear hI
                  refine r_aload_n 125 hC dX7_open_125 rfl rfl ?_
                  refine r_getR7 126 (r1 := q0 + 1) hC hk0 1 (by decide) tw_1180 rfl rfl dX7_open_126 ?_
                  refine r_iload_n 129 hC dX7_open_129 rfl rfl ?_
                  refine r_iconst 130 (v := 1) hC dX7_open_130 (by decide) ?_
                  refine r_callS_i 131 (n := 2) [.int (x14), .int (1)] [.ref (q0 + 1)] hC dX7_open_131 (by decide) (by decide) tw_1446 tw_135 ⟨by decide, by decide, by decide +kernel⟩ tw_1444 tw_1445 rfl rfl (sX7_of (l := pm_l X) hG (x14) (1) _ _ h) hab (Nat.le_of_ble_eq_true rfl) ?_
                  clear h; intro r240 I239 h
                  refine r_iload_n 134 hC dX7_open_134 rfl rfl ?_
                  refine r_iast 135 hC ((pm_s7 hG hk0).1) h.1 dX7_open_135 (fun I241 hI => ?_)
                  replace h := h.2
                  replace h := h I241 hI; clear hI
                  refine r_aload_n 136 hC dX7_open_136 rfl rfl ?_
                  refine r_getR7 137 (r1 := q0 + 1) hC hk0 1 (by decide) tw_1180 rfl rfl dX7_open_137 ?_
                  refine r_iload_n 140 hC dX7_open_140 rfl rfl ?_
                  refine r_iconst 141 (v := 2) hC dX7_open_141 (by decide) ?_
                  refine r_callS_i 142 (n := 2) [.int (x14), .int (2)] [.ref (q0 + 1)] hC dX7_open_142 (by decide) (by decide) tw_1446 tw_135 ⟨by decide, by decide, by decide +kernel⟩ tw_1444 tw_1445 rfl rfl (sX7_of (l := pm_l X) hG (x14) (2) _ _ h) hab (Nat.le_of_ble_eq_true rfl) ?_
                  clear h; intro r243 I242 h
                  refine r_iload_n 145 hC dX7_open_145 rfl rfl ?_
                  refine r_iast 146 hC ((pm_s7 hG hk0).1) h.1 dX7_open_146 (fun I244 hI => ?_)
                  replace h := h.2
                  replace h := h I244 hI; clear hI
                  refine r_aload_n 147 hC dX7_open_147 rfl rfl ?_
                  refine r_getR7 148 (r1 := q0 + 1) hC hk0 1 (by decide) tw_1180 rfl rfl dX7_open_148 ?_
                  refine r_iload_n 151 hC dX7_open_151 rfl rfl ?_
                  refine r_iconst 152 (v := 3) hC dX7_open_152 (by decide) ?_
                  refine r_callS_i 153 (n := 2) [.int (x14), .int (3)] [.ref (q0 + 1)] hC dX7_open_153 (by decide) (by decide) tw_1446 tw_135 ⟨by decide, by decide, by decide +kernel⟩ tw_1444 tw_1445 rfl rfl (sX7_of (l := pm_l X) hG (x14) (3) _ _ h) hab (Nat.le_of_ble_eq_true rfl) ?_
                  clear h; intro r246 I245 h
                  refine r_iload 156 hC dX7_open_156 rfl ?_
                  refine r_iast 158 hC ((pm_s7 hG hk0).1) h.1 dX7_open_158 (fun I247 hI => ?_)
                  replace h := h.2
                  replace h := h I247 hI; clear hI
                  refine r_aload_n 159 hC dX7_open_159 rfl rfl ?_
                  refine r_getR7 160 (r1 := q0 + 1) hC hk0 1 (by decide) tw_1180 rfl rfl dX7_open_160 ?_
                  refine r_iload_n 163 hC dX7_open_163 rfl rfl ?_
                  refine r_iconst 164 (v := 4) hC dX7_open_164 (by decide) ?_
                  refine r_callS_i 165 (n := 2) [.int (x14), .int (4)] [.ref (q0 + 1)] hC dX7_open_165 (by decide) (by decide) tw_1446 tw_135 ⟨by decide, by decide, by decide +kernel⟩ tw_1444 tw_1445 rfl rfl (sX7_of (l := pm_l X) hG (x14) (4) _ _ h) hab (Nat.le_of_ble_eq_true rfl) ?_
                  clear h; intro r249 I248 h
                  refine r_iconst 168 (v := -1) hC dX7_open_168 (by decide) ?_
                  refine r_iast 169 hC ((pm_s7 hG hk0).1) h.1 dX7_open_169 (fun I250 hI => ?_)
                  replace h := h.2
                  replace h := h I250 hI; clear hI
                  refine r_aload_n 170 hC dX7_open_170 rfl rfl ?_
                  refine r_getR7 171 (r1 := q0 + 1) hC hk0 1 (by decide) tw_1180 rfl rfl dX7_open_171 ?_
                  refine r_iload_n 174 hC dX7_open_174 rfl rfl ?_
                  refine r_bipush 175 (v := 6) hC dX7_open_175 (by decide) ?_
                  refine r_callS_i 177 (n := 2) [.int (x14), .int (6)] [.ref (q0 + 1)] hC dX7_open_177 (by decide) (by decide) tw_1446 tw_135 ⟨by decide, by decide, by decide +kernel⟩ tw_1444 tw_1445 rfl rfl (sX7_of (l := pm_l X) hG (x14) (6) _ _ h) hab (Nat.le_of_ble_eq_true rfl) ?_
                  clear h; intro r252 I251 h
                  refine r_aload_n 180 hC dX7_open_180 rfl rfl ?_
                  refine r_getR7 181 (r1 := q0 + 1) hC hk0 1 (by decide) tw_1180 rfl rfl dX7_open_181 ?_
                  refine r_iconst 184 (v := 0) hC dX7_open_184 (by decide) ?_
                  refine r_iald 185 hC ((pm_s7 hG hk0).1) (by unfold vp_in; decide) dX7_open_185 ?_
                  refine r_iast 186 hC ((pm_s7 hG hk0).1) h.1 dX7_open_186 (fun I253 hI => ?_)
                  replace h := h.2
                  replace h := h I253 hI; clear hI
                  refine r_iload_n 187 hC dX7_open_187 rfl rfl ?_
                  exact r_iret 188 hC hE rfl dX7_open_188 ⟨_, rfl, h⟩
                · replace h := h.2 hc
                  refine r_aload_n 96 hC dX7_open_96 rfl rfl ?_
                  refine r_getR7 97 (r1 := q0 + 1) hC hk0 1 (by decide) tw_1180 rfl rfl dX7_open_97 ?_
                  refine r_iload_n 100 hC dX7_open_100 rfl rfl ?_
                  refine r_iload 101 hC dX7_open_101 rfl ?_
                  refine r_callS_i 103 (n := 2) [.int (x14), .int (x235)] [.ref (q0 + 1)] hC dX7_open_103 (by decide) (by decide) tw_1446 tw_135 ⟨by decide, by decide, by decide +kernel⟩ tw_1444 tw_1445 rfl rfl (sX7_of (l := pm_l X) hG (x14) (x235) _ _ h) hab (Nat.le_of_ble_eq_true rfl) ?_
                  clear h; intro r255 I254 h
                  refine r_iconst 106 (v := 0) hC dX7_open_106 (by decide) ?_
                  refine r_iast 107 hC ((pm_s7 hG hk0).1) h.1 dX7_open_107 (fun I256 hI => ?_)
                  replace h := h.2
                  replace h := h I256 hI; clear hI
                  refine r_iinc 108 (v := x235 + 1) [some (.ref (q0)), some (.int (x1)), some (.int (x2)), some (.int (x14)), some (.int (r232)), some (.int (x235 + 1))] hC dX7_open_108 rfl (by rfl) (by decide) rfl ?_
                  refine r_goto 111 88 hC dX7_open_111 (by decide) ?_
                  exact h
              · replace h := h.2 hc
                refine r_iconst 71 (v := 0) hC dX7_open_71 (by decide) ?_
                exact r_iret 72 hC hE rfl dX7_open_72 ⟨_, rfl, h⟩
      · replace h := h.2 hc
        refine r_iinc 27 (v := x14 + 1) [some (.ref (q0)), some (.int (x1)), some (.int (x2)), some (.int (x14 + 1)), none, none] hC dX7_open_27 rfl (by rfl) (by decide) rfl ?_
        refine r_goto 30 13 hC dX7_open_30 (by decide) ?_
        exact h
  · replace h := h.2 hc
    refine r_iconst 9 (v := 0) hC dX7_open_9 (by decide) ?_
    exact r_iret 10 hC hE rfl dX7_open_10 ⟨_, rfl, h⟩

def wX7_send (G : pm_G) (q0 : Nat) (x1 : Int32) (x2 : Int32) (I : pm_I) (K : Int32 → pm_I → Prop) : Prop :=
  wX7_noSession G (q0) (x1) I (fun r11 I10 => (¬ r11 = 0 → (K (0) I10)) ∧ (r11 = 0 → (wX7_undelivered G (q0) (x1) I10 (fun r13 I12 => (¬ r13 = 24 → (wX7_throwsIf G (q0) (0) (2) I12 (fun r15 I14 => (r15 = 0 → (wX7_keeps G (q0) I14 (fun I16 => wX7_of G (x1) (12) I16 (fun r18 I17 => vp_in (r18) 821 ∧ ((¬ (I17 (q0 + 1) (r18).toNatClampNeg) = (I17 (q0 + 2) (3 : Int32).toNatClampNeg) → (wX7_undelivered G (q0) (x1) I17 (fun r20 I19 => wX7_message G (x1) (r20) I19 (fun r22 I21 => vp_in (r22 + 1) 821 ∧ (∀ I23 : pm_I, I23 = pm_up I21 (q0 + 1) ((r22 + 1).toNatClampNeg) (x2) → (wX7_of G (x1) (11) I23 (fun r25 I24 => vp_in (r25) 821 ∧ (vp_in (r22 + 2) 821 ∧ (∀ I26 : pm_I, I26 = pm_up I24 (q0 + 1) ((r22 + 2).toNatClampNeg) (I24 (q0 + 1) (r25).toNatClampNeg) → (wX7_travels G (q0) (x1) (r22) I26 (fun I27 => wX7_of G (x1) (12) I27 (fun r29 I28 => vp_in (r29) 821 ∧ (vp_in (r29) 821 ∧ (∀ I30 : pm_I, I30 = pm_up I28 (q0 + 1) ((r29).toNatClampNeg) ((I28 (q0 + 1) (r29).toNatClampNeg) + 1) → (wX7_of G (x1) (7) I30 (fun r32 I31 => vp_in (r32) 821 ∧ (vp_in (r32) 821 ∧ (∀ I33 : pm_I, I33 = pm_up I31 (q0 + 1) ((r32).toNatClampNeg) ((I31 (q0 + 1) (r32).toNatClampNeg) + 1) → (wX7_of G (x1) (7) I33 (fun r35 I34 => vp_in (r35) 821 ∧ (K ((I34 (q0 + 1) (r35).toNatClampNeg) - 1) I34))))))))))))))))))))) ∧ ((I17 (q0 + 1) (r18).toNatClampNeg) = (I17 (q0 + 2) (3 : Int32).toNatClampNeg) → (wX7_turnsKey G (q0) (x1) I17 (fun I36 => wX7_undelivered G (q0) (x1) I36 (fun r38 I37 => wX7_message G (x1) (r38) I37 (fun r40 I39 => vp_in (r40 + 1) 821 ∧ (∀ I41 : pm_I, I41 = pm_up I39 (q0 + 1) ((r40 + 1).toNatClampNeg) (x2) → (wX7_of G (x1) (11) I41 (fun r43 I42 => vp_in (r43) 821 ∧ (vp_in (r40 + 2) 821 ∧ (∀ I44 : pm_I, I44 = pm_up I42 (q0 + 1) ((r40 + 2).toNatClampNeg) (I42 (q0 + 1) (r43).toNatClampNeg) → (wX7_travels G (q0) (x1) (r40) I44 (fun I45 => wX7_of G (x1) (12) I45 (fun r47 I46 => vp_in (r47) 821 ∧ (vp_in (r47) 821 ∧ (∀ I48 : pm_I, I48 = pm_up I46 (q0 + 1) ((r47).toNatClampNeg) ((I46 (q0 + 1) (r47).toNatClampNeg) + 1) → (wX7_of G (x1) (7) I48 (fun r50 I49 => vp_in (r50) 821 ∧ (vp_in (r50) 821 ∧ (∀ I51 : pm_I, I51 = pm_up I49 (q0 + 1) ((r50).toNatClampNeg) ((I49 (q0 + 1) (r50).toNatClampNeg) + 1) → (wX7_of G (x1) (7) I51 (fun r53 I52 => vp_in (r53) 821 ∧ (K ((I52 (q0 + 1) (r53).toNatClampNeg) - 1) I52))))))))))))))))))))))))))) ∧ (¬ r15 = 0 → (K (0) I14))))) ∧ (r13 = 24 → (wX7_throwsIf G (q0) (1) (2) I12 (fun r55 I54 => (r55 = 0 → (wX7_keeps G (q0) I54 (fun I56 => wX7_of G (x1) (12) I56 (fun r58 I57 => vp_in (r58) 821 ∧ ((¬ (I57 (q0 + 1) (r58).toNatClampNeg) = (I57 (q0 + 2) (3 : Int32).toNatClampNeg) → (wX7_undelivered G (q0) (x1) I57 (fun r60 I59 => wX7_message G (x1) (r60) I59 (fun r62 I61 => vp_in (r62 + 1) 821 ∧ (∀ I63 : pm_I, I63 = pm_up I61 (q0 + 1) ((r62 + 1).toNatClampNeg) (x2) → (wX7_of G (x1) (11) I63 (fun r65 I64 => vp_in (r65) 821 ∧ (vp_in (r62 + 2) 821 ∧ (∀ I66 : pm_I, I66 = pm_up I64 (q0 + 1) ((r62 + 2).toNatClampNeg) (I64 (q0 + 1) (r65).toNatClampNeg) → (wX7_travels G (q0) (x1) (r62) I66 (fun I67 => wX7_of G (x1) (12) I67 (fun r69 I68 => vp_in (r69) 821 ∧ (vp_in (r69) 821 ∧ (∀ I70 : pm_I, I70 = pm_up I68 (q0 + 1) ((r69).toNatClampNeg) ((I68 (q0 + 1) (r69).toNatClampNeg) + 1) → (wX7_of G (x1) (7) I70 (fun r72 I71 => vp_in (r72) 821 ∧ (vp_in (r72) 821 ∧ (∀ I73 : pm_I, I73 = pm_up I71 (q0 + 1) ((r72).toNatClampNeg) ((I71 (q0 + 1) (r72).toNatClampNeg) + 1) → (wX7_of G (x1) (7) I73 (fun r75 I74 => vp_in (r75) 821 ∧ (K ((I74 (q0 + 1) (r75).toNatClampNeg) - 1) I74))))))))))))))))))))) ∧ ((I57 (q0 + 1) (r58).toNatClampNeg) = (I57 (q0 + 2) (3 : Int32).toNatClampNeg) → (wX7_turnsKey G (q0) (x1) I57 (fun I76 => wX7_undelivered G (q0) (x1) I76 (fun r78 I77 => wX7_message G (x1) (r78) I77 (fun r80 I79 => vp_in (r80 + 1) 821 ∧ (∀ I81 : pm_I, I81 = pm_up I79 (q0 + 1) ((r80 + 1).toNatClampNeg) (x2) → (wX7_of G (x1) (11) I81 (fun r83 I82 => vp_in (r83) 821 ∧ (vp_in (r80 + 2) 821 ∧ (∀ I84 : pm_I, I84 = pm_up I82 (q0 + 1) ((r80 + 2).toNatClampNeg) (I82 (q0 + 1) (r83).toNatClampNeg) → (wX7_travels G (q0) (x1) (r80) I84 (fun I85 => wX7_of G (x1) (12) I85 (fun r87 I86 => vp_in (r87) 821 ∧ (vp_in (r87) 821 ∧ (∀ I88 : pm_I, I88 = pm_up I86 (q0 + 1) ((r87).toNatClampNeg) ((I86 (q0 + 1) (r87).toNatClampNeg) + 1) → (wX7_of G (x1) (7) I88 (fun r90 I89 => vp_in (r90) 821 ∧ (vp_in (r90) 821 ∧ (∀ I91 : pm_I, I91 = pm_up I89 (q0 + 1) ((r90).toNatClampNeg) ((I89 (q0 + 1) (r90).toNatClampNeg) + 1) → (wX7_of G (x1) (7) I91 (fun r93 I92 => vp_in (r93) 821 ∧ (K ((I92 (q0 + 1) (r93).toNatClampNeg) - 1) I92))))))))))))))))))))))))))) ∧ (¬ r55 = 0 → (K (0) I54)))))))))

set_option maxRecDepth 20000 in
theorem sX7_send {G : pm_G} {l : Launch} (hG : pm_ok G) (q0 : Nat) (x1 : Int32) (x2 : Int32) (I : pm_I) (K : Int32 → pm_I → Prop) (hk0 : pm_k G q0 (.inl 7)) (h : wX7_send G q0 x1 x2 I K) : pm_Ct G l yX7_send cX7_send 4 (some .int) { frames := 4, cells := 0, slots := 0, locals := 324 } [.ref (q0), .int (x1), .int (x2)] I (pm_Ki K) := by
  unfold wX7_send at h
  refine pm_enter (by decide +kernel) hG rfl (Nat.le_of_ble_eq_true rfl) rfl (fun X hl hC hE => ?_)
  subst hl
  have hab : 0 ≤ 0 ∧ 0 ≤ 0 := ⟨Nat.le_refl 0, Nat.le_refl 0⟩
  have hC : pm_C G X cX7_send 4 RX7 (some .int) { frames := 4, cells := 0, slots := 0, locals := 324 } := hC
  refine r_aload_n 0 hC dX7_send_0 rfl rfl ?_
  refine r_iload_n 1 hC dX7_send_1 rfl rfl ?_
  refine r_callV_i 2 (n := 1) [.int (x1)] [] hC hk0 rfl dX7_send_2 (by decide) (by decide) tw_1497 tw_135 ⟨by decide, by decide, by decide +kernel⟩ tw_1494 tw_1496 tw_113 rfl rfl (sX7_noSession (l := pm_l X) hG (q0) (x1) _ _ hk0 h) hab (Nat.le_of_ble_eq_true rfl) ?_
  clear h; intro r11 I10 h
  refine r_if_ne 5 31 hC dX7_send_5 (by decide) (fun hc => ?_) (fun hc => ?_)
  · replace h := h.1 hc
    refine r_iconst 31 (v := 0) hC dX7_send_31 (by decide) ?_
    exact r_iret 32 hC hE rfl dX7_send_32 ⟨_, rfl, h⟩
  · replace h := h.2 hc
    refine r_aload_n 8 hC dX7_send_8 rfl rfl ?_
    refine r_aload_n 9 hC dX7_send_9 rfl rfl ?_
    refine r_iload_n 10 hC dX7_send_10 rfl rfl ?_
    refine r_callV_i 11 (n := 1) [.int (x1)] [.ref (q0)] hC hk0 rfl dX7_send_11 (by decide) (by decide) tw_1517 tw_135 ⟨by decide, by decide, by decide +kernel⟩ tw_1514 tw_1516 tw_115 rfl rfl (sX7_undelivered (l := pm_l X) hG (q0) (x1) _ _ hk0 h) hab (Nat.le_of_ble_eq_true rfl) ?_
    clear h; intro r13 I12 h
    refine r_bipush 14 (v := 24) hC dX7_send_14 (by decide) ?_
    refine r_icmp_ne 16 23 hC dX7_send_16 (by decide) (fun hc => ?_) (fun hc => ?_)
    · replace h := h.1 hc
      refine r_iconst 23 (v := 0) hC dX7_send_23 (by decide) ?_
      refine r_iconst 24 (v := 2) hC dX7_send_24 (by decide) ?_
      refine r_callV_i 25 (n := 2) [.int (0), .int (2)] [] hC hk0 rfl dX7_send_25 (by decide) (by decide) tw_1292 tw_135 ⟨by decide, by decide, by decide +kernel⟩ tw_1289 tw_1291 tw_81 rfl rfl (sX7_throwsIf (l := pm_l X) hG (q0) (0) (2) _ _ hk0 h) hab (Nat.le_of_ble_eq_true rfl) ?_
      clear h; intro r15 I14 h
      refine r_if_eq 28 33 hC dX7_send_28 (by decide) (fun hc => ?_) (fun hc => ?_)
      · replace h := h.1 hc
        refine r_aload_n 33 hC dX7_send_33 rfl rfl ?_
        refine r_callV_v 34 (n := 0) [] [] hC hk0 rfl dX7_send_34 (by decide) (by decide) tw_1591 tw_135 ⟨by decide, by decide, by decide +kernel⟩ tw_1588 tw_1590 tw_124 rfl rfl (sX7_keeps (l := pm_l X) hG (q0) _ _ hk0 h) hab (Nat.le_of_ble_eq_true rfl) ?_
        clear h; intro I16 h
        refine r_aload_n 37 hC dX7_send_37 rfl rfl ?_
        refine r_getR7 38 (r1 := q0 + 1) hC hk0 1 (by decide) tw_1180 rfl rfl dX7_send_38 ?_
        refine r_iload_n 41 hC dX7_send_41 rfl rfl ?_
        refine r_bipush 42 (v := 12) hC dX7_send_42 (by decide) ?_
        refine r_callS_i 44 (n := 2) [.int (x1), .int (12)] [.ref (q0 + 1)] hC dX7_send_44 (by decide) (by decide) tw_1446 tw_135 ⟨by decide, by decide, by decide +kernel⟩ tw_1444 tw_1445 rfl rfl (sX7_of (l := pm_l X) hG (x1) (12) _ _ h) hab (Nat.le_of_ble_eq_true rfl) ?_
        clear h; intro r18 I17 h
        refine r_iald 47 hC ((pm_s7 hG hk0).1) h.1 dX7_send_47 ?_
        replace h := h.2
        refine r_aload_n 48 hC dX7_send_48 rfl rfl ?_
        refine r_getR7 49 (r1 := q0 + 2) hC hk0 2 (by decide) tw_1181 rfl rfl dX7_send_49 ?_
        refine r_iconst 52 (v := 3) hC dX7_send_52 (by decide) ?_
        refine r_iald 53 hC ((pm_s7 hG hk0).2.1) (by unfold vp_in; decide) dX7_send_53 ?_
        refine r_icmp_ne 54 62 hC dX7_send_54 (by decide) (fun hc => ?_) (fun hc => ?_)
        · replace h := h.1 hc
          refine r_iload_n 62 hC dX7_send_62 rfl rfl ?_
          refine r_aload_n 63 hC dX7_send_63 rfl rfl ?_
          refine r_iload_n 64 hC dX7_send_64 rfl rfl ?_
          refine r_callV_i 65 (n := 1) [.int (x1)] [.int (x1)] hC hk0 rfl dX7_send_65 (by decide) (by decide) tw_1517 tw_135 ⟨by decide, by decide, by decide +kernel⟩ tw_1514 tw_1516 tw_115 rfl rfl (sX7_undelivered (l := pm_l X) hG (q0) (x1) _ _ hk0 h) hab (Nat.le_of_ble_eq_true rfl) ?_
          clear h; intro r20 I19 h
          refine r_callS_i 68 (n := 2) [.int (x1), .int (r20)] [] hC dX7_send_68 (by decide) (by decide) tw_1520 tw_135 ⟨by decide, by decide, by decide +kernel⟩ tw_1518 tw_1519 rfl rfl (sX7_message (l := pm_l X) hG (x1) (r20) _ _ h) hab (Nat.le_of_ble_eq_true rfl) ?_
          clear h; intro r22 I21 h
          refine r_istore_n 71 [some (.ref (q0)), some (.int (x1)), some (.int (x2)), some (.int (r22))] hC dX7_send_71 rfl (by decide) rfl ?_
          refine r_aload_n 72 hC dX7_send_72 rfl rfl ?_
          refine r_getR7 73 (r1 := q0 + 1) hC hk0 1 (by decide) tw_1180 rfl rfl dX7_send_73 ?_
          refine r_iload_n 76 hC dX7_send_76 rfl rfl ?_
          refine r_iconst 77 (v := 1) hC dX7_send_77 (by decide) ?_
          refine r_iadd 78 hC dX7_send_78 ?_
          refine r_iload_n 79 hC dX7_send_79 rfl rfl ?_
          refine r_iast 80 hC ((pm_s7 hG hk0).1) h.1 dX7_send_80 (fun I23 hI => ?_)
          replace h := h.2
          replace h := h I23 hI; clear hI
          refine r_aload_n 81 hC dX7_send_81 rfl rfl ?_
          refine r_getR7 82 (r1 := q0 + 1) hC hk0 1 (by decide) tw_1180 rfl rfl dX7_send_82 ?_
          refine r_iload_n 85 hC dX7_send_85 rfl rfl ?_
          refine r_iconst 86 (v := 2) hC dX7_send_86 (by decide) ?_
          refine r_iadd 87 hC dX7_send_87 ?_
          refine r_aload_n 88 hC dX7_send_88 rfl rfl ?_
          refine r_getR7 89 (r1 := q0 + 1) hC hk0 1 (by decide) tw_1180 rfl rfl dX7_send_89 ?_
          refine r_iload_n 92 hC dX7_send_92 rfl rfl ?_
          refine r_bipush 93 (v := 11) hC dX7_send_93 (by decide) ?_
          refine r_callS_i 95 (n := 2) [.int (x1), .int (11)] [.ref (q0 + 1), .int (r22 + 2), .ref (q0 + 1)] hC dX7_send_95 (by decide) (by decide) tw_1446 tw_135 ⟨by decide, by decide, by decide +kernel⟩ tw_1444 tw_1445 rfl rfl (sX7_of (l := pm_l X) hG (x1) (11) _ _ h) hab (Nat.le_of_ble_eq_true rfl) ?_
          clear h; intro r25 I24 h
          refine r_iald 98 hC ((pm_s7 hG hk0).1) h.1 dX7_send_98 ?_
          replace h := h.2
          refine r_iast 99 hC ((pm_s7 hG hk0).1) h.1 dX7_send_99 (fun I26 hI => ?_)
          replace h := h.2
          replace h := h I26 hI; clear hI
          refine r_aload_n 100 hC dX7_send_100 rfl rfl ?_
          refine r_iload_n 101 hC dX7_send_101 rfl rfl ?_
          refine r_iload_n 102 hC dX7_send_102 rfl rfl ?_
          refine r_callV_v 103 (n := 2) [.int (x1), .int (r22)] [] hC hk0 rfl dX7_send_103 (by decide) (by decide) tw_1571 tw_135 ⟨by decide, by decide, by decide +kernel⟩ tw_1568 tw_1570 tw_121 rfl rfl (sX7_travels (l := pm_l X) hG (q0) (x1) (r22) _ _ hk0 h) hab (Nat.le_of_ble_eq_true rfl) ?_
          clear h; intro I27 h
          refine r_aload_n 106 hC dX7_send_106 rfl rfl ?_
          refine r_getR7 107 (r1 := q0 + 1) hC hk0 1 (by decide) tw_1180 rfl rfl dX7_send_107 ?_
          refine r_iload_n 110 hC dX7_send_110 rfl rfl ?_
          refine r_bipush 111 (v := 12) hC dX7_send_111 (by decide) ?_
          refine r_callS_i 113 (n := 2) [.int (x1), .int (12)] [.ref (q0 + 1)] hC dX7_send_113 (by decide) (by decide) tw_1446 tw_135 ⟨by decide, by decide, by decide +kernel⟩ tw_1444 tw_1445 rfl rfl (sX7_of (l := pm_l X) hG (x1) (12) _ _ h) hab (Nat.le_of_ble_eq_true rfl) ?_
          clear h; intro r29 I28 h
          refine r_dup2 116 hC dX7_send_116 rfl rfl ?_
          refine r_iald 117 hC ((pm_s7 hG hk0).1) h.1 dX7_send_117 ?_
          replace h := h.2
          refine r_iconst 118 (v := 1) hC dX7_send_118 (by decide) ?_
          refine r_iadd 119 hC dX7_send_119 ?_
          refine r_iast 120 hC ((pm_s7 hG hk0).1) h.1 dX7_send_120 (fun I30 hI => ?_)
          replace h := h.2
          replace h := h I30 hI; clear hI
          refine r_aload_n 121 hC dX7_send_121 rfl rfl ?_
          refine r_getR7 122 (r1 := q0 + 1) hC hk0 1 (by decide) tw_1180 rfl rfl dX7_send_122 ?_
          refine r_iload_n 125 hC dX7_send_125 rfl rfl ?_
          refine r_bipush 126 (v := 7) hC dX7_send_126 (by decide) ?_
          refine r_callS_i 128 (n := 2) [.int (x1), .int (7)] [.ref (q0 + 1)] hC dX7_send_128 (by decide) (by decide) tw_1446 tw_135 ⟨by decide, by decide, by decide +kernel⟩ tw_1444 tw_1445 rfl rfl (sX7_of (l := pm_l X) hG (x1) (7) _ _ h) hab (Nat.le_of_ble_eq_true rfl) ?_
          clear h; intro r32 I31 h
          refine r_dup2 131 hC dX7_send_131 rfl rfl ?_
          refine r_iald 132 hC ((pm_s7 hG hk0).1) h.1 dX7_send_132 ?_
          replace h := h.2
          refine r_iconst 133 (v := 1) hC dX7_send_133 (by decide) ?_
          refine r_iadd 134 hC dX7_send_134 ?_
          refine r_iast 135 hC ((pm_s7 hG hk0).1) h.1 dX7_send_135 (fun I33 hI => ?_)
          replace h := h.2
          replace h := h I33 hI; clear hI
          refine r_aload_n 136 hC dX7_send_136 rfl rfl ?_
          refine r_getR7 137 (r1 := q0 + 1) hC hk0 1 (by decide) tw_1180 rfl rfl dX7_send_137 ?_
          refine r_iload_n 140 hC dX7_send_140 rfl rfl ?_
          refine r_bipush 141 (v := 7) hC dX7_send_141 (by decide) ?_
          refine r_callS_i 143 (n := 2) [.int (x1), .int (7)] [.ref (q0 + 1)] hC dX7_send_143 (by decide) (by decide) tw_1446 tw_135 ⟨by decide, by decide, by decide +kernel⟩ tw_1444 tw_1445 rfl rfl (sX7_of (l := pm_l X) hG (x1) (7) _ _ h) hab (Nat.le_of_ble_eq_true rfl) ?_
          clear h; intro r35 I34 h
          refine r_iald 146 hC ((pm_s7 hG hk0).1) h.1 dX7_send_146 ?_
          replace h := h.2
          refine r_iconst 147 (v := 1) hC dX7_send_147 (by decide) ?_
          refine r_isub 148 hC dX7_send_148 ?_
          exact r_iret 149 hC hE rfl dX7_send_149 ⟨_, rfl, h⟩
        · replace h := h.2 hc
          refine r_aload_n 57 hC dX7_send_57 rfl rfl ?_
          refine r_iload_n 58 hC dX7_send_58 rfl rfl ?_
          refine r_callV_v 59 (n := 1) [.int (x1)] [] hC hk0 rfl dX7_send_59 (by decide) (by decide) tw_1567 tw_135 ⟨by decide, by decide, by decide +kernel⟩ tw_1564 tw_1566 tw_120 rfl rfl (sX7_turnsKey (l := pm_l X) hG (q0) (x1) _ _ hk0 h) hab (Nat.le_of_ble_eq_true rfl) ?_
          clear h; intro I36 h
          refine r_iload_n 62 hC dX7_send_62 rfl rfl ?_
          refine r_aload_n 63 hC dX7_send_63 rfl rfl ?_
          refine r_iload_n 64 hC dX7_send_64 rfl rfl ?_
          refine r_callV_i 65 (n := 1) [.int (x1)] [.int (x1)] hC hk0 rfl dX7_send_65 (by decide) (by decide) tw_1517 tw_135 ⟨by decide, by decide, by decide +kernel⟩ tw_1514 tw_1516 tw_115 rfl rfl (sX7_undelivered (l := pm_l X) hG (q0) (x1) _ _ hk0 h) hab (Nat.le_of_ble_eq_true rfl) ?_
          clear h; intro r38 I37 h
          refine r_callS_i 68 (n := 2) [.int (x1), .int (r38)] [] hC dX7_send_68 (by decide) (by decide) tw_1520 tw_135 ⟨by decide, by decide, by decide +kernel⟩ tw_1518 tw_1519 rfl rfl (sX7_message (l := pm_l X) hG (x1) (r38) _ _ h) hab (Nat.le_of_ble_eq_true rfl) ?_
          clear h; intro r40 I39 h
          refine r_istore_n 71 [some (.ref (q0)), some (.int (x1)), some (.int (x2)), some (.int (r40))] hC dX7_send_71 rfl (by decide) rfl ?_
          refine r_aload_n 72 hC dX7_send_72 rfl rfl ?_
          refine r_getR7 73 (r1 := q0 + 1) hC hk0 1 (by decide) tw_1180 rfl rfl dX7_send_73 ?_
          refine r_iload_n 76 hC dX7_send_76 rfl rfl ?_
          refine r_iconst 77 (v := 1) hC dX7_send_77 (by decide) ?_
          refine r_iadd 78 hC dX7_send_78 ?_
          refine r_iload_n 79 hC dX7_send_79 rfl rfl ?_
          refine r_iast 80 hC ((pm_s7 hG hk0).1) h.1 dX7_send_80 (fun I41 hI => ?_)
          replace h := h.2
          replace h := h I41 hI; clear hI
          refine r_aload_n 81 hC dX7_send_81 rfl rfl ?_
          refine r_getR7 82 (r1 := q0 + 1) hC hk0 1 (by decide) tw_1180 rfl rfl dX7_send_82 ?_
          refine r_iload_n 85 hC dX7_send_85 rfl rfl ?_
          refine r_iconst 86 (v := 2) hC dX7_send_86 (by decide) ?_
          refine r_iadd 87 hC dX7_send_87 ?_
          refine r_aload_n 88 hC dX7_send_88 rfl rfl ?_
          refine r_getR7 89 (r1 := q0 + 1) hC hk0 1 (by decide) tw_1180 rfl rfl dX7_send_89 ?_
          refine r_iload_n 92 hC dX7_send_92 rfl rfl ?_
          refine r_bipush 93 (v := 11) hC dX7_send_93 (by decide) ?_
          refine r_callS_i 95 (n := 2) [.int (x1), .int (11)] [.ref (q0 + 1), .int (r40 + 2), .ref (q0 + 1)] hC dX7_send_95 (by decide) (by decide) tw_1446 tw_135 ⟨by decide, by decide, by decide +kernel⟩ tw_1444 tw_1445 rfl rfl (sX7_of (l := pm_l X) hG (x1) (11) _ _ h) hab (Nat.le_of_ble_eq_true rfl) ?_
          clear h; intro r43 I42 h
          refine r_iald 98 hC ((pm_s7 hG hk0).1) h.1 dX7_send_98 ?_
          replace h := h.2
          refine r_iast 99 hC ((pm_s7 hG hk0).1) h.1 dX7_send_99 (fun I44 hI => ?_)
          replace h := h.2
          replace h := h I44 hI; clear hI
          refine r_aload_n 100 hC dX7_send_100 rfl rfl ?_
          refine r_iload_n 101 hC dX7_send_101 rfl rfl ?_
          refine r_iload_n 102 hC dX7_send_102 rfl rfl ?_
          refine r_callV_v 103 (n := 2) [.int (x1), .int (r40)] [] hC hk0 rfl dX7_send_103 (by decide) (by decide) tw_1571 tw_135 ⟨by decide, by decide, by decide +kernel⟩ tw_1568 tw_1570 tw_121 rfl rfl (sX7_travels (l := pm_l X) hG (q0) (x1) (r40) _ _ hk0 h) hab (Nat.le_of_ble_eq_true rfl) ?_
          clear h; intro I45 h
          refine r_aload_n 106 hC dX7_send_106 rfl rfl ?_
          refine r_getR7 107 (r1 := q0 + 1) hC hk0 1 (by decide) tw_1180 rfl rfl dX7_send_107 ?_
          refine r_iload_n 110 hC dX7_send_110 rfl rfl ?_
          refine r_bipush 111 (v := 12) hC dX7_send_111 (by decide) ?_
          refine r_callS_i 113 (n := 2) [.int (x1), .int (12)] [.ref (q0 + 1)] hC dX7_send_113 (by decide) (by decide) tw_1446 tw_135 ⟨by decide, by decide, by decide +kernel⟩ tw_1444 tw_1445 rfl rfl (sX7_of (l := pm_l X) hG (x1) (12) _ _ h) hab (Nat.le_of_ble_eq_true rfl) ?_
          clear h; intro r47 I46 h
          refine r_dup2 116 hC dX7_send_116 rfl rfl ?_
          refine r_iald 117 hC ((pm_s7 hG hk0).1) h.1 dX7_send_117 ?_
          replace h := h.2
          refine r_iconst 118 (v := 1) hC dX7_send_118 (by decide) ?_
          refine r_iadd 119 hC dX7_send_119 ?_
          refine r_iast 120 hC ((pm_s7 hG hk0).1) h.1 dX7_send_120 (fun I48 hI => ?_)
          replace h := h.2
          replace h := h I48 hI; clear hI
          refine r_aload_n 121 hC dX7_send_121 rfl rfl ?_
          refine r_getR7 122 (r1 := q0 + 1) hC hk0 1 (by decide) tw_1180 rfl rfl dX7_send_122 ?_
          refine r_iload_n 125 hC dX7_send_125 rfl rfl ?_
          refine r_bipush 126 (v := 7) hC dX7_send_126 (by decide) ?_
          refine r_callS_i 128 (n := 2) [.int (x1), .int (7)] [.ref (q0 + 1)] hC dX7_send_128 (by decide) (by decide) tw_1446 tw_135 ⟨by decide, by decide, by decide +kernel⟩ tw_1444 tw_1445 rfl rfl (sX7_of (l := pm_l X) hG (x1) (7) _ _ h) hab (Nat.le_of_ble_eq_true rfl) ?_
          clear h; intro r50 I49 h
          refine r_dup2 131 hC dX7_send_131 rfl rfl ?_
          refine r_iald 132 hC ((pm_s7 hG hk0).1) h.1 dX7_send_132 ?_
          replace h := h.2
          refine r_iconst 133 (v := 1) hC dX7_send_133 (by decide) ?_
          refine r_iadd 134 hC dX7_send_134 ?_
          refine r_iast 135 hC ((pm_s7 hG hk0).1) h.1 dX7_send_135 (fun I51 hI => ?_)
          replace h := h.2
          replace h := h I51 hI; clear hI
          refine r_aload_n 136 hC dX7_send_136 rfl rfl ?_
          refine r_getR7 137 (r1 := q0 + 1) hC hk0 1 (by decide) tw_1180 rfl rfl dX7_send_137 ?_
          refine r_iload_n 140 hC dX7_send_140 rfl rfl ?_
          refine r_bipush 141 (v := 7) hC dX7_send_141 (by decide) ?_
          refine r_callS_i 143 (n := 2) [.int (x1), .int (7)] [.ref (q0 + 1)] hC dX7_send_143 (by decide) (by decide) tw_1446 tw_135 ⟨by decide, by decide, by decide +kernel⟩ tw_1444 tw_1445 rfl rfl (sX7_of (l := pm_l X) hG (x1) (7) _ _ h) hab (Nat.le_of_ble_eq_true rfl) ?_
          clear h; intro r53 I52 h
          refine r_iald 146 hC ((pm_s7 hG hk0).1) h.1 dX7_send_146 ?_
          replace h := h.2
          refine r_iconst 147 (v := 1) hC dX7_send_147 (by decide) ?_
          refine r_isub 148 hC dX7_send_148 ?_
          exact r_iret 149 hC hE rfl dX7_send_149 ⟨_, rfl, h⟩
      · replace h := h.2 hc
        refine r_iconst 31 (v := 0) hC dX7_send_31 (by decide) ?_
        exact r_iret 32 hC hE rfl dX7_send_32 ⟨_, rfl, h⟩
    · replace h := h.2 hc
      refine r_iconst 19 (v := 1) hC dX7_send_19 (by decide) ?_
      refine r_goto 20 24 hC dX7_send_20 (by decide) ?_
      refine r_iconst 24 (v := 2) hC dX7_send_24 (by decide) ?_
      refine r_callV_i 25 (n := 2) [.int (1), .int (2)] [] hC hk0 rfl dX7_send_25 (by decide) (by decide) tw_1292 tw_135 ⟨by decide, by decide, by decide +kernel⟩ tw_1289 tw_1291 tw_81 rfl rfl (sX7_throwsIf (l := pm_l X) hG (q0) (1) (2) _ _ hk0 h) hab (Nat.le_of_ble_eq_true rfl) ?_
      clear h; intro r55 I54 h
      refine r_if_eq 28 33 hC dX7_send_28 (by decide) (fun hc => ?_) (fun hc => ?_)
      · replace h := h.1 hc
        refine r_aload_n 33 hC dX7_send_33 rfl rfl ?_
        refine r_callV_v 34 (n := 0) [] [] hC hk0 rfl dX7_send_34 (by decide) (by decide) tw_1591 tw_135 ⟨by decide, by decide, by decide +kernel⟩ tw_1588 tw_1590 tw_124 rfl rfl (sX7_keeps (l := pm_l X) hG (q0) _ _ hk0 h) hab (Nat.le_of_ble_eq_true rfl) ?_
        clear h; intro I56 h
        refine r_aload_n 37 hC dX7_send_37 rfl rfl ?_
        refine r_getR7 38 (r1 := q0 + 1) hC hk0 1 (by decide) tw_1180 rfl rfl dX7_send_38 ?_
        refine r_iload_n 41 hC dX7_send_41 rfl rfl ?_
        refine r_bipush 42 (v := 12) hC dX7_send_42 (by decide) ?_
        refine r_callS_i 44 (n := 2) [.int (x1), .int (12)] [.ref (q0 + 1)] hC dX7_send_44 (by decide) (by decide) tw_1446 tw_135 ⟨by decide, by decide, by decide +kernel⟩ tw_1444 tw_1445 rfl rfl (sX7_of (l := pm_l X) hG (x1) (12) _ _ h) hab (Nat.le_of_ble_eq_true rfl) ?_
        clear h; intro r58 I57 h
        refine r_iald 47 hC ((pm_s7 hG hk0).1) h.1 dX7_send_47 ?_
        replace h := h.2
        refine r_aload_n 48 hC dX7_send_48 rfl rfl ?_
        refine r_getR7 49 (r1 := q0 + 2) hC hk0 2 (by decide) tw_1181 rfl rfl dX7_send_49 ?_
        refine r_iconst 52 (v := 3) hC dX7_send_52 (by decide) ?_
        refine r_iald 53 hC ((pm_s7 hG hk0).2.1) (by unfold vp_in; decide) dX7_send_53 ?_
        refine r_icmp_ne 54 62 hC dX7_send_54 (by decide) (fun hc => ?_) (fun hc => ?_)
        · replace h := h.1 hc
          refine r_iload_n 62 hC dX7_send_62 rfl rfl ?_
          refine r_aload_n 63 hC dX7_send_63 rfl rfl ?_
          refine r_iload_n 64 hC dX7_send_64 rfl rfl ?_
          refine r_callV_i 65 (n := 1) [.int (x1)] [.int (x1)] hC hk0 rfl dX7_send_65 (by decide) (by decide) tw_1517 tw_135 ⟨by decide, by decide, by decide +kernel⟩ tw_1514 tw_1516 tw_115 rfl rfl (sX7_undelivered (l := pm_l X) hG (q0) (x1) _ _ hk0 h) hab (Nat.le_of_ble_eq_true rfl) ?_
          clear h; intro r60 I59 h
          refine r_callS_i 68 (n := 2) [.int (x1), .int (r60)] [] hC dX7_send_68 (by decide) (by decide) tw_1520 tw_135 ⟨by decide, by decide, by decide +kernel⟩ tw_1518 tw_1519 rfl rfl (sX7_message (l := pm_l X) hG (x1) (r60) _ _ h) hab (Nat.le_of_ble_eq_true rfl) ?_
          clear h; intro r62 I61 h
          refine r_istore_n 71 [some (.ref (q0)), some (.int (x1)), some (.int (x2)), some (.int (r62))] hC dX7_send_71 rfl (by decide) rfl ?_
          refine r_aload_n 72 hC dX7_send_72 rfl rfl ?_
          refine r_getR7 73 (r1 := q0 + 1) hC hk0 1 (by decide) tw_1180 rfl rfl dX7_send_73 ?_
          refine r_iload_n 76 hC dX7_send_76 rfl rfl ?_
          refine r_iconst 77 (v := 1) hC dX7_send_77 (by decide) ?_
          refine r_iadd 78 hC dX7_send_78 ?_
          refine r_iload_n 79 hC dX7_send_79 rfl rfl ?_
          refine r_iast 80 hC ((pm_s7 hG hk0).1) h.1 dX7_send_80 (fun I63 hI => ?_)
          replace h := h.2
          replace h := h I63 hI; clear hI
          refine r_aload_n 81 hC dX7_send_81 rfl rfl ?_
          refine r_getR7 82 (r1 := q0 + 1) hC hk0 1 (by decide) tw_1180 rfl rfl dX7_send_82 ?_
          refine r_iload_n 85 hC dX7_send_85 rfl rfl ?_
          refine r_iconst 86 (v := 2) hC dX7_send_86 (by decide) ?_
          refine r_iadd 87 hC dX7_send_87 ?_
          refine r_aload_n 88 hC dX7_send_88 rfl rfl ?_
          refine r_getR7 89 (r1 := q0 + 1) hC hk0 1 (by decide) tw_1180 rfl rfl dX7_send_89 ?_
          refine r_iload_n 92 hC dX7_send_92 rfl rfl ?_
          refine r_bipush 93 (v := 11) hC dX7_send_93 (by decide) ?_
          refine r_callS_i 95 (n := 2) [.int (x1), .int (11)] [.ref (q0 + 1), .int (r62 + 2), .ref (q0 + 1)] hC dX7_send_95 (by decide) (by decide) tw_1446 tw_135 ⟨by decide, by decide, by decide +kernel⟩ tw_1444 tw_1445 rfl rfl (sX7_of (l := pm_l X) hG (x1) (11) _ _ h) hab (Nat.le_of_ble_eq_true rfl) ?_
          clear h; intro r65 I64 h
          refine r_iald 98 hC ((pm_s7 hG hk0).1) h.1 dX7_send_98 ?_
          replace h := h.2
          refine r_iast 99 hC ((pm_s7 hG hk0).1) h.1 dX7_send_99 (fun I66 hI => ?_)
          replace h := h.2
          replace h := h I66 hI; clear hI
          refine r_aload_n 100 hC dX7_send_100 rfl rfl ?_
          refine r_iload_n 101 hC dX7_send_101 rfl rfl ?_
          refine r_iload_n 102 hC dX7_send_102 rfl rfl ?_
          refine r_callV_v 103 (n := 2) [.int (x1), .int (r62)] [] hC hk0 rfl dX7_send_103 (by decide) (by decide) tw_1571 tw_135 ⟨by decide, by decide, by decide +kernel⟩ tw_1568 tw_1570 tw_121 rfl rfl (sX7_travels (l := pm_l X) hG (q0) (x1) (r62) _ _ hk0 h) hab (Nat.le_of_ble_eq_true rfl) ?_
          clear h; intro I67 h
          refine r_aload_n 106 hC dX7_send_106 rfl rfl ?_
          refine r_getR7 107 (r1 := q0 + 1) hC hk0 1 (by decide) tw_1180 rfl rfl dX7_send_107 ?_
          refine r_iload_n 110 hC dX7_send_110 rfl rfl ?_
          refine r_bipush 111 (v := 12) hC dX7_send_111 (by decide) ?_
          refine r_callS_i 113 (n := 2) [.int (x1), .int (12)] [.ref (q0 + 1)] hC dX7_send_113 (by decide) (by decide) tw_1446 tw_135 ⟨by decide, by decide, by decide +kernel⟩ tw_1444 tw_1445 rfl rfl (sX7_of (l := pm_l X) hG (x1) (12) _ _ h) hab (Nat.le_of_ble_eq_true rfl) ?_
          clear h; intro r69 I68 h
          refine r_dup2 116 hC dX7_send_116 rfl rfl ?_
          refine r_iald 117 hC ((pm_s7 hG hk0).1) h.1 dX7_send_117 ?_
          replace h := h.2
          refine r_iconst 118 (v := 1) hC dX7_send_118 (by decide) ?_
          refine r_iadd 119 hC dX7_send_119 ?_
          refine r_iast 120 hC ((pm_s7 hG hk0).1) h.1 dX7_send_120 (fun I70 hI => ?_)
          replace h := h.2
          replace h := h I70 hI; clear hI
          refine r_aload_n 121 hC dX7_send_121 rfl rfl ?_
          refine r_getR7 122 (r1 := q0 + 1) hC hk0 1 (by decide) tw_1180 rfl rfl dX7_send_122 ?_
          refine r_iload_n 125 hC dX7_send_125 rfl rfl ?_
          refine r_bipush 126 (v := 7) hC dX7_send_126 (by decide) ?_
          refine r_callS_i 128 (n := 2) [.int (x1), .int (7)] [.ref (q0 + 1)] hC dX7_send_128 (by decide) (by decide) tw_1446 tw_135 ⟨by decide, by decide, by decide +kernel⟩ tw_1444 tw_1445 rfl rfl (sX7_of (l := pm_l X) hG (x1) (7) _ _ h) hab (Nat.le_of_ble_eq_true rfl) ?_
          clear h; intro r72 I71 h
          refine r_dup2 131 hC dX7_send_131 rfl rfl ?_
          refine r_iald 132 hC ((pm_s7 hG hk0).1) h.1 dX7_send_132 ?_
          replace h := h.2
          refine r_iconst 133 (v := 1) hC dX7_send_133 (by decide) ?_
          refine r_iadd 134 hC dX7_send_134 ?_
          refine r_iast 135 hC ((pm_s7 hG hk0).1) h.1 dX7_send_135 (fun I73 hI => ?_)
          replace h := h.2
          replace h := h I73 hI; clear hI
          refine r_aload_n 136 hC dX7_send_136 rfl rfl ?_
          refine r_getR7 137 (r1 := q0 + 1) hC hk0 1 (by decide) tw_1180 rfl rfl dX7_send_137 ?_
          refine r_iload_n 140 hC dX7_send_140 rfl rfl ?_
          refine r_bipush 141 (v := 7) hC dX7_send_141 (by decide) ?_
          refine r_callS_i 143 (n := 2) [.int (x1), .int (7)] [.ref (q0 + 1)] hC dX7_send_143 (by decide) (by decide) tw_1446 tw_135 ⟨by decide, by decide, by decide +kernel⟩ tw_1444 tw_1445 rfl rfl (sX7_of (l := pm_l X) hG (x1) (7) _ _ h) hab (Nat.le_of_ble_eq_true rfl) ?_
          clear h; intro r75 I74 h
          refine r_iald 146 hC ((pm_s7 hG hk0).1) h.1 dX7_send_146 ?_
          replace h := h.2
          refine r_iconst 147 (v := 1) hC dX7_send_147 (by decide) ?_
          refine r_isub 148 hC dX7_send_148 ?_
          exact r_iret 149 hC hE rfl dX7_send_149 ⟨_, rfl, h⟩
        · replace h := h.2 hc
          refine r_aload_n 57 hC dX7_send_57 rfl rfl ?_
          refine r_iload_n 58 hC dX7_send_58 rfl rfl ?_
          refine r_callV_v 59 (n := 1) [.int (x1)] [] hC hk0 rfl dX7_send_59 (by decide) (by decide) tw_1567 tw_135 ⟨by decide, by decide, by decide +kernel⟩ tw_1564 tw_1566 tw_120 rfl rfl (sX7_turnsKey (l := pm_l X) hG (q0) (x1) _ _ hk0 h) hab (Nat.le_of_ble_eq_true rfl) ?_
          clear h; intro I76 h
          refine r_iload_n 62 hC dX7_send_62 rfl rfl ?_
          refine r_aload_n 63 hC dX7_send_63 rfl rfl ?_
          refine r_iload_n 64 hC dX7_send_64 rfl rfl ?_
          refine r_callV_i 65 (n := 1) [.int (x1)] [.int (x1)] hC hk0 rfl dX7_send_65 (by decide) (by decide) tw_1517 tw_135 ⟨by decide, by decide, by decide +kernel⟩ tw_1514 tw_1516 tw_115 rfl rfl (sX7_undelivered (l := pm_l X) hG (q0) (x1) _ _ hk0 h) hab (Nat.le_of_ble_eq_true rfl) ?_
          clear h; intro r78 I77 h
          refine r_callS_i 68 (n := 2) [.int (x1), .int (r78)] [] hC dX7_send_68 (by decide) (by decide) tw_1520 tw_135 ⟨by decide, by decide, by decide +kernel⟩ tw_1518 tw_1519 rfl rfl (sX7_message (l := pm_l X) hG (x1) (r78) _ _ h) hab (Nat.le_of_ble_eq_true rfl) ?_
          clear h; intro r80 I79 h
          refine r_istore_n 71 [some (.ref (q0)), some (.int (x1)), some (.int (x2)), some (.int (r80))] hC dX7_send_71 rfl (by decide) rfl ?_
          refine r_aload_n 72 hC dX7_send_72 rfl rfl ?_
          refine r_getR7 73 (r1 := q0 + 1) hC hk0 1 (by decide) tw_1180 rfl rfl dX7_send_73 ?_
          refine r_iload_n 76 hC dX7_send_76 rfl rfl ?_
          refine r_iconst 77 (v := 1) hC dX7_send_77 (by decide) ?_
          refine r_iadd 78 hC dX7_send_78 ?_
          refine r_iload_n 79 hC dX7_send_79 rfl rfl ?_
          refine r_iast 80 hC ((pm_s7 hG hk0).1) h.1 dX7_send_80 (fun I81 hI => ?_)
          replace h := h.2
          replace h := h I81 hI; clear hI
          refine r_aload_n 81 hC dX7_send_81 rfl rfl ?_
          refine r_getR7 82 (r1 := q0 + 1) hC hk0 1 (by decide) tw_1180 rfl rfl dX7_send_82 ?_
          refine r_iload_n 85 hC dX7_send_85 rfl rfl ?_
          refine r_iconst 86 (v := 2) hC dX7_send_86 (by decide) ?_
          refine r_iadd 87 hC dX7_send_87 ?_
          refine r_aload_n 88 hC dX7_send_88 rfl rfl ?_
          refine r_getR7 89 (r1 := q0 + 1) hC hk0 1 (by decide) tw_1180 rfl rfl dX7_send_89 ?_
          refine r_iload_n 92 hC dX7_send_92 rfl rfl ?_
          refine r_bipush 93 (v := 11) hC dX7_send_93 (by decide) ?_
          refine r_callS_i 95 (n := 2) [.int (x1), .int (11)] [.ref (q0 + 1), .int (r80 + 2), .ref (q0 + 1)] hC dX7_send_95 (by decide) (by decide) tw_1446 tw_135 ⟨by decide, by decide, by decide +kernel⟩ tw_1444 tw_1445 rfl rfl (sX7_of (l := pm_l X) hG (x1) (11) _ _ h) hab (Nat.le_of_ble_eq_true rfl) ?_
          clear h; intro r83 I82 h
          refine r_iald 98 hC ((pm_s7 hG hk0).1) h.1 dX7_send_98 ?_
          replace h := h.2
          refine r_iast 99 hC ((pm_s7 hG hk0).1) h.1 dX7_send_99 (fun I84 hI => ?_)
          replace h := h.2
          replace h := h I84 hI; clear hI
          refine r_aload_n 100 hC dX7_send_100 rfl rfl ?_
          refine r_iload_n 101 hC dX7_send_101 rfl rfl ?_
          refine r_iload_n 102 hC dX7_send_102 rfl rfl ?_
          refine r_callV_v 103 (n := 2) [.int (x1), .int (r80)] [] hC hk0 rfl dX7_send_103 (by decide) (by decide) tw_1571 tw_135 ⟨by decide, by decide, by decide +kernel⟩ tw_1568 tw_1570 tw_121 rfl rfl (sX7_travels (l := pm_l X) hG (q0) (x1) (r80) _ _ hk0 h) hab (Nat.le_of_ble_eq_true rfl) ?_
          clear h; intro I85 h
          refine r_aload_n 106 hC dX7_send_106 rfl rfl ?_
          refine r_getR7 107 (r1 := q0 + 1) hC hk0 1 (by decide) tw_1180 rfl rfl dX7_send_107 ?_
          refine r_iload_n 110 hC dX7_send_110 rfl rfl ?_
          refine r_bipush 111 (v := 12) hC dX7_send_111 (by decide) ?_
          refine r_callS_i 113 (n := 2) [.int (x1), .int (12)] [.ref (q0 + 1)] hC dX7_send_113 (by decide) (by decide) tw_1446 tw_135 ⟨by decide, by decide, by decide +kernel⟩ tw_1444 tw_1445 rfl rfl (sX7_of (l := pm_l X) hG (x1) (12) _ _ h) hab (Nat.le_of_ble_eq_true rfl) ?_
          clear h; intro r87 I86 h
          refine r_dup2 116 hC dX7_send_116 rfl rfl ?_
          refine r_iald 117 hC ((pm_s7 hG hk0).1) h.1 dX7_send_117 ?_
          replace h := h.2
          refine r_iconst 118 (v := 1) hC dX7_send_118 (by decide) ?_
          refine r_iadd 119 hC dX7_send_119 ?_
          refine r_iast 120 hC ((pm_s7 hG hk0).1) h.1 dX7_send_120 (fun I88 hI => ?_)
          replace h := h.2
          replace h := h I88 hI; clear hI
          refine r_aload_n 121 hC dX7_send_121 rfl rfl ?_
          refine r_getR7 122 (r1 := q0 + 1) hC hk0 1 (by decide) tw_1180 rfl rfl dX7_send_122 ?_
          refine r_iload_n 125 hC dX7_send_125 rfl rfl ?_
          refine r_bipush 126 (v := 7) hC dX7_send_126 (by decide) ?_
          refine r_callS_i 128 (n := 2) [.int (x1), .int (7)] [.ref (q0 + 1)] hC dX7_send_128 (by decide) (by decide) tw_1446 tw_135 ⟨by decide, by decide, by decide +kernel⟩ tw_1444 tw_1445 rfl rfl (sX7_of (l := pm_l X) hG (x1) (7) _ _ h) hab (Nat.le_of_ble_eq_true rfl) ?_
          clear h; intro r90 I89 h
          refine r_dup2 131 hC dX7_send_131 rfl rfl ?_
          refine r_iald 132 hC ((pm_s7 hG hk0).1) h.1 dX7_send_132 ?_
          replace h := h.2
          refine r_iconst 133 (v := 1) hC dX7_send_133 (by decide) ?_
          refine r_iadd 134 hC dX7_send_134 ?_
          refine r_iast 135 hC ((pm_s7 hG hk0).1) h.1 dX7_send_135 (fun I91 hI => ?_)
          replace h := h.2
          replace h := h I91 hI; clear hI
          refine r_aload_n 136 hC dX7_send_136 rfl rfl ?_
          refine r_getR7 137 (r1 := q0 + 1) hC hk0 1 (by decide) tw_1180 rfl rfl dX7_send_137 ?_
          refine r_iload_n 140 hC dX7_send_140 rfl rfl ?_
          refine r_bipush 141 (v := 7) hC dX7_send_141 (by decide) ?_
          refine r_callS_i 143 (n := 2) [.int (x1), .int (7)] [.ref (q0 + 1)] hC dX7_send_143 (by decide) (by decide) tw_1446 tw_135 ⟨by decide, by decide, by decide +kernel⟩ tw_1444 tw_1445 rfl rfl (sX7_of (l := pm_l X) hG (x1) (7) _ _ h) hab (Nat.le_of_ble_eq_true rfl) ?_
          clear h; intro r93 I92 h
          refine r_iald 146 hC ((pm_s7 hG hk0).1) h.1 dX7_send_146 ?_
          replace h := h.2
          refine r_iconst 147 (v := 1) hC dX7_send_147 (by decide) ?_
          refine r_isub 148 hC dX7_send_148 ?_
          exact r_iret 149 hC hE rfl dX7_send_149 ⟨_, rfl, h⟩
      · replace h := h.2 hc
        refine r_iconst 31 (v := 0) hC dX7_send_31 (by decide) ?_
        exact r_iret 32 hC hE rfl dX7_send_32 ⟨_, rfl, h⟩

def wX7_setLink (G : pm_G) (q0 : Nat) (x1 : Int32) (x2 : Int32) (x3 : Int32) (I : pm_I) (K : Int32 → pm_I → Prop) : Prop :=
  wX7_noTwo G (q0) (x1) (x2) I (fun r11 I10 => (¬ r11 = 0 → (K (0) I10)) ∧ (r11 = 0 → (vp_in ((8 * x1) + x2) 128 ∧ (((I10 (q0 + 5) ((8 * x1) + x2).toNatClampNeg) = 0 → (wX7_throwsIf G (q0) (1) (3) I10 (fun r13 I12 => (r13 = 0 → (wX7_keeps G (q0) I12 (fun I14 => vp_in (9 + x1) 821 ∧ (vp_in (9 + x1) 821 ∧ (∀ I15 : pm_I, I15 = pm_up I14 (q0 + 1) ((9 + x1).toNatClampNeg) ((I14 (q0 + 1) (9 + x1).toNatClampNeg) ^^^ (1 <<< (x2 &&& 31))) → (vp_in (9 + x2) 821 ∧ (vp_in (9 + x2) 821 ∧ (∀ I16 : pm_I, I16 = pm_up I15 (q0 + 1) ((9 + x2).toNatClampNeg) ((I15 (q0 + 1) (9 + x2).toNatClampNeg) ^^^ (1 <<< (x1 &&& 31))) → (pm_lp3 (fun (P17 : Int32 → Int32 → pm_I → Prop) (x19 : Int32) (x20 : Int32) (I18 : pm_I) => (6 ≤ x20 → (K (x19) I18)) ∧ (¬ 6 ≤ x20 → ((¬ x3 = 0 → (K (x19) I18)) ∧ (x3 = 0 → (wX7_isOpen G (q0) (x20) I18 (fun r22 I21 => (r22 = 0 → (P17 (x19 + 0) (x20 + 1) I21)) ∧ (¬ r22 = 0 → (wX7_breaks G (q0) (x20) (x1) (x2) I21 (fun r24 I23 => P17 (x19 + r24) (x20 + 1) I23))))))))) (0) (0) I16))))))))) ∧ (¬ r13 = 0 → (K (0) I12))))) ∧ (¬ (I10 (q0 + 5) ((8 * x1) + x2).toNatClampNeg) = 0 → (wX7_isUp G (q0) (x1) (x2) I10 (fun r26 I25 => (¬ r26 = x3 → (wX7_throwsIf G (q0) (0) (3) I25 (fun r28 I27 => (r28 = 0 → (wX7_keeps G (q0) I27 (fun I29 => vp_in (9 + x1) 821 ∧ (vp_in (9 + x1) 821 ∧ (∀ I30 : pm_I, I30 = pm_up I29 (q0 + 1) ((9 + x1).toNatClampNeg) ((I29 (q0 + 1) (9 + x1).toNatClampNeg) ^^^ (1 <<< (x2 &&& 31))) → (vp_in (9 + x2) 821 ∧ (vp_in (9 + x2) 821 ∧ (∀ I31 : pm_I, I31 = pm_up I30 (q0 + 1) ((9 + x2).toNatClampNeg) ((I30 (q0 + 1) (9 + x2).toNatClampNeg) ^^^ (1 <<< (x1 &&& 31))) → (pm_lp3 (fun (P32 : Int32 → Int32 → pm_I → Prop) (x34 : Int32) (x35 : Int32) (I33 : pm_I) => (6 ≤ x35 → (K (x34) I33)) ∧ (¬ 6 ≤ x35 → ((¬ x3 = 0 → (K (x34) I33)) ∧ (x3 = 0 → (wX7_isOpen G (q0) (x35) I33 (fun r37 I36 => (r37 = 0 → (P32 (x34 + 0) (x35 + 1) I36)) ∧ (¬ r37 = 0 → (wX7_breaks G (q0) (x35) (x1) (x2) I36 (fun r39 I38 => P32 (x34 + r39) (x35 + 1) I38))))))))) (0) (0) I31))))))))) ∧ (¬ r28 = 0 → (K (0) I27))))) ∧ (r26 = x3 → (wX7_throwsIf G (q0) (1) (3) I25 (fun r41 I40 => (r41 = 0 → (wX7_keeps G (q0) I40 (fun I42 => vp_in (9 + x1) 821 ∧ (vp_in (9 + x1) 821 ∧ (∀ I43 : pm_I, I43 = pm_up I42 (q0 + 1) ((9 + x1).toNatClampNeg) ((I42 (q0 + 1) (9 + x1).toNatClampNeg) ^^^ (1 <<< (x2 &&& 31))) → (vp_in (9 + x2) 821 ∧ (vp_in (9 + x2) 821 ∧ (∀ I44 : pm_I, I44 = pm_up I43 (q0 + 1) ((9 + x2).toNatClampNeg) ((I43 (q0 + 1) (9 + x2).toNatClampNeg) ^^^ (1 <<< (x1 &&& 31))) → (pm_lp3 (fun (P45 : Int32 → Int32 → pm_I → Prop) (x47 : Int32) (x48 : Int32) (I46 : pm_I) => (6 ≤ x48 → (K (x47) I46)) ∧ (¬ 6 ≤ x48 → ((¬ x3 = 0 → (K (x47) I46)) ∧ (x3 = 0 → (wX7_isOpen G (q0) (x48) I46 (fun r50 I49 => (r50 = 0 → (P45 (x47 + 0) (x48 + 1) I49)) ∧ (¬ r50 = 0 → (wX7_breaks G (q0) (x48) (x1) (x2) I49 (fun r52 I51 => P45 (x47 + r52) (x48 + 1) I51))))))))) (0) (0) I44))))))))) ∧ (¬ r41 = 0 → (K (0) I40))))))))))))

set_option maxRecDepth 20000 in
theorem sX7_setLink {G : pm_G} {l : Launch} (hG : pm_ok G) (q0 : Nat) (x1 : Int32) (x2 : Int32) (x3 : Int32) (I : pm_I) (K : Int32 → pm_I → Prop) (hk0 : pm_k G q0 (.inl 7)) (h : wX7_setLink G q0 x1 x2 x3 I K) : pm_Ct G l yX7_setLink cX7_setLink 6 (some .int) { frames := 7, cells := 0, slots := 0, locals := 591 } [.ref (q0), .int (x1), .int (x2), .int (x3)] I (pm_Ki K) := by
  unfold wX7_setLink at h
  refine pm_enter (by decide +kernel) hG rfl (Nat.le_of_ble_eq_true rfl) rfl (fun X hl hC hE => ?_)
  subst hl
  have hab : 0 ≤ 0 ∧ 0 ≤ 0 := ⟨Nat.le_refl 0, Nat.le_refl 0⟩
  have hC : pm_C G X cX7_setLink 6 RX7 (some .int) { frames := 7, cells := 0, slots := 0, locals := 591 } := hC
  refine r_aload_n 0 hC dX7_setLink_0 rfl rfl ?_
  refine r_iload_n 1 hC dX7_setLink_1 rfl rfl ?_
  refine r_iload_n 2 hC dX7_setLink_2 rfl rfl ?_
  refine r_callV_i 3 (n := 2) [.int (x1), .int (x2)] [] hC hk0 rfl dX7_setLink_3 (by decide) (by decide) tw_1427 tw_135 ⟨by decide, by decide, by decide +kernel⟩ tw_1424 tw_1426 tw_104 rfl rfl (sX7_noTwo (l := pm_l X) hG (q0) (x1) (x2) _ _ hk0 h) hab (Nat.le_of_ble_eq_true rfl) ?_
  clear h; intro r11 I10 h
  refine r_if_ne 6 46 hC dX7_setLink_6 (by decide) (fun hc => ?_) (fun hc => ?_)
  · replace h := h.1 hc
    refine r_iconst 46 (v := 0) hC dX7_setLink_46 (by decide) ?_
    exact r_iret 47 hC hE rfl dX7_setLink_47 ⟨_, rfl, h⟩
  · replace h := h.2 hc
    refine r_aload_n 9 hC dX7_setLink_9 rfl rfl ?_
    refine r_aload_n 10 hC dX7_setLink_10 rfl rfl ?_
    refine r_getR7 11 (r1 := q0 + 5) hC hk0 5 (by decide) tw_1184 rfl rfl dX7_setLink_11 ?_
    refine r_bipush 14 (v := 8) hC dX7_setLink_14 (by decide) ?_
    refine r_iload_n 16 hC dX7_setLink_16 rfl rfl ?_
    refine r_imul 17 hC dX7_setLink_17 ?_
    refine r_iload_n 18 hC dX7_setLink_18 rfl rfl ?_
    refine r_iadd 19 hC dX7_setLink_19 ?_
    refine r_iald 20 hC ((pm_s7 hG hk0).2.2.2.2.1) h.1 dX7_setLink_20 ?_
    replace h := h.2
    refine r_if_eq 21 34 hC dX7_setLink_21 (by decide) (fun hc => ?_) (fun hc => ?_)
    · replace h := h.1 hc
      refine r_iconst 34 (v := 1) hC dX7_setLink_34 (by decide) ?_
      refine r_goto 35 39 hC dX7_setLink_35 (by decide) ?_
      refine r_iconst 39 (v := 3) hC dX7_setLink_39 (by decide) ?_
      refine r_callV_i 40 (n := 2) [.int (1), .int (3)] [] hC hk0 rfl dX7_setLink_40 (by decide) (by decide) tw_1292 tw_135 ⟨by decide, by decide, by decide +kernel⟩ tw_1289 tw_1291 tw_81 rfl rfl (sX7_throwsIf (l := pm_l X) hG (q0) (1) (3) _ _ hk0 h) hab (Nat.le_of_ble_eq_true rfl) ?_
      clear h; intro r13 I12 h
      refine r_if_eq 43 48 hC dX7_setLink_43 (by decide) (fun hc => ?_) (fun hc => ?_)
      · replace h := h.1 hc
        refine r_aload_n 48 hC dX7_setLink_48 rfl rfl ?_
        refine r_callV_v 49 (n := 0) [] [] hC hk0 rfl dX7_setLink_49 (by decide) (by decide) tw_1591 tw_135 ⟨by decide, by decide, by decide +kernel⟩ tw_1588 tw_1590 tw_124 rfl rfl (sX7_keeps (l := pm_l X) hG (q0) _ _ hk0 h) hab (Nat.le_of_ble_eq_true rfl) ?_
        clear h; intro I14 h
        refine r_aload_n 52 hC dX7_setLink_52 rfl rfl ?_
        refine r_getR7 53 (r1 := q0 + 1) hC hk0 1 (by decide) tw_1180 rfl rfl dX7_setLink_53 ?_
        refine r_bipush 56 (v := 9) hC dX7_setLink_56 (by decide) ?_
        refine r_iload_n 58 hC dX7_setLink_58 rfl rfl ?_
        refine r_iadd 59 hC dX7_setLink_59 ?_
        refine r_dup2 60 hC dX7_setLink_60 rfl rfl ?_
        refine r_iald 61 hC ((pm_s7 hG hk0).1) h.1 dX7_setLink_61 ?_
        replace h := h.2
        refine r_iconst 62 (v := 1) hC dX7_setLink_62 (by decide) ?_
        refine r_iload_n 63 hC dX7_setLink_63 rfl rfl ?_
        refine r_ishl 64 hC dX7_setLink_64 ?_
        refine r_ixor 65 hC dX7_setLink_65 ?_
        refine r_iast 66 hC ((pm_s7 hG hk0).1) h.1 dX7_setLink_66 (fun I15 hI => ?_)
        replace h := h.2
        replace h := h I15 hI; clear hI
        refine r_aload_n 67 hC dX7_setLink_67 rfl rfl ?_
        refine r_getR7 68 (r1 := q0 + 1) hC hk0 1 (by decide) tw_1180 rfl rfl dX7_setLink_68 ?_
        refine r_bipush 71 (v := 9) hC dX7_setLink_71 (by decide) ?_
        refine r_iload_n 73 hC dX7_setLink_73 rfl rfl ?_
        refine r_iadd 74 hC dX7_setLink_74 ?_
        refine r_dup2 75 hC dX7_setLink_75 rfl rfl ?_
        refine r_iald 76 hC ((pm_s7 hG hk0).1) h.1 dX7_setLink_76 ?_
        replace h := h.2
        refine r_iconst 77 (v := 1) hC dX7_setLink_77 (by decide) ?_
        refine r_iload_n 78 hC dX7_setLink_78 rfl rfl ?_
        refine r_ishl 79 hC dX7_setLink_79 ?_
        refine r_ixor 80 hC dX7_setLink_80 ?_
        refine r_iast 81 hC ((pm_s7 hG hk0).1) h.1 dX7_setLink_81 (fun I16 hI => ?_)
        replace h := h.2
        replace h := h I16 hI; clear hI
        refine r_iconst 82 (v := 0) hC dX7_setLink_82 (by decide) ?_
        refine r_istore 83 [some (.ref (q0)), some (.int (x1)), some (.int (x2)), some (.int (x3)), some (.int (0)), none] hC dX7_setLink_83 (by decide) rfl ?_
        refine r_iconst 85 (v := 0) hC dX7_setLink_85 (by decide) ?_
        refine r_istore 86 [some (.ref (q0)), some (.int (x1)), some (.int (x2)), some (.int (x3)), some (.int (0)), some (.int (0))] hC dX7_setLink_86 (by decide) rfl ?_
        refine h (fun x19 x20 I18 => pm_R G X 6 0 0 88 [some (.ref (q0)), some (.int (x1)), some (.int (x2)), some (.int (x3)), some (.int (x19)), some (.int (x20))] [] I18) ?_
        clear h; intro x19 x20 I18 h
        refine r_iload 88 hC dX7_setLink_88 rfl ?_
        refine r_bipush 90 (v := 6) hC dX7_setLink_90 (by decide) ?_
        refine r_icmp_ge 92 131 hC dX7_setLink_92 (by decide) (fun hc => ?_) (fun hc => ?_)
        · replace h := h.1 hc
          refine r_iload 131 hC dX7_setLink_131 rfl ?_
          exact r_iret 133 hC hE rfl dX7_setLink_133 ⟨_, rfl, h⟩
        · replace h := h.2 hc
          refine r_iload_n 95 hC dX7_setLink_95 rfl rfl ?_
          refine r_if_ne 96 131 hC dX7_setLink_96 (by decide) (fun hc => ?_) (fun hc => ?_)
          · replace h := h.1 hc
            refine r_iload 131 hC dX7_setLink_131 rfl ?_
            exact r_iret 133 hC hE rfl dX7_setLink_133 ⟨_, rfl, h⟩
          · replace h := h.2 hc
            refine r_iload 99 hC dX7_setLink_99 rfl ?_
            refine r_aload_n 101 hC dX7_setLink_101 rfl rfl ?_
            refine r_iload 102 hC dX7_setLink_102 rfl ?_
            refine r_callV_i 104 (n := 1) [.int (x20)] [.int (x19)] hC hk0 rfl dX7_setLink_104 (by decide) (by decide) tw_1443 tw_135 ⟨by decide, by decide, by decide +kernel⟩ tw_1440 tw_1442 tw_106 rfl rfl (sX7_isOpen (l := pm_l X) hG (q0) (x20) _ _ hk0 h) hab (Nat.le_of_ble_eq_true rfl) ?_
            clear h; intro r22 I21 h
            refine r_if_eq 107 121 hC dX7_setLink_107 (by decide) (fun hc => ?_) (fun hc => ?_)
            · replace h := h.1 hc
              refine r_iconst 121 (v := 0) hC dX7_setLink_121 (by decide) ?_
              refine r_iadd 122 hC dX7_setLink_122 ?_
              refine r_istore 123 [some (.ref (q0)), some (.int (x1)), some (.int (x2)), some (.int (x3)), some (.int (x19 + 0)), some (.int (x20))] hC dX7_setLink_123 (by decide) rfl ?_
              refine r_iinc 125 (v := x20 + 1) [some (.ref (q0)), some (.int (x1)), some (.int (x2)), some (.int (x3)), some (.int (x19 + 0)), some (.int (x20 + 1))] hC dX7_setLink_125 rfl (by rfl) (by decide) rfl ?_
              refine r_goto 128 88 hC dX7_setLink_128 (by decide) ?_
              exact h
            · replace h := h.2 hc
              refine r_aload_n 110 hC dX7_setLink_110 rfl rfl ?_
              refine r_iload 111 hC dX7_setLink_111 rfl ?_
              refine r_iload_n 113 hC dX7_setLink_113 rfl rfl ?_
              refine r_iload_n 114 hC dX7_setLink_114 rfl rfl ?_
              refine r_callV_i 115 (n := 3) [.int (x20), .int (x1), .int (x2)] [.int (x19)] hC hk0 rfl dX7_setLink_115 (by decide) (by decide) tw_1614 tw_135 ⟨by decide, by decide, by decide +kernel⟩ tw_1611 tw_1613 tw_125 rfl rfl (sX7_breaks (l := pm_l X) hG (q0) (x20) (x1) (x2) _ _ hk0 h) hab (Nat.le_of_ble_eq_true rfl) ?_
              clear h; intro r24 I23 h
              refine r_goto 118 122 hC dX7_setLink_118 (by decide) ?_
              refine r_iadd 122 hC dX7_setLink_122 ?_
              refine r_istore 123 [some (.ref (q0)), some (.int (x1)), some (.int (x2)), some (.int (x3)), some (.int (x19 + r24)), some (.int (x20))] hC dX7_setLink_123 (by decide) rfl ?_
              refine r_iinc 125 (v := x20 + 1) [some (.ref (q0)), some (.int (x1)), some (.int (x2)), some (.int (x3)), some (.int (x19 + r24)), some (.int (x20 + 1))] hC dX7_setLink_125 rfl (by rfl) (by decide) rfl ?_
              refine r_goto 128 88 hC dX7_setLink_128 (by decide) ?_
              exact h
      · replace h := h.2 hc
        refine r_iconst 46 (v := 0) hC dX7_setLink_46 (by decide) ?_
        exact r_iret 47 hC hE rfl dX7_setLink_47 ⟨_, rfl, h⟩
    · replace h := h.2 hc
      refine r_aload_n 24 hC dX7_setLink_24 rfl rfl ?_
      refine r_iload_n 25 hC dX7_setLink_25 rfl rfl ?_
      refine r_iload_n 26 hC dX7_setLink_26 rfl rfl ?_
      refine r_callV_i 27 (n := 2) [.int (x1), .int (x2)] [.ref (q0)] hC hk0 rfl dX7_setLink_27 (by decide) (by decide) tw_1419 tw_135 ⟨by decide, by decide, by decide +kernel⟩ tw_1416 tw_1418 tw_103 rfl rfl (sX7_isUp (l := pm_l X) hG (q0) (x1) (x2) _ _ hk0 h) hab (Nat.le_of_ble_eq_true rfl) ?_
      clear h; intro r26 I25 h
      refine r_iload_n 30 hC dX7_setLink_30 rfl rfl ?_
      refine r_icmp_ne 31 38 hC dX7_setLink_31 (by decide) (fun hc => ?_) (fun hc => ?_)
      · replace h := h.1 hc
        refine r_iconst 38 (v := 0) hC dX7_setLink_38 (by decide) ?_
        refine r_iconst 39 (v := 3) hC dX7_setLink_39 (by decide) ?_
        refine r_callV_i 40 (n := 2) [.int (0), .int (3)] [] hC hk0 rfl dX7_setLink_40 (by decide) (by decide) tw_1292 tw_135 ⟨by decide, by decide, by decide +kernel⟩ tw_1289 tw_1291 tw_81 rfl rfl (sX7_throwsIf (l := pm_l X) hG (q0) (0) (3) _ _ hk0 h) hab (Nat.le_of_ble_eq_true rfl) ?_
        clear h; intro r28 I27 h
        refine r_if_eq 43 48 hC dX7_setLink_43 (by decide) (fun hc => ?_) (fun hc => ?_)
        · replace h := h.1 hc
          refine r_aload_n 48 hC dX7_setLink_48 rfl rfl ?_
          refine r_callV_v 49 (n := 0) [] [] hC hk0 rfl dX7_setLink_49 (by decide) (by decide) tw_1591 tw_135 ⟨by decide, by decide, by decide +kernel⟩ tw_1588 tw_1590 tw_124 rfl rfl (sX7_keeps (l := pm_l X) hG (q0) _ _ hk0 h) hab (Nat.le_of_ble_eq_true rfl) ?_
          clear h; intro I29 h
          refine r_aload_n 52 hC dX7_setLink_52 rfl rfl ?_
          refine r_getR7 53 (r1 := q0 + 1) hC hk0 1 (by decide) tw_1180 rfl rfl dX7_setLink_53 ?_
          refine r_bipush 56 (v := 9) hC dX7_setLink_56 (by decide) ?_
          refine r_iload_n 58 hC dX7_setLink_58 rfl rfl ?_
          refine r_iadd 59 hC dX7_setLink_59 ?_
          refine r_dup2 60 hC dX7_setLink_60 rfl rfl ?_
          refine r_iald 61 hC ((pm_s7 hG hk0).1) h.1 dX7_setLink_61 ?_
          replace h := h.2
          refine r_iconst 62 (v := 1) hC dX7_setLink_62 (by decide) ?_
          refine r_iload_n 63 hC dX7_setLink_63 rfl rfl ?_
          refine r_ishl 64 hC dX7_setLink_64 ?_
          refine r_ixor 65 hC dX7_setLink_65 ?_
          refine r_iast 66 hC ((pm_s7 hG hk0).1) h.1 dX7_setLink_66 (fun I30 hI => ?_)
          replace h := h.2
          replace h := h I30 hI; clear hI
          refine r_aload_n 67 hC dX7_setLink_67 rfl rfl ?_
          refine r_getR7 68 (r1 := q0 + 1) hC hk0 1 (by decide) tw_1180 rfl rfl dX7_setLink_68 ?_
          refine r_bipush 71 (v := 9) hC dX7_setLink_71 (by decide) ?_
          refine r_iload_n 73 hC dX7_setLink_73 rfl rfl ?_
          refine r_iadd 74 hC dX7_setLink_74 ?_
          refine r_dup2 75 hC dX7_setLink_75 rfl rfl ?_
          refine r_iald 76 hC ((pm_s7 hG hk0).1) h.1 dX7_setLink_76 ?_
          replace h := h.2
          refine r_iconst 77 (v := 1) hC dX7_setLink_77 (by decide) ?_
          refine r_iload_n 78 hC dX7_setLink_78 rfl rfl ?_
          refine r_ishl 79 hC dX7_setLink_79 ?_
          refine r_ixor 80 hC dX7_setLink_80 ?_
          refine r_iast 81 hC ((pm_s7 hG hk0).1) h.1 dX7_setLink_81 (fun I31 hI => ?_)
          replace h := h.2
          replace h := h I31 hI; clear hI
          refine r_iconst 82 (v := 0) hC dX7_setLink_82 (by decide) ?_
          refine r_istore 83 [some (.ref (q0)), some (.int (x1)), some (.int (x2)), some (.int (x3)), some (.int (0)), none] hC dX7_setLink_83 (by decide) rfl ?_
          refine r_iconst 85 (v := 0) hC dX7_setLink_85 (by decide) ?_
          refine r_istore 86 [some (.ref (q0)), some (.int (x1)), some (.int (x2)), some (.int (x3)), some (.int (0)), some (.int (0))] hC dX7_setLink_86 (by decide) rfl ?_
          refine h (fun x34 x35 I33 => pm_R G X 6 0 0 88 [some (.ref (q0)), some (.int (x1)), some (.int (x2)), some (.int (x3)), some (.int (x34)), some (.int (x35))] [] I33) ?_
          clear h; intro x34 x35 I33 h
          refine r_iload 88 hC dX7_setLink_88 rfl ?_
          refine r_bipush 90 (v := 6) hC dX7_setLink_90 (by decide) ?_
          refine r_icmp_ge 92 131 hC dX7_setLink_92 (by decide) (fun hc => ?_) (fun hc => ?_)
          · replace h := h.1 hc
            refine r_iload 131 hC dX7_setLink_131 rfl ?_
            exact r_iret 133 hC hE rfl dX7_setLink_133 ⟨_, rfl, h⟩
          · replace h := h.2 hc
            refine r_iload_n 95 hC dX7_setLink_95 rfl rfl ?_
            refine r_if_ne 96 131 hC dX7_setLink_96 (by decide) (fun hc => ?_) (fun hc => ?_)
            · replace h := h.1 hc
              refine r_iload 131 hC dX7_setLink_131 rfl ?_
              exact r_iret 133 hC hE rfl dX7_setLink_133 ⟨_, rfl, h⟩
            · replace h := h.2 hc
              refine r_iload 99 hC dX7_setLink_99 rfl ?_
              refine r_aload_n 101 hC dX7_setLink_101 rfl rfl ?_
              refine r_iload 102 hC dX7_setLink_102 rfl ?_
              refine r_callV_i 104 (n := 1) [.int (x35)] [.int (x34)] hC hk0 rfl dX7_setLink_104 (by decide) (by decide) tw_1443 tw_135 ⟨by decide, by decide, by decide +kernel⟩ tw_1440 tw_1442 tw_106 rfl rfl (sX7_isOpen (l := pm_l X) hG (q0) (x35) _ _ hk0 h) hab (Nat.le_of_ble_eq_true rfl) ?_
              clear h; intro r37 I36 h
              refine r_if_eq 107 121 hC dX7_setLink_107 (by decide) (fun hc => ?_) (fun hc => ?_)
              · replace h := h.1 hc
                refine r_iconst 121 (v := 0) hC dX7_setLink_121 (by decide) ?_
                refine r_iadd 122 hC dX7_setLink_122 ?_
                refine r_istore 123 [some (.ref (q0)), some (.int (x1)), some (.int (x2)), some (.int (x3)), some (.int (x34 + 0)), some (.int (x35))] hC dX7_setLink_123 (by decide) rfl ?_
                refine r_iinc 125 (v := x35 + 1) [some (.ref (q0)), some (.int (x1)), some (.int (x2)), some (.int (x3)), some (.int (x34 + 0)), some (.int (x35 + 1))] hC dX7_setLink_125 rfl (by rfl) (by decide) rfl ?_
                refine r_goto 128 88 hC dX7_setLink_128 (by decide) ?_
                exact h
              · replace h := h.2 hc
                refine r_aload_n 110 hC dX7_setLink_110 rfl rfl ?_
                refine r_iload 111 hC dX7_setLink_111 rfl ?_
                refine r_iload_n 113 hC dX7_setLink_113 rfl rfl ?_
                refine r_iload_n 114 hC dX7_setLink_114 rfl rfl ?_
                refine r_callV_i 115 (n := 3) [.int (x35), .int (x1), .int (x2)] [.int (x34)] hC hk0 rfl dX7_setLink_115 (by decide) (by decide) tw_1614 tw_135 ⟨by decide, by decide, by decide +kernel⟩ tw_1611 tw_1613 tw_125 rfl rfl (sX7_breaks (l := pm_l X) hG (q0) (x35) (x1) (x2) _ _ hk0 h) hab (Nat.le_of_ble_eq_true rfl) ?_
                clear h; intro r39 I38 h
                refine r_goto 118 122 hC dX7_setLink_118 (by decide) ?_
                refine r_iadd 122 hC dX7_setLink_122 ?_
                refine r_istore 123 [some (.ref (q0)), some (.int (x1)), some (.int (x2)), some (.int (x3)), some (.int (x34 + r39)), some (.int (x35))] hC dX7_setLink_123 (by decide) rfl ?_
                refine r_iinc 125 (v := x35 + 1) [some (.ref (q0)), some (.int (x1)), some (.int (x2)), some (.int (x3)), some (.int (x34 + r39)), some (.int (x35 + 1))] hC dX7_setLink_125 rfl (by rfl) (by decide) rfl ?_
                refine r_goto 128 88 hC dX7_setLink_128 (by decide) ?_
                exact h
        · replace h := h.2 hc
          refine r_iconst 46 (v := 0) hC dX7_setLink_46 (by decide) ?_
          exact r_iret 47 hC hE rfl dX7_setLink_47 ⟨_, rfl, h⟩
      · replace h := h.2 hc
        refine r_iconst 34 (v := 1) hC dX7_setLink_34 (by decide) ?_
        refine r_goto 35 39 hC dX7_setLink_35 (by decide) ?_
        refine r_iconst 39 (v := 3) hC dX7_setLink_39 (by decide) ?_
        refine r_callV_i 40 (n := 2) [.int (1), .int (3)] [] hC hk0 rfl dX7_setLink_40 (by decide) (by decide) tw_1292 tw_135 ⟨by decide, by decide, by decide +kernel⟩ tw_1289 tw_1291 tw_81 rfl rfl (sX7_throwsIf (l := pm_l X) hG (q0) (1) (3) _ _ hk0 h) hab (Nat.le_of_ble_eq_true rfl) ?_
        clear h; intro r41 I40 h
        refine r_if_eq 43 48 hC dX7_setLink_43 (by decide) (fun hc => ?_) (fun hc => ?_)
        · replace h := h.1 hc
          refine r_aload_n 48 hC dX7_setLink_48 rfl rfl ?_
          refine r_callV_v 49 (n := 0) [] [] hC hk0 rfl dX7_setLink_49 (by decide) (by decide) tw_1591 tw_135 ⟨by decide, by decide, by decide +kernel⟩ tw_1588 tw_1590 tw_124 rfl rfl (sX7_keeps (l := pm_l X) hG (q0) _ _ hk0 h) hab (Nat.le_of_ble_eq_true rfl) ?_
          clear h; intro I42 h
          refine r_aload_n 52 hC dX7_setLink_52 rfl rfl ?_
          refine r_getR7 53 (r1 := q0 + 1) hC hk0 1 (by decide) tw_1180 rfl rfl dX7_setLink_53 ?_
          refine r_bipush 56 (v := 9) hC dX7_setLink_56 (by decide) ?_
          refine r_iload_n 58 hC dX7_setLink_58 rfl rfl ?_
          refine r_iadd 59 hC dX7_setLink_59 ?_
          refine r_dup2 60 hC dX7_setLink_60 rfl rfl ?_
          refine r_iald 61 hC ((pm_s7 hG hk0).1) h.1 dX7_setLink_61 ?_
          replace h := h.2
          refine r_iconst 62 (v := 1) hC dX7_setLink_62 (by decide) ?_
          refine r_iload_n 63 hC dX7_setLink_63 rfl rfl ?_
          refine r_ishl 64 hC dX7_setLink_64 ?_
          refine r_ixor 65 hC dX7_setLink_65 ?_
          refine r_iast 66 hC ((pm_s7 hG hk0).1) h.1 dX7_setLink_66 (fun I43 hI => ?_)
          replace h := h.2
          replace h := h I43 hI; clear hI
          refine r_aload_n 67 hC dX7_setLink_67 rfl rfl ?_
          refine r_getR7 68 (r1 := q0 + 1) hC hk0 1 (by decide) tw_1180 rfl rfl dX7_setLink_68 ?_
          refine r_bipush 71 (v := 9) hC dX7_setLink_71 (by decide) ?_
          refine r_iload_n 73 hC dX7_setLink_73 rfl rfl ?_
          refine r_iadd 74 hC dX7_setLink_74 ?_
          refine r_dup2 75 hC dX7_setLink_75 rfl rfl ?_
          refine r_iald 76 hC ((pm_s7 hG hk0).1) h.1 dX7_setLink_76 ?_
          replace h := h.2
          refine r_iconst 77 (v := 1) hC dX7_setLink_77 (by decide) ?_
          refine r_iload_n 78 hC dX7_setLink_78 rfl rfl ?_
          refine r_ishl 79 hC dX7_setLink_79 ?_
          refine r_ixor 80 hC dX7_setLink_80 ?_
          refine r_iast 81 hC ((pm_s7 hG hk0).1) h.1 dX7_setLink_81 (fun I44 hI => ?_)
          replace h := h.2
          replace h := h I44 hI; clear hI
          refine r_iconst 82 (v := 0) hC dX7_setLink_82 (by decide) ?_
          refine r_istore 83 [some (.ref (q0)), some (.int (x1)), some (.int (x2)), some (.int (x3)), some (.int (0)), none] hC dX7_setLink_83 (by decide) rfl ?_
          refine r_iconst 85 (v := 0) hC dX7_setLink_85 (by decide) ?_
          refine r_istore 86 [some (.ref (q0)), some (.int (x1)), some (.int (x2)), some (.int (x3)), some (.int (0)), some (.int (0))] hC dX7_setLink_86 (by decide) rfl ?_
          refine h (fun x47 x48 I46 => pm_R G X 6 0 0 88 [some (.ref (q0)), some (.int (x1)), some (.int (x2)), some (.int (x3)), some (.int (x47)), some (.int (x48))] [] I46) ?_
          clear h; intro x47 x48 I46 h
          refine r_iload 88 hC dX7_setLink_88 rfl ?_
          refine r_bipush 90 (v := 6) hC dX7_setLink_90 (by decide) ?_
          refine r_icmp_ge 92 131 hC dX7_setLink_92 (by decide) (fun hc => ?_) (fun hc => ?_)
          · replace h := h.1 hc
            refine r_iload 131 hC dX7_setLink_131 rfl ?_
            exact r_iret 133 hC hE rfl dX7_setLink_133 ⟨_, rfl, h⟩
          · replace h := h.2 hc
            refine r_iload_n 95 hC dX7_setLink_95 rfl rfl ?_
            refine r_if_ne 96 131 hC dX7_setLink_96 (by decide) (fun hc => ?_) (fun hc => ?_)
            · replace h := h.1 hc
              refine r_iload 131 hC dX7_setLink_131 rfl ?_
              exact r_iret 133 hC hE rfl dX7_setLink_133 ⟨_, rfl, h⟩
            · replace h := h.2 hc
              refine r_iload 99 hC dX7_setLink_99 rfl ?_
              refine r_aload_n 101 hC dX7_setLink_101 rfl rfl ?_
              refine r_iload 102 hC dX7_setLink_102 rfl ?_
              refine r_callV_i 104 (n := 1) [.int (x48)] [.int (x47)] hC hk0 rfl dX7_setLink_104 (by decide) (by decide) tw_1443 tw_135 ⟨by decide, by decide, by decide +kernel⟩ tw_1440 tw_1442 tw_106 rfl rfl (sX7_isOpen (l := pm_l X) hG (q0) (x48) _ _ hk0 h) hab (Nat.le_of_ble_eq_true rfl) ?_
              clear h; intro r50 I49 h
              refine r_if_eq 107 121 hC dX7_setLink_107 (by decide) (fun hc => ?_) (fun hc => ?_)
              · replace h := h.1 hc
                refine r_iconst 121 (v := 0) hC dX7_setLink_121 (by decide) ?_
                refine r_iadd 122 hC dX7_setLink_122 ?_
                refine r_istore 123 [some (.ref (q0)), some (.int (x1)), some (.int (x2)), some (.int (x3)), some (.int (x47 + 0)), some (.int (x48))] hC dX7_setLink_123 (by decide) rfl ?_
                refine r_iinc 125 (v := x48 + 1) [some (.ref (q0)), some (.int (x1)), some (.int (x2)), some (.int (x3)), some (.int (x47 + 0)), some (.int (x48 + 1))] hC dX7_setLink_125 rfl (by rfl) (by decide) rfl ?_
                refine r_goto 128 88 hC dX7_setLink_128 (by decide) ?_
                exact h
              · replace h := h.2 hc
                refine r_aload_n 110 hC dX7_setLink_110 rfl rfl ?_
                refine r_iload 111 hC dX7_setLink_111 rfl ?_
                refine r_iload_n 113 hC dX7_setLink_113 rfl rfl ?_
                refine r_iload_n 114 hC dX7_setLink_114 rfl rfl ?_
                refine r_callV_i 115 (n := 3) [.int (x48), .int (x1), .int (x2)] [.int (x47)] hC hk0 rfl dX7_setLink_115 (by decide) (by decide) tw_1614 tw_135 ⟨by decide, by decide, by decide +kernel⟩ tw_1611 tw_1613 tw_125 rfl rfl (sX7_breaks (l := pm_l X) hG (q0) (x48) (x1) (x2) _ _ hk0 h) hab (Nat.le_of_ble_eq_true rfl) ?_
                clear h; intro r52 I51 h
                refine r_goto 118 122 hC dX7_setLink_118 (by decide) ?_
                refine r_iadd 122 hC dX7_setLink_122 ?_
                refine r_istore 123 [some (.ref (q0)), some (.int (x1)), some (.int (x2)), some (.int (x3)), some (.int (x47 + r52)), some (.int (x48))] hC dX7_setLink_123 (by decide) rfl ?_
                refine r_iinc 125 (v := x48 + 1) [some (.ref (q0)), some (.int (x1)), some (.int (x2)), some (.int (x3)), some (.int (x47 + r52)), some (.int (x48 + 1))] hC dX7_setLink_125 rfl (by rfl) (by decide) rfl ?_
                refine r_goto 128 88 hC dX7_setLink_128 (by decide) ?_
                exact h
        · replace h := h.2 hc
          refine r_iconst 46 (v := 0) hC dX7_setLink_46 (by decide) ?_
          exact r_iret 47 hC hE rfl dX7_setLink_47 ⟨_, rfl, h⟩

def wX7_close (G : pm_G) (q0 : Nat) (x1 : Int32) (I : pm_I) (K : Int32 → pm_I → Prop) : Prop :=
  wX7_noSession G (q0) (x1) I (fun r11 I10 => (¬ r11 = 0 → (K (0) I10)) ∧ (r11 = 0 → (wX7_undelivered G (q0) (x1) I10 (fun r13 I12 => (r13 ≤ 0 → (wX7_throwsIf G (q0) (0) (2) I12 (fun r15 I14 => (r15 = 0 → (wX7_keeps G (q0) I14 (fun I16 => wX7_of G (x1) (0) I16 (fun r18 I17 => vp_in (r18) 821 ∧ (∀ I19 : pm_I, I19 = pm_up I17 (q0 + 1) ((r18).toNatClampNeg) (0) → (wX7_of G (x1) (7) I19 (fun r21 I20 => vp_in (r21) 821 ∧ (K (I20 (q0 + 1) (r21).toNatClampNeg) I20)))))))) ∧ (¬ r15 = 0 → (K (0) I14))))) ∧ (¬ r13 ≤ 0 → (wX7_throwsIf G (q0) (1) (2) I12 (fun r23 I22 => (r23 = 0 → (wX7_keeps G (q0) I22 (fun I24 => wX7_of G (x1) (0) I24 (fun r26 I25 => vp_in (r26) 821 ∧ (∀ I27 : pm_I, I27 = pm_up I25 (q0 + 1) ((r26).toNatClampNeg) (0) → (wX7_of G (x1) (7) I27 (fun r29 I28 => vp_in (r29) 821 ∧ (K (I28 (q0 + 1) (r29).toNatClampNeg) I28)))))))) ∧ (¬ r23 = 0 → (K (0) I22)))))))))

set_option maxRecDepth 20000 in
theorem sX7_close {G : pm_G} {l : Launch} (hG : pm_ok G) (q0 : Nat) (x1 : Int32) (I : pm_I) (K : Int32 → pm_I → Prop) (hk0 : pm_k G q0 (.inl 7)) (h : wX7_close G q0 x1 I K) : pm_Ct G l yX7_close cX7_close 2 (some .int) { frames := 4, cells := 0, slots := 0, locals := 321 } [.ref (q0), .int (x1)] I (pm_Ki K) := by
  unfold wX7_close at h
  refine pm_enter (by decide +kernel) hG rfl (Nat.le_of_ble_eq_true rfl) rfl (fun X hl hC hE => ?_)
  subst hl
  have hab : 0 ≤ 0 ∧ 0 ≤ 0 := ⟨Nat.le_refl 0, Nat.le_refl 0⟩
  have hC : pm_C G X cX7_close 2 RX7 (some .int) { frames := 4, cells := 0, slots := 0, locals := 321 } := hC
  refine r_aload_n 0 hC dX7_close_0 rfl rfl ?_
  refine r_iload_n 1 hC dX7_close_1 rfl rfl ?_
  refine r_callV_i 2 (n := 1) [.int (x1)] [] hC hk0 rfl dX7_close_2 (by decide) (by decide) tw_1497 tw_135 ⟨by decide, by decide, by decide +kernel⟩ tw_1494 tw_1496 tw_113 rfl rfl (sX7_noSession (l := pm_l X) hG (q0) (x1) _ _ hk0 h) hab (Nat.le_of_ble_eq_true rfl) ?_
  clear h; intro r11 I10 h
  refine r_if_ne 5 29 hC dX7_close_5 (by decide) (fun hc => ?_) (fun hc => ?_)
  · replace h := h.1 hc
    refine r_iconst 29 (v := 0) hC dX7_close_29 (by decide) ?_
    exact r_iret 30 hC hE rfl dX7_close_30 ⟨_, rfl, h⟩
  · replace h := h.2 hc
    refine r_aload_n 8 hC dX7_close_8 rfl rfl ?_
    refine r_aload_n 9 hC dX7_close_9 rfl rfl ?_
    refine r_iload_n 10 hC dX7_close_10 rfl rfl ?_
    refine r_callV_i 11 (n := 1) [.int (x1)] [.ref (q0)] hC hk0 rfl dX7_close_11 (by decide) (by decide) tw_1517 tw_135 ⟨by decide, by decide, by decide +kernel⟩ tw_1514 tw_1516 tw_115 rfl rfl (sX7_undelivered (l := pm_l X) hG (q0) (x1) _ _ hk0 h) hab (Nat.le_of_ble_eq_true rfl) ?_
    clear h; intro r13 I12 h
    refine r_if_le 14 21 hC dX7_close_14 (by decide) (fun hc => ?_) (fun hc => ?_)
    · replace h := h.1 hc
      refine r_iconst 21 (v := 0) hC dX7_close_21 (by decide) ?_
      refine r_iconst 22 (v := 2) hC dX7_close_22 (by decide) ?_
      refine r_callV_i 23 (n := 2) [.int (0), .int (2)] [] hC hk0 rfl dX7_close_23 (by decide) (by decide) tw_1292 tw_135 ⟨by decide, by decide, by decide +kernel⟩ tw_1289 tw_1291 tw_81 rfl rfl (sX7_throwsIf (l := pm_l X) hG (q0) (0) (2) _ _ hk0 h) hab (Nat.le_of_ble_eq_true rfl) ?_
      clear h; intro r15 I14 h
      refine r_if_eq 26 31 hC dX7_close_26 (by decide) (fun hc => ?_) (fun hc => ?_)
      · replace h := h.1 hc
        refine r_aload_n 31 hC dX7_close_31 rfl rfl ?_
        refine r_callV_v 32 (n := 0) [] [] hC hk0 rfl dX7_close_32 (by decide) (by decide) tw_1591 tw_135 ⟨by decide, by decide, by decide +kernel⟩ tw_1588 tw_1590 tw_124 rfl rfl (sX7_keeps (l := pm_l X) hG (q0) _ _ hk0 h) hab (Nat.le_of_ble_eq_true rfl) ?_
        clear h; intro I16 h
        refine r_aload_n 35 hC dX7_close_35 rfl rfl ?_
        refine r_getR7 36 (r1 := q0 + 1) hC hk0 1 (by decide) tw_1180 rfl rfl dX7_close_36 ?_
        refine r_iload_n 39 hC dX7_close_39 rfl rfl ?_
        refine r_iconst 40 (v := 0) hC dX7_close_40 (by decide) ?_
        refine r_callS_i 41 (n := 2) [.int (x1), .int (0)] [.ref (q0 + 1)] hC dX7_close_41 (by decide) (by decide) tw_1446 tw_135 ⟨by decide, by decide, by decide +kernel⟩ tw_1444 tw_1445 rfl rfl (sX7_of (l := pm_l X) hG (x1) (0) _ _ h) hab (Nat.le_of_ble_eq_true rfl) ?_
        clear h; intro r18 I17 h
        refine r_iconst 44 (v := 0) hC dX7_close_44 (by decide) ?_
        refine r_iast 45 hC ((pm_s7 hG hk0).1) h.1 dX7_close_45 (fun I19 hI => ?_)
        replace h := h.2
        replace h := h I19 hI; clear hI
        refine r_aload_n 46 hC dX7_close_46 rfl rfl ?_
        refine r_getR7 47 (r1 := q0 + 1) hC hk0 1 (by decide) tw_1180 rfl rfl dX7_close_47 ?_
        refine r_iload_n 50 hC dX7_close_50 rfl rfl ?_
        refine r_bipush 51 (v := 7) hC dX7_close_51 (by decide) ?_
        refine r_callS_i 53 (n := 2) [.int (x1), .int (7)] [.ref (q0 + 1)] hC dX7_close_53 (by decide) (by decide) tw_1446 tw_135 ⟨by decide, by decide, by decide +kernel⟩ tw_1444 tw_1445 rfl rfl (sX7_of (l := pm_l X) hG (x1) (7) _ _ h) hab (Nat.le_of_ble_eq_true rfl) ?_
        clear h; intro r21 I20 h
        refine r_iald 56 hC ((pm_s7 hG hk0).1) h.1 dX7_close_56 ?_
        replace h := h.2
        exact r_iret 57 hC hE rfl dX7_close_57 ⟨_, rfl, h⟩
      · replace h := h.2 hc
        refine r_iconst 29 (v := 0) hC dX7_close_29 (by decide) ?_
        exact r_iret 30 hC hE rfl dX7_close_30 ⟨_, rfl, h⟩
    · replace h := h.2 hc
      refine r_iconst 17 (v := 1) hC dX7_close_17 (by decide) ?_
      refine r_goto 18 22 hC dX7_close_18 (by decide) ?_
      refine r_iconst 22 (v := 2) hC dX7_close_22 (by decide) ?_
      refine r_callV_i 23 (n := 2) [.int (1), .int (2)] [] hC hk0 rfl dX7_close_23 (by decide) (by decide) tw_1292 tw_135 ⟨by decide, by decide, by decide +kernel⟩ tw_1289 tw_1291 tw_81 rfl rfl (sX7_throwsIf (l := pm_l X) hG (q0) (1) (2) _ _ hk0 h) hab (Nat.le_of_ble_eq_true rfl) ?_
      clear h; intro r23 I22 h
      refine r_if_eq 26 31 hC dX7_close_26 (by decide) (fun hc => ?_) (fun hc => ?_)
      · replace h := h.1 hc
        refine r_aload_n 31 hC dX7_close_31 rfl rfl ?_
        refine r_callV_v 32 (n := 0) [] [] hC hk0 rfl dX7_close_32 (by decide) (by decide) tw_1591 tw_135 ⟨by decide, by decide, by decide +kernel⟩ tw_1588 tw_1590 tw_124 rfl rfl (sX7_keeps (l := pm_l X) hG (q0) _ _ hk0 h) hab (Nat.le_of_ble_eq_true rfl) ?_
        clear h; intro I24 h
        refine r_aload_n 35 hC dX7_close_35 rfl rfl ?_
        refine r_getR7 36 (r1 := q0 + 1) hC hk0 1 (by decide) tw_1180 rfl rfl dX7_close_36 ?_
        refine r_iload_n 39 hC dX7_close_39 rfl rfl ?_
        refine r_iconst 40 (v := 0) hC dX7_close_40 (by decide) ?_
        refine r_callS_i 41 (n := 2) [.int (x1), .int (0)] [.ref (q0 + 1)] hC dX7_close_41 (by decide) (by decide) tw_1446 tw_135 ⟨by decide, by decide, by decide +kernel⟩ tw_1444 tw_1445 rfl rfl (sX7_of (l := pm_l X) hG (x1) (0) _ _ h) hab (Nat.le_of_ble_eq_true rfl) ?_
        clear h; intro r26 I25 h
        refine r_iconst 44 (v := 0) hC dX7_close_44 (by decide) ?_
        refine r_iast 45 hC ((pm_s7 hG hk0).1) h.1 dX7_close_45 (fun I27 hI => ?_)
        replace h := h.2
        replace h := h I27 hI; clear hI
        refine r_aload_n 46 hC dX7_close_46 rfl rfl ?_
        refine r_getR7 47 (r1 := q0 + 1) hC hk0 1 (by decide) tw_1180 rfl rfl dX7_close_47 ?_
        refine r_iload_n 50 hC dX7_close_50 rfl rfl ?_
        refine r_bipush 51 (v := 7) hC dX7_close_51 (by decide) ?_
        refine r_callS_i 53 (n := 2) [.int (x1), .int (7)] [.ref (q0 + 1)] hC dX7_close_53 (by decide) (by decide) tw_1446 tw_135 ⟨by decide, by decide, by decide +kernel⟩ tw_1444 tw_1445 rfl rfl (sX7_of (l := pm_l X) hG (x1) (7) _ _ h) hab (Nat.le_of_ble_eq_true rfl) ?_
        clear h; intro r29 I28 h
        refine r_iald 56 hC ((pm_s7 hG hk0).1) h.1 dX7_close_56 ?_
        replace h := h.2
        exact r_iret 57 hC hE rfl dX7_close_57 ⟨_, rfl, h⟩
      · replace h := h.2 hc
        refine r_iconst 29 (v := 0) hC dX7_close_29 (by decide) ?_
        exact r_iret 30 hC hE rfl dX7_close_30 ⟨_, rfl, h⟩

def wX7_undo (G : pm_G) (q0 : Nat) (I : pm_I) (K : Int32 → pm_I → Prop) : Prop :=
  ∀ I10 : pm_I, I10 = pm_up I (q0) 0 (0) → ((¬ (I10 q0 26) = 0 → (∀ I11 : pm_I, I11 = pm_up I10 (q0) 26 ((I10 q0 26) - 1) → (wX7_copies G (q0 + 13) 8210 (821 * (I11 q0 26)) (q0 + 1) 821 (0) (821) I11 (fun I12 => K (I12 (q0) 26) I12)))) ∧ ((I10 q0 26) = 0 → (K (-1) I10)))

set_option maxRecDepth 20000 in
theorem sX7_undo {G : pm_G} {l : Launch} (hG : pm_ok G) (q0 : Nat) (I : pm_I) (K : Int32 → pm_I → Prop) (hk0 : pm_k G q0 (.inl 7)) (h : wX7_undo G q0 I K) : pm_Ct G l yX7_undo cX7_undo 1 (some .int) { frames := 2, cells := 0, slots := 0, locals := 153 } [.ref (q0)] I (pm_Ki K) := by
  unfold wX7_undo at h
  refine pm_enter (by decide +kernel) hG rfl (Nat.le_of_ble_eq_true rfl) rfl (fun X hl hC hE => ?_)
  subst hl
  have hab : 0 ≤ 0 ∧ 0 ≤ 0 := ⟨Nat.le_refl 0, Nat.le_refl 0⟩
  have hC : pm_C G X cX7_undo 1 RX7 (some .int) { frames := 2, cells := 0, slots := 0, locals := 153 } := hC
  refine r_aload_n 0 hC dX7_undo_0 rfl rfl ?_
  refine r_iconst 1 (v := 0) hC dX7_undo_1 (by decide) ?_
  refine r_putI7 2 hC hk0 0 (by decide) tw_1179 rfl rfl (by decide +kernel) ps_7_0 dX7_undo_2 (fun I10 hI => ?_)
  replace h := h I10 hI; clear hI
  refine r_aload_n 5 hC dX7_undo_5 rfl rfl ?_
  refine r_getI7 6 (x := I10 (q0) 26) hC hk0 26 (by decide) tw_1205 rfl rfl dX7_undo_6 ?_
  refine r_if_ne 9 14 hC dX7_undo_9 (by decide) (fun hc => ?_) (fun hc => ?_)
  · replace h := h.1 hc
    refine r_aload_n 14 hC dX7_undo_14 rfl rfl ?_
    refine r_dup 15 hC dX7_undo_15 rfl ?_
    refine r_getI7 16 (x := I10 (q0) 26) hC hk0 26 (by decide) tw_1205 rfl rfl dX7_undo_16 ?_
    refine r_iconst 19 (v := 1) hC dX7_undo_19 (by decide) ?_
    refine r_isub 20 hC dX7_undo_20 ?_
    refine r_putI7 21 hC hk0 26 (by decide) tw_1205 rfl rfl (by decide +kernel) ps_7_26 dX7_undo_21 (fun I11 hI => ?_)
    replace h := h I11 hI; clear hI
    refine r_aload_n 24 hC dX7_undo_24 rfl rfl ?_
    refine r_getR7 25 (r1 := q0 + 13) hC hk0 27 (by decide) tw_1206 rfl rfl dX7_undo_25 ?_
    refine r_sipush 28 (v := 821) hC dX7_undo_28 (by decide) ?_
    refine r_aload_n 31 hC dX7_undo_31 rfl rfl ?_
    refine r_getI7 32 (x := I11 (q0) 26) hC hk0 26 (by decide) tw_1205 rfl rfl dX7_undo_32 ?_
    refine r_imul 35 hC dX7_undo_35 ?_
    refine r_aload_n 36 hC dX7_undo_36 rfl rfl ?_
    refine r_getR7 37 (r1 := q0 + 1) hC hk0 1 (by decide) tw_1180 rfl rfl dX7_undo_37 ?_
    refine r_iconst 40 (v := 0) hC dX7_undo_40 (by decide) ?_
    refine r_sipush 41 (v := 821) hC dX7_undo_41 (by decide) ?_
    refine r_callS_v 44 (n := 5) [.ref (q0 + 13), .int (821 * (I11 q0 26)), .ref (q0 + 1), .int (0), .int (821)] [] hC dX7_undo_44 (by decide) (by decide) tw_1547 tw_135 ⟨by decide, by decide, by decide +kernel⟩ tw_1545 tw_1546 rfl rfl (sX7_copies (l := pm_l X) hG (q0 + 13) 8210 (821 * (I11 q0 26)) (q0 + 1) 821 (0) (821) _ _ ((pm_s7 hG hk0).2.2.2.2.2.2.2.2.2.2.2.2.1) ((pm_s7 hG hk0).1) h) hab (Nat.le_of_ble_eq_true rfl) ?_
    clear h; intro I12 h
    refine r_aload_n 47 hC dX7_undo_47 rfl rfl ?_
    refine r_getI7 48 (x := I12 (q0) 26) hC hk0 26 (by decide) tw_1205 rfl rfl dX7_undo_48 ?_
    exact r_iret 51 hC hE rfl dX7_undo_51 ⟨_, rfl, h⟩
  · replace h := h.2 hc
    refine r_iconst 12 (v := -1) hC dX7_undo_12 (by decide) ?_
    exact r_iret 13 hC hE rfl dX7_undo_13 ⟨_, rfl, h⟩

def wX7_noSlot (G : pm_G) (q0 : Nat) (x1 : Int32) (I : pm_I) (K : Int32 → pm_I → Prop) : Prop :=
  ∀ I10 : pm_I, I10 = pm_up I (q0) 0 (0) → (wX7_no G (q0) (x1) (2) I10 (fun r12 I11 => ((r12) = 0 ∨ (r12) = 1) ∧ K (r12) I11))

set_option maxRecDepth 20000 in
theorem sX7_noSlot {G : pm_G} {l : Launch} (hG : pm_ok G) (q0 : Nat) (x1 : Int32) (I : pm_I) (K : Int32 → pm_I → Prop) (hk0 : pm_k G q0 (.inl 7)) (h : wX7_noSlot G q0 x1 I K) : pm_Ct G l yX7_noSlot cX7_noSlot 2 (some .boolean) { frames := 3, cells := 0, slots := 0, locals := 236 } [.ref (q0), .int (x1)] I (pm_Ki K) := by
  unfold wX7_noSlot at h
  refine pm_enter (by decide +kernel) hG rfl (Nat.le_of_ble_eq_true rfl) rfl (fun X hl hC hE => ?_)
  subst hl
  have hab : 0 ≤ 0 ∧ 0 ≤ 0 := ⟨Nat.le_refl 0, Nat.le_refl 0⟩
  have hC : pm_C G X cX7_noSlot 2 RX7 (some .boolean) { frames := 3, cells := 0, slots := 0, locals := 236 } := hC
  refine r_aload_n 0 hC dX7_noSlot_0 rfl rfl ?_
  refine r_iconst 1 (v := 0) hC dX7_noSlot_1 (by decide) ?_
  refine r_putI7 2 hC hk0 0 (by decide) tw_1179 rfl rfl (by decide +kernel) ps_7_0 dX7_noSlot_2 (fun I10 hI => ?_)
  replace h := h I10 hI; clear hI
  refine r_aload_n 5 hC dX7_noSlot_5 rfl rfl ?_
  refine r_iload_n 6 hC dX7_noSlot_6 rfl rfl ?_
  refine r_iconst 7 (v := 2) hC dX7_noSlot_7 (by decide) ?_
  refine r_callV_i 8 (n := 2) [.int (x1), .int (2)] [] hC hk0 rfl dX7_noSlot_8 (by decide) (by decide) tw_1407 tw_135 ⟨by decide, by decide, by decide +kernel⟩ tw_1404 tw_1406 tw_101 rfl rfl (sX7_no (l := pm_l X) hG (q0) (x1) (2) _ _ hk0 h) hab (Nat.le_of_ble_eq_true rfl) ?_
  clear h; intro r12 I11 h
  exact r_iret 11 hC hE (pm_nz h.1).1 dX7_noSlot_11 ⟨_, rfl, h.2⟩

def wX7_saveSnapshot (G : pm_G) (q0 : Nat) (x1 : Int32) (I : pm_I) (K : Int32 → pm_I → Prop) : Prop :=
  wX7_noSlot G (q0) (x1) I (fun r11 I10 => (r11 = 0 → (vp_in (x1) 2 ∧ (wX7_copies G (q0 + 1) 821 (0) (q0 + 14) 1642 (821 * x1) (821) I10 (fun I12 => vp_in (x1) 2 ∧ (∀ I13 : pm_I, I13 = pm_up I12 (q0 + 15) ((x1).toNatClampNeg) (vp_nar .boolean (1)) → (((I10 (q0 + 15) (x1).toNatClampNeg) = 0 ∨ (I10 (q0 + 15) (x1).toNatClampNeg) = 1) ∧ K (I10 (q0 + 15) (x1).toNatClampNeg) I13)))))) ∧ (¬ r11 = 0 → K 0 I10))

set_option maxRecDepth 20000 in
theorem sX7_saveSnapshot {G : pm_G} {l : Launch} (hG : pm_ok G) (q0 : Nat) (x1 : Int32) (I : pm_I) (K : Int32 → pm_I → Prop) (hk0 : pm_k G q0 (.inl 7)) (h : wX7_saveSnapshot G q0 x1 I K) : pm_Ct G l yX7_saveSnapshot cX7_saveSnapshot 3 (some .boolean) { frames := 4, cells := 0, slots := 0, locals := 321 } [.ref (q0), .int (x1)] I (pm_Ki K) := by
  unfold wX7_saveSnapshot at h
  refine pm_enter (by decide +kernel) hG rfl (Nat.le_of_ble_eq_true rfl) rfl (fun X hl hC hE => ?_)
  subst hl
  have hab : 0 ≤ 0 ∧ 0 ≤ 0 := ⟨Nat.le_refl 0, Nat.le_refl 0⟩
  have hC : pm_C G X cX7_saveSnapshot 3 RX7 (some .boolean) { frames := 4, cells := 0, slots := 0, locals := 321 } := hC
  refine r_aload_n 0 hC dX7_saveSnapshot_0 rfl rfl ?_
  refine r_iload_n 1 hC dX7_saveSnapshot_1 rfl rfl ?_
  refine r_callV_i 2 (n := 1) [.int (x1)] [] hC hk0 rfl dX7_saveSnapshot_2 (by decide) (by decide) tw_1634 tw_135 ⟨by decide, by decide, by decide +kernel⟩ tw_1631 tw_1633 tw_127 rfl rfl (sX7_noSlot (l := pm_l X) hG (q0) (x1) _ _ hk0 h) hab (Nat.le_of_ble_eq_true rfl) ?_
  clear h; intro r11 I10 h
  refine r_if_eq 5 10 hC dX7_saveSnapshot_5 (by decide) (fun hc => ?_) (fun hc => ?_)
  · replace h := h.1 hc
    refine r_aload_n 10 hC dX7_saveSnapshot_10 rfl rfl ?_
    refine r_getR7 11 (r1 := q0 + 15) hC hk0 29 (by decide) tw_1208 rfl rfl dX7_saveSnapshot_11 ?_
    refine r_iload_n 14 hC dX7_saveSnapshot_14 rfl rfl ?_
    refine r_zald 15 hC ((pm_s7 hG hk0).2.2.2.2.2.2.2.2.2.2.2.2.2.2) h.1 dX7_saveSnapshot_15 ?_
    replace h := h.2
    refine r_istore_n 16 [some (.ref (q0)), some (.int (x1)), some (.int (I10 (q0 + 15) (x1).toNatClampNeg))] hC dX7_saveSnapshot_16 rfl (by decide) rfl ?_
    refine r_aload_n 17 hC dX7_saveSnapshot_17 rfl rfl ?_
    refine r_getR7 18 (r1 := q0 + 1) hC hk0 1 (by decide) tw_1180 rfl rfl dX7_saveSnapshot_18 ?_
    refine r_iconst 21 (v := 0) hC dX7_saveSnapshot_21 (by decide) ?_
    refine r_aload_n 22 hC dX7_saveSnapshot_22 rfl rfl ?_
    refine r_getR7 23 (r1 := q0 + 14) hC hk0 28 (by decide) tw_1207 rfl rfl dX7_saveSnapshot_23 ?_
    refine r_sipush 26 (v := 821) hC dX7_saveSnapshot_26 (by decide) ?_
    refine r_iload_n 29 hC dX7_saveSnapshot_29 rfl rfl ?_
    refine r_imul 30 hC dX7_saveSnapshot_30 ?_
    refine r_sipush 31 (v := 821) hC dX7_saveSnapshot_31 (by decide) ?_
    refine r_callS_v 34 (n := 5) [.ref (q0 + 1), .int (0), .ref (q0 + 14), .int (821 * x1), .int (821)] [] hC dX7_saveSnapshot_34 (by decide) (by decide) tw_1547 tw_135 ⟨by decide, by decide, by decide +kernel⟩ tw_1545 tw_1546 rfl rfl (sX7_copies (l := pm_l X) hG (q0 + 1) 821 (0) (q0 + 14) 1642 (821 * x1) (821) _ _ ((pm_s7 hG hk0).1) ((pm_s7 hG hk0).2.2.2.2.2.2.2.2.2.2.2.2.2.1) h) hab (Nat.le_of_ble_eq_true rfl) ?_
    clear h; intro I12 h
    refine r_aload_n 37 hC dX7_saveSnapshot_37 rfl rfl ?_
    refine r_getR7 38 (r1 := q0 + 15) hC hk0 29 (by decide) tw_1208 rfl rfl dX7_saveSnapshot_38 ?_
    refine r_iload_n 41 hC dX7_saveSnapshot_41 rfl rfl ?_
    refine r_iconst 42 (v := 1) hC dX7_saveSnapshot_42 (by decide) ?_
    refine r_zast 43 hC ((pm_s7 hG hk0).2.2.2.2.2.2.2.2.2.2.2.2.2.2) h.1 dX7_saveSnapshot_43 (fun I13 hI => ?_)
    replace h := h.2
    replace h := h I13 hI; clear hI
    refine r_iload_n 44 hC dX7_saveSnapshot_44 rfl rfl ?_
    exact r_iret 45 hC hE (pm_nz h.1).1 dX7_saveSnapshot_45 ⟨_, rfl, h.2⟩
  · replace h := h.2 hc
    refine r_iconst 8 (v := 0) hC dX7_saveSnapshot_8 (by decide) ?_
    exact r_iret 9 hC hE rfl dX7_saveSnapshot_9 ⟨_, rfl, h⟩

def wX7_restoreSnapshot (G : pm_G) (q0 : Nat) (x1 : Int32) (I : pm_I) (K : Int32 → pm_I → Prop) : Prop :=
  wX7_noSlot G (q0) (x1) I (fun r11 I10 => (¬ r11 = 0 → (K (0) I10)) ∧ (r11 = 0 → (vp_in (x1) 2 ∧ ((¬ (I10 (q0 + 15) (x1).toNatClampNeg) = 0 → (wX7_throwsIf G (q0) (0) (2) I10 (fun r13 I12 => (r13 = 0 → (wX7_copies G (q0 + 14) 1642 (821 * x1) (q0 + 1) 821 (0) (821) I12 (fun I14 => ∀ I15 : pm_I, I15 = pm_up I14 (q0) 26 (0) → (K (I15 (q0 + 1) (0 : Int32).toNatClampNeg) I15)))) ∧ (¬ r13 = 0 → (K (0) I12))))) ∧ ((I10 (q0 + 15) (x1).toNatClampNeg) = 0 → (wX7_throwsIf G (q0) (1) (2) I10 (fun r17 I16 => (r17 = 0 → (wX7_copies G (q0 + 14) 1642 (821 * x1) (q0 + 1) 821 (0) (821) I16 (fun I18 => ∀ I19 : pm_I, I19 = pm_up I18 (q0) 26 (0) → (K (I19 (q0 + 1) (0 : Int32).toNatClampNeg) I19)))) ∧ (¬ r17 = 0 → (K (0) I16)))))))))

set_option maxRecDepth 20000 in
theorem sX7_restoreSnapshot {G : pm_G} {l : Launch} (hG : pm_ok G) (q0 : Nat) (x1 : Int32) (I : pm_I) (K : Int32 → pm_I → Prop) (hk0 : pm_k G q0 (.inl 7)) (h : wX7_restoreSnapshot G q0 x1 I K) : pm_Ct G l yX7_restoreSnapshot cX7_restoreSnapshot 2 (some .int) { frames := 4, cells := 0, slots := 0, locals := 321 } [.ref (q0), .int (x1)] I (pm_Ki K) := by
  unfold wX7_restoreSnapshot at h
  refine pm_enter (by decide +kernel) hG rfl (Nat.le_of_ble_eq_true rfl) rfl (fun X hl hC hE => ?_)
  subst hl
  have hab : 0 ≤ 0 ∧ 0 ≤ 0 := ⟨Nat.le_refl 0, Nat.le_refl 0⟩
  have hC : pm_C G X cX7_restoreSnapshot 2 RX7 (some .int) { frames := 4, cells := 0, slots := 0, locals := 321 } := hC
  refine r_aload_n 0 hC dX7_restoreSnapshot_0 rfl rfl ?_
  refine r_iload_n 1 hC dX7_restoreSnapshot_1 rfl rfl ?_
  refine r_callV_i 2 (n := 1) [.int (x1)] [] hC hk0 rfl dX7_restoreSnapshot_2 (by decide) (by decide) tw_1634 tw_135 ⟨by decide, by decide, by decide +kernel⟩ tw_1631 tw_1633 tw_127 rfl rfl (sX7_noSlot (l := pm_l X) hG (q0) (x1) _ _ hk0 h) hab (Nat.le_of_ble_eq_true rfl) ?_
  clear h; intro r11 I10 h
  refine r_if_ne 5 30 hC dX7_restoreSnapshot_5 (by decide) (fun hc => ?_) (fun hc => ?_)
  · replace h := h.1 hc
    refine r_iconst 30 (v := 0) hC dX7_restoreSnapshot_30 (by decide) ?_
    exact r_iret 31 hC hE rfl dX7_restoreSnapshot_31 ⟨_, rfl, h⟩
  · replace h := h.2 hc
    refine r_aload_n 8 hC dX7_restoreSnapshot_8 rfl rfl ?_
    refine r_aload_n 9 hC dX7_restoreSnapshot_9 rfl rfl ?_
    refine r_getR7 10 (r1 := q0 + 15) hC hk0 29 (by decide) tw_1208 rfl rfl dX7_restoreSnapshot_10 ?_
    refine r_iload_n 13 hC dX7_restoreSnapshot_13 rfl rfl ?_
    refine r_zald 14 hC ((pm_s7 hG hk0).2.2.2.2.2.2.2.2.2.2.2.2.2.2) h.1 dX7_restoreSnapshot_14 ?_
    replace h := h.2
    refine r_if_ne 15 22 hC dX7_restoreSnapshot_15 (by decide) (fun hc => ?_) (fun hc => ?_)
    · replace h := h.1 hc
      refine r_iconst 22 (v := 0) hC dX7_restoreSnapshot_22 (by decide) ?_
      refine r_iconst 23 (v := 2) hC dX7_restoreSnapshot_23 (by decide) ?_
      refine r_callV_i 24 (n := 2) [.int (0), .int (2)] [] hC hk0 rfl dX7_restoreSnapshot_24 (by decide) (by decide) tw_1292 tw_135 ⟨by decide, by decide, by decide +kernel⟩ tw_1289 tw_1291 tw_81 rfl rfl (sX7_throwsIf (l := pm_l X) hG (q0) (0) (2) _ _ hk0 h) hab (Nat.le_of_ble_eq_true rfl) ?_
      clear h; intro r13 I12 h
      refine r_if_eq 27 32 hC dX7_restoreSnapshot_27 (by decide) (fun hc => ?_) (fun hc => ?_)
      · replace h := h.1 hc
        refine r_aload_n 32 hC dX7_restoreSnapshot_32 rfl rfl ?_
        refine r_getR7 33 (r1 := q0 + 14) hC hk0 28 (by decide) tw_1207 rfl rfl dX7_restoreSnapshot_33 ?_
        refine r_sipush 36 (v := 821) hC dX7_restoreSnapshot_36 (by decide) ?_
        refine r_iload_n 39 hC dX7_restoreSnapshot_39 rfl rfl ?_
        refine r_imul 40 hC dX7_restoreSnapshot_40 ?_
        refine r_aload_n 41 hC dX7_restoreSnapshot_41 rfl rfl ?_
        refine r_getR7 42 (r1 := q0 + 1) hC hk0 1 (by decide) tw_1180 rfl rfl dX7_restoreSnapshot_42 ?_
        refine r_iconst 45 (v := 0) hC dX7_restoreSnapshot_45 (by decide) ?_
        refine r_sipush 46 (v := 821) hC dX7_restoreSnapshot_46 (by decide) ?_
        refine r_callS_v 49 (n := 5) [.ref (q0 + 14), .int (821 * x1), .ref (q0 + 1), .int (0), .int (821)] [] hC dX7_restoreSnapshot_49 (by decide) (by decide) tw_1547 tw_135 ⟨by decide, by decide, by decide +kernel⟩ tw_1545 tw_1546 rfl rfl (sX7_copies (l := pm_l X) hG (q0 + 14) 1642 (821 * x1) (q0 + 1) 821 (0) (821) _ _ ((pm_s7 hG hk0).2.2.2.2.2.2.2.2.2.2.2.2.2.1) ((pm_s7 hG hk0).1) h) hab (Nat.le_of_ble_eq_true rfl) ?_
        clear h; intro I14 h
        refine r_aload_n 52 hC dX7_restoreSnapshot_52 rfl rfl ?_
        refine r_iconst 53 (v := 0) hC dX7_restoreSnapshot_53 (by decide) ?_
        refine r_putI7 54 hC hk0 26 (by decide) tw_1205 rfl rfl (by decide +kernel) ps_7_26 dX7_restoreSnapshot_54 (fun I15 hI => ?_)
        replace h := h I15 hI; clear hI
        refine r_aload_n 57 hC dX7_restoreSnapshot_57 rfl rfl ?_
        refine r_getR7 58 (r1 := q0 + 1) hC hk0 1 (by decide) tw_1180 rfl rfl dX7_restoreSnapshot_58 ?_
        refine r_iconst 61 (v := 0) hC dX7_restoreSnapshot_61 (by decide) ?_
        refine r_iald 62 hC ((pm_s7 hG hk0).1) (by unfold vp_in; decide) dX7_restoreSnapshot_62 ?_
        exact r_iret 63 hC hE rfl dX7_restoreSnapshot_63 ⟨_, rfl, h⟩
      · replace h := h.2 hc
        refine r_iconst 30 (v := 0) hC dX7_restoreSnapshot_30 (by decide) ?_
        exact r_iret 31 hC hE rfl dX7_restoreSnapshot_31 ⟨_, rfl, h⟩
    · replace h := h.2 hc
      refine r_iconst 18 (v := 1) hC dX7_restoreSnapshot_18 (by decide) ?_
      refine r_goto 19 23 hC dX7_restoreSnapshot_19 (by decide) ?_
      refine r_iconst 23 (v := 2) hC dX7_restoreSnapshot_23 (by decide) ?_
      refine r_callV_i 24 (n := 2) [.int (1), .int (2)] [] hC hk0 rfl dX7_restoreSnapshot_24 (by decide) (by decide) tw_1292 tw_135 ⟨by decide, by decide, by decide +kernel⟩ tw_1289 tw_1291 tw_81 rfl rfl (sX7_throwsIf (l := pm_l X) hG (q0) (1) (2) _ _ hk0 h) hab (Nat.le_of_ble_eq_true rfl) ?_
      clear h; intro r17 I16 h
      refine r_if_eq 27 32 hC dX7_restoreSnapshot_27 (by decide) (fun hc => ?_) (fun hc => ?_)
      · replace h := h.1 hc
        refine r_aload_n 32 hC dX7_restoreSnapshot_32 rfl rfl ?_
        refine r_getR7 33 (r1 := q0 + 14) hC hk0 28 (by decide) tw_1207 rfl rfl dX7_restoreSnapshot_33 ?_
        refine r_sipush 36 (v := 821) hC dX7_restoreSnapshot_36 (by decide) ?_
        refine r_iload_n 39 hC dX7_restoreSnapshot_39 rfl rfl ?_
        refine r_imul 40 hC dX7_restoreSnapshot_40 ?_
        refine r_aload_n 41 hC dX7_restoreSnapshot_41 rfl rfl ?_
        refine r_getR7 42 (r1 := q0 + 1) hC hk0 1 (by decide) tw_1180 rfl rfl dX7_restoreSnapshot_42 ?_
        refine r_iconst 45 (v := 0) hC dX7_restoreSnapshot_45 (by decide) ?_
        refine r_sipush 46 (v := 821) hC dX7_restoreSnapshot_46 (by decide) ?_
        refine r_callS_v 49 (n := 5) [.ref (q0 + 14), .int (821 * x1), .ref (q0 + 1), .int (0), .int (821)] [] hC dX7_restoreSnapshot_49 (by decide) (by decide) tw_1547 tw_135 ⟨by decide, by decide, by decide +kernel⟩ tw_1545 tw_1546 rfl rfl (sX7_copies (l := pm_l X) hG (q0 + 14) 1642 (821 * x1) (q0 + 1) 821 (0) (821) _ _ ((pm_s7 hG hk0).2.2.2.2.2.2.2.2.2.2.2.2.2.1) ((pm_s7 hG hk0).1) h) hab (Nat.le_of_ble_eq_true rfl) ?_
        clear h; intro I18 h
        refine r_aload_n 52 hC dX7_restoreSnapshot_52 rfl rfl ?_
        refine r_iconst 53 (v := 0) hC dX7_restoreSnapshot_53 (by decide) ?_
        refine r_putI7 54 hC hk0 26 (by decide) tw_1205 rfl rfl (by decide +kernel) ps_7_26 dX7_restoreSnapshot_54 (fun I19 hI => ?_)
        replace h := h I19 hI; clear hI
        refine r_aload_n 57 hC dX7_restoreSnapshot_57 rfl rfl ?_
        refine r_getR7 58 (r1 := q0 + 1) hC hk0 1 (by decide) tw_1180 rfl rfl dX7_restoreSnapshot_58 ?_
        refine r_iconst 61 (v := 0) hC dX7_restoreSnapshot_61 (by decide) ?_
        refine r_iald 62 hC ((pm_s7 hG hk0).1) (by unfold vp_in; decide) dX7_restoreSnapshot_62 ?_
        exact r_iret 63 hC hE rfl dX7_restoreSnapshot_63 ⟨_, rfl, h⟩
      · replace h := h.2 hc
        refine r_iconst 30 (v := 0) hC dX7_restoreSnapshot_30 (by decide) ?_
        exact r_iret 31 hC hE rfl dX7_restoreSnapshot_31 ⟨_, rfl, h⟩
