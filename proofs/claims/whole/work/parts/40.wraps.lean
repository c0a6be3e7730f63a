theorem pm_cls : ∀ n, 1 ≤ n → n ≤ 3 → Cond.classLink RL (pm_ct n) (pm_en n) ∈ lw_tbl := by
  intro n h1 h3
  have : n = 1 ∨ n = 2 ∨ n = 3 := by omega
  rcases this with rfl | rfl | rfl
  · exact tw_441
  · exact tw_840
  · exact tw_716

def wL_parse (G : pm_G) (o : Nat) (x1 : Int32) (I : pm_I) (K : Int32 → pm_I → Prop) : Prop :=
  wX6_parse G x1 I (fun r I1 => ∀ I2 : pm_I, I2 = pm_up I1 o 0 r → K 0 I2) (fun n I1 => (n = 1 ∧ K 1 I1))

set_option maxRecDepth 20000 in
theorem sL_parse {G : pm_G} {l : Launch} (hG : pm_ok G) (hst : l.stackTraces = false) (hX : pm_exc G) (hnc : pm_nc G) (hS : pm_str G) (hN : pm_n G < 1000 * 999) (o : Nat) (x1 : Int32) (I : pm_I) (K : Int32 → pm_I → Prop) (hk0 : pm_k G 1 (.inl 6)) (hko : pm_k G o (.inr (3, 1))) (h : wL_parse G o x1 I K) : pm_Cw G l yL_parse cL_parse 4 [(0, 9, 12, 13)] 43 3023 1 10 [.ref 1, .int x1, .ref o] I (pm_Ki K) := by
  unfold wL_parse at h
  refine pm_enterW (by decide +kernel) tw_440 rfl hG rfl (Nat.le_of_ble_eq_true rfl) rfl (fun X hl hC hE => ?_)
  subst hl
  have hC : pm_C G X cL_parse 4 RL (some .int) { frames := 43, cells := 1, slots := 10, locals := 3023 } := hC
  refine r_aload_n 0 hC dL_parse_0 rfl rfl ?_
  refine r_iconst 1 (v := 0) hC dL_parse_1 (by decide) ?_
  refine r_aload_n 2 hC dL_parse_2 rfl rfl ?_
  refine r_iload_n 3 hC dL_parse_3 rfl rfl ?_
  refine w_call 4 (n := 1) [.int x1] [.int 0, .ref o] hC hE hnc pm_cls hk0 rfl dL_parse_4 (by decide) (by decide) tw_445 tw_129 ⟨by decide, by decide, by decide +kernel⟩ tw_442 tw_443 tw_444 rfl rfl (sX6_parse (l := pm_l X) hG hst hX hS hN x1 _ _ _ hk0 h) ⟨by decide, by decide⟩ (Nat.le_of_ble_eq_true rfl) ?_ ?_
  · rintro _ I1 ⟨r, rfl, h⟩
    refine r_i2l 7 hC dL_parse_7 ?_
    refine r_last 8 (i := 0) (x := r) hC hko (vp_in_nI (n := 0) (by decide) (by decide)) dL_parse_8 (fun I2 hI => ?_)
    replace h := h I2 hI; clear hI
    refine r_goto 9 15 hC dL_parse_9 (by decide) ?_
    refine r_iconst 15 (v := 0) hC dL_parse_15 (by decide) ?_
    exact w_iret 16 hC hE ⟨by decide, by decide⟩ dL_parse_16 ⟨0, rfl, h⟩
  · intro n I1 h1 h3 h
    obtain ⟨rfl, h⟩ := h
    · refine ⟨[], 0, 9, 12, [], rfl, by decide, ?_, ?_⟩
      · intro z hz
        exact absurd hz List.not_mem_nil
      · refine w_astore_n 12 hC dL_parse_12 rfl (by decide) rfl ?_
        refine r_iconst 13 (v := 1) hC dL_parse_13 (by decide) ?_
        exact w_iret 14 hC hE ⟨by decide, by decide⟩ dL_parse_14 ⟨1, rfl, h⟩

def wL_knows (G : pm_G) (o : Nat) (x1 : Int32) (x2 : Int32) (I : pm_I) (K : Int32 → pm_I → Prop) : Prop :=
  wX6_knows G 1 x1 x2 I (fun r I1 => (r = 0 → ∀ I2 : pm_I, I2 = pm_up I1 o 0 0 → K 0 I2) ∧ (¬ r = 0 → ∀ I2 : pm_I, I2 = pm_up I1 o 0 1 → K 0 I2)) (fun n I1 => (n = 3 ∧ K 1 I1))

set_option maxRecDepth 20000 in
theorem sL_knows {G : pm_G} {l : Launch} (hG : pm_ok G) (hst : l.stackTraces = false) (hX : pm_exc G) (hnc : pm_nc G) (o : Nat) (x1 : Int32) (x2 : Int32) (I : pm_I) (K : Int32 → pm_I → Prop) (hk0 : pm_k G 1 (.inl 6)) (hko : pm_k G o (.inr (3, 1))) (h : wL_knows G o x1 x2 I K) : pm_Cw G l yL_knows cL_knows 5 [(0, 17, 20, 19)] 9 365 2 12 [.ref 1, .int x1, .int x2, .ref o] I (pm_Ki K) := by
  unfold wL_knows at h
  refine pm_enterW (by decide +kernel) tw_715 rfl hG rfl (Nat.le_of_ble_eq_true rfl) rfl (fun X hl hC hE => ?_)
  subst hl
  have hC : pm_C G X cL_knows 5 RL (some .int) { frames := 9, cells := 2, slots := 12, locals := 365 } := hC
  refine r_aload_n 0 hC dL_knows_0 rfl rfl ?_
  refine r_iconst 1 (v := 0) hC dL_knows_1 (by decide) ?_
  refine r_aload_n 2 hC dL_knows_2 rfl rfl ?_
  refine r_iload_n 3 hC dL_knows_3 rfl rfl ?_
  refine r_iload_n 4 hC dL_knows_4 rfl rfl ?_
  refine w_call 5 (n := 2) [.int x1, .int x2] [.int 0, .ref o] hC hE hnc pm_cls hk0 rfl dL_knows_5 (by decide) (by decide) tw_720 tw_129 ⟨by decide, by decide, by decide +kernel⟩ tw_717 tw_718 tw_719 rfl rfl (sX6_knows (l := pm_l X) hG hst hX 1 x1 x2 _ _ _ hk0 h) ⟨by decide, by decide⟩ (Nat.le_of_ble_eq_true rfl) ?_ ?_
  · rintro _ I1 ⟨r, rfl, h⟩
    refine r_if_eq 8 15 hC dL_knows_8 (by decide) (fun hc => ?_) (fun hc => ?_)
    · replace h := h.1 hc
      refine r_lconst 15 (v := (0 : Int32).toInt64) hC dL_knows_15 (by decide) ?_
      refine r_last 16 (i := 0) (x := 0) hC hko (vp_in_nI (n := 0) (by decide) (by decide)) dL_knows_16 (fun I2 hI => ?_)
      replace h := h I2 hI; clear hI
      refine r_goto 17 24 hC dL_knows_17 (by decide) ?_
      refine r_iconst 24 (v := 0) hC dL_knows_24 (by decide) ?_
      exact w_iret 25 hC hE ⟨by decide, by decide⟩ dL_knows_25 ⟨0, rfl, h⟩
    · replace h := h.2 hc
      refine r_lconst 11 (v := (1 : Int32).toInt64) hC dL_knows_11 (by decide) ?_
      refine r_goto 12 16 hC dL_knows_12 (by decide) ?_
      refine r_last 16 (i := 0) (x := 1) hC hko (vp_in_nI (n := 0) (by decide) (by decide)) dL_knows_16 (fun I2 hI => ?_)
      replace h := h I2 hI; clear hI
      refine r_goto 17 24 hC dL_knows_17 (by decide) ?_
      refine r_iconst 24 (v := 0) hC dL_knows_24 (by decide) ?_
      exact w_iret 25 hC hE ⟨by decide, by decide⟩ dL_knows_25 ⟨0, rfl, h⟩
  · intro n I1 h1 h3 h
    obtain ⟨rfl, h⟩ := h
    · refine ⟨[], 0, 17, 20, [], rfl, by decide, ?_, ?_⟩
      · intro z hz
        exact absurd hz List.not_mem_nil
      · refine w_astore 20 hC dL_knows_20 (by decide) rfl ?_
        refine r_iconst 22 (v := 1) hC dL_knows_22 (by decide) ?_
        exact w_iret 23 hC hE ⟨by decide, by decide⟩ dL_knows_23 ⟨1, rfl, h⟩

def wL_delay (G : pm_G) (o : Nat) (x1 : Int32) (x2 : Int32) (I : pm_I) (K : Int32 → pm_I → Prop) : Prop :=
  wX6_delay G 1 x1 x2 I (fun r I1 => ∀ I2 : pm_I, I2 = pm_up I1 o 0 r → K 0 I2) (fun n I1 => (n = 3 ∧ K 1 I1))

set_option maxRecDepth 20000 in
theorem sL_delay {G : pm_G} {l : Launch} (hG : pm_ok G) (hst : l.stackTraces = false) (hX : pm_exc G) (hnc : pm_nc G) (o : Nat) (x1 : Int32) (x2 : Int32) (I : pm_I) (K : Int32 → pm_I → Prop) (hk0 : pm_k G 1 (.inl 6)) (hko : pm_k G o (.inr (3, 1))) (h : wL_delay G o x1 x2 I K) : pm_Cw G l yL_delay cL_delay 5 [(0, 10, 13, 19)] 9 365 2 12 [.ref 1, .int x1, .int x2, .ref o] I (pm_Ki K) := by
  unfold wL_delay at h
  refine pm_enterW (by decide +kernel) tw_751 rfl hG rfl (Nat.le_of_ble_eq_true rfl) rfl (fun X hl hC hE => ?_)
  subst hl
  have hC : pm_C G X cL_delay 5 RL (some .int) { frames := 9, cells := 2, slots := 12, locals := 365 } := hC
  refine r_aload_n 0 hC dL_delay_0 rfl rfl ?_
  refine r_iconst 1 (v := 0) hC dL_delay_1 (by decide) ?_
  refine r_aload_n 2 hC dL_delay_2 rfl rfl ?_
  refine r_iload_n 3 hC dL_delay_3 rfl rfl ?_
  refine r_iload_n 4 hC dL_delay_4 rfl rfl ?_
  refine w_call 5 (n := 2) [.int x1, .int x2] [.int 0, .ref o] hC hE hnc pm_cls hk0 rfl dL_delay_5 (by decide) (by decide) tw_755 tw_129 ⟨by decide, by decide, by decide +kernel⟩ tw_752 tw_753 tw_754 rfl rfl (sX6_delay (l := pm_l X) hG hst hX 1 x1 x2 _ _ _ hk0 h) ⟨by decide, by decide⟩ (Nat.le_of_ble_eq_true rfl) ?_ ?_
  · rintro _ I1 ⟨r, rfl, h⟩
    refine r_i2l 8 hC dL_delay_8 ?_
    refine r_last 9 (i := 0) (x := r) hC hko (vp_in_nI (n := 0) (by decide) (by decide)) dL_delay_9 (fun I2 hI => ?_)
    replace h := h I2 hI; clear hI
    refine r_goto 10 17 hC dL_delay_10 (by decide) ?_
    refine r_iconst 17 (v := 0) hC dL_delay_17 (by decide) ?_
    exact w_iret 18 hC hE ⟨by decide, by decide⟩ dL_delay_18 ⟨0, rfl, h⟩
  · intro n I1 h1 h3 h
    obtain ⟨rfl, h⟩ := h
    · refine ⟨[], 0, 10, 13, [], rfl, by decide, ?_, ?_⟩
      · intro z hz
        exact absurd hz List.not_mem_nil
      · refine w_astore 13 hC dL_delay_13 (by decide) rfl ?_
        refine r_iconst 15 (v := 1) hC dL_delay_15 (by decide) ?_
        exact w_iret 16 hC hE ⟨by decide, by decide⟩ dL_delay_16 ⟨1, rfl, h⟩

def wL_introductionsNeeded (G : pm_G) (o : Nat) (x1 : Int32) (x2 : Int32) (I : pm_I) (K : Int32 → pm_I → Prop) : Prop :=
  wX6_introductionsNeeded G 1 x1 x2 I (fun r I1 => ∀ I2 : pm_I, I2 = pm_up I1 o 0 r → K 0 I2) (fun n I1 => (n = 3 ∧ K 1 I1) ∨ (n = 1 ∧ K 2 I1))

set_option maxRecDepth 20000 in
theorem sL_introductionsNeeded {G : pm_G} {l : Launch} (hG : pm_ok G) (hst : l.stackTraces = false) (hX : pm_exc G) (hnc : pm_nc G) (o : Nat) (x1 : Int32) (x2 : Int32) (I : pm_I) (K : Int32 → pm_I → Prop) (hk0 : pm_k G 1 (.inl 6)) (hko : pm_k G o (.inr (3, 1))) (h : wL_introductionsNeeded G o x1 x2 I K) : pm_Cw G l yL_introductionsNeeded cL_introductionsNeeded 5 [(0, 10, 13, 19), (0, 10, 17, 13)] 10 488 3 18 [.ref 1, .int x1, .int x2, .ref o] I (pm_Ki K) := by
  unfold wL_introductionsNeeded at h
  refine pm_enterW (by decide +kernel) tw_763 rfl hG rfl (Nat.le_of_ble_eq_true rfl) rfl (fun X hl hC hE => ?_)
  subst hl
  have hC : pm_C G X cL_introductionsNeeded 5 RL (some .int) { frames := 10, cells := 3, slots := 18, locals := 488 } := hC
  refine r_aload_n 0 hC dL_introductionsNeeded_0 rfl rfl ?_
  refine r_iconst 1 (v := 0) hC dL_introductionsNeeded_1 (by decide) ?_
  refine r_aload_n 2 hC dL_introductionsNeeded_2 rfl rfl ?_
  refine r_iload_n 3 hC dL_introductionsNeeded_3 rfl rfl ?_
  refine r_iload_n 4 hC dL_introductionsNeeded_4 rfl rfl ?_
  refine w_call 5 (n := 2) [.int x1, .int x2] [.int 0, .ref o] hC hE hnc pm_cls hk0 rfl dL_introductionsNeeded_5 (by decide) (by decide) tw_767 tw_129 ⟨by decide, by decide, by decide +kernel⟩ tw_764 tw_765 tw_766 rfl rfl (sX6_introductionsNeeded (l := pm_l X) hG hst hX 1 x1 x2 _ _ _ hk0 h) ⟨by decide, by decide⟩ (Nat.le_of_ble_eq_true rfl) ?_ ?_
  · rintro _ I1 ⟨r, rfl, h⟩
    refine r_i2l 8 hC dL_introductionsNeeded_8 ?_
    refine r_last 9 (i := 0) (x := r) hC hko (vp_in_nI (n := 0) (by decide) (by decide)) dL_introductionsNeeded_9 (fun I2 hI => ?_)
    replace h := h I2 hI; clear hI
    refine r_goto 10 21 hC dL_introductionsNeeded_10 (by decide) ?_
    refine r_iconst 21 (v := 0) hC dL_introductionsNeeded_21 (by decide) ?_
    exact w_iret 22 hC hE ⟨by decide, by decide⟩ dL_introductionsNeeded_22 ⟨0, rfl, h⟩
  · intro n I1 h1 h3 h
    rcases h with ⟨rfl, h⟩ | ⟨rfl, h⟩
    · refine ⟨[], 0, 10, 13, [(0, 10, 17, 13)], rfl, by decide, ?_, ?_⟩
      · intro z hz
        exact absurd hz List.not_mem_nil
      · refine w_astore 13 hC dL_introductionsNeeded_13 (by decide) rfl ?_
        refine r_iconst 15 (v := 1) hC dL_introductionsNeeded_15 (by decide) ?_
        exact w_iret 16 hC hE ⟨by decide, by decide⟩ dL_introductionsNeeded_16 ⟨1, rfl, h⟩
    · refine ⟨[(0, 10, 13, 19)], 0, 10, 17, [], rfl, by decide, ?_, ?_⟩
      · intro z hz
        rcases List.mem_cons.mp hz with rfl | hz
        · exact ⟨3, by decide, by decide, by decide, rfl⟩
        exact absurd hz List.not_mem_nil
      · refine w_astore 17 hC dL_introductionsNeeded_17 (by decide) rfl ?_
        refine r_iconst 19 (v := 2) hC dL_introductionsNeeded_19 (by decide) ?_
        exact w_iret 20 hC hE ⟨by decide, by decide⟩ dL_introductionsNeeded_20 ⟨2, rfl, h⟩

def wL_introducer (G : pm_G) (o : Nat) (x1 : Int32) (x2 : Int32) (I : pm_I) (K : Int32 → pm_I → Prop) : Prop :=
  wX6_introducer G 1 x1 x2 I (fun r I1 => ∀ I2 : pm_I, I2 = pm_up I1 o 0 r → K 0 I2) (fun n I1 => (n = 3 ∧ K 1 I1) ∨ (n = 1 ∧ K 2 I1))

set_option maxRecDepth 20000 in
theorem sL_introducer {G : pm_G} {l : Launch} (hG : pm_ok G) (hst : l.stackTraces = false) (hX : pm_exc G) (hnc : pm_nc G) (o : Nat) (x1 : Int32) (x2 : Int32) (I : pm_I) (K : Int32 → pm_I → Prop) (hk0 : pm_k G 1 (.inl 6)) (hko : pm_k G o (.inr (3, 1))) (h : wL_introducer G o x1 x2 I K) : pm_Cw G l yL_introducer cL_introducer 5 [(0, 10, 13, 19), (0, 10, 17, 13)] 10 488 3 18 [.ref 1, .int x1, .int x2, .ref o] I (pm_Ki K) := by
  unfold wL_introducer at h
  refine pm_enterW (by decide +kernel) tw_779 rfl hG rfl (Nat.le_of_ble_eq_true rfl) rfl (fun X hl hC hE => ?_)
  subst hl
  have hC : pm_C G X cL_introducer 5 RL (some .int) { frames := 10, cells := 3, slots := 18, locals := 488 } := hC
  refine r_aload_n 0 hC dL_introducer_0 rfl rfl ?_
  refine r_iconst 1 (v := 0) hC dL_introducer_1 (by decide) ?_
  refine r_aload_n 2 hC dL_introducer_2 rfl rfl ?_
  refine r_iload_n 3 hC dL_introducer_3 rfl rfl ?_
  refine r_iload_n 4 hC dL_introducer_4 rfl rfl ?_
  refine w_call 5 (n := 2) [.int x1, .int x2] [.int 0, .ref o] hC hE hnc pm_cls hk0 rfl dL_introducer_5 (by decide) (by decide) tw_783 tw_129 ⟨by decide, by decide, by decide +kernel⟩ tw_780 tw_781 tw_782 rfl rfl (sX6_introducer (l := pm_l X) hG hst hX 1 x1 x2 _ _ _ hk0 h) ⟨by decide, by decide⟩ (Nat.le_of_ble_eq_true rfl) ?_ ?_
  · rintro _ I1 ⟨r, rfl, h⟩
    refine r_i2l 8 hC dL_introducer_8 ?_
    refine r_last 9 (i := 0) (x := r) hC hko (vp_in_nI (n := 0) (by decide) (by decide)) dL_introducer_9 (fun I2 hI => ?_)
    replace h := h I2 hI; clear hI
    refine r_goto 10 21 hC dL_introducer_10 (by decide) ?_
    refine r_iconst 21 (v := 0) hC dL_introducer_21 (by decide) ?_
    exact w_iret 22 hC hE ⟨by decide, by decide⟩ dL_introducer_22 ⟨0, rfl, h⟩
  · intro n I1 h1 h3 h
    rcases h with ⟨rfl, h⟩ | ⟨rfl, h⟩
    · refine ⟨[], 0, 10, 13, [(0, 10, 17, 13)], rfl, by decide, ?_, ?_⟩
      · intro z hz
        exact absurd hz List.not_mem_nil
      · refine w_astore 13 hC dL_introducer_13 (by decide) rfl ?_
        refine r_iconst 15 (v := 1) hC dL_introducer_15 (by decide) ?_
        exact w_iret 16 hC hE ⟨by decide, by decide⟩ dL_introducer_16 ⟨1, rfl, h⟩
    · refine ⟨[(0, 10, 13, 19)], 0, 10, 17, [], rfl, by decide, ?_, ?_⟩
      · intro z hz
        rcases List.mem_cons.mp hz with rfl | hz
        · exact ⟨3, by decide, by decide, by decide, rfl⟩
        exact absurd hz List.not_mem_nil
      · refine w_astore 17 hC dL_introducer_17 (by decide) rfl ?_
        refine r_iconst 19 (v := 2) hC dL_introducer_19 (by decide) ?_
        exact w_iret 20 hC hE ⟨by decide, by decide⟩ dL_introducer_20 ⟨2, rfl, h⟩

def wL_load (G : pm_G) (o : Nat) (x1 : Int32) (I : pm_I) (K : Int32 → pm_I → Prop) : Prop :=
  wX6_load G 1 x1 I (fun r I1 => ∀ I2 : pm_I, I2 = pm_up I1 o 0 r → K 0 I2) (fun n I1 => (n = 3 ∧ K 1 I1))

set_option maxRecDepth 20000 in
theorem sL_load {G : pm_G} {l : Launch} (hG : pm_ok G) (hst : l.stackTraces = false) (hX : pm_exc G) (hnc : pm_nc G) (o : Nat) (x1 : Int32) (I : pm_I) (K : Int32 → pm_I → Prop) (hk0 : pm_k G 1 (.inl 6)) (hko : pm_k G o (.inr (3, 1))) (h : wL_load G o x1 I K) : pm_Cw G l yL_load cL_load 4 [(0, 9, 12, 19)] 8 293 1 6 [.ref 1, .int x1, .ref o] I (pm_Ki K) := by
  unfold wL_load at h
  refine pm_enterW (by decide +kernel) tw_786 rfl hG rfl (Nat.le_of_ble_eq_true rfl) rfl (fun X hl hC hE => ?_)
  subst hl
  have hC : pm_C G X cL_load 4 RL (some .int) { frames := 8, cells := 1, slots := 6, locals := 293 } := hC
  refine r_aload_n 0 hC dL_load_0 rfl rfl ?_
  refine r_iconst 1 (v := 0) hC dL_load_1 (by decide) ?_
  refine r_aload_n 2 hC dL_load_2 rfl rfl ?_
  refine r_iload_n 3 hC dL_load_3 rfl rfl ?_
  refine w_call 4 (n := 1) [.int x1] [.int 0, .ref o] hC hE hnc pm_cls hk0 rfl dL_load_4 (by decide) (by decide) tw_790 tw_129 ⟨by decide, by decide, by decide +kernel⟩ tw_787 tw_788 tw_789 rfl rfl (sX6_load (l := pm_l X) hG hst hX 1 x1 _ _ _ hk0 h) ⟨by decide, by decide⟩ (Nat.le_of_ble_eq_true rfl) ?_ ?_
  · rintro _ I1 ⟨r, rfl, h⟩
    refine r_i2l 7 hC dL_load_7 ?_
    refine r_last 8 (i := 0) (x := r) hC hko (vp_in_nI (n := 0) (by decide) (by decide)) dL_load_8 (fun I2 hI => ?_)
    replace h := h I2 hI; clear hI
    refine r_goto 9 15 hC dL_load_9 (by decide) ?_
    refine r_iconst 15 (v := 0) hC dL_load_15 (by decide) ?_
    exact w_iret 16 hC hE ⟨by decide, by decide⟩ dL_load_16 ⟨0, rfl, h⟩
  · intro n I1 h1 h3 h
    obtain ⟨rfl, h⟩ := h
    · refine ⟨[], 0, 9, 12, [], rfl, by decide, ?_, ?_⟩
      · intro z hz
        exact absurd hz List.not_mem_nil
      · refine w_astore_n 12 hC dL_load_12 rfl (by decide) rfl ?_
        refine r_iconst 13 (v := 1) hC dL_load_13 (by decide) ?_
        exact w_iret 14 hC hE ⟨by decide, by decide⟩ dL_load_14 ⟨1, rfl, h⟩

def wL_bestRelay (G : pm_G) (o : Nat) (x1 : Int32) (x2 : Int32) (I : pm_I) (K : Int32 → pm_I → Prop) : Prop :=
  wX6_bestRelay G 1 x1 x2 I (fun r I1 => ∀ I2 : pm_I, I2 = pm_up I1 o 0 r → K 0 I2) (fun n I1 => (n = 3 ∧ K 1 I1) ∨ (n = 1 ∧ K 2 I1))

set_option maxRecDepth 20000 in
theorem sL_bestRelay {G : pm_G} {l : Launch} (hG : pm_ok G) (hst : l.stackTraces = false) (hX : pm_exc G) (hnc : pm_nc G) (o : Nat) (x1 : Int32) (x2 : Int32) (I : pm_I) (K : Int32 → pm_I → Prop) (hk0 : pm_k G 1 (.inl 6)) (hko : pm_k G o (.inr (3, 1))) (h : wL_bestRelay G o x1 x2 I K) : pm_Cw G l yL_bestRelay cL_bestRelay 5 [(0, 10, 13, 19), (0, 10, 17, 13)] 10 487 3 18 [.ref 1, .int x1, .int x2, .ref o] I (pm_Ki K) := by
  unfold wL_bestRelay at h
  refine pm_enterW (by decide +kernel) tw_801 rfl hG rfl (Nat.le_of_ble_eq_true rfl) rfl (fun X hl hC hE => ?_)
  subst hl
  have hC : pm_C G X cL_bestRelay 5 RL (some .int) { frames := 10, cells := 3, slots := 18, locals := 487 } := hC
  refine r_aload_n 0 hC dL_bestRelay_0 rfl rfl ?_
  refine r_iconst 1 (v := 0) hC dL_bestRelay_1 (by decide) ?_
  refine r_aload_n 2 hC dL_bestRelay_2 rfl rfl ?_
  refine r_iload_n 3 hC dL_bestRelay_3 rfl rfl ?_
  refine r_iload_n 4 hC dL_bestRelay_4 rfl rfl ?_
  refine w_call 5 (n := 2) [.int x1, .int x2] [.int 0, .ref o] hC hE hnc pm_cls hk0 rfl dL_bestRelay_5 (by decide) (by decide) tw_805 tw_129 ⟨by decide, by decide, by decide +kernel⟩ tw_802 tw_803 tw_804 rfl rfl (sX6_bestRelay (l := pm_l X) hG hst hX 1 x1 x2 _ _ _ hk0 h) ⟨by decide, by decide⟩ (Nat.le_of_ble_eq_true rfl) ?_ ?_
  · rintro _ I1 ⟨r, rfl, h⟩
    refine r_i2l 8 hC dL_bestRelay_8 ?_
    refine r_last 9 (i := 0) (x := r) hC hko (vp_in_nI (n := 0) (by decide) (by decide)) dL_bestRelay_9 (fun I2 hI => ?_)
    replace h := h I2 hI; clear hI
    refine r_goto 10 21 hC dL_bestRelay_10 (by decide) ?_
    refine r_iconst 21 (v := 0) hC dL_bestRelay_21 (by decide) ?_
    exact w_iret 22 hC hE ⟨by decide, by decide⟩ dL_bestRelay_22 ⟨0, rfl, h⟩
  · intro n I1 h1 h3 h
    rcases h with ⟨rfl, h⟩ | ⟨rfl, h⟩
    · refine ⟨[], 0, 10, 13, [(0, 10, 17, 13)], rfl, by decide, ?_, ?_⟩
      · intro z hz
        exact absurd hz List.not_mem_nil
      · refine w_astore 13 hC dL_bestRelay_13 (by decide) rfl ?_
        refine r_iconst 15 (v := 1) hC dL_bestRelay_15 (by decide) ?_
        exact w_iret 16 hC hE ⟨by decide, by decide⟩ dL_bestRelay_16 ⟨1, rfl, h⟩
    · refine ⟨[(0, 10, 13, 19)], 0, 10, 17, [], rfl, by decide, ?_, ?_⟩
      · intro z hz
        rcases List.mem_cons.mp hz with rfl | hz
        · exact ⟨3, by decide, by decide, by decide, rfl⟩
        exact absurd hz List.not_mem_nil
      · refine w_astore 17 hC dL_bestRelay_17 (by decide) rfl ?_
        refine r_iconst 19 (v := 2) hC dL_bestRelay_19 (by decide) ?_
        exact w_iret 20 hC hE ⟨by decide, by decide⟩ dL_bestRelay_20 ⟨2, rfl, h⟩

def wL_relayScore (G : pm_G) (o : Nat) (x1 : Int32) (x2 : Int32) (x3 : Int32) (I : pm_I) (K : Int32 → pm_I → Prop) : Prop :=
  wX6_relayScore G 1 x1 x2 x3 I (fun r I1 => ∀ I2 : pm_I, I2 = pm_up I1 o 0 r → K 0 I2) (fun n I1 => (n = 3 ∧ K 1 I1) ∨ (n = 1 ∧ K 2 I1) ∨ (n = 2 ∧ K 3 I1))

set_option maxRecDepth 20000 in
theorem sL_relayScore {G : pm_G} {l : Launch} (hG : pm_ok G) (hst : l.stackTraces = false) (hX : pm_exc G) (hnc : pm_nc G) (o : Nat) (x1 : Int32) (x2 : Int32) (x3 : Int32) (I : pm_I) (K : Int32 → pm_I → Prop) (hk0 : pm_k G 1 (.inl 6)) (hko : pm_k G o (.inr (3, 1))) (h : wL_relayScore G o x1 x2 x3 I K) : pm_Cw G l yL_relayScore cL_relayScore 6 [(0, 12, 15, 19), (0, 12, 19, 13), (0, 12, 23, 41)] 10 489 5 30 [.ref 1, .int x1, .int x2, .int x3, .ref o] I (pm_Ki K) := by
  unfold wL_relayScore at h
  refine pm_enterW (by decide +kernel) tw_839 rfl hG rfl (Nat.le_of_ble_eq_true rfl) rfl (fun X hl hC hE => ?_)
  subst hl
  have hC : pm_C G X cL_relayScore 6 RL (some .int) { frames := 10, cells := 5, slots := 30, locals := 489 } := hC
  refine r_aload 0 hC dL_relayScore_0 rfl ?_
  refine r_iconst 2 (v := 0) hC dL_relayScore_2 (by decide) ?_
  refine r_aload_n 3 hC dL_relayScore_3 rfl rfl ?_
  refine r_iload_n 4 hC dL_relayScore_4 rfl rfl ?_
  refine r_iload_n 5 hC dL_relayScore_5 rfl rfl ?_
  refine r_iload_n 6 hC dL_relayScore_6 rfl rfl ?_
  refine w_call 7 (n := 3) [.int x1, .int x2, .int x3] [.int 0, .ref o] hC hE hnc pm_cls hk0 rfl dL_relayScore_7 (by decide) (by decide) tw_844 tw_129 ⟨by decide, by decide, by decide +kernel⟩ tw_841 tw_842 tw_843 rfl rfl (sX6_relayScore (l := pm_l X) hG hst hX 1 x1 x2 x3 _ _ _ hk0 h) ⟨by decide, by decide⟩ (Nat.le_of_ble_eq_true rfl) ?_ ?_
  · rintro _ I1 ⟨r, rfl, h⟩
    refine r_i2l 10 hC dL_relayScore_10 ?_
    refine r_last 11 (i := 0) (x := r) hC hko (vp_in_nI (n := 0) (by decide) (by decide)) dL_relayScore_11 (fun I2 hI => ?_)
    replace h := h I2 hI; clear hI
    refine r_goto 12 27 hC dL_relayScore_12 (by decide) ?_
    refine r_iconst 27 (v := 0) hC dL_relayScore_27 (by decide) ?_
    exact w_iret 28 hC hE ⟨by decide, by decide⟩ dL_relayScore_28 ⟨0, rfl, h⟩
  · intro n I1 h1 h3 h
    rcases h with ⟨rfl, h⟩ | ⟨rfl, h⟩ | ⟨rfl, h⟩
    · refine ⟨[], 0, 12, 15, [(0, 12, 19, 13), (0, 12, 23, 41)], rfl, by decide, ?_, ?_⟩
      · intro z hz
        exact absurd hz List.not_mem_nil
      · refine w_astore 15 hC dL_relayScore_15 (by decide) rfl ?_
        refine r_iconst 17 (v := 1) hC dL_relayScore_17 (by decide) ?_
        exact w_iret 18 hC hE ⟨by decide, by decide⟩ dL_relayScore_18 ⟨1, rfl, h⟩
    · refine ⟨[(0, 12, 15, 19)], 0, 12, 19, [(0, 12, 23, 41)], rfl, by decide, ?_, ?_⟩
      · intro z hz
        rcases List.mem_cons.mp hz with rfl | hz
        · exact ⟨3, by decide, by decide, by decide, rfl⟩
        exact absurd hz List.not_mem_nil
      · refine w_astore 19 hC dL_relayScore_19 (by decide) rfl ?_
        refine r_iconst 21 (v := 2) hC dL_relayScore_21 (by decide) ?_
        exact w_iret 22 hC hE ⟨by decide, by decide⟩ dL_relayScore_22 ⟨2, rfl, h⟩
    · refine ⟨[(0, 12, 15, 19), (0, 12, 19, 13)], 0, 12, 23, [], rfl, by decide, ?_, ?_⟩
      · intro z hz
        rcases List.mem_cons.mp hz with rfl | hz
        · exact ⟨3, by decide, by decide, by decide, rfl⟩
        rcases List.mem_cons.mp hz with rfl | hz
        · exact ⟨1, by decide, by decide, by decide, rfl⟩
        exact absurd hz List.not_mem_nil
      · refine w_astore 23 hC dL_relayScore_23 (by decide) rfl ?_
        refine r_iconst 25 (v := 3) hC dL_relayScore_25 (by decide) ?_
        exact w_iret 26 hC hE ⟨by decide, by decide⟩ dL_relayScore_26 ⟨3, rfl, h⟩

def wL_session (G : pm_G) (o : Nat) (x1 : Int32) (x2 : Int32) (I : pm_I) (K : Int32 → pm_I → Prop) : Prop :=
  wX6_session G 1 x1 x2 I (fun r I1 => ∀ I2 : pm_I, I2 = pm_up I1 o 0 r → K 0 I2) (fun n I1 => (n = 3 ∧ K 1 I1) ∨ (n = 1 ∧ K 2 I1))

set_option maxRecDepth 20000 in
theorem sL_session {G : pm_G} {l : Launch} (hG : pm_ok G) (hst : l.stackTraces = false) (hX : pm_exc G) (hnc : pm_nc G) (o : Nat) (x1 : Int32) (x2 : Int32) (I : pm_I) (K : Int32 → pm_I → Prop) (hk0 : pm_k G 1 (.inl 6)) (hko : pm_k G o (.inr (3, 1))) (h : wL_session G o x1 x2 I K) : pm_Cw G l yL_session cL_session 5 [(0, 10, 13, 19), (0, 10, 17, 13)] 10 487 3 18 [.ref 1, .int x1, .int x2, .ref o] I (pm_Ki K) := by
  unfold wL_session at h
  refine pm_enterW (by decide +kernel) tw_870 rfl hG rfl (Nat.le_of_ble_eq_true rfl) rfl (fun X hl hC hE => ?_)
  subst hl
  have hC : pm_C G X cL_session 5 RL (some .int) { frames := 10, cells := 3, slots := 18, locals := 487 } := hC
  refine r_aload_n 0 hC dL_session_0 rfl rfl ?_
  refine r_iconst 1 (v := 0) hC dL_session_1 (by decide) ?_
  refine r_aload_n 2 hC dL_session_2 rfl rfl ?_
  refine r_iload_n 3 hC dL_session_3 rfl rfl ?_
  refine r_iload_n 4 hC dL_session_4 rfl rfl ?_
  refine w_call 5 (n := 2) [.int x1, .int x2] [.int 0, .ref o] hC hE hnc pm_cls hk0 rfl dL_session_5 (by decide) (by decide) tw_874 tw_129 ⟨by decide, by decide, by decide +kernel⟩ tw_871 tw_872 tw_873 rfl rfl (sX6_session (l := pm_l X) hG hst hX 1 x1 x2 _ _ _ hk0 h) ⟨by decide, by decide⟩ (Nat.le_of_ble_eq_true rfl) ?_ ?_
  · rintro _ I1 ⟨r, rfl, h⟩
    refine r_i2l 8 hC dL_session_8 ?_
    refine r_last 9 (i := 0) (x := r) hC hko (vp_in_nI (n := 0) (by decide) (by decide)) dL_session_9 (fun I2 hI => ?_)
    replace h := h I2 hI; clear hI
    refine r_goto 10 21 hC dL_session_10 (by decide) ?_
    refine r_iconst 21 (v := 0) hC dL_session_21 (by decide) ?_
    exact w_iret 22 hC hE ⟨by decide, by decide⟩ dL_session_22 ⟨0, rfl, h⟩
  · intro n I1 h1 h3 h
    rcases h with ⟨rfl, h⟩ | ⟨rfl, h⟩
    · refine ⟨[], 0, 10, 13, [(0, 10, 17, 13)], rfl, by decide, ?_, ?_⟩
      · intro z hz
        exact absurd hz List.not_mem_nil
      · refine w_astore 13 hC dL_session_13 (by decide) rfl ?_
        refine r_iconst 15 (v := 1) hC dL_session_15 (by decide) ?_
        exact w_iret 16 hC hE ⟨by decide, by decide⟩ dL_session_16 ⟨1, rfl, h⟩
    · refine ⟨[(0, 10, 13, 19)], 0, 10, 17, [], rfl, by decide, ?_, ?_⟩
      · intro z hz
        rcases List.mem_cons.mp hz with rfl | hz
        · exact ⟨3, by decide, by decide, by decide, rfl⟩
        exact absurd hz List.not_mem_nil
      · refine w_astore 17 hC dL_session_17 (by decide) rfl ?_
        refine r_iconst 19 (v := 2) hC dL_session_19 (by decide) ?_
        exact w_iret 20 hC hE ⟨by decide, by decide⟩ dL_session_20 ⟨2, rfl, h⟩

def wL_path (G : pm_G) (o : Nat) (x1 : Int32) (I : pm_I) (K : Int32 → pm_I → Prop) : Prop :=
  wX6_path G 1 x1 I (fun r I1 => ∀ I2 : pm_I, I2 = pm_up I1 o 0 r → K 0 I2) (fun n I1 => (n = 3 ∧ K 1 I1))

set_option maxRecDepth 20000 in
theorem sL_path {G : pm_G} {l : Launch} (hG : pm_ok G) (hst : l.stackTraces = false) (hX : pm_exc G) (hnc : pm_nc G) (o : Nat) (x1 : Int32) (I : pm_I) (K : Int32 → pm_I → Prop) (hk0 : pm_k G 1 (.inl 6)) (hko : pm_k G o (.inr (3, 1))) (h : wL_path G o x1 I K) : pm_Cw G l yL_path cL_path 4 [(0, 9, 12, 19)] 8 242 1 6 [.ref 1, .int x1, .ref o] I (pm_Ki K) := by
  unfold wL_path at h
  refine pm_enterW (by decide +kernel) tw_881 rfl hG rfl (Nat.le_of_ble_eq_true rfl) rfl (fun X hl hC hE => ?_)
  subst hl
  have hC : pm_C G X cL_path 4 RL (some .int) { frames := 8, cells := 1, slots := 6, locals := 242 } := hC
  refine r_aload_n 0 hC dL_path_0 rfl rfl ?_
  refine r_iconst 1 (v := 0) hC dL_path_1 (by decide) ?_
  refine r_aload_n 2 hC dL_path_2 rfl rfl ?_
  refine r_iload_n 3 hC dL_path_3 rfl rfl ?_
  refine w_call 4 (n := 1) [.int x1] [.int 0, .ref o] hC hE hnc pm_cls hk0 rfl dL_path_4 (by decide) (by decide) tw_885 tw_129 ⟨by decide, by decide, by decide +kernel⟩ tw_882 tw_883 tw_884 rfl rfl (sX6_path (l := pm_l X) hG hst hX 1 x1 _ _ _ hk0 h) ⟨by decide, by decide⟩ (Nat.le_of_ble_eq_true rfl) ?_ ?_
  · rintro _ I1 ⟨r, rfl, h⟩
    refine r_i2l 7 hC dL_path_7 ?_
    refine r_last 8 (i := 0) (x := r) hC hko (vp_in_nI (n := 0) (by decide) (by decide)) dL_path_8 (fun I2 hI => ?_)
    replace h := h I2 hI; clear hI
    refine r_goto 9 15 hC dL_path_9 (by decide) ?_
    refine r_iconst 15 (v := 0) hC dL_path_15 (by decide) ?_
    exact w_iret 16 hC hE ⟨by decide, by decide⟩ dL_path_16 ⟨0, rfl, h⟩
  · intro n I1 h1 h3 h
    obtain ⟨rfl, h⟩ := h
    · refine ⟨[], 0, 9, 12, [], rfl, by decide, ?_, ?_⟩
      · intro z hz
        exact absurd hz List.not_mem_nil
      · refine w_astore_n 12 hC dL_path_12 rfl (by decide) rfl ?_
        refine r_iconst 13 (v := 1) hC dL_path_13 (by decide) ?_
        exact w_iret 14 hC hE ⟨by decide, by decide⟩ dL_path_14 ⟨1, rfl, h⟩

def wL_oldPath (G : pm_G) (o : Nat) (x1 : Int32) (I : pm_I) (K : Int32 → pm_I → Prop) : Prop :=
  wX6_oldPath G 1 x1 I (fun r I1 => ∀ I2 : pm_I, I2 = pm_up I1 o 0 r → K 0 I2) (fun n I1 => (n = 3 ∧ K 1 I1))

set_option maxRecDepth 20000 in
theorem sL_oldPath {G : pm_G} {l : Launch} (hG : pm_ok G) (hst : l.stackTraces = false) (hX : pm_exc G) (hnc : pm_nc G) (o : Nat) (x1 : Int32) (I : pm_I) (K : Int32 → pm_I → Prop) (hk0 : pm_k G 1 (.inl 6)) (hko : pm_k G o (.inr (3, 1))) (h : wL_oldPath G o x1 I K) : pm_Cw G l yL_oldPath cL_oldPath 4 [(0, 9, 12, 19)] 8 242 1 6 [.ref 1, .int x1, .ref o] I (pm_Ki K) := by
  unfold wL_oldPath at h
  refine pm_enterW (by decide +kernel) tw_893 rfl hG rfl (Nat.le_of_ble_eq_true rfl) rfl (fun X hl hC hE => ?_)
  subst hl
  have hC : pm_C G X cL_oldPath 4 RL (some .int) { frames := 8, cells := 1, slots := 6, locals := 242 } := hC
  refine r_aload_n 0 hC dL_oldPath_0 rfl rfl ?_
  refine r_iconst 1 (v := 0) hC dL_oldPath_1 (by decide) ?_
  refine r_aload_n 2 hC dL_oldPath_2 rfl rfl ?_
  refine r_iload_n 3 hC dL_oldPath_3 rfl rfl ?_
  refine w_call 4 (n := 1) [.int x1] [.int 0, .ref o] hC hE hnc pm_cls hk0 rfl dL_oldPath_4 (by decide) (by decide) tw_897 tw_129 ⟨by decide, by decide, by decide +kernel⟩ tw_894 tw_895 tw_896 rfl rfl (sX6_oldPath (l := pm_l X) hG hst hX 1 x1 _ _ _ hk0 h) ⟨by decide, by decide⟩ (Nat.le_of_ble_eq_true rfl) ?_ ?_
  · rintro _ I1 ⟨r, rfl, h⟩
    refine r_i2l 7 hC dL_oldPath_7 ?_
    refine r_last 8 (i := 0) (x := r) hC hko (vp_in_nI (n := 0) (by decide) (by decide)) dL_oldPath_8 (fun I2 hI => ?_)
    replace h := h I2 hI; clear hI
    refine r_goto 9 15 hC dL_oldPath_9 (by decide) ?_
    refine r_iconst 15 (v := 0) hC dL_oldPath_15 (by decide) ?_
    exact w_iret 16 hC hE ⟨by decide, by decide⟩ dL_oldPath_16 ⟨0, rfl, h⟩
  · intro n I1 h1 h3 h
    obtain ⟨rfl, h⟩ := h
    · refine ⟨[], 0, 9, 12, [], rfl, by decide, ?_, ?_⟩
      · intro z hz
        exact absurd hz List.not_mem_nil
      · refine w_astore_n 12 hC dL_oldPath_12 rfl (by decide) rfl ?_
        refine r_iconst 13 (v := 1) hC dL_oldPath_13 (by decide) ?_
        exact w_iret 14 hC hE ⟨by decide, by decide⟩ dL_oldPath_14 ⟨1, rfl, h⟩

def wL_successes (G : pm_G) (o : Nat) (x1 : Int32) (I : pm_I) (K : Int32 → pm_I → Prop) : Prop :=
  wX6_successes G 1 x1 I (fun r I1 => ∀ I2 : pm_I, I2 = pm_up I1 o 0 r → K 0 I2) (fun n I1 => (n = 3 ∧ K 1 I1))

set_option maxRecDepth 20000 in
theorem sL_successes {G : pm_G} {l : Launch} (hG : pm_ok G) (hst : l.stackTraces = false) (hX : pm_exc G) (hnc : pm_nc G) (o : Nat) (x1 : Int32) (I : pm_I) (K : Int32 → pm_I → Prop) (hk0 : pm_k G 1 (.inl 6)) (hko : pm_k G o (.inr (3, 1))) (h : wL_successes G o x1 I K) : pm_Cw G l yL_successes cL_successes 4 [(0, 9, 12, 19)] 8 242 1 6 [.ref 1, .int x1, .ref o] I (pm_Ki K) := by
  unfold wL_successes at h
  refine pm_enterW (by decide +kernel) tw_900 rfl hG rfl (Nat.le_of_ble_eq_true rfl) rfl (fun X hl hC hE => ?_)
  subst hl
  have hC : pm_C G X cL_successes 4 RL (some .int) { frames := 8, cells := 1, slots := 6, locals := 242 } := hC
  refine r_aload_n 0 hC dL_successes_0 rfl rfl ?_
  refine r_iconst 1 (v := 0) hC dL_successes_1 (by decide) ?_
  refine r_aload_n 2 hC dL_successes_2 rfl rfl ?_
  refine r_iload_n 3 hC dL_successes_3 rfl rfl ?_
  refine w_call 4 (n := 1) [.int x1] [.int 0, .ref o] hC hE hnc pm_cls hk0 rfl dL_successes_4 (by decide) (by decide) tw_904 tw_129 ⟨by decide, by decide, by decide +kernel⟩ tw_901 tw_902 tw_903 rfl rfl (sX6_successes (l := pm_l X) hG hst hX 1 x1 _ _ _ hk0 h) ⟨by decide, by decide⟩ (Nat.le_of_ble_eq_true rfl) ?_ ?_
  · rintro _ I1 ⟨r, rfl, h⟩
    refine r_i2l 7 hC dL_successes_7 ?_
    refine r_last 8 (i := 0) (x := r) hC hko (vp_in_nI (n := 0) (by decide) (by decide)) dL_successes_8 (fun I2 hI => ?_)
    replace h := h I2 hI; clear hI
    refine r_goto 9 15 hC dL_successes_9 (by decide) ?_
    refine r_iconst 15 (v := 0) hC dL_successes_15 (by decide) ?_
    exact w_iret 16 hC hE ⟨by decide, by decide⟩ dL_successes_16 ⟨0, rfl, h⟩
  · intro n I1 h1 h3 h
    obtain ⟨rfl, h⟩ := h
    · refine ⟨[], 0, 9, 12, [], rfl, by decide, ?_, ?_⟩
      · intro z hz
        exact absurd hz List.not_mem_nil
      · refine w_astore_n 12 hC dL_successes_12 rfl (by decide) rfl ?_
        refine r_iconst 13 (v := 1) hC dL_successes_13 (by decide) ?_
        exact w_iret 14 hC hE ⟨by decide, by decide⟩ dL_successes_14 ⟨1, rfl, h⟩

def wL_messages (G : pm_G) (o : Nat) (x1 : Int32) (x2 : Int32) (I : pm_I) (K : Int32 → pm_I → Prop) : Prop :=
  wX6_messages G 1 x1 x2 I (fun r I1 => ∀ I2 : pm_I, I2 = pm_up I1 o 0 r → K 0 I2) (fun n I1 => (n = 3 ∧ K 1 I1) ∨ (n = 1 ∧ K 2 I1))

set_option maxRecDepth 20000 in
theorem sL_messages {G : pm_G} {l : Launch} (hG : pm_ok G) (hst : l.stackTraces = false) (hX : pm_exc G) (hnc : pm_nc G) (o : Nat) (x1 : Int32) (x2 : Int32) (I : pm_I) (K : Int32 → pm_I → Prop) (hk0 : pm_k G 1 (.inl 6)) (hko : pm_k G o (.inr (3, 1))) (h : wL_messages G o x1 x2 I K) : pm_Cw G l yL_messages cL_messages 5 [(0, 10, 13, 19), (0, 10, 17, 13)] 8 380 2 12 [.ref 1, .int x1, .int x2, .ref o] I (pm_Ki K) := by
  unfold wL_messages at h
  refine pm_enterW (by decide +kernel) tw_907 rfl hG rfl (Nat.le_of_ble_eq_true rfl) rfl (fun X hl hC hE => ?_)
  subst hl
  have hC : pm_C G X cL_messages 5 RL (some .int) { frames := 8, cells := 2, slots := 12, locals := 380 } := hC
  refine r_aload_n 0 hC dL_messages_0 rfl rfl ?_
  refine r_iconst 1 (v := 0) hC dL_messages_1 (by decide) ?_
  refine r_aload_n 2 hC dL_messages_2 rfl rfl ?_
  refine r_iload_n 3 hC dL_messages_3 rfl rfl ?_
  refine r_iload_n 4 hC dL_messages_4 rfl rfl ?_
  refine w_call 5 (n := 2) [.int x1, .int x2] [.int 0, .ref o] hC hE hnc pm_cls hk0 rfl dL_messages_5 (by decide) (by decide) tw_911 tw_129 ⟨by decide, by decide, by decide +kernel⟩ tw_908 tw_909 tw_910 rfl rfl (sX6_messages (l := pm_l X) hG hst hX 1 x1 x2 _ _ _ hk0 h) ⟨by decide, by decide⟩ (Nat.le_of_ble_eq_true rfl) ?_ ?_
  · rintro _ I1 ⟨r, rfl, h⟩
    refine r_i2l 8 hC dL_messages_8 ?_
    refine r_last 9 (i := 0) (x := r) hC hko (vp_in_nI (n := 0) (by decide) (by decide)) dL_messages_9 (fun I2 hI => ?_)
    replace h := h I2 hI; clear hI
    refine r_goto 10 21 hC dL_messages_10 (by decide) ?_
    refine r_iconst 21 (v := 0) hC dL_messages_21 (by decide) ?_
    exact w_iret 22 hC hE ⟨by decide, by decide⟩ dL_messages_22 ⟨0, rfl, h⟩
  · intro n I1 h1 h3 h
    rcases h with ⟨rfl, h⟩ | ⟨rfl, h⟩
    · refine ⟨[], 0, 10, 13, [(0, 10, 17, 13)], rfl, by decide, ?_, ?_⟩
      · intro z hz
        exact absurd hz List.not_mem_nil
      · refine w_astore 13 hC dL_messages_13 (by decide) rfl ?_
        refine r_iconst 15 (v := 1) hC dL_messages_15 (by decide) ?_
        exact w_iret 16 hC hE ⟨by decide, by decide⟩ dL_messages_16 ⟨1, rfl, h⟩
    · refine ⟨[(0, 10, 13, 19)], 0, 10, 17, [], rfl, by decide, ?_, ?_⟩
      · intro z hz
        rcases List.mem_cons.mp hz with rfl | hz
        · exact ⟨3, by decide, by decide, by decide, rfl⟩
        exact absurd hz List.not_mem_nil
      · refine w_astore 17 hC dL_messages_17 (by decide) rfl ?_
        refine r_iconst 19 (v := 2) hC dL_messages_19 (by decide) ?_
        exact w_iret 20 hC hE ⟨by decide, by decide⟩ dL_messages_20 ⟨2, rfl, h⟩

def wL_lastValue (G : pm_G) (o : Nat) (x1 : Int32) (I : pm_I) (K : Int32 → pm_I → Prop) : Prop :=
  wX6_lastValue G 1 x1 I (fun r I1 => ∀ I2 : pm_I, I2 = pm_up I1 o 0 r → K 0 I2) (fun n I1 => (n = 3 ∧ K 1 I1) ∨ (n = 2 ∧ K 2 I1))

set_option maxRecDepth 20000 in
theorem sL_lastValue {G : pm_G} {l : Launch} (hG : pm_ok G) (hst : l.stackTraces = false) (hX : pm_exc G) (hnc : pm_nc G) (o : Nat) (x1 : Int32) (I : pm_I) (K : Int32 → pm_I → Prop) (hk0 : pm_k G 1 (.inl 6)) (hko : pm_k G o (.inr (3, 1))) (h : wL_lastValue G o x1 I K) : pm_Cw G l yL_lastValue cL_lastValue 4 [(0, 9, 12, 19), (0, 9, 15, 41)] 8 243 2 12 [.ref 1, .int x1, .ref o] I (pm_Ki K) := by
  unfold wL_lastValue at h
  refine pm_enterW (by decide +kernel) tw_928 rfl hG rfl (Nat.le_of_ble_eq_true rfl) rfl (fun X hl hC hE => ?_)
  subst hl
  have hC : pm_C G X cL_lastValue 4 RL (some .int) { frames := 8, cells := 2, slots := 12, locals := 243 } := hC
  refine r_aload_n 0 hC dL_lastValue_0 rfl rfl ?_
  refine r_iconst 1 (v := 0) hC dL_lastValue_1 (by decide) ?_
  refine r_aload_n 2 hC dL_lastValue_2 rfl rfl ?_
  refine r_iload_n 3 hC dL_lastValue_3 rfl rfl ?_
  refine w_call 4 (n := 1) [.int x1] [.int 0, .ref o] hC hE hnc pm_cls hk0 rfl dL_lastValue_4 (by decide) (by decide) tw_932 tw_129 ⟨by decide, by decide, by decide +kernel⟩ tw_929 tw_930 tw_931 rfl rfl (sX6_lastValue (l := pm_l X) hG hst hX 1 x1 _ _ _ hk0 h) ⟨by decide, by decide⟩ (Nat.le_of_ble_eq_true rfl) ?_ ?_
  · rintro _ I1 ⟨r, rfl, h⟩
    refine r_i2l 7 hC dL_lastValue_7 ?_
    refine r_last 8 (i := 0) (x := r) hC hko (vp_in_nI (n := 0) (by decide) (by decide)) dL_lastValue_8 (fun I2 hI => ?_)
    replace h := h I2 hI; clear hI
    refine r_goto 9 18 hC dL_lastValue_9 (by decide) ?_
    refine r_iconst 18 (v := 0) hC dL_lastValue_18 (by decide) ?_
    exact w_iret 19 hC hE ⟨by decide, by decide⟩ dL_lastValue_19 ⟨0, rfl, h⟩
  · intro n I1 h1 h3 h
    rcases h with ⟨rfl, h⟩ | ⟨rfl, h⟩
    · refine ⟨[], 0, 9, 12, [(0, 9, 15, 41)], rfl, by decide, ?_, ?_⟩
      · intro z hz
        exact absurd hz List.not_mem_nil
      · refine w_astore_n 12 hC dL_lastValue_12 rfl (by decide) rfl ?_
        refine r_iconst 13 (v := 1) hC dL_lastValue_13 (by decide) ?_
        exact w_iret 14 hC hE ⟨by decide, by decide⟩ dL_lastValue_14 ⟨1, rfl, h⟩
    · refine ⟨[(0, 9, 12, 19)], 0, 9, 15, [], rfl, by decide, ?_, ?_⟩
      · intro z hz
        rcases List.mem_cons.mp hz with rfl | hz
        · exact ⟨3, by decide, by decide, by decide, rfl⟩
        exact absurd hz List.not_mem_nil
      · refine w_astore_n 15 hC dL_lastValue_15 rfl (by decide) rfl ?_
        refine r_iconst 16 (v := 2) hC dL_lastValue_16 (by decide) ?_
        exact w_iret 17 hC hE ⟨by decide, by decide⟩ dL_lastValue_17 ⟨2, rfl, h⟩

def wL_digest (G : pm_G) (o : Nat) (x1 : Int32) (I : pm_I) (K : Int32 → pm_I → Prop) : Prop :=
  wX6_digest G 1 x1 I (fun r I1 => ∀ I2 : pm_I, I2 = pm_up I1 o 0 r → K 0 I2) (fun n I1 => (n = 3 ∧ K 1 I1))

set_option maxRecDepth 20000 in
theorem sL_digest {G : pm_G} {l : Launch} (hG : pm_ok G) (hst : l.stackTraces = false) (hX : pm_exc G) (hnc : pm_nc G) (o : Nat) (x1 : Int32) (I : pm_I) (K : Int32 → pm_I → Prop) (hk0 : pm_k G 1 (.inl 6)) (hko : pm_k G o (.inr (3, 1))) (h : wL_digest G o x1 I K) : pm_Cw G l yL_digest cL_digest 4 [(0, 9, 12, 19)] 8 242 1 6 [.ref 1, .int x1, .ref o] I (pm_Ki K) := by
  unfold wL_digest at h
  refine pm_enterW (by decide +kernel) tw_936 rfl hG rfl (Nat.le_of_ble_eq_true rfl) rfl (fun X hl hC hE => ?_)
  subst hl
  have hC : pm_C G X cL_digest 4 RL (some .int) { frames := 8, cells := 1, slots := 6, locals := 242 } := hC
  refine r_aload_n 0 hC dL_digest_0 rfl rfl ?_
  refine r_iconst 1 (v := 0) hC dL_digest_1 (by decide) ?_
  refine r_aload_n 2 hC dL_digest_2 rfl rfl ?_
  refine r_iload_n 3 hC dL_digest_3 rfl rfl ?_
  refine w_call 4 (n := 1) [.int x1] [.int 0, .ref o] hC hE hnc pm_cls hk0 rfl dL_digest_4 (by decide) (by decide) tw_940 tw_129 ⟨by decide, by decide, by decide +kernel⟩ tw_937 tw_938 tw_939 rfl rfl (sX6_digest (l := pm_l X) hG hst hX 1 x1 _ _ _ hk0 h) ⟨by decide, by decide⟩ (Nat.le_of_ble_eq_true rfl) ?_ ?_
  · rintro _ I1 ⟨r, rfl, h⟩
    refine r_i2l 7 hC dL_digest_7 ?_
    refine r_last 8 (i := 0) (x := r) hC hko (vp_in_nI (n := 0) (by decide) (by decide)) dL_digest_8 (fun I2 hI => ?_)
    replace h := h I2 hI; clear hI
    refine r_goto 9 15 hC dL_digest_9 (by decide) ?_
    refine r_iconst 15 (v := 0) hC dL_digest_15 (by decide) ?_
    exact w_iret 16 hC hE ⟨by decide, by decide⟩ dL_digest_16 ⟨0, rfl, h⟩
  · intro n I1 h1 h3 h
    obtain ⟨rfl, h⟩ := h
    · refine ⟨[], 0, 9, 12, [], rfl, by decide, ?_, ?_⟩
      · intro z hz
        exact absurd hz List.not_mem_nil
      · refine w_astore_n 12 hC dL_digest_12 rfl (by decide) rfl ?_
        refine r_iconst 13 (v := 1) hC dL_digest_13 (by decide) ?_
        exact w_iret 14 hC hE ⟨by decide, by decide⟩ dL_digest_14 ⟨1, rfl, h⟩

def wL_key (G : pm_G) (o : Nat) (x1 : Int32) (I : pm_I) (K : Int32 → pm_I → Prop) : Prop :=
  wX6_key G 1 x1 I (fun r I1 => ∀ I2 : pm_I, I2 = pm_up I1 o 0 r → K 0 I2) (fun n I1 => (n = 3 ∧ K 1 I1))

set_option maxRecDepth 20000 in
theorem sL_key {G : pm_G} {l : Launch} (hG : pm_ok G) (hst : l.stackTraces = false) (hX : pm_exc G) (hnc : pm_nc G) (o : Nat) (x1 : Int32) (I : pm_I) (K : Int32 → pm_I → Prop) (hk0 : pm_k G 1 (.inl 6)) (hko : pm_k G o (.inr (3, 1))) (h : wL_key G o x1 I K) : pm_Cw G l yL_key cL_key 4 [(0, 9, 12, 19)] 8 242 1 6 [.ref 1, .int x1, .ref o] I (pm_Ki K) := by
  unfold wL_key at h
  refine pm_enterW (by decide +kernel) tw_943 rfl hG rfl (Nat.le_of_ble_eq_true rfl) rfl (fun X hl hC hE => ?_)
  subst hl
  have hC : pm_C G X cL_key 4 RL (some .int) { frames := 8, cells := 1, slots := 6, locals := 242 } := hC
  refine r_aload_n 0 hC dL_key_0 rfl rfl ?_
  refine r_iconst 1 (v := 0) hC dL_key_1 (by decide) ?_
  refine r_aload_n 2 hC dL_key_2 rfl rfl ?_
  refine r_iload_n 3 hC dL_key_3 rfl rfl ?_
  refine w_call 4 (n := 1) [.int x1] [.int 0, .ref o] hC hE hnc pm_cls hk0 rfl dL_key_4 (by decide) (by decide) tw_947 tw_129 ⟨by decide, by decide, by decide +kernel⟩ tw_944 tw_945 tw_946 rfl rfl (sX6_key (l := pm_l X) hG hst hX 1 x1 _ _ _ hk0 h) ⟨by decide, by decide⟩ (Nat.le_of_ble_eq_true rfl) ?_ ?_
  · rintro _ I1 ⟨r, rfl, h⟩
    refine r_i2l 7 hC dL_key_7 ?_
    refine r_last 8 (i := 0) (x := r) hC hko (vp_in_nI (n := 0) (by decide) (by decide)) dL_key_8 (fun I2 hI => ?_)
    replace h := h I2 hI; clear hI
    refine r_goto 9 15 hC dL_key_9 (by decide) ?_
    refine r_iconst 15 (v := 0) hC dL_key_15 (by decide) ?_
    exact w_iret 16 hC hE ⟨by decide, by decide⟩ dL_key_16 ⟨0, rfl, h⟩
  · intro n I1 h1 h3 h
    obtain ⟨rfl, h⟩ := h
    · refine ⟨[], 0, 9, 12, [], rfl, by decide, ?_, ?_⟩
      · intro z hz
        exact absurd hz List.not_mem_nil
      · refine w_astore_n 12 hC dL_key_12 rfl (by decide) rfl ?_
        refine r_iconst 13 (v := 1) hC dL_key_13 (by decide) ?_
        exact w_iret 14 hC hE ⟨by decide, by decide⟩ dL_key_14 ⟨1, rfl, h⟩

def wL_oldestKey (G : pm_G) (o : Nat) (x1 : Int32) (I : pm_I) (K : Int32 → pm_I → Prop) : Prop :=
  wX6_oldestKey G 1 x1 I (fun r I1 => ∀ I2 : pm_I, I2 = pm_up I1 o 0 r → K 0 I2) (fun n I1 => (n = 3 ∧ K 1 I1))

set_option maxRecDepth 20000 in
theorem sL_oldestKey {G : pm_G} {l : Launch} (hG : pm_ok G) (hst : l.stackTraces = false) (hX : pm_exc G) (hnc : pm_nc G) (o : Nat) (x1 : Int32) (I : pm_I) (K : Int32 → pm_I → Prop) (hk0 : pm_k G 1 (.inl 6)) (hko : pm_k G o (.inr (3, 1))) (h : wL_oldestKey G o x1 I K) : pm_Cw G l yL_oldestKey cL_oldestKey 4 [(0, 9, 12, 19)] 8 375 1 6 [.ref 1, .int x1, .ref o] I (pm_Ki K) := by
  unfold wL_oldestKey at h
  refine pm_enterW (by decide +kernel) tw_950 rfl hG rfl (Nat.le_of_ble_eq_true rfl) rfl (fun X hl hC hE => ?_)
  subst hl
  have hC : pm_C G X cL_oldestKey 4 RL (some .int) { frames := 8, cells := 1, slots := 6, locals := 375 } := hC
  refine r_aload_n 0 hC dL_oldestKey_0 rfl rfl ?_
  refine r_iconst 1 (v := 0) hC dL_oldestKey_1 (by decide) ?_
  refine r_aload_n 2 hC dL_oldestKey_2 rfl rfl ?_
  refine r_iload_n 3 hC dL_oldestKey_3 rfl rfl ?_
  refine w_call 4 (n := 1) [.int x1] [.int 0, .ref o] hC hE hnc pm_cls hk0 rfl dL_oldestKey_4 (by decide) (by decide) tw_954 tw_129 ⟨by decide, by decide, by decide +kernel⟩ tw_951 tw_952 tw_953 rfl rfl (sX6_oldestKey (l := pm_l X) hG hst hX 1 x1 _ _ _ hk0 h) ⟨by decide, by decide⟩ (Nat.le_of_ble_eq_true rfl) ?_ ?_
  · rintro _ I1 ⟨r, rfl, h⟩
    refine r_i2l 7 hC dL_oldestKey_7 ?_
    refine r_last 8 (i := 0) (x := r) hC hko (vp_in_nI (n := 0) (by decide) (by decide)) dL_oldestKey_8 (fun I2 hI => ?_)
    replace h := h I2 hI; clear hI
    refine r_goto 9 15 hC dL_oldestKey_9 (by decide) ?_
    refine r_iconst 15 (v := 0) hC dL_oldestKey_15 (by decide) ?_
    exact w_iret 16 hC hE ⟨by decide, by decide⟩ dL_oldestKey_16 ⟨0, rfl, h⟩
  · intro n I1 h1 h3 h
    obtain ⟨rfl, h⟩ := h
    · refine ⟨[], 0, 9, 12, [], rfl, by decide, ?_, ?_⟩
      · intro z hz
        exact absurd hz List.not_mem_nil
      · refine w_astore_n 12 hC dL_oldestKey_12 rfl (by decide) rfl ?_
        refine r_iconst 13 (v := 1) hC dL_oldestKey_13 (by decide) ?_
        exact w_iret 14 hC hE ⟨by decide, by decide⟩ dL_oldestKey_14 ⟨1, rfl, h⟩

def wL_keyStart (G : pm_G) (o : Nat) (x1 : Int32) (I : pm_I) (K : Int32 → pm_I → Prop) : Prop :=
  wX6_keyStart G 1 x1 I (fun r I1 => ∀ I2 : pm_I, I2 = pm_up I1 o 0 r → K 0 I2) (fun n I1 => (n = 3 ∧ K 1 I1))

set_option maxRecDepth 20000 in
theorem sL_keyStart {G : pm_G} {l : Launch} (hG : pm_ok G) (hst : l.stackTraces = false) (hX : pm_exc G) (hnc : pm_nc G) (o : Nat) (x1 : Int32) (I : pm_I) (K : Int32 → pm_I → Prop) (hk0 : pm_k G 1 (.inl 6)) (hko : pm_k G o (.inr (3, 1))) (h : wL_keyStart G o x1 I K) : pm_Cw G l yL_keyStart cL_keyStart 4 [(0, 9, 12, 19)] 8 243 1 6 [.ref 1, .int x1, .ref o] I (pm_Ki K) := by
  unfold wL_keyStart at h
  refine pm_enterW (by decide +kernel) tw_961 rfl hG rfl (Nat.le_of_ble_eq_true rfl) rfl (fun X hl hC hE => ?_)
  subst hl
  have hC : pm_C G X cL_keyStart 4 RL (some .int) { frames := 8, cells := 1, slots := 6, locals := 243 } := hC
  refine r_aload_n 0 hC dL_keyStart_0 rfl rfl ?_
  refine r_iconst 1 (v := 0) hC dL_keyStart_1 (by decide) ?_
  refine r_aload_n 2 hC dL_keyStart_2 rfl rfl ?_
  refine r_iload_n 3 hC dL_keyStart_3 rfl rfl ?_
  refine w_call 4 (n := 1) [.int x1] [.int 0, .ref o] hC hE hnc pm_cls hk0 rfl dL_keyStart_4 (by decide) (by decide) tw_965 tw_129 ⟨by decide, by decide, by decide +kernel⟩ tw_962 tw_963 tw_964 rfl rfl (sX6_keyStart (l := pm_l X) hG hst hX 1 x1 _ _ _ hk0 h) ⟨by decide, by decide⟩ (Nat.le_of_ble_eq_true rfl) ?_ ?_
  · rintro _ I1 ⟨r, rfl, h⟩
    refine r_i2l 7 hC dL_keyStart_7 ?_
    refine r_last 8 (i := 0) (x := r) hC hko (vp_in_nI (n := 0) (by decide) (by decide)) dL_keyStart_8 (fun I2 hI => ?_)
    replace h := h I2 hI; clear hI
    refine r_goto 9 15 hC dL_keyStart_9 (by decide) ?_
    refine r_iconst 15 (v := 0) hC dL_keyStart_15 (by decide) ?_
    exact w_iret 16 hC hE ⟨by decide, by decide⟩ dL_keyStart_16 ⟨0, rfl, h⟩
  · intro n I1 h1 h3 h
    obtain ⟨rfl, h⟩ := h
    · refine ⟨[], 0, 9, 12, [], rfl, by decide, ?_, ?_⟩
      · intro z hz
        exact absurd hz List.not_mem_nil
      · refine w_astore_n 12 hC dL_keyStart_12 rfl (by decide) rfl ?_
        refine r_iconst 13 (v := 1) hC dL_keyStart_13 (by decide) ?_
        exact w_iret 14 hC hE ⟨by decide, by decide⟩ dL_keyStart_14 ⟨1, rfl, h⟩

def wL_ticksToDeliver (G : pm_G) (o : Nat) (x1 : Int32) (I : pm_I) (K : Int32 → pm_I → Prop) : Prop :=
  wX6_ticksToDeliver G 1 x1 I (fun r I1 => ∀ I2 : pm_I, I2 = pm_up I1 o 0 r → K 0 I2) (fun n I1 => (n = 3 ∧ K 1 I1))

set_option maxRecDepth 20000 in
theorem sL_ticksToDeliver {G : pm_G} {l : Launch} (hG : pm_ok G) (hst : l.stackTraces = false) (hX : pm_exc G) (hnc : pm_nc G) (o : Nat) (x1 : Int32) (I : pm_I) (K : Int32 → pm_I → Prop) (hk0 : pm_k G 1 (.inl 6)) (hko : pm_k G o (.inr (3, 1))) (h : wL_ticksToDeliver G o x1 I K) : pm_Cw G l yL_ticksToDeliver cL_ticksToDeliver 4 [(0, 9, 12, 19)] 9 654 1 6 [.ref 1, .int x1, .ref o] I (pm_Ki K) := by
  unfold wL_ticksToDeliver at h
  refine pm_enterW (by decide +kernel) tw_968 rfl hG rfl (Nat.le_of_ble_eq_true rfl) rfl (fun X hl hC hE => ?_)
  subst hl
  have hC : pm_C G X cL_ticksToDeliver 4 RL (some .int) { frames := 9, cells := 1, slots := 6, locals := 654 } := hC
  refine r_aload_n 0 hC dL_ticksToDeliver_0 rfl rfl ?_
  refine r_iconst 1 (v := 0) hC dL_ticksToDeliver_1 (by decide) ?_
  refine r_aload_n 2 hC dL_ticksToDeliver_2 rfl rfl ?_
  refine r_iload_n 3 hC dL_ticksToDeliver_3 rfl rfl ?_
  refine w_call 4 (n := 1) [.int x1] [.int 0, .ref o] hC hE hnc pm_cls hk0 rfl dL_ticksToDeliver_4 (by decide) (by decide) tw_972 tw_129 ⟨by decide, by decide, by decide +kernel⟩ tw_969 tw_970 tw_971 rfl rfl (sX6_ticksToDeliver (l := pm_l X) hG hst hX 1 x1 _ _ _ hk0 h) ⟨by decide, by decide⟩ (Nat.le_of_ble_eq_true rfl) ?_ ?_
  · rintro _ I1 ⟨r, rfl, h⟩
    refine r_i2l 7 hC dL_ticksToDeliver_7 ?_
    refine r_last 8 (i := 0) (x := r) hC hko (vp_in_nI (n := 0) (by decide) (by decide)) dL_ticksToDeliver_8 (fun I2 hI => ?_)
    replace h := h I2 hI; clear hI
    refine r_goto 9 15 hC dL_ticksToDeliver_9 (by decide) ?_
    refine r_iconst 15 (v := 0) hC dL_ticksToDeliver_15 (by decide) ?_
    exact w_iret 16 hC hE ⟨by decide, by decide⟩ dL_ticksToDeliver_16 ⟨0, rfl, h⟩
  · intro n I1 h1 h3 h
    obtain ⟨rfl, h⟩ := h
    · refine ⟨[], 0, 9, 12, [], rfl, by decide, ?_, ?_⟩
      · intro z hz
        exact absurd hz List.not_mem_nil
      · refine w_astore_n 12 hC dL_ticksToDeliver_12 rfl (by decide) rfl ?_
        refine r_iconst 13 (v := 1) hC dL_ticksToDeliver_13 (by decide) ?_
        exact w_iret 14 hC hE ⟨by decide, by decide⟩ dL_ticksToDeliver_14 ⟨1, rfl, h⟩

def wL_ticksToDirect (G : pm_G) (o : Nat) (x1 : Int32) (I : pm_I) (K : Int32 → pm_I → Prop) : Prop :=
  wX6_ticksToDirect G 1 x1 I (fun r I1 => ∀ I2 : pm_I, I2 = pm_up I1 o 0 r → K 0 I2) (fun n I1 => (n = 3 ∧ K 1 I1))

set_option maxRecDepth 20000 in
theorem sL_ticksToDirect {G : pm_G} {l : Launch} (hG : pm_ok G) (hst : l.stackTraces = false) (hX : pm_exc G) (hnc : pm_nc G) (o : Nat) (x1 : Int32) (I : pm_I) (K : Int32 → pm_I → Prop) (hk0 : pm_k G 1 (.inl 6)) (hko : pm_k G o (.inr (3, 1))) (h : wL_ticksToDirect G o x1 I K) : pm_Cw G l yL_ticksToDirect cL_ticksToDirect 4 [(0, 9, 12, 19)] 9 654 1 6 [.ref 1, .int x1, .ref o] I (pm_Ki K) := by
  unfold wL_ticksToDirect at h
  refine pm_enterW (by decide +kernel) tw_1022 rfl hG rfl (Nat.le_of_ble_eq_true rfl) rfl (fun X hl hC hE => ?_)
  subst hl
  have hC : pm_C G X cL_ticksToDirect 4 RL (some .int) { frames := 9, cells := 1, slots := 6, locals := 654 } := hC
  refine r_aload_n 0 hC dL_ticksToDirect_0 rfl rfl ?_
  refine r_iconst 1 (v := 0) hC dL_ticksToDirect_1 (by decide) ?_
  refine r_aload_n 2 hC dL_ticksToDirect_2 rfl rfl ?_
  refine r_iload_n 3 hC dL_ticksToDirect_3 rfl rfl ?_
  refine w_call 4 (n := 1) [.int x1] [.int 0, .ref o] hC hE hnc pm_cls hk0 rfl dL_ticksToDirect_4 (by decide) (by decide) tw_1026 tw_129 ⟨by decide, by decide, by decide +kernel⟩ tw_1023 tw_1024 tw_1025 rfl rfl (sX6_ticksToDirect (l := pm_l X) hG hst hX 1 x1 _ _ _ hk0 h) ⟨by decide, by decide⟩ (Nat.le_of_ble_eq_true rfl) ?_ ?_
  · rintro _ I1 ⟨r, rfl, h⟩
    refine r_i2l 7 hC dL_ticksToDirect_7 ?_
    refine r_last 8 (i := 0) (x := r) hC hko (vp_in_nI (n := 0) (by decide) (by decide)) dL_ticksToDirect_8 (fun I2 hI => ?_)
    replace h := h I2 hI; clear hI
    refine r_goto 9 15 hC dL_ticksToDirect_9 (by decide) ?_
    refine r_iconst 15 (v := 0) hC dL_ticksToDirect_15 (by decide) ?_
    exact w_iret 16 hC hE ⟨by decide, by decide⟩ dL_ticksToDirect_16 ⟨0, rfl, h⟩
  · intro n I1 h1 h3 h
    obtain ⟨rfl, h⟩ := h
    · refine ⟨[], 0, 9, 12, [], rfl, by decide, ?_, ?_⟩
      · intro z hz
        exact absurd hz List.not_mem_nil
      · refine w_astore_n 12 hC dL_ticksToDirect_12 rfl (by decide) rfl ?_
        refine r_iconst 13 (v := 1) hC dL_ticksToDirect_13 (by decide) ?_
        exact w_iret 14 hC hE ⟨by decide, by decide⟩ dL_ticksToDirect_14 ⟨1, rfl, h⟩

def wL_run (G : pm_G) (o : Nat) (x1 : Int32) (I : pm_I) (K : Int32 → pm_I → Prop) : Prop :=
  wX6_run G 1 x1 I (fun r I1 => ∀ I2 : pm_I, I2 = pm_up I1 o 0 r → K 0 I2) (fun n I1 => (n = 1 ∧ K 1 I1) ∨ (n = 2 ∧ K 2 I1))

set_option maxRecDepth 20000 in
theorem sL_run {G : pm_G} {l : Launch} (hG : pm_ok G) (hst : l.stackTraces = false) (hX : pm_exc G) (hnc : pm_nc G) (o : Nat) (x1 : Int32) (I : pm_I) (K : Int32 → pm_I → Prop) (hk0 : pm_k G 1 (.inl 6)) (hko : pm_k G o (.inr (3, 1))) (h : wL_run G o x1 I K) : pm_Cw G l yL_run cL_run 4 [(0, 9, 12, 13), (0, 9, 15, 41)] 8 654 1 6 [.ref 1, .int x1, .ref o] I (pm_Ki K) := by
  unfold wL_run at h
  refine pm_enterW (by decide +kernel) tw_1029 rfl hG rfl (Nat.le_of_ble_eq_true rfl) rfl (fun X hl hC hE => ?_)
  subst hl
  have hC : pm_C G X cL_run 4 RL (some .int) { frames := 8, cells := 1, slots := 6, locals := 654 } := hC
  refine r_aload_n 0 hC dL_run_0 rfl rfl ?_
  refine r_iconst 1 (v := 0) hC dL_run_1 (by decide) ?_
  refine r_aload_n 2 hC dL_run_2 rfl rfl ?_
  refine r_iload_n 3 hC dL_run_3 rfl rfl ?_
  refine w_call 4 (n := 1) [.int x1] [.int 0, .ref o] hC hE hnc pm_cls hk0 rfl dL_run_4 (by decide) (by decide) tw_1033 tw_129 ⟨by decide, by decide, by decide +kernel⟩ tw_1030 tw_1031 tw_1032 rfl rfl (sX6_run (l := pm_l X) hG hst hX 1 x1 _ _ _ hk0 h) ⟨by decide, by decide⟩ (Nat.le_of_ble_eq_true rfl) ?_ ?_
  · rintro _ I1 ⟨r, rfl, h⟩
    refine r_i2l 7 hC dL_run_7 ?_
    refine r_last 8 (i := 0) (x := r) hC hko (vp_in_nI (n := 0) (by decide) (by decide)) dL_run_8 (fun I2 hI => ?_)
    replace h := h I2 hI; clear hI
    refine r_goto 9 18 hC dL_run_9 (by decide) ?_
    refine r_iconst 18 (v := 0) hC dL_run_18 (by decide) ?_
    exact w_iret 19 hC hE ⟨by decide, by decide⟩ dL_run_19 ⟨0, rfl, h⟩
  · intro n I1 h1 h3 h
    rcases h with ⟨rfl, h⟩ | ⟨rfl, h⟩
    · refine ⟨[], 0, 9, 12, [(0, 9, 15, 41)], rfl, by decide, ?_, ?_⟩
      · intro z hz
        exact absurd hz List.not_mem_nil
      · refine w_astore_n 12 hC dL_run_12 rfl (by decide) rfl ?_
        refine r_iconst 13 (v := 1) hC dL_run_13 (by decide) ?_
        exact w_iret 14 hC hE ⟨by decide, by decide⟩ dL_run_14 ⟨1, rfl, h⟩
    · refine ⟨[(0, 9, 12, 13)], 0, 9, 15, [], rfl, by decide, ?_, ?_⟩
      · intro z hz
        rcases List.mem_cons.mp hz with rfl | hz
        · exact ⟨1, by decide, by decide, by decide, rfl⟩
        exact absurd hz List.not_mem_nil
      · refine w_astore_n 15 hC dL_run_15 rfl (by decide) rfl ?_
        refine r_iconst 16 (v := 2) hC dL_run_16 (by decide) ?_
        exact w_iret 17 hC hE ⟨by decide, by decide⟩ dL_run_17 ⟨2, rfl, h⟩

def wL_introduce (G : pm_G) (o : Nat) (x1 : Int32) (x2 : Int32) (x3 : Int32) (I : pm_I) (K : Int32 → pm_I → Prop) : Prop :=
  wX6_introduce G 1 x1 x2 x3 I (fun r I1 => ∀ I2 : pm_I, I2 = pm_up I1 o 0 r → K 0 I2) (fun n I1 => (n = 3 ∧ K 1 I1) ∨ (n = 1 ∧ K 2 I1) ∨ (n = 2 ∧ K 3 I1))

set_option maxRecDepth 20000 in
theorem sL_introduce {G : pm_G} {l : Launch} (hG : pm_ok G) (hst : l.stackTraces = false) (hX : pm_exc G) (hnc : pm_nc G) (o : Nat) (x1 : Int32) (x2 : Int32) (x3 : Int32) (I : pm_I) (K : Int32 → pm_I → Prop) (hk0 : pm_k G 1 (.inl 6)) (hko : pm_k G o (.inr (3, 1))) (h : wL_introduce G o x1 x2 x3 I K) : pm_Cw G l yL_introduce cL_introduce 6 [(0, 12, 15, 19), (0, 12, 19, 13), (0, 12, 23, 41)] 10 489 5 30 [.ref 1, .int x1, .int x2, .int x3, .ref o] I (pm_Ki K) := by
  unfold wL_introduce at h
  refine pm_enterW (by decide +kernel) tw_1045 rfl hG rfl (Nat.le_of_ble_eq_true rfl) rfl (fun X hl hC hE => ?_)
  subst hl
  have hC : pm_C G X cL_introduce 6 RL (some .int) { frames := 10, cells := 5, slots := 30, locals := 489 } := hC
  refine r_aload 0 hC dL_introduce_0 rfl ?_
  refine r_iconst 2 (v := 0) hC dL_introduce_2 (by decide) ?_
  refine r_aload_n 3 hC dL_introduce_3 rfl rfl ?_
  refine r_iload_n 4 hC dL_introduce_4 rfl rfl ?_
  refine r_iload_n 5 hC dL_introduce_5 rfl rfl ?_
  refine r_iload_n 6 hC dL_introduce_6 rfl rfl ?_
  refine w_call 7 (n := 3) [.int x1, .int x2, .int x3] [.int 0, .ref o] hC hE hnc pm_cls hk0 rfl dL_introduce_7 (by decide) (by decide) tw_1049 tw_129 ⟨by decide, by decide, by decide +kernel⟩ tw_1046 tw_1047 tw_1048 rfl rfl (sX6_introduce (l := pm_l X) hG hst hX 1 x1 x2 x3 _ _ _ hk0 h) ⟨by decide, by decide⟩ (Nat.le_of_ble_eq_true rfl) ?_ ?_
  · rintro _ I1 ⟨r, rfl, h⟩
    refine r_i2l 10 hC dL_introduce_10 ?_
    refine r_last 11 (i := 0) (x := r) hC hko (vp_in_nI (n := 0) (by decide) (by decide)) dL_introduce_11 (fun I2 hI => ?_)
    replace h := h I2 hI; clear hI
    refine r_goto 12 27 hC dL_introduce_12 (by decide) ?_
    refine r_iconst 27 (v := 0) hC dL_introduce_27 (by decide) ?_
    exact w_iret 28 hC hE ⟨by decide, by decide⟩ dL_introduce_28 ⟨0, rfl, h⟩
  · intro n I1 h1 h3 h
    rcases h with ⟨rfl, h⟩ | ⟨rfl, h⟩ | ⟨rfl, h⟩
    · refine ⟨[], 0, 12, 15, [(0, 12, 19, 13), (0, 12, 23, 41)], rfl, by decide, ?_, ?_⟩
      · intro z hz
        exact absurd hz List.not_mem_nil
      · refine w_astore 15 hC dL_introduce_15 (by decide) rfl ?_
        refine r_iconst 17 (v := 1) hC dL_introduce_17 (by decide) ?_
        exact w_iret 18 hC hE ⟨by decide, by decide⟩ dL_introduce_18 ⟨1, rfl, h⟩
    · refine ⟨[(0, 12, 15, 19)], 0, 12, 19, [(0, 12, 23, 41)], rfl, by decide, ?_, ?_⟩
      · intro z hz
        rcases List.mem_cons.mp hz with rfl | hz
        · exact ⟨3, by decide, by decide, by decide, rfl⟩
        exact absurd hz List.not_mem_nil
      · refine w_astore 19 hC dL_introduce_19 (by decide) rfl ?_
        refine r_iconst 21 (v := 2) hC dL_introduce_21 (by decide) ?_
        exact w_iret 22 hC hE ⟨by decide, by decide⟩ dL_introduce_22 ⟨2, rfl, h⟩
    · refine ⟨[(0, 12, 15, 19), (0, 12, 19, 13)], 0, 12, 23, [], rfl, by decide, ?_, ?_⟩
      · intro z hz
        rcases List.mem_cons.mp hz with rfl | hz
        · exact ⟨3, by decide, by decide, by decide, rfl⟩
        rcases List.mem_cons.mp hz with rfl | hz
        · exact ⟨1, by decide, by decide, by decide, rfl⟩
        exact absurd hz List.not_mem_nil
      · refine w_astore 23 hC dL_introduce_23 (by decide) rfl ?_
        refine r_iconst 25 (v := 3) hC dL_introduce_25 (by decide) ?_
        exact w_iret 26 hC hE ⟨by decide, by decide⟩ dL_introduce_26 ⟨3, rfl, h⟩

def wL_open (G : pm_G) (o : Nat) (x1 : Int32) (x2 : Int32) (I : pm_I) (K : Int32 → pm_I → Prop) : Prop :=
  wX6_open G 1 x1 x2 I (fun r I1 => ∀ I2 : pm_I, I2 = pm_up I1 o 0 r → K 0 I2) (fun n I1 => (n = 3 ∧ K 1 I1) ∨ (n = 1 ∧ K 2 I1) ∨ (n = 2 ∧ K 3 I1))

set_option maxRecDepth 20000 in
theorem sL_open {G : pm_G} {l : Launch} (hG : pm_ok G) (hst : l.stackTraces = false) (hX : pm_exc G) (hnc : pm_nc G) (o : Nat) (x1 : Int32) (x2 : Int32) (I : pm_I) (K : Int32 → pm_I → Prop) (hk0 : pm_k G 1 (.inl 6)) (hko : pm_k G o (.inr (3, 1))) (h : wL_open G o x1 x2 I K) : pm_Cw G l yL_open cL_open 5 [(0, 10, 13, 19), (0, 10, 17, 13), (0, 10, 21, 41)] 10 489 4 24 [.ref 1, .int x1, .int x2, .ref o] I (pm_Ki K) := by
  unfold wL_open at h
  refine pm_enterW (by decide +kernel) tw_1064 rfl hG rfl (Nat.le_of_ble_eq_true rfl) rfl (fun X hl hC hE => ?_)
  subst hl
  have hC : pm_C G X cL_open 5 RL (some .int) { frames := 10, cells := 4, slots := 24, locals := 489 } := hC
  refine r_aload_n 0 hC dL_open_0 rfl rfl ?_
  refine r_iconst 1 (v := 0) hC dL_open_1 (by decide) ?_
  refine r_aload_n 2 hC dL_open_2 rfl rfl ?_
  refine r_iload_n 3 hC dL_open_3 rfl rfl ?_
  refine r_iload_n 4 hC dL_open_4 rfl rfl ?_
  refine w_call 5 (n := 2) [.int x1, .int x2] [.int 0, .ref o] hC hE hnc pm_cls hk0 rfl dL_open_5 (by decide) (by decide) tw_1068 tw_129 ⟨by decide, by decide, by decide +kernel⟩ tw_1065 tw_1066 tw_1067 rfl rfl (sX6_open (l := pm_l X) hG hst hX 1 x1 x2 _ _ _ hk0 h) ⟨by decide, by decide⟩ (Nat.le_of_ble_eq_true rfl) ?_ ?_
  · rintro _ I1 ⟨r, rfl, h⟩
    refine r_i2l 8 hC dL_open_8 ?_
    refine r_last 9 (i := 0) (x := r) hC hko (vp_in_nI (n := 0) (by decide) (by decide)) dL_open_9 (fun I2 hI => ?_)
    replace h := h I2 hI; clear hI
    refine r_goto 10 25 hC dL_open_10 (by decide) ?_
    refine r_iconst 25 (v := 0) hC dL_open_25 (by decide) ?_
    exact w_iret 26 hC hE ⟨by decide, by decide⟩ dL_open_26 ⟨0, rfl, h⟩
  · intro n I1 h1 h3 h
    rcases h with ⟨rfl, h⟩ | ⟨rfl, h⟩ | ⟨rfl, h⟩
    · refine ⟨[], 0, 10, 13, [(0, 10, 17, 13), (0, 10, 21, 41)], rfl, by decide, ?_, ?_⟩
      · intro z hz
        exact absurd hz List.not_mem_nil
      · refine w_astore 13 hC dL_open_13 (by decide) rfl ?_
        refine r_iconst 15 (v := 1) hC dL_open_15 (by decide) ?_
        exact w_iret 16 hC hE ⟨by decide, by decide⟩ dL_open_16 ⟨1, rfl, h⟩
    · refine ⟨[(0, 10, 13, 19)], 0, 10, 17, [(0, 10, 21, 41)], rfl, by decide, ?_, ?_⟩
      · intro z hz
        rcases List.mem_cons.mp hz with rfl | hz
        · exact ⟨3, by decide, by decide, by decide, rfl⟩
        exact absurd hz List.not_mem_nil
      · refine w_astore 17 hC dL_open_17 (by decide) rfl ?_
        refine r_iconst 19 (v := 2) hC dL_open_19 (by decide) ?_
        exact w_iret 20 hC hE ⟨by decide, by decide⟩ dL_open_20 ⟨2, rfl, h⟩
    · refine ⟨[(0, 10, 13, 19), (0, 10, 17, 13)], 0, 10, 21, [], rfl, by decide, ?_, ?_⟩
      · intro z hz
        rcases List.mem_cons.mp hz with rfl | hz
        · exact ⟨3, by decide, by decide, by decide, rfl⟩
        rcases List.mem_cons.mp hz with rfl | hz
        · exact ⟨1, by decide, by decide, by decide, rfl⟩
        exact absurd hz List.not_mem_nil
      · refine w_astore 21 hC dL_open_21 (by decide) rfl ?_
        refine r_iconst 23 (v := 3) hC dL_open_23 (by decide) ?_
        exact w_iret 24 hC hE ⟨by decide, by decide⟩ dL_open_24 ⟨3, rfl, h⟩

def wL_send (G : pm_G) (o : Nat) (x1 : Int32) (x2 : Int32) (I : pm_I) (K : Int32 → pm_I → Prop) : Prop :=
  wX6_send G 1 x1 x2 I (fun r I1 => ∀ I2 : pm_I, I2 = pm_up I1 o 0 r → K 0 I2) (fun n I1 => (n = 3 ∧ K 1 I1) ∨ (n = 2 ∧ K 2 I1))

set_option maxRecDepth 20000 in
theorem sL_send {G : pm_G} {l : Launch} (hG : pm_ok G) (hst : l.stackTraces = false) (hX : pm_exc G) (hnc : pm_nc G) (o : Nat) (x1 : Int32) (x2 : Int32) (I : pm_I) (K : Int32 → pm_I → Prop) (hk0 : pm_k G 1 (.inl 6)) (hko : pm_k G o (.inr (3, 1))) (h : wL_send G o x1 x2 I K) : pm_Cw G l yL_send cL_send 5 [(0, 10, 13, 19), (0, 10, 17, 41)] 8 382 2 12 [.ref 1, .int x1, .int x2, .ref o] I (pm_Ki K) := by
  unfold wL_send at h
  refine pm_enterW (by decide +kernel) tw_1082 rfl hG rfl (Nat.le_of_ble_eq_true rfl) rfl (fun X hl hC hE => ?_)
  subst hl
  have hC : pm_C G X cL_send 5 RL (some .int) { frames := 8, cells := 2, slots := 12, locals := 382 } := hC
  refine r_aload_n 0 hC dL_send_0 rfl rfl ?_
  refine r_iconst 1 (v := 0) hC dL_send_1 (by decide) ?_
  refine r_aload_n 2 hC dL_send_2 rfl rfl ?_
  refine r_iload_n 3 hC dL_send_3 rfl rfl ?_
  refine r_iload_n 4 hC dL_send_4 rfl rfl ?_
  refine w_call 5 (n := 2) [.int x1, .int x2] [.int 0, .ref o] hC hE hnc pm_cls hk0 rfl dL_send_5 (by decide) (by decide) tw_1086 tw_129 ⟨by decide, by decide, by decide +kernel⟩ tw_1083 tw_1084 tw_1085 rfl rfl (sX6_send (l := pm_l X) hG hst hX 1 x1 x2 _ _ _ hk0 h) ⟨by decide, by decide⟩ (Nat.le_of_ble_eq_true rfl) ?_ ?_
  · rintro _ I1 ⟨r, rfl, h⟩
    refine r_i2l 8 hC dL_send_8 ?_
    refine r_last 9 (i := 0) (x := r) hC hko (vp_in_nI (n := 0) (by decide) (by decide)) dL_send_9 (fun I2 hI => ?_)
    replace h := h I2 hI; clear hI
    refine r_goto 10 21 hC dL_send_10 (by decide) ?_
    refine r_iconst 21 (v := 0) hC dL_send_21 (by decide) ?_
    exact w_iret 22 hC hE ⟨by decide, by decide⟩ dL_send_22 ⟨0, rfl, h⟩
  · intro n I1 h1 h3 h
    rcases h with ⟨rfl, h⟩ | ⟨rfl, h⟩
    · refine ⟨[], 0, 10, 13, [(0, 10, 17, 41)], rfl, by decide, ?_, ?_⟩
      · intro z hz
        exact absurd hz List.not_mem_nil
      · refine w_astore 13 hC dL_send_13 (by decide) rfl ?_
        refine r_iconst 15 (v := 1) hC dL_send_15 (by decide) ?_
        exact w_iret 16 hC hE ⟨by decide, by decide⟩ dL_send_16 ⟨1, rfl, h⟩
    · refine ⟨[(0, 10, 13, 19)], 0, 10, 17, [], rfl, by decide, ?_, ?_⟩
      · intro z hz
        rcases List.mem_cons.mp hz with rfl | hz
        · exact ⟨3, by decide, by decide, by decide, rfl⟩
        exact absurd hz List.not_mem_nil
      · refine w_astore 17 hC dL_send_17 (by decide) rfl ?_
        refine r_iconst 19 (v := 2) hC dL_send_19 (by decide) ?_
        exact w_iret 20 hC hE ⟨by decide, by decide⟩ dL_send_20 ⟨2, rfl, h⟩

def wL_setLink (G : pm_G) (o : Nat) (x1 : Int32) (x2 : Int32) (x3 : Int32) (I : pm_I) (K : Int32 → pm_I → Prop) : Prop :=
  wX6_setLink G 1 x1 x2 x3 I (fun r I1 => ∀ I2 : pm_I, I2 = pm_up I1 o 0 r → K 0 I2) (fun n I1 => (n = 3 ∧ K 1 I1) ∨ (n = 1 ∧ K 2 I1) ∨ (n = 2 ∧ K 3 I1))

set_option maxRecDepth 20000 in
theorem sL_setLink {G : pm_G} {l : Launch} (hG : pm_ok G) (hst : l.stackTraces = false) (hX : pm_exc G) (hnc : pm_nc G) (o : Nat) (x1 : Int32) (x2 : Int32) (x3 : Int32) (I : pm_I) (K : Int32 → pm_I → Prop) (hk0 : pm_k G 1 (.inl 6)) (hko : pm_k G o (.inr (3, 1))) (h : wL_setLink G o x1 x2 x3 I K) : pm_Cw G l yL_setLink cL_setLink 6 [(0, 12, 15, 19), (0, 12, 19, 13), (0, 12, 23, 41)] 10 658 4 24 [.ref 1, .int x1, .int x2, .int x3, .ref o] I (pm_Ki K) := by
  unfold wL_setLink at h
  refine pm_enterW (by decide +kernel) tw_1095 rfl hG rfl (Nat.le_of_ble_eq_true rfl) rfl (fun X hl hC hE => ?_)
  subst hl
  have hC : pm_C G X cL_setLink 6 RL (some .int) { frames := 10, cells := 4, slots := 24, locals := 658 } := hC
  refine r_aload 0 hC dL_setLink_0 rfl ?_
  refine r_iconst 2 (v := 0) hC dL_setLink_2 (by decide) ?_
  refine r_aload_n 3 hC dL_setLink_3 rfl rfl ?_
  refine r_iload_n 4 hC dL_setLink_4 rfl rfl ?_
  refine r_iload_n 5 hC dL_setLink_5 rfl rfl ?_
  refine r_iload_n 6 hC dL_setLink_6 rfl rfl ?_
  refine w_call 7 (n := 3) [.int x1, .int x2, .int x3] [.int 0, .ref o] hC hE hnc pm_cls hk0 rfl dL_setLink_7 (by decide) (by decide) tw_1099 tw_129 ⟨by decide, by decide, by decide +kernel⟩ tw_1096 tw_1097 tw_1098 rfl rfl (sX6_setLink (l := pm_l X) hG hst hX 1 x1 x2 x3 _ _ _ hk0 h) ⟨by decide, by decide⟩ (Nat.le_of_ble_eq_true rfl) ?_ ?_
  · rintro _ I1 ⟨r, rfl, h⟩
    refine r_i2l 10 hC dL_setLink_10 ?_
    refine r_last 11 (i := 0) (x := r) hC hko (vp_in_nI (n := 0) (by decide) (by decide)) dL_setLink_11 (fun I2 hI => ?_)
    replace h := h I2 hI; clear hI
    refine r_goto 12 27 hC dL_setLink_12 (by decide) ?_
    refine r_iconst 27 (v := 0) hC dL_setLink_27 (by decide) ?_
    exact w_iret 28 hC hE ⟨by decide, by decide⟩ dL_setLink_28 ⟨0, rfl, h⟩
  · intro n I1 h1 h3 h
    rcases h with ⟨rfl, h⟩ | ⟨rfl, h⟩ | ⟨rfl, h⟩
    · refine ⟨[], 0, 12, 15, [(0, 12, 19, 13), (0, 12, 23, 41)], rfl, by decide, ?_, ?_⟩
      · intro z hz
        exact absurd hz List.not_mem_nil
      · refine w_astore 15 hC dL_setLink_15 (by decide) rfl ?_
        refine r_iconst 17 (v := 1) hC dL_setLink_17 (by decide) ?_
        exact w_iret 18 hC hE ⟨by decide, by decide⟩ dL_setLink_18 ⟨1, rfl, h⟩
    · refine ⟨[(0, 12, 15, 19)], 0, 12, 19, [(0, 12, 23, 41)], rfl, by decide, ?_, ?_⟩
      · intro z hz
        rcases List.mem_cons.mp hz with rfl | hz
        · exact ⟨3, by decide, by decide, by decide, rfl⟩
        exact absurd hz List.not_mem_nil
      · refine w_astore 19 hC dL_setLink_19 (by decide) rfl ?_
        refine r_iconst 21 (v := 2) hC dL_setLink_21 (by decide) ?_
        exact w_iret 22 hC hE ⟨by decide, by decide⟩ dL_setLink_22 ⟨2, rfl, h⟩
    · refine ⟨[(0, 12, 15, 19), (0, 12, 19, 13)], 0, 12, 23, [], rfl, by decide, ?_, ?_⟩
      · intro z hz
        rcases List.mem_cons.mp hz with rfl | hz
        · exact ⟨3, by decide, by decide, by decide, rfl⟩
        rcases List.mem_cons.mp hz with rfl | hz
        · exact ⟨1, by decide, by decide, by decide, rfl⟩
        exact absurd hz List.not_mem_nil
      · refine w_astore 23 hC dL_setLink_23 (by decide) rfl ?_
        refine r_iconst 25 (v := 3) hC dL_setLink_25 (by decide) ?_
        exact w_iret 26 hC hE ⟨by decide, by decide⟩ dL_setLink_26 ⟨3, rfl, h⟩

def wL_close (G : pm_G) (o : Nat) (x1 : Int32) (I : pm_I) (K : Int32 → pm_I → Prop) : Prop :=
  wX6_close G 1 x1 I (fun r I1 => ∀ I2 : pm_I, I2 = pm_up I1 o 0 r → K 0 I2) (fun n I1 => (n = 3 ∧ K 1 I1) ∨ (n = 2 ∧ K 2 I1))

set_option maxRecDepth 20000 in
theorem sL_close {G : pm_G} {l : Launch} (hG : pm_ok G) (hst : l.stackTraces = false) (hX : pm_exc G) (hnc : pm_nc G) (o : Nat) (x1 : Int32) (I : pm_I) (K : Int32 → pm_I → Prop) (hk0 : pm_k G 1 (.inl 6)) (hko : pm_k G o (.inr (3, 1))) (h : wL_close G o x1 I K) : pm_Cw G l yL_close cL_close 4 [(0, 9, 12, 19), (0, 9, 15, 41)] 8 378 2 12 [.ref 1, .int x1, .ref o] I (pm_Ki K) := by
  unfold wL_close at h
  refine pm_enterW (by decide +kernel) tw_1128 rfl hG rfl (Nat.le_of_ble_eq_true rfl) rfl (fun X hl hC hE => ?_)
  subst hl
  have hC : pm_C G X cL_close 4 RL (some .int) { frames := 8, cells := 2, slots := 12, locals := 378 } := hC
  refine r_aload_n 0 hC dL_close_0 rfl rfl ?_
  refine r_iconst 1 (v := 0) hC dL_close_1 (by decide) ?_
  refine r_aload_n 2 hC dL_close_2 rfl rfl ?_
  refine r_iload_n 3 hC dL_close_3 rfl rfl ?_
  refine w_call 4 (n := 1) [.int x1] [.int 0, .ref o] hC hE hnc pm_cls hk0 rfl dL_close_4 (by decide) (by decide) tw_1132 tw_129 ⟨by decide, by decide, by decide +kernel⟩ tw_1129 tw_1130 tw_1131 rfl rfl (sX6_close (l := pm_l X) hG hst hX 1 x1 _ _ _ hk0 h) ⟨by decide, by decide⟩ (Nat.le_of_ble_eq_true rfl) ?_ ?_
  · rintro _ I1 ⟨r, rfl, h⟩
    refine r_i2l 7 hC dL_close_7 ?_
    refine r_last 8 (i := 0) (x := r) hC hko (vp_in_nI (n := 0) (by decide) (by decide)) dL_close_8 (fun I2 hI => ?_)
    replace h := h I2 hI; clear hI
    refine r_goto 9 18 hC dL_close_9 (by decide) ?_
    refine r_iconst 18 (v := 0) hC dL_close_18 (by decide) ?_
    exact w_iret 19 hC hE ⟨by decide, by decide⟩ dL_close_19 ⟨0, rfl, h⟩
  · intro n I1 h1 h3 h
    rcases h with ⟨rfl, h⟩ | ⟨rfl, h⟩
    · refine ⟨[], 0, 9, 12, [(0, 9, 15, 41)], rfl, by decide, ?_, ?_⟩
      · intro z hz
        exact absurd hz List.not_mem_nil
      · refine w_astore_n 12 hC dL_close_12 rfl (by decide) rfl ?_
        refine r_iconst 13 (v := 1) hC dL_close_13 (by decide) ?_
        exact w_iret 14 hC hE ⟨by decide, by decide⟩ dL_close_14 ⟨1, rfl, h⟩
    · refine ⟨[(0, 9, 12, 19)], 0, 9, 15, [], rfl, by decide, ?_, ?_⟩
      · intro z hz
        rcases List.mem_cons.mp hz with rfl | hz
        · exact ⟨3, by decide, by decide, by decide, rfl⟩
        exact absurd hz List.not_mem_nil
      · refine w_astore_n 15 hC dL_close_15 rfl (by decide) rfl ?_
        refine r_iconst 16 (v := 2) hC dL_close_16 (by decide) ?_
        exact w_iret 17 hC hE ⟨by decide, by decide⟩ dL_close_17 ⟨2, rfl, h⟩

def wL_saveSnapshot (G : pm_G) (o : Nat) (x1 : Int32) (I : pm_I) (K : Int32 → pm_I → Prop) : Prop :=
  wX6_saveSnapshot G 1 x1 I (fun r I1 => (r = 0 → ∀ I2 : pm_I, I2 = pm_up I1 o 0 0 → K 0 I2) ∧ (¬ r = 0 → ∀ I2 : pm_I, I2 = pm_up I1 o 0 1 → K 0 I2)) (fun n I1 => (n = 3 ∧ K 1 I1))

set_option maxRecDepth 20000 in
theorem sL_saveSnapshot {G : pm_G} {l : Launch} (hG : pm_ok G) (hst : l.stackTraces = false) (hX : pm_exc G) (hnc : pm_nc G) (o : Nat) (x1 : Int32) (I : pm_I) (K : Int32 → pm_I → Prop) (hk0 : pm_k G 1 (.inl 6)) (hko : pm_k G o (.inr (3, 1))) (h : wL_saveSnapshot G o x1 I K) : pm_Cw G l yL_saveSnapshot cL_saveSnapshot 4 [(0, 16, 19, 19)] 8 293 1 6 [.ref 1, .int x1, .ref o] I (pm_Ki K) := by
  unfold wL_saveSnapshot at h
  refine pm_enterW (by decide +kernel) tw_1136 rfl hG rfl (Nat.le_of_ble_eq_true rfl) rfl (fun X hl hC hE => ?_)
  subst hl
  have hC : pm_C G X cL_saveSnapshot 4 RL (some .int) { frames := 8, cells := 1, slots := 6, locals := 293 } := hC
  refine r_aload_n 0 hC dL_saveSnapshot_0 rfl rfl ?_
  refine r_iconst 1 (v := 0) hC dL_saveSnapshot_1 (by decide) ?_
  refine r_aload_n 2 hC dL_saveSnapshot_2 rfl rfl ?_
  refine r_iload_n 3 hC dL_saveSnapshot_3 rfl rfl ?_
  refine w_call 4 (n := 1) [.int x1] [.int 0, .ref o] hC hE hnc pm_cls hk0 rfl dL_saveSnapshot_4 (by decide) (by decide) tw_1140 tw_129 ⟨by decide, by decide, by decide +kernel⟩ tw_1137 tw_1138 tw_1139 rfl rfl (sX6_saveSnapshot (l := pm_l X) hG hst hX 1 x1 _ _ _ hk0 h) ⟨by decide, by decide⟩ (Nat.le_of_ble_eq_true rfl) ?_ ?_
  · rintro _ I1 ⟨r, rfl, h⟩
    refine r_if_eq 7 14 hC dL_saveSnapshot_7 (by decide) (fun hc => ?_) (fun hc => ?_)
    · replace h := h.1 hc
      refine r_lconst 14 (v := (0 : Int32).toInt64) hC dL_saveSnapshot_14 (by decide) ?_
      refine r_last 15 (i := 0) (x := 0) hC hko (vp_in_nI (n := 0) (by decide) (by decide)) dL_saveSnapshot_15 (fun I2 hI => ?_)
      replace h := h I2 hI; clear hI
      refine r_goto 16 22 hC dL_saveSnapshot_16 (by decide) ?_
      refine r_iconst 22 (v := 0) hC dL_saveSnapshot_22 (by decide) ?_
      exact w_iret 23 hC hE ⟨by decide, by decide⟩ dL_saveSnapshot_23 ⟨0, rfl, h⟩
    · replace h := h.2 hc
      refine r_lconst 10 (v := (1 : Int32).toInt64) hC dL_saveSnapshot_10 (by decide) ?_
      refine r_goto 11 15 hC dL_saveSnapshot_11 (by decide) ?_
      refine r_last 15 (i := 0) (x := 1) hC hko (vp_in_nI (n := 0) (by decide) (by decide)) dL_saveSnapshot_15 (fun I2 hI => ?_)
      replace h := h I2 hI; clear hI
      refine r_goto 16 22 hC dL_saveSnapshot_16 (by decide) ?_
      refine r_iconst 22 (v := 0) hC dL_saveSnapshot_22 (by decide) ?_
      exact w_iret 23 hC hE ⟨by decide, by decide⟩ dL_saveSnapshot_23 ⟨0, rfl, h⟩
  · intro n I1 h1 h3 h
    obtain ⟨rfl, h⟩ := h
    · refine ⟨[], 0, 16, 19, [], rfl, by decide, ?_, ?_⟩
      · intro z hz
        exact absurd hz List.not_mem_nil
      · refine w_astore_n 19 hC dL_saveSnapshot_19 rfl (by decide) rfl ?_
        refine r_iconst 20 (v := 1) hC dL_saveSnapshot_20 (by decide) ?_
        exact w_iret 21 hC hE ⟨by decide, by decide⟩ dL_saveSnapshot_21 ⟨1, rfl, h⟩

def wL_restoreSnapshot (G : pm_G) (o : Nat) (x1 : Int32) (I : pm_I) (K : Int32 → pm_I → Prop) : Prop :=
  wX6_restoreSnapshot G 1 x1 I (fun r I1 => ∀ I2 : pm_I, I2 = pm_up I1 o 0 r → K 0 I2) (fun n I1 => (n = 3 ∧ K 1 I1) ∨ (n = 2 ∧ K 2 I1))

set_option maxRecDepth 20000 in
theorem sL_restoreSnapshot {G : pm_G} {l : Launch} (hG : pm_ok G) (hst : l.stackTraces = false) (hX : pm_exc G) (hnc : pm_nc G) (o : Nat) (x1 : Int32) (I : pm_I) (K : Int32 → pm_I → Prop) (hk0 : pm_k G 1 (.inl 6)) (hko : pm_k G o (.inr (3, 1))) (h : wL_restoreSnapshot G o x1 I K) : pm_Cw G l yL_restoreSnapshot cL_restoreSnapshot 4 [(0, 9, 12, 19), (0, 9, 15, 41)] 8 292 2 12 [.ref 1, .int x1, .ref o] I (pm_Ki K) := by
  unfold wL_restoreSnapshot at h
  refine pm_enterW (by decide +kernel) tw_1148 rfl hG rfl (Nat.le_of_ble_eq_true rfl) rfl (fun X hl hC hE => ?_)
  subst hl
  have hC : pm_C G X cL_restoreSnapshot 4 RL (some .int) { frames := 8, cells := 2, slots := 12, locals := 292 } := hC
  refine r_aload_n 0 hC dL_restoreSnapshot_0 rfl rfl ?_
  refine r_iconst 1 (v := 0) hC dL_restoreSnapshot_1 (by decide) ?_
  refine r_aload_n 2 hC dL_restoreSnapshot_2 rfl rfl ?_
  refine r_iload_n 3 hC dL_restoreSnapshot_3 rfl rfl ?_
  refine w_call 4 (n := 1) [.int x1] [.int 0, .ref o] hC hE hnc pm_cls hk0 rfl dL_restoreSnapshot_4 (by decide) (by decide) tw_1152 tw_129 ⟨by decide, by decide, by decide +kernel⟩ tw_1149 tw_1150 tw_1151 rfl rfl (sX6_restoreSnapshot (l := pm_l X) hG hst hX 1 x1 _ _ _ hk0 h) ⟨by decide, by decide⟩ (Nat.le_of_ble_eq_true rfl) ?_ ?_
  · rintro _ I1 ⟨r, rfl, h⟩
    refine r_i2l 7 hC dL_restoreSnapshot_7 ?_
    refine r_last 8 (i := 0) (x := r) hC hko (vp_in_nI (n := 0) (by decide) (by decide)) dL_restoreSnapshot_8 (fun I2 hI => ?_)
    replace h := h I2 hI; clear hI
    refine r_goto 9 18 hC dL_restoreSnapshot_9 (by decide) ?_
    refine r_iconst 18 (v := 0) hC dL_restoreSnapshot_18 (by decide) ?_
    exact w_iret 19 hC hE ⟨by decide, by decide⟩ dL_restoreSnapshot_19 ⟨0, rfl, h⟩
  · intro n I1 h1 h3 h
    rcases h with ⟨rfl, h⟩ | ⟨rfl, h⟩
    · refine ⟨[], 0, 9, 12, [(0, 9, 15, 41)], rfl, by decide, ?_, ?_⟩
      · intro z hz
        exact absurd hz List.not_mem_nil
      · refine w_astore_n 12 hC dL_restoreSnapshot_12 rfl (by decide) rfl ?_
        refine r_iconst 13 (v := 1) hC dL_restoreSnapshot_13 (by decide) ?_
        exact w_iret 14 hC hE ⟨by decide, by decide⟩ dL_restoreSnapshot_14 ⟨1, rfl, h⟩
    · refine ⟨[(0, 9, 12, 19)], 0, 9, 15, [], rfl, by decide, ?_, ?_⟩
      · intro z hz
        rcases List.mem_cons.mp hz with rfl | hz
        · exact ⟨3, by decide, by decide, by decide, rfl⟩
        exact absurd hz List.not_mem_nil
      · refine w_astore_n 15 hC dL_restoreSnapshot_15 rfl (by decide) rfl ?_
        refine r_iconst 16 (v := 2) hC dL_restoreSnapshot_16 (by decide) ?_
        exact w_iret 17 hC hE ⟨by decide, by decide⟩ dL_restoreSnapshot_17 ⟨2, rfl, h⟩
