/-- a step of a constructor: one array more, held in place k -/
theorem pm_sq_row {I I1 J : pm_I} {q i k : Nat} {x : Int32} (hI : I1 = pm_up (pm_nw I (q + i)) q k x) (hi : 1 ≤ i) (h : ∀ r, r ≠ q → I r = pm_zb J q i r) : ∀ r, r ≠ q → I1 r = pm_zb J q (i + 1) r := by
  intro r hr
  subst hI
  unfold pm_up pm_nw
  rw [if_neg hr]
  by_cases he : r = q + i
  · rw [if_pos he]; unfold pm_zb; rw [if_pos ⟨by omega, by omega⟩]
  · rw [if_neg he, h r hr]
    unfold pm_zb
    by_cases hb : q ≤ r ∧ r < q + i
    · rw [if_pos hb, if_pos ⟨hb.1, by omega⟩]
    · rw [if_neg hb, if_neg (by omega)]
theorem pm_sq_own {I I1 : pm_I} {q i k : Nat} {x : Int32} {f : Nat → Int32} (hI : I1 = pm_up (pm_nw I (q + i)) q k x) (hi : 1 ≤ i) (h : I q = f) : I1 q = upd f k x := by
  subst hI
  unfold pm_up pm_nw
  rw [if_pos rfl, if_neg (by omega), h]
theorem pm_sb_row {I I1 J : pm_I} {q i n k : Nat} {x : Int32} (hI : I1 = pm_up (pm_zb I (q + i) n) q k x) (hi : 1 ≤ i) (h : ∀ r, r ≠ q → I r = pm_zb J q i r) : ∀ r, r ≠ q → I1 r = pm_zb J q (i + n) r := by
  intro r hr
  subst hI
  unfold pm_up
  rw [if_neg hr]
  by_cases he : q + i ≤ r ∧ r < q + i + n
  · unfold pm_zb; rw [if_pos he, if_pos ⟨by omega, by omega⟩]
  · have e1 : pm_zb I (q + i) n r = I r := by unfold pm_zb; rw [if_neg he]
    rw [e1, h r hr]
    unfold pm_zb
    by_cases hb : q ≤ r ∧ r < q + i
    · rw [if_pos hb, if_pos ⟨hb.1, by omega⟩]
    · rw [if_neg hb, if_neg (by omega)]
theorem pm_sb_own {I I1 : pm_I} {q i n k : Nat} {x : Int32} {f : Nat → Int32} (hI : I1 = pm_up (pm_zb I (q + i) n) q k x) (hi : 1 ≤ i) (h : I q = f) : I1 q = upd f k x := by
  subst hI
  unfold pm_up pm_zb
  rw [if_pos rfl, if_neg (by omega), h]
theorem pm_nw_row {I : pm_I} {q : Nat} : ∀ r, r ≠ q → pm_nw I q r = pm_zb I q 1 r := by
  intro r hr
  unfold pm_nw pm_zb
  rw [if_neg hr, if_neg (by omega)]
theorem pm_nw_own {I : pm_I} {q : Nat} : pm_nw I q q = fun _ => 0 := by unfold pm_nw; rw [if_pos rfl]
theorem pm_su_row {I I1 J : pm_I} {q n k : Nat} {x : Int32} (hI : I1 = pm_up I q k x) (h : ∀ r, r ≠ q → I r = pm_zb J q n r) : ∀ r, r ≠ q → I1 r = pm_zb J q n r := by
  intro r hr
  subst hI
  unfold pm_up
  rw [if_neg hr, h r hr]
theorem pm_su_own {I I1 : pm_I} {q k : Nat} {x : Int32} {f : Nat → Int32} (hI : I1 = pm_up I q k x) (h : I q = f) : I1 q = upd f k x := by
  subst hI
  unfold pm_up
  rw [if_pos rfl, h]
theorem o_X7 {G : pm_G} {N9 q : Nat} {S0 : List Nat} (hlin : pm_lin G N9) (hq1 : 1 ≤ q) (hq : q + 15 ≤ N9) (hS0 : ∀ r ∈ S0, r < q) (hok : pm_ok (pm_st G q (q :: S0))) (hsh : pm_bM G q) : pm_ok (pm_st G (q + 1) (q :: S0)) ∧ pm_ok (pm_st G (q + 2) (q :: S0)) ∧ pm_ok (pm_st G (q + 3) (q :: S0)) ∧ pm_ok (pm_st G (q + 4) (q :: S0)) ∧ pm_ok (pm_st G (q + 5) (q :: S0)) ∧ pm_ok (pm_st G (q + 6) (q :: S0)) ∧ pm_ok (pm_st G (q + 7) (q :: S0)) ∧ pm_ok (pm_st G (q + 8) (q :: S0)) ∧ pm_ok (pm_st G (q + 9) (q :: S0)) ∧ pm_ok (pm_st G (q + 10) (q :: S0)) ∧ pm_ok (pm_st G (q + 11) (q :: S0)) ∧ pm_ok (pm_st G (q + 12) (q :: S0)) ∧ pm_ok (pm_st G (q + 13) (q :: S0)) ∧ pm_ok (pm_st G (q + 14) (q :: S0)) ∧ pm_ok (pm_st G (q + 15) (q :: S0)) ∧ pm_ok (pm_st G (q + 15) S0) := by
  have hn : ∀ r, q < r → r ∉ q :: S0 := fun r hr h => (List.mem_cons.mp h).elim (fun e => by omega) (fun h => by have := hS0 r h; omega)
  have hq0 : ∀ r, q ≤ r → r ∉ S0 := fun r hr h => by have := hS0 r h; omega
  obtain ⟨k0, k1, k2, k3, k4, k5, k6, k7, k8, k9, k10, k11, k12, k13, k14, k15⟩ := hsh
  have ok1 := pm_ok_next (S' := q :: S0) hok hlin (by omega) (fun _ _ => Iff.rfl) (by rw [if_neg (hn _ (by omega)), k1]; rfl)
  have ok2 := pm_ok_next (S' := q :: S0) ok1 hlin (by omega) (fun _ _ => Iff.rfl) (by rw [if_neg (hn _ (by omega)), k2]; rfl)
  have ok3 := pm_ok_next (S' := q :: S0) ok2 hlin (by omega) (fun _ _ => Iff.rfl) (by rw [if_neg (hn _ (by omega)), k3]; rfl)
  have ok4 := pm_ok_next (S' := q :: S0) ok3 hlin (by omega) (fun _ _ => Iff.rfl) (by rw [if_neg (hn _ (by omega)), k4]; rfl)
  have ok5 := pm_ok_next (S' := q :: S0) ok4 hlin (by omega) (fun _ _ => Iff.rfl) (by rw [if_neg (hn _ (by omega)), k5]; rfl)
  have ok6 := pm_ok_next (S' := q :: S0) ok5 hlin (by omega) (fun _ _ => Iff.rfl) (by rw [if_neg (hn _ (by omega)), k6]; rfl)
  have ok7 := pm_ok_next (S' := q :: S0) ok6 hlin (by omega) (fun _ _ => Iff.rfl) (by rw [if_neg (hn _ (by omega)), k7]; rfl)
  have ok8 := pm_ok_next (S' := q :: S0) ok7 hlin (by omega) (fun _ _ => Iff.rfl) (by rw [if_neg (hn _ (by omega)), k8]; rfl)
  have ok9 := pm_ok_next (S' := q :: S0) ok8 hlin (by omega) (fun _ _ => Iff.rfl) (by rw [if_neg (hn _ (by omega)), k9]; rfl)
  have ok10 := pm_ok_next (S' := q :: S0) ok9 hlin (by omega) (fun _ _ => Iff.rfl) (by rw [if_neg (hn _ (by omega)), k10]; rfl)
  have ok11 := pm_ok_next (S' := q :: S0) ok10 hlin (by omega) (fun _ _ => Iff.rfl) (by rw [if_neg (hn _ (by omega)), k11]; rfl)
  have ok12 := pm_ok_next (S' := q :: S0) ok11 hlin (by omega) (fun _ _ => Iff.rfl) (by rw [if_neg (hn _ (by omega)), k12]; rfl)
  have ok13 := pm_ok_next (S' := q :: S0) ok12 hlin (by omega) (fun _ _ => Iff.rfl) (by rw [if_neg (hn _ (by omega)), k13]; rfl)
  have ok14 := pm_ok_next (S' := q :: S0) ok13 hlin (by omega) (fun _ _ => Iff.rfl) (by rw [if_neg (hn _ (by omega)), k14]; rfl)
  have ok15 := pm_ok_next (S' := q :: S0) ok14 hlin (by omega) (fun _ _ => Iff.rfl) (by rw [if_neg (hn _ (by omega)), k15]; rfl)
  refine ⟨ok1, ok2, ok3, ok4, ok5, ok6, ok7, ok8, ok9, ok10, ok11, ok12, ok13, ok14, ok15, pm_ok_done (hq0 q (Nat.le_refl q)) ok15 ?_⟩
  rw [k0]
  exact ⟨pm_k_out (hq0 _ (by omega)) (by omega) (by omega) k1, pm_k_out (hq0 _ (by omega)) (by omega) (by omega) k2, pm_k_out (hq0 _ (by omega)) (by omega) (by omega) k3, pm_k_out (hq0 _ (by omega)) (by omega) (by omega) k4, pm_k_out (hq0 _ (by omega)) (by omega) (by omega) k5, pm_k_out (hq0 _ (by omega)) (by omega) (by omega) k6, pm_k_out (hq0 _ (by omega)) (by omega) (by omega) k7, pm_k_out (hq0 _ (by omega)) (by omega) (by omega) k8, pm_k_out (hq0 _ (by omega)) (by omega) (by omega) k9, pm_k_out (hq0 _ (by omega)) (by omega) (by omega) k10, pm_k_out (hq0 _ (by omega)) (by omega) (by omega) k11, pm_k_out (hq0 _ (by omega)) (by omega) (by omega) k12, pm_k_out (hq0 _ (by omega)) (by omega) (by omega) k13, pm_k_out (hq0 _ (by omega)) (by omega) (by omega) k14, pm_k_out (hq0 _ (by omega)) (by omega) (by omega) k15⟩
set_option maxRecDepth 20000 in
theorem c_X7 {G : pm_G} {l : Launch} {N9 q : Nat} {S0 : List Nat} (hlin : pm_lin G N9) (hN : N9 < 2 ^ 20) (hq1 : 1 ≤ q) (hq : q + 15 ≤ N9) (hS0 : ∀ r ∈ S0, r < q) (hok : pm_ok (pm_st G q (q :: S0))) (hsh : pm_bM G q) (I : pm_I) (K : pm_I → Prop) (h : wX7_clearDraft (pm_st G (q + 15) S0) q (pm_up (pm_zb I q 16) q 17 (-1)) (fun I1 => wX7_liftsAll (pm_st G (q + 15) S0) q I1 (fun I2 => wX7_begins (pm_st G (q + 15) S0) q I2 K))) : pm_Cc G q (q :: S0) (q + 15) S0 l yX7_init cX7_init 1 3 209 15 13568 [.ref q] (pm_nw I q) K := by
  obtain ⟨ok1, ok2, ok3, ok4, ok5, ok6, ok7, ok8, ok9, ok10, ok11, ok12, ok13, ok14, ok15, ok16⟩ := o_X7 hlin hq1 hq hS0 hok hsh
  have hn : ∀ r, q < r → r ∉ q :: S0 := fun r hr h => (List.mem_cons.mp h).elim (fun e => by omega) (fun h => by have := hS0 r h; omega)
  have hq0 : ∀ r, q ≤ r → r ∉ S0 := fun r hr h => by have := hS0 r h; omega
  obtain ⟨k0, k1, k2, k3, k4, k5, k6, k7, k8, k9, k10, k11, k12, k13, k14, k15⟩ := id hsh
  refine pm_enterC (by decide +kernel) hok rfl (Nat.le_of_ble_eq_true rfl) rfl (fun X hl hsz hnm hC hE => ?_)
  subst hl
  have hC : pm_C (pm_st G q (q :: S0)) X cX7_init 1 RX7 none { frames := 3, cells := 15, slots := 13568, locals := 209 } := hC
  have kq : ∀ j, q ≤ j → pm_k (pm_st G j (q :: S0)) q (.inr (8, 7)) := fun j hj => pm_k_in List.mem_cons_self hq1 hj k0
  have kS : pm_k (pm_st G (q + 15) S0) q (.inl 7) := pm_k_out (hq0 q (Nat.le_refl q)) hq1 (by omega) k0
  refine r_aload_n 0 hC dX7_init_0 rfl rfl ?_
  refine m_obj 1 hC tw_1159 tw_156 tw_157 (by decide) (by decide) (Nat.le_of_ble_eq_true rfl) dX7_init_1 ?_
  have R0 : ∀ r, r ≠ q → (pm_nw I q) r = pm_zb I q 1 r := pm_nw_row
  have W0 : (pm_nw I q) q = fun _ => 0 := pm_nw_own
  refine r_aload_n 4 hC dX7_init_4 rfl rfl ?_
  refine r_sipush 5 (v := 821) hC dX7_init_5 (by decide) ?_
  refine m_newa 8 (t := 0) (n := 821) hC hlin (by omega) (by omega) k1 (by simp) (hn _ (by omega)) tw_184 (by decide) (by decide) (by decide) ⟨by decide, by decide⟩ dX7_init_8 ?_
  refine m_put 10 (ty := (.array .int)) (v := .ref (q + 1)) (x := nI (q + 1)) (pm_C_st hC ok1) hnm (kq _ (by omega)) rfl pm_in7 pm_ig7 tyX7 tyX7_ok nmX7 1 (by decide) tw_1180 rfl (by decide +kernel) rfl rfl (fun _ => rfl) (pd_7_1 (pm_ad G) _ (q + 1) (by omega) (by omega)) dX7_init_10 (fun I1 hI1 => ?_)
  have R1 := pm_sq_row (i := 1) hI1 (by omega) R0
  have W1 := pm_sq_own (i := 1) hI1 (by omega) W0
  refine r_aload_n 13 (pm_C_st hC ok1) dX7_init_13 rfl rfl ?_
  refine r_bipush 14 (v := 8) (pm_C_st hC ok1) dX7_init_14 (by decide) ?_
  refine m_newa 16 (t := 0) (n := 8) (pm_C_st hC ok1) hlin (by omega) (by omega) k2 (by simp) (hn _ (by omega)) tw_184 (by decide) (by decide) (by decide) ⟨by decide, by decide⟩ dX7_init_16 ?_
  refine m_put 18 (ty := (.array .int)) (v := .ref (q + 2)) (x := nI (q + 2)) (pm_C_st hC ok2) hnm (kq _ (by omega)) rfl pm_in7 pm_ig7 tyX7 tyX7_ok nmX7 2 (by decide) tw_1181 rfl (by decide +kernel) rfl rfl (fun _ => rfl) (pd_7_2 (pm_ad G) _ (q + 2) (by omega) (by omega)) dX7_init_18 (fun I2 hI2 => ?_)
  have R2 := pm_sq_row (i := 2) hI2 (by omega) R1
  have W2 := pm_sq_own (i := 2) hI2 (by omega) W1
  refine r_aload_n 21 (pm_C_st hC ok2) dX7_init_21 rfl rfl ?_
  refine r_bipush 22 (v := 16) (pm_C_st hC ok2) dX7_init_22 (by decide) ?_
  refine m_newa 24 (t := 0) (n := 16) (pm_C_st hC ok2) hlin (by omega) (by omega) k3 (by simp) (hn _ (by omega)) tw_184 (by decide) (by decide) (by decide) ⟨by decide, by decide⟩ dX7_init_24 ?_
  refine m_put 26 (ty := (.array .int)) (v := .ref (q + 3)) (x := nI (q + 3)) (pm_C_st hC ok3) hnm (kq _ (by omega)) rfl pm_in7 pm_ig7 tyX7 tyX7_ok nmX7 3 (by decide) tw_1182 rfl (by decide +kernel) rfl rfl (fun _ => rfl) (pd_7_3 (pm_ad G) _ (q + 3) (by omega) (by omega)) dX7_init_26 (fun I3 hI3 => ?_)
  have R3 := pm_sq_row (i := 3) hI3 (by omega) R2
  have W3 := pm_sq_own (i := 3) hI3 (by omega) W2
  refine r_aload_n 29 (pm_C_st hC ok3) dX7_init_29 rfl rfl ?_
  refine r_bipush 30 (v := 16) (pm_C_st hC ok3) dX7_init_30 (by decide) ?_
  refine m_newa 32 (t := 0) (n := 16) (pm_C_st hC ok3) hlin (by omega) (by omega) k4 (by simp) (hn _ (by omega)) tw_184 (by decide) (by decide) (by decide) ⟨by decide, by decide⟩ dX7_init_32 ?_
  refine m_put 34 (ty := (.array .int)) (v := .ref (q + 4)) (x := nI (q + 4)) (pm_C_st hC ok4) hnm (kq _ (by omega)) rfl pm_in7 pm_ig7 tyX7 tyX7_ok nmX7 4 (by decide) tw_1183 rfl (by decide +kernel) rfl rfl (fun _ => rfl) (pd_7_4 (pm_ad G) _ (q + 4) (by omega) (by omega)) dX7_init_34 (fun I4 hI4 => ?_)
  have R4 := pm_sq_row (i := 4) hI4 (by omega) R3
  have W4 := pm_sq_own (i := 4) hI4 (by omega) W3
  refine r_aload_n 37 (pm_C_st hC ok4) dX7_init_37 rfl rfl ?_
  refine r_sipush 38 (v := 128) (pm_C_st hC ok4) dX7_init_38 (by decide) ?_
  refine m_newa 41 (t := 0) (n := 128) (pm_C_st hC ok4) hlin (by omega) (by omega) k5 (by simp) (hn _ (by omega)) tw_184 (by decide) (by decide) (by decide) ⟨by decide, by decide⟩ dX7_init_41 ?_
  refine m_put 43 (ty := (.array .int)) (v := .ref (q + 5)) (x := nI (q + 5)) (pm_C_st hC ok5) hnm (kq _ (by omega)) rfl pm_in7 pm_ig7 tyX7 tyX7_ok nmX7 5 (by decide) tw_1184 rfl (by decide +kernel) rfl rfl (fun _ => rfl) (pd_7_5 (pm_ad G) _ (q + 5) (by omega) (by omega)) dX7_init_43 (fun I5 hI5 => ?_)
  have R5 := pm_sq_row (i := 5) hI5 (by omega) R4
  have W5 := pm_sq_own (i := 5) hI5 (by omega) W4
  refine r_aload_n 46 (pm_C_st hC ok5) dX7_init_46 rfl rfl ?_
  refine r_bipush 47 (v := 16) (pm_C_st hC ok5) dX7_init_47 (by decide) ?_
  refine m_newa 49 (t := 0) (n := 16) (pm_C_st hC ok5) hlin (by omega) (by omega) k6 (by simp) (hn _ (by omega)) tw_184 (by decide) (by decide) (by decide) ⟨by decide, by decide⟩ dX7_init_49 ?_
  refine m_put 51 (ty := (.array .int)) (v := .ref (q + 6)) (x := nI (q + 6)) (pm_C_st hC ok6) hnm (kq _ (by omega)) rfl pm_in7 pm_ig7 tyX7 tyX7_ok nmX7 6 (by decide) tw_1185 rfl (by decide +kernel) rfl rfl (fun _ => rfl) (pd_7_6 (pm_ad G) _ (q + 6) (by omega) (by omega)) dX7_init_51 (fun I6 hI6 => ?_)
  have R6 := pm_sq_row (i := 6) hI6 (by omega) R5
  have W6 := pm_sq_own (i := 6) hI6 (by omega) W5
  refine r_aload_n 54 (pm_C_st hC ok6) dX7_init_54 rfl rfl ?_
  refine r_iconst 55 (v := 2) (pm_C_st hC ok6) dX7_init_55 (by decide) ?_
  refine m_newa 56 (t := 0) (n := 2) (pm_C_st hC ok6) hlin (by omega) (by omega) k7 (by simp) (hn _ (by omega)) tw_184 (by decide) (by decide) (by decide) ⟨by decide, by decide⟩ dX7_init_56 ?_
  refine m_put 58 (ty := (.array .int)) (v := .ref (q + 7)) (x := nI (q + 7)) (pm_C_st hC ok7) hnm (kq _ (by omega)) rfl pm_in7 pm_ig7 tyX7 tyX7_ok nmX7 7 (by decide) tw_1186 rfl (by decide +kernel) rfl rfl (fun _ => rfl) (pd_7_7 (pm_ad G) _ (q + 7) (by omega) (by omega)) dX7_init_58 (fun I7 hI7 => ?_)
  have R7 := pm_sq_row (i := 7) hI7 (by omega) R6
  have W7 := pm_sq_own (i := 7) hI7 (by omega) W6
  refine r_aload_n 61 (pm_C_st hC ok7) dX7_init_61 rfl rfl ?_
  refine r_sipush 62 (v := 1240) (pm_C_st hC ok7) dX7_init_62 (by decide) ?_
  refine m_newa 65 (t := 0) (n := 1240) (pm_C_st hC ok7) hlin (by omega) (by omega) k8 (by simp) (hn _ (by omega)) tw_184 (by decide) (by decide) (by decide) ⟨by decide, by decide⟩ dX7_init_65 ?_
  refine m_put 67 (ty := (.array .int)) (v := .ref (q + 8)) (x := nI (q + 8)) (pm_C_st hC ok8) hnm (kq _ (by omega)) rfl pm_in7 pm_ig7 tyX7 tyX7_ok nmX7 8 (by decide) tw_1187 rfl (by decide +kernel) rfl rfl (fun _ => rfl) (pd_7_8 (pm_ad G) _ (q + 8) (by omega) (by omega)) dX7_init_67 (fun I8 hI8 => ?_)
  have R8 := pm_sq_row (i := 8) hI8 (by omega) R7
  have W8 := pm_sq_own (i := 8) hI8 (by omega) W7
  refine r_aload_n 70 (pm_C_st hC ok8) dX7_init_70 rfl rfl ?_
  refine r_sipush 71 (v := 600) (pm_C_st hC ok8) dX7_init_71 (by decide) ?_
  refine m_newa 74 (t := 1) (n := 600) (pm_C_st hC ok8) hlin (by omega) (by omega) k9 (by simp) (hn _ (by omega)) tw_183 (by decide) (by decide) (by decide) ⟨by decide, by decide⟩ dX7_init_74 ?_
  refine m_put 76 (ty := (.array .byte)) (v := .ref (q + 9)) (x := nI (q + 9)) (pm_C_st hC ok9) hnm (kq _ (by omega)) rfl pm_in7 pm_ig7 tyX7 tyX7_ok nmX7 9 (by decide) tw_1188 rfl (by decide +kernel) rfl rfl (fun _ => rfl) (pd_7_9 (pm_ad G) _ (q + 9) (by omega) (by omega)) dX7_init_76 (fun I9 hI9 => ?_)
  have R9 := pm_sq_row (i := 9) hI9 (by omega) R8
  have W9 := pm_sq_own (i := 9) hI9 (by omega) W8
  refine r_aload_n 79 (pm_C_st hC ok9) dX7_init_79 rfl rfl ?_
  refine r_iconst 80 (v := -1) (pm_C_st hC ok9) dX7_init_80 (by decide) ?_
  refine m_put 81 (ty := .int) (v := .int (-1)) (x := -1) (pm_C_st hC ok9) hnm (kq _ (by omega)) rfl pm_in7 pm_ig7 tyX7 tyX7_ok nmX7 17 (by decide) tw_1196 rfl (by decide +kernel) rfl rfl (fun _ => rfl) (pd_7_17 (pm_ad G) _ _) dX7_init_81 (fun I99 hI99 => ?_)
  have R99 := pm_su_row hI99 R9
  have W99 := pm_su_own hI99 W9
  refine r_aload_n 84 (pm_C_st hC ok9) dX7_init_84 rfl rfl ?_
  refine r_bipush 85 (v := 40) (pm_C_st hC ok9) dX7_init_85 (by decide) ?_
  refine m_newa 87 (t := 0) (n := 40) (pm_C_st hC ok9) hlin (by omega) (by omega) k10 (by simp) (hn _ (by omega)) tw_184 (by decide) (by decide) (by decide) ⟨by decide, by decide⟩ dX7_init_87 ?_
  refine m_put 89 (ty := (.array .int)) (v := .ref (q + 10)) (x := nI (q + 10)) (pm_C_st hC ok10) hnm (kq _ (by omega)) rfl pm_in7 pm_ig7 tyX7 tyX7_ok nmX7 23 (by decide) tw_1202 rfl (by decide +kernel) rfl rfl (fun _ => rfl) (pd_7_23 (pm_ad G) _ (q + 10) (by omega) (by omega)) dX7_init_89 (fun I10 hI10 => ?_)
  have R10 := pm_sq_row (i := 10) hI10 (by omega) R99
  have W10 := pm_sq_own (i := 10) hI10 (by omega) W99
  refine r_aload_n 92 (pm_C_st hC ok10) dX7_init_92 rfl rfl ?_
  refine r_bipush 93 (v := 6) (pm_C_st hC ok10) dX7_init_93 (by decide) ?_
  refine m_newa 95 (t := 0) (n := 6) (pm_C_st hC ok10) hlin (by omega) (by omega) k11 (by simp) (hn _ (by omega)) tw_184 (by decide) (by decide) (by decide) ⟨by decide, by decide⟩ dX7_init_95 ?_
  refine m_put 97 (ty := (.array .int)) (v := .ref (q + 11)) (x := nI (q + 11)) (pm_C_st hC ok11) hnm (kq _ (by omega)) rfl pm_in7 pm_ig7 tyX7 tyX7_ok nmX7 24 (by decide) tw_1203 rfl (by decide +kernel) rfl rfl (fun _ => rfl) (pd_7_24 (pm_ad G) _ (q + 11) (by omega) (by omega)) dX7_init_97 (fun I11 hI11 => ?_)
  have R11 := pm_sq_row (i := 11) hI11 (by omega) R10
  have W11 := pm_sq_own (i := 11) hI11 (by omega) W10
  refine r_aload_n 100 (pm_C_st hC ok11) dX7_init_100 rfl rfl ?_
  refine r_sipush 101 (v := 821) (pm_C_st hC ok11) dX7_init_101 (by decide) ?_
  refine m_newa 104 (t := 0) (n := 821) (pm_C_st hC ok11) hlin (by omega) (by omega) k12 (by simp) (hn _ (by omega)) tw_184 (by decide) (by decide) (by decide) ⟨by decide, by decide⟩ dX7_init_104 ?_
  refine m_put 106 (ty := (.array .int)) (v := .ref (q + 12)) (x := nI (q + 12)) (pm_C_st hC ok12) hnm (kq _ (by omega)) rfl pm_in7 pm_ig7 tyX7 tyX7_ok nmX7 25 (by decide) tw_1204 rfl (by decide +kernel) rfl rfl (fun _ => rfl) (pd_7_25 (pm_ad G) _ (q + 12) (by omega) (by omega)) dX7_init_106 (fun I12 hI12 => ?_)
  have R12 := pm_sq_row (i := 12) hI12 (by omega) R11
  have W12 := pm_sq_own (i := 12) hI12 (by omega) W11
  refine r_aload_n 109 (pm_C_st hC ok12) dX7_init_109 rfl rfl ?_
  refine r_sipush 110 (v := 8210) (pm_C_st hC ok12) dX7_init_110 (by decide) ?_
  refine m_newa 113 (t := 0) (n := 8210) (pm_C_st hC ok12) hlin (by omega) (by omega) k13 (by simp) (hn _ (by omega)) tw_184 (by decide) (by decide) (by decide) ⟨by decide, by decide⟩ dX7_init_113 ?_
  refine m_put 115 (ty := (.array .int)) (v := .ref (q + 13)) (x := nI (q + 13)) (pm_C_st hC ok13) hnm (kq _ (by omega)) rfl pm_in7 pm_ig7 tyX7 tyX7_ok nmX7 27 (by decide) tw_1206 rfl (by decide +kernel) rfl rfl (fun _ => rfl) (pd_7_27 (pm_ad G) _ (q + 13) (by omega) (by omega)) dX7_init_115 (fun I13 hI13 => ?_)
  have R13 := pm_sq_row (i := 13) hI13 (by omega) R12
  have W13 := pm_sq_own (i := 13) hI13 (by omega) W12
  refine r_aload_n 118 (pm_C_st hC ok13) dX7_init_118 rfl rfl ?_
  refine r_sipush 119 (v := 1642) (pm_C_st hC ok13) dX7_init_119 (by decide) ?_
  refine m_newa 122 (t := 0) (n := 1642) (pm_C_st hC ok13) hlin (by omega) (by omega) k14 (by simp) (hn _ (by omega)) tw_184 (by decide) (by decide) (by decide) ⟨by decide, by decide⟩ dX7_init_122 ?_
  refine m_put 124 (ty := (.array .int)) (v := .ref (q + 14)) (x := nI (q + 14)) (pm_C_st hC ok14) hnm (kq _ (by omega)) rfl pm_in7 pm_ig7 tyX7 tyX7_ok nmX7 28 (by decide) tw_1207 rfl (by decide +kernel) rfl rfl (fun _ => rfl) (pd_7_28 (pm_ad G) _ (q + 14) (by omega) (by omega)) dX7_init_124 (fun I14 hI14 => ?_)
  have R14 := pm_sq_row (i := 14) hI14 (by omega) R13
  have W14 := pm_sq_own (i := 14) hI14 (by omega) W13
  refine r_aload_n 127 (pm_C_st hC ok14) dX7_init_127 rfl rfl ?_
  refine r_iconst 128 (v := 2) (pm_C_st hC ok14) dX7_init_128 (by decide) ?_
  refine m_newa 129 (t := 2) (n := 2) (pm_C_st hC ok14) hlin (by omega) (by omega) k15 (by simp) (hn _ (by omega)) tw_393 (by decide) (by decide) (by decide) ⟨by decide, by decide⟩ dX7_init_129 ?_
  refine m_put 131 (ty := (.array .boolean)) (v := .ref (q + 15)) (x := nI (q + 15)) (pm_C_st hC ok15) hnm (kq _ (by omega)) rfl pm_in7 pm_ig7 tyX7 tyX7_ok nmX7 29 (by decide) tw_1208 rfl (by decide +kernel) rfl rfl (fun _ => rfl) (pd_7_29 (pm_ad G) _ (q + 15) (by omega) (by omega)) dX7_init_131 (fun I15 hI15 => ?_)
  have R15 := pm_sq_row (i := 15) hI15 (by omega) R14
  have W15 := pm_sq_own (i := 15) hI15 (by omega) W14
  have hgo : pm_R (pm_st G (q + 15) S0) X 1 15 13568 134 [some (.ref q)] [] (pm_up (pm_zb I q 16) q 17 (-1)) := by
    refine r_aload_n 134 (pm_C_st hC ok16) dX7_init_134 rfl rfl ?_
    refine r_callV_v 135 (n := 0) [] [] (pm_C_st hC ok16) kS rfl dX7_init_135 (by decide) (by decide) tw_1163 tw_135 ⟨by decide, by decide, by decide +kernel⟩ tw_1160 tw_1162 tw_76 rfl rfl (sX7_clearDraft (l := pm_l X) ok16 q _ _ kS h) ⟨by decide, by decide⟩ (Nat.le_of_ble_eq_true rfl) ?_
    intro J1 g1
    refine r_aload_n 138 (pm_C_st hC ok16) dX7_init_138 rfl rfl ?_
    refine r_callV_v 139 (n := 0) [] [] (pm_C_st hC ok16) kS rfl dX7_init_139 (by decide) (by decide) tw_1171 tw_135 ⟨by decide, by decide, by decide +kernel⟩ tw_1168 tw_1170 tw_78 rfl rfl (sX7_liftsAll (l := pm_l X) ok16 q _ _ kS g1) ⟨by decide, by decide⟩ (Nat.le_of_ble_eq_true rfl) ?_
    intro J2 g2
    refine r_aload_n 142 (pm_C_st hC ok16) dX7_init_142 rfl rfl ?_
    refine r_callV_v 143 (n := 0) [] [] (pm_C_st hC ok16) kS rfl dX7_init_143 (by decide) (by decide) tw_1178 tw_135 ⟨by decide, by decide, by decide +kernel⟩ tw_1175 tw_1177 tw_79 rfl rfl (sX7_begins (l := pm_l X) ok16 q _ _ kS g2) ⟨by decide, by decide⟩ (Nat.le_of_ble_eq_true rfl) ?_
    intro J3 g3
    exact m_vret 146 (pm_C_st hC ok16) hE dX7_init_146 g3
  refine m_fin (S2 := S0) (I2 := pm_up (pm_zb I q 16) q 17 (-1)) (fun r h1 h2 H h => ?_) hgo
  by_cases hr : r = q
  · subst hr
    rw [if_pos List.mem_cons_self, k0] at h
    rw [if_neg (hq0 r (Nat.le_refl r)), k0]
    have e9 : pm_fd (pm_ad G) 7 (I15 r) = pm_fs (pm_ad G) 7 r (pm_up (pm_zb I r 16) r 17 (-1) r) := by
      have z : pm_up (pm_zb I r 16) r 17 (-1) r = upd (fun _ => 0) 17 (-1) := by unfold pm_up pm_zb; rw [if_pos rfl, if_pos ⟨Nat.le_refl r, by omega⟩]
      rw [z, W15]
      show [Value.int 0, pm_rv (pm_ad G) (nI (r + 1)), pm_rv (pm_ad G) (nI (r + 2)), pm_rv (pm_ad G) (nI (r + 3)), pm_rv (pm_ad G) (nI (r + 4)), pm_rv (pm_ad G) (nI (r + 5)), pm_rv (pm_ad G) (nI (r + 6)), pm_rv (pm_ad G) (nI (r + 7)), pm_rv (pm_ad G) (nI (r + 8)), pm_rv (pm_ad G) (nI (r + 9)), .int 0, .int 0, .int 0, .int 0, .int 0, .int 0, .int 0, .int (-1), .int 0, .int 0, .int 0, .int 0, .int 0, pm_rv (pm_ad G) (nI (r + 10)), pm_rv (pm_ad G) (nI (r + 11)), pm_rv (pm_ad G) (nI (r + 12)), .int 0, pm_rv (pm_ad G) (nI (r + 13)), pm_rv (pm_ad G) (nI (r + 14)), pm_rv (pm_ad G) (nI (r + 15))] = _
      rw [pm_rv_nI (by omega) (by omega), pm_rv_nI (by omega) (by omega), pm_rv_nI (by omega) (by omega), pm_rv_nI (by omega) (by omega), pm_rv_nI (by omega) (by omega), pm_rv_nI (by omega) (by omega), pm_rv_nI (by omega) (by omega), pm_rv_nI (by omega) (by omega), pm_rv_nI (by omega) (by omega), pm_rv_nI (by omega) (by omega), pm_rv_nI (by omega) (by omega), pm_rv_nI (by omega) (by omega), pm_rv_nI (by omega) (by omega), pm_rv_nI (by omega) (by omega), pm_rv_nI (by omega) (by omega)]
      rfl
    have h' : va_at (pm_D G) vwCl (pm_ad G r, .inr (7, pm_fd (pm_ad G) 7 (I15 r))) H := h
    rw [e9] at h'
    exact h'
  · have e8 : I15 r = pm_up (pm_zb I q 16) q 17 (-1) r := by
      rw [R15 r hr]
      unfold pm_up
      rw [if_neg hr]
    rw [← e8]
    by_cases hs : r ∈ S0
    · rw [if_pos (List.mem_cons_of_mem _ hs)] at h
      rw [if_pos hs]; exact h
    · rw [if_neg (fun z => (List.mem_cons.mp z).elim hr hs)] at h
      rw [if_neg hs]; exact h
