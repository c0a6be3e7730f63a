/-! ===== the law's head: x (row 1), m (row 499), out (row 515) ===== -/
theorem pm_st_all {G : pm_G} (h : pm_n G = 515) : pm_st G 515 [] = G := by
  obtain ⟨D, ca, ad, n, kd, b, SS⟩ := G
  have h' : n = 515 := h
  subst h'
  have : (fun r => if r ∈ ([] : List Nat) then pm_dy (kd r) else kd r) = kd := by funext r; rw [if_neg List.not_mem_nil]
  show (D, ca, ad, 515, (fun r => if r ∈ ([] : List Nat) then pm_dy (kd r) else kd r), b, SS) = _
  rw [this]
def wMake (G : pm_G) (I : pm_I) (K : pm_I → Prop) : Prop := wX7_clearDraft (pm_st G 514 []) 499 (pm_up (pm_zb (pm_n6 I 1) 499 16) 499 17 (-1)) (fun I1 => wX7_liftsAll (pm_st G 514 []) 499 I1 (fun I2 => wX7_begins (pm_st G 514 []) 499 I2 (fun I3 => K (pm_nw I3 515))))
set_option maxRecDepth 20000 in
theorem law_make {G : pm_G} {X : pm_X} {I : pm_I} {K : pm_I → Prop} (hC : pm_C (pm_st G 0 []) X cL_law 7 RL (some .boolean) room_1) (hlin : pm_lin G 515) (hmk : pm_mk G) (hsz : pm_sz X = pm_b G) (h6 : pm_bX G 1) (h7 : pm_bM G 499) (ho : pm_kd G 515 = .inr (3, 1)) (hok : pm_ok (pm_st G 0 [])) (h : wMake G I K)
    (k : pm_ok (pm_st G 515 []) → ∀ I9, K I9 → pm_R (pm_st G 515 []) X 7 515 25516 23 [some (.ref 4000000), some (.ref 1), some (.ref 499), some (.ref 515), some (.int (nI 0)), none, none] [] I9) : pm_R (pm_st G 0 []) X 7 0 0 0 [some (.ref 4000000), none, none, none, none, none, none] [] I := by
  have nil : ∀ r ∈ ([] : List Nat), r < 1 := fun r hr => absurd hr List.not_mem_nil
  have nil9 : ∀ r ∈ ([] : List Nat), r < 499 := fun r hr => absurd hr List.not_mem_nil
  have ok1 : pm_ok (pm_st G 1 [1]) := pm_ok_next (S' := [1]) hok hlin (by omega) (fun r hr => ⟨fun h => (List.mem_cons.mp h).elim (fun e => by omega) id, fun h => List.mem_cons_of_mem _ h⟩) (by rw [if_pos List.mem_cons_self, h6.1]; rfl)
  have ok2 : pm_ok (pm_st G 498 []) := (o_X6 (q := 1) (S0 := []) hlin (by omega) (by omega) nil ok1 h6).2.2.2.2.2.2.2.2.2.2.2.2.2.2.2.2.2
  have ok3 : pm_ok (pm_st G 499 [499]) := pm_ok_next (S' := [499]) ok2 hlin (by omega) (fun r hr => ⟨fun h => (List.mem_cons.mp h).elim (fun e => by omega) id, fun h => List.mem_cons_of_mem _ h⟩) (by rw [if_pos List.mem_cons_self, h7.1]; rfl)
  have ok4 : pm_ok (pm_st G 514 []) := (o_X7 (q := 499) (S0 := []) hlin (by omega) (by omega) nil9 ok3 h7).2.2.2.2.2.2.2.2.2.2.2.2.2.2.2
  have ok5 : pm_ok (pm_st G 515 []) := pm_ok_next (S' := []) ok4 hlin (by omega) (fun _ _ => Iff.rfl) (by rw [if_neg List.not_mem_nil, ho]; rfl)
  replace k := k ok5
  refine m_new 0 hC hlin (by omega) (by omega) h6.1 rfl pm_in6 pm_ig6 tyX6 tyX6_ok tw_150 tw_151 tw_129 pf_6 ⟨by decide, by decide⟩ dL_law_0 ?_
  refine r_dup 3 (pm_C_st hC ok1) dL_law_3 rfl ?_
  refine m_call 4 (n := 0) (mc := 497) (ms := 11907) (j' := 498) (S' := []) (st := [.ref 1]) (K := fun Iz => Iz = pm_n6 I 1) [] (pm_C_st hC ok1) hlin (by omega) (by omega) dL_law_4 (by decide) (by decide) tw_154 tw_129 ⟨by decide, by decide, by decide +kernel⟩ tw_152 tw_153 rfl rfl rfl (c_X6 (q := 1) (S0 := []) hlin (by omega) (by omega) (by omega) nil ok1 h6 hmk I _ rfl) ⟨by decide, by decide⟩ (Nat.le_of_ble_eq_true rfl) (fun Iz hIz => ?_)
  subst hIz
  refine r_astore_n 7 [some (.ref 4000000), some (.ref 1), none, none, none, none, none] (pm_C_st hC ok2) dL_law_7 rfl (by decide) rfl ?_
  refine m_new 8 (pm_C_st hC ok2) hlin (by omega) (by omega) h7.1 rfl pm_in7 pm_ig7 tyX7 tyX7_ok tw_1154 tw_1155 tw_135 pf_7 ⟨by decide, by decide⟩ dL_law_8 ?_
  refine r_dup 11 (pm_C_st hC ok3) dL_law_11 rfl ?_
  refine m_call 12 (n := 0) (mc := 15) (ms := 13568) (j' := 514) (S' := []) (st := [.ref 499]) (K := fun I3 => K (pm_nw I3 515)) [] (pm_C_st hC ok3) hlin (by omega) (by omega) dL_law_12 (by decide) (by decide) tw_1158 tw_135 ⟨by decide, by decide, by decide +kernel⟩ tw_1156 tw_1157 rfl rfl rfl (c_X7 (q := 499) (S0 := []) hlin (by omega) (by omega) (by omega) nil9 ok3 h7 (pm_n6 I 1) _ h) ⟨by decide, by decide⟩ (Nat.le_of_ble_eq_true rfl) (fun I3 h3 => ?_)
  refine r_astore_n 15 [some (.ref 4000000), some (.ref 1), some (.ref 499), none, none, none, none] (pm_C_st hC ok4) dL_law_15 rfl (by decide) rfl ?_
  refine r_iconst 16 (v := 1) (pm_C_st hC ok4) dL_law_16 (by decide) ?_
  refine m_newa 17 (t := 3) (n := 1) (pm_C_st hC ok4) hlin (by omega) (by omega) ho (by simp) List.not_mem_nil tw_1639 (by decide) (by decide) (by decide) ⟨by decide, by decide⟩ dL_law_17 ?_
  refine r_astore_n 19 [some (.ref 4000000), some (.ref 1), some (.ref 499), some (.ref 515), none, none, none] (pm_C_st hC ok5) dL_law_19 rfl (by decide) rfl ?_
  refine r_iconst 20 (v := nI 0) (pm_C_st hC ok5) dL_law_20 (by decide) ?_
  refine r_istore 21 [some (.ref 4000000), some (.ref 1), some (.ref 499), some (.ref 515), some (.int (nI 0)), none, none] (pm_C_st hC ok5) dL_law_21 (by decide) rfl ?_
  exact k _ h3
