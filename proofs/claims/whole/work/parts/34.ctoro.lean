/-! ===== PeerOverlay's constructor ===== -/
/-- rows q .. of Z, the others of J -/
def pm_mx (J Z : pm_I) (q m : Nat) : pm_I := fun r => if q ≤ r ∧ r < q + m then Z r else J r
theorem mx_bl {I I1 B J Z : pm_I} {q c i n k : Nat} {x : Int32} (hI : I1 = pm_up B q k x) (hB : ∀ r, B r = if q + i ≤ r ∧ r < q + i + n then Z r else I r) (h : ∀ r, r ≠ q → r ≠ c → I r = pm_mx J Z q i r) : ∀ r, r ≠ q → r ≠ c → I1 r = pm_mx J Z q (i + n) r := by
  intro r hr hc
  subst hI
  unfold pm_up
  rw [if_neg hr, hB r]
  by_cases he : q + i ≤ r ∧ r < q + i + n
  · rw [if_pos he]; unfold pm_mx; rw [if_pos ⟨by omega, by omega⟩]
  · rw [if_neg he, h r hr hc]
    unfold pm_mx
    by_cases hb : q ≤ r ∧ r < q + i
    · rw [if_pos hb, if_pos ⟨hb.1, by omega⟩]
    · rw [if_neg hb, if_neg (by omega)]
theorem mx_bc {I I1 B J Z : pm_I} {q c i n k : Nat} {x : Int32} (hI : I1 = pm_up B c k x) (hB : ∀ r, B r = if q + i ≤ r ∧ r < q + i + n then Z r else I r) (h : ∀ r, r ≠ q → r ≠ c → I r = pm_mx J Z q i r) : ∀ r, r ≠ q → r ≠ c → I1 r = pm_mx J Z q (i + n) r := by
  intro r hr hc
  subst hI
  unfold pm_up
  rw [if_neg hc, hB r]
  by_cases he : q + i ≤ r ∧ r < q + i + n
  · rw [if_pos he]; unfold pm_mx; rw [if_pos ⟨by omega, by omega⟩]
  · rw [if_neg he, h r hr hc]
    unfold pm_mx
    by_cases hb : q ≤ r ∧ r < q + i
    · rw [if_pos hb, if_pos ⟨hb.1, by omega⟩]
    · rw [if_neg hb, if_neg (by omega)]
theorem mx_up {I I1 J Z : pm_I} {q c m k : Nat} {x : Int32} (hI : I1 = pm_up I q k x) (h : ∀ r, r ≠ q → r ≠ c → I r = pm_mx J Z q m r) : ∀ r, r ≠ q → r ≠ c → I1 r = pm_mx J Z q m r := by
  intro r hr hc
  subst hI
  unfold pm_up
  rw [if_neg hr, h r hr hc]
/-- a row before the block: it is what it was, but for the place that is written -/
theorem mx_own {I I1 B Z : pm_I} {q p n k : Nat} {x : Int32} {f : Nat → Int32} (hI : I1 = pm_up B q k x) (hB : ∀ r, B r = if p ≤ r ∧ r < p + n then Z r else I r) (hp : q < p) (h : I q = f) : I1 q = upd f k x := by
  subst hI
  unfold pm_up
  rw [if_pos rfl, hB q, if_neg (by omega), h]
theorem mx_kep {I I1 B Z : pm_I} {q c p n k : Nat} {x : Int32} {f : Nat → Int32} (hI : I1 = pm_up B c k x) (hqc : q ≠ c) (hB : ∀ r, B r = if p ≤ r ∧ r < p + n then Z r else I r) (hp : q < p) (h : I q = f) : I1 q = f := by
  subst hI
  unfold pm_up
  rw [if_neg hqc, hB q, if_neg (by omega), h]
/-- what PeerOverlay's constructor leaves in its rows -/
def pm_z6 (q : Nat) : pm_I := fun r => if r = q then upd (upd (upd (fun _ => 0) 2 (-1)) 3 (nI (q + 2))) 4 (nI (q + 10)) else if q + 2 ≤ r ∧ r < q + 10 then pm_clr pm_00 (q + 2) r else if q + 10 ≤ r ∧ r < q + 18 then pm_clr pm_00 (q + 10) r else fun _ => 0
def pm_n6 (I : pm_I) (q : Nat) : pm_I := pm_mx I (pm_z6 q) q 498
theorem z6_zb {I : pm_I} {q i n : Nat} (hi : 18 ≤ i) : ∀ r, pm_zb I (q + i) n r = if q + i ≤ r ∧ r < q + i + n then pm_z6 q r else I r := by
  intro r
  unfold pm_zb
  by_cases h : q + i ≤ r ∧ r < q + i + n
  · rw [if_pos h, if_pos h]
    unfold pm_z6
    rw [if_neg (by omega), if_neg (by omega), if_neg (by omega)]
  · rw [if_neg h, if_neg h]
theorem z6_nw {I : pm_I} {q i : Nat} (hi : 18 ≤ i ∨ i = 1) : ∀ r, pm_nw I (q + i) r = if q + i ≤ r ∧ r < q + i + 1 then pm_z6 q r else I r := by
  intro r
  unfold pm_nw
  by_cases h : r = q + i
  · rw [if_pos h, if_pos ⟨by omega, by omega⟩]
    unfold pm_z6
    rw [if_neg (by omega), if_neg (by omega), if_neg (by omega)]
  · rw [if_neg h, if_neg (by omega)]
theorem z6_cl {I : pm_I} {q i : Nat} (hi : i = 2 ∨ i = 10) : ∀ r, pm_clr (pm_zb I (q + i) 8) (q + i) r = if q + i ≤ r ∧ r < q + i + 8 then pm_z6 q r else I r := by
  intro r
  rw [pm_clr_zb]
  by_cases h : q + i ≤ r ∧ r < q + i + 8
  · rw [if_pos h, if_pos h]
    unfold pm_z6
    rcases hi with rfl | rfl
    · rw [if_neg (by omega), if_pos ⟨by omega, by omega⟩]
    · rw [if_neg (by omega), if_neg (by omega), if_pos ⟨by omega, by omega⟩]
  · rw [if_neg h, if_neg h]

theorem o_X6 {G : pm_G} {N9 q : Nat} {S0 : List Nat} (hlin : pm_lin G N9) (hq1 : 1 ≤ q) (hq : q + 497 ≤ N9) (hS0 : ∀ r ∈ S0, r < q) (hok : pm_ok (pm_st G q (q :: S0))) (hsh : pm_bX G q) : pm_ok (pm_st G (q + 1) (q :: S0)) ∧ pm_ok (pm_st G (q + 2) ((q + 2) :: q :: S0)) ∧ pm_ok (pm_st G (q + 9) (q :: S0)) ∧ pm_ok (pm_st G (q + 10) ((q + 10) :: q :: S0)) ∧ pm_ok (pm_st G (q + 17) (q :: S0)) ∧ pm_ok (pm_st G (q + 18) ((q + 18) :: q :: S0)) ∧ pm_ok (pm_st G (q + 51) (q :: S0)) ∧ pm_ok (pm_st G (q + 52) ((q + 52) :: q :: S0)) ∧ pm_ok (pm_st G (q + 85) (q :: S0)) ∧ pm_ok (pm_st G (q + 86) ((q + 86) :: q :: S0)) ∧ pm_ok (pm_st G (q + 427) (q :: S0)) ∧ pm_ok (pm_st G (q + 428) ((q + 428) :: q :: S0)) ∧ pm_ok (pm_st G (q + 429) ((q + 429) :: (q + 428) :: q :: S0)) ∧ pm_ok (pm_st G (q + 462) ((q + 428) :: q :: S0)) ∧ pm_ok (pm_st G (q + 463) ((q + 463) :: (q + 428) :: q :: S0)) ∧ pm_ok (pm_st G (q + 496) ((q + 428) :: q :: S0)) ∧ pm_ok (pm_st G (q + 497) ((q + 428) :: q :: S0)) ∧ pm_ok (pm_st G (q + 497) (S0)) := by
  have hn : ∀ r, q < r → r ∉ q :: S0 := fun r hr h => (List.mem_cons.mp h).elim (fun e => by omega) (fun h => by have := hS0 r h; omega)
  have hq0 : ∀ r, q ≤ r → r ∉ S0 := fun r hr h => by have := hS0 r h; omega
  have hS1 : ∀ j, q < j → ∀ r ∈ q :: S0, r < j := fun j hj r hr => (List.mem_cons.mp hr).elim (fun e => by omega) (fun h => by have := hS0 r h; omega)
  have hS2 : ∀ j, q + 428 < j → ∀ r ∈ (q + 428) :: q :: S0, r < j := fun j hj r hr => (List.mem_cons.mp hr).elim (fun e => by omega) (fun h => hS1 j (by omega) r h)
  obtain ⟨k0, k1, hP, hD, hNw, hF, hH, kS, hU, hV, kW⟩ := hsh
  have okA := pm_ok_next (S' := q :: S0) hok hlin (by omega) (fun _ _ => Iff.rfl) (by rw [if_neg (hn _ (by omega)), k1]; rfl)
  have okP : pm_ok (pm_st G (q + 2) ((q + 2) :: q :: S0)) := pm_ok_next (S' := (q + 2) :: q :: S0) okA hlin (by omega) (fun r hr => ⟨fun h => (List.mem_cons.mp h).elim (fun e => by omega) id, fun h => List.mem_cons_of_mem _ h⟩) (by rw [if_pos List.mem_cons_self, hP.1]; rfl)
  have okP1 := (o_X1 (q := q + 2) (S0 := q :: S0) hlin (by omega) (by omega) (hS1 _ (by omega)) okP hP).2.2.2.2.2.2
  have okD : pm_ok (pm_st G (q + 10) ((q + 10) :: q :: S0)) := pm_ok_next (S' := (q + 10) :: q :: S0) okP1 hlin (by omega) (fun r hr => ⟨fun h => (List.mem_cons.mp h).elim (fun e => by omega) id, fun h => List.mem_cons_of_mem _ h⟩) (by rw [if_pos List.mem_cons_self, hD.1]; rfl)
  have okD1 := (o_X1 (q := q + 10) (S0 := q :: S0) hlin (by omega) (by omega) (hS1 _ (by omega)) okD hD).2.2.2.2.2.2
  have okN : pm_ok (pm_st G (q + 18) ((q + 18) :: q :: S0)) := pm_ok_next (S' := (q + 18) :: q :: S0) okD1 hlin (by omega) (fun r hr => ⟨fun h => (List.mem_cons.mp h).elim (fun e => by omega) id, fun h => List.mem_cons_of_mem _ h⟩) (by rw [if_pos List.mem_cons_self, hNw.1]; rfl)
  have okN1 := (o_X5 (q := q + 18) (S0 := q :: S0) hlin (by omega) (by omega) (hS1 _ (by omega)) okN hNw).2.2.2.2
  have okF : pm_ok (pm_st G (q + 52) ((q + 52) :: q :: S0)) := pm_ok_next (S' := (q + 52) :: q :: S0) okN1 hlin (by omega) (fun r hr => ⟨fun h => (List.mem_cons.mp h).elim (fun e => by omega) id, fun h => List.mem_cons_of_mem _ h⟩) (by rw [if_pos List.mem_cons_self, hF.1]; rfl)
  have okF1 := (o_X5 (q := q + 52) (S0 := q :: S0) hlin (by omega) (by omega) (hS1 _ (by omega)) okF hF).2.2.2.2
  have okH : pm_ok (pm_st G (q + 86) ((q + 86) :: q :: S0)) := pm_ok_next (S' := (q + 86) :: q :: S0) okF1 hlin (by omega) (fun r hr => ⟨fun h => (List.mem_cons.mp h).elim (fun e => by omega) id, fun h => List.mem_cons_of_mem _ h⟩) (by rw [if_pos List.mem_cons_self, hH.1]; rfl)
  have okH1 := (o_X0 (q := q + 86) (S0 := q :: S0) hlin (by omega) (by omega) (hS1 _ (by omega)) okH hH).2.2
  have okS : pm_ok (pm_st G (q + 428) ((q + 428) :: q :: S0)) := pm_ok_next (S' := (q + 428) :: q :: S0) okH1 hlin (by omega) (fun r hr => ⟨fun h => (List.mem_cons.mp h).elim (fun e => by omega) id, fun h => List.mem_cons_of_mem _ h⟩) (by rw [if_pos List.mem_cons_self, kS]; rfl)
  have okU : pm_ok (pm_st G (q + 429) ((q + 429) :: (q + 428) :: q :: S0)) := pm_ok_next (S' := (q + 429) :: (q + 428) :: q :: S0) okS hlin (by omega) (fun r hr => ⟨fun h => (List.mem_cons.mp h).elim (fun e => by omega) id, fun h => List.mem_cons_of_mem _ h⟩) (by rw [if_pos List.mem_cons_self, hU.1]; rfl)
  have okU1 := (o_X5 (q := q + 429) (S0 := (q + 428) :: q :: S0) hlin (by omega) (by omega) (hS2 _ (by omega)) okU hU).2.2.2.2
  have okV : pm_ok (pm_st G (q + 463) ((q + 463) :: (q + 428) :: q :: S0)) := pm_ok_next (S' := (q + 463) :: (q + 428) :: q :: S0) okU1 hlin (by omega) (fun r hr => ⟨fun h => (List.mem_cons.mp h).elim (fun e => by omega) id, fun h => List.mem_cons_of_mem _ h⟩) (by rw [if_pos List.mem_cons_self, hV.1]; rfl)
  have okV1 := (o_X5 (q := q + 463) (S0 := (q + 428) :: q :: S0) hlin (by omega) (by omega) (hS2 _ (by omega)) okV hV).2.2.2.2
  have okW := pm_ok_next (S' := (q + 428) :: q :: S0) okV1 hlin (by omega) (fun _ _ => Iff.rfl) (by rw [if_neg (fun z => Nat.lt_irrefl _ (hS2 _ (by omega) _ z)), kW]; rfl)
  have hn4 : q + 428 ∉ q :: S0 := hn _ (by omega)
  have ok8 : pm_ok (pm_st G (q + 497) (q :: S0)) := pm_ok_done hn4 okW (by
    rw [kS]
    intro j hj
    have : j = 0 ∨ j = 1 := by omega
    rcases this with rfl | rfl
    · exact pm_k_out (hn _ (by omega)) (by omega) (by omega) hU.1
    · exact pm_k_out (hn _ (by omega)) (by omega) (by omega) hV.1)
  refine ⟨okA, okP, okP1, okD, okD1, okN, okN1, okF, okF1, okH, okH1, okS, okU, okU1, okV, okV1, okW, pm_ok_done (hq0 q (Nat.le_refl q)) ok8 ?_⟩
  rw [k0]
  exact ⟨pm_k_out (hq0 _ (by omega)) (by omega) (by omega) k1, pm_k_out (hq0 _ (by omega)) (by omega) (by omega) hNw.1, pm_k_out (hq0 _ (by omega)) (by omega) (by omega) hF.1, pm_k_out (hq0 _ (by omega)) (by omega) (by omega) hH.1, pm_k_out (hq0 _ (by omega)) (by omega) (by omega) kS, pm_k_out (hq0 _ (by omega)) (by omega) (by omega) kW⟩
set_option maxRecDepth 20000 in
theorem c_X6 {G : pm_G} {l : Launch} {N9 q : Nat} {S0 : List Nat} (hlin : pm_lin G N9) (hN : N9 < 2 ^ 20) (hq1 : 1 ≤ q) (hq : q + 497 ≤ N9) (hS0 : ∀ r ∈ S0, r < q) (hok : pm_ok (pm_st G q (q :: S0))) (hsh : pm_bX G q) (hmk : pm_mk G) (I : pm_I) (K : pm_I → Prop) (h : K (pm_n6 I q)) : pm_Cc G q (q :: S0) (q + 497) S0 l yX6_init cX6_init 2 5 500 497 11907 [.ref q] (pm_nw I q) K := by
  obtain ⟨okA, okP, okP1, okD, okD1, okN, okN1, okF, okF1, okH, okH1, okS, okU, okU1, okV, okV1, okW, ok9⟩ := o_X6 hlin hq1 hq hS0 hok hsh
  have hn : ∀ r, q < r → r ∉ q :: S0 := fun r hr h => (List.mem_cons.mp h).elim (fun e => by omega) (fun h => by have := hS0 r h; omega)
  have hq0 : ∀ r, q ≤ r → r ∉ S0 := fun r hr h => by have := hS0 r h; omega
  have hS1 : ∀ j, q < j → ∀ r ∈ q :: S0, r < j := fun j hj r hr => (List.mem_cons.mp hr).elim (fun e => by omega) (fun h => by have := hS0 r h; omega)
  have hS2 : ∀ j, q + 428 < j → ∀ r ∈ (q + 428) :: q :: S0, r < j := fun j hj r hr => (List.mem_cons.mp hr).elim (fun e => by omega) (fun h => hS1 j (by omega) r h)
  obtain ⟨k0, k1, hP, hD, hNw, hF, hH, kS, hU, hV, kW⟩ := id hsh
  refine pm_enterC (by decide +kernel) hok rfl (Nat.le_of_ble_eq_true rfl) rfl (fun X hl hsz hnm hC hE => ?_)
  subst hl
  have hC : pm_C (pm_st G q (q :: S0)) X cX6_init 2 RX6 none { frames := 5, cells := 497, slots := 11907, locals := 500 } := hC
  have kq : ∀ j, q ≤ j → pm_k (pm_st G j (q :: S0)) q (.inr (8, 6)) := fun j hj => pm_k_in List.mem_cons_self hq1 hj k0
  have kq2 : ∀ j, q + 428 ≤ j → pm_k (pm_st G j ((q + 428) :: q :: S0)) q (.inr (8, 6)) := fun j hj => pm_k_in (List.mem_cons_of_mem _ List.mem_cons_self) hq1 (by omega) k0
  have ka : ∀ j, q + 428 ≤ j → pm_k (pm_st G j ((q + 428) :: q :: S0)) (q + 428) (.inr (7, 2)) := fun j hj => pm_k_in (k := .inr (5, 2)) List.mem_cons_self (by omega) hj kS
  refine r_aload_n 0 hC dX6_init_0 rfl rfl ?_
  refine m_obj 1 hC tw_155 tw_156 tw_157 (by decide) (by decide) (Nat.le_of_ble_eq_true rfl) dX6_init_1 ?_
  have R0 : ∀ r, r ≠ q → r ≠ q + 428 → (pm_nw I q) r = pm_mx I (pm_z6 q) q 1 r := fun r hr _ => by unfold pm_nw pm_mx; rw [if_neg hr, if_neg (by omega)]
  have W0 : (pm_nw I q) q = fun _ => 0 := pm_nw_own
  refine r_aload_n 4 hC dX6_init_4 rfl rfl ?_
  refine r_sipush 5 (v := 600) hC dX6_init_5 (by decide) ?_
  refine m_newa 8 (t := 1) (n := 600) hC hlin (by omega) (by omega) k1 (by simp) (hn _ (by omega)) tw_183 (by decide) (by decide) (by decide) ⟨by decide, by decide⟩ dX6_init_8 ?_
  refine m_put 10 (ty := (.array .byte)) (v := .ref (q + 1)) (x := nI (q + 1)) (pm_C_st hC okA) hnm (kq _ (by omega)) rfl pm_in6 pm_ig6 tyX6 tyX6_ok nmX6 0 (by decide) tw_362 rfl (by decide +kernel) rfl rfl (fun _ => rfl) (pd_6_0 (pm_ad G) _ (q + 1) (by omega) (by omega)) dX6_init_10 (fun I1 hI1 => ?_)
  have R1 := mx_bl (i := 1) hI1 (z6_nw (Or.inr rfl)) R0
  have W1 := mx_own (p := q + 1) hI1 (z6_nw (Or.inr rfl)) (by omega) W0
  refine r_aload_n 13 (pm_C_st hC okA) dX6_init_13 rfl rfl ?_
  refine r_iconst 14 (v := 0) (pm_C_st hC okA) dX6_init_14 (by decide) ?_
  refine m_put 15 (ty := .int) (v := .int 0) (x := 0) (pm_C_st hC okA) hnm (kq _ (by omega)) rfl pm_in6 pm_ig6 tyX6 tyX6_ok nmX6 1 (by decide) tw_363 rfl (by decide +kernel) rfl rfl (fun _ => rfl) (pd_6_1 (pm_ad G) _ _) dX6_init_15 (fun I2 hI2 => ?_)
  have R2 := mx_up hI2 R1
  have W2 := pm_su_own hI2 W1
  refine r_aload_n 18 (pm_C_st hC okA) dX6_init_18 rfl rfl ?_
  refine r_iconst 19 (v := -1) (pm_C_st hC okA) dX6_init_19 (by decide) ?_
  refine m_put 20 (ty := .int) (v := .int (-1)) (x := (-1)) (pm_C_st hC okA) hnm (kq _ (by omega)) rfl pm_in6 pm_ig6 tyX6 tyX6_ok nmX6 2 (by decide) tw_364 rfl (by decide +kernel) rfl rfl (fun _ => rfl) (pd_6_2 (pm_ad G) _ _) dX6_init_20 (fun I3 hI3 => ?_)
  have R3 := mx_up hI3 R2
  have W3 := pm_su_own hI3 W2
  refine r_aload_n 23 (pm_C_st hC okA) dX6_init_23 rfl rfl ?_
  refine m_new 24 (pm_C_st hC okA) hlin (by omega) (by omega) hP.1 rfl pm_in1 pm_ig1 tyX1 tyX1_ok tw_158 tw_159 tw_130 pf_1 ⟨by decide, by decide⟩ dX6_init_24 ?_
  refine r_dup 27 (pm_C_st hC okP) dX6_init_27 rfl ?_
  refine m_callN 28 (n := 0) (mc := 7) (ms := 708) (j' := q + 9) (S' := q :: S0) (st := [.ref (q + 2), .ref q]) (K := fun Iz => Iz = pm_clr (pm_zb I3 (q + 2) 8) (q + 2)) [] (pm_C_st hC okP) hlin (by omega) (by omega) dX6_init_28 (by decide) (by decide) tw_162 tw_130 ⟨by decide, by decide, by decide +kernel⟩ tw_160 tw_161 rfl rfl rfl (c_X1 (q := q + 2) (S0 := q :: S0) hlin hN (by omega) (by omega) (hS1 _ (by omega)) okP hP I3 _ (u_X1_clear rfl)) ⟨by decide, by decide⟩ (Nat.le_of_ble_eq_true rfl) (fun B4 hB4 => ?_)
  subst hB4
  refine m_put 31 (ty := (.object "PeerOverlay$Plan")) (v := .ref (q + 2)) (x := nI (q + 2)) (pm_C_st hC okP1) hnm (kq _ (by omega)) rfl pm_in6 pm_ig6 tyX6 tyX6_ok nmX6 3 (by decide) tw_365 rfl (by decide +kernel) rfl rfl (fun _ => rfl) (pd_6_3 (pm_ad G) _ (q + 2) (by omega) (by omega)) dX6_init_31 (fun I4 hI4 => ?_)
  have R4 := mx_bl (i := 2) (n := 8) hI4 (z6_cl (Or.inl rfl)) R3
  have W4 := mx_own (p := q + 2) (n := 8) hI4 (z6_cl (Or.inl rfl)) (by omega) W3
  refine r_aload_n 34 (pm_C_st hC okP1) dX6_init_34 rfl rfl ?_
  refine m_new 35 (pm_C_st hC okP1) hlin (by omega) (by omega) hD.1 rfl pm_in1 pm_ig1 tyX1 tyX1_ok tw_158 tw_159 tw_130 pf_1 ⟨by decide, by decide⟩ dX6_init_35 ?_
  refine r_dup 38 (pm_C_st hC okD) dX6_init_38 rfl ?_
  refine m_callN 39 (n := 0) (mc := 7) (ms := 708) (j' := q + 17) (S' := q :: S0) (st := [.ref (q + 10), .ref q]) (K := fun Iz => Iz = pm_clr (pm_zb I4 (q + 10) 8) (q + 10)) [] (pm_C_st hC okD) hlin (by omega) (by omega) dX6_init_39 (by decide) (by decide) tw_162 tw_130 ⟨by decide, by decide, by decide +kernel⟩ tw_160 tw_161 rfl rfl rfl (c_X1 (q := q + 10) (S0 := q :: S0) hlin hN (by omega) (by omega) (hS1 _ (by omega)) okD hD I4 _ (u_X1_clear rfl)) ⟨by decide, by decide⟩ (Nat.le_of_ble_eq_true rfl) (fun B5 hB5 => ?_)
  subst hB5
  refine m_put 42 (ty := (.object "PeerOverlay$Plan")) (v := .ref (q + 10)) (x := nI (q + 10)) (pm_C_st hC okD1) hnm (kq _ (by omega)) rfl pm_in6 pm_ig6 tyX6 tyX6_ok nmX6 4 (by decide) tw_366 rfl (by decide +kernel) rfl rfl (fun _ => rfl) (pd_6_4 (pm_ad G) _ (q + 10) (by omega) (by omega)) dX6_init_42 (fun I5 hI5 => ?_)
  have R5 := mx_bl (i := 10) (n := 8) hI5 (z6_cl (Or.inr rfl)) R4
  have W5 := mx_own (p := q + 10) (n := 8) hI5 (z6_cl (Or.inr rfl)) (by omega) W4
  refine r_aload_n 45 (pm_C_st hC okD1) dX6_init_45 rfl rfl ?_
  refine m_new 46 (pm_C_st hC okD1) hlin (by omega) (by omega) hNw.1 rfl pm_in5 pm_ig5 tyX5 tyX5_ok tw_242 tw_243 tw_132 pf_5 ⟨by decide, by decide⟩ dX6_init_46 ?_
  refine r_dup 49 (pm_C_st hC okN) dX6_init_49 rfl ?_
  refine m_callN 50 (n := 0) (mc := 33) (ms := 700) (j' := q + 51) (S' := q :: S0) (st := [.ref (q + 18), .ref q]) (K := fun Iz => Iz = pm_zb I5 (q + 18) 34) [] (pm_C_st hC okN) hlin (by omega) (by omega) dX6_init_50 (by decide) (by decide) tw_246 tw_132 ⟨by decide, by decide, by decide +kernel⟩ tw_244 tw_245 rfl rfl rfl (c_X5 (q := q + 18) (S0 := q :: S0) hlin hN (by omega) (by omega) (hS1 _ (by omega)) okN hNw hmk I5 _ rfl) ⟨by decide, by decide⟩ (Nat.le_of_ble_eq_true rfl) (fun B6 hB6 => ?_)
  subst hB6
  refine m_put 53 (ty := (.object "PeerOverlay$Situation")) (v := .ref (q + 18)) (x := nI (q + 18)) (pm_C_st hC okN1) hnm (kq _ (by omega)) rfl pm_in6 pm_ig6 tyX6 tyX6_ok nmX6 5 (by decide) tw_367 rfl (by decide +kernel) rfl rfl (fun _ => rfl) (pd_6_5 (pm_ad G) _ (q + 18) (by omega) (by omega)) dX6_init_53 (fun I6 hI6 => ?_)
  have R6 := mx_bl (i := 18) (n := 34) hI6 (z6_zb (by omega)) R5
  have W6 := mx_own (p := q + 18) (n := 34) hI6 (z6_zb (by omega)) (by omega) W5
  refine r_aload_n 56 (pm_C_st hC okN1) dX6_init_56 rfl rfl ?_
  refine m_new 57 (pm_C_st hC okN1) hlin (by omega) (by omega) hF.1 rfl pm_in5 pm_ig5 tyX5 tyX5_ok tw_242 tw_243 tw_132 pf_5 ⟨by decide, by decide⟩ dX6_init_57 ?_
  refine r_dup 60 (pm_C_st hC okF) dX6_init_60 rfl ?_
  refine m_callN 61 (n := 0) (mc := 33) (ms := 700) (j' := q + 85) (S' := q :: S0) (st := [.ref (q + 52), .ref q]) (K := fun Iz => Iz = pm_zb I6 (q + 52) 34) [] (pm_C_st hC okF) hlin (by omega) (by omega) dX6_init_61 (by decide) (by decide) tw_246 tw_132 ⟨by decide, by decide, by decide +kernel⟩ tw_244 tw_245 rfl rfl rfl (c_X5 (q := q + 52) (S0 := q :: S0) hlin hN (by omega) (by omega) (hS1 _ (by omega)) okF hF hmk I6 _ rfl) ⟨by decide, by decide⟩ (Nat.le_of_ble_eq_true rfl) (fun B7 hB7 => ?_)
  subst hB7
  refine m_put 64 (ty := (.object "PeerOverlay$Situation")) (v := .ref (q + 52)) (x := nI (q + 52)) (pm_C_st hC okF1) hnm (kq _ (by omega)) rfl pm_in6 pm_ig6 tyX6 tyX6_ok nmX6 6 (by decide) tw_368 rfl (by decide +kernel) rfl rfl (fun _ => rfl) (pd_6_6 (pm_ad G) _ (q + 52) (by omega) (by omega)) dX6_init_64 (fun I7 hI7 => ?_)
  have R7 := mx_bl (i := 52) (n := 34) hI7 (z6_zb (by omega)) R6
  have W7 := mx_own (p := q + 52) (n := 34) hI7 (z6_zb (by omega)) (by omega) W6
  refine r_aload_n 67 (pm_C_st hC okF1) dX6_init_67 rfl rfl ?_
  refine m_new 68 (pm_C_st hC okF1) hlin (by omega) (by omega) hH.1 rfl pm_in0 pm_ig0 tyX0 tyX0_ok tw_343 tw_344 tw_134 pf_0 ⟨by decide, by decide⟩ dX6_init_68 ?_
  refine r_dup 71 (pm_C_st hC okH) dX6_init_71 rfl ?_
  refine m_callN 72 (n := 0) (mc := 341) (ms := 7050) (j' := q + 427) (S' := q :: S0) (st := [.ref (q + 86), .ref q]) (K := fun Iz => Iz = pm_zb I7 (q + 86) 342) [] (pm_C_st hC okH) hlin (by omega) (by omega) dX6_init_72 (by decide) (by decide) tw_347 tw_134 ⟨by decide, by decide, by decide +kernel⟩ tw_345 tw_346 rfl rfl rfl (c_X0 (q := q + 86) (S0 := q :: S0) hlin hN (by omega) (by omega) (hS1 _ (by omega)) okH hH hmk I7 _ rfl) ⟨by decide, by decide⟩ (Nat.le_of_ble_eq_true rfl) (fun B8 hB8 => ?_)
  subst hB8
  refine m_put 75 (ty := (.object "PeerOverlay$History")) (v := .ref (q + 86)) (x := nI (q + 86)) (pm_C_st hC okH1) hnm (kq _ (by omega)) rfl pm_in6 pm_ig6 tyX6 tyX6_ok nmX6 7 (by decide) tw_369 rfl (by decide +kernel) rfl rfl (fun _ => rfl) (pd_6_7 (pm_ad G) _ (q + 86) (by omega) (by omega)) dX6_init_75 (fun I8 hI8 => ?_)
  have R8 := mx_bl (i := 86) (n := 342) hI8 (z6_zb (by omega)) R7
  have W8 := mx_own (p := q + 86) (n := 342) hI8 (z6_zb (by omega)) (by omega) W7
  refine r_aload_n 78 (pm_C_st hC okH1) dX6_init_78 rfl rfl ?_
  refine r_iconst 79 (v := 2) (pm_C_st hC okH1) dX6_init_79 (by decide) ?_
  refine m_anew 80 (t := 5) (n := 2) (pm_C_st hC okH1) hmk hlin (by omega) (by omega) kS (Or.inr rfl) tw_242 (by decide) (by decide) (by decide) ⟨by decide, by decide⟩ dX6_init_80 ?_
  refine m_put 83 (ty := (.array (.object "PeerOverlay$Situation"))) (v := .ref (q + 428)) (x := nI (q + 428)) (pm_C_st hC okS) hnm (kq2 _ (by omega)) rfl pm_in6 pm_ig6 tyX6 tyX6_ok nmX6 8 (by decide) tw_370 rfl (by decide +kernel) rfl rfl (fun _ => rfl) (pd_6_8 (pm_ad G) _ (q + 428) (by omega) (by omega)) dX6_init_83 (fun I9 hI9 => ?_)
  have R9 := mx_bl (i := 428) (n := 1) hI9 (z6_nw (i := 428) (Or.inl (by omega))) R8
  have W9 := mx_own (p := q + 428) (n := 1) hI9 (z6_nw (i := 428) (Or.inl (by omega))) (by omega) W8
  have A9 : I9 (q + 428) = fun _ => 0 := by rw [hI9]; unfold pm_up pm_nw; rw [if_neg (by omega), if_pos rfl]
  refine r_iconst 86 (v := 0) (pm_C_st hC okS) dX6_init_86 (by decide) ?_
  refine r_istore_n 87 [some (.ref q), some (.int 0)] (pm_C_st hC okS) dX6_init_87 rfl (by decide) rfl ?_
  refine r_iload_n 88 (pm_C_st hC okS) dX6_init_88 rfl rfl ?_
  refine r_iconst 89 (v := 2) (pm_C_st hC okS) dX6_init_89 (by decide) ?_
  refine r_icmp_ge 90 112 (pm_C_st hC okS) dX6_init_90 (by decide) (fun hc => absurd hc (by decide)) (fun _ => ?_)
  refine r_aload_n 93 (pm_C_st hC okS) dX6_init_93 rfl rfl ?_
  refine m_get 94 (r1 := q + 428) (pm_C_st hC okS) (kq2 _ (by omega)) rfl pm_in6 pm_ig6 8 (by decide) tw_370 rfl rfl (by rw [W9]; rfl) (by omega) (by omega) dX6_init_94 ?_
  refine r_iload_n 97 (pm_C_st hC okS) dX6_init_97 rfl rfl ?_
  refine m_new 98 (pm_C_st hC okS) hlin (by omega) (by omega) hU.1 rfl pm_in5 pm_ig5 tyX5 tyX5_ok tw_242 tw_243 tw_132 pf_5 ⟨by decide, by decide⟩ dX6_init_98 ?_
  refine r_dup 101 (pm_C_st hC okU) dX6_init_101 rfl ?_
  refine m_callN 102 (n := 0) (mc := 33) (ms := 700) (j' := q + 462) (S' := (q + 428) :: q :: S0) (st := [.ref (q + 429), .int 0, .ref (q + 428)]) (K := fun Iz => Iz = pm_zb I9 (q + 429) 34) [] (pm_C_st hC okU) hlin (by omega) (by omega) dX6_init_102 (by decide) (by decide) tw_246 tw_132 ⟨by decide, by decide, by decide +kernel⟩ tw_244 tw_245 rfl rfl rfl (c_X5 (q := q + 429) (S0 := (q + 428) :: q :: S0) hlin hN (by omega) (by omega) (hS2 _ (by omega)) okU hU hmk I9 _ rfl) ⟨by decide, by decide⟩ (Nat.le_of_ble_eq_true rfl) (fun B10 hB10 => ?_)
  subst hB10
  refine m_aast 105 (Cn := RX5) (T := TX5) (N := 4) (pm_C_st hC okU1) (ka _ (by omega)) (Or.inr rfl) (pm_k_out (fun z => Nat.lt_irrefl _ (hS2 _ (by omega) _ z)) (by omega) (by omega) hU.1) (by omega) (vp_in_nI (n := 0) (by decide) (by decide)) dX6_init_105 (fun I10 hI10 => ?_)
  have hI10' : I10 = pm_up (pm_zb I9 (q + 429) 34) (q + 428) 0 (nI (q + 429)) := hI10
  have R10 := mx_bc (i := 429) (n := 34) hI10' (z6_zb (by omega)) R9
  have W10 := mx_kep (p := q + 429) (n := 34) hI10' (by omega) (z6_zb (by omega)) (by omega) W9
  have A10 := mx_own (p := q + 429) (n := 34) hI10' (z6_zb (q := q) (by omega)) (by omega) A9
  refine r_iinc 106 (v := 1) [some (.ref q), some (.int 1)] (pm_C_st hC okU1) dX6_init_106 rfl (by decide) (by decide) rfl ?_
  refine r_goto 109 88 (pm_C_st hC okU1) dX6_init_109 (by decide) ?_
  refine r_iload_n 88 (pm_C_st hC okU1) dX6_init_88 rfl rfl ?_
  refine r_iconst 89 (v := 2) (pm_C_st hC okU1) dX6_init_89 (by decide) ?_
  refine r_icmp_ge 90 112 (pm_C_st hC okU1) dX6_init_90 (by decide) (fun hc => absurd hc (by decide)) (fun _ => ?_)
  refine r_aload_n 93 (pm_C_st hC okU1) dX6_init_93 rfl rfl ?_
  refine m_get 94 (r1 := q + 428) (pm_C_st hC okU1) (kq2 _ (by omega)) rfl pm_in6 pm_ig6 8 (by decide) tw_370 rfl rfl (by rw [W10]; rfl) (by omega) (by omega) dX6_init_94 ?_
  refine r_iload_n 97 (pm_C_st hC okU1) dX6_init_97 rfl rfl ?_
  refine m_new 98 (pm_C_st hC okU1) hlin (by omega) (by omega) hV.1 rfl pm_in5 pm_ig5 tyX5 tyX5_ok tw_242 tw_243 tw_132 pf_5 ⟨by decide, by decide⟩ dX6_init_98 ?_
  refine r_dup 101 (pm_C_st hC okV) dX6_init_101 rfl ?_
  refine m_callN 102 (n := 0) (mc := 33) (ms := 700) (j' := q + 496) (S' := (q + 428) :: q :: S0) (st := [.ref (q + 463), .int 1, .ref (q + 428)]) (K := fun Iz => Iz = pm_zb I10 (q + 463) 34) [] (pm_C_st hC okV) hlin (by omega) (by omega) dX6_init_102 (by decide) (by decide) tw_246 tw_132 ⟨by decide, by decide, by decide +kernel⟩ tw_244 tw_245 rfl rfl rfl (c_X5 (q := q + 463) (S0 := (q + 428) :: q :: S0) hlin hN (by omega) (by omega) (hS2 _ (by omega)) okV hV hmk I10 _ rfl) ⟨by decide, by decide⟩ (Nat.le_of_ble_eq_true rfl) (fun B11 hB11 => ?_)
  subst hB11
  refine m_aast 105 (Cn := RX5) (T := TX5) (N := 4) (pm_C_st hC okV1) (ka _ (by omega)) (Or.inr rfl) (pm_k_out (fun z => Nat.lt_irrefl _ (hS2 _ (by omega) _ z)) (by omega) (by omega) hV.1) (by omega) (vp_in_nI (n := 1) (by decide) (by decide)) dX6_init_105 (fun I11 hI11 => ?_)
  have hI11' : I11 = pm_up (pm_zb I10 (q + 463) 34) (q + 428) 1 (nI (q + 463)) := hI11
  have R11 := mx_bc (i := 463) (n := 34) hI11' (z6_zb (by omega)) R10
  have W11 := mx_kep (p := q + 463) (n := 34) hI11' (by omega) (z6_zb (by omega)) (by omega) W10
  have A11 := mx_own (p := q + 463) (n := 34) hI11' (z6_zb (q := q) (by omega)) (by omega) A10
  refine r_iinc 106 (v := 2) [some (.ref q), some (.int 2)] (pm_C_st hC okV1) dX6_init_106 rfl (by decide) (by decide) rfl ?_
  refine r_goto 109 88 (pm_C_st hC okV1) dX6_init_109 (by decide) ?_
  refine r_iload_n 88 (pm_C_st hC okV1) dX6_init_88 rfl rfl ?_
  refine r_iconst 89 (v := 2) (pm_C_st hC okV1) dX6_init_89 (by decide) ?_
  refine r_icmp_ge 90 112 (pm_C_st hC okV1) dX6_init_90 (by decide) (fun _ => ?_) (fun hc => absurd (by decide) hc)
  refine r_aload_n 112 (pm_C_st hC okV1) dX6_init_112 rfl rfl ?_
  refine r_iconst 113 (v := 2) (pm_C_st hC okV1) dX6_init_113 (by decide) ?_
  refine m_newa 114 (t := 2) (n := 2) (pm_C_st hC okV1) hlin (by omega) (by omega) kW (by simp) (fun z => Nat.lt_irrefl _ (hS2 _ (by omega) _ z)) tw_393 (by decide) (by decide) (by decide) ⟨by decide, by decide⟩ dX6_init_114 ?_
  refine m_put 116 (ty := (.array .boolean)) (v := .ref (q + 497)) (x := nI (q + 497)) (pm_C_st hC okW) hnm (kq2 _ (by omega)) rfl pm_in6 pm_ig6 tyX6 tyX6_ok nmX6 9 (by decide) tw_371 rfl (by decide +kernel) rfl rfl (fun _ => rfl) (pd_6_9 (pm_ad G) _ (q + 497) (by omega) (by omega)) dX6_init_116 (fun I12 hI12 => ?_)
  have R12 := mx_bl (i := 497) (n := 1) hI12 (z6_nw (i := 497) (Or.inl (by omega))) R11
  have W12 := mx_own (p := q + 497) (n := 1) hI12 (z6_nw (i := 497) (Or.inl (by omega))) (by omega) W11
  have A12 : I12 (q + 428) = I11 (q + 428) := by rw [hI12]; unfold pm_up pm_nw; rw [if_neg (by omega), if_neg (by omega)]
  rw [A11] at A12
  refine m_fin (j := q + 497) (S2 := S0) (I2 := pm_n6 I q) (fun r h1 h2 H h => ?_) (m_vret 119 (pm_C_st hC ok9) hE dX6_init_119 h)
  by_cases hr : r = q
  · subst hr
    rw [if_pos (List.mem_cons_of_mem _ List.mem_cons_self), k0] at h
    rw [if_neg (hq0 r (Nat.le_refl r)), k0]
    have e9 : pm_fd (pm_ad G) 6 (I12 r) = pm_fs (pm_ad G) 6 r (pm_n6 I r r) := by
      have z : pm_n6 I r r = upd (upd (upd (fun _ => 0) 2 (-1)) 3 (nI (r + 2))) 4 (nI (r + 10)) := by unfold pm_n6 pm_mx pm_z6; rw [if_pos ⟨Nat.le_refl r, by omega⟩, if_pos rfl]
      rw [z, W12]
      show [pm_rv (pm_ad G) (nI (r + 1)), .int 0, .int (-1), pm_rv (pm_ad G) (nI (r + 2)), pm_rv (pm_ad G) (nI (r + 10)), pm_rv (pm_ad G) (nI (r + 18)), pm_rv (pm_ad G) (nI (r + 52)), pm_rv (pm_ad G) (nI (r + 86)), pm_rv (pm_ad G) (nI (r + 428)), pm_rv (pm_ad G) (nI (r + 497))] = [.ref (pm_ad G (r + 1)), .int 0, .int (-1), .ref (pm_ad G (nI (r + 2)).toNatClampNeg), .ref (pm_ad G (nI (r + 10)).toNatClampNeg), .ref (pm_ad G (r + 18)), .ref (pm_ad G (r + 52)), .ref (pm_ad G (r + 86)), .ref (pm_ad G (r + 428)), .ref (pm_ad G (r + 497))]
      rw [pm_rv_nI (by omega) (by omega), pm_rv_nI (by omega) (by omega), pm_rv_nI (by omega) (by omega), pm_rv_nI (by omega) (by omega), pm_rv_nI (by omega) (by omega), pm_rv_nI (by omega) (by omega), pm_rv_nI (by omega) (by omega), pm_rv_nI (by omega) (by omega), nI_clamp (by omega), nI_clamp (by omega)]
    have h' : va_at (pm_D G) vwCl (pm_ad G r, .inr (6, pm_fd (pm_ad G) 6 (I12 r))) H := h
    rw [e9] at h'
    exact h'
  · by_cases hr3 : r = q + 428
    · subst hr3
      rw [if_pos List.mem_cons_self, kS] at h
      rw [if_neg (hq0 _ (by omega)), kS]
      have h1' : H[pm_ad G (q + 428)]? = some (vp_cell (pm_ca G 5) (2, .inr (.inr (.inr (.inr (fun y => pm_ro (pm_ad G) (I12 (q + 428) y))))))) := h
      show H[pm_ad G (q + 428)]? = some (vp_cell (pm_ca G 5) (2, .inr (.inr (.inr (.inr (fun y => some (pm_ad G (q + 428 + 1 + 34 * y))))))))
      rw [h1']
      congr 1
      refine pm_arrq (fun y hy => ?_)
      rw [A12]
      have : y = 0 ∨ y = 1 := by omega
      rcases this with rfl | rfl
      · show pm_ro (pm_ad G) (nI (q + 429)) = _
        rw [pm_ro_nI (by omega) (by omega)]
      · show pm_ro (pm_ad G) (nI (q + 463)) = _
        rw [pm_ro_nI (by omega) (by omega)]
    · have e8 : I12 r = pm_n6 I q r := R12 r hr hr3
      rw [← e8]
      by_cases hs : r ∈ S0
      · rw [if_pos (List.mem_cons_of_mem _ (List.mem_cons_of_mem _ hs))] at h
        rw [if_pos hs]; exact h
      · rw [if_neg (fun z => (List.mem_cons.mp z).elim hr3 (fun z => (List.mem_cons.mp z).elim hr hs))] at h
        rw [if_neg hs]; exact h
