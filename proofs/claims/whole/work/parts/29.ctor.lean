/-- n rows of zeros from q on -/
def pm_zb (I : pm_I) (q n : Nat) : pm_I := fun r => if q ≤ r ∧ r < q + n then (fun _ => 0) else I r
section PMF
variable {G : pm_G} {X : pm_X} {nL a b j : Nat} {ls : List (Option Value)} {st : List Value} {I : pm_I} {S : List Nat}
/-- rows are finished: what they hold is what finished ones hold, of other numbers perhaps -/
theorem m_fin {S2 : List Nat} {I2 : pm_I} {pc : Nat} (hcell : ∀ r, 1 ≤ r → r ≤ j → ∀ H : Heap, va_at (pm_D G) vwCl (pm_ad G r, pm_c G (if r ∈ S then pm_dy (pm_kd G r) else pm_kd G r) r (I r)) H → va_at (pm_D G) vwCl (pm_ad G r, pm_c G (if r ∈ S2 then pm_dy (pm_kd G r) else pm_kd G r) r (I2 r)) H) (k : pm_R (pm_st G j S2) X nL a b pc ls st I2) : pm_R (pm_st G j S) X nL a b pc ls st I := by
  obtain ⟨p, l, e, R, s, m, args, below, meth, c, Q⟩ := X
  intro H locs la hP hS hL
  refine k H locs la (fun i x hx => ?_) hS hL
  have hl : i < j := by
    have h9 := (List.getElem?_eq_some_iff.mp hx).1
    have : i < (List.range j).length := by simpa [pm_w, pm_st] using h9
    simpa using this
  have h1 : (pm_w (pm_st G j S) I)[i]? = some (pm_ad G (i + 1), pm_c G (if i + 1 ∈ S then pm_dy (pm_kd G (i + 1)) else pm_kd G (i + 1)) (i + 1) (I (i + 1))) := by
    unfold pm_w
    show (List.map _ (List.range j))[i]? = _
    rw [List.getElem?_map, List.getElem?_range hl]
    rfl
  have h2 : (pm_w (pm_st G j S2) I2)[i]? = some (pm_ad G (i + 1), pm_c G (if i + 1 ∈ S2 then pm_dy (pm_kd G (i + 1)) else pm_kd G (i + 1)) (i + 1) (I2 (i + 1))) := by
    unfold pm_w
    show (List.map _ (List.range j))[i]? = _
    rw [List.getElem?_map, List.getElem?_range hl]
    rfl
  rw [hx] at h2
  cases h2
  exact hcell (i + 1) (by omega) (by omega) H (hP i _ h1)
end PMF
/-! ===== the constructors ===== -/
theorem o_X4 {G : pm_G} {N9 q : Nat} {S0 : List Nat} (hlin : pm_lin G N9) (hq1 : 1 ≤ q) (hq : q + 4 ≤ N9) (hS0 : ∀ r ∈ S0, r < q) (hok : pm_ok (pm_st G q (q :: S0))) (hsh : pm_bS G q) : pm_ok (pm_st G (q + 1) (q :: S0)) ∧ pm_ok (pm_st G (q + 2) (q :: S0)) ∧ pm_ok (pm_st G (q + 3) (q :: S0)) ∧ pm_ok (pm_st G (q + 4) (q :: S0)) ∧ pm_ok (pm_st G (q + 4) S0) := by
  have hn : ∀ r, q < r → r ∉ q :: S0 := fun r hr h => (List.mem_cons.mp h).elim (fun e => by omega) (fun h => by have := hS0 r h; omega)
  have hq0 : ∀ r, q ≤ r → r ∉ S0 := fun r hr h => by have := hS0 r h; omega
  obtain ⟨k0, k1, k2, k3, k4⟩ := hsh
  have ok1 := pm_ok_next (S' := q :: S0) hok hlin (by omega) (fun _ _ => Iff.rfl) (by rw [if_neg (hn _ (by omega)), k1]; rfl)
  have ok2 := pm_ok_next (S' := q :: S0) ok1 hlin (by omega) (fun _ _ => Iff.rfl) (by rw [if_neg (hn _ (by omega)), k2]; rfl)
  have ok3 := pm_ok_next (S' := q :: S0) ok2 hlin (by omega) (fun _ _ => Iff.rfl) (by rw [if_neg (hn _ (by omega)), k3]; rfl)
  have ok4 := pm_ok_next (S' := q :: S0) ok3 hlin (by omega) (fun _ _ => Iff.rfl) (by rw [if_neg (hn _ (by omega)), k4]; rfl)
  refine ⟨ok1, ok2, ok3, ok4, pm_ok_done (hq0 q (Nat.le_refl q)) ok4 ?_⟩
  rw [k0]
  exact ⟨pm_k_out (hq0 _ (by omega)) (by omega) (by omega) k1, pm_k_out (hq0 _ (by omega)) (by omega) (by omega) k2, pm_k_out (hq0 _ (by omega)) (by omega) (by omega) k3, pm_k_out (hq0 _ (by omega)) (by omega) (by omega) k4⟩
set_option maxRecDepth 20000 in
theorem c_X4 {G : pm_G} {l : Launch} {N9 q : Nat} {S0 : List Nat} (hlin : pm_lin G N9) (hN : N9 < 2 ^ 20) (hq1 : 1 ≤ q) (hq : q + 4 ≤ N9) (hS0 : ∀ r ∈ S0, r < q) (hok : pm_ok (pm_st G q (q :: S0))) (hsh : pm_bS G q) (I : pm_I) (K : pm_I → Prop) (hK : K (pm_zb I q 5)) : pm_Cc G q (q :: S0) (q + 4) S0 l yX4_init cX4_init 1 2 100 4 96 [.ref q] (pm_nw I q) K := by
  obtain ⟨ok1, ok2, ok3, ok4, ok5⟩ := o_X4 hlin hq1 hq hS0 hok hsh
  have hn : ∀ r, q < r → r ∉ q :: S0 := fun r hr h => (List.mem_cons.mp h).elim (fun e => by omega) (fun h => by have := hS0 r h; omega)
  have hq0 : ∀ r, q ≤ r → r ∉ S0 := fun r hr h => by have := hS0 r h; omega
  obtain ⟨k0, k1, k2, k3, k4⟩ := id hsh
  refine pm_enterC (by decide +kernel) hok rfl (Nat.le_of_ble_eq_true rfl) rfl (fun X hl hsz hnm hC hE => ?_)
  subst hl
  have hC : pm_C (pm_st G q (q :: S0)) X cX4_init 1 RX4 none { frames := 2, cells := 4, slots := 96, locals := 100 } := hC
  have kq : ∀ j, q ≤ j → pm_k (pm_st G j (q :: S0)) q (.inr (8, 4)) := fun j hj => pm_k_in List.mem_cons_self hq1 hj k0
  refine r_aload_n 0 hC dX4_init_0 rfl rfl ?_
  refine m_obj 1 hC tw_254 tw_156 tw_157 (by decide) (by decide) (Nat.le_of_ble_eq_true rfl) dX4_init_1 ?_
  refine r_aload_n 4 hC dX4_init_4 rfl rfl ?_
  refine r_bipush 5 (v := 24) hC dX4_init_5 (by decide) ?_
  refine m_newa 7 (t := 0) (n := 24) hC hlin (by omega) (by omega) k1 (by simp) (hn _ (by omega)) tw_184 (by decide) (by decide) (by decide) ⟨by decide, by decide⟩ dX4_init_7 ?_
  refine m_put 9 (ty := (.array .int)) (v := .ref (q + 1)) (x := nI (q + 1)) (pm_C_st hC ok1) hnm (kq _ (by omega)) rfl pm_in4 pm_ig4 tyX4 tyX4_ok nmX4 13 (by decide) tw_288 rfl (by decide +kernel) rfl rfl (fun _ => rfl) (pd_4_13 (pm_ad G) _ (q + 1) (by omega) (by omega)) dX4_init_9 (fun I2 hI2 => ?_)
  refine r_aload_n 12 (pm_C_st hC ok1) dX4_init_12 rfl rfl ?_
  refine r_bipush 13 (v := 24) (pm_C_st hC ok1) dX4_init_13 (by decide) ?_
  refine m_newa 15 (t := 0) (n := 24) (pm_C_st hC ok1) hlin (by omega) (by omega) k2 (by simp) (hn _ (by omega)) tw_184 (by decide) (by decide) (by decide) ⟨by decide, by decide⟩ dX4_init_15 ?_
  refine m_put 17 (ty := (.array .int)) (v := .ref (q + 2)) (x := nI (q + 2)) (pm_C_st hC ok2) hnm (kq _ (by omega)) rfl pm_in4 pm_ig4 tyX4 tyX4_ok nmX4 14 (by decide) tw_289 rfl (by decide +kernel) rfl rfl (fun _ => rfl) (pd_4_14 (pm_ad G) _ (q + 2) (by omega) (by omega)) dX4_init_17 (fun I4 hI4 => ?_)
  refine r_aload_n 20 (pm_C_st hC ok2) dX4_init_20 rfl rfl ?_
  refine r_bipush 21 (v := 24) (pm_C_st hC ok2) dX4_init_21 (by decide) ?_
  refine m_newa 23 (t := 0) (n := 24) (pm_C_st hC ok2) hlin (by omega) (by omega) k3 (by simp) (hn _ (by omega)) tw_184 (by decide) (by decide) (by decide) ⟨by decide, by decide⟩ dX4_init_23 ?_
  refine m_put 25 (ty := (.array .int)) (v := .ref (q + 3)) (x := nI (q + 3)) (pm_C_st hC ok3) hnm (kq _ (by omega)) rfl pm_in4 pm_ig4 tyX4 tyX4_ok nmX4 15 (by decide) tw_290 rfl (by decide +kernel) rfl rfl (fun _ => rfl) (pd_4_15 (pm_ad G) _ (q + 3) (by omega) (by omega)) dX4_init_25 (fun I6 hI6 => ?_)
  refine r_aload_n 28 (pm_C_st hC ok3) dX4_init_28 rfl rfl ?_
  refine r_bipush 29 (v := 24) (pm_C_st hC ok3) dX4_init_29 (by decide) ?_
  refine m_newa 31 (t := 0) (n := 24) (pm_C_st hC ok3) hlin (by omega) (by omega) k4 (by simp) (hn _ (by omega)) tw_184 (by decide) (by decide) (by decide) ⟨by decide, by decide⟩ dX4_init_31 ?_
  refine m_put 33 (ty := (.array .int)) (v := .ref (q + 4)) (x := nI (q + 4)) (pm_C_st hC ok4) hnm (kq _ (by omega)) rfl pm_in4 pm_ig4 tyX4 tyX4_ok nmX4 16 (by decide) tw_291 rfl (by decide +kernel) rfl rfl (fun _ => rfl) (pd_4_16 (pm_ad G) _ (q + 4) (by omega) (by omega)) dX4_init_33 (fun I8 hI8 => ?_)
  refine m_fin (S2 := S0) (I2 := pm_zb I q 5) (fun r h1 h2 H h => ?_) (m_vret 36 (pm_C_st hC ok5) hE dX4_init_36 hK)
  by_cases hr : r = q
  · subst hr
    rw [if_pos List.mem_cons_self, k0] at h
    rw [if_neg (hq0 r (Nat.le_refl r)), k0]
    have e9 : pm_fd (pm_ad G) 4 (I8 r) = pm_fs (pm_ad G) 4 r (pm_zb I r 5 r) := by
      have z : pm_zb I r 5 r = fun _ => 0 := by unfold pm_zb; rw [if_pos ⟨Nat.le_refl r, by omega⟩]
      have y : I8 r = upd (upd (upd (upd (fun _ => 0) 13 (nI (r + 1))) 14 (nI (r + 2))) 15 (nI (r + 3))) 16 (nI (r + 4)) := by
        subst hI8; subst hI6; subst hI4; subst hI2
        simp [pm_up, pm_nw, Nat.add_assoc]
      rw [z, y]
      show [Value.int 0, .int 0, .int 0, .int 0, .int 0, .int 0, .int 0, .int 0, .int 0, .int 0, .int 0, .int 0, .int 0, pm_rv (pm_ad G) (nI (r + 1)), pm_rv (pm_ad G) (nI (r + 2)), pm_rv (pm_ad G) (nI (r + 3)), pm_rv (pm_ad G) (nI (r + 4))] = _
      rw [pm_rv_nI (by omega) (by omega), pm_rv_nI (by omega) (by omega), pm_rv_nI (by omega) (by omega), pm_rv_nI (by omega) (by omega)]
      rfl
    have h' : va_at (pm_D G) vwCl (pm_ad G r, .inr (4, pm_fd (pm_ad G) 4 (I8 r))) H := h
    rw [e9] at h'
    exact h'
  · have e8 : I8 r = pm_zb I q 5 r := by
      subst hI8; subst hI6; subst hI4; subst hI2
      unfold pm_zb
      by_cases hb : q ≤ r ∧ r < q + 5
      · rw [if_pos hb]
        have : r = q + 1 ∨ r = q + 2 ∨ r = q + 3 ∨ r = q + 4 := by omega
        rcases this with rfl | rfl | rfl | rfl <;> simp [pm_up, pm_nw]
      · rw [if_neg hb]
        have a1 : r ≠ q + 1 := by omega
        have a2 : r ≠ q + 2 := by omega
        have a3 : r ≠ q + 3 := by omega
        have a4 : r ≠ q + 4 := by omega
        simp [pm_up, pm_nw, hr, a1, a2, a3, a4]
    rw [← e8]
    by_cases hs : r ∈ S0
    · rw [if_pos (List.mem_cons_of_mem _ hs)] at h
      rw [if_pos hs]; exact h
    · rw [if_neg (fun z => (List.mem_cons.mp z).elim hr hs)] at h
      rw [if_neg hs]; exact h
theorem o_X3 {G : pm_G} {N9 q : Nat} {S0 : List Nat} (hlin : pm_lin G N9) (hq1 : 1 ≤ q) (hq : q + 2 ≤ N9) (hS0 : ∀ r ∈ S0, r < q) (hok : pm_ok (pm_st G q (q :: S0))) (hsh : pm_bC G q) : pm_ok (pm_st G (q + 1) (q :: S0)) ∧ pm_ok (pm_st G (q + 2) (q :: S0)) ∧ pm_ok (pm_st G (q + 2) S0) := by
  have hn : ∀ r, q < r → r ∉ q :: S0 := fun r hr h => (List.mem_cons.mp h).elim (fun e => by omega) (fun h => by have := hS0 r h; omega)
  have hq0 : ∀ r, q ≤ r → r ∉ S0 := fun r hr h => by have := hS0 r h; omega
  obtain ⟨k0, k1, k2⟩ := hsh
  have ok1 := pm_ok_next (S' := q :: S0) hok hlin (by omega) (fun _ _ => Iff.rfl) (by rw [if_neg (hn _ (by omega)), k1]; rfl)
  have ok2 := pm_ok_next (S' := q :: S0) ok1 hlin (by omega) (fun _ _ => Iff.rfl) (by rw [if_neg (hn _ (by omega)), k2]; rfl)
  refine ⟨ok1, ok2, pm_ok_done (hq0 q (Nat.le_refl q)) ok2 ?_⟩
  rw [k0]
  exact ⟨pm_k_out (hq0 _ (by omega)) (by omega) (by omega) k1, pm_k_out (hq0 _ (by omega)) (by omega) (by omega) k2⟩
set_option maxRecDepth 20000 in
theorem c_X3 {G : pm_G} {l : Launch} {N9 q : Nat} {S0 : List Nat} (hlin : pm_lin G N9) (hN : N9 < 2 ^ 20) (hq1 : 1 ≤ q) (hq : q + 2 ≤ N9) (hS0 : ∀ r ∈ S0, r < q) (hok : pm_ok (pm_st G q (q :: S0))) (hsh : pm_bC G q) (I : pm_I) (K : pm_I → Prop) (hK : K (pm_zb I q 3)) : pm_Cc G q (q :: S0) (q + 2) S0 l yX3_init cX3_init 1 2 100 2 616 [.ref q] (pm_nw I q) K := by
  obtain ⟨ok1, ok2, ok5⟩ := o_X3 hlin hq1 hq hS0 hok hsh
  have hn : ∀ r, q < r → r ∉ q :: S0 := fun r hr h => (List.mem_cons.mp h).elim (fun e => by omega) (fun h => by have := hS0 r h; omega)
  have hq0 : ∀ r, q ≤ r → r ∉ S0 := fun r hr h => by have := hS0 r h; omega
  obtain ⟨k0, k1, k2⟩ := id hsh
  refine pm_enterC (by decide +kernel) hok rfl (Nat.le_of_ble_eq_true rfl) rfl (fun X hl hsz hnm hC hE => ?_)
  subst hl
  have hC : pm_C (pm_st G q (q :: S0)) X cX3_init 1 RX3 none { frames := 2, cells := 2, slots := 616, locals := 100 } := hC
  have kq : ∀ j, q ≤ j → pm_k (pm_st G j (q :: S0)) q (.inr (8, 3)) := fun j hj => pm_k_in List.mem_cons_self hq1 hj k0
  refine r_aload_n 0 hC dX3_init_0 rfl rfl ?_
  refine m_obj 1 hC tw_169 tw_156 tw_157 (by decide) (by decide) (Nat.le_of_ble_eq_true rfl) dX3_init_1 ?_
  refine r_aload_n 4 hC dX3_init_4 rfl rfl ?_
  refine r_sipush 5 (v := 600) hC dX3_init_5 (by decide) ?_
  refine m_newa 8 (t := 0) (n := 600) hC hlin (by omega) (by omega) k1 (by simp) (hn _ (by omega)) tw_184 (by decide) (by decide) (by decide) ⟨by decide, by decide⟩ dX3_init_8 ?_
  refine m_put 10 (ty := (.array .int)) (v := .ref (q + 1)) (x := nI (q + 1)) (pm_C_st hC ok1) hnm (kq _ (by omega)) rfl pm_in3 pm_ig3 tyX3 tyX3_ok nmX3 0 (by decide) tw_170 rfl (by decide +kernel) rfl rfl (fun _ => rfl) (pd_3_0 (pm_ad G) _ (q + 1) (by omega) (by omega)) dX3_init_10 (fun I2 hI2 => ?_)
  refine r_aload_n 13 (pm_C_st hC ok1) dX3_init_13 rfl rfl ?_
  refine r_bipush 14 (v := 16) (pm_C_st hC ok1) dX3_init_14 (by decide) ?_
  refine m_newa 16 (t := 0) (n := 16) (pm_C_st hC ok1) hlin (by omega) (by omega) k2 (by simp) (hn _ (by omega)) tw_184 (by decide) (by decide) (by decide) ⟨by decide, by decide⟩ dX3_init_16 ?_
  refine m_put 18 (ty := (.array .int)) (v := .ref (q + 2)) (x := nI (q + 2)) (pm_C_st hC ok2) hnm (kq _ (by omega)) rfl pm_in3 pm_ig3 tyX3 tyX3_ok nmX3 2 (by decide) tw_172 rfl (by decide +kernel) rfl rfl (fun _ => rfl) (pd_3_2 (pm_ad G) _ (q + 2) (by omega) (by omega)) dX3_init_18 (fun I4 hI4 => ?_)
  refine m_fin (S2 := S0) (I2 := pm_zb I q 3) (fun r h1 h2 H h => ?_) (m_vret 21 (pm_C_st hC ok5) hE dX3_init_21 hK)
  by_cases hr : r = q
  · subst hr
    rw [if_pos List.mem_cons_self, k0] at h
    rw [if_neg (hq0 r (Nat.le_refl r)), k0]
    have e9 : pm_fd (pm_ad G) 3 (I4 r) = pm_fs (pm_ad G) 3 r (pm_zb I r 3 r) := by
      have z : pm_zb I r 3 r = fun _ => 0 := by unfold pm_zb; rw [if_pos ⟨Nat.le_refl r, by omega⟩]
      have y : I4 r = upd (upd (fun _ => 0) 0 (nI (r + 1))) 2 (nI (r + 2)) := by
        subst hI4; subst hI2
        simp [pm_up, pm_nw, Nat.add_assoc]
      rw [z, y]
      show [pm_rv (pm_ad G) (nI (r + 1)), .int 0, pm_rv (pm_ad G) (nI (r + 2)), .int 0] = _
      rw [pm_rv_nI (by omega) (by omega), pm_rv_nI (by omega) (by omega)]
      rfl
    have h' : va_at (pm_D G) vwCl (pm_ad G r, .inr (3, pm_fd (pm_ad G) 3 (I4 r))) H := h
    rw [e9] at h'
    exact h'
  · have e8 : I4 r = pm_zb I q 3 r := by
      subst hI4; subst hI2
      unfold pm_zb
      by_cases hb : q ≤ r ∧ r < q + 3
      · rw [if_pos hb]
        have : r = q + 1 ∨ r = q + 2 := by omega
        rcases this with rfl | rfl <;> simp [pm_up, pm_nw]
      · rw [if_neg hb]
        have a1 : r ≠ q + 1 := by omega
        have a2 : r ≠ q + 2 := by omega
        simp [pm_up, pm_nw, hr, a1, a2]
    rw [← e8]
    by_cases hs : r ∈ S0
    · rw [if_pos (List.mem_cons_of_mem _ hs)] at h
      rw [if_pos hs]; exact h
    · rw [if_neg (fun z => (List.mem_cons.mp z).elim hr hs)] at h
      rw [if_neg hs]; exact h
theorem o_X1 {G : pm_G} {N9 q : Nat} {S0 : List Nat} (hlin : pm_lin G N9) (hq1 : 1 ≤ q) (hq : q + 7 ≤ N9) (hS0 : ∀ r ∈ S0, r < q) (hok : pm_ok (pm_st G q (q :: S0))) (hsh : pm_bP G q) : pm_ok (pm_st G (q + 1) (q :: S0)) ∧ pm_ok (pm_st G (q + 2) (q :: S0)) ∧ pm_ok (pm_st G (q + 3) (q :: S0)) ∧ pm_ok (pm_st G (q + 4) (q :: S0)) ∧ pm_ok (pm_st G (q + 5) ((q + 5) :: q :: S0)) ∧ pm_ok (pm_st G (q + 7) (q :: S0)) ∧ pm_ok (pm_st G (q + 7) S0) := by
  have hn : ∀ r, q < r → r ∉ q :: S0 := fun r hr h => (List.mem_cons.mp h).elim (fun e => by omega) (fun h => by have := hS0 r h; omega)
  have hq0 : ∀ r, q ≤ r → r ∉ S0 := fun r hr h => by have := hS0 r h; omega
  obtain ⟨k0, k1, k2, k3, k4, hsc⟩ := hsh
  have ok1 := pm_ok_next (S' := q :: S0) hok hlin (by omega) (fun _ _ => Iff.rfl) (by rw [if_neg (hn _ (by omega)), k1]; rfl)
  have ok2 := pm_ok_next (S' := q :: S0) ok1 hlin (by omega) (fun _ _ => Iff.rfl) (by rw [if_neg (hn _ (by omega)), k2]; rfl)
  have ok3 := pm_ok_next (S' := q :: S0) ok2 hlin (by omega) (fun _ _ => Iff.rfl) (by rw [if_neg (hn _ (by omega)), k3]; rfl)
  have ok4 := pm_ok_next (S' := q :: S0) ok3 hlin (by omega) (fun _ _ => Iff.rfl) (by rw [if_neg (hn _ (by omega)), k4]; rfl)
  have ok5 : pm_ok (pm_st G (q + 5) ((q + 5) :: q :: S0)) := pm_ok_next (S' := (q + 5) :: q :: S0) ok4 hlin (by omega) (fun r hr => ⟨fun h => (List.mem_cons.mp h).elim (fun e => by omega) id, fun h => List.mem_cons_of_mem _ h⟩) (by rw [if_pos List.mem_cons_self, hsc.1]; rfl)
  have ok6 := (o_X3 (q := q + 5) (S0 := q :: S0) hlin (by omega) (by omega) (fun r hr => (List.mem_cons.mp hr).elim (fun e => by omega) (fun h => by have := hS0 r h; omega)) ok5 hsc).2.2
  refine ⟨ok1, ok2, ok3, ok4, ok5, ok6, pm_ok_done (hq0 q (Nat.le_refl q)) ok6 ?_⟩
  rw [k0]
  exact ⟨pm_k_out (hq0 _ (by omega)) (by omega) (by omega) k1, pm_k_out (hq0 _ (by omega)) (by omega) (by omega) k2, pm_k_out (hq0 _ (by omega)) (by omega) (by omega) k3, pm_k_out (hq0 _ (by omega)) (by omega) (by omega) k4, pm_k_out (hq0 _ (by omega)) (by omega) (by omega) hsc.1⟩
set_option maxRecDepth 20000 in
theorem c_X1 {G : pm_G} {l : Launch} {N9 q : Nat} {S0 : List Nat} (hlin : pm_lin G N9) (hN : N9 < 2 ^ 20) (hq1 : 1 ≤ q) (hq : q + 7 ≤ N9) (hS0 : ∀ r ∈ S0, r < q) (hok : pm_ok (pm_st G q (q :: S0))) (hsh : pm_bP G q) (I : pm_I) (K : pm_I → Prop) (h : wX1_clear (pm_st G (q + 7) S0) q (pm_zb I q 8) K) : pm_Cc G q (q :: S0) (q + 7) S0 l yX1_init cX1_init 1 4 433 7 708 [.ref q] (pm_nw I q) K := by
  obtain ⟨ok1, ok2, ok3, ok4, ok5, ok6, ok7⟩ := o_X1 hlin hq1 hq hS0 hok hsh
  have hn : ∀ r, q < r → r ∉ q :: S0 := fun r hr h => (List.mem_cons.mp h).elim (fun e => by omega) (fun h => by have := hS0 r h; omega)
  have hq0 : ∀ r, q ≤ r → r ∉ S0 := fun r hr h => by have := hS0 r h; omega
  obtain ⟨k0, k1, k2, k3, k4, hsc⟩ := id hsh
  refine pm_enterC (by decide +kernel) hok rfl (Nat.le_of_ble_eq_true rfl) rfl (fun X hl hsz hnm hC hE => ?_)
  subst hl
  have hC : pm_C (pm_st G q (q :: S0)) X cX1_init 1 RX1 none { frames := 4, cells := 7, slots := 708, locals := 433 } := hC
  have kq : ∀ j, q ≤ j → pm_k (pm_st G j (q :: S0)) q (.inr (8, 1)) := fun j hj => pm_k_in List.mem_cons_self hq1 hj k0
  have kS : pm_k (pm_st G (q + 7) S0) q (.inl 1) := pm_k_out (hq0 q (Nat.le_refl q)) hq1 (by omega) k0
  refine r_aload_n 0 hC dX1_init_0 rfl rfl ?_
  refine m_obj 1 hC tw_163 tw_156 tw_157 (by decide) (by decide) (Nat.le_of_ble_eq_true rfl) dX1_init_1 ?_
  refine r_aload_n 4 hC dX1_init_4 rfl rfl ?_
  refine r_bipush 5 (v := 8) hC dX1_init_5 (by decide) ?_
  refine m_newa 7 (t := 0) (n := 8) hC hlin (by omega) (by omega) k1 (by simp) (hn _ (by omega)) tw_184 (by decide) (by decide) (by decide) ⟨by decide, by decide⟩ dX1_init_7 ?_
  refine m_put 9 (ty := (.array .int)) (v := .ref (q + 1)) (x := nI (q + 1)) (pm_C_st hC ok1) hnm (kq _ (by omega)) rfl pm_in1 pm_ig1 tyX1 tyX1_ok nmX1 1 (by decide) tw_205 rfl (by decide +kernel) rfl rfl (fun _ => rfl) (pd_1_1 (pm_ad G) _ (q + 1) (by omega) (by omega)) dX1_init_9 (fun I2 hI2 => ?_)
  refine r_aload_n 12 (pm_C_st hC ok1) dX1_init_12 rfl rfl ?_
  refine r_bipush 13 (v := 8) (pm_C_st hC ok1) dX1_init_13 (by decide) ?_
  refine m_newa 15 (t := 0) (n := 8) (pm_C_st hC ok1) hlin (by omega) (by omega) k2 (by simp) (hn _ (by omega)) tw_184 (by decide) (by decide) (by decide) ⟨by decide, by decide⟩ dX1_init_15 ?_
  refine m_put 17 (ty := (.array .int)) (v := .ref (q + 2)) (x := nI (q + 2)) (pm_C_st hC ok2) hnm (kq _ (by omega)) rfl pm_in1 pm_ig1 tyX1 tyX1_ok nmX1 2 (by decide) tw_207 rfl (by decide +kernel) rfl rfl (fun _ => rfl) (pd_1_2 (pm_ad G) _ (q + 2) (by omega) (by omega)) dX1_init_17 (fun I4 hI4 => ?_)
  refine r_aload_n 20 (pm_C_st hC ok2) dX1_init_20 rfl rfl ?_
  refine r_bipush 21 (v := 64) (pm_C_st hC ok2) dX1_init_21 (by decide) ?_
  refine m_newa 23 (t := 0) (n := 64) (pm_C_st hC ok2) hlin (by omega) (by omega) k3 (by simp) (hn _ (by omega)) tw_184 (by decide) (by decide) (by decide) ⟨by decide, by decide⟩ dX1_init_23 ?_
  refine m_put 25 (ty := (.array .int)) (v := .ref (q + 3)) (x := nI (q + 3)) (pm_C_st hC ok3) hnm (kq _ (by omega)) rfl pm_in1 pm_ig1 tyX1 tyX1_ok nmX1 3 (by decide) tw_208 rfl (by decide +kernel) rfl rfl (fun _ => rfl) (pd_1_3 (pm_ad G) _ (q + 3) (by omega) (by omega)) dX1_init_25 (fun I6 hI6 => ?_)
  refine r_aload_n 28 (pm_C_st hC ok3) dX1_init_28 rfl rfl ?_
  refine r_bipush 29 (v := 8) (pm_C_st hC ok3) dX1_init_29 (by decide) ?_
  refine m_newa 31 (t := 0) (n := 8) (pm_C_st hC ok3) hlin (by omega) (by omega) k4 (by simp) (hn _ (by omega)) tw_184 (by decide) (by decide) (by decide) ⟨by decide, by decide⟩ dX1_init_31 ?_
  refine m_put 33 (ty := (.array .int)) (v := .ref (q + 4)) (x := nI (q + 4)) (pm_C_st hC ok4) hnm (kq _ (by omega)) rfl pm_in1 pm_ig1 tyX1 tyX1_ok nmX1 4 (by decide) tw_209 rfl (by decide +kernel) rfl rfl (fun _ => rfl) (pd_1_4 (pm_ad G) _ (q + 4) (by omega) (by omega)) dX1_init_33 (fun I8 hI8 => ?_)
  refine r_aload_n 36 (pm_C_st hC ok4) dX1_init_36 rfl rfl ?_
  refine m_new 37 (pm_C_st hC ok4) hlin (by omega) (by omega) hsc.1 rfl pm_in3 pm_ig3 tyX3 tyX3_ok tw_164 tw_165 tw_131 pf_3 ⟨by decide, by decide⟩ dX1_init_37 ?_
  refine r_dup 40 (pm_C_st hC ok5) dX1_init_40 rfl ?_
  refine m_callN 41 (n := 0) (mc := 2) (ms := 616) (j' := q + 7) (S' := q :: S0) (st := [.ref (q + 5), .ref q]) (K := fun I9 => I9 = pm_zb I8 (q + 5) 3) [] (pm_C_st hC ok5) hlin (by omega) (by omega) dX1_init_41 (by decide) (by decide) tw_168 tw_131 ⟨by decide, by decide, by decide +kernel⟩ tw_166 tw_167 rfl rfl rfl (c_X3 (q := q + 5) (S0 := q :: S0) hlin hN (by omega) (by omega) (fun r hr => (List.mem_cons.mp hr).elim (fun e => by omega) (fun h => by have := hS0 r h; omega)) ok5 hsc I8 _ rfl) ⟨by decide, by decide⟩ (Nat.le_of_ble_eq_true rfl) (fun I9 hI9 => ?_)
  refine m_put 44 (ty := (.object "PeerOverlay$Score")) (v := .ref (q + 5)) (x := nI (q + 5)) (pm_C_st hC ok6) hnm (kq _ (by omega)) rfl pm_in1 pm_ig1 tyX1 tyX1_ok nmX1 5 (by decide) tw_211 rfl (by decide +kernel) rfl rfl (fun _ => rfl) (pd_1_5 (pm_ad G) _ (q + 5) (by omega) (by omega)) dX1_init_44 (fun I10 hI10 => ?_)
  have hgo : pm_R (pm_st G (q + 7) S0) X 1 7 708 47 [some (.ref q)] [] (pm_zb I q 8) := by
    refine r_aload_n 47 (pm_C_st hC ok7) dX1_init_47 rfl rfl ?_
    refine r_callV_v 48 (n := 0) [] [] (pm_C_st hC ok7) kS rfl dX1_init_48 (by decide) (by decide) tw_188 tw_130 ⟨by decide, by decide, by decide +kernel⟩ tw_185 tw_187 tw_0 rfl rfl (sX1_clear (l := pm_l X) ok7 q _ _ kS h) ⟨by decide, by decide⟩ (Nat.le_of_ble_eq_true rfl) ?_
    intro I11 h11
    exact m_vret 51 (pm_C_st hC ok7) hE dX1_init_51 h11
  refine m_fin (S2 := S0) (I2 := pm_zb I q 8) (fun r h1 h2 H h => ?_) hgo
  by_cases hr : r = q
  · subst hr
    rw [if_pos List.mem_cons_self, k0] at h
    rw [if_neg (hq0 r (Nat.le_refl r)), k0]
    have e9 : pm_fd (pm_ad G) 1 (I10 r) = pm_fs (pm_ad G) 1 r (pm_zb I r 8 r) := by
      have z : pm_zb I r 8 r = fun _ => 0 := by unfold pm_zb; rw [if_pos ⟨Nat.le_refl r, by omega⟩]
      have y : I10 r = upd (upd (upd (upd (upd (fun _ => 0) 1 (nI (r + 1))) 2 (nI (r + 2))) 3 (nI (r + 3))) 4 (nI (r + 4))) 5 (nI (r + 5)) := by
        subst hI10; subst hI9; subst hI8; subst hI6; subst hI4; subst hI2
        simp [pm_up, pm_nw, pm_zb, Nat.add_assoc, show ¬ (r + 5 ≤ r) by omega]
      rw [z, y]
      show [Value.int 0, pm_rv (pm_ad G) (nI (r + 1)), pm_rv (pm_ad G) (nI (r + 2)), pm_rv (pm_ad G) (nI (r + 3)), pm_rv (pm_ad G) (nI (r + 4)), pm_rv (pm_ad G) (nI (r + 5)), .int 0, .int 0, .int 0] = _
      rw [pm_rv_nI (by omega) (by omega), pm_rv_nI (by omega) (by omega), pm_rv_nI (by omega) (by omega), pm_rv_nI (by omega) (by omega), pm_rv_nI (by omega) (by omega)]
      rfl
    have h' : va_at (pm_D G) vwCl (pm_ad G r, .inr (1, pm_fd (pm_ad G) 1 (I10 r))) H := h
    rw [e9] at h'
    exact h'
  · have e8 : I10 r = pm_zb I q 8 r := by
      subst hI10; subst hI9; subst hI8; subst hI6; subst hI4; subst hI2
      by_cases hb : q ≤ r ∧ r < q + 8
      · have : r = q + 1 ∨ r = q + 2 ∨ r = q + 3 ∨ r = q + 4 ∨ r = q + 5 ∨ r = q + 6 ∨ r = q + 7 := by omega
        rcases this with rfl | rfl | rfl | rfl | rfl | rfl | rfl <;> simp [pm_up, pm_nw, pm_zb, Nat.add_assoc]
      · have a1 : r ≠ q + 1 := by omega
        have a2 : r ≠ q + 2 := by omega
        have a3 : r ≠ q + 3 := by omega
        have a4 : r ≠ q + 4 := by omega
        have a5 : r ≠ q + 5 := by omega
        have a6 : ¬ (q + 5 ≤ r ∧ r < q + 5 + 3) := by omega
        unfold pm_zb
        rw [if_neg hb]
        simp only [pm_up, pm_nw, if_neg hr, if_neg a6]
        simp [hr, a1, a2, a3, a4]
    rw [← e8]
    by_cases hs : r ∈ S0
    · rw [if_pos (List.mem_cons_of_mem _ hs)] at h
      rw [if_pos hs]; exact h
    · rw [if_neg (fun z => (List.mem_cons.mp z).elim hr hs)] at h
      rw [if_neg hs]; exact h
/-- Situation: after i sessions the stage is ok -/
theorem o_X5 {G : pm_G} {N9 q : Nat} {S0 : List Nat} (hlin : pm_lin G N9) (hq1 : 1 ≤ q) (hq : q + 33 ≤ N9) (hS0 : ∀ r ∈ S0, r < q) (hok : pm_ok (pm_st G q (q :: S0))) (hsh : pm_bT G q) : pm_ok (pm_st G (q + 1) (q :: S0)) ∧ pm_ok (pm_st G (q + 2) (q :: S0)) ∧ (∀ i, i ≤ 6 → pm_ok (pm_st G (q + 3 + 5 * i) ((q + 3) :: q :: S0))) ∧ (∀ i, i < 6 → pm_ok (pm_st G (q + 3 + 5 * i + 1) ((q + 3 + 5 * i + 1) :: (q + 3) :: q :: S0))) ∧ pm_ok (pm_st G (q + 33) S0) := by
  have hn : ∀ r, q < r → r ∉ q :: S0 := fun r hr h => (List.mem_cons.mp h).elim (fun e => by omega) (fun h => by have := hS0 r h; omega)
  have hq0 : ∀ r, q ≤ r → r ∉ S0 := fun r hr h => by have := hS0 r h; omega
  obtain ⟨k0, k1, k2, k3, hses⟩ := hsh
  have ok1 := pm_ok_next (S' := q :: S0) hok hlin (by omega) (fun _ _ => Iff.rfl) (by rw [if_neg (hn _ (by omega)), k1]; rfl)
  have ok2 := pm_ok_next (S' := q :: S0) ok1 hlin (by omega) (fun _ _ => Iff.rfl) (by rw [if_neg (hn _ (by omega)), k2]; rfl)
  have ok3 : pm_ok (pm_st G (q + 3) ((q + 3) :: q :: S0)) := pm_ok_next (S' := (q + 3) :: q :: S0) ok2 hlin (by omega) (fun r hr => ⟨fun h => (List.mem_cons.mp h).elim (fun e => by omega) id, fun h => List.mem_cons_of_mem _ h⟩) (by rw [if_pos List.mem_cons_self, k3]; rfl)
  have hS3 : ∀ j, q + 3 ≤ j → ∀ r ∈ (q + 3) :: q :: S0, r < j + 1 := fun j hj r hr => by
    rcases List.mem_cons.mp hr with rfl | hr
    · omega
    · rcases List.mem_cons.mp hr with rfl | hr
      · omega
      · have := hS0 r hr; omega
  have nx : ∀ i, i < 6 → pm_ok (pm_st G (q + 3 + 5 * i) ((q + 3) :: q :: S0)) → pm_ok (pm_st G (q + 3 + 5 * i + 1) ((q + 3 + 5 * i + 1) :: (q + 3) :: q :: S0)) := fun i hi h => pm_ok_next (S' := (q + 3 + 5 * i + 1) :: (q + 3) :: q :: S0) h hlin (by omega) (fun r hr => ⟨fun h => (List.mem_cons.mp h).elim (fun e => by omega) id, fun h => List.mem_cons_of_mem _ h⟩) (by rw [if_pos List.mem_cons_self, show q + 3 + 5 * i + 1 = q + 4 + 5 * i by omega, (hses i hi).1]; rfl)
  have hL : ∀ i, i ≤ 6 → pm_ok (pm_st G (q + 3 + 5 * i) ((q + 3) :: q :: S0)) := by
    intro i
    induction i with
    | zero => intro _; exact ok3
    | succ i ih =>
      intro hi
      have h := (o_X4 (q := q + 3 + 5 * i + 1) (S0 := (q + 3) :: q :: S0) hlin (by omega) (by omega) (hS3 _ (by omega)) (nx i (by omega) (ih (by omega))) (by rw [show q + 3 + 5 * i + 1 = q + 4 + 5 * i by omega]; exact hses i (by omega))).2.2.2.2
      rw [show q + 3 + 5 * (i + 1) = q + 3 + 5 * i + 1 + 4 by omega]
      exact h
  have ok6 : pm_ok (pm_st G (q + 33) ((q + 3) :: q :: S0)) := hL 6 (Nat.le_refl 6)
  have hn3 : q + 3 ∉ q :: S0 := hn _ (by omega)
  have ok7 : pm_ok (pm_st G (q + 33) (q :: S0)) := pm_ok_done hn3 ok6 (by
    rw [k3]
    intro j hj
    exact pm_k_out (hn _ (by omega)) (by omega) (by omega) (by rw [show q + 3 + 1 + 5 * j = q + 4 + 5 * j by omega]; exact (hses j hj).1))
  refine ⟨ok1, ok2, hL, fun i hi => nx i hi (hL i (by omega)), pm_ok_done (hq0 q (Nat.le_refl q)) ok7 ?_⟩
  rw [k0]
  exact ⟨pm_k_out (hq0 _ (by omega)) (by omega) (by omega) k1, pm_k_out (hq0 _ (by omega)) (by omega) (by omega) k2, pm_k_out (hq0 _ (by omega)) (by omega) (by omega) k3⟩
def pm_J5 (I : pm_I) (q i : Nat) : pm_I := fun r => if r = q then upd (upd (upd (fun _ => 0) 1 (nI (q + 1))) 2 (nI (q + 2))) 3 (nI (q + 3)) else if r = q + 3 then (fun p => if p < i then nI (q + 4 + 5 * p) else 0) else if q ≤ r ∧ r < q + 4 + 5 * i then (fun _ => 0) else I r
theorem pm_J5_step (I : pm_I) (q i : Nat) : pm_up (pm_zb (pm_J5 I q i) (q + 3 + 5 * i + 1) 5) (q + 3) i (nI (q + 3 + 5 * i + 1)) = pm_J5 I q (i + 1) := by
  funext r
  have hb3 : ¬ (q + 3 + 5 * i + 1 ≤ q + 3 ∧ q + 3 < q + 3 + 5 * i + 1 + 5) := by omega
  by_cases h3 : r = q + 3
  · subst h3
    unfold pm_up
    rw [if_pos rfl]
    unfold pm_zb
    rw [if_neg hb3]
    have eJ : ∀ m, pm_J5 I q m (q + 3) = fun p => if p < m then nI (q + 4 + 5 * p) else 0 := fun m => by unfold pm_J5; rw [if_neg (by omega), if_pos rfl]
    rw [eJ, eJ]
    funext p
    unfold upd
    by_cases hp : p = i
    · subst hp
      rw [if_pos rfl, if_pos (by omega), show q + 3 + 5 * p + 1 = q + 4 + 5 * p by omega]
    · rw [if_neg hp]
      show (if p < i then nI (q + 4 + 5 * p) else 0) = _
      by_cases hlt : p < i
      · rw [if_pos hlt, if_pos (by omega)]
      · rw [if_neg hlt, if_neg (by omega)]
  · unfold pm_up
    rw [if_neg h3]
    unfold pm_zb pm_J5
    by_cases hq : r = q
    · rw [if_neg (by omega), if_pos hq, if_pos hq]
    · rw [if_neg hq, if_neg h3, if_neg hq, if_neg h3]
      by_cases hb : q + 3 + 5 * i + 1 ≤ r ∧ r < q + 3 + 5 * i + 1 + 5
      · rw [if_pos hb, if_pos (by omega)]
      · rw [if_neg hb]
        by_cases hc : q ≤ r ∧ r < q + 4 + 5 * i
        · rw [if_pos hc, if_pos (by omega)]
        · rw [if_neg hc, if_neg (by omega)]
set_option maxRecDepth 20000 in
theorem c_X5 {G : pm_G} {l : Launch} {N9 q : Nat} {S0 : List Nat} (hlin : pm_lin G N9) (hN : N9 < 2 ^ 20) (hq1 : 1 ≤ q) (hq : q + 33 ≤ N9) (hS0 : ∀ r ∈ S0, r < q) (hok : pm_ok (pm_st G q (q :: S0))) (hsh : pm_bT G q) (hmk : pm_mk G) (I : pm_I) (K : pm_I → Prop) (hK : K (pm_zb I q 34)) : pm_Cc G q (q :: S0) (q + 33) S0 l yX5_init cX5_init 2 3 240 33 700 [.ref q] (pm_nw I q) K := by
  obtain ⟨ok1, ok2, okL, okN, ok9⟩ := o_X5 hlin hq1 hq hS0 hok hsh
  have hn : ∀ r, q < r → r ∉ q :: S0 := fun r hr h => (List.mem_cons.mp h).elim (fun e => by omega) (fun h => by have := hS0 r h; omega)
  have hq0 : ∀ r, q ≤ r → r ∉ S0 := fun r hr h => by have := hS0 r h; omega
  obtain ⟨k0, k1, k2, k3, hses⟩ := id hsh
  refine pm_enterC (by decide +kernel) hok rfl (Nat.le_of_ble_eq_true rfl) rfl (fun X hl hsz hnm hC hE => ?_)
  subst hl
  have hC : pm_C (pm_st G q (q :: S0)) X cX5_init 2 RX5 none { frames := 3, cells := 33, slots := 700, locals := 240 } := hC
  have kq : ∀ j, q ≤ j → pm_k (pm_st G j (q :: S0)) q (.inr (8, 5)) := fun j hj => pm_k_in List.mem_cons_self hq1 hj k0
  have kq2 : ∀ j, q + 3 ≤ j → pm_k (pm_st G j ((q + 3) :: q :: S0)) q (.inr (8, 5)) := fun j hj => pm_k_in (List.mem_cons_of_mem _ List.mem_cons_self) hq1 (by omega) k0
  have ka : ∀ j, q + 3 ≤ j → pm_k (pm_st G j ((q + 3) :: q :: S0)) (q + 3) (.inr (6, 6)) := fun j hj => pm_k_in (k := .inr (4, 6)) List.mem_cons_self (by omega) hj k3
  have hS3 : ∀ j, q + 3 ≤ j → ∀ r ∈ (q + 3) :: q :: S0, r < j + 1 := fun j hj r hr => by
    rcases List.mem_cons.mp hr with rfl | hr
    · omega
    · rcases List.mem_cons.mp hr with rfl | hr
      · omega
      · have := hS0 r hr; omega
  have loop : ∀ n i, i + n = 6 → pm_R (pm_st G (q + 3 + 5 * i) ((q + 3) :: q :: S0)) X 2 (3 + 5 * i) (22 + 113 * i) 31 [some (.ref q), some (.int (nI i))] [] (pm_J5 I q i) := by
    intro n
    induction n with
    | zero =>
      intro i hi
      have hi6 : i = 6 := by omega
      subst hi6
      have hC' := pm_C_st hC (okL 6 (Nat.le_refl 6))
      refine r_iload_n 31 hC' dX5_init_31 rfl rfl ?_
      refine r_bipush 32 (v := 6) hC' dX5_init_32 (by decide) ?_
      refine r_icmp_ge 34 56 hC' dX5_init_34 (by decide) (fun _ => ?_) (fun hc => absurd (by decide) hc)
      refine m_fin (j := q + 33) (S2 := S0) (I2 := pm_zb I q 34) (fun r h1 h2 H h => ?_) (m_vret 56 (pm_C_st hC ok9) hE dX5_init_56 hK)
      by_cases hr : r = q
      · subst hr
        rw [if_pos (List.mem_cons_of_mem _ List.mem_cons_self), k0] at h
        rw [if_neg (hq0 r (Nat.le_refl r)), k0]
        have e9 : pm_fd (pm_ad G) 5 (pm_J5 I r 6 r) = pm_fs (pm_ad G) 5 r (pm_zb I r 34 r) := by
          have z : pm_zb I r 34 r = fun _ => 0 := by unfold pm_zb; rw [if_pos ⟨Nat.le_refl r, by omega⟩]
          have y : pm_J5 I r 6 r = upd (upd (upd (fun _ => 0) 1 (nI (r + 1))) 2 (nI (r + 2))) 3 (nI (r + 3)) := by unfold pm_J5; rw [if_pos rfl]
          rw [z, y]
          show [Value.int 0, pm_rv (pm_ad G) (nI (r + 1)), pm_rv (pm_ad G) (nI (r + 2)), pm_rv (pm_ad G) (nI (r + 3))] = _
          rw [pm_rv_nI (by omega) (by omega), pm_rv_nI (by omega) (by omega), pm_rv_nI (by omega) (by omega)]
          rfl
        have h' : va_at (pm_D G) vwCl (pm_ad G r, .inr (5, pm_fd (pm_ad G) 5 (pm_J5 I r 6 r))) H := h
        rw [e9] at h'
        exact h'
      · by_cases hr3 : r = q + 3
        · subst hr3
          rw [if_pos List.mem_cons_self, k3] at h
          rw [if_neg (hq0 _ (by omega)), k3]
          have h1' : H[pm_ad G (q + 3)]? = some (vp_cell (pm_ca G 4) (6, .inr (.inr (.inr (.inr (fun y => pm_ro (pm_ad G) (pm_J5 I q 6 (q + 3) y))))))) := h
          show H[pm_ad G (q + 3)]? = some (vp_cell (pm_ca G 4) (6, .inr (.inr (.inr (.inr (fun y => some (pm_ad G (q + 3 + 1 + 5 * y))))))))
          rw [h1']
          congr 1
          refine pm_arrq (fun y hy => ?_)
          unfold pm_J5
          rw [if_neg (by omega), if_pos rfl]
          show pm_ro (pm_ad G) (if y < 6 then nI (q + 4 + 5 * y) else 0) = _
          rw [if_pos hy, pm_ro_nI (by omega) (by omega), show q + 4 + 5 * y = q + 3 + 1 + 5 * y by omega]
        · have e8 : pm_J5 I q 6 r = pm_zb I q 34 r := by
            unfold pm_J5 pm_zb
            rw [if_neg hr, if_neg hr3]
          rw [← e8]
          by_cases hs : r ∈ S0
          · rw [if_pos (List.mem_cons_of_mem _ (List.mem_cons_of_mem _ hs))] at h
            rw [if_pos hs]; exact h
          · rw [if_neg (fun z => (List.mem_cons.mp z).elim hr3 (fun z => (List.mem_cons.mp z).elim hr hs))] at h
            rw [if_neg hs]; exact h
    | succ n ih =>
      intro i hi
      have hC' := pm_C_st hC (okL i (by omega))
      have hC1 := pm_C_st hC (okN i (by omega))
      have hC2 := pm_C_st hC (okL (i + 1) (by omega))
      have hlt : ¬ (6 : Int32) ≤ nI i := nI_ge (a := i) (b := 6) (by omega) (by decide)
      have hqs : pm_bS G (q + 3 + 5 * i + 1) := by rw [show q + 3 + 5 * i + 1 = q + 4 + 5 * i by omega]; exact hses i (by omega)
      have es : q + 3 + 5 * i + 1 + 4 = q + 3 + 5 * (i + 1) := by omega
      refine r_iload_n 31 hC' dX5_init_31 rfl rfl ?_
      refine r_bipush 32 (v := 6) hC' dX5_init_32 (by decide) ?_
      refine r_icmp_ge 34 56 hC' dX5_init_34 (by decide) (fun hc => absurd hc hlt) (fun _ => ?_)
      refine r_aload_n 37 hC' dX5_init_37 rfl rfl ?_
      refine m_get 38 (r1 := q + 3) hC' (kq2 _ (by omega)) rfl pm_in5 pm_ig5 3 (by decide) tw_332 rfl rfl (by unfold pm_J5; rw [if_pos rfl]; rfl) (by omega) (by omega) dX5_init_38 ?_
      refine r_iload_n 41 hC' dX5_init_41 rfl rfl ?_
      refine m_new 42 hC' hlin (by omega) (by omega) hqs.1 rfl pm_in4 pm_ig4 tyX4 tyX4_ok tw_248 tw_250 tw_133 pf_4 ⟨by show 3 + 5 * i + 1 ≤ 33; omega, by show 22 + 113 * i + 17 ≤ 700; omega⟩ dX5_init_42 ?_
      refine r_dup 45 hC1 dX5_init_45 rfl ?_
      refine m_callN 46 (n := 0) (mc := 4) (ms := 96) (j' := q + 3 + 5 * i + 1 + 4) (S' := (q + 3) :: q :: S0) (st := [.ref (q + 3 + 5 * i + 1), .int (nI i), .ref (q + 3)]) (K := fun I9 => I9 = pm_zb (pm_J5 I q i) (q + 3 + 5 * i + 1) 5) [] hC1 hlin (by omega) (by omega) dX5_init_46 (by decide) (by decide) tw_253 tw_133 ⟨by decide, by decide, by decide +kernel⟩ tw_251 tw_252 rfl rfl rfl (c_X4 (q := q + 3 + 5 * i + 1) (S0 := (q + 3) :: q :: S0) hlin hN (by omega) (by omega) (hS3 _ (by omega)) (okN i (by omega)) hqs (pm_J5 I q i) _ rfl) ⟨by show 3 + 5 * i + 1 + 4 ≤ 33; omega, by show 22 + 113 * i + 17 + 96 ≤ 700; omega⟩ (Nat.le_of_ble_eq_true rfl) (fun I9 hI9 => ?_)
      subst hI9
      rw [es]
      have kv : pm_k (pm_st G (q + 3 + 5 * (i + 1)) ((q + 3) :: q :: S0)) (q + 3 + 5 * i + 1) (.inl 4) := pm_k_out (fun z => by
        rcases List.mem_cons.mp z with z | z
        · omega
        · rcases List.mem_cons.mp z with z | z
          · omega
          · have := hS0 _ z; omega) (by omega) (by omega) hqs.1
      refine m_aast 49 (Cn := RX4) (T := TX4) (N := 17) hC2 (ka _ (by omega)) (Or.inl rfl) kv (by omega) (vp_in_nI (by omega) (by decide)) dX5_init_49 (fun I10 hI10 => ?_)
      rw [nI_clamp (by omega), pm_J5_step] at hI10
      subst hI10
      refine r_iinc 50 (v := nI (i + 1)) [some (.ref q), some (.int (nI (i + 1)))] hC2 dX5_init_50 rfl (nI_1 i) (by decide) rfl ?_
      refine r_goto 53 31 hC2 dX5_init_53 (by decide) ?_
      have h := ih (i + 1) (by omega)
      rw [show 3 + 5 * (i + 1) = 3 + 5 * i + 1 + 4 by omega, show 22 + 113 * (i + 1) = 22 + 113 * i + 17 + 96 by omega] at h
      exact h
  refine r_aload_n 0 hC dX5_init_0 rfl rfl ?_
  refine m_obj 1 hC tw_247 tw_156 tw_157 (by decide) (by decide) (Nat.le_of_ble_eq_true rfl) dX5_init_1 ?_
  refine r_aload_n 4 hC dX5_init_4 rfl rfl ?_
  refine r_bipush 5 (v := 8) hC dX5_init_5 (by decide) ?_
  refine m_newa 7 (t := 0) (n := 8) hC hlin (by omega) (by omega) k1 (by simp) (hn _ (by omega)) tw_184 (by decide) (by decide) (by decide) ⟨by decide, by decide⟩ dX5_init_7 ?_
  refine m_put 9 (ty := (.array .int)) (v := .ref (q + 1)) (x := nI (q + 1)) (pm_C_st hC ok1) hnm (kq _ (by omega)) rfl pm_in5 pm_ig5 tyX5 tyX5_ok nmX5 1 (by decide) tw_329 rfl (by decide +kernel) rfl rfl (fun _ => rfl) (pd_5_1 (pm_ad G) _ (q + 1) (by omega) (by omega)) dX5_init_9 (fun I2 hI2 => ?_)
  refine r_aload_n 12 (pm_C_st hC ok1) dX5_init_12 rfl rfl ?_
  refine r_bipush 13 (v := 8) (pm_C_st hC ok1) dX5_init_13 (by decide) ?_
  refine m_newa 15 (t := 0) (n := 8) (pm_C_st hC ok1) hlin (by omega) (by omega) k2 (by simp) (hn _ (by omega)) tw_184 (by decide) (by decide) (by decide) ⟨by decide, by decide⟩ dX5_init_15 ?_
  refine m_put 17 (ty := (.array .int)) (v := .ref (q + 2)) (x := nI (q + 2)) (pm_C_st hC ok2) hnm (kq _ (by omega)) rfl pm_in5 pm_ig5 tyX5 tyX5_ok nmX5 2 (by decide) tw_330 rfl (by decide +kernel) rfl rfl (fun _ => rfl) (pd_5_2 (pm_ad G) _ (q + 2) (by omega) (by omega)) dX5_init_17 (fun I4 hI4 => ?_)
  refine r_aload_n 20 (pm_C_st hC ok2) dX5_init_20 rfl rfl ?_
  refine r_bipush 21 (v := 6) (pm_C_st hC ok2) dX5_init_21 (by decide) ?_
  refine m_anew 23 (t := 4) (n := 6) (pm_C_st hC ok2) hmk hlin (by omega) (by omega) k3 (Or.inl rfl) tw_248 (by decide) (by decide) (by decide) ⟨by decide, by decide⟩ dX5_init_23 ?_
  refine m_put 26 (ty := (.array (.object "PeerOverlay$Session"))) (v := .ref (q + 3)) (x := nI (q + 3)) (pm_C_st hC (okL 0 (by omega))) hnm (kq2 _ (by omega)) rfl pm_in5 pm_ig5 tyX5 tyX5_ok nmX5 3 (by decide) tw_332 rfl (by decide +kernel) rfl rfl (fun _ => rfl) (pd_5_3 (pm_ad G) _ (q + 3) (by omega) (by omega)) dX5_init_26 (fun I6 hI6 => ?_)
  refine r_iconst 29 (v := 0) (pm_C_st hC (okL 0 (by omega))) dX5_init_29 (by decide) ?_
  refine r_istore_n 30 [some (.ref q), some (.int 0)] (pm_C_st hC (okL 0 (by omega))) dX5_init_30 rfl (by decide) rfl ?_
  have e0 : I6 = pm_J5 I q 0 := by
    subst hI6; subst hI4; subst hI2
    funext r
    unfold pm_J5
    by_cases hr : r = q
    · subst hr
      rw [if_pos rfl]
      simp [pm_up, pm_nw, Nat.add_assoc]
    · rw [if_neg hr]
      by_cases hr3 : r = q + 3
      · subst hr3
        rw [if_pos rfl]
        simp [pm_up, pm_nw, Nat.add_assoc]
      · rw [if_neg hr3]
        by_cases hb : q ≤ r ∧ r < q + 4 + 5 * 0
        · rw [if_pos hb]
          have : r = q + 1 ∨ r = q + 2 := by omega
          rcases this with rfl | rfl <;> simp [pm_up, pm_nw, Nat.add_assoc]
        · rw [if_neg hb]
          have a1 : r ≠ q + 1 := by omega
          have a2 : r ≠ q + 2 := by omega
          simp [pm_up, pm_nw, Nat.add_assoc, hr, a1, a2, hr3]
  rw [e0]
  exact loop 6 0 rfl
theorem o_X0 {G : pm_G} {N9 q : Nat} {S0 : List Nat} (hlin : pm_lin G N9) (hq1 : 1 ≤ q) (hq : q + 341 ≤ N9) (hS0 : ∀ r ∈ S0, r < q) (hok : pm_ok (pm_st G q (q :: S0))) (hsh : pm_bH G q) : (∀ i, i ≤ 10 → pm_ok (pm_st G (q + 1 + 34 * i) ((q + 1) :: q :: S0))) ∧ (∀ i, i < 10 → pm_ok (pm_st G (q + 1 + 34 * i + 1) ((q + 1 + 34 * i + 1) :: (q + 1) :: q :: S0))) ∧ pm_ok (pm_st G (q + 341) S0) := by
  have hn : ∀ r, q < r → r ∉ q :: S0 := fun r hr h => (List.mem_cons.mp h).elim (fun e => by omega) (fun h => by have := hS0 r h; omega)
  have hq0 : ∀ r, q ≤ r → r ∉ S0 := fun r hr h => by have := hS0 r h; omega
  obtain ⟨k0, k1, hses⟩ := hsh
  have ok3 : pm_ok (pm_st G (q + 1) ((q + 1) :: q :: S0)) := pm_ok_next (S' := (q + 1) :: q :: S0) hok hlin (by omega) (fun r hr => ⟨fun h => (List.mem_cons.mp h).elim (fun e => by omega) id, fun h => List.mem_cons_of_mem _ h⟩) (by rw [if_pos List.mem_cons_self, k1]; rfl)
  have hS3 : ∀ j, q + 1 ≤ j → ∀ r ∈ (q + 1) :: q :: S0, r < j + 1 := fun j hj r hr => by
    rcases List.mem_cons.mp hr with rfl | hr
    · omega
    · rcases List.mem_cons.mp hr with rfl | hr
      · omega
      · have := hS0 r hr; omega
  have nx : ∀ i, i < 10 → pm_ok (pm_st G (q + 1 + 34 * i) ((q + 1) :: q :: S0)) → pm_ok (pm_st G (q + 1 + 34 * i + 1) ((q + 1 + 34 * i + 1) :: (q + 1) :: q :: S0)) := fun i hi h => pm_ok_next (S' := (q + 1 + 34 * i + 1) :: (q + 1) :: q :: S0) h hlin (by omega) (fun r hr => ⟨fun h => (List.mem_cons.mp h).elim (fun e => by omega) id, fun h => List.mem_cons_of_mem _ h⟩) (by rw [if_pos List.mem_cons_self, show q + 1 + 34 * i + 1 = q + 2 + 34 * i by omega, (hses i hi).1]; rfl)
  have hL : ∀ i, i ≤ 10 → pm_ok (pm_st G (q + 1 + 34 * i) ((q + 1) :: q :: S0)) := by
    intro i
    induction i with
    | zero => intro _; exact ok3
    | succ i ih =>
      intro hi
      have h := (o_X5 (q := q + 1 + 34 * i + 1) (S0 := (q + 1) :: q :: S0) hlin (by omega) (by omega) (hS3 _ (by omega)) (nx i (by omega) (ih (by omega))) (by rw [show q + 1 + 34 * i + 1 = q + 2 + 34 * i by omega]; exact hses i (by omega))).2.2.2.2
      rw [show q + 1 + 34 * (i + 1) = q + 1 + 34 * i + 1 + 33 by omega]
      exact h
  have ok6 : pm_ok (pm_st G (q + 341) ((q + 1) :: q :: S0)) := hL 10 (Nat.le_refl 10)
  have hn3 : q + 1 ∉ q :: S0 := hn _ (by omega)
  have ok7 : pm_ok (pm_st G (q + 341) (q :: S0)) := pm_ok_done hn3 ok6 (by
    rw [k1]
    intro j hj
    exact pm_k_out (hn _ (by omega)) (by omega) (by omega) (by rw [show q + 1 + 1 + 34 * j = q + 2 + 34 * j by omega]; exact (hses j hj).1))
  refine ⟨hL, fun i hi => nx i hi (hL i (by omega)), pm_ok_done (hq0 q (Nat.le_refl q)) ok7 ?_⟩
  rw [k0]
  exact pm_k_out (hq0 _ (by omega)) (by omega) (by omega) k1
def pm_J0 (I : pm_I) (q i : Nat) : pm_I := fun r => if r = q then upd (fun _ => 0) 0 (nI (q + 1)) else if r = q + 1 then (fun p => if p < i then nI (q + 2 + 34 * p) else 0) else if q ≤ r ∧ r < q + 2 + 34 * i then (fun _ => 0) else I r
theorem pm_J0_step (I : pm_I) (q i : Nat) : pm_up (pm_zb (pm_J0 I q i) (q + 1 + 34 * i + 1) 34) (q + 1) i (nI (q + 1 + 34 * i + 1)) = pm_J0 I q (i + 1) := by
  funext r
  have hb3 : ¬ (q + 1 + 34 * i + 1 ≤ q + 1 ∧ q + 1 < q + 1 + 34 * i + 1 + 34) := by omega
  by_cases h3 : r = q + 1
  · subst h3
    unfold pm_up
    rw [if_pos rfl]
    unfold pm_zb
    rw [if_neg hb3]
    have eJ : ∀ m, pm_J0 I q m (q + 1) = fun p => if p < m then nI (q + 2 + 34 * p) else 0 := fun m => by unfold pm_J0; rw [if_neg (by omega), if_pos rfl]
    rw [eJ, eJ]
    funext p
    unfold upd
    by_cases hp : p = i
    · subst hp
      rw [if_pos rfl, if_pos (by omega), show q + 1 + 34 * p + 1 = q + 2 + 34 * p by omega]
    · rw [if_neg hp]
      show (if p < i then nI (q + 2 + 34 * p) else 0) = _
      by_cases hlt : p < i
      · rw [if_pos hlt, if_pos (by omega)]
      · rw [if_neg hlt, if_neg (by omega)]
  · unfold pm_up
    rw [if_neg h3]
    unfold pm_zb pm_J0
    by_cases hq : r = q
    · rw [if_neg (by omega), if_pos hq, if_pos hq]
    · rw [if_neg hq, if_neg h3, if_neg hq, if_neg h3]
      by_cases hb : q + 1 + 34 * i + 1 ≤ r ∧ r < q + 1 + 34 * i + 1 + 34
      · rw [if_pos hb, if_pos (by omega)]
      · rw [if_neg hb]
        by_cases hc : q ≤ r ∧ r < q + 2 + 34 * i
        · rw [if_pos hc, if_pos (by omega)]
        · rw [if_neg hc, if_neg (by omega)]
set_option maxRecDepth 20000 in
theorem c_X0 {G : pm_G} {l : Launch} {N9 q : Nat} {S0 : List Nat} (hlin : pm_lin G N9) (hN : N9 < 2 ^ 20) (hq1 : 1 ≤ q) (hq : q + 341 ≤ N9) (hS0 : ∀ r ∈ S0, r < q) (hok : pm_ok (pm_st G q (q :: S0))) (hsh : pm_bH G q) (hmk : pm_mk G) (I : pm_I) (K : pm_I → Prop) (hK : K (pm_zb I q 342)) : pm_Cc G q (q :: S0) (q + 341) S0 l yX0_init cX0_init 2 4 380 341 7050 [.ref q] (pm_nw I q) K := by
  obtain ⟨okL, okN, ok9⟩ := o_X0 hlin hq1 hq hS0 hok hsh
  have hn : ∀ r, q < r → r ∉ q :: S0 := fun r hr h => (List.mem_cons.mp h).elim (fun e => by omega) (fun h => by have := hS0 r h; omega)
  have hq0 : ∀ r, q ≤ r → r ∉ S0 := fun r hr h => by have := hS0 r h; omega
  obtain ⟨k0, k1, hses⟩ := id hsh
  refine pm_enterC (by decide +kernel) hok rfl (Nat.le_of_ble_eq_true rfl) rfl (fun X hl hsz hnm hC hE => ?_)
  subst hl
  have hC : pm_C (pm_st G q (q :: S0)) X cX0_init 2 RX0 none { frames := 4, cells := 341, slots := 7050, locals := 380 } := hC
  have kq2 : ∀ j, q + 1 ≤ j → pm_k (pm_st G j ((q + 1) :: q :: S0)) q (.inr (8, 0)) := fun j hj => pm_k_in (List.mem_cons_of_mem _ List.mem_cons_self) hq1 (by omega) k0
  have ka : ∀ j, q + 1 ≤ j → pm_k (pm_st G j ((q + 1) :: q :: S0)) (q + 1) (.inr (7, 10)) := fun j hj => pm_k_in (k := .inr (5, 10)) List.mem_cons_self (by omega) hj k1
  have hS3 : ∀ j, q + 1 ≤ j → ∀ r ∈ (q + 1) :: q :: S0, r < j + 1 := fun j hj r hr => by
    rcases List.mem_cons.mp hr with rfl | hr
    · omega
    · rcases List.mem_cons.mp hr with rfl | hr
      · omega
      · have := hS0 r hr; omega
  have loop : ∀ n i, i + n = 10 → pm_R (pm_st G (q + 1 + 34 * i) ((q + 1) :: q :: S0)) X 2 (1 + 34 * i) (10 + 704 * i) 15 [some (.ref q), some (.int (nI i))] [] (pm_J0 I q i) := by
    intro n
    induction n with
    | zero =>
      intro i hi
      have hi6 : i = 10 := by omega
      subst hi6
      have hC' := pm_C_st hC (okL 10 (Nat.le_refl 10))
      refine r_iload_n 15 hC' dX0_init_15 rfl rfl ?_
      refine r_bipush 16 (v := 10) hC' dX0_init_16 (by decide) ?_
      refine r_icmp_ge 18 40 hC' dX0_init_18 (by decide) (fun _ => ?_) (fun hc => absurd (by decide) hc)
      refine m_fin (j := q + 341) (S2 := S0) (I2 := pm_zb I q 342) (fun r h1 h2 H h => ?_) (m_vret 40 (pm_C_st hC ok9) hE dX0_init_40 hK)
      by_cases hr : r = q
      · subst hr
        rw [if_pos (List.mem_cons_of_mem _ List.mem_cons_self), k0] at h
        rw [if_neg (hq0 r (Nat.le_refl r)), k0]
        have e9 : pm_fd (pm_ad G) 0 (pm_J0 I r 10 r) = pm_fs (pm_ad G) 0 r (pm_zb I r 342 r) := by
          have z : pm_zb I r 342 r = fun _ => 0 := by unfold pm_zb; rw [if_pos ⟨Nat.le_refl r, by omega⟩]
          have y : pm_J0 I r 10 r = upd (fun _ => 0) 0 (nI (r + 1)) := by unfold pm_J0; rw [if_pos rfl]
          rw [z, y]
          show [pm_rv (pm_ad G) (nI (r + 1)), .int 0, .int 0] = _
          rw [pm_rv_nI (by omega) (by omega)]
          rfl
        have h' : va_at (pm_D G) vwCl (pm_ad G r, .inr (0, pm_fd (pm_ad G) 0 (pm_J0 I r 10 r))) H := h
        rw [e9] at h'
        exact h'
      · by_cases hr3 : r = q + 1
        · subst hr3
          rw [if_pos List.mem_cons_self, k1] at h
          rw [if_neg (hq0 _ (by omega)), k1]
          have h1' : H[pm_ad G (q + 1)]? = some (vp_cell (pm_ca G 5) (10, .inr (.inr (.inr (.inr (fun y => pm_ro (pm_ad G) (pm_J0 I q 10 (q + 1) y))))))) := h
          show H[pm_ad G (q + 1)]? = some (vp_cell (pm_ca G 5) (10, .inr (.inr (.inr (.inr (fun y => some (pm_ad G (q + 1 + 1 + 34 * y))))))))
          rw [h1']
          congr 1
          refine pm_arrq (fun y hy => ?_)
          unfold pm_J0
          rw [if_neg (by omega), if_pos rfl]
          show pm_ro (pm_ad G) (if y < 10 then nI (q + 2 + 34 * y) else 0) = _
          rw [if_pos hy, pm_ro_nI (by omega) (by omega), show q + 2 + 34 * y = q + 1 + 1 + 34 * y by omega]
        · have e8 : pm_J0 I q 10 r = pm_zb I q 342 r := by
            unfold pm_J0 pm_zb
            rw [if_neg hr, if_neg hr3]
          rw [← e8]
          by_cases hs : r ∈ S0
          · rw [if_pos (List.mem_cons_of_mem _ (List.mem_cons_of_mem _ hs))] at h
            rw [if_pos hs]; exact h
          · rw [if_neg (fun z => (List.mem_cons.mp z).elim hr3 (fun z => (List.mem_cons.mp z).elim hr hs))] at h
            rw [if_neg hs]; exact h
    | succ n ih =>
      intro i hi
      have hC' := pm_C_st hC (okL i (by omega))
      have hC1 := pm_C_st hC (okN i (by omega))
      have hC2 := pm_C_st hC (okL (i + 1) (by omega))
      have hlt : ¬ (10 : Int32) ≤ nI i := nI_ge (a := i) (b := 10) (by omega) (by decide)
      have hqs : pm_bT G (q + 1 + 34 * i + 1) := by rw [show q + 1 + 34 * i + 1 = q + 2 + 34 * i by omega]; exact hses i (by omega)
      have es : q + 1 + 34 * i + 1 + 33 = q + 1 + 34 * (i + 1) := by omega
      refine r_iload_n 15 hC' dX0_init_15 rfl rfl ?_
      refine r_bipush 16 (v := 10) hC' dX0_init_16 (by decide) ?_
      refine r_icmp_ge 18 40 hC' dX0_init_18 (by decide) (fun hc => absurd hc hlt) (fun _ => ?_)
      refine r_aload_n 21 hC' dX0_init_21 rfl rfl ?_
      refine m_get 22 (r1 := q + 1) hC' (kq2 _ (by omega)) rfl pm_in0 pm_ig0 0 (by decide) tw_352 rfl rfl (by unfold pm_J0; rw [if_pos rfl]; rfl) (by omega) (by omega) dX0_init_22 ?_
      refine r_iload_n 25 hC' dX0_init_25 rfl rfl ?_
      refine m_new 26 hC' hlin (by omega) (by omega) hqs.1 rfl pm_in5 pm_ig5 tyX5 tyX5_ok tw_349 tw_243 tw_132 pf_5 ⟨by show 1 + 34 * i + 1 ≤ 341; omega, by show 10 + 704 * i + 4 ≤ 7050; omega⟩ dX0_init_26 ?_
      refine r_dup 29 hC1 dX0_init_29 rfl ?_
      refine m_callN 30 (n := 0) (mc := 33) (ms := 700) (j' := q + 1 + 34 * i + 1 + 33) (S' := (q + 1) :: q :: S0) (st := [.ref (q + 1 + 34 * i + 1), .int (nI i), .ref (q + 1)]) (K := fun I9 => I9 = pm_zb (pm_J0 I q i) (q + 1 + 34 * i + 1) 34) [] hC1 hlin (by omega) (by omega) dX0_init_30 (by decide) (by decide) tw_246 tw_132 ⟨by decide, by decide, by decide +kernel⟩ tw_351 tw_245 rfl rfl rfl (c_X5 (q := q + 1 + 34 * i + 1) (S0 := (q + 1) :: q :: S0) hlin hN (by omega) (by omega) (hS3 _ (by omega)) (okN i (by omega)) hqs hmk (pm_J0 I q i) _ rfl) ⟨by show 1 + 34 * i + 1 + 33 ≤ 341; omega, by show 10 + 704 * i + 4 + 700 ≤ 7050; omega⟩ (Nat.le_of_ble_eq_true rfl) (fun I9 hI9 => ?_)
      subst hI9
      rw [es]
      have kv : pm_k (pm_st G (q + 1 + 34 * (i + 1)) ((q + 1) :: q :: S0)) (q + 1 + 34 * i + 1) (.inl 5) := pm_k_out (fun z => by
        rcases List.mem_cons.mp z with z | z
        · omega
        · rcases List.mem_cons.mp z with z | z
          · omega
          · have := hS0 _ z; omega) (by omega) (by omega) hqs.1
      refine m_aast 33 (Cn := RX5) (T := TX5) (N := 4) hC2 (ka _ (by omega)) (Or.inr rfl) kv (by omega) (vp_in_nI (by omega) (by decide)) dX0_init_33 (fun I10 hI10 => ?_)
      rw [nI_clamp (by omega), pm_J0_step] at hI10
      subst hI10
      refine r_iinc 34 (v := nI (i + 1)) [some (.ref q), some (.int (nI (i + 1)))] hC2 dX0_init_34 rfl (nI_1 i) (by decide) rfl ?_
      refine r_goto 37 15 hC2 dX0_init_37 (by decide) ?_
      have h := ih (i + 1) (by omega)
      rw [show 1 + 34 * (i + 1) = 1 + 34 * i + 1 + 33 by omega, show 10 + 704 * (i + 1) = 10 + 704 * i + 4 + 700 by omega] at h
      exact h
  refine r_aload_n 0 hC dX0_init_0 rfl rfl ?_
  refine m_obj 1 hC tw_348 tw_156 tw_157 (by decide) (by decide) (Nat.le_of_ble_eq_true rfl) dX0_init_1 ?_
  refine r_aload_n 4 hC dX0_init_4 rfl rfl ?_
  refine r_bipush 5 (v := 10) hC dX0_init_5 (by decide) ?_
  refine m_anew 7 (t := 5) (n := 10) hC hmk hlin (by omega) (by omega) k1 (Or.inr rfl) tw_349 (by decide) (by decide) (by decide) ⟨by decide, by decide⟩ dX0_init_7 ?_
  refine m_put 10 (ty := .array (.object "PeerOverlay$Situation")) (v := .ref (q + 1)) (x := nI (q + 1)) (pm_C_st hC (okL 0 (by omega))) hnm (kq2 _ (by omega)) rfl pm_in0 pm_ig0 tyX0 tyX0_ok nmX0 0 (by decide) tw_352 rfl (by decide +kernel) rfl rfl (fun _ => rfl) (pd_0_0 (pm_ad G) _ (q + 1) (by omega) (by omega)) dX0_init_10 (fun I6 hI6 => ?_)
  refine r_iconst 13 (v := 0) (pm_C_st hC (okL 0 (by omega))) dX0_init_13 (by decide) ?_
  refine r_istore_n 14 [some (.ref q), some (.int 0)] (pm_C_st hC (okL 0 (by omega))) dX0_init_14 rfl (by decide) rfl ?_
  have e0 : I6 = pm_J0 I q 0 := by
    subst hI6
    funext r
    unfold pm_J0
    by_cases hr : r = q
    · subst hr
      rw [if_pos rfl]
      simp [pm_up, pm_nw, Nat.add_assoc]
    · rw [if_neg hr]
      by_cases hr3 : r = q + 1
      · subst hr3
        rw [if_pos rfl]
        simp [pm_up, pm_nw, Nat.add_assoc]
      · rw [if_neg hr3]
        rw [if_neg (by omega)]
        simp [pm_up, pm_nw, Nat.add_assoc, hr, hr3]
  rw [e0]
  exact loop 10 0 rfl
