/-- n rows of zeros from q on -/
def pm_zb (I : pm_I) (q n : Nat) : pm_I := fun r => if q ≤ r ∧ r < q + n then (fun _ => 0) else I r
section PMF
variable {G : pm_G} {X : pm_X} {nL a b j : Nat} {ls : List (Option Value)} {st : List Value} {I : pm_I} {S : List Nat}
/-- rows are finished: what they hold is what finished ones hold, of other numbers perhaps -/
theorem m_fin {S2 : List Nat} {I2 : pm_I} {pc : Nat} (hcell : ∀ r, 1 ≤ r → r ≤ j → ∀ H : Heap, va_at (pm_D G) vwCl (pm_ad G r, pm_c G (if r ∈ S then pm_dy (pm_kd G r) else pm_kd G r) r (I r)) H → va_at (pm_D G) vwCl (pm_ad G r, pm_c G (if r ∈ S2 then pm_dy (pm_kd G r) else pm_kd G r) r (I2 r)) H) (k : pm_R (pm_st G j S2) X nL a b pc ls st I2) : pm_R (pm_st G j S) X nL a b pc ls st I := by
  obtain ⟨p, l, e, R, s, m, args, below, meth, c, Q⟩ := X
  intro H locs la hP hS hL
  refine k H locs la (fun i x hx => ?_) hS hL
  have hl : i < j := by
    have h9 := (List.getElem?_eq_some_iff.mp hx).1
    have : i < (List.range j).length := by simpa [pm_w, pm_st] using h9
    simpa using this
  have h1 : (pm_w (pm_st G j S) I)[i]? = some (pm_ad G (i + 1), pm_c G (if i + 1 ∈ S then pm_dy (pm_kd G (i + 1)) else pm_kd G (i + 1)) (i + 1) (I (i + 1))) := by
    unfold pm_w
    show (List.map _ (List.range j))[i]? = _
    rw [List.getElem?_map, List.getElem?_range hl]
    rfl
  have h2 : (pm_w (pm_st G j S2) I2)[i]? = some (pm_ad G (i + 1), pm_c G (if i + 1 ∈ S2 then pm_dy (pm_kd G (i + 1)) else pm_kd G (i + 1)) (i + 1) (I2 (i + 1))) := by
    unfold pm_w
    show (List.map _ (List.range j))[i]? = _
    rw [List.getElem?_map, List.getElem?_range hl]
    rfl
  rw [hx] at h2
  cases h2
  exact hcell (i + 1) (by omega) (by omega) H (hP i _ h1)
end PMF
/-! ===== the constructors ===== -/
theorem o_X4 {G : pm_G} {N9 q : Nat} {S0 : List Nat} (hlin : pm_lin G N9) (hq1 : 1 ≤ q) (hq : q + 4 ≤ N9) (hS0 : ∀ r ∈ S0, r < q) (hok : pm_ok (pm_st G q (q :: S0))) (hsh : pm_bS G q) : pm_ok (pm_st G (q + 1) (q :: S0)) ∧ pm_ok (pm_st G (q + 2) (q :: S0)) ∧ pm_ok (pm_st G (q + 3) (q :: S0)) ∧ pm_ok (pm_st G (q + 4) (q :: S0)) ∧ pm_ok (pm_st G (q + 4) S0) := by
  have hn : ∀ r, q < r → r ∉ q :: S0 := fun r hr h => (List.mem_cons.mp h).elim (fun e => by omega) (fun h => by have := hS0 r h; omega)
  have hq0 : ∀ r, q ≤ r → r ∉ S0 := fun r hr h => by have := hS0 r h; omega
  obtain ⟨k0, k1, k2, k3, k4⟩ := hsh
  have ok1 := pm_ok_next (S' := q :: S0) hok hlin (by omega) (fun _ _ => Iff.rfl) (by rw [if_neg (hn _ (by omega)), k1]; rfl)
  have ok2 := pm_ok_next (S' := q :: S0) ok1 hlin (by omega) (fun _ _ => Iff.rfl) (by rw [if_neg (hn _ (by omega)), k2]; rfl)
  have ok3 := pm_ok_next (S' := q :: S0) ok2 hlin (by omega) (fun _ _ => Iff.rfl) (by rw [if_neg (hn _ (by omega)), k3]; rfl)
  have ok4 := pm_ok_next (S' := q :: S0) ok3 hlin (by omega) (fun _ _ => Iff.rfl) (by rw [if_neg (hn _ (by omega)), k4]; rfl)
  refine ⟨ok1, ok2, ok3, ok4, pm_ok_done (hq0 q (Nat.le_refl q)) ok4 ?_⟩
  rw [k0]
  exact ⟨pm_k_out (hq0 _ (by omega)) (by omega) (by omega) k1, pm_k_out (hq0 _ (by omega)) (by omega) (by omega) k2, pm_k_out (hq0 _ (by omega)) (by omega) (by omega) k3, pm_k_out (hq0 _ (by omega)) (by omega) (by omega) k4⟩
set_option maxRecDepth 20000 in
theorem c_X4 {G : pm_G} {l : Launch} {N9 q : Nat} {S0 : List Nat} (hlin : pm_lin G N9) (hN : N9 < 2 ^ 20) (hq1 : 1 ≤ q) (hq : q + 4 ≤ N9) (hS0 : ∀ r ∈ S0, r < q) (hok : pm_ok (pm_st G q (q :: S0))) (hsh : pm_bS G q) (I : pm_I) (K : pm_I → Prop) (hK : K (pm_zb I q 5)) : pm_Cc G q (q :: S0) (q + 4) S0 l yX4_init cX4_init 1 2 100 4 96 [.ref q] (pm_nw I q) K := by
  obtain ⟨ok1, ok2, ok3, ok4, ok5⟩ := o_X4 hlin hq1 hq hS0 hok hsh
  have hn : ∀ r, q < r → r ∉ q :: S0 := fun r hr h => (List.mem_cons.mp h).elim (fun e => by omega) (fun h => by have := hS0 r h; omega)
  have hq0 : ∀ r, q ≤ r → r ∉ S0 := fun r hr h => by have := hS0 r h; omega
  obtain ⟨k0, k1, k2, k3, k4⟩ := id hsh
  refine pm_enterC (by decide +kernel) hok rfl (Nat.le_of_ble_eq_true rfl) rfl (fun X hl hsz hnm hC hE => ?_)
  subst hl
  have hC : pm_C (pm_st G q (q :: S0)) X cX4_init 1 RX4 none { frames := 2, cells := 4, slots := 96, locals := 100 } := hC
  have kq : ∀ j, q ≤ j → pm_k (pm_st G j (q :: S0)) q (.inr (8, 4)) := fun j hj => pm_k_in List.mem_cons_self hq1 hj k0
  refine r_aload_n 0 hC dX4_init_0 rfl rfl ?_
  refine m_obj 1 hC tw_254 tw_156 tw_157 (by decide) (by decide) (Nat.le_of_ble_eq_true rfl) dX4_init_1 ?_
  refine r_aload_n 4 hC dX4_init_4 rfl rfl ?_
  refine r_bipush 5 (v := 24) hC dX4_init_5 (by decide) ?_
  refine m_newa 7 (t := 0) (n := 24) hC hlin (by omega) (by omega) k1 (by simp) (hn _ (by omega)) tw_184 (by decide) (by decide) (by decide) ⟨by decide, by decide⟩ dX4_init_7 ?_
  refine m_put 9 (ty := (.array .int)) (v := .ref (q + 1)) (x := nI (q + 1)) (pm_C_st hC ok1) hnm (kq _ (by omega)) rfl pm_in4 pm_ig4 tyX4 tyX4_ok nmX4 13 (by decide) tw_288 rfl (by decide +kernel) rfl rfl (fun _ => rfl) (pd_4_13 (pm_ad G) _ (q + 1) (by omega) (by omega)) dX4_init_9 (fun I2 hI2 => ?_)
  refine r_aload_n 12 (pm_C_st hC ok1) dX4_init_12 rfl rfl ?_
  refine r_bipush 13 (v := 24) (pm_C_st hC ok1) dX4_init_13 (by decide) ?_
  refine m_newa 15 (t := 0) (n := 24) (pm_C_st hC ok1) hlin (by omega) (by omega) k2 (by simp) (hn _ (by omega)) tw_184 (by decide) (by decide) (by decide) ⟨by decide, by decide⟩ dX4_init_15 ?_
  refine m_put 17 (ty := (.array .int)) (v := .ref (q + 2)) (x := nI (q + 2)) (pm_C_st hC ok2) hnm (kq _ (by omega)) rfl pm_in4 pm_ig4 tyX4 tyX4_ok nmX4 14 (by decide) tw_289 rfl (by decide +kernel) rfl rfl (fun _ => rfl) (pd_4_14 (pm_ad G) _ (q + 2) (by omega) (by omega)) dX4_init_17 (fun I4 hI4 => ?_)
  refine r_aload_n 20 (pm_C_st hC ok2) dX4_init_20 rfl rfl ?_
  refine r_bipush 21 (v := 24) (pm_C_st hC ok2) dX4_init_21 (by decide) ?_
  refine m_newa 23 (t := 0) (n := 24) (pm_C_st hC ok2) hlin (by omega) (by omega) k3 (by simp) (hn _ (by omega)) tw_184 (by decide) (by decide) (by decide) ⟨by decide, by decide⟩ dX4_init_23 ?_
  refine m_put 25 (ty := (.array .int)) (v := .ref (q + 3)) (x := nI (q + 3)) (pm_C_st hC ok3) hnm (kq _ (by omega)) rfl pm_in4 pm_ig4 tyX4 tyX4_ok nmX4 15 (by decide) tw_290 rfl (by decide +kernel) rfl rfl (fun _ => rfl) (pd_4_15 (pm_ad G) _ (q + 3) (by omega) (by omega)) dX4_init_25 (fun I6 hI6 => ?_)
  refine r_aload_n 28 (pm_C_st hC ok3) dX4_init_28 rfl rfl ?_
  refine r_bipush 29 (v := 24) (pm_C_st hC ok3) dX4_init_29 (by decide) ?_
  refine m_newa 31 (t := 0) (n := 24) (pm_C_st hC ok3) hlin (by omega) (by omega) k4 (by simp) (hn _ (by omega)) tw_184 (by decide) (by decide) (by decide) ⟨by decide, by decide⟩ dX4_init_31 ?_
  refine m_put 33 (ty := (.array .int)) (v := .ref (q + 4)) (x := nI (q + 4)) (pm_C_st hC ok4) hnm (kq _ (by omega)) rfl pm_in4 pm_ig4 tyX4 tyX4_ok nmX4 16 (by decide) tw_291 rfl (by decide +kernel) rfl rfl (fun _ => rfl) (pd_4_16 (pm_ad G) _ (q + 4) (by omega) (by omega)) dX4_init_33 (fun I8 hI8 => ?_)
  refine m_fin (S2 := S0) (I2 := pm_zb I q 5) (fun r h1 h2 H h => ?_) (m_vret 36 (pm_C_st hC ok5) hE dX4_init_36 hK)
  by_cases hr : r = q
  · subst hr
    rw [if_pos List.mem_cons_self, k0] at h
    rw [if_neg (hq0 r (Nat.le_refl r)), k0]
    have e9 : pm_fd (pm_ad G) 4 (I8 r) = pm_fs (pm_ad G) 4 r (pm_zb I r 5 r) := by
      have z : pm_zb I r 5 r = fun _ => 0 := by unfold pm_zb; rw [if_pos ⟨Nat.le_refl r, by omega⟩]
      have y : I8 r = upd (upd (upd (upd (fun _ => 0) 13 (nI (r + 1))) 14 (nI (r + 2))) 15 (nI (r + 3))) 16 (nI (r + 4)) := by
        subst hI8; subst hI6; subst hI4; subst hI2
        simp [pm_up, pm_nw, Nat.add_assoc]
      rw [z, y]
      show [Value.int 0, .int 0, .int 0, .int 0, .int 0, .int 0, .int 0, .int 0, .int 0, .int 0, .int 0, .int 0, .int 0, pm_rv (pm_ad G) (nI (r + 1)), pm_rv (pm_ad G) (nI (r + 2)), pm_rv (pm_ad G) (nI (r + 3)), pm_rv (pm_ad G) (nI (r + 4))] = _
      rw [pm_rv_nI (by omega) (by omega), pm_rv_nI (by omega) (by omega), pm_rv_nI (by omega) (by omega), pm_rv_nI (by omega) (by omega)]
      rfl
    have h' : va_at (pm_D G) vwCl (pm_ad G r, .inr (4, pm_fd (pm_ad G) 4 (I8 r))) H := h
    rw [e9] at h'
    exact h'
  · have e8 : I8 r = pm_zb I q 5 r := by
      subst hI8; subst hI6; subst hI4; subst hI2
      unfold pm_zb
      by_cases hb : q ≤ r ∧ r < q + 5
      · rw [if_pos hb]
        have : r = q + 1 ∨ r = q + 2 ∨ r = q + 3 ∨ r = q + 4 := by omega
        rcases this with rfl | rfl | rfl | rfl <;> simp [pm_up, pm_nw]
      · rw [if_neg hb]
        have a1 : r ≠ q + 1 := by omega
        have a2 : r ≠ q + 2 := by omega
        have a3 : r ≠ q + 3 := by omega
        have a4 : r ≠ q + 4 := by omega
        simp [pm_up, pm_nw, hr, a1, a2, a3, a4]
    rw [← e8]
    by_cases hs : r ∈ S0
    · rw [if_pos (List.mem_cons_of_mem _ hs)] at h
      rw [if_pos hs]; exact h
    · rw [if_neg (fun z => (List.mem_cons.mp z).elim hr hs)] at h
      rw [if_neg hs]; exact h
theorem o_X3 {G : pm_G} {N9 q : Nat} {S0 : List Nat} (hlin : pm_lin G N9) (hq1 : 1 ≤ q) (hq : q + 2 ≤ N9) (hS0 : ∀ r ∈ S0, r < q) (hok : pm_ok (pm_st G q (q :: S0))) (hsh : pm_bC G q) : pm_ok (pm_st G (q + 1) (q :: S0)) ∧ pm_ok (pm_st G (q + 2) (q :: S0)) ∧ pm_ok (pm_st G (q + 2) S0) := by
  have hn : ∀ r, q < r → r ∉ q :: S0 := fun r hr h => (List.mem_cons.mp h).elim (fun e => by omega) (fun h => by have := hS0 r h; omega)
  have hq0 : ∀ r, q ≤ r → r ∉ S0 := fun r hr h => by have := hS0 r h; omega
  obtain ⟨k0, k1, k2⟩ := hsh
  have ok1 := pm_ok_next (S' := q :: S0) hok hlin (by omega) (fun _ _ => Iff.rfl) (by rw [if_neg (hn _ (by omega)), k1]; rfl)
  have ok2 := pm_ok_next (S' := q :: S0) ok1 hlin (by omega) (fun _ _ => Iff.rfl) (by rw [if_neg (hn _ (by omega)), k2]; rfl)
  refine ⟨ok1, ok2, pm_ok_done (hq0 q (Nat.le_refl q)) ok2 ?_⟩
  rw [k0]
  exact ⟨pm_k_out (hq0 _ (by omega)) (by omega) (by omega) k1, pm_k_out (hq0 _ (by omega)) (by omega) (by omega) k2⟩
set_option maxRecDepth 20000 in
theorem c_X3 {G : pm_G} {l : Launch} {N9 q : Nat} {S0 : List Nat} (hlin : pm_lin G N9) (hN : N9 < 2 ^ 20) (hq1 : 1 ≤ q) (hq : q + 2 ≤ N9) (hS0 : ∀ r ∈ S0, r < q) (hok : pm_ok (pm_st G q (q :: S0))) (hsh : pm_bC G q) (I : pm_I) (K : pm_I → Prop) (hK : K (pm_zb I q 3)) : pm_Cc G q (q :: S0) (q + 2) S0 l yX3_init cX3_init 1 2 100 2 616 [.ref q] (pm_nw I q) K := by
  obtain ⟨ok1, ok2, ok5⟩ := o_X3 hlin hq1 hq hS0 hok hsh
  have hn : ∀ r, q < r → r ∉ q :: S0 := fun r hr h => (List.mem_cons.mp h).elim (fun e => by omega) (fun h => by have := hS0 r h; omega)
  have hq0 : ∀ r, q ≤ r → r ∉ S0 := fun r hr h => by have := hS0 r h; omega
  obtain ⟨k0, k1, k2⟩ := id hsh
  refine pm_enterC (by decide +kernel) hok rfl (Nat.le_of_ble_eq_true rfl) rfl (fun X hl hsz hnm hC hE => ?_)
  subst hl
  have hC : pm_C (pm_st G q (q :: S0)) X cX3_init 1 RX3 none { frames := 2, cells := 2, slots := 616, locals := 100 } := hC
  have kq : ∀ j, q ≤ j → pm_k (pm_st G j (q :: S0)) q (.inr (8, 3)) := fun j hj => pm_k_in List.mem_cons_self hq1 hj k0
  refine r_aload_n 0 hC dX3_init_0 rfl rfl ?_
  refine m_obj 1 hC tw_169 tw_156 tw_157 (by decide) (by decide) (Nat.le_of_ble_eq_true rfl) dX3_init_1 ?_
  refine r_aload_n 4 hC dX3_init_4 rfl rfl ?_
  refine r_sipush 5 (v := 600) hC dX3_init_5 (by decide) ?_
  refine m_newa 8 (t := 0) (n := 600) hC hlin (by omega) (by omega) k1 (by simp) (hn _ (by omega)) tw_184 (by decide) (by decide) (by decide) ⟨by decide, by decide⟩ dX3_init_8 ?_
  refine m_put 10 (ty := (.array .int)) (v := .ref (q + 1)) (x := nI (q + 1)) (pm_C_st hC ok1) hnm (kq _ (by omega)) rfl pm_in3 pm_ig3 tyX3 tyX3_ok nmX3 0 (by decide) tw_170 rfl (by decide +kernel) rfl rfl (fun _ => rfl) (pd_3_0 (pm_ad G) _ (q + 1) (by omega) (by omega)) dX3_init_10 (fun I2 hI2 => ?_)
  refine r_aload_n 13 (pm_C_st hC ok1) dX3_init_13 rfl rfl ?_
  refine r_bipush 14 (v := 16) (pm_C_st hC ok1) dX3_init_14 (by decide) ?_
  refine m_newa 16 (t := 0) (n := 16) (pm_C_st hC ok1) hlin (by omega) (by omega) k2 (by simp) (hn _ (by omega)) tw_184 (by decide) (by decide) (by decide) ⟨by decide, by decide⟩ dX3_init_16 ?_
  refine m_put 18 (ty := (.array .int)) (v := .ref (q + 2)) (x := nI (q + 2)) (pm_C_st hC ok2) hnm (kq _ (by omega)) rfl pm_in3 pm_ig3 tyX3 tyX3_ok nmX3 2 (by decide) tw_172 rfl (by decide +kernel) rfl rfl (fun _ => rfl) (pd_3_2 (pm_ad G) _ (q + 2) (by omega) (by omega)) dX3_init_18 (fun I4 hI4 => ?_)
  refine m_fin (S2 := S0) (I2 := pm_zb I q 3) (fun r h1 h2 H h => ?_) (m_vret 21 (pm_C_st hC ok5) hE dX3_init_21 hK)
  by_cases hr : r = q
  · subst hr
    rw [if_pos List.mem_cons_self, k0] at h
    rw [if_neg (hq0 r (Nat.le_refl r)), k0]
    have e9 : pm_fd (pm_ad G) 3 (I4 r) = pm_fs (pm_ad G) 3 r (pm_zb I r 3 r) := by
      have z : pm_zb I r 3 r = fun _ => 0 := by unfold pm_zb; rw [if_pos ⟨Nat.le_refl r, by omega⟩]
      have y : I4 r = upd (upd (fun _ => 0) 0 (nI (r + 1))) 2 (nI (r + 2)) := by
        subst hI4; subst hI2
        simp [pm_up, pm_nw, Nat.add_assoc]
      rw [z, y]
      show [pm_rv (pm_ad G) (nI (r + 1)), .int 0, pm_rv (pm_ad G) (nI (r + 2)), .int 0] = _
      rw [pm_rv_nI (by omega) (by omega), pm_rv_nI (by omega) (by omega)]
      rfl
    have h' : va_at (pm_D G) vwCl (pm_ad G r, .inr (3, pm_fd (pm_ad G) 3 (I4 r))) H := h
    rw [e9] at h'
    exact h'
  · have e8 : I4 r = pm_zb I q 3 r := by
      subst hI4; subst hI2
      unfold pm_zb
      by_cases hb : q ≤ r ∧ r < q + 3
      · rw [if_pos hb]
        have : r = q + 1 ∨ r = q + 2 := by omega
        rcases this with rfl | rfl <;> simp [pm_up, pm_nw]
      · rw [if_neg hb]
        have a1 : r ≠ q + 1 := by omega
        have a2 : r ≠ q + 2 := by omega
        simp [pm_up, pm_nw, hr, a1, a2]
    rw [← e8]
    by_cases hs : r ∈ S0
    · rw [if_pos (List.mem_cons_of_mem _ hs)] at h
      rw [if_pos hs]; exact h
    · rw [if_neg (fun z => (List.mem_cons.mp z).elim hr hs)] at h
      rw [if_neg hs]; exact h
