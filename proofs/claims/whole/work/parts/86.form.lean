/-! ===== THE PARSER: formulas (1): numbers, items, levels ===== -/
theorem tk_vB (tx : Nat → Int32) : ∀ f k A j, tk_e tk_dg tx f k ≤ k + j → (A + 1) * 10 ^ j ≤ 10000 → ∃ B, B ≤ 9999 ∧ tk_v tx f k (nI A) = nI B
  | 0, k, A, j, _, h2 => ⟨A, by
      have : A + 1 ≤ (A + 1) * 10 ^ j := Nat.le_mul_of_pos_right _ (Nat.pow_pos (by decide))
      omega, rfl⟩
  | f + 1, k, A, j, h1, h2 => by
    have hA : A + 1 ≤ (A + 1) * 10 ^ j := Nat.le_mul_of_pos_right _ (Nat.pow_pos (by decide))
    unfold tk_v
    unfold tk_e at h1
    cases hd : tk_dg (tx k) with
    | false => rw [if_neg (by decide)]; exact ⟨A, by omega, rfl⟩
    | true =>
      rw [hd, if_pos rfl] at h1
      rw [if_pos rfl]
      have hge := (tk_e_r (p := tk_dg) (tx := tx) f (k + 1)).1
      obtain ⟨j', rfl⟩ : ∃ j', j = j' + 1 := ⟨j - 1, by omega⟩
      obtain ⟨n1, n2⟩ := (tk_dg_i _).mp hd
      obtain ⟨v, hv1, hv2, ev⟩ : ∃ v : Nat, 48 ≤ v ∧ v ≤ 57 ∧ tx k = nI v := by
        have h0 : ¬ tx k < 0 := fun h => n1 (Int32.lt_trans h (by decide))
        obtain ⟨v, hv, ev⟩ := nI_of h0
        rw [ev] at n1 n2
        refine ⟨v, ?_, ?_, ev⟩
        · exact Nat.le_of_not_lt (fun h => n1 ((nI_ltI (a := v) (b := 48) hv (by decide)).mpr h))
        · exact Nat.le_of_not_lt (fun h => n2 ((nI_ltI (a := 57) (b := v) (by decide) hv).mpr h))
      rw [ev, show (10 : Int32) = nI 10 from rfl, pk_mul, nI_add, show (48 : Int32) = nI 48 from rfl, pk_sub (by omega)]
      refine tk_vB tx f (k + 1) (A * 10 + v - 48) j' (by omega) ?_
      refine Nat.le_trans ?_ h2
      rw [Nat.pow_succ, Nat.mul_comm (10 ^ j') 10, ← Nat.mul_assoc]
      exact Nat.mul_le_mul_right _ (by omega)
theorem tk_VB {tx : Nat → Int32} {m s : Nat} (h : tk_K tx m s = 2) : ∃ B, B ≤ 9999 ∧ tk_V tx m s = nI B := by
  unfold tk_K at h
  by_cases h1 : m ≤ s
  · rw [if_pos h1] at h; exact absurd h (by decide)
  · rw [if_neg h1] at h
    cases h2 : tk_lt (tx s) with
    | true =>
      rw [h2, if_pos rfl] at h
      by_cases h3 : tk_N tx m s - s ≤ 8
      · rw [if_pos h3] at h; exact absurd h (by decide)
      · rw [if_neg h3] at h; exact absurd h (by decide)
    | false =>
      rw [h2, if_neg (by decide)] at h
      cases h3 : tk_dg (tx s) with
      | true =>
        rw [h3, if_pos rfl] at h
        by_cases h4 : tk_N tx m s - s ≤ 4
        · have hN : tk_N tx m s = tk_e tk_dg tx (m - s) s := by unfold tk_N; rw [if_neg h1, if_neg (by rw [h2]; decide), if_pos h3]
          rw [hN] at h4
          exact tk_vB tx (m - s) s 0 4 (by omega) (by decide)
        · rw [if_neg h4] at h; exact absurd h (by decide)
      | false =>
        rw [h3, if_neg (by decide)] at h
        cases h4 : tk_sg (tx s) with
        | true => rw [h4, if_pos rfl] at h; exact absurd h (tk_sg_n h4).2.2.1
        | false => rw [h4, if_neg (by decide)] at h; exact absurd h (by decide)
/-! items, one after another -/
def ok_pi (is : List Int32) (h : Nat) : Prop := (∀ k, k < is.length → (if ab_isop (is.getD k 0) = true then 2 ≤ ab_ht is k else ab_ht is k < 16) ∧ (ab_isop (is.getD k 0) = true ∨ (-5 ≤ (is.getD k 0).toInt ∧ (is.getD k 0).toInt ≤ 9999))) ∧ ab_ht is is.length = h
theorem ab_ht_a (is : List Int32) (x : Int32) : ∀ n, n ≤ is.length → ab_ht (is ++ [x]) n = ab_ht is n
  | 0, _ => rfl
  | n + 1, hn => by
    show (if ab_isop ((is ++ [x]).getD n 0) = true then ab_ht (is ++ [x]) n - 1 else ab_ht (is ++ [x]) n + 1) = if ab_isop (is.getD n 0) = true then ab_ht is n - 1 else ab_ht is n + 1
    rw [ob_gapp (by omega), if_neg (show ¬ n = is.length by omega), ab_ht_a is x n (by omega)]
theorem ok_pi.ap {is : List Int32} {h h' : Nat} {x : Int32} (hp : ok_pi is h) (h1 : if ab_isop x = true then 2 ≤ h else h < 16) (h2 : ab_isop x = true ∨ (-5 ≤ x.toInt ∧ x.toInt ≤ 9999)) (h3 : (if ab_isop x = true then h - 1 else h + 1) = h') : ok_pi (is ++ [x]) h' := by
  refine ⟨fun k hk => ?_, ?_⟩
  · rw [List.length_append] at hk
    have hk' : k < is.length + 1 := hk
    rw [ob_gapp hk', ab_ht_a is x k (by omega)]
    by_cases e : k = is.length
    · rw [if_pos e, e, hp.2]; exact ⟨h1, h2⟩
    · rw [if_neg e]; exact hp.1 k (by omega)
  · rw [List.length_append]
    show (if ab_isop ((is ++ [x]).getD is.length 0) = true then ab_ht (is ++ [x]) is.length - 1 else ab_ht (is ++ [x]) is.length + 1) = h'
    rw [ob_gapp (by omega), if_pos rfl, ab_ht_a is x _ (Nat.le_refl _), hp.2]
    exact h3
/-- a state inside a formula, of which h values would be held -/
def ok_W (m : Nat) (s : aQ) (h : Nat) : Prop := ok_Q m s ∧ (s.2.2.1 = 2 → ∃ v, v ≤ 9999 ∧ s.2.2.2.1 = nI v) ∧ ok_pi s.2.2.2.2.2.2.2.2.2.2 h ∧ s.2.2.2.2.2.2.2.2.2.2.length ≤ s.2.1
/-- what a formula leaves alone -/
def ok_st (s s' : aQ) : Prop := (∃ is, s'.2.2.2.2 = (s.2.2.2.2.1, s.2.2.2.2.2.1, s.2.2.2.2.2.2.1, s.2.2.2.2.2.2.2.1, s.2.2.2.2.2.2.2.2.1, s.2.2.2.2.2.2.2.2.2.1, is)) ∧ s.2.1 ≤ s'.2.1 ∧ s'.2.2.2.2.2.2.2.2.2.2.length + s.2.1 ≤ s.2.2.2.2.2.2.2.2.2.2.length + s'.2.1
theorem ok_st.rf (s : aQ) : ok_st s s := ⟨⟨_, rfl⟩, Nat.le_refl _, Nat.le_refl _⟩
theorem ok_st.tr {s t u : aQ} (h : ok_st s t) (h2 : ok_st t u) : ok_st s u := by
  obtain ⟨⟨is, e⟩, a, b⟩ := h
  obtain ⟨⟨js, f⟩, a2, b2⟩ := h2
  refine ⟨⟨js, ?_⟩, by omega, by omega⟩
  rw [f, e]
theorem ok_W.adv {m h : Nat} {s : aQ} (tx : Nat → Int32) (ok : ok_W m s h) : ok_W m (ab_adv tx m s) h ∧ ok_st s (ab_adv tx m s) ∧ s.1 ≤ (ab_adv tx m s).2.1 := by
  obtain ⟨o1, o2, o3, o4⟩ := ok
  obtain ⟨a1, a2⟩ := ok_Q.adv tx o1
  have := o1.1
  refine ⟨⟨a1, fun e => tk_VB e, o3, ?_⟩, ⟨⟨_, rfl⟩, by omega, ?_⟩, a2⟩
  · show s.2.2.2.2.2.2.2.2.2.2.length ≤ _; omega
  · show s.2.2.2.2.2.2.2.2.2.2.length + _ ≤ s.2.2.2.2.2.2.2.2.2.2.length + _; omega
abbrev aO : Type := Sum aE aQ
section LV
variable (rr d m q b : Nat) (tx : Nat → Int32)
def cW : aO → pm_I → Prop
  | .inl e, J => cp_E J rr d e
  | .inr s, J => cp_Q J rr d m tx s
def cC (C : pm_I → (pm_I → Prop) → Prop) (s : aQ) (o : aO) : Prop := ∀ (J : pm_I) (K : pm_I → Prop), cp_Q J rr d m tx s → (∀ L, cW rr d m tx o L → ob_fr (cp_f rr d) J L → K L) → C J K
def cX (C : pm_I → (pm_I → Prop) → Prop) : Prop := ∀ (e : aE) (J : pm_I) (K : pm_I → Prop), cp_E J rr d e → (∀ L, cp_E L rr d e → ob_fr (cp_f rr d) J L → K L) → C J K
def rG : aO → pm_I → (Int32 → pm_I → Prop) → Prop
  | .inl e, J, K => ∀ L, rp_E L q e → rp_fr q J L → L q 22 = nI b → K 0 L
  | .inr s, J, K => ∀ L, rp_Q L q m tx s → rp_fr q J L → L q 22 = nI b → K 1 L
def rC (R : pm_I → (Int32 → pm_I → Prop) → Prop) (s : aQ) (o : aO) : Prop := ∀ (J : pm_I) (K : Int32 → pm_I → Prop), rp_Q J q m tx s → J q 22 = nI b → rG m q b tx o J K → R J K
def oX (s : aQ) (h : Nat) (o : aO) : Prop := (∀ e, o = .inl e → ¬ e.1 = 0 ∧ e.2 ≤ m) ∧ ∀ s', o = .inr s' → ok_W m s' h ∧ ok_st s s'
end LV
def lb2 (G : pm_G) (q0 : Nat) (F : pm_I → (pm_I → Prop) → Prop) (a1 a2 c1 c2 : Int32) (K : pm_I → Prop) (P11 : Int32 → pm_I → Prop) (x13 : Int32) (I12 : pm_I) : Prop :=
  (600 ≤ x13 → K I12) ∧ (¬ 600 ≤ x13 → (((I12 q0 5) = a1 → ((¬ (I12 q0 5) = a1 → (wX2_advance G (q0) I12 (fun I14 => F I14 (fun I15 => pm_k G ((I15 (q0) 2).toNatClampNeg) (.inl 1) ∧ (wX3_put G ((I15 (q0) 2).toNatClampNeg + 5) c2 I15 (fun I17 => P11 (x13 + 1) I17)))))) ∧ ((I12 q0 5) = a1 → (wX2_advance G (q0) I12 (fun I18 => F I18 (fun I19 => pm_k G ((I19 (q0) 2).toNatClampNeg) (.inl 1) ∧ (wX3_put G ((I19 (q0) 2).toNatClampNeg + 5) c1 I19 (fun I21 => P11 (x13 + 1) I21)))))))) ∧ (¬ (I12 q0 5) = a1 → ((¬ (I12 q0 5) = a2 → K I12) ∧ ((I12 q0 5) = a2 → ((¬ (I12 q0 5) = a1 → (wX2_advance G (q0) I12 (fun I22 => F I22 (fun I23 => pm_k G ((I23 (q0) 2).toNatClampNeg) (.inl 1) ∧ (wX3_put G ((I23 (q0) 2).toNatClampNeg + 5) c2 I23 (fun I25 => P11 (x13 + 1) I25)))))) ∧ ((I12 q0 5) = a1 → (wX2_advance G (q0) I12 (fun I26 => F I26 (fun I27 => pm_k G ((I27 (q0) 2).toNatClampNeg) (.inl 1) ∧ (wX3_put G ((I27 (q0) 2).toNatClampNeg + 5) c1 I27 (fun I29 => P11 (x13 + 1) I29))))))))))))
def lb1 (G : pm_G) (q0 : Nat) (F : pm_I → (Int32 → pm_I → Prop) → Prop) (a1 a2 c1 c2 : Int32) (K : Int32 → pm_I → Prop) (P12 : pm_I → Prop) (I13 : pm_I) : Prop :=
  wX7_isSignHere G (q0) a1 I13 (fun r15 I14 => (¬ r15 = 0 → ((¬ (I14 q0 15) = a1 → (wX7_advance G (q0) I14 (fun I16 => F I16 (fun r18 I17 => (¬ r18 = 0 → (wX7_emit G (q0) c2 I17 (fun r20 I19 => P12  I19))) ∧ (r18 = 0 → K 0 I17))))) ∧ ((I14 q0 15) = a1 → (wX7_advance G (q0) I14 (fun I21 => F I21 (fun r23 I22 => (¬ r23 = 0 → (wX7_emit G (q0) c1 I22 (fun r25 I24 => P12  I24))) ∧ (r23 = 0 → K 0 I22))))))) ∧ (r15 = 0 → (wX7_isSignHere G (q0) a2 I14 (fun r27 I26 => (r27 = 0 → K 1 I26) ∧ (¬ r27 = 0 → ((¬ (I26 q0 15) = a1 → (wX7_advance G (q0) I26 (fun I28 => F I28 (fun r30 I29 => (¬ r30 = 0 → (wX7_emit G (q0) c2 I29 (fun r32 I31 => P12  I31))) ∧ (r30 = 0 → K 0 I29))))) ∧ ((I26 q0 15) = a1 → (wX7_advance G (q0) I26 (fun I33 => F I33 (fun r35 I34 => (¬ r35 = 0 → (wX7_emit G (q0) c1 I34 (fun r37 I36 => P12  I36))) ∧ (r35 = 0 → K 0 I34)))))))))))
def lvC (G : pm_G) (q0 : Nat) (F : pm_I → (pm_I → Prop) → Prop) (a1 a2 c1 c2 : Int32) (I : pm_I) (K : pm_I → Prop) : Prop := F I (fun I10 => pm_lp2 (lb2 G q0 F a1 a2 c1 c2 K) 0 I10)
def lvR (G : pm_G) (q0 : Nat) (F : pm_I → (Int32 → pm_I → Prop) → Prop) (a1 a2 c1 c2 : Int32) (I : pm_I) (K : Int32 → pm_I → Prop) : Prop := F I (fun r11 I10 => (¬ r11 = 0 → pm_lp1 (lb1 G q0 F a1 a2 c1 c2 K) I10) ∧ (r11 = 0 → K 0 I10))
theorem lvC_term (Rr : Nat → Int32 → pm_I → (pm_I → Prop) → Prop) (G : pm_G) (q0 : Nat) (x1 : Int32) (I : pm_I) (K : pm_I → Prop) : wX2_readTerm Rr G q0 x1 I K = lvC G q0 (wX2_readFactor Rr G q0 x1) 42 47 (-8) (-9) I K := rfl
theorem lvC_sum (Rr : Nat → Int32 → pm_I → (pm_I → Prop) → Prop) (G : pm_G) (q0 : Nat) (x1 : Int32) (I : pm_I) (K : pm_I → Prop) : wX2_readSumF Rr G q0 x1 I K = lvC G q0 (wX2_readTerm Rr G q0 x1) 43 45 (-6) (-7) I K := rfl
theorem lvR_term (Rr : Nat → pm_I → (Int32 → pm_I → Prop) → Prop) (G : pm_G) (q0 : Nat) (I : pm_I) (K : Int32 → pm_I → Prop) : wX7_term Rr G q0 I K = lvR G q0 (wX7_factor Rr G q0) 42 47 (-3) (-4) I K := rfl
theorem lvR_sum (Rr : Nat → pm_I → (Int32 → pm_I → Prop) → Prop) (G : pm_G) (q0 : Nat) (I : pm_I) (K : Int32 → pm_I → Prop) : wX7_sumF Rr G q0 I K = lvR G q0 (wX7_term Rr G q0) 43 45 (-1) (-2) I K := rfl
