/-! ===== the law's loop ===== -/
/-- what n turns ask for -/
def wRun (G : pm_G) (xs : Nat → Int32) : Nat → Nat → pm_I → Prop
  | 0, _, _ => True
  | n + 1, i, I => wStep G xs (nI i) I (fun I' => wRun G xs n (i + 6) I')
theorem nI_add6 {i : Nat} : nI i + 6 = nI (i + 6) := by
  have h1 := nI_1 i
  have h2 := nI_1 (i + 1)
  have h3 := nI_1 (i + 2)
  have h4 := nI_1 (i + 3)
  have h5 := nI_1 (i + 4)
  have h6 := nI_1 (i + 5)
  rw [← h6, ← h5, ← h4, ← h3, ← h2, ← h1]
  have e : (6 : Int32) = 1 + 1 + 1 + 1 + 1 + 1 := by decide
  rw [e]
  simp only [Int32.add_assoc]
theorem law_len {L : Nat} (hL : L ≤ 3072) : (Int32.ofNat L - 6).toInt = (L : Int) - 6 := by
  rw [Int32.toInt_sub, Int32.toInt_ofNat_of_lt (by omega)]
  have : (6 : Int32).toInt = 6 := by decide
  rw [this]
  first
    | exact Int.bmod_eq_of_le_mul_two (by omega) (by omega)
    | (unfold Int.bmod; dsimp only; split <;> omega)
theorem law_i {i : Nat} (h : i ≤ 4000) : (nI i).toInt = (i : Int) := Int32.toInt_ofNat_of_lt (by omega)
theorem law_gt {L i : Nat} (hL : L ≤ 3072) (hi : i ≤ 4000) : Int32.ofNat L - 6 < nI i ↔ L < i + 6 := by
  rw [Int32.lt_iff_toInt_lt, law_len hL, law_i hi]
  omega
/-- the law's frame: its own X -/
abbrev pm_XL (p : Program) (l : Launch) (e : Env) (s : State) (m : MethodId) (b0 : Nat) (below : List Frame) (meth : Method) (c : Code) : pm_X := (p, l, e, room_1, s, m, #[Value.ref b0], below, meth, c, lw_Z below #[Value.ref b0] s)
theorem l_ret {G : pm_G} {p : Program} {l : Launch} {e : Env} {s : State} {m : MethodId} {below : List Frame} {meth : Method} {c : Code} {b0 a b : Nat} {ls : List (Option Value)} {I : pm_I} (hC : pm_C G (pm_XL p l e s m b0 below meth c) cL_law 7 RL (some .boolean) room_1) (hbs : pm_b G = s.heap.size) (h1 : a ≤ 601024) (h2 : b ≤ 7293034) : pm_R G (pm_XL p l e s m b0 below meth c) 7 a b 2115 ls [.int 1] I := by
  obtain ⟨hx, hb, hr, -, -, hlk, -, -, -⟩ := hC
  intro H locs la hP hS hL
  exact va_forget (fun q hq => by have h9 : pm_b G ≤ q.base := hS.2.2 q hq; rw [hbs] at h9; exact h9) (W.widen h1 h2 (lw_ret hx hb hr hlk dL_law_2115))
set_option maxRecDepth 20000 in
theorem law_loop {G : pm_G} {p : Program} {l : Launch} {e : Env} {s : State} {m : MethodId} {below : List Frame} {meth : Method} {c : Code} {b0 L : Nat} {xs : Nat → Int32} (hL : L ≤ 3072) (hC : pm_C G (pm_XL p l e s m b0 below meth c) cL_law 7 RL (some .boolean) room_1) (hbs : pm_b G = s.heap.size)
    (hE : ∀ x4, vp_in (x4 + 1) L → vp_in (x4 + 2) L → vp_in (x4 + 3) L → vp_in (x4 + 4) L → vp_in (x4 + 5) L → pm_E7 G (pm_XL p l e s m b0 below meth c) L xs x4) (hs : pm_scr G (pm_XL p l e s m b0 below meth c) L xs) :
    ∀ (n i a b : Nat) (I : pm_I), i + 6 * n ≤ L → L < i + 6 * n + 6 → a + 40 * n ≤ 601024 → b + 400 * n ≤ 7293034 → wRun G xs n i I → pm_R G (pm_XL p l e s m b0 below meth c) 7 a b 23 [some (.ref 4000000), some (.ref 1), some (.ref 499), some (.ref 515), some (.int (nI i)), none, none] [] I := by
  intro n
  induction n with
  | zero =>
    intro i a b I h1 h2 h3 h4 _
    refine r_iload 23 hC dL_law_23 rfl ?_
    refine r_aload_n 25 hC dL_law_25 rfl rfl ?_
    refine r_xlen 26 hC hs dL_law_26 ?_
    refine r_bipush 27 (v := 6) hC dL_law_27 (by decide) ?_
    refine r_isub 29 hC dL_law_29 ?_
    refine r_icmp_gt 30 2114 hC dL_law_30 (by decide) (fun _ => ?_) (fun hc => absurd ((law_gt hL (by omega)).mpr (by omega)) hc)
    refine r_iconst 2114 (v := 1) hC dL_law_2114 (by decide) ?_
    exact l_ret hC hbs (by omega) (by omega)
  | succ n ih =>
    intro i a b I h1 h2 h3 h4 h
    have hj : ∀ j : Nat, j < 6 → vp_in (nI (i + j)) L := fun j hj => vp_in_nI (by omega) (by omega)
    have e1 : nI i + 1 = nI (i + 1) := nI_1 i
    have e2 : nI i + 2 = nI (i + 2) := by rw [← nI_1 (i + 1), ← e1, Int32.add_assoc]; rfl
    have e3 : nI i + 3 = nI (i + 3) := by rw [← nI_1 (i + 2), ← e2, Int32.add_assoc]; rfl
    have e4 : nI i + 4 = nI (i + 4) := by rw [← nI_1 (i + 3), ← e3, Int32.add_assoc]; rfl
    have e5 : nI i + 5 = nI (i + 5) := by rw [← nI_1 (i + 4), ← e4, Int32.add_assoc]; rfl
    have hE' := hE (nI i) (by rw [e1]; exact hj 1 (by omega)) (by rw [e2]; exact hj 2 (by omega)) (by rw [e3]; exact hj 3 (by omega)) (by rw [e4]; exact hj 4 (by omega)) (by rw [e5]; exact hj 5 (by omega))
    refine r_iload 23 hC dL_law_23 rfl ?_
    refine r_aload_n 25 hC dL_law_25 rfl rfl ?_
    refine r_xlen 26 hC hs dL_law_26 ?_
    refine r_bipush 27 (v := 6) hC dL_law_27 (by decide) ?_
    refine r_isub 29 hC dL_law_29 ?_
    refine r_icmp_gt 30 2114 hC dL_law_30 (by decide) (fun hc => absurd ((law_gt hL (by omega)).mp hc) (by omega)) (fun _ => ?_)
    have h' : wStep G xs (nI i) I (fun I' => wRun G xs n (i + 6) I') := h
    have hr1 : room_1.cells = 601024 := rfl
    have hr2 : room_1.slots = 7293034 := rfl
    refine sStep hC hE' (hj 0 (by omega)) I (fun I' => wRun G xs n (i + 6) I') ⟨by rw [hr1]; omega, by rw [hr2]; omega⟩ h' (fun I9 h9 => ?_)
    refine r_iinc 2108 (v := nI (i + 6)) [some (.ref 4000000), some (.ref 1), some (.ref 499), some (.ref 515), some (.int (nI (i + 6))), none, none] hC dL_law_2108 rfl nI_add6 (by decide) rfl ?_
    refine r_goto 2111 23 hC dL_law_2111 (by decide) ?_
    exact ih (i + 6) (a + 40) (b + 400) I9 (by omega) (by omega) (by omega) (by omega) h9
