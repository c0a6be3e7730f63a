/-! ===== THE START OF A RUN ===== -/
def ab_A0 : aT := (0, fun _ => 0, fun _ => 0, fun _ => (fun _ => 0, 0, fun _ _ => 0))
theorem ab_lk_0 (a : Nat) : ∀ n, ab_lk ab_D0 a n = 0
  | 0 => rfl
  | n + 1 => by
    show (if ab_D0.2.2.2.1 (8 * a + n) = 0 then ab_lk ab_D0 a n else ab_lk ab_D0 a n ||| (1 <<< (nI n &&& 31))) = 0
    rw [if_pos (show ab_D0.2.2.2.1 (8 * a + n) = 0 from rfl)]
    exact ab_lk_0 a n
theorem make_all {G : pm_G} {I : pm_I} {K : pm_I → Prop} (hk : ∀ J, gS 0 J → K J) : wMake G I K := by
  unfold wMake
  generalize hY : pm_up (pm_zb (pm_n6 I 1) 499 16) 499 17 (-1) = Y
  have y1 : ∀ r, 1 ≤ r → r < 499 → Y r = pm_z6 1 r := fun r h1 h2 => by
    rw [← hY, ob_ur (by omega)]
    show (if 499 ≤ r ∧ r < 499 + 16 then (fun _ => 0) else pm_n6 I 1 r) = _
    rw [if_neg (by omega)]
    show (if 1 ≤ r ∧ r < 1 + 498 then pm_z6 1 r else I r) = _
    rw [if_pos ⟨h1, by omega⟩]
  have y9 : ∀ j, j ≠ 17 → Y 499 j = 0 := fun j hj => by
    rw [← hY, ob_uq hj]
    show (if 499 ≤ 499 ∧ 499 < 499 + 16 then (fun _ => 0) else pm_n6 I 1 499) j = 0
    rw [if_pos ⟨by decide, by decide⟩]
  have y17 : Y 499 17 = -1 := by rw [← hY, ob_us]
  have z1 : Y 1 1 = 0 ∧ Y 1 2 = -1 ∧ Y 1 3 = nI 3 ∧ Y 1 4 = nI 11 := by
    rw [y1 1 (by decide) (by decide)]
    have : pm_z6 1 1 = upd (upd (upd (fun _ => 0) 2 (-1)) 3 (nI (1 + 2))) 4 (nI (1 + 10)) := if_pos rfl
    rw [this]
    refine ⟨?_, ?_, ?_, ?_⟩
    · rw [pk_un (by decide), pk_un (by decide), pk_un (by decide)]
    · rw [pk_un (by decide), pk_un (by decide), pk_us]
    · rw [pk_un (by decide), pk_us]
    · rw [pk_us]
  have z3 : ∀ r, 3 ≤ r → r < 11 → Y r = pm_clr pm_00 3 r := fun r h1 h2 => by
    rw [y1 r (by omega) (by omega)]
    unfold pm_z6
    rw [if_neg (by omega), if_pos ⟨by omega, by omega⟩]
  have z19 : ∀ r, 19 ≤ r → r < 499 → Y r = fun _ => 0 := fun r h1 h2 => by
    rw [y1 r (by omega) (by omega)]
    unfold pm_z6
    rw [if_neg (by omega), if_neg (by omega), if_neg (by omega)]
  clear hY y1
  refine rp_clear (fun L1 d1 l0 l9 f1 => ?_)
  refine rp_lall d1 (by rw [np_D0]; decide) (by decide) (fun L2 p2 f2 => ?_)
  refine rp_beg ab_A0 p2 ok_D0 (fun U hU u26 uq u0 u1 ur => ?_)
  refine hk _ ?_
  have nr : ∀ r, r ≠ 515 → pm_nw U 515 r = U r := fun r hr => by unfold pm_nw; rw [if_neg hr]
  have uY : ∀ r, r < 499 → pm_nw U 515 r = Y r := fun r hr => by rw [nr r (by omega), ur r (by omega) (by omega) (by omega), f2 r (by omega), f1.1 r (by omega)]
  have u9 : ∀ j, j ≠ 26 → pm_nw U 515 499 j = Y 499 j := fun j hj => by rw [nr 499 (by omega), uq j hj, f2 499 (by omega), l0]
  refine ⟨0, fun _ => 0, -1, ab_D0, ab_beg ab_D0 ab_A0, 0, fun _ => ab_A0, fun _ => false, fun _ => ab_A0, ⟨⟨?_, fun k hk => absurd hk (Nat.not_lt_zero k), ?_⟩, ⟨3, Or.inl rfl, ?_, ?_, ⟨⟨?_, fun k hk => ?_, fun k hk => ?_, fun i hi => ⟨fun j hj => ?_, fun ho => absurd (show (0 : Int32) = 1 from ho) (by decide)⟩⟩, ?_, by decide⟩⟩, ⟨0, by decide, ?_, ?_, by decide, fun k hk => absurd hk (Nat.not_lt_zero k)⟩, fun s hs => ⟨?_, fun h => by cases h⟩⟩, ⟨⟨?_, fun k hk => absurd hk (Nat.not_lt_zero k), ?_⟩, ⟨?_, hU.2.rw (fun r h1 h2 => nr r (by omega))⟩, ⟨?_, by decide, fun k hk => absurd hk (Nat.not_lt_zero k)⟩, fun s hs => ⟨?_, fun h => by cases h⟩⟩, ⟨Nat.zero_le _, ok_D0, ok_beg ok_D0, fun k hk => absurd hk (Nat.not_lt_zero k), fun s hs h => by cases h⟩⟩
  · rw [uY 1 (by decide)]; exact z1.1
  · rw [uY 1 (by decide)]; exact z1.2.1
  · rw [uY 1 (by decide)]; exact z1.2.2.1
  · rw [uY 1 (by decide)]; exact z1.2.2.2
  · rw [uY (1 + 18) (by decide), z19 (1 + 18) (by decide) (by decide)]; rfl
  · rw [uY (1 + 18 + 1) (by decide), z19 (1 + 18 + 1) (by decide) (by decide)]; exact (ab_lk_0 k 8).symm
  · rw [uY (1 + 18 + 2) (by decide), z19 (1 + 18 + 2) (by decide) (by decide)]; rfl
  · rw [uY (1 + 18 + 3 + 1 + 5 * i) (by omega), z19 (1 + 18 + 3 + 1 + 5 * i) (by omega) (by omega)]
    show (0 : Int32) = upd (fun _ => 0) 0 0 j
    by_cases e : j = 0
    · rw [e, pk_us]
    · rw [pk_un e]
  · exact (cl_D0 pm_00 3).rw (fun r h1 h2 _ => by rw [uY r (by omega), z3 r h1 (by omega)]) (by rw [uY (3 + 5) (by decide), z3 (3 + 5) (by decide) (by decide)])
  · rw [uY (1 + 86) (by decide), z19 (1 + 86) (by decide) (by decide)]; rfl
  · rw [uY (1 + 86) (by decide), z19 (1 + 86) (by decide) (by decide)]; rfl
  · rw [uY (1 + 497) (by decide), z19 (1 + 497) (by decide) (by decide)]; rfl
  · rw [u9 10 (by decide)]; exact y9 10 (by decide)
  · rw [u9 17 (by decide)]; exact y17
  · rw [nr (499 + 1) (by decide)]; exact hU.1
  · rw [nr 499 (by decide)]; exact u26
  · rw [nr (499 + 15) (by decide)]
    have : s = 0 ∨ s = 1 := by omega
    rcases this with e | e
    · rw [e]; exact u0
    · rw [e]; exact u1
/-- the pure part: from the start, every script of up to 512 calls -/
theorem pure_all {G : pm_G} {I : pm_I} {xs : Nat → Int32} {n : Nat} (hG : gK G) (hn : n ≤ 512) : wMake G I (fun I => wRun G xs n 0 I) := make_all (fun J hJ => run_all hG n 0 0 J (by omega) hJ)
