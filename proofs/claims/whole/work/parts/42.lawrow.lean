section PMZ
variable {G : pm_G} {X : pm_X} {cc : ByteArray} {nL a b mc ms L : Nat} {own : String} {ret : Option FieldType} {rm : Room} {ls : List (Option Value)} {st : List Value} {I : pm_I} {xs : Nat → Int32}
theorem r_less (pc : Nat) {ls' : List (Option Value)} (h : ∀ (i : Nat) (v : Value), ls'[i]? = some (some v) → ls[i]? = some (some v)) (k : pm_R G X nL a b pc ls' st I) : pm_R G X nL a b pc ls st I := by
  obtain ⟨p, l, e, R, s, m, args, below, meth, c, Q⟩ := X
  intro H locs la hP hS hL
  refine k H locs la hP hS ?_
  obtain ⟨l9, h1, h2⟩ := hL
  exact ⟨l9, h1, fun i v hv => h2 i v (h i v hv)⟩
/-- script[i + j] -/
theorem l_arg (pc : Nat) {n : Int} {j x4 : Int32} (hC : pm_C G X cc nL own ret rm) (hs : pm_scr G X L xs) (h0 : ls[0]? = some (some (.ref 4000000))) (h4 : ls[4]? = some (some (.int x4))) (hin : vp_in (x4 + j) L) (hj : Int32.ofInt n = j) (d0 : decode cc pc = .ok (.aload_n 0, 1)) (d1 : decode cc (pc + 1) = .ok (.iload 4, 2)) (d3 : decode cc (pc + 3) = .ok (.iconst n, 1)) (d4 : decode cc (pc + 4) = .ok (.iadd, 1)) (d5 : decode cc (pc + 5) = .ok (.iaload, 1)) (k : pm_R G X nL a b (pc + 6) ls (.int (xs (x4 + j).toNatClampNeg) :: st) I) : pm_R G X nL a b pc ls st I := by
  refine r_aload_n pc hC d0 rfl h0 ?_
  refine r_iload (pc + 1) hC d1 h4 ?_
  refine r_iconst (pc + 3) (v := j) hC d3 hj ?_
  refine r_iadd (pc + 4) hC d4 ?_
  exact r_xld (pc + 5) hC hs hin d5 k
/-- v != 0, as a number -/
theorem l_bool (pc : Nat) {x : Int32} (hC : pm_C G X cc nL own ret rm) (d0 : decode cc pc = .ok (.ifCond .eq 7, 3)) (d3 : decode cc (pc + 3) = .ok (.iconst 1, 1)) (d4 : decode cc (pc + 4) = .ok (.goto 4, 3)) (d7 : decode cc (pc + 7) = .ok (.iconst 0, 1)) (k : pm_R G X nL a b (pc + 8) ls (.int (if x = 0 then 0 else 1) :: st) I) : pm_R G X nL a b pc ls (.int x :: st) I := by
  refine r_if_eq pc (pc + 7) hC d0 (by omega) (fun hx => ?_) (fun hx => ?_)
  · refine r_iconst (pc + 7) (v := 0) hC d7 (by decide) ?_
    rw [if_pos hx] at k
    exact k
  · refine r_iconst (pc + 3) (v := 1) hC d3 (by decide) ?_
    refine r_goto (pc + 4) (pc + 8) hC d4 (by omega) ?_
    rw [if_neg hx] at k
    exact k
end PMZ
theorem pm_less7 {x4 k b : Int32} {p5 p6 : Option Value} : ∀ (i : Nat) (v : Value), ([some (.ref 4000000), some (.ref 1), some (.ref 499), some (.ref 515), some (.int x4), none, none] : List (Option Value))[i]? = some (some v) → ([some (.ref 4000000), some (.ref 1), some (.ref 499), some (.ref 515), some (.int x4), p5, p6] : List (Option Value))[i]? = some (some v) := by
  intro i v h
  match i with
  | 0 => exact h
  | 1 => exact h
  | 2 => exact h
  | 3 => exact h
  | 4 => exact h
  | 5 => simp at h
  | 6 => simp at h
  | i + 7 => simp at h
theorem lg_cmp_0 (x : Int64) : lg_cmp x x = 0 := by
  unfold lg_cmp
  simp
