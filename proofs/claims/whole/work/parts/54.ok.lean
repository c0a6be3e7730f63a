/-! ===== what holds of the sessions is kept ===== -/
theorem ob_it_ok {A : Type} {Q : A → Prop} {f : A → Nat → A} {n : Nat} (h : ∀ a i, i < n → Q a → Q (f a i)) {a : A} (ha : Q a) : ∀ i, i ≤ n → Q (ob_it f i a)
  | 0, _ => ha
  | i + 1, hi => h _ i (by omega) (ob_it_ok h ha i (by omega))
theorem ob_rng (x : Int32) : -2147483648 ≤ x.toInt ∧ x.toInt < 2147483648 := by
  have h1 := Int32.le_toInt x
  have h2 := Int32.toInt_lt x
  omega
theorem ob_addI {x y : Int32} (h1 : -2147483648 ≤ x.toInt + y.toInt) (h2 : x.toInt + y.toInt < 2147483648) : (x + y).toInt = x.toInt + y.toInt := by
  rw [Int32.toInt_add]
  rw [Int.bmod_def]
  omega
theorem ob_le (a b : Int32) : a ≤ b ↔ a.toInt ≤ b.toInt := Int32.le_iff_toInt_le
theorem ob_lt (a b : Int32) : a < b ↔ a.toInt < b.toInt := Int32.lt_iff_toInt_lt
theorem ob_eq (a b : Int32) : a = b ↔ a.toInt = b.toInt := Int32.toInt_inj.symm
theorem ob_i1 : (1 : Int32).toInt = 1 := by decide
theorem ob_i0 : (0 : Int32).toInt = 0 := by decide
theorem ok_rt.wd {n m : Nat} {x : Int32} (h : ok_rt n x) (hn : n ≤ m) : ok_rt m x := h.imp id (Or.imp id (fun hx => hx.wd hn))
theorem ok_S.g {P : aP} {c : Nat} {s : aS} (h : ok_S P c s) (h0 : s.1 0 = 1) (hc : c < 1048576) : ∃ d, cl_g s d := by
  obtain ⟨_, _, _, _, _, ⟨d, h8, h7, hd⟩, hn, _⟩ := h
  exact ⟨d, h0, h8, h7, by omega, hn⟩
theorem ok_S.up {P : aP} {c c' : Nat} {s : aS} (h : ok_S P c s) (hc : c ≤ c') : ok_S P c' s := by
  obtain ⟨h1, h2, h3, h4, h5, ⟨d, h8, h7, hd⟩, h9⟩ := h
  exact ⟨h1, h2, h3, h4, h5, ⟨d, h8, h7, by omega⟩, h9⟩
theorem ok_S.f5 {P : aP} {c : Nat} {s : aS} {v : Int32} (h : ok_S P c s) (hv : v = -1 ∨ ob_ix (ab_np P) v) : ok_S P c (ab_f s 5 v) := by
  obtain ⟨h1, h2, h3, h4, h5, h6, h7, h8, h9, h10⟩ := h
  exact ⟨h1, h2, h3, hv, h5, h6, h7, h8, h9, h10⟩
theorem ok_S.f6 {P : aP} {c : Nat} {s : aS} {v : Int32} (h : ok_S P c s) (hv : 0 ≤ v.toInt ∧ v.toInt < (P.1 7).toInt) : ok_S P c (ab_f s 6 v) := by
  obtain ⟨h1, h2, h3, h4, h5, h6, h7, h8, h9, h10⟩ := h
  exact ⟨h1, h2, h3, h4, hv, h6, h7, h8, h9, h10⟩
/-- all but the last hold after a change of the path -/
theorem ok_cp_F {s : aS} {x : Int32} : (∀ j, j ≠ 4 → j ≠ 9 → j ≠ 10 → (ab_cp s x).1 j = s.1 j) ∧ (ab_cp s x).1 4 = x ∧ (ab_cp s x).2 = s.2 ∧ ((ab_cp s x).1 10 = s.1 10 ∨ (ab_cp s x).1 10 = 0) := by
  unfold ab_cp
  by_cases h : x ≠ s.1 4 ∧ 0 < s.1 10
  · rw [if_pos h]
    refine ⟨fun j h4 h9 h10 => ?_, rfl, rfl, Or.inr rfl⟩
    show upd (upd (upd s.1 9 _) 10 _) 4 _ j = _
    rw [pk_un h4, pk_un h10, pk_un h9]
  · rw [if_neg h]
    refine ⟨fun j h4 h9 h10 => ?_, rfl, rfl, Or.inl rfl⟩
    show upd s.1 4 _ j = _
    rw [pk_un h4]
theorem ok_S.cp {P : aP} {c : Nat} {s : aS} {x : Int32} (h : ok_S P c s) (hx : ok_rt (ab_np P) x) (hw : ¬ x = -1 → ∀ k, k < s.2.1 → ¬ s.2.2 k 2 = -1) : ok_S P c (ab_cp s x) := by
  obtain ⟨h1, h2, h3, h4, h5, h6, h7, h8, h9, h10⟩ := h
  obtain ⟨e, e4, e2, e10⟩ := ok_cp_F (s := s) (x := x)
  refine ⟨by rw [e 1 (by decide) (by decide) (by decide)]; exact h1, by rw [e 2 (by decide) (by decide) (by decide)]; exact h2, by rw [e4]; exact hx, by rw [e 5 (by decide) (by decide) (by decide)]; exact h4, by rw [e 6 (by decide) (by decide) (by decide)]; exact h5, ?_, by rw [e2]; exact h7, ?_, by rw [e2]; exact h9, by rw [e4, e2]; exact hw⟩
  · obtain ⟨d, h8, h7, hd⟩ := h6
    exact ⟨d, by rw [e 8 (by decide) (by decide) (by decide)]; exact h8, by rw [e 7 (by decide) (by decide) (by decide), e2]; exact h7, by rw [e2]; exact hd⟩
  · rcases e10 with e10 | e10
    · rw [e10]; exact h8
    · rw [e10]
      have := h8
      exact ⟨by decide, by have : (0 : Int32).toInt = 0 := by decide
                           omega⟩
theorem ok_S.tak {P : aP} {c : Nat} {s : aS} {x t : Int32} (h : ok_S P c s) (hx : ok_rt (ab_np P) x) (hn : ¬ x = -1) : ok_S P c (ab_tak P t s x) := by
  obtain ⟨e, e4, e2, e10⟩ := ok_cp_F (s := s) (x := x)
  obtain ⟨h1, h2, h3, h4, h5, h6, h7, h8, h9, h10⟩ := h
  have e21 : (ab_cp s x).2.1 = s.2.1 := by rw [e2]
  have e22 : (ab_cp s x).2.2 = s.2.2 := by rw [e2]
  refine ⟨?_, ?_, ?_, ?_, ?_, ?_, ?_, ?_, ?_, ?_⟩
  · show ob_ix _ ((ab_cp s x).1 1)
    rw [e 1 (by decide) (by decide) (by decide)]; exact h1
  · show ob_ix _ ((ab_cp s x).1 2)
    rw [e 2 (by decide) (by decide) (by decide)]; exact h2
  · show ok_rt _ ((ab_cp s x).1 4)
    rw [e4]; exact hx
  · show (ab_cp s x).1 5 = -1 ∨ ob_ix _ ((ab_cp s x).1 5)
    rw [e 5 (by decide) (by decide) (by decide)]; exact h4
  · show 0 ≤ ((ab_cp s x).1 6).toInt ∧ ((ab_cp s x).1 6).toInt < _
    rw [e 6 (by decide) (by decide) (by decide)]; exact h5
  · obtain ⟨d, h8, h7, hd⟩ := h6
    refine ⟨d, ?_, ?_, ?_⟩
    · show (ab_cp s x).1 8 = _
      rw [e 8 (by decide) (by decide) (by decide)]; exact h8
    · show (ab_cp s x).1 7 = nI (d + (ab_cp s x).2.1)
      rw [e 7 (by decide) (by decide) (by decide), e21]; exact h7
    · show d + (ab_cp s x).2.1 ≤ c
      rw [e21]; exact hd
  · show (ab_cp s x).2.1 ≤ 24
    rw [e21]; exact h7
  · show 0 ≤ ((ab_cp s x).1 10).toInt ∧ ((ab_cp s x).1 10).toInt ≤ _
    rcases e10 with e10 | e10
    · rw [e10]; exact h8
    · rw [e10, ob_i0]; exact ⟨by omega, by omega⟩
  · intro k hk
    have hk' : k < s.2.1 := by
      have : k < (ab_cp s x).2.1 := hk
      rw [e21] at this; exact this
    show (if (ab_cp s x).2.2 k 2 = -1 then ab_mv ((ab_cp s x).2.2 k) ((ab_cp s x).1 4) _ else (ab_cp s x).2.2 k) 2 = -2 ∨ ok_rt _ ((if (ab_cp s x).2.2 k 2 = -1 then ab_mv ((ab_cp s x).2.2 k) ((ab_cp s x).1 4) _ else (ab_cp s x).2.2 k) 2)
    rw [e22, e4]
    by_cases hw : s.2.2 k 2 = -1
    · rw [if_pos hw]; exact Or.inr hx
    · rw [if_neg hw]; exact h9 k hk'
  · intro _ k hk
    show ¬ (if (ab_cp s x).2.2 k 2 = -1 then ab_mv ((ab_cp s x).2.2 k) ((ab_cp s x).1 4) _ else (ab_cp s x).2.2 k) 2 = -1
    rw [e22, e4]
    by_cases hw : s.2.2 k 2 = -1
    · rw [if_pos hw]; exact hn
    · rw [if_neg hw]; exact hw
theorem ok_S.ar {P : aP} {c : Nat} {s : aS} {t : Int32} (h : ok_S P c s) : ok_S P c (ab_ar s t) := by
  obtain ⟨h1, h2, h3, h4, h5, h6, h7, h8, h9, h10⟩ := h
  refine ⟨h1, h2, h3, h4, h5, h6, h7, h8, fun k hk => ?_, fun hp k hk => ?_⟩
  · show (if 0 ≤ s.2.2 k 2 ∧ s.2.2 k 3 = t then upd (s.2.2 k) 2 (-2) else s.2.2 k) 2 = -2 ∨ ok_rt _ ((if 0 ≤ s.2.2 k 2 ∧ s.2.2 k 3 = t then upd (s.2.2 k) 2 (-2) else s.2.2 k) 2)
    by_cases hw : 0 ≤ s.2.2 k 2 ∧ s.2.2 k 3 = t
    · rw [if_pos hw]; exact Or.inl rfl
    · rw [if_neg hw]; exact h9 k hk
  · show ¬ (if 0 ≤ s.2.2 k 2 ∧ s.2.2 k 3 = t then upd (s.2.2 k) 2 (-2) else s.2.2 k) 2 = -1
    by_cases hw : 0 ≤ s.2.2 k 2 ∧ s.2.2 k 3 = t
    · rw [if_pos hw]; exact (by decide : ¬ (-2 : Int32) = -1)
    · rw [if_neg hw]; exact h10 hp k hk
theorem ok_S.pop {P : aP} {c : Nat} {s : aS} (h : ok_S P c s) (hn : 0 < s.2.1) : ok_S P c (ab_pop s) := by
  obtain ⟨h1, h2, h3, h4, h5, ⟨d, h8, h7, hd⟩, h7', h8', h9, h10⟩ := h
  have e : (ab_pop s).2.1 = s.2.1 - 1 := rfl
  refine ⟨h1, h2, h3, h4, h5, ⟨d + 1, ?_, ?_, by rw [e]; omega⟩, by rw [e]; omega, h8', fun k hk => h9 (k + 1) (by rw [e] at hk; omega), fun hp k hk => h10 hp (k + 1) (by rw [e] at hk; omega)⟩
  · show s.1 8 + 1 = _
    rw [h8, nI_1]
  · show s.1 7 = _
    rw [h7, e]; congr 1; omega
theorem ok_S.dl {P : aP} {c : Nat} : ∀ (f : Nat) {s : aS}, ok_S P c s → ok_S P c (ab_dl f s)
  | 0, _, h => h
  | f + 1, s, h => by
    show ok_S P c (if 0 < s.2.1 ∧ s.2.2 0 2 = -2 then ab_dl f (ab_pop s) else s)
    by_cases hc : 0 < s.2.1 ∧ s.2.2 0 2 = -2
    · rw [if_pos hc]; exact ok_S.dl f (h.pop hc.1)
    · rw [if_neg hc]; exact h
theorem ok_dl_0 : ∀ (f : Nat) (s : aS), (ab_dl f s).1 0 = s.1 0
  | 0, _ => rfl
  | f + 1, s => by
    show (if 0 < s.2.1 ∧ s.2.2 0 2 = -2 then ab_dl f (ab_pop s) else s).1 0 = _
    by_cases hc : 0 < s.2.1 ∧ s.2.2 0 2 = -2
    · rw [if_pos hc, ok_dl_0 f]; rfl
    · rw [if_neg hc]
theorem ok_S.arr {P : aP} {c : Nat} {s : aS} {t : Int32} (h : ok_S P c s) : ok_S P c (ab_arr s t) := h.ar.dl _
theorem ok_S.old {P : aP} {c : Nat} {s : aS} (h : ok_S P c s) : ok_S P c (ab_old s) := by
  unfold ab_old
  split
  · exact h
  · exact h.f5 (Or.inl rfl)
theorem ok_bst {P : aP} {A : aT} {s t : Int32} : ∀ n, (ab_bst P A s t n).1 = -1 ∨ ob_ix n (ab_bst P A s t n).1
  | 0 => Or.inl rfl
  | n + 1 => by
    have ih := ok_bst (P := P) (A := A) (s := s) (t := t) n
    have ih' : (ab_bst P A s t n).1 = -1 ∨ ob_ix (n + 1) (ab_bst P A s t n).1 := ih.imp id (fun h => h.wd (by omega))
    show (if _ then (if _ then _ else _) else _ : Int32 × Int32).1 = -1 ∨ ob_ix (n + 1) (if _ then (if _ then _ else _) else _ : Int32 × Int32).1
    split
    · split
      · exact Or.inr ⟨n, by omega, rfl⟩
      · exact ih'
    · exact ih'
theorem ok_best {P : aP} {A : aT} {s t : Int32} : ab_best P A s t = -1 ∨ ob_ix (ab_np P) (ab_best P A s t) := ok_bst _
theorem ok_rt_best {P : aP} {A : aT} {s t : Int32} : ok_rt (ab_np P) (ab_best P A s t) := ok_best.imp id Or.inr
theorem ok_S.prb {P : aP} {c : Nat} {A : aT} {s : aS} (hP : ok_P P) (h : ok_S P c s) (h4 : ¬ s.1 4 = 100) : ok_S P c (ab_prb P A s) := by
  have hneed := hP.2.1.2.1
  unfold ab_prb
  split
  · split
    · split
      · rename_i hc
        refine h.f6 ?_
        have h6 := h.2.2.2.2.1
        have r := ob_rng (P.1 7)
        have e : (s.1 6 + 1).toInt = (s.1 6).toInt + 1 := by rw [ob_addI (by rw [ob_i1]; omega) (by rw [ob_i1]; omega), ob_i1]
        rw [ob_lt, e] at hc
        rw [e]
        omega
      · unfold ab_upg
        have h6 : ok_S P c (ab_f (ab_f s 6 (s.1 6 + 1)) 6 0) := by
          obtain ⟨h1, h2, h3, h4, h5, h6, h7, h8, h9, h10⟩ := h
          exact ⟨h1, h2, h3, h4, ⟨by show 0 ≤ (0 : Int32).toInt; decide, by show (0 : Int32).toInt < _; rw [ob_i0]; omega⟩, h6, h7, h8, h9, h10⟩
        refine ok_S.tak ?_ (Or.inr (Or.inl rfl)) (by decide)
        split
        · exact h6
        · rename_i hn
          refine h6.f5 ?_
          have h3 := h6.2.2.1
          rcases h3 with h3 | h3 | h3
          · exact Or.inl h3
          · exact absurd h3 h4
          · exact Or.inr h3
    · exact h.f6 ⟨by decide, by rw [ob_i0]; omega⟩
  · exact h
theorem ok_tak_0 {P : aP} {t x : Int32} {s : aS} : (ab_tak P t s x).1 0 = s.1 0 := (ok_cp_F (s := s) (x := x)).1 0 (by decide) (by decide) (by decide)
theorem ok_prb_0 {P : aP} {A : aT} {s : aS} : (ab_prb P A s).1 0 = s.1 0 := by
  unfold ab_prb
  split
  · split
    · split
      · rfl
      · unfold ab_upg
        rw [ok_tak_0]
        split <;> rfl
    · rfl
  · rfl
theorem ok_old_0 {s : aS} : (ab_old s).1 0 = s.1 0 := by
  unfold ab_old
  split <;> rfl
theorem ok_T.set {P : aP} {c : Nat} {A : aT} {i : Nat} {s : aS} (h : ok_T P c A) (h0 : s.1 0 = 1) (hs : ok_S P c s) : ok_T P c (ab_set A i s) := by
  obtain ⟨h1, h2, h3, h4⟩ := h
  refine ⟨h1, h2, fun k hk => ?_, fun k hk => ?_⟩
  · show (if k = i then s else A.2.2.2 k).1 0 = 1 → ok_S P c (if k = i then s else A.2.2.2 k)
    by_cases e : k = i
    · rw [if_pos e]; exact fun _ => hs
    · rw [if_neg e]; exact h3 k hk
  · show (if k = i then s else A.2.2.2 k).1 0 = 0 ∨ (if k = i then s else A.2.2.2 k).1 0 = 1
    by_cases e : k = i
    · rw [if_pos e]; exact Or.inr h0
    · rw [if_neg e]; exact h4 k hk
theorem ok_s1 {P : aP} {c : Nat} {A : aT} {i : Nat} (hi : i < 6) (h : ok_T P c A) : ok_T P c (ab_s1 A i) := by
  unfold ab_s1
  split
  · rename_i h0
    exact h.set (by unfold ab_arr; rw [ok_dl_0]; exact h0) (h.2.2.1 i hi h0).arr
  · exact h
theorem ok_s2 {P : aP} {c : Nat} {A : aT} {i : Nat} (hP : ok_P P) (hi : i < 6) (h : ok_T P c A) : ok_T P c (ab_s2 P A i) := by
  unfold ab_s2
  split
  · rename_i h0
    exact h.set (by rw [ok_prb_0]; exact h0.1) ((h.2.2.1 i hi h0.1).prb hP h0.2)
  · exact h
theorem ok_s3 {P : aP} {c : Nat} {A : aT} {i : Nat} (hi : i < 6) (h : ok_T P c A) : ok_T P c (ab_s3 P A i) := by
  unfold ab_s3
  split
  · rename_i h0
    exact h.set (by rw [ok_tak_0]; exact h0.1.1) ((h.2.2.1 i hi h0.1.1).tak ok_rt_best h0.2)
  · exact h
theorem ok_s4 {P : aP} {c : Nat} {A : aT} {i : Nat} (hi : i < 6) (h : ok_T P c A) : ok_T P c (ab_s4 A i) := by
  unfold ab_s4
  split
  · rename_i h0
    exact h.set (by rw [ok_old_0]; exact h0) (h.2.2.1 i hi h0).old
  · exact h
theorem ok_t0 {P : aP} {c : Nat} {A : aT} (h : ok_T P c A) : ok_T P c (ab_t0 A) := h
theorem ok_tick {P : aP} {c : Nat} {A : aT} (hP : ok_P P) (h : ok_T P c A) : ok_T P c (ab_tick P A) := by
  unfold ab_tick
  refine ob_it_ok (fun a i hi ha => ok_s4 hi ha) ?_ 6 (by omega)
  refine ob_it_ok (fun a i hi ha => ok_s3 hi ha) ?_ 6 (by omega)
  refine ob_it_ok (fun a i hi ha => ok_s2 hP hi ha) ?_ 6 (by omega)
  exact ob_it_ok (fun a i hi ha => ok_s1 hi ha) (ok_t0 h) 6 (by omega)
theorem ok_lv_0 {P : aP} {A : aT} {i : Nat} {x y : Int32} : (ab_lv P A i x y).1 0 = (A.2.2.2 i).1 0 := by
  unfold ab_lv
  dsimp only
  split
  · split
    · rw [ok_cp_F.1 0 (by decide) (by decide) (by decide)]; rfl
    · rfl
  · split
    · rw [ok_cp_F.1 0 (by decide) (by decide) (by decide)]; rfl
    · rfl
theorem ok_ru_n {s : aS} {x y : Int32} : ab_ru s (-1) x y = false := by
  unfold ab_ru
  rw [if_neg (by decide), decide_eq_false (by decide)]
  rfl
theorem ok_S.lv {P : aP} {c : Nat} {A : aT} {i : Nat} {x y : Int32} (hP : ok_P P) (h : ok_S P c (A.2.2.2 i)) : ok_S P c (ab_lv P A i x y) := by
  have hneed := hP.2.1.2.1
  unfold ab_lv
  dsimp only
  have h1 : ok_S P c (if ab_ru (A.2.2.2 i) ((A.2.2.2 i).1 5) x y = true then ab_f (A.2.2.2 i) 5 (-1) else A.2.2.2 i) := by
    split
    · exact h.f5 (Or.inl rfl)
    · exact h
  generalize (if ab_ru (A.2.2.2 i) ((A.2.2.2 i).1 5) x y = true then ab_f (A.2.2.2 i) 5 (-1) else A.2.2.2 i) = s1 at h1
  split
  · rename_i hu
    refine (h1.f6 ⟨by decide, by rw [ob_i0]; omega⟩).cp ok_rt_best (fun _ => ?_)
    refine h1.2.2.2.2.2.2.2.2.2 (fun e => ?_)
    rw [e, ok_ru_n] at hu
    cases hu
  · exact h1
theorem ok_S.mm {P : aP} {c : Nat} {s : aS} {x y t : Int32} (h : ok_S P c s) : ok_S P c (ab_mm s x y t) := by
  obtain ⟨h1, h2, h3, h4, h5, h6, h7, h8, h9, h10⟩ := h
  refine ⟨h1, h2, h3, h4, h5, h6, h7, h8, fun k hk => ?_, fun hp k hk => ?_⟩
  · show (if ab_ru s (s.2.2 k 2) x y = true then ab_mv (s.2.2 k) (s.1 4) t else s.2.2 k) 2 = -2 ∨ ok_rt _ ((if ab_ru s (s.2.2 k 2) x y = true then ab_mv (s.2.2 k) (s.1 4) t else s.2.2 k) 2)
    split
    · exact Or.inr h3
    · exact h9 k hk
  · show ¬ (if ab_ru s (s.2.2 k 2) x y = true then ab_mv (s.2.2 k) (s.1 4) t else s.2.2 k) 2 = -1
    split
    · exact hp
    · exact h10 hp k hk
theorem ok_s5 {P : aP} {c : Nat} {A : aT} {i : Nat} {x y : Int32} (hP : ok_P P) (hi : i < 6) (h : ok_T P c A) : ok_T P c (ab_s5 P x y A i) := by
  unfold ab_s5
  split
  · rename_i h0
    exact h.set (by show (ab_lv P A i x y).1 0 = 1; rw [ok_lv_0]; exact h0) ((h.2.2.1 i hi h0).lv hP).mm
  · exact h
theorem ok_S.ad {P : aP} {c : Nat} {s : aS} {v t : Int32} (hP : ok_P P) (h : ok_S P c s) (hn : s.2.1 < 24) : ok_S P (c + 1) (ab_add s v (P.1 8) t) := by
  have hm := hP.2.1.2.2
  have r := ob_rng (P.1 8)
  obtain ⟨h1, h2, h3, h4, h5, ⟨d, g8, g7, hd⟩, h7, h8, h9, h10⟩ := h
  unfold ab_add
  split
  · rename_i hc
    rw [ob_lt] at hc
    have e : (s.1 10 + 1).toInt = (s.1 10).toInt + 1 := by rw [ob_addI (by rw [ob_i1]; omega) (by rw [ob_i1]; omega), ob_i1]
    refine ⟨h1, h2, h3, h4, h5, ⟨d, g8, ?_, by show d + (s.2.1 + 1) ≤ _; omega⟩, by show s.2.1 + 1 ≤ 24; omega, ⟨?_, ?_⟩, fun k hk => ?_, fun hp k hk => ?_⟩
    · show s.1 7 + 1 = nI (d + (s.2.1 + 1))
      rw [g7, nI_1]; rfl
    · show 0 ≤ (s.1 10 + 1).toInt
      rw [e]; omega
    · show (s.1 10 + 1).toInt ≤ _
      rw [e]; omega
    · have hk' : k < s.2.1 + 1 := hk
      show (if k = s.2.1 then (fun j => if j = 0 then v else if j = 1 then s.1 9 else if j = 2 then s.1 4 else t) else s.2.2 k) 2 = -2 ∨ ok_rt _ ((if k = s.2.1 then (fun j => if j = 0 then v else if j = 1 then s.1 9 else if j = 2 then s.1 4 else t) else s.2.2 k) 2)
      by_cases e : k = s.2.1
      · rw [if_pos e]; exact Or.inr h3
      · rw [if_neg e]; exact h9 k (by omega)
    · have hk' : k < s.2.1 + 1 := hk
      show ¬ (if k = s.2.1 then (fun j => if j = 0 then v else if j = 1 then s.1 9 else if j = 2 then s.1 4 else t) else s.2.2 k) 2 = -1
      by_cases e : k = s.2.1
      · rw [if_pos e]; exact hp
      · rw [if_neg e]; exact h10 hp k (by omega)
  · refine ⟨h1, h2, h3, h4, h5, ⟨d, g8, ?_, by show d + (s.2.1 + 1) ≤ _; omega⟩, by show s.2.1 + 1 ≤ 24; omega, ⟨by show 0 ≤ ((0 : Int32) + 1).toInt; decide, by show ((0 : Int32) + 1).toInt ≤ _; rw [show ((0 : Int32) + 1).toInt = 1 by decide]; exact hm⟩, fun k hk => ?_, fun hp k hk => ?_⟩
    · show s.1 7 + 1 = nI (d + (s.2.1 + 1))
      rw [g7, nI_1]; rfl
    · have hk' : k < s.2.1 + 1 := hk
      show (if k = s.2.1 then (fun j => if j = 0 then v else if j = 1 then s.1 9 + 1 else if j = 2 then s.1 4 else t) else s.2.2 k) 2 = -2 ∨ ok_rt _ ((if k = s.2.1 then (fun j => if j = 0 then v else if j = 1 then s.1 9 + 1 else if j = 2 then s.1 4 else t) else s.2.2 k) 2)
      by_cases e : k = s.2.1
      · rw [if_pos e]; exact Or.inr h3
      · rw [if_neg e]; exact h9 k (by omega)
    · have hk' : k < s.2.1 + 1 := hk
      show ¬ (if k = s.2.1 then (fun j => if j = 0 then v else if j = 1 then s.1 9 + 1 else if j = 2 then s.1 4 else t) else s.2.2 k) 2 = -1
      by_cases e : k = s.2.1
      · rw [if_pos e]; exact hp
      · rw [if_neg e]; exact h10 hp k (by omega)
theorem ok_S.new {P : aP} {c : Nat} {x y t r : Int32} (hP : ok_P P) (hx : ob_ix (ab_np P) x) (hy : ob_ix (ab_np P) y) (hr : ok_rt (ab_np P) r) : ok_S P c (ab_new x y t r) :=
  ⟨hx, hy, hr, Or.inl rfl, ⟨by show 0 ≤ (0 : Int32).toInt; decide, by show (0 : Int32).toInt < _; rw [ob_i0]; have := hP.2.1.2.1; omega⟩, ⟨0, rfl, rfl, Nat.zero_le c⟩, Nat.zero_le 24, ⟨by show 0 ≤ (0 : Int32).toInt; decide, by show (0 : Int32).toInt ≤ _; rw [ob_i0]; have := hP.2.1.2.2; omega⟩, fun k hk => absurd hk (Nat.not_lt_zero k), fun _ k hk => absurd hk (Nat.not_lt_zero k)⟩
