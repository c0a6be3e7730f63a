/-! ===== the class: sessions (2) ===== -/
theorem cl_old {G : pm_G} {b d : Nat} {I : pm_I} {K : pm_I → Prop} {s : aS} (h : cl_S I b s) (g : cl_g s d) (hk : ∀ J, cl_S J b (ab_old s) → ob_fr (cl_s b) I J → K J) : wX4_dropEmptyOldPath G b I K := by
  obtain ⟨ho, h8, h7, hb, hn⟩ := g
  unfold wX4_dropEmptyOldPath
  rw [h.1 5 (by decide), show I b 8 = nI d from (h.1 8 (by decide)).trans h8]
  refine ⟨fun hc => ?_, fun hc => ?_⟩
  · refine ob_lp2 (fun i x J => x = nI (d + i) ∧ J = I ∧ ∀ k, k < i → decide (s.2.2 k 2 = s.1 5) = false) s.2.1 ⟨rfl, rfl, fun k hk => absurd hk (Nat.not_lt_zero k)⟩ ?_
    intro P i x J hi hI hP
    obtain ⟨hx, hJ, hM⟩ := hI
    subst hx; subst hJ
    rw [show J b 7 = nI (d + s.2.1) from (h.1 7 (by decide)).trans h7]
    refine ⟨fun hc => ?_, fun hc => ?_⟩
    · have e := (cl_loop hb hi).1 hc
      subst e
      intro I1 h1
      subst h1
      have e : ab_old s = ab_f s 5 (-1) := by unfold ab_old; rw [ob_ex_f.mpr hM]; rfl
      exact hk _ (e ▸ h.up (by decide) (by decide)) (ob_fr.rf.up ⟨by omega, by omega⟩)
    · have hl := (cl_loop hb hi).2 hc
      refine cl_place (by omega) ⟨vp_in_nI (by omega) (by decide), ?_⟩
      rw [nI_clamp (by omega)]
      have hr2 : J (b + 3) ((d + i) % 24) = s.2.2 i 2 := h.rt (F := s.1) (n := s.2.1) (M := s.2.2) (j := 2) ho h8 (by omega) hl (by decide)
      rw [hr2, h.1 5 (by decide)]
      refine ⟨fun hc2 => ?_, fun hc2 => ?_⟩
      · refine hP _ _ hl ⟨nI_1 _, rfl, fun k hk => ?_⟩
        by_cases e : k = i
        · subst e; exact decide_eq_false hc2
        · exact hM k (by omega)
      · have e : ab_old s = s := by unfold ab_old; rw [ob_ex_t hl (decide_eq_true hc2), if_pos rfl]
        exact hk J (by rw [e]; exact h) ob_fr.rf
  · refine hk I ?_ ob_fr.rf
    unfold ab_old
    by_cases hx : ob_ex (fun k => decide (s.2.2 k 2 = s.1 5)) s.2.1 = true
    · rw [if_pos hx]; exact h
    · rw [if_neg hx]
      have e : upd s.1 5 (-1) = s.1 := by
        funext k
        by_cases ek : k = 5
        · subst ek; rw [pk_us, hc]
        · rw [pk_un ek]
      show cl_S I b (upd s.1 5 (-1), s.2.1, s.2.2)
      rw [e]
      exact h
theorem cl_pair {G : pm_G} {x y u v : Int32} {I : pm_I} {K : Int32 → pm_I → Prop} (h : K (ob_b (ab_pair x y u v)) I) : wX4_samePair G x y u v I K := by
  unfold wX4_samePair
  unfold ab_pair ob_b at h
  by_cases h1 : x = u <;> by_cases h2 : y = v <;> by_cases h3 : x = v <;> by_cases h4 : y = u <;> simp_all
theorem cl_ru {G : pm_G} {b : Nat} {r x y : Int32} {I : pm_I} {K : Int32 → pm_I → Prop} {s : aS} (h : cl_F I b s.1) (hk : K (ob_b (ab_ru s r x y)) I) : wX4_routeUses G b r x y I K := by
  unfold wX4_routeUses
  unfold ab_ru at hk
  rw [h 1 (by decide), h 2 (by decide)]
  refine ⟨fun hc => ⟨fun hl => ?_, fun hl => cl_pair ⟨fun e => ?_, fun e => ?_⟩⟩, fun hc => cl_pair ⟨ob_b01 _, ?_⟩⟩
  · rw [if_neg hc, decide_eq_false (fun hh => absurd hl (Int32.not_lt.mpr hh))] at hk
    exact hk
  · rw [if_neg hc, decide_eq_true (Int32.not_lt.mp hl), ob_b1.mp e] at hk
    exact hk
  · rw [h 2 (by decide)]
    rw [if_neg hc, decide_eq_true (Int32.not_lt.mp hl), ob_b0.mp e] at hk
    refine cl_pair ⟨fun e2 => ?_, fun e2 => ?_⟩
    · rw [ob_b0.mp e2] at hk; exact hk
    · rw [ob_b1.mp e2] at hk; exact hk
  · rw [if_pos hc] at hk; exact hk
theorem cl_mm {G : pm_G} {b d : Nat} {x y t : Int32} {I : pm_I} {K : Int32 → pm_I → Prop} {s : aS} (h : cl_S I b s) (g : cl_g s d) (hk : ∀ J, cl_S J b (ab_mm s x y t) → ob_fr (cl_s b) I J → K (nI (ab_mc s x y)) J) : wX4_moveMessages G b x y t I K := by
  obtain ⟨ho, h8, h7, hb, hn⟩ := g
  unfold wX4_moveMessages
  rw [show I b 8 = nI d from (h.1 8 (by decide)).trans h8]
  refine ob_lp3 (fun i c z J => c = nI (ob_ct (fun k => ab_ru s (s.2.2 k 2) x y) i) ∧ z = nI (d + i) ∧ cl_S J b (s.1, s.2.1, ob_pm (fun m => if ab_ru s (m 2) x y = true then ab_mv m (s.1 4) t else m) i s.2.2) ∧ ob_fr (cl_s b) I J) s.2.1 ⟨rfl, rfl, by rw [ob_pm_0]; exact h, ob_fr.rf⟩ ?_
  intro P i c z J hi hI hP
  obtain ⟨hc0, hx, hS, hf⟩ := hI
  subst hx; subst hc0
  rw [show J b 7 = nI (d + s.2.1) from (hS.1 7 (by decide)).trans h7]
  refine ⟨fun hc => ?_, fun hc => ?_⟩
  · have e := (cl_loop hb hi).1 hc
    subst e
    exact hk J (hS.cg (fun k hk => ob_pm_l hk)) hf
  · have hl := (cl_loop hb hi).2 hc
    refine cl_place (by omega) ⟨vp_in_nI (by omega) (by decide), ?_⟩
    rw [nI_clamp (by omega)]
    have hr : J (b + 3) ((d + i) % 24) = s.2.2 i 2 := by
      have := hS.rt (j := 2) ho h8 (by omega) hl (by decide)
      rw [ob_pm_i] at this
      exact this
    rw [hr]
    refine cl_ru (s := s) hS.1 ⟨fun e => ?_, fun e => ⟨vp_in_nI (by omega) (by decide), fun I1 h1 => ⟨vp_in_nI (by omega) (by decide), fun I2 h2 => ?_⟩⟩⟩
    · have e' := ob_b0.mp e
      refine hP _ _ _ hl ⟨?_, nI_1 _, ?_, hf⟩
      · show _ = nI (ob_ct _ i + if ab_ru s (s.2.2 i 2) x y = true then 1 else 0)
        rw [e']; rfl
      · rw [← ob_pm_n (by show (if ab_ru s (s.2.2 i 2) x y = true then _ else _) = _; rw [e']; rfl)]
        exact hS
    · have e' := ob_b1.mp e
      subst h2; subst h1
      refine hP _ _ _ hl ⟨?_, nI_1 _, ?_, (hf.up ⟨by omega, by omega⟩).up ⟨by omega, by omega⟩⟩
      · show _ = nI (ob_ct _ i + if ab_ru s (s.2.2 i 2) x y = true then 1 else 0)
        rw [e', if_pos rfl, nI_1]
      · rw [← ob_pm_c (g := fun m => if ab_ru s (m 2) x y = true then ab_mv m (s.1 4) t else m) (i := i) (M := s.2.2) (x := ab_mv (s.2.2 i) (J b 4) t) (by show _ = (if ab_ru s (s.2.2 i 2) x y = true then _ else _); rw [if_pos e', hS.1 4 (by decide)])]
        have h3 := hS.ud (i := i) (v := J b 4) (t := t) h8 (by omega) hn hl
        rw [ob_pm_i] at h3
        exact h3
theorem cl_on {G : pm_G} {b : Nat} {x : Int32} {I : pm_I} {K : Int32 → pm_I → Prop} {s : aS} (h : cl_F I b s.1) (h01 : s.1 0 = 0 ∨ s.1 0 = 1) (hk : K (ob_b (ab_on s x)) I) : wX4_leadsOver G b x I K := by
  unfold wX4_leadsOver
  unfold ab_on at hk
  rw [h 0 (by decide), h 4 (by decide), h 5 (by decide)]
  refine ⟨fun hc => ?_, fun hc => ⟨fun e => ?_, fun e => ⟨fun e2 => ?_, fun e2 => ?_⟩⟩⟩
  · rw [hc] at hk; exact hk
  · rw [h01.resolve_left hc, decide_eq_true e] at hk; exact hk
  · rw [h01.resolve_left hc, decide_eq_false e, decide_eq_false e2] at hk; exact hk
  · rw [h01.resolve_left hc, decide_eq_false e, decide_eq_true e2] at hk; exact hk
theorem cl_so {G : pm_G} {x : Int32} {I : pm_I} {K : Int32 → pm_I → Prop} (h : K (ab_so x) I) : wX4_stateOf G x I K := by
  unfold wX4_stateOf
  unfold ab_so at h
  refine ⟨fun e => ⟨fun e2 => ?_, fun e2 => ?_⟩, fun e => ?_⟩
  · rw [if_neg e, if_neg e2] at h; exact h
  · rw [if_neg e, if_pos e2] at h; exact h
  · rw [if_pos e] at h; exact h
theorem cl_cs {G : pm_G} {b d : Nat} {x : Int32} {I : pm_I} {K : Int32 → pm_I → Prop} {s : aS} (h : cl_S I b s) (g : cl_g s d) (hk : K (nI (ab_cs s x)) I) : wX4_countUndelivered G b x I K := by
  obtain ⟨ho, h8, h7, hb, hn⟩ := g
  unfold wX4_countUndelivered
  rw [show I b 8 = nI d from (h.1 8 (by decide)).trans h8]
  refine ob_lp3 (fun i c z J => c = nI (ob_ct (fun k => decide (ab_so (s.2.2 k 2) = x)) i) ∧ z = nI (d + i) ∧ J = I) s.2.1 ⟨rfl, rfl, rfl⟩ ?_
  intro P i c z J hi hI hP
  obtain ⟨hc0, hx, hJ⟩ := hI
  subst hx; subst hc0; subst hJ
  rw [show J b 7 = nI (d + s.2.1) from (h.1 7 (by decide)).trans h7]
  refine ⟨fun hc => ?_, fun hc => ?_⟩
  · have e := (cl_loop hb hi).1 hc
    subst e
    exact hk
  · have hl := (cl_loop hb hi).2 hc
    refine cl_place (by omega) ⟨vp_in_nI (by omega) (by decide), ?_⟩
    rw [nI_clamp (by omega)]
    have hr2 : J (b + 3) ((d + i) % 24) = s.2.2 i 2 := h.rt (F := s.1) (n := s.2.1) (M := s.2.2) (j := 2) ho h8 (by omega) hl (by decide)
    rw [hr2]
    refine cl_so ⟨fun e => ?_, fun e => ?_⟩
    · refine hP _ _ _ hl ⟨?_, nI_1 _, rfl⟩
      show _ = nI (ob_ct _ i + if decide (ab_so (s.2.2 i 2) = x) = true then 1 else 0)
      rw [decide_eq_false e]; rfl
    · refine hP _ _ _ hl ⟨?_, nI_1 _, rfl⟩
      show _ = nI (ob_ct _ i + if decide (ab_so (s.2.2 i 2) = x) = true then 1 else 0)
      rw [decide_eq_true e, if_pos rfl, nI_1]
theorem cl_fk {G : pm_G} {b d : Nat} {I : pm_I} {K : Int32 → pm_I → Prop} {s : aS} (h : cl_S I b s) (g : cl_g s d) (hk : K (ab_fk s) I) : wX4_firstNeededKey G b I K := by
  obtain ⟨ho, h8, h7, hb, hn⟩ := g
  unfold wX4_firstNeededKey
  unfold ab_fk at hk
  rw [show I b 8 = nI d from (h.1 8 (by decide)).trans h8, show I b 7 = nI (d + s.2.1) from (h.1 7 (by decide)).trans h7, h.1 9 (by decide)]
  refine ⟨fun hc => ?_, fun hc => ?_⟩
  · have := (cl_loop (i := 0) hb (by omega)).1 hc
    rw [if_pos this.symm] at hk
    exact hk
  · have hl := (cl_loop (i := 0) hb (by omega)).2 hc
    refine cl_place (by omega) ⟨vp_in_nI (by omega) (by decide), ?_⟩
    rw [nI_clamp (by omega)]
    have hr : I (b + 2) (d % 24) = s.2.2 0 1 := h.rt (F := s.1) (n := s.2.1) (M := s.2.2) (d := d) (k := 0) (j := 1) ho h8 (by omega) hl (by decide)
    rw [hr]
    rw [if_neg (by omega)] at hk
    exact hk
/-- what is written when a message is added -/
theorem cl_ad1 {b d : Nat} {v t x7 x10 xk xp : Int32} {I : pm_I} {s : aS} (h : cl_S I b s) (g : cl_g s d) (hn : s.2.1 < 24) (e7 : x7 = s.1 7 + 1) (e10 : x10 = s.1 10 + 1) (ek : xk = s.1 9) (ep : xp = s.1 4) :
    cl_S (pm_up (pm_up (pm_up (pm_up (pm_up (pm_up I (b + 1) ((d + s.2.1) % 24) v) (b + 2) ((d + s.2.1) % 24) xk) (b + 3) ((d + s.2.1) % 24) xp) (b + 4) ((d + s.2.1) % 24) t) b 7 x7) b 10 x10) b (ab_ad1 s v t) := by
  obtain ⟨ho, h8, h7, hb, _⟩ := g
  obtain ⟨F, n, M⟩ := s
  have hn' : n < 24 := hn
  subst e7; subst e10; subst ek; subst ep
  refine ⟨(cl_F.up (cl_F.up (fun j hj => ?_))), fun _ k hk j hj => ?_⟩
  · rw [ob_ur (by omega), ob_ur (by omega), ob_ur (by omega), ob_ur (by omega)]; exact h.1 j hj
  · have hk' : k < n + 1 := hk
    have e : ab_sd (ab_ad1 (F, n, M) v t) = d := by
      show (F 8).toNatClampNeg = d
      rw [show F 8 = nI d from h8, nI_clamp (by omega)]
    rw [e, ob_ur (by omega), ob_ur (by omega)]
    show _ = (if k = n then (fun j => if j = 0 then v else if j = 1 then F 9 else if j = 2 then F 4 else t) else M k) j
    by_cases e : k = n
    · subst e
      rw [if_pos rfl]
      have : j = 0 ∨ j = 1 ∨ j = 2 ∨ j = 3 := by omega
      rcases this with rfl | rfl | rfl | rfl
      · rw [ob_ur (by omega), ob_ur (by omega), ob_ur (by omega)]; exact ob_us _ _ _ _
      · rw [ob_ur (by omega), ob_ur (by omega)]; exact ob_us _ _ _ _
      · rw [ob_ur (by omega)]; exact ob_us _ _ _ _
      · exact ob_us _ _ _ _
    · rw [if_neg e, ob_uq (by show (d + k) % 24 ≠ (d + n) % 24; omega), ob_uq (by show (d + k) % 24 ≠ (d + n) % 24; omega), ob_uq (by show (d + k) % 24 ≠ (d + n) % 24; omega), ob_uq (by show (d + k) % 24 ≠ (d + n) % 24; omega)]
      exact h.rt (j := j) ho h8 (by omega) (by omega) hj
theorem cl_g.nk {s : aS} {d : Nat} (g : cl_g s d) : cl_g (ab_nk s) d := by
  obtain ⟨ho, h8, h7, hb, hn⟩ := g
  exact ⟨ho, h8, h7, hb, hn⟩
theorem cl_g.f {s : aS} {d j : Nat} {v : Int32} (g : cl_g s d) (h0 : j ≠ 0) (h7 : j ≠ 7) (h8 : j ≠ 8) : cl_g (ab_f s j v) d := by
  obtain ⟨ho, g8, g7, hb, hn⟩ := g
  refine ⟨?_, ?_, ?_, hb, hn⟩
  · show upd s.1 j v 0 = 1
    rw [pk_un (fun e => h0 e.symm)]; exact ho
  · show upd s.1 j v 8 = _
    rw [pk_un (fun e => h8 e.symm)]; exact g8
  · show upd s.1 j v 7 = _
    rw [pk_un (fun e => h7 e.symm)]; exact g7
theorem cl_g.cp {s : aS} {d : Nat} {x : Int32} (g : cl_g s d) : cl_g (ab_cp s x) d := by
  unfold ab_cp
  by_cases h : x ≠ s.1 4 ∧ 0 < s.1 10
  · rw [if_pos h]; exact g.nk.f (by decide) (by decide) (by decide)
  · rw [if_neg h]; exact g.f (by decide) (by decide) (by decide)
theorem cl_add {G : pm_G} {b d : Nat} {v m t : Int32} {I : pm_I} {K : Int32 → pm_I → Prop} {s : aS} (h : cl_S I b s) (g : cl_g s d) (hn : s.2.1 < 24) (hk : ∀ J, cl_S J b (ab_add s v m t) → ob_fr (cl_s b) I J → K (s.1 7) J) : wX4_addMessage G b v m t I K := by
  unfold wX4_addMessage
  rw [h.1 10 (by decide)]
  refine ⟨fun hc => ?_, fun hc => ?_⟩
  · rw [show I b 7 = nI (d + s.2.1) from (h.1 7 (by decide)).trans g.2.2.1]
    refine cl_place (by have := g.2.2.2.1; omega) ⟨vp_in_nI (by omega) (by decide), fun I1 h1 => ⟨vp_in_nI (by omega) (by decide), fun I2 h2 => ⟨vp_in_nI (by omega) (by decide), fun I3 h3 => ⟨vp_in_nI (by omega) (by decide), fun I4 h4 I5 h5 I6 h6 => ?_⟩⟩⟩⟩
    rw [nI_clamp (by omega)] at h1 h2 h3 h4
    have e1 : I1 b 9 = s.1 9 := by rw [h1, ob_ur (by omega)]; exact h.1 9 (by decide)
    have e2 : I2 b 4 = s.1 4 := by rw [h2, ob_ur (by omega), h1, ob_ur (by omega)]; exact h.1 4 (by decide)
    have e7 : I4 b 7 + 1 = s.1 7 + 1 := by rw [h4, ob_ur (by omega), h3, ob_ur (by omega), h2, ob_ur (by omega), h1, ob_ur (by omega), h.1 7 (by decide)]
    have e10 : I5 b 10 + 1 = s.1 10 + 1 := by rw [h5, ob_uq (by decide), h4, ob_ur (by omega), h3, ob_ur (by omega), h2, ob_ur (by omega), h1, ob_ur (by omega), h.1 10 (by decide)]
    have hS := cl_ad1 (v := v) (t := t) h g hn e7 e10 e1 e2
    rw [← h1, ← h2, ← h3, ← h4, ← h5, ← h6] at hS
    have e : ab_add s v m t = ab_ad1 s v t := by unfold ab_add; rw [if_pos hc]
    rw [← e] at hS
    rw [← g.2.2.1]
    refine hk _ hS ?_
    subst h6; subst h5; subst h4; subst h3; subst h2; subst h1
    exact (((((ob_fr.rf.up ⟨by omega, by omega⟩).up ⟨by omega, by omega⟩).up ⟨by omega, by omega⟩).up ⟨by omega, by omega⟩).up ⟨by omega, by omega⟩).up ⟨by omega, by omega⟩
  · refine cl_nk h (fun I0 hI0 fI0 => ?_)
    have g' := g.nk
    have n' : (ab_nk s).2.1 = s.2.1 := rfl
    rw [show I0 b 7 = nI (d + s.2.1) from (hI0.1 7 (by decide)).trans g'.2.2.1]
    refine cl_place (by have := g.2.2.2.1; omega) ⟨vp_in_nI (by omega) (by decide), fun I1 h1 => ⟨vp_in_nI (by omega) (by decide), fun I2 h2 => ⟨vp_in_nI (by omega) (by decide), fun I3 h3 => ⟨vp_in_nI (by omega) (by decide), fun I4 h4 I5 h5 I6 h6 => ?_⟩⟩⟩⟩
    rw [nI_clamp (by omega)] at h1 h2 h3 h4
    have e1 : I1 b 9 = (ab_nk s).1 9 := by rw [h1, ob_ur (by omega)]; exact hI0.1 9 (by decide)
    have e2 : I2 b 4 = (ab_nk s).1 4 := by rw [h2, ob_ur (by omega), h1, ob_ur (by omega)]; exact hI0.1 4 (by decide)
    have e7 : I4 b 7 + 1 = (ab_nk s).1 7 + 1 := by rw [h4, ob_ur (by omega), h3, ob_ur (by omega), h2, ob_ur (by omega), h1, ob_ur (by omega), hI0.1 7 (by decide)]
    have e10 : I5 b 10 + 1 = (ab_nk s).1 10 + 1 := by rw [h5, ob_uq (by decide), h4, ob_ur (by omega), h3, ob_ur (by omega), h2, ob_ur (by omega), h1, ob_ur (by omega), hI0.1 10 (by decide)]
    have hS := cl_ad1 (v := v) (t := t) hI0 g' hn e7 e10 e1 e2
    rw [n', ← h1, ← h2, ← h3, ← h4, ← h5, ← h6] at hS
    have e : ab_add s v m t = ab_ad1 (ab_nk s) v t := by unfold ab_add; rw [if_neg hc]
    rw [← e] at hS
    rw [← g.2.2.1]
    refine hk _ hS ?_
    subst h6; subst h5; subst h4; subst h3; subst h2; subst h1
    exact (((((fI0.up ⟨by omega, by omega⟩).up ⟨by omega, by omega⟩).up ⟨by omega, by omega⟩).up ⟨by omega, by omega⟩).up ⟨by omega, by omega⟩).up ⟨by omega, by omega⟩
theorem cl_new {G : pm_G} {b : Nat} {x y t r : Int32} {I : pm_I} {K : pm_I → Prop} (hk : ∀ J, cl_S J b (ab_new x y t r) → ob_fr (cl_s b) I J → K J) : wX4_begin G b x y t r I K := by
  unfold wX4_begin
  intro I0 h0 I1 h1 I2 h2 I3 h3 I4 h4 I5 h5 I6 h6 I7 h7 I8 h8 I9 h9 Ia ha Ib hb Ic hc
  refine hk Ic ⟨fun j hj => ?_, fun _ k hk => absurd hk (Nat.not_lt_zero k)⟩ ?_
  · have : j = 0 ∨ j = 1 ∨ j = 2 ∨ j = 3 ∨ j = 4 ∨ j = 5 ∨ j = 6 ∨ j = 7 ∨ j = 8 ∨ j = 9 ∨ j = 10 ∨ j = 11 ∨ j = 12 := by omega
    subst hc; subst hb; subst ha; subst h9; subst h8; subst h7; subst h6; subst h5; subst h4; subst h3; subst h2; subst h1; subst h0
    rcases this with rfl | rfl | rfl | rfl | rfl | rfl | rfl | rfl | rfl | rfl | rfl | rfl | rfl <;> simp [ob_up, ab_new]
  · subst hc; subst hb; subst ha; subst h9; subst h8; subst h7; subst h6; subst h5; subst h4; subst h3; subst h2; subst h1; subst h0
    intro q hq
    have : q ≠ b := fun e => hq ⟨by omega, by omega⟩
    simp [pm_up, this]
