/-! ===== the reference: sessions ===== -/
theorem rf_c0 : (0 : Int32).toNatClampNeg = 0 := by decide
theorem rf_c1 : (1 : Int32).toNatClampNeg = 1 := by decide
theorem rf_c2 : (2 : Int32).toNatClampNeg = 2 := by decide
theorem rf_c3 : (3 : Int32).toNatClampNeg = 3 := by decide
theorem rf_c4 : (4 : Int32).toNatClampNeg = 4 := by decide
theorem rf_c5 : (5 : Int32).toNatClampNeg = 5 := by decide
theorem rf_f.rf {q o : Nat} {I : pm_I} : rf_f q o I I := ⟨fun _ _ => rfl, fun _ _ => rfl⟩
theorem rf_f.tr {q o : Nat} {I J L : pm_I} (h : rf_f q o I J) (h2 : rf_f q o J L) : rf_f q o I L := ⟨fun r hr => (h2.1 r hr).trans (h.1 r hr), fun x hx => (h2.2 x hx).trans (h.2 x hx)⟩
theorem rf_f.up {q o x : Nat} {v : Int32} {I J : pm_I} (h : rf_f q o I J) (h1 : o ≤ x) (h2 : x < o + 134) : rf_f q o I (pm_up J (q + 1) x v) :=
  ⟨fun r hr => by rw [ob_ur hr]; exact h.1 r hr, fun y hy => by rw [ob_uq (by omega)]; exact h.2 y hy⟩
theorem rf_f.z {q o : Nat} {I J : pm_I} (h : rf_f q o I J) : ob_fr (rf_z q) I J := fun r hr => h.1 r (fun e => hr (Or.inl e))
theorem rf_S.o {N : Nat → Int32} {o : Nat} {s : aS} (h : rf_O N o s) (h0 : s.1 0 = 1) : rf_S N o s := ⟨fun _ => h, fun n => absurd h0 n⟩
theorem rf_S.rw {N N' : Nat → Int32} {o : Nat} {s : aS} (h : rf_S N o s) (hn : s.1 0 = 1 → s.2.1 ≤ 24) (e : ∀ x, o ≤ x → x < o + 134 → N' x = N x) : rf_S N' o s := by
  refine ⟨fun ho => ?_, fun hc => by rw [e o (by omega) (by omega)]; exact h.2 hc⟩
  obtain ⟨h1, h2, h3⟩ := h.1 ho
  have hn' := hn ho
  refine ⟨fun j hj => by rw [e _ (by omega) (by omega)]; exact h1 j hj, by rw [e _ (by omega) (by omega)]; exact h2, fun k hk => ?_⟩
  obtain ⟨m1, m2, m3, m4⟩ := h3 k hk
  refine ⟨by rw [e _ (by omega) (by omega)]; exact m1, by rw [e _ (by omega) (by omega)]; exact m2, by rw [e _ (by omega) (by omega)]; exact m3, fun h => ?_⟩
  rw [e _ (by omega) (by omega), e (o + 14 + 5 * k + 4) (by omega) (by omega)]; exact m4 h
def ok_24 (A : aT) : Prop := ∀ i, i < 6 → (A.2.2.2 i).1 0 = 1 → (A.2.2.2 i).2.1 ≤ 24
theorem ok_T.n24 {P : aP} {c : Nat} {A : aT} (h : ok_T P c A) : ok_24 A := fun i hi h0 => (h.2.2.1 i hi h0).2.2.2.2.2.2.1
theorem rf_T.put {N N' : Nat → Int32} {A : aT} {i : Nat} {s : aS} (h : rf_T N A) (hn : ok_24 A) (hi : i < 6) (hS : rf_S N' (17 + 134 * i) s) (e : ∀ x, (x < 17 + 134 * i ∨ 17 + 134 * i + 134 ≤ x) → N' x = N x) : rf_T N' (ab_set A i s) := by
  refine ⟨by rw [e 0 (by omega)]; exact h.1, fun k hk => by rw [e _ (by omega)]; exact h.2.1 k hk, fun k hk => by rw [e _ (by omega)]; exact h.2.2.1 k hk, fun k hk => ?_⟩
  show rf_S N' (17 + 134 * k) (if k = i then s else A.2.2.2 k)
  by_cases ek : k = i
  · rw [if_pos ek, ek]; exact hS
  · rw [if_neg ek]
    exact (h.2.2.2 k hk).rw (hn k hk) (fun x h1 h2 => e x (by omega))
theorem rf_P.rw {I J : pm_I} {q : Nat} {P : aP} (h : rf_P I q P) (e : ∀ r, q + 2 ≤ r → r ≤ q + 8 → J r = I r) : rf_P J q P := by
  unfold rf_P
  rw [e (q + 2) (by omega) (by omega), e (q + 3) (by omega) (by omega), e (q + 4) (by omega) (by omega), e (q + 5) (by omega) (by omega), e (q + 6) (by omega) (by omega), e (q + 7) (by omega) (by omega), e (q + 8) (by omega) (by omega)]
  exact h
theorem rf_P.f {I J : pm_I} {q o : Nat} {P : aP} (h : rf_P I q P) (f : rf_f q o I J) : rf_P J q P := h.rw (fun r h1 h2 => f.1 r (by omega))
theorem rf_W.put {I J : pm_I} {q i : Nat} {A : aT} {P : aP} {s : aS} (w : rf_W I q A P) (hn : ok_24 A) (hi : i < 6) (hO : rf_O (J (q + 1)) (17 + 134 * i) s) (h0 : s.1 0 = 1) (f : rf_f q (17 + 134 * i) I J) : rf_W J q (ab_set A i s) P :=
  ⟨w.1.put hn hi (rf_S.o hO h0) f.2, w.2.f f⟩
theorem rf_of {G : pm_G} {i j : Nat} {x : Int32} {I : pm_I} {K : Int32 → pm_I → Prop} (hx : x = nI j) (h : K (nI (17 + 134 * i + j)) I) : wX7_of G (nI i) x I K := by
  unfold wX7_of
  rw [hx, show (134 : Int32) = nI 134 from rfl, pk_mul, show (17 : Int32) = nI 17 from rfl, nI_add, nI_add]
  exact h
theorem rf_has {G : pm_G} {v k : Int32} {I : pm_I} {K : Int32 → pm_I → Prop} (h : K (ob_b (ab_bit v k)) I) : wX7_has G v k I K := by
  unfold wX7_has
  unfold ab_bit at h
  refine ⟨fun e => ?_, fun e => ?_⟩
  · rw [decide_eq_false e] at h; exact h
  · rw [decide_eq_true e] at h; exact h
theorem rf_kn {G : pm_G} {q : Nat} {x y : Int32} {I : pm_I} {K : Int32 → pm_I → Prop} {A : aT} (h : rf_T (I (q + 1)) A) (hx : ob_ix 8 x) (hk : K (ob_b (ab_kn A x y)) I) : wX7_areKnown G q x y I K := by
  obtain ⟨a, ha, rfl⟩ := hx
  unfold wX7_areKnown
  unfold ab_kn at hk
  rw [nI_clamp (by omega)] at hk
  rw [show (1 : Int32) = nI 1 from rfl, nI_add, nI_clamp (by omega), h.2.1 a ha]
  exact ⟨vp_in_nI (by omega) (by decide), rf_has ⟨ob_b01 _, hk⟩⟩
theorem rf_up {G : pm_G} {q : Nat} {x y : Int32} {I : pm_I} {K : Int32 → pm_I → Prop} {A : aT} (h : rf_T (I (q + 1)) A) (hx : ob_ix 8 x) (hk : K (ob_b (ab_up A x y)) I) : wX7_isUp G q x y I K := by
  obtain ⟨a, ha, rfl⟩ := hx
  unfold wX7_isUp
  unfold ab_up at hk
  rw [nI_clamp (by omega)] at hk
  rw [show (9 : Int32) = nI 9 from rfl, nI_add, nI_clamp (by omega), h.2.2.1 a ha]
  exact ⟨vp_in_nI (by omega) (by decide), rf_has ⟨ob_b01 _, hk⟩⟩
theorem rf_isOpen {G : pm_G} {q i : Nat} {I : pm_I} {K : Int32 → pm_I → Prop} {A : aT} (h : rf_T (I (q + 1)) A) (hi : i < 6) (hk : K (ob_b (decide ((A.2.2.2 i).1 0 = 1))) I) : wX7_isOpen G q (nI i) I K := by
  unfold wX7_isOpen
  have hS := h.2.2.2 i hi
  refine rf_of (j := 0) rfl ⟨vp_in_nI (by omega) (by decide), ?_⟩
  rw [nI_clamp (by omega)]
  by_cases h0 : (A.2.2.2 i).1 0 = 1
  · have e : I (q + 1) (17 + 134 * i + 0) = 1 := ((hS.1 h0).1 0 (by decide)).trans h0
    rw [decide_eq_true h0] at hk
    exact ⟨fun n => absurd e n, fun _ => hk⟩
  · have e : ¬ I (q + 1) (17 + 134 * i + 0) = 1 := hS.2 h0
    rw [decide_eq_false h0] at hk
    exact ⟨fun _ => hk, fun y => absurd y e⟩
theorem rf_ld {G : pm_G} {q : Nat} {x : Int32} {I : pm_I} {K : Int32 → pm_I → Prop} {A : aT} (h : rf_T (I (q + 1)) A) (hk : K (nI (ab_ld A x)) I) : wX7_loadOf G q x I K := by
  unfold wX7_loadOf
  refine ob_lp3 (fun i c z J => c = nI (ob_ct (fun k => ab_on (A.2.2.2 k) x) i) ∧ z = nI i ∧ J = I) 6 ⟨rfl, rfl, rfl⟩ ?_
  intro P i c z J hi hI hP
  obtain ⟨hc0, hz, hJ⟩ := hI
  subst hz; subst hc0; subst hJ
  refine ⟨fun hc => ?_, fun hc => ?_⟩
  · have e := (ob_to (n := 6) (by decide) hi).1 hc
    subst e
    exact hk
  · have hl := (ob_to (n := 6) (by decide) hi).2 hc
    have no : ab_on (A.2.2.2 i) x = false → P (nI (ob_ct (fun k => ab_on (A.2.2.2 k) x) i) + 0) (nI i + 1) J := fun e => by
      refine hP _ _ _ hl ⟨?_, nI_1 _, rfl⟩
      show _ = nI (ob_ct _ i + if ab_on (A.2.2.2 i) x = true then 1 else 0)
      rw [e]; exact nI_add _ 0
    have ye : ab_on (A.2.2.2 i) x = true → P (nI (ob_ct (fun k => ab_on (A.2.2.2 k) x) i) + 1) (nI i + 1) J := fun e => by
      refine hP _ _ _ hl ⟨?_, nI_1 _, rfl⟩
      show _ = nI (ob_ct _ i + if ab_on (A.2.2.2 i) x = true then 1 else 0)
      rw [e, if_pos rfl, nI_1]
    unfold ab_on at no ye
    refine rf_isOpen h hl ⟨fun e => no ?_, fun e => ?_⟩
    · rw [ob_b0.mp e]; rfl
    · have h0 := ob_b1.mp e
      have hO := (h.2.2.2 i hl).1 (of_decide_eq_true h0)
      rw [h0] at no ye
      have e4 : J (q + 1) (17 + 134 * i + 3) = (A.2.2.2 i).1 4 := hO.1 3 (by decide)
      have e5 : J (q + 1) (17 + 134 * i + 4) = (A.2.2.2 i).1 5 := hO.1 4 (by decide)
      refine rf_of (j := 3) rfl ⟨vp_in_nI (by omega) (by decide), ?_⟩
      rw [nI_clamp (by omega), e4]
      refine ⟨fun z => ye (by rw [decide_eq_true z]; rfl), fun z => rf_of (j := 4) rfl ⟨vp_in_nI (by omega) (by decide), ?_⟩⟩
      rw [nI_clamp (by omega), e5]
      exact ⟨fun z2 => no (by rw [decide_eq_false z, decide_eq_false z2]; rfl), fun z2 => ye (by rw [decide_eq_true z2, Bool.or_true]; rfl)⟩
theorem rf_can {G : pm_G} {q : Nat} {x y z : Int32} {I : pm_I} {K : Int32 → pm_I → Prop} {A : aT} (h : rf_T (I (q + 1)) A) (hx : ob_ix 8 x) (hk : K (ob_b (ab_can A x y z)) I) : wX7_canRelay G q x y z I K := by
  unfold wX7_canRelay
  unfold ab_can at hk
  refine ⟨fun e => ?_, fun e => ⟨fun e2 => ?_, fun e2 => ?_⟩⟩
  · rw [decide_eq_true e] at hk; exact hk
  · rw [decide_eq_false e, decide_eq_true e2] at hk; exact hk
  · rw [decide_eq_false e, decide_eq_false e2] at hk
    refine rf_kn h hx ⟨fun f => ?_, fun f => rf_kn h hx ⟨fun f2 => ?_, fun f2 => rf_up h hx ⟨fun f3 => ?_, fun f3 => rf_up h hx ⟨fun f4 => ?_, fun f4 => ?_⟩⟩⟩⟩
    · rw [ob_b0.mp f] at hk; exact hk
    · rw [ob_b1.mp f, ob_b0.mp f2] at hk; exact hk
    · rw [ob_b1.mp f, ob_b1.mp f2, ob_b0.mp f3] at hk; exact hk
    · rw [ob_b1.mp f, ob_b1.mp f2, ob_b1.mp f3, ob_b0.mp f4] at hk; exact hk
    · rw [ob_b1.mp f, ob_b1.mp f2, ob_b1.mp f3, ob_b1.mp f4] at hk; exact hk
/-! an open session of the reference -/
def rf_g (s : aS) (d : Nat) : Prop := cl_g s d
theorem rf_und {G : pm_G} {q i d : Nat} {I : pm_I} {K : Int32 → pm_I → Prop} {s : aS} (h : rf_O (I (q + 1)) (17 + 134 * i) s) (g : cl_g s d) (hi : i < 6) (hk : K (nI s.2.1) I) : wX7_undelivered G q (nI i) I K := by
  unfold wX7_undelivered
  refine rf_of (j := 7) rfl ⟨vp_in_nI (by omega) (by decide), rf_of (j := 8) rfl ⟨vp_in_nI (by omega) (by decide), ?_⟩⟩
  have e7 : I (q + 1) (17 + 134 * i + 7) = nI (d + s.2.1) := (h.1 7 (by decide)).trans g.2.2.1
  have e8 : I (q + 1) (17 + 134 * i + 8) = nI d := (h.1 8 (by decide)).trans g.2.1
  rw [nI_clamp (by omega), nI_clamp (by omega), e7, e8, pk_sub (by omega), show d + s.2.1 - d = s.2.1 by omega]
  exact hk
theorem rf_msg {G : pm_G} {i k : Nat} {x : Int32} {I : pm_I} {K : Int32 → pm_I → Prop} (hx : x = nI k) (hk : K (nI (17 + 134 * i + 14 + 5 * k)) I) : wX7_message G (nI i) x I K := by
  unfold wX7_message
  refine rf_of (j := 14) rfl ?_
  rw [hx, show (5 : Int32) = nI 5 from rfl, pk_mul, nI_add]
  exact hk
theorem rf_pi_inj : ∀ j, j < 13 → ∀ k, k < 13 → j ≠ k → rf_pi j ≠ rf_pi k := by decide
theorem rf_O.up {N : Nat → Int32} {o j : Nat} {v : Int32} {s : aS} (h : rf_O N o s) (hj : j < 13) (h7 : j ≠ 7) (h12 : j ≠ 12) : rf_O (upd N (o + j) v) o (ab_f s (rf_pi j) v) := by
  obtain ⟨h1, h2, h3⟩ := h
  refine ⟨fun k hk => ?_, ?_, fun k hk => ?_⟩
  · show _ = upd s.1 (rf_pi j) v (rf_pi k)
    by_cases e : k = j
    · rw [e, pk_us, pk_us]
    · rw [pk_un (by omega), pk_un (rf_pi_inj k hk j hj e)]; exact h1 k hk
  · show _ = upd s.1 (rf_pi j) v 7 - upd s.1 (rf_pi j) v 10
    rw [pk_un (by omega), pk_un (show 7 ≠ rf_pi j from rf_pi_inj 7 (by decide) j hj (fun e => h7 e.symm)), pk_un (show 10 ≠ rf_pi j from rf_pi_inj 12 (by decide) j hj (fun e => h12 e.symm))]
    exact h2
  · obtain ⟨m1, m2, m3, m4⟩ := h3 k hk
    refine ⟨by rw [pk_un (by omega)]; exact m1, by rw [pk_un (by omega)]; exact m2, by rw [pk_un (by omega)]; exact m3, fun h => ?_⟩
    rw [pk_un (by omega), pk_un (by omega)]; exact m4 h
theorem rf_O.cg {N : Nat → Int32} {o : Nat} {s s' : aS} (h : rf_O N o s) (h1 : ∀ j, j < 13 → s.1 j = s'.1 j) (h2 : s.2.1 = s'.2.1) (h3 : ∀ k, k < s.2.1 → s.2.2 k = s'.2.2 k) : rf_O N o s' := by
  obtain ⟨a1, a2, a3⟩ := h
  refine ⟨fun j hj => ?_, by rw [← h1 7 (by decide), ← h1 10 (by decide)]; exact a2, fun k hk => by rw [← h3 k (by rw [h2]; exact hk)]; exact a3 k (by rw [h2]; exact hk)⟩
  rw [← h1 (rf_pi j) ((by decide : ∀ j, j < 13 → rf_pi j < 13) j hj)]
  exact a1 j hj
theorem rf_nk {G : pm_G} {q i : Nat} {I : pm_I} {K : pm_I → Prop} {s : aS} (h : rf_O (I (q + 1)) (17 + 134 * i) s) (hi : i < 6) (hk : ∀ J, rf_O (J (q + 1)) (17 + 134 * i) (ab_nk s) → rf_f q (17 + 134 * i) I J → K J) : wX7_turnsKey G q (nI i) I K := by
  unfold wX7_turnsKey
  refine rf_of (j := 11) rfl ⟨vp_in_nI (by omega) (by decide), vp_in_nI (by omega) (by decide), fun I1 h1 => rf_of (j := 12) rfl ⟨vp_in_nI (by omega) (by decide), fun I2 h2 => rf_of (j := 13) rfl (rf_of (j := 7) rfl ⟨vp_in_nI (by omega) (by decide), vp_in_nI (by omega) (by decide), fun I3 h3 => ?_⟩)⟩⟩
  rw [nI_clamp (by omega)] at h1 h2
  rw [nI_clamp (by omega), nI_clamp (by omega)] at h3
  have f3 : rf_f q (17 + 134 * i) I I3 := by rw [h3, h2, h1]; exact ((rf_f.rf.up (by omega) (by omega)).up (by omega) (by omega)).up (by omega) (by omega)
  have e11 : I (q + 1) (17 + 134 * i + 11) = s.1 9 := h.1 11 (by decide)
  have e7 : I2 (q + 1) (17 + 134 * i + 7) = s.1 7 := by rw [h2, ob_uq (by omega), h1, ob_uq (by omega)]; exact h.1 7 (by decide)
  rw [e11] at h1
  rw [e7] at h3
  refine hk I3 ?_ f3
  have eN : I3 (q + 1) = upd (upd (upd (I (q + 1)) (17 + 134 * i + 11) (s.1 9 + 1)) (17 + 134 * i + 12) 0) (17 + 134 * i + 13) (s.1 7) := by rw [h3, ob_uf, h2, ob_uf, h1, ob_uf]
  rw [eN]
  obtain ⟨a1, a2, a3⟩ := h
  refine ⟨fun j hj => ?_, ?_, fun k hk => ?_⟩
  · rw [pk_un (by omega)]
    show _ = upd (upd s.1 9 (s.1 9 + 1)) 10 0 (rf_pi j)
    by_cases e12 : j = 12
    · rw [e12, pk_us]; rfl
    · rw [pk_un (by omega)]
      by_cases e11 : j = 11
      · rw [e11, pk_us]; rfl
      · rw [pk_un (by omega), pk_un (show rf_pi j ≠ 10 from rf_pi_inj j hj 12 (by decide) e12), pk_un (show rf_pi j ≠ 9 from rf_pi_inj j hj 11 (by decide) e11)]
        exact a1 j hj
  · rw [pk_us]
    show s.1 7 = s.1 7 - 0
    rw [Int32.sub_zero]
  · obtain ⟨m1, m2, m3, m4⟩ := a3 k hk
    have e : ∀ x, 17 + 134 * i + 14 ≤ x → upd (upd (upd (I (q + 1)) (17 + 134 * i + 11) (s.1 9 + 1)) (17 + 134 * i + 12) 0) (17 + 134 * i + 13) (s.1 7) x = I (q + 1) x := fun x hx => by rw [pk_un (by omega), pk_un (by omega), pk_un (by omega)]
    refine ⟨by rw [e _ (by omega)]; exact m1, by rw [e _ (by omega)]; exact m2, by rw [e _ (by omega)]; exact m3, fun h => ?_⟩
    rw [e _ (by omega), e (17 + 134 * i + 14 + 5 * k + 4) (by omega)]
    exact m4 h
