/-! ===== the class: situations ===== -/
theorem ob_to {n i : Nat} (hn : n < 1048576) (hi : i ≤ n) : (nI n ≤ nI i → i = n) ∧ (¬ nI n ≤ nI i → i < n) := by
  refine ⟨fun hc => ?_, fun hc => ?_⟩
  · have := (nI_leI (by omega) (by omega)).mp hc
    omega
  · rcases Nat.lt_or_ge i n with h' | h'
    · exact h'
    · exact absurd (nI_le (by omega) (by omega)) hc
theorem cl_T.rw {I J : pm_I} {b : Nat} {A : aT} (h : cl_T I b A) (e : ∀ r, b ≤ r → r < b + 34 → J r = I r) : cl_T J b A :=
  ⟨by rw [e b (by omega) (by omega)]; exact h.1, fun k hk => by rw [e (b + 1) (by omega) (by omega)]; exact h.2.1 k hk, fun k hk => by rw [e (b + 2) (by omega) (by omega)]; exact h.2.2.1 k hk, fun i hi => (h.2.2.2 i hi).rw (fun r h1 h2 => e r (by omega) (by omega))⟩
theorem cl_T.put {I J : pm_I} {b i : Nat} {A : aT} {s : aS} (h : cl_T I b A) (hi : i < 6) (hS : cl_S J (b + 3 + 1 + 5 * i) s) (f : ob_fr (cl_s (b + 3 + 1 + 5 * i)) I J) : cl_T J b (ab_set A i s) := by
  have e : ∀ r, (r < b + 3 + 1 + 5 * i ∨ b + 3 + 1 + 5 * i + 5 ≤ r) → J r = I r := fun r hr => f r (fun hh => by have := hh.1; have := hh.2; omega)
  refine ⟨by rw [e b (by omega)]; exact h.1, fun k hk => by rw [e (b + 1) (by omega)]; exact h.2.1 k hk, fun k hk => by rw [e (b + 2) (by omega)]; exact h.2.2.1 k hk, fun k hk => ?_⟩
  show cl_S J (b + 3 + 1 + 5 * k) (if k = i then s else A.2.2.2 k)
  by_cases ek : k = i
  · rw [if_pos ek, ek]; exact hS
  · rw [if_neg ek]
    exact (h.2.2.2 k hk).rw (fun r h1 h2 => e r (by omega))
theorem cl_P.rw {I J : pm_I} {p : Nat} {P : aP} (h : cl_P I p P) (e : ∀ r, p ≤ r → r < p + 7 → r ≠ p + 5 → J r = I r) (e5 : J (p + 5) 1 = I (p + 5) 1) : cl_P J p P := by
  obtain ⟨h1, h2, h3, h4, h5, h6⟩ := h
  refine ⟨by rw [e p (by omega) (by omega) (by omega)]; exact h1, fun k hk => by rw [e (p + 1) (by omega) (by omega) (by omega), e (p + 2) (by omega) (by omega) (by omega)]; exact h2 k hk, fun k hk => by rw [e (p + 3) (by omega) (by omega) (by omega)]; exact h3 k hk, fun k hk => by rw [e (p + 4) (by omega) (by omega) (by omega)]; exact h4 k hk, by rw [e5]; exact h5, fun k hk => by rw [e (p + 5 + 1) (by omega) (by omega) (by omega)]; exact h6 k hk⟩
def cl_W (I : pm_I) (b p : Nat) (A : aT) (P : aP) : Prop := cl_T I b A ∧ cl_P I p P ∧ p + 8 ≤ b
theorem cl_P.fr {I J : pm_I} {p q : Nat} {P : aP} (h : cl_P I p P) (hq : p + 8 ≤ q) (f : ob_fr (cl_s q) I J) : cl_P J p P :=
  h.rw (fun r h1 h2 _ => f r (fun hh => by have := hh.1; omega)) (by rw [f (p + 5) (fun hh => by have := hh.1; omega)])
theorem cl_W.put {I J : pm_I} {b p i : Nat} {A : aT} {P : aP} {s : aS} (h : cl_W I b p A P) (hi : i < 6) (hS : cl_S J (b + 3 + 1 + 5 * i) s) (f : ob_fr (cl_s (b + 3 + 1 + 5 * i)) I J) : cl_W J b p (ab_set A i s) P :=
  ⟨h.1.put hi hS f, h.2.1.fr (by have := h.2.2; omega) f, h.2.2⟩
theorem cl_z_s {I J : pm_I} {b p i : Nat} (hi : i < 6) (f : ob_fr (cl_s (b + 3 + 1 + 5 * i)) I J) : ob_fr (cl_z b p) I J := f.wd (fun r hr => Or.inl (by have := hr.1; have := hr.2; omega))
theorem cl_kn {G : pm_G} {b : Nat} {x y : Int32} {I : pm_I} {K : Int32 → pm_I → Prop} {A : aT} (h : cl_T I b A) (hx : ob_ix 8 x) (hk : K (ob_b (ab_kn A x y)) I) : wX5_acquainted G b x y I K := by
  unfold wX5_acquainted
  rw [h.2.2.1 _ (hx.cl (by decide))]
  unfold ab_kn ab_bit at hk
  refine ⟨hx.in (by decide), fun e => ?_, fun e => ?_⟩
  · rw [decide_eq_false (by rw [e]; decide)] at hk; exact hk
  · rw [decide_eq_true (ob_and1n e)] at hk; exact hk
theorem cl_up {G : pm_G} {b : Nat} {x y : Int32} {I : pm_I} {K : Int32 → pm_I → Prop} {A : aT} (h : cl_T I b A) (hx : ob_ix 8 x) (hk : K (ob_b (ab_up A x y)) I) : wX5_linkIsUp G b x y I K := by
  unfold wX5_linkIsUp
  rw [h.2.1 _ (hx.cl (by decide))]
  unfold ab_up ab_bit at hk
  refine ⟨hx.in (by decide), fun e => ?_, fun e => ?_⟩
  · rw [decide_eq_false (by rw [e]; decide)] at hk; exact hk
  · rw [decide_eq_true (ob_and1n e)] at hk; exact hk
theorem cl_ld {G : pm_G} {b : Nat} {x : Int32} {I : pm_I} {K : Int32 → pm_I → Prop} {A : aT} (h : cl_T I b A) (h01 : ∀ i, i < 6 → (A.2.2.2 i).1 0 = 0 ∨ (A.2.2.2 i).1 0 = 1) (hk : K (nI (ab_ld A x)) I) : wX5_loadOf G b x I K := by
  unfold wX5_loadOf
  refine ob_lp3 (fun i c z J => c = nI (ob_ct (fun k => ab_on (A.2.2.2 k) x) i) ∧ z = nI i ∧ J = I) 6 ⟨rfl, rfl, rfl⟩ ?_
  intro P i c z J hi hI hP
  obtain ⟨hc0, hx, hJ⟩ := hI
  subst hx; subst hc0; subst hJ
  refine ⟨fun hc => ?_, fun hc => ?_⟩
  · have e := (ob_to (n := 6) (by decide) hi).1 hc
    subst e
    exact hk
  · have hl := (ob_to (n := 6) (by decide) hi).2 hc
    refine ⟨vp_in_nI hl (by decide), ?_⟩
    rw [nI_clamp (by omega)]
    refine cl_on (h.2.2.2 i hl).1 (h01 i hl) ⟨fun e => ?_, fun e => ?_⟩
    · refine hP _ _ _ hl ⟨?_, nI_1 _, rfl⟩
      show _ = nI (ob_ct _ i + if ab_on (A.2.2.2 i) x = true then 1 else 0)
      rw [ob_b0.mp e]; rfl
    · refine hP _ _ _ hl ⟨?_, nI_1 _, rfl⟩
      show _ = nI (ob_ct _ i + if ab_on (A.2.2.2 i) x = true then 1 else 0)
      rw [ob_b1.mp e, if_pos rfl, nI_1]
theorem cl_can {G : pm_G} {b : Nat} {x y z : Int32} {I : pm_I} {K : Int32 → pm_I → Prop} {A : aT} (h : cl_T I b A) (hx : ob_ix 8 x) (hk : K (ob_b (ab_can A x y z)) I) : wX5_canRelay G b x y z I K := by
  unfold wX5_canRelay
  unfold ab_can at hk
  refine ⟨fun e => ?_, fun e => ⟨fun e2 => ?_, fun e2 => ?_⟩⟩
  · rw [decide_eq_true e] at hk; exact hk
  · rw [decide_eq_false e, decide_eq_true e2] at hk; exact hk
  · rw [decide_eq_false e, decide_eq_false e2] at hk
    refine cl_kn h hx ⟨fun f => ?_, fun f => cl_kn h hx ⟨fun f2 => ?_, fun f2 => cl_up h hx ⟨fun f3 => ?_, fun f3 => cl_up h hx ⟨fun f4 => ?_, fun f4 => ?_⟩⟩⟩⟩
    · rw [ob_b0.mp f] at hk; exact hk
    · rw [ob_b1.mp f, ob_b0.mp f2] at hk; exact hk
    · rw [ob_b1.mp f, ob_b1.mp f2, ob_b0.mp f3] at hk; exact hk
    · rw [ob_b1.mp f, ob_b1.mp f2, ob_b1.mp f3, ob_b0.mp f4] at hk; exact hk
    · rw [ob_b1.mp f, ob_b1.mp f2, ob_b1.mp f3, ob_b1.mp f4] at hk; exact hk
theorem cl_dy {G : pm_G} {p : Nat} {x y : Int32} {I : pm_I} {K : Int32 → pm_I → Prop} {P : aP} (h : cl_P I p P) (hx : ob_ix 8 x) (hy : ob_ix 8 y) (hk : K (ab_dy P x y) I) : wX1_delayBetween G p x y I K := by
  unfold wX1_delayBetween
  have hi := ob_ix8 hx hy
  refine ⟨hi.in (by decide), ?_⟩
  rw [h.2.2.1 _ (hi.cl (by decide))]
  exact hk
theorem cl_da {G : pm_G} {p q : Nat} {I : pm_I} {K : Int32 → pm_I → Prop} {P : aP} {s : aS} (h : cl_P I p P) (hF : cl_F I q s.1) (h1 : ob_ix 8 (s.1 1)) (h2 : ob_ix 8 (s.1 2)) (h4 : ok_rt 8 (s.1 4)) (hk : K (ab_da P s) I) : wX1_delayAlong G p q I K := by
  unfold wX1_delayAlong
  rw [hF 4 (by decide), hF 1 (by decide), hF 2 (by decide)]
  unfold ab_da at hk
  refine ⟨fun e => ⟨fun e2 => ?_, fun e2 => ?_⟩, fun e => ?_⟩
  · rw [if_neg e, if_neg e2] at hk
    have h4' : ob_ix 8 (s.1 4) := (h4.resolve_left e2).resolve_left e
    refine cl_dy h h1 h4' ?_
    rw [hF 4 (by decide), hF 2 (by decide)]
    exact cl_dy h h4' h2 hk
  · rw [if_neg e, if_pos e2] at hk; exact hk
  · rw [if_pos e] at hk; exact cl_dy h h1 h2 hk
theorem cl_zc {G : pm_G} {p : Nat} {r s t : Int32} {I : pm_I} {K : Int32 → pm_I → Prop} {P : aP} (h : cl_P I p P) (oP : ok_P P) (hr : ob_ix (ab_np P) r) (hs : ob_ix (ab_np P) s) (ht : ob_ix (ab_np P) t) (hk : K (ab_zc P r s t) I) : wX1_zonesCrossed G p r s t I K := by
  have n8 := oP.1.1
  unfold wX1_zonesCrossed
  rw [(h.2.1 _ (hr.cl (by omega))).2, (h.2.1 _ (hs.cl (by omega))).2, (h.2.1 _ (ht.cl (by omega))).2]
  have ir := (hr.wd n8).in (by decide)
  have is := (hs.wd n8).in (by decide)
  have it := (ht.wd n8).in (by decide)
  unfold ab_zc at hk
  refine ⟨is, ir, fun e => ⟨it, ir, fun e2 => ?_, fun e2 => ?_⟩, fun e => ⟨it, ir, fun e2 => ?_, fun e2 => ?_⟩⟩
  · rw [if_pos e, if_pos e2] at hk; exact hk
  · rw [if_pos e, if_neg e2] at hk; exact hk
  · rw [if_neg e, if_pos e2] at hk; exact hk
  · rw [if_neg e, if_neg e2] at hk; exact hk
/-! the formula -/
def cl_V (J : pm_I) (q : Nat) (v : aV) : Prop := J q 3 = nI v.1 ∧ ∀ k, k < v.1 → J (q + 2) k = v.2 k
def cl_vf (q : Nat) (I J : pm_I) : Prop := (∀ r, r ≠ q → r ≠ q + 2 → J r = I r) ∧ ∀ j, j ≠ 3 → J q j = I q j
theorem cl_vf.tr {q : Nat} {I J L : pm_I} (h : cl_vf q I J) (h2 : cl_vf q J L) : cl_vf q I L := ⟨fun r h3 h4 => (h2.1 r h3 h4).trans (h.1 r h3 h4), fun j hj => (h2.2 j hj).trans (h.2 j hj)⟩
theorem cl_hold {G : pm_G} {q : Nat} {x : Int32} {J : pm_I} {K : pm_I → Prop} {v : aV} (h : cl_V J q v) (hv : v.1 < 16) (hk : ∀ L, cl_V L q (v.1 + 1, upd v.2 v.1 x) → cl_vf q J L → K L) : wX3_hold G q x J K := by
  unfold wX3_hold
  rw [h.1]
  refine ⟨fun hc => absurd hc (nI_ge (a := v.1) (b := 16) hv (by decide)), fun _ => ⟨vp_in_nI hv (by decide), fun I1 h1 I2 h2 => ?_⟩⟩
  rw [nI_clamp (by omega)] at h1
  have e : I1 q 3 = nI v.1 := by rw [h1, ob_ur (by omega)]; exact h.1
  rw [e, nI_1] at h2
  subst h2; subst h1
  refine hk _ ⟨ob_us _ _ _ _, fun k hk => ?_⟩ ⟨fun r h1 h2 => ?_, fun j hj => ?_⟩
  · have hk' : k < v.1 + 1 := hk
    show _ = upd v.2 v.1 x k
    rw [ob_ur (by omega)]
    by_cases e : k = v.1
    · rw [e, ob_us, pk_us]
    · rw [ob_uq e, pk_un e]; exact h.2 k (by omega)
  · rw [ob_ur h1, ob_ur h2]
  · rw [ob_uq hj, ob_ur (by omega)]
theorem cl_comb {G : pm_G} {q m : Nat} {i : Int32} {J : pm_I} {K : pm_I → Prop} {f : Nat → Int32} (h : cl_V J q (m + 2, f)) (hv : m + 2 ≤ 16) (hi : ab_isop i = true) (hk : ∀ L, cl_V L q (m + 1, upd f m (ab_op i (f m) (f (m + 1)))) → cl_vf q J L → K L) : wX3_combine G q i J K := by
  unfold wX3_combine
  have h3 : J q 3 = nI (m + 2) := h.1
  have e1 : nI (m + 2) - 1 = nI (m + 1) := nI_pred (m + 1)
  have e2 : nI (m + 2) - 2 = nI m := pk_sub (a := m + 2) (b := 2) (by omega)
  rw [h3, e1, e2, nI_clamp (by omega), nI_clamp (by omega)]
  have ha : J (q + 2) m = f m := h.2 m (by show m < m + 2; omega)
  have hb : J (q + 2) (m + 1) = f (m + 1) := h.2 (m + 1) (by show m + 1 < m + 2; omega)
  rw [ha, hb]
  have key : ∀ y, y = ab_op i (f m) (f (m + 1)) → ∀ I1, I1 = pm_up J q 3 (nI (m + 1)) → vp_in (I1 q 3 - 1) 16 ∧ ∀ I2 : pm_I, I2 = pm_up I1 (q + 2) (I1 q 3 - 1).toNatClampNeg y → K I2 := by
    intro y hy I1 h1
    have e : I1 q 3 - 1 = nI m := by rw [h1, ob_us]; exact nI_pred m
    rw [e]
    refine ⟨vp_in_nI (by omega) (by decide), fun I2 h2 => ?_⟩
    rw [nI_clamp (by omega)] at h2
    subst h2; subst h1; subst hy
    refine hk _ ⟨?_, fun k hk => ?_⟩ ⟨fun r h1 h2 => ?_, fun j hj => ?_⟩
    · rw [ob_ur (by omega), ob_us]
    · have hk' : k < m + 1 := hk
      show _ = upd f m _ k
      by_cases e : k = m
      · rw [e, ob_us, pk_us]
      · rw [ob_uq e, pk_un e, ob_ur (by omega)]; exact h.2 k (by show k < m + 2; omega)
    · rw [ob_ur h2, ob_ur h1]
    · rw [ob_ur (by omega), ob_uq hj]
  unfold ab_op at key
  refine ⟨fun _ => ⟨vp_in_nI (by omega) (by decide), vp_in_nI (by omega) (by decide), fun I1 h1 => ⟨fun e => ?_, fun e => ?_, fun e => ?_, fun e => ⟨fun z => ⟨z, ?_⟩, fun z => ?_⟩⟩⟩, fun hc => absurd (nI_le (a := 2) (b := m + 2) (by omega) (by omega)) hc⟩
  · exact key _ (by rw [if_pos e]) I1 h1
  · exact key _ (by rw [if_neg (by rw [e]; decide), if_pos e]) I1 h1
  · exact key _ (by rw [if_neg (by rw [e]; decide), if_neg (by rw [e]; decide), if_pos e]) I1 h1
  · exact key _ (by rw [if_neg e.1, if_neg e.2.1, if_neg e.2.2, if_neg z]) I1 h1
  · exact key _ (by rw [if_neg e.1, if_neg e.2.1, if_neg e.2.2, if_pos z]) I1 h1
theorem ok_ev_ht (f : Nat → Int32) (is : List Int32) : ∀ n, (ab_ev f is n).1 = ab_ht is n
  | 0 => rfl
  | n + 1 => by
    have ih := ok_ev_ht f is n
    show (ab_st f (ab_ev f is n) (is.getD n 0)).1 = if ab_isop (is.getD n 0) = true then ab_ht is n - 1 else ab_ht is n + 1
    unfold ab_st
    split
    · show (ab_ev f is n).1 - 1 = _
      rw [ih]
    · show (ab_ev f is n).1 + 1 = _
      rw [ih]
theorem ok_ht_16 {is : List Int32} (h : ok_it is) : ∀ n, n ≤ is.length → ab_ht is n ≤ 16
  | 0, _ => Nat.zero_le 16
  | n + 1, hn => by
    have ih := ok_ht_16 h n (by omega)
    have := (h.1 n (by omega)).1
    show (if ab_isop (is.getD n 0) = true then ab_ht is n - 1 else ab_ht is n + 1) ≤ 16
    split
    · omega
    · rename_i hc
      rw [if_neg hc] at this
      omega
theorem cl_worth {G : pm_G} {p : Nat} {f : Nat → Int32} {I : pm_I} {K : Int32 → pm_I → Prop} {P : aP} (h : cl_P I p P) (oP : ok_P P) (hk : ∀ L, cl_vf (p + 5) I L → K ((ab_ev f P.2.2.2.2.2 P.2.2.2.2.2.length).2 0) L) : wX3_worth G (p + 5) (f 1) (f 2) (f 3) (f 4) (f 5) I K := by
  obtain ⟨_, _, _, _, hl, hit⟩ := h
  obtain ⟨_, _, _, _, _, oit, o600⟩ := oP
  generalize P.2.2.2.2.2 = is at hl hit oit o600 hk
  unfold wX3_worth
  intro I0 h0
  refine ob_lp2 (fun i x J => x = nI i ∧ cl_V J (p + 5) (ab_ev f is i) ∧ cl_vf (p + 5) I J) is.length ⟨rfl, ?_, ?_⟩ ?_
  · subst h0
    exact ⟨ob_us _ _ _ _, fun k hk => absurd hk (Nat.not_lt_zero k)⟩
  · subst h0
    exact ⟨fun r h1 h2 => ob_ur h1, fun j hj => ob_uq hj⟩
  intro Q i x J hi hI hQ
  obtain ⟨hx, hV, hf⟩ := hI
  subst hx
  rw [show J (p + 5) 1 = nI is.length from (hf.2 1 (by decide)).trans hl]
  refine ⟨fun hc => ?_, fun hc => ?_⟩
  · have e := (ob_to (by omega) hi).1 hc
    subst e
    have e1 : (ab_ev f is is.length).1 = 1 := (ok_ev_ht f is is.length).trans oit.2
    have h3 : J (p + 5) 3 = nI 1 := by rw [hV.1, e1]
    rw [h3]
    refine ⟨fun hc => absurd hc (by decide), fun _ => ⟨vp_in_nI (n := 0) (by decide) (by decide), ?_⟩⟩
    have h0 : J (p + 5 + 2) (nI 1 - 1).toNatClampNeg = (ab_ev f is is.length).2 0 := hV.2 0 (by omega)
    rw [h0]
    exact hk J hf
  · have hl' := (ob_to (by omega) hi).2 hc
    rw [nI_clamp (by omega)]
    have hr : J (p + 5 + 1) i = is.getD i 0 := by rw [hf.1 _ (by omega) (by omega)]; exact hit i hl'
    rw [hr]
    have hin : vp_in (nI i) 600 := vp_in_nI (by omega) (by decide)
    obtain ⟨o1, o2⟩ := oit.1 i hl'
    have h16 := ok_ht_16 oit i (by omega)
    rw [← ok_ev_ht f is i] at o1 h16
    have push : ab_isop (is.getD i 0) = false → ∀ y, y = ab_val f (is.getD i 0) → wX3_hold G (p + 5) y J (fun L => Q (nI i + 1) L) := by
      intro hop y hy
      rw [hop, if_neg (by decide)] at o1
      refine cl_hold hV o1 (fun L hL fL => hQ _ _ hl' ⟨nI_1 _, ?_, hf.tr fL⟩)
      show cl_V L (p + 5) (ab_st f (ab_ev f is i) (is.getD i 0))
      unfold ab_st
      rw [hop, if_neg (by decide), ← hy]
      exact hL
    have comb : ab_isop (is.getD i 0) = true → wX3_combine G (p + 5) (is.getD i 0) J (fun L => Q (nI i + 1) L) := by
      intro hop
      rw [if_pos hop] at o1
      obtain ⟨m, hm⟩ : ∃ m, (ab_ev f is i).1 = m + 2 := ⟨(ab_ev f is i).1 - 2, by omega⟩
      have hV' : cl_V J (p + 5) (m + 2, (ab_ev f is i).2) := by rw [← hm]; exact hV
      refine cl_comb hV' (by omega) hop (fun L hL fL => hQ _ _ hl' ⟨nI_1 _, ?_, hf.tr fL⟩)
      show cl_V L (p + 5) (ab_st f (ab_ev f is i) (is.getD i 0))
      unfold ab_st
      rw [if_pos hop, hm]
      exact hL
    clear hr hQ
    generalize is.getD i 0 = it at *
    unfold ab_val at push
    refine ⟨hin, fun e => ?_, fun e => ?_, fun e => ?_, fun e => ?_, fun e => ?_, fun e => ⟨hin, ?_⟩, fun e => ⟨hin, ?_⟩⟩
    · subst e; exact push (by decide) _ (by rw [if_pos rfl])
    · subst e; exact push (by decide) _ (by rw [if_neg (by decide), if_pos rfl])
    · subst e; exact push (by decide) _ (by rw [if_neg (by decide), if_neg (by decide), if_pos rfl])
    · subst e; exact push (by decide) _ (by rw [if_neg (by decide), if_neg (by decide), if_neg (by decide), if_pos rfl])
    · subst e; exact push (by decide) _ (by rw [if_neg (by decide), if_neg (by decide), if_neg (by decide), if_neg (by decide), if_pos rfl])
    · have hop : ab_isop it = true := by rcases e with e | e | e | e <;> subst e <;> decide
      exact comb hop
    · obtain ⟨n1, n2, n3, n4, n5, n6⟩ := e
      refine push ?_ _ (by rw [if_neg n1, if_neg n2, if_neg n3, if_neg n4, if_neg n5])
      unfold ab_isop
      rw [decide_eq_false (fun e => n6 (Or.inr (Or.inr (Or.inr e)))), decide_eq_false (fun e => n6 (Or.inr (Or.inr (Or.inl e)))), decide_eq_false (fun e => n6 (Or.inr (Or.inl e))), decide_eq_false (fun e => n6 (Or.inl e))]
      rfl
