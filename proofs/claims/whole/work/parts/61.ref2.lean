/-! ===== the reference: sessions (2) ===== -/
theorem ob_upd_same {f : Nat → Int32} {i : Nat} {x : Int32} (h : f i = x) : upd f i x = f := by
  funext k
  by_cases e : k = i
  · rw [e, pk_us, h]
  · rw [pk_un e]
theorem ob_ix.pos {n : Nat} {x : Int32} (h : ob_ix n x) (hn : n < 2 ^ 31) : 0 ≤ x ∧ ¬ x = -1 ∧ ¬ x = -2 := by
  obtain ⟨a, ha, rfl⟩ := h
  have hp := nI_pos' (n := a) (by omega)
  exact ⟨hp, fun e => by rw [e] at hp; exact absurd hp (by decide), fun e => by rw [e] at hp; exact absurd hp (by decide)⟩
theorem ok_rt.pos {n : Nat} {x : Int32} (h : ok_rt n x) (hn : n < 2 ^ 31) (h1 : ¬ x = -1) : 0 ≤ x ∧ ab_so x = 1 := by
  rcases h with h | h | h
  · exact absurd h h1
  · subst h; exact ⟨by decide, by decide⟩
  · refine ⟨(h.pos hn).1, ?_⟩
    unfold ab_so
    rw [if_neg h1, if_neg (h.pos hn).2.2]
theorem ab_so_0 {x : Int32} : ab_so x = 0 ↔ x = -1 := by
  unfold ab_so
  constructor
  · intro h
    by_cases e : x = -1
    · exact e
    · rw [if_neg e] at h
      by_cases e2 : x = -2
      · rw [if_pos e2] at h; exact absurd h (by decide)
      · rw [if_neg e2] at h; exact absurd h (by decide)
  · intro h; rw [if_pos h]
theorem ab_so_2 {x : Int32} : ab_so x = 2 ↔ x = -2 := by
  unfold ab_so
  constructor
  · intro h
    by_cases e : x = -1
    · rw [if_pos e] at h; exact absurd h (by decide)
    · rw [if_neg e] at h
      by_cases e2 : x = -2
      · exact e2
      · rw [if_neg e2] at h; exact absurd h (by decide)
  · intro h; subst h; decide
theorem rf_db {G : pm_G} {q i : Nat} {x : Int32} {I : pm_I} {K : Int32 → pm_I → Prop} {P : aP} {s : aS} (e1 : I (q + 1) (17 + 134 * i + 1) = s.1 1) (e2 : I (q + 1) (17 + 134 * i + 2) = s.1 2) (hi : i < 6) (hP : rf_P I q P) (h1 : ob_ix 8 (s.1 1)) (h2 : ob_ix 8 (s.1 2)) (hx : x = 100 ∨ ob_ix 8 x) (hk : K (if x = 100 then ab_dy P (s.1 1) (s.1 2) else ab_dy P (s.1 1) x + ab_dy P x (s.1 2)) I) : wX7_delayBy G q (nI i) x I K := by
  unfold wX7_delayBy
  refine rf_of (j := 1) rfl ⟨vp_in_nI (by omega) (by decide), rf_of (j := 2) rfl ⟨vp_in_nI (by omega) (by decide), ?_⟩⟩
  rw [nI_clamp (by omega), nI_clamp (by omega), e1, e2, ob_mc, ob_mc, ob_mc]
  refine ⟨fun e => ?_, fun e => ?_⟩
  · rw [if_neg e] at hk
    have hx' := hx.resolve_left e
    have i1 := ob_ix8 h1 hx'
    have i2 := ob_ix8 hx' h2
    rw [hP.2.2.1 _ (i1.cl (by decide)), hP.2.2.1 _ (i2.cl (by decide))]
    exact ⟨(i1.wd (m := 128) (by decide)).in (by decide), (i2.wd (m := 128) (by decide)).in (by decide), hk⟩
  · rw [if_pos e] at hk
    have i1 := ob_ix8 h1 h2
    rw [hP.2.2.1 _ (i1.cl (by decide))]
    exact ⟨(i1.wd (m := 128) (by decide)).in (by decide), hk⟩
theorem rf_trv {G : pm_G} {q i m : Nat} {t : Int32} {I : pm_I} {K : pm_I → Prop} {P : aP} {s : aS} (hF : rf_F (I (q + 1)) (17 + 134 * i) s.1) (hi : i < 6) (hm : 17 + 134 * i + 14 ≤ m) (hm2 : m + 4 < 17 + 134 * i + 134) (hP : rf_P I q P) (ht : I (q + 1) 0 = t) (h1 : ob_ix 8 (s.1 1)) (h2 : ob_ix 8 (s.1 2)) (h4 : ok_rt 8 (s.1 4))
    (hk : ∀ J, (∀ r, r ≠ q + 1 → J r = I r) → (∀ x, x ≠ m → x ≠ m + 3 → x ≠ m + 4 → J (q + 1) x = I (q + 1) x) → J (q + 1) m = ab_so (s.1 4) → (0 ≤ s.1 4 → J (q + 1) (m + 3) = t + ab_da P s ∧ J (q + 1) (m + 4) = s.1 4) → K J) : wX7_travels G q (nI i) (nI m) I K := by
  unfold wX7_travels
  have e4 : I (q + 1) (17 + 134 * i + 3) = s.1 4 := hF 3 (by decide)
  refine rf_of (j := 3) rfl ⟨vp_in_nI (by omega) (by decide), ?_⟩
  rw [nI_clamp (by omega), e4, Int32.add_zero, show nI m + 4 = nI (m + 4) from nI_add m 4, show nI m + 3 = nI (m + 3) from nI_add m 3, nI_clamp (by omega), nI_clamp (by omega), nI_clamp (by omega), rf_c0]
  refine ⟨fun e => ⟨vp_in_nI (by omega) (by decide), fun I1 q1 => ⟨vp_in_nI (by omega) (by decide), fun I2 q2 => ⟨fun _ => ?_, fun e' => absurd e' e⟩⟩⟩, fun e => ⟨vp_in_nI (by omega) (by decide), fun I1 q1 => ⟨vp_in_nI (by omega) (by decide), fun I2 q2 => ⟨fun e' => absurd e e', fun _ => ⟨vp_in_nI (by omega) (by decide), fun I3 q3 => ?_⟩⟩⟩⟩⟩
  · have a1 : ∀ x, x ≠ m → x ≠ m + 4 → I2 (q + 1) x = I (q + 1) x := fun x h1 h2 => by rw [q2, ob_uq h2, q1, ob_uq h1]
    have a2 : ∀ r, r ≠ q + 1 → I2 r = I r := fun r hr => by rw [q2, ob_ur hr, q1, ob_ur hr]
    refine rf_db (s := s) (P := P) (by rw [a1 _ (by omega) (by omega)]; exact hF 1 (by decide)) (by rw [a1 _ (by omega) (by omega)]; exact hF 2 (by decide)) hi (hP.rw (fun r h1 h2 => a2 r (by omega))) h1 h2 (h4.resolve_left e) ⟨vp_in_nI (by omega) (by decide), fun I3 q3 => ?_⟩
    rw [a1 0 (by omega) (by omega), ht] at q3
    have eda : ab_da P s = if s.1 4 = 100 then ab_dy P (s.1 1) (s.1 2) else ab_dy P (s.1 1) (s.1 4) + ab_dy P (s.1 4) (s.1 2) := by
      unfold ab_da
      by_cases h100 : s.1 4 = 100
      · rw [if_pos h100, if_pos h100]
      · rw [if_neg h100, if_neg h100, if_neg e]
    rw [← eda] at q3
    refine hk I3 (fun r hr => by rw [q3, ob_ur hr]; exact a2 r hr) (fun x x1 x2 x3 => by rw [q3, ob_uq x2]; exact a1 x x1 x3) ?_ (fun _ => ⟨by rw [q3, ob_us], by rw [q3, ob_uq (by omega), q2, ob_us]⟩)
    rw [q3, ob_uq (by omega), q2, ob_uq (by omega), q1, ob_us, (h4.pos (by decide) e).2]
  · refine hk I3 (fun r hr => by rw [q3, ob_ur hr, q2, ob_ur hr, q1, ob_ur hr]) (fun x x1 x2 x3 => by rw [q3, ob_uq x2, q2, ob_uq x3, q1, ob_uq x1]) ?_ (fun hp => absurd hp (by rw [e]; decide))
    rw [q3, ob_uq (by omega), q2, ob_uq (by omega), q1, ob_us, ab_so_0.mpr e]
theorem rf_O.um {N N' : Nat → Int32} {o n k : Nat} {r t : Int32} {F : Nat → Int32} {M : Nat → Nat → Int32} (h : rf_O N o (F, n, M)) (hk : k < n) (e : ∀ x, x ≠ o + 14 + 5 * k → x ≠ o + 14 + 5 * k + 3 → x ≠ o + 14 + 5 * k + 4 → N' x = N x) (e0 : N' (o + 14 + 5 * k) = ab_so r) (e1 : 0 ≤ r → N' (o + 14 + 5 * k + 3) = t ∧ N' (o + 14 + 5 * k + 4) = r) : rf_O N' o (F, n, fun j => if j = k then ab_mv (M k) r t else M j) := by
  obtain ⟨h1, h2, h3⟩ := h
  refine ⟨fun j hj => by rw [e _ (by omega) (by omega) (by omega)]; exact h1 j hj, by rw [e _ (by omega) (by omega) (by omega)]; exact h2, fun j hj => ?_⟩
  obtain ⟨m1, m2, m3, m4⟩ := h3 j hj
  show rf_m N' (o + 14 + 5 * j) (if j = k then ab_mv (M k) r t else M j)
  by_cases ej : j = k
  · subst ej
    rw [if_pos rfl]
    exact ⟨e0, by rw [e _ (by omega) (by omega) (by omega)]; exact m2, by rw [e _ (by omega) (by omega) (by omega)]; exact m3, e1⟩
  · rw [if_neg ej]
    refine ⟨by rw [e _ (by omega) (by omega) (by omega)]; exact m1, by rw [e _ (by omega) (by omega) (by omega)]; exact m2, by rw [e _ (by omega) (by omega) (by omega)]; exact m3, fun h => ?_⟩
    rw [e _ (by omega) (by omega) (by omega), e (o + 14 + 5 * j + 4) (by omega) (by omega) (by omega)]
    exact m4 h
theorem rf_to {n i : Nat} (hn : n < 1048576) (hi : i ≤ n) : (nI n ≤ nI i → i = n) ∧ (¬ nI n ≤ nI i → i < n) := ob_to hn hi
theorem rf_sw {G : pm_G} {q i d : Nat} {t : Int32} {I : pm_I} {K : pm_I → Prop} {P : aP} {s : aS} (h : rf_O (I (q + 1)) (17 + 134 * i) s) (g : cl_g s d) (hi : i < 6) (hP : rf_P I q P) (ht : I (q + 1) 0 = t) (h1 : ob_ix 8 (s.1 1)) (h2 : ob_ix 8 (s.1 2)) (h4 : ok_rt 8 (s.1 4)) (hk : ∀ J, rf_O (J (q + 1)) (17 + 134 * i) (ab_sw s (t + ab_da P s)) → rf_f q (17 + 134 * i) I J → K J) :
    pm_lp2 (fun (P15 : Int32 → pm_I → Prop) (x17 : Int32) (I16 : pm_I) => wX7_undelivered G q (nI i) I16 (fun r19 I18 => (r19 ≤ x17 → K I18) ∧ (¬ r19 ≤ x17 → (wX7_message G (nI i) (x17) I18 (fun r21 I20 => vp_in (r21 + 0) 821 ∧ ((¬ (I20 (q + 1) (r21 + 0).toNatClampNeg) = 0 → (P15 (x17 + 1) I20)) ∧ ((I20 (q + 1) (r21 + 0).toNatClampNeg) = 0 → (wX7_message G (nI i) (x17) I20 (fun r23 I22 => wX7_travels G q (nI i) (r23) I22 (fun I24 => P15 (x17 + 1) I24)))))))))) (0) I := by
  obtain ⟨F, n, M⟩ := s
  have g' := g
  obtain ⟨ho, h8, h7, hb, hn⟩ := g
  replace hn : n ≤ 24 := hn
  generalize htt : t + ab_da P (F, n, M) = tt at hk
  refine ob_lp2 (fun k x J => x = nI k ∧ rf_O (J (q + 1)) (17 + 134 * i) (F, n, ob_pm (fun m => if m 2 = -1 then ab_mv m (F 4) tt else m) k M) ∧ rf_f q (17 + 134 * i) I J) n ⟨rfl, by rw [ob_pm_0]; exact h, rf_f.rf⟩ ?_
  intro Q k x J hk' hI hQ
  obtain ⟨hx, hO, hf⟩ := hI
  subst hx
  refine rf_und hO g' hi ⟨fun hc => ?_, fun hc => ?_⟩
  · have e := (ob_to (by omega) hk').1 hc
    subst e
    exact hk J (hO.cg (fun _ _ => rfl) rfl (fun j hj => ob_pm_l hj)) hf
  · have hl := (ob_to (by omega) hk').2 hc
    refine rf_msg rfl ?_
    rw [Int32.add_zero, nI_clamp (by omega)]
    refine ⟨vp_in_nI (by omega) (by decide), ?_⟩
    have m0 : J (q + 1) (17 + 134 * i + 14 + 5 * k) = ab_so (M k 2) := by
      have := (hO.2.2 k hl).1
      rw [show (F, n, ob_pm (fun m => if m 2 = -1 then ab_mv m (F 4) tt else m) k M).2.2 k = M k from ob_pm_i _ _ _] at this
      exact this
    rw [m0, ab_so_0]
    refine ⟨fun z => ?_, fun z => rf_msg rfl ?_⟩
    · refine hQ _ _ hl ⟨nI_1 _, ?_, hf⟩
      rw [← ob_pm_n (by show (if M k 2 = -1 then _ else _) = _; rw [if_neg z])]
      exact hO
    · refine rf_trv (s := (F, n, M)) (P := P) (t := t) hO.1 hi (by omega) (by omega) (hP.f hf) (by rw [hf.2 0 (by omega)]; exact ht) h1 h2 h4 (fun L e1 e2 e3 e4 => ?_)
      rw [htt] at e4
      refine hQ _ _ hl ⟨nI_1 _, ?_, hf.tr ⟨e1, fun x hx => e2 x (by omega) (by omega) (by omega)⟩⟩
      rw [← ob_pm_c (g := fun m => if m 2 = -1 then ab_mv m (F 4) tt else m) (i := k) (M := M) (x := ab_mv (M k) (F 4) tt) (by show _ = (if M k 2 = -1 then _ else _); rw [if_pos z])]
      have := rf_O.um (r := F 4) (t := tt) hO hl e2 e3 e4
      rw [ob_pm_i] at this
      exact this
theorem rf_tak {G : pm_G} {q i d : Nat} {x t : Int32} {I : pm_I} {K : pm_I → Prop} {P : aP} {s : aS} (h : rf_O (I (q + 1)) (17 + 134 * i) s) (g : cl_g s d) (hi : i < 6) (hP : rf_P I q P) (ht : I (q + 1) 0 = t) (h1 : ob_ix 8 (s.1 1)) (h2 : ob_ix 8 (s.1 2)) (hx : ok_rt 8 x) (hne : x ≠ s.1 4) (hk : ∀ J, rf_O (J (q + 1)) (17 + 134 * i) (ab_tak P t s x) → rf_f q (17 + 134 * i) I J → K J) : wX7_takesPath G q (nI i) x I K := by
  unfold wX7_takesPath
  refine rf_of (j := 3) rfl ⟨vp_in_nI (by omega) (by decide), fun I1 q1 => rf_of (j := 12) rfl ⟨vp_in_nI (by omega) (by decide), ?_⟩⟩
  rw [nI_clamp (by omega)] at q1
  have hO1 : rf_O (I1 (q + 1)) (17 + 134 * i) (ab_f s 4 x) := by
    rw [q1, ob_uf]
    exact h.up (j := 3) (by decide) (by decide) (by decide)
  have f1 : rf_f q (17 + 134 * i) I I1 := by rw [q1]; exact rf_f.rf.up (by omega) (by omega)
  have g1 : cl_g (ab_f s 4 x) d := g.f (by decide) (by decide) (by decide)
  have e10 : I1 (q + 1) (17 + 134 * i + 12) = s.1 10 := hO1.1 12 (by decide)
  rw [nI_clamp (by omega), e10]
  unfold ab_tak at hk
  have ecp : ab_cp s x = ab_f (if 0 < s.1 10 then ab_nk s else s) 4 x := by
    unfold ab_cp
    by_cases hp : 0 < s.1 10
    · rw [if_pos ⟨hne, hp⟩, if_pos hp]
    · rw [if_neg (fun hh => hp hh.2), if_neg hp]
  rw [ecp] at hk
  refine ⟨fun hc => ?_, fun hc => ?_⟩
  · rw [if_neg (Int32.not_lt.mpr hc)] at hk
    exact rf_sw hO1 g1 hi (hP.f f1) (by rw [f1.2 0 (by omega)]; exact ht) h1 h2 hx (fun J hJ fJ => hk J hJ (f1.tr fJ))
  · rw [if_pos (Int32.not_le.mp hc)] at hk
    refine rf_nk hO1 hi (fun J hJ fJ => ?_)
    have hJ2 : rf_O (J (q + 1)) (17 + 134 * i) (ab_f (ab_nk s) 4 x) := by
      refine hJ.cg (fun j hj => ?_) rfl (fun _ _ => rfl)
      show upd (upd (upd s.1 4 x) 9 (s.1 9 + 1)) 10 0 j = upd (upd (upd s.1 9 (s.1 9 + 1)) 10 0) 4 x j
      by_cases j4 : j = 4
      · subst j4; rfl
      · rw [pk_un (k := 4) j4]
        by_cases j10 : j = 10
        · subst j10; rfl
        · rw [pk_un j10, pk_un j10]
          by_cases j9 : j = 9
          · subst j9; rfl
          · rw [pk_un j9, pk_un j9, pk_un j4]
    have fJ2 := f1.tr fJ
    exact rf_sw hJ2 (g.nk.f (by decide) (by decide) (by decide)) hi (hP.f fJ2) (by rw [fJ2.2 0 (by omega)]; exact ht) h1 h2 hx (fun L hL fL => hk L hL (fJ2.tr fL))
