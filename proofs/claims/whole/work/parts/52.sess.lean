/-! ===== the class: sessions ===== -/
theorem ob_xor (a b : Nat) : nI a ^^^ nI b = nI (a ^^^ b) := by
  apply Int32.toBitVec_inj.mp
  rw [Int32.toBitVec_xor]
  show BitVec.ofNat 32 a ^^^ BitVec.ofNat 32 b = BitVec.ofNat 32 (a ^^^ b)
  apply BitVec.eq_of_toNat_eq
  rw [BitVec.toNat_xor, BitVec.toNat_ofNat, BitVec.toNat_ofNat, BitVec.toNat_ofNat, Nat.xor_mod_two_pow]
/-- the rows of a session -/
def cl_s (b r : Nat) : Prop := b ≤ r ∧ r < b + 5
/-- an open session, with d delivered -/
def cl_g (s : aS) (d : Nat) : Prop := s.1 0 = 1 ∧ s.1 8 = nI d ∧ s.1 7 = nI (d + s.2.1) ∧ d + s.2.1 < 1048576 ∧ s.2.1 ≤ 24
def ob_pm (g : (Nat → Int32) → Nat → Int32) (i : Nat) (M : Nat → Nat → Int32) : Nat → Nat → Int32 := fun k => if k < i then g (M k) else M k
theorem ob_pm_0 (g : (Nat → Int32) → Nat → Int32) (M : Nat → Nat → Int32) : ob_pm g 0 M = M := funext fun k => if_neg (Nat.not_lt_zero k)
theorem ob_pm_i (g : (Nat → Int32) → Nat → Int32) (i : Nat) (M : Nat → Nat → Int32) : ob_pm g i M i = M i := if_neg (Nat.lt_irrefl i)
theorem ob_pm_l {g : (Nat → Int32) → Nat → Int32} {i k : Nat} {M : Nat → Nat → Int32} (h : k < i) : ob_pm g i M k = g (M k) := if_pos h
theorem ob_pm_c {g : (Nat → Int32) → Nat → Int32} {i : Nat} {M : Nat → Nat → Int32} {x : Nat → Int32} (h : x = g (M i)) : (fun k => if k = i then x else ob_pm g i M k) = ob_pm g (i + 1) M := by
  funext k
  unfold ob_pm
  by_cases e : k = i
  · subst e; rw [if_pos rfl, if_pos (by omega), h]
  · rw [if_neg e]
    by_cases l : k < i
    · rw [if_pos l, if_pos (by omega)]
    · rw [if_neg l, if_neg (by omega)]
theorem ob_pm_n {g : (Nat → Int32) → Nat → Int32} {i : Nat} {M : Nat → Nat → Int32} (h : g (M i) = M i) : ob_pm g i M = ob_pm g (i + 1) M := by
  rw [← ob_pm_c (g := g) (i := i) (M := M) (x := M i) h.symm]
  funext k
  by_cases e : k = i
  · subst e; rw [if_pos rfl, ob_pm_i]
  · rw [if_neg e]
theorem cl_F.up {I : pm_I} {b j : Nat} {F : Nat → Int32} {v : Int32} (h : cl_F I b F) : cl_F (pm_up I b j v) b (upd F j v) := fun k hk => by
  by_cases e : k = j
  · subst e; rw [ob_us, pk_us]
  · rw [ob_uq e, pk_un e]; exact h k hk
theorem cl_S.rw {I J : pm_I} {b : Nat} {s : aS} (h : cl_S I b s) (e : ∀ r, b ≤ r → r < b + 5 → J r = I r) : cl_S J b s :=
  ⟨fun k hk => by rw [e b (by omega) (by omega)]; exact h.1 k hk, fun ho k hk j hj => by rw [e (b + 1 + j) (by omega) (by omega)]; exact h.2 ho k hk j hj⟩
theorem cl_S.up {I : pm_I} {b : Nat} {s : aS} {j : Nat} {v : Int32} (h : cl_S I b s) (h0 : j ≠ 0) (h8 : j ≠ 8) : cl_S (pm_up I b j v) b (ab_f s j v) := by
  refine ⟨h.1.up, fun ho k hk j' hj' => ?_⟩
  have e0 : (ab_f s j v).1 0 = s.1 0 := pk_un (fun e => h0 e.symm)
  have e8 : ab_sd (ab_f s j v) = ab_sd s := congrArg Int32.toNatClampNeg (pk_un (fun e => h8 e.symm))
  rw [e0] at ho
  rw [ob_ur (by omega), e8]
  exact h.2 ho k hk j' hj'
theorem cl_S.um {I : pm_I} {b : Nat} {s : aS} {k j : Nat} {v : Int32} (h : cl_S I b s) (hn : s.2.1 ≤ 24) (hk : k < s.2.1) (hj : j < 4) : cl_S (pm_up I (b + 1 + j) ((ab_sd s + k) % 24) v) b (s.1, s.2.1, fun k' => if k' = k then upd (s.2.2 k) j v else s.2.2 k') := by
  refine ⟨fun i hi => ?_, fun ho k' hk' j' hj' => ?_⟩
  · rw [ob_ur (by omega)]; exact h.1 i hi
  · have hk2 : k' < s.2.1 := hk'
    show pm_up I (b + 1 + j) ((ab_sd s + k) % 24) v (b + 1 + j') ((ab_sd s + k') % 24) = (if k' = k then upd (s.2.2 k) j v else s.2.2 k') j'
    rw [ob_up]
    by_cases e : k' = k
    · subst e
      rw [if_pos rfl]
      by_cases ej : j' = j
      · subst ej; rw [if_pos ⟨rfl, rfl⟩, pk_us]
      · rw [if_neg (fun hh => ej (by omega)), pk_un ej]; exact h.2 ho k' hk2 j' hj'
    · rw [if_neg e, if_neg (fun hh => e (by omega))]
      exact h.2 ho k' hk2 j' hj'
theorem cl_S.rt {I : pm_I} {b d n k j : Nat} {F : Nat → Int32} {M : Nat → Nat → Int32} (h : cl_S I b (F, n, M)) (h0 : F 0 = 1) (h8 : F 8 = nI d) (hd : d < 1048576) (hk : k < n) (hj : j < 4) : I (b + 1 + j) ((d + k) % 24) = M k j := by
  have := h.2 h0 k hk j hj
  have e : ab_sd (F, n, M) = d := by
    show (F 8).toNatClampNeg = d
    rw [h8, nI_clamp (by omega)]
  rw [e] at this
  exact this
theorem cl_S.cg {I : pm_I} {b n : Nat} {F : Nat → Int32} {M M' : Nat → Nat → Int32} (h : cl_S I b (F, n, M)) (e : ∀ k, k < n → M k = M' k) : cl_S I b (F, n, M') := ⟨h.1, fun ho k hk j hj => by
  have := h.2 ho k hk j hj
  rw [show (F, n, M).2.2 k = (F, n, M').2.2 k from e k hk] at this
  exact this⟩
theorem cl_S.u1 {J : pm_I} {b d n i : Nat} {F : Nat → Int32} {M : Nat → Nat → Int32} {v : Int32} (j : Nat) (h : cl_S J b (F, n, M)) (h8 : F 8 = nI d) (hd : d < 1048576) (hn : n ≤ 24) (hl : i < n) (hj : j < 4) : cl_S (pm_up J (b + 1 + j) ((d + i) % 24) v) b (F, n, fun k => if k = i then upd (M i) j v else M k) := by
  have e : ab_sd (F, n, M) = d := by
    show (F 8).toNatClampNeg = d
    rw [h8, nI_clamp (by omega)]
  have := h.um (k := i) (j := j) (v := v) hn hl hj
  rw [e] at this
  exact this
theorem cl_S.ud {J : pm_I} {b d n i : Nat} {F : Nat → Int32} {M : Nat → Nat → Int32} {v t : Int32} (h : cl_S J b (F, n, M)) (h8 : F 8 = nI d) (hd : d < 1048576) (hn : n ≤ 24) (hl : i < n) : cl_S (pm_up (pm_up J (b + 3) ((d + i) % 24) v) (b + 4) ((d + i) % 24) t) b (F, n, fun k => if k = i then ab_mv (M i) v t else M k) := by
  have h1 : cl_S (pm_up J (b + 3) ((d + i) % 24) v) b (F, n, fun k => if k = i then upd (M i) 2 v else M k) := h.u1 2 h8 hd hn hl (by decide)
  have h2 : cl_S (pm_up (pm_up J (b + 3) ((d + i) % 24) v) (b + 4) ((d + i) % 24) t) b _ := h1.u1 3 h8 hd hn hl (by decide)
  refine h2.cg (fun k hk => ?_)
  by_cases ek : k = i
  · rw [if_pos ek, if_pos ek, if_pos rfl]; rfl
  · rw [if_neg ek, if_neg ek, if_neg ek]
theorem cl_place {G : pm_G} {m : Nat} {I : pm_I} {K : Int32 → pm_I → Prop} (hm : m < 2 ^ 31) (h : K (nI (m % 24)) I) : wX4_placeOf G (nI m) I K := by
  unfold wX4_placeOf wJ9_floorMod_7cf53
  have e : nI m - nI m / 24 * 24 = nI (m % 24) := pk_rem (d := 24) hm (by decide) (by decide)
  refine ⟨by decide, fun _ => ?_, fun hc => absurd ?_ hc⟩
  · rw [e]; exact h
  · rw [show (24 : Int32) = nI 24 from rfl, ob_xor]
    exact nI_pos' (Nat.xor_lt_two_pow hm (by decide))
theorem cl_nk {G : pm_G} {b : Nat} {I : pm_I} {K : pm_I → Prop} {s : aS} (h : cl_S I b s) (hk : ∀ J, cl_S J b (ab_nk s) → ob_fr (cl_s b) I J → K J) : wX4_takeNextKey G b I K := by
  unfold wX4_takeNextKey
  intro I1 h1 I2 h2
  subst h2; subst h1
  refine hk _ ?_ ((ob_fr.rf.up ⟨by omega, by omega⟩).up ⟨by omega, by omega⟩)
  rw [h.1 9 (by decide)]
  exact (h.up (j := 9) (by decide) (by decide)).up (j := 10) (by decide) (by decide)
theorem cl_cp {G : pm_G} {b : Nat} {x : Int32} {I : pm_I} {K : pm_I → Prop} {s : aS} (h : cl_S I b s) (hk : ∀ J, cl_S J b (ab_cp s x) → ob_fr (cl_s b) I J → K J) : wX4_changePath G b x I K := by
  unfold wX4_changePath
  rw [h.1 4 (by decide), h.1 10 (by decide)]
  refine ⟨fun hc => ?_, fun hc => ⟨fun hc2 => ?_, fun hc2 => ?_⟩⟩
  · intro I1 h1
    subst h1
    have e : ab_cp s x = ab_f s 4 x := by unfold ab_cp; rw [if_neg (fun hh => hh.1 hc)]
    exact hk _ (e ▸ h.up (by decide) (by decide)) (ob_fr.rf.up ⟨by omega, by omega⟩)
  · intro I1 h1
    subst h1
    have e : ab_cp s x = ab_f s 4 x := by unfold ab_cp; rw [if_neg (fun hh => absurd hc2 (Int32.not_le.mpr hh.2))]
    exact hk _ (e ▸ h.up (by decide) (by decide)) (ob_fr.rf.up ⟨by omega, by omega⟩)
  · refine cl_nk h (fun J hJ fJ => ?_)
    intro I1 h1
    subst h1
    have e : ab_cp s x = ab_f (ab_nk s) 4 x := by unfold ab_cp; rw [if_pos ⟨hc, Int32.not_le.mp hc2⟩]
    exact hk _ (e ▸ hJ.up (by decide) (by decide)) (fJ.up ⟨by omega, by omega⟩)
theorem cl_loop {d n i : Nat} (hb : d + n < 1048576) (hi : i ≤ n) : (nI (d + n) ≤ nI (d + i) → i = n) ∧ (¬ nI (d + n) ≤ nI (d + i) → i < n) := by
  refine ⟨fun hc => ?_, fun hc => ?_⟩
  · have := (nI_leI (by omega) (by omega)).mp hc
    omega
  · rcases Nat.lt_or_ge i n with h' | h'
    · exact h'
    · exact absurd (nI_le (by omega) (by omega)) hc
theorem cl_sw {G : pm_G} {b d : Nat} {t : Int32} {I : pm_I} {K : pm_I → Prop} {s : aS} (h : cl_S I b s) (g : cl_g s d) (hk : ∀ J, cl_S J b (ab_sw s t) → ob_fr (cl_s b) I J → K J) : wX4_startWaiting G b t I K := by
  obtain ⟨ho, h8, h7, hb, hn⟩ := g
  obtain ⟨F, n, M⟩ := s
  unfold wX4_startWaiting
  rw [show I b 8 = nI d from (h.1 8 (by decide)).trans h8]
  refine ob_lp2 (fun i x J => x = nI (d + i) ∧ cl_S J b (F, n, ob_pm (fun m => if m 2 = -1 then ab_mv m (F 4) t else m) i M) ∧ ob_fr (cl_s b) I J) n ⟨rfl, by rw [ob_pm_0]; exact h, ob_fr.rf⟩ ?_
  intro P i x J hi hI hP
  obtain ⟨hx, hS, hf⟩ := hI
  subst hx
  rw [show J b 7 = nI (d + n) from (hS.1 7 (by decide)).trans h7]
  refine ⟨fun hc => ?_, fun hc => ?_⟩
  · have e := (cl_loop hb hi).1 hc
    subst e
    exact hk J (hS.cg (fun k hk => ob_pm_l hk)) hf
  · have hl := (cl_loop hb hi).2 hc
    refine cl_place (by omega) ⟨vp_in_nI (by omega) (by decide), ?_⟩
    rw [nI_clamp (by omega)]
    have hr : J (b + 3) ((d + i) % 24) = M i 2 := by
      have := hS.rt (j := 2) ho h8 (by omega) hl (by decide)
      rw [ob_pm_i] at this
      exact this
    rw [hr]
    refine ⟨fun hc2 => ?_, fun hc2 => ⟨vp_in_nI (by omega) (by decide), fun I1 h1 => ⟨vp_in_nI (by omega) (by decide), fun I2 h2 => ?_⟩⟩⟩
    · refine hP _ _ hl ⟨nI_1 _, ?_, hf⟩
      rw [← ob_pm_n (by show (if M i 2 = -1 then _ else _) = _; rw [if_neg hc2])]
      exact hS
    · subst h2; subst h1
      refine hP _ _ hl ⟨nI_1 _, ?_, (hf.up ⟨by omega, by omega⟩).up ⟨by omega, by omega⟩⟩
      rw [← ob_pm_c (g := fun m => if m 2 = -1 then ab_mv m (F 4) t else m) (i := i) (M := M) (x := ab_mv (M i) (J b 4) t) (by show _ = (if M i 2 = -1 then _ else _); rw [if_pos hc2, hS.1 4 (by decide)])]
      have h3 := hS.ud (i := i) (v := J b 4) (t := t) h8 (by omega) hn hl
      rw [ob_pm_i] at h3
      exact h3
theorem cl_g.ar {s : aS} {d : Nat} {t : Int32} (g : cl_g s d) : cl_g (ab_ar s t) d := g
theorem cl_g.pop {s : aS} {d : Nat} (g : cl_g s d) (h : 0 < s.2.1) : cl_g (ab_pop s) (d + 1) := by
  obtain ⟨g0, g8, g7, gb, gn⟩ := g
  have e : (ab_pop s).2.1 = s.2.1 - 1 := rfl
  refine ⟨?_, ?_, ?_, by rw [e]; omega, by rw [e]; omega⟩
  · exact g0
  · show s.1 8 + 1 = _
    rw [g8, nI_1]
  · show s.1 7 = _
    rw [g7, e]
    congr 1; omega
/-- the class delivers one -/
theorem cl_pop {b d n : Nat} {I : pm_I} {F : Nat → Int32} {M : Nat → Nat → Int32} (h : cl_S I b (F, n, M)) (g : cl_g (F, n, M) d) (hp : 0 < n) : cl_S (pm_up (pm_up (pm_up I b 11 (M 0 0)) b 12 (31 * F 12 + M 0 0)) b 8 (F 8 + 1)) b (ab_pop (F, n, M)) := by
  have g' := g.pop hp
  obtain ⟨g0, g8, g7, gb, gn⟩ := g
  refine ⟨((h.1.up).up).up, fun _ k hk j hj => ?_⟩
  have hk' : k < n - 1 := hk
  have hp' : 0 < n := hp
  have e : ab_sd (ab_pop (F, n, M)) = d + 1 := by
    show ((ab_pop (F, n, M)).1 8).toNatClampNeg = d + 1
    rw [g'.2.1, nI_clamp (by have := g'.2.2.2.1; omega)]
  rw [e, ob_ur (by omega), ob_ur (by omega), ob_ur (by omega)]
  have := h.rt (k := k + 1) (j := j) g0 g8 (by omega) (by omega) hj
  rw [show d + (k + 1) = d + 1 + k by omega] at this
  exact this
theorem cl_arr {G : pm_G} {b d : Nat} {t : Int32} {I : pm_I} {K : Int32 → pm_I → Prop} {s : aS} (h : cl_S I b s) (g : cl_g s d) (hk : ∀ J, cl_S J b (ab_arr s t) → ob_fr (cl_s b) I J → K (nI (ab_arc s t)) J) : wX4_takeArrivals G b t I K := by
  have g1 := g
  obtain ⟨F, n, M⟩ := s
  obtain ⟨ho, h8, h7, hb, hn⟩ := g
  replace hb : d + n < 1048576 := hb
  replace hn : n ≤ 24 := hn
  unfold wX4_takeArrivals
  rw [show I b 8 = nI d from (h.1 8 (by decide)).trans h8]
  refine ob_lp2 (fun i x J => x = nI (d + i) ∧ cl_S J b (F, n, ob_pm (fun m => if 0 ≤ m 2 ∧ m 3 = t then upd m 2 (-2) else m) i M) ∧ ob_fr (cl_s b) I J) n ⟨rfl, by rw [ob_pm_0]; exact h, ob_fr.rf⟩ ?_
  intro P i x J hi hI hP
  obtain ⟨hx, hS, hf⟩ := hI
  subst hx
  rw [show J b 7 = nI (d + n) from (hS.1 7 (by decide)).trans h7]
  refine ⟨fun hc => ?_, fun hc => ?_⟩
  · have e := (cl_loop hb hi).1 hc
    subst e
    have hS1 : cl_S J b (ab_ar (F, i, M) t) := hS.cg (fun k hk => ob_pm_l hk)
    have e8 : J b 8 = nI d := (hS.1 8 (by decide)).trans h8
    rw [e8]
    clear hP hS
    refine ob_lp1 (fun j L => ∃ s', cl_S L b s' ∧ cl_g s' (d + j) ∧ s'.2.1 = i - j ∧ ob_fr (cl_s b) I L ∧ ab_arr (F, i, M) t = ab_dl (i - j) s' ∧ ab_arc (F, i, M) t = j + ab_dc (i - j) s') i ⟨_, hS1, g1.ar, rfl, hf, rfl, by show _ = 0 + ab_dc i _; rw [Nat.zero_add]; rfl⟩ ?_
    intro P j L hj hI hP
    obtain ⟨s', hL, gL, nL, fL, ea, ec⟩ := hI
    have l8 : L b 8 = nI (d + j) := (hL.1 8 (by decide)).trans gL.2.1
    have l7 : L b 7 = nI (d + i) := by
      rw [(hL.1 7 (by decide)).trans gL.2.2.1, nL]
      congr 1; omega
    rw [l8, l7]
    refine ⟨fun hc1 => ?_, fun hc1 => ?_⟩
    · have e := (cl_loop hb hj).1 hc1
      subst e
      rw [pk_sub (by omega), show d + j - d = j by omega]
      rw [Nat.sub_self] at ea ec
      have ec' : ab_arc (F, j, M) t = j := ec
      have := hk L (by rw [ea]; exact hL) fL
      rw [ec'] at this
      exact this
    · have hl := (cl_loop hb hj).2 hc1
      refine cl_place (by omega) ⟨vp_in_nI (by omega) (by decide), ?_⟩
      rw [nI_clamp (by omega), l8]
      obtain ⟨F', n', M'⟩ := s'
      have nL' : n' = i - j := nL
      have hr : ∀ a, a < 4 → L (b + 1 + a) ((d + j) % 24) = M' 0 a := fun a ha => by
        have := hL.rt (d := d + j) (k := 0) (j := a) gL.1 gL.2.1 (by omega) (by omega) ha
        rw [Nat.add_zero] at this
        exact this
      have hr2 : L (b + 3) ((d + j) % 24) = M' 0 2 := hr 2 (by decide)
      have hr0 : L (b + 1) ((d + j) % 24) = M' 0 0 := hr 0 (by decide)
      rw [hr2]
      obtain ⟨f, hf'⟩ : ∃ f, i - j = f + 1 := ⟨i - j - 1, by omega⟩
      refine ⟨fun hc2 => ?_, fun hc2 => ?_⟩
      · rw [pk_sub (by omega), show d + j - d = j by omega]
        have ea' : ab_arr (F, i, M) t = (F', n', M') := by
          rw [ea, hf']
          show (if 0 < n' ∧ M' 0 2 = -2 then _ else _) = _
          rw [if_neg (fun hh => hc2 hh.2)]
        have ec' : ab_arc (F, i, M) t = j := by
          rw [ec, hf']
          show j + (if 0 < n' ∧ M' 0 2 = -2 then _ else _) = _
          rw [if_neg (fun hh => hc2 hh.2)]
          rfl
        have := hk L (by rw [ea']; exact hL) fL
        rw [ec'] at this
        exact this
      · refine cl_place (by omega) ⟨vp_in_nI (by omega) (by decide), ?_⟩
        rw [nI_clamp (by omega), hr0]
        intro I1 h1 I2 h2 I3 h3
        have e12 : I1 b 12 = F' 12 := by rw [h1, ob_uq (by decide)]; exact hL.1 12 (by decide)
        have e11 : I1 b 11 = M' 0 0 := by rw [h1, ob_us]
        have e88 : I2 b 8 = F' 8 := by rw [h2, ob_uq (by decide), h1, ob_uq (by decide)]; exact hL.1 8 (by decide)
        rw [e12, e11] at h2
        rw [e88] at h3
        subst h3; subst h2; subst h1
        have hp : 0 < n' := by omega
        have hS3 := cl_pop hL gL hp
        refine hP _ hl ⟨ab_pop (F', n', M'), hS3, gL.pop hp, by show n' - 1 = _; omega, ((fL.up ⟨by omega, by omega⟩).up ⟨by omega, by omega⟩).up ⟨by omega, by omega⟩, ?_, ?_⟩
        · rw [ea, hf', show i - (j + 1) = f by omega]
          show (if 0 < n' ∧ M' 0 2 = -2 then _ else _) = _
          rw [if_pos ⟨hp, hc2⟩]
        · rw [ec, hf', show i - (j + 1) = f by omega]
          show j + (if 0 < n' ∧ M' 0 2 = -2 then _ else _) = _
          rw [if_pos ⟨hp, hc2⟩]
          omega
  · have hl := (cl_loop hb hi).2 hc
    refine cl_place (by omega) ⟨vp_in_nI (by omega) (by decide), ?_⟩
    rw [nI_clamp (by omega)]
    have hr : ∀ a, a < 4 → J (b + 1 + a) ((d + i) % 24) = M i a := fun a ha => by
      have := hS.rt (j := a) ho h8 (by omega) hl ha
      rw [ob_pm_i] at this
      exact this
    have hr2 : J (b + 3) ((d + i) % 24) = M i 2 := hr 2 (by decide)
    have hr3 : J (b + 4) ((d + i) % 24) = M i 3 := hr 3 (by decide)
    rw [hr2, hr3]
    refine ⟨fun hc2 => ?_, fun hc2 => ⟨vp_in_nI (by omega) (by decide), fun hc3 => ?_, fun hc3 => ⟨vp_in_nI (by omega) (by decide), fun I1 h1 => ?_⟩⟩⟩
    · refine hP _ _ hl ⟨nI_1 _, ?_, hf⟩
      rw [← ob_pm_n (by show (if 0 ≤ M i 2 ∧ M i 3 = t then _ else _) = _; rw [if_neg (fun hh => absurd hc2 (Int32.not_lt.mpr hh.1))])]
      exact hS
    · refine hP _ _ hl ⟨nI_1 _, ?_, hf⟩
      rw [← ob_pm_n (by show (if 0 ≤ M i 2 ∧ M i 3 = t then _ else _) = _; rw [if_neg (fun hh => hc3 hh.2)])]
      exact hS
    · subst h1
      refine hP _ _ hl ⟨nI_1 _, ?_, hf.up ⟨by omega, by omega⟩⟩
      rw [← ob_pm_c (g := fun m => if 0 ≤ m 2 ∧ m 3 = t then upd m 2 (-2) else m) (i := i) (M := M) (x := upd (M i) 2 (-2)) (by show _ = (if 0 ≤ M i 2 ∧ M i 3 = t then _ else _); rw [if_pos ⟨Int32.not_lt.mp hc2, hc3⟩])]
      have h3 := hS.u1 (i := i) (v := -2) 2 h8 (by omega) hn hl (by decide)
      rw [ob_pm_i] at h3
      exact h3
