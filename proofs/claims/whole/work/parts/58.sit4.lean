/-! ===== the class: the history, what is looked up, a new plan ===== -/
def cl_H (I : pm_I) (q : Nat) (n : Nat) (H : Nat → aT) : Prop := ∃ x, x < 10 ∧ I q 1 = nI x ∧ I q 2 = nI n ∧ n ≤ 10 ∧ ∀ k, k < n → cl_T I (q + 1 + 1 + 34 * ((x + 9 - k) % 10)) (H k)
def ab_push (A : aT) (H : Nat → aT) : Nat → aT := fun k => if k = 0 then A else H (k - 1)
/-- the rows of the history -/
def cl_h (q r : Nat) : Prop := q ≤ r ∧ r < q + 342
theorem cl_min {G : pm_G} {n : Nat} {I : pm_I} {K : Int32 → pm_I → Prop} (hn : n ≤ 10) (h : K (nI (min (n + 1) 10)) I) : wJ9_min_7cf53 G (nI n + 1) 10 I K := by
  unfold wJ9_min_7cf53
  rw [nI_1]
  refine ⟨fun hc => ?_, fun hc => ?_⟩
  · have := (nI_ltI (a := 10) (b := n + 1) (by omega) (by omega)).mp hc
    rw [show min (n + 1) 10 = 10 by omega] at h
    exact h
  · have : ¬ 10 < n + 1 := fun hh => hc ((nI_ltI (a := 10) (b := n + 1) (by omega) (by omega)).mpr hh)
    rw [show min (n + 1) 10 = n + 1 by omega] at h
    exact h
theorem cl_keep {G : pm_G} {q b n : Nat} {I : pm_I} {K : pm_I → Prop} {A : aT} {H : Nat → aT} (hT : cl_T I b A) (h01 : ok_01 A) (hH : cl_H I q n H) (hb : b + 34 ≤ q ∨ q + 342 ≤ b) (hk : ∀ J, cl_H J q (min (n + 1) 10) (ab_push A H) → ob_fr (cl_h q) I J → K J) : wX0_keep G q b I K := by
  obtain ⟨x, hx, e1, e2, hn, hc⟩ := hH
  unfold wX0_keep
  rw [e1, nI_clamp (by omega)]
  refine ⟨vp_in_nI hx (by decide), cl_copy hT h01 (by omega) (fun J hJ fJ => ?_)⟩
  have g : ∀ r, (r < q + 1 + 1 + 34 * x ∨ q + 1 + 1 + 34 * x + 34 ≤ r) → J r = I r := fun r hr => fJ r (fun hh => by have := hh.1; have := hh.2; omega)
  have fin : ∀ (x' : Nat) (L : pm_I), x' = (x + 1) % 10 → L = pm_up (pm_up J q 1 (nI x')) q 2 (nI (min (n + 1) 10)) → K L := by
    intro x' L hx' hL
    subst hL
    refine hk _ ⟨x', by omega, ?_, ob_us _ _ _ _, by omega, fun k hk => ?_⟩ ?_
    · rw [ob_uq (by decide), ob_us]
    · have up : ∀ {r : Nat} {T : aT}, q < r → cl_T J r T → cl_T (pm_up (pm_up J q 1 (nI x')) q 2 (nI (min (n + 1) 10))) r T := fun hr hT => hT.rw (fun s h1 h2 => by rw [ob_ur (by omega), ob_ur (by omega)])
      unfold ab_push
      by_cases e : k = 0
      · subst e
        rw [if_pos rfl, show (x' + 9 - 0) % 10 = x by omega]
        exact up (by omega) hJ
      · rw [if_neg e]
        have e9 : (x' + 9 - k) % 10 = (x + 9 - (k - 1)) % 10 := by omega
        rw [e9]
        refine up (by omega) ((hc (k - 1) (by omega)).rw (fun r h1 h2 => g r ?_))
        have : (x + 9 - (k - 1)) % 10 ≠ x := by omega
        omega
    · intro r hr
      have hr' : ¬ (q ≤ r ∧ r < q + 342) := hr
      rw [ob_ur (by omega), ob_ur (by omega)]
      exact g r (by omega)
  rw [show J q 1 = nI x by rw [g q (by omega)]; exact e1, nI_1]
  refine ⟨fun hc1 => ?_, fun hc1 => ?_⟩
  · have hx9 : 10 ≤ x + 1 := (nI_leI (a := 10) (b := x + 1) (by omega) (by omega)).mp hc1
    intro I1 h1
    rw [show I1 q 2 = nI n by rw [h1, ob_uq (by decide), g q (by omega)]; exact e2]
    refine cl_min hn (fun I2 h2 => fin 0 I2 (by omega) ?_)
    rw [h2, h1]; rfl
  · have hx9 : ¬ 10 ≤ x + 1 := fun hh => hc1 ((nI_leI (a := 10) (b := x + 1) (by omega) (by omega)).mpr hh)
    intro I1 h1
    rw [show I1 q 2 = nI n by rw [h1, ob_uq (by decide), g q (by omega)]; exact e2]
    refine cl_min hn (fun I2 h2 => fin (x + 1) I2 (by omega) ?_)
    rw [h2, h1]
theorem cl_back {G : pm_G} {q b n : Nat} {I : pm_I} {K : Int32 → pm_I → Prop} {H : Nat → aT} (h01 : ∀ k, k < n → ok_01 (H k)) (hH : cl_H I q n H) (hb : b + 34 ≤ q ∨ q + 342 ≤ b) (h0 : n = 0 → K (-1) I) (hk : ∀ J, 0 < n → cl_T J b (H 0) → cl_H J q (n - 1) (fun k => H (k + 1)) → (∀ r, ¬ cl_t b r → r ≠ q → J r = I r) → K (nI (n - 1)) J) : wX0_takeBack G q b I K := by
  obtain ⟨x, hx, e1, e2, hn, hc⟩ := hH
  unfold wX0_takeBack
  rw [e2, e1]
  have fin : ∀ (x' : Nat) (I1 I2 : pm_I), 0 < n → x' = (x + 9) % 10 → I1 = pm_up I q 1 (nI x') → I2 = pm_up I1 q 2 (I1 q 2 - 1) → vp_in (I2 q 1) 10 ∧ wX5_copyFrom G b (q + 1 + 1 + 34 * (I2 q 1).toNatClampNeg) I2 (fun I13 => K (I13 q 2) I13) := by
    intro x' I1 I2 hn0 hx' h1 h2
    have a2 : I1 q 2 = nI n := by rw [h1, ob_uq (by decide)]; exact e2
    rw [a2, show nI n - 1 = nI (n - 1) from pk_sub (b := 1) (by omega)] at h2
    have a1 : I2 q 1 = nI x' := by rw [h2, ob_uq (by decide), h1, ob_us]
    have a0 : ∀ r, r ≠ q → I2 r = I r := fun r hr => by rw [h2, ob_ur hr, h1, ob_ur hr]
    rw [a1, nI_clamp (by omega)]
    have hT : cl_T I2 (q + 1 + 1 + 34 * x') (H 0) := by
      have := hc 0 hn0
      rw [show (x + 9 - 0) % 10 = x' by omega] at this
      exact this.rw (fun r h1 h2 => a0 r (by omega))
    refine ⟨vp_in_nI (by omega) (by decide), cl_copy hT (h01 0 hn0) (by omega) (fun J hJ fJ => ?_)⟩
    have g : ∀ r, (r < b ∨ b + 34 ≤ r) → J r = I2 r := fun r hr => fJ r (fun hh => by have := hh.1; have := hh.2; omega)
    rw [show J q 2 = nI (n - 1) by rw [g q (by omega), h2, ob_us]]
    refine hk J hn0 hJ ⟨x', by omega, by rw [g q (by omega)]; exact a1, by rw [g q (by omega), h2, ob_us], by omega, fun k hk => ?_⟩ (fun r hr hq => ?_)
    · have := hc (k + 1) (by omega)
      rw [show (x + 9 - (k + 1)) % 10 = (x' + 9 - k) % 10 by omega] at this
      exact this.rw (fun r h1 h2 => by rw [g r (by omega)]; exact a0 r (by omega))
    · have hr' : ¬ (b ≤ r ∧ r < b + 34) := hr
      rw [g r (by omega)]; exact a0 r hq
  refine ⟨fun hz => ?_, fun hz => h0 ((nI_eq (b := 0) (by omega) (by omega)).mp hz)⟩
  have hn0 : 0 < n := by
    rcases Nat.eq_zero_or_pos n with e | e
    · rw [e] at hz; exact absurd rfl hz
    · exact e
  refine ⟨fun hc1 => ?_, fun hc1 => ?_⟩
  · have hx0 : x ≤ 0 := (nI_leI (a := x) (b := 0) (by omega) (by omega)).mp hc1
    intro I1 h1 I2 h2
    exact fin 9 I1 I2 hn0 (by omega) h1 h2
  · have hx0 : ¬ x ≤ 0 := fun hh => hc1 ((nI_leI (a := x) (b := 0) (by omega) (by omega)).mpr hh)
    intro I1 h1 I2 h2
    exact fin (x - 1) I1 I2 hn0 (by omega) (by rw [h1, show nI x - 1 = nI (x - 1) from pk_sub (b := 1) (by omega)]) h2
/-! the first of some, or -1 -/
def ob_fs (p : Nat → Bool) : Nat → Nat → Int32
  | 0, _ => -1
  | f + 1, i => if p i = true then nI i else ob_fs p f (i + 1)
theorem ob_fs_t {p : Nat → Bool} {n i : Nat} (hi : i < n) (h : p i = true) : ob_fs p (n - i) i = nI i := by
  obtain ⟨f, hf⟩ : ∃ f, n - i = f + 1 := ⟨n - i - 1, by omega⟩
  rw [hf]
  show (if p i = true then nI i else _) = _
  rw [if_pos h]
theorem ob_fs_f {p : Nat → Bool} {n i : Nat} (hi : i < n) (h : p i = false) : ob_fs p (n - i) i = ob_fs p (n - (i + 1)) (i + 1) := by
  obtain ⟨f, hf⟩ : ∃ f, n - i = f + 1 := ⟨n - i - 1, by omega⟩
  rw [hf, show n - (i + 1) = f by omega]
  show (if p i = true then nI i else _) = _
  rw [h]
  rfl
theorem ob_fs_r {p : Nat → Bool} : ∀ f i, ob_fs p f i = -1 ∨ ∃ k, i ≤ k ∧ k < i + f ∧ p k = true ∧ ob_fs p f i = nI k
  | 0, _ => Or.inl rfl
  | f + 1, i => by
    show (if p i = true then nI i else ob_fs p f (i + 1)) = -1 ∨ _
    by_cases h : p i = true
    · exact Or.inr ⟨i, by omega, by omega, h, by show (if p i = true then nI i else _) = _; rw [if_pos h]⟩
    · rw [if_neg h]
      rcases ob_fs_r (p := p) f (i + 1) with e | ⟨k, h1, h2, h3, h4⟩
      · exact Or.inl e
      · exact Or.inr ⟨k, by omega, by omega, h3, by show (if p i = true then nI i else _) = _; rw [if_neg h]; exact h4⟩
def ab_find (A : aT) (x y : Int32) : Int32 := ob_fs (fun k => decide ((A.2.2.2 k).1 0 = 1) && (decide ((A.2.2.2 k).1 1 = x) && decide ((A.2.2.2 k).1 2 = y))) 6 0
def ab_free (A : aT) : Int32 := ob_fs (fun k => !decide ((A.2.2.2 k).1 0 = 1)) 6 0
theorem cl_find {G : pm_G} {b : Nat} {x y : Int32} {I : pm_I} {K : Int32 → pm_I → Prop} {A : aT} (h : cl_T I b A) (h01 : ok_01 A) (hk : K (ab_find A x y) I) : wX5_findSession G b x y I K := by
  unfold wX5_findSession
  unfold ab_find at hk
  generalize hp : (fun k => decide ((A.2.2.2 k).1 0 = 1) && (decide ((A.2.2.2 k).1 1 = x) && decide ((A.2.2.2 k).1 2 = y))) = p at hk
  refine ob_lp2 (fun i z J => z = nI i ∧ J = I ∧ ob_fs p 6 0 = ob_fs p (6 - i) i) 6 ⟨rfl, rfl, rfl⟩ ?_
  intro P i z J hi hI hP
  obtain ⟨hz, hJ, hs⟩ := hI
  subst hz; subst hJ
  refine ⟨fun hc => ?_, fun hc => ?_⟩
  · have e := (ob_to (n := 6) (by decide) hi).1 hc
    subst e
    rw [hs] at hk
    exact hk
  · have hl := (ob_to (n := 6) (by decide) hi).2 hc
    have hpi : p i = (decide ((A.2.2.2 i).1 0 = 1) && (decide ((A.2.2.2 i).1 1 = x) && decide ((A.2.2.2 i).1 2 = y))) := by rw [← hp]
    rw [nI_clamp (by omega)]
    have hF := (h.2.2.2 i hl).1
    rw [hF 0 (by decide), hF 1 (by decide), hF 2 (by decide)]
    have no : p i = false → P (nI i + 1) J := fun e => hP _ _ hl ⟨nI_1 _, rfl, hs.trans (ob_fs_f hl e)⟩
    refine ⟨vp_in_nI hl (by decide), fun z => no ?_, fun z => ⟨fun z1 => no ?_, fun z1 => ⟨fun z2 => no ?_, fun z2 => ?_⟩⟩⟩
    · rw [hpi, z]; rfl
    · rw [hpi, decide_eq_false z1, Bool.false_and, Bool.and_false]
    · rw [hpi, decide_eq_false z2, Bool.and_false, Bool.and_false]
    · have e : p i = true := by rw [hpi, (h01 i hl).resolve_left z, decide_eq_true z1, decide_eq_true z2]; rfl
      rw [hs, ob_fs_t hl e] at hk
      exact hk
theorem cl_free {G : pm_G} {b : Nat} {I : pm_I} {K : Int32 → pm_I → Prop} {A : aT} (h : cl_T I b A) (h01 : ok_01 A) (hk : K (ab_free A) I) : wX5_freeSession G b I K := by
  unfold wX5_freeSession
  unfold ab_free at hk
  generalize hp : (fun k => !decide ((A.2.2.2 k).1 0 = 1)) = p at hk
  refine ob_lp2 (fun i z J => z = nI i ∧ J = I ∧ ob_fs p 6 0 = ob_fs p (6 - i) i) 6 ⟨rfl, rfl, rfl⟩ ?_
  intro P i z J hi hI hP
  obtain ⟨hz, hJ, hs⟩ := hI
  subst hz; subst hJ
  refine ⟨fun hc => ?_, fun hc => ?_⟩
  · have e := (ob_to (n := 6) (by decide) hi).1 hc
    subst e
    rw [hs] at hk
    exact hk
  · have hl := (ob_to (n := 6) (by decide) hi).2 hc
    have hpi : p i = (!decide ((A.2.2.2 i).1 0 = 1)) := by rw [← hp]
    rw [nI_clamp (by omega)]
    have hF := (h.2.2.2 i hl).1
    rw [hF 0 (by decide)]
    refine ⟨vp_in_nI hl (by decide), fun z => ?_, fun z => ?_⟩
    · exact hP _ _ hl ⟨nI_1 _, rfl, hs.trans (ob_fs_f hl (by rw [hpi, (h01 i hl).resolve_left z]; rfl))⟩
    · rw [hs, ob_fs_t hl (by rw [hpi, z]; rfl)] at hk
      exact hk
/-! introductions -/
def ab_acq (A : aT) (x y : Int32) : aT := (A.1, A.2.1, upd (upd A.2.2.1 x.toNatClampNeg (A.2.2.1 x.toNatClampNeg ||| (1 <<< (y &&& 31)))) y.toNatClampNeg (upd A.2.2.1 x.toNatClampNeg (A.2.2.1 x.toNatClampNeg ||| (1 <<< (y &&& 31))) y.toNatClampNeg ||| (1 <<< (x &&& 31))), A.2.2.2)
def ab_trn (A : aT) (x y : Int32) : aT := (A.1, upd (upd A.2.1 x.toNatClampNeg (A.2.1 x.toNatClampNeg ^^^ (1 <<< (y &&& 31)))) y.toNatClampNeg (upd A.2.1 x.toNatClampNeg (A.2.1 x.toNatClampNeg ^^^ (1 <<< (y &&& 31))) y.toNatClampNeg ^^^ (1 <<< (x &&& 31))), A.2.2.1, A.2.2.2)
theorem ob_urow {J : pm_I} {r n j : Nat} {v : Int32} {f : Nat → Int32} (h : ∀ k, k < n → J r k = f k) : ∀ k, k < n → pm_up J r j v r k = upd f j v k := fun k hk => by
  by_cases e : k = j
  · rw [e, ob_us, pk_us]
  · rw [ob_uq e, pk_un e]; exact h k hk
theorem cl_acq {G : pm_G} {b : Nat} {x y : Int32} {I : pm_I} {K : pm_I → Prop} {A : aT} (h : cl_T I b A) (hx : ob_ix 8 x) (hy : ob_ix 8 y) (hk : ∀ J, cl_T J b (ab_acq A x y) → ob_fr (fun r => r = b + 2) I J → K J) : wX5_acquaint G b x y I K := by
  unfold wX5_acquaint
  refine ⟨hx.in (by decide), hx.in (by decide), fun I1 h1 => ⟨hy.in (by decide), hy.in (by decide), fun I2 h2 => ?_⟩⟩
  rw [h.2.2.1 _ (hx.cl (by decide))] at h1
  have r1 : ∀ k, k < 8 → I1 (b + 2) k = upd A.2.2.1 x.toNatClampNeg (A.2.2.1 x.toNatClampNeg ||| (1 <<< (y &&& 31))) k := by rw [h1]; exact ob_urow h.2.2.1
  rw [r1 _ (hy.cl (by decide))] at h2
  have f2 : ob_fr (fun r => r = b + 2) I I2 := fun r hr => by rw [h2, ob_ur hr, h1, ob_ur hr]
  refine hk I2 ⟨by rw [f2 b (by omega)]; exact h.1, by rw [f2 (b + 1) (by omega)]; exact h.2.1, by rw [h2]; exact ob_urow r1, fun i hi => (h.2.2.2 i hi).rw (fun r h1 h2 => f2 r (by omega))⟩ f2
theorem cl_trn {G : pm_G} {b : Nat} {x y : Int32} {I : pm_I} {K : pm_I → Prop} {A : aT} (h : cl_T I b A) (hx : ob_ix 8 x) (hy : ob_ix 8 y) (hk : ∀ J, cl_T J b (ab_trn A x y) → ob_fr (fun r => r = b + 1) I J → K J) : wX5_turnLink G b x y I K := by
  unfold wX5_turnLink
  refine ⟨hx.in (by decide), hx.in (by decide), fun I1 h1 => ⟨hy.in (by decide), hy.in (by decide), fun I2 h2 => ?_⟩⟩
  rw [h.2.1 _ (hx.cl (by decide))] at h1
  have r1 : ∀ k, k < 8 → I1 (b + 1) k = upd A.2.1 x.toNatClampNeg (A.2.1 x.toNatClampNeg ^^^ (1 <<< (y &&& 31))) k := by rw [h1]; exact ob_urow h.2.1
  rw [r1 _ (hy.cl (by decide))] at h2
  have f2 : ob_fr (fun r => r = b + 1) I I2 := fun r hr => by rw [h2, ob_ur hr, h1, ob_ur hr]
  refine hk I2 ⟨by rw [f2 b (by omega)]; exact h.1, by rw [h2]; exact ob_urow r1, by rw [f2 (b + 2) (by omega)]; exact h.2.2.1, fun i hi => (h.2.2.2 i hi).rw (fun r h1 h2 => f2 r (by omega))⟩ f2
def ab_wd (A : aT) (r : Int32) : Nat → Int32
  | 0 => r
  | n + 1 => if ab_bit r (nI n) = true then ab_wd A r n ||| A.2.2.1 n else ab_wd A r n
def ab_stp (A : aT) (y : Int32) : Nat → Int32 → Nat → Int32
  | 0, _, _ => -1
  | f + 1, r, s => if ab_bit (ab_wd A r 8) y = true then nI s else ab_stp A y f (ab_wd A r 8) (s + 1)
theorem cl_stp {G : pm_G} {b : Nat} {x y : Int32} {I : pm_I} {K : Int32 → pm_I → Prop} {A : aT} (h : cl_T I b A) (hk : K (ab_stp A y 7 (1 <<< (x &&& 31)) 1) I) : wX5_stepsBetween G b x y I K := by
  unfold wX5_stepsBetween
  refine ob_lp3 (fun i r s J => s = nI (1 + i) ∧ J = I ∧ ab_stp A y 7 (1 <<< (x &&& 31)) 1 = ab_stp A y (7 - i) r (1 + i)) 7 ⟨rfl, rfl, rfl⟩ ?_
  intro P i r s J hi hI hP
  obtain ⟨hs, hJ, he⟩ := hI
  subst hs; subst hJ
  refine ⟨fun hc => ?_, fun hc => ?_⟩
  · have e := (ob_to (n := 8) (i := 1 + i) (by decide) (by omega)).1 hc
    have e7 : i = 7 := by omega
    subst e7
    rw [he] at hk
    exact hk
  · have hl := (ob_to (n := 8) (i := 1 + i) (by decide) (by omega)).2 hc
    refine ob_lp3 (fun k w z L => w = ab_wd A r k ∧ z = nI k ∧ L = J) 8 ⟨rfl, rfl, rfl⟩ ?_
    intro Q k w z L hk' hI' hQ
    obtain ⟨hw, hz, hL⟩ := hI'
    subst hw; subst hz; subst hL
    obtain ⟨f, hf⟩ : ∃ f, 7 - i = f + 1 := ⟨7 - i - 1, by omega⟩
    refine ⟨fun hc2 => ?_, fun hc2 => ?_⟩
    · have e := (ob_to (n := 8) (by decide) hk').1 hc2
      subst e
      rw [hf] at he
      have he' : ab_stp A y 7 (1 <<< (x &&& 31)) 1 = if ab_bit (ab_wd A r 8) y = true then nI (1 + i) else ab_stp A y f (ab_wd A r 8) (1 + i + 1) := he
      refine ⟨fun z => ?_, fun z => ?_⟩
      · refine hP _ _ _ (by omega) ⟨nI_1 _, rfl, ?_⟩
        rw [if_neg (by unfold ab_bit; rw [z]; decide)] at he'
        rw [he', show 7 - (i + 1) = f by omega]
        rfl
      · rw [if_pos (by unfold ab_bit; rw [ob_and1n z]; decide)] at he'
        rw [he'] at hk
        exact hk
    · have hl2 := (ob_to (n := 8) (by decide) hk').2 hc2
      have ew : ab_wd A r (k + 1) = if ab_bit r (nI k) = true then ab_wd A r k ||| A.2.2.1 k else ab_wd A r k := rfl
      refine ⟨fun z => ?_, fun z => ⟨vp_in_nI hl2 (by decide), ?_⟩⟩
      · refine hQ _ _ _ hl2 ⟨?_, nI_1 _, rfl⟩
        rw [ew, if_neg (by unfold ab_bit; rw [z]; decide)]
      · refine hQ _ _ _ hl2 ⟨?_, nI_1 _, rfl⟩
        rw [ew, if_pos (by unfold ab_bit; rw [ob_and1n z]; decide), nI_clamp (by omega), h.2.2.1 k hl2]
/-! a new plan -/
def ab_lk (P : aP) (a : Nat) : Nat → Int32
  | 0 => 0
  | n + 1 => if P.2.2.2.1 (8 * a + n) = 0 then ab_lk P a n else ab_lk P a n ||| (1 <<< (nI n &&& 31))
def ab_beg (P : aP) (A : aT) : aT := (0, fun a => ab_lk P a 8, P.2.2.2.2.1, fun i => ab_f (A.2.2.2 i) 0 0)
theorem cl_beg {G : pm_G} {b p : Nat} {I : pm_I} {K : pm_I → Prop} {A : aT} {P : aP} (w : cl_W I b p A P) (hk : ∀ J, cl_W J b p (ab_beg P A) P → ob_fr (cl_t b) I J → K J) : wX5_beginWith G b p I K := by
  have hpb := w.2.2
  unfold wX5_beginWith
  intro I0 h0
  have f0 : ob_fr (cl_t b) I I0 := by rw [h0]; exact ob_fr.rf.up ⟨by omega, by omega⟩
  have hP : ∀ {J : pm_I}, ob_fr (cl_t b) I J → cl_P J p P := fun f => w.2.1.rw (fun r h1 h2 _ => f r (fun hh => by have := hh.1; omega)) (by rw [f (p + 5) (fun hh => by have := hh.1; omega)])
  refine ob_lp2 (fun i z J => z = nI i ∧ J b 0 = 0 ∧ (∀ k, k < i → J (b + 1) k = ab_lk P k 8) ∧ (∀ k, k < i → J (b + 2) k = P.2.2.2.2.1 k) ∧ (∀ r, b + 3 ≤ r → r < b + 34 → J r = I r) ∧ ob_fr (cl_t b) I J) 8 ⟨rfl, by rw [h0, ob_us], fun k hk => absurd hk (Nat.not_lt_zero k), fun k hk => absurd hk (Nat.not_lt_zero k), fun r h1 h2 => by rw [h0, ob_ur (by omega)], f0⟩ ?_
  intro Q i z J hi hI hQ
  obtain ⟨hz, j0, j1, j2, j3, jf⟩ := hI
  subst hz
  refine ⟨fun hc => ?_, fun hc => ?_⟩
  · have e := (ob_to (n := 8) (by decide) hi).1 hc
    subst e
    clear hQ
    refine ob_lp2 (fun i z L => z = nI i ∧ L b 0 = 0 ∧ (∀ k, k < 8 → L (b + 1) k = ab_lk P k 8) ∧ (∀ k, k < 8 → L (b + 2) k = P.2.2.2.2.1 k) ∧ (∀ k, k < 6 → cl_S L (b + 3 + 1 + 5 * k) (if k < i then ab_f (A.2.2.2 k) 0 0 else A.2.2.2 k)) ∧ ob_fr (cl_t b) I L) 6 ⟨rfl, j0, j1, j2, fun k hk => ?_, jf⟩ ?_
    · rw [if_neg (Nat.not_lt_zero k)]
      exact (w.1.2.2.2 k hk).rw (fun r h1 h2 => j3 r (by omega) (by omega))
    intro Q i z L hi hI hQ
    obtain ⟨hz, l0, l1, l2, l3, lf⟩ := hI
    subst hz
    refine ⟨fun hc => ?_, fun hc => ?_⟩
    · have e := (ob_to (n := 6) (by decide) hi).1 hc
      subst e
      refine hk L ⟨⟨l0, l1, l2, fun k hk => ?_⟩, hP lf, hpb⟩ lf
      have := l3 k hk
      rw [if_pos hk] at this
      exact this
    · have hl := (ob_to (n := 6) (by decide) hi).2 hc
      refine ⟨vp_in_nI hl (by decide), fun I1 h1 => ?_⟩
      rw [nI_clamp (by omega)] at h1
      have e : ∀ r, r ≠ b + 3 + 1 + 5 * i → I1 r = L r := fun r hr => by rw [h1, ob_ur hr]
      refine hQ _ _ hl ⟨nI_1 _, by rw [e b (by omega)]; exact l0, by rw [e (b + 1) (by omega)]; exact l1, by rw [e (b + 2) (by omega)]; exact l2, fun k hk => ?_, by rw [h1]; exact lf.up ⟨by omega, by omega⟩⟩
      have lk := l3 k hk
      by_cases ek : k = i
      · subst ek
        rw [if_neg (Nat.lt_irrefl k)] at lk
        rw [if_pos (by omega), h1]
        exact ⟨lk.1.up, fun ho => absurd (show (0 : Int32) = 1 from ho) (by decide)⟩
      · have e2 : (if k < i + 1 then ab_f (A.2.2.2 k) 0 0 else A.2.2.2 k) = (if k < i then ab_f (A.2.2.2 k) 0 0 else A.2.2.2 k) := by
          by_cases e3 : k < i
          · rw [if_pos e3, if_pos (by omega)]
          · rw [if_neg e3, if_neg (by omega)]
        rw [e2]
        exact lk.rw (fun r h1 h2 => e r (by omega))
  · have hl := (ob_to (n := 8) (by decide) hi).2 hc
    have hin : vp_in (nI i) 8 := vp_in_nI hl (by decide)
    refine ⟨hin, hin, fun I1 h1 => ⟨hin, fun I2 h2 => ?_⟩⟩
    rw [nI_clamp (by omega)] at h1 h2
    have hp4 : J (p + 4) i = P.2.2.2.2.1 i := (hP jf).2.2.2.1 i hl
    rw [hp4] at h1
    refine ob_lp2 (fun k z L => z = nI k ∧ L b 0 = 0 ∧ (∀ k, k < i → L (b + 1) k = ab_lk P k 8) ∧ L (b + 1) i = ab_lk P i k ∧ (∀ k, k < i + 1 → L (b + 2) k = P.2.2.2.2.1 k) ∧ (∀ r, b + 3 ≤ r → r < b + 34 → L r = I r) ∧ ob_fr (cl_t b) I L) 8 ⟨rfl, ?_, fun k hk => ?_, ?_, fun k hk => ?_, fun r h3 h4 => ?_, ?_⟩ ?_
    · rw [h2, ob_ur (by omega), h1, ob_ur (by omega)]; exact j0
    · rw [h2, ob_uq (by omega), h1, ob_ur (by omega)]; exact j1 k hk
    · rw [h2, ob_us]; rfl
    · rw [h2, ob_ur (by omega), h1]
      by_cases ek : k = i
      · rw [ek, ob_us]
      · rw [ob_uq ek]; exact j2 k (by omega)
    · rw [h2, ob_ur (by omega), h1, ob_ur (by omega)]; exact j3 r h3 h4
    · rw [h2, h1]; exact (jf.up ⟨by omega, by omega⟩).up ⟨by omega, by omega⟩
    intro R k z L hk' hI' hR
    obtain ⟨hz, l0, l1, l1i, l2, l3, lf⟩ := hI'
    subst hz
    refine ⟨fun hc2 => ?_, fun hc2 => ?_⟩
    · have e := (ob_to (n := 8) (by decide) hk').1 hc2
      subst e
      refine hQ _ _ hl ⟨nI_1 _, l0, fun k hk => ?_, l2, l3, lf⟩
      by_cases ek : k = i
      · rw [ek]; exact l1i
      · exact l1 k (by omega)
    · have hl2 := (ob_to (n := 8) (by decide) hk').2 hc2
      have ed : ab_dy P (nI i) (nI k) = P.2.2.2.1 (8 * i + k) := by
        unfold ab_dy
        rw [show (8 : Int32) = nI 8 from rfl, pk_mul, nI_add, nI_clamp (by omega), Nat.mul_comm]
      have ek : ab_lk P i (k + 1) = if P.2.2.2.1 (8 * i + k) = 0 then ab_lk P i k else ab_lk P i k ||| (1 <<< (nI k &&& 31)) := rfl
      refine cl_dy (hP lf) ⟨i, hl, rfl⟩ ⟨k, hl2, rfl⟩ ?_
      rw [ed]
      refine ⟨fun z => ?_, fun z => ⟨hin, hin, fun I3 h3 => ?_⟩⟩
      · exact hR _ _ hl2 ⟨nI_1 _, l0, l1, by rw [ek, if_pos z]; exact l1i, l2, l3, lf⟩
      · rw [nI_clamp (by omega), l1i] at h3
        refine hR _ _ hl2 ⟨nI_1 _, ?_, fun m hm => ?_, ?_, fun m hm => ?_, fun r h4 h5 => ?_, ?_⟩
        · rw [h3, ob_ur (by omega)]; exact l0
        · rw [h3, ob_uq (by omega)]; exact l1 m hm
        · rw [h3, ob_us, ek, if_neg z]
        · rw [h3, ob_ur (by omega)]; exact l2 m hm
        · rw [h3, ob_ur (by omega)]; exact l3 r h4 h5
        · rw [h3]; exact lf.up ⟨by omega, by omega⟩
