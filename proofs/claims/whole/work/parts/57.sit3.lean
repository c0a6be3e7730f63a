/-! ===== the class: situations (3): a link that fails; copies; the history ===== -/
theorem ab_set_i {A : aT} {i : Nat} {s : aS} : (ab_set A i s).2.2.2 i = s := if_pos rfl
theorem ab_set_2 {A : aT} {i : Nat} {s s' : aS} : ab_set (ab_set A i s) i s' = ab_set A i s' := by
  unfold ab_set
  have : (fun k => if k = i then s' else if k = i then s else A.2.2.2 k) = (fun k => if k = i then s' else A.2.2.2 k) := by
    funext k
    by_cases e : k = i
    · rw [if_pos e, if_pos e]
    · rw [if_neg e, if_neg e, if_neg e]
  show (A.1, A.2.1, A.2.2.1, fun k => if k = i then s' else if k = i then s else A.2.2.2 k) = _
  rw [this]
theorem ok_01.set {A : aT} {i : Nat} {s : aS} (h : ok_01 A) (h0 : s.1 0 = 1) : ok_01 (ab_set A i s) := fun k hk => by
  show (if k = i then s else A.2.2.2 k).1 0 = 0 ∨ (if k = i then s else A.2.2.2 k).1 0 = 1
  by_cases e : k = i
  · rw [if_pos e]; exact Or.inr h0
  · rw [if_neg e]; exact h k hk
theorem cl_lv2 {G : pm_G} {b p i : Nat} {x y : Int32} {I : pm_I} {K : pm_I → Prop} {A : aT} {P : aP} {s1 : aS} (w : cl_W I b p (ab_set A i s1) P) (oP : ok_P P) (h01 : ok_01 A) (h0 : s1.1 0 = 1) (hi : i < 6) (h1 : ob_ix (ab_np P) (s1.1 1)) (h2 : ob_ix (ab_np P) (s1.1 2))
    (hk : ∀ L, cl_W L b p (ab_set A i (if ab_ru s1 (s1.1 4) x y = true then ab_cp (ab_f s1 6 0) (ab_best P (ab_set A i (ab_f s1 6 0)) (s1.1 1) (s1.1 2)) else s1)) P → ob_fr (cl_z b p) I L → K L) :
    wX4_routeUses G (b + 3 + 1 + 5 * i) (I (b + 3 + 1 + 5 * i) 4) x y I (fun r13 I12 => (r13 = 0 → K I12) ∧ (¬ r13 = 0 → (∀ I14 : pm_I, I14 = pm_up I12 (b + 3 + 1 + 5 * i) 6 (0) → (wX5_chooseRelay G b p (I14 (b + 3 + 1 + 5 * i) 1) (I14 (b + 3 + 1 + 5 * i) 2) I14 (fun r16 I15 => wX4_changePath G (b + 3 + 1 + 5 * i) (r16) I15 (fun I17 => K I17)))))) := by
  have hS : cl_S I (b + 3 + 1 + 5 * i) s1 := by have := w.1.2.2.2 i hi; rw [ab_set_i] at this; exact this
  rw [hS.1 4 (by decide)]
  refine cl_ru hS.1 ⟨fun e => ?_, fun e => ?_⟩
  · rw [if_neg (by rw [ob_b0.mp e]; decide)] at hk
    exact hk I w ob_fr.rf
  · rw [if_pos (ob_b1.mp e)] at hk
    intro I1 e1
    have hS1 : cl_S I1 (b + 3 + 1 + 5 * i) (ab_f s1 6 0) := by rw [e1]; exact hS.up (by decide) (by decide)
    have f1 : ob_fr (cl_s (b + 3 + 1 + 5 * i)) I I1 := by rw [e1]; exact ob_fr.rf.up ⟨by omega, by omega⟩
    have w1 : cl_W I1 b p (ab_set A i (ab_f s1 6 0)) P := by
      have := w.put hi hS1 f1
      rw [ab_set_2] at this
      exact this
    rw [hS1.1 1 (by decide), hS1.1 2 (by decide)]
    refine cl_best w1 oP (h01.set h0) h1 h2 (fun L hL fL => ?_)
    have hSL : cl_S L (b + 3 + 1 + 5 * i) (ab_f s1 6 0) := by have := hL.1.2.2.2 i hi; rw [ab_set_i] at this; exact this
    refine cl_cp hSL (fun M hM fM => hk M ?_ (((cl_z_s hi f1).tr fL).tr (cl_z_s hi fM)))
    have := hL.put hi hM fM
    rw [ab_set_2] at this
    exact this
theorem cl_lv {G : pm_G} {b p i c : Nat} {x y : Int32} {I : pm_I} {K : pm_I → Prop} {A : aT} {P : aP} (w : cl_W I b p A P) (oP : ok_P P) (h01 : ok_01 A) (h0 : (A.2.2.2 i).1 0 = 1) (hi : i < 6) (o : ok_S P c (A.2.2.2 i)) (hk : ∀ L, cl_W L b p (ab_set A i (ab_lv P A i x y)) P → ob_fr (cl_z b p) I L → K L) : wX5_leavePaths G b p (b + 3 + 1 + 5 * i) x y I K := by
  have hS := w.1.2.2.2 i hi
  unfold wX5_leavePaths
  rw [hS.1 5 (by decide)]
  unfold ab_lv at hk
  dsimp only at hk
  refine cl_ru hS.1 ⟨fun e => ?_, fun e => ?_⟩
  · have e' : (if ab_ru (A.2.2.2 i) ((A.2.2.2 i).1 5) x y = true then ab_f (A.2.2.2 i) 5 (-1) else A.2.2.2 i) = A.2.2.2 i := if_neg (by rw [ob_b0.mp e]; decide)
    rw [e'] at hk
    exact cl_lv2 (w.put hi hS ob_fr.rf) oP h01 h0 hi o.1 o.2.1 hk
  · have e' : (if ab_ru (A.2.2.2 i) ((A.2.2.2 i).1 5) x y = true then ab_f (A.2.2.2 i) 5 (-1) else A.2.2.2 i) = ab_f (A.2.2.2 i) 5 (-1) := if_pos (ob_b1.mp e)
    rw [e'] at hk
    intro I1 e1
    have hS1 : cl_S I1 (b + 3 + 1 + 5 * i) (ab_f (A.2.2.2 i) 5 (-1)) := by rw [e1]; exact hS.up (by decide) (by decide)
    have f1 : ob_fr (cl_s (b + 3 + 1 + 5 * i)) I I1 := by rw [e1]; exact ob_fr.rf.up ⟨by omega, by omega⟩
    exact cl_lv2 (w.put hi hS1 f1) oP h01 h0 hi o.1 o.2.1 (fun L hL fL => hk L hL ((cl_z_s hi f1).tr fL))
theorem cl_leave {G : pm_G} {b p c : Nat} {x y : Int32} {I : pm_I} {K : Int32 → pm_I → Prop} {A : aT} {P : aP} (w : cl_W I b p A P) (oP : ok_P P) (oA : ok_T P c A) (hc : c < 1048576) (hk : ∀ J, cl_W J b p (ob_it (ab_s5 P x y) 6 A) P → ob_fr (cl_z b p) I J → K (nI (ab_c5 P x y A 6)) J) : wX5_leaveLink G b p x y I K := by
  have n8 := oP.1.1
  have hpb := w.2.2
  unfold wX5_leaveLink
  have o5 := ob_it_ok (f := ab_s5 P x y) (n := 6) (fun a i hi ha => ok_s5 oP hi ha) oA
  refine ob_lp3 (fun i n z J => n = nI (ab_c5 P x y A i) ∧ z = nI i ∧ cl_W J b p (ob_it (ab_s5 P x y) i A) P ∧ ob_fr (cl_z b p) I J) 6 ⟨rfl, rfl, w, ob_fr.rf⟩ ?_
  intro Q1 i n z J hi hI hQ
  obtain ⟨hn, hz, hW, hf⟩ := hI
  subst hn; subst hz
  refine ⟨fun h1 => ?_, fun h1 => ?_⟩
  · have e := (ob_to (n := 6) (by decide) hi).1 h1
    subst e
    exact hk J hW hf
  · have hl := (ob_to (n := 6) (by decide) hi).2 h1
    have oi := o5 i (by omega)
    have st : ob_it (ab_s5 P x y) (i + 1) A = ab_s5 P x y (ob_it (ab_s5 P x y) i A) i := rfl
    have sc : ab_c5 P x y A (i + 1) = ab_c5 P x y A i + (if ((ob_it (ab_s5 P x y) i A).2.2.2 i).1 0 = 1 then ab_mc (ab_lv P (ob_it (ab_s5 P x y) i A) i x y) x y else 0) := rfl
    rw [st, sc] at hQ
    clear st sc hk
    generalize ob_it (ab_s5 P x y) i A = B at *
    have hin : vp_in (nI i) 6 := vp_in_nI hl (by decide)
    rw [nI_clamp (by omega)]
    have hS := hW.1.2.2.2 i hl
    rw [hS.1 0 (by decide)]
    refine ⟨hin, fun z => ?_, fun z => ?_⟩
    · refine hQ _ _ _ hl ⟨?_, nI_1 _, ?_, hf⟩
      · rw [if_neg (by rw [z]; decide)]; rfl
      · unfold ab_s5
        rw [if_neg (by rw [z]; decide)]
        exact hW
    · have z1 : (B.2.2.2 i).1 0 = 1 := (oi.2.2.2 i hl).resolve_left z
      have os := oi.2.2.1 i hl z1
      refine cl_lv hW oP oi.2.2.2 z1 hl os (fun L hL fL => ?_)
      have ol : ok_S P c (ab_lv P B i x y) := os.lv oP
      have l0 : (ab_lv P B i x y).1 0 = 1 := by rw [ok_lv_0]; exact z1
      obtain ⟨d, g⟩ := ol.g l0 hc
      have hSL : cl_S L (b + 3 + 1 + 5 * i) (ab_lv P B i x y) := by have := hL.1.2.2.2 i hl; rw [ab_set_i] at this; exact this
      refine cl_da hL.2.1 hSL.1 (ol.1.wd n8) (ol.2.1.wd n8) (ol.2.2.1.wd n8) ?_
      rw [hL.1.1]
      refine cl_mm hSL g (fun M hM fM => hQ _ _ _ hl ⟨?_, nI_1 _, ?_, (hf.tr fL).tr (cl_z_s hl fM)⟩)
      · rw [if_pos z1, nI_add]
      · unfold ab_s5
        rw [if_pos z1]
        have := hL.put hl hM fM
        rw [ab_set_2] at this
        exact this
/-! copies -/
theorem cp_1 {I J L : pm_I} {b q n : Nat} (hq : q ≠ b) (h : (∀ j, j < n → J b j = I q j) ∧ J q = I q ∧ ob_fr (cl_s b) I J) (e : L = pm_up J b n (J q n)) : (∀ j, j < n + 1 → L b j = I q j) ∧ L q = I q ∧ ob_fr (cl_s b) I L := by
  obtain ⟨h1, h2, h3⟩ := h
  subst e
  refine ⟨fun j hj => ?_, by rw [ob_ur hq]; exact h2, h3.up ⟨by omega, by omega⟩⟩
  by_cases ej : j = n
  · rw [ej, ob_us, h2]
  · rw [ob_uq ej]; exact h1 j (by omega)
theorem cp_2 {I J L : pm_I} {b q n : Nat} (hq : q + 5 ≤ b ∨ b + 5 ≤ q) (hn : n < 4) (h : (∀ j, j < 13 → J b j = I q j) ∧ (∀ i, i < n → ∀ k, k < 24 → J (b + 1 + i) k = I (q + 1 + i) k) ∧ ob_fr (cl_s b) I J) (e : L = pm_cp J (q + 1 + n) (b + 1 + n) 0 0 24) : (∀ j, j < 13 → L b j = I q j) ∧ (∀ i, i < n + 1 → ∀ k, k < 24 → L (b + 1 + i) k = I (q + 1 + i) k) ∧ ob_fr (cl_s b) I L := by
  obtain ⟨h1, h2, h3⟩ := h
  have e1 : ∀ r, r ≠ b + 1 + n → L r = J r := fun r hr => by subst e; unfold pm_cp; rw [if_neg hr]
  have e2 : ∀ k, k < 24 → L (b + 1 + n) k = I (q + 1 + n) k := fun k hk => by
    subst e
    unfold pm_cp
    rw [if_pos rfl, pk_cpy_in (by omega) (by omega), h3 (q + 1 + n) (fun hh => by have := hh.1; have := hh.2; omega)]
    congr 1
    omega
  refine ⟨fun j hj => by rw [e1 b (by omega)]; exact h1 j hj, fun i hi k hk => ?_, fun r hr => by rw [e1 r (fun e => hr (by rw [e]; exact ⟨by omega, by omega⟩))]; exact h3 r hr⟩
  by_cases ei : i = n
  · rw [ei]; exact e2 k hk
  · rw [e1 _ (by omega)]; exact h2 i (by omega) k hk
theorem cl_copyS {G : pm_G} {b q : Nat} {I : pm_I} {K : pm_I → Prop} {s : aS} (hS : cl_S I q s) (h01 : s.1 0 = 0 ∨ s.1 0 = 1) (hq : q + 5 ≤ b ∨ b + 5 ≤ q) (hk : ∀ J, cl_S J b s → ob_fr (cl_s b) I J → K J) : wX4_copyFrom G b q I K := by
  unfold wX4_copyFrom
  have hne : q ≠ b := by omega
  refine ⟨by rw [hS.1 0 (by decide)]; exact h01, ?_⟩
  intro I0 e0 I1 e1 I2 e2 I3 e3 I4 e4 I5 e5 I6 e6 I7 e7 I8 e8 I9 e9 Ia ea Ib eb Ic ec Id ed Ie ee If ef Ig eg
  have h := cp_1 hne ⟨fun j hj => absurd hj (Nat.not_lt_zero j), rfl, ob_fr.rf⟩ e0
  replace h := cp_1 hne h e1
  replace h := cp_1 hne h e2
  replace h := cp_1 hne h e3
  replace h := cp_1 hne h e4
  replace h := cp_1 hne h e5
  replace h := cp_1 hne h e6
  replace h := cp_1 hne h e7
  replace h := cp_1 hne h e8
  replace h := cp_1 hne h e9
  replace h := cp_1 hne h ea
  replace h := cp_1 hne h eb
  replace h := cp_1 hne h ec
  have k := cp_2 hq (n := 0) (by decide) ⟨h.1, fun i hi => absurd hi (Nat.not_lt_zero i), h.2.2⟩ ed
  replace k := cp_2 hq (n := 1) (by decide) k ee
  replace k := cp_2 hq (n := 2) (by decide) k ef
  replace k := cp_2 hq (n := 3) (by decide) k eg
  refine hk _ ⟨fun j hj => by rw [k.1 j hj]; exact hS.1 j hj, fun ho m hm j hj => ?_⟩ k.2.2
  rw [k.2.1 j hj _ (Nat.mod_lt _ (by decide))]
  exact hS.2 ho m hm j hj
/-- the rows of a situation -/
def cl_t (b r : Nat) : Prop := b ≤ r ∧ r < b + 34
theorem cl_copy {G : pm_G} {b q : Nat} {I : pm_I} {K : pm_I → Prop} {A : aT} (h : cl_T I q A) (h01 : ok_01 A) (hq : q + 34 ≤ b ∨ b + 34 ≤ q) (hk : ∀ J, cl_T J b A → ob_fr (cl_t b) I J → K J) : wX5_copyFrom G b q I K := by
  unfold wX5_copyFrom
  intro I0 e0 I1 e1 I2 e2
  have f0 : ob_fr (cl_t b) I I0 := by rw [e0]; exact ob_fr.rf.up ⟨by omega, by omega⟩
  have f1 : ∀ r, r ≠ b + 1 → I1 r = I0 r := fun r hr => by rw [e1]; unfold pm_cp; rw [if_neg hr]
  have f2 : ∀ r, r ≠ b + 2 → I2 r = I1 r := fun r hr => by rw [e2]; unfold pm_cp; rw [if_neg hr]
  have g1 : ob_fr (cl_t b) I I1 := fun r hr => by rw [f1 r (fun e => hr (by rw [e]; exact ⟨by omega, by omega⟩))]; exact f0 r hr
  have g2 : ob_fr (cl_t b) I I2 := fun r hr => by rw [f2 r (fun e => hr (by rw [e]; exact ⟨by omega, by omega⟩))]; exact g1 r hr
  have a0 : I2 b 0 = A.1 := by rw [f2 b (by omega), f1 b (by omega), e0, ob_us]; exact h.1
  have a1 : ∀ k, k < 8 → I2 (b + 1) k = A.2.1 k := fun k hk => by
    rw [f2 _ (by omega), e1]
    unfold pm_cp
    rw [if_pos rfl, pk_cpy_in (by omega) (by omega), f0 (q + 1) (fun hh => by have := hh.1; have := hh.2; omega), ← h.2.1 k hk]
    congr 1
    omega
  have a2 : ∀ k, k < 8 → I2 (b + 2) k = A.2.2.1 k := fun k hk => by
    rw [e2]
    unfold pm_cp
    rw [if_pos rfl, pk_cpy_in (by omega) (by omega), g1 (q + 2) (fun hh => by have := hh.1; have := hh.2; omega), ← h.2.2.1 k hk]
    congr 1
    omega
  refine ob_lp2 (fun i x J => x = nI i ∧ J b 0 = A.1 ∧ (∀ k, k < 8 → J (b + 1) k = A.2.1 k) ∧ (∀ k, k < 8 → J (b + 2) k = A.2.2.1 k) ∧ (∀ k, k < i → cl_S J (b + 3 + 1 + 5 * k) (A.2.2.2 k)) ∧ ob_fr (cl_t b) I J) 6 ⟨rfl, a0, a1, a2, fun k hk => absurd hk (Nat.not_lt_zero k), g2⟩ ?_
  intro P i x J hi hI hP
  obtain ⟨hx, b0, b1, b2, b3, bf⟩ := hI
  subst hx
  refine ⟨fun hc => ?_, fun hc => ?_⟩
  · have e := (ob_to (n := 6) (by decide) hi).1 hc
    subst e
    exact hk J ⟨b0, b1, b2, b3⟩ bf
  · have hl := (ob_to (n := 6) (by decide) hi).2 hc
    refine ⟨vp_in_nI hl (by decide), vp_in_nI hl (by decide), ?_⟩
    rw [nI_clamp (by omega)]
    have hS : cl_S J (q + 3 + 1 + 5 * i) (A.2.2.2 i) := (h.2.2.2 i hl).rw (fun r h1 h2 => bf r (fun hh => by have := hh.1; have := hh.2; omega))
    refine cl_copyS hS (h01 i hl) (by omega) (fun L hL fL => hP _ _ hl ?_)
    have e : ∀ r, (r < b + 3 + 1 + 5 * i ∨ b + 3 + 1 + 5 * i + 5 ≤ r) → L r = J r := fun r hr => fL r (fun hh => by have := hh.1; have := hh.2; omega)
    refine ⟨nI_1 _, by rw [e b (by omega)]; exact b0, by rw [e (b + 1) (by omega)]; exact b1, by rw [e (b + 2) (by omega)]; exact b2, fun k hk => ?_, bf.tr (fL.wd (fun r hr => ⟨by have := hr.1; omega, by have := hr.2; omega⟩))⟩
    by_cases ek : k = i
    · rw [ek]; exact hL
    · exact (b3 k (by omega)).rw (fun r h1 h2 => e r (by omega))
