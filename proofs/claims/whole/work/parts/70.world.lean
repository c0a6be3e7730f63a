/-! ===== THE WORLD: class and reference beside each other ===== -/
def ok_X (P : aP) (c : Nat) (A : aT) : Prop := ok_T P c A ∧ ∃ t, t ≤ 9999 ∧ A.1 = nI t
theorem ok_T.up {P : aP} {c c' : Nat} {A : aT} (h : ok_T P c A) (hc : c ≤ c') : ok_T P c' A := ⟨h.1, h.2.1, fun i hi h0 => (h.2.2.1 i hi h0).up hc, h.2.2.2⟩
theorem ok_X.up {P : aP} {c c' : Nat} {A : aT} (h : ok_X P c A) (hc : c ≤ c') : ok_X P c' A := ⟨h.1.up hc, h.2⟩
section GW
variable {I J : pm_I} {len len' : Nat} {txt txt' : Nat → Int32} {err err' : Int32} {P P' : aP} {A A' : aT} {n n' : Nat} {H H' : Nat → aT} {sv sv' : Nat → Bool} {S S' : Nat → aT} {c : Nat}
/-- a byte -/
def ob_ib (v : Int32) : Prop := -128 ≤ v.toInt ∧ v.toInt < 128
def cg_R (I : pm_I) (len : Nat) (txt : Nat → Int32) (err : Int32) (P : aP) (A : aT) (n : Nat) (H : Nat → aT) (sv : Nat → Bool) (S : Nat → aT) : Prop :=
  (I 1 1 = nI len ∧ (∀ k, k < len → I (1 + 1) k = txt k ∧ ob_ib (txt k)) ∧ I 1 2 = err) ∧ (∃ p, (p = 3 ∨ p = 11) ∧ I 1 3 = nI p ∧ I 1 4 = nI (14 - p) ∧ cl_W I (1 + 18) p A P) ∧ cl_H I (1 + 86) n H ∧ ∀ s, s < 2 → I (1 + 497) s = ob_b (sv s) ∧ (sv s = true → cl_T I (1 + 428 + 1 + 34 * s) (S s))
def rg_R (I : pm_I) (len : Nat) (txt : Nat → Int32) (err : Int32) (P : aP) (A : aT) (n : Nat) (H : Nat → aT) (sv : Nat → Bool) (S : Nat → aT) : Prop :=
  (I 499 10 = nI len ∧ (∀ k, k < len → I (499 + 9) k = txt k) ∧ I 499 17 = err) ∧ rf_W I 499 A P ∧ rf_H I 499 n H ∧ ∀ s, s < 2 → I (499 + 15) s = ob_b (sv s) ∧ (sv s = true → rf_T (fun j => I (499 + 14) (821 * s + j)) (S s))
def ok_G (c len : Nat) (P : aP) (A : aT) (n : Nat) (H : Nat → aT) (sv : Nat → Bool) (S : Nat → aT) : Prop := len ≤ 600 ∧ ok_P P ∧ ok_X P c A ∧ (∀ k, k < n → ok_X P c (H k)) ∧ ∀ s, s < 2 → sv s = true → ok_X P c (S s)
def gS (c : Nat) (I : pm_I) : Prop := ∃ (len : Nat) (txt : Nat → Int32) (err : Int32) (P : aP) (A : aT) (n : Nat) (H : Nat → aT) (sv : Nat → Bool) (S : Nat → aT), cg_R I len txt err P A n H sv S ∧ rg_R I len txt err P A n H sv S ∧ ok_G c len P A n H sv S
theorem ok_G.up {c c' : Nat} (h : ok_G c len P A n H sv S) (hc : c ≤ c') : ok_G c' len P A n H sv S := ⟨h.1, h.2.1, h.2.2.1.up hc, fun k hk => (h.2.2.2.1 k hk).up hc, fun s hs e => (h.2.2.2.2 s hs e).up hc⟩
theorem cl_H.rw {q : Nat} (h : cl_H I q n H) (e : ∀ r, q ≤ r → r < q + 342 → J r = I r) : cl_H J q n H := by
  obtain ⟨x, hx, e1, e2, hn, hc⟩ := h
  refine ⟨x, hx, by rw [e q (by omega) (by omega)]; exact e1, by rw [e q (by omega) (by omega)]; exact e2, hn, fun k hk => (hc k hk).rw (fun r h1 h2 => e r (by omega) (by omega))⟩
/-- the class's part after a call that leaves history and slots as they were -/
theorem cg_R.nw {p : Nat} (h : cg_R I len txt err P A n H sv S) (e3 : I 1 3 = nI p) (w : cl_W J (1 + 18) p A' P) (f : ∀ r, (r ≤ 2 ∨ 87 ≤ r) → r < 499 → J r = I r) : cg_R J len txt err P A' n H sv S := by
  obtain ⟨⟨h1, h2, h3⟩, ⟨p', hp, i3, i4, w'⟩, hH, hs⟩ := h
  have hpp : p = p' := (nI_eq (by have := w.2.2; omega) (by omega)).mp (e3.symm.trans i3)
  subst hpp
  refine ⟨⟨by rw [f 1 (by omega) (by omega)]; exact h1, fun k hk => by rw [f (1 + 1) (by omega) (by omega)]; exact h2 k hk, by rw [f 1 (by omega) (by omega)]; exact h3⟩, ⟨p, hp, by rw [f 1 (by omega) (by omega)]; exact i3, by rw [f 1 (by omega) (by omega)]; exact i4, w⟩, hH.rw (fun r h1 h2 => f r (by omega) (by omega)), fun s hs' => ?_⟩
  rw [f (1 + 497) (by omega) (by omega)]
  exact ⟨(hs s hs').1, fun e => ((hs s hs').2 e).rw (fun r h1 h2 => f r (by omega) (by omega))⟩
theorem cg_R.nh {p : Nat} (h : cg_R I len txt err P A n H sv S) (e3 : I 1 3 = nI p) (w : cl_W J (1 + 18) p A' P) (hH' : cl_H J (1 + 86) n' H') (f : ∀ r, (r ≤ 2 ∨ 429 ≤ r) → r < 499 → J r = I r) : cg_R J len txt err P A' n' H' sv S := by
  obtain ⟨⟨h1, h2, h3⟩, ⟨p', hp, i3, i4, w'⟩, hH, hs⟩ := h
  have hpp : p = p' := (nI_eq (by have := w.2.2; omega) (by omega)).mp (e3.symm.trans i3)
  subst hpp
  refine ⟨⟨by rw [f 1 (by omega) (by omega)]; exact h1, fun k hk => by rw [f (1 + 1) (by omega) (by omega)]; exact h2 k hk, by rw [f 1 (by omega) (by omega)]; exact h3⟩, ⟨p, hp, by rw [f 1 (by omega) (by omega)]; exact i3, by rw [f 1 (by omega) (by omega)]; exact i4, w⟩, hH', fun s hs' => ?_⟩
  rw [f (1 + 497) (by omega) (by omega)]
  exact ⟨(hs s hs').1, fun e => ((hs s hs').2 e).rw (fun r h1 h2 => f r (by omega) (by omega))⟩
theorem cg_R.fr (h : cg_R I len txt err P A n H sv S) (f : ∀ r, r < 499 → J r = I r) : cg_R J len txt err P A n H sv S := by
  have h' := h
  obtain ⟨_, ⟨p, hp, i3, i4, w⟩, _, _⟩ := h
  have hb := w.2.2
  exact h'.nw i3 ⟨w.1.rw (fun r h1 h2 => f r (by omega)), w.2.1.rw (fun r h1 h2 _ => f r (by omega)) (by rw [f (p + 5) (by omega)]), hb⟩ (fun r _ h2 => f r h2)
/-- the class's plan and its place -/
theorem cg_R.pl (h : cg_R I len txt err P A n H sv S) : ∃ p, (p = 3 ∨ p = 11) ∧ I 1 3 = nI p ∧ cl_W I (1 + 18) p A P := by
  obtain ⟨_, ⟨p, hp, i3, _, w⟩, _, _⟩ := h
  exact ⟨p, hp, i3, w⟩
theorem rf_H.rw {q : Nat} (h : rf_H I q n H) (e26 : J q 26 = I q 26) (e : J (q + 13) = I (q + 13)) : rf_H J q n H := by
  obtain ⟨h1, h2, h3⟩ := h
  refine ⟨e26.trans h1, h2, fun k hk => ?_⟩
  rw [e]
  exact h3 k hk
theorem rg_R.nw (h : rg_R I len txt err P A n H sv S) (w : rf_W J 499 A' P) (f : ∀ r, 500 < r → r < 515 → r ≠ 509 → r ≠ 510 → r ≠ 511 → J r = I r) (f0 : ∀ j, j ≠ 0 → J 499 j = I 499 j) : rg_R J len txt err P A' n H sv S := by
  obtain ⟨⟨h1, h2, h3⟩, w', hH, hs⟩ := h
  refine ⟨⟨by rw [f0 10 (by decide)]; exact h1, fun k hk => by rw [f (499 + 9) (by decide) (by decide) (by decide) (by decide) (by decide)]; exact h2 k hk, by rw [f0 17 (by decide)]; exact h3⟩, w, hH.rw (f0 26 (by decide)) (f (499 + 13) (by decide) (by decide) (by decide) (by decide) (by decide)), fun s hs' => ?_⟩
  rw [f (499 + 15) (by decide) (by decide) (by decide) (by decide) (by decide), f (499 + 14) (by decide) (by decide) (by decide) (by decide) (by decide)]
  exact hs s hs'
theorem rg_R.nh (h : rg_R I len txt err P A n H sv S) (w : rf_W J 499 A' P) (hH' : rf_H J 499 n' H') (f : ∀ r, 500 < r → r < 515 → r ≠ 509 → r ≠ 510 → r ≠ 511 → r ≠ 512 → J r = I r) (f0 : ∀ j, j ≠ 0 → j ≠ 26 → J 499 j = I 499 j) : rg_R J len txt err P A' n' H' sv S := by
  obtain ⟨⟨h1, h2, h3⟩, w', hH, hs⟩ := h
  refine ⟨⟨by rw [f0 10 (by decide) (by decide)]; exact h1, fun k hk => by rw [f (499 + 9) (by decide) (by decide) (by decide) (by decide) (by decide) (by decide)]; exact h2 k hk, by rw [f0 17 (by decide) (by decide)]; exact h3⟩, w, hH', fun s hs' => ?_⟩
  rw [f (499 + 15) (by decide) (by decide) (by decide) (by decide) (by decide) (by decide), f (499 + 14) (by decide) (by decide) (by decide) (by decide) (by decide) (by decide)]
  exact hs s hs'
theorem rg_R.fr (h : rg_R I len txt err P A n H sv S) (f : ∀ r, 499 ≤ r → r < 515 → J r = I r) : rg_R J len txt err P A n H sv S := by
  refine h.nw ⟨by rw [f (499 + 1) (by decide) (by decide)]; exact h.2.1.1, h.2.1.2.rw (fun r h1 h2 => f r (by omega) (by omega))⟩ (fun r h1 h2 _ _ _ => f r (by omega) h2) (fun j _ => by rw [f 499 (by decide) (by decide)])
end GW
/-! what a call leaves: of the class, of the reference -/
def cg_P (I J : pm_I) (len : Nat) (txt : Nat → Int32) (err : Int32) (P : aP) (A : aT) (n : Nat) (H : Nat → aT) (sv : Nat → Bool) (S : Nat → aT) : Prop := cg_R J len txt err P A n H sv S ∧ ∀ r, 499 ≤ r → r ≠ 515 → J r = I r
def rg_P (I J : pm_I) (v : Int32) (len : Nat) (txt : Nat → Int32) (err : Int32) (P : aP) (A : aT) (n : Nat) (H : Nat → aT) (sv : Nat → Bool) (S : Nat → aT) : Prop := rg_R J len txt err P A n H sv S ∧ (∀ r, (r < 499 ∨ r = 515) → J r = I r) ∧ J 499 0 = v
/-- where the rows' kinds are those of the law -/
def gK (G : pm_G) : Prop := pm_n G = 515 ∧ pm_kd G = k9
theorem gK.P {G : pm_G} (h : gK G) {p : Nat} (hp : p = 3 ∨ p = 11) : pm_k G p (.inl 1) := by
  refine ⟨by omega, by rw [h.1]; omega, ?_⟩
  rw [h.2]
  rcases hp with rfl | rfl <;> decide
theorem gK_s1 : ∀ i, i < 6 → k9 (1 + 18 + 3 + 1 + 5 * i) = .inl 4 := by decide +kernel
theorem gK_s2 : ∀ i, i < 6 → k9 (1 + 52 + 3 + 1 + 5 * i) = .inl 4 := by decide +kernel
theorem gK.S {G : pm_G} (h : gK G) {i : Nat} (hi : i < 6) : pm_k G (1 + 18 + 3 + 1 + 5 * i) (.inl 4) := ⟨by omega, by rw [h.1]; omega, by rw [h.2]; exact gK_s1 i hi⟩
theorem gK.F {G : pm_G} (h : gK G) {i : Nat} (hi : i < 6) : pm_k G (1 + 52 + 3 + 1 + 5 * i) (.inl 4) := ⟨by omega, by rw [h.1]; omega, by rw [h.2]; exact gK_s2 i hi⟩
/-! who is there -/
def ab_ip (P : aP) (x : Int32) : Bool := decide (0 ≤ x ∧ x ≤ nI (ab_np P) - 1)
theorem ab_ip_t {P : aP} {x : Int32} (oP : ok_P P) : ab_ip P x = true ↔ ob_ix (ab_np P) x := by
  have n8 := oP.1.1
  rw [ob_ix_iff (by omega)]
  exact decide_eq_true_iff
theorem ab_ip_f {P : aP} {x : Int32} (oP : ok_P P) : ab_ip P x = false ↔ ¬ ob_ix (ab_np P) x := by
  rw [← ab_ip_t oP]
  cases ab_ip P x <;> simp
def ab_thp (P : aP) (x y : Int32) : Int32 := if ab_ip P x = true ∧ ab_ip P y = true then 0 else 1
def ab_th2 (P : aP) (x y : Int32) : Int32 := if ab_ip P x = true ∧ ab_ip P y = true then (if x = y then 2 else 0) else 1
def ab_th3 (P : aP) (x y z : Int32) : Int32 := if ab_ip P x = true ∧ ab_ip P y = true ∧ ab_ip P z = true then (if x = y ∨ x = z ∨ y = z then 2 else 0) else 1
theorem cx_peer {G : pm_G} {I : pm_I} {K : pm_I → Prop} {E : Nat → pm_I → Prop} {x : Int32} {P : aP} {A : aT} {p : Nat} (hG : gK G) (hp : p = 3 ∨ p = 11) (i3 : I 1 3 = nI p) (w : cl_W I (1 + 18) p A P) (oP : ok_P P) (h1 : ob_ix (ab_np P) x → K I) (h2 : ¬ ob_ix (ab_np P) x → E 3 I) : wX6_checkPeer G 1 x I K E := by
  have n8 := oP.1.1
  unfold wX6_checkPeer
  rw [i3, nI_clamp (by omega), show I p 0 = nI (ab_np P) from w.2.1.1.1.trans oP.1.2]
  refine ⟨fun e => h2 (fun hh => ?_), fun e => ⟨hG.P hp, fun e2 => h1 ?_, fun e2 => h2 (fun hh => ?_)⟩⟩
  · exact absurd e (Int32.not_lt.mpr (hh.pos (by omega)).1)
  · obtain ⟨a, ha, rfl⟩ := nI_of e
    exact ⟨a, (nI_ltI ha (by omega)).mp e2, rfl⟩
  · obtain ⟨a, ha, rfl⟩ := hh
    exact e2 (nI_lt ha (by omega))
theorem cx_peers {G : pm_G} {I : pm_I} {K : pm_I → Prop} {E : Nat → pm_I → Prop} {x y : Int32} {P : aP} {A : aT} {p : Nat} (hG : gK G) (hp : p = 3 ∨ p = 11) (i3 : I 1 3 = nI p) (w : cl_W I (1 + 18) p A P) (oP : ok_P P) (h1 : ob_ix (ab_np P) x → ob_ix (ab_np P) y → K I) (h2 : ¬ (ob_ix (ab_np P) x ∧ ob_ix (ab_np P) y) → E 3 I) : wX6_checkPeers G 1 x y I K E := by
  unfold wX6_checkPeers
  exact cx_peer hG hp i3 w oP (fun i1 => cx_peer hG hp i3 w oP (fun i2 => h1 i1 i2) (fun i2 => h2 (fun hh => i2 hh.2))) (fun i1 => h2 (fun hh => i1 hh.1))
theorem cx_two {G : pm_G} {I : pm_I} {K : pm_I → Prop} {E : Nat → pm_I → Prop} {x y : Int32} {P : aP} {A : aT} {p : Nat} (hG : gK G) (hp : p = 3 ∨ p = 11) (i3 : I 1 3 = nI p) (w : cl_W I (1 + 18) p A P) (oP : ok_P P) (h1 : ob_ix (ab_np P) x → ob_ix (ab_np P) y → ¬ x = y → ab_th2 P x y = 0 → K I) (h2 : ab_th2 P x y = 1 → E 3 I) (h3 : ab_th2 P x y = 2 → E 1 I) : wX6_checkTwoPeers G 1 x y I K E := by
  unfold wX6_checkTwoPeers
  unfold ab_th2 at h1 h2 h3
  refine cx_peers hG hp i3 w oP (fun i1 i2 => ?_) (fun i => h2 ?_)
  · rw [if_pos ⟨(ab_ip_t oP).mpr i1, (ab_ip_t oP).mpr i2⟩] at h1 h3
    exact ⟨fun e => h1 i1 i2 e (if_neg e), fun e => h3 (if_pos e)⟩
  · rw [if_neg (fun hh => i ⟨(ab_ip_t oP).mp hh.1, (ab_ip_t oP).mp hh.2⟩)]
theorem cx_three {G : pm_G} {I : pm_I} {K : pm_I → Prop} {E : Nat → pm_I → Prop} {x y z : Int32} {P : aP} {A : aT} {p : Nat} (hG : gK G) (hp : p = 3 ∨ p = 11) (i3 : I 1 3 = nI p) (w : cl_W I (1 + 18) p A P) (oP : ok_P P) (h1 : ob_ix (ab_np P) x → ob_ix (ab_np P) y → ob_ix (ab_np P) z → ¬ (x = y ∨ x = z ∨ y = z) → ab_th3 P x y z = 0 → K I) (h2 : ab_th3 P x y z = 1 → E 3 I) (h3 : ab_th3 P x y z = 2 → E 1 I) : wX6_checkThreePeers G 1 x y z I K E := by
  unfold wX6_checkThreePeers
  unfold ab_th3 at h1 h2 h3
  refine cx_peer hG hp i3 w oP (fun i1 => cx_peers hG hp i3 w oP (fun i2 i3' => ?_) (fun i => h2 ?_)) (fun i => h2 ?_)
  · rw [if_pos ⟨(ab_ip_t oP).mpr i1, (ab_ip_t oP).mpr i2, (ab_ip_t oP).mpr i3'⟩] at h1 h3
    refine ⟨fun e => h3 (if_pos (Or.inl e)), fun e => ⟨fun e2 => h3 (if_pos (Or.inr (Or.inl e2))), fun e2 => ⟨fun e3 => ?_, fun e3 => h3 (if_pos (Or.inr (Or.inr e3)))⟩⟩⟩
    have hn : ¬ (x = y ∨ x = z ∨ y = z) := fun hh => hh.elim e (fun hh => hh.elim e2 e3)
    exact h1 i1 i2 i3' hn (if_neg hn)
  · rw [if_neg (fun hh => i ⟨(ab_ip_t oP).mp hh.2.1, (ab_ip_t oP).mp hh.2.2⟩)]
  · rw [if_neg (fun hh => i ((ab_ip_t oP).mp hh.1))]
theorem rx_two {G : pm_G} {q : Nat} {x y : Int32} {I : pm_I} {K : Int32 → pm_I → Prop} {P : aP} (hP : rf_P I q P) (oP : ok_P P) (h1 : ob_ix (ab_np P) x → ob_ix (ab_np P) y → ¬ x = y → ab_th2 P x y = 0 → K 0 (pm_up I q 0 (ab_th2 P x y))) (h2 : ¬ ab_th2 P x y = 0 → K 1 (pm_up I q 0 (ab_th2 P x y))) : wX7_noTwo G q x y I K := by
  unfold ab_th2 at h1 h2
  refine rf_two hP oP (fun i1 i2 e => ?_) (fun i => ?_) (fun i1 i2 e => ?_)
  · rw [if_pos ⟨(ab_ip_t oP).mpr i1, (ab_ip_t oP).mpr i2⟩, if_neg e] at h1
    exact h1 i1 i2 e rfl
  · rw [if_neg (fun hh => i ⟨(ab_ip_t oP).mp hh.1, (ab_ip_t oP).mp hh.2⟩)] at h2
    exact h2 (by decide)
  · rw [if_pos ⟨(ab_ip_t oP).mpr i1, (ab_ip_t oP).mpr i2⟩, if_pos e] at h2
    exact h2 (by decide)
theorem rx_three {G : pm_G} {q : Nat} {x y z : Int32} {I : pm_I} {K : Int32 → pm_I → Prop} {P : aP} (hP : rf_P I q P) (oP : ok_P P) (h1 : ob_ix (ab_np P) x → ob_ix (ab_np P) y → ob_ix (ab_np P) z → ¬ (x = y ∨ x = z ∨ y = z) → ab_th3 P x y z = 0 → K 0 (pm_up I q 0 0)) (h2 : ¬ ab_th3 P x y z = 0 → K 1 (pm_up I q 0 (ab_th3 P x y z))) : wX7_noThree G q x y z I K := by
  unfold ab_th3 at h1 h2
  refine rf_three hP oP (fun i1 i2 i3 e => ?_) (fun i => ?_) (fun i1 i2 i3 e => ?_)
  · rw [if_pos ⟨(ab_ip_t oP).mpr i1, (ab_ip_t oP).mpr i2, (ab_ip_t oP).mpr i3⟩, if_neg e] at h1
    exact h1 i1 i2 i3 e rfl
  · rw [if_neg (fun hh => i ⟨(ab_ip_t oP).mp hh.1, (ab_ip_t oP).mp hh.2.1, (ab_ip_t oP).mp hh.2.2⟩)] at h2
    exact h2 (by decide)
  · rw [if_pos ⟨(ab_ip_t oP).mpr i1, (ab_ip_t oP).mpr i2, (ab_ip_t oP).mpr i3⟩, if_pos e] at h2
    exact h2 (by decide)
/-! open sessions -/
def ab_os (A : aT) (x : Int32) : Bool := decide (0 ≤ x ∧ x ≤ 5) && decide ((A.2.2.2 x.toNatClampNeg).1 0 = 1)
theorem ab_os_t {A : aT} {i : Nat} (hi : i < 6) (h : (A.2.2.2 i).1 0 = 1) : ab_os A (nI i) = true := by
  unfold ab_os
  rw [nI_clamp (by omega), decide_eq_true h, Bool.and_true]
  exact decide_eq_true ⟨nI_pos' (by omega), nI_le (a := i) (b := 5) (by omega) (by decide)⟩
theorem ab_os_f {A : aT} {x : Int32} (h : ∀ i, i < 6 → x = nI i → ¬ (A.2.2.2 i).1 0 = 1) : ab_os A x = false := by
  unfold ab_os
  by_cases hx : 0 ≤ x ∧ x ≤ 5
  · have := (ob_ix_iff (n := 6) (x := x) (by decide)).mpr hx
    obtain ⟨i, hi, rfl⟩ := this
    rw [nI_clamp (by omega), decide_eq_false (h i hi rfl), Bool.and_false]
  · rw [decide_eq_false hx, Bool.false_and]
def ab_ths (A : aT) (x : Int32) : Int32 := if ab_os A x = true then 0 else 1
theorem cx_ses {G : pm_G} {I : pm_I} {K : Nat → pm_I → Prop} {E : Nat → pm_I → Prop} {x : Int32} {A : aT} (hT : cl_T I (1 + 18) A) (h01 : ok_01 A) (h1 : ∀ i, i < 6 → x = nI i → (A.2.2.2 i).1 0 = 1 → ab_ths A x = 0 → K (1 + 18 + 3 + 1 + 5 * i) I) (h2 : ab_ths A x = 1 → E 3 I) : wX6_openSession G 1 x I K E := by
  unfold wX6_openSession
  have no : (∀ i, i < 6 → x = nI i → ¬ (A.2.2.2 i).1 0 = 1) → E 3 I := fun h => h2 (by unfold ab_ths; rw [ab_os_f h]; rfl)
  refine ⟨fun e => no (fun i hi ex => ?_), fun e => ⟨fun e2 => no (fun i hi ex => ?_), fun e2 => ?_⟩⟩
  · subst ex; exact absurd e (nI_pos (by omega))
  · subst ex; exact absurd e2 (nI_ge (a := i) (b := 6) hi (by decide))
  · obtain ⟨i, hi, rfl⟩ := nI_of e
    have hi6 : i < 6 := by
      rcases Nat.lt_or_ge i 6 with h | h
      · exact h
      · exact absurd (nI_le (a := 6) (b := i) h hi) e2
    rw [nI_clamp (by omega), (hT.2.2.2 i hi6).1 0 (by decide)]
    refine ⟨vp_in_nI hi6 (by decide), fun z => ⟨vp_in_nI hi6 (by decide), ?_⟩, fun z => no (fun j hj e => ?_)⟩
    · have z1 := (h01 i hi6).resolve_left z
      exact h1 i hi6 rfl z1 (by unfold ab_ths; rw [ab_os_t hi6 z1]; rfl)
    · have : i = j := (nI_eq (by omega) (by omega)).mp e
      subst this
      rw [z]; decide
theorem rx_ses {G : pm_G} {q : Nat} {x : Int32} {I : pm_I} {K : Int32 → pm_I → Prop} {A : aT} (hT : rf_T (I (q + 1)) A) (h1 : ∀ i, i < 6 → x = nI i → (A.2.2.2 i).1 0 = 1 → ab_ths A x = 0 → K 0 (pm_up I q 0 0)) (h2 : ab_ths A x = 1 → K 1 (pm_up I q 0 1)) : wX7_noSession G q x I K :=
  rf_ses hT (fun i hi e h0 => h1 i hi e h0 (by unfold ab_ths; rw [e, ab_os_t hi h0]; rfl)) (fun h => h2 (by unfold ab_ths; rw [ab_os_f h]; rfl))
