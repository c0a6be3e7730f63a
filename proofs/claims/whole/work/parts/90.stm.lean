/-! ===== THE PARSER: statements (1): numbers, what occurs once ===== -/
def ok_N (s : aQ) : Prop := s.2.2.1 = 2 → ∃ v, v ≤ 9999 ∧ s.2.2.2.1 = nI v
theorem ok_N.adv (tx : Nat → Int32) (m : Nat) (s : aQ) : ok_N (ab_adv tx m s) := fun e => tk_VB e
def ab_nu (n lo : Nat) (x3 : Int32) (s : aQ) : Sum aE Nat := if s.2.2.1 = 2 then (if lo ≤ s.2.2.2.1.toNatClampNeg ∧ s.2.2.2.1.toNatClampNeg < n then (if nI s.2.2.2.1.toNatClampNeg = x3 then .inl (5, s.2.1) else .inr s.2.2.2.1.toNatClampNeg) else .inl (3, s.2.1)) else .inl (1, s.2.1)
theorem nI_m1 {v : Nat} (hv : v < 2 ^ 31) : ¬ nI v = -1 := fun e => by
  have := nI_toInt hv
  rw [e] at this
  have h2 : (-1 : Int32).toInt = -1 := by decide
  omega
theorem ab_nu_r {n lo : Nat} {x3 : Int32} {s : aQ} (oN : ok_N s) {v : Nat} (h : ab_nu n lo x3 s = .inr v) : lo ≤ v ∧ v < n ∧ v ≤ 9999 ∧ ¬ nI v = x3 ∧ s.2.2.1 = 2 ∧ s.2.2.2.1 = nI v := by
  unfold ab_nu at h
  by_cases h2 : s.2.2.1 = 2
  · rw [if_pos h2] at h
    obtain ⟨w, hw, ew⟩ := oN h2
    rw [ew, nI_clamp (by omega)] at h
    by_cases h3 : lo ≤ w ∧ w < n
    · rw [if_pos h3] at h
      by_cases h4 : nI w = x3
      · rw [if_pos h4] at h; cases h
      · rw [if_neg h4] at h; cases h
        exact ⟨h3.1, h3.2, hw, h4, h2, ew⟩
    · rw [if_neg h3] at h; cases h
  · rw [if_neg h2] at h; cases h
theorem ab_nu_e {n lo : Nat} {x3 : Int32} {s : aQ} {e : aE} (h : ab_nu n lo x3 s = .inl e) : ¬ e.1 = 0 ∧ e.2 = s.2.1 := by
  unfold ab_nu at h
  by_cases h2 : s.2.2.1 = 2
  · rw [if_pos h2] at h
    by_cases h3 : lo ≤ s.2.2.2.1.toNatClampNeg ∧ s.2.2.2.1.toNatClampNeg < n
    · rw [if_pos h3] at h
      by_cases h4 : nI s.2.2.2.1.toNatClampNeg = x3
      · rw [if_pos h4] at h; cases h; exact ⟨show ¬ (5 : Int32) = 0 by decide, rfl⟩
      · rw [if_neg h4] at h; cases h
    · rw [if_neg h3] at h; cases h; exact ⟨show ¬ (3 : Int32) = 0 by decide, rfl⟩
  · rw [if_neg h2] at h; cases h; exact ⟨show ¬ (1 : Int32) = 0 by decide, rfl⟩
/-- the check against the first peer, after the check of the range -/
theorem ab_nu_3 {n lo : Nat} {x3 : Int32} {s : aQ} (oN : ok_N s) : (∀ e, ab_nu n lo (-1) s = .inl e → ab_nu n lo x3 s = .inl e) ∧ ∀ v, ab_nu n lo (-1) s = .inr v → ab_nu n lo x3 s = if nI v = x3 then .inl (5, s.2.1) else .inr v := by
  unfold ab_nu
  by_cases h2 : s.2.2.1 = 2
  · rw [if_pos h2, if_pos h2]
    obtain ⟨w, hw, ew⟩ := oN h2
    rw [ew, nI_clamp (by omega)]
    by_cases h3 : lo ≤ w ∧ w < n
    · rw [if_pos h3, if_pos h3, if_neg (nI_m1 (by omega))]
      refine ⟨fun e h => (by cases h), fun v h => (by cases h; rfl)⟩
    · rw [if_neg h3, if_neg h3]
      exact ⟨fun e h => h, fun v h => by cases h⟩
  · rw [if_neg h2, if_neg h2]
    exact ⟨fun e h => h, fun v h => by cases h⟩
def rp_b (q : Nat) (J L : pm_I) : Prop := (∀ r, r ≠ q → L r = J r) ∧ ∀ j, (j < 12 ∨ 18 < j) → L q j = J q j
theorem rp_b.fr {q : Nat} {J L : pm_I} (h : rp_b q J L) : rp_fr q J L :=
  ⟨fun r hr => h.1 r (by omega), fun j hj => h.2 j (by omega), fun j _ => by rw [h.1 (q + 2) (by omega)], fun j _ => ⟨by rw [h.1 (q + 3) (by omega)], by rw [h.1 (q + 4) (by omega)], by rw [h.1 (q + 6) (by omega)]⟩, fun j _ => by rw [h.1 (q + 5) (by omega)], by rw [h.1 (q + 7) (by omega)], fun j _ => by rw [h.1 (q + 8) (by omega)]⟩
section ST
variable {G : pm_G} {rr d m q n lo : Nat} {tx : Nat → Int32} {J : pm_I} {s : aQ} {hi x3 : Int32}
theorem cpE_rn {e : aE} {K : Int32 → pm_I → Prop} {x1 : Int32} (hw : cp_w rr d m) (h : cp_E J rr d e) (hk : ∀ L, cp_E L rr d e → ob_fr (cp_f rr d) J L → K 0 L) : wX2_readNumber G rr x1 hi x3 J K := by
  unfold wX2_readNumber
  rw [h.2.1]
  exact ⟨fun z => absurd z (by decide), fun _ => cpE_fail hw h hk⟩
theorem cpE_rq {e : aE} {K : pm_I → Prop} {x1 : Int32} (hx : ¬ x1 = 0) (hw : cp_w rr d m) (h : cp_E J rr d e) (hk : ∀ L, cp_E L rr d e → ob_fr (cp_f rr d) J L → K L) : wX2_require G rr x1 J K := by
  unfold wX2_require
  rw [h.2.1]
  exact ⟨fun z => absurd z.symm hx, fun _ => cpE_fail hw h hk⟩
theorem cp_rn {K : Int32 → pm_I → Prop} (hw : cp_w rr d m) (ok : ok_Q m s) (oN : ok_N s) (hl : s.2.2.2.2.2.2.2.2.2.2.length ≤ 600) (h : cp_Q J rr d m tx s) (hlo : lo < 100) (hhi : ∀ v, v ≤ 9999 → (nI v ≤ hi ↔ v < n))
    (hk1 : ∀ e, ab_nu n lo x3 s = .inl e → ∀ L, cp_E L rr d e → ob_fr (cp_f rr d) J L → K 0 L) (hk2 : ∀ v, ab_nu n lo x3 s = .inr v → ∀ L, cp_Q L rr d m tx (ab_adv tx m s) → ob_fr (cp_f rr d) J L → K (nI v) L) : wX2_readNumber G rr (nI lo) hi x3 J K := by
  have e5 : J rr 5 = s.2.2.1 := h.2.2.2.2.1
  unfold wX2_readNumber
  rw [e5]
  refine ⟨fun k2 => ?_, fun k2 => ?_⟩
  · obtain ⟨v, hv, ev⟩ := oN k2
    have e6 : J rr 6 = nI v := (h.2.2.2.2.2.1 k2).trans ev
    rw [e6]
    have cv : s.2.2.2.1.toNatClampNeg = v := by rw [ev]; exact nI_clamp (by omega)
    unfold ab_nu at hk1 hk2
    rw [if_pos k2, cv] at hk1 hk2
    refine ⟨fun z => ?_, fun z => ⟨fun z2 => ⟨fun z3 => ?_, fun z3 => ?_⟩, fun z2 => ?_⟩⟩
    · have hlt := (nI_ltI (by omega) (by omega)).mp z
      rw [if_neg (by omega)] at hk1
      exact cpQ_fail hw h hl (by decide) (hk1 _ rfl)
    · have hge : ¬ v < lo := fun h => z ((nI_ltI (by omega) (by omega)).mpr h)
      have hlt := (hhi v hv).mp z2
      rw [if_pos ⟨by omega, hlt⟩, if_neg z3] at hk2
      exact cpQ_adv hw ok h (hk2 _ rfl)
    · have hge : ¬ v < lo := fun h => z ((nI_ltI (by omega) (by omega)).mpr h)
      have hlt := (hhi v hv).mp z2
      rw [if_pos ⟨by omega, hlt⟩, if_pos z3] at hk1
      exact cpQ_fail hw h hl (by decide) (hk1 _ rfl)
    · have hlt : ¬ v < n := fun h => z2 ((hhi v hv).mpr h)
      rw [if_neg (by omega)] at hk1
      exact cpQ_fail hw h hl (by decide) (hk1 _ rfl)
  · unfold ab_nu at hk1
    rw [if_neg k2] at hk1
    exact cpQ_fail hw h hl (by decide) (hk1 _ rfl)
theorem rp_sees {K : Int32 → pm_I → Prop} (oN : ok_N s) (h : rp_Q J q m tx s) (hlo : lo < 100) (hhi : ∀ v, v ≤ 9999 → (nI v ≤ hi ↔ v < n))
    (hk1 : ∀ e, ab_nu n lo (-1) s = .inl e → ∀ L, rp_E L q e → rp_fr q J L → K 0 L) (hk2 : ∀ v, ab_nu n lo (-1) s = .inr v → K 1 (pm_up J q 18 (nI v))) : wX7_sees G q (nI lo) hi J K := by
  have rt := rp_tk h.2.2.2.1
  unfold wX7_sees
  refine ⟨fun k2 => ?_, fun k2 => ?_⟩
  · have k2' := rt.2.2.1.mp k2
    obtain ⟨v, hv, ev⟩ := oN k2'
    have e15 : J q 15 = nI v := (rt.2.2.2.1 k2').trans ev
    have cv : s.2.2.2.1.toNatClampNeg = v := by rw [ev]; exact nI_clamp (by omega)
    unfold ab_nu at hk1 hk2
    rw [if_pos k2', cv] at hk1 hk2
    unfold wX7_within
    rw [e15]
    have er : ¬ (lo ≤ v ∧ v < n) → wX7_fails G q 3 J (fun r14 I13 => ((r14) = 0 ∨ (r14) = 1) ∧ K (r14) I13) := fun hh => by
      rw [if_neg hh] at hk1
      exact rpQ_fail h (fun L hL fL => ⟨Or.inl rfl, hk1 _ rfl L hL fL⟩)
    refine ⟨fun z => ⟨fun y => absurd rfl y, fun _ => er (fun hh => ?_)⟩, fun z => ⟨fun z2 => ⟨fun y => absurd rfl y, fun _ => er (fun hh => ?_)⟩, fun z2 => ⟨fun _ M qM => ?_, fun y => absurd y (by decide)⟩⟩⟩
    · have hlt := (nI_ltI (by omega) (by omega)).mp z
      omega
    · exact Int32.not_lt.mpr ((hhi v hv).mpr hh.2) z2
    · have hge : ¬ v < lo := fun h => z ((nI_ltI (by omega) (by omega)).mpr h)
      have hlt := (hhi v hv).mp (Int32.not_lt.mp z2)
      rw [if_pos ⟨by omega, hlt⟩, if_neg (nI_m1 (by omega))] at hk2
      rw [qM, e15]
      exact hk2 v rfl
  · have k2' : ¬ s.2.2.1 = 2 := fun e => k2 (rt.2.2.1.mpr e)
    unfold ab_nu at hk1
    rw [if_neg k2'] at hk1
    exact rpQ_fail h (fun L hL fL => ⟨Or.inl rfl, hk1 _ rfl L hL fL⟩)
theorem rp_takes {K : Int32 → pm_I → Prop} (hm : m ≤ 600) (hb : ∀ k, k < m → ob_ib (tx k)) (ok : ok_Q m s) (oN : ok_N s) (h : rp_Q J q m tx s) (hlo : lo < 100) (hhi : ∀ v, v ≤ 9999 → (nI v ≤ hi ↔ v < n))
    (hk1 : ∀ e, ab_nu n lo (-1) s = .inl e → ∀ L, rp_E L q e → rp_fr q J L → K 0 L) (hk2 : ∀ v, ab_nu n lo (-1) s = .inr v → ∀ L, rp_Q L q m tx (ab_adv tx m s) → rp_b q J L → L q 18 = nI v → K 1 L) : wX7_takes G q (nI lo) hi J K := by
  unfold wX7_takes
  refine rp_sees oN h hlo hhi (fun e he L hL fL => ⟨fun z => absurd rfl z, fun _ => hk1 e he L hL fL⟩) (fun v hv => ⟨fun _ => ?_, fun z => absurd z (by decide)⟩)
  refine rpQ_adv hm hb ok (rpQ_uq h (Or.inl rfl)) (fun L hL fL => hk2 v hv L hL ⟨fun r hr => (fL.1 r hr).trans (ob_ur hr), fun j hj => (fL.2 j (by omega)).trans (ob_uq (by omega))⟩ ((fL.2 18 (by omega)).trans (ob_us _ _ _ _)))
/-! what occurs once -/
def ab_sb (i : Nat) : Nat := [1, 2, 4].getD i 0
def ab_sr (i : Nat) : Nat := [2, 0, 1].getD i 0
theorem ab_sn_c : ∀ i, i < 3 → ∀ s, s < 8 → ((nI s &&& nI (ab_sb i)) = 0 ↔ ¬ (((nI (rf_sn s)) >>> (nI (ab_sr i) &&& 31)) &&& 1) = 1) := by decide
theorem ab_sn_o : ∀ i, i < 3 → ∀ s, s < 8 → (nI s ||| nI (ab_sb i)) = nI (s ||| ab_sb i) ∧ s ||| ab_sb i < 8 ∧ nI (rf_sn s) ||| (1 <<< (nI (ab_sr i) &&& 31)) = nI (rf_sn (s ||| ab_sb i)) := by decide
def ab_see (s : aQ) (i : Nat) : aQ := (s.1, s.2.1, s.2.2.1, s.2.2.2.1, s.2.2.2.2.1 ||| ab_sb i, s.2.2.2.2.2)
def ab_once (i : Nat) (s : aQ) : Bool := decide ((nI s.2.2.2.2.1 &&& nI (ab_sb i)) = 0)
theorem cp_once {i : Nat} {K : Int32 → pm_I → Prop} (hi : i < 3) (hw : cp_w rr d m) (ok : ok_Q m s) (hl : s.2.2.2.2.2.2.2.2.2.2.length ≤ 600) (h : cp_Q J rr d m tx s)
    (hk1 : ab_once i s = false → ∀ L, cp_E L rr d (2, s.2.1) → ob_fr (cp_f rr d) J L → K 0 L) (hk2 : ab_once i s = true → ∀ L, cp_Q L rr d m tx (ab_adv tx m (ab_see s i)) → ob_fr (cp_f rr d) J L → K 1 L) : wX2_beginsOnly G rr (nI (ab_sb i)) J K := by
  have e7 : J rr 7 = nI s.2.2.2.2.1 := h.2.2.2.2.2.2.1
  have s8 := ok.2.2.2
  unfold wX2_beginsOnly
  rw [e7]
  refine ⟨fun z I1 q1 => ?_, fun z => cpQ_fail hw h hl (by decide) (hk1 (decide_eq_false z))⟩
  obtain ⟨b1, b2, _⟩ := ab_sn_o i hi _ s8
  rw [b1] at q1
  have hQ : cp_Q I1 rr d m tx (ab_see s i) := by
    obtain ⟨e1, e2, e3, e4, e5, e6, e7, e8, e9, et, eP⟩ := h
    have a : ∀ j, j ≠ 7 → I1 rr j = J rr j := fun j hj => by rw [q1, ob_uq hj]
    have c : ∀ r, r ≠ rr → I1 r = J r := fun r hr => by rw [q1, ob_ur hr]
    obtain ⟨_, hrr, hd⟩ := hw
    refine ⟨by rw [a _ (by omega)]; exact e1, by rw [a _ (by omega)]; exact e2, by rw [a _ (by omega)]; exact e3, by rw [a _ (by omega)]; exact e4, by rw [a _ (by omega)]; exact e5, by rw [a _ (by omega)]; exact e6, by rw [q1, ob_us]; rfl, by rw [a _ (by omega)]; exact e8, by rw [a _ (by omega)]; exact e9, by rw [c _ (by omega)]; exact et, ?_⟩
    unfold cl_P
    rw [c d (by omega), c (d + 1) (by omega), c (d + 2) (by omega), c (d + 3) (by omega), c (d + 4) (by omega), c (d + 5) (by omega), c (d + 5 + 1) (by omega)]
    exact eP
  refine cpQ_adv hw (s := ab_see s i) ⟨ok.1, ok.2.1, ok.2.2.1, b2⟩ hQ (fun L hL fL => hk2 (decide_eq_true z) L hL ?_)
  rw [q1] at fL
  exact (ob_fr.rf.up (Or.inl rfl)).tr fL
theorem rp_once {i : Nat} {K : Int32 → pm_I → Prop} (hi : i < 3) (hm : m ≤ 600) (hb : ∀ k, k < m → ob_ib (tx k)) (ok : ok_Q m s) (h : rp_Q J q m tx s)
    (hk1 : ab_once i s = false → ∀ L, rp_E L q (2, s.2.1) → rp_fr q J L → K 0 L) (hk2 : ab_once i s = true → ∀ L, rp_Q L q m tx (ab_adv tx m (ab_see s i)) → rp_fr q J L → (∀ j, 20 ≤ j → L q j = J q j) → K 1 L) : wX7_once G q (nI (ab_sr i)) J K := by
  have e19 : J q 19 = nI (rf_sn s.2.2.2.2.1) := h.2.2.2.2.2.2.1
  have s8 := ok.2.2.2
  have c := ab_sn_c i hi _ s8
  obtain ⟨_, b2, b3⟩ := ab_sn_o i hi _ s8
  unfold wX7_once wX7_has
  rw [e19]
  refine ⟨fun z => ⟨fun y => absurd rfl y, fun _ => ?_⟩, fun z => ⟨fun _ => ?_, fun y => absurd y (by decide)⟩⟩
  · unfold wX7_starts
    refine ⟨fun _ => rpQ_adv hm hb ok h (fun L hL fL => ⟨fun _ M qM => ?_, fun y => absurd y (by decide)⟩), fun y => absurd y (by decide)⟩
    have l19 : L q 19 = nI (rf_sn s.2.2.2.2.1) := (fL.2 19 (by omega)).trans e19
    rw [l19, b3] at qM
    refine hk2 (decide_eq_true (c.mpr z)) M ?_ (by rw [qM]; exact fL.fr.up (by omega) (by omega)) (fun j hj => by rw [qM, ob_uq (by omega)]; exact fL.2 j (by omega))
    obtain ⟨e11, e12, e13, e14, e16, e17, e19', et, eD⟩ := hL
    have a : ∀ j, j ≠ 19 → M q j = L q j := fun j hj => by rw [qM, ob_uq hj]
    have c' : ∀ r, r ≠ q → M r = L r := fun r hr => by rw [qM, ob_ur hr]
    refine ⟨by rw [a _ (by omega)]; exact e11, by rw [a _ (by omega)]; exact e12, by rw [a _ (by omega)]; exact e13, by rw [a _ (by omega), a _ (by omega)]; exact e14, by rw [a _ (by omega)]; exact e16, by rw [a _ (by omega)]; exact e17, by rw [qM, ob_us]; rfl, by rw [c' _ (by omega)]; exact et, ?_⟩
    unfold rp_D
    rw [c' (q + 2) (by omega), c' (q + 3) (by omega), c' (q + 4) (by omega), c' (q + 5) (by omega), c' (q + 6) (by omega), c' (q + 7) (by omega), c' (q + 8) (by omega)]
    exact eD
  · unfold wX7_starts
    refine ⟨fun y => absurd rfl y, fun _ => rpQ_fail h (fun L hL fL => ⟨Or.inl rfl, fun y => absurd rfl y, fun _ => hk1 (decide_eq_false (fun hh => c.mp hh z)) L hL fL⟩)⟩
end ST
