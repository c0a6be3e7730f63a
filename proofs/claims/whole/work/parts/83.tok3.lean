/-! ===== tokens (3): the reference ===== -/
def rf_sn (s : Nat) : Nat := [0, 4, 1, 5, 2, 6, 3, 7].getD s 0
def rp_t (tok val kd nm : Int32) : Prop := (kd = 0 ∧ tok = 0) ∨ (kd = 1 ∧ tok = 1) ∨ (kd = 2 ∧ tok = 2 ∧ val = nm) ∨ (kd = 3 ∧ tok = 4) ∨ (tk_sg kd = true ∧ tok = 3 ∧ val = kd)
/-- the draft, behind what is in use -/
def rp_D (I : pm_I) (q : Nat) (P : aP) : Prop := (I (q + 2) 4 = P.1 0 ∧ I (q + 2) 5 = P.1 6 ∧ I (q + 2) 6 = P.1 7 ∧ I (q + 2) 7 = P.1 8) ∧ (∀ k, k < ab_np P → I (q + 3) (8 + k) = P.2.1 k ∧ I (q + 4) (8 + k) = P.2.2.1 k) ∧ (∀ k, k < 64 → I (q + 5) (64 + k) = P.2.2.2.1 k) ∧ (∀ k, k < 8 → I (q + 6) (8 + k) = P.2.2.2.2.1 k) ∧ I (q + 7) 1 = nI P.2.2.2.2.2.length ∧ ∀ k, k < P.2.2.2.2.2.length → I (q + 8) (620 + k) = rf_en (P.2.2.2.2.2.getD k 0)
def rp_S (J : pm_I) (q m : Nat) (tx : Nat → Int32) (nx st : Nat) (kd nm : Int32) (sn : Nat) (D : aP) : Prop :=
  J q 11 = nI m ∧ J q 12 = nI st ∧ J q 13 = nI nx ∧ rp_t (J q 14) (J q 15) kd nm ∧ J q 16 = 0 ∧ J q 17 = -1 ∧ J q 19 = nI (rf_sn sn) ∧ (∀ k, k < m → J (q + 9) k = tx k) ∧ rp_D J q D
/-- the reference's place of reading alone was written -/
def rp_a (q : Nat) (J L : pm_I) : Prop := (∀ r, r ≠ q → L r = J r) ∧ ∀ j, (j < 12 ∨ 15 < j) → L q j = J q j
theorem rp_a.tr {q : Nat} {J L M : pm_I} (h : rp_a q J L) (h2 : rp_a q L M) : rp_a q J M := ⟨fun r hr => (h2.1 r hr).trans (h.1 r hr), fun j hj => (h2.2 j hj).trans (h.2 j hj)⟩
theorem rp_a.up {q j : Nat} {v : Int32} {J L : pm_I} (h : rp_a q J L) (h1 : 12 ≤ j) (h2 : j ≤ 15) : rp_a q J (pm_up L q j v) := ⟨fun r hr => by rw [ob_ur hr]; exact h.1 r hr, fun i hi => by rw [ob_uq (by omega)]; exact h.2 i hi⟩
theorem rp_a.rf {q : Nat} {J : pm_I} : rp_a q J J := ⟨fun _ _ => rfl, fun _ _ => rfl⟩
theorem by_all : ∀ i : Nat, i < 256 → ((Int32.ofInt ((i : Int) - 128) &&& 255 = 32 ↔ Int32.ofInt ((i : Int) - 128) = 32) ∧ (Int32.ofInt ((i : Int) - 128) &&& 255 = 10 ↔ Int32.ofInt ((i : Int) - 128) = 10) ∧ ¬ Int32.ofInt ((i : Int) - 128) &&& 255 = -1) ∧ (decide (97 ≤ Int32.ofInt ((i : Int) - 128) &&& 255 ∧ Int32.ofInt ((i : Int) - 128) &&& 255 ≤ 122) = tk_lt (Int32.ofInt ((i : Int) - 128)) ∧ decide (48 ≤ Int32.ofInt ((i : Int) - 128) &&& 255 ∧ Int32.ofInt ((i : Int) - 128) &&& 255 ≤ 57) = tk_dg (Int32.ofInt ((i : Int) - 128)) ∧ tk_sg (Int32.ofInt ((i : Int) - 128) &&& 255) = tk_sg (Int32.ofInt ((i : Int) - 128))) ∧ (tk_dg (Int32.ofInt ((i : Int) - 128)) = true ∨ tk_sg (Int32.ofInt ((i : Int) - 128)) = true → Int32.ofInt ((i : Int) - 128) &&& 255 = Int32.ofInt ((i : Int) - 128)) := by decide +kernel
theorem by_255 {b : Int32} (h : ob_ib b) : ((b &&& 255 = 32 ↔ b = 32) ∧ (b &&& 255 = 10 ↔ b = 10) ∧ ¬ b &&& 255 = -1) ∧ (decide (97 ≤ b &&& 255 ∧ b &&& 255 ≤ 122) = tk_lt b ∧ decide (48 ≤ b &&& 255 ∧ b &&& 255 ≤ 57) = tk_dg b ∧ tk_sg (b &&& 255) = tk_sg b) ∧ (tk_dg b = true ∨ tk_sg b = true → b &&& 255 = b) := by
  obtain ⟨h1, h2⟩ := h
  have e : Int32.ofInt (((b.toInt + 128).toNat : Int) - 128) = b := by
    rw [show (((b.toInt + 128).toNat : Int) - 128) = b.toInt by omega]
    exact Int32.ofInt_toInt b
  have := by_all (b.toInt + 128).toNat (by omega)
  rw [e] at this
  exact this
theorem rp_byte {G : pm_G} {q m k : Nat} {tx : Nat → Int32} {J : pm_I} {K : Int32 → pm_I → Prop} (hm : m ≤ 600) (hk : k ≤ m) (e11 : J q 11 = nI m) (ht : ∀ k, k < m → J (q + 9) k = tx k) (h1 : m ≤ k → K (-1) J) (h2 : k < m → K (tx k &&& 255) J) : wX7_byteAt G q (nI k) J K := by
  unfold wX7_byteAt
  rw [e11]
  refine ⟨fun z => h1 ((nI_leI (by omega) (by omega)).mp z), fun z => ?_⟩
  have hl : k < m := by
    rcases Nat.lt_or_ge k m with h | h
    · exact h
    · exact absurd (nI_le h (by omega)) z
  rw [nI_clamp (by omega), ht k hl]
  exact ⟨vp_in_nI (by omega) (by decide), h2 hl⟩
theorem rp_sgn {G : pm_G} {x : Int32} {J : pm_I} {K : Int32 → pm_I → Prop} (h : K (ob_b (tk_sg x)) J) : wX7_isSign G x J K := by
  unfold wX7_isSign
  unfold tk_sg at h
  have y : (x = 40 ∨ x = 41 ∨ x = 42 ∨ x = 43 ∨ x = 45 ∨ x = 47 ∨ x = 59) → K 1 J := fun hh => by rw [decide_eq_true hh] at h; exact h
  have n : ¬ (x = 40 ∨ x = 41 ∨ x = 42 ∨ x = 43 ∨ x = 45 ∨ x = 47 ∨ x = 59) → K 0 J := fun hh => by rw [decide_eq_false hh] at h; exact h
  refine ⟨fun e => y (by simp [e]), fun n59 => ⟨fun e => y (by simp [e]), fun n40 => ⟨fun e => y (by simp [e]), fun n41 => ⟨fun e => y (by simp [e]), fun n43 => ⟨fun e => y (by simp [e]), fun n45 => ⟨fun e => y (by simp [e]), fun n42 => ⟨fun n47 => n (by simp [n59, n40, n41, n43, n45, n42, n47]), fun e => y (by simp [e])⟩⟩⟩⟩⟩⟩⟩
def rp_S0 (J : pm_I) (q m : Nat) (tx : Nat → Int32) (nx sn : Nat) (D : aP) : Prop := J q 11 = nI m ∧ J q 13 = nI nx ∧ J q 16 = 0 ∧ J q 17 = -1 ∧ J q 19 = nI (rf_sn sn) ∧ (∀ k, k < m → J (q + 9) k = tx k) ∧ rp_D J q D
theorem rp_adv0 {G : pm_G} {q m nx sn : Nat} {tx : Nat → Int32} {D : aP} {J : pm_I} {K : pm_I → Prop} (hm : m ≤ 600) (hb : ∀ k, k < m → ob_ib (tx k)) (hn : nx ≤ m) (h : rp_S0 J q m tx nx sn D) (hk : ∀ L, rp_S L q m tx (tk_N tx m (tk_S tx m nx)) (tk_S tx m nx) (tk_K tx m (tk_S tx m nx)) (tk_V tx m (tk_S tx m nx)) sn D → rp_a q J L → K L) : wX7_advance G q J K := by
  obtain ⟨e11, e13, e16, e17, e19, et, eD⟩ := h
  have mk : ∀ L, L q 12 = nI (tk_S tx m nx) → L q 13 = nI (tk_N tx m (tk_S tx m nx)) → rp_t (L q 14) (L q 15) (tk_K tx m (tk_S tx m nx)) (tk_V tx m (tk_S tx m nx)) → rp_a q J L → K L := by
    intro L a12 a13 a14 ar
    refine hk L ⟨by rw [ar.2 11 (by omega)]; exact e11, a12, a13, a14, by rw [ar.2 16 (by omega)]; exact e16, by rw [ar.2 17 (by omega)]; exact e17, by rw [ar.2 19 (by omega)]; exact e19, fun k hk => by rw [ar.1 (q + 9) (by omega)]; exact et k hk, ?_⟩ ar
    unfold rp_D
    rw [ar.1 (q + 2) (by omega), ar.1 (q + 3) (by omega), ar.1 (q + 4) (by omega), ar.1 (q + 5) (by omega), ar.1 (q + 6) (by omega), ar.1 (q + 7) (by omega), ar.1 (q + 8) (by omega)]
    exact eD
  unfold wX7_advance
  refine cp_scan (p := tk_sp) (tx := tx) (m := m) e13 hn (fun P L e hL h1 h2 he hst => ?_) (fun P L e hL h1 h2 hp hP => ?_)
  · have hS : tk_S tx m nx = e := he
    rw [hS] at mk
    have l11 : L q 11 = nI m := by rw [hL, ob_uq (by decide)]; exact e11
    have l13 : L q 13 = nI e := by rw [hL, ob_us]
    have lt' : ∀ k, k < m → L (q + 9) k = tx k := fun k hk => by rw [hL, ob_ur (by omega)]; exact et k hk
    have la : rp_a q J L := by rw [hL]; exact rp_a.rf.up (by omega) (by omega)
    have nsp : e < m → ¬ tx e = 32 ∧ ¬ tx e = 10 := fun hl => by
      have := hst.resolve_left (by omega)
      unfold tk_sp at this
      rw [Bool.or_eq_false_iff] at this
      exact ⟨of_decide_eq_false this.1, of_decide_eq_false this.2⟩
    -- behind the blanks
    have main : ∀ I17 I18 : pm_I, I17 = pm_up L q 12 (L q 13) → I18 = pm_up I17 q 15 0 → I18 q 11 = nI m ∧ I18 q 12 = nI e ∧ I18 q 13 = nI e ∧ I18 q 15 = 0 ∧ (∀ k, k < m → I18 (q + 9) k = tx k) ∧ rp_a q J I18 := by
      intro I17 I18 q17 q18
      rw [l13] at q17
      refine ⟨by rw [q18, ob_uq (by decide), q17, ob_uq (by decide)]; exact l11, by rw [q18, ob_uq (by decide), q17, ob_us], by rw [q18, ob_uq (by decide), q17, ob_uq (by decide)]; exact l13, by rw [q18, ob_us], fun k hk => by rw [q18, ob_ur (by omega), q17, ob_ur (by omega)]; exact lt' k hk, by rw [q18, q17]; exact (la.up (by omega) (by omega)).up (by omega) (by omega)⟩
    rw [l13]
    refine rp_byte hm h2 l11 lt' (fun hge => ⟨fun z => absurd z (by decide), fun _ => ?_⟩) (fun hl => ⟨fun z => absurd ((by_255 (hb e hl)).1.1.mp z) (nsp hl).1, fun _ => ?_⟩)
    · rw [l13]
      refine rp_byte hm h2 l11 lt' (fun _ => ⟨fun _ I17 q17 I18 q18 => ?_, fun z => absurd z (by decide)⟩) (fun hl => absurd hl (by omega))
      obtain ⟨m11, m12, m13, m15, mt, ma⟩ := main I17 I18 q17 q18
      rw [m13]
      refine rp_byte hm h2 m11 mt (fun _ => ⟨fun z => absurd rfl z, fun _ I1 q1 => ?_⟩) (fun hl => absurd hl (by omega))
      rw [q1]
      exact mk _ (by rw [ob_uq (by decide)]; exact m12) (by rw [ob_uq (by decide), m13, show tk_N tx m e = e from if_pos hge]) (Or.inl ⟨if_pos hge, by rw [ob_us]⟩) (ma.up (by omega) (by omega))
    · rw [l13]
      refine rp_byte hm h2 l11 lt' (fun hge => absurd hge (by omega)) (fun _ => ⟨fun _ I17 q17 I18 q18 => ?_, fun z => absurd ((by_255 (hb e hl)).1.2.1.mp z) (nsp hl).2⟩)
      obtain ⟨m11, m12, m13, m15, mt, ma⟩ := main I17 I18 q17 q18
      have bb := by_255 (hb e hl)
      rw [m13]
      refine rp_byte hm h2 m11 mt (fun hge => absurd hge (by omega)) (fun _ => ⟨fun _ => ?_, fun z => absurd z bb.1.2.2⟩)
      refine rf_within ?_
      rw [bb.2.1.1]
      refine ⟨fun z => rf_within ?_, fun z => ?_⟩
      · have hlt := ob_b0.mp z
        rw [bb.2.1.2.1]
        refine ⟨fun z2 I25 q25 I26 q26 => rp_sgn ?_, fun z2 => ?_⟩
        · have hdg := ob_b0.mp z2
          have hN : tk_N tx m e = e + 1 := by unfold tk_N; rw [if_neg (by omega), if_neg (tk_f hlt), if_neg (tk_f hdg)]
          have hK : tk_K tx m e = if tk_sg (tx e) = true then tx e else 3 := by unfold tk_K; rw [if_neg (by omega), if_neg (tk_f hlt), if_neg (tk_f hdg)]
          rw [m13, nI_1] at q25
          rw [bb.2.1.2.2]
          have a : rp_a q J I26 := by rw [q26, q25]; exact (ma.up (by omega) (by omega)).up (by omega) (by omega)
          have a12 : I26 q 12 = nI e := by rw [q26, ob_uq (by decide), q25, ob_uq (by decide)]; exact m12
          have a13 : I26 q 13 = nI (tk_N tx m e) := by rw [q26, ob_uq (by decide), q25, ob_us, hN]
          refine ⟨fun z3 I1 q1 => ?_, fun z3 I1 q1 => ?_⟩
          · rw [q1]
            refine mk _ (by rw [ob_uq (by decide)]; exact a12) (by rw [ob_uq (by decide)]; exact a13) (Or.inr (Or.inr (Or.inr (Or.inl ⟨?_, by rw [ob_us]⟩)))) (a.up (by omega) (by omega))
            rw [hK, if_neg (tk_f (ob_b0.mp z3))]
          · have sg := ob_b1.mp z3
            rw [q1]
            refine mk _ (by rw [ob_uq (by decide)]; exact a12) (by rw [ob_uq (by decide)]; exact a13) (Or.inr (Or.inr (Or.inr (Or.inr ⟨?_, by rw [ob_us], ?_⟩)))) (a.up (by omega) (by omega))
            · rw [hK, if_pos sg]; exact sg
            · rw [hK, if_pos sg, ob_uq (by decide), q26, ob_us]; exact bb.2.2 (Or.inr sg)
        · have hdg := ob_b1.mp z2
          have hN : tk_N tx m e = tk_e tk_dg tx (m - e) e := by unfold tk_N; rw [if_neg (by omega), if_neg (tk_f hlt), if_pos hdg]
          have hK : tk_K tx m e = if tk_N tx m e - e ≤ 4 then 2 else 3 := by unfold tk_K; rw [if_neg (by omega), if_neg (tk_f hlt), if_pos hdg]
          refine ob_lp1 (fun i M => e + i ≤ m ∧ M q 11 = nI m ∧ M q 12 = nI e ∧ M q 13 = nI (e + i) ∧ (∀ k, k < m → M (q + 9) k = tx k) ∧ rp_a q J M ∧ tk_e tk_dg tx (m - e) e = tk_e tk_dg tx (m - (e + i)) (e + i) ∧ ∃ a, tk_V tx m e = tk_v tx (m - (e + i)) (e + i) a ∧ (i ≤ 4 → M q 15 = a)) (m - e) ⟨by omega, m11, m12, m13, mt, ma, rfl, 0, rfl, fun _ => m15⟩ ?_
          intro Q i M hi hI hQ
          obtain ⟨hmi, c11, c12, c13, ct, ca, ce, a, cv, c15⟩ := hI
          rw [c13]
          have stop : (m ≤ e + i ∨ tk_dg (tx (e + i)) = false) → ((((M q 13) - (M q 12)) ≤ 4 → (∀ I37 : pm_I, I37 = pm_up M q 14 (2) → K I37)) ∧ (¬ ((M q 13) - (M q 12)) ≤ 4 → (∀ I38 : pm_I, I38 = pm_up M q 14 (4) → K I38))) := by
            intro hst2
            have hend : tk_N tx m e = e + i := hN.trans (ce.trans (tk_e_f hst2))
            have hval : tk_V tx m e = a := cv.trans (tk_v_f hst2)
            rw [c13, c12, pk_sub (by omega), show e + i - e = i by omega]
            refine ⟨fun y I1 q1 => ?_, fun y I1 q1 => ?_⟩
            · have y' := (nI_leI (b := 4) (by omega) (by omega)).mp y
              rw [q1]
              refine mk _ (by rw [ob_uq (by decide)]; exact c12) (by rw [ob_uq (by decide), hend]; exact c13) (Or.inr (Or.inr (Or.inl ⟨?_, by rw [ob_us], ?_⟩))) (ca.up (by omega) (by omega))
              · rw [hK, hend, if_pos (by omega)]
              · rw [ob_uq (by decide), hval]; exact c15 y'
            · have y' : ¬ i ≤ 4 := fun hh => y (nI_le (b := 4) hh (by decide))
              rw [q1]
              refine mk _ (by rw [ob_uq (by decide)]; exact c12) (by rw [ob_uq (by decide), hend]; exact c13) (Or.inr (Or.inr (Or.inr (Or.inl ⟨?_, by rw [ob_us]⟩)))) (ca.up (by omega) (by omega))
              rw [hK, hend, if_neg (by omega)]
          refine rp_byte hm hmi c11 ct (fun hge => rf_within ⟨fun _ => stop (Or.inl hge), fun y => absurd (by decide) y⟩) (fun hl2 => rf_within ?_)
          have bb2 := by_255 (hb (e + i) hl2)
          rw [bb2.2.1.2.1]
          refine ⟨fun y => stop (Or.inr (ob_b0.mp y)), fun y => ?_⟩
          have hd2 := ob_b1.mp y
          have next : ∀ (M1 M2 : pm_I) (v : Int32), M1 = pm_up M q 15 v → M2 = pm_up M1 q 13 (M1 q 13 + 1) → (i + 1 ≤ 4 → v = a * 10 + tx (e + i) - 48) → Q M2 := by
            intro M1 M2 v q1 q2 hv
            have b13 : M1 q 13 = nI (e + i) := by rw [q1, ob_uq (by decide)]; exact c13
            rw [b13, nI_1] at q2
            refine hQ M2 (by omega) ⟨by omega, by rw [q2, ob_uq (by decide), q1, ob_uq (by decide)]; exact c11, by rw [q2, ob_uq (by decide), q1, ob_uq (by decide)]; exact c12, by rw [q2, ob_us]; rfl, fun k hk => by rw [q2, ob_ur (by omega), q1, ob_ur (by omega)]; exact ct k hk, by rw [q2, q1]; exact (ca.up (by omega) (by omega)).up (by omega) (by omega), ce.trans (tk_e_t hl2 hd2), a * 10 + tx (e + i) - 48, cv.trans (tk_v_t hl2 hd2), fun h4 => by rw [q2, ob_uq (by decide), q1, ob_us]; exact hv h4⟩
          rw [c13, c12, pk_sub (by omega), show e + i - e = i by omega]
          refine ⟨fun y4 I39 q39 I40 q40 => next I39 I40 _ q39 q40 (fun h4 => ?_), fun y4 => ?_⟩
          · have := (nI_leI (a := 4) (by omega) (by omega)).mp y4
            omega
          · have y4' : ¬ 4 ≤ i := fun hh => y4 (nI_le (a := 4) hh (by omega))
            refine rp_byte hm hmi c11 ct (fun hge => absurd hge (by omega)) (fun _ I43 q43 I44 q44 => next I43 I44 _ q43 q44 (fun _ => ?_))
            rw [c15 (by omega), bb2.2.2 (Or.inl hd2), Int32.mul_comm]
      · have hlt := ob_b1.mp z
        have hN : tk_N tx m e = tk_e tk_lt tx (m - e) e := by unfold tk_N; rw [if_neg (by omega), if_pos hlt]
        have hK : tk_K tx m e = if tk_N tx m e - e ≤ 8 then 1 else 3 := by unfold tk_K; rw [if_neg (by omega), if_pos hlt]
        refine cp_scan (p := tk_lt) (tx := tx) (m := m) m13 h2 (fun Q M e2 hM g1 g2 ge gst => ?_) (fun Q M e2 hM g1 g2 gp gP => ?_)
        · have c11 : M q 11 = nI m := by rw [hM, ob_uq (by decide)]; exact m11
          have c12 : M q 12 = nI e := by rw [hM, ob_uq (by decide)]; exact m12
          have c13 : M q 13 = nI e2 := by rw [hM, ob_us]
          have ct : ∀ k, k < m → M (q + 9) k = tx k := fun k hk => by rw [hM, ob_ur (by omega)]; exact mt k hk
          have ca : rp_a q J M := by rw [hM]; exact ma.up (by omega) (by omega)
          have hend : tk_N tx m e = e2 := hN.trans ge
          have stop : ((((M q 13) - (M q 12)) ≤ 8 → (∀ I51 : pm_I, I51 = pm_up M q 14 (1) → K I51)) ∧ (¬ ((M q 13) - (M q 12)) ≤ 8 → (∀ I52 : pm_I, I52 = pm_up M q 14 (4) → K I52))) := by
            rw [c13, c12, pk_sub g1]
            refine ⟨fun y I1 q1 => ?_, fun y I1 q1 => ?_⟩
            · have y' := (nI_leI (b := 8) (by omega) (by omega)).mp y
              rw [q1]
              refine mk _ (by rw [ob_uq (by decide)]; exact c12) (by rw [ob_uq (by decide), hend]; exact c13) (Or.inr (Or.inl ⟨?_, by rw [ob_us]⟩)) (ca.up (by omega) (by omega))
              rw [hK, hend, if_pos (by omega)]
            · have y' : ¬ e2 - e ≤ 8 := fun hh => y (nI_le (b := 8) hh (by decide))
              rw [q1]
              refine mk _ (by rw [ob_uq (by decide)]; exact c12) (by rw [ob_uq (by decide), hend]; exact c13) (Or.inr (Or.inr (Or.inr (Or.inl ⟨?_, by rw [ob_us]⟩)))) (ca.up (by omega) (by omega))
              rw [hK, hend, if_neg (by omega)]
          have c13' := c13
          rw [c13]
          refine rp_byte hm g2 c11 ct (fun hge => rf_within ⟨fun _ => stop, fun y => absurd (by decide) y⟩) (fun hl2 => rf_within ?_)
          rw [(by_255 (hb e2 hl2)).2.1.1, gst.resolve_left (by omega)]
          exact ⟨fun _ => stop, fun y => absurd rfl y⟩
        · have c11 : M q 11 = nI m := by rw [hM, ob_uq (by decide)]; exact m11
          have c13 : M q 13 = nI e2 := by rw [hM, ob_us]
          have ct : ∀ k, k < m → M (q + 9) k = tx k := fun k hk => by rw [hM, ob_ur (by omega)]; exact mt k hk
          rw [c13]
          refine rp_byte hm (by omega) c11 ct (fun hge => absurd hge (by omega)) (fun hl2 => rf_within ?_)
          rw [(by_255 (hb e2 hl2)).2.1.1, gp]
          refine ⟨fun y => absurd y (by decide), fun _ I1 q1 => ?_⟩
          rw [c13, nI_1, hM, ob_uu] at q1
          rw [q1]; exact gP
  · have l11 : L q 11 = nI m := by rw [hL, ob_uq (by decide)]; exact e11
    have l13 : L q 13 = nI e := by rw [hL, ob_us]
    have lt' : ∀ k, k < m → L (q + 9) k = tx k := fun k hk => by rw [hL, ob_ur (by omega)]; exact et k hk
    have nxt : ∀ I1 : pm_I, I1 = pm_up L q 13 (L q 13 + 1) → P I1 := fun I1 q1 => by
      rw [l13, nI_1, hL, ob_uu] at q1
      rw [q1]; exact hP
    rw [l13]
    refine rp_byte hm (by omega) l11 lt' (fun hge => absurd hge (by omega)) (fun hl => ⟨fun z I1 q1 => nxt I1 q1, fun z => ?_⟩)
    rw [l13]
    refine rp_byte hm (by omega) l11 lt' (fun hge => absurd hge (by omega)) (fun _ => ⟨fun z2 => ?_, fun z2 I1 q1 => nxt I1 q1⟩)
    unfold tk_sp at hp
    have bb := by_255 (hb e hl)
    rw [decide_eq_false (fun hh => z (bb.1.1.mpr hh)), decide_eq_false (fun hh => z2 (bb.1.2.1.mpr hh))] at hp
    exact absurd hp (by decide)
theorem rp_adv {G : pm_G} {q m nx st sn : Nat} {tx : Nat → Int32} {kd nm : Int32} {D : aP} {J : pm_I} {K : pm_I → Prop} (hm : m ≤ 600) (hb : ∀ k, k < m → ob_ib (tx k)) (hn : nx ≤ m) (h : rp_S J q m tx nx st kd nm sn D) (hk : ∀ L, rp_S L q m tx (tk_N tx m (tk_S tx m nx)) (tk_S tx m nx) (tk_K tx m (tk_S tx m nx)) (tk_V tx m (tk_S tx m nx)) sn D → rp_a q J L → K L) : wX7_advance G q J K := rp_adv0 hm hb hn ⟨h.1, h.2.2.1, h.2.2.2.2.1, h.2.2.2.2.2.1, h.2.2.2.2.2.2.1, h.2.2.2.2.2.2.2.1, h.2.2.2.2.2.2.2.2⟩ hk
