/-! ===== THE START: strings, statics, exceptions, classes: what is given of them ===== -/
theorem st_eqR {args : Array Value} {s : State} {t u : Term} {a : Nat} (h : (Cond.eq t u).before args s = true) (ht : t.eval args s none [] s = some (.ref a)) : u.eval args s none [] s = some (.ref a) := by
  cases hv : u.eval args s none [] s with
  | none => simp [Cond.before, Cond.holds, Cond.value, ht, hv] at h
  | some w =>
    simp only [Cond.before, Cond.holds, Cond.value, ht, hv] at h
    cases w <;> simp_all
theorem st_apart : ∀ i, i < 11 → ∀ j, j < 11 → i ≠ j → Int32.ofNat (pm_slen.getD i 0) ≠ Int32.ofNat (pm_slen.getD j 0) ∨ (pm_sbyt.getD i []).getD 0 0 ≠ (pm_sbyt.getD j []).getD 0 0 ∨ (pm_sbyt.getD i []).getD 1 0 ≠ (pm_sbyt.getD j []).getD 1 0 := by decide +kernel
theorem st_two : ∀ i, i < 11 → 2 ≤ pm_slen.getD i 0 := by decide +kernel
theorem st_OFv {o n d : String} {v w : Value} {t : Nat} {A : Nat → Prop} {U : State} {H : Heap} (h1 : va_OF o n d v t A U H) (h2 : va_OF o n d w t A U H) : v = w := by
  obtain ⟨cf, k, i, f, cell, a1, a2, a3, a4, a5, -⟩ := h1
  obtain ⟨cf', k', i', f', cell', b1, b2, b3, b4, b5, -⟩ := h2
  have e := Option.some.inj (a1.symm.trans b1)
  have e1 : f = f' := congrArg (fun x : ClassId × Class × Nat × Field => x.2.2.2) e
  have e2 : cell = cell' := Option.some.inj (a3.symm.trans b3)
  rw [e1, e2] at a5
  exact Option.some.inj (a5.symm.trans b5)
theorem st_Tv {ty : FieldType} {t N M : Nat} {f g : Nat → Value} {A : Nat → Prop} {U : State} {H : Heap} (h1 : va_T ty t N f A U H) (h2 : va_T ty t M g A U H) : Int32.ofNat N = Int32.ofNat M ∧ ∀ j, j < N → j < M → f j = g j := by
  obtain ⟨cell, a1, -, -, -, a5, a6, -⟩ := h1
  obtain ⟨cell', b1, -, -, -, b5, b6, -⟩ := h2
  have e2 : cell = cell' := Option.some.inj (a1.symm.trans b1)
  subst e2
  exact ⟨a5.symm.trans b5, fun j h h' => Option.some.inj ((a6 j h).symm.trans (b6 j h'))⟩
section FCU
variable {s : State} {A : Array Value}
theorem st_str1 (hgv : (Jvm.Cond.and given_1 narrow_1).before A s = true) {B : Nat → Prop} (hB : ∀ a : Nat, a < s.heap.size → ¬ B a) (i : Nat) (hi : i < 11) : ∃ q : Nat × Nat, (pm_tm i).eval A s none [] s = some (.ref q.1) ∧ va_O "java/lang/String" q.1 B s s.heap ∧ va_OF "java/lang/String" "coder" "B" (.int 0) q.1 B s s.heap ∧ va_OF "java/lang/String" "value" "[B" (.ref q.2) q.1 B s s.heap ∧ va_T .byte q.2 (pm_slen.getD i 0) (fun j => .int ((pm_sbyt.getD i []).getD j 0)) B s s.heap := by
  have g := flat_of_before _ hgv
  obtain ⟨adK, adV, h, h2⟩ := vk_Sof (args := A) (s := s) (N := 1) (tm := fun _ => pm_tm i) (len := [pm_slen.getD i 0]) (byt := [pm_sbyt.getD i []]) (A := B) (fun k hk => by
      obtain rfl : k = 0 := by omega
      exact st_l i hi) (fun k hk => g _ (st_m1 i hi)) (fun k hk => g _ (st_m2 i hi)) (fun k hk => g _ (st_m3 i hi)) (fun k hk => by
      obtain rfl : k = 0 := by omega
      exact g _ (st_m4 i hi)) (fun k hk j hj => by
      obtain rfl : k = 0 := by omega
      exact g _ (st_m5 i hi j hj)) (fun k k' hk hk' hn => absurd (show k = k' by omega) hn) hB
  exact ⟨(adK 0, adV 0), h2 0 (by omega), h.1 0 (by omega)⟩
theorem st_strs (hgv : (Jvm.Cond.and given_1 narrow_1).before A s = true) {B : Nat → Prop} (hB : ∀ a : Nat, a < s.heap.size → ¬ B a) : ∃ adK adV : Nat → Nat, vk_S 11 pm_slen pm_sbyt adK adV B s s.heap ∧ ∀ i, i < 11 → (pm_tm i).eval A s none [] s = some (.ref (adK i)) := by
  have h0 : ∀ i : Nat, ∃ q : Nat × Nat, i < 11 → (pm_tm i).eval A s none [] s = some (.ref q.1) ∧ va_O "java/lang/String" q.1 B s s.heap ∧ va_OF "java/lang/String" "coder" "B" (.int 0) q.1 B s s.heap ∧ va_OF "java/lang/String" "value" "[B" (.ref q.2) q.1 B s s.heap ∧ va_T .byte q.2 (pm_slen.getD i 0) (fun j => .int ((pm_sbyt.getD i []).getD j 0)) B s s.heap := by
    intro i
    by_cases hi : i < 11
    · obtain ⟨q, hq⟩ := st_str1 hgv hB i hi
      exact ⟨q, fun _ => hq⟩
    · exact ⟨(0, 0), fun h => absurd h hi⟩
  obtain ⟨ad, had⟩ := Classical.axiomOfChoice h0
  refine ⟨fun i => (ad i).1, fun i => (ad i).2, ⟨fun i hi => (had i hi).2, fun i j hi hj e => ?_⟩, fun i hi => (had i hi).1⟩
  by_cases hij : i = j
  · exact hij
  · exfalso
    obtain ⟨-, -, -, c1, d1⟩ := had i hi
    obtain ⟨-, -, -, c2, d2⟩ := had j hj
    have e' : (ad i).1 = (ad j).1 := e
    rw [e'] at c1
    have e3 : (ad i).2 = (ad j).2 := Value.ref.inj (st_OFv c1 c2)
    rw [e3] at d1
    obtain ⟨f1, f2⟩ := st_Tv d1 d2
    have n1 := st_two i hi
    have n2 := st_two j hj
    rcases st_apart i hi j hj hij with h | h | h
    · exact h f1
    · exact h (Value.int.inj (f2 0 (by omega) (by omega)))
    · exact h (Value.int.inj (f2 1 (by omega) (by omega)))
theorem vk_S.congr {N : Nat} {len : List Nat} {byt : List (List Int32)} {aK aV bK bV : Nat → Nat} {B : Nat → Prop} {U : State} {H : Heap} (h : vk_S N len byt aK aV B U H) (h1 : ∀ i, i < N → bK i = aK i) (h2 : ∀ i, i < N → bV i = aV i) : vk_S N len byt bK bV B U H :=
  ⟨fun i hi => by rw [h1 i hi, h2 i hi]; exact h.1 i hi, fun i j hi hj e => h.2 i j hi hj (by rw [← h1 i hi, ← h1 j hj]; exact e)⟩
theorem st_sr (hgv : (Jvm.Cond.and given_1 narrow_1).before A s = true) (hts : ∀ w ∈ lw_tbl, w.before A s = true) {adK : Nat → Nat} (hK : ∀ i, i < 11 → (pm_tm i).eval A s none [] s = some (.ref (adK i))) : ∀ q ∈ pm_sr, vk_R q.1 q.2.1 q.2.2.1 (adK q.2.2.2) s := by
  intro q hq
  have g := flat_of_before _ hgv
  obtain ⟨h1, h2⟩ := st_sr2 q hq
  refine vk_R.of (A := A) (hts _ (st_sr1 _ (List.mem_map.mpr ⟨q, hq, rfl⟩))) ?_
  rcases h2 with h2 | h2
  · rw [h2]
    exact hK _ h1
  · exact st_eqR (g _ h2) (hK _ h1)
theorem st_er (hgv : (Jvm.Cond.and given_1 narrow_1).before A s = true) (hts : ∀ w ∈ lw_tbl, w.before A s = true) : ∀ q ∈ pm_er, ∃ sa, vk_R RX6 q.1 q.2 sa s := by
  intro q hq
  have g := flat_of_before _ hgv
  obtain ⟨a, c, cA, kA, q1, q2, q3, q4, q5, q6, -⟩ := Cond.exactly_spec (args := A) (first := s) (o := none) (s := s) (idx := []) (t := Term.string RX6 q.1) (cls := "java/lang/String") (g _ (st_er2 q hq))
  exact ⟨a, vk_R.of (A := A) (hts _ (st_er1 _ (List.mem_map.mpr ⟨q, hq, rfl⟩))) q1⟩
theorem st_exc (hgv : (Jvm.Cond.and given_1 narrow_1).before A s = true) (hts : ∀ w ∈ lw_tbl, w.before A s = true) {B : Nat → Prop} (hB : ∀ a : Nat, a < s.heap.size → ¬ B a) : vx_Zq Bundle.tN "UNASSIGNED_STACK" Bundle.steD B s s.heap ∧ vx_Zq Bundle.tN "SUPPRESSED_SENTINEL" Bundle.listD B s s.heap ∧ (∀ n, 1 ≤ n → n ≤ 3 → ∀ w ∈ vx_atS RX6 (pm_ei n) (pm_en n) pm_es, ∃ A, w.before A s = true) ∧ ∀ q ∈ pm_er, ∃ sa, vk_R RX6 q.1 q.2 sa s := by
  have g := flat_of_before _ hgv
  refine ⟨vx_Zqof (hts _ st_w5) (hts _ st_w2) (g _ st_n2) hB, vx_Zqof (hts _ st_w6) (hts _ st_w2) (g _ st_n3) hB, fun n h1 h2 w hw => ⟨A, ?_⟩, st_er hgv hts⟩
  have hn : n = 1 ∨ n = 2 ∨ n = 3 := by omega
  rcases hn with rfl | rfl | rfl
  · exact hts w (st_x1 w hw)
  · exact hts w (st_x2 w hw)
  · exact hts w (st_x3 w hw)
theorem st_cst (hts : ∀ w ∈ lw_tbl, w.before A s = true) : ∀ n, 1 ≤ n → n ≤ 3 → ∃ A, (Cond.castable (pm_en n) (pm_en n)).before A s = true := by
  intro n h1 h2
  have hn : n = 1 ∨ n = 2 ∨ n = 3 := by omega
  rcases hn with rfl | rfl | rfl
  · exact ⟨A, hts _ st_c1⟩
  · exact ⟨A, hts _ st_c2⟩
  · exact ⟨A, hts _ st_c3⟩
theorem st_z1 (hgv : (Jvm.Cond.and given_1 narrow_1).before A s = true) (hts : ∀ w ∈ lw_tbl, w.before A s = true) {B : Nat → Prop} (hB : ∀ a : Nat, a < s.heap.size → ¬ B a) : va_Z "java/lang/String" "COMPACT_STRINGS" "Z" (.int 1) B s s.heap :=
  va_Zof (hts _ st_w3) (hts _ st_w0) (va_eqi (flat_of_before _ hgv _ st_n0)) hB
theorem st_z2 (hgv : (Jvm.Cond.and given_1 narrow_1).before A s = true) (hts : ∀ w ∈ lw_tbl, w.before A s = true) {B : Nat → Prop} (hB : ∀ a : Nat, a < s.heap.size → ¬ B a) : ∃ t : Nat, va_Z "jdk/internal/util/Preconditions" "SIOOBE_FORMATTER" "Ljava/util/function/BiFunction;" .null B s s.heap ∨ va_Z "jdk/internal/util/Preconditions" "SIOOBE_FORMATTER" "Ljava/util/function/BiFunction;" (.ref t) B s s.heap := by
  rcases va_Zqof (hts _ st_w4) (hts _ st_w1) (flat_of_before _ hgv _ st_n1) hB with h | ⟨t, h⟩
  · exact ⟨0, Or.inl h⟩
  · exact ⟨t, Or.inr h⟩
theorem st_kn (hts : ∀ w ∈ lw_tbl, w.before A s = true) : ∀ k : Nat, ∃ x : ClassId × (Nat → Nat), ∀ q : vw_C, vwCl[k]? = some q → u_Kn s q.1 q.2.1 q.2.2 x.1 x.2 := by
  obtain ⟨c0, i0, h0⟩ := u_known hts pm_in0 (hts _ tw_344)
  obtain ⟨c1, i1, h1⟩ := u_known hts pm_in1 (hts _ tw_159)
  obtain ⟨c2, i2, h2⟩ := u_known hts pm_in2 (hts _ tw_514)
  obtain ⟨c3, i3, h3⟩ := u_known hts pm_in3 (hts _ tw_165)
  obtain ⟨c4, i4, h4⟩ := u_known hts pm_in4 (hts _ tw_250)
  obtain ⟨c5, i5, h5⟩ := u_known hts pm_in5 (hts _ tw_243)
  obtain ⟨c6, i6, h6⟩ := u_known hts pm_in6 (hts _ tw_151)
  obtain ⟨c7, i7, h7⟩ := u_known hts pm_in7 (hts _ tw_1155)
  intro k
  match k with
  | 0 => exact ⟨(c0, i0), fun q hq => by cases hq; exact h0⟩
  | 1 => exact ⟨(c1, i1), fun q hq => by cases hq; exact h1⟩
  | 2 => exact ⟨(c2, i2), fun q hq => by cases hq; exact h2⟩
  | 3 => exact ⟨(c3, i3), fun q hq => by cases hq; exact h3⟩
  | 4 => exact ⟨(c4, i4), fun q hq => by cases hq; exact h4⟩
  | 5 => exact ⟨(c5, i5), fun q hq => by cases hq; exact h5⟩
  | 6 => exact ⟨(c6, i6), fun q hq => by cases hq; exact h6⟩
  | 7 => exact ⟨(c7, i7), fun q hq => by cases hq; exact h7⟩
  | k + 8 => exact ⟨(c0, i0), fun q hq => by simp at hq⟩
def st_tys : List FieldType := [.int, .byte, .boolean, .long, .object RX4, .object RX5]
theorem st_arr (hts : ∀ w ∈ lw_tbl, w.before A s = true) : ∀ k : Nat, ∃ c : ClassId, ∀ ty : FieldType, st_tys[k]? = some ty → ArrOfT s c ty ∧ va_RA s c ty := by
  obtain ⟨c0, k0, o0, a0, b0, d0⟩ := Cond.arrayClass_spec (hts _ tw_184)
  obtain ⟨c1, k1, o1, a1, b1, d1⟩ := Cond.arrayClass_spec (hts _ tw_183)
  obtain ⟨c2, k2, o2, a2, b2, d2⟩ := Cond.arrayClass_spec (hts _ tw_393)
  obtain ⟨c3, k3, o3, a3, b3, d3⟩ := Cond.arrayClass_spec (hts _ tw_1639)
  obtain ⟨o4, c4, k4, f4, -, a4, b4, d4⟩ := Cond.arrayOver_spec (hts _ st_w7)
  obtain ⟨o5, c5, k5, f5, -, a5, b5, d5⟩ := Cond.arrayOver_spec (hts _ st_w8)
  intro k
  match k with
  | 0 => exact ⟨c0, fun ty hq => by cases hq; exact ⟨fun n z => ⟨fun k h => (by cases h), k0, b0, o0, d0⟩, a0⟩⟩
  | 1 => exact ⟨c1, fun ty hq => by cases hq; exact ⟨fun n z => ⟨fun k h => (by cases h), k1, b1, o1, d1⟩, a1⟩⟩
  | 2 => exact ⟨c2, fun ty hq => by cases hq; exact ⟨fun n z => ⟨fun k h => (by cases h), k2, b2, o2, d2⟩, a2⟩⟩
  | 3 => exact ⟨c3, fun ty hq => by cases hq; exact ⟨fun n z => ⟨fun k h => (by cases h), k3, b3, o3, d3⟩, a3⟩⟩
  | 4 => exact ⟨c4, fun ty hq => by cases hq; exact ⟨fun n z => ⟨fun k h => (by cases h), k4, a4, o4, b4⟩, k4, o4, a4, b4, f4, d4⟩⟩
  | 5 => exact ⟨c5, fun ty hq => by cases hq; exact ⟨fun n z => ⟨fun k h => (by cases h), k5, a5, o5, b5⟩, k5, o5, a5, b5, f5, d5⟩⟩
  | k + 6 => exact ⟨c0, fun ty hq => by simp [st_tys] at hq⟩
end FCU
