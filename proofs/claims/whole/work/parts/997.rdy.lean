/-! ===== THE START: what holds of the start holds of every state behind it ===== -/
section RDY
variable {G : pm_G} {s : State}
theorem rdy_str (hSS : pm_SS G = pm_SSs s) (h : vk_S 11 pm_slen pm_sbyt (fun i => pm_ad G (1000000 + i)) (fun i => pm_ad G (2000000 + i)) (pm_A G) s s.heap ∧ va_Z "java/lang/String" "COMPACT_STRINGS" "Z" (.int 1) (pm_A G) s s.heap ∧ (va_Z "jdk/internal/util/Preconditions" "SIOOBE_FORMATTER" "Ljava/util/function/BiFunction;" .null (pm_A G) s s.heap ∨ va_Z "jdk/internal/util/Preconditions" "SIOOBE_FORMATTER" "Ljava/util/function/BiFunction;" (.ref (pm_ad G 3000000)) (pm_A G) s s.heap) ∧ ∀ q ∈ pm_sr, vk_R q.1 q.2.1 q.2.2.1 (pm_ad G (1000000 + q.2.2.2)) s) : pm_str G := by
  intro U hU
  rw [hSS] at hU
  obtain ⟨hW, hz, hq⟩ := hU
  have k : ∀ a : Nat, a < s.heap.size → ¬ pm_A G a → U.heap[a]? = s.heap[a]? := fun a ha _ => hq a ha
  exact ⟨(vk_S.moved hW.alike h.1).kept k, (va_Z.moved hW.alike h.2.1).kept k, h.2.2.1.elim (fun z => Or.inl ((va_Z.moved hW.alike z).kept k)) (fun z => Or.inr ((va_Z.moved hW.alike z).kept k)), fun q hq' => vk_R.warm hW (h.2.2.2 q hq')⟩
theorem rdy_exc (hSS : pm_SS G = pm_SSs s) (h : vx_Zq Bundle.tN "UNASSIGNED_STACK" Bundle.steD (pm_A G) s s.heap ∧ vx_Zq Bundle.tN "SUPPRESSED_SENTINEL" Bundle.listD (pm_A G) s s.heap ∧ (∀ n, 1 ≤ n → n ≤ 3 → ∀ w ∈ vx_atS RX6 (pm_ei n) (pm_en n) pm_es, ∃ A, w.before A s = true) ∧ ∀ q ∈ pm_er, ∃ sa, vk_R RX6 q.1 q.2 sa s) : pm_exc G := by
  intro U hU
  rw [hSS] at hU
  obtain ⟨hW, hz, hq⟩ := hU
  have k : ∀ a : Nat, a < s.heap.size → ¬ pm_A G a → U.heap[a]? = s.heap[a]? := fun a ha _ => hq a ha
  refine ⟨(vx_Zq.moved hW.alike h.1).kept k, (vx_Zq.moved hW.alike h.2.1).kept k, fun n h1 h3 w hw => ?_, fun q hq' => ?_⟩
  · obtain ⟨A, hA⟩ := h.2.2.1 n h1 h3 w hw
    exact exc_mv h1 h3 hw hW hA
  · obtain ⟨sa, hsa⟩ := h.2.2.2 q hq'
    exact ⟨sa, vk_R.warm hW hsa⟩
theorem rdy_nc (hSS : pm_SS G = pm_SSs s) (h : (∀ n k, 1 ≤ n → n ≤ 3 → 1 ≤ k → k ≤ 3 → n ≠ k → va_Nc (pm_en n) (pm_en k) s) ∧ ∀ n, 1 ≤ n → n ≤ 3 → ∃ A, (Cond.castable (pm_en n) (pm_en n)).before A s = true) : pm_nc G := by
  intro U hU
  rw [hSS] at hU
  obtain ⟨hW, hz, hq⟩ := hU
  refine ⟨fun n k h1 h2 h3 h4 h5 => va_Nc.moved hW.alike (h.1 n k h1 h2 h3 h4 h5), fun n h1 h2 => ?_⟩
  obtain ⟨A, hA⟩ := h.2 n h1 h2
  exact cast_mv hW.alike hA
theorem rdy_mk (hSS : pm_SS G = pm_SSs s) (h : va_AO RX4 s ∧ va_AO RX5 s) : pm_mk G := by
  intro U hU
  rw [hSS] at hU
  exact ⟨va_AO.moved hU.1.alike h.1, va_AO.moved hU.1.alike h.2⟩
/-- at the first stage there are no rows -/
theorem rdy_ok (hSS : pm_SS G = pm_SSs s) (hb : pm_b G = s.heap.size) : pm_ok (pm_st G 0 []) := by
  refine ⟨fun i j h1 h2 => absurd h1 (by have : i ≤ 0 := h2; omega), fun i h1 h2 => absurd h1 (by have : i ≤ 0 := h2; omega), fun V U locs hV hW hS => ?_, fun r k h => absurd h.1 (by have : r ≤ 0 := h.2.1; omega)⟩
  have hV' : pm_SS G V := hV
  show pm_SS G U
  rw [hSS] at hV' ⊢
  refine hV'.nx (locs := locs) hW ?_
  have hS' : va_S (pm_A G) V.heap U.heap locs := hS
  unfold pm_A at hS'
  rw [hb] at hS'
  exact hS'
end RDY
