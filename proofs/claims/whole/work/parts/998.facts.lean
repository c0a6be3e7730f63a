/-! ===== THE START: what is given of it ===== -/
section FCT
variable {s : State} {A : Array Value}
theorem st_nc (hgv : (Jvm.Cond.and given_1 narrow_1).before A s = true) (n k : Nat) (h1 : 1 ≤ n) (h2 : n ≤ 3) (h3 : 1 ≤ k) (h4 : k ≤ 3) (h5 : n ≠ k) : va_Nc (pm_en n) (pm_en k) s := by
  have g := flat_of_before _ hgv
  have hn : n = 1 ∨ n = 2 ∨ n = 3 := by omega
  have hk : k = 1 ∨ k = 2 ∨ k = 3 := by omega
  rcases hn with rfl | rfl | rfl <;> rcases hk with rfl | rfl | rfl
  · exact absurd rfl h5
  · exact va_Nc.of (g _ (by decide +kernel))
  · exact va_Nc.of (g _ (by decide +kernel))
  · exact va_Nc.of (g _ (by decide +kernel))
  · exact absurd rfl h5
  · exact va_Nc.of (g _ (by decide +kernel))
  · exact va_Nc.of (g _ (by decide +kernel))
  · exact va_Nc.of (g _ (by decide +kernel))
  · exact absurd rfl h5
def pm_tm (i : Nat) : Term := Term.string RX2 (([47, 56, 61, 66, 81, 93, 133, 135, 137, 139, 141] : List Nat).getD i 0)
theorem st_m1 : ∀ i, i < 11 → Cond.exactly (pm_tm i) "java/lang/String" ∈ flatC (Jvm.Cond.and given_1 narrow_1) := by decide +kernel
theorem st_m2 : ∀ i, i < 11 → Cond.eq (.field (pm_tm i) "java/lang/String" "coder" "B") (.int 0) ∈ flatC (Jvm.Cond.and given_1 narrow_1) := by decide +kernel
theorem st_m3 : ∀ i, i < 11 → Cond.arrayOf (.field (pm_tm i) "java/lang/String" "value" "[B") .byte ∈ flatC (Jvm.Cond.and given_1 narrow_1) := by decide +kernel
theorem st_m4 : ∀ i, i < 11 → Cond.eq (.length (.field (pm_tm i) "java/lang/String" "value" "[B")) (.int (Int32.ofNat (pm_slen.getD i 0))) ∈ flatC (Jvm.Cond.and given_1 narrow_1) := by decide +kernel
theorem st_m5 : ∀ i, i < 11 → ∀ j, j < pm_slen.getD i 0 → Cond.eq (.elem (.field (pm_tm i) "java/lang/String" "value" "[B") (.int (Int32.ofNat j))) (.int ((pm_sbyt.getD i []).getD j 0)) ∈ flatC (Jvm.Cond.and given_1 narrow_1) := by decide +kernel
theorem st_l : ∀ i, i < 11 → pm_slen.getD i 0 < 2 ^ 31 := by decide
end FCT
