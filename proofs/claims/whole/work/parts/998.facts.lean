/-! ===== THE START: what is given of it ===== -/
section FCT
variable {s : State} {A : Array Value}
theorem st_nc (hgv : (Jvm.Cond.and given_1 narrow_1).before A s = true) (n k : Nat) (h1 : 1 ≤ n) (h2 : n ≤ 3) (h3 : 1 ≤ k) (h4 : k ≤ 3) (h5 : n ≠ k) : va_Nc (pm_en n) (pm_en k) s := by
  have g := flat_of_before _ hgv
  have hn : n = 1 ∨ n = 2 ∨ n = 3 := by omega
  have hk : k = 1 ∨ k = 2 ∨ k = 3 := by omega
  rcases hn with rfl | rfl | rfl <;> rcases hk with rfl | rfl | rfl
  · exact absurd rfl h5
  · exact va_Nc.of (g _ (by decide +kernel))
  · exact va_Nc.of (g _ (by decide +kernel))
  · exact va_Nc.of (g _ (by decide +kernel))
  · exact absurd rfl h5
  · exact va_Nc.of (g _ (by decide +kernel))
  · exact va_Nc.of (g _ (by decide +kernel))
  · exact va_Nc.of (g _ (by decide +kernel))
  · exact absurd rfl h5
end FCT
