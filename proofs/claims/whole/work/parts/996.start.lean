/-! ===== THE START: every state that the law's frame comes through ===== -/
def pm_SSs (s U : State) : Prop := s.WarmedH U.vm ∧ s.heap.size ≤ U.heap.size ∧ ∀ q : Nat, q < s.heap.size → U.heap[q]? = s.heap[q]?
theorem pm_SSs.rf (s : State) : pm_SSs s s := ⟨State.WarmedH.refl s, Nat.le_refl _, fun _ _ => rfl⟩
theorem pm_SSs.nx {s V U : State} {locs : List Loc} (h : pm_SSs s V) (hW : V.WarmedH U.vm) (hS : va_S (fun q => s.heap.size ≤ q) V.heap U.heap locs) : pm_SSs s U :=
  ⟨State.WarmedH.trans h.1 hW, Nat.le_trans h.2.1 hS.1, fun q hq => (hS.2.1 q (Nat.lt_of_lt_of_le hq h.2.1) (Nat.not_le.mpr hq)).trans (h.2.2 q hq)⟩
theorem cast_mv {C T : String} {A A' : Array Value} {u U : State} (hvm : u.vm.Alike U.vm) (h : (Cond.castable C T).before A u = true) : (Cond.castable C T).before A' U = true := by
  simp only [Cond.before, Cond.holds, Cond.value] at h ⊢
  simp only [hvm.findClass, hvm.assignable]
  exact h
