/-! ===== THE START: every state that the law's frame comes through ===== -/
def pm_SSs (s U : State) : Prop := s.WarmedH U.vm ∧ s.heap.size ≤ U.heap.size ∧ ∀ q : Nat, q < s.heap.size → U.heap[q]? = s.heap[q]?
theorem pm_SSs.rf (s : State) : pm_SSs s s := ⟨State.WarmedH.refl s, Nat.le_refl _, fun _ _ => rfl⟩
theorem pm_SSs.nx {s V U : State} {locs : List Loc} (h : pm_SSs s V) (hW : V.WarmedH U.vm) (hS : va_S (fun q => s.heap.size ≤ q) V.heap U.heap locs) : pm_SSs s U :=
  ⟨State.WarmedH.trans h.1 hW, Nat.le_trans h.2.1 hS.1, fun q hq => (hS.2.1 q (Nat.lt_of_lt_of_le hq h.2.1) (Nat.not_le.mpr hq)).trans (h.2.2 q hq)⟩
theorem cast_mv {C T : String} {A A' : Array Value} {u U : State} (hvm : u.vm.Alike U.vm) (h : (Cond.castable C T).before A u = true) : (Cond.castable C T).before A' U = true := by
  simp only [Cond.before, Cond.holds, Cond.value] at h ⊢
  simp only [hvm.findClass, hvm.assignable]
  exact h
/-- words that any of the law's frames may ask for again -/
def pm_ow (w : Cond) : Bool := goodWord w || (w.faceAtom && vx_ot w)
theorem pm_ow_mv {w : Cond} {A A' : Array Value} {s U : State} (hg : pm_ow w = true) (hW : s.WarmedH U.vm) (h : w.before A s = true) : w.before A' U = true := by
  cases hw : goodWord w with
  | true => exact word_at hW (good_of_word hw) h
  | false =>
    unfold pm_ow at hg
    rw [hw, Bool.false_or, Bool.and_eq_true] at hg
    have h1 : w.before A (s.setVm U.vm) = true := Cond.faceAtom_setVm hW.alike w hg.1 h
    exact vx_ot_at (s := s.setVm U.vm) (State.WarmedH.refl (s.setVm U.vm)) rfl hg.2 h1
theorem exc_good : ∀ n, n < 4 → 1 ≤ n → (vx_atS RX6 (pm_ei n) (pm_en n) pm_es).all pm_ow = true := by decide +kernel
theorem exc_mv {n : Nat} {w : Cond} {A A' : Array Value} {s U : State} (h1 : 1 ≤ n) (hn : n ≤ 3) (hw : w ∈ vx_atS RX6 (pm_ei n) (pm_en n) pm_es) (hW : s.WarmedH U.vm) (h : w.before A s = true) : w.before A' U = true :=
  pm_ow_mv (List.all_eq_true.mp (exc_good n (by omega) h1) w hw) hW h
