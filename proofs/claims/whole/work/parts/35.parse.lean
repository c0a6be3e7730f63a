/-! ===== one row more, at any address: the Reader that parse makes ===== -/
def pm_x (G : pm_G) (h : Nat) (k : Nat ⊕ (Nat × Nat)) : pm_G := (pm_D G, pm_ca G, (fun r => if r = pm_n G + 1 then h else pm_ad G r), pm_n G + 1, (fun r => if r = pm_n G + 1 then k else pm_kd G r), pm_b G, pm_SS G)
/-- a row holds no number of a row that isn't there -/
def pm_ck (G : pm_G) (k : Nat ⊕ (Nat × Nat)) (f : Nat → Int32) : Prop := match k with
  | .inl 6 => (f 3).toNatClampNeg ≤ pm_n G ∧ (f 4).toNatClampNeg ≤ pm_n G
  | .inl 2 => False
  | .inr (t, _) => t < 6
  | _ => True
def pm_cl (G : pm_G) (I : pm_I) : Prop := ∀ r, 1 ≤ r → r ≤ pm_n G → pm_ck G (pm_kd G r) (I r)
section PMP
variable {G : pm_G} {h : Nat} {k : Nat ⊕ (Nat × Nat)}
theorem pm_x_ad {s : Nat} (hs : s ≤ pm_n G) : pm_ad (pm_x G h k) s = pm_ad G s := if_neg (by omega)
theorem pm_x_n : pm_ad (pm_x G h k) (pm_n G + 1) = h := if_pos rfl
theorem pm_x_kd {s : Nat} (hs : s ≤ pm_n G) : pm_kd (pm_x G h k) s = pm_kd G s := if_neg (by omega)
theorem pm_x_k {r : Nat} {k' : Nat ⊕ (Nat × Nat)} (hk : pm_k G r k') : pm_k (pm_x G h k) r k' := ⟨hk.1, Nat.le_succ_of_le hk.2.1, (pm_x_kd hk.2.1).trans hk.2.2⟩
theorem pm_x_new : pm_k (pm_x G h k) (pm_n G + 1) k := ⟨by omega, Nat.le_refl _, if_pos rfl⟩
theorem pm_x_at {r : Nat} {f : Nat → Int32} {H : Heap} (hG : pm_ok G) (h1 : 1 ≤ r) (h2 : r ≤ pm_n G) (hc : pm_ck G (pm_kd G r) f) : va_at (pm_D G) vwCl (pm_ad G r, pm_c (pm_x G h k) (pm_kd G r) r f) H ↔ va_at (pm_D G) vwCl (pm_ad G r, pm_c G (pm_kd G r) r f) H := by
  have hs := hG.2.2.2 r _ ⟨h1, h2, rfl⟩
  generalize pm_kd G r = kk at hc hs
  have ha : ∀ s, s ≤ pm_n G → pm_ad (pm_x G h k) s = pm_ad G s := fun s hs => pm_x_ad hs
  unfold pm_sh at hs
  split at hs
  · simp only [pm_c, pm_fs, ha _ hs.2.1]
  · simp only [pm_c, pm_fs, ha _ hs.1.2.1, ha _ hs.2.1.2.1, ha _ hs.2.2.1.2.1, ha _ hs.2.2.2.1.2.1, ha _ hs.2.2.2.2.2.1]
  · exact absurd hc (by simp [pm_ck])
  · simp only [pm_c, pm_fs, ha _ hs.1.2.1, ha _ hs.2.2.1]
  · simp only [pm_c, pm_fs, ha _ hs.1.2.1, ha _ hs.2.1.2.1, ha _ hs.2.2.1.2.1, ha _ hs.2.2.2.2.1]
  · simp only [pm_c, pm_fs, ha _ hs.1.2.1, ha _ hs.2.1.2.1, ha _ hs.2.2.2.1]
  · have hc' : (f 3).toNatClampNeg ≤ pm_n G ∧ (f 4).toNatClampNeg ≤ pm_n G := hc
    simp only [pm_c, pm_fs, ha _ hs.1.2.1, ha _ hs.2.1.2.1, ha _ hs.2.2.1.2.1, ha _ hs.2.2.2.1.2.1, ha _ hs.2.2.2.2.1.2.1, ha _ hs.2.2.2.2.2.2.1, ha _ hc'.1, ha _ hc'.2]
  · obtain ⟨a1, a2, a3, a4, a5, a6, a7, a8, a9, a10, a11, a12, a13, a14, a15⟩ := hs
    simp only [pm_c, pm_fs, ha _ a1.2.1, ha _ a2.2.1, ha _ a3.2.1, ha _ a4.2.1, ha _ a5.2.1, ha _ a6.2.1, ha _ a7.2.1, ha _ a8.2.1, ha _ a9.2.1, ha _ a10.2.1, ha _ a11.2.1, ha _ a12.2.1, ha _ a13.2.1, ha _ a14.2.1, ha _ a15.2.1]
  · rename_i n
    have e := pm_arrq (cA := pm_ca G 4) (n := n) (f := fun j => some (pm_ad (pm_x G h k) (r + 1 + 5 * j))) (g := fun j => some (pm_ad G (r + 1 + 5 * j))) (fun i hi => by rw [ha _ (hs i hi).2.1])
    show H[pm_ad G r]? = some (vp_cell (pm_ca G 4) (n, .inr (.inr (.inr (.inr (fun j => some (pm_ad (pm_x G h k) (r + 1 + 5 * j)))))))) ↔ H[pm_ad G r]? = some (vp_cell (pm_ca G 4) (n, .inr (.inr (.inr (.inr (fun j => some (pm_ad G (r + 1 + 5 * j))))))))
    rw [e]
  · rename_i n
    have e := pm_arrq (cA := pm_ca G 5) (n := n) (f := fun j => some (pm_ad (pm_x G h k) (r + 1 + 34 * j))) (g := fun j => some (pm_ad G (r + 1 + 34 * j))) (fun i hi => by rw [ha _ (hs i hi).2.1])
    show H[pm_ad G r]? = some (vp_cell (pm_ca G 5) (n, .inr (.inr (.inr (.inr (fun j => some (pm_ad (pm_x G h k) (r + 1 + 34 * j)))))))) ↔ H[pm_ad G r]? = some (vp_cell (pm_ca G 5) (n, .inr (.inr (.inr (.inr (fun j => some (pm_ad G (r + 1 + 34 * j))))))))
    rw [e]
  · rename_i n0 n1 n2 n3 n4 n5 n6 n7 n8 n9
    cases kk with
    | inl c =>
      have hfs : ∀ ad, 8 ≤ c → pm_fs ad c r f = [] := fun ad hc8 => by
        match c, hc8 with
        | c + 8, _ => rfl
      have hc8 : 8 ≤ c := by
        match c with
        | 0 => exact absurd rfl n0
        | 1 => exact absurd rfl n1
        | 2 => exact absurd rfl n2
        | 3 => exact absurd rfl n3
        | 4 => exact absurd rfl n4
        | 5 => exact absurd rfl n5
        | 6 => exact absurd rfl n6
        | 7 => exact absurd rfl n7
        | c + 8 => omega
      show va_at (pm_D G) vwCl (pm_ad G r, .inr (c, pm_fs _ c r f)) H ↔ va_at (pm_D G) vwCl (pm_ad G r, .inr (c, pm_fs _ c r f)) H
      rw [hfs _ hc8, hfs _ hc8]
    | inr tn =>
      obtain ⟨t, n⟩ := tn
      match t with
      | 0 => exact Iff.rfl
      | 1 => exact Iff.rfl
      | 2 => exact Iff.rfl
      | 3 => exact Iff.rfl
      | 4 => exact absurd rfl (n8 n)
      | 5 => exact absurd rfl (n9 n)
      | t + 6 => have hc' : t + 6 < 6 := hc; omega
theorem pm_x_ok (hG : pm_ok G) (hb : pm_b G ≤ h) (hne : ∀ i, 1 ≤ i → i ≤ pm_n G → pm_ad G i ≠ h) (hs : pm_sh (pm_x G h k) (pm_n G + 1) k) : pm_ok (pm_x G h k) := by
  refine ⟨fun i j h1 h2 h3 h4 e => ?_, fun i h1 h2 => ?_, hG.2.2.1, fun r k' hk => ?_⟩
  · have h2' : i ≤ pm_n G + 1 := h2
    have h4' : j ≤ pm_n G + 1 := h4
    by_cases hi : i = pm_n G + 1
    · by_cases hj : j = pm_n G + 1
      · rw [hi, hj]
      · rw [hi, pm_x_n, pm_x_ad (by omega)] at e
        exact absurd e.symm (hne j h3 (by omega))
    · by_cases hj : j = pm_n G + 1
      · rw [hj, pm_x_n, pm_x_ad (by omega)] at e
        exact absurd e (hne i h1 (by omega))
      · rw [pm_x_ad (by omega), pm_x_ad (by omega)] at e
        exact hG.1 i j h1 (by omega) h3 (by omega) e
  · have h2' : i ≤ pm_n G + 1 := h2
    show pm_b G ≤ pm_ad (pm_x G h k) i
    by_cases hi : i = pm_n G + 1
    · rw [hi, pm_x_n]; exact hb
    · rw [pm_x_ad (by omega)]; exact hG.2.1 i h1 (by omega)
  · obtain ⟨h1, h2, h3⟩ := id hk
    have h2' : r ≤ pm_n G + 1 := h2
    by_cases hr : r = pm_n G + 1
    · subst hr
      have h3' : k = k' := (if_pos rfl).symm.trans h3
      subst h3'
      exact hs
    · refine pm_sh_mono (G := G) (fun r k hk => pm_x_k hk) r k' (hG.2.2.2 r k' ⟨h1, by omega, ?_⟩)
      rw [← pm_x_kd (h := h) (k := k) (by omega)]; exact h3
theorem pm_x_len {I : pm_I} {i : Nat} {x : Nat × va_E} (hx : (pm_w G I)[i]? = some x) : i < pm_n G := by
  have h9 := (List.getElem?_eq_some_iff.mp hx).1
  have : i < (List.range (pm_n G)).length := by simpa [pm_w] using h9
  simpa using this
theorem pm_x_down {I : pm_I} {H : Heap} (hG : pm_ok G) (hc : pm_cl G I) (hP : va_P (pm_D G) vwCl (pm_w (pm_x G h k) I) H) : va_P (pm_D G) vwCl (pm_w G I) H := by
  intro i x hx
  have hl := pm_x_len hx
  have hk : pm_k G (i + 1) (pm_kd G (i + 1)) := ⟨by omega, by omega, rfl⟩
  have h1 := pm_w_at (I := I) hk
  rw [Nat.add_sub_cancel, hx] at h1
  cases h1
  have h2 := pm_w_at (I := I) (pm_x_k (h := h) (k := k) hk)
  rw [Nat.add_sub_cancel, pm_x_ad (by omega)] at h2
  exact (pm_x_at hG (by omega) (by omega) (hc (i + 1) (by omega) (by omega))).mp (hP i _ h2)
theorem pm_x_up {I I' : pm_I} {H : Heap} (hG : pm_ok G) (hc : pm_cl G I) (hI : ∀ r, r ≤ pm_n G → I' r = I r) (hn : va_at (pm_D G) vwCl (h, pm_c (pm_x G h k) k (pm_n G + 1) (I' (pm_n G + 1))) H) (hP : va_P (pm_D G) vwCl (pm_w G I) H) : va_P (pm_D G) vwCl (pm_w (pm_x G h k) I') H := by
  intro i x hx
  have hl : i < pm_n G + 1 := pm_x_len hx
  by_cases hi : i = pm_n G
  · subst hi
    have h2 := pm_w_at (I := I') (pm_x_new (G := G) (h := h) (k := k))
    rw [Nat.add_sub_cancel, pm_x_n, hx] at h2
    cases h2
    exact hn
  · have hk : pm_k G (i + 1) (pm_kd G (i + 1)) := ⟨by omega, by omega, rfl⟩
    have h2 := pm_w_at (I := I') (pm_x_k (h := h) (k := k) hk)
    rw [Nat.add_sub_cancel, pm_x_ad (by omega), hx] at h2
    cases h2
    have h1 := pm_w_at (I := I) hk
    rw [Nat.add_sub_cancel] at h1
    rw [hI (i + 1) (by omega)]
    exact (pm_x_at hG (by omega) (by omega) (hc (i + 1) (by omega) (by omega))).mpr (hP i _ h1)
def pm_lv (G : pm_G) (v : Value) : Prop := ∀ r, v = .ref r → r ≤ pm_n G
theorem pm_x_tr {v : Value} (hv : pm_lv G v) : pm_tr (pm_x G h k) v = pm_tr G v := by
  cases v with
  | ref r => show Value.ref (pm_ad (pm_x G h k) r) = .ref (pm_ad G r); rw [pm_x_ad (hv r rfl)]
  | _ => rfl
theorem pm_x_trs {st : List Value} (hv : ∀ v ∈ st, pm_lv G v) : st.map (pm_tr (pm_x G h k)) = st.map (pm_tr G) := List.map_congr_left (fun v hm => pm_x_tr (hv v hm))
theorem pm_x_L {la : Array Slot} {nL : Nat} {ls : List (Option Value)} (hv : ∀ v, some v ∈ ls → pm_lv G v) (hL : pm_L G la nL ls) : pm_L (pm_x G h k) la nL ls := by
  obtain ⟨l, h1, h2⟩ := hL
  refine ⟨l, h1, fun i v hi => ?_⟩
  rw [pm_x_tr (hv v (List.mem_of_getElem? hi))]
  exact h2 i v hi
theorem pm_x_C {X : pm_X} {cc : ByteArray} {nL : Nat} {own : String} {ret : Option FieldType} {rm : Room} (hC : pm_C G X cc nL own ret rm) (hok : pm_ok (pm_x G h k)) : pm_C (pm_x G h k) X cc nL own ret rm := by
  obtain ⟨p, l, e, R, s, m, args, below, meth, c, Q⟩ := X
  obtain ⟨h1, h2, h3, h4, h5, h6, h7, h8, -⟩ := hC
  exact ⟨h1, h2, h3, h4, h5, h6, h7, h8, hok⟩
end PMP
section PMQ
variable {G : pm_G} {X : pm_X} {cc : ByteArray} {nL a b mc ms : Nat} {own : String} {ret : Option FieldType} {rm : Room} {ls : List (Option Value)} {st : List Value} {I : pm_I} {K : Option Value → pm_I → Prop} {E : Nat → pm_I → Prop}
/-- a new Reader: the row behind the last -/
theorem x_newR (pc : Nat) {index : Nat} (hC : pm_C G X cc nL own ret rm) (hI : pm_cl G I) (hlv : ∀ v, some v ∈ ls → pm_lv G v) (hsv : ∀ v ∈ st, pm_lv G v) (hcl : Cond.classLink own index RX2 ∈ lw_tbl) (hins : Cond.instantiable RX2 10 ∈ lw_tbl) (hini : Cond.initialized RX2 ∈ lw_tbl) (hab : a + 1 ≤ rm.cells ∧ b + 10 ≤ rm.slots) (hd : decode cc pc = .ok (.new index, 3))
    (k : ∀ h, pm_b G ≤ h → (∀ i, 1 ≤ i → i ≤ pm_n G → pm_ad G i ≠ h) → pm_R (pm_x G h (.inr (8, 2))) X nL (a + 1) (b + 10) (pc + 3) ls (.ref (pm_n G + 1) :: st) (pm_nw I (pm_n G + 1))) : pm_R G X nL a b pc ls st I := by
  obtain ⟨p, l, e, R, s, m, args, below, meth, c, Q⟩ := X
  obtain ⟨hx, hb, -, hml, ho, -, hT, rfl, hG⟩ := hC
  intro H locs la hP hV hL
  have hts : ∀ w ∈ u_ws RX2 TX2 10, w.before args s = true := fun w hw => hT.1.use (pm_in2 w hw) (by unfold pm_tw; rw [List.all_eq_true.mp pm_ig2 w hw]; rfl)
  have hKn := hT.2.1.1 2 _ (rfl : vwCl[2]? = some (RX2, TX2, 10))
  have hlt : ∀ i, 1 ≤ i → i ≤ pm_n G → pm_ad G i < H.size := fun i h1 h2 => (hP (i - 1) _ (pm_w_at ⟨h1, h2, rfl⟩)).lt
  refine W.newcK (h := H.size) hx hb ho (hT.1.use hcl rfl) (hT.1.use hins rfl) (hT.1.use hini rfl) (g := F0 m pc la (st.map (pm_tr G))) rfl hd hab.1 hab.2 hKn.2.1 rfl (fun H1 kC hkC e1 z1 o1 => ?_)
  have hk9 : ∀ (i : Nat) (x : Nat × va_E), (pm_w G I)[i]? = some x → H1[x.1]? = H[x.1]? := fun i x hx9 => o1 x.1 (hP i x hx9).lt
  have hn9 : va_at (pm_D G) vwCl (H.size, pm_c (pm_x G H.size (.inr (8, 2))) (.inr (8, 2)) (pm_n G + 1) (pm_nw I (pm_n G + 1) (pm_n G + 1))) H1 := by
    rw [pm_nw_own]
    exact ⟨_, rfl, (u_born tyX2 hts (fun _ h => h) hKn hkC e1 tyX2_ok).to (pf_2 _)⟩
  have hP1 : va_P (pm_D G) vwCl (pm_w (pm_x G H.size (.inr (8, 2))) (pm_nw I (pm_n G + 1))) H1 := pm_x_up hG hI (fun r hr => by unfold pm_nw; rw [if_neg (by omega)]) hn9 (hP.kept hk9)
  have hV1 : va_S (pm_A G) s.heap H1 locs := ⟨Nat.le_trans hV.1 (by omega), fun x h1 h2 => (o1 x (by have := hV.1; omega)).trans (hV.2.1 x h1 h2), hV.2.2⟩
  have kk := k H.size (Nat.le_trans hT.2.2.2 hV.1) (fun i h1 h2 e => by have := hlt i h1 h2; omega) H1 locs la hP1 hV1 (pm_x_L hlv hL)
  have e9 : (Value.ref (pm_n G + 1) :: st).map (pm_tr (pm_x G H.size (.inr (8, 2)))) = .ref H.size :: st.map (pm_tr G) := by
    rw [List.map_cons, pm_x_trs hsv]
    show Value.ref (pm_ad (pm_x G H.size (.inr (8, 2))) (pm_n G + 1)) :: _ = _
    rw [pm_x_n]
  rw [e9] at kk
  exact kk
/-- the Reader is finished -/
theorem x_finR (pc : Nat) {h : Nat} (hfd : ∀ ad, pm_fd ad 2 (I (pm_n G + 1)) = pm_fs ad 2 (pm_n G + 1) (I (pm_n G + 1))) (k : pm_R (pm_x G h (.inl 2)) X nL a b pc ls st I) : pm_R (pm_x G h (.inr (8, 2))) X nL a b pc ls st I := by
  obtain ⟨p, l, e, R, s, m, args, below, meth, c, Q⟩ := X
  intro H locs la hP hV hL
  refine k H locs la (fun i x hx => ?_) hV hL
  have hl : i < pm_n G + 1 := pm_x_len hx
  by_cases hi : i = pm_n G
  · subst hi
    have h2 := pm_w_at (I := I) (pm_x_new (G := G) (h := h) (k := .inl 2))
    rw [Nat.add_sub_cancel, hx] at h2
    cases h2
    have h3 := pm_w_at (I := I) (pm_x_new (G := G) (h := h) (k := .inr (8, 2)))
    rw [Nat.add_sub_cancel] at h3
    have h4 := hP _ _ h3
    have h5 : va_at (pm_D G) vwCl (pm_ad (pm_x G h (.inr (8, 2))) (pm_n G + 1), .inr (2, pm_fd (pm_ad (pm_x G h (.inr (8, 2)))) 2 (I (pm_n G + 1)))) H := h4
    rw [hfd] at h5
    exact h5
  · refine hP i x ?_
    rw [← hx]
    unfold pm_w
    show (List.map _ (List.range (pm_n G + 1)))[i]? = (List.map _ (List.range (pm_n G + 1)))[i]?
    rw [List.getElem?_map, List.getElem?_map, List.getElem?_range hl]
    show some (_, pm_c _ (if i + 1 = pm_n G + 1 then _ else pm_kd G (i + 1)) _ _) = some (_, pm_c _ (if i + 1 = pm_n G + 1 then _ else pm_kd G (i + 1)) _ _)
    rw [if_neg (by omega), if_neg (by omega)]
    rfl
/-- back: the Reader is forgotten -/
theorem x_retR (pc : Nat) {h : Nat} {k9 : Nat ⊕ (Nat × Nat)} {x : Int32} {ty : FieldType} (hC : pm_C G X cc nL own (some ty) rm) (hE : pm_EX G X mc ms K E) (hab : a ≤ mc ∧ b ≤ ms) (hn : narrow ty (.int x) = .int x) (hd : decode cc pc = .ok (.ireturn, 1)) (hc : pm_cl G I) (hK : K (some (.int x)) I) : pm_R (pm_x G h k9) X nL a b pc ls [.int x] I := by
  have h0 := x_iret (ls := ([] : List (Option Value))) pc hC hE hab hn hd hK
  obtain ⟨p, l, e, R, s, m, args, below, meth, c, Q⟩ := X
  intro H locs la hP hS hL
  exact h0 H locs la (pm_x_down hC.2.2.2.2.2.2.2.2 hc hP) hS (by obtain ⟨l9, h9, -⟩ := hL; exact ⟨l9, h9, fun i v hi => by simp at hi⟩)
end PMQ
