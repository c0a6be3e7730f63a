/-! ===== THE START: the world that the law begins with ===== -/
def st_ad (z b t : Nat) (aK aV : Nat → Nat) (r : Nat) : Nat := if r ≤ 515 then z + r - 1 else if r = 4000000 then b else if r = 3000000 then t else if 2000000 ≤ r then aV (r - 2000000) else aK (r - 1000000)
theorem st_ad_1 (z b t : Nat) (aK aV : Nat → Nat) : (∀ r, 1 ≤ r → r ≤ 515 → st_ad z b t aK aV r = z + r - 1) ∧ st_ad z b t aK aV 4000000 = b ∧ st_ad z b t aK aV 3000000 = t ∧ (∀ i, i < 11 → st_ad z b t aK aV (1000000 + i) = aK i) ∧ ∀ i, i < 11 → st_ad z b t aK aV (2000000 + i) = aV i := by
  refine ⟨fun r h1 h2 => ?_, ?_, ?_, fun i hi => ?_, fun i hi => ?_⟩
  · unfold st_ad
    rw [if_pos h2]
  · unfold st_ad
    rw [if_neg (by omega), if_pos rfl]
  · unfold st_ad
    rw [if_neg (by omega), if_neg (by omega), if_pos rfl]
  · unfold st_ad
    rw [if_neg (by omega), if_neg (by omega), if_neg (by omega), if_neg (by omega), Nat.add_sub_cancel_left]
  · unfold st_ad
    rw [if_neg (by omega), if_neg (by omega), if_neg (by omega), if_pos (by omega), Nat.add_sub_cancel_left]
theorem st_G {s : State} {A : Array Value} {b : Nat} (hgv : (Jvm.Cond.and given_1 narrow_1).before A s = true) (hts : ∀ w ∈ lw_tbl, w.before A s = true) : ∃ G : pm_G, pm_lin G 515 ∧ pm_b G = s.heap.size ∧ pm_kd G = k9 ∧ pm_n G = 515 ∧ pm_SS G = pm_SSs s ∧ va_K (pm_D G) vwCl (pm_ty G) s ∧ pm_ad G 4000000 = b ∧ pm_str G := by
  have hB : ∀ a : Nat, a < s.heap.size → ¬ (fun q : Nat => s.heap.size ≤ q) a := fun a h => Nat.not_le.mpr h
  obtain ⟨adK, adV, hS, hE⟩ := st_strs hgv hB
  obtain ⟨t, hz⟩ := st_z2 hgv hts hB
  obtain ⟨x, hx⟩ := Classical.axiomOfChoice (st_kn hts)
  obtain ⟨ca, hca⟩ := Classical.axiomOfChoice (st_arr hts)
  obtain ⟨h1, h2, h3, hK, hV⟩ := st_ad_1 s.heap.size b t adK adV
  generalize st_ad s.heap.size b t adK adV = ad at h1 h2 h3 hK hV
  refine ⟨((fun k => (x k).1, fun k => (x k).2), ca, ad, 515, k9, s.heap.size, pm_SSs s), h1, rfl, rfl, rfl, rfl, ⟨fun c q hq => hx c q hq, fun k q hq => ?_⟩, h2, rdy_str rfl ⟨vk_S.congr hS hK hV, st_z1 hgv hts hB, hz.elim Or.inl (fun z => Or.inr ?_), fun q hq => ?_⟩⟩
  · match k, hq with
    | 0, hq => cases hq; exact hca 0 _ rfl
    | 1, hq => cases hq; exact hca 1 _ rfl
    | 2, hq => cases hq; exact hca 2 _ rfl
    | 3, hq => cases hq; exact hca 3 _ rfl
    | 4, hq => cases hq; exact hca 4 _ rfl
    | 5, hq => cases hq; exact hca 5 _ rfl
    | k + 6, hq => simp [pm_ty] at hq
  · show va_Z "jdk/internal/util/Preconditions" "SIOOBE_FORMATTER" "Ljava/util/function/BiFunction;" (.ref (ad 3000000)) _ s s.heap
    rw [h3]
    exact z
  · show vk_R q.1 q.2.1 q.2.2.1 (ad (1000000 + q.2.2.2)) s
    rw [hK _ (st_sr2 q hq).1]
    exact st_sr hgv hts hE q hq
/-- THE LAW, from its entry -/
theorem whole_start {p : Program} {e : Env} {s : State} {m : MethodId} {below : List Frame} {meth : Method} {c : Code} (l : Launch) (hflags : l.flags = flags0) {b L : Nat} {xs : Nat → Int32} (hL : L ≤ 3072) (C0 : lw_At p s m meth c b L xs) : W p l e room_1 s m #[Value.ref b] below meth c s.heap [] 0 0 (lw_Z below #[Value.ref b] s) (entryFrame m ([Value.ref b] : List Value).toArray 7) := by
  obtain ⟨hx, hb, hr, hml, hown, hts, hX, hbl, hlocks, hgv⟩ := id C0
  obtain ⟨G, g1, g2, g3, g4, g5, g6, g7, g8⟩ := st_G (b := b) hgv hts
  have hB : ∀ a : Nat, a < s.heap.size → ¬ pm_A G a := fun a h z => by
    have z' : pm_b G ≤ a := z
    rw [g2] at z'
    omega
  have hok : pm_ok (pm_st G 0 []) := rdy_ok g5 g2
  have hSS : pm_SS G s := by rw [g5]; exact pm_SSs.rf s
  have hTb : pm_Tb (pm_st G 0 []) s := ⟨fun w hw ht => pm_move ht (State.WarmedH.refl s) (hts w hw), g6, hSS, Nat.le_of_eq g2⟩
  have hC0 : pm_C (pm_st G 0 []) (pm_XL p l e s m b below meth c) cL_law 7 RL (some .boolean) room_1 := ⟨hx, hb, hr, hml, hown, hlocks, hTb, rfl, hok⟩
  have hfl : l.stackTraces = false := by
    unfold Launch.stackTraces
    rw [hflags]
    decide +kernel
  have hscr : pm_scr G (pm_XL p l e s m b below meth c) L xs := by
    unfold pm_scr
    rw [g7, g2]
    exact ⟨hX, hbl, hbl⟩
  have K := whole_core hL hC0 g1 (rdy_mk g5 ⟨va_AO.of (hts _ st_w7), va_AO.of (hts _ st_w8)⟩) g2 g3 g4 (rdy_exc g5 (st_exc hgv hts hB)) (rdy_nc g5 ⟨st_nc hgv, st_cst hts⟩) g8 hfl hscr (fun _ _ => 0)
  have hl := lv_entry ([.ref b]) (n := 7) (Nat.le_of_ble_eq_true rfl)
  rw [lg_entry_eq]
  generalize (lg_sl ([.ref b]) ++ List.replicate (7 - (lg_sl ([.ref b])).length) Slot.unset).toArray = ls at hl ⊢
  have hl : lv_has ls 7 [(0, .ref b)] := hl
  refine K s.heap [] ls (fun k q h => ?_) va_S.rf ⟨[(0, .ref b)], hl, fun i v h => ?_⟩
  · have h' : ([] : va_W)[k]? = some q := h
    simp at h'
  · match i, h with
    | 0, h =>
      have e : some (some (Value.ref 4000000)) = some (some v) := h
      have e2 : v = Value.ref 4000000 := (Option.some.inj (Option.some.inj e)).symm
      rw [e2]
      refine ⟨rfl, ?_⟩
      have e3 : pm_tr (pm_st G 0 []) (Value.ref 4000000) = Value.ref b := by
        show Value.ref (pm_ad G 4000000) = Value.ref b
        rw [g7]
      rw [e3]
      exact List.mem_cons_self
    | i + 1, h =>
      have h' := List.mem_of_getElem? (show ([none, none, none, none, none, none] : List (Option Value))[i]? = some (some v) from h)
      simp at h'
