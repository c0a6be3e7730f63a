/-! ===== THE LAW'S BODY, of a world that is ready ===== -/
theorem whole_core {G : pm_G} {p : Program} {l : Launch} {e : Env} {s : State} {m : MethodId} {below : List Frame} {meth : Method} {c : Code} {b L : Nat} {xs : Nat → Int32} (hL : L ≤ 3072) (hC0 : pm_C (pm_st G 0 []) (pm_XL p l e s m b below meth c) cL_law 7 RL (some .boolean) room_1) (hlin : pm_lin G 515) (hmk : pm_mk G) (hbs : pm_b G = s.heap.size) (hkd : pm_kd G = k9) (hn : pm_n G = 515) (hexc : pm_exc G) (hnc : pm_nc G) (hstr : pm_str G) (hfl : l.stackTraces = false) (hscr : pm_scr G (pm_XL p l e s m b below meth c) L xs) (I : pm_I) : pm_R (pm_st G 0 []) (pm_XL p l e s m b below meth c) 7 0 0 0 [some (.ref 4000000), none, none, none, none, none, none] [] I := by
  have hst : pm_st G 515 [] = G := pm_st_all hn
  have hok : pm_ok (pm_st G 0 []) := by
    obtain ⟨-, -, -, -, -, -, -, -, h⟩ := hC0
    exact h
  refine law_make (K := fun I => wRun G xs (L / 6) 0 I) hC0 hlin hmk hbs.symm (k9_X hkd) (k9_M hkd) (by rw [hkd]; decide +kernel) hok (pure_all ⟨hn, hkd⟩ (by omega)) (fun hok9 I9 h9 => ?_)
  rw [hst] at hok9 ⊢
  have hC : pm_C G (pm_XL p l e s m b below meth c) cL_law 7 RL (some .boolean) room_1 := by
    obtain ⟨h1, h2, h3, h4, h5, h6, h7, h8, -⟩ := hC0
    exact ⟨h1, h2, h3, h4, h5, h6, h7, h8, hok9⟩
  refine law_loop hL hC hbs (fun x4 v1 v2 v3 v4 v5 => ⟨hok9, hfl, hexc, hnc, hstr, by omega, ⟨by decide, by omega, by rw [hkd]; decide +kernel⟩, ⟨by decide, by omega, by rw [hkd]; decide +kernel⟩, ⟨by decide, by omega, by rw [hkd]; decide +kernel⟩, hscr, v1, v2, v3, v4, v5⟩) hscr (L / 6) 0 515 25516 I9 (by omega) (by omega) (by omega) (by omega) h9
