def pm_E7 (G : pm_G) (X : pm_X) (L : Nat) (xs : Nat → Int32) (x4 : Int32) : Prop := pm_ok G ∧ (pm_l X).stackTraces = false ∧ pm_exc G ∧ pm_nc G ∧ pm_str G ∧ pm_n G < 1000 * 999 ∧ pm_k G 1 (.inl 6) ∧ pm_k G 499 (.inl 7) ∧ pm_k G 515 (.inr (3, 1)) ∧ pm_scr G X L xs ∧ vp_in (x4 + 1) L ∧ vp_in (x4 + 2) L ∧ vp_in (x4 + 3) L ∧ vp_in (x4 + 4) L ∧ vp_in (x4 + 5) L

def wC0 (G : pm_G) (xs : Nat → Int32) (x4 : Int32) (I : pm_I) (K : pm_I → Prop) : Prop :=
  wX6_append G 1 ((xs (x4 + 1).toNatClampNeg)) ((xs (x4 + 2).toNatClampNeg)) ((xs (x4 + 3).toNatClampNeg)) ((xs (x4 + 4).toNatClampNeg)) ((xs (x4 + 5).toNatClampNeg)) I (fun r1 I1 => wX7_append G 499 ((xs (x4 + 1).toNatClampNeg)) ((xs (x4 + 2).toNatClampNeg)) ((xs (x4 + 3).toNatClampNeg)) ((xs (x4 + 4).toNatClampNeg)) ((xs (x4 + 5).toNatClampNeg)) I1 (fun r2 I2 => r1 = r2 ∧ K I2))

set_option maxRecDepth 20000 in
theorem sC0 {G : pm_G} {X : pm_X} {a b L : Nat} {xs : Nat → Int32} {x4 : Int32} (hC : pm_C G X cL_law 7 RL (some .boolean) room_1) (hE : pm_E7 G X L xs x4) (I : pm_I) (K : pm_I → Prop) (hab : a + 40 ≤ room_1.cells ∧ b + 400 ≤ room_1.slots) (h : wC0 G xs x4 I K) (k : ∀ I9, K I9 → pm_R G X 7 (a + 40) (b + 400) 2108 [some (.ref 4000000), some (.ref 1), some (.ref 499), some (.ref 515), some (.int x4), none, none] [] I9) : pm_R G X 7 a b 192 [some (.ref 4000000), some (.ref 1), some (.ref 499), some (.ref 515), some (.int x4), none, none] [] I := by
  obtain ⟨hG, hst, hX, hnc, hS, hN, hk1, hk7, hko, hs, hv1, hv2, hv3, hv4, hv5⟩ := hE
  unfold wC0 at h
  refine r_aload_n 192 hC dL_law_192 rfl rfl ?_
  refine l_arg 193 (j := 1) (x4 := x4) hC hs rfl rfl hv1 (by decide) dL_law_193 dL_law_194 dL_law_196 dL_law_197 dL_law_198 ?_
  refine l_arg 199 (j := 2) (x4 := x4) hC hs rfl rfl hv2 (by decide) dL_law_199 dL_law_200 dL_law_202 dL_law_203 dL_law_204 ?_
  refine l_arg 205 (j := 3) (x4 := x4) hC hs rfl rfl hv3 (by decide) dL_law_205 dL_law_206 dL_law_208 dL_law_209 dL_law_210 ?_
  refine l_arg 211 (j := 4) (x4 := x4) hC hs rfl rfl hv4 (by decide) dL_law_211 dL_law_212 dL_law_214 dL_law_215 dL_law_216 ?_
  refine l_arg 217 (j := 5) (x4 := x4) hC hs rfl rfl hv5 (by decide) dL_law_217 dL_law_218 dL_law_220 dL_law_221 dL_law_222 ?_
  refine r_callV_i 223 (n := 5) [.int (xs (x4 + 1).toNatClampNeg), .int (xs (x4 + 2).toNatClampNeg), .int (xs (x4 + 3).toNatClampNeg), .int (xs (x4 + 4).toNatClampNeg), .int (xs (x4 + 5).toNatClampNeg)] [] hC hk1 rfl dL_law_223 (by decide) (by decide) tw_397 tw_129 ⟨by decide, by decide, by decide +kernel⟩ tw_394 tw_395 tw_396 rfl rfl (sX6_append (l := pm_l X) hG 1 ((xs (x4 + 1).toNatClampNeg)) ((xs (x4 + 2).toNatClampNeg)) ((xs (x4 + 3).toNatClampNeg)) ((xs (x4 + 4).toNatClampNeg)) ((xs (x4 + 5).toNatClampNeg)) _ _ hk1 h) ⟨by have := hab.1; omega, by have := hab.2; omega⟩ (Nat.le_of_ble_eq_true rfl) ?_
  clear h; intro r1 I1 h
  refine r_aload_n 226 hC dL_law_226 rfl rfl ?_
  refine l_arg 227 (j := 1) (x4 := x4) hC hs rfl rfl hv1 (by decide) dL_law_227 dL_law_228 dL_law_230 dL_law_231 dL_law_232 ?_
  refine l_arg 233 (j := 2) (x4 := x4) hC hs rfl rfl hv2 (by decide) dL_law_233 dL_law_234 dL_law_236 dL_law_237 dL_law_238 ?_
  refine l_arg 239 (j := 3) (x4 := x4) hC hs rfl rfl hv3 (by decide) dL_law_239 dL_law_240 dL_law_242 dL_law_243 dL_law_244 ?_
  refine l_arg 245 (j := 4) (x4 := x4) hC hs rfl rfl hv4 (by decide) dL_law_245 dL_law_246 dL_law_248 dL_law_249 dL_law_250 ?_
  refine l_arg 251 (j := 5) (x4 := x4) hC hs rfl rfl hv5 (by decide) dL_law_251 dL_law_252 dL_law_254 dL_law_255 dL_law_256 ?_
  refine r_callV_i 257 (n := 5) [.int (xs (x4 + 1).toNatClampNeg), .int (xs (x4 + 2).toNatClampNeg), .int (xs (x4 + 3).toNatClampNeg), .int (xs (x4 + 4).toNatClampNeg), .int (xs (x4 + 5).toNatClampNeg)] [.int r1] hC hk7 rfl dL_law_257 (by decide) (by decide) tw_1277 tw_135 ⟨by decide, by decide, by decide +kernel⟩ tw_1274 tw_1275 tw_1276 rfl rfl (sX7_append (l := pm_l X) hG 499 ((xs (x4 + 1).toNatClampNeg)) ((xs (x4 + 2).toNatClampNeg)) ((xs (x4 + 3).toNatClampNeg)) ((xs (x4 + 4).toNatClampNeg)) ((xs (x4 + 5).toNatClampNeg)) _ _ hk7 h) ⟨by have := hab.1; omega, by have := hab.2; omega⟩ (Nat.le_of_ble_eq_true rfl) ?_
  clear h; intro r2 I2 h
  refine r_icmp_eq 260 2108 hC dL_law_260 (by decide) (fun _ => ?_) (fun hc => absurd h.1 hc)
  exact r_wid 2108 (Nat.le_add_right a 40) (Nat.le_add_right b 400) (k I2 h.2)

def wC1 (G : pm_G) (xs : Nat → Int32) (x4 : Int32) (I : pm_I) (K : pm_I → Prop) : Prop :=
  wL_parse G 515 ((xs (x4 + 1).toNatClampNeg)) I (fun k1 I1 => wX7_parse G 499 ((xs (x4 + 1).toNatClampNeg)) I1 (fun b1 I2 => wX7_thrown G 499 I2 (fun t1 I3 => t1 = k1 ∧ (k1 = 0 → I3 515 0 = b1) ∧ K I3)))

set_option maxRecDepth 20000 in
theorem sC1 {G : pm_G} {X : pm_X} {a b L : Nat} {xs : Nat → Int32} {x4 : Int32} (hC : pm_C G X cL_law 7 RL (some .boolean) room_1) (hE : pm_E7 G X L xs x4) (I : pm_I) (K : pm_I → Prop) (hab : a + 40 ≤ room_1.cells ∧ b + 400 ≤ room_1.slots) (h : wC1 G xs x4 I K) (k : ∀ I9, K I9 → pm_R G X 7 (a + 40) (b + 400) 2108 [some (.ref 4000000), some (.ref 1), some (.ref 499), some (.ref 515), some (.int x4), none, none] [] I9) : pm_R G X 7 a b 265 [some (.ref 4000000), some (.ref 1), some (.ref 499), some (.ref 515), some (.int x4), none, none] [] I := by
  obtain ⟨hG, hst, hX, hnc, hS, hN, hk1, hk7, hko, hs, hv1, hv2, hv3, hv4, hv5⟩ := hE
  unfold wC1 at h
  refine r_aload_n 265 hC dL_law_265 rfl rfl ?_
  refine l_arg 266 (j := 1) (x4 := x4) hC hs rfl rfl hv1 (by decide) dL_law_266 dL_law_267 dL_law_269 dL_law_270 dL_law_271 ?_
  refine r_aload_n 272 hC dL_law_272 rfl rfl ?_
  refine w_callS 273 (n := 3) [.ref 1, .int (xs (x4 + 1).toNatClampNeg), .ref 515] [] hC dL_law_273 (by decide) (by decide) tw_440 rfl tw_128 ⟨by decide, by decide, by decide +kernel⟩ tw_438 tw_439 rfl rfl (sL_parse (l := pm_l X) hG hst hX hnc hS hN 515 ((xs (x4 + 1).toNatClampNeg)) _ _ hk1 hko h) ⟨by have := hab.1; omega, by have := hab.2; omega⟩ (Nat.le_of_ble_eq_true rfl) ?_
  clear h; intro k1 I1 h
  refine r_istore 276 [some (.ref 4000000), some (.ref 1), some (.ref 499), some (.ref 515), some (.int x4), some (.int k1), none] hC dL_law_276 (by decide) rfl ?_
  refine r_aload_n 278 hC dL_law_278 rfl rfl ?_
  refine l_arg 279 (j := 1) (x4 := x4) hC hs rfl rfl hv1 (by decide) dL_law_279 dL_law_280 dL_law_282 dL_law_283 dL_law_284 ?_
  refine r_callV_i 285 (n := 1) [.int (xs (x4 + 1).toNatClampNeg)] [] hC hk7 rfl dL_law_285 (by decide) (by decide) tw_1285 tw_135 ⟨by decide, by decide, by decide +kernel⟩ tw_1282 tw_1283 tw_1284 rfl rfl (sX7_parse (l := pm_l X) hG hS 499 ((xs (x4 + 1).toNatClampNeg)) _ _ hk7 h) ⟨by have := hab.1; omega, by have := hab.2; omega⟩ (Nat.le_of_ble_eq_true rfl) ?_
  clear h; intro b1 I2 h
  refine r_istore 288 [some (.ref 4000000), some (.ref 1), some (.ref 499), some (.ref 515), some (.int x4), some (.int k1), some (.int b1)] hC dL_law_288 (by decide) rfl ?_
  refine r_aload_n 290 hC dL_law_290 rfl rfl ?_
  refine r_callV_i 291 (n := 0) [] [] hC hk7 rfl dL_law_291 (by decide) (by decide) tw_1273 tw_135 ⟨by decide, by decide, by decide +kernel⟩ tw_1270 tw_1271 tw_1272 rfl rfl (sX7_thrown (l := pm_l X) hG 499 _ _ hk7 h) ⟨by have := hab.1; omega, by have := hab.2; omega⟩ (Nat.le_of_ble_eq_true rfl) ?_
  clear h; intro t1 I3 h
  refine r_iload 294 hC dL_law_294 rfl ?_
  refine r_icmp_eq 296 301 hC dL_law_296 (by decide) (fun _ => ?_) (fun hc => absurd h.1 hc)
  have kz := r_wid 2108 (G := G) (X := X) (nL := 7) (ls := [some (.ref 4000000), some (.ref 1), some (.ref 499), some (.ref 515), some (.int x4), some (.int k1), some (.int b1)]) (st := []) (I := I3) (a := a + 1) (b := b + 10) (by omega) (by omega) (r_less 2108 (ls := [some (.ref 4000000), some (.ref 1), some (.ref 499), some (.ref 515), some (.int x4), some (.int k1), some (.int b1)]) (pm_less7 (k := k1) (b := b1)) (k I3 h.2.2))
  refine r_iload 301 hC dL_law_301 rfl ?_
  refine r_if_ne 303 318 hC dL_law_303 (by decide) (fun _ => r_goto 318 2108 hC dL_law_318 (by decide) kz) (fun hc => ?_)
  replace h := h.2.1 hc
  refine r_aload_n 306 hC dL_law_306 rfl rfl ?_
  refine r_iconst 307 (v := 0) hC dL_law_307 (by decide) ?_
  refine r_lald 308 hC hko (vp_in_nI (n := 0) (by decide) (by decide)) dL_law_308 ?_
  refine r_iload 309 hC dL_law_309 rfl ?_
  refine r_i2l 311 hC dL_law_311 ?_
  refine r_lcmp 312 hC dL_law_312 ?_
  refine r_if_eq 313 318 hC dL_law_313 (by decide) (fun _ => r_goto 318 2108 hC dL_law_318 (by decide) kz) (fun hc => absurd ?_ hc)
  show lg_cmp (I3 515 0).toInt64 b1.toInt64 = 0
  rw [h]; exact lg_cmp_0 _

def wC2 (G : pm_G) (xs : Nat → Int32) (x4 : Int32) (I : pm_I) (K : pm_I → Prop) : Prop :=
  wX6_errorPosition G 1  I (fun r1 I1 => wX7_errorPosition G 499  I1 (fun r2 I2 => r1 = r2 ∧ K I2))

set_option maxRecDepth 20000 in
theorem sC2 {G : pm_G} {X : pm_X} {a b L : Nat} {xs : Nat → Int32} {x4 : Int32} (hC : pm_C G X cL_law 7 RL (some .boolean) room_1) (hE : pm_E7 G X L xs x4) (I : pm_I) (K : pm_I → Prop) (hab : a + 40 ≤ room_1.cells ∧ b + 400 ≤ room_1.slots) (h : wC2 G xs x4 I K) (k : ∀ I9, K I9 → pm_R G X 7 (a + 40) (b + 400) 2108 [some (.ref 4000000), some (.ref 1), some (.ref 499), some (.ref 515), some (.int x4), none, none] [] I9) : pm_R G X 7 a b 321 [some (.ref 4000000), some (.ref 1), some (.ref 499), some (.ref 515), some (.int x4), none, none] [] I := by
  obtain ⟨hG, hst, hX, hnc, hS, hN, hk1, hk7, hko, hs, hv1, hv2, hv3, hv4, hv5⟩ := hE
  unfold wC2 at h
  refine r_aload_n 321 hC dL_law_321 rfl rfl ?_
  refine r_callV_i 322 (n := 0) [] [] hC hk1 rfl dL_law_322 (by decide) (by decide) tw_405 tw_129 ⟨by decide, by decide, by decide +kernel⟩ tw_402 tw_403 tw_404 rfl rfl (sX6_errorPosition (l := pm_l X) hG 1  _ _ hk1 h) ⟨by have := hab.1; omega, by have := hab.2; omega⟩ (Nat.le_of_ble_eq_true rfl) ?_
  clear h; intro r1 I1 h
  refine r_aload_n 325 hC dL_law_325 rfl rfl ?_
  refine r_callV_i 326 (n := 0) [] [.int r1] hC hk7 rfl dL_law_326 (by decide) (by decide) tw_1387 tw_135 ⟨by decide, by decide, by decide +kernel⟩ tw_1384 tw_1385 tw_1386 rfl rfl (sX7_errorPosition (l := pm_l X) hG 499  _ _ hk7 h) ⟨by have := hab.1; omega, by have := hab.2; omega⟩ (Nat.le_of_ble_eq_true rfl) ?_
  clear h; intro r2 I2 h
  refine r_icmp_eq 329 2108 hC dL_law_329 (by decide) (fun _ => ?_) (fun hc => absurd h.1 hc)
  exact r_wid 2108 (Nat.le_add_right a 40) (Nat.le_add_right b 400) (k I2 h.2)

def wC3 (G : pm_G) (xs : Nat → Int32) (x4 : Int32) (I : pm_I) (K : pm_I → Prop) : Prop :=
  wX6_peerCount G 1  I (fun r1 I1 => wX7_peerCount G 499  I1 (fun r2 I2 => r1 = r2 ∧ K I2))

set_option maxRecDepth 20000 in
theorem sC3 {G : pm_G} {X : pm_X} {a b L : Nat} {xs : Nat → Int32} {x4 : Int32} (hC : pm_C G X cL_law 7 RL (some .boolean) room_1) (hE : pm_E7 G X L xs x4) (I : pm_I) (K : pm_I → Prop) (hab : a + 40 ≤ room_1.cells ∧ b + 400 ≤ room_1.slots) (h : wC3 G xs x4 I K) (k : ∀ I9, K I9 → pm_R G X 7 (a + 40) (b + 400) 2108 [some (.ref 4000000), some (.ref 1), some (.ref 499), some (.ref 515), some (.int x4), none, none] [] I9) : pm_R G X 7 a b 334 [some (.ref 4000000), some (.ref 1), some (.ref 499), some (.ref 515), some (.int x4), none, none] [] I := by
  obtain ⟨hG, hst, hX, hnc, hS, hN, hk1, hk7, hko, hs, hv1, hv2, hv3, hv4, hv5⟩ := hE
  unfold wC3 at h
  refine r_aload_n 334 hC dL_law_334 rfl rfl ?_
  refine r_callV_i 335 (n := 0) [] [] hC hk1 rfl dL_law_335 (by decide) (by decide) tw_409 tw_129 ⟨by decide, by decide, by decide +kernel⟩ tw_406 tw_407 tw_408 rfl rfl (sX6_peerCount (l := pm_l X) hG 1  _ _ hk1 h) ⟨by have := hab.1; omega, by have := hab.2; omega⟩ (Nat.le_of_ble_eq_true rfl) ?_
  clear h; intro r1 I1 h
  refine r_aload_n 338 hC dL_law_338 rfl rfl ?_
  refine r_callV_i 339 (n := 0) [] [.int r1] hC hk7 rfl dL_law_339 (by decide) (by decide) tw_1391 tw_135 ⟨by decide, by decide, by decide +kernel⟩ tw_1388 tw_1389 tw_1390 rfl rfl (sX7_peerCount (l := pm_l X) hG 499  _ _ hk7 h) ⟨by have := hab.1; omega, by have := hab.2; omega⟩ (Nat.le_of_ble_eq_true rfl) ?_
  clear h; intro r2 I2 h
  refine r_icmp_eq 342 2108 hC dL_law_342 (by decide) (fun _ => ?_) (fun hc => absurd h.1 hc)
  exact r_wid 2108 (Nat.le_add_right a 40) (Nat.le_add_right b 400) (k I2 h.2)

def wC4 (G : pm_G) (xs : Nat → Int32) (x4 : Int32) (I : pm_I) (K : pm_I → Prop) : Prop :=
  wX6_tick G 1  I (fun r1 I1 => wX7_tick G 499  I1 (fun r2 I2 => r1 = r2 ∧ K I2))

set_option maxRecDepth 20000 in
theorem sC4 {G : pm_G} {X : pm_X} {a b L : Nat} {xs : Nat → Int32} {x4 : Int32} (hC : pm_C G X cL_law 7 RL (some .boolean) room_1) (hE : pm_E7 G X L xs x4) (I : pm_I) (K : pm_I → Prop) (hab : a + 40 ≤ room_1.cells ∧ b + 400 ≤ room_1.slots) (h : wC4 G xs x4 I K) (k : ∀ I9, K I9 → pm_R G X 7 (a + 40) (b + 400) 2108 [some (.ref 4000000), some (.ref 1), some (.ref 499), some (.ref 515), some (.int x4), none, none] [] I9) : pm_R G X 7 a b 347 [some (.ref 4000000), some (.ref 1), some (.ref 499), some (.ref 515), some (.int x4), none, none] [] I := by
  obtain ⟨hG, hst, hX, hnc, hS, hN, hk1, hk7, hko, hs, hv1, hv2, hv3, hv4, hv5⟩ := hE
  unfold wC4 at h
  refine r_aload_n 347 hC dL_law_347 rfl rfl ?_
  refine r_callV_i 348 (n := 0) [] [] hC hk1 rfl dL_law_348 (by decide) (by decide) tw_413 tw_129 ⟨by decide, by decide, by decide +kernel⟩ tw_410 tw_411 tw_412 rfl rfl (sX6_tick (l := pm_l X) hG 1  _ _ hk1 h) ⟨by have := hab.1; omega, by have := hab.2; omega⟩ (Nat.le_of_ble_eq_true rfl) ?_
  clear h; intro r1 I1 h
  refine r_aload_n 351 hC dL_law_351 rfl rfl ?_
  refine r_callV_i 352 (n := 0) [] [.int r1] hC hk7 rfl dL_law_352 (by decide) (by decide) tw_1395 tw_135 ⟨by decide, by decide, by decide +kernel⟩ tw_1392 tw_1393 tw_1394 rfl rfl (sX7_tick (l := pm_l X) hG 499  _ _ hk7 h) ⟨by have := hab.1; omega, by have := hab.2; omega⟩ (Nat.le_of_ble_eq_true rfl) ?_
  clear h; intro r2 I2 h
  refine r_icmp_eq 355 2108 hC dL_law_355 (by decide) (fun _ => ?_) (fun hc => absurd h.1 hc)
  exact r_wid 2108 (Nat.le_add_right a 40) (Nat.le_add_right b 400) (k I2 h.2)

def wC5 (G : pm_G) (xs : Nat → Int32) (x4 : Int32) (I : pm_I) (K : pm_I → Prop) : Prop :=
  wL_knows G 515 ((xs (x4 + 1).toNatClampNeg)) ((xs (x4 + 2).toNatClampNeg)) I (fun k1 I1 => wX7_knows G 499 ((xs (x4 + 1).toNatClampNeg)) ((xs (x4 + 2).toNatClampNeg)) I1 (fun b1 I2 => wX7_thrown G 499 I2 (fun t1 I3 => t1 = k1 ∧ (k1 = 0 → I3 515 0 = if b1 = 0 then 0 else 1) ∧ K I3)))

set_option maxRecDepth 20000 in
theorem sC5 {G : pm_G} {X : pm_X} {a b L : Nat} {xs : Nat → Int32} {x4 : Int32} (hC : pm_C G X cL_law 7 RL (some .boolean) room_1) (hE : pm_E7 G X L xs x4) (I : pm_I) (K : pm_I → Prop) (hab : a + 40 ≤ room_1.cells ∧ b + 400 ≤ room_1.slots) (h : wC5 G xs x4 I K) (k : ∀ I9, K I9 → pm_R G X 7 (a + 40) (b + 400) 2108 [some (.ref 4000000), some (.ref 1), some (.ref 499), some (.ref 515), some (.int x4), none, none] [] I9) : pm_R G X 7 a b 360 [some (.ref 4000000), some (.ref 1), some (.ref 499), some (.ref 515), some (.int x4), none, none] [] I := by
  obtain ⟨hG, hst, hX, hnc, hS, hN, hk1, hk7, hko, hs, hv1, hv2, hv3, hv4, hv5⟩ := hE
  unfold wC5 at h
  refine r_aload_n 360 hC dL_law_360 rfl rfl ?_
  refine l_arg 361 (j := 1) (x4 := x4) hC hs rfl rfl hv1 (by decide) dL_law_361 dL_law_362 dL_law_364 dL_law_365 dL_law_366 ?_
  refine l_arg 367 (j := 2) (x4 := x4) hC hs rfl rfl hv2 (by decide) dL_law_367 dL_law_368 dL_law_370 dL_law_371 dL_law_372 ?_
  refine r_aload_n 373 hC dL_law_373 rfl rfl ?_
  refine w_callS 374 (n := 4) [.ref 1, .int (xs (x4 + 1).toNatClampNeg), .int (xs (x4 + 2).toNatClampNeg), .ref 515] [] hC dL_law_374 (by decide) (by decide) tw_715 rfl tw_128 ⟨by decide, by decide, by decide +kernel⟩ tw_713 tw_714 rfl rfl (sL_knows (l := pm_l X) hG hst hX hnc 515 ((xs (x4 + 1).toNatClampNeg)) ((xs (x4 + 2).toNatClampNeg)) _ _ hk1 hko h) ⟨by have := hab.1; omega, by have := hab.2; omega⟩ (Nat.le_of_ble_eq_true rfl) ?_
  clear h; intro k1 I1 h
  refine r_istore 377 [some (.ref 4000000), some (.ref 1), some (.ref 499), some (.ref 515), some (.int x4), some (.int k1), none] hC dL_law_377 (by decide) rfl ?_
  refine r_aload_n 379 hC dL_law_379 rfl rfl ?_
  refine l_arg 380 (j := 1) (x4 := x4) hC hs rfl rfl hv1 (by decide) dL_law_380 dL_law_381 dL_law_383 dL_law_384 dL_law_385 ?_
  refine l_arg 386 (j := 2) (x4 := x4) hC hs rfl rfl hv2 (by decide) dL_law_386 dL_law_387 dL_law_389 dL_law_390 dL_law_391 ?_
  refine r_callV_i 392 (n := 2) [.int (xs (x4 + 1).toNatClampNeg), .int (xs (x4 + 2).toNatClampNeg)] [] hC hk7 rfl dL_law_392 (by decide) (by decide) tw_1399 tw_135 ⟨by decide, by decide, by decide +kernel⟩ tw_1396 tw_1397 tw_1398 rfl rfl (sX7_knows (l := pm_l X) hG 499 ((xs (x4 + 1).toNatClampNeg)) ((xs (x4 + 2).toNatClampNeg)) _ _ hk7 h) ⟨by have := hab.1; omega, by have := hab.2; omega⟩ (Nat.le_of_ble_eq_true rfl) ?_
  clear h; intro b1 I2 h
  refine r_istore 395 [some (.ref 4000000), some (.ref 1), some (.ref 499), some (.ref 515), some (.int x4), some (.int k1), some (.int b1)] hC dL_law_395 (by decide) rfl ?_
  refine r_aload_n 397 hC dL_law_397 rfl rfl ?_
  refine r_callV_i 398 (n := 0) [] [] hC hk7 rfl dL_law_398 (by decide) (by decide) tw_1273 tw_135 ⟨by decide, by decide, by decide +kernel⟩ tw_1270 tw_1271 tw_1272 rfl rfl (sX7_thrown (l := pm_l X) hG 499 _ _ hk7 h) ⟨by have := hab.1; omega, by have := hab.2; omega⟩ (Nat.le_of_ble_eq_true rfl) ?_
  clear h; intro t1 I3 h
  refine r_iload 401 hC dL_law_401 rfl ?_
  refine r_icmp_eq 403 408 hC dL_law_403 (by decide) (fun _ => ?_) (fun hc => absurd h.1 hc)
  have kz := r_wid 2108 (G := G) (X := X) (nL := 7) (ls := [some (.ref 4000000), some (.ref 1), some (.ref 499), some (.ref 515), some (.int x4), some (.int k1), some (.int b1)]) (st := []) (I := I3) (a := a + 2) (b := b + 12) (by omega) (by omega) (r_less 2108 (ls := [some (.ref 4000000), some (.ref 1), some (.ref 499), some (.ref 515), some (.int x4), some (.int k1), some (.int b1)]) (pm_less7 (k := k1) (b := b1)) (k I3 h.2.2))
  refine r_iload 408 hC dL_law_408 rfl ?_
  refine r_if_ne 410 432 hC dL_law_410 (by decide) (fun _ => r_goto 432 2108 hC dL_law_432 (by decide) kz) (fun hc => ?_)
  replace h := h.2.1 hc
  refine r_aload_n 413 hC dL_law_413 rfl rfl ?_
  refine r_iconst 414 (v := 0) hC dL_law_414 (by decide) ?_
  refine r_lald 415 hC hko (vp_in_nI (n := 0) (by decide) (by decide)) dL_law_415 ?_
  refine r_iload 416 hC dL_law_416 rfl ?_
  refine r_if_eq 418 425 hC dL_law_418 (by decide) (fun hb => ?_) (fun hb => ?_)
  · refine r_lconst 425 (v := (0 : Int32).toInt64) hC dL_law_425 (by decide) ?_
    refine r_lcmp 426 hC dL_law_426 ?_
    refine r_if_eq 427 432 hC dL_law_427 (by decide) (fun _ => r_goto 432 2108 hC dL_law_432 (by decide) kz) (fun hc => absurd ?_ hc)
    rw [if_pos hb] at h
    show lg_cmp (I3 515 0).toInt64 (0 : Int32).toInt64 = 0
    rw [h]; exact lg_cmp_0 _
  · refine r_lconst 421 (v := (1 : Int32).toInt64) hC dL_law_421 (by decide) ?_
    refine r_goto 422 426 hC dL_law_422 (by decide) ?_
    refine r_lcmp 426 hC dL_law_426 ?_
    refine r_if_eq 427 432 hC dL_law_427 (by decide) (fun _ => r_goto 432 2108 hC dL_law_432 (by decide) kz) (fun hc => absurd ?_ hc)
    rw [if_neg hb] at h
    show lg_cmp (I3 515 0).toInt64 (1 : Int32).toInt64 = 0
    rw [h]; exact lg_cmp_0 _

def wC6 (G : pm_G) (xs : Nat → Int32) (x4 : Int32) (I : pm_I) (K : pm_I → Prop) : Prop :=
  wL_delay G 515 ((xs (x4 + 1).toNatClampNeg)) ((xs (x4 + 2).toNatClampNeg)) I (fun k1 I1 => wX7_delay G 499 ((xs (x4 + 1).toNatClampNeg)) ((xs (x4 + 2).toNatClampNeg)) I1 (fun b1 I2 => wX7_thrown G 499 I2 (fun t1 I3 => t1 = k1 ∧ (k1 = 0 → I3 515 0 = b1) ∧ K I3)))

set_option maxRecDepth 20000 in
theorem sC6 {G : pm_G} {X : pm_X} {a b L : Nat} {xs : Nat → Int32} {x4 : Int32} (hC : pm_C G X cL_law 7 RL (some .boolean) room_1) (hE : pm_E7 G X L xs x4) (I : pm_I) (K : pm_I → Prop) (hab : a + 40 ≤ room_1.cells ∧ b + 400 ≤ room_1.slots) (h : wC6 G xs x4 I K) (k : ∀ I9, K I9 → pm_R G X 7 (a + 40) (b + 400) 2108 [some (.ref 4000000), some (.ref 1), some (.ref 499), some (.ref 515), some (.int x4), none, none] [] I9) : pm_R G X 7 a b 435 [some (.ref 4000000), some (.ref 1), some (.ref 499), some (.ref 515), some (.int x4), none, none] [] I := by
  obtain ⟨hG, hst, hX, hnc, hS, hN, hk1, hk7, hko, hs, hv1, hv2, hv3, hv4, hv5⟩ := hE
  unfold wC6 at h
  refine r_aload_n 435 hC dL_law_435 rfl rfl ?_
  refine l_arg 436 (j := 1) (x4 := x4) hC hs rfl rfl hv1 (by decide) dL_law_436 dL_law_437 dL_law_439 dL_law_440 dL_law_441 ?_
  refine l_arg 442 (j := 2) (x4 := x4) hC hs rfl rfl hv2 (by decide) dL_law_442 dL_law_443 dL_law_445 dL_law_446 dL_law_447 ?_
  refine r_aload_n 448 hC dL_law_448 rfl rfl ?_
  refine w_callS 449 (n := 4) [.ref 1, .int (xs (x4 + 1).toNatClampNeg), .int (xs (x4 + 2).toNatClampNeg), .ref 515] [] hC dL_law_449 (by decide) (by decide) tw_751 rfl tw_128 ⟨by decide, by decide, by decide +kernel⟩ tw_749 tw_750 rfl rfl (sL_delay (l := pm_l X) hG hst hX hnc 515 ((xs (x4 + 1).toNatClampNeg)) ((xs (x4 + 2).toNatClampNeg)) _ _ hk1 hko h) ⟨by have := hab.1; omega, by have := hab.2; omega⟩ (Nat.le_of_ble_eq_true rfl) ?_
  clear h; intro k1 I1 h
  refine r_istore 452 [some (.ref 4000000), some (.ref 1), some (.ref 499), some (.ref 515), some (.int x4), some (.int k1), none] hC dL_law_452 (by decide) rfl ?_
  refine r_aload_n 454 hC dL_law_454 rfl rfl ?_
  refine l_arg 455 (j := 1) (x4 := x4) hC hs rfl rfl hv1 (by decide) dL_law_455 dL_law_456 dL_law_458 dL_law_459 dL_law_460 ?_
  refine l_arg 461 (j := 2) (x4 := x4) hC hs rfl rfl hv2 (by decide) dL_law_461 dL_law_462 dL_law_464 dL_law_465 dL_law_466 ?_
  refine r_callV_i 467 (n := 2) [.int (xs (x4 + 1).toNatClampNeg), .int (xs (x4 + 2).toNatClampNeg)] [] hC hk7 rfl dL_law_467 (by decide) (by decide) tw_1415 tw_135 ⟨by decide, by decide, by decide +kernel⟩ tw_1412 tw_1413 tw_1414 rfl rfl (sX7_delay (l := pm_l X) hG 499 ((xs (x4 + 1).toNatClampNeg)) ((xs (x4 + 2).toNatClampNeg)) _ _ hk7 h) ⟨by have := hab.1; omega, by have := hab.2; omega⟩ (Nat.le_of_ble_eq_true rfl) ?_
  clear h; intro b1 I2 h
  refine r_istore 470 [some (.ref 4000000), some (.ref 1), some (.ref 499), some (.ref 515), some (.int x4), some (.int k1), some (.int b1)] hC dL_law_470 (by decide) rfl ?_
  refine r_aload_n 472 hC dL_law_472 rfl rfl ?_
  refine r_callV_i 473 (n := 0) [] [] hC hk7 rfl dL_law_473 (by decide) (by decide) tw_1273 tw_135 ⟨by decide, by decide, by decide +kernel⟩ tw_1270 tw_1271 tw_1272 rfl rfl (sX7_thrown (l := pm_l X) hG 499 _ _ hk7 h) ⟨by have := hab.1; omega, by have := hab.2; omega⟩ (Nat.le_of_ble_eq_true rfl) ?_
  clear h; intro t1 I3 h
  refine r_iload 476 hC dL_law_476 rfl ?_
  refine r_icmp_eq 478 483 hC dL_law_478 (by decide) (fun _ => ?_) (fun hc => absurd h.1 hc)
  have kz := r_wid 2108 (G := G) (X := X) (nL := 7) (ls := [some (.ref 4000000), some (.ref 1), some (.ref 499), some (.ref 515), some (.int x4), some (.int k1), some (.int b1)]) (st := []) (I := I3) (a := a + 2) (b := b + 12) (by omega) (by omega) (r_less 2108 (ls := [some (.ref 4000000), some (.ref 1), some (.ref 499), some (.ref 515), some (.int x4), some (.int k1), some (.int b1)]) (pm_less7 (k := k1) (b := b1)) (k I3 h.2.2))
  refine r_iload 483 hC dL_law_483 rfl ?_
  refine r_if_ne 485 500 hC dL_law_485 (by decide) (fun _ => r_goto 500 2108 hC dL_law_500 (by decide) kz) (fun hc => ?_)
  replace h := h.2.1 hc
  refine r_aload_n 488 hC dL_law_488 rfl rfl ?_
  refine r_iconst 489 (v := 0) hC dL_law_489 (by decide) ?_
  refine r_lald 490 hC hko (vp_in_nI (n := 0) (by decide) (by decide)) dL_law_490 ?_
  refine r_iload 491 hC dL_law_491 rfl ?_
  refine r_i2l 493 hC dL_law_493 ?_
  refine r_lcmp 494 hC dL_law_494 ?_
  refine r_if_eq 495 500 hC dL_law_495 (by decide) (fun _ => r_goto 500 2108 hC dL_law_500 (by decide) kz) (fun hc => absurd ?_ hc)
  show lg_cmp (I3 515 0).toInt64 b1.toInt64 = 0
  rw [h]; exact lg_cmp_0 _

def wC7 (G : pm_G) (xs : Nat → Int32) (x4 : Int32) (I : pm_I) (K : pm_I → Prop) : Prop :=
  wL_introductionsNeeded G 515 ((xs (x4 + 1).toNatClampNeg)) ((xs (x4 + 2).toNatClampNeg)) I (fun k1 I1 => wX7_introductionsNeeded G 499 ((xs (x4 + 1).toNatClampNeg)) ((xs (x4 + 2).toNatClampNeg)) I1 (fun b1 I2 => wX7_thrown G 499 I2 (fun t1 I3 => t1 = k1 ∧ (k1 = 0 → I3 515 0 = b1) ∧ K I3)))

set_option maxRecDepth 20000 in
theorem sC7 {G : pm_G} {X : pm_X} {a b L : Nat} {xs : Nat → Int32} {x4 : Int32} (hC : pm_C G X cL_law 7 RL (some .boolean) room_1) (hE : pm_E7 G X L xs x4) (I : pm_I) (K : pm_I → Prop) (hab : a + 40 ≤ room_1.cells ∧ b + 400 ≤ room_1.slots) (h : wC7 G xs x4 I K) (k : ∀ I9, K I9 → pm_R G X 7 (a + 40) (b + 400) 2108 [some (.ref 4000000), some (.ref 1), some (.ref 499), some (.ref 515), some (.int x4), none, none] [] I9) : pm_R G X 7 a b 503 [some (.ref 4000000), some (.ref 1), some (.ref 499), some (.ref 515), some (.int x4), none, none] [] I := by
  obtain ⟨hG, hst, hX, hnc, hS, hN, hk1, hk7, hko, hs, hv1, hv2, hv3, hv4, hv5⟩ := hE
  unfold wC7 at h
  refine r_aload_n 503 hC dL_law_503 rfl rfl ?_
  refine l_arg 504 (j := 1) (x4 := x4) hC hs rfl rfl hv1 (by decide) dL_law_504 dL_law_505 dL_law_507 dL_law_508 dL_law_509 ?_
  refine l_arg 510 (j := 2) (x4 := x4) hC hs rfl rfl hv2 (by decide) dL_law_510 dL_law_511 dL_law_513 dL_law_514 dL_law_515 ?_
  refine r_aload_n 516 hC dL_law_516 rfl rfl ?_
  refine w_callS 517 (n := 4) [.ref 1, .int (xs (x4 + 1).toNatClampNeg), .int (xs (x4 + 2).toNatClampNeg), .ref 515] [] hC dL_law_517 (by decide) (by decide) tw_763 rfl tw_128 ⟨by decide, by decide, by decide +kernel⟩ tw_761 tw_762 rfl rfl (sL_introductionsNeeded (l := pm_l X) hG hst hX hnc 515 ((xs (x4 + 1).toNatClampNeg)) ((xs (x4 + 2).toNatClampNeg)) _ _ hk1 hko h) ⟨by have := hab.1; omega, by have := hab.2; omega⟩ (Nat.le_of_ble_eq_true rfl) ?_
  clear h; intro k1 I1 h
  refine r_istore 520 [some (.ref 4000000), some (.ref 1), some (.ref 499), some (.ref 515), some (.int x4), some (.int k1), none] hC dL_law_520 (by decide) rfl ?_
  refine r_aload_n 522 hC dL_law_522 rfl rfl ?_
  refine l_arg 523 (j := 1) (x4 := x4) hC hs rfl rfl hv1 (by decide) dL_law_523 dL_law_524 dL_law_526 dL_law_527 dL_law_528 ?_
  refine l_arg 529 (j := 2) (x4 := x4) hC hs rfl rfl hv2 (by decide) dL_law_529 dL_law_530 dL_law_532 dL_law_533 dL_law_534 ?_
  refine r_callV_i 535 (n := 2) [.int (xs (x4 + 1).toNatClampNeg), .int (xs (x4 + 2).toNatClampNeg)] [] hC hk7 rfl dL_law_535 (by decide) (by decide) tw_1423 tw_135 ⟨by decide, by decide, by decide +kernel⟩ tw_1420 tw_1421 tw_1422 rfl rfl (sX7_introductionsNeeded (l := pm_l X) hG 499 ((xs (x4 + 1).toNatClampNeg)) ((xs (x4 + 2).toNatClampNeg)) _ _ hk7 h) ⟨by have := hab.1; omega, by have := hab.2; omega⟩ (Nat.le_of_ble_eq_true rfl) ?_
  clear h; intro b1 I2 h
  refine r_istore 538 [some (.ref 4000000), some (.ref 1), some (.ref 499), some (.ref 515), some (.int x4), some (.int k1), some (.int b1)] hC dL_law_538 (by decide) rfl ?_
  refine r_aload_n 540 hC dL_law_540 rfl rfl ?_
  refine r_callV_i 541 (n := 0) [] [] hC hk7 rfl dL_law_541 (by decide) (by decide) tw_1273 tw_135 ⟨by decide, by decide, by decide +kernel⟩ tw_1270 tw_1271 tw_1272 rfl rfl (sX7_thrown (l := pm_l X) hG 499 _ _ hk7 h) ⟨by have := hab.1; omega, by have := hab.2; omega⟩ (Nat.le_of_ble_eq_true rfl) ?_
  clear h; intro t1 I3 h
  refine r_iload 544 hC dL_law_544 rfl ?_
  refine r_icmp_eq 546 551 hC dL_law_546 (by decide) (fun _ => ?_) (fun hc => absurd h.1 hc)
  have kz := r_wid 2108 (G := G) (X := X) (nL := 7) (ls := [some (.ref 4000000), some (.ref 1), some (.ref 499), some (.ref 515), some (.int x4), some (.int k1), some (.int b1)]) (st := []) (I := I3) (a := a + 3) (b := b + 18) (by omega) (by omega) (r_less 2108 (ls := [some (.ref 4000000), some (.ref 1), some (.ref 499), some (.ref 515), some (.int x4), some (.int k1), some (.int b1)]) (pm_less7 (k := k1) (b := b1)) (k I3 h.2.2))
  refine r_iload 551 hC dL_law_551 rfl ?_
  refine r_if_ne 553 568 hC dL_law_553 (by decide) (fun _ => r_goto 568 2108 hC dL_law_568 (by decide) kz) (fun hc => ?_)
  replace h := h.2.1 hc
  refine r_aload_n 556 hC dL_law_556 rfl rfl ?_
  refine r_iconst 557 (v := 0) hC dL_law_557 (by decide) ?_
  refine r_lald 558 hC hko (vp_in_nI (n := 0) (by decide) (by decide)) dL_law_558 ?_
  refine r_iload 559 hC dL_law_559 rfl ?_
  refine r_i2l 561 hC dL_law_561 ?_
  refine r_lcmp 562 hC dL_law_562 ?_
  refine r_if_eq 563 568 hC dL_law_563 (by decide) (fun _ => r_goto 568 2108 hC dL_law_568 (by decide) kz) (fun hc => absurd ?_ hc)
  show lg_cmp (I3 515 0).toInt64 b1.toInt64 = 0
  rw [h]; exact lg_cmp_0 _

def wC8 (G : pm_G) (xs : Nat → Int32) (x4 : Int32) (I : pm_I) (K : pm_I → Prop) : Prop :=
  wL_introducer G 515 ((xs (x4 + 1).toNatClampNeg)) ((xs (x4 + 2).toNatClampNeg)) I (fun k1 I1 => wX7_introducer G 499 ((xs (x4 + 1).toNatClampNeg)) ((xs (x4 + 2).toNatClampNeg)) I1 (fun b1 I2 => wX7_thrown G 499 I2 (fun t1 I3 => t1 = k1 ∧ (k1 = 0 → I3 515 0 = b1) ∧ K I3)))

set_option maxRecDepth 20000 in
theorem sC8 {G : pm_G} {X : pm_X} {a b L : Nat} {xs : Nat → Int32} {x4 : Int32} (hC : pm_C G X cL_law 7 RL (some .boolean) room_1) (hE : pm_E7 G X L xs x4) (I : pm_I) (K : pm_I → Prop) (hab : a + 40 ≤ room_1.cells ∧ b + 400 ≤ room_1.slots) (h : wC8 G xs x4 I K) (k : ∀ I9, K I9 → pm_R G X 7 (a + 40) (b + 400) 2108 [some (.ref 4000000), some (.ref 1), some (.ref 499), some (.ref 515), some (.int x4), none, none] [] I9) : pm_R G X 7 a b 571 [some (.ref 4000000), some (.ref 1), some (.ref 499), some (.ref 515), some (.int x4), none, none] [] I := by
  obtain ⟨hG, hst, hX, hnc, hS, hN, hk1, hk7, hko, hs, hv1, hv2, hv3, hv4, hv5⟩ := hE
  unfold wC8 at h
  refine r_aload_n 571 hC dL_law_571 rfl rfl ?_
  refine l_arg 572 (j := 1) (x4 := x4) hC hs rfl rfl hv1 (by decide) dL_law_572 dL_law_573 dL_law_575 dL_law_576 dL_law_577 ?_
  refine l_arg 578 (j := 2) (x4 := x4) hC hs rfl rfl hv2 (by decide) dL_law_578 dL_law_579 dL_law_581 dL_law_582 dL_law_583 ?_
  refine r_aload_n 584 hC dL_law_584 rfl rfl ?_
  refine w_callS 585 (n := 4) [.ref 1, .int (xs (x4 + 1).toNatClampNeg), .int (xs (x4 + 2).toNatClampNeg), .ref 515] [] hC dL_law_585 (by decide) (by decide) tw_779 rfl tw_128 ⟨by decide, by decide, by decide +kernel⟩ tw_777 tw_778 rfl rfl (sL_introducer (l := pm_l X) hG hst hX hnc 515 ((xs (x4 + 1).toNatClampNeg)) ((xs (x4 + 2).toNatClampNeg)) _ _ hk1 hko h) ⟨by have := hab.1; omega, by have := hab.2; omega⟩ (Nat.le_of_ble_eq_true rfl) ?_
  clear h; intro k1 I1 h
  refine r_istore 588 [some (.ref 4000000), some (.ref 1), some (.ref 499), some (.ref 515), some (.int x4), some (.int k1), none] hC dL_law_588 (by decide) rfl ?_
  refine r_aload_n 590 hC dL_law_590 rfl rfl ?_
  refine l_arg 591 (j := 1) (x4 := x4) hC hs rfl rfl hv1 (by decide) dL_law_591 dL_law_592 dL_law_594 dL_law_595 dL_law_596 ?_
  refine l_arg 597 (j := 2) (x4 := x4) hC hs rfl rfl hv2 (by decide) dL_law_597 dL_law_598 dL_law_600 dL_law_601 dL_law_602 ?_
  refine r_callV_i 603 (n := 2) [.int (xs (x4 + 1).toNatClampNeg), .int (xs (x4 + 2).toNatClampNeg)] [] hC hk7 rfl dL_law_603 (by decide) (by decide) tw_1431 tw_135 ⟨by decide, by decide, by decide +kernel⟩ tw_1428 tw_1429 tw_1430 rfl rfl (sX7_introducer (l := pm_l X) hG 499 ((xs (x4 + 1).toNatClampNeg)) ((xs (x4 + 2).toNatClampNeg)) _ _ hk7 h) ⟨by have := hab.1; omega, by have := hab.2; omega⟩ (Nat.le_of_ble_eq_true rfl) ?_
  clear h; intro b1 I2 h
  refine r_istore 606 [some (.ref 4000000), some (.ref 1), some (.ref 499), some (.ref 515), some (.int x4), some (.int k1), some (.int b1)] hC dL_law_606 (by decide) rfl ?_
  refine r_aload_n 608 hC dL_law_608 rfl rfl ?_
  refine r_callV_i 609 (n := 0) [] [] hC hk7 rfl dL_law_609 (by decide) (by decide) tw_1273 tw_135 ⟨by decide, by decide, by decide +kernel⟩ tw_1270 tw_1271 tw_1272 rfl rfl (sX7_thrown (l := pm_l X) hG 499 _ _ hk7 h) ⟨by have := hab.1; omega, by have := hab.2; omega⟩ (Nat.le_of_ble_eq_true rfl) ?_
  clear h; intro t1 I3 h
  refine r_iload 612 hC dL_law_612 rfl ?_
  refine r_icmp_eq 614 619 hC dL_law_614 (by decide) (fun _ => ?_) (fun hc => absurd h.1 hc)
  have kz := r_wid 2108 (G := G) (X := X) (nL := 7) (ls := [some (.ref 4000000), some (.ref 1), some (.ref 499), some (.ref 515), some (.int x4), some (.int k1), some (.int b1)]) (st := []) (I := I3) (a := a + 3) (b := b + 18) (by omega) (by omega) (r_less 2108 (ls := [some (.ref 4000000), some (.ref 1), some (.ref 499), some (.ref 515), some (.int x4), some (.int k1), some (.int b1)]) (pm_less7 (k := k1) (b := b1)) (k I3 h.2.2))
  refine r_iload 619 hC dL_law_619 rfl ?_
  refine r_if_ne 621 636 hC dL_law_621 (by decide) (fun _ => r_goto 636 2108 hC dL_law_636 (by decide) kz) (fun hc => ?_)
  replace h := h.2.1 hc
  refine r_aload_n 624 hC dL_law_624 rfl rfl ?_
  refine r_iconst 625 (v := 0) hC dL_law_625 (by decide) ?_
  refine r_lald 626 hC hko (vp_in_nI (n := 0) (by decide) (by decide)) dL_law_626 ?_
  refine r_iload 627 hC dL_law_627 rfl ?_
  refine r_i2l 629 hC dL_law_629 ?_
  refine r_lcmp 630 hC dL_law_630 ?_
  refine r_if_eq 631 636 hC dL_law_631 (by decide) (fun _ => r_goto 636 2108 hC dL_law_636 (by decide) kz) (fun hc => absurd ?_ hc)
  show lg_cmp (I3 515 0).toInt64 b1.toInt64 = 0
  rw [h]; exact lg_cmp_0 _

def wC9 (G : pm_G) (xs : Nat → Int32) (x4 : Int32) (I : pm_I) (K : pm_I → Prop) : Prop :=
  wL_load G 515 ((xs (x4 + 1).toNatClampNeg)) I (fun k1 I1 => wX7_load G 499 ((xs (x4 + 1).toNatClampNeg)) I1 (fun b1 I2 => wX7_thrown G 499 I2 (fun t1 I3 => t1 = k1 ∧ (k1 = 0 → I3 515 0 = b1) ∧ K I3)))

set_option maxRecDepth 20000 in
theorem sC9 {G : pm_G} {X : pm_X} {a b L : Nat} {xs : Nat → Int32} {x4 : Int32} (hC : pm_C G X cL_law 7 RL (some .boolean) room_1) (hE : pm_E7 G X L xs x4) (I : pm_I) (K : pm_I → Prop) (hab : a + 40 ≤ room_1.cells ∧ b + 400 ≤ room_1.slots) (h : wC9 G xs x4 I K) (k : ∀ I9, K I9 → pm_R G X 7 (a + 40) (b + 400) 2108 [some (.ref 4000000), some (.ref 1), some (.ref 499), some (.ref 515), some (.int x4), none, none] [] I9) : pm_R G X 7 a b 639 [some (.ref 4000000), some (.ref 1), some (.ref 499), some (.ref 515), some (.int x4), none, none] [] I := by
  obtain ⟨hG, hst, hX, hnc, hS, hN, hk1, hk7, hko, hs, hv1, hv2, hv3, hv4, hv5⟩ := hE
  unfold wC9 at h
  refine r_aload_n 639 hC dL_law_639 rfl rfl ?_
  refine l_arg 640 (j := 1) (x4 := x4) hC hs rfl rfl hv1 (by decide) dL_law_640 dL_law_641 dL_law_643 dL_law_644 dL_law_645 ?_
  refine r_aload_n 646 hC dL_law_646 rfl rfl ?_
  refine w_callS 647 (n := 3) [.ref 1, .int (xs (x4 + 1).toNatClampNeg), .ref 515] [] hC dL_law_647 (by decide) (by decide) tw_786 rfl tw_128 ⟨by decide, by decide, by decide +kernel⟩ tw_784 tw_785 rfl rfl (sL_load (l := pm_l X) hG hst hX hnc 515 ((xs (x4 + 1).toNatClampNeg)) _ _ hk1 hko h) ⟨by have := hab.1; omega, by have := hab.2; omega⟩ (Nat.le_of_ble_eq_true rfl) ?_
  clear h; intro k1 I1 h
  refine r_istore 650 [some (.ref 4000000), some (.ref 1), some (.ref 499), some (.ref 515), some (.int x4), some (.int k1), none] hC dL_law_650 (by decide) rfl ?_
  refine r_aload_n 652 hC dL_law_652 rfl rfl ?_
  refine l_arg 653 (j := 1) (x4 := x4) hC hs rfl rfl hv1 (by decide) dL_law_653 dL_law_654 dL_law_656 dL_law_657 dL_law_658 ?_
  refine r_callV_i 659 (n := 1) [.int (xs (x4 + 1).toNatClampNeg)] [] hC hk7 rfl dL_law_659 (by decide) (by decide) tw_1435 tw_135 ⟨by decide, by decide, by decide +kernel⟩ tw_1432 tw_1433 tw_1434 rfl rfl (sX7_load (l := pm_l X) hG 499 ((xs (x4 + 1).toNatClampNeg)) _ _ hk7 h) ⟨by have := hab.1; omega, by have := hab.2; omega⟩ (Nat.le_of_ble_eq_true rfl) ?_
  clear h; intro b1 I2 h
  refine r_istore 662 [some (.ref 4000000), some (.ref 1), some (.ref 499), some (.ref 515), some (.int x4), some (.int k1), some (.int b1)] hC dL_law_662 (by decide) rfl ?_
  refine r_aload_n 664 hC dL_law_664 rfl rfl ?_
  refine r_callV_i 665 (n := 0) [] [] hC hk7 rfl dL_law_665 (by decide) (by decide) tw_1273 tw_135 ⟨by decide, by decide, by decide +kernel⟩ tw_1270 tw_1271 tw_1272 rfl rfl (sX7_thrown (l := pm_l X) hG 499 _ _ hk7 h) ⟨by have := hab.1; omega, by have := hab.2; omega⟩ (Nat.le_of_ble_eq_true rfl) ?_
  clear h; intro t1 I3 h
  refine r_iload 668 hC dL_law_668 rfl ?_
  refine r_icmp_eq 670 675 hC dL_law_670 (by decide) (fun _ => ?_) (fun hc => absurd h.1 hc)
  have kz := r_wid 2108 (G := G) (X := X) (nL := 7) (ls := [some (.ref 4000000), some (.ref 1), some (.ref 499), some (.ref 515), some (.int x4), some (.int k1), some (.int b1)]) (st := []) (I := I3) (a := a + 1) (b := b + 6) (by omega) (by omega) (r_less 2108 (ls := [some (.ref 4000000), some (.ref 1), some (.ref 499), some (.ref 515), some (.int x4), some (.int k1), some (.int b1)]) (pm_less7 (k := k1) (b := b1)) (k I3 h.2.2))
  refine r_iload 675 hC dL_law_675 rfl ?_
  refine r_if_ne 677 692 hC dL_law_677 (by decide) (fun _ => r_goto 692 2108 hC dL_law_692 (by decide) kz) (fun hc => ?_)
  replace h := h.2.1 hc
  refine r_aload_n 680 hC dL_law_680 rfl rfl ?_
  refine r_iconst 681 (v := 0) hC dL_law_681 (by decide) ?_
  refine r_lald 682 hC hko (vp_in_nI (n := 0) (by decide) (by decide)) dL_law_682 ?_
  refine r_iload 683 hC dL_law_683 rfl ?_
  refine r_i2l 685 hC dL_law_685 ?_
  refine r_lcmp 686 hC dL_law_686 ?_
  refine r_if_eq 687 692 hC dL_law_687 (by decide) (fun _ => r_goto 692 2108 hC dL_law_692 (by decide) kz) (fun hc => absurd ?_ hc)
  show lg_cmp (I3 515 0).toInt64 b1.toInt64 = 0
  rw [h]; exact lg_cmp_0 _

def wC10 (G : pm_G) (xs : Nat → Int32) (x4 : Int32) (I : pm_I) (K : pm_I → Prop) : Prop :=
  wL_bestRelay G 515 ((xs (x4 + 1).toNatClampNeg)) ((xs (x4 + 2).toNatClampNeg)) I (fun k1 I1 => wX7_bestRelay G 499 ((xs (x4 + 1).toNatClampNeg)) ((xs (x4 + 2).toNatClampNeg)) I1 (fun b1 I2 => wX7_thrown G 499 I2 (fun t1 I3 => t1 = k1 ∧ (k1 = 0 → I3 515 0 = b1) ∧ K I3)))

set_option maxRecDepth 20000 in
theorem sC10 {G : pm_G} {X : pm_X} {a b L : Nat} {xs : Nat → Int32} {x4 : Int32} (hC : pm_C G X cL_law 7 RL (some .boolean) room_1) (hE : pm_E7 G X L xs x4) (I : pm_I) (K : pm_I → Prop) (hab : a + 40 ≤ room_1.cells ∧ b + 400 ≤ room_1.slots) (h : wC10 G xs x4 I K) (k : ∀ I9, K I9 → pm_R G X 7 (a + 40) (b + 400) 2108 [some (.ref 4000000), some (.ref 1), some (.ref 499), some (.ref 515), some (.int x4), none, none] [] I9) : pm_R G X 7 a b 695 [some (.ref 4000000), some (.ref 1), some (.ref 499), some (.ref 515), some (.int x4), none, none] [] I := by
  obtain ⟨hG, hst, hX, hnc, hS, hN, hk1, hk7, hko, hs, hv1, hv2, hv3, hv4, hv5⟩ := hE
  unfold wC10 at h
  refine r_aload_n 695 hC dL_law_695 rfl rfl ?_
  refine l_arg 696 (j := 1) (x4 := x4) hC hs rfl rfl hv1 (by decide) dL_law_696 dL_law_697 dL_law_699 dL_law_700 dL_law_701 ?_
  refine l_arg 702 (j := 2) (x4 := x4) hC hs rfl rfl hv2 (by decide) dL_law_702 dL_law_703 dL_law_705 dL_law_706 dL_law_707 ?_
  refine r_aload_n 708 hC dL_law_708 rfl rfl ?_
  refine w_callS 709 (n := 4) [.ref 1, .int (xs (x4 + 1).toNatClampNeg), .int (xs (x4 + 2).toNatClampNeg), .ref 515] [] hC dL_law_709 (by decide) (by decide) tw_801 rfl tw_128 ⟨by decide, by decide, by decide +kernel⟩ tw_799 tw_800 rfl rfl (sL_bestRelay (l := pm_l X) hG hst hX hnc 515 ((xs (x4 + 1).toNatClampNeg)) ((xs (x4 + 2).toNatClampNeg)) _ _ hk1 hko h) ⟨by have := hab.1; omega, by have := hab.2; omega⟩ (Nat.le_of_ble_eq_true rfl) ?_
  clear h; intro k1 I1 h
  refine r_istore 712 [some (.ref 4000000), some (.ref 1), some (.ref 499), some (.ref 515), some (.int x4), some (.int k1), none] hC dL_law_712 (by decide) rfl ?_
  refine r_aload_n 714 hC dL_law_714 rfl rfl ?_
  refine l_arg 715 (j := 1) (x4 := x4) hC hs rfl rfl hv1 (by decide) dL_law_715 dL_law_716 dL_law_718 dL_law_719 dL_law_720 ?_
  refine l_arg 721 (j := 2) (x4 := x4) hC hs rfl rfl hv2 (by decide) dL_law_721 dL_law_722 dL_law_724 dL_law_725 dL_law_726 ?_
  refine r_callV_i 727 (n := 2) [.int (xs (x4 + 1).toNatClampNeg), .int (xs (x4 + 2).toNatClampNeg)] [] hC hk7 rfl dL_law_727 (by decide) (by decide) tw_1450 tw_135 ⟨by decide, by decide, by decide +kernel⟩ tw_1447 tw_1448 tw_1449 rfl rfl (sX7_bestRelay (l := pm_l X) hG 499 ((xs (x4 + 1).toNatClampNeg)) ((xs (x4 + 2).toNatClampNeg)) _ _ hk7 h) ⟨by have := hab.1; omega, by have := hab.2; omega⟩ (Nat.le_of_ble_eq_true rfl) ?_
  clear h; intro b1 I2 h
  refine r_istore 730 [some (.ref 4000000), some (.ref 1), some (.ref 499), some (.ref 515), some (.int x4), some (.int k1), some (.int b1)] hC dL_law_730 (by decide) rfl ?_
  refine r_aload_n 732 hC dL_law_732 rfl rfl ?_
  refine r_callV_i 733 (n := 0) [] [] hC hk7 rfl dL_law_733 (by decide) (by decide) tw_1273 tw_135 ⟨by decide, by decide, by decide +kernel⟩ tw_1270 tw_1271 tw_1272 rfl rfl (sX7_thrown (l := pm_l X) hG 499 _ _ hk7 h) ⟨by have := hab.1; omega, by have := hab.2; omega⟩ (Nat.le_of_ble_eq_true rfl) ?_
  clear h; intro t1 I3 h
  refine r_iload 736 hC dL_law_736 rfl ?_
  refine r_icmp_eq 738 743 hC dL_law_738 (by decide) (fun _ => ?_) (fun hc => absurd h.1 hc)
  have kz := r_wid 2108 (G := G) (X := X) (nL := 7) (ls := [some (.ref 4000000), some (.ref 1), some (.ref 499), some (.ref 515), some (.int x4), some (.int k1), some (.int b1)]) (st := []) (I := I3) (a := a + 3) (b := b + 18) (by omega) (by omega) (r_less 2108 (ls := [some (.ref 4000000), some (.ref 1), some (.ref 499), some (.ref 515), some (.int x4), some (.int k1), some (.int b1)]) (pm_less7 (k := k1) (b := b1)) (k I3 h.2.2))
  refine r_iload 743 hC dL_law_743 rfl ?_
  refine r_if_ne 745 760 hC dL_law_745 (by decide) (fun _ => r_goto 760 2108 hC dL_law_760 (by decide) kz) (fun hc => ?_)
  replace h := h.2.1 hc
  refine r_aload_n 748 hC dL_law_748 rfl rfl ?_
  refine r_iconst 749 (v := 0) hC dL_law_749 (by decide) ?_
  refine r_lald 750 hC hko (vp_in_nI (n := 0) (by decide) (by decide)) dL_law_750 ?_
  refine r_iload 751 hC dL_law_751 rfl ?_
  refine r_i2l 753 hC dL_law_753 ?_
  refine r_lcmp 754 hC dL_law_754 ?_
  refine r_if_eq 755 760 hC dL_law_755 (by decide) (fun _ => r_goto 760 2108 hC dL_law_760 (by decide) kz) (fun hc => absurd ?_ hc)
  show lg_cmp (I3 515 0).toInt64 b1.toInt64 = 0
  rw [h]; exact lg_cmp_0 _

def wC11 (G : pm_G) (xs : Nat → Int32) (x4 : Int32) (I : pm_I) (K : pm_I → Prop) : Prop :=
  wL_relayScore G 515 ((xs (x4 + 1).toNatClampNeg)) ((xs (x4 + 2).toNatClampNeg)) ((xs (x4 + 3).toNatClampNeg)) I (fun k1 I1 => wX7_relayScore G 499 ((xs (x4 + 1).toNatClampNeg)) ((xs (x4 + 2).toNatClampNeg)) ((xs (x4 + 3).toNatClampNeg)) I1 (fun b1 I2 => wX7_thrown G 499 I2 (fun t1 I3 => t1 = k1 ∧ (k1 = 0 → I3 515 0 = b1) ∧ K I3)))

set_option maxRecDepth 20000 in
theorem sC11 {G : pm_G} {X : pm_X} {a b L : Nat} {xs : Nat → Int32} {x4 : Int32} (hC : pm_C G X cL_law 7 RL (some .boolean) room_1) (hE : pm_E7 G X L xs x4) (I : pm_I) (K : pm_I → Prop) (hab : a + 40 ≤ room_1.cells ∧ b + 400 ≤ room_1.slots) (h : wC11 G xs x4 I K) (k : ∀ I9, K I9 → pm_R G X 7 (a + 40) (b + 400) 2108 [some (.ref 4000000), some (.ref 1), some (.ref 499), some (.ref 515), some (.int x4), none, none] [] I9) : pm_R G X 7 a b 763 [some (.ref 4000000), some (.ref 1), some (.ref 499), some (.ref 515), some (.int x4), none, none] [] I := by
  obtain ⟨hG, hst, hX, hnc, hS, hN, hk1, hk7, hko, hs, hv1, hv2, hv3, hv4, hv5⟩ := hE
  unfold wC11 at h
  refine r_aload_n 763 hC dL_law_763 rfl rfl ?_
  refine l_arg 764 (j := 1) (x4 := x4) hC hs rfl rfl hv1 (by decide) dL_law_764 dL_law_765 dL_law_767 dL_law_768 dL_law_769 ?_
  refine l_arg 770 (j := 2) (x4 := x4) hC hs rfl rfl hv2 (by decide) dL_law_770 dL_law_771 dL_law_773 dL_law_774 dL_law_775 ?_
  refine l_arg 776 (j := 3) (x4 := x4) hC hs rfl rfl hv3 (by decide) dL_law_776 dL_law_777 dL_law_779 dL_law_780 dL_law_781 ?_
  refine r_aload_n 782 hC dL_law_782 rfl rfl ?_
  refine w_callS 783 (n := 5) [.ref 1, .int (xs (x4 + 1).toNatClampNeg), .int (xs (x4 + 2).toNatClampNeg), .int (xs (x4 + 3).toNatClampNeg), .ref 515] [] hC dL_law_783 (by decide) (by decide) tw_839 rfl tw_128 ⟨by decide, by decide, by decide +kernel⟩ tw_837 tw_838 rfl rfl (sL_relayScore (l := pm_l X) hG hst hX hnc 515 ((xs (x4 + 1).toNatClampNeg)) ((xs (x4 + 2).toNatClampNeg)) ((xs (x4 + 3).toNatClampNeg)) _ _ hk1 hko h) ⟨by have := hab.1; omega, by have := hab.2; omega⟩ (Nat.le_of_ble_eq_true rfl) ?_
  clear h; intro k1 I1 h
  refine r_istore 786 [some (.ref 4000000), some (.ref 1), some (.ref 499), some (.ref 515), some (.int x4), some (.int k1), none] hC dL_law_786 (by decide) rfl ?_
  refine r_aload_n 788 hC dL_law_788 rfl rfl ?_
  refine l_arg 789 (j := 1) (x4 := x4) hC hs rfl rfl hv1 (by decide) dL_law_789 dL_law_790 dL_law_792 dL_law_793 dL_law_794 ?_
  refine l_arg 795 (j := 2) (x4 := x4) hC hs rfl rfl hv2 (by decide) dL_law_795 dL_law_796 dL_law_798 dL_law_799 dL_law_800 ?_
  refine l_arg 801 (j := 3) (x4 := x4) hC hs rfl rfl hv3 (by decide) dL_law_801 dL_law_802 dL_law_804 dL_law_805 dL_law_806 ?_
  refine r_callV_i 807 (n := 3) [.int (xs (x4 + 1).toNatClampNeg), .int (xs (x4 + 2).toNatClampNeg), .int (xs (x4 + 3).toNatClampNeg)] [] hC hk7 rfl dL_law_807 (by decide) (by decide) tw_1469 tw_135 ⟨by decide, by decide, by decide +kernel⟩ tw_1466 tw_1467 tw_1468 rfl rfl (sX7_relayScore (l := pm_l X) hG 499 ((xs (x4 + 1).toNatClampNeg)) ((xs (x4 + 2).toNatClampNeg)) ((xs (x4 + 3).toNatClampNeg)) _ _ hk7 h) ⟨by have := hab.1; omega, by have := hab.2; omega⟩ (Nat.le_of_ble_eq_true rfl) ?_
  clear h; intro b1 I2 h
  refine r_istore 810 [some (.ref 4000000), some (.ref 1), some (.ref 499), some (.ref 515), some (.int x4), some (.int k1), some (.int b1)] hC dL_law_810 (by decide) rfl ?_
  refine r_aload_n 812 hC dL_law_812 rfl rfl ?_
  refine r_callV_i 813 (n := 0) [] [] hC hk7 rfl dL_law_813 (by decide) (by decide) tw_1273 tw_135 ⟨by decide, by decide, by decide +kernel⟩ tw_1270 tw_1271 tw_1272 rfl rfl (sX7_thrown (l := pm_l X) hG 499 _ _ hk7 h) ⟨by have := hab.1; omega, by have := hab.2; omega⟩ (Nat.le_of_ble_eq_true rfl) ?_
  clear h; intro t1 I3 h
  refine r_iload 816 hC dL_law_816 rfl ?_
  refine r_icmp_eq 818 823 hC dL_law_818 (by decide) (fun _ => ?_) (fun hc => absurd h.1 hc)
  have kz := r_wid 2108 (G := G) (X := X) (nL := 7) (ls := [some (.ref 4000000), some (.ref 1), some (.ref 499), some (.ref 515), some (.int x4), some (.int k1), some (.int b1)]) (st := []) (I := I3) (a := a + 5) (b := b + 30) (by omega) (by omega) (r_less 2108 (ls := [some (.ref 4000000), some (.ref 1), some (.ref 499), some (.ref 515), some (.int x4), some (.int k1), some (.int b1)]) (pm_less7 (k := k1) (b := b1)) (k I3 h.2.2))
  refine r_iload 823 hC dL_law_823 rfl ?_
  refine r_if_ne 825 840 hC dL_law_825 (by decide) (fun _ => r_goto 840 2108 hC dL_law_840 (by decide) kz) (fun hc => ?_)
  replace h := h.2.1 hc
  refine r_aload_n 828 hC dL_law_828 rfl rfl ?_
  refine r_iconst 829 (v := 0) hC dL_law_829 (by decide) ?_
  refine r_lald 830 hC hko (vp_in_nI (n := 0) (by decide) (by decide)) dL_law_830 ?_
  refine r_iload 831 hC dL_law_831 rfl ?_
  refine r_i2l 833 hC dL_law_833 ?_
  refine r_lcmp 834 hC dL_law_834 ?_
  refine r_if_eq 835 840 hC dL_law_835 (by decide) (fun _ => r_goto 840 2108 hC dL_law_840 (by decide) kz) (fun hc => absurd ?_ hc)
  show lg_cmp (I3 515 0).toInt64 b1.toInt64 = 0
  rw [h]; exact lg_cmp_0 _

def wC12 (G : pm_G) (xs : Nat → Int32) (x4 : Int32) (I : pm_I) (K : pm_I → Prop) : Prop :=
  wX6_sessions G 1  I (fun r1 I1 => wX7_sessions G 499  I1 (fun r2 I2 => r1 = r2 ∧ K I2))

set_option maxRecDepth 20000 in
theorem sC12 {G : pm_G} {X : pm_X} {a b L : Nat} {xs : Nat → Int32} {x4 : Int32} (hC : pm_C G X cL_law 7 RL (some .boolean) room_1) (hE : pm_E7 G X L xs x4) (I : pm_I) (K : pm_I → Prop) (hab : a + 40 ≤ room_1.cells ∧ b + 400 ≤ room_1.slots) (h : wC12 G xs x4 I K) (k : ∀ I9, K I9 → pm_R G X 7 (a + 40) (b + 400) 2108 [some (.ref 4000000), some (.ref 1), some (.ref 499), some (.ref 515), some (.int x4), none, none] [] I9) : pm_R G X 7 a b 843 [some (.ref 4000000), some (.ref 1), some (.ref 499), some (.ref 515), some (.int x4), none, none] [] I := by
  obtain ⟨hG, hst, hX, hnc, hS, hN, hk1, hk7, hko, hs, hv1, hv2, hv3, hv4, hv5⟩ := hE
  unfold wC12 at h
  refine r_aload_n 843 hC dL_law_843 rfl rfl ?_
  refine r_callV_i 844 (n := 0) [] [] hC hk1 rfl dL_law_844 (by decide) (by decide) tw_417 tw_129 ⟨by decide, by decide, by decide +kernel⟩ tw_414 tw_415 tw_416 rfl rfl (sX6_sessions (l := pm_l X) hG 1  _ _ hk1 h) ⟨by have := hab.1; omega, by have := hab.2; omega⟩ (Nat.le_of_ble_eq_true rfl) ?_
  clear h; intro r1 I1 h
  refine r_aload_n 847 hC dL_law_847 rfl rfl ?_
  refine r_callV_i 848 (n := 0) [] [.int r1] hC hk7 rfl dL_law_848 (by decide) (by decide) tw_1477 tw_135 ⟨by decide, by decide, by decide +kernel⟩ tw_1474 tw_1475 tw_1476 rfl rfl (sX7_sessions (l := pm_l X) hG 499  _ _ hk7 h) ⟨by have := hab.1; omega, by have := hab.2; omega⟩ (Nat.le_of_ble_eq_true rfl) ?_
  clear h; intro r2 I2 h
  refine r_icmp_eq 851 2108 hC dL_law_851 (by decide) (fun _ => ?_) (fun hc => absurd h.1 hc)
  exact r_wid 2108 (Nat.le_add_right a 40) (Nat.le_add_right b 400) (k I2 h.2)

def wC13 (G : pm_G) (xs : Nat → Int32) (x4 : Int32) (I : pm_I) (K : pm_I → Prop) : Prop :=
  wL_session G 515 ((xs (x4 + 1).toNatClampNeg)) ((xs (x4 + 2).toNatClampNeg)) I (fun k1 I1 => wX7_session G 499 ((xs (x4 + 1).toNatClampNeg)) ((xs (x4 + 2).toNatClampNeg)) I1 (fun b1 I2 => wX7_thrown G 499 I2 (fun t1 I3 => t1 = k1 ∧ (k1 = 0 → I3 515 0 = b1) ∧ K I3)))

set_option maxRecDepth 20000 in
theorem sC13 {G : pm_G} {X : pm_X} {a b L : Nat} {xs : Nat → Int32} {x4 : Int32} (hC : pm_C G X cL_law 7 RL (some .boolean) room_1) (hE : pm_E7 G X L xs x4) (I : pm_I) (K : pm_I → Prop) (hab : a + 40 ≤ room_1.cells ∧ b + 400 ≤ room_1.slots) (h : wC13 G xs x4 I K) (k : ∀ I9, K I9 → pm_R G X 7 (a + 40) (b + 400) 2108 [some (.ref 4000000), some (.ref 1), some (.ref 499), some (.ref 515), some (.int x4), none, none] [] I9) : pm_R G X 7 a b 856 [some (.ref 4000000), some (.ref 1), some (.ref 499), some (.ref 515), some (.int x4), none, none] [] I := by
  obtain ⟨hG, hst, hX, hnc, hS, hN, hk1, hk7, hko, hs, hv1, hv2, hv3, hv4, hv5⟩ := hE
  unfold wC13 at h
  refine r_aload_n 856 hC dL_law_856 rfl rfl ?_
  refine l_arg 857 (j := 1) (x4 := x4) hC hs rfl rfl hv1 (by decide) dL_law_857 dL_law_858 dL_law_860 dL_law_861 dL_law_862 ?_
  refine l_arg 863 (j := 2) (x4 := x4) hC hs rfl rfl hv2 (by decide) dL_law_863 dL_law_864 dL_law_866 dL_law_867 dL_law_868 ?_
  refine r_aload_n 869 hC dL_law_869 rfl rfl ?_
  refine w_callS 870 (n := 4) [.ref 1, .int (xs (x4 + 1).toNatClampNeg), .int (xs (x4 + 2).toNatClampNeg), .ref 515] [] hC dL_law_870 (by decide) (by decide) tw_870 rfl tw_128 ⟨by decide, by decide, by decide +kernel⟩ tw_868 tw_869 rfl rfl (sL_session (l := pm_l X) hG hst hX hnc 515 ((xs (x4 + 1).toNatClampNeg)) ((xs (x4 + 2).toNatClampNeg)) _ _ hk1 hko h) ⟨by have := hab.1; omega, by have := hab.2; omega⟩ (Nat.le_of_ble_eq_true rfl) ?_
  clear h; intro k1 I1 h
  refine r_istore 873 [some (.ref 4000000), some (.ref 1), some (.ref 499), some (.ref 515), some (.int x4), some (.int k1), none] hC dL_law_873 (by decide) rfl ?_
  refine r_aload_n 875 hC dL_law_875 rfl rfl ?_
  refine l_arg 876 (j := 1) (x4 := x4) hC hs rfl rfl hv1 (by decide) dL_law_876 dL_law_877 dL_law_879 dL_law_880 dL_law_881 ?_
  refine l_arg 882 (j := 2) (x4 := x4) hC hs rfl rfl hv2 (by decide) dL_law_882 dL_law_883 dL_law_885 dL_law_886 dL_law_887 ?_
  refine r_callV_i 888 (n := 2) [.int (xs (x4 + 1).toNatClampNeg), .int (xs (x4 + 2).toNatClampNeg)] [] hC hk7 rfl dL_law_888 (by decide) (by decide) tw_1481 tw_135 ⟨by decide, by decide, by decide +kernel⟩ tw_1478 tw_1479 tw_1480 rfl rfl (sX7_session (l := pm_l X) hG 499 ((xs (x4 + 1).toNatClampNeg)) ((xs (x4 + 2).toNatClampNeg)) _ _ hk7 h) ⟨by have := hab.1; omega, by have := hab.2; omega⟩ (Nat.le_of_ble_eq_true rfl) ?_
  clear h; intro b1 I2 h
  refine r_istore 891 [some (.ref 4000000), some (.ref 1), some (.ref 499), some (.ref 515), some (.int x4), some (.int k1), some (.int b1)] hC dL_law_891 (by decide) rfl ?_
  refine r_aload_n 893 hC dL_law_893 rfl rfl ?_
  refine r_callV_i 894 (n := 0) [] [] hC hk7 rfl dL_law_894 (by decide) (by decide) tw_1273 tw_135 ⟨by decide, by decide, by decide +kernel⟩ tw_1270 tw_1271 tw_1272 rfl rfl (sX7_thrown (l := pm_l X) hG 499 _ _ hk7 h) ⟨by have := hab.1; omega, by have := hab.2; omega⟩ (Nat.le_of_ble_eq_true rfl) ?_
  clear h; intro t1 I3 h
  refine r_iload 897 hC dL_law_897 rfl ?_
  refine r_icmp_eq 899 904 hC dL_law_899 (by decide) (fun _ => ?_) (fun hc => absurd h.1 hc)
  have kz := r_wid 2108 (G := G) (X := X) (nL := 7) (ls := [some (.ref 4000000), some (.ref 1), some (.ref 499), some (.ref 515), some (.int x4), some (.int k1), some (.int b1)]) (st := []) (I := I3) (a := a + 3) (b := b + 18) (by omega) (by omega) (r_less 2108 (ls := [some (.ref 4000000), some (.ref 1), some (.ref 499), some (.ref 515), some (.int x4), some (.int k1), some (.int b1)]) (pm_less7 (k := k1) (b := b1)) (k I3 h.2.2))
  refine r_iload 904 hC dL_law_904 rfl ?_
  refine r_if_ne 906 921 hC dL_law_906 (by decide) (fun _ => r_goto 921 2108 hC dL_law_921 (by decide) kz) (fun hc => ?_)
  replace h := h.2.1 hc
  refine r_aload_n 909 hC dL_law_909 rfl rfl ?_
  refine r_iconst 910 (v := 0) hC dL_law_910 (by decide) ?_
  refine r_lald 911 hC hko (vp_in_nI (n := 0) (by decide) (by decide)) dL_law_911 ?_
  refine r_iload 912 hC dL_law_912 rfl ?_
  refine r_i2l 914 hC dL_law_914 ?_
  refine r_lcmp 915 hC dL_law_915 ?_
  refine r_if_eq 916 921 hC dL_law_916 (by decide) (fun _ => r_goto 921 2108 hC dL_law_921 (by decide) kz) (fun hc => absurd ?_ hc)
  show lg_cmp (I3 515 0).toInt64 b1.toInt64 = 0
  rw [h]; exact lg_cmp_0 _

def wC14 (G : pm_G) (xs : Nat → Int32) (x4 : Int32) (I : pm_I) (K : pm_I → Prop) : Prop :=
  wL_path G 515 ((xs (x4 + 1).toNatClampNeg)) I (fun k1 I1 => wX7_path G 499 ((xs (x4 + 1).toNatClampNeg)) I1 (fun b1 I2 => wX7_thrown G 499 I2 (fun t1 I3 => t1 = k1 ∧ (k1 = 0 → I3 515 0 = b1) ∧ K I3)))

set_option maxRecDepth 20000 in
theorem sC14 {G : pm_G} {X : pm_X} {a b L : Nat} {xs : Nat → Int32} {x4 : Int32} (hC : pm_C G X cL_law 7 RL (some .boolean) room_1) (hE : pm_E7 G X L xs x4) (I : pm_I) (K : pm_I → Prop) (hab : a + 40 ≤ room_1.cells ∧ b + 400 ≤ room_1.slots) (h : wC14 G xs x4 I K) (k : ∀ I9, K I9 → pm_R G X 7 (a + 40) (b + 400) 2108 [some (.ref 4000000), some (.ref 1), some (.ref 499), some (.ref 515), some (.int x4), none, none] [] I9) : pm_R G X 7 a b 924 [some (.ref 4000000), some (.ref 1), some (.ref 499), some (.ref 515), some (.int x4), none, none] [] I := by
  obtain ⟨hG, hst, hX, hnc, hS, hN, hk1, hk7, hko, hs, hv1, hv2, hv3, hv4, hv5⟩ := hE
  unfold wC14 at h
  refine r_aload_n 924 hC dL_law_924 rfl rfl ?_
  refine l_arg 925 (j := 1) (x4 := x4) hC hs rfl rfl hv1 (by decide) dL_law_925 dL_law_926 dL_law_928 dL_law_929 dL_law_930 ?_
  refine r_aload_n 931 hC dL_law_931 rfl rfl ?_
  refine w_callS 932 (n := 3) [.ref 1, .int (xs (x4 + 1).toNatClampNeg), .ref 515] [] hC dL_law_932 (by decide) (by decide) tw_881 rfl tw_128 ⟨by decide, by decide, by decide +kernel⟩ tw_879 tw_880 rfl rfl (sL_path (l := pm_l X) hG hst hX hnc 515 ((xs (x4 + 1).toNatClampNeg)) _ _ hk1 hko h) ⟨by have := hab.1; omega, by have := hab.2; omega⟩ (Nat.le_of_ble_eq_true rfl) ?_
  clear h; intro k1 I1 h
  refine r_istore 935 [some (.ref 4000000), some (.ref 1), some (.ref 499), some (.ref 515), some (.int x4), some (.int k1), none] hC dL_law_935 (by decide) rfl ?_
  refine r_aload_n 937 hC dL_law_937 rfl rfl ?_
  refine l_arg 938 (j := 1) (x4 := x4) hC hs rfl rfl hv1 (by decide) dL_law_938 dL_law_939 dL_law_941 dL_law_942 dL_law_943 ?_
  refine r_callV_i 944 (n := 1) [.int (xs (x4 + 1).toNatClampNeg)] [] hC hk7 rfl dL_law_944 (by decide) (by decide) tw_1489 tw_135 ⟨by decide, by decide, by decide +kernel⟩ tw_1486 tw_1487 tw_1488 rfl rfl (sX7_path (l := pm_l X) hG 499 ((xs (x4 + 1).toNatClampNeg)) _ _ hk7 h) ⟨by have := hab.1; omega, by have := hab.2; omega⟩ (Nat.le_of_ble_eq_true rfl) ?_
  clear h; intro b1 I2 h
  refine r_istore 947 [some (.ref 4000000), some (.ref 1), some (.ref 499), some (.ref 515), some (.int x4), some (.int k1), some (.int b1)] hC dL_law_947 (by decide) rfl ?_
  refine r_aload_n 949 hC dL_law_949 rfl rfl ?_
  refine r_callV_i 950 (n := 0) [] [] hC hk7 rfl dL_law_950 (by decide) (by decide) tw_1273 tw_135 ⟨by decide, by decide, by decide +kernel⟩ tw_1270 tw_1271 tw_1272 rfl rfl (sX7_thrown (l := pm_l X) hG 499 _ _ hk7 h) ⟨by have := hab.1; omega, by have := hab.2; omega⟩ (Nat.le_of_ble_eq_true rfl) ?_
  clear h; intro t1 I3 h
  refine r_iload 953 hC dL_law_953 rfl ?_
  refine r_icmp_eq 955 960 hC dL_law_955 (by decide) (fun _ => ?_) (fun hc => absurd h.1 hc)
  have kz := r_wid 2108 (G := G) (X := X) (nL := 7) (ls := [some (.ref 4000000), some (.ref 1), some (.ref 499), some (.ref 515), some (.int x4), some (.int k1), some (.int b1)]) (st := []) (I := I3) (a := a + 1) (b := b + 6) (by omega) (by omega) (r_less 2108 (ls := [some (.ref 4000000), some (.ref 1), some (.ref 499), some (.ref 515), some (.int x4), some (.int k1), some (.int b1)]) (pm_less7 (k := k1) (b := b1)) (k I3 h.2.2))
  refine r_iload 960 hC dL_law_960 rfl ?_
  refine r_if_ne 962 977 hC dL_law_962 (by decide) (fun _ => r_goto 977 2108 hC dL_law_977 (by decide) kz) (fun hc => ?_)
  replace h := h.2.1 hc
  refine r_aload_n 965 hC dL_law_965 rfl rfl ?_
  refine r_iconst 966 (v := 0) hC dL_law_966 (by decide) ?_
  refine r_lald 967 hC hko (vp_in_nI (n := 0) (by decide) (by decide)) dL_law_967 ?_
  refine r_iload 968 hC dL_law_968 rfl ?_
  refine r_i2l 970 hC dL_law_970 ?_
  refine r_lcmp 971 hC dL_law_971 ?_
  refine r_if_eq 972 977 hC dL_law_972 (by decide) (fun _ => r_goto 977 2108 hC dL_law_977 (by decide) kz) (fun hc => absurd ?_ hc)
  show lg_cmp (I3 515 0).toInt64 b1.toInt64 = 0
  rw [h]; exact lg_cmp_0 _

def wC15 (G : pm_G) (xs : Nat → Int32) (x4 : Int32) (I : pm_I) (K : pm_I → Prop) : Prop :=
  wL_oldPath G 515 ((xs (x4 + 1).toNatClampNeg)) I (fun k1 I1 => wX7_oldPath G 499 ((xs (x4 + 1).toNatClampNeg)) I1 (fun b1 I2 => wX7_thrown G 499 I2 (fun t1 I3 => t1 = k1 ∧ (k1 = 0 → I3 515 0 = b1) ∧ K I3)))

set_option maxRecDepth 20000 in
theorem sC15 {G : pm_G} {X : pm_X} {a b L : Nat} {xs : Nat → Int32} {x4 : Int32} (hC : pm_C G X cL_law 7 RL (some .boolean) room_1) (hE : pm_E7 G X L xs x4) (I : pm_I) (K : pm_I → Prop) (hab : a + 40 ≤ room_1.cells ∧ b + 400 ≤ room_1.slots) (h : wC15 G xs x4 I K) (k : ∀ I9, K I9 → pm_R G X 7 (a + 40) (b + 400) 2108 [some (.ref 4000000), some (.ref 1), some (.ref 499), some (.ref 515), some (.int x4), none, none] [] I9) : pm_R G X 7 a b 980 [some (.ref 4000000), some (.ref 1), some (.ref 499), some (.ref 515), some (.int x4), none, none] [] I := by
  obtain ⟨hG, hst, hX, hnc, hS, hN, hk1, hk7, hko, hs, hv1, hv2, hv3, hv4, hv5⟩ := hE
  unfold wC15 at h
  refine r_aload_n 980 hC dL_law_980 rfl rfl ?_
  refine l_arg 981 (j := 1) (x4 := x4) hC hs rfl rfl hv1 (by decide) dL_law_981 dL_law_982 dL_law_984 dL_law_985 dL_law_986 ?_
  refine r_aload_n 987 hC dL_law_987 rfl rfl ?_
  refine w_callS 988 (n := 3) [.ref 1, .int (xs (x4 + 1).toNatClampNeg), .ref 515] [] hC dL_law_988 (by decide) (by decide) tw_893 rfl tw_128 ⟨by decide, by decide, by decide +kernel⟩ tw_891 tw_892 rfl rfl (sL_oldPath (l := pm_l X) hG hst hX hnc 515 ((xs (x4 + 1).toNatClampNeg)) _ _ hk1 hko h) ⟨by have := hab.1; omega, by have := hab.2; omega⟩ (Nat.le_of_ble_eq_true rfl) ?_
  clear h; intro k1 I1 h
  refine r_istore 991 [some (.ref 4000000), some (.ref 1), some (.ref 499), some (.ref 515), some (.int x4), some (.int k1), none] hC dL_law_991 (by decide) rfl ?_
  refine r_aload_n 993 hC dL_law_993 rfl rfl ?_
  refine l_arg 994 (j := 1) (x4 := x4) hC hs rfl rfl hv1 (by decide) dL_law_994 dL_law_995 dL_law_997 dL_law_998 dL_law_999 ?_
  refine r_callV_i 1000 (n := 1) [.int (xs (x4 + 1).toNatClampNeg)] [] hC hk7 rfl dL_law_1000 (by decide) (by decide) tw_1501 tw_135 ⟨by decide, by decide, by decide +kernel⟩ tw_1498 tw_1499 tw_1500 rfl rfl (sX7_oldPath (l := pm_l X) hG 499 ((xs (x4 + 1).toNatClampNeg)) _ _ hk7 h) ⟨by have := hab.1; omega, by have := hab.2; omega⟩ (Nat.le_of_ble_eq_true rfl) ?_
  clear h; intro b1 I2 h
  refine r_istore 1003 [some (.ref 4000000), some (.ref 1), some (.ref 499), some (.ref 515), some (.int x4), some (.int k1), some (.int b1)] hC dL_law_1003 (by decide) rfl ?_
  refine r_aload_n 1005 hC dL_law_1005 rfl rfl ?_
  refine r_callV_i 1006 (n := 0) [] [] hC hk7 rfl dL_law_1006 (by decide) (by decide) tw_1273 tw_135 ⟨by decide, by decide, by decide +kernel⟩ tw_1270 tw_1271 tw_1272 rfl rfl (sX7_thrown (l := pm_l X) hG 499 _ _ hk7 h) ⟨by have := hab.1; omega, by have := hab.2; omega⟩ (Nat.le_of_ble_eq_true rfl) ?_
  clear h; intro t1 I3 h
  refine r_iload 1009 hC dL_law_1009 rfl ?_
  refine r_icmp_eq 1011 1016 hC dL_law_1011 (by decide) (fun _ => ?_) (fun hc => absurd h.1 hc)
  have kz := r_wid 2108 (G := G) (X := X) (nL := 7) (ls := [some (.ref 4000000), some (.ref 1), some (.ref 499), some (.ref 515), some (.int x4), some (.int k1), some (.int b1)]) (st := []) (I := I3) (a := a + 1) (b := b + 6) (by omega) (by omega) (r_less 2108 (ls := [some (.ref 4000000), some (.ref 1), some (.ref 499), some (.ref 515), some (.int x4), some (.int k1), some (.int b1)]) (pm_less7 (k := k1) (b := b1)) (k I3 h.2.2))
  refine r_iload 1016 hC dL_law_1016 rfl ?_
  refine r_if_ne 1018 1033 hC dL_law_1018 (by decide) (fun _ => r_goto 1033 2108 hC dL_law_1033 (by decide) kz) (fun hc => ?_)
  replace h := h.2.1 hc
  refine r_aload_n 1021 hC dL_law_1021 rfl rfl ?_
  refine r_iconst 1022 (v := 0) hC dL_law_1022 (by decide) ?_
  refine r_lald 1023 hC hko (vp_in_nI (n := 0) (by decide) (by decide)) dL_law_1023 ?_
  refine r_iload 1024 hC dL_law_1024 rfl ?_
  refine r_i2l 1026 hC dL_law_1026 ?_
  refine r_lcmp 1027 hC dL_law_1027 ?_
  refine r_if_eq 1028 1033 hC dL_law_1028 (by decide) (fun _ => r_goto 1033 2108 hC dL_law_1033 (by decide) kz) (fun hc => absurd ?_ hc)
  show lg_cmp (I3 515 0).toInt64 b1.toInt64 = 0
  rw [h]; exact lg_cmp_0 _

def wC16 (G : pm_G) (xs : Nat → Int32) (x4 : Int32) (I : pm_I) (K : pm_I → Prop) : Prop :=
  wL_successes G 515 ((xs (x4 + 1).toNatClampNeg)) I (fun k1 I1 => wX7_successes G 499 ((xs (x4 + 1).toNatClampNeg)) I1 (fun b1 I2 => wX7_thrown G 499 I2 (fun t1 I3 => t1 = k1 ∧ (k1 = 0 → I3 515 0 = b1) ∧ K I3)))

set_option maxRecDepth 20000 in
theorem sC16 {G : pm_G} {X : pm_X} {a b L : Nat} {xs : Nat → Int32} {x4 : Int32} (hC : pm_C G X cL_law 7 RL (some .boolean) room_1) (hE : pm_E7 G X L xs x4) (I : pm_I) (K : pm_I → Prop) (hab : a + 40 ≤ room_1.cells ∧ b + 400 ≤ room_1.slots) (h : wC16 G xs x4 I K) (k : ∀ I9, K I9 → pm_R G X 7 (a + 40) (b + 400) 2108 [some (.ref 4000000), some (.ref 1), some (.ref 499), some (.ref 515), some (.int x4), none, none] [] I9) : pm_R G X 7 a b 1036 [some (.ref 4000000), some (.ref 1), some (.ref 499), some (.ref 515), some (.int x4), none, none] [] I := by
  obtain ⟨hG, hst, hX, hnc, hS, hN, hk1, hk7, hko, hs, hv1, hv2, hv3, hv4, hv5⟩ := hE
  unfold wC16 at h
  refine r_aload_n 1036 hC dL_law_1036 rfl rfl ?_
  refine l_arg 1037 (j := 1) (x4 := x4) hC hs rfl rfl hv1 (by decide) dL_law_1037 dL_law_1038 dL_law_1040 dL_law_1041 dL_law_1042 ?_
  refine r_aload_n 1043 hC dL_law_1043 rfl rfl ?_
  refine w_callS 1044 (n := 3) [.ref 1, .int (xs (x4 + 1).toNatClampNeg), .ref 515] [] hC dL_law_1044 (by decide) (by decide) tw_900 rfl tw_128 ⟨by decide, by decide, by decide +kernel⟩ tw_898 tw_899 rfl rfl (sL_successes (l := pm_l X) hG hst hX hnc 515 ((xs (x4 + 1).toNatClampNeg)) _ _ hk1 hko h) ⟨by have := hab.1; omega, by have := hab.2; omega⟩ (Nat.le_of_ble_eq_true rfl) ?_
  clear h; intro k1 I1 h
  refine r_istore 1047 [some (.ref 4000000), some (.ref 1), some (.ref 499), some (.ref 515), some (.int x4), some (.int k1), none] hC dL_law_1047 (by decide) rfl ?_
  refine r_aload_n 1049 hC dL_law_1049 rfl rfl ?_
  refine l_arg 1050 (j := 1) (x4 := x4) hC hs rfl rfl hv1 (by decide) dL_law_1050 dL_law_1051 dL_law_1053 dL_law_1054 dL_law_1055 ?_
  refine r_callV_i 1056 (n := 1) [.int (xs (x4 + 1).toNatClampNeg)] [] hC hk7 rfl dL_law_1056 (by decide) (by decide) tw_1505 tw_135 ⟨by decide, by decide, by decide +kernel⟩ tw_1502 tw_1503 tw_1504 rfl rfl (sX7_successes (l := pm_l X) hG 499 ((xs (x4 + 1).toNatClampNeg)) _ _ hk7 h) ⟨by have := hab.1; omega, by have := hab.2; omega⟩ (Nat.le_of_ble_eq_true rfl) ?_
  clear h; intro b1 I2 h
  refine r_istore 1059 [some (.ref 4000000), some (.ref 1), some (.ref 499), some (.ref 515), some (.int x4), some (.int k1), some (.int b1)] hC dL_law_1059 (by decide) rfl ?_
  refine r_aload_n 1061 hC dL_law_1061 rfl rfl ?_
  refine r_callV_i 1062 (n := 0) [] [] hC hk7 rfl dL_law_1062 (by decide) (by decide) tw_1273 tw_135 ⟨by decide, by decide, by decide +kernel⟩ tw_1270 tw_1271 tw_1272 rfl rfl (sX7_thrown (l := pm_l X) hG 499 _ _ hk7 h) ⟨by have := hab.1; omega, by have := hab.2; omega⟩ (Nat.le_of_ble_eq_true rfl) ?_
  clear h; intro t1 I3 h
  refine r_iload 1065 hC dL_law_1065 rfl ?_
  refine r_icmp_eq 1067 1072 hC dL_law_1067 (by decide) (fun _ => ?_) (fun hc => absurd h.1 hc)
  have kz := r_wid 2108 (G := G) (X := X) (nL := 7) (ls := [some (.ref 4000000), some (.ref 1), some (.ref 499), some (.ref 515), some (.int x4), some (.int k1), some (.int b1)]) (st := []) (I := I3) (a := a + 1) (b := b + 6) (by omega) (by omega) (r_less 2108 (ls := [some (.ref 4000000), some (.ref 1), some (.ref 499), some (.ref 515), some (.int x4), some (.int k1), some (.int b1)]) (pm_less7 (k := k1) (b := b1)) (k I3 h.2.2))
  refine r_iload 1072 hC dL_law_1072 rfl ?_
  refine r_if_ne 1074 1089 hC dL_law_1074 (by decide) (fun _ => r_goto 1089 2108 hC dL_law_1089 (by decide) kz) (fun hc => ?_)
  replace h := h.2.1 hc
  refine r_aload_n 1077 hC dL_law_1077 rfl rfl ?_
  refine r_iconst 1078 (v := 0) hC dL_law_1078 (by decide) ?_
  refine r_lald 1079 hC hko (vp_in_nI (n := 0) (by decide) (by decide)) dL_law_1079 ?_
  refine r_iload 1080 hC dL_law_1080 rfl ?_
  refine r_i2l 1082 hC dL_law_1082 ?_
  refine r_lcmp 1083 hC dL_law_1083 ?_
  refine r_if_eq 1084 1089 hC dL_law_1084 (by decide) (fun _ => r_goto 1089 2108 hC dL_law_1089 (by decide) kz) (fun hc => absurd ?_ hc)
  show lg_cmp (I3 515 0).toInt64 b1.toInt64 = 0
  rw [h]; exact lg_cmp_0 _

def wC17 (G : pm_G) (xs : Nat → Int32) (x4 : Int32) (I : pm_I) (K : pm_I → Prop) : Prop :=
  wL_messages G 515 ((xs (x4 + 1).toNatClampNeg)) ((xs (x4 + 2).toNatClampNeg)) I (fun k1 I1 => wX7_messages G 499 ((xs (x4 + 1).toNatClampNeg)) ((xs (x4 + 2).toNatClampNeg)) I1 (fun b1 I2 => wX7_thrown G 499 I2 (fun t1 I3 => t1 = k1 ∧ (k1 = 0 → I3 515 0 = b1) ∧ K I3)))

set_option maxRecDepth 20000 in
theorem sC17 {G : pm_G} {X : pm_X} {a b L : Nat} {xs : Nat → Int32} {x4 : Int32} (hC : pm_C G X cL_law 7 RL (some .boolean) room_1) (hE : pm_E7 G X L xs x4) (I : pm_I) (K : pm_I → Prop) (hab : a + 40 ≤ room_1.cells ∧ b + 400 ≤ room_1.slots) (h : wC17 G xs x4 I K) (k : ∀ I9, K I9 → pm_R G X 7 (a + 40) (b + 400) 2108 [some (.ref 4000000), some (.ref 1), some (.ref 499), some (.ref 515), some (.int x4), none, none] [] I9) : pm_R G X 7 a b 1092 [some (.ref 4000000), some (.ref 1), some (.ref 499), some (.ref 515), some (.int x4), none, none] [] I := by
  obtain ⟨hG, hst, hX, hnc, hS, hN, hk1, hk7, hko, hs, hv1, hv2, hv3, hv4, hv5⟩ := hE
  unfold wC17 at h
  refine r_aload_n 1092 hC dL_law_1092 rfl rfl ?_
  refine l_arg 1093 (j := 1) (x4 := x4) hC hs rfl rfl hv1 (by decide) dL_law_1093 dL_law_1094 dL_law_1096 dL_law_1097 dL_law_1098 ?_
  refine l_arg 1099 (j := 2) (x4 := x4) hC hs rfl rfl hv2 (by decide) dL_law_1099 dL_law_1100 dL_law_1102 dL_law_1103 dL_law_1104 ?_
  refine r_aload_n 1105 hC dL_law_1105 rfl rfl ?_
  refine w_callS 1106 (n := 4) [.ref 1, .int (xs (x4 + 1).toNatClampNeg), .int (xs (x4 + 2).toNatClampNeg), .ref 515] [] hC dL_law_1106 (by decide) (by decide) tw_907 rfl tw_128 ⟨by decide, by decide, by decide +kernel⟩ tw_905 tw_906 rfl rfl (sL_messages (l := pm_l X) hG hst hX hnc 515 ((xs (x4 + 1).toNatClampNeg)) ((xs (x4 + 2).toNatClampNeg)) _ _ hk1 hko h) ⟨by have := hab.1; omega, by have := hab.2; omega⟩ (Nat.le_of_ble_eq_true rfl) ?_
  clear h; intro k1 I1 h
  refine r_istore 1109 [some (.ref 4000000), some (.ref 1), some (.ref 499), some (.ref 515), some (.int x4), some (.int k1), none] hC dL_law_1109 (by decide) rfl ?_
  refine r_aload_n 1111 hC dL_law_1111 rfl rfl ?_
  refine l_arg 1112 (j := 1) (x4 := x4) hC hs rfl rfl hv1 (by decide) dL_law_1112 dL_law_1113 dL_law_1115 dL_law_1116 dL_law_1117 ?_
  refine l_arg 1118 (j := 2) (x4 := x4) hC hs rfl rfl hv2 (by decide) dL_law_1118 dL_law_1119 dL_law_1121 dL_law_1122 dL_law_1123 ?_
  refine r_callV_i 1124 (n := 2) [.int (xs (x4 + 1).toNatClampNeg), .int (xs (x4 + 2).toNatClampNeg)] [] hC hk7 rfl dL_law_1124 (by decide) (by decide) tw_1509 tw_135 ⟨by decide, by decide, by decide +kernel⟩ tw_1506 tw_1507 tw_1508 rfl rfl (sX7_messages (l := pm_l X) hG 499 ((xs (x4 + 1).toNatClampNeg)) ((xs (x4 + 2).toNatClampNeg)) _ _ hk7 h) ⟨by have := hab.1; omega, by have := hab.2; omega⟩ (Nat.le_of_ble_eq_true rfl) ?_
  clear h; intro b1 I2 h
  refine r_istore 1127 [some (.ref 4000000), some (.ref 1), some (.ref 499), some (.ref 515), some (.int x4), some (.int k1), some (.int b1)] hC dL_law_1127 (by decide) rfl ?_
  refine r_aload_n 1129 hC dL_law_1129 rfl rfl ?_
  refine r_callV_i 1130 (n := 0) [] [] hC hk7 rfl dL_law_1130 (by decide) (by decide) tw_1273 tw_135 ⟨by decide, by decide, by decide +kernel⟩ tw_1270 tw_1271 tw_1272 rfl rfl (sX7_thrown (l := pm_l X) hG 499 _ _ hk7 h) ⟨by have := hab.1; omega, by have := hab.2; omega⟩ (Nat.le_of_ble_eq_true rfl) ?_
  clear h; intro t1 I3 h
  refine r_iload 1133 hC dL_law_1133 rfl ?_
  refine r_icmp_eq 1135 1140 hC dL_law_1135 (by decide) (fun _ => ?_) (fun hc => absurd h.1 hc)
  have kz := r_wid 2108 (G := G) (X := X) (nL := 7) (ls := [some (.ref 4000000), some (.ref 1), some (.ref 499), some (.ref 515), some (.int x4), some (.int k1), some (.int b1)]) (st := []) (I := I3) (a := a + 2) (b := b + 12) (by omega) (by omega) (r_less 2108 (ls := [some (.ref 4000000), some (.ref 1), some (.ref 499), some (.ref 515), some (.int x4), some (.int k1), some (.int b1)]) (pm_less7 (k := k1) (b := b1)) (k I3 h.2.2))
  refine r_iload 1140 hC dL_law_1140 rfl ?_
  refine r_if_ne 1142 1157 hC dL_law_1142 (by decide) (fun _ => r_goto 1157 2108 hC dL_law_1157 (by decide) kz) (fun hc => ?_)
  replace h := h.2.1 hc
  refine r_aload_n 1145 hC dL_law_1145 rfl rfl ?_
  refine r_iconst 1146 (v := 0) hC dL_law_1146 (by decide) ?_
  refine r_lald 1147 hC hko (vp_in_nI (n := 0) (by decide) (by decide)) dL_law_1147 ?_
  refine r_iload 1148 hC dL_law_1148 rfl ?_
  refine r_i2l 1150 hC dL_law_1150 ?_
  refine r_lcmp 1151 hC dL_law_1151 ?_
  refine r_if_eq 1152 1157 hC dL_law_1152 (by decide) (fun _ => r_goto 1157 2108 hC dL_law_1157 (by decide) kz) (fun hc => absurd ?_ hc)
  show lg_cmp (I3 515 0).toInt64 b1.toInt64 = 0
  rw [h]; exact lg_cmp_0 _

def wC18 (G : pm_G) (xs : Nat → Int32) (x4 : Int32) (I : pm_I) (K : pm_I → Prop) : Prop :=
  wL_lastValue G 515 ((xs (x4 + 1).toNatClampNeg)) I (fun k1 I1 => wX7_lastValue G 499 ((xs (x4 + 1).toNatClampNeg)) I1 (fun b1 I2 => wX7_thrown G 499 I2 (fun t1 I3 => t1 = k1 ∧ (k1 = 0 → I3 515 0 = b1) ∧ K I3)))

set_option maxRecDepth 20000 in
theorem sC18 {G : pm_G} {X : pm_X} {a b L : Nat} {xs : Nat → Int32} {x4 : Int32} (hC : pm_C G X cL_law 7 RL (some .boolean) room_1) (hE : pm_E7 G X L xs x4) (I : pm_I) (K : pm_I → Prop) (hab : a + 40 ≤ room_1.cells ∧ b + 400 ≤ room_1.slots) (h : wC18 G xs x4 I K) (k : ∀ I9, K I9 → pm_R G X 7 (a + 40) (b + 400) 2108 [some (.ref 4000000), some (.ref 1), some (.ref 499), some (.ref 515), some (.int x4), none, none] [] I9) : pm_R G X 7 a b 1160 [some (.ref 4000000), some (.ref 1), some (.ref 499), some (.ref 515), some (.int x4), none, none] [] I := by
  obtain ⟨hG, hst, hX, hnc, hS, hN, hk1, hk7, hko, hs, hv1, hv2, hv3, hv4, hv5⟩ := hE
  unfold wC18 at h
  refine r_aload_n 1160 hC dL_law_1160 rfl rfl ?_
  refine l_arg 1161 (j := 1) (x4 := x4) hC hs rfl rfl hv1 (by decide) dL_law_1161 dL_law_1162 dL_law_1164 dL_law_1165 dL_law_1166 ?_
  refine r_aload_n 1167 hC dL_law_1167 rfl rfl ?_
  refine w_callS 1168 (n := 3) [.ref 1, .int (xs (x4 + 1).toNatClampNeg), .ref 515] [] hC dL_law_1168 (by decide) (by decide) tw_928 rfl tw_128 ⟨by decide, by decide, by decide +kernel⟩ tw_926 tw_927 rfl rfl (sL_lastValue (l := pm_l X) hG hst hX hnc 515 ((xs (x4 + 1).toNatClampNeg)) _ _ hk1 hko h) ⟨by have := hab.1; omega, by have := hab.2; omega⟩ (Nat.le_of_ble_eq_true rfl) ?_
  clear h; intro k1 I1 h
  refine r_istore 1171 [some (.ref 4000000), some (.ref 1), some (.ref 499), some (.ref 515), some (.int x4), some (.int k1), none] hC dL_law_1171 (by decide) rfl ?_
  refine r_aload_n 1173 hC dL_law_1173 rfl rfl ?_
  refine l_arg 1174 (j := 1) (x4 := x4) hC hs rfl rfl hv1 (by decide) dL_law_1174 dL_law_1175 dL_law_1177 dL_law_1178 dL_law_1179 ?_
  refine r_callV_i 1180 (n := 1) [.int (xs (x4 + 1).toNatClampNeg)] [] hC hk7 rfl dL_law_1180 (by decide) (by decide) tw_1524 tw_135 ⟨by decide, by decide, by decide +kernel⟩ tw_1521 tw_1522 tw_1523 rfl rfl (sX7_lastValue (l := pm_l X) hG 499 ((xs (x4 + 1).toNatClampNeg)) _ _ hk7 h) ⟨by have := hab.1; omega, by have := hab.2; omega⟩ (Nat.le_of_ble_eq_true rfl) ?_
  clear h; intro b1 I2 h
  refine r_istore 1183 [some (.ref 4000000), some (.ref 1), some (.ref 499), some (.ref 515), some (.int x4), some (.int k1), some (.int b1)] hC dL_law_1183 (by decide) rfl ?_
  refine r_aload_n 1185 hC dL_law_1185 rfl rfl ?_
  refine r_callV_i 1186 (n := 0) [] [] hC hk7 rfl dL_law_1186 (by decide) (by decide) tw_1273 tw_135 ⟨by decide, by decide, by decide +kernel⟩ tw_1270 tw_1271 tw_1272 rfl rfl (sX7_thrown (l := pm_l X) hG 499 _ _ hk7 h) ⟨by have := hab.1; omega, by have := hab.2; omega⟩ (Nat.le_of_ble_eq_true rfl) ?_
  clear h; intro t1 I3 h
  refine r_iload 1189 hC dL_law_1189 rfl ?_
  refine r_icmp_eq 1191 1196 hC dL_law_1191 (by decide) (fun _ => ?_) (fun hc => absurd h.1 hc)
  have kz := r_wid 2108 (G := G) (X := X) (nL := 7) (ls := [some (.ref 4000000), some (.ref 1), some (.ref 499), some (.ref 515), some (.int x4), some (.int k1), some (.int b1)]) (st := []) (I := I3) (a := a + 2) (b := b + 12) (by omega) (by omega) (r_less 2108 (ls := [some (.ref 4000000), some (.ref 1), some (.ref 499), some (.ref 515), some (.int x4), some (.int k1), some (.int b1)]) (pm_less7 (k := k1) (b := b1)) (k I3 h.2.2))
  refine r_iload 1196 hC dL_law_1196 rfl ?_
  refine r_if_ne 1198 1213 hC dL_law_1198 (by decide) (fun _ => r_goto 1213 2108 hC dL_law_1213 (by decide) kz) (fun hc => ?_)
  replace h := h.2.1 hc
  refine r_aload_n 1201 hC dL_law_1201 rfl rfl ?_
  refine r_iconst 1202 (v := 0) hC dL_law_1202 (by decide) ?_
  refine r_lald 1203 hC hko (vp_in_nI (n := 0) (by decide) (by decide)) dL_law_1203 ?_
  refine r_iload 1204 hC dL_law_1204 rfl ?_
  refine r_i2l 1206 hC dL_law_1206 ?_
  refine r_lcmp 1207 hC dL_law_1207 ?_
  refine r_if_eq 1208 1213 hC dL_law_1208 (by decide) (fun _ => r_goto 1213 2108 hC dL_law_1213 (by decide) kz) (fun hc => absurd ?_ hc)
  show lg_cmp (I3 515 0).toInt64 b1.toInt64 = 0
  rw [h]; exact lg_cmp_0 _

def wC19 (G : pm_G) (xs : Nat → Int32) (x4 : Int32) (I : pm_I) (K : pm_I → Prop) : Prop :=
  wL_digest G 515 ((xs (x4 + 1).toNatClampNeg)) I (fun k1 I1 => wX7_digest G 499 ((xs (x4 + 1).toNatClampNeg)) I1 (fun b1 I2 => wX7_thrown G 499 I2 (fun t1 I3 => t1 = k1 ∧ (k1 = 0 → I3 515 0 = b1) ∧ K I3)))

set_option maxRecDepth 20000 in
theorem sC19 {G : pm_G} {X : pm_X} {a b L : Nat} {xs : Nat → Int32} {x4 : Int32} (hC : pm_C G X cL_law 7 RL (some .boolean) room_1) (hE : pm_E7 G X L xs x4) (I : pm_I) (K : pm_I → Prop) (hab : a + 40 ≤ room_1.cells ∧ b + 400 ≤ room_1.slots) (h : wC19 G xs x4 I K) (k : ∀ I9, K I9 → pm_R G X 7 (a + 40) (b + 400) 2108 [some (.ref 4000000), some (.ref 1), some (.ref 499), some (.ref 515), some (.int x4), none, none] [] I9) : pm_R G X 7 a b 1216 [some (.ref 4000000), some (.ref 1), some (.ref 499), some (.ref 515), some (.int x4), none, none] [] I := by
  obtain ⟨hG, hst, hX, hnc, hS, hN, hk1, hk7, hko, hs, hv1, hv2, hv3, hv4, hv5⟩ := hE
  unfold wC19 at h
  refine r_aload_n 1216 hC dL_law_1216 rfl rfl ?_
  refine l_arg 1217 (j := 1) (x4 := x4) hC hs rfl rfl hv1 (by decide) dL_law_1217 dL_law_1218 dL_law_1220 dL_law_1221 dL_law_1222 ?_
  refine r_aload_n 1223 hC dL_law_1223 rfl rfl ?_
  refine w_callS 1224 (n := 3) [.ref 1, .int (xs (x4 + 1).toNatClampNeg), .ref 515] [] hC dL_law_1224 (by decide) (by decide) tw_936 rfl tw_128 ⟨by decide, by decide, by decide +kernel⟩ tw_934 tw_935 rfl rfl (sL_digest (l := pm_l X) hG hst hX hnc 515 ((xs (x4 + 1).toNatClampNeg)) _ _ hk1 hko h) ⟨by have := hab.1; omega, by have := hab.2; omega⟩ (Nat.le_of_ble_eq_true rfl) ?_
  clear h; intro k1 I1 h
  refine r_istore 1227 [some (.ref 4000000), some (.ref 1), some (.ref 499), some (.ref 515), some (.int x4), some (.int k1), none] hC dL_law_1227 (by decide) rfl ?_
  refine r_aload_n 1229 hC dL_law_1229 rfl rfl ?_
  refine l_arg 1230 (j := 1) (x4 := x4) hC hs rfl rfl hv1 (by decide) dL_law_1230 dL_law_1231 dL_law_1233 dL_law_1234 dL_law_1235 ?_
  refine r_callV_i 1236 (n := 1) [.int (xs (x4 + 1).toNatClampNeg)] [] hC hk7 rfl dL_law_1236 (by decide) (by decide) tw_1528 tw_135 ⟨by decide, by decide, by decide +kernel⟩ tw_1525 tw_1526 tw_1527 rfl rfl (sX7_digest (l := pm_l X) hG 499 ((xs (x4 + 1).toNatClampNeg)) _ _ hk7 h) ⟨by have := hab.1; omega, by have := hab.2; omega⟩ (Nat.le_of_ble_eq_true rfl) ?_
  clear h; intro b1 I2 h
  refine r_istore 1239 [some (.ref 4000000), some (.ref 1), some (.ref 499), some (.ref 515), some (.int x4), some (.int k1), some (.int b1)] hC dL_law_1239 (by decide) rfl ?_
  refine r_aload_n 1241 hC dL_law_1241 rfl rfl ?_
  refine r_callV_i 1242 (n := 0) [] [] hC hk7 rfl dL_law_1242 (by decide) (by decide) tw_1273 tw_135 ⟨by decide, by decide, by decide +kernel⟩ tw_1270 tw_1271 tw_1272 rfl rfl (sX7_thrown (l := pm_l X) hG 499 _ _ hk7 h) ⟨by have := hab.1; omega, by have := hab.2; omega⟩ (Nat.le_of_ble_eq_true rfl) ?_
  clear h; intro t1 I3 h
  refine r_iload 1245 hC dL_law_1245 rfl ?_
  refine r_icmp_eq 1247 1252 hC dL_law_1247 (by decide) (fun _ => ?_) (fun hc => absurd h.1 hc)
  have kz := r_wid 2108 (G := G) (X := X) (nL := 7) (ls := [some (.ref 4000000), some (.ref 1), some (.ref 499), some (.ref 515), some (.int x4), some (.int k1), some (.int b1)]) (st := []) (I := I3) (a := a + 1) (b := b + 6) (by omega) (by omega) (r_less 2108 (ls := [some (.ref 4000000), some (.ref 1), some (.ref 499), some (.ref 515), some (.int x4), some (.int k1), some (.int b1)]) (pm_less7 (k := k1) (b := b1)) (k I3 h.2.2))
  refine r_iload 1252 hC dL_law_1252 rfl ?_
  refine r_if_ne 1254 1269 hC dL_law_1254 (by decide) (fun _ => r_goto 1269 2108 hC dL_law_1269 (by decide) kz) (fun hc => ?_)
  replace h := h.2.1 hc
  refine r_aload_n 1257 hC dL_law_1257 rfl rfl ?_
  refine r_iconst 1258 (v := 0) hC dL_law_1258 (by decide) ?_
  refine r_lald 1259 hC hko (vp_in_nI (n := 0) (by decide) (by decide)) dL_law_1259 ?_
  refine r_iload 1260 hC dL_law_1260 rfl ?_
  refine r_i2l 1262 hC dL_law_1262 ?_
  refine r_lcmp 1263 hC dL_law_1263 ?_
  refine r_if_eq 1264 1269 hC dL_law_1264 (by decide) (fun _ => r_goto 1269 2108 hC dL_law_1269 (by decide) kz) (fun hc => absurd ?_ hc)
  show lg_cmp (I3 515 0).toInt64 b1.toInt64 = 0
  rw [h]; exact lg_cmp_0 _

def wC20 (G : pm_G) (xs : Nat → Int32) (x4 : Int32) (I : pm_I) (K : pm_I → Prop) : Prop :=
  wL_key G 515 ((xs (x4 + 1).toNatClampNeg)) I (fun k1 I1 => wX7_key G 499 ((xs (x4 + 1).toNatClampNeg)) I1 (fun b1 I2 => wX7_thrown G 499 I2 (fun t1 I3 => t1 = k1 ∧ (k1 = 0 → I3 515 0 = b1) ∧ K I3)))

set_option maxRecDepth 20000 in
theorem sC20 {G : pm_G} {X : pm_X} {a b L : Nat} {xs : Nat → Int32} {x4 : Int32} (hC : pm_C G X cL_law 7 RL (some .boolean) room_1) (hE : pm_E7 G X L xs x4) (I : pm_I) (K : pm_I → Prop) (hab : a + 40 ≤ room_1.cells ∧ b + 400 ≤ room_1.slots) (h : wC20 G xs x4 I K) (k : ∀ I9, K I9 → pm_R G X 7 (a + 40) (b + 400) 2108 [some (.ref 4000000), some (.ref 1), some (.ref 499), some (.ref 515), some (.int x4), none, none] [] I9) : pm_R G X 7 a b 1272 [some (.ref 4000000), some (.ref 1), some (.ref 499), some (.ref 515), some (.int x4), none, none] [] I := by
  obtain ⟨hG, hst, hX, hnc, hS, hN, hk1, hk7, hko, hs, hv1, hv2, hv3, hv4, hv5⟩ := hE
  unfold wC20 at h
  refine r_aload_n 1272 hC dL_law_1272 rfl rfl ?_
  refine l_arg 1273 (j := 1) (x4 := x4) hC hs rfl rfl hv1 (by decide) dL_law_1273 dL_law_1274 dL_law_1276 dL_law_1277 dL_law_1278 ?_
  refine r_aload_n 1279 hC dL_law_1279 rfl rfl ?_
  refine w_callS 1280 (n := 3) [.ref 1, .int (xs (x4 + 1).toNatClampNeg), .ref 515] [] hC dL_law_1280 (by decide) (by decide) tw_943 rfl tw_128 ⟨by decide, by decide, by decide +kernel⟩ tw_941 tw_942 rfl rfl (sL_key (l := pm_l X) hG hst hX hnc 515 ((xs (x4 + 1).toNatClampNeg)) _ _ hk1 hko h) ⟨by have := hab.1; omega, by have := hab.2; omega⟩ (Nat.le_of_ble_eq_true rfl) ?_
  clear h; intro k1 I1 h
  refine r_istore 1283 [some (.ref 4000000), some (.ref 1), some (.ref 499), some (.ref 515), some (.int x4), some (.int k1), none] hC dL_law_1283 (by decide) rfl ?_
  refine r_aload_n 1285 hC dL_law_1285 rfl rfl ?_
  refine l_arg 1286 (j := 1) (x4 := x4) hC hs rfl rfl hv1 (by decide) dL_law_1286 dL_law_1287 dL_law_1289 dL_law_1290 dL_law_1291 ?_
  refine r_callV_i 1292 (n := 1) [.int (xs (x4 + 1).toNatClampNeg)] [] hC hk7 rfl dL_law_1292 (by decide) (by decide) tw_1532 tw_135 ⟨by decide, by decide, by decide +kernel⟩ tw_1529 tw_1530 tw_1531 rfl rfl (sX7_key (l := pm_l X) hG 499 ((xs (x4 + 1).toNatClampNeg)) _ _ hk7 h) ⟨by have := hab.1; omega, by have := hab.2; omega⟩ (Nat.le_of_ble_eq_true rfl) ?_
  clear h; intro b1 I2 h
  refine r_istore 1295 [some (.ref 4000000), some (.ref 1), some (.ref 499), some (.ref 515), some (.int x4), some (.int k1), some (.int b1)] hC dL_law_1295 (by decide) rfl ?_
  refine r_aload_n 1297 hC dL_law_1297 rfl rfl ?_
  refine r_callV_i 1298 (n := 0) [] [] hC hk7 rfl dL_law_1298 (by decide) (by decide) tw_1273 tw_135 ⟨by decide, by decide, by decide +kernel⟩ tw_1270 tw_1271 tw_1272 rfl rfl (sX7_thrown (l := pm_l X) hG 499 _ _ hk7 h) ⟨by have := hab.1; omega, by have := hab.2; omega⟩ (Nat.le_of_ble_eq_true rfl) ?_
  clear h; intro t1 I3 h
  refine r_iload 1301 hC dL_law_1301 rfl ?_
  refine r_icmp_eq 1303 1308 hC dL_law_1303 (by decide) (fun _ => ?_) (fun hc => absurd h.1 hc)
  have kz := r_wid 2108 (G := G) (X := X) (nL := 7) (ls := [some (.ref 4000000), some (.ref 1), some (.ref 499), some (.ref 515), some (.int x4), some (.int k1), some (.int b1)]) (st := []) (I := I3) (a := a + 1) (b := b + 6) (by omega) (by omega) (r_less 2108 (ls := [some (.ref 4000000), some (.ref 1), some (.ref 499), some (.ref 515), some (.int x4), some (.int k1), some (.int b1)]) (pm_less7 (k := k1) (b := b1)) (k I3 h.2.2))
  refine r_iload 1308 hC dL_law_1308 rfl ?_
  refine r_if_ne 1310 1325 hC dL_law_1310 (by decide) (fun _ => r_goto 1325 2108 hC dL_law_1325 (by decide) kz) (fun hc => ?_)
  replace h := h.2.1 hc
  refine r_aload_n 1313 hC dL_law_1313 rfl rfl ?_
  refine r_iconst 1314 (v := 0) hC dL_law_1314 (by decide) ?_
  refine r_lald 1315 hC hko (vp_in_nI (n := 0) (by decide) (by decide)) dL_law_1315 ?_
  refine r_iload 1316 hC dL_law_1316 rfl ?_
  refine r_i2l 1318 hC dL_law_1318 ?_
  refine r_lcmp 1319 hC dL_law_1319 ?_
  refine r_if_eq 1320 1325 hC dL_law_1320 (by decide) (fun _ => r_goto 1325 2108 hC dL_law_1325 (by decide) kz) (fun hc => absurd ?_ hc)
  show lg_cmp (I3 515 0).toInt64 b1.toInt64 = 0
  rw [h]; exact lg_cmp_0 _

def wC21 (G : pm_G) (xs : Nat → Int32) (x4 : Int32) (I : pm_I) (K : pm_I → Prop) : Prop :=
  wL_oldestKey G 515 ((xs (x4 + 1).toNatClampNeg)) I (fun k1 I1 => wX7_oldestKey G 499 ((xs (x4 + 1).toNatClampNeg)) I1 (fun b1 I2 => wX7_thrown G 499 I2 (fun t1 I3 => t1 = k1 ∧ (k1 = 0 → I3 515 0 = b1) ∧ K I3)))

set_option maxRecDepth 20000 in
theorem sC21 {G : pm_G} {X : pm_X} {a b L : Nat} {xs : Nat → Int32} {x4 : Int32} (hC : pm_C G X cL_law 7 RL (some .boolean) room_1) (hE : pm_E7 G X L xs x4) (I : pm_I) (K : pm_I → Prop) (hab : a + 40 ≤ room_1.cells ∧ b + 400 ≤ room_1.slots) (h : wC21 G xs x4 I K) (k : ∀ I9, K I9 → pm_R G X 7 (a + 40) (b + 400) 2108 [some (.ref 4000000), some (.ref 1), some (.ref 499), some (.ref 515), some (.int x4), none, none] [] I9) : pm_R G X 7 a b 1328 [some (.ref 4000000), some (.ref 1), some (.ref 499), some (.ref 515), some (.int x4), none, none] [] I := by
  obtain ⟨hG, hst, hX, hnc, hS, hN, hk1, hk7, hko, hs, hv1, hv2, hv3, hv4, hv5⟩ := hE
  unfold wC21 at h
  refine r_aload_n 1328 hC dL_law_1328 rfl rfl ?_
  refine l_arg 1329 (j := 1) (x4 := x4) hC hs rfl rfl hv1 (by decide) dL_law_1329 dL_law_1330 dL_law_1332 dL_law_1333 dL_law_1334 ?_
  refine r_aload_n 1335 hC dL_law_1335 rfl rfl ?_
  refine w_callS 1336 (n := 3) [.ref 1, .int (xs (x4 + 1).toNatClampNeg), .ref 515] [] hC dL_law_1336 (by decide) (by decide) tw_950 rfl tw_128 ⟨by decide, by decide, by decide +kernel⟩ tw_948 tw_949 rfl rfl (sL_oldestKey (l := pm_l X) hG hst hX hnc 515 ((xs (x4 + 1).toNatClampNeg)) _ _ hk1 hko h) ⟨by have := hab.1; omega, by have := hab.2; omega⟩ (Nat.le_of_ble_eq_true rfl) ?_
  clear h; intro k1 I1 h
  refine r_istore 1339 [some (.ref 4000000), some (.ref 1), some (.ref 499), some (.ref 515), some (.int x4), some (.int k1), none] hC dL_law_1339 (by decide) rfl ?_
  refine r_aload_n 1341 hC dL_law_1341 rfl rfl ?_
  refine l_arg 1342 (j := 1) (x4 := x4) hC hs rfl rfl hv1 (by decide) dL_law_1342 dL_law_1343 dL_law_1345 dL_law_1346 dL_law_1347 ?_
  refine r_callV_i 1348 (n := 1) [.int (xs (x4 + 1).toNatClampNeg)] [] hC hk7 rfl dL_law_1348 (by decide) (by decide) tw_1536 tw_135 ⟨by decide, by decide, by decide +kernel⟩ tw_1533 tw_1534 tw_1535 rfl rfl (sX7_oldestKey (l := pm_l X) hG 499 ((xs (x4 + 1).toNatClampNeg)) _ _ hk7 h) ⟨by have := hab.1; omega, by have := hab.2; omega⟩ (Nat.le_of_ble_eq_true rfl) ?_
  clear h; intro b1 I2 h
  refine r_istore 1351 [some (.ref 4000000), some (.ref 1), some (.ref 499), some (.ref 515), some (.int x4), some (.int k1), some (.int b1)] hC dL_law_1351 (by decide) rfl ?_
  refine r_aload_n 1353 hC dL_law_1353 rfl rfl ?_
  refine r_callV_i 1354 (n := 0) [] [] hC hk7 rfl dL_law_1354 (by decide) (by decide) tw_1273 tw_135 ⟨by decide, by decide, by decide +kernel⟩ tw_1270 tw_1271 tw_1272 rfl rfl (sX7_thrown (l := pm_l X) hG 499 _ _ hk7 h) ⟨by have := hab.1; omega, by have := hab.2; omega⟩ (Nat.le_of_ble_eq_true rfl) ?_
  clear h; intro t1 I3 h
  refine r_iload 1357 hC dL_law_1357 rfl ?_
  refine r_icmp_eq 1359 1364 hC dL_law_1359 (by decide) (fun _ => ?_) (fun hc => absurd h.1 hc)
  have kz := r_wid 2108 (G := G) (X := X) (nL := 7) (ls := [some (.ref 4000000), some (.ref 1), some (.ref 499), some (.ref 515), some (.int x4), some (.int k1), some (.int b1)]) (st := []) (I := I3) (a := a + 1) (b := b + 6) (by omega) (by omega) (r_less 2108 (ls := [some (.ref 4000000), some (.ref 1), some (.ref 499), some (.ref 515), some (.int x4), some (.int k1), some (.int b1)]) (pm_less7 (k := k1) (b := b1)) (k I3 h.2.2))
  refine r_iload 1364 hC dL_law_1364 rfl ?_
  refine r_if_ne 1366 1381 hC dL_law_1366 (by decide) (fun _ => r_goto 1381 2108 hC dL_law_1381 (by decide) kz) (fun hc => ?_)
  replace h := h.2.1 hc
  refine r_aload_n 1369 hC dL_law_1369 rfl rfl ?_
  refine r_iconst 1370 (v := 0) hC dL_law_1370 (by decide) ?_
  refine r_lald 1371 hC hko (vp_in_nI (n := 0) (by decide) (by decide)) dL_law_1371 ?_
  refine r_iload 1372 hC dL_law_1372 rfl ?_
  refine r_i2l 1374 hC dL_law_1374 ?_
  refine r_lcmp 1375 hC dL_law_1375 ?_
  refine r_if_eq 1376 1381 hC dL_law_1376 (by decide) (fun _ => r_goto 1381 2108 hC dL_law_1381 (by decide) kz) (fun hc => absurd ?_ hc)
  show lg_cmp (I3 515 0).toInt64 b1.toInt64 = 0
  rw [h]; exact lg_cmp_0 _

def wC22 (G : pm_G) (xs : Nat → Int32) (x4 : Int32) (I : pm_I) (K : pm_I → Prop) : Prop :=
  wL_keyStart G 515 ((xs (x4 + 1).toNatClampNeg)) I (fun k1 I1 => wX7_keyStart G 499 ((xs (x4 + 1).toNatClampNeg)) I1 (fun b1 I2 => wX7_thrown G 499 I2 (fun t1 I3 => t1 = k1 ∧ (k1 = 0 → I3 515 0 = b1) ∧ K I3)))

set_option maxRecDepth 20000 in
theorem sC22 {G : pm_G} {X : pm_X} {a b L : Nat} {xs : Nat → Int32} {x4 : Int32} (hC : pm_C G X cL_law 7 RL (some .boolean) room_1) (hE : pm_E7 G X L xs x4) (I : pm_I) (K : pm_I → Prop) (hab : a + 40 ≤ room_1.cells ∧ b + 400 ≤ room_1.slots) (h : wC22 G xs x4 I K) (k : ∀ I9, K I9 → pm_R G X 7 (a + 40) (b + 400) 2108 [some (.ref 4000000), some (.ref 1), some (.ref 499), some (.ref 515), some (.int x4), none, none] [] I9) : pm_R G X 7 a b 1384 [some (.ref 4000000), some (.ref 1), some (.ref 499), some (.ref 515), some (.int x4), none, none] [] I := by
  obtain ⟨hG, hst, hX, hnc, hS, hN, hk1, hk7, hko, hs, hv1, hv2, hv3, hv4, hv5⟩ := hE
  unfold wC22 at h
  refine r_aload_n 1384 hC dL_law_1384 rfl rfl ?_
  refine l_arg 1385 (j := 1) (x4 := x4) hC hs rfl rfl hv1 (by decide) dL_law_1385 dL_law_1386 dL_law_1388 dL_law_1389 dL_law_1390 ?_
  refine r_aload_n 1391 hC dL_law_1391 rfl rfl ?_
  refine w_callS 1392 (n := 3) [.ref 1, .int (xs (x4 + 1).toNatClampNeg), .ref 515] [] hC dL_law_1392 (by decide) (by decide) tw_961 rfl tw_128 ⟨by decide, by decide, by decide +kernel⟩ tw_959 tw_960 rfl rfl (sL_keyStart (l := pm_l X) hG hst hX hnc 515 ((xs (x4 + 1).toNatClampNeg)) _ _ hk1 hko h) ⟨by have := hab.1; omega, by have := hab.2; omega⟩ (Nat.le_of_ble_eq_true rfl) ?_
  clear h; intro k1 I1 h
  refine r_istore 1395 [some (.ref 4000000), some (.ref 1), some (.ref 499), some (.ref 515), some (.int x4), some (.int k1), none] hC dL_law_1395 (by decide) rfl ?_
  refine r_aload_n 1397 hC dL_law_1397 rfl rfl ?_
  refine l_arg 1398 (j := 1) (x4 := x4) hC hs rfl rfl hv1 (by decide) dL_law_1398 dL_law_1399 dL_law_1401 dL_law_1402 dL_law_1403 ?_
  refine r_callV_i 1404 (n := 1) [.int (xs (x4 + 1).toNatClampNeg)] [] hC hk7 rfl dL_law_1404 (by decide) (by decide) tw_1540 tw_135 ⟨by decide, by decide, by decide +kernel⟩ tw_1537 tw_1538 tw_1539 rfl rfl (sX7_keyStart (l := pm_l X) hG 499 ((xs (x4 + 1).toNatClampNeg)) _ _ hk7 h) ⟨by have := hab.1; omega, by have := hab.2; omega⟩ (Nat.le_of_ble_eq_true rfl) ?_
  clear h; intro b1 I2 h
  refine r_istore 1407 [some (.ref 4000000), some (.ref 1), some (.ref 499), some (.ref 515), some (.int x4), some (.int k1), some (.int b1)] hC dL_law_1407 (by decide) rfl ?_
  refine r_aload_n 1409 hC dL_law_1409 rfl rfl ?_
  refine r_callV_i 1410 (n := 0) [] [] hC hk7 rfl dL_law_1410 (by decide) (by decide) tw_1273 tw_135 ⟨by decide, by decide, by decide +kernel⟩ tw_1270 tw_1271 tw_1272 rfl rfl (sX7_thrown (l := pm_l X) hG 499 _ _ hk7 h) ⟨by have := hab.1; omega, by have := hab.2; omega⟩ (Nat.le_of_ble_eq_true rfl) ?_
  clear h; intro t1 I3 h
  refine r_iload 1413 hC dL_law_1413 rfl ?_
  refine r_icmp_eq 1415 1420 hC dL_law_1415 (by decide) (fun _ => ?_) (fun hc => absurd h.1 hc)
  have kz := r_wid 2108 (G := G) (X := X) (nL := 7) (ls := [some (.ref 4000000), some (.ref 1), some (.ref 499), some (.ref 515), some (.int x4), some (.int k1), some (.int b1)]) (st := []) (I := I3) (a := a + 1) (b := b + 6) (by omega) (by omega) (r_less 2108 (ls := [some (.ref 4000000), some (.ref 1), some (.ref 499), some (.ref 515), some (.int x4), some (.int k1), some (.int b1)]) (pm_less7 (k := k1) (b := b1)) (k I3 h.2.2))
  refine r_iload 1420 hC dL_law_1420 rfl ?_
  refine r_if_ne 1422 1437 hC dL_law_1422 (by decide) (fun _ => r_goto 1437 2108 hC dL_law_1437 (by decide) kz) (fun hc => ?_)
  replace h := h.2.1 hc
  refine r_aload_n 1425 hC dL_law_1425 rfl rfl ?_
  refine r_iconst 1426 (v := 0) hC dL_law_1426 (by decide) ?_
  refine r_lald 1427 hC hko (vp_in_nI (n := 0) (by decide) (by decide)) dL_law_1427 ?_
  refine r_iload 1428 hC dL_law_1428 rfl ?_
  refine r_i2l 1430 hC dL_law_1430 ?_
  refine r_lcmp 1431 hC dL_law_1431 ?_
  refine r_if_eq 1432 1437 hC dL_law_1432 (by decide) (fun _ => r_goto 1437 2108 hC dL_law_1437 (by decide) kz) (fun hc => absurd ?_ hc)
  show lg_cmp (I3 515 0).toInt64 b1.toInt64 = 0
  rw [h]; exact lg_cmp_0 _

def wC23 (G : pm_G) (xs : Nat → Int32) (x4 : Int32) (I : pm_I) (K : pm_I → Prop) : Prop :=
  wL_ticksToDeliver G 515 ((xs (x4 + 1).toNatClampNeg)) I (fun k1 I1 => wX7_ticksToDeliver G 499 ((xs (x4 + 1).toNatClampNeg)) I1 (fun b1 I2 => wX7_thrown G 499 I2 (fun t1 I3 => t1 = k1 ∧ (k1 = 0 → I3 515 0 = b1) ∧ K I3)))

set_option maxRecDepth 20000 in
theorem sC23 {G : pm_G} {X : pm_X} {a b L : Nat} {xs : Nat → Int32} {x4 : Int32} (hC : pm_C G X cL_law 7 RL (some .boolean) room_1) (hE : pm_E7 G X L xs x4) (I : pm_I) (K : pm_I → Prop) (hab : a + 40 ≤ room_1.cells ∧ b + 400 ≤ room_1.slots) (h : wC23 G xs x4 I K) (k : ∀ I9, K I9 → pm_R G X 7 (a + 40) (b + 400) 2108 [some (.ref 4000000), some (.ref 1), some (.ref 499), some (.ref 515), some (.int x4), none, none] [] I9) : pm_R G X 7 a b 1440 [some (.ref 4000000), some (.ref 1), some (.ref 499), some (.ref 515), some (.int x4), none, none] [] I := by
  obtain ⟨hG, hst, hX, hnc, hS, hN, hk1, hk7, hko, hs, hv1, hv2, hv3, hv4, hv5⟩ := hE
  unfold wC23 at h
  refine r_aload_n 1440 hC dL_law_1440 rfl rfl ?_
  refine l_arg 1441 (j := 1) (x4 := x4) hC hs rfl rfl hv1 (by decide) dL_law_1441 dL_law_1442 dL_law_1444 dL_law_1445 dL_law_1446 ?_
  refine r_aload_n 1447 hC dL_law_1447 rfl rfl ?_
  refine w_callS 1448 (n := 3) [.ref 1, .int (xs (x4 + 1).toNatClampNeg), .ref 515] [] hC dL_law_1448 (by decide) (by decide) tw_968 rfl tw_128 ⟨by decide, by decide, by decide +kernel⟩ tw_966 tw_967 rfl rfl (sL_ticksToDeliver (l := pm_l X) hG hst hX hnc 515 ((xs (x4 + 1).toNatClampNeg)) _ _ hk1 hko h) ⟨by have := hab.1; omega, by have := hab.2; omega⟩ (Nat.le_of_ble_eq_true rfl) ?_
  clear h; intro k1 I1 h
  refine r_istore 1451 [some (.ref 4000000), some (.ref 1), some (.ref 499), some (.ref 515), some (.int x4), some (.int k1), none] hC dL_law_1451 (by decide) rfl ?_
  refine r_aload_n 1453 hC dL_law_1453 rfl rfl ?_
  refine l_arg 1454 (j := 1) (x4 := x4) hC hs rfl rfl hv1 (by decide) dL_law_1454 dL_law_1455 dL_law_1457 dL_law_1458 dL_law_1459 ?_
  refine r_callV_i 1460 (n := 1) [.int (xs (x4 + 1).toNatClampNeg)] [] hC hk7 rfl dL_law_1460 (by decide) (by decide) tw_1544 tw_135 ⟨by decide, by decide, by decide +kernel⟩ tw_1541 tw_1542 tw_1543 rfl rfl (sX7_ticksToDeliver (l := pm_l X) hG 499 ((xs (x4 + 1).toNatClampNeg)) _ _ hk7 h) ⟨by have := hab.1; omega, by have := hab.2; omega⟩ (Nat.le_of_ble_eq_true rfl) ?_
  clear h; intro b1 I2 h
  refine r_istore 1463 [some (.ref 4000000), some (.ref 1), some (.ref 499), some (.ref 515), some (.int x4), some (.int k1), some (.int b1)] hC dL_law_1463 (by decide) rfl ?_
  refine r_aload_n 1465 hC dL_law_1465 rfl rfl ?_
  refine r_callV_i 1466 (n := 0) [] [] hC hk7 rfl dL_law_1466 (by decide) (by decide) tw_1273 tw_135 ⟨by decide, by decide, by decide +kernel⟩ tw_1270 tw_1271 tw_1272 rfl rfl (sX7_thrown (l := pm_l X) hG 499 _ _ hk7 h) ⟨by have := hab.1; omega, by have := hab.2; omega⟩ (Nat.le_of_ble_eq_true rfl) ?_
  clear h; intro t1 I3 h
  refine r_iload 1469 hC dL_law_1469 rfl ?_
  refine r_icmp_eq 1471 1476 hC dL_law_1471 (by decide) (fun _ => ?_) (fun hc => absurd h.1 hc)
  have kz := r_wid 2108 (G := G) (X := X) (nL := 7) (ls := [some (.ref 4000000), some (.ref 1), some (.ref 499), some (.ref 515), some (.int x4), some (.int k1), some (.int b1)]) (st := []) (I := I3) (a := a + 1) (b := b + 6) (by omega) (by omega) (r_less 2108 (ls := [some (.ref 4000000), some (.ref 1), some (.ref 499), some (.ref 515), some (.int x4), some (.int k1), some (.int b1)]) (pm_less7 (k := k1) (b := b1)) (k I3 h.2.2))
  refine r_iload 1476 hC dL_law_1476 rfl ?_
  refine r_if_ne 1478 1493 hC dL_law_1478 (by decide) (fun _ => r_goto 1493 2108 hC dL_law_1493 (by decide) kz) (fun hc => ?_)
  replace h := h.2.1 hc
  refine r_aload_n 1481 hC dL_law_1481 rfl rfl ?_
  refine r_iconst 1482 (v := 0) hC dL_law_1482 (by decide) ?_
  refine r_lald 1483 hC hko (vp_in_nI (n := 0) (by decide) (by decide)) dL_law_1483 ?_
  refine r_iload 1484 hC dL_law_1484 rfl ?_
  refine r_i2l 1486 hC dL_law_1486 ?_
  refine r_lcmp 1487 hC dL_law_1487 ?_
  refine r_if_eq 1488 1493 hC dL_law_1488 (by decide) (fun _ => r_goto 1493 2108 hC dL_law_1493 (by decide) kz) (fun hc => absurd ?_ hc)
  show lg_cmp (I3 515 0).toInt64 b1.toInt64 = 0
  rw [h]; exact lg_cmp_0 _

def wC24 (G : pm_G) (xs : Nat → Int32) (x4 : Int32) (I : pm_I) (K : pm_I → Prop) : Prop :=
  wL_ticksToDirect G 515 ((xs (x4 + 1).toNatClampNeg)) I (fun k1 I1 => wX7_ticksToDirect G 499 ((xs (x4 + 1).toNatClampNeg)) I1 (fun b1 I2 => wX7_thrown G 499 I2 (fun t1 I3 => t1 = k1 ∧ (k1 = 0 → I3 515 0 = b1) ∧ K I3)))

set_option maxRecDepth 20000 in
theorem sC24 {G : pm_G} {X : pm_X} {a b L : Nat} {xs : Nat → Int32} {x4 : Int32} (hC : pm_C G X cL_law 7 RL (some .boolean) room_1) (hE : pm_E7 G X L xs x4) (I : pm_I) (K : pm_I → Prop) (hab : a + 40 ≤ room_1.cells ∧ b + 400 ≤ room_1.slots) (h : wC24 G xs x4 I K) (k : ∀ I9, K I9 → pm_R G X 7 (a + 40) (b + 400) 2108 [some (.ref 4000000), some (.ref 1), some (.ref 499), some (.ref 515), some (.int x4), none, none] [] I9) : pm_R G X 7 a b 1496 [some (.ref 4000000), some (.ref 1), some (.ref 499), some (.ref 515), some (.int x4), none, none] [] I := by
  obtain ⟨hG, hst, hX, hnc, hS, hN, hk1, hk7, hko, hs, hv1, hv2, hv3, hv4, hv5⟩ := hE
  unfold wC24 at h
  refine r_aload_n 1496 hC dL_law_1496 rfl rfl ?_
  refine l_arg 1497 (j := 1) (x4 := x4) hC hs rfl rfl hv1 (by decide) dL_law_1497 dL_law_1498 dL_law_1500 dL_law_1501 dL_law_1502 ?_
  refine r_aload_n 1503 hC dL_law_1503 rfl rfl ?_
  refine w_callS 1504 (n := 3) [.ref 1, .int (xs (x4 + 1).toNatClampNeg), .ref 515] [] hC dL_law_1504 (by decide) (by decide) tw_1022 rfl tw_128 ⟨by decide, by decide, by decide +kernel⟩ tw_1020 tw_1021 rfl rfl (sL_ticksToDirect (l := pm_l X) hG hst hX hnc 515 ((xs (x4 + 1).toNatClampNeg)) _ _ hk1 hko h) ⟨by have := hab.1; omega, by have := hab.2; omega⟩ (Nat.le_of_ble_eq_true rfl) ?_
  clear h; intro k1 I1 h
  refine r_istore 1507 [some (.ref 4000000), some (.ref 1), some (.ref 499), some (.ref 515), some (.int x4), some (.int k1), none] hC dL_law_1507 (by decide) rfl ?_
  refine r_aload_n 1509 hC dL_law_1509 rfl rfl ?_
  refine l_arg 1510 (j := 1) (x4 := x4) hC hs rfl rfl hv1 (by decide) dL_law_1510 dL_law_1511 dL_law_1513 dL_law_1514 dL_law_1515 ?_
  refine r_callV_i 1516 (n := 1) [.int (xs (x4 + 1).toNatClampNeg)] [] hC hk7 rfl dL_law_1516 (by decide) (by decide) tw_1583 tw_135 ⟨by decide, by decide, by decide +kernel⟩ tw_1580 tw_1581 tw_1582 rfl rfl (sX7_ticksToDirect (l := pm_l X) hG 499 ((xs (x4 + 1).toNatClampNeg)) _ _ hk7 h) ⟨by have := hab.1; omega, by have := hab.2; omega⟩ (Nat.le_of_ble_eq_true rfl) ?_
  clear h; intro b1 I2 h
  refine r_istore 1519 [some (.ref 4000000), some (.ref 1), some (.ref 499), some (.ref 515), some (.int x4), some (.int k1), some (.int b1)] hC dL_law_1519 (by decide) rfl ?_
  refine r_aload_n 1521 hC dL_law_1521 rfl rfl ?_
  refine r_callV_i 1522 (n := 0) [] [] hC hk7 rfl dL_law_1522 (by decide) (by decide) tw_1273 tw_135 ⟨by decide, by decide, by decide +kernel⟩ tw_1270 tw_1271 tw_1272 rfl rfl (sX7_thrown (l := pm_l X) hG 499 _ _ hk7 h) ⟨by have := hab.1; omega, by have := hab.2; omega⟩ (Nat.le_of_ble_eq_true rfl) ?_
  clear h; intro t1 I3 h
  refine r_iload 1525 hC dL_law_1525 rfl ?_
  refine r_icmp_eq 1527 1532 hC dL_law_1527 (by decide) (fun _ => ?_) (fun hc => absurd h.1 hc)
  have kz := r_wid 2108 (G := G) (X := X) (nL := 7) (ls := [some (.ref 4000000), some (.ref 1), some (.ref 499), some (.ref 515), some (.int x4), some (.int k1), some (.int b1)]) (st := []) (I := I3) (a := a + 1) (b := b + 6) (by omega) (by omega) (r_less 2108 (ls := [some (.ref 4000000), some (.ref 1), some (.ref 499), some (.ref 515), some (.int x4), some (.int k1), some (.int b1)]) (pm_less7 (k := k1) (b := b1)) (k I3 h.2.2))
  refine r_iload 1532 hC dL_law_1532 rfl ?_
  refine r_if_ne 1534 1549 hC dL_law_1534 (by decide) (fun _ => r_goto 1549 2108 hC dL_law_1549 (by decide) kz) (fun hc => ?_)
  replace h := h.2.1 hc
  refine r_aload_n 1537 hC dL_law_1537 rfl rfl ?_
  refine r_iconst 1538 (v := 0) hC dL_law_1538 (by decide) ?_
  refine r_lald 1539 hC hko (vp_in_nI (n := 0) (by decide) (by decide)) dL_law_1539 ?_
  refine r_iload 1540 hC dL_law_1540 rfl ?_
  refine r_i2l 1542 hC dL_law_1542 ?_
  refine r_lcmp 1543 hC dL_law_1543 ?_
  refine r_if_eq 1544 1549 hC dL_law_1544 (by decide) (fun _ => r_goto 1549 2108 hC dL_law_1549 (by decide) kz) (fun hc => absurd ?_ hc)
  show lg_cmp (I3 515 0).toInt64 b1.toInt64 = 0
  rw [h]; exact lg_cmp_0 _

def wC25 (G : pm_G) (xs : Nat → Int32) (x4 : Int32) (I : pm_I) (K : pm_I → Prop) : Prop :=
  wL_run G 515 ((xs (x4 + 1).toNatClampNeg)) I (fun k1 I1 => wX7_run G 499 ((xs (x4 + 1).toNatClampNeg)) I1 (fun b1 I2 => wX7_thrown G 499 I2 (fun t1 I3 => t1 = k1 ∧ (k1 = 0 → I3 515 0 = b1) ∧ K I3)))

set_option maxRecDepth 20000 in
theorem sC25 {G : pm_G} {X : pm_X} {a b L : Nat} {xs : Nat → Int32} {x4 : Int32} (hC : pm_C G X cL_law 7 RL (some .boolean) room_1) (hE : pm_E7 G X L xs x4) (I : pm_I) (K : pm_I → Prop) (hab : a + 40 ≤ room_1.cells ∧ b + 400 ≤ room_1.slots) (h : wC25 G xs x4 I K) (k : ∀ I9, K I9 → pm_R G X 7 (a + 40) (b + 400) 2108 [some (.ref 4000000), some (.ref 1), some (.ref 499), some (.ref 515), some (.int x4), none, none] [] I9) : pm_R G X 7 a b 1552 [some (.ref 4000000), some (.ref 1), some (.ref 499), some (.ref 515), some (.int x4), none, none] [] I := by
  obtain ⟨hG, hst, hX, hnc, hS, hN, hk1, hk7, hko, hs, hv1, hv2, hv3, hv4, hv5⟩ := hE
  unfold wC25 at h
  refine r_aload_n 1552 hC dL_law_1552 rfl rfl ?_
  refine l_arg 1553 (j := 1) (x4 := x4) hC hs rfl rfl hv1 (by decide) dL_law_1553 dL_law_1554 dL_law_1556 dL_law_1557 dL_law_1558 ?_
  refine r_aload_n 1559 hC dL_law_1559 rfl rfl ?_
  refine w_callS 1560 (n := 3) [.ref 1, .int (xs (x4 + 1).toNatClampNeg), .ref 515] [] hC dL_law_1560 (by decide) (by decide) tw_1029 rfl tw_128 ⟨by decide, by decide, by decide +kernel⟩ tw_1027 tw_1028 rfl rfl (sL_run (l := pm_l X) hG hst hX hnc 515 ((xs (x4 + 1).toNatClampNeg)) _ _ hk1 hko h) ⟨by have := hab.1; omega, by have := hab.2; omega⟩ (Nat.le_of_ble_eq_true rfl) ?_
  clear h; intro k1 I1 h
  refine r_istore 1563 [some (.ref 4000000), some (.ref 1), some (.ref 499), some (.ref 515), some (.int x4), some (.int k1), none] hC dL_law_1563 (by decide) rfl ?_
  refine r_aload_n 1565 hC dL_law_1565 rfl rfl ?_
  refine l_arg 1566 (j := 1) (x4 := x4) hC hs rfl rfl hv1 (by decide) dL_law_1566 dL_law_1567 dL_law_1569 dL_law_1570 dL_law_1571 ?_
  refine r_callV_i 1572 (n := 1) [.int (xs (x4 + 1).toNatClampNeg)] [] hC hk7 rfl dL_law_1572 (by decide) (by decide) tw_1587 tw_135 ⟨by decide, by decide, by decide +kernel⟩ tw_1584 tw_1585 tw_1586 rfl rfl (sX7_run (l := pm_l X) hG 499 ((xs (x4 + 1).toNatClampNeg)) _ _ hk7 h) ⟨by have := hab.1; omega, by have := hab.2; omega⟩ (Nat.le_of_ble_eq_true rfl) ?_
  clear h; intro b1 I2 h
  refine r_istore 1575 [some (.ref 4000000), some (.ref 1), some (.ref 499), some (.ref 515), some (.int x4), some (.int k1), some (.int b1)] hC dL_law_1575 (by decide) rfl ?_
  refine r_aload_n 1577 hC dL_law_1577 rfl rfl ?_
  refine r_callV_i 1578 (n := 0) [] [] hC hk7 rfl dL_law_1578 (by decide) (by decide) tw_1273 tw_135 ⟨by decide, by decide, by decide +kernel⟩ tw_1270 tw_1271 tw_1272 rfl rfl (sX7_thrown (l := pm_l X) hG 499 _ _ hk7 h) ⟨by have := hab.1; omega, by have := hab.2; omega⟩ (Nat.le_of_ble_eq_true rfl) ?_
  clear h; intro t1 I3 h
  refine r_iload 1581 hC dL_law_1581 rfl ?_
  refine r_icmp_eq 1583 1588 hC dL_law_1583 (by decide) (fun _ => ?_) (fun hc => absurd h.1 hc)
  have kz := r_wid 2108 (G := G) (X := X) (nL := 7) (ls := [some (.ref 4000000), some (.ref 1), some (.ref 499), some (.ref 515), some (.int x4), some (.int k1), some (.int b1)]) (st := []) (I := I3) (a := a + 1) (b := b + 6) (by omega) (by omega) (r_less 2108 (ls := [some (.ref 4000000), some (.ref 1), some (.ref 499), some (.ref 515), some (.int x4), some (.int k1), some (.int b1)]) (pm_less7 (k := k1) (b := b1)) (k I3 h.2.2))
  refine r_iload 1588 hC dL_law_1588 rfl ?_
  refine r_if_ne 1590 1605 hC dL_law_1590 (by decide) (fun _ => r_goto 1605 2108 hC dL_law_1605 (by decide) kz) (fun hc => ?_)
  replace h := h.2.1 hc
  refine r_aload_n 1593 hC dL_law_1593 rfl rfl ?_
  refine r_iconst 1594 (v := 0) hC dL_law_1594 (by decide) ?_
  refine r_lald 1595 hC hko (vp_in_nI (n := 0) (by decide) (by decide)) dL_law_1595 ?_
  refine r_iload 1596 hC dL_law_1596 rfl ?_
  refine r_i2l 1598 hC dL_law_1598 ?_
  refine r_lcmp 1599 hC dL_law_1599 ?_
  refine r_if_eq 1600 1605 hC dL_law_1600 (by decide) (fun _ => r_goto 1605 2108 hC dL_law_1605 (by decide) kz) (fun hc => absurd ?_ hc)
  show lg_cmp (I3 515 0).toInt64 b1.toInt64 = 0
  rw [h]; exact lg_cmp_0 _

def wC26 (G : pm_G) (xs : Nat → Int32) (x4 : Int32) (I : pm_I) (K : pm_I → Prop) : Prop :=
  wL_introduce G 515 ((xs (x4 + 1).toNatClampNeg)) ((xs (x4 + 2).toNatClampNeg)) ((xs (x4 + 3).toNatClampNeg)) I (fun k1 I1 => wX7_introduce G 499 ((xs (x4 + 1).toNatClampNeg)) ((xs (x4 + 2).toNatClampNeg)) ((xs (x4 + 3).toNatClampNeg)) I1 (fun b1 I2 => wX7_thrown G 499 I2 (fun t1 I3 => t1 = k1 ∧ (k1 = 0 → I3 515 0 = b1) ∧ K I3)))

set_option maxRecDepth 20000 in
theorem sC26 {G : pm_G} {X : pm_X} {a b L : Nat} {xs : Nat → Int32} {x4 : Int32} (hC : pm_C G X cL_law 7 RL (some .boolean) room_1) (hE : pm_E7 G X L xs x4) (I : pm_I) (K : pm_I → Prop) (hab : a + 40 ≤ room_1.cells ∧ b + 400 ≤ room_1.slots) (h : wC26 G xs x4 I K) (k : ∀ I9, K I9 → pm_R G X 7 (a + 40) (b + 400) 2108 [some (.ref 4000000), some (.ref 1), some (.ref 499), some (.ref 515), some (.int x4), none, none] [] I9) : pm_R G X 7 a b 1608 [some (.ref 4000000), some (.ref 1), some (.ref 499), some (.ref 515), some (.int x4), none, none] [] I := by
  obtain ⟨hG, hst, hX, hnc, hS, hN, hk1, hk7, hko, hs, hv1, hv2, hv3, hv4, hv5⟩ := hE
  unfold wC26 at h
  refine r_aload_n 1608 hC dL_law_1608 rfl rfl ?_
  refine l_arg 1609 (j := 1) (x4 := x4) hC hs rfl rfl hv1 (by decide) dL_law_1609 dL_law_1610 dL_law_1612 dL_law_1613 dL_law_1614 ?_
  refine l_arg 1615 (j := 2) (x4 := x4) hC hs rfl rfl hv2 (by decide) dL_law_1615 dL_law_1616 dL_law_1618 dL_law_1619 dL_law_1620 ?_
  refine l_arg 1621 (j := 3) (x4 := x4) hC hs rfl rfl hv3 (by decide) dL_law_1621 dL_law_1622 dL_law_1624 dL_law_1625 dL_law_1626 ?_
  refine r_aload_n 1627 hC dL_law_1627 rfl rfl ?_
  refine w_callS 1628 (n := 5) [.ref 1, .int (xs (x4 + 1).toNatClampNeg), .int (xs (x4 + 2).toNatClampNeg), .int (xs (x4 + 3).toNatClampNeg), .ref 515] [] hC dL_law_1628 (by decide) (by decide) tw_1045 rfl tw_128 ⟨by decide, by decide, by decide +kernel⟩ tw_1043 tw_1044 rfl rfl (sL_introduce (l := pm_l X) hG hst hX hnc 515 ((xs (x4 + 1).toNatClampNeg)) ((xs (x4 + 2).toNatClampNeg)) ((xs (x4 + 3).toNatClampNeg)) _ _ hk1 hko h) ⟨by have := hab.1; omega, by have := hab.2; omega⟩ (Nat.le_of_ble_eq_true rfl) ?_
  clear h; intro k1 I1 h
  refine r_istore 1631 [some (.ref 4000000), some (.ref 1), some (.ref 499), some (.ref 515), some (.int x4), some (.int k1), none] hC dL_law_1631 (by decide) rfl ?_
  refine r_aload_n 1633 hC dL_law_1633 rfl rfl ?_
  refine l_arg 1634 (j := 1) (x4 := x4) hC hs rfl rfl hv1 (by decide) dL_law_1634 dL_law_1635 dL_law_1637 dL_law_1638 dL_law_1639 ?_
  refine l_arg 1640 (j := 2) (x4 := x4) hC hs rfl rfl hv2 (by decide) dL_law_1640 dL_law_1641 dL_law_1643 dL_law_1644 dL_law_1645 ?_
  refine l_arg 1646 (j := 3) (x4 := x4) hC hs rfl rfl hv3 (by decide) dL_law_1646 dL_law_1647 dL_law_1649 dL_law_1650 dL_law_1651 ?_
  refine r_callV_i 1652 (n := 3) [.int (xs (x4 + 1).toNatClampNeg), .int (xs (x4 + 2).toNatClampNeg), .int (xs (x4 + 3).toNatClampNeg)] [] hC hk7 rfl dL_law_1652 (by decide) (by decide) tw_1595 tw_135 ⟨by decide, by decide, by decide +kernel⟩ tw_1592 tw_1593 tw_1594 rfl rfl (sX7_introduce (l := pm_l X) hG 499 ((xs (x4 + 1).toNatClampNeg)) ((xs (x4 + 2).toNatClampNeg)) ((xs (x4 + 3).toNatClampNeg)) _ _ hk7 h) ⟨by have := hab.1; omega, by have := hab.2; omega⟩ (Nat.le_of_ble_eq_true rfl) ?_
  clear h; intro b1 I2 h
  refine r_istore 1655 [some (.ref 4000000), some (.ref 1), some (.ref 499), some (.ref 515), some (.int x4), some (.int k1), some (.int b1)] hC dL_law_1655 (by decide) rfl ?_
  refine r_aload_n 1657 hC dL_law_1657 rfl rfl ?_
  refine r_callV_i 1658 (n := 0) [] [] hC hk7 rfl dL_law_1658 (by decide) (by decide) tw_1273 tw_135 ⟨by decide, by decide, by decide +kernel⟩ tw_1270 tw_1271 tw_1272 rfl rfl (sX7_thrown (l := pm_l X) hG 499 _ _ hk7 h) ⟨by have := hab.1; omega, by have := hab.2; omega⟩ (Nat.le_of_ble_eq_true rfl) ?_
  clear h; intro t1 I3 h
  refine r_iload 1661 hC dL_law_1661 rfl ?_
  refine r_icmp_eq 1663 1668 hC dL_law_1663 (by decide) (fun _ => ?_) (fun hc => absurd h.1 hc)
  have kz := r_wid 2108 (G := G) (X := X) (nL := 7) (ls := [some (.ref 4000000), some (.ref 1), some (.ref 499), some (.ref 515), some (.int x4), some (.int k1), some (.int b1)]) (st := []) (I := I3) (a := a + 5) (b := b + 30) (by omega) (by omega) (r_less 2108 (ls := [some (.ref 4000000), some (.ref 1), some (.ref 499), some (.ref 515), some (.int x4), some (.int k1), some (.int b1)]) (pm_less7 (k := k1) (b := b1)) (k I3 h.2.2))
  refine r_iload 1668 hC dL_law_1668 rfl ?_
  refine r_if_ne 1670 1685 hC dL_law_1670 (by decide) (fun _ => r_goto 1685 2108 hC dL_law_1685 (by decide) kz) (fun hc => ?_)
  replace h := h.2.1 hc
  refine r_aload_n 1673 hC dL_law_1673 rfl rfl ?_
  refine r_iconst 1674 (v := 0) hC dL_law_1674 (by decide) ?_
  refine r_lald 1675 hC hko (vp_in_nI (n := 0) (by decide) (by decide)) dL_law_1675 ?_
  refine r_iload 1676 hC dL_law_1676 rfl ?_
  refine r_i2l 1678 hC dL_law_1678 ?_
  refine r_lcmp 1679 hC dL_law_1679 ?_
  refine r_if_eq 1680 1685 hC dL_law_1680 (by decide) (fun _ => r_goto 1685 2108 hC dL_law_1685 (by decide) kz) (fun hc => absurd ?_ hc)
  show lg_cmp (I3 515 0).toInt64 b1.toInt64 = 0
  rw [h]; exact lg_cmp_0 _

def wC27 (G : pm_G) (xs : Nat → Int32) (x4 : Int32) (I : pm_I) (K : pm_I → Prop) : Prop :=
  wL_open G 515 ((xs (x4 + 1).toNatClampNeg)) ((xs (x4 + 2).toNatClampNeg)) I (fun k1 I1 => wX7_open G 499 ((xs (x4 + 1).toNatClampNeg)) ((xs (x4 + 2).toNatClampNeg)) I1 (fun b1 I2 => wX7_thrown G 499 I2 (fun t1 I3 => t1 = k1 ∧ (k1 = 0 → I3 515 0 = b1) ∧ K I3)))

set_option maxRecDepth 20000 in
theorem sC27 {G : pm_G} {X : pm_X} {a b L : Nat} {xs : Nat → Int32} {x4 : Int32} (hC : pm_C G X cL_law 7 RL (some .boolean) room_1) (hE : pm_E7 G X L xs x4) (I : pm_I) (K : pm_I → Prop) (hab : a + 40 ≤ room_1.cells ∧ b + 400 ≤ room_1.slots) (h : wC27 G xs x4 I K) (k : ∀ I9, K I9 → pm_R G X 7 (a + 40) (b + 400) 2108 [some (.ref 4000000), some (.ref 1), some (.ref 499), some (.ref 515), some (.int x4), none, none] [] I9) : pm_R G X 7 a b 1688 [some (.ref 4000000), some (.ref 1), some (.ref 499), some (.ref 515), some (.int x4), none, none] [] I := by
  obtain ⟨hG, hst, hX, hnc, hS, hN, hk1, hk7, hko, hs, hv1, hv2, hv3, hv4, hv5⟩ := hE
  unfold wC27 at h
  refine r_aload_n 1688 hC dL_law_1688 rfl rfl ?_
  refine l_arg 1689 (j := 1) (x4 := x4) hC hs rfl rfl hv1 (by decide) dL_law_1689 dL_law_1690 dL_law_1692 dL_law_1693 dL_law_1694 ?_
  refine l_arg 1695 (j := 2) (x4 := x4) hC hs rfl rfl hv2 (by decide) dL_law_1695 dL_law_1696 dL_law_1698 dL_law_1699 dL_law_1700 ?_
  refine r_aload_n 1701 hC dL_law_1701 rfl rfl ?_
  refine w_callS 1702 (n := 4) [.ref 1, .int (xs (x4 + 1).toNatClampNeg), .int (xs (x4 + 2).toNatClampNeg), .ref 515] [] hC dL_law_1702 (by decide) (by decide) tw_1064 rfl tw_128 ⟨by decide, by decide, by decide +kernel⟩ tw_1062 tw_1063 rfl rfl (sL_open (l := pm_l X) hG hst hX hnc 515 ((xs (x4 + 1).toNatClampNeg)) ((xs (x4 + 2).toNatClampNeg)) _ _ hk1 hko h) ⟨by have := hab.1; omega, by have := hab.2; omega⟩ (Nat.le_of_ble_eq_true rfl) ?_
  clear h; intro k1 I1 h
  refine r_istore 1705 [some (.ref 4000000), some (.ref 1), some (.ref 499), some (.ref 515), some (.int x4), some (.int k1), none] hC dL_law_1705 (by decide) rfl ?_
  refine r_aload_n 1707 hC dL_law_1707 rfl rfl ?_
  refine l_arg 1708 (j := 1) (x4 := x4) hC hs rfl rfl hv1 (by decide) dL_law_1708 dL_law_1709 dL_law_1711 dL_law_1712 dL_law_1713 ?_
  refine l_arg 1714 (j := 2) (x4 := x4) hC hs rfl rfl hv2 (by decide) dL_law_1714 dL_law_1715 dL_law_1717 dL_law_1718 dL_law_1719 ?_
  refine r_callV_i 1720 (n := 2) [.int (xs (x4 + 1).toNatClampNeg), .int (xs (x4 + 2).toNatClampNeg)] [] hC hk7 rfl dL_law_1720 (by decide) (by decide) tw_1602 tw_135 ⟨by decide, by decide, by decide +kernel⟩ tw_1599 tw_1600 tw_1601 rfl rfl (sX7_open (l := pm_l X) hG 499 ((xs (x4 + 1).toNatClampNeg)) ((xs (x4 + 2).toNatClampNeg)) _ _ hk7 h) ⟨by have := hab.1; omega, by have := hab.2; omega⟩ (Nat.le_of_ble_eq_true rfl) ?_
  clear h; intro b1 I2 h
  refine r_istore 1723 [some (.ref 4000000), some (.ref 1), some (.ref 499), some (.ref 515), some (.int x4), some (.int k1), some (.int b1)] hC dL_law_1723 (by decide) rfl ?_
  refine r_aload_n 1725 hC dL_law_1725 rfl rfl ?_
  refine r_callV_i 1726 (n := 0) [] [] hC hk7 rfl dL_law_1726 (by decide) (by decide) tw_1273 tw_135 ⟨by decide, by decide, by decide +kernel⟩ tw_1270 tw_1271 tw_1272 rfl rfl (sX7_thrown (l := pm_l X) hG 499 _ _ hk7 h) ⟨by have := hab.1; omega, by have := hab.2; omega⟩ (Nat.le_of_ble_eq_true rfl) ?_
  clear h; intro t1 I3 h
  refine r_iload 1729 hC dL_law_1729 rfl ?_
  refine r_icmp_eq 1731 1736 hC dL_law_1731 (by decide) (fun _ => ?_) (fun hc => absurd h.1 hc)
  have kz := r_wid 2108 (G := G) (X := X) (nL := 7) (ls := [some (.ref 4000000), some (.ref 1), some (.ref 499), some (.ref 515), some (.int x4), some (.int k1), some (.int b1)]) (st := []) (I := I3) (a := a + 4) (b := b + 24) (by omega) (by omega) (r_less 2108 (ls := [some (.ref 4000000), some (.ref 1), some (.ref 499), some (.ref 515), some (.int x4), some (.int k1), some (.int b1)]) (pm_less7 (k := k1) (b := b1)) (k I3 h.2.2))
  refine r_iload 1736 hC dL_law_1736 rfl ?_
  refine r_if_ne 1738 1753 hC dL_law_1738 (by decide) (fun _ => r_goto 1753 2108 hC dL_law_1753 (by decide) kz) (fun hc => ?_)
  replace h := h.2.1 hc
  refine r_aload_n 1741 hC dL_law_1741 rfl rfl ?_
  refine r_iconst 1742 (v := 0) hC dL_law_1742 (by decide) ?_
  refine r_lald 1743 hC hko (vp_in_nI (n := 0) (by decide) (by decide)) dL_law_1743 ?_
  refine r_iload 1744 hC dL_law_1744 rfl ?_
  refine r_i2l 1746 hC dL_law_1746 ?_
  refine r_lcmp 1747 hC dL_law_1747 ?_
  refine r_if_eq 1748 1753 hC dL_law_1748 (by decide) (fun _ => r_goto 1753 2108 hC dL_law_1753 (by decide) kz) (fun hc => absurd ?_ hc)
  show lg_cmp (I3 515 0).toInt64 b1.toInt64 = 0
  rw [h]; exact lg_cmp_0 _

def wC28 (G : pm_G) (xs : Nat → Int32) (x4 : Int32) (I : pm_I) (K : pm_I → Prop) : Prop :=
  wL_send G 515 ((xs (x4 + 1).toNatClampNeg)) ((xs (x4 + 2).toNatClampNeg)) I (fun k1 I1 => wX7_send G 499 ((xs (x4 + 1).toNatClampNeg)) ((xs (x4 + 2).toNatClampNeg)) I1 (fun b1 I2 => wX7_thrown G 499 I2 (fun t1 I3 => t1 = k1 ∧ (k1 = 0 → I3 515 0 = b1) ∧ K I3)))

set_option maxRecDepth 20000 in
theorem sC28 {G : pm_G} {X : pm_X} {a b L : Nat} {xs : Nat → Int32} {x4 : Int32} (hC : pm_C G X cL_law 7 RL (some .boolean) room_1) (hE : pm_E7 G X L xs x4) (I : pm_I) (K : pm_I → Prop) (hab : a + 40 ≤ room_1.cells ∧ b + 400 ≤ room_1.slots) (h : wC28 G xs x4 I K) (k : ∀ I9, K I9 → pm_R G X 7 (a + 40) (b + 400) 2108 [some (.ref 4000000), some (.ref 1), some (.ref 499), some (.ref 515), some (.int x4), none, none] [] I9) : pm_R G X 7 a b 1756 [some (.ref 4000000), some (.ref 1), some (.ref 499), some (.ref 515), some (.int x4), none, none] [] I := by
  obtain ⟨hG, hst, hX, hnc, hS, hN, hk1, hk7, hko, hs, hv1, hv2, hv3, hv4, hv5⟩ := hE
  unfold wC28 at h
  refine r_aload_n 1756 hC dL_law_1756 rfl rfl ?_
  refine l_arg 1757 (j := 1) (x4 := x4) hC hs rfl rfl hv1 (by decide) dL_law_1757 dL_law_1758 dL_law_1760 dL_law_1761 dL_law_1762 ?_
  refine l_arg 1763 (j := 2) (x4 := x4) hC hs rfl rfl hv2 (by decide) dL_law_1763 dL_law_1764 dL_law_1766 dL_law_1767 dL_law_1768 ?_
  refine r_aload_n 1769 hC dL_law_1769 rfl rfl ?_
  refine w_callS 1770 (n := 4) [.ref 1, .int (xs (x4 + 1).toNatClampNeg), .int (xs (x4 + 2).toNatClampNeg), .ref 515] [] hC dL_law_1770 (by decide) (by decide) tw_1082 rfl tw_128 ⟨by decide, by decide, by decide +kernel⟩ tw_1080 tw_1081 rfl rfl (sL_send (l := pm_l X) hG hst hX hnc 515 ((xs (x4 + 1).toNatClampNeg)) ((xs (x4 + 2).toNatClampNeg)) _ _ hk1 hko h) ⟨by have := hab.1; omega, by have := hab.2; omega⟩ (Nat.le_of_ble_eq_true rfl) ?_
  clear h; intro k1 I1 h
  refine r_istore 1773 [some (.ref 4000000), some (.ref 1), some (.ref 499), some (.ref 515), some (.int x4), some (.int k1), none] hC dL_law_1773 (by decide) rfl ?_
  refine r_aload_n 1775 hC dL_law_1775 rfl rfl ?_
  refine l_arg 1776 (j := 1) (x4 := x4) hC hs rfl rfl hv1 (by decide) dL_law_1776 dL_law_1777 dL_law_1779 dL_law_1780 dL_law_1781 ?_
  refine l_arg 1782 (j := 2) (x4 := x4) hC hs rfl rfl hv2 (by decide) dL_law_1782 dL_law_1783 dL_law_1785 dL_law_1786 dL_law_1787 ?_
  refine r_callV_i 1788 (n := 2) [.int (xs (x4 + 1).toNatClampNeg), .int (xs (x4 + 2).toNatClampNeg)] [] hC hk7 rfl dL_law_1788 (by decide) (by decide) tw_1606 tw_135 ⟨by decide, by decide, by decide +kernel⟩ tw_1603 tw_1604 tw_1605 rfl rfl (sX7_send (l := pm_l X) hG 499 ((xs (x4 + 1).toNatClampNeg)) ((xs (x4 + 2).toNatClampNeg)) _ _ hk7 h) ⟨by have := hab.1; omega, by have := hab.2; omega⟩ (Nat.le_of_ble_eq_true rfl) ?_
  clear h; intro b1 I2 h
  refine r_istore 1791 [some (.ref 4000000), some (.ref 1), some (.ref 499), some (.ref 515), some (.int x4), some (.int k1), some (.int b1)] hC dL_law_1791 (by decide) rfl ?_
  refine r_aload_n 1793 hC dL_law_1793 rfl rfl ?_
  refine r_callV_i 1794 (n := 0) [] [] hC hk7 rfl dL_law_1794 (by decide) (by decide) tw_1273 tw_135 ⟨by decide, by decide, by decide +kernel⟩ tw_1270 tw_1271 tw_1272 rfl rfl (sX7_thrown (l := pm_l X) hG 499 _ _ hk7 h) ⟨by have := hab.1; omega, by have := hab.2; omega⟩ (Nat.le_of_ble_eq_true rfl) ?_
  clear h; intro t1 I3 h
  refine r_iload 1797 hC dL_law_1797 rfl ?_
  refine r_icmp_eq 1799 1804 hC dL_law_1799 (by decide) (fun _ => ?_) (fun hc => absurd h.1 hc)
  have kz := r_wid 2108 (G := G) (X := X) (nL := 7) (ls := [some (.ref 4000000), some (.ref 1), some (.ref 499), some (.ref 515), some (.int x4), some (.int k1), some (.int b1)]) (st := []) (I := I3) (a := a + 2) (b := b + 12) (by omega) (by omega) (r_less 2108 (ls := [some (.ref 4000000), some (.ref 1), some (.ref 499), some (.ref 515), some (.int x4), some (.int k1), some (.int b1)]) (pm_less7 (k := k1) (b := b1)) (k I3 h.2.2))
  refine r_iload 1804 hC dL_law_1804 rfl ?_
  refine r_if_ne 1806 1821 hC dL_law_1806 (by decide) (fun _ => r_goto 1821 2108 hC dL_law_1821 (by decide) kz) (fun hc => ?_)
  replace h := h.2.1 hc
  refine r_aload_n 1809 hC dL_law_1809 rfl rfl ?_
  refine r_iconst 1810 (v := 0) hC dL_law_1810 (by decide) ?_
  refine r_lald 1811 hC hko (vp_in_nI (n := 0) (by decide) (by decide)) dL_law_1811 ?_
  refine r_iload 1812 hC dL_law_1812 rfl ?_
  refine r_i2l 1814 hC dL_law_1814 ?_
  refine r_lcmp 1815 hC dL_law_1815 ?_
  refine r_if_eq 1816 1821 hC dL_law_1816 (by decide) (fun _ => r_goto 1821 2108 hC dL_law_1821 (by decide) kz) (fun hc => absurd ?_ hc)
  show lg_cmp (I3 515 0).toInt64 b1.toInt64 = 0
  rw [h]; exact lg_cmp_0 _

def wC29 (G : pm_G) (xs : Nat → Int32) (x4 : Int32) (I : pm_I) (K : pm_I → Prop) : Prop :=
  wL_setLink G 515 ((xs (x4 + 1).toNatClampNeg)) ((xs (x4 + 2).toNatClampNeg)) ((if xs (x4 + 3).toNatClampNeg = 0 then 0 else 1)) I (fun k1 I1 => wX7_setLink G 499 ((xs (x4 + 1).toNatClampNeg)) ((xs (x4 + 2).toNatClampNeg)) ((if xs (x4 + 3).toNatClampNeg = 0 then 0 else 1)) I1 (fun b1 I2 => wX7_thrown G 499 I2 (fun t1 I3 => t1 = k1 ∧ (k1 = 0 → I3 515 0 = b1) ∧ K I3)))

set_option maxRecDepth 20000 in
theorem sC29 {G : pm_G} {X : pm_X} {a b L : Nat} {xs : Nat → Int32} {x4 : Int32} (hC : pm_C G X cL_law 7 RL (some .boolean) room_1) (hE : pm_E7 G X L xs x4) (I : pm_I) (K : pm_I → Prop) (hab : a + 40 ≤ room_1.cells ∧ b + 400 ≤ room_1.slots) (h : wC29 G xs x4 I K) (k : ∀ I9, K I9 → pm_R G X 7 (a + 40) (b + 400) 2108 [some (.ref 4000000), some (.ref 1), some (.ref 499), some (.ref 515), some (.int x4), none, none] [] I9) : pm_R G X 7 a b 1824 [some (.ref 4000000), some (.ref 1), some (.ref 499), some (.ref 515), some (.int x4), none, none] [] I := by
  obtain ⟨hG, hst, hX, hnc, hS, hN, hk1, hk7, hko, hs, hv1, hv2, hv3, hv4, hv5⟩ := hE
  unfold wC29 at h
  refine r_aload_n 1824 hC dL_law_1824 rfl rfl ?_
  refine l_arg 1825 (j := 1) (x4 := x4) hC hs rfl rfl hv1 (by decide) dL_law_1825 dL_law_1826 dL_law_1828 dL_law_1829 dL_law_1830 ?_
  refine l_arg 1831 (j := 2) (x4 := x4) hC hs rfl rfl hv2 (by decide) dL_law_1831 dL_law_1832 dL_law_1834 dL_law_1835 dL_law_1836 ?_
  refine l_arg 1837 (j := 3) (x4 := x4) hC hs rfl rfl hv3 (by decide) dL_law_1837 dL_law_1838 dL_law_1840 dL_law_1841 dL_law_1842 ?_
  refine l_bool 1843 hC dL_law_1843 dL_law_1846 dL_law_1847 dL_law_1850 ?_
  refine r_aload_n 1851 hC dL_law_1851 rfl rfl ?_
  refine w_callS 1852 (n := 5) [.ref 1, .int (xs (x4 + 1).toNatClampNeg), .int (xs (x4 + 2).toNatClampNeg), .int (if xs (x4 + 3).toNatClampNeg = 0 then 0 else 1), .ref 515] [] hC dL_law_1852 (by decide) (by decide) tw_1095 rfl tw_128 ⟨by decide, by decide, by decide +kernel⟩ tw_1093 tw_1094 rfl rfl (sL_setLink (l := pm_l X) hG hst hX hnc 515 ((xs (x4 + 1).toNatClampNeg)) ((xs (x4 + 2).toNatClampNeg)) ((if xs (x4 + 3).toNatClampNeg = 0 then 0 else 1)) _ _ hk1 hko h) ⟨by have := hab.1; omega, by have := hab.2; omega⟩ (Nat.le_of_ble_eq_true rfl) ?_
  clear h; intro k1 I1 h
  refine r_istore 1855 [some (.ref 4000000), some (.ref 1), some (.ref 499), some (.ref 515), some (.int x4), some (.int k1), none] hC dL_law_1855 (by decide) rfl ?_
  refine r_aload_n 1857 hC dL_law_1857 rfl rfl ?_
  refine l_arg 1858 (j := 1) (x4 := x4) hC hs rfl rfl hv1 (by decide) dL_law_1858 dL_law_1859 dL_law_1861 dL_law_1862 dL_law_1863 ?_
  refine l_arg 1864 (j := 2) (x4 := x4) hC hs rfl rfl hv2 (by decide) dL_law_1864 dL_law_1865 dL_law_1867 dL_law_1868 dL_law_1869 ?_
  refine l_arg 1870 (j := 3) (x4 := x4) hC hs rfl rfl hv3 (by decide) dL_law_1870 dL_law_1871 dL_law_1873 dL_law_1874 dL_law_1875 ?_
  refine l_bool 1876 hC dL_law_1876 dL_law_1879 dL_law_1880 dL_law_1883 ?_
  refine r_callV_i 1884 (n := 3) [.int (xs (x4 + 1).toNatClampNeg), .int (xs (x4 + 2).toNatClampNeg), .int (if xs (x4 + 3).toNatClampNeg = 0 then 0 else 1)] [] hC hk7 rfl dL_law_1884 (by decide) (by decide) tw_1610 tw_135 ⟨by decide, by decide, by decide +kernel⟩ tw_1607 tw_1608 tw_1609 rfl rfl (sX7_setLink (l := pm_l X) hG 499 ((xs (x4 + 1).toNatClampNeg)) ((xs (x4 + 2).toNatClampNeg)) ((if xs (x4 + 3).toNatClampNeg = 0 then 0 else 1)) _ _ hk7 h) ⟨by have := hab.1; omega, by have := hab.2; omega⟩ (Nat.le_of_ble_eq_true rfl) ?_
  clear h; intro b1 I2 h
  refine r_istore 1887 [some (.ref 4000000), some (.ref 1), some (.ref 499), some (.ref 515), some (.int x4), some (.int k1), some (.int b1)] hC dL_law_1887 (by decide) rfl ?_
  refine r_aload_n 1889 hC dL_law_1889 rfl rfl ?_
  refine r_callV_i 1890 (n := 0) [] [] hC hk7 rfl dL_law_1890 (by decide) (by decide) tw_1273 tw_135 ⟨by decide, by decide, by decide +kernel⟩ tw_1270 tw_1271 tw_1272 rfl rfl (sX7_thrown (l := pm_l X) hG 499 _ _ hk7 h) ⟨by have := hab.1; omega, by have := hab.2; omega⟩ (Nat.le_of_ble_eq_true rfl) ?_
  clear h; intro t1 I3 h
  refine r_iload 1893 hC dL_law_1893 rfl ?_
  refine r_icmp_eq 1895 1900 hC dL_law_1895 (by decide) (fun _ => ?_) (fun hc => absurd h.1 hc)
  have kz := r_wid 2108 (G := G) (X := X) (nL := 7) (ls := [some (.ref 4000000), some (.ref 1), some (.ref 499), some (.ref 515), some (.int x4), some (.int k1), some (.int b1)]) (st := []) (I := I3) (a := a + 4) (b := b + 24) (by omega) (by omega) (r_less 2108 (ls := [some (.ref 4000000), some (.ref 1), some (.ref 499), some (.ref 515), some (.int x4), some (.int k1), some (.int b1)]) (pm_less7 (k := k1) (b := b1)) (k I3 h.2.2))
  refine r_iload 1900 hC dL_law_1900 rfl ?_
  refine r_if_ne 1902 1917 hC dL_law_1902 (by decide) (fun _ => r_goto 1917 2108 hC dL_law_1917 (by decide) kz) (fun hc => ?_)
  replace h := h.2.1 hc
  refine r_aload_n 1905 hC dL_law_1905 rfl rfl ?_
  refine r_iconst 1906 (v := 0) hC dL_law_1906 (by decide) ?_
  refine r_lald 1907 hC hko (vp_in_nI (n := 0) (by decide) (by decide)) dL_law_1907 ?_
  refine r_iload 1908 hC dL_law_1908 rfl ?_
  refine r_i2l 1910 hC dL_law_1910 ?_
  refine r_lcmp 1911 hC dL_law_1911 ?_
  refine r_if_eq 1912 1917 hC dL_law_1912 (by decide) (fun _ => r_goto 1917 2108 hC dL_law_1917 (by decide) kz) (fun hc => absurd ?_ hc)
  show lg_cmp (I3 515 0).toInt64 b1.toInt64 = 0
  rw [h]; exact lg_cmp_0 _

def wC30 (G : pm_G) (xs : Nat → Int32) (x4 : Int32) (I : pm_I) (K : pm_I → Prop) : Prop :=
  wL_close G 515 ((xs (x4 + 1).toNatClampNeg)) I (fun k1 I1 => wX7_close G 499 ((xs (x4 + 1).toNatClampNeg)) I1 (fun b1 I2 => wX7_thrown G 499 I2 (fun t1 I3 => t1 = k1 ∧ (k1 = 0 → I3 515 0 = b1) ∧ K I3)))

set_option maxRecDepth 20000 in
theorem sC30 {G : pm_G} {X : pm_X} {a b L : Nat} {xs : Nat → Int32} {x4 : Int32} (hC : pm_C G X cL_law 7 RL (some .boolean) room_1) (hE : pm_E7 G X L xs x4) (I : pm_I) (K : pm_I → Prop) (hab : a + 40 ≤ room_1.cells ∧ b + 400 ≤ room_1.slots) (h : wC30 G xs x4 I K) (k : ∀ I9, K I9 → pm_R G X 7 (a + 40) (b + 400) 2108 [some (.ref 4000000), some (.ref 1), some (.ref 499), some (.ref 515), some (.int x4), none, none] [] I9) : pm_R G X 7 a b 1920 [some (.ref 4000000), some (.ref 1), some (.ref 499), some (.ref 515), some (.int x4), none, none] [] I := by
  obtain ⟨hG, hst, hX, hnc, hS, hN, hk1, hk7, hko, hs, hv1, hv2, hv3, hv4, hv5⟩ := hE
  unfold wC30 at h
  refine r_aload_n 1920 hC dL_law_1920 rfl rfl ?_
  refine l_arg 1921 (j := 1) (x4 := x4) hC hs rfl rfl hv1 (by decide) dL_law_1921 dL_law_1922 dL_law_1924 dL_law_1925 dL_law_1926 ?_
  refine r_aload_n 1927 hC dL_law_1927 rfl rfl ?_
  refine w_callS 1928 (n := 3) [.ref 1, .int (xs (x4 + 1).toNatClampNeg), .ref 515] [] hC dL_law_1928 (by decide) (by decide) tw_1128 rfl tw_128 ⟨by decide, by decide, by decide +kernel⟩ tw_1126 tw_1127 rfl rfl (sL_close (l := pm_l X) hG hst hX hnc 515 ((xs (x4 + 1).toNatClampNeg)) _ _ hk1 hko h) ⟨by have := hab.1; omega, by have := hab.2; omega⟩ (Nat.le_of_ble_eq_true rfl) ?_
  clear h; intro k1 I1 h
  refine r_istore 1931 [some (.ref 4000000), some (.ref 1), some (.ref 499), some (.ref 515), some (.int x4), some (.int k1), none] hC dL_law_1931 (by decide) rfl ?_
  refine r_aload_n 1933 hC dL_law_1933 rfl rfl ?_
  refine l_arg 1934 (j := 1) (x4 := x4) hC hs rfl rfl hv1 (by decide) dL_law_1934 dL_law_1935 dL_law_1937 dL_law_1938 dL_law_1939 ?_
  refine r_callV_i 1940 (n := 1) [.int (xs (x4 + 1).toNatClampNeg)] [] hC hk7 rfl dL_law_1940 (by decide) (by decide) tw_1622 tw_135 ⟨by decide, by decide, by decide +kernel⟩ tw_1619 tw_1620 tw_1621 rfl rfl (sX7_close (l := pm_l X) hG 499 ((xs (x4 + 1).toNatClampNeg)) _ _ hk7 h) ⟨by have := hab.1; omega, by have := hab.2; omega⟩ (Nat.le_of_ble_eq_true rfl) ?_
  clear h; intro b1 I2 h
  refine r_istore 1943 [some (.ref 4000000), some (.ref 1), some (.ref 499), some (.ref 515), some (.int x4), some (.int k1), some (.int b1)] hC dL_law_1943 (by decide) rfl ?_
  refine r_aload_n 1945 hC dL_law_1945 rfl rfl ?_
  refine r_callV_i 1946 (n := 0) [] [] hC hk7 rfl dL_law_1946 (by decide) (by decide) tw_1273 tw_135 ⟨by decide, by decide, by decide +kernel⟩ tw_1270 tw_1271 tw_1272 rfl rfl (sX7_thrown (l := pm_l X) hG 499 _ _ hk7 h) ⟨by have := hab.1; omega, by have := hab.2; omega⟩ (Nat.le_of_ble_eq_true rfl) ?_
  clear h; intro t1 I3 h
  refine r_iload 1949 hC dL_law_1949 rfl ?_
  refine r_icmp_eq 1951 1956 hC dL_law_1951 (by decide) (fun _ => ?_) (fun hc => absurd h.1 hc)
  have kz := r_wid 2108 (G := G) (X := X) (nL := 7) (ls := [some (.ref 4000000), some (.ref 1), some (.ref 499), some (.ref 515), some (.int x4), some (.int k1), some (.int b1)]) (st := []) (I := I3) (a := a + 2) (b := b + 12) (by omega) (by omega) (r_less 2108 (ls := [some (.ref 4000000), some (.ref 1), some (.ref 499), some (.ref 515), some (.int x4), some (.int k1), some (.int b1)]) (pm_less7 (k := k1) (b := b1)) (k I3 h.2.2))
  refine r_iload 1956 hC dL_law_1956 rfl ?_
  refine r_if_ne 1958 1973 hC dL_law_1958 (by decide) (fun _ => r_goto 1973 2108 hC dL_law_1973 (by decide) kz) (fun hc => ?_)
  replace h := h.2.1 hc
  refine r_aload_n 1961 hC dL_law_1961 rfl rfl ?_
  refine r_iconst 1962 (v := 0) hC dL_law_1962 (by decide) ?_
  refine r_lald 1963 hC hko (vp_in_nI (n := 0) (by decide) (by decide)) dL_law_1963 ?_
  refine r_iload 1964 hC dL_law_1964 rfl ?_
  refine r_i2l 1966 hC dL_law_1966 ?_
  refine r_lcmp 1967 hC dL_law_1967 ?_
  refine r_if_eq 1968 1973 hC dL_law_1968 (by decide) (fun _ => r_goto 1973 2108 hC dL_law_1973 (by decide) kz) (fun hc => absurd ?_ hc)
  show lg_cmp (I3 515 0).toInt64 b1.toInt64 = 0
  rw [h]; exact lg_cmp_0 _

def wC31 (G : pm_G) (xs : Nat → Int32) (x4 : Int32) (I : pm_I) (K : pm_I → Prop) : Prop :=
  wX6_undo G 1  I (fun r1 I1 => wX7_undo G 499  I1 (fun r2 I2 => r1 = r2 ∧ K I2))

set_option maxRecDepth 20000 in
theorem sC31 {G : pm_G} {X : pm_X} {a b L : Nat} {xs : Nat → Int32} {x4 : Int32} (hC : pm_C G X cL_law 7 RL (some .boolean) room_1) (hE : pm_E7 G X L xs x4) (I : pm_I) (K : pm_I → Prop) (hab : a + 40 ≤ room_1.cells ∧ b + 400 ≤ room_1.slots) (h : wC31 G xs x4 I K) (k : ∀ I9, K I9 → pm_R G X 7 (a + 40) (b + 400) 2108 [some (.ref 4000000), some (.ref 1), some (.ref 499), some (.ref 515), some (.int x4), none, none] [] I9) : pm_R G X 7 a b 1976 [some (.ref 4000000), some (.ref 1), some (.ref 499), some (.ref 515), some (.int x4), none, none] [] I := by
  obtain ⟨hG, hst, hX, hnc, hS, hN, hk1, hk7, hko, hs, hv1, hv2, hv3, hv4, hv5⟩ := hE
  unfold wC31 at h
  refine r_aload_n 1976 hC dL_law_1976 rfl rfl ?_
  refine r_callV_i 1977 (n := 0) [] [] hC hk1 rfl dL_law_1977 (by decide) (by decide) tw_421 tw_129 ⟨by decide, by decide, by decide +kernel⟩ tw_418 tw_419 tw_420 rfl rfl (sX6_undo (l := pm_l X) hG 1  _ _ hk1 h) ⟨by have := hab.1; omega, by have := hab.2; omega⟩ (Nat.le_of_ble_eq_true rfl) ?_
  clear h; intro r1 I1 h
  refine r_aload_n 1980 hC dL_law_1980 rfl rfl ?_
  refine r_callV_i 1981 (n := 0) [] [.int r1] hC hk7 rfl dL_law_1981 (by decide) (by decide) tw_1626 tw_135 ⟨by decide, by decide, by decide +kernel⟩ tw_1623 tw_1624 tw_1625 rfl rfl (sX7_undo (l := pm_l X) hG 499  _ _ hk7 h) ⟨by have := hab.1; omega, by have := hab.2; omega⟩ (Nat.le_of_ble_eq_true rfl) ?_
  clear h; intro r2 I2 h
  refine r_icmp_eq 1984 2108 hC dL_law_1984 (by decide) (fun _ => ?_) (fun hc => absurd h.1 hc)
  exact r_wid 2108 (Nat.le_add_right a 40) (Nat.le_add_right b 400) (k I2 h.2)

def wC32 (G : pm_G) (xs : Nat → Int32) (x4 : Int32) (I : pm_I) (K : pm_I → Prop) : Prop :=
  wL_saveSnapshot G 515 ((xs (x4 + 1).toNatClampNeg)) I (fun k1 I1 => wX7_saveSnapshot G 499 ((xs (x4 + 1).toNatClampNeg)) I1 (fun b1 I2 => wX7_thrown G 499 I2 (fun t1 I3 => t1 = k1 ∧ (k1 = 0 → I3 515 0 = if b1 = 0 then 0 else 1) ∧ K I3)))

set_option maxRecDepth 20000 in
theorem sC32 {G : pm_G} {X : pm_X} {a b L : Nat} {xs : Nat → Int32} {x4 : Int32} (hC : pm_C G X cL_law 7 RL (some .boolean) room_1) (hE : pm_E7 G X L xs x4) (I : pm_I) (K : pm_I → Prop) (hab : a + 40 ≤ room_1.cells ∧ b + 400 ≤ room_1.slots) (h : wC32 G xs x4 I K) (k : ∀ I9, K I9 → pm_R G X 7 (a + 40) (b + 400) 2108 [some (.ref 4000000), some (.ref 1), some (.ref 499), some (.ref 515), some (.int x4), none, none] [] I9) : pm_R G X 7 a b 1989 [some (.ref 4000000), some (.ref 1), some (.ref 499), some (.ref 515), some (.int x4), none, none] [] I := by
  obtain ⟨hG, hst, hX, hnc, hS, hN, hk1, hk7, hko, hs, hv1, hv2, hv3, hv4, hv5⟩ := hE
  unfold wC32 at h
  refine r_aload_n 1989 hC dL_law_1989 rfl rfl ?_
  refine l_arg 1990 (j := 1) (x4 := x4) hC hs rfl rfl hv1 (by decide) dL_law_1990 dL_law_1991 dL_law_1993 dL_law_1994 dL_law_1995 ?_
  refine r_aload_n 1996 hC dL_law_1996 rfl rfl ?_
  refine w_callS 1997 (n := 3) [.ref 1, .int (xs (x4 + 1).toNatClampNeg), .ref 515] [] hC dL_law_1997 (by decide) (by decide) tw_1136 rfl tw_128 ⟨by decide, by decide, by decide +kernel⟩ tw_1134 tw_1135 rfl rfl (sL_saveSnapshot (l := pm_l X) hG hst hX hnc 515 ((xs (x4 + 1).toNatClampNeg)) _ _ hk1 hko h) ⟨by have := hab.1; omega, by have := hab.2; omega⟩ (Nat.le_of_ble_eq_true rfl) ?_
  clear h; intro k1 I1 h
  refine r_istore 2000 [some (.ref 4000000), some (.ref 1), some (.ref 499), some (.ref 515), some (.int x4), some (.int k1), none] hC dL_law_2000 (by decide) rfl ?_
  refine r_aload_n 2002 hC dL_law_2002 rfl rfl ?_
  refine l_arg 2003 (j := 1) (x4 := x4) hC hs rfl rfl hv1 (by decide) dL_law_2003 dL_law_2004 dL_law_2006 dL_law_2007 dL_law_2008 ?_
  refine r_callV_i 2009 (n := 1) [.int (xs (x4 + 1).toNatClampNeg)] [] hC hk7 rfl dL_law_2009 (by decide) (by decide) tw_1630 tw_135 ⟨by decide, by decide, by decide +kernel⟩ tw_1627 tw_1628 tw_1629 rfl rfl (sX7_saveSnapshot (l := pm_l X) hG 499 ((xs (x4 + 1).toNatClampNeg)) _ _ hk7 h) ⟨by have := hab.1; omega, by have := hab.2; omega⟩ (Nat.le_of_ble_eq_true rfl) ?_
  clear h; intro b1 I2 h
  refine r_istore 2012 [some (.ref 4000000), some (.ref 1), some (.ref 499), some (.ref 515), some (.int x4), some (.int k1), some (.int b1)] hC dL_law_2012 (by decide) rfl ?_
  refine r_aload_n 2014 hC dL_law_2014 rfl rfl ?_
  refine r_callV_i 2015 (n := 0) [] [] hC hk7 rfl dL_law_2015 (by decide) (by decide) tw_1273 tw_135 ⟨by decide, by decide, by decide +kernel⟩ tw_1270 tw_1271 tw_1272 rfl rfl (sX7_thrown (l := pm_l X) hG 499 _ _ hk7 h) ⟨by have := hab.1; omega, by have := hab.2; omega⟩ (Nat.le_of_ble_eq_true rfl) ?_
  clear h; intro t1 I3 h
  refine r_iload 2018 hC dL_law_2018 rfl ?_
  refine r_icmp_eq 2020 2025 hC dL_law_2020 (by decide) (fun _ => ?_) (fun hc => absurd h.1 hc)
  have kz := r_wid 2108 (G := G) (X := X) (nL := 7) (ls := [some (.ref 4000000), some (.ref 1), some (.ref 499), some (.ref 515), some (.int x4), some (.int k1), some (.int b1)]) (st := []) (I := I3) (a := a + 1) (b := b + 6) (by omega) (by omega) (r_less 2108 (ls := [some (.ref 4000000), some (.ref 1), some (.ref 499), some (.ref 515), some (.int x4), some (.int k1), some (.int b1)]) (pm_less7 (k := k1) (b := b1)) (k I3 h.2.2))
  refine r_iload 2025 hC dL_law_2025 rfl ?_
  refine r_if_ne 2027 2049 hC dL_law_2027 (by decide) (fun _ => r_goto 2049 2108 hC dL_law_2049 (by decide) kz) (fun hc => ?_)
  replace h := h.2.1 hc
  refine r_aload_n 2030 hC dL_law_2030 rfl rfl ?_
  refine r_iconst 2031 (v := 0) hC dL_law_2031 (by decide) ?_
  refine r_lald 2032 hC hko (vp_in_nI (n := 0) (by decide) (by decide)) dL_law_2032 ?_
  refine r_iload 2033 hC dL_law_2033 rfl ?_
  refine r_if_eq 2035 2042 hC dL_law_2035 (by decide) (fun hb => ?_) (fun hb => ?_)
  · refine r_lconst 2042 (v := (0 : Int32).toInt64) hC dL_law_2042 (by decide) ?_
    refine r_lcmp 2043 hC dL_law_2043 ?_
    refine r_if_eq 2044 2049 hC dL_law_2044 (by decide) (fun _ => r_goto 2049 2108 hC dL_law_2049 (by decide) kz) (fun hc => absurd ?_ hc)
    rw [if_pos hb] at h
    show lg_cmp (I3 515 0).toInt64 (0 : Int32).toInt64 = 0
    rw [h]; exact lg_cmp_0 _
  · refine r_lconst 2038 (v := (1 : Int32).toInt64) hC dL_law_2038 (by decide) ?_
    refine r_goto 2039 2043 hC dL_law_2039 (by decide) ?_
    refine r_lcmp 2043 hC dL_law_2043 ?_
    refine r_if_eq 2044 2049 hC dL_law_2044 (by decide) (fun _ => r_goto 2049 2108 hC dL_law_2049 (by decide) kz) (fun hc => absurd ?_ hc)
    rw [if_neg hb] at h
    show lg_cmp (I3 515 0).toInt64 (1 : Int32).toInt64 = 0
    rw [h]; exact lg_cmp_0 _

def wC33 (G : pm_G) (xs : Nat → Int32) (x4 : Int32) (I : pm_I) (K : pm_I → Prop) : Prop :=
  wL_restoreSnapshot G 515 ((xs (x4 + 1).toNatClampNeg)) I (fun k1 I1 => wX7_restoreSnapshot G 499 ((xs (x4 + 1).toNatClampNeg)) I1 (fun b1 I2 => wX7_thrown G 499 I2 (fun t1 I3 => t1 = k1 ∧ (k1 = 0 → I3 515 0 = b1) ∧ K I3)))

set_option maxRecDepth 20000 in
theorem sC33 {G : pm_G} {X : pm_X} {a b L : Nat} {xs : Nat → Int32} {x4 : Int32} (hC : pm_C G X cL_law 7 RL (some .boolean) room_1) (hE : pm_E7 G X L xs x4) (I : pm_I) (K : pm_I → Prop) (hab : a + 40 ≤ room_1.cells ∧ b + 400 ≤ room_1.slots) (h : wC33 G xs x4 I K) (k : ∀ I9, K I9 → pm_R G X 7 (a + 40) (b + 400) 2108 [some (.ref 4000000), some (.ref 1), some (.ref 499), some (.ref 515), some (.int x4), none, none] [] I9) : pm_R G X 7 a b 2052 [some (.ref 4000000), some (.ref 1), some (.ref 499), some (.ref 515), some (.int x4), none, none] [] I := by
  obtain ⟨hG, hst, hX, hnc, hS, hN, hk1, hk7, hko, hs, hv1, hv2, hv3, hv4, hv5⟩ := hE
  unfold wC33 at h
  refine r_aload_n 2052 hC dL_law_2052 rfl rfl ?_
  refine l_arg 2053 (j := 1) (x4 := x4) hC hs rfl rfl hv1 (by decide) dL_law_2053 dL_law_2054 dL_law_2056 dL_law_2057 dL_law_2058 ?_
  refine r_aload_n 2059 hC dL_law_2059 rfl rfl ?_
  refine w_callS 2060 (n := 3) [.ref 1, .int (xs (x4 + 1).toNatClampNeg), .ref 515] [] hC dL_law_2060 (by decide) (by decide) tw_1148 rfl tw_128 ⟨by decide, by decide, by decide +kernel⟩ tw_1146 tw_1147 rfl rfl (sL_restoreSnapshot (l := pm_l X) hG hst hX hnc 515 ((xs (x4 + 1).toNatClampNeg)) _ _ hk1 hko h) ⟨by have := hab.1; omega, by have := hab.2; omega⟩ (Nat.le_of_ble_eq_true rfl) ?_
  clear h; intro k1 I1 h
  refine r_istore 2063 [some (.ref 4000000), some (.ref 1), some (.ref 499), some (.ref 515), some (.int x4), some (.int k1), none] hC dL_law_2063 (by decide) rfl ?_
  refine r_aload_n 2065 hC dL_law_2065 rfl rfl ?_
  refine l_arg 2066 (j := 1) (x4 := x4) hC hs rfl rfl hv1 (by decide) dL_law_2066 dL_law_2067 dL_law_2069 dL_law_2070 dL_law_2071 ?_
  refine r_callV_i 2072 (n := 1) [.int (xs (x4 + 1).toNatClampNeg)] [] hC hk7 rfl dL_law_2072 (by decide) (by decide) tw_1638 tw_135 ⟨by decide, by decide, by decide +kernel⟩ tw_1635 tw_1636 tw_1637 rfl rfl (sX7_restoreSnapshot (l := pm_l X) hG 499 ((xs (x4 + 1).toNatClampNeg)) _ _ hk7 h) ⟨by have := hab.1; omega, by have := hab.2; omega⟩ (Nat.le_of_ble_eq_true rfl) ?_
  clear h; intro b1 I2 h
  refine r_istore 2075 [some (.ref 4000000), some (.ref 1), some (.ref 499), some (.ref 515), some (.int x4), some (.int k1), some (.int b1)] hC dL_law_2075 (by decide) rfl ?_
  refine r_aload_n 2077 hC dL_law_2077 rfl rfl ?_
  refine r_callV_i 2078 (n := 0) [] [] hC hk7 rfl dL_law_2078 (by decide) (by decide) tw_1273 tw_135 ⟨by decide, by decide, by decide +kernel⟩ tw_1270 tw_1271 tw_1272 rfl rfl (sX7_thrown (l := pm_l X) hG 499 _ _ hk7 h) ⟨by have := hab.1; omega, by have := hab.2; omega⟩ (Nat.le_of_ble_eq_true rfl) ?_
  clear h; intro t1 I3 h
  refine r_iload 2081 hC dL_law_2081 rfl ?_
  refine r_icmp_eq 2083 2088 hC dL_law_2083 (by decide) (fun _ => ?_) (fun hc => absurd h.1 hc)
  have kz := r_wid 2108 (G := G) (X := X) (nL := 7) (ls := [some (.ref 4000000), some (.ref 1), some (.ref 499), some (.ref 515), some (.int x4), some (.int k1), some (.int b1)]) (st := []) (I := I3) (a := a + 2) (b := b + 12) (by omega) (by omega) (r_less 2108 (ls := [some (.ref 4000000), some (.ref 1), some (.ref 499), some (.ref 515), some (.int x4), some (.int k1), some (.int b1)]) (pm_less7 (k := k1) (b := b1)) (k I3 h.2.2))
  refine r_iload 2088 hC dL_law_2088 rfl ?_
  refine r_if_ne 2090 2105 hC dL_law_2090 (by decide) (fun _ => r_goto 2105 2108 hC dL_law_2105 (by decide) kz) (fun hc => ?_)
  replace h := h.2.1 hc
  refine r_aload_n 2093 hC dL_law_2093 rfl rfl ?_
  refine r_iconst 2094 (v := 0) hC dL_law_2094 (by decide) ?_
  refine r_lald 2095 hC hko (vp_in_nI (n := 0) (by decide) (by decide)) dL_law_2095 ?_
  refine r_iload 2096 hC dL_law_2096 rfl ?_
  refine r_i2l 2098 hC dL_law_2098 ?_
  refine r_lcmp 2099 hC dL_law_2099 ?_
  refine r_if_eq 2100 2105 hC dL_law_2100 (by decide) (fun _ => r_goto 2105 2108 hC dL_law_2105 (by decide) kz) (fun hc => absurd ?_ hc)
  show lg_cmp (I3 515 0).toInt64 b1.toInt64 = 0
  rw [h]; exact lg_cmp_0 _

def wStep (G : pm_G) (xs : Nat → Int32) (x4 : Int32) (I : pm_I) (K : pm_I → Prop) : Prop :=
  ((xs x4.toNatClampNeg &&& 63).toInt < 0 ∨ 33 < (xs x4.toNatClampNeg &&& 63).toInt → K I) ∧ ((xs x4.toNatClampNeg &&& 63).toInt = 0 → wC0 G xs x4 I K) ∧ ((xs x4.toNatClampNeg &&& 63).toInt = 1 → wC1 G xs x4 I K) ∧ ((xs x4.toNatClampNeg &&& 63).toInt = 2 → wC2 G xs x4 I K) ∧ ((xs x4.toNatClampNeg &&& 63).toInt = 3 → wC3 G xs x4 I K) ∧ ((xs x4.toNatClampNeg &&& 63).toInt = 4 → wC4 G xs x4 I K) ∧ ((xs x4.toNatClampNeg &&& 63).toInt = 5 → wC5 G xs x4 I K) ∧ ((xs x4.toNatClampNeg &&& 63).toInt = 6 → wC6 G xs x4 I K) ∧ ((xs x4.toNatClampNeg &&& 63).toInt = 7 → wC7 G xs x4 I K) ∧ ((xs x4.toNatClampNeg &&& 63).toInt = 8 → wC8 G xs x4 I K) ∧ ((xs x4.toNatClampNeg &&& 63).toInt = 9 → wC9 G xs x4 I K) ∧ ((xs x4.toNatClampNeg &&& 63).toInt = 10 → wC10 G xs x4 I K) ∧ ((xs x4.toNatClampNeg &&& 63).toInt = 11 → wC11 G xs x4 I K) ∧ ((xs x4.toNatClampNeg &&& 63).toInt = 12 → wC12 G xs x4 I K) ∧ ((xs x4.toNatClampNeg &&& 63).toInt = 13 → wC13 G xs x4 I K) ∧ ((xs x4.toNatClampNeg &&& 63).toInt = 14 → wC14 G xs x4 I K) ∧ ((xs x4.toNatClampNeg &&& 63).toInt = 15 → wC15 G xs x4 I K) ∧ ((xs x4.toNatClampNeg &&& 63).toInt = 16 → wC16 G xs x4 I K) ∧ ((xs x4.toNatClampNeg &&& 63).toInt = 17 → wC17 G xs x4 I K) ∧ ((xs x4.toNatClampNeg &&& 63).toInt = 18 → wC18 G xs x4 I K) ∧ ((xs x4.toNatClampNeg &&& 63).toInt = 19 → wC19 G xs x4 I K) ∧ ((xs x4.toNatClampNeg &&& 63).toInt = 20 → wC20 G xs x4 I K) ∧ ((xs x4.toNatClampNeg &&& 63).toInt = 21 → wC21 G xs x4 I K) ∧ ((xs x4.toNatClampNeg &&& 63).toInt = 22 → wC22 G xs x4 I K) ∧ ((xs x4.toNatClampNeg &&& 63).toInt = 23 → wC23 G xs x4 I K) ∧ ((xs x4.toNatClampNeg &&& 63).toInt = 24 → wC24 G xs x4 I K) ∧ ((xs x4.toNatClampNeg &&& 63).toInt = 25 → wC25 G xs x4 I K) ∧ ((xs x4.toNatClampNeg &&& 63).toInt = 26 → wC26 G xs x4 I K) ∧ ((xs x4.toNatClampNeg &&& 63).toInt = 27 → wC27 G xs x4 I K) ∧ ((xs x4.toNatClampNeg &&& 63).toInt = 28 → wC28 G xs x4 I K) ∧ ((xs x4.toNatClampNeg &&& 63).toInt = 29 → wC29 G xs x4 I K) ∧ ((xs x4.toNatClampNeg &&& 63).toInt = 30 → wC30 G xs x4 I K) ∧ ((xs x4.toNatClampNeg &&& 63).toInt = 31 → wC31 G xs x4 I K) ∧ ((xs x4.toNatClampNeg &&& 63).toInt = 32 → wC32 G xs x4 I K) ∧ ((xs x4.toNatClampNeg &&& 63).toInt = 33 → wC33 G xs x4 I K)

set_option maxRecDepth 20000 in
theorem sStep {G : pm_G} {X : pm_X} {a b L : Nat} {xs : Nat → Int32} {x4 : Int32} (hC : pm_C G X cL_law 7 RL (some .boolean) room_1) (hE : pm_E7 G X L xs x4) (hv0 : vp_in x4 L) (I : pm_I) (K : pm_I → Prop) (hab : a + 40 ≤ room_1.cells ∧ b + 400 ≤ room_1.slots) (h : wStep G xs x4 I K) (k : ∀ I9, K I9 → pm_R G X 7 (a + 40) (b + 400) 2108 [some (.ref 4000000), some (.ref 1), some (.ref 499), some (.ref 515), some (.int x4), none, none] [] I9) : pm_R G X 7 a b 33 [some (.ref 4000000), some (.ref 1), some (.ref 499), some (.ref 515), some (.int x4), none, none] [] I := by
  have hE0 := hE
  obtain ⟨hG, hst, hX, hnc, hS, hN, hk1, hk7, hko, hs, hv1, hv2, hv3, hv4, hv5⟩ := hE0
  unfold wStep at h
  obtain ⟨hz, h0, h1, h2, h3, h4, h5, h6, h7, h8, h9, h10, h11, h12, h13, h14, h15, h16, h17, h18, h19, h20, h21, h22, h23, h24, h25, h26, h27, h28, h29, h30, h31, h32, h33⟩ := h
  refine r_aload_n 33 hC dL_law_33 rfl rfl ?_
  refine r_iload 34 hC dL_law_34 rfl ?_
  refine r_xld 36 hC hs hv0 dL_law_36 ?_
  refine r_bipush 37 (v := 63) hC dL_law_37 (by decide) ?_
  refine r_iand 39 hC dL_law_39 ?_
  by_cases hout : (xs x4.toNatClampNeg &&& 63).toInt < 0 ∨ 33 < (xs x4.toNatClampNeg &&& 63).toInt
  · exact r_tabOut 40 2108 hC dL_law_40 hout (by decide) (r_wid 2108 (Nat.le_add_right a 40) (Nat.le_add_right b 400) (k I (hz hout)))
  have hlt : ¬ (xs x4.toNatClampNeg &&& 63).toInt < 0 := fun q => hout (Or.inl q)
  have hgt : ¬ 33 < (xs x4.toNatClampNeg &&& 63).toInt := fun q => hout (Or.inr q)
  have hall : (xs x4.toNatClampNeg &&& 63).toInt = 0 ∨ (xs x4.toNatClampNeg &&& 63).toInt = 1 ∨ (xs x4.toNatClampNeg &&& 63).toInt = 2 ∨ (xs x4.toNatClampNeg &&& 63).toInt = 3 ∨ (xs x4.toNatClampNeg &&& 63).toInt = 4 ∨ (xs x4.toNatClampNeg &&& 63).toInt = 5 ∨ (xs x4.toNatClampNeg &&& 63).toInt = 6 ∨ (xs x4.toNatClampNeg &&& 63).toInt = 7 ∨ (xs x4.toNatClampNeg &&& 63).toInt = 8 ∨ (xs x4.toNatClampNeg &&& 63).toInt = 9 ∨ (xs x4.toNatClampNeg &&& 63).toInt = 10 ∨ (xs x4.toNatClampNeg &&& 63).toInt = 11 ∨ (xs x4.toNatClampNeg &&& 63).toInt = 12 ∨ (xs x4.toNatClampNeg &&& 63).toInt = 13 ∨ (xs x4.toNatClampNeg &&& 63).toInt = 14 ∨ (xs x4.toNatClampNeg &&& 63).toInt = 15 ∨ (xs x4.toNatClampNeg &&& 63).toInt = 16 ∨ (xs x4.toNatClampNeg &&& 63).toInt = 17 ∨ (xs x4.toNatClampNeg &&& 63).toInt = 18 ∨ (xs x4.toNatClampNeg &&& 63).toInt = 19 ∨ (xs x4.toNatClampNeg &&& 63).toInt = 20 ∨ (xs x4.toNatClampNeg &&& 63).toInt = 21 ∨ (xs x4.toNatClampNeg &&& 63).toInt = 22 ∨ (xs x4.toNatClampNeg &&& 63).toInt = 23 ∨ (xs x4.toNatClampNeg &&& 63).toInt = 24 ∨ (xs x4.toNatClampNeg &&& 63).toInt = 25 ∨ (xs x4.toNatClampNeg &&& 63).toInt = 26 ∨ (xs x4.toNatClampNeg &&& 63).toInt = 27 ∨ (xs x4.toNatClampNeg &&& 63).toInt = 28 ∨ (xs x4.toNatClampNeg &&& 63).toInt = 29 ∨ (xs x4.toNatClampNeg &&& 63).toInt = 30 ∨ (xs x4.toNatClampNeg &&& 63).toInt = 31 ∨ (xs x4.toNatClampNeg &&& 63).toInt = 32 ∨ (xs x4.toNatClampNeg &&& 63).toInt = 33 := by omega
  rcases hall with hc | hc | hc | hc | hc | hc | hc | hc | hc | hc | hc | hc | hc | hc | hc | hc | hc | hc | hc | hc | hc | hc | hc | hc | hc | hc | hc | hc | hc | hc | hc | hc | hc | hc
  · exact r_tabIn 40 192 hC dL_law_40 hlt hgt (off := 152) (by rw [hc]; rfl) (by decide) (sC0 hC hE I K hab (h0 hc) k)
  · exact r_tabIn 40 265 hC dL_law_40 hlt hgt (off := 225) (by rw [hc]; rfl) (by decide) (sC1 hC hE I K hab (h1 hc) k)
  · exact r_tabIn 40 321 hC dL_law_40 hlt hgt (off := 281) (by rw [hc]; rfl) (by decide) (sC2 hC hE I K hab (h2 hc) k)
  · exact r_tabIn 40 334 hC dL_law_40 hlt hgt (off := 294) (by rw [hc]; rfl) (by decide) (sC3 hC hE I K hab (h3 hc) k)
  · exact r_tabIn 40 347 hC dL_law_40 hlt hgt (off := 307) (by rw [hc]; rfl) (by decide) (sC4 hC hE I K hab (h4 hc) k)
  · exact r_tabIn 40 360 hC dL_law_40 hlt hgt (off := 320) (by rw [hc]; rfl) (by decide) (sC5 hC hE I K hab (h5 hc) k)
  · exact r_tabIn 40 435 hC dL_law_40 hlt hgt (off := 395) (by rw [hc]; rfl) (by decide) (sC6 hC hE I K hab (h6 hc) k)
  · exact r_tabIn 40 503 hC dL_law_40 hlt hgt (off := 463) (by rw [hc]; rfl) (by decide) (sC7 hC hE I K hab (h7 hc) k)
  · exact r_tabIn 40 571 hC dL_law_40 hlt hgt (off := 531) (by rw [hc]; rfl) (by decide) (sC8 hC hE I K hab (h8 hc) k)
  · exact r_tabIn 40 639 hC dL_law_40 hlt hgt (off := 599) (by rw [hc]; rfl) (by decide) (sC9 hC hE I K hab (h9 hc) k)
  · exact r_tabIn 40 695 hC dL_law_40 hlt hgt (off := 655) (by rw [hc]; rfl) (by decide) (sC10 hC hE I K hab (h10 hc) k)
  · exact r_tabIn 40 763 hC dL_law_40 hlt hgt (off := 723) (by rw [hc]; rfl) (by decide) (sC11 hC hE I K hab (h11 hc) k)
  · exact r_tabIn 40 843 hC dL_law_40 hlt hgt (off := 803) (by rw [hc]; rfl) (by decide) (sC12 hC hE I K hab (h12 hc) k)
  · exact r_tabIn 40 856 hC dL_law_40 hlt hgt (off := 816) (by rw [hc]; rfl) (by decide) (sC13 hC hE I K hab (h13 hc) k)
  · exact r_tabIn 40 924 hC dL_law_40 hlt hgt (off := 884) (by rw [hc]; rfl) (by decide) (sC14 hC hE I K hab (h14 hc) k)
  · exact r_tabIn 40 980 hC dL_law_40 hlt hgt (off := 940) (by rw [hc]; rfl) (by decide) (sC15 hC hE I K hab (h15 hc) k)
  · exact r_tabIn 40 1036 hC dL_law_40 hlt hgt (off := 996) (by rw [hc]; rfl) (by decide) (sC16 hC hE I K hab (h16 hc) k)
  · exact r_tabIn 40 1092 hC dL_law_40 hlt hgt (off := 1052) (by rw [hc]; rfl) (by decide) (sC17 hC hE I K hab (h17 hc) k)
  · exact r_tabIn 40 1160 hC dL_law_40 hlt hgt (off := 1120) (by rw [hc]; rfl) (by decide) (sC18 hC hE I K hab (h18 hc) k)
  · exact r_tabIn 40 1216 hC dL_law_40 hlt hgt (off := 1176) (by rw [hc]; rfl) (by decide) (sC19 hC hE I K hab (h19 hc) k)
  · exact r_tabIn 40 1272 hC dL_law_40 hlt hgt (off := 1232) (by rw [hc]; rfl) (by decide) (sC20 hC hE I K hab (h20 hc) k)
  · exact r_tabIn 40 1328 hC dL_law_40 hlt hgt (off := 1288) (by rw [hc]; rfl) (by decide) (sC21 hC hE I K hab (h21 hc) k)
  · exact r_tabIn 40 1384 hC dL_law_40 hlt hgt (off := 1344) (by rw [hc]; rfl) (by decide) (sC22 hC hE I K hab (h22 hc) k)
  · exact r_tabIn 40 1440 hC dL_law_40 hlt hgt (off := 1400) (by rw [hc]; rfl) (by decide) (sC23 hC hE I K hab (h23 hc) k)
  · exact r_tabIn 40 1496 hC dL_law_40 hlt hgt (off := 1456) (by rw [hc]; rfl) (by decide) (sC24 hC hE I K hab (h24 hc) k)
  · exact r_tabIn 40 1552 hC dL_law_40 hlt hgt (off := 1512) (by rw [hc]; rfl) (by decide) (sC25 hC hE I K hab (h25 hc) k)
  · exact r_tabIn 40 1608 hC dL_law_40 hlt hgt (off := 1568) (by rw [hc]; rfl) (by decide) (sC26 hC hE I K hab (h26 hc) k)
  · exact r_tabIn 40 1688 hC dL_law_40 hlt hgt (off := 1648) (by rw [hc]; rfl) (by decide) (sC27 hC hE I K hab (h27 hc) k)
  · exact r_tabIn 40 1756 hC dL_law_40 hlt hgt (off := 1716) (by rw [hc]; rfl) (by decide) (sC28 hC hE I K hab (h28 hc) k)
  · exact r_tabIn 40 1824 hC dL_law_40 hlt hgt (off := 1784) (by rw [hc]; rfl) (by decide) (sC29 hC hE I K hab (h29 hc) k)
  · exact r_tabIn 40 1920 hC dL_law_40 hlt hgt (off := 1880) (by rw [hc]; rfl) (by decide) (sC30 hC hE I K hab (h30 hc) k)
  · exact r_tabIn 40 1976 hC dL_law_40 hlt hgt (off := 1936) (by rw [hc]; rfl) (by decide) (sC31 hC hE I K hab (h31 hc) k)
  · exact r_tabIn 40 1989 hC dL_law_40 hlt hgt (off := 1949) (by rw [hc]; rfl) (by decide) (sC32 hC hE I K hab (h32 hc) k)
  · exact r_tabIn 40 2052 hC dL_law_40 hlt hgt (off := 2012) (by rw [hc]; rfl) (by decide) (sC33 hC hE I K hab (h33 hc) k)
