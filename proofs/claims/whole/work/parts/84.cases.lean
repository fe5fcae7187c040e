/-! THE LAW: its cases 0 to 14 -/
theorem law_0 {X : q_X} {nm : String} {b L k x : Nat} {xs : Nat → Int32} {S : q_S} {R : q_HR} {I : q_HI} {A : q_A} (hX : q_C X cL_law 4 RL ret nm) (hs : l_sc X b L xs) (hL : L ≤ 3584) (hk : 7 * k + 7 ≤ L) (h : w_J x S R I A) (kk : ∀ S2 R2 J A2, w_J x S2 R2 J A2 → q_V X room_1 cL_law 4 (198 + 2 * (k + 1)) (2300 + 7 * (k + 1)) 1277 (l_lv k x b) [] S2 R2 J) : q_V X room_1 cL_law 4 (198 + 2 * k) (2300 + 7 * k) 228 (l_lv k x b) [] S R I := by
  obtain ⟨r, R', I', J, A', q1, q2, h'⟩ := st_reset h (r_iI (xs (7 * k + 1)))
  refine v_aload_n 1 2 hX dL_law_228 rfl rfl ?_
  refine v_aload_n 0 3 hX dL_law_229 rfl rfl ?_
  refine v_iload_n 3 0 hX dL_law_230 rfl rfl ?_
  refine v_iconst hX dL_law_231 ?_
  refine v_iadd hX dL_law_232 ?_
  refine v_sld (i := 7 * k + 1) hX hs (by omega) hL (by omega) dL_law_233 ?_
  refine v_callV (As := [.int (q_i ((xs (7 * k + 1)).toInt))]) (rest := []) (st1 := [.int (q_i r)]) (some (.int (q_i r))) hX mv_RL_13 (c_X9_reset q1) ⟨rfl, rfl⟩ ⟨Nat.le_of_ble_eq_true rfl, Nat.le_of_ble_eq_true rfl⟩ (k_0 h.1) rfl rfl (Nat.le_of_ble_eq_true rfl) ⟨by show _ ≤ 719123; omega, by show _ ≤ 6944879; omega⟩ dL_law_234 rfl ?_
  refine v_aload_n 2 1 hX dL_law_237 rfl rfl ?_
  refine v_aload_n 0 3 hX dL_law_238 rfl rfl ?_
  refine v_iload_n 3 0 hX dL_law_239 rfl rfl ?_
  refine v_iconst hX dL_law_240 ?_
  refine v_iadd hX dL_law_241 ?_
  refine v_sld (i := 7 * k + 1) hX hs (by omega) hL (by omega) dL_law_242 ?_
  refine v_callV (As := [.int (q_i ((xs (7 * k + 1)).toInt))]) (rest := [.int (q_i r)]) (st1 := [.int (q_i r), .int (q_i r)]) (some (.int (q_i r))) hX mv_RL_17 (c_X10_reset q2) ⟨rfl, rfl⟩ ⟨Nat.le_of_ble_eq_true rfl, Nat.le_of_ble_eq_true rfl⟩ (k_171 h'.1) rfl rfl (Nat.le_of_ble_eq_true rfl) ⟨by show _ ≤ 719123; omega, by show _ ≤ 6944879; omega⟩ dL_law_243 rfl ?_
  refine v_same (tgt := 1277) hX dL_law_246 (by decide) ?_
  exact v_widen (k := 198 + 2 * (k + 1)) (n := 2300 + 7 * (k + 1)) (by omega) (by omega) (kk _ _ _ _ h')
theorem law_1 {X : q_X} {nm : String} {b L k x : Nat} {xs : Nat → Int32} {S : q_S} {R : q_HR} {I : q_HI} {A : q_A} (hX : q_C X cL_law 4 RL ret nm) (hs : l_sc X b L xs) (hL : L ≤ 3584) (hk : 7 * k + 7 ≤ L) (h : w_J x S R I A) (kk : ∀ S2 R2 J A2, w_J x S2 R2 J A2 → q_V X room_1 cL_law 4 (198 + 2 * (k + 1)) (2300 + 7 * (k + 1)) 1277 (l_lv k x b) [] S2 R2 J) : q_V X room_1 cL_law 4 (198 + 2 * k) (2300 + 7 * k) 251 (l_lv k x b) [] S R I := by
  obtain ⟨r, J, A', q1, q2, h'⟩ := st_sensorCount h
  refine v_aload_n 1 2 hX dL_law_251 rfl rfl ?_
  refine v_callV (As := []) (rest := []) (st1 := [.int (q_i r)]) (some (.int (q_i r))) hX mv_RL_18 (c_X9_sensorCount q1) ⟨rfl, rfl⟩ ⟨Nat.le_of_ble_eq_true rfl, Nat.le_of_ble_eq_true rfl⟩ (k_0 h.1) rfl rfl (Nat.le_of_ble_eq_true rfl) ⟨by show _ ≤ 719123; omega, by show _ ≤ 6944879; omega⟩ dL_law_252 rfl ?_
  refine v_aload_n 2 1 hX dL_law_255 rfl rfl ?_
  refine v_callV (As := []) (rest := [.int (q_i r)]) (st1 := [.int (q_i r), .int (q_i r)]) (some (.int (q_i r))) hX mv_RL_22 (c_X10_sensorCount q2) ⟨rfl, rfl⟩ ⟨Nat.le_of_ble_eq_true rfl, Nat.le_of_ble_eq_true rfl⟩ (k_171 h'.1) rfl rfl (Nat.le_of_ble_eq_true rfl) ⟨by show _ ≤ 719123; omega, by show _ ≤ 6944879; omega⟩ dL_law_256 rfl ?_
  refine v_same (tgt := 1277) hX dL_law_259 (by decide) ?_
  exact v_widen (k := 198 + 2 * (k + 1)) (n := 2300 + 7 * (k + 1)) (by omega) (by omega) (kk _ _ _ _ h')
theorem law_2 {X : q_X} {nm : String} {b L k x : Nat} {xs : Nat → Int32} {S : q_S} {R : q_HR} {I : q_HI} {A : q_A} (hX : q_C X cL_law 4 RL ret nm) (hs : l_sc X b L xs) (hL : L ≤ 3584) (hk : 7 * k + 7 ≤ L) (h : w_J x S R I A) (kk : ∀ S2 R2 J A2, w_J x S2 R2 J A2 → q_V X room_1 cL_law 4 (198 + 2 * (k + 1)) (2300 + 7 * (k + 1)) 1277 (l_lv k x b) [] S2 R2 J) : q_V X room_1 cL_law 4 (198 + 2 * k) (2300 + 7 * k) 264 (l_lv k x b) [] S R I := by
  obtain ⟨r, I', J, A', q1, q2, h'⟩ := st_setBaseline h (r_iI (xs (7 * k + 1))) (r_iI (xs (7 * k + 2)))
  refine v_aload_n 1 2 hX dL_law_264 rfl rfl ?_
  refine v_aload_n 0 3 hX dL_law_265 rfl rfl ?_
  refine v_iload_n 3 0 hX dL_law_266 rfl rfl ?_
  refine v_iconst hX dL_law_267 ?_
  refine v_iadd hX dL_law_268 ?_
  refine v_sld (i := 7 * k + 1) hX hs (by omega) hL (by omega) dL_law_269 ?_
  refine v_aload_n 0 3 hX dL_law_270 rfl rfl ?_
  refine v_iload_n 3 0 hX dL_law_271 rfl rfl ?_
  refine v_iconst hX dL_law_272 ?_
  refine v_iadd hX dL_law_273 ?_
  refine v_sld (i := 7 * k + 2) hX hs (by omega) hL (by omega) dL_law_274 ?_
  refine v_callV (As := [.int (q_i ((xs (7 * k + 1)).toInt)), .int (q_i ((xs (7 * k + 2)).toInt))]) (rest := []) (st1 := [.int (q_i r)]) (some (.int (q_i r))) hX mv_RL_23 (c_X9_setBaseline q1) ⟨rfl, rfl⟩ ⟨Nat.le_of_ble_eq_true rfl, Nat.le_of_ble_eq_true rfl⟩ (k_0 h.1) rfl rfl (Nat.le_of_ble_eq_true rfl) ⟨by show _ ≤ 719123; omega, by show _ ≤ 6944879; omega⟩ dL_law_275 rfl ?_
  refine v_aload_n 2 1 hX dL_law_278 rfl rfl ?_
  refine v_aload_n 0 3 hX dL_law_279 rfl rfl ?_
  refine v_iload_n 3 0 hX dL_law_280 rfl rfl ?_
  refine v_iconst hX dL_law_281 ?_
  refine v_iadd hX dL_law_282 ?_
  refine v_sld (i := 7 * k + 1) hX hs (by omega) hL (by omega) dL_law_283 ?_
  refine v_aload_n 0 3 hX dL_law_284 rfl rfl ?_
  refine v_iload_n 3 0 hX dL_law_285 rfl rfl ?_
  refine v_iconst hX dL_law_286 ?_
  refine v_iadd hX dL_law_287 ?_
  refine v_sld (i := 7 * k + 2) hX hs (by omega) hL (by omega) dL_law_288 ?_
  refine v_callV (As := [.int (q_i ((xs (7 * k + 1)).toInt)), .int (q_i ((xs (7 * k + 2)).toInt))]) (rest := [.int (q_i r)]) (st1 := [.int (q_i r), .int (q_i r)]) (some (.int (q_i r))) hX mv_RL_27 (c_X10_setBaseline q2) ⟨rfl, rfl⟩ ⟨Nat.le_of_ble_eq_true rfl, Nat.le_of_ble_eq_true rfl⟩ (k_171 h'.1) rfl rfl (Nat.le_of_ble_eq_true rfl) ⟨by show _ ≤ 719123; omega, by show _ ≤ 6944879; omega⟩ dL_law_289 rfl ?_
  refine v_same (tgt := 1277) hX dL_law_292 (by decide) ?_
  exact v_widen (k := 198 + 2 * (k + 1)) (n := 2300 + 7 * (k + 1)) (by omega) (by omega) (kk _ _ _ _ h')
theorem law_3 {X : q_X} {nm : String} {b L k x : Nat} {xs : Nat → Int32} {S : q_S} {R : q_HR} {I : q_HI} {A : q_A} (hX : q_C X cL_law 4 RL ret nm) (hs : l_sc X b L xs) (hL : L ≤ 3584) (hk : 7 * k + 7 ≤ L) (h : w_J x S R I A) (kk : ∀ S2 R2 J A2, w_J x S2 R2 J A2 → q_V X room_1 cL_law 4 (198 + 2 * (k + 1)) (2300 + 7 * (k + 1)) 1277 (l_lv k x b) [] S2 R2 J) : q_V X room_1 cL_law 4 (198 + 2 * k) (2300 + 7 * k) 297 (l_lv k x b) [] S R I := by
  obtain ⟨r, S', R', I', J, A', q1, q2, h'⟩ := st_measure h (r_iI (xs (7 * k + 1))) (r_iI (xs (7 * k + 2))) (r_iI (xs (7 * k + 3))) (r_iI (xs (7 * k + 4))) (r_iI (xs (7 * k + 5))) (r_iI (xs (7 * k + 6)))
  refine v_aload_n 1 2 hX dL_law_297 rfl rfl ?_
  refine v_aload_n 0 3 hX dL_law_298 rfl rfl ?_
  refine v_iload_n 3 0 hX dL_law_299 rfl rfl ?_
  refine v_iconst hX dL_law_300 ?_
  refine v_iadd hX dL_law_301 ?_
  refine v_sld (i := 7 * k + 1) hX hs (by omega) hL (by omega) dL_law_302 ?_
  refine v_aload_n 0 3 hX dL_law_303 rfl rfl ?_
  refine v_iload_n 3 0 hX dL_law_304 rfl rfl ?_
  refine v_iconst hX dL_law_305 ?_
  refine v_iadd hX dL_law_306 ?_
  refine v_sld (i := 7 * k + 2) hX hs (by omega) hL (by omega) dL_law_307 ?_
  refine v_aload_n 0 3 hX dL_law_308 rfl rfl ?_
  refine v_iload_n 3 0 hX dL_law_309 rfl rfl ?_
  refine v_iconst hX dL_law_310 ?_
  refine v_iadd hX dL_law_311 ?_
  refine v_sld (i := 7 * k + 3) hX hs (by omega) hL (by omega) dL_law_312 ?_
  refine v_aload_n 0 3 hX dL_law_313 rfl rfl ?_
  refine v_iload_n 3 0 hX dL_law_314 rfl rfl ?_
  refine v_iconst hX dL_law_315 ?_
  refine v_iadd hX dL_law_316 ?_
  refine v_sld (i := 7 * k + 4) hX hs (by omega) hL (by omega) dL_law_317 ?_
  refine v_aload_n 0 3 hX dL_law_318 rfl rfl ?_
  refine v_iload_n 3 0 hX dL_law_319 rfl rfl ?_
  refine v_iconst hX dL_law_320 ?_
  refine v_iadd hX dL_law_321 ?_
  refine v_sld (i := 7 * k + 5) hX hs (by omega) hL (by omega) dL_law_322 ?_
  refine v_aload_n 0 3 hX dL_law_323 rfl rfl ?_
  refine v_iload_n 3 0 hX dL_law_324 rfl rfl ?_
  refine v_bipush 6 hX dL_law_325 (by decide) ?_
  refine v_iadd hX dL_law_327 ?_
  refine v_sld (i := 7 * k + 6) hX hs (by omega) hL (by omega) dL_law_328 ?_
  refine v_callV (As := [.int (q_i ((xs (7 * k + 1)).toInt)), .int (q_i ((xs (7 * k + 2)).toInt)), .int (q_i ((xs (7 * k + 3)).toInt)), .int (q_i ((xs (7 * k + 4)).toInt)), .int (q_i ((xs (7 * k + 5)).toInt)), .int (q_i ((xs (7 * k + 6)).toInt))]) (rest := []) (st1 := [.int (q_i r)]) (some (.int (q_i r))) hX mv_RL_28 (c_X9_measure q1) ⟨rfl, rfl⟩ ⟨Nat.le_of_ble_eq_true rfl, Nat.le_of_ble_eq_true rfl⟩ (k_0 h.1) rfl rfl (Nat.le_of_ble_eq_true rfl) ⟨by show _ ≤ 719123; omega, by show _ ≤ 6944879; omega⟩ dL_law_329 rfl ?_
  refine v_aload_n 2 1 hX dL_law_332 rfl rfl ?_
  refine v_aload_n 0 3 hX dL_law_333 rfl rfl ?_
  refine v_iload_n 3 0 hX dL_law_334 rfl rfl ?_
  refine v_iconst hX dL_law_335 ?_
  refine v_iadd hX dL_law_336 ?_
  refine v_sld (i := 7 * k + 1) hX hs (by omega) hL (by omega) dL_law_337 ?_
  refine v_aload_n 0 3 hX dL_law_338 rfl rfl ?_
  refine v_iload_n 3 0 hX dL_law_339 rfl rfl ?_
  refine v_iconst hX dL_law_340 ?_
  refine v_iadd hX dL_law_341 ?_
  refine v_sld (i := 7 * k + 2) hX hs (by omega) hL (by omega) dL_law_342 ?_
  refine v_aload_n 0 3 hX dL_law_343 rfl rfl ?_
  refine v_iload_n 3 0 hX dL_law_344 rfl rfl ?_
  refine v_iconst hX dL_law_345 ?_
  refine v_iadd hX dL_law_346 ?_
  refine v_sld (i := 7 * k + 3) hX hs (by omega) hL (by omega) dL_law_347 ?_
  refine v_aload_n 0 3 hX dL_law_348 rfl rfl ?_
  refine v_iload_n 3 0 hX dL_law_349 rfl rfl ?_
  refine v_iconst hX dL_law_350 ?_
  refine v_iadd hX dL_law_351 ?_
  refine v_sld (i := 7 * k + 4) hX hs (by omega) hL (by omega) dL_law_352 ?_
  refine v_aload_n 0 3 hX dL_law_353 rfl rfl ?_
  refine v_iload_n 3 0 hX dL_law_354 rfl rfl ?_
  refine v_iconst hX dL_law_355 ?_
  refine v_iadd hX dL_law_356 ?_
  refine v_sld (i := 7 * k + 5) hX hs (by omega) hL (by omega) dL_law_357 ?_
  refine v_aload_n 0 3 hX dL_law_358 rfl rfl ?_
  refine v_iload_n 3 0 hX dL_law_359 rfl rfl ?_
  refine v_bipush 6 hX dL_law_360 (by decide) ?_
  refine v_iadd hX dL_law_362 ?_
  refine v_sld (i := 7 * k + 6) hX hs (by omega) hL (by omega) dL_law_363 ?_
  refine v_callV (As := [.int (q_i ((xs (7 * k + 1)).toInt)), .int (q_i ((xs (7 * k + 2)).toInt)), .int (q_i ((xs (7 * k + 3)).toInt)), .int (q_i ((xs (7 * k + 4)).toInt)), .int (q_i ((xs (7 * k + 5)).toInt)), .int (q_i ((xs (7 * k + 6)).toInt))]) (rest := [.int (q_i r)]) (st1 := [.int (q_i r), .int (q_i r)]) (some (.int (q_i r))) hX mv_RL_32 (c_X10_measure q2) ⟨rfl, rfl⟩ ⟨Nat.le_of_ble_eq_true rfl, Nat.le_of_ble_eq_true rfl⟩ (k_171 h'.1) rfl rfl (Nat.le_of_ble_eq_true rfl) ⟨by show _ ≤ 719123; omega, by show _ ≤ 6944879; omega⟩ dL_law_364 rfl ?_
  refine v_same (tgt := 1277) hX dL_law_367 (by decide) ?_
  exact v_widen (k := 198 + 2 * (k + 1)) (n := 2300 + 7 * (k + 1)) (by omega) (by omega) (kk _ _ _ _ h')
theorem law_4 {X : q_X} {nm : String} {b L k x : Nat} {xs : Nat → Int32} {S : q_S} {R : q_HR} {I : q_HI} {A : q_A} (hX : q_C X cL_law 4 RL ret nm) (hs : l_sc X b L xs) (hL : L ≤ 3584) (hk : 7 * k + 7 ≤ L) (h : w_J x S R I A) (kk : ∀ S2 R2 J A2, w_J x S2 R2 J A2 → q_V X room_1 cL_law 4 (198 + 2 * (k + 1)) (2300 + 7 * (k + 1)) 1277 (l_lv k x b) [] S2 R2 J) : q_V X room_1 cL_law 4 (198 + 2 * k) (2300 + 7 * k) 372 (l_lv k x b) [] S R I := by
  obtain ⟨r, J, A', q1, q2, h'⟩ := st_ratio h (r_iI (xs (7 * k + 1)))
  refine v_aload_n 1 2 hX dL_law_372 rfl rfl ?_
  refine v_aload_n 0 3 hX dL_law_373 rfl rfl ?_
  refine v_iload_n 3 0 hX dL_law_374 rfl rfl ?_
  refine v_iconst hX dL_law_375 ?_
  refine v_iadd hX dL_law_376 ?_
  refine v_sld (i := 7 * k + 1) hX hs (by omega) hL (by omega) dL_law_377 ?_
  refine v_callV (As := [.int (q_i ((xs (7 * k + 1)).toInt))]) (rest := []) (st1 := [.int (q_i r)]) (some (.int (q_i r))) hX mv_RL_33 (c_X9_ratio q1) ⟨rfl, rfl⟩ ⟨Nat.le_of_ble_eq_true rfl, Nat.le_of_ble_eq_true rfl⟩ (k_0 h.1) rfl rfl (Nat.le_of_ble_eq_true rfl) ⟨by show _ ≤ 719123; omega, by show _ ≤ 6944879; omega⟩ dL_law_378 rfl ?_
  refine v_aload_n 2 1 hX dL_law_381 rfl rfl ?_
  refine v_aload_n 0 3 hX dL_law_382 rfl rfl ?_
  refine v_iload_n 3 0 hX dL_law_383 rfl rfl ?_
  refine v_iconst hX dL_law_384 ?_
  refine v_iadd hX dL_law_385 ?_
  refine v_sld (i := 7 * k + 1) hX hs (by omega) hL (by omega) dL_law_386 ?_
  refine v_callV (As := [.int (q_i ((xs (7 * k + 1)).toInt))]) (rest := [.int (q_i r)]) (st1 := [.int (q_i r), .int (q_i r)]) (some (.int (q_i r))) hX mv_RL_36 (c_X10_ratio q2) ⟨rfl, rfl⟩ ⟨Nat.le_of_ble_eq_true rfl, Nat.le_of_ble_eq_true rfl⟩ (k_171 h'.1) rfl rfl (Nat.le_of_ble_eq_true rfl) ⟨by show _ ≤ 719123; omega, by show _ ≤ 6944879; omega⟩ dL_law_387 rfl ?_
  refine v_same (tgt := 1277) hX dL_law_390 (by decide) ?_
  exact v_widen (k := 198 + 2 * (k + 1)) (n := 2300 + 7 * (k + 1)) (by omega) (by omega) (kk _ _ _ _ h')
theorem law_5 {X : q_X} {nm : String} {b L k x : Nat} {xs : Nat → Int32} {S : q_S} {R : q_HR} {I : q_HI} {A : q_A} (hX : q_C X cL_law 4 RL ret nm) (hs : l_sc X b L xs) (hL : L ≤ 3584) (hk : 7 * k + 7 ≤ L) (h : w_J x S R I A) (kk : ∀ S2 R2 J A2, w_J x S2 R2 J A2 → q_V X room_1 cL_law 4 (198 + 2 * (k + 1)) (2300 + 7 * (k + 1)) 1277 (l_lv k x b) [] S2 R2 J) : q_V X room_1 cL_law 4 (198 + 2 * k) (2300 + 7 * k) 395 (l_lv k x b) [] S R I := by
  obtain ⟨r, J, A', q1, q2, h'⟩ := st_feature h (r_iI (xs (7 * k + 1)))
  refine v_aload_n 1 2 hX dL_law_395 rfl rfl ?_
  refine v_aload_n 0 3 hX dL_law_396 rfl rfl ?_
  refine v_iload_n 3 0 hX dL_law_397 rfl rfl ?_
  refine v_iconst hX dL_law_398 ?_
  refine v_iadd hX dL_law_399 ?_
  refine v_sld (i := 7 * k + 1) hX hs (by omega) hL (by omega) dL_law_400 ?_
  refine v_callV (As := [.int (q_i ((xs (7 * k + 1)).toInt))]) (rest := []) (st1 := [.int (q_i r)]) (some (.int (q_i r))) hX mv_RL_37 (c_X9_feature q1) ⟨rfl, rfl⟩ ⟨Nat.le_of_ble_eq_true rfl, Nat.le_of_ble_eq_true rfl⟩ (k_0 h.1) rfl rfl (Nat.le_of_ble_eq_true rfl) ⟨by show _ ≤ 719123; omega, by show _ ≤ 6944879; omega⟩ dL_law_401 rfl ?_
  refine v_aload_n 2 1 hX dL_law_404 rfl rfl ?_
  refine v_aload_n 0 3 hX dL_law_405 rfl rfl ?_
  refine v_iload_n 3 0 hX dL_law_406 rfl rfl ?_
  refine v_iconst hX dL_law_407 ?_
  refine v_iadd hX dL_law_408 ?_
  refine v_sld (i := 7 * k + 1) hX hs (by omega) hL (by omega) dL_law_409 ?_
  refine v_callV (As := [.int (q_i ((xs (7 * k + 1)).toInt))]) (rest := [.int (q_i r)]) (st1 := [.int (q_i r), .int (q_i r)]) (some (.int (q_i r))) hX mv_RL_40 (c_X10_feature q2) ⟨rfl, rfl⟩ ⟨Nat.le_of_ble_eq_true rfl, Nat.le_of_ble_eq_true rfl⟩ (k_171 h'.1) rfl rfl (Nat.le_of_ble_eq_true rfl) ⟨by show _ ≤ 719123; omega, by show _ ≤ 6944879; omega⟩ dL_law_410 rfl ?_
  refine v_same (tgt := 1277) hX dL_law_413 (by decide) ?_
  exact v_widen (k := 198 + 2 * (k + 1)) (n := 2300 + 7 * (k + 1)) (by omega) (by omega) (kk _ _ _ _ h')
theorem law_6 {X : q_X} {nm : String} {b L k x : Nat} {xs : Nat → Int32} {S : q_S} {R : q_HR} {I : q_HI} {A : q_A} (hX : q_C X cL_law 4 RL ret nm) (hs : l_sc X b L xs) (hL : L ≤ 3584) (hk : 7 * k + 7 ≤ L) (h : w_J x S R I A) (kk : ∀ S2 R2 J A2, w_J x S2 R2 J A2 → q_V X room_1 cL_law 4 (198 + 2 * (k + 1)) (2300 + 7 * (k + 1)) 1277 (l_lv k x b) [] S2 R2 J) : q_V X room_1 cL_law 4 (198 + 2 * k) (2300 + 7 * k) 418 (l_lv k x b) [] S R I := by
  obtain ⟨r, R', I', J, A', q1, q2, h'⟩ := st_addCalibration h
  refine v_aload_n 1 2 hX dL_law_418 rfl rfl ?_
  refine v_callV (As := []) (rest := []) (st1 := [.int (q_i r)]) (some (.int (q_i r))) hX mv_RL_41 (c_X9_addCalibration q1) ⟨rfl, rfl⟩ ⟨Nat.le_of_ble_eq_true rfl, Nat.le_of_ble_eq_true rfl⟩ (k_0 h.1) rfl rfl (Nat.le_of_ble_eq_true rfl) ⟨by show _ ≤ 719123; omega, by show _ ≤ 6944879; omega⟩ dL_law_419 rfl ?_
  refine v_aload_n 2 1 hX dL_law_422 rfl rfl ?_
  refine v_callV (As := []) (rest := [.int (q_i r)]) (st1 := [.int (q_i r), .int (q_i r)]) (some (.int (q_i r))) hX mv_RL_44 (c_X10_addCalibration q2) ⟨rfl, rfl⟩ ⟨Nat.le_of_ble_eq_true rfl, Nat.le_of_ble_eq_true rfl⟩ (k_171 h'.1) rfl rfl (Nat.le_of_ble_eq_true rfl) ⟨by show _ ≤ 719123; omega, by show _ ≤ 6944879; omega⟩ dL_law_423 rfl ?_
  refine v_same (tgt := 1277) hX dL_law_426 (by decide) ?_
  exact v_widen (k := 198 + 2 * (k + 1)) (n := 2300 + 7 * (k + 1)) (by omega) (by omega) (kk _ _ _ _ h')
theorem law_7 {X : q_X} {nm : String} {b L k x : Nat} {xs : Nat → Int32} {S : q_S} {R : q_HR} {I : q_HI} {A : q_A} (hX : q_C X cL_law 4 RL ret nm) (hs : l_sc X b L xs) (hL : L ≤ 3584) (hk : 7 * k + 7 ≤ L) (h : w_J x S R I A) (kk : ∀ S2 R2 J A2, w_J x S2 R2 J A2 → q_V X room_1 cL_law 4 (198 + 2 * (k + 1)) (2300 + 7 * (k + 1)) 1277 (l_lv k x b) [] S2 R2 J) : q_V X room_1 cL_law 4 (198 + 2 * k) (2300 + 7 * k) 431 (l_lv k x b) [] S R I := by
  obtain ⟨r, R', I', J, A', q1, q2, h'⟩ := st_removeCalibration h
  refine v_aload_n 1 2 hX dL_law_431 rfl rfl ?_
  refine v_callV (As := []) (rest := []) (st1 := [.int (q_i r)]) (some (.int (q_i r))) hX mv_RL_45 (c_X9_removeCalibration q1) ⟨rfl, rfl⟩ ⟨Nat.le_of_ble_eq_true rfl, Nat.le_of_ble_eq_true rfl⟩ (k_0 h.1) rfl rfl (Nat.le_of_ble_eq_true rfl) ⟨by show _ ≤ 719123; omega, by show _ ≤ 6944879; omega⟩ dL_law_432 rfl ?_
  refine v_aload_n 2 1 hX dL_law_435 rfl rfl ?_
  refine v_callV (As := []) (rest := [.int (q_i r)]) (st1 := [.int (q_i r), .int (q_i r)]) (some (.int (q_i r))) hX mv_RL_48 (c_X10_removeCalibration q2) ⟨rfl, rfl⟩ ⟨Nat.le_of_ble_eq_true rfl, Nat.le_of_ble_eq_true rfl⟩ (k_171 h'.1) rfl rfl (Nat.le_of_ble_eq_true rfl) ⟨by show _ ≤ 719123; omega, by show _ ≤ 6944879; omega⟩ dL_law_436 rfl ?_
  refine v_same (tgt := 1277) hX dL_law_439 (by decide) ?_
  exact v_widen (k := 198 + 2 * (k + 1)) (n := 2300 + 7 * (k + 1)) (by omega) (by omega) (kk _ _ _ _ h')
theorem law_8 {X : q_X} {nm : String} {b L k x : Nat} {xs : Nat → Int32} {S : q_S} {R : q_HR} {I : q_HI} {A : q_A} (hX : q_C X cL_law 4 RL ret nm) (hs : l_sc X b L xs) (hL : L ≤ 3584) (hk : 7 * k + 7 ≤ L) (h : w_J x S R I A) (kk : ∀ S2 R2 J A2, w_J x S2 R2 J A2 → q_V X room_1 cL_law 4 (198 + 2 * (k + 1)) (2300 + 7 * (k + 1)) 1277 (l_lv k x b) [] S2 R2 J) : q_V X room_1 cL_law 4 (198 + 2 * k) (2300 + 7 * k) 444 (l_lv k x b) [] S R I := by
  obtain ⟨r, J, A', q1, q2, h'⟩ := st_humiditySlope h (r_iI (xs (7 * k + 1)))
  refine v_aload_n 1 2 hX dL_law_444 rfl rfl ?_
  refine v_aload_n 0 3 hX dL_law_445 rfl rfl ?_
  refine v_iload_n 3 0 hX dL_law_446 rfl rfl ?_
  refine v_iconst hX dL_law_447 ?_
  refine v_iadd hX dL_law_448 ?_
  refine v_sld (i := 7 * k + 1) hX hs (by omega) hL (by omega) dL_law_449 ?_
  refine v_callV (As := [.int (q_i ((xs (7 * k + 1)).toInt))]) (rest := []) (st1 := [.int (q_i r)]) (some (.int (q_i r))) hX mv_RL_49 (c_X9_humiditySlope q1) ⟨rfl, rfl⟩ ⟨Nat.le_of_ble_eq_true rfl, Nat.le_of_ble_eq_true rfl⟩ (k_0 h.1) rfl rfl (Nat.le_of_ble_eq_true rfl) ⟨by show _ ≤ 719123; omega, by show _ ≤ 6944879; omega⟩ dL_law_450 rfl ?_
  refine v_aload_n 2 1 hX dL_law_453 rfl rfl ?_
  refine v_aload_n 0 3 hX dL_law_454 rfl rfl ?_
  refine v_iload_n 3 0 hX dL_law_455 rfl rfl ?_
  refine v_iconst hX dL_law_456 ?_
  refine v_iadd hX dL_law_457 ?_
  refine v_sld (i := 7 * k + 1) hX hs (by omega) hL (by omega) dL_law_458 ?_
  refine v_callV (As := [.int (q_i ((xs (7 * k + 1)).toInt))]) (rest := [.int (q_i r)]) (st1 := [.int (q_i r), .int (q_i r)]) (some (.int (q_i r))) hX mv_RL_52 (c_X10_humiditySlope q2) ⟨rfl, rfl⟩ ⟨Nat.le_of_ble_eq_true rfl, Nat.le_of_ble_eq_true rfl⟩ (k_171 h'.1) rfl rfl (Nat.le_of_ble_eq_true rfl) ⟨by show _ ≤ 719123; omega, by show _ ≤ 6944879; omega⟩ dL_law_459 rfl ?_
  refine v_same (tgt := 1277) hX dL_law_462 (by decide) ?_
  exact v_widen (k := 198 + 2 * (k + 1)) (n := 2300 + 7 * (k + 1)) (by omega) (by omega) (kk _ _ _ _ h')
theorem law_9 {X : q_X} {nm : String} {b L k x : Nat} {xs : Nat → Int32} {S : q_S} {R : q_HR} {I : q_HI} {A : q_A} (hX : q_C X cL_law 4 RL ret nm) (hs : l_sc X b L xs) (hL : L ≤ 3584) (hk : 7 * k + 7 ≤ L) (h : w_J x S R I A) (kk : ∀ S2 R2 J A2, w_J x S2 R2 J A2 → q_V X room_1 cL_law 4 (198 + 2 * (k + 1)) (2300 + 7 * (k + 1)) 1277 (l_lv k x b) [] S2 R2 J) : q_V X room_1 cL_law 4 (198 + 2 * k) (2300 + 7 * k) 467 (l_lv k x b) [] S R I := by
  have hz := r_iI (xs (7 * k + 1))
  refine v_aload_n 1 2 hX dL_law_467 rfl rfl ?_
  refine v_aload_n 0 3 hX dL_law_468 rfl rfl ?_
  refine v_iload_n 3 0 hX dL_law_469 rfl rfl ?_
  refine v_iconst hX dL_law_470 ?_
  refine v_iadd hX dL_law_471 ?_
  refine v_sld (i := 7 * k + 1) hX hs (by omega) hL (by omega) dL_law_472 ?_
  refine v_if_eq (tgt := 480) hX hz dL_law_473 (by decide) (fun e1 => ?_) (fun e1 => ?_)
  · refine v_iconst hX dL_law_480 ?_
    obtain ⟨r, I', J, A', q1, q2, h'⟩ := st_useHumidity (a := 0) h (by decide)
    refine v_callV (As := [.int (q_i (0))]) (rest := []) (st1 := [.int (q_i r)]) (some (.int (q_i r))) hX mv_RL_53 (c_X9_useHumidity q1) ⟨rfl, rfl⟩ ⟨Nat.le_of_ble_eq_true rfl, Nat.le_of_ble_eq_true rfl⟩ (k_0 h.1) rfl rfl (Nat.le_of_ble_eq_true rfl) ⟨by show _ ≤ 719123; omega, by show _ ≤ 6944879; omega⟩ dL_law_481 rfl ?_
    refine v_aload_n 2 1 hX dL_law_484 rfl rfl ?_
    refine v_aload_n 0 3 hX dL_law_485 rfl rfl ?_
    refine v_iload_n 3 0 hX dL_law_486 rfl rfl ?_
    refine v_iconst hX dL_law_487 ?_
    refine v_iadd hX dL_law_488 ?_
    refine v_sld (i := 7 * k + 1) hX hs (by omega) hL (by omega) dL_law_489 ?_
    refine v_if_eq (tgt := 497) hX hz dL_law_490 (by decide) (fun _ => ?_) (fun e2 => absurd e1 e2)
    refine v_iconst hX dL_law_497 ?_
    refine v_callV (As := [.int (q_i (0))]) (rest := [.int (q_i r)]) (st1 := [.int (q_i r), .int (q_i r)]) (some (.int (q_i r))) hX mv_RL_57 (c_X10_useHumidity q2) ⟨rfl, rfl⟩ ⟨Nat.le_of_ble_eq_true rfl, Nat.le_of_ble_eq_true rfl⟩ (k_171 h'.1) rfl rfl (Nat.le_of_ble_eq_true rfl) ⟨by show _ ≤ 719123; omega, by show _ ≤ 6944879; omega⟩ dL_law_498 rfl ?_
    refine v_same (tgt := 1277) hX dL_law_501 (by decide) ?_
    exact v_widen (k := 198 + 2 * (k + 1)) (n := 2300 + 7 * (k + 1)) (by omega) (by omega) (kk _ _ _ _ h')
  · refine v_iconst hX dL_law_476 ?_
    refine v_goto (tgt := 481) hX dL_law_477 (by decide) ?_
    obtain ⟨r, I', J, A', q1, q2, h'⟩ := st_useHumidity (a := 1) h (by decide)
    refine v_callV (As := [.int (q_i (1))]) (rest := []) (st1 := [.int (q_i r)]) (some (.int (q_i r))) hX mv_RL_53 (c_X9_useHumidity q1) ⟨rfl, rfl⟩ ⟨Nat.le_of_ble_eq_true rfl, Nat.le_of_ble_eq_true rfl⟩ (k_0 h.1) rfl rfl (Nat.le_of_ble_eq_true rfl) ⟨by show _ ≤ 719123; omega, by show _ ≤ 6944879; omega⟩ dL_law_481 rfl ?_
    refine v_aload_n 2 1 hX dL_law_484 rfl rfl ?_
    refine v_aload_n 0 3 hX dL_law_485 rfl rfl ?_
    refine v_iload_n 3 0 hX dL_law_486 rfl rfl ?_
    refine v_iconst hX dL_law_487 ?_
    refine v_iadd hX dL_law_488 ?_
    refine v_sld (i := 7 * k + 1) hX hs (by omega) hL (by omega) dL_law_489 ?_
    refine v_if_eq (tgt := 497) hX hz dL_law_490 (by decide) (fun e2 => absurd e2 e1) (fun _ => ?_)
    refine v_iconst hX dL_law_493 ?_
    refine v_goto (tgt := 498) hX dL_law_494 (by decide) ?_
    refine v_callV (As := [.int (q_i (1))]) (rest := [.int (q_i r)]) (st1 := [.int (q_i r), .int (q_i r)]) (some (.int (q_i r))) hX mv_RL_57 (c_X10_useHumidity q2) ⟨rfl, rfl⟩ ⟨Nat.le_of_ble_eq_true rfl, Nat.le_of_ble_eq_true rfl⟩ (k_171 h'.1) rfl rfl (Nat.le_of_ble_eq_true rfl) ⟨by show _ ≤ 719123; omega, by show _ ≤ 6944879; omega⟩ dL_law_498 rfl ?_
    refine v_same (tgt := 1277) hX dL_law_501 (by decide) ?_
    exact v_widen (k := 198 + 2 * (k + 1)) (n := 2300 + 7 * (k + 1)) (by omega) (by omega) (kk _ _ _ _ h')
theorem law_10 {X : q_X} {nm : String} {b L k x : Nat} {xs : Nat → Int32} {S : q_S} {R : q_HR} {I : q_HI} {A : q_A} (hX : q_C X cL_law 4 RL ret nm) (hs : l_sc X b L xs) (hL : L ≤ 3584) (hk : 7 * k + 7 ≤ L) (h : w_J x S R I A) (kk : ∀ S2 R2 J A2, w_J x S2 R2 J A2 → q_V X room_1 cL_law 4 (198 + 2 * (k + 1)) (2300 + 7 * (k + 1)) 1277 (l_lv k x b) [] S2 R2 J) : q_V X room_1 cL_law 4 (198 + 2 * k) (2300 + 7 * k) 506 (l_lv k x b) [] S R I := by
  obtain ⟨r, R', I', J, A', q1, q2, h'⟩ := st_addReference h (r_iI (xs (7 * k + 1)))
  refine v_aload_n 1 2 hX dL_law_506 rfl rfl ?_
  refine v_aload_n 0 3 hX dL_law_507 rfl rfl ?_
  refine v_iload_n 3 0 hX dL_law_508 rfl rfl ?_
  refine v_iconst hX dL_law_509 ?_
  refine v_iadd hX dL_law_510 ?_
  refine v_sld (i := 7 * k + 1) hX hs (by omega) hL (by omega) dL_law_511 ?_
  refine v_callV (As := [.int (q_i ((xs (7 * k + 1)).toInt))]) (rest := []) (st1 := [.int (q_i r)]) (some (.int (q_i r))) hX mv_RL_58 (c_X9_addReference q1) ⟨rfl, rfl⟩ ⟨Nat.le_of_ble_eq_true rfl, Nat.le_of_ble_eq_true rfl⟩ (k_0 h.1) rfl rfl (Nat.le_of_ble_eq_true rfl) ⟨by show _ ≤ 719123; omega, by show _ ≤ 6944879; omega⟩ dL_law_512 rfl ?_
  refine v_aload_n 2 1 hX dL_law_515 rfl rfl ?_
  refine v_aload_n 0 3 hX dL_law_516 rfl rfl ?_
  refine v_iload_n 3 0 hX dL_law_517 rfl rfl ?_
  refine v_iconst hX dL_law_518 ?_
  refine v_iadd hX dL_law_519 ?_
  refine v_sld (i := 7 * k + 1) hX hs (by omega) hL (by omega) dL_law_520 ?_
  refine v_callV (As := [.int (q_i ((xs (7 * k + 1)).toInt))]) (rest := [.int (q_i r)]) (st1 := [.int (q_i r), .int (q_i r)]) (some (.int (q_i r))) hX mv_RL_61 (c_X10_addReference q2) ⟨rfl, rfl⟩ ⟨Nat.le_of_ble_eq_true rfl, Nat.le_of_ble_eq_true rfl⟩ (k_171 h'.1) rfl rfl (Nat.le_of_ble_eq_true rfl) ⟨by show _ ≤ 719123; omega, by show _ ≤ 6944879; omega⟩ dL_law_521 rfl ?_
  refine v_same (tgt := 1277) hX dL_law_524 (by decide) ?_
  exact v_widen (k := 198 + 2 * (k + 1)) (n := 2300 + 7 * (k + 1)) (by omega) (by omega) (kk _ _ _ _ h')
theorem law_11 {X : q_X} {nm : String} {b L k x : Nat} {xs : Nat → Int32} {S : q_S} {R : q_HR} {I : q_HI} {A : q_A} (hX : q_C X cL_law 4 RL ret nm) (hs : l_sc X b L xs) (hL : L ≤ 3584) (hk : 7 * k + 7 ≤ L) (h : w_J x S R I A) (kk : ∀ S2 R2 J A2, w_J x S2 R2 J A2 → q_V X room_1 cL_law 4 (198 + 2 * (k + 1)) (2300 + 7 * (k + 1)) 1277 (l_lv k x b) [] S2 R2 J) : q_V X room_1 cL_law 4 (198 + 2 * k) (2300 + 7 * k) 529 (l_lv k x b) [] S R I := by
  obtain ⟨r, R', I', J, A', q1, q2, h'⟩ := st_removeReference h
  refine v_aload_n 1 2 hX dL_law_529 rfl rfl ?_
  refine v_callV (As := []) (rest := []) (st1 := [.int (q_i r)]) (some (.int (q_i r))) hX mv_RL_62 (c_X9_removeReference q1) ⟨rfl, rfl⟩ ⟨Nat.le_of_ble_eq_true rfl, Nat.le_of_ble_eq_true rfl⟩ (k_0 h.1) rfl rfl (Nat.le_of_ble_eq_true rfl) ⟨by show _ ≤ 719123; omega, by show _ ≤ 6944879; omega⟩ dL_law_530 rfl ?_
  refine v_aload_n 2 1 hX dL_law_533 rfl rfl ?_
  refine v_callV (As := []) (rest := [.int (q_i r)]) (st1 := [.int (q_i r), .int (q_i r)]) (some (.int (q_i r))) hX mv_RL_65 (c_X10_removeReference q2) ⟨rfl, rfl⟩ ⟨Nat.le_of_ble_eq_true rfl, Nat.le_of_ble_eq_true rfl⟩ (k_171 h'.1) rfl rfl (Nat.le_of_ble_eq_true rfl) ⟨by show _ ≤ 719123; omega, by show _ ≤ 6944879; omega⟩ dL_law_534 rfl ?_
  refine v_same (tgt := 1277) hX dL_law_537 (by decide) ?_
  exact v_widen (k := 198 + 2 * (k + 1)) (n := 2300 + 7 * (k + 1)) (by omega) (by omega) (kk _ _ _ _ h')
theorem law_12 {X : q_X} {nm : String} {b L k x : Nat} {xs : Nat → Int32} {S : q_S} {R : q_HR} {I : q_HI} {A : q_A} (hX : q_C X cL_law 4 RL ret nm) (hs : l_sc X b L xs) (hL : L ≤ 3584) (hk : 7 * k + 7 ≤ L) (h : w_J x S R I A) (kk : ∀ S2 R2 J A2, w_J x S2 R2 J A2 → q_V X room_1 cL_law 4 (198 + 2 * (k + 1)) (2300 + 7 * (k + 1)) 1277 (l_lv k x b) [] S2 R2 J) : q_V X room_1 cL_law 4 (198 + 2 * k) (2300 + 7 * k) 542 (l_lv k x b) [] S R I := by
  obtain ⟨r, I', J, A', q1, q2, h'⟩ := st_driftComponent h (r_iI (xs (7 * k + 1)))
  refine v_aload_n 1 2 hX dL_law_542 rfl rfl ?_
  refine v_aload_n 0 3 hX dL_law_543 rfl rfl ?_
  refine v_iload_n 3 0 hX dL_law_544 rfl rfl ?_
  refine v_iconst hX dL_law_545 ?_
  refine v_iadd hX dL_law_546 ?_
  refine v_sld (i := 7 * k + 1) hX hs (by omega) hL (by omega) dL_law_547 ?_
  refine v_callV (As := [.int (q_i ((xs (7 * k + 1)).toInt))]) (rest := []) (st1 := [.int (q_i r)]) (some (.int (q_i r))) hX mv_RL_66 (c_X9_driftComponent q1) ⟨rfl, rfl⟩ ⟨Nat.le_of_ble_eq_true rfl, Nat.le_of_ble_eq_true rfl⟩ (k_0 h.1) rfl rfl (Nat.le_of_ble_eq_true rfl) ⟨by show _ ≤ 719123; omega, by show _ ≤ 6944879; omega⟩ dL_law_548 rfl ?_
  refine v_aload_n 2 1 hX dL_law_551 rfl rfl ?_
  refine v_aload_n 0 3 hX dL_law_552 rfl rfl ?_
  refine v_iload_n 3 0 hX dL_law_553 rfl rfl ?_
  refine v_iconst hX dL_law_554 ?_
  refine v_iadd hX dL_law_555 ?_
  refine v_sld (i := 7 * k + 1) hX hs (by omega) hL (by omega) dL_law_556 ?_
  refine v_callV (As := [.int (q_i ((xs (7 * k + 1)).toInt))]) (rest := [.int (q_i r)]) (st1 := [.int (q_i r), .int (q_i r)]) (some (.int (q_i r))) hX mv_RL_69 (c_X10_driftComponent q2) ⟨rfl, rfl⟩ ⟨Nat.le_of_ble_eq_true rfl, Nat.le_of_ble_eq_true rfl⟩ (k_171 h'.1) rfl rfl (Nat.le_of_ble_eq_true rfl) ⟨by show _ ≤ 719123; omega, by show _ ≤ 6944879; omega⟩ dL_law_557 rfl ?_
  refine v_same (tgt := 1277) hX dL_law_560 (by decide) ?_
  exact v_widen (k := 198 + 2 * (k + 1)) (n := 2300 + 7 * (k + 1)) (by omega) (by omega) (kk _ _ _ _ h')
theorem law_13 {X : q_X} {nm : String} {b L k x : Nat} {xs : Nat → Int32} {S : q_S} {R : q_HR} {I : q_HI} {A : q_A} (hX : q_C X cL_law 4 RL ret nm) (hs : l_sc X b L xs) (hL : L ≤ 3584) (hk : 7 * k + 7 ≤ L) (h : w_J x S R I A) (kk : ∀ S2 R2 J A2, w_J x S2 R2 J A2 → q_V X room_1 cL_law 4 (198 + 2 * (k + 1)) (2300 + 7 * (k + 1)) 1277 (l_lv k x b) [] S2 R2 J) : q_V X room_1 cL_law 4 (198 + 2 * k) (2300 + 7 * k) 565 (l_lv k x b) [] S R I := by
  obtain ⟨r, I', J, A', q1, q2, h'⟩ := st_driftPosition h
  refine v_aload_n 1 2 hX dL_law_565 rfl rfl ?_
  refine v_callV (As := []) (rest := []) (st1 := [.int (q_i r)]) (some (.int (q_i r))) hX mv_RL_70 (c_X9_driftPosition q1) ⟨rfl, rfl⟩ ⟨Nat.le_of_ble_eq_true rfl, Nat.le_of_ble_eq_true rfl⟩ (k_0 h.1) rfl rfl (Nat.le_of_ble_eq_true rfl) ⟨by show _ ≤ 719123; omega, by show _ ≤ 6944879; omega⟩ dL_law_566 rfl ?_
  refine v_aload_n 2 1 hX dL_law_569 rfl rfl ?_
  refine v_callV (As := []) (rest := [.int (q_i r)]) (st1 := [.int (q_i r), .int (q_i r)]) (some (.int (q_i r))) hX mv_RL_73 (c_X10_driftPosition q2) ⟨rfl, rfl⟩ ⟨Nat.le_of_ble_eq_true rfl, Nat.le_of_ble_eq_true rfl⟩ (k_171 h'.1) rfl rfl (Nat.le_of_ble_eq_true rfl) ⟨by show _ ≤ 719123; omega, by show _ ≤ 6944879; omega⟩ dL_law_570 rfl ?_
  refine v_same (tgt := 1277) hX dL_law_573 (by decide) ?_
  exact v_widen (k := 198 + 2 * (k + 1)) (n := 2300 + 7 * (k + 1)) (by omega) (by omega) (kk _ _ _ _ h')
theorem law_14 {X : q_X} {nm : String} {b L k x : Nat} {xs : Nat → Int32} {S : q_S} {R : q_HR} {I : q_HI} {A : q_A} (hX : q_C X cL_law 4 RL ret nm) (hs : l_sc X b L xs) (hL : L ≤ 3584) (hk : 7 * k + 7 ≤ L) (h : w_J x S R I A) (kk : ∀ S2 R2 J A2, w_J x S2 R2 J A2 → q_V X room_1 cL_law 4 (198 + 2 * (k + 1)) (2300 + 7 * (k + 1)) 1277 (l_lv k x b) [] S2 R2 J) : q_V X room_1 cL_law 4 (198 + 2 * k) (2300 + 7 * k) 578 (l_lv k x b) [] S R I := by
  have hz := r_iI (xs (7 * k + 1))
  refine v_aload_n 1 2 hX dL_law_578 rfl rfl ?_
  refine v_aload_n 0 3 hX dL_law_579 rfl rfl ?_
  refine v_iload_n 3 0 hX dL_law_580 rfl rfl ?_
  refine v_iconst hX dL_law_581 ?_
  refine v_iadd hX dL_law_582 ?_
  refine v_sld (i := 7 * k + 1) hX hs (by omega) hL (by omega) dL_law_583 ?_
  refine v_if_eq (tgt := 591) hX hz dL_law_584 (by decide) (fun e1 => ?_) (fun e1 => ?_)
  · refine v_iconst hX dL_law_591 ?_
    obtain ⟨r, I', J, A', q1, q2, h'⟩ := st_useDrift (a := 0) h (by decide)
    refine v_callV (As := [.int (q_i (0))]) (rest := []) (st1 := [.int (q_i r)]) (some (.int (q_i r))) hX mv_RL_74 (c_X9_useDrift q1) ⟨rfl, rfl⟩ ⟨Nat.le_of_ble_eq_true rfl, Nat.le_of_ble_eq_true rfl⟩ (k_0 h.1) rfl rfl (Nat.le_of_ble_eq_true rfl) ⟨by show _ ≤ 719123; omega, by show _ ≤ 6944879; omega⟩ dL_law_592 rfl ?_
    refine v_aload_n 2 1 hX dL_law_595 rfl rfl ?_
    refine v_aload_n 0 3 hX dL_law_596 rfl rfl ?_
    refine v_iload_n 3 0 hX dL_law_597 rfl rfl ?_
    refine v_iconst hX dL_law_598 ?_
    refine v_iadd hX dL_law_599 ?_
    refine v_sld (i := 7 * k + 1) hX hs (by omega) hL (by omega) dL_law_600 ?_
    refine v_if_eq (tgt := 608) hX hz dL_law_601 (by decide) (fun _ => ?_) (fun e2 => absurd e1 e2)
    refine v_iconst hX dL_law_608 ?_
    refine v_callV (As := [.int (q_i (0))]) (rest := [.int (q_i r)]) (st1 := [.int (q_i r), .int (q_i r)]) (some (.int (q_i r))) hX mv_RL_77 (c_X10_useDrift q2) ⟨rfl, rfl⟩ ⟨Nat.le_of_ble_eq_true rfl, Nat.le_of_ble_eq_true rfl⟩ (k_171 h'.1) rfl rfl (Nat.le_of_ble_eq_true rfl) ⟨by show _ ≤ 719123; omega, by show _ ≤ 6944879; omega⟩ dL_law_609 rfl ?_
    refine v_same (tgt := 1277) hX dL_law_612 (by decide) ?_
    exact v_widen (k := 198 + 2 * (k + 1)) (n := 2300 + 7 * (k + 1)) (by omega) (by omega) (kk _ _ _ _ h')
  · refine v_iconst hX dL_law_587 ?_
    refine v_goto (tgt := 592) hX dL_law_588 (by decide) ?_
    obtain ⟨r, I', J, A', q1, q2, h'⟩ := st_useDrift (a := 1) h (by decide)
    refine v_callV (As := [.int (q_i (1))]) (rest := []) (st1 := [.int (q_i r)]) (some (.int (q_i r))) hX mv_RL_74 (c_X9_useDrift q1) ⟨rfl, rfl⟩ ⟨Nat.le_of_ble_eq_true rfl, Nat.le_of_ble_eq_true rfl⟩ (k_0 h.1) rfl rfl (Nat.le_of_ble_eq_true rfl) ⟨by show _ ≤ 719123; omega, by show _ ≤ 6944879; omega⟩ dL_law_592 rfl ?_
    refine v_aload_n 2 1 hX dL_law_595 rfl rfl ?_
    refine v_aload_n 0 3 hX dL_law_596 rfl rfl ?_
    refine v_iload_n 3 0 hX dL_law_597 rfl rfl ?_
    refine v_iconst hX dL_law_598 ?_
    refine v_iadd hX dL_law_599 ?_
    refine v_sld (i := 7 * k + 1) hX hs (by omega) hL (by omega) dL_law_600 ?_
    refine v_if_eq (tgt := 608) hX hz dL_law_601 (by decide) (fun e2 => absurd e2 e1) (fun _ => ?_)
    refine v_iconst hX dL_law_604 ?_
    refine v_goto (tgt := 609) hX dL_law_605 (by decide) ?_
    refine v_callV (As := [.int (q_i (1))]) (rest := [.int (q_i r)]) (st1 := [.int (q_i r), .int (q_i r)]) (some (.int (q_i r))) hX mv_RL_77 (c_X10_useDrift q2) ⟨rfl, rfl⟩ ⟨Nat.le_of_ble_eq_true rfl, Nat.le_of_ble_eq_true rfl⟩ (k_171 h'.1) rfl rfl (Nat.le_of_ble_eq_true rfl) ⟨by show _ ≤ 719123; omega, by show _ ≤ 6944879; omega⟩ dL_law_609 rfl ?_
    refine v_same (tgt := 1277) hX dL_law_612 (by decide) ?_
    exact v_widen (k := 198 + 2 * (k + 1)) (n := 2300 + 7 * (k + 1)) (by omega) (by omega) (kk _ _ _ _ h')
