section LWC
variable {p : Program} {l : Launch} {e : Env} {s : State} {m : MethodId} {below : List Frame} {meth : Method} {c : Code} {g : fr_G} {b L : Nat} {xs : Nat → Int32} {Q : State → Prop}
set_option maxRecDepth 100000 in
theorem lc_0 {σ : fr_St} {i N : Nat} (X : lX p s m meth c g b L xs) (hL : L ≤ 3072) (hi : i + 5 < L) (hN : N ≤ 1000) (h : Rel N σ) (K : ∀ τ, Rel (N + 1) τ → lV p l e s m below meth c g b Q τ i 1264 []) : lV p l e s m below meth c g b Q σ i 188 [] := by
  obtain ⟨r, s1, s2, e1, e2, e3⟩ := st_row h (xs (i + 1)) (xs (i + 2)) (xs (i + 3))
  refine l_recv (i0 := 2) X dL_law_188 rfl rfl ?_
  refine l_arg (j := 1) X hL (by omega) dL_law_189 dL_law_190 dL_law_191 (by decide) dL_law_192 dL_law_193 ?_
  refine l_arg (j := 2) X hL (by omega) dL_law_194 dL_law_195 dL_law_196 (by decide) dL_law_197 dL_law_198 ?_
  refine l_arg (j := 3) X hL (by omega) dL_law_199 dL_law_200 dL_law_201 (by decide) dL_law_202 dL_law_203 ?_
  refine l_callI (o := 0) (nA := 3) (As := [.int (xs (i + 1)), .int (xs (i + 2)), .int (xs (i + 3))]) X (c_X7_row e1) cd_X7_row ml_L_13 im_X7_row se_X7_row in_RX7 (by decide +kernel) rfl rfl (by decide) rfl (Nat.le_of_ble_eq_true rfl) dL_law_204 rfl ?_
  refine l_recv (i0 := 3) X dL_law_207 rfl rfl ?_
  refine l_arg (j := 1) X hL (by omega) dL_law_208 dL_law_209 dL_law_210 (by decide) dL_law_211 dL_law_212 ?_
  refine l_arg (j := 2) X hL (by omega) dL_law_213 dL_law_214 dL_law_215 (by decide) dL_law_216 dL_law_217 ?_
  refine l_arg (j := 3) X hL (by omega) dL_law_218 dL_law_219 dL_law_220 (by decide) dL_law_221 dL_law_222 ?_
  refine l_callI (o := 59) (nA := 3) (As := [.int (xs (i + 1)), .int (xs (i + 2)), .int (xs (i + 3))]) X (c_X8_row e2) cd_X8_row ml_L_17 im_X8_row se_X8_row in_RX8 (by decide +kernel) rfl rfl (by decide) rfl (Nat.le_of_ble_eq_true rfl) dL_law_223 rfl ?_
  exact l_same X dL_law_226 (by decide) (K s2 e3)
set_option maxRecDepth 100000 in
theorem lc_1 {σ : fr_St} {i N : Nat} (X : lX p s m meth c g b L xs) (hL : L ≤ 3072) (hi : i + 5 < L) (hN : N ≤ 1000) (h : Rel N σ) (K : ∀ τ, Rel (N + 1) τ → lV p l e s m below meth c g b Q τ i 1264 []) : lV p l e s m below meth c g b Q σ i 231 [] := by
  obtain ⟨r, s1, s2, e1, e2, e3⟩ := st_set h (xs (i + 1)) (xs (i + 2)) (xs (i + 3))
  refine l_recv (i0 := 2) X dL_law_231 rfl rfl ?_
  refine l_arg (j := 1) X hL (by omega) dL_law_232 dL_law_233 dL_law_234 (by decide) dL_law_235 dL_law_236 ?_
  refine l_arg (j := 2) X hL (by omega) dL_law_237 dL_law_238 dL_law_239 (by decide) dL_law_240 dL_law_241 ?_
  refine l_arg (j := 3) X hL (by omega) dL_law_242 dL_law_243 dL_law_244 (by decide) dL_law_245 dL_law_246 ?_
  refine l_callI (o := 0) (nA := 3) (As := [.int (xs (i + 1)), .int (xs (i + 2)), .int (xs (i + 3))]) X (c_X7_set e1) cd_X7_set ml_L_18 im_X7_set se_X7_set in_RX7 (by decide +kernel) rfl rfl (by decide) rfl (Nat.le_of_ble_eq_true rfl) dL_law_247 rfl ?_
  refine l_recv (i0 := 3) X dL_law_250 rfl rfl ?_
  refine l_arg (j := 1) X hL (by omega) dL_law_251 dL_law_252 dL_law_253 (by decide) dL_law_254 dL_law_255 ?_
  refine l_arg (j := 2) X hL (by omega) dL_law_256 dL_law_257 dL_law_258 (by decide) dL_law_259 dL_law_260 ?_
  refine l_arg (j := 3) X hL (by omega) dL_law_261 dL_law_262 dL_law_263 (by decide) dL_law_264 dL_law_265 ?_
  refine l_callI (o := 59) (nA := 3) (As := [.int (xs (i + 1)), .int (xs (i + 2)), .int (xs (i + 3))]) X (c_X8_set e2) cd_X8_set ml_L_21 im_X8_set se_X8_set in_RX8 (by decide +kernel) rfl rfl (by decide) rfl (Nat.le_of_ble_eq_true rfl) dL_law_266 rfl ?_
  exact l_same X dL_law_269 (by decide) (K s2 e3)
set_option maxRecDepth 100000 in
theorem lc_2 {σ : fr_St} {i N : Nat} (X : lX p s m meth c g b L xs) (hL : L ≤ 3072) (hi : i + 5 < L) (hN : N ≤ 1000) (h : Rel N σ) (K : ∀ τ, Rel (N + 1) τ → lV p l e s m below meth c g b Q τ i 1264 []) : lV p l e s m below meth c g b Q σ i 274 [] := by
  obtain ⟨r, s1, s2, e1, e2, e3⟩ := st_copy h (xs (i + 1)) (xs (i + 2)) (xs (i + 3)) (xs (i + 4)) (xs (i + 5))
  refine l_recv (i0 := 2) X dL_law_274 rfl rfl ?_
  refine l_arg (j := 1) X hL (by omega) dL_law_275 dL_law_276 dL_law_277 (by decide) dL_law_278 dL_law_279 ?_
  refine l_arg (j := 2) X hL (by omega) dL_law_280 dL_law_281 dL_law_282 (by decide) dL_law_283 dL_law_284 ?_
  refine l_arg (j := 3) X hL (by omega) dL_law_285 dL_law_286 dL_law_287 (by decide) dL_law_288 dL_law_289 ?_
  refine l_arg (j := 4) X hL (by omega) dL_law_290 dL_law_291 dL_law_292 (by decide) dL_law_293 dL_law_294 ?_
  refine l_arg (j := 5) X hL (by omega) dL_law_295 dL_law_296 dL_law_297 (by decide) dL_law_298 dL_law_299 ?_
  refine l_callI (o := 0) (nA := 5) (As := [.int (xs (i + 1)), .int (xs (i + 2)), .int (xs (i + 3)), .int (xs (i + 4)), .int (xs (i + 5))]) X (c_X7_copy e1) cd_X7_copy ml_L_22 im_X7_copy se_X7_copy in_RX7 (by decide +kernel) rfl rfl (by decide) rfl (Nat.le_of_ble_eq_true rfl) dL_law_300 rfl ?_
  refine l_recv (i0 := 3) X dL_law_303 rfl rfl ?_
  refine l_arg (j := 1) X hL (by omega) dL_law_304 dL_law_305 dL_law_306 (by decide) dL_law_307 dL_law_308 ?_
  refine l_arg (j := 2) X hL (by omega) dL_law_309 dL_law_310 dL_law_311 (by decide) dL_law_312 dL_law_313 ?_
  refine l_arg (j := 3) X hL (by omega) dL_law_314 dL_law_315 dL_law_316 (by decide) dL_law_317 dL_law_318 ?_
  refine l_arg (j := 4) X hL (by omega) dL_law_319 dL_law_320 dL_law_321 (by decide) dL_law_322 dL_law_323 ?_
  refine l_arg (j := 5) X hL (by omega) dL_law_324 dL_law_325 dL_law_326 (by decide) dL_law_327 dL_law_328 ?_
  refine l_callI (o := 59) (nA := 5) (As := [.int (xs (i + 1)), .int (xs (i + 2)), .int (xs (i + 3)), .int (xs (i + 4)), .int (xs (i + 5))]) X (c_X8_copy e2) cd_X8_copy ml_L_26 im_X8_copy se_X8_copy in_RX8 (by decide +kernel) rfl rfl (by decide) rfl (Nat.le_of_ble_eq_true rfl) dL_law_329 rfl ?_
  exact l_same X dL_law_332 (by decide) (K s2 e3)
set_option maxRecDepth 100000 in
theorem lc_3 {σ : fr_St} {i N : Nat} (X : lX p s m meth c g b L xs) (hL : L ≤ 3072) (hi : i + 5 < L) (hN : N ≤ 1000) (h : Rel N σ) (K : ∀ τ, Rel (N + 1) τ → lV p l e s m below meth c g b Q τ i 1264 []) : lV p l e s m below meth c g b Q σ i 337 [] := by
  obtain ⟨r, s1, s2, e1, e2, e3⟩ := st_drop h (xs (i + 1))
  refine l_recv (i0 := 2) X dL_law_337 rfl rfl ?_
  refine l_arg (j := 1) X hL (by omega) dL_law_338 dL_law_339 dL_law_340 (by decide) dL_law_341 dL_law_342 ?_
  refine l_callI (o := 0) (nA := 1) (As := [.int (xs (i + 1))]) X (c_X7_drop e1) cd_X7_drop ml_L_27 im_X7_drop se_X7_drop in_RX7 (by decide +kernel) rfl rfl (by decide) rfl (Nat.le_of_ble_eq_true rfl) dL_law_343 rfl ?_
  refine l_recv (i0 := 3) X dL_law_346 rfl rfl ?_
  refine l_arg (j := 1) X hL (by omega) dL_law_347 dL_law_348 dL_law_349 (by decide) dL_law_350 dL_law_351 ?_
  refine l_callI (o := 59) (nA := 1) (As := [.int (xs (i + 1))]) X (c_X8_drop e2) cd_X8_drop ml_L_31 im_X8_drop se_X8_drop in_RX8 (by decide +kernel) rfl rfl (by decide) rfl (Nat.le_of_ble_eq_true rfl) dL_law_352 rfl ?_
  exact l_same X dL_law_355 (by decide) (K s2 e3)
set_option maxRecDepth 100000 in
theorem lc_4 {σ : fr_St} {i N : Nat} (X : lX p s m meth c g b L xs) (hL : L ≤ 3072) (hi : i + 5 < L) (hN : N ≤ 1000) (h : Rel N σ) (K : ∀ τ, Rel (N + 1) τ → lV p l e s m below meth c g b Q τ i 1264 []) : lV p l e s m below meth c g b Q σ i 360 [] := by
  obtain ⟨r, s1, s2, e1, e2, e3⟩ := st_feed h (xs (i + 1))
  refine l_recv (i0 := 2) X dL_law_360 rfl rfl ?_
  refine l_arg (j := 1) X hL (by omega) dL_law_361 dL_law_362 dL_law_363 (by decide) dL_law_364 dL_law_365 ?_
  refine l_callI (o := 0) (nA := 1) (As := [.int (xs (i + 1))]) X (c_X7_feed e1) cd_X7_feed ml_L_32 im_X7_feed se_X7_feed in_RX7 (by decide +kernel) rfl rfl (by decide) rfl (Nat.le_of_ble_eq_true rfl) dL_law_366 rfl ?_
  refine l_recv (i0 := 3) X dL_law_369 rfl rfl ?_
  refine l_arg (j := 1) X hL (by omega) dL_law_370 dL_law_371 dL_law_372 (by decide) dL_law_373 dL_law_374 ?_
  refine l_callI (o := 59) (nA := 1) (As := [.int (xs (i + 1))]) X (c_X8_feed e2) cd_X8_feed ml_L_35 im_X8_feed se_X8_feed in_RX8 (by decide +kernel) rfl rfl (by decide) rfl (Nat.le_of_ble_eq_true rfl) dL_law_375 rfl ?_
  exact l_same X dL_law_378 (by decide) (K s2 e3)
set_option maxRecDepth 100000 in
theorem lc_5 {σ : fr_St} {i N : Nat} (X : lX p s m meth c g b L xs) (hL : L ≤ 3072) (hi : i + 5 < L) (hN : N ≤ 1000) (h : Rel N σ) (K : ∀ τ, Rel (N + 1) τ → lV p l e s m below meth c g b Q τ i 1264 []) : lV p l e s m below meth c g b Q σ i 383 [] := by
  obtain ⟨r, s1, s2, e1, e2, e3⟩ := st_land h 
  refine l_recv (i0 := 2) X dL_law_383 rfl rfl ?_
  refine l_callI (o := 0) (nA := 0) (As := []) X (c_X7_land e1) cd_X7_land ml_L_36 im_X7_land se_X7_land in_RX7 (by decide +kernel) rfl rfl (by decide) rfl (Nat.le_of_ble_eq_true rfl) dL_law_384 rfl ?_
  refine l_recv (i0 := 3) X dL_law_387 rfl rfl ?_
  refine l_callI (o := 59) (nA := 0) (As := []) X (c_X8_land e2) cd_X8_land ml_L_40 im_X8_land se_X8_land in_RX8 (by decide +kernel) rfl rfl (by decide) rfl (Nat.le_of_ble_eq_true rfl) dL_law_388 rfl ?_
  exact l_same X dL_law_391 (by decide) (K s2 e3)
set_option maxRecDepth 100000 in
theorem lc_6 {σ : fr_St} {i N : Nat} (X : lX p s m meth c g b L xs) (hL : L ≤ 3072) (hi : i + 5 < L) (hN : N ≤ 1000) (h : Rel N σ) (K : ∀ τ, Rel (N + 1) τ → lV p l e s m below meth c g b Q τ i 1264 []) : lV p l e s m below meth c g b Q σ i 396 [] := by
  obtain ⟨r, s1, s2, e1, e2, e3⟩ := st_fault h 
  refine l_recv (i0 := 2) X dL_law_396 rfl rfl ?_
  refine l_callI (o := 0) (nA := 0) (As := []) X (c_X7_fault e1) cd_X7_fault ml_L_41 im_X7_fault se_X7_fault in_RX7 (by decide +kernel) rfl rfl (by decide) rfl (Nat.le_of_ble_eq_true rfl) dL_law_397 rfl ?_
  refine l_recv (i0 := 3) X dL_law_400 rfl rfl ?_
  refine l_callI (o := 59) (nA := 0) (As := []) X (c_X8_fault e2) cd_X8_fault ml_L_44 im_X8_fault se_X8_fault in_RX8 (by decide +kernel) rfl rfl (by decide) rfl (Nat.le_of_ble_eq_true rfl) dL_law_401 rfl ?_
  exact l_same X dL_law_404 (by decide) (K s2 e3)
set_option maxRecDepth 100000 in
theorem lc_7 {σ : fr_St} {i N : Nat} (X : lX p s m meth c g b L xs) (hL : L ≤ 3072) (hi : i + 5 < L) (hN : N ≤ 1000) (h : Rel N σ) (K : ∀ τ, Rel (N + 1) τ → lV p l e s m below meth c g b Q τ i 1264 []) : lV p l e s m below meth c g b Q σ i 409 [] := by
  obtain ⟨r, s1, s2, e1, e2, e3⟩ := st_walk hN h (xs (i + 1)) (xs (i + 2))
  refine l_recv (i0 := 2) X dL_law_409 rfl rfl ?_
  refine l_arg (j := 1) X hL (by omega) dL_law_410 dL_law_411 dL_law_412 (by decide) dL_law_413 dL_law_414 ?_
  refine l_arg (j := 2) X hL (by omega) dL_law_415 dL_law_416 dL_law_417 (by decide) dL_law_418 dL_law_419 ?_
  refine l_callI (o := 0) (nA := 2) (As := [.int (xs (i + 1)), .int (xs (i + 2))]) X (c_X7_walk e1) cd_X7_walk ml_L_45 im_X7_walk se_X7_walk in_RX7 (by decide +kernel) rfl rfl (by decide) rfl (Nat.le_of_ble_eq_true rfl) dL_law_420 rfl ?_
  refine l_recv (i0 := 3) X dL_law_423 rfl rfl ?_
  refine l_arg (j := 1) X hL (by omega) dL_law_424 dL_law_425 dL_law_426 (by decide) dL_law_427 dL_law_428 ?_
  refine l_arg (j := 2) X hL (by omega) dL_law_429 dL_law_430 dL_law_431 (by decide) dL_law_432 dL_law_433 ?_
  refine l_callI (o := 59) (nA := 2) (As := [.int (xs (i + 1)), .int (xs (i + 2))]) X (c_X8_walk e2) cd_X8_walk ml_L_49 im_X8_walk se_X8_walk in_RX8 (by decide +kernel) rfl rfl (by decide) rfl (Nat.le_of_ble_eq_true rfl) dL_law_434 rfl ?_
  exact l_same X dL_law_437 (by decide) (K s2 e3)
set_option maxRecDepth 100000 in
theorem lc_8 {σ : fr_St} {i N : Nat} (X : lX p s m meth c g b L xs) (hL : L ≤ 3072) (hi : i + 5 < L) (hN : N ≤ 1000) (h : Rel N σ) (K : ∀ τ, Rel (N + 1) τ → lV p l e s m below meth c g b Q τ i 1264 []) : lV p l e s m below meth c g b Q σ i 442 [] := by
  obtain ⟨r, s1, s2, e1, e2, e3⟩ := st_lead hN h (xs (i + 1)) (xs (i + 2)) (xs (i + 3))
  refine l_recv (i0 := 2) X dL_law_442 rfl rfl ?_
  refine l_arg (j := 1) X hL (by omega) dL_law_443 dL_law_444 dL_law_445 (by decide) dL_law_446 dL_law_447 ?_
  refine l_arg (j := 2) X hL (by omega) dL_law_448 dL_law_449 dL_law_450 (by decide) dL_law_451 dL_law_452 ?_
  refine l_arg (j := 3) X hL (by omega) dL_law_453 dL_law_454 dL_law_455 (by decide) dL_law_456 dL_law_457 ?_
  refine l_callI (o := 0) (nA := 3) (As := [.int (xs (i + 1)), .int (xs (i + 2)), .int (xs (i + 3))]) X (c_X7_lead e1) cd_X7_lead ml_L_50 im_X7_lead se_X7_lead in_RX7 (by decide +kernel) rfl rfl (by decide) rfl (Nat.le_of_ble_eq_true rfl) dL_law_458 rfl ?_
  refine l_recv (i0 := 3) X dL_law_461 rfl rfl ?_
  refine l_arg (j := 1) X hL (by omega) dL_law_462 dL_law_463 dL_law_464 (by decide) dL_law_465 dL_law_466 ?_
  refine l_arg (j := 2) X hL (by omega) dL_law_467 dL_law_468 dL_law_469 (by decide) dL_law_470 dL_law_471 ?_
  refine l_arg (j := 3) X hL (by omega) dL_law_472 dL_law_473 dL_law_474 (by decide) dL_law_475 dL_law_476 ?_
  refine l_callI (o := 59) (nA := 3) (As := [.int (xs (i + 1)), .int (xs (i + 2)), .int (xs (i + 3))]) X (c_X8_lead e2) cd_X8_lead ml_L_53 im_X8_lead se_X8_lead in_RX8 (by decide +kernel) rfl rfl (by decide) rfl (Nat.le_of_ble_eq_true rfl) dL_law_477 rfl ?_
  exact l_same X dL_law_480 (by decide) (K s2 e3)
set_option maxRecDepth 100000 in
theorem lc_9 {σ : fr_St} {i N : Nat} (X : lX p s m meth c g b L xs) (hL : L ≤ 3072) (hi : i + 5 < L) (hN : N ≤ 1000) (h : Rel N σ) (K : ∀ τ, Rel (N + 1) τ → lV p l e s m below meth c g b Q τ i 1264 []) : lV p l e s m below meth c g b Q σ i 485 [] := by
  obtain ⟨r, s1, s2, e1, e2, e3⟩ := st_change h (xs (i + 1)) (xs (i + 2))
  refine l_recv (i0 := 2) X dL_law_485 rfl rfl ?_
  refine l_arg (j := 1) X hL (by omega) dL_law_486 dL_law_487 dL_law_488 (by decide) dL_law_489 dL_law_490 ?_
  refine l_arg (j := 2) X hL (by omega) dL_law_491 dL_law_492 dL_law_493 (by decide) dL_law_494 dL_law_495 ?_
  refine l_callI (o := 0) (nA := 2) (As := [.int (xs (i + 1)), .int (xs (i + 2))]) X (c_X7_change e1) cd_X7_change ml_L_54 im_X7_change se_X7_change in_RX7 (by decide +kernel) rfl rfl (by decide) rfl (Nat.le_of_ble_eq_true rfl) dL_law_496 rfl ?_
  refine l_recv (i0 := 3) X dL_law_499 rfl rfl ?_
  refine l_arg (j := 1) X hL (by omega) dL_law_500 dL_law_501 dL_law_502 (by decide) dL_law_503 dL_law_504 ?_
  refine l_arg (j := 2) X hL (by omega) dL_law_505 dL_law_506 dL_law_507 (by decide) dL_law_508 dL_law_509 ?_
  refine l_callI (o := 59) (nA := 2) (As := [.int (xs (i + 1)), .int (xs (i + 2))]) X (c_X8_change e2) cd_X8_change ml_L_57 im_X8_change se_X8_change in_RX8 (by decide +kernel) rfl rfl (by decide) rfl (Nat.le_of_ble_eq_true rfl) dL_law_510 rfl ?_
  exact l_same X dL_law_513 (by decide) (K s2 e3)
set_option maxRecDepth 100000 in
theorem lc_10 {σ : fr_St} {i N : Nat} (X : lX p s m meth c g b L xs) (hL : L ≤ 3072) (hi : i + 5 < L) (hN : N ≤ 1000) (h : Rel N σ) (K : ∀ τ, Rel (N + 1) τ → lV p l e s m below meth c g b Q τ i 1264 []) : lV p l e s m below meth c g b Q σ i 518 [] := by
  obtain ⟨r, s1, s2, e1, e2, e3⟩ := st_heels hN h (xs (i + 1))
  refine l_recv (i0 := 2) X dL_law_518 rfl rfl ?_
  refine l_arg (j := 1) X hL (by omega) dL_law_519 dL_law_520 dL_law_521 (by decide) dL_law_522 dL_law_523 ?_
  refine l_callI (o := 0) (nA := 1) (As := [.int (xs (i + 1))]) X (c_X7_heels e1) cd_X7_heels ml_L_58 im_X7_heels se_X7_heels in_RX7 (by decide +kernel) rfl rfl (by decide) rfl (Nat.le_of_ble_eq_true rfl) dL_law_524 rfl ?_
  refine l_recv (i0 := 3) X dL_law_527 rfl rfl ?_
  refine l_arg (j := 1) X hL (by omega) dL_law_528 dL_law_529 dL_law_530 (by decide) dL_law_531 dL_law_532 ?_
  refine l_callI (o := 59) (nA := 1) (As := [.int (xs (i + 1))]) X (c_X8_heels e2) cd_X8_heels ml_L_61 im_X8_heels se_X8_heels in_RX8 (by decide +kernel) rfl rfl (by decide) rfl (Nat.le_of_ble_eq_true rfl) dL_law_533 rfl ?_
  exact l_same X dL_law_536 (by decide) (K s2 e3)
set_option maxRecDepth 100000 in
theorem lc_11 {σ : fr_St} {i N : Nat} (X : lX p s m meth c g b L xs) (hL : L ≤ 3072) (hi : i + 5 < L) (hN : N ≤ 1000) (h : Rel N σ) (K : ∀ τ, Rel (N + 1) τ → lV p l e s m below meth c g b Q τ i 1264 []) : lV p l e s m below meth c g b Q σ i 541 [] := by
  obtain ⟨r, s1, s2, e1, e2, e3⟩ := st_day h 
  refine l_recv (i0 := 2) X dL_law_541 rfl rfl ?_
  refine l_callI (o := 0) (nA := 0) (As := []) X (c_X7_day e1) cd_X7_day ml_L_62 im_X7_day se_X7_day in_RX7 (by decide +kernel) rfl rfl (by decide) rfl (Nat.le_of_ble_eq_true rfl) dL_law_542 rfl ?_
  refine l_recv (i0 := 3) X dL_law_545 rfl rfl ?_
  refine l_callI (o := 59) (nA := 0) (As := []) X (c_X8_day e2) cd_X8_day ml_L_65 im_X8_day se_X8_day in_RX8 (by decide +kernel) rfl rfl (by decide) rfl (Nat.le_of_ble_eq_true rfl) dL_law_546 rfl ?_
  exact l_same X dL_law_549 (by decide) (K s2 e3)
set_option maxRecDepth 100000 in
theorem lc_12 {σ : fr_St} {i N : Nat} (X : lX p s m meth c g b L xs) (hL : L ≤ 3072) (hi : i + 5 < L) (hN : N ≤ 1000) (h : Rel N σ) (K : ∀ τ, Rel (N + 1) τ → lV p l e s m below meth c g b Q τ i 1264 []) : lV p l e s m below meth c g b Q σ i 554 [] := by
  obtain ⟨r, s1, s2, e1, e2, e3⟩ := st_undo h 
  refine l_recv (i0 := 2) X dL_law_554 rfl rfl ?_
  refine l_callI (o := 0) (nA := 0) (As := []) X (c_X7_undo e1) cd_X7_undo ml_L_66 im_X7_undo se_X7_undo in_RX7 (by decide +kernel) rfl rfl (by decide) rfl (Nat.le_of_ble_eq_true rfl) dL_law_555 rfl ?_
  refine l_recv (i0 := 3) X dL_law_558 rfl rfl ?_
  refine l_callI (o := 59) (nA := 0) (As := []) X (c_X8_undo e2) cd_X8_undo ml_L_69 im_X8_undo se_X8_undo in_RX8 (by decide +kernel) rfl rfl (by decide) rfl (Nat.le_of_ble_eq_true rfl) dL_law_559 rfl ?_
  exact l_same X dL_law_562 (by decide) (K s2 e3)
set_option maxRecDepth 100000 in
theorem lc_13 {σ : fr_St} {i N : Nat} (X : lX p s m meth c g b L xs) (hL : L ≤ 3072) (hi : i + 5 < L) (hN : N ≤ 1000) (h : Rel N σ) (K : ∀ τ, Rel (N + 1) τ → lV p l e s m below meth c g b Q τ i 1264 []) : lV p l e s m below meth c g b Q σ i 567 [] := by
  obtain ⟨r, s1, s2, e1, e2, e3⟩ := st_person hN h (xs (i + 1)) (xs (i + 2))
  refine l_recv (i0 := 2) X dL_law_567 rfl rfl ?_
  refine l_arg (j := 1) X hL (by omega) dL_law_568 dL_law_569 dL_law_570 (by decide) dL_law_571 dL_law_572 ?_
  refine l_arg (j := 2) X hL (by omega) dL_law_573 dL_law_574 dL_law_575 (by decide) dL_law_576 dL_law_577 ?_
  refine l_callI (o := 0) (nA := 2) (As := [.int (xs (i + 1)), .int (xs (i + 2))]) X (c_X7_person e1) cd_X7_person ml_L_70 im_X7_person se_X7_person in_RX7 (by decide +kernel) rfl rfl (by decide) rfl (Nat.le_of_ble_eq_true rfl) dL_law_578 rfl ?_
  refine l_recv (i0 := 3) X dL_law_581 rfl rfl ?_
  refine l_arg (j := 1) X hL (by omega) dL_law_582 dL_law_583 dL_law_584 (by decide) dL_law_585 dL_law_586 ?_
  refine l_arg (j := 2) X hL (by omega) dL_law_587 dL_law_588 dL_law_589 (by decide) dL_law_590 dL_law_591 ?_
  refine l_callI (o := 59) (nA := 2) (As := [.int (xs (i + 1)), .int (xs (i + 2))]) X (c_X8_person e2) cd_X8_person ml_L_73 im_X8_person se_X8_person in_RX8 (by decide +kernel) rfl rfl (by decide) rfl (Nat.le_of_ble_eq_true rfl) dL_law_592 rfl ?_
  exact l_same X dL_law_595 (by decide) (K s2 e3)
set_option maxRecDepth 100000 in
theorem lc_14 {σ : fr_St} {i N : Nat} (X : lX p s m meth c g b L xs) (hL : L ≤ 3072) (hi : i + 5 < L) (hN : N ≤ 1000) (h : Rel N σ) (K : ∀ τ, Rel (N + 1) τ → lV p l e s m below meth c g b Q τ i 1264 []) : lV p l e s m below meth c g b Q σ i 600 [] := by
  obtain ⟨r, s1, s2, e1, e2, e3⟩ := st_road hN h (xs (i + 1)) (xs (i + 2))
  refine l_recv (i0 := 2) X dL_law_600 rfl rfl ?_
  refine l_arg (j := 1) X hL (by omega) dL_law_601 dL_law_602 dL_law_603 (by decide) dL_law_604 dL_law_605 ?_
  refine l_arg (j := 2) X hL (by omega) dL_law_606 dL_law_607 dL_law_608 (by decide) dL_law_609 dL_law_610 ?_
  refine l_callI (o := 0) (nA := 2) (As := [.int (xs (i + 1)), .int (xs (i + 2))]) X (c_X7_road e1) cd_X7_road ml_L_74 im_X7_road se_X7_road in_RX7 (by decide +kernel) rfl rfl (by decide) rfl (Nat.le_of_ble_eq_true rfl) dL_law_611 rfl ?_
  refine l_recv (i0 := 3) X dL_law_614 rfl rfl ?_
  refine l_arg (j := 1) X hL (by omega) dL_law_615 dL_law_616 dL_law_617 (by decide) dL_law_618 dL_law_619 ?_
  refine l_arg (j := 2) X hL (by omega) dL_law_620 dL_law_621 dL_law_622 (by decide) dL_law_623 dL_law_624 ?_
  refine l_callI (o := 59) (nA := 2) (As := [.int (xs (i + 1)), .int (xs (i + 2))]) X (c_X8_road e2) cd_X8_road ml_L_77 im_X8_road se_X8_road in_RX8 (by decide +kernel) rfl rfl (by decide) rfl (Nat.le_of_ble_eq_true rfl) dL_law_625 rfl ?_
  exact l_same X dL_law_628 (by decide) (K s2 e3)
set_option maxRecDepth 100000 in
theorem lc_15 {σ : fr_St} {i N : Nat} (X : lX p s m meth c g b L xs) (hL : L ≤ 3072) (hi : i + 5 < L) (hN : N ≤ 1000) (h : Rel N σ) (K : ∀ τ, Rel (N + 1) τ → lV p l e s m below meth c g b Q τ i 1264 []) : lV p l e s m below meth c g b Q σ i 633 [] := by
  obtain ⟨r, s1, s2, e1, e2, e3⟩ := st_met hN h (xs (i + 1)) (xs (i + 2)) (xs (i + 3))
  refine l_recv (i0 := 2) X dL_law_633 rfl rfl ?_
  refine l_arg (j := 1) X hL (by omega) dL_law_634 dL_law_635 dL_law_636 (by decide) dL_law_637 dL_law_638 ?_
  refine l_arg (j := 2) X hL (by omega) dL_law_639 dL_law_640 dL_law_641 (by decide) dL_law_642 dL_law_643 ?_
  refine l_arg (j := 3) X hL (by omega) dL_law_644 dL_law_645 dL_law_646 (by decide) dL_law_647 dL_law_648 ?_
  refine l_callI (o := 0) (nA := 3) (As := [.int (xs (i + 1)), .int (xs (i + 2)), .int (xs (i + 3))]) X (c_X7_met e1) cd_X7_met ml_L_78 im_X7_met se_X7_met in_RX7 (by decide +kernel) rfl rfl (by decide) rfl (Nat.le_of_ble_eq_true rfl) dL_law_649 rfl ?_
  refine l_recv (i0 := 3) X dL_law_652 rfl rfl ?_
  refine l_arg (j := 1) X hL (by omega) dL_law_653 dL_law_654 dL_law_655 (by decide) dL_law_656 dL_law_657 ?_
  refine l_arg (j := 2) X hL (by omega) dL_law_658 dL_law_659 dL_law_660 (by decide) dL_law_661 dL_law_662 ?_
  refine l_arg (j := 3) X hL (by omega) dL_law_663 dL_law_664 dL_law_665 (by decide) dL_law_666 dL_law_667 ?_
  refine l_callI (o := 59) (nA := 3) (As := [.int (xs (i + 1)), .int (xs (i + 2)), .int (xs (i + 3))]) X (c_X8_met e2) cd_X8_met ml_L_81 im_X8_met se_X8_met in_RX8 (by decide +kernel) rfl rfl (by decide) rfl (Nat.le_of_ble_eq_true rfl) dL_law_668 rfl ?_
  exact l_same X dL_law_671 (by decide) (K s2 e3)
set_option maxRecDepth 100000 in
theorem lc_16 {σ : fr_St} {i N : Nat} (X : lX p s m meth c g b L xs) (hL : L ≤ 3072) (hi : i + 5 < L) (hN : N ≤ 1000) (h : Rel N σ) (K : ∀ τ, Rel (N + 1) τ → lV p l e s m below meth c g b Q τ i 1264 []) : lV p l e s m below meth c g b Q σ i 676 [] := by
  obtain ⟨r, s1, s2, e1, e2, e3⟩ := st_reach hN h (xs (i + 1))
  refine l_recv (i0 := 2) X dL_law_676 rfl rfl ?_
  refine l_arg (j := 1) X hL (by omega) dL_law_677 dL_law_678 dL_law_679 (by decide) dL_law_680 dL_law_681 ?_
  refine l_callI (o := 0) (nA := 1) (As := [.int (xs (i + 1))]) X (c_X7_reach e1) cd_X7_reach ml_L_82 im_X7_reach se_X7_reach in_RX7 (by decide +kernel) rfl rfl (by decide) rfl (Nat.le_of_ble_eq_true rfl) dL_law_682 rfl ?_
  refine l_recv (i0 := 3) X dL_law_685 rfl rfl ?_
  refine l_arg (j := 1) X hL (by omega) dL_law_686 dL_law_687 dL_law_688 (by decide) dL_law_689 dL_law_690 ?_
  refine l_callI (o := 59) (nA := 1) (As := [.int (xs (i + 1))]) X (c_X8_reach e2) cd_X8_reach ml_L_85 im_X8_reach se_X8_reach in_RX8 (by decide +kernel) rfl rfl (by decide) rfl (Nat.le_of_ble_eq_true rfl) dL_law_691 rfl ?_
  exact l_same X dL_law_694 (by decide) (K s2 e3)
set_option maxRecDepth 100000 in
theorem lc_17 {σ : fr_St} {i N : Nat} (X : lX p s m meth c g b L xs) (hL : L ≤ 3072) (hi : i + 5 < L) (hN : N ≤ 1000) (h : Rel N σ) (K : ∀ τ, Rel (N + 1) τ → lV p l e s m below meth c g b Q τ i 1264 []) : lV p l e s m below meth c g b Q σ i 699 [] := by
  obtain ⟨r, s1, s2, e1, e2, e3⟩ := st_way hN h (xs (i + 1)) (xs (i + 2))
  refine l_recv (i0 := 2) X dL_law_699 rfl rfl ?_
  refine l_arg (j := 1) X hL (by omega) dL_law_700 dL_law_701 dL_law_702 (by decide) dL_law_703 dL_law_704 ?_
  refine l_arg (j := 2) X hL (by omega) dL_law_705 dL_law_706 dL_law_707 (by decide) dL_law_708 dL_law_709 ?_
  refine l_callI (o := 0) (nA := 2) (As := [.int (xs (i + 1)), .int (xs (i + 2))]) X (c_X7_way e1) cd_X7_way ml_L_86 im_X7_way se_X7_way in_RX7 (by decide +kernel) rfl rfl (by decide) rfl (Nat.le_of_ble_eq_true rfl) dL_law_710 rfl ?_
  refine l_recv (i0 := 3) X dL_law_713 rfl rfl ?_
  refine l_arg (j := 1) X hL (by omega) dL_law_714 dL_law_715 dL_law_716 (by decide) dL_law_717 dL_law_718 ?_
  refine l_arg (j := 2) X hL (by omega) dL_law_719 dL_law_720 dL_law_721 (by decide) dL_law_722 dL_law_723 ?_
  refine l_callI (o := 59) (nA := 2) (As := [.int (xs (i + 1)), .int (xs (i + 2))]) X (c_X8_way e2) cd_X8_way ml_L_89 im_X8_way se_X8_way in_RX8 (by decide +kernel) rfl rfl (by decide) rfl (Nat.le_of_ble_eq_true rfl) dL_law_724 rfl ?_
  exact l_same X dL_law_727 (by decide) (K s2 e3)
set_option maxRecDepth 100000 in
theorem lc_18 {σ : fr_St} {i N : Nat} (X : lX p s m meth c g b L xs) (hL : L ≤ 3072) (hi : i + 5 < L) (hN : N ≤ 1000) (h : Rel N σ) (K : ∀ τ, Rel (N + 1) τ → lV p l e s m below meth c g b Q τ i 1264 []) : lV p l e s m below meth c g b Q σ i 732 [] := by
  obtain ⟨r, s1, s2, e1, e2, e3⟩ := st_led hN h (xs (i + 1)) (xs (i + 2)) (xs (i + 3))
  refine l_recv (i0 := 2) X dL_law_732 rfl rfl ?_
  refine l_arg (j := 1) X hL (by omega) dL_law_733 dL_law_734 dL_law_735 (by decide) dL_law_736 dL_law_737 ?_
  refine l_arg (j := 2) X hL (by omega) dL_law_738 dL_law_739 dL_law_740 (by decide) dL_law_741 dL_law_742 ?_
  refine l_arg (j := 3) X hL (by omega) dL_law_743 dL_law_744 dL_law_745 (by decide) dL_law_746 dL_law_747 ?_
  refine l_callI (o := 0) (nA := 3) (As := [.int (xs (i + 1)), .int (xs (i + 2)), .int (xs (i + 3))]) X (c_X7_led e1) cd_X7_led ml_L_90 im_X7_led se_X7_led in_RX7 (by decide +kernel) rfl rfl (by decide) rfl (Nat.le_of_ble_eq_true rfl) dL_law_748 rfl ?_
  refine l_recv (i0 := 3) X dL_law_751 rfl rfl ?_
  refine l_arg (j := 1) X hL (by omega) dL_law_752 dL_law_753 dL_law_754 (by decide) dL_law_755 dL_law_756 ?_
  refine l_arg (j := 2) X hL (by omega) dL_law_757 dL_law_758 dL_law_759 (by decide) dL_law_760 dL_law_761 ?_
  refine l_arg (j := 3) X hL (by omega) dL_law_762 dL_law_763 dL_law_764 (by decide) dL_law_765 dL_law_766 ?_
  refine l_callI (o := 59) (nA := 3) (As := [.int (xs (i + 1)), .int (xs (i + 2)), .int (xs (i + 3))]) X (c_X8_led e2) cd_X8_led ml_L_93 im_X8_led se_X8_led in_RX8 (by decide +kernel) rfl rfl (by decide) rfl (Nat.le_of_ble_eq_true rfl) dL_law_767 rfl ?_
  exact l_same X dL_law_770 (by decide) (K s2 e3)
set_option maxRecDepth 100000 in
theorem lc_19 {σ : fr_St} {i N : Nat} (X : lX p s m meth c g b L xs) (hL : L ≤ 3072) (hi : i + 5 < L) (hN : N ≤ 1000) (h : Rel N σ) (K : ∀ τ, Rel (N + 1) τ → lV p l e s m below meth c g b Q τ i 1264 []) : lV p l e s m below meth c g b Q σ i 775 [] := by
  obtain ⟨r, s1, s2, e1, e2, e3⟩ := st_introduced hN h (xs (i + 1)) (xs (i + 2)) (xs (i + 3))
  refine l_recv (i0 := 2) X dL_law_775 rfl rfl ?_
  refine l_arg (j := 1) X hL (by omega) dL_law_776 dL_law_777 dL_law_778 (by decide) dL_law_779 dL_law_780 ?_
  refine l_arg (j := 2) X hL (by omega) dL_law_781 dL_law_782 dL_law_783 (by decide) dL_law_784 dL_law_785 ?_
  refine l_arg (j := 3) X hL (by omega) dL_law_786 dL_law_787 dL_law_788 (by decide) dL_law_789 dL_law_790 ?_
  refine l_callI (o := 0) (nA := 3) (As := [.int (xs (i + 1)), .int (xs (i + 2)), .int (xs (i + 3))]) X (c_X7_introduced e1) cd_X7_introduced ml_L_94 im_X7_introduced se_X7_introduced in_RX7 (by decide +kernel) rfl rfl (by decide) rfl (Nat.le_of_ble_eq_true rfl) dL_law_791 rfl ?_
  refine l_recv (i0 := 3) X dL_law_794 rfl rfl ?_
  refine l_arg (j := 1) X hL (by omega) dL_law_795 dL_law_796 dL_law_797 (by decide) dL_law_798 dL_law_799 ?_
  refine l_arg (j := 2) X hL (by omega) dL_law_800 dL_law_801 dL_law_802 (by decide) dL_law_803 dL_law_804 ?_
  refine l_arg (j := 3) X hL (by omega) dL_law_805 dL_law_806 dL_law_807 (by decide) dL_law_808 dL_law_809 ?_
  refine l_callI (o := 59) (nA := 3) (As := [.int (xs (i + 1)), .int (xs (i + 2)), .int (xs (i + 3))]) X (c_X8_introduced e2) cd_X8_introduced ml_L_97 im_X8_introduced se_X8_introduced in_RX8 (by decide +kernel) rfl rfl (by decide) rfl (Nat.le_of_ble_eq_true rfl) dL_law_810 rfl ?_
  exact l_same X dL_law_813 (by decide) (K s2 e3)
set_option maxRecDepth 100000 in
theorem lc_20 {σ : fr_St} {i N : Nat} (X : lX p s m meth c g b L xs) (hL : L ≤ 3072) (hi : i + 5 < L) (hN : N ≤ 1000) (h : Rel N σ) (K : ∀ τ, Rel (N + 1) τ → lV p l e s m below meth c g b Q τ i 1264 []) : lV p l e s m below meth c g b Q σ i 818 [] := by
  obtain ⟨r, s1, s2, e1, e2, e3⟩ := st_forgets hN h 
  refine l_recv (i0 := 2) X dL_law_818 rfl rfl ?_
  refine l_callI (o := 0) (nA := 0) (As := []) X (c_X7_forgets e1) cd_X7_forgets ml_L_98 im_X7_forgets se_X7_forgets in_RX7 (by decide +kernel) rfl rfl (by decide) rfl (Nat.le_of_ble_eq_true rfl) dL_law_819 rfl ?_
  refine l_recv (i0 := 3) X dL_law_822 rfl rfl ?_
  refine l_callI (o := 59) (nA := 0) (As := []) X (c_X8_forgets e2) cd_X8_forgets ml_L_101 im_X8_forgets se_X8_forgets in_RX8 (by decide +kernel) rfl rfl (by decide) rfl (Nat.le_of_ble_eq_true rfl) dL_law_823 rfl ?_
  exact l_same X dL_law_826 (by decide) (K s2 e3)
set_option maxRecDepth 100000 in
theorem lc_21 {σ : fr_St} {i N : Nat} (X : lX p s m meth c g b L xs) (hL : L ≤ 3072) (hi : i + 5 < L) (hN : N ≤ 1000) (h : Rel N σ) (K : ∀ τ, Rel (N + 1) τ → lV p l e s m below meth c g b Q τ i 1264 []) : lV p l e s m below meth c g b Q σ i 831 [] := by
  obtain ⟨r, s1, s2, e1, e2, e3⟩ := st_nobody hN h (xs (i + 1))
  refine l_recv (i0 := 2) X dL_law_831 rfl rfl ?_
  refine l_arg (j := 1) X hL (by omega) dL_law_832 dL_law_833 dL_law_834 (by decide) dL_law_835 dL_law_836 ?_
  refine l_callI (o := 0) (nA := 1) (As := [.int (xs (i + 1))]) X (c_X7_nobody e1) cd_X7_nobody ml_L_102 im_X7_nobody se_X7_nobody in_RX7 (by decide +kernel) rfl rfl (by decide) rfl (Nat.le_of_ble_eq_true rfl) dL_law_837 rfl ?_
  refine l_recv (i0 := 3) X dL_law_840 rfl rfl ?_
  refine l_arg (j := 1) X hL (by omega) dL_law_841 dL_law_842 dL_law_843 (by decide) dL_law_844 dL_law_845 ?_
  refine l_callI (o := 59) (nA := 1) (As := [.int (xs (i + 1))]) X (c_X8_nobody e2) cd_X8_nobody ml_L_105 im_X8_nobody se_X8_nobody in_RX8 (by decide +kernel) rfl rfl (by decide) rfl (Nat.le_of_ble_eq_true rfl) dL_law_846 rfl ?_
  exact l_same X dL_law_849 (by decide) (K s2 e3)
set_option maxRecDepth 100000 in
theorem lc_22 {σ : fr_St} {i N : Nat} (X : lX p s m meth c g b L xs) (hL : L ≤ 3072) (hi : i + 5 < L) (hN : N ≤ 1000) (h : Rel N σ) (K : ∀ τ, Rel (N + 1) τ → lV p l e s m below meth c g b Q τ i 1264 []) : lV p l e s m below meth c g b Q σ i 854 [] := by
  obtain ⟨r, s1, s2, e1, e2, e3⟩ := st_round hN h (xs (i + 1))
  refine l_recv (i0 := 2) X dL_law_854 rfl rfl ?_
  refine l_arg (j := 1) X hL (by omega) dL_law_855 dL_law_856 dL_law_857 (by decide) dL_law_858 dL_law_859 ?_
  refine l_callI (o := 0) (nA := 1) (As := [.int (xs (i + 1))]) X (c_X7_round e1) cd_X7_round ml_L_106 im_X7_round se_X7_round in_RX7 (by decide +kernel) rfl rfl (by decide) rfl (Nat.le_of_ble_eq_true rfl) dL_law_860 rfl ?_
  refine l_recv (i0 := 3) X dL_law_863 rfl rfl ?_
  refine l_arg (j := 1) X hL (by omega) dL_law_864 dL_law_865 dL_law_866 (by decide) dL_law_867 dL_law_868 ?_
  refine l_callI (o := 59) (nA := 1) (As := [.int (xs (i + 1))]) X (c_X8_round e2) cd_X8_round ml_L_109 im_X8_round se_X8_round in_RX8 (by decide +kernel) rfl rfl (by decide) rfl (Nat.le_of_ble_eq_true rfl) dL_law_869 rfl ?_
  exact l_same X dL_law_872 (by decide) (K s2 e3)
set_option maxRecDepth 100000 in
theorem lc_23 {σ : fr_St} {i N : Nat} (X : lX p s m meth c g b L xs) (hL : L ≤ 3072) (hi : i + 5 < L) (hN : N ≤ 1000) (h : Rel N σ) (K : ∀ τ, Rel (N + 1) τ → lV p l e s m below meth c g b Q τ i 1264 []) : lV p l e s m below meth c g b Q σ i 877 [] := by
  obtain ⟨r, s1, s2, e1, e2, e3⟩ := st_bars hN h (xs (i + 1)) (xs (i + 2)) (xs (i + 3))
  refine l_recv (i0 := 2) X dL_law_877 rfl rfl ?_
  refine l_arg (j := 1) X hL (by omega) dL_law_878 dL_law_879 dL_law_880 (by decide) dL_law_881 dL_law_882 ?_
  refine l_arg (j := 2) X hL (by omega) dL_law_883 dL_law_884 dL_law_885 (by decide) dL_law_886 dL_law_887 ?_
  refine l_arg (j := 3) X hL (by omega) dL_law_888 dL_law_889 dL_law_890 (by decide) dL_law_891 dL_law_892 ?_
  refine l_callI (o := 0) (nA := 3) (As := [.int (xs (i + 1)), .int (xs (i + 2)), .int (xs (i + 3))]) X (c_X7_bars e1) cd_X7_bars ml_L_110 im_X7_bars se_X7_bars in_RX7 (by decide +kernel) rfl rfl (by decide) rfl (Nat.le_of_ble_eq_true rfl) dL_law_893 rfl ?_
  refine l_recv (i0 := 3) X dL_law_896 rfl rfl ?_
  refine l_arg (j := 1) X hL (by omega) dL_law_897 dL_law_898 dL_law_899 (by decide) dL_law_900 dL_law_901 ?_
  refine l_arg (j := 2) X hL (by omega) dL_law_902 dL_law_903 dL_law_904 (by decide) dL_law_905 dL_law_906 ?_
  refine l_arg (j := 3) X hL (by omega) dL_law_907 dL_law_908 dL_law_909 (by decide) dL_law_910 dL_law_911 ?_
  refine l_callI (o := 59) (nA := 3) (As := [.int (xs (i + 1)), .int (xs (i + 2)), .int (xs (i + 3))]) X (c_X8_bars e2) cd_X8_bars ml_L_113 im_X8_bars se_X8_bars in_RX8 (by decide +kernel) rfl rfl (by decide) rfl (Nat.le_of_ble_eq_true rfl) dL_law_912 rfl ?_
  exact l_same X dL_law_915 (by decide) (K s2 e3)
set_option maxRecDepth 100000 in
theorem lc_24 {σ : fr_St} {i N : Nat} (X : lX p s m meth c g b L xs) (hL : L ≤ 3072) (hi : i + 5 < L) (hN : N ≤ 1000) (h : Rel N σ) (K : ∀ τ, Rel (N + 1) τ → lV p l e s m below meth c g b Q τ i 1264 []) : lV p l e s m below meth c g b Q σ i 920 [] := by
  obtain ⟨r, s1, s2, e1, e2, e3⟩ := st_meet hN h (xs (i + 1)) (xs (i + 2)) (xs (i + 3))
  refine l_recv (i0 := 2) X dL_law_920 rfl rfl ?_
  refine l_arg (j := 1) X hL (by omega) dL_law_921 dL_law_922 dL_law_923 (by decide) dL_law_924 dL_law_925 ?_
  refine l_arg (j := 2) X hL (by omega) dL_law_926 dL_law_927 dL_law_928 (by decide) dL_law_929 dL_law_930 ?_
  refine l_arg (j := 3) X hL (by omega) dL_law_931 dL_law_932 dL_law_933 (by decide) dL_law_934 dL_law_935 ?_
  refine l_callI (o := 0) (nA := 3) (As := [.int (xs (i + 1)), .int (xs (i + 2)), .int (xs (i + 3))]) X (c_X7_meet e1) cd_X7_meet ml_L_114 im_X7_meet se_X7_meet in_RX7 (by decide +kernel) rfl rfl (by decide) rfl (Nat.le_of_ble_eq_true rfl) dL_law_936 rfl ?_
  refine l_recv (i0 := 3) X dL_law_939 rfl rfl ?_
  refine l_arg (j := 1) X hL (by omega) dL_law_940 dL_law_941 dL_law_942 (by decide) dL_law_943 dL_law_944 ?_
  refine l_arg (j := 2) X hL (by omega) dL_law_945 dL_law_946 dL_law_947 (by decide) dL_law_948 dL_law_949 ?_
  refine l_arg (j := 3) X hL (by omega) dL_law_950 dL_law_951 dL_law_952 (by decide) dL_law_953 dL_law_954 ?_
  refine l_callI (o := 59) (nA := 3) (As := [.int (xs (i + 1)), .int (xs (i + 2)), .int (xs (i + 3))]) X (c_X8_meet e2) cd_X8_meet ml_L_117 im_X8_meet se_X8_meet in_RX8 (by decide +kernel) rfl rfl (by decide) rfl (Nat.le_of_ble_eq_true rfl) dL_law_955 rfl ?_
  exact l_same X dL_law_958 (by decide) (K s2 e3)
set_option maxRecDepth 100000 in
theorem lc_25 {σ : fr_St} {i N : Nat} (X : lX p s m meth c g b L xs) (hL : L ≤ 3072) (hi : i + 5 < L) (hN : N ≤ 1000) (h : Rel N σ) (K : ∀ τ, Rel (N + 1) τ → lV p l e s m below meth c g b Q τ i 1264 []) : lV p l e s m below meth c g b Q σ i 963 [] := by
  obtain ⟨r, s1, s2, e1, e2, e3⟩ := st_whose hN h (xs (i + 1)) (xs (i + 2)) (xs (i + 3)) (xs (i + 4))
  refine l_recv (i0 := 2) X dL_law_963 rfl rfl ?_
  refine l_arg (j := 1) X hL (by omega) dL_law_964 dL_law_965 dL_law_966 (by decide) dL_law_967 dL_law_968 ?_
  refine l_arg (j := 2) X hL (by omega) dL_law_969 dL_law_970 dL_law_971 (by decide) dL_law_972 dL_law_973 ?_
  refine l_arg (j := 3) X hL (by omega) dL_law_974 dL_law_975 dL_law_976 (by decide) dL_law_977 dL_law_978 ?_
  refine l_arg (j := 4) X hL (by omega) dL_law_979 dL_law_980 dL_law_981 (by decide) dL_law_982 dL_law_983 ?_
  refine l_callI (o := 0) (nA := 4) (As := [.int (xs (i + 1)), .int (xs (i + 2)), .int (xs (i + 3)), .int (xs (i + 4))]) X (c_X7_whose e1) cd_X7_whose ml_L_118 im_X7_whose se_X7_whose in_RX7 (by decide +kernel) rfl rfl (by decide) rfl (Nat.le_of_ble_eq_true rfl) dL_law_984 rfl ?_
  refine l_recv (i0 := 3) X dL_law_987 rfl rfl ?_
  refine l_arg (j := 1) X hL (by omega) dL_law_988 dL_law_989 dL_law_990 (by decide) dL_law_991 dL_law_992 ?_
  refine l_arg (j := 2) X hL (by omega) dL_law_993 dL_law_994 dL_law_995 (by decide) dL_law_996 dL_law_997 ?_
  refine l_arg (j := 3) X hL (by omega) dL_law_998 dL_law_999 dL_law_1000 (by decide) dL_law_1001 dL_law_1002 ?_
  refine l_arg (j := 4) X hL (by omega) dL_law_1003 dL_law_1004 dL_law_1005 (by decide) dL_law_1006 dL_law_1007 ?_
  refine l_callI (o := 59) (nA := 4) (As := [.int (xs (i + 1)), .int (xs (i + 2)), .int (xs (i + 3)), .int (xs (i + 4))]) X (c_X8_whose e2) cd_X8_whose ml_L_122 im_X8_whose se_X8_whose in_RX8 (by decide +kernel) rfl rfl (by decide) rfl (Nat.le_of_ble_eq_true rfl) dL_law_1008 rfl ?_
  exact l_same X dL_law_1011 (by decide) (K s2 e3)
set_option maxRecDepth 100000 in
theorem lc_26 {σ : fr_St} {i N : Nat} (X : lX p s m meth c g b L xs) (hL : L ≤ 3072) (hi : i + 5 < L) (hN : N ≤ 1000) (h : Rel N σ) (K : ∀ τ, Rel (N + 1) τ → lV p l e s m below meth c g b Q τ i 1264 []) : lV p l e s m below meth c g b Q σ i 1016 [] := by
  obtain ⟨r, s1, s2, e1, e2, e3⟩ := st_snow hN h (xs (i + 1)) (xs (i + 2)) (xs (i + 3)) (xs (i + 4))
  refine l_recv (i0 := 2) X dL_law_1016 rfl rfl ?_
  refine l_arg (j := 1) X hL (by omega) dL_law_1017 dL_law_1018 dL_law_1019 (by decide) dL_law_1020 dL_law_1021 ?_
  refine l_arg (j := 2) X hL (by omega) dL_law_1022 dL_law_1023 dL_law_1024 (by decide) dL_law_1025 dL_law_1026 ?_
  refine l_arg (j := 3) X hL (by omega) dL_law_1027 dL_law_1028 dL_law_1029 (by decide) dL_law_1030 dL_law_1031 ?_
  refine l_arg (j := 4) X hL (by omega) dL_law_1032 dL_law_1033 dL_law_1034 (by decide) dL_law_1035 dL_law_1036 ?_
  refine l_callL (o := 0) (nA := 4) (As := [.int (xs (i + 1)), .int (xs (i + 2)), .int (xs (i + 3)), .int (xs (i + 4))]) X (c_X7_snow e1) cd_X7_snow ml_L_123 im_X7_snow se_X7_snow in_RX7 (by decide +kernel) rfl rfl (by decide) rfl (Nat.le_of_ble_eq_true rfl) dL_law_1037 rfl ?_
  refine l_recv (i0 := 3) X dL_law_1040 rfl rfl ?_
  refine l_arg (j := 1) X hL (by omega) dL_law_1041 dL_law_1042 dL_law_1043 (by decide) dL_law_1044 dL_law_1045 ?_
  refine l_arg (j := 2) X hL (by omega) dL_law_1046 dL_law_1047 dL_law_1048 (by decide) dL_law_1049 dL_law_1050 ?_
  refine l_arg (j := 3) X hL (by omega) dL_law_1051 dL_law_1052 dL_law_1053 (by decide) dL_law_1054 dL_law_1055 ?_
  refine l_arg (j := 4) X hL (by omega) dL_law_1056 dL_law_1057 dL_law_1058 (by decide) dL_law_1059 dL_law_1060 ?_
  refine l_callL (o := 59) (nA := 4) (As := [.int (xs (i + 1)), .int (xs (i + 2)), .int (xs (i + 3)), .int (xs (i + 4))]) X (c_X8_snow e2) cd_X8_snow ml_L_127 im_X8_snow se_X8_snow in_RX8 (by decide +kernel) rfl rfl (by decide) rfl (Nat.le_of_ble_eq_true rfl) dL_law_1061 rfl ?_
  exact l_leq X dL_law_1064 dL_law_1065 (by decide) (K s2 e3)
set_option maxRecDepth 100000 in
theorem lc_27 {σ : fr_St} {i N : Nat} (X : lX p s m meth c g b L xs) (hL : L ≤ 3072) (hi : i + 5 < L) (hN : N ≤ 1000) (h : Rel N σ) (K : ∀ τ, Rel (N + 1) τ → lV p l e s m below meth c g b Q τ i 1264 []) : lV p l e s m below meth c g b Q σ i 1070 [] := by
  obtain ⟨r, s1, s2, e1, e2, e3⟩ := st_image h (xs (i + 1))
  refine l_recv (i0 := 2) X dL_law_1070 rfl rfl ?_
  refine l_arg (j := 1) X hL (by omega) dL_law_1071 dL_law_1072 dL_law_1073 (by decide) dL_law_1074 dL_law_1075 ?_
  refine l_callI (o := 0) (nA := 1) (As := [.int (xs (i + 1))]) X (c_X7_image e1) cd_X7_image ml_L_128 im_X7_image se_X7_image in_RX7 (by decide +kernel) rfl rfl (by decide) rfl (Nat.le_of_ble_eq_true rfl) dL_law_1076 rfl ?_
  refine l_recv (i0 := 3) X dL_law_1079 rfl rfl ?_
  refine l_arg (j := 1) X hL (by omega) dL_law_1080 dL_law_1081 dL_law_1082 (by decide) dL_law_1083 dL_law_1084 ?_
  refine l_callI (o := 59) (nA := 1) (As := [.int (xs (i + 1))]) X (c_X8_image e2) cd_X8_image ml_L_131 im_X8_image se_X8_image in_RX8 (by decide +kernel) rfl rfl (by decide) rfl (Nat.le_of_ble_eq_true rfl) dL_law_1085 rfl ?_
  exact l_same X dL_law_1088 (by decide) (K s2 e3)
set_option maxRecDepth 100000 in
theorem lc_28 {σ : fr_St} {i N : Nat} (X : lX p s m meth c g b L xs) (hL : L ≤ 3072) (hi : i + 5 < L) (hN : N ≤ 1000) (h : Rel N σ) (K : ∀ τ, Rel (N + 1) τ → lV p l e s m below meth c g b Q τ i 1264 []) : lV p l e s m below meth c g b Q σ i 1093 [] := by
  obtain ⟨r, s1, s2, e1, e2, e3⟩ := st_restore h (xs (i + 1))
  refine l_recv (i0 := 2) X dL_law_1093 rfl rfl ?_
  refine l_arg (j := 1) X hL (by omega) dL_law_1094 dL_law_1095 dL_law_1096 (by decide) dL_law_1097 dL_law_1098 ?_
  refine l_callI (o := 0) (nA := 1) (As := [.int (xs (i + 1))]) X (c_X7_restore e1) cd_X7_restore ml_L_132 im_X7_restore se_X7_restore in_RX7 (by decide +kernel) rfl rfl (by decide) rfl (Nat.le_of_ble_eq_true rfl) dL_law_1099 rfl ?_
  refine l_recv (i0 := 3) X dL_law_1102 rfl rfl ?_
  refine l_arg (j := 1) X hL (by omega) dL_law_1103 dL_law_1104 dL_law_1105 (by decide) dL_law_1106 dL_law_1107 ?_
  refine l_callI (o := 59) (nA := 1) (As := [.int (xs (i + 1))]) X (c_X8_restore e2) cd_X8_restore ml_L_135 im_X8_restore se_X8_restore in_RX8 (by decide +kernel) rfl rfl (by decide) rfl (Nat.le_of_ble_eq_true rfl) dL_law_1108 rfl ?_
  exact l_same X dL_law_1111 (by decide) (K s2 e3)
set_option maxRecDepth 100000 in
theorem lc_29 {σ : fr_St} {i N : Nat} (X : lX p s m meth c g b L xs) (hL : L ≤ 3072) (hi : i + 5 < L) (hN : N ≤ 1000) (h : Rel N σ) (K : ∀ τ, Rel (N + 1) τ → lV p l e s m below meth c g b Q τ i 1264 []) : lV p l e s m below meth c g b Q σ i 1116 [] := by
  obtain ⟨r, s1, s2, e1, e2, e3⟩ := st_kind h (xs (i + 1))
  refine l_recv (i0 := 2) X dL_law_1116 rfl rfl ?_
  refine l_arg (j := 1) X hL (by omega) dL_law_1117 dL_law_1118 dL_law_1119 (by decide) dL_law_1120 dL_law_1121 ?_
  refine l_callI (o := 0) (nA := 1) (As := [.int (xs (i + 1))]) X (c_X7_kind e1) cd_X7_kind ml_L_136 im_X7_kind se_X7_kind in_RX7 (by decide +kernel) rfl rfl (by decide) rfl (Nat.le_of_ble_eq_true rfl) dL_law_1122 rfl ?_
  refine l_recv (i0 := 3) X dL_law_1125 rfl rfl ?_
  refine l_arg (j := 1) X hL (by omega) dL_law_1126 dL_law_1127 dL_law_1128 (by decide) dL_law_1129 dL_law_1130 ?_
  refine l_callI (o := 59) (nA := 1) (As := [.int (xs (i + 1))]) X (c_X8_kind e2) cd_X8_kind ml_L_139 im_X8_kind se_X8_kind in_RX8 (by decide +kernel) rfl rfl (by decide) rfl (Nat.le_of_ble_eq_true rfl) dL_law_1131 rfl ?_
  exact l_same X dL_law_1134 (by decide) (K s2 e3)
set_option maxRecDepth 100000 in
theorem lc_30 {σ : fr_St} {i N : Nat} (X : lX p s m meth c g b L xs) (hL : L ≤ 3072) (hi : i + 5 < L) (hN : N ≤ 1000) (h : Rel N σ) (K : ∀ τ, Rel (N + 1) τ → lV p l e s m below meth c g b Q τ i 1264 []) : lV p l e s m below meth c g b Q σ i 1139 [] := by
  obtain ⟨r, s1, s2, e1, e2, e3⟩ := st_as h (xs (i + 1)) (xs (i + 2))
  refine l_recv (i0 := 2) X dL_law_1139 rfl rfl ?_
  refine l_arg (j := 1) X hL (by omega) dL_law_1140 dL_law_1141 dL_law_1142 (by decide) dL_law_1143 dL_law_1144 ?_
  refine l_arg (j := 2) X hL (by omega) dL_law_1145 dL_law_1146 dL_law_1147 (by decide) dL_law_1148 dL_law_1149 ?_
  refine l_callI (o := 0) (nA := 2) (As := [.int (xs (i + 1)), .int (xs (i + 2))]) X (c_X7_as e1) cd_X7_as ml_L_140 im_X7_as se_X7_as in_RX7 (by decide +kernel) rfl rfl (by decide) rfl (Nat.le_of_ble_eq_true rfl) dL_law_1150 rfl ?_
  refine l_recv (i0 := 3) X dL_law_1153 rfl rfl ?_
  refine l_arg (j := 1) X hL (by omega) dL_law_1154 dL_law_1155 dL_law_1156 (by decide) dL_law_1157 dL_law_1158 ?_
  refine l_arg (j := 2) X hL (by omega) dL_law_1159 dL_law_1160 dL_law_1161 (by decide) dL_law_1162 dL_law_1163 ?_
  refine l_callI (o := 59) (nA := 2) (As := [.int (xs (i + 1)), .int (xs (i + 2))]) X (c_X8_as e2) cd_X8_as ml_L_143 im_X8_as se_X8_as in_RX8 (by decide +kernel) rfl rfl (by decide) rfl (Nat.le_of_ble_eq_true rfl) dL_law_1164 rfl ?_
  exact l_same X dL_law_1167 (by decide) (K s2 e3)
set_option maxRecDepth 100000 in
theorem lc_31 {σ : fr_St} {i N : Nat} (X : lX p s m meth c g b L xs) (hL : L ≤ 3072) (hi : i + 5 < L) (hN : N ≤ 1000) (h : Rel N σ) (K : ∀ τ, Rel (N + 1) τ → lV p l e s m below meth c g b Q τ i 1264 []) : lV p l e s m below meth c g b Q σ i 1172 [] := by
  obtain ⟨r, s1, s2, e1, e2, e3⟩ := st_ask hN h (xs (i + 1)) (xs (i + 2))
  refine l_recv (i0 := 2) X dL_law_1172 rfl rfl ?_
  refine l_arg (j := 1) X hL (by omega) dL_law_1173 dL_law_1174 dL_law_1175 (by decide) dL_law_1176 dL_law_1177 ?_
  refine l_arg (j := 2) X hL (by omega) dL_law_1178 dL_law_1179 dL_law_1180 (by decide) dL_law_1181 dL_law_1182 ?_
  refine l_callI (o := 0) (nA := 2) (As := [.int (xs (i + 1)), .int (xs (i + 2))]) X (c_X7_ask e1) cd_X7_ask ml_L_144 im_X7_ask se_X7_ask in_RX7 (by decide +kernel) rfl rfl (by decide) rfl (Nat.le_of_ble_eq_true rfl) dL_law_1183 rfl ?_
  refine l_recv (i0 := 3) X dL_law_1186 rfl rfl ?_
  refine l_arg (j := 1) X hL (by omega) dL_law_1187 dL_law_1188 dL_law_1189 (by decide) dL_law_1190 dL_law_1191 ?_
  refine l_arg (j := 2) X hL (by omega) dL_law_1192 dL_law_1193 dL_law_1194 (by decide) dL_law_1195 dL_law_1196 ?_
  refine l_callI (o := 59) (nA := 2) (As := [.int (xs (i + 1)), .int (xs (i + 2))]) X (c_X8_ask e2) cd_X8_ask ml_L_147 im_X8_ask se_X8_ask in_RX8 (by decide +kernel) rfl rfl (by decide) rfl (Nat.le_of_ble_eq_true rfl) dL_law_1197 rfl ?_
  exact l_same X dL_law_1200 (by decide) (K s2 e3)
set_option maxRecDepth 100000 in
theorem lc_32 {σ : fr_St} {i N : Nat} (X : lX p s m meth c g b L xs) (hL : L ≤ 3072) (hi : i + 5 < L) (hN : N ≤ 1000) (h : Rel N σ) (K : ∀ τ, Rel (N + 1) τ → lV p l e s m below meth c g b Q τ i 1264 []) : lV p l e s m below meth c g b Q σ i 1205 [] := by
  obtain ⟨r, s1, s2, e1, e2, e3⟩ := st_trace h (xs (i + 1))
  refine l_recv (i0 := 2) X dL_law_1205 rfl rfl ?_
  refine l_arg (j := 1) X hL (by omega) dL_law_1206 dL_law_1207 dL_law_1208 (by decide) dL_law_1209 dL_law_1210 ?_
  refine l_callI (o := 0) (nA := 1) (As := [.int (xs (i + 1))]) X (c_X7_trace e1) cd_X7_trace ml_L_148 im_X7_trace se_X7_trace in_RX7 (by decide +kernel) rfl rfl (by decide) rfl (Nat.le_of_ble_eq_true rfl) dL_law_1211 rfl ?_
  refine l_recv (i0 := 3) X dL_law_1214 rfl rfl ?_
  refine l_arg (j := 1) X hL (by omega) dL_law_1215 dL_law_1216 dL_law_1217 (by decide) dL_law_1218 dL_law_1219 ?_
  refine l_callI (o := 59) (nA := 1) (As := [.int (xs (i + 1))]) X (c_X8_trace e2) cd_X8_trace ml_L_151 im_X8_trace se_X8_trace in_RX8 (by decide +kernel) rfl rfl (by decide) rfl (Nat.le_of_ble_eq_true rfl) dL_law_1220 rfl ?_
  exact l_same X dL_law_1223 (by decide) (K s2 e3)
set_option maxRecDepth 100000 in
theorem lc_33 {σ : fr_St} {i N : Nat} (X : lX p s m meth c g b L xs) (hL : L ≤ 3072) (hi : i + 5 < L) (hN : N ≤ 1000) (h : Rel N σ) (K : ∀ τ, Rel (N + 1) τ → lV p l e s m below meth c g b Q τ i 1264 []) : lV p l e s m below meth c g b Q σ i 1228 [] := by
  obtain ⟨r, s1, s2, e1, e2, e3⟩ := st_count h (xs (i + 1))
  refine l_recv (i0 := 2) X dL_law_1228 rfl rfl ?_
  refine l_arg (j := 1) X hL (by omega) dL_law_1229 dL_law_1230 dL_law_1231 (by decide) dL_law_1232 dL_law_1233 ?_
  refine l_callI (o := 0) (nA := 1) (As := [.int (xs (i + 1))]) X (c_X7_count e1) cd_X7_count ml_L_152 im_X7_count se_X7_count in_RX7 (by decide +kernel) rfl rfl (by decide) rfl (Nat.le_of_ble_eq_true rfl) dL_law_1234 rfl ?_
  refine l_recv (i0 := 3) X dL_law_1237 rfl rfl ?_
  refine l_arg (j := 1) X hL (by omega) dL_law_1238 dL_law_1239 dL_law_1240 (by decide) dL_law_1241 dL_law_1242 ?_
  refine l_callI (o := 59) (nA := 1) (As := [.int (xs (i + 1))]) X (c_X8_count e2) cd_X8_count ml_L_155 im_X8_count se_X8_count in_RX8 (by decide +kernel) rfl rfl (by decide) rfl (Nat.le_of_ble_eq_true rfl) dL_law_1243 rfl ?_
  exact l_same X dL_law_1246 (by decide) (K s2 e3)
set_option maxRecDepth 100000 in
theorem lc_34 {σ : fr_St} {i N : Nat} (X : lX p s m meth c g b L xs) (hL : L ≤ 3072) (hi : i + 5 < L) (hN : N ≤ 1000) (h : Rel N σ) (K : ∀ τ, Rel (N + 1) τ → lV p l e s m below meth c g b Q τ i 1264 []) : lV p l e s m below meth c g b Q σ i 1251 [] := by
  obtain ⟨r, s1, s2, e1, e2, e3⟩ := st_status h 
  refine l_recv (i0 := 2) X dL_law_1251 rfl rfl ?_
  refine l_callI (o := 0) (nA := 0) (As := []) X (c_X7_status e1) cd_X7_status ml_L_156 im_X7_status se_X7_status in_RX7 (by decide +kernel) rfl rfl (by decide) rfl (Nat.le_of_ble_eq_true rfl) dL_law_1252 rfl ?_
  refine l_recv (i0 := 3) X dL_law_1255 rfl rfl ?_
  refine l_callI (o := 59) (nA := 0) (As := []) X (c_X8_status e2) cd_X8_status ml_L_159 im_X8_status se_X8_status in_RX8 (by decide +kernel) rfl rfl (by decide) rfl (Nat.le_of_ble_eq_true rfl) dL_law_1256 rfl ?_
  exact l_same X dL_law_1259 (by decide) (K s2 e3)
set_option maxRecDepth 100000 in
theorem l_switch {σ : fr_St} {i N : Nat} (X : lX p s m meth c g b L xs) (hL : L ≤ 3072) (hi : i + 5 < L) (hN : N ≤ 1000) (h : Rel N σ) (K : ∀ τ, Rel (N + 1) τ → lV p l e s m below meth c g b Q τ i 1264 []) : ∀ k, k < 35 → lV p l e s m below meth c g b Q σ i 33 [.int (nI k)] := nl (nl (nl (nl (nl (nl (nl (nl (nl (nl (nl (nl (nl (nl (nl (nl (nl (nl (nl (nl (nl (nl (nl (nl (nl (nl (nl (nl (nl (nl (nl (nl (nl (nl (nl (nl0) (l_tin (off := 155) (tgt := 188) X dL_law_33 (by decide) (by decide) (by decide) (by decide) (lc_0 X hL hi hN h K))) (l_tin (off := 198) (tgt := 231) X dL_law_33 (by decide) (by decide) (by decide) (by decide) (lc_1 X hL hi hN h K))) (l_tin (off := 241) (tgt := 274) X dL_law_33 (by decide) (by decide) (by decide) (by decide) (lc_2 X hL hi hN h K))) (l_tin (off := 304) (tgt := 337) X dL_law_33 (by decide) (by decide) (by decide) (by decide) (lc_3 X hL hi hN h K))) (l_tin (off := 327) (tgt := 360) X dL_law_33 (by decide) (by decide) (by decide) (by decide) (lc_4 X hL hi hN h K))) (l_tin (off := 350) (tgt := 383) X dL_law_33 (by decide) (by decide) (by decide) (by decide) (lc_5 X hL hi hN h K))) (l_tin (off := 363) (tgt := 396) X dL_law_33 (by decide) (by decide) (by decide) (by decide) (lc_6 X hL hi hN h K))) (l_tin (off := 376) (tgt := 409) X dL_law_33 (by decide) (by decide) (by decide) (by decide) (lc_7 X hL hi hN h K))) (l_tin (off := 409) (tgt := 442) X dL_law_33 (by decide) (by decide) (by decide) (by decide) (lc_8 X hL hi hN h K))) (l_tin (off := 452) (tgt := 485) X dL_law_33 (by decide) (by decide) (by decide) (by decide) (lc_9 X hL hi hN h K))) (l_tin (off := 485) (tgt := 518) X dL_law_33 (by decide) (by decide) (by decide) (by decide) (lc_10 X hL hi hN h K))) (l_tin (off := 508) (tgt := 541) X dL_law_33 (by decide) (by decide) (by decide) (by decide) (lc_11 X hL hi hN h K))) (l_tin (off := 521) (tgt := 554) X dL_law_33 (by decide) (by decide) (by decide) (by decide) (lc_12 X hL hi hN h K))) (l_tin (off := 534) (tgt := 567) X dL_law_33 (by decide) (by decide) (by decide) (by decide) (lc_13 X hL hi hN h K))) (l_tin (off := 567) (tgt := 600) X dL_law_33 (by decide) (by decide) (by decide) (by decide) (lc_14 X hL hi hN h K))) (l_tin (off := 600) (tgt := 633) X dL_law_33 (by decide) (by decide) (by decide) (by decide) (lc_15 X hL hi hN h K))) (l_tin (off := 643) (tgt := 676) X dL_law_33 (by decide) (by decide) (by decide) (by decide) (lc_16 X hL hi hN h K))) (l_tin (off := 666) (tgt := 699) X dL_law_33 (by decide) (by decide) (by decide) (by decide) (lc_17 X hL hi hN h K))) (l_tin (off := 699) (tgt := 732) X dL_law_33 (by decide) (by decide) (by decide) (by decide) (lc_18 X hL hi hN h K))) (l_tin (off := 742) (tgt := 775) X dL_law_33 (by decide) (by decide) (by decide) (by decide) (lc_19 X hL hi hN h K))) (l_tin (off := 785) (tgt := 818) X dL_law_33 (by decide) (by decide) (by decide) (by decide) (lc_20 X hL hi hN h K))) (l_tin (off := 798) (tgt := 831) X dL_law_33 (by decide) (by decide) (by decide) (by decide) (lc_21 X hL hi hN h K))) (l_tin (off := 821) (tgt := 854) X dL_law_33 (by decide) (by decide) (by decide) (by decide) (lc_22 X hL hi hN h K))) (l_tin (off := 844) (tgt := 877) X dL_law_33 (by decide) (by decide) (by decide) (by decide) (lc_23 X hL hi hN h K))) (l_tin (off := 887) (tgt := 920) X dL_law_33 (by decide) (by decide) (by decide) (by decide) (lc_24 X hL hi hN h K))) (l_tin (off := 930) (tgt := 963) X dL_law_33 (by decide) (by decide) (by decide) (by decide) (lc_25 X hL hi hN h K))) (l_tin (off := 983) (tgt := 1016) X dL_law_33 (by decide) (by decide) (by decide) (by decide) (lc_26 X hL hi hN h K))) (l_tin (off := 1037) (tgt := 1070) X dL_law_33 (by decide) (by decide) (by decide) (by decide) (lc_27 X hL hi hN h K))) (l_tin (off := 1060) (tgt := 1093) X dL_law_33 (by decide) (by decide) (by decide) (by decide) (lc_28 X hL hi hN h K))) (l_tin (off := 1083) (tgt := 1116) X dL_law_33 (by decide) (by decide) (by decide) (by decide) (lc_29 X hL hi hN h K))) (l_tin (off := 1106) (tgt := 1139) X dL_law_33 (by decide) (by decide) (by decide) (by decide) (lc_30 X hL hi hN h K))) (l_tin (off := 1139) (tgt := 1172) X dL_law_33 (by decide) (by decide) (by decide) (by decide) (lc_31 X hL hi hN h K))) (l_tin (off := 1172) (tgt := 1205) X dL_law_33 (by decide) (by decide) (by decide) (by decide) (lc_32 X hL hi hN h K))) (l_tin (off := 1195) (tgt := 1228) X dL_law_33 (by decide) (by decide) (by decide) (by decide) (lc_33 X hL hi hN h K))) (l_tin (off := 1218) (tgt := 1251) X dL_law_33 (by decide) (by decide) (by decide) (by decide) (lc_34 X hL hi hN h K))
end LWC
