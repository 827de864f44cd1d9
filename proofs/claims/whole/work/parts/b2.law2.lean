/-! ===== the law: its 36 calls ===== -/
section Law
variable {p : Program} {l : Launch} {e : Env} {s : State} {m : MethodId} {below : List Frame} {meth : Method} {c : Code} {b L n : Nat} {xs : Nat → Int32} {i : Nat} {μC μM : Mem}
theorem law_0 (C0 : lw_At p s m meth c b L xs) (hL : L ≤ 3072) (hi : i + 6 ≤ L) (hn : n ≤ 512) (hS : Sim n μC μM) (nx : ∀ μC' μM', Sim (n + 1) μC' μM' → LW p l e s m below meth c b i 1482 [] μC' μM') : LW p l e s m below meth c b i 192 [] μC μM := by
  obtain ⟨x, μC', μM', h1, h2, h3⟩ : ∃ x μC' μM', X9_feed 40 (xs (i + 1)) (xs (i + 2)) (xs (i + 3)) (xs (i + 4)) (xs (i + 5)) μC x μC' ∧ X10_feed 40 (xs (i + 1)) (xs (i + 2)) (xs (i + 3)) (xs (i + 4)) (xs (i + 5)) μM x μM' ∧ Sim (n + 1) μC' μM' := call_feed hn μC μM hS
  refine L_al1 (pc := 192) C0 dL_law_192 ?_
  refine L_arg (pc := 193) C0 1 (by decide) (by omega) hL dL_law_193 dL_law_194 dL_law_195 dL_law_196 dL_law_197 ?_
  refine L_arg (pc := 198) C0 2 (by decide) (by omega) hL dL_law_198 dL_law_199 dL_law_200 dL_law_201 dL_law_202 ?_
  refine L_arg (pc := 203) C0 3 (by decide) (by omega) hL dL_law_203 dL_law_204 dL_law_205 dL_law_206 dL_law_207 ?_
  refine L_arg (pc := 208) C0 4 (by decide) (by omega) hL dL_law_208 dL_law_209 dL_law_210 dL_law_211 dL_law_212 ?_
  refine L_arg (pc := 213) C0 5 (by decide) (by omega) hL dL_law_213 dL_law_214 dL_law_215 dL_law_216 dL_law_217 ?_
  refine L_callC (pc := 218) (st := []) C0 [xs (i + 1), xs (i + 2), xs (i + 3), xs (i + 4), xs (i + 5)] mlL_13 rfl (Nat.le_of_ble_eq_true rfl) dL_law_218 h1 ?_
  refine L_al2 (pc := 221) C0 dL_law_221 ?_
  refine L_arg (pc := 222) C0 1 (by decide) (by omega) hL dL_law_222 dL_law_223 dL_law_224 dL_law_225 dL_law_226 ?_
  refine L_arg (pc := 227) C0 2 (by decide) (by omega) hL dL_law_227 dL_law_228 dL_law_229 dL_law_230 dL_law_231 ?_
  refine L_arg (pc := 232) C0 3 (by decide) (by omega) hL dL_law_232 dL_law_233 dL_law_234 dL_law_235 dL_law_236 ?_
  refine L_arg (pc := 237) C0 4 (by decide) (by omega) hL dL_law_237 dL_law_238 dL_law_239 dL_law_240 dL_law_241 ?_
  refine L_arg (pc := 242) C0 5 (by decide) (by omega) hL dL_law_242 dL_law_243 dL_law_244 dL_law_245 dL_law_246 ?_
  refine L_callM (pc := 247) (st := [Sum.inl x]) C0 [xs (i + 1), xs (i + 2), xs (i + 3), xs (i + 4), xs (i + 5)] mlL_17 rfl (Nat.le_of_ble_eq_true rfl) dL_law_247 h2 ?_
  exact L_eq (pc := 250) C0 1482 dL_law_250 (by decide) (nx _ _ h3)
theorem law_1 (C0 : lw_At p s m meth c b L xs) (hL : L ≤ 3072) (hi : i + 6 ≤ L) (hn : n ≤ 512) (hS : Sim n μC μM) (nx : ∀ μC' μM', Sim (n + 1) μC' μM' → LW p l e s m below meth c b i 1482 [] μC' μM') : LW p l e s m below meth c b i 255 [] μC μM := by
  obtain ⟨x, μC', μM', h1, h2, h3⟩ : ∃ x μC' μM', X9_back 40 (xs (i + 1)) μC x μC' ∧ X10_back 40 (xs (i + 1)) μM x μM' ∧ Sim (n + 1) μC' μM' := call_back hn μC μM hS
  refine L_al1 (pc := 255) C0 dL_law_255 ?_
  refine L_arg (pc := 256) C0 1 (by decide) (by omega) hL dL_law_256 dL_law_257 dL_law_258 dL_law_259 dL_law_260 ?_
  refine L_callC (pc := 261) (st := []) C0 [xs (i + 1)] mlL_18 rfl (Nat.le_of_ble_eq_true rfl) dL_law_261 h1 ?_
  refine L_al2 (pc := 264) C0 dL_law_264 ?_
  refine L_arg (pc := 265) C0 1 (by decide) (by omega) hL dL_law_265 dL_law_266 dL_law_267 dL_law_268 dL_law_269 ?_
  refine L_callM (pc := 270) (st := [Sum.inl x]) C0 [xs (i + 1)] mlL_22 rfl (Nat.le_of_ble_eq_true rfl) dL_law_270 h2 ?_
  exact L_eq (pc := 273) C0 1482 dL_law_273 (by decide) (nx _ _ h3)
theorem law_2 (C0 : lw_At p s m meth c b L xs) (hL : L ≤ 3072) (hi : i + 6 ≤ L) (hn : n ≤ 512) (hS : Sim n μC μM) (nx : ∀ μC' μM', Sim (n + 1) μC' μM' → LW p l e s m below meth c b i 1482 [] μC' μM') : LW p l e s m below meth c b i 278 [] μC μM := by
  obtain ⟨x, μC', μM', h1, h2, h3⟩ : ∃ x μC' μM', X9_read 40 μC x μC' ∧ X10_read 40 μM x μM' ∧ Sim (n + 1) μC' μM' := call_read μC μM hS
  refine L_al1 (pc := 278) C0 dL_law_278 ?_
  refine L_callC (pc := 279) (st := []) C0 [] mlL_23 rfl (Nat.le_of_ble_eq_true rfl) dL_law_279 h1 ?_
  refine L_al2 (pc := 282) C0 dL_law_282 ?_
  refine L_callM (pc := 283) (st := [Sum.inl x]) C0 [] mlL_27 rfl (Nat.le_of_ble_eq_true rfl) dL_law_283 h2 ?_
  exact L_eq (pc := 286) C0 1482 dL_law_286 (by decide) (nx _ _ h3)
theorem law_3 (C0 : lw_At p s m meth c b L xs) (hL : L ≤ 3072) (hi : i + 6 ≤ L) (hn : n ≤ 512) (hS : Sim n μC μM) (nx : ∀ μC' μM', Sim (n + 1) μC' μM' → LW p l e s m below meth c b i 1482 [] μC' μM') : LW p l e s m below meth c b i 291 [] μC μM := by
  obtain ⟨x, μC', μM', h1, h2, h3⟩ : ∃ x μC' μM', X9_place 40 μC x μC' ∧ X10_place 40 μM x μM' ∧ Sim (n + 1) μC' μM' := call_place μC μM hS
  refine L_al1 (pc := 291) C0 dL_law_291 ?_
  refine L_callC (pc := 292) (st := []) C0 [] mlL_28 rfl (Nat.le_of_ble_eq_true rfl) dL_law_292 h1 ?_
  refine L_al2 (pc := 295) C0 dL_law_295 ?_
  refine L_callM (pc := 296) (st := [Sum.inl x]) C0 [] mlL_31 rfl (Nat.le_of_ble_eq_true rfl) dL_law_296 h2 ?_
  exact L_eq (pc := 299) C0 1482 dL_law_299 (by decide) (nx _ _ h3)
theorem law_4 (C0 : lw_At p s m meth c b L xs) (hL : L ≤ 3072) (hi : i + 6 ≤ L) (hn : n ≤ 512) (hS : Sim n μC μM) (nx : ∀ μC' μM', Sim (n + 1) μC' μM' → LW p l e s m below meth c b i 1482 [] μC' μM') : LW p l e s m below meth c b i 304 [] μC μM := by
  obtain ⟨x, μC', μM', h1, h2, h3⟩ : ∃ x μC' μM', X9_cell 40 (xs (i + 1)) (xs (i + 2)) (xs (i + 3)) μC x μC' ∧ X10_cell 40 (xs (i + 1)) (xs (i + 2)) (xs (i + 3)) μM x μM' ∧ Sim (n + 1) μC' μM' := call_cell hn μC μM hS
  refine L_al1 (pc := 304) C0 dL_law_304 ?_
  refine L_arg (pc := 305) C0 1 (by decide) (by omega) hL dL_law_305 dL_law_306 dL_law_307 dL_law_308 dL_law_309 ?_
  refine L_arg (pc := 310) C0 2 (by decide) (by omega) hL dL_law_310 dL_law_311 dL_law_312 dL_law_313 dL_law_314 ?_
  refine L_arg (pc := 315) C0 3 (by decide) (by omega) hL dL_law_315 dL_law_316 dL_law_317 dL_law_318 dL_law_319 ?_
  refine L_callC (pc := 320) (st := []) C0 [xs (i + 1), xs (i + 2), xs (i + 3)] mlL_32 rfl (Nat.le_of_ble_eq_true rfl) dL_law_320 h1 ?_
  refine L_al2 (pc := 323) C0 dL_law_323 ?_
  refine L_arg (pc := 324) C0 1 (by decide) (by omega) hL dL_law_324 dL_law_325 dL_law_326 dL_law_327 dL_law_328 ?_
  refine L_arg (pc := 329) C0 2 (by decide) (by omega) hL dL_law_329 dL_law_330 dL_law_331 dL_law_332 dL_law_333 ?_
  refine L_arg (pc := 334) C0 3 (by decide) (by omega) hL dL_law_334 dL_law_335 dL_law_336 dL_law_337 dL_law_338 ?_
  refine L_callM (pc := 339) (st := [Sum.inl x]) C0 [xs (i + 1), xs (i + 2), xs (i + 3)] mlL_36 rfl (Nat.le_of_ble_eq_true rfl) dL_law_339 h2 ?_
  exact L_eq (pc := 342) C0 1482 dL_law_342 (by decide) (nx _ _ h3)
theorem law_5 (C0 : lw_At p s m meth c b L xs) (hL : L ≤ 3072) (hi : i + 6 ≤ L) (hn : n ≤ 512) (hS : Sim n μC μM) (nx : ∀ μC' μM', Sim (n + 1) μC' μM' → LW p l e s m below meth c b i 1482 [] μC' μM') : LW p l e s m below meth c b i 347 [] μC μM := by
  obtain ⟨x, μC', μM', h1, h2, h3⟩ : ∃ x μC' μM', X9_field 40 (xs (i + 1)) (xs (i + 2)) μC x μC' ∧ X10_field 40 (xs (i + 1)) (xs (i + 2)) μM x μM' ∧ Sim (n + 1) μC' μM' := call_field hn μC μM hS
  refine L_al1 (pc := 347) C0 dL_law_347 ?_
  refine L_arg (pc := 348) C0 1 (by decide) (by omega) hL dL_law_348 dL_law_349 dL_law_350 dL_law_351 dL_law_352 ?_
  refine L_arg (pc := 353) C0 2 (by decide) (by omega) hL dL_law_353 dL_law_354 dL_law_355 dL_law_356 dL_law_357 ?_
  refine L_callC (pc := 358) (st := []) C0 [xs (i + 1), xs (i + 2)] mlL_37 rfl (Nat.le_of_ble_eq_true rfl) dL_law_358 h1 ?_
  refine L_al2 (pc := 361) C0 dL_law_361 ?_
  refine L_arg (pc := 362) C0 1 (by decide) (by omega) hL dL_law_362 dL_law_363 dL_law_364 dL_law_365 dL_law_366 ?_
  refine L_arg (pc := 367) C0 2 (by decide) (by omega) hL dL_law_367 dL_law_368 dL_law_369 dL_law_370 dL_law_371 ?_
  refine L_callM (pc := 372) (st := [Sum.inl x]) C0 [xs (i + 1), xs (i + 2)] mlL_41 rfl (Nat.le_of_ble_eq_true rfl) dL_law_372 h2 ?_
  exact L_eq (pc := 375) C0 1482 dL_law_375 (by decide) (nx _ _ h3)
theorem law_6 (C0 : lw_At p s m meth c b L xs) (hL : L ≤ 3072) (hi : i + 6 ≤ L) (hn : n ≤ 512) (hS : Sim n μC μM) (nx : ∀ μC' μM', Sim (n + 1) μC' μM' → LW p l e s m below meth c b i 1482 [] μC' μM') : LW p l e s m below meth c b i 380 [] μC μM := by
  obtain ⟨x, μC', μM', h1, h2, h3⟩ : ∃ x μC' μM', X9_loom 40 (xs (i + 1)) (xs (i + 2)) μC x μC' ∧ X10_loom 40 (xs (i + 1)) (xs (i + 2)) μM x μM' ∧ Sim (n + 1) μC' μM' := call_loom hn μC μM hS
  refine L_al1 (pc := 380) C0 dL_law_380 ?_
  refine L_arg (pc := 381) C0 1 (by decide) (by omega) hL dL_law_381 dL_law_382 dL_law_383 dL_law_384 dL_law_385 ?_
  refine L_arg (pc := 386) C0 2 (by decide) (by omega) hL dL_law_386 dL_law_387 dL_law_388 dL_law_389 dL_law_390 ?_
  refine L_callC (pc := 391) (st := []) C0 [xs (i + 1), xs (i + 2)] mlL_42 rfl (Nat.le_of_ble_eq_true rfl) dL_law_391 h1 ?_
  refine L_al2 (pc := 394) C0 dL_law_394 ?_
  refine L_arg (pc := 395) C0 1 (by decide) (by omega) hL dL_law_395 dL_law_396 dL_law_397 dL_law_398 dL_law_399 ?_
  refine L_arg (pc := 400) C0 2 (by decide) (by omega) hL dL_law_400 dL_law_401 dL_law_402 dL_law_403 dL_law_404 ?_
  refine L_callM (pc := 405) (st := [Sum.inl x]) C0 [xs (i + 1), xs (i + 2)] mlL_45 rfl (Nat.le_of_ble_eq_true rfl) dL_law_405 h2 ?_
  exact L_eq (pc := 408) C0 1482 dL_law_408 (by decide) (nx _ _ h3)
theorem law_7 (C0 : lw_At p s m meth c b L xs) (hL : L ≤ 3072) (hi : i + 6 ≤ L) (hn : n ≤ 512) (hS : Sim n μC μM) (nx : ∀ μC' μM', Sim (n + 1) μC' μM' → LW p l e s m below meth c b i 1482 [] μC' μM') : LW p l e s m below meth c b i 413 [] μC μM := by
  obtain ⟨x, μC', μM', h1, h2, h3⟩ : ∃ x μC' μM', X9_thread 40 (xs (i + 1)) (xs (i + 2)) (xs (i + 3)) μC x μC' ∧ X10_thread 40 (xs (i + 1)) (xs (i + 2)) (xs (i + 3)) μM x μM' ∧ Sim (n + 1) μC' μM' := call_thread hn μC μM hS
  refine L_al1 (pc := 413) C0 dL_law_413 ?_
  refine L_arg (pc := 414) C0 1 (by decide) (by omega) hL dL_law_414 dL_law_415 dL_law_416 dL_law_417 dL_law_418 ?_
  refine L_arg (pc := 419) C0 2 (by decide) (by omega) hL dL_law_419 dL_law_420 dL_law_421 dL_law_422 dL_law_423 ?_
  refine L_arg (pc := 424) C0 3 (by decide) (by omega) hL dL_law_424 dL_law_425 dL_law_426 dL_law_427 dL_law_428 ?_
  refine L_callC (pc := 429) (st := []) C0 [xs (i + 1), xs (i + 2), xs (i + 3)] mlL_46 rfl (Nat.le_of_ble_eq_true rfl) dL_law_429 h1 ?_
  refine L_al2 (pc := 432) C0 dL_law_432 ?_
  refine L_arg (pc := 433) C0 1 (by decide) (by omega) hL dL_law_433 dL_law_434 dL_law_435 dL_law_436 dL_law_437 ?_
  refine L_arg (pc := 438) C0 2 (by decide) (by omega) hL dL_law_438 dL_law_439 dL_law_440 dL_law_441 dL_law_442 ?_
  refine L_arg (pc := 443) C0 3 (by decide) (by omega) hL dL_law_443 dL_law_444 dL_law_445 dL_law_446 dL_law_447 ?_
  refine L_callM (pc := 448) (st := [Sum.inl x]) C0 [xs (i + 1), xs (i + 2), xs (i + 3)] mlL_49 rfl (Nat.le_of_ble_eq_true rfl) dL_law_448 h2 ?_
  exact L_eq (pc := 451) C0 1482 dL_law_451 (by decide) (nx _ _ h3)
theorem law_8 (C0 : lw_At p s m meth c b L xs) (hL : L ≤ 3072) (hi : i + 6 ≤ L) (hn : n ≤ 512) (hS : Sim n μC μM) (nx : ∀ μC' μM', Sim (n + 1) μC' μM' → LW p l e s m below meth c b i 1482 [] μC' μM') : LW p l e s m below meth c b i 456 [] μC μM := by
  obtain ⟨x, μC', μM', h1, h2, h3⟩ : ∃ x μC' μM', X9_order 40 (xs (i + 1)) (xs (i + 2)) (xs (i + 3)) (xs (i + 4)) (xs (i + 5)) μC x μC' ∧ X10_order 40 (xs (i + 1)) (xs (i + 2)) (xs (i + 3)) (xs (i + 4)) (xs (i + 5)) μM x μM' ∧ Sim (n + 1) μC' μM' := call_order hn μC μM hS
  refine L_al1 (pc := 456) C0 dL_law_456 ?_
  refine L_arg (pc := 457) C0 1 (by decide) (by omega) hL dL_law_457 dL_law_458 dL_law_459 dL_law_460 dL_law_461 ?_
  refine L_arg (pc := 462) C0 2 (by decide) (by omega) hL dL_law_462 dL_law_463 dL_law_464 dL_law_465 dL_law_466 ?_
  refine L_arg (pc := 467) C0 3 (by decide) (by omega) hL dL_law_467 dL_law_468 dL_law_469 dL_law_470 dL_law_471 ?_
  refine L_arg (pc := 472) C0 4 (by decide) (by omega) hL dL_law_472 dL_law_473 dL_law_474 dL_law_475 dL_law_476 ?_
  refine L_arg (pc := 477) C0 5 (by decide) (by omega) hL dL_law_477 dL_law_478 dL_law_479 dL_law_480 dL_law_481 ?_
  refine L_callC (pc := 482) (st := []) C0 [xs (i + 1), xs (i + 2), xs (i + 3), xs (i + 4), xs (i + 5)] mlL_50 rfl (Nat.le_of_ble_eq_true rfl) dL_law_482 h1 ?_
  refine L_al2 (pc := 485) C0 dL_law_485 ?_
  refine L_arg (pc := 486) C0 1 (by decide) (by omega) hL dL_law_486 dL_law_487 dL_law_488 dL_law_489 dL_law_490 ?_
  refine L_arg (pc := 491) C0 2 (by decide) (by omega) hL dL_law_491 dL_law_492 dL_law_493 dL_law_494 dL_law_495 ?_
  refine L_arg (pc := 496) C0 3 (by decide) (by omega) hL dL_law_496 dL_law_497 dL_law_498 dL_law_499 dL_law_500 ?_
  refine L_arg (pc := 501) C0 4 (by decide) (by omega) hL dL_law_501 dL_law_502 dL_law_503 dL_law_504 dL_law_505 ?_
  refine L_arg (pc := 506) C0 5 (by decide) (by omega) hL dL_law_506 dL_law_507 dL_law_508 dL_law_509 dL_law_510 ?_
  refine L_callM (pc := 511) (st := [Sum.inl x]) C0 [xs (i + 1), xs (i + 2), xs (i + 3), xs (i + 4), xs (i + 5)] mlL_54 rfl (Nat.le_of_ble_eq_true rfl) dL_law_511 h2 ?_
  exact L_eq (pc := 514) C0 1482 dL_law_514 (by decide) (nx _ _ h3)
theorem law_9 (C0 : lw_At p s m meth c b L xs) (hL : L ≤ 3072) (hi : i + 6 ≤ L) (hn : n ≤ 512) (hS : Sim n μC μM) (nx : ∀ μC' μM', Sim (n + 1) μC' μM' → LW p l e s m below meth c b i 1482 [] μC' μM') : LW p l e s m below meth c b i 519 [] μC μM := by
  obtain ⟨x, μC', μM', h1, h2, h3⟩ : ∃ x μC' μM', X9_stop 40 (xs (i + 1)) μC x μC' ∧ X10_stop 40 (xs (i + 1)) μM x μM' ∧ Sim (n + 1) μC' μM' := call_stop hn μC μM hS
  refine L_al1 (pc := 519) C0 dL_law_519 ?_
  refine L_arg (pc := 520) C0 1 (by decide) (by omega) hL dL_law_520 dL_law_521 dL_law_522 dL_law_523 dL_law_524 ?_
  refine L_callC (pc := 525) (st := []) C0 [xs (i + 1)] mlL_55 rfl (Nat.le_of_ble_eq_true rfl) dL_law_525 h1 ?_
  refine L_al2 (pc := 528) C0 dL_law_528 ?_
  refine L_arg (pc := 529) C0 1 (by decide) (by omega) hL dL_law_529 dL_law_530 dL_law_531 dL_law_532 dL_law_533 ?_
  refine L_callM (pc := 534) (st := [Sum.inl x]) C0 [xs (i + 1)] mlL_59 rfl (Nat.le_of_ble_eq_true rfl) dL_law_534 h2 ?_
  exact L_eq (pc := 537) C0 1482 dL_law_537 (by decide) (nx _ _ h3)
theorem law_10 (C0 : lw_At p s m meth c b L xs) (hL : L ≤ 3072) (hi : i + 6 ≤ L) (hn : n ≤ 512) (hS : Sim n μC μM) (nx : ∀ μC' μM', Sim (n + 1) μC' μM' → LW p l e s m below meth c b i 1482 [] μC' μM') : LW p l e s m below meth c b i 542 [] μC μM := by
  obtain ⟨x, μC', μM', h1, h2, h3⟩ : ∃ x μC' μM', X9_fall 40 (xs (i + 1)) (xs (i + 2)) (xs (i + 3)) (xs (i + 4)) (xs (i + 5)) μC x μC' ∧ X10_fall 40 (xs (i + 1)) (xs (i + 2)) (xs (i + 3)) (xs (i + 4)) (xs (i + 5)) μM x μM' ∧ Sim (n + 1) μC' μM' := call_fall hn μC μM hS
  refine L_al1 (pc := 542) C0 dL_law_542 ?_
  refine L_arg (pc := 543) C0 1 (by decide) (by omega) hL dL_law_543 dL_law_544 dL_law_545 dL_law_546 dL_law_547 ?_
  refine L_arg (pc := 548) C0 2 (by decide) (by omega) hL dL_law_548 dL_law_549 dL_law_550 dL_law_551 dL_law_552 ?_
  refine L_arg (pc := 553) C0 3 (by decide) (by omega) hL dL_law_553 dL_law_554 dL_law_555 dL_law_556 dL_law_557 ?_
  refine L_arg (pc := 558) C0 4 (by decide) (by omega) hL dL_law_558 dL_law_559 dL_law_560 dL_law_561 dL_law_562 ?_
  refine L_arg (pc := 563) C0 5 (by decide) (by omega) hL dL_law_563 dL_law_564 dL_law_565 dL_law_566 dL_law_567 ?_
  refine L_callC (pc := 568) (st := []) C0 [xs (i + 1), xs (i + 2), xs (i + 3), xs (i + 4), xs (i + 5)] mlL_60 rfl (Nat.le_of_ble_eq_true rfl) dL_law_568 h1 ?_
  refine L_al2 (pc := 571) C0 dL_law_571 ?_
  refine L_arg (pc := 572) C0 1 (by decide) (by omega) hL dL_law_572 dL_law_573 dL_law_574 dL_law_575 dL_law_576 ?_
  refine L_arg (pc := 577) C0 2 (by decide) (by omega) hL dL_law_577 dL_law_578 dL_law_579 dL_law_580 dL_law_581 ?_
  refine L_arg (pc := 582) C0 3 (by decide) (by omega) hL dL_law_582 dL_law_583 dL_law_584 dL_law_585 dL_law_586 ?_
  refine L_arg (pc := 587) C0 4 (by decide) (by omega) hL dL_law_587 dL_law_588 dL_law_589 dL_law_590 dL_law_591 ?_
  refine L_arg (pc := 592) C0 5 (by decide) (by omega) hL dL_law_592 dL_law_593 dL_law_594 dL_law_595 dL_law_596 ?_
  refine L_callM (pc := 597) (st := [Sum.inl x]) C0 [xs (i + 1), xs (i + 2), xs (i + 3), xs (i + 4), xs (i + 5)] mlL_63 rfl (Nat.le_of_ble_eq_true rfl) dL_law_597 h2 ?_
  exact L_eq (pc := 600) C0 1482 dL_law_600 (by decide) (nx _ _ h3)
theorem law_11 (C0 : lw_At p s m meth c b L xs) (hL : L ≤ 3072) (hi : i + 6 ≤ L) (hn : n ≤ 512) (hS : Sim n μC μM) (nx : ∀ μC' μM', Sim (n + 1) μC' μM' → LW p l e s m below meth c b i 1482 [] μC' μM') : LW p l e s m below meth c b i 605 [] μC μM := by
  obtain ⟨x, μC', μM', h1, h2, h3⟩ : ∃ x μC' μM', X9_turn 40 (xs (i + 1)) (xs (i + 2)) μC x μC' ∧ X10_turn 40 (xs (i + 1)) (xs (i + 2)) μM x μM' ∧ Sim (n + 1) μC' μM' := call_turn hn μC μM hS
  refine L_al1 (pc := 605) C0 dL_law_605 ?_
  refine L_arg (pc := 606) C0 1 (by decide) (by omega) hL dL_law_606 dL_law_607 dL_law_608 dL_law_609 dL_law_610 ?_
  refine L_arg (pc := 611) C0 2 (by decide) (by omega) hL dL_law_611 dL_law_612 dL_law_613 dL_law_614 dL_law_615 ?_
  refine L_callC (pc := 616) (st := []) C0 [xs (i + 1), xs (i + 2)] mlL_64 rfl (Nat.le_of_ble_eq_true rfl) dL_law_616 h1 ?_
  refine L_al2 (pc := 619) C0 dL_law_619 ?_
  refine L_arg (pc := 620) C0 1 (by decide) (by omega) hL dL_law_620 dL_law_621 dL_law_622 dL_law_623 dL_law_624 ?_
  refine L_arg (pc := 625) C0 2 (by decide) (by omega) hL dL_law_625 dL_law_626 dL_law_627 dL_law_628 dL_law_629 ?_
  refine L_callM (pc := 630) (st := [Sum.inl x]) C0 [xs (i + 1), xs (i + 2)] mlL_67 rfl (Nat.le_of_ble_eq_true rfl) dL_law_630 h2 ?_
  exact L_eq (pc := 633) C0 1482 dL_law_633 (by decide) (nx _ _ h3)
theorem law_12 (C0 : lw_At p s m meth c b L xs) (hL : L ≤ 3072) (hi : i + 6 ≤ L) (hn : n ≤ 512) (hS : Sim n μC μM) (nx : ∀ μC' μM', Sim (n + 1) μC' μM' → LW p l e s m below meth c b i 1482 [] μC' μM') : LW p l e s m below meth c b i 638 [] μC μM := by
  obtain ⟨x, μC', μM', h1, h2, h3⟩ : ∃ x μC' μM', X9_days 40 (xs (i + 1)) μC x μC' ∧ X10_days 40 (xs (i + 1)) μM x μM' ∧ Sim (n + 1) μC' μM' := call_days hn μC μM hS
  refine L_al1 (pc := 638) C0 dL_law_638 ?_
  refine L_arg (pc := 639) C0 1 (by decide) (by omega) hL dL_law_639 dL_law_640 dL_law_641 dL_law_642 dL_law_643 ?_
  refine L_callC (pc := 644) (st := []) C0 [xs (i + 1)] mlL_68 rfl (Nat.le_of_ble_eq_true rfl) dL_law_644 h1 ?_
  refine L_al2 (pc := 647) C0 dL_law_647 ?_
  refine L_arg (pc := 648) C0 1 (by decide) (by omega) hL dL_law_648 dL_law_649 dL_law_650 dL_law_651 dL_law_652 ?_
  refine L_callM (pc := 653) (st := [Sum.inl x]) C0 [xs (i + 1)] mlL_71 rfl (Nat.le_of_ble_eq_true rfl) dL_law_653 h2 ?_
  exact L_eq (pc := 656) C0 1482 dL_law_656 (by decide) (nx _ _ h3)
theorem law_13 (C0 : lw_At p s m meth c b L xs) (hL : L ≤ 3072) (hi : i + 6 ≤ L) (hn : n ≤ 512) (hS : Sim n μC μM) (nx : ∀ μC' μM', Sim (n + 1) μC' μM' → LW p l e s m below meth c b i 1482 [] μC' μM') : LW p l e s m below meth c b i 661 [] μC μM := by
  obtain ⟨x, μC', μM', h1, h2, h3⟩ : ∃ x μC' μM', X9_undo 40 μC x μC' ∧ X10_undo 40 μM x μM' ∧ Sim (n + 1) μC' μM' := call_undo hn μC μM hS
  refine L_al1 (pc := 661) C0 dL_law_661 ?_
  refine L_callC (pc := 662) (st := []) C0 [] mlL_72 rfl (Nat.le_of_ble_eq_true rfl) dL_law_662 h1 ?_
  refine L_al2 (pc := 665) C0 dL_law_665 ?_
  refine L_callM (pc := 666) (st := [Sum.inl x]) C0 [] mlL_76 rfl (Nat.le_of_ble_eq_true rfl) dL_law_666 h2 ?_
  exact L_eq (pc := 669) C0 1482 dL_law_669 (by decide) (nx _ _ h3)
theorem law_14 (C0 : lw_At p s m meth c b L xs) (hL : L ≤ 3072) (hi : i + 6 ≤ L) (hn : n ≤ 512) (hS : Sim n μC μM) (nx : ∀ μC' μM', Sim (n + 1) μC' μM' → LW p l e s m below meth c b i 1482 [] μC' μM') : LW p l e s m below meth c b i 674 [] μC μM := by
  obtain ⟨x, μC', μM', h1, h2, h3⟩ : ∃ x μC' μM', X9_holds 40 (xs (i + 1)) (xs (i + 2)) (xs (i + 3)) ((if xs (i + 4) = 0 then 0 else 1)) μC x μC' ∧ X10_holds 40 (xs (i + 1)) (xs (i + 2)) (xs (i + 3)) ((if xs (i + 4) = 0 then 0 else 1)) μM x μM' ∧ Sim (n + 1) μC' μM' := call_holds hn μC μM hS
  refine L_al1 (pc := 674) C0 dL_law_674 ?_
  refine L_arg (pc := 675) C0 1 (by decide) (by omega) hL dL_law_675 dL_law_676 dL_law_677 dL_law_678 dL_law_679 ?_
  refine L_arg (pc := 680) C0 2 (by decide) (by omega) hL dL_law_680 dL_law_681 dL_law_682 dL_law_683 dL_law_684 ?_
  refine L_arg (pc := 685) C0 3 (by decide) (by omega) hL dL_law_685 dL_law_686 dL_law_687 dL_law_688 dL_law_689 ?_
  refine L_arg (pc := 690) C0 4 (by decide) (by omega) hL dL_law_690 dL_law_691 dL_law_692 dL_law_693 dL_law_694 ?_
  refine L_bool (pc := 695) C0 dL_law_695 (by decide) dL_law_698 dL_law_699 (by decide) dL_law_702 ?_
  refine L_callC (pc := 703) (st := []) C0 [xs (i + 1), xs (i + 2), xs (i + 3), (if xs (i + 4) = 0 then 0 else 1)] mlL_77 rfl (Nat.le_of_ble_eq_true rfl) dL_law_703 h1 ?_
  refine L_al2 (pc := 706) C0 dL_law_706 ?_
  refine L_arg (pc := 707) C0 1 (by decide) (by omega) hL dL_law_707 dL_law_708 dL_law_709 dL_law_710 dL_law_711 ?_
  refine L_arg (pc := 712) C0 2 (by decide) (by omega) hL dL_law_712 dL_law_713 dL_law_714 dL_law_715 dL_law_716 ?_
  refine L_arg (pc := 717) C0 3 (by decide) (by omega) hL dL_law_717 dL_law_718 dL_law_719 dL_law_720 dL_law_721 ?_
  refine L_arg (pc := 722) C0 4 (by decide) (by omega) hL dL_law_722 dL_law_723 dL_law_724 dL_law_725 dL_law_726 ?_
  refine L_bool (pc := 727) C0 dL_law_727 (by decide) dL_law_730 dL_law_731 (by decide) dL_law_734 ?_
  refine L_callM (pc := 735) (st := [Sum.inl x]) C0 [xs (i + 1), xs (i + 2), xs (i + 3), (if xs (i + 4) = 0 then 0 else 1)] mlL_81 rfl (Nat.le_of_ble_eq_true rfl) dL_law_735 h2 ?_
  exact L_eq (pc := 738) C0 1482 dL_law_738 (by decide) (nx _ _ h3)
theorem law_15 (C0 : lw_At p s m meth c b L xs) (hL : L ≤ 3072) (hi : i + 6 ≤ L) (hn : n ≤ 512) (hS : Sim n μC μM) (nx : ∀ μC' μM', Sim (n + 1) μC' μM' → LW p l e s m below meth c b i 1482 [] μC' μM') : LW p l e s m below meth c b i 743 [] μC μM := by
  obtain ⟨x, μC', μM', h1, h2, h3⟩ : ∃ x μC' μM', X9_comes 40 (xs (i + 1)) (xs (i + 2)) (xs (i + 3)) μC x μC' ∧ X10_comes 40 (xs (i + 1)) (xs (i + 2)) (xs (i + 3)) μM x μM' ∧ Sim (n + 1) μC' μM' := call_comes hn μC μM hS
  refine L_al1 (pc := 743) C0 dL_law_743 ?_
  refine L_arg (pc := 744) C0 1 (by decide) (by omega) hL dL_law_744 dL_law_745 dL_law_746 dL_law_747 dL_law_748 ?_
  refine L_arg (pc := 749) C0 2 (by decide) (by omega) hL dL_law_749 dL_law_750 dL_law_751 dL_law_752 dL_law_753 ?_
  refine L_arg (pc := 754) C0 3 (by decide) (by omega) hL dL_law_754 dL_law_755 dL_law_756 dL_law_757 dL_law_758 ?_
  refine L_callC (pc := 759) (st := []) C0 [xs (i + 1), xs (i + 2), xs (i + 3)] mlL_82 rfl (Nat.le_of_ble_eq_true rfl) dL_law_759 h1 ?_
  refine L_al2 (pc := 762) C0 dL_law_762 ?_
  refine L_arg (pc := 763) C0 1 (by decide) (by omega) hL dL_law_763 dL_law_764 dL_law_765 dL_law_766 dL_law_767 ?_
  refine L_arg (pc := 768) C0 2 (by decide) (by omega) hL dL_law_768 dL_law_769 dL_law_770 dL_law_771 dL_law_772 ?_
  refine L_arg (pc := 773) C0 3 (by decide) (by omega) hL dL_law_773 dL_law_774 dL_law_775 dL_law_776 dL_law_777 ?_
  refine L_callM (pc := 778) (st := [Sum.inl x]) C0 [xs (i + 1), xs (i + 2), xs (i + 3)] mlL_85 rfl (Nat.le_of_ble_eq_true rfl) dL_law_778 h2 ?_
  exact L_eq (pc := 781) C0 1482 dL_law_781 (by decide) (nx _ _ h3)
theorem law_16 (C0 : lw_At p s m meth c b L xs) (hL : L ≤ 3072) (hi : i + 6 ≤ L) (hn : n ≤ 512) (hS : Sim n μC μM) (nx : ∀ μC' μM', Sim (n + 1) μC' μM' → LW p l e s m below meth c b i 1482 [] μC' μM') : LW p l e s m below meth c b i 786 [] μC μM := by
  obtain ⟨x, μC', μM', h1, h2, h3⟩ : ∃ x μC' μM', X9_round 40 (xs (i + 1)) μC x μC' ∧ X10_round 40 (xs (i + 1)) μM x μM' ∧ Sim (n + 1) μC' μM' := call_round hn μC μM hS
  refine L_al1 (pc := 786) C0 dL_law_786 ?_
  refine L_arg (pc := 787) C0 1 (by decide) (by omega) hL dL_law_787 dL_law_788 dL_law_789 dL_law_790 dL_law_791 ?_
  refine L_callC (pc := 792) (st := []) C0 [xs (i + 1)] mlL_86 rfl (Nat.le_of_ble_eq_true rfl) dL_law_792 h1 ?_
  refine L_al2 (pc := 795) C0 dL_law_795 ?_
  refine L_arg (pc := 796) C0 1 (by decide) (by omega) hL dL_law_796 dL_law_797 dL_law_798 dL_law_799 dL_law_800 ?_
  refine L_callM (pc := 801) (st := [Sum.inl x]) C0 [xs (i + 1)] mlL_89 rfl (Nat.le_of_ble_eq_true rfl) dL_law_801 h2 ?_
  exact L_eq (pc := 804) C0 1482 dL_law_804 (by decide) (nx _ _ h3)
theorem law_17 (C0 : lw_At p s m meth c b L xs) (hL : L ≤ 3072) (hi : i + 6 ≤ L) (hn : n ≤ 512) (hS : Sim n μC μM) (nx : ∀ μC' μM', Sim (n + 1) μC' μM' → LW p l e s m below meth c b i 1482 [] μC' μM') : LW p l e s m below meth c b i 809 [] μC μM := by
  obtain ⟨x, μC', μM', h1, h2, h3⟩ : ∃ x μC' μM', X9_agree 40 (xs (i + 1)) (xs (i + 2)) μC x μC' ∧ X10_agree 40 (xs (i + 1)) (xs (i + 2)) μM x μM' ∧ Sim (n + 1) μC' μM' := call_agree hn μC μM hS
  refine L_al1 (pc := 809) C0 dL_law_809 ?_
  refine L_arg (pc := 810) C0 1 (by decide) (by omega) hL dL_law_810 dL_law_811 dL_law_812 dL_law_813 dL_law_814 ?_
  refine L_arg (pc := 815) C0 2 (by decide) (by omega) hL dL_law_815 dL_law_816 dL_law_817 dL_law_818 dL_law_819 ?_
  refine L_callC (pc := 820) (st := []) C0 [xs (i + 1), xs (i + 2)] mlL_90 rfl (Nat.le_of_ble_eq_true rfl) dL_law_820 h1 ?_
  refine L_al2 (pc := 823) C0 dL_law_823 ?_
  refine L_arg (pc := 824) C0 1 (by decide) (by omega) hL dL_law_824 dL_law_825 dL_law_826 dL_law_827 dL_law_828 ?_
  refine L_arg (pc := 829) C0 2 (by decide) (by omega) hL dL_law_829 dL_law_830 dL_law_831 dL_law_832 dL_law_833 ?_
  refine L_callM (pc := 834) (st := [Sum.inl x]) C0 [xs (i + 1), xs (i + 2)] mlL_93 rfl (Nat.le_of_ble_eq_true rfl) dL_law_834 h2 ?_
  exact L_eq (pc := 837) C0 1482 dL_law_837 (by decide) (nx _ _ h3)
theorem law_18 (C0 : lw_At p s m meth c b L xs) (hL : L ≤ 3072) (hi : i + 6 ≤ L) (hn : n ≤ 512) (hS : Sim n μC μM) (nx : ∀ μC' μM', Sim (n + 1) μC' μM' → LW p l e s m below meth c b i 1482 [] μC' μM') : LW p l e s m below meth c b i 842 [] μC μM := by
  obtain ⟨x, μC', μM', h1, h2, h3⟩ : ∃ x μC' μM', X9_where 40 (xs (i + 1)) (xs (i + 2)) (xs (i + 3)) (xs (i + 4)) μC x μC' ∧ X10_where 40 (xs (i + 1)) (xs (i + 2)) (xs (i + 3)) (xs (i + 4)) μM x μM' ∧ Sim (n + 1) μC' μM' := call_where hn μC μM hS
  refine L_al1 (pc := 842) C0 dL_law_842 ?_
  refine L_arg (pc := 843) C0 1 (by decide) (by omega) hL dL_law_843 dL_law_844 dL_law_845 dL_law_846 dL_law_847 ?_
  refine L_arg (pc := 848) C0 2 (by decide) (by omega) hL dL_law_848 dL_law_849 dL_law_850 dL_law_851 dL_law_852 ?_
  refine L_arg (pc := 853) C0 3 (by decide) (by omega) hL dL_law_853 dL_law_854 dL_law_855 dL_law_856 dL_law_857 ?_
  refine L_arg (pc := 858) C0 4 (by decide) (by omega) hL dL_law_858 dL_law_859 dL_law_860 dL_law_861 dL_law_862 ?_
  refine L_callC (pc := 863) (st := []) C0 [xs (i + 1), xs (i + 2), xs (i + 3), xs (i + 4)] mlL_94 rfl (Nat.le_of_ble_eq_true rfl) dL_law_863 h1 ?_
  refine L_al2 (pc := 866) C0 dL_law_866 ?_
  refine L_arg (pc := 867) C0 1 (by decide) (by omega) hL dL_law_867 dL_law_868 dL_law_869 dL_law_870 dL_law_871 ?_
  refine L_arg (pc := 872) C0 2 (by decide) (by omega) hL dL_law_872 dL_law_873 dL_law_874 dL_law_875 dL_law_876 ?_
  refine L_arg (pc := 877) C0 3 (by decide) (by omega) hL dL_law_877 dL_law_878 dL_law_879 dL_law_880 dL_law_881 ?_
  refine L_arg (pc := 882) C0 4 (by decide) (by omega) hL dL_law_882 dL_law_883 dL_law_884 dL_law_885 dL_law_886 ?_
  refine L_callM (pc := 887) (st := [Sum.inl x]) C0 [xs (i + 1), xs (i + 2), xs (i + 3), xs (i + 4)] mlL_98 rfl (Nat.le_of_ble_eq_true rfl) dL_law_887 h2 ?_
  exact L_eq (pc := 890) C0 1482 dL_law_890 (by decide) (nx _ _ h3)
theorem law_19 (C0 : lw_At p s m meth c b L xs) (hL : L ≤ 3072) (hi : i + 6 ≤ L) (hn : n ≤ 512) (hS : Sim n μC μM) (nx : ∀ μC' μM', Sim (n + 1) μC' μM' → LW p l e s m below meth c b i 1482 [] μC' μM') : LW p l e s m below meth c b i 895 [] μC μM := by
  obtain ⟨x, μC', μM', h1, h2, h3⟩ : ∃ x μC' μM', X9_cut 40 (xs (i + 1)) (xs (i + 2)) (xs (i + 3)) (xs (i + 4)) μC x μC' ∧ X10_cut 40 (xs (i + 1)) (xs (i + 2)) (xs (i + 3)) (xs (i + 4)) μM x μM' ∧ Sim (n + 1) μC' μM' := call_cut μC μM hS
  refine L_al1 (pc := 895) C0 dL_law_895 ?_
  refine L_arg (pc := 896) C0 1 (by decide) (by omega) hL dL_law_896 dL_law_897 dL_law_898 dL_law_899 dL_law_900 ?_
  refine L_arg (pc := 901) C0 2 (by decide) (by omega) hL dL_law_901 dL_law_902 dL_law_903 dL_law_904 dL_law_905 ?_
  refine L_arg (pc := 906) C0 3 (by decide) (by omega) hL dL_law_906 dL_law_907 dL_law_908 dL_law_909 dL_law_910 ?_
  refine L_arg (pc := 911) C0 4 (by decide) (by omega) hL dL_law_911 dL_law_912 dL_law_913 dL_law_914 dL_law_915 ?_
  refine L_callC (pc := 916) (st := []) C0 [xs (i + 1), xs (i + 2), xs (i + 3), xs (i + 4)] mlL_99 rfl (Nat.le_of_ble_eq_true rfl) dL_law_916 h1 ?_
  refine L_al2 (pc := 919) C0 dL_law_919 ?_
  refine L_arg (pc := 920) C0 1 (by decide) (by omega) hL dL_law_920 dL_law_921 dL_law_922 dL_law_923 dL_law_924 ?_
  refine L_arg (pc := 925) C0 2 (by decide) (by omega) hL dL_law_925 dL_law_926 dL_law_927 dL_law_928 dL_law_929 ?_
  refine L_arg (pc := 930) C0 3 (by decide) (by omega) hL dL_law_930 dL_law_931 dL_law_932 dL_law_933 dL_law_934 ?_
  refine L_arg (pc := 935) C0 4 (by decide) (by omega) hL dL_law_935 dL_law_936 dL_law_937 dL_law_938 dL_law_939 ?_
  refine L_callM (pc := 940) (st := [Sum.inl x]) C0 [xs (i + 1), xs (i + 2), xs (i + 3), xs (i + 4)] mlL_102 rfl (Nat.le_of_ble_eq_true rfl) dL_law_940 h2 ?_
  exact L_eq (pc := 943) C0 1482 dL_law_943 (by decide) (nx _ _ h3)
theorem law_20 (C0 : lw_At p s m meth c b L xs) (hL : L ≤ 3072) (hi : i + 6 ≤ L) (hn : n ≤ 512) (hS : Sim n μC μM) (nx : ∀ μC' μM', Sim (n + 1) μC' μM' → LW p l e s m below meth c b i 1482 [] μC' μM') : LW p l e s m below meth c b i 948 [] μC μM := by
  obtain ⟨x, μC', μM', h1, h2, h3⟩ : ∃ x μC' μM', X9_then 40 (xs (i + 1)) (xs (i + 2)) (xs (i + 3)) μC x μC' ∧ X10_then 40 (xs (i + 1)) (xs (i + 2)) (xs (i + 3)) μM x μM' ∧ Sim (n + 1) μC' μM' := call_then hn μC μM hS
  refine L_al1 (pc := 948) C0 dL_law_948 ?_
  refine L_arg (pc := 949) C0 1 (by decide) (by omega) hL dL_law_949 dL_law_950 dL_law_951 dL_law_952 dL_law_953 ?_
  refine L_arg (pc := 954) C0 2 (by decide) (by omega) hL dL_law_954 dL_law_955 dL_law_956 dL_law_957 dL_law_958 ?_
  refine L_arg (pc := 959) C0 3 (by decide) (by omega) hL dL_law_959 dL_law_960 dL_law_961 dL_law_962 dL_law_963 ?_
  refine L_callC (pc := 964) (st := []) C0 [xs (i + 1), xs (i + 2), xs (i + 3)] mlL_103 rfl (Nat.le_of_ble_eq_true rfl) dL_law_964 h1 ?_
  refine L_al2 (pc := 967) C0 dL_law_967 ?_
  refine L_arg (pc := 968) C0 1 (by decide) (by omega) hL dL_law_968 dL_law_969 dL_law_970 dL_law_971 dL_law_972 ?_
  refine L_arg (pc := 973) C0 2 (by decide) (by omega) hL dL_law_973 dL_law_974 dL_law_975 dL_law_976 dL_law_977 ?_
  refine L_arg (pc := 978) C0 3 (by decide) (by omega) hL dL_law_978 dL_law_979 dL_law_980 dL_law_981 dL_law_982 ?_
  refine L_callM (pc := 983) (st := [Sum.inl x]) C0 [xs (i + 1), xs (i + 2), xs (i + 3)] mlL_106 rfl (Nat.le_of_ble_eq_true rfl) dL_law_983 h2 ?_
  exact L_eq (pc := 986) C0 1482 dL_law_986 (by decide) (nx _ _ h3)
theorem law_21 (C0 : lw_At p s m meth c b L xs) (hL : L ≤ 3072) (hi : i + 6 ≤ L) (hn : n ≤ 512) (hS : Sim n μC μM) (nx : ∀ μC' μM', Sim (n + 1) μC' μM' → LW p l e s m below meth c b i 1482 [] μC' μM') : LW p l e s m below meth c b i 991 [] μC μM := by
  obtain ⟨x, μC', μM', h1, h2, h3⟩ : ∃ x μC' μM', X9_all 40 (xs (i + 1)) (xs (i + 2)) μC x μC' ∧ X10_all 40 (xs (i + 1)) (xs (i + 2)) μM x μM' ∧ Sim (n + 1) μC' μM' := call_all hn μC μM hS
  refine L_al1 (pc := 991) C0 dL_law_991 ?_
  refine L_arg (pc := 992) C0 1 (by decide) (by omega) hL dL_law_992 dL_law_993 dL_law_994 dL_law_995 dL_law_996 ?_
  refine L_arg (pc := 997) C0 2 (by decide) (by omega) hL dL_law_997 dL_law_998 dL_law_999 dL_law_1000 dL_law_1001 ?_
  refine L_callC (pc := 1002) (st := []) C0 [xs (i + 1), xs (i + 2)] mlL_107 rfl (Nat.le_of_ble_eq_true rfl) dL_law_1002 h1 ?_
  refine L_al2 (pc := 1005) C0 dL_law_1005 ?_
  refine L_arg (pc := 1006) C0 1 (by decide) (by omega) hL dL_law_1006 dL_law_1007 dL_law_1008 dL_law_1009 dL_law_1010 ?_
  refine L_arg (pc := 1011) C0 2 (by decide) (by omega) hL dL_law_1011 dL_law_1012 dL_law_1013 dL_law_1014 dL_law_1015 ?_
  refine L_callM (pc := 1016) (st := [Sum.inl x]) C0 [xs (i + 1), xs (i + 2)] mlL_110 rfl (Nat.le_of_ble_eq_true rfl) dL_law_1016 h2 ?_
  exact L_eq (pc := 1019) C0 1482 dL_law_1019 (by decide) (nx _ _ h3)
theorem law_22 (C0 : lw_At p s m meth c b L xs) (hL : L ≤ 3072) (hi : i + 6 ≤ L) (hn : n ≤ 512) (hS : Sim n μC μM) (nx : ∀ μC' μM', Sim (n + 1) μC' μM' → LW p l e s m below meth c b i 1482 [] μC' μM') : LW p l e s m below meth c b i 1024 [] μC μM := by
  obtain ⟨x, μC', μM', h1, h2, h3⟩ : ∃ x μC' μM', X9_wettest 40 (xs (i + 1)) (xs (i + 2)) μC x μC' ∧ X10_wettest 40 (xs (i + 1)) (xs (i + 2)) μM x μM' ∧ Sim (n + 1) μC' μM' := call_wettest hn μC μM hS
  refine L_al1 (pc := 1024) C0 dL_law_1024 ?_
  refine L_arg (pc := 1025) C0 1 (by decide) (by omega) hL dL_law_1025 dL_law_1026 dL_law_1027 dL_law_1028 dL_law_1029 ?_
  refine L_arg (pc := 1030) C0 2 (by decide) (by omega) hL dL_law_1030 dL_law_1031 dL_law_1032 dL_law_1033 dL_law_1034 ?_
  refine L_callC (pc := 1035) (st := []) C0 [xs (i + 1), xs (i + 2)] mlL_111 rfl (Nat.le_of_ble_eq_true rfl) dL_law_1035 h1 ?_
  refine L_al2 (pc := 1038) C0 dL_law_1038 ?_
  refine L_arg (pc := 1039) C0 1 (by decide) (by omega) hL dL_law_1039 dL_law_1040 dL_law_1041 dL_law_1042 dL_law_1043 ?_
  refine L_arg (pc := 1044) C0 2 (by decide) (by omega) hL dL_law_1044 dL_law_1045 dL_law_1046 dL_law_1047 dL_law_1048 ?_
  refine L_callM (pc := 1049) (st := [Sum.inl x]) C0 [xs (i + 1), xs (i + 2)] mlL_114 rfl (Nat.le_of_ble_eq_true rfl) dL_law_1049 h2 ?_
  exact L_eq (pc := 1052) C0 1482 dL_law_1052 (by decide) (nx _ _ h3)
theorem law_23 (C0 : lw_At p s m meth c b L xs) (hL : L ≤ 3072) (hi : i + 6 ≤ L) (hn : n ≤ 512) (hS : Sim n μC μM) (nx : ∀ μC' μM', Sim (n + 1) μC' μM' → LW p l e s m below meth c b i 1482 [] μC' μM') : LW p l e s m below meth c b i 1057 [] μC μM := by
  obtain ⟨x, μC', μM', h1, h2, h3⟩ : ∃ x μC' μM', X9_dry 40 (xs (i + 1)) μC x μC' ∧ X10_dry 40 (xs (i + 1)) μM x μM' ∧ Sim (n + 1) μC' μM' := call_dry hn μC μM hS
  refine L_al1 (pc := 1057) C0 dL_law_1057 ?_
  refine L_arg (pc := 1058) C0 1 (by decide) (by omega) hL dL_law_1058 dL_law_1059 dL_law_1060 dL_law_1061 dL_law_1062 ?_
  refine L_callC (pc := 1063) (st := []) C0 [xs (i + 1)] mlL_115 rfl (Nat.le_of_ble_eq_true rfl) dL_law_1063 h1 ?_
  refine L_al2 (pc := 1066) C0 dL_law_1066 ?_
  refine L_arg (pc := 1067) C0 1 (by decide) (by omega) hL dL_law_1067 dL_law_1068 dL_law_1069 dL_law_1070 dL_law_1071 ?_
  refine L_callM (pc := 1072) (st := [Sum.inl x]) C0 [xs (i + 1)] mlL_118 rfl (Nat.le_of_ble_eq_true rfl) dL_law_1072 h2 ?_
  exact L_eq (pc := 1075) C0 1482 dL_law_1075 (by decide) (nx _ _ h3)
theorem law_24 (C0 : lw_At p s m meth c b L xs) (hL : L ≤ 3072) (hi : i + 6 ≤ L) (hn : n ≤ 512) (hS : Sim n μC μM) (nx : ∀ μC' μM', Sim (n + 1) μC' μM' → LW p l e s m below meth c b i 1482 [] μC' μM') : LW p l e s m below meth c b i 1080 [] μC μM := by
  obtain ⟨x, μC', μM', h1, h2, h3⟩ : ∃ x μC' μM', X9_emptyBy 40 μC x μC' ∧ X10_emptyBy 40 μM x μM' ∧ Sim (n + 1) μC' μM' := call_emptyBy hn μC μM hS
  refine L_al1 (pc := 1080) C0 dL_law_1080 ?_
  refine L_callC (pc := 1081) (st := []) C0 [] mlL_119 rfl (Nat.le_of_ble_eq_true rfl) dL_law_1081 h1 ?_
  refine L_al2 (pc := 1084) C0 dL_law_1084 ?_
  refine L_callM (pc := 1085) (st := [Sum.inl x]) C0 [] mlL_122 rfl (Nat.le_of_ble_eq_true rfl) dL_law_1085 h2 ?_
  exact L_eq (pc := 1088) C0 1482 dL_law_1088 (by decide) (nx _ _ h3)
theorem law_25 (C0 : lw_At p s m meth c b L xs) (hL : L ≤ 3072) (hi : i + 6 ≤ L) (hn : n ≤ 512) (hS : Sim n μC μM) (nx : ∀ μC' μM', Sim (n + 1) μC' μM' → LW p l e s m below meth c b i 1482 [] μC' μM') : LW p l e s m below meth c b i 1093 [] μC μM := by
  obtain ⟨x, μC', μM', h1, h2, h3⟩ : ∃ x μC' μM', X9_serve 40 (xs (i + 1)) (xs (i + 2)) (xs (i + 3)) μC x μC' ∧ X10_serve 40 (xs (i + 1)) (xs (i + 2)) (xs (i + 3)) μM x μM' ∧ Sim (n + 1) μC' μM' := call_serve hn μC μM hS
  refine L_al1 (pc := 1093) C0 dL_law_1093 ?_
  refine L_arg (pc := 1094) C0 1 (by decide) (by omega) hL dL_law_1094 dL_law_1095 dL_law_1096 dL_law_1097 dL_law_1098 ?_
  refine L_arg (pc := 1099) C0 2 (by decide) (by omega) hL dL_law_1099 dL_law_1100 dL_law_1101 dL_law_1102 dL_law_1103 ?_
  refine L_arg (pc := 1104) C0 3 (by decide) (by omega) hL dL_law_1104 dL_law_1105 dL_law_1106 dL_law_1107 dL_law_1108 ?_
  refine L_callC (pc := 1109) (st := []) C0 [xs (i + 1), xs (i + 2), xs (i + 3)] mlL_123 rfl (Nat.le_of_ble_eq_true rfl) dL_law_1109 h1 ?_
  refine L_al2 (pc := 1112) C0 dL_law_1112 ?_
  refine L_arg (pc := 1113) C0 1 (by decide) (by omega) hL dL_law_1113 dL_law_1114 dL_law_1115 dL_law_1116 dL_law_1117 ?_
  refine L_arg (pc := 1118) C0 2 (by decide) (by omega) hL dL_law_1118 dL_law_1119 dL_law_1120 dL_law_1121 dL_law_1122 ?_
  refine L_arg (pc := 1123) C0 3 (by decide) (by omega) hL dL_law_1123 dL_law_1124 dL_law_1125 dL_law_1126 dL_law_1127 ?_
  refine L_callM (pc := 1128) (st := [Sum.inl x]) C0 [xs (i + 1), xs (i + 2), xs (i + 3)] mlL_126 rfl (Nat.le_of_ble_eq_true rfl) dL_law_1128 h2 ?_
  exact L_eq (pc := 1131) C0 1482 dL_law_1131 (by decide) (nx _ _ h3)
theorem law_26 (C0 : lw_At p s m meth c b L xs) (hL : L ≤ 3072) (hi : i + 6 ≤ L) (hn : n ≤ 512) (hS : Sim n μC μM) (nx : ∀ μC' μM', Sim (n + 1) μC' μM' → LW p l e s m below meth c b i 1482 [] μC' μM') : LW p l e s m below meth c b i 1136 [] μC μM := by
  obtain ⟨x, μC', μM', h1, h2, h3⟩ : ∃ x μC' μM', X9_suits 40 (xs (i + 1)) (xs (i + 2)) (xs (i + 3)) μC x μC' ∧ X10_suits 40 (xs (i + 1)) (xs (i + 2)) (xs (i + 3)) μM x μM' ∧ Sim (n + 1) μC' μM' := call_suits hn μC μM hS
  refine L_al1 (pc := 1136) C0 dL_law_1136 ?_
  refine L_arg (pc := 1137) C0 1 (by decide) (by omega) hL dL_law_1137 dL_law_1138 dL_law_1139 dL_law_1140 dL_law_1141 ?_
  refine L_arg (pc := 1142) C0 2 (by decide) (by omega) hL dL_law_1142 dL_law_1143 dL_law_1144 dL_law_1145 dL_law_1146 ?_
  refine L_arg (pc := 1147) C0 3 (by decide) (by omega) hL dL_law_1147 dL_law_1148 dL_law_1149 dL_law_1150 dL_law_1151 ?_
  refine L_callC (pc := 1152) (st := []) C0 [xs (i + 1), xs (i + 2), xs (i + 3)] mlL_127 rfl (Nat.le_of_ble_eq_true rfl) dL_law_1152 h1 ?_
  refine L_al2 (pc := 1155) C0 dL_law_1155 ?_
  refine L_arg (pc := 1156) C0 1 (by decide) (by omega) hL dL_law_1156 dL_law_1157 dL_law_1158 dL_law_1159 dL_law_1160 ?_
  refine L_arg (pc := 1161) C0 2 (by decide) (by omega) hL dL_law_1161 dL_law_1162 dL_law_1163 dL_law_1164 dL_law_1165 ?_
  refine L_arg (pc := 1166) C0 3 (by decide) (by omega) hL dL_law_1166 dL_law_1167 dL_law_1168 dL_law_1169 dL_law_1170 ?_
  refine L_callM (pc := 1171) (st := [Sum.inl x]) C0 [xs (i + 1), xs (i + 2), xs (i + 3)] mlL_130 rfl (Nat.le_of_ble_eq_true rfl) dL_law_1171 h2 ?_
  exact L_eq (pc := 1174) C0 1482 dL_law_1174 (by decide) (nx _ _ h3)
theorem law_27 (C0 : lw_At p s m meth c b L xs) (hL : L ≤ 3072) (hi : i + 6 ≤ L) (hn : n ≤ 512) (hS : Sim n μC μM) (nx : ∀ μC' μM', Sim (n + 1) μC' μM' → LW p l e s m below meth c b i 1482 [] μC' μM') : LW p l e s m below meth c b i 1179 [] μC μM := by
  obtain ⟨x, μC', μM', h1, h2, h3⟩ : ∃ x μC' μM', X9_now 40 (xs (i + 1)) ((if xs (i + 2) = 0 then 0 else 1)) μC x μC' ∧ X10_now 40 (xs (i + 1)) ((if xs (i + 2) = 0 then 0 else 1)) μM x μM' ∧ Sim (n + 1) μC' μM' := call_now hn μC μM hS
  refine L_al1 (pc := 1179) C0 dL_law_1179 ?_
  refine L_arg (pc := 1180) C0 1 (by decide) (by omega) hL dL_law_1180 dL_law_1181 dL_law_1182 dL_law_1183 dL_law_1184 ?_
  refine L_arg (pc := 1185) C0 2 (by decide) (by omega) hL dL_law_1185 dL_law_1186 dL_law_1187 dL_law_1188 dL_law_1189 ?_
  refine L_bool (pc := 1190) C0 dL_law_1190 (by decide) dL_law_1193 dL_law_1194 (by decide) dL_law_1197 ?_
  refine L_callC (pc := 1198) (st := []) C0 [xs (i + 1), (if xs (i + 2) = 0 then 0 else 1)] mlL_131 rfl (Nat.le_of_ble_eq_true rfl) dL_law_1198 h1 ?_
  refine L_al2 (pc := 1201) C0 dL_law_1201 ?_
  refine L_arg (pc := 1202) C0 1 (by decide) (by omega) hL dL_law_1202 dL_law_1203 dL_law_1204 dL_law_1205 dL_law_1206 ?_
  refine L_arg (pc := 1207) C0 2 (by decide) (by omega) hL dL_law_1207 dL_law_1208 dL_law_1209 dL_law_1210 dL_law_1211 ?_
  refine L_bool (pc := 1212) C0 dL_law_1212 (by decide) dL_law_1215 dL_law_1216 (by decide) dL_law_1219 ?_
  refine L_callM (pc := 1220) (st := [Sum.inl x]) C0 [xs (i + 1), (if xs (i + 2) = 0 then 0 else 1)] mlL_135 rfl (Nat.le_of_ble_eq_true rfl) dL_law_1220 h2 ?_
  exact L_eq (pc := 1223) C0 1482 dL_law_1223 (by decide) (nx _ _ h3)
theorem law_28 (C0 : lw_At p s m meth c b L xs) (hL : L ≤ 3072) (hi : i + 6 ≤ L) (hn : n ≤ 512) (hS : Sim n μC μM) (nx : ∀ μC' μM', Sim (n + 1) μC' μM' → LW p l e s m below meth c b i 1482 [] μC' μM') : LW p l e s m below meth c b i 1228 [] μC μM := by
  obtain ⟨x, μC', μM', h1, h2, h3⟩ : ∃ x μC' μM', X9_year 40 (xs (i + 1)) (xs (i + 2)) μC x μC' ∧ X10_year 40 (xs (i + 1)) (xs (i + 2)) μM x μM' ∧ Sim (n + 1) μC' μM' := call_year hn μC μM hS
  refine L_al1 (pc := 1228) C0 dL_law_1228 ?_
  refine L_arg (pc := 1229) C0 1 (by decide) (by omega) hL dL_law_1229 dL_law_1230 dL_law_1231 dL_law_1232 dL_law_1233 ?_
  refine L_arg (pc := 1234) C0 2 (by decide) (by omega) hL dL_law_1234 dL_law_1235 dL_law_1236 dL_law_1237 dL_law_1238 ?_
  refine L_callC (pc := 1239) (st := []) C0 [xs (i + 1), xs (i + 2)] mlL_136 rfl (Nat.le_of_ble_eq_true rfl) dL_law_1239 h1 ?_
  refine L_al2 (pc := 1242) C0 dL_law_1242 ?_
  refine L_arg (pc := 1243) C0 1 (by decide) (by omega) hL dL_law_1243 dL_law_1244 dL_law_1245 dL_law_1246 dL_law_1247 ?_
  refine L_arg (pc := 1248) C0 2 (by decide) (by omega) hL dL_law_1248 dL_law_1249 dL_law_1250 dL_law_1251 dL_law_1252 ?_
  refine L_callM (pc := 1253) (st := [Sum.inl x]) C0 [xs (i + 1), xs (i + 2)] mlL_139 rfl (Nat.le_of_ble_eq_true rfl) dL_law_1253 h2 ?_
  exact L_eq (pc := 1256) C0 1482 dL_law_1256 (by decide) (nx _ _ h3)
theorem law_29 (C0 : lw_At p s m meth c b L xs) (hL : L ≤ 3072) (hi : i + 6 ≤ L) (hn : n ≤ 512) (hS : Sim n μC μM) (nx : ∀ μC' μM', Sim (n + 1) μC' μM' → LW p l e s m below meth c b i 1482 [] μC' μM') : LW p l e s m below meth c b i 1261 [] μC μM := by
  obtain ⟨x, μC', μM', h1, h2, h3⟩ : ∃ x μC' μM', X9_tell 40 (xs (i + 1)) (xs (i + 2)) (xs (i + 3)) μC x μC' ∧ X10_tell 40 (xs (i + 1)) (xs (i + 2)) (xs (i + 3)) μM x μM' ∧ Sim (n + 1) μC' μM' := call_tell hn μC μM hS
  refine L_al1 (pc := 1261) C0 dL_law_1261 ?_
  refine L_arg (pc := 1262) C0 1 (by decide) (by omega) hL dL_law_1262 dL_law_1263 dL_law_1264 dL_law_1265 dL_law_1266 ?_
  refine L_arg (pc := 1267) C0 2 (by decide) (by omega) hL dL_law_1267 dL_law_1268 dL_law_1269 dL_law_1270 dL_law_1271 ?_
  refine L_arg (pc := 1272) C0 3 (by decide) (by omega) hL dL_law_1272 dL_law_1273 dL_law_1274 dL_law_1275 dL_law_1276 ?_
  refine L_callC (pc := 1277) (st := []) C0 [xs (i + 1), xs (i + 2), xs (i + 3)] mlL_140 rfl (Nat.le_of_ble_eq_true rfl) dL_law_1277 h1 ?_
  refine L_al2 (pc := 1280) C0 dL_law_1280 ?_
  refine L_arg (pc := 1281) C0 1 (by decide) (by omega) hL dL_law_1281 dL_law_1282 dL_law_1283 dL_law_1284 dL_law_1285 ?_
  refine L_arg (pc := 1286) C0 2 (by decide) (by omega) hL dL_law_1286 dL_law_1287 dL_law_1288 dL_law_1289 dL_law_1290 ?_
  refine L_arg (pc := 1291) C0 3 (by decide) (by omega) hL dL_law_1291 dL_law_1292 dL_law_1293 dL_law_1294 dL_law_1295 ?_
  refine L_callM (pc := 1296) (st := [Sum.inl x]) C0 [xs (i + 1), xs (i + 2), xs (i + 3)] mlL_143 rfl (Nat.le_of_ble_eq_true rfl) dL_law_1296 h2 ?_
  exact L_eq (pc := 1299) C0 1482 dL_law_1299 (by decide) (nx _ _ h3)
theorem law_30 (C0 : lw_At p s m meth c b L xs) (hL : L ≤ 3072) (hi : i + 6 ≤ L) (hn : n ≤ 512) (hS : Sim n μC μM) (nx : ∀ μC' μM', Sim (n + 1) μC' μM' → LW p l e s m below meth c b i 1482 [] μC' μM') : LW p l e s m below meth c b i 1304 [] μC μM := by
  obtain ⟨x, μC', μM', h1, h2, h3⟩ : ∃ x μC' μM', X9_forget 40 μC x μC' ∧ X10_forget 40 μM x μM' ∧ Sim (n + 1) μC' μM' := call_forget hn μC μM hS
  refine L_al1 (pc := 1304) C0 dL_law_1304 ?_
  refine L_callC (pc := 1305) (st := []) C0 [] mlL_144 rfl (Nat.le_of_ble_eq_true rfl) dL_law_1305 h1 ?_
  refine L_al2 (pc := 1308) C0 dL_law_1308 ?_
  refine L_callM (pc := 1309) (st := [Sum.inl x]) C0 [] mlL_147 rfl (Nat.le_of_ble_eq_true rfl) dL_law_1309 h2 ?_
  exact L_eq (pc := 1312) C0 1482 dL_law_1312 (by decide) (nx _ _ h3)
theorem law_31 (C0 : lw_At p s m meth c b L xs) (hL : L ≤ 3072) (hi : i + 6 ≤ L) (hn : n ≤ 512) (hS : Sim n μC μM) (nx : ∀ μC' μM', Sim (n + 1) μC' μM' → LW p l e s m below meth c b i 1482 [] μC' μM') : LW p l e s m below meth c b i 1317 [] μC μM := by
  obtain ⟨x, μC', μM', h1, h2, h3⟩ : ∃ x μC' μM', X9_fell 40 (xs (i + 1)) (xs (i + 2)) (xs (i + 3)) (xs (i + 4)) μC x μC' ∧ X10_fell 40 (xs (i + 1)) (xs (i + 2)) (xs (i + 3)) (xs (i + 4)) μM x μM' ∧ Sim (n + 1) μC' μM' := call_fell hn μC μM hS
  refine L_al1 (pc := 1317) C0 dL_law_1317 ?_
  refine L_arg (pc := 1318) C0 1 (by decide) (by omega) hL dL_law_1318 dL_law_1319 dL_law_1320 dL_law_1321 dL_law_1322 ?_
  refine L_arg (pc := 1323) C0 2 (by decide) (by omega) hL dL_law_1323 dL_law_1324 dL_law_1325 dL_law_1326 dL_law_1327 ?_
  refine L_arg (pc := 1328) C0 3 (by decide) (by omega) hL dL_law_1328 dL_law_1329 dL_law_1330 dL_law_1331 dL_law_1332 ?_
  refine L_arg (pc := 1333) C0 4 (by decide) (by omega) hL dL_law_1333 dL_law_1334 dL_law_1335 dL_law_1336 dL_law_1337 ?_
  refine L_callC (pc := 1338) (st := []) C0 [xs (i + 1), xs (i + 2), xs (i + 3), xs (i + 4)] mlL_148 rfl (Nat.le_of_ble_eq_true rfl) dL_law_1338 h1 ?_
  refine L_al2 (pc := 1341) C0 dL_law_1341 ?_
  refine L_arg (pc := 1342) C0 1 (by decide) (by omega) hL dL_law_1342 dL_law_1343 dL_law_1344 dL_law_1345 dL_law_1346 ?_
  refine L_arg (pc := 1347) C0 2 (by decide) (by omega) hL dL_law_1347 dL_law_1348 dL_law_1349 dL_law_1350 dL_law_1351 ?_
  refine L_arg (pc := 1352) C0 3 (by decide) (by omega) hL dL_law_1352 dL_law_1353 dL_law_1354 dL_law_1355 dL_law_1356 ?_
  refine L_arg (pc := 1357) C0 4 (by decide) (by omega) hL dL_law_1357 dL_law_1358 dL_law_1359 dL_law_1360 dL_law_1361 ?_
  refine L_callM (pc := 1362) (st := [Sum.inl x]) C0 [xs (i + 1), xs (i + 2), xs (i + 3), xs (i + 4)] mlL_151 rfl (Nat.le_of_ble_eq_true rfl) dL_law_1362 h2 ?_
  exact L_eq (pc := 1365) C0 1482 dL_law_1365 (by decide) (nx _ _ h3)
theorem law_32 (C0 : lw_At p s m meth c b L xs) (hL : L ≤ 3072) (hi : i + 6 ≤ L) (hn : n ≤ 512) (hS : Sim n μC μM) (nx : ∀ μC' μM', Sim (n + 1) μC' μM' → LW p l e s m below meth c b i 1482 [] μC' μM') : LW p l e s m below meth c b i 1370 [] μC μM := by
  obtain ⟨x, μC', μM', h1, h2, h3⟩ : ∃ x μC' μM', X9_look 40 (xs (i + 1)) (xs (i + 2)) (xs (i + 3)) μC x μC' ∧ X10_look 40 (xs (i + 1)) (xs (i + 2)) (xs (i + 3)) μM x μM' ∧ Sim (n + 1) μC' μM' := call_look hn μC μM hS
  refine L_al1 (pc := 1370) C0 dL_law_1370 ?_
  refine L_arg (pc := 1371) C0 1 (by decide) (by omega) hL dL_law_1371 dL_law_1372 dL_law_1373 dL_law_1374 dL_law_1375 ?_
  refine L_arg (pc := 1376) C0 2 (by decide) (by omega) hL dL_law_1376 dL_law_1377 dL_law_1378 dL_law_1379 dL_law_1380 ?_
  refine L_arg (pc := 1381) C0 3 (by decide) (by omega) hL dL_law_1381 dL_law_1382 dL_law_1383 dL_law_1384 dL_law_1385 ?_
  refine L_callC (pc := 1386) (st := []) C0 [xs (i + 1), xs (i + 2), xs (i + 3)] mlL_152 rfl (Nat.le_of_ble_eq_true rfl) dL_law_1386 h1 ?_
  refine L_al2 (pc := 1389) C0 dL_law_1389 ?_
  refine L_arg (pc := 1390) C0 1 (by decide) (by omega) hL dL_law_1390 dL_law_1391 dL_law_1392 dL_law_1393 dL_law_1394 ?_
  refine L_arg (pc := 1395) C0 2 (by decide) (by omega) hL dL_law_1395 dL_law_1396 dL_law_1397 dL_law_1398 dL_law_1399 ?_
  refine L_arg (pc := 1400) C0 3 (by decide) (by omega) hL dL_law_1400 dL_law_1401 dL_law_1402 dL_law_1403 dL_law_1404 ?_
  refine L_callM (pc := 1405) (st := [Sum.inl x]) C0 [xs (i + 1), xs (i + 2), xs (i + 3)] mlL_155 rfl (Nat.le_of_ble_eq_true rfl) dL_law_1405 h2 ?_
  exact L_eq (pc := 1408) C0 1482 dL_law_1408 (by decide) (nx _ _ h3)
theorem law_33 (C0 : lw_At p s m meth c b L xs) (hL : L ≤ 3072) (hi : i + 6 ≤ L) (hn : n ≤ 512) (hS : Sim n μC μM) (nx : ∀ μC' μM', Sim (n + 1) μC' μM' → LW p l e s m below meth c b i 1482 [] μC' μM') : LW p l e s m below meth c b i 1413 [] μC μM := by
  obtain ⟨x, μC', μM', h1, h2, h3⟩ : ∃ x μC' μM', X9_hold 40 (xs (i + 1)) μC x μC' ∧ X10_hold 40 (xs (i + 1)) μM x μM' ∧ Sim (n + 1) μC' μM' := call_hold hn μC μM hS
  refine L_al1 (pc := 1413) C0 dL_law_1413 ?_
  refine L_arg (pc := 1414) C0 1 (by decide) (by omega) hL dL_law_1414 dL_law_1415 dL_law_1416 dL_law_1417 dL_law_1418 ?_
  refine L_callC (pc := 1419) (st := []) C0 [xs (i + 1)] mlL_156 rfl (Nat.le_of_ble_eq_true rfl) dL_law_1419 h1 ?_
  refine L_al2 (pc := 1422) C0 dL_law_1422 ?_
  refine L_arg (pc := 1423) C0 1 (by decide) (by omega) hL dL_law_1423 dL_law_1424 dL_law_1425 dL_law_1426 dL_law_1427 ?_
  refine L_callM (pc := 1428) (st := [Sum.inl x]) C0 [xs (i + 1)] mlL_159 rfl (Nat.le_of_ble_eq_true rfl) dL_law_1428 h2 ?_
  exact L_eq (pc := 1431) C0 1482 dL_law_1431 (by decide) (nx _ _ h3)
theorem law_34 (C0 : lw_At p s m meth c b L xs) (hL : L ≤ 3072) (hi : i + 6 ≤ L) (hn : n ≤ 512) (hS : Sim n μC μM) (nx : ∀ μC' μM', Sim (n + 1) μC' μM' → LW p l e s m below meth c b i 1482 [] μC' μM') : LW p l e s m below meth c b i 1436 [] μC μM := by
  obtain ⟨x, μC', μM', h1, h2, h3⟩ : ∃ x μC' μM', X9_restore 40 (xs (i + 1)) μC x μC' ∧ X10_restore 40 (xs (i + 1)) μM x μM' ∧ Sim (n + 1) μC' μM' := call_restore hn μC μM hS
  refine L_al1 (pc := 1436) C0 dL_law_1436 ?_
  refine L_arg (pc := 1437) C0 1 (by decide) (by omega) hL dL_law_1437 dL_law_1438 dL_law_1439 dL_law_1440 dL_law_1441 ?_
  refine L_callC (pc := 1442) (st := []) C0 [xs (i + 1)] mlL_160 rfl (Nat.le_of_ble_eq_true rfl) dL_law_1442 h1 ?_
  refine L_al2 (pc := 1445) C0 dL_law_1445 ?_
  refine L_arg (pc := 1446) C0 1 (by decide) (by omega) hL dL_law_1446 dL_law_1447 dL_law_1448 dL_law_1449 dL_law_1450 ?_
  refine L_callM (pc := 1451) (st := [Sum.inl x]) C0 [xs (i + 1)] mlL_163 rfl (Nat.le_of_ble_eq_true rfl) dL_law_1451 h2 ?_
  exact L_eq (pc := 1454) C0 1482 dL_law_1454 (by decide) (nx _ _ h3)
theorem law_35 (C0 : lw_At p s m meth c b L xs) (hL : L ≤ 3072) (hi : i + 6 ≤ L) (hn : n ≤ 512) (hS : Sim n μC μM) (nx : ∀ μC' μM', Sim (n + 1) μC' μM' → LW p l e s m below meth c b i 1482 [] μC' μM') : LW p l e s m below meth c b i 1459 [] μC μM := by
  obtain ⟨x, μC', μM', h1, h2, h3⟩ : ∃ x μC' μM', X9_count 40 (xs (i + 1)) μC x μC' ∧ X10_count 40 (xs (i + 1)) μM x μM' ∧ Sim (n + 1) μC' μM' := call_count hn μC μM hS
  refine L_al1 (pc := 1459) C0 dL_law_1459 ?_
  refine L_arg (pc := 1460) C0 1 (by decide) (by omega) hL dL_law_1460 dL_law_1461 dL_law_1462 dL_law_1463 dL_law_1464 ?_
  refine L_callC (pc := 1465) (st := []) C0 [xs (i + 1)] mlL_164 rfl (Nat.le_of_ble_eq_true rfl) dL_law_1465 h1 ?_
  refine L_al2 (pc := 1468) C0 dL_law_1468 ?_
  refine L_arg (pc := 1469) C0 1 (by decide) (by omega) hL dL_law_1469 dL_law_1470 dL_law_1471 dL_law_1472 dL_law_1473 ?_
  refine L_callM (pc := 1474) (st := [Sum.inl x]) C0 [xs (i + 1)] mlL_167 rfl (Nat.le_of_ble_eq_true rfl) dL_law_1474 h2 ?_
  exact L_eq (pc := 1477) C0 1482 dL_law_1477 (by decide) (nx _ _ h3)
end Law
