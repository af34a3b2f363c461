set_option maxRecDepth 100000 in
set_option maxHeartbeats 4000000 in
theorem lc_0 {L i : Nat} {xs : Nat → Int32} {h : zw_H} {A : zA} (hi : i + 5 ≤ L) (hL : L ≤ 2560) (CW1 : CW h A) (RW0 : RW h A) (go : ∀ (h' : zw_H) (A' : zA), CW h' A' → RW h' A' → zj L xs 1902 [] h' i) : zj L xs 248 [] h i := by
  refine zw_aload_n 2 dL_law_248 rfl rfl rfl ?_
  refine zl_arg 1 dL_law_249 dL_law_250 dL_law_251 dL_law_252 dL_law_253 rfl rfl rfl rfl rfl (by decide) (by decide) hi hL ?_
  refine zw_callV (n := 1) (As := [.int (xs (i + 1))]) (rest := []) (m7_setSize CW1) my_X7_setSize rfl rfl k_L_13 i_X7_setSize s_X7_setSize zs_0 rfl dL_law_254 (by decide) (Nat.le_of_ble_eq_true rfl) (Nat.le_refl _) (Nat.le_refl _) rfl (fun r s1 h1 hq => ?_)
  obtain ⟨x1, rfl, rfl, hq⟩ := hq
  obtain ⟨e1, CW2, F1⟩ := hq
  have RW1 := RW0.frC F1
  refine zw.st (st' := [.int x1]) rfl ?_
  refine zw_aload_n 1 dL_law_257 rfl rfl rfl ?_
  refine zl_arg 1 dL_law_258 dL_law_259 dL_law_260 dL_law_261 dL_law_262 rfl rfl rfl rfl rfl (by decide) (by decide) hi hL ?_
  refine zw_callV (n := 1) (As := [.int (xs (i + 1))]) (rest := [.int x1]) (m_setSize RW1) my_X8_setSize rfl rfl k_L_17 i_X8_setSize s_X8_setSize zs_56 rfl dL_law_263 (by decide) (Nat.le_of_ble_eq_true rfl) (Nat.le_refl _) (Nat.le_refl _) rfl (fun r s2 h2 hq => ?_)
  obtain ⟨x2, rfl, rfl, hq⟩ := hq
  obtain ⟨e2, RW2, F2⟩ := hq
  have CW3 := CW2.frR F2
  refine zw.st (st' := [.int x2, .int x1]) rfl ?_
  exact zw_icmp_eq (tg := 1902) dL_law_266 (by decide) rfl (fun _ => go _ _ CW3 RW2) (fun c => absurd (e1.trans e2.symm) c)
set_option maxRecDepth 100000 in
set_option maxHeartbeats 4000000 in
theorem lc_1 {L i : Nat} {xs : Nat → Int32} {h : zw_H} {A : zA} (hi : i + 5 ≤ L) (hL : L ≤ 2560) (CW1 : CW h A) (RW0 : RW h A) (go : ∀ (h' : zw_H) (A' : zA), CW h' A' → RW h' A' → zj L xs 1902 [] h' i) : zj L xs 271 [] h i := by
  refine zw_aload_n 2 dL_law_271 rfl rfl rfl ?_
  refine zl_arg 1 dL_law_272 dL_law_273 dL_law_274 dL_law_275 dL_law_276 rfl rfl rfl rfl rfl (by decide) (by decide) hi hL ?_
  refine zl_arg 2 dL_law_277 dL_law_278 dL_law_279 dL_law_280 dL_law_281 rfl rfl rfl rfl rfl (by decide) (by decide) hi hL ?_
  refine zl_bool dL_law_282 dL_law_285 dL_law_286 dL_law_289 rfl rfl rfl rfl ?_
  refine zw_callV (n := 2) (As := [.int (xs (i + 1)), .int (bz (xs (i + 2)))]) (rest := []) (m7_allowSize CW1 (bz_o _)) my_X7_allowSize rfl rfl k_L_18 i_X7_allowSize s_X7_allowSize zs_0 rfl dL_law_290 (by decide) (Nat.le_of_ble_eq_true rfl) (Nat.le_refl _) (Nat.le_refl _) rfl (fun r s1 h1 hq => ?_)
  obtain ⟨x1, rfl, rfl, hq⟩ := hq
  obtain ⟨e1, CW2, F1⟩ := hq
  have RW1 := RW0.frC F1
  refine zw.st (st' := [.int x1]) rfl ?_
  refine zw_aload_n 1 dL_law_293 rfl rfl rfl ?_
  refine zl_arg 1 dL_law_294 dL_law_295 dL_law_296 dL_law_297 dL_law_298 rfl rfl rfl rfl rfl (by decide) (by decide) hi hL ?_
  refine zl_arg 2 dL_law_299 dL_law_300 dL_law_301 dL_law_302 dL_law_303 rfl rfl rfl rfl rfl (by decide) (by decide) hi hL ?_
  refine zl_bool dL_law_304 dL_law_307 dL_law_308 dL_law_311 rfl rfl rfl rfl ?_
  refine zw_callV (n := 2) (As := [.int (xs (i + 1)), .int (bz (xs (i + 2)))]) (rest := [.int x1]) (m_allowSize RW1 (bz_o _)) my_X8_allowSize rfl rfl k_L_22 i_X8_allowSize s_X8_allowSize zs_56 rfl dL_law_312 (by decide) (Nat.le_of_ble_eq_true rfl) (Nat.le_refl _) (Nat.le_refl _) rfl (fun r s2 h2 hq => ?_)
  obtain ⟨x2, rfl, rfl, hq⟩ := hq
  obtain ⟨e2, RW2, F2⟩ := hq
  have CW3 := CW2.frR F2
  refine zw.st (st' := [.int x2, .int x1]) rfl ?_
  exact zw_icmp_eq (tg := 1902) dL_law_315 (by decide) rfl (fun _ => go _ _ CW3 RW2) (fun c => absurd (e1.trans e2.symm) c)
set_option maxRecDepth 100000 in
set_option maxHeartbeats 4000000 in
theorem lc_2 {L i : Nat} {xs : Nat → Int32} {h : zw_H} {A : zA} (hi : i + 5 ≤ L) (hL : L ≤ 2560) (CW1 : CW h A) (RW0 : RW h A) (go : ∀ (h' : zw_H) (A' : zA), CW h' A' → RW h' A' → zj L xs 1902 [] h' i) : zj L xs 320 [] h i := by
  refine zw_aload_n 2 dL_law_320 rfl rfl rfl ?_
  refine zl_arg 1 dL_law_321 dL_law_322 dL_law_323 dL_law_324 dL_law_325 rfl rfl rfl rfl rfl (by decide) (by decide) hi hL ?_
  refine zl_arg 2 dL_law_326 dL_law_327 dL_law_328 dL_law_329 dL_law_330 rfl rfl rfl rfl rfl (by decide) (by decide) hi hL ?_
  refine zl_bool dL_law_331 dL_law_334 dL_law_335 dL_law_338 rfl rfl rfl rfl ?_
  refine zw_callV (n := 2) (As := [.int (xs (i + 1)), .int (bz (xs (i + 2)))]) (rest := []) (m7_allowNumber CW1 (bz_o _)) my_X7_allowNumber rfl rfl k_L_23 i_X7_allowNumber s_X7_allowNumber zs_0 rfl dL_law_339 (by decide) (Nat.le_of_ble_eq_true rfl) (Nat.le_refl _) (Nat.le_refl _) rfl (fun r s1 h1 hq => ?_)
  obtain ⟨x1, rfl, rfl, hq⟩ := hq
  obtain ⟨e1, CW2, F1⟩ := hq
  have RW1 := RW0.frC F1
  refine zw.st (st' := [.int x1]) rfl ?_
  refine zw_aload_n 1 dL_law_342 rfl rfl rfl ?_
  refine zl_arg 1 dL_law_343 dL_law_344 dL_law_345 dL_law_346 dL_law_347 rfl rfl rfl rfl rfl (by decide) (by decide) hi hL ?_
  refine zl_arg 2 dL_law_348 dL_law_349 dL_law_350 dL_law_351 dL_law_352 rfl rfl rfl rfl rfl (by decide) (by decide) hi hL ?_
  refine zl_bool dL_law_353 dL_law_356 dL_law_357 dL_law_360 rfl rfl rfl rfl ?_
  refine zw_callV (n := 2) (As := [.int (xs (i + 1)), .int (bz (xs (i + 2)))]) (rest := [.int x1]) (m_allowNumber RW1 (bz_o _)) my_X8_allowNumber rfl rfl k_L_26 i_X8_allowNumber s_X8_allowNumber zs_56 rfl dL_law_361 (by decide) (Nat.le_of_ble_eq_true rfl) (Nat.le_refl _) (Nat.le_refl _) rfl (fun r s2 h2 hq => ?_)
  obtain ⟨x2, rfl, rfl, hq⟩ := hq
  obtain ⟨e2, RW2, F2⟩ := hq
  have CW3 := CW2.frR F2
  refine zw.st (st' := [.int x2, .int x1]) rfl ?_
  exact zw_icmp_eq (tg := 1902) dL_law_364 (by decide) rfl (fun _ => go _ _ CW3 RW2) (fun c => absurd (e1.trans e2.symm) c)
set_option maxRecDepth 100000 in
set_option maxHeartbeats 4000000 in
theorem lc_3 {L i : Nat} {xs : Nat → Int32} {h : zw_H} {A : zA} (hi : i + 5 ≤ L) (hL : L ≤ 2560) (CW1 : CW h A) (RW0 : RW h A) (go : ∀ (h' : zw_H) (A' : zA), CW h' A' → RW h' A' → zj L xs 1902 [] h' i) : zj L xs 369 [] h i := by
  refine zw_aload_n 2 dL_law_369 rfl rfl rfl ?_
  refine zl_arg 1 dL_law_370 dL_law_371 dL_law_372 dL_law_373 dL_law_374 rfl rfl rfl rfl rfl (by decide) (by decide) hi hL ?_
  refine zl_arg 2 dL_law_375 dL_law_376 dL_law_377 dL_law_378 dL_law_379 rfl rfl rfl rfl rfl (by decide) (by decide) hi hL ?_
  refine zl_arg 3 dL_law_380 dL_law_381 dL_law_382 dL_law_383 dL_law_384 rfl rfl rfl rfl rfl (by decide) (by decide) hi hL ?_
  refine zl_bool dL_law_385 dL_law_388 dL_law_389 dL_law_392 rfl rfl rfl rfl ?_
  refine zw_callV (n := 3) (As := [.int (xs (i + 1)), .int (xs (i + 2)), .int (bz (xs (i + 3)))]) (rest := []) (m7_apart CW1 (bz_o _)) my_X7_apart rfl rfl k_L_27 i_X7_apart s_X7_apart zs_0 rfl dL_law_393 (by decide) (Nat.le_of_ble_eq_true rfl) (Nat.le_refl _) (Nat.le_refl _) rfl (fun r s1 h1 hq => ?_)
  obtain ⟨x1, rfl, rfl, hq⟩ := hq
  obtain ⟨e1, CW2, F1⟩ := hq
  have RW1 := RW0.frC F1
  refine zw.st (st' := [.int x1]) rfl ?_
  refine zw_aload_n 1 dL_law_396 rfl rfl rfl ?_
  refine zl_arg 1 dL_law_397 dL_law_398 dL_law_399 dL_law_400 dL_law_401 rfl rfl rfl rfl rfl (by decide) (by decide) hi hL ?_
  refine zl_arg 2 dL_law_402 dL_law_403 dL_law_404 dL_law_405 dL_law_406 rfl rfl rfl rfl rfl (by decide) (by decide) hi hL ?_
  refine zl_arg 3 dL_law_407 dL_law_408 dL_law_409 dL_law_410 dL_law_411 rfl rfl rfl rfl rfl (by decide) (by decide) hi hL ?_
  refine zl_bool dL_law_412 dL_law_415 dL_law_416 dL_law_419 rfl rfl rfl rfl ?_
  refine zw_callV (n := 3) (As := [.int (xs (i + 1)), .int (xs (i + 2)), .int (bz (xs (i + 3)))]) (rest := [.int x1]) (m_apart RW1 (bz_o _)) my_X8_apart rfl rfl k_L_31 i_X8_apart s_X8_apart zs_56 rfl dL_law_420 (by decide) (Nat.le_of_ble_eq_true rfl) (Nat.le_refl _) (Nat.le_refl _) rfl (fun r s2 h2 hq => ?_)
  obtain ⟨x2, rfl, rfl, hq⟩ := hq
  obtain ⟨e2, RW2, F2⟩ := hq
  have CW3 := CW2.frR F2
  refine zw.st (st' := [.int x2, .int x1]) rfl ?_
  exact zw_icmp_eq (tg := 1902) dL_law_423 (by decide) rfl (fun _ => go _ _ CW3 RW2) (fun c => absurd (e1.trans e2.symm) c)
set_option maxRecDepth 100000 in
set_option maxHeartbeats 4000000 in
theorem lc_4 {L i : Nat} {xs : Nat → Int32} {h : zw_H} {A : zA} (hi : i + 5 ≤ L) (hL : L ≤ 2560) (CW1 : CW h A) (RW0 : RW h A) (go : ∀ (h' : zw_H) (A' : zA), CW h' A' → RW h' A' → zj L xs 1902 [] h' i) : zj L xs 428 [] h i := by
  refine zw_aload_n 2 dL_law_428 rfl rfl rfl ?_
  refine zl_arg 1 dL_law_429 dL_law_430 dL_law_431 dL_law_432 dL_law_433 rfl rfl rfl rfl rfl (by decide) (by decide) hi hL ?_
  refine zl_arg 2 dL_law_434 dL_law_435 dL_law_436 dL_law_437 dL_law_438 rfl rfl rfl rfl rfl (by decide) (by decide) hi hL ?_
  refine zl_arg 3 dL_law_439 dL_law_440 dL_law_441 dL_law_442 dL_law_443 rfl rfl rfl rfl rfl (by decide) (by decide) hi hL ?_
  refine zl_bool dL_law_444 dL_law_447 dL_law_448 dL_law_451 rfl rfl rfl rfl ?_
  refine zw_callV (n := 3) (As := [.int (xs (i + 1)), .int (xs (i + 2)), .int (bz (xs (i + 3)))]) (rest := []) (m7_together CW1 (bz_o _)) my_X7_together rfl rfl k_L_32 i_X7_together s_X7_together zs_0 rfl dL_law_452 (by decide) (Nat.le_of_ble_eq_true rfl) (Nat.le_refl _) (Nat.le_refl _) rfl (fun r s1 h1 hq => ?_)
  obtain ⟨x1, rfl, rfl, hq⟩ := hq
  obtain ⟨e1, CW2, F1⟩ := hq
  have RW1 := RW0.frC F1
  refine zw.st (st' := [.int x1]) rfl ?_
  refine zw_aload_n 1 dL_law_455 rfl rfl rfl ?_
  refine zl_arg 1 dL_law_456 dL_law_457 dL_law_458 dL_law_459 dL_law_460 rfl rfl rfl rfl rfl (by decide) (by decide) hi hL ?_
  refine zl_arg 2 dL_law_461 dL_law_462 dL_law_463 dL_law_464 dL_law_465 rfl rfl rfl rfl rfl (by decide) (by decide) hi hL ?_
  refine zl_arg 3 dL_law_466 dL_law_467 dL_law_468 dL_law_469 dL_law_470 rfl rfl rfl rfl rfl (by decide) (by decide) hi hL ?_
  refine zl_bool dL_law_471 dL_law_474 dL_law_475 dL_law_478 rfl rfl rfl rfl ?_
  refine zw_callV (n := 3) (As := [.int (xs (i + 1)), .int (xs (i + 2)), .int (bz (xs (i + 3)))]) (rest := [.int x1]) (m_together RW1 (bz_o _)) my_X8_together rfl rfl k_L_35 i_X8_together s_X8_together zs_56 rfl dL_law_479 (by decide) (Nat.le_of_ble_eq_true rfl) (Nat.le_refl _) (Nat.le_refl _) rfl (fun r s2 h2 hq => ?_)
  obtain ⟨x2, rfl, rfl, hq⟩ := hq
  obtain ⟨e2, RW2, F2⟩ := hq
  have CW3 := CW2.frR F2
  refine zw.st (st' := [.int x2, .int x1]) rfl ?_
  exact zw_icmp_eq (tg := 1902) dL_law_482 (by decide) rfl (fun _ => go _ _ CW3 RW2) (fun c => absurd (e1.trans e2.symm) c)
set_option maxRecDepth 100000 in
set_option maxHeartbeats 4000000 in
theorem lc_5 {L i : Nat} {xs : Nat → Int32} {h : zw_H} {A : zA} (hi : i + 5 ≤ L) (hL : L ≤ 2560) (CW1 : CW h A) (RW0 : RW h A) (go : ∀ (h' : zw_H) (A' : zA), CW h' A' → RW h' A' → zj L xs 1902 [] h' i) : zj L xs 487 [] h i := by
  refine zw_aload_n 2 dL_law_487 rfl rfl rfl ?_
  refine zl_arg 1 dL_law_488 dL_law_489 dL_law_490 dL_law_491 dL_law_492 rfl rfl rfl rfl rfl (by decide) (by decide) hi hL ?_
  refine zl_bool dL_law_493 dL_law_496 dL_law_497 dL_law_500 rfl rfl rfl rfl ?_
  refine zw_callV (n := 1) (As := [.int (bz (xs (i + 1)))]) (rest := []) (m7_noncrossing CW1 (bz_o _) (bz_01 _)) my_X7_noncrossing rfl rfl k_L_36 i_X7_noncrossing s_X7_noncrossing zs_0 rfl dL_law_501 (by decide) (Nat.le_of_ble_eq_true rfl) (Nat.le_refl _) (Nat.le_refl _) rfl (fun r s1 h1 hq => ?_)
  obtain ⟨x1, rfl, rfl, hq⟩ := hq
  obtain ⟨e1, CW2, F1⟩ := hq
  have RW1 := RW0.frC F1
  refine zw.st (st' := [.int x1]) rfl ?_
  refine zw_aload_n 1 dL_law_504 rfl rfl rfl ?_
  refine zl_arg 1 dL_law_505 dL_law_506 dL_law_507 dL_law_508 dL_law_509 rfl rfl rfl rfl rfl (by decide) (by decide) hi hL ?_
  refine zl_bool dL_law_510 dL_law_513 dL_law_514 dL_law_517 rfl rfl rfl rfl ?_
  refine zw_callV (n := 1) (As := [.int (bz (xs (i + 1)))]) (rest := [.int x1]) (m_noncrossing RW1 (bz_o _)) my_X8_noncrossing rfl rfl k_L_40 i_X8_noncrossing s_X8_noncrossing zs_56 rfl dL_law_518 (by decide) (Nat.le_of_ble_eq_true rfl) (Nat.le_refl _) (Nat.le_refl _) rfl (fun r s2 h2 hq => ?_)
  obtain ⟨x2, rfl, rfl, hq⟩ := hq
  obtain ⟨e2, RW2, F2⟩ := hq
  have CW3 := CW2.frR F2
  refine zw.st (st' := [.int x2, .int x1]) rfl ?_
  exact zw_icmp_eq (tg := 1902) dL_law_521 (by decide) rfl (fun _ => go _ _ CW3 RW2) (fun c => absurd (e1.trans e2.symm) c)
set_option maxRecDepth 100000 in
set_option maxHeartbeats 4000000 in
theorem lc_6 {L i : Nat} {xs : Nat → Int32} {h : zw_H} {A : zA} (hi : i + 5 ≤ L) (hL : L ≤ 2560) (CW1 : CW h A) (RW0 : RW h A) (go : ∀ (h' : zw_H) (A' : zA), CW h' A' → RW h' A' → zj L xs 1902 [] h' i) : zj L xs 526 [] h i := by
  refine zw_aload_n 2 dL_law_526 rfl rfl rfl ?_
  refine zl_arg 1 dL_law_527 dL_law_528 dL_law_529 dL_law_530 dL_law_531 rfl rfl rfl rfl rfl (by decide) (by decide) hi hL ?_
  refine zw_callV (n := 1) (As := [.int (xs (i + 1))]) (rest := []) (m7_type CW1) my_X7_type rfl rfl k_L_41 i_X7_type s_X7_type zs_0 rfl dL_law_532 (by decide) (Nat.le_of_ble_eq_true rfl) (Nat.le_refl _) (Nat.le_refl _) rfl (fun r s1 h1 hq => ?_)
  obtain ⟨x1, rfl, rfl, hq⟩ := hq
  obtain ⟨e1, CW2, F1⟩ := hq
  have RW1 := RW0.frC F1
  refine zw.st (st' := [.int x1]) rfl ?_
  refine zw_aload_n 1 dL_law_535 rfl rfl rfl ?_
  refine zl_arg 1 dL_law_536 dL_law_537 dL_law_538 dL_law_539 dL_law_540 rfl rfl rfl rfl rfl (by decide) (by decide) hi hL ?_
  refine zw_callV (n := 1) (As := [.int (xs (i + 1))]) (rest := [.int x1]) (m_type RW1) my_X8_type rfl rfl k_L_44 i_X8_type s_X8_type zs_56 rfl dL_law_541 (by decide) (Nat.le_of_ble_eq_true rfl) (Nat.le_refl _) (Nat.le_refl _) rfl (fun r s2 h2 hq => ?_)
  obtain ⟨x2, rfl, rfl, hq⟩ := hq
  obtain ⟨e2, RW2, F2⟩ := hq
  have CW3 := CW2.frR F2
  refine zw.st (st' := [.int x2, .int x1]) rfl ?_
  exact zw_icmp_eq (tg := 1902) dL_law_544 (by decide) rfl (fun _ => go _ _ CW3 RW2) (fun c => absurd (e1.trans e2.symm) c)
set_option maxRecDepth 100000 in
set_option maxHeartbeats 4000000 in
theorem lc_7 {L i : Nat} {xs : Nat → Int32} {h : zw_H} {A : zA} (hi : i + 5 ≤ L) (hL : L ≤ 2560) (CW1 : CW h A) (RW0 : RW h A) (go : ∀ (h' : zw_H) (A' : zA), CW h' A' → RW h' A' → zj L xs 1902 [] h' i) : zj L xs 549 [] h i := by
  refine zw_aload_n 2 dL_law_549 rfl rfl rfl ?_
  refine zw_callV (n := 0) (As := []) (rest := []) (m7_clear CW1) my_X7_clear rfl rfl k_L_45 i_X7_clear s_X7_clear zs_0 rfl dL_law_550 (by decide) (Nat.le_of_ble_eq_true rfl) (Nat.le_refl _) (Nat.le_refl _) rfl (fun r s1 h1 hq => ?_)
  obtain ⟨x1, rfl, rfl, hq⟩ := hq
  obtain ⟨e1, CW2, F1⟩ := hq
  have RW1 := RW0.frC F1
  refine zw.st (st' := [.int x1]) rfl ?_
  refine zw_aload_n 1 dL_law_553 rfl rfl rfl ?_
  refine zw_callV (n := 0) (As := []) (rest := [.int x1]) (m_clear RW1) my_X8_clear rfl rfl k_L_49 i_X8_clear s_X8_clear zs_56 rfl dL_law_554 (by decide) (Nat.le_of_ble_eq_true rfl) (Nat.le_refl _) (Nat.le_refl _) rfl (fun r s2 h2 hq => ?_)
  obtain ⟨x2, rfl, rfl, hq⟩ := hq
  obtain ⟨e2, RW2, F2⟩ := hq
  have CW3 := CW2.frR F2
  refine zw.st (st' := [.int x2, .int x1]) rfl ?_
  exact zw_icmp_eq (tg := 1902) dL_law_557 (by decide) rfl (fun _ => go _ _ CW3 RW2) (fun c => absurd (e1.trans e2.symm) c)
set_option maxRecDepth 100000 in
set_option maxHeartbeats 4000000 in
theorem lc_8 {L i : Nat} {xs : Nat → Int32} {h : zw_H} {A : zA} (hi : i + 5 ≤ L) (hL : L ≤ 2560) (CW1 : CW h A) (RW0 : RW h A) (go : ∀ (h' : zw_H) (A' : zA), CW h' A' → RW h' A' → zj L xs 1902 [] h' i) : zj L xs 562 [] h i := by
  refine zw_aload_n 2 dL_law_562 rfl rfl rfl ?_
  refine zl_arg 1 dL_law_563 dL_law_564 dL_law_565 dL_law_566 dL_law_567 rfl rfl rfl rfl rfl (by decide) (by decide) hi hL ?_
  refine zw_callV (n := 1) (As := [.int (xs (i + 1))]) (rest := []) (m7_read CW1) my_X7_read rfl rfl k_L_50 i_X7_read s_X7_read zs_0 rfl dL_law_568 (by decide) (Nat.le_of_ble_eq_true rfl) (Nat.le_refl _) (Nat.le_refl _) rfl (fun r s1 h1 hq => ?_)
  obtain ⟨x1, rfl, rfl, hq⟩ := hq
  obtain ⟨e1, CW2, F1⟩ := hq
  have RW1 := RW0.frC F1
  refine zw.st (st' := [.int x1]) rfl ?_
  refine zw_aload_n 1 dL_law_571 rfl rfl rfl ?_
  refine zl_arg 1 dL_law_572 dL_law_573 dL_law_574 dL_law_575 dL_law_576 rfl rfl rfl rfl rfl (by decide) (by decide) hi hL ?_
  refine zw_callV (n := 1) (As := [.int (xs (i + 1))]) (rest := [.int x1]) (m_read RW1) my_X8_read rfl rfl k_L_53 i_X8_read s_X8_read zs_56 rfl dL_law_577 (by decide) (Nat.le_of_ble_eq_true rfl) (Nat.le_refl _) (Nat.le_refl _) rfl (fun r s2 h2 hq => ?_)
  obtain ⟨x2, rfl, rfl, hq⟩ := hq
  obtain ⟨e2, RW2, F2⟩ := hq
  have CW3 := CW2.frR F2
  refine zw.st (st' := [.int x2, .int x1]) rfl ?_
  exact zw_icmp_eq (tg := 1902) dL_law_580 (by decide) rfl (fun _ => go _ _ CW3 RW2) (fun c => absurd (e1.trans e2.symm) c)
set_option maxRecDepth 100000 in
set_option maxHeartbeats 4000000 in
theorem lc_9 {L i : Nat} {xs : Nat → Int32} {h : zw_H} {A : zA} (hi : i + 5 ≤ L) (hL : L ≤ 2560) (CW1 : CW h A) (RW0 : RW h A) (go : ∀ (h' : zw_H) (A' : zA), CW h' A' → RW h' A' → zj L xs 1902 [] h' i) : zj L xs 585 [] h i := by
  refine zw_aload_n 2 dL_law_585 rfl rfl rfl ?_
  refine zl_arg 1 dL_law_586 dL_law_587 dL_law_588 dL_law_589 dL_law_590 rfl rfl rfl rfl rfl (by decide) (by decide) hi hL ?_
  refine zw_callV (n := 1) (As := [.int (xs (i + 1))]) (rest := []) (m7_finest CW1) my_X7_finest rfl rfl k_L_54 i_X7_finest s_X7_finest zs_0 rfl dL_law_591 (by decide) (Nat.le_of_ble_eq_true rfl) (Nat.le_refl _) (Nat.le_refl _) rfl (fun r s1 h1 hq => ?_)
  obtain ⟨x1, rfl, rfl, hq⟩ := hq
  obtain ⟨e1, CW2, F1⟩ := hq
  have RW1 := RW0.frC F1
  refine zw.st (st' := [.int x1]) rfl ?_
  refine zw_aload_n 1 dL_law_594 rfl rfl rfl ?_
  refine zl_arg 1 dL_law_595 dL_law_596 dL_law_597 dL_law_598 dL_law_599 rfl rfl rfl rfl rfl (by decide) (by decide) hi hL ?_
  refine zw_callV (n := 1) (As := [.int (xs (i + 1))]) (rest := [.int x1]) (m_finest RW1) my_X8_finest rfl rfl k_L_57 i_X8_finest s_X8_finest zs_56 rfl dL_law_600 (by decide) (Nat.le_of_ble_eq_true rfl) (Nat.le_refl _) (Nat.le_refl _) rfl (fun r s2 h2 hq => ?_)
  obtain ⟨x2, rfl, rfl, hq⟩ := hq
  obtain ⟨e2, RW2, F2⟩ := hq
  have CW3 := CW2.frR F2
  refine zw.st (st' := [.int x2, .int x1]) rfl ?_
  exact zw_icmp_eq (tg := 1902) dL_law_603 (by decide) rfl (fun _ => go _ _ CW3 RW2) (fun c => absurd (e1.trans e2.symm) c)
set_option maxRecDepth 100000 in
set_option maxHeartbeats 4000000 in
theorem lc_10 {L i : Nat} {xs : Nat → Int32} {h : zw_H} {A : zA} (hi : i + 5 ≤ L) (hL : L ≤ 2560) (CW1 : CW h A) (RW0 : RW h A) (go : ∀ (h' : zw_H) (A' : zA), CW h' A' → RW h' A' → zj L xs 1902 [] h' i) : zj L xs 608 [] h i := by
  refine zw_aload_n 2 dL_law_608 rfl rfl rfl ?_
  refine zl_arg 1 dL_law_609 dL_law_610 dL_law_611 dL_law_612 dL_law_613 rfl rfl rfl rfl rfl (by decide) (by decide) hi hL ?_
  refine zw_callV (n := 1) (As := [.int (xs (i + 1))]) (rest := []) (m7_coarsest CW1) my_X7_coarsest rfl rfl k_L_58 i_X7_coarsest s_X7_coarsest zs_0 rfl dL_law_614 (by decide) (Nat.le_of_ble_eq_true rfl) (Nat.le_refl _) (Nat.le_refl _) rfl (fun r s1 h1 hq => ?_)
  obtain ⟨x1, rfl, rfl, hq⟩ := hq
  obtain ⟨e1, CW2, F1⟩ := hq
  have RW1 := RW0.frC F1
  refine zw.st (st' := [.int x1]) rfl ?_
  refine zw_aload_n 1 dL_law_617 rfl rfl rfl ?_
  refine zl_arg 1 dL_law_618 dL_law_619 dL_law_620 dL_law_621 dL_law_622 rfl rfl rfl rfl rfl (by decide) (by decide) hi hL ?_
  refine zw_callV (n := 1) (As := [.int (xs (i + 1))]) (rest := [.int x1]) (m_coarsest RW1) my_X8_coarsest rfl rfl k_L_61 i_X8_coarsest s_X8_coarsest zs_56 rfl dL_law_623 (by decide) (Nat.le_of_ble_eq_true rfl) (Nat.le_refl _) (Nat.le_refl _) rfl (fun r s2 h2 hq => ?_)
  obtain ⟨x2, rfl, rfl, hq⟩ := hq
  obtain ⟨e2, RW2, F2⟩ := hq
  have CW3 := CW2.frR F2
  refine zw.st (st' := [.int x2, .int x1]) rfl ?_
  exact zw_icmp_eq (tg := 1902) dL_law_626 (by decide) rfl (fun _ => go _ _ CW3 RW2) (fun c => absurd (e1.trans e2.symm) c)
set_option maxRecDepth 100000 in
set_option maxHeartbeats 4000000 in
theorem lc_11 {L i : Nat} {xs : Nat → Int32} {h : zw_H} {A : zA} (hi : i + 5 ≤ L) (hL : L ≤ 2560) (CW1 : CW h A) (RW0 : RW h A) (go : ∀ (h' : zw_H) (A' : zA), CW h' A' → RW h' A' → zj L xs 1902 [] h' i) : zj L xs 631 [] h i := by
  refine zw_aload_n 2 dL_law_631 rfl rfl rfl ?_
  refine zl_arg 1 dL_law_632 dL_law_633 dL_law_634 dL_law_635 dL_law_636 rfl rfl rfl rfl rfl (by decide) (by decide) hi hL ?_
  refine zl_arg 2 dL_law_637 dL_law_638 dL_law_639 dL_law_640 dL_law_641 rfl rfl rfl rfl rfl (by decide) (by decide) hi hL ?_
  refine zw_callV (n := 2) (As := [.int (xs (i + 1)), .int (xs (i + 2))]) (rest := []) (m7_copy CW1) my_X7_copy rfl rfl k_L_62 i_X7_copy s_X7_copy zs_0 rfl dL_law_642 (by decide) (Nat.le_of_ble_eq_true rfl) (Nat.le_refl _) (Nat.le_refl _) rfl (fun r s1 h1 hq => ?_)
  obtain ⟨x1, rfl, rfl, hq⟩ := hq
  obtain ⟨e1, CW2, F1⟩ := hq
  have RW1 := RW0.frC F1
  refine zw.st (st' := [.int x1]) rfl ?_
  refine zw_aload_n 1 dL_law_645 rfl rfl rfl ?_
  refine zl_arg 1 dL_law_646 dL_law_647 dL_law_648 dL_law_649 dL_law_650 rfl rfl rfl rfl rfl (by decide) (by decide) hi hL ?_
  refine zl_arg 2 dL_law_651 dL_law_652 dL_law_653 dL_law_654 dL_law_655 rfl rfl rfl rfl rfl (by decide) (by decide) hi hL ?_
  refine zw_callV (n := 2) (As := [.int (xs (i + 1)), .int (xs (i + 2))]) (rest := [.int x1]) (m_copy RW1) my_X8_copy rfl rfl k_L_66 i_X8_copy s_X8_copy zs_56 rfl dL_law_656 (by decide) (Nat.le_of_ble_eq_true rfl) (Nat.le_refl _) (Nat.le_refl _) rfl (fun r s2 h2 hq => ?_)
  obtain ⟨x2, rfl, rfl, hq⟩ := hq
  obtain ⟨e2, RW2, F2⟩ := hq
  have CW3 := CW2.frR F2
  refine zw.st (st' := [.int x2, .int x1]) rfl ?_
  exact zw_icmp_eq (tg := 1902) dL_law_659 (by decide) rfl (fun _ => go _ _ CW3 RW2) (fun c => absurd (e1.trans e2.symm) c)
set_option maxRecDepth 100000 in
set_option maxHeartbeats 4000000 in
theorem lc_12 {L i : Nat} {xs : Nat → Int32} {h : zw_H} {A : zA} (hi : i + 5 ≤ L) (hL : L ≤ 2560) (CW1 : CW h A) (RW0 : RW h A) (go : ∀ (h' : zw_H) (A' : zA), CW h' A' → RW h' A' → zj L xs 1902 [] h' i) : zj L xs 664 [] h i := by
  refine zw_aload_n 2 dL_law_664 rfl rfl rfl ?_
  refine zl_arg 1 dL_law_665 dL_law_666 dL_law_667 dL_law_668 dL_law_669 rfl rfl rfl rfl rfl (by decide) (by decide) hi hL ?_
  refine zl_arg 2 dL_law_670 dL_law_671 dL_law_672 dL_law_673 dL_law_674 rfl rfl rfl rfl rfl (by decide) (by decide) hi hL ?_
  refine zl_arg 3 dL_law_675 dL_law_676 dL_law_677 dL_law_678 dL_law_679 rfl rfl rfl rfl rfl (by decide) (by decide) hi hL ?_
  refine zw_callV (n := 3) (As := [.int (xs (i + 1)), .int (xs (i + 2)), .int (xs (i + 3))]) (rest := []) (m7_meet CW1) my_X7_meet rfl rfl k_L_67 i_X7_meet s_X7_meet zs_0 rfl dL_law_680 (by decide) (Nat.le_of_ble_eq_true rfl) (Nat.le_refl _) (Nat.le_refl _) rfl (fun r s1 h1 hq => ?_)
  obtain ⟨x1, rfl, rfl, hq⟩ := hq
  obtain ⟨e1, CW2, F1⟩ := hq
  have RW1 := RW0.frC F1
  refine zw.st (st' := [.int x1]) rfl ?_
  refine zw_aload_n 1 dL_law_683 rfl rfl rfl ?_
  refine zl_arg 1 dL_law_684 dL_law_685 dL_law_686 dL_law_687 dL_law_688 rfl rfl rfl rfl rfl (by decide) (by decide) hi hL ?_
  refine zl_arg 2 dL_law_689 dL_law_690 dL_law_691 dL_law_692 dL_law_693 rfl rfl rfl rfl rfl (by decide) (by decide) hi hL ?_
  refine zl_arg 3 dL_law_694 dL_law_695 dL_law_696 dL_law_697 dL_law_698 rfl rfl rfl rfl rfl (by decide) (by decide) hi hL ?_
  refine zw_callV (n := 3) (As := [.int (xs (i + 1)), .int (xs (i + 2)), .int (xs (i + 3))]) (rest := [.int x1]) (m_meet RW1) my_X8_meet rfl rfl k_L_71 i_X8_meet s_X8_meet zs_56 rfl dL_law_699 (by decide) (Nat.le_of_ble_eq_true rfl) (Nat.le_refl _) (Nat.le_refl _) rfl (fun r s2 h2 hq => ?_)
  obtain ⟨x2, rfl, rfl, hq⟩ := hq
  obtain ⟨e2, RW2, F2⟩ := hq
  have CW3 := CW2.frR F2
  refine zw.st (st' := [.int x2, .int x1]) rfl ?_
  exact zw_icmp_eq (tg := 1902) dL_law_702 (by decide) rfl (fun _ => go _ _ CW3 RW2) (fun c => absurd (e1.trans e2.symm) c)
set_option maxRecDepth 100000 in
set_option maxHeartbeats 4000000 in
theorem lc_13 {L i : Nat} {xs : Nat → Int32} {h : zw_H} {A : zA} (hi : i + 5 ≤ L) (hL : L ≤ 2560) (CW1 : CW h A) (RW0 : RW h A) (go : ∀ (h' : zw_H) (A' : zA), CW h' A' → RW h' A' → zj L xs 1902 [] h' i) : zj L xs 707 [] h i := by
  refine zw_aload_n 2 dL_law_707 rfl rfl rfl ?_
  refine zl_arg 1 dL_law_708 dL_law_709 dL_law_710 dL_law_711 dL_law_712 rfl rfl rfl rfl rfl (by decide) (by decide) hi hL ?_
  refine zl_arg 2 dL_law_713 dL_law_714 dL_law_715 dL_law_716 dL_law_717 rfl rfl rfl rfl rfl (by decide) (by decide) hi hL ?_
  refine zl_arg 3 dL_law_718 dL_law_719 dL_law_720 dL_law_721 dL_law_722 rfl rfl rfl rfl rfl (by decide) (by decide) hi hL ?_
  refine zw_callV (n := 3) (As := [.int (xs (i + 1)), .int (xs (i + 2)), .int (xs (i + 3))]) (rest := []) (m7_join CW1) my_X7_join rfl rfl k_L_72 i_X7_join s_X7_join zs_0 rfl dL_law_723 (by decide) (Nat.le_of_ble_eq_true rfl) (Nat.le_refl _) (Nat.le_refl _) rfl (fun r s1 h1 hq => ?_)
  obtain ⟨x1, rfl, rfl, hq⟩ := hq
  obtain ⟨e1, CW2, F1⟩ := hq
  have RW1 := RW0.frC F1
  refine zw.st (st' := [.int x1]) rfl ?_
  refine zw_aload_n 1 dL_law_726 rfl rfl rfl ?_
  refine zl_arg 1 dL_law_727 dL_law_728 dL_law_729 dL_law_730 dL_law_731 rfl rfl rfl rfl rfl (by decide) (by decide) hi hL ?_
  refine zl_arg 2 dL_law_732 dL_law_733 dL_law_734 dL_law_735 dL_law_736 rfl rfl rfl rfl rfl (by decide) (by decide) hi hL ?_
  refine zl_arg 3 dL_law_737 dL_law_738 dL_law_739 dL_law_740 dL_law_741 rfl rfl rfl rfl rfl (by decide) (by decide) hi hL ?_
  refine zw_callV (n := 3) (As := [.int (xs (i + 1)), .int (xs (i + 2)), .int (xs (i + 3))]) (rest := [.int x1]) (m_join RW1) my_X8_join rfl rfl k_L_75 i_X8_join s_X8_join zs_56 rfl dL_law_742 (by decide) (Nat.le_of_ble_eq_true rfl) (Nat.le_refl _) (Nat.le_refl _) rfl (fun r s2 h2 hq => ?_)
  obtain ⟨x2, rfl, rfl, hq⟩ := hq
  obtain ⟨e2, RW2, F2⟩ := hq
  have CW3 := CW2.frR F2
  refine zw.st (st' := [.int x2, .int x1]) rfl ?_
  exact zw_icmp_eq (tg := 1902) dL_law_745 (by decide) rfl (fun _ => go _ _ CW3 RW2) (fun c => absurd (e1.trans e2.symm) c)
set_option maxRecDepth 100000 in
set_option maxHeartbeats 4000000 in
theorem lc_14 {L i : Nat} {xs : Nat → Int32} {h : zw_H} {A : zA} (hi : i + 5 ≤ L) (hL : L ≤ 2560) (CW1 : CW h A) (RW0 : RW h A) (go : ∀ (h' : zw_H) (A' : zA), CW h' A' → RW h' A' → zj L xs 1902 [] h' i) : zj L xs 750 [] h i := by
  refine zw_aload_n 2 dL_law_750 rfl rfl rfl ?_
  refine zl_arg 1 dL_law_751 dL_law_752 dL_law_753 dL_law_754 dL_law_755 rfl rfl rfl rfl rfl (by decide) (by decide) hi hL ?_
  refine zl_arg 2 dL_law_756 dL_law_757 dL_law_758 dL_law_759 dL_law_760 rfl rfl rfl rfl rfl (by decide) (by decide) hi hL ?_
  refine zl_arg 3 dL_law_761 dL_law_762 dL_law_763 dL_law_764 dL_law_765 rfl rfl rfl rfl rfl (by decide) (by decide) hi hL ?_
  refine zw_callV (n := 3) (As := [.int (xs (i + 1)), .int (xs (i + 2)), .int (xs (i + 3))]) (rest := []) (m7_unite CW1) my_X7_unite rfl rfl k_L_76 i_X7_unite s_X7_unite zs_0 rfl dL_law_766 (by decide) (Nat.le_of_ble_eq_true rfl) (Nat.le_refl _) (Nat.le_refl _) rfl (fun r s1 h1 hq => ?_)
  obtain ⟨x1, rfl, rfl, hq⟩ := hq
  obtain ⟨e1, CW2, F1⟩ := hq
  have RW1 := RW0.frC F1
  refine zw.st (st' := [.int x1]) rfl ?_
  refine zw_aload_n 1 dL_law_769 rfl rfl rfl ?_
  refine zl_arg 1 dL_law_770 dL_law_771 dL_law_772 dL_law_773 dL_law_774 rfl rfl rfl rfl rfl (by decide) (by decide) hi hL ?_
  refine zl_arg 2 dL_law_775 dL_law_776 dL_law_777 dL_law_778 dL_law_779 rfl rfl rfl rfl rfl (by decide) (by decide) hi hL ?_
  refine zl_arg 3 dL_law_780 dL_law_781 dL_law_782 dL_law_783 dL_law_784 rfl rfl rfl rfl rfl (by decide) (by decide) hi hL ?_
  refine zw_callV (n := 3) (As := [.int (xs (i + 1)), .int (xs (i + 2)), .int (xs (i + 3))]) (rest := [.int x1]) (m_unite RW1) my_X8_unite rfl rfl k_L_79 i_X8_unite s_X8_unite zs_56 rfl dL_law_785 (by decide) (Nat.le_of_ble_eq_true rfl) (Nat.le_refl _) (Nat.le_refl _) rfl (fun r s2 h2 hq => ?_)
  obtain ⟨x2, rfl, rfl, hq⟩ := hq
  obtain ⟨e2, RW2, F2⟩ := hq
  have CW3 := CW2.frR F2
  refine zw.st (st' := [.int x2, .int x1]) rfl ?_
  exact zw_icmp_eq (tg := 1902) dL_law_788 (by decide) rfl (fun _ => go _ _ CW3 RW2) (fun c => absurd (e1.trans e2.symm) c)
set_option maxRecDepth 100000 in
set_option maxHeartbeats 4000000 in
theorem lc_15 {L i : Nat} {xs : Nat → Int32} {h : zw_H} {A : zA} (hi : i + 5 ≤ L) (hL : L ≤ 2560) (CW1 : CW h A) (RW0 : RW h A) (go : ∀ (h' : zw_H) (A' : zA), CW h' A' → RW h' A' → zj L xs 1902 [] h' i) : zj L xs 793 [] h i := by
  refine zw_aload_n 2 dL_law_793 rfl rfl rfl ?_
  refine zl_arg 1 dL_law_794 dL_law_795 dL_law_796 dL_law_797 dL_law_798 rfl rfl rfl rfl rfl (by decide) (by decide) hi hL ?_
  refine zl_arg 2 dL_law_799 dL_law_800 dL_law_801 dL_law_802 dL_law_803 rfl rfl rfl rfl rfl (by decide) (by decide) hi hL ?_
  refine zw_callV (n := 2) (As := [.int (xs (i + 1)), .int (xs (i + 2))]) (rest := []) (m7_isolate CW1) my_X7_isolate rfl rfl k_L_80 i_X7_isolate s_X7_isolate zs_0 rfl dL_law_804 (by decide) (Nat.le_of_ble_eq_true rfl) (Nat.le_refl _) (Nat.le_refl _) rfl (fun r s1 h1 hq => ?_)
  obtain ⟨x1, rfl, rfl, hq⟩ := hq
  obtain ⟨e1, CW2, F1⟩ := hq
  have RW1 := RW0.frC F1
  refine zw.st (st' := [.int x1]) rfl ?_
  refine zw_aload_n 1 dL_law_807 rfl rfl rfl ?_
  refine zl_arg 1 dL_law_808 dL_law_809 dL_law_810 dL_law_811 dL_law_812 rfl rfl rfl rfl rfl (by decide) (by decide) hi hL ?_
  refine zl_arg 2 dL_law_813 dL_law_814 dL_law_815 dL_law_816 dL_law_817 rfl rfl rfl rfl rfl (by decide) (by decide) hi hL ?_
  refine zw_callV (n := 2) (As := [.int (xs (i + 1)), .int (xs (i + 2))]) (rest := [.int x1]) (m_isolate RW1) my_X8_isolate rfl rfl k_L_83 i_X8_isolate s_X8_isolate zs_56 rfl dL_law_818 (by decide) (Nat.le_of_ble_eq_true rfl) (Nat.le_refl _) (Nat.le_refl _) rfl (fun r s2 h2 hq => ?_)
  obtain ⟨x2, rfl, rfl, hq⟩ := hq
  obtain ⟨e2, RW2, F2⟩ := hq
  have CW3 := CW2.frR F2
  refine zw.st (st' := [.int x2, .int x1]) rfl ?_
  exact zw_icmp_eq (tg := 1902) dL_law_821 (by decide) rfl (fun _ => go _ _ CW3 RW2) (fun c => absurd (e1.trans e2.symm) c)
set_option maxRecDepth 100000 in
set_option maxHeartbeats 4000000 in
theorem lc_16 {L i : Nat} {xs : Nat → Int32} {h : zw_H} {A : zA} (hi : i + 5 ≤ L) (hL : L ≤ 2560) (CW1 : CW h A) (RW0 : RW h A) (go : ∀ (h' : zw_H) (A' : zA), CW h' A' → RW h' A' → zj L xs 1902 [] h' i) : zj L xs 826 [] h i := by
  refine zw_aload_n 2 dL_law_826 rfl rfl rfl ?_
  refine zl_arg 1 dL_law_827 dL_law_828 dL_law_829 dL_law_830 dL_law_831 rfl rfl rfl rfl rfl (by decide) (by decide) hi hL ?_
  refine zl_arg 2 dL_law_832 dL_law_833 dL_law_834 dL_law_835 dL_law_836 rfl rfl rfl rfl rfl (by decide) (by decide) hi hL ?_
  refine zl_arg 3 dL_law_837 dL_law_838 dL_law_839 dL_law_840 dL_law_841 rfl rfl rfl rfl rfl (by decide) (by decide) hi hL ?_
  refine zw_callV (n := 3) (As := [.int (xs (i + 1)), .int (xs (i + 2)), .int (xs (i + 3))]) (rest := []) (m7_swap CW1) my_X7_swap rfl rfl k_L_84 i_X7_swap s_X7_swap zs_0 rfl dL_law_842 (by decide) (Nat.le_of_ble_eq_true rfl) (Nat.le_refl _) (Nat.le_refl _) rfl (fun r s1 h1 hq => ?_)
  obtain ⟨x1, rfl, rfl, hq⟩ := hq
  obtain ⟨e1, CW2, F1⟩ := hq
  have RW1 := RW0.frC F1
  refine zw.st (st' := [.int x1]) rfl ?_
  refine zw_aload_n 1 dL_law_845 rfl rfl rfl ?_
  refine zl_arg 1 dL_law_846 dL_law_847 dL_law_848 dL_law_849 dL_law_850 rfl rfl rfl rfl rfl (by decide) (by decide) hi hL ?_
  refine zl_arg 2 dL_law_851 dL_law_852 dL_law_853 dL_law_854 dL_law_855 rfl rfl rfl rfl rfl (by decide) (by decide) hi hL ?_
  refine zl_arg 3 dL_law_856 dL_law_857 dL_law_858 dL_law_859 dL_law_860 rfl rfl rfl rfl rfl (by decide) (by decide) hi hL ?_
  refine zw_callV (n := 3) (As := [.int (xs (i + 1)), .int (xs (i + 2)), .int (xs (i + 3))]) (rest := [.int x1]) (m_swap RW1) my_X8_swap rfl rfl k_L_87 i_X8_swap s_X8_swap zs_56 rfl dL_law_861 (by decide) (Nat.le_of_ble_eq_true rfl) (Nat.le_refl _) (Nat.le_refl _) rfl (fun r s2 h2 hq => ?_)
  obtain ⟨x2, rfl, rfl, hq⟩ := hq
  obtain ⟨e2, RW2, F2⟩ := hq
  have CW3 := CW2.frR F2
  refine zw.st (st' := [.int x2, .int x1]) rfl ?_
  exact zw_icmp_eq (tg := 1902) dL_law_864 (by decide) rfl (fun _ => go _ _ CW3 RW2) (fun c => absurd (e1.trans e2.symm) c)
set_option maxRecDepth 100000 in
set_option maxHeartbeats 4000000 in
theorem lc_17 {L i : Nat} {xs : Nat → Int32} {h : zw_H} {A : zA} (hi : i + 5 ≤ L) (hL : L ≤ 2560) (CW1 : CW h A) (RW0 : RW h A) (go : ∀ (h' : zw_H) (A' : zA), CW h' A' → RW h' A' → zj L xs 1902 [] h' i) : zj L xs 869 [] h i := by
  refine zw_aload_n 2 dL_law_869 rfl rfl rfl ?_
  refine zl_arg 1 dL_law_870 dL_law_871 dL_law_872 dL_law_873 dL_law_874 rfl rfl rfl rfl rfl (by decide) (by decide) hi hL ?_
  refine zw_callV (n := 1) (As := [.int (xs (i + 1))]) (rest := []) (m7_rotate CW1) my_X7_rotate rfl rfl k_L_88 i_X7_rotate s_X7_rotate zs_0 rfl dL_law_875 (by decide) (Nat.le_of_ble_eq_true rfl) (Nat.le_refl _) (Nat.le_refl _) rfl (fun r s1 h1 hq => ?_)
  obtain ⟨x1, rfl, rfl, hq⟩ := hq
  obtain ⟨e1, CW2, F1⟩ := hq
  have RW1 := RW0.frC F1
  refine zw.st (st' := [.int x1]) rfl ?_
  refine zw_aload_n 1 dL_law_878 rfl rfl rfl ?_
  refine zl_arg 1 dL_law_879 dL_law_880 dL_law_881 dL_law_882 dL_law_883 rfl rfl rfl rfl rfl (by decide) (by decide) hi hL ?_
  refine zw_callV (n := 1) (As := [.int (xs (i + 1))]) (rest := [.int x1]) (m_rotate RW1) my_X8_rotate rfl rfl k_L_91 i_X8_rotate s_X8_rotate zs_56 rfl dL_law_884 (by decide) (Nat.le_of_ble_eq_true rfl) (Nat.le_refl _) (Nat.le_refl _) rfl (fun r s2 h2 hq => ?_)
  obtain ⟨x2, rfl, rfl, hq⟩ := hq
  obtain ⟨e2, RW2, F2⟩ := hq
  have CW3 := CW2.frR F2
  refine zw.st (st' := [.int x2, .int x1]) rfl ?_
  exact zw_icmp_eq (tg := 1902) dL_law_887 (by decide) rfl (fun _ => go _ _ CW3 RW2) (fun c => absurd (e1.trans e2.symm) c)
set_option maxRecDepth 100000 in
set_option maxHeartbeats 4000000 in
theorem lc_18 {L i : Nat} {xs : Nat → Int32} {h : zw_H} {A : zA} (hi : i + 5 ≤ L) (hL : L ≤ 2560) (CW1 : CW h A) (RW0 : RW h A) (go : ∀ (h' : zw_H) (A' : zA), CW h' A' → RW h' A' → zj L xs 1902 [] h' i) : zj L xs 892 [] h i := by
  refine zw_aload_n 2 dL_law_892 rfl rfl rfl ?_
  refine zl_arg 1 dL_law_893 dL_law_894 dL_law_895 dL_law_896 dL_law_897 rfl rfl rfl rfl rfl (by decide) (by decide) hi hL ?_
  refine zl_arg 2 dL_law_898 dL_law_899 dL_law_900 dL_law_901 dL_law_902 rfl rfl rfl rfl rfl (by decide) (by decide) hi hL ?_
  refine zw_callV (n := 2) (As := [.int (xs (i + 1)), .int (xs (i + 2))]) (rest := []) (m7_complement CW1) my_X7_complement rfl rfl k_L_92 i_X7_complement s_X7_complement zs_0 rfl dL_law_903 (by decide) (Nat.le_of_ble_eq_true rfl) (Nat.le_refl _) (Nat.le_refl _) rfl (fun r s1 h1 hq => ?_)
  obtain ⟨x1, rfl, rfl, hq⟩ := hq
  obtain ⟨e1, CW2, F1⟩ := hq
  have RW1 := RW0.frC F1
  refine zw.st (st' := [.int x1]) rfl ?_
  refine zw_aload_n 1 dL_law_906 rfl rfl rfl ?_
  refine zl_arg 1 dL_law_907 dL_law_908 dL_law_909 dL_law_910 dL_law_911 rfl rfl rfl rfl rfl (by decide) (by decide) hi hL ?_
  refine zl_arg 2 dL_law_912 dL_law_913 dL_law_914 dL_law_915 dL_law_916 rfl rfl rfl rfl rfl (by decide) (by decide) hi hL ?_
  refine zw_callV (n := 2) (As := [.int (xs (i + 1)), .int (xs (i + 2))]) (rest := [.int x1]) (m_complement RW1) my_X8_complement rfl rfl k_L_95 i_X8_complement s_X8_complement zs_56 rfl dL_law_917 (by decide) (Nat.le_of_ble_eq_true rfl) (Nat.le_refl _) (Nat.le_refl _) rfl (fun r s2 h2 hq => ?_)
  obtain ⟨x2, rfl, rfl, hq⟩ := hq
  obtain ⟨e2, RW2, F2⟩ := hq
  have CW3 := CW2.frR F2
  refine zw.st (st' := [.int x2, .int x1]) rfl ?_
  exact zw_icmp_eq (tg := 1902) dL_law_920 (by decide) rfl (fun _ => go _ _ CW3 RW2) (fun c => absurd (e1.trans e2.symm) c)
set_option maxRecDepth 100000 in
set_option maxHeartbeats 4000000 in
theorem lc_19 {L i : Nat} {xs : Nat → Int32} {h : zw_H} {A : zA} (hi : i + 5 ≤ L) (hL : L ≤ 2560) (CW1 : CW h A) (RW0 : RW h A) (go : ∀ (h' : zw_H) (A' : zA), CW h' A' → RW h' A' → zj L xs 1902 [] h' i) : zj L xs 925 [] h i := by
  refine zw_aload_n 2 dL_law_925 rfl rfl rfl ?_
  refine zl_arg 1 dL_law_926 dL_law_927 dL_law_928 dL_law_929 dL_law_930 rfl rfl rfl rfl rfl (by decide) (by decide) hi hL ?_
  refine zl_arg 2 dL_law_931 dL_law_932 dL_law_933 dL_law_934 dL_law_935 rfl rfl rfl rfl rfl (by decide) (by decide) hi hL ?_
  refine zw_callV (n := 2) (As := [.int (xs (i + 1)), .int (xs (i + 2))]) (rest := []) (m7_unrank CW1) my_X7_unrank rfl rfl k_L_96 i_X7_unrank s_X7_unrank zs_0 rfl dL_law_936 (by decide) (Nat.le_of_ble_eq_true rfl) (Nat.le_refl _) (Nat.le_refl _) rfl (fun r s1 h1 hq => ?_)
  obtain ⟨x1, rfl, rfl, hq⟩ := hq
  obtain ⟨e1, CW2, F1⟩ := hq
  have RW1 := RW0.frC F1
  refine zw.st (st' := [.int x1]) rfl ?_
  refine zw_aload_n 1 dL_law_939 rfl rfl rfl ?_
  refine zl_arg 1 dL_law_940 dL_law_941 dL_law_942 dL_law_943 dL_law_944 rfl rfl rfl rfl rfl (by decide) (by decide) hi hL ?_
  refine zl_arg 2 dL_law_945 dL_law_946 dL_law_947 dL_law_948 dL_law_949 rfl rfl rfl rfl rfl (by decide) (by decide) hi hL ?_
  refine zw_callV (n := 2) (As := [.int (xs (i + 1)), .int (xs (i + 2))]) (rest := [.int x1]) (m_unrank RW1) my_X8_unrank rfl rfl k_L_99 i_X8_unrank s_X8_unrank zs_56 rfl dL_law_950 (by decide) (Nat.le_of_ble_eq_true rfl) (Nat.le_refl _) (Nat.le_refl _) rfl (fun r s2 h2 hq => ?_)
  obtain ⟨x2, rfl, rfl, hq⟩ := hq
  obtain ⟨e2, RW2, F2⟩ := hq
  have CW3 := CW2.frR F2
  refine zw.st (st' := [.int x2, .int x1]) rfl ?_
  exact zw_icmp_eq (tg := 1902) dL_law_953 (by decide) rfl (fun _ => go _ _ CW3 RW2) (fun c => absurd (e1.trans e2.symm) c)
set_option maxRecDepth 100000 in
set_option maxHeartbeats 4000000 in
theorem lc_20 {L i : Nat} {xs : Nat → Int32} {h : zw_H} {A : zA} (hi : i + 5 ≤ L) (hL : L ≤ 2560) (CW1 : CW h A) (RW0 : RW h A) (go : ∀ (h' : zw_H) (A' : zA), CW h' A' → RW h' A' → zj L xs 1902 [] h' i) : zj L xs 958 [] h i := by
  refine zw_aload_n 2 dL_law_958 rfl rfl rfl ?_
  refine zl_arg 1 dL_law_959 dL_law_960 dL_law_961 dL_law_962 dL_law_963 rfl rfl rfl rfl rfl (by decide) (by decide) hi hL ?_
  refine zw_callV (n := 1) (As := [.int (xs (i + 1))]) (rest := []) (m7_next CW1) my_X7_next rfl rfl k_L_100 i_X7_next s_X7_next zs_0 rfl dL_law_964 (by decide) (Nat.le_of_ble_eq_true rfl) (Nat.le_refl _) (Nat.le_refl _) rfl (fun r s1 h1 hq => ?_)
  obtain ⟨x1, rfl, rfl, hq⟩ := hq
  obtain ⟨e1, CW2, F1⟩ := hq
  have RW1 := RW0.frC F1
  refine zw.st (st' := [.int x1]) rfl ?_
  refine zw_aload_n 1 dL_law_967 rfl rfl rfl ?_
  refine zl_arg 1 dL_law_968 dL_law_969 dL_law_970 dL_law_971 dL_law_972 rfl rfl rfl rfl rfl (by decide) (by decide) hi hL ?_
  refine zw_callV (n := 1) (As := [.int (xs (i + 1))]) (rest := [.int x1]) (m_next RW1) my_X8_next rfl rfl k_L_103 i_X8_next s_X8_next zs_56 rfl dL_law_973 (by decide) (Nat.le_of_ble_eq_true rfl) (Nat.le_refl _) (Nat.le_refl _) rfl (fun r s2 h2 hq => ?_)
  obtain ⟨x2, rfl, rfl, hq⟩ := hq
  obtain ⟨e2, RW2, F2⟩ := hq
  have CW3 := CW2.frR F2
  refine zw.st (st' := [.int x2, .int x1]) rfl ?_
  exact zw_icmp_eq (tg := 1902) dL_law_976 (by decide) rfl (fun _ => go _ _ CW3 RW2) (fun c => absurd (e1.trans e2.symm) c)
set_option maxRecDepth 100000 in
set_option maxHeartbeats 4000000 in
theorem lc_21 {L i : Nat} {xs : Nat → Int32} {h : zw_H} {A : zA} (hi : i + 5 ≤ L) (hL : L ≤ 2560) (CW1 : CW h A) (RW0 : RW h A) (go : ∀ (h' : zw_H) (A' : zA), CW h' A' → RW h' A' → zj L xs 1902 [] h' i) : zj L xs 981 [] h i := by
  refine zw_aload_n 2 dL_law_981 rfl rfl rfl ?_
  refine zl_arg 1 dL_law_982 dL_law_983 dL_law_984 dL_law_985 dL_law_986 rfl rfl rfl rfl rfl (by decide) (by decide) hi hL ?_
  refine zw_callV (n := 1) (As := [.int (xs (i + 1))]) (rest := []) (m7_previous CW1) my_X7_previous rfl rfl k_L_104 i_X7_previous s_X7_previous zs_0 rfl dL_law_987 (by decide) (Nat.le_of_ble_eq_true rfl) (Nat.le_refl _) (Nat.le_refl _) rfl (fun r s1 h1 hq => ?_)
  obtain ⟨x1, rfl, rfl, hq⟩ := hq
  obtain ⟨e1, CW2, F1⟩ := hq
  have RW1 := RW0.frC F1
  refine zw.st (st' := [.int x1]) rfl ?_
  refine zw_aload_n 1 dL_law_990 rfl rfl rfl ?_
  refine zl_arg 1 dL_law_991 dL_law_992 dL_law_993 dL_law_994 dL_law_995 rfl rfl rfl rfl rfl (by decide) (by decide) hi hL ?_
  refine zw_callV (n := 1) (As := [.int (xs (i + 1))]) (rest := [.int x1]) (m_previous RW1) my_X8_previous rfl rfl k_L_107 i_X8_previous s_X8_previous zs_56 rfl dL_law_996 (by decide) (Nat.le_of_ble_eq_true rfl) (Nat.le_refl _) (Nat.le_refl _) rfl (fun r s2 h2 hq => ?_)
  obtain ⟨x2, rfl, rfl, hq⟩ := hq
  obtain ⟨e2, RW2, F2⟩ := hq
  have CW3 := CW2.frR F2
  refine zw.st (st' := [.int x2, .int x1]) rfl ?_
  exact zw_icmp_eq (tg := 1902) dL_law_999 (by decide) rfl (fun _ => go _ _ CW3 RW2) (fun c => absurd (e1.trans e2.symm) c)
set_option maxRecDepth 100000 in
set_option maxHeartbeats 4000000 in
theorem lc_22 {L i : Nat} {xs : Nat → Int32} {h : zw_H} {A : zA} (hi : i + 5 ≤ L) (hL : L ≤ 2560) (CW1 : CW h A) (RW0 : RW h A) (go : ∀ (h' : zw_H) (A' : zA), CW h' A' → RW h' A' → zj L xs 1902 [] h' i) : zj L xs 1004 [] h i := by
  refine zw_aload_n 2 dL_law_1004 rfl rfl rfl ?_
  refine zl_arg 1 dL_law_1005 dL_law_1006 dL_law_1007 dL_law_1008 dL_law_1009 rfl rfl rfl rfl rfl (by decide) (by decide) hi hL ?_
  refine zl_arg 2 dL_law_1010 dL_law_1011 dL_law_1012 dL_law_1013 dL_law_1014 rfl rfl rfl rfl rfl (by decide) (by decide) hi hL ?_
  refine zw_callV (n := 2) (As := [.int (xs (i + 1)), .int (xs (i + 2))]) (rest := []) (m7_draw CW1) my_X7_draw rfl rfl k_L_108 i_X7_draw s_X7_draw zs_0 rfl dL_law_1015 (by decide) (Nat.le_of_ble_eq_true rfl) (Nat.le_refl _) (Nat.le_refl _) rfl (fun r s1 h1 hq => ?_)
  obtain ⟨x1, rfl, rfl, hq⟩ := hq
  obtain ⟨e1, CW2, F1⟩ := hq
  have RW1 := RW0.frC F1
  refine zw.st (st' := [.int x1]) rfl ?_
  refine zw_aload_n 1 dL_law_1018 rfl rfl rfl ?_
  refine zl_arg 1 dL_law_1019 dL_law_1020 dL_law_1021 dL_law_1022 dL_law_1023 rfl rfl rfl rfl rfl (by decide) (by decide) hi hL ?_
  refine zl_arg 2 dL_law_1024 dL_law_1025 dL_law_1026 dL_law_1027 dL_law_1028 rfl rfl rfl rfl rfl (by decide) (by decide) hi hL ?_
  refine zw_callV (n := 2) (As := [.int (xs (i + 1)), .int (xs (i + 2))]) (rest := [.int x1]) (m_draw RW1) my_X8_draw rfl rfl k_L_111 i_X8_draw s_X8_draw zs_56 rfl dL_law_1029 (by decide) (Nat.le_of_ble_eq_true rfl) (Nat.le_refl _) (Nat.le_refl _) rfl (fun r s2 h2 hq => ?_)
  obtain ⟨x2, rfl, rfl, hq⟩ := hq
  obtain ⟨e2, RW2, F2⟩ := hq
  have CW3 := CW2.frR F2
  refine zw.st (st' := [.int x2, .int x1]) rfl ?_
  exact zw_icmp_eq (tg := 1902) dL_law_1032 (by decide) rfl (fun _ => go _ _ CW3 RW2) (fun c => absurd (e1.trans e2.symm) c)
set_option maxRecDepth 100000 in
set_option maxHeartbeats 4000000 in
theorem lc_23 {L i : Nat} {xs : Nat → Int32} {h : zw_H} {A : zA} (hi : i + 5 ≤ L) (hL : L ≤ 2560) (CW1 : CW h A) (RW0 : RW h A) (go : ∀ (h' : zw_H) (A' : zA), CW h' A' → RW h' A' → zj L xs 1902 [] h' i) : zj L xs 1037 [] h i := by
  refine zw_aload_n 2 dL_law_1037 rfl rfl rfl ?_
  refine zl_arg 1 dL_law_1038 dL_law_1039 dL_law_1040 dL_law_1041 dL_law_1042 rfl rfl rfl rfl rfl (by decide) (by decide) hi hL ?_
  refine zw_callV (n := 1) (As := [.int (xs (i + 1))]) (rest := []) (m7_blocks CW1) my_X7_blocks rfl rfl k_L_112 i_X7_blocks s_X7_blocks zs_0 rfl dL_law_1043 (by decide) (Nat.le_of_ble_eq_true rfl) (Nat.le_refl _) (Nat.le_refl _) rfl (fun r s1 h1 hq => ?_)
  obtain ⟨x1, rfl, rfl, hq⟩ := hq
  obtain ⟨e1, CW2, F1⟩ := hq
  have RW1 := RW0.frC F1
  refine zw.st (st' := [.int x1]) rfl ?_
  refine zw_aload_n 1 dL_law_1046 rfl rfl rfl ?_
  refine zl_arg 1 dL_law_1047 dL_law_1048 dL_law_1049 dL_law_1050 dL_law_1051 rfl rfl rfl rfl rfl (by decide) (by decide) hi hL ?_
  refine zw_callV (n := 1) (As := [.int (xs (i + 1))]) (rest := [.int x1]) (m_blocks RW1) my_X8_blocks rfl rfl k_L_115 i_X8_blocks s_X8_blocks zs_56 rfl dL_law_1052 (by decide) (Nat.le_of_ble_eq_true rfl) (Nat.le_refl _) (Nat.le_refl _) rfl (fun r s2 h2 hq => ?_)
  obtain ⟨x2, rfl, rfl, hq⟩ := hq
  obtain ⟨e2, RW2, F2⟩ := lp_R RW1 hq
  have CW3 := CW2.frR F2
  refine zw.st (st' := [.int x2, .int x1]) rfl ?_
  exact zw_icmp_eq (tg := 1902) dL_law_1055 (by decide) rfl (fun _ => go _ _ CW3 RW2) (fun c => absurd (e1.trans e2.symm) c)
set_option maxRecDepth 100000 in
set_option maxHeartbeats 4000000 in
theorem lc_24 {L i : Nat} {xs : Nat → Int32} {h : zw_H} {A : zA} (hi : i + 5 ≤ L) (hL : L ≤ 2560) (CW1 : CW h A) (RW0 : RW h A) (go : ∀ (h' : zw_H) (A' : zA), CW h' A' → RW h' A' → zj L xs 1902 [] h' i) : zj L xs 1060 [] h i := by
  refine zw_aload_n 2 dL_law_1060 rfl rfl rfl ?_
  refine zl_arg 1 dL_law_1061 dL_law_1062 dL_law_1063 dL_law_1064 dL_law_1065 rfl rfl rfl rfl rfl (by decide) (by decide) hi hL ?_
  refine zl_arg 2 dL_law_1066 dL_law_1067 dL_law_1068 dL_law_1069 dL_law_1070 rfl rfl rfl rfl rfl (by decide) (by decide) hi hL ?_
  refine zw_callV (n := 2) (As := [.int (xs (i + 1)), .int (xs (i + 2))]) (rest := []) (m7_blockOf CW1) my_X7_blockOf rfl rfl k_L_116 i_X7_blockOf s_X7_blockOf zs_0 rfl dL_law_1071 (by decide) (Nat.le_of_ble_eq_true rfl) (Nat.le_refl _) (Nat.le_refl _) rfl (fun r s1 h1 hq => ?_)
  obtain ⟨x1, rfl, rfl, hq⟩ := hq
  obtain ⟨e1, CW2, F1⟩ := hq
  have RW1 := RW0.frC F1
  refine zw.st (st' := [.int x1]) rfl ?_
  refine zw_aload_n 1 dL_law_1074 rfl rfl rfl ?_
  refine zl_arg 1 dL_law_1075 dL_law_1076 dL_law_1077 dL_law_1078 dL_law_1079 rfl rfl rfl rfl rfl (by decide) (by decide) hi hL ?_
  refine zl_arg 2 dL_law_1080 dL_law_1081 dL_law_1082 dL_law_1083 dL_law_1084 rfl rfl rfl rfl rfl (by decide) (by decide) hi hL ?_
  refine zw_callV (n := 2) (As := [.int (xs (i + 1)), .int (xs (i + 2))]) (rest := [.int x1]) (m_blockOf RW1) my_X8_blockOf rfl rfl k_L_119 i_X8_blockOf s_X8_blockOf zs_56 rfl dL_law_1085 (by decide) (Nat.le_of_ble_eq_true rfl) (Nat.le_refl _) (Nat.le_refl _) rfl (fun r s2 h2 hq => ?_)
  obtain ⟨x2, rfl, rfl, hq⟩ := hq
  obtain ⟨e2, RW2, F2⟩ := lp_R RW1 hq
  have CW3 := CW2.frR F2
  refine zw.st (st' := [.int x2, .int x1]) rfl ?_
  exact zw_icmp_eq (tg := 1902) dL_law_1088 (by decide) rfl (fun _ => go _ _ CW3 RW2) (fun c => absurd (e1.trans e2.symm) c)
set_option maxRecDepth 100000 in
set_option maxHeartbeats 4000000 in
theorem lc_25 {L i : Nat} {xs : Nat → Int32} {h : zw_H} {A : zA} (hi : i + 5 ≤ L) (hL : L ≤ 2560) (CW1 : CW h A) (RW0 : RW h A) (go : ∀ (h' : zw_H) (A' : zA), CW h' A' → RW h' A' → zj L xs 1902 [] h' i) : zj L xs 1093 [] h i := by
  refine zw_aload_n 2 dL_law_1093 rfl rfl rfl ?_
  refine zl_arg 1 dL_law_1094 dL_law_1095 dL_law_1096 dL_law_1097 dL_law_1098 rfl rfl rfl rfl rfl (by decide) (by decide) hi hL ?_
  refine zl_arg 2 dL_law_1099 dL_law_1100 dL_law_1101 dL_law_1102 dL_law_1103 rfl rfl rfl rfl rfl (by decide) (by decide) hi hL ?_
  refine zw_callV (n := 2) (As := [.int (xs (i + 1)), .int (xs (i + 2))]) (rest := []) (m7_block CW1) my_X7_block rfl rfl k_L_120 i_X7_block s_X7_block zs_0 rfl dL_law_1104 (by decide) (Nat.le_of_ble_eq_true rfl) (Nat.le_refl _) (Nat.le_refl _) rfl (fun r s1 h1 hq => ?_)
  obtain ⟨x1, rfl, rfl, hq⟩ := hq
  obtain ⟨e1, CW2, F1⟩ := hq
  have RW1 := RW0.frC F1
  refine zw.st (st' := [.int x1]) rfl ?_
  refine zw_aload_n 1 dL_law_1107 rfl rfl rfl ?_
  refine zl_arg 1 dL_law_1108 dL_law_1109 dL_law_1110 dL_law_1111 dL_law_1112 rfl rfl rfl rfl rfl (by decide) (by decide) hi hL ?_
  refine zl_arg 2 dL_law_1113 dL_law_1114 dL_law_1115 dL_law_1116 dL_law_1117 rfl rfl rfl rfl rfl (by decide) (by decide) hi hL ?_
  refine zw_callV (n := 2) (As := [.int (xs (i + 1)), .int (xs (i + 2))]) (rest := [.int x1]) (m_block RW1) my_X8_block rfl rfl k_L_123 i_X8_block s_X8_block zs_56 rfl dL_law_1118 (by decide) (Nat.le_of_ble_eq_true rfl) (Nat.le_refl _) (Nat.le_refl _) rfl (fun r s2 h2 hq => ?_)
  obtain ⟨x2, rfl, rfl, hq⟩ := hq
  obtain ⟨e2, RW2, F2⟩ := lp_R RW1 hq
  have CW3 := CW2.frR F2
  refine zw.st (st' := [.int x2, .int x1]) rfl ?_
  exact zw_icmp_eq (tg := 1902) dL_law_1121 (by decide) rfl (fun _ => go _ _ CW3 RW2) (fun c => absurd (e1.trans e2.symm) c)
set_option maxRecDepth 100000 in
set_option maxHeartbeats 4000000 in
theorem lc_26 {L i : Nat} {xs : Nat → Int32} {h : zw_H} {A : zA} (hi : i + 5 ≤ L) (hL : L ≤ 2560) (CW1 : CW h A) (RW0 : RW h A) (go : ∀ (h' : zw_H) (A' : zA), CW h' A' → RW h' A' → zj L xs 1902 [] h' i) : zj L xs 1126 [] h i := by
  refine zw_aload_n 2 dL_law_1126 rfl rfl rfl ?_
  refine zl_arg 1 dL_law_1127 dL_law_1128 dL_law_1129 dL_law_1130 dL_law_1131 rfl rfl rfl rfl rfl (by decide) (by decide) hi hL ?_
  refine zw_callV (n := 1) (As := [.int (xs (i + 1))]) (rest := []) (m7_typeOf CW1) my_X7_typeOf rfl rfl k_L_124 i_X7_typeOf s_X7_typeOf zs_0 rfl dL_law_1132 (by decide) (Nat.le_of_ble_eq_true rfl) (Nat.le_refl _) (Nat.le_refl _) rfl (fun r s1 h1 hq => ?_)
  obtain ⟨x1, rfl, rfl, hq⟩ := hq
  obtain ⟨e1, CW2, F1⟩ := hq
  have RW1 := RW0.frC F1
  refine zw.st (st' := [.int x1]) rfl ?_
  refine zw_aload_n 1 dL_law_1135 rfl rfl rfl ?_
  refine zl_arg 1 dL_law_1136 dL_law_1137 dL_law_1138 dL_law_1139 dL_law_1140 rfl rfl rfl rfl rfl (by decide) (by decide) hi hL ?_
  refine zw_callV (n := 1) (As := [.int (xs (i + 1))]) (rest := [.int x1]) (m_typeOf RW1) my_X8_typeOf rfl rfl k_L_127 i_X8_typeOf s_X8_typeOf zs_56 rfl dL_law_1141 (by decide) (Nat.le_of_ble_eq_true rfl) (Nat.le_refl _) (Nat.le_refl _) rfl (fun r s2 h2 hq => ?_)
  obtain ⟨x2, rfl, rfl, hq⟩ := hq
  obtain ⟨e2, RW2, F2⟩ := lp_R RW1 hq
  have CW3 := CW2.frR F2
  refine zw.st (st' := [.int x2, .int x1]) rfl ?_
  exact zw_icmp_eq (tg := 1902) dL_law_1144 (by decide) rfl (fun _ => go _ _ CW3 RW2) (fun c => absurd (e1.trans e2.symm) c)
set_option maxRecDepth 100000 in
set_option maxHeartbeats 4000000 in
theorem lc_27 {L i : Nat} {xs : Nat → Int32} {h : zw_H} {A : zA} (hi : i + 5 ≤ L) (hL : L ≤ 2560) (CW1 : CW h A) (RW0 : RW h A) (go : ∀ (h' : zw_H) (A' : zA), CW h' A' → RW h' A' → zj L xs 1902 [] h' i) : zj L xs 1149 [] h i := by
  refine zw_aload_n 2 dL_law_1149 rfl rfl rfl ?_
  refine zl_arg 1 dL_law_1150 dL_law_1151 dL_law_1152 dL_law_1153 dL_law_1154 rfl rfl rfl rfl rfl (by decide) (by decide) hi hL ?_
  refine zw_callV (n := 1) (As := [.int (xs (i + 1))]) (rest := []) (m7_crossings CW1) my_X7_crossings rfl rfl k_L_128 i_X7_crossings s_X7_crossings zs_0 rfl dL_law_1155 (by decide) (Nat.le_of_ble_eq_true rfl) (Nat.le_refl _) (Nat.le_refl _) rfl (fun r s1 h1 hq => ?_)
  obtain ⟨x1, rfl, rfl, hq⟩ := hq
  obtain ⟨e1, CW2, F1⟩ := hq
  have RW1 := RW0.frC F1
  refine zw.st (st' := [.int x1]) rfl ?_
  refine zw_aload_n 1 dL_law_1158 rfl rfl rfl ?_
  refine zl_arg 1 dL_law_1159 dL_law_1160 dL_law_1161 dL_law_1162 dL_law_1163 rfl rfl rfl rfl rfl (by decide) (by decide) hi hL ?_
  refine zw_callV (n := 1) (As := [.int (xs (i + 1))]) (rest := [.int x1]) (m_crossings RW1) my_X8_crossings rfl rfl k_L_131 i_X8_crossings s_X8_crossings zs_56 rfl dL_law_1164 (by decide) (Nat.le_of_ble_eq_true rfl) (Nat.le_refl _) (Nat.le_refl _) rfl (fun r s2 h2 hq => ?_)
  obtain ⟨x2, rfl, rfl, hq⟩ := hq
  obtain ⟨e2, RW2, F2⟩ := lp_R RW1 hq
  have CW3 := CW2.frR F2
  refine zw.st (st' := [.int x2, .int x1]) rfl ?_
  exact zw_icmp_eq (tg := 1902) dL_law_1167 (by decide) rfl (fun _ => go _ _ CW3 RW2) (fun c => absurd (e1.trans e2.symm) c)
set_option maxRecDepth 100000 in
set_option maxHeartbeats 4000000 in
theorem lc_28 {L i : Nat} {xs : Nat → Int32} {h : zw_H} {A : zA} (hi : i + 5 ≤ L) (hL : L ≤ 2560) (CW1 : CW h A) (RW0 : RW h A) (go : ∀ (h' : zw_H) (A' : zA), CW h' A' → RW h' A' → zj L xs 1902 [] h' i) : zj L xs 1172 [] h i := by
  refine zw_aload_n 2 dL_law_1172 rfl rfl rfl ?_
  refine zl_arg 1 dL_law_1173 dL_law_1174 dL_law_1175 dL_law_1176 dL_law_1177 rfl rfl rfl rfl rfl (by decide) (by decide) hi hL ?_
  refine zw_callV (n := 1) (As := [.int (xs (i + 1))]) (rest := []) (m7_index CW1) my_X7_index rfl rfl k_L_132 i_X7_index s_X7_index zs_0 rfl dL_law_1178 (by decide) (Nat.le_of_ble_eq_true rfl) (Nat.le_refl _) (Nat.le_refl _) rfl (fun r s1 h1 hq => ?_)
  obtain ⟨x1, rfl, rfl, hq⟩ := hq
  obtain ⟨e1, CW2, F1⟩ := lp_C CW1 hq
  have RW1 := RW0.frC F1
  refine zw.st (st' := [.int x1]) rfl ?_
  refine zw_aload_n 1 dL_law_1181 rfl rfl rfl ?_
  refine zl_arg 1 dL_law_1182 dL_law_1183 dL_law_1184 dL_law_1185 dL_law_1186 rfl rfl rfl rfl rfl (by decide) (by decide) hi hL ?_
  refine zw_callV (n := 1) (As := [.int (xs (i + 1))]) (rest := [.int x1]) (m_index RW1) my_X8_index rfl rfl k_L_135 i_X8_index s_X8_index zs_56 rfl dL_law_1187 (by decide) (Nat.le_of_ble_eq_true rfl) (Nat.le_refl _) (Nat.le_refl _) rfl (fun r s2 h2 hq => ?_)
  obtain ⟨x2, rfl, rfl, hq⟩ := hq
  obtain ⟨e2, RW2, F2⟩ := lp_R RW1 hq
  have CW3 := CW2.frR F2
  refine zw.st (st' := [.int x2, .int x1]) rfl ?_
  exact zw_icmp_eq (tg := 1902) dL_law_1190 (by decide) rfl (fun _ => go _ _ CW3 RW2) (fun c => absurd (e1.trans e2.symm) c)
set_option maxRecDepth 100000 in
set_option maxHeartbeats 4000000 in
theorem lc_29 {L i : Nat} {xs : Nat → Int32} {h : zw_H} {A : zA} (hi : i + 5 ≤ L) (hL : L ≤ 2560) (CW1 : CW h A) (RW0 : RW h A) (go : ∀ (h' : zw_H) (A' : zA), CW h' A' → RW h' A' → zj L xs 1902 [] h' i) : zj L xs 1195 [] h i := by
  refine zw_aload_n 2 dL_law_1195 rfl rfl rfl ?_
  refine zl_arg 1 dL_law_1196 dL_law_1197 dL_law_1198 dL_law_1199 dL_law_1200 rfl rfl rfl rfl rfl (by decide) (by decide) hi hL ?_
  refine zw_callV (n := 1) (As := [.int (xs (i + 1))]) (rest := []) (m7_why CW1) my_X7_why rfl rfl k_L_136 i_X7_why s_X7_why zs_0 rfl dL_law_1201 (by decide) (Nat.le_of_ble_eq_true rfl) (Nat.le_refl _) (Nat.le_refl _) rfl (fun r s1 h1 hq => ?_)
  obtain ⟨x1, rfl, rfl, hq⟩ := hq
  obtain ⟨e1, CW2, F1⟩ := hq
  have RW1 := RW0.frC F1
  refine zw.st (st' := [.int x1]) rfl ?_
  refine zw_aload_n 1 dL_law_1204 rfl rfl rfl ?_
  refine zl_arg 1 dL_law_1205 dL_law_1206 dL_law_1207 dL_law_1208 dL_law_1209 rfl rfl rfl rfl rfl (by decide) (by decide) hi hL ?_
  refine zw_callV (n := 1) (As := [.int (xs (i + 1))]) (rest := [.int x1]) (m_why RW1) my_X8_why rfl rfl k_L_139 i_X8_why s_X8_why zs_56 rfl dL_law_1210 (by decide) (Nat.le_of_ble_eq_true rfl) (Nat.le_refl _) (Nat.le_refl _) rfl (fun r s2 h2 hq => ?_)
  obtain ⟨x2, rfl, rfl, hq⟩ := hq
  obtain ⟨e2, RW2, F2⟩ := lp_R RW1 hq
  have CW3 := CW2.frR F2
  refine zw.st (st' := [.int x2, .int x1]) rfl ?_
  exact zw_icmp_eq (tg := 1902) dL_law_1213 (by decide) rfl (fun _ => go _ _ CW3 RW2) (fun c => absurd (e1.trans e2.symm) c)
set_option maxRecDepth 100000 in
set_option maxHeartbeats 4000000 in
theorem lc_30 {L i : Nat} {xs : Nat → Int32} {h : zw_H} {A : zA} (hi : i + 5 ≤ L) (hL : L ≤ 2560) (CW1 : CW h A) (RW0 : RW h A) (go : ∀ (h' : zw_H) (A' : zA), CW h' A' → RW h' A' → zj L xs 1902 [] h' i) : zj L xs 1218 [] h i := by
  refine zw_aload_n 2 dL_law_1218 rfl rfl rfl ?_
  refine zl_arg 1 dL_law_1219 dL_law_1220 dL_law_1221 dL_law_1222 dL_law_1223 rfl rfl rfl rfl rfl (by decide) (by decide) hi hL ?_
  refine zw_callV (n := 1) (As := [.int (xs (i + 1))]) (rest := []) (m7_where CW1) my_X7_where rfl rfl k_L_140 i_X7_where s_X7_where zs_0 rfl dL_law_1224 (by decide) (Nat.le_of_ble_eq_true rfl) (Nat.le_refl _) (Nat.le_refl _) rfl (fun r s1 h1 hq => ?_)
  obtain ⟨x1, rfl, rfl, hq⟩ := hq
  obtain ⟨e1, CW2, F1⟩ := hq
  have RW1 := RW0.frC F1
  refine zw.st (st' := [.int x1]) rfl ?_
  refine zw_aload_n 1 dL_law_1227 rfl rfl rfl ?_
  refine zl_arg 1 dL_law_1228 dL_law_1229 dL_law_1230 dL_law_1231 dL_law_1232 rfl rfl rfl rfl rfl (by decide) (by decide) hi hL ?_
  refine zw_callV (n := 1) (As := [.int (xs (i + 1))]) (rest := [.int x1]) (m_where RW1) my_X8_where rfl rfl k_L_143 i_X8_where s_X8_where zs_56 rfl dL_law_1233 (by decide) (Nat.le_of_ble_eq_true rfl) (Nat.le_refl _) (Nat.le_refl _) rfl (fun r s2 h2 hq => ?_)
  obtain ⟨x2, rfl, rfl, hq⟩ := hq
  obtain ⟨e2, RW2, F2⟩ := lp_R RW1 hq
  have CW3 := CW2.frR F2
  refine zw.st (st' := [.int x2, .int x1]) rfl ?_
  exact zw_icmp_eq (tg := 1902) dL_law_1236 (by decide) rfl (fun _ => go _ _ CW3 RW2) (fun c => absurd (e1.trans e2.symm) c)
set_option maxRecDepth 100000 in
set_option maxHeartbeats 4000000 in
theorem lc_31 {L i : Nat} {xs : Nat → Int32} {h : zw_H} {A : zA} (hi : i + 5 ≤ L) (hL : L ≤ 2560) (CW1 : CW h A) (RW0 : RW h A) (go : ∀ (h' : zw_H) (A' : zA), CW h' A' → RW h' A' → zj L xs 1902 [] h' i) : zj L xs 1241 [] h i := by
  refine zw_aload_n 2 dL_law_1241 rfl rfl rfl ?_
  refine zw_callV (n := 0) (As := []) (rest := []) (m7_count CW1) my_X7_count rfl rfl k_L_144 i_X7_count s_X7_count zs_0 rfl dL_law_1242 (by decide) (Nat.le_of_ble_eq_true rfl) (Nat.le_refl _) (Nat.le_refl _) rfl (fun r s1 h1 hq => ?_)
  obtain ⟨x1, rfl, rfl, hq⟩ := hq
  obtain ⟨e1, CW2, F1⟩ := lp_C CW1 hq
  have RW1 := RW0.frC F1
  refine zw.st (st' := [.int x1]) rfl ?_
  refine zw_aload_n 1 dL_law_1245 rfl rfl rfl ?_
  refine zw_callV (n := 0) (As := []) (rest := [.int x1]) (m_count RW1) my_X8_count rfl rfl k_L_147 i_X8_count s_X8_count zs_56 rfl dL_law_1246 (by decide) (Nat.le_of_ble_eq_true rfl) (Nat.le_refl _) (Nat.le_refl _) rfl (fun r s2 h2 hq => ?_)
  obtain ⟨x2, rfl, rfl, hq⟩ := hq
  obtain ⟨e2, RW2, F2⟩ := lp_R RW1 hq
  have CW3 := CW2.frR F2
  refine zw.st (st' := [.int x2, .int x1]) rfl ?_
  exact zw_icmp_eq (tg := 1902) dL_law_1249 (by decide) rfl (fun _ => go _ _ CW3 RW2) (fun c => absurd (e1.trans e2.symm) c)
set_option maxRecDepth 100000 in
set_option maxHeartbeats 4000000 in
theorem lc_32 {L i : Nat} {xs : Nat → Int32} {h : zw_H} {A : zA} (hi : i + 5 ≤ L) (hL : L ≤ 2560) (CW1 : CW h A) (RW0 : RW h A) (go : ∀ (h' : zw_H) (A' : zA), CW h' A' → RW h' A' → zj L xs 1902 [] h' i) : zj L xs 1254 [] h i := by
  refine zw_aload_n 2 dL_law_1254 rfl rfl rfl ?_
  refine zl_arg 1 dL_law_1255 dL_law_1256 dL_law_1257 dL_law_1258 dL_law_1259 rfl rfl rfl rfl rfl (by decide) (by decide) hi hL ?_
  refine zw_callV (n := 1) (As := [.int (xs (i + 1))]) (rest := []) (m7_countWith CW1) my_X7_countWith rfl rfl k_L_148 i_X7_countWith s_X7_countWith zs_0 rfl dL_law_1260 (by decide) (Nat.le_of_ble_eq_true rfl) (Nat.le_refl _) (Nat.le_refl _) rfl (fun r s1 h1 hq => ?_)
  obtain ⟨x1, rfl, rfl, hq⟩ := hq
  obtain ⟨e1, CW2, F1⟩ := lp_C CW1 hq
  have RW1 := RW0.frC F1
  refine zw.st (st' := [.int x1]) rfl ?_
  refine zw_aload_n 1 dL_law_1263 rfl rfl rfl ?_
  refine zl_arg 1 dL_law_1264 dL_law_1265 dL_law_1266 dL_law_1267 dL_law_1268 rfl rfl rfl rfl rfl (by decide) (by decide) hi hL ?_
  refine zw_callV (n := 1) (As := [.int (xs (i + 1))]) (rest := [.int x1]) (m_countWith RW1) my_X8_countWith rfl rfl k_L_151 i_X8_countWith s_X8_countWith zs_56 rfl dL_law_1269 (by decide) (Nat.le_of_ble_eq_true rfl) (Nat.le_refl _) (Nat.le_refl _) rfl (fun r s2 h2 hq => ?_)
  obtain ⟨x2, rfl, rfl, hq⟩ := hq
  obtain ⟨e2, RW2, F2⟩ := lp_R RW1 hq
  have CW3 := CW2.frR F2
  refine zw.st (st' := [.int x2, .int x1]) rfl ?_
  exact zw_icmp_eq (tg := 1902) dL_law_1272 (by decide) rfl (fun _ => go _ _ CW3 RW2) (fun c => absurd (e1.trans e2.symm) c)
set_option maxRecDepth 100000 in
set_option maxHeartbeats 4000000 in
theorem lc_33 {L i : Nat} {xs : Nat → Int32} {h : zw_H} {A : zA} (hi : i + 5 ≤ L) (hL : L ≤ 2560) (CW1 : CW h A) (RW0 : RW h A) (go : ∀ (h' : zw_H) (A' : zA), CW h' A' → RW h' A' → zj L xs 1902 [] h' i) : zj L xs 1277 [] h i := by
  refine zw_aload_n 2 dL_law_1277 rfl rfl rfl ?_
  refine zl_arg 1 dL_law_1278 dL_law_1279 dL_law_1280 dL_law_1281 dL_law_1282 rfl rfl rfl rfl rfl (by decide) (by decide) hi hL ?_
  refine zl_arg 2 dL_law_1283 dL_law_1284 dL_law_1285 dL_law_1286 dL_law_1287 rfl rfl rfl rfl rfl (by decide) (by decide) hi hL ?_
  refine zw_callV (n := 2) (As := [.int (xs (i + 1)), .int (xs (i + 2))]) (rest := []) (m7_below CW1) my_X7_below rfl rfl k_L_152 i_X7_below s_X7_below zs_0 rfl dL_law_1288 (by decide) (Nat.le_of_ble_eq_true rfl) (Nat.le_refl _) (Nat.le_refl _) rfl (fun r s1 h1 hq => ?_)
  obtain ⟨x1, rfl, rfl, hq⟩ := hq
  obtain ⟨e1, CW2, F1⟩ := lp_C CW1 hq
  have RW1 := RW0.frC F1
  refine zw.st (st' := [.int x1]) rfl ?_
  refine zw_aload_n 1 dL_law_1291 rfl rfl rfl ?_
  refine zl_arg 1 dL_law_1292 dL_law_1293 dL_law_1294 dL_law_1295 dL_law_1296 rfl rfl rfl rfl rfl (by decide) (by decide) hi hL ?_
  refine zl_arg 2 dL_law_1297 dL_law_1298 dL_law_1299 dL_law_1300 dL_law_1301 rfl rfl rfl rfl rfl (by decide) (by decide) hi hL ?_
  refine zw_callV (n := 2) (As := [.int (xs (i + 1)), .int (xs (i + 2))]) (rest := [.int x1]) (m_below RW1) my_X8_below rfl rfl k_L_155 i_X8_below s_X8_below zs_56 rfl dL_law_1302 (by decide) (Nat.le_of_ble_eq_true rfl) (Nat.le_refl _) (Nat.le_refl _) rfl (fun r s2 h2 hq => ?_)
  obtain ⟨x2, rfl, rfl, hq⟩ := hq
  obtain ⟨e2, RW2, F2⟩ := lp_R RW1 hq
  have CW3 := CW2.frR F2
  refine zw.st (st' := [.int x2, .int x1]) rfl ?_
  exact zw_icmp_eq (tg := 1902) dL_law_1305 (by decide) rfl (fun _ => go _ _ CW3 RW2) (fun c => absurd (e1.trans e2.symm) c)
set_option maxRecDepth 100000 in
set_option maxHeartbeats 4000000 in
theorem lc_34 {L i : Nat} {xs : Nat → Int32} {h : zw_H} {A : zA} (hi : i + 5 ≤ L) (hL : L ≤ 2560) (CW1 : CW h A) (RW0 : RW h A) (go : ∀ (h' : zw_H) (A' : zA), CW h' A' → RW h' A' → zj L xs 1902 [] h' i) : zj L xs 1310 [] h i := by
  refine zw_aload_n 2 dL_law_1310 rfl rfl rfl ?_
  refine zl_arg 1 dL_law_1311 dL_law_1312 dL_law_1313 dL_law_1314 dL_law_1315 rfl rfl rfl rfl rfl (by decide) (by decide) hi hL ?_
  refine zl_arg 2 dL_law_1316 dL_law_1317 dL_law_1318 dL_law_1319 dL_law_1320 rfl rfl rfl rfl rfl (by decide) (by decide) hi hL ?_
  refine zl_bool dL_law_1321 dL_law_1324 dL_law_1325 dL_law_1328 rfl rfl rfl rfl ?_
  refine zw_callV (n := 2) (As := [.int (xs (i + 1)), .int (bz (xs (i + 2)))]) (rest := []) (m7_covers CW1 (bz_o _)) my_X7_covers rfl rfl k_L_156 i_X7_covers s_X7_covers zs_0 rfl dL_law_1329 (by decide) (Nat.le_of_ble_eq_true rfl) (Nat.le_refl _) (Nat.le_refl _) rfl (fun r s1 h1 hq => ?_)
  obtain ⟨x1, rfl, rfl, hq⟩ := hq
  obtain ⟨e1, CW2, F1⟩ := hq
  have RW1 := RW0.frC F1
  refine zw.st (st' := [.int x1]) rfl ?_
  refine zw_aload_n 1 dL_law_1332 rfl rfl rfl ?_
  refine zl_arg 1 dL_law_1333 dL_law_1334 dL_law_1335 dL_law_1336 dL_law_1337 rfl rfl rfl rfl rfl (by decide) (by decide) hi hL ?_
  refine zl_arg 2 dL_law_1338 dL_law_1339 dL_law_1340 dL_law_1341 dL_law_1342 rfl rfl rfl rfl rfl (by decide) (by decide) hi hL ?_
  refine zl_bool dL_law_1343 dL_law_1346 dL_law_1347 dL_law_1350 rfl rfl rfl rfl ?_
  refine zw_callV (n := 2) (As := [.int (xs (i + 1)), .int (bz (xs (i + 2)))]) (rest := [.int x1]) (m_covers RW1 (bz_o _)) my_X8_covers rfl rfl k_L_159 i_X8_covers s_X8_covers zs_56 rfl dL_law_1351 (by decide) (Nat.le_of_ble_eq_true rfl) (Nat.le_refl _) (Nat.le_refl _) rfl (fun r s2 h2 hq => ?_)
  obtain ⟨x2, rfl, rfl, hq⟩ := hq
  obtain ⟨e2, RW2, F2⟩ := lp_R RW1 hq
  have CW3 := CW2.frR F2
  refine zw.st (st' := [.int x2, .int x1]) rfl ?_
  exact zw_icmp_eq (tg := 1902) dL_law_1354 (by decide) rfl (fun _ => go _ _ CW3 RW2) (fun c => absurd (e1.trans e2.symm) c)
set_option maxRecDepth 100000 in
set_option maxHeartbeats 4000000 in
theorem lc_35 {L i : Nat} {xs : Nat → Int32} {h : zw_H} {A : zA} (hi : i + 5 ≤ L) (hL : L ≤ 2560) (CW1 : CW h A) (RW0 : RW h A) (go : ∀ (h' : zw_H) (A' : zA), CW h' A' → RW h' A' → zj L xs 1902 [] h' i) : zj L xs 1359 [] h i := by
  refine zw_aload_n 2 dL_law_1359 rfl rfl rfl ?_
  refine zl_arg 1 dL_law_1360 dL_law_1361 dL_law_1362 dL_law_1363 dL_law_1364 rfl rfl rfl rfl rfl (by decide) (by decide) hi hL ?_
  refine zl_arg 2 dL_law_1365 dL_law_1366 dL_law_1367 dL_law_1368 dL_law_1369 rfl rfl rfl rfl rfl (by decide) (by decide) hi hL ?_
  refine zl_arg 3 dL_law_1370 dL_law_1371 dL_law_1372 dL_law_1373 dL_law_1374 rfl rfl rfl rfl rfl (by decide) (by decide) hi hL ?_
  refine zl_bool dL_law_1375 dL_law_1378 dL_law_1379 dL_law_1382 rfl rfl rfl rfl ?_
  refine zw_callV (n := 3) (As := [.int (xs (i + 1)), .int (xs (i + 2)), .int (bz (xs (i + 3)))]) (rest := []) (m7_bounds CW1 (bz_o _)) my_X7_bounds rfl rfl k_L_160 i_X7_bounds s_X7_bounds zs_0 rfl dL_law_1383 (by decide) (Nat.le_of_ble_eq_true rfl) (Nat.le_refl _) (Nat.le_refl _) rfl (fun r s1 h1 hq => ?_)
  obtain ⟨x1, rfl, rfl, hq⟩ := hq
  obtain ⟨e1, CW2, F1⟩ := hq
  have RW1 := RW0.frC F1
  refine zw.st (st' := [.int x1]) rfl ?_
  refine zw_aload_n 1 dL_law_1386 rfl rfl rfl ?_
  refine zl_arg 1 dL_law_1387 dL_law_1388 dL_law_1389 dL_law_1390 dL_law_1391 rfl rfl rfl rfl rfl (by decide) (by decide) hi hL ?_
  refine zl_arg 2 dL_law_1392 dL_law_1393 dL_law_1394 dL_law_1395 dL_law_1396 rfl rfl rfl rfl rfl (by decide) (by decide) hi hL ?_
  refine zl_arg 3 dL_law_1397 dL_law_1398 dL_law_1399 dL_law_1400 dL_law_1401 rfl rfl rfl rfl rfl (by decide) (by decide) hi hL ?_
  refine zl_bool dL_law_1402 dL_law_1405 dL_law_1406 dL_law_1409 rfl rfl rfl rfl ?_
  refine zw_callV (n := 3) (As := [.int (xs (i + 1)), .int (xs (i + 2)), .int (bz (xs (i + 3)))]) (rest := [.int x1]) (m_bounds RW1 (bz_o _)) my_X8_bounds rfl rfl k_L_163 i_X8_bounds s_X8_bounds zs_56 rfl dL_law_1410 (by decide) (Nat.le_of_ble_eq_true rfl) (Nat.le_refl _) (Nat.le_refl _) rfl (fun r s2 h2 hq => ?_)
  obtain ⟨x2, rfl, rfl, hq⟩ := hq
  obtain ⟨e2, RW2, F2⟩ := hq
  have CW3 := CW2.frR F2
  refine zw.st (st' := [.int x2, .int x1]) rfl ?_
  exact zw_icmp_eq (tg := 1902) dL_law_1413 (by decide) rfl (fun _ => go _ _ CW3 RW2) (fun c => absurd (e1.trans e2.symm) c)
set_option maxRecDepth 100000 in
set_option maxHeartbeats 4000000 in
theorem lc_36 {L i : Nat} {xs : Nat → Int32} {h : zw_H} {A : zA} (hi : i + 5 ≤ L) (hL : L ≤ 2560) (CW1 : CW h A) (RW0 : RW h A) (go : ∀ (h' : zw_H) (A' : zA), CW h' A' → RW h' A' → zj L xs 1902 [] h' i) : zj L xs 1418 [] h i := by
  refine zw_aload_n 2 dL_law_1418 rfl rfl rfl ?_
  refine zl_arg 1 dL_law_1419 dL_law_1420 dL_law_1421 dL_law_1422 dL_law_1423 rfl rfl rfl rfl rfl (by decide) (by decide) hi hL ?_
  refine zl_arg 2 dL_law_1424 dL_law_1425 dL_law_1426 dL_law_1427 dL_law_1428 rfl rfl rfl rfl rfl (by decide) (by decide) hi hL ?_
  refine zl_arg 3 dL_law_1429 dL_law_1430 dL_law_1431 dL_law_1432 dL_law_1433 rfl rfl rfl rfl rfl (by decide) (by decide) hi hL ?_
  refine zl_bool dL_law_1434 dL_law_1437 dL_law_1438 dL_law_1441 rfl rfl rfl rfl ?_
  refine zl_arg 4 dL_law_1442 dL_law_1443 dL_law_1444 dL_law_1445 dL_law_1446 rfl rfl rfl rfl rfl (by decide) (by decide) hi hL ?_
  refine zw_callV (n := 4) (As := [.int (xs (i + 1)), .int (xs (i + 2)), .int (bz (xs (i + 3))), .int (xs (i + 4))]) (rest := []) (m7_bound CW1 (bz_o _)) my_X7_bound rfl rfl k_L_164 i_X7_bound s_X7_bound zs_0 rfl dL_law_1447 (by decide) (Nat.le_of_ble_eq_true rfl) (Nat.le_refl _) (Nat.le_refl _) rfl (fun r s1 h1 hq => ?_)
  obtain ⟨x1, rfl, rfl, hq⟩ := hq
  obtain ⟨e1, CW2, F1⟩ := hq
  have RW1 := RW0.frC F1
  refine zw.st (st' := [.int x1]) rfl ?_
  refine zw_aload_n 1 dL_law_1450 rfl rfl rfl ?_
  refine zl_arg 1 dL_law_1451 dL_law_1452 dL_law_1453 dL_law_1454 dL_law_1455 rfl rfl rfl rfl rfl (by decide) (by decide) hi hL ?_
  refine zl_arg 2 dL_law_1456 dL_law_1457 dL_law_1458 dL_law_1459 dL_law_1460 rfl rfl rfl rfl rfl (by decide) (by decide) hi hL ?_
  refine zl_arg 3 dL_law_1461 dL_law_1462 dL_law_1463 dL_law_1464 dL_law_1465 rfl rfl rfl rfl rfl (by decide) (by decide) hi hL ?_
  refine zl_bool dL_law_1466 dL_law_1469 dL_law_1470 dL_law_1473 rfl rfl rfl rfl ?_
  refine zl_arg 4 dL_law_1474 dL_law_1475 dL_law_1476 dL_law_1477 dL_law_1478 rfl rfl rfl rfl rfl (by decide) (by decide) hi hL ?_
  refine zw_callV (n := 4) (As := [.int (xs (i + 1)), .int (xs (i + 2)), .int (bz (xs (i + 3))), .int (xs (i + 4))]) (rest := [.int x1]) (m_bound RW1 (bz_o _)) my_X8_bound rfl rfl k_L_168 i_X8_bound s_X8_bound zs_56 rfl dL_law_1479 (by decide) (Nat.le_of_ble_eq_true rfl) (Nat.le_refl _) (Nat.le_refl _) rfl (fun r s2 h2 hq => ?_)
  obtain ⟨x2, rfl, rfl, hq⟩ := hq
  obtain ⟨e2, RW2, F2⟩ := hq
  have CW3 := CW2.frR F2
  refine zw.st (st' := [.int x2, .int x1]) rfl ?_
  exact zw_icmp_eq (tg := 1902) dL_law_1482 (by decide) rfl (fun _ => go _ _ CW3 RW2) (fun c => absurd (e1.trans e2.symm) c)
set_option maxRecDepth 100000 in
set_option maxHeartbeats 4000000 in
theorem lc_37 {L i : Nat} {xs : Nat → Int32} {h : zw_H} {A : zA} (hi : i + 5 ≤ L) (hL : L ≤ 2560) (CW1 : CW h A) (RW0 : RW h A) (go : ∀ (h' : zw_H) (A' : zA), CW h' A' → RW h' A' → zj L xs 1902 [] h' i) : zj L xs 1487 [] h i := by
  refine zw_aload_n 2 dL_law_1487 rfl rfl rfl ?_
  refine zl_arg 1 dL_law_1488 dL_law_1489 dL_law_1490 dL_law_1491 dL_law_1492 rfl rfl rfl rfl rfl (by decide) (by decide) hi hL ?_
  refine zl_arg 2 dL_law_1493 dL_law_1494 dL_law_1495 dL_law_1496 dL_law_1497 rfl rfl rfl rfl rfl (by decide) (by decide) hi hL ?_
  refine zw_callV (n := 2) (As := [.int (xs (i + 1)), .int (xs (i + 2))]) (rest := []) (m7_interval CW1) my_X7_interval rfl rfl k_L_169 i_X7_interval s_X7_interval zs_0 rfl dL_law_1498 (by decide) (Nat.le_of_ble_eq_true rfl) (Nat.le_refl _) (Nat.le_refl _) rfl (fun r s1 h1 hq => ?_)
  obtain ⟨x1, rfl, rfl, hq⟩ := hq
  obtain ⟨e1, CW2, F1⟩ := hq
  have RW1 := RW0.frC F1
  refine zw.st (st' := [.int x1]) rfl ?_
  refine zw_aload_n 1 dL_law_1501 rfl rfl rfl ?_
  refine zl_arg 1 dL_law_1502 dL_law_1503 dL_law_1504 dL_law_1505 dL_law_1506 rfl rfl rfl rfl rfl (by decide) (by decide) hi hL ?_
  refine zl_arg 2 dL_law_1507 dL_law_1508 dL_law_1509 dL_law_1510 dL_law_1511 rfl rfl rfl rfl rfl (by decide) (by decide) hi hL ?_
  refine zw_callV (n := 2) (As := [.int (xs (i + 1)), .int (xs (i + 2))]) (rest := [.int x1]) (m_interval RW1) my_X8_interval rfl rfl k_L_172 i_X8_interval s_X8_interval zs_56 rfl dL_law_1512 (by decide) (Nat.le_of_ble_eq_true rfl) (Nat.le_refl _) (Nat.le_refl _) rfl (fun r s2 h2 hq => ?_)
  obtain ⟨x2, rfl, rfl, hq⟩ := hq
  obtain ⟨e2, RW2, F2⟩ := lp_R RW1 hq
  have CW3 := CW2.frR F2
  refine zw.st (st' := [.int x2, .int x1]) rfl ?_
  exact zw_icmp_eq (tg := 1902) dL_law_1515 (by decide) rfl (fun _ => go _ _ CW3 RW2) (fun c => absurd (e1.trans e2.symm) c)
set_option maxRecDepth 100000 in
set_option maxHeartbeats 4000000 in
theorem lc_38 {L i : Nat} {xs : Nat → Int32} {h : zw_H} {A : zA} (hi : i + 5 ≤ L) (hL : L ≤ 2560) (CW1 : CW h A) (RW0 : RW h A) (go : ∀ (h' : zw_H) (A' : zA), CW h' A' → RW h' A' → zj L xs 1902 [] h' i) : zj L xs 1520 [] h i := by
  refine zw_aload_n 2 dL_law_1520 rfl rfl rfl ?_
  refine zl_arg 1 dL_law_1521 dL_law_1522 dL_law_1523 dL_law_1524 dL_law_1525 rfl rfl rfl rfl rfl (by decide) (by decide) hi hL ?_
  refine zl_arg 2 dL_law_1526 dL_law_1527 dL_law_1528 dL_law_1529 dL_law_1530 rfl rfl rfl rfl rfl (by decide) (by decide) hi hL ?_
  refine zw_callV (n := 2) (As := [.int (xs (i + 1)), .int (xs (i + 2))]) (rest := []) (m7_moebius CW1) my_X7_moebius rfl rfl k_L_173 i_X7_moebius s_X7_moebius zs_0 rfl dL_law_1531 (by decide) (Nat.le_of_ble_eq_true rfl) (Nat.le_refl _) (Nat.le_refl _) rfl (fun r s1 h1 hq => ?_)
  obtain ⟨x1, rfl, rfl, hq⟩ := hq
  obtain ⟨e1, CW2, F1⟩ := hq
  have RW1 := RW0.frC F1
  refine zw.st (st' := [.long x1]) rfl ?_
  refine zw_aload_n 1 dL_law_1534 rfl rfl rfl ?_
  refine zl_arg 1 dL_law_1535 dL_law_1536 dL_law_1537 dL_law_1538 dL_law_1539 rfl rfl rfl rfl rfl (by decide) (by decide) hi hL ?_
  refine zl_arg 2 dL_law_1540 dL_law_1541 dL_law_1542 dL_law_1543 dL_law_1544 rfl rfl rfl rfl rfl (by decide) (by decide) hi hL ?_
  refine zw_callV (n := 2) (As := [.int (xs (i + 1)), .int (xs (i + 2))]) (rest := [.long x1]) (m_moebius RW1) my_X8_moebius rfl rfl k_L_177 i_X8_moebius s_X8_moebius zs_56 rfl dL_law_1545 (by decide) (Nat.le_of_ble_eq_true rfl) (Nat.le_refl _) (Nat.le_refl _) rfl (fun r s2 h2 hq => ?_)
  obtain ⟨x2, rfl, rfl, hq⟩ := hq
  obtain ⟨e2, RW2, F2⟩ := hq
  have CW3 := CW2.frR F2
  refine zw.st (st' := [.long x2, .long x1]) rfl ?_
  refine zw_lcmp dL_law_1548 rfl ?_
  exact zw_if_eq (tg := 1902) dL_law_1549 (by decide) rfl (fun _ => go _ _ CW3 RW2) (fun c => absurd (lcmp0 (e1.trans e2.symm)) c)
set_option maxRecDepth 100000 in
set_option maxHeartbeats 4000000 in
theorem lc_39 {L i : Nat} {xs : Nat → Int32} {h : zw_H} {A : zA} (hi : i + 5 ≤ L) (hL : L ≤ 2560) (CW1 : CW h A) (RW0 : RW h A) (go : ∀ (h' : zw_H) (A' : zA), CW h' A' → RW h' A' → zj L xs 1902 [] h' i) : zj L xs 1554 [] h i := by
  refine zw_aload_n 2 dL_law_1554 rfl rfl rfl ?_
  refine zl_arg 1 dL_law_1555 dL_law_1556 dL_law_1557 dL_law_1558 dL_law_1559 rfl rfl rfl rfl rfl (by decide) (by decide) hi hL ?_
  refine zl_arg 2 dL_law_1560 dL_law_1561 dL_law_1562 dL_law_1563 dL_law_1564 rfl rfl rfl rfl rfl (by decide) (by decide) hi hL ?_
  refine zl_arg 3 dL_law_1565 dL_law_1566 dL_law_1567 dL_law_1568 dL_law_1569 rfl rfl rfl rfl rfl (by decide) (by decide) hi hL ?_
  refine zw_callV (n := 3) (As := [.int (xs (i + 1)), .int (xs (i + 2)), .int (xs (i + 3))]) (rest := []) (m7_chains CW1) my_X7_chains rfl rfl k_L_178 i_X7_chains s_X7_chains zs_0 rfl dL_law_1570 (by decide) (Nat.le_of_ble_eq_true rfl) (Nat.le_refl _) (Nat.le_refl _) rfl (fun r s1 h1 hq => ?_)
  obtain ⟨x1, rfl, rfl, hq⟩ := hq
  obtain ⟨e1, CW2, F1⟩ := hq
  have RW1 := RW0.frC F1
  refine zw.st (st' := [.long x1]) rfl ?_
  refine zw_aload_n 1 dL_law_1573 rfl rfl rfl ?_
  refine zl_arg 1 dL_law_1574 dL_law_1575 dL_law_1576 dL_law_1577 dL_law_1578 rfl rfl rfl rfl rfl (by decide) (by decide) hi hL ?_
  refine zl_arg 2 dL_law_1579 dL_law_1580 dL_law_1581 dL_law_1582 dL_law_1583 rfl rfl rfl rfl rfl (by decide) (by decide) hi hL ?_
  refine zl_arg 3 dL_law_1584 dL_law_1585 dL_law_1586 dL_law_1587 dL_law_1588 rfl rfl rfl rfl rfl (by decide) (by decide) hi hL ?_
  refine zw_callV (n := 3) (As := [.int (xs (i + 1)), .int (xs (i + 2)), .int (xs (i + 3))]) (rest := [.long x1]) (m_chains RW1) my_X8_chains rfl rfl k_L_182 i_X8_chains s_X8_chains zs_56 rfl dL_law_1589 (by decide) (Nat.le_of_ble_eq_true rfl) (Nat.le_refl _) (Nat.le_refl _) rfl (fun r s2 h2 hq => ?_)
  obtain ⟨x2, rfl, rfl, hq⟩ := hq
  obtain ⟨e2, RW2, F2⟩ := hq
  have CW3 := CW2.frR F2
  refine zw.st (st' := [.long x2, .long x1]) rfl ?_
  refine zw_lcmp dL_law_1592 rfl ?_
  exact zw_if_eq (tg := 1902) dL_law_1593 (by decide) rfl (fun _ => go _ _ CW3 RW2) (fun c => absurd (lcmp0 (e1.trans e2.symm)) c)
set_option maxRecDepth 100000 in
set_option maxHeartbeats 4000000 in
theorem lc_40 {L i : Nat} {xs : Nat → Int32} {h : zw_H} {A : zA} (hi : i + 5 ≤ L) (hL : L ≤ 2560) (CW1 : CW h A) (RW0 : RW h A) (go : ∀ (h' : zw_H) (A' : zA), CW h' A' → RW h' A' → zj L xs 1902 [] h' i) : zj L xs 1598 [] h i := by
  refine zw_aload_n 2 dL_law_1598 rfl rfl rfl ?_
  refine zl_arg 1 dL_law_1599 dL_law_1600 dL_law_1601 dL_law_1602 dL_law_1603 rfl rfl rfl rfl rfl (by decide) (by decide) hi hL ?_
  refine zl_arg 2 dL_law_1604 dL_law_1605 dL_law_1606 dL_law_1607 dL_law_1608 rfl rfl rfl rfl rfl (by decide) (by decide) hi hL ?_
  refine zw_callV (n := 2) (As := [.int (xs (i + 1)), .int (xs (i + 2))]) (rest := []) (m7_maximalChains CW1) my_X7_maximalChains rfl rfl k_L_183 i_X7_maximalChains s_X7_maximalChains zs_0 rfl dL_law_1609 (by decide) (Nat.le_of_ble_eq_true rfl) (Nat.le_refl _) (Nat.le_refl _) rfl (fun r s1 h1 hq => ?_)
  obtain ⟨x1, rfl, rfl, hq⟩ := hq
  obtain ⟨e1, CW2, F1⟩ := hq
  have RW1 := RW0.frC F1
  refine zw.st (st' := [.long x1]) rfl ?_
  refine zw_aload_n 1 dL_law_1612 rfl rfl rfl ?_
  refine zl_arg 1 dL_law_1613 dL_law_1614 dL_law_1615 dL_law_1616 dL_law_1617 rfl rfl rfl rfl rfl (by decide) (by decide) hi hL ?_
  refine zl_arg 2 dL_law_1618 dL_law_1619 dL_law_1620 dL_law_1621 dL_law_1622 rfl rfl rfl rfl rfl (by decide) (by decide) hi hL ?_
  refine zw_callV (n := 2) (As := [.int (xs (i + 1)), .int (xs (i + 2))]) (rest := [.long x1]) (m_maximalChains RW1) my_X8_maximalChains rfl rfl k_L_186 i_X8_maximalChains s_X8_maximalChains zs_56 rfl dL_law_1623 (by decide) (Nat.le_of_ble_eq_true rfl) (Nat.le_refl _) (Nat.le_refl _) rfl (fun r s2 h2 hq => ?_)
  obtain ⟨x2, rfl, rfl, hq⟩ := hq
  obtain ⟨e2, RW2, F2⟩ := hq
  have CW3 := CW2.frR F2
  refine zw.st (st' := [.long x2, .long x1]) rfl ?_
  refine zw_lcmp dL_law_1626 rfl ?_
  exact zw_if_eq (tg := 1902) dL_law_1627 (by decide) rfl (fun _ => go _ _ CW3 RW2) (fun c => absurd (lcmp0 (e1.trans e2.symm)) c)
set_option maxRecDepth 100000 in
set_option maxHeartbeats 4000000 in
theorem lc_41 {L i : Nat} {xs : Nat → Int32} {h : zw_H} {A : zA} (hi : i + 5 ≤ L) (hL : L ≤ 2560) (CW1 : CW h A) (RW0 : RW h A) (go : ∀ (h' : zw_H) (A' : zA), CW h' A' → RW h' A' → zj L xs 1902 [] h' i) : zj L xs 1632 [] h i := by
  refine zw_aload_n 2 dL_law_1632 rfl rfl rfl ?_
  refine zl_arg 1 dL_law_1633 dL_law_1634 dL_law_1635 dL_law_1636 dL_law_1637 rfl rfl rfl rfl rfl (by decide) (by decide) hi hL ?_
  refine zl_arg 2 dL_law_1638 dL_law_1639 dL_law_1640 dL_law_1641 dL_law_1642 rfl rfl rfl rfl rfl (by decide) (by decide) hi hL ?_
  refine zw_callV (n := 2) (As := [.int (xs (i + 1)), .int (xs (i + 2))]) (rest := []) (m7_height CW1) my_X7_height rfl rfl k_L_187 i_X7_height s_X7_height zs_0 rfl dL_law_1643 (by decide) (Nat.le_of_ble_eq_true rfl) (Nat.le_refl _) (Nat.le_refl _) rfl (fun r s1 h1 hq => ?_)
  obtain ⟨x1, rfl, rfl, hq⟩ := hq
  obtain ⟨e1, CW2, F1⟩ := hq
  have RW1 := RW0.frC F1
  refine zw.st (st' := [.int x1]) rfl ?_
  refine zw_aload_n 1 dL_law_1646 rfl rfl rfl ?_
  refine zl_arg 1 dL_law_1647 dL_law_1648 dL_law_1649 dL_law_1650 dL_law_1651 rfl rfl rfl rfl rfl (by decide) (by decide) hi hL ?_
  refine zl_arg 2 dL_law_1652 dL_law_1653 dL_law_1654 dL_law_1655 dL_law_1656 rfl rfl rfl rfl rfl (by decide) (by decide) hi hL ?_
  refine zw_callV (n := 2) (As := [.int (xs (i + 1)), .int (xs (i + 2))]) (rest := [.int x1]) (m_height RW1) my_X8_height rfl rfl k_L_190 i_X8_height s_X8_height zs_56 rfl dL_law_1657 (by decide) (Nat.le_of_ble_eq_true rfl) (Nat.le_refl _) (Nat.le_refl _) rfl (fun r s2 h2 hq => ?_)
  obtain ⟨x2, rfl, rfl, hq⟩ := hq
  obtain ⟨e2, RW2, F2⟩ := hq
  have CW3 := CW2.frR F2
  refine zw.st (st' := [.int x2, .int x1]) rfl ?_
  exact zw_icmp_eq (tg := 1902) dL_law_1660 (by decide) rfl (fun _ => go _ _ CW3 RW2) (fun c => absurd (e1.trans e2.symm) c)
set_option maxRecDepth 100000 in
set_option maxHeartbeats 4000000 in
theorem lc_42 {L i : Nat} {xs : Nat → Int32} {h : zw_H} {A : zA} (hi : i + 5 ≤ L) (hL : L ≤ 2560) (CW1 : CW h A) (RW0 : RW h A) (go : ∀ (h' : zw_H) (A' : zA), CW h' A' → RW h' A' → zj L xs 1902 [] h' i) : zj L xs 1665 [] h i := by
  refine zw_aload_n 2 dL_law_1665 rfl rfl rfl ?_
  refine zl_arg 1 dL_law_1666 dL_law_1667 dL_law_1668 dL_law_1669 dL_law_1670 rfl rfl rfl rfl rfl (by decide) (by decide) hi hL ?_
  refine zl_arg 2 dL_law_1671 dL_law_1672 dL_law_1673 dL_law_1674 dL_law_1675 rfl rfl rfl rfl rfl (by decide) (by decide) hi hL ?_
  refine zl_arg 3 dL_law_1676 dL_law_1677 dL_law_1678 dL_law_1679 dL_law_1680 rfl rfl rfl rfl rfl (by decide) (by decide) hi hL ?_
  refine zw_callV (n := 3) (As := [.int (xs (i + 1)), .int (xs (i + 2)), .int (xs (i + 3))]) (rest := []) (m7_rankSum CW1) my_X7_rankSum rfl rfl k_L_191 i_X7_rankSum s_X7_rankSum zs_0 rfl dL_law_1681 (by decide) (Nat.le_of_ble_eq_true rfl) (Nat.le_refl _) (Nat.le_refl _) rfl (fun r s1 h1 hq => ?_)
  obtain ⟨x1, rfl, rfl, hq⟩ := hq
  obtain ⟨e1, CW2, F1⟩ := hq
  have RW1 := RW0.frC F1
  refine zw.st (st' := [.long x1]) rfl ?_
  refine zw_aload_n 1 dL_law_1684 rfl rfl rfl ?_
  refine zl_arg 1 dL_law_1685 dL_law_1686 dL_law_1687 dL_law_1688 dL_law_1689 rfl rfl rfl rfl rfl (by decide) (by decide) hi hL ?_
  refine zl_arg 2 dL_law_1690 dL_law_1691 dL_law_1692 dL_law_1693 dL_law_1694 rfl rfl rfl rfl rfl (by decide) (by decide) hi hL ?_
  refine zl_arg 3 dL_law_1695 dL_law_1696 dL_law_1697 dL_law_1698 dL_law_1699 rfl rfl rfl rfl rfl (by decide) (by decide) hi hL ?_
  refine zw_callV (n := 3) (As := [.int (xs (i + 1)), .int (xs (i + 2)), .int (xs (i + 3))]) (rest := [.long x1]) (m_rankSum RW1) my_X8_rankSum rfl rfl k_L_194 i_X8_rankSum s_X8_rankSum zs_56 rfl dL_law_1700 (by decide) (Nat.le_of_ble_eq_true rfl) (Nat.le_refl _) (Nat.le_refl _) rfl (fun r s2 h2 hq => ?_)
  obtain ⟨x2, rfl, rfl, hq⟩ := hq
  obtain ⟨e2, RW2, F2⟩ := lp_R RW1 hq
  have CW3 := CW2.frR F2
  refine zw.st (st' := [.long x2, .long x1]) rfl ?_
  refine zw_lcmp dL_law_1703 rfl ?_
  exact zw_if_eq (tg := 1902) dL_law_1704 (by decide) rfl (fun _ => go _ _ CW3 RW2) (fun c => absurd (lcmp0 (e1.trans e2.symm)) c)
set_option maxRecDepth 100000 in
set_option maxHeartbeats 4000000 in
theorem lc_43 {L i : Nat} {xs : Nat → Int32} {h : zw_H} {A : zA} (hi : i + 5 ≤ L) (hL : L ≤ 2560) (CW1 : CW h A) (RW0 : RW h A) (go : ∀ (h' : zw_H) (A' : zA), CW h' A' → RW h' A' → zj L xs 1902 [] h' i) : zj L xs 1709 [] h i := by
  refine zw_aload_n 2 dL_law_1709 rfl rfl rfl ?_
  refine zl_arg 1 dL_law_1710 dL_law_1711 dL_law_1712 dL_law_1713 dL_law_1714 rfl rfl rfl rfl rfl (by decide) (by decide) hi hL ?_
  refine zl_arg 2 dL_law_1715 dL_law_1716 dL_law_1717 dL_law_1718 dL_law_1719 rfl rfl rfl rfl rfl (by decide) (by decide) hi hL ?_
  refine zl_arg 3 dL_law_1720 dL_law_1721 dL_law_1722 dL_law_1723 dL_law_1724 rfl rfl rfl rfl rfl (by decide) (by decide) hi hL ?_
  refine zw_callV (n := 3) (As := [.int (xs (i + 1)), .int (xs (i + 2)), .int (xs (i + 3))]) (rest := []) (m7_characteristic CW1) my_X7_characteristic rfl rfl k_L_195 i_X7_characteristic s_X7_characteristic zs_0 rfl dL_law_1725 (by decide) (Nat.le_of_ble_eq_true rfl) (Nat.le_refl _) (Nat.le_refl _) rfl (fun r s1 h1 hq => ?_)
  obtain ⟨x1, rfl, rfl, hq⟩ := hq
  obtain ⟨e1, CW2, F1⟩ := hq
  have RW1 := RW0.frC F1
  refine zw.st (st' := [.long x1]) rfl ?_
  refine zw_aload_n 1 dL_law_1728 rfl rfl rfl ?_
  refine zl_arg 1 dL_law_1729 dL_law_1730 dL_law_1731 dL_law_1732 dL_law_1733 rfl rfl rfl rfl rfl (by decide) (by decide) hi hL ?_
  refine zl_arg 2 dL_law_1734 dL_law_1735 dL_law_1736 dL_law_1737 dL_law_1738 rfl rfl rfl rfl rfl (by decide) (by decide) hi hL ?_
  refine zl_arg 3 dL_law_1739 dL_law_1740 dL_law_1741 dL_law_1742 dL_law_1743 rfl rfl rfl rfl rfl (by decide) (by decide) hi hL ?_
  refine zw_callV (n := 3) (As := [.int (xs (i + 1)), .int (xs (i + 2)), .int (xs (i + 3))]) (rest := [.long x1]) (m_characteristic RW1) my_X8_characteristic rfl rfl k_L_198 i_X8_characteristic s_X8_characteristic zs_56 rfl dL_law_1744 (by decide) (Nat.le_of_ble_eq_true rfl) (Nat.le_refl _) (Nat.le_refl _) rfl (fun r s2 h2 hq => ?_)
  obtain ⟨x2, rfl, rfl, hq⟩ := hq
  obtain ⟨e2, RW2, F2⟩ := hq
  have CW3 := CW2.frR F2
  refine zw.st (st' := [.long x2, .long x1]) rfl ?_
  refine zw_lcmp dL_law_1747 rfl ?_
  exact zw_if_eq (tg := 1902) dL_law_1748 (by decide) rfl (fun _ => go _ _ CW3 RW2) (fun c => absurd (lcmp0 (e1.trans e2.symm)) c)
set_option maxRecDepth 100000 in
set_option maxHeartbeats 4000000 in
theorem lc_44 {L i : Nat} {xs : Nat → Int32} {h : zw_H} {A : zA} (hi : i + 5 ≤ L) (hL : L ≤ 2560) (CW1 : CW h A) (RW0 : RW h A) (go : ∀ (h' : zw_H) (A' : zA), CW h' A' → RW h' A' → zj L xs 1902 [] h' i) : zj L xs 1753 [] h i := by
  refine zw_aload_n 2 dL_law_1753 rfl rfl rfl ?_
  refine zl_arg 1 dL_law_1754 dL_law_1755 dL_law_1756 dL_law_1757 dL_law_1758 rfl rfl rfl rfl rfl (by decide) (by decide) hi hL ?_
  refine zl_arg 2 dL_law_1759 dL_law_1760 dL_law_1761 dL_law_1762 dL_law_1763 rfl rfl rfl rfl rfl (by decide) (by decide) hi hL ?_
  refine zw_callV (n := 2) (As := [.int (xs (i + 1)), .int (xs (i + 2))]) (rest := []) (m7_transfers CW1) my_X7_transfers rfl rfl k_L_199 i_X7_transfers s_X7_transfers zs_0 rfl dL_law_1764 (by decide) (Nat.le_of_ble_eq_true rfl) (Nat.le_refl _) (Nat.le_refl _) rfl (fun r s1 h1 hq => ?_)
  obtain ⟨x1, rfl, rfl, hq⟩ := hq
  obtain ⟨e1, CW2, F1⟩ := hq
  have RW1 := RW0.frC F1
  refine zw.st (st' := [.int x1]) rfl ?_
  refine zw_aload_n 1 dL_law_1767 rfl rfl rfl ?_
  refine zl_arg 1 dL_law_1768 dL_law_1769 dL_law_1770 dL_law_1771 dL_law_1772 rfl rfl rfl rfl rfl (by decide) (by decide) hi hL ?_
  refine zl_arg 2 dL_law_1773 dL_law_1774 dL_law_1775 dL_law_1776 dL_law_1777 rfl rfl rfl rfl rfl (by decide) (by decide) hi hL ?_
  refine zw_callV (n := 2) (As := [.int (xs (i + 1)), .int (xs (i + 2))]) (rest := [.int x1]) (m_transfers RW1) my_X8_transfers rfl rfl k_L_202 i_X8_transfers s_X8_transfers zs_56 rfl dL_law_1778 (by decide) (Nat.le_of_ble_eq_true rfl) (Nat.le_refl _) (Nat.le_refl _) rfl (fun r s2 h2 hq => ?_)
  obtain ⟨x2, rfl, rfl, hq⟩ := hq
  obtain ⟨e2, RW2, F2⟩ := hq
  have CW3 := CW2.frR F2
  refine zw.st (st' := [.int x2, .int x1]) rfl ?_
  exact zw_icmp_eq (tg := 1902) dL_law_1781 (by decide) rfl (fun _ => go _ _ CW3 RW2) (fun c => absurd (e1.trans e2.symm) c)
set_option maxRecDepth 100000 in
set_option maxHeartbeats 4000000 in
theorem lc_45 {L i : Nat} {xs : Nat → Int32} {h : zw_H} {A : zA} (hi : i + 5 ≤ L) (hL : L ≤ 2560) (CW1 : CW h A) (RW0 : RW h A) (go : ∀ (h' : zw_H) (A' : zA), CW h' A' → RW h' A' → zj L xs 1902 [] h' i) : zj L xs 1786 [] h i := by
  refine zw_aload_n 2 dL_law_1786 rfl rfl rfl ?_
  refine zl_arg 1 dL_law_1787 dL_law_1788 dL_law_1789 dL_law_1790 dL_law_1791 rfl rfl rfl rfl rfl (by decide) (by decide) hi hL ?_
  refine zl_arg 2 dL_law_1792 dL_law_1793 dL_law_1794 dL_law_1795 dL_law_1796 rfl rfl rfl rfl rfl (by decide) (by decide) hi hL ?_
  refine zw_callV (n := 2) (As := [.int (xs (i + 1)), .int (xs (i + 2))]) (rest := []) (m7_disagreements CW1) my_X7_disagreements rfl rfl k_L_203 i_X7_disagreements s_X7_disagreements zs_0 rfl dL_law_1797 (by decide) (Nat.le_of_ble_eq_true rfl) (Nat.le_refl _) (Nat.le_refl _) rfl (fun r s1 h1 hq => ?_)
  obtain ⟨x1, rfl, rfl, hq⟩ := hq
  obtain ⟨e1, CW2, F1⟩ := lp_C CW1 hq
  have RW1 := RW0.frC F1
  refine zw.st (st' := [.int x1]) rfl ?_
  refine zw_aload_n 1 dL_law_1800 rfl rfl rfl ?_
  refine zl_arg 1 dL_law_1801 dL_law_1802 dL_law_1803 dL_law_1804 dL_law_1805 rfl rfl rfl rfl rfl (by decide) (by decide) hi hL ?_
  refine zl_arg 2 dL_law_1806 dL_law_1807 dL_law_1808 dL_law_1809 dL_law_1810 rfl rfl rfl rfl rfl (by decide) (by decide) hi hL ?_
  refine zw_callV (n := 2) (As := [.int (xs (i + 1)), .int (xs (i + 2))]) (rest := [.int x1]) (m_disagreements RW1) my_X8_disagreements rfl rfl k_L_206 i_X8_disagreements s_X8_disagreements zs_56 rfl dL_law_1811 (by decide) (Nat.le_of_ble_eq_true rfl) (Nat.le_refl _) (Nat.le_refl _) rfl (fun r s2 h2 hq => ?_)
  obtain ⟨x2, rfl, rfl, hq⟩ := hq
  obtain ⟨e2, RW2, F2⟩ := lp_R RW1 hq
  have CW3 := CW2.frR F2
  refine zw.st (st' := [.int x2, .int x1]) rfl ?_
  exact zw_icmp_eq (tg := 1902) dL_law_1814 (by decide) rfl (fun _ => go _ _ CW3 RW2) (fun c => absurd (e1.trans e2.symm) c)
set_option maxRecDepth 100000 in
set_option maxHeartbeats 4000000 in
theorem lc_46 {L i : Nat} {xs : Nat → Int32} {h : zw_H} {A : zA} (hi : i + 5 ≤ L) (hL : L ≤ 2560) (CW1 : CW h A) (RW0 : RW h A) (go : ∀ (h' : zw_H) (A' : zA), CW h' A' → RW h' A' → zj L xs 1902 [] h' i) : zj L xs 1819 [] h i := by
  refine zw_aload_n 2 dL_law_1819 rfl rfl rfl ?_
  refine zl_arg 1 dL_law_1820 dL_law_1821 dL_law_1822 dL_law_1823 dL_law_1824 rfl rfl rfl rfl rfl (by decide) (by decide) hi hL ?_
  refine zl_arg 2 dL_law_1825 dL_law_1826 dL_law_1827 dL_law_1828 dL_law_1829 rfl rfl rfl rfl rfl (by decide) (by decide) hi hL ?_
  refine zw_callV (n := 2) (As := [.int (xs (i + 1)), .int (xs (i + 2))]) (rest := []) (m7_median CW1) my_X7_median rfl rfl k_L_207 i_X7_median s_X7_median zs_0 rfl dL_law_1830 (by decide) (Nat.le_of_ble_eq_true rfl) (Nat.le_refl _) (Nat.le_refl _) rfl (fun r s1 h1 hq => ?_)
  obtain ⟨x1, rfl, rfl, hq⟩ := hq
  obtain ⟨e1, CW2, F1⟩ := hq
  have RW1 := RW0.frC F1
  refine zw.st (st' := [.int x1]) rfl ?_
  refine zw_aload_n 1 dL_law_1833 rfl rfl rfl ?_
  refine zl_arg 1 dL_law_1834 dL_law_1835 dL_law_1836 dL_law_1837 dL_law_1838 rfl rfl rfl rfl rfl (by decide) (by decide) hi hL ?_
  refine zl_arg 2 dL_law_1839 dL_law_1840 dL_law_1841 dL_law_1842 dL_law_1843 rfl rfl rfl rfl rfl (by decide) (by decide) hi hL ?_
  refine zw_callV (n := 2) (As := [.int (xs (i + 1)), .int (xs (i + 2))]) (rest := [.int x1]) (m_median RW1) my_X8_median rfl rfl k_L_210 i_X8_median s_X8_median zs_56 rfl dL_law_1844 (by decide) (Nat.le_of_ble_eq_true rfl) (Nat.le_refl _) (Nat.le_refl _) rfl (fun r s2 h2 hq => ?_)
  obtain ⟨x2, rfl, rfl, hq⟩ := hq
  obtain ⟨e2, RW2, F2⟩ := hq
  have CW3 := CW2.frR F2
  refine zw.st (st' := [.int x2, .int x1]) rfl ?_
  exact zw_icmp_eq (tg := 1902) dL_law_1847 (by decide) rfl (fun _ => go _ _ CW3 RW2) (fun c => absurd (e1.trans e2.symm) c)
set_option maxRecDepth 100000 in
set_option maxHeartbeats 4000000 in
theorem lc_47 {L i : Nat} {xs : Nat → Int32} {h : zw_H} {A : zA} (hi : i + 5 ≤ L) (hL : L ≤ 2560) (CW1 : CW h A) (RW0 : RW h A) (go : ∀ (h' : zw_H) (A' : zA), CW h' A' → RW h' A' → zj L xs 1902 [] h' i) : zj L xs 1852 [] h i := by
  refine zw_aload_n 2 dL_law_1852 rfl rfl rfl ?_
  refine zw_callV (n := 0) (As := []) (rest := []) (m7_undo CW1) my_X7_undo rfl rfl k_L_211 i_X7_undo s_X7_undo zs_0 rfl dL_law_1853 (by decide) (Nat.le_of_ble_eq_true rfl) (Nat.le_refl _) (Nat.le_refl _) rfl (fun r s1 h1 hq => ?_)
  obtain ⟨x1, rfl, rfl, hq⟩ := hq
  obtain ⟨e1, CW2, F1⟩ := hq
  have RW1 := RW0.frC F1
  refine zw.st (st' := [.int x1]) rfl ?_
  refine zw_aload_n 1 dL_law_1856 rfl rfl rfl ?_
  refine zw_callV (n := 0) (As := []) (rest := [.int x1]) (m_undo RW1) my_X8_undo rfl rfl k_L_214 i_X8_undo s_X8_undo zs_56 rfl dL_law_1857 (by decide) (Nat.le_of_ble_eq_true rfl) (Nat.le_refl _) (Nat.le_refl _) rfl (fun r s2 h2 hq => ?_)
  obtain ⟨x2, rfl, rfl, hq⟩ := hq
  obtain ⟨e2, RW2, F2⟩ := hq
  have CW3 := CW2.frR F2
  refine zw.st (st' := [.int x2, .int x1]) rfl ?_
  exact zw_icmp_eq (tg := 1902) dL_law_1860 (by decide) rfl (fun _ => go _ _ CW3 RW2) (fun c => absurd (e1.trans e2.symm) c)
set_option maxRecDepth 100000 in
set_option maxHeartbeats 4000000 in
theorem lc_48 {L i : Nat} {xs : Nat → Int32} {h : zw_H} {A : zA} (hi : i + 5 ≤ L) (hL : L ≤ 2560) (CW1 : CW h A) (RW0 : RW h A) (go : ∀ (h' : zw_H) (A' : zA), CW h' A' → RW h' A' → zj L xs 1902 [] h' i) : zj L xs 1865 [] h i := by
  refine zw_aload_n 2 dL_law_1865 rfl rfl rfl ?_
  refine zl_arg 1 dL_law_1866 dL_law_1867 dL_law_1868 dL_law_1869 dL_law_1870 rfl rfl rfl rfl rfl (by decide) (by decide) hi hL ?_
  refine zw_callV (n := 1) (As := [.int (xs (i + 1))]) (rest := []) (m7_told CW1) my_X7_told rfl rfl k_L_215 i_X7_told s_X7_told zs_0 rfl dL_law_1871 (by decide) (Nat.le_of_ble_eq_true rfl) (Nat.le_refl _) (Nat.le_refl _) rfl (fun r s1 h1 hq => ?_)
  obtain ⟨x1, rfl, rfl, hq⟩ := hq
  obtain ⟨e1, CW2, F1⟩ := lp_C CW1 hq
  have RW1 := RW0.frC F1
  refine zw.st (st' := [.int x1]) rfl ?_
  refine zw_aload_n 1 dL_law_1874 rfl rfl rfl ?_
  refine zl_arg 1 dL_law_1875 dL_law_1876 dL_law_1877 dL_law_1878 dL_law_1879 rfl rfl rfl rfl rfl (by decide) (by decide) hi hL ?_
  refine zw_callV (n := 1) (As := [.int (xs (i + 1))]) (rest := [.int x1]) (m_told RW1) my_X8_told rfl rfl k_L_218 i_X8_told s_X8_told zs_56 rfl dL_law_1880 (by decide) (Nat.le_of_ble_eq_true rfl) (Nat.le_refl _) (Nat.le_refl _) rfl (fun r s2 h2 hq => ?_)
  obtain ⟨x2, rfl, rfl, hq⟩ := hq
  obtain ⟨e2, RW2, F2⟩ := lp_R RW1 hq
  have CW3 := CW2.frR F2
  refine zw.st (st' := [.int x2, .int x1]) rfl ?_
  exact zw_icmp_eq (tg := 1902) dL_law_1883 (by decide) rfl (fun _ => go _ _ CW3 RW2) (fun c => absurd (e1.trans e2.symm) c)
set_option maxRecDepth 100000 in
set_option maxHeartbeats 4000000 in
theorem lc_49 {L i : Nat} {xs : Nat → Int32} {h : zw_H} {A : zA} (hi : i + 5 ≤ L) (hL : L ≤ 2560) (CW1 : CW h A) (RW0 : RW h A) (go : ∀ (h' : zw_H) (A' : zA), CW h' A' → RW h' A' → zj L xs 1902 [] h' i) : zj L xs 1888 [] h i := by
  refine zw_aload_n 2 dL_law_1888 rfl rfl rfl ?_
  refine zw_callV (n := 0) (As := []) (rest := []) (m7_digest CW1) my_X7_digest rfl rfl k_L_219 i_X7_digest s_X7_digest zs_0 rfl dL_law_1889 (by decide) (Nat.le_of_ble_eq_true rfl) (Nat.le_refl _) (Nat.le_refl _) rfl (fun r s1 h1 hq => ?_)
  obtain ⟨x1, rfl, rfl, hq⟩ := hq
  obtain ⟨e1, CW2, F1⟩ := hq
  have RW1 := RW0.frC F1
  refine zw.st (st' := [.long x1]) rfl ?_
  refine zw_aload_n 1 dL_law_1892 rfl rfl rfl ?_
  refine zw_callV (n := 0) (As := []) (rest := [.long x1]) (m_digest RW1) my_X8_digest rfl rfl k_L_223 i_X8_digest s_X8_digest zs_56 rfl dL_law_1893 (by decide) (Nat.le_of_ble_eq_true rfl) (Nat.le_refl _) (Nat.le_refl _) rfl (fun r s2 h2 hq => ?_)
  obtain ⟨x2, rfl, rfl, hq⟩ := hq
  obtain ⟨e2, RW2, F2⟩ := lp_R RW1 hq
  have CW3 := CW2.frR F2
  refine zw.st (st' := [.long x2, .long x1]) rfl ?_
  refine zw_lcmp dL_law_1896 rfl ?_
  exact zw_if_eq (tg := 1902) dL_law_1897 (by decide) rfl (fun _ => go _ _ CW3 RW2) (fun c => absurd (lcmp0 (e1.trans e2.symm)) c)
