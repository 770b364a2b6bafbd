def im_MO (M : gMem) : gMem := (mpF (mpN (mpF (mpN (mpF (mpN (mpF (mpN (mpF (mpN (mpF (mpN (mpF (mpN (mpF (mpN (mpF (mpN (mpF (mpN (mpF (mpN (mpF (mpN (mpF (mpF (mpN (mpF (mpN (mpF (mpN (mpF (mpN (mpF (mpN (mpF (mpN (mpF (mpN (mpF (mpN (mpF (mpN (mpF (mpN (mpF (mpN (mpF (mpN (mpF (mpN (mpF (mpN (mpF (mpN (mpF (mpN (mpF (mpN (mpF (mpN (mpF (mpN (mpF (mpN (mpF (mpN M 42) 41 0 0) 43) 41 1 0) 44) 41 2 0) 45) 41 3 0) 46) 41 4 0) 47) 41 5 0) 48) 41 6 0) 49) 41 7 0) 50) 41 8 0) 51) 41 9 0) 52) 41 10 0) 53) 41 11 0) 54) 41 12 0) 55) 41 13 0) 56) 41 14 0) 57) 41 15 0) 58) 41 16 0) 59) 41 17 0) 60) 41 18 0) 61) 41 19 0) 62) 41 21 0) 41 23 (-1 : Int32)) 63) 41 24 0) 64) 41 25 0) 65) 41 26 0) 66) 41 27 0) 67) 41 28 0) 68) 41 29 0) 69) 41 31 0) 70) 41 33 0) 71) 41 34 0) 72) 41 35 0) 73) 41 37 0) 74) 41 38 0)
set_option maxRecDepth 100000 in
set_option maxHeartbeats 4000000 in
theorem i_MO {l : Launch} {D : va_G} {ta : Nat → ClassId} {base : Nat} {sa : Nat → Nat} {M : gMem} {post : gMem → Prop} (h : wp_MO_initB post (im_MO M)) : GJ hL_19 gLay gCl D ta base gNw sa gTabs gTs l y_MO_init b_MO_init 2 2 50 33 32448 [.ref (base + 41)] M post := by
  refine GJ.of (own := "ObjectFileModel") pn_MO rfl rfl (Nat.le_of_ble_eq_true rfl) ?_
  intro p e s m below meth c X hK hr hlk hin
  have r_289 : ∀ (n : Nat) (v1 : Int32) (M : gMem), wl_MO_initB_289 post n v1 M → GW gLay gCl D ta base p l e (hRm 2 50 33 32448) s m (List.toArray [.ref (base + 41)]) below meth c 33 32448 (MQ below (gQ gLay gCl D ta base (gPv post)) (List.toArray [.ref (base + 41)]) s 33 32448 (fun q => base ≤ q)) 2 289 [(0, .ref (base + 41)), (1, .int v1)] [] M := by
    intro n
    induction n with
    | zero => exact fun _ M h => h.elim
    | succ n ih =>
      intro v1 M h
      refine g_iload_n X dMO_init_289 rfl 1 rfl ?_
      refine g_bipush X (v := (8 : Int32)) dMO_init_290 (by decide) ?_
      refine g_icmp_ge X dMO_init_292 (fun c => ?_) (fun c => ?_)
      · have h := h.1 c
        refine g_aload_n X dMO_init_308 rfl 0 rfl ?_
        refine g_iconst X (v := (0 : Int32)) dMO_init_309 (by decide) ?_
        refine g_bipush X (v := (120 : Int32)) dMO_init_310 (by decide) ?_
        refine g_bipush X (v := (116 : Int32)) dMO_init_312 (by decide) ?_
        refine g_bipush X (v := (101 : Int32)) dMO_init_314 (by decide) ?_
        refine g_bipush X (v := (120 : Int32)) dMO_init_316 (by decide) ?_
        refine g_bipush X (v := (116 : Int32)) dMO_init_318 (by decide) ?_
        refine g_iconst X (v := (0 : Int32)) dMO_init_320 (by decide) ?_
        refine g_iconst X (v := (0 : Int32)) dMO_init_321 (by decide) ?_
        refine g_iconst X (v := (0 : Int32)) dMO_init_322 (by decide) ?_
        refine g_callV X hK gTs_ok ly_41 rfl mw_MO_title tw_928 mi_MO_title ms_MO_title (As := [.int (0 : Int32), .int (120 : Int32), .int (116 : Int32), .int (101 : Int32), .int (120 : Int32), .int (116 : Int32), .int (0 : Int32), .int (0 : Int32), .int (0 : Int32)]) rfl ⟨(Nat.le_of_ble_eq_true rfl), (Nat.le_of_ble_eq_true rfl), Nat.le_refl _, Nat.le_refl _⟩ (m_MO_title h) (rest := []) rfl (Nat.le_of_ble_eq_true rfl) dMO_init_323 (gk_v (fun M2 h => ?_))
        refine g_aload_n X dMO_init_326 rfl 0 rfl ?_
        refine g_iconst X (v := (1 : Int32)) dMO_init_327 (by decide) ?_
        refine g_bipush X (v := (120 : Int32)) dMO_init_328 (by decide) ?_
        refine g_bipush X (v := (114 : Int32)) dMO_init_330 (by decide) ?_
        refine g_bipush X (v := (111 : Int32)) dMO_init_332 (by decide) ?_
        refine g_bipush X (v := (100 : Int32)) dMO_init_334 (by decide) ?_
        refine g_bipush X (v := (97 : Int32)) dMO_init_336 (by decide) ?_
        refine g_bipush X (v := (116 : Int32)) dMO_init_338 (by decide) ?_
        refine g_bipush X (v := (97 : Int32)) dMO_init_340 (by decide) ?_
        refine g_iconst X (v := (0 : Int32)) dMO_init_342 (by decide) ?_
        refine g_callV X hK gTs_ok ly_41 rfl mw_MO_title tw_928 mi_MO_title ms_MO_title (As := [.int (1 : Int32), .int (120 : Int32), .int (114 : Int32), .int (111 : Int32), .int (100 : Int32), .int (97 : Int32), .int (116 : Int32), .int (97 : Int32), .int (0 : Int32)]) rfl ⟨(Nat.le_of_ble_eq_true rfl), (Nat.le_of_ble_eq_true rfl), Nat.le_refl _, Nat.le_refl _⟩ (m_MO_title h) (rest := []) rfl (Nat.le_of_ble_eq_true rfl) dMO_init_343 (gk_v (fun M4 h => ?_))
        refine g_aload_n X dMO_init_346 rfl 0 rfl ?_
        refine g_iconst X (v := (2 : Int32)) dMO_init_347 (by decide) ?_
        refine g_bipush X (v := (120 : Int32)) dMO_init_348 (by decide) ?_
        refine g_bipush X (v := (100 : Int32)) dMO_init_350 (by decide) ?_
        refine g_bipush X (v := (97 : Int32)) dMO_init_352 (by decide) ?_
        refine g_bipush X (v := (116 : Int32)) dMO_init_354 (by decide) ?_
        refine g_bipush X (v := (97 : Int32)) dMO_init_356 (by decide) ?_
        refine g_iconst X (v := (0 : Int32)) dMO_init_358 (by decide) ?_
        refine g_iconst X (v := (0 : Int32)) dMO_init_359 (by decide) ?_
        refine g_iconst X (v := (0 : Int32)) dMO_init_360 (by decide) ?_
        refine g_callV X hK gTs_ok ly_41 rfl mw_MO_title tw_928 mi_MO_title ms_MO_title (As := [.int (2 : Int32), .int (120 : Int32), .int (100 : Int32), .int (97 : Int32), .int (116 : Int32), .int (97 : Int32), .int (0 : Int32), .int (0 : Int32), .int (0 : Int32)]) rfl ⟨(Nat.le_of_ble_eq_true rfl), (Nat.le_of_ble_eq_true rfl), Nat.le_refl _, Nat.le_refl _⟩ (m_MO_title h) (rest := []) rfl (Nat.le_of_ble_eq_true rfl) dMO_init_361 (gk_v (fun M6 h => ?_))
        refine g_aload_n X dMO_init_364 rfl 0 rfl ?_
        refine g_iconst X (v := (3 : Int32)) dMO_init_365 (by decide) ?_
        refine g_bipush X (v := (120 : Int32)) dMO_init_366 (by decide) ?_
        refine g_bipush X (v := (98 : Int32)) dMO_init_368 (by decide) ?_
        refine g_bipush X (v := (115 : Int32)) dMO_init_370 (by decide) ?_
        refine g_bipush X (v := (115 : Int32)) dMO_init_372 (by decide) ?_
        refine g_iconst X (v := (0 : Int32)) dMO_init_374 (by decide) ?_
        refine g_iconst X (v := (0 : Int32)) dMO_init_375 (by decide) ?_
        refine g_iconst X (v := (0 : Int32)) dMO_init_376 (by decide) ?_
        refine g_iconst X (v := (0 : Int32)) dMO_init_377 (by decide) ?_
        refine g_callV X hK gTs_ok ly_41 rfl mw_MO_title tw_928 mi_MO_title ms_MO_title (As := [.int (3 : Int32), .int (120 : Int32), .int (98 : Int32), .int (115 : Int32), .int (115 : Int32), .int (0 : Int32), .int (0 : Int32), .int (0 : Int32), .int (0 : Int32)]) rfl ⟨(Nat.le_of_ble_eq_true rfl), (Nat.le_of_ble_eq_true rfl), Nat.le_refl _, Nat.le_refl _⟩ (m_MO_title h) (rest := []) rfl (Nat.le_of_ble_eq_true rfl) dMO_init_378 (gk_v (fun M8 h => ?_))
        refine g_aload_n X dMO_init_381 rfl 0 rfl ?_
        refine g_iconst X (v := (4 : Int32)) dMO_init_382 (by decide) ?_
        refine g_bipush X (v := (120 : Int32)) dMO_init_383 (by decide) ?_
        refine g_bipush X (v := (115 : Int32)) dMO_init_385 (by decide) ?_
        refine g_bipush X (v := (116 : Int32)) dMO_init_387 (by decide) ?_
        refine g_bipush X (v := (97 : Int32)) dMO_init_389 (by decide) ?_
        refine g_bipush X (v := (114 : Int32)) dMO_init_391 (by decide) ?_
        refine g_bipush X (v := (116 : Int32)) dMO_init_393 (by decide) ?_
        refine g_bipush X (v := (115 : Int32)) dMO_init_395 (by decide) ?_
        refine g_iconst X (v := (0 : Int32)) dMO_init_397 (by decide) ?_
        refine g_callV X hK gTs_ok ly_41 rfl mw_MO_title tw_928 mi_MO_title ms_MO_title (As := [.int (4 : Int32), .int (120 : Int32), .int (115 : Int32), .int (116 : Int32), .int (97 : Int32), .int (114 : Int32), .int (116 : Int32), .int (115 : Int32), .int (0 : Int32)]) rfl ⟨(Nat.le_of_ble_eq_true rfl), (Nat.le_of_ble_eq_true rfl), Nat.le_refl _, Nat.le_refl _⟩ (m_MO_title h) (rest := []) rfl (Nat.le_of_ble_eq_true rfl) dMO_init_398 (gk_v (fun M10 h => ?_))
        refine g_aload_n X dMO_init_401 rfl 0 rfl ?_
        refine g_iconst X (v := (5 : Int32)) dMO_init_402 (by decide) ?_
        refine g_bipush X (v := (114 : Int32)) dMO_init_403 (by decide) ?_
        refine g_bipush X (v := (116 : Int32)) dMO_init_405 (by decide) ?_
        refine g_bipush X (v := (101 : Int32)) dMO_init_407 (by decide) ?_
        refine g_bipush X (v := (120 : Int32)) dMO_init_409 (by decide) ?_
        refine g_bipush X (v := (116 : Int32)) dMO_init_411 (by decide) ?_
        refine g_iconst X (v := (0 : Int32)) dMO_init_413 (by decide) ?_
        refine g_iconst X (v := (0 : Int32)) dMO_init_414 (by decide) ?_
        refine g_iconst X (v := (0 : Int32)) dMO_init_415 (by decide) ?_
        refine g_callV X hK gTs_ok ly_41 rfl mw_MO_title tw_928 mi_MO_title ms_MO_title (As := [.int (5 : Int32), .int (114 : Int32), .int (116 : Int32), .int (101 : Int32), .int (120 : Int32), .int (116 : Int32), .int (0 : Int32), .int (0 : Int32), .int (0 : Int32)]) rfl ⟨(Nat.le_of_ble_eq_true rfl), (Nat.le_of_ble_eq_true rfl), Nat.le_refl _, Nat.le_refl _⟩ (m_MO_title h) (rest := []) rfl (Nat.le_of_ble_eq_true rfl) dMO_init_416 (gk_v (fun M12 h => ?_))
        refine g_aload_n X dMO_init_419 rfl 0 rfl ?_
        refine g_bipush X (v := (6 : Int32)) dMO_init_420 (by decide) ?_
        refine g_bipush X (v := (114 : Int32)) dMO_init_422 (by decide) ?_
        refine g_bipush X (v := (114 : Int32)) dMO_init_424 (by decide) ?_
        refine g_bipush X (v := (111 : Int32)) dMO_init_426 (by decide) ?_
        refine g_bipush X (v := (100 : Int32)) dMO_init_428 (by decide) ?_
        refine g_bipush X (v := (97 : Int32)) dMO_init_430 (by decide) ?_
        refine g_bipush X (v := (116 : Int32)) dMO_init_432 (by decide) ?_
        refine g_bipush X (v := (97 : Int32)) dMO_init_434 (by decide) ?_
        refine g_iconst X (v := (0 : Int32)) dMO_init_436 (by decide) ?_
        refine g_callV X hK gTs_ok ly_41 rfl mw_MO_title tw_928 mi_MO_title ms_MO_title (As := [.int (6 : Int32), .int (114 : Int32), .int (114 : Int32), .int (111 : Int32), .int (100 : Int32), .int (97 : Int32), .int (116 : Int32), .int (97 : Int32), .int (0 : Int32)]) rfl ⟨(Nat.le_of_ble_eq_true rfl), (Nat.le_of_ble_eq_true rfl), Nat.le_refl _, Nat.le_refl _⟩ (m_MO_title h) (rest := []) rfl (Nat.le_of_ble_eq_true rfl) dMO_init_437 (gk_v (fun M14 h => ?_))
        refine g_aload_n X dMO_init_440 rfl 0 rfl ?_
        refine g_bipush X (v := (7 : Int32)) dMO_init_441 (by decide) ?_
        refine g_bipush X (v := (114 : Int32)) dMO_init_443 (by decide) ?_
        refine g_bipush X (v := (100 : Int32)) dMO_init_445 (by decide) ?_
        refine g_bipush X (v := (97 : Int32)) dMO_init_447 (by decide) ?_
        refine g_bipush X (v := (116 : Int32)) dMO_init_449 (by decide) ?_
        refine g_bipush X (v := (97 : Int32)) dMO_init_451 (by decide) ?_
        refine g_iconst X (v := (0 : Int32)) dMO_init_453 (by decide) ?_
        refine g_iconst X (v := (0 : Int32)) dMO_init_454 (by decide) ?_
        refine g_iconst X (v := (0 : Int32)) dMO_init_455 (by decide) ?_
        refine g_callV X hK gTs_ok ly_41 rfl mw_MO_title tw_928 mi_MO_title ms_MO_title (As := [.int (7 : Int32), .int (114 : Int32), .int (100 : Int32), .int (97 : Int32), .int (116 : Int32), .int (97 : Int32), .int (0 : Int32), .int (0 : Int32), .int (0 : Int32)]) rfl ⟨(Nat.le_of_ble_eq_true rfl), (Nat.le_of_ble_eq_true rfl), Nat.le_refl _, Nat.le_refl _⟩ (m_MO_title h) (rest := []) rfl (Nat.le_of_ble_eq_true rfl) dMO_init_456 (gk_v (fun M16 h => ?_))
        refine g_aload_n X dMO_init_459 rfl 0 rfl ?_
        refine g_bipush X (v := (8 : Int32)) dMO_init_460 (by decide) ?_
        refine g_bipush X (v := (120 : Int32)) dMO_init_462 (by decide) ?_
        refine g_bipush X (v := (115 : Int32)) dMO_init_464 (by decide) ?_
        refine g_bipush X (v := (121 : Int32)) dMO_init_466 (by decide) ?_
        refine g_bipush X (v := (109 : Int32)) dMO_init_468 (by decide) ?_
        refine g_bipush X (v := (116 : Int32)) dMO_init_470 (by decide) ?_
        refine g_bipush X (v := (97 : Int32)) dMO_init_472 (by decide) ?_
        refine g_bipush X (v := (98 : Int32)) dMO_init_474 (by decide) ?_
        refine g_iconst X (v := (0 : Int32)) dMO_init_476 (by decide) ?_
        refine g_callV X hK gTs_ok ly_41 rfl mw_MO_title tw_928 mi_MO_title ms_MO_title (As := [.int (8 : Int32), .int (120 : Int32), .int (115 : Int32), .int (121 : Int32), .int (109 : Int32), .int (116 : Int32), .int (97 : Int32), .int (98 : Int32), .int (0 : Int32)]) rfl ⟨(Nat.le_of_ble_eq_true rfl), (Nat.le_of_ble_eq_true rfl), Nat.le_refl _, Nat.le_refl _⟩ (m_MO_title h) (rest := []) rfl (Nat.le_of_ble_eq_true rfl) dMO_init_477 (gk_v (fun M18 h => ?_))
        refine g_aload_n X dMO_init_480 rfl 0 rfl ?_
        refine g_bipush X (v := (9 : Int32)) dMO_init_481 (by decide) ?_
        refine g_bipush X (v := (120 : Int32)) dMO_init_483 (by decide) ?_
        refine g_bipush X (v := (115 : Int32)) dMO_init_485 (by decide) ?_
        refine g_bipush X (v := (116 : Int32)) dMO_init_487 (by decide) ?_
        refine g_bipush X (v := (114 : Int32)) dMO_init_489 (by decide) ?_
        refine g_bipush X (v := (116 : Int32)) dMO_init_491 (by decide) ?_
        refine g_bipush X (v := (97 : Int32)) dMO_init_493 (by decide) ?_
        refine g_bipush X (v := (98 : Int32)) dMO_init_495 (by decide) ?_
        refine g_iconst X (v := (0 : Int32)) dMO_init_497 (by decide) ?_
        refine g_callV X hK gTs_ok ly_41 rfl mw_MO_title tw_928 mi_MO_title ms_MO_title (As := [.int (9 : Int32), .int (120 : Int32), .int (115 : Int32), .int (116 : Int32), .int (114 : Int32), .int (116 : Int32), .int (97 : Int32), .int (98 : Int32), .int (0 : Int32)]) rfl ⟨(Nat.le_of_ble_eq_true rfl), (Nat.le_of_ble_eq_true rfl), Nat.le_refl _, Nat.le_refl _⟩ (m_MO_title h) (rest := []) rfl (Nat.le_of_ble_eq_true rfl) dMO_init_498 (gk_v (fun M20 h => ?_))
        refine g_aload_n X dMO_init_501 rfl 0 rfl ?_
        refine g_bipush X (v := (10 : Int32)) dMO_init_502 (by decide) ?_
        refine g_bipush X (v := (120 : Int32)) dMO_init_504 (by decide) ?_
        refine g_bipush X (v := (115 : Int32)) dMO_init_506 (by decide) ?_
        refine g_bipush X (v := (104 : Int32)) dMO_init_508 (by decide) ?_
        refine g_bipush X (v := (115 : Int32)) dMO_init_510 (by decide) ?_
        refine g_bipush X (v := (116 : Int32)) dMO_init_512 (by decide) ?_
        refine g_bipush X (v := (114 : Int32)) dMO_init_514 (by decide) ?_
        refine g_bipush X (v := (116 : Int32)) dMO_init_516 (by decide) ?_
        refine g_bipush X (v := (97 : Int32)) dMO_init_518 (by decide) ?_
        refine g_callV X hK gTs_ok ly_41 rfl mw_MO_title tw_928 mi_MO_title ms_MO_title (As := [.int (10 : Int32), .int (120 : Int32), .int (115 : Int32), .int (104 : Int32), .int (115 : Int32), .int (116 : Int32), .int (114 : Int32), .int (116 : Int32), .int (97 : Int32)]) rfl ⟨(Nat.le_of_ble_eq_true rfl), (Nat.le_of_ble_eq_true rfl), Nat.le_refl _, Nat.le_refl _⟩ (m_MO_title h) (rest := []) rfl (Nat.le_of_ble_eq_true rfl) dMO_init_520 (gk_v (fun M22 h => ?_))
        refine g_aload_n X dMO_init_523 rfl 0 rfl ?_
        refine g_getr X hK.1 fw_MO_77 ly_41 rfl dMO_init_524 ?_
        refine g_aload_n X dMO_init_527 rfl 0 rfl ?_
        refine g_geti X hK.1 fw_MO_117 ly_41 rfl dMO_init_528 ?_
        refine g_iconst X (v := (1 : Int32)) dMO_init_531 (by decide) ?_
        refine g_isub X dMO_init_532 ?_
        refine g_bipush X (v := (98 : Int32)) dMO_init_533 (by decide) ?_
        obtain ⟨hi, h⟩ := h
        refine g_iast X hK.1 ly_63 hi dMO_init_535 ?_
        refine g_topM (fun M23 eM23 => ?_)
        have h := h M23 eM23
        refine g_aload_n X dMO_init_536 rfl 0 rfl ?_
        refine g_getr X hK.1 fw_MO_77 ly_41 rfl dMO_init_537 ?_
        refine g_aload_n X dMO_init_540 rfl 0 rfl ?_
        refine g_geti X hK.1 fw_MO_117 ly_41 rfl dMO_init_541 ?_
        refine g_iconst X (v := (0 : Int32)) dMO_init_544 (by decide) ?_
        obtain ⟨hi, h⟩ := h
        refine g_iast X hK.1 ly_63 hi dMO_init_545 ?_
        refine g_topM (fun M24 eM24 => ?_)
        have h := h M24 eM24
        refine g_aload_n X dMO_init_546 rfl 0 rfl ?_
        refine g_dup X dMO_init_547 rfl ?_
        refine g_geti X hK.1 fw_MO_117 ly_41 rfl dMO_init_548 ?_
        refine g_iconst X (v := (1 : Int32)) dMO_init_551 (by decide) ?_
        refine g_iadd X dMO_init_552 ?_
        refine g_puti X hK.1 fw_MO_117 pw_MO_36 ly_41 rfl dMO_init_553 ?_
        refine g_topM (fun M25 eM25 => ?_)
        have h := h M25 eM25
        exact g_vret X hr hlk dMO_init_556 ⟨rfl, h⟩
      · have h := h.2 c
        refine g_aload_n X dMO_init_295 rfl 0 rfl ?_
        refine g_getr X hK.1 fw_MO_16 ly_41 rfl dMO_init_296 ?_
        refine g_iload_n X dMO_init_299 rfl 1 rfl ?_
        refine g_iconst X (v := (1 : Int32)) dMO_init_300 (by decide) ?_
        obtain ⟨hi, h⟩ := h
        refine g_iast X hK.1 ly_44 hi dMO_init_301 ?_
        refine g_topM (fun M26 eM26 => ?_)
        have h := h M26 eM26
        obtain ⟨x27, ex27⟩ : ∃ z : Int32, z = v1 + (1 : Int32) := ⟨_, rfl⟩
        have h := h x27 ex27
        refine g_iinc X (L' := [(1, .int x27), (0, .ref (base + 41))]) (k := 1) dMO_init_302 rfl (v := x27) (by rw [ex27]; rfl) (Nat.le_of_ble_eq_true rfl) rfl ?_
        refine g_goto X dMO_init_305 ?_
        refine g_sub (L' := [(0, .ref (base + 41)), (1, .int x27)]) [1, 0] rfl ?_
        exact ih x27 M26 h
  refine a_args (L' := [(0, .ref (base + 41))]) rfl ?_
  refine a_aload_n X dMO_init_0 rfl 0 rfl ?_
  refine a_obj X tw_927 tw_23 tw_obj (Nat.le_of_ble_eq_true rfl) (Nat.le_of_ble_eq_true rfl) dMO_init_1 ?_
  refine a_aload_n X dMO_init_4 rfl 0 rfl ?_
  refine a_sipush X (v := (12288 : Int32)) dMO_init_5 (by decide) ?_
  refine a_newarr X hK.1 (t := 0) (k := 42) (N := 12288) (Or.inl ⟨rfl, rfl⟩) tw_78 rfl (by decide) (by decide) (by decide) (Nat.le_of_ble_eq_true rfl) (Nat.le_of_ble_eq_true rfl) dMO_init_8 ?_
  refine a_put X hK.1 (k := 41) (o := some (some 42)) (x := 0) hp_MO_7 (fun _ => hin) rfl (by decide) rfl rfl rfl dMO_init_10 ?_
  refine a_aload_n X dMO_init_13 rfl 0 rfl ?_
  refine a_bipush X (v := (8 : Int32)) dMO_init_14 (by decide) ?_
  refine a_newarr X hK.1 (t := 0) (k := 43) (N := 8) (Or.inl ⟨rfl, rfl⟩) tw_78 rfl (by decide) (by decide) (by decide) (Nat.le_of_ble_eq_true rfl) (Nat.le_of_ble_eq_true rfl) dMO_init_16 ?_
  refine a_put X hK.1 (k := 41) (o := some (some 43)) (x := 0) hp_MO_13 (fun _ => hin) rfl (by decide) rfl rfl rfl dMO_init_18 ?_
  refine a_aload_n X dMO_init_21 rfl 0 rfl ?_
  refine a_bipush X (v := (8 : Int32)) dMO_init_22 (by decide) ?_
  refine a_newarr X hK.1 (t := 0) (k := 44) (N := 8) (Or.inl ⟨rfl, rfl⟩) tw_78 rfl (by decide) (by decide) (by decide) (Nat.le_of_ble_eq_true rfl) (Nat.le_of_ble_eq_true rfl) dMO_init_24 ?_
  refine a_put X hK.1 (k := 41) (o := some (some 44)) (x := 0) hp_MO_16 (fun _ => hin) rfl (by decide) rfl rfl rfl dMO_init_26 ?_
  refine a_aload_n X dMO_init_29 rfl 0 rfl ?_
  refine a_sipush X (v := (2048 : Int32)) dMO_init_30 (by decide) ?_
  refine a_newarr X hK.1 (t := 0) (k := 45) (N := 2048) (Or.inl ⟨rfl, rfl⟩) tw_78 rfl (by decide) (by decide) (by decide) (Nat.le_of_ble_eq_true rfl) (Nat.le_of_ble_eq_true rfl) dMO_init_33 ?_
  refine a_put X hK.1 (k := 41) (o := some (some 45)) (x := 0) hp_MO_19 (fun _ => hin) rfl (by decide) rfl rfl rfl dMO_init_35 ?_
  refine a_aload_n X dMO_init_38 rfl 0 rfl ?_
  refine a_iconst X (v := (2 : Int32)) dMO_init_39 (by decide) ?_
  refine a_newarr X hK.1 (t := 0) (k := 46) (N := 2) (Or.inl ⟨rfl, rfl⟩) tw_78 rfl (by decide) (by decide) (by decide) (Nat.le_of_ble_eq_true rfl) (Nat.le_of_ble_eq_true rfl) dMO_init_40 ?_
  refine a_put X hK.1 (k := 41) (o := some (some 46)) (x := 0) hp_MO_22 (fun _ => hin) rfl (by decide) rfl rfl rfl dMO_init_42 ?_
  refine a_aload_n X dMO_init_45 rfl 0 rfl ?_
  refine a_sipush X (v := (200 : Int32)) dMO_init_46 (by decide) ?_
  refine a_newarr X hK.1 (t := 0) (k := 47) (N := 200) (Or.inl ⟨rfl, rfl⟩) tw_78 rfl (by decide) (by decide) (by decide) (Nat.le_of_ble_eq_true rfl) (Nat.le_of_ble_eq_true rfl) dMO_init_49 ?_
  refine a_put X hK.1 (k := 41) (o := some (some 47)) (x := 0) hp_MO_25 (fun _ => hin) rfl (by decide) rfl rfl rfl dMO_init_51 ?_
  refine a_aload_n X dMO_init_54 rfl 0 rfl ?_
  refine a_sipush X (v := (200 : Int32)) dMO_init_55 (by decide) ?_
  refine a_newarr X hK.1 (t := 0) (k := 48) (N := 200) (Or.inl ⟨rfl, rfl⟩) tw_78 rfl (by decide) (by decide) (by decide) (Nat.le_of_ble_eq_true rfl) (Nat.le_of_ble_eq_true rfl) dMO_init_58 ?_
  refine a_put X hK.1 (k := 41) (o := some (some 48)) (x := 0) hp_MO_28 (fun _ => hin) rfl (by decide) rfl rfl rfl dMO_init_60 ?_
  refine a_aload_n X dMO_init_63 rfl 0 rfl ?_
  refine a_sipush X (v := (200 : Int32)) dMO_init_64 (by decide) ?_
  refine a_newarr X hK.1 (t := 0) (k := 49) (N := 200) (Or.inl ⟨rfl, rfl⟩) tw_78 rfl (by decide) (by decide) (by decide) (Nat.le_of_ble_eq_true rfl) (Nat.le_of_ble_eq_true rfl) dMO_init_67 ?_
  refine a_put X hK.1 (k := 41) (o := some (some 49)) (x := 0) hp_MO_31 (fun _ => hin) rfl (by decide) rfl rfl rfl dMO_init_69 ?_
  refine a_aload_n X dMO_init_72 rfl 0 rfl ?_
  refine a_sipush X (v := (200 : Int32)) dMO_init_73 (by decide) ?_
  refine a_newarr X hK.1 (t := 0) (k := 50) (N := 200) (Or.inl ⟨rfl, rfl⟩) tw_78 rfl (by decide) (by decide) (by decide) (Nat.le_of_ble_eq_true rfl) (Nat.le_of_ble_eq_true rfl) dMO_init_76 ?_
  refine a_put X hK.1 (k := 41) (o := some (some 50)) (x := 0) hp_MO_34 (fun _ => hin) rfl (by decide) rfl rfl rfl dMO_init_78 ?_
  refine a_aload_n X dMO_init_81 rfl 0 rfl ?_
  refine a_sipush X (v := (200 : Int32)) dMO_init_82 (by decide) ?_
  refine a_newarr X hK.1 (t := 0) (k := 51) (N := 200) (Or.inl ⟨rfl, rfl⟩) tw_78 rfl (by decide) (by decide) (by decide) (Nat.le_of_ble_eq_true rfl) (Nat.le_of_ble_eq_true rfl) dMO_init_85 ?_
  refine a_put X hK.1 (k := 41) (o := some (some 51)) (x := 0) hp_MO_37 (fun _ => hin) rfl (by decide) rfl rfl rfl dMO_init_87 ?_
  refine a_aload_n X dMO_init_90 rfl 0 rfl ?_
  refine a_sipush X (v := (200 : Int32)) dMO_init_91 (by decide) ?_
  refine a_newarr X hK.1 (t := 0) (k := 52) (N := 200) (Or.inl ⟨rfl, rfl⟩) tw_78 rfl (by decide) (by decide) (by decide) (Nat.le_of_ble_eq_true rfl) (Nat.le_of_ble_eq_true rfl) dMO_init_94 ?_
  refine a_put X hK.1 (k := 41) (o := some (some 52)) (x := 0) hp_MO_40 (fun _ => hin) rfl (by decide) rfl rfl rfl dMO_init_96 ?_
  refine a_aload_n X dMO_init_99 rfl 0 rfl ?_
  refine a_sipush X (v := (3200 : Int32)) dMO_init_100 (by decide) ?_
  refine a_newarr X hK.1 (t := 0) (k := 53) (N := 3200) (Or.inl ⟨rfl, rfl⟩) tw_78 rfl (by decide) (by decide) (by decide) (Nat.le_of_ble_eq_true rfl) (Nat.le_of_ble_eq_true rfl) dMO_init_103 ?_
  refine a_put X hK.1 (k := 41) (o := some (some 53)) (x := 0) hp_MO_43 (fun _ => hin) rfl (by decide) rfl rfl rfl dMO_init_105 ?_
  refine a_aload_n X dMO_init_108 rfl 0 rfl ?_
  refine a_iconst X (v := (2 : Int32)) dMO_init_109 (by decide) ?_
  refine a_newarr X hK.1 (t := 0) (k := 54) (N := 2) (Or.inl ⟨rfl, rfl⟩) tw_78 rfl (by decide) (by decide) (by decide) (Nat.le_of_ble_eq_true rfl) (Nat.le_of_ble_eq_true rfl) dMO_init_110 ?_
  refine a_put X hK.1 (k := 41) (o := some (some 54)) (x := 0) hp_MO_46 (fun _ => hin) rfl (by decide) rfl rfl rfl dMO_init_112 ?_
  refine a_aload_n X dMO_init_115 rfl 0 rfl ?_
  refine a_sipush X (v := (600 : Int32)) dMO_init_116 (by decide) ?_
  refine a_newarr X hK.1 (t := 0) (k := 55) (N := 600) (Or.inl ⟨rfl, rfl⟩) tw_78 rfl (by decide) (by decide) (by decide) (Nat.le_of_ble_eq_true rfl) (Nat.le_of_ble_eq_true rfl) dMO_init_119 ?_
  refine a_put X hK.1 (k := 41) (o := some (some 55)) (x := 0) hp_MO_49 (fun _ => hin) rfl (by decide) rfl rfl rfl dMO_init_121 ?_
  refine a_aload_n X dMO_init_124 rfl 0 rfl ?_
  refine a_sipush X (v := (600 : Int32)) dMO_init_125 (by decide) ?_
  refine a_newarr X hK.1 (t := 0) (k := 56) (N := 600) (Or.inl ⟨rfl, rfl⟩) tw_78 rfl (by decide) (by decide) (by decide) (Nat.le_of_ble_eq_true rfl) (Nat.le_of_ble_eq_true rfl) dMO_init_128 ?_
  refine a_put X hK.1 (k := 41) (o := some (some 56)) (x := 0) hp_MO_52 (fun _ => hin) rfl (by decide) rfl rfl rfl dMO_init_130 ?_
  refine a_aload_n X dMO_init_133 rfl 0 rfl ?_
  refine a_sipush X (v := (600 : Int32)) dMO_init_134 (by decide) ?_
  refine a_newarr X hK.1 (t := 0) (k := 57) (N := 600) (Or.inl ⟨rfl, rfl⟩) tw_78 rfl (by decide) (by decide) (by decide) (Nat.le_of_ble_eq_true rfl) (Nat.le_of_ble_eq_true rfl) dMO_init_137 ?_
  refine a_put X hK.1 (k := 41) (o := some (some 57)) (x := 0) hp_MO_55 (fun _ => hin) rfl (by decide) rfl rfl rfl dMO_init_139 ?_
  refine a_aload_n X dMO_init_142 rfl 0 rfl ?_
  refine a_sipush X (v := (600 : Int32)) dMO_init_143 (by decide) ?_
  refine a_newarr X hK.1 (t := 0) (k := 58) (N := 600) (Or.inl ⟨rfl, rfl⟩) tw_78 rfl (by decide) (by decide) (by decide) (Nat.le_of_ble_eq_true rfl) (Nat.le_of_ble_eq_true rfl) dMO_init_146 ?_
  refine a_put X hK.1 (k := 41) (o := some (some 58)) (x := 0) hp_MO_58 (fun _ => hin) rfl (by decide) rfl rfl rfl dMO_init_148 ?_
  refine a_aload_n X dMO_init_151 rfl 0 rfl ?_
  refine a_sipush X (v := (600 : Int32)) dMO_init_152 (by decide) ?_
  refine a_newarr X hK.1 (t := 0) (k := 59) (N := 600) (Or.inl ⟨rfl, rfl⟩) tw_78 rfl (by decide) (by decide) (by decide) (Nat.le_of_ble_eq_true rfl) (Nat.le_of_ble_eq_true rfl) dMO_init_155 ?_
  refine a_put X hK.1 (k := 41) (o := some (some 59)) (x := 0) hp_MO_61 (fun _ => hin) rfl (by decide) rfl rfl rfl dMO_init_157 ?_
  refine a_aload_n X dMO_init_160 rfl 0 rfl ?_
  refine a_iconst X (v := (2 : Int32)) dMO_init_161 (by decide) ?_
  refine a_newarr X hK.1 (t := 0) (k := 60) (N := 2) (Or.inl ⟨rfl, rfl⟩) tw_78 rfl (by decide) (by decide) (by decide) (Nat.le_of_ble_eq_true rfl) (Nat.le_of_ble_eq_true rfl) dMO_init_162 ?_
  refine a_put X hK.1 (k := 41) (o := some (some 60)) (x := 0) hp_MO_64 (fun _ => hin) rfl (by decide) rfl rfl rfl dMO_init_164 ?_
  refine a_aload_n X dMO_init_167 rfl 0 rfl ?_
  refine a_bipush X (v := (16 : Int32)) dMO_init_168 (by decide) ?_
  refine a_newarr X hK.1 (t := 0) (k := 61) (N := 16) (Or.inl ⟨rfl, rfl⟩) tw_78 rfl (by decide) (by decide) (by decide) (Nat.le_of_ble_eq_true rfl) (Nat.le_of_ble_eq_true rfl) dMO_init_170 ?_
  refine a_put X hK.1 (k := 41) (o := some (some 61)) (x := 0) hp_MO_67 (fun _ => hin) rfl (by decide) rfl rfl rfl dMO_init_172 ?_
  refine a_aload_n X dMO_init_175 rfl 0 rfl ?_
  refine a_sipush X (v := (8192 : Int32)) dMO_init_176 (by decide) ?_
  refine a_newarr X hK.1 (t := 0) (k := 62) (N := 8192) (Or.inl ⟨rfl, rfl⟩) tw_78 rfl (by decide) (by decide) (by decide) (Nat.le_of_ble_eq_true rfl) (Nat.le_of_ble_eq_true rfl) dMO_init_179 ?_
  refine a_put X hK.1 (k := 41) (o := some (some 62)) (x := 0) hp_MO_70 (fun _ => hin) rfl (by decide) rfl rfl rfl dMO_init_181 ?_
  refine a_aload_n X dMO_init_184 rfl 0 rfl ?_
  refine a_iconst X (v := (-1 : Int32)) dMO_init_185 (by decide) ?_
  refine a_put X hK.1 (k := 41) (o := none) (x := (-1 : Int32)) hp_MO_73 (fun _ => hin) rfl (by decide) (by simp [hRef, upd]) rfl rfl dMO_init_186 ?_
  refine a_aload_n X dMO_init_189 rfl 0 rfl ?_
  refine a_sipush X (v := (128 : Int32)) dMO_init_190 (by decide) ?_
  refine a_newarr X hK.1 (t := 0) (k := 63) (N := 128) (Or.inl ⟨rfl, rfl⟩) tw_78 rfl (by decide) (by decide) (by decide) (Nat.le_of_ble_eq_true rfl) (Nat.le_of_ble_eq_true rfl) dMO_init_193 ?_
  refine a_put X hK.1 (k := 41) (o := some (some 63)) (x := 0) hp_MO_77 (fun _ => hin) rfl (by decide) rfl rfl rfl dMO_init_195 ?_
  refine a_aload_n X dMO_init_198 rfl 0 rfl ?_
  refine a_bipush X (v := (11 : Int32)) dMO_init_199 (by decide) ?_
  refine a_newarr X hK.1 (t := 0) (k := 64) (N := 11) (Or.inl ⟨rfl, rfl⟩) tw_78 rfl (by decide) (by decide) (by decide) (Nat.le_of_ble_eq_true rfl) (Nat.le_of_ble_eq_true rfl) dMO_init_201 ?_
  refine a_put X hK.1 (k := 41) (o := some (some 64)) (x := 0) hp_MO_80 (fun _ => hin) rfl (by decide) rfl rfl rfl dMO_init_203 ?_
  refine a_aload_n X dMO_init_206 rfl 0 rfl ?_
  refine a_bipush X (v := (11 : Int32)) dMO_init_207 (by decide) ?_
  refine a_newarr X hK.1 (t := 0) (k := 65) (N := 11) (Or.inl ⟨rfl, rfl⟩) tw_78 rfl (by decide) (by decide) (by decide) (Nat.le_of_ble_eq_true rfl) (Nat.le_of_ble_eq_true rfl) dMO_init_209 ?_
  refine a_put X hK.1 (k := 41) (o := some (some 65)) (x := 0) hp_MO_83 (fun _ => hin) rfl (by decide) rfl rfl rfl dMO_init_211 ?_
  refine a_aload_n X dMO_init_214 rfl 0 rfl ?_
  refine a_bipush X (v := (11 : Int32)) dMO_init_215 (by decide) ?_
  refine a_newarr X hK.1 (t := 0) (k := 66) (N := 11) (Or.inl ⟨rfl, rfl⟩) tw_78 rfl (by decide) (by decide) (by decide) (Nat.le_of_ble_eq_true rfl) (Nat.le_of_ble_eq_true rfl) dMO_init_217 ?_
  refine a_put X hK.1 (k := 41) (o := some (some 66)) (x := 0) hp_MO_86 (fun _ => hin) rfl (by decide) rfl rfl rfl dMO_init_219 ?_
  refine a_aload_n X dMO_init_222 rfl 0 rfl ?_
  refine a_bipush X (v := (11 : Int32)) dMO_init_223 (by decide) ?_
  refine a_newarr X hK.1 (t := 0) (k := 67) (N := 11) (Or.inl ⟨rfl, rfl⟩) tw_78 rfl (by decide) (by decide) (by decide) (Nat.le_of_ble_eq_true rfl) (Nat.le_of_ble_eq_true rfl) dMO_init_225 ?_
  refine a_put X hK.1 (k := 41) (o := some (some 67)) (x := 0) hp_MO_89 (fun _ => hin) rfl (by decide) rfl rfl rfl dMO_init_227 ?_
  refine a_aload_n X dMO_init_230 rfl 0 rfl ?_
  refine a_sipush X (v := (2048 : Int32)) dMO_init_231 (by decide) ?_
  refine a_newarr X hK.1 (t := 0) (k := 68) (N := 2048) (Or.inl ⟨rfl, rfl⟩) tw_78 rfl (by decide) (by decide) (by decide) (Nat.le_of_ble_eq_true rfl) (Nat.le_of_ble_eq_true rfl) dMO_init_234 ?_
  refine a_put X hK.1 (k := 41) (o := some (some 68)) (x := 0) hp_MO_92 (fun _ => hin) rfl (by decide) rfl rfl rfl dMO_init_236 ?_
  refine a_aload_n X dMO_init_239 rfl 0 rfl ?_
  refine a_bipush X (v := (24 : Int32)) dMO_init_240 (by decide) ?_
  refine a_newarr X hK.1 (t := 0) (k := 69) (N := 24) (Or.inl ⟨rfl, rfl⟩) tw_78 rfl (by decide) (by decide) (by decide) (Nat.le_of_ble_eq_true rfl) (Nat.le_of_ble_eq_true rfl) dMO_init_242 ?_
  refine a_put X hK.1 (k := 41) (o := some (some 69)) (x := 0) hp_MO_95 (fun _ => hin) rfl (by decide) rfl rfl rfl dMO_init_244 ?_
  refine a_aload_n X dMO_init_247 rfl 0 rfl ?_
  refine a_bipush X (v := (100 : Int32)) dMO_init_248 (by decide) ?_
  refine a_newarr X hK.1 (t := 0) (k := 70) (N := 100) (Or.inl ⟨rfl, rfl⟩) tw_78 rfl (by decide) (by decide) (by decide) (Nat.le_of_ble_eq_true rfl) (Nat.le_of_ble_eq_true rfl) dMO_init_250 ?_
  refine a_put X hK.1 (k := 41) (o := some (some 70)) (x := 0) hp_MO_98 (fun _ => hin) rfl (by decide) rfl rfl rfl dMO_init_252 ?_
  refine a_aload_n X dMO_init_255 rfl 0 rfl ?_
  refine a_bipush X (v := (100 : Int32)) dMO_init_256 (by decide) ?_
  refine a_newarr X hK.1 (t := 0) (k := 71) (N := 100) (Or.inl ⟨rfl, rfl⟩) tw_78 rfl (by decide) (by decide) (by decide) (Nat.le_of_ble_eq_true rfl) (Nat.le_of_ble_eq_true rfl) dMO_init_258 ?_
  refine a_put X hK.1 (k := 41) (o := some (some 71)) (x := 0) hp_MO_101 (fun _ => hin) rfl (by decide) rfl rfl rfl dMO_init_260 ?_
  refine a_aload_n X dMO_init_263 rfl 0 rfl ?_
  refine a_bipush X (v := (11 : Int32)) dMO_init_264 (by decide) ?_
  refine a_newarr X hK.1 (t := 0) (k := 72) (N := 11) (Or.inl ⟨rfl, rfl⟩) tw_78 rfl (by decide) (by decide) (by decide) (Nat.le_of_ble_eq_true rfl) (Nat.le_of_ble_eq_true rfl) dMO_init_266 ?_
  refine a_put X hK.1 (k := 41) (o := some (some 72)) (x := 0) hp_MO_104 (fun _ => hin) rfl (by decide) rfl rfl rfl dMO_init_268 ?_
  refine a_aload_n X dMO_init_271 rfl 0 rfl ?_
  refine a_bipush X (v := (11 : Int32)) dMO_init_272 (by decide) ?_
  refine a_newarr X hK.1 (t := 0) (k := 73) (N := 11) (Or.inl ⟨rfl, rfl⟩) tw_78 rfl (by decide) (by decide) (by decide) (Nat.le_of_ble_eq_true rfl) (Nat.le_of_ble_eq_true rfl) dMO_init_274 ?_
  refine a_put X hK.1 (k := 41) (o := some (some 73)) (x := 0) hp_MO_107 (fun _ => hin) rfl (by decide) rfl rfl rfl dMO_init_276 ?_
  refine a_aload_n X dMO_init_279 rfl 0 rfl ?_
  refine a_bipush X (v := (16 : Int32)) dMO_init_280 (by decide) ?_
  refine a_newarr X hK.1 (t := 0) (k := 74) (N := 16) (Or.inl ⟨rfl, rfl⟩) tw_78 rfl (by decide) (by decide) (by decide) (Nat.le_of_ble_eq_true rfl) (Nat.le_of_ble_eq_true rfl) dMO_init_282 ?_
  refine a_put X hK.1 (k := 41) (o := some (some 74)) (x := 0) hp_MO_110 (fun _ => hin) rfl (by decide) rfl rfl rfl dMO_init_284 ?_
  refine a_lay (lay2 := hL_20) (by decide +kernel) ?_
  refine a_toG (glay := gLay) rfl ?_
  unfold wp_MO_initB at h
  revert h
  show wp_MO_bodyB post (im_MO M) → GW gLay gCl D ta base p l e (hRm 2 50 33 32448) s m (List.toArray [.ref (base + 41)]) below meth c 33 32448 (MQ below (gQ gLay gCl D ta base (gPv post)) (List.toArray [.ref (base + 41)]) s 33 32448 (fun q => base ≤ q)) 2 287 [(0, .ref (base + 41))] [] (im_MO M)
  generalize im_MO M = M
  intro h
  unfold wp_MO_bodyB at h
  refine g_iconst X (v := (0 : Int32)) dMO_init_287 (by decide) ?_
  refine g_istore_n X (L' := [(1, .int (0 : Int32)), (0, .ref (base + 41))]) dMO_init_288 rfl (Nat.le_of_ble_eq_true rfl) rfl ?_
  refine g_sub (L' := [(0, .ref (base + 41)), (1, .int (0 : Int32))]) [1, 0] rfl ?_
  obtain ⟨n9, h⟩ := h
  exact r_289 n9 (0 : Int32) M h
