/-! THE LAW: questions -/
theorem vp6 {i j L : Nat} {x : Int32} (hi : i + 6 ≤ L) (hj : j < 6) (hL : L ≤ 3072) (hx : x = nI j := by rfl) : vp_in (nI i + x) L := by rw [hx, nI_add]; exact vp_in_nI (by omega) (by omega)
section LawQ
variable {l : Launch} {L i B k n : Nat} {xs : Nat → Int32} {X : jEX} {G : jG} {a : aS} {μ : jM}
theorem law_road (hI : lwI G a B μ) (hB : B + 230 ≤ BB) (hi : i + 6 ≤ L) (hL : L ≤ 3072) (K : ∀ B' a' μ', lwI G a' B' μ' → B' ≤ B + 30 → J l mL (jZL L xs X) G k n 1301 [.float 0, .ref 0, .ref 112, .int (nI i)] [] μ') : J l mL (jZL L xs X) G k n 308 [.float 0, .ref 0, .ref 112, .int (nI i)] [] μ := by
  obtain ⟨⟨hM, hG, hg⟩, ⟨t, d, hc⟩, hm, ok, hb, ⟨hP, hN⟩, ⟨kc, vk, km⟩, cl⟩ := hI
  refine j_aload_n dL_308 rfl rfl ?_
  refine j_aload_nF dL_309 rfl rfl ?_
  refine j_iload_n dL_310 rfl rfl ?_
  refine j_iconst 1 dL_311 rfl (by decide) ?_
  refine j_iadd dL_312 rfl ?_
  refine j_sld dL_313 rfl (vp6 (j := 1) hi (by decide) hL) ?_
  refine j_aload_nF dL_314 rfl rfl ?_
  refine j_iload_n dL_315 rfl rfl ?_
  refine j_iconst 2 dL_316 rfl (by decide) ?_
  refine j_iadd dL_317 rfl ?_
  refine j_sld dL_318 rfl (vp6 (j := 2) hi (by decide) hL) ?_
  refine j_cV (as := [.int (xs ((nI i + 1).toNatClampNeg)), .int (xs ((nI i + 2).toNatClampNeg))]) (rest := []) dL_319 rfl vw_L_32 (hG 0 (16, 9) rfl) rfl ⟨Nat.le_of_ble_eq_true rfl, Nat.le_of_ble_eq_true rfl⟩ rfl rfl (fun _ _ => Nat.le_of_ble_eq_true rfl) (c_X11_road hG hP hc (xs ((nI i + 1).toNatClampNeg)) (xs ((nI i + 2).toNatClampNeg))) ?_
  rintro _ μ1 ⟨_, rfl, rfl, c1, P1, i1⟩
  have m1 := i1.mI hm
  obtain ⟨v, w1⟩ := id m1.1
  refine j_aload_n dL_322 rfl rfl ?_
  refine j_aload_nF dL_323 rfl rfl ?_
  refine j_iload_n dL_324 rfl rfl ?_
  refine j_iconst 1 dL_325 rfl (by decide) ?_
  refine j_iadd dL_326 rfl ?_
  refine j_sld dL_327 rfl (vp6 (j := 1) hi (by decide) hL) ?_
  refine j_aload_nF dL_328 rfl rfl ?_
  refine j_iload_n dL_329 rfl rfl ?_
  refine j_iconst 2 dL_330 rfl (by decide) ?_
  refine j_iadd dL_331 rfl ?_
  refine j_sld dL_332 rfl (vp6 (j := 2) hi (by decide) hL) ?_
  refine j_cV (as := [.int (xs ((nI i + 1).toNatClampNeg)), .int (xs ((nI i + 2).toNatClampNeg))]) (rest := [.int _]) dL_333 rfl vw_L_36 (hM 112 (17, 80) rfl) rfl ⟨Nat.le_of_ble_eq_true rfl, Nat.le_of_ble_eq_true rfl⟩ rfl rfl (fun _ _ => Nat.le_of_ble_eq_true rfl) (c_X12_road hM (i1.nn hN) w1 (xs ((nI i + 1).toNatClampNeg)) (xs ((nI i + 2).toNatClampNeg))) ?_
  rintro _ μ2 ⟨_, rfl, rfl, q2⟩
  obtain ⟨m2, N2, l2⟩ := mI_q m1 q2 (i1.nn hN)
  have g2 := l2.G
  exact j_icmp_eq 1301 dL_336 rfl (by decide) (fun _ => K B a μ2 ⟨⟨hM, hG, hg⟩, ⟨t, d, g2.cJ c1⟩, m2, ok, hb, ⟨g2.pp P1, N2⟩, ⟨g2.kw (i1.kw kc), g2.vK (i1.vK vk), g2.kwm (i1.kwm km)⟩, g2.cl (i1.cl cl (by omega))⟩ (by omega)) (fun h => absurd rfl h)
theorem law_ghost (hI : lwI G a B μ) (hB : B + 230 ≤ BB) (hi : i + 6 ≤ L) (hL : L ≤ 3072) (K : ∀ B' a' μ', lwI G a' B' μ' → B' ≤ B + 30 → J l mL (jZL L xs X) G k n 1301 [.float 0, .ref 0, .ref 112, .int (nI i)] [] μ') : J l mL (jZL L xs X) G k n 341 [.float 0, .ref 0, .ref 112, .int (nI i)] [] μ := by
  obtain ⟨⟨hM, hG, hg⟩, ⟨t, d, hc⟩, hm, ok, hb, ⟨hP, hN⟩, ⟨kc, vk, km⟩, cl⟩ := hI
  refine j_aload_n dL_341 rfl rfl ?_
  refine j_aload_nF dL_342 rfl rfl ?_
  refine j_iload_n dL_343 rfl rfl ?_
  refine j_iconst 1 dL_344 rfl (by decide) ?_
  refine j_iadd dL_345 rfl ?_
  refine j_sld dL_346 rfl (vp6 (j := 1) hi (by decide) hL) ?_
  refine j_aload_nF dL_347 rfl rfl ?_
  refine j_iload_n dL_348 rfl rfl ?_
  refine j_iconst 2 dL_349 rfl (by decide) ?_
  refine j_iadd dL_350 rfl ?_
  refine j_sld dL_351 rfl (vp6 (j := 2) hi (by decide) hL) ?_
  refine j_cV (as := [.int (xs ((nI i + 1).toNatClampNeg)), .int (xs ((nI i + 2).toNatClampNeg))]) (rest := []) dL_352 rfl vw_L_37 (hG 0 (16, 9) rfl) rfl ⟨Nat.le_of_ble_eq_true rfl, Nat.le_of_ble_eq_true rfl⟩ rfl rfl (fun _ _ => Nat.le_of_ble_eq_true rfl) (c_X11_ghost hG hP hc (xs ((nI i + 1).toNatClampNeg)) (xs ((nI i + 2).toNatClampNeg))) ?_
  rintro _ μ1 ⟨_, rfl, rfl, c1, P1, i1⟩
  have m1 := i1.mI hm
  obtain ⟨v, w1⟩ := id m1.1
  refine j_aload_n dL_355 rfl rfl ?_
  refine j_aload_nF dL_356 rfl rfl ?_
  refine j_iload_n dL_357 rfl rfl ?_
  refine j_iconst 1 dL_358 rfl (by decide) ?_
  refine j_iadd dL_359 rfl ?_
  refine j_sld dL_360 rfl (vp6 (j := 1) hi (by decide) hL) ?_
  refine j_aload_nF dL_361 rfl rfl ?_
  refine j_iload_n dL_362 rfl rfl ?_
  refine j_iconst 2 dL_363 rfl (by decide) ?_
  refine j_iadd dL_364 rfl ?_
  refine j_sld dL_365 rfl (vp6 (j := 2) hi (by decide) hL) ?_
  refine j_cV (as := [.int (xs ((nI i + 1).toNatClampNeg)), .int (xs ((nI i + 2).toNatClampNeg))]) (rest := [.int _]) dL_366 rfl vw_L_40 (hM 112 (17, 80) rfl) rfl ⟨Nat.le_of_ble_eq_true rfl, Nat.le_of_ble_eq_true rfl⟩ rfl rfl (fun _ _ => Nat.le_of_ble_eq_true rfl) (c_X12_ghost hM (i1.nn hN) w1 (xs ((nI i + 1).toNatClampNeg)) (xs ((nI i + 2).toNatClampNeg))) ?_
  rintro _ μ2 ⟨_, rfl, rfl, q2⟩
  obtain ⟨m2, N2, l2⟩ := mI_q m1 q2 (i1.nn hN)
  have g2 := l2.G
  exact j_icmp_eq 1301 dL_369 rfl (by decide) (fun _ => K B a μ2 ⟨⟨hM, hG, hg⟩, ⟨t, d, g2.cJ c1⟩, m2, ok, hb, ⟨g2.pp P1, N2⟩, ⟨g2.kw (i1.kw kc), g2.vK (i1.vK vk), g2.kwm (i1.kwm km)⟩, g2.cl (i1.cl cl (by omega))⟩ (by omega)) (fun h => absurd rfl h)
theorem law_cost (hI : lwI G a B μ) (hB : B + 230 ≤ BB) (hi : i + 6 ≤ L) (hL : L ≤ 3072) (K : ∀ B' a' μ', lwI G a' B' μ' → B' ≤ B + 30 → J l mL (jZL L xs X) G k n 1301 [.float 0, .ref 0, .ref 112, .int (nI i)] [] μ') : J l mL (jZL L xs X) G k n 374 [.float 0, .ref 0, .ref 112, .int (nI i)] [] μ := by
  obtain ⟨⟨hM, hG, hg⟩, ⟨t, d, hc⟩, hm, ok, hb, ⟨hP, hN⟩, ⟨kc, vk, km⟩, cl⟩ := hI
  refine j_aload_n dL_374 rfl rfl ?_
  refine j_aload_nF dL_375 rfl rfl ?_
  refine j_iload_n dL_376 rfl rfl ?_
  refine j_iconst 1 dL_377 rfl (by decide) ?_
  refine j_iadd dL_378 rfl ?_
  refine j_sld dL_379 rfl (vp6 (j := 1) hi (by decide) hL) ?_
  refine j_aload_nF dL_380 rfl rfl ?_
  refine j_iload_n dL_381 rfl rfl ?_
  refine j_iconst 2 dL_382 rfl (by decide) ?_
  refine j_iadd dL_383 rfl ?_
  refine j_sld dL_384 rfl (vp6 (j := 2) hi (by decide) hL) ?_
  refine j_cV (as := [.int (xs ((nI i + 1).toNatClampNeg)), .int (xs ((nI i + 2).toNatClampNeg))]) (rest := []) dL_385 rfl vw_L_41 (hG 0 (16, 9) rfl) rfl ⟨Nat.le_of_ble_eq_true rfl, Nat.le_of_ble_eq_true rfl⟩ rfl rfl (fun _ _ => Nat.le_of_ble_eq_true rfl) (c_X11_cost hG hP hc (xs ((nI i + 1).toNatClampNeg)) (xs ((nI i + 2).toNatClampNeg))) ?_
  rintro _ μ1 ⟨_, rfl, rfl, c1, P1, i1⟩
  have m1 := i1.mI hm
  obtain ⟨v, w1⟩ := id m1.1
  refine j_aload_n dL_388 rfl rfl ?_
  refine j_aload_nF dL_389 rfl rfl ?_
  refine j_iload_n dL_390 rfl rfl ?_
  refine j_iconst 1 dL_391 rfl (by decide) ?_
  refine j_iadd dL_392 rfl ?_
  refine j_sld dL_393 rfl (vp6 (j := 1) hi (by decide) hL) ?_
  refine j_aload_nF dL_394 rfl rfl ?_
  refine j_iload_n dL_395 rfl rfl ?_
  refine j_iconst 2 dL_396 rfl (by decide) ?_
  refine j_iadd dL_397 rfl ?_
  refine j_sld dL_398 rfl (vp6 (j := 2) hi (by decide) hL) ?_
  refine j_cV (as := [.int (xs ((nI i + 1).toNatClampNeg)), .int (xs ((nI i + 2).toNatClampNeg))]) (rest := [.int _]) dL_399 rfl vw_L_44 (hM 112 (17, 80) rfl) rfl ⟨Nat.le_of_ble_eq_true rfl, Nat.le_of_ble_eq_true rfl⟩ rfl rfl (fun _ _ => Nat.le_of_ble_eq_true rfl) (c_X12_cost hM (i1.nn hN) w1 (xs ((nI i + 1).toNatClampNeg)) (xs ((nI i + 2).toNatClampNeg))) ?_
  rintro _ μ2 ⟨_, rfl, rfl, q2⟩
  obtain ⟨m2, N2, l2⟩ := mI_q m1 q2 (i1.nn hN)
  have g2 := l2.G
  exact j_icmp_eq 1301 dL_402 rfl (by decide) (fun _ => K B a μ2 ⟨⟨hM, hG, hg⟩, ⟨t, d, g2.cJ c1⟩, m2, ok, hb, ⟨g2.pp P1, N2⟩, ⟨g2.kw (i1.kw kc), g2.vK (i1.vK vk), g2.kwm (i1.kwm km)⟩, g2.cl (i1.cl cl (by omega))⟩ (by omega)) (fun h => absurd rfl h)
theorem law_way (hI : lwI G a B μ) (hB : B + 230 ≤ BB) (hi : i + 6 ≤ L) (hL : L ≤ 3072) (K : ∀ B' a' μ', lwI G a' B' μ' → B' ≤ B + 30 → J l mL (jZL L xs X) G k n 1301 [.float 0, .ref 0, .ref 112, .int (nI i)] [] μ') : J l mL (jZL L xs X) G k n 407 [.float 0, .ref 0, .ref 112, .int (nI i)] [] μ := by
  obtain ⟨⟨hM, hG, hg⟩, ⟨t, d, hc⟩, hm, ok, hb, ⟨hP, hN⟩, ⟨kc, vk, km⟩, cl⟩ := hI
  refine j_aload_n dL_407 rfl rfl ?_
  refine j_aload_nF dL_408 rfl rfl ?_
  refine j_iload_n dL_409 rfl rfl ?_
  refine j_iconst 1 dL_410 rfl (by decide) ?_
  refine j_iadd dL_411 rfl ?_
  refine j_sld dL_412 rfl (vp6 (j := 1) hi (by decide) hL) ?_
  refine j_aload_nF dL_413 rfl rfl ?_
  refine j_iload_n dL_414 rfl rfl ?_
  refine j_iconst 2 dL_415 rfl (by decide) ?_
  refine j_iadd dL_416 rfl ?_
  refine j_sld dL_417 rfl (vp6 (j := 2) hi (by decide) hL) ?_
  refine j_cV (as := [.int (xs ((nI i + 1).toNatClampNeg)), .int (xs ((nI i + 2).toNatClampNeg))]) (rest := []) dL_418 rfl vw_L_45 (hG 0 (16, 9) rfl) rfl ⟨Nat.le_of_ble_eq_true rfl, Nat.le_of_ble_eq_true rfl⟩ rfl rfl (fun _ _ => Nat.le_of_ble_eq_true rfl) (c_X11_way hG hP hc (xs ((nI i + 1).toNatClampNeg)) (xs ((nI i + 2).toNatClampNeg))) ?_
  rintro _ μ1 ⟨_, rfl, rfl, c1, P1, i1⟩
  have m1 := i1.mI hm
  obtain ⟨v, w1⟩ := id m1.1
  refine j_aload_n dL_421 rfl rfl ?_
  refine j_aload_nF dL_422 rfl rfl ?_
  refine j_iload_n dL_423 rfl rfl ?_
  refine j_iconst 1 dL_424 rfl (by decide) ?_
  refine j_iadd dL_425 rfl ?_
  refine j_sld dL_426 rfl (vp6 (j := 1) hi (by decide) hL) ?_
  refine j_aload_nF dL_427 rfl rfl ?_
  refine j_iload_n dL_428 rfl rfl ?_
  refine j_iconst 2 dL_429 rfl (by decide) ?_
  refine j_iadd dL_430 rfl ?_
  refine j_sld dL_431 rfl (vp6 (j := 2) hi (by decide) hL) ?_
  refine j_cV (as := [.int (xs ((nI i + 1).toNatClampNeg)), .int (xs ((nI i + 2).toNatClampNeg))]) (rest := [.int _]) dL_432 rfl vw_L_48 (hM 112 (17, 80) rfl) rfl ⟨Nat.le_of_ble_eq_true rfl, Nat.le_of_ble_eq_true rfl⟩ rfl rfl (fun _ _ => Nat.le_of_ble_eq_true rfl) (c_X12_way hM (i1.nn hN) w1 (xs ((nI i + 1).toNatClampNeg)) (xs ((nI i + 2).toNatClampNeg))) ?_
  rintro _ μ2 ⟨_, rfl, rfl, q2⟩
  obtain ⟨m2, N2, l2⟩ := mI_q m1 q2 (i1.nn hN)
  have g2 := l2.G
  exact j_icmp_eq 1301 dL_435 rfl (by decide) (fun _ => K B a μ2 ⟨⟨hM, hG, hg⟩, ⟨t, d, g2.cJ c1⟩, m2, ok, hb, ⟨g2.pp P1, N2⟩, ⟨g2.kw (i1.kw kc), g2.vK (i1.vK vk), g2.kwm (i1.kwm km)⟩, g2.cl (i1.cl cl (by omega))⟩ (by omega)) (fun h => absurd rfl h)
theorem law_wayAt (hI : lwI G a B μ) (hB : B + 230 ≤ BB) (hi : i + 6 ≤ L) (hL : L ≤ 3072) (K : ∀ B' a' μ', lwI G a' B' μ' → B' ≤ B + 30 → J l mL (jZL L xs X) G k n 1301 [.float 0, .ref 0, .ref 112, .int (nI i)] [] μ') : J l mL (jZL L xs X) G k n 440 [.float 0, .ref 0, .ref 112, .int (nI i)] [] μ := by
  obtain ⟨⟨hM, hG, hg⟩, ⟨t, d, hc⟩, hm, ok, hb, ⟨hP, hN⟩, ⟨kc, vk, km⟩, cl⟩ := hI
  refine j_aload_n dL_440 rfl rfl ?_
  refine j_aload_nF dL_441 rfl rfl ?_
  refine j_iload_n dL_442 rfl rfl ?_
  refine j_iconst 1 dL_443 rfl (by decide) ?_
  refine j_iadd dL_444 rfl ?_
  refine j_sld dL_445 rfl (vp6 (j := 1) hi (by decide) hL) ?_
  refine j_aload_nF dL_446 rfl rfl ?_
  refine j_iload_n dL_447 rfl rfl ?_
  refine j_iconst 2 dL_448 rfl (by decide) ?_
  refine j_iadd dL_449 rfl ?_
  refine j_sld dL_450 rfl (vp6 (j := 2) hi (by decide) hL) ?_
  refine j_cV (as := [.int (xs ((nI i + 1).toNatClampNeg)), .int (xs ((nI i + 2).toNatClampNeg))]) (rest := []) dL_451 rfl vw_L_49 (hG 0 (16, 9) rfl) rfl ⟨Nat.le_of_ble_eq_true rfl, Nat.le_of_ble_eq_true rfl⟩ rfl rfl (fun _ _ => Nat.le_of_ble_eq_true rfl) (c_X11_wayAt hG hP hc (xs ((nI i + 1).toNatClampNeg)) (xs ((nI i + 2).toNatClampNeg))) ?_
  rintro _ μ1 ⟨_, rfl, rfl, c1, P1, i1⟩
  have m1 := i1.mI hm
  obtain ⟨v, w1⟩ := id m1.1
  refine j_aload_n dL_454 rfl rfl ?_
  refine j_aload_nF dL_455 rfl rfl ?_
  refine j_iload_n dL_456 rfl rfl ?_
  refine j_iconst 1 dL_457 rfl (by decide) ?_
  refine j_iadd dL_458 rfl ?_
  refine j_sld dL_459 rfl (vp6 (j := 1) hi (by decide) hL) ?_
  refine j_aload_nF dL_460 rfl rfl ?_
  refine j_iload_n dL_461 rfl rfl ?_
  refine j_iconst 2 dL_462 rfl (by decide) ?_
  refine j_iadd dL_463 rfl ?_
  refine j_sld dL_464 rfl (vp6 (j := 2) hi (by decide) hL) ?_
  refine j_cV (as := [.int (xs ((nI i + 1).toNatClampNeg)), .int (xs ((nI i + 2).toNatClampNeg))]) (rest := [.int _]) dL_465 rfl vw_L_52 (hM 112 (17, 80) rfl) rfl ⟨Nat.le_of_ble_eq_true rfl, Nat.le_of_ble_eq_true rfl⟩ rfl rfl (fun _ _ => Nat.le_of_ble_eq_true rfl) (c_X12_wayAt hM (i1.nn hN) w1 (xs ((nI i + 1).toNatClampNeg)) (xs ((nI i + 2).toNatClampNeg))) ?_
  rintro _ μ2 ⟨_, rfl, rfl, q2⟩
  obtain ⟨m2, N2, l2⟩ := mI_q m1 q2 (i1.nn hN)
  have g2 := l2.G
  exact j_icmp_eq 1301 dL_468 rfl (by decide) (fun _ => K B a μ2 ⟨⟨hM, hG, hg⟩, ⟨t, d, g2.cJ c1⟩, m2, ok, hb, ⟨g2.pp P1, N2⟩, ⟨g2.kw (i1.kw kc), g2.vK (i1.vK vk), g2.kwm (i1.kwm km)⟩, g2.cl (i1.cl cl (by omega))⟩ (by omega)) (fun h => absurd rfl h)
theorem law_tonight (hI : lwI G a B μ) (hB : B + 230 ≤ BB) (hi : i + 6 ≤ L) (hL : L ≤ 3072) (K : ∀ B' a' μ', lwI G a' B' μ' → B' ≤ B + 30 → J l mL (jZL L xs X) G k n 1301 [.float 0, .ref 0, .ref 112, .int (nI i)] [] μ') : J l mL (jZL L xs X) G k n 604 [.float 0, .ref 0, .ref 112, .int (nI i)] [] μ := by
  obtain ⟨⟨hM, hG, hg⟩, ⟨t, d, hc⟩, hm, ok, hb, ⟨hP, hN⟩, ⟨kc, vk, km⟩, cl⟩ := hI
  refine j_aload_n dL_604 rfl rfl ?_
  refine j_aload_nF dL_605 rfl rfl ?_
  refine j_iload_n dL_606 rfl rfl ?_
  refine j_iconst 1 dL_607 rfl (by decide) ?_
  refine j_iadd dL_608 rfl ?_
  refine j_sld dL_609 rfl (vp6 (j := 1) hi (by decide) hL) ?_
  refine j_cV (as := [.int (xs ((nI i + 1).toNatClampNeg))]) (rest := []) dL_610 rfl vw_L_76 (hG 0 (16, 9) rfl) rfl ⟨Nat.le_of_ble_eq_true rfl, Nat.le_of_ble_eq_true rfl⟩ rfl rfl (fun _ _ => Nat.le_of_ble_eq_true rfl) (c_X11_tonight hG hP hc (xs ((nI i + 1).toNatClampNeg))) ?_
  rintro _ μ1 ⟨_, rfl, rfl, c1, P1, i1⟩
  have m1 := i1.mI hm
  obtain ⟨v, w1⟩ := id m1.1
  refine j_aload_n dL_613 rfl rfl ?_
  refine j_aload_nF dL_614 rfl rfl ?_
  refine j_iload_n dL_615 rfl rfl ?_
  refine j_iconst 1 dL_616 rfl (by decide) ?_
  refine j_iadd dL_617 rfl ?_
  refine j_sld dL_618 rfl (vp6 (j := 1) hi (by decide) hL) ?_
  refine j_cV (as := [.int (xs ((nI i + 1).toNatClampNeg))]) (rest := [.int _]) dL_619 rfl vw_L_79 (hM 112 (17, 80) rfl) rfl ⟨Nat.le_of_ble_eq_true rfl, Nat.le_of_ble_eq_true rfl⟩ rfl rfl (fun _ _ => Nat.le_of_ble_eq_true rfl) (c_X12_tonight hM (i1.nn hN) w1 (xs ((nI i + 1).toNatClampNeg))) ?_
  rintro _ μ2 ⟨_, rfl, rfl, q2⟩
  obtain ⟨m2, N2, l2⟩ := mI_q m1 q2 (i1.nn hN)
  have g2 := l2.G
  exact j_icmp_eq 1301 dL_622 rfl (by decide) (fun _ => K B a μ2 ⟨⟨hM, hG, hg⟩, ⟨t, d, g2.cJ c1⟩, m2, ok, hb, ⟨g2.pp P1, N2⟩, ⟨g2.kw (i1.kw kc), g2.vK (i1.vK vk), g2.kwm (i1.kwm km)⟩, g2.cl (i1.cl cl (by omega))⟩ (by omega)) (fun h => absurd rfl h)
theorem law_put (hI : lwI G a B μ) (hB : B + 230 ≤ BB) (hi : i + 6 ≤ L) (hL : L ≤ 3072) (K : ∀ B' a' μ', lwI G a' B' μ' → B' ≤ B + 30 → J l mL (jZL L xs X) G k n 1301 [.float 0, .ref 0, .ref 112, .int (nI i)] [] μ') : J l mL (jZL L xs X) G k n 627 [.float 0, .ref 0, .ref 112, .int (nI i)] [] μ := by
  obtain ⟨⟨hM, hG, hg⟩, ⟨t, d, hc⟩, hm, ok, hb, ⟨hP, hN⟩, ⟨kc, vk, km⟩, cl⟩ := hI
  refine j_aload_n dL_627 rfl rfl ?_
  refine j_aload_nF dL_628 rfl rfl ?_
  refine j_iload_n dL_629 rfl rfl ?_
  refine j_iconst 1 dL_630 rfl (by decide) ?_
  refine j_iadd dL_631 rfl ?_
  refine j_sld dL_632 rfl (vp6 (j := 1) hi (by decide) hL) ?_
  refine j_aload_nF dL_633 rfl rfl ?_
  refine j_iload_n dL_634 rfl rfl ?_
  refine j_iconst 2 dL_635 rfl (by decide) ?_
  refine j_iadd dL_636 rfl ?_
  refine j_sld dL_637 rfl (vp6 (j := 2) hi (by decide) hL) ?_
  refine j_aload_nF dL_638 rfl rfl ?_
  refine j_iload_n dL_639 rfl rfl ?_
  refine j_iconst 3 dL_640 rfl (by decide) ?_
  refine j_iadd dL_641 rfl ?_
  refine j_sld dL_642 rfl (vp6 (j := 3) hi (by decide) hL) ?_
  refine j_cV (as := [.int (xs ((nI i + 1).toNatClampNeg)), .int (xs ((nI i + 2).toNatClampNeg)), .int (xs ((nI i + 3).toNatClampNeg))]) (rest := []) dL_643 rfl vw_L_80 (hG 0 (16, 9) rfl) rfl ⟨Nat.le_of_ble_eq_true rfl, Nat.le_of_ble_eq_true rfl⟩ rfl rfl (fun _ _ => Nat.le_of_ble_eq_true rfl) (c_X11_put hG hP hc (xs ((nI i + 1).toNatClampNeg)) (xs ((nI i + 2).toNatClampNeg)) (xs ((nI i + 3).toNatClampNeg))) ?_
  rintro _ μ1 ⟨_, rfl, rfl, c1, P1, i1⟩
  have m1 := i1.mI hm
  obtain ⟨v, w1⟩ := id m1.1
  refine j_aload_n dL_646 rfl rfl ?_
  refine j_aload_nF dL_647 rfl rfl ?_
  refine j_iload_n dL_648 rfl rfl ?_
  refine j_iconst 1 dL_649 rfl (by decide) ?_
  refine j_iadd dL_650 rfl ?_
  refine j_sld dL_651 rfl (vp6 (j := 1) hi (by decide) hL) ?_
  refine j_aload_nF dL_652 rfl rfl ?_
  refine j_iload_n dL_653 rfl rfl ?_
  refine j_iconst 2 dL_654 rfl (by decide) ?_
  refine j_iadd dL_655 rfl ?_
  refine j_sld dL_656 rfl (vp6 (j := 2) hi (by decide) hL) ?_
  refine j_aload_nF dL_657 rfl rfl ?_
  refine j_iload_n dL_658 rfl rfl ?_
  refine j_iconst 3 dL_659 rfl (by decide) ?_
  refine j_iadd dL_660 rfl ?_
  refine j_sld dL_661 rfl (vp6 (j := 3) hi (by decide) hL) ?_
  refine j_cV (as := [.int (xs ((nI i + 1).toNatClampNeg)), .int (xs ((nI i + 2).toNatClampNeg)), .int (xs ((nI i + 3).toNatClampNeg))]) (rest := [.int _]) dL_662 rfl vw_L_84 (hM 112 (17, 80) rfl) rfl ⟨Nat.le_of_ble_eq_true rfl, Nat.le_of_ble_eq_true rfl⟩ rfl rfl (fun _ _ => Nat.le_of_ble_eq_true rfl) (c_X12_put hM (i1.nn hN) w1 (xs ((nI i + 1).toNatClampNeg)) (xs ((nI i + 2).toNatClampNeg)) (xs ((nI i + 3).toNatClampNeg))) ?_
  rintro _ μ2 ⟨_, rfl, rfl, q2⟩
  obtain ⟨m2, N2, l2⟩ := mI_q m1 q2 (i1.nn hN)
  have g2 := l2.G
  exact j_icmp_eq 1301 dL_665 rfl (by decide) (fun _ => K B a μ2 ⟨⟨hM, hG, hg⟩, ⟨t, d, g2.cJ c1⟩, m2, ok, hb, ⟨g2.pp P1, N2⟩, ⟨g2.kw (i1.kw kc), g2.vK (i1.vK vk), g2.kwm (i1.kwm km)⟩, g2.cl (i1.cl cl (by omega))⟩ (by omega)) (fun h => absurd rfl h)
theorem law_free (hI : lwI G a B μ) (hB : B + 230 ≤ BB) (hi : i + 6 ≤ L) (hL : L ≤ 3072) (K : ∀ B' a' μ', lwI G a' B' μ' → B' ≤ B + 30 → J l mL (jZL L xs X) G k n 1301 [.float 0, .ref 0, .ref 112, .int (nI i)] [] μ') : J l mL (jZL L xs X) G k n 670 [.float 0, .ref 0, .ref 112, .int (nI i)] [] μ := by
  obtain ⟨⟨hM, hG, hg⟩, ⟨t, d, hc⟩, hm, ok, hb, ⟨hP, hN⟩, ⟨kc, vk, km⟩, cl⟩ := hI
  refine j_aload_n dL_670 rfl rfl ?_
  refine j_cV (as := []) (rest := []) dL_671 rfl vw_L_85 (hG 0 (16, 9) rfl) rfl ⟨Nat.le_of_ble_eq_true rfl, Nat.le_of_ble_eq_true rfl⟩ rfl rfl (fun _ _ => Nat.le_of_ble_eq_true rfl) (c_X11_free hG hP hc ) ?_
  rintro _ μ1 ⟨_, rfl, rfl, c1, P1, i1⟩
  have m1 := i1.mI hm
  obtain ⟨v, w1⟩ := id m1.1
  refine j_aload_n dL_674 rfl rfl ?_
  refine j_cV (as := []) (rest := [.int _]) dL_675 rfl vw_L_88 (hM 112 (17, 80) rfl) rfl ⟨Nat.le_of_ble_eq_true rfl, Nat.le_of_ble_eq_true rfl⟩ rfl rfl (fun _ _ => Nat.le_of_ble_eq_true rfl) (c_X12_free hM (i1.nn hN) w1 ) ?_
  rintro _ μ2 ⟨_, rfl, rfl, q2⟩
  obtain ⟨m2, N2, l2⟩ := mI_q m1 q2 (i1.nn hN)
  have g2 := l2.G
  exact j_icmp_eq 1301 dL_678 rfl (by decide) (fun _ => K B a μ2 ⟨⟨hM, hG, hg⟩, ⟨t, d, g2.cJ c1⟩, m2, ok, hb, ⟨g2.pp P1, N2⟩, ⟨g2.kw (i1.kw kc), g2.vK (i1.vK vk), g2.kwm (i1.kwm km)⟩, g2.cl (i1.cl cl (by omega))⟩ (by omega)) (fun h => absurd rfl h)
theorem law_stop (hI : lwI G a B μ) (hB : B + 230 ≤ BB) (hi : i + 6 ≤ L) (hL : L ≤ 3072) (K : ∀ B' a' μ', lwI G a' B' μ' → B' ≤ B + 30 → J l mL (jZL L xs X) G k n 1301 [.float 0, .ref 0, .ref 112, .int (nI i)] [] μ') : J l mL (jZL L xs X) G k n 683 [.float 0, .ref 0, .ref 112, .int (nI i)] [] μ := by
  obtain ⟨⟨hM, hG, hg⟩, ⟨t, d, hc⟩, hm, ok, hb, ⟨hP, hN⟩, ⟨kc, vk, km⟩, cl⟩ := hI
  refine j_aload_n dL_683 rfl rfl ?_
  refine j_aload_nF dL_684 rfl rfl ?_
  refine j_iload_n dL_685 rfl rfl ?_
  refine j_iconst 1 dL_686 rfl (by decide) ?_
  refine j_iadd dL_687 rfl ?_
  refine j_sld dL_688 rfl (vp6 (j := 1) hi (by decide) hL) ?_
  refine j_cV (as := [.int (xs ((nI i + 1).toNatClampNeg))]) (rest := []) dL_689 rfl vw_L_89 (hG 0 (16, 9) rfl) rfl ⟨Nat.le_of_ble_eq_true rfl, Nat.le_of_ble_eq_true rfl⟩ rfl rfl (fun _ _ => Nat.le_of_ble_eq_true rfl) (c_X11_stop hG hP hc (xs ((nI i + 1).toNatClampNeg))) ?_
  rintro _ μ1 ⟨_, rfl, rfl, c1, P1, i1⟩
  have m1 := i1.mI hm
  obtain ⟨v, w1⟩ := id m1.1
  refine j_aload_n dL_692 rfl rfl ?_
  refine j_aload_nF dL_693 rfl rfl ?_
  refine j_iload_n dL_694 rfl rfl ?_
  refine j_iconst 1 dL_695 rfl (by decide) ?_
  refine j_iadd dL_696 rfl ?_
  refine j_sld dL_697 rfl (vp6 (j := 1) hi (by decide) hL) ?_
  refine j_cV (as := [.int (xs ((nI i + 1).toNatClampNeg))]) (rest := [.int _]) dL_698 rfl vw_L_92 (hM 112 (17, 80) rfl) rfl ⟨Nat.le_of_ble_eq_true rfl, Nat.le_of_ble_eq_true rfl⟩ rfl rfl (fun _ _ => Nat.le_of_ble_eq_true rfl) (c_X12_stop hM (i1.nn hN) w1 (xs ((nI i + 1).toNatClampNeg))) ?_
  rintro _ μ2 ⟨_, rfl, rfl, q2⟩
  obtain ⟨m2, N2, l2⟩ := mI_q m1 q2 (i1.nn hN)
  have g2 := l2.G
  exact j_icmp_eq 1301 dL_701 rfl (by decide) (fun _ => K B a μ2 ⟨⟨hM, hG, hg⟩, ⟨t, d, g2.cJ c1⟩, m2, ok, hb, ⟨g2.pp P1, N2⟩, ⟨g2.kw (i1.kw kc), g2.vK (i1.vK vk), g2.kwm (i1.kwm km)⟩, g2.cl (i1.cl cl (by omega))⟩ (by omega)) (fun h => absurd rfl h)
theorem law_saves (hI : lwI G a B μ) (hB : B + 230 ≤ BB) (hi : i + 6 ≤ L) (hL : L ≤ 3072) (K : ∀ B' a' μ', lwI G a' B' μ' → B' ≤ B + 30 → J l mL (jZL L xs X) G k n 1301 [.float 0, .ref 0, .ref 112, .int (nI i)] [] μ') : J l mL (jZL L xs X) G k n 706 [.float 0, .ref 0, .ref 112, .int (nI i)] [] μ := by
  obtain ⟨⟨hM, hG, hg⟩, ⟨t, d, hc⟩, hm, ok, hb, ⟨hP, hN⟩, ⟨kc, vk, km⟩, cl⟩ := hI
  refine j_aload_n dL_706 rfl rfl ?_
  refine j_aload_nF dL_707 rfl rfl ?_
  refine j_iload_n dL_708 rfl rfl ?_
  refine j_iconst 1 dL_709 rfl (by decide) ?_
  refine j_iadd dL_710 rfl ?_
  refine j_sld dL_711 rfl (vp6 (j := 1) hi (by decide) hL) ?_
  refine j_cV (as := [.int (xs ((nI i + 1).toNatClampNeg))]) (rest := []) dL_712 rfl vw_L_93 (hG 0 (16, 9) rfl) rfl ⟨Nat.le_of_ble_eq_true rfl, Nat.le_of_ble_eq_true rfl⟩ rfl rfl (fun _ _ => Nat.le_of_ble_eq_true rfl) (c_X11_saves hG hP hc (xs ((nI i + 1).toNatClampNeg))) ?_
  rintro _ μ1 ⟨_, rfl, rfl, c1, P1, i1⟩
  have m1 := i1.mI hm
  obtain ⟨v, w1⟩ := id m1.1
  refine j_aload_n dL_715 rfl rfl ?_
  refine j_aload_nF dL_716 rfl rfl ?_
  refine j_iload_n dL_717 rfl rfl ?_
  refine j_iconst 1 dL_718 rfl (by decide) ?_
  refine j_iadd dL_719 rfl ?_
  refine j_sld dL_720 rfl (vp6 (j := 1) hi (by decide) hL) ?_
  refine j_cV (as := [.int (xs ((nI i + 1).toNatClampNeg))]) (rest := [.int _]) dL_721 rfl vw_L_96 (hM 112 (17, 80) rfl) rfl ⟨Nat.le_of_ble_eq_true rfl, Nat.le_of_ble_eq_true rfl⟩ rfl rfl (fun _ _ => Nat.le_of_ble_eq_true rfl) (c_X12_saves hM (i1.nn hN) w1 (xs ((nI i + 1).toNatClampNeg))) ?_
  rintro _ μ2 ⟨_, rfl, rfl, q2⟩
  obtain ⟨m2, N2, l2⟩ := mI_q m1 q2 (i1.nn hN)
  have g2 := l2.G
  exact j_icmp_eq 1301 dL_724 rfl (by decide) (fun _ => K B a μ2 ⟨⟨hM, hG, hg⟩, ⟨t, d, g2.cJ c1⟩, m2, ok, hb, ⟨g2.pp P1, N2⟩, ⟨g2.kw (i1.kw kc), g2.vK (i1.vK vk), g2.kwm (i1.kwm km)⟩, g2.cl (i1.cl cl (by omega))⟩ (by omega)) (fun h => absurd rfl h)
theorem law_pays (hI : lwI G a B μ) (hB : B + 230 ≤ BB) (hi : i + 6 ≤ L) (hL : L ≤ 3072) (K : ∀ B' a' μ', lwI G a' B' μ' → B' ≤ B + 30 → J l mL (jZL L xs X) G k n 1301 [.float 0, .ref 0, .ref 112, .int (nI i)] [] μ') : J l mL (jZL L xs X) G k n 729 [.float 0, .ref 0, .ref 112, .int (nI i)] [] μ := by
  obtain ⟨⟨hM, hG, hg⟩, ⟨t, d, hc⟩, hm, ok, hb, ⟨hP, hN⟩, ⟨kc, vk, km⟩, cl⟩ := hI
  refine j_aload_n dL_729 rfl rfl ?_
  refine j_aload_nF dL_730 rfl rfl ?_
  refine j_iload_n dL_731 rfl rfl ?_
  refine j_iconst 1 dL_732 rfl (by decide) ?_
  refine j_iadd dL_733 rfl ?_
  refine j_sld dL_734 rfl (vp6 (j := 1) hi (by decide) hL) ?_
  refine j_aload_nF dL_735 rfl rfl ?_
  refine j_iload_n dL_736 rfl rfl ?_
  refine j_iconst 2 dL_737 rfl (by decide) ?_
  refine j_iadd dL_738 rfl ?_
  refine j_sld dL_739 rfl (vp6 (j := 2) hi (by decide) hL) ?_
  refine j_cV (as := [.int (xs ((nI i + 1).toNatClampNeg)), .int (xs ((nI i + 2).toNatClampNeg))]) (rest := []) dL_740 rfl vw_L_97 (hG 0 (16, 9) rfl) rfl ⟨Nat.le_of_ble_eq_true rfl, Nat.le_of_ble_eq_true rfl⟩ rfl rfl (fun _ _ => Nat.le_of_ble_eq_true rfl) (c_X11_pays hG hP hc (xs ((nI i + 1).toNatClampNeg)) (xs ((nI i + 2).toNatClampNeg))) ?_
  rintro _ μ1 ⟨_, rfl, rfl, c1, P1, i1⟩
  have m1 := i1.mI hm
  obtain ⟨v, w1⟩ := id m1.1
  refine j_aload_n dL_743 rfl rfl ?_
  refine j_aload_nF dL_744 rfl rfl ?_
  refine j_iload_n dL_745 rfl rfl ?_
  refine j_iconst 1 dL_746 rfl (by decide) ?_
  refine j_iadd dL_747 rfl ?_
  refine j_sld dL_748 rfl (vp6 (j := 1) hi (by decide) hL) ?_
  refine j_aload_nF dL_749 rfl rfl ?_
  refine j_iload_n dL_750 rfl rfl ?_
  refine j_iconst 2 dL_751 rfl (by decide) ?_
  refine j_iadd dL_752 rfl ?_
  refine j_sld dL_753 rfl (vp6 (j := 2) hi (by decide) hL) ?_
  refine j_cV (as := [.int (xs ((nI i + 1).toNatClampNeg)), .int (xs ((nI i + 2).toNatClampNeg))]) (rest := [.int _]) dL_754 rfl vw_L_100 (hM 112 (17, 80) rfl) rfl ⟨Nat.le_of_ble_eq_true rfl, Nat.le_of_ble_eq_true rfl⟩ rfl rfl (fun _ _ => Nat.le_of_ble_eq_true rfl) (c_X12_pays hM (i1.nn hN) w1 (xs ((nI i + 1).toNatClampNeg)) (xs ((nI i + 2).toNatClampNeg))) ?_
  rintro _ μ2 ⟨_, rfl, rfl, q2⟩
  obtain ⟨m2, N2, l2⟩ := mI_q m1 q2 (i1.nn hN)
  have g2 := l2.G
  exact j_icmp_eq 1301 dL_757 rfl (by decide) (fun _ => K B a μ2 ⟨⟨hM, hG, hg⟩, ⟨t, d, g2.cJ c1⟩, m2, ok, hb, ⟨g2.pp P1, N2⟩, ⟨g2.kw (i1.kw kc), g2.vK (i1.vK vk), g2.kwm (i1.kwm km)⟩, g2.cl (i1.cl cl (by omega))⟩ (by omega)) (fun h => absurd rfl h)
theorem law_seen (hI : lwI G a B μ) (hB : B + 230 ≤ BB) (hi : i + 6 ≤ L) (hL : L ≤ 3072) (K : ∀ B' a' μ', lwI G a' B' μ' → B' ≤ B + 30 → J l mL (jZL L xs X) G k n 1301 [.float 0, .ref 0, .ref 112, .int (nI i)] [] μ') : J l mL (jZL L xs X) G k n 762 [.float 0, .ref 0, .ref 112, .int (nI i)] [] μ := by
  obtain ⟨⟨hM, hG, hg⟩, ⟨t, d, hc⟩, hm, ok, hb, ⟨hP, hN⟩, ⟨kc, vk, km⟩, cl⟩ := hI
  refine j_aload_n dL_762 rfl rfl ?_
  refine j_aload_nF dL_763 rfl rfl ?_
  refine j_iload_n dL_764 rfl rfl ?_
  refine j_iconst 1 dL_765 rfl (by decide) ?_
  refine j_iadd dL_766 rfl ?_
  refine j_sld dL_767 rfl (vp6 (j := 1) hi (by decide) hL) ?_
  refine j_aload_nF dL_768 rfl rfl ?_
  refine j_iload_n dL_769 rfl rfl ?_
  refine j_iconst 2 dL_770 rfl (by decide) ?_
  refine j_iadd dL_771 rfl ?_
  refine j_sld dL_772 rfl (vp6 (j := 2) hi (by decide) hL) ?_
  refine j_cV (as := [.int (xs ((nI i + 1).toNatClampNeg)), .int (xs ((nI i + 2).toNatClampNeg))]) (rest := []) dL_773 rfl vw_L_101 (hG 0 (16, 9) rfl) rfl ⟨Nat.le_of_ble_eq_true rfl, Nat.le_of_ble_eq_true rfl⟩ rfl rfl (fun _ _ => Nat.le_of_ble_eq_true rfl) (c_X11_seen hG hP hc (xs ((nI i + 1).toNatClampNeg)) (xs ((nI i + 2).toNatClampNeg))) ?_
  rintro _ μ1 ⟨_, rfl, rfl, c1, P1, i1⟩
  have m1 := i1.mI hm
  obtain ⟨v, w1⟩ := id m1.1
  refine j_aload_n dL_776 rfl rfl ?_
  refine j_aload_nF dL_777 rfl rfl ?_
  refine j_iload_n dL_778 rfl rfl ?_
  refine j_iconst 1 dL_779 rfl (by decide) ?_
  refine j_iadd dL_780 rfl ?_
  refine j_sld dL_781 rfl (vp6 (j := 1) hi (by decide) hL) ?_
  refine j_aload_nF dL_782 rfl rfl ?_
  refine j_iload_n dL_783 rfl rfl ?_
  refine j_iconst 2 dL_784 rfl (by decide) ?_
  refine j_iadd dL_785 rfl ?_
  refine j_sld dL_786 rfl (vp6 (j := 2) hi (by decide) hL) ?_
  refine j_cV (as := [.int (xs ((nI i + 1).toNatClampNeg)), .int (xs ((nI i + 2).toNatClampNeg))]) (rest := [.int _]) dL_787 rfl vw_L_104 (hM 112 (17, 80) rfl) rfl ⟨Nat.le_of_ble_eq_true rfl, Nat.le_of_ble_eq_true rfl⟩ rfl rfl (fun _ _ => Nat.le_of_ble_eq_true rfl) (c_X12_seen hM (i1.nn hN) w1 (xs ((nI i + 1).toNatClampNeg)) (xs ((nI i + 2).toNatClampNeg))) ?_
  rintro _ μ2 ⟨_, rfl, rfl, q2⟩
  obtain ⟨m2, N2, l2⟩ := mI_q m1 q2 (i1.nn hN)
  have g2 := l2.G
  exact j_icmp_eq 1301 dL_790 rfl (by decide) (fun _ => K B a μ2 ⟨⟨hM, hG, hg⟩, ⟨t, d, g2.cJ c1⟩, m2, ok, hb, ⟨g2.pp P1, N2⟩, ⟨g2.kw (i1.kw kc), g2.vK (i1.vK vk), g2.kwm (i1.kwm km)⟩, g2.cl (i1.cl cl (by omega))⟩ (by omega)) (fun h => absurd rfl h)
theorem law_busiest (hI : lwI G a B μ) (hB : B + 230 ≤ BB) (hi : i + 6 ≤ L) (hL : L ≤ 3072) (K : ∀ B' a' μ', lwI G a' B' μ' → B' ≤ B + 30 → J l mL (jZL L xs X) G k n 1301 [.float 0, .ref 0, .ref 112, .int (nI i)] [] μ') : J l mL (jZL L xs X) G k n 795 [.float 0, .ref 0, .ref 112, .int (nI i)] [] μ := by
  obtain ⟨⟨hM, hG, hg⟩, ⟨t, d, hc⟩, hm, ok, hb, ⟨hP, hN⟩, ⟨kc, vk, km⟩, cl⟩ := hI
  refine j_aload_n dL_795 rfl rfl ?_
  refine j_aload_nF dL_796 rfl rfl ?_
  refine j_iload_n dL_797 rfl rfl ?_
  refine j_iconst 1 dL_798 rfl (by decide) ?_
  refine j_iadd dL_799 rfl ?_
  refine j_sld dL_800 rfl (vp6 (j := 1) hi (by decide) hL) ?_
  refine j_aload_nF dL_801 rfl rfl ?_
  refine j_iload_n dL_802 rfl rfl ?_
  refine j_iconst 2 dL_803 rfl (by decide) ?_
  refine j_iadd dL_804 rfl ?_
  refine j_sld dL_805 rfl (vp6 (j := 2) hi (by decide) hL) ?_
  refine j_cV (as := [.int (xs ((nI i + 1).toNatClampNeg)), .int (xs ((nI i + 2).toNatClampNeg))]) (rest := []) dL_806 rfl vw_L_105 (hG 0 (16, 9) rfl) rfl ⟨Nat.le_of_ble_eq_true rfl, Nat.le_of_ble_eq_true rfl⟩ rfl rfl (fun _ _ => Nat.le_of_ble_eq_true rfl) (c_X11_busiest hG hP hc (xs ((nI i + 1).toNatClampNeg)) (xs ((nI i + 2).toNatClampNeg))) ?_
  rintro _ μ1 ⟨_, rfl, rfl, c1, P1, i1⟩
  have m1 := i1.mI hm
  obtain ⟨v, w1⟩ := id m1.1
  refine j_aload_n dL_809 rfl rfl ?_
  refine j_aload_nF dL_810 rfl rfl ?_
  refine j_iload_n dL_811 rfl rfl ?_
  refine j_iconst 1 dL_812 rfl (by decide) ?_
  refine j_iadd dL_813 rfl ?_
  refine j_sld dL_814 rfl (vp6 (j := 1) hi (by decide) hL) ?_
  refine j_aload_nF dL_815 rfl rfl ?_
  refine j_iload_n dL_816 rfl rfl ?_
  refine j_iconst 2 dL_817 rfl (by decide) ?_
  refine j_iadd dL_818 rfl ?_
  refine j_sld dL_819 rfl (vp6 (j := 2) hi (by decide) hL) ?_
  refine j_cV (as := [.int (xs ((nI i + 1).toNatClampNeg)), .int (xs ((nI i + 2).toNatClampNeg))]) (rest := [.int _]) dL_820 rfl vw_L_108 (hM 112 (17, 80) rfl) rfl ⟨Nat.le_of_ble_eq_true rfl, Nat.le_of_ble_eq_true rfl⟩ rfl rfl (fun _ _ => Nat.le_of_ble_eq_true rfl) (c_X12_busiest hM (i1.nn hN) w1 ok.1.2.1 (xs ((nI i + 1).toNatClampNeg)) (xs ((nI i + 2).toNatClampNeg))) ?_
  rintro _ μ2 ⟨_, rfl, rfl, q2⟩
  obtain ⟨m2, N2, l2⟩ := mI_q m1 q2 (i1.nn hN)
  have g2 := l2.G
  exact j_icmp_eq 1301 dL_823 rfl (by decide) (fun _ => K B a μ2 ⟨⟨hM, hG, hg⟩, ⟨t, d, g2.cJ c1⟩, m2, ok, hb, ⟨g2.pp P1, N2⟩, ⟨g2.kw (i1.kw kc), g2.vK (i1.vK vk), g2.kwm (i1.kwm km)⟩, g2.cl (i1.cl cl (by omega))⟩ (by omega)) (fun h => absurd rfl h)
theorem law_best (hI : lwI G a B μ) (hB : B + 230 ≤ BB) (hi : i + 6 ≤ L) (hL : L ≤ 3072) (K : ∀ B' a' μ', lwI G a' B' μ' → B' ≤ B + 30 → J l mL (jZL L xs X) G k n 1301 [.float 0, .ref 0, .ref 112, .int (nI i)] [] μ') : J l mL (jZL L xs X) G k n 828 [.float 0, .ref 0, .ref 112, .int (nI i)] [] μ := by
  obtain ⟨⟨hM, hG, hg⟩, ⟨t, d, hc⟩, hm, ok, hb, ⟨hP, hN⟩, ⟨kc, vk, km⟩, cl⟩ := hI
  refine j_aload_n dL_828 rfl rfl ?_
  refine j_aload_nF dL_829 rfl rfl ?_
  refine j_iload_n dL_830 rfl rfl ?_
  refine j_iconst 1 dL_831 rfl (by decide) ?_
  refine j_iadd dL_832 rfl ?_
  refine j_sld dL_833 rfl (vp6 (j := 1) hi (by decide) hL) ?_
  refine j_aload_nF dL_834 rfl rfl ?_
  refine j_iload_n dL_835 rfl rfl ?_
  refine j_iconst 2 dL_836 rfl (by decide) ?_
  refine j_iadd dL_837 rfl ?_
  refine j_sld dL_838 rfl (vp6 (j := 2) hi (by decide) hL) ?_
  refine j_cV (as := [.int (xs ((nI i + 1).toNatClampNeg)), .int (xs ((nI i + 2).toNatClampNeg))]) (rest := []) dL_839 rfl vw_L_109 (hG 0 (16, 9) rfl) rfl ⟨Nat.le_of_ble_eq_true rfl, Nat.le_of_ble_eq_true rfl⟩ rfl rfl (fun _ _ => Nat.le_of_ble_eq_true rfl) (c_X11_best hG hP hc (xs ((nI i + 1).toNatClampNeg)) (xs ((nI i + 2).toNatClampNeg))) ?_
  rintro _ μ1 ⟨_, rfl, rfl, c1, P1, i1⟩
  have m1 := i1.mI hm
  obtain ⟨v, w1⟩ := id m1.1
  refine j_aload_n dL_842 rfl rfl ?_
  refine j_aload_nF dL_843 rfl rfl ?_
  refine j_iload_n dL_844 rfl rfl ?_
  refine j_iconst 1 dL_845 rfl (by decide) ?_
  refine j_iadd dL_846 rfl ?_
  refine j_sld dL_847 rfl (vp6 (j := 1) hi (by decide) hL) ?_
  refine j_aload_nF dL_848 rfl rfl ?_
  refine j_iload_n dL_849 rfl rfl ?_
  refine j_iconst 2 dL_850 rfl (by decide) ?_
  refine j_iadd dL_851 rfl ?_
  refine j_sld dL_852 rfl (vp6 (j := 2) hi (by decide) hL) ?_
  refine j_cV (as := [.int (xs ((nI i + 1).toNatClampNeg)), .int (xs ((nI i + 2).toNatClampNeg))]) (rest := [.int _]) dL_853 rfl vw_L_112 (hM 112 (17, 80) rfl) rfl ⟨Nat.le_of_ble_eq_true rfl, Nat.le_of_ble_eq_true rfl⟩ rfl rfl (fun _ _ => Nat.le_of_ble_eq_true rfl) (c_X12_best hM (i1.nn hN) w1 (xs ((nI i + 1).toNatClampNeg)) (xs ((nI i + 2).toNatClampNeg))) ?_
  rintro _ μ2 ⟨_, rfl, rfl, q2⟩
  obtain ⟨m2, N2, l2⟩ := mI_q m1 q2 (i1.nn hN)
  have g2 := l2.G
  exact j_icmp_eq 1301 dL_856 rfl (by decide) (fun _ => K B a μ2 ⟨⟨hM, hG, hg⟩, ⟨t, d, g2.cJ c1⟩, m2, ok, hb, ⟨g2.pp P1, N2⟩, ⟨g2.kw (i1.kw kc), g2.vK (i1.vK vk), g2.kwm (i1.kwm km)⟩, g2.cl (i1.cl cl (by omega))⟩ (by omega)) (fun h => absurd rfl h)
theorem law_keepers (hI : lwI G a B μ) (hB : B + 230 ≤ BB) (hi : i + 6 ≤ L) (hL : L ≤ 3072) (K : ∀ B' a' μ', lwI G a' B' μ' → B' ≤ B + 30 → J l mL (jZL L xs X) G k n 1301 [.float 0, .ref 0, .ref 112, .int (nI i)] [] μ') : J l mL (jZL L xs X) G k n 861 [.float 0, .ref 0, .ref 112, .int (nI i)] [] μ := by
  obtain ⟨⟨hM, hG, hg⟩, ⟨t, d, hc⟩, hm, ok, hb, ⟨hP, hN⟩, ⟨kc, vk, km⟩, cl⟩ := hI
  refine j_aload_n dL_861 rfl rfl ?_
  refine j_aload_nF dL_862 rfl rfl ?_
  refine j_iload_n dL_863 rfl rfl ?_
  refine j_iconst 1 dL_864 rfl (by decide) ?_
  refine j_iadd dL_865 rfl ?_
  refine j_sld dL_866 rfl (vp6 (j := 1) hi (by decide) hL) ?_
  refine j_aload_nF dL_867 rfl rfl ?_
  refine j_iload_n dL_868 rfl rfl ?_
  refine j_iconst 2 dL_869 rfl (by decide) ?_
  refine j_iadd dL_870 rfl ?_
  refine j_sld dL_871 rfl (vp6 (j := 2) hi (by decide) hL) ?_
  refine j_cV (as := [.int (xs ((nI i + 1).toNatClampNeg)), .int (xs ((nI i + 2).toNatClampNeg))]) (rest := []) dL_872 rfl vw_L_113 (hG 0 (16, 9) rfl) rfl ⟨Nat.le_of_ble_eq_true rfl, Nat.le_of_ble_eq_true rfl⟩ rfl rfl (fun _ _ => Nat.le_of_ble_eq_true rfl) (c_X11_keepers hG hP hc (xs ((nI i + 1).toNatClampNeg)) (xs ((nI i + 2).toNatClampNeg))) ?_
  rintro _ μ1 ⟨_, rfl, rfl, c1, P1, i1⟩
  have m1 := i1.mI hm
  obtain ⟨v, w1⟩ := id m1.1
  refine j_aload_n dL_875 rfl rfl ?_
  refine j_aload_nF dL_876 rfl rfl ?_
  refine j_iload_n dL_877 rfl rfl ?_
  refine j_iconst 1 dL_878 rfl (by decide) ?_
  refine j_iadd dL_879 rfl ?_
  refine j_sld dL_880 rfl (vp6 (j := 1) hi (by decide) hL) ?_
  refine j_aload_nF dL_881 rfl rfl ?_
  refine j_iload_n dL_882 rfl rfl ?_
  refine j_iconst 2 dL_883 rfl (by decide) ?_
  refine j_iadd dL_884 rfl ?_
  refine j_sld dL_885 rfl (vp6 (j := 2) hi (by decide) hL) ?_
  refine j_cV (as := [.int (xs ((nI i + 1).toNatClampNeg)), .int (xs ((nI i + 2).toNatClampNeg))]) (rest := [.int _]) dL_886 rfl vw_L_116 (hM 112 (17, 80) rfl) rfl ⟨Nat.le_of_ble_eq_true rfl, Nat.le_of_ble_eq_true rfl⟩ rfl rfl (fun _ _ => Nat.le_of_ble_eq_true rfl) (c_X12_keepers hM (i1.nn hN) w1 (xs ((nI i + 1).toNatClampNeg)) (xs ((nI i + 2).toNatClampNeg))) ?_
  rintro _ μ2 ⟨_, rfl, rfl, q2⟩
  obtain ⟨m2, N2, l2⟩ := mI_q m1 q2 (i1.nn hN)
  have g2 := l2.G
  exact j_icmp_eq 1301 dL_889 rfl (by decide) (fun _ => K B a μ2 ⟨⟨hM, hG, hg⟩, ⟨t, d, g2.cJ c1⟩, m2, ok, hb, ⟨g2.pp P1, N2⟩, ⟨g2.kw (i1.kw kc), g2.vK (i1.vK vk), g2.kwm (i1.kwm km)⟩, g2.cl (i1.cl cl (by omega))⟩ (by omega)) (fun h => absurd rfl h)
theorem law_breaks (hI : lwI G a B μ) (hB : B + 230 ≤ BB) (hi : i + 6 ≤ L) (hL : L ≤ 3072) (K : ∀ B' a' μ', lwI G a' B' μ' → B' ≤ B + 30 → J l mL (jZL L xs X) G k n 1301 [.float 0, .ref 0, .ref 112, .int (nI i)] [] μ') : J l mL (jZL L xs X) G k n 894 [.float 0, .ref 0, .ref 112, .int (nI i)] [] μ := by
  obtain ⟨⟨hM, hG, hg⟩, ⟨t, d, hc⟩, hm, ok, hb, ⟨hP, hN⟩, ⟨kc, vk, km⟩, cl⟩ := hI
  refine j_aload_n dL_894 rfl rfl ?_
  refine j_aload_nF dL_895 rfl rfl ?_
  refine j_iload_n dL_896 rfl rfl ?_
  refine j_iconst 1 dL_897 rfl (by decide) ?_
  refine j_iadd dL_898 rfl ?_
  refine j_sld dL_899 rfl (vp6 (j := 1) hi (by decide) hL) ?_
  refine j_cV (as := [.int (xs ((nI i + 1).toNatClampNeg))]) (rest := []) dL_900 rfl vw_L_117 (hG 0 (16, 9) rfl) rfl ⟨Nat.le_of_ble_eq_true rfl, Nat.le_of_ble_eq_true rfl⟩ rfl rfl (fun _ _ => Nat.le_of_ble_eq_true rfl) (c_X11_breaks hG hP hc (xs ((nI i + 1).toNatClampNeg))) ?_
  rintro _ μ1 ⟨_, rfl, rfl, c1, P1, i1⟩
  have m1 := i1.mI hm
  obtain ⟨v, w1⟩ := id m1.1
  refine j_aload_n dL_903 rfl rfl ?_
  refine j_aload_nF dL_904 rfl rfl ?_
  refine j_iload_n dL_905 rfl rfl ?_
  refine j_iconst 1 dL_906 rfl (by decide) ?_
  refine j_iadd dL_907 rfl ?_
  refine j_sld dL_908 rfl (vp6 (j := 1) hi (by decide) hL) ?_
  refine j_cV (as := [.int (xs ((nI i + 1).toNatClampNeg))]) (rest := [.int _]) dL_909 rfl vw_L_120 (hM 112 (17, 80) rfl) rfl ⟨Nat.le_of_ble_eq_true rfl, Nat.le_of_ble_eq_true rfl⟩ rfl rfl (fun _ _ => Nat.le_of_ble_eq_true rfl) (c_X12_breaks hM (i1.nn hN) w1 (xs ((nI i + 1).toNatClampNeg))) ?_
  rintro _ μ2 ⟨_, rfl, rfl, q2⟩
  obtain ⟨m2, N2, l2⟩ := mI_q m1 q2 (i1.nn hN)
  have g2 := l2.G
  exact j_icmp_eq 1301 dL_912 rfl (by decide) (fun _ => K B a μ2 ⟨⟨hM, hG, hg⟩, ⟨t, d, g2.cJ c1⟩, m2, ok, hb, ⟨g2.pp P1, N2⟩, ⟨g2.kw (i1.kw kc), g2.vK (i1.vK vk), g2.kwm (i1.kwm km)⟩, g2.cl (i1.cl cl (by omega))⟩ (by omega)) (fun h => absurd rfl h)
theorem law_first (hI : lwI G a B μ) (hB : B + 230 ≤ BB) (hi : i + 6 ≤ L) (hL : L ≤ 3072) (K : ∀ B' a' μ', lwI G a' B' μ' → B' ≤ B + 30 → J l mL (jZL L xs X) G k n 1301 [.float 0, .ref 0, .ref 112, .int (nI i)] [] μ') : J l mL (jZL L xs X) G k n 917 [.float 0, .ref 0, .ref 112, .int (nI i)] [] μ := by
  obtain ⟨⟨hM, hG, hg⟩, ⟨t, d, hc⟩, hm, ok, hb, ⟨hP, hN⟩, ⟨kc, vk, km⟩, cl⟩ := hI
  refine j_aload_n dL_917 rfl rfl ?_
  refine j_aload_nF dL_918 rfl rfl ?_
  refine j_iload_n dL_919 rfl rfl ?_
  refine j_iconst 1 dL_920 rfl (by decide) ?_
  refine j_iadd dL_921 rfl ?_
  refine j_sld dL_922 rfl (vp6 (j := 1) hi (by decide) hL) ?_
  refine j_cV (as := [.int (xs ((nI i + 1).toNatClampNeg))]) (rest := []) dL_923 rfl vw_L_121 (hG 0 (16, 9) rfl) rfl ⟨Nat.le_of_ble_eq_true rfl, Nat.le_of_ble_eq_true rfl⟩ rfl rfl (fun _ _ => Nat.le_of_ble_eq_true rfl) (c_X11_first hG hP hc (xs ((nI i + 1).toNatClampNeg))) ?_
  rintro _ μ1 ⟨_, rfl, rfl, c1, P1, i1⟩
  have m1 := i1.mI hm
  obtain ⟨v, w1⟩ := id m1.1
  refine j_aload_n dL_926 rfl rfl ?_
  refine j_aload_nF dL_927 rfl rfl ?_
  refine j_iload_n dL_928 rfl rfl ?_
  refine j_iconst 1 dL_929 rfl (by decide) ?_
  refine j_iadd dL_930 rfl ?_
  refine j_sld dL_931 rfl (vp6 (j := 1) hi (by decide) hL) ?_
  refine j_cV (as := [.int (xs ((nI i + 1).toNatClampNeg))]) (rest := [.int _]) dL_932 rfl vw_L_124 (hM 112 (17, 80) rfl) rfl ⟨Nat.le_of_ble_eq_true rfl, Nat.le_of_ble_eq_true rfl⟩ rfl rfl (fun _ _ => Nat.le_of_ble_eq_true rfl) (c_X12_first hM (i1.nn hN) w1 (xs ((nI i + 1).toNatClampNeg))) ?_
  rintro _ μ2 ⟨_, rfl, rfl, q2⟩
  obtain ⟨m2, N2, l2⟩ := mI_q m1 q2 (i1.nn hN)
  have g2 := l2.G
  exact j_icmp_eq 1301 dL_935 rfl (by decide) (fun _ => K B a μ2 ⟨⟨hM, hG, hg⟩, ⟨t, d, g2.cJ c1⟩, m2, ok, hb, ⟨g2.pp P1, N2⟩, ⟨g2.kw (i1.kw kc), g2.vK (i1.vK vk), g2.kwm (i1.kwm km)⟩, g2.cl (i1.cl cl (by omega))⟩ (by omega)) (fun h => absurd rfl h)
theorem law_meets (hI : lwI G a B μ) (hB : B + 230 ≤ BB) (hi : i + 6 ≤ L) (hL : L ≤ 3072) (K : ∀ B' a' μ', lwI G a' B' μ' → B' ≤ B + 30 → J l mL (jZL L xs X) G k n 1301 [.float 0, .ref 0, .ref 112, .int (nI i)] [] μ') : J l mL (jZL L xs X) G k n 940 [.float 0, .ref 0, .ref 112, .int (nI i)] [] μ := by
  obtain ⟨⟨hM, hG, hg⟩, ⟨t, d, hc⟩, hm, ok, hb, ⟨hP, hN⟩, ⟨kc, vk, km⟩, cl⟩ := hI
  refine j_aload_n dL_940 rfl rfl ?_
  refine j_aload_nF dL_941 rfl rfl ?_
  refine j_iload_n dL_942 rfl rfl ?_
  refine j_iconst 1 dL_943 rfl (by decide) ?_
  refine j_iadd dL_944 rfl ?_
  refine j_sld dL_945 rfl (vp6 (j := 1) hi (by decide) hL) ?_
  refine j_aload_nF dL_946 rfl rfl ?_
  refine j_iload_n dL_947 rfl rfl ?_
  refine j_iconst 2 dL_948 rfl (by decide) ?_
  refine j_iadd dL_949 rfl ?_
  refine j_sld dL_950 rfl (vp6 (j := 2) hi (by decide) hL) ?_
  refine j_cV (as := [.int (xs ((nI i + 1).toNatClampNeg)), .int (xs ((nI i + 2).toNatClampNeg))]) (rest := []) dL_951 rfl vw_L_125 (hG 0 (16, 9) rfl) rfl ⟨Nat.le_of_ble_eq_true rfl, Nat.le_of_ble_eq_true rfl⟩ rfl rfl (fun _ _ => Nat.le_of_ble_eq_true rfl) (c_X11_meets hG hP hc (xs ((nI i + 1).toNatClampNeg)) (xs ((nI i + 2).toNatClampNeg))) ?_
  rintro _ μ1 ⟨_, rfl, rfl, c1, P1, i1⟩
  have m1 := i1.mI hm
  obtain ⟨v, w1⟩ := id m1.1
  refine j_aload_n dL_954 rfl rfl ?_
  refine j_aload_nF dL_955 rfl rfl ?_
  refine j_iload_n dL_956 rfl rfl ?_
  refine j_iconst 1 dL_957 rfl (by decide) ?_
  refine j_iadd dL_958 rfl ?_
  refine j_sld dL_959 rfl (vp6 (j := 1) hi (by decide) hL) ?_
  refine j_aload_nF dL_960 rfl rfl ?_
  refine j_iload_n dL_961 rfl rfl ?_
  refine j_iconst 2 dL_962 rfl (by decide) ?_
  refine j_iadd dL_963 rfl ?_
  refine j_sld dL_964 rfl (vp6 (j := 2) hi (by decide) hL) ?_
  refine j_cV (as := [.int (xs ((nI i + 1).toNatClampNeg)), .int (xs ((nI i + 2).toNatClampNeg))]) (rest := [.int _]) dL_965 rfl vw_L_128 (hM 112 (17, 80) rfl) rfl ⟨Nat.le_of_ble_eq_true rfl, Nat.le_of_ble_eq_true rfl⟩ rfl rfl (fun _ _ => Nat.le_of_ble_eq_true rfl) (c_X12_meets hM (i1.nn hN) w1 ok.1.2.1 (by omega) (xs ((nI i + 1).toNatClampNeg)) (xs ((nI i + 2).toNatClampNeg))) ?_
  rintro _ μ2 ⟨_, rfl, rfl, q2⟩
  obtain ⟨m2, N2, l2⟩ := mI_q m1 q2 (i1.nn hN)
  have g2 := l2.G
  exact j_icmp_eq 1301 dL_968 rfl (by decide) (fun _ => K B a μ2 ⟨⟨hM, hG, hg⟩, ⟨t, d, g2.cJ c1⟩, m2, ok, hb, ⟨g2.pp P1, N2⟩, ⟨g2.kw (i1.kw kc), g2.vK (i1.vK vk), g2.kwm (i1.kwm km)⟩, g2.cl (i1.cl cl (by omega))⟩ (by omega)) (fun h => absurd rfl h)
theorem law_cutOff (hI : lwI G a B μ) (hB : B + 230 ≤ BB) (hi : i + 6 ≤ L) (hL : L ≤ 3072) (K : ∀ B' a' μ', lwI G a' B' μ' → B' ≤ B + 30 → J l mL (jZL L xs X) G k n 1301 [.float 0, .ref 0, .ref 112, .int (nI i)] [] μ') : J l mL (jZL L xs X) G k n 973 [.float 0, .ref 0, .ref 112, .int (nI i)] [] μ := by
  obtain ⟨⟨hM, hG, hg⟩, ⟨t, d, hc⟩, hm, ok, hb, ⟨hP, hN⟩, ⟨kc, vk, km⟩, cl⟩ := hI
  refine j_aload_n dL_973 rfl rfl ?_
  refine j_aload_nF dL_974 rfl rfl ?_
  refine j_iload_n dL_975 rfl rfl ?_
  refine j_iconst 1 dL_976 rfl (by decide) ?_
  refine j_iadd dL_977 rfl ?_
  refine j_sld dL_978 rfl (vp6 (j := 1) hi (by decide) hL) ?_
  refine j_cV (as := [.int (xs ((nI i + 1).toNatClampNeg))]) (rest := []) dL_979 rfl vw_L_129 (hG 0 (16, 9) rfl) rfl ⟨Nat.le_of_ble_eq_true rfl, Nat.le_of_ble_eq_true rfl⟩ rfl rfl (fun _ _ => Nat.le_of_ble_eq_true rfl) (c_X11_cutOff hG hP hc (xs ((nI i + 1).toNatClampNeg))) ?_
  rintro _ μ1 ⟨_, rfl, rfl, c1, P1, i1⟩
  have m1 := i1.mI hm
  obtain ⟨v, w1⟩ := id m1.1
  refine j_aload_n dL_982 rfl rfl ?_
  refine j_aload_nF dL_983 rfl rfl ?_
  refine j_iload_n dL_984 rfl rfl ?_
  refine j_iconst 1 dL_985 rfl (by decide) ?_
  refine j_iadd dL_986 rfl ?_
  refine j_sld dL_987 rfl (vp6 (j := 1) hi (by decide) hL) ?_
  refine j_cV (as := [.int (xs ((nI i + 1).toNatClampNeg))]) (rest := [.int _]) dL_988 rfl vw_L_132 (hM 112 (17, 80) rfl) rfl ⟨Nat.le_of_ble_eq_true rfl, Nat.le_of_ble_eq_true rfl⟩ rfl rfl (fun _ _ => Nat.le_of_ble_eq_true rfl) (c_X12_cutOff hM (i1.nn hN) w1 (xs ((nI i + 1).toNatClampNeg))) ?_
  rintro _ μ2 ⟨_, rfl, rfl, q2⟩
  obtain ⟨m2, N2, l2⟩ := mI_q m1 q2 (i1.nn hN)
  have g2 := l2.G
  exact j_icmp_eq 1301 dL_991 rfl (by decide) (fun _ => K B a μ2 ⟨⟨hM, hG, hg⟩, ⟨t, d, g2.cJ c1⟩, m2, ok, hb, ⟨g2.pp P1, N2⟩, ⟨g2.kw (i1.kw kc), g2.vK (i1.vK vk), g2.kwm (i1.kwm km)⟩, g2.cl (i1.cl cl (by omega))⟩ (by omega)) (fun h => absurd rfl h)
theorem law_year (hI : lwI G a B μ) (hB : B + 230 ≤ BB) (hi : i + 6 ≤ L) (hL : L ≤ 3072) (K : ∀ B' a' μ', lwI G a' B' μ' → B' ≤ B + 30 → J l mL (jZL L xs X) G k n 1301 [.float 0, .ref 0, .ref 112, .int (nI i)] [] μ') : J l mL (jZL L xs X) G k n 996 [.float 0, .ref 0, .ref 112, .int (nI i)] [] μ := by
  obtain ⟨⟨hM, hG, hg⟩, ⟨t, d, hc⟩, hm, ok, hb, ⟨hP, hN⟩, ⟨kc, vk, km⟩, cl⟩ := hI
  refine j_aload_n dL_996 rfl rfl ?_
  refine j_aload_nF dL_997 rfl rfl ?_
  refine j_iload_n dL_998 rfl rfl ?_
  refine j_iconst 1 dL_999 rfl (by decide) ?_
  refine j_iadd dL_1000 rfl ?_
  refine j_sld dL_1001 rfl (vp6 (j := 1) hi (by decide) hL) ?_
  refine j_aload_nF dL_1002 rfl rfl ?_
  refine j_iload_n dL_1003 rfl rfl ?_
  refine j_iconst 2 dL_1004 rfl (by decide) ?_
  refine j_iadd dL_1005 rfl ?_
  refine j_sld dL_1006 rfl (vp6 (j := 2) hi (by decide) hL) ?_
  refine j_cV (as := [.int (xs ((nI i + 1).toNatClampNeg)), .int (xs ((nI i + 2).toNatClampNeg))]) (rest := []) dL_1007 rfl vw_L_133 (hG 0 (16, 9) rfl) rfl ⟨Nat.le_of_ble_eq_true rfl, Nat.le_of_ble_eq_true rfl⟩ rfl rfl (fun _ _ => Nat.le_of_ble_eq_true rfl) (c_X11_year hG hP hc (xs ((nI i + 1).toNatClampNeg)) (xs ((nI i + 2).toNatClampNeg))) ?_
  rintro _ μ1 ⟨_, rfl, rfl, c1, P1, i1⟩
  have m1 := i1.mI hm
  obtain ⟨v, w1⟩ := id m1.1
  refine j_aload_n dL_1010 rfl rfl ?_
  refine j_aload_nF dL_1011 rfl rfl ?_
  refine j_iload_n dL_1012 rfl rfl ?_
  refine j_iconst 1 dL_1013 rfl (by decide) ?_
  refine j_iadd dL_1014 rfl ?_
  refine j_sld dL_1015 rfl (vp6 (j := 1) hi (by decide) hL) ?_
  refine j_aload_nF dL_1016 rfl rfl ?_
  refine j_iload_n dL_1017 rfl rfl ?_
  refine j_iconst 2 dL_1018 rfl (by decide) ?_
  refine j_iadd dL_1019 rfl ?_
  refine j_sld dL_1020 rfl (vp6 (j := 2) hi (by decide) hL) ?_
  refine j_cV (as := [.int (xs ((nI i + 1).toNatClampNeg)), .int (xs ((nI i + 2).toNatClampNeg))]) (rest := [.int _]) dL_1021 rfl vw_L_136 (hM 112 (17, 80) rfl) rfl ⟨Nat.le_of_ble_eq_true rfl, Nat.le_of_ble_eq_true rfl⟩ rfl rfl (fun _ _ => Nat.le_of_ble_eq_true rfl) (c_X12_year hM (i1.nn hN) w1 (xs ((nI i + 1).toNatClampNeg)) (xs ((nI i + 2).toNatClampNeg))) ?_
  rintro _ μ2 ⟨_, rfl, rfl, q2⟩
  obtain ⟨m2, N2, l2⟩ := mI_q m1 q2 (i1.nn hN)
  have g2 := l2.G
  exact j_icmp_eq 1301 dL_1024 rfl (by decide) (fun _ => K B a μ2 ⟨⟨hM, hG, hg⟩, ⟨t, d, g2.cJ c1⟩, m2, ok, hb, ⟨g2.pp P1, N2⟩, ⟨g2.kw (i1.kw kc), g2.vK (i1.vK vk), g2.kwm (i1.kwm km)⟩, g2.cl (i1.cl cl (by omega))⟩ (by omega)) (fun h => absurd rfl h)
end LawQ
