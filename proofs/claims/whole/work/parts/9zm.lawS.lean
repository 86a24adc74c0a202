/-! THE LAW: steps -/
theorem byO_hold {a : aS} {x : Int32} (h : byO (gY a)) : byO (gY (dHold a x).2) := by unfold dHold; split <;> exact h
theorem byO_rest {a : aS} {x : Int32} (h : byO (gY a)) : byO (gY (dRest a x).2) := by unfold dRest; split <;> exact h
theorem byO_tell {a : aS} {x y : Int32} {b : Nat} (h : byO (gY a)) : byO (gY (dTell a x y b).2) := by unfold dTell; split <;> exact h
section LawS
variable {l : Launch} {L i B k n : Nat} {xs : Nat → Int32} {X : jEX} {G : jG} {a : aS} {μ : jM}
theorem law_feed (hI : lwI G a B μ) (hB : B + 230 ≤ BB) (hi : i + 6 ≤ L) (hL : L ≤ 3072) (K : ∀ B' a' μ', lwI G a' B' μ' → B' ≤ B + 30 → J l mL (jZL L xs X) G k n 1301 [.float 0, .ref 0, .ref 112, .int (nI i)] [] μ') : J l mL (jZL L xs X) G k n 196 [.float 0, .ref 0, .ref 112, .int (nI i)] [] μ := by
  obtain ⟨⟨hM, hG, hg⟩, ⟨t, d, hc⟩, hm, ok, hb, ⟨hP, hN⟩, ⟨kc, vk, km⟩, cl⟩ := hI
  refine j_aload_n dL_196 rfl rfl ?_
  refine j_aload_nF dL_197 rfl rfl ?_
  refine j_iload_n dL_198 rfl rfl ?_
  refine j_iconst 1 dL_199 rfl (by decide) ?_
  refine j_iadd dL_200 rfl ?_
  refine j_sld dL_201 rfl (vp6 (j := 1) hi (by decide) hL) ?_
  refine j_aload_nF dL_202 rfl rfl ?_
  refine j_iload_n dL_203 rfl rfl ?_
  refine j_iconst 2 dL_204 rfl (by decide) ?_
  refine j_iadd dL_205 rfl ?_
  refine j_sld dL_206 rfl (vp6 (j := 2) hi (by decide) hL) ?_
  refine j_aload_nF dL_207 rfl rfl ?_
  refine j_iload_n dL_208 rfl rfl ?_
  refine j_iconst 3 dL_209 rfl (by decide) ?_
  refine j_iadd dL_210 rfl ?_
  refine j_sld dL_211 rfl (vp6 (j := 3) hi (by decide) hL) ?_
  refine j_aload_nF dL_212 rfl rfl ?_
  refine j_iload_n dL_213 rfl rfl ?_
  refine j_iconst 4 dL_214 rfl (by decide) ?_
  refine j_iadd dL_215 rfl ?_
  refine j_sld dL_216 rfl (vp6 (j := 4) hi (by decide) hL) ?_
  refine j_aload_nF dL_217 rfl rfl ?_
  refine j_iload_n dL_218 rfl rfl ?_
  refine j_iconst 5 dL_219 rfl (by decide) ?_
  refine j_iadd dL_220 rfl ?_
  refine j_sld dL_221 rfl (vp6 (j := 5) hi (by decide) hL) ?_
  refine j_cV (as := [.int (xs ((nI i + 1).toNatClampNeg)), .int (xs ((nI i + 2).toNatClampNeg)), .int (xs ((nI i + 3).toNatClampNeg)), .int (xs ((nI i + 4).toNatClampNeg)), .int (xs ((nI i + 5).toNatClampNeg))]) (rest := []) dL_222 rfl vw_L_13 (hG 0 (16, 9) rfl) rfl ⟨Nat.le_of_ble_eq_true rfl, Nat.le_of_ble_eq_true rfl⟩ rfl rfl (fun _ _ => Nat.le_of_ble_eq_true rfl) (c_X11_feed hG hP hc (xs ((nI i + 1).toNatClampNeg)) (xs ((nI i + 2).toNatClampNeg)) (xs ((nI i + 3).toNatClampNeg)) (xs ((nI i + 4).toNatClampNeg)) (xs ((nI i + 5).toNatClampNeg))) ?_
  rintro _ μ1 ⟨_, rfl, rfl, c1, P1, i1⟩
  have m1 := i1.mI hm
  refine j_aload_n dL_225 rfl rfl ?_
  refine j_aload_nF dL_226 rfl rfl ?_
  refine j_iload_n dL_227 rfl rfl ?_
  refine j_iconst 1 dL_228 rfl (by decide) ?_
  refine j_iadd dL_229 rfl ?_
  refine j_sld dL_230 rfl (vp6 (j := 1) hi (by decide) hL) ?_
  refine j_aload_nF dL_231 rfl rfl ?_
  refine j_iload_n dL_232 rfl rfl ?_
  refine j_iconst 2 dL_233 rfl (by decide) ?_
  refine j_iadd dL_234 rfl ?_
  refine j_sld dL_235 rfl (vp6 (j := 2) hi (by decide) hL) ?_
  refine j_aload_nF dL_236 rfl rfl ?_
  refine j_iload_n dL_237 rfl rfl ?_
  refine j_iconst 3 dL_238 rfl (by decide) ?_
  refine j_iadd dL_239 rfl ?_
  refine j_sld dL_240 rfl (vp6 (j := 3) hi (by decide) hL) ?_
  refine j_aload_nF dL_241 rfl rfl ?_
  refine j_iload_n dL_242 rfl rfl ?_
  refine j_iconst 4 dL_243 rfl (by decide) ?_
  refine j_iadd dL_244 rfl ?_
  refine j_sld dL_245 rfl (vp6 (j := 4) hi (by decide) hL) ?_
  refine j_aload_nF dL_246 rfl rfl ?_
  refine j_iload_n dL_247 rfl rfl ?_
  refine j_iconst 5 dL_248 rfl (by decide) ?_
  refine j_iadd dL_249 rfl ?_
  refine j_sld dL_250 rfl (vp6 (j := 5) hi (by decide) hL) ?_
  refine j_cV (as := [.int (xs ((nI i + 1).toNatClampNeg)), .int (xs ((nI i + 2).toNatClampNeg)), .int (xs ((nI i + 3).toNatClampNeg)), .int (xs ((nI i + 4).toNatClampNeg)), .int (xs ((nI i + 5).toNatClampNeg))]) (rest := [.int _]) dL_251 rfl vw_L_17 (hM 112 (17, 80) rfl) rfl ⟨Nat.le_of_ble_eq_true rfl, Nat.le_of_ble_eq_true rfl⟩ rfl rfl (fun _ _ => Nat.le_of_ble_eq_true rfl) (c_X12_feed hM (i1.nn hN) m1 (xs ((nI i + 1).toNatClampNeg)) (xs ((nI i + 2).toNatClampNeg)) (xs ((nI i + 3).toNatClampNeg)) (xs ((nI i + 4).toNatClampNeg)) (xs ((nI i + 5).toNatClampNeg))) ?_
  rintro _ μ2 ⟨_, rfl, rfl, m2, N2, l2⟩
  have g2 := l2.G
  exact j_icmp_eq 1301 dL_254 rfl (by decide) (fun _ => K B _ μ2 ⟨⟨hM, hG, hg⟩, ⟨t, d, g2.cJ c1⟩, m2, (ok), (byO_feed hb), ⟨g2.pp P1, N2⟩, ⟨g2.kw (i1.kw kc), g2.vK (i1.vK vk), g2.kwm (i1.kwm km)⟩, g2.cl (i1.cl cl (by omega))⟩ (by omega)) (fun h => absurd rfl h)
theorem law_back (hI : lwI G a B μ) (hB : B + 230 ≤ BB) (hi : i + 6 ≤ L) (hL : L ≤ 3072) (K : ∀ B' a' μ', lwI G a' B' μ' → B' ≤ B + 30 → J l mL (jZL L xs X) G k n 1301 [.float 0, .ref 0, .ref 112, .int (nI i)] [] μ') : J l mL (jZL L xs X) G k n 259 [.float 0, .ref 0, .ref 112, .int (nI i)] [] μ := by
  obtain ⟨⟨hM, hG, hg⟩, ⟨t, d, hc⟩, hm, ok, hb, ⟨hP, hN⟩, ⟨kc, vk, km⟩, cl⟩ := hI
  refine j_aload_n dL_259 rfl rfl ?_
  refine j_aload_nF dL_260 rfl rfl ?_
  refine j_iload_n dL_261 rfl rfl ?_
  refine j_iconst 1 dL_262 rfl (by decide) ?_
  refine j_iadd dL_263 rfl ?_
  refine j_sld dL_264 rfl (vp6 (j := 1) hi (by decide) hL) ?_
  refine j_cV (as := [.int (xs ((nI i + 1).toNatClampNeg))]) (rest := []) dL_265 rfl vw_L_18 (hG 0 (16, 9) rfl) rfl ⟨Nat.le_of_ble_eq_true rfl, Nat.le_of_ble_eq_true rfl⟩ rfl rfl (fun _ _ => Nat.le_of_ble_eq_true rfl) (c_X11_back hG hP hc (xs ((nI i + 1).toNatClampNeg))) ?_
  rintro _ μ1 ⟨_, rfl, rfl, c1, P1, i1⟩
  have m1 := i1.mI hm
  refine j_aload_n dL_268 rfl rfl ?_
  refine j_aload_nF dL_269 rfl rfl ?_
  refine j_iload_n dL_270 rfl rfl ?_
  refine j_iconst 1 dL_271 rfl (by decide) ?_
  refine j_iadd dL_272 rfl ?_
  refine j_sld dL_273 rfl (vp6 (j := 1) hi (by decide) hL) ?_
  refine j_cV (as := [.int (xs ((nI i + 1).toNatClampNeg))]) (rest := [.int _]) dL_274 rfl vw_L_22 (hM 112 (17, 80) rfl) rfl ⟨Nat.le_of_ble_eq_true rfl, Nat.le_of_ble_eq_true rfl⟩ rfl rfl (fun _ _ => Nat.le_of_ble_eq_true rfl) (c_X12_back hM (i1.nn hN) m1 (xs ((nI i + 1).toNatClampNeg))) ?_
  rintro _ μ2 ⟨_, rfl, rfl, m2, N2, l2⟩
  have g2 := l2.G
  exact j_icmp_eq 1301 dL_277 rfl (by decide) (fun _ => K B _ μ2 ⟨⟨hM, hG, hg⟩, ⟨t, d, g2.cJ c1⟩, m2, (ok), (byO_back hb), ⟨g2.pp P1, N2⟩, ⟨g2.kw (i1.kw kc), g2.vK (i1.vK vk), g2.kwm (i1.kwm km)⟩, g2.cl (i1.cl cl (by omega))⟩ (by omega)) (fun h => absurd rfl h)
theorem law_read (hI : lwI G a B μ) (hB : B + 230 ≤ BB) (hi : i + 6 ≤ L) (hL : L ≤ 3072) (K : ∀ B' a' μ', lwI G a' B' μ' → B' ≤ B + 30 → J l mL (jZL L xs X) G k n 1301 [.float 0, .ref 0, .ref 112, .int (nI i)] [] μ') : J l mL (jZL L xs X) G k n 282 [.float 0, .ref 0, .ref 112, .int (nI i)] [] μ := by
  obtain ⟨⟨hM, hG, hg⟩, ⟨t, d, hc⟩, hm, ok, hb, ⟨hP, hN⟩, ⟨kc, vk, km⟩, cl⟩ := hI
  refine j_aload_n dL_282 rfl rfl ?_
  refine j_cV (as := []) (rest := []) dL_283 rfl vw_L_23 (hG 0 (16, 9) rfl) rfl ⟨Nat.le_of_ble_eq_true rfl, Nat.le_of_ble_eq_true rfl⟩ rfl rfl (fun _ _ => Nat.le_of_ble_eq_true rfl) (c_X11_read hG hP hc kc (vk d hc.2.1.1) ) ?_
  rintro _ μ1 ⟨_, rfl, rfl, ⟨t1, d1, c1⟩, P1, i1⟩
  have m1 := i1.mI hm
  refine j_aload_n dL_286 rfl rfl ?_
  refine j_cV (as := []) (rest := [.int _]) dL_287 rfl vw_L_27 (hM 112 (17, 80) rfl) rfl ⟨Nat.le_of_ble_eq_true rfl, Nat.le_of_ble_eq_true rfl⟩ rfl rfl (fun _ _ => Nat.le_of_ble_eq_true rfl) (c_X12_read hM (i1.nn hN) m1 hb (i1.kwm km) ) ?_
  rintro _ μ2 ⟨_, rfl, rfl, m2, N2, l2⟩
  have g2 := l2
  exact j_icmp_eq 1301 dL_290 rfl (by decide) (fun _ => K B _ μ2 ⟨⟨hM, hG, hg⟩, ⟨t1, d1, g2.cJ c1⟩, m2, (aOK_read ok), (byO_read), ⟨g2.pp P1, N2⟩, ⟨g2.kw (i1.kw kc), g2.vK (i1.vK vk), g2.kwm (i1.kwm km)⟩, g2.cl (i1.cl cl (by omega))⟩ (by omega)) (fun h => absurd rfl h)
theorem law_place (hI : lwI G a B μ) (hB : B + 230 ≤ BB) (hi : i + 6 ≤ L) (hL : L ≤ 3072) (K : ∀ B' a' μ', lwI G a' B' μ' → B' ≤ B + 30 → J l mL (jZL L xs X) G k n 1301 [.float 0, .ref 0, .ref 112, .int (nI i)] [] μ') : J l mL (jZL L xs X) G k n 295 [.float 0, .ref 0, .ref 112, .int (nI i)] [] μ := by
  obtain ⟨⟨hM, hG, hg⟩, ⟨t, d, hc⟩, hm, ok, hb, ⟨hP, hN⟩, ⟨kc, vk, km⟩, cl⟩ := hI
  refine j_aload_n dL_295 rfl rfl ?_
  refine j_cV (as := []) (rest := []) dL_296 rfl vw_L_28 (hG 0 (16, 9) rfl) rfl ⟨Nat.le_of_ble_eq_true rfl, Nat.le_of_ble_eq_true rfl⟩ rfl rfl (fun _ _ => Nat.le_of_ble_eq_true rfl) (c_X11_place hG hP hc ) ?_
  rintro _ μ1 ⟨_, rfl, rfl, c1, P1, i1⟩
  have m1 := i1.mI hm
  refine j_aload_n dL_299 rfl rfl ?_
  refine j_cV (as := []) (rest := [.int _]) dL_300 rfl vw_L_31 (hM 112 (17, 80) rfl) rfl ⟨Nat.le_of_ble_eq_true rfl, Nat.le_of_ble_eq_true rfl⟩ rfl rfl (fun _ _ => Nat.le_of_ble_eq_true rfl) (c_X12_place hM (i1.nn hN) m1 ) ?_
  rintro _ μ2 ⟨_, rfl, rfl, m2, N2, l2⟩
  have g2 := l2.G
  exact j_icmp_eq 1301 dL_303 rfl (by decide) (fun _ => K B _ μ2 ⟨⟨hM, hG, hg⟩, ⟨t, d, g2.cJ c1⟩, m2, (ok), (hb), ⟨g2.pp P1, N2⟩, ⟨g2.kw (i1.kw kc), g2.vK (i1.vK vk), g2.kwm (i1.kwm km)⟩, g2.cl (i1.cl cl (by omega))⟩ (by omega)) (fun h => absurd rfl h)
theorem law_gate (hI : lwI G a B μ) (hB : B + 230 ≤ BB) (hi : i + 6 ≤ L) (hL : L ≤ 3072) (K : ∀ B' a' μ', lwI G a' B' μ' → B' ≤ B + 30 → J l mL (jZL L xs X) G k n 1301 [.float 0, .ref 0, .ref 112, .int (nI i)] [] μ') : J l mL (jZL L xs X) G k n 473 [.float 0, .ref 0, .ref 112, .int (nI i)] [] μ := by
  obtain ⟨⟨hM, hG, hg⟩, ⟨t, d, hc⟩, hm, ok, hb, ⟨hP, hN⟩, ⟨kc, vk, km⟩, cl⟩ := hI
  by_cases hz0 : xs ((nI i + 2).toNatClampNeg) = 0
  · refine j_aload_n dL_473 rfl rfl ?_
    refine j_aload_nF dL_474 rfl rfl ?_
    refine j_iload_n dL_475 rfl rfl ?_
    refine j_iconst 1 dL_476 rfl (by decide) ?_
    refine j_iadd dL_477 rfl ?_
    refine j_sld dL_478 rfl (vp6 (j := 1) hi (by decide) hL) ?_
    refine j_aload_nF dL_479 rfl rfl ?_
    refine j_iload_n dL_480 rfl rfl ?_
    refine j_iconst 2 dL_481 rfl (by decide) ?_
    refine j_iadd dL_482 rfl ?_
    refine j_sld dL_483 rfl (vp6 (j := 2) hi (by decide) hL) ?_
    refine j_if_eq 491 dL_484 rfl (by decide) (fun _ => ?_) (fun h => absurd hz0 h)
    refine j_iconst 0 dL_491 rfl (by decide) ?_
    refine j_cV (as := [.int (xs ((nI i + 1).toNatClampNeg)), .int 0]) (rest := []) dL_492 rfl vw_L_53 (hG 0 (16, 9) rfl) rfl ⟨Nat.le_of_ble_eq_true rfl, Nat.le_of_ble_eq_true rfl⟩ rfl rfl (fun _ _ => Nat.le_of_ble_eq_true rfl) (c_X11_gate hG hP hc ok (xs ((nI i + 1).toNatClampNeg)) 0) ?_
    rintro _ μ1 ⟨_, rfl, rfl, c1, P1, i1⟩
    have m1 := i1.mI hm
    refine j_aload_n dL_495 rfl rfl ?_
    refine j_aload_nF dL_496 rfl rfl ?_
    refine j_iload_n dL_497 rfl rfl ?_
    refine j_iconst 1 dL_498 rfl (by decide) ?_
    refine j_iadd dL_499 rfl ?_
    refine j_sld dL_500 rfl (vp6 (j := 1) hi (by decide) hL) ?_
    refine j_aload_nF dL_501 rfl rfl ?_
    refine j_iload_n dL_502 rfl rfl ?_
    refine j_iconst 2 dL_503 rfl (by decide) ?_
    refine j_iadd dL_504 rfl ?_
    refine j_sld dL_505 rfl (vp6 (j := 2) hi (by decide) hL) ?_
    refine j_if_eq 513 dL_506 rfl (by decide) (fun _ => ?_) (fun h => absurd hz0 h)
    refine j_iconst 0 dL_513 rfl (by decide) ?_
    refine j_cV (as := [.int (xs ((nI i + 1).toNatClampNeg)), .int 0]) (rest := [.int _]) dL_514 rfl vw_L_57 (hM 112 (17, 80) rfl) rfl ⟨Nat.le_of_ble_eq_true rfl, Nat.le_of_ble_eq_true rfl⟩ rfl rfl (fun _ _ => Nat.le_of_ble_eq_true rfl) (c_X12_gate hM (i1.nn hN) m1 (xs ((nI i + 1).toNatClampNeg)) 0) ?_
    rintro _ μ2 ⟨_, rfl, rfl, m2, N2, l2⟩
    have g2 := l2.G
    exact j_icmp_eq 1301 dL_517 rfl (by decide) (fun _ => K B _ μ2 ⟨⟨hM, hG, hg⟩, ⟨t, d, g2.cJ c1⟩, m2, (aOK_SH ok (Nat.le_refl _) (okR_of c1 m2) (fun R h => dGate_in h)), (hb), ⟨g2.pp P1, N2⟩, ⟨g2.kw (i1.kw kc), g2.vK (i1.vK vk), g2.kwm (i1.kwm km)⟩, g2.cl (i1.cl cl (by omega))⟩ (by omega)) (fun h => absurd rfl h)
  · refine j_aload_n dL_473 rfl rfl ?_
    refine j_aload_nF dL_474 rfl rfl ?_
    refine j_iload_n dL_475 rfl rfl ?_
    refine j_iconst 1 dL_476 rfl (by decide) ?_
    refine j_iadd dL_477 rfl ?_
    refine j_sld dL_478 rfl (vp6 (j := 1) hi (by decide) hL) ?_
    refine j_aload_nF dL_479 rfl rfl ?_
    refine j_iload_n dL_480 rfl rfl ?_
    refine j_iconst 2 dL_481 rfl (by decide) ?_
    refine j_iadd dL_482 rfl ?_
    refine j_sld dL_483 rfl (vp6 (j := 2) hi (by decide) hL) ?_
    refine j_if_eq 491 dL_484 rfl (by decide) (fun h => absurd h hz0) (fun _ => ?_)
    refine j_iconst 1 dL_487 rfl (by decide) ?_
    refine j_goto 492 dL_488 (by decide) ?_
    refine j_cV (as := [.int (xs ((nI i + 1).toNatClampNeg)), .int 1]) (rest := []) dL_492 rfl vw_L_53 (hG 0 (16, 9) rfl) rfl ⟨Nat.le_of_ble_eq_true rfl, Nat.le_of_ble_eq_true rfl⟩ rfl rfl (fun _ _ => Nat.le_of_ble_eq_true rfl) (c_X11_gate hG hP hc ok (xs ((nI i + 1).toNatClampNeg)) 1) ?_
    rintro _ μ1 ⟨_, rfl, rfl, c1, P1, i1⟩
    have m1 := i1.mI hm
    refine j_aload_n dL_495 rfl rfl ?_
    refine j_aload_nF dL_496 rfl rfl ?_
    refine j_iload_n dL_497 rfl rfl ?_
    refine j_iconst 1 dL_498 rfl (by decide) ?_
    refine j_iadd dL_499 rfl ?_
    refine j_sld dL_500 rfl (vp6 (j := 1) hi (by decide) hL) ?_
    refine j_aload_nF dL_501 rfl rfl ?_
    refine j_iload_n dL_502 rfl rfl ?_
    refine j_iconst 2 dL_503 rfl (by decide) ?_
    refine j_iadd dL_504 rfl ?_
    refine j_sld dL_505 rfl (vp6 (j := 2) hi (by decide) hL) ?_
    refine j_if_eq 513 dL_506 rfl (by decide) (fun h => absurd h hz0) (fun _ => ?_)
    refine j_iconst 1 dL_509 rfl (by decide) ?_
    refine j_goto 514 dL_510 (by decide) ?_
    refine j_cV (as := [.int (xs ((nI i + 1).toNatClampNeg)), .int 1]) (rest := [.int _]) dL_514 rfl vw_L_57 (hM 112 (17, 80) rfl) rfl ⟨Nat.le_of_ble_eq_true rfl, Nat.le_of_ble_eq_true rfl⟩ rfl rfl (fun _ _ => Nat.le_of_ble_eq_true rfl) (c_X12_gate hM (i1.nn hN) m1 (xs ((nI i + 1).toNatClampNeg)) 1) ?_
    rintro _ μ2 ⟨_, rfl, rfl, m2, N2, l2⟩
    have g2 := l2.G
    exact j_icmp_eq 1301 dL_517 rfl (by decide) (fun _ => K B _ μ2 ⟨⟨hM, hG, hg⟩, ⟨t, d, g2.cJ c1⟩, m2, (aOK_SH ok (Nat.le_refl _) (okR_of c1 m2) (fun R h => dGate_in h)), (hb), ⟨g2.pp P1, N2⟩, ⟨g2.kw (i1.kw kc), g2.vK (i1.vK vk), g2.kwm (i1.kwm km)⟩, g2.cl (i1.cl cl (by omega))⟩ (by omega)) (fun h => absurd rfl h)
theorem law_rate (hI : lwI G a B μ) (hB : B + 230 ≤ BB) (hi : i + 6 ≤ L) (hL : L ≤ 3072) (K : ∀ B' a' μ', lwI G a' B' μ' → B' ≤ B + 30 → J l mL (jZL L xs X) G k n 1301 [.float 0, .ref 0, .ref 112, .int (nI i)] [] μ') : J l mL (jZL L xs X) G k n 522 [.float 0, .ref 0, .ref 112, .int (nI i)] [] μ := by
  obtain ⟨⟨hM, hG, hg⟩, ⟨t, d, hc⟩, hm, ok, hb, ⟨hP, hN⟩, ⟨kc, vk, km⟩, cl⟩ := hI
  refine j_aload_n dL_522 rfl rfl ?_
  refine j_aload_nF dL_523 rfl rfl ?_
  refine j_iload_n dL_524 rfl rfl ?_
  refine j_iconst 1 dL_525 rfl (by decide) ?_
  refine j_iadd dL_526 rfl ?_
  refine j_sld dL_527 rfl (vp6 (j := 1) hi (by decide) hL) ?_
  refine j_cV (as := [.int (xs ((nI i + 1).toNatClampNeg))]) (rest := []) dL_528 rfl vw_L_58 (hG 0 (16, 9) rfl) rfl ⟨Nat.le_of_ble_eq_true rfl, Nat.le_of_ble_eq_true rfl⟩ rfl rfl (fun _ _ => Nat.le_of_ble_eq_true rfl) (c_X11_rate hG hP hc ok (xs ((nI i + 1).toNatClampNeg))) ?_
  rintro _ μ1 ⟨_, rfl, rfl, c1, P1, i1⟩
  have m1 := i1.mI hm
  refine j_aload_n dL_531 rfl rfl ?_
  refine j_aload_nF dL_532 rfl rfl ?_
  refine j_iload_n dL_533 rfl rfl ?_
  refine j_iconst 1 dL_534 rfl (by decide) ?_
  refine j_iadd dL_535 rfl ?_
  refine j_sld dL_536 rfl (vp6 (j := 1) hi (by decide) hL) ?_
  refine j_cV (as := [.int (xs ((nI i + 1).toNatClampNeg))]) (rest := [.int _]) dL_537 rfl vw_L_62 (hM 112 (17, 80) rfl) rfl ⟨Nat.le_of_ble_eq_true rfl, Nat.le_of_ble_eq_true rfl⟩ rfl rfl (fun _ _ => Nat.le_of_ble_eq_true rfl) (c_X12_rate hM (i1.nn hN) m1 (xs ((nI i + 1).toNatClampNeg))) ?_
  rintro _ μ2 ⟨_, rfl, rfl, m2, N2, l2⟩
  have g2 := l2.G
  exact j_icmp_eq 1301 dL_540 rfl (by decide) (fun _ => K B _ μ2 ⟨⟨hM, hG, hg⟩, ⟨t, d, g2.cJ c1⟩, m2, (aOK_SH ok (Nat.le_refl _) (okR_of c1 m2) (fun R h => dRate_in h)), (hb), ⟨g2.pp P1, N2⟩, ⟨g2.kw (i1.kw kc), g2.vK (i1.vK vk), g2.kwm (i1.kwm km)⟩, g2.cl (i1.cl cl (by omega))⟩ (by omega)) (fun h => absurd rfl h)
theorem law_mend (hI : lwI G a B μ) (hB : B + 230 ≤ BB) (hi : i + 6 ≤ L) (hL : L ≤ 3072) (K : ∀ B' a' μ', lwI G a' B' μ' → B' ≤ B + 30 → J l mL (jZL L xs X) G k n 1301 [.float 0, .ref 0, .ref 112, .int (nI i)] [] μ') : J l mL (jZL L xs X) G k n 545 [.float 0, .ref 0, .ref 112, .int (nI i)] [] μ := by
  obtain ⟨⟨hM, hG, hg⟩, ⟨t, d, hc⟩, hm, ok, hb, ⟨hP, hN⟩, ⟨kc, vk, km⟩, cl⟩ := hI
  refine j_aload_n dL_545 rfl rfl ?_
  refine j_aload_nF dL_546 rfl rfl ?_
  refine j_iload_n dL_547 rfl rfl ?_
  refine j_iconst 1 dL_548 rfl (by decide) ?_
  refine j_iadd dL_549 rfl ?_
  refine j_sld dL_550 rfl (vp6 (j := 1) hi (by decide) hL) ?_
  refine j_cV (as := [.int (xs ((nI i + 1).toNatClampNeg))]) (rest := []) dL_551 rfl vw_L_63 (hG 0 (16, 9) rfl) rfl ⟨Nat.le_of_ble_eq_true rfl, Nat.le_of_ble_eq_true rfl⟩ rfl rfl (fun _ _ => Nat.le_of_ble_eq_true rfl) (c_X11_mend hG hP hc ok (xs ((nI i + 1).toNatClampNeg))) ?_
  rintro _ μ1 ⟨_, rfl, rfl, c1, P1, i1⟩
  have m1 := i1.mI hm
  refine j_aload_n dL_554 rfl rfl ?_
  refine j_aload_nF dL_555 rfl rfl ?_
  refine j_iload_n dL_556 rfl rfl ?_
  refine j_iconst 1 dL_557 rfl (by decide) ?_
  refine j_iadd dL_558 rfl ?_
  refine j_sld dL_559 rfl (vp6 (j := 1) hi (by decide) hL) ?_
  refine j_cV (as := [.int (xs ((nI i + 1).toNatClampNeg))]) (rest := [.int _]) dL_560 rfl vw_L_66 (hM 112 (17, 80) rfl) rfl ⟨Nat.le_of_ble_eq_true rfl, Nat.le_of_ble_eq_true rfl⟩ rfl rfl (fun _ _ => Nat.le_of_ble_eq_true rfl) (c_X12_mend hM (i1.nn hN) m1 (xs ((nI i + 1).toNatClampNeg))) ?_
  rintro _ μ2 ⟨_, rfl, rfl, m2, N2, l2⟩
  have g2 := l2.G
  exact j_icmp_eq 1301 dL_563 rfl (by decide) (fun _ => K B _ μ2 ⟨⟨hM, hG, hg⟩, ⟨t, d, g2.cJ c1⟩, m2, (aOK_SH ok (Nat.le_refl _) (okR_of c1 m2) (fun R h => dMend_in h)), (hb), ⟨g2.pp P1, N2⟩, ⟨g2.kw (i1.kw kc), g2.vK (i1.vK vk), g2.kwm (i1.kwm km)⟩, g2.cl (i1.cl cl (by omega))⟩ (by omega)) (fun h => absurd rfl h)
theorem law_nights (hI : lwI G a B μ) (hB : B + 230 ≤ BB) (hi : i + 6 ≤ L) (hL : L ≤ 3072) (K : ∀ B' a' μ', lwI G a' B' μ' → B' ≤ B + 30 → J l mL (jZL L xs X) G k n 1301 [.float 0, .ref 0, .ref 112, .int (nI i)] [] μ') : J l mL (jZL L xs X) G k n 568 [.float 0, .ref 0, .ref 112, .int (nI i)] [] μ := by
  obtain ⟨⟨hM, hG, hg⟩, ⟨t, d, hc⟩, hm, ok, hb, ⟨hP, hN⟩, ⟨kc, vk, km⟩, cl⟩ := hI
  refine j_aload_n dL_568 rfl rfl ?_
  refine j_aload_nF dL_569 rfl rfl ?_
  refine j_iload_n dL_570 rfl rfl ?_
  refine j_iconst 1 dL_571 rfl (by decide) ?_
  refine j_iadd dL_572 rfl ?_
  refine j_sld dL_573 rfl (vp6 (j := 1) hi (by decide) hL) ?_
  refine j_cV (as := [.int (xs ((nI i + 1).toNatClampNeg))]) (rest := []) dL_574 rfl vw_L_67 (hG 0 (16, 9) rfl) rfl ⟨Nat.le_of_ble_eq_true rfl, Nat.le_of_ble_eq_true rfl⟩ rfl rfl (fun _ _ => Nat.le_of_ble_eq_true rfl) (c_X11_nights hG hP hc ok hB (xs ((nI i + 1).toNatClampNeg))) ?_
  rintro _ μ1 ⟨_, rfl, rfl, ⟨B1, b1, b2, c1⟩, P1, i1⟩
  have m1 := i1.mI hm
  refine j_aload_n dL_577 rfl rfl ?_
  refine j_aload_nF dL_578 rfl rfl ?_
  refine j_iload_n dL_579 rfl rfl ?_
  refine j_iconst 1 dL_580 rfl (by decide) ?_
  refine j_iadd dL_581 rfl ?_
  refine j_sld dL_582 rfl (vp6 (j := 1) hi (by decide) hL) ?_
  refine j_cV (as := [.int (xs ((nI i + 1).toNatClampNeg))]) (rest := [.int _]) dL_583 rfl vw_L_70 (hM 112 (17, 80) rfl) rfl ⟨Nat.le_of_ble_eq_true rfl, Nat.le_of_ble_eq_true rfl⟩ rfl rfl (fun _ _ => Nat.le_of_ble_eq_true rfl) (c_X12_nights hM (i1.nn hN) m1 (xs ((nI i + 1).toNatClampNeg))) ?_
  rintro _ μ2 ⟨_, rfl, rfl, m2, N2, l2⟩
  have g2 := l2.G
  exact j_icmp_eq 1301 dL_586 rfl (by decide) (fun _ => K B1 _ μ2 ⟨⟨hM, hG, hg⟩, ⟨t, d, g2.cJ c1⟩, m2, (aOK_SH ok b2 (okR_of c1 m2) (fun R h => dNights_in h)), (hb), ⟨g2.pp P1, N2⟩, ⟨g2.kw (i1.kw kc), g2.vK (i1.vK vk), g2.kwm (i1.kwm km)⟩, g2.cl (i1.cl cl (by omega))⟩ (by omega)) (fun h => absurd rfl h)
theorem law_undo (hI : lwI G a B μ) (hB : B + 230 ≤ BB) (hi : i + 6 ≤ L) (hL : L ≤ 3072) (K : ∀ B' a' μ', lwI G a' B' μ' → B' ≤ B + 30 → J l mL (jZL L xs X) G k n 1301 [.float 0, .ref 0, .ref 112, .int (nI i)] [] μ') : J l mL (jZL L xs X) G k n 591 [.float 0, .ref 0, .ref 112, .int (nI i)] [] μ := by
  obtain ⟨⟨hM, hG, hg⟩, ⟨t, d, hc⟩, hm, ok, hb, ⟨hP, hN⟩, ⟨kc, vk, km⟩, cl⟩ := hI
  refine j_aload_n dL_591 rfl rfl ?_
  refine j_cV (as := []) (rest := []) dL_592 rfl vw_L_71 (hG 0 (16, 9) rfl) rfl ⟨Nat.le_of_ble_eq_true rfl, Nat.le_of_ble_eq_true rfl⟩ rfl rfl (fun _ _ => Nat.le_of_ble_eq_true rfl) (c_X11_undo hG hP hc ok ) ?_
  rintro _ μ1 ⟨_, rfl, rfl, c1, P1, i1⟩
  have m1 := i1.mI hm
  refine j_aload_n dL_595 rfl rfl ?_
  refine j_cV (as := []) (rest := [.int _]) dL_596 rfl vw_L_75 (hM 112 (17, 80) rfl) rfl ⟨Nat.le_of_ble_eq_true rfl, Nat.le_of_ble_eq_true rfl⟩ rfl rfl (fun _ _ => Nat.le_of_ble_eq_true rfl) (c_X12_undo hM (i1.nn hN) m1 ok ) ?_
  rintro _ μ2 ⟨_, rfl, rfl, m2, N2, l2⟩
  have g2 := l2.G
  exact j_icmp_eq 1301 dL_599 rfl (by decide) (fun _ => K B _ μ2 ⟨⟨hM, hG, hg⟩, ⟨t, d, g2.cJ c1⟩, m2, (aOK_SH ok (Nat.le_refl _) (okR_of c1 m2) (fun R h => dUndo_in h)), (hb), ⟨g2.pp P1, N2⟩, ⟨g2.kw (i1.kw kc), g2.vK (i1.vK vk), g2.kwm (i1.kwm km)⟩, g2.cl (i1.cl cl (by omega))⟩ (by omega)) (fun h => absurd rfl h)
theorem law_sheet (hI : lwI G a B μ) (hB : B + 230 ≤ BB) (hi : i + 6 ≤ L) (hL : L ≤ 3072) (K : ∀ B' a' μ', lwI G a' B' μ' → B' ≤ B + 30 → J l mL (jZL L xs X) G k n 1301 [.float 0, .ref 0, .ref 112, .int (nI i)] [] μ') : J l mL (jZL L xs X) G k n 1029 [.float 0, .ref 0, .ref 112, .int (nI i)] [] μ := by
  obtain ⟨⟨hM, hG, hg⟩, ⟨t, d, hc⟩, hm, ok, hb, ⟨hP, hN⟩, ⟨kc, vk, km⟩, cl⟩ := hI
  by_cases hz0 : xs ((nI i + 1).toNatClampNeg) = 0
  · by_cases hz1 : xs ((nI i + 2).toNatClampNeg) = 0
    · refine j_aload_n dL_1029 rfl rfl ?_
      refine j_aload_nF dL_1030 rfl rfl ?_
      refine j_iload_n dL_1031 rfl rfl ?_
      refine j_iconst 1 dL_1032 rfl (by decide) ?_
      refine j_iadd dL_1033 rfl ?_
      refine j_sld dL_1034 rfl (vp6 (j := 1) hi (by decide) hL) ?_
      refine j_if_eq 1042 dL_1035 rfl (by decide) (fun _ => ?_) (fun h => absurd hz0 h)
      refine j_iconst 0 dL_1042 rfl (by decide) ?_
      refine j_aload_nF dL_1043 rfl rfl ?_
      refine j_iload_n dL_1044 rfl rfl ?_
      refine j_iconst 2 dL_1045 rfl (by decide) ?_
      refine j_iadd dL_1046 rfl ?_
      refine j_sld dL_1047 rfl (vp6 (j := 2) hi (by decide) hL) ?_
      refine j_if_eq 1055 dL_1048 rfl (by decide) (fun _ => ?_) (fun h => absurd hz1 h)
      refine j_iconst 0 dL_1055 rfl (by decide) ?_
      refine j_cV (as := [.int 0, .int 0]) (rest := []) dL_1056 rfl vw_L_137 (hG 0 (16, 9) rfl) rfl ⟨Nat.le_of_ble_eq_true rfl, Nat.le_of_ble_eq_true rfl⟩ rfl rfl (fun _ _ => Nat.le_of_ble_eq_true rfl) (c_X11_sheet hG hP hc 0 0) ?_
      rintro _ μ1 ⟨_, rfl, rfl, c1, P1, i1⟩
      have m1 := i1.mI hm
      obtain ⟨v, w1⟩ := id m1.1
      refine j_aload_n dL_1059 rfl rfl ?_
      refine j_aload_nF dL_1060 rfl rfl ?_
      refine j_iload_n dL_1061 rfl rfl ?_
      refine j_iconst 1 dL_1062 rfl (by decide) ?_
      refine j_iadd dL_1063 rfl ?_
      refine j_sld dL_1064 rfl (vp6 (j := 1) hi (by decide) hL) ?_
      refine j_if_eq 1072 dL_1065 rfl (by decide) (fun _ => ?_) (fun h => absurd hz0 h)
      refine j_iconst 0 dL_1072 rfl (by decide) ?_
      refine j_aload_nF dL_1073 rfl rfl ?_
      refine j_iload_n dL_1074 rfl rfl ?_
      refine j_iconst 2 dL_1075 rfl (by decide) ?_
      refine j_iadd dL_1076 rfl ?_
      refine j_sld dL_1077 rfl (vp6 (j := 2) hi (by decide) hL) ?_
      refine j_if_eq 1085 dL_1078 rfl (by decide) (fun _ => ?_) (fun h => absurd hz1 h)
      refine j_iconst 0 dL_1085 rfl (by decide) ?_
      refine j_cV (as := [.int 0, .int 0]) (rest := [.int _]) dL_1086 rfl vw_L_141 (hM 112 (17, 80) rfl) rfl ⟨Nat.le_of_ble_eq_true rfl, Nat.le_of_ble_eq_true rfl⟩ rfl rfl (fun _ _ => Nat.le_of_ble_eq_true rfl) (c_X12_sheet hM (i1.nn hN) w1 0 0) ?_
      rintro _ μ2 ⟨_, rfl, rfl, q2⟩
      obtain ⟨m2, N2, l2⟩ := mI_q m1 q2 (i1.nn hN)
      have g2 := l2.G
      exact j_icmp_eq 1301 dL_1089 rfl (by decide) (fun _ => K B _ μ2 ⟨⟨hM, hG, hg⟩, ⟨t, d, g2.cJ c1⟩, m2, ok, (hb), ⟨g2.pp P1, N2⟩, ⟨g2.kw (i1.kw kc), g2.vK (i1.vK vk), g2.kwm (i1.kwm km)⟩, g2.cl (i1.cl cl (by omega))⟩ (by omega)) (fun h => absurd rfl h)
    · refine j_aload_n dL_1029 rfl rfl ?_
      refine j_aload_nF dL_1030 rfl rfl ?_
      refine j_iload_n dL_1031 rfl rfl ?_
      refine j_iconst 1 dL_1032 rfl (by decide) ?_
      refine j_iadd dL_1033 rfl ?_
      refine j_sld dL_1034 rfl (vp6 (j := 1) hi (by decide) hL) ?_
      refine j_if_eq 1042 dL_1035 rfl (by decide) (fun _ => ?_) (fun h => absurd hz0 h)
      refine j_iconst 0 dL_1042 rfl (by decide) ?_
      refine j_aload_nF dL_1043 rfl rfl ?_
      refine j_iload_n dL_1044 rfl rfl ?_
      refine j_iconst 2 dL_1045 rfl (by decide) ?_
      refine j_iadd dL_1046 rfl ?_
      refine j_sld dL_1047 rfl (vp6 (j := 2) hi (by decide) hL) ?_
      refine j_if_eq 1055 dL_1048 rfl (by decide) (fun h => absurd h hz1) (fun _ => ?_)
      refine j_iconst 1 dL_1051 rfl (by decide) ?_
      refine j_goto 1056 dL_1052 (by decide) ?_
      refine j_cV (as := [.int 0, .int 1]) (rest := []) dL_1056 rfl vw_L_137 (hG 0 (16, 9) rfl) rfl ⟨Nat.le_of_ble_eq_true rfl, Nat.le_of_ble_eq_true rfl⟩ rfl rfl (fun _ _ => Nat.le_of_ble_eq_true rfl) (c_X11_sheet hG hP hc 0 1) ?_
      rintro _ μ1 ⟨_, rfl, rfl, c1, P1, i1⟩
      have m1 := i1.mI hm
      obtain ⟨v, w1⟩ := id m1.1
      refine j_aload_n dL_1059 rfl rfl ?_
      refine j_aload_nF dL_1060 rfl rfl ?_
      refine j_iload_n dL_1061 rfl rfl ?_
      refine j_iconst 1 dL_1062 rfl (by decide) ?_
      refine j_iadd dL_1063 rfl ?_
      refine j_sld dL_1064 rfl (vp6 (j := 1) hi (by decide) hL) ?_
      refine j_if_eq 1072 dL_1065 rfl (by decide) (fun _ => ?_) (fun h => absurd hz0 h)
      refine j_iconst 0 dL_1072 rfl (by decide) ?_
      refine j_aload_nF dL_1073 rfl rfl ?_
      refine j_iload_n dL_1074 rfl rfl ?_
      refine j_iconst 2 dL_1075 rfl (by decide) ?_
      refine j_iadd dL_1076 rfl ?_
      refine j_sld dL_1077 rfl (vp6 (j := 2) hi (by decide) hL) ?_
      refine j_if_eq 1085 dL_1078 rfl (by decide) (fun h => absurd h hz1) (fun _ => ?_)
      refine j_iconst 1 dL_1081 rfl (by decide) ?_
      refine j_goto 1086 dL_1082 (by decide) ?_
      refine j_cV (as := [.int 0, .int 1]) (rest := [.int _]) dL_1086 rfl vw_L_141 (hM 112 (17, 80) rfl) rfl ⟨Nat.le_of_ble_eq_true rfl, Nat.le_of_ble_eq_true rfl⟩ rfl rfl (fun _ _ => Nat.le_of_ble_eq_true rfl) (c_X12_sheet hM (i1.nn hN) w1 0 1) ?_
      rintro _ μ2 ⟨_, rfl, rfl, q2⟩
      obtain ⟨m2, N2, l2⟩ := mI_q m1 q2 (i1.nn hN)
      have g2 := l2.G
      exact j_icmp_eq 1301 dL_1089 rfl (by decide) (fun _ => K B _ μ2 ⟨⟨hM, hG, hg⟩, ⟨t, d, g2.cJ c1⟩, m2, ok, (hb), ⟨g2.pp P1, N2⟩, ⟨g2.kw (i1.kw kc), g2.vK (i1.vK vk), g2.kwm (i1.kwm km)⟩, g2.cl (i1.cl cl (by omega))⟩ (by omega)) (fun h => absurd rfl h)
  · by_cases hz1 : xs ((nI i + 2).toNatClampNeg) = 0
    · refine j_aload_n dL_1029 rfl rfl ?_
      refine j_aload_nF dL_1030 rfl rfl ?_
      refine j_iload_n dL_1031 rfl rfl ?_
      refine j_iconst 1 dL_1032 rfl (by decide) ?_
      refine j_iadd dL_1033 rfl ?_
      refine j_sld dL_1034 rfl (vp6 (j := 1) hi (by decide) hL) ?_
      refine j_if_eq 1042 dL_1035 rfl (by decide) (fun h => absurd h hz0) (fun _ => ?_)
      refine j_iconst 1 dL_1038 rfl (by decide) ?_
      refine j_goto 1043 dL_1039 (by decide) ?_
      refine j_aload_nF dL_1043 rfl rfl ?_
      refine j_iload_n dL_1044 rfl rfl ?_
      refine j_iconst 2 dL_1045 rfl (by decide) ?_
      refine j_iadd dL_1046 rfl ?_
      refine j_sld dL_1047 rfl (vp6 (j := 2) hi (by decide) hL) ?_
      refine j_if_eq 1055 dL_1048 rfl (by decide) (fun _ => ?_) (fun h => absurd hz1 h)
      refine j_iconst 0 dL_1055 rfl (by decide) ?_
      refine j_cV (as := [.int 1, .int 0]) (rest := []) dL_1056 rfl vw_L_137 (hG 0 (16, 9) rfl) rfl ⟨Nat.le_of_ble_eq_true rfl, Nat.le_of_ble_eq_true rfl⟩ rfl rfl (fun _ _ => Nat.le_of_ble_eq_true rfl) (c_X11_sheet hG hP hc 1 0) ?_
      rintro _ μ1 ⟨_, rfl, rfl, c1, P1, i1⟩
      have m1 := i1.mI hm
      obtain ⟨v, w1⟩ := id m1.1
      refine j_aload_n dL_1059 rfl rfl ?_
      refine j_aload_nF dL_1060 rfl rfl ?_
      refine j_iload_n dL_1061 rfl rfl ?_
      refine j_iconst 1 dL_1062 rfl (by decide) ?_
      refine j_iadd dL_1063 rfl ?_
      refine j_sld dL_1064 rfl (vp6 (j := 1) hi (by decide) hL) ?_
      refine j_if_eq 1072 dL_1065 rfl (by decide) (fun h => absurd h hz0) (fun _ => ?_)
      refine j_iconst 1 dL_1068 rfl (by decide) ?_
      refine j_goto 1073 dL_1069 (by decide) ?_
      refine j_aload_nF dL_1073 rfl rfl ?_
      refine j_iload_n dL_1074 rfl rfl ?_
      refine j_iconst 2 dL_1075 rfl (by decide) ?_
      refine j_iadd dL_1076 rfl ?_
      refine j_sld dL_1077 rfl (vp6 (j := 2) hi (by decide) hL) ?_
      refine j_if_eq 1085 dL_1078 rfl (by decide) (fun _ => ?_) (fun h => absurd hz1 h)
      refine j_iconst 0 dL_1085 rfl (by decide) ?_
      refine j_cV (as := [.int 1, .int 0]) (rest := [.int _]) dL_1086 rfl vw_L_141 (hM 112 (17, 80) rfl) rfl ⟨Nat.le_of_ble_eq_true rfl, Nat.le_of_ble_eq_true rfl⟩ rfl rfl (fun _ _ => Nat.le_of_ble_eq_true rfl) (c_X12_sheet hM (i1.nn hN) w1 1 0) ?_
      rintro _ μ2 ⟨_, rfl, rfl, q2⟩
      obtain ⟨m2, N2, l2⟩ := mI_q m1 q2 (i1.nn hN)
      have g2 := l2.G
      exact j_icmp_eq 1301 dL_1089 rfl (by decide) (fun _ => K B _ μ2 ⟨⟨hM, hG, hg⟩, ⟨t, d, g2.cJ c1⟩, m2, ok, (hb), ⟨g2.pp P1, N2⟩, ⟨g2.kw (i1.kw kc), g2.vK (i1.vK vk), g2.kwm (i1.kwm km)⟩, g2.cl (i1.cl cl (by omega))⟩ (by omega)) (fun h => absurd rfl h)
    · refine j_aload_n dL_1029 rfl rfl ?_
      refine j_aload_nF dL_1030 rfl rfl ?_
      refine j_iload_n dL_1031 rfl rfl ?_
      refine j_iconst 1 dL_1032 rfl (by decide) ?_
      refine j_iadd dL_1033 rfl ?_
      refine j_sld dL_1034 rfl (vp6 (j := 1) hi (by decide) hL) ?_
      refine j_if_eq 1042 dL_1035 rfl (by decide) (fun h => absurd h hz0) (fun _ => ?_)
      refine j_iconst 1 dL_1038 rfl (by decide) ?_
      refine j_goto 1043 dL_1039 (by decide) ?_
      refine j_aload_nF dL_1043 rfl rfl ?_
      refine j_iload_n dL_1044 rfl rfl ?_
      refine j_iconst 2 dL_1045 rfl (by decide) ?_
      refine j_iadd dL_1046 rfl ?_
      refine j_sld dL_1047 rfl (vp6 (j := 2) hi (by decide) hL) ?_
      refine j_if_eq 1055 dL_1048 rfl (by decide) (fun h => absurd h hz1) (fun _ => ?_)
      refine j_iconst 1 dL_1051 rfl (by decide) ?_
      refine j_goto 1056 dL_1052 (by decide) ?_
      refine j_cV (as := [.int 1, .int 1]) (rest := []) dL_1056 rfl vw_L_137 (hG 0 (16, 9) rfl) rfl ⟨Nat.le_of_ble_eq_true rfl, Nat.le_of_ble_eq_true rfl⟩ rfl rfl (fun _ _ => Nat.le_of_ble_eq_true rfl) (c_X11_sheet hG hP hc 1 1) ?_
      rintro _ μ1 ⟨_, rfl, rfl, c1, P1, i1⟩
      have m1 := i1.mI hm
      obtain ⟨v, w1⟩ := id m1.1
      refine j_aload_n dL_1059 rfl rfl ?_
      refine j_aload_nF dL_1060 rfl rfl ?_
      refine j_iload_n dL_1061 rfl rfl ?_
      refine j_iconst 1 dL_1062 rfl (by decide) ?_
      refine j_iadd dL_1063 rfl ?_
      refine j_sld dL_1064 rfl (vp6 (j := 1) hi (by decide) hL) ?_
      refine j_if_eq 1072 dL_1065 rfl (by decide) (fun h => absurd h hz0) (fun _ => ?_)
      refine j_iconst 1 dL_1068 rfl (by decide) ?_
      refine j_goto 1073 dL_1069 (by decide) ?_
      refine j_aload_nF dL_1073 rfl rfl ?_
      refine j_iload_n dL_1074 rfl rfl ?_
      refine j_iconst 2 dL_1075 rfl (by decide) ?_
      refine j_iadd dL_1076 rfl ?_
      refine j_sld dL_1077 rfl (vp6 (j := 2) hi (by decide) hL) ?_
      refine j_if_eq 1085 dL_1078 rfl (by decide) (fun h => absurd h hz1) (fun _ => ?_)
      refine j_iconst 1 dL_1081 rfl (by decide) ?_
      refine j_goto 1086 dL_1082 (by decide) ?_
      refine j_cV (as := [.int 1, .int 1]) (rest := [.int _]) dL_1086 rfl vw_L_141 (hM 112 (17, 80) rfl) rfl ⟨Nat.le_of_ble_eq_true rfl, Nat.le_of_ble_eq_true rfl⟩ rfl rfl (fun _ _ => Nat.le_of_ble_eq_true rfl) (c_X12_sheet hM (i1.nn hN) w1 1 1) ?_
      rintro _ μ2 ⟨_, rfl, rfl, q2⟩
      obtain ⟨m2, N2, l2⟩ := mI_q m1 q2 (i1.nn hN)
      have g2 := l2.G
      exact j_icmp_eq 1301 dL_1089 rfl (by decide) (fun _ => K B _ μ2 ⟨⟨hM, hG, hg⟩, ⟨t, d, g2.cJ c1⟩, m2, ok, (hb), ⟨g2.pp P1, N2⟩, ⟨g2.kw (i1.kw kc), g2.vK (i1.vK vk), g2.kwm (i1.kwm km)⟩, g2.cl (i1.cl cl (by omega))⟩ (by omega)) (fun h => absurd rfl h)
theorem law_tell (hI : lwI G a B μ) (hB : B + 230 ≤ BB) (hi : i + 6 ≤ L) (hL : L ≤ 3072) (K : ∀ B' a' μ', lwI G a' B' μ' → B' ≤ B + 30 → J l mL (jZL L xs X) G k n 1301 [.float 0, .ref 0, .ref 112, .int (nI i)] [] μ') : J l mL (jZL L xs X) G k n 1094 [.float 0, .ref 0, .ref 112, .int (nI i)] [] μ := by
  obtain ⟨⟨hM, hG, hg⟩, ⟨t, d, hc⟩, hm, ok, hb, ⟨hP, hN⟩, ⟨kc, vk, km⟩, cl⟩ := hI
  by_cases hz0 : xs ((nI i + 3).toNatClampNeg) = 0
  · refine j_aload_n dL_1094 rfl rfl ?_
    refine j_aload_nF dL_1095 rfl rfl ?_
    refine j_iload_n dL_1096 rfl rfl ?_
    refine j_iconst 1 dL_1097 rfl (by decide) ?_
    refine j_iadd dL_1098 rfl ?_
    refine j_sld dL_1099 rfl (vp6 (j := 1) hi (by decide) hL) ?_
    refine j_aload_nF dL_1100 rfl rfl ?_
    refine j_iload_n dL_1101 rfl rfl ?_
    refine j_iconst 2 dL_1102 rfl (by decide) ?_
    refine j_iadd dL_1103 rfl ?_
    refine j_sld dL_1104 rfl (vp6 (j := 2) hi (by decide) hL) ?_
    refine j_aload_nF dL_1105 rfl rfl ?_
    refine j_iload_n dL_1106 rfl rfl ?_
    refine j_iconst 3 dL_1107 rfl (by decide) ?_
    refine j_iadd dL_1108 rfl ?_
    refine j_sld dL_1109 rfl (vp6 (j := 3) hi (by decide) hL) ?_
    refine j_if_eq 1117 dL_1110 rfl (by decide) (fun _ => ?_) (fun h => absurd hz0 h)
    refine j_iconst 0 dL_1117 rfl (by decide) ?_
    refine j_cV (as := [.int (xs ((nI i + 1).toNatClampNeg)), .int (xs ((nI i + 2).toNatClampNeg)), .int 0]) (rest := []) dL_1118 rfl vw_L_142 (hG 0 (16, 9) rfl) rfl ⟨Nat.le_of_ble_eq_true rfl, Nat.le_of_ble_eq_true rfl⟩ rfl rfl (fun _ _ => Nat.le_of_ble_eq_true rfl) (c_X11_tell hG hP hc (xs ((nI i + 1).toNatClampNeg)) (xs ((nI i + 2).toNatClampNeg)) (b := 0) (by decide)) ?_
    rintro _ μ1 ⟨_, rfl, rfl, c1, P1, i1⟩
    have m1 := i1.mI hm
    refine j_aload_n dL_1121 rfl rfl ?_
    refine j_aload_nF dL_1122 rfl rfl ?_
    refine j_iload_n dL_1123 rfl rfl ?_
    refine j_iconst 1 dL_1124 rfl (by decide) ?_
    refine j_iadd dL_1125 rfl ?_
    refine j_sld dL_1126 rfl (vp6 (j := 1) hi (by decide) hL) ?_
    refine j_aload_nF dL_1127 rfl rfl ?_
    refine j_iload_n dL_1128 rfl rfl ?_
    refine j_iconst 2 dL_1129 rfl (by decide) ?_
    refine j_iadd dL_1130 rfl ?_
    refine j_sld dL_1131 rfl (vp6 (j := 2) hi (by decide) hL) ?_
    refine j_aload_nF dL_1132 rfl rfl ?_
    refine j_iload_n dL_1133 rfl rfl ?_
    refine j_iconst 3 dL_1134 rfl (by decide) ?_
    refine j_iadd dL_1135 rfl ?_
    refine j_sld dL_1136 rfl (vp6 (j := 3) hi (by decide) hL) ?_
    refine j_if_eq 1144 dL_1137 rfl (by decide) (fun _ => ?_) (fun h => absurd hz0 h)
    refine j_iconst 0 dL_1144 rfl (by decide) ?_
    refine j_cV (as := [.int (xs ((nI i + 1).toNatClampNeg)), .int (xs ((nI i + 2).toNatClampNeg)), .int 0]) (rest := [.int _]) dL_1145 rfl vw_L_146 (hM 112 (17, 80) rfl) rfl ⟨Nat.le_of_ble_eq_true rfl, Nat.le_of_ble_eq_true rfl⟩ rfl rfl (fun _ _ => Nat.le_of_ble_eq_true rfl) (c_X12_tell hM (i1.nn hN) m1 (xs ((nI i + 1).toNatClampNeg)) (xs ((nI i + 2).toNatClampNeg)) (b := 0) (by decide)) ?_
    rintro _ μ2 ⟨_, rfl, rfl, m2, N2, l2⟩
    have g2 := l2.G
    exact j_icmp_eq 1301 dL_1148 rfl (by decide) (fun _ => K B _ μ2 ⟨⟨hM, hG, hg⟩, ⟨t, d, g2.cJ c1⟩, m2, (aOK_tell ok hc.1.1.2.2.1.2.2.2.2.2.1.2.1 (by decide)), byO_tell hb, ⟨g2.pp P1, N2⟩, ⟨g2.kw (i1.kw kc), g2.vK (i1.vK vk), g2.kwm (i1.kwm km)⟩, g2.cl (i1.cl cl (by omega))⟩ (by omega)) (fun h => absurd rfl h)
  · refine j_aload_n dL_1094 rfl rfl ?_
    refine j_aload_nF dL_1095 rfl rfl ?_
    refine j_iload_n dL_1096 rfl rfl ?_
    refine j_iconst 1 dL_1097 rfl (by decide) ?_
    refine j_iadd dL_1098 rfl ?_
    refine j_sld dL_1099 rfl (vp6 (j := 1) hi (by decide) hL) ?_
    refine j_aload_nF dL_1100 rfl rfl ?_
    refine j_iload_n dL_1101 rfl rfl ?_
    refine j_iconst 2 dL_1102 rfl (by decide) ?_
    refine j_iadd dL_1103 rfl ?_
    refine j_sld dL_1104 rfl (vp6 (j := 2) hi (by decide) hL) ?_
    refine j_aload_nF dL_1105 rfl rfl ?_
    refine j_iload_n dL_1106 rfl rfl ?_
    refine j_iconst 3 dL_1107 rfl (by decide) ?_
    refine j_iadd dL_1108 rfl ?_
    refine j_sld dL_1109 rfl (vp6 (j := 3) hi (by decide) hL) ?_
    refine j_if_eq 1117 dL_1110 rfl (by decide) (fun h => absurd h hz0) (fun _ => ?_)
    refine j_iconst 1 dL_1113 rfl (by decide) ?_
    refine j_goto 1118 dL_1114 (by decide) ?_
    refine j_cV (as := [.int (xs ((nI i + 1).toNatClampNeg)), .int (xs ((nI i + 2).toNatClampNeg)), .int 1]) (rest := []) dL_1118 rfl vw_L_142 (hG 0 (16, 9) rfl) rfl ⟨Nat.le_of_ble_eq_true rfl, Nat.le_of_ble_eq_true rfl⟩ rfl rfl (fun _ _ => Nat.le_of_ble_eq_true rfl) (c_X11_tell hG hP hc (xs ((nI i + 1).toNatClampNeg)) (xs ((nI i + 2).toNatClampNeg)) (b := 1) (by decide)) ?_
    rintro _ μ1 ⟨_, rfl, rfl, c1, P1, i1⟩
    have m1 := i1.mI hm
    refine j_aload_n dL_1121 rfl rfl ?_
    refine j_aload_nF dL_1122 rfl rfl ?_
    refine j_iload_n dL_1123 rfl rfl ?_
    refine j_iconst 1 dL_1124 rfl (by decide) ?_
    refine j_iadd dL_1125 rfl ?_
    refine j_sld dL_1126 rfl (vp6 (j := 1) hi (by decide) hL) ?_
    refine j_aload_nF dL_1127 rfl rfl ?_
    refine j_iload_n dL_1128 rfl rfl ?_
    refine j_iconst 2 dL_1129 rfl (by decide) ?_
    refine j_iadd dL_1130 rfl ?_
    refine j_sld dL_1131 rfl (vp6 (j := 2) hi (by decide) hL) ?_
    refine j_aload_nF dL_1132 rfl rfl ?_
    refine j_iload_n dL_1133 rfl rfl ?_
    refine j_iconst 3 dL_1134 rfl (by decide) ?_
    refine j_iadd dL_1135 rfl ?_
    refine j_sld dL_1136 rfl (vp6 (j := 3) hi (by decide) hL) ?_
    refine j_if_eq 1144 dL_1137 rfl (by decide) (fun h => absurd h hz0) (fun _ => ?_)
    refine j_iconst 1 dL_1140 rfl (by decide) ?_
    refine j_goto 1145 dL_1141 (by decide) ?_
    refine j_cV (as := [.int (xs ((nI i + 1).toNatClampNeg)), .int (xs ((nI i + 2).toNatClampNeg)), .int 1]) (rest := [.int _]) dL_1145 rfl vw_L_146 (hM 112 (17, 80) rfl) rfl ⟨Nat.le_of_ble_eq_true rfl, Nat.le_of_ble_eq_true rfl⟩ rfl rfl (fun _ _ => Nat.le_of_ble_eq_true rfl) (c_X12_tell hM (i1.nn hN) m1 (xs ((nI i + 1).toNatClampNeg)) (xs ((nI i + 2).toNatClampNeg)) (b := 1) (by decide)) ?_
    rintro _ μ2 ⟨_, rfl, rfl, m2, N2, l2⟩
    have g2 := l2.G
    exact j_icmp_eq 1301 dL_1148 rfl (by decide) (fun _ => K B _ μ2 ⟨⟨hM, hG, hg⟩, ⟨t, d, g2.cJ c1⟩, m2, (aOK_tell ok hc.1.1.2.2.1.2.2.2.2.2.1.2.1 (by decide)), byO_tell hb, ⟨g2.pp P1, N2⟩, ⟨g2.kw (i1.kw kc), g2.vK (i1.vK vk), g2.kwm (i1.kwm km)⟩, g2.cl (i1.cl cl (by omega))⟩ (by omega)) (fun h => absurd rfl h)
theorem law_forget (hI : lwI G a B μ) (hB : B + 230 ≤ BB) (hi : i + 6 ≤ L) (hL : L ≤ 3072) (K : ∀ B' a' μ', lwI G a' B' μ' → B' ≤ B + 30 → J l mL (jZL L xs X) G k n 1301 [.float 0, .ref 0, .ref 112, .int (nI i)] [] μ') : J l mL (jZL L xs X) G k n 1153 [.float 0, .ref 0, .ref 112, .int (nI i)] [] μ := by
  obtain ⟨⟨hM, hG, hg⟩, ⟨t, d, hc⟩, hm, ok, hb, ⟨hP, hN⟩, ⟨kc, vk, km⟩, cl⟩ := hI
  refine j_aload_n dL_1153 rfl rfl ?_
  refine j_cV (as := []) (rest := []) dL_1154 rfl vw_L_147 (hG 0 (16, 9) rfl) rfl ⟨Nat.le_of_ble_eq_true rfl, Nat.le_of_ble_eq_true rfl⟩ rfl rfl (fun _ _ => Nat.le_of_ble_eq_true rfl) (c_X11_forget hG hP hc ) ?_
  rintro _ μ1 ⟨_, rfl, rfl, c1, P1, i1⟩
  have m1 := i1.mI hm
  refine j_aload_n dL_1157 rfl rfl ?_
  refine j_cV (as := []) (rest := [.int _]) dL_1158 rfl vw_L_150 (hM 112 (17, 80) rfl) rfl ⟨Nat.le_of_ble_eq_true rfl, Nat.le_of_ble_eq_true rfl⟩ rfl rfl (fun _ _ => Nat.le_of_ble_eq_true rfl) (c_X12_forget hM (i1.nn hN) m1 ) ?_
  rintro _ μ2 ⟨_, rfl, rfl, m2, N2, l2⟩
  have g2 := l2.G
  exact j_icmp_eq 1301 dL_1161 rfl (by decide) (fun _ => K B _ μ2 ⟨⟨hM, hG, hg⟩, ⟨t, d, g2.cJ c1⟩, m2, (aOK_forget ok), (hb), ⟨g2.pp P1, N2⟩, ⟨g2.kw (i1.kw kc), g2.vK (i1.vK vk), g2.kwm (i1.kwm km)⟩, g2.cl (i1.cl cl (by omega))⟩ (by omega)) (fun h => absurd rfl h)
theorem law_hold (hI : lwI G a B μ) (hB : B + 230 ≤ BB) (hi : i + 6 ≤ L) (hL : L ≤ 3072) (K : ∀ B' a' μ', lwI G a' B' μ' → B' ≤ B + 30 → J l mL (jZL L xs X) G k n 1301 [.float 0, .ref 0, .ref 112, .int (nI i)] [] μ') : J l mL (jZL L xs X) G k n 1232 [.float 0, .ref 0, .ref 112, .int (nI i)] [] μ := by
  obtain ⟨⟨hM, hG, hg⟩, ⟨t, d, hc⟩, hm, ok, hb, ⟨hP, hN⟩, ⟨kc, vk, km⟩, cl⟩ := hI
  refine j_aload_n dL_1232 rfl rfl ?_
  refine j_aload_nF dL_1233 rfl rfl ?_
  refine j_iload_n dL_1234 rfl rfl ?_
  refine j_iconst 1 dL_1235 rfl (by decide) ?_
  refine j_iadd dL_1236 rfl ?_
  refine j_sld dL_1237 rfl (vp6 (j := 1) hi (by decide) hL) ?_
  refine j_cV (as := [.int (xs ((nI i + 1).toNatClampNeg))]) (rest := []) dL_1238 rfl vw_L_159 (hG 0 (16, 9) rfl) rfl ⟨Nat.le_of_ble_eq_true rfl, Nat.le_of_ble_eq_true rfl⟩ rfl rfl (fun _ _ => Nat.le_of_ble_eq_true rfl) (c_X11_hold hG hP hc ok (xs ((nI i + 1).toNatClampNeg))) ?_
  rintro _ μ1 ⟨_, rfl, rfl, c1, P1, i1⟩
  have m1 := i1.mI hm
  refine j_aload_n dL_1241 rfl rfl ?_
  refine j_aload_nF dL_1242 rfl rfl ?_
  refine j_iload_n dL_1243 rfl rfl ?_
  refine j_iconst 1 dL_1244 rfl (by decide) ?_
  refine j_iadd dL_1245 rfl ?_
  refine j_sld dL_1246 rfl (vp6 (j := 1) hi (by decide) hL) ?_
  refine j_cV (as := [.int (xs ((nI i + 1).toNatClampNeg))]) (rest := [.int _]) dL_1247 rfl vw_L_162 (hM 112 (17, 80) rfl) rfl ⟨Nat.le_of_ble_eq_true rfl, Nat.le_of_ble_eq_true rfl⟩ rfl rfl (fun _ _ => Nat.le_of_ble_eq_true rfl) (c_X12_hold hM (i1.nn hN) m1 (xs ((nI i + 1).toNatClampNeg))) ?_
  rintro _ μ2 ⟨_, rfl, rfl, m2, N2, l2⟩
  have g2 := l2.G
  exact j_icmp_eq 1301 dL_1250 rfl (by decide) (fun _ => K B _ μ2 ⟨⟨hM, hG, hg⟩, ⟨t, d, g2.cJ c1⟩, m2, (aOK_hold ok), byO_hold hb, ⟨g2.pp P1, N2⟩, ⟨g2.kw (i1.kw kc), g2.vK (i1.vK vk), g2.kwm (i1.kwm km)⟩, g2.cl (i1.cl cl (by omega))⟩ (by omega)) (fun h => absurd rfl h)
theorem law_restore (hI : lwI G a B μ) (hB : B + 230 ≤ BB) (hi : i + 6 ≤ L) (hL : L ≤ 3072) (K : ∀ B' a' μ', lwI G a' B' μ' → B' ≤ B + 30 → J l mL (jZL L xs X) G k n 1301 [.float 0, .ref 0, .ref 112, .int (nI i)] [] μ') : J l mL (jZL L xs X) G k n 1255 [.float 0, .ref 0, .ref 112, .int (nI i)] [] μ := by
  obtain ⟨⟨hM, hG, hg⟩, ⟨t, d, hc⟩, hm, ok, hb, ⟨hP, hN⟩, ⟨kc, vk, km⟩, cl⟩ := hI
  refine j_aload_n dL_1255 rfl rfl ?_
  refine j_aload_nF dL_1256 rfl rfl ?_
  refine j_iload_n dL_1257 rfl rfl ?_
  refine j_iconst 1 dL_1258 rfl (by decide) ?_
  refine j_iadd dL_1259 rfl ?_
  refine j_sld dL_1260 rfl (vp6 (j := 1) hi (by decide) hL) ?_
  refine j_cV (as := [.int (xs ((nI i + 1).toNatClampNeg))]) (rest := []) dL_1261 rfl vw_L_163 (hG 0 (16, 9) rfl) rfl ⟨Nat.le_of_ble_eq_true rfl, Nat.le_of_ble_eq_true rfl⟩ rfl rfl (fun _ _ => Nat.le_of_ble_eq_true rfl) (c_X11_restore hG hP hc ok (xs ((nI i + 1).toNatClampNeg))) ?_
  rintro _ μ1 ⟨_, rfl, rfl, c1, P1, i1⟩
  have m1 := i1.mI hm
  refine j_aload_n dL_1264 rfl rfl ?_
  refine j_aload_nF dL_1265 rfl rfl ?_
  refine j_iload_n dL_1266 rfl rfl ?_
  refine j_iconst 1 dL_1267 rfl (by decide) ?_
  refine j_iadd dL_1268 rfl ?_
  refine j_sld dL_1269 rfl (vp6 (j := 1) hi (by decide) hL) ?_
  refine j_cV (as := [.int (xs ((nI i + 1).toNatClampNeg))]) (rest := [.int _]) dL_1270 rfl vw_L_166 (hM 112 (17, 80) rfl) rfl ⟨Nat.le_of_ble_eq_true rfl, Nat.le_of_ble_eq_true rfl⟩ rfl rfl (fun _ _ => Nat.le_of_ble_eq_true rfl) (c_X12_restore hM (i1.nn hN) m1 ok (xs ((nI i + 1).toNatClampNeg))) ?_
  rintro _ μ2 ⟨_, rfl, rfl, m2, N2, l2⟩
  have g2 := l2.G
  exact j_icmp_eq 1301 dL_1273 rfl (by decide) (fun _ => K B _ μ2 ⟨⟨hM, hG, hg⟩, ⟨t, d, g2.cJ c1⟩, m2, (aOK_rest ok), byO_rest hb, ⟨g2.pp P1, N2⟩, ⟨g2.kw (i1.kw kc), g2.vK (i1.vK vk), g2.kwm (i1.kwm km)⟩, g2.cl (i1.cl cl (by omega))⟩ (by omega)) (fun h => absurd rfl h)
theorem law_count (hI : lwI G a B μ) (hB : B + 230 ≤ BB) (hi : i + 6 ≤ L) (hL : L ≤ 3072) (K : ∀ B' a' μ', lwI G a' B' μ' → B' ≤ B + 30 → J l mL (jZL L xs X) G k n 1301 [.float 0, .ref 0, .ref 112, .int (nI i)] [] μ') : J l mL (jZL L xs X) G k n 1278 [.float 0, .ref 0, .ref 112, .int (nI i)] [] μ := by
  obtain ⟨⟨hM, hG, hg⟩, ⟨t, d, hc⟩, hm, ok, hb, ⟨hP, hN⟩, ⟨kc, vk, km⟩, cl⟩ := hI
  refine j_aload_n dL_1278 rfl rfl ?_
  refine j_aload_nF dL_1279 rfl rfl ?_
  refine j_iload_n dL_1280 rfl rfl ?_
  refine j_iconst 1 dL_1281 rfl (by decide) ?_
  refine j_iadd dL_1282 rfl ?_
  refine j_sld dL_1283 rfl (vp6 (j := 1) hi (by decide) hL) ?_
  refine j_cV (as := [.int (xs ((nI i + 1).toNatClampNeg))]) (rest := []) dL_1284 rfl vw_L_167 (hG 0 (16, 9) rfl) rfl ⟨Nat.le_of_ble_eq_true rfl, Nat.le_of_ble_eq_true rfl⟩ rfl rfl (fun _ _ => Nat.le_of_ble_eq_true rfl) (c_X11_count hG hP hc (xs ((nI i + 1).toNatClampNeg))) ?_
  rintro _ μ1 ⟨_, rfl, rfl, c1, P1, i1⟩
  have m1 := i1.mI hm
  refine j_aload_n dL_1287 rfl rfl ?_
  refine j_aload_nF dL_1288 rfl rfl ?_
  refine j_iload_n dL_1289 rfl rfl ?_
  refine j_iconst 1 dL_1290 rfl (by decide) ?_
  refine j_iadd dL_1291 rfl ?_
  refine j_sld dL_1292 rfl (vp6 (j := 1) hi (by decide) hL) ?_
  refine j_cV (as := [.int (xs ((nI i + 1).toNatClampNeg))]) (rest := [.int _]) dL_1293 rfl vw_L_170 (hM 112 (17, 80) rfl) rfl ⟨Nat.le_of_ble_eq_true rfl, Nat.le_of_ble_eq_true rfl⟩ rfl rfl (fun _ _ => Nat.le_of_ble_eq_true rfl) (c_X12_count hM (i1.nn hN) m1 (xs ((nI i + 1).toNatClampNeg))) ?_
  rintro _ μ2 ⟨_, rfl, rfl, m2, N2, l2⟩
  have g2 := l2.G
  exact j_icmp_eq 1301 dL_1296 rfl (by decide) (fun _ => K B _ μ2 ⟨⟨hM, hG, hg⟩, ⟨t, d, g2.cJ c1⟩, m2, (ok), (hb), ⟨g2.pp P1, N2⟩, ⟨g2.kw (i1.kw kc), g2.vK (i1.vK vk), g2.kwm (i1.kwm km)⟩, g2.cl (i1.cl cl (by omega))⟩ (by omega)) (fun h => absurd rfl h)
end LawS
