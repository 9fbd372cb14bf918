theorem lc_part {q : QT} {X : XT} {b L i : Nat} {xs : Nat → Int32} {Sx Sm : St} {F : Nat} {a1 a2 a3 a4 : Int32} {Sx1 : St} {Sm1 : St} {v : Int32} (C : LOk q X b L xs) (hi : i + 6 ≤ L) (hL : L ≤ 3072) (e1 : xs (nI i + 1).toNatClampNeg = a1) (e2 : xs (nI i + 2).toNatClampNeg = a2) (e3 : xs (nI i + 3).toNatClampNeg = a3) (e4 : xs (nI i + 4).toNatClampNeg = a4) (hX : fX6_part Sx a1 a2 a3 a4 = some (Sx1, v)) (hM : fX7_part Sm a1 a2 a3 a4 = some (Sm1, v)) (K : LW q X Sx1 Sm1 1382 [(0, .ref b), (1, rf (qX q) 0), (2, rf (qM q) 0), (3, .int (nI i))] []) : LW q X Sx Sm 212 [(0, .ref b), (1, rf (qX q) 0), (2, rf (qM q) 0), (3, .int (nI i))] [] := by
  refine l_aload C dL_law_212 rfl 1 rfl ?_
  refine l_aload C dL_law_213 rfl 0 rfl ?_
  refine l_iload C dL_law_214 rfl 3 rfl ?_
  refine l_iconst (v := 1) C dL_law_215 (by decide) ?_
  refine l_iadd C dL_law_216 ?_
  refine l_sld C (vin (k := 1) hi hL (by decide) (by decide)) e1 dL_law_217 ?_
  refine l_aload C dL_law_218 rfl 0 rfl ?_
  refine l_iload C dL_law_219 rfl 3 rfl ?_
  refine l_iconst (v := 2) C dL_law_220 (by decide) ?_
  refine l_iadd C dL_law_221 ?_
  refine l_sld C (vin (k := 2) hi hL (by decide) (by decide)) e2 dL_law_222 ?_
  refine l_aload C dL_law_223 rfl 0 rfl ?_
  refine l_iload C dL_law_224 rfl 3 rfl ?_
  refine l_iconst (v := 3) C dL_law_225 (by decide) ?_
  refine l_iadd C dL_law_226 ?_
  refine l_sld C (vin (k := 3) hi hL (by decide) (by decide)) e3 dL_law_227 ?_
  refine l_aload C dL_law_228 rfl 0 rfl ?_
  refine l_iload C dL_law_229 rfl 3 rfl ?_
  refine l_iconst (v := 4) C dL_law_230 (by decide) ?_
  refine l_iadd C dL_law_231 ?_
  refine l_sld C (vin (k := 4) hi hL (by decide) (by decide)) e4 dL_law_232 ?_
  refine l_X C dL_law_233 (mX6_part hX) lnL_13 mvX6_part rfl ⟨(Nat.le_of_ble_eq_true rfl), (Nat.le_of_ble_eq_true rfl)⟩ [] rfl (Nat.le_of_ble_eq_true rfl) ?_
  refine l_aload C dL_law_236 rfl 2 rfl ?_
  refine l_aload C dL_law_237 rfl 0 rfl ?_
  refine l_iload C dL_law_238 rfl 3 rfl ?_
  refine l_iconst (v := 1) C dL_law_239 (by decide) ?_
  refine l_iadd C dL_law_240 ?_
  refine l_sld C (vin (k := 1) hi hL (by decide) (by decide)) e1 dL_law_241 ?_
  refine l_aload C dL_law_242 rfl 0 rfl ?_
  refine l_iload C dL_law_243 rfl 3 rfl ?_
  refine l_iconst (v := 2) C dL_law_244 (by decide) ?_
  refine l_iadd C dL_law_245 ?_
  refine l_sld C (vin (k := 2) hi hL (by decide) (by decide)) e2 dL_law_246 ?_
  refine l_aload C dL_law_247 rfl 0 rfl ?_
  refine l_iload C dL_law_248 rfl 3 rfl ?_
  refine l_iconst (v := 3) C dL_law_249 (by decide) ?_
  refine l_iadd C dL_law_250 ?_
  refine l_sld C (vin (k := 3) hi hL (by decide) (by decide)) e3 dL_law_251 ?_
  refine l_aload C dL_law_252 rfl 0 rfl ?_
  refine l_iload C dL_law_253 rfl 3 rfl ?_
  refine l_iconst (v := 4) C dL_law_254 (by decide) ?_
  refine l_iadd C dL_law_255 ?_
  refine l_sld C (vin (k := 4) hi hL (by decide) (by decide)) e4 dL_law_256 ?_
  refine l_M C dL_law_257 (mX7_part hM) lnL_17 mvX7_part rfl ⟨(Nat.le_of_ble_eq_true rfl), (Nat.le_of_ble_eq_true rfl)⟩ [.int v] rfl (Nat.le_of_ble_eq_true rfl) ?_
  refine l_same C 1382 dL_law_260 (by decide) ?_
  exact K
theorem lc_of {q : QT} {X : XT} {b L i : Nat} {xs : Nat → Int32} {Sx Sm : St} {F : Nat} {a1 a2 : Int32} {Sx1 : St} {Sm1 : St} {v : Int32} (C : LOk q X b L xs) (hi : i + 6 ≤ L) (hL : L ≤ 3072) (e1 : xs (nI i + 1).toNatClampNeg = a1) (e2 : xs (nI i + 2).toNatClampNeg = a2) (hX : fX6_of Sx a1 a2 = some (Sx1, v)) (hM : fX7_of Sm a1 a2 = some (Sm1, v)) (K : LW q X Sx1 Sm1 1382 [(0, .ref b), (1, rf (qX q) 0), (2, rf (qM q) 0), (3, .int (nI i))] []) : LW q X Sx Sm 265 [(0, .ref b), (1, rf (qX q) 0), (2, rf (qM q) 0), (3, .int (nI i))] [] := by
  refine l_aload C dL_law_265 rfl 1 rfl ?_
  refine l_aload C dL_law_266 rfl 0 rfl ?_
  refine l_iload C dL_law_267 rfl 3 rfl ?_
  refine l_iconst (v := 1) C dL_law_268 (by decide) ?_
  refine l_iadd C dL_law_269 ?_
  refine l_sld C (vin (k := 1) hi hL (by decide) (by decide)) e1 dL_law_270 ?_
  refine l_aload C dL_law_271 rfl 0 rfl ?_
  refine l_iload C dL_law_272 rfl 3 rfl ?_
  refine l_iconst (v := 2) C dL_law_273 (by decide) ?_
  refine l_iadd C dL_law_274 ?_
  refine l_sld C (vin (k := 2) hi hL (by decide) (by decide)) e2 dL_law_275 ?_
  refine l_X C dL_law_276 (mX6_of hX) lnL_18 mvX6_of rfl ⟨(Nat.le_of_ble_eq_true rfl), (Nat.le_of_ble_eq_true rfl)⟩ [] rfl (Nat.le_of_ble_eq_true rfl) ?_
  refine l_aload C dL_law_279 rfl 2 rfl ?_
  refine l_aload C dL_law_280 rfl 0 rfl ?_
  refine l_iload C dL_law_281 rfl 3 rfl ?_
  refine l_iconst (v := 1) C dL_law_282 (by decide) ?_
  refine l_iadd C dL_law_283 ?_
  refine l_sld C (vin (k := 1) hi hL (by decide) (by decide)) e1 dL_law_284 ?_
  refine l_aload C dL_law_285 rfl 0 rfl ?_
  refine l_iload C dL_law_286 rfl 3 rfl ?_
  refine l_iconst (v := 2) C dL_law_287 (by decide) ?_
  refine l_iadd C dL_law_288 ?_
  refine l_sld C (vin (k := 2) hi hL (by decide) (by decide)) e2 dL_law_289 ?_
  refine l_M C dL_law_290 (mX7_of hM) lnL_22 mvX7_of rfl ⟨(Nat.le_of_ble_eq_true rfl), (Nat.le_of_ble_eq_true rfl)⟩ [.int v] rfl (Nat.le_of_ble_eq_true rfl) ?_
  refine l_same C 1382 dL_law_293 (by decide) ?_
  exact K
theorem lc_set {q : QT} {X : XT} {b L i : Nat} {xs : Nat → Int32} {Sx Sm : St} {F : Nat} {a1 a2 a3 : Int32} {Sx1 : St} {Sm1 : St} {v : Int32} (C : LOk q X b L xs) (hi : i + 6 ≤ L) (hL : L ≤ 3072) (e1 : xs (nI i + 1).toNatClampNeg = a1) (e2 : xs (nI i + 2).toNatClampNeg = a2) (e3 : xs (nI i + 3).toNatClampNeg = a3) (hX : fX6_set Sx a1 a2 a3 = some (Sx1, v)) (hM : fX7_set Sm a1 a2 a3 = some (Sm1, v)) (K : LW q X Sx1 Sm1 1382 [(0, .ref b), (1, rf (qX q) 0), (2, rf (qM q) 0), (3, .int (nI i))] []) : LW q X Sx Sm 298 [(0, .ref b), (1, rf (qX q) 0), (2, rf (qM q) 0), (3, .int (nI i))] [] := by
  refine l_aload C dL_law_298 rfl 1 rfl ?_
  refine l_aload C dL_law_299 rfl 0 rfl ?_
  refine l_iload C dL_law_300 rfl 3 rfl ?_
  refine l_iconst (v := 1) C dL_law_301 (by decide) ?_
  refine l_iadd C dL_law_302 ?_
  refine l_sld C (vin (k := 1) hi hL (by decide) (by decide)) e1 dL_law_303 ?_
  refine l_aload C dL_law_304 rfl 0 rfl ?_
  refine l_iload C dL_law_305 rfl 3 rfl ?_
  refine l_iconst (v := 2) C dL_law_306 (by decide) ?_
  refine l_iadd C dL_law_307 ?_
  refine l_sld C (vin (k := 2) hi hL (by decide) (by decide)) e2 dL_law_308 ?_
  refine l_aload C dL_law_309 rfl 0 rfl ?_
  refine l_iload C dL_law_310 rfl 3 rfl ?_
  refine l_iconst (v := 3) C dL_law_311 (by decide) ?_
  refine l_iadd C dL_law_312 ?_
  refine l_sld C (vin (k := 3) hi hL (by decide) (by decide)) e3 dL_law_313 ?_
  refine l_X C dL_law_314 (mX6_set hX) lnL_23 mvX6_set rfl ⟨(Nat.le_of_ble_eq_true rfl), (Nat.le_of_ble_eq_true rfl)⟩ [] rfl (Nat.le_of_ble_eq_true rfl) ?_
  refine l_aload C dL_law_317 rfl 2 rfl ?_
  refine l_aload C dL_law_318 rfl 0 rfl ?_
  refine l_iload C dL_law_319 rfl 3 rfl ?_
  refine l_iconst (v := 1) C dL_law_320 (by decide) ?_
  refine l_iadd C dL_law_321 ?_
  refine l_sld C (vin (k := 1) hi hL (by decide) (by decide)) e1 dL_law_322 ?_
  refine l_aload C dL_law_323 rfl 0 rfl ?_
  refine l_iload C dL_law_324 rfl 3 rfl ?_
  refine l_iconst (v := 2) C dL_law_325 (by decide) ?_
  refine l_iadd C dL_law_326 ?_
  refine l_sld C (vin (k := 2) hi hL (by decide) (by decide)) e2 dL_law_327 ?_
  refine l_aload C dL_law_328 rfl 0 rfl ?_
  refine l_iload C dL_law_329 rfl 3 rfl ?_
  refine l_iconst (v := 3) C dL_law_330 (by decide) ?_
  refine l_iadd C dL_law_331 ?_
  refine l_sld C (vin (k := 3) hi hL (by decide) (by decide)) e3 dL_law_332 ?_
  refine l_M C dL_law_333 (mX7_set hM) lnL_27 mvX7_set rfl ⟨(Nat.le_of_ble_eq_true rfl), (Nat.le_of_ble_eq_true rfl)⟩ [.int v] rfl (Nat.le_of_ble_eq_true rfl) ?_
  refine l_same C 1382 dL_law_336 (by decide) ?_
  exact K
theorem lc_want {q : QT} {X : XT} {b L i : Nat} {xs : Nat → Int32} {Sx Sm : St} {F : Nat} {a1 a2 : Int32} {z : Int32} {Sx1 : St} {Sm1 : St} {v : Int32} (C : LOk q X b L xs) (hi : i + 6 ≤ L) (hL : L ≤ 3072) (e1 : xs (nI i + 1).toNatClampNeg = a1) (e2 : xs (nI i + 2).toNatClampNeg = a2) (hz : z = if a2 = 0 then 0 else 1) (hX : fX6_want Sx a1 z = some (Sx1, v)) (hM : fX7_want Sm a1 z = some (Sm1, v)) (K : LW q X Sx1 Sm1 1382 [(0, .ref b), (1, rf (qX q) 0), (2, rf (qM q) 0), (3, .int (nI i))] []) : LW q X Sx Sm 341 [(0, .ref b), (1, rf (qX q) 0), (2, rf (qM q) 0), (3, .int (nI i))] [] := by
  by_cases hz0 : a2 = 0
  · rw [if_pos hz0] at hz
    subst hz
    refine l_aload C dL_law_341 rfl 1 rfl ?_
    refine l_aload C dL_law_342 rfl 0 rfl ?_
    refine l_iload C dL_law_343 rfl 3 rfl ?_
    refine l_iconst (v := 1) C dL_law_344 (by decide) ?_
    refine l_iadd C dL_law_345 ?_
    refine l_sld C (vin (k := 1) hi hL (by decide) (by decide)) e1 dL_law_346 ?_
    refine l_aload C dL_law_347 rfl 0 rfl ?_
    refine l_iload C dL_law_348 rfl 3 rfl ?_
    refine l_iconst (v := 2) C dL_law_349 (by decide) ?_
    refine l_iadd C dL_law_350 ?_
    refine l_sld C (vin (k := 2) hi hL (by decide) (by decide)) e2 dL_law_351 ?_
    refine l_eqT C 359 dL_law_352 (by decide) hz0 ?_
    refine l_iconst (v := 0) C dL_law_359 (by decide) ?_
    refine l_X C dL_law_360 (mX6_want hX) lnL_28 mvX6_want rfl ⟨(Nat.le_of_ble_eq_true rfl), (Nat.le_of_ble_eq_true rfl)⟩ [] rfl (Nat.le_of_ble_eq_true rfl) ?_
    refine l_aload C dL_law_363 rfl 2 rfl ?_
    refine l_aload C dL_law_364 rfl 0 rfl ?_
    refine l_iload C dL_law_365 rfl 3 rfl ?_
    refine l_iconst (v := 1) C dL_law_366 (by decide) ?_
    refine l_iadd C dL_law_367 ?_
    refine l_sld C (vin (k := 1) hi hL (by decide) (by decide)) e1 dL_law_368 ?_
    refine l_aload C dL_law_369 rfl 0 rfl ?_
    refine l_iload C dL_law_370 rfl 3 rfl ?_
    refine l_iconst (v := 2) C dL_law_371 (by decide) ?_
    refine l_iadd C dL_law_372 ?_
    refine l_sld C (vin (k := 2) hi hL (by decide) (by decide)) e2 dL_law_373 ?_
    refine l_eqT C 381 dL_law_374 (by decide) hz0 ?_
    refine l_iconst (v := 0) C dL_law_381 (by decide) ?_
    refine l_M C dL_law_382 (mX7_want hM) lnL_32 mvX7_want rfl ⟨(Nat.le_of_ble_eq_true rfl), (Nat.le_of_ble_eq_true rfl)⟩ [.int v] rfl (Nat.le_of_ble_eq_true rfl) ?_
    refine l_same C 1382 dL_law_385 (by decide) ?_
    exact K
  · rw [if_neg hz0] at hz
    subst hz
    refine l_aload C dL_law_341 rfl 1 rfl ?_
    refine l_aload C dL_law_342 rfl 0 rfl ?_
    refine l_iload C dL_law_343 rfl 3 rfl ?_
    refine l_iconst (v := 1) C dL_law_344 (by decide) ?_
    refine l_iadd C dL_law_345 ?_
    refine l_sld C (vin (k := 1) hi hL (by decide) (by decide)) e1 dL_law_346 ?_
    refine l_aload C dL_law_347 rfl 0 rfl ?_
    refine l_iload C dL_law_348 rfl 3 rfl ?_
    refine l_iconst (v := 2) C dL_law_349 (by decide) ?_
    refine l_iadd C dL_law_350 ?_
    refine l_sld C (vin (k := 2) hi hL (by decide) (by decide)) e2 dL_law_351 ?_
    refine l_eqF C 359 dL_law_352 (by decide) hz0 ?_
    refine l_iconst (v := 1) C dL_law_355 (by decide) ?_
    refine l_goto C 360 dL_law_356 (by decide) ?_
    refine l_X C dL_law_360 (mX6_want hX) lnL_28 mvX6_want rfl ⟨(Nat.le_of_ble_eq_true rfl), (Nat.le_of_ble_eq_true rfl)⟩ [] rfl (Nat.le_of_ble_eq_true rfl) ?_
    refine l_aload C dL_law_363 rfl 2 rfl ?_
    refine l_aload C dL_law_364 rfl 0 rfl ?_
    refine l_iload C dL_law_365 rfl 3 rfl ?_
    refine l_iconst (v := 1) C dL_law_366 (by decide) ?_
    refine l_iadd C dL_law_367 ?_
    refine l_sld C (vin (k := 1) hi hL (by decide) (by decide)) e1 dL_law_368 ?_
    refine l_aload C dL_law_369 rfl 0 rfl ?_
    refine l_iload C dL_law_370 rfl 3 rfl ?_
    refine l_iconst (v := 2) C dL_law_371 (by decide) ?_
    refine l_iadd C dL_law_372 ?_
    refine l_sld C (vin (k := 2) hi hL (by decide) (by decide)) e2 dL_law_373 ?_
    refine l_eqF C 381 dL_law_374 (by decide) hz0 ?_
    refine l_iconst (v := 1) C dL_law_377 (by decide) ?_
    refine l_goto C 382 dL_law_378 (by decide) ?_
    refine l_M C dL_law_382 (mX7_want hM) lnL_32 mvX7_want rfl ⟨(Nat.le_of_ble_eq_true rfl), (Nat.le_of_ble_eq_true rfl)⟩ [.int v] rfl (Nat.le_of_ble_eq_true rfl) ?_
    refine l_same C 1382 dL_law_385 (by decide) ?_
    exact K
theorem lc_as {q : QT} {X : XT} {b L i : Nat} {xs : Nat → Int32} {Sx Sm : St} {F : Nat} {a1 a2 : Int32} {Sx1 : St} {Sm1 : St} {v : Int32} (C : LOk q X b L xs) (hi : i + 6 ≤ L) (hL : L ≤ 3072) (e1 : xs (nI i + 1).toNatClampNeg = a1) (e2 : xs (nI i + 2).toNatClampNeg = a2) (hX : fX6_as F Sx a1 a2 = some (Sx1, v)) (hM : fX7_as Sm a1 a2 = some (Sm1, v)) (K : LW q X Sx1 Sm1 1382 [(0, .ref b), (1, rf (qX q) 0), (2, rf (qM q) 0), (3, .int (nI i))] []) : LW q X Sx Sm 390 [(0, .ref b), (1, rf (qX q) 0), (2, rf (qM q) 0), (3, .int (nI i))] [] := by
  refine l_aload C dL_law_390 rfl 1 rfl ?_
  refine l_aload C dL_law_391 rfl 0 rfl ?_
  refine l_iload C dL_law_392 rfl 3 rfl ?_
  refine l_iconst (v := 1) C dL_law_393 (by decide) ?_
  refine l_iadd C dL_law_394 ?_
  refine l_sld C (vin (k := 1) hi hL (by decide) (by decide)) e1 dL_law_395 ?_
  refine l_aload C dL_law_396 rfl 0 rfl ?_
  refine l_iload C dL_law_397 rfl 3 rfl ?_
  refine l_iconst (v := 2) C dL_law_398 (by decide) ?_
  refine l_iadd C dL_law_399 ?_
  refine l_sld C (vin (k := 2) hi hL (by decide) (by decide)) e2 dL_law_400 ?_
  refine l_X C dL_law_401 (mX6_as hX) lnL_33 mvX6_as rfl ⟨(Nat.le_of_ble_eq_true rfl), (Nat.le_of_ble_eq_true rfl)⟩ [] rfl (Nat.le_of_ble_eq_true rfl) ?_
  refine l_aload C dL_law_404 rfl 2 rfl ?_
  refine l_aload C dL_law_405 rfl 0 rfl ?_
  refine l_iload C dL_law_406 rfl 3 rfl ?_
  refine l_iconst (v := 1) C dL_law_407 (by decide) ?_
  refine l_iadd C dL_law_408 ?_
  refine l_sld C (vin (k := 1) hi hL (by decide) (by decide)) e1 dL_law_409 ?_
  refine l_aload C dL_law_410 rfl 0 rfl ?_
  refine l_iload C dL_law_411 rfl 3 rfl ?_
  refine l_iconst (v := 2) C dL_law_412 (by decide) ?_
  refine l_iadd C dL_law_413 ?_
  refine l_sld C (vin (k := 2) hi hL (by decide) (by decide)) e2 dL_law_414 ?_
  refine l_M C dL_law_415 (mX7_as hM) lnL_36 mvX7_as rfl ⟨(Nat.le_of_ble_eq_true rfl), (Nat.le_of_ble_eq_true rfl)⟩ [.int v] rfl (Nat.le_of_ble_eq_true rfl) ?_
  refine l_same C 1382 dL_law_418 (by decide) ?_
  exact K
theorem lc_sky {q : QT} {X : XT} {b L i : Nat} {xs : Nat → Int32} {Sx Sm : St} {F : Nat} {a1 a2 : Int32} {Sx1 : St} {Sm1 : St} {v : Int32} (C : LOk q X b L xs) (hi : i + 6 ≤ L) (hL : L ≤ 3072) (e1 : xs (nI i + 1).toNatClampNeg = a1) (e2 : xs (nI i + 2).toNatClampNeg = a2) (hX : fX6_sky Sx a1 a2 = some (Sx1, v)) (hM : fX7_sky Sm a1 a2 = some (Sm1, v)) (K : LW q X Sx1 Sm1 1382 [(0, .ref b), (1, rf (qX q) 0), (2, rf (qM q) 0), (3, .int (nI i))] []) : LW q X Sx Sm 423 [(0, .ref b), (1, rf (qX q) 0), (2, rf (qM q) 0), (3, .int (nI i))] [] := by
  refine l_aload C dL_law_423 rfl 1 rfl ?_
  refine l_aload C dL_law_424 rfl 0 rfl ?_
  refine l_iload C dL_law_425 rfl 3 rfl ?_
  refine l_iconst (v := 1) C dL_law_426 (by decide) ?_
  refine l_iadd C dL_law_427 ?_
  refine l_sld C (vin (k := 1) hi hL (by decide) (by decide)) e1 dL_law_428 ?_
  refine l_aload C dL_law_429 rfl 0 rfl ?_
  refine l_iload C dL_law_430 rfl 3 rfl ?_
  refine l_iconst (v := 2) C dL_law_431 (by decide) ?_
  refine l_iadd C dL_law_432 ?_
  refine l_sld C (vin (k := 2) hi hL (by decide) (by decide)) e2 dL_law_433 ?_
  refine l_X C dL_law_434 (mX6_sky hX) lnL_37 mvX6_sky rfl ⟨(Nat.le_of_ble_eq_true rfl), (Nat.le_of_ble_eq_true rfl)⟩ [] rfl (Nat.le_of_ble_eq_true rfl) ?_
  refine l_aload C dL_law_437 rfl 2 rfl ?_
  refine l_aload C dL_law_438 rfl 0 rfl ?_
  refine l_iload C dL_law_439 rfl 3 rfl ?_
  refine l_iconst (v := 1) C dL_law_440 (by decide) ?_
  refine l_iadd C dL_law_441 ?_
  refine l_sld C (vin (k := 1) hi hL (by decide) (by decide)) e1 dL_law_442 ?_
  refine l_aload C dL_law_443 rfl 0 rfl ?_
  refine l_iload C dL_law_444 rfl 3 rfl ?_
  refine l_iconst (v := 2) C dL_law_445 (by decide) ?_
  refine l_iadd C dL_law_446 ?_
  refine l_sld C (vin (k := 2) hi hL (by decide) (by decide)) e2 dL_law_447 ?_
  refine l_M C dL_law_448 (mX7_sky hM) lnL_40 mvX7_sky rfl ⟨(Nat.le_of_ble_eq_true rfl), (Nat.le_of_ble_eq_true rfl)⟩ [.int v] rfl (Nat.le_of_ble_eq_true rfl) ?_
  refine l_same C 1382 dL_law_451 (by decide) ?_
  exact K
theorem lc_draw {q : QT} {X : XT} {b L i : Nat} {xs : Nat → Int32} {Sx Sm : St} {F : Nat} {a1 : Int32} {Sx1 : St} {Sm1 : St} {v : Int32} (C : LOk q X b L xs) (hi : i + 6 ≤ L) (hL : L ≤ 3072) (e1 : xs (nI i + 1).toNatClampNeg = a1) (hX : fX6_draw Sx a1 = some (Sx1, v)) (hM : fX7_draw Sm a1 = some (Sm1, v)) (K : LW q X Sx1 Sm1 1382 [(0, .ref b), (1, rf (qX q) 0), (2, rf (qM q) 0), (3, .int (nI i))] []) : LW q X Sx Sm 456 [(0, .ref b), (1, rf (qX q) 0), (2, rf (qM q) 0), (3, .int (nI i))] [] := by
  refine l_aload C dL_law_456 rfl 1 rfl ?_
  refine l_aload C dL_law_457 rfl 0 rfl ?_
  refine l_iload C dL_law_458 rfl 3 rfl ?_
  refine l_iconst (v := 1) C dL_law_459 (by decide) ?_
  refine l_iadd C dL_law_460 ?_
  refine l_sld C (vin (k := 1) hi hL (by decide) (by decide)) e1 dL_law_461 ?_
  refine l_X C dL_law_462 (mX6_draw hX) lnL_41 mvX6_draw rfl ⟨(Nat.le_of_ble_eq_true rfl), (Nat.le_of_ble_eq_true rfl)⟩ [] rfl (Nat.le_of_ble_eq_true rfl) ?_
  refine l_aload C dL_law_465 rfl 2 rfl ?_
  refine l_aload C dL_law_466 rfl 0 rfl ?_
  refine l_iload C dL_law_467 rfl 3 rfl ?_
  refine l_iconst (v := 1) C dL_law_468 (by decide) ?_
  refine l_iadd C dL_law_469 ?_
  refine l_sld C (vin (k := 1) hi hL (by decide) (by decide)) e1 dL_law_470 ?_
  refine l_M C dL_law_471 (mX7_draw hM) lnL_45 mvX7_draw rfl ⟨(Nat.le_of_ble_eq_true rfl), (Nat.le_of_ble_eq_true rfl)⟩ [.int v] rfl (Nat.le_of_ble_eq_true rfl) ?_
  refine l_same C 1382 dL_law_474 (by decide) ?_
  exact K
theorem lc_age {q : QT} {X : XT} {b L i : Nat} {xs : Nat → Int32} {Sx Sm : St} {F : Nat} {a1 : Int32} {Sx1 : St} {Sm1 : St} {v : Int32} (C : LOk q X b L xs) (hi : i + 6 ≤ L) (hL : L ≤ 3072) (e1 : xs (nI i + 1).toNatClampNeg = a1) (hX : fX6_age F Sx a1 = some (Sx1, v)) (hM : fX7_age F Sm a1 = some (Sm1, v)) (K : LW q X Sx1 Sm1 1382 [(0, .ref b), (1, rf (qX q) 0), (2, rf (qM q) 0), (3, .int (nI i))] []) : LW q X Sx Sm 479 [(0, .ref b), (1, rf (qX q) 0), (2, rf (qM q) 0), (3, .int (nI i))] [] := by
  refine l_aload C dL_law_479 rfl 1 rfl ?_
  refine l_aload C dL_law_480 rfl 0 rfl ?_
  refine l_iload C dL_law_481 rfl 3 rfl ?_
  refine l_iconst (v := 1) C dL_law_482 (by decide) ?_
  refine l_iadd C dL_law_483 ?_
  refine l_sld C (vin (k := 1) hi hL (by decide) (by decide)) e1 dL_law_484 ?_
  refine l_X C dL_law_485 (mX6_age hX) lnL_46 mvX6_age rfl ⟨(Nat.le_of_ble_eq_true rfl), (Nat.le_of_ble_eq_true rfl)⟩ [] rfl (Nat.le_of_ble_eq_true rfl) ?_
  refine l_aload C dL_law_488 rfl 2 rfl ?_
  refine l_aload C dL_law_489 rfl 0 rfl ?_
  refine l_iload C dL_law_490 rfl 3 rfl ?_
  refine l_iconst (v := 1) C dL_law_491 (by decide) ?_
  refine l_iadd C dL_law_492 ?_
  refine l_sld C (vin (k := 1) hi hL (by decide) (by decide)) e1 dL_law_493 ?_
  refine l_M C dL_law_494 (mX7_age hM) lnL_49 mvX7_age rfl ⟨(Nat.le_of_ble_eq_true rfl), (Nat.le_of_ble_eq_true rfl)⟩ [.int v] rfl (Nat.le_of_ble_eq_true rfl) ?_
  refine l_same C 1382 dL_law_497 (by decide) ?_
  exact K
theorem lc_side {q : QT} {X : XT} {b L i : Nat} {xs : Nat → Int32} {Sx Sm : St} {F : Nat} {a1 a2 : Int32} {Sx1 : St} {Sm1 : St} {v : Int32} (C : LOk q X b L xs) (hi : i + 6 ≤ L) (hL : L ≤ 3072) (e1 : xs (nI i + 1).toNatClampNeg = a1) (e2 : xs (nI i + 2).toNatClampNeg = a2) (hX : fX6_side F Sx a1 a2 = some (Sx1, v)) (hM : fX7_side F Sm a1 a2 = some (Sm1, v)) (K : LW q X Sx1 Sm1 1382 [(0, .ref b), (1, rf (qX q) 0), (2, rf (qM q) 0), (3, .int (nI i))] []) : LW q X Sx Sm 502 [(0, .ref b), (1, rf (qX q) 0), (2, rf (qM q) 0), (3, .int (nI i))] [] := by
  refine l_aload C dL_law_502 rfl 1 rfl ?_
  refine l_aload C dL_law_503 rfl 0 rfl ?_
  refine l_iload C dL_law_504 rfl 3 rfl ?_
  refine l_iconst (v := 1) C dL_law_505 (by decide) ?_
  refine l_iadd C dL_law_506 ?_
  refine l_sld C (vin (k := 1) hi hL (by decide) (by decide)) e1 dL_law_507 ?_
  refine l_aload C dL_law_508 rfl 0 rfl ?_
  refine l_iload C dL_law_509 rfl 3 rfl ?_
  refine l_iconst (v := 2) C dL_law_510 (by decide) ?_
  refine l_iadd C dL_law_511 ?_
  refine l_sld C (vin (k := 2) hi hL (by decide) (by decide)) e2 dL_law_512 ?_
  refine l_X C dL_law_513 (mX6_side hX) lnL_50 mvX6_side rfl ⟨(Nat.le_of_ble_eq_true rfl), (Nat.le_of_ble_eq_true rfl)⟩ [] rfl (Nat.le_of_ble_eq_true rfl) ?_
  refine l_aload C dL_law_516 rfl 2 rfl ?_
  refine l_aload C dL_law_517 rfl 0 rfl ?_
  refine l_iload C dL_law_518 rfl 3 rfl ?_
  refine l_iconst (v := 1) C dL_law_519 (by decide) ?_
  refine l_iadd C dL_law_520 ?_
  refine l_sld C (vin (k := 1) hi hL (by decide) (by decide)) e1 dL_law_521 ?_
  refine l_aload C dL_law_522 rfl 0 rfl ?_
  refine l_iload C dL_law_523 rfl 3 rfl ?_
  refine l_iconst (v := 2) C dL_law_524 (by decide) ?_
  refine l_iadd C dL_law_525 ?_
  refine l_sld C (vin (k := 2) hi hL (by decide) (by decide)) e2 dL_law_526 ?_
  refine l_M C dL_law_527 (mX7_side hM) lnL_53 mvX7_side rfl ⟨(Nat.le_of_ble_eq_true rfl), (Nat.le_of_ble_eq_true rfl)⟩ [.int v] rfl (Nat.le_of_ble_eq_true rfl) ?_
  refine l_same C 1382 dL_law_530 (by decide) ?_
  exact K
theorem lc_stands {q : QT} {X : XT} {b L i : Nat} {xs : Nat → Int32} {Sx Sm : St} {F : Nat} {Sx1 : St} {v : Int32} (C : LOk q X b L xs) (hi : i + 6 ≤ L) (hL : L ≤ 3072)  (hX : fX6_stands F Sx  = some (Sx1, v)) (hM : fX7_stands F Sm  = some v) (K : LW q X Sx1 Sm 1382 [(0, .ref b), (1, rf (qX q) 0), (2, rf (qM q) 0), (3, .int (nI i))] []) : LW q X Sx Sm 535 [(0, .ref b), (1, rf (qX q) 0), (2, rf (qM q) 0), (3, .int (nI i))] [] := by
  refine l_aload C dL_law_535 rfl 1 rfl ?_
  refine l_X C dL_law_536 (mX6_stands hX) lnL_54 mvX6_stands rfl ⟨(Nat.le_of_ble_eq_true rfl), (Nat.le_of_ble_eq_true rfl)⟩ [] rfl (Nat.le_of_ble_eq_true rfl) ?_
  refine l_aload C dL_law_539 rfl 2 rfl ?_
  refine l_M C dL_law_540 (mX7_stands hM) lnL_58 mvX7_stands rfl ⟨(Nat.le_of_ble_eq_true rfl), (Nat.le_of_ble_eq_true rfl)⟩ [.int v] rfl (Nat.le_of_ble_eq_true rfl) ?_
  refine l_same C 1382 dL_law_543 (by decide) ?_
  exact K
theorem lc_first {q : QT} {X : XT} {b L i : Nat} {xs : Nat → Int32} {Sx Sm : St} {F : Nat} {Sx1 : St} {v : Int32} (C : LOk q X b L xs) (hi : i + 6 ≤ L) (hL : L ≤ 3072)  (hX : fX6_first F Sx  = some (Sx1, v)) (hM : fX7_first F Sm  = some v) (K : LW q X Sx1 Sm 1382 [(0, .ref b), (1, rf (qX q) 0), (2, rf (qM q) 0), (3, .int (nI i))] []) : LW q X Sx Sm 548 [(0, .ref b), (1, rf (qX q) 0), (2, rf (qM q) 0), (3, .int (nI i))] [] := by
  refine l_aload C dL_law_548 rfl 1 rfl ?_
  refine l_X C dL_law_549 (mX6_first hX) lnL_59 mvX6_first rfl ⟨(Nat.le_of_ble_eq_true rfl), (Nat.le_of_ble_eq_true rfl)⟩ [] rfl (Nat.le_of_ble_eq_true rfl) ?_
  refine l_aload C dL_law_552 rfl 2 rfl ?_
  refine l_M C dL_law_553 (mX7_first hM) lnL_62 mvX7_first rfl ⟨(Nat.le_of_ble_eq_true rfl), (Nat.le_of_ble_eq_true rfl)⟩ [.int v] rfl (Nat.le_of_ble_eq_true rfl) ?_
  refine l_same C 1382 dL_law_556 (by decide) ?_
  exact K
theorem lc_gust {q : QT} {X : XT} {b L i : Nat} {xs : Nat → Int32} {Sx Sm : St} {F : Nat} {Sx1 : St} {Sm1 : St} {v : Int32} (C : LOk q X b L xs) (hi : i + 6 ≤ L) (hL : L ≤ 3072)  (hX : fX6_gust F Sx  = some (Sx1, v)) (hM : fX7_gust F Sm  = some (Sm1, v)) (K : LW q X Sx1 Sm1 1382 [(0, .ref b), (1, rf (qX q) 0), (2, rf (qM q) 0), (3, .int (nI i))] []) : LW q X Sx Sm 561 [(0, .ref b), (1, rf (qX q) 0), (2, rf (qM q) 0), (3, .int (nI i))] [] := by
  refine l_aload C dL_law_561 rfl 1 rfl ?_
  refine l_X C dL_law_562 (mX6_gust hX) lnL_63 mvX6_gust rfl ⟨(Nat.le_of_ble_eq_true rfl), (Nat.le_of_ble_eq_true rfl)⟩ [] rfl (Nat.le_of_ble_eq_true rfl) ?_
  refine l_aload C dL_law_565 rfl 2 rfl ?_
  refine l_M C dL_law_566 (mX7_gust hM) lnL_66 mvX7_gust rfl ⟨(Nat.le_of_ble_eq_true rfl), (Nat.le_of_ble_eq_true rfl)⟩ [.int v] rfl (Nat.le_of_ble_eq_true rfl) ?_
  refine l_same C 1382 dL_law_569 (by decide) ?_
  exact K
theorem lc_canWant {q : QT} {X : XT} {b L i : Nat} {xs : Nat → Int32} {Sx Sm : St} {F : Nat} {Sx1 : St} {Sm1 : St} {v : Int32} (C : LOk q X b L xs) (hi : i + 6 ≤ L) (hL : L ≤ 3072)  (hX : fX6_canWant F Sx  = some (Sx1, v)) (hM : fX7_canWant F Sm  = some (Sm1, v)) (K : LW q X Sx1 Sm1 1382 [(0, .ref b), (1, rf (qX q) 0), (2, rf (qM q) 0), (3, .int (nI i))] []) : LW q X Sx Sm 574 [(0, .ref b), (1, rf (qX q) 0), (2, rf (qM q) 0), (3, .int (nI i))] [] := by
  refine l_aload C dL_law_574 rfl 1 rfl ?_
  refine l_X C dL_law_575 (mX6_canWant hX) lnL_67 mvX6_canWant rfl ⟨(Nat.le_of_ble_eq_true rfl), (Nat.le_of_ble_eq_true rfl)⟩ [] rfl (Nat.le_of_ble_eq_true rfl) ?_
  refine l_aload C dL_law_578 rfl 2 rfl ?_
  refine l_M C dL_law_579 (mX7_canWant hM) lnL_70 mvX7_canWant rfl ⟨(Nat.le_of_ble_eq_true rfl), (Nat.le_of_ble_eq_true rfl)⟩ [.int v] rfl (Nat.le_of_ble_eq_true rfl) ?_
  refine l_same C 1382 dL_law_582 (by decide) ?_
  exact K
theorem lc_span {q : QT} {X : XT} {b L i : Nat} {xs : Nat → Int32} {Sx Sm : St} {F : Nat} {a1 : Int32} {Sx1 : St} {Sm1 : St} {v : Int32} (C : LOk q X b L xs) (hi : i + 6 ≤ L) (hL : L ≤ 3072) (e1 : xs (nI i + 1).toNatClampNeg = a1) (hX : fX6_span F Sx a1 = some (Sx1, v)) (hM : fX7_span F Sm a1 = some (Sm1, v)) (K : LW q X Sx1 Sm1 1382 [(0, .ref b), (1, rf (qX q) 0), (2, rf (qM q) 0), (3, .int (nI i))] []) : LW q X Sx Sm 587 [(0, .ref b), (1, rf (qX q) 0), (2, rf (qM q) 0), (3, .int (nI i))] [] := by
  refine l_aload C dL_law_587 rfl 1 rfl ?_
  refine l_aload C dL_law_588 rfl 0 rfl ?_
  refine l_iload C dL_law_589 rfl 3 rfl ?_
  refine l_iconst (v := 1) C dL_law_590 (by decide) ?_
  refine l_iadd C dL_law_591 ?_
  refine l_sld C (vin (k := 1) hi hL (by decide) (by decide)) e1 dL_law_592 ?_
  refine l_X C dL_law_593 (mX6_span hX) lnL_71 mvX6_span rfl ⟨(Nat.le_of_ble_eq_true rfl), (Nat.le_of_ble_eq_true rfl)⟩ [] rfl (Nat.le_of_ble_eq_true rfl) ?_
  refine l_aload C dL_law_596 rfl 2 rfl ?_
  refine l_aload C dL_law_597 rfl 0 rfl ?_
  refine l_iload C dL_law_598 rfl 3 rfl ?_
  refine l_iconst (v := 1) C dL_law_599 (by decide) ?_
  refine l_iadd C dL_law_600 ?_
  refine l_sld C (vin (k := 1) hi hL (by decide) (by decide)) e1 dL_law_601 ?_
  refine l_M C dL_law_602 (mX7_span hM) lnL_74 mvX7_span rfl ⟨(Nat.le_of_ble_eq_true rfl), (Nat.le_of_ble_eq_true rfl)⟩ [.int v] rfl (Nat.le_of_ble_eq_true rfl) ?_
  refine l_same C 1382 dL_law_605 (by decide) ?_
  exact K
theorem lc_worst {q : QT} {X : XT} {b L i : Nat} {xs : Nat → Int32} {Sx Sm : St} {F : Nat} {Sx1 : St} {Sm1 : St} {v : Int32} (C : LOk q X b L xs) (hi : i + 6 ≤ L) (hL : L ≤ 3072)  (hX : fX6_worst F Sx  = some (Sx1, v)) (hM : fX7_worst F Sm  = some (Sm1, v)) (K : LW q X Sx1 Sm1 1382 [(0, .ref b), (1, rf (qX q) 0), (2, rf (qM q) 0), (3, .int (nI i))] []) : LW q X Sx Sm 610 [(0, .ref b), (1, rf (qX q) 0), (2, rf (qM q) 0), (3, .int (nI i))] [] := by
  refine l_aload C dL_law_610 rfl 1 rfl ?_
  refine l_X C dL_law_611 (mX6_worst hX) lnL_75 mvX6_worst rfl ⟨(Nat.le_of_ble_eq_true rfl), (Nat.le_of_ble_eq_true rfl)⟩ [] rfl (Nat.le_of_ble_eq_true rfl) ?_
  refine l_aload C dL_law_614 rfl 2 rfl ?_
  refine l_M C dL_law_615 (mX7_worst hM) lnL_78 mvX7_worst rfl ⟨(Nat.le_of_ble_eq_true rfl), (Nat.le_of_ble_eq_true rfl)⟩ [.int v] rfl (Nat.le_of_ble_eq_true rfl) ?_
  refine l_same C 1382 dL_law_618 (by decide) ?_
  exact K
theorem lc_warmth {q : QT} {X : XT} {b L i : Nat} {xs : Nat → Int32} {Sx Sm : St} {F : Nat} {a1 : Int32} {Sx1 : St} {Sm1 : St} {v : Int32} (C : LOk q X b L xs) (hi : i + 6 ≤ L) (hL : L ≤ 3072) (e1 : xs (nI i + 1).toNatClampNeg = a1) (hX : fX6_warmth F Sx a1 = some (Sx1, v)) (hM : fX7_warmth F Sm a1 = some (Sm1, v)) (K : LW q X Sx1 Sm1 1382 [(0, .ref b), (1, rf (qX q) 0), (2, rf (qM q) 0), (3, .int (nI i))] []) : LW q X Sx Sm 623 [(0, .ref b), (1, rf (qX q) 0), (2, rf (qM q) 0), (3, .int (nI i))] [] := by
  refine l_aload C dL_law_623 rfl 1 rfl ?_
  refine l_aload C dL_law_624 rfl 0 rfl ?_
  refine l_iload C dL_law_625 rfl 3 rfl ?_
  refine l_iconst (v := 1) C dL_law_626 (by decide) ?_
  refine l_iadd C dL_law_627 ?_
  refine l_sld C (vin (k := 1) hi hL (by decide) (by decide)) e1 dL_law_628 ?_
  refine l_X C dL_law_629 (mX6_warmth hX) lnL_79 mvX6_warmth rfl ⟨(Nat.le_of_ble_eq_true rfl), (Nat.le_of_ble_eq_true rfl)⟩ [] rfl (Nat.le_of_ble_eq_true rfl) ?_
  refine l_aload C dL_law_632 rfl 2 rfl ?_
  refine l_aload C dL_law_633 rfl 0 rfl ?_
  refine l_iload C dL_law_634 rfl 3 rfl ?_
  refine l_iconst (v := 1) C dL_law_635 (by decide) ?_
  refine l_iadd C dL_law_636 ?_
  refine l_sld C (vin (k := 1) hi hL (by decide) (by decide)) e1 dL_law_637 ?_
  refine l_M C dL_law_638 (mX7_warmth hM) lnL_82 mvX7_warmth rfl ⟨(Nat.le_of_ble_eq_true rfl), (Nat.le_of_ble_eq_true rfl)⟩ [.int v] rfl (Nat.le_of_ble_eq_true rfl) ?_
  refine l_same C 1382 dL_law_641 (by decide) ?_
  exact K
theorem lc_idle {q : QT} {X : XT} {b L i : Nat} {xs : Nat → Int32} {Sx Sm : St} {F : Nat} {Sx1 : St} {Sm1 : St} {v : Int32} (C : LOk q X b L xs) (hi : i + 6 ≤ L) (hL : L ≤ 3072)  (hX : fX6_idle F Sx  = some (Sx1, v)) (hM : fX7_idle F Sm  = some (Sm1, v)) (K : LW q X Sx1 Sm1 1382 [(0, .ref b), (1, rf (qX q) 0), (2, rf (qM q) 0), (3, .int (nI i))] []) : LW q X Sx Sm 646 [(0, .ref b), (1, rf (qX q) 0), (2, rf (qM q) 0), (3, .int (nI i))] [] := by
  refine l_aload C dL_law_646 rfl 1 rfl ?_
  refine l_X C dL_law_647 (mX6_idle hX) lnL_83 mvX6_idle rfl ⟨(Nat.le_of_ble_eq_true rfl), (Nat.le_of_ble_eq_true rfl)⟩ [] rfl (Nat.le_of_ble_eq_true rfl) ?_
  refine l_aload C dL_law_650 rfl 2 rfl ?_
  refine l_M C dL_law_651 (mX7_idle hM) lnL_86 mvX7_idle rfl ⟨(Nat.le_of_ble_eq_true rfl), (Nat.le_of_ble_eq_true rfl)⟩ [.int v] rfl (Nat.le_of_ble_eq_true rfl) ?_
  refine l_same C 1382 dL_law_654 (by decide) ?_
  exact K
theorem lc_beast {q : QT} {X : XT} {b L i : Nat} {xs : Nat → Int32} {Sx Sm : St} {F : Nat} {a1 : Int32} {Sx1 : St} {Sm1 : St} {v : Int32} (C : LOk q X b L xs) (hi : i + 6 ≤ L) (hL : L ≤ 3072) (e1 : xs (nI i + 1).toNatClampNeg = a1) (hX : fX6_beast Sx a1 = some (Sx1, v)) (hM : fX7_beast Sm a1 = some (Sm1, v)) (K : LW q X Sx1 Sm1 1382 [(0, .ref b), (1, rf (qX q) 0), (2, rf (qM q) 0), (3, .int (nI i))] []) : LW q X Sx Sm 659 [(0, .ref b), (1, rf (qX q) 0), (2, rf (qM q) 0), (3, .int (nI i))] [] := by
  refine l_aload C dL_law_659 rfl 1 rfl ?_
  refine l_aload C dL_law_660 rfl 0 rfl ?_
  refine l_iload C dL_law_661 rfl 3 rfl ?_
  refine l_iconst (v := 1) C dL_law_662 (by decide) ?_
  refine l_iadd C dL_law_663 ?_
  refine l_sld C (vin (k := 1) hi hL (by decide) (by decide)) e1 dL_law_664 ?_
  refine l_X C dL_law_665 (mX6_beast hX) lnL_87 mvX6_beast rfl ⟨(Nat.le_of_ble_eq_true rfl), (Nat.le_of_ble_eq_true rfl)⟩ [] rfl (Nat.le_of_ble_eq_true rfl) ?_
  refine l_aload C dL_law_668 rfl 2 rfl ?_
  refine l_aload C dL_law_669 rfl 0 rfl ?_
  refine l_iload C dL_law_670 rfl 3 rfl ?_
  refine l_iconst (v := 1) C dL_law_671 (by decide) ?_
  refine l_iadd C dL_law_672 ?_
  refine l_sld C (vin (k := 1) hi hL (by decide) (by decide)) e1 dL_law_673 ?_
  refine l_M C dL_law_674 (mX7_beast hM) lnL_90 mvX7_beast rfl ⟨(Nat.le_of_ble_eq_true rfl), (Nat.le_of_ble_eq_true rfl)⟩ [.int v] rfl (Nat.le_of_ble_eq_true rfl) ?_
  refine l_same C 1382 dL_law_677 (by decide) ?_
  exact K
theorem lc_cap {q : QT} {X : XT} {b L i : Nat} {xs : Nat → Int32} {Sx Sm : St} {F : Nat} {a1 : Int32} {Sx1 : St} {Sm1 : St} {v : Int32} (C : LOk q X b L xs) (hi : i + 6 ≤ L) (hL : L ≤ 3072) (e1 : xs (nI i + 1).toNatClampNeg = a1) (hX : fX6_cap Sx a1 = some (Sx1, v)) (hM : fX7_cap Sm a1 = some (Sm1, v)) (K : LW q X Sx1 Sm1 1382 [(0, .ref b), (1, rf (qX q) 0), (2, rf (qM q) 0), (3, .int (nI i))] []) : LW q X Sx Sm 682 [(0, .ref b), (1, rf (qX q) 0), (2, rf (qM q) 0), (3, .int (nI i))] [] := by
  refine l_aload C dL_law_682 rfl 1 rfl ?_
  refine l_aload C dL_law_683 rfl 0 rfl ?_
  refine l_iload C dL_law_684 rfl 3 rfl ?_
  refine l_iconst (v := 1) C dL_law_685 (by decide) ?_
  refine l_iadd C dL_law_686 ?_
  refine l_sld C (vin (k := 1) hi hL (by decide) (by decide)) e1 dL_law_687 ?_
  refine l_X C dL_law_688 (mX6_cap hX) lnL_91 mvX6_cap rfl ⟨(Nat.le_of_ble_eq_true rfl), (Nat.le_of_ble_eq_true rfl)⟩ [] rfl (Nat.le_of_ble_eq_true rfl) ?_
  refine l_aload C dL_law_691 rfl 2 rfl ?_
  refine l_aload C dL_law_692 rfl 0 rfl ?_
  refine l_iload C dL_law_693 rfl 3 rfl ?_
  refine l_iconst (v := 1) C dL_law_694 (by decide) ?_
  refine l_iadd C dL_law_695 ?_
  refine l_sld C (vin (k := 1) hi hL (by decide) (by decide)) e1 dL_law_696 ?_
  refine l_M C dL_law_697 (mX7_cap hM) lnL_94 mvX7_cap rfl ⟨(Nat.le_of_ble_eq_true rfl), (Nat.le_of_ble_eq_true rfl)⟩ [.int v] rfl (Nat.le_of_ble_eq_true rfl) ?_
  refine l_same C 1382 dL_law_700 (by decide) ?_
  exact K
theorem lc_beasts {q : QT} {X : XT} {b L i : Nat} {xs : Nat → Int32} {Sx Sm : St} {F : Nat} {a1 : Int32} {Sx1 : St} {Sm1 : St} {v : Int32} (C : LOk q X b L xs) (hi : i + 6 ≤ L) (hL : L ≤ 3072) (e1 : xs (nI i + 1).toNatClampNeg = a1) (hX : fX6_beasts F Sx a1 = some (Sx1, v)) (hM : fX7_beasts F Sm a1 = some (Sm1, v)) (K : LW q X Sx1 Sm1 1382 [(0, .ref b), (1, rf (qX q) 0), (2, rf (qM q) 0), (3, .int (nI i))] []) : LW q X Sx Sm 705 [(0, .ref b), (1, rf (qX q) 0), (2, rf (qM q) 0), (3, .int (nI i))] [] := by
  refine l_aload C dL_law_705 rfl 1 rfl ?_
  refine l_aload C dL_law_706 rfl 0 rfl ?_
  refine l_iload C dL_law_707 rfl 3 rfl ?_
  refine l_iconst (v := 1) C dL_law_708 (by decide) ?_
  refine l_iadd C dL_law_709 ?_
  refine l_sld C (vin (k := 1) hi hL (by decide) (by decide)) e1 dL_law_710 ?_
  refine l_X C dL_law_711 (mX6_beasts hX) lnL_95 mvX6_beasts rfl ⟨(Nat.le_of_ble_eq_true rfl), (Nat.le_of_ble_eq_true rfl)⟩ [] rfl (Nat.le_of_ble_eq_true rfl) ?_
  refine l_aload C dL_law_714 rfl 2 rfl ?_
  refine l_aload C dL_law_715 rfl 0 rfl ?_
  refine l_iload C dL_law_716 rfl 3 rfl ?_
  refine l_iconst (v := 1) C dL_law_717 (by decide) ?_
  refine l_iadd C dL_law_718 ?_
  refine l_sld C (vin (k := 1) hi hL (by decide) (by decide)) e1 dL_law_719 ?_
  refine l_M C dL_law_720 (mX7_beasts hM) lnL_98 mvX7_beasts rfl ⟨(Nat.le_of_ble_eq_true rfl), (Nat.le_of_ble_eq_true rfl)⟩ [.int v] rfl (Nat.le_of_ble_eq_true rfl) ?_
  refine l_same C 1382 dL_law_723 (by decide) ?_
  exact K
theorem lc_even {q : QT} {X : XT} {b L i : Nat} {xs : Nat → Int32} {Sx Sm : St} {F : Nat} {a1 a2 : Int32} {Sx1 : St} {Sm1 : St} {v : Int32} (C : LOk q X b L xs) (hi : i + 6 ≤ L) (hL : L ≤ 3072) (e1 : xs (nI i + 1).toNatClampNeg = a1) (e2 : xs (nI i + 2).toNatClampNeg = a2) (hX : fX6_even F Sx a1 a2 = some (Sx1, v)) (hM : fX7_even F Sm a1 a2 = some (Sm1, v)) (K : LW q X Sx1 Sm1 1382 [(0, .ref b), (1, rf (qX q) 0), (2, rf (qM q) 0), (3, .int (nI i))] []) : LW q X Sx Sm 728 [(0, .ref b), (1, rf (qX q) 0), (2, rf (qM q) 0), (3, .int (nI i))] [] := by
  refine l_aload C dL_law_728 rfl 1 rfl ?_
  refine l_aload C dL_law_729 rfl 0 rfl ?_
  refine l_iload C dL_law_730 rfl 3 rfl ?_
  refine l_iconst (v := 1) C dL_law_731 (by decide) ?_
  refine l_iadd C dL_law_732 ?_
  refine l_sld C (vin (k := 1) hi hL (by decide) (by decide)) e1 dL_law_733 ?_
  refine l_aload C dL_law_734 rfl 0 rfl ?_
  refine l_iload C dL_law_735 rfl 3 rfl ?_
  refine l_iconst (v := 2) C dL_law_736 (by decide) ?_
  refine l_iadd C dL_law_737 ?_
  refine l_sld C (vin (k := 2) hi hL (by decide) (by decide)) e2 dL_law_738 ?_
  refine l_X C dL_law_739 (mX6_even hX) lnL_99 mvX6_even rfl ⟨(Nat.le_of_ble_eq_true rfl), (Nat.le_of_ble_eq_true rfl)⟩ [] rfl (Nat.le_of_ble_eq_true rfl) ?_
  refine l_aload C dL_law_742 rfl 2 rfl ?_
  refine l_aload C dL_law_743 rfl 0 rfl ?_
  refine l_iload C dL_law_744 rfl 3 rfl ?_
  refine l_iconst (v := 1) C dL_law_745 (by decide) ?_
  refine l_iadd C dL_law_746 ?_
  refine l_sld C (vin (k := 1) hi hL (by decide) (by decide)) e1 dL_law_747 ?_
  refine l_aload C dL_law_748 rfl 0 rfl ?_
  refine l_iload C dL_law_749 rfl 3 rfl ?_
  refine l_iconst (v := 2) C dL_law_750 (by decide) ?_
  refine l_iadd C dL_law_751 ?_
  refine l_sld C (vin (k := 2) hi hL (by decide) (by decide)) e2 dL_law_752 ?_
  refine l_M C dL_law_753 (mX7_even hM) lnL_102 mvX7_even rfl ⟨(Nat.le_of_ble_eq_true rfl), (Nat.le_of_ble_eq_true rfl)⟩ [.int v] rfl (Nat.le_of_ble_eq_true rfl) ?_
  refine l_same C 1382 dL_law_756 (by decide) ?_
  exact K
theorem lc_camp {q : QT} {X : XT} {b L i : Nat} {xs : Nat → Int32} {Sx Sm : St} {F : Nat} {a1 : Int32} {Sx1 : St} {Sm1 : St} {v : Int32} (C : LOk q X b L xs) (hi : i + 6 ≤ L) (hL : L ≤ 3072) (e1 : xs (nI i + 1).toNatClampNeg = a1) (hX : fX6_camp F Sx a1 = some (Sx1, v)) (hM : fX7_camp F Sm a1 = some (Sm1, v)) (K : LW q X Sx1 Sm1 1382 [(0, .ref b), (1, rf (qX q) 0), (2, rf (qM q) 0), (3, .int (nI i))] []) : LW q X Sx Sm 761 [(0, .ref b), (1, rf (qX q) 0), (2, rf (qM q) 0), (3, .int (nI i))] [] := by
  refine l_aload C dL_law_761 rfl 1 rfl ?_
  refine l_aload C dL_law_762 rfl 0 rfl ?_
  refine l_iload C dL_law_763 rfl 3 rfl ?_
  refine l_iconst (v := 1) C dL_law_764 (by decide) ?_
  refine l_iadd C dL_law_765 ?_
  refine l_sld C (vin (k := 1) hi hL (by decide) (by decide)) e1 dL_law_766 ?_
  refine l_X C dL_law_767 (mX6_camp hX) lnL_103 mvX6_camp rfl ⟨(Nat.le_of_ble_eq_true rfl), (Nat.le_of_ble_eq_true rfl)⟩ [] rfl (Nat.le_of_ble_eq_true rfl) ?_
  refine l_aload C dL_law_770 rfl 2 rfl ?_
  refine l_aload C dL_law_771 rfl 0 rfl ?_
  refine l_iload C dL_law_772 rfl 3 rfl ?_
  refine l_iconst (v := 1) C dL_law_773 (by decide) ?_
  refine l_iadd C dL_law_774 ?_
  refine l_sld C (vin (k := 1) hi hL (by decide) (by decide)) e1 dL_law_775 ?_
  refine l_M C dL_law_776 (mX7_camp hM) lnL_106 mvX7_camp rfl ⟨(Nat.le_of_ble_eq_true rfl), (Nat.le_of_ble_eq_true rfl)⟩ [.int v] rfl (Nat.le_of_ble_eq_true rfl) ?_
  refine l_same C 1382 dL_law_779 (by decide) ?_
  exact K
theorem lc_grass {q : QT} {X : XT} {b L i : Nat} {xs : Nat → Int32} {Sx Sm : St} {F : Nat} {a1 a2 a3 : Int32} {Sx1 : St} {Sm1 : St} {v : Int32} (C : LOk q X b L xs) (hi : i + 6 ≤ L) (hL : L ≤ 3072) (e1 : xs (nI i + 1).toNatClampNeg = a1) (e2 : xs (nI i + 2).toNatClampNeg = a2) (e3 : xs (nI i + 3).toNatClampNeg = a3) (hX : fX6_grass Sx a1 a2 a3 = some (Sx1, v)) (hM : fX7_grass Sm a1 a2 a3 = some (Sm1, v)) (K : LW q X Sx1 Sm1 1382 [(0, .ref b), (1, rf (qX q) 0), (2, rf (qM q) 0), (3, .int (nI i))] []) : LW q X Sx Sm 784 [(0, .ref b), (1, rf (qX q) 0), (2, rf (qM q) 0), (3, .int (nI i))] [] := by
  refine l_aload C dL_law_784 rfl 1 rfl ?_
  refine l_aload C dL_law_785 rfl 0 rfl ?_
  refine l_iload C dL_law_786 rfl 3 rfl ?_
  refine l_iconst (v := 1) C dL_law_787 (by decide) ?_
  refine l_iadd C dL_law_788 ?_
  refine l_sld C (vin (k := 1) hi hL (by decide) (by decide)) e1 dL_law_789 ?_
  refine l_aload C dL_law_790 rfl 0 rfl ?_
  refine l_iload C dL_law_791 rfl 3 rfl ?_
  refine l_iconst (v := 2) C dL_law_792 (by decide) ?_
  refine l_iadd C dL_law_793 ?_
  refine l_sld C (vin (k := 2) hi hL (by decide) (by decide)) e2 dL_law_794 ?_
  refine l_aload C dL_law_795 rfl 0 rfl ?_
  refine l_iload C dL_law_796 rfl 3 rfl ?_
  refine l_iconst (v := 3) C dL_law_797 (by decide) ?_
  refine l_iadd C dL_law_798 ?_
  refine l_sld C (vin (k := 3) hi hL (by decide) (by decide)) e3 dL_law_799 ?_
  refine l_X C dL_law_800 (mX6_grass hX) lnL_107 mvX6_grass rfl ⟨(Nat.le_of_ble_eq_true rfl), (Nat.le_of_ble_eq_true rfl)⟩ [] rfl (Nat.le_of_ble_eq_true rfl) ?_
  refine l_aload C dL_law_803 rfl 2 rfl ?_
  refine l_aload C dL_law_804 rfl 0 rfl ?_
  refine l_iload C dL_law_805 rfl 3 rfl ?_
  refine l_iconst (v := 1) C dL_law_806 (by decide) ?_
  refine l_iadd C dL_law_807 ?_
  refine l_sld C (vin (k := 1) hi hL (by decide) (by decide)) e1 dL_law_808 ?_
  refine l_aload C dL_law_809 rfl 0 rfl ?_
  refine l_iload C dL_law_810 rfl 3 rfl ?_
  refine l_iconst (v := 2) C dL_law_811 (by decide) ?_
  refine l_iadd C dL_law_812 ?_
  refine l_sld C (vin (k := 2) hi hL (by decide) (by decide)) e2 dL_law_813 ?_
  refine l_aload C dL_law_814 rfl 0 rfl ?_
  refine l_iload C dL_law_815 rfl 3 rfl ?_
  refine l_iconst (v := 3) C dL_law_816 (by decide) ?_
  refine l_iadd C dL_law_817 ?_
  refine l_sld C (vin (k := 3) hi hL (by decide) (by decide)) e3 dL_law_818 ?_
  refine l_M C dL_law_819 (mX7_grass hM) lnL_110 mvX7_grass rfl ⟨(Nat.le_of_ble_eq_true rfl), (Nat.le_of_ble_eq_true rfl)⟩ [.int v] rfl (Nat.le_of_ble_eq_true rfl) ?_
  refine l_same C 1382 dL_law_822 (by decide) ?_
  exact K
theorem lc_campOf {q : QT} {X : XT} {b L i : Nat} {xs : Nat → Int32} {Sx Sm : St} {F : Nat} {a1 a2 : Int32} {Sx1 : St} {Sm1 : St} {v : Int32} (C : LOk q X b L xs) (hi : i + 6 ≤ L) (hL : L ≤ 3072) (e1 : xs (nI i + 1).toNatClampNeg = a1) (e2 : xs (nI i + 2).toNatClampNeg = a2) (hX : fX6_campOf Sx a1 a2 = some (Sx1, v)) (hM : fX7_campOf Sm a1 a2 = some (Sm1, v)) (K : LW q X Sx1 Sm1 1382 [(0, .ref b), (1, rf (qX q) 0), (2, rf (qM q) 0), (3, .int (nI i))] []) : LW q X Sx Sm 827 [(0, .ref b), (1, rf (qX q) 0), (2, rf (qM q) 0), (3, .int (nI i))] [] := by
  refine l_aload C dL_law_827 rfl 1 rfl ?_
  refine l_aload C dL_law_828 rfl 0 rfl ?_
  refine l_iload C dL_law_829 rfl 3 rfl ?_
  refine l_iconst (v := 1) C dL_law_830 (by decide) ?_
  refine l_iadd C dL_law_831 ?_
  refine l_sld C (vin (k := 1) hi hL (by decide) (by decide)) e1 dL_law_832 ?_
  refine l_aload C dL_law_833 rfl 0 rfl ?_
  refine l_iload C dL_law_834 rfl 3 rfl ?_
  refine l_iconst (v := 2) C dL_law_835 (by decide) ?_
  refine l_iadd C dL_law_836 ?_
  refine l_sld C (vin (k := 2) hi hL (by decide) (by decide)) e2 dL_law_837 ?_
  refine l_X C dL_law_838 (mX6_campOf hX) lnL_111 mvX6_campOf rfl ⟨(Nat.le_of_ble_eq_true rfl), (Nat.le_of_ble_eq_true rfl)⟩ [] rfl (Nat.le_of_ble_eq_true rfl) ?_
  refine l_aload C dL_law_841 rfl 2 rfl ?_
  refine l_aload C dL_law_842 rfl 0 rfl ?_
  refine l_iload C dL_law_843 rfl 3 rfl ?_
  refine l_iconst (v := 1) C dL_law_844 (by decide) ?_
  refine l_iadd C dL_law_845 ?_
  refine l_sld C (vin (k := 1) hi hL (by decide) (by decide)) e1 dL_law_846 ?_
  refine l_aload C dL_law_847 rfl 0 rfl ?_
  refine l_iload C dL_law_848 rfl 3 rfl ?_
  refine l_iconst (v := 2) C dL_law_849 (by decide) ?_
  refine l_iadd C dL_law_850 ?_
  refine l_sld C (vin (k := 2) hi hL (by decide) (by decide)) e2 dL_law_851 ?_
  refine l_M C dL_law_852 (mX7_campOf hM) lnL_114 mvX7_campOf rfl ⟨(Nat.le_of_ble_eq_true rfl), (Nat.le_of_ble_eq_true rfl)⟩ [.int v] rfl (Nat.le_of_ble_eq_true rfl) ?_
  refine l_same C 1382 dL_law_855 (by decide) ?_
  exact K
theorem lc_herd {q : QT} {X : XT} {b L i : Nat} {xs : Nat → Int32} {Sx Sm : St} {F : Nat} {a1 a2 : Int32} {Sx1 : St} {Sm1 : St} {v : Int32} (C : LOk q X b L xs) (hi : i + 6 ≤ L) (hL : L ≤ 3072) (e1 : xs (nI i + 1).toNatClampNeg = a1) (e2 : xs (nI i + 2).toNatClampNeg = a2) (hX : fX6_herd Sx a1 a2 = some (Sx1, v)) (hM : fX7_herd Sm a1 a2 = some (Sm1, v)) (K : LW q X Sx1 Sm1 1382 [(0, .ref b), (1, rf (qX q) 0), (2, rf (qM q) 0), (3, .int (nI i))] []) : LW q X Sx Sm 860 [(0, .ref b), (1, rf (qX q) 0), (2, rf (qM q) 0), (3, .int (nI i))] [] := by
  refine l_aload C dL_law_860 rfl 1 rfl ?_
  refine l_aload C dL_law_861 rfl 0 rfl ?_
  refine l_iload C dL_law_862 rfl 3 rfl ?_
  refine l_iconst (v := 1) C dL_law_863 (by decide) ?_
  refine l_iadd C dL_law_864 ?_
  refine l_sld C (vin (k := 1) hi hL (by decide) (by decide)) e1 dL_law_865 ?_
  refine l_aload C dL_law_866 rfl 0 rfl ?_
  refine l_iload C dL_law_867 rfl 3 rfl ?_
  refine l_iconst (v := 2) C dL_law_868 (by decide) ?_
  refine l_iadd C dL_law_869 ?_
  refine l_sld C (vin (k := 2) hi hL (by decide) (by decide)) e2 dL_law_870 ?_
  refine l_X C dL_law_871 (mX6_herd hX) lnL_115 mvX6_herd rfl ⟨(Nat.le_of_ble_eq_true rfl), (Nat.le_of_ble_eq_true rfl)⟩ [] rfl (Nat.le_of_ble_eq_true rfl) ?_
  refine l_aload C dL_law_874 rfl 2 rfl ?_
  refine l_aload C dL_law_875 rfl 0 rfl ?_
  refine l_iload C dL_law_876 rfl 3 rfl ?_
  refine l_iconst (v := 1) C dL_law_877 (by decide) ?_
  refine l_iadd C dL_law_878 ?_
  refine l_sld C (vin (k := 1) hi hL (by decide) (by decide)) e1 dL_law_879 ?_
  refine l_aload C dL_law_880 rfl 0 rfl ?_
  refine l_iload C dL_law_881 rfl 3 rfl ?_
  refine l_iconst (v := 2) C dL_law_882 (by decide) ?_
  refine l_iadd C dL_law_883 ?_
  refine l_sld C (vin (k := 2) hi hL (by decide) (by decide)) e2 dL_law_884 ?_
  refine l_M C dL_law_885 (mX7_herd hM) lnL_118 mvX7_herd rfl ⟨(Nat.le_of_ble_eq_true rfl), (Nat.le_of_ble_eq_true rfl)⟩ [.int v] rfl (Nat.le_of_ble_eq_true rfl) ?_
  refine l_same C 1382 dL_law_888 (by decide) ?_
  exact K
theorem lc_year {q : QT} {X : XT} {b L i : Nat} {xs : Nat → Int32} {Sx Sm : St} {F : Nat} {a1 a2 a3 : Int32} {Sx1 : St} {Sm1 : St} {v : Int32} (C : LOk q X b L xs) (hi : i + 6 ≤ L) (hL : L ≤ 3072) (e1 : xs (nI i + 1).toNatClampNeg = a1) (e2 : xs (nI i + 2).toNatClampNeg = a2) (e3 : xs (nI i + 3).toNatClampNeg = a3) (hX : fX6_year F Sx a1 a2 a3 = some (Sx1, v)) (hM : fX7_year F Sm a1 a2 a3 = some (Sm1, v)) (K : LW q X Sx1 Sm1 1382 [(0, .ref b), (1, rf (qX q) 0), (2, rf (qM q) 0), (3, .int (nI i))] []) : LW q X Sx Sm 893 [(0, .ref b), (1, rf (qX q) 0), (2, rf (qM q) 0), (3, .int (nI i))] [] := by
  refine l_aload C dL_law_893 rfl 1 rfl ?_
  refine l_aload C dL_law_894 rfl 0 rfl ?_
  refine l_iload C dL_law_895 rfl 3 rfl ?_
  refine l_iconst (v := 1) C dL_law_896 (by decide) ?_
  refine l_iadd C dL_law_897 ?_
  refine l_sld C (vin (k := 1) hi hL (by decide) (by decide)) e1 dL_law_898 ?_
  refine l_aload C dL_law_899 rfl 0 rfl ?_
  refine l_iload C dL_law_900 rfl 3 rfl ?_
  refine l_iconst (v := 2) C dL_law_901 (by decide) ?_
  refine l_iadd C dL_law_902 ?_
  refine l_sld C (vin (k := 2) hi hL (by decide) (by decide)) e2 dL_law_903 ?_
  refine l_aload C dL_law_904 rfl 0 rfl ?_
  refine l_iload C dL_law_905 rfl 3 rfl ?_
  refine l_iconst (v := 3) C dL_law_906 (by decide) ?_
  refine l_iadd C dL_law_907 ?_
  refine l_sld C (vin (k := 3) hi hL (by decide) (by decide)) e3 dL_law_908 ?_
  refine l_X C dL_law_909 (mX6_year hX) lnL_119 mvX6_year rfl ⟨(Nat.le_of_ble_eq_true rfl), (Nat.le_of_ble_eq_true rfl)⟩ [] rfl (Nat.le_of_ble_eq_true rfl) ?_
  refine l_aload C dL_law_912 rfl 2 rfl ?_
  refine l_aload C dL_law_913 rfl 0 rfl ?_
  refine l_iload C dL_law_914 rfl 3 rfl ?_
  refine l_iconst (v := 1) C dL_law_915 (by decide) ?_
  refine l_iadd C dL_law_916 ?_
  refine l_sld C (vin (k := 1) hi hL (by decide) (by decide)) e1 dL_law_917 ?_
  refine l_aload C dL_law_918 rfl 0 rfl ?_
  refine l_iload C dL_law_919 rfl 3 rfl ?_
  refine l_iconst (v := 2) C dL_law_920 (by decide) ?_
  refine l_iadd C dL_law_921 ?_
  refine l_sld C (vin (k := 2) hi hL (by decide) (by decide)) e2 dL_law_922 ?_
  refine l_aload C dL_law_923 rfl 0 rfl ?_
  refine l_iload C dL_law_924 rfl 3 rfl ?_
  refine l_iconst (v := 3) C dL_law_925 (by decide) ?_
  refine l_iadd C dL_law_926 ?_
  refine l_sld C (vin (k := 3) hi hL (by decide) (by decide)) e3 dL_law_927 ?_
  refine l_M C dL_law_928 (mX7_year hM) lnL_122 mvX7_year rfl ⟨(Nat.le_of_ble_eq_true rfl), (Nat.le_of_ble_eq_true rfl)⟩ [.int v] rfl (Nat.le_of_ble_eq_true rfl) ?_
  refine l_same C 1382 dL_law_931 (by decide) ?_
  exact K
theorem lc_moves {q : QT} {X : XT} {b L i : Nat} {xs : Nat → Int32} {Sx Sm : St} {F : Nat} {a1 a2 : Int32} {Sx1 : St} {Sm1 : St} {v : Int32} (C : LOk q X b L xs) (hi : i + 6 ≤ L) (hL : L ≤ 3072) (e1 : xs (nI i + 1).toNatClampNeg = a1) (e2 : xs (nI i + 2).toNatClampNeg = a2) (hX : fX6_moves F Sx a1 a2 = some (Sx1, v)) (hM : fX7_moves F Sm a1 a2 = some (Sm1, v)) (K : LW q X Sx1 Sm1 1382 [(0, .ref b), (1, rf (qX q) 0), (2, rf (qM q) 0), (3, .int (nI i))] []) : LW q X Sx Sm 936 [(0, .ref b), (1, rf (qX q) 0), (2, rf (qM q) 0), (3, .int (nI i))] [] := by
  refine l_aload C dL_law_936 rfl 1 rfl ?_
  refine l_aload C dL_law_937 rfl 0 rfl ?_
  refine l_iload C dL_law_938 rfl 3 rfl ?_
  refine l_iconst (v := 1) C dL_law_939 (by decide) ?_
  refine l_iadd C dL_law_940 ?_
  refine l_sld C (vin (k := 1) hi hL (by decide) (by decide)) e1 dL_law_941 ?_
  refine l_aload C dL_law_942 rfl 0 rfl ?_
  refine l_iload C dL_law_943 rfl 3 rfl ?_
  refine l_iconst (v := 2) C dL_law_944 (by decide) ?_
  refine l_iadd C dL_law_945 ?_
  refine l_sld C (vin (k := 2) hi hL (by decide) (by decide)) e2 dL_law_946 ?_
  refine l_X C dL_law_947 (mX6_moves hX) lnL_123 mvX6_moves rfl ⟨(Nat.le_of_ble_eq_true rfl), (Nat.le_of_ble_eq_true rfl)⟩ [] rfl (Nat.le_of_ble_eq_true rfl) ?_
  refine l_aload C dL_law_950 rfl 2 rfl ?_
  refine l_aload C dL_law_951 rfl 0 rfl ?_
  refine l_iload C dL_law_952 rfl 3 rfl ?_
  refine l_iconst (v := 1) C dL_law_953 (by decide) ?_
  refine l_iadd C dL_law_954 ?_
  refine l_sld C (vin (k := 1) hi hL (by decide) (by decide)) e1 dL_law_955 ?_
  refine l_aload C dL_law_956 rfl 0 rfl ?_
  refine l_iload C dL_law_957 rfl 3 rfl ?_
  refine l_iconst (v := 2) C dL_law_958 (by decide) ?_
  refine l_iadd C dL_law_959 ?_
  refine l_sld C (vin (k := 2) hi hL (by decide) (by decide)) e2 dL_law_960 ?_
  refine l_M C dL_law_961 (mX7_moves hM) lnL_126 mvX7_moves rfl ⟨(Nat.le_of_ble_eq_true rfl), (Nat.le_of_ble_eq_true rfl)⟩ [.int v] rfl (Nat.le_of_ble_eq_true rfl) ?_
  refine l_same C 1382 dL_law_964 (by decide) ?_
  exact K
theorem lc_feed {q : QT} {X : XT} {b L i : Nat} {xs : Nat → Int32} {Sx Sm : St} {F : Nat} {a1 a2 : Int32} {Sx1 : St} {Sm1 : St} {v : Int32} (C : LOk q X b L xs) (hi : i + 6 ≤ L) (hL : L ≤ 3072) (e1 : xs (nI i + 1).toNatClampNeg = a1) (e2 : xs (nI i + 2).toNatClampNeg = a2) (hX : fX6_feed F Sx a1 a2 = some (Sx1, v)) (hM : fX7_feed F Sm a1 a2 = some (Sm1, v)) (K : LW q X Sx1 Sm1 1382 [(0, .ref b), (1, rf (qX q) 0), (2, rf (qM q) 0), (3, .int (nI i))] []) : LW q X Sx Sm 969 [(0, .ref b), (1, rf (qX q) 0), (2, rf (qM q) 0), (3, .int (nI i))] [] := by
  refine l_aload C dL_law_969 rfl 1 rfl ?_
  refine l_aload C dL_law_970 rfl 0 rfl ?_
  refine l_iload C dL_law_971 rfl 3 rfl ?_
  refine l_iconst (v := 1) C dL_law_972 (by decide) ?_
  refine l_iadd C dL_law_973 ?_
  refine l_sld C (vin (k := 1) hi hL (by decide) (by decide)) e1 dL_law_974 ?_
  refine l_aload C dL_law_975 rfl 0 rfl ?_
  refine l_iload C dL_law_976 rfl 3 rfl ?_
  refine l_iconst (v := 2) C dL_law_977 (by decide) ?_
  refine l_iadd C dL_law_978 ?_
  refine l_sld C (vin (k := 2) hi hL (by decide) (by decide)) e2 dL_law_979 ?_
  refine l_X C dL_law_980 (mX6_feed hX) lnL_127 mvX6_feed rfl ⟨(Nat.le_of_ble_eq_true rfl), (Nat.le_of_ble_eq_true rfl)⟩ [] rfl (Nat.le_of_ble_eq_true rfl) ?_
  refine l_aload C dL_law_983 rfl 2 rfl ?_
  refine l_aload C dL_law_984 rfl 0 rfl ?_
  refine l_iload C dL_law_985 rfl 3 rfl ?_
  refine l_iconst (v := 1) C dL_law_986 (by decide) ?_
  refine l_iadd C dL_law_987 ?_
  refine l_sld C (vin (k := 1) hi hL (by decide) (by decide)) e1 dL_law_988 ?_
  refine l_aload C dL_law_989 rfl 0 rfl ?_
  refine l_iload C dL_law_990 rfl 3 rfl ?_
  refine l_iconst (v := 2) C dL_law_991 (by decide) ?_
  refine l_iadd C dL_law_992 ?_
  refine l_sld C (vin (k := 2) hi hL (by decide) (by decide)) e2 dL_law_993 ?_
  refine l_M C dL_law_994 (mX7_feed hM) lnL_130 mvX7_feed rfl ⟨(Nat.le_of_ble_eq_true rfl), (Nat.le_of_ble_eq_true rfl)⟩ [.int v] rfl (Nat.le_of_ble_eq_true rfl) ?_
  refine l_same C 1382 dL_law_997 (by decide) ?_
  exact K
theorem lc_wipe {q : QT} {X : XT} {b L i : Nat} {xs : Nat → Int32} {Sx Sm : St} {F : Nat} {Sx1 : St} {Sm1 : St} {v : Int32} (C : LOk q X b L xs) (hi : i + 6 ≤ L) (hL : L ≤ 3072)  (hX : fX6_wipe Sx  = some (Sx1, v)) (hM : fX7_wipe Sm  = some (Sm1, v)) (K : LW q X Sx1 Sm1 1382 [(0, .ref b), (1, rf (qX q) 0), (2, rf (qM q) 0), (3, .int (nI i))] []) : LW q X Sx Sm 1002 [(0, .ref b), (1, rf (qX q) 0), (2, rf (qM q) 0), (3, .int (nI i))] [] := by
  refine l_aload C dL_law_1002 rfl 1 rfl ?_
  refine l_X C dL_law_1003 (mX6_wipe hX) lnL_131 mvX6_wipe rfl ⟨(Nat.le_of_ble_eq_true rfl), (Nat.le_of_ble_eq_true rfl)⟩ [] rfl (Nat.le_of_ble_eq_true rfl) ?_
  refine l_aload C dL_law_1006 rfl 2 rfl ?_
  refine l_M C dL_law_1007 (mX7_wipe hM) lnL_134 mvX7_wipe rfl ⟨(Nat.le_of_ble_eq_true rfl), (Nat.le_of_ble_eq_true rfl)⟩ [.int v] rfl (Nat.le_of_ble_eq_true rfl) ?_
  refine l_same C 1382 dL_law_1010 (by decide) ?_
  exact K
theorem lc_house {q : QT} {X : XT} {b L i : Nat} {xs : Nat → Int32} {Sx Sm : St} {F : Nat} {Sx1 : St} {Sm1 : St} {v : Int32} (C : LOk q X b L xs) (hi : i + 6 ≤ L) (hL : L ≤ 3072)  (hX : fX6_house F Sx  = some (Sx1, v)) (hM : fX7_house F Sm  = some (Sm1, v)) (K : LW q X Sx1 Sm1 1382 [(0, .ref b), (1, rf (qX q) 0), (2, rf (qM q) 0), (3, .int (nI i))] []) : LW q X Sx Sm 1015 [(0, .ref b), (1, rf (qX q) 0), (2, rf (qM q) 0), (3, .int (nI i))] [] := by
  refine l_aload C dL_law_1015 rfl 1 rfl ?_
  refine l_X C dL_law_1016 (mX6_house hX) lnL_135 mvX6_house rfl ⟨(Nat.le_of_ble_eq_true rfl), (Nat.le_of_ble_eq_true rfl)⟩ [] rfl (Nat.le_of_ble_eq_true rfl) ?_
  refine l_aload C dL_law_1019 rfl 2 rfl ?_
  refine l_M C dL_law_1020 (mX7_house hM) lnL_138 mvX7_house rfl ⟨(Nat.le_of_ble_eq_true rfl), (Nat.le_of_ble_eq_true rfl)⟩ [.int v] rfl (Nat.le_of_ble_eq_true rfl) ?_
  refine l_same C 1382 dL_law_1023 (by decide) ?_
  exact K
theorem lc_sheet {q : QT} {X : XT} {b L i : Nat} {xs : Nat → Int32} {Sx Sm : St} {F : Nat} {a1 a2 a3 : Int32} {Sx1 : St} {Sm1 : St} {v : Int32} (C : LOk q X b L xs) (hi : i + 6 ≤ L) (hL : L ≤ 3072) (e1 : xs (nI i + 1).toNatClampNeg = a1) (e2 : xs (nI i + 2).toNatClampNeg = a2) (e3 : xs (nI i + 3).toNatClampNeg = a3) (hX : fX6_sheet F Sx a1 a2 a3 = some (Sx1, v)) (hM : fX7_sheet F Sm a1 a2 a3 = some (Sm1, v)) (K : LW q X Sx1 Sm1 1382 [(0, .ref b), (1, rf (qX q) 0), (2, rf (qM q) 0), (3, .int (nI i))] []) : LW q X Sx Sm 1028 [(0, .ref b), (1, rf (qX q) 0), (2, rf (qM q) 0), (3, .int (nI i))] [] := by
  refine l_aload C dL_law_1028 rfl 1 rfl ?_
  refine l_aload C dL_law_1029 rfl 0 rfl ?_
  refine l_iload C dL_law_1030 rfl 3 rfl ?_
  refine l_iconst (v := 1) C dL_law_1031 (by decide) ?_
  refine l_iadd C dL_law_1032 ?_
  refine l_sld C (vin (k := 1) hi hL (by decide) (by decide)) e1 dL_law_1033 ?_
  refine l_aload C dL_law_1034 rfl 0 rfl ?_
  refine l_iload C dL_law_1035 rfl 3 rfl ?_
  refine l_iconst (v := 2) C dL_law_1036 (by decide) ?_
  refine l_iadd C dL_law_1037 ?_
  refine l_sld C (vin (k := 2) hi hL (by decide) (by decide)) e2 dL_law_1038 ?_
  refine l_aload C dL_law_1039 rfl 0 rfl ?_
  refine l_iload C dL_law_1040 rfl 3 rfl ?_
  refine l_iconst (v := 3) C dL_law_1041 (by decide) ?_
  refine l_iadd C dL_law_1042 ?_
  refine l_sld C (vin (k := 3) hi hL (by decide) (by decide)) e3 dL_law_1043 ?_
  refine l_X C dL_law_1044 (mX6_sheet hX) lnL_139 mvX6_sheet rfl ⟨(Nat.le_of_ble_eq_true rfl), (Nat.le_of_ble_eq_true rfl)⟩ [] rfl (Nat.le_of_ble_eq_true rfl) ?_
  refine l_aload C dL_law_1047 rfl 2 rfl ?_
  refine l_aload C dL_law_1048 rfl 0 rfl ?_
  refine l_iload C dL_law_1049 rfl 3 rfl ?_
  refine l_iconst (v := 1) C dL_law_1050 (by decide) ?_
  refine l_iadd C dL_law_1051 ?_
  refine l_sld C (vin (k := 1) hi hL (by decide) (by decide)) e1 dL_law_1052 ?_
  refine l_aload C dL_law_1053 rfl 0 rfl ?_
  refine l_iload C dL_law_1054 rfl 3 rfl ?_
  refine l_iconst (v := 2) C dL_law_1055 (by decide) ?_
  refine l_iadd C dL_law_1056 ?_
  refine l_sld C (vin (k := 2) hi hL (by decide) (by decide)) e2 dL_law_1057 ?_
  refine l_aload C dL_law_1058 rfl 0 rfl ?_
  refine l_iload C dL_law_1059 rfl 3 rfl ?_
  refine l_iconst (v := 3) C dL_law_1060 (by decide) ?_
  refine l_iadd C dL_law_1061 ?_
  refine l_sld C (vin (k := 3) hi hL (by decide) (by decide)) e3 dL_law_1062 ?_
  refine l_M C dL_law_1063 (mX7_sheet hM) lnL_142 mvX7_sheet rfl ⟨(Nat.le_of_ble_eq_true rfl), (Nat.le_of_ble_eq_true rfl)⟩ [.int v] rfl (Nat.le_of_ble_eq_true rfl) ?_
  refine l_same C 1382 dL_law_1066 (by decide) ?_
  exact K
theorem lc_write {q : QT} {X : XT} {b L i : Nat} {xs : Nat → Int32} {Sx Sm : St} {F : Nat} {a1 a2 a3 a4 : Int32} {Sx1 : St} {Sm1 : St} {v : Int64} (C : LOk q X b L xs) (hi : i + 6 ≤ L) (hL : L ≤ 3072) (e1 : xs (nI i + 1).toNatClampNeg = a1) (e2 : xs (nI i + 2).toNatClampNeg = a2) (e3 : xs (nI i + 3).toNatClampNeg = a3) (e4 : xs (nI i + 4).toNatClampNeg = a4) (hX : fX6_write Sx a1 a2 (a3.toInt64 <<< ((32 : Int32).toInt64 &&& 63) ||| a4.toInt64 &&& 4294967295) = some (Sx1, v)) (hM : fX7_write Sm a1 a2 (a3.toInt64 <<< ((32 : Int32).toInt64 &&& 63) ||| a4.toInt64 &&& 4294967295) = some (Sm1, v)) (K : LW q X Sx1 Sm1 1382 [(0, .ref b), (1, rf (qX q) 0), (2, rf (qM q) 0), (3, .int (nI i))] []) : LW q X Sx Sm 1071 [(0, .ref b), (1, rf (qX q) 0), (2, rf (qM q) 0), (3, .int (nI i))] [] := by
  refine l_aload C dL_law_1071 rfl 1 rfl ?_
  refine l_aload C dL_law_1072 rfl 0 rfl ?_
  refine l_iload C dL_law_1073 rfl 3 rfl ?_
  refine l_iconst (v := 1) C dL_law_1074 (by decide) ?_
  refine l_iadd C dL_law_1075 ?_
  refine l_sld C (vin (k := 1) hi hL (by decide) (by decide)) e1 dL_law_1076 ?_
  refine l_aload C dL_law_1077 rfl 0 rfl ?_
  refine l_iload C dL_law_1078 rfl 3 rfl ?_
  refine l_iconst (v := 2) C dL_law_1079 (by decide) ?_
  refine l_iadd C dL_law_1080 ?_
  refine l_sld C (vin (k := 2) hi hL (by decide) (by decide)) e2 dL_law_1081 ?_
  refine l_aload C dL_law_1082 rfl 0 rfl ?_
  refine l_iload C dL_law_1083 rfl 3 rfl ?_
  refine l_iconst (v := 3) C dL_law_1084 (by decide) ?_
  refine l_iadd C dL_law_1085 ?_
  refine l_sld C (vin (k := 3) hi hL (by decide) (by decide)) e3 dL_law_1086 ?_
  refine l_i2l C dL_law_1087 ?_
  refine l_bipush (v := 32) C dL_law_1088 (by decide) ?_
  refine l_lshl C dL_law_1090 ?_
  refine l_aload C dL_law_1091 rfl 0 rfl ?_
  refine l_iload C dL_law_1092 rfl 3 rfl ?_
  refine l_iconst (v := 4) C dL_law_1093 (by decide) ?_
  refine l_iadd C dL_law_1094 ?_
  refine l_sld C (vin (k := 4) hi hL (by decide) (by decide)) e4 dL_law_1095 ?_
  refine l_i2l C dL_law_1096 ?_
  refine l_ldc2 C dL_law_1097 klL_143 ?_
  refine l_land C dL_law_1100 ?_
  refine l_lor C dL_law_1101 ?_
  refine l_X C dL_law_1102 (mX6_write hX) lnL_145 mvX6_write rfl ⟨(Nat.le_of_ble_eq_true rfl), (Nat.le_of_ble_eq_true rfl)⟩ [] rfl (Nat.le_of_ble_eq_true rfl) ?_
  refine l_aload C dL_law_1105 rfl 2 rfl ?_
  refine l_aload C dL_law_1106 rfl 0 rfl ?_
  refine l_iload C dL_law_1107 rfl 3 rfl ?_
  refine l_iconst (v := 1) C dL_law_1108 (by decide) ?_
  refine l_iadd C dL_law_1109 ?_
  refine l_sld C (vin (k := 1) hi hL (by decide) (by decide)) e1 dL_law_1110 ?_
  refine l_aload C dL_law_1111 rfl 0 rfl ?_
  refine l_iload C dL_law_1112 rfl 3 rfl ?_
  refine l_iconst (v := 2) C dL_law_1113 (by decide) ?_
  refine l_iadd C dL_law_1114 ?_
  refine l_sld C (vin (k := 2) hi hL (by decide) (by decide)) e2 dL_law_1115 ?_
  refine l_aload C dL_law_1116 rfl 0 rfl ?_
  refine l_iload C dL_law_1117 rfl 3 rfl ?_
  refine l_iconst (v := 3) C dL_law_1118 (by decide) ?_
  refine l_iadd C dL_law_1119 ?_
  refine l_sld C (vin (k := 3) hi hL (by decide) (by decide)) e3 dL_law_1120 ?_
  refine l_i2l C dL_law_1121 ?_
  refine l_bipush (v := 32) C dL_law_1122 (by decide) ?_
  refine l_lshl C dL_law_1124 ?_
  refine l_aload C dL_law_1125 rfl 0 rfl ?_
  refine l_iload C dL_law_1126 rfl 3 rfl ?_
  refine l_iconst (v := 4) C dL_law_1127 (by decide) ?_
  refine l_iadd C dL_law_1128 ?_
  refine l_sld C (vin (k := 4) hi hL (by decide) (by decide)) e4 dL_law_1129 ?_
  refine l_i2l C dL_law_1130 ?_
  refine l_ldc2 C dL_law_1131 klL_143 ?_
  refine l_land C dL_law_1134 ?_
  refine l_lor C dL_law_1135 ?_
  refine l_M C dL_law_1136 (mX7_write hM) lnL_149 mvX7_write rfl ⟨(Nat.le_of_ble_eq_true rfl), (Nat.le_of_ble_eq_true rfl)⟩ [.long v] rfl (Nat.le_of_ble_eq_true rfl) ?_
  refine l_lcmp C dL_law_1139 ?_
  refine l_eqT C 1382 dL_law_1140 (by decide) (by simp [lg_cmp]) ?_
  exact K
theorem lc_copy {q : QT} {X : XT} {b L i : Nat} {xs : Nat → Int32} {Sx Sm : St} {F : Nat} {a1 a2 a3 a4 a5 : Int32} {Sx1 : St} {Sm1 : St} {v : Int32} (C : LOk q X b L xs) (hi : i + 6 ≤ L) (hL : L ≤ 3072) (e1 : xs (nI i + 1).toNatClampNeg = a1) (e2 : xs (nI i + 2).toNatClampNeg = a2) (e3 : xs (nI i + 3).toNatClampNeg = a3) (e4 : xs (nI i + 4).toNatClampNeg = a4) (e5 : xs (nI i + 5).toNatClampNeg = a5) (hX : fX6_copy Sx a1 a2 a3 a4 a5 = some (Sx1, v)) (hM : fX7_copy F Sm a1 a2 a3 a4 a5 = some (Sm1, v)) (K : LW q X Sx1 Sm1 1382 [(0, .ref b), (1, rf (qX q) 0), (2, rf (qM q) 0), (3, .int (nI i))] []) : LW q X Sx Sm 1145 [(0, .ref b), (1, rf (qX q) 0), (2, rf (qM q) 0), (3, .int (nI i))] [] := by
  refine l_aload C dL_law_1145 rfl 1 rfl ?_
  refine l_aload C dL_law_1146 rfl 0 rfl ?_
  refine l_iload C dL_law_1147 rfl 3 rfl ?_
  refine l_iconst (v := 1) C dL_law_1148 (by decide) ?_
  refine l_iadd C dL_law_1149 ?_
  refine l_sld C (vin (k := 1) hi hL (by decide) (by decide)) e1 dL_law_1150 ?_
  refine l_aload C dL_law_1151 rfl 0 rfl ?_
  refine l_iload C dL_law_1152 rfl 3 rfl ?_
  refine l_iconst (v := 2) C dL_law_1153 (by decide) ?_
  refine l_iadd C dL_law_1154 ?_
  refine l_sld C (vin (k := 2) hi hL (by decide) (by decide)) e2 dL_law_1155 ?_
  refine l_aload C dL_law_1156 rfl 0 rfl ?_
  refine l_iload C dL_law_1157 rfl 3 rfl ?_
  refine l_iconst (v := 3) C dL_law_1158 (by decide) ?_
  refine l_iadd C dL_law_1159 ?_
  refine l_sld C (vin (k := 3) hi hL (by decide) (by decide)) e3 dL_law_1160 ?_
  refine l_aload C dL_law_1161 rfl 0 rfl ?_
  refine l_iload C dL_law_1162 rfl 3 rfl ?_
  refine l_iconst (v := 4) C dL_law_1163 (by decide) ?_
  refine l_iadd C dL_law_1164 ?_
  refine l_sld C (vin (k := 4) hi hL (by decide) (by decide)) e4 dL_law_1165 ?_
  refine l_aload C dL_law_1166 rfl 0 rfl ?_
  refine l_iload C dL_law_1167 rfl 3 rfl ?_
  refine l_iconst (v := 5) C dL_law_1168 (by decide) ?_
  refine l_iadd C dL_law_1169 ?_
  refine l_sld C (vin (k := 5) hi hL (by decide) (by decide)) e5 dL_law_1170 ?_
  refine l_X C dL_law_1171 (mX6_copy hX) lnL_150 mvX6_copy rfl ⟨(Nat.le_of_ble_eq_true rfl), (Nat.le_of_ble_eq_true rfl)⟩ [] rfl (Nat.le_of_ble_eq_true rfl) ?_
  refine l_aload C dL_law_1174 rfl 2 rfl ?_
  refine l_aload C dL_law_1175 rfl 0 rfl ?_
  refine l_iload C dL_law_1176 rfl 3 rfl ?_
  refine l_iconst (v := 1) C dL_law_1177 (by decide) ?_
  refine l_iadd C dL_law_1178 ?_
  refine l_sld C (vin (k := 1) hi hL (by decide) (by decide)) e1 dL_law_1179 ?_
  refine l_aload C dL_law_1180 rfl 0 rfl ?_
  refine l_iload C dL_law_1181 rfl 3 rfl ?_
  refine l_iconst (v := 2) C dL_law_1182 (by decide) ?_
  refine l_iadd C dL_law_1183 ?_
  refine l_sld C (vin (k := 2) hi hL (by decide) (by decide)) e2 dL_law_1184 ?_
  refine l_aload C dL_law_1185 rfl 0 rfl ?_
  refine l_iload C dL_law_1186 rfl 3 rfl ?_
  refine l_iconst (v := 3) C dL_law_1187 (by decide) ?_
  refine l_iadd C dL_law_1188 ?_
  refine l_sld C (vin (k := 3) hi hL (by decide) (by decide)) e3 dL_law_1189 ?_
  refine l_aload C dL_law_1190 rfl 0 rfl ?_
  refine l_iload C dL_law_1191 rfl 3 rfl ?_
  refine l_iconst (v := 4) C dL_law_1192 (by decide) ?_
  refine l_iadd C dL_law_1193 ?_
  refine l_sld C (vin (k := 4) hi hL (by decide) (by decide)) e4 dL_law_1194 ?_
  refine l_aload C dL_law_1195 rfl 0 rfl ?_
  refine l_iload C dL_law_1196 rfl 3 rfl ?_
  refine l_iconst (v := 5) C dL_law_1197 (by decide) ?_
  refine l_iadd C dL_law_1198 ?_
  refine l_sld C (vin (k := 5) hi hL (by decide) (by decide)) e5 dL_law_1199 ?_
  refine l_M C dL_law_1200 (mX7_copy hM) lnL_154 mvX7_copy rfl ⟨(Nat.le_of_ble_eq_true rfl), (Nat.le_of_ble_eq_true rfl)⟩ [.int v] rfl (Nat.le_of_ble_eq_true rfl) ?_
  refine l_same C 1382 dL_law_1203 (by decide) ?_
  exact K
theorem lc_lays {q : QT} {X : XT} {b L i : Nat} {xs : Nat → Int32} {Sx Sm : St} {F : Nat} {a1 a2 : Int32} {Sx1 : St} {Sm1 : St} {v : Int32} (C : LOk q X b L xs) (hi : i + 6 ≤ L) (hL : L ≤ 3072) (e1 : xs (nI i + 1).toNatClampNeg = a1) (e2 : xs (nI i + 2).toNatClampNeg = a2) (hX : fX6_lays F Sx a1 a2 = some (Sx1, v)) (hM : fX7_lays F Sm a1 a2 = some (Sm1, v)) (K : LW q X Sx1 Sm1 1382 [(0, .ref b), (1, rf (qX q) 0), (2, rf (qM q) 0), (3, .int (nI i))] []) : LW q X Sx Sm 1208 [(0, .ref b), (1, rf (qX q) 0), (2, rf (qM q) 0), (3, .int (nI i))] [] := by
  refine l_aload C dL_law_1208 rfl 1 rfl ?_
  refine l_aload C dL_law_1209 rfl 0 rfl ?_
  refine l_iload C dL_law_1210 rfl 3 rfl ?_
  refine l_iconst (v := 1) C dL_law_1211 (by decide) ?_
  refine l_iadd C dL_law_1212 ?_
  refine l_sld C (vin (k := 1) hi hL (by decide) (by decide)) e1 dL_law_1213 ?_
  refine l_aload C dL_law_1214 rfl 0 rfl ?_
  refine l_iload C dL_law_1215 rfl 3 rfl ?_
  refine l_iconst (v := 2) C dL_law_1216 (by decide) ?_
  refine l_iadd C dL_law_1217 ?_
  refine l_sld C (vin (k := 2) hi hL (by decide) (by decide)) e2 dL_law_1218 ?_
  refine l_X C dL_law_1219 (mX6_lays hX) lnL_155 mvX6_lays rfl ⟨(Nat.le_of_ble_eq_true rfl), (Nat.le_of_ble_eq_true rfl)⟩ [] rfl (Nat.le_of_ble_eq_true rfl) ?_
  refine l_aload C dL_law_1222 rfl 2 rfl ?_
  refine l_aload C dL_law_1223 rfl 0 rfl ?_
  refine l_iload C dL_law_1224 rfl 3 rfl ?_
  refine l_iconst (v := 1) C dL_law_1225 (by decide) ?_
  refine l_iadd C dL_law_1226 ?_
  refine l_sld C (vin (k := 1) hi hL (by decide) (by decide)) e1 dL_law_1227 ?_
  refine l_aload C dL_law_1228 rfl 0 rfl ?_
  refine l_iload C dL_law_1229 rfl 3 rfl ?_
  refine l_iconst (v := 2) C dL_law_1230 (by decide) ?_
  refine l_iadd C dL_law_1231 ?_
  refine l_sld C (vin (k := 2) hi hL (by decide) (by decide)) e2 dL_law_1232 ?_
  refine l_M C dL_law_1233 (mX7_lays hM) lnL_158 mvX7_lays rfl ⟨(Nat.le_of_ble_eq_true rfl), (Nat.le_of_ble_eq_true rfl)⟩ [.int v] rfl (Nat.le_of_ble_eq_true rfl) ?_
  refine l_same C 1382 dL_law_1236 (by decide) ?_
  exact K
theorem lc_costs {q : QT} {X : XT} {b L i : Nat} {xs : Nat → Int32} {Sx Sm : St} {F : Nat} {a1 a2 : Int32} {Sx1 : St} {Sm1 : St} {v : Int32} (C : LOk q X b L xs) (hi : i + 6 ≤ L) (hL : L ≤ 3072) (e1 : xs (nI i + 1).toNatClampNeg = a1) (e2 : xs (nI i + 2).toNatClampNeg = a2) (hX : fX6_costs F Sx a1 a2 = some (Sx1, v)) (hM : fX7_costs F Sm a1 a2 = some (Sm1, v)) (K : LW q X Sx1 Sm1 1382 [(0, .ref b), (1, rf (qX q) 0), (2, rf (qM q) 0), (3, .int (nI i))] []) : LW q X Sx Sm 1241 [(0, .ref b), (1, rf (qX q) 0), (2, rf (qM q) 0), (3, .int (nI i))] [] := by
  refine l_aload C dL_law_1241 rfl 1 rfl ?_
  refine l_aload C dL_law_1242 rfl 0 rfl ?_
  refine l_iload C dL_law_1243 rfl 3 rfl ?_
  refine l_iconst (v := 1) C dL_law_1244 (by decide) ?_
  refine l_iadd C dL_law_1245 ?_
  refine l_sld C (vin (k := 1) hi hL (by decide) (by decide)) e1 dL_law_1246 ?_
  refine l_aload C dL_law_1247 rfl 0 rfl ?_
  refine l_iload C dL_law_1248 rfl 3 rfl ?_
  refine l_iconst (v := 2) C dL_law_1249 (by decide) ?_
  refine l_iadd C dL_law_1250 ?_
  refine l_sld C (vin (k := 2) hi hL (by decide) (by decide)) e2 dL_law_1251 ?_
  refine l_X C dL_law_1252 (mX6_costs hX) lnL_159 mvX6_costs rfl ⟨(Nat.le_of_ble_eq_true rfl), (Nat.le_of_ble_eq_true rfl)⟩ [] rfl (Nat.le_of_ble_eq_true rfl) ?_
  refine l_aload C dL_law_1255 rfl 2 rfl ?_
  refine l_aload C dL_law_1256 rfl 0 rfl ?_
  refine l_iload C dL_law_1257 rfl 3 rfl ?_
  refine l_iconst (v := 1) C dL_law_1258 (by decide) ?_
  refine l_iadd C dL_law_1259 ?_
  refine l_sld C (vin (k := 1) hi hL (by decide) (by decide)) e1 dL_law_1260 ?_
  refine l_aload C dL_law_1261 rfl 0 rfl ?_
  refine l_iload C dL_law_1262 rfl 3 rfl ?_
  refine l_iconst (v := 2) C dL_law_1263 (by decide) ?_
  refine l_iadd C dL_law_1264 ?_
  refine l_sld C (vin (k := 2) hi hL (by decide) (by decide)) e2 dL_law_1265 ?_
  refine l_M C dL_law_1266 (mX7_costs hM) lnL_162 mvX7_costs rfl ⟨(Nat.le_of_ble_eq_true rfl), (Nat.le_of_ble_eq_true rfl)⟩ [.int v] rfl (Nat.le_of_ble_eq_true rfl) ?_
  refine l_same C 1382 dL_law_1269 (by decide) ?_
  exact K
theorem lc_read {q : QT} {X : XT} {b L i : Nat} {xs : Nat → Int32} {Sx Sm : St} {F : Nat} {a1 : Int32} {Sx1 : St} {Sm1 : St} {v : Int32} (C : LOk q X b L xs) (hi : i + 6 ≤ L) (hL : L ≤ 3072) (e1 : xs (nI i + 1).toNatClampNeg = a1) (hX : fX6_read F Sx a1 = some (Sx1, v)) (hM : fX7_read F Sm a1 = some (Sm1, v)) (K : LW q X Sx1 Sm1 1382 [(0, .ref b), (1, rf (qX q) 0), (2, rf (qM q) 0), (3, .int (nI i))] []) : LW q X Sx Sm 1274 [(0, .ref b), (1, rf (qX q) 0), (2, rf (qM q) 0), (3, .int (nI i))] [] := by
  refine l_aload C dL_law_1274 rfl 1 rfl ?_
  refine l_aload C dL_law_1275 rfl 0 rfl ?_
  refine l_iload C dL_law_1276 rfl 3 rfl ?_
  refine l_iconst (v := 1) C dL_law_1277 (by decide) ?_
  refine l_iadd C dL_law_1278 ?_
  refine l_sld C (vin (k := 1) hi hL (by decide) (by decide)) e1 dL_law_1279 ?_
  refine l_X C dL_law_1280 (mX6_read hX) lnL_163 mvX6_read rfl ⟨(Nat.le_of_ble_eq_true rfl), (Nat.le_of_ble_eq_true rfl)⟩ [] rfl (Nat.le_of_ble_eq_true rfl) ?_
  refine l_aload C dL_law_1283 rfl 2 rfl ?_
  refine l_aload C dL_law_1284 rfl 0 rfl ?_
  refine l_iload C dL_law_1285 rfl 3 rfl ?_
  refine l_iconst (v := 1) C dL_law_1286 (by decide) ?_
  refine l_iadd C dL_law_1287 ?_
  refine l_sld C (vin (k := 1) hi hL (by decide) (by decide)) e1 dL_law_1288 ?_
  refine l_M C dL_law_1289 (mX7_read hM) lnL_166 mvX7_read rfl ⟨(Nat.le_of_ble_eq_true rfl), (Nat.le_of_ble_eq_true rfl)⟩ [.int v] rfl (Nat.le_of_ble_eq_true rfl) ?_
  refine l_same C 1382 dL_law_1292 (by decide) ?_
  exact K
theorem lc_image {q : QT} {X : XT} {b L i : Nat} {xs : Nat → Int32} {Sx Sm : St} {F : Nat} {Sx1 : St} {Sm1 : St} {v : Int32} (C : LOk q X b L xs) (hi : i + 6 ≤ L) (hL : L ≤ 3072)  (hX : fX6_image Sx  = some (Sx1, v)) (hM : fX7_image F Sm  = some (Sm1, v)) (K : LW q X Sx1 Sm1 1382 [(0, .ref b), (1, rf (qX q) 0), (2, rf (qM q) 0), (3, .int (nI i))] []) : LW q X Sx Sm 1297 [(0, .ref b), (1, rf (qX q) 0), (2, rf (qM q) 0), (3, .int (nI i))] [] := by
  refine l_aload C dL_law_1297 rfl 1 rfl ?_
  refine l_X C dL_law_1298 (mX6_image hX) lnL_167 mvX6_image rfl ⟨(Nat.le_of_ble_eq_true rfl), (Nat.le_of_ble_eq_true rfl)⟩ [] rfl (Nat.le_of_ble_eq_true rfl) ?_
  refine l_aload C dL_law_1301 rfl 2 rfl ?_
  refine l_M C dL_law_1302 (mX7_image hM) lnL_170 mvX7_image rfl ⟨(Nat.le_of_ble_eq_true rfl), (Nat.le_of_ble_eq_true rfl)⟩ [.int v] rfl (Nat.le_of_ble_eq_true rfl) ?_
  refine l_same C 1382 dL_law_1305 (by decide) ?_
  exact K
theorem lc_undo {q : QT} {X : XT} {b L i : Nat} {xs : Nat → Int32} {Sx Sm : St} {F : Nat} {Sx1 : St} {Sm1 : St} {v : Int32} (C : LOk q X b L xs) (hi : i + 6 ≤ L) (hL : L ≤ 3072)  (hX : fX6_undo Sx  = some (Sx1, v)) (hM : fX7_undo F Sm  = some (Sm1, v)) (K : LW q X Sx1 Sm1 1382 [(0, .ref b), (1, rf (qX q) 0), (2, rf (qM q) 0), (3, .int (nI i))] []) : LW q X Sx Sm 1310 [(0, .ref b), (1, rf (qX q) 0), (2, rf (qM q) 0), (3, .int (nI i))] [] := by
  refine l_aload C dL_law_1310 rfl 1 rfl ?_
  refine l_X C dL_law_1311 (mX6_undo hX) lnL_171 mvX6_undo rfl ⟨(Nat.le_of_ble_eq_true rfl), (Nat.le_of_ble_eq_true rfl)⟩ [] rfl (Nat.le_of_ble_eq_true rfl) ?_
  refine l_aload C dL_law_1314 rfl 2 rfl ?_
  refine l_M C dL_law_1315 (mX7_undo hM) lnL_174 mvX7_undo rfl ⟨(Nat.le_of_ble_eq_true rfl), (Nat.le_of_ble_eq_true rfl)⟩ [.int v] rfl (Nat.le_of_ble_eq_true rfl) ?_
  refine l_same C 1382 dL_law_1318 (by decide) ?_
  exact K
theorem lc_tear {q : QT} {X : XT} {b L i : Nat} {xs : Nat → Int32} {Sx Sm : St} {F : Nat} {Sx1 : St} {Sm1 : St} {v : Int32} (C : LOk q X b L xs) (hi : i + 6 ≤ L) (hL : L ≤ 3072)  (hX : fX6_tear Sx  = some (Sx1, v)) (hM : fX7_tear Sm  = some (Sm1, v)) (K : LW q X Sx1 Sm1 1382 [(0, .ref b), (1, rf (qX q) 0), (2, rf (qM q) 0), (3, .int (nI i))] []) : LW q X Sx Sm 1323 [(0, .ref b), (1, rf (qX q) 0), (2, rf (qM q) 0), (3, .int (nI i))] [] := by
  refine l_aload C dL_law_1323 rfl 1 rfl ?_
  refine l_X C dL_law_1324 (mX6_tear hX) lnL_175 mvX6_tear rfl ⟨(Nat.le_of_ble_eq_true rfl), (Nat.le_of_ble_eq_true rfl)⟩ [] rfl (Nat.le_of_ble_eq_true rfl) ?_
  refine l_aload C dL_law_1327 rfl 2 rfl ?_
  refine l_M C dL_law_1328 (mX7_tear hM) lnL_178 mvX7_tear rfl ⟨(Nat.le_of_ble_eq_true rfl), (Nat.le_of_ble_eq_true rfl)⟩ [.int v] rfl (Nat.le_of_ble_eq_true rfl) ?_
  refine l_same C 1382 dL_law_1331 (by decide) ?_
  exact K
theorem lc_count {q : QT} {X : XT} {b L i : Nat} {xs : Nat → Int32} {Sx Sm : St} {F : Nat} {a1 : Int32} {Sx1 : St} {Sm1 : St} {v : Int32} (C : LOk q X b L xs) (hi : i + 6 ≤ L) (hL : L ≤ 3072) (e1 : xs (nI i + 1).toNatClampNeg = a1) (hX : fX6_count F Sx a1 = some (Sx1, v)) (hM : fX7_count F Sm a1 = some (Sm1, v)) (K : LW q X Sx1 Sm1 1382 [(0, .ref b), (1, rf (qX q) 0), (2, rf (qM q) 0), (3, .int (nI i))] []) : LW q X Sx Sm 1336 [(0, .ref b), (1, rf (qX q) 0), (2, rf (qM q) 0), (3, .int (nI i))] [] := by
  refine l_aload C dL_law_1336 rfl 1 rfl ?_
  refine l_aload C dL_law_1337 rfl 0 rfl ?_
  refine l_iload C dL_law_1338 rfl 3 rfl ?_
  refine l_iconst (v := 1) C dL_law_1339 (by decide) ?_
  refine l_iadd C dL_law_1340 ?_
  refine l_sld C (vin (k := 1) hi hL (by decide) (by decide)) e1 dL_law_1341 ?_
  refine l_X C dL_law_1342 (mX6_count hX) lnL_179 mvX6_count rfl ⟨(Nat.le_of_ble_eq_true rfl), (Nat.le_of_ble_eq_true rfl)⟩ [] rfl (Nat.le_of_ble_eq_true rfl) ?_
  refine l_aload C dL_law_1345 rfl 2 rfl ?_
  refine l_aload C dL_law_1346 rfl 0 rfl ?_
  refine l_iload C dL_law_1347 rfl 3 rfl ?_
  refine l_iconst (v := 1) C dL_law_1348 (by decide) ?_
  refine l_iadd C dL_law_1349 ?_
  refine l_sld C (vin (k := 1) hi hL (by decide) (by decide)) e1 dL_law_1350 ?_
  refine l_M C dL_law_1351 (mX7_count hM) lnL_182 mvX7_count rfl ⟨(Nat.le_of_ble_eq_true rfl), (Nat.le_of_ble_eq_true rfl)⟩ [.int v] rfl (Nat.le_of_ble_eq_true rfl) ?_
  refine l_same C 1382 dL_law_1354 (by decide) ?_
  exact K
theorem lc_status {q : QT} {X : XT} {b L i : Nat} {xs : Nat → Int32} {Sx Sm : St} {F : Nat} {a1 : Int32} {Sx1 : St} {Sm1 : St} {v : Int32} (C : LOk q X b L xs) (hi : i + 6 ≤ L) (hL : L ≤ 3072) (e1 : xs (nI i + 1).toNatClampNeg = a1) (hX : fX6_status F Sx a1 = some (Sx1, v)) (hM : fX7_status Sm a1 = some (Sm1, v)) (K : LW q X Sx1 Sm1 1382 [(0, .ref b), (1, rf (qX q) 0), (2, rf (qM q) 0), (3, .int (nI i))] []) : LW q X Sx Sm 1359 [(0, .ref b), (1, rf (qX q) 0), (2, rf (qM q) 0), (3, .int (nI i))] [] := by
  refine l_aload C dL_law_1359 rfl 1 rfl ?_
  refine l_aload C dL_law_1360 rfl 0 rfl ?_
  refine l_iload C dL_law_1361 rfl 3 rfl ?_
  refine l_iconst (v := 1) C dL_law_1362 (by decide) ?_
  refine l_iadd C dL_law_1363 ?_
  refine l_sld C (vin (k := 1) hi hL (by decide) (by decide)) e1 dL_law_1364 ?_
  refine l_X C dL_law_1365 (mX6_status hX) lnL_183 mvX6_status rfl ⟨(Nat.le_of_ble_eq_true rfl), (Nat.le_of_ble_eq_true rfl)⟩ [] rfl (Nat.le_of_ble_eq_true rfl) ?_
  refine l_aload C dL_law_1368 rfl 2 rfl ?_
  refine l_aload C dL_law_1369 rfl 0 rfl ?_
  refine l_iload C dL_law_1370 rfl 3 rfl ?_
  refine l_iconst (v := 1) C dL_law_1371 (by decide) ?_
  refine l_iadd C dL_law_1372 ?_
  refine l_sld C (vin (k := 1) hi hL (by decide) (by decide)) e1 dL_law_1373 ?_
  refine l_M C dL_law_1374 (mX7_status hM) lnL_186 mvX7_status rfl ⟨(Nat.le_of_ble_eq_true rfl), (Nat.le_of_ble_eq_true rfl)⟩ [.int v] rfl (Nat.le_of_ble_eq_true rfl) ?_
  refine l_same C 1382 dL_law_1377 (by decide) ?_
  exact K
