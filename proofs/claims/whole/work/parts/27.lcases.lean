theorem la_row {L : Nat} {xs : Nat → Int32} {x : Int32} {Rel : ll_S → ll_S → Prop} (hsim : sim_row Rel) (s t : ll_S) (hR : Rel s t) (hx1 : vp_in (x + 1) L) (hx2 : vp_in (x + 2) L) (hx3 : vp_in (x + 3) L) (hx4 : vp_in (x + 4) L) (hx5 : vp_in (x + 5) L) (kk : ∀ s t, Rel s t → ll_G L xs 1311 [some (.ref 498), some (.ref 0), some (.ref 100), some (.int x)] [] (ll_w s t)) : ll_G L xs 208 [some (.ref 498), some (.ref 0), some (.ref 100), some (.int x)] [] (ll_w s t) := by
  obtain ⟨r0, r1, r2, r3, r4, q0, q1, q2, q3, q4, h8, h9, he, hR2⟩ := hsim s t hR (xs (x + (1 : Int32)).toNatClampNeg) (xs (x + (2 : Int32)).toNatClampNeg)
  refine ll_aload_n dL_law_208 rfl ?_
  refine ll_aload_n dL_law_209 rfl ?_
  refine ll_iload_n dL_law_210 rfl ?_
  refine ll_iconst (1 : Int32) dL_law_211 (by decide) ?_
  refine ll_iadd dL_law_212 ?_
  refine ll_sld dL_law_213 hx1 ?_
  refine ll_aload_n dL_law_214 rfl ?_
  refine ll_iload_n dL_law_215 rfl ?_
  refine ll_iconst (2 : Int32) dL_law_216 (by decide) ?_
  refine ll_iadd dL_law_217 ?_
  refine ll_sld dL_law_218 hx2 ?_
  refine lc_X8_row s t (xs (x + (1 : Int32)).toNatClampNeg) (xs (x + (2 : Int32)).toNatClampNeg) h8 (by decide) ?_
  refine ll_aload_n dL_law_222 rfl ?_
  refine ll_aload_n dL_law_223 rfl ?_
  refine ll_iload_n dL_law_224 rfl ?_
  refine ll_iconst (1 : Int32) dL_law_225 (by decide) ?_
  refine ll_iadd dL_law_226 ?_
  refine ll_sld dL_law_227 hx1 ?_
  refine ll_aload_n dL_law_228 rfl ?_
  refine ll_iload_n dL_law_229 rfl ?_
  refine ll_iconst (2 : Int32) dL_law_230 (by decide) ?_
  refine ll_iadd dL_law_231 ?_
  refine ll_sld dL_law_232 hx2 ?_
  refine lc_X9_row (nH_row s r1 r2 r3 r4) t (xs (x + (1 : Int32)).toNatClampNeg) (xs (x + (2 : Int32)).toNatClampNeg) h9 (Nat.le_of_ble_eq_true rfl) ?_
  refine ll_eq 1311 dL_law_236 (by decide) he ?_
  exact kk _ _ hR2
theorem la_lay {L : Nat} {xs : Nat → Int32} {x : Int32} {Rel : ll_S → ll_S → Prop} (hsim : sim_lay Rel) (s t : ll_S) (hR : Rel s t) (hx1 : vp_in (x + 1) L) (hx2 : vp_in (x + 2) L) (hx3 : vp_in (x + 3) L) (hx4 : vp_in (x + 4) L) (hx5 : vp_in (x + 5) L) (kk : ∀ s t, Rel s t → ll_G L xs 1311 [some (.ref 498), some (.ref 0), some (.ref 100), some (.int x)] [] (ll_w s t)) : ll_G L xs 241 [some (.ref 498), some (.ref 0), some (.ref 100), some (.int x)] [] (ll_w s t) := by
  obtain ⟨r0, r1, r2, r3, r4, q0, q1, q2, q3, q4, h8, h9, he, hR2⟩ := hsim s t hR (xs (x + (1 : Int32)).toNatClampNeg) (xs (x + (2 : Int32)).toNatClampNeg) (xs (x + (3 : Int32)).toNatClampNeg)
  refine ll_aload_n dL_law_241 rfl ?_
  refine ll_aload_n dL_law_242 rfl ?_
  refine ll_iload_n dL_law_243 rfl ?_
  refine ll_iconst (1 : Int32) dL_law_244 (by decide) ?_
  refine ll_iadd dL_law_245 ?_
  refine ll_sld dL_law_246 hx1 ?_
  refine ll_aload_n dL_law_247 rfl ?_
  refine ll_iload_n dL_law_248 rfl ?_
  refine ll_iconst (2 : Int32) dL_law_249 (by decide) ?_
  refine ll_iadd dL_law_250 ?_
  refine ll_sld dL_law_251 hx2 ?_
  refine ll_aload_n dL_law_252 rfl ?_
  refine ll_iload_n dL_law_253 rfl ?_
  refine ll_iconst (3 : Int32) dL_law_254 (by decide) ?_
  refine ll_iadd dL_law_255 ?_
  refine ll_sld dL_law_256 hx3 ?_
  refine lc_X8_lay s t (xs (x + (1 : Int32)).toNatClampNeg) (xs (x + (2 : Int32)).toNatClampNeg) (xs (x + (3 : Int32)).toNatClampNeg) h8 (by decide) ?_
  refine ll_aload_n dL_law_260 rfl ?_
  refine ll_aload_n dL_law_261 rfl ?_
  refine ll_iload_n dL_law_262 rfl ?_
  refine ll_iconst (1 : Int32) dL_law_263 (by decide) ?_
  refine ll_iadd dL_law_264 ?_
  refine ll_sld dL_law_265 hx1 ?_
  refine ll_aload_n dL_law_266 rfl ?_
  refine ll_iload_n dL_law_267 rfl ?_
  refine ll_iconst (2 : Int32) dL_law_268 (by decide) ?_
  refine ll_iadd dL_law_269 ?_
  refine ll_sld dL_law_270 hx2 ?_
  refine ll_aload_n dL_law_271 rfl ?_
  refine ll_iload_n dL_law_272 rfl ?_
  refine ll_iconst (3 : Int32) dL_law_273 (by decide) ?_
  refine ll_iadd dL_law_274 ?_
  refine ll_sld dL_law_275 hx3 ?_
  refine lc_X9_lay (nH_lay s r1 r2 r3 r4) t (xs (x + (1 : Int32)).toNatClampNeg) (xs (x + (2 : Int32)).toNatClampNeg) (xs (x + (3 : Int32)).toNatClampNeg) h9 (Nat.le_of_ble_eq_true rfl) ?_
  refine ll_eq 1311 dL_law_279 (by decide) he ?_
  exact kk _ _ hR2
theorem la_at {L : Nat} {xs : Nat → Int32} {x : Int32} {Rel : ll_S → ll_S → Prop} (hsim : sim_at Rel) (s t : ll_S) (hR : Rel s t) (hx1 : vp_in (x + 1) L) (hx2 : vp_in (x + 2) L) (hx3 : vp_in (x + 3) L) (hx4 : vp_in (x + 4) L) (hx5 : vp_in (x + 5) L) (kk : ∀ s t, Rel s t → ll_G L xs 1311 [some (.ref 498), some (.ref 0), some (.ref 100), some (.int x)] [] (ll_w s t)) : ll_G L xs 284 [some (.ref 498), some (.ref 0), some (.ref 100), some (.int x)] [] (ll_w s t) := by
  obtain ⟨r0, r1, r2, r3, q0, q1, q2, q3, h8, h9, he, hR2⟩ := hsim s t hR (xs (x + (1 : Int32)).toNatClampNeg) (xs (x + (2 : Int32)).toNatClampNeg)
  refine ll_aload_n dL_law_284 rfl ?_
  refine ll_aload_n dL_law_285 rfl ?_
  refine ll_iload_n dL_law_286 rfl ?_
  refine ll_iconst (1 : Int32) dL_law_287 (by decide) ?_
  refine ll_iadd dL_law_288 ?_
  refine ll_sld dL_law_289 hx1 ?_
  refine ll_aload_n dL_law_290 rfl ?_
  refine ll_iload_n dL_law_291 rfl ?_
  refine ll_iconst (2 : Int32) dL_law_292 (by decide) ?_
  refine ll_iadd dL_law_293 ?_
  refine ll_sld dL_law_294 hx2 ?_
  refine lc_X8_at s t (xs (x + (1 : Int32)).toNatClampNeg) (xs (x + (2 : Int32)).toNatClampNeg) h8 (by decide) ?_
  refine ll_aload_n dL_law_298 rfl ?_
  refine ll_aload_n dL_law_299 rfl ?_
  refine ll_iload_n dL_law_300 rfl ?_
  refine ll_iconst (1 : Int32) dL_law_301 (by decide) ?_
  refine ll_iadd dL_law_302 ?_
  refine ll_sld dL_law_303 hx1 ?_
  refine ll_aload_n dL_law_304 rfl ?_
  refine ll_iload_n dL_law_305 rfl ?_
  refine ll_iconst (2 : Int32) dL_law_306 (by decide) ?_
  refine ll_iadd dL_law_307 ?_
  refine ll_sld dL_law_308 hx2 ?_
  refine lc_X9_at (nH_at s r1 r2 r3) t (xs (x + (1 : Int32)).toNatClampNeg) (xs (x + (2 : Int32)).toNatClampNeg) h9 (Nat.le_of_ble_eq_true rfl) ?_
  refine ll_eq 1311 dL_law_312 (by decide) he ?_
  exact kk _ _ hR2
theorem la_tear {L : Nat} {xs : Nat → Int32} {x : Int32} {Rel : ll_S → ll_S → Prop} (hsim : sim_tear Rel) (s t : ll_S) (hR : Rel s t) (hx1 : vp_in (x + 1) L) (hx2 : vp_in (x + 2) L) (hx3 : vp_in (x + 3) L) (hx4 : vp_in (x + 4) L) (hx5 : vp_in (x + 5) L) (kk : ∀ s t, Rel s t → ll_G L xs 1311 [some (.ref 498), some (.ref 0), some (.ref 100), some (.int x)] [] (ll_w s t)) : ll_G L xs 317 [some (.ref 498), some (.ref 0), some (.ref 100), some (.int x)] [] (ll_w s t) := by
  obtain ⟨r0, r1, r2, r3, q0, q1, q2, q3, h8, h9, he, hR2⟩ := hsim s t hR (xs (x + (1 : Int32)).toNatClampNeg)
  refine ll_aload_n dL_law_317 rfl ?_
  refine ll_aload_n dL_law_318 rfl ?_
  refine ll_iload_n dL_law_319 rfl ?_
  refine ll_iconst (1 : Int32) dL_law_320 (by decide) ?_
  refine ll_iadd dL_law_321 ?_
  refine ll_sld dL_law_322 hx1 ?_
  refine lc_X8_tear s t (xs (x + (1 : Int32)).toNatClampNeg) h8 (by decide) ?_
  refine ll_aload_n dL_law_326 rfl ?_
  refine ll_aload_n dL_law_327 rfl ?_
  refine ll_iload_n dL_law_328 rfl ?_
  refine ll_iconst (1 : Int32) dL_law_329 (by decide) ?_
  refine ll_iadd dL_law_330 ?_
  refine ll_sld dL_law_331 hx1 ?_
  refine lc_X9_tear (nH_tear s r1 r2 r3) t (xs (x + (1 : Int32)).toNatClampNeg) h9 (Nat.le_of_ble_eq_true rfl) ?_
  refine ll_eq 1311 dL_law_335 (by decide) he ?_
  exact kk _ _ hR2
theorem la_copy {L : Nat} {xs : Nat → Int32} {x : Int32} {Rel : ll_S → ll_S → Prop} (hsim : sim_copy Rel) (s t : ll_S) (hR : Rel s t) (hx1 : vp_in (x + 1) L) (hx2 : vp_in (x + 2) L) (hx3 : vp_in (x + 3) L) (hx4 : vp_in (x + 4) L) (hx5 : vp_in (x + 5) L) (kk : ∀ s t, Rel s t → ll_G L xs 1311 [some (.ref 498), some (.ref 0), some (.ref 100), some (.int x)] [] (ll_w s t)) : ll_G L xs 340 [some (.ref 498), some (.ref 0), some (.ref 100), some (.int x)] [] (ll_w s t) := by
  obtain ⟨r0, r1, r2, r3, q0, q1, q2, q3, q4, h8, h9, he, hR2⟩ := hsim s t hR (xs (x + (1 : Int32)).toNatClampNeg) (xs (x + (2 : Int32)).toNatClampNeg) (xs (x + (3 : Int32)).toNatClampNeg) (xs (x + (4 : Int32)).toNatClampNeg) (xs (x + (5 : Int32)).toNatClampNeg)
  refine ll_aload_n dL_law_340 rfl ?_
  refine ll_aload_n dL_law_341 rfl ?_
  refine ll_iload_n dL_law_342 rfl ?_
  refine ll_iconst (1 : Int32) dL_law_343 (by decide) ?_
  refine ll_iadd dL_law_344 ?_
  refine ll_sld dL_law_345 hx1 ?_
  refine ll_aload_n dL_law_346 rfl ?_
  refine ll_iload_n dL_law_347 rfl ?_
  refine ll_iconst (2 : Int32) dL_law_348 (by decide) ?_
  refine ll_iadd dL_law_349 ?_
  refine ll_sld dL_law_350 hx2 ?_
  refine ll_aload_n dL_law_351 rfl ?_
  refine ll_iload_n dL_law_352 rfl ?_
  refine ll_iconst (3 : Int32) dL_law_353 (by decide) ?_
  refine ll_iadd dL_law_354 ?_
  refine ll_sld dL_law_355 hx3 ?_
  refine ll_aload_n dL_law_356 rfl ?_
  refine ll_iload_n dL_law_357 rfl ?_
  refine ll_iconst (4 : Int32) dL_law_358 (by decide) ?_
  refine ll_iadd dL_law_359 ?_
  refine ll_sld dL_law_360 hx4 ?_
  refine ll_aload_n dL_law_361 rfl ?_
  refine ll_iload_n dL_law_362 rfl ?_
  refine ll_iconst (5 : Int32) dL_law_363 (by decide) ?_
  refine ll_iadd dL_law_364 ?_
  refine ll_sld dL_law_365 hx5 ?_
  refine lc_X8_copy s t (xs (x + (1 : Int32)).toNatClampNeg) (xs (x + (2 : Int32)).toNatClampNeg) (xs (x + (3 : Int32)).toNatClampNeg) (xs (x + (4 : Int32)).toNatClampNeg) (xs (x + (5 : Int32)).toNatClampNeg) h8 (by decide) ?_
  refine ll_aload_n dL_law_369 rfl ?_
  refine ll_aload_n dL_law_370 rfl ?_
  refine ll_iload_n dL_law_371 rfl ?_
  refine ll_iconst (1 : Int32) dL_law_372 (by decide) ?_
  refine ll_iadd dL_law_373 ?_
  refine ll_sld dL_law_374 hx1 ?_
  refine ll_aload_n dL_law_375 rfl ?_
  refine ll_iload_n dL_law_376 rfl ?_
  refine ll_iconst (2 : Int32) dL_law_377 (by decide) ?_
  refine ll_iadd dL_law_378 ?_
  refine ll_sld dL_law_379 hx2 ?_
  refine ll_aload_n dL_law_380 rfl ?_
  refine ll_iload_n dL_law_381 rfl ?_
  refine ll_iconst (3 : Int32) dL_law_382 (by decide) ?_
  refine ll_iadd dL_law_383 ?_
  refine ll_sld dL_law_384 hx3 ?_
  refine ll_aload_n dL_law_385 rfl ?_
  refine ll_iload_n dL_law_386 rfl ?_
  refine ll_iconst (4 : Int32) dL_law_387 (by decide) ?_
  refine ll_iadd dL_law_388 ?_
  refine ll_sld dL_law_389 hx4 ?_
  refine ll_aload_n dL_law_390 rfl ?_
  refine ll_iload_n dL_law_391 rfl ?_
  refine ll_iconst (5 : Int32) dL_law_392 (by decide) ?_
  refine ll_iadd dL_law_393 ?_
  refine ll_sld dL_law_394 hx5 ?_
  refine lc_X9_copy (nH_copy s r1 r2 r3) t (xs (x + (1 : Int32)).toNatClampNeg) (xs (x + (2 : Int32)).toNatClampNeg) (xs (x + (3 : Int32)).toNatClampNeg) (xs (x + (4 : Int32)).toNatClampNeg) (xs (x + (5 : Int32)).toNatClampNeg) h9 (Nat.le_of_ble_eq_true rfl) ?_
  refine ll_eq 1311 dL_law_398 (by decide) he ?_
  exact kk _ _ hR2
theorem la_mean {L : Nat} {xs : Nat → Int32} {x : Int32} {Rel : ll_S → ll_S → Prop} (hsim : sim_mean Rel) (s t : ll_S) (hR : Rel s t) (hx1 : vp_in (x + 1) L) (hx2 : vp_in (x + 2) L) (hx3 : vp_in (x + 3) L) (hx4 : vp_in (x + 4) L) (hx5 : vp_in (x + 5) L) (kk : ∀ s t, Rel s t → ll_G L xs 1311 [some (.ref 498), some (.ref 0), some (.ref 100), some (.int x)] [] (ll_w s t)) : ll_G L xs 403 [some (.ref 498), some (.ref 0), some (.ref 100), some (.int x)] [] (ll_w s t) := by
  obtain ⟨r0, r1, r2, r3, q0, q1, q2, q3, h8, h9, he, hR2⟩ := hsim s t hR (xs (x + (1 : Int32)).toNatClampNeg)
  refine ll_aload_n dL_law_403 rfl ?_
  refine ll_aload_n dL_law_404 rfl ?_
  refine ll_iload_n dL_law_405 rfl ?_
  refine ll_iconst (1 : Int32) dL_law_406 (by decide) ?_
  refine ll_iadd dL_law_407 ?_
  refine ll_sld dL_law_408 hx1 ?_
  refine lc_X8_mean s t (xs (x + (1 : Int32)).toNatClampNeg) h8 (by decide) ?_
  refine ll_aload_n dL_law_412 rfl ?_
  refine ll_aload_n dL_law_413 rfl ?_
  refine ll_iload_n dL_law_414 rfl ?_
  refine ll_iconst (1 : Int32) dL_law_415 (by decide) ?_
  refine ll_iadd dL_law_416 ?_
  refine ll_sld dL_law_417 hx1 ?_
  refine lc_X9_mean (nH_mean s r1 r2 r3) t (xs (x + (1 : Int32)).toNatClampNeg) h9 (Nat.le_of_ble_eq_true rfl) ?_
  refine ll_eq 1311 dL_law_421 (by decide) he ?_
  exact kk _ _ hR2
theorem la_text {L : Nat} {xs : Nat → Int32} {x : Int32} {Rel : ll_S → ll_S → Prop} (hsim : sim_text Rel) (s t : ll_S) (hR : Rel s t) (hx1 : vp_in (x + 1) L) (hx2 : vp_in (x + 2) L) (hx3 : vp_in (x + 3) L) (hx4 : vp_in (x + 4) L) (hx5 : vp_in (x + 5) L) (kk : ∀ s t, Rel s t → ll_G L xs 1311 [some (.ref 498), some (.ref 0), some (.ref 100), some (.int x)] [] (ll_w s t)) : ll_G L xs 426 [some (.ref 498), some (.ref 0), some (.ref 100), some (.int x)] [] (ll_w s t) := by
  obtain ⟨r0, r1, r2, r3, r4, q0, q1, q2, q3, q4, h8, h9, he, hR2⟩ := hsim s t hR (xs (x + (1 : Int32)).toNatClampNeg) (xs (x + (2 : Int32)).toNatClampNeg)
  refine ll_aload_n dL_law_426 rfl ?_
  refine ll_aload_n dL_law_427 rfl ?_
  refine ll_iload_n dL_law_428 rfl ?_
  refine ll_iconst (1 : Int32) dL_law_429 (by decide) ?_
  refine ll_iadd dL_law_430 ?_
  refine ll_sld dL_law_431 hx1 ?_
  refine ll_aload_n dL_law_432 rfl ?_
  refine ll_iload_n dL_law_433 rfl ?_
  refine ll_iconst (2 : Int32) dL_law_434 (by decide) ?_
  refine ll_iadd dL_law_435 ?_
  refine ll_sld dL_law_436 hx2 ?_
  refine lc_X8_text s t (xs (x + (1 : Int32)).toNatClampNeg) (xs (x + (2 : Int32)).toNatClampNeg) h8 (by decide) ?_
  refine ll_aload_n dL_law_440 rfl ?_
  refine ll_aload_n dL_law_441 rfl ?_
  refine ll_iload_n dL_law_442 rfl ?_
  refine ll_iconst (1 : Int32) dL_law_443 (by decide) ?_
  refine ll_iadd dL_law_444 ?_
  refine ll_sld dL_law_445 hx1 ?_
  refine ll_aload_n dL_law_446 rfl ?_
  refine ll_iload_n dL_law_447 rfl ?_
  refine ll_iconst (2 : Int32) dL_law_448 (by decide) ?_
  refine ll_iadd dL_law_449 ?_
  refine ll_sld dL_law_450 hx2 ?_
  refine lc_X9_text (nH_text s r1 r2 r3 r4) t (xs (x + (1 : Int32)).toNatClampNeg) (xs (x + (2 : Int32)).toNatClampNeg) h9 (Nat.le_of_ble_eq_true rfl) ?_
  refine ll_eq 1311 dL_law_454 (by decide) he ?_
  exact kk _ _ hR2
theorem la_put {L : Nat} {xs : Nat → Int32} {x : Int32} {Rel : ll_S → ll_S → Prop} (hsim : sim_put Rel) (s t : ll_S) (hR : Rel s t) (hx1 : vp_in (x + 1) L) (hx2 : vp_in (x + 2) L) (hx3 : vp_in (x + 3) L) (hx4 : vp_in (x + 4) L) (hx5 : vp_in (x + 5) L) (kk : ∀ s t, Rel s t → ll_G L xs 1311 [some (.ref 498), some (.ref 0), some (.ref 100), some (.int x)] [] (ll_w s t)) : ll_G L xs 459 [some (.ref 498), some (.ref 0), some (.ref 100), some (.int x)] [] (ll_w s t) := by
  obtain ⟨r0, r1, r2, r3, q0, q1, q2, q3, h8, h9, he, hR2⟩ := hsim s t hR (xs (x + (1 : Int32)).toNatClampNeg) (xs (x + (2 : Int32)).toNatClampNeg) (xs (x + (3 : Int32)).toNatClampNeg)
  refine ll_aload_n dL_law_459 rfl ?_
  refine ll_aload_n dL_law_460 rfl ?_
  refine ll_iload_n dL_law_461 rfl ?_
  refine ll_iconst (1 : Int32) dL_law_462 (by decide) ?_
  refine ll_iadd dL_law_463 ?_
  refine ll_sld dL_law_464 hx1 ?_
  refine ll_aload_n dL_law_465 rfl ?_
  refine ll_iload_n dL_law_466 rfl ?_
  refine ll_iconst (2 : Int32) dL_law_467 (by decide) ?_
  refine ll_iadd dL_law_468 ?_
  refine ll_sld dL_law_469 hx2 ?_
  refine ll_aload_n dL_law_470 rfl ?_
  refine ll_iload_n dL_law_471 rfl ?_
  refine ll_iconst (3 : Int32) dL_law_472 (by decide) ?_
  refine ll_iadd dL_law_473 ?_
  refine ll_sld dL_law_474 hx3 ?_
  refine lc_X8_put s t (xs (x + (1 : Int32)).toNatClampNeg) (xs (x + (2 : Int32)).toNatClampNeg) (xs (x + (3 : Int32)).toNatClampNeg) h8 (by decide) ?_
  refine ll_aload_n dL_law_478 rfl ?_
  refine ll_aload_n dL_law_479 rfl ?_
  refine ll_iload_n dL_law_480 rfl ?_
  refine ll_iconst (1 : Int32) dL_law_481 (by decide) ?_
  refine ll_iadd dL_law_482 ?_
  refine ll_sld dL_law_483 hx1 ?_
  refine ll_aload_n dL_law_484 rfl ?_
  refine ll_iload_n dL_law_485 rfl ?_
  refine ll_iconst (2 : Int32) dL_law_486 (by decide) ?_
  refine ll_iadd dL_law_487 ?_
  refine ll_sld dL_law_488 hx2 ?_
  refine ll_aload_n dL_law_489 rfl ?_
  refine ll_iload_n dL_law_490 rfl ?_
  refine ll_iconst (3 : Int32) dL_law_491 (by decide) ?_
  refine ll_iadd dL_law_492 ?_
  refine ll_sld dL_law_493 hx3 ?_
  refine lc_X9_put (nH_put s r1 r2 r3) t (xs (x + (1 : Int32)).toNatClampNeg) (xs (x + (2 : Int32)).toNatClampNeg) (xs (x + (3 : Int32)).toNatClampNeg) h9 (Nat.le_of_ble_eq_true rfl) ?_
  refine ll_eq 1311 dL_law_497 (by decide) he ?_
  exact kk _ _ hR2
theorem la_fault {L : Nat} {xs : Nat → Int32} {x : Int32} {Rel : ll_S → ll_S → Prop} (hsim : sim_fault Rel) (s t : ll_S) (hR : Rel s t) (hx1 : vp_in (x + 1) L) (hx2 : vp_in (x + 2) L) (hx3 : vp_in (x + 3) L) (hx4 : vp_in (x + 4) L) (hx5 : vp_in (x + 5) L) (kk : ∀ s t, Rel s t → ll_G L xs 1311 [some (.ref 498), some (.ref 0), some (.ref 100), some (.int x)] [] (ll_w s t)) : ll_G L xs 502 [some (.ref 498), some (.ref 0), some (.ref 100), some (.int x)] [] (ll_w s t) := by
  obtain ⟨r0, r1, r2, r3, r4, r5, r6, r7, r8, r9, r10, r11, r12, r13, r14, r15, q0, q1, q2, q3, q4, q5, q6, q7, q8, h8, h9, he, hR2⟩ := hsim s t hR (xs (x + (1 : Int32)).toNatClampNeg)
  refine ll_aload_n dL_law_502 rfl ?_
  refine ll_aload_n dL_law_503 rfl ?_
  refine ll_iload_n dL_law_504 rfl ?_
  refine ll_iconst (1 : Int32) dL_law_505 (by decide) ?_
  refine ll_iadd dL_law_506 ?_
  refine ll_sld dL_law_507 hx1 ?_
  refine lc_X8_fault s t (xs (x + (1 : Int32)).toNatClampNeg) h8 (by decide) ?_
  refine ll_aload_n dL_law_511 rfl ?_
  refine ll_aload_n dL_law_512 rfl ?_
  refine ll_iload_n dL_law_513 rfl ?_
  refine ll_iconst (1 : Int32) dL_law_514 (by decide) ?_
  refine ll_iadd dL_law_515 ?_
  refine ll_sld dL_law_516 hx1 ?_
  refine lc_X9_fault (nH_fault s r1 r2 r3 r4 r5 r6 r7 r8 r9 r10 r11 r12 r13 r14 r15) t (xs (x + (1 : Int32)).toNatClampNeg) h9 (Nat.le_of_ble_eq_true rfl) ?_
  refine ll_eq 1311 dL_law_520 (by decide) he ?_
  exact kk _ _ hR2
theorem la_front {L : Nat} {xs : Nat → Int32} {x : Int32} {Rel : ll_S → ll_S → Prop} (hsim : sim_front Rel) (s t : ll_S) (hR : Rel s t) (hx1 : vp_in (x + 1) L) (hx2 : vp_in (x + 2) L) (hx3 : vp_in (x + 3) L) (hx4 : vp_in (x + 4) L) (hx5 : vp_in (x + 5) L) (kk : ∀ s t, Rel s t → ll_G L xs 1311 [some (.ref 498), some (.ref 0), some (.ref 100), some (.int x)] [] (ll_w s t)) : ll_G L xs 525 [some (.ref 498), some (.ref 0), some (.ref 100), some (.int x)] [] (ll_w s t) := by
  obtain ⟨r0, r1, r2, r3, r4, r5, r6, r7, r8, r9, r10, r11, r12, r13, r14, r15, r16, r17, r18, r19, r20, r21, r22, r23, r24, r25, r26, r27, r28, r29, r30, r31, r32, r33, r34, r35, r36, r37, q0, q1, q2, q3, q4, q5, q6, q7, q8, q9, q10, q11, q12, q13, q14, h8, h9, he, hR2⟩ := hsim s t hR (xs (x + (1 : Int32)).toNatClampNeg)
  refine ll_aload_n dL_law_525 rfl ?_
  refine ll_aload_n dL_law_526 rfl ?_
  refine ll_iload_n dL_law_527 rfl ?_
  refine ll_iconst (1 : Int32) dL_law_528 (by decide) ?_
  refine ll_iadd dL_law_529 ?_
  refine ll_sld dL_law_530 hx1 ?_
  refine lc_X8_front s t (xs (x + (1 : Int32)).toNatClampNeg) h8 (by decide) ?_
  refine ll_aload_n dL_law_534 rfl ?_
  refine ll_aload_n dL_law_535 rfl ?_
  refine ll_iload_n dL_law_536 rfl ?_
  refine ll_iconst (1 : Int32) dL_law_537 (by decide) ?_
  refine ll_iadd dL_law_538 ?_
  refine ll_sld dL_law_539 hx1 ?_
  refine lc_X9_front (nH_front s r1 r2 r3 r4 r5 r6 r7 r8 r9 r10 r11 r12 r13 r14 r15 r16 r17 r18 r19 r20 r21 r22 r23 r24 r25 r26 r27 r28 r29 r30 r31 r32 r33 r34 r35 r36 r37) t (xs (x + (1 : Int32)).toNatClampNeg) h9 (Nat.le_of_ble_eq_true rfl) ?_
  refine ll_eq 1311 dL_law_543 (by decide) he ?_
  exact kk _ _ hR2
theorem la_hut {L : Nat} {xs : Nat → Int32} {x : Int32} {Rel : ll_S → ll_S → Prop} (hsim : sim_hut Rel) (s t : ll_S) (hR : Rel s t) (hx1 : vp_in (x + 1) L) (hx2 : vp_in (x + 2) L) (hx3 : vp_in (x + 3) L) (hx4 : vp_in (x + 4) L) (hx5 : vp_in (x + 5) L) (kk : ∀ s t, Rel s t → ll_G L xs 1311 [some (.ref 498), some (.ref 0), some (.ref 100), some (.int x)] [] (ll_w s t)) : ll_G L xs 548 [some (.ref 498), some (.ref 0), some (.ref 100), some (.int x)] [] (ll_w s t) := by
  obtain ⟨r0, r1, q0, q1, h8, h9, he, hR2⟩ := hsim s t hR (xs (x + (1 : Int32)).toNatClampNeg) (xs (x + (2 : Int32)).toNatClampNeg)
  refine ll_aload_n dL_law_548 rfl ?_
  refine ll_aload_n dL_law_549 rfl ?_
  refine ll_iload_n dL_law_550 rfl ?_
  refine ll_iconst (1 : Int32) dL_law_551 (by decide) ?_
  refine ll_iadd dL_law_552 ?_
  refine ll_sld dL_law_553 hx1 ?_
  refine ll_aload_n dL_law_554 rfl ?_
  refine ll_iload_n dL_law_555 rfl ?_
  refine ll_iconst (2 : Int32) dL_law_556 (by decide) ?_
  refine ll_iadd dL_law_557 ?_
  refine ll_sld dL_law_558 hx2 ?_
  refine lc_X8_hut s t (xs (x + (1 : Int32)).toNatClampNeg) (xs (x + (2 : Int32)).toNatClampNeg) h8 (by decide) ?_
  refine ll_aload_n dL_law_562 rfl ?_
  refine ll_aload_n dL_law_563 rfl ?_
  refine ll_iload_n dL_law_564 rfl ?_
  refine ll_iconst (1 : Int32) dL_law_565 (by decide) ?_
  refine ll_iadd dL_law_566 ?_
  refine ll_sld dL_law_567 hx1 ?_
  refine ll_aload_n dL_law_568 rfl ?_
  refine ll_iload_n dL_law_569 rfl ?_
  refine ll_iconst (2 : Int32) dL_law_570 (by decide) ?_
  refine ll_iadd dL_law_571 ?_
  refine ll_sld dL_law_572 hx2 ?_
  refine lc_X9_hut (nH_hut s r1) t (xs (x + (1 : Int32)).toNatClampNeg) (xs (x + (2 : Int32)).toNatClampNeg) h9 (Nat.le_of_ble_eq_true rfl) ?_
  refine ll_eq 1311 dL_law_576 (by decide) he ?_
  exact kk _ _ hR2
theorem la_mark {L : Nat} {xs : Nat → Int32} {x : Int32} {Rel : ll_S → ll_S → Prop} (hsim : sim_mark Rel) (s t : ll_S) (hR : Rel s t) (hx1 : vp_in (x + 1) L) (hx2 : vp_in (x + 2) L) (hx3 : vp_in (x + 3) L) (hx4 : vp_in (x + 4) L) (hx5 : vp_in (x + 5) L) (kk : ∀ s t, Rel s t → ll_G L xs 1311 [some (.ref 498), some (.ref 0), some (.ref 100), some (.int x)] [] (ll_w s t)) : ll_G L xs 581 [some (.ref 498), some (.ref 0), some (.ref 100), some (.int x)] [] (ll_w s t) := by
  obtain ⟨r0, r1, r2, q0, q1, q2, h8, h9, he, hR2⟩ := hsim s t hR (xs (x + (1 : Int32)).toNatClampNeg) (xs (x + (2 : Int32)).toNatClampNeg)
  refine ll_aload_n dL_law_581 rfl ?_
  refine ll_aload_n dL_law_582 rfl ?_
  refine ll_iload_n dL_law_583 rfl ?_
  refine ll_iconst (1 : Int32) dL_law_584 (by decide) ?_
  refine ll_iadd dL_law_585 ?_
  refine ll_sld dL_law_586 hx1 ?_
  refine ll_aload_n dL_law_587 rfl ?_
  refine ll_iload_n dL_law_588 rfl ?_
  refine ll_iconst (2 : Int32) dL_law_589 (by decide) ?_
  refine ll_iadd dL_law_590 ?_
  refine ll_sld dL_law_591 hx2 ?_
  refine lc_X8_mark s t (xs (x + (1 : Int32)).toNatClampNeg) (xs (x + (2 : Int32)).toNatClampNeg) h8 (by decide) ?_
  refine ll_aload_n dL_law_595 rfl ?_
  refine ll_aload_n dL_law_596 rfl ?_
  refine ll_iload_n dL_law_597 rfl ?_
  refine ll_iconst (1 : Int32) dL_law_598 (by decide) ?_
  refine ll_iadd dL_law_599 ?_
  refine ll_sld dL_law_600 hx1 ?_
  refine ll_aload_n dL_law_601 rfl ?_
  refine ll_iload_n dL_law_602 rfl ?_
  refine ll_iconst (2 : Int32) dL_law_603 (by decide) ?_
  refine ll_iadd dL_law_604 ?_
  refine ll_sld dL_law_605 hx2 ?_
  refine lc_X9_mark (nH_mark s r1 r2) t (xs (x + (1 : Int32)).toNatClampNeg) (xs (x + (2 : Int32)).toNatClampNeg) h9 (Nat.le_of_ble_eq_true rfl) ?_
  refine ll_eq 1311 dL_law_609 (by decide) he ?_
  exact kk _ _ hR2
theorem la_tires {L : Nat} {xs : Nat → Int32} {x : Int32} {Rel : ll_S → ll_S → Prop} (hsim : sim_tires Rel) (s t : ll_S) (hR : Rel s t) (hx1 : vp_in (x + 1) L) (hx2 : vp_in (x + 2) L) (hx3 : vp_in (x + 3) L) (hx4 : vp_in (x + 4) L) (hx5 : vp_in (x + 5) L) (kk : ∀ s t, Rel s t → ll_G L xs 1311 [some (.ref 498), some (.ref 0), some (.ref 100), some (.int x)] [] (ll_w s t)) : ll_G L xs 614 [some (.ref 498), some (.ref 0), some (.ref 100), some (.int x)] [] (ll_w s t) := by
  obtain ⟨r0, q0, h8, h9, he, hR2⟩ := hsim s t hR (xs (x + (1 : Int32)).toNatClampNeg) (xs (x + (2 : Int32)).toNatClampNeg)
  refine ll_aload_n dL_law_614 rfl ?_
  refine ll_aload_n dL_law_615 rfl ?_
  refine ll_iload_n dL_law_616 rfl ?_
  refine ll_iconst (1 : Int32) dL_law_617 (by decide) ?_
  refine ll_iadd dL_law_618 ?_
  refine ll_sld dL_law_619 hx1 ?_
  refine ll_aload_n dL_law_620 rfl ?_
  refine ll_iload_n dL_law_621 rfl ?_
  refine ll_iconst (2 : Int32) dL_law_622 (by decide) ?_
  refine ll_iadd dL_law_623 ?_
  refine ll_sld dL_law_624 hx2 ?_
  refine lc_X8_tires s t (xs (x + (1 : Int32)).toNatClampNeg) (xs (x + (2 : Int32)).toNatClampNeg) h8 (by decide) ?_
  refine ll_aload_n dL_law_628 rfl ?_
  refine ll_aload_n dL_law_629 rfl ?_
  refine ll_iload_n dL_law_630 rfl ?_
  refine ll_iconst (1 : Int32) dL_law_631 (by decide) ?_
  refine ll_iadd dL_law_632 ?_
  refine ll_sld dL_law_633 hx1 ?_
  refine ll_aload_n dL_law_634 rfl ?_
  refine ll_iload_n dL_law_635 rfl ?_
  refine ll_iconst (2 : Int32) dL_law_636 (by decide) ?_
  refine ll_iadd dL_law_637 ?_
  refine ll_sld dL_law_638 hx2 ?_
  refine lc_X9_tires (nH_tires s) t (xs (x + (1 : Int32)).toNatClampNeg) (xs (x + (2 : Int32)).toNatClampNeg) h9 (Nat.le_of_ble_eq_true rfl) ?_
  refine ll_eq 1311 dL_law_642 (by decide) he ?_
  exact kk _ _ hR2
theorem la_winter {L : Nat} {xs : Nat → Int32} {x : Int32} {Rel : ll_S → ll_S → Prop} (hsim : sim_winter Rel) (s t : ll_S) (hR : Rel s t) (hx1 : vp_in (x + 1) L) (hx2 : vp_in (x + 2) L) (hx3 : vp_in (x + 3) L) (hx4 : vp_in (x + 4) L) (hx5 : vp_in (x + 5) L) (kk : ∀ s t, Rel s t → ll_G L xs 1311 [some (.ref 498), some (.ref 0), some (.ref 100), some (.int x)] [] (ll_w s t)) : ll_G L xs 647 [some (.ref 498), some (.ref 0), some (.ref 100), some (.int x)] [] (ll_w s t) := by
  obtain ⟨r0, r1, r2, r3, r4, r5, r6, r7, r8, r9, r10, q0, q1, q2, q3, q4, q5, h8, h9, he, hR2⟩ := hsim s t hR 
  refine ll_aload_n dL_law_647 rfl ?_
  refine lc_X8_winter s t  h8 (by decide) ?_
  refine ll_aload_n dL_law_651 rfl ?_
  refine lc_X9_winter (nH_winter s r1 r2 r3 r4 r5 r6 r7 r8 r9 r10) t  h9 (Nat.le_of_ble_eq_true rfl) ?_
  refine ll_eq 1311 dL_law_655 (by decide) he ?_
  exact kk _ _ hR2
theorem la_feed {L : Nat} {xs : Nat → Int32} {x : Int32} {Rel : ll_S → ll_S → Prop} (hsim : sim_feed Rel) (s t : ll_S) (hR : Rel s t) (hx1 : vp_in (x + 1) L) (hx2 : vp_in (x + 2) L) (hx3 : vp_in (x + 3) L) (hx4 : vp_in (x + 4) L) (hx5 : vp_in (x + 5) L) (kk : ∀ s t, Rel s t → ll_G L xs 1311 [some (.ref 498), some (.ref 0), some (.ref 100), some (.int x)] [] (ll_w s t)) : ll_G L xs 660 [some (.ref 498), some (.ref 0), some (.ref 100), some (.int x)] [] (ll_w s t) := by
  obtain ⟨r0, r1, r2, r3, r4, r5, r6, r7, r8, r9, r10, q0, q1, q2, q3, h8, h9, he, hR2⟩ := hsim s t hR (xs (x + (1 : Int32)).toNatClampNeg)
  refine ll_aload_n dL_law_660 rfl ?_
  refine ll_aload_n dL_law_661 rfl ?_
  refine ll_iload_n dL_law_662 rfl ?_
  refine ll_iconst (1 : Int32) dL_law_663 (by decide) ?_
  refine ll_iadd dL_law_664 ?_
  refine ll_sld dL_law_665 hx1 ?_
  refine lc_X8_feed s t (xs (x + (1 : Int32)).toNatClampNeg) h8 (by decide) ?_
  refine ll_aload_n dL_law_669 rfl ?_
  refine ll_aload_n dL_law_670 rfl ?_
  refine ll_iload_n dL_law_671 rfl ?_
  refine ll_iconst (1 : Int32) dL_law_672 (by decide) ?_
  refine ll_iadd dL_law_673 ?_
  refine ll_sld dL_law_674 hx1 ?_
  refine lc_X9_feed (nH_feed s r1 r2 r3 r4 r5 r6 r7 r8 r9 r10) t (xs (x + (1 : Int32)).toNatClampNeg) h9 (Nat.le_of_ble_eq_true rfl) ?_
  refine ll_eq 1311 dL_law_678 (by decide) he ?_
  exact kk _ _ hR2
theorem la_sell {L : Nat} {xs : Nat → Int32} {x : Int32} {Rel : ll_S → ll_S → Prop} (hsim : sim_sell Rel) (s t : ll_S) (hR : Rel s t) (hx1 : vp_in (x + 1) L) (hx2 : vp_in (x + 2) L) (hx3 : vp_in (x + 3) L) (hx4 : vp_in (x + 4) L) (hx5 : vp_in (x + 5) L) (kk : ∀ s t, Rel s t → ll_G L xs 1311 [some (.ref 498), some (.ref 0), some (.ref 100), some (.int x)] [] (ll_w s t)) : ll_G L xs 683 [some (.ref 498), some (.ref 0), some (.ref 100), some (.int x)] [] (ll_w s t) := by
  obtain ⟨r0, r1, r2, r3, r4, r5, r6, r7, r8, r9, r10, q0, q1, q2, q3, h8, h9, he, hR2⟩ := hsim s t hR (xs (x + (1 : Int32)).toNatClampNeg) (xs (x + (2 : Int32)).toNatClampNeg)
  refine ll_aload_n dL_law_683 rfl ?_
  refine ll_aload_n dL_law_684 rfl ?_
  refine ll_iload_n dL_law_685 rfl ?_
  refine ll_iconst (1 : Int32) dL_law_686 (by decide) ?_
  refine ll_iadd dL_law_687 ?_
  refine ll_sld dL_law_688 hx1 ?_
  refine ll_aload_n dL_law_689 rfl ?_
  refine ll_iload_n dL_law_690 rfl ?_
  refine ll_iconst (2 : Int32) dL_law_691 (by decide) ?_
  refine ll_iadd dL_law_692 ?_
  refine ll_sld dL_law_693 hx2 ?_
  refine lc_X8_sell s t (xs (x + (1 : Int32)).toNatClampNeg) (xs (x + (2 : Int32)).toNatClampNeg) h8 (by decide) ?_
  refine ll_aload_n dL_law_697 rfl ?_
  refine ll_aload_n dL_law_698 rfl ?_
  refine ll_iload_n dL_law_699 rfl ?_
  refine ll_iconst (1 : Int32) dL_law_700 (by decide) ?_
  refine ll_iadd dL_law_701 ?_
  refine ll_sld dL_law_702 hx1 ?_
  refine ll_aload_n dL_law_703 rfl ?_
  refine ll_iload_n dL_law_704 rfl ?_
  refine ll_iconst (2 : Int32) dL_law_705 (by decide) ?_
  refine ll_iadd dL_law_706 ?_
  refine ll_sld dL_law_707 hx2 ?_
  refine lc_X9_sell (nH_sell s r1 r2 r3 r4 r5 r6 r7 r8 r9 r10) t (xs (x + (1 : Int32)).toNatClampNeg) (xs (x + (2 : Int32)).toNatClampNeg) h9 (Nat.le_of_ble_eq_true rfl) ?_
  refine ll_eq 1311 dL_law_711 (by decide) he ?_
  exact kk _ _ hR2
theorem la_storm {L : Nat} {xs : Nat → Int32} {x : Int32} {Rel : ll_S → ll_S → Prop} (hsim : sim_storm Rel) (s t : ll_S) (hR : Rel s t) (hx1 : vp_in (x + 1) L) (hx2 : vp_in (x + 2) L) (hx3 : vp_in (x + 3) L) (hx4 : vp_in (x + 4) L) (hx5 : vp_in (x + 5) L) (kk : ∀ s t, Rel s t → ll_G L xs 1311 [some (.ref 498), some (.ref 0), some (.ref 100), some (.int x)] [] (ll_w s t)) : ll_G L xs 716 [some (.ref 498), some (.ref 0), some (.ref 100), some (.int x)] [] (ll_w s t) := by
  obtain ⟨r0, r1, r2, r3, r4, r5, r6, r7, r8, r9, r10, q0, q1, q2, q3, h8, h9, he, hR2⟩ := hsim s t hR (xs (x + (1 : Int32)).toNatClampNeg)
  refine ll_aload_n dL_law_716 rfl ?_
  refine ll_aload_n dL_law_717 rfl ?_
  refine ll_iload_n dL_law_718 rfl ?_
  refine ll_iconst (1 : Int32) dL_law_719 (by decide) ?_
  refine ll_iadd dL_law_720 ?_
  refine ll_sld dL_law_721 hx1 ?_
  refine lc_X8_storm s t (xs (x + (1 : Int32)).toNatClampNeg) h8 (by decide) ?_
  refine ll_aload_n dL_law_725 rfl ?_
  refine ll_aload_n dL_law_726 rfl ?_
  refine ll_iload_n dL_law_727 rfl ?_
  refine ll_iconst (1 : Int32) dL_law_728 (by decide) ?_
  refine ll_iadd dL_law_729 ?_
  refine ll_sld dL_law_730 hx1 ?_
  refine lc_X9_storm (nH_storm s r1 r2 r3 r4 r5 r6 r7 r8 r9 r10) t (xs (x + (1 : Int32)).toNatClampNeg) h9 (Nat.le_of_ble_eq_true rfl) ?_
  refine ll_eq 1311 dL_law_734 (by decide) he ?_
  exact kk _ _ hR2
theorem la_undo {L : Nat} {xs : Nat → Int32} {x : Int32} {Rel : ll_S → ll_S → Prop} (hsim : sim_undo Rel) (s t : ll_S) (hR : Rel s t) (hx1 : vp_in (x + 1) L) (hx2 : vp_in (x + 2) L) (hx3 : vp_in (x + 3) L) (hx4 : vp_in (x + 4) L) (hx5 : vp_in (x + 5) L) (kk : ∀ s t, Rel s t → ll_G L xs 1311 [some (.ref 498), some (.ref 0), some (.ref 100), some (.int x)] [] (ll_w s t)) : ll_G L xs 739 [some (.ref 498), some (.ref 0), some (.ref 100), some (.int x)] [] (ll_w s t) := by
  obtain ⟨r0, r1, r2, r3, r4, r5, r6, r7, r8, r9, r10, r11, r12, q0, q1, q2, h8, h9, he, hR2⟩ := hsim s t hR (xs (x + (1 : Int32)).toNatClampNeg)
  refine ll_aload_n dL_law_739 rfl ?_
  refine ll_aload_n dL_law_740 rfl ?_
  refine ll_iload_n dL_law_741 rfl ?_
  refine ll_iconst (1 : Int32) dL_law_742 (by decide) ?_
  refine ll_iadd dL_law_743 ?_
  refine ll_sld dL_law_744 hx1 ?_
  refine lc_X8_undo s t (xs (x + (1 : Int32)).toNatClampNeg) h8 (by decide) ?_
  refine ll_aload_n dL_law_748 rfl ?_
  refine ll_aload_n dL_law_749 rfl ?_
  refine ll_iload_n dL_law_750 rfl ?_
  refine ll_iconst (1 : Int32) dL_law_751 (by decide) ?_
  refine ll_iadd dL_law_752 ?_
  refine ll_sld dL_law_753 hx1 ?_
  refine lc_X9_undo (nH_undo s r1 r2 r3 r4 r5 r6 r7 r8 r9 r10 r11 r12) t (xs (x + (1 : Int32)).toNatClampNeg) h9 (Nat.le_of_ble_eq_true rfl) ?_
  refine ll_eq 1311 dL_law_757 (by decide) he ?_
  exact kk _ _ hR2
theorem la_keep {L : Nat} {xs : Nat → Int32} {x : Int32} {Rel : ll_S → ll_S → Prop} (hsim : sim_keep Rel) (s t : ll_S) (hR : Rel s t) (hx1 : vp_in (x + 1) L) (hx2 : vp_in (x + 2) L) (hx3 : vp_in (x + 3) L) (hx4 : vp_in (x + 4) L) (hx5 : vp_in (x + 5) L) (kk : ∀ s t, Rel s t → ll_G L xs 1311 [some (.ref 498), some (.ref 0), some (.ref 100), some (.int x)] [] (ll_w s t)) : ll_G L xs 762 [some (.ref 498), some (.ref 0), some (.ref 100), some (.int x)] [] (ll_w s t) := by
  obtain ⟨r0, r1, r2, q0, q1, q2, q3, q4, h8, h9, he, hR2⟩ := hsim s t hR (xs (x + (1 : Int32)).toNatClampNeg)
  refine ll_aload_n dL_law_762 rfl ?_
  refine ll_aload_n dL_law_763 rfl ?_
  refine ll_iload_n dL_law_764 rfl ?_
  refine ll_iconst (1 : Int32) dL_law_765 (by decide) ?_
  refine ll_iadd dL_law_766 ?_
  refine ll_sld dL_law_767 hx1 ?_
  refine lc_X8_keep s t (xs (x + (1 : Int32)).toNatClampNeg) h8 (by decide) ?_
  refine ll_aload_n dL_law_771 rfl ?_
  refine ll_aload_n dL_law_772 rfl ?_
  refine ll_iload_n dL_law_773 rfl ?_
  refine ll_iconst (1 : Int32) dL_law_774 (by decide) ?_
  refine ll_iadd dL_law_775 ?_
  refine ll_sld dL_law_776 hx1 ?_
  refine lc_X9_keep (nH_keep s r1 r2) t (xs (x + (1 : Int32)).toNatClampNeg) h9 (Nat.le_of_ble_eq_true rfl) ?_
  refine ll_eq 1311 dL_law_780 (by decide) he ?_
  exact kk _ _ hR2
theorem la_on {L : Nat} {xs : Nat → Int32} {x : Int32} {Rel : ll_S → ll_S → Prop} (hsim : sim_on Rel) (s t : ll_S) (hR : Rel s t) (hx1 : vp_in (x + 1) L) (hx2 : vp_in (x + 2) L) (hx3 : vp_in (x + 3) L) (hx4 : vp_in (x + 4) L) (hx5 : vp_in (x + 5) L) (kk : ∀ s t, Rel s t → ll_G L xs 1311 [some (.ref 498), some (.ref 0), some (.ref 100), some (.int x)] [] (ll_w s t)) : ll_G L xs 785 [some (.ref 498), some (.ref 0), some (.ref 100), some (.int x)] [] (ll_w s t) := by
  obtain ⟨r0, r1, r2, r3, r4, r5, r6, r7, r8, r9, r10, r11, r12, r13, r14, r15, q0, q1, q2, q3, q4, q5, h8, h9, he, hR2⟩ := hsim s t hR (xs (x + (1 : Int32)).toNatClampNeg)
  refine ll_aload_n dL_law_785 rfl ?_
  refine ll_aload_n dL_law_786 rfl ?_
  refine ll_iload_n dL_law_787 rfl ?_
  refine ll_iconst (1 : Int32) dL_law_788 (by decide) ?_
  refine ll_iadd dL_law_789 ?_
  refine ll_sld dL_law_790 hx1 ?_
  refine lc_X8_on s t (xs (x + (1 : Int32)).toNatClampNeg) h8 (by decide) ?_
  refine ll_aload_n dL_law_794 rfl ?_
  refine ll_aload_n dL_law_795 rfl ?_
  refine ll_iload_n dL_law_796 rfl ?_
  refine ll_iconst (1 : Int32) dL_law_797 (by decide) ?_
  refine ll_iadd dL_law_798 ?_
  refine ll_sld dL_law_799 hx1 ?_
  refine lc_X9_on (nH_on s r1 r2 r3 r4 r5 r6 r7 r8 r9 r10 r11 r12 r13 r14 r15) t (xs (x + (1 : Int32)).toNatClampNeg) h9 (Nat.le_of_ble_eq_true rfl) ?_
  refine ll_eq 1311 dL_law_803 (by decide) he ?_
  exact kk _ _ hR2
theorem la_then {L : Nat} {xs : Nat → Int32} {x : Int32} {Rel : ll_S → ll_S → Prop} (hsim : sim_then Rel) (s t : ll_S) (hR : Rel s t) (hx1 : vp_in (x + 1) L) (hx2 : vp_in (x + 2) L) (hx3 : vp_in (x + 3) L) (hx4 : vp_in (x + 4) L) (hx5 : vp_in (x + 5) L) (kk : ∀ s t, Rel s t → ll_G L xs 1311 [some (.ref 498), some (.ref 0), some (.ref 100), some (.int x)] [] (ll_w s t)) : ll_G L xs 808 [some (.ref 498), some (.ref 0), some (.ref 100), some (.int x)] [] (ll_w s t) := by
  obtain ⟨r0, r1, r2, r3, r4, r5, r6, r7, r8, r9, r10, r11, r12, q0, q1, q2, q3, q4, h8, h9, he, hR2⟩ := hsim s t hR (xs (x + (1 : Int32)).toNatClampNeg) (xs (x + (2 : Int32)).toNatClampNeg)
  refine ll_aload_n dL_law_808 rfl ?_
  refine ll_aload_n dL_law_809 rfl ?_
  refine ll_iload_n dL_law_810 rfl ?_
  refine ll_iconst (1 : Int32) dL_law_811 (by decide) ?_
  refine ll_iadd dL_law_812 ?_
  refine ll_sld dL_law_813 hx1 ?_
  refine ll_aload_n dL_law_814 rfl ?_
  refine ll_iload_n dL_law_815 rfl ?_
  refine ll_iconst (2 : Int32) dL_law_816 (by decide) ?_
  refine ll_iadd dL_law_817 ?_
  refine ll_sld dL_law_818 hx2 ?_
  refine lc_X8_then s t (xs (x + (1 : Int32)).toNatClampNeg) (xs (x + (2 : Int32)).toNatClampNeg) h8 (by decide) ?_
  refine ll_aload_n dL_law_822 rfl ?_
  refine ll_aload_n dL_law_823 rfl ?_
  refine ll_iload_n dL_law_824 rfl ?_
  refine ll_iconst (1 : Int32) dL_law_825 (by decide) ?_
  refine ll_iadd dL_law_826 ?_
  refine ll_sld dL_law_827 hx1 ?_
  refine ll_aload_n dL_law_828 rfl ?_
  refine ll_iload_n dL_law_829 rfl ?_
  refine ll_iconst (2 : Int32) dL_law_830 (by decide) ?_
  refine ll_iadd dL_law_831 ?_
  refine ll_sld dL_law_832 hx2 ?_
  refine lc_X9_then (nH_then s r1 r2 r3 r4 r5 r6 r7 r8 r9 r10 r11 r12) t (xs (x + (1 : Int32)).toNatClampNeg) (xs (x + (2 : Int32)).toNatClampNeg) h9 (Nat.le_of_ble_eq_true rfl) ?_
  refine ll_eq 1311 dL_law_836 (by decide) he ?_
  exact kk _ _ hR2
theorem la_lost {L : Nat} {xs : Nat → Int32} {x : Int32} {Rel : ll_S → ll_S → Prop} (hsim : sim_lost Rel) (s t : ll_S) (hR : Rel s t) (hx1 : vp_in (x + 1) L) (hx2 : vp_in (x + 2) L) (hx3 : vp_in (x + 3) L) (hx4 : vp_in (x + 4) L) (hx5 : vp_in (x + 5) L) (kk : ∀ s t, Rel s t → ll_G L xs 1311 [some (.ref 498), some (.ref 0), some (.ref 100), some (.int x)] [] (ll_w s t)) : ll_G L xs 841 [some (.ref 498), some (.ref 0), some (.ref 100), some (.int x)] [] (ll_w s t) := by
  obtain ⟨r0, r1, r2, r3, r4, r5, r6, r7, r8, r9, r10, r11, q0, q1, q2, q3, h8, h9, he, hR2⟩ := hsim s t hR (xs (x + (1 : Int32)).toNatClampNeg)
  refine ll_aload_n dL_law_841 rfl ?_
  refine ll_aload_n dL_law_842 rfl ?_
  refine ll_iload_n dL_law_843 rfl ?_
  refine ll_iconst (1 : Int32) dL_law_844 (by decide) ?_
  refine ll_iadd dL_law_845 ?_
  refine ll_sld dL_law_846 hx1 ?_
  refine lc_X8_lost s t (xs (x + (1 : Int32)).toNatClampNeg) h8 (by decide) ?_
  refine ll_aload_n dL_law_850 rfl ?_
  refine ll_aload_n dL_law_851 rfl ?_
  refine ll_iload_n dL_law_852 rfl ?_
  refine ll_iconst (1 : Int32) dL_law_853 (by decide) ?_
  refine ll_iadd dL_law_854 ?_
  refine ll_sld dL_law_855 hx1 ?_
  refine lc_X9_lost (nH_lost s r1 r2 r3 r4 r5 r6 r7 r8 r9 r10 r11) t (xs (x + (1 : Int32)).toNatClampNeg) h9 (Nat.le_of_ble_eq_true rfl) ?_
  refine ll_eq 1311 dL_law_859 (by decide) he ?_
  exact kk _ _ hR2
theorem la_order {L : Nat} {xs : Nat → Int32} {x : Int32} {Rel : ll_S → ll_S → Prop} (hsim : sim_order Rel) (s t : ll_S) (hR : Rel s t) (hx1 : vp_in (x + 1) L) (hx2 : vp_in (x + 2) L) (hx3 : vp_in (x + 3) L) (hx4 : vp_in (x + 4) L) (hx5 : vp_in (x + 5) L) (kk : ∀ s t, Rel s t → ll_G L xs 1311 [some (.ref 498), some (.ref 0), some (.ref 100), some (.int x)] [] (ll_w s t)) : ll_G L xs 864 [some (.ref 498), some (.ref 0), some (.ref 100), some (.int x)] [] (ll_w s t) := by
  obtain ⟨r0, r1, r2, r3, r4, r5, r6, r7, r8, r9, r10, r11, r12, r13, q0, q1, q2, q3, q4, q5, h8, h9, he, hR2⟩ := hsim s t hR (xs (x + (1 : Int32)).toNatClampNeg)
  refine ll_aload_n dL_law_864 rfl ?_
  refine ll_aload_n dL_law_865 rfl ?_
  refine ll_iload_n dL_law_866 rfl ?_
  refine ll_iconst (1 : Int32) dL_law_867 (by decide) ?_
  refine ll_iadd dL_law_868 ?_
  refine ll_sld dL_law_869 hx1 ?_
  refine lc_X8_order s t (xs (x + (1 : Int32)).toNatClampNeg) h8 (by decide) ?_
  refine ll_aload_n dL_law_873 rfl ?_
  refine ll_aload_n dL_law_874 rfl ?_
  refine ll_iload_n dL_law_875 rfl ?_
  refine ll_iconst (1 : Int32) dL_law_876 (by decide) ?_
  refine ll_iadd dL_law_877 ?_
  refine ll_sld dL_law_878 hx1 ?_
  refine lc_X9_order (nH_order s r1 r2 r3 r4 r5 r6 r7 r8 r9 r10 r11 r12 r13) t (xs (x + (1 : Int32)).toNatClampNeg) h9 (Nat.le_of_ble_eq_true rfl) ?_
  refine ll_eq 1311 dL_law_882 (by decide) he ?_
  exact kk _ _ hR2
theorem la_least {L : Nat} {xs : Nat → Int32} {x : Int32} {Rel : ll_S → ll_S → Prop} (hsim : sim_least Rel) (s t : ll_S) (hR : Rel s t) (hx1 : vp_in (x + 1) L) (hx2 : vp_in (x + 2) L) (hx3 : vp_in (x + 3) L) (hx4 : vp_in (x + 4) L) (hx5 : vp_in (x + 5) L) (kk : ∀ s t, Rel s t → ll_G L xs 1311 [some (.ref 498), some (.ref 0), some (.ref 100), some (.int x)] [] (ll_w s t)) : ll_G L xs 887 [some (.ref 498), some (.ref 0), some (.ref 100), some (.int x)] [] (ll_w s t) := by
  obtain ⟨r0, r1, r2, r3, r4, r5, r6, r7, r8, r9, r10, r11, q0, q1, q2, q3, h8, h9, he, hR2⟩ := hsim s t hR (xs (x + (1 : Int32)).toNatClampNeg) (xs (x + (2 : Int32)).toNatClampNeg)
  refine ll_aload_n dL_law_887 rfl ?_
  refine ll_aload_n dL_law_888 rfl ?_
  refine ll_iload_n dL_law_889 rfl ?_
  refine ll_iconst (1 : Int32) dL_law_890 (by decide) ?_
  refine ll_iadd dL_law_891 ?_
  refine ll_sld dL_law_892 hx1 ?_
  refine ll_aload_n dL_law_893 rfl ?_
  refine ll_iload_n dL_law_894 rfl ?_
  refine ll_iconst (2 : Int32) dL_law_895 (by decide) ?_
  refine ll_iadd dL_law_896 ?_
  refine ll_sld dL_law_897 hx2 ?_
  refine lc_X8_least s t (xs (x + (1 : Int32)).toNatClampNeg) (xs (x + (2 : Int32)).toNatClampNeg) h8 (by decide) ?_
  refine ll_aload_n dL_law_901 rfl ?_
  refine ll_aload_n dL_law_902 rfl ?_
  refine ll_iload_n dL_law_903 rfl ?_
  refine ll_iconst (1 : Int32) dL_law_904 (by decide) ?_
  refine ll_iadd dL_law_905 ?_
  refine ll_sld dL_law_906 hx1 ?_
  refine ll_aload_n dL_law_907 rfl ?_
  refine ll_iload_n dL_law_908 rfl ?_
  refine ll_iconst (2 : Int32) dL_law_909 (by decide) ?_
  refine ll_iadd dL_law_910 ?_
  refine ll_sld dL_law_911 hx2 ?_
  refine lc_X9_least (nH_least s r1 r2 r3 r4 r5 r6 r7 r8 r9 r10 r11) t (xs (x + (1 : Int32)).toNatClampNeg) (xs (x + (2 : Int32)).toNatClampNeg) h9 (Nat.le_of_ble_eq_true rfl) ?_
  refine ll_eq 1311 dL_law_915 (by decide) he ?_
  exact kk _ _ hR2
theorem la_vee {L : Nat} {xs : Nat → Int32} {x : Int32} {Rel : ll_S → ll_S → Prop} (hsim : sim_vee Rel) (s t : ll_S) (hR : Rel s t) (hx1 : vp_in (x + 1) L) (hx2 : vp_in (x + 2) L) (hx3 : vp_in (x + 3) L) (hx4 : vp_in (x + 4) L) (hx5 : vp_in (x + 5) L) (kk : ∀ s t, Rel s t → ll_G L xs 1311 [some (.ref 498), some (.ref 0), some (.ref 100), some (.int x)] [] (ll_w s t)) : ll_G L xs 920 [some (.ref 498), some (.ref 0), some (.ref 100), some (.int x)] [] (ll_w s t) := by
  obtain ⟨r0, r1, r2, r3, r4, r5, r6, r7, q0, q1, q2, q3, q4, h8, h9, he, hR2⟩ := hsim s t hR (xs (x + (1 : Int32)).toNatClampNeg) (xs (x + (2 : Int32)).toNatClampNeg)
  refine ll_aload_n dL_law_920 rfl ?_
  refine ll_aload_n dL_law_921 rfl ?_
  refine ll_iload_n dL_law_922 rfl ?_
  refine ll_iconst (1 : Int32) dL_law_923 (by decide) ?_
  refine ll_iadd dL_law_924 ?_
  refine ll_sld dL_law_925 hx1 ?_
  refine ll_aload_n dL_law_926 rfl ?_
  refine ll_iload_n dL_law_927 rfl ?_
  refine ll_iconst (2 : Int32) dL_law_928 (by decide) ?_
  refine ll_iadd dL_law_929 ?_
  refine ll_sld dL_law_930 hx2 ?_
  refine lc_X8_vee s t (xs (x + (1 : Int32)).toNatClampNeg) (xs (x + (2 : Int32)).toNatClampNeg) h8 (by decide) ?_
  refine ll_aload_n dL_law_934 rfl ?_
  refine ll_aload_n dL_law_935 rfl ?_
  refine ll_iload_n dL_law_936 rfl ?_
  refine ll_iconst (1 : Int32) dL_law_937 (by decide) ?_
  refine ll_iadd dL_law_938 ?_
  refine ll_sld dL_law_939 hx1 ?_
  refine ll_aload_n dL_law_940 rfl ?_
  refine ll_iload_n dL_law_941 rfl ?_
  refine ll_iconst (2 : Int32) dL_law_942 (by decide) ?_
  refine ll_iadd dL_law_943 ?_
  refine ll_sld dL_law_944 hx2 ?_
  refine lc_X9_vee (nH_vee s r1 r2 r3 r4 r5 r6 r7) t (xs (x + (1 : Int32)).toNatClampNeg) (xs (x + (2 : Int32)).toNatClampNeg) h9 (Nat.le_of_ble_eq_true rfl) ?_
  refine ll_eq 1311 dL_law_948 (by decide) he ?_
  exact kk _ _ hR2
theorem la_pairs {L : Nat} {xs : Nat → Int32} {x : Int32} {Rel : ll_S → ll_S → Prop} (hsim : sim_pairs Rel) (s t : ll_S) (hR : Rel s t) (hx1 : vp_in (x + 1) L) (hx2 : vp_in (x + 2) L) (hx3 : vp_in (x + 3) L) (hx4 : vp_in (x + 4) L) (hx5 : vp_in (x + 5) L) (kk : ∀ s t, Rel s t → ll_G L xs 1311 [some (.ref 498), some (.ref 0), some (.ref 100), some (.int x)] [] (ll_w s t)) : ll_G L xs 953 [some (.ref 498), some (.ref 0), some (.ref 100), some (.int x)] [] (ll_w s t) := by
  obtain ⟨r0, r1, r2, r3, r4, r5, r6, r7, r8, r9, q0, q1, q2, q3, q4, q5, h8, h9, he, hR2⟩ := hsim s t hR (xs (x + (1 : Int32)).toNatClampNeg)
  refine ll_aload_n dL_law_953 rfl ?_
  refine ll_aload_n dL_law_954 rfl ?_
  refine ll_iload_n dL_law_955 rfl ?_
  refine ll_iconst (1 : Int32) dL_law_956 (by decide) ?_
  refine ll_iadd dL_law_957 ?_
  refine ll_sld dL_law_958 hx1 ?_
  refine lc_X8_pairs s t (xs (x + (1 : Int32)).toNatClampNeg) h8 (by decide) ?_
  refine ll_aload_n dL_law_962 rfl ?_
  refine ll_aload_n dL_law_963 rfl ?_
  refine ll_iload_n dL_law_964 rfl ?_
  refine ll_iconst (1 : Int32) dL_law_965 (by decide) ?_
  refine ll_iadd dL_law_966 ?_
  refine ll_sld dL_law_967 hx1 ?_
  refine lc_X9_pairs (nH_pairs s r1 r2 r3 r4 r5 r6 r7 r8 r9) t (xs (x + (1 : Int32)).toNatClampNeg) h9 (Nat.le_of_ble_eq_true rfl) ?_
  refine ll_eq 1311 dL_law_971 (by decide) he ?_
  exact kk _ _ hR2
theorem la_kinds {L : Nat} {xs : Nat → Int32} {x : Int32} {Rel : ll_S → ll_S → Prop} (hsim : sim_kinds Rel) (s t : ll_S) (hR : Rel s t) (hx1 : vp_in (x + 1) L) (hx2 : vp_in (x + 2) L) (hx3 : vp_in (x + 3) L) (hx4 : vp_in (x + 4) L) (hx5 : vp_in (x + 5) L) (kk : ∀ s t, Rel s t → ll_G L xs 1311 [some (.ref 498), some (.ref 0), some (.ref 100), some (.int x)] [] (ll_w s t)) : ll_G L xs 976 [some (.ref 498), some (.ref 0), some (.ref 100), some (.int x)] [] (ll_w s t) := by
  obtain ⟨r0, r1, r2, q0, q1, q2, h8, h9, he, hR2⟩ := hsim s t hR (xs (x + (1 : Int32)).toNatClampNeg) (xs (x + (2 : Int32)).toNatClampNeg)
  refine ll_aload_n dL_law_976 rfl ?_
  refine ll_aload_n dL_law_977 rfl ?_
  refine ll_iload_n dL_law_978 rfl ?_
  refine ll_iconst (1 : Int32) dL_law_979 (by decide) ?_
  refine ll_iadd dL_law_980 ?_
  refine ll_sld dL_law_981 hx1 ?_
  refine ll_aload_n dL_law_982 rfl ?_
  refine ll_iload_n dL_law_983 rfl ?_
  refine ll_iconst (2 : Int32) dL_law_984 (by decide) ?_
  refine ll_iadd dL_law_985 ?_
  refine ll_sld dL_law_986 hx2 ?_
  refine lc_X8_kinds s t (xs (x + (1 : Int32)).toNatClampNeg) (xs (x + (2 : Int32)).toNatClampNeg) h8 (by decide) ?_
  refine ll_aload_n dL_law_990 rfl ?_
  refine ll_aload_n dL_law_991 rfl ?_
  refine ll_iload_n dL_law_992 rfl ?_
  refine ll_iconst (1 : Int32) dL_law_993 (by decide) ?_
  refine ll_iadd dL_law_994 ?_
  refine ll_sld dL_law_995 hx1 ?_
  refine ll_aload_n dL_law_996 rfl ?_
  refine ll_iload_n dL_law_997 rfl ?_
  refine ll_iconst (2 : Int32) dL_law_998 (by decide) ?_
  refine ll_iadd dL_law_999 ?_
  refine ll_sld dL_law_1000 hx2 ?_
  refine lc_X9_kinds (nH_kinds s r1 r2) t (xs (x + (1 : Int32)).toNatClampNeg) (xs (x + (2 : Int32)).toNatClampNeg) h9 (Nat.le_of_ble_eq_true rfl) ?_
  refine ll_eq 1311 dL_law_1004 (by decide) he ?_
  exact kk _ _ hR2
theorem la_test {L : Nat} {xs : Nat → Int32} {x : Int32} {Rel : ll_S → ll_S → Prop} (hsim : sim_test Rel) (s t : ll_S) (hR : Rel s t) (hx1 : vp_in (x + 1) L) (hx2 : vp_in (x + 2) L) (hx3 : vp_in (x + 3) L) (hx4 : vp_in (x + 4) L) (hx5 : vp_in (x + 5) L) (kk : ∀ s t, Rel s t → ll_G L xs 1311 [some (.ref 498), some (.ref 0), some (.ref 100), some (.int x)] [] (ll_w s t)) : ll_G L xs 1009 [some (.ref 498), some (.ref 0), some (.ref 100), some (.int x)] [] (ll_w s t) := by
  obtain ⟨r0, r1, r2, r3, q0, q1, q2, q3, h8, h9, he, hR2⟩ := hsim s t hR (xs (x + (1 : Int32)).toNatClampNeg) (xs (x + (2 : Int32)).toNatClampNeg)
  refine ll_aload_n dL_law_1009 rfl ?_
  refine ll_aload_n dL_law_1010 rfl ?_
  refine ll_iload_n dL_law_1011 rfl ?_
  refine ll_iconst (1 : Int32) dL_law_1012 (by decide) ?_
  refine ll_iadd dL_law_1013 ?_
  refine ll_sld dL_law_1014 hx1 ?_
  refine ll_aload_n dL_law_1015 rfl ?_
  refine ll_iload_n dL_law_1016 rfl ?_
  refine ll_iconst (2 : Int32) dL_law_1017 (by decide) ?_
  refine ll_iadd dL_law_1018 ?_
  refine ll_sld dL_law_1019 hx2 ?_
  refine lc_X8_test s t (xs (x + (1 : Int32)).toNatClampNeg) (xs (x + (2 : Int32)).toNatClampNeg) h8 (by decide) ?_
  refine ll_aload_n dL_law_1023 rfl ?_
  refine ll_aload_n dL_law_1024 rfl ?_
  refine ll_iload_n dL_law_1025 rfl ?_
  refine ll_iconst (1 : Int32) dL_law_1026 (by decide) ?_
  refine ll_iadd dL_law_1027 ?_
  refine ll_sld dL_law_1028 hx1 ?_
  refine ll_aload_n dL_law_1029 rfl ?_
  refine ll_iload_n dL_law_1030 rfl ?_
  refine ll_iconst (2 : Int32) dL_law_1031 (by decide) ?_
  refine ll_iadd dL_law_1032 ?_
  refine ll_sld dL_law_1033 hx2 ?_
  refine lc_X9_test (nH_test s r1 r2 r3) t (xs (x + (1 : Int32)).toNatClampNeg) (xs (x + (2 : Int32)).toNatClampNeg) h9 (Nat.le_of_ble_eq_true rfl) ?_
  refine ll_eq 1311 dL_law_1037 (by decide) he ?_
  exact kk _ _ hR2
theorem la_flown {L : Nat} {xs : Nat → Int32} {x : Int32} {Rel : ll_S → ll_S → Prop} (hsim : sim_flown Rel) (s t : ll_S) (hR : Rel s t) (hx1 : vp_in (x + 1) L) (hx2 : vp_in (x + 2) L) (hx3 : vp_in (x + 3) L) (hx4 : vp_in (x + 4) L) (hx5 : vp_in (x + 5) L) (kk : ∀ s t, Rel s t → ll_G L xs 1311 [some (.ref 498), some (.ref 0), some (.ref 100), some (.int x)] [] (ll_w s t)) : ll_G L xs 1042 [some (.ref 498), some (.ref 0), some (.ref 100), some (.int x)] [] (ll_w s t) := by
  obtain ⟨r0, r1, r2, r3, q0, q1, h8, h9, he, hR2⟩ := hsim s t hR (xs (x + (1 : Int32)).toNatClampNeg) (xs (x + (2 : Int32)).toNatClampNeg) (xs (x + (3 : Int32)).toNatClampNeg)
  refine ll_aload_n dL_law_1042 rfl ?_
  refine ll_aload_n dL_law_1043 rfl ?_
  refine ll_iload_n dL_law_1044 rfl ?_
  refine ll_iconst (1 : Int32) dL_law_1045 (by decide) ?_
  refine ll_iadd dL_law_1046 ?_
  refine ll_sld dL_law_1047 hx1 ?_
  refine ll_aload_n dL_law_1048 rfl ?_
  refine ll_iload_n dL_law_1049 rfl ?_
  refine ll_iconst (2 : Int32) dL_law_1050 (by decide) ?_
  refine ll_iadd dL_law_1051 ?_
  refine ll_sld dL_law_1052 hx2 ?_
  refine ll_aload_n dL_law_1053 rfl ?_
  refine ll_iload_n dL_law_1054 rfl ?_
  refine ll_iconst (3 : Int32) dL_law_1055 (by decide) ?_
  refine ll_iadd dL_law_1056 ?_
  refine ll_sld dL_law_1057 hx3 ?_
  refine lc_X8_flown s t (xs (x + (1 : Int32)).toNatClampNeg) (xs (x + (2 : Int32)).toNatClampNeg) (xs (x + (3 : Int32)).toNatClampNeg) h8 (by decide) ?_
  refine ll_aload_n dL_law_1061 rfl ?_
  refine ll_aload_n dL_law_1062 rfl ?_
  refine ll_iload_n dL_law_1063 rfl ?_
  refine ll_iconst (1 : Int32) dL_law_1064 (by decide) ?_
  refine ll_iadd dL_law_1065 ?_
  refine ll_sld dL_law_1066 hx1 ?_
  refine ll_aload_n dL_law_1067 rfl ?_
  refine ll_iload_n dL_law_1068 rfl ?_
  refine ll_iconst (2 : Int32) dL_law_1069 (by decide) ?_
  refine ll_iadd dL_law_1070 ?_
  refine ll_sld dL_law_1071 hx2 ?_
  refine ll_aload_n dL_law_1072 rfl ?_
  refine ll_iload_n dL_law_1073 rfl ?_
  refine ll_iconst (3 : Int32) dL_law_1074 (by decide) ?_
  refine ll_iadd dL_law_1075 ?_
  refine ll_sld dL_law_1076 hx3 ?_
  refine lc_X9_flown (nH_flown s r1 r2 r3) t (xs (x + (1 : Int32)).toNatClampNeg) (xs (x + (2 : Int32)).toNatClampNeg) (xs (x + (3 : Int32)).toNatClampNeg) h9 (Nat.le_of_ble_eq_true rfl) ?_
  refine ll_eq 1311 dL_law_1080 (by decide) he ?_
  exact kk _ _ hR2
theorem la_duel {L : Nat} {xs : Nat → Int32} {x : Int32} {Rel : ll_S → ll_S → Prop} (hsim : sim_duel Rel) (s t : ll_S) (hR : Rel s t) (hx1 : vp_in (x + 1) L) (hx2 : vp_in (x + 2) L) (hx3 : vp_in (x + 3) L) (hx4 : vp_in (x + 4) L) (hx5 : vp_in (x + 5) L) (kk : ∀ s t, Rel s t → ll_G L xs 1311 [some (.ref 498), some (.ref 0), some (.ref 100), some (.int x)] [] (ll_w s t)) : ll_G L xs 1085 [some (.ref 498), some (.ref 0), some (.ref 100), some (.int x)] [] (ll_w s t) := by
  obtain ⟨r0, q0, q1, q2, h8, h9, he, hR2⟩ := hsim s t hR (xs (x + (1 : Int32)).toNatClampNeg)
  refine ll_aload_n dL_law_1085 rfl ?_
  refine ll_aload_n dL_law_1086 rfl ?_
  refine ll_iload_n dL_law_1087 rfl ?_
  refine ll_iconst (1 : Int32) dL_law_1088 (by decide) ?_
  refine ll_iadd dL_law_1089 ?_
  refine ll_sld dL_law_1090 hx1 ?_
  refine lc_X8_duel s t (xs (x + (1 : Int32)).toNatClampNeg) h8 (by decide) ?_
  refine ll_aload_n dL_law_1094 rfl ?_
  refine ll_aload_n dL_law_1095 rfl ?_
  refine ll_iload_n dL_law_1096 rfl ?_
  refine ll_iconst (1 : Int32) dL_law_1097 (by decide) ?_
  refine ll_iadd dL_law_1098 ?_
  refine ll_sld dL_law_1099 hx1 ?_
  refine lc_X9_duel (nH_duel s) t (xs (x + (1 : Int32)).toNatClampNeg) h9 (Nat.le_of_ble_eq_true rfl) ?_
  refine ll_eq 1311 dL_law_1103 (by decide) he ?_
  exact kk _ _ hR2
theorem la_odds {L : Nat} {xs : Nat → Int32} {x : Int32} {Rel : ll_S → ll_S → Prop} (hsim : sim_odds Rel) (s t : ll_S) (hR : Rel s t) (hx1 : vp_in (x + 1) L) (hx2 : vp_in (x + 2) L) (hx3 : vp_in (x + 3) L) (hx4 : vp_in (x + 4) L) (hx5 : vp_in (x + 5) L) (kk : ∀ s t, Rel s t → ll_G L xs 1311 [some (.ref 498), some (.ref 0), some (.ref 100), some (.int x)] [] (ll_w s t)) : ll_G L xs 1108 [some (.ref 498), some (.ref 0), some (.ref 100), some (.int x)] [] (ll_w s t) := by
  obtain ⟨r0, r1, r2, r3, r4, r5, r6, r7, r8, r9, r10, r11, r12, r13, q0, q1, q2, q3, q4, q5, q6, q7, q8, h8, h9, he, hR2⟩ := hsim s t hR (xs (x + (1 : Int32)).toNatClampNeg) (xs (x + (2 : Int32)).toNatClampNeg)
  refine ll_aload_n dL_law_1108 rfl ?_
  refine ll_aload_n dL_law_1109 rfl ?_
  refine ll_iload_n dL_law_1110 rfl ?_
  refine ll_iconst (1 : Int32) dL_law_1111 (by decide) ?_
  refine ll_iadd dL_law_1112 ?_
  refine ll_sld dL_law_1113 hx1 ?_
  refine ll_aload_n dL_law_1114 rfl ?_
  refine ll_iload_n dL_law_1115 rfl ?_
  refine ll_iconst (2 : Int32) dL_law_1116 (by decide) ?_
  refine ll_iadd dL_law_1117 ?_
  refine ll_sld dL_law_1118 hx2 ?_
  refine lc_X8_odds s t (xs (x + (1 : Int32)).toNatClampNeg) (xs (x + (2 : Int32)).toNatClampNeg) h8 (by decide) ?_
  refine ll_aload_n dL_law_1122 rfl ?_
  refine ll_aload_n dL_law_1123 rfl ?_
  refine ll_iload_n dL_law_1124 rfl ?_
  refine ll_iconst (1 : Int32) dL_law_1125 (by decide) ?_
  refine ll_iadd dL_law_1126 ?_
  refine ll_sld dL_law_1127 hx1 ?_
  refine ll_aload_n dL_law_1128 rfl ?_
  refine ll_iload_n dL_law_1129 rfl ?_
  refine ll_iconst (2 : Int32) dL_law_1130 (by decide) ?_
  refine ll_iadd dL_law_1131 ?_
  refine ll_sld dL_law_1132 hx2 ?_
  refine lc_X9_odds (nH_odds s r1 r2 r3 r4 r5 r6 r7 r8 r9 r10 r11 r12 r13) t (xs (x + (1 : Int32)).toNatClampNeg) (xs (x + (2 : Int32)).toNatClampNeg) h9 (Nat.le_of_ble_eq_true rfl) ?_
  refine ll_eq 1311 dL_law_1136 (by decide) he ?_
  exact kk _ _ hR2
theorem la_mid {L : Nat} {xs : Nat → Int32} {x : Int32} {Rel : ll_S → ll_S → Prop} (hsim : sim_mid Rel) (s t : ll_S) (hR : Rel s t) (hx1 : vp_in (x + 1) L) (hx2 : vp_in (x + 2) L) (hx3 : vp_in (x + 3) L) (hx4 : vp_in (x + 4) L) (hx5 : vp_in (x + 5) L) (kk : ∀ s t, Rel s t → ll_G L xs 1311 [some (.ref 498), some (.ref 0), some (.ref 100), some (.int x)] [] (ll_w s t)) : ll_G L xs 1141 [some (.ref 498), some (.ref 0), some (.ref 100), some (.int x)] [] (ll_w s t) := by
  obtain ⟨r0, r1, r2, r3, r4, r5, r6, r7, r8, r9, r10, r11, r12, r13, q0, q1, q2, q3, q4, q5, q6, q7, q8, h8, h9, he, hR2⟩ := hsim s t hR (xs (x + (1 : Int32)).toNatClampNeg)
  refine ll_aload_n dL_law_1141 rfl ?_
  refine ll_aload_n dL_law_1142 rfl ?_
  refine ll_iload_n dL_law_1143 rfl ?_
  refine ll_iconst (1 : Int32) dL_law_1144 (by decide) ?_
  refine ll_iadd dL_law_1145 ?_
  refine ll_sld dL_law_1146 hx1 ?_
  refine lc_X8_mid s t (xs (x + (1 : Int32)).toNatClampNeg) h8 (by decide) ?_
  refine ll_aload_n dL_law_1150 rfl ?_
  refine ll_aload_n dL_law_1151 rfl ?_
  refine ll_iload_n dL_law_1152 rfl ?_
  refine ll_iconst (1 : Int32) dL_law_1153 (by decide) ?_
  refine ll_iadd dL_law_1154 ?_
  refine ll_sld dL_law_1155 hx1 ?_
  refine lc_X9_mid (nH_mid s r1 r2 r3 r4 r5 r6 r7 r8 r9 r10 r11 r12 r13) t (xs (x + (1 : Int32)).toNatClampNeg) h9 (Nat.le_of_ble_eq_true rfl) ?_
  refine ll_eq 1311 dL_law_1159 (by decide) he ?_
  exact kk _ _ hR2
theorem la_lots {L : Nat} {xs : Nat → Int32} {x : Int32} {Rel : ll_S → ll_S → Prop} (hsim : sim_lots Rel) (s t : ll_S) (hR : Rel s t) (hx1 : vp_in (x + 1) L) (hx2 : vp_in (x + 2) L) (hx3 : vp_in (x + 3) L) (hx4 : vp_in (x + 4) L) (hx5 : vp_in (x + 5) L) (kk : ∀ s t, Rel s t → ll_G L xs 1311 [some (.ref 498), some (.ref 0), some (.ref 100), some (.int x)] [] (ll_w s t)) : ll_G L xs 1164 [some (.ref 498), some (.ref 0), some (.ref 100), some (.int x)] [] (ll_w s t) := by
  obtain ⟨r0, r1, r2, r3, r4, r5, r6, r7, r8, r9, r10, q0, q1, q2, q3, q4, q5, h8, h9, he, hR2⟩ := hsim s t hR (xs (x + (1 : Int32)).toNatClampNeg) (xs (x + (2 : Int32)).toNatClampNeg)
  refine ll_aload_n dL_law_1164 rfl ?_
  refine ll_aload_n dL_law_1165 rfl ?_
  refine ll_iload_n dL_law_1166 rfl ?_
  refine ll_iconst (1 : Int32) dL_law_1167 (by decide) ?_
  refine ll_iadd dL_law_1168 ?_
  refine ll_sld dL_law_1169 hx1 ?_
  refine ll_aload_n dL_law_1170 rfl ?_
  refine ll_iload_n dL_law_1171 rfl ?_
  refine ll_iconst (2 : Int32) dL_law_1172 (by decide) ?_
  refine ll_iadd dL_law_1173 ?_
  refine ll_sld dL_law_1174 hx2 ?_
  refine lc_X8_lots s t (xs (x + (1 : Int32)).toNatClampNeg) (xs (x + (2 : Int32)).toNatClampNeg) h8 (by decide) ?_
  refine ll_aload_n dL_law_1178 rfl ?_
  refine ll_aload_n dL_law_1179 rfl ?_
  refine ll_iload_n dL_law_1180 rfl ?_
  refine ll_iconst (1 : Int32) dL_law_1181 (by decide) ?_
  refine ll_iadd dL_law_1182 ?_
  refine ll_sld dL_law_1183 hx1 ?_
  refine ll_aload_n dL_law_1184 rfl ?_
  refine ll_iload_n dL_law_1185 rfl ?_
  refine ll_iconst (2 : Int32) dL_law_1186 (by decide) ?_
  refine ll_iadd dL_law_1187 ?_
  refine ll_sld dL_law_1188 hx2 ?_
  refine lc_X9_lots (nH_lots s r1 r2 r3 r4 r5 r6 r7 r8 r9 r10) t (xs (x + (1 : Int32)).toNatClampNeg) (xs (x + (2 : Int32)).toNatClampNeg) h9 (Nat.le_of_ble_eq_true rfl) ?_
  refine ll_eq 1311 dL_law_1192 (by decide) he ?_
  exact kk _ _ hR2
theorem la_asked {L : Nat} {xs : Nat → Int32} {x : Int32} {Rel : ll_S → ll_S → Prop} (hsim : sim_asked Rel) (s t : ll_S) (hR : Rel s t) (hx1 : vp_in (x + 1) L) (hx2 : vp_in (x + 2) L) (hx3 : vp_in (x + 3) L) (hx4 : vp_in (x + 4) L) (hx5 : vp_in (x + 5) L) (kk : ∀ s t, Rel s t → ll_G L xs 1311 [some (.ref 498), some (.ref 0), some (.ref 100), some (.int x)] [] (ll_w s t)) : ll_G L xs 1197 [some (.ref 498), some (.ref 0), some (.ref 100), some (.int x)] [] (ll_w s t) := by
  obtain ⟨r0, q0, h8, h9, he, hR2⟩ := hsim s t hR 
  refine ll_aload_n dL_law_1197 rfl ?_
  refine lc_X8_asked s t  h8 (by decide) ?_
  refine ll_aload_n dL_law_1201 rfl ?_
  refine lc_X9_asked (nH_asked s) t  h9 (Nat.le_of_ble_eq_true rfl) ?_
  refine ll_eq 1311 dL_law_1205 (by decide) he ?_
  exact kk _ _ hR2
theorem la_upper {L : Nat} {xs : Nat → Int32} {x : Int32} {Rel : ll_S → ll_S → Prop} (hsim : sim_upper Rel) (s t : ll_S) (hR : Rel s t) (hx1 : vp_in (x + 1) L) (hx2 : vp_in (x + 2) L) (hx3 : vp_in (x + 3) L) (hx4 : vp_in (x + 4) L) (hx5 : vp_in (x + 5) L) (kk : ∀ s t, Rel s t → ll_G L xs 1311 [some (.ref 498), some (.ref 0), some (.ref 100), some (.int x)] [] (ll_w s t)) : ll_G L xs 1210 [some (.ref 498), some (.ref 0), some (.ref 100), some (.int x)] [] (ll_w s t) := by
  obtain ⟨r0, q0, h8, h9, he, hR2⟩ := hsim s t hR 
  refine ll_aload_n dL_law_1210 rfl ?_
  refine lc_X8_upper s t  h8 (by decide) ?_
  refine ll_aload_n dL_law_1214 rfl ?_
  refine lc_X9_upper (nH_upper s) t  h9 (Nat.le_of_ble_eq_true rfl) ?_
  refine ll_lcmp dL_law_1218 ?_
  refine ll_eq0 1311 dL_law_1219 (by decide) (by rw [he]; exact ll_cmp _) ?_
  exact kk _ _ hR2
theorem la_lower {L : Nat} {xs : Nat → Int32} {x : Int32} {Rel : ll_S → ll_S → Prop} (hsim : sim_lower Rel) (s t : ll_S) (hR : Rel s t) (hx1 : vp_in (x + 1) L) (hx2 : vp_in (x + 2) L) (hx3 : vp_in (x + 3) L) (hx4 : vp_in (x + 4) L) (hx5 : vp_in (x + 5) L) (kk : ∀ s t, Rel s t → ll_G L xs 1311 [some (.ref 498), some (.ref 0), some (.ref 100), some (.int x)] [] (ll_w s t)) : ll_G L xs 1224 [some (.ref 498), some (.ref 0), some (.ref 100), some (.int x)] [] (ll_w s t) := by
  obtain ⟨r0, q0, h8, h9, he, hR2⟩ := hsim s t hR 
  refine ll_aload_n dL_law_1224 rfl ?_
  refine lc_X8_lower s t  h8 (by decide) ?_
  refine ll_aload_n dL_law_1228 rfl ?_
  refine lc_X9_lower (nH_lower s) t  h9 (Nat.le_of_ble_eq_true rfl) ?_
  refine ll_lcmp dL_law_1232 ?_
  refine ll_eq0 1311 dL_law_1233 (by decide) (by rw [he]; exact ll_cmp _) ?_
  exact kk _ _ hR2
theorem la_count {L : Nat} {xs : Nat → Int32} {x : Int32} {Rel : ll_S → ll_S → Prop} (hsim : sim_count Rel) (s t : ll_S) (hR : Rel s t) (hx1 : vp_in (x + 1) L) (hx2 : vp_in (x + 2) L) (hx3 : vp_in (x + 3) L) (hx4 : vp_in (x + 4) L) (hx5 : vp_in (x + 5) L) (kk : ∀ s t, Rel s t → ll_G L xs 1311 [some (.ref 498), some (.ref 0), some (.ref 100), some (.int x)] [] (ll_w s t)) : ll_G L xs 1238 [some (.ref 498), some (.ref 0), some (.ref 100), some (.int x)] [] (ll_w s t) := by
  obtain ⟨r0, q0, h8, h9, he, hR2⟩ := hsim s t hR (xs (x + (1 : Int32)).toNatClampNeg)
  refine ll_aload_n dL_law_1238 rfl ?_
  refine ll_aload_n dL_law_1239 rfl ?_
  refine ll_iload_n dL_law_1240 rfl ?_
  refine ll_iconst (1 : Int32) dL_law_1241 (by decide) ?_
  refine ll_iadd dL_law_1242 ?_
  refine ll_sld dL_law_1243 hx1 ?_
  refine lc_X8_count s t (xs (x + (1 : Int32)).toNatClampNeg) h8 (by decide) ?_
  refine ll_aload_n dL_law_1247 rfl ?_
  refine ll_aload_n dL_law_1248 rfl ?_
  refine ll_iload_n dL_law_1249 rfl ?_
  refine ll_iconst (1 : Int32) dL_law_1250 (by decide) ?_
  refine ll_iadd dL_law_1251 ?_
  refine ll_sld dL_law_1252 hx1 ?_
  refine lc_X9_count (nH_count s) t (xs (x + (1 : Int32)).toNatClampNeg) h9 (Nat.le_of_ble_eq_true rfl) ?_
  refine ll_eq 1311 dL_law_1256 (by decide) he ?_
  exact kk _ _ hR2
theorem la_finding {L : Nat} {xs : Nat → Int32} {x : Int32} {Rel : ll_S → ll_S → Prop} (hsim : sim_finding Rel) (s t : ll_S) (hR : Rel s t) (hx1 : vp_in (x + 1) L) (hx2 : vp_in (x + 2) L) (hx3 : vp_in (x + 3) L) (hx4 : vp_in (x + 4) L) (hx5 : vp_in (x + 5) L) (kk : ∀ s t, Rel s t → ll_G L xs 1311 [some (.ref 498), some (.ref 0), some (.ref 100), some (.int x)] [] (ll_w s t)) : ll_G L xs 1261 [some (.ref 498), some (.ref 0), some (.ref 100), some (.int x)] [] (ll_w s t) := by
  obtain ⟨r0, q0, h8, h9, he, hR2⟩ := hsim s t hR 
  refine ll_aload_n dL_law_1261 rfl ?_
  refine lc_X8_finding s t  h8 (by decide) ?_
  refine ll_aload_n dL_law_1265 rfl ?_
  refine lc_X9_finding (nH_finding s) t  h9 (Nat.le_of_ble_eq_true rfl) ?_
  refine ll_eq 1311 dL_law_1269 (by decide) he ?_
  exact kk _ _ hR2
theorem la_findings {L : Nat} {xs : Nat → Int32} {x : Int32} {Rel : ll_S → ll_S → Prop} (hsim : sim_findings Rel) (s t : ll_S) (hR : Rel s t) (hx1 : vp_in (x + 1) L) (hx2 : vp_in (x + 2) L) (hx3 : vp_in (x + 3) L) (hx4 : vp_in (x + 4) L) (hx5 : vp_in (x + 5) L) (kk : ∀ s t, Rel s t → ll_G L xs 1311 [some (.ref 498), some (.ref 0), some (.ref 100), some (.int x)] [] (ll_w s t)) : ll_G L xs 1274 [some (.ref 498), some (.ref 0), some (.ref 100), some (.int x)] [] (ll_w s t) := by
  obtain ⟨r0, q0, h8, h9, he, hR2⟩ := hsim s t hR (xs (x + (1 : Int32)).toNatClampNeg)
  refine ll_aload_n dL_law_1274 rfl ?_
  refine ll_aload_n dL_law_1275 rfl ?_
  refine ll_iload_n dL_law_1276 rfl ?_
  refine ll_iconst (1 : Int32) dL_law_1277 (by decide) ?_
  refine ll_iadd dL_law_1278 ?_
  refine ll_sld dL_law_1279 hx1 ?_
  refine lc_X8_findings s t (xs (x + (1 : Int32)).toNatClampNeg) h8 (by decide) ?_
  refine ll_aload_n dL_law_1283 rfl ?_
  refine ll_aload_n dL_law_1284 rfl ?_
  refine ll_iload_n dL_law_1285 rfl ?_
  refine ll_iconst (1 : Int32) dL_law_1286 (by decide) ?_
  refine ll_iadd dL_law_1287 ?_
  refine ll_sld dL_law_1288 hx1 ?_
  refine lc_X9_findings (nH_findings s) t (xs (x + (1 : Int32)).toNatClampNeg) h9 (Nat.le_of_ble_eq_true rfl) ?_
  refine ll_eq 1311 dL_law_1292 (by decide) he ?_
  exact kk _ _ hR2
theorem la_digest {L : Nat} {xs : Nat → Int32} {x : Int32} {Rel : ll_S → ll_S → Prop} (hsim : sim_digest Rel) (s t : ll_S) (hR : Rel s t) (hx1 : vp_in (x + 1) L) (hx2 : vp_in (x + 2) L) (hx3 : vp_in (x + 3) L) (hx4 : vp_in (x + 4) L) (hx5 : vp_in (x + 5) L) (kk : ∀ s t, Rel s t → ll_G L xs 1311 [some (.ref 498), some (.ref 0), some (.ref 100), some (.int x)] [] (ll_w s t)) : ll_G L xs 1297 [some (.ref 498), some (.ref 0), some (.ref 100), some (.int x)] [] (ll_w s t) := by
  obtain ⟨r0, q0, q1, h8, h9, he, hR2⟩ := hsim s t hR 
  refine ll_aload_n dL_law_1297 rfl ?_
  refine lc_X8_digest s t  h8 (by decide) ?_
  refine ll_aload_n dL_law_1301 rfl ?_
  refine lc_X9_digest (nH_digest s) t  h9 (Nat.le_of_ble_eq_true rfl) ?_
  refine ll_lcmp dL_law_1305 ?_
  refine ll_eq0 1311 dL_law_1306 (by decide) (by rw [he]; exact ll_cmp _) ?_
  exact kk _ _ hR2
