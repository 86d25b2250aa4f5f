/-! the law's cases (by a program) -/
section CASES
variable {E : Scr} {Q : Post} {z : ZT} {s : PSt} {y : YS} {no : NS} {M : Mem} {u v i : Nat}
theorem lc_0 (hI : Inv z s y no M) (hi : i + 6 ≤ E.1) (hu : u ≤ 1135 ∧ v ≤ 17040) (hN : ∀ M', Iv M' → MW E mLaw Sn Q T1 R0 M' u v 1393 (LwS i) []) : MW E mLaw Sn Q T1 R0 M u v 212 (LwS i) [] := by
  refine w_aload_n dL_law_212 rfl ?_
  refine x_arg (k := 1) dL_law_213 dL_law_214 dL_law_216 dL_law_217 dL_law_218 (by omega) (fun g1 => ?_)
  refine x_arg (k := 2) dL_law_219 dL_law_220 dL_law_222 dL_law_223 dL_law_224 (by omega) (fun g2 => ?_)
  refine x_arg (k := 3) dL_law_225 dL_law_226 dL_law_228 dL_law_229 dL_law_230 (by omega) (fun g3 => ?_)
  refine x_arg (k := 4) dL_law_231 dL_law_232 dL_law_234 dL_law_235 dL_law_236 (by omega) (fun g4 => ?_)
  refine x_arg (k := 5) dL_law_237 dL_law_238 dL_law_240 dL_law_241 dL_law_242 (by omega) (fun g5 => ?_)
  refine x_call (as := [pI (E.2 (i + 1)), pI (E.2 (i + 2)), pI (E.2 (i + 3)), pI (E.2 (i + 4)), pI (E.2 (i + 5))]) (q := qI _) (S2 := Top) dL_law_243 kL_21 ⟨⟨Nat.le_of_ble_eq_true rfl, hu.1, hu.2⟩, Nat.le_of_ble_eq_true rfl⟩ ⟨rfl, rfl⟩ rfl (by decide) rfl (Nat.le_of_ble_eq_true rfl) qI_ok (fun _ h9 => h9.elim) stbT (b_feed  hI (P := Iv) (fun _ _ h9 => ⟨_, _, _, _, h9⟩)) ?_
  rintro r1 M2 ⟨x1, rfl, h2⟩
  refine w_aload_n dL_law_246 rfl ?_
  refine x_arg (k := 1) dL_law_247 dL_law_248 dL_law_250 dL_law_251 dL_law_252 (by omega) (fun g1 => ?_)
  refine x_arg (k := 2) dL_law_253 dL_law_254 dL_law_256 dL_law_257 dL_law_258 (by omega) (fun g2 => ?_)
  refine x_arg (k := 3) dL_law_259 dL_law_260 dL_law_262 dL_law_263 dL_law_264 (by omega) (fun g3 => ?_)
  refine x_arg (k := 4) dL_law_265 dL_law_266 dL_law_268 dL_law_269 dL_law_270 (by omega) (fun g4 => ?_)
  refine x_arg (k := 5) dL_law_271 dL_law_272 dL_law_274 dL_law_275 dL_law_276 (by omega) (fun g5 => ?_)
  refine x_call (as := [pI (E.2 (i + 1)), pI (E.2 (i + 2)), pI (E.2 (i + 3)), pI (E.2 (i + 4)), pI (E.2 (i + 5))]) (q := qI _) (S2 := Top) dL_law_277 kL_25 ⟨⟨Nat.le_of_ble_eq_true rfl, hu.1, hu.2⟩, Nat.le_of_ble_eq_true rfl⟩ ⟨rfl, rfl⟩ rfl (by decide) rfl (Nat.le_of_ble_eq_true rfl) qI_ok (fun _ h9 => h9.elim) stbT (MW_cong ov_lt h2) ?_
  rintro r2 M3 ⟨x2, rfl, rfl, h3⟩
  exact w_ieqS dL_law_280 rfl (hN _ h3.ov)
theorem lc_1 (hI : Inv z s y no M) (hi : i + 6 ≤ E.1) (hu : u ≤ 1135 ∧ v ≤ 17040) (hN : ∀ M', Iv M' → MW E mLaw Sn Q T1 R0 M' u v 1393 (LwS i) []) : MW E mLaw Sn Q T1 R0 M u v 285 (LwS i) [] := by
  refine w_aload_n dL_law_285 rfl ?_
  refine x_arg (k := 1) dL_law_286 dL_law_287 dL_law_289 dL_law_290 dL_law_291 (by omega) (fun g1 => ?_)
  refine x_call (as := [pI (E.2 (i + 1))]) (q := qI _) (S2 := Sd) dL_law_292 kL_26 ⟨⟨Nat.le_of_ble_eq_true rfl, hu.1, hu.2⟩, Nat.le_of_ble_eq_true rfl⟩ ⟨rfl, rfl⟩ rfl (by decide) rfl (Nat.le_of_ble_eq_true rfl) qI_ok (fun _ h9 => h9.elim) stbD (b_text g1 hI (P := Iv) (fun _ _ _ _ _ h9 => ⟨_, _, _, _, h9⟩)) ?_
  rintro r1 M2 ⟨x1, rfl, h2⟩
  refine w_aload_n dL_law_295 rfl ?_
  refine x_arg (k := 1) dL_law_296 dL_law_297 dL_law_299 dL_law_300 dL_law_301 (by omega) (fun g1 => ?_)
  refine x_call (as := [pI (E.2 (i + 1))]) (q := qI _) (S2 := Top) dL_law_302 kL_30 ⟨⟨Nat.le_of_ble_eq_true rfl, hu.1, hu.2⟩, Nat.le_of_ble_eq_true rfl⟩ ⟨rfl, rfl⟩ rfl (by decide) rfl (Nat.le_of_ble_eq_true rfl) qI_ok (fun _ h9 => h9.elim) stbT (MW_cong ov_lt h2) ?_
  rintro r2 M3 ⟨x2, rfl, rfl, h3⟩
  exact w_ieqS dL_law_305 rfl (hN _ h3.ov)
theorem lc_2 (hI : Inv z s y no M) (hi : i + 6 ≤ E.1) (hu : u ≤ 1135 ∧ v ≤ 17040) (hN : ∀ M', Iv M' → MW E mLaw Sn Q T1 R0 M' u v 1393 (LwS i) []) : MW E mLaw Sn Q T1 R0 M u v 310 (LwS i) [] := by
  refine w_aload_n dL_law_310 rfl ?_
  refine x_arg (k := 1) dL_law_311 dL_law_312 dL_law_314 dL_law_315 dL_law_316 (by omega) (fun g1 => ?_)
  refine x_call (as := [pI (E.2 (i + 1))]) (q := qI _) (S2 := Top) dL_law_317 kL_31 ⟨⟨Nat.le_of_ble_eq_true rfl, hu.1, hu.2⟩, Nat.le_of_ble_eq_true rfl⟩ ⟨rfl, rfl⟩ rfl (by decide) rfl (Nat.le_of_ble_eq_true rfl) qI_ok (fun _ h9 => h9.elim) stbT (b_fault g1 hI (P := Iv) (fun _ h9 => ⟨_, _, _, _, h9⟩)) ?_
  rintro r1 M2 ⟨x1, rfl, h2⟩
  refine w_aload_n dL_law_320 rfl ?_
  refine x_arg (k := 1) dL_law_321 dL_law_322 dL_law_324 dL_law_325 dL_law_326 (by omega) (fun g1 => ?_)
  refine x_call (as := [pI (E.2 (i + 1))]) (q := qI _) (S2 := Top) dL_law_327 kL_34 ⟨⟨Nat.le_of_ble_eq_true rfl, hu.1, hu.2⟩, Nat.le_of_ble_eq_true rfl⟩ ⟨rfl, rfl⟩ rfl (by decide) rfl (Nat.le_of_ble_eq_true rfl) qI_ok (fun _ h9 => h9.elim) stbT (MW_cong ov_lt h2) ?_
  rintro r2 M3 ⟨x2, rfl, rfl, h3⟩
  exact w_ieqS dL_law_330 rfl (hN _ h3.ov)
theorem lc_3 (hI : Inv z s y no M) (hi : i + 6 ≤ E.1) (hu : u ≤ 1135 ∧ v ≤ 17040) (hN : ∀ M', Iv M' → MW E mLaw Sn Q T1 R0 M' u v 1393 (LwS i) []) : MW E mLaw Sn Q T1 R0 M u v 335 (LwS i) [] := by
  refine w_aload_n dL_law_335 rfl ?_
  refine x_arg (k := 1) dL_law_336 dL_law_337 dL_law_339 dL_law_340 dL_law_341 (by omega) (fun g1 => ?_)
  refine x_call (as := [pI (E.2 (i + 1))]) (q := qI _) (S2 := Top) dL_law_342 kL_35 ⟨⟨Nat.le_of_ble_eq_true rfl, hu.1, hu.2⟩, Nat.le_of_ble_eq_true rfl⟩ ⟨rfl, rfl⟩ rfl (by decide) rfl (Nat.le_of_ble_eq_true rfl) qI_ok (fun _ h9 => h9.elim) stbT (b_named g1 hI (P := Iv) (fun _ h9 => ⟨_, _, _, _, h9⟩)) ?_
  rintro r1 M2 ⟨x1, rfl, h2⟩
  refine w_aload_n dL_law_345 rfl ?_
  refine x_arg (k := 1) dL_law_346 dL_law_347 dL_law_349 dL_law_350 dL_law_351 (by omega) (fun g1 => ?_)
  refine x_call (as := [pI (E.2 (i + 1))]) (q := qI _) (S2 := Top) dL_law_352 kL_38 ⟨⟨Nat.le_of_ble_eq_true rfl, hu.1, hu.2⟩, Nat.le_of_ble_eq_true rfl⟩ ⟨rfl, rfl⟩ rfl (by decide) rfl (Nat.le_of_ble_eq_true rfl) qI_ok (fun _ h9 => h9.elim) stbT (MW_cong ov_lt h2) ?_
  rintro r2 M3 ⟨x2, rfl, rfl, h3⟩
  exact w_ieqS dL_law_355 rfl (hN _ h3.ov)
theorem lc_5 (hI : Inv z s y no M) (hi : i + 6 ≤ E.1) (hu : u ≤ 1135 ∧ v ≤ 17040) (hN : ∀ M', Iv M' → MW E mLaw Sn Q T1 R0 M' u v 1393 (LwS i) []) : MW E mLaw Sn Q T1 R0 M u v 428 (LwS i) [] := by
  refine w_aload_n dL_law_428 rfl ?_
  refine x_arg (k := 1) dL_law_429 dL_law_430 dL_law_432 dL_law_433 dL_law_434 (by omega) (fun g1 => ?_)
  refine x_call (as := [pI (E.2 (i + 1))]) (q := qI _) (S2 := Top) dL_law_435 kL_49 ⟨⟨Nat.le_of_ble_eq_true rfl, hu.1, hu.2⟩, Nat.le_of_ble_eq_true rfl⟩ ⟨rfl, rfl⟩ rfl (by decide) rfl (Nat.le_of_ble_eq_true rfl) qI_ok (fun _ h9 => h9.elim) stbT (b_row g1 hI (P := Iv) (fun _ h9 => ⟨_, _, _, _, h9⟩)) ?_
  rintro r1 M2 ⟨x1, rfl, h2⟩
  refine w_aload_n dL_law_438 rfl ?_
  refine x_arg (k := 1) dL_law_439 dL_law_440 dL_law_442 dL_law_443 dL_law_444 (by omega) (fun g1 => ?_)
  refine x_call (as := [pI (E.2 (i + 1))]) (q := qI _) (S2 := Top) dL_law_445 kL_52 ⟨⟨Nat.le_of_ble_eq_true rfl, hu.1, hu.2⟩, Nat.le_of_ble_eq_true rfl⟩ ⟨rfl, rfl⟩ rfl (by decide) rfl (Nat.le_of_ble_eq_true rfl) qI_ok (fun _ h9 => h9.elim) stbT (MW_cong ov_lt h2) ?_
  rintro r2 M3 ⟨x2, rfl, rfl, h3⟩
  exact w_ieqS dL_law_448 rfl (hN _ h3.ov)
theorem lc_6 (hI : Inv z s y no M) (hi : i + 6 ≤ E.1) (hu : u ≤ 1135 ∧ v ≤ 17040) (hN : ∀ M', Iv M' → MW E mLaw Sn Q T1 R0 M' u v 1393 (LwS i) []) : MW E mLaw Sn Q T1 R0 M u v 453 (LwS i) [] := by
  refine w_aload_n dL_law_453 rfl ?_
  refine x_arg (k := 1) dL_law_454 dL_law_455 dL_law_457 dL_law_458 dL_law_459 (by omega) (fun g1 => ?_)
  refine x_arg (k := 2) dL_law_460 dL_law_461 dL_law_463 dL_law_464 dL_law_465 (by omega) (fun g2 => ?_)
  refine x_call (as := [pI (E.2 (i + 1)), pI (E.2 (i + 2))]) (q := qI _) (S2 := Top) dL_law_466 kL_53 ⟨⟨Nat.le_of_ble_eq_true rfl, hu.1, hu.2⟩, Nat.le_of_ble_eq_true rfl⟩ ⟨rfl, rfl⟩ rfl (by decide) rfl (Nat.le_of_ble_eq_true rfl) qI_ok (fun _ h9 => h9.elim) stbT (b_could g1 g2 hI (P := Iv) (fun _ h9 => ⟨_, _, _, _, h9⟩)) ?_
  rintro r1 M2 ⟨x1, rfl, h2⟩
  refine w_aload_n dL_law_469 rfl ?_
  refine x_arg (k := 1) dL_law_470 dL_law_471 dL_law_473 dL_law_474 dL_law_475 (by omega) (fun g1 => ?_)
  refine x_arg (k := 2) dL_law_476 dL_law_477 dL_law_479 dL_law_480 dL_law_481 (by omega) (fun g2 => ?_)
  refine x_call (as := [pI (E.2 (i + 1)), pI (E.2 (i + 2))]) (q := qI _) (S2 := Top) dL_law_482 kL_56 ⟨⟨Nat.le_of_ble_eq_true rfl, hu.1, hu.2⟩, Nat.le_of_ble_eq_true rfl⟩ ⟨rfl, rfl⟩ rfl (by decide) rfl (Nat.le_of_ble_eq_true rfl) qI_ok (fun _ h9 => h9.elim) stbT (MW_cong ov_lt h2) ?_
  rintro r2 M3 ⟨x2, rfl, rfl, h3⟩
  exact w_ieqS dL_law_485 rfl (hN _ h3.ov)
theorem lc_7 (hI : Inv z s y no M) (hi : i + 6 ≤ E.1) (hu : u ≤ 1135 ∧ v ≤ 17040) (hN : ∀ M', Iv M' → MW E mLaw Sn Q T1 R0 M' u v 1393 (LwS i) []) : MW E mLaw Sn Q T1 R0 M u v 490 (LwS i) [] := by
  refine w_aload_n dL_law_490 rfl ?_
  refine x_arg (k := 1) dL_law_491 dL_law_492 dL_law_494 dL_law_495 dL_law_496 (by omega) (fun g1 => ?_)
  refine x_arg (k := 2) dL_law_497 dL_law_498 dL_law_500 dL_law_501 dL_law_502 (by omega) (fun g2 => ?_)
  refine x_call (as := [pI (E.2 (i + 1)), pI (E.2 (i + 2))]) (q := qL _) (S2 := Top) dL_law_503 kL_57 ⟨⟨Nat.le_of_ble_eq_true rfl, hu.1, hu.2⟩, Nat.le_of_ble_eq_true rfl⟩ ⟨rfl, rfl⟩ rfl (by decide) rfl (Nat.le_of_ble_eq_true rfl) qL_ok (fun _ h9 => h9.elim) stbT (b_law g1 g2 hI (P := Iv) (fun _ h9 => ⟨_, _, _, _, h9⟩)) ?_
  rintro r1 M2 ⟨x1, rfl, h2⟩
  refine w_aload_n dL_law_506 rfl ?_
  refine x_arg (k := 1) dL_law_507 dL_law_508 dL_law_510 dL_law_511 dL_law_512 (by omega) (fun g1 => ?_)
  refine x_arg (k := 2) dL_law_513 dL_law_514 dL_law_516 dL_law_517 dL_law_518 (by omega) (fun g2 => ?_)
  refine x_call (as := [pI (E.2 (i + 1)), pI (E.2 (i + 2))]) (q := qL _) (S2 := Top) dL_law_519 kL_61 ⟨⟨Nat.le_of_ble_eq_true rfl, hu.1, hu.2⟩, Nat.le_of_ble_eq_true rfl⟩ ⟨rfl, rfl⟩ rfl (by decide) rfl (Nat.le_of_ble_eq_true rfl) qL_ok (fun _ h9 => h9.elim) stbT (MW_cong ov_lt h2) ?_
  rintro r2 M3 ⟨x2, rfl, rfl, h3⟩
  exact w_leqS dL_law_522 dL_law_523 rfl (hN _ h3.ov)
theorem lc_8 (hI : Inv z s y no M) (hi : i + 6 ≤ E.1) (hu : u ≤ 1135 ∧ v ≤ 17040) (hN : ∀ M', Iv M' → MW E mLaw Sn Q T1 R0 M' u v 1393 (LwS i) []) : MW E mLaw Sn Q T1 R0 M u v 528 (LwS i) [] := by
  refine w_aload_n dL_law_528 rfl ?_
  refine x_arg (k := 1) dL_law_529 dL_law_530 dL_law_532 dL_law_533 dL_law_534 (by omega) (fun g1 => ?_)
  refine x_call (as := [pI (E.2 (i + 1))]) (q := qI _) (S2 := Top) dL_law_535 kL_62 ⟨⟨Nat.le_of_ble_eq_true rfl, hu.1, hu.2⟩, Nat.le_of_ble_eq_true rfl⟩ ⟨rfl, rfl⟩ rfl (by decide) rfl (Nat.le_of_ble_eq_true rfl) qI_ok (fun _ h9 => h9.elim) stbT (b_push g1 hI (P := Iv) (fun _ h9 => ⟨_, _, _, _, h9⟩)) ?_
  rintro r1 M2 ⟨x1, rfl, h2⟩
  refine w_aload_n dL_law_538 rfl ?_
  refine x_arg (k := 1) dL_law_539 dL_law_540 dL_law_542 dL_law_543 dL_law_544 (by omega) (fun g1 => ?_)
  refine x_call (as := [pI (E.2 (i + 1))]) (q := qI _) (S2 := Top) dL_law_545 kL_65 ⟨⟨Nat.le_of_ble_eq_true rfl, hu.1, hu.2⟩, Nat.le_of_ble_eq_true rfl⟩ ⟨rfl, rfl⟩ rfl (by decide) rfl (Nat.le_of_ble_eq_true rfl) qI_ok (fun _ h9 => h9.elim) stbT (MW_cong ov_lt h2) ?_
  rintro r2 M3 ⟨x2, rfl, rfl, h3⟩
  exact w_ieqS dL_law_548 rfl (hN _ h3.ov)
theorem lc_9 (hI : Inv z s y no M) (hi : i + 6 ≤ E.1) (hu : u ≤ 1135 ∧ v ≤ 17040) (hN : ∀ M', Iv M' → MW E mLaw Sn Q T1 R0 M' u v 1393 (LwS i) []) : MW E mLaw Sn Q T1 R0 M u v 553 (LwS i) [] := by
  refine w_aload_n dL_law_553 rfl ?_
  refine x_arg (k := 1) dL_law_554 dL_law_555 dL_law_557 dL_law_558 dL_law_559 (by omega) (fun g1 => ?_)
  refine x_call (as := [pI (E.2 (i + 1))]) (q := qI _) (S2 := Top) dL_law_560 kL_66 ⟨⟨Nat.le_of_ble_eq_true rfl, hu.1, hu.2⟩, Nat.le_of_ble_eq_true rfl⟩ ⟨rfl, rfl⟩ rfl (by decide) rfl (Nat.le_of_ble_eq_true rfl) qI_ok (fun _ h9 => h9.elim) stbT (b_force g1 hI (P := Iv) (fun _ h9 => ⟨_, _, _, _, h9⟩)) ?_
  rintro r1 M2 ⟨x1, rfl, h2⟩
  refine w_aload_n dL_law_563 rfl ?_
  refine x_arg (k := 1) dL_law_564 dL_law_565 dL_law_567 dL_law_568 dL_law_569 (by omega) (fun g1 => ?_)
  refine x_call (as := [pI (E.2 (i + 1))]) (q := qI _) (S2 := Top) dL_law_570 kL_69 ⟨⟨Nat.le_of_ble_eq_true rfl, hu.1, hu.2⟩, Nat.le_of_ble_eq_true rfl⟩ ⟨rfl, rfl⟩ rfl (by decide) rfl (Nat.le_of_ble_eq_true rfl) qI_ok (fun _ h9 => h9.elim) stbT (MW_cong ov_lt h2) ?_
  rintro r2 M3 ⟨x2, rfl, rfl, h3⟩
  exact w_ieqS dL_law_573 rfl (hN _ h3.ov)
theorem lc_10 (hI : Inv z s y no M) (hi : i + 6 ≤ E.1) (hu : u ≤ 1135 ∧ v ≤ 17040) (hN : ∀ M', Iv M' → MW E mLaw Sn Q T1 R0 M' u v 1393 (LwS i) []) : MW E mLaw Sn Q T1 R0 M u v 578 (LwS i) [] := by
  refine w_aload_n dL_law_578 rfl ?_
  refine x_arg (k := 1) dL_law_579 dL_law_580 dL_law_582 dL_law_583 dL_law_584 (by omega) (fun g1 => ?_)
  refine x_call (as := [pI (E.2 (i + 1))]) (q := qI _) (S2 := Top) dL_law_585 kL_70 ⟨⟨Nat.le_of_ble_eq_true rfl, hu.1, hu.2⟩, Nat.le_of_ble_eq_true rfl⟩ ⟨rfl, rfl⟩ rfl (by decide) rfl (Nat.le_of_ble_eq_true rfl) qI_ok (fun _ h9 => h9.elim) stbT (b_seal g1 hI (P := Iv) (fun _ h9 => ⟨_, _, _, _, h9⟩)) ?_
  rintro r1 M2 ⟨x1, rfl, h2⟩
  refine w_aload_n dL_law_588 rfl ?_
  refine x_arg (k := 1) dL_law_589 dL_law_590 dL_law_592 dL_law_593 dL_law_594 (by omega) (fun g1 => ?_)
  refine x_call (as := [pI (E.2 (i + 1))]) (q := qI _) (S2 := Top) dL_law_595 kL_73 ⟨⟨Nat.le_of_ble_eq_true rfl, hu.1, hu.2⟩, Nat.le_of_ble_eq_true rfl⟩ ⟨rfl, rfl⟩ rfl (by decide) rfl (Nat.le_of_ble_eq_true rfl) qI_ok (fun _ h9 => h9.elim) stbT (MW_cong ov_lt h2) ?_
  rintro r2 M3 ⟨x2, rfl, rfl, h3⟩
  exact w_ieqS dL_law_598 rfl (hN _ h3.ov)
theorem lc_11 (hI : Inv z s y no M) (hi : i + 6 ≤ E.1) (hu : u ≤ 1135 ∧ v ≤ 17040) (hN : ∀ M', Iv M' → MW E mLaw Sn Q T1 R0 M' u v 1393 (LwS i) []) : MW E mLaw Sn Q T1 R0 M u v 603 (LwS i) [] := by
  refine w_aload_n dL_law_603 rfl ?_
  refine x_arg (k := 1) dL_law_604 dL_law_605 dL_law_607 dL_law_608 dL_law_609 (by omega) (fun g1 => ?_)
  refine x_call (as := [pI (E.2 (i + 1))]) (q := qI _) (S2 := Top) dL_law_610 kL_74 ⟨⟨Nat.le_of_ble_eq_true rfl, hu.1, hu.2⟩, Nat.le_of_ble_eq_true rfl⟩ ⟨rfl, rfl⟩ rfl (by decide) rfl (Nat.le_of_ble_eq_true rfl) qI_ok (fun _ h9 => h9.elim) stbT (b_go g1 hI (P := Iv) (fun _ h9 => ⟨_, _, _, _, h9⟩)) ?_
  rintro r1 M2 ⟨x1, rfl, h2⟩
  refine w_aload_n dL_law_613 rfl ?_
  refine x_arg (k := 1) dL_law_614 dL_law_615 dL_law_617 dL_law_618 dL_law_619 (by omega) (fun g1 => ?_)
  refine x_call (as := [pI (E.2 (i + 1))]) (q := qI _) (S2 := Top) dL_law_620 kL_77 ⟨⟨Nat.le_of_ble_eq_true rfl, hu.1, hu.2⟩, Nat.le_of_ble_eq_true rfl⟩ ⟨rfl, rfl⟩ rfl (by decide) rfl (Nat.le_of_ble_eq_true rfl) qI_ok (fun _ h9 => h9.elim) stbT (MW_cong ov_lt h2) ?_
  rintro r2 M3 ⟨x2, rfl, rfl, h3⟩
  exact w_ieqS dL_law_623 rfl (hN _ h3.ov)
theorem lc_12 (hI : Inv z s y no M) (hi : i + 6 ≤ E.1) (hu : u ≤ 1135 ∧ v ≤ 17040) (hN : ∀ M', Iv M' → MW E mLaw Sn Q T1 R0 M' u v 1393 (LwS i) []) : MW E mLaw Sn Q T1 R0 M u v 628 (LwS i) [] := by
  refine w_aload_n dL_law_628 rfl ?_
  refine x_arg (k := 1) dL_law_629 dL_law_630 dL_law_632 dL_law_633 dL_law_634 (by omega) (fun g1 => ?_)
  refine x_arg (k := 2) dL_law_635 dL_law_636 dL_law_638 dL_law_639 dL_law_640 (by omega) (fun g2 => ?_)
  refine x_call (as := [pI (E.2 (i + 1)), pI (E.2 (i + 2))]) (q := qI _) (S2 := Top) dL_law_641 kL_78 ⟨⟨Nat.le_of_ble_eq_true rfl, hu.1, hu.2⟩, Nat.le_of_ble_eq_true rfl⟩ ⟨rfl, rfl⟩ rfl (by decide) rfl (Nat.le_of_ble_eq_true rfl) qI_ok (fun _ h9 => h9.elim) stbT (b_ahead g1 g2 hI (P := Iv) (fun _ h9 => ⟨_, _, _, _, h9⟩)) ?_
  rintro r1 M2 ⟨x1, rfl, h2⟩
  refine w_aload_n dL_law_644 rfl ?_
  refine x_arg (k := 1) dL_law_645 dL_law_646 dL_law_648 dL_law_649 dL_law_650 (by omega) (fun g1 => ?_)
  refine x_arg (k := 2) dL_law_651 dL_law_652 dL_law_654 dL_law_655 dL_law_656 (by omega) (fun g2 => ?_)
  refine x_call (as := [pI (E.2 (i + 1)), pI (E.2 (i + 2))]) (q := qI _) (S2 := Top) dL_law_657 kL_81 ⟨⟨Nat.le_of_ble_eq_true rfl, hu.1, hu.2⟩, Nat.le_of_ble_eq_true rfl⟩ ⟨rfl, rfl⟩ rfl (by decide) rfl (Nat.le_of_ble_eq_true rfl) qI_ok (fun _ h9 => h9.elim) stbT (MW_cong ov_lt h2) ?_
  rintro r2 M3 ⟨x2, rfl, rfl, h3⟩
  exact w_ieqS dL_law_660 rfl (hN _ h3.ov)
theorem lc_13 (hI : Inv z s y no M) (hi : i + 6 ≤ E.1) (hu : u ≤ 1135 ∧ v ≤ 17040) (hN : ∀ M', Iv M' → MW E mLaw Sn Q T1 R0 M' u v 1393 (LwS i) []) : MW E mLaw Sn Q T1 R0 M u v 665 (LwS i) [] := by
  refine w_aload_n dL_law_665 rfl ?_
  refine x_arg (k := 1) dL_law_666 dL_law_667 dL_law_669 dL_law_670 dL_law_671 (by omega) (fun g1 => ?_)
  refine x_call (as := [pI (E.2 (i + 1))]) (q := qI _) (S2 := Top) dL_law_672 kL_82 ⟨⟨Nat.le_of_ble_eq_true rfl, hu.1, hu.2⟩, Nat.le_of_ble_eq_true rfl⟩ ⟨rfl, rfl⟩ rfl (by decide) rfl (Nat.le_of_ble_eq_true rfl) qI_ok (fun _ h9 => h9.elim) stbT (b_when g1 hI (P := Iv) (fun _ h9 => ⟨_, _, _, _, h9⟩)) ?_
  rintro r1 M2 ⟨x1, rfl, h2⟩
  refine w_aload_n dL_law_675 rfl ?_
  refine x_arg (k := 1) dL_law_676 dL_law_677 dL_law_679 dL_law_680 dL_law_681 (by omega) (fun g1 => ?_)
  refine x_call (as := [pI (E.2 (i + 1))]) (q := qI _) (S2 := Top) dL_law_682 kL_85 ⟨⟨Nat.le_of_ble_eq_true rfl, hu.1, hu.2⟩, Nat.le_of_ble_eq_true rfl⟩ ⟨rfl, rfl⟩ rfl (by decide) rfl (Nat.le_of_ble_eq_true rfl) qI_ok (fun _ h9 => h9.elim) stbT (MW_cong ov_lt h2) ?_
  rintro r2 M3 ⟨x2, rfl, rfl, h3⟩
  exact w_ieqS dL_law_685 rfl (hN _ h3.ov)
theorem lc_14 (hI : Inv z s y no M) (hi : i + 6 ≤ E.1) (hu : u ≤ 1135 ∧ v ≤ 17040) (hN : ∀ M', Iv M' → MW E mLaw Sn Q T1 R0 M' u v 1393 (LwS i) []) : MW E mLaw Sn Q T1 R0 M u v 690 (LwS i) [] := by
  refine w_aload_n dL_law_690 rfl ?_
  refine x_arg (k := 1) dL_law_691 dL_law_692 dL_law_694 dL_law_695 dL_law_696 (by omega) (fun g1 => ?_)
  refine x_call (as := [pI (E.2 (i + 1))]) (q := qI _) (S2 := Top) dL_law_697 kL_86 ⟨⟨Nat.le_of_ble_eq_true rfl, hu.1, hu.2⟩, Nat.le_of_ble_eq_true rfl⟩ ⟨rfl, rfl⟩ rfl (by decide) rfl (Nat.le_of_ble_eq_true rfl) qI_ok (fun _ h9 => h9.elim) stbT (b_fewest g1 hI (P := Iv) (fun _ h9 => ⟨_, _, _, _, h9⟩)) ?_
  rintro r1 M2 ⟨x1, rfl, h2⟩
  refine w_aload_n dL_law_700 rfl ?_
  refine x_arg (k := 1) dL_law_701 dL_law_702 dL_law_704 dL_law_705 dL_law_706 (by omega) (fun g1 => ?_)
  refine x_call (as := [pI (E.2 (i + 1))]) (q := qI _) (S2 := Top) dL_law_707 kL_89 ⟨⟨Nat.le_of_ble_eq_true rfl, hu.1, hu.2⟩, Nat.le_of_ble_eq_true rfl⟩ ⟨rfl, rfl⟩ rfl (by decide) rfl (Nat.le_of_ble_eq_true rfl) qI_ok (fun _ h9 => h9.elim) stbT (MW_cong ov_lt h2) ?_
  rintro r2 M3 ⟨x2, rfl, rfl, h3⟩
  exact w_ieqS dL_law_710 rfl (hN _ h3.ov)
theorem lc_15 (hI : Inv z s y no M) (hi : i + 6 ≤ E.1) (hu : u ≤ 1135 ∧ v ≤ 17040) (hN : ∀ M', Iv M' → MW E mLaw Sn Q T1 R0 M' u v 1393 (LwS i) []) : MW E mLaw Sn Q T1 R0 M u v 715 (LwS i) [] := by
  refine w_aload_n dL_law_715 rfl ?_
  refine x_arg (k := 1) dL_law_716 dL_law_717 dL_law_719 dL_law_720 dL_law_721 (by omega) (fun g1 => ?_)
  refine x_call (as := [pI (E.2 (i + 1))]) (q := qI _) (S2 := Top) dL_law_722 kL_90 ⟨⟨Nat.le_of_ble_eq_true rfl, hu.1, hu.2⟩, Nat.le_of_ble_eq_true rfl⟩ ⟨rfl, rfl⟩ rfl (by decide) rfl (Nat.le_of_ble_eq_true rfl) qI_ok (fun _ h9 => h9.elim) stbT (b_first g1 hI (P := Iv) (fun _ h9 => ⟨_, _, _, _, h9⟩)) ?_
  rintro r1 M2 ⟨x1, rfl, h2⟩
  refine w_aload_n dL_law_725 rfl ?_
  refine x_arg (k := 1) dL_law_726 dL_law_727 dL_law_729 dL_law_730 dL_law_731 (by omega) (fun g1 => ?_)
  refine x_call (as := [pI (E.2 (i + 1))]) (q := qI _) (S2 := Top) dL_law_732 kL_93 ⟨⟨Nat.le_of_ble_eq_true rfl, hu.1, hu.2⟩, Nat.le_of_ble_eq_true rfl⟩ ⟨rfl, rfl⟩ rfl (by decide) rfl (Nat.le_of_ble_eq_true rfl) qI_ok (fun _ h9 => h9.elim) stbT (MW_cong ov_lt h2) ?_
  rintro r2 M3 ⟨x2, rfl, rfl, h3⟩
  exact w_ieqS dL_law_735 rfl (hN _ h3.ov)
theorem lc_16 (hI : Inv z s y no M) (hi : i + 6 ≤ E.1) (hu : u ≤ 1135 ∧ v ≤ 17040) (hN : ∀ M', Iv M' → MW E mLaw Sn Q T1 R0 M' u v 1393 (LwS i) []) : MW E mLaw Sn Q T1 R0 M u v 740 (LwS i) [] := by
  refine w_aload_n dL_law_740 rfl ?_
  refine x_arg (k := 1) dL_law_741 dL_law_742 dL_law_744 dL_law_745 dL_law_746 (by omega) (fun g1 => ?_)
  refine x_call (as := [pI (E.2 (i + 1))]) (q := qI _) (S2 := Top) dL_law_747 kL_94 ⟨⟨Nat.le_of_ble_eq_true rfl, hu.1, hu.2⟩, Nat.le_of_ble_eq_true rfl⟩ ⟨rfl, rfl⟩ rfl (by decide) rfl (Nat.le_of_ble_eq_true rfl) qI_ok (fun _ h9 => h9.elim) stbT (b_ways g1 hI (P := Iv) (fun _ h9 => ⟨_, _, _, _, h9⟩)) ?_
  rintro r1 M2 ⟨x1, rfl, h2⟩
  refine w_aload_n dL_law_750 rfl ?_
  refine x_arg (k := 1) dL_law_751 dL_law_752 dL_law_754 dL_law_755 dL_law_756 (by omega) (fun g1 => ?_)
  refine x_call (as := [pI (E.2 (i + 1))]) (q := qI _) (S2 := Top) dL_law_757 kL_97 ⟨⟨Nat.le_of_ble_eq_true rfl, hu.1, hu.2⟩, Nat.le_of_ble_eq_true rfl⟩ ⟨rfl, rfl⟩ rfl (by decide) rfl (Nat.le_of_ble_eq_true rfl) qI_ok (fun _ h9 => h9.elim) stbT (MW_cong ov_lt h2) ?_
  rintro r2 M3 ⟨x2, rfl, rfl, h3⟩
  exact w_ieqS dL_law_760 rfl (hN _ h3.ov)
theorem lc_17 (hI : Inv z s y no M) (hi : i + 6 ≤ E.1) (hu : u ≤ 1135 ∧ v ≤ 17040) (hN : ∀ M', Iv M' → MW E mLaw Sn Q T1 R0 M' u v 1393 (LwS i) []) : MW E mLaw Sn Q T1 R0 M u v 765 (LwS i) [] := by
  refine w_aload_n dL_law_765 rfl ?_
  refine x_call (as := []) (q := qI _) (S2 := Top) dL_law_766 kL_98 ⟨⟨Nat.le_of_ble_eq_true rfl, hu.1, hu.2⟩, Nat.le_of_ble_eq_true rfl⟩ ⟨rfl, rfl⟩ rfl (by decide) rfl (Nat.le_of_ble_eq_true rfl) qI_ok (fun _ h9 => h9.elim) stbT (b_reach  hI (P := Iv) (fun _ h9 => ⟨_, _, _, _, h9⟩)) ?_
  rintro r1 M2 ⟨x1, rfl, h2⟩
  refine w_aload_n dL_law_769 rfl ?_
  refine x_call (as := []) (q := qI _) (S2 := Top) dL_law_770 kL_101 ⟨⟨Nat.le_of_ble_eq_true rfl, hu.1, hu.2⟩, Nat.le_of_ble_eq_true rfl⟩ ⟨rfl, rfl⟩ rfl (by decide) rfl (Nat.le_of_ble_eq_true rfl) qI_ok (fun _ h9 => h9.elim) stbT (MW_cong ov_lt h2) ?_
  rintro r2 M3 ⟨x2, rfl, rfl, h3⟩
  exact w_ieqS dL_law_773 rfl (hN _ h3.ov)
theorem lc_18 (hI : Inv z s y no M) (hi : i + 6 ≤ E.1) (hu : u ≤ 1135 ∧ v ≤ 17040) (hN : ∀ M', Iv M' → MW E mLaw Sn Q T1 R0 M' u v 1393 (LwS i) []) : MW E mLaw Sn Q T1 R0 M u v 778 (LwS i) [] := by
  refine w_aload_n dL_law_778 rfl ?_
  refine x_arg (k := 1) dL_law_779 dL_law_780 dL_law_782 dL_law_783 dL_law_784 (by omega) (fun g1 => ?_)
  refine x_call (as := [pI (E.2 (i + 1))]) (q := qI _) (S2 := Top) dL_law_785 kL_102 ⟨⟨Nat.le_of_ble_eq_true rfl, hu.1, hu.2⟩, Nat.le_of_ble_eq_true rfl⟩ ⟨rfl, rfl⟩ rfl (by decide) rfl (Nat.le_of_ble_eq_true rfl) qI_ok (fun _ h9 => h9.elim) stbT (b_farthest g1 hI (P := Iv) (fun _ h9 => ⟨_, _, _, _, h9⟩)) ?_
  rintro r1 M2 ⟨x1, rfl, h2⟩
  refine w_aload_n dL_law_788 rfl ?_
  refine x_arg (k := 1) dL_law_789 dL_law_790 dL_law_792 dL_law_793 dL_law_794 (by omega) (fun g1 => ?_)
  refine x_call (as := [pI (E.2 (i + 1))]) (q := qI _) (S2 := Top) dL_law_795 kL_105 ⟨⟨Nat.le_of_ble_eq_true rfl, hu.1, hu.2⟩, Nat.le_of_ble_eq_true rfl⟩ ⟨rfl, rfl⟩ rfl (by decide) rfl (Nat.le_of_ble_eq_true rfl) qI_ok (fun _ h9 => h9.elim) stbT (MW_cong ov_lt h2) ?_
  rintro r2 M3 ⟨x2, rfl, rfl, h3⟩
  exact w_ieqS dL_law_798 rfl (hN _ h3.ov)
theorem lc_19 (hI : Inv z s y no M) (hi : i + 6 ≤ E.1) (hu : u ≤ 1135 ∧ v ≤ 17040) (hN : ∀ M', Iv M' → MW E mLaw Sn Q T1 R0 M' u v 1393 (LwS i) []) : MW E mLaw Sn Q T1 R0 M u v 803 (LwS i) [] := by
  refine w_aload_n dL_law_803 rfl ?_
  refine x_call (as := []) (q := qI _) (S2 := Top) dL_law_804 kL_106 ⟨⟨Nat.le_of_ble_eq_true rfl, hu.1, hu.2⟩, Nat.le_of_ble_eq_true rfl⟩ ⟨rfl, rfl⟩ rfl (by decide) rfl (Nat.le_of_ble_eq_true rfl) qI_ok (fun _ h9 => h9.elim) stbT (b_wide  hI (P := Iv) (fun _ h9 => ⟨_, _, _, _, h9⟩)) ?_
  rintro r1 M2 ⟨x1, rfl, h2⟩
  refine w_aload_n dL_law_807 rfl ?_
  refine x_call (as := []) (q := qI _) (S2 := Top) dL_law_808 kL_109 ⟨⟨Nat.le_of_ble_eq_true rfl, hu.1, hu.2⟩, Nat.le_of_ble_eq_true rfl⟩ ⟨rfl, rfl⟩ rfl (by decide) rfl (Nat.le_of_ble_eq_true rfl) qI_ok (fun _ h9 => h9.elim) stbT (MW_cong ov_lt h2) ?_
  rintro r2 M3 ⟨x2, rfl, rfl, h3⟩
  exact w_ieqS dL_law_811 rfl (hN _ h3.ov)
theorem lc_20 (hI : Inv z s y no M) (hi : i + 6 ≤ E.1) (hu : u ≤ 1135 ∧ v ≤ 17040) (hN : ∀ M', Iv M' → MW E mLaw Sn Q T1 R0 M' u v 1393 (LwS i) []) : MW E mLaw Sn Q T1 R0 M u v 816 (LwS i) [] := by
  refine w_aload_n dL_law_816 rfl ?_
  refine x_call (as := []) (q := qI _) (S2 := Top) dL_law_817 kL_110 ⟨⟨Nat.le_of_ble_eq_true rfl, hu.1, hu.2⟩, Nat.le_of_ble_eq_true rfl⟩ ⟨rfl, rfl⟩ rfl (by decide) rfl (Nat.le_of_ble_eq_true rfl) qI_ok (fun _ h9 => h9.elim) stbT (b_parts  hI (P := Iv) (fun _ h9 => ⟨_, _, _, _, h9⟩)) ?_
  rintro r1 M2 ⟨x1, rfl, h2⟩
  refine w_aload_n dL_law_820 rfl ?_
  refine x_call (as := []) (q := qI _) (S2 := Top) dL_law_821 kL_113 ⟨⟨Nat.le_of_ble_eq_true rfl, hu.1, hu.2⟩, Nat.le_of_ble_eq_true rfl⟩ ⟨rfl, rfl⟩ rfl (by decide) rfl (Nat.le_of_ble_eq_true rfl) qI_ok (fun _ h9 => h9.elim) stbT (MW_cong ov_lt h2) ?_
  rintro r2 M3 ⟨x2, rfl, rfl, h3⟩
  exact w_ieqS dL_law_824 rfl (hN _ h3.ov)
theorem lc_21 (hI : Inv z s y no M) (hi : i + 6 ≤ E.1) (hu : u ≤ 1135 ∧ v ≤ 17040) (hN : ∀ M', Iv M' → MW E mLaw Sn Q T1 R0 M' u v 1393 (LwS i) []) : MW E mLaw Sn Q T1 R0 M u v 829 (LwS i) [] := by
  refine w_aload_n dL_law_829 rfl ?_
  refine x_arg (k := 1) dL_law_830 dL_law_831 dL_law_833 dL_law_834 dL_law_835 (by omega) (fun g1 => ?_)
  refine x_arg (k := 2) dL_law_836 dL_law_837 dL_law_839 dL_law_840 dL_law_841 (by omega) (fun g2 => ?_)
  refine x_call (as := [pI (E.2 (i + 1)), pI (E.2 (i + 2))]) (q := qI _) (S2 := Top) dL_law_842 kL_114 ⟨⟨Nat.le_of_ble_eq_true rfl, hu.1, hu.2⟩, Nat.le_of_ble_eq_true rfl⟩ ⟨rfl, rfl⟩ rfl (by decide) rfl (Nat.le_of_ble_eq_true rfl) qI_ok (fun _ h9 => h9.elim) stbT (b_past g1 g2 hI (P := Iv) (fun _ h9 => ⟨_, _, _, _, h9⟩)) ?_
  rintro r1 M2 ⟨x1, rfl, h2⟩
  refine w_aload_n dL_law_845 rfl ?_
  refine x_arg (k := 1) dL_law_846 dL_law_847 dL_law_849 dL_law_850 dL_law_851 (by omega) (fun g1 => ?_)
  refine x_arg (k := 2) dL_law_852 dL_law_853 dL_law_855 dL_law_856 dL_law_857 (by omega) (fun g2 => ?_)
  refine x_call (as := [pI (E.2 (i + 1)), pI (E.2 (i + 2))]) (q := qI _) (S2 := Top) dL_law_858 kL_117 ⟨⟨Nat.le_of_ble_eq_true rfl, hu.1, hu.2⟩, Nat.le_of_ble_eq_true rfl⟩ ⟨rfl, rfl⟩ rfl (by decide) rfl (Nat.le_of_ble_eq_true rfl) qI_ok (fun _ h9 => h9.elim) stbT (MW_cong ov_lt h2) ?_
  rintro r2 M3 ⟨x2, rfl, rfl, h3⟩
  exact w_ieqS dL_law_861 rfl (hN _ h3.ov)
theorem lc_22 (hI : Inv z s y no M) (hi : i + 6 ≤ E.1) (hu : u ≤ 1135 ∧ v ≤ 17040) (hN : ∀ M', Iv M' → MW E mLaw Sn Q T1 R0 M' u v 1393 (LwS i) []) : MW E mLaw Sn Q T1 R0 M u v 866 (LwS i) [] := by
  refine w_aload_n dL_law_866 rfl ?_
  refine x_arg (k := 1) dL_law_867 dL_law_868 dL_law_870 dL_law_871 dL_law_872 (by omega) (fun g1 => ?_)
  refine x_call (as := [pI (E.2 (i + 1))]) (q := qI _) (S2 := Top) dL_law_873 kL_118 ⟨⟨Nat.le_of_ble_eq_true rfl, hu.1, hu.2⟩, Nat.le_of_ble_eq_true rfl⟩ ⟨rfl, rfl⟩ rfl (by decide) rfl (Nat.le_of_ble_eq_true rfl) qI_ok (fun _ h9 => h9.elim) stbT (b_must g1 hI (P := Iv) (fun _ h9 => ⟨_, _, _, _, h9⟩)) ?_
  rintro r1 M2 ⟨x1, rfl, h2⟩
  refine w_aload_n dL_law_876 rfl ?_
  refine x_arg (k := 1) dL_law_877 dL_law_878 dL_law_880 dL_law_881 dL_law_882 (by omega) (fun g1 => ?_)
  refine x_call (as := [pI (E.2 (i + 1))]) (q := qI _) (S2 := Top) dL_law_883 kL_121 ⟨⟨Nat.le_of_ble_eq_true rfl, hu.1, hu.2⟩, Nat.le_of_ble_eq_true rfl⟩ ⟨rfl, rfl⟩ rfl (by decide) rfl (Nat.le_of_ble_eq_true rfl) qI_ok (fun _ h9 => h9.elim) stbT (MW_cong ov_lt h2) ?_
  rintro r2 M3 ⟨x2, rfl, rfl, h3⟩
  exact w_ieqS dL_law_886 rfl (hN _ h3.ov)
theorem lc_23 (hI : Inv z s y no M) (hi : i + 6 ≤ E.1) (hu : u ≤ 1135 ∧ v ≤ 17040) (hN : ∀ M', Iv M' → MW E mLaw Sn Q T1 R0 M' u v 1393 (LwS i) []) : MW E mLaw Sn Q T1 R0 M u v 891 (LwS i) [] := by
  refine w_aload_n dL_law_891 rfl ?_
  refine x_arg (k := 1) dL_law_892 dL_law_893 dL_law_895 dL_law_896 dL_law_897 (by omega) (fun g1 => ?_)
  refine x_call (as := [pI (E.2 (i + 1))]) (q := qI _) (S2 := Top) dL_law_898 kL_122 ⟨⟨Nat.le_of_ble_eq_true rfl, hu.1, hu.2⟩, Nat.le_of_ble_eq_true rfl⟩ ⟨rfl, rfl⟩ rfl (by decide) rfl (Nat.le_of_ble_eq_true rfl) qI_ok (fun _ h9 => h9.elim) stbT (b_free g1 hI (P := Iv) (fun _ h9 => ⟨_, _, _, _, h9⟩)) ?_
  rintro r1 M2 ⟨x1, rfl, h2⟩
  refine w_aload_n dL_law_901 rfl ?_
  refine x_arg (k := 1) dL_law_902 dL_law_903 dL_law_905 dL_law_906 dL_law_907 (by omega) (fun g1 => ?_)
  refine x_call (as := [pI (E.2 (i + 1))]) (q := qI _) (S2 := Top) dL_law_908 kL_125 ⟨⟨Nat.le_of_ble_eq_true rfl, hu.1, hu.2⟩, Nat.le_of_ble_eq_true rfl⟩ ⟨rfl, rfl⟩ rfl (by decide) rfl (Nat.le_of_ble_eq_true rfl) qI_ok (fun _ h9 => h9.elim) stbT (MW_cong ov_lt h2) ?_
  rintro r2 M3 ⟨x2, rfl, rfl, h3⟩
  exact w_ieqS dL_law_911 rfl (hN _ h3.ov)
theorem lc_24 (hI : Inv z s y no M) (hi : i + 6 ≤ E.1) (hu : u ≤ 1135 ∧ v ≤ 17040) (hN : ∀ M', Iv M' → MW E mLaw Sn Q T1 R0 M' u v 1393 (LwS i) []) : MW E mLaw Sn Q T1 R0 M u v 916 (LwS i) [] := by
  refine w_aload_n dL_law_916 rfl ?_
  refine x_arg (k := 1) dL_law_917 dL_law_918 dL_law_920 dL_law_921 dL_law_922 (by omega) (fun g1 => ?_)
  refine x_call (as := [pI (E.2 (i + 1))]) (q := qI _) (S2 := Top) dL_law_923 kL_126 ⟨⟨Nat.le_of_ble_eq_true rfl, hu.1, hu.2⟩, Nat.le_of_ble_eq_true rfl⟩ ⟨rfl, rfl⟩ rfl (by decide) rfl (Nat.le_of_ble_eq_true rfl) qI_ok (fun _ h9 => h9.elim) stbT (b_ease g1 hI (P := Iv) (fun _ h9 => ⟨_, _, _, _, h9⟩)) ?_
  rintro r1 M2 ⟨x1, rfl, h2⟩
  refine w_aload_n dL_law_926 rfl ?_
  refine x_arg (k := 1) dL_law_927 dL_law_928 dL_law_930 dL_law_931 dL_law_932 (by omega) (fun g1 => ?_)
  refine x_call (as := [pI (E.2 (i + 1))]) (q := qI _) (S2 := Top) dL_law_933 kL_129 ⟨⟨Nat.le_of_ble_eq_true rfl, hu.1, hu.2⟩, Nat.le_of_ble_eq_true rfl⟩ ⟨rfl, rfl⟩ rfl (by decide) rfl (Nat.le_of_ble_eq_true rfl) qI_ok (fun _ h9 => h9.elim) stbT (MW_cong ov_lt h2) ?_
  rintro r2 M3 ⟨x2, rfl, rfl, h3⟩
  exact w_ieqS dL_law_936 rfl (hN _ h3.ov)
theorem lc_25 (hI : Inv z s y no M) (hi : i + 6 ≤ E.1) (hu : u ≤ 1135 ∧ v ≤ 17040) (hN : ∀ M', Iv M' → MW E mLaw Sn Q T1 R0 M' u v 1393 (LwS i) []) : MW E mLaw Sn Q T1 R0 M u v 941 (LwS i) [] := by
  refine w_aload_n dL_law_941 rfl ?_
  refine x_arg (k := 1) dL_law_942 dL_law_943 dL_law_945 dL_law_946 dL_law_947 (by omega) (fun g1 => ?_)
  refine x_call (as := [pI (E.2 (i + 1))]) (q := qI _) (S2 := Top) dL_law_948 kL_130 ⟨⟨Nat.le_of_ble_eq_true rfl, hu.1, hu.2⟩, Nat.le_of_ble_eq_true rfl⟩ ⟨rfl, rfl⟩ rfl (by decide) rfl (Nat.le_of_ble_eq_true rfl) qI_ok (fun _ h9 => h9.elim) stbT (b_game g1 hI (P := Iv) (fun _ h9 => ⟨_, _, _, _, h9⟩)) ?_
  rintro r1 M2 ⟨x1, rfl, h2⟩
  refine w_aload_n dL_law_951 rfl ?_
  refine x_arg (k := 1) dL_law_952 dL_law_953 dL_law_955 dL_law_956 dL_law_957 (by omega) (fun g1 => ?_)
  refine x_call (as := [pI (E.2 (i + 1))]) (q := qI _) (S2 := Top) dL_law_958 kL_133 ⟨⟨Nat.le_of_ble_eq_true rfl, hu.1, hu.2⟩, Nat.le_of_ble_eq_true rfl⟩ ⟨rfl, rfl⟩ rfl (by decide) rfl (Nat.le_of_ble_eq_true rfl) qI_ok (fun _ h9 => h9.elim) stbT (MW_cong ov_lt h2) ?_
  rintro r2 M3 ⟨x2, rfl, rfl, h3⟩
  exact w_ieqS dL_law_961 rfl (hN _ h3.ov)
theorem lc_26 (hI : Inv z s y no M) (hi : i + 6 ≤ E.1) (hu : u ≤ 1135 ∧ v ≤ 17040) (hN : ∀ M', Iv M' → MW E mLaw Sn Q T1 R0 M' u v 1393 (LwS i) []) : MW E mLaw Sn Q T1 R0 M u v 966 (LwS i) [] := by
  refine w_aload_n dL_law_966 rfl ?_
  refine x_arg (k := 1) dL_law_967 dL_law_968 dL_law_970 dL_law_971 dL_law_972 (by omega) (fun g1 => ?_)
  refine x_arg (k := 2) dL_law_973 dL_law_974 dL_law_976 dL_law_977 dL_law_978 (by omega) (fun g2 => ?_)
  refine x_arg (k := 3) dL_law_979 dL_law_980 dL_law_982 dL_law_983 dL_law_984 (by omega) (fun g3 => ?_)
  refine x_call (as := [pI (E.2 (i + 1)), pI (E.2 (i + 2)), pI (E.2 (i + 3))]) (q := qL _) (S2 := Top) dL_law_985 kL_134 ⟨⟨Nat.le_of_ble_eq_true rfl, hu.1, hu.2⟩, Nat.le_of_ble_eq_true rfl⟩ ⟨rfl, rfl⟩ rfl (by decide) rfl (Nat.le_of_ble_eq_true rfl) qL_ok (fun _ h9 => h9.elim) stbT (b_drunk g1 g2 g3 hI (P := Iv) (fun _ h9 => ⟨_, _, _, _, h9⟩)) ?_
  rintro r1 M2 ⟨x1, rfl, h2⟩
  refine w_aload_n dL_law_988 rfl ?_
  refine x_arg (k := 1) dL_law_989 dL_law_990 dL_law_992 dL_law_993 dL_law_994 (by omega) (fun g1 => ?_)
  refine x_arg (k := 2) dL_law_995 dL_law_996 dL_law_998 dL_law_999 dL_law_1000 (by omega) (fun g2 => ?_)
  refine x_arg (k := 3) dL_law_1001 dL_law_1002 dL_law_1004 dL_law_1005 dL_law_1006 (by omega) (fun g3 => ?_)
  refine x_call (as := [pI (E.2 (i + 1)), pI (E.2 (i + 2)), pI (E.2 (i + 3))]) (q := qL _) (S2 := Top) dL_law_1007 kL_138 ⟨⟨Nat.le_of_ble_eq_true rfl, hu.1, hu.2⟩, Nat.le_of_ble_eq_true rfl⟩ ⟨rfl, rfl⟩ rfl (by decide) rfl (Nat.le_of_ble_eq_true rfl) qL_ok (fun _ h9 => h9.elim) stbT (MW_cong ov_lt h2) ?_
  rintro r2 M3 ⟨x2, rfl, rfl, h3⟩
  exact w_leqS dL_law_1010 dL_law_1011 rfl (hN _ h3.ov)
theorem lc_27 (hI : Inv z s y no M) (hi : i + 6 ≤ E.1) (hu : u ≤ 1135 ∧ v ≤ 17040) (hN : ∀ M', Iv M' → MW E mLaw Sn Q T1 R0 M' u v 1393 (LwS i) []) : MW E mLaw Sn Q T1 R0 M u v 1016 (LwS i) [] := by
  refine w_aload_n dL_law_1016 rfl ?_
  refine x_arg (k := 1) dL_law_1017 dL_law_1018 dL_law_1020 dL_law_1021 dL_law_1022 (by omega) (fun g1 => ?_)
  refine x_arg (k := 2) dL_law_1023 dL_law_1024 dL_law_1026 dL_law_1027 dL_law_1028 (by omega) (fun g2 => ?_)
  refine x_call (as := [pI (E.2 (i + 1)), pI (E.2 (i + 2))]) (q := qL _) (S2 := Top) dL_law_1029 kL_139 ⟨⟨Nat.le_of_ble_eq_true rfl, hu.1, hu.2⟩, Nat.le_of_ble_eq_true rfl⟩ ⟨rfl, rfl⟩ rfl (by decide) rfl (Nat.le_of_ble_eq_true rfl) qL_ok (fun _ h9 => h9.elim) stbT (b_holds g1 g2 hI (P := Iv) (fun _ h9 => ⟨_, _, _, _, h9⟩)) ?_
  rintro r1 M2 ⟨x1, rfl, h2⟩
  refine w_aload_n dL_law_1032 rfl ?_
  refine x_arg (k := 1) dL_law_1033 dL_law_1034 dL_law_1036 dL_law_1037 dL_law_1038 (by omega) (fun g1 => ?_)
  refine x_arg (k := 2) dL_law_1039 dL_law_1040 dL_law_1042 dL_law_1043 dL_law_1044 (by omega) (fun g2 => ?_)
  refine x_call (as := [pI (E.2 (i + 1)), pI (E.2 (i + 2))]) (q := qL _) (S2 := Top) dL_law_1045 kL_142 ⟨⟨Nat.le_of_ble_eq_true rfl, hu.1, hu.2⟩, Nat.le_of_ble_eq_true rfl⟩ ⟨rfl, rfl⟩ rfl (by decide) rfl (Nat.le_of_ble_eq_true rfl) qL_ok (fun _ h9 => h9.elim) stbT (MW_cong ov_lt h2) ?_
  rintro r2 M3 ⟨x2, rfl, rfl, h3⟩
  exact w_leqS dL_law_1048 dL_law_1049 rfl (hN _ h3.ov)
theorem lc_28 (hI : Inv z s y no M) (hi : i + 6 ≤ E.1) (hu : u ≤ 1135 ∧ v ≤ 17040) (hN : ∀ M', Iv M' → MW E mLaw Sn Q T1 R0 M' u v 1393 (LwS i) []) : MW E mLaw Sn Q T1 R0 M u v 1054 (LwS i) [] := by
  refine w_aload_n dL_law_1054 rfl ?_
  refine x_arg (k := 1) dL_law_1055 dL_law_1056 dL_law_1058 dL_law_1059 dL_law_1060 (by omega) (fun g1 => ?_)
  refine x_arg (k := 2) dL_law_1061 dL_law_1062 dL_law_1064 dL_law_1065 dL_law_1066 (by omega) (fun g2 => ?_)
  refine x_arg (k := 3) dL_law_1067 dL_law_1068 dL_law_1070 dL_law_1071 dL_law_1072 (by omega) (fun g3 => ?_)
  refine x_bool dL_law_1073 dL_law_1076 dL_law_1077 dL_law_1080 rfl rfl g3 ?_
  refine x_call (as := [pI (E.2 (i + 1)), pI (E.2 (i + 2)), pI (nz (E.2 (i + 3)))]) (q := qI _) (S2 := Top) dL_law_1081 kL_143 ⟨⟨Nat.le_of_ble_eq_true rfl, hu.1, hu.2⟩, Nat.le_of_ble_eq_true rfl⟩ ⟨rfl, rfl⟩ rfl (by decide) rfl (Nat.le_of_ble_eq_true rfl) qI_ok (fun _ h9 => h9.elim) stbT (b_note g1 g2 nz_z hI (P := Iv) (fun _ h9 => ⟨_, _, _, _, h9⟩)) ?_
  rintro r1 M2 ⟨x1, rfl, h2⟩
  refine w_aload_n dL_law_1084 rfl ?_
  refine x_arg (k := 1) dL_law_1085 dL_law_1086 dL_law_1088 dL_law_1089 dL_law_1090 (by omega) (fun g1 => ?_)
  refine x_arg (k := 2) dL_law_1091 dL_law_1092 dL_law_1094 dL_law_1095 dL_law_1096 (by omega) (fun g2 => ?_)
  refine x_arg (k := 3) dL_law_1097 dL_law_1098 dL_law_1100 dL_law_1101 dL_law_1102 (by omega) (fun g3 => ?_)
  refine x_bool dL_law_1103 dL_law_1106 dL_law_1107 dL_law_1110 rfl rfl g3 ?_
  refine x_call (as := [pI (E.2 (i + 1)), pI (E.2 (i + 2)), pI (nz (E.2 (i + 3)))]) (q := qI _) (S2 := Top) dL_law_1111 kL_147 ⟨⟨Nat.le_of_ble_eq_true rfl, hu.1, hu.2⟩, Nat.le_of_ble_eq_true rfl⟩ ⟨rfl, rfl⟩ rfl (by decide) rfl (Nat.le_of_ble_eq_true rfl) qI_ok (fun _ h9 => h9.elim) stbT (MW_cong ov_lt h2) ?_
  rintro r2 M3 ⟨x2, rfl, rfl, h3⟩
  exact w_ieqS dL_law_1114 rfl (hN _ h3.ov)
theorem lc_29 (hI : Inv z s y no M) (hi : i + 6 ≤ E.1) (hu : u ≤ 1135 ∧ v ≤ 17040) (hN : ∀ M', Iv M' → MW E mLaw Sn Q T1 R0 M' u v 1393 (LwS i) []) : MW E mLaw Sn Q T1 R0 M u v 1119 (LwS i) [] := by
  refine w_aload_n dL_law_1119 rfl ?_
  refine x_arg (k := 1) dL_law_1120 dL_law_1121 dL_law_1123 dL_law_1124 dL_law_1125 (by omega) (fun g1 => ?_)
  refine x_call (as := [pI (E.2 (i + 1))]) (q := qI _) (S2 := Top) dL_law_1126 kL_148 ⟨⟨Nat.le_of_ble_eq_true rfl, hu.1, hu.2⟩, Nat.le_of_ble_eq_true rfl⟩ ⟨rfl, rfl⟩ rfl (by decide) rfl (Nat.le_of_ble_eq_true rfl) qI_ok (fun _ h9 => h9.elim) stbT (b_strike g1 hI (P := Iv) (fun _ h9 => ⟨_, _, _, _, h9⟩)) ?_
  rintro r1 M2 ⟨x1, rfl, h2⟩
  refine w_aload_n dL_law_1129 rfl ?_
  refine x_arg (k := 1) dL_law_1130 dL_law_1131 dL_law_1133 dL_law_1134 dL_law_1135 (by omega) (fun g1 => ?_)
  refine x_call (as := [pI (E.2 (i + 1))]) (q := qI _) (S2 := Top) dL_law_1136 kL_151 ⟨⟨Nat.le_of_ble_eq_true rfl, hu.1, hu.2⟩, Nat.le_of_ble_eq_true rfl⟩ ⟨rfl, rfl⟩ rfl (by decide) rfl (Nat.le_of_ble_eq_true rfl) qI_ok (fun _ h9 => h9.elim) stbT (MW_cong ov_lt h2) ?_
  rintro r2 M3 ⟨x2, rfl, rfl, h3⟩
  exact w_ieqS dL_law_1139 rfl (hN _ h3.ov)
theorem lc_30 (hI : Inv z s y no M) (hi : i + 6 ≤ E.1) (hu : u ≤ 1135 ∧ v ≤ 17040) (hN : ∀ M', Iv M' → MW E mLaw Sn Q T1 R0 M' u v 1393 (LwS i) []) : MW E mLaw Sn Q T1 R0 M u v 1144 (LwS i) [] := by
  refine w_aload_n dL_law_1144 rfl ?_
  refine x_arg (k := 1) dL_law_1145 dL_law_1146 dL_law_1148 dL_law_1149 dL_law_1150 (by omega) (fun g1 => ?_)
  refine x_call (as := [pI (E.2 (i + 1))]) (q := qI _) (S2 := Top) dL_law_1151 kL_152 ⟨⟨Nat.le_of_ble_eq_true rfl, hu.1, hu.2⟩, Nat.le_of_ble_eq_true rfl⟩ ⟨rfl, rfl⟩ rfl (by decide) rfl (Nat.le_of_ble_eq_true rfl) qI_ok (fun _ h9 => h9.elim) stbT (b_known g1 hI (P := Iv) (fun _ h9 => ⟨_, _, _, _, h9⟩)) ?_
  rintro r1 M2 ⟨x1, rfl, h2⟩
  refine w_aload_n dL_law_1154 rfl ?_
  refine x_arg (k := 1) dL_law_1155 dL_law_1156 dL_law_1158 dL_law_1159 dL_law_1160 (by omega) (fun g1 => ?_)
  refine x_call (as := [pI (E.2 (i + 1))]) (q := qI _) (S2 := Top) dL_law_1161 kL_156 ⟨⟨Nat.le_of_ble_eq_true rfl, hu.1, hu.2⟩, Nat.le_of_ble_eq_true rfl⟩ ⟨rfl, rfl⟩ rfl (by decide) rfl (Nat.le_of_ble_eq_true rfl) qI_ok (fun _ h9 => h9.elim) stbT (MW_cong ov_lt h2) ?_
  rintro r2 M3 ⟨x2, rfl, rfl, h3⟩
  exact w_ieqS dL_law_1164 rfl (hN _ h3.ov)
theorem lc_31 (hI : Inv z s y no M) (hi : i + 6 ≤ E.1) (hu : u ≤ 1135 ∧ v ≤ 17040) (hN : ∀ M', Iv M' → MW E mLaw Sn Q T1 R0 M' u v 1393 (LwS i) []) : MW E mLaw Sn Q T1 R0 M u v 1169 (LwS i) [] := by
  refine w_aload_n dL_law_1169 rfl ?_
  refine x_arg (k := 1) dL_law_1170 dL_law_1171 dL_law_1173 dL_law_1174 dL_law_1175 (by omega) (fun g1 => ?_)
  refine x_call (as := [pI (E.2 (i + 1))]) (q := qI _) (S2 := Top) dL_law_1176 kL_157 ⟨⟨Nat.le_of_ble_eq_true rfl, hu.1, hu.2⟩, Nat.le_of_ble_eq_true rfl⟩ ⟨rfl, rfl⟩ rfl (by decide) rfl (Nat.le_of_ble_eq_true rfl) qI_ok (fun _ h9 => h9.elim) stbT (b_fits g1 hI (P := Iv) (fun _ h9 => ⟨_, _, _, _, h9⟩)) ?_
  rintro r1 M2 ⟨x1, rfl, h2⟩
  refine w_aload_n dL_law_1179 rfl ?_
  refine x_arg (k := 1) dL_law_1180 dL_law_1181 dL_law_1183 dL_law_1184 dL_law_1185 (by omega) (fun g1 => ?_)
  refine x_call (as := [pI (E.2 (i + 1))]) (q := qI _) (S2 := Top) dL_law_1186 kL_160 ⟨⟨Nat.le_of_ble_eq_true rfl, hu.1, hu.2⟩, Nat.le_of_ble_eq_true rfl⟩ ⟨rfl, rfl⟩ rfl (by decide) rfl (Nat.le_of_ble_eq_true rfl) qI_ok (fun _ h9 => h9.elim) stbT (MW_cong ov_lt h2) ?_
  rintro r2 M3 ⟨x2, rfl, rfl, h3⟩
  exact w_ieqS dL_law_1189 rfl (hN _ h3.ov)
theorem lc_32 (hI : Inv z s y no M) (hi : i + 6 ≤ E.1) (hu : u ≤ 1135 ∧ v ≤ 17040) (hN : ∀ M', Iv M' → MW E mLaw Sn Q T1 R0 M' u v 1393 (LwS i) []) : MW E mLaw Sn Q T1 R0 M u v 1194 (LwS i) [] := by
  refine w_aload_n dL_law_1194 rfl ?_
  refine x_arg (k := 1) dL_law_1195 dL_law_1196 dL_law_1198 dL_law_1199 dL_law_1200 (by omega) (fun g1 => ?_)
  refine x_arg (k := 2) dL_law_1201 dL_law_1202 dL_law_1204 dL_law_1205 dL_law_1206 (by omega) (fun g2 => ?_)
  refine x_call (as := [pI (E.2 (i + 1)), pI (E.2 (i + 2))]) (q := qI _) (S2 := Top) dL_law_1207 kL_161 ⟨⟨Nat.le_of_ble_eq_true rfl, hu.1, hu.2⟩, Nat.le_of_ble_eq_true rfl⟩ ⟨rfl, rfl⟩ rfl (by decide) rfl (Nat.le_of_ble_eq_true rfl) qI_ok (fun _ h9 => h9.elim) stbT (b_ask g1 g2 hI (P := Iv) (fun _ h9 => ⟨_, _, _, _, h9⟩)) ?_
  rintro r1 M2 ⟨x1, rfl, h2⟩
  refine w_aload_n dL_law_1210 rfl ?_
  refine x_arg (k := 1) dL_law_1211 dL_law_1212 dL_law_1214 dL_law_1215 dL_law_1216 (by omega) (fun g1 => ?_)
  refine x_arg (k := 2) dL_law_1217 dL_law_1218 dL_law_1220 dL_law_1221 dL_law_1222 (by omega) (fun g2 => ?_)
  refine x_call (as := [pI (E.2 (i + 1)), pI (E.2 (i + 2))]) (q := qI _) (S2 := Top) dL_law_1223 kL_164 ⟨⟨Nat.le_of_ble_eq_true rfl, hu.1, hu.2⟩, Nat.le_of_ble_eq_true rfl⟩ ⟨rfl, rfl⟩ rfl (by decide) rfl (Nat.le_of_ble_eq_true rfl) qI_ok (fun _ h9 => h9.elim) stbT (MW_cong ov_lt h2) ?_
  rintro r2 M3 ⟨x2, rfl, rfl, h3⟩
  exact w_ieqS dL_law_1226 rfl (hN _ h3.ov)
theorem lc_33 (hI : Inv z s y no M) (hi : i + 6 ≤ E.1) (hu : u ≤ 1135 ∧ v ≤ 17040) (hN : ∀ M', Iv M' → MW E mLaw Sn Q T1 R0 M' u v 1393 (LwS i) []) : MW E mLaw Sn Q T1 R0 M u v 1231 (LwS i) [] := by
  refine w_aload_n dL_law_1231 rfl ?_
  refine x_arg (k := 1) dL_law_1232 dL_law_1233 dL_law_1235 dL_law_1236 dL_law_1237 (by omega) (fun g1 => ?_)
  refine x_arg (k := 2) dL_law_1238 dL_law_1239 dL_law_1241 dL_law_1242 dL_law_1243 (by omega) (fun g2 => ?_)
  refine x_arg (k := 3) dL_law_1244 dL_law_1245 dL_law_1247 dL_law_1248 dL_law_1249 (by omega) (fun g3 => ?_)
  refine x_call (as := [pI (E.2 (i + 1)), pI (E.2 (i + 2)), pI (E.2 (i + 3))]) (q := qI _) (S2 := Top) dL_law_1250 kL_165 ⟨⟨Nat.le_of_ble_eq_true rfl, hu.1, hu.2⟩, Nat.le_of_ble_eq_true rfl⟩ ⟨rfl, rfl⟩ rfl (by decide) rfl (Nat.le_of_ble_eq_true rfl) qI_ok (fun _ h9 => h9.elim) stbT (b_chance g1 g2 g3 hI (P := Iv) (fun _ h9 => ⟨_, _, _, _, h9⟩)) ?_
  rintro r1 M2 ⟨x1, rfl, h2⟩
  refine w_aload_n dL_law_1253 rfl ?_
  refine x_arg (k := 1) dL_law_1254 dL_law_1255 dL_law_1257 dL_law_1258 dL_law_1259 (by omega) (fun g1 => ?_)
  refine x_arg (k := 2) dL_law_1260 dL_law_1261 dL_law_1263 dL_law_1264 dL_law_1265 (by omega) (fun g2 => ?_)
  refine x_arg (k := 3) dL_law_1266 dL_law_1267 dL_law_1269 dL_law_1270 dL_law_1271 (by omega) (fun g3 => ?_)
  refine x_call (as := [pI (E.2 (i + 1)), pI (E.2 (i + 2)), pI (E.2 (i + 3))]) (q := qI _) (S2 := Top) dL_law_1272 kL_169 ⟨⟨Nat.le_of_ble_eq_true rfl, hu.1, hu.2⟩, Nat.le_of_ble_eq_true rfl⟩ ⟨rfl, rfl⟩ rfl (by decide) rfl (Nat.le_of_ble_eq_true rfl) qI_ok (fun _ h9 => h9.elim) stbT (MW_cong ov_lt h2) ?_
  rintro r2 M3 ⟨x2, rfl, rfl, h3⟩
  exact w_ieqS dL_law_1275 rfl (hN _ h3.ov)
theorem lc_34 (hI : Inv z s y no M) (hi : i + 6 ≤ E.1) (hu : u ≤ 1135 ∧ v ≤ 17040) (hN : ∀ M', Iv M' → MW E mLaw Sn Q T1 R0 M' u v 1393 (LwS i) []) : MW E mLaw Sn Q T1 R0 M u v 1280 (LwS i) [] := by
  refine w_aload_n dL_law_1280 rfl ?_
  refine x_arg (k := 1) dL_law_1281 dL_law_1282 dL_law_1284 dL_law_1285 dL_law_1286 (by omega) (fun g1 => ?_)
  refine x_arg (k := 2) dL_law_1287 dL_law_1288 dL_law_1290 dL_law_1291 dL_law_1292 (by omega) (fun g2 => ?_)
  refine x_arg (k := 3) dL_law_1293 dL_law_1294 dL_law_1296 dL_law_1297 dL_law_1298 (by omega) (fun g3 => ?_)
  refine x_call (as := [pI (E.2 (i + 1)), pI (E.2 (i + 2)), pI (E.2 (i + 3))]) (q := qI _) (S2 := Top) dL_law_1299 kL_170 ⟨⟨Nat.le_of_ble_eq_true rfl, hu.1, hu.2⟩, Nat.le_of_ble_eq_true rfl⟩ ⟨rfl, rfl⟩ rfl (by decide) rfl (Nat.le_of_ble_eq_true rfl) qI_ok (fun _ h9 => h9.elim) stbT (b_tried g1 g2 g3 hI (P := Iv) (fun _ h9 => ⟨_, _, _, _, h9⟩)) ?_
  rintro r1 M2 ⟨x1, rfl, h2⟩
  refine w_aload_n dL_law_1302 rfl ?_
  refine x_arg (k := 1) dL_law_1303 dL_law_1304 dL_law_1306 dL_law_1307 dL_law_1308 (by omega) (fun g1 => ?_)
  refine x_arg (k := 2) dL_law_1309 dL_law_1310 dL_law_1312 dL_law_1313 dL_law_1314 (by omega) (fun g2 => ?_)
  refine x_arg (k := 3) dL_law_1315 dL_law_1316 dL_law_1318 dL_law_1319 dL_law_1320 (by omega) (fun g3 => ?_)
  refine x_call (as := [pI (E.2 (i + 1)), pI (E.2 (i + 2)), pI (E.2 (i + 3))]) (q := qI _) (S2 := Top) dL_law_1321 kL_173 ⟨⟨Nat.le_of_ble_eq_true rfl, hu.1, hu.2⟩, Nat.le_of_ble_eq_true rfl⟩ ⟨rfl, rfl⟩ rfl (by decide) rfl (Nat.le_of_ble_eq_true rfl) qI_ok (fun _ h9 => h9.elim) stbT (MW_cong ov_lt h2) ?_
  rintro r2 M3 ⟨x2, rfl, rfl, h3⟩
  exact w_ieqS dL_law_1324 rfl (hN _ h3.ov)
theorem lc_35 (hI : Inv z s y no M) (hi : i + 6 ≤ E.1) (hu : u ≤ 1135 ∧ v ≤ 17040) (hN : ∀ M', Iv M' → MW E mLaw Sn Q T1 R0 M' u v 1393 (LwS i) []) : MW E mLaw Sn Q T1 R0 M u v 1329 (LwS i) [] := by
  refine w_aload_n dL_law_1329 rfl ?_
  refine x_call (as := []) (q := qI _) (S2 := Top) dL_law_1330 kL_174 ⟨⟨Nat.le_of_ble_eq_true rfl, hu.1, hu.2⟩, Nat.le_of_ble_eq_true rfl⟩ ⟨rfl, rfl⟩ rfl (by decide) rfl (Nat.le_of_ble_eq_true rfl) qI_ok (fun _ h9 => h9.elim) stbT (b_undo  hI (P := Iv) (fun _ h9 => ⟨_, _, _, _, h9⟩)) ?_
  rintro r1 M2 ⟨x1, rfl, h2⟩
  refine w_aload_n dL_law_1333 rfl ?_
  refine x_call (as := []) (q := qI _) (S2 := Top) dL_law_1334 kL_177 ⟨⟨Nat.le_of_ble_eq_true rfl, hu.1, hu.2⟩, Nat.le_of_ble_eq_true rfl⟩ ⟨rfl, rfl⟩ rfl (by decide) rfl (Nat.le_of_ble_eq_true rfl) qI_ok (fun _ h9 => h9.elim) stbT (MW_cong ov_lt h2) ?_
  rintro r2 M3 ⟨x2, rfl, rfl, h3⟩
  exact w_ieqS dL_law_1337 rfl (hN _ h3.ov)
theorem lc_36 (hI : Inv z s y no M) (hi : i + 6 ≤ E.1) (hu : u ≤ 1135 ∧ v ≤ 17040) (hN : ∀ M', Iv M' → MW E mLaw Sn Q T1 R0 M' u v 1393 (LwS i) []) : MW E mLaw Sn Q T1 R0 M u v 1342 (LwS i) [] := by
  refine w_aload_n dL_law_1342 rfl ?_
  refine x_call (as := []) (q := qI _) (S2 := Top) dL_law_1343 kL_178 ⟨⟨Nat.le_of_ble_eq_true rfl, hu.1, hu.2⟩, Nat.le_of_ble_eq_true rfl⟩ ⟨rfl, rfl⟩ rfl (by decide) rfl (Nat.le_of_ble_eq_true rfl) qI_ok (fun _ h9 => h9.elim) stbT (b_keep  hI (P := Iv) (fun _ h9 => ⟨_, _, _, _, h9⟩)) ?_
  rintro r1 M2 ⟨x1, rfl, h2⟩
  refine w_aload_n dL_law_1346 rfl ?_
  refine x_call (as := []) (q := qI _) (S2 := Top) dL_law_1347 kL_181 ⟨⟨Nat.le_of_ble_eq_true rfl, hu.1, hu.2⟩, Nat.le_of_ble_eq_true rfl⟩ ⟨rfl, rfl⟩ rfl (by decide) rfl (Nat.le_of_ble_eq_true rfl) qI_ok (fun _ h9 => h9.elim) stbT (MW_cong ov_lt h2) ?_
  rintro r2 M3 ⟨x2, rfl, rfl, h3⟩
  exact w_ieqS dL_law_1350 rfl (hN _ h3.ov)
theorem lc_37 (hI : Inv z s y no M) (hi : i + 6 ≤ E.1) (hu : u ≤ 1135 ∧ v ≤ 17040) (hN : ∀ M', Iv M' → MW E mLaw Sn Q T1 R0 M' u v 1393 (LwS i) []) : MW E mLaw Sn Q T1 R0 M u v 1355 (LwS i) [] := by
  refine w_aload_n dL_law_1355 rfl ?_
  refine x_call (as := []) (q := qI _) (S2 := Top) dL_law_1356 kL_182 ⟨⟨Nat.le_of_ble_eq_true rfl, hu.1, hu.2⟩, Nat.le_of_ble_eq_true rfl⟩ ⟨rfl, rfl⟩ rfl (by decide) rfl (Nat.le_of_ble_eq_true rfl) qI_ok (fun _ h9 => h9.elim) stbT (b_back  hI (P := Iv) (fun _ h9 => ⟨_, _, _, _, h9⟩)) ?_
  rintro r1 M2 ⟨x1, rfl, h2⟩
  refine w_aload_n dL_law_1359 rfl ?_
  refine x_call (as := []) (q := qI _) (S2 := Top) dL_law_1360 kL_185 ⟨⟨Nat.le_of_ble_eq_true rfl, hu.1, hu.2⟩, Nat.le_of_ble_eq_true rfl⟩ ⟨rfl, rfl⟩ rfl (by decide) rfl (Nat.le_of_ble_eq_true rfl) qI_ok (fun _ h9 => h9.elim) stbT (MW_cong ov_lt h2) ?_
  rintro r2 M3 ⟨x2, rfl, rfl, h3⟩
  exact w_ieqS dL_law_1363 rfl (hN _ h3.ov)
theorem lc_38 (hI : Inv z s y no M) (hi : i + 6 ≤ E.1) (hu : u ≤ 1135 ∧ v ≤ 17040) (hN : ∀ M', Iv M' → MW E mLaw Sn Q T1 R0 M' u v 1393 (LwS i) []) : MW E mLaw Sn Q T1 R0 M u v 1368 (LwS i) [] := by
  refine w_aload_n dL_law_1368 rfl ?_
  refine x_arg (k := 1) dL_law_1369 dL_law_1370 dL_law_1372 dL_law_1373 dL_law_1374 (by omega) (fun g1 => ?_)
  refine x_call (as := [pI (E.2 (i + 1))]) (q := qI _) (S2 := Top) dL_law_1375 kL_186 ⟨⟨Nat.le_of_ble_eq_true rfl, hu.1, hu.2⟩, Nat.le_of_ble_eq_true rfl⟩ ⟨rfl, rfl⟩ rfl (by decide) rfl (Nat.le_of_ble_eq_true rfl) qI_ok (fun _ h9 => h9.elim) stbT (b_count g1 hI (P := Iv) (fun _ h9 => ⟨_, _, _, _, h9⟩)) ?_
  rintro r1 M2 ⟨x1, rfl, h2⟩
  refine w_aload_n dL_law_1378 rfl ?_
  refine x_arg (k := 1) dL_law_1379 dL_law_1380 dL_law_1382 dL_law_1383 dL_law_1384 (by omega) (fun g1 => ?_)
  refine x_call (as := [pI (E.2 (i + 1))]) (q := qI _) (S2 := Top) dL_law_1385 kL_189 ⟨⟨Nat.le_of_ble_eq_true rfl, hu.1, hu.2⟩, Nat.le_of_ble_eq_true rfl⟩ ⟨rfl, rfl⟩ rfl (by decide) rfl (Nat.le_of_ble_eq_true rfl) qI_ok (fun _ h9 => h9.elim) stbT (MW_cong ov_lt h2) ?_
  rintro r2 M3 ⟨x2, rfl, rfl, h3⟩
  exact w_ieqS dL_law_1388 rfl (hN _ h3.ov)
end CASES
