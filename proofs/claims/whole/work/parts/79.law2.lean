/-! ===== the law: its loop ===== -/
abbrev alN (n : Nat) : List (Nat × AV) := [(3, aI (nI n)), (2, aR 24 0), (1, aR 0 0), (0, aR 64 0)]
section LAW
variable {b L n : Nat} {xs : Nat → Int32} {V : Mem}
theorem law_c0 (hL : L ≤ 384) (hn : n + 6 ≤ L) (hG : GR V V) (hk : ∀ V2, GR V2 V2 → Gq (GL b L xs) UA cL_law 4 RL 1408 (alN n) [] V2) : Gq (GL b L xs) UA cL_law 4 RL 208 (alN n) [] V := by
  refine go_aload_n (q := 2) dL_law_208 rfl rfl ?_
  refine gl_arg (k0 := 1) (z := 1) hL hn (by decide) rfl dL_law_209 dL_law_210 dL_law_211 (by decide) dL_law_212 dL_law_213 rfl rfl ?_
  refine gl_arg (k0 := 2) (z := 2) hL hn (by decide) rfl dL_law_214 dL_law_215 dL_law_216 (by decide) dL_law_217 dL_law_218 rfl rfl ?_
  refine gl_x (as := [aI (xs (n + 1)), aI (xs (n + 2))]) (op_roof (d := 88) hG) mv_X6_roof dL_law_219 ml_L_13 rfl rfl rfl (fun a X1 V1 hX h1 => ?_)
  refine go_aload_n (q := 1) dL_law_222 rfl rfl ?_
  refine gl_arg (k0 := 1) (z := 1) hL hn (by decide) rfl dL_law_223 dL_law_224 dL_law_225 (by decide) dL_law_226 dL_law_227 rfl rfl ?_
  refine gl_arg (k0 := 2) (z := 2) hL hn (by decide) rfl dL_law_228 dL_law_229 dL_law_230 (by decide) dL_law_231 dL_law_232 rfl rfl ?_
  refine gl_m (as := [aI (xs (n + 1)), aI (xs (n + 2))]) hX h1 mv_X7_roof dL_law_233 ml_L_17 rfl rfl rfl (fun V2 hG2 => ?_)
  exact go_icmp_eq (tgt := 1408) dL_law_236 rfl (fun _ => hk V2 hG2) (fun h => absurd rfl h)
theorem law_c1 (hL : L ≤ 384) (hn : n + 6 ≤ L) (hG : GR V V) (hk : ∀ V2, GR V2 V2 → Gq (GL b L xs) UA cL_law 4 RL 1408 (alN n) [] V2) : Gq (GL b L xs) UA cL_law 4 RL 241 (alN n) [] V := by
  refine go_aload_n (q := 2) dL_law_241 rfl rfl ?_
  refine gl_arg (k0 := 1) (z := 1) hL hn (by decide) rfl dL_law_242 dL_law_243 dL_law_244 (by decide) dL_law_245 dL_law_246 rfl rfl ?_
  refine gl_arg (k0 := 2) (z := 2) hL hn (by decide) rfl dL_law_247 dL_law_248 dL_law_249 (by decide) dL_law_250 dL_law_251 rfl rfl ?_
  refine gl_x (as := [aI (xs (n + 1)), aI (xs (n + 2))]) (op_told (d := 88) hG) mv_X6_told dL_law_252 ml_L_18 rfl rfl rfl (fun a X1 V1 hX h1 => ?_)
  refine go_aload_n (q := 1) dL_law_255 rfl rfl ?_
  refine gl_arg (k0 := 1) (z := 1) hL hn (by decide) rfl dL_law_256 dL_law_257 dL_law_258 (by decide) dL_law_259 dL_law_260 rfl rfl ?_
  refine gl_arg (k0 := 2) (z := 2) hL hn (by decide) rfl dL_law_261 dL_law_262 dL_law_263 (by decide) dL_law_264 dL_law_265 rfl rfl ?_
  refine gl_m (as := [aI (xs (n + 1)), aI (xs (n + 2))]) hX h1 mv_X7_told dL_law_266 ml_L_21 rfl rfl rfl (fun V2 hG2 => ?_)
  exact go_icmp_eq (tgt := 1408) dL_law_269 rfl (fun _ => hk V2 hG2) (fun h => absurd rfl h)
theorem law_c2 (hL : L ≤ 384) (hn : n + 6 ≤ L) (hG : GR V V) (hk : ∀ V2, GR V2 V2 → Gq (GL b L xs) UA cL_law 4 RL 1408 (alN n) [] V2) : Gq (GL b L xs) UA cL_law 4 RL 274 (alN n) [] V := by
  refine go_aload_n (q := 2) dL_law_274 rfl rfl ?_
  refine gl_arg (k0 := 1) (z := 1) hL hn (by decide) rfl dL_law_275 dL_law_276 dL_law_277 (by decide) dL_law_278 dL_law_279 rfl rfl ?_
  refine gl_arg (k0 := 2) (z := 2) hL hn (by decide) rfl dL_law_280 dL_law_281 dL_law_282 (by decide) dL_law_283 dL_law_284 rfl rfl ?_
  refine gl_x (as := [aI (xs (n + 1)), aI (xs (n + 2))]) (op_as (d := 88) hG) mv_X6_as dL_law_285 ml_L_22 rfl rfl rfl (fun a X1 V1 hX h1 => ?_)
  refine go_aload_n (q := 1) dL_law_288 rfl rfl ?_
  refine gl_arg (k0 := 1) (z := 1) hL hn (by decide) rfl dL_law_289 dL_law_290 dL_law_291 (by decide) dL_law_292 dL_law_293 rfl rfl ?_
  refine gl_arg (k0 := 2) (z := 2) hL hn (by decide) rfl dL_law_294 dL_law_295 dL_law_296 (by decide) dL_law_297 dL_law_298 rfl rfl ?_
  refine gl_m (as := [aI (xs (n + 1)), aI (xs (n + 2))]) hX h1 mv_X7_as dL_law_299 ml_L_25 rfl rfl rfl (fun V2 hG2 => ?_)
  exact go_icmp_eq (tgt := 1408) dL_law_302 rfl (fun _ => hk V2 hG2) (fun h => absurd rfl h)
theorem law_c3 (hL : L ≤ 384) (hn : n + 6 ≤ L) (hG : GR V V) (hk : ∀ V2, GR V2 V2 → Gq (GL b L xs) UA cL_law 4 RL 1408 (alN n) [] V2) : Gq (GL b L xs) UA cL_law 4 RL 307 (alN n) [] V := by
  refine go_aload_n (q := 2) dL_law_307 rfl rfl ?_
  refine gl_arg (k0 := 1) (z := 1) hL hn (by decide) rfl dL_law_308 dL_law_309 dL_law_310 (by decide) dL_law_311 dL_law_312 rfl rfl ?_
  refine gl_arg (k0 := 2) (z := 2) hL hn (by decide) rfl dL_law_313 dL_law_314 dL_law_315 (by decide) dL_law_316 dL_law_317 rfl rfl ?_
  refine gl_x (as := [aI (xs (n + 1)), aI (xs (n + 2))]) (op_turns (d := 88) hG) mv_X6_turns dL_law_318 ml_L_26 rfl rfl rfl (fun a X1 V1 hX h1 => ?_)
  refine go_aload_n (q := 1) dL_law_321 rfl rfl ?_
  refine gl_arg (k0 := 1) (z := 1) hL hn (by decide) rfl dL_law_322 dL_law_323 dL_law_324 (by decide) dL_law_325 dL_law_326 rfl rfl ?_
  refine gl_arg (k0 := 2) (z := 2) hL hn (by decide) rfl dL_law_327 dL_law_328 dL_law_329 (by decide) dL_law_330 dL_law_331 rfl rfl ?_
  refine gl_m (as := [aI (xs (n + 1)), aI (xs (n + 2))]) hX h1 mv_X7_turns dL_law_332 ml_L_29 rfl rfl rfl (fun V2 hG2 => ?_)
  exact go_icmp_eq (tgt := 1408) dL_law_335 rfl (fun _ => hk V2 hG2) (fun h => absurd rfl h)
theorem law_c4 (hL : L ≤ 384) (hn : n + 6 ≤ L) (hG : GR V V) (hk : ∀ V2, GR V2 V2 → Gq (GL b L xs) UA cL_law 4 RL 1408 (alN n) [] V2) : Gq (GL b L xs) UA cL_law 4 RL 340 (alN n) [] V := by
  refine go_aload_n (q := 2) dL_law_340 rfl rfl ?_
  refine gl_arg (k0 := 1) (z := 1) hL hn (by decide) rfl dL_law_341 dL_law_342 dL_law_343 (by decide) dL_law_344 dL_law_345 rfl rfl ?_
  refine gl_arg (k0 := 2) (z := 2) hL hn (by decide) rfl dL_law_346 dL_law_347 dL_law_348 (by decide) dL_law_349 dL_law_350 rfl rfl ?_
  refine gl_arg (k0 := 3) (z := 3) hL hn (by decide) rfl dL_law_351 dL_law_352 dL_law_353 (by decide) dL_law_354 dL_law_355 rfl rfl ?_
  refine gl_x (as := [aI (xs (n + 1)), aI (xs (n + 2)), aI (xs (n + 3))]) (op_set (d := 88) hG) mv_X6_set dL_law_356 ml_L_30 rfl rfl rfl (fun a X1 V1 hX h1 => ?_)
  refine go_aload_n (q := 1) dL_law_359 rfl rfl ?_
  refine gl_arg (k0 := 1) (z := 1) hL hn (by decide) rfl dL_law_360 dL_law_361 dL_law_362 (by decide) dL_law_363 dL_law_364 rfl rfl ?_
  refine gl_arg (k0 := 2) (z := 2) hL hn (by decide) rfl dL_law_365 dL_law_366 dL_law_367 (by decide) dL_law_368 dL_law_369 rfl rfl ?_
  refine gl_arg (k0 := 3) (z := 3) hL hn (by decide) rfl dL_law_370 dL_law_371 dL_law_372 (by decide) dL_law_373 dL_law_374 rfl rfl ?_
  refine gl_m (as := [aI (xs (n + 1)), aI (xs (n + 2)), aI (xs (n + 3))]) hX h1 mv_X7_set dL_law_375 ml_L_34 rfl rfl rfl (fun V2 hG2 => ?_)
  exact go_icmp_eq (tgt := 1408) dL_law_378 rfl (fun _ => hk V2 hG2) (fun h => absurd rfl h)
theorem law_c5 (hL : L ≤ 384) (hn : n + 6 ≤ L) (hG : GR V V) (hk : ∀ V2, GR V2 V2 → Gq (GL b L xs) UA cL_law 4 RL 1408 (alN n) [] V2) : Gq (GL b L xs) UA cL_law 4 RL 383 (alN n) [] V := by
  refine go_aload_n (q := 2) dL_law_383 rfl rfl ?_
  refine gl_arg (k0 := 1) (z := 1) hL hn (by decide) rfl dL_law_384 dL_law_385 dL_law_386 (by decide) dL_law_387 dL_law_388 rfl rfl ?_
  refine gl_arg (k0 := 2) (z := 2) hL hn (by decide) rfl dL_law_389 dL_law_390 dL_law_391 (by decide) dL_law_392 dL_law_393 rfl rfl ?_
  refine gl_x (as := [aI (xs (n + 1)), aI (xs (n + 2))]) (op_sweep (d := 88) hG) mv_X6_sweep dL_law_394 ml_L_35 rfl rfl rfl (fun a X1 V1 hX h1 => ?_)
  refine go_aload_n (q := 1) dL_law_397 rfl rfl ?_
  refine gl_arg (k0 := 1) (z := 1) hL hn (by decide) rfl dL_law_398 dL_law_399 dL_law_400 (by decide) dL_law_401 dL_law_402 rfl rfl ?_
  refine gl_arg (k0 := 2) (z := 2) hL hn (by decide) rfl dL_law_403 dL_law_404 dL_law_405 (by decide) dL_law_406 dL_law_407 rfl rfl ?_
  refine gl_m (as := [aI (xs (n + 1)), aI (xs (n + 2))]) hX h1 mv_X7_sweep dL_law_408 ml_L_38 rfl rfl rfl (fun V2 hG2 => ?_)
  exact go_icmp_eq (tgt := 1408) dL_law_411 rfl (fun _ => hk V2 hG2) (fun h => absurd rfl h)
theorem law_c6 (hL : L ≤ 384) (hn : n + 6 ≤ L) (hG : GR V V) (hk : ∀ V2, GR V2 V2 → Gq (GL b L xs) UA cL_law 4 RL 1408 (alN n) [] V2) : Gq (GL b L xs) UA cL_law 4 RL 416 (alN n) [] V := by
  refine go_aload_n (q := 2) dL_law_416 rfl rfl ?_
  refine gl_arg (k0 := 1) (z := 1) hL hn (by decide) rfl dL_law_417 dL_law_418 dL_law_419 (by decide) dL_law_420 dL_law_421 rfl rfl ?_
  refine gl_arg (k0 := 2) (z := 2) hL hn (by decide) rfl dL_law_422 dL_law_423 dL_law_424 (by decide) dL_law_425 dL_law_426 rfl rfl ?_
  refine gl_x (as := [aI (xs (n + 1)), aI (xs (n + 2))]) (op_use (d := 88) hG) mv_X6_use dL_law_427 ml_L_39 rfl rfl rfl (fun a X1 V1 hX h1 => ?_)
  refine go_aload_n (q := 1) dL_law_430 rfl rfl ?_
  refine gl_arg (k0 := 1) (z := 1) hL hn (by decide) rfl dL_law_431 dL_law_432 dL_law_433 (by decide) dL_law_434 dL_law_435 rfl rfl ?_
  refine gl_arg (k0 := 2) (z := 2) hL hn (by decide) rfl dL_law_436 dL_law_437 dL_law_438 (by decide) dL_law_439 dL_law_440 rfl rfl ?_
  refine gl_m (as := [aI (xs (n + 1)), aI (xs (n + 2))]) hX h1 mv_X7_use dL_law_441 ml_L_42 rfl rfl rfl (fun V2 hG2 => ?_)
  exact go_icmp_eq (tgt := 1408) dL_law_444 rfl (fun _ => hk V2 hG2) (fun h => absurd rfl h)
theorem law_c7 (hL : L ≤ 384) (hn : n + 6 ≤ L) (hG : GR V V) (hk : ∀ V2, GR V2 V2 → Gq (GL b L xs) UA cL_law 4 RL 1408 (alN n) [] V2) : Gq (GL b L xs) UA cL_law 4 RL 449 (alN n) [] V := by
  refine go_aload_n (q := 2) dL_law_449 rfl rfl ?_
  refine gl_arg (k0 := 1) (z := 1) hL hn (by decide) rfl dL_law_450 dL_law_451 dL_law_452 (by decide) dL_law_453 dL_law_454 rfl rfl ?_
  refine gl_x (as := [aI (xs (n + 1))]) (op_deal (d := 88) hG) mv_X6_deal dL_law_455 ml_L_43 rfl rfl rfl (fun a X1 V1 hX h1 => ?_)
  refine go_aload_n (q := 1) dL_law_458 rfl rfl ?_
  refine gl_arg (k0 := 1) (z := 1) hL hn (by decide) rfl dL_law_459 dL_law_460 dL_law_461 (by decide) dL_law_462 dL_law_463 rfl rfl ?_
  refine gl_m (as := [aI (xs (n + 1))]) hX h1 mv_X7_deal dL_law_464 ml_L_47 rfl rfl rfl (fun V2 hG2 => ?_)
  exact go_icmp_eq (tgt := 1408) dL_law_467 rfl (fun _ => hk V2 hG2) (fun h => absurd rfl h)
theorem law_c8 (hL : L ≤ 384) (hn : n + 6 ≤ L) (hG : GR V V) (hk : ∀ V2, GR V2 V2 → Gq (GL b L xs) UA cL_law 4 RL 1408 (alN n) [] V2) : Gq (GL b L xs) UA cL_law 4 RL 472 (alN n) [] V := by
  refine go_aload_n (q := 2) dL_law_472 rfl rfl ?_
  refine gl_arg (k0 := 1) (z := 1) hL hn (by decide) rfl dL_law_473 dL_law_474 dL_law_475 (by decide) dL_law_476 dL_law_477 rfl rfl ?_
  refine gl_x (as := [aI (xs (n + 1))]) (op_seed (d := 88) hG) mv_X6_seed dL_law_478 ml_L_48 rfl rfl rfl (fun a X1 V1 hX h1 => ?_)
  refine go_aload_n (q := 1) dL_law_481 rfl rfl ?_
  refine gl_arg (k0 := 1) (z := 1) hL hn (by decide) rfl dL_law_482 dL_law_483 dL_law_484 (by decide) dL_law_485 dL_law_486 rfl rfl ?_
  refine gl_m (as := [aI (xs (n + 1))]) hX h1 mv_X7_seed dL_law_487 ml_L_51 rfl rfl rfl (fun V2 hG2 => ?_)
  exact go_icmp_eq (tgt := 1408) dL_law_490 rfl (fun _ => hk V2 hG2) (fun h => absurd rfl h)
theorem law_c9 (hL : L ≤ 384) (hn : n + 6 ≤ L) (hG : GR V V) (hk : ∀ V2, GR V2 V2 → Gq (GL b L xs) UA cL_law 4 RL 1408 (alN n) [] V2) : Gq (GL b L xs) UA cL_law 4 RL 495 (alN n) [] V := by
  refine go_aload_n (q := 2) dL_law_495 rfl rfl ?_
  refine gl_arg (k0 := 1) (z := 1) hL hn (by decide) rfl dL_law_496 dL_law_497 dL_law_498 (by decide) dL_law_499 dL_law_500 rfl rfl ?_
  refine gl_arg (k0 := 2) (z := 2) hL hn (by decide) rfl dL_law_501 dL_law_502 dL_law_503 (by decide) dL_law_504 dL_law_505 rfl rfl ?_
  refine gl_arg (k0 := 3) (z := 3) hL hn (by decide) rfl dL_law_506 dL_law_507 dL_law_508 (by decide) dL_law_509 dL_law_510 rfl rfl ?_
  refine gl_x (as := [aI (xs (n + 1)), aI (xs (n + 2)), aI (xs (n + 3))]) (op_weather (d := 88) hG) mv_X6_weather dL_law_511 ml_L_52 rfl rfl rfl (fun a X1 V1 hX h1 => ?_)
  refine go_aload_n (q := 1) dL_law_514 rfl rfl ?_
  refine gl_arg (k0 := 1) (z := 1) hL hn (by decide) rfl dL_law_515 dL_law_516 dL_law_517 (by decide) dL_law_518 dL_law_519 rfl rfl ?_
  refine gl_arg (k0 := 2) (z := 2) hL hn (by decide) rfl dL_law_520 dL_law_521 dL_law_522 (by decide) dL_law_523 dL_law_524 rfl rfl ?_
  refine gl_arg (k0 := 3) (z := 3) hL hn (by decide) rfl dL_law_525 dL_law_526 dL_law_527 (by decide) dL_law_528 dL_law_529 rfl rfl ?_
  refine gl_m (as := [aI (xs (n + 1)), aI (xs (n + 2)), aI (xs (n + 3))]) hX h1 mv_X7_weather dL_law_530 ml_L_55 rfl rfl rfl (fun V2 hG2 => ?_)
  exact go_icmp_eq (tgt := 1408) dL_law_533 rfl (fun _ => hk V2 hG2) (fun h => absurd rfl h)
theorem law_c10 (hL : L ≤ 384) (hn : n + 6 ≤ L) (hG : GR V V) (hk : ∀ V2, GR V2 V2 → Gq (GL b L xs) UA cL_law 4 RL 1408 (alN n) [] V2) : Gq (GL b L xs) UA cL_law 4 RL 538 (alN n) [] V := by
  refine go_aload_n (q := 2) dL_law_538 rfl rfl ?_
  refine gl_x (as := []) (op_sky (d := 88) hG) mv_X6_sky dL_law_539 ml_L_56 rfl rfl rfl (fun a X1 V1 hX h1 => ?_)
  refine go_aload_n (q := 1) dL_law_542 rfl rfl ?_
  refine gl_m (as := []) hX h1 mv_X7_sky dL_law_543 ml_L_60 rfl rfl rfl (fun V2 hG2 => ?_)
  exact go_icmp_eq (tgt := 1408) dL_law_546 rfl (fun _ => hk V2 hG2) (fun h => absurd rfl h)
theorem law_c11 (hL : L ≤ 384) (hn : n + 6 ≤ L) (hG : GR V V) (hk : ∀ V2, GR V2 V2 → Gq (GL b L xs) UA cL_law 4 RL 1408 (alN n) [] V2) : Gq (GL b L xs) UA cL_law 4 RL 551 (alN n) [] V := by
  refine go_aload_n (q := 2) dL_law_551 rfl rfl ?_
  refine gl_arg (k0 := 1) (z := 1) hL hn (by decide) rfl dL_law_552 dL_law_553 dL_law_554 (by decide) dL_law_555 dL_law_556 rfl rfl ?_
  refine gl_x (as := [aI (xs (n + 1))]) (op_sunset (d := 88) hG) mv_X6_sunset dL_law_557 ml_L_61 rfl rfl rfl (fun a X1 V1 hX h1 => ?_)
  refine go_aload_n (q := 1) dL_law_560 rfl rfl ?_
  refine gl_arg (k0 := 1) (z := 1) hL hn (by decide) rfl dL_law_561 dL_law_562 dL_law_563 (by decide) dL_law_564 dL_law_565 rfl rfl ?_
  refine gl_m (as := [aI (xs (n + 1))]) hX h1 mv_X7_sunset dL_law_566 ml_L_64 rfl rfl rfl (fun V2 hG2 => ?_)
  exact go_icmp_eq (tgt := 1408) dL_law_569 rfl (fun _ => hk V2 hG2) (fun h => absurd rfl h)
theorem law_c12 (hL : L ≤ 384) (hn : n + 6 ≤ L) (hG : GR V V) (hk : ∀ V2, GR V2 V2 → Gq (GL b L xs) UA cL_law 4 RL 1408 (alN n) [] V2) : Gq (GL b L xs) UA cL_law 4 RL 574 (alN n) [] V := by
  refine go_aload_n (q := 2) dL_law_574 rfl rfl ?_
  refine gl_arg (k0 := 1) (z := 1) hL hn (by decide) rfl dL_law_575 dL_law_576 dL_law_577 (by decide) dL_law_578 dL_law_579 rfl rfl ?_
  refine gl_x (as := [aI (xs (n + 1))]) (op_run (d := 88) hG) mv_X6_run dL_law_580 ml_L_65 rfl rfl rfl (fun a X1 V1 hX h1 => ?_)
  refine go_aload_n (q := 1) dL_law_583 rfl rfl ?_
  refine gl_arg (k0 := 1) (z := 1) hL hn (by decide) rfl dL_law_584 dL_law_585 dL_law_586 (by decide) dL_law_587 dL_law_588 rfl rfl ?_
  refine gl_m (as := [aI (xs (n + 1))]) hX h1 mv_X7_run dL_law_589 ml_L_68 rfl rfl rfl (fun V2 hG2 => ?_)
  exact go_icmp_eq (tgt := 1408) dL_law_592 rfl (fun _ => hk V2 hG2) (fun h => absurd rfl h)
theorem law_c13 (hL : L ≤ 384) (hn : n + 6 ≤ L) (hG : GR V V) (hk : ∀ V2, GR V2 V2 → Gq (GL b L xs) UA cL_law 4 RL 1408 (alN n) [] V2) : Gq (GL b L xs) UA cL_law 4 RL 597 (alN n) [] V := by
  refine go_aload_n (q := 2) dL_law_597 rfl rfl ?_
  refine gl_arg (k0 := 1) (z := 1) hL hn (by decide) rfl dL_law_598 dL_law_599 dL_law_600 (by decide) dL_law_601 dL_law_602 rfl rfl ?_
  refine gl_x (as := [aI (xs (n + 1))]) (op_kilos (d := 88) hG) mv_X6_kilos dL_law_603 ml_L_69 rfl rfl rfl (fun a X1 V1 hX h1 => ?_)
  refine go_aload_n (q := 1) dL_law_606 rfl rfl ?_
  refine gl_arg (k0 := 1) (z := 1) hL hn (by decide) rfl dL_law_607 dL_law_608 dL_law_609 (by decide) dL_law_610 dL_law_611 rfl rfl ?_
  refine gl_m (as := [aI (xs (n + 1))]) hX h1 mv_X7_kilos dL_law_612 ml_L_72 rfl rfl rfl (fun V2 hG2 => ?_)
  exact go_icmp_eq (tgt := 1408) dL_law_615 rfl (fun _ => hk V2 hG2) (fun h => absurd rfl h)
theorem law_c14 (hL : L ≤ 384) (hn : n + 6 ≤ L) (hG : GR V V) (hk : ∀ V2, GR V2 V2 → Gq (GL b L xs) UA cL_law 4 RL 1408 (alN n) [] V2) : Gq (GL b L xs) UA cL_law 4 RL 620 (alN n) [] V := by
  refine go_aload_n (q := 2) dL_law_620 rfl rfl ?_
  refine gl_arg (k0 := 1) (z := 1) hL hn (by decide) rfl dL_law_621 dL_law_622 dL_law_623 (by decide) dL_law_624 dL_law_625 rfl rfl ?_
  refine gl_arg (k0 := 2) (z := 2) hL hn (by decide) rfl dL_law_626 dL_law_627 dL_law_628 (by decide) dL_law_629 dL_law_630 rfl rfl ?_
  refine gl_arg (k0 := 3) (z := 3) hL hn (by decide) rfl dL_law_631 dL_law_632 dL_law_633 (by decide) dL_law_634 dL_law_635 rfl rfl ?_
  refine gl_x (as := [aI (xs (n + 1)), aI (xs (n + 2)), aI (xs (n + 3))]) (op_behind (d := 88) hG) mv_X6_behind dL_law_636 ml_L_73 rfl rfl rfl (fun a X1 V1 hX h1 => ?_)
  refine go_aload_n (q := 1) dL_law_639 rfl rfl ?_
  refine gl_arg (k0 := 1) (z := 1) hL hn (by decide) rfl dL_law_640 dL_law_641 dL_law_642 (by decide) dL_law_643 dL_law_644 rfl rfl ?_
  refine gl_arg (k0 := 2) (z := 2) hL hn (by decide) rfl dL_law_645 dL_law_646 dL_law_647 (by decide) dL_law_648 dL_law_649 rfl rfl ?_
  refine gl_arg (k0 := 3) (z := 3) hL hn (by decide) rfl dL_law_650 dL_law_651 dL_law_652 (by decide) dL_law_653 dL_law_654 rfl rfl ?_
  refine gl_m (as := [aI (xs (n + 1)), aI (xs (n + 2)), aI (xs (n + 3))]) hX h1 mv_X7_behind dL_law_655 ml_L_76 rfl rfl rfl (fun V2 hG2 => ?_)
  exact go_icmp_eq (tgt := 1408) dL_law_658 rfl (fun _ => hk V2 hG2) (fun h => absurd rfl h)
theorem law_c15 (hL : L ≤ 384) (hn : n + 6 ≤ L) (hG : GR V V) (hk : ∀ V2, GR V2 V2 → Gq (GL b L xs) UA cL_law 4 RL 1408 (alN n) [] V2) : Gq (GL b L xs) UA cL_law 4 RL 663 (alN n) [] V := by
  refine go_aload_n (q := 2) dL_law_663 rfl rfl ?_
  refine gl_arg (k0 := 1) (z := 1) hL hn (by decide) rfl dL_law_664 dL_law_665 dL_law_666 (by decide) dL_law_667 dL_law_668 rfl rfl ?_
  refine gl_arg (k0 := 2) (z := 2) hL hn (by decide) rfl dL_law_669 dL_law_670 dL_law_671 (by decide) dL_law_672 dL_law_673 rfl rfl ?_
  refine gl_arg (k0 := 3) (z := 3) hL hn (by decide) rfl dL_law_674 dL_law_675 dL_law_676 (by decide) dL_law_677 dL_law_678 rfl rfl ?_
  refine gl_x (as := [aI (xs (n + 1)), aI (xs (n + 2)), aI (xs (n + 3))]) (op_best (d := 88) hG) mv_X6_best dL_law_679 ml_L_77 rfl rfl rfl (fun a X1 V1 hX h1 => ?_)
  refine go_aload_n (q := 1) dL_law_682 rfl rfl ?_
  refine gl_arg (k0 := 1) (z := 1) hL hn (by decide) rfl dL_law_683 dL_law_684 dL_law_685 (by decide) dL_law_686 dL_law_687 rfl rfl ?_
  refine gl_arg (k0 := 2) (z := 2) hL hn (by decide) rfl dL_law_688 dL_law_689 dL_law_690 (by decide) dL_law_691 dL_law_692 rfl rfl ?_
  refine gl_arg (k0 := 3) (z := 3) hL hn (by decide) rfl dL_law_693 dL_law_694 dL_law_695 (by decide) dL_law_696 dL_law_697 rfl rfl ?_
  refine gl_m (as := [aI (xs (n + 1)), aI (xs (n + 2)), aI (xs (n + 3))]) hX h1 mv_X7_best dL_law_698 ml_L_80 rfl rfl rfl (fun V2 hG2 => ?_)
  exact go_icmp_eq (tgt := 1408) dL_law_701 rfl (fun _ => hk V2 hG2) (fun h => absurd rfl h)
theorem law_c16 (hL : L ≤ 384) (hn : n + 6 ≤ L) (hG : GR V V) (hk : ∀ V2, GR V2 V2 → Gq (GL b L xs) UA cL_law 4 RL 1408 (alN n) [] V2) : Gq (GL b L xs) UA cL_law 4 RL 706 (alN n) [] V := by
  refine go_aload_n (q := 2) dL_law_706 rfl rfl ?_
  refine gl_arg (k0 := 1) (z := 1) hL hn (by decide) rfl dL_law_707 dL_law_708 dL_law_709 (by decide) dL_law_710 dL_law_711 rfl rfl ?_
  refine gl_arg (k0 := 2) (z := 2) hL hn (by decide) rfl dL_law_712 dL_law_713 dL_law_714 (by decide) dL_law_715 dL_law_716 rfl rfl ?_
  refine gl_x (as := [aI (xs (n + 1)), aI (xs (n + 2))]) (op_leastRoom (d := 88) hG) mv_X6_leastRoom dL_law_717 ml_L_81 rfl rfl rfl (fun a X1 V1 hX h1 => ?_)
  refine go_aload_n (q := 1) dL_law_720 rfl rfl ?_
  refine gl_arg (k0 := 1) (z := 1) hL hn (by decide) rfl dL_law_721 dL_law_722 dL_law_723 (by decide) dL_law_724 dL_law_725 rfl rfl ?_
  refine gl_arg (k0 := 2) (z := 2) hL hn (by decide) rfl dL_law_726 dL_law_727 dL_law_728 (by decide) dL_law_729 dL_law_730 rfl rfl ?_
  refine gl_m (as := [aI (xs (n + 1)), aI (xs (n + 2))]) hX h1 mv_X7_leastRoom dL_law_731 ml_L_84 rfl rfl rfl (fun V2 hG2 => ?_)
  exact go_icmp_eq (tgt := 1408) dL_law_734 rfl (fun _ => hk V2 hG2) (fun h => absurd rfl h)
theorem law_c17 (hL : L ≤ 384) (hn : n + 6 ≤ L) (hG : GR V V) (hk : ∀ V2, GR V2 V2 → Gq (GL b L xs) UA cL_law 4 RL 1408 (alN n) [] V2) : Gq (GL b L xs) UA cL_law 4 RL 739 (alN n) [] V := by
  refine go_aload_n (q := 2) dL_law_739 rfl rfl ?_
  refine gl_x (as := []) (op_slide (d := 88) hG) mv_X6_slide dL_law_740 ml_L_85 rfl rfl rfl (fun a X1 V1 hX h1 => ?_)
  refine go_aload_n (q := 1) dL_law_743 rfl rfl ?_
  refine gl_m (as := []) hX h1 mv_X7_slide dL_law_744 ml_L_88 rfl rfl rfl (fun V2 hG2 => ?_)
  exact go_icmp_eq (tgt := 1408) dL_law_747 rfl (fun _ => hk V2 hG2) (fun h => absurd rfl h)
theorem law_c18 (hL : L ≤ 384) (hn : n + 6 ≤ L) (hG : GR V V) (hk : ∀ V2, GR V2 V2 → Gq (GL b L xs) UA cL_law 4 RL 1408 (alN n) [] V2) : Gq (GL b L xs) UA cL_law 4 RL 752 (alN n) [] V := by
  refine go_aload_n (q := 2) dL_law_752 rfl rfl ?_
  refine gl_arg (k0 := 1) (z := 1) hL hn (by decide) rfl dL_law_753 dL_law_754 dL_law_755 (by decide) dL_law_756 dL_law_757 rfl rfl ?_
  refine gl_arg (k0 := 2) (z := 2) hL hn (by decide) rfl dL_law_758 dL_law_759 dL_law_760 (by decide) dL_law_761 dL_law_762 rfl rfl ?_
  refine gl_x (as := [aI (xs (n + 1)), aI (xs (n + 2))]) (op_gains (d := 88) hG) mv_X6_gains dL_law_763 ml_L_89 rfl rfl rfl (fun a X1 V1 hX h1 => ?_)
  refine go_aload_n (q := 1) dL_law_766 rfl rfl ?_
  refine gl_arg (k0 := 1) (z := 1) hL hn (by decide) rfl dL_law_767 dL_law_768 dL_law_769 (by decide) dL_law_770 dL_law_771 rfl rfl ?_
  refine gl_arg (k0 := 2) (z := 2) hL hn (by decide) rfl dL_law_772 dL_law_773 dL_law_774 (by decide) dL_law_775 dL_law_776 rfl rfl ?_
  refine gl_m (as := [aI (xs (n + 1)), aI (xs (n + 2))]) hX h1 mv_X7_gains dL_law_777 ml_L_92 rfl rfl rfl (fun V2 hG2 => ?_)
  exact go_icmp_eq (tgt := 1408) dL_law_780 rfl (fun _ => hk V2 hG2) (fun h => absurd rfl h)
theorem law_c19 (hL : L ≤ 384) (hn : n + 6 ≤ L) (hG : GR V V) (hk : ∀ V2, GR V2 V2 → Gq (GL b L xs) UA cL_law 4 RL 1408 (alN n) [] V2) : Gq (GL b L xs) UA cL_law 4 RL 785 (alN n) [] V := by
  refine go_aload_n (q := 2) dL_law_785 rfl rfl ?_
  refine gl_arg (k0 := 1) (z := 1) hL hn (by decide) rfl dL_law_786 dL_law_787 dL_law_788 (by decide) dL_law_789 dL_law_790 rfl rfl ?_
  refine gl_arg (k0 := 2) (z := 2) hL hn (by decide) rfl dL_law_791 dL_law_792 dL_law_793 (by decide) dL_law_794 dL_law_795 rfl rfl ?_
  refine gl_x (as := [aI (xs (n + 1)), aI (xs (n + 2))]) (op_explained (d := 88) hG) mv_X6_explained dL_law_796 ml_L_93 rfl rfl rfl (fun a X1 V1 hX h1 => ?_)
  refine go_aload_n (q := 1) dL_law_799 rfl rfl ?_
  refine gl_arg (k0 := 1) (z := 1) hL hn (by decide) rfl dL_law_800 dL_law_801 dL_law_802 (by decide) dL_law_803 dL_law_804 rfl rfl ?_
  refine gl_arg (k0 := 2) (z := 2) hL hn (by decide) rfl dL_law_805 dL_law_806 dL_law_807 (by decide) dL_law_808 dL_law_809 rfl rfl ?_
  refine gl_m (as := [aI (xs (n + 1)), aI (xs (n + 2))]) hX h1 mv_X7_explained dL_law_810 ml_L_96 rfl rfl rfl (fun V2 hG2 => ?_)
  exact go_icmp_eq (tgt := 1408) dL_law_813 rfl (fun _ => hk V2 hG2) (fun h => absurd rfl h)
theorem law_c20 (hL : L ≤ 384) (hn : n + 6 ≤ L) (hG : GR V V) (hk : ∀ V2, GR V2 V2 → Gq (GL b L xs) UA cL_law 4 RL 1408 (alN n) [] V2) : Gq (GL b L xs) UA cL_law 4 RL 818 (alN n) [] V := by
  refine go_aload_n (q := 2) dL_law_818 rfl rfl ?_
  refine gl_arg (k0 := 1) (z := 1) hL hn (by decide) rfl dL_law_819 dL_law_820 dL_law_821 (by decide) dL_law_822 dL_law_823 rfl rfl ?_
  refine gl_x (as := [aI (xs (n + 1))]) (op_fine (d := 88) hG) mv_X6_fine dL_law_824 ml_L_97 rfl rfl rfl (fun a X1 V1 hX h1 => ?_)
  refine go_aload_n (q := 1) dL_law_827 rfl rfl ?_
  refine gl_arg (k0 := 1) (z := 1) hL hn (by decide) rfl dL_law_828 dL_law_829 dL_law_830 (by decide) dL_law_831 dL_law_832 rfl rfl ?_
  refine gl_m (as := [aI (xs (n + 1))]) hX h1 mv_X7_fine dL_law_833 ml_L_100 rfl rfl rfl (fun V2 hG2 => ?_)
  exact go_icmp_eq (tgt := 1408) dL_law_836 rfl (fun _ => hk V2 hG2) (fun h => absurd rfl h)
theorem law_c21 (hL : L ≤ 384) (hn : n + 6 ≤ L) (hG : GR V V) (hk : ∀ V2, GR V2 V2 → Gq (GL b L xs) UA cL_law 4 RL 1408 (alN n) [] V2) : Gq (GL b L xs) UA cL_law 4 RL 841 (alN n) [] V := by
  refine go_aload_n (q := 2) dL_law_841 rfl rfl ?_
  refine gl_arg (k0 := 1) (z := 1) hL hn (by decide) rfl dL_law_842 dL_law_843 dL_law_844 (by decide) dL_law_845 dL_law_846 rfl rfl ?_
  refine gl_arg (k0 := 2) (z := 2) hL hn (by decide) rfl dL_law_847 dL_law_848 dL_law_849 (by decide) dL_law_850 dL_law_851 rfl rfl ?_
  refine gl_arg (k0 := 3) (z := 3) hL hn (by decide) rfl dL_law_852 dL_law_853 dL_law_854 (by decide) dL_law_855 dL_law_856 rfl rfl ?_
  refine gl_x (as := [aI (xs (n + 1)), aI (xs (n + 2)), aI (xs (n + 3))]) (op_feed (d := 88) hG) mv_X6_feed dL_law_857 ml_L_101 rfl rfl rfl (fun a X1 V1 hX h1 => ?_)
  refine go_aload_n (q := 1) dL_law_860 rfl rfl ?_
  refine gl_arg (k0 := 1) (z := 1) hL hn (by decide) rfl dL_law_861 dL_law_862 dL_law_863 (by decide) dL_law_864 dL_law_865 rfl rfl ?_
  refine gl_arg (k0 := 2) (z := 2) hL hn (by decide) rfl dL_law_866 dL_law_867 dL_law_868 (by decide) dL_law_869 dL_law_870 rfl rfl ?_
  refine gl_arg (k0 := 3) (z := 3) hL hn (by decide) rfl dL_law_871 dL_law_872 dL_law_873 (by decide) dL_law_874 dL_law_875 rfl rfl ?_
  refine gl_m (as := [aI (xs (n + 1)), aI (xs (n + 2)), aI (xs (n + 3))]) hX h1 mv_X7_feed dL_law_876 ml_L_104 rfl rfl rfl (fun V2 hG2 => ?_)
  exact go_icmp_eq (tgt := 1408) dL_law_879 rfl (fun _ => hk V2 hG2) (fun h => absurd rfl h)
theorem law_c22 (hL : L ≤ 384) (hn : n + 6 ≤ L) (hG : GR V V) (hk : ∀ V2, GR V2 V2 → Gq (GL b L xs) UA cL_law 4 RL 1408 (alN n) [] V2) : Gq (GL b L xs) UA cL_law 4 RL 884 (alN n) [] V := by
  refine go_aload_n (q := 2) dL_law_884 rfl rfl ?_
  refine gl_arg (k0 := 1) (z := 1) hL hn (by decide) rfl dL_law_885 dL_law_886 dL_law_887 (by decide) dL_law_888 dL_law_889 rfl rfl ?_
  refine gl_x (as := [aI (xs (n + 1))]) (op_trim (d := 88) hG) mv_X6_trim dL_law_890 ml_L_105 rfl rfl rfl (fun a X1 V1 hX h1 => ?_)
  refine go_aload_n (q := 1) dL_law_893 rfl rfl ?_
  refine gl_arg (k0 := 1) (z := 1) hL hn (by decide) rfl dL_law_894 dL_law_895 dL_law_896 (by decide) dL_law_897 dL_law_898 rfl rfl ?_
  refine gl_m (as := [aI (xs (n + 1))]) hX h1 mv_X7_trim dL_law_899 ml_L_108 rfl rfl rfl (fun V2 hG2 => ?_)
  exact go_icmp_eq (tgt := 1408) dL_law_902 rfl (fun _ => hk V2 hG2) (fun h => absurd rfl h)
theorem law_c23 (hL : L ≤ 384) (hn : n + 6 ≤ L) (hG : GR V V) (hk : ∀ V2, GR V2 V2 → Gq (GL b L xs) UA cL_law 4 RL 1408 (alN n) [] V2) : Gq (GL b L xs) UA cL_law 4 RL 907 (alN n) [] V := by
  refine go_aload_n (q := 2) dL_law_907 rfl rfl ?_
  refine gl_x (as := []) (op_text (d := 0) hG) mv_X6_text dL_law_908 ml_L_109 rfl rfl rfl (fun a X1 V1 hX h1 => ?_)
  refine go_aload_n (q := 1) dL_law_911 rfl rfl ?_
  refine gl_m (as := []) hX h1 mv_X7_text dL_law_912 ml_L_112 rfl rfl rfl (fun V2 hG2 => ?_)
  exact go_icmp_eq (tgt := 1408) dL_law_915 rfl (fun _ => hk V2 hG2) (fun h => absurd rfl h)
theorem law_c24 (hL : L ≤ 384) (hn : n + 6 ≤ L) (hG : GR V V) (hk : ∀ V2, GR V2 V2 → Gq (GL b L xs) UA cL_law 4 RL 1408 (alN n) [] V2) : Gq (GL b L xs) UA cL_law 4 RL 920 (alN n) [] V := by
  refine go_aload_n (q := 2) dL_law_920 rfl rfl ?_
  refine gl_arg (k0 := 1) (z := 1) hL hn (by decide) rfl dL_law_921 dL_law_922 dL_law_923 (by decide) dL_law_924 dL_law_925 rfl rfl ?_
  refine gl_arg (k0 := 2) (z := 2) hL hn (by decide) rfl dL_law_926 dL_law_927 dL_law_928 (by decide) dL_law_929 dL_law_930 rfl rfl ?_
  refine gl_x (as := [aI (xs (n + 1)), aI (xs (n + 2))]) (op_textTold (d := 88) hG) mv_X6_textTold dL_law_931 ml_L_113 rfl rfl rfl (fun a X1 V1 hX h1 => ?_)
  refine go_aload_n (q := 1) dL_law_934 rfl rfl ?_
  refine gl_arg (k0 := 1) (z := 1) hL hn (by decide) rfl dL_law_935 dL_law_936 dL_law_937 (by decide) dL_law_938 dL_law_939 rfl rfl ?_
  refine gl_arg (k0 := 2) (z := 2) hL hn (by decide) rfl dL_law_940 dL_law_941 dL_law_942 (by decide) dL_law_943 dL_law_944 rfl rfl ?_
  refine gl_m (as := [aI (xs (n + 1)), aI (xs (n + 2))]) hX h1 mv_X7_textTold dL_law_945 ml_L_116 rfl rfl rfl (fun V2 hG2 => ?_)
  exact go_icmp_eq (tgt := 1408) dL_law_948 rfl (fun _ => hk V2 hG2) (fun h => absurd rfl h)
theorem law_c25 (hL : L ≤ 384) (hn : n + 6 ≤ L) (hG : GR V V) (hk : ∀ V2, GR V2 V2 → Gq (GL b L xs) UA cL_law 4 RL 1408 (alN n) [] V2) : Gq (GL b L xs) UA cL_law 4 RL 953 (alN n) [] V := by
  refine go_aload_n (q := 2) dL_law_953 rfl rfl ?_
  refine gl_arg (k0 := 1) (z := 1) hL hn (by decide) rfl dL_law_954 dL_law_955 dL_law_956 (by decide) dL_law_957 dL_law_958 rfl rfl ?_
  refine gl_x (as := [aI (xs (n + 1))]) (op_why (d := 88) hG) mv_X6_why dL_law_959 ml_L_117 rfl rfl rfl (fun a X1 V1 hX h1 => ?_)
  refine go_aload_n (q := 1) dL_law_962 rfl rfl ?_
  refine gl_arg (k0 := 1) (z := 1) hL hn (by decide) rfl dL_law_963 dL_law_964 dL_law_965 (by decide) dL_law_966 dL_law_967 rfl rfl ?_
  refine gl_m (as := [aI (xs (n + 1))]) hX h1 mv_X7_why dL_law_968 ml_L_120 rfl rfl rfl (fun V2 hG2 => ?_)
  exact go_icmp_eq (tgt := 1408) dL_law_971 rfl (fun _ => hk V2 hG2) (fun h => absurd rfl h)
theorem law_c26 (hL : L ≤ 384) (hn : n + 6 ≤ L) (hG : GR V V) (hk : ∀ V2, GR V2 V2 → Gq (GL b L xs) UA cL_law 4 RL 1408 (alN n) [] V2) : Gq (GL b L xs) UA cL_law 4 RL 976 (alN n) [] V := by
  refine go_aload_n (q := 2) dL_law_976 rfl rfl ?_
  refine gl_arg (k0 := 1) (z := 1) hL hn (by decide) rfl dL_law_977 dL_law_978 dL_law_979 (by decide) dL_law_980 dL_law_981 rfl rfl ?_
  refine gl_arg (k0 := 2) (z := 2) hL hn (by decide) rfl dL_law_982 dL_law_983 dL_law_984 (by decide) dL_law_985 dL_law_986 rfl rfl ?_
  refine gl_arg (k0 := 3) (z := 3) hL hn (by decide) rfl dL_law_987 dL_law_988 dL_law_989 (by decide) dL_law_990 dL_law_991 rfl rfl ?_
  refine gl_x (as := [aI (xs (n + 1)), aI (xs (n + 2)), aI (xs (n + 3))]) (op_sheet (d := 88) hG) mv_X6_sheet dL_law_992 ml_L_121 rfl rfl rfl (fun a X1 V1 hX h1 => ?_)
  refine go_aload_n (q := 1) dL_law_995 rfl rfl ?_
  refine gl_arg (k0 := 1) (z := 1) hL hn (by decide) rfl dL_law_996 dL_law_997 dL_law_998 (by decide) dL_law_999 dL_law_1000 rfl rfl ?_
  refine gl_arg (k0 := 2) (z := 2) hL hn (by decide) rfl dL_law_1001 dL_law_1002 dL_law_1003 (by decide) dL_law_1004 dL_law_1005 rfl rfl ?_
  refine gl_arg (k0 := 3) (z := 3) hL hn (by decide) rfl dL_law_1006 dL_law_1007 dL_law_1008 (by decide) dL_law_1009 dL_law_1010 rfl rfl ?_
  refine gl_m (as := [aI (xs (n + 1)), aI (xs (n + 2)), aI (xs (n + 3))]) hX h1 mv_X7_sheet dL_law_1011 ml_L_124 rfl rfl rfl (fun V2 hG2 => ?_)
  exact go_icmp_eq (tgt := 1408) dL_law_1014 rfl (fun _ => hk V2 hG2) (fun h => absurd rfl h)
theorem law_c27 (hL : L ≤ 384) (hn : n + 6 ≤ L) (hG : GR V V) (hk : ∀ V2, GR V2 V2 → Gq (GL b L xs) UA cL_law 4 RL 1408 (alN n) [] V2) : Gq (GL b L xs) UA cL_law 4 RL 1019 (alN n) [] V := by
  refine go_aload_n (q := 2) dL_law_1019 rfl rfl ?_
  refine gl_arg (k0 := 1) (z := 1) hL hn (by decide) rfl dL_law_1020 dL_law_1021 dL_law_1022 (by decide) dL_law_1023 dL_law_1024 rfl rfl ?_
  refine gl_arg (k0 := 2) (z := 2) hL hn (by decide) rfl dL_law_1025 dL_law_1026 dL_law_1027 (by decide) dL_law_1028 dL_law_1029 rfl rfl ?_
  refine gl_arg (k0 := 3) (z := 3) hL hn (by decide) rfl dL_law_1030 dL_law_1031 dL_law_1032 (by decide) dL_law_1033 dL_law_1034 rfl rfl ?_
  refine gl_x (as := [aI (xs (n + 1)), aI (xs (n + 2)), aI (xs (n + 3))]) (op_mark (d := 88) hG) mv_X6_mark dL_law_1035 ml_L_125 rfl rfl rfl (fun a X1 V1 hX h1 => ?_)
  refine go_aload_n (q := 1) dL_law_1038 rfl rfl ?_
  refine gl_arg (k0 := 1) (z := 1) hL hn (by decide) rfl dL_law_1039 dL_law_1040 dL_law_1041 (by decide) dL_law_1042 dL_law_1043 rfl rfl ?_
  refine gl_arg (k0 := 2) (z := 2) hL hn (by decide) rfl dL_law_1044 dL_law_1045 dL_law_1046 (by decide) dL_law_1047 dL_law_1048 rfl rfl ?_
  refine gl_arg (k0 := 3) (z := 3) hL hn (by decide) rfl dL_law_1049 dL_law_1050 dL_law_1051 (by decide) dL_law_1052 dL_law_1053 rfl rfl ?_
  refine gl_m (as := [aI (xs (n + 1)), aI (xs (n + 2)), aI (xs (n + 3))]) hX h1 mv_X7_mark dL_law_1054 ml_L_128 rfl rfl rfl (fun V2 hG2 => ?_)
  exact go_icmp_eq (tgt := 1408) dL_law_1057 rfl (fun _ => hk V2 hG2) (fun h => absurd rfl h)
theorem law_c28 (hL : L ≤ 384) (hn : n + 6 ≤ L) (hG : GR V V) (hk : ∀ V2, GR V2 V2 → Gq (GL b L xs) UA cL_law 4 RL 1408 (alN n) [] V2) : Gq (GL b L xs) UA cL_law 4 RL 1062 (alN n) [] V := by
  refine go_aload_n (q := 2) dL_law_1062 rfl rfl ?_
  refine gl_arg (k0 := 1) (z := 1) hL hn (by decide) rfl dL_law_1063 dL_law_1064 dL_law_1065 (by decide) dL_law_1066 dL_law_1067 rfl rfl ?_
  refine gl_x (as := [aI (xs (n + 1))]) (op_pour (d := 88) hG) mv_X6_pour dL_law_1068 ml_L_129 rfl rfl rfl (fun a X1 V1 hX h1 => ?_)
  refine go_aload_n (q := 1) dL_law_1071 rfl rfl ?_
  refine gl_arg (k0 := 1) (z := 1) hL hn (by decide) rfl dL_law_1072 dL_law_1073 dL_law_1074 (by decide) dL_law_1075 dL_law_1076 rfl rfl ?_
  refine gl_m (as := [aI (xs (n + 1))]) hX h1 mv_X7_pour dL_law_1077 ml_L_132 rfl rfl rfl (fun V2 hG2 => ?_)
  exact go_icmp_eq (tgt := 1408) dL_law_1080 rfl (fun _ => hk V2 hG2) (fun h => absurd rfl h)
theorem law_c29 (hL : L ≤ 384) (hn : n + 6 ≤ L) (hG : GR V V) (hk : ∀ V2, GR V2 V2 → Gq (GL b L xs) UA cL_law 4 RL 1408 (alN n) [] V2) : Gq (GL b L xs) UA cL_law 4 RL 1085 (alN n) [] V := by
  refine go_aload_n (q := 2) dL_law_1085 rfl rfl ?_
  refine gl_arg (k0 := 1) (z := 1) hL hn (by decide) rfl dL_law_1086 dL_law_1087 dL_law_1088 (by decide) dL_law_1089 dL_law_1090 rfl rfl ?_
  refine gl_x (as := [aI (xs (n + 1))]) (op_reads (d := 88) hG) mv_X6_reads dL_law_1091 ml_L_133 rfl rfl rfl (fun a X1 V1 hX h1 => ?_)
  refine go_aload_n (q := 1) dL_law_1094 rfl rfl ?_
  refine gl_arg (k0 := 1) (z := 1) hL hn (by decide) rfl dL_law_1095 dL_law_1096 dL_law_1097 (by decide) dL_law_1098 dL_law_1099 rfl rfl ?_
  refine gl_m (as := [aI (xs (n + 1))]) hX h1 mv_X7_reads dL_law_1100 ml_L_136 rfl rfl rfl (fun V2 hG2 => ?_)
  exact go_icmp_eq (tgt := 1408) dL_law_1103 rfl (fun _ => hk V2 hG2) (fun h => absurd rfl h)
theorem law_c30 (hL : L ≤ 384) (hn : n + 6 ≤ L) (hG : GR V V) (hk : ∀ V2, GR V2 V2 → Gq (GL b L xs) UA cL_law 4 RL 1408 (alN n) [] V2) : Gq (GL b L xs) UA cL_law 4 RL 1108 (alN n) [] V := by
  refine go_aload_n (q := 2) dL_law_1108 rfl rfl ?_
  refine gl_arg (k0 := 1) (z := 1) hL hn (by decide) rfl dL_law_1109 dL_law_1110 dL_law_1111 (by decide) dL_law_1112 dL_law_1113 rfl rfl ?_
  refine gl_arg (k0 := 2) (z := 2) hL hn (by decide) rfl dL_law_1114 dL_law_1115 dL_law_1116 (by decide) dL_law_1117 dL_law_1118 rfl rfl ?_
  refine gl_arg (k0 := 3) (z := 3) hL hn (by decide) rfl dL_law_1119 dL_law_1120 dL_law_1121 (by decide) dL_law_1122 dL_law_1123 rfl rfl ?_
  refine gl_arg (k0 := 4) (z := 4) hL hn (by decide) rfl dL_law_1124 dL_law_1125 dL_law_1126 (by decide) dL_law_1127 dL_law_1128 rfl rfl ?_
  refine gl_arg (k0 := 5) (z := 5) hL hn (by decide) rfl dL_law_1129 dL_law_1130 dL_law_1131 (by decide) dL_law_1132 dL_law_1133 rfl rfl ?_
  refine gl_x (as := [aI (xs (n + 1)), aI (xs (n + 2)), aI (xs (n + 3)), aI (xs (n + 4)), aI (xs (n + 5))]) (op_copy (d := 88) hG) mv_X6_copy dL_law_1134 ml_L_137 rfl rfl rfl (fun a X1 V1 hX h1 => ?_)
  refine go_aload_n (q := 1) dL_law_1137 rfl rfl ?_
  refine gl_arg (k0 := 1) (z := 1) hL hn (by decide) rfl dL_law_1138 dL_law_1139 dL_law_1140 (by decide) dL_law_1141 dL_law_1142 rfl rfl ?_
  refine gl_arg (k0 := 2) (z := 2) hL hn (by decide) rfl dL_law_1143 dL_law_1144 dL_law_1145 (by decide) dL_law_1146 dL_law_1147 rfl rfl ?_
  refine gl_arg (k0 := 3) (z := 3) hL hn (by decide) rfl dL_law_1148 dL_law_1149 dL_law_1150 (by decide) dL_law_1151 dL_law_1152 rfl rfl ?_
  refine gl_arg (k0 := 4) (z := 4) hL hn (by decide) rfl dL_law_1153 dL_law_1154 dL_law_1155 (by decide) dL_law_1156 dL_law_1157 rfl rfl ?_
  refine gl_arg (k0 := 5) (z := 5) hL hn (by decide) rfl dL_law_1158 dL_law_1159 dL_law_1160 (by decide) dL_law_1161 dL_law_1162 rfl rfl ?_
  refine gl_m (as := [aI (xs (n + 1)), aI (xs (n + 2)), aI (xs (n + 3)), aI (xs (n + 4)), aI (xs (n + 5))]) hX h1 mv_X7_copy dL_law_1163 ml_L_141 rfl rfl rfl (fun V2 hG2 => ?_)
  exact go_icmp_eq (tgt := 1408) dL_law_1166 rfl (fun _ => hk V2 hG2) (fun h => absurd rfl h)
theorem law_c31 (hL : L ≤ 384) (hn : n + 6 ≤ L) (hG : GR V V) (hk : ∀ V2, GR V2 V2 → Gq (GL b L xs) UA cL_law 4 RL 1408 (alN n) [] V2) : Gq (GL b L xs) UA cL_law 4 RL 1171 (alN n) [] V := by
  refine go_aload_n (q := 2) dL_law_1171 rfl rfl ?_
  refine gl_arg (k0 := 1) (z := 1) hL hn (by decide) rfl dL_law_1172 dL_law_1173 dL_law_1174 (by decide) dL_law_1175 dL_law_1176 rfl rfl ?_
  refine gl_arg (k0 := 2) (z := 2) hL hn (by decide) rfl dL_law_1177 dL_law_1178 dL_law_1179 (by decide) dL_law_1180 dL_law_1181 rfl rfl ?_
  refine gl_arg (k0 := 3) (z := 3) hL hn (by decide) rfl dL_law_1182 dL_law_1183 dL_law_1184 (by decide) dL_law_1185 dL_law_1186 rfl rfl ?_
  refine gl_x (as := [aI (xs (n + 1)), aI (xs (n + 2)), aI (xs (n + 3))]) (op_lay (d := 88) hG) mv_X6_lay dL_law_1187 ml_L_142 rfl rfl rfl (fun a X1 V1 hX h1 => ?_)
  refine go_aload_n (q := 1) dL_law_1190 rfl rfl ?_
  refine gl_arg (k0 := 1) (z := 1) hL hn (by decide) rfl dL_law_1191 dL_law_1192 dL_law_1193 (by decide) dL_law_1194 dL_law_1195 rfl rfl ?_
  refine gl_arg (k0 := 2) (z := 2) hL hn (by decide) rfl dL_law_1196 dL_law_1197 dL_law_1198 (by decide) dL_law_1199 dL_law_1200 rfl rfl ?_
  refine gl_arg (k0 := 3) (z := 3) hL hn (by decide) rfl dL_law_1201 dL_law_1202 dL_law_1203 (by decide) dL_law_1204 dL_law_1205 rfl rfl ?_
  refine gl_m (as := [aI (xs (n + 1)), aI (xs (n + 2)), aI (xs (n + 3))]) hX h1 mv_X7_lay dL_law_1206 ml_L_145 rfl rfl rfl (fun V2 hG2 => ?_)
  exact go_icmp_eq (tgt := 1408) dL_law_1209 rfl (fun _ => hk V2 hG2) (fun h => absurd rfl h)
theorem law_c32 (hL : L ≤ 384) (hn : n + 6 ≤ L) (hG : GR V V) (hk : ∀ V2, GR V2 V2 → Gq (GL b L xs) UA cL_law 4 RL 1408 (alN n) [] V2) : Gq (GL b L xs) UA cL_law 4 RL 1214 (alN n) [] V := by
  refine go_aload_n (q := 2) dL_law_1214 rfl rfl ?_
  refine gl_arg (k0 := 1) (z := 1) hL hn (by decide) rfl dL_law_1215 dL_law_1216 dL_law_1217 (by decide) dL_law_1218 dL_law_1219 rfl rfl ?_
  refine gl_arg (k0 := 2) (z := 2) hL hn (by decide) rfl dL_law_1220 dL_law_1221 dL_law_1222 (by decide) dL_law_1223 dL_law_1224 rfl rfl ?_
  refine gl_x (as := [aI (xs (n + 1)), aI (xs (n + 2))]) (op_ask (d := 88) hG) mv_X6_ask dL_law_1225 ml_L_146 rfl rfl rfl (fun a X1 V1 hX h1 => ?_)
  refine go_aload_n (q := 1) dL_law_1228 rfl rfl ?_
  refine gl_arg (k0 := 1) (z := 1) hL hn (by decide) rfl dL_law_1229 dL_law_1230 dL_law_1231 (by decide) dL_law_1232 dL_law_1233 rfl rfl ?_
  refine gl_arg (k0 := 2) (z := 2) hL hn (by decide) rfl dL_law_1234 dL_law_1235 dL_law_1236 (by decide) dL_law_1237 dL_law_1238 rfl rfl ?_
  refine gl_m (as := [aI (xs (n + 1)), aI (xs (n + 2))]) hX h1 mv_X7_ask dL_law_1239 ml_L_149 rfl rfl rfl (fun V2 hG2 => ?_)
  exact go_icmp_eq (tgt := 1408) dL_law_1242 rfl (fun _ => hk V2 hG2) (fun h => absurd rfl h)
theorem law_c33 (hL : L ≤ 384) (hn : n + 6 ≤ L) (hG : GR V V) (hk : ∀ V2, GR V2 V2 → Gq (GL b L xs) UA cL_law 4 RL 1408 (alN n) [] V2) : Gq (GL b L xs) UA cL_law 4 RL 1247 (alN n) [] V := by
  refine go_aload_n (q := 2) dL_law_1247 rfl rfl ?_
  refine gl_arg (k0 := 1) (z := 1) hL hn (by decide) rfl dL_law_1248 dL_law_1249 dL_law_1250 (by decide) dL_law_1251 dL_law_1252 rfl rfl ?_
  refine gl_arg (k0 := 2) (z := 2) hL hn (by decide) rfl dL_law_1253 dL_law_1254 dL_law_1255 (by decide) dL_law_1256 dL_law_1257 rfl rfl ?_
  refine gl_x (as := [aI (xs (n + 1)), aI (xs (n + 2))]) (op_item (d := 88) hG) mv_X6_item dL_law_1258 ml_L_150 rfl rfl rfl (fun a X1 V1 hX h1 => ?_)
  refine go_aload_n (q := 1) dL_law_1261 rfl rfl ?_
  refine gl_arg (k0 := 1) (z := 1) hL hn (by decide) rfl dL_law_1262 dL_law_1263 dL_law_1264 (by decide) dL_law_1265 dL_law_1266 rfl rfl ?_
  refine gl_arg (k0 := 2) (z := 2) hL hn (by decide) rfl dL_law_1267 dL_law_1268 dL_law_1269 (by decide) dL_law_1270 dL_law_1271 rfl rfl ?_
  refine gl_m (as := [aI (xs (n + 1)), aI (xs (n + 2))]) hX h1 mv_X7_item dL_law_1272 ml_L_153 rfl rfl rfl (fun V2 hG2 => ?_)
  exact go_icmp_eq (tgt := 1408) dL_law_1275 rfl (fun _ => hk V2 hG2) (fun h => absurd rfl h)
theorem law_c34 (hL : L ≤ 384) (hn : n + 6 ≤ L) (hG : GR V V) (hk : ∀ V2, GR V2 V2 → Gq (GL b L xs) UA cL_law 4 RL 1408 (alN n) [] V2) : Gq (GL b L xs) UA cL_law 4 RL 1280 (alN n) [] V := by
  refine go_aload_n (q := 2) dL_law_1280 rfl rfl ?_
  refine gl_arg (k0 := 1) (z := 1) hL hn (by decide) rfl dL_law_1281 dL_law_1282 dL_law_1283 (by decide) dL_law_1284 dL_law_1285 rfl rfl ?_
  refine gl_arg (k0 := 2) (z := 2) hL hn (by decide) rfl dL_law_1286 dL_law_1287 dL_law_1288 (by decide) dL_law_1289 dL_law_1290 rfl rfl ?_
  refine gl_x (as := [aI (xs (n + 1)), aI (xs (n + 2))]) (op_rest (d := 88) hG) mv_X6_rest dL_law_1291 ml_L_154 rfl rfl rfl (fun a X1 V1 hX h1 => ?_)
  refine go_aload_n (q := 1) dL_law_1294 rfl rfl ?_
  refine gl_arg (k0 := 1) (z := 1) hL hn (by decide) rfl dL_law_1295 dL_law_1296 dL_law_1297 (by decide) dL_law_1298 dL_law_1299 rfl rfl ?_
  refine gl_arg (k0 := 2) (z := 2) hL hn (by decide) rfl dL_law_1300 dL_law_1301 dL_law_1302 (by decide) dL_law_1303 dL_law_1304 rfl rfl ?_
  refine gl_m (as := [aI (xs (n + 1)), aI (xs (n + 2))]) hX h1 mv_X7_rest dL_law_1305 ml_L_157 rfl rfl rfl (fun V2 hG2 => ?_)
  exact go_icmp_eq (tgt := 1408) dL_law_1308 rfl (fun _ => hk V2 hG2) (fun h => absurd rfl h)
theorem law_c35 (hL : L ≤ 384) (hn : n + 6 ≤ L) (hG : GR V V) (hk : ∀ V2, GR V2 V2 → Gq (GL b L xs) UA cL_law 4 RL 1408 (alN n) [] V2) : Gq (GL b L xs) UA cL_law 4 RL 1313 (alN n) [] V := by
  refine go_aload_n (q := 2) dL_law_1313 rfl rfl ?_
  refine gl_arg (k0 := 1) (z := 1) hL hn (by decide) rfl dL_law_1314 dL_law_1315 dL_law_1316 (by decide) dL_law_1317 dL_law_1318 rfl rfl ?_
  refine gl_x (as := [aI (xs (n + 1))]) (op_tell (d := 88) hG) mv_X6_tell dL_law_1319 ml_L_158 rfl rfl rfl (fun a X1 V1 hX h1 => ?_)
  refine go_aload_n (q := 1) dL_law_1322 rfl rfl ?_
  refine gl_arg (k0 := 1) (z := 1) hL hn (by decide) rfl dL_law_1323 dL_law_1324 dL_law_1325 (by decide) dL_law_1326 dL_law_1327 rfl rfl ?_
  refine gl_m (as := [aI (xs (n + 1))]) hX h1 mv_X7_tell dL_law_1328 ml_L_161 rfl rfl rfl (fun V2 hG2 => ?_)
  exact go_icmp_eq (tgt := 1408) dL_law_1331 rfl (fun _ => hk V2 hG2) (fun h => absurd rfl h)
theorem law_c36 (hL : L ≤ 384) (hn : n + 6 ≤ L) (hG : GR V V) (hk : ∀ V2, GR V2 V2 → Gq (GL b L xs) UA cL_law 4 RL 1408 (alN n) [] V2) : Gq (GL b L xs) UA cL_law 4 RL 1336 (alN n) [] V := by
  refine go_aload_n (q := 2) dL_law_1336 rfl rfl ?_
  refine gl_arg (k0 := 1) (z := 1) hL hn (by decide) rfl dL_law_1337 dL_law_1338 dL_law_1339 (by decide) dL_law_1340 dL_law_1341 rfl rfl ?_
  refine gl_x (as := [aI (xs (n + 1))]) (op_check (d := 88) hG) mv_X6_check dL_law_1342 ml_L_162 rfl rfl rfl (fun a X1 V1 hX h1 => ?_)
  refine go_aload_n (q := 1) dL_law_1345 rfl rfl ?_
  refine gl_arg (k0 := 1) (z := 1) hL hn (by decide) rfl dL_law_1346 dL_law_1347 dL_law_1348 (by decide) dL_law_1349 dL_law_1350 rfl rfl ?_
  refine gl_m (as := [aI (xs (n + 1))]) hX h1 mv_X7_check dL_law_1351 ml_L_165 rfl rfl rfl (fun V2 hG2 => ?_)
  exact go_icmp_eq (tgt := 1408) dL_law_1354 rfl (fun _ => hk V2 hG2) (fun h => absurd rfl h)
theorem law_c37 (hL : L ≤ 384) (hn : n + 6 ≤ L) (hG : GR V V) (hk : ∀ V2, GR V2 V2 → Gq (GL b L xs) UA cL_law 4 RL 1408 (alN n) [] V2) : Gq (GL b L xs) UA cL_law 4 RL 1359 (alN n) [] V := by
  refine go_aload_n (q := 2) dL_law_1359 rfl rfl ?_
  refine gl_x (as := []) (op_keep (d := 88) hG) mv_X6_keep dL_law_1360 ml_L_166 rfl rfl rfl (fun a X1 V1 hX h1 => ?_)
  refine go_aload_n (q := 1) dL_law_1363 rfl rfl ?_
  refine gl_m (as := []) hX h1 mv_X7_keep dL_law_1364 ml_L_169 rfl rfl rfl (fun V2 hG2 => ?_)
  exact go_icmp_eq (tgt := 1408) dL_law_1367 rfl (fun _ => hk V2 hG2) (fun h => absurd rfl h)
theorem law_c38 (hL : L ≤ 384) (hn : n + 6 ≤ L) (hG : GR V V) (hk : ∀ V2, GR V2 V2 → Gq (GL b L xs) UA cL_law 4 RL 1408 (alN n) [] V2) : Gq (GL b L xs) UA cL_law 4 RL 1372 (alN n) [] V := by
  refine go_aload_n (q := 2) dL_law_1372 rfl rfl ?_
  refine gl_x (as := []) (op_back (d := 88) hG) mv_X6_back dL_law_1373 ml_L_170 rfl rfl rfl (fun a X1 V1 hX h1 => ?_)
  refine go_aload_n (q := 1) dL_law_1376 rfl rfl ?_
  refine gl_m (as := []) hX h1 mv_X7_back dL_law_1377 ml_L_173 rfl rfl rfl (fun V2 hG2 => ?_)
  exact go_icmp_eq (tgt := 1408) dL_law_1380 rfl (fun _ => hk V2 hG2) (fun h => absurd rfl h)
theorem law_c39 (hL : L ≤ 384) (hn : n + 6 ≤ L) (hG : GR V V) (hk : ∀ V2, GR V2 V2 → Gq (GL b L xs) UA cL_law 4 RL 1408 (alN n) [] V2) : Gq (GL b L xs) UA cL_law 4 RL 1385 (alN n) [] V := by
  refine go_aload_n (q := 2) dL_law_1385 rfl rfl ?_
  refine gl_arg (k0 := 1) (z := 1) hL hn (by decide) rfl dL_law_1386 dL_law_1387 dL_law_1388 (by decide) dL_law_1389 dL_law_1390 rfl rfl ?_
  refine gl_x (as := [aI (xs (n + 1))]) (op_count (d := 88) hG) mv_X6_count dL_law_1391 ml_L_174 rfl rfl rfl (fun a X1 V1 hX h1 => ?_)
  refine go_aload_n (q := 1) dL_law_1394 rfl rfl ?_
  refine gl_arg (k0 := 1) (z := 1) hL hn (by decide) rfl dL_law_1395 dL_law_1396 dL_law_1397 (by decide) dL_law_1398 dL_law_1399 rfl rfl ?_
  refine gl_m (as := [aI (xs (n + 1))]) hX h1 mv_X7_count dL_law_1400 ml_L_177 rfl rfl rfl (fun V2 hG2 => ?_)
  exact go_icmp_eq (tgt := 1408) dL_law_1403 rfl (fun _ => hk V2 hG2) (fun h => absurd rfl h)
theorem law_loop (hL : L ≤ 384) : ∀ (f n : Nat) (V : Mem), n ≤ L → L < n + f → GR V V → Gq (GL b L xs) UA cL_law 4 RL 18 (alN n) [] V
  | 0, n, V, h1, h2, _ => absurd h2 (by omega)
  | f + 1, n, V, h1, h2, hG => by
    refine go_iload_n (q := 0) dL_law_18 rfl rfl ?_
    refine go_aload_n (q := 3) dL_law_19 rfl rfl ?_
    refine gl_slen dL_law_20 ?_
    refine go_bipush (v := 6) dL_law_21 (by decide) ?_
    refine go_isub dL_law_23 ?_
    refine go_icmp_gt (tgt := 1414) dL_law_24 rfl (fun _ => ?_) (fun hc => ?_)
    · refine go_iconst (v := 1) dL_law_1414 (by decide) ?_
      exact gl_ret rfl dL_law_1415
    · have hn : n + 6 ≤ L := by
        have eL := nI_toInt (n := L) (by omega)
        have en := nI_toInt (n := n) (by omega)
        have e6 : (6 : Int32).toInt = 6 := rfl
        rw [ti_lt, ti_sub (by rw [eL, e6]; omega) (by rw [eL, e6]; omega), eL, en, e6] at hc
        omega
      have hk : ∀ V2, GR V2 V2 → Gq (GL b L xs) UA cL_law 4 RL 1408 (alN n) [] V2 := by
        intro V2 hG2
        refine go_iinc (q := 0) (x := nI n) (y := 6) (al1 := alN (n + 6)) dL_law_1408 rfl (by decide) (by decide) (by show [(3, aI (nI n + 6)), (2, aR 24 0), (1, aR 0 0), (0, aR 64 0)] = alN (n + 6); rw [show nI n + 6 = nI (n + 6) from nI_add n 6]) ?_
        refine go_goto (tgt := 18) dL_law_1411 rfl ?_
        exact law_loop hL f (n + 6) V2 (by omega) (by omega) hG2
      refine go_aload_n (q := 3) dL_law_27 rfl rfl ?_
      refine go_iload_n (q := 0) dL_law_28 rfl rfl ?_
      refine gl_sld (j := n) rfl (by omega) hL dL_law_29 ?_
      refine go_bipush (v := 63) dL_law_30 (by decide) ?_
      refine go_iand dL_law_32 ?_
      generalize xs n &&& 63 = x
      by_cases ho : x.toInt < 0 ∨ 39 < x.toInt
      · exact go_tabOut (tgt := 1408) dL_law_33 ho rfl (hk V hG)
      · have h1' : ¬ x.toInt < 0 := fun z => ho (Or.inl z)
        have h2' : ¬ 39 < x.toInt := fun z => ho (Or.inr z)
        obtain ⟨c, hx⟩ : ∃ c : Nat, x.toInt = (c : Int) := ⟨x.toInt.toNat, by omega⟩
        have hc40 : c < 40 := by omega
        match c, hc40, hx with
        | 0, _, hx => exact go_tabIn (off := 175) (tgt := 208) dL_law_33 h1' h2' (by rw [hx]; rfl) rfl (law_c0 hL hn hG hk)
        | 1, _, hx => exact go_tabIn (off := 208) (tgt := 241) dL_law_33 h1' h2' (by rw [hx]; rfl) rfl (law_c1 hL hn hG hk)
        | 2, _, hx => exact go_tabIn (off := 241) (tgt := 274) dL_law_33 h1' h2' (by rw [hx]; rfl) rfl (law_c2 hL hn hG hk)
        | 3, _, hx => exact go_tabIn (off := 274) (tgt := 307) dL_law_33 h1' h2' (by rw [hx]; rfl) rfl (law_c3 hL hn hG hk)
        | 4, _, hx => exact go_tabIn (off := 307) (tgt := 340) dL_law_33 h1' h2' (by rw [hx]; rfl) rfl (law_c4 hL hn hG hk)
        | 5, _, hx => exact go_tabIn (off := 350) (tgt := 383) dL_law_33 h1' h2' (by rw [hx]; rfl) rfl (law_c5 hL hn hG hk)
        | 6, _, hx => exact go_tabIn (off := 383) (tgt := 416) dL_law_33 h1' h2' (by rw [hx]; rfl) rfl (law_c6 hL hn hG hk)
        | 7, _, hx => exact go_tabIn (off := 416) (tgt := 449) dL_law_33 h1' h2' (by rw [hx]; rfl) rfl (law_c7 hL hn hG hk)
        | 8, _, hx => exact go_tabIn (off := 439) (tgt := 472) dL_law_33 h1' h2' (by rw [hx]; rfl) rfl (law_c8 hL hn hG hk)
        | 9, _, hx => exact go_tabIn (off := 462) (tgt := 495) dL_law_33 h1' h2' (by rw [hx]; rfl) rfl (law_c9 hL hn hG hk)
        | 10, _, hx => exact go_tabIn (off := 505) (tgt := 538) dL_law_33 h1' h2' (by rw [hx]; rfl) rfl (law_c10 hL hn hG hk)
        | 11, _, hx => exact go_tabIn (off := 518) (tgt := 551) dL_law_33 h1' h2' (by rw [hx]; rfl) rfl (law_c11 hL hn hG hk)
        | 12, _, hx => exact go_tabIn (off := 541) (tgt := 574) dL_law_33 h1' h2' (by rw [hx]; rfl) rfl (law_c12 hL hn hG hk)
        | 13, _, hx => exact go_tabIn (off := 564) (tgt := 597) dL_law_33 h1' h2' (by rw [hx]; rfl) rfl (law_c13 hL hn hG hk)
        | 14, _, hx => exact go_tabIn (off := 587) (tgt := 620) dL_law_33 h1' h2' (by rw [hx]; rfl) rfl (law_c14 hL hn hG hk)
        | 15, _, hx => exact go_tabIn (off := 630) (tgt := 663) dL_law_33 h1' h2' (by rw [hx]; rfl) rfl (law_c15 hL hn hG hk)
        | 16, _, hx => exact go_tabIn (off := 673) (tgt := 706) dL_law_33 h1' h2' (by rw [hx]; rfl) rfl (law_c16 hL hn hG hk)
        | 17, _, hx => exact go_tabIn (off := 706) (tgt := 739) dL_law_33 h1' h2' (by rw [hx]; rfl) rfl (law_c17 hL hn hG hk)
        | 18, _, hx => exact go_tabIn (off := 719) (tgt := 752) dL_law_33 h1' h2' (by rw [hx]; rfl) rfl (law_c18 hL hn hG hk)
        | 19, _, hx => exact go_tabIn (off := 752) (tgt := 785) dL_law_33 h1' h2' (by rw [hx]; rfl) rfl (law_c19 hL hn hG hk)
        | 20, _, hx => exact go_tabIn (off := 785) (tgt := 818) dL_law_33 h1' h2' (by rw [hx]; rfl) rfl (law_c20 hL hn hG hk)
        | 21, _, hx => exact go_tabIn (off := 808) (tgt := 841) dL_law_33 h1' h2' (by rw [hx]; rfl) rfl (law_c21 hL hn hG hk)
        | 22, _, hx => exact go_tabIn (off := 851) (tgt := 884) dL_law_33 h1' h2' (by rw [hx]; rfl) rfl (law_c22 hL hn hG hk)
        | 23, _, hx => exact go_tabIn (off := 874) (tgt := 907) dL_law_33 h1' h2' (by rw [hx]; rfl) rfl (law_c23 hL hn hG hk)
        | 24, _, hx => exact go_tabIn (off := 887) (tgt := 920) dL_law_33 h1' h2' (by rw [hx]; rfl) rfl (law_c24 hL hn hG hk)
        | 25, _, hx => exact go_tabIn (off := 920) (tgt := 953) dL_law_33 h1' h2' (by rw [hx]; rfl) rfl (law_c25 hL hn hG hk)
        | 26, _, hx => exact go_tabIn (off := 943) (tgt := 976) dL_law_33 h1' h2' (by rw [hx]; rfl) rfl (law_c26 hL hn hG hk)
        | 27, _, hx => exact go_tabIn (off := 986) (tgt := 1019) dL_law_33 h1' h2' (by rw [hx]; rfl) rfl (law_c27 hL hn hG hk)
        | 28, _, hx => exact go_tabIn (off := 1029) (tgt := 1062) dL_law_33 h1' h2' (by rw [hx]; rfl) rfl (law_c28 hL hn hG hk)
        | 29, _, hx => exact go_tabIn (off := 1052) (tgt := 1085) dL_law_33 h1' h2' (by rw [hx]; rfl) rfl (law_c29 hL hn hG hk)
        | 30, _, hx => exact go_tabIn (off := 1075) (tgt := 1108) dL_law_33 h1' h2' (by rw [hx]; rfl) rfl (law_c30 hL hn hG hk)
        | 31, _, hx => exact go_tabIn (off := 1138) (tgt := 1171) dL_law_33 h1' h2' (by rw [hx]; rfl) rfl (law_c31 hL hn hG hk)
        | 32, _, hx => exact go_tabIn (off := 1181) (tgt := 1214) dL_law_33 h1' h2' (by rw [hx]; rfl) rfl (law_c32 hL hn hG hk)
        | 33, _, hx => exact go_tabIn (off := 1214) (tgt := 1247) dL_law_33 h1' h2' (by rw [hx]; rfl) rfl (law_c33 hL hn hG hk)
        | 34, _, hx => exact go_tabIn (off := 1247) (tgt := 1280) dL_law_33 h1' h2' (by rw [hx]; rfl) rfl (law_c34 hL hn hG hk)
        | 35, _, hx => exact go_tabIn (off := 1280) (tgt := 1313) dL_law_33 h1' h2' (by rw [hx]; rfl) rfl (law_c35 hL hn hG hk)
        | 36, _, hx => exact go_tabIn (off := 1303) (tgt := 1336) dL_law_33 h1' h2' (by rw [hx]; rfl) rfl (law_c36 hL hn hG hk)
        | 37, _, hx => exact go_tabIn (off := 1326) (tgt := 1359) dL_law_33 h1' h2' (by rw [hx]; rfl) rfl (law_c37 hL hn hG hk)
        | 38, _, hx => exact go_tabIn (off := 1339) (tgt := 1372) dL_law_33 h1' h2' (by rw [hx]; rfl) rfl (law_c38 hL hn hG hk)
        | 39, _, hx => exact go_tabIn (off := 1352) (tgt := 1385) dL_law_33 h1' h2' (by rw [hx]; rfl) rfl (law_c39 hL hn hG hk)
        | c + 40, h, _ => exact absurd h (by omega)
end LAW
