/-! the cases, by program (gen/genlaw.py) -/
section CL
variable {X : CX} {Z : ZX} {A : AX} {h : AH} {n i Ln : Nat} {xs : Nat → Int32} {nm : String}
theorem lc_feed (lk : LK X Ln xs Z A i) (iv : Inv h n) (K : ∀ g, Inv g n → V X (m_law nm) room_1 Z A 1781 (LL i) [] g) : V X (m_law nm) room_1 Z A 244 (LL i) [] h := by
  obtain ⟨G, hS, hT⟩ := (show Jn X m_X11_feed [.ref 0, .int (xs (i + 1)), .int (xs (i + 2)), .int (xs (i + 3)), .int (xs (i + 4)), .int (xs (i + 5))] m_X12_feed [.ref 68, .int (xs (i + 1)), .int (xs (i + 2)), .int (xs (i + 3)), .int (xs (i + 4)), .int (xs (i + 5))] h n A.1 A.2.1 from j_feed lk.2.2.2.1 iv)
  refine v_aload_n dL_law_244 rfl ?_
  refine v_arg (kk := 1) lk (Nat.le_of_ble_eq_true rfl) dL_law_245 dL_law_246 dL_law_248 rfl dL_law_249 dL_law_250 ?_
  refine v_arg (kk := 2) lk (Nat.le_of_ble_eq_true rfl) dL_law_251 dL_law_252 dL_law_254 rfl dL_law_255 dL_law_256 ?_
  refine v_arg (kk := 3) lk (Nat.le_of_ble_eq_true rfl) dL_law_257 dL_law_258 dL_law_260 rfl dL_law_261 dL_law_262 ?_
  refine v_arg (kk := 4) lk (Nat.le_of_ble_eq_true rfl) dL_law_263 dL_law_264 dL_law_266 rfl dL_law_267 dL_law_268 ?_
  refine v_arg (kk := 5) lk (Nat.le_of_ble_eq_true rfl) dL_law_269 dL_law_270 dL_law_272 rfl dL_law_273 dL_law_274 ?_
  refine v_cVI (mt := m_law nm) mo_X11_feed ml_RL_27 mi_X11_feed mv_X11_feed rfl kd_0 cl_11 rfl (ltA lk.2.2.2.1 rfl) RO_law lk.2.2.2.2 (Nat.le_of_ble_eq_true rfl) dL_law_275 rfl hS (fun y g hp => ?_)
  refine v_aload_n dL_law_278 rfl ?_
  refine v_arg (kk := 1) lk (Nat.le_of_ble_eq_true rfl) dL_law_279 dL_law_280 dL_law_282 rfl dL_law_283 dL_law_284 ?_
  refine v_arg (kk := 2) lk (Nat.le_of_ble_eq_true rfl) dL_law_285 dL_law_286 dL_law_288 rfl dL_law_289 dL_law_290 ?_
  refine v_arg (kk := 3) lk (Nat.le_of_ble_eq_true rfl) dL_law_291 dL_law_292 dL_law_294 rfl dL_law_295 dL_law_296 ?_
  refine v_arg (kk := 4) lk (Nat.le_of_ble_eq_true rfl) dL_law_297 dL_law_298 dL_law_300 rfl dL_law_301 dL_law_302 ?_
  refine v_arg (kk := 5) lk (Nat.le_of_ble_eq_true rfl) dL_law_303 dL_law_304 dL_law_306 rfl dL_law_307 dL_law_308 ?_
  refine v_cVI (mt := m_law nm) mo_X12_feed ml_RL_31 mi_X12_feed mv_X12_feed rfl kd_68 cl_12 rfl (ltA lk.2.2.2.1 rfl) RO_law lk.2.2.2.2 (Nat.le_of_ble_eq_true rfl) dL_law_309 rfl (hT y g hp) (fun y2 g2 z => ?_)
  obtain ⟨rfl, iv2⟩ := z
  exact v_icmp_eq (tgt := 1781) dL_law_312 (by decide) (fun _ => K g2 iv2) (fun z => absurd rfl z)
theorem lc_end (lk : LK X Ln xs Z A i) (iv : Inv h n) (K : ∀ g, Inv g n → V X (m_law nm) room_1 Z A 1781 (LL i) [] g) : V X (m_law nm) room_1 Z A 317 (LL i) [] h := by
  obtain ⟨G, hS, hT⟩ := (show Jn X m_X11_end [.ref 0, .int (xs (i + 1))] m_X12_end [.ref 68, .int (xs (i + 1))] h n A.1 A.2.1 from j_end lk.2.2.2.1 iv)
  refine v_aload_n dL_law_317 rfl ?_
  refine v_arg (kk := 1) lk (Nat.le_of_ble_eq_true rfl) dL_law_318 dL_law_319 dL_law_321 rfl dL_law_322 dL_law_323 ?_
  refine v_cVI (mt := m_law nm) mo_X11_end ml_RL_32 mi_X11_end mv_X11_end rfl kd_0 cl_11 rfl (ltA lk.2.2.2.1 rfl) RO_law lk.2.2.2.2 (Nat.le_of_ble_eq_true rfl) dL_law_324 rfl hS (fun y g hp => ?_)
  refine v_aload_n dL_law_327 rfl ?_
  refine v_arg (kk := 1) lk (Nat.le_of_ble_eq_true rfl) dL_law_328 dL_law_329 dL_law_331 rfl dL_law_332 dL_law_333 ?_
  refine v_cVI (mt := m_law nm) mo_X12_end ml_RL_36 mi_X12_end mv_X12_end rfl kd_68 cl_12 rfl (ltA lk.2.2.2.1 rfl) RO_law lk.2.2.2.2 (Nat.le_of_ble_eq_true rfl) dL_law_334 rfl (hT y g hp) (fun y2 g2 z => ?_)
  obtain ⟨rfl, iv2⟩ := z
  exact v_icmp_eq (tgt := 1781) dL_law_337 (by decide) (fun _ => K g2 iv2) (fun z => absurd rfl z)
theorem lc_fault (lk : LK X Ln xs Z A i) (iv : Inv h n) (K : ∀ g, Inv g n → V X (m_law nm) room_1 Z A 1781 (LL i) [] g) : V X (m_law nm) room_1 Z A 342 (LL i) [] h := by
  obtain ⟨G, hS, hT⟩ := (show Jn X m_X11_fault [.ref 0, .int (xs (i + 1))] m_X12_fault [.ref 68, .int (xs (i + 1))] h n A.1 A.2.1 from j_fault lk.2.2.2.1 iv)
  refine v_aload_n dL_law_342 rfl ?_
  refine v_arg (kk := 1) lk (Nat.le_of_ble_eq_true rfl) dL_law_343 dL_law_344 dL_law_346 rfl dL_law_347 dL_law_348 ?_
  refine v_cVI (mt := m_law nm) mo_X11_fault ml_RL_37 mi_X11_fault mv_X11_fault rfl kd_0 cl_11 rfl (ltA lk.2.2.2.1 rfl) RO_law lk.2.2.2.2 (Nat.le_of_ble_eq_true rfl) dL_law_349 rfl hS (fun y g hp => ?_)
  refine v_aload_n dL_law_352 rfl ?_
  refine v_arg (kk := 1) lk (Nat.le_of_ble_eq_true rfl) dL_law_353 dL_law_354 dL_law_356 rfl dL_law_357 dL_law_358 ?_
  refine v_cVI (mt := m_law nm) mo_X12_fault ml_RL_40 mi_X12_fault mv_X12_fault rfl kd_68 cl_12 rfl (ltA lk.2.2.2.1 rfl) RO_law lk.2.2.2.2 (Nat.le_of_ble_eq_true rfl) dL_law_359 rfl (hT y g hp) (fun y2 g2 z => ?_)
  obtain ⟨rfl, iv2⟩ := z
  exact v_icmp_eq (tgt := 1781) dL_law_362 (by decide) (fun _ => K g2 iv2) (fun z => absurd rfl z)
theorem lc_text (lk : LK X Ln xs Z A i) (iv : Inv h n) (K : ∀ g, Inv g n → V X (m_law nm) room_1 Z A 1781 (LL i) [] g) : V X (m_law nm) room_1 Z A 367 (LL i) [] h := by
  obtain ⟨G, hS, hT⟩ := (show Jn X m_X11_text [.ref 0, .int (xs (i + 1))] m_X12_text [.ref 68, .int (xs (i + 1))] h n A.1 A.2.1 from j_text lk.2.2.2.1 iv)
  refine v_aload_n dL_law_367 rfl ?_
  refine v_arg (kk := 1) lk (Nat.le_of_ble_eq_true rfl) dL_law_368 dL_law_369 dL_law_371 rfl dL_law_372 dL_law_373 ?_
  refine v_cVI (mt := m_law nm) mo_X11_text ml_RL_41 mi_X11_text mv_X11_text rfl kd_0 cl_11 rfl (ltA lk.2.2.2.1 rfl) RO_law lk.2.2.2.2 (Nat.le_of_ble_eq_true rfl) dL_law_374 rfl hS (fun y g hp => ?_)
  refine v_aload_n dL_law_377 rfl ?_
  refine v_arg (kk := 1) lk (Nat.le_of_ble_eq_true rfl) dL_law_378 dL_law_379 dL_law_381 rfl dL_law_382 dL_law_383 ?_
  refine v_cVI (mt := m_law nm) mo_X12_text ml_RL_44 mi_X12_text mv_X12_text rfl kd_68 cl_12 rfl (ltA lk.2.2.2.1 rfl) RO_law lk.2.2.2.2 (Nat.le_of_ble_eq_true rfl) dL_law_384 rfl (hT y g hp) (fun y2 g2 z => ?_)
  obtain ⟨rfl, iv2⟩ := z
  exact v_icmp_eq (tgt := 1781) dL_law_387 (by decide) (fun _ => K g2 iv2) (fun z => absurd rfl z)
theorem lc_most (lk : LK X Ln xs Z A i) (iv : Inv h n) (K : ∀ g, Inv g n → V X (m_law nm) room_1 Z A 1781 (LL i) [] g) : V X (m_law nm) room_1 Z A 392 (LL i) [] h := by
  obtain ⟨G, hS, hT⟩ := (show Jn X m_X11_most [.ref 0, .int (xs (i + 1)), .int (xs (i + 2))] m_X12_most [.ref 68, .int (xs (i + 1)), .int (xs (i + 2))] h n A.1 A.2.1 from j_most lk.2.2.2.1 iv)
  refine v_aload_n dL_law_392 rfl ?_
  refine v_arg (kk := 1) lk (Nat.le_of_ble_eq_true rfl) dL_law_393 dL_law_394 dL_law_396 rfl dL_law_397 dL_law_398 ?_
  refine v_arg (kk := 2) lk (Nat.le_of_ble_eq_true rfl) dL_law_399 dL_law_400 dL_law_402 rfl dL_law_403 dL_law_404 ?_
  refine v_cVI (mt := m_law nm) mo_X11_most ml_RL_45 mi_X11_most mv_X11_most rfl kd_0 cl_11 rfl (ltA lk.2.2.2.1 rfl) RO_law lk.2.2.2.2 (Nat.le_of_ble_eq_true rfl) dL_law_405 rfl hS (fun y g hp => ?_)
  refine v_aload_n dL_law_408 rfl ?_
  refine v_arg (kk := 1) lk (Nat.le_of_ble_eq_true rfl) dL_law_409 dL_law_410 dL_law_412 rfl dL_law_413 dL_law_414 ?_
  refine v_arg (kk := 2) lk (Nat.le_of_ble_eq_true rfl) dL_law_415 dL_law_416 dL_law_418 rfl dL_law_419 dL_law_420 ?_
  refine v_cVI (mt := m_law nm) mo_X12_most ml_RL_49 mi_X12_most mv_X12_most rfl kd_68 cl_12 rfl (ltA lk.2.2.2.1 rfl) RO_law lk.2.2.2.2 (Nat.le_of_ble_eq_true rfl) dL_law_421 rfl (hT y g hp) (fun y2 g2 z => ?_)
  obtain ⟨rfl, iv2⟩ := z
  exact v_icmp_eq (tgt := 1781) dL_law_424 (by decide) (fun _ => K g2 iv2) (fun z => absurd rfl z)
theorem lc_tie (lk : LK X Ln xs Z A i) (iv : Inv h n) (K : ∀ g, Inv g n → V X (m_law nm) room_1 Z A 1781 (LL i) [] g) : V X (m_law nm) room_1 Z A 429 (LL i) [] h := by
  obtain ⟨G, hS, hT⟩ := (show Jn X m_X11_tie [.ref 0, .int (xs (i + 1)), .int (xs (i + 2))] m_X12_tie [.ref 68, .int (xs (i + 1)), .int (xs (i + 2))] h n A.1 A.2.1 from j_tie lk.2.2.2.1 iv)
  refine v_aload_n dL_law_429 rfl ?_
  refine v_arg (kk := 1) lk (Nat.le_of_ble_eq_true rfl) dL_law_430 dL_law_431 dL_law_433 rfl dL_law_434 dL_law_435 ?_
  refine v_arg (kk := 2) lk (Nat.le_of_ble_eq_true rfl) dL_law_436 dL_law_437 dL_law_439 rfl dL_law_440 dL_law_441 ?_
  refine v_cVI (mt := m_law nm) mo_X11_tie ml_RL_50 mi_X11_tie mv_X11_tie rfl kd_0 cl_11 rfl (ltA lk.2.2.2.1 rfl) RO_law lk.2.2.2.2 (Nat.le_of_ble_eq_true rfl) dL_law_442 rfl hS (fun y g hp => ?_)
  refine v_aload_n dL_law_445 rfl ?_
  refine v_arg (kk := 1) lk (Nat.le_of_ble_eq_true rfl) dL_law_446 dL_law_447 dL_law_449 rfl dL_law_450 dL_law_451 ?_
  refine v_arg (kk := 2) lk (Nat.le_of_ble_eq_true rfl) dL_law_452 dL_law_453 dL_law_455 rfl dL_law_456 dL_law_457 ?_
  refine v_cVI (mt := m_law nm) mo_X12_tie ml_RL_53 mi_X12_tie mv_X12_tie rfl kd_68 cl_12 rfl (ltA lk.2.2.2.1 rfl) RO_law lk.2.2.2.2 (Nat.le_of_ble_eq_true rfl) dL_law_458 rfl (hT y g hp) (fun y2 g2 z => ?_)
  obtain ⟨rfl, iv2⟩ := z
  exact v_icmp_eq (tgt := 1781) dL_law_461 (by decide) (fun _ => K g2 iv2) (fun z => absurd rfl z)
theorem lc_drop (lk : LK X Ln xs Z A i) (iv : Inv h n) (K : ∀ g, Inv g n → V X (m_law nm) room_1 Z A 1781 (LL i) [] g) : V X (m_law nm) room_1 Z A 466 (LL i) [] h := by
  obtain ⟨G, hS, hT⟩ := (show Jn X m_X11_drop [.ref 0, .int (xs (i + 1)), .int (xs (i + 2))] m_X12_drop [.ref 68, .int (xs (i + 1)), .int (xs (i + 2))] h n A.1 A.2.1 from j_drop lk.2.2.2.1 iv)
  refine v_aload_n dL_law_466 rfl ?_
  refine v_arg (kk := 1) lk (Nat.le_of_ble_eq_true rfl) dL_law_467 dL_law_468 dL_law_470 rfl dL_law_471 dL_law_472 ?_
  refine v_arg (kk := 2) lk (Nat.le_of_ble_eq_true rfl) dL_law_473 dL_law_474 dL_law_476 rfl dL_law_477 dL_law_478 ?_
  refine v_cVI (mt := m_law nm) mo_X11_drop ml_RL_54 mi_X11_drop mv_X11_drop rfl kd_0 cl_11 rfl (ltA lk.2.2.2.1 rfl) RO_law lk.2.2.2.2 (Nat.le_of_ble_eq_true rfl) dL_law_479 rfl hS (fun y g hp => ?_)
  refine v_aload_n dL_law_482 rfl ?_
  refine v_arg (kk := 1) lk (Nat.le_of_ble_eq_true rfl) dL_law_483 dL_law_484 dL_law_486 rfl dL_law_487 dL_law_488 ?_
  refine v_arg (kk := 2) lk (Nat.le_of_ble_eq_true rfl) dL_law_489 dL_law_490 dL_law_492 rfl dL_law_493 dL_law_494 ?_
  refine v_cVI (mt := m_law nm) mo_X12_drop ml_RL_57 mi_X12_drop mv_X12_drop rfl kd_68 cl_12 rfl (ltA lk.2.2.2.1 rfl) RO_law lk.2.2.2.2 (Nat.le_of_ble_eq_true rfl) dL_law_495 rfl (hT y g hp) (fun y2 g2 z => ?_)
  obtain ⟨rfl, iv2⟩ := z
  exact v_icmp_eq (tgt := 1781) dL_law_498 (by decide) (fun _ => K g2 iv2) (fun z => absurd rfl z)
theorem lc_far (lk : LK X Ln xs Z A i) (iv : Inv h n) (K : ∀ g, Inv g n → V X (m_law nm) room_1 Z A 1781 (LL i) [] g) : V X (m_law nm) room_1 Z A 559 (LL i) [] h := by
  obtain ⟨G, hS, hT⟩ := (show Jn X m_X11_far [.ref 0, .int (xs (i + 1)), .int (xs (i + 2))] m_X12_far [.ref 68, .int (xs (i + 1)), .int (xs (i + 2))] h n A.1 A.2.1 from j_far lk.2.2.2.1 iv)
  refine v_aload_n dL_law_559 rfl ?_
  refine v_arg (kk := 1) lk (Nat.le_of_ble_eq_true rfl) dL_law_560 dL_law_561 dL_law_563 rfl dL_law_564 dL_law_565 ?_
  refine v_arg (kk := 2) lk (Nat.le_of_ble_eq_true rfl) dL_law_566 dL_law_567 dL_law_569 rfl dL_law_570 dL_law_571 ?_
  refine v_cVI (mt := m_law nm) mo_X11_far ml_RL_66 mi_X11_far mv_X11_far rfl kd_0 cl_11 rfl (ltA lk.2.2.2.1 rfl) RO_law lk.2.2.2.2 (Nat.le_of_ble_eq_true rfl) dL_law_572 rfl hS (fun y g hp => ?_)
  refine v_aload_n dL_law_575 rfl ?_
  refine v_arg (kk := 1) lk (Nat.le_of_ble_eq_true rfl) dL_law_576 dL_law_577 dL_law_579 rfl dL_law_580 dL_law_581 ?_
  refine v_arg (kk := 2) lk (Nat.le_of_ble_eq_true rfl) dL_law_582 dL_law_583 dL_law_585 rfl dL_law_586 dL_law_587 ?_
  refine v_cVI (mt := m_law nm) mo_X12_far ml_RL_70 mi_X12_far mv_X12_far rfl kd_68 cl_12 rfl (ltA lk.2.2.2.1 rfl) RO_law lk.2.2.2.2 (Nat.le_of_ble_eq_true rfl) dL_law_588 rfl (hT y g hp) (fun y2 g2 z => ?_)
  obtain ⟨rfl, iv2⟩ := z
  exact v_icmp_eq (tgt := 1781) dL_law_591 (by decide) (fun _ => K g2 iv2) (fun z => absurd rfl z)
theorem lc_ways (lk : LK X Ln xs Z A i) (iv : Inv h n) (K : ∀ g, Inv g n → V X (m_law nm) room_1 Z A 1781 (LL i) [] g) : V X (m_law nm) room_1 Z A 596 (LL i) [] h := by
  obtain ⟨G, hS, hT⟩ := (show JL X m_X11_ways [.ref 0, .int (xs (i + 1)), .int (xs (i + 2))] m_X12_ways [.ref 68, .int (xs (i + 1)), .int (xs (i + 2))] h n A.1 A.2.1 from j_ways lk.2.2.2.1 iv)
  refine v_aload_n dL_law_596 rfl ?_
  refine v_arg (kk := 1) lk (Nat.le_of_ble_eq_true rfl) dL_law_597 dL_law_598 dL_law_600 rfl dL_law_601 dL_law_602 ?_
  refine v_arg (kk := 2) lk (Nat.le_of_ble_eq_true rfl) dL_law_603 dL_law_604 dL_law_606 rfl dL_law_607 dL_law_608 ?_
  refine v_cVL (mt := m_law nm) mo_X11_ways ml_RL_71 mi_X11_ways mv_X11_ways rfl kd_0 cl_11 rfl (ltA lk.2.2.2.1 rfl) RO_law lk.2.2.2.2 (Nat.le_of_ble_eq_true rfl) dL_law_609 rfl hS (fun y g hp => ?_)
  refine v_aload_n dL_law_612 rfl ?_
  refine v_arg (kk := 1) lk (Nat.le_of_ble_eq_true rfl) dL_law_613 dL_law_614 dL_law_616 rfl dL_law_617 dL_law_618 ?_
  refine v_arg (kk := 2) lk (Nat.le_of_ble_eq_true rfl) dL_law_619 dL_law_620 dL_law_622 rfl dL_law_623 dL_law_624 ?_
  refine v_cVL (mt := m_law nm) mo_X12_ways ml_RL_75 mi_X12_ways mv_X12_ways rfl kd_68 cl_12 rfl (ltA lk.2.2.2.1 rfl) RO_law lk.2.2.2.2 (Nat.le_of_ble_eq_true rfl) dL_law_625 rfl (hT y g hp) (fun y2 g2 z => ?_)
  obtain ⟨rfl, iv2⟩ := z
  refine v_lcmp dL_law_628 ?_
  rw [lg_eq]
  exact v_if_eq (tgt := 1781) dL_law_629 (by decide) (fun _ => K g2 iv2) (fun z => absurd rfl z)
theorem lc_over (lk : LK X Ln xs Z A i) (iv : Inv h n) (K : ∀ g, Inv g n → V X (m_law nm) room_1 Z A 1781 (LL i) [] g) : V X (m_law nm) room_1 Z A 634 (LL i) [] h := by
  obtain ⟨G, hS, hT⟩ := (show Jn X m_X11_over [.ref 0, .int (xs (i + 1)), .int (xs (i + 2)), .int (xs (i + 3))] m_X12_over [.ref 68, .int (xs (i + 1)), .int (xs (i + 2)), .int (xs (i + 3))] h n A.1 A.2.1 from j_over lk.2.2.2.1 iv)
  refine v_aload_n dL_law_634 rfl ?_
  refine v_arg (kk := 1) lk (Nat.le_of_ble_eq_true rfl) dL_law_635 dL_law_636 dL_law_638 rfl dL_law_639 dL_law_640 ?_
  refine v_arg (kk := 2) lk (Nat.le_of_ble_eq_true rfl) dL_law_641 dL_law_642 dL_law_644 rfl dL_law_645 dL_law_646 ?_
  refine v_arg (kk := 3) lk (Nat.le_of_ble_eq_true rfl) dL_law_647 dL_law_648 dL_law_650 rfl dL_law_651 dL_law_652 ?_
  refine v_cVI (mt := m_law nm) mo_X11_over ml_RL_76 mi_X11_over mv_X11_over rfl kd_0 cl_11 rfl (ltA lk.2.2.2.1 rfl) RO_law lk.2.2.2.2 (Nat.le_of_ble_eq_true rfl) dL_law_653 rfl hS (fun y g hp => ?_)
  refine v_aload_n dL_law_656 rfl ?_
  refine v_arg (kk := 1) lk (Nat.le_of_ble_eq_true rfl) dL_law_657 dL_law_658 dL_law_660 rfl dL_law_661 dL_law_662 ?_
  refine v_arg (kk := 2) lk (Nat.le_of_ble_eq_true rfl) dL_law_663 dL_law_664 dL_law_666 rfl dL_law_667 dL_law_668 ?_
  refine v_arg (kk := 3) lk (Nat.le_of_ble_eq_true rfl) dL_law_669 dL_law_670 dL_law_672 rfl dL_law_673 dL_law_674 ?_
  refine v_cVI (mt := m_law nm) mo_X12_over ml_RL_80 mi_X12_over mv_X12_over rfl kd_68 cl_12 rfl (ltA lk.2.2.2.1 rfl) RO_law lk.2.2.2.2 (Nat.le_of_ble_eq_true rfl) dL_law_675 rfl (hT y g hp) (fun y2 g2 z => ?_)
  obtain ⟨rfl, iv2⟩ := z
  exact v_icmp_eq (tgt := 1781) dL_law_678 (by decide) (fun _ => K g2 iv2) (fun z => absurd rfl z)
theorem lc_of (lk : LK X Ln xs Z A i) (iv : Inv h n) (K : ∀ g, Inv g n → V X (m_law nm) room_1 Z A 1781 (LL i) [] g) : V X (m_law nm) room_1 Z A 683 (LL i) [] h := by
  obtain ⟨G, hS, hT⟩ := (show Jn X m_X11_of [.ref 0, .int (xs (i + 1)), .int (xs (i + 2))] m_X12_of [.ref 68, .int (xs (i + 1)), .int (xs (i + 2))] h n A.1 A.2.1 from j_of lk.2.2.2.1 iv)
  refine v_aload_n dL_law_683 rfl ?_
  refine v_arg (kk := 1) lk (Nat.le_of_ble_eq_true rfl) dL_law_684 dL_law_685 dL_law_687 rfl dL_law_688 dL_law_689 ?_
  refine v_arg (kk := 2) lk (Nat.le_of_ble_eq_true rfl) dL_law_690 dL_law_691 dL_law_693 rfl dL_law_694 dL_law_695 ?_
  refine v_cVI (mt := m_law nm) mo_X11_of ml_RL_81 mi_X11_of mv_X11_of rfl kd_0 cl_11 rfl (ltA lk.2.2.2.1 rfl) RO_law lk.2.2.2.2 (Nat.le_of_ble_eq_true rfl) dL_law_696 rfl hS (fun y g hp => ?_)
  refine v_aload_n dL_law_699 rfl ?_
  refine v_arg (kk := 1) lk (Nat.le_of_ble_eq_true rfl) dL_law_700 dL_law_701 dL_law_703 rfl dL_law_704 dL_law_705 ?_
  refine v_arg (kk := 2) lk (Nat.le_of_ble_eq_true rfl) dL_law_706 dL_law_707 dL_law_709 rfl dL_law_710 dL_law_711 ?_
  refine v_cVI (mt := m_law nm) mo_X12_of ml_RL_84 mi_X12_of mv_X12_of rfl kd_68 cl_12 rfl (ltA lk.2.2.2.1 rfl) RO_law lk.2.2.2.2 (Nat.le_of_ble_eq_true rfl) dL_law_712 rfl (hT y g hp) (fun y2 g2 z => ?_)
  obtain ⟨rfl, iv2⟩ := z
  exact v_icmp_eq (tgt := 1781) dL_law_715 (by decide) (fun _ => K g2 iv2) (fun z => absurd rfl z)
theorem lc_all (lk : LK X Ln xs Z A i) (iv : Inv h n) (K : ∀ g, Inv g n → V X (m_law nm) room_1 Z A 1781 (LL i) [] g) : V X (m_law nm) room_1 Z A 720 (LL i) [] h := by
  obtain ⟨G, hS, hT⟩ := (show Jn X m_X11_all [.ref 0, .int (xs (i + 1))] m_X12_all [.ref 68, .int (xs (i + 1))] h n A.1 A.2.1 from j_all lk.2.2.2.1 iv)
  refine v_aload_n dL_law_720 rfl ?_
  refine v_arg (kk := 1) lk (Nat.le_of_ble_eq_true rfl) dL_law_721 dL_law_722 dL_law_724 rfl dL_law_725 dL_law_726 ?_
  refine v_cVI (mt := m_law nm) mo_X11_all ml_RL_85 mi_X11_all mv_X11_all rfl kd_0 cl_11 rfl (ltA lk.2.2.2.1 rfl) RO_law lk.2.2.2.2 (Nat.le_of_ble_eq_true rfl) dL_law_727 rfl hS (fun y g hp => ?_)
  refine v_aload_n dL_law_730 rfl ?_
  refine v_arg (kk := 1) lk (Nat.le_of_ble_eq_true rfl) dL_law_731 dL_law_732 dL_law_734 rfl dL_law_735 dL_law_736 ?_
  refine v_cVI (mt := m_law nm) mo_X12_all ml_RL_88 mi_X12_all mv_X12_all rfl kd_68 cl_12 rfl (ltA lk.2.2.2.1 rfl) RO_law lk.2.2.2.2 (Nat.le_of_ble_eq_true rfl) dL_law_737 rfl (hT y g hp) (fun y2 g2 z => ?_)
  obtain ⟨rfl, iv2⟩ := z
  exact v_icmp_eq (tgt := 1781) dL_law_740 (by decide) (fun _ => K g2 iv2) (fun z => absurd rfl z)
theorem lc_load (lk : LK X Ln xs Z A i) (iv : Inv h n) (K : ∀ g, Inv g n → V X (m_law nm) room_1 Z A 1781 (LL i) [] g) : V X (m_law nm) room_1 Z A 745 (LL i) [] h := by
  obtain ⟨G, hS, hT⟩ := (show Jn X m_X11_load [.ref 0, .int (xs (i + 1)), .int (xs (i + 2))] m_X12_load [.ref 68, .int (xs (i + 1)), .int (xs (i + 2))] h n A.1 A.2.1 from j_load lk.2.2.2.1 iv)
  refine v_aload_n dL_law_745 rfl ?_
  refine v_arg (kk := 1) lk (Nat.le_of_ble_eq_true rfl) dL_law_746 dL_law_747 dL_law_749 rfl dL_law_750 dL_law_751 ?_
  refine v_arg (kk := 2) lk (Nat.le_of_ble_eq_true rfl) dL_law_752 dL_law_753 dL_law_755 rfl dL_law_756 dL_law_757 ?_
  refine v_cVI (mt := m_law nm) mo_X11_load ml_RL_89 mi_X11_load mv_X11_load rfl kd_0 cl_11 rfl (ltA lk.2.2.2.1 rfl) RO_law lk.2.2.2.2 (Nat.le_of_ble_eq_true rfl) dL_law_758 rfl hS (fun y g hp => ?_)
  refine v_aload_n dL_law_761 rfl ?_
  refine v_arg (kk := 1) lk (Nat.le_of_ble_eq_true rfl) dL_law_762 dL_law_763 dL_law_765 rfl dL_law_766 dL_law_767 ?_
  refine v_arg (kk := 2) lk (Nat.le_of_ble_eq_true rfl) dL_law_768 dL_law_769 dL_law_771 rfl dL_law_772 dL_law_773 ?_
  refine v_cVI (mt := m_law nm) mo_X12_load ml_RL_92 mi_X12_load mv_X12_load rfl kd_68 cl_12 rfl (ltA lk.2.2.2.1 rfl) RO_law lk.2.2.2.2 (Nat.le_of_ble_eq_true rfl) dL_law_774 rfl (hT y g hp) (fun y2 g2 z => ?_)
  obtain ⟨rfl, iv2⟩ := z
  exact v_icmp_eq (tgt := 1781) dL_law_777 (by decide) (fun _ => K g2 iv2) (fun z => absurd rfl z)
theorem lc_apart (lk : LK X Ln xs Z A i) (iv : Inv h n) (K : ∀ g, Inv g n → V X (m_law nm) room_1 Z A 1781 (LL i) [] g) : V X (m_law nm) room_1 Z A 782 (LL i) [] h := by
  obtain ⟨G, hS, hT⟩ := (show Jn X m_X11_apart [.ref 0, .int (xs (i + 1)), .int (xs (i + 2))] m_X12_apart [.ref 68, .int (xs (i + 1)), .int (xs (i + 2))] h n A.1 A.2.1 from j_apart lk.2.2.2.1 iv)
  refine v_aload_n dL_law_782 rfl ?_
  refine v_arg (kk := 1) lk (Nat.le_of_ble_eq_true rfl) dL_law_783 dL_law_784 dL_law_786 rfl dL_law_787 dL_law_788 ?_
  refine v_arg (kk := 2) lk (Nat.le_of_ble_eq_true rfl) dL_law_789 dL_law_790 dL_law_792 rfl dL_law_793 dL_law_794 ?_
  refine v_cVI (mt := m_law nm) mo_X11_apart ml_RL_93 mi_X11_apart mv_X11_apart rfl kd_0 cl_11 rfl (ltA lk.2.2.2.1 rfl) RO_law lk.2.2.2.2 (Nat.le_of_ble_eq_true rfl) dL_law_795 rfl hS (fun y g hp => ?_)
  refine v_aload_n dL_law_798 rfl ?_
  refine v_arg (kk := 1) lk (Nat.le_of_ble_eq_true rfl) dL_law_799 dL_law_800 dL_law_802 rfl dL_law_803 dL_law_804 ?_
  refine v_arg (kk := 2) lk (Nat.le_of_ble_eq_true rfl) dL_law_805 dL_law_806 dL_law_808 rfl dL_law_809 dL_law_810 ?_
  refine v_cVI (mt := m_law nm) mo_X12_apart ml_RL_96 mi_X12_apart mv_X12_apart rfl kd_68 cl_12 rfl (ltA lk.2.2.2.1 rfl) RO_law lk.2.2.2.2 (Nat.le_of_ble_eq_true rfl) dL_law_811 rfl (hT y g hp) (fun y2 g2 z => ?_)
  obtain ⟨rfl, iv2⟩ := z
  exact v_icmp_eq (tgt := 1781) dL_law_814 (by decide) (fun _ => K g2 iv2) (fun z => absurd rfl z)
theorem lc_bears (lk : LK X Ln xs Z A i) (iv : Inv h n) (K : ∀ g, Inv g n → V X (m_law nm) room_1 Z A 1781 (LL i) [] g) : V X (m_law nm) room_1 Z A 819 (LL i) [] h := by
  obtain ⟨G, hS, hT⟩ := (show Jn X m_X11_bears [.ref 0, .int (xs (i + 1))] m_X12_bears [.ref 68, .int (xs (i + 1))] h n A.1 A.2.1 from j_bears lk.2.2.2.1 iv)
  refine v_aload_n dL_law_819 rfl ?_
  refine v_arg (kk := 1) lk (Nat.le_of_ble_eq_true rfl) dL_law_820 dL_law_821 dL_law_823 rfl dL_law_824 dL_law_825 ?_
  refine v_cVI (mt := m_law nm) mo_X11_bears ml_RL_97 mi_X11_bears mv_X11_bears rfl kd_0 cl_11 rfl (ltA lk.2.2.2.1 rfl) RO_law lk.2.2.2.2 (Nat.le_of_ble_eq_true rfl) dL_law_826 rfl hS (fun y g hp => ?_)
  refine v_aload_n dL_law_829 rfl ?_
  refine v_arg (kk := 1) lk (Nat.le_of_ble_eq_true rfl) dL_law_830 dL_law_831 dL_law_833 rfl dL_law_834 dL_law_835 ?_
  refine v_cVI (mt := m_law nm) mo_X12_bears ml_RL_100 mi_X12_bears mv_X12_bears rfl kd_68 cl_12 rfl (ltA lk.2.2.2.1 rfl) RO_law lk.2.2.2.2 (Nat.le_of_ble_eq_true rfl) dL_law_836 rfl (hT y g hp) (fun y2 g2 z => ?_)
  obtain ⟨rfl, iv2⟩ := z
  exact v_icmp_eq (tgt := 1781) dL_law_839 (by decide) (fun _ => K g2 iv2) (fun z => absurd rfl z)
theorem lc_broken (lk : LK X Ln xs Z A i) (iv : Inv h n) (K : ∀ g, Inv g n → V X (m_law nm) room_1 Z A 1781 (LL i) [] g) : V X (m_law nm) room_1 Z A 844 (LL i) [] h := by
  obtain ⟨G, hS, hT⟩ := (show Jn X m_X11_broken [.ref 0, .int (xs (i + 1))] m_X12_broken [.ref 68, .int (xs (i + 1))] h n A.1 A.2.1 from j_broken lk.2.2.2.1 iv)
  refine v_aload_n dL_law_844 rfl ?_
  refine v_arg (kk := 1) lk (Nat.le_of_ble_eq_true rfl) dL_law_845 dL_law_846 dL_law_848 rfl dL_law_849 dL_law_850 ?_
  refine v_cVI (mt := m_law nm) mo_X11_broken ml_RL_101 mi_X11_broken mv_X11_broken rfl kd_0 cl_11 rfl (ltA lk.2.2.2.1 rfl) RO_law lk.2.2.2.2 (Nat.le_of_ble_eq_true rfl) dL_law_851 rfl hS (fun y g hp => ?_)
  refine v_aload_n dL_law_854 rfl ?_
  refine v_arg (kk := 1) lk (Nat.le_of_ble_eq_true rfl) dL_law_855 dL_law_856 dL_law_858 rfl dL_law_859 dL_law_860 ?_
  refine v_cVI (mt := m_law nm) mo_X12_broken ml_RL_104 mi_X12_broken mv_X12_broken rfl kd_68 cl_12 rfl (ltA lk.2.2.2.1 rfl) RO_law lk.2.2.2.2 (Nat.le_of_ble_eq_true rfl) dL_law_861 rfl (hT y g hp) (fun y2 g2 z => ?_)
  obtain ⟨rfl, iv2⟩ := z
  exact v_icmp_eq (tgt := 1781) dL_law_864 (by decide) (fun _ => K g2 iv2) (fun z => absurd rfl z)
theorem lc_mend (lk : LK X Ln xs Z A i) (iv : Inv h n) (K : ∀ g, Inv g n → V X (m_law nm) room_1 Z A 1781 (LL i) [] g) : V X (m_law nm) room_1 Z A 869 (LL i) [] h := by
  obtain ⟨G, hS, hT⟩ := (show Jn X m_X11_mend [.ref 0] m_X12_mend [.ref 68] h n A.1 A.2.1 from j_mend lk.2.2.2.1 iv)
  refine v_aload_n dL_law_869 rfl ?_
  refine v_cVI (mt := m_law nm) mo_X11_mend ml_RL_105 mi_X11_mend mv_X11_mend rfl kd_0 cl_11 rfl (ltA lk.2.2.2.1 rfl) RO_law lk.2.2.2.2 (Nat.le_of_ble_eq_true rfl) dL_law_870 rfl hS (fun y g hp => ?_)
  refine v_aload_n dL_law_873 rfl ?_
  refine v_cVI (mt := m_law nm) mo_X12_mend ml_RL_108 mi_X12_mend mv_X12_mend rfl kd_68 cl_12 rfl (ltA lk.2.2.2.1 rfl) RO_law lk.2.2.2.2 (Nat.le_of_ble_eq_true rfl) dL_law_874 rfl (hT y g hp) (fun y2 g2 z => ?_)
  obtain ⟨rfl, iv2⟩ := z
  exact v_icmp_eq (tgt := 1781) dL_law_877 (by decide) (fun _ => K g2 iv2) (fun z => absurd rfl z)
theorem lc_need (lk : LK X Ln xs Z A i) (iv : Inv h n) (K : ∀ g, Inv g n → V X (m_law nm) room_1 Z A 1781 (LL i) [] g) : V X (m_law nm) room_1 Z A 882 (LL i) [] h := by
  obtain ⟨G, hS, hT⟩ := (show Jn X m_X11_need [.ref 0, .int (xs (i + 1)), .int (xs (i + 2)), .int (xs (i + 3))] m_X12_need [.ref 68, .int (xs (i + 1)), .int (xs (i + 2)), .int (xs (i + 3))] h n A.1 A.2.1 from j_need lk.2.2.2.1 iv)
  refine v_aload_n dL_law_882 rfl ?_
  refine v_arg (kk := 1) lk (Nat.le_of_ble_eq_true rfl) dL_law_883 dL_law_884 dL_law_886 rfl dL_law_887 dL_law_888 ?_
  refine v_arg (kk := 2) lk (Nat.le_of_ble_eq_true rfl) dL_law_889 dL_law_890 dL_law_892 rfl dL_law_893 dL_law_894 ?_
  refine v_arg (kk := 3) lk (Nat.le_of_ble_eq_true rfl) dL_law_895 dL_law_896 dL_law_898 rfl dL_law_899 dL_law_900 ?_
  refine v_cVI (mt := m_law nm) mo_X11_need ml_RL_109 mi_X11_need mv_X11_need rfl kd_0 cl_11 rfl (ltA lk.2.2.2.1 rfl) RO_law lk.2.2.2.2 (Nat.le_of_ble_eq_true rfl) dL_law_901 rfl hS (fun y g hp => ?_)
  refine v_aload_n dL_law_904 rfl ?_
  refine v_arg (kk := 1) lk (Nat.le_of_ble_eq_true rfl) dL_law_905 dL_law_906 dL_law_908 rfl dL_law_909 dL_law_910 ?_
  refine v_arg (kk := 2) lk (Nat.le_of_ble_eq_true rfl) dL_law_911 dL_law_912 dL_law_914 rfl dL_law_915 dL_law_916 ?_
  refine v_arg (kk := 3) lk (Nat.le_of_ble_eq_true rfl) dL_law_917 dL_law_918 dL_law_920 rfl dL_law_921 dL_law_922 ?_
  refine v_cVI (mt := m_law nm) mo_X12_need ml_RL_113 mi_X12_need mv_X12_need rfl kd_68 cl_12 rfl (ltA lk.2.2.2.1 rfl) RO_law lk.2.2.2.2 (Nat.le_of_ble_eq_true rfl) dL_law_923 rfl (hT y g hp) (fun y2 g2 z => ?_)
  obtain ⟨rfl, iv2⟩ := z
  exact v_icmp_eq (tgt := 1781) dL_law_926 (by decide) (fun _ => K g2 iv2) (fun z => absurd rfl z)
theorem lc_value (lk : LK X Ln xs Z A i) (iv : Inv h n) (K : ∀ g, Inv g n → V X (m_law nm) room_1 Z A 1781 (LL i) [] g) : V X (m_law nm) room_1 Z A 931 (LL i) [] h := by
  obtain ⟨G, hS, hT⟩ := (show Jn X m_X11_value [.ref 0, .int (xs (i + 1))] m_X12_value [.ref 68, .int (xs (i + 1))] h n A.1 A.2.1 from j_value lk.2.2.2.1 iv)
  refine v_aload_n dL_law_931 rfl ?_
  refine v_arg (kk := 1) lk (Nat.le_of_ble_eq_true rfl) dL_law_932 dL_law_933 dL_law_935 rfl dL_law_936 dL_law_937 ?_
  refine v_cVI (mt := m_law nm) mo_X11_value ml_RL_114 mi_X11_value mv_X11_value rfl kd_0 cl_11 rfl (ltA lk.2.2.2.1 rfl) RO_law lk.2.2.2.2 (Nat.le_of_ble_eq_true rfl) dL_law_938 rfl hS (fun y g hp => ?_)
  refine v_aload_n dL_law_941 rfl ?_
  refine v_arg (kk := 1) lk (Nat.le_of_ble_eq_true rfl) dL_law_942 dL_law_943 dL_law_945 rfl dL_law_946 dL_law_947 ?_
  refine v_cVI (mt := m_law nm) mo_X12_value ml_RL_117 mi_X12_value mv_X12_value rfl kd_68 cl_12 rfl (ltA lk.2.2.2.1 rfl) RO_law lk.2.2.2.2 (Nat.le_of_ble_eq_true rfl) dL_law_948 rfl (hT y g hp) (fun y2 g2 z => ?_)
  obtain ⟨rfl, iv2⟩ := z
  exact v_icmp_eq (tgt := 1781) dL_law_951 (by decide) (fun _ => K g2 iv2) (fun z => absurd rfl z)
theorem lc_cost (lk : LK X Ln xs Z A i) (iv : Inv h n) (K : ∀ g, Inv g n → V X (m_law nm) room_1 Z A 1781 (LL i) [] g) : V X (m_law nm) room_1 Z A 956 (LL i) [] h := by
  obtain ⟨G, hS, hT⟩ := (show Jn X m_X11_cost [.ref 0, .int (xs (i + 1))] m_X12_cost [.ref 68, .int (xs (i + 1))] h n A.1 A.2.1 from j_cost lk.2.2.2.1 iv)
  refine v_aload_n dL_law_956 rfl ?_
  refine v_arg (kk := 1) lk (Nat.le_of_ble_eq_true rfl) dL_law_957 dL_law_958 dL_law_960 rfl dL_law_961 dL_law_962 ?_
  refine v_cVI (mt := m_law nm) mo_X11_cost ml_RL_118 mi_X11_cost mv_X11_cost rfl kd_0 cl_11 rfl (ltA lk.2.2.2.1 rfl) RO_law lk.2.2.2.2 (Nat.le_of_ble_eq_true rfl) dL_law_963 rfl hS (fun y g hp => ?_)
  refine v_aload_n dL_law_966 rfl ?_
  refine v_arg (kk := 1) lk (Nat.le_of_ble_eq_true rfl) dL_law_967 dL_law_968 dL_law_970 rfl dL_law_971 dL_law_972 ?_
  refine v_cVI (mt := m_law nm) mo_X12_cost ml_RL_121 mi_X12_cost mv_X12_cost rfl kd_68 cl_12 rfl (ltA lk.2.2.2.1 rfl) RO_law lk.2.2.2.2 (Nat.le_of_ble_eq_true rfl) dL_law_973 rfl (hT y g hp) (fun y2 g2 z => ?_)
  obtain ⟨rfl, iv2⟩ := z
  exact v_icmp_eq (tgt := 1781) dL_law_976 (by decide) (fun _ => K g2 iv2) (fun z => absurd rfl z)
theorem lc_gain (lk : LK X Ln xs Z A i) (iv : Inv h n) (K : ∀ g, Inv g n → V X (m_law nm) room_1 Z A 1781 (LL i) [] g) : V X (m_law nm) room_1 Z A 981 (LL i) [] h := by
  obtain ⟨G, hS, hT⟩ := (show Jn X m_X11_gain [.ref 0, .int (xs (i + 1)), .int (xs (i + 2)), .int (xs (i + 3)), .int (xs (i + 4)), .int (xs (i + 5))] m_X12_gain [.ref 68, .int (xs (i + 1)), .int (xs (i + 2)), .int (xs (i + 3)), .int (xs (i + 4)), .int (xs (i + 5))] h n A.1 A.2.1 from j_gain lk.2.2.2.1 iv)
  refine v_aload_n dL_law_981 rfl ?_
  refine v_arg (kk := 1) lk (Nat.le_of_ble_eq_true rfl) dL_law_982 dL_law_983 dL_law_985 rfl dL_law_986 dL_law_987 ?_
  refine v_arg (kk := 2) lk (Nat.le_of_ble_eq_true rfl) dL_law_988 dL_law_989 dL_law_991 rfl dL_law_992 dL_law_993 ?_
  refine v_arg (kk := 3) lk (Nat.le_of_ble_eq_true rfl) dL_law_994 dL_law_995 dL_law_997 rfl dL_law_998 dL_law_999 ?_
  refine v_arg (kk := 4) lk (Nat.le_of_ble_eq_true rfl) dL_law_1000 dL_law_1001 dL_law_1003 rfl dL_law_1004 dL_law_1005 ?_
  refine v_arg (kk := 5) lk (Nat.le_of_ble_eq_true rfl) dL_law_1006 dL_law_1007 dL_law_1009 rfl dL_law_1010 dL_law_1011 ?_
  refine v_cVI (mt := m_law nm) mo_X11_gain ml_RL_122 mi_X11_gain mv_X11_gain rfl kd_0 cl_11 rfl (ltA lk.2.2.2.1 rfl) RO_law lk.2.2.2.2 (Nat.le_of_ble_eq_true rfl) dL_law_1012 rfl hS (fun y g hp => ?_)
  refine v_aload_n dL_law_1015 rfl ?_
  refine v_arg (kk := 1) lk (Nat.le_of_ble_eq_true rfl) dL_law_1016 dL_law_1017 dL_law_1019 rfl dL_law_1020 dL_law_1021 ?_
  refine v_arg (kk := 2) lk (Nat.le_of_ble_eq_true rfl) dL_law_1022 dL_law_1023 dL_law_1025 rfl dL_law_1026 dL_law_1027 ?_
  refine v_arg (kk := 3) lk (Nat.le_of_ble_eq_true rfl) dL_law_1028 dL_law_1029 dL_law_1031 rfl dL_law_1032 dL_law_1033 ?_
  refine v_arg (kk := 4) lk (Nat.le_of_ble_eq_true rfl) dL_law_1034 dL_law_1035 dL_law_1037 rfl dL_law_1038 dL_law_1039 ?_
  refine v_arg (kk := 5) lk (Nat.le_of_ble_eq_true rfl) dL_law_1040 dL_law_1041 dL_law_1043 rfl dL_law_1044 dL_law_1045 ?_
  refine v_cVI (mt := m_law nm) mo_X12_gain ml_RL_125 mi_X12_gain mv_X12_gain rfl kd_68 cl_12 rfl (ltA lk.2.2.2.1 rfl) RO_law lk.2.2.2.2 (Nat.le_of_ble_eq_true rfl) dL_law_1046 rfl (hT y g hp) (fun y2 g2 z => ?_)
  obtain ⟨rfl, iv2⟩ := z
  exact v_icmp_eq (tgt := 1781) dL_law_1049 (by decide) (fun _ => K g2 iv2) (fun z => absurd rfl z)
theorem lc_change (lk : LK X Ln xs Z A i) (iv : Inv h n) (K : ∀ g, Inv g n → V X (m_law nm) room_1 Z A 1781 (LL i) [] g) : V X (m_law nm) room_1 Z A 1054 (LL i) [] h := by
  obtain ⟨G, hS, hT⟩ := (show Jn X m_X11_change [.ref 0, .int (xs (i + 1)), .int (xs (i + 2)), .int (xs (i + 3)), .int (xs (i + 4))] m_X12_change [.ref 68, .int (xs (i + 1)), .int (xs (i + 2)), .int (xs (i + 3)), .int (xs (i + 4))] h n A.1 A.2.1 from j_change lk.2.2.2.1 iv)
  refine v_aload_n dL_law_1054 rfl ?_
  refine v_arg (kk := 1) lk (Nat.le_of_ble_eq_true rfl) dL_law_1055 dL_law_1056 dL_law_1058 rfl dL_law_1059 dL_law_1060 ?_
  refine v_arg (kk := 2) lk (Nat.le_of_ble_eq_true rfl) dL_law_1061 dL_law_1062 dL_law_1064 rfl dL_law_1065 dL_law_1066 ?_
  refine v_arg (kk := 3) lk (Nat.le_of_ble_eq_true rfl) dL_law_1067 dL_law_1068 dL_law_1070 rfl dL_law_1071 dL_law_1072 ?_
  refine v_arg (kk := 4) lk (Nat.le_of_ble_eq_true rfl) dL_law_1073 dL_law_1074 dL_law_1076 rfl dL_law_1077 dL_law_1078 ?_
  refine v_cVI (mt := m_law nm) mo_X11_change ml_RL_126 mi_X11_change mv_X11_change rfl kd_0 cl_11 rfl (ltA lk.2.2.2.1 rfl) RO_law lk.2.2.2.2 (Nat.le_of_ble_eq_true rfl) dL_law_1079 rfl hS (fun y g hp => ?_)
  refine v_aload_n dL_law_1082 rfl ?_
  refine v_arg (kk := 1) lk (Nat.le_of_ble_eq_true rfl) dL_law_1083 dL_law_1084 dL_law_1086 rfl dL_law_1087 dL_law_1088 ?_
  refine v_arg (kk := 2) lk (Nat.le_of_ble_eq_true rfl) dL_law_1089 dL_law_1090 dL_law_1092 rfl dL_law_1093 dL_law_1094 ?_
  refine v_arg (kk := 3) lk (Nat.le_of_ble_eq_true rfl) dL_law_1095 dL_law_1096 dL_law_1098 rfl dL_law_1099 dL_law_1100 ?_
  refine v_arg (kk := 4) lk (Nat.le_of_ble_eq_true rfl) dL_law_1101 dL_law_1102 dL_law_1104 rfl dL_law_1105 dL_law_1106 ?_
  refine v_cVI (mt := m_law nm) mo_X12_change ml_RL_130 mi_X12_change mv_X12_change rfl kd_68 cl_12 rfl (ltA lk.2.2.2.1 rfl) RO_law lk.2.2.2.2 (Nat.le_of_ble_eq_true rfl) dL_law_1107 rfl (hT y g hp) (fun y2 g2 z => ?_)
  obtain ⟨rfl, iv2⟩ := z
  exact v_icmp_eq (tgt := 1781) dL_law_1110 (by decide) (fun _ => K g2 iv2) (fun z => absurd rfl z)
theorem lc_best (lk : LK X Ln xs Z A i) (iv : Inv h n) (K : ∀ g, Inv g n → V X (m_law nm) room_1 Z A 1781 (LL i) [] g) : V X (m_law nm) room_1 Z A 1115 (LL i) [] h := by
  obtain ⟨G, hS, hT⟩ := (show Jn X m_X11_best [.ref 0, .int (xs (i + 1)), .int (xs (i + 2))] m_X12_best [.ref 68, .int (xs (i + 1)), .int (xs (i + 2))] h n A.1 A.2.1 from j_best lk.2.2.2.1 iv)
  refine v_aload_n dL_law_1115 rfl ?_
  refine v_arg (kk := 1) lk (Nat.le_of_ble_eq_true rfl) dL_law_1116 dL_law_1117 dL_law_1119 rfl dL_law_1120 dL_law_1121 ?_
  refine v_arg (kk := 2) lk (Nat.le_of_ble_eq_true rfl) dL_law_1122 dL_law_1123 dL_law_1125 rfl dL_law_1126 dL_law_1127 ?_
  refine v_cVI (mt := m_law nm) mo_X11_best ml_RL_131 mi_X11_best mv_X11_best rfl kd_0 cl_11 rfl (ltA lk.2.2.2.1 rfl) RO_law lk.2.2.2.2 (Nat.le_of_ble_eq_true rfl) dL_law_1128 rfl hS (fun y g hp => ?_)
  refine v_aload_n dL_law_1131 rfl ?_
  refine v_arg (kk := 1) lk (Nat.le_of_ble_eq_true rfl) dL_law_1132 dL_law_1133 dL_law_1135 rfl dL_law_1136 dL_law_1137 ?_
  refine v_arg (kk := 2) lk (Nat.le_of_ble_eq_true rfl) dL_law_1138 dL_law_1139 dL_law_1141 rfl dL_law_1142 dL_law_1143 ?_
  refine v_cVI (mt := m_law nm) mo_X12_best ml_RL_134 mi_X12_best mv_X12_best rfl kd_68 cl_12 rfl (ltA lk.2.2.2.1 rfl) RO_law lk.2.2.2.2 (Nat.le_of_ble_eq_true rfl) dL_law_1144 rfl (hT y g hp) (fun y2 g2 z => ?_)
  obtain ⟨rfl, iv2⟩ := z
  exact v_icmp_eq (tgt := 1781) dL_law_1147 (by decide) (fun _ => K g2 iv2) (fun z => absurd rfl z)
theorem lc_turn (lk : LK X Ln xs Z A i) (iv : Inv h n) (K : ∀ g, Inv g n → V X (m_law nm) room_1 Z A 1781 (LL i) [] g) : V X (m_law nm) room_1 Z A 1152 (LL i) [] h := by
  obtain ⟨G, hS, hT⟩ := (show Jn X m_X11_turn [.ref 0] m_X12_turn [.ref 68] h n A.1 A.2.1 from j_turn lk.2.2.2.1 iv)
  refine v_aload_n dL_law_1152 rfl ?_
  refine v_cVI (mt := m_law nm) mo_X11_turn ml_RL_135 mi_X11_turn mv_X11_turn rfl kd_0 cl_11 rfl (ltA lk.2.2.2.1 rfl) RO_law lk.2.2.2.2 (Nat.le_of_ble_eq_true rfl) dL_law_1153 rfl hS (fun y g hp => ?_)
  refine v_aload_n dL_law_1156 rfl ?_
  refine v_cVI (mt := m_law nm) mo_X12_turn ml_RL_138 mi_X12_turn mv_X12_turn rfl kd_68 cl_12 rfl (ltA lk.2.2.2.1 rfl) RO_law lk.2.2.2.2 (Nat.le_of_ble_eq_true rfl) dL_law_1157 rfl (hT y g hp) (fun y2 g2 z => ?_)
  obtain ⟨rfl, iv2⟩ := z
  exact v_icmp_eq (tgt := 1781) dL_law_1160 (by decide) (fun _ => K g2 iv2) (fun z => absurd rfl z)
theorem lc_stable (lk : LK X Ln xs Z A i) (iv : Inv h n) (K : ∀ g, Inv g n → V X (m_law nm) room_1 Z A 1781 (LL i) [] g) : V X (m_law nm) room_1 Z A 1165 (LL i) [] h := by
  obtain ⟨G, hS, hT⟩ := (show Jn X m_X11_stable [.ref 0] m_X12_stable [.ref 68] h n A.1 A.2.1 from j_stable lk.2.2.2.1 iv)
  refine v_aload_n dL_law_1165 rfl ?_
  refine v_cVI (mt := m_law nm) mo_X11_stable ml_RL_139 mi_X11_stable mv_X11_stable rfl kd_0 cl_11 rfl (ltA lk.2.2.2.1 rfl) RO_law lk.2.2.2.2 (Nat.le_of_ble_eq_true rfl) dL_law_1166 rfl hS (fun y g hp => ?_)
  refine v_aload_n dL_law_1169 rfl ?_
  refine v_cVI (mt := m_law nm) mo_X12_stable ml_RL_143 mi_X12_stable mv_X12_stable rfl kd_68 cl_12 rfl (ltA lk.2.2.2.1 rfl) RO_law lk.2.2.2.2 (Nat.le_of_ble_eq_true rfl) dL_law_1170 rfl (hT y g hp) (fun y2 g2 z => ?_)
  obtain ⟨rfl, iv2⟩ := z
  exact v_icmp_eq (tgt := 1781) dL_law_1173 (by decide) (fun _ => K g2 iv2) (fun z => absurd rfl z)
theorem lc_send (lk : LK X Ln xs Z A i) (iv : Inv h n) (K : ∀ g, Inv g n → V X (m_law nm) room_1 Z A 1781 (LL i) [] g) : V X (m_law nm) room_1 Z A 1178 (LL i) [] h := by
  obtain ⟨G, hS, hT⟩ := (show Jn X m_X11_send [.ref 0, .int (xs (i + 1)), .int (xs (i + 2)), .int (xs (i + 3)), .int (xs (i + 4))] m_X12_send [.ref 68, .int (xs (i + 1)), .int (xs (i + 2)), .int (xs (i + 3)), .int (xs (i + 4))] h n A.1 A.2.1 from j_send lk.2.2.2.1 iv)
  refine v_aload_n dL_law_1178 rfl ?_
  refine v_arg (kk := 1) lk (Nat.le_of_ble_eq_true rfl) dL_law_1179 dL_law_1180 dL_law_1182 rfl dL_law_1183 dL_law_1184 ?_
  refine v_arg (kk := 2) lk (Nat.le_of_ble_eq_true rfl) dL_law_1185 dL_law_1186 dL_law_1188 rfl dL_law_1189 dL_law_1190 ?_
  refine v_arg (kk := 3) lk (Nat.le_of_ble_eq_true rfl) dL_law_1191 dL_law_1192 dL_law_1194 rfl dL_law_1195 dL_law_1196 ?_
  refine v_arg (kk := 4) lk (Nat.le_of_ble_eq_true rfl) dL_law_1197 dL_law_1198 dL_law_1200 rfl dL_law_1201 dL_law_1202 ?_
  refine v_cVI (mt := m_law nm) mo_X11_send ml_RL_144 mi_X11_send mv_X11_send rfl kd_0 cl_11 rfl (ltA lk.2.2.2.1 rfl) RO_law lk.2.2.2.2 (Nat.le_of_ble_eq_true rfl) dL_law_1203 rfl hS (fun y g hp => ?_)
  refine v_aload_n dL_law_1206 rfl ?_
  refine v_arg (kk := 1) lk (Nat.le_of_ble_eq_true rfl) dL_law_1207 dL_law_1208 dL_law_1210 rfl dL_law_1211 dL_law_1212 ?_
  refine v_arg (kk := 2) lk (Nat.le_of_ble_eq_true rfl) dL_law_1213 dL_law_1214 dL_law_1216 rfl dL_law_1217 dL_law_1218 ?_
  refine v_arg (kk := 3) lk (Nat.le_of_ble_eq_true rfl) dL_law_1219 dL_law_1220 dL_law_1222 rfl dL_law_1223 dL_law_1224 ?_
  refine v_arg (kk := 4) lk (Nat.le_of_ble_eq_true rfl) dL_law_1225 dL_law_1226 dL_law_1228 rfl dL_law_1229 dL_law_1230 ?_
  refine v_cVI (mt := m_law nm) mo_X12_send ml_RL_148 mi_X12_send mv_X12_send rfl kd_68 cl_12 rfl (ltA lk.2.2.2.1 rfl) RO_law lk.2.2.2.2 (Nat.le_of_ble_eq_true rfl) dL_law_1231 rfl (hT y g hp) (fun y2 g2 z => ?_)
  obtain ⟨rfl, iv2⟩ := z
  exact v_icmp_eq (tgt := 1781) dL_law_1234 (by decide) (fun _ => K g2 iv2) (fun z => absurd rfl z)
theorem lc_comes (lk : LK X Ln xs Z A i) (iv : Inv h n) (K : ∀ g, Inv g n → V X (m_law nm) room_1 Z A 1781 (LL i) [] g) : V X (m_law nm) room_1 Z A 1239 (LL i) [] h := by
  obtain ⟨G, hS, hT⟩ := (show Jn X m_X11_comes [.ref 0, .int (xs (i + 1)), .int (xs (i + 2))] m_X12_comes [.ref 68, .int (xs (i + 1)), .int (xs (i + 2))] h n A.1 A.2.1 from j_comes lk.2.2.2.1 iv)
  refine v_aload_n dL_law_1239 rfl ?_
  refine v_arg (kk := 1) lk (Nat.le_of_ble_eq_true rfl) dL_law_1240 dL_law_1241 dL_law_1243 rfl dL_law_1244 dL_law_1245 ?_
  refine v_arg (kk := 2) lk (Nat.le_of_ble_eq_true rfl) dL_law_1246 dL_law_1247 dL_law_1249 rfl dL_law_1250 dL_law_1251 ?_
  refine v_cVI (mt := m_law nm) mo_X11_comes ml_RL_149 mi_X11_comes mv_X11_comes rfl kd_0 cl_11 rfl (ltA lk.2.2.2.1 rfl) RO_law lk.2.2.2.2 (Nat.le_of_ble_eq_true rfl) dL_law_1252 rfl hS (fun y g hp => ?_)
  refine v_aload_n dL_law_1255 rfl ?_
  refine v_arg (kk := 1) lk (Nat.le_of_ble_eq_true rfl) dL_law_1256 dL_law_1257 dL_law_1259 rfl dL_law_1260 dL_law_1261 ?_
  refine v_arg (kk := 2) lk (Nat.le_of_ble_eq_true rfl) dL_law_1262 dL_law_1263 dL_law_1265 rfl dL_law_1266 dL_law_1267 ?_
  refine v_cVI (mt := m_law nm) mo_X12_comes ml_RL_152 mi_X12_comes mv_X12_comes rfl kd_68 cl_12 rfl (ltA lk.2.2.2.1 rfl) RO_law lk.2.2.2.2 (Nat.le_of_ble_eq_true rfl) dL_law_1268 rfl (hT y g hp) (fun y2 g2 z => ?_)
  obtain ⟨rfl, iv2⟩ := z
  exact v_icmp_eq (tgt := 1781) dL_law_1271 (by decide) (fun _ => K g2 iv2) (fun z => absurd rfl z)
theorem lc_years (lk : LK X Ln xs Z A i) (iv : Inv h n) (K : ∀ g, Inv g n → V X (m_law nm) room_1 Z A 1781 (LL i) [] g) : V X (m_law nm) room_1 Z A 1276 (LL i) [] h := by
  obtain ⟨G, hS, hT⟩ := j_years (x1 := xs (i + 1)) (x2 := xs (i + 2)) (x3 := xs (i + 3)) (j4 := ((xs (i + 4)).toInt64 <<< ((32 : Int32).toInt64 &&& 63)) ||| ((xs (i + 5)).toInt64 &&& 4294967295)) (X := X) (nx := A.1) (sz := A.2.1) lk.2.2.2.1 iv
  refine v_aload_n dL_law_1276 rfl ?_
  refine v_arg (kk := 1) lk (Nat.le_of_ble_eq_true rfl) dL_law_1277 dL_law_1278 dL_law_1280 rfl dL_law_1281 dL_law_1282 ?_
  refine v_arg (kk := 2) lk (Nat.le_of_ble_eq_true rfl) dL_law_1283 dL_law_1284 dL_law_1286 rfl dL_law_1287 dL_law_1288 ?_
  refine v_arg (kk := 3) lk (Nat.le_of_ble_eq_true rfl) dL_law_1289 dL_law_1290 dL_law_1292 rfl dL_law_1293 dL_law_1294 ?_
  refine v_arg (kk := 4) lk (Nat.le_of_ble_eq_true rfl) dL_law_1295 dL_law_1296 dL_law_1298 rfl dL_law_1299 dL_law_1300 ?_
  refine v_i2l dL_law_1301 ?_
  refine v_bipush (x := 32) dL_law_1302 (by decide) ?_
  refine v_lshl dL_law_1304 ?_
  refine v_arg (kk := 5) lk (Nat.le_of_ble_eq_true rfl) dL_law_1305 dL_law_1306 dL_law_1308 rfl dL_law_1309 dL_law_1310 ?_
  refine v_i2l dL_law_1311 ?_
  refine v_ldc2 (x := 4294967295) dL_law_1312 cl_153 ?_
  refine v_land dL_law_1315 ?_
  refine v_lor dL_law_1316 ?_
  refine v_cVI (mt := m_law nm) mo_X11_years ml_RL_155 mi_X11_years mv_X11_years rfl kd_0 cl_11 rfl (ltA lk.2.2.2.1 rfl) RO_law lk.2.2.2.2 (Nat.le_of_ble_eq_true rfl) dL_law_1317 rfl hS (fun y g hp => ?_)
  refine v_aload_n dL_law_1320 rfl ?_
  refine v_arg (kk := 1) lk (Nat.le_of_ble_eq_true rfl) dL_law_1321 dL_law_1322 dL_law_1324 rfl dL_law_1325 dL_law_1326 ?_
  refine v_arg (kk := 2) lk (Nat.le_of_ble_eq_true rfl) dL_law_1327 dL_law_1328 dL_law_1330 rfl dL_law_1331 dL_law_1332 ?_
  refine v_arg (kk := 3) lk (Nat.le_of_ble_eq_true rfl) dL_law_1333 dL_law_1334 dL_law_1336 rfl dL_law_1337 dL_law_1338 ?_
  refine v_arg (kk := 4) lk (Nat.le_of_ble_eq_true rfl) dL_law_1339 dL_law_1340 dL_law_1342 rfl dL_law_1343 dL_law_1344 ?_
  refine v_i2l dL_law_1345 ?_
  refine v_bipush (x := 32) dL_law_1346 (by decide) ?_
  refine v_lshl dL_law_1348 ?_
  refine v_arg (kk := 5) lk (Nat.le_of_ble_eq_true rfl) dL_law_1349 dL_law_1350 dL_law_1352 rfl dL_law_1353 dL_law_1354 ?_
  refine v_i2l dL_law_1355 ?_
  refine v_ldc2 (x := 4294967295) dL_law_1356 cl_153 ?_
  refine v_land dL_law_1359 ?_
  refine v_lor dL_law_1360 ?_
  refine v_cVI (mt := m_law nm) mo_X12_years ml_RL_159 mi_X12_years mv_X12_years rfl kd_68 cl_12 rfl (ltA lk.2.2.2.1 rfl) RO_law lk.2.2.2.2 (Nat.le_of_ble_eq_true rfl) dL_law_1361 rfl (hT y g hp) (fun y2 g2 z => ?_)
  obtain ⟨rfl, iv2⟩ := z
  exact v_icmp_eq (tgt := 1781) dL_law_1364 (by decide) (fun _ => K g2 iv2) (fun z => absurd rfl z)
theorem lc_ring (lk : LK X Ln xs Z A i) (iv : Inv h n) (K : ∀ g, Inv g n → V X (m_law nm) room_1 Z A 1781 (LL i) [] g) : V X (m_law nm) room_1 Z A 1369 (LL i) [] h := by
  obtain ⟨G, hS, hT⟩ := (show Jn X m_X11_ring [.ref 0, .int (xs (i + 1))] m_X12_ring [.ref 68, .int (xs (i + 1))] h n A.1 A.2.1 from j_ring lk.2.2.2.1 iv)
  refine v_aload_n dL_law_1369 rfl ?_
  refine v_arg (kk := 1) lk (Nat.le_of_ble_eq_true rfl) dL_law_1370 dL_law_1371 dL_law_1373 rfl dL_law_1374 dL_law_1375 ?_
  refine v_cVI (mt := m_law nm) mo_X11_ring ml_RL_160 mi_X11_ring mv_X11_ring rfl kd_0 cl_11 rfl (ltA lk.2.2.2.1 rfl) RO_law lk.2.2.2.2 (Nat.le_of_ble_eq_true rfl) dL_law_1376 rfl hS (fun y g hp => ?_)
  refine v_aload_n dL_law_1379 rfl ?_
  refine v_arg (kk := 1) lk (Nat.le_of_ble_eq_true rfl) dL_law_1380 dL_law_1381 dL_law_1383 rfl dL_law_1384 dL_law_1385 ?_
  refine v_cVI (mt := m_law nm) mo_X12_ring ml_RL_163 mi_X12_ring mv_X12_ring rfl kd_68 cl_12 rfl (ltA lk.2.2.2.1 rfl) RO_law lk.2.2.2.2 (Nat.le_of_ble_eq_true rfl) dL_law_1386 rfl (hT y g hp) (fun y2 g2 z => ?_)
  obtain ⟨rfl, iv2⟩ := z
  exact v_icmp_eq (tgt := 1781) dL_law_1389 (by decide) (fun _ => K g2 iv2) (fun z => absurd rfl z)
theorem lc_fine (lk : LK X Ln xs Z A i) (iv : Inv h n) (K : ∀ g, Inv g n → V X (m_law nm) room_1 Z A 1781 (LL i) [] g) : V X (m_law nm) room_1 Z A 1394 (LL i) [] h := by
  obtain ⟨G, hS, hT⟩ := (show Jn X m_X11_fine [.ref 0, .int (xs (i + 1)), .int (xs (i + 2))] m_X12_fine [.ref 68, .int (xs (i + 1)), .int (xs (i + 2))] h n A.1 A.2.1 from j_fine lk.2.2.2.1 iv)
  refine v_aload_n dL_law_1394 rfl ?_
  refine v_arg (kk := 1) lk (Nat.le_of_ble_eq_true rfl) dL_law_1395 dL_law_1396 dL_law_1398 rfl dL_law_1399 dL_law_1400 ?_
  refine v_arg (kk := 2) lk (Nat.le_of_ble_eq_true rfl) dL_law_1401 dL_law_1402 dL_law_1404 rfl dL_law_1405 dL_law_1406 ?_
  refine v_cVI (mt := m_law nm) mo_X11_fine ml_RL_164 mi_X11_fine mv_X11_fine rfl kd_0 cl_11 rfl (ltA lk.2.2.2.1 rfl) RO_law lk.2.2.2.2 (Nat.le_of_ble_eq_true rfl) dL_law_1407 rfl hS (fun y g hp => ?_)
  refine v_aload_n dL_law_1410 rfl ?_
  refine v_arg (kk := 1) lk (Nat.le_of_ble_eq_true rfl) dL_law_1411 dL_law_1412 dL_law_1414 rfl dL_law_1415 dL_law_1416 ?_
  refine v_arg (kk := 2) lk (Nat.le_of_ble_eq_true rfl) dL_law_1417 dL_law_1418 dL_law_1420 rfl dL_law_1421 dL_law_1422 ?_
  refine v_cVI (mt := m_law nm) mo_X12_fine ml_RL_167 mi_X12_fine mv_X12_fine rfl kd_68 cl_12 rfl (ltA lk.2.2.2.1 rfl) RO_law lk.2.2.2.2 (Nat.le_of_ble_eq_true rfl) dL_law_1423 rfl (hT y g hp) (fun y2 g2 z => ?_)
  obtain ⟨rfl, iv2⟩ := z
  exact v_icmp_eq (tgt := 1781) dL_law_1426 (by decide) (fun _ => K g2 iv2) (fun z => absurd rfl z)
theorem lc_bound (lk : LK X Ln xs Z A i) (iv : Inv h n) (K : ∀ g, Inv g n → V X (m_law nm) room_1 Z A 1781 (LL i) [] g) : V X (m_law nm) room_1 Z A 1431 (LL i) [] h := by
  obtain ⟨G, hS, hT⟩ := (show Jn X m_X11_bound [.ref 0, .int (xs (i + 1))] m_X12_bound [.ref 68, .int (xs (i + 1))] h n A.1 A.2.1 from j_bound lk.2.2.2.1 iv)
  refine v_aload_n dL_law_1431 rfl ?_
  refine v_arg (kk := 1) lk (Nat.le_of_ble_eq_true rfl) dL_law_1432 dL_law_1433 dL_law_1435 rfl dL_law_1436 dL_law_1437 ?_
  refine v_cVI (mt := m_law nm) mo_X11_bound ml_RL_168 mi_X11_bound mv_X11_bound rfl kd_0 cl_11 rfl (ltA lk.2.2.2.1 rfl) RO_law lk.2.2.2.2 (Nat.le_of_ble_eq_true rfl) dL_law_1438 rfl hS (fun y g hp => ?_)
  refine v_aload_n dL_law_1441 rfl ?_
  refine v_arg (kk := 1) lk (Nat.le_of_ble_eq_true rfl) dL_law_1442 dL_law_1443 dL_law_1445 rfl dL_law_1446 dL_law_1447 ?_
  refine v_cVI (mt := m_law nm) mo_X12_bound ml_RL_171 mi_X12_bound mv_X12_bound rfl kd_68 cl_12 rfl (ltA lk.2.2.2.1 rfl) RO_law lk.2.2.2.2 (Nat.le_of_ble_eq_true rfl) dL_law_1448 rfl (hT y g hp) (fun y2 g2 z => ?_)
  obtain ⟨rfl, iv2⟩ := z
  exact v_icmp_eq (tgt := 1781) dL_law_1451 (by decide) (fun _ => K g2 iv2) (fun z => absurd rfl z)
theorem lc_image (lk : LK X Ln xs Z A i) (iv : Inv h n) (K : ∀ g, Inv g n → V X (m_law nm) room_1 Z A 1781 (LL i) [] g) : V X (m_law nm) room_1 Z A 1456 (LL i) [] h := by
  obtain ⟨G, hS, hT⟩ := (show Jn X m_X11_image [.ref 0] m_X12_image [.ref 68] h n A.1 A.2.1 from j_image lk.2.2.2.1 iv)
  refine v_aload_n dL_law_1456 rfl ?_
  refine v_cVI (mt := m_law nm) mo_X11_image ml_RL_172 mi_X11_image mv_X11_image rfl kd_0 cl_11 rfl (ltA lk.2.2.2.1 rfl) RO_law lk.2.2.2.2 (Nat.le_of_ble_eq_true rfl) dL_law_1457 rfl hS (fun y g hp => ?_)
  refine v_aload_n dL_law_1460 rfl ?_
  refine v_cVI (mt := m_law nm) mo_X12_image ml_RL_175 mi_X12_image mv_X12_image rfl kd_68 cl_12 rfl (ltA lk.2.2.2.1 rfl) RO_law lk.2.2.2.2 (Nat.le_of_ble_eq_true rfl) dL_law_1461 rfl (hT y g hp) (fun y2 g2 z => ?_)
  obtain ⟨rfl, iv2⟩ := z
  exact v_icmp_eq (tgt := 1781) dL_law_1464 (by decide) (fun _ => K g2 iv2) (fun z => absurd rfl z)
theorem lc_back (lk : LK X Ln xs Z A i) (iv : Inv h n) (K : ∀ g, Inv g n → V X (m_law nm) room_1 Z A 1781 (LL i) [] g) : V X (m_law nm) room_1 Z A 1469 (LL i) [] h := by
  obtain ⟨G, hS, hT⟩ := (show Jn X m_X11_back [.ref 0] m_X12_back [.ref 68] h n A.1 A.2.1 from j_back lk.2.2.2.1 iv)
  refine v_aload_n dL_law_1469 rfl ?_
  refine v_cVI (mt := m_law nm) mo_X11_back ml_RL_176 mi_X11_back mv_X11_back rfl kd_0 cl_11 rfl (ltA lk.2.2.2.1 rfl) RO_law lk.2.2.2.2 (Nat.le_of_ble_eq_true rfl) dL_law_1470 rfl hS (fun y g hp => ?_)
  refine v_aload_n dL_law_1473 rfl ?_
  refine v_cVI (mt := m_law nm) mo_X12_back ml_RL_179 mi_X12_back mv_X12_back rfl kd_68 cl_12 rfl (ltA lk.2.2.2.1 rfl) RO_law lk.2.2.2.2 (Nat.le_of_ble_eq_true rfl) dL_law_1474 rfl (hT y g hp) (fun y2 g2 z => ?_)
  obtain ⟨rfl, iv2⟩ := z
  exact v_icmp_eq (tgt := 1781) dL_law_1477 (by decide) (fun _ => K g2 iv2) (fun z => absurd rfl z)
theorem lc_set (hX : nX X = n) (lk : LK X Ln xs Z A i) (iv : Inv h n) (K : ∀ g, Inv g n → V X (m_law nm) room_1 Z A 1781 (LL i) [] g) : V X (m_law nm) room_1 Z A 1482 (LL i) [] h := by
  obtain ⟨G, hS, hT⟩ := (show Jn X m_X11_set [.ref 0, .int (xs (i + 1))] m_X12_set [.ref 68, .int (xs (i + 1))] h n A.1 A.2.1 from j_set hX lk.2.2.2.1 iv)
  refine v_aload_n dL_law_1482 rfl ?_
  refine v_arg (kk := 1) lk (Nat.le_of_ble_eq_true rfl) dL_law_1483 dL_law_1484 dL_law_1486 rfl dL_law_1487 dL_law_1488 ?_
  refine v_cVI (mt := m_law nm) mo_X11_set ml_RL_180 mi_X11_set mv_X11_set rfl kd_0 cl_11 rfl (ltA lk.2.2.2.1 rfl) RO_law lk.2.2.2.2 (Nat.le_of_ble_eq_true rfl) dL_law_1489 rfl hS (fun y g hp => ?_)
  refine v_aload_n dL_law_1492 rfl ?_
  refine v_arg (kk := 1) lk (Nat.le_of_ble_eq_true rfl) dL_law_1493 dL_law_1494 dL_law_1496 rfl dL_law_1497 dL_law_1498 ?_
  refine v_cVI (mt := m_law nm) mo_X12_set ml_RL_183 mi_X12_set mv_X12_set rfl kd_68 cl_12 rfl (ltA lk.2.2.2.1 rfl) RO_law lk.2.2.2.2 (Nat.le_of_ble_eq_true rfl) dL_law_1499 rfl (hT y g hp) (fun y2 g2 z => ?_)
  obtain ⟨rfl, iv2⟩ := z
  exact v_icmp_eq (tgt := 1781) dL_law_1502 (by decide) (fun _ => K g2 iv2) (fun z => absurd rfl z)
theorem lc_word (lk : LK X Ln xs Z A i) (iv : Inv h n) (K : ∀ g, Inv g n → V X (m_law nm) room_1 Z A 1781 (LL i) [] g) : V X (m_law nm) room_1 Z A 1507 (LL i) [] h := by
  obtain ⟨G, hS, hT⟩ := (show Jn X m_X11_word [.ref 0, .int (xs (i + 1)), .int (xs (i + 2))] m_X12_word [.ref 68, .int (xs (i + 1)), .int (xs (i + 2))] h n A.1 A.2.1 from j_word lk.2.2.2.1 iv)
  refine v_aload_n dL_law_1507 rfl ?_
  refine v_arg (kk := 1) lk (Nat.le_of_ble_eq_true rfl) dL_law_1508 dL_law_1509 dL_law_1511 rfl dL_law_1512 dL_law_1513 ?_
  refine v_arg (kk := 2) lk (Nat.le_of_ble_eq_true rfl) dL_law_1514 dL_law_1515 dL_law_1517 rfl dL_law_1518 dL_law_1519 ?_
  refine v_cVI (mt := m_law nm) mo_X11_word ml_RL_184 mi_X11_word mv_X11_word rfl kd_0 cl_11 rfl (ltA lk.2.2.2.1 rfl) RO_law lk.2.2.2.2 (Nat.le_of_ble_eq_true rfl) dL_law_1520 rfl hS (fun y g hp => ?_)
  refine v_aload_n dL_law_1523 rfl ?_
  refine v_arg (kk := 1) lk (Nat.le_of_ble_eq_true rfl) dL_law_1524 dL_law_1525 dL_law_1527 rfl dL_law_1528 dL_law_1529 ?_
  refine v_arg (kk := 2) lk (Nat.le_of_ble_eq_true rfl) dL_law_1530 dL_law_1531 dL_law_1533 rfl dL_law_1534 dL_law_1535 ?_
  refine v_cVI (mt := m_law nm) mo_X12_word ml_RL_187 mi_X12_word mv_X12_word rfl kd_68 cl_12 rfl (ltA lk.2.2.2.1 rfl) RO_law lk.2.2.2.2 (Nat.le_of_ble_eq_true rfl) dL_law_1536 rfl (hT y g hp) (fun y2 g2 z => ?_)
  obtain ⟨rfl, iv2⟩ := z
  exact v_icmp_eq (tgt := 1781) dL_law_1539 (by decide) (fun _ => K g2 iv2) (fun z => absurd rfl z)
theorem lc_out (lk : LK X Ln xs Z A i) (iv : Inv h n) (K : ∀ g, Inv g n → V X (m_law nm) room_1 Z A 1781 (LL i) [] g) : V X (m_law nm) room_1 Z A 1544 (LL i) [] h := by
  obtain ⟨G, hS, hT⟩ := (show Jn X m_X11_out [.ref 0, .int (xs (i + 1))] m_X12_out [.ref 68, .int (xs (i + 1))] h n A.1 A.2.1 from j_out lk.2.2.2.1 iv)
  refine v_aload_n dL_law_1544 rfl ?_
  refine v_arg (kk := 1) lk (Nat.le_of_ble_eq_true rfl) dL_law_1545 dL_law_1546 dL_law_1548 rfl dL_law_1549 dL_law_1550 ?_
  refine v_cVI (mt := m_law nm) mo_X11_out ml_RL_188 mi_X11_out mv_X11_out rfl kd_0 cl_11 rfl (ltA lk.2.2.2.1 rfl) RO_law lk.2.2.2.2 (Nat.le_of_ble_eq_true rfl) dL_law_1551 rfl hS (fun y g hp => ?_)
  refine v_aload_n dL_law_1554 rfl ?_
  refine v_arg (kk := 1) lk (Nat.le_of_ble_eq_true rfl) dL_law_1555 dL_law_1556 dL_law_1558 rfl dL_law_1559 dL_law_1560 ?_
  refine v_cVI (mt := m_law nm) mo_X12_out ml_RL_191 mi_X12_out mv_X12_out rfl kd_68 cl_12 rfl (ltA lk.2.2.2.1 rfl) RO_law lk.2.2.2.2 (Nat.le_of_ble_eq_true rfl) dL_law_1561 rfl (hT y g hp) (fun y2 g2 z => ?_)
  obtain ⟨rfl, iv2⟩ := z
  exact v_icmp_eq (tgt := 1781) dL_law_1564 (by decide) (fun _ => K g2 iv2) (fun z => absurd rfl z)
theorem lc_begin (lk : LK X Ln xs Z A i) (iv : Inv h n) (K : ∀ g, Inv g n → V X (m_law nm) room_1 Z A 1781 (LL i) [] g) : V X (m_law nm) room_1 Z A 1569 (LL i) [] h := by
  obtain ⟨G, hS, hT⟩ := (show Jn X m_X11_begin [.ref 0, .int (xs (i + 1))] m_X12_begin [.ref 68, .int (xs (i + 1))] h n A.1 A.2.1 from j_begin lk.2.2.2.1 iv)
  refine v_aload_n dL_law_1569 rfl ?_
  refine v_arg (kk := 1) lk (Nat.le_of_ble_eq_true rfl) dL_law_1570 dL_law_1571 dL_law_1573 rfl dL_law_1574 dL_law_1575 ?_
  refine v_cVI (mt := m_law nm) mo_X11_begin ml_RL_192 mi_X11_begin mv_X11_begin rfl kd_0 cl_11 rfl (ltA lk.2.2.2.1 rfl) RO_law lk.2.2.2.2 (Nat.le_of_ble_eq_true rfl) dL_law_1576 rfl hS (fun y g hp => ?_)
  refine v_aload_n dL_law_1579 rfl ?_
  refine v_arg (kk := 1) lk (Nat.le_of_ble_eq_true rfl) dL_law_1580 dL_law_1581 dL_law_1583 rfl dL_law_1584 dL_law_1585 ?_
  refine v_cVI (mt := m_law nm) mo_X12_begin ml_RL_195 mi_X12_begin mv_X12_begin rfl kd_68 cl_12 rfl (ltA lk.2.2.2.1 rfl) RO_law lk.2.2.2.2 (Nat.le_of_ble_eq_true rfl) dL_law_1586 rfl (hT y g hp) (fun y2 g2 z => ?_)
  obtain ⟨rfl, iv2⟩ := z
  exact v_icmp_eq (tgt := 1781) dL_law_1589 (by decide) (fun _ => K g2 iv2) (fun z => absurd rfl z)
theorem lc_common (lk : LK X Ln xs Z A i) (iv : Inv h n) (K : ∀ g, Inv g n → V X (m_law nm) room_1 Z A 1781 (LL i) [] g) : V X (m_law nm) room_1 Z A 1594 (LL i) [] h := by
  obtain ⟨G, hS, hT⟩ := (show Jn X m_X11_common [.ref 0, .int (xs (i + 1)), .int (xs (i + 2))] m_X12_common [.ref 68, .int (xs (i + 1)), .int (xs (i + 2))] h n A.1 A.2.1 from j_common lk.2.2.2.1 iv)
  refine v_aload_n dL_law_1594 rfl ?_
  refine v_arg (kk := 1) lk (Nat.le_of_ble_eq_true rfl) dL_law_1595 dL_law_1596 dL_law_1598 rfl dL_law_1599 dL_law_1600 ?_
  refine v_arg (kk := 2) lk (Nat.le_of_ble_eq_true rfl) dL_law_1601 dL_law_1602 dL_law_1604 rfl dL_law_1605 dL_law_1606 ?_
  refine v_cVI (mt := m_law nm) mo_X11_common ml_RL_196 mi_X11_common mv_X11_common rfl kd_0 cl_11 rfl (ltA lk.2.2.2.1 rfl) RO_law lk.2.2.2.2 (Nat.le_of_ble_eq_true rfl) dL_law_1607 rfl hS (fun y g hp => ?_)
  refine v_aload_n dL_law_1610 rfl ?_
  refine v_arg (kk := 1) lk (Nat.le_of_ble_eq_true rfl) dL_law_1611 dL_law_1612 dL_law_1614 rfl dL_law_1615 dL_law_1616 ?_
  refine v_arg (kk := 2) lk (Nat.le_of_ble_eq_true rfl) dL_law_1617 dL_law_1618 dL_law_1620 rfl dL_law_1621 dL_law_1622 ?_
  refine v_cVI (mt := m_law nm) mo_X12_common ml_RL_199 mi_X12_common mv_X12_common rfl kd_68 cl_12 rfl (ltA lk.2.2.2.1 rfl) RO_law lk.2.2.2.2 (Nat.le_of_ble_eq_true rfl) dL_law_1623 rfl (hT y g hp) (fun y2 g2 z => ?_)
  obtain ⟨rfl, iv2⟩ := z
  exact v_icmp_eq (tgt := 1781) dL_law_1626 (by decide) (fun _ => K g2 iv2) (fun z => absurd rfl z)
theorem lc_likely (lk : LK X Ln xs Z A i) (iv : Inv h n) (K : ∀ g, Inv g n → V X (m_law nm) room_1 Z A 1781 (LL i) [] g) : V X (m_law nm) room_1 Z A 1631 (LL i) [] h := by
  obtain ⟨G, hS, hT⟩ := (show Jn X m_X11_likely [.ref 0] m_X12_likely [.ref 68] h n A.1 A.2.1 from j_likely lk.2.2.2.1 iv)
  refine v_aload_n dL_law_1631 rfl ?_
  refine v_cVI (mt := m_law nm) mo_X11_likely ml_RL_200 mi_X11_likely mv_X11_likely rfl kd_0 cl_11 rfl (ltA lk.2.2.2.1 rfl) RO_law lk.2.2.2.2 (Nat.le_of_ble_eq_true rfl) dL_law_1632 rfl hS (fun y g hp => ?_)
  refine v_aload_n dL_law_1635 rfl ?_
  refine v_cVI (mt := m_law nm) mo_X12_likely ml_RL_203 mi_X12_likely mv_X12_likely rfl kd_68 cl_12 rfl (ltA lk.2.2.2.1 rfl) RO_law lk.2.2.2.2 (Nat.le_of_ble_eq_true rfl) dL_law_1636 rfl (hT y g hp) (fun y2 g2 z => ?_)
  obtain ⟨rfl, iv2⟩ := z
  exact v_icmp_eq (tgt := 1781) dL_law_1639 (by decide) (fun _ => K g2 iv2) (fun z => absurd rfl z)
theorem lc_threes (lk : LK X Ln xs Z A i) (iv : Inv h n) (K : ∀ g, Inv g n → V X (m_law nm) room_1 Z A 1781 (LL i) [] g) : V X (m_law nm) room_1 Z A 1644 (LL i) [] h := by
  obtain ⟨G, hS, hT⟩ := (show Jn X m_X11_threes [.ref 0, .int (xs (i + 1))] m_X12_threes [.ref 68, .int (xs (i + 1))] h n A.1 A.2.1 from j_threes lk.2.2.2.1 iv)
  refine v_aload_n dL_law_1644 rfl ?_
  refine v_arg (kk := 1) lk (Nat.le_of_ble_eq_true rfl) dL_law_1645 dL_law_1646 dL_law_1648 rfl dL_law_1649 dL_law_1650 ?_
  refine v_cVI (mt := m_law nm) mo_X11_threes ml_RL_204 mi_X11_threes mv_X11_threes rfl kd_0 cl_11 rfl (ltA lk.2.2.2.1 rfl) RO_law lk.2.2.2.2 (Nat.le_of_ble_eq_true rfl) dL_law_1651 rfl hS (fun y g hp => ?_)
  refine v_aload_n dL_law_1654 rfl ?_
  refine v_arg (kk := 1) lk (Nat.le_of_ble_eq_true rfl) dL_law_1655 dL_law_1656 dL_law_1658 rfl dL_law_1659 dL_law_1660 ?_
  refine v_cVI (mt := m_law nm) mo_X12_threes ml_RL_207 mi_X12_threes mv_X12_threes rfl kd_68 cl_12 rfl (ltA lk.2.2.2.1 rfl) RO_law lk.2.2.2.2 (Nat.le_of_ble_eq_true rfl) dL_law_1661 rfl (hT y g hp) (fun y2 g2 z => ?_)
  obtain ⟨rfl, iv2⟩ := z
  exact v_icmp_eq (tgt := 1781) dL_law_1664 (by decide) (fun _ => K g2 iv2) (fun z => absurd rfl z)
theorem lc_courier (lk : LK X Ln xs Z A i) (iv : Inv h n) (K : ∀ g, Inv g n → V X (m_law nm) room_1 Z A 1781 (LL i) [] g) : V X (m_law nm) room_1 Z A 1669 (LL i) [] h := by
  obtain ⟨G, hS, hT⟩ := (show Jn X m_X11_courier [.ref 0, .int (xs (i + 1))] m_X12_courier [.ref 68, .int (xs (i + 1))] h n A.1 A.2.1 from j_courier lk.2.2.2.1 iv)
  refine v_aload_n dL_law_1669 rfl ?_
  refine v_arg (kk := 1) lk (Nat.le_of_ble_eq_true rfl) dL_law_1670 dL_law_1671 dL_law_1673 rfl dL_law_1674 dL_law_1675 ?_
  refine v_cVI (mt := m_law nm) mo_X11_courier ml_RL_208 mi_X11_courier mv_X11_courier rfl kd_0 cl_11 rfl (ltA lk.2.2.2.1 rfl) RO_law lk.2.2.2.2 (Nat.le_of_ble_eq_true rfl) dL_law_1676 rfl hS (fun y g hp => ?_)
  refine v_aload_n dL_law_1679 rfl ?_
  refine v_arg (kk := 1) lk (Nat.le_of_ble_eq_true rfl) dL_law_1680 dL_law_1681 dL_law_1683 rfl dL_law_1684 dL_law_1685 ?_
  refine v_cVI (mt := m_law nm) mo_X12_courier ml_RL_211 mi_X12_courier mv_X12_courier rfl kd_68 cl_12 rfl (ltA lk.2.2.2.1 rfl) RO_law lk.2.2.2.2 (Nat.le_of_ble_eq_true rfl) dL_law_1686 rfl (hT y g hp) (fun y2 g2 z => ?_)
  obtain ⟨rfl, iv2⟩ := z
  exact v_icmp_eq (tgt := 1781) dL_law_1689 (by decide) (fun _ => K g2 iv2) (fun z => absurd rfl z)
theorem lc_loss (lk : LK X Ln xs Z A i) (iv : Inv h n) (K : ∀ g, Inv g n → V X (m_law nm) room_1 Z A 1781 (LL i) [] g) : V X (m_law nm) room_1 Z A 1694 (LL i) [] h := by
  obtain ⟨G, hS, hT⟩ := (show Jn X m_X11_loss [.ref 0, .int (xs (i + 1)), .int (xs (i + 2))] m_X12_loss [.ref 68, .int (xs (i + 1)), .int (xs (i + 2))] h n A.1 A.2.1 from j_loss lk.2.2.2.1 iv)
  refine v_aload_n dL_law_1694 rfl ?_
  refine v_arg (kk := 1) lk (Nat.le_of_ble_eq_true rfl) dL_law_1695 dL_law_1696 dL_law_1698 rfl dL_law_1699 dL_law_1700 ?_
  refine v_arg (kk := 2) lk (Nat.le_of_ble_eq_true rfl) dL_law_1701 dL_law_1702 dL_law_1704 rfl dL_law_1705 dL_law_1706 ?_
  refine v_cVI (mt := m_law nm) mo_X11_loss ml_RL_212 mi_X11_loss mv_X11_loss rfl kd_0 cl_11 rfl (ltA lk.2.2.2.1 rfl) RO_law lk.2.2.2.2 (Nat.le_of_ble_eq_true rfl) dL_law_1707 rfl hS (fun y g hp => ?_)
  refine v_aload_n dL_law_1710 rfl ?_
  refine v_arg (kk := 1) lk (Nat.le_of_ble_eq_true rfl) dL_law_1711 dL_law_1712 dL_law_1714 rfl dL_law_1715 dL_law_1716 ?_
  refine v_arg (kk := 2) lk (Nat.le_of_ble_eq_true rfl) dL_law_1717 dL_law_1718 dL_law_1720 rfl dL_law_1721 dL_law_1722 ?_
  refine v_cVI (mt := m_law nm) mo_X12_loss ml_RL_215 mi_X12_loss mv_X12_loss rfl kd_68 cl_12 rfl (ltA lk.2.2.2.1 rfl) RO_law lk.2.2.2.2 (Nat.le_of_ble_eq_true rfl) dL_law_1723 rfl (hT y g hp) (fun y2 g2 z => ?_)
  obtain ⟨rfl, iv2⟩ := z
  exact v_icmp_eq (tgt := 1781) dL_law_1726 (by decide) (fun _ => K g2 iv2) (fun z => absurd rfl z)
theorem lc_dear (lk : LK X Ln xs Z A i) (iv : Inv h n) (K : ∀ g, Inv g n → V X (m_law nm) room_1 Z A 1781 (LL i) [] g) : V X (m_law nm) room_1 Z A 1731 (LL i) [] h := by
  obtain ⟨G, hS, hT⟩ := (show Jn X m_X11_dear [.ref 0, .int (xs (i + 1))] m_X12_dear [.ref 68, .int (xs (i + 1))] h n A.1 A.2.1 from j_dear lk.2.2.2.1 iv)
  refine v_aload_n dL_law_1731 rfl ?_
  refine v_arg (kk := 1) lk (Nat.le_of_ble_eq_true rfl) dL_law_1732 dL_law_1733 dL_law_1735 rfl dL_law_1736 dL_law_1737 ?_
  refine v_cVI (mt := m_law nm) mo_X11_dear ml_RL_216 mi_X11_dear mv_X11_dear rfl kd_0 cl_11 rfl (ltA lk.2.2.2.1 rfl) RO_law lk.2.2.2.2 (Nat.le_of_ble_eq_true rfl) dL_law_1738 rfl hS (fun y g hp => ?_)
  refine v_aload_n dL_law_1741 rfl ?_
  refine v_arg (kk := 1) lk (Nat.le_of_ble_eq_true rfl) dL_law_1742 dL_law_1743 dL_law_1745 rfl dL_law_1746 dL_law_1747 ?_
  refine v_cVI (mt := m_law nm) mo_X12_dear ml_RL_219 mi_X12_dear mv_X12_dear rfl kd_68 cl_12 rfl (ltA lk.2.2.2.1 rfl) RO_law lk.2.2.2.2 (Nat.le_of_ble_eq_true rfl) dL_law_1748 rfl (hT y g hp) (fun y2 g2 z => ?_)
  obtain ⟨rfl, iv2⟩ := z
  exact v_icmp_eq (tgt := 1781) dL_law_1751 (by decide) (fun _ => K g2 iv2) (fun z => absurd rfl z)
theorem lc_count (lk : LK X Ln xs Z A i) (iv : Inv h n) (K : ∀ g, Inv g n → V X (m_law nm) room_1 Z A 1781 (LL i) [] g) : V X (m_law nm) room_1 Z A 1756 (LL i) [] h := by
  obtain ⟨G, hS, hT⟩ := (show Jn X m_X11_count [.ref 0, .int (xs (i + 1))] m_X12_count [.ref 68, .int (xs (i + 1))] h n A.1 A.2.1 from j_count lk.2.2.2.1 iv)
  refine v_aload_n dL_law_1756 rfl ?_
  refine v_arg (kk := 1) lk (Nat.le_of_ble_eq_true rfl) dL_law_1757 dL_law_1758 dL_law_1760 rfl dL_law_1761 dL_law_1762 ?_
  refine v_cVI (mt := m_law nm) mo_X11_count ml_RL_220 mi_X11_count mv_X11_count rfl kd_0 cl_11 rfl (ltA lk.2.2.2.1 rfl) RO_law lk.2.2.2.2 (Nat.le_of_ble_eq_true rfl) dL_law_1763 rfl hS (fun y g hp => ?_)
  refine v_aload_n dL_law_1766 rfl ?_
  refine v_arg (kk := 1) lk (Nat.le_of_ble_eq_true rfl) dL_law_1767 dL_law_1768 dL_law_1770 rfl dL_law_1771 dL_law_1772 ?_
  refine v_cVI (mt := m_law nm) mo_X12_count ml_RL_223 mi_X12_count mv_X12_count rfl kd_68 cl_12 rfl (ltA lk.2.2.2.1 rfl) RO_law lk.2.2.2.2 (Nat.le_of_ble_eq_true rfl) dL_law_1773 rfl (hT y g hp) (fun y2 g2 z => ?_)
  obtain ⟨rfl, iv2⟩ := z
  exact v_icmp_eq (tgt := 1781) dL_law_1776 (by decide) (fun _ => K g2 iv2) (fun z => absurd rfl z)
end CL
