section LAWC
variable {p : Program} {l : Launch} {e : Env} {s : State} {m : MethodId} {b : Nat} {below : List Frame} {meth : Method} {c : Code} {H : Heap} {locs : List Loc} {Q' : State → Prop} {cells slots N q1 q3 : Nat} {ls : Array Slot} {G : gG} {Z : gC} {mi L : Nat} {xs : Nat → Int32} {A : Nat → Prop}
set_option maxHeartbeats 4000000 in
set_option maxRecDepth 100000 in
theorem law_fighter (hX : lX p c s m b A G Z mi L xs) (hlocks : meth.locks = false) (hL : L ≤ 3072) (hl : lv_has ls 4 [(3, .int (nI (6 * N))), (2, .ref q3), (1, .ref q1), (0, .ref b)]) (hN : 6 * N + 6 ≤ L) (h : LI G Z s A q1 q3 N H locs cells slots) (kk : ∀ (H1 : Heap) (locs1 : List Loc) (c1 s1 : Nat), LI G Z s A q1 q3 (N + 1) H1 locs1 c1 s1 → W p l e room_1 s m #[Value.ref b] below meth c H1 locs1 c1 s1 Q' (F0 m 953 ls [])) : W p l e room_1 s m #[Value.ref b] below meth c H locs cells slots Q' (F0 m 435 ls []) := by
  obtain ⟨Q, D, mc, o, T1, P, LW, u, n, ch, C, tp, M, Qm, v, rfl, rfl, hQ, hH, hT, hLW, hPb, hWb, hS, hch, htp, htp3, hM, hLv, hce, hsl⟩ := h
  have hx := hX.1
  have hb := hX.2.1
  have hC := hS.1.C
  obtain ⟨r1, u1, e1, hs1⟩ := tt_x_X11_fighter (xs (6 * N + 1)) (xs (6 * N + 2)) u
  have hS1 : CS u1 n ch C := hS.same hs1 (by decide) (by decide)
  have e2 : u1.1 2 = nI tp := (hs1.1 2 (by decide)).trans htp
  obtain ⟨r2, v1, f1, hr, hL1⟩ := bo_fighter hLv hs1 e1
  refine lv_aload_n hx hb dL_law_435 rfl (lv_at hl 2 rfl) ?_
  refine l_arg (k := 1) hX hH.2.2 hl (by decide) hN hL (by decide) dL_law_436 dL_law_437 dL_law_438 dL_law_439 dL_law_440 ?_
  refine l_arg (k := 2) hX hH.2.2 hl (by decide) hN hL (by decide) dL_law_441 dL_law_442 dL_law_443 dL_law_444 dL_law_445 ?_
  refine lc_A (As := [.int (xs (6 * N + 1)), .int (xs (6 * N + 2))]) (rest := []) hX hH (n_X11_fighter l G Z Q D _ u u1 r1 (xs (6 * N + 1)) (xs (6 * N + 2)) H.size e1) wkc_X11_fighter (t2_at (i := 5) (j := 70) (by decide +kernel)) (t2_at (i := 5) (j := 71) (by decide +kernel)) (t2_at (i := 5) (j := 72) (by decide +kernel)) kVX11_fighter ⟨Nat.le_of_ble_eq_true rfl, Nat.le_of_ble_eq_true rfl⟩ ⟨by omega, by omega⟩ rfl hl.1 rfl (Nat.le_of_ble_eq_true rfl) dL_law_446 (fun D1 H locs hH => ?_)
  refine lv_aload_n hx hb dL_law_449 rfl (lv_at hl 1 rfl) ?_
  refine l_arg (k := 1) hX hH.2.2 hl (by decide) hN hL (by decide) dL_law_450 dL_law_451 dL_law_452 dL_law_453 dL_law_454 ?_
  refine l_arg (k := 2) hX hH.2.2 hl (by decide) hN hL (by decide) dL_law_455 dL_law_456 dL_law_457 dL_law_458 dL_law_459 ?_
  refine lm_i (As := [.int (xs (6 * N + 1)), .int (xs (6 * N + 2))]) (rest := [.int r1]) hX hQ hH (m_fighter l G Z.1 Qm v v1 r2 (xs (6 * N + 1)) (xs (6 * N + 2)) H.size f1) wmc_X13_fighter (t2_at (i := 9) (j := 130) (by decide +kernel)) (t2_at (i := 9) (j := 131) (by decide +kernel)) (t2_at (i := 9) (j := 132) (by decide +kernel)) kVX13_fighter ⟨Nat.le_of_ble_eq_true rfl, Nat.le_of_ble_eq_true rfl⟩ ⟨by omega, by omega⟩ rfl hl.1 rfl (Nat.le_of_ble_eq_true rfl) dL_law_460 (fun H locs hH => ?_)
  refine lv_icmp_eq (tgt := 953) hx hb dL_law_463 (by decide) (fun _ => ?_) (fun c9 => absurd hr c9)
  exact kk _ _ _ _ ⟨Q, D1, mc, o, T1, P, LW, u1, n, ch, C, tp, M, Qm, v1, rfl, rfl, hQ, hH, hT, by omega, hPb, hWb, hS1, by omega, e2, htp3, by omega, hL1, by omega, by omega⟩
set_option maxHeartbeats 4000000 in
set_option maxRecDepth 100000 in
theorem law_about (hX : lX p c s m b A G Z mi L xs) (hlocks : meth.locks = false) (hL : L ≤ 3072) (hl : lv_has ls 4 [(3, .int (nI (6 * N))), (2, .ref q3), (1, .ref q1), (0, .ref b)]) (hN : 6 * N + 6 ≤ L) (h : LI G Z s A q1 q3 N H locs cells slots) (kk : ∀ (H1 : Heap) (locs1 : List Loc) (c1 s1 : Nat), LI G Z s A q1 q3 (N + 1) H1 locs1 c1 s1 → W p l e room_1 s m #[Value.ref b] below meth c H1 locs1 c1 s1 Q' (F0 m 953 ls [])) : W p l e room_1 s m #[Value.ref b] below meth c H locs cells slots Q' (F0 m 468 ls []) := by
  obtain ⟨Q, D, mc, o, T1, P, LW, u, n, ch, C, tp, M, Qm, v, rfl, rfl, hQ, hH, hT, hLW, hPb, hWb, hS, hch, htp, htp3, hM, hLv, hce, hsl⟩ := h
  have hx := hX.1
  have hb := hX.2.1
  have hC := hS.1.C
  obtain ⟨r1, u1, e1, hs1⟩ := tt_x_X11_about (xs (6 * N + 1)) (xs (6 * N + 2)) u
  have hS1 : CS u1 n ch C := hS.same hs1 (by decide) (by decide)
  have e2 : u1.1 2 = nI tp := (hs1.1 2 (by decide)).trans htp
  obtain ⟨r2, v1, f1, hL1⟩ := bo_about hLv hs1 (a := (xs (6 * N + 1))) (b := (xs (6 * N + 2)))
  refine lv_aload_n hx hb dL_law_468 rfl (lv_at hl 2 rfl) ?_
  refine l_arg (k := 1) hX hH.2.2 hl (by decide) hN hL (by decide) dL_law_469 dL_law_470 dL_law_471 dL_law_472 dL_law_473 ?_
  refine l_arg (k := 2) hX hH.2.2 hl (by decide) hN hL (by decide) dL_law_474 dL_law_475 dL_law_476 dL_law_477 dL_law_478 ?_
  refine lc_A (As := [.int (xs (6 * N + 1)), .int (xs (6 * N + 2))]) (rest := []) hX hH (n_X11_about l G Z Q D _ u u1 r1 (xs (6 * N + 1)) (xs (6 * N + 2)) H.size e1) wkc_X11_about (t2_at (i := 5) (j := 74) (by decide +kernel)) (t2_at (i := 5) (j := 75) (by decide +kernel)) (t2_at (i := 5) (j := 76) (by decide +kernel)) kVX11_about ⟨Nat.le_of_ble_eq_true rfl, Nat.le_of_ble_eq_true rfl⟩ ⟨by omega, by omega⟩ rfl hl.1 rfl (Nat.le_of_ble_eq_true rfl) dL_law_479 (fun D1 H locs hH => ?_)
  refine lv_pop hx hb dL_law_482 rfl ?_
  refine lv_aload_n hx hb dL_law_483 rfl (lv_at hl 1 rfl) ?_
  refine l_arg (k := 1) hX hH.2.2 hl (by decide) hN hL (by decide) dL_law_484 dL_law_485 dL_law_486 dL_law_487 dL_law_488 ?_
  refine l_arg (k := 2) hX hH.2.2 hl (by decide) hN hL (by decide) dL_law_489 dL_law_490 dL_law_491 dL_law_492 dL_law_493 ?_
  refine lm_i (As := [.int (xs (6 * N + 1)), .int (xs (6 * N + 2))]) (rest := []) hX hQ hH (m_about l G Z.1 Qm v v1 r2 (xs (6 * N + 1)) (xs (6 * N + 2)) H.size f1) wmc_X13_about (t2_at (i := 9) (j := 134) (by decide +kernel)) (t2_at (i := 9) (j := 135) (by decide +kernel)) (t2_at (i := 9) (j := 136) (by decide +kernel)) kVX13_about ⟨Nat.le_of_ble_eq_true rfl, Nat.le_of_ble_eq_true rfl⟩ ⟨by omega, by omega⟩ rfl hl.1 rfl (Nat.le_of_ble_eq_true rfl) dL_law_494 (fun H locs hH => ?_)
  refine lv_pop hx hb dL_law_497 rfl ?_
  refine lv_goto (tgt := 953) hx hb dL_law_498 (by decide) ?_
  exact kk _ _ _ _ ⟨Q, D1, mc, o, T1, P, LW, u1, n, ch, C, tp, M, Qm, v1, rfl, rfl, hQ, hH, hT, by omega, hPb, hWb, hS1, by omega, e2, htp3, by omega, hL1, by omega, by omega⟩
set_option maxHeartbeats 4000000 in
set_option maxRecDepth 100000 in
theorem law_fight (hX : lX p c s m b A G Z mi L xs) (hlocks : meth.locks = false) (hL : L ≤ 3072) (hl : lv_has ls 4 [(3, .int (nI (6 * N))), (2, .ref q3), (1, .ref q1), (0, .ref b)]) (hN : 6 * N + 6 ≤ L) (h : LI G Z s A q1 q3 N H locs cells slots) (kk : ∀ (H1 : Heap) (locs1 : List Loc) (c1 s1 : Nat), LI G Z s A q1 q3 (N + 1) H1 locs1 c1 s1 → W p l e room_1 s m #[Value.ref b] below meth c H1 locs1 c1 s1 Q' (F0 m 953 ls [])) : W p l e room_1 s m #[Value.ref b] below meth c H locs cells slots Q' (F0 m 501 ls []) := by
  obtain ⟨Q, D, mc, o, T1, P, LW, u, n, ch, C, tp, M, Qm, v, rfl, rfl, hQ, hH, hT, hLW, hPb, hWb, hS, hch, htp, htp3, hM, hLv, hce, hsl⟩ := h
  have hx := hX.1
  have hb := hX.2.1
  have hC := hS.1.C
  obtain ⟨r1, u1, e1, hs1⟩ := tt_x_X11_fight (xs (6 * N + 1)) (xs (6 * N + 2)) (xs (6 * N + 3)) u
  have hS1 : CS u1 n ch C := hS.same hs1 (by decide) (by decide)
  have e2 : u1.1 2 = nI tp := (hs1.1 2 (by decide)).trans htp
  obtain ⟨r2, v1, f1, hr, hL1⟩ := bo_fight hLv hs1 e1
  refine lv_aload_n hx hb dL_law_501 rfl (lv_at hl 2 rfl) ?_
  refine l_arg (k := 1) hX hH.2.2 hl (by decide) hN hL (by decide) dL_law_502 dL_law_503 dL_law_504 dL_law_505 dL_law_506 ?_
  refine l_arg (k := 2) hX hH.2.2 hl (by decide) hN hL (by decide) dL_law_507 dL_law_508 dL_law_509 dL_law_510 dL_law_511 ?_
  refine l_arg (k := 3) hX hH.2.2 hl (by decide) hN hL (by decide) dL_law_512 dL_law_513 dL_law_514 dL_law_515 dL_law_516 ?_
  refine lc_A (As := [.int (xs (6 * N + 1)), .int (xs (6 * N + 2)), .int (xs (6 * N + 3))]) (rest := []) hX hH (n_X11_fight l G Z Q D _ u u1 r1 (xs (6 * N + 1)) (xs (6 * N + 2)) (xs (6 * N + 3)) H.size e1) wkc_X11_fight (t2_at (i := 5) (j := 97) (by decide +kernel)) (t2_at (i := 5) (j := 98) (by decide +kernel)) (t2_at (i := 5) (j := 99) (by decide +kernel)) kVX11_fight ⟨Nat.le_of_ble_eq_true rfl, Nat.le_of_ble_eq_true rfl⟩ ⟨by omega, by omega⟩ rfl hl.1 rfl (Nat.le_of_ble_eq_true rfl) dL_law_517 (fun D1 H locs hH => ?_)
  refine lv_pop hx hb dL_law_520 rfl ?_
  refine lv_aload_n hx hb dL_law_521 rfl (lv_at hl 1 rfl) ?_
  refine l_arg (k := 1) hX hH.2.2 hl (by decide) hN hL (by decide) dL_law_522 dL_law_523 dL_law_524 dL_law_525 dL_law_526 ?_
  refine l_arg (k := 2) hX hH.2.2 hl (by decide) hN hL (by decide) dL_law_527 dL_law_528 dL_law_529 dL_law_530 dL_law_531 ?_
  refine l_arg (k := 3) hX hH.2.2 hl (by decide) hN hL (by decide) dL_law_532 dL_law_533 dL_law_534 dL_law_535 dL_law_536 ?_
  refine lm_i (As := [.int (xs (6 * N + 1)), .int (xs (6 * N + 2)), .int (xs (6 * N + 3))]) (rest := []) hX hQ hH (m_fight l G Z.1 Qm v v1 r2 (xs (6 * N + 1)) (xs (6 * N + 2)) (xs (6 * N + 3)) H.size f1) wmc_X13_fight (t2_at (i := 9) (j := 144) (by decide +kernel)) (t2_at (i := 9) (j := 145) (by decide +kernel)) (t2_at (i := 9) (j := 146) (by decide +kernel)) kVX13_fight ⟨Nat.le_of_ble_eq_true rfl, Nat.le_of_ble_eq_true rfl⟩ ⟨by omega, by omega⟩ rfl hl.1 rfl (Nat.le_of_ble_eq_true rfl) dL_law_537 (fun H locs hH => ?_)
  refine lv_pop hx hb dL_law_540 rfl ?_
  refine lv_goto (tgt := 953) hx hb dL_law_541 (by decide) ?_
  exact kk _ _ _ _ ⟨Q, D1, mc, o, T1, P, LW, u1, n, ch, C, tp, M, Qm, v1, rfl, rfl, hQ, hH, hT, by omega, hPb, hWb, hS1, by omega, e2, htp3, by omega, hL1, by omega, by omega⟩
set_option maxHeartbeats 4000000 in
set_option maxRecDepth 100000 in
theorem law_now (hX : lX p c s m b A G Z mi L xs) (hlocks : meth.locks = false) (hL : L ≤ 3072) (hl : lv_has ls 4 [(3, .int (nI (6 * N))), (2, .ref q3), (1, .ref q1), (0, .ref b)]) (hN : 6 * N + 6 ≤ L) (h : LI G Z s A q1 q3 N H locs cells slots) (kk : ∀ (H1 : Heap) (locs1 : List Loc) (c1 s1 : Nat), LI G Z s A q1 q3 (N + 1) H1 locs1 c1 s1 → W p l e room_1 s m #[Value.ref b] below meth c H1 locs1 c1 s1 Q' (F0 m 953 ls [])) : W p l e room_1 s m #[Value.ref b] below meth c H locs cells slots Q' (F0 m 544 ls []) := by
  obtain ⟨Q, D, mc, o, T1, P, LW, u, n, ch, C, tp, M, Qm, v, rfl, rfl, hQ, hH, hT, hLW, hPb, hWb, hS, hch, htp, htp3, hM, hLv, hce, hsl⟩ := h
  have hx := hX.1
  have hb := hX.2.1
  have hC := hS.1.C
  obtain ⟨r1, u1, c1, d1, n1, ch1, C1, e1, hS1, hch1, hC1, hd1, hc1, hs1⟩ := as_now (xs (6 * N + 1)) u n ch C hS (by omega)
  have hCC := hS1.1.C
  have e2 : u1.1 2 = nI tp := (hs1.1 2 (by decide)).trans htp
  obtain ⟨r2, v1, f1, hr, hL1⟩ := bo_now hLv (by omega) hs1 e1
  refine lv_aload_n hx hb dL_law_544 rfl (lv_at hl 2 rfl) ?_
  refine l_arg (k := 1) hX hH.2.2 hl (by decide) hN hL (by decide) dL_law_545 dL_law_546 dL_law_547 dL_law_548 dL_law_549 ?_
  refine lc_A (As := [.int (xs (6 * N + 1))]) (rest := []) hX hH (n_X11_now l G Z Q D _ u u1 r1 c1 d1 (xs (6 * N + 1)) H.size e1) wkc_X11_now (t2_at (i := 5) (j := 111) (by decide +kernel)) (t2_at (i := 5) (j := 112) (by decide +kernel)) (t2_at (i := 5) (j := 113) (by decide +kernel)) kVX11_now ⟨Nat.le_of_ble_eq_true rfl, Nat.le_of_ble_eq_true rfl⟩ ⟨by omega, by omega⟩ rfl hl.1 rfl (Nat.le_of_ble_eq_true rfl) dL_law_550 (fun D1 H locs hH => ?_)
  refine lv_pop hx hb dL_law_553 rfl ?_
  refine lv_aload_n hx hb dL_law_554 rfl (lv_at hl 1 rfl) ?_
  refine l_arg (k := 1) hX hH.2.2 hl (by decide) hN hL (by decide) dL_law_555 dL_law_556 dL_law_557 dL_law_558 dL_law_559 ?_
  refine lm_i (As := [.int (xs (6 * N + 1))]) (rest := []) hX hQ hH (m_now l G Z.1 Qm v v1 r2 (xs (6 * N + 1)) H.size f1) wmc_X13_now (t2_at (i := 9) (j := 157) (by decide +kernel)) (t2_at (i := 9) (j := 158) (by decide +kernel)) (t2_at (i := 9) (j := 159) (by decide +kernel)) kVX13_now ⟨Nat.le_of_ble_eq_true rfl, Nat.le_of_ble_eq_true rfl⟩ ⟨by omega, by omega⟩ rfl hl.1 rfl (Nat.le_of_ble_eq_true rfl) dL_law_560 (fun H locs hH => ?_)
  refine lv_pop hx hb dL_law_563 rfl ?_
  refine lv_goto (tgt := 953) hx hb dL_law_564 (by decide) ?_
  exact kk _ _ _ _ ⟨Q, D1, mc, o, T1, P, LW, u1, n1, ch1, C1, tp, M, Qm, v1, rfl, rfl, hQ, hH, hT, by omega, hPb, hWb, hS1, by omega, e2, htp3, by omega, hL1, by omega, by omega⟩
set_option maxHeartbeats 4000000 in
set_option maxRecDepth 100000 in
theorem law_rest (hX : lX p c s m b A G Z mi L xs) (hlocks : meth.locks = false) (hL : L ≤ 3072) (hl : lv_has ls 4 [(3, .int (nI (6 * N))), (2, .ref q3), (1, .ref q1), (0, .ref b)]) (hN : 6 * N + 6 ≤ L) (h : LI G Z s A q1 q3 N H locs cells slots) (kk : ∀ (H1 : Heap) (locs1 : List Loc) (c1 s1 : Nat), LI G Z s A q1 q3 (N + 1) H1 locs1 c1 s1 → W p l e room_1 s m #[Value.ref b] below meth c H1 locs1 c1 s1 Q' (F0 m 953 ls [])) : W p l e room_1 s m #[Value.ref b] below meth c H locs cells slots Q' (F0 m 567 ls []) := by
  obtain ⟨Q, D, mc, o, T1, P, LW, u, n, ch, C, tp, M, Qm, v, rfl, rfl, hQ, hH, hT, hLW, hPb, hWb, hS, hch, htp, htp3, hM, hLv, hce, hsl⟩ := h
  have hx := hX.1
  have hb := hX.2.1
  have hC := hS.1.C
  obtain ⟨r1, u1, c1, d1, n1, ch1, C1, e1, hS1, hch1, hC1, hd1, hc1, hs1⟩ := as_rest (xs (6 * N + 1)) u n ch C hS (by omega)
  have hCC := hS1.1.C
  have e2 : u1.1 2 = nI tp := (hs1.1 2 (by decide)).trans htp
  obtain ⟨r2, v1, f1, hr, hL1⟩ := bo_rest hLv (by omega) hs1 e1
  refine lv_aload_n hx hb dL_law_567 rfl (lv_at hl 2 rfl) ?_
  refine l_arg (k := 1) hX hH.2.2 hl (by decide) hN hL (by decide) dL_law_568 dL_law_569 dL_law_570 dL_law_571 dL_law_572 ?_
  refine lc_A (As := [.int (xs (6 * N + 1))]) (rest := []) hX hH (n_X11_rest l G Z Q D _ u u1 r1 c1 d1 (xs (6 * N + 1)) H.size e1) wkc_X11_rest (t2_at (i := 5) (j := 115) (by decide +kernel)) (t2_at (i := 5) (j := 116) (by decide +kernel)) (t2_at (i := 5) (j := 117) (by decide +kernel)) kVX11_rest ⟨Nat.le_of_ble_eq_true rfl, Nat.le_of_ble_eq_true rfl⟩ ⟨by omega, by omega⟩ rfl hl.1 rfl (Nat.le_of_ble_eq_true rfl) dL_law_573 (fun D1 H locs hH => ?_)
  refine lv_pop hx hb dL_law_576 rfl ?_
  refine lv_aload_n hx hb dL_law_577 rfl (lv_at hl 1 rfl) ?_
  refine l_arg (k := 1) hX hH.2.2 hl (by decide) hN hL (by decide) dL_law_578 dL_law_579 dL_law_580 dL_law_581 dL_law_582 ?_
  refine lm_i (As := [.int (xs (6 * N + 1))]) (rest := []) hX hQ hH (m_rest l G Z.1 Qm v v1 r2 (xs (6 * N + 1)) H.size f1) wmc_X13_rest (t2_at (i := 9) (j := 162) (by decide +kernel)) (t2_at (i := 9) (j := 163) (by decide +kernel)) (t2_at (i := 9) (j := 164) (by decide +kernel)) kVX13_rest ⟨Nat.le_of_ble_eq_true rfl, Nat.le_of_ble_eq_true rfl⟩ ⟨by omega, by omega⟩ rfl hl.1 rfl (Nat.le_of_ble_eq_true rfl) dL_law_583 (fun H locs hH => ?_)
  refine lv_pop hx hb dL_law_586 rfl ?_
  refine lv_goto (tgt := 953) hx hb dL_law_587 (by decide) ?_
  exact kk _ _ _ _ ⟨Q, D1, mc, o, T1, P, LW, u1, n1, ch1, C1, tp, M, Qm, v1, rfl, rfl, hQ, hH, hT, by omega, hPb, hWb, hS1, by omega, e2, htp3, by omega, hL1, by omega, by omega⟩
set_option maxHeartbeats 4000000 in
set_option maxRecDepth 100000 in
theorem law_begin (hX : lX p c s m b A G Z mi L xs) (hlocks : meth.locks = false) (hL : L ≤ 3072) (hl : lv_has ls 4 [(3, .int (nI (6 * N))), (2, .ref q3), (1, .ref q1), (0, .ref b)]) (hN : 6 * N + 6 ≤ L) (h : LI G Z s A q1 q3 N H locs cells slots) (kk : ∀ (H1 : Heap) (locs1 : List Loc) (c1 s1 : Nat), LI G Z s A q1 q3 (N + 1) H1 locs1 c1 s1 → W p l e room_1 s m #[Value.ref b] below meth c H1 locs1 c1 s1 Q' (F0 m 953 ls [])) : W p l e room_1 s m #[Value.ref b] below meth c H locs cells slots Q' (F0 m 590 ls []) := by
  obtain ⟨Q, D, mc, o, T1, P, LW, u, n, ch, C, tp, M, Qm, v, rfl, rfl, hQ, hH, hT, hLW, hPb, hWb, hS, hch, htp, htp3, hM, hLv, hce, hsl⟩ := h
  have hx := hX.1
  have hb := hX.2.1
  have hC := hS.1.C
  obtain ⟨r1, u1, c1, d1, n1, ch1, C1, e1, hS1, hch1, hC1, hd1, hc1, hs1⟩ := as_begin (fun u => (lnw P LW u).2.2) (lnw_le hPb hWb) (xs (6 * N + 1)) (xs (6 * N + 2)) (xs (6 * N + 3)) u n ch C hS (by omega)
  have hCC := hS1.1.C
  have e2 : u1.1 2 = nI tp := (hs1.1 2 (by decide)).trans htp
  obtain ⟨r2, v1, f1, hr, hL1⟩ := bo_begin hLv (by omega) hs1 e1
  refine lv_aload_n hx hb dL_law_590 rfl (lv_at hl 2 rfl) ?_
  refine l_arg (k := 1) hX hH.2.2 hl (by decide) hN hL (by decide) dL_law_591 dL_law_592 dL_law_593 dL_law_594 dL_law_595 ?_
  refine l_arg (k := 2) hX hH.2.2 hl (by decide) hN hL (by decide) dL_law_596 dL_law_597 dL_law_598 dL_law_599 dL_law_600 ?_
  refine l_arg (k := 3) hX hH.2.2 hl (by decide) hN hL (by decide) dL_law_601 dL_law_602 dL_law_603 dL_law_604 dL_law_605 ?_
  refine lc_A (As := [.int (xs (6 * N + 1)), .int (xs (6 * N + 2)), .int (xs (6 * N + 3))]) (rest := []) hX hH (n_X11_begin l G Z Q D _ P LW (hT.at mc) u u1 r1 c1 d1 (xs (6 * N + 1)) (xs (6 * N + 2)) (xs (6 * N + 3)) H.size e1) wkc_X11_begin (t2_at (i := 5) (j := 119) (by decide +kernel)) (t2_at (i := 5) (j := 120) (by decide +kernel)) (t2_at (i := 5) (j := 121) (by decide +kernel)) kVX11_begin ⟨Nat.le_of_ble_eq_true rfl, Nat.le_of_ble_eq_true rfl⟩ ⟨by omega, by omega⟩ rfl hl.1 rfl (Nat.le_of_ble_eq_true rfl) dL_law_606 (fun D1 H locs hH => ?_)
  refine lv_pop hx hb dL_law_609 rfl ?_
  refine lv_aload_n hx hb dL_law_610 rfl (lv_at hl 1 rfl) ?_
  refine l_arg (k := 1) hX hH.2.2 hl (by decide) hN hL (by decide) dL_law_611 dL_law_612 dL_law_613 dL_law_614 dL_law_615 ?_
  refine l_arg (k := 2) hX hH.2.2 hl (by decide) hN hL (by decide) dL_law_616 dL_law_617 dL_law_618 dL_law_619 dL_law_620 ?_
  refine l_arg (k := 3) hX hH.2.2 hl (by decide) hN hL (by decide) dL_law_621 dL_law_622 dL_law_623 dL_law_624 dL_law_625 ?_
  refine lm_i (As := [.int (xs (6 * N + 1)), .int (xs (6 * N + 2)), .int (xs (6 * N + 3))]) (rest := []) hX hQ hH (m_begin l G Z.1 Qm v v1 r2 (xs (6 * N + 1)) (xs (6 * N + 2)) (xs (6 * N + 3)) H.size f1) wmc_X13_begin (t2_at (i := 9) (j := 167) (by decide +kernel)) (t2_at (i := 9) (j := 168) (by decide +kernel)) (t2_at (i := 9) (j := 169) (by decide +kernel)) kVX13_begin ⟨Nat.le_of_ble_eq_true rfl, Nat.le_of_ble_eq_true rfl⟩ ⟨by omega, by omega⟩ rfl hl.1 rfl (Nat.le_of_ble_eq_true rfl) dL_law_626 (fun H locs hH => ?_)
  refine lv_pop hx hb dL_law_629 rfl ?_
  refine lv_goto (tgt := 953) hx hb dL_law_630 (by decide) ?_
  exact kk _ _ _ _ ⟨Q, D1, mc, o, T1, P, LW, u1, n1, ch1, C1, tp, M, Qm, v1, rfl, rfl, hQ, hH, hT, by omega, hPb, hWb, hS1, by omega, e2, htp3, by omega, hL1, by omega, by omega⟩
set_option maxHeartbeats 4000000 in
set_option maxRecDepth 100000 in
theorem law_event (hX : lX p c s m b A G Z mi L xs) (hlocks : meth.locks = false) (hL : L ≤ 3072) (hl : lv_has ls 4 [(3, .int (nI (6 * N))), (2, .ref q3), (1, .ref q1), (0, .ref b)]) (hN : 6 * N + 6 ≤ L) (h : LI G Z s A q1 q3 N H locs cells slots) (kk : ∀ (H1 : Heap) (locs1 : List Loc) (c1 s1 : Nat), LI G Z s A q1 q3 (N + 1) H1 locs1 c1 s1 → W p l e room_1 s m #[Value.ref b] below meth c H1 locs1 c1 s1 Q' (F0 m 953 ls [])) : W p l e room_1 s m #[Value.ref b] below meth c H locs cells slots Q' (F0 m 633 ls []) := by
  obtain ⟨Q, D, mc, o, T1, P, LW, u, n, ch, C, tp, M, Qm, v, rfl, rfl, hQ, hH, hT, hLW, hPb, hWb, hS, hch, htp, htp3, hM, hLv, hce, hsl⟩ := h
  have hx := hX.1
  have hb := hX.2.1
  have hC := hS.1.C
  obtain ⟨r1, u1, c1, d1, n1, ch1, C1, e1, hS1, hch1, hC1, hd1, hc1, hs1⟩ := as_event (fun u => (lnw P LW u).2.2) (lnw_le hPb hWb) (xs (6 * N + 1)) (xs (6 * N + 2)) (xs (6 * N + 3)) u n ch C hS (by omega)
  have hCC := hS1.1.C
  have e2 : u1.1 2 = nI tp := (hs1.1 2 (by decide)).trans htp
  obtain ⟨r2, v1, f1, hr, hL1⟩ := bo_event hLv (by omega) hs1 e1
  refine lv_aload_n hx hb dL_law_633 rfl (lv_at hl 2 rfl) ?_
  refine l_arg (k := 1) hX hH.2.2 hl (by decide) hN hL (by decide) dL_law_634 dL_law_635 dL_law_636 dL_law_637 dL_law_638 ?_
  refine l_arg (k := 2) hX hH.2.2 hl (by decide) hN hL (by decide) dL_law_639 dL_law_640 dL_law_641 dL_law_642 dL_law_643 ?_
  refine l_arg (k := 3) hX hH.2.2 hl (by decide) hN hL (by decide) dL_law_644 dL_law_645 dL_law_646 dL_law_647 dL_law_648 ?_
  refine lc_A (As := [.int (xs (6 * N + 1)), .int (xs (6 * N + 2)), .int (xs (6 * N + 3))]) (rest := []) hX hH (n_X11_event l G Z Q D _ P LW (hT.at mc) u u1 r1 c1 d1 (xs (6 * N + 1)) (xs (6 * N + 2)) (xs (6 * N + 3)) H.size e1) wkc_X11_event (t2_at (i := 5) (j := 148) (by decide +kernel)) (t2_at (i := 5) (j := 149) (by decide +kernel)) (t2_at (i := 5) (j := 150) (by decide +kernel)) kVX11_event ⟨Nat.le_of_ble_eq_true rfl, Nat.le_of_ble_eq_true rfl⟩ ⟨by omega, by omega⟩ rfl hl.1 rfl (Nat.le_of_ble_eq_true rfl) dL_law_649 (fun D1 H locs hH => ?_)
  refine lv_pop hx hb dL_law_652 rfl ?_
  refine lv_aload_n hx hb dL_law_653 rfl (lv_at hl 1 rfl) ?_
  refine l_arg (k := 1) hX hH.2.2 hl (by decide) hN hL (by decide) dL_law_654 dL_law_655 dL_law_656 dL_law_657 dL_law_658 ?_
  refine l_arg (k := 2) hX hH.2.2 hl (by decide) hN hL (by decide) dL_law_659 dL_law_660 dL_law_661 dL_law_662 dL_law_663 ?_
  refine l_arg (k := 3) hX hH.2.2 hl (by decide) hN hL (by decide) dL_law_664 dL_law_665 dL_law_666 dL_law_667 dL_law_668 ?_
  refine lm_i (As := [.int (xs (6 * N + 1)), .int (xs (6 * N + 2)), .int (xs (6 * N + 3))]) (rest := []) hX hQ hH (m_event l G Z.1 Qm v v1 r2 (xs (6 * N + 1)) (xs (6 * N + 2)) (xs (6 * N + 3)) H.size f1) wmc_X13_event (t2_at (i := 9) (j := 178) (by decide +kernel)) (t2_at (i := 9) (j := 179) (by decide +kernel)) (t2_at (i := 9) (j := 180) (by decide +kernel)) kVX13_event ⟨Nat.le_of_ble_eq_true rfl, Nat.le_of_ble_eq_true rfl⟩ ⟨by omega, by omega⟩ rfl hl.1 rfl (Nat.le_of_ble_eq_true rfl) dL_law_669 (fun H locs hH => ?_)
  refine lv_pop hx hb dL_law_672 rfl ?_
  refine lv_goto (tgt := 953) hx hb dL_law_673 (by decide) ?_
  exact kk _ _ _ _ ⟨Q, D1, mc, o, T1, P, LW, u1, n1, ch1, C1, tp, M, Qm, v1, rfl, rfl, hQ, hH, hT, by omega, hPb, hWb, hS1, by omega, e2, htp3, by omega, hL1, by omega, by omega⟩
set_option maxHeartbeats 4000000 in
set_option maxRecDepth 100000 in
theorem law_tick (hX : lX p c s m b A G Z mi L xs) (hlocks : meth.locks = false) (hL : L ≤ 3072) (hl : lv_has ls 4 [(3, .int (nI (6 * N))), (2, .ref q3), (1, .ref q1), (0, .ref b)]) (hN : 6 * N + 6 ≤ L) (h : LI G Z s A q1 q3 N H locs cells slots) (kk : ∀ (H1 : Heap) (locs1 : List Loc) (c1 s1 : Nat), LI G Z s A q1 q3 (N + 1) H1 locs1 c1 s1 → W p l e room_1 s m #[Value.ref b] below meth c H1 locs1 c1 s1 Q' (F0 m 953 ls [])) : W p l e room_1 s m #[Value.ref b] below meth c H locs cells slots Q' (F0 m 676 ls []) := by
  obtain ⟨Q, D, mc, o, T1, P, LW, u, n, ch, C, tp, M, Qm, v, rfl, rfl, hQ, hH, hT, hLW, hPb, hWb, hS, hch, htp, htp3, hM, hLv, hce, hsl⟩ := h
  have hx := hX.1
  have hb := hX.2.1
  have hC := hS.1.C
  obtain ⟨r1, u1, c1, d1, n1, ch1, C1, e1, hS1, hch1, hC1, hd1, hc1, hs1⟩ := as_tick (fun u => (lnw P LW u).2.2) (lnw_le hPb hWb) (xs (6 * N + 1)) (xs (6 * N + 2)) u n ch C hS (by omega)
  have hCC := hS1.1.C
  have e2 : u1.1 2 = nI tp := (hs1.1 2 (by decide)).trans htp
  obtain ⟨r2, v1, f1, hr, hL1⟩ := bo_tick hLv (by omega) hs1 e1
  refine lv_aload_n hx hb dL_law_676 rfl (lv_at hl 2 rfl) ?_
  refine l_arg (k := 1) hX hH.2.2 hl (by decide) hN hL (by decide) dL_law_677 dL_law_678 dL_law_679 dL_law_680 dL_law_681 ?_
  refine l_arg (k := 2) hX hH.2.2 hl (by decide) hN hL (by decide) dL_law_682 dL_law_683 dL_law_684 dL_law_685 dL_law_686 ?_
  refine lc_A (As := [.int (xs (6 * N + 1)), .int (xs (6 * N + 2))]) (rest := []) hX hH (n_X11_tick l G Z Q D _ P LW (hT.at mc) u u1 r1 c1 d1 (xs (6 * N + 1)) (xs (6 * N + 2)) H.size e1) wkc_X11_tick (t2_at (i := 5) (j := 219) (by decide +kernel)) (t2_at (i := 5) (j := 220) (by decide +kernel)) (t2_at (i := 5) (j := 221) (by decide +kernel)) kVX11_tick ⟨Nat.le_of_ble_eq_true rfl, Nat.le_of_ble_eq_true rfl⟩ ⟨by omega, by omega⟩ rfl hl.1 rfl (Nat.le_of_ble_eq_true rfl) dL_law_687 (fun D1 H locs hH => ?_)
  refine lv_pop hx hb dL_law_690 rfl ?_
  refine lv_aload_n hx hb dL_law_691 rfl (lv_at hl 1 rfl) ?_
  refine l_arg (k := 1) hX hH.2.2 hl (by decide) hN hL (by decide) dL_law_692 dL_law_693 dL_law_694 dL_law_695 dL_law_696 ?_
  refine l_arg (k := 2) hX hH.2.2 hl (by decide) hN hL (by decide) dL_law_697 dL_law_698 dL_law_699 dL_law_700 dL_law_701 ?_
  refine lm_i (As := [.int (xs (6 * N + 1)), .int (xs (6 * N + 2))]) (rest := []) hX hQ hH (m_tick l G Z.1 Qm v v1 r2 (xs (6 * N + 1)) (xs (6 * N + 2)) H.size f1) wmc_X13_tick (t2_at (i := 9) (j := 182) (by decide +kernel)) (t2_at (i := 9) (j := 183) (by decide +kernel)) (t2_at (i := 9) (j := 184) (by decide +kernel)) kVX13_tick ⟨Nat.le_of_ble_eq_true rfl, Nat.le_of_ble_eq_true rfl⟩ ⟨by omega, by omega⟩ rfl hl.1 rfl (Nat.le_of_ble_eq_true rfl) dL_law_702 (fun H locs hH => ?_)
  refine lv_pop hx hb dL_law_705 rfl ?_
  refine lv_goto (tgt := 953) hx hb dL_law_706 (by decide) ?_
  exact kk _ _ _ _ ⟨Q, D1, mc, o, T1, P, LW, u1, n1, ch1, C1, tp, M, Qm, v1, rfl, rfl, hQ, hH, hT, by omega, hPb, hWb, hS1, by omega, e2, htp3, by omega, hL1, by omega, by omega⟩
end LAWC
