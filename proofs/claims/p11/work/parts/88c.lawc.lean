section LAWC
variable {p : Program} {l : Launch} {e : Env} {s : State} {m : MethodId} {b : Nat} {below : List Frame} {meth : Method} {c : Code} {H : Heap} {locs : List Loc} {Q' : State → Prop} {cells slots N q1 q3 : Nat} {ls : Array Slot} {G : gG} {Z : gC} {mi L : Nat} {xs : Nat → Int32} {A : Nat → Prop}
set_option maxHeartbeats 4000000 in
set_option maxRecDepth 100000 in
theorem law_decide (hX : lX p c s m b A G Z mi L xs) (hlocks : meth.locks = false) (hL : L ≤ 3072) (hl : lv_has ls 4 [(3, .int (nI (6 * N))), (2, .ref q3), (1, .ref q1), (0, .ref b)]) (hN : 6 * N + 6 ≤ L) (h : LI G Z s A q1 q3 N H locs cells slots) (kk : ∀ (H1 : Heap) (locs1 : List Loc) (c1 s1 : Nat), LI G Z s A q1 q3 (N + 1) H1 locs1 c1 s1 → W p l e room_1 s m #[Value.ref b] below meth c H1 locs1 c1 s1 Q' (F0 m 953 ls [])) : W p l e room_1 s m #[Value.ref b] below meth c H locs cells slots Q' (F0 m 709 ls []) := by
  obtain ⟨Q, D, mc, o, T1, P, LW, u, n, ch, C, tp, M, Qm, v, rfl, rfl, hQ, hH, hT, hLW, hPb, hWb, hS, hch, htp, htp3, hM, hLv, hce, hsl⟩ := h
  have hx := hX.1
  have hb := hX.2.1
  have hC := hS.1.C
  obtain ⟨r1, u1, c1, d1, n1, ch1, C1, e1, hS1, hch1, hC1, hd1, hc1, hs1⟩ := as_decide (xs (6 * N + 1)) (xs (6 * N + 2)) u n ch C hS (by omega)
  have hCC := hS1.1.C
  have e2 : u1.1 2 = nI tp := (hs1.1 2 (by decide)).trans htp
  obtain ⟨r2, v1, f1, hr, hL1⟩ := bo_decide hLv (by omega) hs1 e1
  refine lv_aload_n hx hb dL_law_709 rfl (lv_at hl 2 rfl) ?_
  refine l_arg (k := 1) hX hH.2.2 hl (by decide) hN hL (by decide) dL_law_710 dL_law_711 dL_law_712 dL_law_713 dL_law_714 ?_
  refine l_arg (k := 2) hX hH.2.2 hl (by decide) hN hL (by decide) dL_law_715 dL_law_716 dL_law_717 dL_law_718 dL_law_719 ?_
  refine lc_A (As := [.int (xs (6 * N + 1)), .int (xs (6 * N + 2))]) (rest := []) hX hH (n_X11_decide l G Z Q D _ u u1 r1 c1 d1 (xs (6 * N + 1)) (xs (6 * N + 2)) H.size e1) wkc_X11_decide (t2_at (i := 5) (j := 228) (by decide +kernel)) (t2_at (i := 5) (j := 229) (by decide +kernel)) (t2_at (i := 5) (j := 230) (by decide +kernel)) kVX11_decide ⟨Nat.le_of_ble_eq_true rfl, Nat.le_of_ble_eq_true rfl⟩ ⟨by omega, by omega⟩ rfl hl.1 rfl (Nat.le_of_ble_eq_true rfl) dL_law_720 (fun D1 H locs hH => ?_)
  refine lv_pop hx hb dL_law_723 rfl ?_
  refine lv_aload_n hx hb dL_law_724 rfl (lv_at hl 1 rfl) ?_
  refine l_arg (k := 1) hX hH.2.2 hl (by decide) hN hL (by decide) dL_law_725 dL_law_726 dL_law_727 dL_law_728 dL_law_729 ?_
  refine l_arg (k := 2) hX hH.2.2 hl (by decide) hN hL (by decide) dL_law_730 dL_law_731 dL_law_732 dL_law_733 dL_law_734 ?_
  refine lm_i (As := [.int (xs (6 * N + 1)), .int (xs (6 * N + 2))]) (rest := []) hX hQ hH (m_decide l G Z.1 Qm v v1 r2 (xs (6 * N + 1)) (xs (6 * N + 2)) H.size f1) wmc_X13_decide (t2_at (i := 9) (j := 187) (by decide +kernel)) (t2_at (i := 9) (j := 188) (by decide +kernel)) (t2_at (i := 9) (j := 189) (by decide +kernel)) kVX13_decide ⟨Nat.le_of_ble_eq_true rfl, Nat.le_of_ble_eq_true rfl⟩ ⟨by omega, by omega⟩ rfl hl.1 rfl (Nat.le_of_ble_eq_true rfl) dL_law_735 (fun H locs hH => ?_)
  refine lv_pop hx hb dL_law_738 rfl ?_
  refine lv_goto (tgt := 953) hx hb dL_law_739 (by decide) ?_
  exact kk _ _ _ _ ⟨Q, D1, mc, o, T1, P, LW, u1, n1, ch1, C1, tp, M, Qm, v1, rfl, rfl, hQ, hH, hT, by omega, hPb, hWb, hS1, by omega, e2, htp3, by omega, hL1, by omega, by omega⟩
set_option maxHeartbeats 4000000 in
set_option maxRecDepth 100000 in
theorem law_mat (hX : lX p c s m b A G Z mi L xs) (hlocks : meth.locks = false) (hL : L ≤ 3072) (hl : lv_has ls 4 [(3, .int (nI (6 * N))), (2, .ref q3), (1, .ref q1), (0, .ref b)]) (hN : 6 * N + 6 ≤ L) (h : LI G Z s A q1 q3 N H locs cells slots) (kk : ∀ (H1 : Heap) (locs1 : List Loc) (c1 s1 : Nat), LI G Z s A q1 q3 (N + 1) H1 locs1 c1 s1 → W p l e room_1 s m #[Value.ref b] below meth c H1 locs1 c1 s1 Q' (F0 m 953 ls [])) : W p l e room_1 s m #[Value.ref b] below meth c H locs cells slots Q' (F0 m 742 ls []) := by
  obtain ⟨Q, D, mc, o, T1, P, LW, u, n, ch, C, tp, M, Qm, v, rfl, rfl, hQ, hH, hT, hLW, hPb, hWb, hS, hch, htp, htp3, hM, hLv, hce, hsl⟩ := h
  have hx := hX.1
  have hb := hX.2.1
  have hC := hS.1.C
  obtain ⟨r1, u1, e1, hs1⟩ := tt_x_X11_mat (fun u => (lnw P LW u).2.2) (xs (6 * N + 1)) (xs (6 * N + 2)) u
  have hS1 : CS u1 n ch C := hS.same hs1 (by decide) (by decide)
  have e2 : u1.1 2 = nI tp := (hs1.1 2 (by decide)).trans htp
  obtain ⟨r2, v1, f1, hr, hL1⟩ := bo_mat hLv hs1 e1
  refine lv_aload_n hx hb dL_law_742 rfl (lv_at hl 2 rfl) ?_
  refine l_arg (k := 1) hX hH.2.2 hl (by decide) hN hL (by decide) dL_law_743 dL_law_744 dL_law_745 dL_law_746 dL_law_747 ?_
  refine l_arg (k := 2) hX hH.2.2 hl (by decide) hN hL (by decide) dL_law_748 dL_law_749 dL_law_750 dL_law_751 dL_law_752 ?_
  refine lc_A (As := [.int (xs (6 * N + 1)), .int (xs (6 * N + 2))]) (rest := []) hX hH (n_X11_mat l G Z Q D _ P LW (hT.at mc) u u1 r1 (xs (6 * N + 1)) (xs (6 * N + 2)) H.size e1) wkc_X11_mat (t2_at (i := 5) (j := 237) (by decide +kernel)) (t2_at (i := 5) (j := 238) (by decide +kernel)) (t2_at (i := 5) (j := 239) (by decide +kernel)) kVX11_mat ⟨Nat.le_of_ble_eq_true rfl, Nat.le_of_ble_eq_true rfl⟩ ⟨by omega, by omega⟩ rfl hl.1 rfl (Nat.le_of_ble_eq_true rfl) dL_law_753 (fun D1 H locs hH => ?_)
  refine lv_pop hx hb dL_law_756 rfl ?_
  refine lv_aload_n hx hb dL_law_757 rfl (lv_at hl 1 rfl) ?_
  refine l_arg (k := 1) hX hH.2.2 hl (by decide) hN hL (by decide) dL_law_758 dL_law_759 dL_law_760 dL_law_761 dL_law_762 ?_
  refine l_arg (k := 2) hX hH.2.2 hl (by decide) hN hL (by decide) dL_law_763 dL_law_764 dL_law_765 dL_law_766 dL_law_767 ?_
  refine lm_i (As := [.int (xs (6 * N + 1)), .int (xs (6 * N + 2))]) (rest := []) hX hQ hH (m_mat l G Z.1 Qm v v1 r2 (xs (6 * N + 1)) (xs (6 * N + 2)) H.size f1) wmc_X13_mat (t2_at (i := 9) (j := 191) (by decide +kernel)) (t2_at (i := 9) (j := 192) (by decide +kernel)) (t2_at (i := 9) (j := 193) (by decide +kernel)) kVX13_mat ⟨Nat.le_of_ble_eq_true rfl, Nat.le_of_ble_eq_true rfl⟩ ⟨by omega, by omega⟩ rfl hl.1 rfl (Nat.le_of_ble_eq_true rfl) dL_law_768 (fun H locs hH => ?_)
  refine lv_pop hx hb dL_law_771 rfl ?_
  refine lv_goto (tgt := 953) hx hb dL_law_772 (by decide) ?_
  exact kk _ _ _ _ ⟨Q, D1, mc, o, T1, P, LW, u1, n, ch, C, tp, M, Qm, v1, rfl, rfl, hQ, hH, hT, by omega, hPb, hWb, hS1, by omega, e2, htp3, by omega, hL1, by omega, by omega⟩
set_option maxHeartbeats 4000000 in
set_option maxRecDepth 100000 in
theorem law_strike (hX : lX p c s m b A G Z mi L xs) (hlocks : meth.locks = false) (hL : L ≤ 3072) (hl : lv_has ls 4 [(3, .int (nI (6 * N))), (2, .ref q3), (1, .ref q1), (0, .ref b)]) (hN : 6 * N + 6 ≤ L) (h : LI G Z s A q1 q3 N H locs cells slots) (kk : ∀ (H1 : Heap) (locs1 : List Loc) (c1 s1 : Nat), LI G Z s A q1 q3 (N + 1) H1 locs1 c1 s1 → W p l e room_1 s m #[Value.ref b] below meth c H1 locs1 c1 s1 Q' (F0 m 953 ls [])) : W p l e room_1 s m #[Value.ref b] below meth c H locs cells slots Q' (F0 m 775 ls []) := by
  obtain ⟨Q, D, mc, o, T1, P, LW, u, n, ch, C, tp, M, Qm, v, rfl, rfl, hQ, hH, hT, hLW, hPb, hWb, hS, hch, htp, htp3, hM, hLv, hce, hsl⟩ := h
  have hx := hX.1
  have hb := hX.2.1
  have hC := hS.1.C
  obtain ⟨r1, u1, c1, d1, n1, ch1, C1, e1, hS1, hch1, hC1, hd1, hc1, hs1⟩ := as_strike (xs (6 * N + 1)) (xs (6 * N + 2)) u n ch C hS (by omega)
  have hCC := hS1.1.C
  have e2 : u1.1 2 = nI tp := (hs1.1 2 (by decide)).trans htp
  obtain ⟨r2, v1, f1, hr, hL1⟩ := bo_strike hLv (by omega) hs1 e1
  refine lv_aload_n hx hb dL_law_775 rfl (lv_at hl 2 rfl) ?_
  refine l_arg (k := 1) hX hH.2.2 hl (by decide) hN hL (by decide) dL_law_776 dL_law_777 dL_law_778 dL_law_779 dL_law_780 ?_
  refine l_arg (k := 2) hX hH.2.2 hl (by decide) hN hL (by decide) dL_law_781 dL_law_782 dL_law_783 dL_law_784 dL_law_785 ?_
  refine lc_A (As := [.int (xs (6 * N + 1)), .int (xs (6 * N + 2))]) (rest := []) hX hH (n_X11_strike l G Z Q D _ u u1 r1 c1 d1 (xs (6 * N + 1)) (xs (6 * N + 2)) H.size e1) wkc_X11_strike (t2_at (i := 6) (j := 6) (by decide +kernel)) (t2_at (i := 6) (j := 7) (by decide +kernel)) (t2_at (i := 6) (j := 8) (by decide +kernel)) kVX11_strike ⟨Nat.le_of_ble_eq_true rfl, Nat.le_of_ble_eq_true rfl⟩ ⟨by omega, by omega⟩ rfl hl.1 rfl (Nat.le_of_ble_eq_true rfl) dL_law_786 (fun D1 H locs hH => ?_)
  refine lv_pop hx hb dL_law_789 rfl ?_
  refine lv_aload_n hx hb dL_law_790 rfl (lv_at hl 1 rfl) ?_
  refine l_arg (k := 1) hX hH.2.2 hl (by decide) hN hL (by decide) dL_law_791 dL_law_792 dL_law_793 dL_law_794 dL_law_795 ?_
  refine l_arg (k := 2) hX hH.2.2 hl (by decide) hN hL (by decide) dL_law_796 dL_law_797 dL_law_798 dL_law_799 dL_law_800 ?_
  refine lm_i (As := [.int (xs (6 * N + 1)), .int (xs (6 * N + 2))]) (rest := []) hX hQ hH (m_strike l G Z.1 Qm v v1 r2 (xs (6 * N + 1)) (xs (6 * N + 2)) H.size f1) wmc_X13_strike (t2_at (i := 9) (j := 199) (by decide +kernel)) (t2_at (i := 9) (j := 200) (by decide +kernel)) (t2_at (i := 9) (j := 201) (by decide +kernel)) kVX13_strike ⟨Nat.le_of_ble_eq_true rfl, Nat.le_of_ble_eq_true rfl⟩ ⟨by omega, by omega⟩ rfl hl.1 rfl (Nat.le_of_ble_eq_true rfl) dL_law_801 (fun H locs hH => ?_)
  refine lv_pop hx hb dL_law_804 rfl ?_
  refine lv_goto (tgt := 953) hx hb dL_law_805 (by decide) ?_
  exact kk _ _ _ _ ⟨Q, D1, mc, o, T1, P, LW, u1, n1, ch1, C1, tp, M, Qm, v1, rfl, rfl, hQ, hH, hT, by omega, hPb, hWb, hS1, by omega, e2, htp3, by omega, hL1, by omega, by omega⟩
set_option maxHeartbeats 4000000 in
set_option maxRecDepth 100000 in
theorem law_medal (hX : lX p c s m b A G Z mi L xs) (hlocks : meth.locks = false) (hL : L ≤ 3072) (hl : lv_has ls 4 [(3, .int (nI (6 * N))), (2, .ref q3), (1, .ref q1), (0, .ref b)]) (hN : 6 * N + 6 ≤ L) (h : LI G Z s A q1 q3 N H locs cells slots) (kk : ∀ (H1 : Heap) (locs1 : List Loc) (c1 s1 : Nat), LI G Z s A q1 q3 (N + 1) H1 locs1 c1 s1 → W p l e room_1 s m #[Value.ref b] below meth c H1 locs1 c1 s1 Q' (F0 m 953 ls [])) : W p l e room_1 s m #[Value.ref b] below meth c H locs cells slots Q' (F0 m 808 ls []) := by
  obtain ⟨Q, D, mc, o, T1, P, LW, u, n, ch, C, tp, M, Qm, v, rfl, rfl, hQ, hH, hT, hLW, hPb, hWb, hS, hch, htp, htp3, hM, hLv, hce, hsl⟩ := h
  have hx := hX.1
  have hb := hX.2.1
  have hC := hS.1.C
  obtain ⟨r1, u1, e1, hs1⟩ := tt_x_X11_medal (xs (6 * N + 1)) (xs (6 * N + 2)) u
  have hS1 : CS u1 n ch C := hS.same hs1 (by decide) (by decide)
  have e2 : u1.1 2 = nI tp := (hs1.1 2 (by decide)).trans htp
  obtain ⟨r2, v1, f1, hL1⟩ := bo_medalw hLv hs1 (a := (xs (6 * N + 1))) (b := (xs (6 * N + 2)))
  refine lv_aload_n hx hb dL_law_808 rfl (lv_at hl 2 rfl) ?_
  refine l_arg (k := 1) hX hH.2.2 hl (by decide) hN hL (by decide) dL_law_809 dL_law_810 dL_law_811 dL_law_812 dL_law_813 ?_
  refine l_arg (k := 2) hX hH.2.2 hl (by decide) hN hL (by decide) dL_law_814 dL_law_815 dL_law_816 dL_law_817 dL_law_818 ?_
  refine lc_A (As := [.int (xs (6 * N + 1)), .int (xs (6 * N + 2))]) (rest := []) hX hH (n_X11_medal l G Z Q D _ u u1 r1 (xs (6 * N + 1)) (xs (6 * N + 2)) H.size e1) wkc_X11_medal (t2_at (i := 6) (j := 23) (by decide +kernel)) (t2_at (i := 6) (j := 24) (by decide +kernel)) (t2_at (i := 6) (j := 25) (by decide +kernel)) kVX11_medal ⟨Nat.le_of_ble_eq_true rfl, Nat.le_of_ble_eq_true rfl⟩ ⟨by omega, by omega⟩ rfl hl.1 rfl (Nat.le_of_ble_eq_true rfl) dL_law_819 (fun D1 H locs hH => ?_)
  refine lv_pop hx hb dL_law_822 rfl ?_
  refine lv_aload_n hx hb dL_law_823 rfl (lv_at hl 1 rfl) ?_
  refine l_arg (k := 1) hX hH.2.2 hl (by decide) hN hL (by decide) dL_law_824 dL_law_825 dL_law_826 dL_law_827 dL_law_828 ?_
  refine l_arg (k := 2) hX hH.2.2 hl (by decide) hN hL (by decide) dL_law_829 dL_law_830 dL_law_831 dL_law_832 dL_law_833 ?_
  refine lm_i (As := [.int (xs (6 * N + 1)), .int (xs (6 * N + 2))]) (rest := []) hX hQ hH (m_medal l G Z.1 Qm v v1 r2 (xs (6 * N + 1)) (xs (6 * N + 2)) H.size f1) wmc_X13_medal (t2_at (i := 9) (j := 203) (by decide +kernel)) (t2_at (i := 9) (j := 204) (by decide +kernel)) (t2_at (i := 9) (j := 205) (by decide +kernel)) kVX13_medal ⟨Nat.le_of_ble_eq_true rfl, Nat.le_of_ble_eq_true rfl⟩ ⟨by omega, by omega⟩ rfl hl.1 rfl (Nat.le_of_ble_eq_true rfl) dL_law_834 (fun H locs hH => ?_)
  refine lv_pop hx hb dL_law_837 rfl ?_
  refine lv_goto (tgt := 953) hx hb dL_law_838 (by decide) ?_
  exact kk _ _ _ _ ⟨Q, D1, mc, o, T1, P, LW, u1, n, ch, C, tp, M, Qm, v1, rfl, rfl, hQ, hH, hT, by omega, hPb, hWb, hS1, by omega, e2, htp3, by omega, hL1, by omega, by omega⟩
set_option maxHeartbeats 4000000 in
set_option maxRecDepth 100000 in
theorem law_plan (hX : lX p c s m b A G Z mi L xs) (hlocks : meth.locks = false) (hL : L ≤ 3072) (hl : lv_has ls 4 [(3, .int (nI (6 * N))), (2, .ref q3), (1, .ref q1), (0, .ref b)]) (hN : 6 * N + 6 ≤ L) (h : LI G Z s A q1 q3 N H locs cells slots) (kk : ∀ (H1 : Heap) (locs1 : List Loc) (c1 s1 : Nat), LI G Z s A q1 q3 (N + 1) H1 locs1 c1 s1 → W p l e room_1 s m #[Value.ref b] below meth c H1 locs1 c1 s1 Q' (F0 m 953 ls [])) : W p l e room_1 s m #[Value.ref b] below meth c H locs cells slots Q' (F0 m 841 ls []) := by
  obtain ⟨Q, D, mc, o, T1, P, LW, u, n, ch, C, tp, M, Qm, v, rfl, rfl, hQ, hH, hT, hLW, hPb, hWb, hS, hch, htp, htp3, hM, hLv, hce, hsl⟩ := h
  have hx := hX.1
  have hb := hX.2.1
  have hC := hS.1.C
  obtain ⟨r1, u1, e1, hs1⟩ := tt_x_X11_plan (xs (6 * N + 1)) (xs (6 * N + 2)) u
  have hS1 : CS u1 n ch C := hS.same hs1 (by decide) (by decide)
  have e2 : u1.1 2 = nI tp := (hs1.1 2 (by decide)).trans htp
  obtain ⟨r2, v1, f1, hL1⟩ := bo_planw hLv hs1 (a := (xs (6 * N + 1))) (b := (xs (6 * N + 2)))
  refine lv_aload_n hx hb dL_law_841 rfl (lv_at hl 2 rfl) ?_
  refine l_arg (k := 1) hX hH.2.2 hl (by decide) hN hL (by decide) dL_law_842 dL_law_843 dL_law_844 dL_law_845 dL_law_846 ?_
  refine l_arg (k := 2) hX hH.2.2 hl (by decide) hN hL (by decide) dL_law_847 dL_law_848 dL_law_849 dL_law_850 dL_law_851 ?_
  refine lc_A (As := [.int (xs (6 * N + 1)), .int (xs (6 * N + 2))]) (rest := []) hX hH (n_X11_plan l G Z Q D _ u u1 r1 (xs (6 * N + 1)) (xs (6 * N + 2)) H.size e1) wkc_X11_plan (t2_at (i := 6) (j := 78) (by decide +kernel)) (t2_at (i := 6) (j := 79) (by decide +kernel)) (t2_at (i := 6) (j := 80) (by decide +kernel)) kVX11_plan ⟨Nat.le_of_ble_eq_true rfl, Nat.le_of_ble_eq_true rfl⟩ ⟨by omega, by omega⟩ rfl hl.1 rfl (Nat.le_of_ble_eq_true rfl) dL_law_852 (fun D1 H locs hH => ?_)
  refine lv_pop hx hb dL_law_855 rfl ?_
  refine lv_aload_n hx hb dL_law_856 rfl (lv_at hl 1 rfl) ?_
  refine l_arg (k := 1) hX hH.2.2 hl (by decide) hN hL (by decide) dL_law_857 dL_law_858 dL_law_859 dL_law_860 dL_law_861 ?_
  refine l_arg (k := 2) hX hH.2.2 hl (by decide) hN hL (by decide) dL_law_862 dL_law_863 dL_law_864 dL_law_865 dL_law_866 ?_
  refine lm_i (As := [.int (xs (6 * N + 1)), .int (xs (6 * N + 2))]) (rest := []) hX hQ hH (m_plan l G Z.1 Qm v v1 r2 (xs (6 * N + 1)) (xs (6 * N + 2)) H.size f1) wmc_X13_plan (t2_at (i := 9) (j := 232) (by decide +kernel)) (t2_at (i := 9) (j := 233) (by decide +kernel)) (t2_at (i := 9) (j := 234) (by decide +kernel)) kVX13_plan ⟨Nat.le_of_ble_eq_true rfl, Nat.le_of_ble_eq_true rfl⟩ ⟨by omega, by omega⟩ rfl hl.1 rfl (Nat.le_of_ble_eq_true rfl) dL_law_867 (fun H locs hH => ?_)
  refine lv_pop hx hb dL_law_870 rfl ?_
  refine lv_goto (tgt := 953) hx hb dL_law_871 (by decide) ?_
  exact kk _ _ _ _ ⟨Q, D1, mc, o, T1, P, LW, u1, n, ch, C, tp, M, Qm, v1, rfl, rfl, hQ, hH, hT, by omega, hPb, hWb, hS1, by omega, e2, htp3, by omega, hL1, by omega, by omega⟩
set_option maxHeartbeats 4000000 in
set_option maxRecDepth 100000 in
theorem law_planned (hX : lX p c s m b A G Z mi L xs) (hlocks : meth.locks = false) (hL : L ≤ 3072) (hl : lv_has ls 4 [(3, .int (nI (6 * N))), (2, .ref q3), (1, .ref q1), (0, .ref b)]) (hN : 6 * N + 6 ≤ L) (h : LI G Z s A q1 q3 N H locs cells slots) (kk : ∀ (H1 : Heap) (locs1 : List Loc) (c1 s1 : Nat), LI G Z s A q1 q3 (N + 1) H1 locs1 c1 s1 → W p l e room_1 s m #[Value.ref b] below meth c H1 locs1 c1 s1 Q' (F0 m 953 ls [])) : W p l e room_1 s m #[Value.ref b] below meth c H locs cells slots Q' (F0 m 874 ls []) := by
  obtain ⟨Q, D, mc, o, T1, P, LW, u, n, ch, C, tp, M, Qm, v, rfl, rfl, hQ, hH, hT, hLW, hPb, hWb, hS, hch, htp, htp3, hM, hLv, hce, hsl⟩ := h
  have hx := hX.1
  have hb := hX.2.1
  have hC := hS.1.C
  obtain ⟨r1, u1, e1, hs1⟩ := tt_x_X11_planned (xs (6 * N + 1)) (xs (6 * N + 2)) (xs (6 * N + 3)) u
  have hS1 : CS u1 n ch C := hS.same hs1 (by decide) (by decide)
  have e2 : u1.1 2 = nI tp := (hs1.1 2 (by decide)).trans htp
  obtain ⟨r2, v1, f1, hL1⟩ := bo_plannedw hLv hs1 (a := (xs (6 * N + 1))) (b := (xs (6 * N + 2))) (d := (xs (6 * N + 3)))
  refine lv_aload_n hx hb dL_law_874 rfl (lv_at hl 2 rfl) ?_
  refine l_arg (k := 1) hX hH.2.2 hl (by decide) hN hL (by decide) dL_law_875 dL_law_876 dL_law_877 dL_law_878 dL_law_879 ?_
  refine l_arg (k := 2) hX hH.2.2 hl (by decide) hN hL (by decide) dL_law_880 dL_law_881 dL_law_882 dL_law_883 dL_law_884 ?_
  refine l_arg (k := 3) hX hH.2.2 hl (by decide) hN hL (by decide) dL_law_885 dL_law_886 dL_law_887 dL_law_888 dL_law_889 ?_
  refine lc_A (As := [.int (xs (6 * N + 1)), .int (xs (6 * N + 2)), .int (xs (6 * N + 3))]) (rest := []) hX hH (n_X11_planned l G Z Q D _ u u1 r1 (xs (6 * N + 1)) (xs (6 * N + 2)) (xs (6 * N + 3)) H.size e1) wkc_X11_planned (t2_at (i := 6) (j := 172) (by decide +kernel)) (t2_at (i := 6) (j := 173) (by decide +kernel)) (t2_at (i := 6) (j := 174) (by decide +kernel)) kVX11_planned ⟨Nat.le_of_ble_eq_true rfl, Nat.le_of_ble_eq_true rfl⟩ ⟨by omega, by omega⟩ rfl hl.1 rfl (Nat.le_of_ble_eq_true rfl) dL_law_890 (fun D1 H locs hH => ?_)
  refine lv_pop hx hb dL_law_893 rfl ?_
  refine lv_aload_n hx hb dL_law_894 rfl (lv_at hl 1 rfl) ?_
  refine l_arg (k := 1) hX hH.2.2 hl (by decide) hN hL (by decide) dL_law_895 dL_law_896 dL_law_897 dL_law_898 dL_law_899 ?_
  refine l_arg (k := 2) hX hH.2.2 hl (by decide) hN hL (by decide) dL_law_900 dL_law_901 dL_law_902 dL_law_903 dL_law_904 ?_
  refine l_arg (k := 3) hX hH.2.2 hl (by decide) hN hL (by decide) dL_law_905 dL_law_906 dL_law_907 dL_law_908 dL_law_909 ?_
  refine lm_i (As := [.int (xs (6 * N + 1)), .int (xs (6 * N + 2)), .int (xs (6 * N + 3))]) (rest := []) hX hQ hH (m_planned l G Z.1 Qm v v1 r2 (xs (6 * N + 1)) (xs (6 * N + 2)) (xs (6 * N + 3)) H.size f1) wmc_X13_planned (t2_at (i := 10) (j := 15) (by decide +kernel)) (t2_at (i := 10) (j := 16) (by decide +kernel)) (t2_at (i := 10) (j := 17) (by decide +kernel)) kVX13_planned ⟨Nat.le_of_ble_eq_true rfl, Nat.le_of_ble_eq_true rfl⟩ ⟨by omega, by omega⟩ rfl hl.1 rfl (Nat.le_of_ble_eq_true rfl) dL_law_910 (fun H locs hH => ?_)
  refine lv_pop hx hb dL_law_913 rfl ?_
  refine lv_goto (tgt := 953) hx hb dL_law_914 (by decide) ?_
  exact kk _ _ _ _ ⟨Q, D1, mc, o, T1, P, LW, u1, n, ch, C, tp, M, Qm, v1, rfl, rfl, hQ, hH, hT, by omega, hPb, hWb, hS1, by omega, e2, htp3, by omega, hL1, by omega, by omega⟩
set_option maxHeartbeats 4000000 in
set_option maxRecDepth 100000 in
theorem law_undo (hX : lX p c s m b A G Z mi L xs) (hlocks : meth.locks = false) (hL : L ≤ 3072) (hl : lv_has ls 4 [(3, .int (nI (6 * N))), (2, .ref q3), (1, .ref q1), (0, .ref b)]) (hN : 6 * N + 6 ≤ L) (h : LI G Z s A q1 q3 N H locs cells slots) (kk : ∀ (H1 : Heap) (locs1 : List Loc) (c1 s1 : Nat), LI G Z s A q1 q3 (N + 1) H1 locs1 c1 s1 → W p l e room_1 s m #[Value.ref b] below meth c H1 locs1 c1 s1 Q' (F0 m 953 ls [])) : W p l e room_1 s m #[Value.ref b] below meth c H locs cells slots Q' (F0 m 917 ls []) := by
  obtain ⟨Q, D, mc, o, T1, P, LW, u, n, ch, C, tp, M, Qm, v, rfl, rfl, hQ, hH, hT, hLW, hPb, hWb, hS, hch, htp, htp3, hM, hLv, hce, hsl⟩ := h
  have hx := hX.1
  have hb := hX.2.1
  have hC := hS.1.C
  obtain ⟨r1, u1, n1, ch1, e1, hS1, hch1, e3⟩ := cs_undo hS
  have e2 : u1.1 2 = nI tp := e3.trans htp
  obtain ⟨r2, v1, f1, hr, hL1⟩ := bo_undo hLv e1
  refine lv_aload_n hx hb dL_law_917 rfl (lv_at hl 2 rfl) ?_
  refine lc_A (As := []) (rest := []) hX hH (n_X11_undo l G Z Q D _ u u1 r1 H.size e1) wkc_X11_undo (t2_at (i := 6) (j := 180) (by decide +kernel)) (t2_at (i := 6) (j := 181) (by decide +kernel)) (t2_at (i := 6) (j := 182) (by decide +kernel)) kVX11_undo ⟨Nat.le_of_ble_eq_true rfl, Nat.le_of_ble_eq_true rfl⟩ ⟨by omega, by omega⟩ rfl hl.1 rfl (Nat.le_of_ble_eq_true rfl) dL_law_918 (fun D1 H locs hH => ?_)
  refine lv_pop hx hb dL_law_921 rfl ?_
  refine lv_aload_n hx hb dL_law_922 rfl (lv_at hl 1 rfl) ?_
  refine lm_i (As := []) (rest := []) hX hQ hH (m_undo l G Z.1 Qm v v1 r2 H.size f1) wmc_X13_undo (t2_at (i := 8) (j := 2) (by decide +kernel)) (t2_at (i := 8) (j := 3) (by decide +kernel)) (t2_at (i := 8) (j := 4) (by decide +kernel)) kVX13_undo ⟨Nat.le_of_ble_eq_true rfl, Nat.le_of_ble_eq_true rfl⟩ ⟨by omega, by omega⟩ rfl hl.1 rfl (Nat.le_of_ble_eq_true rfl) dL_law_923 (fun H locs hH => ?_)
  refine lv_pop hx hb dL_law_926 rfl ?_
  refine lv_goto (tgt := 953) hx hb dL_law_927 (by decide) ?_
  exact kk _ _ _ _ ⟨Q, D1, mc, o, T1, P, LW, u1, n1, ch1, C, tp, M, Qm, v1, rfl, rfl, hQ, hH, hT, by omega, hPb, hWb, hS1, by omega, e2, htp3, by omega, hL1, by omega, by omega⟩
set_option maxHeartbeats 4000000 in
set_option maxRecDepth 100000 in
theorem law_count (hX : lX p c s m b A G Z mi L xs) (hlocks : meth.locks = false) (hL : L ≤ 3072) (hl : lv_has ls 4 [(3, .int (nI (6 * N))), (2, .ref q3), (1, .ref q1), (0, .ref b)]) (hN : 6 * N + 6 ≤ L) (h : LI G Z s A q1 q3 N H locs cells slots) (kk : ∀ (H1 : Heap) (locs1 : List Loc) (c1 s1 : Nat), LI G Z s A q1 q3 (N + 1) H1 locs1 c1 s1 → W p l e room_1 s m #[Value.ref b] below meth c H1 locs1 c1 s1 Q' (F0 m 953 ls [])) : W p l e room_1 s m #[Value.ref b] below meth c H locs cells slots Q' (F0 m 930 ls []) := by
  obtain ⟨Q, D, mc, o, T1, P, LW, u, n, ch, C, tp, M, Qm, v, rfl, rfl, hQ, hH, hT, hLW, hPb, hWb, hS, hch, htp, htp3, hM, hLv, hce, hsl⟩ := h
  have hx := hX.1
  have hb := hX.2.1
  have hC := hS.1.C
  obtain ⟨r1, u1, e1, hs1⟩ := tt_x_X11_count (fun u => (lnw P LW u).2.2) (xs (6 * N + 1)) u
  have hS1 : CS u1 n ch C := hS.same hs1 (by decide) (by decide)
  have e2 : u1.1 2 = nI tp := (hs1.1 2 (by decide)).trans htp
  obtain ⟨r2, v1, f1, hr, hL1⟩ := bo_count hLv htp hs1 e1
  refine lv_aload_n hx hb dL_law_930 rfl (lv_at hl 2 rfl) ?_
  refine l_arg (k := 1) hX hH.2.2 hl (by decide) hN hL (by decide) dL_law_931 dL_law_932 dL_law_933 dL_law_934 dL_law_935 ?_
  refine lc_A (As := [.int (xs (6 * N + 1))]) (rest := []) hX hH (n_X11_count l G Z Q D _ P LW (hT.at mc) u u1 r1 (xs (6 * N + 1)) H.size e1) wkc_X11_count (t2_at (i := 6) (j := 190) (by decide +kernel)) (t2_at (i := 6) (j := 191) (by decide +kernel)) (t2_at (i := 6) (j := 192) (by decide +kernel)) kVX11_count ⟨Nat.le_of_ble_eq_true rfl, Nat.le_of_ble_eq_true rfl⟩ ⟨by omega, by omega⟩ rfl hl.1 rfl (Nat.le_of_ble_eq_true rfl) dL_law_936 (fun D1 H locs hH => ?_)
  refine lv_pop hx hb dL_law_939 rfl ?_
  refine lv_aload_n hx hb dL_law_940 rfl (lv_at hl 1 rfl) ?_
  refine l_arg (k := 1) hX hH.2.2 hl (by decide) hN hL (by decide) dL_law_941 dL_law_942 dL_law_943 dL_law_944 dL_law_945 ?_
  refine lm_i (As := [.int (xs (6 * N + 1))]) (rest := []) hX hQ hH (m_count l G Z.1 Qm v v1 r2 (xs (6 * N + 1)) H.size f1) wmc_X13_count (t2_at (i := 10) (j := 19) (by decide +kernel)) (t2_at (i := 10) (j := 20) (by decide +kernel)) (t2_at (i := 10) (j := 21) (by decide +kernel)) kVX13_count ⟨Nat.le_of_ble_eq_true rfl, Nat.le_of_ble_eq_true rfl⟩ ⟨by omega, by omega⟩ rfl hl.1 rfl (Nat.le_of_ble_eq_true rfl) dL_law_946 (fun H locs hH => ?_)
  refine lv_pop hx hb dL_law_949 rfl ?_
  refine lv_goto (tgt := 953) hx hb dL_law_950 (by decide) ?_
  exact kk _ _ _ _ ⟨Q, D1, mc, o, T1, P, LW, u1, n, ch, C, tp, M, Qm, v1, rfl, rfl, hQ, hH, hT, by omega, hPb, hWb, hS1, by omega, e2, htp3, by omega, hL1, by omega, by omega⟩
end LAWC
