section LAWC
variable {p : Program} {l : Launch} {e : Env} {s : State} {m : MethodId} {b : Nat} {below : List Frame} {meth : Method} {c : Code} {H : Heap} {locs : List Loc} {Q' : State → Prop} {cells slots N q1 q3 : Nat} {ls : Array Slot} {G : gG} {Z : gC} {mi L : Nat} {xs : Nat → Int32} {A : Nat → Prop}
set_option maxHeartbeats 4000000 in
set_option maxRecDepth 100000 in
theorem law_feed (hX : lX p c s m b A G Z mi L xs) (hlocks : meth.locks = false) (hL : L ≤ 3072) (hl : lv_has ls 4 [(3, .int (nI (6 * N))), (2, .ref q3), (1, .ref q1), (0, .ref b)]) (hN : 6 * N + 6 ≤ L) (h : LI G Z s A q1 q3 N H locs cells slots) (kk : ∀ (H1 : Heap) (locs1 : List Loc) (c1 s1 : Nat), LI G Z s A q1 q3 (N + 1) H1 locs1 c1 s1 → W p l e room_1 s m #[Value.ref b] below meth c H1 locs1 c1 s1 Q' (F0 m 953 ls [])) : W p l e room_1 s m #[Value.ref b] below meth c H locs cells slots Q' (F0 m 148 ls []) := by
  obtain ⟨Q, D, mc, o, T1, P, LW, u, n, ch, C, tp, M, Qm, v, rfl, rfl, hQ, hH, hT, hLW, hPb, hWb, hS, hch, htp, htp3, hM, hLv, hce, hsl⟩ := h
  have hx := hX.1
  have hb := hX.2.1
  have hC := hS.1.C
  obtain ⟨r1, u1, e1, hs1, hor⟩ := feed_okr (xs (6 * N + 1)) (xs (6 * N + 2)) (xs (6 * N + 3)) (xs (6 * N + 4)) (xs (6 * N + 5)) u tp htp3 htp
  have hS1 : CS u1 n ch C := hS.same hs1 (by decide) (by decide)
  obtain ⟨tp1, r2, v1, htp1, e2, f1, hr, hL1⟩ := bo_feed hLv htp htp3 hs1 e1
  refine lv_aload_n hx hb dL_law_148 rfl (lv_at hl 2 rfl) ?_
  refine l_arg (k := 1) hX hH.2.2 hl (by decide) hN hL (by decide) dL_law_149 dL_law_150 dL_law_151 dL_law_152 dL_law_153 ?_
  refine l_arg (k := 2) hX hH.2.2 hl (by decide) hN hL (by decide) dL_law_154 dL_law_155 dL_law_156 dL_law_157 dL_law_158 ?_
  refine l_arg (k := 3) hX hH.2.2 hl (by decide) hN hL (by decide) dL_law_159 dL_law_160 dL_law_161 dL_law_162 dL_law_163 ?_
  refine l_arg (k := 4) hX hH.2.2 hl (by decide) hN hL (by decide) dL_law_164 dL_law_165 dL_law_166 dL_law_167 dL_law_168 ?_
  refine l_arg (k := 5) hX hH.2.2 hl (by decide) hN hL (by decide) dL_law_169 dL_law_170 dL_law_171 dL_law_172 dL_law_173 ?_
  refine lc_A (As := [.int (xs (6 * N + 1)), .int (xs (6 * N + 2)), .int (xs (6 * N + 3)), .int (xs (6 * N + 4)), .int (xs (6 * N + 5))]) (rest := []) hX hH (n_X11_feed l G Z Q D _ u u1 r1 (xs (6 * N + 1)) (xs (6 * N + 2)) (xs (6 * N + 3)) (xs (6 * N + 4)) (xs (6 * N + 5)) H.size e1) wkc_X11_feed (t2_at (i := 2) (j := 196) (by decide +kernel)) (t2_at (i := 2) (j := 197) (by decide +kernel)) (t2_at (i := 2) (j := 198) (by decide +kernel)) kVX11_feed ⟨Nat.le_of_ble_eq_true rfl, Nat.le_of_ble_eq_true rfl⟩ ⟨by omega, by omega⟩ rfl hl.1 rfl (Nat.le_of_ble_eq_true rfl) dL_law_174 (fun D1 H locs hH => ?_)
  refine lv_pop hx hb dL_law_177 rfl ?_
  refine lv_aload_n hx hb dL_law_178 rfl (lv_at hl 1 rfl) ?_
  refine l_arg (k := 1) hX hH.2.2 hl (by decide) hN hL (by decide) dL_law_179 dL_law_180 dL_law_181 dL_law_182 dL_law_183 ?_
  refine l_arg (k := 2) hX hH.2.2 hl (by decide) hN hL (by decide) dL_law_184 dL_law_185 dL_law_186 dL_law_187 dL_law_188 ?_
  refine l_arg (k := 3) hX hH.2.2 hl (by decide) hN hL (by decide) dL_law_189 dL_law_190 dL_law_191 dL_law_192 dL_law_193 ?_
  refine l_arg (k := 4) hX hH.2.2 hl (by decide) hN hL (by decide) dL_law_194 dL_law_195 dL_law_196 dL_law_197 dL_law_198 ?_
  refine l_arg (k := 5) hX hH.2.2 hl (by decide) hN hL (by decide) dL_law_199 dL_law_200 dL_law_201 dL_law_202 dL_law_203 ?_
  refine lm_i (As := [.int (xs (6 * N + 1)), .int (xs (6 * N + 2)), .int (xs (6 * N + 3)), .int (xs (6 * N + 4)), .int (xs (6 * N + 5))]) (rest := []) hX hQ hH (m_feed l G Z.1 Qm v v1 r2 (xs (6 * N + 1)) (xs (6 * N + 2)) (xs (6 * N + 3)) (xs (6 * N + 4)) (xs (6 * N + 5)) H.size f1) wmc_X13_feed (t2_at (i := 9) (j := 81) (by decide +kernel)) (t2_at (i := 9) (j := 82) (by decide +kernel)) (t2_at (i := 9) (j := 83) (by decide +kernel)) kVX13_feed ⟨Nat.le_of_ble_eq_true rfl, Nat.le_of_ble_eq_true rfl⟩ ⟨by omega, by omega⟩ rfl hl.1 rfl (Nat.le_of_ble_eq_true rfl) dL_law_204 (fun H locs hH => ?_)
  refine lv_pop hx hb dL_law_207 rfl ?_
  refine lv_goto (tgt := 953) hx hb dL_law_208 (by decide) ?_
  exact kk _ _ _ _ ⟨Q, D1, mc, o, T1, P, LW, u1, n, ch, C, tp1, M + 20, Qm, v1, rfl, rfl, hQ, hH, hT, by omega, hPb, hWb, hS1, by omega, e2, htp1, by omega, hL1, by omega, by omega⟩
set_option maxHeartbeats 4000000 in
set_option maxRecDepth 100000 in
theorem law_end (hX : lX p c s m b A G Z mi L xs) (hlocks : meth.locks = false) (hL : L ≤ 3072) (hl : lv_has ls 4 [(3, .int (nI (6 * N))), (2, .ref q3), (1, .ref q1), (0, .ref b)]) (hN : 6 * N + 6 ≤ L) (h : LI G Z s A q1 q3 N H locs cells slots) (kk : ∀ (H1 : Heap) (locs1 : List Loc) (c1 s1 : Nat), LI G Z s A q1 q3 (N + 1) H1 locs1 c1 s1 → W p l e room_1 s m #[Value.ref b] below meth c H1 locs1 c1 s1 Q' (F0 m 953 ls [])) : W p l e room_1 s m #[Value.ref b] below meth c H locs cells slots Q' (F0 m 211 ls []) := by
  obtain ⟨Q, D, mc, o, T1, P, LW, u, n, ch, C, tp, M, Qm, v, rfl, rfl, hQ, hH, hT, hLW, hPb, hWb, hS, hch, htp, htp3, hM, hLv, hce, hsl⟩ := h
  have hx := hX.1
  have hb := hX.2.1
  have hC := hS.1.C
  obtain ⟨r1, u1, e1, hs1, hor⟩ := end_ok (xs (6 * N + 1)) u tp htp3 htp
  have hS1 : CS u1 n ch C := hS.same hs1 (by decide) (by decide)
  obtain ⟨tp1, r2, v1, htp1, e2, f1, hr, hL1⟩ := bo_end hLv htp htp3 hs1 e1
  refine lv_aload_n hx hb dL_law_211 rfl (lv_at hl 2 rfl) ?_
  refine l_arg (k := 1) hX hH.2.2 hl (by decide) hN hL (by decide) dL_law_212 dL_law_213 dL_law_214 dL_law_215 dL_law_216 ?_
  refine lc_A (As := [.int (xs (6 * N + 1))]) (rest := []) hX hH (n_X11_end l G Z Q D _ u u1 r1 (xs (6 * N + 1)) H.size e1) wkc_X11_end (t2_at (i := 2) (j := 208) (by decide +kernel)) (t2_at (i := 2) (j := 209) (by decide +kernel)) (t2_at (i := 2) (j := 210) (by decide +kernel)) kVX11_end ⟨Nat.le_of_ble_eq_true rfl, Nat.le_of_ble_eq_true rfl⟩ ⟨by omega, by omega⟩ rfl hl.1 rfl (Nat.le_of_ble_eq_true rfl) dL_law_217 (fun D1 H locs hH => ?_)
  refine lv_pop hx hb dL_law_220 rfl ?_
  refine lv_aload_n hx hb dL_law_221 rfl (lv_at hl 1 rfl) ?_
  refine l_arg (k := 1) hX hH.2.2 hl (by decide) hN hL (by decide) dL_law_222 dL_law_223 dL_law_224 dL_law_225 dL_law_226 ?_
  refine lm_i (As := [.int (xs (6 * N + 1))]) (rest := []) hX hQ hH (m_end l G Z.1 Qm v v1 r2 (xs (6 * N + 1)) H.size f1) wmc_X13_end (t2_at (i := 9) (j := 89) (by decide +kernel)) (t2_at (i := 9) (j := 90) (by decide +kernel)) (t2_at (i := 9) (j := 91) (by decide +kernel)) kVX13_end ⟨Nat.le_of_ble_eq_true rfl, Nat.le_of_ble_eq_true rfl⟩ ⟨by omega, by omega⟩ rfl hl.1 rfl (Nat.le_of_ble_eq_true rfl) dL_law_227 (fun H locs hH => ?_)
  refine lv_pop hx hb dL_law_230 rfl ?_
  refine lv_goto (tgt := 953) hx hb dL_law_231 (by decide) ?_
  exact kk _ _ _ _ ⟨Q, D1, mc, o, T1, P, LW, u1, n, ch, C, tp1, M, Qm, v1, rfl, rfl, hQ, hH, hT, by omega, hPb, hWb, hS1, by omega, e2, htp1, by omega, hL1, by omega, by omega⟩
set_option maxHeartbeats 4000000 in
set_option maxRecDepth 100000 in
theorem law_laws (hX : lX p c s m b A G Z mi L xs) (hlocks : meth.locks = false) (hL : L ≤ 3072) (hl : lv_has ls 4 [(3, .int (nI (6 * N))), (2, .ref q3), (1, .ref q1), (0, .ref b)]) (hN : 6 * N + 6 ≤ L) (h : LI G Z s A q1 q3 N H locs cells slots) (kk : ∀ (H1 : Heap) (locs1 : List Loc) (c1 s1 : Nat), LI G Z s A q1 q3 (N + 1) H1 locs1 c1 s1 → W p l e room_1 s m #[Value.ref b] below meth c H1 locs1 c1 s1 Q' (F0 m 953 ls [])) : W p l e room_1 s m #[Value.ref b] below meth c H locs cells slots Q' (F0 m 234 ls []) := by
  obtain ⟨Q, D, mc, o, T1, P, LW, u, n, ch, C, tp, M, Qm, v, rfl, rfl, hQ, hH, hT, hLW, hPb, hWb, hS, hch, htp, htp3, hM, hLv, hce, hsl⟩ := h
  have hx := hX.1
  have hb := hX.2.1
  have hC := hS.1.C
  refine lv_aload_n hx hb dL_law_234 rfl (lv_at hl 2 rfl) ?_
  rcases laws_pure hS (by omega) with ⟨r1, u1, e1, hS1, e2⟩ | ⟨r5, u5, r6, u6, c6, d6, n6, ch6, C6, e1, e6, hS1, hch6, hC6, hd6, hc6, e2, h23⟩
  · obtain ⟨r2, v1, f1, hr, hL1⟩ := bo_lawsNo hLv (by omega) e1
    refine lc_A (As := []) (rest := []) hX hH (n_X11_lawsNo l G Z Q D _ u u1 r1 H.size e1) wkc_X11_laws (t2_at (i := 2) (j := 212) (by decide +kernel)) (t2_at (i := 2) (j := 213) (by decide +kernel)) (t2_at (i := 2) (j := 214) (by decide +kernel)) kVX11_laws ⟨Nat.le_of_ble_eq_true rfl, Nat.le_of_ble_eq_true rfl⟩ ⟨by omega, by omega⟩ rfl hl.1 rfl (Nat.le_of_ble_eq_true rfl) dL_law_235 (fun D1 H locs hH => ?_)
    refine lv_pop hx hb dL_law_238 rfl ?_
    refine lv_aload_n hx hb dL_law_239 rfl (lv_at hl 1 rfl) ?_
    refine lm_w (As := []) (rest := []) hX hQ hH (m_laws l G Z.1 Qm v v1 r2 H.size f1) wmc_X13_laws (t2_at (i := 9) (j := 69) (by decide +kernel)) (t2_at (i := 9) (j := 70) (by decide +kernel)) (t2_at (i := 9) (j := 71) (by decide +kernel)) kVX13_laws ⟨Nat.le_of_ble_eq_true rfl, Nat.le_of_ble_eq_true rfl⟩ ⟨by omega, by omega⟩ rfl hl.1 rfl (Nat.le_of_ble_eq_true rfl) dL_law_240 (fun H locs hH => ?_)
    refine lv_pop hx hb dL_law_243 rfl ?_
    refine lv_goto (tgt := 953) hx hb dL_law_244 (by decide) ?_
    exact kk _ _ _ _ ⟨Q, D1, mc, o, T1, P, LW, u1, n, ch, C, 0, M, Qm, v1, rfl, rfl, hQ, hH, hT, by omega, hPb, hWb, hS1, by omega, e2, by omega, by omega, hL1, by omega, by omega⟩
  · have hCC := hS1.1.C
    obtain ⟨r2, v1, f1, hr, hL1⟩ := bo_lawsYes (wd := (Q 10, dlq Q, dL u5)) hLv (by omega) (by omega) rfl e1 e6
    refine bcall (C := (RX11, TX11, 11)) (ci := 12) (q0 := 0) (As := []) (rest := []) (Bp := fun ws1 => ∃ (Q1 : Nat → Nat) (D1 : Nat × Nat) (mc1 : Int32) (o1 : gOa) (T2 : va_W), Q1 0 = Q 0 ∧ toldC G Q1 T2 P (kpL LW (rg (u5.2 0) 2088 3) (Q 10, dlq Q, dL u5)) o1 ∧ ws1 = cW G Q1 D1 (tlC Z Q1 mc1 (kpL LW (rg (u5.2 0) 2088 3) (Q 10, dlq Q, dL u5)).length o1 ++ T2) u6) hX hH.1 hH.2.1 hH.2.2 (wr_out hH.1 hH.2.1) (wc_F hH.2.1 (fun q h => hX.2.2.2.2.2.2.2.2.1 q (Nat.le_trans hH.2.2.1 h))) (n_X11_lawsYes l G Z mi Q D T1 P LW o mc u u5 u6 r5 r6 c6 d6 H.size hT (by omega) e1 e6) cPL.blind (fun U hU hW => lpre_c hX hH.1 hH.2.1 hH.2.2 U hU hW) (fun t ⟨Q1, D1, mc1, o1, T2, b0, b1, b2, b3⟩ => ⟨_, ⟨Q1, D1, mc1, o1, T2, b0, b1, rfl⟩, b2, b3⟩) rfl rfl (gdV (t2_at (i := 2) (j := 212) (by decide +kernel)) (t2_at (i := 2) (j := 213) (by decide +kernel)) (t2_at (i := 2) (j := 214) (by decide +kernel)) (in_wK _ wka755) (fun w9 h9 => (List.mem_cons.mp h9).elim (fun z => ⟨z ▸ in_wK _ wkc_X11_laws, z ▸ gd_wK _ wkc_X11_laws⟩) (fun z => ⟨in_wKL _ z, gd_wKL _ z⟩))) kVX11_laws ⟨Nat.le_of_ble_eq_true rfl, Nat.le_of_ble_eq_true rfl⟩ ⟨by omega, by omega⟩ rfl hl.1 rfl (Nat.le_of_ble_eq_true rfl) dL_law_235 (fun ws1 H locs hBp h1 h2 h3 => ?_)
    obtain ⟨Q1, D1, mc1, o1, T2, q0, hT2, rfl⟩ := hBp
    have hH : bH G Q1 D1 (tlC Z Q1 mc1 (kpL LW (rg (u5.2 0) 2088 3) (Q 10, dlq Q, dL u5)).length o1 ++ T2) u6 Qm v.1 A s H locs := ⟨h1, h2, h3⟩
    have hlen := kpL_len LW (rg (u5.2 0) 2088 3) (Q 10, dlq Q, dL u5)
    have hWb2 : ∀ x ∈ kpL LW (rg (u5.2 0) 2088 3) (Q 10, dlq Q, dL u5), (x.2.2.1 3).toInt ≤ bB := fun x hx => by
      rcases kpL_mem hx with z | rfl
      · exact hWb x z
      · exact h23
    refine lv_pop hx hb dL_law_238 rfl ?_
    refine lv_aload_n hx hb dL_law_239 rfl (lv_at hl 1 rfl) ?_
    refine lm_w (As := []) (rest := []) hX hQ hH (m_laws l G Z.1 Qm v v1 r2 H.size f1) wmc_X13_laws (t2_at (i := 9) (j := 69) (by decide +kernel)) (t2_at (i := 9) (j := 70) (by decide +kernel)) (t2_at (i := 9) (j := 71) (by decide +kernel)) kVX13_laws ⟨Nat.le_of_ble_eq_true rfl, Nat.le_of_ble_eq_true rfl⟩ ⟨by omega, by omega⟩ rfl hl.1 rfl (Nat.le_of_ble_eq_true rfl) dL_law_240 (fun H locs hH => ?_)
    refine lv_pop hx hb dL_law_243 rfl ?_
    refine lv_goto (tgt := 953) hx hb dL_law_244 (by decide) ?_
    exact kk _ _ _ _ ⟨Q1, D1, mc1, o1, T2, P, _, u6, n6, ch6, C6, 0, M, Qm, v1, q0, rfl, hQ, hH, hT2, by omega, hPb, hWb2, hS1, by omega, e2, by omega, by omega, hL1, by omega, by omega⟩
set_option maxHeartbeats 4000000 in
set_option maxRecDepth 100000 in
theorem law_fault (hX : lX p c s m b A G Z mi L xs) (hlocks : meth.locks = false) (hL : L ≤ 3072) (hl : lv_has ls 4 [(3, .int (nI (6 * N))), (2, .ref q3), (1, .ref q1), (0, .ref b)]) (hN : 6 * N + 6 ≤ L) (h : LI G Z s A q1 q3 N H locs cells slots) (kk : ∀ (H1 : Heap) (locs1 : List Loc) (c1 s1 : Nat), LI G Z s A q1 q3 (N + 1) H1 locs1 c1 s1 → W p l e room_1 s m #[Value.ref b] below meth c H1 locs1 c1 s1 Q' (F0 m 953 ls [])) : W p l e room_1 s m #[Value.ref b] below meth c H locs cells slots Q' (F0 m 247 ls []) := by
  obtain ⟨Q, D, mc, o, T1, P, LW, u, n, ch, C, tp, M, Qm, v, rfl, rfl, hQ, hH, hT, hLW, hPb, hWb, hS, hch, htp, htp3, hM, hLv, hce, hsl⟩ := h
  have hx := hX.1
  have hb := hX.2.1
  have hC := hS.1.C
  obtain ⟨r1, u1, e1, hs1⟩ := tt_x_X11_fault (xs (6 * N + 1)) u
  have hS1 : CS u1 n ch C := hS.same hs1 (by decide) (by decide)
  have e2 : u1.1 2 = nI tp := (hs1.1 2 (by decide)).trans htp
  obtain ⟨r2, v1, f1, hr, hL1⟩ := bo_fault hLv hs1 e1
  refine lv_aload_n hx hb dL_law_247 rfl (lv_at hl 2 rfl) ?_
  refine l_arg (k := 1) hX hH.2.2 hl (by decide) hN hL (by decide) dL_law_248 dL_law_249 dL_law_250 dL_law_251 dL_law_252 ?_
  refine lc_A (As := [.int (xs (6 * N + 1))]) (rest := []) hX hH (n_X11_fault l G Z Q D _ u u1 r1 (xs (6 * N + 1)) H.size e1) wkc_X11_fault (t2_at (i := 4) (j := 98) (by decide +kernel)) (t2_at (i := 4) (j := 99) (by decide +kernel)) (t2_at (i := 4) (j := 100) (by decide +kernel)) kVX11_fault ⟨Nat.le_of_ble_eq_true rfl, Nat.le_of_ble_eq_true rfl⟩ ⟨by omega, by omega⟩ rfl hl.1 rfl (Nat.le_of_ble_eq_true rfl) dL_law_253 (fun D1 H locs hH => ?_)
  refine lv_pop hx hb dL_law_256 rfl ?_
  refine lv_aload_n hx hb dL_law_257 rfl (lv_at hl 1 rfl) ?_
  refine l_arg (k := 1) hX hH.2.2 hl (by decide) hN hL (by decide) dL_law_258 dL_law_259 dL_law_260 dL_law_261 dL_law_262 ?_
  refine lm_i (As := [.int (xs (6 * N + 1))]) (rest := []) hX hQ hH (m_fault l G Z.1 Qm v v1 r2 (xs (6 * N + 1)) H.size f1) wmc_X13_fault (t2_at (i := 9) (j := 93) (by decide +kernel)) (t2_at (i := 9) (j := 94) (by decide +kernel)) (t2_at (i := 9) (j := 95) (by decide +kernel)) kVX13_fault ⟨Nat.le_of_ble_eq_true rfl, Nat.le_of_ble_eq_true rfl⟩ ⟨by omega, by omega⟩ rfl hl.1 rfl (Nat.le_of_ble_eq_true rfl) dL_law_263 (fun H locs hH => ?_)
  refine lv_pop hx hb dL_law_266 rfl ?_
  refine lv_goto (tgt := 953) hx hb dL_law_267 (by decide) ?_
  exact kk _ _ _ _ ⟨Q, D1, mc, o, T1, P, LW, u1, n, ch, C, tp, M, Qm, v1, rfl, rfl, hQ, hH, hT, by omega, hPb, hWb, hS1, by omega, e2, htp3, by omega, hL1, by omega, by omega⟩
set_option maxHeartbeats 4000000 in
set_option maxRecDepth 100000 in
theorem law_limit (hX : lX p c s m b A G Z mi L xs) (hlocks : meth.locks = false) (hL : L ≤ 3072) (hl : lv_has ls 4 [(3, .int (nI (6 * N))), (2, .ref q3), (1, .ref q1), (0, .ref b)]) (hN : 6 * N + 6 ≤ L) (h : LI G Z s A q1 q3 N H locs cells slots) (kk : ∀ (H1 : Heap) (locs1 : List Loc) (c1 s1 : Nat), LI G Z s A q1 q3 (N + 1) H1 locs1 c1 s1 → W p l e room_1 s m #[Value.ref b] below meth c H1 locs1 c1 s1 Q' (F0 m 953 ls [])) : W p l e room_1 s m #[Value.ref b] below meth c H locs cells slots Q' (F0 m 270 ls []) := by
  obtain ⟨Q, D, mc, o, T1, P, LW, u, n, ch, C, tp, M, Qm, v, rfl, rfl, hQ, hH, hT, hLW, hPb, hWb, hS, hch, htp, htp3, hM, hLv, hce, hsl⟩ := h
  have hx := hX.1
  have hb := hX.2.1
  have hC := hS.1.C
  obtain ⟨r1, u1, c1, d1, n1, ch1, C1, e1, hS1, hch1, hC1, hd1, hc1, hs1⟩ := as_limit (xs (6 * N + 1)) (xs (6 * N + 2)) (xs (6 * N + 3)) u n ch C hS (by omega)
  have hCC := hS1.1.C
  have e2 : u1.1 2 = nI tp := (hs1.1 2 (by decide)).trans htp
  obtain ⟨r2, v1, f1, hr, hL1⟩ := bo_limit hLv (by omega) hs1 e1
  refine lv_aload_n hx hb dL_law_270 rfl (lv_at hl 2 rfl) ?_
  refine l_arg (k := 1) hX hH.2.2 hl (by decide) hN hL (by decide) dL_law_271 dL_law_272 dL_law_273 dL_law_274 dL_law_275 ?_
  refine l_arg (k := 2) hX hH.2.2 hl (by decide) hN hL (by decide) dL_law_276 dL_law_277 dL_law_278 dL_law_279 dL_law_280 ?_
  refine l_arg (k := 3) hX hH.2.2 hl (by decide) hN hL (by decide) dL_law_281 dL_law_282 dL_law_283 dL_law_284 dL_law_285 ?_
  refine lc_A (As := [.int (xs (6 * N + 1)), .int (xs (6 * N + 2)), .int (xs (6 * N + 3))]) (rest := []) hX hH (n_X11_limit l G Z Q D _ u u1 r1 c1 d1 (xs (6 * N + 1)) (xs (6 * N + 2)) (xs (6 * N + 3)) H.size e1) wkc_X11_limit (t2_at (i := 4) (j := 102) (by decide +kernel)) (t2_at (i := 4) (j := 103) (by decide +kernel)) (t2_at (i := 4) (j := 104) (by decide +kernel)) kVX11_limit ⟨Nat.le_of_ble_eq_true rfl, Nat.le_of_ble_eq_true rfl⟩ ⟨by omega, by omega⟩ rfl hl.1 rfl (Nat.le_of_ble_eq_true rfl) dL_law_286 (fun D1 H locs hH => ?_)
  refine lv_pop hx hb dL_law_289 rfl ?_
  refine lv_aload_n hx hb dL_law_290 rfl (lv_at hl 1 rfl) ?_
  refine l_arg (k := 1) hX hH.2.2 hl (by decide) hN hL (by decide) dL_law_291 dL_law_292 dL_law_293 dL_law_294 dL_law_295 ?_
  refine l_arg (k := 2) hX hH.2.2 hl (by decide) hN hL (by decide) dL_law_296 dL_law_297 dL_law_298 dL_law_299 dL_law_300 ?_
  refine l_arg (k := 3) hX hH.2.2 hl (by decide) hN hL (by decide) dL_law_301 dL_law_302 dL_law_303 dL_law_304 dL_law_305 ?_
  refine lm_i (As := [.int (xs (6 * N + 1)), .int (xs (6 * N + 2)), .int (xs (6 * N + 3))]) (rest := []) hX hQ hH (m_limit l G Z.1 Qm v v1 r2 (xs (6 * N + 1)) (xs (6 * N + 2)) (xs (6 * N + 3)) H.size f1) wmc_X13_limit (t2_at (i := 9) (j := 97) (by decide +kernel)) (t2_at (i := 9) (j := 98) (by decide +kernel)) (t2_at (i := 9) (j := 99) (by decide +kernel)) kVX13_limit ⟨Nat.le_of_ble_eq_true rfl, Nat.le_of_ble_eq_true rfl⟩ ⟨by omega, by omega⟩ rfl hl.1 rfl (Nat.le_of_ble_eq_true rfl) dL_law_306 (fun H locs hH => ?_)
  refine lv_pop hx hb dL_law_309 rfl ?_
  refine lv_goto (tgt := 953) hx hb dL_law_310 (by decide) ?_
  exact kk _ _ _ _ ⟨Q, D1, mc, o, T1, P, LW, u1, n1, ch1, C1, tp, M, Qm, v1, rfl, rfl, hQ, hH, hT, by omega, hPb, hWb, hS1, by omega, e2, htp3, by omega, hL1, by omega, by omega⟩
set_option maxHeartbeats 4000000 in
set_option maxRecDepth 100000 in
theorem law_enter (hX : lX p c s m b A G Z mi L xs) (hlocks : meth.locks = false) (hL : L ≤ 3072) (hl : lv_has ls 4 [(3, .int (nI (6 * N))), (2, .ref q3), (1, .ref q1), (0, .ref b)]) (hN : 6 * N + 6 ≤ L) (h : LI G Z s A q1 q3 N H locs cells slots) (kk : ∀ (H1 : Heap) (locs1 : List Loc) (c1 s1 : Nat), LI G Z s A q1 q3 (N + 1) H1 locs1 c1 s1 → W p l e room_1 s m #[Value.ref b] below meth c H1 locs1 c1 s1 Q' (F0 m 953 ls [])) : W p l e room_1 s m #[Value.ref b] below meth c H locs cells slots Q' (F0 m 313 ls []) := by
  obtain ⟨Q, D, mc, o, T1, P, LW, u, n, ch, C, tp, M, Qm, v, rfl, rfl, hQ, hH, hT, hLW, hPb, hWb, hS, hch, htp, htp3, hM, hLv, hce, hsl⟩ := h
  have hx := hX.1
  have hb := hX.2.1
  have hC := hS.1.C
  obtain ⟨r1, u1, c1, d1, n1, ch1, C1, e1, hS1, hch1, hC1, hd1, hc1, hs1⟩ := as_enter (xs (6 * N + 1)) (xs (6 * N + 2)) u n ch C hS (by omega)
  have hCC := hS1.1.C
  have e2 : u1.1 2 = nI tp := (hs1.1 2 (by decide)).trans htp
  obtain ⟨r2, v1, f1, hr, hL1⟩ := bo_enter hLv (by omega) hs1 e1
  refine lv_aload_n hx hb dL_law_313 rfl (lv_at hl 2 rfl) ?_
  refine l_arg (k := 1) hX hH.2.2 hl (by decide) hN hL (by decide) dL_law_314 dL_law_315 dL_law_316 dL_law_317 dL_law_318 ?_
  refine l_arg (k := 2) hX hH.2.2 hl (by decide) hN hL (by decide) dL_law_319 dL_law_320 dL_law_321 dL_law_322 dL_law_323 ?_
  refine lc_A (As := [.int (xs (6 * N + 1)), .int (xs (6 * N + 2))]) (rest := []) hX hH (n_X11_enter l G Z Q D _ u u1 r1 c1 d1 (xs (6 * N + 1)) (xs (6 * N + 2)) H.size e1) wkc_X11_enter (t2_at (i := 4) (j := 140) (by decide +kernel)) (t2_at (i := 4) (j := 141) (by decide +kernel)) (t2_at (i := 4) (j := 142) (by decide +kernel)) kVX11_enter ⟨Nat.le_of_ble_eq_true rfl, Nat.le_of_ble_eq_true rfl⟩ ⟨by omega, by omega⟩ rfl hl.1 rfl (Nat.le_of_ble_eq_true rfl) dL_law_324 (fun D1 H locs hH => ?_)
  refine lv_pop hx hb dL_law_327 rfl ?_
  refine lv_aload_n hx hb dL_law_328 rfl (lv_at hl 1 rfl) ?_
  refine l_arg (k := 1) hX hH.2.2 hl (by decide) hN hL (by decide) dL_law_329 dL_law_330 dL_law_331 dL_law_332 dL_law_333 ?_
  refine l_arg (k := 2) hX hH.2.2 hl (by decide) hN hL (by decide) dL_law_334 dL_law_335 dL_law_336 dL_law_337 dL_law_338 ?_
  refine lm_i (As := [.int (xs (6 * N + 1)), .int (xs (6 * N + 2))]) (rest := []) hX hQ hH (m_enter l G Z.1 Qm v v1 r2 (xs (6 * N + 1)) (xs (6 * N + 2)) H.size f1) wmc_X13_enter (t2_at (i := 9) (j := 106) (by decide +kernel)) (t2_at (i := 9) (j := 107) (by decide +kernel)) (t2_at (i := 9) (j := 108) (by decide +kernel)) kVX13_enter ⟨Nat.le_of_ble_eq_true rfl, Nat.le_of_ble_eq_true rfl⟩ ⟨by omega, by omega⟩ rfl hl.1 rfl (Nat.le_of_ble_eq_true rfl) dL_law_339 (fun H locs hH => ?_)
  refine lv_pop hx hb dL_law_342 rfl ?_
  refine lv_goto (tgt := 953) hx hb dL_law_343 (by decide) ?_
  exact kk _ _ _ _ ⟨Q, D1, mc, o, T1, P, LW, u1, n1, ch1, C1, tp, M, Qm, v1, rfl, rfl, hQ, hH, hT, by omega, hPb, hWb, hS1, by omega, e2, htp3, by omega, hL1, by omega, by omega⟩
set_option maxHeartbeats 4000000 in
set_option maxRecDepth 100000 in
theorem law_weigh (hX : lX p c s m b A G Z mi L xs) (hlocks : meth.locks = false) (hL : L ≤ 3072) (hl : lv_has ls 4 [(3, .int (nI (6 * N))), (2, .ref q3), (1, .ref q1), (0, .ref b)]) (hN : 6 * N + 6 ≤ L) (h : LI G Z s A q1 q3 N H locs cells slots) (kk : ∀ (H1 : Heap) (locs1 : List Loc) (c1 s1 : Nat), LI G Z s A q1 q3 (N + 1) H1 locs1 c1 s1 → W p l e room_1 s m #[Value.ref b] below meth c H1 locs1 c1 s1 Q' (F0 m 953 ls [])) : W p l e room_1 s m #[Value.ref b] below meth c H locs cells slots Q' (F0 m 346 ls []) := by
  obtain ⟨Q, D, mc, o, T1, P, LW, u, n, ch, C, tp, M, Qm, v, rfl, rfl, hQ, hH, hT, hLW, hPb, hWb, hS, hch, htp, htp3, hM, hLv, hce, hsl⟩ := h
  have hx := hX.1
  have hb := hX.2.1
  have hC := hS.1.C
  obtain ⟨r1, u1, c1, d1, n1, ch1, C1, e1, hS1, hch1, hC1, hd1, hc1, hs1⟩ := as_weigh (xs (6 * N + 1)) (xs (6 * N + 2)) u n ch C hS (by omega)
  have hCC := hS1.1.C
  have e2 : u1.1 2 = nI tp := (hs1.1 2 (by decide)).trans htp
  obtain ⟨r2, v1, f1, hr, hL1⟩ := bo_weigh hLv (by omega) hs1 e1
  refine lv_aload_n hx hb dL_law_346 rfl (lv_at hl 2 rfl) ?_
  refine l_arg (k := 1) hX hH.2.2 hl (by decide) hN hL (by decide) dL_law_347 dL_law_348 dL_law_349 dL_law_350 dL_law_351 ?_
  refine l_arg (k := 2) hX hH.2.2 hl (by decide) hN hL (by decide) dL_law_352 dL_law_353 dL_law_354 dL_law_355 dL_law_356 ?_
  refine lc_A (As := [.int (xs (6 * N + 1)), .int (xs (6 * N + 2))]) (rest := []) hX hH (n_X11_weigh l G Z Q D _ u u1 r1 c1 d1 (xs (6 * N + 1)) (xs (6 * N + 2)) H.size e1) wkc_X11_weigh (t2_at (i := 4) (j := 150) (by decide +kernel)) (t2_at (i := 4) (j := 151) (by decide +kernel)) (t2_at (i := 4) (j := 152) (by decide +kernel)) kVX11_weigh ⟨Nat.le_of_ble_eq_true rfl, Nat.le_of_ble_eq_true rfl⟩ ⟨by omega, by omega⟩ rfl hl.1 rfl (Nat.le_of_ble_eq_true rfl) dL_law_357 (fun D1 H locs hH => ?_)
  refine lv_pop hx hb dL_law_360 rfl ?_
  refine lv_aload_n hx hb dL_law_361 rfl (lv_at hl 1 rfl) ?_
  refine l_arg (k := 1) hX hH.2.2 hl (by decide) hN hL (by decide) dL_law_362 dL_law_363 dL_law_364 dL_law_365 dL_law_366 ?_
  refine l_arg (k := 2) hX hH.2.2 hl (by decide) hN hL (by decide) dL_law_367 dL_law_368 dL_law_369 dL_law_370 dL_law_371 ?_
  refine lm_i (As := [.int (xs (6 * N + 1)), .int (xs (6 * N + 2))]) (rest := []) hX hQ hH (m_weigh l G Z.1 Qm v v1 r2 (xs (6 * N + 1)) (xs (6 * N + 2)) H.size f1) wmc_X13_weigh (t2_at (i := 9) (j := 111) (by decide +kernel)) (t2_at (i := 9) (j := 112) (by decide +kernel)) (t2_at (i := 9) (j := 113) (by decide +kernel)) kVX13_weigh ⟨Nat.le_of_ble_eq_true rfl, Nat.le_of_ble_eq_true rfl⟩ ⟨by omega, by omega⟩ rfl hl.1 rfl (Nat.le_of_ble_eq_true rfl) dL_law_372 (fun H locs hH => ?_)
  refine lv_pop hx hb dL_law_375 rfl ?_
  refine lv_goto (tgt := 953) hx hb dL_law_376 (by decide) ?_
  exact kk _ _ _ _ ⟨Q, D1, mc, o, T1, P, LW, u1, n1, ch1, C1, tp, M, Qm, v1, rfl, rfl, hQ, hH, hT, by omega, hPb, hWb, hS1, by omega, e2, htp3, by omega, hL1, by omega, by omega⟩
set_option maxHeartbeats 4000000 in
set_option maxRecDepth 100000 in
theorem law_seed (hX : lX p c s m b A G Z mi L xs) (hlocks : meth.locks = false) (hL : L ≤ 3072) (hl : lv_has ls 4 [(3, .int (nI (6 * N))), (2, .ref q3), (1, .ref q1), (0, .ref b)]) (hN : 6 * N + 6 ≤ L) (h : LI G Z s A q1 q3 N H locs cells slots) (kk : ∀ (H1 : Heap) (locs1 : List Loc) (c1 s1 : Nat), LI G Z s A q1 q3 (N + 1) H1 locs1 c1 s1 → W p l e room_1 s m #[Value.ref b] below meth c H1 locs1 c1 s1 Q' (F0 m 953 ls [])) : W p l e room_1 s m #[Value.ref b] below meth c H locs cells slots Q' (F0 m 379 ls []) := by
  obtain ⟨Q, D, mc, o, T1, P, LW, u, n, ch, C, tp, M, Qm, v, rfl, rfl, hQ, hH, hT, hLW, hPb, hWb, hS, hch, htp, htp3, hM, hLv, hce, hsl⟩ := h
  have hx := hX.1
  have hb := hX.2.1
  have hC := hS.1.C
  obtain ⟨r1, u1, c1, d1, n1, ch1, C1, e1, hS1, hch1, hC1, hd1, hc1, hs1⟩ := as_seed (xs (6 * N + 1)) (xs (6 * N + 2)) u n ch C hS (by omega)
  have hCC := hS1.1.C
  have e2 : u1.1 2 = nI tp := (hs1.1 2 (by decide)).trans htp
  obtain ⟨r2, v1, f1, hr, hL1⟩ := bo_seed hLv (by omega) hs1 e1
  refine lv_aload_n hx hb dL_law_379 rfl (lv_at hl 2 rfl) ?_
  refine l_arg (k := 1) hX hH.2.2 hl (by decide) hN hL (by decide) dL_law_380 dL_law_381 dL_law_382 dL_law_383 dL_law_384 ?_
  refine l_arg (k := 2) hX hH.2.2 hl (by decide) hN hL (by decide) dL_law_385 dL_law_386 dL_law_387 dL_law_388 dL_law_389 ?_
  refine lc_A (As := [.int (xs (6 * N + 1)), .int (xs (6 * N + 2))]) (rest := []) hX hH (n_X11_seed l G Z Q D _ u u1 r1 c1 d1 (xs (6 * N + 1)) (xs (6 * N + 2)) H.size e1) wkc_X11_seed (t2_at (i := 4) (j := 164) (by decide +kernel)) (t2_at (i := 4) (j := 165) (by decide +kernel)) (t2_at (i := 4) (j := 166) (by decide +kernel)) kVX11_seed ⟨Nat.le_of_ble_eq_true rfl, Nat.le_of_ble_eq_true rfl⟩ ⟨by omega, by omega⟩ rfl hl.1 rfl (Nat.le_of_ble_eq_true rfl) dL_law_390 (fun D1 H locs hH => ?_)
  refine lv_pop hx hb dL_law_393 rfl ?_
  refine lv_aload_n hx hb dL_law_394 rfl (lv_at hl 1 rfl) ?_
  refine l_arg (k := 1) hX hH.2.2 hl (by decide) hN hL (by decide) dL_law_395 dL_law_396 dL_law_397 dL_law_398 dL_law_399 ?_
  refine l_arg (k := 2) hX hH.2.2 hl (by decide) hN hL (by decide) dL_law_400 dL_law_401 dL_law_402 dL_law_403 dL_law_404 ?_
  refine lm_i (As := [.int (xs (6 * N + 1)), .int (xs (6 * N + 2))]) (rest := []) hX hQ hH (m_seed l G Z.1 Qm v v1 r2 (xs (6 * N + 1)) (xs (6 * N + 2)) H.size f1) wmc_X13_seed (t2_at (i := 9) (j := 119) (by decide +kernel)) (t2_at (i := 9) (j := 120) (by decide +kernel)) (t2_at (i := 9) (j := 121) (by decide +kernel)) kVX13_seed ⟨Nat.le_of_ble_eq_true rfl, Nat.le_of_ble_eq_true rfl⟩ ⟨by omega, by omega⟩ rfl hl.1 rfl (Nat.le_of_ble_eq_true rfl) dL_law_405 (fun H locs hH => ?_)
  refine lv_pop hx hb dL_law_408 rfl ?_
  refine lv_goto (tgt := 953) hx hb dL_law_409 (by decide) ?_
  exact kk _ _ _ _ ⟨Q, D1, mc, o, T1, P, LW, u1, n1, ch1, C1, tp, M, Qm, v1, rfl, rfl, hQ, hH, hT, by omega, hPb, hWb, hS1, by omega, e2, htp3, by omega, hL1, by omega, by omega⟩
set_option maxHeartbeats 4000000 in
set_option maxRecDepth 100000 in
theorem law_draw (hX : lX p c s m b A G Z mi L xs) (hlocks : meth.locks = false) (hL : L ≤ 3072) (hl : lv_has ls 4 [(3, .int (nI (6 * N))), (2, .ref q3), (1, .ref q1), (0, .ref b)]) (hN : 6 * N + 6 ≤ L) (h : LI G Z s A q1 q3 N H locs cells slots) (kk : ∀ (H1 : Heap) (locs1 : List Loc) (c1 s1 : Nat), LI G Z s A q1 q3 (N + 1) H1 locs1 c1 s1 → W p l e room_1 s m #[Value.ref b] below meth c H1 locs1 c1 s1 Q' (F0 m 953 ls [])) : W p l e room_1 s m #[Value.ref b] below meth c H locs cells slots Q' (F0 m 412 ls []) := by
  obtain ⟨Q, D, mc, o, T1, P, LW, u, n, ch, C, tp, M, Qm, v, rfl, rfl, hQ, hH, hT, hLW, hPb, hWb, hS, hch, htp, htp3, hM, hLv, hce, hsl⟩ := h
  have hx := hX.1
  have hb := hX.2.1
  have hC := hS.1.C
  obtain ⟨r1, u1, c1, d1, n1, ch1, C1, e1, hS1, hch1, hC1, hd1, hc1, hs1⟩ := as_draw (xs (6 * N + 1)) u n ch C hS (by omega)
  have hCC := hS1.1.C
  have e2 : u1.1 2 = nI tp := (hs1.1 2 (by decide)).trans htp
  obtain ⟨r2, v1, f1, hr, hL1⟩ := bo_draw hLv (by omega) hs1 e1
  refine lv_aload_n hx hb dL_law_412 rfl (lv_at hl 2 rfl) ?_
  refine l_arg (k := 1) hX hH.2.2 hl (by decide) hN hL (by decide) dL_law_413 dL_law_414 dL_law_415 dL_law_416 dL_law_417 ?_
  refine lc_A (As := [.int (xs (6 * N + 1))]) (rest := []) hX hH (n_X11_draw l G Z Q D _ u u1 r1 c1 d1 (xs (6 * N + 1)) H.size e1) wkc_X11_draw (t2_at (i := 4) (j := 173) (by decide +kernel)) (t2_at (i := 4) (j := 174) (by decide +kernel)) (t2_at (i := 4) (j := 175) (by decide +kernel)) kVX11_draw ⟨Nat.le_of_ble_eq_true rfl, Nat.le_of_ble_eq_true rfl⟩ ⟨by omega, by omega⟩ rfl hl.1 rfl (Nat.le_of_ble_eq_true rfl) dL_law_418 (fun D1 H locs hH => ?_)
  refine lv_pop hx hb dL_law_421 rfl ?_
  refine lv_aload_n hx hb dL_law_422 rfl (lv_at hl 1 rfl) ?_
  refine l_arg (k := 1) hX hH.2.2 hl (by decide) hN hL (by decide) dL_law_423 dL_law_424 dL_law_425 dL_law_426 dL_law_427 ?_
  refine lm_i (As := [.int (xs (6 * N + 1))]) (rest := []) hX hQ hH (m_draw l G Z.1 Qm v v1 r2 (xs (6 * N + 1)) H.size f1) wmc_X13_draw (t2_at (i := 9) (j := 124) (by decide +kernel)) (t2_at (i := 9) (j := 125) (by decide +kernel)) (t2_at (i := 9) (j := 126) (by decide +kernel)) kVX13_draw ⟨Nat.le_of_ble_eq_true rfl, Nat.le_of_ble_eq_true rfl⟩ ⟨by omega, by omega⟩ rfl hl.1 rfl (Nat.le_of_ble_eq_true rfl) dL_law_428 (fun H locs hH => ?_)
  refine lv_pop hx hb dL_law_431 rfl ?_
  refine lv_goto (tgt := 953) hx hb dL_law_432 (by decide) ?_
  exact kk _ _ _ _ ⟨Q, D1, mc, o, T1, P, LW, u1, n1, ch1, C1, tp, M, Qm, v1, rfl, rfl, hQ, hH, hT, by omega, hPb, hWb, hS1, by omega, e2, htp3, by omega, hL1, by omega, by omega⟩
end LAWC
