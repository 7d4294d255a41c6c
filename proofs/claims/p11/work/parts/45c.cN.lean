def x_X5_take (a0 : Int32) : NG Int32 := ncl (nRF 12) (fun x_1 => (if 6 ≤ x_1 then ncl (nRF 12) (fun x_6 => (if x_6 = 15 then ncl (nRF 15) (fun x_66 => (if x_66 = 0 then ncl (nRF 12) (fun x_71 => (if x_71 = 6 then ncl (x_X5_takeSignOrLine a0) (fun r_76 => nrt 0) else if x_71 = 7 then ncl (x_X5_takeSignName a0) (fun r_80 => nrt 0) else if x_71 = 8 then (if a0 = 19 then ncl (x_X5_goIf 1 6) (fun r_88 => nrt 0) else ncl (x_X5_goIf 0 6) (fun r_85 => nrt 0)) else if x_71 = 9 then ncl (x_X5_takeSignOrLine a0) (fun r_92 => nrt 0) else if x_71 = 10 then ncl (x_X5_takePoints a0) (fun r_96 => nrt 0) else if x_71 = 11 then (if a0 = 8 then ncl (x_X5_goIf 1 12) (fun r_104 => nrt 0) else ncl (x_X5_goIf 0 12) (fun r_101 => nrt 0)) else if x_71 = 12 then ncl (x_X5_takeCond a0) (fun r_108 => nrt 0) else if x_71 = 13 then ncl (x_X5_takeTerm a0) (fun r_112 => nrt 0) else if x_71 = 14 then ncl (x_X5_takeTermName a0) (fun r_116 => nrt 0) else if x_71 = 15 then ncl (x_X5_takeBehindTerm a0) (fun r_120 => nrt 0) else ncl (x_X5_takeBehindCond a0) (fun r_123 => nrt 0))) else (if a0 = 20 then ncl (nRF 12) (fun x_127 => (if x_127 = 6 then ncl (x_X5_takeSignOrLine a0) (fun r_132 => nrt 0) else if x_127 = 7 then ncl (x_X5_takeSignName a0) (fun r_136 => nrt 0) else if x_127 = 8 then (if a0 = 19 then ncl (x_X5_goIf 1 6) (fun r_144 => nrt 0) else ncl (x_X5_goIf 0 6) (fun r_141 => nrt 0)) else if x_127 = 9 then ncl (x_X5_takeSignOrLine a0) (fun r_148 => nrt 0) else if x_127 = 10 then ncl (x_X5_takePoints a0) (fun r_152 => nrt 0) else if x_127 = 11 then (if a0 = 8 then ncl (x_X5_goIf 1 12) (fun r_160 => nrt 0) else ncl (x_X5_goIf 0 12) (fun r_157 => nrt 0)) else if x_127 = 12 then ncl (x_X5_takeCond a0) (fun r_164 => nrt 0) else if x_127 = 13 then ncl (x_X5_takeTerm a0) (fun r_168 => nrt 0) else if x_127 = 14 then ncl (x_X5_takeTermName a0) (fun r_172 => nrt 0) else if x_127 = 15 then ncl (x_X5_takeBehindTerm a0) (fun r_176 => nrt 0) else ncl (x_X5_takeBehindCond a0) (fun r_179 => nrt 0))) else (if a0 = 21 then ncl (nRF 12) (fun x_183 => (if x_183 = 6 then ncl (x_X5_takeSignOrLine a0) (fun r_188 => nrt 0) else if x_183 = 7 then ncl (x_X5_takeSignName a0) (fun r_192 => nrt 0) else if x_183 = 8 then (if a0 = 19 then ncl (x_X5_goIf 1 6) (fun r_200 => nrt 0) else ncl (x_X5_goIf 0 6) (fun r_197 => nrt 0)) else if x_183 = 9 then ncl (x_X5_takeSignOrLine a0) (fun r_204 => nrt 0) else if x_183 = 10 then ncl (x_X5_takePoints a0) (fun r_208 => nrt 0) else if x_183 = 11 then (if a0 = 8 then ncl (x_X5_goIf 1 12) (fun r_216 => nrt 0) else ncl (x_X5_goIf 0 12) (fun r_213 => nrt 0)) else if x_183 = 12 then ncl (x_X5_takeCond a0) (fun r_220 => nrt 0) else if x_183 = 13 then ncl (x_X5_takeTerm a0) (fun r_224 => nrt 0) else if x_183 = 14 then ncl (x_X5_takeTermName a0) (fun r_228 => nrt 0) else if x_183 = 15 then ncl (x_X5_takeBehindTerm a0) (fun r_232 => nrt 0) else ncl (x_X5_takeBehindCond a0) (fun r_235 => nrt 0))) else ncl (x_X5_endComparison) (fun r_238 => ncl (nRF 12) (fun x_241 => (if x_241 = 6 then ncl (x_X5_takeSignOrLine a0) (fun r_246 => nrt 0) else if x_241 = 7 then ncl (x_X5_takeSignName a0) (fun r_250 => nrt 0) else if x_241 = 8 then (if a0 = 19 then ncl (x_X5_goIf 1 6) (fun r_258 => nrt 0) else ncl (x_X5_goIf 0 6) (fun r_255 => nrt 0)) else if x_241 = 9 then ncl (x_X5_takeSignOrLine a0) (fun r_262 => nrt 0) else if x_241 = 10 then ncl (x_X5_takePoints a0) (fun r_266 => nrt 0) else if x_241 = 11 then (if a0 = 8 then ncl (x_X5_goIf 1 12) (fun r_274 => nrt 0) else ncl (x_X5_goIf 0 12) (fun r_271 => nrt 0)) else if x_241 = 12 then ncl (x_X5_takeCond a0) (fun r_278 => nrt 0) else if x_241 = 13 then ncl (x_X5_takeTerm a0) (fun r_282 => nrt 0) else if x_241 = 14 then ncl (x_X5_takeTermName a0) (fun r_286 => nrt 0) else if x_241 = 15 then ncl (x_X5_takeBehindTerm a0) (fun r_290 => nrt 0) else ncl (x_X5_takeBehindCond a0) (fun r_293 => nrt 0)))))))) else ncl (nRF 12) (fun x_11 => (if x_11 = 6 then ncl (x_X5_takeSignOrLine a0) (fun r_16 => nrt 0) else if x_11 = 7 then ncl (x_X5_takeSignName a0) (fun r_20 => nrt 0) else if x_11 = 8 then (if a0 = 19 then ncl (x_X5_goIf 1 6) (fun r_28 => nrt 0) else ncl (x_X5_goIf 0 6) (fun r_25 => nrt 0)) else if x_11 = 9 then ncl (x_X5_takeSignOrLine a0) (fun r_32 => nrt 0) else if x_11 = 10 then ncl (x_X5_takePoints a0) (fun r_36 => nrt 0) else if x_11 = 11 then (if a0 = 8 then ncl (x_X5_goIf 1 12) (fun r_44 => nrt 0) else ncl (x_X5_goIf 0 12) (fun r_41 => nrt 0)) else if x_11 = 12 then ncl (x_X5_takeCond a0) (fun r_48 => nrt 0) else if x_11 = 13 then ncl (x_X5_takeTerm a0) (fun r_52 => nrt 0) else if x_11 = 14 then ncl (x_X5_takeTermName a0) (fun r_56 => nrt 0) else if x_11 = 15 then ncl (x_X5_takeBehindTerm a0) (fun r_60 => nrt 0) else ncl (x_X5_takeBehindCond a0) (fun r_63 => nrt 0))))) else ncl (x_X5_takeHead a0) (fun r_296 => nrt 0)))
set_option maxHeartbeats 4000000 in
set_option maxRecDepth 100000 in
theorem n_X5_take (l : Launch) (G : gG) (Z : gC) (Q : Nat → Nat) (D : Nat × Nat) (T : va_W) (u u1 : MS) (r : Int32) (a0 : Int32) (sz : Nat) (hF : x_X5_take a0 u = some (r, u1)) : Met l yX5_take (Cond.code yX5_take cX5_take 2 none :: wK) { frames := 5, cells := 0, slots := 0, locals := 108 } (va_Pc [.ref (Q 3), .int a0] (cPM G Z Q D T u sz)) (cQv G Q T u1 (va_A (cW G Q D T u) sz)) 0 0 (va_A (cW G Q D T u) sz) := by
  refine Met.ofW (cc := cX5_take) (maxL := 2) (ret := none) (by decide) rfl ?_
  intro p e s m args below meth c s₁ B hml hv
  obtain ⟨rfl, rfl, hP, hB, hD0, hE⟩ := hv
  have hr := B.returns
  have hlocks := B.notSynchronized
  have hts := atoms_spec (ws := Cond.code yX5_take cX5_take 2 none :: wK) B.pre
  have hD := hD0.self (sz := s.heap.size)
  have hA : ∀ q : Nat, s.heap.size ≤ q → va_A (cW G Q D T u) s.heap.size q := fun q h => Or.inr h
  generalize va_A (cW G Q D T u) s.heap.size = A at hD hA hE ⊢
  have hC : cX p c cX5_take 2 s m _ RX5 G Z A := ⟨B.exec, B.bytes, hml, findClass_of_methodNamed B.named, fun w h => hts w (List.mem_cons_of_mem _ h), hB, hE, hA⟩
  have hx := hC.1
  have hb := hC.2.1
  have hH : cH G Q D T A u s s.heap [] := ⟨hP, hD, va_S.rf⟩
  have hl := lv_entry ([.ref (Q 3), .int a0]) (n := 2) (Nat.le_of_ble_eq_true rfl)
  rw [lg_entry_eq]
  generalize (lg_sl ([.ref (Q 3), .int a0]) ++ List.replicate (2 - (lg_sl ([.ref (Q 3), .int a0])).length) Slot.unset).toArray = ls at hl ⊢
  have hl : lv_has ls 2 [(0, .ref (Q 3)), (1, .int a0)] := hl
  unfold x_X5_take at hF
  refine lv_aload_n hx hb dX5_take_0 rfl (lv_at hl 0 rfl) ?_
  refine cg_X5_52 hC hH dX5_take_1 ?_
  obtain ⟨x_1, u_2, h_3, hF⟩ := ncl_some hF
  obtain ⟨e_4, rfl⟩ := nRF_eq h_3
  refine gx_ti e_4 ?_
  refine va_gets hx hb hC.2.2.2.2.2.2.1.2.1.2.2.2.1 hH.2.2 hC.2.2.2.1 (hC.2.2.2.2.1 _ wka163) (fun _ h9 => h9) dX5_take_4 ?_
  refine va_tlen (v := 6) hx hb hC.2.2.2.2.2.2.1.2.1.2.2.2.2.1 hH.2.2 (by decide) dX5_take_7 ?_
  refine lv_icmp_ge (tgt := 17) hx hb dX5_take_8 (by decide) (fun c_5 => ?_) (fun c_5 => ?_)
  · rw [if_pos c_5] at hF
    refine lv_aload_n hx hb dX5_take_17 rfl (lv_at hl 0 rfl) ?_
    refine cg_X5_52 hC hH dX5_take_18 ?_
    obtain ⟨x_6, u_7, h_8, hF⟩ := ncl_some hF
    obtain ⟨e_9, rfl⟩ := nRF_eq h_8
    refine gx_ti e_9 ?_
    refine lv_bipush (v := 15) hx hb dX5_take_21 (by decide) ?_
    refine lv_icmp_ne (tgt := 49) hx hb dX5_take_23 (by decide) (fun c_10 => ?_) (fun c_10 => ?_)
    · rw [if_neg c_10] at hF
      refine lv_aload_n hx hb dX5_take_49 rfl (lv_at hl 0 rfl) ?_
      refine cg_X5_52 hC hH dX5_take_50 ?_
      obtain ⟨x_11, u_12, h_13, hF⟩ := ncl_some hF
      obtain ⟨e_14, rfl⟩ := nRF_eq h_13
      refine gx_ti e_14 ?_
      by_cases c_15 : x_11 = 6
      · rw [if_pos c_15] at hF
        refine gx_ti (y := 6) c_15 ?_
        refine lv_tableIn (off := 55) (tgt := 108) hx hb dX5_take_53 (by decide) (by decide) rfl (by decide) ?_
        refine lv_aload_n hx hb dX5_take_108 rfl (lv_at hl 0 rfl) ?_
        refine lv_iload_n hx hb dX5_take_109 rfl (lv_at hl 1 rfl) ?_
        obtain ⟨r_16, u_17, h_18, hF⟩ := ncl_some hF
        refine ccV_v (q0 := 3) (As := [.int a0]) (rest := []) hC hH (n_X5_takeSignOrLine l G Z Q _ T u u_17 r_16 a0 _ h_18) rfl rfl ⟨wkc_X5_takeSignOrLine, wka172, wka540, wka541, wka749⟩ kVX5_takeSignOrLine ⟨Nat.le_of_ble_eq_true rfl, Nat.le_of_ble_eq_true rfl⟩ rfl hl.1 rfl (Nat.le_of_ble_eq_true rfl) dX5_take_110 (fun D H locs hH => ?_)
        refine lv_goto (tgt := 209) hx hb dX5_take_113 (by decide) ?_
        exact cr_v hC hH hr (nrt_eq hF) dX5_take_209 hlocks
      rw [if_neg c_15] at hF
      by_cases c_19 : x_11 = 7
      · rw [if_pos c_19] at hF
        refine gx_ti (y := 7) c_19 ?_
        refine lv_tableIn (off := 63) (tgt := 116) hx hb dX5_take_53 (by decide) (by decide) rfl (by decide) ?_
        refine lv_aload_n hx hb dX5_take_116 rfl (lv_at hl 0 rfl) ?_
        refine lv_iload_n hx hb dX5_take_117 rfl (lv_at hl 1 rfl) ?_
        obtain ⟨r_20, u_21, h_22, hF⟩ := ncl_some hF
        refine ccV_v (q0 := 3) (As := [.int a0]) (rest := []) hC hH (n_X5_takeSignName l G Z Q _ T u u_21 r_20 a0 _ h_22) rfl rfl ⟨wkc_X5_takeSignName, wka175, wka544, wka545, wka749⟩ kVX5_takeSignName ⟨Nat.le_of_ble_eq_true rfl, Nat.le_of_ble_eq_true rfl⟩ rfl hl.1 rfl (Nat.le_of_ble_eq_true rfl) dX5_take_118 (fun D H locs hH => ?_)
        refine lv_goto (tgt := 209) hx hb dX5_take_121 (by decide) ?_
        exact cr_v hC hH hr (nrt_eq hF) dX5_take_209 hlocks
      rw [if_neg c_19] at hF
      by_cases c_23 : x_11 = 8
      · rw [if_pos c_23] at hF
        refine gx_ti (y := 8) c_23 ?_
        refine lv_tableIn (off := 71) (tgt := 124) hx hb dX5_take_53 (by decide) (by decide) rfl (by decide) ?_
        refine lv_aload_n hx hb dX5_take_124 rfl (lv_at hl 0 rfl) ?_
        refine lv_iload_n hx hb dX5_take_125 rfl (lv_at hl 1 rfl) ?_
        refine lv_bipush (v := 19) hx hb dX5_take_126 (by decide) ?_
        refine lv_icmp_ne (tgt := 135) hx hb dX5_take_128 (by decide) (fun c_24 => ?_) (fun c_24 => ?_)
        · rw [if_neg c_24] at hF
          refine lv_iconst (v := 0) hx hb dX5_take_135 (by decide) ?_
          refine lv_bipush (v := 6) hx hb dX5_take_136 (by decide) ?_
          obtain ⟨r_25, u_26, h_27, hF⟩ := ncl_some hF
          refine ccV_v (q0 := 3) (As := [.int 0, .int 6]) (rest := []) hC hH (n_X5_goIf l G Z Q _ T u u_26 r_25 0 6 _ h_27) rfl rfl ⟨wkc_X5_goIf, wka165, wka536, wka537, wka749⟩ kVX5_goIf ⟨Nat.le_of_ble_eq_true rfl, Nat.le_of_ble_eq_true rfl⟩ rfl hl.1 rfl (Nat.le_of_ble_eq_true rfl) dX5_take_138 (fun D H locs hH => ?_)
          refine lv_goto (tgt := 209) hx hb dX5_take_141 (by decide) ?_
          exact cr_v hC hH hr (nrt_eq hF) dX5_take_209 hlocks
        · rw [if_pos c_24] at hF
          refine lv_iconst (v := 1) hx hb dX5_take_131 (by decide) ?_
          refine lv_goto (tgt := 136) hx hb dX5_take_132 (by decide) ?_
          refine lv_bipush (v := 6) hx hb dX5_take_136 (by decide) ?_
          obtain ⟨r_28, u_29, h_30, hF⟩ := ncl_some hF
          refine ccV_v (q0 := 3) (As := [.int 1, .int 6]) (rest := []) hC hH (n_X5_goIf l G Z Q _ T u u_29 r_28 1 6 _ h_30) rfl rfl ⟨wkc_X5_goIf, wka165, wka536, wka537, wka749⟩ kVX5_goIf ⟨Nat.le_of_ble_eq_true rfl, Nat.le_of_ble_eq_true rfl⟩ rfl hl.1 rfl (Nat.le_of_ble_eq_true rfl) dX5_take_138 (fun D H locs hH => ?_)
          refine lv_goto (tgt := 209) hx hb dX5_take_141 (by decide) ?_
          exact cr_v hC hH hr (nrt_eq hF) dX5_take_209 hlocks
      rw [if_neg c_23] at hF
      by_cases c_31 : x_11 = 9
      · rw [if_pos c_31] at hF
        refine gx_ti (y := 9) c_31 ?_
        refine lv_tableIn (off := 55) (tgt := 108) hx hb dX5_take_53 (by decide) (by decide) rfl (by decide) ?_
        refine lv_aload_n hx hb dX5_take_108 rfl (lv_at hl 0 rfl) ?_
        refine lv_iload_n hx hb dX5_take_109 rfl (lv_at hl 1 rfl) ?_
        obtain ⟨r_32, u_33, h_34, hF⟩ := ncl_some hF
        refine ccV_v (q0 := 3) (As := [.int a0]) (rest := []) hC hH (n_X5_takeSignOrLine l G Z Q _ T u u_33 r_32 a0 _ h_34) rfl rfl ⟨wkc_X5_takeSignOrLine, wka172, wka540, wka541, wka749⟩ kVX5_takeSignOrLine ⟨Nat.le_of_ble_eq_true rfl, Nat.le_of_ble_eq_true rfl⟩ rfl hl.1 rfl (Nat.le_of_ble_eq_true rfl) dX5_take_110 (fun D H locs hH => ?_)
        refine lv_goto (tgt := 209) hx hb dX5_take_113 (by decide) ?_
        exact cr_v hC hH hr (nrt_eq hF) dX5_take_209 hlocks
      rw [if_neg c_31] at hF
      by_cases c_35 : x_11 = 10
      · rw [if_pos c_35] at hF
        refine gx_ti (y := 10) c_35 ?_
        refine lv_tableIn (off := 91) (tgt := 144) hx hb dX5_take_53 (by decide) (by decide) rfl (by decide) ?_
        refine lv_aload_n hx hb dX5_take_144 rfl (lv_at hl 0 rfl) ?_
        refine lv_iload_n hx hb dX5_take_145 rfl (lv_at hl 1 rfl) ?_
        obtain ⟨r_36, u_37, h_38, hF⟩ := ncl_some hF
        refine ccV_v (q0 := 3) (As := [.int a0]) (rest := []) hC hH (n_X5_takePoints l G Z Q _ T u u_37 r_36 a0 _ h_38) rfl rfl ⟨wkc_X5_takePoints, wka179, wka548, wka549, wka749⟩ kVX5_takePoints ⟨Nat.le_of_ble_eq_true rfl, Nat.le_of_ble_eq_true rfl⟩ rfl hl.1 rfl (Nat.le_of_ble_eq_true rfl) dX5_take_146 (fun D H locs hH => ?_)
        refine lv_goto (tgt := 209) hx hb dX5_take_149 (by decide) ?_
        exact cr_v hC hH hr (nrt_eq hF) dX5_take_209 hlocks
      rw [if_neg c_35] at hF
      by_cases c_39 : x_11 = 11
      · rw [if_pos c_39] at hF
        refine gx_ti (y := 11) c_39 ?_
        refine lv_tableIn (off := 99) (tgt := 152) hx hb dX5_take_53 (by decide) (by decide) rfl (by decide) ?_
        refine lv_aload_n hx hb dX5_take_152 rfl (lv_at hl 0 rfl) ?_
        refine lv_iload_n hx hb dX5_take_153 rfl (lv_at hl 1 rfl) ?_
        refine lv_bipush (v := 8) hx hb dX5_take_154 (by decide) ?_
        refine lv_icmp_ne (tgt := 163) hx hb dX5_take_156 (by decide) (fun c_40 => ?_) (fun c_40 => ?_)
        · rw [if_neg c_40] at hF
          refine lv_iconst (v := 0) hx hb dX5_take_163 (by decide) ?_
          refine lv_bipush (v := 12) hx hb dX5_take_164 (by decide) ?_
          obtain ⟨r_41, u_42, h_43, hF⟩ := ncl_some hF
          refine ccV_v (q0 := 3) (As := [.int 0, .int 12]) (rest := []) hC hH (n_X5_goIf l G Z Q _ T u u_42 r_41 0 12 _ h_43) rfl rfl ⟨wkc_X5_goIf, wka165, wka536, wka537, wka749⟩ kVX5_goIf ⟨Nat.le_of_ble_eq_true rfl, Nat.le_of_ble_eq_true rfl⟩ rfl hl.1 rfl (Nat.le_of_ble_eq_true rfl) dX5_take_166 (fun D H locs hH => ?_)
          refine lv_goto (tgt := 209) hx hb dX5_take_169 (by decide) ?_
          exact cr_v hC hH hr (nrt_eq hF) dX5_take_209 hlocks
        · rw [if_pos c_40] at hF
          refine lv_iconst (v := 1) hx hb dX5_take_159 (by decide) ?_
          refine lv_goto (tgt := 164) hx hb dX5_take_160 (by decide) ?_
          refine lv_bipush (v := 12) hx hb dX5_take_164 (by decide) ?_
          obtain ⟨r_44, u_45, h_46, hF⟩ := ncl_some hF
          refine ccV_v (q0 := 3) (As := [.int 1, .int 12]) (rest := []) hC hH (n_X5_goIf l G Z Q _ T u u_45 r_44 1 12 _ h_46) rfl rfl ⟨wkc_X5_goIf, wka165, wka536, wka537, wka749⟩ kVX5_goIf ⟨Nat.le_of_ble_eq_true rfl, Nat.le_of_ble_eq_true rfl⟩ rfl hl.1 rfl (Nat.le_of_ble_eq_true rfl) dX5_take_166 (fun D H locs hH => ?_)
          refine lv_goto (tgt := 209) hx hb dX5_take_169 (by decide) ?_
          exact cr_v hC hH hr (nrt_eq hF) dX5_take_209 hlocks
      rw [if_neg c_39] at hF
      by_cases c_47 : x_11 = 12
      · rw [if_pos c_47] at hF
        refine gx_ti (y := 12) c_47 ?_
        refine lv_tableIn (off := 119) (tgt := 172) hx hb dX5_take_53 (by decide) (by decide) rfl (by decide) ?_
        refine lv_aload_n hx hb dX5_take_172 rfl (lv_at hl 0 rfl) ?_
        refine lv_iload_n hx hb dX5_take_173 rfl (lv_at hl 1 rfl) ?_
        obtain ⟨r_48, u_49, h_50, hF⟩ := ncl_some hF
        refine ccV_v (q0 := 3) (As := [.int a0]) (rest := []) hC hH (n_X5_takeCond l G Z Q _ T u u_49 r_48 a0 _ h_50) rfl rfl ⟨wkc_X5_takeCond, wka180, wka550, wka551, wka749⟩ kVX5_takeCond ⟨Nat.le_of_ble_eq_true rfl, Nat.le_of_ble_eq_true rfl⟩ rfl hl.1 rfl (Nat.le_of_ble_eq_true rfl) dX5_take_174 (fun D H locs hH => ?_)
        refine lv_goto (tgt := 209) hx hb dX5_take_177 (by decide) ?_
        exact cr_v hC hH hr (nrt_eq hF) dX5_take_209 hlocks
      rw [if_neg c_47] at hF
      by_cases c_51 : x_11 = 13
      · rw [if_pos c_51] at hF
        refine gx_ti (y := 13) c_51 ?_
        refine lv_tableIn (off := 127) (tgt := 180) hx hb dX5_take_53 (by decide) (by decide) rfl (by decide) ?_
        refine lv_aload_n hx hb dX5_take_180 rfl (lv_at hl 0 rfl) ?_
        refine lv_iload_n hx hb dX5_take_181 rfl (lv_at hl 1 rfl) ?_
        obtain ⟨r_52, u_53, h_54, hF⟩ := ncl_some hF
        refine ccV_v (q0 := 3) (As := [.int a0]) (rest := []) hC hH (n_X5_takeTerm l G Z Q _ T u u_53 r_52 a0 _ h_54) rfl rfl ⟨wkc_X5_takeTerm, wka184, wka556, wka557, wka749⟩ kVX5_takeTerm ⟨Nat.le_of_ble_eq_true rfl, Nat.le_of_ble_eq_true rfl⟩ rfl hl.1 rfl (Nat.le_of_ble_eq_true rfl) dX5_take_182 (fun D H locs hH => ?_)
        refine lv_goto (tgt := 209) hx hb dX5_take_185 (by decide) ?_
        exact cr_v hC hH hr (nrt_eq hF) dX5_take_209 hlocks
      rw [if_neg c_51] at hF
      by_cases c_55 : x_11 = 14
      · rw [if_pos c_55] at hF
        refine gx_ti (y := 14) c_55 ?_
        refine lv_tableIn (off := 135) (tgt := 188) hx hb dX5_take_53 (by decide) (by decide) rfl (by decide) ?_
        refine lv_aload_n hx hb dX5_take_188 rfl (lv_at hl 0 rfl) ?_
        refine lv_iload_n hx hb dX5_take_189 rfl (lv_at hl 1 rfl) ?_
        obtain ⟨r_56, u_57, h_58, hF⟩ := ncl_some hF
        refine ccV_v (q0 := 3) (As := [.int a0]) (rest := []) hC hH (n_X5_takeTermName l G Z Q _ T u u_57 r_56 a0 _ h_58) rfl rfl ⟨wkc_X5_takeTermName, wka186, wka558, wka559, wka749⟩ kVX5_takeTermName ⟨Nat.le_of_ble_eq_true rfl, Nat.le_of_ble_eq_true rfl⟩ rfl hl.1 rfl (Nat.le_of_ble_eq_true rfl) dX5_take_190 (fun D H locs hH => ?_)
        refine lv_goto (tgt := 209) hx hb dX5_take_193 (by decide) ?_
        exact cr_v hC hH hr (nrt_eq hF) dX5_take_209 hlocks
      rw [if_neg c_55] at hF
      by_cases c_59 : x_11 = 15
      · rw [if_pos c_59] at hF
        refine gx_ti (y := 15) c_59 ?_
        refine lv_tableIn (off := 143) (tgt := 196) hx hb dX5_take_53 (by decide) (by decide) rfl (by decide) ?_
        refine lv_aload_n hx hb dX5_take_196 rfl (lv_at hl 0 rfl) ?_
        refine lv_iload_n hx hb dX5_take_197 rfl (lv_at hl 1 rfl) ?_
        obtain ⟨r_60, u_61, h_62, hF⟩ := ncl_some hF
        refine ccV_v (q0 := 3) (As := [.int a0]) (rest := []) hC hH (n_X5_takeBehindTerm l G Z Q _ T u u_61 r_60 a0 _ h_62) rfl rfl ⟨wkc_X5_takeBehindTerm, wka187, wka564, wka565, wka749⟩ kVX5_takeBehindTerm ⟨Nat.le_of_ble_eq_true rfl, Nat.le_of_ble_eq_true rfl⟩ rfl hl.1 rfl (Nat.le_of_ble_eq_true rfl) dX5_take_198 (fun D H locs hH => ?_)
        refine lv_goto (tgt := 209) hx hb dX5_take_201 (by decide) ?_
        exact cr_v hC hH hr (nrt_eq hF) dX5_take_209 hlocks
      rw [if_neg c_59] at hF
      refine lv_tableOut (tgt := 204) hx hb dX5_take_53 (by have q0 := gl_ne c_15 (a := 6) (by decide); have q1 := gl_ne c_19 (a := 7) (by decide); have q2 := gl_ne c_23 (a := 8) (by decide); have q3 := gl_ne c_31 (a := 9) (by decide); have q4 := gl_ne c_35 (a := 10) (by decide); have q5 := gl_ne c_39 (a := 11) (by decide); have q6 := gl_ne c_47 (a := 12) (by decide); have q7 := gl_ne c_51 (a := 13) (by decide); have q8 := gl_ne c_55 (a := 14) (by decide); have q9 := gl_ne c_59 (a := 15) (by decide); omega) (by decide) ?_
      refine lv_aload_n hx hb dX5_take_204 rfl (lv_at hl 0 rfl) ?_
      refine lv_iload_n hx hb dX5_take_205 rfl (lv_at hl 1 rfl) ?_
      obtain ⟨r_63, u_64, h_65, hF⟩ := ncl_some hF
      refine ccV_v (q0 := 3) (As := [.int a0]) (rest := []) hC hH (n_X5_takeBehindCond l G Z Q _ T u u_64 r_63 a0 _ h_65) rfl rfl ⟨wkc_X5_takeBehindCond, wka188, wka566, wka567, wka749⟩ kVX5_takeBehindCond ⟨Nat.le_of_ble_eq_true rfl, Nat.le_of_ble_eq_true rfl⟩ rfl hl.1 rfl (Nat.le_of_ble_eq_true rfl) dX5_take_206 (fun D H locs hH => ?_)
      exact cr_v hC hH hr (nrt_eq hF) dX5_take_209 hlocks
    · rw [if_pos c_10] at hF
      refine lv_aload_n hx hb dX5_take_26 rfl (lv_at hl 0 rfl) ?_
      refine cg_X5_84 hC hH dX5_take_27 ?_
      obtain ⟨x_66, u_67, h_68, hF⟩ := ncl_some hF
      obtain ⟨e_69, rfl⟩ := nRF_eq h_68
      refine gx_ti e_69 ?_
      refine lv_if_eq (tgt := 49) hx hb dX5_take_30 (by decide) (fun c_70 => ?_) (fun c_70 => ?_)
      · rw [if_pos c_70] at hF
        refine lv_aload_n hx hb dX5_take_49 rfl (lv_at hl 0 rfl) ?_
        refine cg_X5_52 hC hH dX5_take_50 ?_
        obtain ⟨x_71, u_72, h_73, hF⟩ := ncl_some hF
        obtain ⟨e_74, rfl⟩ := nRF_eq h_73
        refine gx_ti e_74 ?_
        by_cases c_75 : x_71 = 6
        · rw [if_pos c_75] at hF
          refine gx_ti (y := 6) c_75 ?_
          refine lv_tableIn (off := 55) (tgt := 108) hx hb dX5_take_53 (by decide) (by decide) rfl (by decide) ?_
          refine lv_aload_n hx hb dX5_take_108 rfl (lv_at hl 0 rfl) ?_
          refine lv_iload_n hx hb dX5_take_109 rfl (lv_at hl 1 rfl) ?_
          obtain ⟨r_76, u_77, h_78, hF⟩ := ncl_some hF
          refine ccV_v (q0 := 3) (As := [.int a0]) (rest := []) hC hH (n_X5_takeSignOrLine l G Z Q _ T u u_77 r_76 a0 _ h_78) rfl rfl ⟨wkc_X5_takeSignOrLine, wka172, wka540, wka541, wka749⟩ kVX5_takeSignOrLine ⟨Nat.le_of_ble_eq_true rfl, Nat.le_of_ble_eq_true rfl⟩ rfl hl.1 rfl (Nat.le_of_ble_eq_true rfl) dX5_take_110 (fun D H locs hH => ?_)
          refine lv_goto (tgt := 209) hx hb dX5_take_113 (by decide) ?_
          exact cr_v hC hH hr (nrt_eq hF) dX5_take_209 hlocks
        rw [if_neg c_75] at hF
        by_cases c_79 : x_71 = 7
        · rw [if_pos c_79] at hF
          refine gx_ti (y := 7) c_79 ?_
          refine lv_tableIn (off := 63) (tgt := 116) hx hb dX5_take_53 (by decide) (by decide) rfl (by decide) ?_
          refine lv_aload_n hx hb dX5_take_116 rfl (lv_at hl 0 rfl) ?_
          refine lv_iload_n hx hb dX5_take_117 rfl (lv_at hl 1 rfl) ?_
          obtain ⟨r_80, u_81, h_82, hF⟩ := ncl_some hF
          refine ccV_v (q0 := 3) (As := [.int a0]) (rest := []) hC hH (n_X5_takeSignName l G Z Q _ T u u_81 r_80 a0 _ h_82) rfl rfl ⟨wkc_X5_takeSignName, wka175, wka544, wka545, wka749⟩ kVX5_takeSignName ⟨Nat.le_of_ble_eq_true rfl, Nat.le_of_ble_eq_true rfl⟩ rfl hl.1 rfl (Nat.le_of_ble_eq_true rfl) dX5_take_118 (fun D H locs hH => ?_)
          refine lv_goto (tgt := 209) hx hb dX5_take_121 (by decide) ?_
          exact cr_v hC hH hr (nrt_eq hF) dX5_take_209 hlocks
        rw [if_neg c_79] at hF
        by_cases c_83 : x_71 = 8
        · rw [if_pos c_83] at hF
          refine gx_ti (y := 8) c_83 ?_
          refine lv_tableIn (off := 71) (tgt := 124) hx hb dX5_take_53 (by decide) (by decide) rfl (by decide) ?_
          refine lv_aload_n hx hb dX5_take_124 rfl (lv_at hl 0 rfl) ?_
          refine lv_iload_n hx hb dX5_take_125 rfl (lv_at hl 1 rfl) ?_
          refine lv_bipush (v := 19) hx hb dX5_take_126 (by decide) ?_
          refine lv_icmp_ne (tgt := 135) hx hb dX5_take_128 (by decide) (fun c_84 => ?_) (fun c_84 => ?_)
          · rw [if_neg c_84] at hF
            refine lv_iconst (v := 0) hx hb dX5_take_135 (by decide) ?_
            refine lv_bipush (v := 6) hx hb dX5_take_136 (by decide) ?_
            obtain ⟨r_85, u_86, h_87, hF⟩ := ncl_some hF
            refine ccV_v (q0 := 3) (As := [.int 0, .int 6]) (rest := []) hC hH (n_X5_goIf l G Z Q _ T u u_86 r_85 0 6 _ h_87) rfl rfl ⟨wkc_X5_goIf, wka165, wka536, wka537, wka749⟩ kVX5_goIf ⟨Nat.le_of_ble_eq_true rfl, Nat.le_of_ble_eq_true rfl⟩ rfl hl.1 rfl (Nat.le_of_ble_eq_true rfl) dX5_take_138 (fun D H locs hH => ?_)
            refine lv_goto (tgt := 209) hx hb dX5_take_141 (by decide) ?_
            exact cr_v hC hH hr (nrt_eq hF) dX5_take_209 hlocks
          · rw [if_pos c_84] at hF
            refine lv_iconst (v := 1) hx hb dX5_take_131 (by decide) ?_
            refine lv_goto (tgt := 136) hx hb dX5_take_132 (by decide) ?_
            refine lv_bipush (v := 6) hx hb dX5_take_136 (by decide) ?_
            obtain ⟨r_88, u_89, h_90, hF⟩ := ncl_some hF
            refine ccV_v (q0 := 3) (As := [.int 1, .int 6]) (rest := []) hC hH (n_X5_goIf l G Z Q _ T u u_89 r_88 1 6 _ h_90) rfl rfl ⟨wkc_X5_goIf, wka165, wka536, wka537, wka749⟩ kVX5_goIf ⟨Nat.le_of_ble_eq_true rfl, Nat.le_of_ble_eq_true rfl⟩ rfl hl.1 rfl (Nat.le_of_ble_eq_true rfl) dX5_take_138 (fun D H locs hH => ?_)
            refine lv_goto (tgt := 209) hx hb dX5_take_141 (by decide) ?_
            exact cr_v hC hH hr (nrt_eq hF) dX5_take_209 hlocks
        rw [if_neg c_83] at hF
        by_cases c_91 : x_71 = 9
        · rw [if_pos c_91] at hF
          refine gx_ti (y := 9) c_91 ?_
          refine lv_tableIn (off := 55) (tgt := 108) hx hb dX5_take_53 (by decide) (by decide) rfl (by decide) ?_
          refine lv_aload_n hx hb dX5_take_108 rfl (lv_at hl 0 rfl) ?_
          refine lv_iload_n hx hb dX5_take_109 rfl (lv_at hl 1 rfl) ?_
          obtain ⟨r_92, u_93, h_94, hF⟩ := ncl_some hF
          refine ccV_v (q0 := 3) (As := [.int a0]) (rest := []) hC hH (n_X5_takeSignOrLine l G Z Q _ T u u_93 r_92 a0 _ h_94) rfl rfl ⟨wkc_X5_takeSignOrLine, wka172, wka540, wka541, wka749⟩ kVX5_takeSignOrLine ⟨Nat.le_of_ble_eq_true rfl, Nat.le_of_ble_eq_true rfl⟩ rfl hl.1 rfl (Nat.le_of_ble_eq_true rfl) dX5_take_110 (fun D H locs hH => ?_)
          refine lv_goto (tgt := 209) hx hb dX5_take_113 (by decide) ?_
          exact cr_v hC hH hr (nrt_eq hF) dX5_take_209 hlocks
        rw [if_neg c_91] at hF
        by_cases c_95 : x_71 = 10
        · rw [if_pos c_95] at hF
          refine gx_ti (y := 10) c_95 ?_
          refine lv_tableIn (off := 91) (tgt := 144) hx hb dX5_take_53 (by decide) (by decide) rfl (by decide) ?_
          refine lv_aload_n hx hb dX5_take_144 rfl (lv_at hl 0 rfl) ?_
          refine lv_iload_n hx hb dX5_take_145 rfl (lv_at hl 1 rfl) ?_
          obtain ⟨r_96, u_97, h_98, hF⟩ := ncl_some hF
          refine ccV_v (q0 := 3) (As := [.int a0]) (rest := []) hC hH (n_X5_takePoints l G Z Q _ T u u_97 r_96 a0 _ h_98) rfl rfl ⟨wkc_X5_takePoints, wka179, wka548, wka549, wka749⟩ kVX5_takePoints ⟨Nat.le_of_ble_eq_true rfl, Nat.le_of_ble_eq_true rfl⟩ rfl hl.1 rfl (Nat.le_of_ble_eq_true rfl) dX5_take_146 (fun D H locs hH => ?_)
          refine lv_goto (tgt := 209) hx hb dX5_take_149 (by decide) ?_
          exact cr_v hC hH hr (nrt_eq hF) dX5_take_209 hlocks
        rw [if_neg c_95] at hF
        by_cases c_99 : x_71 = 11
        · rw [if_pos c_99] at hF
          refine gx_ti (y := 11) c_99 ?_
          refine lv_tableIn (off := 99) (tgt := 152) hx hb dX5_take_53 (by decide) (by decide) rfl (by decide) ?_
          refine lv_aload_n hx hb dX5_take_152 rfl (lv_at hl 0 rfl) ?_
          refine lv_iload_n hx hb dX5_take_153 rfl (lv_at hl 1 rfl) ?_
          refine lv_bipush (v := 8) hx hb dX5_take_154 (by decide) ?_
          refine lv_icmp_ne (tgt := 163) hx hb dX5_take_156 (by decide) (fun c_100 => ?_) (fun c_100 => ?_)
          · rw [if_neg c_100] at hF
            refine lv_iconst (v := 0) hx hb dX5_take_163 (by decide) ?_
            refine lv_bipush (v := 12) hx hb dX5_take_164 (by decide) ?_
            obtain ⟨r_101, u_102, h_103, hF⟩ := ncl_some hF
            refine ccV_v (q0 := 3) (As := [.int 0, .int 12]) (rest := []) hC hH (n_X5_goIf l G Z Q _ T u u_102 r_101 0 12 _ h_103) rfl rfl ⟨wkc_X5_goIf, wka165, wka536, wka537, wka749⟩ kVX5_goIf ⟨Nat.le_of_ble_eq_true rfl, Nat.le_of_ble_eq_true rfl⟩ rfl hl.1 rfl (Nat.le_of_ble_eq_true rfl) dX5_take_166 (fun D H locs hH => ?_)
            refine lv_goto (tgt := 209) hx hb dX5_take_169 (by decide) ?_
            exact cr_v hC hH hr (nrt_eq hF) dX5_take_209 hlocks
          · rw [if_pos c_100] at hF
            refine lv_iconst (v := 1) hx hb dX5_take_159 (by decide) ?_
            refine lv_goto (tgt := 164) hx hb dX5_take_160 (by decide) ?_
            refine lv_bipush (v := 12) hx hb dX5_take_164 (by decide) ?_
            obtain ⟨r_104, u_105, h_106, hF⟩ := ncl_some hF
            refine ccV_v (q0 := 3) (As := [.int 1, .int 12]) (rest := []) hC hH (n_X5_goIf l G Z Q _ T u u_105 r_104 1 12 _ h_106) rfl rfl ⟨wkc_X5_goIf, wka165, wka536, wka537, wka749⟩ kVX5_goIf ⟨Nat.le_of_ble_eq_true rfl, Nat.le_of_ble_eq_true rfl⟩ rfl hl.1 rfl (Nat.le_of_ble_eq_true rfl) dX5_take_166 (fun D H locs hH => ?_)
            refine lv_goto (tgt := 209) hx hb dX5_take_169 (by decide) ?_
            exact cr_v hC hH hr (nrt_eq hF) dX5_take_209 hlocks
        rw [if_neg c_99] at hF
        by_cases c_107 : x_71 = 12
        · rw [if_pos c_107] at hF
          refine gx_ti (y := 12) c_107 ?_
          refine lv_tableIn (off := 119) (tgt := 172) hx hb dX5_take_53 (by decide) (by decide) rfl (by decide) ?_
          refine lv_aload_n hx hb dX5_take_172 rfl (lv_at hl 0 rfl) ?_
          refine lv_iload_n hx hb dX5_take_173 rfl (lv_at hl 1 rfl) ?_
          obtain ⟨r_108, u_109, h_110, hF⟩ := ncl_some hF
          refine ccV_v (q0 := 3) (As := [.int a0]) (rest := []) hC hH (n_X5_takeCond l G Z Q _ T u u_109 r_108 a0 _ h_110) rfl rfl ⟨wkc_X5_takeCond, wka180, wka550, wka551, wka749⟩ kVX5_takeCond ⟨Nat.le_of_ble_eq_true rfl, Nat.le_of_ble_eq_true rfl⟩ rfl hl.1 rfl (Nat.le_of_ble_eq_true rfl) dX5_take_174 (fun D H locs hH => ?_)
          refine lv_goto (tgt := 209) hx hb dX5_take_177 (by decide) ?_
          exact cr_v hC hH hr (nrt_eq hF) dX5_take_209 hlocks
        rw [if_neg c_107] at hF
        by_cases c_111 : x_71 = 13
        · rw [if_pos c_111] at hF
          refine gx_ti (y := 13) c_111 ?_
          refine lv_tableIn (off := 127) (tgt := 180) hx hb dX5_take_53 (by decide) (by decide) rfl (by decide) ?_
          refine lv_aload_n hx hb dX5_take_180 rfl (lv_at hl 0 rfl) ?_
          refine lv_iload_n hx hb dX5_take_181 rfl (lv_at hl 1 rfl) ?_
          obtain ⟨r_112, u_113, h_114, hF⟩ := ncl_some hF
          refine ccV_v (q0 := 3) (As := [.int a0]) (rest := []) hC hH (n_X5_takeTerm l G Z Q _ T u u_113 r_112 a0 _ h_114) rfl rfl ⟨wkc_X5_takeTerm, wka184, wka556, wka557, wka749⟩ kVX5_takeTerm ⟨Nat.le_of_ble_eq_true rfl, Nat.le_of_ble_eq_true rfl⟩ rfl hl.1 rfl (Nat.le_of_ble_eq_true rfl) dX5_take_182 (fun D H locs hH => ?_)
          refine lv_goto (tgt := 209) hx hb dX5_take_185 (by decide) ?_
          exact cr_v hC hH hr (nrt_eq hF) dX5_take_209 hlocks
        rw [if_neg c_111] at hF
        by_cases c_115 : x_71 = 14
        · rw [if_pos c_115] at hF
          refine gx_ti (y := 14) c_115 ?_
          refine lv_tableIn (off := 135) (tgt := 188) hx hb dX5_take_53 (by decide) (by decide) rfl (by decide) ?_
          refine lv_aload_n hx hb dX5_take_188 rfl (lv_at hl 0 rfl) ?_
          refine lv_iload_n hx hb dX5_take_189 rfl (lv_at hl 1 rfl) ?_
          obtain ⟨r_116, u_117, h_118, hF⟩ := ncl_some hF
          refine ccV_v (q0 := 3) (As := [.int a0]) (rest := []) hC hH (n_X5_takeTermName l G Z Q _ T u u_117 r_116 a0 _ h_118) rfl rfl ⟨wkc_X5_takeTermName, wka186, wka558, wka559, wka749⟩ kVX5_takeTermName ⟨Nat.le_of_ble_eq_true rfl, Nat.le_of_ble_eq_true rfl⟩ rfl hl.1 rfl (Nat.le_of_ble_eq_true rfl) dX5_take_190 (fun D H locs hH => ?_)
          refine lv_goto (tgt := 209) hx hb dX5_take_193 (by decide) ?_
          exact cr_v hC hH hr (nrt_eq hF) dX5_take_209 hlocks
        rw [if_neg c_115] at hF
        by_cases c_119 : x_71 = 15
        · rw [if_pos c_119] at hF
          refine gx_ti (y := 15) c_119 ?_
          refine lv_tableIn (off := 143) (tgt := 196) hx hb dX5_take_53 (by decide) (by decide) rfl (by decide) ?_
          refine lv_aload_n hx hb dX5_take_196 rfl (lv_at hl 0 rfl) ?_
          refine lv_iload_n hx hb dX5_take_197 rfl (lv_at hl 1 rfl) ?_
          obtain ⟨r_120, u_121, h_122, hF⟩ := ncl_some hF
          refine ccV_v (q0 := 3) (As := [.int a0]) (rest := []) hC hH (n_X5_takeBehindTerm l G Z Q _ T u u_121 r_120 a0 _ h_122) rfl rfl ⟨wkc_X5_takeBehindTerm, wka187, wka564, wka565, wka749⟩ kVX5_takeBehindTerm ⟨Nat.le_of_ble_eq_true rfl, Nat.le_of_ble_eq_true rfl⟩ rfl hl.1 rfl (Nat.le_of_ble_eq_true rfl) dX5_take_198 (fun D H locs hH => ?_)
          refine lv_goto (tgt := 209) hx hb dX5_take_201 (by decide) ?_
          exact cr_v hC hH hr (nrt_eq hF) dX5_take_209 hlocks
        rw [if_neg c_119] at hF
        refine lv_tableOut (tgt := 204) hx hb dX5_take_53 (by have q0 := gl_ne c_75 (a := 6) (by decide); have q1 := gl_ne c_79 (a := 7) (by decide); have q2 := gl_ne c_83 (a := 8) (by decide); have q3 := gl_ne c_91 (a := 9) (by decide); have q4 := gl_ne c_95 (a := 10) (by decide); have q5 := gl_ne c_99 (a := 11) (by decide); have q6 := gl_ne c_107 (a := 12) (by decide); have q7 := gl_ne c_111 (a := 13) (by decide); have q8 := gl_ne c_115 (a := 14) (by decide); have q9 := gl_ne c_119 (a := 15) (by decide); omega) (by decide) ?_
        refine lv_aload_n hx hb dX5_take_204 rfl (lv_at hl 0 rfl) ?_
        refine lv_iload_n hx hb dX5_take_205 rfl (lv_at hl 1 rfl) ?_
        obtain ⟨r_123, u_124, h_125, hF⟩ := ncl_some hF
        refine ccV_v (q0 := 3) (As := [.int a0]) (rest := []) hC hH (n_X5_takeBehindCond l G Z Q _ T u u_124 r_123 a0 _ h_125) rfl rfl ⟨wkc_X5_takeBehindCond, wka188, wka566, wka567, wka749⟩ kVX5_takeBehindCond ⟨Nat.le_of_ble_eq_true rfl, Nat.le_of_ble_eq_true rfl⟩ rfl hl.1 rfl (Nat.le_of_ble_eq_true rfl) dX5_take_206 (fun D H locs hH => ?_)
        exact cr_v hC hH hr (nrt_eq hF) dX5_take_209 hlocks
      · rw [if_neg c_70] at hF
        refine lv_iload_n hx hb dX5_take_33 rfl (lv_at hl 1 rfl) ?_
        refine lv_bipush (v := 20) hx hb dX5_take_34 (by decide) ?_
        refine lv_icmp_eq (tgt := 49) hx hb dX5_take_36 (by decide) (fun c_126 => ?_) (fun c_126 => ?_)
        · rw [if_pos c_126] at hF
          refine lv_aload_n hx hb dX5_take_49 rfl (lv_at hl 0 rfl) ?_
          refine cg_X5_52 hC hH dX5_take_50 ?_
          obtain ⟨x_127, u_128, h_129, hF⟩ := ncl_some hF
          obtain ⟨e_130, rfl⟩ := nRF_eq h_129
          refine gx_ti e_130 ?_
          by_cases c_131 : x_127 = 6
          · rw [if_pos c_131] at hF
            refine gx_ti (y := 6) c_131 ?_
            refine lv_tableIn (off := 55) (tgt := 108) hx hb dX5_take_53 (by decide) (by decide) rfl (by decide) ?_
            refine lv_aload_n hx hb dX5_take_108 rfl (lv_at hl 0 rfl) ?_
            refine lv_iload_n hx hb dX5_take_109 rfl (lv_at hl 1 rfl) ?_
            obtain ⟨r_132, u_133, h_134, hF⟩ := ncl_some hF
            refine ccV_v (q0 := 3) (As := [.int a0]) (rest := []) hC hH (n_X5_takeSignOrLine l G Z Q _ T u u_133 r_132 a0 _ h_134) rfl rfl ⟨wkc_X5_takeSignOrLine, wka172, wka540, wka541, wka749⟩ kVX5_takeSignOrLine ⟨Nat.le_of_ble_eq_true rfl, Nat.le_of_ble_eq_true rfl⟩ rfl hl.1 rfl (Nat.le_of_ble_eq_true rfl) dX5_take_110 (fun D H locs hH => ?_)
            refine lv_goto (tgt := 209) hx hb dX5_take_113 (by decide) ?_
            exact cr_v hC hH hr (nrt_eq hF) dX5_take_209 hlocks
          rw [if_neg c_131] at hF
          by_cases c_135 : x_127 = 7
          · rw [if_pos c_135] at hF
            refine gx_ti (y := 7) c_135 ?_
            refine lv_tableIn (off := 63) (tgt := 116) hx hb dX5_take_53 (by decide) (by decide) rfl (by decide) ?_
            refine lv_aload_n hx hb dX5_take_116 rfl (lv_at hl 0 rfl) ?_
            refine lv_iload_n hx hb dX5_take_117 rfl (lv_at hl 1 rfl) ?_
            obtain ⟨r_136, u_137, h_138, hF⟩ := ncl_some hF
            refine ccV_v (q0 := 3) (As := [.int a0]) (rest := []) hC hH (n_X5_takeSignName l G Z Q _ T u u_137 r_136 a0 _ h_138) rfl rfl ⟨wkc_X5_takeSignName, wka175, wka544, wka545, wka749⟩ kVX5_takeSignName ⟨Nat.le_of_ble_eq_true rfl, Nat.le_of_ble_eq_true rfl⟩ rfl hl.1 rfl (Nat.le_of_ble_eq_true rfl) dX5_take_118 (fun D H locs hH => ?_)
            refine lv_goto (tgt := 209) hx hb dX5_take_121 (by decide) ?_
            exact cr_v hC hH hr (nrt_eq hF) dX5_take_209 hlocks
          rw [if_neg c_135] at hF
          by_cases c_139 : x_127 = 8
          · rw [if_pos c_139] at hF
            refine gx_ti (y := 8) c_139 ?_
            refine lv_tableIn (off := 71) (tgt := 124) hx hb dX5_take_53 (by decide) (by decide) rfl (by decide) ?_
            refine lv_aload_n hx hb dX5_take_124 rfl (lv_at hl 0 rfl) ?_
            refine lv_iload_n hx hb dX5_take_125 rfl (lv_at hl 1 rfl) ?_
            refine lv_bipush (v := 19) hx hb dX5_take_126 (by decide) ?_
            refine lv_icmp_ne (tgt := 135) hx hb dX5_take_128 (by decide) (fun c_140 => ?_) (fun c_140 => ?_)
            · rw [if_neg c_140] at hF
              refine lv_iconst (v := 0) hx hb dX5_take_135 (by decide) ?_
              refine lv_bipush (v := 6) hx hb dX5_take_136 (by decide) ?_
              obtain ⟨r_141, u_142, h_143, hF⟩ := ncl_some hF
              refine ccV_v (q0 := 3) (As := [.int 0, .int 6]) (rest := []) hC hH (n_X5_goIf l G Z Q _ T u u_142 r_141 0 6 _ h_143) rfl rfl ⟨wkc_X5_goIf, wka165, wka536, wka537, wka749⟩ kVX5_goIf ⟨Nat.le_of_ble_eq_true rfl, Nat.le_of_ble_eq_true rfl⟩ rfl hl.1 rfl (Nat.le_of_ble_eq_true rfl) dX5_take_138 (fun D H locs hH => ?_)
              refine lv_goto (tgt := 209) hx hb dX5_take_141 (by decide) ?_
              exact cr_v hC hH hr (nrt_eq hF) dX5_take_209 hlocks
            · rw [if_pos c_140] at hF
              refine lv_iconst (v := 1) hx hb dX5_take_131 (by decide) ?_
              refine lv_goto (tgt := 136) hx hb dX5_take_132 (by decide) ?_
              refine lv_bipush (v := 6) hx hb dX5_take_136 (by decide) ?_
              obtain ⟨r_144, u_145, h_146, hF⟩ := ncl_some hF
              refine ccV_v (q0 := 3) (As := [.int 1, .int 6]) (rest := []) hC hH (n_X5_goIf l G Z Q _ T u u_145 r_144 1 6 _ h_146) rfl rfl ⟨wkc_X5_goIf, wka165, wka536, wka537, wka749⟩ kVX5_goIf ⟨Nat.le_of_ble_eq_true rfl, Nat.le_of_ble_eq_true rfl⟩ rfl hl.1 rfl (Nat.le_of_ble_eq_true rfl) dX5_take_138 (fun D H locs hH => ?_)
              refine lv_goto (tgt := 209) hx hb dX5_take_141 (by decide) ?_
              exact cr_v hC hH hr (nrt_eq hF) dX5_take_209 hlocks
          rw [if_neg c_139] at hF
          by_cases c_147 : x_127 = 9
          · rw [if_pos c_147] at hF
            refine gx_ti (y := 9) c_147 ?_
            refine lv_tableIn (off := 55) (tgt := 108) hx hb dX5_take_53 (by decide) (by decide) rfl (by decide) ?_
            refine lv_aload_n hx hb dX5_take_108 rfl (lv_at hl 0 rfl) ?_
            refine lv_iload_n hx hb dX5_take_109 rfl (lv_at hl 1 rfl) ?_
            obtain ⟨r_148, u_149, h_150, hF⟩ := ncl_some hF
            refine ccV_v (q0 := 3) (As := [.int a0]) (rest := []) hC hH (n_X5_takeSignOrLine l G Z Q _ T u u_149 r_148 a0 _ h_150) rfl rfl ⟨wkc_X5_takeSignOrLine, wka172, wka540, wka541, wka749⟩ kVX5_takeSignOrLine ⟨Nat.le_of_ble_eq_true rfl, Nat.le_of_ble_eq_true rfl⟩ rfl hl.1 rfl (Nat.le_of_ble_eq_true rfl) dX5_take_110 (fun D H locs hH => ?_)
            refine lv_goto (tgt := 209) hx hb dX5_take_113 (by decide) ?_
            exact cr_v hC hH hr (nrt_eq hF) dX5_take_209 hlocks
          rw [if_neg c_147] at hF
          by_cases c_151 : x_127 = 10
          · rw [if_pos c_151] at hF
            refine gx_ti (y := 10) c_151 ?_
            refine lv_tableIn (off := 91) (tgt := 144) hx hb dX5_take_53 (by decide) (by decide) rfl (by decide) ?_
            refine lv_aload_n hx hb dX5_take_144 rfl (lv_at hl 0 rfl) ?_
            refine lv_iload_n hx hb dX5_take_145 rfl (lv_at hl 1 rfl) ?_
            obtain ⟨r_152, u_153, h_154, hF⟩ := ncl_some hF
            refine ccV_v (q0 := 3) (As := [.int a0]) (rest := []) hC hH (n_X5_takePoints l G Z Q _ T u u_153 r_152 a0 _ h_154) rfl rfl ⟨wkc_X5_takePoints, wka179, wka548, wka549, wka749⟩ kVX5_takePoints ⟨Nat.le_of_ble_eq_true rfl, Nat.le_of_ble_eq_true rfl⟩ rfl hl.1 rfl (Nat.le_of_ble_eq_true rfl) dX5_take_146 (fun D H locs hH => ?_)
            refine lv_goto (tgt := 209) hx hb dX5_take_149 (by decide) ?_
            exact cr_v hC hH hr (nrt_eq hF) dX5_take_209 hlocks
          rw [if_neg c_151] at hF
          by_cases c_155 : x_127 = 11
          · rw [if_pos c_155] at hF
            refine gx_ti (y := 11) c_155 ?_
            refine lv_tableIn (off := 99) (tgt := 152) hx hb dX5_take_53 (by decide) (by decide) rfl (by decide) ?_
            refine lv_aload_n hx hb dX5_take_152 rfl (lv_at hl 0 rfl) ?_
            refine lv_iload_n hx hb dX5_take_153 rfl (lv_at hl 1 rfl) ?_
            refine lv_bipush (v := 8) hx hb dX5_take_154 (by decide) ?_
            refine lv_icmp_ne (tgt := 163) hx hb dX5_take_156 (by decide) (fun c_156 => ?_) (fun c_156 => ?_)
            · rw [if_neg c_156] at hF
              refine lv_iconst (v := 0) hx hb dX5_take_163 (by decide) ?_
              refine lv_bipush (v := 12) hx hb dX5_take_164 (by decide) ?_
              obtain ⟨r_157, u_158, h_159, hF⟩ := ncl_some hF
              refine ccV_v (q0 := 3) (As := [.int 0, .int 12]) (rest := []) hC hH (n_X5_goIf l G Z Q _ T u u_158 r_157 0 12 _ h_159) rfl rfl ⟨wkc_X5_goIf, wka165, wka536, wka537, wka749⟩ kVX5_goIf ⟨Nat.le_of_ble_eq_true rfl, Nat.le_of_ble_eq_true rfl⟩ rfl hl.1 rfl (Nat.le_of_ble_eq_true rfl) dX5_take_166 (fun D H locs hH => ?_)
              refine lv_goto (tgt := 209) hx hb dX5_take_169 (by decide) ?_
              exact cr_v hC hH hr (nrt_eq hF) dX5_take_209 hlocks
            · rw [if_pos c_156] at hF
              refine lv_iconst (v := 1) hx hb dX5_take_159 (by decide) ?_
              refine lv_goto (tgt := 164) hx hb dX5_take_160 (by decide) ?_
              refine lv_bipush (v := 12) hx hb dX5_take_164 (by decide) ?_
              obtain ⟨r_160, u_161, h_162, hF⟩ := ncl_some hF
              refine ccV_v (q0 := 3) (As := [.int 1, .int 12]) (rest := []) hC hH (n_X5_goIf l G Z Q _ T u u_161 r_160 1 12 _ h_162) rfl rfl ⟨wkc_X5_goIf, wka165, wka536, wka537, wka749⟩ kVX5_goIf ⟨Nat.le_of_ble_eq_true rfl, Nat.le_of_ble_eq_true rfl⟩ rfl hl.1 rfl (Nat.le_of_ble_eq_true rfl) dX5_take_166 (fun D H locs hH => ?_)
              refine lv_goto (tgt := 209) hx hb dX5_take_169 (by decide) ?_
              exact cr_v hC hH hr (nrt_eq hF) dX5_take_209 hlocks
          rw [if_neg c_155] at hF
          by_cases c_163 : x_127 = 12
          · rw [if_pos c_163] at hF
            refine gx_ti (y := 12) c_163 ?_
            refine lv_tableIn (off := 119) (tgt := 172) hx hb dX5_take_53 (by decide) (by decide) rfl (by decide) ?_
            refine lv_aload_n hx hb dX5_take_172 rfl (lv_at hl 0 rfl) ?_
            refine lv_iload_n hx hb dX5_take_173 rfl (lv_at hl 1 rfl) ?_
            obtain ⟨r_164, u_165, h_166, hF⟩ := ncl_some hF
            refine ccV_v (q0 := 3) (As := [.int a0]) (rest := []) hC hH (n_X5_takeCond l G Z Q _ T u u_165 r_164 a0 _ h_166) rfl rfl ⟨wkc_X5_takeCond, wka180, wka550, wka551, wka749⟩ kVX5_takeCond ⟨Nat.le_of_ble_eq_true rfl, Nat.le_of_ble_eq_true rfl⟩ rfl hl.1 rfl (Nat.le_of_ble_eq_true rfl) dX5_take_174 (fun D H locs hH => ?_)
            refine lv_goto (tgt := 209) hx hb dX5_take_177 (by decide) ?_
            exact cr_v hC hH hr (nrt_eq hF) dX5_take_209 hlocks
          rw [if_neg c_163] at hF
          by_cases c_167 : x_127 = 13
          · rw [if_pos c_167] at hF
            refine gx_ti (y := 13) c_167 ?_
            refine lv_tableIn (off := 127) (tgt := 180) hx hb dX5_take_53 (by decide) (by decide) rfl (by decide) ?_
            refine lv_aload_n hx hb dX5_take_180 rfl (lv_at hl 0 rfl) ?_
            refine lv_iload_n hx hb dX5_take_181 rfl (lv_at hl 1 rfl) ?_
            obtain ⟨r_168, u_169, h_170, hF⟩ := ncl_some hF
            refine ccV_v (q0 := 3) (As := [.int a0]) (rest := []) hC hH (n_X5_takeTerm l G Z Q _ T u u_169 r_168 a0 _ h_170) rfl rfl ⟨wkc_X5_takeTerm, wka184, wka556, wka557, wka749⟩ kVX5_takeTerm ⟨Nat.le_of_ble_eq_true rfl, Nat.le_of_ble_eq_true rfl⟩ rfl hl.1 rfl (Nat.le_of_ble_eq_true rfl) dX5_take_182 (fun D H locs hH => ?_)
            refine lv_goto (tgt := 209) hx hb dX5_take_185 (by decide) ?_
            exact cr_v hC hH hr (nrt_eq hF) dX5_take_209 hlocks
          rw [if_neg c_167] at hF
          by_cases c_171 : x_127 = 14
          · rw [if_pos c_171] at hF
            refine gx_ti (y := 14) c_171 ?_
            refine lv_tableIn (off := 135) (tgt := 188) hx hb dX5_take_53 (by decide) (by decide) rfl (by decide) ?_
            refine lv_aload_n hx hb dX5_take_188 rfl (lv_at hl 0 rfl) ?_
            refine lv_iload_n hx hb dX5_take_189 rfl (lv_at hl 1 rfl) ?_
            obtain ⟨r_172, u_173, h_174, hF⟩ := ncl_some hF
            refine ccV_v (q0 := 3) (As := [.int a0]) (rest := []) hC hH (n_X5_takeTermName l G Z Q _ T u u_173 r_172 a0 _ h_174) rfl rfl ⟨wkc_X5_takeTermName, wka186, wka558, wka559, wka749⟩ kVX5_takeTermName ⟨Nat.le_of_ble_eq_true rfl, Nat.le_of_ble_eq_true rfl⟩ rfl hl.1 rfl (Nat.le_of_ble_eq_true rfl) dX5_take_190 (fun D H locs hH => ?_)
            refine lv_goto (tgt := 209) hx hb dX5_take_193 (by decide) ?_
            exact cr_v hC hH hr (nrt_eq hF) dX5_take_209 hlocks
          rw [if_neg c_171] at hF
          by_cases c_175 : x_127 = 15
          · rw [if_pos c_175] at hF
            refine gx_ti (y := 15) c_175 ?_
            refine lv_tableIn (off := 143) (tgt := 196) hx hb dX5_take_53 (by decide) (by decide) rfl (by decide) ?_
            refine lv_aload_n hx hb dX5_take_196 rfl (lv_at hl 0 rfl) ?_
            refine lv_iload_n hx hb dX5_take_197 rfl (lv_at hl 1 rfl) ?_
            obtain ⟨r_176, u_177, h_178, hF⟩ := ncl_some hF
            refine ccV_v (q0 := 3) (As := [.int a0]) (rest := []) hC hH (n_X5_takeBehindTerm l G Z Q _ T u u_177 r_176 a0 _ h_178) rfl rfl ⟨wkc_X5_takeBehindTerm, wka187, wka564, wka565, wka749⟩ kVX5_takeBehindTerm ⟨Nat.le_of_ble_eq_true rfl, Nat.le_of_ble_eq_true rfl⟩ rfl hl.1 rfl (Nat.le_of_ble_eq_true rfl) dX5_take_198 (fun D H locs hH => ?_)
            refine lv_goto (tgt := 209) hx hb dX5_take_201 (by decide) ?_
            exact cr_v hC hH hr (nrt_eq hF) dX5_take_209 hlocks
          rw [if_neg c_175] at hF
          refine lv_tableOut (tgt := 204) hx hb dX5_take_53 (by have q0 := gl_ne c_131 (a := 6) (by decide); have q1 := gl_ne c_135 (a := 7) (by decide); have q2 := gl_ne c_139 (a := 8) (by decide); have q3 := gl_ne c_147 (a := 9) (by decide); have q4 := gl_ne c_151 (a := 10) (by decide); have q5 := gl_ne c_155 (a := 11) (by decide); have q6 := gl_ne c_163 (a := 12) (by decide); have q7 := gl_ne c_167 (a := 13) (by decide); have q8 := gl_ne c_171 (a := 14) (by decide); have q9 := gl_ne c_175 (a := 15) (by decide); omega) (by decide) ?_
          refine lv_aload_n hx hb dX5_take_204 rfl (lv_at hl 0 rfl) ?_
          refine lv_iload_n hx hb dX5_take_205 rfl (lv_at hl 1 rfl) ?_
          obtain ⟨r_179, u_180, h_181, hF⟩ := ncl_some hF
          refine ccV_v (q0 := 3) (As := [.int a0]) (rest := []) hC hH (n_X5_takeBehindCond l G Z Q _ T u u_180 r_179 a0 _ h_181) rfl rfl ⟨wkc_X5_takeBehindCond, wka188, wka566, wka567, wka749⟩ kVX5_takeBehindCond ⟨Nat.le_of_ble_eq_true rfl, Nat.le_of_ble_eq_true rfl⟩ rfl hl.1 rfl (Nat.le_of_ble_eq_true rfl) dX5_take_206 (fun D H locs hH => ?_)
          exact cr_v hC hH hr (nrt_eq hF) dX5_take_209 hlocks
        · rw [if_neg c_126] at hF
          refine lv_iload_n hx hb dX5_take_39 rfl (lv_at hl 1 rfl) ?_
          refine lv_bipush (v := 21) hx hb dX5_take_40 (by decide) ?_
          refine lv_icmp_eq (tgt := 49) hx hb dX5_take_42 (by decide) (fun c_182 => ?_) (fun c_182 => ?_)
          · rw [if_pos c_182] at hF
            refine lv_aload_n hx hb dX5_take_49 rfl (lv_at hl 0 rfl) ?_
            refine cg_X5_52 hC hH dX5_take_50 ?_
            obtain ⟨x_183, u_184, h_185, hF⟩ := ncl_some hF
            obtain ⟨e_186, rfl⟩ := nRF_eq h_185
            refine gx_ti e_186 ?_
            by_cases c_187 : x_183 = 6
            · rw [if_pos c_187] at hF
              refine gx_ti (y := 6) c_187 ?_
              refine lv_tableIn (off := 55) (tgt := 108) hx hb dX5_take_53 (by decide) (by decide) rfl (by decide) ?_
              refine lv_aload_n hx hb dX5_take_108 rfl (lv_at hl 0 rfl) ?_
              refine lv_iload_n hx hb dX5_take_109 rfl (lv_at hl 1 rfl) ?_
              obtain ⟨r_188, u_189, h_190, hF⟩ := ncl_some hF
              refine ccV_v (q0 := 3) (As := [.int a0]) (rest := []) hC hH (n_X5_takeSignOrLine l G Z Q _ T u u_189 r_188 a0 _ h_190) rfl rfl ⟨wkc_X5_takeSignOrLine, wka172, wka540, wka541, wka749⟩ kVX5_takeSignOrLine ⟨Nat.le_of_ble_eq_true rfl, Nat.le_of_ble_eq_true rfl⟩ rfl hl.1 rfl (Nat.le_of_ble_eq_true rfl) dX5_take_110 (fun D H locs hH => ?_)
              refine lv_goto (tgt := 209) hx hb dX5_take_113 (by decide) ?_
              exact cr_v hC hH hr (nrt_eq hF) dX5_take_209 hlocks
            rw [if_neg c_187] at hF
            by_cases c_191 : x_183 = 7
            · rw [if_pos c_191] at hF
              refine gx_ti (y := 7) c_191 ?_
              refine lv_tableIn (off := 63) (tgt := 116) hx hb dX5_take_53 (by decide) (by decide) rfl (by decide) ?_
              refine lv_aload_n hx hb dX5_take_116 rfl (lv_at hl 0 rfl) ?_
              refine lv_iload_n hx hb dX5_take_117 rfl (lv_at hl 1 rfl) ?_
              obtain ⟨r_192, u_193, h_194, hF⟩ := ncl_some hF
              refine ccV_v (q0 := 3) (As := [.int a0]) (rest := []) hC hH (n_X5_takeSignName l G Z Q _ T u u_193 r_192 a0 _ h_194) rfl rfl ⟨wkc_X5_takeSignName, wka175, wka544, wka545, wka749⟩ kVX5_takeSignName ⟨Nat.le_of_ble_eq_true rfl, Nat.le_of_ble_eq_true rfl⟩ rfl hl.1 rfl (Nat.le_of_ble_eq_true rfl) dX5_take_118 (fun D H locs hH => ?_)
              refine lv_goto (tgt := 209) hx hb dX5_take_121 (by decide) ?_
              exact cr_v hC hH hr (nrt_eq hF) dX5_take_209 hlocks
            rw [if_neg c_191] at hF
            by_cases c_195 : x_183 = 8
            · rw [if_pos c_195] at hF
              refine gx_ti (y := 8) c_195 ?_
              refine lv_tableIn (off := 71) (tgt := 124) hx hb dX5_take_53 (by decide) (by decide) rfl (by decide) ?_
              refine lv_aload_n hx hb dX5_take_124 rfl (lv_at hl 0 rfl) ?_
              refine lv_iload_n hx hb dX5_take_125 rfl (lv_at hl 1 rfl) ?_
              refine lv_bipush (v := 19) hx hb dX5_take_126 (by decide) ?_
              refine lv_icmp_ne (tgt := 135) hx hb dX5_take_128 (by decide) (fun c_196 => ?_) (fun c_196 => ?_)
              · rw [if_neg c_196] at hF
                refine lv_iconst (v := 0) hx hb dX5_take_135 (by decide) ?_
                refine lv_bipush (v := 6) hx hb dX5_take_136 (by decide) ?_
                obtain ⟨r_197, u_198, h_199, hF⟩ := ncl_some hF
                refine ccV_v (q0 := 3) (As := [.int 0, .int 6]) (rest := []) hC hH (n_X5_goIf l G Z Q _ T u u_198 r_197 0 6 _ h_199) rfl rfl ⟨wkc_X5_goIf, wka165, wka536, wka537, wka749⟩ kVX5_goIf ⟨Nat.le_of_ble_eq_true rfl, Nat.le_of_ble_eq_true rfl⟩ rfl hl.1 rfl (Nat.le_of_ble_eq_true rfl) dX5_take_138 (fun D H locs hH => ?_)
                refine lv_goto (tgt := 209) hx hb dX5_take_141 (by decide) ?_
                exact cr_v hC hH hr (nrt_eq hF) dX5_take_209 hlocks
              · rw [if_pos c_196] at hF
                refine lv_iconst (v := 1) hx hb dX5_take_131 (by decide) ?_
                refine lv_goto (tgt := 136) hx hb dX5_take_132 (by decide) ?_
                refine lv_bipush (v := 6) hx hb dX5_take_136 (by decide) ?_
                obtain ⟨r_200, u_201, h_202, hF⟩ := ncl_some hF
                refine ccV_v (q0 := 3) (As := [.int 1, .int 6]) (rest := []) hC hH (n_X5_goIf l G Z Q _ T u u_201 r_200 1 6 _ h_202) rfl rfl ⟨wkc_X5_goIf, wka165, wka536, wka537, wka749⟩ kVX5_goIf ⟨Nat.le_of_ble_eq_true rfl, Nat.le_of_ble_eq_true rfl⟩ rfl hl.1 rfl (Nat.le_of_ble_eq_true rfl) dX5_take_138 (fun D H locs hH => ?_)
                refine lv_goto (tgt := 209) hx hb dX5_take_141 (by decide) ?_
                exact cr_v hC hH hr (nrt_eq hF) dX5_take_209 hlocks
            rw [if_neg c_195] at hF
            by_cases c_203 : x_183 = 9
            · rw [if_pos c_203] at hF
              refine gx_ti (y := 9) c_203 ?_
              refine lv_tableIn (off := 55) (tgt := 108) hx hb dX5_take_53 (by decide) (by decide) rfl (by decide) ?_
              refine lv_aload_n hx hb dX5_take_108 rfl (lv_at hl 0 rfl) ?_
              refine lv_iload_n hx hb dX5_take_109 rfl (lv_at hl 1 rfl) ?_
              obtain ⟨r_204, u_205, h_206, hF⟩ := ncl_some hF
              refine ccV_v (q0 := 3) (As := [.int a0]) (rest := []) hC hH (n_X5_takeSignOrLine l G Z Q _ T u u_205 r_204 a0 _ h_206) rfl rfl ⟨wkc_X5_takeSignOrLine, wka172, wka540, wka541, wka749⟩ kVX5_takeSignOrLine ⟨Nat.le_of_ble_eq_true rfl, Nat.le_of_ble_eq_true rfl⟩ rfl hl.1 rfl (Nat.le_of_ble_eq_true rfl) dX5_take_110 (fun D H locs hH => ?_)
              refine lv_goto (tgt := 209) hx hb dX5_take_113 (by decide) ?_
              exact cr_v hC hH hr (nrt_eq hF) dX5_take_209 hlocks
            rw [if_neg c_203] at hF
            by_cases c_207 : x_183 = 10
            · rw [if_pos c_207] at hF
              refine gx_ti (y := 10) c_207 ?_
              refine lv_tableIn (off := 91) (tgt := 144) hx hb dX5_take_53 (by decide) (by decide) rfl (by decide) ?_
              refine lv_aload_n hx hb dX5_take_144 rfl (lv_at hl 0 rfl) ?_
              refine lv_iload_n hx hb dX5_take_145 rfl (lv_at hl 1 rfl) ?_
              obtain ⟨r_208, u_209, h_210, hF⟩ := ncl_some hF
              refine ccV_v (q0 := 3) (As := [.int a0]) (rest := []) hC hH (n_X5_takePoints l G Z Q _ T u u_209 r_208 a0 _ h_210) rfl rfl ⟨wkc_X5_takePoints, wka179, wka548, wka549, wka749⟩ kVX5_takePoints ⟨Nat.le_of_ble_eq_true rfl, Nat.le_of_ble_eq_true rfl⟩ rfl hl.1 rfl (Nat.le_of_ble_eq_true rfl) dX5_take_146 (fun D H locs hH => ?_)
              refine lv_goto (tgt := 209) hx hb dX5_take_149 (by decide) ?_
              exact cr_v hC hH hr (nrt_eq hF) dX5_take_209 hlocks
            rw [if_neg c_207] at hF
            by_cases c_211 : x_183 = 11
            · rw [if_pos c_211] at hF
              refine gx_ti (y := 11) c_211 ?_
              refine lv_tableIn (off := 99) (tgt := 152) hx hb dX5_take_53 (by decide) (by decide) rfl (by decide) ?_
              refine lv_aload_n hx hb dX5_take_152 rfl (lv_at hl 0 rfl) ?_
              refine lv_iload_n hx hb dX5_take_153 rfl (lv_at hl 1 rfl) ?_
              refine lv_bipush (v := 8) hx hb dX5_take_154 (by decide) ?_
              refine lv_icmp_ne (tgt := 163) hx hb dX5_take_156 (by decide) (fun c_212 => ?_) (fun c_212 => ?_)
              · rw [if_neg c_212] at hF
                refine lv_iconst (v := 0) hx hb dX5_take_163 (by decide) ?_
                refine lv_bipush (v := 12) hx hb dX5_take_164 (by decide) ?_
                obtain ⟨r_213, u_214, h_215, hF⟩ := ncl_some hF
                refine ccV_v (q0 := 3) (As := [.int 0, .int 12]) (rest := []) hC hH (n_X5_goIf l G Z Q _ T u u_214 r_213 0 12 _ h_215) rfl rfl ⟨wkc_X5_goIf, wka165, wka536, wka537, wka749⟩ kVX5_goIf ⟨Nat.le_of_ble_eq_true rfl, Nat.le_of_ble_eq_true rfl⟩ rfl hl.1 rfl (Nat.le_of_ble_eq_true rfl) dX5_take_166 (fun D H locs hH => ?_)
                refine lv_goto (tgt := 209) hx hb dX5_take_169 (by decide) ?_
                exact cr_v hC hH hr (nrt_eq hF) dX5_take_209 hlocks
              · rw [if_pos c_212] at hF
                refine lv_iconst (v := 1) hx hb dX5_take_159 (by decide) ?_
                refine lv_goto (tgt := 164) hx hb dX5_take_160 (by decide) ?_
                refine lv_bipush (v := 12) hx hb dX5_take_164 (by decide) ?_
                obtain ⟨r_216, u_217, h_218, hF⟩ := ncl_some hF
                refine ccV_v (q0 := 3) (As := [.int 1, .int 12]) (rest := []) hC hH (n_X5_goIf l G Z Q _ T u u_217 r_216 1 12 _ h_218) rfl rfl ⟨wkc_X5_goIf, wka165, wka536, wka537, wka749⟩ kVX5_goIf ⟨Nat.le_of_ble_eq_true rfl, Nat.le_of_ble_eq_true rfl⟩ rfl hl.1 rfl (Nat.le_of_ble_eq_true rfl) dX5_take_166 (fun D H locs hH => ?_)
                refine lv_goto (tgt := 209) hx hb dX5_take_169 (by decide) ?_
                exact cr_v hC hH hr (nrt_eq hF) dX5_take_209 hlocks
            rw [if_neg c_211] at hF
            by_cases c_219 : x_183 = 12
            · rw [if_pos c_219] at hF
              refine gx_ti (y := 12) c_219 ?_
              refine lv_tableIn (off := 119) (tgt := 172) hx hb dX5_take_53 (by decide) (by decide) rfl (by decide) ?_
              refine lv_aload_n hx hb dX5_take_172 rfl (lv_at hl 0 rfl) ?_
              refine lv_iload_n hx hb dX5_take_173 rfl (lv_at hl 1 rfl) ?_
              obtain ⟨r_220, u_221, h_222, hF⟩ := ncl_some hF
              refine ccV_v (q0 := 3) (As := [.int a0]) (rest := []) hC hH (n_X5_takeCond l G Z Q _ T u u_221 r_220 a0 _ h_222) rfl rfl ⟨wkc_X5_takeCond, wka180, wka550, wka551, wka749⟩ kVX5_takeCond ⟨Nat.le_of_ble_eq_true rfl, Nat.le_of_ble_eq_true rfl⟩ rfl hl.1 rfl (Nat.le_of_ble_eq_true rfl) dX5_take_174 (fun D H locs hH => ?_)
              refine lv_goto (tgt := 209) hx hb dX5_take_177 (by decide) ?_
              exact cr_v hC hH hr (nrt_eq hF) dX5_take_209 hlocks
            rw [if_neg c_219] at hF
            by_cases c_223 : x_183 = 13
            · rw [if_pos c_223] at hF
              refine gx_ti (y := 13) c_223 ?_
              refine lv_tableIn (off := 127) (tgt := 180) hx hb dX5_take_53 (by decide) (by decide) rfl (by decide) ?_
              refine lv_aload_n hx hb dX5_take_180 rfl (lv_at hl 0 rfl) ?_
              refine lv_iload_n hx hb dX5_take_181 rfl (lv_at hl 1 rfl) ?_
              obtain ⟨r_224, u_225, h_226, hF⟩ := ncl_some hF
              refine ccV_v (q0 := 3) (As := [.int a0]) (rest := []) hC hH (n_X5_takeTerm l G Z Q _ T u u_225 r_224 a0 _ h_226) rfl rfl ⟨wkc_X5_takeTerm, wka184, wka556, wka557, wka749⟩ kVX5_takeTerm ⟨Nat.le_of_ble_eq_true rfl, Nat.le_of_ble_eq_true rfl⟩ rfl hl.1 rfl (Nat.le_of_ble_eq_true rfl) dX5_take_182 (fun D H locs hH => ?_)
              refine lv_goto (tgt := 209) hx hb dX5_take_185 (by decide) ?_
              exact cr_v hC hH hr (nrt_eq hF) dX5_take_209 hlocks
            rw [if_neg c_223] at hF
            by_cases c_227 : x_183 = 14
            · rw [if_pos c_227] at hF
              refine gx_ti (y := 14) c_227 ?_
              refine lv_tableIn (off := 135) (tgt := 188) hx hb dX5_take_53 (by decide) (by decide) rfl (by decide) ?_
              refine lv_aload_n hx hb dX5_take_188 rfl (lv_at hl 0 rfl) ?_
              refine lv_iload_n hx hb dX5_take_189 rfl (lv_at hl 1 rfl) ?_
              obtain ⟨r_228, u_229, h_230, hF⟩ := ncl_some hF
              refine ccV_v (q0 := 3) (As := [.int a0]) (rest := []) hC hH (n_X5_takeTermName l G Z Q _ T u u_229 r_228 a0 _ h_230) rfl rfl ⟨wkc_X5_takeTermName, wka186, wka558, wka559, wka749⟩ kVX5_takeTermName ⟨Nat.le_of_ble_eq_true rfl, Nat.le_of_ble_eq_true rfl⟩ rfl hl.1 rfl (Nat.le_of_ble_eq_true rfl) dX5_take_190 (fun D H locs hH => ?_)
              refine lv_goto (tgt := 209) hx hb dX5_take_193 (by decide) ?_
              exact cr_v hC hH hr (nrt_eq hF) dX5_take_209 hlocks
            rw [if_neg c_227] at hF
            by_cases c_231 : x_183 = 15
            · rw [if_pos c_231] at hF
              refine gx_ti (y := 15) c_231 ?_
              refine lv_tableIn (off := 143) (tgt := 196) hx hb dX5_take_53 (by decide) (by decide) rfl (by decide) ?_
              refine lv_aload_n hx hb dX5_take_196 rfl (lv_at hl 0 rfl) ?_
              refine lv_iload_n hx hb dX5_take_197 rfl (lv_at hl 1 rfl) ?_
              obtain ⟨r_232, u_233, h_234, hF⟩ := ncl_some hF
              refine ccV_v (q0 := 3) (As := [.int a0]) (rest := []) hC hH (n_X5_takeBehindTerm l G Z Q _ T u u_233 r_232 a0 _ h_234) rfl rfl ⟨wkc_X5_takeBehindTerm, wka187, wka564, wka565, wka749⟩ kVX5_takeBehindTerm ⟨Nat.le_of_ble_eq_true rfl, Nat.le_of_ble_eq_true rfl⟩ rfl hl.1 rfl (Nat.le_of_ble_eq_true rfl) dX5_take_198 (fun D H locs hH => ?_)
              refine lv_goto (tgt := 209) hx hb dX5_take_201 (by decide) ?_
              exact cr_v hC hH hr (nrt_eq hF) dX5_take_209 hlocks
            rw [if_neg c_231] at hF
            refine lv_tableOut (tgt := 204) hx hb dX5_take_53 (by have q0 := gl_ne c_187 (a := 6) (by decide); have q1 := gl_ne c_191 (a := 7) (by decide); have q2 := gl_ne c_195 (a := 8) (by decide); have q3 := gl_ne c_203 (a := 9) (by decide); have q4 := gl_ne c_207 (a := 10) (by decide); have q5 := gl_ne c_211 (a := 11) (by decide); have q6 := gl_ne c_219 (a := 12) (by decide); have q7 := gl_ne c_223 (a := 13) (by decide); have q8 := gl_ne c_227 (a := 14) (by decide); have q9 := gl_ne c_231 (a := 15) (by decide); omega) (by decide) ?_
            refine lv_aload_n hx hb dX5_take_204 rfl (lv_at hl 0 rfl) ?_
            refine lv_iload_n hx hb dX5_take_205 rfl (lv_at hl 1 rfl) ?_
            obtain ⟨r_235, u_236, h_237, hF⟩ := ncl_some hF
            refine ccV_v (q0 := 3) (As := [.int a0]) (rest := []) hC hH (n_X5_takeBehindCond l G Z Q _ T u u_236 r_235 a0 _ h_237) rfl rfl ⟨wkc_X5_takeBehindCond, wka188, wka566, wka567, wka749⟩ kVX5_takeBehindCond ⟨Nat.le_of_ble_eq_true rfl, Nat.le_of_ble_eq_true rfl⟩ rfl hl.1 rfl (Nat.le_of_ble_eq_true rfl) dX5_take_206 (fun D H locs hH => ?_)
            exact cr_v hC hH hr (nrt_eq hF) dX5_take_209 hlocks
          · rw [if_neg c_182] at hF
            refine lv_aload_n hx hb dX5_take_45 rfl (lv_at hl 0 rfl) ?_
            obtain ⟨r_238, u_239, h_240, hF⟩ := ncl_some hF
            refine ccV_v (q0 := 3) (As := []) (rest := []) hC hH (n_X5_endComparison l G Z Q _ T u u_239 r_238 _ h_240) rfl rfl ⟨wkc_X5_endComparison, wka167, wka562, wka563, wka749⟩ kVX5_endComparison ⟨Nat.le_of_ble_eq_true rfl, Nat.le_of_ble_eq_true rfl⟩ rfl hl.1 rfl (Nat.le_of_ble_eq_true rfl) dX5_take_46 (fun D H locs hH => ?_)
            refine lv_aload_n hx hb dX5_take_49 rfl (lv_at hl 0 rfl) ?_
            refine cg_X5_52 hC hH dX5_take_50 ?_
            obtain ⟨x_241, u_242, h_243, hF⟩ := ncl_some hF
            obtain ⟨e_244, rfl⟩ := nRF_eq h_243
            refine gx_ti e_244 ?_
            by_cases c_245 : x_241 = 6
            · rw [if_pos c_245] at hF
              refine gx_ti (y := 6) c_245 ?_
              refine lv_tableIn (off := 55) (tgt := 108) hx hb dX5_take_53 (by decide) (by decide) rfl (by decide) ?_
              refine lv_aload_n hx hb dX5_take_108 rfl (lv_at hl 0 rfl) ?_
              refine lv_iload_n hx hb dX5_take_109 rfl (lv_at hl 1 rfl) ?_
              obtain ⟨r_246, u_247, h_248, hF⟩ := ncl_some hF
              refine ccV_v (q0 := 3) (As := [.int a0]) (rest := []) hC hH (n_X5_takeSignOrLine l G Z Q _ T u_239 u_247 r_246 a0 _ h_248) rfl rfl ⟨wkc_X5_takeSignOrLine, wka172, wka540, wka541, wka749⟩ kVX5_takeSignOrLine ⟨Nat.le_of_ble_eq_true rfl, Nat.le_of_ble_eq_true rfl⟩ rfl hl.1 rfl (Nat.le_of_ble_eq_true rfl) dX5_take_110 (fun D H locs hH => ?_)
              refine lv_goto (tgt := 209) hx hb dX5_take_113 (by decide) ?_
              exact cr_v hC hH hr (nrt_eq hF) dX5_take_209 hlocks
            rw [if_neg c_245] at hF
            by_cases c_249 : x_241 = 7
            · rw [if_pos c_249] at hF
              refine gx_ti (y := 7) c_249 ?_
              refine lv_tableIn (off := 63) (tgt := 116) hx hb dX5_take_53 (by decide) (by decide) rfl (by decide) ?_
              refine lv_aload_n hx hb dX5_take_116 rfl (lv_at hl 0 rfl) ?_
              refine lv_iload_n hx hb dX5_take_117 rfl (lv_at hl 1 rfl) ?_
              obtain ⟨r_250, u_251, h_252, hF⟩ := ncl_some hF
              refine ccV_v (q0 := 3) (As := [.int a0]) (rest := []) hC hH (n_X5_takeSignName l G Z Q _ T u_239 u_251 r_250 a0 _ h_252) rfl rfl ⟨wkc_X5_takeSignName, wka175, wka544, wka545, wka749⟩ kVX5_takeSignName ⟨Nat.le_of_ble_eq_true rfl, Nat.le_of_ble_eq_true rfl⟩ rfl hl.1 rfl (Nat.le_of_ble_eq_true rfl) dX5_take_118 (fun D H locs hH => ?_)
              refine lv_goto (tgt := 209) hx hb dX5_take_121 (by decide) ?_
              exact cr_v hC hH hr (nrt_eq hF) dX5_take_209 hlocks
            rw [if_neg c_249] at hF
            by_cases c_253 : x_241 = 8
            · rw [if_pos c_253] at hF
              refine gx_ti (y := 8) c_253 ?_
              refine lv_tableIn (off := 71) (tgt := 124) hx hb dX5_take_53 (by decide) (by decide) rfl (by decide) ?_
              refine lv_aload_n hx hb dX5_take_124 rfl (lv_at hl 0 rfl) ?_
              refine lv_iload_n hx hb dX5_take_125 rfl (lv_at hl 1 rfl) ?_
              refine lv_bipush (v := 19) hx hb dX5_take_126 (by decide) ?_
              refine lv_icmp_ne (tgt := 135) hx hb dX5_take_128 (by decide) (fun c_254 => ?_) (fun c_254 => ?_)
              · rw [if_neg c_254] at hF
                refine lv_iconst (v := 0) hx hb dX5_take_135 (by decide) ?_
                refine lv_bipush (v := 6) hx hb dX5_take_136 (by decide) ?_
                obtain ⟨r_255, u_256, h_257, hF⟩ := ncl_some hF
                refine ccV_v (q0 := 3) (As := [.int 0, .int 6]) (rest := []) hC hH (n_X5_goIf l G Z Q _ T u_239 u_256 r_255 0 6 _ h_257) rfl rfl ⟨wkc_X5_goIf, wka165, wka536, wka537, wka749⟩ kVX5_goIf ⟨Nat.le_of_ble_eq_true rfl, Nat.le_of_ble_eq_true rfl⟩ rfl hl.1 rfl (Nat.le_of_ble_eq_true rfl) dX5_take_138 (fun D H locs hH => ?_)
                refine lv_goto (tgt := 209) hx hb dX5_take_141 (by decide) ?_
                exact cr_v hC hH hr (nrt_eq hF) dX5_take_209 hlocks
              · rw [if_pos c_254] at hF
                refine lv_iconst (v := 1) hx hb dX5_take_131 (by decide) ?_
                refine lv_goto (tgt := 136) hx hb dX5_take_132 (by decide) ?_
                refine lv_bipush (v := 6) hx hb dX5_take_136 (by decide) ?_
                obtain ⟨r_258, u_259, h_260, hF⟩ := ncl_some hF
                refine ccV_v (q0 := 3) (As := [.int 1, .int 6]) (rest := []) hC hH (n_X5_goIf l G Z Q _ T u_239 u_259 r_258 1 6 _ h_260) rfl rfl ⟨wkc_X5_goIf, wka165, wka536, wka537, wka749⟩ kVX5_goIf ⟨Nat.le_of_ble_eq_true rfl, Nat.le_of_ble_eq_true rfl⟩ rfl hl.1 rfl (Nat.le_of_ble_eq_true rfl) dX5_take_138 (fun D H locs hH => ?_)
                refine lv_goto (tgt := 209) hx hb dX5_take_141 (by decide) ?_
                exact cr_v hC hH hr (nrt_eq hF) dX5_take_209 hlocks
            rw [if_neg c_253] at hF
            by_cases c_261 : x_241 = 9
            · rw [if_pos c_261] at hF
              refine gx_ti (y := 9) c_261 ?_
              refine lv_tableIn (off := 55) (tgt := 108) hx hb dX5_take_53 (by decide) (by decide) rfl (by decide) ?_
              refine lv_aload_n hx hb dX5_take_108 rfl (lv_at hl 0 rfl) ?_
              refine lv_iload_n hx hb dX5_take_109 rfl (lv_at hl 1 rfl) ?_
              obtain ⟨r_262, u_263, h_264, hF⟩ := ncl_some hF
              refine ccV_v (q0 := 3) (As := [.int a0]) (rest := []) hC hH (n_X5_takeSignOrLine l G Z Q _ T u_239 u_263 r_262 a0 _ h_264) rfl rfl ⟨wkc_X5_takeSignOrLine, wka172, wka540, wka541, wka749⟩ kVX5_takeSignOrLine ⟨Nat.le_of_ble_eq_true rfl, Nat.le_of_ble_eq_true rfl⟩ rfl hl.1 rfl (Nat.le_of_ble_eq_true rfl) dX5_take_110 (fun D H locs hH => ?_)
              refine lv_goto (tgt := 209) hx hb dX5_take_113 (by decide) ?_
              exact cr_v hC hH hr (nrt_eq hF) dX5_take_209 hlocks
            rw [if_neg c_261] at hF
            by_cases c_265 : x_241 = 10
            · rw [if_pos c_265] at hF
              refine gx_ti (y := 10) c_265 ?_
              refine lv_tableIn (off := 91) (tgt := 144) hx hb dX5_take_53 (by decide) (by decide) rfl (by decide) ?_
              refine lv_aload_n hx hb dX5_take_144 rfl (lv_at hl 0 rfl) ?_
              refine lv_iload_n hx hb dX5_take_145 rfl (lv_at hl 1 rfl) ?_
              obtain ⟨r_266, u_267, h_268, hF⟩ := ncl_some hF
              refine ccV_v (q0 := 3) (As := [.int a0]) (rest := []) hC hH (n_X5_takePoints l G Z Q _ T u_239 u_267 r_266 a0 _ h_268) rfl rfl ⟨wkc_X5_takePoints, wka179, wka548, wka549, wka749⟩ kVX5_takePoints ⟨Nat.le_of_ble_eq_true rfl, Nat.le_of_ble_eq_true rfl⟩ rfl hl.1 rfl (Nat.le_of_ble_eq_true rfl) dX5_take_146 (fun D H locs hH => ?_)
              refine lv_goto (tgt := 209) hx hb dX5_take_149 (by decide) ?_
              exact cr_v hC hH hr (nrt_eq hF) dX5_take_209 hlocks
            rw [if_neg c_265] at hF
            by_cases c_269 : x_241 = 11
            · rw [if_pos c_269] at hF
              refine gx_ti (y := 11) c_269 ?_
              refine lv_tableIn (off := 99) (tgt := 152) hx hb dX5_take_53 (by decide) (by decide) rfl (by decide) ?_
              refine lv_aload_n hx hb dX5_take_152 rfl (lv_at hl 0 rfl) ?_
              refine lv_iload_n hx hb dX5_take_153 rfl (lv_at hl 1 rfl) ?_
              refine lv_bipush (v := 8) hx hb dX5_take_154 (by decide) ?_
              refine lv_icmp_ne (tgt := 163) hx hb dX5_take_156 (by decide) (fun c_270 => ?_) (fun c_270 => ?_)
              · rw [if_neg c_270] at hF
                refine lv_iconst (v := 0) hx hb dX5_take_163 (by decide) ?_
                refine lv_bipush (v := 12) hx hb dX5_take_164 (by decide) ?_
                obtain ⟨r_271, u_272, h_273, hF⟩ := ncl_some hF
                refine ccV_v (q0 := 3) (As := [.int 0, .int 12]) (rest := []) hC hH (n_X5_goIf l G Z Q _ T u_239 u_272 r_271 0 12 _ h_273) rfl rfl ⟨wkc_X5_goIf, wka165, wka536, wka537, wka749⟩ kVX5_goIf ⟨Nat.le_of_ble_eq_true rfl, Nat.le_of_ble_eq_true rfl⟩ rfl hl.1 rfl (Nat.le_of_ble_eq_true rfl) dX5_take_166 (fun D H locs hH => ?_)
                refine lv_goto (tgt := 209) hx hb dX5_take_169 (by decide) ?_
                exact cr_v hC hH hr (nrt_eq hF) dX5_take_209 hlocks
              · rw [if_pos c_270] at hF
                refine lv_iconst (v := 1) hx hb dX5_take_159 (by decide) ?_
                refine lv_goto (tgt := 164) hx hb dX5_take_160 (by decide) ?_
                refine lv_bipush (v := 12) hx hb dX5_take_164 (by decide) ?_
                obtain ⟨r_274, u_275, h_276, hF⟩ := ncl_some hF
                refine ccV_v (q0 := 3) (As := [.int 1, .int 12]) (rest := []) hC hH (n_X5_goIf l G Z Q _ T u_239 u_275 r_274 1 12 _ h_276) rfl rfl ⟨wkc_X5_goIf, wka165, wka536, wka537, wka749⟩ kVX5_goIf ⟨Nat.le_of_ble_eq_true rfl, Nat.le_of_ble_eq_true rfl⟩ rfl hl.1 rfl (Nat.le_of_ble_eq_true rfl) dX5_take_166 (fun D H locs hH => ?_)
                refine lv_goto (tgt := 209) hx hb dX5_take_169 (by decide) ?_
                exact cr_v hC hH hr (nrt_eq hF) dX5_take_209 hlocks
            rw [if_neg c_269] at hF
            by_cases c_277 : x_241 = 12
            · rw [if_pos c_277] at hF
              refine gx_ti (y := 12) c_277 ?_
              refine lv_tableIn (off := 119) (tgt := 172) hx hb dX5_take_53 (by decide) (by decide) rfl (by decide) ?_
              refine lv_aload_n hx hb dX5_take_172 rfl (lv_at hl 0 rfl) ?_
              refine lv_iload_n hx hb dX5_take_173 rfl (lv_at hl 1 rfl) ?_
              obtain ⟨r_278, u_279, h_280, hF⟩ := ncl_some hF
              refine ccV_v (q0 := 3) (As := [.int a0]) (rest := []) hC hH (n_X5_takeCond l G Z Q _ T u_239 u_279 r_278 a0 _ h_280) rfl rfl ⟨wkc_X5_takeCond, wka180, wka550, wka551, wka749⟩ kVX5_takeCond ⟨Nat.le_of_ble_eq_true rfl, Nat.le_of_ble_eq_true rfl⟩ rfl hl.1 rfl (Nat.le_of_ble_eq_true rfl) dX5_take_174 (fun D H locs hH => ?_)
              refine lv_goto (tgt := 209) hx hb dX5_take_177 (by decide) ?_
              exact cr_v hC hH hr (nrt_eq hF) dX5_take_209 hlocks
            rw [if_neg c_277] at hF
            by_cases c_281 : x_241 = 13
            · rw [if_pos c_281] at hF
              refine gx_ti (y := 13) c_281 ?_
              refine lv_tableIn (off := 127) (tgt := 180) hx hb dX5_take_53 (by decide) (by decide) rfl (by decide) ?_
              refine lv_aload_n hx hb dX5_take_180 rfl (lv_at hl 0 rfl) ?_
              refine lv_iload_n hx hb dX5_take_181 rfl (lv_at hl 1 rfl) ?_
              obtain ⟨r_282, u_283, h_284, hF⟩ := ncl_some hF
              refine ccV_v (q0 := 3) (As := [.int a0]) (rest := []) hC hH (n_X5_takeTerm l G Z Q _ T u_239 u_283 r_282 a0 _ h_284) rfl rfl ⟨wkc_X5_takeTerm, wka184, wka556, wka557, wka749⟩ kVX5_takeTerm ⟨Nat.le_of_ble_eq_true rfl, Nat.le_of_ble_eq_true rfl⟩ rfl hl.1 rfl (Nat.le_of_ble_eq_true rfl) dX5_take_182 (fun D H locs hH => ?_)
              refine lv_goto (tgt := 209) hx hb dX5_take_185 (by decide) ?_
              exact cr_v hC hH hr (nrt_eq hF) dX5_take_209 hlocks
            rw [if_neg c_281] at hF
            by_cases c_285 : x_241 = 14
            · rw [if_pos c_285] at hF
              refine gx_ti (y := 14) c_285 ?_
              refine lv_tableIn (off := 135) (tgt := 188) hx hb dX5_take_53 (by decide) (by decide) rfl (by decide) ?_
              refine lv_aload_n hx hb dX5_take_188 rfl (lv_at hl 0 rfl) ?_
              refine lv_iload_n hx hb dX5_take_189 rfl (lv_at hl 1 rfl) ?_
              obtain ⟨r_286, u_287, h_288, hF⟩ := ncl_some hF
              refine ccV_v (q0 := 3) (As := [.int a0]) (rest := []) hC hH (n_X5_takeTermName l G Z Q _ T u_239 u_287 r_286 a0 _ h_288) rfl rfl ⟨wkc_X5_takeTermName, wka186, wka558, wka559, wka749⟩ kVX5_takeTermName ⟨Nat.le_of_ble_eq_true rfl, Nat.le_of_ble_eq_true rfl⟩ rfl hl.1 rfl (Nat.le_of_ble_eq_true rfl) dX5_take_190 (fun D H locs hH => ?_)
              refine lv_goto (tgt := 209) hx hb dX5_take_193 (by decide) ?_
              exact cr_v hC hH hr (nrt_eq hF) dX5_take_209 hlocks
            rw [if_neg c_285] at hF
            by_cases c_289 : x_241 = 15
            · rw [if_pos c_289] at hF
              refine gx_ti (y := 15) c_289 ?_
              refine lv_tableIn (off := 143) (tgt := 196) hx hb dX5_take_53 (by decide) (by decide) rfl (by decide) ?_
              refine lv_aload_n hx hb dX5_take_196 rfl (lv_at hl 0 rfl) ?_
              refine lv_iload_n hx hb dX5_take_197 rfl (lv_at hl 1 rfl) ?_
              obtain ⟨r_290, u_291, h_292, hF⟩ := ncl_some hF
              refine ccV_v (q0 := 3) (As := [.int a0]) (rest := []) hC hH (n_X5_takeBehindTerm l G Z Q _ T u_239 u_291 r_290 a0 _ h_292) rfl rfl ⟨wkc_X5_takeBehindTerm, wka187, wka564, wka565, wka749⟩ kVX5_takeBehindTerm ⟨Nat.le_of_ble_eq_true rfl, Nat.le_of_ble_eq_true rfl⟩ rfl hl.1 rfl (Nat.le_of_ble_eq_true rfl) dX5_take_198 (fun D H locs hH => ?_)
              refine lv_goto (tgt := 209) hx hb dX5_take_201 (by decide) ?_
              exact cr_v hC hH hr (nrt_eq hF) dX5_take_209 hlocks
            rw [if_neg c_289] at hF
            refine lv_tableOut (tgt := 204) hx hb dX5_take_53 (by have q0 := gl_ne c_245 (a := 6) (by decide); have q1 := gl_ne c_249 (a := 7) (by decide); have q2 := gl_ne c_253 (a := 8) (by decide); have q3 := gl_ne c_261 (a := 9) (by decide); have q4 := gl_ne c_265 (a := 10) (by decide); have q5 := gl_ne c_269 (a := 11) (by decide); have q6 := gl_ne c_277 (a := 12) (by decide); have q7 := gl_ne c_281 (a := 13) (by decide); have q8 := gl_ne c_285 (a := 14) (by decide); have q9 := gl_ne c_289 (a := 15) (by decide); omega) (by decide) ?_
            refine lv_aload_n hx hb dX5_take_204 rfl (lv_at hl 0 rfl) ?_
            refine lv_iload_n hx hb dX5_take_205 rfl (lv_at hl 1 rfl) ?_
            obtain ⟨r_293, u_294, h_295, hF⟩ := ncl_some hF
            refine ccV_v (q0 := 3) (As := [.int a0]) (rest := []) hC hH (n_X5_takeBehindCond l G Z Q _ T u_239 u_294 r_293 a0 _ h_295) rfl rfl ⟨wkc_X5_takeBehindCond, wka188, wka566, wka567, wka749⟩ kVX5_takeBehindCond ⟨Nat.le_of_ble_eq_true rfl, Nat.le_of_ble_eq_true rfl⟩ rfl hl.1 rfl (Nat.le_of_ble_eq_true rfl) dX5_take_206 (fun D H locs hH => ?_)
            exact cr_v hC hH hr (nrt_eq hF) dX5_take_209 hlocks
  · rw [if_neg c_5] at hF
    refine lv_aload_n hx hb dX5_take_11 rfl (lv_at hl 0 rfl) ?_
    refine lv_iload_n hx hb dX5_take_12 rfl (lv_at hl 1 rfl) ?_
    obtain ⟨r_296, u_297, h_298, hF⟩ := ncl_some hF
    refine ccV_v (q0 := 3) (As := [.int a0]) (rest := []) hC hH (n_X5_takeHead l G Z Q _ T u u_297 r_296 a0 _ h_298) rfl rfl ⟨wkc_X5_takeHead, wka164, wka538, wka539, wka749⟩ kVX5_takeHead ⟨Nat.le_of_ble_eq_true rfl, Nat.le_of_ble_eq_true rfl⟩ rfl hl.1 rfl (Nat.le_of_ble_eq_true rfl) dX5_take_13 (fun D H locs hH => ?_)
    exact cr_v hC hH hr (nrt_eq hF) dX5_take_16 hlocks
def xl_X5_readLaws_46 : Nat → Int32 → (Int32 → NG Int32) → NG Int32
  | 0, _, _ => fun _ => none
  | n46 + 1, v1, K46_93 => (if 3000 < v1 then K46_93 v1 else ncl (nRF 11) (fun x_32 => (if x_32 = 0 then ncl (nRF 12) (fun x_37 => (if x_37 = 17 then K46_93 v1 else ncl (x_X10_readToken) (fun r_42 => ncl (nRF 4) (fun x_45 => ncl (x_X5_take x_45) (fun r_49 => nli (v1 + 1) (fun x_52 => xl_X5_readLaws_46 n46 x_52 K46_93)))))) else K46_93 v1)))
def x_X5_readLaws : NG Int32 := ncl (x_X4_clear) (fun r_1 => ncl (x_X10_rewind) (fun r_4 => ncl (nWF 11 0) (fun _ => ncl (nWF 10 (-1)) (fun _ => ncl (nWF 12 0) (fun _ => ncl (nWF 7 0) (fun _ => ncl (nWF 8 0) (fun _ => ncl (nWF 9 0) (fun _ => xl_X5_readLaws_46 fuel 0 (fun v1 => ncl (nRF 11) (fun x_54 => (if x_54 = 0 then nrt 1 else nrt 0)))))))))))
set_option maxHeartbeats 4000000 in
set_option maxRecDepth 100000 in
theorem n_X5_readLaws (l : Launch) (G : gG) (Z : gC) (Q : Nat → Nat) (D : Nat × Nat) (T : va_W) (u u1 : MS) (r : Int32) (sz : Nat) (hF : x_X5_readLaws u = some (r, u1)) : Met l yX5_readLaws (Cond.code yX5_readLaws cX5_readLaws 2 (some .boolean) :: wK) { frames := 8, cells := 0, slots := 0, locals := 168 } (va_Pc [.ref (Q 3)] (cPM G Z Q D T u sz)) (cQi G Q T u1 r (va_A (cW G Q D T u) sz)) 0 0 (va_A (cW G Q D T u) sz) := by
  refine Met.ofW (cc := cX5_readLaws) (maxL := 2) (ret := (some .boolean)) (by decide) rfl ?_
  intro p e s m args below meth c s₁ B hml hv
  obtain ⟨rfl, rfl, hP, hB, hD0, hE⟩ := hv
  have hr := B.returns
  have hlocks := B.notSynchronized
  have hts := atoms_spec (ws := Cond.code yX5_readLaws cX5_readLaws 2 (some .boolean) :: wK) B.pre
  have hD := hD0.self (sz := s.heap.size)
  have hA : ∀ q : Nat, s.heap.size ≤ q → va_A (cW G Q D T u) s.heap.size q := fun q h => Or.inr h
  generalize va_A (cW G Q D T u) s.heap.size = A at hD hA hE ⊢
  have hC : cX p c cX5_readLaws 2 s m _ RX5 G Z A := ⟨B.exec, B.bytes, hml, findClass_of_methodNamed B.named, fun w h => hts w (List.mem_cons_of_mem _ h), hB, hE, hA⟩
  have hx := hC.1
  have hb := hC.2.1
  have hH : cH G Q D T A u s s.heap [] := ⟨hP, hD, va_S.rf⟩
  have hl := lv_entry ([.ref (Q 3)]) (n := 2) (Nat.le_of_ble_eq_true rfl)
  rw [lg_entry_eq]
  generalize (lg_sl ([.ref (Q 3)]) ++ List.replicate (2 - (lg_sl ([.ref (Q 3)])).length) Slot.unset).toArray = ls at hl ⊢
  have hl : lv_has ls 2 [(0, .ref (Q 3))] := hl
  unfold x_X5_readLaws at hF
  refine lv_aload_n hx hb dX5_readLaws_0 rfl (lv_at hl 0 rfl) ?_
  refine cg_X5_33 hC hH dX5_readLaws_1 ?_
  obtain ⟨r_1, u_2, h_3, hF⟩ := ncl_some hF
  refine ccV_v (q0 := 10) (As := []) (rest := []) hC hH (n_X4_clear l G Z Q _ T u u_2 r_1 _ h_3) rfl rfl ⟨wkc_X4_clear, wka147, wka516, wka517, wka748⟩ kVX4_clear ⟨Nat.le_of_ble_eq_true rfl, Nat.le_of_ble_eq_true rfl⟩ rfl hl.1 rfl (Nat.le_of_ble_eq_true rfl) dX5_readLaws_4 (fun D H locs hH => ?_)
  refine lv_aload_n hx hb dX5_readLaws_7 rfl (lv_at hl 0 rfl) ?_
  refine cg_X5_9 hC hH dX5_readLaws_8 ?_
  obtain ⟨r_4, u_5, h_6, hF⟩ := ncl_some hF
  refine ccV_v (q0 := 2) (As := []) (rest := []) hC hH (n_X10_rewind l G Z Q _ T u_2 u_5 r_4 _ h_6) rfl rfl ⟨wkc_X10_rewind, wka148, wka649, wka650, wka754⟩ kVX10_rewind ⟨Nat.le_of_ble_eq_true rfl, Nat.le_of_ble_eq_true rfl⟩ rfl hl.1 rfl (Nat.le_of_ble_eq_true rfl) dX5_readLaws_11 (fun D H locs hH => ?_)
  refine lv_aload_n hx hb dX5_readLaws_14 rfl (lv_at hl 0 rfl) ?_
  refine lv_iconst (v := 0) hx hb dX5_readLaws_15 (by decide) ?_
  obtain ⟨y_10, u_7, h_9, hF⟩ := ncl_some hF
  have e_8 := nWF_eq h_9
  refine cp_X5_49 hC hH e_8 dX5_readLaws_16 (fun H locs hH => ?_)
  refine lv_aload_n hx hb dX5_readLaws_19 rfl (lv_at hl 0 rfl) ?_
  refine lv_iconst (v := (-1)) hx hb dX5_readLaws_20 (by decide) ?_
  obtain ⟨y_14, u_11, h_13, hF⟩ := ncl_some hF
  have e_12 := nWF_eq h_13
  refine cp_X5_37 hC hH e_12 dX5_readLaws_21 (fun H locs hH => ?_)
  refine lv_aload_n hx hb dX5_readLaws_24 rfl (lv_at hl 0 rfl) ?_
  refine lv_iconst (v := 0) hx hb dX5_readLaws_25 (by decide) ?_
  obtain ⟨y_18, u_15, h_17, hF⟩ := ncl_some hF
  have e_16 := nWF_eq h_17
  refine cp_X5_52 hC hH e_16 dX5_readLaws_26 (fun H locs hH => ?_)
  refine lv_aload_n hx hb dX5_readLaws_29 rfl (lv_at hl 0 rfl) ?_
  refine lv_iconst (v := 0) hx hb dX5_readLaws_30 (by decide) ?_
  obtain ⟨y_22, u_19, h_21, hF⟩ := ncl_some hF
  have e_20 := nWF_eq h_21
  refine cp_X5_55 hC hH e_20 dX5_readLaws_31 (fun H locs hH => ?_)
  refine lv_aload_n hx hb dX5_readLaws_34 rfl (lv_at hl 0 rfl) ?_
  refine lv_iconst (v := 0) hx hb dX5_readLaws_35 (by decide) ?_
  obtain ⟨y_26, u_23, h_25, hF⟩ := ncl_some hF
  have e_24 := nWF_eq h_25
  refine cp_X5_58 hC hH e_24 dX5_readLaws_36 (fun H locs hH => ?_)
  refine lv_aload_n hx hb dX5_readLaws_39 rfl (lv_at hl 0 rfl) ?_
  refine lv_iconst (v := 0) hx hb dX5_readLaws_40 (by decide) ?_
  obtain ⟨y_30, u_27, h_29, hF⟩ := ncl_some hF
  have e_28 := nWF_eq h_29
  refine cp_X5_61 hC hH e_28 dX5_readLaws_41 (fun H locs hH => ?_)
  refine lv_iconst (v := 0) hx hb dX5_readLaws_44 (by decide) ?_
  refine lv_istore_n (lv' := [(1, .int 0), (0, .ref (Q 3))]) hx hb dX5_readLaws_45 rfl hl (by decide) rfl (fun ls hl => ?_)
  have hL46 : ∀ (K46_93 : Int32 → NG Int32), (∀ (v1 : Int32) (u : MS) (D : Nat × Nat) (H : Heap) (locs : List Loc) (ls : Array Slot), lv_has ls 2 [(0, .ref (Q 3)), (1, .int v1)] → cH G Q D T A u s H locs → K46_93 v1 u = some (r, u1) → W p l e (headSpec (Cond.code yX5_readLaws cX5_readLaws 2 (some .boolean) :: wK) { frames := 8, cells := 0, slots := 0, locals := 168 }).room s m [.ref (Q 3)].toArray below meth c H locs 0 0 (MQ below (cQi G Q T u1 r A) [.ref (Q 3)].toArray s 0 0 A) (F0 m 93 ls [])) → ∀ (n46 : Nat) (v1 : Int32) (u : MS) (D : Nat × Nat) (H : Heap) (locs : List Loc) (ls : Array Slot), lv_has ls 2 [(0, .ref (Q 3)), (1, .int v1)] → cH G Q D T A u s H locs → xl_X5_readLaws_46 n46 v1 K46_93 u = some (r, u1) → W p l e (headSpec (Cond.code yX5_readLaws cX5_readLaws 2 (some .boolean) :: wK) { frames := 8, cells := 0, slots := 0, locals := 168 }).room s m [.ref (Q 3)].toArray below meth c H locs 0 0 (MQ below (cQi G Q T u1 r A) [.ref (Q 3)].toArray s 0 0 A) (F0 m 46 ls []) := by
    intro K46_93 hK46_93 n46
    induction n46 with
    | zero => intro v1 u D H locs ls hl hH hF; cases hF
    | succ n46 ih46 =>
      intro v1 u D H locs ls hl hH hF
      unfold xl_X5_readLaws_46 at hF
      refine lv_iload_n hx hb dX5_readLaws_46 rfl (lv_at hl 1 rfl) ?_
      refine lv_sipush (v := 3000) hx hb dX5_readLaws_47 (by decide) ?_
      refine lv_icmp_gt (tgt := 93) hx hb dX5_readLaws_50 (by decide) (fun c_31 => ?_) (fun c_31 => ?_)
      · rw [if_pos c_31] at hF
        exact hK46_93 v1 u _ _ _ _ (lv_sub hl [0, 1] rfl) hH hF
      · rw [if_neg c_31] at hF
        refine lv_aload_n hx hb dX5_readLaws_53 rfl (lv_at hl 0 rfl) ?_
        refine cg_X5_49 hC hH dX5_readLaws_54 ?_
        obtain ⟨x_32, u_33, h_34, hF⟩ := ncl_some hF
        obtain ⟨e_35, rfl⟩ := nRF_eq h_34
        refine gx_ti e_35 ?_
        refine lv_if_ne (tgt := 93) hx hb dX5_readLaws_57 (by decide) (fun c_36 => ?_) (fun c_36 => ?_)
        · rw [if_neg c_36] at hF
          exact hK46_93 v1 u _ _ _ _ (lv_sub hl [0, 1] rfl) hH hF
        · rw [if_pos c_36] at hF
          refine lv_aload_n hx hb dX5_readLaws_60 rfl (lv_at hl 0 rfl) ?_
          refine cg_X5_52 hC hH dX5_readLaws_61 ?_
          obtain ⟨x_37, u_38, h_39, hF⟩ := ncl_some hF
          obtain ⟨e_40, rfl⟩ := nRF_eq h_39
          refine gx_ti e_40 ?_
          refine lv_bipush (v := 17) hx hb dX5_readLaws_64 (by decide) ?_
          refine lv_icmp_eq (tgt := 93) hx hb dX5_readLaws_66 (by decide) (fun c_41 => ?_) (fun c_41 => ?_)
          · rw [if_pos c_41] at hF
            exact hK46_93 v1 u _ _ _ _ (lv_sub hl [0, 1] rfl) hH hF
          · rw [if_neg c_41] at hF
            refine lv_aload_n hx hb dX5_readLaws_69 rfl (lv_at hl 0 rfl) ?_
            refine cg_X5_9 hC hH dX5_readLaws_70 ?_
            obtain ⟨r_42, u_43, h_44, hF⟩ := ncl_some hF
            refine ccV_v (q0 := 2) (As := []) (rest := []) hC hH (n_X10_readToken l G Z Q _ T u u_43 r_42 _ h_44) rfl rfl ⟨wkc_X10_readToken, wka149, wka651, wka652, wka754⟩ kVX10_readToken ⟨Nat.le_of_ble_eq_true rfl, Nat.le_of_ble_eq_true rfl⟩ rfl hl.1 rfl (Nat.le_of_ble_eq_true rfl) dX5_readLaws_73 (fun D H locs hH => ?_)
            refine lv_aload_n hx hb dX5_readLaws_76 rfl (lv_at hl 0 rfl) ?_
            refine lv_aload_n hx hb dX5_readLaws_77 rfl (lv_at hl 0 rfl) ?_
            refine cg_X5_9 hC hH dX5_readLaws_78 ?_
            refine cg_X5_67 hC hH dX5_readLaws_81 ?_
            obtain ⟨x_45, u_46, h_47, hF⟩ := ncl_some hF
            obtain ⟨e_48, rfl⟩ := nRF_eq h_47
            refine gx_ti e_48 ?_
            obtain ⟨r_49, u_50, h_51, hF⟩ := ncl_some hF
            refine ccV_v (q0 := 3) (As := [.int x_45]) (rest := []) hC hH (n_X5_take l G Z Q _ T u_43 u_50 r_49 x_45 _ h_51) rfl rfl ⟨wkc_X5_take, wka162, wka534, wka535, wka749⟩ kVX5_take ⟨Nat.le_of_ble_eq_true rfl, Nat.le_of_ble_eq_true rfl⟩ rfl hl.1 rfl (Nat.le_of_ble_eq_true rfl) dX5_readLaws_84 (fun D H locs hH => ?_)
            obtain ⟨x_52, e_53, hF⟩ := nli_some hF
            refine lv_iinc (v := x_52) (lv' := [(1, .int x_52), (0, .ref (Q 3))]) hx hb dX5_readLaws_87 hl (k := 1) rfl e_53 (by decide) rfl (fun ls hl => ?_)
            refine lv_goto (tgt := 46) hx hb dX5_readLaws_90 (by decide) ?_
            exact ih46 x_52 u_50 _ _ _ _ (lv_sub hl [1, 0] rfl) hH hF
  refine hL46 _ (fun v1 u D H locs ls hl hH hF => ?_) fuel 0 u_27 _ _ _ _ (lv_sub hl [1, 0] rfl) hH hF
  refine lv_aload_n hx hb dX5_readLaws_93 rfl (lv_at hl 0 rfl) ?_
  refine cg_X5_49 hC hH dX5_readLaws_94 ?_
  obtain ⟨x_54, u_55, h_56, hF⟩ := ncl_some hF
  obtain ⟨e_57, rfl⟩ := nRF_eq h_56
  refine gx_ti e_57 ?_
  refine lv_if_ne (tgt := 104) hx hb dX5_readLaws_97 (by decide) (fun c_58 => ?_) (fun c_58 => ?_)
  · rw [if_neg c_58] at hF
    refine lv_iconst (v := 0) hx hb dX5_readLaws_104 (by decide) ?_
    exact cr_z hC hH hr rfl (nrt_eq hF) dX5_readLaws_105 hlocks
  · rw [if_pos c_58] at hF
    refine lv_iconst (v := 1) hx hb dX5_readLaws_100 (by decide) ?_
    refine lv_goto (tgt := 105) hx hb dX5_readLaws_101 (by decide) ?_
    exact cr_z hC hH hr rfl (nrt_eq hF) dX5_readLaws_105 hlocks
def x_X6_tell (a0 : Int32) (a1 : Int32) (a2 : Int32) : NG Int32 := (if a2 = 0 then ncl (nRF 61) (fun x_2 => ncl (x_X0_slot a0 a1) (fun r_6 => ncl (nGS x_2 26 27 r_6) (fun x_9 => nrt x_9))) else if a2 = 1 then ncl (nRF 63) (fun x_14 => ncl (x_X0_slot a0 a1) (fun r_18 => ncl (nGS x_14 28 29 r_18) (fun x_21 => nrt x_21))) else nrt (-1))
set_option maxHeartbeats 4000000 in
set_option maxRecDepth 100000 in
theorem n_X6_tell (l : Launch) (G : gG) (Z : gC) (Q : Nat → Nat) (D : Nat × Nat) (T : va_W) (u u1 : MS) (r : Int32) (a0 : Int32) (a1 : Int32) (a2 : Int32) (sz : Nat) (hF : x_X6_tell a0 a1 a2 u = some (r, u1)) : Met l yX6_tell (Cond.code yX6_tell cX6_tell 4 (some .int) :: wK) { frames := 1, cells := 0, slots := 0, locals := 22 } (va_Pc [.ref (Q 9), .int a0, .int a1, .int a2] (cPM G Z Q D T u sz)) (cQi G Q T u1 r (va_A (cW G Q D T u) sz)) 0 0 (va_A (cW G Q D T u) sz) := by
  refine Met.ofW (cc := cX6_tell) (maxL := 4) (ret := (some .int)) (by decide) rfl ?_
  intro p e s m args below meth c s₁ B hml hv
  obtain ⟨rfl, rfl, hP, hB, hD0, hE⟩ := hv
  have hr := B.returns
  have hlocks := B.notSynchronized
  have hts := atoms_spec (ws := Cond.code yX6_tell cX6_tell 4 (some .int) :: wK) B.pre
  have hD := hD0.self (sz := s.heap.size)
  have hA : ∀ q : Nat, s.heap.size ≤ q → va_A (cW G Q D T u) s.heap.size q := fun q h => Or.inr h
  generalize va_A (cW G Q D T u) s.heap.size = A at hD hA hE ⊢
  have hC : cX p c cX6_tell 4 s m _ RX6 G Z A := ⟨B.exec, B.bytes, hml, findClass_of_methodNamed B.named, fun w h => hts w (List.mem_cons_of_mem _ h), hB, hE, hA⟩
  have hx := hC.1
  have hb := hC.2.1
  have hH : cH G Q D T A u s s.heap [] := ⟨hP, hD, va_S.rf⟩
  have hl := lv_entry ([.ref (Q 9), .int a0, .int a1, .int a2]) (n := 4) (Nat.le_of_ble_eq_true rfl)
  rw [lg_entry_eq]
  generalize (lg_sl ([.ref (Q 9), .int a0, .int a1, .int a2]) ++ List.replicate (4 - (lg_sl ([.ref (Q 9), .int a0, .int a1, .int a2])).length) Slot.unset).toArray = ls at hl ⊢
  have hl : lv_has ls 4 [(0, .ref (Q 9)), (1, .int a0), (2, .int a1), (3, .int a2)] := hl
  unfold x_X6_tell at hF
  refine lv_iload_n hx hb dX6_tell_0 rfl (lv_at hl 3 rfl) ?_
  by_cases c_1 : a2 = 0
  · rw [if_pos c_1] at hF
    refine gx_ti (y := 0) c_1 ?_
    refine lv_lookup (off := 27) (tgt := 28) hx hb dX6_tell_1 (by decide) (by decide) (by decide) ?_
    refine lv_aload_n hx hb dX6_tell_28 rfl (lv_at hl 0 rfl) ?_
    refine cg_X6_42 hC hH dX6_tell_29 ?_
    obtain ⟨x_2, u_3, h_4, hF⟩ := ncl_some hF
    obtain ⟨e_5, rfl⟩ := nRF_eq h_4
    rw [e_5]
    refine lv_iload_n hx hb dX6_tell_32 rfl (lv_at hl 1 rfl) ?_
    refine lv_iload_n hx hb dX6_tell_33 rfl (lv_at hl 2 rfl) ?_
    obtain ⟨r_6, u_7, h_8, hF⟩ := ncl_some hF
    refine ccS_i (As := [.int a0, .int a1]) (rest := [.ref (sl (x_2) (Q 70) (Q 72))]) hC hH (n_X0_slot l G Z Q _ T u u_7 r_6 a0 a1 _ h_8) ⟨wkc_X0_slot, wka358, wka387, wka744⟩ kSX0_slot ⟨Nat.le_of_ble_eq_true rfl, Nat.le_of_ble_eq_true rfl⟩ rfl hl.1 rfl (Nat.le_of_ble_eq_true rfl) dX6_tell_34 (fun D H locs hH => ?_)
    refine rg_pm1 hC hH wka361 ⟨Nat.le_of_ble_eq_true rfl, Nat.le_of_ble_eq_true rfl⟩ hl.1 (Nat.le_of_ble_eq_true rfl) ⟨Nat.zero_le _, Nat.zero_le _⟩ dX6_tell_37 ?_
    obtain ⟨x_9, u_10, h_11, hF⟩ := ncl_some hF
    obtain ⟨e_12, rfl⟩ := nGS_eq h_11
    refine gx_ti e_12 ?_
    exact cr_i hC hH hr (nrt_eq hF) dX6_tell_40 hlocks
  rw [if_neg c_1] at hF
  by_cases c_13 : a2 = 1
  · rw [if_pos c_13] at hF
    refine gx_ti (y := 1) c_13 ?_
    refine lv_lookup (off := 40) (tgt := 41) hx hb dX6_tell_1 (by decide) (by decide) (by decide) ?_
    refine lv_aload_n hx hb dX6_tell_41 rfl (lv_at hl 0 rfl) ?_
    refine cg_X6_45 hC hH dX6_tell_42 ?_
    obtain ⟨x_14, u_15, h_16, hF⟩ := ncl_some hF
    obtain ⟨e_17, rfl⟩ := nRF_eq h_16
    rw [e_17]
    refine lv_iload_n hx hb dX6_tell_45 rfl (lv_at hl 1 rfl) ?_
    refine lv_iload_n hx hb dX6_tell_46 rfl (lv_at hl 2 rfl) ?_
    obtain ⟨r_18, u_19, h_20, hF⟩ := ncl_some hF
    refine ccS_i (As := [.int a0, .int a1]) (rest := [.ref (sl (x_14) (Q 74) (Q 76))]) hC hH (n_X0_slot l G Z Q _ T u u_19 r_18 a0 a1 _ h_20) ⟨wkc_X0_slot, wka358, wka387, wka744⟩ kSX0_slot ⟨Nat.le_of_ble_eq_true rfl, Nat.le_of_ble_eq_true rfl⟩ rfl hl.1 rfl (Nat.le_of_ble_eq_true rfl) dX6_tell_47 (fun D H locs hH => ?_)
    refine rg_pb1 hC hH wka361 ⟨Nat.le_of_ble_eq_true rfl, Nat.le_of_ble_eq_true rfl⟩ hl.1 (Nat.le_of_ble_eq_true rfl) ⟨Nat.zero_le _, Nat.zero_le _⟩ dX6_tell_50 ?_
    obtain ⟨x_21, u_22, h_23, hF⟩ := ncl_some hF
    obtain ⟨e_24, rfl⟩ := nGS_eq h_23
    refine gx_ti e_24 ?_
    exact cr_i hC hH hr (nrt_eq hF) dX6_tell_53 hlocks
  rw [if_neg c_13] at hF
  refine lv_lookup (off := 53) (tgt := 54) hx hb dX6_tell_1 (by decide) (by show Op.lookupswitch.offset [(0, 27), (1, 40)] 53 _ = _; rw [Op.lookupswitch.offset_cons, if_neg (gl_ne c_1 (by decide)), Op.lookupswitch.offset_cons, if_neg (gl_ne c_13 (by decide))]; rfl) (by decide) ?_
  refine lv_iconst (v := (-1)) hx hb dX6_tell_54 (by decide) ?_
  exact cr_i hC hH hr (nrt_eq hF) dX6_tell_55 hlocks
def xl_X6_clear_49 : Nat → Int32 → (Int32 → NG Int32) → NG Int32
  | 0, _, _ => fun _ => none
  | n49 + 1, v1, K49_108 => ncl (nGT 0 2088 2) (fun x_37 => (if x_37 ≤ v1 then K49_108 v1 else ncl (x_X1_ofFighter v1 6) (fun r_42 => ncl (nGT 0 2088 r_42) (fun x_45 => (if x_45 = (-1) then ncl (nST 24 96 v1 0) (fun _ => nli (v1 + 1) (fun x_64 => xl_X6_clear_49 n49 x_64 K49_108)) else ncl (nGT 0 2088 1) (fun x_50 => ncl (nST 24 96 v1 (x_45 + x_50)) (fun _ => nli (v1 + 1) (fun x_58 => xl_X6_clear_49 n49 x_58 K49_108))))))))
def x_X6_clear : NG Int32 := ncl (nRF 62) (fun x_1 => ncl (nFS x_1 26 27 (-1)) (fun _ => ncl (nRF 64) (fun x_9 => ncl (nFS x_9 28 29 (-1)) (fun _ => ncl (nFL 22 148 (-1)) (fun _ => ncl (nGT 0 2088 0) (fun x_21 => ncl (nWF 19 x_21) (fun _ => ncl (nRF 19) (fun x_29 => ncl (nFL 23 4 x_29) (fun _ => xl_X6_clear_49 fuel 0 (fun v1 => nrt 0))))))))))
set_option maxHeartbeats 4000000 in
set_option maxRecDepth 100000 in
theorem n_X6_clear (l : Launch) (G : gG) (Z : gC) (Q : Nat → Nat) (D : Nat × Nat) (T : va_W) (u u1 : MS) (r : Int32) (sz : Nat) (hF : x_X6_clear u = some (r, u1)) : Met l yX6_clear (Cond.code yX6_clear cX6_clear 3 none :: wK) { frames := 2, cells := 0, slots := 0, locals := 44 } (va_Pc [.ref (Q 9)] (cPM G Z Q D T u sz)) (cQv G Q T u1 (va_A (cW G Q D T u) sz)) 0 0 (va_A (cW G Q D T u) sz) := by
  refine Met.ofW (cc := cX6_clear) (maxL := 3) (ret := none) (by decide) rfl ?_
  intro p e s m args below meth c s₁ B hml hv
  obtain ⟨rfl, rfl, hP, hB, hD0, hE⟩ := hv
  have hr := B.returns
  have hlocks := B.notSynchronized
  have hts := atoms_spec (ws := Cond.code yX6_clear cX6_clear 3 none :: wK) B.pre
  have hD := hD0.self (sz := s.heap.size)
  have hA : ∀ q : Nat, s.heap.size ≤ q → va_A (cW G Q D T u) s.heap.size q := fun q h => Or.inr h
  generalize va_A (cW G Q D T u) s.heap.size = A at hD hA hE ⊢
  have hC : cX p c cX6_clear 3 s m _ RX6 G Z A := ⟨B.exec, B.bytes, hml, findClass_of_methodNamed B.named, fun w h => hts w (List.mem_cons_of_mem _ h), hB, hE, hA⟩
  have hx := hC.1
  have hb := hC.2.1
  have hH : cH G Q D T A u s s.heap [] := ⟨hP, hD, va_S.rf⟩
  have hl := lv_entry ([.ref (Q 9)]) (n := 3) (Nat.le_of_ble_eq_true rfl)
  rw [lg_entry_eq]
  generalize (lg_sl ([.ref (Q 9)]) ++ List.replicate (3 - (lg_sl ([.ref (Q 9)])).length) Slot.unset).toArray = ls at hl ⊢
  have hl : lv_has ls 3 [(0, .ref (Q 9))] := hl
  unfold x_X6_clear at hF
  refine lv_aload_n hx hb dX6_clear_0 rfl (lv_at hl 0 rfl) ?_
  refine cg_X6_48 hC hH dX6_clear_1 ?_
  obtain ⟨x_1, u_2, h_3, hF⟩ := ncl_some hF
  obtain ⟨e_4, rfl⟩ := nRF_eq h_3
  rw [e_4]
  refine lv_iconst (v := (-1)) hx hb dX6_clear_4 (by decide) ?_
  obtain ⟨y_8, u_5, h_7, hF⟩ := ncl_some hF
  have e_6 := nFS_eq h_7
  refine rf_pm1 hC hH e_6 wka351 ⟨Nat.le_of_ble_eq_true rfl, Nat.le_of_ble_eq_true rfl⟩ hl.1 (Nat.le_of_ble_eq_true rfl) ⟨Nat.zero_le _, Nat.zero_le _⟩ dX6_clear_5 (fun H locs hH => ?_)
  refine lv_aload_n hx hb dX6_clear_8 rfl (lv_at hl 0 rfl) ?_
  refine cg_X6_51 hC hH dX6_clear_9 ?_
  obtain ⟨x_9, u_10, h_11, hF⟩ := ncl_some hF
  obtain ⟨e_12, rfl⟩ := nRF_eq h_11
  rw [e_12]
  refine lv_iconst (v := (-1)) hx hb dX6_clear_12 (by decide) ?_
  obtain ⟨y_16, u_13, h_15, hF⟩ := ncl_some hF
  have e_14 := nFS_eq h_15
  refine rf_pb1 hC hH e_14 wka351 ⟨Nat.le_of_ble_eq_true rfl, Nat.le_of_ble_eq_true rfl⟩ hl.1 (Nat.le_of_ble_eq_true rfl) ⟨Nat.zero_le _, Nat.zero_le _⟩ dX6_clear_13 (fun H locs hH => ?_)
  refine lv_aload_n hx hb dX6_clear_16 rfl (lv_at hl 0 rfl) ?_
  refine cg_X6_30 hC hH dX6_clear_17 ?_
  refine lv_iconst (v := (-1)) hx hb dX6_clear_20 (by decide) ?_
  obtain ⟨y_20, u_17, h_19, hF⟩ := ncl_some hF
  have e_18 := nFL_eq h_19
  refine rf_21 hC hH e_18 wka351 ⟨Nat.le_of_ble_eq_true rfl, Nat.le_of_ble_eq_true rfl⟩ hl.1 (Nat.le_of_ble_eq_true rfl) ⟨Nat.zero_le _, Nat.zero_le _⟩ dX6_clear_21 (fun H locs hH => ?_)
  refine lv_aload_n hx hb dX6_clear_24 rfl (lv_at hl 0 rfl) ?_
  refine lv_aload_n hx hb dX6_clear_25 rfl (lv_at hl 0 rfl) ?_
  refine cg_X6_9 hC hH dX6_clear_26 ?_
  refine lv_iconst (v := 0) hx hb dX6_clear_29 (by decide) ?_
  refine bat (i := 1) (j := 11) hC hH rfl rfl (by decide) wka352 ⟨Nat.le_of_ble_eq_true rfl, Nat.le_of_ble_eq_true rfl⟩ hl.1 (Nat.le_of_ble_eq_true rfl) ⟨Nat.zero_le _, Nat.zero_le _⟩ dX6_clear_30 ?_
  obtain ⟨x_21, u_22, h_23, hF⟩ := ncl_some hF
  obtain ⟨e_24, rfl⟩ := nGT_eq h_23
  refine gx_ti e_24 ?_
  obtain ⟨y_28, u_25, h_27, hF⟩ := ncl_some hF
  have e_26 := nWF_eq h_27
  refine cp_X6_102 hC hH e_26 dX6_clear_33 (fun H locs hH => ?_)
  refine lv_aload_n hx hb dX6_clear_36 rfl (lv_at hl 0 rfl) ?_
  refine cg_X6_33 hC hH dX6_clear_37 ?_
  refine lv_aload_n hx hb dX6_clear_40 rfl (lv_at hl 0 rfl) ?_
  refine cg_X6_102 hC hH dX6_clear_41 ?_
  obtain ⟨x_29, u_30, h_31, hF⟩ := ncl_some hF
  obtain ⟨e_32, rfl⟩ := nRF_eq h_31
  refine gx_ti e_32 ?_
  obtain ⟨y_36, u_33, h_35, hF⟩ := ncl_some hF
  have e_34 := nFL_eq h_35
  refine rf_22 hC hH e_34 wka351 ⟨Nat.le_of_ble_eq_true rfl, Nat.le_of_ble_eq_true rfl⟩ hl.1 (Nat.le_of_ble_eq_true rfl) ⟨Nat.zero_le _, Nat.zero_le _⟩ dX6_clear_44 (fun H locs hH => ?_)
  refine lv_iconst (v := 0) hx hb dX6_clear_47 (by decide) ?_
  refine lv_istore_n (lv' := [(1, .int 0), (0, .ref (Q 9))]) hx hb dX6_clear_48 rfl hl (by decide) rfl (fun ls hl => ?_)
  have hL49 : ∀ (K49_108 : Int32 → NG Int32), (∀ (v1 : Int32) (u : MS) (D : Nat × Nat) (H : Heap) (locs : List Loc) (ls : Array Slot), lv_has ls 3 [(0, .ref (Q 9)), (1, .int v1)] → cH G Q D T A u s H locs → K49_108 v1 u = some (r, u1) → W p l e (headSpec (Cond.code yX6_clear cX6_clear 3 none :: wK) { frames := 2, cells := 0, slots := 0, locals := 44 }).room s m [.ref (Q 9)].toArray below meth c H locs 0 0 (MQ below (cQv G Q T u1 A) [.ref (Q 9)].toArray s 0 0 A) (F0 m 108 ls [])) → ∀ (n49 : Nat) (v1 : Int32) (u : MS) (D : Nat × Nat) (H : Heap) (locs : List Loc) (ls : Array Slot), lv_has ls 3 [(0, .ref (Q 9)), (1, .int v1)] → cH G Q D T A u s H locs → xl_X6_clear_49 n49 v1 K49_108 u = some (r, u1) → W p l e (headSpec (Cond.code yX6_clear cX6_clear 3 none :: wK) { frames := 2, cells := 0, slots := 0, locals := 44 }).room s m [.ref (Q 9)].toArray below meth c H locs 0 0 (MQ below (cQv G Q T u1 A) [.ref (Q 9)].toArray s 0 0 A) (F0 m 49 ls []) := by
    intro K49_108 hK49_108 n49
    induction n49 with
    | zero => intro v1 u D H locs ls hl hH hF; cases hF
    | succ n49 ih49 =>
      intro v1 u D H locs ls hl hH hF
      unfold xl_X6_clear_49 at hF
      refine lv_iload_n hx hb dX6_clear_49 rfl (lv_at hl 1 rfl) ?_
      refine lv_aload_n hx hb dX6_clear_50 rfl (lv_at hl 0 rfl) ?_
      refine cg_X6_9 hC hH dX6_clear_51 ?_
      refine lv_iconst (v := 2) hx hb dX6_clear_54 (by decide) ?_
      refine bat (i := 1) (j := 11) hC hH rfl rfl (by decide) wka352 ⟨Nat.le_of_ble_eq_true rfl, Nat.le_of_ble_eq_true rfl⟩ hl.1 (Nat.le_of_ble_eq_true rfl) ⟨Nat.zero_le _, Nat.zero_le _⟩ dX6_clear_55 ?_
      obtain ⟨x_37, u_38, h_39, hF⟩ := ncl_some hF
      obtain ⟨e_40, rfl⟩ := nGT_eq h_39
      refine gx_ti e_40 ?_
      refine lv_icmp_ge (tgt := 108) hx hb dX6_clear_58 (by decide) (fun c_41 => ?_) (fun c_41 => ?_)
      · rw [if_pos c_41] at hF
        exact hK49_108 v1 u _ _ _ _ (lv_sub hl [0, 1] rfl) hH hF
      · rw [if_neg c_41] at hF
        refine lv_aload_n hx hb dX6_clear_61 rfl (lv_at hl 0 rfl) ?_
        refine cg_X6_9 hC hH dX6_clear_62 ?_
        refine lv_iload_n hx hb dX6_clear_65 rfl (lv_at hl 1 rfl) ?_
        refine lv_bipush (v := 6) hx hb dX6_clear_66 (by decide) ?_
        obtain ⟨r_42, u_43, h_44, hF⟩ := ncl_some hF
        refine ccS_i (As := [.int v1, .int 6]) (rest := [.ref (Q 1)]) hC hH (n_X1_ofFighter l G Z Q _ T u u_43 r_42 v1 6 _ h_44) ⟨wkc_X1_ofFighter, wka353, wka436, wka745⟩ kSX1_ofFighter ⟨Nat.le_of_ble_eq_true rfl, Nat.le_of_ble_eq_true rfl⟩ rfl hl.1 rfl (Nat.le_of_ble_eq_true rfl) dX6_clear_68 (fun D H locs hH => ?_)
        refine bat (i := 1) (j := 11) hC hH rfl rfl (by decide) wka352 ⟨Nat.le_of_ble_eq_true rfl, Nat.le_of_ble_eq_true rfl⟩ hl.1 (Nat.le_of_ble_eq_true rfl) ⟨Nat.zero_le _, Nat.zero_le _⟩ dX6_clear_71 ?_
        obtain ⟨x_45, u_46, h_47, hF⟩ := ncl_some hF
        obtain ⟨e_48, rfl⟩ := nGT_eq h_47
        refine gx_ti e_48 ?_
        refine lv_istore_n (lv' := [(2, .int x_45), (0, .ref (Q 9)), (1, .int v1)]) hx hb dX6_clear_74 rfl hl (by decide) rfl (fun ls hl => ?_)
        refine lv_aload_n hx hb dX6_clear_75 rfl (lv_at hl 1 rfl) ?_
        refine cg_X6_36 hC hH dX6_clear_76 ?_
        refine lv_iload_n hx hb dX6_clear_79 rfl (lv_at hl 2 rfl) ?_
        refine lv_iload_n hx hb dX6_clear_80 rfl (lv_at hl 0 rfl) ?_
        refine lv_iconst (v := (-1)) hx hb dX6_clear_81 (by decide) ?_
        refine lv_icmp_ne (tgt := 89) hx hb dX6_clear_82 (by decide) (fun c_49 => ?_) (fun c_49 => ?_)
        · rw [if_neg c_49] at hF
          refine lv_iload_n hx hb dX6_clear_89 rfl (lv_at hl 0 rfl) ?_
          refine lv_aload_n hx hb dX6_clear_90 rfl (lv_at hl 1 rfl) ?_
          refine cg_X6_9 hC hH dX6_clear_91 ?_
          refine lv_iconst (v := 1) hx hb dX6_clear_94 (by decide) ?_
          refine bat (i := 1) (j := 11) hC hH rfl rfl (by decide) wka352 ⟨Nat.le_of_ble_eq_true rfl, Nat.le_of_ble_eq_true rfl⟩ hl.1 (Nat.le_of_ble_eq_true rfl) ⟨Nat.zero_le _, Nat.zero_le _⟩ dX6_clear_95 ?_
          obtain ⟨x_50, u_51, h_52, hF⟩ := ncl_some hF
          obtain ⟨e_53, rfl⟩ := nGT_eq h_52
          refine gx_ti e_53 ?_
          refine lv_iadd hx hb dX6_clear_98 ?_
          obtain ⟨y_57, u_54, h_56, hF⟩ := ncl_some hF
          have e_55 := nST_eq h_56
          refine rs_23 hC hH e_55 wka354 ⟨Nat.le_of_ble_eq_true rfl, Nat.le_of_ble_eq_true rfl⟩ hl.1 (Nat.le_of_ble_eq_true rfl) ⟨Nat.zero_le _, Nat.zero_le _⟩ dX6_clear_99 (fun H locs hH => ?_)
          obtain ⟨x_58, e_59, hF⟩ := nli_some hF
          refine lv_iinc (v := x_58) (lv' := [(1, .int x_58), (2, .int x_45), (0, .ref (Q 9))]) hx hb dX6_clear_102 hl (k := 2) rfl e_59 (by decide) rfl (fun ls hl => ?_)
          refine lv_goto (tgt := 49) hx hb dX6_clear_105 (by decide) ?_
          exact ih49 x_58 u_54 _ _ _ _ (lv_sub hl [2, 0] rfl) hH hF
        · rw [if_pos c_49] at hF
          refine lv_iconst (v := 0) hx hb dX6_clear_85 (by decide) ?_
          refine lv_goto (tgt := 99) hx hb dX6_clear_86 (by decide) ?_
          obtain ⟨y_63, u_60, h_62, hF⟩ := ncl_some hF
          have e_61 := nST_eq h_62
          refine rs_23 hC hH e_61 wka354 ⟨Nat.le_of_ble_eq_true rfl, Nat.le_of_ble_eq_true rfl⟩ hl.1 (Nat.le_of_ble_eq_true rfl) ⟨Nat.zero_le _, Nat.zero_le _⟩ dX6_clear_99 (fun H locs hH => ?_)
          obtain ⟨x_64, e_65, hF⟩ := nli_some hF
          refine lv_iinc (v := x_64) (lv' := [(1, .int x_64), (2, .int x_45), (0, .ref (Q 9))]) hx hb dX6_clear_102 hl (k := 2) rfl e_65 (by decide) rfl (fun ls hl => ?_)
          refine lv_goto (tgt := 49) hx hb dX6_clear_105 (by decide) ?_
          exact ih49 x_64 u_60 _ _ _ _ (lv_sub hl [2, 0] rfl) hH hF
  refine hL49 _ (fun v1 u D H locs ls hl hH hF => ?_) fuel 0 u_33 _ _ _ _ (lv_sub hl [1, 0] rfl) hH hF
  exact cr_v hC hH hr (nrt_eq hF) dX6_clear_108 hlocks
def x_X6_holdTill (a0 : Int32) (a1 : Int32) : NG Int32 := (if a0 = (-1) then nrt 0 else ncl (nGT 24 96 a0) (fun x_2 => ncl (nST 24 96 a0 (if x_2 < a1 then a1 else x_2)) (fun _ => nrt 0)))
set_option maxHeartbeats 4000000 in
set_option maxRecDepth 100000 in
theorem n_X6_holdTill (l : Launch) (G : gG) (Z : gC) (Q : Nat → Nat) (D : Nat × Nat) (T : va_W) (u u1 : MS) (r : Int32) (a0 : Int32) (a1 : Int32) (sz : Nat) (hF : x_X6_holdTill a0 a1 u = some (r, u1)) : Met l yX6_holdTill (Cond.code yX6_holdTill cX6_holdTill 3 none :: wK) { frames := 1, cells := 0, slots := 0, locals := 22 } (va_Pc [.ref (Q 9), .int a0, .int a1] (cPM G Z Q D T u sz)) (cQv G Q T u1 (va_A (cW G Q D T u) sz)) 0 0 (va_A (cW G Q D T u) sz) := by
  refine Met.ofW (cc := cX6_holdTill) (maxL := 3) (ret := none) (by decide) rfl ?_
  intro p e s m args below meth c s₁ B hml hv
  obtain ⟨rfl, rfl, hP, hB, hD0, hE⟩ := hv
  have hr := B.returns
  have hlocks := B.notSynchronized
  have hts := atoms_spec (ws := Cond.code yX6_holdTill cX6_holdTill 3 none :: wK) B.pre
  have hD := hD0.self (sz := s.heap.size)
  have hA : ∀ q : Nat, s.heap.size ≤ q → va_A (cW G Q D T u) s.heap.size q := fun q h => Or.inr h
  generalize va_A (cW G Q D T u) s.heap.size = A at hD hA hE ⊢
  have hC : cX p c cX6_holdTill 3 s m _ RX6 G Z A := ⟨B.exec, B.bytes, hml, findClass_of_methodNamed B.named, fun w h => hts w (List.mem_cons_of_mem _ h), hB, hE, hA⟩
  have hx := hC.1
  have hb := hC.2.1
  have hH : cH G Q D T A u s s.heap [] := ⟨hP, hD, va_S.rf⟩
  have hl := lv_entry ([.ref (Q 9), .int a0, .int a1]) (n := 3) (Nat.le_of_ble_eq_true rfl)
  rw [lg_entry_eq]
  generalize (lg_sl ([.ref (Q 9), .int a0, .int a1]) ++ List.replicate (3 - (lg_sl ([.ref (Q 9), .int a0, .int a1])).length) Slot.unset).toArray = ls at hl ⊢
  have hl : lv_has ls 3 [(0, .ref (Q 9)), (1, .int a0), (2, .int a1)] := hl
  unfold x_X6_holdTill at hF
  refine lv_iload_n hx hb dX6_holdTill_0 rfl (lv_at hl 1 rfl) ?_
  refine lv_iconst (v := (-1)) hx hb dX6_holdTill_1 (by decide) ?_
  refine lv_icmp_eq (tgt := 25) hx hb dX6_holdTill_2 (by decide) (fun c_1 => ?_) (fun c_1 => ?_)
  · rw [if_pos c_1] at hF
    exact cr_v hC hH hr (nrt_eq hF) dX6_holdTill_25 hlocks
  · rw [if_neg c_1] at hF
    refine lv_aload_n hx hb dX6_holdTill_5 rfl (lv_at hl 0 rfl) ?_
    refine cg_X6_36 hC hH dX6_holdTill_6 ?_
    refine lv_iload_n hx hb dX6_holdTill_9 rfl (lv_at hl 1 rfl) ?_
    refine lv_aload_n hx hb dX6_holdTill_10 rfl (lv_at hl 0 rfl) ?_
    refine cg_X6_36 hC hH dX6_holdTill_11 ?_
    refine lv_iload_n hx hb dX6_holdTill_14 rfl (lv_at hl 1 rfl) ?_
    refine rg_23 hC hH wka361 ⟨Nat.le_of_ble_eq_true rfl, Nat.le_of_ble_eq_true rfl⟩ hl.1 (Nat.le_of_ble_eq_true rfl) ⟨Nat.zero_le _, Nat.zero_le _⟩ dX6_holdTill_15 ?_
    obtain ⟨x_2, u_3, h_4, hF⟩ := ncl_some hF
    obtain ⟨e_5, rfl⟩ := nGT_eq h_4
    refine gx_ti e_5 ?_
    refine lv_iload_n hx hb dX6_holdTill_18 rfl (lv_at hl 2 rfl) ?_
    refine va_mmax hx hb (hC.2.2.1.trans hl.1.symm) hC.2.2.2.1 (hC.2.2.2.2.1 _ wka362) (hC.2.2.2.2.1 _ wka756) (hC.2.2.2.2.1 _ wka760) (hC.2.2.2.2.1 _ wka757) (Nat.le_of_ble_eq_true rfl) (Nat.le_of_ble_eq_true rfl) (Nat.le_of_ble_eq_true rfl) (Nat.le_of_ble_eq_true rfl) dX6_holdTill_19 ?_
    obtain ⟨y_9, u_6, h_8, hF⟩ := ncl_some hF
    have e_7 := nST_eq h_8
    refine rs_23 hC hH e_7 wka354 ⟨Nat.le_of_ble_eq_true rfl, Nat.le_of_ble_eq_true rfl⟩ hl.1 (Nat.le_of_ble_eq_true rfl) ⟨Nat.zero_le _, Nat.zero_le _⟩ dX6_holdTill_22 (fun H locs hH => ?_)
    exact cr_v hC hH hr (nrt_eq hF) dX6_holdTill_25 hlocks
def x_X6_put (a0 : Int32) (a1 : Int32) (a2 : Int32) (a3 : Int32) : NG Int32 := ncl (nRF 18) (fun x_1 => nli (a3 + x_1) (fun x_5 => ncl (nRF 62) (fun x_7 => ncl (x_X0_slot a0 a1) (fun r_11 => ncl (nSS x_7 26 27 r_11 a2) (fun _ => ncl (nRF 64) (fun x_18 => ncl (x_X0_slot a0 a1) (fun r_22 => ncl (nSS x_18 28 29 r_22 a3) (fun _ => ncl (x_X0_slot a0 a1) (fun r_29 => ncl (nST 22 148 r_29 x_5) (fun _ => ncl (nST 23 4 a2 x_5) (fun _ => ncl (x_X0_whiteOf a0 a1) (fun r_40 => ncl (nGT 0 2088 1) (fun x_43 => ncl (x_X6_holdTill r_40 (x_5 + x_43)) (fun r_47 => ncl (x_X0_blueOf a0 a1) (fun r_50 => ncl (nGT 0 2088 1) (fun x_53 => ncl (x_X6_holdTill r_50 (x_5 + x_53)) (fun r_57 => ncl (nRF 19) (fun x_60 => ncl (nWF 19 (if x_60 < x_5 then x_5 else x_60)) (fun _ => nrt 0)))))))))))))))))))
set_option maxHeartbeats 4000000 in
set_option maxRecDepth 100000 in
theorem n_X6_put (l : Launch) (G : gG) (Z : gC) (Q : Nat → Nat) (D : Nat × Nat) (T : va_W) (u u1 : MS) (r : Int32) (a0 : Int32) (a1 : Int32) (a2 : Int32) (a3 : Int32) (sz : Nat) (hF : x_X6_put a0 a1 a2 a3 u = some (r, u1)) : Met l yX6_put (Cond.code yX6_put cX6_put 6 none :: wK) { frames := 2, cells := 0, slots := 0, locals := 44 } (va_Pc [.ref (Q 9), .int a0, .int a1, .int a2, .int a3] (cPM G Z Q D T u sz)) (cQv G Q T u1 (va_A (cW G Q D T u) sz)) 0 0 (va_A (cW G Q D T u) sz) := by
  refine Met.ofW (cc := cX6_put) (maxL := 6) (ret := none) (by decide) rfl ?_
  intro p e s m args below meth c s₁ B hml hv
  obtain ⟨rfl, rfl, hP, hB, hD0, hE⟩ := hv
  have hr := B.returns
  have hlocks := B.notSynchronized
  have hts := atoms_spec (ws := Cond.code yX6_put cX6_put 6 none :: wK) B.pre
  have hD := hD0.self (sz := s.heap.size)
  have hA : ∀ q : Nat, s.heap.size ≤ q → va_A (cW G Q D T u) s.heap.size q := fun q h => Or.inr h
  generalize va_A (cW G Q D T u) s.heap.size = A at hD hA hE ⊢
  have hC : cX p c cX6_put 6 s m _ RX6 G Z A := ⟨B.exec, B.bytes, hml, findClass_of_methodNamed B.named, fun w h => hts w (List.mem_cons_of_mem _ h), hB, hE, hA⟩
  have hx := hC.1
  have hb := hC.2.1
  have hH : cH G Q D T A u s s.heap [] := ⟨hP, hD, va_S.rf⟩
  have hl := lv_entry ([.ref (Q 9), .int a0, .int a1, .int a2, .int a3]) (n := 6) (Nat.le_of_ble_eq_true rfl)
  rw [lg_entry_eq]
  generalize (lg_sl ([.ref (Q 9), .int a0, .int a1, .int a2, .int a3]) ++ List.replicate (6 - (lg_sl ([.ref (Q 9), .int a0, .int a1, .int a2, .int a3])).length) Slot.unset).toArray = ls at hl ⊢
  have hl : lv_has ls 6 [(0, .ref (Q 9)), (1, .int a0), (2, .int a1), (3, .int a2), (4, .int a3)] := hl
  unfold x_X6_put at hF
  refine lv_iload hx hb dX6_put_0 (lv_at hl 4 rfl) ?_
  refine lv_aload_n hx hb dX6_put_2 rfl (lv_at hl 0 rfl) ?_
  refine cg_X6_62 hC hH dX6_put_3 ?_
  obtain ⟨x_1, u_2, h_3, hF⟩ := ncl_some hF
  obtain ⟨e_4, rfl⟩ := nRF_eq h_3
  refine gx_ti e_4 ?_
  refine lv_iadd hx hb dX6_put_6 ?_
  obtain ⟨x_5, e_6, hF⟩ := nli_some hF
  refine gx_ti e_6 ?_
  refine lv_istore (lv' := [(5, .int x_5), (0, .ref (Q 9)), (1, .int a0), (2, .int a1), (3, .int a2), (4, .int a3)]) hx hb dX6_put_7 hl (by decide) rfl (fun ls hl => ?_)
  refine lv_aload_n hx hb dX6_put_9 rfl (lv_at hl 1 rfl) ?_
  refine cg_X6_48 hC hH dX6_put_10 ?_
  obtain ⟨x_7, u_8, h_9, hF⟩ := ncl_some hF
  obtain ⟨e_10, rfl⟩ := nRF_eq h_9
  rw [e_10]
  refine lv_iload_n hx hb dX6_put_13 rfl (lv_at hl 2 rfl) ?_
  refine lv_iload_n hx hb dX6_put_14 rfl (lv_at hl 3 rfl) ?_
  obtain ⟨r_11, u_12, h_13, hF⟩ := ncl_some hF
  refine ccS_i (As := [.int a0, .int a1]) (rest := [.ref (sl (x_7) (Q 70) (Q 72))]) hC hH (n_X0_slot l G Z Q _ T u u_12 r_11 a0 a1 _ h_13) ⟨wkc_X0_slot, wka358, wka387, wka744⟩ kSX0_slot ⟨Nat.le_of_ble_eq_true rfl, Nat.le_of_ble_eq_true rfl⟩ rfl hl.1 rfl (Nat.le_of_ble_eq_true rfl) dX6_put_15 (fun D H locs hH => ?_)
  refine lv_iload_n hx hb dX6_put_18 rfl (lv_at hl 4 rfl) ?_
  obtain ⟨y_17, u_14, h_16, hF⟩ := ncl_some hF
  have e_15 := nSS_eq h_16
  refine rs_pm1 hC hH e_15 wka354 ⟨Nat.le_of_ble_eq_true rfl, Nat.le_of_ble_eq_true rfl⟩ hl.1 (Nat.le_of_ble_eq_true rfl) ⟨Nat.zero_le _, Nat.zero_le _⟩ dX6_put_19 (fun H locs hH => ?_)
  refine lv_aload_n hx hb dX6_put_22 rfl (lv_at hl 1 rfl) ?_
  refine cg_X6_51 hC hH dX6_put_23 ?_
  obtain ⟨x_18, u_19, h_20, hF⟩ := ncl_some hF
  obtain ⟨e_21, rfl⟩ := nRF_eq h_20
  rw [e_21]
  refine lv_iload_n hx hb dX6_put_26 rfl (lv_at hl 2 rfl) ?_
  refine lv_iload_n hx hb dX6_put_27 rfl (lv_at hl 3 rfl) ?_
  obtain ⟨r_22, u_23, h_24, hF⟩ := ncl_some hF
  refine ccS_i (As := [.int a0, .int a1]) (rest := [.ref (sl (x_18) (Q 74) (Q 76))]) hC hH (n_X0_slot l G Z Q _ T u_14 u_23 r_22 a0 a1 _ h_24) ⟨wkc_X0_slot, wka358, wka387, wka744⟩ kSX0_slot ⟨Nat.le_of_ble_eq_true rfl, Nat.le_of_ble_eq_true rfl⟩ rfl hl.1 rfl (Nat.le_of_ble_eq_true rfl) dX6_put_28 (fun D H locs hH => ?_)
  refine lv_iload hx hb dX6_put_31 (lv_at hl 5 rfl) ?_
  obtain ⟨y_28, u_25, h_27, hF⟩ := ncl_some hF
  have e_26 := nSS_eq h_27
  refine rs_pb1 hC hH e_26 wka354 ⟨Nat.le_of_ble_eq_true rfl, Nat.le_of_ble_eq_true rfl⟩ hl.1 (Nat.le_of_ble_eq_true rfl) ⟨Nat.zero_le _, Nat.zero_le _⟩ dX6_put_33 (fun H locs hH => ?_)
  refine lv_aload_n hx hb dX6_put_36 rfl (lv_at hl 1 rfl) ?_
  refine cg_X6_30 hC hH dX6_put_37 ?_
  refine lv_iload_n hx hb dX6_put_40 rfl (lv_at hl 2 rfl) ?_
  refine lv_iload_n hx hb dX6_put_41 rfl (lv_at hl 3 rfl) ?_
  obtain ⟨r_29, u_30, h_31, hF⟩ := ncl_some hF
  refine ccS_i (As := [.int a0, .int a1]) (rest := [.ref (Q 62)]) hC hH (n_X0_slot l G Z Q _ T u_25 u_30 r_29 a0 a1 _ h_31) ⟨wkc_X0_slot, wka358, wka387, wka744⟩ kSX0_slot ⟨Nat.le_of_ble_eq_true rfl, Nat.le_of_ble_eq_true rfl⟩ rfl hl.1 rfl (Nat.le_of_ble_eq_true rfl) dX6_put_42 (fun D H locs hH => ?_)
  refine lv_iload hx hb dX6_put_45 (lv_at hl 0 rfl) ?_
  obtain ⟨y_35, u_32, h_34, hF⟩ := ncl_some hF
  have e_33 := nST_eq h_34
  refine rs_21 hC hH e_33 wka354 ⟨Nat.le_of_ble_eq_true rfl, Nat.le_of_ble_eq_true rfl⟩ hl.1 (Nat.le_of_ble_eq_true rfl) ⟨Nat.zero_le _, Nat.zero_le _⟩ dX6_put_47 (fun H locs hH => ?_)
  refine lv_aload_n hx hb dX6_put_50 rfl (lv_at hl 1 rfl) ?_
  refine cg_X6_33 hC hH dX6_put_51 ?_
  refine lv_iload_n hx hb dX6_put_54 rfl (lv_at hl 4 rfl) ?_
  refine lv_iload hx hb dX6_put_55 (lv_at hl 0 rfl) ?_
  obtain ⟨y_39, u_36, h_38, hF⟩ := ncl_some hF
  have e_37 := nST_eq h_38
  refine rs_22 hC hH e_37 wka354 ⟨Nat.le_of_ble_eq_true rfl, Nat.le_of_ble_eq_true rfl⟩ hl.1 (Nat.le_of_ble_eq_true rfl) ⟨Nat.zero_le _, Nat.zero_le _⟩ dX6_put_57 (fun H locs hH => ?_)
  refine lv_aload_n hx hb dX6_put_60 rfl (lv_at hl 1 rfl) ?_
  refine lv_aload_n hx hb dX6_put_61 rfl (lv_at hl 1 rfl) ?_
  refine cg_X6_15 hC hH dX6_put_62 ?_
  refine lv_iload_n hx hb dX6_put_65 rfl (lv_at hl 2 rfl) ?_
  refine lv_iload_n hx hb dX6_put_66 rfl (lv_at hl 3 rfl) ?_
  obtain ⟨r_40, u_41, h_42, hF⟩ := ncl_some hF
  refine ccV_i (q0 := 6) (As := [.int a0, .int a1]) (rest := [.ref (Q 9)]) hC hH (n_X0_whiteOf l G Z Q _ T u_36 u_41 r_40 a0 a1 _ h_42) rfl rfl ⟨wkc_X0_whiteOf, wka359, wka401, wka402, wka744⟩ kVX0_whiteOf ⟨Nat.le_of_ble_eq_true rfl, Nat.le_of_ble_eq_true rfl⟩ rfl hl.1 rfl (Nat.le_of_ble_eq_true rfl) dX6_put_67 (fun D H locs hH => ?_)
  refine lv_iload hx hb dX6_put_70 (lv_at hl 0 rfl) ?_
  refine lv_aload_n hx hb dX6_put_72 rfl (lv_at hl 1 rfl) ?_
  refine cg_X6_9 hC hH dX6_put_73 ?_
  refine lv_iconst (v := 1) hx hb dX6_put_76 (by decide) ?_
  refine bat (i := 1) (j := 11) hC hH rfl rfl (by decide) wka352 ⟨Nat.le_of_ble_eq_true rfl, Nat.le_of_ble_eq_true rfl⟩ hl.1 (Nat.le_of_ble_eq_true rfl) ⟨Nat.zero_le _, Nat.zero_le _⟩ dX6_put_77 ?_
  obtain ⟨x_43, u_44, h_45, hF⟩ := ncl_some hF
  obtain ⟨e_46, rfl⟩ := nGT_eq h_45
  refine gx_ti e_46 ?_
  refine lv_iadd hx hb dX6_put_80 ?_
  obtain ⟨r_47, u_48, h_49, hF⟩ := ncl_some hF
  refine ccV_v (q0 := 9) (As := [.int r_40, .int (x_5 + x_43)]) (rest := []) hC hH (n_X6_holdTill l G Z Q _ T u_41 u_48 r_47 r_40 (x_5 + x_43) _ h_49) rfl rfl ⟨wkc_X6_holdTill, wka360, wka588, wka589, wka750⟩ kVX6_holdTill ⟨Nat.le_of_ble_eq_true rfl, Nat.le_of_ble_eq_true rfl⟩ rfl hl.1 rfl (Nat.le_of_ble_eq_true rfl) dX6_put_81 (fun D H locs hH => ?_)
  refine lv_aload_n hx hb dX6_put_84 rfl (lv_at hl 1 rfl) ?_
  refine lv_aload_n hx hb dX6_put_85 rfl (lv_at hl 1 rfl) ?_
  refine cg_X6_15 hC hH dX6_put_86 ?_
  refine lv_iload_n hx hb dX6_put_89 rfl (lv_at hl 2 rfl) ?_
  refine lv_iload_n hx hb dX6_put_90 rfl (lv_at hl 3 rfl) ?_
  obtain ⟨r_50, u_51, h_52, hF⟩ := ncl_some hF
  refine ccV_i (q0 := 6) (As := [.int a0, .int a1]) (rest := [.ref (Q 9)]) hC hH (n_X0_blueOf l G Z Q _ T u_48 u_51 r_50 a0 a1 _ h_52) rfl rfl ⟨wkc_X0_blueOf, wka363, wka403, wka404, wka744⟩ kVX0_blueOf ⟨Nat.le_of_ble_eq_true rfl, Nat.le_of_ble_eq_true rfl⟩ rfl hl.1 rfl (Nat.le_of_ble_eq_true rfl) dX6_put_91 (fun D H locs hH => ?_)
  refine lv_iload hx hb dX6_put_94 (lv_at hl 0 rfl) ?_
  refine lv_aload_n hx hb dX6_put_96 rfl (lv_at hl 1 rfl) ?_
  refine cg_X6_9 hC hH dX6_put_97 ?_
  refine lv_iconst (v := 1) hx hb dX6_put_100 (by decide) ?_
  refine bat (i := 1) (j := 11) hC hH rfl rfl (by decide) wka352 ⟨Nat.le_of_ble_eq_true rfl, Nat.le_of_ble_eq_true rfl⟩ hl.1 (Nat.le_of_ble_eq_true rfl) ⟨Nat.zero_le _, Nat.zero_le _⟩ dX6_put_101 ?_
  obtain ⟨x_53, u_54, h_55, hF⟩ := ncl_some hF
  obtain ⟨e_56, rfl⟩ := nGT_eq h_55
  refine gx_ti e_56 ?_
  refine lv_iadd hx hb dX6_put_104 ?_
  obtain ⟨r_57, u_58, h_59, hF⟩ := ncl_some hF
  refine ccV_v (q0 := 9) (As := [.int r_50, .int (x_5 + x_53)]) (rest := []) hC hH (n_X6_holdTill l G Z Q _ T u_51 u_58 r_57 r_50 (x_5 + x_53) _ h_59) rfl rfl ⟨wkc_X6_holdTill, wka360, wka588, wka589, wka750⟩ kVX6_holdTill ⟨Nat.le_of_ble_eq_true rfl, Nat.le_of_ble_eq_true rfl⟩ rfl hl.1 rfl (Nat.le_of_ble_eq_true rfl) dX6_put_105 (fun D H locs hH => ?_)
  refine lv_aload_n hx hb dX6_put_108 rfl (lv_at hl 1 rfl) ?_
  refine lv_aload_n hx hb dX6_put_109 rfl (lv_at hl 1 rfl) ?_
  refine cg_X6_102 hC hH dX6_put_110 ?_
  obtain ⟨x_60, u_61, h_62, hF⟩ := ncl_some hF
  obtain ⟨e_63, rfl⟩ := nRF_eq h_62
  refine gx_ti e_63 ?_
  refine lv_iload hx hb dX6_put_113 (lv_at hl 0 rfl) ?_
  refine va_mmax hx hb (hC.2.2.1.trans hl.1.symm) hC.2.2.2.1 (hC.2.2.2.2.1 _ wka362) (hC.2.2.2.2.1 _ wka756) (hC.2.2.2.2.1 _ wka760) (hC.2.2.2.2.1 _ wka757) (Nat.le_of_ble_eq_true rfl) (Nat.le_of_ble_eq_true rfl) (Nat.le_of_ble_eq_true rfl) (Nat.le_of_ble_eq_true rfl) dX6_put_115 ?_
  obtain ⟨y_67, u_64, h_66, hF⟩ := ncl_some hF
  have e_65 := nWF_eq h_66
  refine cp_X6_102 hC hH e_65 dX6_put_118 (fun H locs hH => ?_)
  exact cr_v hC hH hr (nrt_eq hF) dX6_put_121 hlocks
def xl_X6_putOpenOnes_2 : Nat → Int32 → (Int32 → NG Int32) → NG Int32
  | 0, _, _ => fun _ => none
  | n2 + 1, v1, K2_57 => (if 4 ≤ v1 then K2_57 v1 else ncl (x_X1_ofMat v1 1) (fun r_2 => ncl (nGT 0 2088 r_2) (fun x_5 => (if x_5 = (-1) then nli (v1 + 1) (fun x_10 => xl_X6_putOpenOnes_2 n2 x_10 K2_57) else ncl (x_X1_ofMat v1 0) (fun r_12 => ncl (nGT 0 2088 r_12) (fun x_15 => ncl (nGT 0 2088 0) (fun x_19 => ncl (x_X6_put x_15 x_5 v1 x_19) (fun r_23 => nli (v1 + 1) (fun x_26 => xl_X6_putOpenOnes_2 n2 x_26 K2_57)))))))))
def x_X6_putOpenOnes : NG Int32 := xl_X6_putOpenOnes_2 fuel 0 (fun v1 => nrt 0)
set_option maxHeartbeats 4000000 in
set_option maxRecDepth 100000 in
theorem n_X6_putOpenOnes (l : Launch) (G : gG) (Z : gC) (Q : Nat → Nat) (D : Nat × Nat) (T : va_W) (u u1 : MS) (r : Int32) (sz : Nat) (hF : x_X6_putOpenOnes u = some (r, u1)) : Met l yX6_putOpenOnes (Cond.code yX6_putOpenOnes cX6_putOpenOnes 3 none :: wK) { frames := 3, cells := 0, slots := 0, locals := 69 } (va_Pc [.ref (Q 9)] (cPM G Z Q D T u sz)) (cQv G Q T u1 (va_A (cW G Q D T u) sz)) 0 0 (va_A (cW G Q D T u) sz) := by
  refine Met.ofW (cc := cX6_putOpenOnes) (maxL := 3) (ret := none) (by decide) rfl ?_
  intro p e s m args below meth c s₁ B hml hv
  obtain ⟨rfl, rfl, hP, hB, hD0, hE⟩ := hv
  have hr := B.returns
  have hlocks := B.notSynchronized
  have hts := atoms_spec (ws := Cond.code yX6_putOpenOnes cX6_putOpenOnes 3 none :: wK) B.pre
  have hD := hD0.self (sz := s.heap.size)
  have hA : ∀ q : Nat, s.heap.size ≤ q → va_A (cW G Q D T u) s.heap.size q := fun q h => Or.inr h
  generalize va_A (cW G Q D T u) s.heap.size = A at hD hA hE ⊢
  have hC : cX p c cX6_putOpenOnes 3 s m _ RX6 G Z A := ⟨B.exec, B.bytes, hml, findClass_of_methodNamed B.named, fun w h => hts w (List.mem_cons_of_mem _ h), hB, hE, hA⟩
  have hx := hC.1
  have hb := hC.2.1
  have hH : cH G Q D T A u s s.heap [] := ⟨hP, hD, va_S.rf⟩
  have hl := lv_entry ([.ref (Q 9)]) (n := 3) (Nat.le_of_ble_eq_true rfl)
  rw [lg_entry_eq]
  generalize (lg_sl ([.ref (Q 9)]) ++ List.replicate (3 - (lg_sl ([.ref (Q 9)])).length) Slot.unset).toArray = ls at hl ⊢
  have hl : lv_has ls 3 [(0, .ref (Q 9))] := hl
  unfold x_X6_putOpenOnes at hF
  refine lv_iconst (v := 0) hx hb dX6_putOpenOnes_0 (by decide) ?_
  refine lv_istore_n (lv' := [(1, .int 0), (0, .ref (Q 9))]) hx hb dX6_putOpenOnes_1 rfl hl (by decide) rfl (fun ls hl => ?_)
  have hL2 : ∀ (K2_57 : Int32 → NG Int32), (∀ (v1 : Int32) (u : MS) (D : Nat × Nat) (H : Heap) (locs : List Loc) (ls : Array Slot), lv_has ls 3 [(0, .ref (Q 9)), (1, .int v1)] → cH G Q D T A u s H locs → K2_57 v1 u = some (r, u1) → W p l e (headSpec (Cond.code yX6_putOpenOnes cX6_putOpenOnes 3 none :: wK) { frames := 3, cells := 0, slots := 0, locals := 69 }).room s m [.ref (Q 9)].toArray below meth c H locs 0 0 (MQ below (cQv G Q T u1 A) [.ref (Q 9)].toArray s 0 0 A) (F0 m 57 ls [])) → ∀ (n2 : Nat) (v1 : Int32) (u : MS) (D : Nat × Nat) (H : Heap) (locs : List Loc) (ls : Array Slot), lv_has ls 3 [(0, .ref (Q 9)), (1, .int v1)] → cH G Q D T A u s H locs → xl_X6_putOpenOnes_2 n2 v1 K2_57 u = some (r, u1) → W p l e (headSpec (Cond.code yX6_putOpenOnes cX6_putOpenOnes 3 none :: wK) { frames := 3, cells := 0, slots := 0, locals := 69 }).room s m [.ref (Q 9)].toArray below meth c H locs 0 0 (MQ below (cQv G Q T u1 A) [.ref (Q 9)].toArray s 0 0 A) (F0 m 2 ls []) := by
    intro K2_57 hK2_57 n2
    induction n2 with
    | zero => intro v1 u D H locs ls hl hH hF; cases hF
    | succ n2 ih2 =>
      intro v1 u D H locs ls hl hH hF
      unfold xl_X6_putOpenOnes_2 at hF
      refine lv_iload_n hx hb dX6_putOpenOnes_2 rfl (lv_at hl 1 rfl) ?_
      refine lv_iconst (v := 4) hx hb dX6_putOpenOnes_3 (by decide) ?_
      refine lv_icmp_ge (tgt := 57) hx hb dX6_putOpenOnes_4 (by decide) (fun c_1 => ?_) (fun c_1 => ?_)
      · rw [if_pos c_1] at hF
        exact hK2_57 v1 u _ _ _ _ (lv_sub hl [0, 1] rfl) hH hF
      · rw [if_neg c_1] at hF
        refine lv_aload_n hx hb dX6_putOpenOnes_7 rfl (lv_at hl 0 rfl) ?_
        refine cg_X6_9 hC hH dX6_putOpenOnes_8 ?_
        refine lv_iload_n hx hb dX6_putOpenOnes_11 rfl (lv_at hl 1 rfl) ?_
        refine lv_iconst (v := 1) hx hb dX6_putOpenOnes_12 (by decide) ?_
        obtain ⟨r_2, u_3, h_4, hF⟩ := ncl_some hF
        refine ccS_i (As := [.int v1, .int 1]) (rest := [.ref (Q 1)]) hC hH (n_X1_ofMat l G Z Q _ T u u_3 r_2 v1 1 _ h_4) ⟨wkc_X1_ofMat, wka356, wka438, wka745⟩ kSX1_ofMat ⟨Nat.le_of_ble_eq_true rfl, Nat.le_of_ble_eq_true rfl⟩ rfl hl.1 rfl (Nat.le_of_ble_eq_true rfl) dX6_putOpenOnes_13 (fun D H locs hH => ?_)
        refine bat (i := 1) (j := 11) hC hH rfl rfl (by decide) wka352 ⟨Nat.le_of_ble_eq_true rfl, Nat.le_of_ble_eq_true rfl⟩ hl.1 (Nat.le_of_ble_eq_true rfl) ⟨Nat.zero_le _, Nat.zero_le _⟩ dX6_putOpenOnes_16 ?_
        obtain ⟨x_5, u_6, h_7, hF⟩ := ncl_some hF
        obtain ⟨e_8, rfl⟩ := nGT_eq h_7
        refine gx_ti e_8 ?_
        refine lv_istore_n (lv' := [(2, .int x_5), (0, .ref (Q 9)), (1, .int v1)]) hx hb dX6_putOpenOnes_19 rfl hl (by decide) rfl (fun ls hl => ?_)
        refine lv_iload_n hx hb dX6_putOpenOnes_20 rfl (lv_at hl 0 rfl) ?_
        refine lv_iconst (v := (-1)) hx hb dX6_putOpenOnes_21 (by decide) ?_
        refine lv_icmp_eq (tgt := 51) hx hb dX6_putOpenOnes_22 (by decide) (fun c_9 => ?_) (fun c_9 => ?_)
        · rw [if_pos c_9] at hF
          obtain ⟨x_10, e_11, hF⟩ := nli_some hF
          refine lv_iinc (v := x_10) (lv' := [(1, .int x_10), (2, .int x_5), (0, .ref (Q 9))]) hx hb dX6_putOpenOnes_51 hl (k := 2) rfl e_11 (by decide) rfl (fun ls hl => ?_)
          refine lv_goto (tgt := 2) hx hb dX6_putOpenOnes_54 (by decide) ?_
          exact ih2 x_10 u_3 _ _ _ _ (lv_sub hl [2, 0] rfl) hH hF
        · rw [if_neg c_9] at hF
          refine lv_aload_n hx hb dX6_putOpenOnes_25 rfl (lv_at hl 1 rfl) ?_
          refine lv_aload_n hx hb dX6_putOpenOnes_26 rfl (lv_at hl 1 rfl) ?_
          refine cg_X6_9 hC hH dX6_putOpenOnes_27 ?_
          refine lv_iload_n hx hb dX6_putOpenOnes_30 rfl (lv_at hl 2 rfl) ?_
          refine lv_iconst (v := 0) hx hb dX6_putOpenOnes_31 (by decide) ?_
          obtain ⟨r_12, u_13, h_14, hF⟩ := ncl_some hF
          refine ccS_i (As := [.int v1, .int 0]) (rest := [.ref (Q 1), .ref (Q 9)]) hC hH (n_X1_ofMat l G Z Q _ T u_3 u_13 r_12 v1 0 _ h_14) ⟨wkc_X1_ofMat, wka356, wka438, wka745⟩ kSX1_ofMat ⟨Nat.le_of_ble_eq_true rfl, Nat.le_of_ble_eq_true rfl⟩ rfl hl.1 rfl (Nat.le_of_ble_eq_true rfl) dX6_putOpenOnes_32 (fun D H locs hH => ?_)
          refine bat (i := 1) (j := 11) hC hH rfl rfl (by decide) wka352 ⟨Nat.le_of_ble_eq_true rfl, Nat.le_of_ble_eq_true rfl⟩ hl.1 (Nat.le_of_ble_eq_true rfl) ⟨Nat.zero_le _, Nat.zero_le _⟩ dX6_putOpenOnes_35 ?_
          obtain ⟨x_15, u_16, h_17, hF⟩ := ncl_some hF
          obtain ⟨e_18, rfl⟩ := nGT_eq h_17
          refine gx_ti e_18 ?_
          refine lv_iload_n hx hb dX6_putOpenOnes_38 rfl (lv_at hl 0 rfl) ?_
          refine lv_iload_n hx hb dX6_putOpenOnes_39 rfl (lv_at hl 2 rfl) ?_
          refine lv_aload_n hx hb dX6_putOpenOnes_40 rfl (lv_at hl 1 rfl) ?_
          refine cg_X6_9 hC hH dX6_putOpenOnes_41 ?_
          refine lv_iconst (v := 0) hx hb dX6_putOpenOnes_44 (by decide) ?_
          refine bat (i := 1) (j := 11) hC hH rfl rfl (by decide) wka352 ⟨Nat.le_of_ble_eq_true rfl, Nat.le_of_ble_eq_true rfl⟩ hl.1 (Nat.le_of_ble_eq_true rfl) ⟨Nat.zero_le _, Nat.zero_le _⟩ dX6_putOpenOnes_45 ?_
          obtain ⟨x_19, u_20, h_21, hF⟩ := ncl_some hF
          obtain ⟨e_22, rfl⟩ := nGT_eq h_21
          refine gx_ti e_22 ?_
          obtain ⟨r_23, u_24, h_25, hF⟩ := ncl_some hF
          refine ccV_v (q0 := 9) (As := [.int x_15, .int x_5, .int v1, .int x_19]) (rest := []) hC hH (n_X6_put l G Z Q _ T u_13 u_24 r_23 x_15 x_5 v1 x_19 _ h_25) rfl rfl ⟨wkc_X6_put, wka357, wka586, wka587, wka750⟩ kVX6_put ⟨Nat.le_of_ble_eq_true rfl, Nat.le_of_ble_eq_true rfl⟩ rfl hl.1 rfl (Nat.le_of_ble_eq_true rfl) dX6_putOpenOnes_48 (fun D H locs hH => ?_)
          obtain ⟨x_26, e_27, hF⟩ := nli_some hF
          refine lv_iinc (v := x_26) (lv' := [(1, .int x_26), (2, .int x_5), (0, .ref (Q 9))]) hx hb dX6_putOpenOnes_51 hl (k := 2) rfl e_27 (by decide) rfl (fun ls hl => ?_)
          refine lv_goto (tgt := 2) hx hb dX6_putOpenOnes_54 (by decide) ?_
          exact ih2 x_26 u_24 _ _ _ _ (lv_sub hl [2, 0] rfl) hH hF
  refine hL2 _ (fun v1 u D H locs ls hl hH hF => ?_) fuel 0 u _ _ _ _ (lv_sub hl [1, 0] rfl) hH hF
  exact cr_v hC hH hr (nrt_eq hF) dX6_putOpenOnes_57 hlocks
def xl_X6_putStageInOrder_2 : Nat → Int32 → Int32 → Int32 → (Int32 → Int32 → Int32 → NG Int32) → NG Int32
  | 0, _, _, _, _ => fun _ => none
  | n2 + 1, v1, v2, v3, K2_96 => ncl (x_X0_fightsOf v2) (fun r_1 => (if r_1 ≤ v3 then K2_96 v1 v2 v3 else ncl (x_X0_stateOf v2 v3) (fun r_5 => (if r_5 = 0 then (if (1 : Int32) = 0 then nli (v3 + 1) (fun x_10 => xl_X6_putStageInOrder_2 n2 v1 v2 x_10 K2_96) else ncl (x_X0_stageOf v2 v3) (fun r_12 => (if r_12 = v1 then ncl (nRF 17) (fun x_18 => ncl (x_X0_slot v2 v3) (fun r_22 => ncl (nST 21 148 x_18 r_22) (fun _ => ncl (nRF 17) (fun x_29 => ncl (nWF 17 (x_29 + 1)) (fun _ => nli (v3 + 1) (fun x_37 => xl_X6_putStageInOrder_2 n2 v1 v2 x_37 K2_96)))))) else nli (v3 + 1) (fun x_16 => xl_X6_putStageInOrder_2 n2 v1 v2 x_16 K2_96)))) else ncl (x_X0_stateOf v2 v3) (fun r_39 => (if r_39 = 1 then (if (1 : Int32) = 0 then nli (v3 + 1) (fun x_74 => xl_X6_putStageInOrder_2 n2 v1 v2 x_74 K2_96) else ncl (x_X0_stageOf v2 v3) (fun r_76 => (if r_76 = v1 then ncl (nRF 17) (fun x_82 => ncl (x_X0_slot v2 v3) (fun r_86 => ncl (nST 21 148 x_82 r_86) (fun _ => ncl (nRF 17) (fun x_93 => ncl (nWF 17 (x_93 + 1)) (fun _ => nli (v3 + 1) (fun x_101 => xl_X6_putStageInOrder_2 n2 v1 v2 x_101 K2_96)))))) else nli (v3 + 1) (fun x_80 => xl_X6_putStageInOrder_2 n2 v1 v2 x_80 K2_96)))) else (if (0 : Int32) = 0 then nli (v3 + 1) (fun x_44 => xl_X6_putStageInOrder_2 n2 v1 v2 x_44 K2_96) else ncl (x_X0_stageOf v2 v3) (fun r_46 => (if r_46 = v1 then ncl (nRF 17) (fun x_52 => ncl (x_X0_slot v2 v3) (fun r_56 => ncl (nST 21 148 x_52 r_56) (fun _ => ncl (nRF 17) (fun x_63 => ncl (nWF 17 (x_63 + 1)) (fun _ => nli (v3 + 1) (fun x_71 => xl_X6_putStageInOrder_2 n2 v1 v2 x_71 K2_96)))))) else nli (v3 + 1) (fun x_50 => xl_X6_putStageInOrder_2 n2 v1 v2 x_50 K2_96))))))))))
def x_X6_putStageInOrder (a0 : Int32) (a1 : Int32) : NG Int32 := xl_X6_putStageInOrder_2 fuel a0 a1 0 (fun v1 v2 v3 => nrt 0)
set_option maxHeartbeats 4000000 in
set_option maxRecDepth 100000 in
theorem n_X6_putStageInOrder (l : Launch) (G : gG) (Z : gC) (Q : Nat → Nat) (D : Nat × Nat) (T : va_W) (u u1 : MS) (r : Int32) (a0 : Int32) (a1 : Int32) (sz : Nat) (hF : x_X6_putStageInOrder a0 a1 u = some (r, u1)) : Met l yX6_putStageInOrder (Cond.code yX6_putStageInOrder cX6_putStageInOrder 5 none :: wK) { frames := 3, cells := 0, slots := 0, locals := 68 } (va_Pc [.ref (Q 9), .int a0, .int a1] (cPM G Z Q D T u sz)) (cQv G Q T u1 (va_A (cW G Q D T u) sz)) 0 0 (va_A (cW G Q D T u) sz) := by
  refine Met.ofW (cc := cX6_putStageInOrder) (maxL := 5) (ret := none) (by decide) rfl ?_
  intro p e s m args below meth c s₁ B hml hv
  obtain ⟨rfl, rfl, hP, hB, hD0, hE⟩ := hv
  have hr := B.returns
  have hlocks := B.notSynchronized
  have hts := atoms_spec (ws := Cond.code yX6_putStageInOrder cX6_putStageInOrder 5 none :: wK) B.pre
  have hD := hD0.self (sz := s.heap.size)
  have hA : ∀ q : Nat, s.heap.size ≤ q → va_A (cW G Q D T u) s.heap.size q := fun q h => Or.inr h
  generalize va_A (cW G Q D T u) s.heap.size = A at hD hA hE ⊢
  have hC : cX p c cX6_putStageInOrder 5 s m _ RX6 G Z A := ⟨B.exec, B.bytes, hml, findClass_of_methodNamed B.named, fun w h => hts w (List.mem_cons_of_mem _ h), hB, hE, hA⟩
  have hx := hC.1
  have hb := hC.2.1
  have hH : cH G Q D T A u s s.heap [] := ⟨hP, hD, va_S.rf⟩
  have hl := lv_entry ([.ref (Q 9), .int a0, .int a1]) (n := 5) (Nat.le_of_ble_eq_true rfl)
  rw [lg_entry_eq]
  generalize (lg_sl ([.ref (Q 9), .int a0, .int a1]) ++ List.replicate (5 - (lg_sl ([.ref (Q 9), .int a0, .int a1])).length) Slot.unset).toArray = ls at hl ⊢
  have hl : lv_has ls 5 [(0, .ref (Q 9)), (1, .int a0), (2, .int a1)] := hl
  unfold x_X6_putStageInOrder at hF
  refine lv_iconst (v := 0) hx hb dX6_putStageInOrder_0 (by decide) ?_
  refine lv_istore_n (lv' := [(3, .int 0), (0, .ref (Q 9)), (1, .int a0), (2, .int a1)]) hx hb dX6_putStageInOrder_1 rfl hl (by decide) rfl (fun ls hl => ?_)
  have hL2 : ∀ (K2_96 : Int32 → Int32 → Int32 → NG Int32), (∀ (v1 v2 v3 : Int32) (u : MS) (D : Nat × Nat) (H : Heap) (locs : List Loc) (ls : Array Slot), lv_has ls 5 [(0, .ref (Q 9)), (1, .int v1), (2, .int v2), (3, .int v3)] → cH G Q D T A u s H locs → K2_96 v1 v2 v3 u = some (r, u1) → W p l e (headSpec (Cond.code yX6_putStageInOrder cX6_putStageInOrder 5 none :: wK) { frames := 3, cells := 0, slots := 0, locals := 68 }).room s m [.ref (Q 9), .int a0, .int a1].toArray below meth c H locs 0 0 (MQ below (cQv G Q T u1 A) [.ref (Q 9), .int a0, .int a1].toArray s 0 0 A) (F0 m 96 ls [])) → ∀ (n2 : Nat) (v1 v2 v3 : Int32) (u : MS) (D : Nat × Nat) (H : Heap) (locs : List Loc) (ls : Array Slot), lv_has ls 5 [(0, .ref (Q 9)), (1, .int v1), (2, .int v2), (3, .int v3)] → cH G Q D T A u s H locs → xl_X6_putStageInOrder_2 n2 v1 v2 v3 K2_96 u = some (r, u1) → W p l e (headSpec (Cond.code yX6_putStageInOrder cX6_putStageInOrder 5 none :: wK) { frames := 3, cells := 0, slots := 0, locals := 68 }).room s m [.ref (Q 9), .int a0, .int a1].toArray below meth c H locs 0 0 (MQ below (cQv G Q T u1 A) [.ref (Q 9), .int a0, .int a1].toArray s 0 0 A) (F0 m 2 ls []) := by
    intro K2_96 hK2_96 n2
    induction n2 with
    | zero => intro v1 v2 v3 u D H locs ls hl hH hF; cases hF
    | succ n2 ih2 =>
      intro v1 v2 v3 u D H locs ls hl hH hF
      unfold xl_X6_putStageInOrder_2 at hF
      refine lv_iload_n hx hb dX6_putStageInOrder_2 rfl (lv_at hl 3 rfl) ?_
      refine lv_aload_n hx hb dX6_putStageInOrder_3 rfl (lv_at hl 0 rfl) ?_
      refine cg_X6_15 hC hH dX6_putStageInOrder_4 ?_
      refine lv_iload_n hx hb dX6_putStageInOrder_7 rfl (lv_at hl 2 rfl) ?_
      obtain ⟨r_1, u_2, h_3, hF⟩ := ncl_some hF
      refine ccV_i (q0 := 6) (As := [.int v2]) (rest := [.int v3]) hC hH (n_X0_fightsOf l G Z Q _ T u u_2 r_1 v2 _ h_3) rfl rfl ⟨wkc_X0_fightsOf, wka366, wka396, wka397, wka744⟩ kVX0_fightsOf ⟨Nat.le_of_ble_eq_true rfl, Nat.le_of_ble_eq_true rfl⟩ rfl hl.1 rfl (Nat.le_of_ble_eq_true rfl) dX6_putStageInOrder_8 (fun D H locs hH => ?_)
      refine lv_icmp_ge (tgt := 96) hx hb dX6_putStageInOrder_11 (by decide) (fun c_4 => ?_) (fun c_4 => ?_)
      · rw [if_pos c_4] at hF
        exact hK2_96 v1 v2 v3 u_2 _ _ _ _ (lv_sub hl [0, 1, 2, 3] rfl) hH hF
      · rw [if_neg c_4] at hF
        refine lv_aload_n hx hb dX6_putStageInOrder_14 rfl (lv_at hl 0 rfl) ?_
        refine cg_X6_15 hC hH dX6_putStageInOrder_15 ?_
        refine lv_iload_n hx hb dX6_putStageInOrder_18 rfl (lv_at hl 2 rfl) ?_
        refine lv_iload_n hx hb dX6_putStageInOrder_19 rfl (lv_at hl 3 rfl) ?_
        obtain ⟨r_5, u_6, h_7, hF⟩ := ncl_some hF
        refine ccV_i (q0 := 6) (As := [.int v2, .int v3]) (rest := []) hC hH (n_X0_stateOf l G Z Q _ T u_2 u_6 r_5 v2 v3 _ h_7) rfl rfl ⟨wkc_X0_stateOf, wka367, wka407, wka408, wka744⟩ kVX0_stateOf ⟨Nat.le_of_ble_eq_true rfl, Nat.le_of_ble_eq_true rfl⟩ rfl hl.1 rfl (Nat.le_of_ble_eq_true rfl) dX6_putStageInOrder_20 (fun D H locs hH => ?_)
        refine lv_if_eq (tgt := 39) hx hb dX6_putStageInOrder_23 (by decide) (fun c_8 => ?_) (fun c_8 => ?_)
        · rw [if_pos c_8] at hF
          refine lv_iconst (v := 1) hx hb dX6_putStageInOrder_39 (by decide) ?_
          refine lv_goto (tgt := 44) hx hb dX6_putStageInOrder_40 (by decide) ?_
          refine lv_istore (lv' := [(4, .int 1), (0, .ref (Q 9)), (1, .int v1), (2, .int v2), (3, .int v3)]) hx hb dX6_putStageInOrder_44 hl (by decide) rfl (fun ls hl => ?_)
          refine lv_iload hx hb dX6_putStageInOrder_46 (lv_at hl 0 rfl) ?_
          refine lv_if_eq (tgt := 90) hx hb dX6_putStageInOrder_48 (by decide) (fun c_9 => ?_) (fun c_9 => ?_)
          · rw [if_pos c_9] at hF
            obtain ⟨x_10, e_11, hF⟩ := nli_some hF
            refine lv_iinc (v := x_10) (lv' := [(3, .int x_10), (4, .int 1), (0, .ref (Q 9)), (1, .int v1), (2, .int v2)]) hx hb dX6_putStageInOrder_90 hl (k := 4) rfl e_11 (by decide) rfl (fun ls hl => ?_)
            refine lv_goto (tgt := 2) hx hb dX6_putStageInOrder_93 (by decide) ?_
            exact ih2 v1 v2 x_10 u_6 _ _ _ _ (lv_sub hl [2, 3, 4, 0] rfl) hH hF
          · rw [if_neg c_9] at hF
            refine lv_aload_n hx hb dX6_putStageInOrder_51 rfl (lv_at hl 1 rfl) ?_
            refine cg_X6_15 hC hH dX6_putStageInOrder_52 ?_
            refine lv_iload_n hx hb dX6_putStageInOrder_55 rfl (lv_at hl 3 rfl) ?_
            refine lv_iload_n hx hb dX6_putStageInOrder_56 rfl (lv_at hl 4 rfl) ?_
            obtain ⟨r_12, u_13, h_14, hF⟩ := ncl_some hF
            refine ccV_i (q0 := 6) (As := [.int v2, .int v3]) (rest := []) hC hH (n_X0_stageOf l G Z Q _ T u_6 u_13 r_12 v2 v3 _ h_14) rfl rfl ⟨wkc_X0_stageOf, wka368, wka430, wka431, wka744⟩ kVX0_stageOf ⟨Nat.le_of_ble_eq_true rfl, Nat.le_of_ble_eq_true rfl⟩ rfl hl.1 rfl (Nat.le_of_ble_eq_true rfl) dX6_putStageInOrder_57 (fun D H locs hH => ?_)
            refine lv_iload_n hx hb dX6_putStageInOrder_60 rfl (lv_at hl 2 rfl) ?_
            refine lv_icmp_ne (tgt := 90) hx hb dX6_putStageInOrder_61 (by decide) (fun c_15 => ?_) (fun c_15 => ?_)
            · rw [if_neg c_15] at hF
              obtain ⟨x_16, e_17, hF⟩ := nli_some hF
              refine lv_iinc (v := x_16) (lv' := [(3, .int x_16), (4, .int 1), (0, .ref (Q 9)), (1, .int v1), (2, .int v2)]) hx hb dX6_putStageInOrder_90 hl (k := 4) rfl e_17 (by decide) rfl (fun ls hl => ?_)
              refine lv_goto (tgt := 2) hx hb dX6_putStageInOrder_93 (by decide) ?_
              exact ih2 v1 v2 x_16 u_13 _ _ _ _ (lv_sub hl [2, 3, 4, 0] rfl) hH hF
            · rw [if_pos c_15] at hF
              refine lv_aload_n hx hb dX6_putStageInOrder_64 rfl (lv_at hl 1 rfl) ?_
              refine cg_X6_26 hC hH dX6_putStageInOrder_65 ?_
              refine lv_aload_n hx hb dX6_putStageInOrder_68 rfl (lv_at hl 1 rfl) ?_
              refine cg_X6_84 hC hH dX6_putStageInOrder_69 ?_
              obtain ⟨x_18, u_19, h_20, hF⟩ := ncl_some hF
              obtain ⟨e_21, rfl⟩ := nRF_eq h_20
              refine gx_ti e_21 ?_
              refine lv_iload_n hx hb dX6_putStageInOrder_72 rfl (lv_at hl 3 rfl) ?_
              refine lv_iload_n hx hb dX6_putStageInOrder_73 rfl (lv_at hl 4 rfl) ?_
              obtain ⟨r_22, u_23, h_24, hF⟩ := ncl_some hF
              refine ccS_i (As := [.int v2, .int v3]) (rest := [.int x_18, .ref (Q 60)]) hC hH (n_X0_slot l G Z Q _ T u_13 u_23 r_22 v2 v3 _ h_24) ⟨wkc_X0_slot, wka358, wka387, wka744⟩ kSX0_slot ⟨Nat.le_of_ble_eq_true rfl, Nat.le_of_ble_eq_true rfl⟩ rfl hl.1 rfl (Nat.le_of_ble_eq_true rfl) dX6_putStageInOrder_74 (fun D H locs hH => ?_)
              obtain ⟨y_28, u_25, h_27, hF⟩ := ncl_some hF
              have e_26 := nST_eq h_27
              refine rs_20 hC hH e_26 wka354 ⟨Nat.le_of_ble_eq_true rfl, Nat.le_of_ble_eq_true rfl⟩ hl.1 (Nat.le_of_ble_eq_true rfl) ⟨Nat.zero_le _, Nat.zero_le _⟩ dX6_putStageInOrder_77 (fun H locs hH => ?_)
              refine lv_aload_n hx hb dX6_putStageInOrder_80 rfl (lv_at hl 1 rfl) ?_
              refine lv_dup hx hb dX6_putStageInOrder_81 rfl ?_
              refine cg_X6_84 hC hH dX6_putStageInOrder_82 ?_
              obtain ⟨x_29, u_30, h_31, hF⟩ := ncl_some hF
              obtain ⟨e_32, rfl⟩ := nRF_eq h_31
              refine gx_ti e_32 ?_
              refine lv_iconst (v := 1) hx hb dX6_putStageInOrder_85 (by decide) ?_
              refine lv_iadd hx hb dX6_putStageInOrder_86 ?_
              obtain ⟨y_36, u_33, h_35, hF⟩ := ncl_some hF
              have e_34 := nWF_eq h_35
              refine cp_X6_84 hC hH e_34 dX6_putStageInOrder_87 (fun H locs hH => ?_)
              obtain ⟨x_37, e_38, hF⟩ := nli_some hF
              refine lv_iinc (v := x_37) (lv' := [(3, .int x_37), (4, .int 1), (0, .ref (Q 9)), (1, .int v1), (2, .int v2)]) hx hb dX6_putStageInOrder_90 hl (k := 4) rfl e_38 (by decide) rfl (fun ls hl => ?_)
              refine lv_goto (tgt := 2) hx hb dX6_putStageInOrder_93 (by decide) ?_
              exact ih2 v1 v2 x_37 u_33 _ _ _ _ (lv_sub hl [2, 3, 4, 0] rfl) hH hF
        · rw [if_neg c_8] at hF
          refine lv_aload_n hx hb dX6_putStageInOrder_26 rfl (lv_at hl 0 rfl) ?_
          refine cg_X6_15 hC hH dX6_putStageInOrder_27 ?_
          refine lv_iload_n hx hb dX6_putStageInOrder_30 rfl (lv_at hl 2 rfl) ?_
          refine lv_iload_n hx hb dX6_putStageInOrder_31 rfl (lv_at hl 3 rfl) ?_
          obtain ⟨r_39, u_40, h_41, hF⟩ := ncl_some hF
          refine ccV_i (q0 := 6) (As := [.int v2, .int v3]) (rest := []) hC hH (n_X0_stateOf l G Z Q _ T u_6 u_40 r_39 v2 v3 _ h_41) rfl rfl ⟨wkc_X0_stateOf, wka367, wka407, wka408, wka744⟩ kVX0_stateOf ⟨Nat.le_of_ble_eq_true rfl, Nat.le_of_ble_eq_true rfl⟩ rfl hl.1 rfl (Nat.le_of_ble_eq_true rfl) dX6_putStageInOrder_32 (fun D H locs hH => ?_)
          refine lv_iconst (v := 1) hx hb dX6_putStageInOrder_35 (by decide) ?_
          refine lv_icmp_ne (tgt := 43) hx hb dX6_putStageInOrder_36 (by decide) (fun c_42 => ?_) (fun c_42 => ?_)
          · rw [if_neg c_42] at hF
            refine lv_iconst (v := 0) hx hb dX6_putStageInOrder_43 (by decide) ?_
            refine lv_istore (lv' := [(4, .int 0), (0, .ref (Q 9)), (1, .int v1), (2, .int v2), (3, .int v3)]) hx hb dX6_putStageInOrder_44 hl (by decide) rfl (fun ls hl => ?_)
            refine lv_iload hx hb dX6_putStageInOrder_46 (lv_at hl 0 rfl) ?_
            refine lv_if_eq (tgt := 90) hx hb dX6_putStageInOrder_48 (by decide) (fun c_43 => ?_) (fun c_43 => ?_)
            · rw [if_pos c_43] at hF
              obtain ⟨x_44, e_45, hF⟩ := nli_some hF
              refine lv_iinc (v := x_44) (lv' := [(3, .int x_44), (4, .int 0), (0, .ref (Q 9)), (1, .int v1), (2, .int v2)]) hx hb dX6_putStageInOrder_90 hl (k := 4) rfl e_45 (by decide) rfl (fun ls hl => ?_)
              refine lv_goto (tgt := 2) hx hb dX6_putStageInOrder_93 (by decide) ?_
              exact ih2 v1 v2 x_44 u_40 _ _ _ _ (lv_sub hl [2, 3, 4, 0] rfl) hH hF
            · rw [if_neg c_43] at hF
              refine lv_aload_n hx hb dX6_putStageInOrder_51 rfl (lv_at hl 1 rfl) ?_
              refine cg_X6_15 hC hH dX6_putStageInOrder_52 ?_
              refine lv_iload_n hx hb dX6_putStageInOrder_55 rfl (lv_at hl 3 rfl) ?_
              refine lv_iload_n hx hb dX6_putStageInOrder_56 rfl (lv_at hl 4 rfl) ?_
              obtain ⟨r_46, u_47, h_48, hF⟩ := ncl_some hF
              refine ccV_i (q0 := 6) (As := [.int v2, .int v3]) (rest := []) hC hH (n_X0_stageOf l G Z Q _ T u_40 u_47 r_46 v2 v3 _ h_48) rfl rfl ⟨wkc_X0_stageOf, wka368, wka430, wka431, wka744⟩ kVX0_stageOf ⟨Nat.le_of_ble_eq_true rfl, Nat.le_of_ble_eq_true rfl⟩ rfl hl.1 rfl (Nat.le_of_ble_eq_true rfl) dX6_putStageInOrder_57 (fun D H locs hH => ?_)
              refine lv_iload_n hx hb dX6_putStageInOrder_60 rfl (lv_at hl 2 rfl) ?_
              refine lv_icmp_ne (tgt := 90) hx hb dX6_putStageInOrder_61 (by decide) (fun c_49 => ?_) (fun c_49 => ?_)
              · rw [if_neg c_49] at hF
                obtain ⟨x_50, e_51, hF⟩ := nli_some hF
                refine lv_iinc (v := x_50) (lv' := [(3, .int x_50), (4, .int 0), (0, .ref (Q 9)), (1, .int v1), (2, .int v2)]) hx hb dX6_putStageInOrder_90 hl (k := 4) rfl e_51 (by decide) rfl (fun ls hl => ?_)
                refine lv_goto (tgt := 2) hx hb dX6_putStageInOrder_93 (by decide) ?_
                exact ih2 v1 v2 x_50 u_47 _ _ _ _ (lv_sub hl [2, 3, 4, 0] rfl) hH hF
              · rw [if_pos c_49] at hF
                refine lv_aload_n hx hb dX6_putStageInOrder_64 rfl (lv_at hl 1 rfl) ?_
                refine cg_X6_26 hC hH dX6_putStageInOrder_65 ?_
                refine lv_aload_n hx hb dX6_putStageInOrder_68 rfl (lv_at hl 1 rfl) ?_
                refine cg_X6_84 hC hH dX6_putStageInOrder_69 ?_
                obtain ⟨x_52, u_53, h_54, hF⟩ := ncl_some hF
                obtain ⟨e_55, rfl⟩ := nRF_eq h_54
                refine gx_ti e_55 ?_
                refine lv_iload_n hx hb dX6_putStageInOrder_72 rfl (lv_at hl 3 rfl) ?_
                refine lv_iload_n hx hb dX6_putStageInOrder_73 rfl (lv_at hl 4 rfl) ?_
                obtain ⟨r_56, u_57, h_58, hF⟩ := ncl_some hF
                refine ccS_i (As := [.int v2, .int v3]) (rest := [.int x_52, .ref (Q 60)]) hC hH (n_X0_slot l G Z Q _ T u_47 u_57 r_56 v2 v3 _ h_58) ⟨wkc_X0_slot, wka358, wka387, wka744⟩ kSX0_slot ⟨Nat.le_of_ble_eq_true rfl, Nat.le_of_ble_eq_true rfl⟩ rfl hl.1 rfl (Nat.le_of_ble_eq_true rfl) dX6_putStageInOrder_74 (fun D H locs hH => ?_)
                obtain ⟨y_62, u_59, h_61, hF⟩ := ncl_some hF
                have e_60 := nST_eq h_61
                refine rs_20 hC hH e_60 wka354 ⟨Nat.le_of_ble_eq_true rfl, Nat.le_of_ble_eq_true rfl⟩ hl.1 (Nat.le_of_ble_eq_true rfl) ⟨Nat.zero_le _, Nat.zero_le _⟩ dX6_putStageInOrder_77 (fun H locs hH => ?_)
                refine lv_aload_n hx hb dX6_putStageInOrder_80 rfl (lv_at hl 1 rfl) ?_
                refine lv_dup hx hb dX6_putStageInOrder_81 rfl ?_
                refine cg_X6_84 hC hH dX6_putStageInOrder_82 ?_
                obtain ⟨x_63, u_64, h_65, hF⟩ := ncl_some hF
                obtain ⟨e_66, rfl⟩ := nRF_eq h_65
                refine gx_ti e_66 ?_
                refine lv_iconst (v := 1) hx hb dX6_putStageInOrder_85 (by decide) ?_
                refine lv_iadd hx hb dX6_putStageInOrder_86 ?_
                obtain ⟨y_70, u_67, h_69, hF⟩ := ncl_some hF
                have e_68 := nWF_eq h_69
                refine cp_X6_84 hC hH e_68 dX6_putStageInOrder_87 (fun H locs hH => ?_)
                obtain ⟨x_71, e_72, hF⟩ := nli_some hF
                refine lv_iinc (v := x_71) (lv' := [(3, .int x_71), (4, .int 0), (0, .ref (Q 9)), (1, .int v1), (2, .int v2)]) hx hb dX6_putStageInOrder_90 hl (k := 4) rfl e_72 (by decide) rfl (fun ls hl => ?_)
                refine lv_goto (tgt := 2) hx hb dX6_putStageInOrder_93 (by decide) ?_
                exact ih2 v1 v2 x_71 u_67 _ _ _ _ (lv_sub hl [2, 3, 4, 0] rfl) hH hF
          · rw [if_pos c_42] at hF
            refine lv_iconst (v := 1) hx hb dX6_putStageInOrder_39 (by decide) ?_
            refine lv_goto (tgt := 44) hx hb dX6_putStageInOrder_40 (by decide) ?_
            refine lv_istore (lv' := [(4, .int 1), (0, .ref (Q 9)), (1, .int v1), (2, .int v2), (3, .int v3)]) hx hb dX6_putStageInOrder_44 hl (by decide) rfl (fun ls hl => ?_)
            refine lv_iload hx hb dX6_putStageInOrder_46 (lv_at hl 0 rfl) ?_
            refine lv_if_eq (tgt := 90) hx hb dX6_putStageInOrder_48 (by decide) (fun c_73 => ?_) (fun c_73 => ?_)
            · rw [if_pos c_73] at hF
              obtain ⟨x_74, e_75, hF⟩ := nli_some hF
              refine lv_iinc (v := x_74) (lv' := [(3, .int x_74), (4, .int 1), (0, .ref (Q 9)), (1, .int v1), (2, .int v2)]) hx hb dX6_putStageInOrder_90 hl (k := 4) rfl e_75 (by decide) rfl (fun ls hl => ?_)
              refine lv_goto (tgt := 2) hx hb dX6_putStageInOrder_93 (by decide) ?_
              exact ih2 v1 v2 x_74 u_40 _ _ _ _ (lv_sub hl [2, 3, 4, 0] rfl) hH hF
            · rw [if_neg c_73] at hF
              refine lv_aload_n hx hb dX6_putStageInOrder_51 rfl (lv_at hl 1 rfl) ?_
              refine cg_X6_15 hC hH dX6_putStageInOrder_52 ?_
              refine lv_iload_n hx hb dX6_putStageInOrder_55 rfl (lv_at hl 3 rfl) ?_
              refine lv_iload_n hx hb dX6_putStageInOrder_56 rfl (lv_at hl 4 rfl) ?_
              obtain ⟨r_76, u_77, h_78, hF⟩ := ncl_some hF
              refine ccV_i (q0 := 6) (As := [.int v2, .int v3]) (rest := []) hC hH (n_X0_stageOf l G Z Q _ T u_40 u_77 r_76 v2 v3 _ h_78) rfl rfl ⟨wkc_X0_stageOf, wka368, wka430, wka431, wka744⟩ kVX0_stageOf ⟨Nat.le_of_ble_eq_true rfl, Nat.le_of_ble_eq_true rfl⟩ rfl hl.1 rfl (Nat.le_of_ble_eq_true rfl) dX6_putStageInOrder_57 (fun D H locs hH => ?_)
              refine lv_iload_n hx hb dX6_putStageInOrder_60 rfl (lv_at hl 2 rfl) ?_
              refine lv_icmp_ne (tgt := 90) hx hb dX6_putStageInOrder_61 (by decide) (fun c_79 => ?_) (fun c_79 => ?_)
              · rw [if_neg c_79] at hF
                obtain ⟨x_80, e_81, hF⟩ := nli_some hF
                refine lv_iinc (v := x_80) (lv' := [(3, .int x_80), (4, .int 1), (0, .ref (Q 9)), (1, .int v1), (2, .int v2)]) hx hb dX6_putStageInOrder_90 hl (k := 4) rfl e_81 (by decide) rfl (fun ls hl => ?_)
                refine lv_goto (tgt := 2) hx hb dX6_putStageInOrder_93 (by decide) ?_
                exact ih2 v1 v2 x_80 u_77 _ _ _ _ (lv_sub hl [2, 3, 4, 0] rfl) hH hF
              · rw [if_pos c_79] at hF
                refine lv_aload_n hx hb dX6_putStageInOrder_64 rfl (lv_at hl 1 rfl) ?_
                refine cg_X6_26 hC hH dX6_putStageInOrder_65 ?_
                refine lv_aload_n hx hb dX6_putStageInOrder_68 rfl (lv_at hl 1 rfl) ?_
                refine cg_X6_84 hC hH dX6_putStageInOrder_69 ?_
                obtain ⟨x_82, u_83, h_84, hF⟩ := ncl_some hF
                obtain ⟨e_85, rfl⟩ := nRF_eq h_84
                refine gx_ti e_85 ?_
                refine lv_iload_n hx hb dX6_putStageInOrder_72 rfl (lv_at hl 3 rfl) ?_
                refine lv_iload_n hx hb dX6_putStageInOrder_73 rfl (lv_at hl 4 rfl) ?_
                obtain ⟨r_86, u_87, h_88, hF⟩ := ncl_some hF
                refine ccS_i (As := [.int v2, .int v3]) (rest := [.int x_82, .ref (Q 60)]) hC hH (n_X0_slot l G Z Q _ T u_77 u_87 r_86 v2 v3 _ h_88) ⟨wkc_X0_slot, wka358, wka387, wka744⟩ kSX0_slot ⟨Nat.le_of_ble_eq_true rfl, Nat.le_of_ble_eq_true rfl⟩ rfl hl.1 rfl (Nat.le_of_ble_eq_true rfl) dX6_putStageInOrder_74 (fun D H locs hH => ?_)
                obtain ⟨y_92, u_89, h_91, hF⟩ := ncl_some hF
                have e_90 := nST_eq h_91
                refine rs_20 hC hH e_90 wka354 ⟨Nat.le_of_ble_eq_true rfl, Nat.le_of_ble_eq_true rfl⟩ hl.1 (Nat.le_of_ble_eq_true rfl) ⟨Nat.zero_le _, Nat.zero_le _⟩ dX6_putStageInOrder_77 (fun H locs hH => ?_)
                refine lv_aload_n hx hb dX6_putStageInOrder_80 rfl (lv_at hl 1 rfl) ?_
                refine lv_dup hx hb dX6_putStageInOrder_81 rfl ?_
                refine cg_X6_84 hC hH dX6_putStageInOrder_82 ?_
                obtain ⟨x_93, u_94, h_95, hF⟩ := ncl_some hF
                obtain ⟨e_96, rfl⟩ := nRF_eq h_95
                refine gx_ti e_96 ?_
                refine lv_iconst (v := 1) hx hb dX6_putStageInOrder_85 (by decide) ?_
                refine lv_iadd hx hb dX6_putStageInOrder_86 ?_
                obtain ⟨y_100, u_97, h_99, hF⟩ := ncl_some hF
                have e_98 := nWF_eq h_99
                refine cp_X6_84 hC hH e_98 dX6_putStageInOrder_87 (fun H locs hH => ?_)
                obtain ⟨x_101, e_102, hF⟩ := nli_some hF
                refine lv_iinc (v := x_101) (lv' := [(3, .int x_101), (4, .int 1), (0, .ref (Q 9)), (1, .int v1), (2, .int v2)]) hx hb dX6_putStageInOrder_90 hl (k := 4) rfl e_102 (by decide) rfl (fun ls hl => ?_)
                refine lv_goto (tgt := 2) hx hb dX6_putStageInOrder_93 (by decide) ?_
                exact ih2 v1 v2 x_101 u_97 _ _ _ _ (lv_sub hl [2, 3, 4, 0] rfl) hH hF
  refine hL2 _ (fun v1 v2 v3 u D H locs ls hl hH hF => ?_) fuel a0 a1 0 u _ _ _ _ (lv_sub hl [1, 2, 3, 0] rfl) hH hF
  exact cr_v hC hH hr (nrt_eq hF) dX6_putStageInOrder_96 hlocks
def xl_X6_putInOrder_15 : Nat → Int32 → Int32 → (Int32 → Int32 → NG Int32) → NG Int32
  | 0, _, _, _ => fun _ => none
  | n15 + 1, v1, v2, K15_32 => (if 4 ≤ v2 then K15_32 v1 v2 else ncl (x_X6_putStageInOrder v1 v2) (fun r_7 => nli (v2 + 1) (fun x_10 => xl_X6_putInOrder_15 n15 v1 x_10 K15_32)))
def xl_X6_putInOrder_7 : Nat → Int32 → (Int32 → NG Int32) → NG Int32
  | 0, _, _ => fun _ => none
  | n7 + 1, v1, K7_38 => (if 20 < v1 then K7_38 v1 else xl_X6_putInOrder_15 fuel v1 0 (fun v1 v2 => nli (v1 + 1) (fun x_12 => xl_X6_putInOrder_7 n7 x_12 K7_38)))
def x_X6_putInOrder : NG Int32 := ncl (nWF 17 0) (fun _ => xl_X6_putInOrder_7 fuel 0 (fun v1 => nrt 0))
set_option maxHeartbeats 4000000 in
set_option maxRecDepth 100000 in
theorem n_X6_putInOrder (l : Launch) (G : gG) (Z : gC) (Q : Nat → Nat) (D : Nat × Nat) (T : va_W) (u u1 : MS) (r : Int32) (sz : Nat) (hF : x_X6_putInOrder u = some (r, u1)) : Met l yX6_putInOrder (Cond.code yX6_putInOrder cX6_putInOrder 3 none :: wK) { frames := 4, cells := 0, slots := 0, locals := 92 } (va_Pc [.ref (Q 9)] (cPM G Z Q D T u sz)) (cQv G Q T u1 (va_A (cW G Q D T u) sz)) 0 0 (va_A (cW G Q D T u) sz) := by
  refine Met.ofW (cc := cX6_putInOrder) (maxL := 3) (ret := none) (by decide) rfl ?_
  intro p e s m args below meth c s₁ B hml hv
  obtain ⟨rfl, rfl, hP, hB, hD0, hE⟩ := hv
  have hr := B.returns
  have hlocks := B.notSynchronized
  have hts := atoms_spec (ws := Cond.code yX6_putInOrder cX6_putInOrder 3 none :: wK) B.pre
  have hD := hD0.self (sz := s.heap.size)
  have hA : ∀ q : Nat, s.heap.size ≤ q → va_A (cW G Q D T u) s.heap.size q := fun q h => Or.inr h
  generalize va_A (cW G Q D T u) s.heap.size = A at hD hA hE ⊢
  have hC : cX p c cX6_putInOrder 3 s m _ RX6 G Z A := ⟨B.exec, B.bytes, hml, findClass_of_methodNamed B.named, fun w h => hts w (List.mem_cons_of_mem _ h), hB, hE, hA⟩
  have hx := hC.1
  have hb := hC.2.1
  have hH : cH G Q D T A u s s.heap [] := ⟨hP, hD, va_S.rf⟩
  have hl := lv_entry ([.ref (Q 9)]) (n := 3) (Nat.le_of_ble_eq_true rfl)
  rw [lg_entry_eq]
  generalize (lg_sl ([.ref (Q 9)]) ++ List.replicate (3 - (lg_sl ([.ref (Q 9)])).length) Slot.unset).toArray = ls at hl ⊢
  have hl : lv_has ls 3 [(0, .ref (Q 9))] := hl
  unfold x_X6_putInOrder at hF
  refine lv_aload_n hx hb dX6_putInOrder_0 rfl (lv_at hl 0 rfl) ?_
  refine lv_iconst (v := 0) hx hb dX6_putInOrder_1 (by decide) ?_
  obtain ⟨y_4, u_1, h_3, hF⟩ := ncl_some hF
  have e_2 := nWF_eq h_3
  refine cp_X6_84 hC hH e_2 dX6_putInOrder_2 (fun H locs hH => ?_)
  refine lv_iconst (v := 0) hx hb dX6_putInOrder_5 (by decide) ?_
  refine lv_istore_n (lv' := [(1, .int 0), (0, .ref (Q 9))]) hx hb dX6_putInOrder_6 rfl hl (by decide) rfl (fun ls hl => ?_)
  have hL7 : ∀ (K7_38 : Int32 → NG Int32), (∀ (v1 : Int32) (u : MS) (D : Nat × Nat) (H : Heap) (locs : List Loc) (ls : Array Slot), lv_has ls 3 [(0, .ref (Q 9)), (1, .int v1)] → cH G Q D T A u s H locs → K7_38 v1 u = some (r, u1) → W p l e (headSpec (Cond.code yX6_putInOrder cX6_putInOrder 3 none :: wK) { frames := 4, cells := 0, slots := 0, locals := 92 }).room s m [.ref (Q 9)].toArray below meth c H locs 0 0 (MQ below (cQv G Q T u1 A) [.ref (Q 9)].toArray s 0 0 A) (F0 m 38 ls [])) → ∀ (n7 : Nat) (v1 : Int32) (u : MS) (D : Nat × Nat) (H : Heap) (locs : List Loc) (ls : Array Slot), lv_has ls 3 [(0, .ref (Q 9)), (1, .int v1)] → cH G Q D T A u s H locs → xl_X6_putInOrder_7 n7 v1 K7_38 u = some (r, u1) → W p l e (headSpec (Cond.code yX6_putInOrder cX6_putInOrder 3 none :: wK) { frames := 4, cells := 0, slots := 0, locals := 92 }).room s m [.ref (Q 9)].toArray below meth c H locs 0 0 (MQ below (cQv G Q T u1 A) [.ref (Q 9)].toArray s 0 0 A) (F0 m 7 ls []) := by
    intro K7_38 hK7_38 n7
    induction n7 with
    | zero => intro v1 u D H locs ls hl hH hF; cases hF
    | succ n7 ih7 =>
      intro v1 u D H locs ls hl hH hF
      unfold xl_X6_putInOrder_7 at hF
      refine lv_iload_n hx hb dX6_putInOrder_7 rfl (lv_at hl 1 rfl) ?_
      refine lv_bipush (v := 20) hx hb dX6_putInOrder_8 (by decide) ?_
      refine lv_icmp_gt (tgt := 38) hx hb dX6_putInOrder_10 (by decide) (fun c_5 => ?_) (fun c_5 => ?_)
      · rw [if_pos c_5] at hF
        exact hK7_38 v1 u _ _ _ _ (lv_sub hl [0, 1] rfl) hH hF
      · rw [if_neg c_5] at hF
        refine lv_iconst (v := 0) hx hb dX6_putInOrder_13 (by decide) ?_
        refine lv_istore_n (lv' := [(2, .int 0), (0, .ref (Q 9)), (1, .int v1)]) hx hb dX6_putInOrder_14 rfl hl (by decide) rfl (fun ls hl => ?_)
        have hL15 : ∀ (K15_32 : Int32 → Int32 → NG Int32), (∀ (v1 v2 : Int32) (u : MS) (D : Nat × Nat) (H : Heap) (locs : List Loc) (ls : Array Slot), lv_has ls 3 [(0, .ref (Q 9)), (1, .int v1), (2, .int v2)] → cH G Q D T A u s H locs → K15_32 v1 v2 u = some (r, u1) → W p l e (headSpec (Cond.code yX6_putInOrder cX6_putInOrder 3 none :: wK) { frames := 4, cells := 0, slots := 0, locals := 92 }).room s m [.ref (Q 9)].toArray below meth c H locs 0 0 (MQ below (cQv G Q T u1 A) [.ref (Q 9)].toArray s 0 0 A) (F0 m 32 ls [])) → ∀ (n15 : Nat) (v1 v2 : Int32) (u : MS) (D : Nat × Nat) (H : Heap) (locs : List Loc) (ls : Array Slot), lv_has ls 3 [(0, .ref (Q 9)), (1, .int v1), (2, .int v2)] → cH G Q D T A u s H locs → xl_X6_putInOrder_15 n15 v1 v2 K15_32 u = some (r, u1) → W p l e (headSpec (Cond.code yX6_putInOrder cX6_putInOrder 3 none :: wK) { frames := 4, cells := 0, slots := 0, locals := 92 }).room s m [.ref (Q 9)].toArray below meth c H locs 0 0 (MQ below (cQv G Q T u1 A) [.ref (Q 9)].toArray s 0 0 A) (F0 m 15 ls []) := by
          intro K15_32 hK15_32 n15
          induction n15 with
          | zero => intro v1 v2 u D H locs ls hl hH hF; cases hF
          | succ n15 ih15 =>
            intro v1 v2 u D H locs ls hl hH hF
            unfold xl_X6_putInOrder_15 at hF
            refine lv_iload_n hx hb dX6_putInOrder_15 rfl (lv_at hl 2 rfl) ?_
            refine lv_iconst (v := 4) hx hb dX6_putInOrder_16 (by decide) ?_
            refine lv_icmp_ge (tgt := 32) hx hb dX6_putInOrder_17 (by decide) (fun c_6 => ?_) (fun c_6 => ?_)
            · rw [if_pos c_6] at hF
              exact hK15_32 v1 v2 u _ _ _ _ (lv_sub hl [0, 1, 2] rfl) hH hF
            · rw [if_neg c_6] at hF
              refine lv_aload_n hx hb dX6_putInOrder_20 rfl (lv_at hl 0 rfl) ?_
              refine lv_iload_n hx hb dX6_putInOrder_21 rfl (lv_at hl 1 rfl) ?_
              refine lv_iload_n hx hb dX6_putInOrder_22 rfl (lv_at hl 2 rfl) ?_
              obtain ⟨r_7, u_8, h_9, hF⟩ := ncl_some hF
              refine ccV_v (q0 := 9) (As := [.int v1, .int v2]) (rest := []) hC hH (n_X6_putStageInOrder l G Z Q _ T u u_8 r_7 v1 v2 _ h_9) rfl rfl ⟨wkc_X6_putStageInOrder, wka365, wka592, wka593, wka750⟩ kVX6_putStageInOrder ⟨Nat.le_of_ble_eq_true rfl, Nat.le_of_ble_eq_true rfl⟩ rfl hl.1 rfl (Nat.le_of_ble_eq_true rfl) dX6_putInOrder_23 (fun D H locs hH => ?_)
              obtain ⟨x_10, e_11, hF⟩ := nli_some hF
              refine lv_iinc (v := x_10) (lv' := [(2, .int x_10), (0, .ref (Q 9)), (1, .int v1)]) hx hb dX6_putInOrder_26 hl (k := 2) rfl e_11 (by decide) rfl (fun ls hl => ?_)
              refine lv_goto (tgt := 15) hx hb dX6_putInOrder_29 (by decide) ?_
              exact ih15 v1 x_10 u_8 _ _ _ _ (lv_sub hl [1, 2, 0] rfl) hH hF
        refine hL15 _ (fun v1 v2 u D H locs ls hl hH hF => ?_) fuel v1 0 u _ _ _ _ (lv_sub hl [1, 2, 0] rfl) hH hF
        obtain ⟨x_12, e_13, hF⟩ := nli_some hF
        refine lv_iinc (v := x_12) (lv' := [(1, .int x_12), (0, .ref (Q 9)), (2, .int v2)]) hx hb dX6_putInOrder_32 hl (k := 1) rfl e_13 (by decide) rfl (fun ls hl => ?_)
        refine lv_goto (tgt := 7) hx hb dX6_putInOrder_35 (by decide) ?_
        exact ih7 x_12 u _ _ _ _ (lv_sub hl [1, 0] rfl) hH hF
  refine hL7 _ (fun v1 u D H locs ls hl hH hF => ?_) fuel 0 u_1 _ _ _ _ (lv_sub hl [1, 0] rfl) hH hF
  exact cr_v hC hH hr (nrt_eq hF) dX6_putInOrder_38 hlocks
def x_X6_freeFrom (a0 : Int32) : NG Int32 := (if a0 = (-1) then nrt 0 else ncl (nGT 24 96 a0) (fun x_2 => nrt x_2))
set_option maxHeartbeats 4000000 in
set_option maxRecDepth 100000 in
theorem n_X6_freeFrom (l : Launch) (G : gG) (Z : gC) (Q : Nat → Nat) (D : Nat × Nat) (T : va_W) (u u1 : MS) (r : Int32) (a0 : Int32) (sz : Nat) (hF : x_X6_freeFrom a0 u = some (r, u1)) : Met l yX6_freeFrom (Cond.code yX6_freeFrom cX6_freeFrom 2 (some .int) :: wK) { frames := 1, cells := 0, slots := 0, locals := 22 } (va_Pc [.ref (Q 9), .int a0] (cPM G Z Q D T u sz)) (cQi G Q T u1 r (va_A (cW G Q D T u) sz)) 0 0 (va_A (cW G Q D T u) sz) := by
  refine Met.ofW (cc := cX6_freeFrom) (maxL := 2) (ret := (some .int)) (by decide) rfl ?_
  intro p e s m args below meth c s₁ B hml hv
  obtain ⟨rfl, rfl, hP, hB, hD0, hE⟩ := hv
  have hr := B.returns
  have hlocks := B.notSynchronized
  have hts := atoms_spec (ws := Cond.code yX6_freeFrom cX6_freeFrom 2 (some .int) :: wK) B.pre
  have hD := hD0.self (sz := s.heap.size)
  have hA : ∀ q : Nat, s.heap.size ≤ q → va_A (cW G Q D T u) s.heap.size q := fun q h => Or.inr h
  generalize va_A (cW G Q D T u) s.heap.size = A at hD hA hE ⊢
  have hC : cX p c cX6_freeFrom 2 s m _ RX6 G Z A := ⟨B.exec, B.bytes, hml, findClass_of_methodNamed B.named, fun w h => hts w (List.mem_cons_of_mem _ h), hB, hE, hA⟩
  have hx := hC.1
  have hb := hC.2.1
  have hH : cH G Q D T A u s s.heap [] := ⟨hP, hD, va_S.rf⟩
  have hl := lv_entry ([.ref (Q 9), .int a0]) (n := 2) (Nat.le_of_ble_eq_true rfl)
  rw [lg_entry_eq]
  generalize (lg_sl ([.ref (Q 9), .int a0]) ++ List.replicate (2 - (lg_sl ([.ref (Q 9), .int a0])).length) Slot.unset).toArray = ls at hl ⊢
  have hl : lv_has ls 2 [(0, .ref (Q 9)), (1, .int a0)] := hl
  unfold x_X6_freeFrom at hF
  refine lv_iload_n hx hb dX6_freeFrom_0 rfl (lv_at hl 1 rfl) ?_
  refine lv_iconst (v := (-1)) hx hb dX6_freeFrom_1 (by decide) ?_
  refine lv_icmp_ne (tgt := 9) hx hb dX6_freeFrom_2 (by decide) (fun c_1 => ?_) (fun c_1 => ?_)
  · rw [if_neg c_1] at hF
    refine lv_aload_n hx hb dX6_freeFrom_9 rfl (lv_at hl 0 rfl) ?_
    refine cg_X6_36 hC hH dX6_freeFrom_10 ?_
    refine lv_iload_n hx hb dX6_freeFrom_13 rfl (lv_at hl 1 rfl) ?_
    refine rg_23 hC hH wka361 ⟨Nat.le_of_ble_eq_true rfl, Nat.le_of_ble_eq_true rfl⟩ hl.1 (Nat.le_of_ble_eq_true rfl) ⟨Nat.zero_le _, Nat.zero_le _⟩ dX6_freeFrom_14 ?_
    obtain ⟨x_2, u_3, h_4, hF⟩ := ncl_some hF
    obtain ⟨e_5, rfl⟩ := nGT_eq h_4
    refine gx_ti e_5 ?_
    exact cr_i hC hH hr (nrt_eq hF) dX6_freeFrom_17 hlocks
  · rw [if_pos c_1] at hF
    refine lv_iconst (v := 0) hx hb dX6_freeFrom_5 (by decide) ?_
    refine lv_goto (tgt := 17) hx hb dX6_freeFrom_6 (by decide) ?_
    exact cr_i hC hH hr (nrt_eq hF) dX6_freeFrom_17 hlocks
def x_X6_behindFight (a0 : Int32) (a1 : Int32) : NG Int32 := (if a1 = (-1) then nrt 0 else ncl (x_X0_stateOf a0 a1) (fun r_2 => (if r_2 = 3 then nrt 0 else ncl (x_X0_stateOf a0 a1) (fun r_6 => (if r_6 = 4 then nrt 0 else ncl (x_X0_slot a0 a1) (fun r_10 => ncl (nGT 22 148 r_10) (fun x_13 => (if x_13 = (-1) then nrt 1000000 else ncl (nGT 0 2088 1) (fun x_18 => nrt (x_13 + x_18))))))))))
set_option maxHeartbeats 4000000 in
set_option maxRecDepth 100000 in
theorem n_X6_behindFight (l : Launch) (G : gG) (Z : gC) (Q : Nat → Nat) (D : Nat × Nat) (T : va_W) (u u1 : MS) (r : Int32) (a0 : Int32) (a1 : Int32) (sz : Nat) (hF : x_X6_behindFight a0 a1 u = some (r, u1)) : Met l yX6_behindFight (Cond.code yX6_behindFight cX6_behindFight 4 (some .int) :: wK) { frames := 2, cells := 0, slots := 0, locals := 44 } (va_Pc [.ref (Q 9), .int a0, .int a1] (cPM G Z Q D T u sz)) (cQi G Q T u1 r (va_A (cW G Q D T u) sz)) 0 0 (va_A (cW G Q D T u) sz) := by
  refine Met.ofW (cc := cX6_behindFight) (maxL := 4) (ret := (some .int)) (by decide) rfl ?_
  intro p e s m args below meth c s₁ B hml hv
  obtain ⟨rfl, rfl, hP, hB, hD0, hE⟩ := hv
  have hr := B.returns
  have hlocks := B.notSynchronized
  have hts := atoms_spec (ws := Cond.code yX6_behindFight cX6_behindFight 4 (some .int) :: wK) B.pre
  have hD := hD0.self (sz := s.heap.size)
  have hA : ∀ q : Nat, s.heap.size ≤ q → va_A (cW G Q D T u) s.heap.size q := fun q h => Or.inr h
  generalize va_A (cW G Q D T u) s.heap.size = A at hD hA hE ⊢
  have hC : cX p c cX6_behindFight 4 s m _ RX6 G Z A := ⟨B.exec, B.bytes, hml, findClass_of_methodNamed B.named, fun w h => hts w (List.mem_cons_of_mem _ h), hB, hE, hA⟩
  have hx := hC.1
  have hb := hC.2.1
  have hH : cH G Q D T A u s s.heap [] := ⟨hP, hD, va_S.rf⟩
  have hl := lv_entry ([.ref (Q 9), .int a0, .int a1]) (n := 4) (Nat.le_of_ble_eq_true rfl)
  rw [lg_entry_eq]
  generalize (lg_sl ([.ref (Q 9), .int a0, .int a1]) ++ List.replicate (4 - (lg_sl ([.ref (Q 9), .int a0, .int a1])).length) Slot.unset).toArray = ls at hl ⊢
  have hl : lv_has ls 4 [(0, .ref (Q 9)), (1, .int a0), (2, .int a1)] := hl
  unfold x_X6_behindFight at hF
  refine lv_iload_n hx hb dX6_behindFight_0 rfl (lv_at hl 2 rfl) ?_
  refine lv_iconst (v := (-1)) hx hb dX6_behindFight_1 (by decide) ?_
  refine lv_icmp_eq (tgt := 31) hx hb dX6_behindFight_2 (by decide) (fun c_1 => ?_) (fun c_1 => ?_)
  · rw [if_pos c_1] at hF
    refine lv_iconst (v := 0) hx hb dX6_behindFight_31 (by decide) ?_
    exact cr_i hC hH hr (nrt_eq hF) dX6_behindFight_32 hlocks
  · rw [if_neg c_1] at hF
    refine lv_aload_n hx hb dX6_behindFight_5 rfl (lv_at hl 0 rfl) ?_
    refine cg_X6_15 hC hH dX6_behindFight_6 ?_
    refine lv_iload_n hx hb dX6_behindFight_9 rfl (lv_at hl 1 rfl) ?_
    refine lv_iload_n hx hb dX6_behindFight_10 rfl (lv_at hl 2 rfl) ?_
    obtain ⟨r_2, u_3, h_4, hF⟩ := ncl_some hF
    refine ccV_i (q0 := 6) (As := [.int a0, .int a1]) (rest := []) hC hH (n_X0_stateOf l G Z Q _ T u u_3 r_2 a0 a1 _ h_4) rfl rfl ⟨wkc_X0_stateOf, wka367, wka407, wka408, wka744⟩ kVX0_stateOf ⟨Nat.le_of_ble_eq_true rfl, Nat.le_of_ble_eq_true rfl⟩ rfl hl.1 rfl (Nat.le_of_ble_eq_true rfl) dX6_behindFight_11 (fun D H locs hH => ?_)
    refine lv_iconst (v := 3) hx hb dX6_behindFight_14 (by decide) ?_
    refine lv_icmp_eq (tgt := 31) hx hb dX6_behindFight_15 (by decide) (fun c_5 => ?_) (fun c_5 => ?_)
    · rw [if_pos c_5] at hF
      refine lv_iconst (v := 0) hx hb dX6_behindFight_31 (by decide) ?_
      exact cr_i hC hH hr (nrt_eq hF) dX6_behindFight_32 hlocks
    · rw [if_neg c_5] at hF
      refine lv_aload_n hx hb dX6_behindFight_18 rfl (lv_at hl 0 rfl) ?_
      refine cg_X6_15 hC hH dX6_behindFight_19 ?_
      refine lv_iload_n hx hb dX6_behindFight_22 rfl (lv_at hl 1 rfl) ?_
      refine lv_iload_n hx hb dX6_behindFight_23 rfl (lv_at hl 2 rfl) ?_
      obtain ⟨r_6, u_7, h_8, hF⟩ := ncl_some hF
      refine ccV_i (q0 := 6) (As := [.int a0, .int a1]) (rest := []) hC hH (n_X0_stateOf l G Z Q _ T u_3 u_7 r_6 a0 a1 _ h_8) rfl rfl ⟨wkc_X0_stateOf, wka367, wka407, wka408, wka744⟩ kVX0_stateOf ⟨Nat.le_of_ble_eq_true rfl, Nat.le_of_ble_eq_true rfl⟩ rfl hl.1 rfl (Nat.le_of_ble_eq_true rfl) dX6_behindFight_24 (fun D H locs hH => ?_)
      refine lv_iconst (v := 4) hx hb dX6_behindFight_27 (by decide) ?_
      refine lv_icmp_ne (tgt := 33) hx hb dX6_behindFight_28 (by decide) (fun c_9 => ?_) (fun c_9 => ?_)
      · rw [if_neg c_9] at hF
        refine lv_aload_n hx hb dX6_behindFight_33 rfl (lv_at hl 0 rfl) ?_
        refine cg_X6_30 hC hH dX6_behindFight_34 ?_
        refine lv_iload_n hx hb dX6_behindFight_37 rfl (lv_at hl 1 rfl) ?_
        refine lv_iload_n hx hb dX6_behindFight_38 rfl (lv_at hl 2 rfl) ?_
        obtain ⟨r_10, u_11, h_12, hF⟩ := ncl_some hF
        refine ccS_i (As := [.int a0, .int a1]) (rest := [.ref (Q 62)]) hC hH (n_X0_slot l G Z Q _ T u_7 u_11 r_10 a0 a1 _ h_12) ⟨wkc_X0_slot, wka358, wka387, wka744⟩ kSX0_slot ⟨Nat.le_of_ble_eq_true rfl, Nat.le_of_ble_eq_true rfl⟩ rfl hl.1 rfl (Nat.le_of_ble_eq_true rfl) dX6_behindFight_39 (fun D H locs hH => ?_)
        refine rg_21 hC hH wka361 ⟨Nat.le_of_ble_eq_true rfl, Nat.le_of_ble_eq_true rfl⟩ hl.1 (Nat.le_of_ble_eq_true rfl) ⟨Nat.zero_le _, Nat.zero_le _⟩ dX6_behindFight_42 ?_
        obtain ⟨x_13, u_14, h_15, hF⟩ := ncl_some hF
        obtain ⟨e_16, rfl⟩ := nGT_eq h_15
        refine gx_ti e_16 ?_
        refine lv_istore_n (lv' := [(3, .int x_13), (0, .ref (Q 9)), (1, .int a0), (2, .int a1)]) hx hb dX6_behindFight_45 rfl hl (by decide) rfl (fun ls hl => ?_)
        refine lv_iload_n hx hb dX6_behindFight_46 rfl (lv_at hl 0 rfl) ?_
        refine lv_iconst (v := (-1)) hx hb dX6_behindFight_47 (by decide) ?_
        refine lv_icmp_ne (tgt := 56) hx hb dX6_behindFight_48 (by decide) (fun c_17 => ?_) (fun c_17 => ?_)
        · rw [if_neg c_17] at hF
          refine lv_iload_n hx hb dX6_behindFight_56 rfl (lv_at hl 0 rfl) ?_
          refine lv_aload_n hx hb dX6_behindFight_57 rfl (lv_at hl 1 rfl) ?_
          refine cg_X6_9 hC hH dX6_behindFight_58 ?_
          refine lv_iconst (v := 1) hx hb dX6_behindFight_61 (by decide) ?_
          refine bat (i := 1) (j := 11) hC hH rfl rfl (by decide) wka352 ⟨Nat.le_of_ble_eq_true rfl, Nat.le_of_ble_eq_true rfl⟩ hl.1 (Nat.le_of_ble_eq_true rfl) ⟨Nat.zero_le _, Nat.zero_le _⟩ dX6_behindFight_62 ?_
          obtain ⟨x_18, u_19, h_20, hF⟩ := ncl_some hF
          obtain ⟨e_21, rfl⟩ := nGT_eq h_20
          refine gx_ti e_21 ?_
          refine lv_iadd hx hb dX6_behindFight_65 ?_
          exact cr_i hC hH hr (nrt_eq hF) dX6_behindFight_66 hlocks
        · rw [if_pos c_17] at hF
          refine lv_ldc (v := 1000000) hx hb hC.2.2.2.1 (hC.2.2.2.2.1 _ wka374) dX6_behindFight_51 ?_
          refine lv_goto (tgt := 66) hx hb dX6_behindFight_53 (by decide) ?_
          exact cr_i hC hH hr (nrt_eq hF) dX6_behindFight_66 hlocks
      · rw [if_pos c_9] at hF
        refine lv_iconst (v := 0) hx hb dX6_behindFight_31 (by decide) ?_
        exact cr_i hC hH hr (nrt_eq hF) dX6_behindFight_32 hlocks
def xl_X6_findEarliest_2 : Nat → Int32 → Int32 → (Int32 → Int32 → NG Int32) → NG Int32
  | 0, _, _, _ => fun _ => none
  | n2 + 1, v1, v2, K2_107 => ncl (x_X0_fightsOf v1) (fun r_1 => (if r_1 ≤ v2 then K2_107 v1 v2 else ncl (x_X0_whiteOf v1 v2) (fun r_5 => ncl (x_X6_freeFrom r_5) (fun r_8 => ncl (x_X0_blueOf v1 v2) (fun r_11 => ncl (x_X6_freeFrom r_11) (fun r_14 => nli (if r_8 < r_14 then r_14 else r_8) (fun x_17 => ncl (x_X0_aheadOf v1 v2 0) (fun r_19 => ncl (x_X6_behindFight v1 r_19) (fun r_22 => ncl (x_X0_aheadOf v1 v2 1) (fun r_25 => ncl (x_X6_behindFight v1 r_25) (fun r_28 => ncl (x_X0_slot v1 v2) (fun r_31 => ncl (nST 25 148 r_31 (if x_17 < (if r_22 < r_28 then r_28 else r_22) then (if r_22 < r_28 then r_28 else r_22) else x_17)) (fun _ => nli (v2 + 1) (fun x_38 => xl_X6_findEarliest_2 n2 v1 x_38 K2_107))))))))))))))
def x_X6_findEarliest (a0 : Int32) : NG Int32 := xl_X6_findEarliest_2 fuel a0 0 (fun v1 v2 => nrt 0)
set_option maxHeartbeats 4000000 in
set_option maxRecDepth 100000 in
theorem n_X6_findEarliest (l : Launch) (G : gG) (Z : gC) (Q : Nat → Nat) (D : Nat × Nat) (T : va_W) (u u1 : MS) (r : Int32) (a0 : Int32) (sz : Nat) (hF : x_X6_findEarliest a0 u = some (r, u1)) : Met l yX6_findEarliest (Cond.code yX6_findEarliest cX6_findEarliest 6 none :: wK) { frames := 3, cells := 0, slots := 0, locals := 68 } (va_Pc [.ref (Q 9), .int a0] (cPM G Z Q D T u sz)) (cQv G Q T u1 (va_A (cW G Q D T u) sz)) 0 0 (va_A (cW G Q D T u) sz) := by
  refine Met.ofW (cc := cX6_findEarliest) (maxL := 6) (ret := none) (by decide) rfl ?_
  intro p e s m args below meth c s₁ B hml hv
  obtain ⟨rfl, rfl, hP, hB, hD0, hE⟩ := hv
  have hr := B.returns
  have hlocks := B.notSynchronized
  have hts := atoms_spec (ws := Cond.code yX6_findEarliest cX6_findEarliest 6 none :: wK) B.pre
  have hD := hD0.self (sz := s.heap.size)
  have hA : ∀ q : Nat, s.heap.size ≤ q → va_A (cW G Q D T u) s.heap.size q := fun q h => Or.inr h
  generalize va_A (cW G Q D T u) s.heap.size = A at hD hA hE ⊢
  have hC : cX p c cX6_findEarliest 6 s m _ RX6 G Z A := ⟨B.exec, B.bytes, hml, findClass_of_methodNamed B.named, fun w h => hts w (List.mem_cons_of_mem _ h), hB, hE, hA⟩
  have hx := hC.1
  have hb := hC.2.1
  have hH : cH G Q D T A u s s.heap [] := ⟨hP, hD, va_S.rf⟩
  have hl := lv_entry ([.ref (Q 9), .int a0]) (n := 6) (Nat.le_of_ble_eq_true rfl)
  rw [lg_entry_eq]
  generalize (lg_sl ([.ref (Q 9), .int a0]) ++ List.replicate (6 - (lg_sl ([.ref (Q 9), .int a0])).length) Slot.unset).toArray = ls at hl ⊢
  have hl : lv_has ls 6 [(0, .ref (Q 9)), (1, .int a0)] := hl
  unfold x_X6_findEarliest at hF
  refine lv_iconst (v := 0) hx hb dX6_findEarliest_0 (by decide) ?_
  refine lv_istore_n (lv' := [(2, .int 0), (0, .ref (Q 9)), (1, .int a0)]) hx hb dX6_findEarliest_1 rfl hl (by decide) rfl (fun ls hl => ?_)
  have hL2 : ∀ (K2_107 : Int32 → Int32 → NG Int32), (∀ (v1 v2 : Int32) (u : MS) (D : Nat × Nat) (H : Heap) (locs : List Loc) (ls : Array Slot), lv_has ls 6 [(0, .ref (Q 9)), (1, .int v1), (2, .int v2)] → cH G Q D T A u s H locs → K2_107 v1 v2 u = some (r, u1) → W p l e (headSpec (Cond.code yX6_findEarliest cX6_findEarliest 6 none :: wK) { frames := 3, cells := 0, slots := 0, locals := 68 }).room s m [.ref (Q 9), .int a0].toArray below meth c H locs 0 0 (MQ below (cQv G Q T u1 A) [.ref (Q 9), .int a0].toArray s 0 0 A) (F0 m 107 ls [])) → ∀ (n2 : Nat) (v1 v2 : Int32) (u : MS) (D : Nat × Nat) (H : Heap) (locs : List Loc) (ls : Array Slot), lv_has ls 6 [(0, .ref (Q 9)), (1, .int v1), (2, .int v2)] → cH G Q D T A u s H locs → xl_X6_findEarliest_2 n2 v1 v2 K2_107 u = some (r, u1) → W p l e (headSpec (Cond.code yX6_findEarliest cX6_findEarliest 6 none :: wK) { frames := 3, cells := 0, slots := 0, locals := 68 }).room s m [.ref (Q 9), .int a0].toArray below meth c H locs 0 0 (MQ below (cQv G Q T u1 A) [.ref (Q 9), .int a0].toArray s 0 0 A) (F0 m 2 ls []) := by
    intro K2_107 hK2_107 n2
    induction n2 with
    | zero => intro v1 v2 u D H locs ls hl hH hF; cases hF
    | succ n2 ih2 =>
      intro v1 v2 u D H locs ls hl hH hF
      unfold xl_X6_findEarliest_2 at hF
      refine lv_iload_n hx hb dX6_findEarliest_2 rfl (lv_at hl 2 rfl) ?_
      refine lv_aload_n hx hb dX6_findEarliest_3 rfl (lv_at hl 0 rfl) ?_
      refine cg_X6_15 hC hH dX6_findEarliest_4 ?_
      refine lv_iload_n hx hb dX6_findEarliest_7 rfl (lv_at hl 1 rfl) ?_
      obtain ⟨r_1, u_2, h_3, hF⟩ := ncl_some hF
      refine ccV_i (q0 := 6) (As := [.int v1]) (rest := [.int v2]) hC hH (n_X0_fightsOf l G Z Q _ T u u_2 r_1 v1 _ h_3) rfl rfl ⟨wkc_X0_fightsOf, wka366, wka396, wka397, wka744⟩ kVX0_fightsOf ⟨Nat.le_of_ble_eq_true rfl, Nat.le_of_ble_eq_true rfl⟩ rfl hl.1 rfl (Nat.le_of_ble_eq_true rfl) dX6_findEarliest_8 (fun D H locs hH => ?_)
      refine lv_icmp_ge (tgt := 107) hx hb dX6_findEarliest_11 (by decide) (fun c_4 => ?_) (fun c_4 => ?_)
      · rw [if_pos c_4] at hF
        exact hK2_107 v1 v2 u_2 _ _ _ _ (lv_sub hl [0, 1, 2] rfl) hH hF
      · rw [if_neg c_4] at hF
        refine lv_aload_n hx hb dX6_findEarliest_14 rfl (lv_at hl 0 rfl) ?_
        refine lv_aload_n hx hb dX6_findEarliest_15 rfl (lv_at hl 0 rfl) ?_
        refine cg_X6_15 hC hH dX6_findEarliest_16 ?_
        refine lv_iload_n hx hb dX6_findEarliest_19 rfl (lv_at hl 1 rfl) ?_
        refine lv_iload_n hx hb dX6_findEarliest_20 rfl (lv_at hl 2 rfl) ?_
        obtain ⟨r_5, u_6, h_7, hF⟩ := ncl_some hF
        refine ccV_i (q0 := 6) (As := [.int v1, .int v2]) (rest := [.ref (Q 9)]) hC hH (n_X0_whiteOf l G Z Q _ T u_2 u_6 r_5 v1 v2 _ h_7) rfl rfl ⟨wkc_X0_whiteOf, wka359, wka401, wka402, wka744⟩ kVX0_whiteOf ⟨Nat.le_of_ble_eq_true rfl, Nat.le_of_ble_eq_true rfl⟩ rfl hl.1 rfl (Nat.le_of_ble_eq_true rfl) dX6_findEarliest_21 (fun D H locs hH => ?_)
        obtain ⟨r_8, u_9, h_10, hF⟩ := ncl_some hF
        refine ccV_i (q0 := 9) (As := [.int r_5]) (rest := []) hC hH (n_X6_freeFrom l G Z Q _ T u_6 u_9 r_8 r_5 _ h_10) rfl rfl ⟨wkc_X6_freeFrom, wka371, wka606, wka607, wka750⟩ kVX6_freeFrom ⟨Nat.le_of_ble_eq_true rfl, Nat.le_of_ble_eq_true rfl⟩ rfl hl.1 rfl (Nat.le_of_ble_eq_true rfl) dX6_findEarliest_24 (fun D H locs hH => ?_)
        refine lv_aload_n hx hb dX6_findEarliest_27 rfl (lv_at hl 0 rfl) ?_
        refine lv_aload_n hx hb dX6_findEarliest_28 rfl (lv_at hl 0 rfl) ?_
        refine cg_X6_15 hC hH dX6_findEarliest_29 ?_
        refine lv_iload_n hx hb dX6_findEarliest_32 rfl (lv_at hl 1 rfl) ?_
        refine lv_iload_n hx hb dX6_findEarliest_33 rfl (lv_at hl 2 rfl) ?_
        obtain ⟨r_11, u_12, h_13, hF⟩ := ncl_some hF
        refine ccV_i (q0 := 6) (As := [.int v1, .int v2]) (rest := [.ref (Q 9), .int r_8]) hC hH (n_X0_blueOf l G Z Q _ T u_9 u_12 r_11 v1 v2 _ h_13) rfl rfl ⟨wkc_X0_blueOf, wka363, wka403, wka404, wka744⟩ kVX0_blueOf ⟨Nat.le_of_ble_eq_true rfl, Nat.le_of_ble_eq_true rfl⟩ rfl hl.1 rfl (Nat.le_of_ble_eq_true rfl) dX6_findEarliest_34 (fun D H locs hH => ?_)
        obtain ⟨r_14, u_15, h_16, hF⟩ := ncl_some hF
        refine ccV_i (q0 := 9) (As := [.int r_11]) (rest := [.int r_8]) hC hH (n_X6_freeFrom l G Z Q _ T u_12 u_15 r_14 r_11 _ h_16) rfl rfl ⟨wkc_X6_freeFrom, wka371, wka606, wka607, wka750⟩ kVX6_freeFrom ⟨Nat.le_of_ble_eq_true rfl, Nat.le_of_ble_eq_true rfl⟩ rfl hl.1 rfl (Nat.le_of_ble_eq_true rfl) dX6_findEarliest_37 (fun D H locs hH => ?_)
        refine va_mmax hx hb (hC.2.2.1.trans hl.1.symm) hC.2.2.2.1 (hC.2.2.2.2.1 _ wka362) (hC.2.2.2.2.1 _ wka756) (hC.2.2.2.2.1 _ wka760) (hC.2.2.2.2.1 _ wka757) (Nat.le_of_ble_eq_true rfl) (Nat.le_of_ble_eq_true rfl) (Nat.le_of_ble_eq_true rfl) (Nat.le_of_ble_eq_true rfl) dX6_findEarliest_40 ?_
        obtain ⟨x_17, e_18, hF⟩ := nli_some hF
        refine gx_ti e_18 ?_
        refine lv_istore_n (lv' := [(3, .int x_17), (0, .ref (Q 9)), (1, .int v1), (2, .int v2)]) hx hb dX6_findEarliest_43 rfl hl (by decide) rfl (fun ls hl => ?_)
        refine lv_aload_n hx hb dX6_findEarliest_44 rfl (lv_at hl 1 rfl) ?_
        refine lv_iload_n hx hb dX6_findEarliest_45 rfl (lv_at hl 2 rfl) ?_
        refine lv_aload_n hx hb dX6_findEarliest_46 rfl (lv_at hl 1 rfl) ?_
        refine cg_X6_15 hC hH dX6_findEarliest_47 ?_
        refine lv_iload_n hx hb dX6_findEarliest_50 rfl (lv_at hl 2 rfl) ?_
        refine lv_iload_n hx hb dX6_findEarliest_51 rfl (lv_at hl 3 rfl) ?_
        refine lv_iconst (v := 0) hx hb dX6_findEarliest_52 (by decide) ?_
        obtain ⟨r_19, u_20, h_21, hF⟩ := ncl_some hF
        refine ccV_i (q0 := 6) (As := [.int v1, .int v2, .int 0]) (rest := [.int v1, .ref (Q 9)]) hC hH (n_X0_aheadOf l G Z Q _ T u_15 u_20 r_19 v1 v2 0 _ h_21) rfl rfl ⟨wkc_X0_aheadOf, wka372, wka433, wka434, wka744⟩ kVX0_aheadOf ⟨Nat.le_of_ble_eq_true rfl, Nat.le_of_ble_eq_true rfl⟩ rfl hl.1 rfl (Nat.le_of_ble_eq_true rfl) dX6_findEarliest_53 (fun D H locs hH => ?_)
        obtain ⟨r_22, u_23, h_24, hF⟩ := ncl_some hF
        refine ccV_i (q0 := 9) (As := [.int v1, .int r_19]) (rest := []) hC hH (n_X6_behindFight l G Z Q _ T u_20 u_23 r_22 v1 r_19 _ h_24) rfl rfl ⟨wkc_X6_behindFight, wka373, wka608, wka609, wka750⟩ kVX6_behindFight ⟨Nat.le_of_ble_eq_true rfl, Nat.le_of_ble_eq_true rfl⟩ rfl hl.1 rfl (Nat.le_of_ble_eq_true rfl) dX6_findEarliest_56 (fun D H locs hH => ?_)
        refine lv_istore (lv' := [(4, .int r_22), (3, .int x_17), (0, .ref (Q 9)), (1, .int v1), (2, .int v2)]) hx hb dX6_findEarliest_59 hl (by decide) rfl (fun ls hl => ?_)
        refine lv_aload_n hx hb dX6_findEarliest_61 rfl (lv_at hl 2 rfl) ?_
        refine lv_iload_n hx hb dX6_findEarliest_62 rfl (lv_at hl 3 rfl) ?_
        refine lv_aload_n hx hb dX6_findEarliest_63 rfl (lv_at hl 2 rfl) ?_
        refine cg_X6_15 hC hH dX6_findEarliest_64 ?_
        refine lv_iload_n hx hb dX6_findEarliest_67 rfl (lv_at hl 3 rfl) ?_
        refine lv_iload_n hx hb dX6_findEarliest_68 rfl (lv_at hl 4 rfl) ?_
        refine lv_iconst (v := 1) hx hb dX6_findEarliest_69 (by decide) ?_
        obtain ⟨r_25, u_26, h_27, hF⟩ := ncl_some hF
        refine ccV_i (q0 := 6) (As := [.int v1, .int v2, .int 1]) (rest := [.int v1, .ref (Q 9)]) hC hH (n_X0_aheadOf l G Z Q _ T u_23 u_26 r_25 v1 v2 1 _ h_27) rfl rfl ⟨wkc_X0_aheadOf, wka372, wka433, wka434, wka744⟩ kVX0_aheadOf ⟨Nat.le_of_ble_eq_true rfl, Nat.le_of_ble_eq_true rfl⟩ rfl hl.1 rfl (Nat.le_of_ble_eq_true rfl) dX6_findEarliest_70 (fun D H locs hH => ?_)
        obtain ⟨r_28, u_29, h_30, hF⟩ := ncl_some hF
        refine ccV_i (q0 := 9) (As := [.int v1, .int r_25]) (rest := []) hC hH (n_X6_behindFight l G Z Q _ T u_26 u_29 r_28 v1 r_25 _ h_30) rfl rfl ⟨wkc_X6_behindFight, wka373, wka608, wka609, wka750⟩ kVX6_behindFight ⟨Nat.le_of_ble_eq_true rfl, Nat.le_of_ble_eq_true rfl⟩ rfl hl.1 rfl (Nat.le_of_ble_eq_true rfl) dX6_findEarliest_73 (fun D H locs hH => ?_)
        refine lv_istore (lv' := [(5, .int r_28), (4, .int r_22), (3, .int x_17), (0, .ref (Q 9)), (1, .int v1), (2, .int v2)]) hx hb dX6_findEarliest_76 hl (by decide) rfl (fun ls hl => ?_)
        refine lv_aload_n hx hb dX6_findEarliest_78 rfl (lv_at hl 3 rfl) ?_
        refine cg_X6_39 hC hH dX6_findEarliest_79 ?_
        refine lv_iload_n hx hb dX6_findEarliest_82 rfl (lv_at hl 4 rfl) ?_
        refine lv_iload_n hx hb dX6_findEarliest_83 rfl (lv_at hl 5 rfl) ?_
        obtain ⟨r_31, u_32, h_33, hF⟩ := ncl_some hF
        refine ccS_i (As := [.int v1, .int v2]) (rest := [.ref (Q 68)]) hC hH (n_X0_slot l G Z Q _ T u_29 u_32 r_31 v1 v2 _ h_33) ⟨wkc_X0_slot, wka358, wka387, wka744⟩ kSX0_slot ⟨Nat.le_of_ble_eq_true rfl, Nat.le_of_ble_eq_true rfl⟩ rfl hl.1 rfl (Nat.le_of_ble_eq_true rfl) dX6_findEarliest_84 (fun D H locs hH => ?_)
        refine lv_iload_n hx hb dX6_findEarliest_87 rfl (lv_at hl 2 rfl) ?_
        refine lv_iload hx hb dX6_findEarliest_88 (lv_at hl 1 rfl) ?_
        refine lv_iload hx hb dX6_findEarliest_90 (lv_at hl 0 rfl) ?_
        refine va_mmax hx hb (hC.2.2.1.trans hl.1.symm) hC.2.2.2.1 (hC.2.2.2.2.1 _ wka362) (hC.2.2.2.2.1 _ wka756) (hC.2.2.2.2.1 _ wka760) (hC.2.2.2.2.1 _ wka757) (Nat.le_of_ble_eq_true rfl) (Nat.le_of_ble_eq_true rfl) (Nat.le_of_ble_eq_true rfl) (Nat.le_of_ble_eq_true rfl) dX6_findEarliest_92 ?_
        refine va_mmax hx hb (hC.2.2.1.trans hl.1.symm) hC.2.2.2.1 (hC.2.2.2.2.1 _ wka362) (hC.2.2.2.2.1 _ wka756) (hC.2.2.2.2.1 _ wka760) (hC.2.2.2.2.1 _ wka757) (Nat.le_of_ble_eq_true rfl) (Nat.le_of_ble_eq_true rfl) (Nat.le_of_ble_eq_true rfl) (Nat.le_of_ble_eq_true rfl) dX6_findEarliest_95 ?_
        obtain ⟨y_37, u_34, h_36, hF⟩ := ncl_some hF
        have e_35 := nST_eq h_36
        refine rs_24 hC hH e_35 wka354 ⟨Nat.le_of_ble_eq_true rfl, Nat.le_of_ble_eq_true rfl⟩ hl.1 (Nat.le_of_ble_eq_true rfl) ⟨Nat.zero_le _, Nat.zero_le _⟩ dX6_findEarliest_98 (fun H locs hH => ?_)
        obtain ⟨x_38, e_39, hF⟩ := nli_some hF
        refine lv_iinc (v := x_38) (lv' := [(2, .int x_38), (5, .int r_28), (4, .int r_22), (3, .int x_17), (0, .ref (Q 9)), (1, .int v1)]) hx hb dX6_findEarliest_101 hl (k := 5) rfl e_39 (by decide) rfl (fun ls hl => ?_)
        refine lv_goto (tgt := 2) hx hb dX6_findEarliest_104 (by decide) ?_
        exact ih2 v1 x_38 u_34 _ _ _ _ (lv_sub hl [4, 5, 0] rfl) hH hF
  refine hL2 _ (fun v1 v2 u D H locs ls hl hH hF => ?_) fuel a0 0 u _ _ _ _ (lv_sub hl [1, 2, 0] rfl) hH hF
  exact cr_v hC hH hr (nrt_eq hF) dX6_findEarliest_107 hlocks
def xl_X6_takeOutOfOrder_12 : Nat → Int32 → Int32 → (Int32 → Int32 → NG Int32) → NG Int32
  | 0, _, _, _ => fun _ => none
  | n12 + 1, v1, v2, K12_44 => ncl (nRF 17) (fun x_9 => (if x_9 ≤ v2 then K12_44 v1 v2 else ncl (nGT 21 148 (v2 + 1)) (fun x_14 => ncl (nST 21 148 v2 x_14) (fun _ => nli (v2 + 1) (fun x_22 => xl_X6_takeOutOfOrder_12 n12 v1 x_22 K12_44)))))
def x_X6_takeOutOfOrder (a0 : Int32) : NG Int32 := ncl (nRF 17) (fun x_1 => ncl (nWF 17 (x_1 - 1)) (fun _ => xl_X6_takeOutOfOrder_12 fuel a0 a0 (fun v1 v2 => nrt 0)))
set_option maxHeartbeats 4000000 in
set_option maxRecDepth 100000 in
theorem n_X6_takeOutOfOrder (l : Launch) (G : gG) (Z : gC) (Q : Nat → Nat) (D : Nat × Nat) (T : va_W) (u u1 : MS) (r : Int32) (a0 : Int32) (sz : Nat) (hF : x_X6_takeOutOfOrder a0 u = some (r, u1)) : Met l yX6_takeOutOfOrder (Cond.code yX6_takeOutOfOrder cX6_takeOutOfOrder 3 none :: wK) { frames := 1, cells := 0, slots := 0, locals := 22 } (va_Pc [.ref (Q 9), .int a0] (cPM G Z Q D T u sz)) (cQv G Q T u1 (va_A (cW G Q D T u) sz)) 0 0 (va_A (cW G Q D T u) sz) := by
  refine Met.ofW (cc := cX6_takeOutOfOrder) (maxL := 3) (ret := none) (by decide) rfl ?_
  intro p e s m args below meth c s₁ B hml hv
  obtain ⟨rfl, rfl, hP, hB, hD0, hE⟩ := hv
  have hr := B.returns
  have hlocks := B.notSynchronized
  have hts := atoms_spec (ws := Cond.code yX6_takeOutOfOrder cX6_takeOutOfOrder 3 none :: wK) B.pre
  have hD := hD0.self (sz := s.heap.size)
  have hA : ∀ q : Nat, s.heap.size ≤ q → va_A (cW G Q D T u) s.heap.size q := fun q h => Or.inr h
  generalize va_A (cW G Q D T u) s.heap.size = A at hD hA hE ⊢
  have hC : cX p c cX6_takeOutOfOrder 3 s m _ RX6 G Z A := ⟨B.exec, B.bytes, hml, findClass_of_methodNamed B.named, fun w h => hts w (List.mem_cons_of_mem _ h), hB, hE, hA⟩
  have hx := hC.1
  have hb := hC.2.1
  have hH : cH G Q D T A u s s.heap [] := ⟨hP, hD, va_S.rf⟩
  have hl := lv_entry ([.ref (Q 9), .int a0]) (n := 3) (Nat.le_of_ble_eq_true rfl)
  rw [lg_entry_eq]
  generalize (lg_sl ([.ref (Q 9), .int a0]) ++ List.replicate (3 - (lg_sl ([.ref (Q 9), .int a0])).length) Slot.unset).toArray = ls at hl ⊢
  have hl : lv_has ls 3 [(0, .ref (Q 9)), (1, .int a0)] := hl
  unfold x_X6_takeOutOfOrder at hF
  refine lv_aload_n hx hb dX6_takeOutOfOrder_0 rfl (lv_at hl 0 rfl) ?_
  refine lv_dup hx hb dX6_takeOutOfOrder_1 rfl ?_
  refine cg_X6_84 hC hH dX6_takeOutOfOrder_2 ?_
  obtain ⟨x_1, u_2, h_3, hF⟩ := ncl_some hF
  obtain ⟨e_4, rfl⟩ := nRF_eq h_3
  refine gx_ti e_4 ?_
  refine lv_iconst (v := 1) hx hb dX6_takeOutOfOrder_5 (by decide) ?_
  refine lv_isub hx hb dX6_takeOutOfOrder_6 ?_
  obtain ⟨y_8, u_5, h_7, hF⟩ := ncl_some hF
  have e_6 := nWF_eq h_7
  refine cp_X6_84 hC hH e_6 dX6_takeOutOfOrder_7 (fun H locs hH => ?_)
  refine lv_iload_n hx hb dX6_takeOutOfOrder_10 rfl (lv_at hl 1 rfl) ?_
  refine lv_istore_n (lv' := [(2, .int a0), (0, .ref (Q 9)), (1, .int a0)]) hx hb dX6_takeOutOfOrder_11 rfl hl (by decide) rfl (fun ls hl => ?_)
  have hL12 : ∀ (K12_44 : Int32 → Int32 → NG Int32), (∀ (v1 v2 : Int32) (u : MS) (D : Nat × Nat) (H : Heap) (locs : List Loc) (ls : Array Slot), lv_has ls 3 [(0, .ref (Q 9)), (1, .int v1), (2, .int v2)] → cH G Q D T A u s H locs → K12_44 v1 v2 u = some (r, u1) → W p l e (headSpec (Cond.code yX6_takeOutOfOrder cX6_takeOutOfOrder 3 none :: wK) { frames := 1, cells := 0, slots := 0, locals := 22 }).room s m [.ref (Q 9), .int a0].toArray below meth c H locs 0 0 (MQ below (cQv G Q T u1 A) [.ref (Q 9), .int a0].toArray s 0 0 A) (F0 m 44 ls [])) → ∀ (n12 : Nat) (v1 v2 : Int32) (u : MS) (D : Nat × Nat) (H : Heap) (locs : List Loc) (ls : Array Slot), lv_has ls 3 [(0, .ref (Q 9)), (1, .int v1), (2, .int v2)] → cH G Q D T A u s H locs → xl_X6_takeOutOfOrder_12 n12 v1 v2 K12_44 u = some (r, u1) → W p l e (headSpec (Cond.code yX6_takeOutOfOrder cX6_takeOutOfOrder 3 none :: wK) { frames := 1, cells := 0, slots := 0, locals := 22 }).room s m [.ref (Q 9), .int a0].toArray below meth c H locs 0 0 (MQ below (cQv G Q T u1 A) [.ref (Q 9), .int a0].toArray s 0 0 A) (F0 m 12 ls []) := by
    intro K12_44 hK12_44 n12
    induction n12 with
    | zero => intro v1 v2 u D H locs ls hl hH hF; cases hF
    | succ n12 ih12 =>
      intro v1 v2 u D H locs ls hl hH hF
      unfold xl_X6_takeOutOfOrder_12 at hF
      refine lv_iload_n hx hb dX6_takeOutOfOrder_12 rfl (lv_at hl 2 rfl) ?_
      refine lv_aload_n hx hb dX6_takeOutOfOrder_13 rfl (lv_at hl 0 rfl) ?_
      refine cg_X6_84 hC hH dX6_takeOutOfOrder_14 ?_
      obtain ⟨x_9, u_10, h_11, hF⟩ := ncl_some hF
      obtain ⟨e_12, rfl⟩ := nRF_eq h_11
      refine gx_ti e_12 ?_
      refine lv_icmp_ge (tgt := 44) hx hb dX6_takeOutOfOrder_17 (by decide) (fun c_13 => ?_) (fun c_13 => ?_)
      · rw [if_pos c_13] at hF
        exact hK12_44 v1 v2 u _ _ _ _ (lv_sub hl [0, 1, 2] rfl) hH hF
      · rw [if_neg c_13] at hF
        refine lv_aload_n hx hb dX6_takeOutOfOrder_20 rfl (lv_at hl 0 rfl) ?_
        refine cg_X6_26 hC hH dX6_takeOutOfOrder_21 ?_
        refine lv_iload_n hx hb dX6_takeOutOfOrder_24 rfl (lv_at hl 2 rfl) ?_
        refine lv_aload_n hx hb dX6_takeOutOfOrder_25 rfl (lv_at hl 0 rfl) ?_
        refine cg_X6_26 hC hH dX6_takeOutOfOrder_26 ?_
        refine lv_iload_n hx hb dX6_takeOutOfOrder_29 rfl (lv_at hl 2 rfl) ?_
        refine lv_iconst (v := 1) hx hb dX6_takeOutOfOrder_30 (by decide) ?_
        refine lv_iadd hx hb dX6_takeOutOfOrder_31 ?_
        refine rg_20 hC hH wka361 ⟨Nat.le_of_ble_eq_true rfl, Nat.le_of_ble_eq_true rfl⟩ hl.1 (Nat.le_of_ble_eq_true rfl) ⟨Nat.zero_le _, Nat.zero_le _⟩ dX6_takeOutOfOrder_32 ?_
        obtain ⟨x_14, u_15, h_16, hF⟩ := ncl_some hF
        obtain ⟨e_17, rfl⟩ := nGT_eq h_16
        refine gx_ti e_17 ?_
        obtain ⟨y_21, u_18, h_20, hF⟩ := ncl_some hF
        have e_19 := nST_eq h_20
        refine rs_20 hC hH e_19 wka354 ⟨Nat.le_of_ble_eq_true rfl, Nat.le_of_ble_eq_true rfl⟩ hl.1 (Nat.le_of_ble_eq_true rfl) ⟨Nat.zero_le _, Nat.zero_le _⟩ dX6_takeOutOfOrder_35 (fun H locs hH => ?_)
        obtain ⟨x_22, e_23, hF⟩ := nli_some hF
        refine lv_iinc (v := x_22) (lv' := [(2, .int x_22), (0, .ref (Q 9)), (1, .int v1)]) hx hb dX6_takeOutOfOrder_38 hl (k := 2) rfl e_23 (by decide) rfl (fun ls hl => ?_)
        refine lv_goto (tgt := 12) hx hb dX6_takeOutOfOrder_41 (by decide) ?_
        exact ih12 v1 x_22 u_18 _ _ _ _ (lv_sub hl [1, 2, 0] rfl) hH hF
  refine hL12 _ (fun v1 v2 u D H locs ls hl hH hF => ?_) fuel a0 a0 u_5 _ _ _ _ (lv_sub hl [1, 2, 0] rfl) hH hF
  exact cr_v hC hH hr (nrt_eq hF) dX6_takeOutOfOrder_44 hlocks
def xl_X6_firstThatMay_2 : Nat → Int32 → Int32 → (Int32 → Int32 → NG Int32) → NG Int32
  | 0, _, _, _ => fun _ => none
  | n2 + 1, v1, v2, K2_37 => ncl (nRF 17) (fun x_1 => (if x_1 ≤ v2 then K2_37 v1 v2 else ncl (nGT 21 148 v2) (fun x_6 => ncl (nGT 25 148 x_6) (fun x_10 => (if v1 < x_10 then nli (v2 + 1) (fun x_15 => xl_X6_firstThatMay_2 n2 v1 x_15 K2_37) else nrt v2)))))
def x_X6_firstThatMay (a0 : Int32) : NG Int32 := xl_X6_firstThatMay_2 fuel a0 0 (fun v1 v2 => nrt (-1))
set_option maxHeartbeats 4000000 in
set_option maxRecDepth 100000 in
theorem n_X6_firstThatMay (l : Launch) (G : gG) (Z : gC) (Q : Nat → Nat) (D : Nat × Nat) (T : va_W) (u u1 : MS) (r : Int32) (a0 : Int32) (sz : Nat) (hF : x_X6_firstThatMay a0 u = some (r, u1)) : Met l yX6_firstThatMay (Cond.code yX6_firstThatMay cX6_firstThatMay 3 (some .int) :: wK) { frames := 1, cells := 0, slots := 0, locals := 22 } (va_Pc [.ref (Q 9), .int a0] (cPM G Z Q D T u sz)) (cQi G Q T u1 r (va_A (cW G Q D T u) sz)) 0 0 (va_A (cW G Q D T u) sz) := by
  refine Met.ofW (cc := cX6_firstThatMay) (maxL := 3) (ret := (some .int)) (by decide) rfl ?_
  intro p e s m args below meth c s₁ B hml hv
  obtain ⟨rfl, rfl, hP, hB, hD0, hE⟩ := hv
  have hr := B.returns
  have hlocks := B.notSynchronized
  have hts := atoms_spec (ws := Cond.code yX6_firstThatMay cX6_firstThatMay 3 (some .int) :: wK) B.pre
  have hD := hD0.self (sz := s.heap.size)
  have hA : ∀ q : Nat, s.heap.size ≤ q → va_A (cW G Q D T u) s.heap.size q := fun q h => Or.inr h
  generalize va_A (cW G Q D T u) s.heap.size = A at hD hA hE ⊢
  have hC : cX p c cX6_firstThatMay 3 s m _ RX6 G Z A := ⟨B.exec, B.bytes, hml, findClass_of_methodNamed B.named, fun w h => hts w (List.mem_cons_of_mem _ h), hB, hE, hA⟩
  have hx := hC.1
  have hb := hC.2.1
  have hH : cH G Q D T A u s s.heap [] := ⟨hP, hD, va_S.rf⟩
  have hl := lv_entry ([.ref (Q 9), .int a0]) (n := 3) (Nat.le_of_ble_eq_true rfl)
  rw [lg_entry_eq]
  generalize (lg_sl ([.ref (Q 9), .int a0]) ++ List.replicate (3 - (lg_sl ([.ref (Q 9), .int a0])).length) Slot.unset).toArray = ls at hl ⊢
  have hl : lv_has ls 3 [(0, .ref (Q 9)), (1, .int a0)] := hl
  unfold x_X6_firstThatMay at hF
  refine lv_iconst (v := 0) hx hb dX6_firstThatMay_0 (by decide) ?_
  refine lv_istore_n (lv' := [(2, .int 0), (0, .ref (Q 9)), (1, .int a0)]) hx hb dX6_firstThatMay_1 rfl hl (by decide) rfl (fun ls hl => ?_)
  have hL2 : ∀ (K2_37 : Int32 → Int32 → NG Int32), (∀ (v1 v2 : Int32) (u : MS) (D : Nat × Nat) (H : Heap) (locs : List Loc) (ls : Array Slot), lv_has ls 3 [(0, .ref (Q 9)), (1, .int v1), (2, .int v2)] → cH G Q D T A u s H locs → K2_37 v1 v2 u = some (r, u1) → W p l e (headSpec (Cond.code yX6_firstThatMay cX6_firstThatMay 3 (some .int) :: wK) { frames := 1, cells := 0, slots := 0, locals := 22 }).room s m [.ref (Q 9), .int a0].toArray below meth c H locs 0 0 (MQ below (cQi G Q T u1 r A) [.ref (Q 9), .int a0].toArray s 0 0 A) (F0 m 37 ls [])) → ∀ (n2 : Nat) (v1 v2 : Int32) (u : MS) (D : Nat × Nat) (H : Heap) (locs : List Loc) (ls : Array Slot), lv_has ls 3 [(0, .ref (Q 9)), (1, .int v1), (2, .int v2)] → cH G Q D T A u s H locs → xl_X6_firstThatMay_2 n2 v1 v2 K2_37 u = some (r, u1) → W p l e (headSpec (Cond.code yX6_firstThatMay cX6_firstThatMay 3 (some .int) :: wK) { frames := 1, cells := 0, slots := 0, locals := 22 }).room s m [.ref (Q 9), .int a0].toArray below meth c H locs 0 0 (MQ below (cQi G Q T u1 r A) [.ref (Q 9), .int a0].toArray s 0 0 A) (F0 m 2 ls []) := by
    intro K2_37 hK2_37 n2
    induction n2 with
    | zero => intro v1 v2 u D H locs ls hl hH hF; cases hF
    | succ n2 ih2 =>
      intro v1 v2 u D H locs ls hl hH hF
      unfold xl_X6_firstThatMay_2 at hF
      refine lv_iload_n hx hb dX6_firstThatMay_2 rfl (lv_at hl 2 rfl) ?_
      refine lv_aload_n hx hb dX6_firstThatMay_3 rfl (lv_at hl 0 rfl) ?_
      refine cg_X6_84 hC hH dX6_firstThatMay_4 ?_
      obtain ⟨x_1, u_2, h_3, hF⟩ := ncl_some hF
      obtain ⟨e_4, rfl⟩ := nRF_eq h_3
      refine gx_ti e_4 ?_
      refine lv_icmp_ge (tgt := 37) hx hb dX6_firstThatMay_7 (by decide) (fun c_5 => ?_) (fun c_5 => ?_)
      · rw [if_pos c_5] at hF
        exact hK2_37 v1 v2 u _ _ _ _ (lv_sub hl [0, 1, 2] rfl) hH hF
      · rw [if_neg c_5] at hF
        refine lv_aload_n hx hb dX6_firstThatMay_10 rfl (lv_at hl 0 rfl) ?_
        refine cg_X6_39 hC hH dX6_firstThatMay_11 ?_
        refine lv_aload_n hx hb dX6_firstThatMay_14 rfl (lv_at hl 0 rfl) ?_
        refine cg_X6_26 hC hH dX6_firstThatMay_15 ?_
        refine lv_iload_n hx hb dX6_firstThatMay_18 rfl (lv_at hl 2 rfl) ?_
        refine rg_20 hC hH wka361 ⟨Nat.le_of_ble_eq_true rfl, Nat.le_of_ble_eq_true rfl⟩ hl.1 (Nat.le_of_ble_eq_true rfl) ⟨Nat.zero_le _, Nat.zero_le _⟩ dX6_firstThatMay_19 ?_
        obtain ⟨x_6, u_7, h_8, hF⟩ := ncl_some hF
        obtain ⟨e_9, rfl⟩ := nGT_eq h_8
        refine gx_ti e_9 ?_
        refine rg_24 hC hH wka361 ⟨Nat.le_of_ble_eq_true rfl, Nat.le_of_ble_eq_true rfl⟩ hl.1 (Nat.le_of_ble_eq_true rfl) ⟨Nat.zero_le _, Nat.zero_le _⟩ dX6_firstThatMay_22 ?_
        obtain ⟨x_10, u_11, h_12, hF⟩ := ncl_some hF
        obtain ⟨e_13, rfl⟩ := nGT_eq h_12
        refine gx_ti e_13 ?_
        refine lv_iload_n hx hb dX6_firstThatMay_25 rfl (lv_at hl 1 rfl) ?_
        refine lv_icmp_gt (tgt := 31) hx hb dX6_firstThatMay_26 (by decide) (fun c_14 => ?_) (fun c_14 => ?_)
        · rw [if_pos c_14] at hF
          obtain ⟨x_15, e_16, hF⟩ := nli_some hF
          refine lv_iinc (v := x_15) (lv' := [(2, .int x_15), (0, .ref (Q 9)), (1, .int v1)]) hx hb dX6_firstThatMay_31 hl (k := 2) rfl e_16 (by decide) rfl (fun ls hl => ?_)
          refine lv_goto (tgt := 2) hx hb dX6_firstThatMay_34 (by decide) ?_
          exact ih2 v1 x_15 u _ _ _ _ (lv_sub hl [1, 2, 0] rfl) hH hF
        · rw [if_neg c_14] at hF
          refine lv_iload_n hx hb dX6_firstThatMay_29 rfl (lv_at hl 2 rfl) ?_
          exact cr_i hC hH hr (nrt_eq hF) dX6_firstThatMay_30 hlocks
  refine hL2 _ (fun v1 v2 u D H locs ls hl hH hF => ?_) fuel a0 0 u _ _ _ _ (lv_sub hl [1, 2, 0] rfl) hH hF
  refine lv_iconst (v := (-1)) hx hb dX6_firstThatMay_37 (by decide) ?_
  exact cr_i hC hH hr (nrt_eq hF) dX6_firstThatMay_38 hlocks
def xl_X6_putFrom_2 : Nat → Int32 → Int32 → Int32 → (Int32 → Int32 → Int32 → NG Int32) → NG Int32
  | 0, _, _, _, _ => fun _ => none
  | n2 + 1, v1, v2, v3, K2_85 => (if v1 ≤ v3 then K2_85 v1 v2 v3 else ncl (nGT 23 4 v3) (fun x_2 => (if v2 < x_2 then (if (-1 : Int32) = (-1) then nli (v3 + 1) (fun x_8 => xl_X6_putFrom_2 n2 v1 v2 x_8 K2_85) else ncl (nGT 21 148 (-1)) (fun x_10 => nli (x_10 / 37) (fun x_14 => ncl (x_X6_put x_14 (x_10 - x_10 / 37 * 37) v3 v2) (fun r_16 => ncl (x_X6_takeOutOfOrder (-1)) (fun r_19 => ncl (x_X6_findEarliest x_14) (fun r_22 => nli (v3 + 1) (fun x_25 => xl_X6_putFrom_2 n2 v1 v2 x_25 K2_85))))))) else ncl (x_X6_firstThatMay v2) (fun r_27 => (if r_27 = (-1) then nli (v3 + 1) (fun x_31 => xl_X6_putFrom_2 n2 v1 v2 x_31 K2_85) else ncl (nGT 21 148 r_27) (fun x_33 => nli (x_33 / 37) (fun x_37 => ncl (x_X6_put x_37 (x_33 - x_33 / 37 * 37) v3 v2) (fun r_39 => ncl (x_X6_takeOutOfOrder r_27) (fun r_42 => ncl (x_X6_findEarliest x_37) (fun r_45 => nli (v3 + 1) (fun x_48 => xl_X6_putFrom_2 n2 v1 v2 x_48 K2_85)))))))))))
def x_X6_putFrom (a0 : Int32) (a1 : Int32) : NG Int32 := xl_X6_putFrom_2 fuel a0 a1 0 (fun v1 v2 v3 => nrt 0)
set_option maxHeartbeats 4000000 in
set_option maxRecDepth 100000 in
theorem n_X6_putFrom (l : Launch) (G : gG) (Z : gC) (Q : Nat → Nat) (D : Nat × Nat) (T : va_W) (u u1 : MS) (r : Int32) (a0 : Int32) (a1 : Int32) (sz : Nat) (hF : x_X6_putFrom a0 a1 u = some (r, u1)) : Met l yX6_putFrom (Cond.code yX6_putFrom cX6_putFrom 7 none :: wK) { frames := 4, cells := 0, slots := 0, locals := 93 } (va_Pc [.ref (Q 9), .int a0, .int a1] (cPM G Z Q D T u sz)) (cQv G Q T u1 (va_A (cW G Q D T u) sz)) 0 0 (va_A (cW G Q D T u) sz) := by
  refine Met.ofW (cc := cX6_putFrom) (maxL := 7) (ret := none) (by decide) rfl ?_
  intro p e s m args below meth c s₁ B hml hv
  obtain ⟨rfl, rfl, hP, hB, hD0, hE⟩ := hv
  have hr := B.returns
  have hlocks := B.notSynchronized
  have hts := atoms_spec (ws := Cond.code yX6_putFrom cX6_putFrom 7 none :: wK) B.pre
  have hD := hD0.self (sz := s.heap.size)
  have hA : ∀ q : Nat, s.heap.size ≤ q → va_A (cW G Q D T u) s.heap.size q := fun q h => Or.inr h
  generalize va_A (cW G Q D T u) s.heap.size = A at hD hA hE ⊢
  have hC : cX p c cX6_putFrom 7 s m _ RX6 G Z A := ⟨B.exec, B.bytes, hml, findClass_of_methodNamed B.named, fun w h => hts w (List.mem_cons_of_mem _ h), hB, hE, hA⟩
  have hx := hC.1
  have hb := hC.2.1
  have hH : cH G Q D T A u s s.heap [] := ⟨hP, hD, va_S.rf⟩
  have hl := lv_entry ([.ref (Q 9), .int a0, .int a1]) (n := 7) (Nat.le_of_ble_eq_true rfl)
  rw [lg_entry_eq]
  generalize (lg_sl ([.ref (Q 9), .int a0, .int a1]) ++ List.replicate (7 - (lg_sl ([.ref (Q 9), .int a0, .int a1])).length) Slot.unset).toArray = ls at hl ⊢
  have hl : lv_has ls 7 [(0, .ref (Q 9)), (1, .int a0), (2, .int a1)] := hl
  unfold x_X6_putFrom at hF
  refine lv_iconst (v := 0) hx hb dX6_putFrom_0 (by decide) ?_
  refine lv_istore_n (lv' := [(3, .int 0), (0, .ref (Q 9)), (1, .int a0), (2, .int a1)]) hx hb dX6_putFrom_1 rfl hl (by decide) rfl (fun ls hl => ?_)
  have hL2 : ∀ (K2_85 : Int32 → Int32 → Int32 → NG Int32), (∀ (v1 v2 v3 : Int32) (u : MS) (D : Nat × Nat) (H : Heap) (locs : List Loc) (ls : Array Slot), lv_has ls 7 [(0, .ref (Q 9)), (1, .int v1), (2, .int v2), (3, .int v3)] → cH G Q D T A u s H locs → K2_85 v1 v2 v3 u = some (r, u1) → W p l e (headSpec (Cond.code yX6_putFrom cX6_putFrom 7 none :: wK) { frames := 4, cells := 0, slots := 0, locals := 93 }).room s m [.ref (Q 9), .int a0, .int a1].toArray below meth c H locs 0 0 (MQ below (cQv G Q T u1 A) [.ref (Q 9), .int a0, .int a1].toArray s 0 0 A) (F0 m 85 ls [])) → ∀ (n2 : Nat) (v1 v2 v3 : Int32) (u : MS) (D : Nat × Nat) (H : Heap) (locs : List Loc) (ls : Array Slot), lv_has ls 7 [(0, .ref (Q 9)), (1, .int v1), (2, .int v2), (3, .int v3)] → cH G Q D T A u s H locs → xl_X6_putFrom_2 n2 v1 v2 v3 K2_85 u = some (r, u1) → W p l e (headSpec (Cond.code yX6_putFrom cX6_putFrom 7 none :: wK) { frames := 4, cells := 0, slots := 0, locals := 93 }).room s m [.ref (Q 9), .int a0, .int a1].toArray below meth c H locs 0 0 (MQ below (cQv G Q T u1 A) [.ref (Q 9), .int a0, .int a1].toArray s 0 0 A) (F0 m 2 ls []) := by
    intro K2_85 hK2_85 n2
    induction n2 with
    | zero => intro v1 v2 v3 u D H locs ls hl hH hF; cases hF
    | succ n2 ih2 =>
      intro v1 v2 v3 u D H locs ls hl hH hF
      unfold xl_X6_putFrom_2 at hF
      refine lv_iload_n hx hb dX6_putFrom_2 rfl (lv_at hl 3 rfl) ?_
      refine lv_iload_n hx hb dX6_putFrom_3 rfl (lv_at hl 1 rfl) ?_
      refine lv_icmp_ge (tgt := 85) hx hb dX6_putFrom_4 (by decide) (fun c_1 => ?_) (fun c_1 => ?_)
      · rw [if_pos c_1] at hF
        exact hK2_85 v1 v2 v3 u _ _ _ _ (lv_sub hl [0, 1, 2, 3] rfl) hH hF
      · rw [if_neg c_1] at hF
        refine lv_aload_n hx hb dX6_putFrom_7 rfl (lv_at hl 0 rfl) ?_
        refine cg_X6_33 hC hH dX6_putFrom_8 ?_
        refine lv_iload_n hx hb dX6_putFrom_11 rfl (lv_at hl 3 rfl) ?_
        refine rg_22 hC hH wka361 ⟨Nat.le_of_ble_eq_true rfl, Nat.le_of_ble_eq_true rfl⟩ hl.1 (Nat.le_of_ble_eq_true rfl) ⟨Nat.zero_le _, Nat.zero_le _⟩ dX6_putFrom_12 ?_
        obtain ⟨x_2, u_3, h_4, hF⟩ := ncl_some hF
        obtain ⟨e_5, rfl⟩ := nGT_eq h_4
        refine gx_ti e_5 ?_
        refine lv_iload_n hx hb dX6_putFrom_15 rfl (lv_at hl 2 rfl) ?_
        refine lv_icmp_gt (tgt := 27) hx hb dX6_putFrom_16 (by decide) (fun c_6 => ?_) (fun c_6 => ?_)
        · rw [if_pos c_6] at hF
          refine lv_iconst (v := (-1)) hx hb dX6_putFrom_27 (by decide) ?_
          refine lv_istore (lv' := [(4, .int (-1)), (0, .ref (Q 9)), (1, .int v1), (2, .int v2), (3, .int v3)]) hx hb dX6_putFrom_28 hl (by decide) rfl (fun ls hl => ?_)
          refine lv_iload hx hb dX6_putFrom_30 (lv_at hl 0 rfl) ?_
          refine lv_iconst (v := (-1)) hx hb dX6_putFrom_32 (by decide) ?_
          refine lv_icmp_eq (tgt := 79) hx hb dX6_putFrom_33 (by decide) (fun c_7 => ?_) (fun c_7 => ?_)
          · rw [if_pos c_7] at hF
            obtain ⟨x_8, e_9, hF⟩ := nli_some hF
            refine lv_iinc (v := x_8) (lv' := [(3, .int x_8), (4, .int (-1)), (0, .ref (Q 9)), (1, .int v1), (2, .int v2)]) hx hb dX6_putFrom_79 hl (k := 4) rfl e_9 (by decide) rfl (fun ls hl => ?_)
            refine lv_goto (tgt := 2) hx hb dX6_putFrom_82 (by decide) ?_
            exact ih2 v1 v2 x_8 u _ _ _ _ (lv_sub hl [2, 3, 4, 0] rfl) hH hF
          · rw [if_neg c_7] at hF
            refine lv_aload_n hx hb dX6_putFrom_36 rfl (lv_at hl 1 rfl) ?_
            refine cg_X6_26 hC hH dX6_putFrom_37 ?_
            refine lv_iload hx hb dX6_putFrom_40 (lv_at hl 0 rfl) ?_
            refine rg_20 hC hH wka361 ⟨Nat.le_of_ble_eq_true rfl, Nat.le_of_ble_eq_true rfl⟩ hl.1 (Nat.le_of_ble_eq_true rfl) ⟨Nat.zero_le _, Nat.zero_le _⟩ dX6_putFrom_42 ?_
            obtain ⟨x_10, u_11, h_12, hF⟩ := ncl_some hF
            obtain ⟨e_13, rfl⟩ := nGT_eq h_12
            refine gx_ti e_13 ?_
            refine lv_istore (lv' := [(5, .int x_10), (4, .int (-1)), (0, .ref (Q 9)), (1, .int v1), (2, .int v2), (3, .int v3)]) hx hb dX6_putFrom_45 hl (by decide) rfl (fun ls hl => ?_)
            refine lv_iload hx hb dX6_putFrom_47 (lv_at hl 0 rfl) ?_
            refine lv_bipush (v := 37) hx hb dX6_putFrom_49 (by decide) ?_
            refine lv_idiv hx hb dX6_putFrom_51 (by decide) ?_
            obtain ⟨x_14, e_15, hF⟩ := nli_some hF
            refine gx_ti e_15 ?_
            refine lv_istore (lv' := [(6, .int x_14), (5, .int x_10), (4, .int (-1)), (0, .ref (Q 9)), (1, .int v1), (2, .int v2), (3, .int v3)]) hx hb dX6_putFrom_52 hl (by decide) rfl (fun ls hl => ?_)
            refine lv_aload_n hx hb dX6_putFrom_54 rfl (lv_at hl 3 rfl) ?_
            refine lv_iload hx hb dX6_putFrom_55 (lv_at hl 0 rfl) ?_
            refine lv_iload hx hb dX6_putFrom_57 (lv_at hl 1 rfl) ?_
            refine lv_bipush (v := 37) hx hb dX6_putFrom_59 (by decide) ?_
            refine lv_irem hx hb dX6_putFrom_61 (by decide) ?_
            refine lv_iload_n hx hb dX6_putFrom_62 rfl (lv_at hl 6 rfl) ?_
            refine lv_iload_n hx hb dX6_putFrom_63 rfl (lv_at hl 5 rfl) ?_
            obtain ⟨r_16, u_17, h_18, hF⟩ := ncl_some hF
            refine ccV_v (q0 := 9) (As := [.int x_14, .int (x_10 - x_10 / 37 * 37), .int v3, .int v2]) (rest := []) hC hH (n_X6_put l G Z Q _ T u u_17 r_16 x_14 (x_10 - x_10 / 37 * 37) v3 v2 _ h_18) rfl rfl ⟨wkc_X6_put, wka357, wka586, wka587, wka750⟩ kVX6_put ⟨Nat.le_of_ble_eq_true rfl, Nat.le_of_ble_eq_true rfl⟩ rfl hl.1 rfl (Nat.le_of_ble_eq_true rfl) dX6_putFrom_64 (fun D H locs hH => ?_)
            refine lv_aload_n hx hb dX6_putFrom_67 rfl (lv_at hl 3 rfl) ?_
            refine lv_iload hx hb dX6_putFrom_68 (lv_at hl 2 rfl) ?_
            obtain ⟨r_19, u_20, h_21, hF⟩ := ncl_some hF
            refine ccV_v (q0 := 9) (As := [.int (-1)]) (rest := []) hC hH (n_X6_takeOutOfOrder l G Z Q _ T u_17 u_20 r_19 (-1) _ h_21) rfl rfl ⟨wkc_X6_takeOutOfOrder, wka377, wka598, wka599, wka750⟩ kVX6_takeOutOfOrder ⟨Nat.le_of_ble_eq_true rfl, Nat.le_of_ble_eq_true rfl⟩ rfl hl.1 rfl (Nat.le_of_ble_eq_true rfl) dX6_putFrom_70 (fun D H locs hH => ?_)
            refine lv_aload_n hx hb dX6_putFrom_73 rfl (lv_at hl 3 rfl) ?_
            refine lv_iload hx hb dX6_putFrom_74 (lv_at hl 0 rfl) ?_
            obtain ⟨r_22, u_23, h_24, hF⟩ := ncl_some hF
            refine ccV_v (q0 := 9) (As := [.int x_14]) (rest := []) hC hH (n_X6_findEarliest l G Z Q _ T u_20 u_23 r_22 x_14 _ h_24) rfl rfl ⟨wkc_X6_findEarliest, wka370, wka604, wka605, wka750⟩ kVX6_findEarliest ⟨Nat.le_of_ble_eq_true rfl, Nat.le_of_ble_eq_true rfl⟩ rfl hl.1 rfl (Nat.le_of_ble_eq_true rfl) dX6_putFrom_76 (fun D H locs hH => ?_)
            obtain ⟨x_25, e_26, hF⟩ := nli_some hF
            refine lv_iinc (v := x_25) (lv' := [(3, .int x_25), (6, .int x_14), (5, .int x_10), (4, .int (-1)), (0, .ref (Q 9)), (1, .int v1), (2, .int v2)]) hx hb dX6_putFrom_79 hl (k := 6) rfl e_26 (by decide) rfl (fun ls hl => ?_)
            refine lv_goto (tgt := 2) hx hb dX6_putFrom_82 (by decide) ?_
            exact ih2 v1 v2 x_25 u_23 _ _ _ _ (lv_sub hl [4, 5, 6, 0] rfl) hH hF
        · rw [if_neg c_6] at hF
          refine lv_aload_n hx hb dX6_putFrom_19 rfl (lv_at hl 0 rfl) ?_
          refine lv_iload_n hx hb dX6_putFrom_20 rfl (lv_at hl 2 rfl) ?_
          obtain ⟨r_27, u_28, h_29, hF⟩ := ncl_some hF
          refine ccV_i (q0 := 9) (As := [.int v2]) (rest := []) hC hH (n_X6_firstThatMay l G Z Q _ T u u_28 r_27 v2 _ h_29) rfl rfl ⟨wkc_X6_firstThatMay, wka376, wka596, wka597, wka750⟩ kVX6_firstThatMay ⟨Nat.le_of_ble_eq_true rfl, Nat.le_of_ble_eq_true rfl⟩ rfl hl.1 rfl (Nat.le_of_ble_eq_true rfl) dX6_putFrom_21 (fun D H locs hH => ?_)
          refine lv_goto (tgt := 28) hx hb dX6_putFrom_24 (by decide) ?_
          refine lv_istore (lv' := [(4, .int r_27), (0, .ref (Q 9)), (1, .int v1), (2, .int v2), (3, .int v3)]) hx hb dX6_putFrom_28 hl (by decide) rfl (fun ls hl => ?_)
          refine lv_iload hx hb dX6_putFrom_30 (lv_at hl 0 rfl) ?_
          refine lv_iconst (v := (-1)) hx hb dX6_putFrom_32 (by decide) ?_
          refine lv_icmp_eq (tgt := 79) hx hb dX6_putFrom_33 (by decide) (fun c_30 => ?_) (fun c_30 => ?_)
          · rw [if_pos c_30] at hF
            obtain ⟨x_31, e_32, hF⟩ := nli_some hF
            refine lv_iinc (v := x_31) (lv' := [(3, .int x_31), (4, .int r_27), (0, .ref (Q 9)), (1, .int v1), (2, .int v2)]) hx hb dX6_putFrom_79 hl (k := 4) rfl e_32 (by decide) rfl (fun ls hl => ?_)
            refine lv_goto (tgt := 2) hx hb dX6_putFrom_82 (by decide) ?_
            exact ih2 v1 v2 x_31 u_28 _ _ _ _ (lv_sub hl [2, 3, 4, 0] rfl) hH hF
          · rw [if_neg c_30] at hF
            refine lv_aload_n hx hb dX6_putFrom_36 rfl (lv_at hl 1 rfl) ?_
            refine cg_X6_26 hC hH dX6_putFrom_37 ?_
            refine lv_iload hx hb dX6_putFrom_40 (lv_at hl 0 rfl) ?_
            refine rg_20 hC hH wka361 ⟨Nat.le_of_ble_eq_true rfl, Nat.le_of_ble_eq_true rfl⟩ hl.1 (Nat.le_of_ble_eq_true rfl) ⟨Nat.zero_le _, Nat.zero_le _⟩ dX6_putFrom_42 ?_
            obtain ⟨x_33, u_34, h_35, hF⟩ := ncl_some hF
            obtain ⟨e_36, rfl⟩ := nGT_eq h_35
            refine gx_ti e_36 ?_
            refine lv_istore (lv' := [(5, .int x_33), (4, .int r_27), (0, .ref (Q 9)), (1, .int v1), (2, .int v2), (3, .int v3)]) hx hb dX6_putFrom_45 hl (by decide) rfl (fun ls hl => ?_)
            refine lv_iload hx hb dX6_putFrom_47 (lv_at hl 0 rfl) ?_
            refine lv_bipush (v := 37) hx hb dX6_putFrom_49 (by decide) ?_
            refine lv_idiv hx hb dX6_putFrom_51 (by decide) ?_
            obtain ⟨x_37, e_38, hF⟩ := nli_some hF
            refine gx_ti e_38 ?_
            refine lv_istore (lv' := [(6, .int x_37), (5, .int x_33), (4, .int r_27), (0, .ref (Q 9)), (1, .int v1), (2, .int v2), (3, .int v3)]) hx hb dX6_putFrom_52 hl (by decide) rfl (fun ls hl => ?_)
            refine lv_aload_n hx hb dX6_putFrom_54 rfl (lv_at hl 3 rfl) ?_
            refine lv_iload hx hb dX6_putFrom_55 (lv_at hl 0 rfl) ?_
            refine lv_iload hx hb dX6_putFrom_57 (lv_at hl 1 rfl) ?_
            refine lv_bipush (v := 37) hx hb dX6_putFrom_59 (by decide) ?_
            refine lv_irem hx hb dX6_putFrom_61 (by decide) ?_
            refine lv_iload_n hx hb dX6_putFrom_62 rfl (lv_at hl 6 rfl) ?_
            refine lv_iload_n hx hb dX6_putFrom_63 rfl (lv_at hl 5 rfl) ?_
            obtain ⟨r_39, u_40, h_41, hF⟩ := ncl_some hF
            refine ccV_v (q0 := 9) (As := [.int x_37, .int (x_33 - x_33 / 37 * 37), .int v3, .int v2]) (rest := []) hC hH (n_X6_put l G Z Q _ T u_28 u_40 r_39 x_37 (x_33 - x_33 / 37 * 37) v3 v2 _ h_41) rfl rfl ⟨wkc_X6_put, wka357, wka586, wka587, wka750⟩ kVX6_put ⟨Nat.le_of_ble_eq_true rfl, Nat.le_of_ble_eq_true rfl⟩ rfl hl.1 rfl (Nat.le_of_ble_eq_true rfl) dX6_putFrom_64 (fun D H locs hH => ?_)
            refine lv_aload_n hx hb dX6_putFrom_67 rfl (lv_at hl 3 rfl) ?_
            refine lv_iload hx hb dX6_putFrom_68 (lv_at hl 2 rfl) ?_
            obtain ⟨r_42, u_43, h_44, hF⟩ := ncl_some hF
            refine ccV_v (q0 := 9) (As := [.int r_27]) (rest := []) hC hH (n_X6_takeOutOfOrder l G Z Q _ T u_40 u_43 r_42 r_27 _ h_44) rfl rfl ⟨wkc_X6_takeOutOfOrder, wka377, wka598, wka599, wka750⟩ kVX6_takeOutOfOrder ⟨Nat.le_of_ble_eq_true rfl, Nat.le_of_ble_eq_true rfl⟩ rfl hl.1 rfl (Nat.le_of_ble_eq_true rfl) dX6_putFrom_70 (fun D H locs hH => ?_)
            refine lv_aload_n hx hb dX6_putFrom_73 rfl (lv_at hl 3 rfl) ?_
            refine lv_iload hx hb dX6_putFrom_74 (lv_at hl 0 rfl) ?_
            obtain ⟨r_45, u_46, h_47, hF⟩ := ncl_some hF
            refine ccV_v (q0 := 9) (As := [.int x_37]) (rest := []) hC hH (n_X6_findEarliest l G Z Q _ T u_43 u_46 r_45 x_37 _ h_47) rfl rfl ⟨wkc_X6_findEarliest, wka370, wka604, wka605, wka750⟩ kVX6_findEarliest ⟨Nat.le_of_ble_eq_true rfl, Nat.le_of_ble_eq_true rfl⟩ rfl hl.1 rfl (Nat.le_of_ble_eq_true rfl) dX6_putFrom_76 (fun D H locs hH => ?_)
            obtain ⟨x_48, e_49, hF⟩ := nli_some hF
            refine lv_iinc (v := x_48) (lv' := [(3, .int x_48), (6, .int x_37), (5, .int x_33), (4, .int r_27), (0, .ref (Q 9)), (1, .int v1), (2, .int v2)]) hx hb dX6_putFrom_79 hl (k := 6) rfl e_49 (by decide) rfl (fun ls hl => ?_)
            refine lv_goto (tgt := 2) hx hb dX6_putFrom_82 (by decide) ?_
            exact ih2 v1 v2 x_48 u_46 _ _ _ _ (lv_sub hl [4, 5, 6, 0] rfl) hH hF
  refine hL2 _ (fun v1 v2 v3 u D H locs ls hl hH hF => ?_) fuel a0 a1 0 u _ _ _ _ (lv_sub hl [1, 2, 3, 0] rfl) hH hF
  exact cr_v hC hH hr (nrt_eq hF) dX6_putFrom_85 hlocks
def xl_X6_soonestMat_5 : Nat → Int32 → Int32 → Int32 → (Int32 → Int32 → Int32 → NG Int32) → NG Int32
  | 0, _, _, _, _ => fun _ => none
  | n5 + 1, v1, v2, v3, K5_29 => (if v1 ≤ v3 then K5_29 v1 v2 v3 else ncl (nGT 23 4 v3) (fun x_2 => nli (if x_2 < v2 then x_2 else v2) (fun x_6 => nli (v3 + 1) (fun x_8 => xl_X6_soonestMat_5 n5 v1 x_6 x_8 K5_29))))
def x_X6_soonestMat (a0 : Int32) : NG Int32 := xl_X6_soonestMat_5 fuel a0 1000000 0 (fun v1 v2 v3 => nrt v2)
set_option maxHeartbeats 4000000 in
set_option maxRecDepth 100000 in
theorem n_X6_soonestMat (l : Launch) (G : gG) (Z : gC) (Q : Nat → Nat) (D : Nat × Nat) (T : va_W) (u u1 : MS) (r : Int32) (a0 : Int32) (sz : Nat) (hF : x_X6_soonestMat a0 u = some (r, u1)) : Met l yX6_soonestMat (Cond.code yX6_soonestMat cX6_soonestMat 4 (some .int) :: wK) { frames := 1, cells := 0, slots := 0, locals := 22 } (va_Pc [.ref (Q 9), .int a0] (cPM G Z Q D T u sz)) (cQi G Q T u1 r (va_A (cW G Q D T u) sz)) 0 0 (va_A (cW G Q D T u) sz) := by
  refine Met.ofW (cc := cX6_soonestMat) (maxL := 4) (ret := (some .int)) (by decide) rfl ?_
  intro p e s m args below meth c s₁ B hml hv
  obtain ⟨rfl, rfl, hP, hB, hD0, hE⟩ := hv
  have hr := B.returns
  have hlocks := B.notSynchronized
  have hts := atoms_spec (ws := Cond.code yX6_soonestMat cX6_soonestMat 4 (some .int) :: wK) B.pre
  have hD := hD0.self (sz := s.heap.size)
  have hA : ∀ q : Nat, s.heap.size ≤ q → va_A (cW G Q D T u) s.heap.size q := fun q h => Or.inr h
  generalize va_A (cW G Q D T u) s.heap.size = A at hD hA hE ⊢
  have hC : cX p c cX6_soonestMat 4 s m _ RX6 G Z A := ⟨B.exec, B.bytes, hml, findClass_of_methodNamed B.named, fun w h => hts w (List.mem_cons_of_mem _ h), hB, hE, hA⟩
  have hx := hC.1
  have hb := hC.2.1
  have hH : cH G Q D T A u s s.heap [] := ⟨hP, hD, va_S.rf⟩
  have hl := lv_entry ([.ref (Q 9), .int a0]) (n := 4) (Nat.le_of_ble_eq_true rfl)
  rw [lg_entry_eq]
  generalize (lg_sl ([.ref (Q 9), .int a0]) ++ List.replicate (4 - (lg_sl ([.ref (Q 9), .int a0])).length) Slot.unset).toArray = ls at hl ⊢
  have hl : lv_has ls 4 [(0, .ref (Q 9)), (1, .int a0)] := hl
  unfold x_X6_soonestMat at hF
  refine lv_ldc (v := 1000000) hx hb hC.2.2.2.1 (hC.2.2.2.2.1 _ wka374) dX6_soonestMat_0 ?_
  refine lv_istore_n (lv' := [(2, .int 1000000), (0, .ref (Q 9)), (1, .int a0)]) hx hb dX6_soonestMat_2 rfl hl (by decide) rfl (fun ls hl => ?_)
  refine lv_iconst (v := 0) hx hb dX6_soonestMat_3 (by decide) ?_
  refine lv_istore_n (lv' := [(3, .int 0), (2, .int 1000000), (0, .ref (Q 9)), (1, .int a0)]) hx hb dX6_soonestMat_4 rfl hl (by decide) rfl (fun ls hl => ?_)
  have hL5 : ∀ (K5_29 : Int32 → Int32 → Int32 → NG Int32), (∀ (v1 v2 v3 : Int32) (u : MS) (D : Nat × Nat) (H : Heap) (locs : List Loc) (ls : Array Slot), lv_has ls 4 [(0, .ref (Q 9)), (1, .int v1), (2, .int v2), (3, .int v3)] → cH G Q D T A u s H locs → K5_29 v1 v2 v3 u = some (r, u1) → W p l e (headSpec (Cond.code yX6_soonestMat cX6_soonestMat 4 (some .int) :: wK) { frames := 1, cells := 0, slots := 0, locals := 22 }).room s m [.ref (Q 9), .int a0].toArray below meth c H locs 0 0 (MQ below (cQi G Q T u1 r A) [.ref (Q 9), .int a0].toArray s 0 0 A) (F0 m 29 ls [])) → ∀ (n5 : Nat) (v1 v2 v3 : Int32) (u : MS) (D : Nat × Nat) (H : Heap) (locs : List Loc) (ls : Array Slot), lv_has ls 4 [(0, .ref (Q 9)), (1, .int v1), (2, .int v2), (3, .int v3)] → cH G Q D T A u s H locs → xl_X6_soonestMat_5 n5 v1 v2 v3 K5_29 u = some (r, u1) → W p l e (headSpec (Cond.code yX6_soonestMat cX6_soonestMat 4 (some .int) :: wK) { frames := 1, cells := 0, slots := 0, locals := 22 }).room s m [.ref (Q 9), .int a0].toArray below meth c H locs 0 0 (MQ below (cQi G Q T u1 r A) [.ref (Q 9), .int a0].toArray s 0 0 A) (F0 m 5 ls []) := by
    intro K5_29 hK5_29 n5
    induction n5 with
    | zero => intro v1 v2 v3 u D H locs ls hl hH hF; cases hF
    | succ n5 ih5 =>
      intro v1 v2 v3 u D H locs ls hl hH hF
      unfold xl_X6_soonestMat_5 at hF
      refine lv_iload_n hx hb dX6_soonestMat_5 rfl (lv_at hl 3 rfl) ?_
      refine lv_iload_n hx hb dX6_soonestMat_6 rfl (lv_at hl 1 rfl) ?_
      refine lv_icmp_ge (tgt := 29) hx hb dX6_soonestMat_7 (by decide) (fun c_1 => ?_) (fun c_1 => ?_)
      · rw [if_pos c_1] at hF
        exact hK5_29 v1 v2 v3 u _ _ _ _ (lv_sub hl [0, 1, 2, 3] rfl) hH hF
      · rw [if_neg c_1] at hF
        refine lv_iload_n hx hb dX6_soonestMat_10 rfl (lv_at hl 2 rfl) ?_
        refine lv_aload_n hx hb dX6_soonestMat_11 rfl (lv_at hl 0 rfl) ?_
        refine cg_X6_33 hC hH dX6_soonestMat_12 ?_
        refine lv_iload_n hx hb dX6_soonestMat_15 rfl (lv_at hl 3 rfl) ?_
        refine rg_22 hC hH wka361 ⟨Nat.le_of_ble_eq_true rfl, Nat.le_of_ble_eq_true rfl⟩ hl.1 (Nat.le_of_ble_eq_true rfl) ⟨Nat.zero_le _, Nat.zero_le _⟩ dX6_soonestMat_16 ?_
        obtain ⟨x_2, u_3, h_4, hF⟩ := ncl_some hF
        obtain ⟨e_5, rfl⟩ := nGT_eq h_4
        refine gx_ti e_5 ?_
        refine va_mmin hx hb (hC.2.2.1.trans hl.1.symm) hC.2.2.2.1 (hC.2.2.2.2.1 _ wka379) (hC.2.2.2.2.1 _ wka758) (hC.2.2.2.2.1 _ wka760) (hC.2.2.2.2.1 _ wka759) (Nat.le_of_ble_eq_true rfl) (Nat.le_of_ble_eq_true rfl) (Nat.le_of_ble_eq_true rfl) (Nat.le_of_ble_eq_true rfl) dX6_soonestMat_19 ?_
        obtain ⟨x_6, e_7, hF⟩ := nli_some hF
        refine gx_ti e_7 ?_
        refine lv_istore_n (lv' := [(2, .int x_6), (0, .ref (Q 9)), (1, .int v1), (3, .int v3)]) hx hb dX6_soonestMat_22 rfl hl (by decide) rfl (fun ls hl => ?_)
        obtain ⟨x_8, e_9, hF⟩ := nli_some hF
        refine lv_iinc (v := x_8) (lv' := [(3, .int x_8), (2, .int x_6), (0, .ref (Q 9)), (1, .int v1)]) hx hb dX6_soonestMat_23 hl (k := 3) rfl e_9 (by decide) rfl (fun ls hl => ?_)
        refine lv_goto (tgt := 5) hx hb dX6_soonestMat_26 (by decide) ?_
        exact ih5 v1 x_6 x_8 u _ _ _ _ (lv_sub hl [2, 3, 1, 0] rfl) hH hF
  refine hL5 _ (fun v1 v2 v3 u D H locs ls hl hH hF => ?_) fuel a0 1000000 0 u _ _ _ _ (lv_sub hl [2, 3, 1, 0] rfl) hH hF
  refine lv_iload_n hx hb dX6_soonestMat_29 rfl (lv_at hl 2 rfl) ?_
  exact cr_i hC hH hr (nrt_eq hF) dX6_soonestMat_30 hlocks
def xl_X6_soonestFight_5 : Nat → Int32 → Int32 → (Int32 → Int32 → NG Int32) → NG Int32
  | 0, _, _, _ => fun _ => none
  | n5 + 1, v1, v2, K5_39 => ncl (nRF 17) (fun x_1 => (if x_1 ≤ v2 then K5_39 v1 v2 else ncl (nGT 21 148 v2) (fun x_6 => ncl (nGT 25 148 x_6) (fun x_10 => nli (if x_10 < v1 then x_10 else v1) (fun x_14 => nli (v2 + 1) (fun x_16 => xl_X6_soonestFight_5 n5 x_14 x_16 K5_39))))))
def x_X6_soonestFight : NG Int32 := xl_X6_soonestFight_5 fuel 1000000 0 (fun v1 v2 => nrt v1)
set_option maxHeartbeats 4000000 in
set_option maxRecDepth 100000 in
theorem n_X6_soonestFight (l : Launch) (G : gG) (Z : gC) (Q : Nat → Nat) (D : Nat × Nat) (T : va_W) (u u1 : MS) (r : Int32) (sz : Nat) (hF : x_X6_soonestFight u = some (r, u1)) : Met l yX6_soonestFight (Cond.code yX6_soonestFight cX6_soonestFight 3 (some .int) :: wK) { frames := 1, cells := 0, slots := 0, locals := 22 } (va_Pc [.ref (Q 9)] (cPM G Z Q D T u sz)) (cQi G Q T u1 r (va_A (cW G Q D T u) sz)) 0 0 (va_A (cW G Q D T u) sz) := by
  refine Met.ofW (cc := cX6_soonestFight) (maxL := 3) (ret := (some .int)) (by decide) rfl ?_
  intro p e s m args below meth c s₁ B hml hv
  obtain ⟨rfl, rfl, hP, hB, hD0, hE⟩ := hv
  have hr := B.returns
  have hlocks := B.notSynchronized
  have hts := atoms_spec (ws := Cond.code yX6_soonestFight cX6_soonestFight 3 (some .int) :: wK) B.pre
  have hD := hD0.self (sz := s.heap.size)
  have hA : ∀ q : Nat, s.heap.size ≤ q → va_A (cW G Q D T u) s.heap.size q := fun q h => Or.inr h
  generalize va_A (cW G Q D T u) s.heap.size = A at hD hA hE ⊢
  have hC : cX p c cX6_soonestFight 3 s m _ RX6 G Z A := ⟨B.exec, B.bytes, hml, findClass_of_methodNamed B.named, fun w h => hts w (List.mem_cons_of_mem _ h), hB, hE, hA⟩
  have hx := hC.1
  have hb := hC.2.1
  have hH : cH G Q D T A u s s.heap [] := ⟨hP, hD, va_S.rf⟩
  have hl := lv_entry ([.ref (Q 9)]) (n := 3) (Nat.le_of_ble_eq_true rfl)
  rw [lg_entry_eq]
  generalize (lg_sl ([.ref (Q 9)]) ++ List.replicate (3 - (lg_sl ([.ref (Q 9)])).length) Slot.unset).toArray = ls at hl ⊢
  have hl : lv_has ls 3 [(0, .ref (Q 9))] := hl
  unfold x_X6_soonestFight at hF
  refine lv_ldc (v := 1000000) hx hb hC.2.2.2.1 (hC.2.2.2.2.1 _ wka374) dX6_soonestFight_0 ?_
  refine lv_istore_n (lv' := [(1, .int 1000000), (0, .ref (Q 9))]) hx hb dX6_soonestFight_2 rfl hl (by decide) rfl (fun ls hl => ?_)
  refine lv_iconst (v := 0) hx hb dX6_soonestFight_3 (by decide) ?_
  refine lv_istore_n (lv' := [(2, .int 0), (1, .int 1000000), (0, .ref (Q 9))]) hx hb dX6_soonestFight_4 rfl hl (by decide) rfl (fun ls hl => ?_)
  have hL5 : ∀ (K5_39 : Int32 → Int32 → NG Int32), (∀ (v1 v2 : Int32) (u : MS) (D : Nat × Nat) (H : Heap) (locs : List Loc) (ls : Array Slot), lv_has ls 3 [(0, .ref (Q 9)), (1, .int v1), (2, .int v2)] → cH G Q D T A u s H locs → K5_39 v1 v2 u = some (r, u1) → W p l e (headSpec (Cond.code yX6_soonestFight cX6_soonestFight 3 (some .int) :: wK) { frames := 1, cells := 0, slots := 0, locals := 22 }).room s m [.ref (Q 9)].toArray below meth c H locs 0 0 (MQ below (cQi G Q T u1 r A) [.ref (Q 9)].toArray s 0 0 A) (F0 m 39 ls [])) → ∀ (n5 : Nat) (v1 v2 : Int32) (u : MS) (D : Nat × Nat) (H : Heap) (locs : List Loc) (ls : Array Slot), lv_has ls 3 [(0, .ref (Q 9)), (1, .int v1), (2, .int v2)] → cH G Q D T A u s H locs → xl_X6_soonestFight_5 n5 v1 v2 K5_39 u = some (r, u1) → W p l e (headSpec (Cond.code yX6_soonestFight cX6_soonestFight 3 (some .int) :: wK) { frames := 1, cells := 0, slots := 0, locals := 22 }).room s m [.ref (Q 9)].toArray below meth c H locs 0 0 (MQ below (cQi G Q T u1 r A) [.ref (Q 9)].toArray s 0 0 A) (F0 m 5 ls []) := by
    intro K5_39 hK5_39 n5
    induction n5 with
    | zero => intro v1 v2 u D H locs ls hl hH hF; cases hF
    | succ n5 ih5 =>
      intro v1 v2 u D H locs ls hl hH hF
      unfold xl_X6_soonestFight_5 at hF
      refine lv_iload_n hx hb dX6_soonestFight_5 rfl (lv_at hl 2 rfl) ?_
      refine lv_aload_n hx hb dX6_soonestFight_6 rfl (lv_at hl 0 rfl) ?_
      refine cg_X6_84 hC hH dX6_soonestFight_7 ?_
      obtain ⟨x_1, u_2, h_3, hF⟩ := ncl_some hF
      obtain ⟨e_4, rfl⟩ := nRF_eq h_3
      refine gx_ti e_4 ?_
      refine lv_icmp_ge (tgt := 39) hx hb dX6_soonestFight_10 (by decide) (fun c_5 => ?_) (fun c_5 => ?_)
      · rw [if_pos c_5] at hF
        exact hK5_39 v1 v2 u _ _ _ _ (lv_sub hl [0, 1, 2] rfl) hH hF
      · rw [if_neg c_5] at hF
        refine lv_iload_n hx hb dX6_soonestFight_13 rfl (lv_at hl 1 rfl) ?_
        refine lv_aload_n hx hb dX6_soonestFight_14 rfl (lv_at hl 0 rfl) ?_
        refine cg_X6_39 hC hH dX6_soonestFight_15 ?_
        refine lv_aload_n hx hb dX6_soonestFight_18 rfl (lv_at hl 0 rfl) ?_
        refine cg_X6_26 hC hH dX6_soonestFight_19 ?_
        refine lv_iload_n hx hb dX6_soonestFight_22 rfl (lv_at hl 2 rfl) ?_
        refine rg_20 hC hH wka361 ⟨Nat.le_of_ble_eq_true rfl, Nat.le_of_ble_eq_true rfl⟩ hl.1 (Nat.le_of_ble_eq_true rfl) ⟨Nat.zero_le _, Nat.zero_le _⟩ dX6_soonestFight_23 ?_
        obtain ⟨x_6, u_7, h_8, hF⟩ := ncl_some hF
        obtain ⟨e_9, rfl⟩ := nGT_eq h_8
        refine gx_ti e_9 ?_
        refine rg_24 hC hH wka361 ⟨Nat.le_of_ble_eq_true rfl, Nat.le_of_ble_eq_true rfl⟩ hl.1 (Nat.le_of_ble_eq_true rfl) ⟨Nat.zero_le _, Nat.zero_le _⟩ dX6_soonestFight_26 ?_
        obtain ⟨x_10, u_11, h_12, hF⟩ := ncl_some hF
        obtain ⟨e_13, rfl⟩ := nGT_eq h_12
        refine gx_ti e_13 ?_
        refine va_mmin hx hb (hC.2.2.1.trans hl.1.symm) hC.2.2.2.1 (hC.2.2.2.2.1 _ wka379) (hC.2.2.2.2.1 _ wka758) (hC.2.2.2.2.1 _ wka760) (hC.2.2.2.2.1 _ wka759) (Nat.le_of_ble_eq_true rfl) (Nat.le_of_ble_eq_true rfl) (Nat.le_of_ble_eq_true rfl) (Nat.le_of_ble_eq_true rfl) dX6_soonestFight_29 ?_
        obtain ⟨x_14, e_15, hF⟩ := nli_some hF
        refine gx_ti e_15 ?_
        refine lv_istore_n (lv' := [(1, .int x_14), (0, .ref (Q 9)), (2, .int v2)]) hx hb dX6_soonestFight_32 rfl hl (by decide) rfl (fun ls hl => ?_)
        obtain ⟨x_16, e_17, hF⟩ := nli_some hF
        refine lv_iinc (v := x_16) (lv' := [(2, .int x_16), (1, .int x_14), (0, .ref (Q 9))]) hx hb dX6_soonestFight_33 hl (k := 2) rfl e_17 (by decide) rfl (fun ls hl => ?_)
        refine lv_goto (tgt := 5) hx hb dX6_soonestFight_36 (by decide) ?_
        exact ih5 x_14 x_16 u _ _ _ _ (lv_sub hl [2, 1, 0] rfl) hH hF
  refine hL5 _ (fun v1 v2 u D H locs ls hl hH hF => ?_) fuel 1000000 0 u _ _ _ _ (lv_sub hl [2, 1, 0] rfl) hH hF
  refine lv_iload_n hx hb dX6_soonestFight_39 rfl (lv_at hl 1 rfl) ?_
  exact cr_i hC hH hr (nrt_eq hF) dX6_soonestFight_40 hlocks
def x_X6_keep : NG Int32 := ncl (nRF 61) (fun x_1 => ncl (nRF 63) (fun x_5 => ncl (nRF 62) (fun x_9 => ncl (nWF 61 x_9) (fun _ => ncl (nRF 64) (fun x_17 => ncl (nWF 63 x_17) (fun _ => ncl (nWF 62 x_1) (fun _ => ncl (nWF 64 x_5) (fun _ => nrt 0))))))))
set_option maxHeartbeats 4000000 in
set_option maxRecDepth 100000 in
theorem n_X6_keep (l : Launch) (G : gG) (Z : gC) (Q : Nat → Nat) (D : Nat × Nat) (T : va_W) (u u1 : MS) (r : Int32) (sz : Nat) (hF : x_X6_keep u = some (r, u1)) : Met l yX6_keep (Cond.code yX6_keep cX6_keep 3 none :: wK) { frames := 0, cells := 0, slots := 0, locals := 0 } (va_Pc [.ref (Q 9)] (cPM G Z Q D T u sz)) (cQv G Q T u1 (va_A (cW G Q D T u) sz)) 0 0 (va_A (cW G Q D T u) sz) := by
  refine Met.ofW (cc := cX6_keep) (maxL := 3) (ret := none) (by decide) rfl ?_
  intro p e s m args below meth c s₁ B hml hv
  obtain ⟨rfl, rfl, hP, hB, hD0, hE⟩ := hv
  have hr := B.returns
  have hlocks := B.notSynchronized
  have hts := atoms_spec (ws := Cond.code yX6_keep cX6_keep 3 none :: wK) B.pre
  have hD := hD0.self (sz := s.heap.size)
  have hA : ∀ q : Nat, s.heap.size ≤ q → va_A (cW G Q D T u) s.heap.size q := fun q h => Or.inr h
  generalize va_A (cW G Q D T u) s.heap.size = A at hD hA hE ⊢
  have hC : cX p c cX6_keep 3 s m _ RX6 G Z A := ⟨B.exec, B.bytes, hml, findClass_of_methodNamed B.named, fun w h => hts w (List.mem_cons_of_mem _ h), hB, hE, hA⟩
  have hx := hC.1
  have hb := hC.2.1
  have hH : cH G Q D T A u s s.heap [] := ⟨hP, hD, va_S.rf⟩
  have hl := lv_entry ([.ref (Q 9)]) (n := 3) (Nat.le_of_ble_eq_true rfl)
  rw [lg_entry_eq]
  generalize (lg_sl ([.ref (Q 9)]) ++ List.replicate (3 - (lg_sl ([.ref (Q 9)])).length) Slot.unset).toArray = ls at hl ⊢
  have hl : lv_has ls 3 [(0, .ref (Q 9))] := hl
  unfold x_X6_keep at hF
  refine lv_aload_n hx hb dX6_keep_0 rfl (lv_at hl 0 rfl) ?_
  refine cg_X6_42 hC hH dX6_keep_1 ?_
  obtain ⟨x_1, u_2, h_3, hF⟩ := ncl_some hF
  obtain ⟨e_4, rfl⟩ := nRF_eq h_3
  rw [e_4]
  refine lv_astore_n (lv' := [(1, .ref (sl (x_1) (Q 70) (Q 72))), (0, .ref (Q 9))]) hx hb dX6_keep_4 rfl hl (by decide) rfl (fun ls hl => ?_)
  refine lv_aload_n hx hb dX6_keep_5 rfl (lv_at hl 1 rfl) ?_
  refine cg_X6_45 hC hH dX6_keep_6 ?_
  obtain ⟨x_5, u_6, h_7, hF⟩ := ncl_some hF
  obtain ⟨e_8, rfl⟩ := nRF_eq h_7
  rw [e_8]
  refine lv_astore_n (lv' := [(2, .ref (sl (x_5) (Q 74) (Q 76))), (1, .ref (sl (x_1) (Q 70) (Q 72))), (0, .ref (Q 9))]) hx hb dX6_keep_9 rfl hl (by decide) rfl (fun ls hl => ?_)
  refine lv_aload_n hx hb dX6_keep_10 rfl (lv_at hl 2 rfl) ?_
  refine lv_aload_n hx hb dX6_keep_11 rfl (lv_at hl 2 rfl) ?_
  refine cg_X6_48 hC hH dX6_keep_12 ?_
  obtain ⟨x_9, u_10, h_11, hF⟩ := ncl_some hF
  obtain ⟨e_12, rfl⟩ := nRF_eq h_11
  rw [e_12]
  obtain ⟨y_16, u_13, h_15, hF⟩ := ncl_some hF
  have e_14 := nWF_eq h_15
  refine cp_X6_42 hC hH e_14 dX6_keep_15 (fun H locs hH => ?_)
  refine lv_aload_n hx hb dX6_keep_18 rfl (lv_at hl 2 rfl) ?_
  refine lv_aload_n hx hb dX6_keep_19 rfl (lv_at hl 2 rfl) ?_
  refine cg_X6_51 hC hH dX6_keep_20 ?_
  obtain ⟨x_17, u_18, h_19, hF⟩ := ncl_some hF
  obtain ⟨e_20, rfl⟩ := nRF_eq h_19
  rw [e_20]
  obtain ⟨y_24, u_21, h_23, hF⟩ := ncl_some hF
  have e_22 := nWF_eq h_23
  refine cp_X6_45 hC hH e_22 dX6_keep_23 (fun H locs hH => ?_)
  refine lv_aload_n hx hb dX6_keep_26 rfl (lv_at hl 2 rfl) ?_
  refine lv_aload_n hx hb dX6_keep_27 rfl (lv_at hl 1 rfl) ?_
  obtain ⟨y_28, u_25, h_27, hF⟩ := ncl_some hF
  have e_26 := nWF_eq h_27
  refine cp_X6_48 hC hH e_26 dX6_keep_28 (fun H locs hH => ?_)
  refine lv_aload_n hx hb dX6_keep_31 rfl (lv_at hl 2 rfl) ?_
  refine lv_aload_n hx hb dX6_keep_32 rfl (lv_at hl 0 rfl) ?_
  obtain ⟨y_32, u_29, h_31, hF⟩ := ncl_some hF
  have e_30 := nWF_eq h_31
  refine cp_X6_51 hC hH e_30 dX6_keep_33 (fun H locs hH => ?_)
  exact cr_v hC hH hr (nrt_eq hF) dX6_keep_36 hlocks
def xl_X6_planDay_19 : Nat → Int32 → Int32 → Int32 → (Int32 → Int32 → Int32 → NG Int32) → NG Int32
  | 0, _, _, _, _ => fun _ => none
  | n19 + 1, v1, v2, v3, K19_35 => (if 4 ≤ v3 then K19_35 v1 v2 v3 else ncl (x_X6_findEarliest v3) (fun r_15 => nli (v3 + 1) (fun x_18 => xl_X6_planDay_19 n19 v1 v2 x_18 K19_35)))
def xl_X6_planDay_47 : Nat → Int32 → Int32 → Int32 → Int32 → (Int32 → Int32 → Int32 → Int32 → NG Int32) → NG Int32
  | 0, _, _, _, _, _ => fun _ => none
  | n47 + 1, v1, v2, v3, v4, K47_93 => (if 296 ≤ v4 then K47_93 v1 v2 v3 v4 else ncl (nRF 17) (fun x_25 => (if x_25 ≤ 0 then K47_93 v1 v2 v3 v4 else ncl (x_X6_putFrom v1 v3) (fun r_30 => ncl (x_X6_soonestMat v1) (fun r_33 => ncl (x_X6_soonestFight) (fun r_36 => nli (if (v3 + 1) < (if r_33 < r_36 then r_36 else r_33) then (if r_33 < r_36 then r_36 else r_33) else (v3 + 1)) (fun x_39 => nli (v4 + 1) (fun x_41 => xl_X6_planDay_47 n47 v1 v2 x_39 x_41 K47_93))))))))
def x_X6_planDay (a0 : Int32) (a1 : Int32) : NG Int32 := ncl (nWF 18 a1) (fun _ => ncl (x_X6_clear) (fun r_5 => ncl (x_X6_putOpenOnes) (fun r_8 => ncl (x_X6_putInOrder) (fun r_11 => xl_X6_planDay_19 fuel a0 a1 0 (fun v1 v2 v3 => ncl (nGT 0 2088 0) (fun x_20 => xl_X6_planDay_47 fuel v1 v2 x_20 0 (fun v1 v2 v3 v4 => ncl (nRF 19) (fun x_43 => (if x_43 ≤ 100000 then ncl (x_X6_keep) (fun r_48 => ncl (nRF 19) (fun x_51 => nrt x_51)) else nrt (-1))))))))))
set_option maxHeartbeats 4000000 in
set_option maxRecDepth 100000 in
theorem n_X6_planDay (l : Launch) (G : gG) (Z : gC) (Q : Nat → Nat) (D : Nat × Nat) (T : va_W) (u u1 : MS) (r : Int32) (a0 : Int32) (a1 : Int32) (sz : Nat) (hF : x_X6_planDay a0 a1 u = some (r, u1)) : Met l yX6_planDay (Cond.code yX6_planDay cX6_planDay 5 (some .int) :: wK) { frames := 5, cells := 0, slots := 0, locals := 119 } (va_Pc [.ref (Q 9), .int a0, .int a1] (cPM G Z Q D T u sz)) (cQi G Q T u1 r (va_A (cW G Q D T u) sz)) 0 0 (va_A (cW G Q D T u) sz) := by
  refine Met.ofW (cc := cX6_planDay) (maxL := 5) (ret := (some .int)) (by decide) rfl ?_
  intro p e s m args below meth c s₁ B hml hv
  obtain ⟨rfl, rfl, hP, hB, hD0, hE⟩ := hv
  have hr := B.returns
  have hlocks := B.notSynchronized
  have hts := atoms_spec (ws := Cond.code yX6_planDay cX6_planDay 5 (some .int) :: wK) B.pre
  have hD := hD0.self (sz := s.heap.size)
  have hA : ∀ q : Nat, s.heap.size ≤ q → va_A (cW G Q D T u) s.heap.size q := fun q h => Or.inr h
  generalize va_A (cW G Q D T u) s.heap.size = A at hD hA hE ⊢
  have hC : cX p c cX6_planDay 5 s m _ RX6 G Z A := ⟨B.exec, B.bytes, hml, findClass_of_methodNamed B.named, fun w h => hts w (List.mem_cons_of_mem _ h), hB, hE, hA⟩
  have hx := hC.1
  have hb := hC.2.1
  have hH : cH G Q D T A u s s.heap [] := ⟨hP, hD, va_S.rf⟩
  have hl := lv_entry ([.ref (Q 9), .int a0, .int a1]) (n := 5) (Nat.le_of_ble_eq_true rfl)
  rw [lg_entry_eq]
  generalize (lg_sl ([.ref (Q 9), .int a0, .int a1]) ++ List.replicate (5 - (lg_sl ([.ref (Q 9), .int a0, .int a1])).length) Slot.unset).toArray = ls at hl ⊢
  have hl : lv_has ls 5 [(0, .ref (Q 9)), (1, .int a0), (2, .int a1)] := hl
  unfold x_X6_planDay at hF
  refine lv_aload_n hx hb dX6_planDay_0 rfl (lv_at hl 0 rfl) ?_
  refine lv_iload_n hx hb dX6_planDay_1 rfl (lv_at hl 2 rfl) ?_
  obtain ⟨y_4, u_1, h_3, hF⟩ := ncl_some hF
  have e_2 := nWF_eq h_3
  refine cp_X6_62 hC hH e_2 dX6_planDay_2 (fun H locs hH => ?_)
  refine lv_aload_n hx hb dX6_planDay_5 rfl (lv_at hl 0 rfl) ?_
  obtain ⟨r_5, u_6, h_7, hF⟩ := ncl_some hF
  refine ccV_v (q0 := 9) (As := []) (rest := []) hC hH (n_X6_clear l G Z Q _ T u_1 u_6 r_5 _ h_7) rfl rfl ⟨wkc_X6_clear, wka350, wka580, wka581, wka750⟩ kVX6_clear ⟨Nat.le_of_ble_eq_true rfl, Nat.le_of_ble_eq_true rfl⟩ rfl hl.1 rfl (Nat.le_of_ble_eq_true rfl) dX6_planDay_6 (fun D H locs hH => ?_)
  refine lv_aload_n hx hb dX6_planDay_9 rfl (lv_at hl 0 rfl) ?_
  obtain ⟨r_8, u_9, h_10, hF⟩ := ncl_some hF
  refine ccV_v (q0 := 9) (As := []) (rest := []) hC hH (n_X6_putOpenOnes l G Z Q _ T u_6 u_9 r_8 _ h_10) rfl rfl ⟨wkc_X6_putOpenOnes, wka355, wka584, wka585, wka750⟩ kVX6_putOpenOnes ⟨Nat.le_of_ble_eq_true rfl, Nat.le_of_ble_eq_true rfl⟩ rfl hl.1 rfl (Nat.le_of_ble_eq_true rfl) dX6_planDay_10 (fun D H locs hH => ?_)
  refine lv_aload_n hx hb dX6_planDay_13 rfl (lv_at hl 0 rfl) ?_
  obtain ⟨r_11, u_12, h_13, hF⟩ := ncl_some hF
  refine ccV_v (q0 := 9) (As := []) (rest := []) hC hH (n_X6_putInOrder l G Z Q _ T u_9 u_12 r_11 _ h_13) rfl rfl ⟨wkc_X6_putInOrder, wka364, wka590, wka591, wka750⟩ kVX6_putInOrder ⟨Nat.le_of_ble_eq_true rfl, Nat.le_of_ble_eq_true rfl⟩ rfl hl.1 rfl (Nat.le_of_ble_eq_true rfl) dX6_planDay_14 (fun D H locs hH => ?_)
  refine lv_iconst (v := 0) hx hb dX6_planDay_17 (by decide) ?_
  refine lv_istore_n (lv' := [(3, .int 0), (0, .ref (Q 9)), (1, .int a0), (2, .int a1)]) hx hb dX6_planDay_18 rfl hl (by decide) rfl (fun ls hl => ?_)
  have hL19 : ∀ (K19_35 : Int32 → Int32 → Int32 → NG Int32), (∀ (v1 v2 v3 : Int32) (u : MS) (D : Nat × Nat) (H : Heap) (locs : List Loc) (ls : Array Slot), lv_has ls 5 [(0, .ref (Q 9)), (1, .int v1), (2, .int v2), (3, .int v3)] → cH G Q D T A u s H locs → K19_35 v1 v2 v3 u = some (r, u1) → W p l e (headSpec (Cond.code yX6_planDay cX6_planDay 5 (some .int) :: wK) { frames := 5, cells := 0, slots := 0, locals := 119 }).room s m [.ref (Q 9), .int a0, .int a1].toArray below meth c H locs 0 0 (MQ below (cQi G Q T u1 r A) [.ref (Q 9), .int a0, .int a1].toArray s 0 0 A) (F0 m 35 ls [])) → ∀ (n19 : Nat) (v1 v2 v3 : Int32) (u : MS) (D : Nat × Nat) (H : Heap) (locs : List Loc) (ls : Array Slot), lv_has ls 5 [(0, .ref (Q 9)), (1, .int v1), (2, .int v2), (3, .int v3)] → cH G Q D T A u s H locs → xl_X6_planDay_19 n19 v1 v2 v3 K19_35 u = some (r, u1) → W p l e (headSpec (Cond.code yX6_planDay cX6_planDay 5 (some .int) :: wK) { frames := 5, cells := 0, slots := 0, locals := 119 }).room s m [.ref (Q 9), .int a0, .int a1].toArray below meth c H locs 0 0 (MQ below (cQi G Q T u1 r A) [.ref (Q 9), .int a0, .int a1].toArray s 0 0 A) (F0 m 19 ls []) := by
    intro K19_35 hK19_35 n19
    induction n19 with
    | zero => intro v1 v2 v3 u D H locs ls hl hH hF; cases hF
    | succ n19 ih19 =>
      intro v1 v2 v3 u D H locs ls hl hH hF
      unfold xl_X6_planDay_19 at hF
      refine lv_iload_n hx hb dX6_planDay_19 rfl (lv_at hl 3 rfl) ?_
      refine lv_iconst (v := 4) hx hb dX6_planDay_20 (by decide) ?_
      refine lv_icmp_ge (tgt := 35) hx hb dX6_planDay_21 (by decide) (fun c_14 => ?_) (fun c_14 => ?_)
      · rw [if_pos c_14] at hF
        exact hK19_35 v1 v2 v3 u _ _ _ _ (lv_sub hl [0, 1, 2, 3] rfl) hH hF
      · rw [if_neg c_14] at hF
        refine lv_aload_n hx hb dX6_planDay_24 rfl (lv_at hl 0 rfl) ?_
        refine lv_iload_n hx hb dX6_planDay_25 rfl (lv_at hl 3 rfl) ?_
        obtain ⟨r_15, u_16, h_17, hF⟩ := ncl_some hF
        refine ccV_v (q0 := 9) (As := [.int v3]) (rest := []) hC hH (n_X6_findEarliest l G Z Q _ T u u_16 r_15 v3 _ h_17) rfl rfl ⟨wkc_X6_findEarliest, wka370, wka604, wka605, wka750⟩ kVX6_findEarliest ⟨Nat.le_of_ble_eq_true rfl, Nat.le_of_ble_eq_true rfl⟩ rfl hl.1 rfl (Nat.le_of_ble_eq_true rfl) dX6_planDay_26 (fun D H locs hH => ?_)
        obtain ⟨x_18, e_19, hF⟩ := nli_some hF
        refine lv_iinc (v := x_18) (lv' := [(3, .int x_18), (0, .ref (Q 9)), (1, .int v1), (2, .int v2)]) hx hb dX6_planDay_29 hl (k := 3) rfl e_19 (by decide) rfl (fun ls hl => ?_)
        refine lv_goto (tgt := 19) hx hb dX6_planDay_32 (by decide) ?_
        exact ih19 v1 v2 x_18 u_16 _ _ _ _ (lv_sub hl [1, 2, 3, 0] rfl) hH hF
  refine hL19 _ (fun v1 v2 v3 u D H locs ls hl hH hF => ?_) fuel a0 a1 0 u_12 _ _ _ _ (lv_sub hl [1, 2, 3, 0] rfl) hH hF
  refine lv_aload_n hx hb dX6_planDay_35 rfl (lv_at hl 0 rfl) ?_
  refine cg_X6_9 hC hH dX6_planDay_36 ?_
  refine lv_iconst (v := 0) hx hb dX6_planDay_39 (by decide) ?_
  refine bat (i := 1) (j := 11) hC hH rfl rfl (by decide) wka352 ⟨Nat.le_of_ble_eq_true rfl, Nat.le_of_ble_eq_true rfl⟩ hl.1 (Nat.le_of_ble_eq_true rfl) ⟨Nat.zero_le _, Nat.zero_le _⟩ dX6_planDay_40 ?_
  obtain ⟨x_20, u_21, h_22, hF⟩ := ncl_some hF
  obtain ⟨e_23, rfl⟩ := nGT_eq h_22
  refine gx_ti e_23 ?_
  refine lv_istore_n (lv' := [(3, .int x_20), (0, .ref (Q 9)), (1, .int v1), (2, .int v2)]) hx hb dX6_planDay_43 rfl hl (by decide) rfl (fun ls hl => ?_)
  refine lv_iconst (v := 0) hx hb dX6_planDay_44 (by decide) ?_
  refine lv_istore (lv' := [(4, .int 0), (3, .int x_20), (0, .ref (Q 9)), (1, .int v1), (2, .int v2)]) hx hb dX6_planDay_45 hl (by decide) rfl (fun ls hl => ?_)
  have hL47 : ∀ (K47_93 : Int32 → Int32 → Int32 → Int32 → NG Int32), (∀ (v1 v2 v3 v4 : Int32) (u : MS) (D : Nat × Nat) (H : Heap) (locs : List Loc) (ls : Array Slot), lv_has ls 5 [(0, .ref (Q 9)), (1, .int v1), (2, .int v2), (3, .int v3), (4, .int v4)] → cH G Q D T A u s H locs → K47_93 v1 v2 v3 v4 u = some (r, u1) → W p l e (headSpec (Cond.code yX6_planDay cX6_planDay 5 (some .int) :: wK) { frames := 5, cells := 0, slots := 0, locals := 119 }).room s m [.ref (Q 9), .int a0, .int a1].toArray below meth c H locs 0 0 (MQ below (cQi G Q T u1 r A) [.ref (Q 9), .int a0, .int a1].toArray s 0 0 A) (F0 m 93 ls [])) → ∀ (n47 : Nat) (v1 v2 v3 v4 : Int32) (u : MS) (D : Nat × Nat) (H : Heap) (locs : List Loc) (ls : Array Slot), lv_has ls 5 [(0, .ref (Q 9)), (1, .int v1), (2, .int v2), (3, .int v3), (4, .int v4)] → cH G Q D T A u s H locs → xl_X6_planDay_47 n47 v1 v2 v3 v4 K47_93 u = some (r, u1) → W p l e (headSpec (Cond.code yX6_planDay cX6_planDay 5 (some .int) :: wK) { frames := 5, cells := 0, slots := 0, locals := 119 }).room s m [.ref (Q 9), .int a0, .int a1].toArray below meth c H locs 0 0 (MQ below (cQi G Q T u1 r A) [.ref (Q 9), .int a0, .int a1].toArray s 0 0 A) (F0 m 47 ls []) := by
    intro K47_93 hK47_93 n47
    induction n47 with
    | zero => intro v1 v2 v3 v4 u D H locs ls hl hH hF; cases hF
    | succ n47 ih47 =>
      intro v1 v2 v3 v4 u D H locs ls hl hH hF
      unfold xl_X6_planDay_47 at hF
      refine lv_iload hx hb dX6_planDay_47 (lv_at hl 4 rfl) ?_
      refine lv_sipush (v := 296) hx hb dX6_planDay_49 (by decide) ?_
      refine lv_icmp_ge (tgt := 93) hx hb dX6_planDay_52 (by decide) (fun c_24 => ?_) (fun c_24 => ?_)
      · rw [if_pos c_24] at hF
        exact hK47_93 v1 v2 v3 v4 u _ _ _ _ (lv_sub hl [0, 1, 2, 3, 4] rfl) hH hF
      · rw [if_neg c_24] at hF
        refine lv_aload_n hx hb dX6_planDay_55 rfl (lv_at hl 0 rfl) ?_
        refine cg_X6_84 hC hH dX6_planDay_56 ?_
        obtain ⟨x_25, u_26, h_27, hF⟩ := ncl_some hF
        obtain ⟨e_28, rfl⟩ := nRF_eq h_27
        refine gx_ti e_28 ?_
        refine lv_if_le (tgt := 93) hx hb dX6_planDay_59 (by decide) (fun c_29 => ?_) (fun c_29 => ?_)
        · rw [if_pos c_29] at hF
          exact hK47_93 v1 v2 v3 v4 u _ _ _ _ (lv_sub hl [0, 1, 2, 3, 4] rfl) hH hF
        · rw [if_neg c_29] at hF
          refine lv_aload_n hx hb dX6_planDay_62 rfl (lv_at hl 0 rfl) ?_
          refine lv_iload_n hx hb dX6_planDay_63 rfl (lv_at hl 1 rfl) ?_
          refine lv_iload_n hx hb dX6_planDay_64 rfl (lv_at hl 3 rfl) ?_
          obtain ⟨r_30, u_31, h_32, hF⟩ := ncl_some hF
          refine ccV_v (q0 := 9) (As := [.int v1, .int v3]) (rest := []) hC hH (n_X6_putFrom l G Z Q _ T u u_31 r_30 v1 v3 _ h_32) rfl rfl ⟨wkc_X6_putFrom, wka375, wka594, wka595, wka750⟩ kVX6_putFrom ⟨Nat.le_of_ble_eq_true rfl, Nat.le_of_ble_eq_true rfl⟩ rfl hl.1 rfl (Nat.le_of_ble_eq_true rfl) dX6_planDay_65 (fun D H locs hH => ?_)
          refine lv_iload_n hx hb dX6_planDay_68 rfl (lv_at hl 3 rfl) ?_
          refine lv_iconst (v := 1) hx hb dX6_planDay_69 (by decide) ?_
          refine lv_iadd hx hb dX6_planDay_70 ?_
          refine lv_aload_n hx hb dX6_planDay_71 rfl (lv_at hl 0 rfl) ?_
          refine lv_iload_n hx hb dX6_planDay_72 rfl (lv_at hl 1 rfl) ?_
          obtain ⟨r_33, u_34, h_35, hF⟩ := ncl_some hF
          refine ccV_i (q0 := 9) (As := [.int v1]) (rest := [.int (v3 + 1)]) hC hH (n_X6_soonestMat l G Z Q _ T u_31 u_34 r_33 v1 _ h_35) rfl rfl ⟨wkc_X6_soonestMat, wka378, wka600, wka601, wka750⟩ kVX6_soonestMat ⟨Nat.le_of_ble_eq_true rfl, Nat.le_of_ble_eq_true rfl⟩ rfl hl.1 rfl (Nat.le_of_ble_eq_true rfl) dX6_planDay_73 (fun D H locs hH => ?_)
          refine lv_aload_n hx hb dX6_planDay_76 rfl (lv_at hl 0 rfl) ?_
          obtain ⟨r_36, u_37, h_38, hF⟩ := ncl_some hF
          refine ccV_i (q0 := 9) (As := []) (rest := [.int r_33, .int (v3 + 1)]) hC hH (n_X6_soonestFight l G Z Q _ T u_34 u_37 r_36 _ h_38) rfl rfl ⟨wkc_X6_soonestFight, wka380, wka602, wka603, wka750⟩ kVX6_soonestFight ⟨Nat.le_of_ble_eq_true rfl, Nat.le_of_ble_eq_true rfl⟩ rfl hl.1 rfl (Nat.le_of_ble_eq_true rfl) dX6_planDay_77 (fun D H locs hH => ?_)
          refine va_mmax hx hb (hC.2.2.1.trans hl.1.symm) hC.2.2.2.1 (hC.2.2.2.2.1 _ wka362) (hC.2.2.2.2.1 _ wka756) (hC.2.2.2.2.1 _ wka760) (hC.2.2.2.2.1 _ wka757) (Nat.le_of_ble_eq_true rfl) (Nat.le_of_ble_eq_true rfl) (Nat.le_of_ble_eq_true rfl) (Nat.le_of_ble_eq_true rfl) dX6_planDay_80 ?_
          refine va_mmax hx hb (hC.2.2.1.trans hl.1.symm) hC.2.2.2.1 (hC.2.2.2.2.1 _ wka362) (hC.2.2.2.2.1 _ wka756) (hC.2.2.2.2.1 _ wka760) (hC.2.2.2.2.1 _ wka757) (Nat.le_of_ble_eq_true rfl) (Nat.le_of_ble_eq_true rfl) (Nat.le_of_ble_eq_true rfl) (Nat.le_of_ble_eq_true rfl) dX6_planDay_83 ?_
          obtain ⟨x_39, e_40, hF⟩ := nli_some hF
          refine gx_ti e_40 ?_
          refine lv_istore_n (lv' := [(3, .int x_39), (0, .ref (Q 9)), (1, .int v1), (2, .int v2), (4, .int v4)]) hx hb dX6_planDay_86 rfl hl (by decide) rfl (fun ls hl => ?_)
          obtain ⟨x_41, e_42, hF⟩ := nli_some hF
          refine lv_iinc (v := x_41) (lv' := [(4, .int x_41), (3, .int x_39), (0, .ref (Q 9)), (1, .int v1), (2, .int v2)]) hx hb dX6_planDay_87 hl (k := 4) rfl e_42 (by decide) rfl (fun ls hl => ?_)
          refine lv_goto (tgt := 47) hx hb dX6_planDay_90 (by decide) ?_
          exact ih47 v1 v2 x_39 x_41 u_37 _ _ _ _ (lv_sub hl [2, 3, 4, 1, 0] rfl) hH hF
  refine hL47 _ (fun v1 v2 v3 v4 u D H locs ls hl hH hF => ?_) fuel v1 v2 x_20 0 u _ _ _ _ (lv_sub hl [2, 3, 4, 1, 0] rfl) hH hF
  refine lv_aload_n hx hb dX6_planDay_93 rfl (lv_at hl 0 rfl) ?_
  refine cg_X6_102 hC hH dX6_planDay_94 ?_
  obtain ⟨x_43, u_44, h_45, hF⟩ := ncl_some hF
  obtain ⟨e_46, rfl⟩ := nRF_eq h_45
  refine gx_ti e_46 ?_
  refine lv_ldc (v := 100000) hx hb hC.2.2.2.1 (hC.2.2.2.2.1 _ wka381) dX6_planDay_97 ?_
  refine lv_icmp_le (tgt := 104) hx hb dX6_planDay_99 (by decide) (fun c_47 => ?_) (fun c_47 => ?_)
  · rw [if_pos c_47] at hF
    refine lv_aload_n hx hb dX6_planDay_104 rfl (lv_at hl 0 rfl) ?_
    obtain ⟨r_48, u_49, h_50, hF⟩ := ncl_some hF
    refine ccV_v (q0 := 9) (As := []) (rest := []) hC hH (n_X6_keep l G Z Q _ T u u_49 r_48 _ h_50) rfl rfl ⟨wkc_X6_keep, wka382, wka582, wka583, wka750⟩ kVX6_keep ⟨Nat.le_of_ble_eq_true rfl, Nat.le_of_ble_eq_true rfl⟩ rfl hl.1 rfl (Nat.le_of_ble_eq_true rfl) dX6_planDay_105 (fun D H locs hH => ?_)
    refine lv_aload_n hx hb dX6_planDay_108 rfl (lv_at hl 0 rfl) ?_
    refine cg_X6_102 hC hH dX6_planDay_109 ?_
    obtain ⟨x_51, u_52, h_53, hF⟩ := ncl_some hF
    obtain ⟨e_54, rfl⟩ := nRF_eq h_53
    refine gx_ti e_54 ?_
    exact cr_i hC hH hr (nrt_eq hF) dX6_planDay_112 hlocks
  · rw [if_neg c_47] at hF
    refine lv_iconst (v := (-1)) hx hb dX6_planDay_102 (by decide) ?_
    exact cr_i hC hH hr (nrt_eq hF) dX6_planDay_103 hlocks
def x_X7_ofTree (a0 : Int32) (a1 : Int32) : NG Int32 := ncl (x_X0_sizeOf a0) (fun r_1 => nli (r_1 - 2) (fun x_4 => ncl (x_X0_fightsOf a0) (fun r_6 => nli (((r_6 - x_4) - 1) / 2) (fun x_9 => (if a1 = 0 then ncl (x_X0_winnerOf a0 x_4) (fun r_12 => nrt r_12) else if a1 = 1 then ncl (x_X0_loserOf a0 x_4) (fun r_16 => nrt r_16) else if a1 = 2 then ncl (x_X0_winnerOf a0 (x_4 + x_9)) (fun r_20 => nrt r_20) else if a1 = 3 then ncl (x_X0_winnerOf a0 (x_4 + (2 * x_9))) (fun r_24 => nrt r_24) else nrt (-1))))))
set_option maxHeartbeats 4000000 in
set_option maxRecDepth 100000 in
theorem n_X7_ofTree (l : Launch) (G : gG) (Z : gC) (Q : Nat → Nat) (D : Nat × Nat) (T : va_W) (u u1 : MS) (r : Int32) (a0 : Int32) (a1 : Int32) (sz : Nat) (hF : x_X7_ofTree a0 a1 u = some (r, u1)) : Met l yX7_ofTree (Cond.code yX7_ofTree cX7_ofTree 5 (some .int) :: wK) { frames := 3, cells := 0, slots := 0, locals := 67 } (va_Pc [.ref (Q 8), .int a0, .int a1] (cPM G Z Q D T u sz)) (cQi G Q T u1 r (va_A (cW G Q D T u) sz)) 0 0 (va_A (cW G Q D T u) sz) := by
  refine Met.ofW (cc := cX7_ofTree) (maxL := 5) (ret := (some .int)) (by decide) rfl ?_
  intro p e s m args below meth c s₁ B hml hv
  obtain ⟨rfl, rfl, hP, hB, hD0, hE⟩ := hv
  have hr := B.returns
  have hlocks := B.notSynchronized
  have hts := atoms_spec (ws := Cond.code yX7_ofTree cX7_ofTree 5 (some .int) :: wK) B.pre
  have hD := hD0.self (sz := s.heap.size)
  have hA : ∀ q : Nat, s.heap.size ≤ q → va_A (cW G Q D T u) s.heap.size q := fun q h => Or.inr h
  generalize va_A (cW G Q D T u) s.heap.size = A at hD hA hE ⊢
  have hC : cX p c cX7_ofTree 5 s m _ RX7 G Z A := ⟨B.exec, B.bytes, hml, findClass_of_methodNamed B.named, fun w h => hts w (List.mem_cons_of_mem _ h), hB, hE, hA⟩
  have hx := hC.1
  have hb := hC.2.1
  have hH : cH G Q D T A u s s.heap [] := ⟨hP, hD, va_S.rf⟩
  have hl := lv_entry ([.ref (Q 8), .int a0, .int a1]) (n := 5) (Nat.le_of_ble_eq_true rfl)
  rw [lg_entry_eq]
  generalize (lg_sl ([.ref (Q 8), .int a0, .int a1]) ++ List.replicate (5 - (lg_sl ([.ref (Q 8), .int a0, .int a1])).length) Slot.unset).toArray = ls at hl ⊢
  have hl : lv_has ls 5 [(0, .ref (Q 8)), (1, .int a0), (2, .int a1)] := hl
  unfold x_X7_ofTree at hF
  refine lv_aload_n hx hb dX7_ofTree_0 rfl (lv_at hl 0 rfl) ?_
  refine cg_X7_15 hC hH dX7_ofTree_1 ?_
  refine lv_iload_n hx hb dX7_ofTree_4 rfl (lv_at hl 1 rfl) ?_
  obtain ⟨r_1, u_2, h_3, hF⟩ := ncl_some hF
  refine ccV_i (q0 := 6) (As := [.int a0]) (rest := []) hC hH (n_X0_sizeOf l G Z Q _ T u u_2 r_1 a0 _ h_3) rfl rfl ⟨wkc_X0_sizeOf, wka338, wka390, wka391, wka744⟩ kVX0_sizeOf ⟨Nat.le_of_ble_eq_true rfl, Nat.le_of_ble_eq_true rfl⟩ rfl hl.1 rfl (Nat.le_of_ble_eq_true rfl) dX7_ofTree_5 (fun D H locs hH => ?_)
  refine lv_iconst (v := 2) hx hb dX7_ofTree_8 (by decide) ?_
  refine lv_isub hx hb dX7_ofTree_9 ?_
  obtain ⟨x_4, e_5, hF⟩ := nli_some hF
  refine gx_ti e_5 ?_
  refine lv_istore_n (lv' := [(3, .int x_4), (0, .ref (Q 8)), (1, .int a0), (2, .int a1)]) hx hb dX7_ofTree_10 rfl hl (by decide) rfl (fun ls hl => ?_)
  refine lv_aload_n hx hb dX7_ofTree_11 rfl (lv_at hl 1 rfl) ?_
  refine cg_X7_15 hC hH dX7_ofTree_12 ?_
  refine lv_iload_n hx hb dX7_ofTree_15 rfl (lv_at hl 2 rfl) ?_
  obtain ⟨r_6, u_7, h_8, hF⟩ := ncl_some hF
  refine ccV_i (q0 := 6) (As := [.int a0]) (rest := []) hC hH (n_X0_fightsOf l G Z Q _ T u_2 u_7 r_6 a0 _ h_8) rfl rfl ⟨wkc_X0_fightsOf, wka330, wka396, wka397, wka744⟩ kVX0_fightsOf ⟨Nat.le_of_ble_eq_true rfl, Nat.le_of_ble_eq_true rfl⟩ rfl hl.1 rfl (Nat.le_of_ble_eq_true rfl) dX7_ofTree_16 (fun D H locs hH => ?_)
  refine lv_iload_n hx hb dX7_ofTree_19 rfl (lv_at hl 0 rfl) ?_
  refine lv_isub hx hb dX7_ofTree_20 ?_
  refine lv_iconst (v := 1) hx hb dX7_ofTree_21 (by decide) ?_
  refine lv_isub hx hb dX7_ofTree_22 ?_
  refine lv_iconst (v := 2) hx hb dX7_ofTree_23 (by decide) ?_
  refine lv_idiv hx hb dX7_ofTree_24 (by decide) ?_
  obtain ⟨x_9, e_10, hF⟩ := nli_some hF
  refine gx_ti e_10 ?_
  refine lv_istore (lv' := [(4, .int x_9), (3, .int x_4), (0, .ref (Q 8)), (1, .int a0), (2, .int a1)]) hx hb dX7_ofTree_25 hl (by decide) rfl (fun ls hl => ?_)
  refine lv_iload_n hx hb dX7_ofTree_27 rfl (lv_at hl 4 rfl) ?_
  by_cases c_11 : a1 = 0
  · rw [if_pos c_11] at hF
    refine gx_ti (y := 0) c_11 ?_
    refine lv_tableIn (off := 32) (tgt := 60) hx hb dX7_ofTree_28 (by decide) (by decide) rfl (by decide) ?_
    refine lv_aload_n hx hb dX7_ofTree_60 rfl (lv_at hl 2 rfl) ?_
    refine cg_X7_15 hC hH dX7_ofTree_61 ?_
    refine lv_iload_n hx hb dX7_ofTree_64 rfl (lv_at hl 3 rfl) ?_
    refine lv_iload_n hx hb dX7_ofTree_65 rfl (lv_at hl 1 rfl) ?_
    obtain ⟨r_12, u_13, h_14, hF⟩ := ncl_some hF
    refine ccV_i (q0 := 6) (As := [.int a0, .int x_4]) (rest := []) hC hH (n_X0_winnerOf l G Z Q _ T u_7 u_13 r_12 a0 x_4 _ h_14) rfl rfl ⟨wkc_X0_winnerOf, wka333, wka405, wka406, wka744⟩ kVX0_winnerOf ⟨Nat.le_of_ble_eq_true rfl, Nat.le_of_ble_eq_true rfl⟩ rfl hl.1 rfl (Nat.le_of_ble_eq_true rfl) dX7_ofTree_66 (fun D H locs hH => ?_)
    exact cr_i hC hH hr (nrt_eq hF) dX7_ofTree_69 hlocks
  rw [if_neg c_11] at hF
  by_cases c_15 : a1 = 1
  · rw [if_pos c_15] at hF
    refine gx_ti (y := 1) c_15 ?_
    refine lv_tableIn (off := 42) (tgt := 70) hx hb dX7_ofTree_28 (by decide) (by decide) rfl (by decide) ?_
    refine lv_aload_n hx hb dX7_ofTree_70 rfl (lv_at hl 2 rfl) ?_
    refine cg_X7_15 hC hH dX7_ofTree_71 ?_
    refine lv_iload_n hx hb dX7_ofTree_74 rfl (lv_at hl 3 rfl) ?_
    refine lv_iload_n hx hb dX7_ofTree_75 rfl (lv_at hl 1 rfl) ?_
    obtain ⟨r_16, u_17, h_18, hF⟩ := ncl_some hF
    refine ccV_i (q0 := 6) (As := [.int a0, .int x_4]) (rest := []) hC hH (n_X0_loserOf l G Z Q _ T u_7 u_17 r_16 a0 x_4 _ h_18) rfl rfl ⟨wkc_X0_loserOf, wka345, wka409, wka410, wka744⟩ kVX0_loserOf ⟨Nat.le_of_ble_eq_true rfl, Nat.le_of_ble_eq_true rfl⟩ rfl hl.1 rfl (Nat.le_of_ble_eq_true rfl) dX7_ofTree_76 (fun D H locs hH => ?_)
    exact cr_i hC hH hr (nrt_eq hF) dX7_ofTree_79 hlocks
  rw [if_neg c_15] at hF
  by_cases c_19 : a1 = 2
  · rw [if_pos c_19] at hF
    refine gx_ti (y := 2) c_19 ?_
    refine lv_tableIn (off := 52) (tgt := 80) hx hb dX7_ofTree_28 (by decide) (by decide) rfl (by decide) ?_
    refine lv_aload_n hx hb dX7_ofTree_80 rfl (lv_at hl 2 rfl) ?_
    refine cg_X7_15 hC hH dX7_ofTree_81 ?_
    refine lv_iload_n hx hb dX7_ofTree_84 rfl (lv_at hl 3 rfl) ?_
    refine lv_iload_n hx hb dX7_ofTree_85 rfl (lv_at hl 1 rfl) ?_
    refine lv_iload hx hb dX7_ofTree_86 (lv_at hl 0 rfl) ?_
    refine lv_iadd hx hb dX7_ofTree_88 ?_
    obtain ⟨r_20, u_21, h_22, hF⟩ := ncl_some hF
    refine ccV_i (q0 := 6) (As := [.int a0, .int (x_4 + x_9)]) (rest := []) hC hH (n_X0_winnerOf l G Z Q _ T u_7 u_21 r_20 a0 (x_4 + x_9) _ h_22) rfl rfl ⟨wkc_X0_winnerOf, wka333, wka405, wka406, wka744⟩ kVX0_winnerOf ⟨Nat.le_of_ble_eq_true rfl, Nat.le_of_ble_eq_true rfl⟩ rfl hl.1 rfl (Nat.le_of_ble_eq_true rfl) dX7_ofTree_89 (fun D H locs hH => ?_)
    exact cr_i hC hH hr (nrt_eq hF) dX7_ofTree_92 hlocks
  rw [if_neg c_19] at hF
  by_cases c_23 : a1 = 3
  · rw [if_pos c_23] at hF
    refine gx_ti (y := 3) c_23 ?_
    refine lv_tableIn (off := 65) (tgt := 93) hx hb dX7_ofTree_28 (by decide) (by decide) rfl (by decide) ?_
    refine lv_aload_n hx hb dX7_ofTree_93 rfl (lv_at hl 2 rfl) ?_
    refine cg_X7_15 hC hH dX7_ofTree_94 ?_
    refine lv_iload_n hx hb dX7_ofTree_97 rfl (lv_at hl 3 rfl) ?_
    refine lv_iload_n hx hb dX7_ofTree_98 rfl (lv_at hl 1 rfl) ?_
    refine lv_iconst (v := 2) hx hb dX7_ofTree_99 (by decide) ?_
    refine lv_iload hx hb dX7_ofTree_100 (lv_at hl 0 rfl) ?_
    refine lv_imul hx hb dX7_ofTree_102 ?_
    refine lv_iadd hx hb dX7_ofTree_103 ?_
    obtain ⟨r_24, u_25, h_26, hF⟩ := ncl_some hF
    refine ccV_i (q0 := 6) (As := [.int a0, .int (x_4 + (2 * x_9))]) (rest := []) hC hH (n_X0_winnerOf l G Z Q _ T u_7 u_25 r_24 a0 (x_4 + (2 * x_9)) _ h_26) rfl rfl ⟨wkc_X0_winnerOf, wka333, wka405, wka406, wka744⟩ kVX0_winnerOf ⟨Nat.le_of_ble_eq_true rfl, Nat.le_of_ble_eq_true rfl⟩ rfl hl.1 rfl (Nat.le_of_ble_eq_true rfl) dX7_ofTree_104 (fun D H locs hH => ?_)
    exact cr_i hC hH hr (nrt_eq hF) dX7_ofTree_107 hlocks
  rw [if_neg c_23] at hF
  refine lv_tableOut (tgt := 108) hx hb dX7_ofTree_28 (by have q0 := gl_ne c_11 (a := 0) (by decide); have q1 := gl_ne c_15 (a := 1) (by decide); have q2 := gl_ne c_19 (a := 2) (by decide); have q3 := gl_ne c_23 (a := 3) (by decide); omega) (by decide) ?_
  refine lv_iconst (v := (-1)) hx hb dX7_ofTree_108 (by decide) ?_
  exact cr_i hC hH hr (nrt_eq hF) dX7_ofTree_109 hlocks
def xl_X7_addUp_18 : Nat → Int32 → Int32 → (Int32 → Int32 → NG Int32) → NG Int32
  | 0, _, _, _ => fun _ => none
  | n18 + 1, v1, v2, K18_94 => ncl (x_X0_fightsOf v1) (fun r_9 => (if r_9 ≤ v2 then K18_94 v1 v2 else ncl (x_X0_winnerOf v1 v2) (fun r_13 => ncl (nGT 19 96 r_13) (fun x_16 => ncl (nST 19 96 r_13 (x_16 + 1)) (fun _ => ncl (nGT 20 96 r_13) (fun x_24 => ncl (x_X1_ofFight v1 v2 5) (fun r_28 => ncl (nGT 0 2088 r_28) (fun x_31 => ncl (nST 20 96 r_13 (x_24 + x_31)) (fun _ => nli (v2 + 1) (fun x_39 => xl_X7_addUp_18 n18 v1 x_39 K18_94))))))))))
def x_X7_addUp (a0 : Int32) : NG Int32 := ncl (nFL 19 96 0) (fun _ => ncl (nFL 20 96 0) (fun _ => xl_X7_addUp_18 fuel a0 0 (fun v1 v2 => nrt 0)))
set_option maxHeartbeats 4000000 in
set_option maxRecDepth 100000 in
theorem n_X7_addUp (l : Launch) (G : gG) (Z : gC) (Q : Nat → Nat) (D : Nat × Nat) (T : va_W) (u u1 : MS) (r : Int32) (a0 : Int32) (sz : Nat) (hF : x_X7_addUp a0 u = some (r, u1)) : Met l yX7_addUp (Cond.code yX7_addUp cX7_addUp 4 none :: wK) { frames := 3, cells := 0, slots := 0, locals := 65 } (va_Pc [.ref (Q 8), .int a0] (cPM G Z Q D T u sz)) (cQv G Q T u1 (va_A (cW G Q D T u) sz)) 0 0 (va_A (cW G Q D T u) sz) := by
  refine Met.ofW (cc := cX7_addUp) (maxL := 4) (ret := none) (by decide) rfl ?_
  intro p e s m args below meth c s₁ B hml hv
  obtain ⟨rfl, rfl, hP, hB, hD0, hE⟩ := hv
  have hr := B.returns
  have hlocks := B.notSynchronized
  have hts := atoms_spec (ws := Cond.code yX7_addUp cX7_addUp 4 none :: wK) B.pre
  have hD := hD0.self (sz := s.heap.size)
  have hA : ∀ q : Nat, s.heap.size ≤ q → va_A (cW G Q D T u) s.heap.size q := fun q h => Or.inr h
  generalize va_A (cW G Q D T u) s.heap.size = A at hD hA hE ⊢
  have hC : cX p c cX7_addUp 4 s m _ RX7 G Z A := ⟨B.exec, B.bytes, hml, findClass_of_methodNamed B.named, fun w h => hts w (List.mem_cons_of_mem _ h), hB, hE, hA⟩
  have hx := hC.1
  have hb := hC.2.1
  have hH : cH G Q D T A u s s.heap [] := ⟨hP, hD, va_S.rf⟩
  have hl := lv_entry ([.ref (Q 8), .int a0]) (n := 4) (Nat.le_of_ble_eq_true rfl)
  rw [lg_entry_eq]
  generalize (lg_sl ([.ref (Q 8), .int a0]) ++ List.replicate (4 - (lg_sl ([.ref (Q 8), .int a0])).length) Slot.unset).toArray = ls at hl ⊢
  have hl : lv_has ls 4 [(0, .ref (Q 8)), (1, .int a0)] := hl
  unfold x_X7_addUp at hF
  refine lv_aload_n hx hb dX7_addUp_0 rfl (lv_at hl 0 rfl) ?_
  refine cg_X7_24 hC hH dX7_addUp_1 ?_
  refine lv_iconst (v := 0) hx hb dX7_addUp_4 (by decide) ?_
  obtain ⟨y_4, u_1, h_3, hF⟩ := ncl_some hF
  have e_2 := nFL_eq h_3
  refine rf_18 hC hH e_2 wka332 ⟨Nat.le_of_ble_eq_true rfl, Nat.le_of_ble_eq_true rfl⟩ hl.1 (Nat.le_of_ble_eq_true rfl) ⟨Nat.zero_le _, Nat.zero_le _⟩ dX7_addUp_5 (fun H locs hH => ?_)
  refine lv_aload_n hx hb dX7_addUp_8 rfl (lv_at hl 0 rfl) ?_
  refine cg_X7_28 hC hH dX7_addUp_9 ?_
  refine lv_iconst (v := 0) hx hb dX7_addUp_12 (by decide) ?_
  obtain ⟨y_8, u_5, h_7, hF⟩ := ncl_some hF
  have e_6 := nFL_eq h_7
  refine rf_19 hC hH e_6 wka332 ⟨Nat.le_of_ble_eq_true rfl, Nat.le_of_ble_eq_true rfl⟩ hl.1 (Nat.le_of_ble_eq_true rfl) ⟨Nat.zero_le _, Nat.zero_le _⟩ dX7_addUp_13 (fun H locs hH => ?_)
  refine lv_iconst (v := 0) hx hb dX7_addUp_16 (by decide) ?_
  refine lv_istore_n (lv' := [(2, .int 0), (0, .ref (Q 8)), (1, .int a0)]) hx hb dX7_addUp_17 rfl hl (by decide) rfl (fun ls hl => ?_)
  have hL18 : ∀ (K18_94 : Int32 → Int32 → NG Int32), (∀ (v1 v2 : Int32) (u : MS) (D : Nat × Nat) (H : Heap) (locs : List Loc) (ls : Array Slot), lv_has ls 4 [(0, .ref (Q 8)), (1, .int v1), (2, .int v2)] → cH G Q D T A u s H locs → K18_94 v1 v2 u = some (r, u1) → W p l e (headSpec (Cond.code yX7_addUp cX7_addUp 4 none :: wK) { frames := 3, cells := 0, slots := 0, locals := 65 }).room s m [.ref (Q 8), .int a0].toArray below meth c H locs 0 0 (MQ below (cQv G Q T u1 A) [.ref (Q 8), .int a0].toArray s 0 0 A) (F0 m 94 ls [])) → ∀ (n18 : Nat) (v1 v2 : Int32) (u : MS) (D : Nat × Nat) (H : Heap) (locs : List Loc) (ls : Array Slot), lv_has ls 4 [(0, .ref (Q 8)), (1, .int v1), (2, .int v2)] → cH G Q D T A u s H locs → xl_X7_addUp_18 n18 v1 v2 K18_94 u = some (r, u1) → W p l e (headSpec (Cond.code yX7_addUp cX7_addUp 4 none :: wK) { frames := 3, cells := 0, slots := 0, locals := 65 }).room s m [.ref (Q 8), .int a0].toArray below meth c H locs 0 0 (MQ below (cQv G Q T u1 A) [.ref (Q 8), .int a0].toArray s 0 0 A) (F0 m 18 ls []) := by
    intro K18_94 hK18_94 n18
    induction n18 with
    | zero => intro v1 v2 u D H locs ls hl hH hF; cases hF
    | succ n18 ih18 =>
      intro v1 v2 u D H locs ls hl hH hF
      unfold xl_X7_addUp_18 at hF
      refine lv_iload_n hx hb dX7_addUp_18 rfl (lv_at hl 2 rfl) ?_
      refine lv_aload_n hx hb dX7_addUp_19 rfl (lv_at hl 0 rfl) ?_
      refine cg_X7_15 hC hH dX7_addUp_20 ?_
      refine lv_iload_n hx hb dX7_addUp_23 rfl (lv_at hl 1 rfl) ?_
      obtain ⟨r_9, u_10, h_11, hF⟩ := ncl_some hF
      refine ccV_i (q0 := 6) (As := [.int v1]) (rest := [.int v2]) hC hH (n_X0_fightsOf l G Z Q _ T u u_10 r_9 v1 _ h_11) rfl rfl ⟨wkc_X0_fightsOf, wka330, wka396, wka397, wka744⟩ kVX0_fightsOf ⟨Nat.le_of_ble_eq_true rfl, Nat.le_of_ble_eq_true rfl⟩ rfl hl.1 rfl (Nat.le_of_ble_eq_true rfl) dX7_addUp_24 (fun D H locs hH => ?_)
      refine lv_icmp_ge (tgt := 94) hx hb dX7_addUp_27 (by decide) (fun c_12 => ?_) (fun c_12 => ?_)
      · rw [if_pos c_12] at hF
        exact hK18_94 v1 v2 u_10 _ _ _ _ (lv_sub hl [0, 1, 2] rfl) hH hF
      · rw [if_neg c_12] at hF
        refine lv_aload_n hx hb dX7_addUp_30 rfl (lv_at hl 0 rfl) ?_
        refine cg_X7_15 hC hH dX7_addUp_31 ?_
        refine lv_iload_n hx hb dX7_addUp_34 rfl (lv_at hl 1 rfl) ?_
        refine lv_iload_n hx hb dX7_addUp_35 rfl (lv_at hl 2 rfl) ?_
        obtain ⟨r_13, u_14, h_15, hF⟩ := ncl_some hF
        refine ccV_i (q0 := 6) (As := [.int v1, .int v2]) (rest := []) hC hH (n_X0_winnerOf l G Z Q _ T u_10 u_14 r_13 v1 v2 _ h_15) rfl rfl ⟨wkc_X0_winnerOf, wka333, wka405, wka406, wka744⟩ kVX0_winnerOf ⟨Nat.le_of_ble_eq_true rfl, Nat.le_of_ble_eq_true rfl⟩ rfl hl.1 rfl (Nat.le_of_ble_eq_true rfl) dX7_addUp_36 (fun D H locs hH => ?_)
        refine lv_istore_n (lv' := [(3, .int r_13), (0, .ref (Q 8)), (1, .int v1), (2, .int v2)]) hx hb dX7_addUp_39 rfl hl (by decide) rfl (fun ls hl => ?_)
        refine lv_aload_n hx hb dX7_addUp_40 rfl (lv_at hl 1 rfl) ?_
        refine cg_X7_24 hC hH dX7_addUp_41 ?_
        refine lv_iload_n hx hb dX7_addUp_44 rfl (lv_at hl 0 rfl) ?_
        refine lv_aload_n hx hb dX7_addUp_45 rfl (lv_at hl 1 rfl) ?_
        refine cg_X7_24 hC hH dX7_addUp_46 ?_
        refine lv_iload_n hx hb dX7_addUp_49 rfl (lv_at hl 0 rfl) ?_
        refine rg_18 hC hH wka334 ⟨Nat.le_of_ble_eq_true rfl, Nat.le_of_ble_eq_true rfl⟩ hl.1 (Nat.le_of_ble_eq_true rfl) ⟨Nat.zero_le _, Nat.zero_le _⟩ dX7_addUp_50 ?_
        obtain ⟨x_16, u_17, h_18, hF⟩ := ncl_some hF
        obtain ⟨e_19, rfl⟩ := nGT_eq h_18
        refine gx_ti e_19 ?_
        refine lv_iconst (v := 1) hx hb dX7_addUp_53 (by decide) ?_
        refine lv_iadd hx hb dX7_addUp_54 ?_
        obtain ⟨y_23, u_20, h_22, hF⟩ := ncl_some hF
        have e_21 := nST_eq h_22
        refine rs_18 hC hH e_21 wka335 ⟨Nat.le_of_ble_eq_true rfl, Nat.le_of_ble_eq_true rfl⟩ hl.1 (Nat.le_of_ble_eq_true rfl) ⟨Nat.zero_le _, Nat.zero_le _⟩ dX7_addUp_55 (fun H locs hH => ?_)
        refine lv_aload_n hx hb dX7_addUp_58 rfl (lv_at hl 1 rfl) ?_
        refine cg_X7_28 hC hH dX7_addUp_59 ?_
        refine lv_iload_n hx hb dX7_addUp_62 rfl (lv_at hl 0 rfl) ?_
        refine lv_aload_n hx hb dX7_addUp_63 rfl (lv_at hl 1 rfl) ?_
        refine cg_X7_28 hC hH dX7_addUp_64 ?_
        refine lv_iload_n hx hb dX7_addUp_67 rfl (lv_at hl 0 rfl) ?_
        refine rg_19 hC hH wka334 ⟨Nat.le_of_ble_eq_true rfl, Nat.le_of_ble_eq_true rfl⟩ hl.1 (Nat.le_of_ble_eq_true rfl) ⟨Nat.zero_le _, Nat.zero_le _⟩ dX7_addUp_68 ?_
        obtain ⟨x_24, u_25, h_26, hF⟩ := ncl_some hF
        obtain ⟨e_27, rfl⟩ := nGT_eq h_26
        refine gx_ti e_27 ?_
        refine lv_aload_n hx hb dX7_addUp_71 rfl (lv_at hl 1 rfl) ?_
        refine cg_X7_9 hC hH dX7_addUp_72 ?_
        refine lv_iload_n hx hb dX7_addUp_75 rfl (lv_at hl 2 rfl) ?_
        refine lv_iload_n hx hb dX7_addUp_76 rfl (lv_at hl 3 rfl) ?_
        refine lv_iconst (v := 5) hx hb dX7_addUp_77 (by decide) ?_
        obtain ⟨r_28, u_29, h_30, hF⟩ := ncl_some hF
        refine ccS_i (As := [.int v1, .int v2, .int 5]) (rest := [.ref (Q 1), .int x_24, .int r_13, .ref (Q 58)]) hC hH (n_X1_ofFight l G Z Q _ T u_20 u_29 r_28 v1 v2 5 _ h_30) ⟨wkc_X1_ofFight, wka336, wka437, wka745⟩ kSX1_ofFight ⟨Nat.le_of_ble_eq_true rfl, Nat.le_of_ble_eq_true rfl⟩ rfl hl.1 rfl (Nat.le_of_ble_eq_true rfl) dX7_addUp_78 (fun D H locs hH => ?_)
        refine bat (i := 1) (j := 11) hC hH rfl rfl (by decide) wka337 ⟨Nat.le_of_ble_eq_true rfl, Nat.le_of_ble_eq_true rfl⟩ hl.1 (Nat.le_of_ble_eq_true rfl) ⟨Nat.zero_le _, Nat.zero_le _⟩ dX7_addUp_81 ?_
        obtain ⟨x_31, u_32, h_33, hF⟩ := ncl_some hF
        obtain ⟨e_34, rfl⟩ := nGT_eq h_33
        refine gx_ti e_34 ?_
        refine lv_iadd hx hb dX7_addUp_84 ?_
        obtain ⟨y_38, u_35, h_37, hF⟩ := ncl_some hF
        have e_36 := nST_eq h_37
        refine rs_19 hC hH e_36 wka335 ⟨Nat.le_of_ble_eq_true rfl, Nat.le_of_ble_eq_true rfl⟩ hl.1 (Nat.le_of_ble_eq_true rfl) ⟨Nat.zero_le _, Nat.zero_le _⟩ dX7_addUp_85 (fun H locs hH => ?_)
        obtain ⟨x_39, e_40, hF⟩ := nli_some hF
        refine lv_iinc (v := x_39) (lv' := [(2, .int x_39), (3, .int r_13), (0, .ref (Q 8)), (1, .int v1)]) hx hb dX7_addUp_88 hl (k := 3) rfl e_40 (by decide) rfl (fun ls hl => ?_)
        refine lv_goto (tgt := 18) hx hb dX7_addUp_91 (by decide) ?_
        exact ih18 v1 x_39 u_35 _ _ _ _ (lv_sub hl [2, 3, 0] rfl) hH hF
  refine hL18 _ (fun v1 v2 u D H locs ls hl hH hF => ?_) fuel a0 0 u_5 _ _ _ _ (lv_sub hl [1, 2, 0] rfl) hH hF
  exact cr_v hC hH hr (nrt_eq hF) dX7_addUp_94 hlocks
def x_X7_member (a0 : Int32) (a1 : Int32) : NG Int32 := ncl (x_X1_ofClass a0 (4 + a1)) (fun r_1 => ncl (nGT 0 2088 r_1) (fun x_4 => nrt x_4))
set_option maxHeartbeats 4000000 in
set_option maxRecDepth 100000 in
theorem n_X7_member (l : Launch) (G : gG) (Z : gC) (Q : Nat → Nat) (D : Nat × Nat) (T : va_W) (u u1 : MS) (r : Int32) (a0 : Int32) (a1 : Int32) (sz : Nat) (hF : x_X7_member a0 a1 u = some (r, u1)) : Met l yX7_member (Cond.code yX7_member cX7_member 3 (some .int) :: wK) { frames := 1, cells := 0, slots := 0, locals := 22 } (va_Pc [.ref (Q 8), .int a0, .int a1] (cPM G Z Q D T u sz)) (cQi G Q T u1 r (va_A (cW G Q D T u) sz)) 0 0 (va_A (cW G Q D T u) sz) := by
  refine Met.ofW (cc := cX7_member) (maxL := 3) (ret := (some .int)) (by decide) rfl ?_
  intro p e s m args below meth c s₁ B hml hv
  obtain ⟨rfl, rfl, hP, hB, hD0, hE⟩ := hv
  have hr := B.returns
  have hlocks := B.notSynchronized
  have hts := atoms_spec (ws := Cond.code yX7_member cX7_member 3 (some .int) :: wK) B.pre
  have hD := hD0.self (sz := s.heap.size)
  have hA : ∀ q : Nat, s.heap.size ≤ q → va_A (cW G Q D T u) s.heap.size q := fun q h => Or.inr h
  generalize va_A (cW G Q D T u) s.heap.size = A at hD hA hE ⊢
  have hC : cX p c cX7_member 3 s m _ RX7 G Z A := ⟨B.exec, B.bytes, hml, findClass_of_methodNamed B.named, fun w h => hts w (List.mem_cons_of_mem _ h), hB, hE, hA⟩
  have hx := hC.1
  have hb := hC.2.1
  have hH : cH G Q D T A u s s.heap [] := ⟨hP, hD, va_S.rf⟩
  have hl := lv_entry ([.ref (Q 8), .int a0, .int a1]) (n := 3) (Nat.le_of_ble_eq_true rfl)
  rw [lg_entry_eq]
  generalize (lg_sl ([.ref (Q 8), .int a0, .int a1]) ++ List.replicate (3 - (lg_sl ([.ref (Q 8), .int a0, .int a1])).length) Slot.unset).toArray = ls at hl ⊢
  have hl : lv_has ls 3 [(0, .ref (Q 8)), (1, .int a0), (2, .int a1)] := hl
  unfold x_X7_member at hF
  refine lv_aload_n hx hb dX7_member_0 rfl (lv_at hl 0 rfl) ?_
  refine cg_X7_9 hC hH dX7_member_1 ?_
  refine lv_iload_n hx hb dX7_member_4 rfl (lv_at hl 1 rfl) ?_
  refine lv_iconst (v := 4) hx hb dX7_member_5 (by decide) ?_
  refine lv_iload_n hx hb dX7_member_6 rfl (lv_at hl 2 rfl) ?_
  refine lv_iadd hx hb dX7_member_7 ?_
  obtain ⟨r_1, u_2, h_3, hF⟩ := ncl_some hF
  refine ccS_i (As := [.int a0, .int (4 + a1)]) (rest := [.ref (Q 1)]) hC hH (n_X1_ofClass l G Z Q _ T u u_2 r_1 a0 (4 + a1) _ h_3) ⟨wkc_X1_ofClass, wka340, wka435, wka745⟩ kSX1_ofClass ⟨Nat.le_of_ble_eq_true rfl, Nat.le_of_ble_eq_true rfl⟩ rfl hl.1 rfl (Nat.le_of_ble_eq_true rfl) dX7_member_8 (fun D H locs hH => ?_)
  refine bat (i := 1) (j := 11) hC hH rfl rfl (by decide) wka337 ⟨Nat.le_of_ble_eq_true rfl, Nat.le_of_ble_eq_true rfl⟩ hl.1 (Nat.le_of_ble_eq_true rfl) ⟨Nat.zero_le _, Nat.zero_le _⟩ dX7_member_11 ?_
  obtain ⟨x_4, u_5, h_6, hF⟩ := ncl_some hF
  obtain ⟨e_7, rfl⟩ := nGT_eq h_6
  refine gx_ti e_7 ?_
  exact cr_i hC hH hr (nrt_eq hF) dX7_member_14 hlocks
def x_X7_areAlike (a0 : Int32) (a1 : Int32) : NG Int32 := ncl (nGT 19 96 a0) (fun x_1 => ncl (nGT 19 96 a1) (fun x_5 => (if x_1 = x_5 then ncl (nGT 20 96 a0) (fun x_10 => ncl (nGT 20 96 a1) (fun x_14 => (if x_10 = x_14 then nrt 1 else nrt 0))) else nrt 0)))
set_option maxHeartbeats 4000000 in
set_option maxRecDepth 100000 in
theorem n_X7_areAlike (l : Launch) (G : gG) (Z : gC) (Q : Nat → Nat) (D : Nat × Nat) (T : va_W) (u u1 : MS) (r : Int32) (a0 : Int32) (a1 : Int32) (sz : Nat) (hF : x_X7_areAlike a0 a1 u = some (r, u1)) : Met l yX7_areAlike (Cond.code yX7_areAlike cX7_areAlike 3 (some .boolean) :: wK) { frames := 1, cells := 0, slots := 0, locals := 22 } (va_Pc [.ref (Q 8), .int a0, .int a1] (cPM G Z Q D T u sz)) (cQi G Q T u1 r (va_A (cW G Q D T u) sz)) 0 0 (va_A (cW G Q D T u) sz) := by
  refine Met.ofW (cc := cX7_areAlike) (maxL := 3) (ret := (some .boolean)) (by decide) rfl ?_
  intro p e s m args below meth c s₁ B hml hv
  obtain ⟨rfl, rfl, hP, hB, hD0, hE⟩ := hv
  have hr := B.returns
  have hlocks := B.notSynchronized
  have hts := atoms_spec (ws := Cond.code yX7_areAlike cX7_areAlike 3 (some .boolean) :: wK) B.pre
  have hD := hD0.self (sz := s.heap.size)
  have hA : ∀ q : Nat, s.heap.size ≤ q → va_A (cW G Q D T u) s.heap.size q := fun q h => Or.inr h
  generalize va_A (cW G Q D T u) s.heap.size = A at hD hA hE ⊢
  have hC : cX p c cX7_areAlike 3 s m _ RX7 G Z A := ⟨B.exec, B.bytes, hml, findClass_of_methodNamed B.named, fun w h => hts w (List.mem_cons_of_mem _ h), hB, hE, hA⟩
  have hx := hC.1
  have hb := hC.2.1
  have hH : cH G Q D T A u s s.heap [] := ⟨hP, hD, va_S.rf⟩
  have hl := lv_entry ([.ref (Q 8), .int a0, .int a1]) (n := 3) (Nat.le_of_ble_eq_true rfl)
  rw [lg_entry_eq]
  generalize (lg_sl ([.ref (Q 8), .int a0, .int a1]) ++ List.replicate (3 - (lg_sl ([.ref (Q 8), .int a0, .int a1])).length) Slot.unset).toArray = ls at hl ⊢
  have hl : lv_has ls 3 [(0, .ref (Q 8)), (1, .int a0), (2, .int a1)] := hl
  unfold x_X7_areAlike at hF
  refine lv_aload_n hx hb dX7_areAlike_0 rfl (lv_at hl 0 rfl) ?_
  refine cg_X7_24 hC hH dX7_areAlike_1 ?_
  refine lv_iload_n hx hb dX7_areAlike_4 rfl (lv_at hl 1 rfl) ?_
  refine rg_18 hC hH wka334 ⟨Nat.le_of_ble_eq_true rfl, Nat.le_of_ble_eq_true rfl⟩ hl.1 (Nat.le_of_ble_eq_true rfl) ⟨Nat.zero_le _, Nat.zero_le _⟩ dX7_areAlike_5 ?_
  obtain ⟨x_1, u_2, h_3, hF⟩ := ncl_some hF
  obtain ⟨e_4, rfl⟩ := nGT_eq h_3
  refine gx_ti e_4 ?_
  refine lv_aload_n hx hb dX7_areAlike_8 rfl (lv_at hl 0 rfl) ?_
  refine cg_X7_24 hC hH dX7_areAlike_9 ?_
  refine lv_iload_n hx hb dX7_areAlike_12 rfl (lv_at hl 2 rfl) ?_
  refine rg_18 hC hH wka334 ⟨Nat.le_of_ble_eq_true rfl, Nat.le_of_ble_eq_true rfl⟩ hl.1 (Nat.le_of_ble_eq_true rfl) ⟨Nat.zero_le _, Nat.zero_le _⟩ dX7_areAlike_13 ?_
  obtain ⟨x_5, u_6, h_7, hF⟩ := ncl_some hF
  obtain ⟨e_8, rfl⟩ := nGT_eq h_7
  refine gx_ti e_8 ?_
  refine lv_icmp_ne (tgt := 42) hx hb dX7_areAlike_16 (by decide) (fun c_9 => ?_) (fun c_9 => ?_)
  · rw [if_neg c_9] at hF
    refine lv_iconst (v := 0) hx hb dX7_areAlike_42 (by decide) ?_
    exact cr_z hC hH hr rfl (nrt_eq hF) dX7_areAlike_43 hlocks
  · rw [if_pos c_9] at hF
    refine lv_aload_n hx hb dX7_areAlike_19 rfl (lv_at hl 0 rfl) ?_
    refine cg_X7_28 hC hH dX7_areAlike_20 ?_
    refine lv_iload_n hx hb dX7_areAlike_23 rfl (lv_at hl 1 rfl) ?_
    refine rg_19 hC hH wka334 ⟨Nat.le_of_ble_eq_true rfl, Nat.le_of_ble_eq_true rfl⟩ hl.1 (Nat.le_of_ble_eq_true rfl) ⟨Nat.zero_le _, Nat.zero_le _⟩ dX7_areAlike_24 ?_
    obtain ⟨x_10, u_11, h_12, hF⟩ := ncl_some hF
    obtain ⟨e_13, rfl⟩ := nGT_eq h_12
    refine gx_ti e_13 ?_
    refine lv_aload_n hx hb dX7_areAlike_27 rfl (lv_at hl 0 rfl) ?_
    refine cg_X7_28 hC hH dX7_areAlike_28 ?_
    refine lv_iload_n hx hb dX7_areAlike_31 rfl (lv_at hl 2 rfl) ?_
    refine rg_19 hC hH wka334 ⟨Nat.le_of_ble_eq_true rfl, Nat.le_of_ble_eq_true rfl⟩ hl.1 (Nat.le_of_ble_eq_true rfl) ⟨Nat.zero_le _, Nat.zero_le _⟩ dX7_areAlike_32 ?_
    obtain ⟨x_14, u_15, h_16, hF⟩ := ncl_some hF
    obtain ⟨e_17, rfl⟩ := nGT_eq h_16
    refine gx_ti e_17 ?_
    refine lv_icmp_ne (tgt := 42) hx hb dX7_areAlike_35 (by decide) (fun c_18 => ?_) (fun c_18 => ?_)
    · rw [if_neg c_18] at hF
      refine lv_iconst (v := 0) hx hb dX7_areAlike_42 (by decide) ?_
      exact cr_z hC hH hr rfl (nrt_eq hF) dX7_areAlike_43 hlocks
    · rw [if_pos c_18] at hF
      refine lv_iconst (v := 1) hx hb dX7_areAlike_38 (by decide) ?_
      refine lv_goto (tgt := 43) hx hb dX7_areAlike_39 (by decide) ?_
      exact cr_z hC hH hr rfl (nrt_eq hF) dX7_areAlike_43 hlocks
def x_X7_hasMore (a0 : Int32) (a1 : Int32) : NG Int32 := ncl (nGT 19 96 a0) (fun x_1 => ncl (nGT 19 96 a1) (fun x_5 => (if x_1 = x_5 then ncl (nGT 20 96 a0) (fun x_10 => ncl (nGT 20 96 a1) (fun x_14 => (if x_10 ≤ x_14 then nrt 0 else nrt 1))) else ncl (nGT 19 96 a0) (fun x_19 => ncl (nGT 19 96 a1) (fun x_23 => (if x_19 ≤ x_23 then nrt 0 else nrt 1))))))
set_option maxHeartbeats 4000000 in
set_option maxRecDepth 100000 in
theorem n_X7_hasMore (l : Launch) (G : gG) (Z : gC) (Q : Nat → Nat) (D : Nat × Nat) (T : va_W) (u u1 : MS) (r : Int32) (a0 : Int32) (a1 : Int32) (sz : Nat) (hF : x_X7_hasMore a0 a1 u = some (r, u1)) : Met l yX7_hasMore (Cond.code yX7_hasMore cX7_hasMore 3 (some .boolean) :: wK) { frames := 1, cells := 0, slots := 0, locals := 22 } (va_Pc [.ref (Q 8), .int a0, .int a1] (cPM G Z Q D T u sz)) (cQi G Q T u1 r (va_A (cW G Q D T u) sz)) 0 0 (va_A (cW G Q D T u) sz) := by
  refine Met.ofW (cc := cX7_hasMore) (maxL := 3) (ret := (some .boolean)) (by decide) rfl ?_
  intro p e s m args below meth c s₁ B hml hv
  obtain ⟨rfl, rfl, hP, hB, hD0, hE⟩ := hv
  have hr := B.returns
  have hlocks := B.notSynchronized
  have hts := atoms_spec (ws := Cond.code yX7_hasMore cX7_hasMore 3 (some .boolean) :: wK) B.pre
  have hD := hD0.self (sz := s.heap.size)
  have hA : ∀ q : Nat, s.heap.size ≤ q → va_A (cW G Q D T u) s.heap.size q := fun q h => Or.inr h
  generalize va_A (cW G Q D T u) s.heap.size = A at hD hA hE ⊢
  have hC : cX p c cX7_hasMore 3 s m _ RX7 G Z A := ⟨B.exec, B.bytes, hml, findClass_of_methodNamed B.named, fun w h => hts w (List.mem_cons_of_mem _ h), hB, hE, hA⟩
  have hx := hC.1
  have hb := hC.2.1
  have hH : cH G Q D T A u s s.heap [] := ⟨hP, hD, va_S.rf⟩
  have hl := lv_entry ([.ref (Q 8), .int a0, .int a1]) (n := 3) (Nat.le_of_ble_eq_true rfl)
  rw [lg_entry_eq]
  generalize (lg_sl ([.ref (Q 8), .int a0, .int a1]) ++ List.replicate (3 - (lg_sl ([.ref (Q 8), .int a0, .int a1])).length) Slot.unset).toArray = ls at hl ⊢
  have hl : lv_has ls 3 [(0, .ref (Q 8)), (1, .int a0), (2, .int a1)] := hl
  unfold x_X7_hasMore at hF
  refine lv_aload_n hx hb dX7_hasMore_0 rfl (lv_at hl 0 rfl) ?_
  refine cg_X7_24 hC hH dX7_hasMore_1 ?_
  refine lv_iload_n hx hb dX7_hasMore_4 rfl (lv_at hl 1 rfl) ?_
  refine rg_18 hC hH wka334 ⟨Nat.le_of_ble_eq_true rfl, Nat.le_of_ble_eq_true rfl⟩ hl.1 (Nat.le_of_ble_eq_true rfl) ⟨Nat.zero_le _, Nat.zero_le _⟩ dX7_hasMore_5 ?_
  obtain ⟨x_1, u_2, h_3, hF⟩ := ncl_some hF
  obtain ⟨e_4, rfl⟩ := nGT_eq h_3
  refine gx_ti e_4 ?_
  refine lv_aload_n hx hb dX7_hasMore_8 rfl (lv_at hl 0 rfl) ?_
  refine cg_X7_24 hC hH dX7_hasMore_9 ?_
  refine lv_iload_n hx hb dX7_hasMore_12 rfl (lv_at hl 2 rfl) ?_
  refine rg_18 hC hH wka334 ⟨Nat.le_of_ble_eq_true rfl, Nat.le_of_ble_eq_true rfl⟩ hl.1 (Nat.le_of_ble_eq_true rfl) ⟨Nat.zero_le _, Nat.zero_le _⟩ dX7_hasMore_13 ?_
  obtain ⟨x_5, u_6, h_7, hF⟩ := ncl_some hF
  obtain ⟨e_8, rfl⟩ := nGT_eq h_7
  refine gx_ti e_8 ?_
  refine lv_icmp_eq (tgt := 44) hx hb dX7_hasMore_16 (by decide) (fun c_9 => ?_) (fun c_9 => ?_)
  · rw [if_pos c_9] at hF
    refine lv_aload_n hx hb dX7_hasMore_44 rfl (lv_at hl 0 rfl) ?_
    refine cg_X7_28 hC hH dX7_hasMore_45 ?_
    refine lv_iload_n hx hb dX7_hasMore_48 rfl (lv_at hl 1 rfl) ?_
    refine rg_19 hC hH wka334 ⟨Nat.le_of_ble_eq_true rfl, Nat.le_of_ble_eq_true rfl⟩ hl.1 (Nat.le_of_ble_eq_true rfl) ⟨Nat.zero_le _, Nat.zero_le _⟩ dX7_hasMore_49 ?_
    obtain ⟨x_10, u_11, h_12, hF⟩ := ncl_some hF
    obtain ⟨e_13, rfl⟩ := nGT_eq h_12
    refine gx_ti e_13 ?_
    refine lv_aload_n hx hb dX7_hasMore_52 rfl (lv_at hl 0 rfl) ?_
    refine cg_X7_28 hC hH dX7_hasMore_53 ?_
    refine lv_iload_n hx hb dX7_hasMore_56 rfl (lv_at hl 2 rfl) ?_
    refine rg_19 hC hH wka334 ⟨Nat.le_of_ble_eq_true rfl, Nat.le_of_ble_eq_true rfl⟩ hl.1 (Nat.le_of_ble_eq_true rfl) ⟨Nat.zero_le _, Nat.zero_le _⟩ dX7_hasMore_57 ?_
    obtain ⟨x_14, u_15, h_16, hF⟩ := ncl_some hF
    obtain ⟨e_17, rfl⟩ := nGT_eq h_16
    refine gx_ti e_17 ?_
    refine lv_icmp_le (tgt := 67) hx hb dX7_hasMore_60 (by decide) (fun c_18 => ?_) (fun c_18 => ?_)
    · rw [if_pos c_18] at hF
      refine lv_iconst (v := 0) hx hb dX7_hasMore_67 (by decide) ?_
      exact cr_z hC hH hr rfl (nrt_eq hF) dX7_hasMore_68 hlocks
    · rw [if_neg c_18] at hF
      refine lv_iconst (v := 1) hx hb dX7_hasMore_63 (by decide) ?_
      refine lv_goto (tgt := 68) hx hb dX7_hasMore_64 (by decide) ?_
      exact cr_z hC hH hr rfl (nrt_eq hF) dX7_hasMore_68 hlocks
  · rw [if_neg c_9] at hF
    refine lv_aload_n hx hb dX7_hasMore_19 rfl (lv_at hl 0 rfl) ?_
    refine cg_X7_24 hC hH dX7_hasMore_20 ?_
    refine lv_iload_n hx hb dX7_hasMore_23 rfl (lv_at hl 1 rfl) ?_
    refine rg_18 hC hH wka334 ⟨Nat.le_of_ble_eq_true rfl, Nat.le_of_ble_eq_true rfl⟩ hl.1 (Nat.le_of_ble_eq_true rfl) ⟨Nat.zero_le _, Nat.zero_le _⟩ dX7_hasMore_24 ?_
    obtain ⟨x_19, u_20, h_21, hF⟩ := ncl_some hF
    obtain ⟨e_22, rfl⟩ := nGT_eq h_21
    refine gx_ti e_22 ?_
    refine lv_aload_n hx hb dX7_hasMore_27 rfl (lv_at hl 0 rfl) ?_
    refine cg_X7_24 hC hH dX7_hasMore_28 ?_
    refine lv_iload_n hx hb dX7_hasMore_31 rfl (lv_at hl 2 rfl) ?_
    refine rg_18 hC hH wka334 ⟨Nat.le_of_ble_eq_true rfl, Nat.le_of_ble_eq_true rfl⟩ hl.1 (Nat.le_of_ble_eq_true rfl) ⟨Nat.zero_le _, Nat.zero_le _⟩ dX7_hasMore_32 ?_
    obtain ⟨x_23, u_24, h_25, hF⟩ := ncl_some hF
    obtain ⟨e_26, rfl⟩ := nGT_eq h_25
    refine gx_ti e_26 ?_
    refine lv_icmp_le (tgt := 42) hx hb dX7_hasMore_35 (by decide) (fun c_27 => ?_) (fun c_27 => ?_)
    · rw [if_pos c_27] at hF
      refine lv_iconst (v := 0) hx hb dX7_hasMore_42 (by decide) ?_
      exact cr_z hC hH hr rfl (nrt_eq hF) dX7_hasMore_43 hlocks
    · rw [if_neg c_27] at hF
      refine lv_iconst (v := 1) hx hb dX7_hasMore_38 (by decide) ?_
      refine lv_goto (tgt := 43) hx hb dX7_hasMore_39 (by decide) ?_
      exact cr_z hC hH hr rfl (nrt_eq hF) dX7_hasMore_43 hlocks
def xl_X7_beat_3 : Nat → Int32 → Int32 → Int32 → Int32 → (Int32 → Int32 → Int32 → Int32 → NG Int32) → NG Int32
  | 0, _, _, _, _, _ => fun _ => none
  | n3 + 1, v1, v2, v3, v4, K3_52 => ncl (x_X0_fightsOf v1) (fun r_1 => (if r_1 ≤ v4 then K3_52 v1 v2 v3 v4 else ncl (x_X0_winnerOf v1 v4) (fun r_5 => (if r_5 = v2 then ncl (x_X0_loserOf v1 v4) (fun r_11 => (if r_11 = v3 then nrt 1 else nli (v4 + 1) (fun x_15 => xl_X7_beat_3 n3 v1 v2 v3 x_15 K3_52))) else nli (v4 + 1) (fun x_9 => xl_X7_beat_3 n3 v1 v2 v3 x_9 K3_52)))))
def x_X7_beat (a0 : Int32) (a1 : Int32) (a2 : Int32) : NG Int32 := xl_X7_beat_3 fuel a0 a1 a2 0 (fun v1 v2 v3 v4 => nrt 0)
set_option maxHeartbeats 4000000 in
set_option maxRecDepth 100000 in
theorem n_X7_beat (l : Launch) (G : gG) (Z : gC) (Q : Nat → Nat) (D : Nat × Nat) (T : va_W) (u u1 : MS) (r : Int32) (a0 : Int32) (a1 : Int32) (a2 : Int32) (sz : Nat) (hF : x_X7_beat a0 a1 a2 u = some (r, u1)) : Met l yX7_beat (Cond.code yX7_beat cX7_beat 5 (some .boolean) :: wK) { frames := 3, cells := 0, slots := 0, locals := 67 } (va_Pc [.ref (Q 8), .int a0, .int a1, .int a2] (cPM G Z Q D T u sz)) (cQi G Q T u1 r (va_A (cW G Q D T u) sz)) 0 0 (va_A (cW G Q D T u) sz) := by
  refine Met.ofW (cc := cX7_beat) (maxL := 5) (ret := (some .boolean)) (by decide) rfl ?_
  intro p e s m args below meth c s₁ B hml hv
  obtain ⟨rfl, rfl, hP, hB, hD0, hE⟩ := hv
  have hr := B.returns
  have hlocks := B.notSynchronized
  have hts := atoms_spec (ws := Cond.code yX7_beat cX7_beat 5 (some .boolean) :: wK) B.pre
  have hD := hD0.self (sz := s.heap.size)
  have hA : ∀ q : Nat, s.heap.size ≤ q → va_A (cW G Q D T u) s.heap.size q := fun q h => Or.inr h
  generalize va_A (cW G Q D T u) s.heap.size = A at hD hA hE ⊢
  have hC : cX p c cX7_beat 5 s m _ RX7 G Z A := ⟨B.exec, B.bytes, hml, findClass_of_methodNamed B.named, fun w h => hts w (List.mem_cons_of_mem _ h), hB, hE, hA⟩
  have hx := hC.1
  have hb := hC.2.1
  have hH : cH G Q D T A u s s.heap [] := ⟨hP, hD, va_S.rf⟩
  have hl := lv_entry ([.ref (Q 8), .int a0, .int a1, .int a2]) (n := 5) (Nat.le_of_ble_eq_true rfl)
  rw [lg_entry_eq]
  generalize (lg_sl ([.ref (Q 8), .int a0, .int a1, .int a2]) ++ List.replicate (5 - (lg_sl ([.ref (Q 8), .int a0, .int a1, .int a2])).length) Slot.unset).toArray = ls at hl ⊢
  have hl : lv_has ls 5 [(0, .ref (Q 8)), (1, .int a0), (2, .int a1), (3, .int a2)] := hl
  unfold x_X7_beat at hF
  refine lv_iconst (v := 0) hx hb dX7_beat_0 (by decide) ?_
  refine lv_istore (lv' := [(4, .int 0), (0, .ref (Q 8)), (1, .int a0), (2, .int a1), (3, .int a2)]) hx hb dX7_beat_1 hl (by decide) rfl (fun ls hl => ?_)
  have hL3 : ∀ (K3_52 : Int32 → Int32 → Int32 → Int32 → NG Int32), (∀ (v1 v2 v3 v4 : Int32) (u : MS) (D : Nat × Nat) (H : Heap) (locs : List Loc) (ls : Array Slot), lv_has ls 5 [(0, .ref (Q 8)), (1, .int v1), (2, .int v2), (3, .int v3), (4, .int v4)] → cH G Q D T A u s H locs → K3_52 v1 v2 v3 v4 u = some (r, u1) → W p l e (headSpec (Cond.code yX7_beat cX7_beat 5 (some .boolean) :: wK) { frames := 3, cells := 0, slots := 0, locals := 67 }).room s m [.ref (Q 8), .int a0, .int a1, .int a2].toArray below meth c H locs 0 0 (MQ below (cQi G Q T u1 r A) [.ref (Q 8), .int a0, .int a1, .int a2].toArray s 0 0 A) (F0 m 52 ls [])) → ∀ (n3 : Nat) (v1 v2 v3 v4 : Int32) (u : MS) (D : Nat × Nat) (H : Heap) (locs : List Loc) (ls : Array Slot), lv_has ls 5 [(0, .ref (Q 8)), (1, .int v1), (2, .int v2), (3, .int v3), (4, .int v4)] → cH G Q D T A u s H locs → xl_X7_beat_3 n3 v1 v2 v3 v4 K3_52 u = some (r, u1) → W p l e (headSpec (Cond.code yX7_beat cX7_beat 5 (some .boolean) :: wK) { frames := 3, cells := 0, slots := 0, locals := 67 }).room s m [.ref (Q 8), .int a0, .int a1, .int a2].toArray below meth c H locs 0 0 (MQ below (cQi G Q T u1 r A) [.ref (Q 8), .int a0, .int a1, .int a2].toArray s 0 0 A) (F0 m 3 ls []) := by
    intro K3_52 hK3_52 n3
    induction n3 with
    | zero => intro v1 v2 v3 v4 u D H locs ls hl hH hF; cases hF
    | succ n3 ih3 =>
      intro v1 v2 v3 v4 u D H locs ls hl hH hF
      unfold xl_X7_beat_3 at hF
      refine lv_iload hx hb dX7_beat_3 (lv_at hl 4 rfl) ?_
      refine lv_aload_n hx hb dX7_beat_5 rfl (lv_at hl 0 rfl) ?_
      refine cg_X7_15 hC hH dX7_beat_6 ?_
      refine lv_iload_n hx hb dX7_beat_9 rfl (lv_at hl 1 rfl) ?_
      obtain ⟨r_1, u_2, h_3, hF⟩ := ncl_some hF
      refine ccV_i (q0 := 6) (As := [.int v1]) (rest := [.int v4]) hC hH (n_X0_fightsOf l G Z Q _ T u u_2 r_1 v1 _ h_3) rfl rfl ⟨wkc_X0_fightsOf, wka330, wka396, wka397, wka744⟩ kVX0_fightsOf ⟨Nat.le_of_ble_eq_true rfl, Nat.le_of_ble_eq_true rfl⟩ rfl hl.1 rfl (Nat.le_of_ble_eq_true rfl) dX7_beat_10 (fun D H locs hH => ?_)
      refine lv_icmp_ge (tgt := 52) hx hb dX7_beat_13 (by decide) (fun c_4 => ?_) (fun c_4 => ?_)
      · rw [if_pos c_4] at hF
        exact hK3_52 v1 v2 v3 v4 u_2 _ _ _ _ (lv_sub hl [0, 1, 2, 3, 4] rfl) hH hF
      · rw [if_neg c_4] at hF
        refine lv_aload_n hx hb dX7_beat_16 rfl (lv_at hl 0 rfl) ?_
        refine cg_X7_15 hC hH dX7_beat_17 ?_
        refine lv_iload_n hx hb dX7_beat_20 rfl (lv_at hl 1 rfl) ?_
        refine lv_iload hx hb dX7_beat_21 (lv_at hl 4 rfl) ?_
        obtain ⟨r_5, u_6, h_7, hF⟩ := ncl_some hF
        refine ccV_i (q0 := 6) (As := [.int v1, .int v4]) (rest := []) hC hH (n_X0_winnerOf l G Z Q _ T u_2 u_6 r_5 v1 v4 _ h_7) rfl rfl ⟨wkc_X0_winnerOf, wka333, wka405, wka406, wka744⟩ kVX0_winnerOf ⟨Nat.le_of_ble_eq_true rfl, Nat.le_of_ble_eq_true rfl⟩ rfl hl.1 rfl (Nat.le_of_ble_eq_true rfl) dX7_beat_23 (fun D H locs hH => ?_)
        refine lv_iload_n hx hb dX7_beat_26 rfl (lv_at hl 2 rfl) ?_
        refine lv_icmp_ne (tgt := 46) hx hb dX7_beat_27 (by decide) (fun c_8 => ?_) (fun c_8 => ?_)
        · rw [if_neg c_8] at hF
          obtain ⟨x_9, e_10, hF⟩ := nli_some hF
          refine lv_iinc (v := x_9) (lv' := [(4, .int x_9), (0, .ref (Q 8)), (1, .int v1), (2, .int v2), (3, .int v3)]) hx hb dX7_beat_46 hl (k := 4) rfl e_10 (by decide) rfl (fun ls hl => ?_)
          refine lv_goto (tgt := 3) hx hb dX7_beat_49 (by decide) ?_
          exact ih3 v1 v2 v3 x_9 u_6 _ _ _ _ (lv_sub hl [1, 2, 3, 4, 0] rfl) hH hF
        · rw [if_pos c_8] at hF
          refine lv_aload_n hx hb dX7_beat_30 rfl (lv_at hl 0 rfl) ?_
          refine cg_X7_15 hC hH dX7_beat_31 ?_
          refine lv_iload_n hx hb dX7_beat_34 rfl (lv_at hl 1 rfl) ?_
          refine lv_iload hx hb dX7_beat_35 (lv_at hl 4 rfl) ?_
          obtain ⟨r_11, u_12, h_13, hF⟩ := ncl_some hF
          refine ccV_i (q0 := 6) (As := [.int v1, .int v4]) (rest := []) hC hH (n_X0_loserOf l G Z Q _ T u_6 u_12 r_11 v1 v4 _ h_13) rfl rfl ⟨wkc_X0_loserOf, wka345, wka409, wka410, wka744⟩ kVX0_loserOf ⟨Nat.le_of_ble_eq_true rfl, Nat.le_of_ble_eq_true rfl⟩ rfl hl.1 rfl (Nat.le_of_ble_eq_true rfl) dX7_beat_37 (fun D H locs hH => ?_)
          refine lv_iload_n hx hb dX7_beat_40 rfl (lv_at hl 3 rfl) ?_
          refine lv_icmp_ne (tgt := 46) hx hb dX7_beat_41 (by decide) (fun c_14 => ?_) (fun c_14 => ?_)
          · rw [if_neg c_14] at hF
            obtain ⟨x_15, e_16, hF⟩ := nli_some hF
            refine lv_iinc (v := x_15) (lv' := [(4, .int x_15), (0, .ref (Q 8)), (1, .int v1), (2, .int v2), (3, .int v3)]) hx hb dX7_beat_46 hl (k := 4) rfl e_16 (by decide) rfl (fun ls hl => ?_)
            refine lv_goto (tgt := 3) hx hb dX7_beat_49 (by decide) ?_
            exact ih3 v1 v2 v3 x_15 u_12 _ _ _ _ (lv_sub hl [1, 2, 3, 4, 0] rfl) hH hF
          · rw [if_pos c_14] at hF
            refine lv_iconst (v := 1) hx hb dX7_beat_44 (by decide) ?_
            exact cr_z hC hH hr rfl (nrt_eq hF) dX7_beat_45 hlocks
  refine hL3 _ (fun v1 v2 v3 v4 u D H locs ls hl hH hF => ?_) fuel a0 a1 a2 0 u _ _ _ _ (lv_sub hl [1, 2, 3, 4, 0] rfl) hH hF
  refine lv_iconst (v := 0) hx hb dX7_beat_52 (by decide) ?_
  exact cr_z hC hH hr rfl (nrt_eq hF) dX7_beat_53 hlocks
def x_X7_breaksTie (a0 : Int32) (a1 : Int32) (a2 : Int32) (a3 : Int32) : NG Int32 := (if a3 = 2 then ncl (x_X7_beat a0 a1 a2) (fun r_19 => nog (gb r_19) (nrt r_19)) else ncl (x_X1_ofFighter a1 2) (fun r_2 => ncl (nGT 0 2088 r_2) (fun x_5 => ncl (x_X1_ofFighter a2 2) (fun r_9 => ncl (nGT 0 2088 r_9) (fun x_12 => (if x_5 = x_12 then (if a2 ≤ a1 then nrt 0 else nrt 1) else (if x_12 ≤ x_5 then nrt 0 else nrt 1)))))))
set_option maxHeartbeats 4000000 in
set_option maxRecDepth 100000 in
theorem n_X7_breaksTie (l : Launch) (G : gG) (Z : gC) (Q : Nat → Nat) (D : Nat × Nat) (T : va_W) (u u1 : MS) (r : Int32) (a0 : Int32) (a1 : Int32) (a2 : Int32) (a3 : Int32) (sz : Nat) (hF : x_X7_breaksTie a0 a1 a2 a3 u = some (r, u1)) : Met l yX7_breaksTie (Cond.code yX7_breaksTie cX7_breaksTie 7 (some .boolean) :: wK) { frames := 4, cells := 0, slots := 0, locals := 91 } (va_Pc [.ref (Q 8), .int a0, .int a1, .int a2, .int a3] (cPM G Z Q D T u sz)) (cQi G Q T u1 r (va_A (cW G Q D T u) sz)) 0 0 (va_A (cW G Q D T u) sz) := by
  refine Met.ofW (cc := cX7_breaksTie) (maxL := 7) (ret := (some .boolean)) (by decide) rfl ?_
  intro p e s m args below meth c s₁ B hml hv
  obtain ⟨rfl, rfl, hP, hB, hD0, hE⟩ := hv
  have hr := B.returns
  have hlocks := B.notSynchronized
  have hts := atoms_spec (ws := Cond.code yX7_breaksTie cX7_breaksTie 7 (some .boolean) :: wK) B.pre
  have hD := hD0.self (sz := s.heap.size)
  have hA : ∀ q : Nat, s.heap.size ≤ q → va_A (cW G Q D T u) s.heap.size q := fun q h => Or.inr h
  generalize va_A (cW G Q D T u) s.heap.size = A at hD hA hE ⊢
  have hC : cX p c cX7_breaksTie 7 s m _ RX7 G Z A := ⟨B.exec, B.bytes, hml, findClass_of_methodNamed B.named, fun w h => hts w (List.mem_cons_of_mem _ h), hB, hE, hA⟩
  have hx := hC.1
  have hb := hC.2.1
  have hH : cH G Q D T A u s s.heap [] := ⟨hP, hD, va_S.rf⟩
  have hl := lv_entry ([.ref (Q 8), .int a0, .int a1, .int a2, .int a3]) (n := 7) (Nat.le_of_ble_eq_true rfl)
  rw [lg_entry_eq]
  generalize (lg_sl ([.ref (Q 8), .int a0, .int a1, .int a2, .int a3]) ++ List.replicate (7 - (lg_sl ([.ref (Q 8), .int a0, .int a1, .int a2, .int a3])).length) Slot.unset).toArray = ls at hl ⊢
  have hl : lv_has ls 7 [(0, .ref (Q 8)), (1, .int a0), (2, .int a1), (3, .int a2), (4, .int a3)] := hl
  unfold x_X7_breaksTie at hF
  refine lv_iload hx hb dX7_breaksTie_0 (lv_at hl 4 rfl) ?_
  refine lv_iconst (v := 2) hx hb dX7_breaksTie_2 (by decide) ?_
  refine lv_icmp_ne (tgt := 14) hx hb dX7_breaksTie_3 (by decide) (fun c_1 => ?_) (fun c_1 => ?_)
  · rw [if_neg c_1] at hF
    refine lv_aload_n hx hb dX7_breaksTie_14 rfl (lv_at hl 0 rfl) ?_
    refine cg_X7_9 hC hH dX7_breaksTie_15 ?_
    refine lv_iload_n hx hb dX7_breaksTie_18 rfl (lv_at hl 2 rfl) ?_
    refine lv_iconst (v := 2) hx hb dX7_breaksTie_19 (by decide) ?_
    obtain ⟨r_2, u_3, h_4, hF⟩ := ncl_some hF
    refine ccS_i (As := [.int a1, .int 2]) (rest := [.ref (Q 1)]) hC hH (n_X1_ofFighter l G Z Q _ T u u_3 r_2 a1 2 _ h_4) ⟨wkc_X1_ofFighter, wka346, wka436, wka745⟩ kSX1_ofFighter ⟨Nat.le_of_ble_eq_true rfl, Nat.le_of_ble_eq_true rfl⟩ rfl hl.1 rfl (Nat.le_of_ble_eq_true rfl) dX7_breaksTie_20 (fun D H locs hH => ?_)
    refine bat (i := 1) (j := 11) hC hH rfl rfl (by decide) wka337 ⟨Nat.le_of_ble_eq_true rfl, Nat.le_of_ble_eq_true rfl⟩ hl.1 (Nat.le_of_ble_eq_true rfl) ⟨Nat.zero_le _, Nat.zero_le _⟩ dX7_breaksTie_23 ?_
    obtain ⟨x_5, u_6, h_7, hF⟩ := ncl_some hF
    obtain ⟨e_8, rfl⟩ := nGT_eq h_7
    refine gx_ti e_8 ?_
    refine lv_istore (lv' := [(5, .int x_5), (0, .ref (Q 8)), (1, .int a0), (2, .int a1), (3, .int a2), (4, .int a3)]) hx hb dX7_breaksTie_26 hl (by decide) rfl (fun ls hl => ?_)
    refine lv_aload_n hx hb dX7_breaksTie_28 rfl (lv_at hl 1 rfl) ?_
    refine cg_X7_9 hC hH dX7_breaksTie_29 ?_
    refine lv_iload_n hx hb dX7_breaksTie_32 rfl (lv_at hl 4 rfl) ?_
    refine lv_iconst (v := 2) hx hb dX7_breaksTie_33 (by decide) ?_
    obtain ⟨r_9, u_10, h_11, hF⟩ := ncl_some hF
    refine ccS_i (As := [.int a2, .int 2]) (rest := [.ref (Q 1)]) hC hH (n_X1_ofFighter l G Z Q _ T u_3 u_10 r_9 a2 2 _ h_11) ⟨wkc_X1_ofFighter, wka346, wka436, wka745⟩ kSX1_ofFighter ⟨Nat.le_of_ble_eq_true rfl, Nat.le_of_ble_eq_true rfl⟩ rfl hl.1 rfl (Nat.le_of_ble_eq_true rfl) dX7_breaksTie_34 (fun D H locs hH => ?_)
    refine bat (i := 1) (j := 11) hC hH rfl rfl (by decide) wka337 ⟨Nat.le_of_ble_eq_true rfl, Nat.le_of_ble_eq_true rfl⟩ hl.1 (Nat.le_of_ble_eq_true rfl) ⟨Nat.zero_le _, Nat.zero_le _⟩ dX7_breaksTie_37 ?_
    obtain ⟨x_12, u_13, h_14, hF⟩ := ncl_some hF
    obtain ⟨e_15, rfl⟩ := nGT_eq h_14
    refine gx_ti e_15 ?_
    refine lv_istore (lv' := [(6, .int x_12), (5, .int x_5), (0, .ref (Q 8)), (1, .int a0), (2, .int a1), (3, .int a2), (4, .int a3)]) hx hb dX7_breaksTie_40 hl (by decide) rfl (fun ls hl => ?_)
    refine lv_iload hx hb dX7_breaksTie_42 (lv_at hl 1 rfl) ?_
    refine lv_iload hx hb dX7_breaksTie_44 (lv_at hl 0 rfl) ?_
    refine lv_icmp_eq (tgt := 64) hx hb dX7_breaksTie_46 (by decide) (fun c_16 => ?_) (fun c_16 => ?_)
    · rw [if_pos c_16] at hF
      refine lv_iload_n hx hb dX7_breaksTie_64 rfl (lv_at hl 4 rfl) ?_
      refine lv_iload_n hx hb dX7_breaksTie_65 rfl (lv_at hl 5 rfl) ?_
      refine lv_icmp_ge (tgt := 73) hx hb dX7_breaksTie_66 (by decide) (fun c_17 => ?_) (fun c_17 => ?_)
      · rw [if_pos c_17] at hF
        refine lv_iconst (v := 0) hx hb dX7_breaksTie_73 (by decide) ?_
        exact cr_z hC hH hr rfl (nrt_eq hF) dX7_breaksTie_74 hlocks
      · rw [if_neg c_17] at hF
        refine lv_iconst (v := 1) hx hb dX7_breaksTie_69 (by decide) ?_
        refine lv_goto (tgt := 74) hx hb dX7_breaksTie_70 (by decide) ?_
        exact cr_z hC hH hr rfl (nrt_eq hF) dX7_breaksTie_74 hlocks
    · rw [if_neg c_16] at hF
      refine lv_iload hx hb dX7_breaksTie_49 (lv_at hl 1 rfl) ?_
      refine lv_iload hx hb dX7_breaksTie_51 (lv_at hl 0 rfl) ?_
      refine lv_icmp_ge (tgt := 60) hx hb dX7_breaksTie_53 (by decide) (fun c_18 => ?_) (fun c_18 => ?_)
      · rw [if_pos c_18] at hF
        refine lv_iconst (v := 0) hx hb dX7_breaksTie_60 (by decide) ?_
        refine lv_goto (tgt := 74) hx hb dX7_breaksTie_61 (by decide) ?_
        exact cr_z hC hH hr rfl (nrt_eq hF) dX7_breaksTie_74 hlocks
      · rw [if_neg c_18] at hF
        refine lv_iconst (v := 1) hx hb dX7_breaksTie_56 (by decide) ?_
        refine lv_goto (tgt := 74) hx hb dX7_breaksTie_57 (by decide) ?_
        exact cr_z hC hH hr rfl (nrt_eq hF) dX7_breaksTie_74 hlocks
  · rw [if_pos c_1] at hF
    refine lv_aload_n hx hb dX7_breaksTie_6 rfl (lv_at hl 0 rfl) ?_
    refine lv_iload_n hx hb dX7_breaksTie_7 rfl (lv_at hl 1 rfl) ?_
    refine lv_iload_n hx hb dX7_breaksTie_8 rfl (lv_at hl 2 rfl) ?_
    refine lv_iload_n hx hb dX7_breaksTie_9 rfl (lv_at hl 3 rfl) ?_
    obtain ⟨r_19, u_20, h_21, hF⟩ := ncl_some hF
    refine ccV_i (q0 := 8) (As := [.int a0, .int a1, .int a2]) (rest := []) hC hH (n_X7_beat l G Z Q _ T u u_20 r_19 a0 a1 a2 _ h_21) rfl rfl ⟨wkc_X7_beat, wka344, wka626, wka627, wka751⟩ kVX7_beat ⟨Nat.le_of_ble_eq_true rfl, Nat.le_of_ble_eq_true rfl⟩ rfl hl.1 rfl (Nat.le_of_ble_eq_true rfl) dX7_breaksTie_10 (fun D H locs hH => ?_)
    obtain ⟨g_22, hF⟩ := nog_some hF
    exact cr_z hC hH hr g_22 (nrt_eq hF) dX7_breaksTie_13 hlocks
def xl_X7_aheadOf_8 : Nat → Int32 → Int32 → Int32 → Int32 → Int32 → (Int32 → Int32 → Int32 → Int32 → Int32 → NG Int32) → NG Int32
  | 0, _, _, _, _, _, _ => fun _ => none
  | n8 + 1, v1, v2, v3, v4, v5, K8_52 => ncl (x_X0_sizeOf v1) (fun r_1 => (if r_1 ≤ v5 then K8_52 v1 v2 v3 v4 v5 else ncl (x_X7_member v1 v5) (fun r_5 => ncl (x_X7_areAlike r_5 v2) (fun r_8 => (if r_8 = 0 then nli (v4 + 0) (fun x_12 => nli (v5 + 1) (fun x_14 => xl_X7_aheadOf_8 n8 v1 v2 v3 x_12 x_14 K8_52)) else nli (v4 + 1) (fun x_16 => nli (v5 + 1) (fun x_18 => xl_X7_aheadOf_8 n8 v1 v2 v3 x_16 x_18 K8_52)))))))
def xl_X7_aheadOf_55 : Nat → Int32 → Int32 → Int32 → Int32 → Int32 → (Int32 → Int32 → Int32 → Int32 → Int32 → NG Int32) → NG Int32
  | 0, _, _, _, _, _, _ => fun _ => none
  | n55 + 1, v1, v2, v3, v4, v5, K55_141 => ncl (x_X0_sizeOf v1) (fun r_20 => (if r_20 ≤ v5 then K55_141 v1 v2 v3 v4 v5 else ncl (x_X7_member v1 v5) (fun r_24 => ncl (x_X7_areAlike r_24 v2) (fun r_27 => (if r_27 = 0 then ncl (x_X7_hasMore r_24 v2) (fun r_31 => (if r_31 = 0 then nli (v3 + 0) (fun x_35 => nli (v5 + 1) (fun x_37 => xl_X7_aheadOf_55 n55 v1 v2 x_35 v4 x_37 K55_141)) else nli (v3 + 1) (fun x_39 => nli (v5 + 1) (fun x_41 => xl_X7_aheadOf_55 n55 v1 v2 x_39 v4 x_41 K55_141)))) else (if r_24 = v2 then nli (v3 + 0) (fun x_44 => nli (v5 + 1) (fun x_46 => xl_X7_aheadOf_55 n55 v1 v2 x_44 v4 x_46 K55_141)) else ncl (x_X7_breaksTie v1 r_24 v2 v4) (fun r_48 => (if r_48 = 0 then nli (v3 + 0) (fun x_52 => nli (v5 + 1) (fun x_54 => xl_X7_aheadOf_55 n55 v1 v2 x_52 v4 x_54 K55_141)) else nli (v3 + 1) (fun x_56 => nli (v5 + 1) (fun x_58 => xl_X7_aheadOf_55 n55 v1 v2 x_56 v4 x_58 K55_141))))))))))
def x_X7_aheadOf (a0 : Int32) (a1 : Int32) : NG Int32 := xl_X7_aheadOf_8 fuel a0 a1 0 0 0 (fun v1 v2 v3 v4 v5 => xl_X7_aheadOf_55 fuel v1 v2 v3 v4 0 (fun v1 v2 v3 v4 v5 => nrt v3))
set_option maxHeartbeats 4000000 in
set_option maxRecDepth 100000 in
theorem n_X7_aheadOf (l : Launch) (G : gG) (Z : gC) (Q : Nat → Nat) (D : Nat × Nat) (T : va_W) (u u1 : MS) (r : Int32) (a0 : Int32) (a1 : Int32) (sz : Nat) (hF : x_X7_aheadOf a0 a1 u = some (r, u1)) : Met l yX7_aheadOf (Cond.code yX7_aheadOf cX7_aheadOf 7 (some .int) :: wK) { frames := 5, cells := 0, slots := 0, locals := 117 } (va_Pc [.ref (Q 8), .int a0, .int a1] (cPM G Z Q D T u sz)) (cQi G Q T u1 r (va_A (cW G Q D T u) sz)) 0 0 (va_A (cW G Q D T u) sz) := by
  refine Met.ofW (cc := cX7_aheadOf) (maxL := 7) (ret := (some .int)) (by decide) rfl ?_
  intro p e s m args below meth c s₁ B hml hv
  obtain ⟨rfl, rfl, hP, hB, hD0, hE⟩ := hv
  have hr := B.returns
  have hlocks := B.notSynchronized
  have hts := atoms_spec (ws := Cond.code yX7_aheadOf cX7_aheadOf 7 (some .int) :: wK) B.pre
  have hD := hD0.self (sz := s.heap.size)
  have hA : ∀ q : Nat, s.heap.size ≤ q → va_A (cW G Q D T u) s.heap.size q := fun q h => Or.inr h
  generalize va_A (cW G Q D T u) s.heap.size = A at hD hA hE ⊢
  have hC : cX p c cX7_aheadOf 7 s m _ RX7 G Z A := ⟨B.exec, B.bytes, hml, findClass_of_methodNamed B.named, fun w h => hts w (List.mem_cons_of_mem _ h), hB, hE, hA⟩
  have hx := hC.1
  have hb := hC.2.1
  have hH : cH G Q D T A u s s.heap [] := ⟨hP, hD, va_S.rf⟩
  have hl := lv_entry ([.ref (Q 8), .int a0, .int a1]) (n := 7) (Nat.le_of_ble_eq_true rfl)
  rw [lg_entry_eq]
  generalize (lg_sl ([.ref (Q 8), .int a0, .int a1]) ++ List.replicate (7 - (lg_sl ([.ref (Q 8), .int a0, .int a1])).length) Slot.unset).toArray = ls at hl ⊢
  have hl : lv_has ls 7 [(0, .ref (Q 8)), (1, .int a0), (2, .int a1)] := hl
  unfold x_X7_aheadOf at hF
  refine lv_iconst (v := 0) hx hb dX7_aheadOf_0 (by decide) ?_
  refine lv_istore_n (lv' := [(3, .int 0), (0, .ref (Q 8)), (1, .int a0), (2, .int a1)]) hx hb dX7_aheadOf_1 rfl hl (by decide) rfl (fun ls hl => ?_)
  refine lv_iconst (v := 0) hx hb dX7_aheadOf_2 (by decide) ?_
  refine lv_istore (lv' := [(4, .int 0), (3, .int 0), (0, .ref (Q 8)), (1, .int a0), (2, .int a1)]) hx hb dX7_aheadOf_3 hl (by decide) rfl (fun ls hl => ?_)
  refine lv_iconst (v := 0) hx hb dX7_aheadOf_5 (by decide) ?_
  refine lv_istore (lv' := [(5, .int 0), (4, .int 0), (3, .int 0), (0, .ref (Q 8)), (1, .int a0), (2, .int a1)]) hx hb dX7_aheadOf_6 hl (by decide) rfl (fun ls hl => ?_)
  have hL8 : ∀ (K8_52 : Int32 → Int32 → Int32 → Int32 → Int32 → NG Int32), (∀ (v1 v2 v3 v4 v5 : Int32) (u : MS) (D : Nat × Nat) (H : Heap) (locs : List Loc) (ls : Array Slot), lv_has ls 7 [(0, .ref (Q 8)), (1, .int v1), (2, .int v2), (3, .int v3), (4, .int v4), (5, .int v5)] → cH G Q D T A u s H locs → K8_52 v1 v2 v3 v4 v5 u = some (r, u1) → W p l e (headSpec (Cond.code yX7_aheadOf cX7_aheadOf 7 (some .int) :: wK) { frames := 5, cells := 0, slots := 0, locals := 117 }).room s m [.ref (Q 8), .int a0, .int a1].toArray below meth c H locs 0 0 (MQ below (cQi G Q T u1 r A) [.ref (Q 8), .int a0, .int a1].toArray s 0 0 A) (F0 m 52 ls [])) → ∀ (n8 : Nat) (v1 v2 v3 v4 v5 : Int32) (u : MS) (D : Nat × Nat) (H : Heap) (locs : List Loc) (ls : Array Slot), lv_has ls 7 [(0, .ref (Q 8)), (1, .int v1), (2, .int v2), (3, .int v3), (4, .int v4), (5, .int v5)] → cH G Q D T A u s H locs → xl_X7_aheadOf_8 n8 v1 v2 v3 v4 v5 K8_52 u = some (r, u1) → W p l e (headSpec (Cond.code yX7_aheadOf cX7_aheadOf 7 (some .int) :: wK) { frames := 5, cells := 0, slots := 0, locals := 117 }).room s m [.ref (Q 8), .int a0, .int a1].toArray below meth c H locs 0 0 (MQ below (cQi G Q T u1 r A) [.ref (Q 8), .int a0, .int a1].toArray s 0 0 A) (F0 m 8 ls []) := by
    intro K8_52 hK8_52 n8
    induction n8 with
    | zero => intro v1 v2 v3 v4 v5 u D H locs ls hl hH hF; cases hF
    | succ n8 ih8 =>
      intro v1 v2 v3 v4 v5 u D H locs ls hl hH hF
      unfold xl_X7_aheadOf_8 at hF
      refine lv_iload hx hb dX7_aheadOf_8 (lv_at hl 5 rfl) ?_
      refine lv_aload_n hx hb dX7_aheadOf_10 rfl (lv_at hl 0 rfl) ?_
      refine cg_X7_15 hC hH dX7_aheadOf_11 ?_
      refine lv_iload_n hx hb dX7_aheadOf_14 rfl (lv_at hl 1 rfl) ?_
      obtain ⟨r_1, u_2, h_3, hF⟩ := ncl_some hF
      refine ccV_i (q0 := 6) (As := [.int v1]) (rest := [.int v5]) hC hH (n_X0_sizeOf l G Z Q _ T u u_2 r_1 v1 _ h_3) rfl rfl ⟨wkc_X0_sizeOf, wka338, wka390, wka391, wka744⟩ kVX0_sizeOf ⟨Nat.le_of_ble_eq_true rfl, Nat.le_of_ble_eq_true rfl⟩ rfl hl.1 rfl (Nat.le_of_ble_eq_true rfl) dX7_aheadOf_15 (fun D H locs hH => ?_)
      refine lv_icmp_ge (tgt := 52) hx hb dX7_aheadOf_18 (by decide) (fun c_4 => ?_) (fun c_4 => ?_)
      · rw [if_pos c_4] at hF
        exact hK8_52 v1 v2 v3 v4 v5 u_2 _ _ _ _ (lv_sub hl [0, 1, 2, 3, 4, 5] rfl) hH hF
      · rw [if_neg c_4] at hF
        refine lv_iload hx hb dX7_aheadOf_21 (lv_at hl 4 rfl) ?_
        refine lv_aload_n hx hb dX7_aheadOf_23 rfl (lv_at hl 0 rfl) ?_
        refine lv_aload_n hx hb dX7_aheadOf_24 rfl (lv_at hl 0 rfl) ?_
        refine lv_iload_n hx hb dX7_aheadOf_25 rfl (lv_at hl 1 rfl) ?_
        refine lv_iload hx hb dX7_aheadOf_26 (lv_at hl 5 rfl) ?_
        obtain ⟨r_5, u_6, h_7, hF⟩ := ncl_some hF
        refine ccV_i (q0 := 8) (As := [.int v1, .int v5]) (rest := [.ref (Q 8), .int v4]) hC hH (n_X7_member l G Z Q _ T u_2 u_6 r_5 v1 v5 _ h_7) rfl rfl ⟨wkc_X7_member, wka339, wka614, wka615, wka751⟩ kVX7_member ⟨Nat.le_of_ble_eq_true rfl, Nat.le_of_ble_eq_true rfl⟩ rfl hl.1 rfl (Nat.le_of_ble_eq_true rfl) dX7_aheadOf_28 (fun D H locs hH => ?_)
        refine lv_iload_n hx hb dX7_aheadOf_31 rfl (lv_at hl 2 rfl) ?_
        obtain ⟨r_8, u_9, h_10, hF⟩ := ncl_some hF
        refine ccV_i (q0 := 8) (As := [.int r_5, .int v2]) (rest := [.int v4]) hC hH (n_X7_areAlike l G Z Q _ T u_6 u_9 r_8 r_5 v2 _ h_10) rfl rfl ⟨wkc_X7_areAlike, wka342, wka620, wka621, wka751⟩ kVX7_areAlike ⟨Nat.le_of_ble_eq_true rfl, Nat.le_of_ble_eq_true rfl⟩ rfl hl.1 rfl (Nat.le_of_ble_eq_true rfl) dX7_aheadOf_32 (fun D H locs hH => ?_)
        refine lv_if_eq (tgt := 42) hx hb dX7_aheadOf_35 (by decide) (fun c_11 => ?_) (fun c_11 => ?_)
        · rw [if_pos c_11] at hF
          refine lv_iconst (v := 0) hx hb dX7_aheadOf_42 (by decide) ?_
          refine lv_iadd hx hb dX7_aheadOf_43 ?_
          obtain ⟨x_12, e_13, hF⟩ := nli_some hF
          refine gx_ti e_13 ?_
          refine lv_istore (lv' := [(4, .int x_12), (0, .ref (Q 8)), (1, .int v1), (2, .int v2), (3, .int v3), (5, .int v5)]) hx hb dX7_aheadOf_44 hl (by decide) rfl (fun ls hl => ?_)
          obtain ⟨x_14, e_15, hF⟩ := nli_some hF
          refine lv_iinc (v := x_14) (lv' := [(5, .int x_14), (4, .int x_12), (0, .ref (Q 8)), (1, .int v1), (2, .int v2), (3, .int v3)]) hx hb dX7_aheadOf_46 hl (k := 5) rfl e_15 (by decide) rfl (fun ls hl => ?_)
          refine lv_goto (tgt := 8) hx hb dX7_aheadOf_49 (by decide) ?_
          exact ih8 v1 v2 v3 x_12 x_14 u_9 _ _ _ _ (lv_sub hl [2, 3, 4, 5, 1, 0] rfl) hH hF
        · rw [if_neg c_11] at hF
          refine lv_iconst (v := 1) hx hb dX7_aheadOf_38 (by decide) ?_
          refine lv_goto (tgt := 43) hx hb dX7_aheadOf_39 (by decide) ?_
          refine lv_iadd hx hb dX7_aheadOf_43 ?_
          obtain ⟨x_16, e_17, hF⟩ := nli_some hF
          refine gx_ti e_17 ?_
          refine lv_istore (lv' := [(4, .int x_16), (0, .ref (Q 8)), (1, .int v1), (2, .int v2), (3, .int v3), (5, .int v5)]) hx hb dX7_aheadOf_44 hl (by decide) rfl (fun ls hl => ?_)
          obtain ⟨x_18, e_19, hF⟩ := nli_some hF
          refine lv_iinc (v := x_18) (lv' := [(5, .int x_18), (4, .int x_16), (0, .ref (Q 8)), (1, .int v1), (2, .int v2), (3, .int v3)]) hx hb dX7_aheadOf_46 hl (k := 5) rfl e_19 (by decide) rfl (fun ls hl => ?_)
          refine lv_goto (tgt := 8) hx hb dX7_aheadOf_49 (by decide) ?_
          exact ih8 v1 v2 v3 x_16 x_18 u_9 _ _ _ _ (lv_sub hl [2, 3, 4, 5, 1, 0] rfl) hH hF
  refine hL8 _ (fun v1 v2 v3 v4 v5 u D H locs ls hl hH hF => ?_) fuel a0 a1 0 0 0 u _ _ _ _ (lv_sub hl [3, 4, 5, 2, 1, 0] rfl) hH hF
  refine lv_iconst (v := 0) hx hb dX7_aheadOf_52 (by decide) ?_
  refine lv_istore (lv' := [(5, .int 0), (0, .ref (Q 8)), (1, .int v1), (2, .int v2), (3, .int v3), (4, .int v4)]) hx hb dX7_aheadOf_53 hl (by decide) rfl (fun ls hl => ?_)
  have hL55 : ∀ (K55_141 : Int32 → Int32 → Int32 → Int32 → Int32 → NG Int32), (∀ (v1 v2 v3 v4 v5 : Int32) (u : MS) (D : Nat × Nat) (H : Heap) (locs : List Loc) (ls : Array Slot), lv_has ls 7 [(0, .ref (Q 8)), (1, .int v1), (2, .int v2), (3, .int v3), (4, .int v4), (5, .int v5)] → cH G Q D T A u s H locs → K55_141 v1 v2 v3 v4 v5 u = some (r, u1) → W p l e (headSpec (Cond.code yX7_aheadOf cX7_aheadOf 7 (some .int) :: wK) { frames := 5, cells := 0, slots := 0, locals := 117 }).room s m [.ref (Q 8), .int a0, .int a1].toArray below meth c H locs 0 0 (MQ below (cQi G Q T u1 r A) [.ref (Q 8), .int a0, .int a1].toArray s 0 0 A) (F0 m 141 ls [])) → ∀ (n55 : Nat) (v1 v2 v3 v4 v5 : Int32) (u : MS) (D : Nat × Nat) (H : Heap) (locs : List Loc) (ls : Array Slot), lv_has ls 7 [(0, .ref (Q 8)), (1, .int v1), (2, .int v2), (3, .int v3), (4, .int v4), (5, .int v5)] → cH G Q D T A u s H locs → xl_X7_aheadOf_55 n55 v1 v2 v3 v4 v5 K55_141 u = some (r, u1) → W p l e (headSpec (Cond.code yX7_aheadOf cX7_aheadOf 7 (some .int) :: wK) { frames := 5, cells := 0, slots := 0, locals := 117 }).room s m [.ref (Q 8), .int a0, .int a1].toArray below meth c H locs 0 0 (MQ below (cQi G Q T u1 r A) [.ref (Q 8), .int a0, .int a1].toArray s 0 0 A) (F0 m 55 ls []) := by
    intro K55_141 hK55_141 n55
    induction n55 with
    | zero => intro v1 v2 v3 v4 v5 u D H locs ls hl hH hF; cases hF
    | succ n55 ih55 =>
      intro v1 v2 v3 v4 v5 u D H locs ls hl hH hF
      unfold xl_X7_aheadOf_55 at hF
      refine lv_iload hx hb dX7_aheadOf_55 (lv_at hl 5 rfl) ?_
      refine lv_aload_n hx hb dX7_aheadOf_57 rfl (lv_at hl 0 rfl) ?_
      refine cg_X7_15 hC hH dX7_aheadOf_58 ?_
      refine lv_iload_n hx hb dX7_aheadOf_61 rfl (lv_at hl 1 rfl) ?_
      obtain ⟨r_20, u_21, h_22, hF⟩ := ncl_some hF
      refine ccV_i (q0 := 6) (As := [.int v1]) (rest := [.int v5]) hC hH (n_X0_sizeOf l G Z Q _ T u u_21 r_20 v1 _ h_22) rfl rfl ⟨wkc_X0_sizeOf, wka338, wka390, wka391, wka744⟩ kVX0_sizeOf ⟨Nat.le_of_ble_eq_true rfl, Nat.le_of_ble_eq_true rfl⟩ rfl hl.1 rfl (Nat.le_of_ble_eq_true rfl) dX7_aheadOf_62 (fun D H locs hH => ?_)
      refine lv_icmp_ge (tgt := 141) hx hb dX7_aheadOf_65 (by decide) (fun c_23 => ?_) (fun c_23 => ?_)
      · rw [if_pos c_23] at hF
        exact hK55_141 v1 v2 v3 v4 v5 u_21 _ _ _ _ (lv_sub hl [0, 1, 2, 3, 4, 5] rfl) hH hF
      · rw [if_neg c_23] at hF
        refine lv_aload_n hx hb dX7_aheadOf_68 rfl (lv_at hl 0 rfl) ?_
        refine lv_iload_n hx hb dX7_aheadOf_69 rfl (lv_at hl 1 rfl) ?_
        refine lv_iload hx hb dX7_aheadOf_70 (lv_at hl 5 rfl) ?_
        obtain ⟨r_24, u_25, h_26, hF⟩ := ncl_some hF
        refine ccV_i (q0 := 8) (As := [.int v1, .int v5]) (rest := []) hC hH (n_X7_member l G Z Q _ T u_21 u_25 r_24 v1 v5 _ h_26) rfl rfl ⟨wkc_X7_member, wka339, wka614, wka615, wka751⟩ kVX7_member ⟨Nat.le_of_ble_eq_true rfl, Nat.le_of_ble_eq_true rfl⟩ rfl hl.1 rfl (Nat.le_of_ble_eq_true rfl) dX7_aheadOf_72 (fun D H locs hH => ?_)
        refine lv_istore (lv' := [(6, .int r_24), (0, .ref (Q 8)), (1, .int v1), (2, .int v2), (3, .int v3), (4, .int v4), (5, .int v5)]) hx hb dX7_aheadOf_75 hl (by decide) rfl (fun ls hl => ?_)
        refine lv_aload_n hx hb dX7_aheadOf_77 rfl (lv_at hl 1 rfl) ?_
        refine lv_iload hx hb dX7_aheadOf_78 (lv_at hl 0 rfl) ?_
        refine lv_iload_n hx hb dX7_aheadOf_80 rfl (lv_at hl 3 rfl) ?_
        obtain ⟨r_27, u_28, h_29, hF⟩ := ncl_some hF
        refine ccV_i (q0 := 8) (As := [.int r_24, .int v2]) (rest := []) hC hH (n_X7_areAlike l G Z Q _ T u_25 u_28 r_27 r_24 v2 _ h_29) rfl rfl ⟨wkc_X7_areAlike, wka342, wka620, wka621, wka751⟩ kVX7_areAlike ⟨Nat.le_of_ble_eq_true rfl, Nat.le_of_ble_eq_true rfl⟩ rfl hl.1 rfl (Nat.le_of_ble_eq_true rfl) dX7_aheadOf_81 (fun D H locs hH => ?_)
        refine lv_if_eq (tgt := 117) hx hb dX7_aheadOf_84 (by decide) (fun c_30 => ?_) (fun c_30 => ?_)
        · rw [if_pos c_30] at hF
          refine lv_iload_n hx hb dX7_aheadOf_117 rfl (lv_at hl 4 rfl) ?_
          refine lv_aload_n hx hb dX7_aheadOf_118 rfl (lv_at hl 1 rfl) ?_
          refine lv_iload hx hb dX7_aheadOf_119 (lv_at hl 0 rfl) ?_
          refine lv_iload_n hx hb dX7_aheadOf_121 rfl (lv_at hl 3 rfl) ?_
          obtain ⟨r_31, u_32, h_33, hF⟩ := ncl_some hF
          refine ccV_i (q0 := 8) (As := [.int r_24, .int v2]) (rest := [.int v3]) hC hH (n_X7_hasMore l G Z Q _ T u_28 u_32 r_31 r_24 v2 _ h_33) rfl rfl ⟨wkc_X7_hasMore, wka347, wka622, wka623, wka751⟩ kVX7_hasMore ⟨Nat.le_of_ble_eq_true rfl, Nat.le_of_ble_eq_true rfl⟩ rfl hl.1 rfl (Nat.le_of_ble_eq_true rfl) dX7_aheadOf_122 (fun D H locs hH => ?_)
          refine lv_if_eq (tgt := 132) hx hb dX7_aheadOf_125 (by decide) (fun c_34 => ?_) (fun c_34 => ?_)
          · rw [if_pos c_34] at hF
            refine lv_iconst (v := 0) hx hb dX7_aheadOf_132 (by decide) ?_
            refine lv_iadd hx hb dX7_aheadOf_133 ?_
            obtain ⟨x_35, e_36, hF⟩ := nli_some hF
            refine gx_ti e_36 ?_
            refine lv_istore_n (lv' := [(3, .int x_35), (6, .int r_24), (0, .ref (Q 8)), (1, .int v1), (2, .int v2), (4, .int v4), (5, .int v5)]) hx hb dX7_aheadOf_134 rfl hl (by decide) rfl (fun ls hl => ?_)
            obtain ⟨x_37, e_38, hF⟩ := nli_some hF
            refine lv_iinc (v := x_37) (lv' := [(5, .int x_37), (3, .int x_35), (6, .int r_24), (0, .ref (Q 8)), (1, .int v1), (2, .int v2), (4, .int v4)]) hx hb dX7_aheadOf_135 hl (k := 6) rfl e_38 (by decide) rfl (fun ls hl => ?_)
            refine lv_goto (tgt := 55) hx hb dX7_aheadOf_138 (by decide) ?_
            exact ih55 v1 v2 x_35 v4 x_37 u_32 _ _ _ _ (lv_sub hl [3, 4, 5, 1, 6, 0] rfl) hH hF
          · rw [if_neg c_34] at hF
            refine lv_iconst (v := 1) hx hb dX7_aheadOf_128 (by decide) ?_
            refine lv_goto (tgt := 133) hx hb dX7_aheadOf_129 (by decide) ?_
            refine lv_iadd hx hb dX7_aheadOf_133 ?_
            obtain ⟨x_39, e_40, hF⟩ := nli_some hF
            refine gx_ti e_40 ?_
            refine lv_istore_n (lv' := [(3, .int x_39), (6, .int r_24), (0, .ref (Q 8)), (1, .int v1), (2, .int v2), (4, .int v4), (5, .int v5)]) hx hb dX7_aheadOf_134 rfl hl (by decide) rfl (fun ls hl => ?_)
            obtain ⟨x_41, e_42, hF⟩ := nli_some hF
            refine lv_iinc (v := x_41) (lv' := [(5, .int x_41), (3, .int x_39), (6, .int r_24), (0, .ref (Q 8)), (1, .int v1), (2, .int v2), (4, .int v4)]) hx hb dX7_aheadOf_135 hl (k := 6) rfl e_42 (by decide) rfl (fun ls hl => ?_)
            refine lv_goto (tgt := 55) hx hb dX7_aheadOf_138 (by decide) ?_
            exact ih55 v1 v2 x_39 v4 x_41 u_32 _ _ _ _ (lv_sub hl [3, 4, 5, 1, 6, 0] rfl) hH hF
        · rw [if_neg c_30] at hF
          refine lv_iload_n hx hb dX7_aheadOf_87 rfl (lv_at hl 4 rfl) ?_
          refine lv_iload hx hb dX7_aheadOf_88 (lv_at hl 0 rfl) ?_
          refine lv_iload_n hx hb dX7_aheadOf_90 rfl (lv_at hl 3 rfl) ?_
          refine lv_icmp_eq (tgt := 111) hx hb dX7_aheadOf_91 (by decide) (fun c_43 => ?_) (fun c_43 => ?_)
          · rw [if_pos c_43] at hF
            refine lv_iconst (v := 0) hx hb dX7_aheadOf_111 (by decide) ?_
            refine lv_iadd hx hb dX7_aheadOf_112 ?_
            obtain ⟨x_44, e_45, hF⟩ := nli_some hF
            refine gx_ti e_45 ?_
            refine lv_istore_n (lv' := [(3, .int x_44), (6, .int r_24), (0, .ref (Q 8)), (1, .int v1), (2, .int v2), (4, .int v4), (5, .int v5)]) hx hb dX7_aheadOf_113 rfl hl (by decide) rfl (fun ls hl => ?_)
            refine lv_goto (tgt := 135) hx hb dX7_aheadOf_114 (by decide) ?_
            obtain ⟨x_46, e_47, hF⟩ := nli_some hF
            refine lv_iinc (v := x_46) (lv' := [(5, .int x_46), (3, .int x_44), (6, .int r_24), (0, .ref (Q 8)), (1, .int v1), (2, .int v2), (4, .int v4)]) hx hb dX7_aheadOf_135 hl (k := 6) rfl e_47 (by decide) rfl (fun ls hl => ?_)
            refine lv_goto (tgt := 55) hx hb dX7_aheadOf_138 (by decide) ?_
            exact ih55 v1 v2 x_44 v4 x_46 u_28 _ _ _ _ (lv_sub hl [3, 4, 5, 1, 6, 0] rfl) hH hF
          · rw [if_neg c_43] at hF
            refine lv_aload_n hx hb dX7_aheadOf_94 rfl (lv_at hl 1 rfl) ?_
            refine lv_iload_n hx hb dX7_aheadOf_95 rfl (lv_at hl 2 rfl) ?_
            refine lv_iload hx hb dX7_aheadOf_96 (lv_at hl 0 rfl) ?_
            refine lv_iload_n hx hb dX7_aheadOf_98 rfl (lv_at hl 3 rfl) ?_
            refine lv_iload hx hb dX7_aheadOf_99 (lv_at hl 5 rfl) ?_
            obtain ⟨r_48, u_49, h_50, hF⟩ := ncl_some hF
            refine ccV_i (q0 := 8) (As := [.int v1, .int r_24, .int v2, .int v4]) (rest := [.int v3]) hC hH (n_X7_breaksTie l G Z Q _ T u_28 u_49 r_48 v1 r_24 v2 v4 _ h_50) rfl rfl ⟨wkc_X7_breaksTie, wka343, wka624, wka625, wka751⟩ kVX7_breaksTie ⟨Nat.le_of_ble_eq_true rfl, Nat.le_of_ble_eq_true rfl⟩ rfl hl.1 rfl (Nat.le_of_ble_eq_true rfl) dX7_aheadOf_101 (fun D H locs hH => ?_)
            refine lv_if_eq (tgt := 111) hx hb dX7_aheadOf_104 (by decide) (fun c_51 => ?_) (fun c_51 => ?_)
            · rw [if_pos c_51] at hF
              refine lv_iconst (v := 0) hx hb dX7_aheadOf_111 (by decide) ?_
              refine lv_iadd hx hb dX7_aheadOf_112 ?_
              obtain ⟨x_52, e_53, hF⟩ := nli_some hF
              refine gx_ti e_53 ?_
              refine lv_istore_n (lv' := [(3, .int x_52), (6, .int r_24), (0, .ref (Q 8)), (1, .int v1), (2, .int v2), (4, .int v4), (5, .int v5)]) hx hb dX7_aheadOf_113 rfl hl (by decide) rfl (fun ls hl => ?_)
              refine lv_goto (tgt := 135) hx hb dX7_aheadOf_114 (by decide) ?_
              obtain ⟨x_54, e_55, hF⟩ := nli_some hF
              refine lv_iinc (v := x_54) (lv' := [(5, .int x_54), (3, .int x_52), (6, .int r_24), (0, .ref (Q 8)), (1, .int v1), (2, .int v2), (4, .int v4)]) hx hb dX7_aheadOf_135 hl (k := 6) rfl e_55 (by decide) rfl (fun ls hl => ?_)
              refine lv_goto (tgt := 55) hx hb dX7_aheadOf_138 (by decide) ?_
              exact ih55 v1 v2 x_52 v4 x_54 u_49 _ _ _ _ (lv_sub hl [3, 4, 5, 1, 6, 0] rfl) hH hF
            · rw [if_neg c_51] at hF
              refine lv_iconst (v := 1) hx hb dX7_aheadOf_107 (by decide) ?_
              refine lv_goto (tgt := 112) hx hb dX7_aheadOf_108 (by decide) ?_
              refine lv_iadd hx hb dX7_aheadOf_112 ?_
              obtain ⟨x_56, e_57, hF⟩ := nli_some hF
              refine gx_ti e_57 ?_
              refine lv_istore_n (lv' := [(3, .int x_56), (6, .int r_24), (0, .ref (Q 8)), (1, .int v1), (2, .int v2), (4, .int v4), (5, .int v5)]) hx hb dX7_aheadOf_113 rfl hl (by decide) rfl (fun ls hl => ?_)
              refine lv_goto (tgt := 135) hx hb dX7_aheadOf_114 (by decide) ?_
              obtain ⟨x_58, e_59, hF⟩ := nli_some hF
              refine lv_iinc (v := x_58) (lv' := [(5, .int x_58), (3, .int x_56), (6, .int r_24), (0, .ref (Q 8)), (1, .int v1), (2, .int v2), (4, .int v4)]) hx hb dX7_aheadOf_135 hl (k := 6) rfl e_59 (by decide) rfl (fun ls hl => ?_)
              refine lv_goto (tgt := 55) hx hb dX7_aheadOf_138 (by decide) ?_
              exact ih55 v1 v2 x_56 v4 x_58 u_49 _ _ _ _ (lv_sub hl [3, 4, 5, 1, 6, 0] rfl) hH hF
  refine hL55 _ (fun v1 v2 v3 v4 v5 u D H locs ls hl hH hF => ?_) fuel v1 v2 v3 v4 0 u _ _ _ _ (lv_sub hl [1, 2, 3, 4, 5, 0] rfl) hH hF
  refine lv_iload_n hx hb dX7_aheadOf_141 rfl (lv_at hl 3 rfl) ?_
  exact cr_i hC hH hr (nrt_eq hF) dX7_aheadOf_142 hlocks
def xl_X7_ofPool_29 : Nat → Int32 → Int32 → Int32 → (Int32 → Int32 → Int32 → NG Int32) → NG Int32
  | 0, _, _, _, _ => fun _ => none
  | n29 + 1, v1, v2, v3, K29_69 => ncl (x_X0_sizeOf v1) (fun r_11 => (if r_11 ≤ v3 then K29_69 v1 v2 v3 else ncl (x_X7_member v1 v3) (fun r_15 => ncl (x_X7_aheadOf v1 r_15) (fun r_18 => (if r_18 = v2 then ncl (x_X7_member v1 v3) (fun r_24 => nrt r_24) else nli (v3 + 1) (fun x_22 => xl_X7_ofPool_29 n29 v1 v2 x_22 K29_69))))))
def x_X7_ofPool (a0 : Int32) (a1 : Int32) : NG Int32 := ncl (x_X0_howMany a0 3) (fun r_1 => ncl (x_X0_fightsOf a0) (fun r_4 => (if r_4 ≤ r_1 then ncl (x_X7_addUp a0) (fun r_8 => xl_X7_ofPool_29 fuel a0 a1 0 (fun v1 v2 v3 => nrt (-1))) else nrt (-1))))
set_option maxHeartbeats 4000000 in
set_option maxRecDepth 100000 in
theorem n_X7_ofPool (l : Launch) (G : gG) (Z : gC) (Q : Nat → Nat) (D : Nat × Nat) (T : va_W) (u u1 : MS) (r : Int32) (a0 : Int32) (a1 : Int32) (sz : Nat) (hF : x_X7_ofPool a0 a1 u = some (r, u1)) : Met l yX7_ofPool (Cond.code yX7_ofPool cX7_ofPool 4 (some .int) :: wK) { frames := 6, cells := 0, slots := 0, locals := 143 } (va_Pc [.ref (Q 8), .int a0, .int a1] (cPM G Z Q D T u sz)) (cQi G Q T u1 r (va_A (cW G Q D T u) sz)) 0 0 (va_A (cW G Q D T u) sz) := by
  refine Met.ofW (cc := cX7_ofPool) (maxL := 4) (ret := (some .int)) (by decide) rfl ?_
  intro p e s m args below meth c s₁ B hml hv
  obtain ⟨rfl, rfl, hP, hB, hD0, hE⟩ := hv
  have hr := B.returns
  have hlocks := B.notSynchronized
  have hts := atoms_spec (ws := Cond.code yX7_ofPool cX7_ofPool 4 (some .int) :: wK) B.pre
  have hD := hD0.self (sz := s.heap.size)
  have hA : ∀ q : Nat, s.heap.size ≤ q → va_A (cW G Q D T u) s.heap.size q := fun q h => Or.inr h
  generalize va_A (cW G Q D T u) s.heap.size = A at hD hA hE ⊢
  have hC : cX p c cX7_ofPool 4 s m _ RX7 G Z A := ⟨B.exec, B.bytes, hml, findClass_of_methodNamed B.named, fun w h => hts w (List.mem_cons_of_mem _ h), hB, hE, hA⟩
  have hx := hC.1
  have hb := hC.2.1
  have hH : cH G Q D T A u s s.heap [] := ⟨hP, hD, va_S.rf⟩
  have hl := lv_entry ([.ref (Q 8), .int a0, .int a1]) (n := 4) (Nat.le_of_ble_eq_true rfl)
  rw [lg_entry_eq]
  generalize (lg_sl ([.ref (Q 8), .int a0, .int a1]) ++ List.replicate (4 - (lg_sl ([.ref (Q 8), .int a0, .int a1])).length) Slot.unset).toArray = ls at hl ⊢
  have hl : lv_has ls 4 [(0, .ref (Q 8)), (1, .int a0), (2, .int a1)] := hl
  unfold x_X7_ofPool at hF
  refine lv_aload_n hx hb dX7_ofPool_0 rfl (lv_at hl 0 rfl) ?_
  refine cg_X7_15 hC hH dX7_ofPool_1 ?_
  refine lv_iload_n hx hb dX7_ofPool_4 rfl (lv_at hl 1 rfl) ?_
  refine lv_iconst (v := 3) hx hb dX7_ofPool_5 (by decide) ?_
  obtain ⟨r_1, u_2, h_3, hF⟩ := ncl_some hF
  refine ccV_i (q0 := 6) (As := [.int a0, .int 3]) (rest := []) hC hH (n_X0_howMany l G Z Q _ T u u_2 r_1 a0 3 _ h_3) rfl rfl ⟨wkc_X0_howMany, wka329, wka411, wka412, wka744⟩ kVX0_howMany ⟨Nat.le_of_ble_eq_true rfl, Nat.le_of_ble_eq_true rfl⟩ rfl hl.1 rfl (Nat.le_of_ble_eq_true rfl) dX7_ofPool_6 (fun D H locs hH => ?_)
  refine lv_aload_n hx hb dX7_ofPool_9 rfl (lv_at hl 0 rfl) ?_
  refine cg_X7_15 hC hH dX7_ofPool_10 ?_
  refine lv_iload_n hx hb dX7_ofPool_13 rfl (lv_at hl 1 rfl) ?_
  obtain ⟨r_4, u_5, h_6, hF⟩ := ncl_some hF
  refine ccV_i (q0 := 6) (As := [.int a0]) (rest := [.int r_1]) hC hH (n_X0_fightsOf l G Z Q _ T u_2 u_5 r_4 a0 _ h_6) rfl rfl ⟨wkc_X0_fightsOf, wka330, wka396, wka397, wka744⟩ kVX0_fightsOf ⟨Nat.le_of_ble_eq_true rfl, Nat.le_of_ble_eq_true rfl⟩ rfl hl.1 rfl (Nat.le_of_ble_eq_true rfl) dX7_ofPool_14 (fun D H locs hH => ?_)
  refine lv_icmp_ge (tgt := 22) hx hb dX7_ofPool_17 (by decide) (fun c_7 => ?_) (fun c_7 => ?_)
  · rw [if_pos c_7] at hF
    refine lv_aload_n hx hb dX7_ofPool_22 rfl (lv_at hl 0 rfl) ?_
    refine lv_iload_n hx hb dX7_ofPool_23 rfl (lv_at hl 1 rfl) ?_
    obtain ⟨r_8, u_9, h_10, hF⟩ := ncl_some hF
    refine ccV_v (q0 := 8) (As := [.int a0]) (rest := []) hC hH (n_X7_addUp l G Z Q _ T u_5 u_9 r_8 a0 _ h_10) rfl rfl ⟨wkc_X7_addUp, wka331, wka616, wka617, wka751⟩ kVX7_addUp ⟨Nat.le_of_ble_eq_true rfl, Nat.le_of_ble_eq_true rfl⟩ rfl hl.1 rfl (Nat.le_of_ble_eq_true rfl) dX7_ofPool_24 (fun D H locs hH => ?_)
    refine lv_iconst (v := 0) hx hb dX7_ofPool_27 (by decide) ?_
    refine lv_istore_n (lv' := [(3, .int 0), (0, .ref (Q 8)), (1, .int a0), (2, .int a1)]) hx hb dX7_ofPool_28 rfl hl (by decide) rfl (fun ls hl => ?_)
    have hL29 : ∀ (K29_69 : Int32 → Int32 → Int32 → NG Int32), (∀ (v1 v2 v3 : Int32) (u : MS) (D : Nat × Nat) (H : Heap) (locs : List Loc) (ls : Array Slot), lv_has ls 4 [(0, .ref (Q 8)), (1, .int v1), (2, .int v2), (3, .int v3)] → cH G Q D T A u s H locs → K29_69 v1 v2 v3 u = some (r, u1) → W p l e (headSpec (Cond.code yX7_ofPool cX7_ofPool 4 (some .int) :: wK) { frames := 6, cells := 0, slots := 0, locals := 143 }).room s m [.ref (Q 8), .int a0, .int a1].toArray below meth c H locs 0 0 (MQ below (cQi G Q T u1 r A) [.ref (Q 8), .int a0, .int a1].toArray s 0 0 A) (F0 m 69 ls [])) → ∀ (n29 : Nat) (v1 v2 v3 : Int32) (u : MS) (D : Nat × Nat) (H : Heap) (locs : List Loc) (ls : Array Slot), lv_has ls 4 [(0, .ref (Q 8)), (1, .int v1), (2, .int v2), (3, .int v3)] → cH G Q D T A u s H locs → xl_X7_ofPool_29 n29 v1 v2 v3 K29_69 u = some (r, u1) → W p l e (headSpec (Cond.code yX7_ofPool cX7_ofPool 4 (some .int) :: wK) { frames := 6, cells := 0, slots := 0, locals := 143 }).room s m [.ref (Q 8), .int a0, .int a1].toArray below meth c H locs 0 0 (MQ below (cQi G Q T u1 r A) [.ref (Q 8), .int a0, .int a1].toArray s 0 0 A) (F0 m 29 ls []) := by
      intro K29_69 hK29_69 n29
      induction n29 with
      | zero => intro v1 v2 v3 u D H locs ls hl hH hF; cases hF
      | succ n29 ih29 =>
        intro v1 v2 v3 u D H locs ls hl hH hF
        unfold xl_X7_ofPool_29 at hF
        refine lv_iload_n hx hb dX7_ofPool_29 rfl (lv_at hl 3 rfl) ?_
        refine lv_aload_n hx hb dX7_ofPool_30 rfl (lv_at hl 0 rfl) ?_
        refine cg_X7_15 hC hH dX7_ofPool_31 ?_
        refine lv_iload_n hx hb dX7_ofPool_34 rfl (lv_at hl 1 rfl) ?_
        obtain ⟨r_11, u_12, h_13, hF⟩ := ncl_some hF
        refine ccV_i (q0 := 6) (As := [.int v1]) (rest := [.int v3]) hC hH (n_X0_sizeOf l G Z Q _ T u u_12 r_11 v1 _ h_13) rfl rfl ⟨wkc_X0_sizeOf, wka338, wka390, wka391, wka744⟩ kVX0_sizeOf ⟨Nat.le_of_ble_eq_true rfl, Nat.le_of_ble_eq_true rfl⟩ rfl hl.1 rfl (Nat.le_of_ble_eq_true rfl) dX7_ofPool_35 (fun D H locs hH => ?_)
        refine lv_icmp_ge (tgt := 69) hx hb dX7_ofPool_38 (by decide) (fun c_14 => ?_) (fun c_14 => ?_)
        · rw [if_pos c_14] at hF
          exact hK29_69 v1 v2 v3 u_12 _ _ _ _ (lv_sub hl [0, 1, 2, 3] rfl) hH hF
        · rw [if_neg c_14] at hF
          refine lv_aload_n hx hb dX7_ofPool_41 rfl (lv_at hl 0 rfl) ?_
          refine lv_iload_n hx hb dX7_ofPool_42 rfl (lv_at hl 1 rfl) ?_
          refine lv_aload_n hx hb dX7_ofPool_43 rfl (lv_at hl 0 rfl) ?_
          refine lv_iload_n hx hb dX7_ofPool_44 rfl (lv_at hl 1 rfl) ?_
          refine lv_iload_n hx hb dX7_ofPool_45 rfl (lv_at hl 3 rfl) ?_
          obtain ⟨r_15, u_16, h_17, hF⟩ := ncl_some hF
          refine ccV_i (q0 := 8) (As := [.int v1, .int v3]) (rest := [.int v1, .ref (Q 8)]) hC hH (n_X7_member l G Z Q _ T u_12 u_16 r_15 v1 v3 _ h_17) rfl rfl ⟨wkc_X7_member, wka339, wka614, wka615, wka751⟩ kVX7_member ⟨Nat.le_of_ble_eq_true rfl, Nat.le_of_ble_eq_true rfl⟩ rfl hl.1 rfl (Nat.le_of_ble_eq_true rfl) dX7_ofPool_46 (fun D H locs hH => ?_)
          obtain ⟨r_18, u_19, h_20, hF⟩ := ncl_some hF
          refine ccV_i (q0 := 8) (As := [.int v1, .int r_15]) (rest := []) hC hH (n_X7_aheadOf l G Z Q _ T u_16 u_19 r_18 v1 r_15 _ h_20) rfl rfl ⟨wkc_X7_aheadOf, wka341, wka618, wka619, wka751⟩ kVX7_aheadOf ⟨Nat.le_of_ble_eq_true rfl, Nat.le_of_ble_eq_true rfl⟩ rfl hl.1 rfl (Nat.le_of_ble_eq_true rfl) dX7_ofPool_49 (fun D H locs hH => ?_)
          refine lv_iload_n hx hb dX7_ofPool_52 rfl (lv_at hl 2 rfl) ?_
          refine lv_icmp_ne (tgt := 63) hx hb dX7_ofPool_53 (by decide) (fun c_21 => ?_) (fun c_21 => ?_)
          · rw [if_neg c_21] at hF
            obtain ⟨x_22, e_23, hF⟩ := nli_some hF
            refine lv_iinc (v := x_22) (lv' := [(3, .int x_22), (0, .ref (Q 8)), (1, .int v1), (2, .int v2)]) hx hb dX7_ofPool_63 hl (k := 3) rfl e_23 (by decide) rfl (fun ls hl => ?_)
            refine lv_goto (tgt := 29) hx hb dX7_ofPool_66 (by decide) ?_
            exact ih29 v1 v2 x_22 u_19 _ _ _ _ (lv_sub hl [1, 2, 3, 0] rfl) hH hF
          · rw [if_pos c_21] at hF
            refine lv_aload_n hx hb dX7_ofPool_56 rfl (lv_at hl 0 rfl) ?_
            refine lv_iload_n hx hb dX7_ofPool_57 rfl (lv_at hl 1 rfl) ?_
            refine lv_iload_n hx hb dX7_ofPool_58 rfl (lv_at hl 3 rfl) ?_
            obtain ⟨r_24, u_25, h_26, hF⟩ := ncl_some hF
            refine ccV_i (q0 := 8) (As := [.int v1, .int v3]) (rest := []) hC hH (n_X7_member l G Z Q _ T u_19 u_25 r_24 v1 v3 _ h_26) rfl rfl ⟨wkc_X7_member, wka339, wka614, wka615, wka751⟩ kVX7_member ⟨Nat.le_of_ble_eq_true rfl, Nat.le_of_ble_eq_true rfl⟩ rfl hl.1 rfl (Nat.le_of_ble_eq_true rfl) dX7_ofPool_59 (fun D H locs hH => ?_)
            exact cr_i hC hH hr (nrt_eq hF) dX7_ofPool_62 hlocks
    refine hL29 _ (fun v1 v2 v3 u D H locs ls hl hH hF => ?_) fuel a0 a1 0 u_9 _ _ _ _ (lv_sub hl [1, 2, 3, 0] rfl) hH hF
    refine lv_iconst (v := (-1)) hx hb dX7_ofPool_69 (by decide) ?_
    exact cr_i hC hH hr (nrt_eq hF) dX7_ofPool_70 hlocks
  · rw [if_neg c_7] at hF
    refine lv_iconst (v := (-1)) hx hb dX7_ofPool_20 (by decide) ?_
    exact cr_i hC hH hr (nrt_eq hF) dX7_ofPool_21 hlocks
def x_X8_people : NG Int32 := ncl (nGT 0 2088 2) (fun x_1 => nrt x_1)
set_option maxHeartbeats 4000000 in
set_option maxRecDepth 100000 in
theorem n_X8_people (l : Launch) (G : gG) (Z : gC) (Q : Nat → Nat) (D : Nat × Nat) (T : va_W) (u u1 : MS) (r : Int32) (sz : Nat) (hF : x_X8_people u = some (r, u1)) : Met l yX8_people (Cond.code yX8_people cX8_people 1 (some .int) :: wK) { frames := 1, cells := 0, slots := 0, locals := 22 } (va_Pc [.ref (Q 4)] (cPM G Z Q D T u sz)) (cQi G Q T u1 r (va_A (cW G Q D T u) sz)) 0 0 (va_A (cW G Q D T u) sz) := by
  refine Met.ofW (cc := cX8_people) (maxL := 1) (ret := (some .int)) (by decide) rfl ?_
  intro p e s m args below meth c s₁ B hml hv
  obtain ⟨rfl, rfl, hP, hB, hD0, hE⟩ := hv
  have hr := B.returns
  have hlocks := B.notSynchronized
  have hts := atoms_spec (ws := Cond.code yX8_people cX8_people 1 (some .int) :: wK) B.pre
  have hD := hD0.self (sz := s.heap.size)
  have hA : ∀ q : Nat, s.heap.size ≤ q → va_A (cW G Q D T u) s.heap.size q := fun q h => Or.inr h
  generalize va_A (cW G Q D T u) s.heap.size = A at hD hA hE ⊢
  have hC : cX p c cX8_people 1 s m _ RX8 G Z A := ⟨B.exec, B.bytes, hml, findClass_of_methodNamed B.named, fun w h => hts w (List.mem_cons_of_mem _ h), hB, hE, hA⟩
  have hx := hC.1
  have hb := hC.2.1
  have hH : cH G Q D T A u s s.heap [] := ⟨hP, hD, va_S.rf⟩
  have hl := lv_entry ([.ref (Q 4)]) (n := 1) (Nat.le_of_ble_eq_true rfl)
  rw [lg_entry_eq]
  generalize (lg_sl ([.ref (Q 4)]) ++ List.replicate (1 - (lg_sl ([.ref (Q 4)])).length) Slot.unset).toArray = ls at hl ⊢
  have hl : lv_has ls 1 [(0, .ref (Q 4))] := hl
  unfold x_X8_people at hF
  refine lv_aload_n hx hb dX8_people_0 rfl (lv_at hl 0 rfl) ?_
  refine cg_X8_9 hC hH dX8_people_1 ?_
  refine lv_iconst (v := 2) hx hb dX8_people_4 (by decide) ?_
  refine bat (i := 1) (j := 11) hC hH rfl rfl (by decide) wka216 ⟨Nat.le_of_ble_eq_true rfl, Nat.le_of_ble_eq_true rfl⟩ hl.1 (Nat.le_of_ble_eq_true rfl) ⟨Nat.zero_le _, Nat.zero_le _⟩ dX8_people_5 ?_
  obtain ⟨x_1, u_2, h_3, hF⟩ := ncl_some hF
  obtain ⟨e_4, rfl⟩ := nGT_eq h_3
  refine gx_ti e_4 ?_
  exact cr_i hC hH hr (nrt_eq hF) dX8_people_8 hlocks
def x_X8_has (a0 : Int32) : NG Int32 := (if a0 < 0 then nrt 0 else ncl (x_X8_people) (fun r_2 => (if r_2 ≤ a0 then nrt 0 else nrt 1)))
set_option maxHeartbeats 4000000 in
set_option maxRecDepth 100000 in
theorem n_X8_has (l : Launch) (G : gG) (Z : gC) (Q : Nat → Nat) (D : Nat × Nat) (T : va_W) (u u1 : MS) (r : Int32) (a0 : Int32) (sz : Nat) (hF : x_X8_has a0 u = some (r, u1)) : Met l yX8_has (Cond.code yX8_has cX8_has 2 (some .boolean) :: wK) { frames := 2, cells := 0, slots := 0, locals := 42 } (va_Pc [.ref (Q 4), .int a0] (cPM G Z Q D T u sz)) (cQi G Q T u1 r (va_A (cW G Q D T u) sz)) 0 0 (va_A (cW G Q D T u) sz) := by
  refine Met.ofW (cc := cX8_has) (maxL := 2) (ret := (some .boolean)) (by decide) rfl ?_
  intro p e s m args below meth c s₁ B hml hv
  obtain ⟨rfl, rfl, hP, hB, hD0, hE⟩ := hv
  have hr := B.returns
  have hlocks := B.notSynchronized
  have hts := atoms_spec (ws := Cond.code yX8_has cX8_has 2 (some .boolean) :: wK) B.pre
  have hD := hD0.self (sz := s.heap.size)
  have hA : ∀ q : Nat, s.heap.size ≤ q → va_A (cW G Q D T u) s.heap.size q := fun q h => Or.inr h
  generalize va_A (cW G Q D T u) s.heap.size = A at hD hA hE ⊢
  have hC : cX p c cX8_has 2 s m _ RX8 G Z A := ⟨B.exec, B.bytes, hml, findClass_of_methodNamed B.named, fun w h => hts w (List.mem_cons_of_mem _ h), hB, hE, hA⟩
  have hx := hC.1
  have hb := hC.2.1
  have hH : cH G Q D T A u s s.heap [] := ⟨hP, hD, va_S.rf⟩
  have hl := lv_entry ([.ref (Q 4), .int a0]) (n := 2) (Nat.le_of_ble_eq_true rfl)
  rw [lg_entry_eq]
  generalize (lg_sl ([.ref (Q 4), .int a0]) ++ List.replicate (2 - (lg_sl ([.ref (Q 4), .int a0])).length) Slot.unset).toArray = ls at hl ⊢
  have hl : lv_has ls 2 [(0, .ref (Q 4)), (1, .int a0)] := hl
  unfold x_X8_has at hF
  refine lv_iload_n hx hb dX8_has_0 rfl (lv_at hl 1 rfl) ?_
  refine lv_if_lt (tgt := 16) hx hb dX8_has_1 (by decide) (fun c_1 => ?_) (fun c_1 => ?_)
  · rw [if_pos c_1] at hF
    refine lv_iconst (v := 0) hx hb dX8_has_16 (by decide) ?_
    exact cr_z hC hH hr rfl (nrt_eq hF) dX8_has_17 hlocks
  · rw [if_neg c_1] at hF
    refine lv_iload_n hx hb dX8_has_4 rfl (lv_at hl 1 rfl) ?_
    refine lv_aload_n hx hb dX8_has_5 rfl (lv_at hl 0 rfl) ?_
    obtain ⟨r_2, u_3, h_4, hF⟩ := ncl_some hF
    refine ccV_i (q0 := 4) (As := []) (rest := [.int a0]) hC hH (n_X8_people l G Z Q _ T u u_3 r_2 _ h_4) rfl rfl ⟨wkc_X8_people, wka215, wka628, wka629, wka752⟩ kVX8_people ⟨Nat.le_of_ble_eq_true rfl, Nat.le_of_ble_eq_true rfl⟩ rfl hl.1 rfl (Nat.le_of_ble_eq_true rfl) dX8_has_6 (fun D H locs hH => ?_)
    refine lv_icmp_ge (tgt := 16) hx hb dX8_has_9 (by decide) (fun c_5 => ?_) (fun c_5 => ?_)
    · rw [if_pos c_5] at hF
      refine lv_iconst (v := 0) hx hb dX8_has_16 (by decide) ?_
      exact cr_z hC hH hr rfl (nrt_eq hF) dX8_has_17 hlocks
    · rw [if_neg c_5] at hF
      refine lv_iconst (v := 1) hx hb dX8_has_12 (by decide) ?_
      refine lv_goto (tgt := 17) hx hb dX8_has_13 (by decide) ?_
      exact cr_z hC hH hr rfl (nrt_eq hF) dX8_has_17 hlocks
def x_X8_classOf (a0 : Int32) : NG Int32 := ncl (x_X1_ofFighter a0 0) (fun r_1 => ncl (nGT 0 2088 r_1) (fun x_4 => nrt x_4))
set_option maxHeartbeats 4000000 in
set_option maxRecDepth 100000 in
theorem n_X8_classOf (l : Launch) (G : gG) (Z : gC) (Q : Nat → Nat) (D : Nat × Nat) (T : va_W) (u u1 : MS) (r : Int32) (a0 : Int32) (sz : Nat) (hF : x_X8_classOf a0 u = some (r, u1)) : Met l yX8_classOf (Cond.code yX8_classOf cX8_classOf 2 (some .int) :: wK) { frames := 1, cells := 0, slots := 0, locals := 22 } (va_Pc [.ref (Q 4), .int a0] (cPM G Z Q D T u sz)) (cQi G Q T u1 r (va_A (cW G Q D T u) sz)) 0 0 (va_A (cW G Q D T u) sz) := by
  refine Met.ofW (cc := cX8_classOf) (maxL := 2) (ret := (some .int)) (by decide) rfl ?_
  intro p e s m args below meth c s₁ B hml hv
  obtain ⟨rfl, rfl, hP, hB, hD0, hE⟩ := hv
  have hr := B.returns
  have hlocks := B.notSynchronized
  have hts := atoms_spec (ws := Cond.code yX8_classOf cX8_classOf 2 (some .int) :: wK) B.pre
  have hD := hD0.self (sz := s.heap.size)
  have hA : ∀ q : Nat, s.heap.size ≤ q → va_A (cW G Q D T u) s.heap.size q := fun q h => Or.inr h
  generalize va_A (cW G Q D T u) s.heap.size = A at hD hA hE ⊢
  have hC : cX p c cX8_classOf 2 s m _ RX8 G Z A := ⟨B.exec, B.bytes, hml, findClass_of_methodNamed B.named, fun w h => hts w (List.mem_cons_of_mem _ h), hB, hE, hA⟩
  have hx := hC.1
  have hb := hC.2.1
  have hH : cH G Q D T A u s s.heap [] := ⟨hP, hD, va_S.rf⟩
  have hl := lv_entry ([.ref (Q 4), .int a0]) (n := 2) (Nat.le_of_ble_eq_true rfl)
  rw [lg_entry_eq]
  generalize (lg_sl ([.ref (Q 4), .int a0]) ++ List.replicate (2 - (lg_sl ([.ref (Q 4), .int a0])).length) Slot.unset).toArray = ls at hl ⊢
  have hl : lv_has ls 2 [(0, .ref (Q 4)), (1, .int a0)] := hl
  unfold x_X8_classOf at hF
  refine lv_aload_n hx hb dX8_classOf_0 rfl (lv_at hl 0 rfl) ?_
  refine cg_X8_9 hC hH dX8_classOf_1 ?_
  refine lv_iload_n hx hb dX8_classOf_4 rfl (lv_at hl 1 rfl) ?_
  refine lv_iconst (v := 0) hx hb dX8_classOf_5 (by decide) ?_
  obtain ⟨r_1, u_2, h_3, hF⟩ := ncl_some hF
  refine ccS_i (As := [.int a0, .int 0]) (rest := [.ref (Q 1)]) hC hH (n_X1_ofFighter l G Z Q _ T u u_2 r_1 a0 0 _ h_3) ⟨wkc_X1_ofFighter, wka218, wka436, wka745⟩ kSX1_ofFighter ⟨Nat.le_of_ble_eq_true rfl, Nat.le_of_ble_eq_true rfl⟩ rfl hl.1 rfl (Nat.le_of_ble_eq_true rfl) dX8_classOf_6 (fun D H locs hH => ?_)
  refine bat (i := 1) (j := 11) hC hH rfl rfl (by decide) wka216 ⟨Nat.le_of_ble_eq_true rfl, Nat.le_of_ble_eq_true rfl⟩ hl.1 (Nat.le_of_ble_eq_true rfl) ⟨Nat.zero_le _, Nat.zero_le _⟩ dX8_classOf_9 ?_
  obtain ⟨x_4, u_5, h_6, hF⟩ := ncl_some hF
  obtain ⟨e_7, rfl⟩ := nGT_eq h_6
  refine gx_ti e_7 ?_
  exact cr_i hC hH hr (nrt_eq hF) dX8_classOf_12 hlocks
def xl_X8_wasAnyAtScales_2 : Nat → Int32 → Int32 → (Int32 → Int32 → NG Int32) → NG Int32
  | 0, _, _, _ => fun _ => none
  | n2 + 1, v1, v2, K2_42 => ncl (x_X8_people) (fun r_1 => (if r_1 ≤ v2 then K2_42 v1 v2 else ncl (x_X8_classOf v2) (fun r_5 => (if r_5 = v1 then ncl (x_X1_ofFighter v2 3) (fun r_11 => ncl (nGT 0 2088 r_11) (fun x_14 => (if x_14 = 0 then nli (v2 + 1) (fun x_19 => xl_X8_wasAnyAtScales_2 n2 v1 x_19 K2_42) else nrt 1))) else nli (v2 + 1) (fun x_9 => xl_X8_wasAnyAtScales_2 n2 v1 x_9 K2_42)))))
def x_X8_wasAnyAtScales (a0 : Int32) : NG Int32 := xl_X8_wasAnyAtScales_2 fuel a0 0 (fun v1 v2 => nrt 0)
set_option maxHeartbeats 4000000 in
set_option maxRecDepth 100000 in
theorem n_X8_wasAnyAtScales (l : Launch) (G : gG) (Z : gC) (Q : Nat → Nat) (D : Nat × Nat) (T : va_W) (u u1 : MS) (r : Int32) (a0 : Int32) (sz : Nat) (hF : x_X8_wasAnyAtScales a0 u = some (r, u1)) : Met l yX8_wasAnyAtScales (Cond.code yX8_wasAnyAtScales cX8_wasAnyAtScales 3 (some .boolean) :: wK) { frames := 2, cells := 0, slots := 0, locals := 43 } (va_Pc [.ref (Q 4), .int a0] (cPM G Z Q D T u sz)) (cQi G Q T u1 r (va_A (cW G Q D T u) sz)) 0 0 (va_A (cW G Q D T u) sz) := by
  refine Met.ofW (cc := cX8_wasAnyAtScales) (maxL := 3) (ret := (some .boolean)) (by decide) rfl ?_
  intro p e s m args below meth c s₁ B hml hv
  obtain ⟨rfl, rfl, hP, hB, hD0, hE⟩ := hv
  have hr := B.returns
  have hlocks := B.notSynchronized
  have hts := atoms_spec (ws := Cond.code yX8_wasAnyAtScales cX8_wasAnyAtScales 3 (some .boolean) :: wK) B.pre
  have hD := hD0.self (sz := s.heap.size)
  have hA : ∀ q : Nat, s.heap.size ≤ q → va_A (cW G Q D T u) s.heap.size q := fun q h => Or.inr h
  generalize va_A (cW G Q D T u) s.heap.size = A at hD hA hE ⊢
  have hC : cX p c cX8_wasAnyAtScales 3 s m _ RX8 G Z A := ⟨B.exec, B.bytes, hml, findClass_of_methodNamed B.named, fun w h => hts w (List.mem_cons_of_mem _ h), hB, hE, hA⟩
  have hx := hC.1
  have hb := hC.2.1
  have hH : cH G Q D T A u s s.heap [] := ⟨hP, hD, va_S.rf⟩
  have hl := lv_entry ([.ref (Q 4), .int a0]) (n := 3) (Nat.le_of_ble_eq_true rfl)
  rw [lg_entry_eq]
  generalize (lg_sl ([.ref (Q 4), .int a0]) ++ List.replicate (3 - (lg_sl ([.ref (Q 4), .int a0])).length) Slot.unset).toArray = ls at hl ⊢
  have hl : lv_has ls 3 [(0, .ref (Q 4)), (1, .int a0)] := hl
  unfold x_X8_wasAnyAtScales at hF
  refine lv_iconst (v := 0) hx hb dX8_wasAnyAtScales_0 (by decide) ?_
  refine lv_istore_n (lv' := [(2, .int 0), (0, .ref (Q 4)), (1, .int a0)]) hx hb dX8_wasAnyAtScales_1 rfl hl (by decide) rfl (fun ls hl => ?_)
  have hL2 : ∀ (K2_42 : Int32 → Int32 → NG Int32), (∀ (v1 v2 : Int32) (u : MS) (D : Nat × Nat) (H : Heap) (locs : List Loc) (ls : Array Slot), lv_has ls 3 [(0, .ref (Q 4)), (1, .int v1), (2, .int v2)] → cH G Q D T A u s H locs → K2_42 v1 v2 u = some (r, u1) → W p l e (headSpec (Cond.code yX8_wasAnyAtScales cX8_wasAnyAtScales 3 (some .boolean) :: wK) { frames := 2, cells := 0, slots := 0, locals := 43 }).room s m [.ref (Q 4), .int a0].toArray below meth c H locs 0 0 (MQ below (cQi G Q T u1 r A) [.ref (Q 4), .int a0].toArray s 0 0 A) (F0 m 42 ls [])) → ∀ (n2 : Nat) (v1 v2 : Int32) (u : MS) (D : Nat × Nat) (H : Heap) (locs : List Loc) (ls : Array Slot), lv_has ls 3 [(0, .ref (Q 4)), (1, .int v1), (2, .int v2)] → cH G Q D T A u s H locs → xl_X8_wasAnyAtScales_2 n2 v1 v2 K2_42 u = some (r, u1) → W p l e (headSpec (Cond.code yX8_wasAnyAtScales cX8_wasAnyAtScales 3 (some .boolean) :: wK) { frames := 2, cells := 0, slots := 0, locals := 43 }).room s m [.ref (Q 4), .int a0].toArray below meth c H locs 0 0 (MQ below (cQi G Q T u1 r A) [.ref (Q 4), .int a0].toArray s 0 0 A) (F0 m 2 ls []) := by
    intro K2_42 hK2_42 n2
    induction n2 with
    | zero => intro v1 v2 u D H locs ls hl hH hF; cases hF
    | succ n2 ih2 =>
      intro v1 v2 u D H locs ls hl hH hF
      unfold xl_X8_wasAnyAtScales_2 at hF
      refine lv_iload_n hx hb dX8_wasAnyAtScales_2 rfl (lv_at hl 2 rfl) ?_
      refine lv_aload_n hx hb dX8_wasAnyAtScales_3 rfl (lv_at hl 0 rfl) ?_
      obtain ⟨r_1, u_2, h_3, hF⟩ := ncl_some hF
      refine ccV_i (q0 := 4) (As := []) (rest := [.int v2]) hC hH (n_X8_people l G Z Q _ T u u_2 r_1 _ h_3) rfl rfl ⟨wkc_X8_people, wka215, wka628, wka629, wka752⟩ kVX8_people ⟨Nat.le_of_ble_eq_true rfl, Nat.le_of_ble_eq_true rfl⟩ rfl hl.1 rfl (Nat.le_of_ble_eq_true rfl) dX8_wasAnyAtScales_4 (fun D H locs hH => ?_)
      refine lv_icmp_ge (tgt := 42) hx hb dX8_wasAnyAtScales_7 (by decide) (fun c_4 => ?_) (fun c_4 => ?_)
      · rw [if_pos c_4] at hF
        exact hK2_42 v1 v2 u_2 _ _ _ _ (lv_sub hl [0, 1, 2] rfl) hH hF
      · rw [if_neg c_4] at hF
        refine lv_aload_n hx hb dX8_wasAnyAtScales_10 rfl (lv_at hl 0 rfl) ?_
        refine lv_iload_n hx hb dX8_wasAnyAtScales_11 rfl (lv_at hl 2 rfl) ?_
        obtain ⟨r_5, u_6, h_7, hF⟩ := ncl_some hF
        refine ccV_i (q0 := 4) (As := [.int v2]) (rest := []) hC hH (n_X8_classOf l G Z Q _ T u_2 u_6 r_5 v2 _ h_7) rfl rfl ⟨wkc_X8_classOf, wka217, wka632, wka633, wka752⟩ kVX8_classOf ⟨Nat.le_of_ble_eq_true rfl, Nat.le_of_ble_eq_true rfl⟩ rfl hl.1 rfl (Nat.le_of_ble_eq_true rfl) dX8_wasAnyAtScales_12 (fun D H locs hH => ?_)
        refine lv_iload_n hx hb dX8_wasAnyAtScales_15 rfl (lv_at hl 1 rfl) ?_
        refine lv_icmp_ne (tgt := 36) hx hb dX8_wasAnyAtScales_16 (by decide) (fun c_8 => ?_) (fun c_8 => ?_)
        · rw [if_neg c_8] at hF
          obtain ⟨x_9, e_10, hF⟩ := nli_some hF
          refine lv_iinc (v := x_9) (lv' := [(2, .int x_9), (0, .ref (Q 4)), (1, .int v1)]) hx hb dX8_wasAnyAtScales_36 hl (k := 2) rfl e_10 (by decide) rfl (fun ls hl => ?_)
          refine lv_goto (tgt := 2) hx hb dX8_wasAnyAtScales_39 (by decide) ?_
          exact ih2 v1 x_9 u_6 _ _ _ _ (lv_sub hl [1, 2, 0] rfl) hH hF
        · rw [if_pos c_8] at hF
          refine lv_aload_n hx hb dX8_wasAnyAtScales_19 rfl (lv_at hl 0 rfl) ?_
          refine cg_X8_9 hC hH dX8_wasAnyAtScales_20 ?_
          refine lv_iload_n hx hb dX8_wasAnyAtScales_23 rfl (lv_at hl 2 rfl) ?_
          refine lv_iconst (v := 3) hx hb dX8_wasAnyAtScales_24 (by decide) ?_
          obtain ⟨r_11, u_12, h_13, hF⟩ := ncl_some hF
          refine ccS_i (As := [.int v2, .int 3]) (rest := [.ref (Q 1)]) hC hH (n_X1_ofFighter l G Z Q _ T u_6 u_12 r_11 v2 3 _ h_13) ⟨wkc_X1_ofFighter, wka218, wka436, wka745⟩ kSX1_ofFighter ⟨Nat.le_of_ble_eq_true rfl, Nat.le_of_ble_eq_true rfl⟩ rfl hl.1 rfl (Nat.le_of_ble_eq_true rfl) dX8_wasAnyAtScales_25 (fun D H locs hH => ?_)
          refine bat (i := 1) (j := 11) hC hH rfl rfl (by decide) wka216 ⟨Nat.le_of_ble_eq_true rfl, Nat.le_of_ble_eq_true rfl⟩ hl.1 (Nat.le_of_ble_eq_true rfl) ⟨Nat.zero_le _, Nat.zero_le _⟩ dX8_wasAnyAtScales_28 ?_
          obtain ⟨x_14, u_15, h_16, hF⟩ := ncl_some hF
          obtain ⟨e_17, rfl⟩ := nGT_eq h_16
          refine gx_ti e_17 ?_
          refine lv_if_eq (tgt := 36) hx hb dX8_wasAnyAtScales_31 (by decide) (fun c_18 => ?_) (fun c_18 => ?_)
          · rw [if_pos c_18] at hF
            obtain ⟨x_19, e_20, hF⟩ := nli_some hF
            refine lv_iinc (v := x_19) (lv' := [(2, .int x_19), (0, .ref (Q 4)), (1, .int v1)]) hx hb dX8_wasAnyAtScales_36 hl (k := 2) rfl e_20 (by decide) rfl (fun ls hl => ?_)
            refine lv_goto (tgt := 2) hx hb dX8_wasAnyAtScales_39 (by decide) ?_
            exact ih2 v1 x_19 u_12 _ _ _ _ (lv_sub hl [1, 2, 0] rfl) hH hF
          · rw [if_neg c_18] at hF
            refine lv_iconst (v := 1) hx hb dX8_wasAnyAtScales_34 (by decide) ?_
            exact cr_z hC hH hr rfl (nrt_eq hF) dX8_wasAnyAtScales_35 hlocks
  refine hL2 _ (fun v1 v2 u D H locs ls hl hH hF => ?_) fuel a0 0 u _ _ _ _ (lv_sub hl [1, 2, 0] rfl) hH hF
  refine lv_iconst (v := 0) hx hb dX8_wasAnyAtScales_42 (by decide) ?_
  exact cr_z hC hH hr rfl (nrt_eq hF) dX8_wasAnyAtScales_43 hlocks
def xl_X8_isSeedOfAnother_2 : Nat → Int32 → Int32 → Int32 → (Int32 → Int32 → Int32 → NG Int32) → NG Int32
  | 0, _, _, _, _ => fun _ => none
  | n2 + 1, v1, v2, v3, K2_68 => ncl (x_X8_people) (fun r_1 => (if r_1 ≤ v3 then K2_68 v1 v2 v3 else (if v2 ≤ 0 then K2_68 v1 v2 v3 else (if v3 = v1 then (if (0 : Int32) = 0 then nli (v3 + 1) (fun x_8 => xl_X8_isSeedOfAnother_2 n2 v1 v2 x_8 K2_68) else ncl (x_X1_ofFighter v3 4) (fun r_10 => ncl (nGT 0 2088 r_10) (fun x_13 => (if x_13 = v2 then nrt 1 else nli (v3 + 1) (fun x_18 => xl_X8_isSeedOfAnother_2 n2 v1 v2 x_18 K2_68))))) else ncl (x_X8_classOf v3) (fun r_20 => ncl (x_X8_classOf v1) (fun r_23 => (if r_20 = r_23 then (if (1 : Int32) = 0 then nli (v3 + 1) (fun x_41 => xl_X8_isSeedOfAnother_2 n2 v1 v2 x_41 K2_68) else ncl (x_X1_ofFighter v3 4) (fun r_43 => ncl (nGT 0 2088 r_43) (fun x_46 => (if x_46 = v2 then nrt 1 else nli (v3 + 1) (fun x_51 => xl_X8_isSeedOfAnother_2 n2 v1 v2 x_51 K2_68))))) else (if (0 : Int32) = 0 then nli (v3 + 1) (fun x_28 => xl_X8_isSeedOfAnother_2 n2 v1 v2 x_28 K2_68) else ncl (x_X1_ofFighter v3 4) (fun r_30 => ncl (nGT 0 2088 r_30) (fun x_33 => (if x_33 = v2 then nrt 1 else nli (v3 + 1) (fun x_38 => xl_X8_isSeedOfAnother_2 n2 v1 v2 x_38 K2_68))))))))))))
def x_X8_isSeedOfAnother (a0 : Int32) (a1 : Int32) : NG Int32 := xl_X8_isSeedOfAnother_2 fuel a0 a1 0 (fun v1 v2 v3 => nrt 0)
set_option maxHeartbeats 4000000 in
set_option maxRecDepth 100000 in
theorem n_X8_isSeedOfAnother (l : Launch) (G : gG) (Z : gC) (Q : Nat → Nat) (D : Nat × Nat) (T : va_W) (u u1 : MS) (r : Int32) (a0 : Int32) (a1 : Int32) (sz : Nat) (hF : x_X8_isSeedOfAnother a0 a1 u = some (r, u1)) : Met l yX8_isSeedOfAnother (Cond.code yX8_isSeedOfAnother cX8_isSeedOfAnother 5 (some .boolean) :: wK) { frames := 2, cells := 0, slots := 0, locals := 43 } (va_Pc [.ref (Q 4), .int a0, .int a1] (cPM G Z Q D T u sz)) (cQi G Q T u1 r (va_A (cW G Q D T u) sz)) 0 0 (va_A (cW G Q D T u) sz) := by
  refine Met.ofW (cc := cX8_isSeedOfAnother) (maxL := 5) (ret := (some .boolean)) (by decide) rfl ?_
  intro p e s m args below meth c s₁ B hml hv
  obtain ⟨rfl, rfl, hP, hB, hD0, hE⟩ := hv
  have hr := B.returns
  have hlocks := B.notSynchronized
  have hts := atoms_spec (ws := Cond.code yX8_isSeedOfAnother cX8_isSeedOfAnother 5 (some .boolean) :: wK) B.pre
  have hD := hD0.self (sz := s.heap.size)
  have hA : ∀ q : Nat, s.heap.size ≤ q → va_A (cW G Q D T u) s.heap.size q := fun q h => Or.inr h
  generalize va_A (cW G Q D T u) s.heap.size = A at hD hA hE ⊢
  have hC : cX p c cX8_isSeedOfAnother 5 s m _ RX8 G Z A := ⟨B.exec, B.bytes, hml, findClass_of_methodNamed B.named, fun w h => hts w (List.mem_cons_of_mem _ h), hB, hE, hA⟩
  have hx := hC.1
  have hb := hC.2.1
  have hH : cH G Q D T A u s s.heap [] := ⟨hP, hD, va_S.rf⟩
  have hl := lv_entry ([.ref (Q 4), .int a0, .int a1]) (n := 5) (Nat.le_of_ble_eq_true rfl)
  rw [lg_entry_eq]
  generalize (lg_sl ([.ref (Q 4), .int a0, .int a1]) ++ List.replicate (5 - (lg_sl ([.ref (Q 4), .int a0, .int a1])).length) Slot.unset).toArray = ls at hl ⊢
  have hl : lv_has ls 5 [(0, .ref (Q 4)), (1, .int a0), (2, .int a1)] := hl
  unfold x_X8_isSeedOfAnother at hF
  refine lv_iconst (v := 0) hx hb dX8_isSeedOfAnother_0 (by decide) ?_
  refine lv_istore_n (lv' := [(3, .int 0), (0, .ref (Q 4)), (1, .int a0), (2, .int a1)]) hx hb dX8_isSeedOfAnother_1 rfl hl (by decide) rfl (fun ls hl => ?_)
  have hL2 : ∀ (K2_68 : Int32 → Int32 → Int32 → NG Int32), (∀ (v1 v2 v3 : Int32) (u : MS) (D : Nat × Nat) (H : Heap) (locs : List Loc) (ls : Array Slot), lv_has ls 5 [(0, .ref (Q 4)), (1, .int v1), (2, .int v2), (3, .int v3)] → cH G Q D T A u s H locs → K2_68 v1 v2 v3 u = some (r, u1) → W p l e (headSpec (Cond.code yX8_isSeedOfAnother cX8_isSeedOfAnother 5 (some .boolean) :: wK) { frames := 2, cells := 0, slots := 0, locals := 43 }).room s m [.ref (Q 4), .int a0, .int a1].toArray below meth c H locs 0 0 (MQ below (cQi G Q T u1 r A) [.ref (Q 4), .int a0, .int a1].toArray s 0 0 A) (F0 m 68 ls [])) → ∀ (n2 : Nat) (v1 v2 v3 : Int32) (u : MS) (D : Nat × Nat) (H : Heap) (locs : List Loc) (ls : Array Slot), lv_has ls 5 [(0, .ref (Q 4)), (1, .int v1), (2, .int v2), (3, .int v3)] → cH G Q D T A u s H locs → xl_X8_isSeedOfAnother_2 n2 v1 v2 v3 K2_68 u = some (r, u1) → W p l e (headSpec (Cond.code yX8_isSeedOfAnother cX8_isSeedOfAnother 5 (some .boolean) :: wK) { frames := 2, cells := 0, slots := 0, locals := 43 }).room s m [.ref (Q 4), .int a0, .int a1].toArray below meth c H locs 0 0 (MQ below (cQi G Q T u1 r A) [.ref (Q 4), .int a0, .int a1].toArray s 0 0 A) (F0 m 2 ls []) := by
    intro K2_68 hK2_68 n2
    induction n2 with
    | zero => intro v1 v2 v3 u D H locs ls hl hH hF; cases hF
    | succ n2 ih2 =>
      intro v1 v2 v3 u D H locs ls hl hH hF
      unfold xl_X8_isSeedOfAnother_2 at hF
      refine lv_iload_n hx hb dX8_isSeedOfAnother_2 rfl (lv_at hl 3 rfl) ?_
      refine lv_aload_n hx hb dX8_isSeedOfAnother_3 rfl (lv_at hl 0 rfl) ?_
      obtain ⟨r_1, u_2, h_3, hF⟩ := ncl_some hF
      refine ccV_i (q0 := 4) (As := []) (rest := [.int v3]) hC hH (n_X8_people l G Z Q _ T u u_2 r_1 _ h_3) rfl rfl ⟨wkc_X8_people, wka215, wka628, wka629, wka752⟩ kVX8_people ⟨Nat.le_of_ble_eq_true rfl, Nat.le_of_ble_eq_true rfl⟩ rfl hl.1 rfl (Nat.le_of_ble_eq_true rfl) dX8_isSeedOfAnother_4 (fun D H locs hH => ?_)
      refine lv_icmp_ge (tgt := 68) hx hb dX8_isSeedOfAnother_7 (by decide) (fun c_4 => ?_) (fun c_4 => ?_)
      · rw [if_pos c_4] at hF
        exact hK2_68 v1 v2 v3 u_2 _ _ _ _ (lv_sub hl [0, 1, 2, 3] rfl) hH hF
      · rw [if_neg c_4] at hF
        refine lv_iload_n hx hb dX8_isSeedOfAnother_10 rfl (lv_at hl 2 rfl) ?_
        refine lv_if_le (tgt := 68) hx hb dX8_isSeedOfAnother_11 (by decide) (fun c_5 => ?_) (fun c_5 => ?_)
        · rw [if_pos c_5] at hF
          exact hK2_68 v1 v2 v3 u_2 _ _ _ _ (lv_sub hl [0, 1, 2, 3] rfl) hH hF
        · rw [if_neg c_5] at hF
          refine lv_iload_n hx hb dX8_isSeedOfAnother_14 rfl (lv_at hl 3 rfl) ?_
          refine lv_iload_n hx hb dX8_isSeedOfAnother_15 rfl (lv_at hl 1 rfl) ?_
          refine lv_icmp_eq (tgt := 36) hx hb dX8_isSeedOfAnother_16 (by decide) (fun c_6 => ?_) (fun c_6 => ?_)
          · rw [if_pos c_6] at hF
            refine lv_iconst (v := 0) hx hb dX8_isSeedOfAnother_36 (by decide) ?_
            refine lv_istore (lv' := [(4, .int 0), (0, .ref (Q 4)), (1, .int v1), (2, .int v2), (3, .int v3)]) hx hb dX8_isSeedOfAnother_37 hl (by decide) rfl (fun ls hl => ?_)
            refine lv_iload hx hb dX8_isSeedOfAnother_39 (lv_at hl 0 rfl) ?_
            refine lv_if_eq (tgt := 62) hx hb dX8_isSeedOfAnother_41 (by decide) (fun c_7 => ?_) (fun c_7 => ?_)
            · rw [if_pos c_7] at hF
              obtain ⟨x_8, e_9, hF⟩ := nli_some hF
              refine lv_iinc (v := x_8) (lv' := [(3, .int x_8), (4, .int 0), (0, .ref (Q 4)), (1, .int v1), (2, .int v2)]) hx hb dX8_isSeedOfAnother_62 hl (k := 4) rfl e_9 (by decide) rfl (fun ls hl => ?_)
              refine lv_goto (tgt := 2) hx hb dX8_isSeedOfAnother_65 (by decide) ?_
              exact ih2 v1 v2 x_8 u_2 _ _ _ _ (lv_sub hl [2, 3, 4, 0] rfl) hH hF
            · rw [if_neg c_7] at hF
              refine lv_aload_n hx hb dX8_isSeedOfAnother_44 rfl (lv_at hl 1 rfl) ?_
              refine cg_X8_9 hC hH dX8_isSeedOfAnother_45 ?_
              refine lv_iload_n hx hb dX8_isSeedOfAnother_48 rfl (lv_at hl 4 rfl) ?_
              refine lv_iconst (v := 4) hx hb dX8_isSeedOfAnother_49 (by decide) ?_
              obtain ⟨r_10, u_11, h_12, hF⟩ := ncl_some hF
              refine ccS_i (As := [.int v3, .int 4]) (rest := [.ref (Q 1)]) hC hH (n_X1_ofFighter l G Z Q _ T u_2 u_11 r_10 v3 4 _ h_12) ⟨wkc_X1_ofFighter, wka218, wka436, wka745⟩ kSX1_ofFighter ⟨Nat.le_of_ble_eq_true rfl, Nat.le_of_ble_eq_true rfl⟩ rfl hl.1 rfl (Nat.le_of_ble_eq_true rfl) dX8_isSeedOfAnother_50 (fun D H locs hH => ?_)
              refine bat (i := 1) (j := 11) hC hH rfl rfl (by decide) wka216 ⟨Nat.le_of_ble_eq_true rfl, Nat.le_of_ble_eq_true rfl⟩ hl.1 (Nat.le_of_ble_eq_true rfl) ⟨Nat.zero_le _, Nat.zero_le _⟩ dX8_isSeedOfAnother_53 ?_
              obtain ⟨x_13, u_14, h_15, hF⟩ := ncl_some hF
              obtain ⟨e_16, rfl⟩ := nGT_eq h_15
              refine gx_ti e_16 ?_
              refine lv_iload_n hx hb dX8_isSeedOfAnother_56 rfl (lv_at hl 3 rfl) ?_
              refine lv_icmp_ne (tgt := 62) hx hb dX8_isSeedOfAnother_57 (by decide) (fun c_17 => ?_) (fun c_17 => ?_)
              · rw [if_neg c_17] at hF
                obtain ⟨x_18, e_19, hF⟩ := nli_some hF
                refine lv_iinc (v := x_18) (lv' := [(3, .int x_18), (4, .int 0), (0, .ref (Q 4)), (1, .int v1), (2, .int v2)]) hx hb dX8_isSeedOfAnother_62 hl (k := 4) rfl e_19 (by decide) rfl (fun ls hl => ?_)
                refine lv_goto (tgt := 2) hx hb dX8_isSeedOfAnother_65 (by decide) ?_
                exact ih2 v1 v2 x_18 u_11 _ _ _ _ (lv_sub hl [2, 3, 4, 0] rfl) hH hF
              · rw [if_pos c_17] at hF
                refine lv_iconst (v := 1) hx hb dX8_isSeedOfAnother_60 (by decide) ?_
                exact cr_z hC hH hr rfl (nrt_eq hF) dX8_isSeedOfAnother_61 hlocks
          · rw [if_neg c_6] at hF
            refine lv_aload_n hx hb dX8_isSeedOfAnother_19 rfl (lv_at hl 0 rfl) ?_
            refine lv_iload_n hx hb dX8_isSeedOfAnother_20 rfl (lv_at hl 3 rfl) ?_
            obtain ⟨r_20, u_21, h_22, hF⟩ := ncl_some hF
            refine ccV_i (q0 := 4) (As := [.int v3]) (rest := []) hC hH (n_X8_classOf l G Z Q _ T u_2 u_21 r_20 v3 _ h_22) rfl rfl ⟨wkc_X8_classOf, wka217, wka632, wka633, wka752⟩ kVX8_classOf ⟨Nat.le_of_ble_eq_true rfl, Nat.le_of_ble_eq_true rfl⟩ rfl hl.1 rfl (Nat.le_of_ble_eq_true rfl) dX8_isSeedOfAnother_21 (fun D H locs hH => ?_)
            refine lv_aload_n hx hb dX8_isSeedOfAnother_24 rfl (lv_at hl 0 rfl) ?_
            refine lv_iload_n hx hb dX8_isSeedOfAnother_25 rfl (lv_at hl 1 rfl) ?_
            obtain ⟨r_23, u_24, h_25, hF⟩ := ncl_some hF
            refine ccV_i (q0 := 4) (As := [.int v1]) (rest := [.int r_20]) hC hH (n_X8_classOf l G Z Q _ T u_21 u_24 r_23 v1 _ h_25) rfl rfl ⟨wkc_X8_classOf, wka217, wka632, wka633, wka752⟩ kVX8_classOf ⟨Nat.le_of_ble_eq_true rfl, Nat.le_of_ble_eq_true rfl⟩ rfl hl.1 rfl (Nat.le_of_ble_eq_true rfl) dX8_isSeedOfAnother_26 (fun D H locs hH => ?_)
            refine lv_icmp_ne (tgt := 36) hx hb dX8_isSeedOfAnother_29 (by decide) (fun c_26 => ?_) (fun c_26 => ?_)
            · rw [if_neg c_26] at hF
              refine lv_iconst (v := 0) hx hb dX8_isSeedOfAnother_36 (by decide) ?_
              refine lv_istore (lv' := [(4, .int 0), (0, .ref (Q 4)), (1, .int v1), (2, .int v2), (3, .int v3)]) hx hb dX8_isSeedOfAnother_37 hl (by decide) rfl (fun ls hl => ?_)
              refine lv_iload hx hb dX8_isSeedOfAnother_39 (lv_at hl 0 rfl) ?_
              refine lv_if_eq (tgt := 62) hx hb dX8_isSeedOfAnother_41 (by decide) (fun c_27 => ?_) (fun c_27 => ?_)
              · rw [if_pos c_27] at hF
                obtain ⟨x_28, e_29, hF⟩ := nli_some hF
                refine lv_iinc (v := x_28) (lv' := [(3, .int x_28), (4, .int 0), (0, .ref (Q 4)), (1, .int v1), (2, .int v2)]) hx hb dX8_isSeedOfAnother_62 hl (k := 4) rfl e_29 (by decide) rfl (fun ls hl => ?_)
                refine lv_goto (tgt := 2) hx hb dX8_isSeedOfAnother_65 (by decide) ?_
                exact ih2 v1 v2 x_28 u_24 _ _ _ _ (lv_sub hl [2, 3, 4, 0] rfl) hH hF
              · rw [if_neg c_27] at hF
                refine lv_aload_n hx hb dX8_isSeedOfAnother_44 rfl (lv_at hl 1 rfl) ?_
                refine cg_X8_9 hC hH dX8_isSeedOfAnother_45 ?_
                refine lv_iload_n hx hb dX8_isSeedOfAnother_48 rfl (lv_at hl 4 rfl) ?_
                refine lv_iconst (v := 4) hx hb dX8_isSeedOfAnother_49 (by decide) ?_
                obtain ⟨r_30, u_31, h_32, hF⟩ := ncl_some hF
                refine ccS_i (As := [.int v3, .int 4]) (rest := [.ref (Q 1)]) hC hH (n_X1_ofFighter l G Z Q _ T u_24 u_31 r_30 v3 4 _ h_32) ⟨wkc_X1_ofFighter, wka218, wka436, wka745⟩ kSX1_ofFighter ⟨Nat.le_of_ble_eq_true rfl, Nat.le_of_ble_eq_true rfl⟩ rfl hl.1 rfl (Nat.le_of_ble_eq_true rfl) dX8_isSeedOfAnother_50 (fun D H locs hH => ?_)
                refine bat (i := 1) (j := 11) hC hH rfl rfl (by decide) wka216 ⟨Nat.le_of_ble_eq_true rfl, Nat.le_of_ble_eq_true rfl⟩ hl.1 (Nat.le_of_ble_eq_true rfl) ⟨Nat.zero_le _, Nat.zero_le _⟩ dX8_isSeedOfAnother_53 ?_
                obtain ⟨x_33, u_34, h_35, hF⟩ := ncl_some hF
                obtain ⟨e_36, rfl⟩ := nGT_eq h_35
                refine gx_ti e_36 ?_
                refine lv_iload_n hx hb dX8_isSeedOfAnother_56 rfl (lv_at hl 3 rfl) ?_
                refine lv_icmp_ne (tgt := 62) hx hb dX8_isSeedOfAnother_57 (by decide) (fun c_37 => ?_) (fun c_37 => ?_)
                · rw [if_neg c_37] at hF
                  obtain ⟨x_38, e_39, hF⟩ := nli_some hF
                  refine lv_iinc (v := x_38) (lv' := [(3, .int x_38), (4, .int 0), (0, .ref (Q 4)), (1, .int v1), (2, .int v2)]) hx hb dX8_isSeedOfAnother_62 hl (k := 4) rfl e_39 (by decide) rfl (fun ls hl => ?_)
                  refine lv_goto (tgt := 2) hx hb dX8_isSeedOfAnother_65 (by decide) ?_
                  exact ih2 v1 v2 x_38 u_31 _ _ _ _ (lv_sub hl [2, 3, 4, 0] rfl) hH hF
                · rw [if_pos c_37] at hF
                  refine lv_iconst (v := 1) hx hb dX8_isSeedOfAnother_60 (by decide) ?_
                  exact cr_z hC hH hr rfl (nrt_eq hF) dX8_isSeedOfAnother_61 hlocks
            · rw [if_pos c_26] at hF
              refine lv_iconst (v := 1) hx hb dX8_isSeedOfAnother_32 (by decide) ?_
              refine lv_goto (tgt := 37) hx hb dX8_isSeedOfAnother_33 (by decide) ?_
              refine lv_istore (lv' := [(4, .int 1), (0, .ref (Q 4)), (1, .int v1), (2, .int v2), (3, .int v3)]) hx hb dX8_isSeedOfAnother_37 hl (by decide) rfl (fun ls hl => ?_)
              refine lv_iload hx hb dX8_isSeedOfAnother_39 (lv_at hl 0 rfl) ?_
              refine lv_if_eq (tgt := 62) hx hb dX8_isSeedOfAnother_41 (by decide) (fun c_40 => ?_) (fun c_40 => ?_)
              · rw [if_pos c_40] at hF
                obtain ⟨x_41, e_42, hF⟩ := nli_some hF
                refine lv_iinc (v := x_41) (lv' := [(3, .int x_41), (4, .int 1), (0, .ref (Q 4)), (1, .int v1), (2, .int v2)]) hx hb dX8_isSeedOfAnother_62 hl (k := 4) rfl e_42 (by decide) rfl (fun ls hl => ?_)
                refine lv_goto (tgt := 2) hx hb dX8_isSeedOfAnother_65 (by decide) ?_
                exact ih2 v1 v2 x_41 u_24 _ _ _ _ (lv_sub hl [2, 3, 4, 0] rfl) hH hF
              · rw [if_neg c_40] at hF
                refine lv_aload_n hx hb dX8_isSeedOfAnother_44 rfl (lv_at hl 1 rfl) ?_
                refine cg_X8_9 hC hH dX8_isSeedOfAnother_45 ?_
                refine lv_iload_n hx hb dX8_isSeedOfAnother_48 rfl (lv_at hl 4 rfl) ?_
                refine lv_iconst (v := 4) hx hb dX8_isSeedOfAnother_49 (by decide) ?_
                obtain ⟨r_43, u_44, h_45, hF⟩ := ncl_some hF
                refine ccS_i (As := [.int v3, .int 4]) (rest := [.ref (Q 1)]) hC hH (n_X1_ofFighter l G Z Q _ T u_24 u_44 r_43 v3 4 _ h_45) ⟨wkc_X1_ofFighter, wka218, wka436, wka745⟩ kSX1_ofFighter ⟨Nat.le_of_ble_eq_true rfl, Nat.le_of_ble_eq_true rfl⟩ rfl hl.1 rfl (Nat.le_of_ble_eq_true rfl) dX8_isSeedOfAnother_50 (fun D H locs hH => ?_)
                refine bat (i := 1) (j := 11) hC hH rfl rfl (by decide) wka216 ⟨Nat.le_of_ble_eq_true rfl, Nat.le_of_ble_eq_true rfl⟩ hl.1 (Nat.le_of_ble_eq_true rfl) ⟨Nat.zero_le _, Nat.zero_le _⟩ dX8_isSeedOfAnother_53 ?_
                obtain ⟨x_46, u_47, h_48, hF⟩ := ncl_some hF
                obtain ⟨e_49, rfl⟩ := nGT_eq h_48
                refine gx_ti e_49 ?_
                refine lv_iload_n hx hb dX8_isSeedOfAnother_56 rfl (lv_at hl 3 rfl) ?_
                refine lv_icmp_ne (tgt := 62) hx hb dX8_isSeedOfAnother_57 (by decide) (fun c_50 => ?_) (fun c_50 => ?_)
                · rw [if_neg c_50] at hF
                  obtain ⟨x_51, e_52, hF⟩ := nli_some hF
                  refine lv_iinc (v := x_51) (lv' := [(3, .int x_51), (4, .int 1), (0, .ref (Q 4)), (1, .int v1), (2, .int v2)]) hx hb dX8_isSeedOfAnother_62 hl (k := 4) rfl e_52 (by decide) rfl (fun ls hl => ?_)
                  refine lv_goto (tgt := 2) hx hb dX8_isSeedOfAnother_65 (by decide) ?_
                  exact ih2 v1 v2 x_51 u_44 _ _ _ _ (lv_sub hl [2, 3, 4, 0] rfl) hH hF
                · rw [if_pos c_50] at hF
                  refine lv_iconst (v := 1) hx hb dX8_isSeedOfAnother_60 (by decide) ?_
                  exact cr_z hC hH hr rfl (nrt_eq hF) dX8_isSeedOfAnother_61 hlocks
  refine hL2 _ (fun v1 v2 v3 u D H locs ls hl hH hF => ?_) fuel a0 a1 0 u _ _ _ _ (lv_sub hl [1, 2, 3, 0] rfl) hH hF
  refine lv_iconst (v := 0) hx hb dX8_isSeedOfAnother_68 (by decide) ?_
  exact cr_z hC hH hr rfl (nrt_eq hF) dX8_isSeedOfAnother_69 hlocks
def xl_X8_fightersOf_4 : Nat → Int32 → Int32 → Int32 → (Int32 → Int32 → Int32 → NG Int32) → NG Int32
  | 0, _, _, _, _ => fun _ => none
  | n4 + 1, v1, v2, v3, K4_35 => ncl (x_X8_people) (fun r_1 => (if r_1 ≤ v3 then K4_35 v1 v2 v3 else ncl (x_X8_classOf v3) (fun r_5 => (if r_5 = v1 then nli (v2 + 1) (fun x_13 => nli (v3 + 1) (fun x_15 => xl_X8_fightersOf_4 n4 v1 x_13 x_15 K4_35)) else nli (v2 + 0) (fun x_9 => nli (v3 + 1) (fun x_11 => xl_X8_fightersOf_4 n4 v1 x_9 x_11 K4_35))))))
def x_X8_fightersOf (a0 : Int32) : NG Int32 := xl_X8_fightersOf_4 fuel a0 0 0 (fun v1 v2 v3 => nrt v2)
set_option maxHeartbeats 4000000 in
set_option maxRecDepth 100000 in
theorem n_X8_fightersOf (l : Launch) (G : gG) (Z : gC) (Q : Nat → Nat) (D : Nat × Nat) (T : va_W) (u u1 : MS) (r : Int32) (a0 : Int32) (sz : Nat) (hF : x_X8_fightersOf a0 u = some (r, u1)) : Met l yX8_fightersOf (Cond.code yX8_fightersOf cX8_fightersOf 4 (some .int) :: wK) { frames := 2, cells := 0, slots := 0, locals := 43 } (va_Pc [.ref (Q 4), .int a0] (cPM G Z Q D T u sz)) (cQi G Q T u1 r (va_A (cW G Q D T u) sz)) 0 0 (va_A (cW G Q D T u) sz) := by
  refine Met.ofW (cc := cX8_fightersOf) (maxL := 4) (ret := (some .int)) (by decide) rfl ?_
  intro p e s m args below meth c s₁ B hml hv
  obtain ⟨rfl, rfl, hP, hB, hD0, hE⟩ := hv
  have hr := B.returns
  have hlocks := B.notSynchronized
  have hts := atoms_spec (ws := Cond.code yX8_fightersOf cX8_fightersOf 4 (some .int) :: wK) B.pre
  have hD := hD0.self (sz := s.heap.size)
  have hA : ∀ q : Nat, s.heap.size ≤ q → va_A (cW G Q D T u) s.heap.size q := fun q h => Or.inr h
  generalize va_A (cW G Q D T u) s.heap.size = A at hD hA hE ⊢
  have hC : cX p c cX8_fightersOf 4 s m _ RX8 G Z A := ⟨B.exec, B.bytes, hml, findClass_of_methodNamed B.named, fun w h => hts w (List.mem_cons_of_mem _ h), hB, hE, hA⟩
  have hx := hC.1
  have hb := hC.2.1
  have hH : cH G Q D T A u s s.heap [] := ⟨hP, hD, va_S.rf⟩
  have hl := lv_entry ([.ref (Q 4), .int a0]) (n := 4) (Nat.le_of_ble_eq_true rfl)
  rw [lg_entry_eq]
  generalize (lg_sl ([.ref (Q 4), .int a0]) ++ List.replicate (4 - (lg_sl ([.ref (Q 4), .int a0])).length) Slot.unset).toArray = ls at hl ⊢
  have hl : lv_has ls 4 [(0, .ref (Q 4)), (1, .int a0)] := hl
  unfold x_X8_fightersOf at hF
  refine lv_iconst (v := 0) hx hb dX8_fightersOf_0 (by decide) ?_
  refine lv_istore_n (lv' := [(2, .int 0), (0, .ref (Q 4)), (1, .int a0)]) hx hb dX8_fightersOf_1 rfl hl (by decide) rfl (fun ls hl => ?_)
  refine lv_iconst (v := 0) hx hb dX8_fightersOf_2 (by decide) ?_
  refine lv_istore_n (lv' := [(3, .int 0), (2, .int 0), (0, .ref (Q 4)), (1, .int a0)]) hx hb dX8_fightersOf_3 rfl hl (by decide) rfl (fun ls hl => ?_)
  have hL4 : ∀ (K4_35 : Int32 → Int32 → Int32 → NG Int32), (∀ (v1 v2 v3 : Int32) (u : MS) (D : Nat × Nat) (H : Heap) (locs : List Loc) (ls : Array Slot), lv_has ls 4 [(0, .ref (Q 4)), (1, .int v1), (2, .int v2), (3, .int v3)] → cH G Q D T A u s H locs → K4_35 v1 v2 v3 u = some (r, u1) → W p l e (headSpec (Cond.code yX8_fightersOf cX8_fightersOf 4 (some .int) :: wK) { frames := 2, cells := 0, slots := 0, locals := 43 }).room s m [.ref (Q 4), .int a0].toArray below meth c H locs 0 0 (MQ below (cQi G Q T u1 r A) [.ref (Q 4), .int a0].toArray s 0 0 A) (F0 m 35 ls [])) → ∀ (n4 : Nat) (v1 v2 v3 : Int32) (u : MS) (D : Nat × Nat) (H : Heap) (locs : List Loc) (ls : Array Slot), lv_has ls 4 [(0, .ref (Q 4)), (1, .int v1), (2, .int v2), (3, .int v3)] → cH G Q D T A u s H locs → xl_X8_fightersOf_4 n4 v1 v2 v3 K4_35 u = some (r, u1) → W p l e (headSpec (Cond.code yX8_fightersOf cX8_fightersOf 4 (some .int) :: wK) { frames := 2, cells := 0, slots := 0, locals := 43 }).room s m [.ref (Q 4), .int a0].toArray below meth c H locs 0 0 (MQ below (cQi G Q T u1 r A) [.ref (Q 4), .int a0].toArray s 0 0 A) (F0 m 4 ls []) := by
    intro K4_35 hK4_35 n4
    induction n4 with
    | zero => intro v1 v2 v3 u D H locs ls hl hH hF; cases hF
    | succ n4 ih4 =>
      intro v1 v2 v3 u D H locs ls hl hH hF
      unfold xl_X8_fightersOf_4 at hF
      refine lv_iload_n hx hb dX8_fightersOf_4 rfl (lv_at hl 3 rfl) ?_
      refine lv_aload_n hx hb dX8_fightersOf_5 rfl (lv_at hl 0 rfl) ?_
      obtain ⟨r_1, u_2, h_3, hF⟩ := ncl_some hF
      refine ccV_i (q0 := 4) (As := []) (rest := [.int v3]) hC hH (n_X8_people l G Z Q _ T u u_2 r_1 _ h_3) rfl rfl ⟨wkc_X8_people, wka215, wka628, wka629, wka752⟩ kVX8_people ⟨Nat.le_of_ble_eq_true rfl, Nat.le_of_ble_eq_true rfl⟩ rfl hl.1 rfl (Nat.le_of_ble_eq_true rfl) dX8_fightersOf_6 (fun D H locs hH => ?_)
      refine lv_icmp_ge (tgt := 35) hx hb dX8_fightersOf_9 (by decide) (fun c_4 => ?_) (fun c_4 => ?_)
      · rw [if_pos c_4] at hF
        exact hK4_35 v1 v2 v3 u_2 _ _ _ _ (lv_sub hl [0, 1, 2, 3] rfl) hH hF
      · rw [if_neg c_4] at hF
        refine lv_iload_n hx hb dX8_fightersOf_12 rfl (lv_at hl 2 rfl) ?_
        refine lv_aload_n hx hb dX8_fightersOf_13 rfl (lv_at hl 0 rfl) ?_
        refine lv_iload_n hx hb dX8_fightersOf_14 rfl (lv_at hl 3 rfl) ?_
        obtain ⟨r_5, u_6, h_7, hF⟩ := ncl_some hF
        refine ccV_i (q0 := 4) (As := [.int v3]) (rest := [.int v2]) hC hH (n_X8_classOf l G Z Q _ T u_2 u_6 r_5 v3 _ h_7) rfl rfl ⟨wkc_X8_classOf, wka217, wka632, wka633, wka752⟩ kVX8_classOf ⟨Nat.le_of_ble_eq_true rfl, Nat.le_of_ble_eq_true rfl⟩ rfl hl.1 rfl (Nat.le_of_ble_eq_true rfl) dX8_fightersOf_15 (fun D H locs hH => ?_)
        refine lv_iload_n hx hb dX8_fightersOf_18 rfl (lv_at hl 1 rfl) ?_
        refine lv_icmp_ne (tgt := 26) hx hb dX8_fightersOf_19 (by decide) (fun c_8 => ?_) (fun c_8 => ?_)
        · rw [if_neg c_8] at hF
          refine lv_iconst (v := 0) hx hb dX8_fightersOf_26 (by decide) ?_
          refine lv_iadd hx hb dX8_fightersOf_27 ?_
          obtain ⟨x_9, e_10, hF⟩ := nli_some hF
          refine gx_ti e_10 ?_
          refine lv_istore_n (lv' := [(2, .int x_9), (0, .ref (Q 4)), (1, .int v1), (3, .int v3)]) hx hb dX8_fightersOf_28 rfl hl (by decide) rfl (fun ls hl => ?_)
          obtain ⟨x_11, e_12, hF⟩ := nli_some hF
          refine lv_iinc (v := x_11) (lv' := [(3, .int x_11), (2, .int x_9), (0, .ref (Q 4)), (1, .int v1)]) hx hb dX8_fightersOf_29 hl (k := 3) rfl e_12 (by decide) rfl (fun ls hl => ?_)
          refine lv_goto (tgt := 4) hx hb dX8_fightersOf_32 (by decide) ?_
          exact ih4 v1 x_9 x_11 u_6 _ _ _ _ (lv_sub hl [2, 3, 1, 0] rfl) hH hF
        · rw [if_pos c_8] at hF
          refine lv_iconst (v := 1) hx hb dX8_fightersOf_22 (by decide) ?_
          refine lv_goto (tgt := 27) hx hb dX8_fightersOf_23 (by decide) ?_
          refine lv_iadd hx hb dX8_fightersOf_27 ?_
          obtain ⟨x_13, e_14, hF⟩ := nli_some hF
          refine gx_ti e_14 ?_
          refine lv_istore_n (lv' := [(2, .int x_13), (0, .ref (Q 4)), (1, .int v1), (3, .int v3)]) hx hb dX8_fightersOf_28 rfl hl (by decide) rfl (fun ls hl => ?_)
          obtain ⟨x_15, e_16, hF⟩ := nli_some hF
          refine lv_iinc (v := x_15) (lv' := [(3, .int x_15), (2, .int x_13), (0, .ref (Q 4)), (1, .int v1)]) hx hb dX8_fightersOf_29 hl (k := 3) rfl e_16 (by decide) rfl (fun ls hl => ?_)
          refine lv_goto (tgt := 4) hx hb dX8_fightersOf_32 (by decide) ?_
          exact ih4 v1 x_13 x_15 u_6 _ _ _ _ (lv_sub hl [2, 3, 1, 0] rfl) hH hF
  refine hL4 _ (fun v1 v2 v3 u D H locs ls hl hH hF => ?_) fuel a0 0 0 u _ _ _ _ (lv_sub hl [2, 3, 1, 0] rfl) hH hF
  refine lv_iload_n hx hb dX8_fightersOf_35 rfl (lv_at hl 2 rfl) ?_
  exact cr_i hC hH hr (nrt_eq hF) dX8_fightersOf_36 hlocks

