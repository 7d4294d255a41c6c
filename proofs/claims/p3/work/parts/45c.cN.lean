def x_X5_take (a0 : Int32) (u : MS) : Option (Int32 × MS) := (if 6 ≤ (u.1 12) then (if (u.1 12) = 15 then (if (u.1 15) = 0 then (if (u.1 12) = 6 then ob (x_X5_takeSignOrLine a0 u) (fun r_56 u_57 => some (0, u_57)) else if (u.1 12) = 7 then ob (x_X5_takeSignName a0 u) (fun r_60 u_61 => some (0, u_61)) else if (u.1 12) = 8 then (if a0 = 19 then ob (x_X5_goIf 1 6 u) (fun r_68 u_69 => some (0, u_69)) else ob (x_X5_goIf 0 6 u) (fun r_65 u_66 => some (0, u_66))) else if (u.1 12) = 9 then ob (x_X5_takeSignOrLine a0 u) (fun r_72 u_73 => some (0, u_73)) else if (u.1 12) = 10 then ob (x_X5_takePoints a0 u) (fun r_76 u_77 => some (0, u_77)) else if (u.1 12) = 11 then (if a0 = 8 then ob (x_X5_goIf 1 12 u) (fun r_84 u_85 => some (0, u_85)) else ob (x_X5_goIf 0 12 u) (fun r_81 u_82 => some (0, u_82))) else if (u.1 12) = 12 then ob (x_X5_takeCond a0 u) (fun r_88 u_89 => some (0, u_89)) else if (u.1 12) = 13 then ob (x_X5_takeTerm a0 u) (fun r_92 u_93 => some (0, u_93)) else if (u.1 12) = 14 then ob (x_X5_takeTermName a0 u) (fun r_96 u_97 => some (0, u_97)) else if (u.1 12) = 15 then ob (x_X5_takeBehindTerm a0 u) (fun r_100 u_101 => some (0, u_101)) else ob (x_X5_takeBehindCond a0 u) (fun r_103 u_104 => some (0, u_104))) else (if a0 = 20 then (if (u.1 12) = 6 then ob (x_X5_takeSignOrLine a0 u) (fun r_108 u_109 => some (0, u_109)) else if (u.1 12) = 7 then ob (x_X5_takeSignName a0 u) (fun r_112 u_113 => some (0, u_113)) else if (u.1 12) = 8 then (if a0 = 19 then ob (x_X5_goIf 1 6 u) (fun r_120 u_121 => some (0, u_121)) else ob (x_X5_goIf 0 6 u) (fun r_117 u_118 => some (0, u_118))) else if (u.1 12) = 9 then ob (x_X5_takeSignOrLine a0 u) (fun r_124 u_125 => some (0, u_125)) else if (u.1 12) = 10 then ob (x_X5_takePoints a0 u) (fun r_128 u_129 => some (0, u_129)) else if (u.1 12) = 11 then (if a0 = 8 then ob (x_X5_goIf 1 12 u) (fun r_136 u_137 => some (0, u_137)) else ob (x_X5_goIf 0 12 u) (fun r_133 u_134 => some (0, u_134))) else if (u.1 12) = 12 then ob (x_X5_takeCond a0 u) (fun r_140 u_141 => some (0, u_141)) else if (u.1 12) = 13 then ob (x_X5_takeTerm a0 u) (fun r_144 u_145 => some (0, u_145)) else if (u.1 12) = 14 then ob (x_X5_takeTermName a0 u) (fun r_148 u_149 => some (0, u_149)) else if (u.1 12) = 15 then ob (x_X5_takeBehindTerm a0 u) (fun r_152 u_153 => some (0, u_153)) else ob (x_X5_takeBehindCond a0 u) (fun r_155 u_156 => some (0, u_156))) else (if a0 = 21 then (if (u.1 12) = 6 then ob (x_X5_takeSignOrLine a0 u) (fun r_160 u_161 => some (0, u_161)) else if (u.1 12) = 7 then ob (x_X5_takeSignName a0 u) (fun r_164 u_165 => some (0, u_165)) else if (u.1 12) = 8 then (if a0 = 19 then ob (x_X5_goIf 1 6 u) (fun r_172 u_173 => some (0, u_173)) else ob (x_X5_goIf 0 6 u) (fun r_169 u_170 => some (0, u_170))) else if (u.1 12) = 9 then ob (x_X5_takeSignOrLine a0 u) (fun r_176 u_177 => some (0, u_177)) else if (u.1 12) = 10 then ob (x_X5_takePoints a0 u) (fun r_180 u_181 => some (0, u_181)) else if (u.1 12) = 11 then (if a0 = 8 then ob (x_X5_goIf 1 12 u) (fun r_188 u_189 => some (0, u_189)) else ob (x_X5_goIf 0 12 u) (fun r_185 u_186 => some (0, u_186))) else if (u.1 12) = 12 then ob (x_X5_takeCond a0 u) (fun r_192 u_193 => some (0, u_193)) else if (u.1 12) = 13 then ob (x_X5_takeTerm a0 u) (fun r_196 u_197 => some (0, u_197)) else if (u.1 12) = 14 then ob (x_X5_takeTermName a0 u) (fun r_200 u_201 => some (0, u_201)) else if (u.1 12) = 15 then ob (x_X5_takeBehindTerm a0 u) (fun r_204 u_205 => some (0, u_205)) else ob (x_X5_takeBehindCond a0 u) (fun r_207 u_208 => some (0, u_208))) else ob (x_X5_endComparison u) (fun r_210 u_211 => (if (u_211.1 12) = 6 then ob (x_X5_takeSignOrLine a0 u_211) (fun r_214 u_215 => some (0, u_215)) else if (u_211.1 12) = 7 then ob (x_X5_takeSignName a0 u_211) (fun r_218 u_219 => some (0, u_219)) else if (u_211.1 12) = 8 then (if a0 = 19 then ob (x_X5_goIf 1 6 u_211) (fun r_226 u_227 => some (0, u_227)) else ob (x_X5_goIf 0 6 u_211) (fun r_223 u_224 => some (0, u_224))) else if (u_211.1 12) = 9 then ob (x_X5_takeSignOrLine a0 u_211) (fun r_230 u_231 => some (0, u_231)) else if (u_211.1 12) = 10 then ob (x_X5_takePoints a0 u_211) (fun r_234 u_235 => some (0, u_235)) else if (u_211.1 12) = 11 then (if a0 = 8 then ob (x_X5_goIf 1 12 u_211) (fun r_242 u_243 => some (0, u_243)) else ob (x_X5_goIf 0 12 u_211) (fun r_239 u_240 => some (0, u_240))) else if (u_211.1 12) = 12 then ob (x_X5_takeCond a0 u_211) (fun r_246 u_247 => some (0, u_247)) else if (u_211.1 12) = 13 then ob (x_X5_takeTerm a0 u_211) (fun r_250 u_251 => some (0, u_251)) else if (u_211.1 12) = 14 then ob (x_X5_takeTermName a0 u_211) (fun r_254 u_255 => some (0, u_255)) else if (u_211.1 12) = 15 then ob (x_X5_takeBehindTerm a0 u_211) (fun r_258 u_259 => some (0, u_259)) else ob (x_X5_takeBehindCond a0 u_211) (fun r_261 u_262 => some (0, u_262))))))) else (if (u.1 12) = 6 then ob (x_X5_takeSignOrLine a0 u) (fun r_4 u_5 => some (0, u_5)) else if (u.1 12) = 7 then ob (x_X5_takeSignName a0 u) (fun r_8 u_9 => some (0, u_9)) else if (u.1 12) = 8 then (if a0 = 19 then ob (x_X5_goIf 1 6 u) (fun r_16 u_17 => some (0, u_17)) else ob (x_X5_goIf 0 6 u) (fun r_13 u_14 => some (0, u_14))) else if (u.1 12) = 9 then ob (x_X5_takeSignOrLine a0 u) (fun r_20 u_21 => some (0, u_21)) else if (u.1 12) = 10 then ob (x_X5_takePoints a0 u) (fun r_24 u_25 => some (0, u_25)) else if (u.1 12) = 11 then (if a0 = 8 then ob (x_X5_goIf 1 12 u) (fun r_32 u_33 => some (0, u_33)) else ob (x_X5_goIf 0 12 u) (fun r_29 u_30 => some (0, u_30))) else if (u.1 12) = 12 then ob (x_X5_takeCond a0 u) (fun r_36 u_37 => some (0, u_37)) else if (u.1 12) = 13 then ob (x_X5_takeTerm a0 u) (fun r_40 u_41 => some (0, u_41)) else if (u.1 12) = 14 then ob (x_X5_takeTermName a0 u) (fun r_44 u_45 => some (0, u_45)) else if (u.1 12) = 15 then ob (x_X5_takeBehindTerm a0 u) (fun r_48 u_49 => some (0, u_49)) else ob (x_X5_takeBehindCond a0 u) (fun r_51 u_52 => some (0, u_52)))) else ob (x_X5_takeHead a0 u) (fun r_264 u_265 => some (0, u_265)))
set_option maxHeartbeats 4000000 in
set_option maxRecDepth 100000 in
theorem n_X5_take (l : Launch) (G : gG) (Z : gC) (Q : Nat → Nat) (D : Nat × Nat) (T : va_W) (u u1 : MS) (r : Int32) (a0 : Int32) (sz : Nat) (hF : x_X5_take a0 u = some (r, u1)) : Met l yX5_take (Cond.code yX5_take cX5_take 2 none :: wK) { frames := 5, cells := 0, slots := 0, locals := 108 } (va_Pc [.ref (Q 3), .int a0] (cPM G Z Q D T u sz)) (cQv G Q T u1 (va_A (cW G Q D T u) sz)) 0 0 (va_A (cW G Q D T u) sz) := by
  refine Met.ofW (cc := cX5_take) (maxL := 2) (ret := none) (by decide) rfl ?_
  intro p e s m args below meth c s₁ B hml hv
  obtain ⟨rfl, rfl, hP, hB, hD0, hE⟩ := hv
  have hr := B.returns
  have hlocks := B.notSynchronized
  have hts := atoms_spec (ws := Cond.code yX5_take cX5_take 2 none :: wK) B.pre
  have hD := hD0.self (sz := s.heap.size)
  have hA : ∀ q : Nat, s.heap.size ≤ q → va_A (cW G Q D T u) s.heap.size q := fun q h => Or.inr h
  generalize va_A (cW G Q D T u) s.heap.size = A at hD hA hE ⊢
  have hC : cX p c cX5_take 2 s m _ RX5 G Z A := ⟨B.exec, B.bytes, hml, findClass_of_methodNamed B.named, fun w h => hts w (List.mem_cons_of_mem _ h), hB, hE, hA⟩
  have hx := hC.1
  have hb := hC.2.1
  have hH : cH G Q D T A u s s.heap [] := ⟨hP, hD, va_S.rf⟩
  have hl := lv_entry ([.ref (Q 3), .int a0]) (n := 2) (Nat.le_of_ble_eq_true rfl)
  rw [lg_entry_eq]
  generalize (lg_sl ([.ref (Q 3), .int a0]) ++ List.replicate (2 - (lg_sl ([.ref (Q 3), .int a0])).length) Slot.unset).toArray = ls at hl ⊢
  have hl : lv_has ls 2 [(0, .ref (Q 3)), (1, .int a0)] := hl
  unfold x_X5_take at hF
  refine lv_aload_n hx hb dX5_take_0 rfl (lv_at hl 0 rfl) ?_
  refine cg_X5_52 hC hH dX5_take_1 ?_
  refine va_gets hx hb hC.2.2.2.2.2.2.1.2.2.2.2.1 hH.2.2 hC.2.2.2.1 (hC.2.2.2.2.1 _ wka163) (fun _ h9 => h9) dX5_take_4 ?_
  refine va_tlen (v := 6) hx hb hC.2.2.2.2.2.2.1.2.2.2.2.2.1 hH.2.2 (by decide) dX5_take_7 ?_
  refine lv_icmp_ge (tgt := 17) hx hb dX5_take_8 (by decide) (fun c_1 => ?_) (fun c_1 => ?_)
  · rw [if_pos c_1] at hF
    refine lv_aload_n hx hb dX5_take_17 rfl (lv_at hl 0 rfl) ?_
    refine cg_X5_52 hC hH dX5_take_18 ?_
    refine lv_bipush (v := 15) hx hb dX5_take_21 (by decide) ?_
    refine lv_icmp_ne (tgt := 49) hx hb dX5_take_23 (by decide) (fun c_2 => ?_) (fun c_2 => ?_)
    · rw [if_neg c_2] at hF
      refine lv_aload_n hx hb dX5_take_49 rfl (lv_at hl 0 rfl) ?_
      refine cg_X5_52 hC hH dX5_take_50 ?_
      by_cases c_3 : (u.1 12) = 6
      · rw [if_pos c_3] at hF
        refine gx_ti (y := 6) c_3 ?_
        refine lv_tableIn (off := 55) (tgt := 108) hx hb dX5_take_53 (by decide) (by decide) rfl (by decide) ?_
        refine lv_aload_n hx hb dX5_take_108 rfl (lv_at hl 0 rfl) ?_
        refine lv_iload_n hx hb dX5_take_109 rfl (lv_at hl 1 rfl) ?_
        obtain ⟨r_4, u_5, h_6, hF⟩ := ob_some hF
        refine ccV_v (q0 := 3) (As := [.int a0]) (rest := []) hC hH (n_X5_takeSignOrLine l G Z Q _ T u u_5 r_4 a0 _ h_6) rfl rfl ⟨wkc_X5_takeSignOrLine, wka172, wka540, wka541, wka749⟩ kVX5_takeSignOrLine ⟨Nat.le_of_ble_eq_true rfl, Nat.le_of_ble_eq_true rfl⟩ rfl hl.1 rfl (Nat.le_of_ble_eq_true rfl) dX5_take_110 (fun D H locs hH => ?_)
        refine lv_goto (tgt := 209) hx hb dX5_take_113 (by decide) ?_
        exact cr_v hC hH hr hF dX5_take_209 hlocks
      rw [if_neg c_3] at hF
      by_cases c_7 : (u.1 12) = 7
      · rw [if_pos c_7] at hF
        refine gx_ti (y := 7) c_7 ?_
        refine lv_tableIn (off := 63) (tgt := 116) hx hb dX5_take_53 (by decide) (by decide) rfl (by decide) ?_
        refine lv_aload_n hx hb dX5_take_116 rfl (lv_at hl 0 rfl) ?_
        refine lv_iload_n hx hb dX5_take_117 rfl (lv_at hl 1 rfl) ?_
        obtain ⟨r_8, u_9, h_10, hF⟩ := ob_some hF
        refine ccV_v (q0 := 3) (As := [.int a0]) (rest := []) hC hH (n_X5_takeSignName l G Z Q _ T u u_9 r_8 a0 _ h_10) rfl rfl ⟨wkc_X5_takeSignName, wka175, wka544, wka545, wka749⟩ kVX5_takeSignName ⟨Nat.le_of_ble_eq_true rfl, Nat.le_of_ble_eq_true rfl⟩ rfl hl.1 rfl (Nat.le_of_ble_eq_true rfl) dX5_take_118 (fun D H locs hH => ?_)
        refine lv_goto (tgt := 209) hx hb dX5_take_121 (by decide) ?_
        exact cr_v hC hH hr hF dX5_take_209 hlocks
      rw [if_neg c_7] at hF
      by_cases c_11 : (u.1 12) = 8
      · rw [if_pos c_11] at hF
        refine gx_ti (y := 8) c_11 ?_
        refine lv_tableIn (off := 71) (tgt := 124) hx hb dX5_take_53 (by decide) (by decide) rfl (by decide) ?_
        refine lv_aload_n hx hb dX5_take_124 rfl (lv_at hl 0 rfl) ?_
        refine lv_iload_n hx hb dX5_take_125 rfl (lv_at hl 1 rfl) ?_
        refine lv_bipush (v := 19) hx hb dX5_take_126 (by decide) ?_
        refine lv_icmp_ne (tgt := 135) hx hb dX5_take_128 (by decide) (fun c_12 => ?_) (fun c_12 => ?_)
        · rw [if_neg c_12] at hF
          refine lv_iconst (v := 0) hx hb dX5_take_135 (by decide) ?_
          refine lv_bipush (v := 6) hx hb dX5_take_136 (by decide) ?_
          obtain ⟨r_13, u_14, h_15, hF⟩ := ob_some hF
          refine ccV_v (q0 := 3) (As := [.int 0, .int 6]) (rest := []) hC hH (n_X5_goIf l G Z Q _ T u u_14 r_13 0 6 _ h_15) rfl rfl ⟨wkc_X5_goIf, wka165, wka536, wka537, wka749⟩ kVX5_goIf ⟨Nat.le_of_ble_eq_true rfl, Nat.le_of_ble_eq_true rfl⟩ rfl hl.1 rfl (Nat.le_of_ble_eq_true rfl) dX5_take_138 (fun D H locs hH => ?_)
          refine lv_goto (tgt := 209) hx hb dX5_take_141 (by decide) ?_
          exact cr_v hC hH hr hF dX5_take_209 hlocks
        · rw [if_pos c_12] at hF
          refine lv_iconst (v := 1) hx hb dX5_take_131 (by decide) ?_
          refine lv_goto (tgt := 136) hx hb dX5_take_132 (by decide) ?_
          refine lv_bipush (v := 6) hx hb dX5_take_136 (by decide) ?_
          obtain ⟨r_16, u_17, h_18, hF⟩ := ob_some hF
          refine ccV_v (q0 := 3) (As := [.int 1, .int 6]) (rest := []) hC hH (n_X5_goIf l G Z Q _ T u u_17 r_16 1 6 _ h_18) rfl rfl ⟨wkc_X5_goIf, wka165, wka536, wka537, wka749⟩ kVX5_goIf ⟨Nat.le_of_ble_eq_true rfl, Nat.le_of_ble_eq_true rfl⟩ rfl hl.1 rfl (Nat.le_of_ble_eq_true rfl) dX5_take_138 (fun D H locs hH => ?_)
          refine lv_goto (tgt := 209) hx hb dX5_take_141 (by decide) ?_
          exact cr_v hC hH hr hF dX5_take_209 hlocks
      rw [if_neg c_11] at hF
      by_cases c_19 : (u.1 12) = 9
      · rw [if_pos c_19] at hF
        refine gx_ti (y := 9) c_19 ?_
        refine lv_tableIn (off := 55) (tgt := 108) hx hb dX5_take_53 (by decide) (by decide) rfl (by decide) ?_
        refine lv_aload_n hx hb dX5_take_108 rfl (lv_at hl 0 rfl) ?_
        refine lv_iload_n hx hb dX5_take_109 rfl (lv_at hl 1 rfl) ?_
        obtain ⟨r_20, u_21, h_22, hF⟩ := ob_some hF
        refine ccV_v (q0 := 3) (As := [.int a0]) (rest := []) hC hH (n_X5_takeSignOrLine l G Z Q _ T u u_21 r_20 a0 _ h_22) rfl rfl ⟨wkc_X5_takeSignOrLine, wka172, wka540, wka541, wka749⟩ kVX5_takeSignOrLine ⟨Nat.le_of_ble_eq_true rfl, Nat.le_of_ble_eq_true rfl⟩ rfl hl.1 rfl (Nat.le_of_ble_eq_true rfl) dX5_take_110 (fun D H locs hH => ?_)
        refine lv_goto (tgt := 209) hx hb dX5_take_113 (by decide) ?_
        exact cr_v hC hH hr hF dX5_take_209 hlocks
      rw [if_neg c_19] at hF
      by_cases c_23 : (u.1 12) = 10
      · rw [if_pos c_23] at hF
        refine gx_ti (y := 10) c_23 ?_
        refine lv_tableIn (off := 91) (tgt := 144) hx hb dX5_take_53 (by decide) (by decide) rfl (by decide) ?_
        refine lv_aload_n hx hb dX5_take_144 rfl (lv_at hl 0 rfl) ?_
        refine lv_iload_n hx hb dX5_take_145 rfl (lv_at hl 1 rfl) ?_
        obtain ⟨r_24, u_25, h_26, hF⟩ := ob_some hF
        refine ccV_v (q0 := 3) (As := [.int a0]) (rest := []) hC hH (n_X5_takePoints l G Z Q _ T u u_25 r_24 a0 _ h_26) rfl rfl ⟨wkc_X5_takePoints, wka179, wka548, wka549, wka749⟩ kVX5_takePoints ⟨Nat.le_of_ble_eq_true rfl, Nat.le_of_ble_eq_true rfl⟩ rfl hl.1 rfl (Nat.le_of_ble_eq_true rfl) dX5_take_146 (fun D H locs hH => ?_)
        refine lv_goto (tgt := 209) hx hb dX5_take_149 (by decide) ?_
        exact cr_v hC hH hr hF dX5_take_209 hlocks
      rw [if_neg c_23] at hF
      by_cases c_27 : (u.1 12) = 11
      · rw [if_pos c_27] at hF
        refine gx_ti (y := 11) c_27 ?_
        refine lv_tableIn (off := 99) (tgt := 152) hx hb dX5_take_53 (by decide) (by decide) rfl (by decide) ?_
        refine lv_aload_n hx hb dX5_take_152 rfl (lv_at hl 0 rfl) ?_
        refine lv_iload_n hx hb dX5_take_153 rfl (lv_at hl 1 rfl) ?_
        refine lv_bipush (v := 8) hx hb dX5_take_154 (by decide) ?_
        refine lv_icmp_ne (tgt := 163) hx hb dX5_take_156 (by decide) (fun c_28 => ?_) (fun c_28 => ?_)
        · rw [if_neg c_28] at hF
          refine lv_iconst (v := 0) hx hb dX5_take_163 (by decide) ?_
          refine lv_bipush (v := 12) hx hb dX5_take_164 (by decide) ?_
          obtain ⟨r_29, u_30, h_31, hF⟩ := ob_some hF
          refine ccV_v (q0 := 3) (As := [.int 0, .int 12]) (rest := []) hC hH (n_X5_goIf l G Z Q _ T u u_30 r_29 0 12 _ h_31) rfl rfl ⟨wkc_X5_goIf, wka165, wka536, wka537, wka749⟩ kVX5_goIf ⟨Nat.le_of_ble_eq_true rfl, Nat.le_of_ble_eq_true rfl⟩ rfl hl.1 rfl (Nat.le_of_ble_eq_true rfl) dX5_take_166 (fun D H locs hH => ?_)
          refine lv_goto (tgt := 209) hx hb dX5_take_169 (by decide) ?_
          exact cr_v hC hH hr hF dX5_take_209 hlocks
        · rw [if_pos c_28] at hF
          refine lv_iconst (v := 1) hx hb dX5_take_159 (by decide) ?_
          refine lv_goto (tgt := 164) hx hb dX5_take_160 (by decide) ?_
          refine lv_bipush (v := 12) hx hb dX5_take_164 (by decide) ?_
          obtain ⟨r_32, u_33, h_34, hF⟩ := ob_some hF
          refine ccV_v (q0 := 3) (As := [.int 1, .int 12]) (rest := []) hC hH (n_X5_goIf l G Z Q _ T u u_33 r_32 1 12 _ h_34) rfl rfl ⟨wkc_X5_goIf, wka165, wka536, wka537, wka749⟩ kVX5_goIf ⟨Nat.le_of_ble_eq_true rfl, Nat.le_of_ble_eq_true rfl⟩ rfl hl.1 rfl (Nat.le_of_ble_eq_true rfl) dX5_take_166 (fun D H locs hH => ?_)
          refine lv_goto (tgt := 209) hx hb dX5_take_169 (by decide) ?_
          exact cr_v hC hH hr hF dX5_take_209 hlocks
      rw [if_neg c_27] at hF
      by_cases c_35 : (u.1 12) = 12
      · rw [if_pos c_35] at hF
        refine gx_ti (y := 12) c_35 ?_
        refine lv_tableIn (off := 119) (tgt := 172) hx hb dX5_take_53 (by decide) (by decide) rfl (by decide) ?_
        refine lv_aload_n hx hb dX5_take_172 rfl (lv_at hl 0 rfl) ?_
        refine lv_iload_n hx hb dX5_take_173 rfl (lv_at hl 1 rfl) ?_
        obtain ⟨r_36, u_37, h_38, hF⟩ := ob_some hF
        refine ccV_v (q0 := 3) (As := [.int a0]) (rest := []) hC hH (n_X5_takeCond l G Z Q _ T u u_37 r_36 a0 _ h_38) rfl rfl ⟨wkc_X5_takeCond, wka180, wka550, wka551, wka749⟩ kVX5_takeCond ⟨Nat.le_of_ble_eq_true rfl, Nat.le_of_ble_eq_true rfl⟩ rfl hl.1 rfl (Nat.le_of_ble_eq_true rfl) dX5_take_174 (fun D H locs hH => ?_)
        refine lv_goto (tgt := 209) hx hb dX5_take_177 (by decide) ?_
        exact cr_v hC hH hr hF dX5_take_209 hlocks
      rw [if_neg c_35] at hF
      by_cases c_39 : (u.1 12) = 13
      · rw [if_pos c_39] at hF
        refine gx_ti (y := 13) c_39 ?_
        refine lv_tableIn (off := 127) (tgt := 180) hx hb dX5_take_53 (by decide) (by decide) rfl (by decide) ?_
        refine lv_aload_n hx hb dX5_take_180 rfl (lv_at hl 0 rfl) ?_
        refine lv_iload_n hx hb dX5_take_181 rfl (lv_at hl 1 rfl) ?_
        obtain ⟨r_40, u_41, h_42, hF⟩ := ob_some hF
        refine ccV_v (q0 := 3) (As := [.int a0]) (rest := []) hC hH (n_X5_takeTerm l G Z Q _ T u u_41 r_40 a0 _ h_42) rfl rfl ⟨wkc_X5_takeTerm, wka184, wka556, wka557, wka749⟩ kVX5_takeTerm ⟨Nat.le_of_ble_eq_true rfl, Nat.le_of_ble_eq_true rfl⟩ rfl hl.1 rfl (Nat.le_of_ble_eq_true rfl) dX5_take_182 (fun D H locs hH => ?_)
        refine lv_goto (tgt := 209) hx hb dX5_take_185 (by decide) ?_
        exact cr_v hC hH hr hF dX5_take_209 hlocks
      rw [if_neg c_39] at hF
      by_cases c_43 : (u.1 12) = 14
      · rw [if_pos c_43] at hF
        refine gx_ti (y := 14) c_43 ?_
        refine lv_tableIn (off := 135) (tgt := 188) hx hb dX5_take_53 (by decide) (by decide) rfl (by decide) ?_
        refine lv_aload_n hx hb dX5_take_188 rfl (lv_at hl 0 rfl) ?_
        refine lv_iload_n hx hb dX5_take_189 rfl (lv_at hl 1 rfl) ?_
        obtain ⟨r_44, u_45, h_46, hF⟩ := ob_some hF
        refine ccV_v (q0 := 3) (As := [.int a0]) (rest := []) hC hH (n_X5_takeTermName l G Z Q _ T u u_45 r_44 a0 _ h_46) rfl rfl ⟨wkc_X5_takeTermName, wka186, wka558, wka559, wka749⟩ kVX5_takeTermName ⟨Nat.le_of_ble_eq_true rfl, Nat.le_of_ble_eq_true rfl⟩ rfl hl.1 rfl (Nat.le_of_ble_eq_true rfl) dX5_take_190 (fun D H locs hH => ?_)
        refine lv_goto (tgt := 209) hx hb dX5_take_193 (by decide) ?_
        exact cr_v hC hH hr hF dX5_take_209 hlocks
      rw [if_neg c_43] at hF
      by_cases c_47 : (u.1 12) = 15
      · rw [if_pos c_47] at hF
        refine gx_ti (y := 15) c_47 ?_
        refine lv_tableIn (off := 143) (tgt := 196) hx hb dX5_take_53 (by decide) (by decide) rfl (by decide) ?_
        refine lv_aload_n hx hb dX5_take_196 rfl (lv_at hl 0 rfl) ?_
        refine lv_iload_n hx hb dX5_take_197 rfl (lv_at hl 1 rfl) ?_
        obtain ⟨r_48, u_49, h_50, hF⟩ := ob_some hF
        refine ccV_v (q0 := 3) (As := [.int a0]) (rest := []) hC hH (n_X5_takeBehindTerm l G Z Q _ T u u_49 r_48 a0 _ h_50) rfl rfl ⟨wkc_X5_takeBehindTerm, wka187, wka564, wka565, wka749⟩ kVX5_takeBehindTerm ⟨Nat.le_of_ble_eq_true rfl, Nat.le_of_ble_eq_true rfl⟩ rfl hl.1 rfl (Nat.le_of_ble_eq_true rfl) dX5_take_198 (fun D H locs hH => ?_)
        refine lv_goto (tgt := 209) hx hb dX5_take_201 (by decide) ?_
        exact cr_v hC hH hr hF dX5_take_209 hlocks
      rw [if_neg c_47] at hF
      refine lv_tableOut (tgt := 204) hx hb dX5_take_53 (by have q0 := gl_ne c_3 (a := 6) (by decide); have q1 := gl_ne c_7 (a := 7) (by decide); have q2 := gl_ne c_11 (a := 8) (by decide); have q3 := gl_ne c_19 (a := 9) (by decide); have q4 := gl_ne c_23 (a := 10) (by decide); have q5 := gl_ne c_27 (a := 11) (by decide); have q6 := gl_ne c_35 (a := 12) (by decide); have q7 := gl_ne c_39 (a := 13) (by decide); have q8 := gl_ne c_43 (a := 14) (by decide); have q9 := gl_ne c_47 (a := 15) (by decide); omega) (by decide) ?_
      refine lv_aload_n hx hb dX5_take_204 rfl (lv_at hl 0 rfl) ?_
      refine lv_iload_n hx hb dX5_take_205 rfl (lv_at hl 1 rfl) ?_
      obtain ⟨r_51, u_52, h_53, hF⟩ := ob_some hF
      refine ccV_v (q0 := 3) (As := [.int a0]) (rest := []) hC hH (n_X5_takeBehindCond l G Z Q _ T u u_52 r_51 a0 _ h_53) rfl rfl ⟨wkc_X5_takeBehindCond, wka188, wka566, wka567, wka749⟩ kVX5_takeBehindCond ⟨Nat.le_of_ble_eq_true rfl, Nat.le_of_ble_eq_true rfl⟩ rfl hl.1 rfl (Nat.le_of_ble_eq_true rfl) dX5_take_206 (fun D H locs hH => ?_)
      exact cr_v hC hH hr hF dX5_take_209 hlocks
    · rw [if_pos c_2] at hF
      refine lv_aload_n hx hb dX5_take_26 rfl (lv_at hl 0 rfl) ?_
      refine cg_X5_84 hC hH dX5_take_27 ?_
      refine lv_if_eq (tgt := 49) hx hb dX5_take_30 (by decide) (fun c_54 => ?_) (fun c_54 => ?_)
      · rw [if_pos c_54] at hF
        refine lv_aload_n hx hb dX5_take_49 rfl (lv_at hl 0 rfl) ?_
        refine cg_X5_52 hC hH dX5_take_50 ?_
        by_cases c_55 : (u.1 12) = 6
        · rw [if_pos c_55] at hF
          refine gx_ti (y := 6) c_55 ?_
          refine lv_tableIn (off := 55) (tgt := 108) hx hb dX5_take_53 (by decide) (by decide) rfl (by decide) ?_
          refine lv_aload_n hx hb dX5_take_108 rfl (lv_at hl 0 rfl) ?_
          refine lv_iload_n hx hb dX5_take_109 rfl (lv_at hl 1 rfl) ?_
          obtain ⟨r_56, u_57, h_58, hF⟩ := ob_some hF
          refine ccV_v (q0 := 3) (As := [.int a0]) (rest := []) hC hH (n_X5_takeSignOrLine l G Z Q _ T u u_57 r_56 a0 _ h_58) rfl rfl ⟨wkc_X5_takeSignOrLine, wka172, wka540, wka541, wka749⟩ kVX5_takeSignOrLine ⟨Nat.le_of_ble_eq_true rfl, Nat.le_of_ble_eq_true rfl⟩ rfl hl.1 rfl (Nat.le_of_ble_eq_true rfl) dX5_take_110 (fun D H locs hH => ?_)
          refine lv_goto (tgt := 209) hx hb dX5_take_113 (by decide) ?_
          exact cr_v hC hH hr hF dX5_take_209 hlocks
        rw [if_neg c_55] at hF
        by_cases c_59 : (u.1 12) = 7
        · rw [if_pos c_59] at hF
          refine gx_ti (y := 7) c_59 ?_
          refine lv_tableIn (off := 63) (tgt := 116) hx hb dX5_take_53 (by decide) (by decide) rfl (by decide) ?_
          refine lv_aload_n hx hb dX5_take_116 rfl (lv_at hl 0 rfl) ?_
          refine lv_iload_n hx hb dX5_take_117 rfl (lv_at hl 1 rfl) ?_
          obtain ⟨r_60, u_61, h_62, hF⟩ := ob_some hF
          refine ccV_v (q0 := 3) (As := [.int a0]) (rest := []) hC hH (n_X5_takeSignName l G Z Q _ T u u_61 r_60 a0 _ h_62) rfl rfl ⟨wkc_X5_takeSignName, wka175, wka544, wka545, wka749⟩ kVX5_takeSignName ⟨Nat.le_of_ble_eq_true rfl, Nat.le_of_ble_eq_true rfl⟩ rfl hl.1 rfl (Nat.le_of_ble_eq_true rfl) dX5_take_118 (fun D H locs hH => ?_)
          refine lv_goto (tgt := 209) hx hb dX5_take_121 (by decide) ?_
          exact cr_v hC hH hr hF dX5_take_209 hlocks
        rw [if_neg c_59] at hF
        by_cases c_63 : (u.1 12) = 8
        · rw [if_pos c_63] at hF
          refine gx_ti (y := 8) c_63 ?_
          refine lv_tableIn (off := 71) (tgt := 124) hx hb dX5_take_53 (by decide) (by decide) rfl (by decide) ?_
          refine lv_aload_n hx hb dX5_take_124 rfl (lv_at hl 0 rfl) ?_
          refine lv_iload_n hx hb dX5_take_125 rfl (lv_at hl 1 rfl) ?_
          refine lv_bipush (v := 19) hx hb dX5_take_126 (by decide) ?_
          refine lv_icmp_ne (tgt := 135) hx hb dX5_take_128 (by decide) (fun c_64 => ?_) (fun c_64 => ?_)
          · rw [if_neg c_64] at hF
            refine lv_iconst (v := 0) hx hb dX5_take_135 (by decide) ?_
            refine lv_bipush (v := 6) hx hb dX5_take_136 (by decide) ?_
            obtain ⟨r_65, u_66, h_67, hF⟩ := ob_some hF
            refine ccV_v (q0 := 3) (As := [.int 0, .int 6]) (rest := []) hC hH (n_X5_goIf l G Z Q _ T u u_66 r_65 0 6 _ h_67) rfl rfl ⟨wkc_X5_goIf, wka165, wka536, wka537, wka749⟩ kVX5_goIf ⟨Nat.le_of_ble_eq_true rfl, Nat.le_of_ble_eq_true rfl⟩ rfl hl.1 rfl (Nat.le_of_ble_eq_true rfl) dX5_take_138 (fun D H locs hH => ?_)
            refine lv_goto (tgt := 209) hx hb dX5_take_141 (by decide) ?_
            exact cr_v hC hH hr hF dX5_take_209 hlocks
          · rw [if_pos c_64] at hF
            refine lv_iconst (v := 1) hx hb dX5_take_131 (by decide) ?_
            refine lv_goto (tgt := 136) hx hb dX5_take_132 (by decide) ?_
            refine lv_bipush (v := 6) hx hb dX5_take_136 (by decide) ?_
            obtain ⟨r_68, u_69, h_70, hF⟩ := ob_some hF
            refine ccV_v (q0 := 3) (As := [.int 1, .int 6]) (rest := []) hC hH (n_X5_goIf l G Z Q _ T u u_69 r_68 1 6 _ h_70) rfl rfl ⟨wkc_X5_goIf, wka165, wka536, wka537, wka749⟩ kVX5_goIf ⟨Nat.le_of_ble_eq_true rfl, Nat.le_of_ble_eq_true rfl⟩ rfl hl.1 rfl (Nat.le_of_ble_eq_true rfl) dX5_take_138 (fun D H locs hH => ?_)
            refine lv_goto (tgt := 209) hx hb dX5_take_141 (by decide) ?_
            exact cr_v hC hH hr hF dX5_take_209 hlocks
        rw [if_neg c_63] at hF
        by_cases c_71 : (u.1 12) = 9
        · rw [if_pos c_71] at hF
          refine gx_ti (y := 9) c_71 ?_
          refine lv_tableIn (off := 55) (tgt := 108) hx hb dX5_take_53 (by decide) (by decide) rfl (by decide) ?_
          refine lv_aload_n hx hb dX5_take_108 rfl (lv_at hl 0 rfl) ?_
          refine lv_iload_n hx hb dX5_take_109 rfl (lv_at hl 1 rfl) ?_
          obtain ⟨r_72, u_73, h_74, hF⟩ := ob_some hF
          refine ccV_v (q0 := 3) (As := [.int a0]) (rest := []) hC hH (n_X5_takeSignOrLine l G Z Q _ T u u_73 r_72 a0 _ h_74) rfl rfl ⟨wkc_X5_takeSignOrLine, wka172, wka540, wka541, wka749⟩ kVX5_takeSignOrLine ⟨Nat.le_of_ble_eq_true rfl, Nat.le_of_ble_eq_true rfl⟩ rfl hl.1 rfl (Nat.le_of_ble_eq_true rfl) dX5_take_110 (fun D H locs hH => ?_)
          refine lv_goto (tgt := 209) hx hb dX5_take_113 (by decide) ?_
          exact cr_v hC hH hr hF dX5_take_209 hlocks
        rw [if_neg c_71] at hF
        by_cases c_75 : (u.1 12) = 10
        · rw [if_pos c_75] at hF
          refine gx_ti (y := 10) c_75 ?_
          refine lv_tableIn (off := 91) (tgt := 144) hx hb dX5_take_53 (by decide) (by decide) rfl (by decide) ?_
          refine lv_aload_n hx hb dX5_take_144 rfl (lv_at hl 0 rfl) ?_
          refine lv_iload_n hx hb dX5_take_145 rfl (lv_at hl 1 rfl) ?_
          obtain ⟨r_76, u_77, h_78, hF⟩ := ob_some hF
          refine ccV_v (q0 := 3) (As := [.int a0]) (rest := []) hC hH (n_X5_takePoints l G Z Q _ T u u_77 r_76 a0 _ h_78) rfl rfl ⟨wkc_X5_takePoints, wka179, wka548, wka549, wka749⟩ kVX5_takePoints ⟨Nat.le_of_ble_eq_true rfl, Nat.le_of_ble_eq_true rfl⟩ rfl hl.1 rfl (Nat.le_of_ble_eq_true rfl) dX5_take_146 (fun D H locs hH => ?_)
          refine lv_goto (tgt := 209) hx hb dX5_take_149 (by decide) ?_
          exact cr_v hC hH hr hF dX5_take_209 hlocks
        rw [if_neg c_75] at hF
        by_cases c_79 : (u.1 12) = 11
        · rw [if_pos c_79] at hF
          refine gx_ti (y := 11) c_79 ?_
          refine lv_tableIn (off := 99) (tgt := 152) hx hb dX5_take_53 (by decide) (by decide) rfl (by decide) ?_
          refine lv_aload_n hx hb dX5_take_152 rfl (lv_at hl 0 rfl) ?_
          refine lv_iload_n hx hb dX5_take_153 rfl (lv_at hl 1 rfl) ?_
          refine lv_bipush (v := 8) hx hb dX5_take_154 (by decide) ?_
          refine lv_icmp_ne (tgt := 163) hx hb dX5_take_156 (by decide) (fun c_80 => ?_) (fun c_80 => ?_)
          · rw [if_neg c_80] at hF
            refine lv_iconst (v := 0) hx hb dX5_take_163 (by decide) ?_
            refine lv_bipush (v := 12) hx hb dX5_take_164 (by decide) ?_
            obtain ⟨r_81, u_82, h_83, hF⟩ := ob_some hF
            refine ccV_v (q0 := 3) (As := [.int 0, .int 12]) (rest := []) hC hH (n_X5_goIf l G Z Q _ T u u_82 r_81 0 12 _ h_83) rfl rfl ⟨wkc_X5_goIf, wka165, wka536, wka537, wka749⟩ kVX5_goIf ⟨Nat.le_of_ble_eq_true rfl, Nat.le_of_ble_eq_true rfl⟩ rfl hl.1 rfl (Nat.le_of_ble_eq_true rfl) dX5_take_166 (fun D H locs hH => ?_)
            refine lv_goto (tgt := 209) hx hb dX5_take_169 (by decide) ?_
            exact cr_v hC hH hr hF dX5_take_209 hlocks
          · rw [if_pos c_80] at hF
            refine lv_iconst (v := 1) hx hb dX5_take_159 (by decide) ?_
            refine lv_goto (tgt := 164) hx hb dX5_take_160 (by decide) ?_
            refine lv_bipush (v := 12) hx hb dX5_take_164 (by decide) ?_
            obtain ⟨r_84, u_85, h_86, hF⟩ := ob_some hF
            refine ccV_v (q0 := 3) (As := [.int 1, .int 12]) (rest := []) hC hH (n_X5_goIf l G Z Q _ T u u_85 r_84 1 12 _ h_86) rfl rfl ⟨wkc_X5_goIf, wka165, wka536, wka537, wka749⟩ kVX5_goIf ⟨Nat.le_of_ble_eq_true rfl, Nat.le_of_ble_eq_true rfl⟩ rfl hl.1 rfl (Nat.le_of_ble_eq_true rfl) dX5_take_166 (fun D H locs hH => ?_)
            refine lv_goto (tgt := 209) hx hb dX5_take_169 (by decide) ?_
            exact cr_v hC hH hr hF dX5_take_209 hlocks
        rw [if_neg c_79] at hF
        by_cases c_87 : (u.1 12) = 12
        · rw [if_pos c_87] at hF
          refine gx_ti (y := 12) c_87 ?_
          refine lv_tableIn (off := 119) (tgt := 172) hx hb dX5_take_53 (by decide) (by decide) rfl (by decide) ?_
          refine lv_aload_n hx hb dX5_take_172 rfl (lv_at hl 0 rfl) ?_
          refine lv_iload_n hx hb dX5_take_173 rfl (lv_at hl 1 rfl) ?_
          obtain ⟨r_88, u_89, h_90, hF⟩ := ob_some hF
          refine ccV_v (q0 := 3) (As := [.int a0]) (rest := []) hC hH (n_X5_takeCond l G Z Q _ T u u_89 r_88 a0 _ h_90) rfl rfl ⟨wkc_X5_takeCond, wka180, wka550, wka551, wka749⟩ kVX5_takeCond ⟨Nat.le_of_ble_eq_true rfl, Nat.le_of_ble_eq_true rfl⟩ rfl hl.1 rfl (Nat.le_of_ble_eq_true rfl) dX5_take_174 (fun D H locs hH => ?_)
          refine lv_goto (tgt := 209) hx hb dX5_take_177 (by decide) ?_
          exact cr_v hC hH hr hF dX5_take_209 hlocks
        rw [if_neg c_87] at hF
        by_cases c_91 : (u.1 12) = 13
        · rw [if_pos c_91] at hF
          refine gx_ti (y := 13) c_91 ?_
          refine lv_tableIn (off := 127) (tgt := 180) hx hb dX5_take_53 (by decide) (by decide) rfl (by decide) ?_
          refine lv_aload_n hx hb dX5_take_180 rfl (lv_at hl 0 rfl) ?_
          refine lv_iload_n hx hb dX5_take_181 rfl (lv_at hl 1 rfl) ?_
          obtain ⟨r_92, u_93, h_94, hF⟩ := ob_some hF
          refine ccV_v (q0 := 3) (As := [.int a0]) (rest := []) hC hH (n_X5_takeTerm l G Z Q _ T u u_93 r_92 a0 _ h_94) rfl rfl ⟨wkc_X5_takeTerm, wka184, wka556, wka557, wka749⟩ kVX5_takeTerm ⟨Nat.le_of_ble_eq_true rfl, Nat.le_of_ble_eq_true rfl⟩ rfl hl.1 rfl (Nat.le_of_ble_eq_true rfl) dX5_take_182 (fun D H locs hH => ?_)
          refine lv_goto (tgt := 209) hx hb dX5_take_185 (by decide) ?_
          exact cr_v hC hH hr hF dX5_take_209 hlocks
        rw [if_neg c_91] at hF
        by_cases c_95 : (u.1 12) = 14
        · rw [if_pos c_95] at hF
          refine gx_ti (y := 14) c_95 ?_
          refine lv_tableIn (off := 135) (tgt := 188) hx hb dX5_take_53 (by decide) (by decide) rfl (by decide) ?_
          refine lv_aload_n hx hb dX5_take_188 rfl (lv_at hl 0 rfl) ?_
          refine lv_iload_n hx hb dX5_take_189 rfl (lv_at hl 1 rfl) ?_
          obtain ⟨r_96, u_97, h_98, hF⟩ := ob_some hF
          refine ccV_v (q0 := 3) (As := [.int a0]) (rest := []) hC hH (n_X5_takeTermName l G Z Q _ T u u_97 r_96 a0 _ h_98) rfl rfl ⟨wkc_X5_takeTermName, wka186, wka558, wka559, wka749⟩ kVX5_takeTermName ⟨Nat.le_of_ble_eq_true rfl, Nat.le_of_ble_eq_true rfl⟩ rfl hl.1 rfl (Nat.le_of_ble_eq_true rfl) dX5_take_190 (fun D H locs hH => ?_)
          refine lv_goto (tgt := 209) hx hb dX5_take_193 (by decide) ?_
          exact cr_v hC hH hr hF dX5_take_209 hlocks
        rw [if_neg c_95] at hF
        by_cases c_99 : (u.1 12) = 15
        · rw [if_pos c_99] at hF
          refine gx_ti (y := 15) c_99 ?_
          refine lv_tableIn (off := 143) (tgt := 196) hx hb dX5_take_53 (by decide) (by decide) rfl (by decide) ?_
          refine lv_aload_n hx hb dX5_take_196 rfl (lv_at hl 0 rfl) ?_
          refine lv_iload_n hx hb dX5_take_197 rfl (lv_at hl 1 rfl) ?_
          obtain ⟨r_100, u_101, h_102, hF⟩ := ob_some hF
          refine ccV_v (q0 := 3) (As := [.int a0]) (rest := []) hC hH (n_X5_takeBehindTerm l G Z Q _ T u u_101 r_100 a0 _ h_102) rfl rfl ⟨wkc_X5_takeBehindTerm, wka187, wka564, wka565, wka749⟩ kVX5_takeBehindTerm ⟨Nat.le_of_ble_eq_true rfl, Nat.le_of_ble_eq_true rfl⟩ rfl hl.1 rfl (Nat.le_of_ble_eq_true rfl) dX5_take_198 (fun D H locs hH => ?_)
          refine lv_goto (tgt := 209) hx hb dX5_take_201 (by decide) ?_
          exact cr_v hC hH hr hF dX5_take_209 hlocks
        rw [if_neg c_99] at hF
        refine lv_tableOut (tgt := 204) hx hb dX5_take_53 (by have q0 := gl_ne c_55 (a := 6) (by decide); have q1 := gl_ne c_59 (a := 7) (by decide); have q2 := gl_ne c_63 (a := 8) (by decide); have q3 := gl_ne c_71 (a := 9) (by decide); have q4 := gl_ne c_75 (a := 10) (by decide); have q5 := gl_ne c_79 (a := 11) (by decide); have q6 := gl_ne c_87 (a := 12) (by decide); have q7 := gl_ne c_91 (a := 13) (by decide); have q8 := gl_ne c_95 (a := 14) (by decide); have q9 := gl_ne c_99 (a := 15) (by decide); omega) (by decide) ?_
        refine lv_aload_n hx hb dX5_take_204 rfl (lv_at hl 0 rfl) ?_
        refine lv_iload_n hx hb dX5_take_205 rfl (lv_at hl 1 rfl) ?_
        obtain ⟨r_103, u_104, h_105, hF⟩ := ob_some hF
        refine ccV_v (q0 := 3) (As := [.int a0]) (rest := []) hC hH (n_X5_takeBehindCond l G Z Q _ T u u_104 r_103 a0 _ h_105) rfl rfl ⟨wkc_X5_takeBehindCond, wka188, wka566, wka567, wka749⟩ kVX5_takeBehindCond ⟨Nat.le_of_ble_eq_true rfl, Nat.le_of_ble_eq_true rfl⟩ rfl hl.1 rfl (Nat.le_of_ble_eq_true rfl) dX5_take_206 (fun D H locs hH => ?_)
        exact cr_v hC hH hr hF dX5_take_209 hlocks
      · rw [if_neg c_54] at hF
        refine lv_iload_n hx hb dX5_take_33 rfl (lv_at hl 1 rfl) ?_
        refine lv_bipush (v := 20) hx hb dX5_take_34 (by decide) ?_
        refine lv_icmp_eq (tgt := 49) hx hb dX5_take_36 (by decide) (fun c_106 => ?_) (fun c_106 => ?_)
        · rw [if_pos c_106] at hF
          refine lv_aload_n hx hb dX5_take_49 rfl (lv_at hl 0 rfl) ?_
          refine cg_X5_52 hC hH dX5_take_50 ?_
          by_cases c_107 : (u.1 12) = 6
          · rw [if_pos c_107] at hF
            refine gx_ti (y := 6) c_107 ?_
            refine lv_tableIn (off := 55) (tgt := 108) hx hb dX5_take_53 (by decide) (by decide) rfl (by decide) ?_
            refine lv_aload_n hx hb dX5_take_108 rfl (lv_at hl 0 rfl) ?_
            refine lv_iload_n hx hb dX5_take_109 rfl (lv_at hl 1 rfl) ?_
            obtain ⟨r_108, u_109, h_110, hF⟩ := ob_some hF
            refine ccV_v (q0 := 3) (As := [.int a0]) (rest := []) hC hH (n_X5_takeSignOrLine l G Z Q _ T u u_109 r_108 a0 _ h_110) rfl rfl ⟨wkc_X5_takeSignOrLine, wka172, wka540, wka541, wka749⟩ kVX5_takeSignOrLine ⟨Nat.le_of_ble_eq_true rfl, Nat.le_of_ble_eq_true rfl⟩ rfl hl.1 rfl (Nat.le_of_ble_eq_true rfl) dX5_take_110 (fun D H locs hH => ?_)
            refine lv_goto (tgt := 209) hx hb dX5_take_113 (by decide) ?_
            exact cr_v hC hH hr hF dX5_take_209 hlocks
          rw [if_neg c_107] at hF
          by_cases c_111 : (u.1 12) = 7
          · rw [if_pos c_111] at hF
            refine gx_ti (y := 7) c_111 ?_
            refine lv_tableIn (off := 63) (tgt := 116) hx hb dX5_take_53 (by decide) (by decide) rfl (by decide) ?_
            refine lv_aload_n hx hb dX5_take_116 rfl (lv_at hl 0 rfl) ?_
            refine lv_iload_n hx hb dX5_take_117 rfl (lv_at hl 1 rfl) ?_
            obtain ⟨r_112, u_113, h_114, hF⟩ := ob_some hF
            refine ccV_v (q0 := 3) (As := [.int a0]) (rest := []) hC hH (n_X5_takeSignName l G Z Q _ T u u_113 r_112 a0 _ h_114) rfl rfl ⟨wkc_X5_takeSignName, wka175, wka544, wka545, wka749⟩ kVX5_takeSignName ⟨Nat.le_of_ble_eq_true rfl, Nat.le_of_ble_eq_true rfl⟩ rfl hl.1 rfl (Nat.le_of_ble_eq_true rfl) dX5_take_118 (fun D H locs hH => ?_)
            refine lv_goto (tgt := 209) hx hb dX5_take_121 (by decide) ?_
            exact cr_v hC hH hr hF dX5_take_209 hlocks
          rw [if_neg c_111] at hF
          by_cases c_115 : (u.1 12) = 8
          · rw [if_pos c_115] at hF
            refine gx_ti (y := 8) c_115 ?_
            refine lv_tableIn (off := 71) (tgt := 124) hx hb dX5_take_53 (by decide) (by decide) rfl (by decide) ?_
            refine lv_aload_n hx hb dX5_take_124 rfl (lv_at hl 0 rfl) ?_
            refine lv_iload_n hx hb dX5_take_125 rfl (lv_at hl 1 rfl) ?_
            refine lv_bipush (v := 19) hx hb dX5_take_126 (by decide) ?_
            refine lv_icmp_ne (tgt := 135) hx hb dX5_take_128 (by decide) (fun c_116 => ?_) (fun c_116 => ?_)
            · rw [if_neg c_116] at hF
              refine lv_iconst (v := 0) hx hb dX5_take_135 (by decide) ?_
              refine lv_bipush (v := 6) hx hb dX5_take_136 (by decide) ?_
              obtain ⟨r_117, u_118, h_119, hF⟩ := ob_some hF
              refine ccV_v (q0 := 3) (As := [.int 0, .int 6]) (rest := []) hC hH (n_X5_goIf l G Z Q _ T u u_118 r_117 0 6 _ h_119) rfl rfl ⟨wkc_X5_goIf, wka165, wka536, wka537, wka749⟩ kVX5_goIf ⟨Nat.le_of_ble_eq_true rfl, Nat.le_of_ble_eq_true rfl⟩ rfl hl.1 rfl (Nat.le_of_ble_eq_true rfl) dX5_take_138 (fun D H locs hH => ?_)
              refine lv_goto (tgt := 209) hx hb dX5_take_141 (by decide) ?_
              exact cr_v hC hH hr hF dX5_take_209 hlocks
            · rw [if_pos c_116] at hF
              refine lv_iconst (v := 1) hx hb dX5_take_131 (by decide) ?_
              refine lv_goto (tgt := 136) hx hb dX5_take_132 (by decide) ?_
              refine lv_bipush (v := 6) hx hb dX5_take_136 (by decide) ?_
              obtain ⟨r_120, u_121, h_122, hF⟩ := ob_some hF
              refine ccV_v (q0 := 3) (As := [.int 1, .int 6]) (rest := []) hC hH (n_X5_goIf l G Z Q _ T u u_121 r_120 1 6 _ h_122) rfl rfl ⟨wkc_X5_goIf, wka165, wka536, wka537, wka749⟩ kVX5_goIf ⟨Nat.le_of_ble_eq_true rfl, Nat.le_of_ble_eq_true rfl⟩ rfl hl.1 rfl (Nat.le_of_ble_eq_true rfl) dX5_take_138 (fun D H locs hH => ?_)
              refine lv_goto (tgt := 209) hx hb dX5_take_141 (by decide) ?_
              exact cr_v hC hH hr hF dX5_take_209 hlocks
          rw [if_neg c_115] at hF
          by_cases c_123 : (u.1 12) = 9
          · rw [if_pos c_123] at hF
            refine gx_ti (y := 9) c_123 ?_
            refine lv_tableIn (off := 55) (tgt := 108) hx hb dX5_take_53 (by decide) (by decide) rfl (by decide) ?_
            refine lv_aload_n hx hb dX5_take_108 rfl (lv_at hl 0 rfl) ?_
            refine lv_iload_n hx hb dX5_take_109 rfl (lv_at hl 1 rfl) ?_
            obtain ⟨r_124, u_125, h_126, hF⟩ := ob_some hF
            refine ccV_v (q0 := 3) (As := [.int a0]) (rest := []) hC hH (n_X5_takeSignOrLine l G Z Q _ T u u_125 r_124 a0 _ h_126) rfl rfl ⟨wkc_X5_takeSignOrLine, wka172, wka540, wka541, wka749⟩ kVX5_takeSignOrLine ⟨Nat.le_of_ble_eq_true rfl, Nat.le_of_ble_eq_true rfl⟩ rfl hl.1 rfl (Nat.le_of_ble_eq_true rfl) dX5_take_110 (fun D H locs hH => ?_)
            refine lv_goto (tgt := 209) hx hb dX5_take_113 (by decide) ?_
            exact cr_v hC hH hr hF dX5_take_209 hlocks
          rw [if_neg c_123] at hF
          by_cases c_127 : (u.1 12) = 10
          · rw [if_pos c_127] at hF
            refine gx_ti (y := 10) c_127 ?_
            refine lv_tableIn (off := 91) (tgt := 144) hx hb dX5_take_53 (by decide) (by decide) rfl (by decide) ?_
            refine lv_aload_n hx hb dX5_take_144 rfl (lv_at hl 0 rfl) ?_
            refine lv_iload_n hx hb dX5_take_145 rfl (lv_at hl 1 rfl) ?_
            obtain ⟨r_128, u_129, h_130, hF⟩ := ob_some hF
            refine ccV_v (q0 := 3) (As := [.int a0]) (rest := []) hC hH (n_X5_takePoints l G Z Q _ T u u_129 r_128 a0 _ h_130) rfl rfl ⟨wkc_X5_takePoints, wka179, wka548, wka549, wka749⟩ kVX5_takePoints ⟨Nat.le_of_ble_eq_true rfl, Nat.le_of_ble_eq_true rfl⟩ rfl hl.1 rfl (Nat.le_of_ble_eq_true rfl) dX5_take_146 (fun D H locs hH => ?_)
            refine lv_goto (tgt := 209) hx hb dX5_take_149 (by decide) ?_
            exact cr_v hC hH hr hF dX5_take_209 hlocks
          rw [if_neg c_127] at hF
          by_cases c_131 : (u.1 12) = 11
          · rw [if_pos c_131] at hF
            refine gx_ti (y := 11) c_131 ?_
            refine lv_tableIn (off := 99) (tgt := 152) hx hb dX5_take_53 (by decide) (by decide) rfl (by decide) ?_
            refine lv_aload_n hx hb dX5_take_152 rfl (lv_at hl 0 rfl) ?_
            refine lv_iload_n hx hb dX5_take_153 rfl (lv_at hl 1 rfl) ?_
            refine lv_bipush (v := 8) hx hb dX5_take_154 (by decide) ?_
            refine lv_icmp_ne (tgt := 163) hx hb dX5_take_156 (by decide) (fun c_132 => ?_) (fun c_132 => ?_)
            · rw [if_neg c_132] at hF
              refine lv_iconst (v := 0) hx hb dX5_take_163 (by decide) ?_
              refine lv_bipush (v := 12) hx hb dX5_take_164 (by decide) ?_
              obtain ⟨r_133, u_134, h_135, hF⟩ := ob_some hF
              refine ccV_v (q0 := 3) (As := [.int 0, .int 12]) (rest := []) hC hH (n_X5_goIf l G Z Q _ T u u_134 r_133 0 12 _ h_135) rfl rfl ⟨wkc_X5_goIf, wka165, wka536, wka537, wka749⟩ kVX5_goIf ⟨Nat.le_of_ble_eq_true rfl, Nat.le_of_ble_eq_true rfl⟩ rfl hl.1 rfl (Nat.le_of_ble_eq_true rfl) dX5_take_166 (fun D H locs hH => ?_)
              refine lv_goto (tgt := 209) hx hb dX5_take_169 (by decide) ?_
              exact cr_v hC hH hr hF dX5_take_209 hlocks
            · rw [if_pos c_132] at hF
              refine lv_iconst (v := 1) hx hb dX5_take_159 (by decide) ?_
              refine lv_goto (tgt := 164) hx hb dX5_take_160 (by decide) ?_
              refine lv_bipush (v := 12) hx hb dX5_take_164 (by decide) ?_
              obtain ⟨r_136, u_137, h_138, hF⟩ := ob_some hF
              refine ccV_v (q0 := 3) (As := [.int 1, .int 12]) (rest := []) hC hH (n_X5_goIf l G Z Q _ T u u_137 r_136 1 12 _ h_138) rfl rfl ⟨wkc_X5_goIf, wka165, wka536, wka537, wka749⟩ kVX5_goIf ⟨Nat.le_of_ble_eq_true rfl, Nat.le_of_ble_eq_true rfl⟩ rfl hl.1 rfl (Nat.le_of_ble_eq_true rfl) dX5_take_166 (fun D H locs hH => ?_)
              refine lv_goto (tgt := 209) hx hb dX5_take_169 (by decide) ?_
              exact cr_v hC hH hr hF dX5_take_209 hlocks
          rw [if_neg c_131] at hF
          by_cases c_139 : (u.1 12) = 12
          · rw [if_pos c_139] at hF
            refine gx_ti (y := 12) c_139 ?_
            refine lv_tableIn (off := 119) (tgt := 172) hx hb dX5_take_53 (by decide) (by decide) rfl (by decide) ?_
            refine lv_aload_n hx hb dX5_take_172 rfl (lv_at hl 0 rfl) ?_
            refine lv_iload_n hx hb dX5_take_173 rfl (lv_at hl 1 rfl) ?_
            obtain ⟨r_140, u_141, h_142, hF⟩ := ob_some hF
            refine ccV_v (q0 := 3) (As := [.int a0]) (rest := []) hC hH (n_X5_takeCond l G Z Q _ T u u_141 r_140 a0 _ h_142) rfl rfl ⟨wkc_X5_takeCond, wka180, wka550, wka551, wka749⟩ kVX5_takeCond ⟨Nat.le_of_ble_eq_true rfl, Nat.le_of_ble_eq_true rfl⟩ rfl hl.1 rfl (Nat.le_of_ble_eq_true rfl) dX5_take_174 (fun D H locs hH => ?_)
            refine lv_goto (tgt := 209) hx hb dX5_take_177 (by decide) ?_
            exact cr_v hC hH hr hF dX5_take_209 hlocks
          rw [if_neg c_139] at hF
          by_cases c_143 : (u.1 12) = 13
          · rw [if_pos c_143] at hF
            refine gx_ti (y := 13) c_143 ?_
            refine lv_tableIn (off := 127) (tgt := 180) hx hb dX5_take_53 (by decide) (by decide) rfl (by decide) ?_
            refine lv_aload_n hx hb dX5_take_180 rfl (lv_at hl 0 rfl) ?_
            refine lv_iload_n hx hb dX5_take_181 rfl (lv_at hl 1 rfl) ?_
            obtain ⟨r_144, u_145, h_146, hF⟩ := ob_some hF
            refine ccV_v (q0 := 3) (As := [.int a0]) (rest := []) hC hH (n_X5_takeTerm l G Z Q _ T u u_145 r_144 a0 _ h_146) rfl rfl ⟨wkc_X5_takeTerm, wka184, wka556, wka557, wka749⟩ kVX5_takeTerm ⟨Nat.le_of_ble_eq_true rfl, Nat.le_of_ble_eq_true rfl⟩ rfl hl.1 rfl (Nat.le_of_ble_eq_true rfl) dX5_take_182 (fun D H locs hH => ?_)
            refine lv_goto (tgt := 209) hx hb dX5_take_185 (by decide) ?_
            exact cr_v hC hH hr hF dX5_take_209 hlocks
          rw [if_neg c_143] at hF
          by_cases c_147 : (u.1 12) = 14
          · rw [if_pos c_147] at hF
            refine gx_ti (y := 14) c_147 ?_
            refine lv_tableIn (off := 135) (tgt := 188) hx hb dX5_take_53 (by decide) (by decide) rfl (by decide) ?_
            refine lv_aload_n hx hb dX5_take_188 rfl (lv_at hl 0 rfl) ?_
            refine lv_iload_n hx hb dX5_take_189 rfl (lv_at hl 1 rfl) ?_
            obtain ⟨r_148, u_149, h_150, hF⟩ := ob_some hF
            refine ccV_v (q0 := 3) (As := [.int a0]) (rest := []) hC hH (n_X5_takeTermName l G Z Q _ T u u_149 r_148 a0 _ h_150) rfl rfl ⟨wkc_X5_takeTermName, wka186, wka558, wka559, wka749⟩ kVX5_takeTermName ⟨Nat.le_of_ble_eq_true rfl, Nat.le_of_ble_eq_true rfl⟩ rfl hl.1 rfl (Nat.le_of_ble_eq_true rfl) dX5_take_190 (fun D H locs hH => ?_)
            refine lv_goto (tgt := 209) hx hb dX5_take_193 (by decide) ?_
            exact cr_v hC hH hr hF dX5_take_209 hlocks
          rw [if_neg c_147] at hF
          by_cases c_151 : (u.1 12) = 15
          · rw [if_pos c_151] at hF
            refine gx_ti (y := 15) c_151 ?_
            refine lv_tableIn (off := 143) (tgt := 196) hx hb dX5_take_53 (by decide) (by decide) rfl (by decide) ?_
            refine lv_aload_n hx hb dX5_take_196 rfl (lv_at hl 0 rfl) ?_
            refine lv_iload_n hx hb dX5_take_197 rfl (lv_at hl 1 rfl) ?_
            obtain ⟨r_152, u_153, h_154, hF⟩ := ob_some hF
            refine ccV_v (q0 := 3) (As := [.int a0]) (rest := []) hC hH (n_X5_takeBehindTerm l G Z Q _ T u u_153 r_152 a0 _ h_154) rfl rfl ⟨wkc_X5_takeBehindTerm, wka187, wka564, wka565, wka749⟩ kVX5_takeBehindTerm ⟨Nat.le_of_ble_eq_true rfl, Nat.le_of_ble_eq_true rfl⟩ rfl hl.1 rfl (Nat.le_of_ble_eq_true rfl) dX5_take_198 (fun D H locs hH => ?_)
            refine lv_goto (tgt := 209) hx hb dX5_take_201 (by decide) ?_
            exact cr_v hC hH hr hF dX5_take_209 hlocks
          rw [if_neg c_151] at hF
          refine lv_tableOut (tgt := 204) hx hb dX5_take_53 (by have q0 := gl_ne c_107 (a := 6) (by decide); have q1 := gl_ne c_111 (a := 7) (by decide); have q2 := gl_ne c_115 (a := 8) (by decide); have q3 := gl_ne c_123 (a := 9) (by decide); have q4 := gl_ne c_127 (a := 10) (by decide); have q5 := gl_ne c_131 (a := 11) (by decide); have q6 := gl_ne c_139 (a := 12) (by decide); have q7 := gl_ne c_143 (a := 13) (by decide); have q8 := gl_ne c_147 (a := 14) (by decide); have q9 := gl_ne c_151 (a := 15) (by decide); omega) (by decide) ?_
          refine lv_aload_n hx hb dX5_take_204 rfl (lv_at hl 0 rfl) ?_
          refine lv_iload_n hx hb dX5_take_205 rfl (lv_at hl 1 rfl) ?_
          obtain ⟨r_155, u_156, h_157, hF⟩ := ob_some hF
          refine ccV_v (q0 := 3) (As := [.int a0]) (rest := []) hC hH (n_X5_takeBehindCond l G Z Q _ T u u_156 r_155 a0 _ h_157) rfl rfl ⟨wkc_X5_takeBehindCond, wka188, wka566, wka567, wka749⟩ kVX5_takeBehindCond ⟨Nat.le_of_ble_eq_true rfl, Nat.le_of_ble_eq_true rfl⟩ rfl hl.1 rfl (Nat.le_of_ble_eq_true rfl) dX5_take_206 (fun D H locs hH => ?_)
          exact cr_v hC hH hr hF dX5_take_209 hlocks
        · rw [if_neg c_106] at hF
          refine lv_iload_n hx hb dX5_take_39 rfl (lv_at hl 1 rfl) ?_
          refine lv_bipush (v := 21) hx hb dX5_take_40 (by decide) ?_
          refine lv_icmp_eq (tgt := 49) hx hb dX5_take_42 (by decide) (fun c_158 => ?_) (fun c_158 => ?_)
          · rw [if_pos c_158] at hF
            refine lv_aload_n hx hb dX5_take_49 rfl (lv_at hl 0 rfl) ?_
            refine cg_X5_52 hC hH dX5_take_50 ?_
            by_cases c_159 : (u.1 12) = 6
            · rw [if_pos c_159] at hF
              refine gx_ti (y := 6) c_159 ?_
              refine lv_tableIn (off := 55) (tgt := 108) hx hb dX5_take_53 (by decide) (by decide) rfl (by decide) ?_
              refine lv_aload_n hx hb dX5_take_108 rfl (lv_at hl 0 rfl) ?_
              refine lv_iload_n hx hb dX5_take_109 rfl (lv_at hl 1 rfl) ?_
              obtain ⟨r_160, u_161, h_162, hF⟩ := ob_some hF
              refine ccV_v (q0 := 3) (As := [.int a0]) (rest := []) hC hH (n_X5_takeSignOrLine l G Z Q _ T u u_161 r_160 a0 _ h_162) rfl rfl ⟨wkc_X5_takeSignOrLine, wka172, wka540, wka541, wka749⟩ kVX5_takeSignOrLine ⟨Nat.le_of_ble_eq_true rfl, Nat.le_of_ble_eq_true rfl⟩ rfl hl.1 rfl (Nat.le_of_ble_eq_true rfl) dX5_take_110 (fun D H locs hH => ?_)
              refine lv_goto (tgt := 209) hx hb dX5_take_113 (by decide) ?_
              exact cr_v hC hH hr hF dX5_take_209 hlocks
            rw [if_neg c_159] at hF
            by_cases c_163 : (u.1 12) = 7
            · rw [if_pos c_163] at hF
              refine gx_ti (y := 7) c_163 ?_
              refine lv_tableIn (off := 63) (tgt := 116) hx hb dX5_take_53 (by decide) (by decide) rfl (by decide) ?_
              refine lv_aload_n hx hb dX5_take_116 rfl (lv_at hl 0 rfl) ?_
              refine lv_iload_n hx hb dX5_take_117 rfl (lv_at hl 1 rfl) ?_
              obtain ⟨r_164, u_165, h_166, hF⟩ := ob_some hF
              refine ccV_v (q0 := 3) (As := [.int a0]) (rest := []) hC hH (n_X5_takeSignName l G Z Q _ T u u_165 r_164 a0 _ h_166) rfl rfl ⟨wkc_X5_takeSignName, wka175, wka544, wka545, wka749⟩ kVX5_takeSignName ⟨Nat.le_of_ble_eq_true rfl, Nat.le_of_ble_eq_true rfl⟩ rfl hl.1 rfl (Nat.le_of_ble_eq_true rfl) dX5_take_118 (fun D H locs hH => ?_)
              refine lv_goto (tgt := 209) hx hb dX5_take_121 (by decide) ?_
              exact cr_v hC hH hr hF dX5_take_209 hlocks
            rw [if_neg c_163] at hF
            by_cases c_167 : (u.1 12) = 8
            · rw [if_pos c_167] at hF
              refine gx_ti (y := 8) c_167 ?_
              refine lv_tableIn (off := 71) (tgt := 124) hx hb dX5_take_53 (by decide) (by decide) rfl (by decide) ?_
              refine lv_aload_n hx hb dX5_take_124 rfl (lv_at hl 0 rfl) ?_
              refine lv_iload_n hx hb dX5_take_125 rfl (lv_at hl 1 rfl) ?_
              refine lv_bipush (v := 19) hx hb dX5_take_126 (by decide) ?_
              refine lv_icmp_ne (tgt := 135) hx hb dX5_take_128 (by decide) (fun c_168 => ?_) (fun c_168 => ?_)
              · rw [if_neg c_168] at hF
                refine lv_iconst (v := 0) hx hb dX5_take_135 (by decide) ?_
                refine lv_bipush (v := 6) hx hb dX5_take_136 (by decide) ?_
                obtain ⟨r_169, u_170, h_171, hF⟩ := ob_some hF
                refine ccV_v (q0 := 3) (As := [.int 0, .int 6]) (rest := []) hC hH (n_X5_goIf l G Z Q _ T u u_170 r_169 0 6 _ h_171) rfl rfl ⟨wkc_X5_goIf, wka165, wka536, wka537, wka749⟩ kVX5_goIf ⟨Nat.le_of_ble_eq_true rfl, Nat.le_of_ble_eq_true rfl⟩ rfl hl.1 rfl (Nat.le_of_ble_eq_true rfl) dX5_take_138 (fun D H locs hH => ?_)
                refine lv_goto (tgt := 209) hx hb dX5_take_141 (by decide) ?_
                exact cr_v hC hH hr hF dX5_take_209 hlocks
              · rw [if_pos c_168] at hF
                refine lv_iconst (v := 1) hx hb dX5_take_131 (by decide) ?_
                refine lv_goto (tgt := 136) hx hb dX5_take_132 (by decide) ?_
                refine lv_bipush (v := 6) hx hb dX5_take_136 (by decide) ?_
                obtain ⟨r_172, u_173, h_174, hF⟩ := ob_some hF
                refine ccV_v (q0 := 3) (As := [.int 1, .int 6]) (rest := []) hC hH (n_X5_goIf l G Z Q _ T u u_173 r_172 1 6 _ h_174) rfl rfl ⟨wkc_X5_goIf, wka165, wka536, wka537, wka749⟩ kVX5_goIf ⟨Nat.le_of_ble_eq_true rfl, Nat.le_of_ble_eq_true rfl⟩ rfl hl.1 rfl (Nat.le_of_ble_eq_true rfl) dX5_take_138 (fun D H locs hH => ?_)
                refine lv_goto (tgt := 209) hx hb dX5_take_141 (by decide) ?_
                exact cr_v hC hH hr hF dX5_take_209 hlocks
            rw [if_neg c_167] at hF
            by_cases c_175 : (u.1 12) = 9
            · rw [if_pos c_175] at hF
              refine gx_ti (y := 9) c_175 ?_
              refine lv_tableIn (off := 55) (tgt := 108) hx hb dX5_take_53 (by decide) (by decide) rfl (by decide) ?_
              refine lv_aload_n hx hb dX5_take_108 rfl (lv_at hl 0 rfl) ?_
              refine lv_iload_n hx hb dX5_take_109 rfl (lv_at hl 1 rfl) ?_
              obtain ⟨r_176, u_177, h_178, hF⟩ := ob_some hF
              refine ccV_v (q0 := 3) (As := [.int a0]) (rest := []) hC hH (n_X5_takeSignOrLine l G Z Q _ T u u_177 r_176 a0 _ h_178) rfl rfl ⟨wkc_X5_takeSignOrLine, wka172, wka540, wka541, wka749⟩ kVX5_takeSignOrLine ⟨Nat.le_of_ble_eq_true rfl, Nat.le_of_ble_eq_true rfl⟩ rfl hl.1 rfl (Nat.le_of_ble_eq_true rfl) dX5_take_110 (fun D H locs hH => ?_)
              refine lv_goto (tgt := 209) hx hb dX5_take_113 (by decide) ?_
              exact cr_v hC hH hr hF dX5_take_209 hlocks
            rw [if_neg c_175] at hF
            by_cases c_179 : (u.1 12) = 10
            · rw [if_pos c_179] at hF
              refine gx_ti (y := 10) c_179 ?_
              refine lv_tableIn (off := 91) (tgt := 144) hx hb dX5_take_53 (by decide) (by decide) rfl (by decide) ?_
              refine lv_aload_n hx hb dX5_take_144 rfl (lv_at hl 0 rfl) ?_
              refine lv_iload_n hx hb dX5_take_145 rfl (lv_at hl 1 rfl) ?_
              obtain ⟨r_180, u_181, h_182, hF⟩ := ob_some hF
              refine ccV_v (q0 := 3) (As := [.int a0]) (rest := []) hC hH (n_X5_takePoints l G Z Q _ T u u_181 r_180 a0 _ h_182) rfl rfl ⟨wkc_X5_takePoints, wka179, wka548, wka549, wka749⟩ kVX5_takePoints ⟨Nat.le_of_ble_eq_true rfl, Nat.le_of_ble_eq_true rfl⟩ rfl hl.1 rfl (Nat.le_of_ble_eq_true rfl) dX5_take_146 (fun D H locs hH => ?_)
              refine lv_goto (tgt := 209) hx hb dX5_take_149 (by decide) ?_
              exact cr_v hC hH hr hF dX5_take_209 hlocks
            rw [if_neg c_179] at hF
            by_cases c_183 : (u.1 12) = 11
            · rw [if_pos c_183] at hF
              refine gx_ti (y := 11) c_183 ?_
              refine lv_tableIn (off := 99) (tgt := 152) hx hb dX5_take_53 (by decide) (by decide) rfl (by decide) ?_
              refine lv_aload_n hx hb dX5_take_152 rfl (lv_at hl 0 rfl) ?_
              refine lv_iload_n hx hb dX5_take_153 rfl (lv_at hl 1 rfl) ?_
              refine lv_bipush (v := 8) hx hb dX5_take_154 (by decide) ?_
              refine lv_icmp_ne (tgt := 163) hx hb dX5_take_156 (by decide) (fun c_184 => ?_) (fun c_184 => ?_)
              · rw [if_neg c_184] at hF
                refine lv_iconst (v := 0) hx hb dX5_take_163 (by decide) ?_
                refine lv_bipush (v := 12) hx hb dX5_take_164 (by decide) ?_
                obtain ⟨r_185, u_186, h_187, hF⟩ := ob_some hF
                refine ccV_v (q0 := 3) (As := [.int 0, .int 12]) (rest := []) hC hH (n_X5_goIf l G Z Q _ T u u_186 r_185 0 12 _ h_187) rfl rfl ⟨wkc_X5_goIf, wka165, wka536, wka537, wka749⟩ kVX5_goIf ⟨Nat.le_of_ble_eq_true rfl, Nat.le_of_ble_eq_true rfl⟩ rfl hl.1 rfl (Nat.le_of_ble_eq_true rfl) dX5_take_166 (fun D H locs hH => ?_)
                refine lv_goto (tgt := 209) hx hb dX5_take_169 (by decide) ?_
                exact cr_v hC hH hr hF dX5_take_209 hlocks
              · rw [if_pos c_184] at hF
                refine lv_iconst (v := 1) hx hb dX5_take_159 (by decide) ?_
                refine lv_goto (tgt := 164) hx hb dX5_take_160 (by decide) ?_
                refine lv_bipush (v := 12) hx hb dX5_take_164 (by decide) ?_
                obtain ⟨r_188, u_189, h_190, hF⟩ := ob_some hF
                refine ccV_v (q0 := 3) (As := [.int 1, .int 12]) (rest := []) hC hH (n_X5_goIf l G Z Q _ T u u_189 r_188 1 12 _ h_190) rfl rfl ⟨wkc_X5_goIf, wka165, wka536, wka537, wka749⟩ kVX5_goIf ⟨Nat.le_of_ble_eq_true rfl, Nat.le_of_ble_eq_true rfl⟩ rfl hl.1 rfl (Nat.le_of_ble_eq_true rfl) dX5_take_166 (fun D H locs hH => ?_)
                refine lv_goto (tgt := 209) hx hb dX5_take_169 (by decide) ?_
                exact cr_v hC hH hr hF dX5_take_209 hlocks
            rw [if_neg c_183] at hF
            by_cases c_191 : (u.1 12) = 12
            · rw [if_pos c_191] at hF
              refine gx_ti (y := 12) c_191 ?_
              refine lv_tableIn (off := 119) (tgt := 172) hx hb dX5_take_53 (by decide) (by decide) rfl (by decide) ?_
              refine lv_aload_n hx hb dX5_take_172 rfl (lv_at hl 0 rfl) ?_
              refine lv_iload_n hx hb dX5_take_173 rfl (lv_at hl 1 rfl) ?_
              obtain ⟨r_192, u_193, h_194, hF⟩ := ob_some hF
              refine ccV_v (q0 := 3) (As := [.int a0]) (rest := []) hC hH (n_X5_takeCond l G Z Q _ T u u_193 r_192 a0 _ h_194) rfl rfl ⟨wkc_X5_takeCond, wka180, wka550, wka551, wka749⟩ kVX5_takeCond ⟨Nat.le_of_ble_eq_true rfl, Nat.le_of_ble_eq_true rfl⟩ rfl hl.1 rfl (Nat.le_of_ble_eq_true rfl) dX5_take_174 (fun D H locs hH => ?_)
              refine lv_goto (tgt := 209) hx hb dX5_take_177 (by decide) ?_
              exact cr_v hC hH hr hF dX5_take_209 hlocks
            rw [if_neg c_191] at hF
            by_cases c_195 : (u.1 12) = 13
            · rw [if_pos c_195] at hF
              refine gx_ti (y := 13) c_195 ?_
              refine lv_tableIn (off := 127) (tgt := 180) hx hb dX5_take_53 (by decide) (by decide) rfl (by decide) ?_
              refine lv_aload_n hx hb dX5_take_180 rfl (lv_at hl 0 rfl) ?_
              refine lv_iload_n hx hb dX5_take_181 rfl (lv_at hl 1 rfl) ?_
              obtain ⟨r_196, u_197, h_198, hF⟩ := ob_some hF
              refine ccV_v (q0 := 3) (As := [.int a0]) (rest := []) hC hH (n_X5_takeTerm l G Z Q _ T u u_197 r_196 a0 _ h_198) rfl rfl ⟨wkc_X5_takeTerm, wka184, wka556, wka557, wka749⟩ kVX5_takeTerm ⟨Nat.le_of_ble_eq_true rfl, Nat.le_of_ble_eq_true rfl⟩ rfl hl.1 rfl (Nat.le_of_ble_eq_true rfl) dX5_take_182 (fun D H locs hH => ?_)
              refine lv_goto (tgt := 209) hx hb dX5_take_185 (by decide) ?_
              exact cr_v hC hH hr hF dX5_take_209 hlocks
            rw [if_neg c_195] at hF
            by_cases c_199 : (u.1 12) = 14
            · rw [if_pos c_199] at hF
              refine gx_ti (y := 14) c_199 ?_
              refine lv_tableIn (off := 135) (tgt := 188) hx hb dX5_take_53 (by decide) (by decide) rfl (by decide) ?_
              refine lv_aload_n hx hb dX5_take_188 rfl (lv_at hl 0 rfl) ?_
              refine lv_iload_n hx hb dX5_take_189 rfl (lv_at hl 1 rfl) ?_
              obtain ⟨r_200, u_201, h_202, hF⟩ := ob_some hF
              refine ccV_v (q0 := 3) (As := [.int a0]) (rest := []) hC hH (n_X5_takeTermName l G Z Q _ T u u_201 r_200 a0 _ h_202) rfl rfl ⟨wkc_X5_takeTermName, wka186, wka558, wka559, wka749⟩ kVX5_takeTermName ⟨Nat.le_of_ble_eq_true rfl, Nat.le_of_ble_eq_true rfl⟩ rfl hl.1 rfl (Nat.le_of_ble_eq_true rfl) dX5_take_190 (fun D H locs hH => ?_)
              refine lv_goto (tgt := 209) hx hb dX5_take_193 (by decide) ?_
              exact cr_v hC hH hr hF dX5_take_209 hlocks
            rw [if_neg c_199] at hF
            by_cases c_203 : (u.1 12) = 15
            · rw [if_pos c_203] at hF
              refine gx_ti (y := 15) c_203 ?_
              refine lv_tableIn (off := 143) (tgt := 196) hx hb dX5_take_53 (by decide) (by decide) rfl (by decide) ?_
              refine lv_aload_n hx hb dX5_take_196 rfl (lv_at hl 0 rfl) ?_
              refine lv_iload_n hx hb dX5_take_197 rfl (lv_at hl 1 rfl) ?_
              obtain ⟨r_204, u_205, h_206, hF⟩ := ob_some hF
              refine ccV_v (q0 := 3) (As := [.int a0]) (rest := []) hC hH (n_X5_takeBehindTerm l G Z Q _ T u u_205 r_204 a0 _ h_206) rfl rfl ⟨wkc_X5_takeBehindTerm, wka187, wka564, wka565, wka749⟩ kVX5_takeBehindTerm ⟨Nat.le_of_ble_eq_true rfl, Nat.le_of_ble_eq_true rfl⟩ rfl hl.1 rfl (Nat.le_of_ble_eq_true rfl) dX5_take_198 (fun D H locs hH => ?_)
              refine lv_goto (tgt := 209) hx hb dX5_take_201 (by decide) ?_
              exact cr_v hC hH hr hF dX5_take_209 hlocks
            rw [if_neg c_203] at hF
            refine lv_tableOut (tgt := 204) hx hb dX5_take_53 (by have q0 := gl_ne c_159 (a := 6) (by decide); have q1 := gl_ne c_163 (a := 7) (by decide); have q2 := gl_ne c_167 (a := 8) (by decide); have q3 := gl_ne c_175 (a := 9) (by decide); have q4 := gl_ne c_179 (a := 10) (by decide); have q5 := gl_ne c_183 (a := 11) (by decide); have q6 := gl_ne c_191 (a := 12) (by decide); have q7 := gl_ne c_195 (a := 13) (by decide); have q8 := gl_ne c_199 (a := 14) (by decide); have q9 := gl_ne c_203 (a := 15) (by decide); omega) (by decide) ?_
            refine lv_aload_n hx hb dX5_take_204 rfl (lv_at hl 0 rfl) ?_
            refine lv_iload_n hx hb dX5_take_205 rfl (lv_at hl 1 rfl) ?_
            obtain ⟨r_207, u_208, h_209, hF⟩ := ob_some hF
            refine ccV_v (q0 := 3) (As := [.int a0]) (rest := []) hC hH (n_X5_takeBehindCond l G Z Q _ T u u_208 r_207 a0 _ h_209) rfl rfl ⟨wkc_X5_takeBehindCond, wka188, wka566, wka567, wka749⟩ kVX5_takeBehindCond ⟨Nat.le_of_ble_eq_true rfl, Nat.le_of_ble_eq_true rfl⟩ rfl hl.1 rfl (Nat.le_of_ble_eq_true rfl) dX5_take_206 (fun D H locs hH => ?_)
            exact cr_v hC hH hr hF dX5_take_209 hlocks
          · rw [if_neg c_158] at hF
            refine lv_aload_n hx hb dX5_take_45 rfl (lv_at hl 0 rfl) ?_
            obtain ⟨r_210, u_211, h_212, hF⟩ := ob_some hF
            refine ccV_v (q0 := 3) (As := []) (rest := []) hC hH (n_X5_endComparison l G Z Q _ T u u_211 r_210 _ h_212) rfl rfl ⟨wkc_X5_endComparison, wka167, wka562, wka563, wka749⟩ kVX5_endComparison ⟨Nat.le_of_ble_eq_true rfl, Nat.le_of_ble_eq_true rfl⟩ rfl hl.1 rfl (Nat.le_of_ble_eq_true rfl) dX5_take_46 (fun D H locs hH => ?_)
            refine lv_aload_n hx hb dX5_take_49 rfl (lv_at hl 0 rfl) ?_
            refine cg_X5_52 hC hH dX5_take_50 ?_
            by_cases c_213 : (u_211.1 12) = 6
            · rw [if_pos c_213] at hF
              refine gx_ti (y := 6) c_213 ?_
              refine lv_tableIn (off := 55) (tgt := 108) hx hb dX5_take_53 (by decide) (by decide) rfl (by decide) ?_
              refine lv_aload_n hx hb dX5_take_108 rfl (lv_at hl 0 rfl) ?_
              refine lv_iload_n hx hb dX5_take_109 rfl (lv_at hl 1 rfl) ?_
              obtain ⟨r_214, u_215, h_216, hF⟩ := ob_some hF
              refine ccV_v (q0 := 3) (As := [.int a0]) (rest := []) hC hH (n_X5_takeSignOrLine l G Z Q _ T u_211 u_215 r_214 a0 _ h_216) rfl rfl ⟨wkc_X5_takeSignOrLine, wka172, wka540, wka541, wka749⟩ kVX5_takeSignOrLine ⟨Nat.le_of_ble_eq_true rfl, Nat.le_of_ble_eq_true rfl⟩ rfl hl.1 rfl (Nat.le_of_ble_eq_true rfl) dX5_take_110 (fun D H locs hH => ?_)
              refine lv_goto (tgt := 209) hx hb dX5_take_113 (by decide) ?_
              exact cr_v hC hH hr hF dX5_take_209 hlocks
            rw [if_neg c_213] at hF
            by_cases c_217 : (u_211.1 12) = 7
            · rw [if_pos c_217] at hF
              refine gx_ti (y := 7) c_217 ?_
              refine lv_tableIn (off := 63) (tgt := 116) hx hb dX5_take_53 (by decide) (by decide) rfl (by decide) ?_
              refine lv_aload_n hx hb dX5_take_116 rfl (lv_at hl 0 rfl) ?_
              refine lv_iload_n hx hb dX5_take_117 rfl (lv_at hl 1 rfl) ?_
              obtain ⟨r_218, u_219, h_220, hF⟩ := ob_some hF
              refine ccV_v (q0 := 3) (As := [.int a0]) (rest := []) hC hH (n_X5_takeSignName l G Z Q _ T u_211 u_219 r_218 a0 _ h_220) rfl rfl ⟨wkc_X5_takeSignName, wka175, wka544, wka545, wka749⟩ kVX5_takeSignName ⟨Nat.le_of_ble_eq_true rfl, Nat.le_of_ble_eq_true rfl⟩ rfl hl.1 rfl (Nat.le_of_ble_eq_true rfl) dX5_take_118 (fun D H locs hH => ?_)
              refine lv_goto (tgt := 209) hx hb dX5_take_121 (by decide) ?_
              exact cr_v hC hH hr hF dX5_take_209 hlocks
            rw [if_neg c_217] at hF
            by_cases c_221 : (u_211.1 12) = 8
            · rw [if_pos c_221] at hF
              refine gx_ti (y := 8) c_221 ?_
              refine lv_tableIn (off := 71) (tgt := 124) hx hb dX5_take_53 (by decide) (by decide) rfl (by decide) ?_
              refine lv_aload_n hx hb dX5_take_124 rfl (lv_at hl 0 rfl) ?_
              refine lv_iload_n hx hb dX5_take_125 rfl (lv_at hl 1 rfl) ?_
              refine lv_bipush (v := 19) hx hb dX5_take_126 (by decide) ?_
              refine lv_icmp_ne (tgt := 135) hx hb dX5_take_128 (by decide) (fun c_222 => ?_) (fun c_222 => ?_)
              · rw [if_neg c_222] at hF
                refine lv_iconst (v := 0) hx hb dX5_take_135 (by decide) ?_
                refine lv_bipush (v := 6) hx hb dX5_take_136 (by decide) ?_
                obtain ⟨r_223, u_224, h_225, hF⟩ := ob_some hF
                refine ccV_v (q0 := 3) (As := [.int 0, .int 6]) (rest := []) hC hH (n_X5_goIf l G Z Q _ T u_211 u_224 r_223 0 6 _ h_225) rfl rfl ⟨wkc_X5_goIf, wka165, wka536, wka537, wka749⟩ kVX5_goIf ⟨Nat.le_of_ble_eq_true rfl, Nat.le_of_ble_eq_true rfl⟩ rfl hl.1 rfl (Nat.le_of_ble_eq_true rfl) dX5_take_138 (fun D H locs hH => ?_)
                refine lv_goto (tgt := 209) hx hb dX5_take_141 (by decide) ?_
                exact cr_v hC hH hr hF dX5_take_209 hlocks
              · rw [if_pos c_222] at hF
                refine lv_iconst (v := 1) hx hb dX5_take_131 (by decide) ?_
                refine lv_goto (tgt := 136) hx hb dX5_take_132 (by decide) ?_
                refine lv_bipush (v := 6) hx hb dX5_take_136 (by decide) ?_
                obtain ⟨r_226, u_227, h_228, hF⟩ := ob_some hF
                refine ccV_v (q0 := 3) (As := [.int 1, .int 6]) (rest := []) hC hH (n_X5_goIf l G Z Q _ T u_211 u_227 r_226 1 6 _ h_228) rfl rfl ⟨wkc_X5_goIf, wka165, wka536, wka537, wka749⟩ kVX5_goIf ⟨Nat.le_of_ble_eq_true rfl, Nat.le_of_ble_eq_true rfl⟩ rfl hl.1 rfl (Nat.le_of_ble_eq_true rfl) dX5_take_138 (fun D H locs hH => ?_)
                refine lv_goto (tgt := 209) hx hb dX5_take_141 (by decide) ?_
                exact cr_v hC hH hr hF dX5_take_209 hlocks
            rw [if_neg c_221] at hF
            by_cases c_229 : (u_211.1 12) = 9
            · rw [if_pos c_229] at hF
              refine gx_ti (y := 9) c_229 ?_
              refine lv_tableIn (off := 55) (tgt := 108) hx hb dX5_take_53 (by decide) (by decide) rfl (by decide) ?_
              refine lv_aload_n hx hb dX5_take_108 rfl (lv_at hl 0 rfl) ?_
              refine lv_iload_n hx hb dX5_take_109 rfl (lv_at hl 1 rfl) ?_
              obtain ⟨r_230, u_231, h_232, hF⟩ := ob_some hF
              refine ccV_v (q0 := 3) (As := [.int a0]) (rest := []) hC hH (n_X5_takeSignOrLine l G Z Q _ T u_211 u_231 r_230 a0 _ h_232) rfl rfl ⟨wkc_X5_takeSignOrLine, wka172, wka540, wka541, wka749⟩ kVX5_takeSignOrLine ⟨Nat.le_of_ble_eq_true rfl, Nat.le_of_ble_eq_true rfl⟩ rfl hl.1 rfl (Nat.le_of_ble_eq_true rfl) dX5_take_110 (fun D H locs hH => ?_)
              refine lv_goto (tgt := 209) hx hb dX5_take_113 (by decide) ?_
              exact cr_v hC hH hr hF dX5_take_209 hlocks
            rw [if_neg c_229] at hF
            by_cases c_233 : (u_211.1 12) = 10
            · rw [if_pos c_233] at hF
              refine gx_ti (y := 10) c_233 ?_
              refine lv_tableIn (off := 91) (tgt := 144) hx hb dX5_take_53 (by decide) (by decide) rfl (by decide) ?_
              refine lv_aload_n hx hb dX5_take_144 rfl (lv_at hl 0 rfl) ?_
              refine lv_iload_n hx hb dX5_take_145 rfl (lv_at hl 1 rfl) ?_
              obtain ⟨r_234, u_235, h_236, hF⟩ := ob_some hF
              refine ccV_v (q0 := 3) (As := [.int a0]) (rest := []) hC hH (n_X5_takePoints l G Z Q _ T u_211 u_235 r_234 a0 _ h_236) rfl rfl ⟨wkc_X5_takePoints, wka179, wka548, wka549, wka749⟩ kVX5_takePoints ⟨Nat.le_of_ble_eq_true rfl, Nat.le_of_ble_eq_true rfl⟩ rfl hl.1 rfl (Nat.le_of_ble_eq_true rfl) dX5_take_146 (fun D H locs hH => ?_)
              refine lv_goto (tgt := 209) hx hb dX5_take_149 (by decide) ?_
              exact cr_v hC hH hr hF dX5_take_209 hlocks
            rw [if_neg c_233] at hF
            by_cases c_237 : (u_211.1 12) = 11
            · rw [if_pos c_237] at hF
              refine gx_ti (y := 11) c_237 ?_
              refine lv_tableIn (off := 99) (tgt := 152) hx hb dX5_take_53 (by decide) (by decide) rfl (by decide) ?_
              refine lv_aload_n hx hb dX5_take_152 rfl (lv_at hl 0 rfl) ?_
              refine lv_iload_n hx hb dX5_take_153 rfl (lv_at hl 1 rfl) ?_
              refine lv_bipush (v := 8) hx hb dX5_take_154 (by decide) ?_
              refine lv_icmp_ne (tgt := 163) hx hb dX5_take_156 (by decide) (fun c_238 => ?_) (fun c_238 => ?_)
              · rw [if_neg c_238] at hF
                refine lv_iconst (v := 0) hx hb dX5_take_163 (by decide) ?_
                refine lv_bipush (v := 12) hx hb dX5_take_164 (by decide) ?_
                obtain ⟨r_239, u_240, h_241, hF⟩ := ob_some hF
                refine ccV_v (q0 := 3) (As := [.int 0, .int 12]) (rest := []) hC hH (n_X5_goIf l G Z Q _ T u_211 u_240 r_239 0 12 _ h_241) rfl rfl ⟨wkc_X5_goIf, wka165, wka536, wka537, wka749⟩ kVX5_goIf ⟨Nat.le_of_ble_eq_true rfl, Nat.le_of_ble_eq_true rfl⟩ rfl hl.1 rfl (Nat.le_of_ble_eq_true rfl) dX5_take_166 (fun D H locs hH => ?_)
                refine lv_goto (tgt := 209) hx hb dX5_take_169 (by decide) ?_
                exact cr_v hC hH hr hF dX5_take_209 hlocks
              · rw [if_pos c_238] at hF
                refine lv_iconst (v := 1) hx hb dX5_take_159 (by decide) ?_
                refine lv_goto (tgt := 164) hx hb dX5_take_160 (by decide) ?_
                refine lv_bipush (v := 12) hx hb dX5_take_164 (by decide) ?_
                obtain ⟨r_242, u_243, h_244, hF⟩ := ob_some hF
                refine ccV_v (q0 := 3) (As := [.int 1, .int 12]) (rest := []) hC hH (n_X5_goIf l G Z Q _ T u_211 u_243 r_242 1 12 _ h_244) rfl rfl ⟨wkc_X5_goIf, wka165, wka536, wka537, wka749⟩ kVX5_goIf ⟨Nat.le_of_ble_eq_true rfl, Nat.le_of_ble_eq_true rfl⟩ rfl hl.1 rfl (Nat.le_of_ble_eq_true rfl) dX5_take_166 (fun D H locs hH => ?_)
                refine lv_goto (tgt := 209) hx hb dX5_take_169 (by decide) ?_
                exact cr_v hC hH hr hF dX5_take_209 hlocks
            rw [if_neg c_237] at hF
            by_cases c_245 : (u_211.1 12) = 12
            · rw [if_pos c_245] at hF
              refine gx_ti (y := 12) c_245 ?_
              refine lv_tableIn (off := 119) (tgt := 172) hx hb dX5_take_53 (by decide) (by decide) rfl (by decide) ?_
              refine lv_aload_n hx hb dX5_take_172 rfl (lv_at hl 0 rfl) ?_
              refine lv_iload_n hx hb dX5_take_173 rfl (lv_at hl 1 rfl) ?_
              obtain ⟨r_246, u_247, h_248, hF⟩ := ob_some hF
              refine ccV_v (q0 := 3) (As := [.int a0]) (rest := []) hC hH (n_X5_takeCond l G Z Q _ T u_211 u_247 r_246 a0 _ h_248) rfl rfl ⟨wkc_X5_takeCond, wka180, wka550, wka551, wka749⟩ kVX5_takeCond ⟨Nat.le_of_ble_eq_true rfl, Nat.le_of_ble_eq_true rfl⟩ rfl hl.1 rfl (Nat.le_of_ble_eq_true rfl) dX5_take_174 (fun D H locs hH => ?_)
              refine lv_goto (tgt := 209) hx hb dX5_take_177 (by decide) ?_
              exact cr_v hC hH hr hF dX5_take_209 hlocks
            rw [if_neg c_245] at hF
            by_cases c_249 : (u_211.1 12) = 13
            · rw [if_pos c_249] at hF
              refine gx_ti (y := 13) c_249 ?_
              refine lv_tableIn (off := 127) (tgt := 180) hx hb dX5_take_53 (by decide) (by decide) rfl (by decide) ?_
              refine lv_aload_n hx hb dX5_take_180 rfl (lv_at hl 0 rfl) ?_
              refine lv_iload_n hx hb dX5_take_181 rfl (lv_at hl 1 rfl) ?_
              obtain ⟨r_250, u_251, h_252, hF⟩ := ob_some hF
              refine ccV_v (q0 := 3) (As := [.int a0]) (rest := []) hC hH (n_X5_takeTerm l G Z Q _ T u_211 u_251 r_250 a0 _ h_252) rfl rfl ⟨wkc_X5_takeTerm, wka184, wka556, wka557, wka749⟩ kVX5_takeTerm ⟨Nat.le_of_ble_eq_true rfl, Nat.le_of_ble_eq_true rfl⟩ rfl hl.1 rfl (Nat.le_of_ble_eq_true rfl) dX5_take_182 (fun D H locs hH => ?_)
              refine lv_goto (tgt := 209) hx hb dX5_take_185 (by decide) ?_
              exact cr_v hC hH hr hF dX5_take_209 hlocks
            rw [if_neg c_249] at hF
            by_cases c_253 : (u_211.1 12) = 14
            · rw [if_pos c_253] at hF
              refine gx_ti (y := 14) c_253 ?_
              refine lv_tableIn (off := 135) (tgt := 188) hx hb dX5_take_53 (by decide) (by decide) rfl (by decide) ?_
              refine lv_aload_n hx hb dX5_take_188 rfl (lv_at hl 0 rfl) ?_
              refine lv_iload_n hx hb dX5_take_189 rfl (lv_at hl 1 rfl) ?_
              obtain ⟨r_254, u_255, h_256, hF⟩ := ob_some hF
              refine ccV_v (q0 := 3) (As := [.int a0]) (rest := []) hC hH (n_X5_takeTermName l G Z Q _ T u_211 u_255 r_254 a0 _ h_256) rfl rfl ⟨wkc_X5_takeTermName, wka186, wka558, wka559, wka749⟩ kVX5_takeTermName ⟨Nat.le_of_ble_eq_true rfl, Nat.le_of_ble_eq_true rfl⟩ rfl hl.1 rfl (Nat.le_of_ble_eq_true rfl) dX5_take_190 (fun D H locs hH => ?_)
              refine lv_goto (tgt := 209) hx hb dX5_take_193 (by decide) ?_
              exact cr_v hC hH hr hF dX5_take_209 hlocks
            rw [if_neg c_253] at hF
            by_cases c_257 : (u_211.1 12) = 15
            · rw [if_pos c_257] at hF
              refine gx_ti (y := 15) c_257 ?_
              refine lv_tableIn (off := 143) (tgt := 196) hx hb dX5_take_53 (by decide) (by decide) rfl (by decide) ?_
              refine lv_aload_n hx hb dX5_take_196 rfl (lv_at hl 0 rfl) ?_
              refine lv_iload_n hx hb dX5_take_197 rfl (lv_at hl 1 rfl) ?_
              obtain ⟨r_258, u_259, h_260, hF⟩ := ob_some hF
              refine ccV_v (q0 := 3) (As := [.int a0]) (rest := []) hC hH (n_X5_takeBehindTerm l G Z Q _ T u_211 u_259 r_258 a0 _ h_260) rfl rfl ⟨wkc_X5_takeBehindTerm, wka187, wka564, wka565, wka749⟩ kVX5_takeBehindTerm ⟨Nat.le_of_ble_eq_true rfl, Nat.le_of_ble_eq_true rfl⟩ rfl hl.1 rfl (Nat.le_of_ble_eq_true rfl) dX5_take_198 (fun D H locs hH => ?_)
              refine lv_goto (tgt := 209) hx hb dX5_take_201 (by decide) ?_
              exact cr_v hC hH hr hF dX5_take_209 hlocks
            rw [if_neg c_257] at hF
            refine lv_tableOut (tgt := 204) hx hb dX5_take_53 (by have q0 := gl_ne c_213 (a := 6) (by decide); have q1 := gl_ne c_217 (a := 7) (by decide); have q2 := gl_ne c_221 (a := 8) (by decide); have q3 := gl_ne c_229 (a := 9) (by decide); have q4 := gl_ne c_233 (a := 10) (by decide); have q5 := gl_ne c_237 (a := 11) (by decide); have q6 := gl_ne c_245 (a := 12) (by decide); have q7 := gl_ne c_249 (a := 13) (by decide); have q8 := gl_ne c_253 (a := 14) (by decide); have q9 := gl_ne c_257 (a := 15) (by decide); omega) (by decide) ?_
            refine lv_aload_n hx hb dX5_take_204 rfl (lv_at hl 0 rfl) ?_
            refine lv_iload_n hx hb dX5_take_205 rfl (lv_at hl 1 rfl) ?_
            obtain ⟨r_261, u_262, h_263, hF⟩ := ob_some hF
            refine ccV_v (q0 := 3) (As := [.int a0]) (rest := []) hC hH (n_X5_takeBehindCond l G Z Q _ T u_211 u_262 r_261 a0 _ h_263) rfl rfl ⟨wkc_X5_takeBehindCond, wka188, wka566, wka567, wka749⟩ kVX5_takeBehindCond ⟨Nat.le_of_ble_eq_true rfl, Nat.le_of_ble_eq_true rfl⟩ rfl hl.1 rfl (Nat.le_of_ble_eq_true rfl) dX5_take_206 (fun D H locs hH => ?_)
            exact cr_v hC hH hr hF dX5_take_209 hlocks
  · rw [if_neg c_1] at hF
    refine lv_aload_n hx hb dX5_take_11 rfl (lv_at hl 0 rfl) ?_
    refine lv_iload_n hx hb dX5_take_12 rfl (lv_at hl 1 rfl) ?_
    obtain ⟨r_264, u_265, h_266, hF⟩ := ob_some hF
    refine ccV_v (q0 := 3) (As := [.int a0]) (rest := []) hC hH (n_X5_takeHead l G Z Q _ T u u_265 r_264 a0 _ h_266) rfl rfl ⟨wkc_X5_takeHead, wka164, wka538, wka539, wka749⟩ kVX5_takeHead ⟨Nat.le_of_ble_eq_true rfl, Nat.le_of_ble_eq_true rfl⟩ rfl hl.1 rfl (Nat.le_of_ble_eq_true rfl) dX5_take_13 (fun D H locs hH => ?_)
    exact cr_v hC hH hr hF dX5_take_16 hlocks
def xl_X5_readLaws_46 : Nat → Int32 → MS → (Int32 → MS → Option (Int32 × MS)) → Option (Int32 × MS)
  | 0, _, _, _ => none
  | n46 + 1, v1, u, K46_93 => (if 3000 < v1 then K46_93 v1 u else (if (u.1 11) = 0 then (if (u.1 12) = 17 then K46_93 v1 u else ob (x_X10_readToken u) (fun r_22 u_23 => ob (x_X5_take (u_23.1 4) u_23) (fun r_25 u_26 => li (v1 + 1) (fun x_28 => xl_X5_readLaws_46 n46 x_28 u_26 K46_93)))) else K46_93 v1 u))
def x_X5_readLaws (u : MS) : Option (Int32 × MS) := ob (x_X4_clear u) (fun r_1 u_2 => ob (x_X10_rewind u_2) (fun r_4 u_5 => lu (si u_5 11 0) (fun u_7 => lu (si u_7 10 (-1)) (fun u_9 => lu (si u_9 12 0) (fun u_11 => lu (si u_11 7 0) (fun u_13 => lu (si u_13 8 0) (fun u_15 => lu (si u_15 9 0) (fun u_17 => xl_X5_readLaws_46 fuel 0 u_17 (fun v1 u => (if (u.1 11) = 0 then some (1, u) else some (0, u)))))))))))
set_option maxHeartbeats 4000000 in
set_option maxRecDepth 100000 in
theorem n_X5_readLaws (l : Launch) (G : gG) (Z : gC) (Q : Nat → Nat) (D : Nat × Nat) (T : va_W) (u u1 : MS) (r : Int32) (sz : Nat) (hF : x_X5_readLaws u = some (r, u1)) : Met l yX5_readLaws (Cond.code yX5_readLaws cX5_readLaws 2 (some .boolean) :: wK) { frames := 8, cells := 0, slots := 0, locals := 168 } (va_Pc [.ref (Q 3)] (cPM G Z Q D T u sz)) (cQi G Q T u1 r (va_A (cW G Q D T u) sz)) 0 0 (va_A (cW G Q D T u) sz) := by
  refine Met.ofW (cc := cX5_readLaws) (maxL := 2) (ret := (some .boolean)) (by decide) rfl ?_
  intro p e s m args below meth c s₁ B hml hv
  obtain ⟨rfl, rfl, hP, hB, hD0, hE⟩ := hv
  have hr := B.returns
  have hlocks := B.notSynchronized
  have hts := atoms_spec (ws := Cond.code yX5_readLaws cX5_readLaws 2 (some .boolean) :: wK) B.pre
  have hD := hD0.self (sz := s.heap.size)
  have hA : ∀ q : Nat, s.heap.size ≤ q → va_A (cW G Q D T u) s.heap.size q := fun q h => Or.inr h
  generalize va_A (cW G Q D T u) s.heap.size = A at hD hA hE ⊢
  have hC : cX p c cX5_readLaws 2 s m _ RX5 G Z A := ⟨B.exec, B.bytes, hml, findClass_of_methodNamed B.named, fun w h => hts w (List.mem_cons_of_mem _ h), hB, hE, hA⟩
  have hx := hC.1
  have hb := hC.2.1
  have hH : cH G Q D T A u s s.heap [] := ⟨hP, hD, va_S.rf⟩
  have hl := lv_entry ([.ref (Q 3)]) (n := 2) (Nat.le_of_ble_eq_true rfl)
  rw [lg_entry_eq]
  generalize (lg_sl ([.ref (Q 3)]) ++ List.replicate (2 - (lg_sl ([.ref (Q 3)])).length) Slot.unset).toArray = ls at hl ⊢
  have hl : lv_has ls 2 [(0, .ref (Q 3))] := hl
  unfold x_X5_readLaws at hF
  refine lv_aload_n hx hb dX5_readLaws_0 rfl (lv_at hl 0 rfl) ?_
  refine cg_X5_33 hC hH dX5_readLaws_1 ?_
  obtain ⟨r_1, u_2, h_3, hF⟩ := ob_some hF
  refine ccV_v (q0 := 10) (As := []) (rest := []) hC hH (n_X4_clear l G Z Q _ T u u_2 r_1 _ h_3) rfl rfl ⟨wkc_X4_clear, wka147, wka516, wka517, wka748⟩ kVX4_clear ⟨Nat.le_of_ble_eq_true rfl, Nat.le_of_ble_eq_true rfl⟩ rfl hl.1 rfl (Nat.le_of_ble_eq_true rfl) dX5_readLaws_4 (fun D H locs hH => ?_)
  refine lv_aload_n hx hb dX5_readLaws_7 rfl (lv_at hl 0 rfl) ?_
  refine cg_X5_9 hC hH dX5_readLaws_8 ?_
  obtain ⟨r_4, u_5, h_6, hF⟩ := ob_some hF
  refine ccV_v (q0 := 2) (As := []) (rest := []) hC hH (n_X10_rewind l G Z Q _ T u_2 u_5 r_4 _ h_6) rfl rfl ⟨wkc_X10_rewind, wka148, wka649, wka650, wka754⟩ kVX10_rewind ⟨Nat.le_of_ble_eq_true rfl, Nat.le_of_ble_eq_true rfl⟩ rfl hl.1 rfl (Nat.le_of_ble_eq_true rfl) dX5_readLaws_11 (fun D H locs hH => ?_)
  refine lv_aload_n hx hb dX5_readLaws_14 rfl (lv_at hl 0 rfl) ?_
  refine lv_iconst (v := 0) hx hb dX5_readLaws_15 (by decide) ?_
  obtain ⟨u_7, e_8, hF⟩ := lu_some hF
  refine cp_X5_49 hC hH e_8 dX5_readLaws_16 (fun H locs hH => ?_)
  refine lv_aload_n hx hb dX5_readLaws_19 rfl (lv_at hl 0 rfl) ?_
  refine lv_iconst (v := (-1)) hx hb dX5_readLaws_20 (by decide) ?_
  obtain ⟨u_9, e_10, hF⟩ := lu_some hF
  refine cp_X5_37 hC hH e_10 dX5_readLaws_21 (fun H locs hH => ?_)
  refine lv_aload_n hx hb dX5_readLaws_24 rfl (lv_at hl 0 rfl) ?_
  refine lv_iconst (v := 0) hx hb dX5_readLaws_25 (by decide) ?_
  obtain ⟨u_11, e_12, hF⟩ := lu_some hF
  refine cp_X5_52 hC hH e_12 dX5_readLaws_26 (fun H locs hH => ?_)
  refine lv_aload_n hx hb dX5_readLaws_29 rfl (lv_at hl 0 rfl) ?_
  refine lv_iconst (v := 0) hx hb dX5_readLaws_30 (by decide) ?_
  obtain ⟨u_13, e_14, hF⟩ := lu_some hF
  refine cp_X5_55 hC hH e_14 dX5_readLaws_31 (fun H locs hH => ?_)
  refine lv_aload_n hx hb dX5_readLaws_34 rfl (lv_at hl 0 rfl) ?_
  refine lv_iconst (v := 0) hx hb dX5_readLaws_35 (by decide) ?_
  obtain ⟨u_15, e_16, hF⟩ := lu_some hF
  refine cp_X5_58 hC hH e_16 dX5_readLaws_36 (fun H locs hH => ?_)
  refine lv_aload_n hx hb dX5_readLaws_39 rfl (lv_at hl 0 rfl) ?_
  refine lv_iconst (v := 0) hx hb dX5_readLaws_40 (by decide) ?_
  obtain ⟨u_17, e_18, hF⟩ := lu_some hF
  refine cp_X5_61 hC hH e_18 dX5_readLaws_41 (fun H locs hH => ?_)
  refine lv_iconst (v := 0) hx hb dX5_readLaws_44 (by decide) ?_
  refine lv_istore_n (lv' := [(1, .int 0), (0, .ref (Q 3))]) hx hb dX5_readLaws_45 rfl hl (by decide) rfl (fun ls hl => ?_)
  have hL46 : ∀ (K46_93 : Int32 → MS → Option (Int32 × MS)), (∀ (v1 : Int32) (u : MS) (D : Nat × Nat) (H : Heap) (locs : List Loc) (ls : Array Slot), lv_has ls 2 [(0, .ref (Q 3)), (1, .int v1)] → cH G Q D T A u s H locs → K46_93 v1 u = some (r, u1) → W p l e (headSpec (Cond.code yX5_readLaws cX5_readLaws 2 (some .boolean) :: wK) { frames := 8, cells := 0, slots := 0, locals := 168 }).room s m [.ref (Q 3)].toArray below meth c H locs 0 0 (MQ below (cQi G Q T u1 r A) [.ref (Q 3)].toArray s 0 0 A) (F0 m 93 ls [])) → ∀ (n46 : Nat) (v1 : Int32) (u : MS) (D : Nat × Nat) (H : Heap) (locs : List Loc) (ls : Array Slot), lv_has ls 2 [(0, .ref (Q 3)), (1, .int v1)] → cH G Q D T A u s H locs → xl_X5_readLaws_46 n46 v1 u K46_93 = some (r, u1) → W p l e (headSpec (Cond.code yX5_readLaws cX5_readLaws 2 (some .boolean) :: wK) { frames := 8, cells := 0, slots := 0, locals := 168 }).room s m [.ref (Q 3)].toArray below meth c H locs 0 0 (MQ below (cQi G Q T u1 r A) [.ref (Q 3)].toArray s 0 0 A) (F0 m 46 ls []) := by
    intro K46_93 hK46_93 n46
    induction n46 with
    | zero => intro v1 u D H locs ls hl hH hF; cases hF
    | succ n46 ih46 =>
      intro v1 u D H locs ls hl hH hF
      unfold xl_X5_readLaws_46 at hF
      refine lv_iload_n hx hb dX5_readLaws_46 rfl (lv_at hl 1 rfl) ?_
      refine lv_sipush (v := 3000) hx hb dX5_readLaws_47 (by decide) ?_
      refine lv_icmp_gt (tgt := 93) hx hb dX5_readLaws_50 (by decide) (fun c_19 => ?_) (fun c_19 => ?_)
      · rw [if_pos c_19] at hF
        exact hK46_93 v1 u _ _ _ _ (lv_sub hl [0, 1] rfl) hH hF
      · rw [if_neg c_19] at hF
        refine lv_aload_n hx hb dX5_readLaws_53 rfl (lv_at hl 0 rfl) ?_
        refine cg_X5_49 hC hH dX5_readLaws_54 ?_
        refine lv_if_ne (tgt := 93) hx hb dX5_readLaws_57 (by decide) (fun c_20 => ?_) (fun c_20 => ?_)
        · rw [if_neg c_20] at hF
          exact hK46_93 v1 u _ _ _ _ (lv_sub hl [0, 1] rfl) hH hF
        · rw [if_pos c_20] at hF
          refine lv_aload_n hx hb dX5_readLaws_60 rfl (lv_at hl 0 rfl) ?_
          refine cg_X5_52 hC hH dX5_readLaws_61 ?_
          refine lv_bipush (v := 17) hx hb dX5_readLaws_64 (by decide) ?_
          refine lv_icmp_eq (tgt := 93) hx hb dX5_readLaws_66 (by decide) (fun c_21 => ?_) (fun c_21 => ?_)
          · rw [if_pos c_21] at hF
            exact hK46_93 v1 u _ _ _ _ (lv_sub hl [0, 1] rfl) hH hF
          · rw [if_neg c_21] at hF
            refine lv_aload_n hx hb dX5_readLaws_69 rfl (lv_at hl 0 rfl) ?_
            refine cg_X5_9 hC hH dX5_readLaws_70 ?_
            obtain ⟨r_22, u_23, h_24, hF⟩ := ob_some hF
            refine ccV_v (q0 := 2) (As := []) (rest := []) hC hH (n_X10_readToken l G Z Q _ T u u_23 r_22 _ h_24) rfl rfl ⟨wkc_X10_readToken, wka149, wka651, wka652, wka754⟩ kVX10_readToken ⟨Nat.le_of_ble_eq_true rfl, Nat.le_of_ble_eq_true rfl⟩ rfl hl.1 rfl (Nat.le_of_ble_eq_true rfl) dX5_readLaws_73 (fun D H locs hH => ?_)
            refine lv_aload_n hx hb dX5_readLaws_76 rfl (lv_at hl 0 rfl) ?_
            refine lv_aload_n hx hb dX5_readLaws_77 rfl (lv_at hl 0 rfl) ?_
            refine cg_X5_9 hC hH dX5_readLaws_78 ?_
            refine cg_X5_67 hC hH dX5_readLaws_81 ?_
            obtain ⟨r_25, u_26, h_27, hF⟩ := ob_some hF
            refine ccV_v (q0 := 3) (As := [.int (u_23.1 4)]) (rest := []) hC hH (n_X5_take l G Z Q _ T u_23 u_26 r_25 (u_23.1 4) _ h_27) rfl rfl ⟨wkc_X5_take, wka162, wka534, wka535, wka749⟩ kVX5_take ⟨Nat.le_of_ble_eq_true rfl, Nat.le_of_ble_eq_true rfl⟩ rfl hl.1 rfl (Nat.le_of_ble_eq_true rfl) dX5_readLaws_84 (fun D H locs hH => ?_)
            obtain ⟨x_28, e_29, hF⟩ := li_some hF
            refine lv_iinc (v := x_28) (lv' := [(1, .int x_28), (0, .ref (Q 3))]) hx hb dX5_readLaws_87 hl (k := 1) rfl e_29 (by decide) rfl (fun ls hl => ?_)
            refine lv_goto (tgt := 46) hx hb dX5_readLaws_90 (by decide) ?_
            exact ih46 x_28 u_26 _ _ _ _ (lv_sub hl [1, 0] rfl) hH hF
  refine hL46 _ (fun v1 u D H locs ls hl hH hF => ?_) fuel 0 u_17 _ _ _ _ (lv_sub hl [1, 0] rfl) hH hF
  refine lv_aload_n hx hb dX5_readLaws_93 rfl (lv_at hl 0 rfl) ?_
  refine cg_X5_49 hC hH dX5_readLaws_94 ?_
  refine lv_if_ne (tgt := 104) hx hb dX5_readLaws_97 (by decide) (fun c_30 => ?_) (fun c_30 => ?_)
  · rw [if_neg c_30] at hF
    refine lv_iconst (v := 0) hx hb dX5_readLaws_104 (by decide) ?_
    exact cr_z hC hH hr rfl hF dX5_readLaws_105 hlocks
  · rw [if_pos c_30] at hF
    refine lv_iconst (v := 1) hx hb dX5_readLaws_100 (by decide) ?_
    refine lv_goto (tgt := 105) hx hb dX5_readLaws_101 (by decide) ?_
    exact cr_z hC hH hr rfl hF dX5_readLaws_105 hlocks
def x_X6_tell (a0 : Int32) (a1 : Int32) (a2 : Int32) (u : MS) : Option (Int32 × MS) := (if a2 = 0 then ob (x_X0_slot a0 a1 u) (fun r_2 u_3 => some (rg (sl (u.1 61) (u_3.2 26) (u_3.2 27)) 148 r_2, u_3)) else if a2 = 1 then ob (x_X0_slot a0 a1 u) (fun r_6 u_7 => some (rg (sl (u.1 63) (u_7.2 28) (u_7.2 29)) 148 r_6, u_7)) else some (-1, u))
set_option maxHeartbeats 4000000 in
set_option maxRecDepth 100000 in
theorem n_X6_tell (l : Launch) (G : gG) (Z : gC) (Q : Nat → Nat) (D : Nat × Nat) (T : va_W) (u u1 : MS) (r : Int32) (a0 : Int32) (a1 : Int32) (a2 : Int32) (sz : Nat) (hF : x_X6_tell a0 a1 a2 u = some (r, u1)) : Met l yX6_tell (Cond.code yX6_tell cX6_tell 4 (some .int) :: wK) { frames := 1, cells := 0, slots := 0, locals := 22 } (va_Pc [.ref (Q 9), .int a0, .int a1, .int a2] (cPM G Z Q D T u sz)) (cQi G Q T u1 r (va_A (cW G Q D T u) sz)) 0 0 (va_A (cW G Q D T u) sz) := by
  refine Met.ofW (cc := cX6_tell) (maxL := 4) (ret := (some .int)) (by decide) rfl ?_
  intro p e s m args below meth c s₁ B hml hv
  obtain ⟨rfl, rfl, hP, hB, hD0, hE⟩ := hv
  have hr := B.returns
  have hlocks := B.notSynchronized
  have hts := atoms_spec (ws := Cond.code yX6_tell cX6_tell 4 (some .int) :: wK) B.pre
  have hD := hD0.self (sz := s.heap.size)
  have hA : ∀ q : Nat, s.heap.size ≤ q → va_A (cW G Q D T u) s.heap.size q := fun q h => Or.inr h
  generalize va_A (cW G Q D T u) s.heap.size = A at hD hA hE ⊢
  have hC : cX p c cX6_tell 4 s m _ RX6 G Z A := ⟨B.exec, B.bytes, hml, findClass_of_methodNamed B.named, fun w h => hts w (List.mem_cons_of_mem _ h), hB, hE, hA⟩
  have hx := hC.1
  have hb := hC.2.1
  have hH : cH G Q D T A u s s.heap [] := ⟨hP, hD, va_S.rf⟩
  have hl := lv_entry ([.ref (Q 9), .int a0, .int a1, .int a2]) (n := 4) (Nat.le_of_ble_eq_true rfl)
  rw [lg_entry_eq]
  generalize (lg_sl ([.ref (Q 9), .int a0, .int a1, .int a2]) ++ List.replicate (4 - (lg_sl ([.ref (Q 9), .int a0, .int a1, .int a2])).length) Slot.unset).toArray = ls at hl ⊢
  have hl : lv_has ls 4 [(0, .ref (Q 9)), (1, .int a0), (2, .int a1), (3, .int a2)] := hl
  unfold x_X6_tell at hF
  refine lv_iload_n hx hb dX6_tell_0 rfl (lv_at hl 3 rfl) ?_
  by_cases c_1 : a2 = 0
  · rw [if_pos c_1] at hF
    refine gx_ti (y := 0) c_1 ?_
    refine lv_lookup (off := 27) (tgt := 28) hx hb dX6_tell_1 (by decide) (by decide) (by decide) ?_
    refine lv_aload_n hx hb dX6_tell_28 rfl (lv_at hl 0 rfl) ?_
    refine cg_X6_42 hC hH dX6_tell_29 ?_
    refine lv_iload_n hx hb dX6_tell_32 rfl (lv_at hl 1 rfl) ?_
    refine lv_iload_n hx hb dX6_tell_33 rfl (lv_at hl 2 rfl) ?_
    obtain ⟨r_2, u_3, h_4, hF⟩ := ob_some hF
    refine ccS_i (As := [.int a0, .int a1]) (rest := [.ref (sl (u.1 61) (Q 70) (Q 72))]) hC hH (n_X0_slot l G Z Q _ T u u_3 r_2 a0 a1 _ h_4) ⟨wkc_X0_slot, wka358, wka387, wka744⟩ kSX0_slot ⟨Nat.le_of_ble_eq_true rfl, Nat.le_of_ble_eq_true rfl⟩ rfl hl.1 rfl (Nat.le_of_ble_eq_true rfl) dX6_tell_34 (fun D H locs hH => ?_)
    refine rg_pm1 hC hH wka361 ⟨Nat.le_of_ble_eq_true rfl, Nat.le_of_ble_eq_true rfl⟩ hl.1 (Nat.le_of_ble_eq_true rfl) ⟨Nat.zero_le _, Nat.zero_le _⟩ dX6_tell_37 ?_
    exact cr_i hC hH hr hF dX6_tell_40 hlocks
  rw [if_neg c_1] at hF
  by_cases c_5 : a2 = 1
  · rw [if_pos c_5] at hF
    refine gx_ti (y := 1) c_5 ?_
    refine lv_lookup (off := 40) (tgt := 41) hx hb dX6_tell_1 (by decide) (by decide) (by decide) ?_
    refine lv_aload_n hx hb dX6_tell_41 rfl (lv_at hl 0 rfl) ?_
    refine cg_X6_45 hC hH dX6_tell_42 ?_
    refine lv_iload_n hx hb dX6_tell_45 rfl (lv_at hl 1 rfl) ?_
    refine lv_iload_n hx hb dX6_tell_46 rfl (lv_at hl 2 rfl) ?_
    obtain ⟨r_6, u_7, h_8, hF⟩ := ob_some hF
    refine ccS_i (As := [.int a0, .int a1]) (rest := [.ref (sl (u.1 63) (Q 74) (Q 76))]) hC hH (n_X0_slot l G Z Q _ T u u_7 r_6 a0 a1 _ h_8) ⟨wkc_X0_slot, wka358, wka387, wka744⟩ kSX0_slot ⟨Nat.le_of_ble_eq_true rfl, Nat.le_of_ble_eq_true rfl⟩ rfl hl.1 rfl (Nat.le_of_ble_eq_true rfl) dX6_tell_47 (fun D H locs hH => ?_)
    refine rg_pb1 hC hH wka361 ⟨Nat.le_of_ble_eq_true rfl, Nat.le_of_ble_eq_true rfl⟩ hl.1 (Nat.le_of_ble_eq_true rfl) ⟨Nat.zero_le _, Nat.zero_le _⟩ dX6_tell_50 ?_
    exact cr_i hC hH hr hF dX6_tell_53 hlocks
  rw [if_neg c_5] at hF
  refine lv_lookup (off := 53) (tgt := 54) hx hb dX6_tell_1 (by decide) (by show Op.lookupswitch.offset [(0, 27), (1, 40)] 53 _ = _; rw [Op.lookupswitch.offset_cons, if_neg (gl_ne c_1 (by decide)), Op.lookupswitch.offset_cons, if_neg (gl_ne c_5 (by decide))]; rfl) (by decide) ?_
  refine lv_iconst (v := (-1)) hx hb dX6_tell_54 (by decide) ?_
  exact cr_i hC hH hr hF dX6_tell_55 hlocks
def xl_X6_clear_49 : Nat → Int32 → MS → (Int32 → MS → Option (Int32 × MS)) → Option (Int32 × MS)
  | 0, _, _, _ => none
  | n49 + 1, v1, u, K49_108 => (if (rg (u.2 0) 2088 2) ≤ v1 then K49_108 v1 u else ob (x_X1_ofFighter v1 6 u) (fun r_12 u_13 => li (rg (u_13.2 0) 2088 r_12) (fun x_15 => (if x_15 = (-1) then lu (sf u_13 24 (rs (u_13.2 24) 96 v1 0)) (fun u_22 => li (v1 + 1) (fun x_24 => xl_X6_clear_49 n49 x_24 u_22 K49_108)) else lu (sf u_13 24 (rs (u_13.2 24) 96 v1 (x_15 + (rg (u_13.2 0) 2088 1)))) (fun u_18 => li (v1 + 1) (fun x_20 => xl_X6_clear_49 n49 x_20 u_18 K49_108))))))
def x_X6_clear (u : MS) : Option (Int32 × MS) := lu (sl (u.1 62) (sf u 26 (fl 148 (-1) (u.2 26))) (sf u 27 (fl 148 (-1) (u.2 27)))) (fun u_1 => lu (sl (u_1.1 64) (sf u_1 28 (fl 148 (-1) (u_1.2 28))) (sf u_1 29 (fl 148 (-1) (u_1.2 29)))) (fun u_3 => lu (sf u_3 22 (fl 148 (-1) (u_3.2 22))) (fun u_5 => lu (si u_5 19 (rg (u_5.2 0) 2088 0)) (fun u_7 => lu (sf u_7 23 (fl 4 (u_7.1 19) (u_7.2 23))) (fun u_9 => xl_X6_clear_49 fuel 0 u_9 (fun v1 u => some (0, u)))))))
set_option maxHeartbeats 4000000 in
set_option maxRecDepth 100000 in
theorem n_X6_clear (l : Launch) (G : gG) (Z : gC) (Q : Nat → Nat) (D : Nat × Nat) (T : va_W) (u u1 : MS) (r : Int32) (sz : Nat) (hF : x_X6_clear u = some (r, u1)) : Met l yX6_clear (Cond.code yX6_clear cX6_clear 3 none :: wK) { frames := 2, cells := 0, slots := 0, locals := 44 } (va_Pc [.ref (Q 9)] (cPM G Z Q D T u sz)) (cQv G Q T u1 (va_A (cW G Q D T u) sz)) 0 0 (va_A (cW G Q D T u) sz) := by
  refine Met.ofW (cc := cX6_clear) (maxL := 3) (ret := none) (by decide) rfl ?_
  intro p e s m args below meth c s₁ B hml hv
  obtain ⟨rfl, rfl, hP, hB, hD0, hE⟩ := hv
  have hr := B.returns
  have hlocks := B.notSynchronized
  have hts := atoms_spec (ws := Cond.code yX6_clear cX6_clear 3 none :: wK) B.pre
  have hD := hD0.self (sz := s.heap.size)
  have hA : ∀ q : Nat, s.heap.size ≤ q → va_A (cW G Q D T u) s.heap.size q := fun q h => Or.inr h
  generalize va_A (cW G Q D T u) s.heap.size = A at hD hA hE ⊢
  have hC : cX p c cX6_clear 3 s m _ RX6 G Z A := ⟨B.exec, B.bytes, hml, findClass_of_methodNamed B.named, fun w h => hts w (List.mem_cons_of_mem _ h), hB, hE, hA⟩
  have hx := hC.1
  have hb := hC.2.1
  have hH : cH G Q D T A u s s.heap [] := ⟨hP, hD, va_S.rf⟩
  have hl := lv_entry ([.ref (Q 9)]) (n := 3) (Nat.le_of_ble_eq_true rfl)
  rw [lg_entry_eq]
  generalize (lg_sl ([.ref (Q 9)]) ++ List.replicate (3 - (lg_sl ([.ref (Q 9)])).length) Slot.unset).toArray = ls at hl ⊢
  have hl : lv_has ls 3 [(0, .ref (Q 9))] := hl
  unfold x_X6_clear at hF
  refine lv_aload_n hx hb dX6_clear_0 rfl (lv_at hl 0 rfl) ?_
  refine cg_X6_48 hC hH dX6_clear_1 ?_
  refine lv_iconst (v := (-1)) hx hb dX6_clear_4 (by decide) ?_
  obtain ⟨u_1, e_2, hF⟩ := lu_some hF
  refine rf_pm1 hC hH e_2 wka351 ⟨Nat.le_of_ble_eq_true rfl, Nat.le_of_ble_eq_true rfl⟩ hl.1 (Nat.le_of_ble_eq_true rfl) ⟨Nat.zero_le _, Nat.zero_le _⟩ dX6_clear_5 (fun H locs hH => ?_)
  refine lv_aload_n hx hb dX6_clear_8 rfl (lv_at hl 0 rfl) ?_
  refine cg_X6_51 hC hH dX6_clear_9 ?_
  refine lv_iconst (v := (-1)) hx hb dX6_clear_12 (by decide) ?_
  obtain ⟨u_3, e_4, hF⟩ := lu_some hF
  refine rf_pb1 hC hH e_4 wka351 ⟨Nat.le_of_ble_eq_true rfl, Nat.le_of_ble_eq_true rfl⟩ hl.1 (Nat.le_of_ble_eq_true rfl) ⟨Nat.zero_le _, Nat.zero_le _⟩ dX6_clear_13 (fun H locs hH => ?_)
  refine lv_aload_n hx hb dX6_clear_16 rfl (lv_at hl 0 rfl) ?_
  refine cg_X6_30 hC hH dX6_clear_17 ?_
  refine lv_iconst (v := (-1)) hx hb dX6_clear_20 (by decide) ?_
  obtain ⟨u_5, e_6, hF⟩ := lu_some hF
  refine rf_21 hC hH e_6 wka351 ⟨Nat.le_of_ble_eq_true rfl, Nat.le_of_ble_eq_true rfl⟩ hl.1 (Nat.le_of_ble_eq_true rfl) ⟨Nat.zero_le _, Nat.zero_le _⟩ dX6_clear_21 (fun H locs hH => ?_)
  refine lv_aload_n hx hb dX6_clear_24 rfl (lv_at hl 0 rfl) ?_
  refine lv_aload_n hx hb dX6_clear_25 rfl (lv_at hl 0 rfl) ?_
  refine cg_X6_9 hC hH dX6_clear_26 ?_
  refine lv_iconst (v := 0) hx hb dX6_clear_29 (by decide) ?_
  refine bat (i := 1) (j := 11) hC hH rfl rfl (by decide) wka352 ⟨Nat.le_of_ble_eq_true rfl, Nat.le_of_ble_eq_true rfl⟩ hl.1 (Nat.le_of_ble_eq_true rfl) ⟨Nat.zero_le _, Nat.zero_le _⟩ dX6_clear_30 ?_
  obtain ⟨u_7, e_8, hF⟩ := lu_some hF
  refine cp_X6_102 hC hH e_8 dX6_clear_33 (fun H locs hH => ?_)
  refine lv_aload_n hx hb dX6_clear_36 rfl (lv_at hl 0 rfl) ?_
  refine cg_X6_33 hC hH dX6_clear_37 ?_
  refine lv_aload_n hx hb dX6_clear_40 rfl (lv_at hl 0 rfl) ?_
  refine cg_X6_102 hC hH dX6_clear_41 ?_
  obtain ⟨u_9, e_10, hF⟩ := lu_some hF
  refine rf_22 hC hH e_10 wka351 ⟨Nat.le_of_ble_eq_true rfl, Nat.le_of_ble_eq_true rfl⟩ hl.1 (Nat.le_of_ble_eq_true rfl) ⟨Nat.zero_le _, Nat.zero_le _⟩ dX6_clear_44 (fun H locs hH => ?_)
  refine lv_iconst (v := 0) hx hb dX6_clear_47 (by decide) ?_
  refine lv_istore_n (lv' := [(1, .int 0), (0, .ref (Q 9))]) hx hb dX6_clear_48 rfl hl (by decide) rfl (fun ls hl => ?_)
  have hL49 : ∀ (K49_108 : Int32 → MS → Option (Int32 × MS)), (∀ (v1 : Int32) (u : MS) (D : Nat × Nat) (H : Heap) (locs : List Loc) (ls : Array Slot), lv_has ls 3 [(0, .ref (Q 9)), (1, .int v1)] → cH G Q D T A u s H locs → K49_108 v1 u = some (r, u1) → W p l e (headSpec (Cond.code yX6_clear cX6_clear 3 none :: wK) { frames := 2, cells := 0, slots := 0, locals := 44 }).room s m [.ref (Q 9)].toArray below meth c H locs 0 0 (MQ below (cQv G Q T u1 A) [.ref (Q 9)].toArray s 0 0 A) (F0 m 108 ls [])) → ∀ (n49 : Nat) (v1 : Int32) (u : MS) (D : Nat × Nat) (H : Heap) (locs : List Loc) (ls : Array Slot), lv_has ls 3 [(0, .ref (Q 9)), (1, .int v1)] → cH G Q D T A u s H locs → xl_X6_clear_49 n49 v1 u K49_108 = some (r, u1) → W p l e (headSpec (Cond.code yX6_clear cX6_clear 3 none :: wK) { frames := 2, cells := 0, slots := 0, locals := 44 }).room s m [.ref (Q 9)].toArray below meth c H locs 0 0 (MQ below (cQv G Q T u1 A) [.ref (Q 9)].toArray s 0 0 A) (F0 m 49 ls []) := by
    intro K49_108 hK49_108 n49
    induction n49 with
    | zero => intro v1 u D H locs ls hl hH hF; cases hF
    | succ n49 ih49 =>
      intro v1 u D H locs ls hl hH hF
      unfold xl_X6_clear_49 at hF
      refine lv_iload_n hx hb dX6_clear_49 rfl (lv_at hl 1 rfl) ?_
      refine lv_aload_n hx hb dX6_clear_50 rfl (lv_at hl 0 rfl) ?_
      refine cg_X6_9 hC hH dX6_clear_51 ?_
      refine lv_iconst (v := 2) hx hb dX6_clear_54 (by decide) ?_
      refine bat (i := 1) (j := 11) hC hH rfl rfl (by decide) wka352 ⟨Nat.le_of_ble_eq_true rfl, Nat.le_of_ble_eq_true rfl⟩ hl.1 (Nat.le_of_ble_eq_true rfl) ⟨Nat.zero_le _, Nat.zero_le _⟩ dX6_clear_55 ?_
      refine lv_icmp_ge (tgt := 108) hx hb dX6_clear_58 (by decide) (fun c_11 => ?_) (fun c_11 => ?_)
      · rw [if_pos c_11] at hF
        exact hK49_108 v1 u _ _ _ _ (lv_sub hl [0, 1] rfl) hH hF
      · rw [if_neg c_11] at hF
        refine lv_aload_n hx hb dX6_clear_61 rfl (lv_at hl 0 rfl) ?_
        refine cg_X6_9 hC hH dX6_clear_62 ?_
        refine lv_iload_n hx hb dX6_clear_65 rfl (lv_at hl 1 rfl) ?_
        refine lv_bipush (v := 6) hx hb dX6_clear_66 (by decide) ?_
        obtain ⟨r_12, u_13, h_14, hF⟩ := ob_some hF
        refine ccS_i (As := [.int v1, .int 6]) (rest := [.ref (Q 1)]) hC hH (n_X1_ofFighter l G Z Q _ T u u_13 r_12 v1 6 _ h_14) ⟨wkc_X1_ofFighter, wka353, wka436, wka745⟩ kSX1_ofFighter ⟨Nat.le_of_ble_eq_true rfl, Nat.le_of_ble_eq_true rfl⟩ rfl hl.1 rfl (Nat.le_of_ble_eq_true rfl) dX6_clear_68 (fun D H locs hH => ?_)
        refine bat (i := 1) (j := 11) hC hH rfl rfl (by decide) wka352 ⟨Nat.le_of_ble_eq_true rfl, Nat.le_of_ble_eq_true rfl⟩ hl.1 (Nat.le_of_ble_eq_true rfl) ⟨Nat.zero_le _, Nat.zero_le _⟩ dX6_clear_71 ?_
        obtain ⟨x_15, e_16, hF⟩ := li_some hF
        refine gx_ti e_16 ?_
        refine lv_istore_n (lv' := [(2, .int x_15), (0, .ref (Q 9)), (1, .int v1)]) hx hb dX6_clear_74 rfl hl (by decide) rfl (fun ls hl => ?_)
        refine lv_aload_n hx hb dX6_clear_75 rfl (lv_at hl 1 rfl) ?_
        refine cg_X6_36 hC hH dX6_clear_76 ?_
        refine lv_iload_n hx hb dX6_clear_79 rfl (lv_at hl 2 rfl) ?_
        refine lv_iload_n hx hb dX6_clear_80 rfl (lv_at hl 0 rfl) ?_
        refine lv_iconst (v := (-1)) hx hb dX6_clear_81 (by decide) ?_
        refine lv_icmp_ne (tgt := 89) hx hb dX6_clear_82 (by decide) (fun c_17 => ?_) (fun c_17 => ?_)
        · rw [if_neg c_17] at hF
          refine lv_iload_n hx hb dX6_clear_89 rfl (lv_at hl 0 rfl) ?_
          refine lv_aload_n hx hb dX6_clear_90 rfl (lv_at hl 1 rfl) ?_
          refine cg_X6_9 hC hH dX6_clear_91 ?_
          refine lv_iconst (v := 1) hx hb dX6_clear_94 (by decide) ?_
          refine bat (i := 1) (j := 11) hC hH rfl rfl (by decide) wka352 ⟨Nat.le_of_ble_eq_true rfl, Nat.le_of_ble_eq_true rfl⟩ hl.1 (Nat.le_of_ble_eq_true rfl) ⟨Nat.zero_le _, Nat.zero_le _⟩ dX6_clear_95 ?_
          refine lv_iadd hx hb dX6_clear_98 ?_
          obtain ⟨u_18, e_19, hF⟩ := lu_some hF
          refine rs_23 hC hH e_19 wka354 ⟨Nat.le_of_ble_eq_true rfl, Nat.le_of_ble_eq_true rfl⟩ hl.1 (Nat.le_of_ble_eq_true rfl) ⟨Nat.zero_le _, Nat.zero_le _⟩ dX6_clear_99 (fun H locs hH => ?_)
          obtain ⟨x_20, e_21, hF⟩ := li_some hF
          refine lv_iinc (v := x_20) (lv' := [(1, .int x_20), (2, .int x_15), (0, .ref (Q 9))]) hx hb dX6_clear_102 hl (k := 2) rfl e_21 (by decide) rfl (fun ls hl => ?_)
          refine lv_goto (tgt := 49) hx hb dX6_clear_105 (by decide) ?_
          exact ih49 x_20 u_18 _ _ _ _ (lv_sub hl [2, 0] rfl) hH hF
        · rw [if_pos c_17] at hF
          refine lv_iconst (v := 0) hx hb dX6_clear_85 (by decide) ?_
          refine lv_goto (tgt := 99) hx hb dX6_clear_86 (by decide) ?_
          obtain ⟨u_22, e_23, hF⟩ := lu_some hF
          refine rs_23 hC hH e_23 wka354 ⟨Nat.le_of_ble_eq_true rfl, Nat.le_of_ble_eq_true rfl⟩ hl.1 (Nat.le_of_ble_eq_true rfl) ⟨Nat.zero_le _, Nat.zero_le _⟩ dX6_clear_99 (fun H locs hH => ?_)
          obtain ⟨x_24, e_25, hF⟩ := li_some hF
          refine lv_iinc (v := x_24) (lv' := [(1, .int x_24), (2, .int x_15), (0, .ref (Q 9))]) hx hb dX6_clear_102 hl (k := 2) rfl e_25 (by decide) rfl (fun ls hl => ?_)
          refine lv_goto (tgt := 49) hx hb dX6_clear_105 (by decide) ?_
          exact ih49 x_24 u_22 _ _ _ _ (lv_sub hl [2, 0] rfl) hH hF
  refine hL49 _ (fun v1 u D H locs ls hl hH hF => ?_) fuel 0 u_9 _ _ _ _ (lv_sub hl [1, 0] rfl) hH hF
  exact cr_v hC hH hr hF dX6_clear_108 hlocks
def x_X6_holdTill (a0 : Int32) (a1 : Int32) (u : MS) : Option (Int32 × MS) := (if a0 = (-1) then some (0, u) else lu (sf u 24 (rs (u.2 24) 96 a0 (if (rg (u.2 24) 96 a0) < a1 then a1 else (rg (u.2 24) 96 a0)))) (fun u_2 => some (0, u_2)))
set_option maxHeartbeats 4000000 in
set_option maxRecDepth 100000 in
theorem n_X6_holdTill (l : Launch) (G : gG) (Z : gC) (Q : Nat → Nat) (D : Nat × Nat) (T : va_W) (u u1 : MS) (r : Int32) (a0 : Int32) (a1 : Int32) (sz : Nat) (hF : x_X6_holdTill a0 a1 u = some (r, u1)) : Met l yX6_holdTill (Cond.code yX6_holdTill cX6_holdTill 3 none :: wK) { frames := 1, cells := 0, slots := 0, locals := 22 } (va_Pc [.ref (Q 9), .int a0, .int a1] (cPM G Z Q D T u sz)) (cQv G Q T u1 (va_A (cW G Q D T u) sz)) 0 0 (va_A (cW G Q D T u) sz) := by
  refine Met.ofW (cc := cX6_holdTill) (maxL := 3) (ret := none) (by decide) rfl ?_
  intro p e s m args below meth c s₁ B hml hv
  obtain ⟨rfl, rfl, hP, hB, hD0, hE⟩ := hv
  have hr := B.returns
  have hlocks := B.notSynchronized
  have hts := atoms_spec (ws := Cond.code yX6_holdTill cX6_holdTill 3 none :: wK) B.pre
  have hD := hD0.self (sz := s.heap.size)
  have hA : ∀ q : Nat, s.heap.size ≤ q → va_A (cW G Q D T u) s.heap.size q := fun q h => Or.inr h
  generalize va_A (cW G Q D T u) s.heap.size = A at hD hA hE ⊢
  have hC : cX p c cX6_holdTill 3 s m _ RX6 G Z A := ⟨B.exec, B.bytes, hml, findClass_of_methodNamed B.named, fun w h => hts w (List.mem_cons_of_mem _ h), hB, hE, hA⟩
  have hx := hC.1
  have hb := hC.2.1
  have hH : cH G Q D T A u s s.heap [] := ⟨hP, hD, va_S.rf⟩
  have hl := lv_entry ([.ref (Q 9), .int a0, .int a1]) (n := 3) (Nat.le_of_ble_eq_true rfl)
  rw [lg_entry_eq]
  generalize (lg_sl ([.ref (Q 9), .int a0, .int a1]) ++ List.replicate (3 - (lg_sl ([.ref (Q 9), .int a0, .int a1])).length) Slot.unset).toArray = ls at hl ⊢
  have hl : lv_has ls 3 [(0, .ref (Q 9)), (1, .int a0), (2, .int a1)] := hl
  unfold x_X6_holdTill at hF
  refine lv_iload_n hx hb dX6_holdTill_0 rfl (lv_at hl 1 rfl) ?_
  refine lv_iconst (v := (-1)) hx hb dX6_holdTill_1 (by decide) ?_
  refine lv_icmp_eq (tgt := 25) hx hb dX6_holdTill_2 (by decide) (fun c_1 => ?_) (fun c_1 => ?_)
  · rw [if_pos c_1] at hF
    exact cr_v hC hH hr hF dX6_holdTill_25 hlocks
  · rw [if_neg c_1] at hF
    refine lv_aload_n hx hb dX6_holdTill_5 rfl (lv_at hl 0 rfl) ?_
    refine cg_X6_36 hC hH dX6_holdTill_6 ?_
    refine lv_iload_n hx hb dX6_holdTill_9 rfl (lv_at hl 1 rfl) ?_
    refine lv_aload_n hx hb dX6_holdTill_10 rfl (lv_at hl 0 rfl) ?_
    refine cg_X6_36 hC hH dX6_holdTill_11 ?_
    refine lv_iload_n hx hb dX6_holdTill_14 rfl (lv_at hl 1 rfl) ?_
    refine rg_23 hC hH wka361 ⟨Nat.le_of_ble_eq_true rfl, Nat.le_of_ble_eq_true rfl⟩ hl.1 (Nat.le_of_ble_eq_true rfl) ⟨Nat.zero_le _, Nat.zero_le _⟩ dX6_holdTill_15 ?_
    refine lv_iload_n hx hb dX6_holdTill_18 rfl (lv_at hl 2 rfl) ?_
    refine va_mmax hx hb (hC.2.2.1.trans hl.1.symm) hC.2.2.2.1 (hC.2.2.2.2.1 _ wka362) (hC.2.2.2.2.1 _ wka756) (hC.2.2.2.2.1 _ wka760) (hC.2.2.2.2.1 _ wka757) (Nat.le_of_ble_eq_true rfl) (Nat.le_of_ble_eq_true rfl) (Nat.le_of_ble_eq_true rfl) (Nat.le_of_ble_eq_true rfl) dX6_holdTill_19 ?_
    obtain ⟨u_2, e_3, hF⟩ := lu_some hF
    refine rs_23 hC hH e_3 wka354 ⟨Nat.le_of_ble_eq_true rfl, Nat.le_of_ble_eq_true rfl⟩ hl.1 (Nat.le_of_ble_eq_true rfl) ⟨Nat.zero_le _, Nat.zero_le _⟩ dX6_holdTill_22 (fun H locs hH => ?_)
    exact cr_v hC hH hr hF dX6_holdTill_25 hlocks
def x_X6_put (a0 : Int32) (a1 : Int32) (a2 : Int32) (a3 : Int32) (u : MS) : Option (Int32 × MS) := li (a3 + (u.1 18)) (fun x_1 => ob (x_X0_slot a0 a1 u) (fun r_3 u_4 => lu (sl (u.1 62) (sf u_4 26 (rs (u_4.2 26) 148 r_3 a2)) (sf u_4 27 (rs (u_4.2 27) 148 r_3 a2))) (fun u_6 => ob (x_X0_slot a0 a1 u_6) (fun r_8 u_9 => lu (sl (u_6.1 64) (sf u_9 28 (rs (u_9.2 28) 148 r_8 a3)) (sf u_9 29 (rs (u_9.2 29) 148 r_8 a3))) (fun u_11 => ob (x_X0_slot a0 a1 u_11) (fun r_13 u_14 => lu (sf u_14 22 (rs (u_14.2 22) 148 r_13 x_1)) (fun u_16 => lu (sf u_16 23 (rs (u_16.2 23) 4 a2 x_1)) (fun u_18 => ob (x_X0_whiteOf a0 a1 u_18) (fun r_20 u_21 => ob (x_X6_holdTill r_20 (x_1 + (rg (u_21.2 0) 2088 1)) u_21) (fun r_23 u_24 => ob (x_X0_blueOf a0 a1 u_24) (fun r_26 u_27 => ob (x_X6_holdTill r_26 (x_1 + (rg (u_27.2 0) 2088 1)) u_27) (fun r_29 u_30 => lu (si u_30 19 (if (u_30.1 19) < x_1 then x_1 else (u_30.1 19))) (fun u_32 => some (0, u_32))))))))))))))
set_option maxHeartbeats 4000000 in
set_option maxRecDepth 100000 in
theorem n_X6_put (l : Launch) (G : gG) (Z : gC) (Q : Nat → Nat) (D : Nat × Nat) (T : va_W) (u u1 : MS) (r : Int32) (a0 : Int32) (a1 : Int32) (a2 : Int32) (a3 : Int32) (sz : Nat) (hF : x_X6_put a0 a1 a2 a3 u = some (r, u1)) : Met l yX6_put (Cond.code yX6_put cX6_put 6 none :: wK) { frames := 2, cells := 0, slots := 0, locals := 44 } (va_Pc [.ref (Q 9), .int a0, .int a1, .int a2, .int a3] (cPM G Z Q D T u sz)) (cQv G Q T u1 (va_A (cW G Q D T u) sz)) 0 0 (va_A (cW G Q D T u) sz) := by
  refine Met.ofW (cc := cX6_put) (maxL := 6) (ret := none) (by decide) rfl ?_
  intro p e s m args below meth c s₁ B hml hv
  obtain ⟨rfl, rfl, hP, hB, hD0, hE⟩ := hv
  have hr := B.returns
  have hlocks := B.notSynchronized
  have hts := atoms_spec (ws := Cond.code yX6_put cX6_put 6 none :: wK) B.pre
  have hD := hD0.self (sz := s.heap.size)
  have hA : ∀ q : Nat, s.heap.size ≤ q → va_A (cW G Q D T u) s.heap.size q := fun q h => Or.inr h
  generalize va_A (cW G Q D T u) s.heap.size = A at hD hA hE ⊢
  have hC : cX p c cX6_put 6 s m _ RX6 G Z A := ⟨B.exec, B.bytes, hml, findClass_of_methodNamed B.named, fun w h => hts w (List.mem_cons_of_mem _ h), hB, hE, hA⟩
  have hx := hC.1
  have hb := hC.2.1
  have hH : cH G Q D T A u s s.heap [] := ⟨hP, hD, va_S.rf⟩
  have hl := lv_entry ([.ref (Q 9), .int a0, .int a1, .int a2, .int a3]) (n := 6) (Nat.le_of_ble_eq_true rfl)
  rw [lg_entry_eq]
  generalize (lg_sl ([.ref (Q 9), .int a0, .int a1, .int a2, .int a3]) ++ List.replicate (6 - (lg_sl ([.ref (Q 9), .int a0, .int a1, .int a2, .int a3])).length) Slot.unset).toArray = ls at hl ⊢
  have hl : lv_has ls 6 [(0, .ref (Q 9)), (1, .int a0), (2, .int a1), (3, .int a2), (4, .int a3)] := hl
  unfold x_X6_put at hF
  refine lv_iload hx hb dX6_put_0 (lv_at hl 4 rfl) ?_
  refine lv_aload_n hx hb dX6_put_2 rfl (lv_at hl 0 rfl) ?_
  refine cg_X6_62 hC hH dX6_put_3 ?_
  refine lv_iadd hx hb dX6_put_6 ?_
  obtain ⟨x_1, e_2, hF⟩ := li_some hF
  refine gx_ti e_2 ?_
  refine lv_istore (lv' := [(5, .int x_1), (0, .ref (Q 9)), (1, .int a0), (2, .int a1), (3, .int a2), (4, .int a3)]) hx hb dX6_put_7 hl (by decide) rfl (fun ls hl => ?_)
  refine lv_aload_n hx hb dX6_put_9 rfl (lv_at hl 1 rfl) ?_
  refine cg_X6_48 hC hH dX6_put_10 ?_
  refine lv_iload_n hx hb dX6_put_13 rfl (lv_at hl 2 rfl) ?_
  refine lv_iload_n hx hb dX6_put_14 rfl (lv_at hl 3 rfl) ?_
  obtain ⟨r_3, u_4, h_5, hF⟩ := ob_some hF
  refine ccS_i (As := [.int a0, .int a1]) (rest := [.ref (sl (u.1 62) (Q 70) (Q 72))]) hC hH (n_X0_slot l G Z Q _ T u u_4 r_3 a0 a1 _ h_5) ⟨wkc_X0_slot, wka358, wka387, wka744⟩ kSX0_slot ⟨Nat.le_of_ble_eq_true rfl, Nat.le_of_ble_eq_true rfl⟩ rfl hl.1 rfl (Nat.le_of_ble_eq_true rfl) dX6_put_15 (fun D H locs hH => ?_)
  refine lv_iload_n hx hb dX6_put_18 rfl (lv_at hl 4 rfl) ?_
  obtain ⟨u_6, e_7, hF⟩ := lu_some hF
  refine rs_pm1 hC hH e_7 wka354 ⟨Nat.le_of_ble_eq_true rfl, Nat.le_of_ble_eq_true rfl⟩ hl.1 (Nat.le_of_ble_eq_true rfl) ⟨Nat.zero_le _, Nat.zero_le _⟩ dX6_put_19 (fun H locs hH => ?_)
  refine lv_aload_n hx hb dX6_put_22 rfl (lv_at hl 1 rfl) ?_
  refine cg_X6_51 hC hH dX6_put_23 ?_
  refine lv_iload_n hx hb dX6_put_26 rfl (lv_at hl 2 rfl) ?_
  refine lv_iload_n hx hb dX6_put_27 rfl (lv_at hl 3 rfl) ?_
  obtain ⟨r_8, u_9, h_10, hF⟩ := ob_some hF
  refine ccS_i (As := [.int a0, .int a1]) (rest := [.ref (sl (u_6.1 64) (Q 74) (Q 76))]) hC hH (n_X0_slot l G Z Q _ T u_6 u_9 r_8 a0 a1 _ h_10) ⟨wkc_X0_slot, wka358, wka387, wka744⟩ kSX0_slot ⟨Nat.le_of_ble_eq_true rfl, Nat.le_of_ble_eq_true rfl⟩ rfl hl.1 rfl (Nat.le_of_ble_eq_true rfl) dX6_put_28 (fun D H locs hH => ?_)
  refine lv_iload hx hb dX6_put_31 (lv_at hl 5 rfl) ?_
  obtain ⟨u_11, e_12, hF⟩ := lu_some hF
  refine rs_pb1 hC hH e_12 wka354 ⟨Nat.le_of_ble_eq_true rfl, Nat.le_of_ble_eq_true rfl⟩ hl.1 (Nat.le_of_ble_eq_true rfl) ⟨Nat.zero_le _, Nat.zero_le _⟩ dX6_put_33 (fun H locs hH => ?_)
  refine lv_aload_n hx hb dX6_put_36 rfl (lv_at hl 1 rfl) ?_
  refine cg_X6_30 hC hH dX6_put_37 ?_
  refine lv_iload_n hx hb dX6_put_40 rfl (lv_at hl 2 rfl) ?_
  refine lv_iload_n hx hb dX6_put_41 rfl (lv_at hl 3 rfl) ?_
  obtain ⟨r_13, u_14, h_15, hF⟩ := ob_some hF
  refine ccS_i (As := [.int a0, .int a1]) (rest := [.ref (Q 62)]) hC hH (n_X0_slot l G Z Q _ T u_11 u_14 r_13 a0 a1 _ h_15) ⟨wkc_X0_slot, wka358, wka387, wka744⟩ kSX0_slot ⟨Nat.le_of_ble_eq_true rfl, Nat.le_of_ble_eq_true rfl⟩ rfl hl.1 rfl (Nat.le_of_ble_eq_true rfl) dX6_put_42 (fun D H locs hH => ?_)
  refine lv_iload hx hb dX6_put_45 (lv_at hl 0 rfl) ?_
  obtain ⟨u_16, e_17, hF⟩ := lu_some hF
  refine rs_21 hC hH e_17 wka354 ⟨Nat.le_of_ble_eq_true rfl, Nat.le_of_ble_eq_true rfl⟩ hl.1 (Nat.le_of_ble_eq_true rfl) ⟨Nat.zero_le _, Nat.zero_le _⟩ dX6_put_47 (fun H locs hH => ?_)
  refine lv_aload_n hx hb dX6_put_50 rfl (lv_at hl 1 rfl) ?_
  refine cg_X6_33 hC hH dX6_put_51 ?_
  refine lv_iload_n hx hb dX6_put_54 rfl (lv_at hl 4 rfl) ?_
  refine lv_iload hx hb dX6_put_55 (lv_at hl 0 rfl) ?_
  obtain ⟨u_18, e_19, hF⟩ := lu_some hF
  refine rs_22 hC hH e_19 wka354 ⟨Nat.le_of_ble_eq_true rfl, Nat.le_of_ble_eq_true rfl⟩ hl.1 (Nat.le_of_ble_eq_true rfl) ⟨Nat.zero_le _, Nat.zero_le _⟩ dX6_put_57 (fun H locs hH => ?_)
  refine lv_aload_n hx hb dX6_put_60 rfl (lv_at hl 1 rfl) ?_
  refine lv_aload_n hx hb dX6_put_61 rfl (lv_at hl 1 rfl) ?_
  refine cg_X6_15 hC hH dX6_put_62 ?_
  refine lv_iload_n hx hb dX6_put_65 rfl (lv_at hl 2 rfl) ?_
  refine lv_iload_n hx hb dX6_put_66 rfl (lv_at hl 3 rfl) ?_
  obtain ⟨r_20, u_21, h_22, hF⟩ := ob_some hF
  refine ccV_i (q0 := 6) (As := [.int a0, .int a1]) (rest := [.ref (Q 9)]) hC hH (n_X0_whiteOf l G Z Q _ T u_18 u_21 r_20 a0 a1 _ h_22) rfl rfl ⟨wkc_X0_whiteOf, wka359, wka401, wka402, wka744⟩ kVX0_whiteOf ⟨Nat.le_of_ble_eq_true rfl, Nat.le_of_ble_eq_true rfl⟩ rfl hl.1 rfl (Nat.le_of_ble_eq_true rfl) dX6_put_67 (fun D H locs hH => ?_)
  refine lv_iload hx hb dX6_put_70 (lv_at hl 0 rfl) ?_
  refine lv_aload_n hx hb dX6_put_72 rfl (lv_at hl 1 rfl) ?_
  refine cg_X6_9 hC hH dX6_put_73 ?_
  refine lv_iconst (v := 1) hx hb dX6_put_76 (by decide) ?_
  refine bat (i := 1) (j := 11) hC hH rfl rfl (by decide) wka352 ⟨Nat.le_of_ble_eq_true rfl, Nat.le_of_ble_eq_true rfl⟩ hl.1 (Nat.le_of_ble_eq_true rfl) ⟨Nat.zero_le _, Nat.zero_le _⟩ dX6_put_77 ?_
  refine lv_iadd hx hb dX6_put_80 ?_
  obtain ⟨r_23, u_24, h_25, hF⟩ := ob_some hF
  refine ccV_v (q0 := 9) (As := [.int r_20, .int (x_1 + (rg (u_21.2 0) 2088 1))]) (rest := []) hC hH (n_X6_holdTill l G Z Q _ T u_21 u_24 r_23 r_20 (x_1 + (rg (u_21.2 0) 2088 1)) _ h_25) rfl rfl ⟨wkc_X6_holdTill, wka360, wka588, wka589, wka750⟩ kVX6_holdTill ⟨Nat.le_of_ble_eq_true rfl, Nat.le_of_ble_eq_true rfl⟩ rfl hl.1 rfl (Nat.le_of_ble_eq_true rfl) dX6_put_81 (fun D H locs hH => ?_)
  refine lv_aload_n hx hb dX6_put_84 rfl (lv_at hl 1 rfl) ?_
  refine lv_aload_n hx hb dX6_put_85 rfl (lv_at hl 1 rfl) ?_
  refine cg_X6_15 hC hH dX6_put_86 ?_
  refine lv_iload_n hx hb dX6_put_89 rfl (lv_at hl 2 rfl) ?_
  refine lv_iload_n hx hb dX6_put_90 rfl (lv_at hl 3 rfl) ?_
  obtain ⟨r_26, u_27, h_28, hF⟩ := ob_some hF
  refine ccV_i (q0 := 6) (As := [.int a0, .int a1]) (rest := [.ref (Q 9)]) hC hH (n_X0_blueOf l G Z Q _ T u_24 u_27 r_26 a0 a1 _ h_28) rfl rfl ⟨wkc_X0_blueOf, wka363, wka403, wka404, wka744⟩ kVX0_blueOf ⟨Nat.le_of_ble_eq_true rfl, Nat.le_of_ble_eq_true rfl⟩ rfl hl.1 rfl (Nat.le_of_ble_eq_true rfl) dX6_put_91 (fun D H locs hH => ?_)
  refine lv_iload hx hb dX6_put_94 (lv_at hl 0 rfl) ?_
  refine lv_aload_n hx hb dX6_put_96 rfl (lv_at hl 1 rfl) ?_
  refine cg_X6_9 hC hH dX6_put_97 ?_
  refine lv_iconst (v := 1) hx hb dX6_put_100 (by decide) ?_
  refine bat (i := 1) (j := 11) hC hH rfl rfl (by decide) wka352 ⟨Nat.le_of_ble_eq_true rfl, Nat.le_of_ble_eq_true rfl⟩ hl.1 (Nat.le_of_ble_eq_true rfl) ⟨Nat.zero_le _, Nat.zero_le _⟩ dX6_put_101 ?_
  refine lv_iadd hx hb dX6_put_104 ?_
  obtain ⟨r_29, u_30, h_31, hF⟩ := ob_some hF
  refine ccV_v (q0 := 9) (As := [.int r_26, .int (x_1 + (rg (u_27.2 0) 2088 1))]) (rest := []) hC hH (n_X6_holdTill l G Z Q _ T u_27 u_30 r_29 r_26 (x_1 + (rg (u_27.2 0) 2088 1)) _ h_31) rfl rfl ⟨wkc_X6_holdTill, wka360, wka588, wka589, wka750⟩ kVX6_holdTill ⟨Nat.le_of_ble_eq_true rfl, Nat.le_of_ble_eq_true rfl⟩ rfl hl.1 rfl (Nat.le_of_ble_eq_true rfl) dX6_put_105 (fun D H locs hH => ?_)
  refine lv_aload_n hx hb dX6_put_108 rfl (lv_at hl 1 rfl) ?_
  refine lv_aload_n hx hb dX6_put_109 rfl (lv_at hl 1 rfl) ?_
  refine cg_X6_102 hC hH dX6_put_110 ?_
  refine lv_iload hx hb dX6_put_113 (lv_at hl 0 rfl) ?_
  refine va_mmax hx hb (hC.2.2.1.trans hl.1.symm) hC.2.2.2.1 (hC.2.2.2.2.1 _ wka362) (hC.2.2.2.2.1 _ wka756) (hC.2.2.2.2.1 _ wka760) (hC.2.2.2.2.1 _ wka757) (Nat.le_of_ble_eq_true rfl) (Nat.le_of_ble_eq_true rfl) (Nat.le_of_ble_eq_true rfl) (Nat.le_of_ble_eq_true rfl) dX6_put_115 ?_
  obtain ⟨u_32, e_33, hF⟩ := lu_some hF
  refine cp_X6_102 hC hH e_33 dX6_put_118 (fun H locs hH => ?_)
  exact cr_v hC hH hr hF dX6_put_121 hlocks
def xl_X6_putOpenOnes_2 : Nat → Int32 → MS → (Int32 → MS → Option (Int32 × MS)) → Option (Int32 × MS)
  | 0, _, _, _ => none
  | n2 + 1, v1, u, K2_57 => (if 4 ≤ v1 then K2_57 v1 u else ob (x_X1_ofMat v1 1 u) (fun r_2 u_3 => li (rg (u_3.2 0) 2088 r_2) (fun x_5 => (if x_5 = (-1) then li (v1 + 1) (fun x_8 => xl_X6_putOpenOnes_2 n2 x_8 u_3 K2_57) else ob (x_X1_ofMat v1 0 u_3) (fun r_10 u_11 => ob (x_X6_put (rg (u_11.2 0) 2088 r_10) x_5 v1 (rg (u_11.2 0) 2088 0) u_11) (fun r_13 u_14 => li (v1 + 1) (fun x_16 => xl_X6_putOpenOnes_2 n2 x_16 u_14 K2_57)))))))
def x_X6_putOpenOnes (u : MS) : Option (Int32 × MS) := xl_X6_putOpenOnes_2 fuel 0 u (fun v1 u => some (0, u))
set_option maxHeartbeats 4000000 in
set_option maxRecDepth 100000 in
theorem n_X6_putOpenOnes (l : Launch) (G : gG) (Z : gC) (Q : Nat → Nat) (D : Nat × Nat) (T : va_W) (u u1 : MS) (r : Int32) (sz : Nat) (hF : x_X6_putOpenOnes u = some (r, u1)) : Met l yX6_putOpenOnes (Cond.code yX6_putOpenOnes cX6_putOpenOnes 3 none :: wK) { frames := 3, cells := 0, slots := 0, locals := 69 } (va_Pc [.ref (Q 9)] (cPM G Z Q D T u sz)) (cQv G Q T u1 (va_A (cW G Q D T u) sz)) 0 0 (va_A (cW G Q D T u) sz) := by
  refine Met.ofW (cc := cX6_putOpenOnes) (maxL := 3) (ret := none) (by decide) rfl ?_
  intro p e s m args below meth c s₁ B hml hv
  obtain ⟨rfl, rfl, hP, hB, hD0, hE⟩ := hv
  have hr := B.returns
  have hlocks := B.notSynchronized
  have hts := atoms_spec (ws := Cond.code yX6_putOpenOnes cX6_putOpenOnes 3 none :: wK) B.pre
  have hD := hD0.self (sz := s.heap.size)
  have hA : ∀ q : Nat, s.heap.size ≤ q → va_A (cW G Q D T u) s.heap.size q := fun q h => Or.inr h
  generalize va_A (cW G Q D T u) s.heap.size = A at hD hA hE ⊢
  have hC : cX p c cX6_putOpenOnes 3 s m _ RX6 G Z A := ⟨B.exec, B.bytes, hml, findClass_of_methodNamed B.named, fun w h => hts w (List.mem_cons_of_mem _ h), hB, hE, hA⟩
  have hx := hC.1
  have hb := hC.2.1
  have hH : cH G Q D T A u s s.heap [] := ⟨hP, hD, va_S.rf⟩
  have hl := lv_entry ([.ref (Q 9)]) (n := 3) (Nat.le_of_ble_eq_true rfl)
  rw [lg_entry_eq]
  generalize (lg_sl ([.ref (Q 9)]) ++ List.replicate (3 - (lg_sl ([.ref (Q 9)])).length) Slot.unset).toArray = ls at hl ⊢
  have hl : lv_has ls 3 [(0, .ref (Q 9))] := hl
  unfold x_X6_putOpenOnes at hF
  refine lv_iconst (v := 0) hx hb dX6_putOpenOnes_0 (by decide) ?_
  refine lv_istore_n (lv' := [(1, .int 0), (0, .ref (Q 9))]) hx hb dX6_putOpenOnes_1 rfl hl (by decide) rfl (fun ls hl => ?_)
  have hL2 : ∀ (K2_57 : Int32 → MS → Option (Int32 × MS)), (∀ (v1 : Int32) (u : MS) (D : Nat × Nat) (H : Heap) (locs : List Loc) (ls : Array Slot), lv_has ls 3 [(0, .ref (Q 9)), (1, .int v1)] → cH G Q D T A u s H locs → K2_57 v1 u = some (r, u1) → W p l e (headSpec (Cond.code yX6_putOpenOnes cX6_putOpenOnes 3 none :: wK) { frames := 3, cells := 0, slots := 0, locals := 69 }).room s m [.ref (Q 9)].toArray below meth c H locs 0 0 (MQ below (cQv G Q T u1 A) [.ref (Q 9)].toArray s 0 0 A) (F0 m 57 ls [])) → ∀ (n2 : Nat) (v1 : Int32) (u : MS) (D : Nat × Nat) (H : Heap) (locs : List Loc) (ls : Array Slot), lv_has ls 3 [(0, .ref (Q 9)), (1, .int v1)] → cH G Q D T A u s H locs → xl_X6_putOpenOnes_2 n2 v1 u K2_57 = some (r, u1) → W p l e (headSpec (Cond.code yX6_putOpenOnes cX6_putOpenOnes 3 none :: wK) { frames := 3, cells := 0, slots := 0, locals := 69 }).room s m [.ref (Q 9)].toArray below meth c H locs 0 0 (MQ below (cQv G Q T u1 A) [.ref (Q 9)].toArray s 0 0 A) (F0 m 2 ls []) := by
    intro K2_57 hK2_57 n2
    induction n2 with
    | zero => intro v1 u D H locs ls hl hH hF; cases hF
    | succ n2 ih2 =>
      intro v1 u D H locs ls hl hH hF
      unfold xl_X6_putOpenOnes_2 at hF
      refine lv_iload_n hx hb dX6_putOpenOnes_2 rfl (lv_at hl 1 rfl) ?_
      refine lv_iconst (v := 4) hx hb dX6_putOpenOnes_3 (by decide) ?_
      refine lv_icmp_ge (tgt := 57) hx hb dX6_putOpenOnes_4 (by decide) (fun c_1 => ?_) (fun c_1 => ?_)
      · rw [if_pos c_1] at hF
        exact hK2_57 v1 u _ _ _ _ (lv_sub hl [0, 1] rfl) hH hF
      · rw [if_neg c_1] at hF
        refine lv_aload_n hx hb dX6_putOpenOnes_7 rfl (lv_at hl 0 rfl) ?_
        refine cg_X6_9 hC hH dX6_putOpenOnes_8 ?_
        refine lv_iload_n hx hb dX6_putOpenOnes_11 rfl (lv_at hl 1 rfl) ?_
        refine lv_iconst (v := 1) hx hb dX6_putOpenOnes_12 (by decide) ?_
        obtain ⟨r_2, u_3, h_4, hF⟩ := ob_some hF
        refine ccS_i (As := [.int v1, .int 1]) (rest := [.ref (Q 1)]) hC hH (n_X1_ofMat l G Z Q _ T u u_3 r_2 v1 1 _ h_4) ⟨wkc_X1_ofMat, wka356, wka438, wka745⟩ kSX1_ofMat ⟨Nat.le_of_ble_eq_true rfl, Nat.le_of_ble_eq_true rfl⟩ rfl hl.1 rfl (Nat.le_of_ble_eq_true rfl) dX6_putOpenOnes_13 (fun D H locs hH => ?_)
        refine bat (i := 1) (j := 11) hC hH rfl rfl (by decide) wka352 ⟨Nat.le_of_ble_eq_true rfl, Nat.le_of_ble_eq_true rfl⟩ hl.1 (Nat.le_of_ble_eq_true rfl) ⟨Nat.zero_le _, Nat.zero_le _⟩ dX6_putOpenOnes_16 ?_
        obtain ⟨x_5, e_6, hF⟩ := li_some hF
        refine gx_ti e_6 ?_
        refine lv_istore_n (lv' := [(2, .int x_5), (0, .ref (Q 9)), (1, .int v1)]) hx hb dX6_putOpenOnes_19 rfl hl (by decide) rfl (fun ls hl => ?_)
        refine lv_iload_n hx hb dX6_putOpenOnes_20 rfl (lv_at hl 0 rfl) ?_
        refine lv_iconst (v := (-1)) hx hb dX6_putOpenOnes_21 (by decide) ?_
        refine lv_icmp_eq (tgt := 51) hx hb dX6_putOpenOnes_22 (by decide) (fun c_7 => ?_) (fun c_7 => ?_)
        · rw [if_pos c_7] at hF
          obtain ⟨x_8, e_9, hF⟩ := li_some hF
          refine lv_iinc (v := x_8) (lv' := [(1, .int x_8), (2, .int x_5), (0, .ref (Q 9))]) hx hb dX6_putOpenOnes_51 hl (k := 2) rfl e_9 (by decide) rfl (fun ls hl => ?_)
          refine lv_goto (tgt := 2) hx hb dX6_putOpenOnes_54 (by decide) ?_
          exact ih2 x_8 u_3 _ _ _ _ (lv_sub hl [2, 0] rfl) hH hF
        · rw [if_neg c_7] at hF
          refine lv_aload_n hx hb dX6_putOpenOnes_25 rfl (lv_at hl 1 rfl) ?_
          refine lv_aload_n hx hb dX6_putOpenOnes_26 rfl (lv_at hl 1 rfl) ?_
          refine cg_X6_9 hC hH dX6_putOpenOnes_27 ?_
          refine lv_iload_n hx hb dX6_putOpenOnes_30 rfl (lv_at hl 2 rfl) ?_
          refine lv_iconst (v := 0) hx hb dX6_putOpenOnes_31 (by decide) ?_
          obtain ⟨r_10, u_11, h_12, hF⟩ := ob_some hF
          refine ccS_i (As := [.int v1, .int 0]) (rest := [.ref (Q 1), .ref (Q 9)]) hC hH (n_X1_ofMat l G Z Q _ T u_3 u_11 r_10 v1 0 _ h_12) ⟨wkc_X1_ofMat, wka356, wka438, wka745⟩ kSX1_ofMat ⟨Nat.le_of_ble_eq_true rfl, Nat.le_of_ble_eq_true rfl⟩ rfl hl.1 rfl (Nat.le_of_ble_eq_true rfl) dX6_putOpenOnes_32 (fun D H locs hH => ?_)
          refine bat (i := 1) (j := 11) hC hH rfl rfl (by decide) wka352 ⟨Nat.le_of_ble_eq_true rfl, Nat.le_of_ble_eq_true rfl⟩ hl.1 (Nat.le_of_ble_eq_true rfl) ⟨Nat.zero_le _, Nat.zero_le _⟩ dX6_putOpenOnes_35 ?_
          refine lv_iload_n hx hb dX6_putOpenOnes_38 rfl (lv_at hl 0 rfl) ?_
          refine lv_iload_n hx hb dX6_putOpenOnes_39 rfl (lv_at hl 2 rfl) ?_
          refine lv_aload_n hx hb dX6_putOpenOnes_40 rfl (lv_at hl 1 rfl) ?_
          refine cg_X6_9 hC hH dX6_putOpenOnes_41 ?_
          refine lv_iconst (v := 0) hx hb dX6_putOpenOnes_44 (by decide) ?_
          refine bat (i := 1) (j := 11) hC hH rfl rfl (by decide) wka352 ⟨Nat.le_of_ble_eq_true rfl, Nat.le_of_ble_eq_true rfl⟩ hl.1 (Nat.le_of_ble_eq_true rfl) ⟨Nat.zero_le _, Nat.zero_le _⟩ dX6_putOpenOnes_45 ?_
          obtain ⟨r_13, u_14, h_15, hF⟩ := ob_some hF
          refine ccV_v (q0 := 9) (As := [.int (rg (u_11.2 0) 2088 r_10), .int x_5, .int v1, .int (rg (u_11.2 0) 2088 0)]) (rest := []) hC hH (n_X6_put l G Z Q _ T u_11 u_14 r_13 (rg (u_11.2 0) 2088 r_10) x_5 v1 (rg (u_11.2 0) 2088 0) _ h_15) rfl rfl ⟨wkc_X6_put, wka357, wka586, wka587, wka750⟩ kVX6_put ⟨Nat.le_of_ble_eq_true rfl, Nat.le_of_ble_eq_true rfl⟩ rfl hl.1 rfl (Nat.le_of_ble_eq_true rfl) dX6_putOpenOnes_48 (fun D H locs hH => ?_)
          obtain ⟨x_16, e_17, hF⟩ := li_some hF
          refine lv_iinc (v := x_16) (lv' := [(1, .int x_16), (2, .int x_5), (0, .ref (Q 9))]) hx hb dX6_putOpenOnes_51 hl (k := 2) rfl e_17 (by decide) rfl (fun ls hl => ?_)
          refine lv_goto (tgt := 2) hx hb dX6_putOpenOnes_54 (by decide) ?_
          exact ih2 x_16 u_14 _ _ _ _ (lv_sub hl [2, 0] rfl) hH hF
  refine hL2 _ (fun v1 u D H locs ls hl hH hF => ?_) fuel 0 u _ _ _ _ (lv_sub hl [1, 0] rfl) hH hF
  exact cr_v hC hH hr hF dX6_putOpenOnes_57 hlocks
def xl_X6_putStageInOrder_2 : Nat → Int32 → Int32 → Int32 → MS → (Int32 → Int32 → Int32 → MS → Option (Int32 × MS)) → Option (Int32 × MS)
  | 0, _, _, _, _, _ => none
  | n2 + 1, v1, v2, v3, u, K2_96 => ob (x_X0_fightsOf v2 u) (fun r_1 u_2 => (if r_1 ≤ v3 then K2_96 v1 v2 v3 u_2 else ob (x_X0_stateOf v2 v3 u_2) (fun r_5 u_6 => (if r_5 = 0 then (if (1 : Int32) = 0 then li (v3 + 1) (fun x_10 => xl_X6_putStageInOrder_2 n2 v1 v2 x_10 u_6 K2_96) else ob (x_X0_stageOf v2 v3 u_6) (fun r_12 u_13 => (if r_12 = v1 then ob (x_X0_slot v2 v3 u_13) (fun r_18 u_19 => lu (sf u_19 21 (rs (u_19.2 21) 148 (u_13.1 17) r_18)) (fun u_21 => lu (si u_21 17 ((u_21.1 17) + 1)) (fun u_23 => li (v3 + 1) (fun x_25 => xl_X6_putStageInOrder_2 n2 v1 v2 x_25 u_23 K2_96)))) else li (v3 + 1) (fun x_16 => xl_X6_putStageInOrder_2 n2 v1 v2 x_16 u_13 K2_96)))) else ob (x_X0_stateOf v2 v3 u_6) (fun r_27 u_28 => (if r_27 = 1 then (if (1 : Int32) = 0 then li (v3 + 1) (fun x_50 => xl_X6_putStageInOrder_2 n2 v1 v2 x_50 u_28 K2_96) else ob (x_X0_stageOf v2 v3 u_28) (fun r_52 u_53 => (if r_52 = v1 then ob (x_X0_slot v2 v3 u_53) (fun r_58 u_59 => lu (sf u_59 21 (rs (u_59.2 21) 148 (u_53.1 17) r_58)) (fun u_61 => lu (si u_61 17 ((u_61.1 17) + 1)) (fun u_63 => li (v3 + 1) (fun x_65 => xl_X6_putStageInOrder_2 n2 v1 v2 x_65 u_63 K2_96)))) else li (v3 + 1) (fun x_56 => xl_X6_putStageInOrder_2 n2 v1 v2 x_56 u_53 K2_96)))) else (if (0 : Int32) = 0 then li (v3 + 1) (fun x_32 => xl_X6_putStageInOrder_2 n2 v1 v2 x_32 u_28 K2_96) else ob (x_X0_stageOf v2 v3 u_28) (fun r_34 u_35 => (if r_34 = v1 then ob (x_X0_slot v2 v3 u_35) (fun r_40 u_41 => lu (sf u_41 21 (rs (u_41.2 21) 148 (u_35.1 17) r_40)) (fun u_43 => lu (si u_43 17 ((u_43.1 17) + 1)) (fun u_45 => li (v3 + 1) (fun x_47 => xl_X6_putStageInOrder_2 n2 v1 v2 x_47 u_45 K2_96)))) else li (v3 + 1) (fun x_38 => xl_X6_putStageInOrder_2 n2 v1 v2 x_38 u_35 K2_96))))))))))
def x_X6_putStageInOrder (a0 : Int32) (a1 : Int32) (u : MS) : Option (Int32 × MS) := xl_X6_putStageInOrder_2 fuel a0 a1 0 u (fun v1 v2 v3 u => some (0, u))
set_option maxHeartbeats 4000000 in
set_option maxRecDepth 100000 in
theorem n_X6_putStageInOrder (l : Launch) (G : gG) (Z : gC) (Q : Nat → Nat) (D : Nat × Nat) (T : va_W) (u u1 : MS) (r : Int32) (a0 : Int32) (a1 : Int32) (sz : Nat) (hF : x_X6_putStageInOrder a0 a1 u = some (r, u1)) : Met l yX6_putStageInOrder (Cond.code yX6_putStageInOrder cX6_putStageInOrder 5 none :: wK) { frames := 3, cells := 0, slots := 0, locals := 68 } (va_Pc [.ref (Q 9), .int a0, .int a1] (cPM G Z Q D T u sz)) (cQv G Q T u1 (va_A (cW G Q D T u) sz)) 0 0 (va_A (cW G Q D T u) sz) := by
  refine Met.ofW (cc := cX6_putStageInOrder) (maxL := 5) (ret := none) (by decide) rfl ?_
  intro p e s m args below meth c s₁ B hml hv
  obtain ⟨rfl, rfl, hP, hB, hD0, hE⟩ := hv
  have hr := B.returns
  have hlocks := B.notSynchronized
  have hts := atoms_spec (ws := Cond.code yX6_putStageInOrder cX6_putStageInOrder 5 none :: wK) B.pre
  have hD := hD0.self (sz := s.heap.size)
  have hA : ∀ q : Nat, s.heap.size ≤ q → va_A (cW G Q D T u) s.heap.size q := fun q h => Or.inr h
  generalize va_A (cW G Q D T u) s.heap.size = A at hD hA hE ⊢
  have hC : cX p c cX6_putStageInOrder 5 s m _ RX6 G Z A := ⟨B.exec, B.bytes, hml, findClass_of_methodNamed B.named, fun w h => hts w (List.mem_cons_of_mem _ h), hB, hE, hA⟩
  have hx := hC.1
  have hb := hC.2.1
  have hH : cH G Q D T A u s s.heap [] := ⟨hP, hD, va_S.rf⟩
  have hl := lv_entry ([.ref (Q 9), .int a0, .int a1]) (n := 5) (Nat.le_of_ble_eq_true rfl)
  rw [lg_entry_eq]
  generalize (lg_sl ([.ref (Q 9), .int a0, .int a1]) ++ List.replicate (5 - (lg_sl ([.ref (Q 9), .int a0, .int a1])).length) Slot.unset).toArray = ls at hl ⊢
  have hl : lv_has ls 5 [(0, .ref (Q 9)), (1, .int a0), (2, .int a1)] := hl
  unfold x_X6_putStageInOrder at hF
  refine lv_iconst (v := 0) hx hb dX6_putStageInOrder_0 (by decide) ?_
  refine lv_istore_n (lv' := [(3, .int 0), (0, .ref (Q 9)), (1, .int a0), (2, .int a1)]) hx hb dX6_putStageInOrder_1 rfl hl (by decide) rfl (fun ls hl => ?_)
  have hL2 : ∀ (K2_96 : Int32 → Int32 → Int32 → MS → Option (Int32 × MS)), (∀ (v1 v2 v3 : Int32) (u : MS) (D : Nat × Nat) (H : Heap) (locs : List Loc) (ls : Array Slot), lv_has ls 5 [(0, .ref (Q 9)), (1, .int v1), (2, .int v2), (3, .int v3)] → cH G Q D T A u s H locs → K2_96 v1 v2 v3 u = some (r, u1) → W p l e (headSpec (Cond.code yX6_putStageInOrder cX6_putStageInOrder 5 none :: wK) { frames := 3, cells := 0, slots := 0, locals := 68 }).room s m [.ref (Q 9), .int a0, .int a1].toArray below meth c H locs 0 0 (MQ below (cQv G Q T u1 A) [.ref (Q 9), .int a0, .int a1].toArray s 0 0 A) (F0 m 96 ls [])) → ∀ (n2 : Nat) (v1 v2 v3 : Int32) (u : MS) (D : Nat × Nat) (H : Heap) (locs : List Loc) (ls : Array Slot), lv_has ls 5 [(0, .ref (Q 9)), (1, .int v1), (2, .int v2), (3, .int v3)] → cH G Q D T A u s H locs → xl_X6_putStageInOrder_2 n2 v1 v2 v3 u K2_96 = some (r, u1) → W p l e (headSpec (Cond.code yX6_putStageInOrder cX6_putStageInOrder 5 none :: wK) { frames := 3, cells := 0, slots := 0, locals := 68 }).room s m [.ref (Q 9), .int a0, .int a1].toArray below meth c H locs 0 0 (MQ below (cQv G Q T u1 A) [.ref (Q 9), .int a0, .int a1].toArray s 0 0 A) (F0 m 2 ls []) := by
    intro K2_96 hK2_96 n2
    induction n2 with
    | zero => intro v1 v2 v3 u D H locs ls hl hH hF; cases hF
    | succ n2 ih2 =>
      intro v1 v2 v3 u D H locs ls hl hH hF
      unfold xl_X6_putStageInOrder_2 at hF
      refine lv_iload_n hx hb dX6_putStageInOrder_2 rfl (lv_at hl 3 rfl) ?_
      refine lv_aload_n hx hb dX6_putStageInOrder_3 rfl (lv_at hl 0 rfl) ?_
      refine cg_X6_15 hC hH dX6_putStageInOrder_4 ?_
      refine lv_iload_n hx hb dX6_putStageInOrder_7 rfl (lv_at hl 2 rfl) ?_
      obtain ⟨r_1, u_2, h_3, hF⟩ := ob_some hF
      refine ccV_i (q0 := 6) (As := [.int v2]) (rest := [.int v3]) hC hH (n_X0_fightsOf l G Z Q _ T u u_2 r_1 v2 _ h_3) rfl rfl ⟨wkc_X0_fightsOf, wka366, wka396, wka397, wka744⟩ kVX0_fightsOf ⟨Nat.le_of_ble_eq_true rfl, Nat.le_of_ble_eq_true rfl⟩ rfl hl.1 rfl (Nat.le_of_ble_eq_true rfl) dX6_putStageInOrder_8 (fun D H locs hH => ?_)
      refine lv_icmp_ge (tgt := 96) hx hb dX6_putStageInOrder_11 (by decide) (fun c_4 => ?_) (fun c_4 => ?_)
      · rw [if_pos c_4] at hF
        exact hK2_96 v1 v2 v3 u_2 _ _ _ _ (lv_sub hl [0, 1, 2, 3] rfl) hH hF
      · rw [if_neg c_4] at hF
        refine lv_aload_n hx hb dX6_putStageInOrder_14 rfl (lv_at hl 0 rfl) ?_
        refine cg_X6_15 hC hH dX6_putStageInOrder_15 ?_
        refine lv_iload_n hx hb dX6_putStageInOrder_18 rfl (lv_at hl 2 rfl) ?_
        refine lv_iload_n hx hb dX6_putStageInOrder_19 rfl (lv_at hl 3 rfl) ?_
        obtain ⟨r_5, u_6, h_7, hF⟩ := ob_some hF
        refine ccV_i (q0 := 6) (As := [.int v2, .int v3]) (rest := []) hC hH (n_X0_stateOf l G Z Q _ T u_2 u_6 r_5 v2 v3 _ h_7) rfl rfl ⟨wkc_X0_stateOf, wka367, wka407, wka408, wka744⟩ kVX0_stateOf ⟨Nat.le_of_ble_eq_true rfl, Nat.le_of_ble_eq_true rfl⟩ rfl hl.1 rfl (Nat.le_of_ble_eq_true rfl) dX6_putStageInOrder_20 (fun D H locs hH => ?_)
        refine lv_if_eq (tgt := 39) hx hb dX6_putStageInOrder_23 (by decide) (fun c_8 => ?_) (fun c_8 => ?_)
        · rw [if_pos c_8] at hF
          refine lv_iconst (v := 1) hx hb dX6_putStageInOrder_39 (by decide) ?_
          refine lv_goto (tgt := 44) hx hb dX6_putStageInOrder_40 (by decide) ?_
          refine lv_istore (lv' := [(4, .int 1), (0, .ref (Q 9)), (1, .int v1), (2, .int v2), (3, .int v3)]) hx hb dX6_putStageInOrder_44 hl (by decide) rfl (fun ls hl => ?_)
          refine lv_iload hx hb dX6_putStageInOrder_46 (lv_at hl 0 rfl) ?_
          refine lv_if_eq (tgt := 90) hx hb dX6_putStageInOrder_48 (by decide) (fun c_9 => ?_) (fun c_9 => ?_)
          · rw [if_pos c_9] at hF
            obtain ⟨x_10, e_11, hF⟩ := li_some hF
            refine lv_iinc (v := x_10) (lv' := [(3, .int x_10), (4, .int 1), (0, .ref (Q 9)), (1, .int v1), (2, .int v2)]) hx hb dX6_putStageInOrder_90 hl (k := 4) rfl e_11 (by decide) rfl (fun ls hl => ?_)
            refine lv_goto (tgt := 2) hx hb dX6_putStageInOrder_93 (by decide) ?_
            exact ih2 v1 v2 x_10 u_6 _ _ _ _ (lv_sub hl [2, 3, 4, 0] rfl) hH hF
          · rw [if_neg c_9] at hF
            refine lv_aload_n hx hb dX6_putStageInOrder_51 rfl (lv_at hl 1 rfl) ?_
            refine cg_X6_15 hC hH dX6_putStageInOrder_52 ?_
            refine lv_iload_n hx hb dX6_putStageInOrder_55 rfl (lv_at hl 3 rfl) ?_
            refine lv_iload_n hx hb dX6_putStageInOrder_56 rfl (lv_at hl 4 rfl) ?_
            obtain ⟨r_12, u_13, h_14, hF⟩ := ob_some hF
            refine ccV_i (q0 := 6) (As := [.int v2, .int v3]) (rest := []) hC hH (n_X0_stageOf l G Z Q _ T u_6 u_13 r_12 v2 v3 _ h_14) rfl rfl ⟨wkc_X0_stageOf, wka368, wka430, wka431, wka744⟩ kVX0_stageOf ⟨Nat.le_of_ble_eq_true rfl, Nat.le_of_ble_eq_true rfl⟩ rfl hl.1 rfl (Nat.le_of_ble_eq_true rfl) dX6_putStageInOrder_57 (fun D H locs hH => ?_)
            refine lv_iload_n hx hb dX6_putStageInOrder_60 rfl (lv_at hl 2 rfl) ?_
            refine lv_icmp_ne (tgt := 90) hx hb dX6_putStageInOrder_61 (by decide) (fun c_15 => ?_) (fun c_15 => ?_)
            · rw [if_neg c_15] at hF
              obtain ⟨x_16, e_17, hF⟩ := li_some hF
              refine lv_iinc (v := x_16) (lv' := [(3, .int x_16), (4, .int 1), (0, .ref (Q 9)), (1, .int v1), (2, .int v2)]) hx hb dX6_putStageInOrder_90 hl (k := 4) rfl e_17 (by decide) rfl (fun ls hl => ?_)
              refine lv_goto (tgt := 2) hx hb dX6_putStageInOrder_93 (by decide) ?_
              exact ih2 v1 v2 x_16 u_13 _ _ _ _ (lv_sub hl [2, 3, 4, 0] rfl) hH hF
            · rw [if_pos c_15] at hF
              refine lv_aload_n hx hb dX6_putStageInOrder_64 rfl (lv_at hl 1 rfl) ?_
              refine cg_X6_26 hC hH dX6_putStageInOrder_65 ?_
              refine lv_aload_n hx hb dX6_putStageInOrder_68 rfl (lv_at hl 1 rfl) ?_
              refine cg_X6_84 hC hH dX6_putStageInOrder_69 ?_
              refine lv_iload_n hx hb dX6_putStageInOrder_72 rfl (lv_at hl 3 rfl) ?_
              refine lv_iload_n hx hb dX6_putStageInOrder_73 rfl (lv_at hl 4 rfl) ?_
              obtain ⟨r_18, u_19, h_20, hF⟩ := ob_some hF
              refine ccS_i (As := [.int v2, .int v3]) (rest := [.int (u_13.1 17), .ref (Q 60)]) hC hH (n_X0_slot l G Z Q _ T u_13 u_19 r_18 v2 v3 _ h_20) ⟨wkc_X0_slot, wka358, wka387, wka744⟩ kSX0_slot ⟨Nat.le_of_ble_eq_true rfl, Nat.le_of_ble_eq_true rfl⟩ rfl hl.1 rfl (Nat.le_of_ble_eq_true rfl) dX6_putStageInOrder_74 (fun D H locs hH => ?_)
              obtain ⟨u_21, e_22, hF⟩ := lu_some hF
              refine rs_20 hC hH e_22 wka354 ⟨Nat.le_of_ble_eq_true rfl, Nat.le_of_ble_eq_true rfl⟩ hl.1 (Nat.le_of_ble_eq_true rfl) ⟨Nat.zero_le _, Nat.zero_le _⟩ dX6_putStageInOrder_77 (fun H locs hH => ?_)
              refine lv_aload_n hx hb dX6_putStageInOrder_80 rfl (lv_at hl 1 rfl) ?_
              refine lv_dup hx hb dX6_putStageInOrder_81 rfl ?_
              refine cg_X6_84 hC hH dX6_putStageInOrder_82 ?_
              refine lv_iconst (v := 1) hx hb dX6_putStageInOrder_85 (by decide) ?_
              refine lv_iadd hx hb dX6_putStageInOrder_86 ?_
              obtain ⟨u_23, e_24, hF⟩ := lu_some hF
              refine cp_X6_84 hC hH e_24 dX6_putStageInOrder_87 (fun H locs hH => ?_)
              obtain ⟨x_25, e_26, hF⟩ := li_some hF
              refine lv_iinc (v := x_25) (lv' := [(3, .int x_25), (4, .int 1), (0, .ref (Q 9)), (1, .int v1), (2, .int v2)]) hx hb dX6_putStageInOrder_90 hl (k := 4) rfl e_26 (by decide) rfl (fun ls hl => ?_)
              refine lv_goto (tgt := 2) hx hb dX6_putStageInOrder_93 (by decide) ?_
              exact ih2 v1 v2 x_25 u_23 _ _ _ _ (lv_sub hl [2, 3, 4, 0] rfl) hH hF
        · rw [if_neg c_8] at hF
          refine lv_aload_n hx hb dX6_putStageInOrder_26 rfl (lv_at hl 0 rfl) ?_
          refine cg_X6_15 hC hH dX6_putStageInOrder_27 ?_
          refine lv_iload_n hx hb dX6_putStageInOrder_30 rfl (lv_at hl 2 rfl) ?_
          refine lv_iload_n hx hb dX6_putStageInOrder_31 rfl (lv_at hl 3 rfl) ?_
          obtain ⟨r_27, u_28, h_29, hF⟩ := ob_some hF
          refine ccV_i (q0 := 6) (As := [.int v2, .int v3]) (rest := []) hC hH (n_X0_stateOf l G Z Q _ T u_6 u_28 r_27 v2 v3 _ h_29) rfl rfl ⟨wkc_X0_stateOf, wka367, wka407, wka408, wka744⟩ kVX0_stateOf ⟨Nat.le_of_ble_eq_true rfl, Nat.le_of_ble_eq_true rfl⟩ rfl hl.1 rfl (Nat.le_of_ble_eq_true rfl) dX6_putStageInOrder_32 (fun D H locs hH => ?_)
          refine lv_iconst (v := 1) hx hb dX6_putStageInOrder_35 (by decide) ?_
          refine lv_icmp_ne (tgt := 43) hx hb dX6_putStageInOrder_36 (by decide) (fun c_30 => ?_) (fun c_30 => ?_)
          · rw [if_neg c_30] at hF
            refine lv_iconst (v := 0) hx hb dX6_putStageInOrder_43 (by decide) ?_
            refine lv_istore (lv' := [(4, .int 0), (0, .ref (Q 9)), (1, .int v1), (2, .int v2), (3, .int v3)]) hx hb dX6_putStageInOrder_44 hl (by decide) rfl (fun ls hl => ?_)
            refine lv_iload hx hb dX6_putStageInOrder_46 (lv_at hl 0 rfl) ?_
            refine lv_if_eq (tgt := 90) hx hb dX6_putStageInOrder_48 (by decide) (fun c_31 => ?_) (fun c_31 => ?_)
            · rw [if_pos c_31] at hF
              obtain ⟨x_32, e_33, hF⟩ := li_some hF
              refine lv_iinc (v := x_32) (lv' := [(3, .int x_32), (4, .int 0), (0, .ref (Q 9)), (1, .int v1), (2, .int v2)]) hx hb dX6_putStageInOrder_90 hl (k := 4) rfl e_33 (by decide) rfl (fun ls hl => ?_)
              refine lv_goto (tgt := 2) hx hb dX6_putStageInOrder_93 (by decide) ?_
              exact ih2 v1 v2 x_32 u_28 _ _ _ _ (lv_sub hl [2, 3, 4, 0] rfl) hH hF
            · rw [if_neg c_31] at hF
              refine lv_aload_n hx hb dX6_putStageInOrder_51 rfl (lv_at hl 1 rfl) ?_
              refine cg_X6_15 hC hH dX6_putStageInOrder_52 ?_
              refine lv_iload_n hx hb dX6_putStageInOrder_55 rfl (lv_at hl 3 rfl) ?_
              refine lv_iload_n hx hb dX6_putStageInOrder_56 rfl (lv_at hl 4 rfl) ?_
              obtain ⟨r_34, u_35, h_36, hF⟩ := ob_some hF
              refine ccV_i (q0 := 6) (As := [.int v2, .int v3]) (rest := []) hC hH (n_X0_stageOf l G Z Q _ T u_28 u_35 r_34 v2 v3 _ h_36) rfl rfl ⟨wkc_X0_stageOf, wka368, wka430, wka431, wka744⟩ kVX0_stageOf ⟨Nat.le_of_ble_eq_true rfl, Nat.le_of_ble_eq_true rfl⟩ rfl hl.1 rfl (Nat.le_of_ble_eq_true rfl) dX6_putStageInOrder_57 (fun D H locs hH => ?_)
              refine lv_iload_n hx hb dX6_putStageInOrder_60 rfl (lv_at hl 2 rfl) ?_
              refine lv_icmp_ne (tgt := 90) hx hb dX6_putStageInOrder_61 (by decide) (fun c_37 => ?_) (fun c_37 => ?_)
              · rw [if_neg c_37] at hF
                obtain ⟨x_38, e_39, hF⟩ := li_some hF
                refine lv_iinc (v := x_38) (lv' := [(3, .int x_38), (4, .int 0), (0, .ref (Q 9)), (1, .int v1), (2, .int v2)]) hx hb dX6_putStageInOrder_90 hl (k := 4) rfl e_39 (by decide) rfl (fun ls hl => ?_)
                refine lv_goto (tgt := 2) hx hb dX6_putStageInOrder_93 (by decide) ?_
                exact ih2 v1 v2 x_38 u_35 _ _ _ _ (lv_sub hl [2, 3, 4, 0] rfl) hH hF
              · rw [if_pos c_37] at hF
                refine lv_aload_n hx hb dX6_putStageInOrder_64 rfl (lv_at hl 1 rfl) ?_
                refine cg_X6_26 hC hH dX6_putStageInOrder_65 ?_
                refine lv_aload_n hx hb dX6_putStageInOrder_68 rfl (lv_at hl 1 rfl) ?_
                refine cg_X6_84 hC hH dX6_putStageInOrder_69 ?_
                refine lv_iload_n hx hb dX6_putStageInOrder_72 rfl (lv_at hl 3 rfl) ?_
                refine lv_iload_n hx hb dX6_putStageInOrder_73 rfl (lv_at hl 4 rfl) ?_
                obtain ⟨r_40, u_41, h_42, hF⟩ := ob_some hF
                refine ccS_i (As := [.int v2, .int v3]) (rest := [.int (u_35.1 17), .ref (Q 60)]) hC hH (n_X0_slot l G Z Q _ T u_35 u_41 r_40 v2 v3 _ h_42) ⟨wkc_X0_slot, wka358, wka387, wka744⟩ kSX0_slot ⟨Nat.le_of_ble_eq_true rfl, Nat.le_of_ble_eq_true rfl⟩ rfl hl.1 rfl (Nat.le_of_ble_eq_true rfl) dX6_putStageInOrder_74 (fun D H locs hH => ?_)
                obtain ⟨u_43, e_44, hF⟩ := lu_some hF
                refine rs_20 hC hH e_44 wka354 ⟨Nat.le_of_ble_eq_true rfl, Nat.le_of_ble_eq_true rfl⟩ hl.1 (Nat.le_of_ble_eq_true rfl) ⟨Nat.zero_le _, Nat.zero_le _⟩ dX6_putStageInOrder_77 (fun H locs hH => ?_)
                refine lv_aload_n hx hb dX6_putStageInOrder_80 rfl (lv_at hl 1 rfl) ?_
                refine lv_dup hx hb dX6_putStageInOrder_81 rfl ?_
                refine cg_X6_84 hC hH dX6_putStageInOrder_82 ?_
                refine lv_iconst (v := 1) hx hb dX6_putStageInOrder_85 (by decide) ?_
                refine lv_iadd hx hb dX6_putStageInOrder_86 ?_
                obtain ⟨u_45, e_46, hF⟩ := lu_some hF
                refine cp_X6_84 hC hH e_46 dX6_putStageInOrder_87 (fun H locs hH => ?_)
                obtain ⟨x_47, e_48, hF⟩ := li_some hF
                refine lv_iinc (v := x_47) (lv' := [(3, .int x_47), (4, .int 0), (0, .ref (Q 9)), (1, .int v1), (2, .int v2)]) hx hb dX6_putStageInOrder_90 hl (k := 4) rfl e_48 (by decide) rfl (fun ls hl => ?_)
                refine lv_goto (tgt := 2) hx hb dX6_putStageInOrder_93 (by decide) ?_
                exact ih2 v1 v2 x_47 u_45 _ _ _ _ (lv_sub hl [2, 3, 4, 0] rfl) hH hF
          · rw [if_pos c_30] at hF
            refine lv_iconst (v := 1) hx hb dX6_putStageInOrder_39 (by decide) ?_
            refine lv_goto (tgt := 44) hx hb dX6_putStageInOrder_40 (by decide) ?_
            refine lv_istore (lv' := [(4, .int 1), (0, .ref (Q 9)), (1, .int v1), (2, .int v2), (3, .int v3)]) hx hb dX6_putStageInOrder_44 hl (by decide) rfl (fun ls hl => ?_)
            refine lv_iload hx hb dX6_putStageInOrder_46 (lv_at hl 0 rfl) ?_
            refine lv_if_eq (tgt := 90) hx hb dX6_putStageInOrder_48 (by decide) (fun c_49 => ?_) (fun c_49 => ?_)
            · rw [if_pos c_49] at hF
              obtain ⟨x_50, e_51, hF⟩ := li_some hF
              refine lv_iinc (v := x_50) (lv' := [(3, .int x_50), (4, .int 1), (0, .ref (Q 9)), (1, .int v1), (2, .int v2)]) hx hb dX6_putStageInOrder_90 hl (k := 4) rfl e_51 (by decide) rfl (fun ls hl => ?_)
              refine lv_goto (tgt := 2) hx hb dX6_putStageInOrder_93 (by decide) ?_
              exact ih2 v1 v2 x_50 u_28 _ _ _ _ (lv_sub hl [2, 3, 4, 0] rfl) hH hF
            · rw [if_neg c_49] at hF
              refine lv_aload_n hx hb dX6_putStageInOrder_51 rfl (lv_at hl 1 rfl) ?_
              refine cg_X6_15 hC hH dX6_putStageInOrder_52 ?_
              refine lv_iload_n hx hb dX6_putStageInOrder_55 rfl (lv_at hl 3 rfl) ?_
              refine lv_iload_n hx hb dX6_putStageInOrder_56 rfl (lv_at hl 4 rfl) ?_
              obtain ⟨r_52, u_53, h_54, hF⟩ := ob_some hF
              refine ccV_i (q0 := 6) (As := [.int v2, .int v3]) (rest := []) hC hH (n_X0_stageOf l G Z Q _ T u_28 u_53 r_52 v2 v3 _ h_54) rfl rfl ⟨wkc_X0_stageOf, wka368, wka430, wka431, wka744⟩ kVX0_stageOf ⟨Nat.le_of_ble_eq_true rfl, Nat.le_of_ble_eq_true rfl⟩ rfl hl.1 rfl (Nat.le_of_ble_eq_true rfl) dX6_putStageInOrder_57 (fun D H locs hH => ?_)
              refine lv_iload_n hx hb dX6_putStageInOrder_60 rfl (lv_at hl 2 rfl) ?_
              refine lv_icmp_ne (tgt := 90) hx hb dX6_putStageInOrder_61 (by decide) (fun c_55 => ?_) (fun c_55 => ?_)
              · rw [if_neg c_55] at hF
                obtain ⟨x_56, e_57, hF⟩ := li_some hF
                refine lv_iinc (v := x_56) (lv' := [(3, .int x_56), (4, .int 1), (0, .ref (Q 9)), (1, .int v1), (2, .int v2)]) hx hb dX6_putStageInOrder_90 hl (k := 4) rfl e_57 (by decide) rfl (fun ls hl => ?_)
                refine lv_goto (tgt := 2) hx hb dX6_putStageInOrder_93 (by decide) ?_
                exact ih2 v1 v2 x_56 u_53 _ _ _ _ (lv_sub hl [2, 3, 4, 0] rfl) hH hF
              · rw [if_pos c_55] at hF
                refine lv_aload_n hx hb dX6_putStageInOrder_64 rfl (lv_at hl 1 rfl) ?_
                refine cg_X6_26 hC hH dX6_putStageInOrder_65 ?_
                refine lv_aload_n hx hb dX6_putStageInOrder_68 rfl (lv_at hl 1 rfl) ?_
                refine cg_X6_84 hC hH dX6_putStageInOrder_69 ?_
                refine lv_iload_n hx hb dX6_putStageInOrder_72 rfl (lv_at hl 3 rfl) ?_
                refine lv_iload_n hx hb dX6_putStageInOrder_73 rfl (lv_at hl 4 rfl) ?_
                obtain ⟨r_58, u_59, h_60, hF⟩ := ob_some hF
                refine ccS_i (As := [.int v2, .int v3]) (rest := [.int (u_53.1 17), .ref (Q 60)]) hC hH (n_X0_slot l G Z Q _ T u_53 u_59 r_58 v2 v3 _ h_60) ⟨wkc_X0_slot, wka358, wka387, wka744⟩ kSX0_slot ⟨Nat.le_of_ble_eq_true rfl, Nat.le_of_ble_eq_true rfl⟩ rfl hl.1 rfl (Nat.le_of_ble_eq_true rfl) dX6_putStageInOrder_74 (fun D H locs hH => ?_)
                obtain ⟨u_61, e_62, hF⟩ := lu_some hF
                refine rs_20 hC hH e_62 wka354 ⟨Nat.le_of_ble_eq_true rfl, Nat.le_of_ble_eq_true rfl⟩ hl.1 (Nat.le_of_ble_eq_true rfl) ⟨Nat.zero_le _, Nat.zero_le _⟩ dX6_putStageInOrder_77 (fun H locs hH => ?_)
                refine lv_aload_n hx hb dX6_putStageInOrder_80 rfl (lv_at hl 1 rfl) ?_
                refine lv_dup hx hb dX6_putStageInOrder_81 rfl ?_
                refine cg_X6_84 hC hH dX6_putStageInOrder_82 ?_
                refine lv_iconst (v := 1) hx hb dX6_putStageInOrder_85 (by decide) ?_
                refine lv_iadd hx hb dX6_putStageInOrder_86 ?_
                obtain ⟨u_63, e_64, hF⟩ := lu_some hF
                refine cp_X6_84 hC hH e_64 dX6_putStageInOrder_87 (fun H locs hH => ?_)
                obtain ⟨x_65, e_66, hF⟩ := li_some hF
                refine lv_iinc (v := x_65) (lv' := [(3, .int x_65), (4, .int 1), (0, .ref (Q 9)), (1, .int v1), (2, .int v2)]) hx hb dX6_putStageInOrder_90 hl (k := 4) rfl e_66 (by decide) rfl (fun ls hl => ?_)
                refine lv_goto (tgt := 2) hx hb dX6_putStageInOrder_93 (by decide) ?_
                exact ih2 v1 v2 x_65 u_63 _ _ _ _ (lv_sub hl [2, 3, 4, 0] rfl) hH hF
  refine hL2 _ (fun v1 v2 v3 u D H locs ls hl hH hF => ?_) fuel a0 a1 0 u _ _ _ _ (lv_sub hl [1, 2, 3, 0] rfl) hH hF
  exact cr_v hC hH hr hF dX6_putStageInOrder_96 hlocks
def xl_X6_putInOrder_15 : Nat → Int32 → Int32 → MS → (Int32 → Int32 → MS → Option (Int32 × MS)) → Option (Int32 × MS)
  | 0, _, _, _, _ => none
  | n15 + 1, v1, v2, u, K15_32 => (if 4 ≤ v2 then K15_32 v1 v2 u else ob (x_X6_putStageInOrder v1 v2 u) (fun r_5 u_6 => li (v2 + 1) (fun x_8 => xl_X6_putInOrder_15 n15 v1 x_8 u_6 K15_32)))
def xl_X6_putInOrder_7 : Nat → Int32 → MS → (Int32 → MS → Option (Int32 × MS)) → Option (Int32 × MS)
  | 0, _, _, _ => none
  | n7 + 1, v1, u, K7_38 => (if 20 < v1 then K7_38 v1 u else xl_X6_putInOrder_15 fuel v1 0 u (fun v1 v2 u => li (v1 + 1) (fun x_10 => xl_X6_putInOrder_7 n7 x_10 u K7_38)))
def x_X6_putInOrder (u : MS) : Option (Int32 × MS) := lu (si u 17 0) (fun u_1 => xl_X6_putInOrder_7 fuel 0 u_1 (fun v1 u => some (0, u)))
set_option maxHeartbeats 4000000 in
set_option maxRecDepth 100000 in
theorem n_X6_putInOrder (l : Launch) (G : gG) (Z : gC) (Q : Nat → Nat) (D : Nat × Nat) (T : va_W) (u u1 : MS) (r : Int32) (sz : Nat) (hF : x_X6_putInOrder u = some (r, u1)) : Met l yX6_putInOrder (Cond.code yX6_putInOrder cX6_putInOrder 3 none :: wK) { frames := 4, cells := 0, slots := 0, locals := 92 } (va_Pc [.ref (Q 9)] (cPM G Z Q D T u sz)) (cQv G Q T u1 (va_A (cW G Q D T u) sz)) 0 0 (va_A (cW G Q D T u) sz) := by
  refine Met.ofW (cc := cX6_putInOrder) (maxL := 3) (ret := none) (by decide) rfl ?_
  intro p e s m args below meth c s₁ B hml hv
  obtain ⟨rfl, rfl, hP, hB, hD0, hE⟩ := hv
  have hr := B.returns
  have hlocks := B.notSynchronized
  have hts := atoms_spec (ws := Cond.code yX6_putInOrder cX6_putInOrder 3 none :: wK) B.pre
  have hD := hD0.self (sz := s.heap.size)
  have hA : ∀ q : Nat, s.heap.size ≤ q → va_A (cW G Q D T u) s.heap.size q := fun q h => Or.inr h
  generalize va_A (cW G Q D T u) s.heap.size = A at hD hA hE ⊢
  have hC : cX p c cX6_putInOrder 3 s m _ RX6 G Z A := ⟨B.exec, B.bytes, hml, findClass_of_methodNamed B.named, fun w h => hts w (List.mem_cons_of_mem _ h), hB, hE, hA⟩
  have hx := hC.1
  have hb := hC.2.1
  have hH : cH G Q D T A u s s.heap [] := ⟨hP, hD, va_S.rf⟩
  have hl := lv_entry ([.ref (Q 9)]) (n := 3) (Nat.le_of_ble_eq_true rfl)
  rw [lg_entry_eq]
  generalize (lg_sl ([.ref (Q 9)]) ++ List.replicate (3 - (lg_sl ([.ref (Q 9)])).length) Slot.unset).toArray = ls at hl ⊢
  have hl : lv_has ls 3 [(0, .ref (Q 9))] := hl
  unfold x_X6_putInOrder at hF
  refine lv_aload_n hx hb dX6_putInOrder_0 rfl (lv_at hl 0 rfl) ?_
  refine lv_iconst (v := 0) hx hb dX6_putInOrder_1 (by decide) ?_
  obtain ⟨u_1, e_2, hF⟩ := lu_some hF
  refine cp_X6_84 hC hH e_2 dX6_putInOrder_2 (fun H locs hH => ?_)
  refine lv_iconst (v := 0) hx hb dX6_putInOrder_5 (by decide) ?_
  refine lv_istore_n (lv' := [(1, .int 0), (0, .ref (Q 9))]) hx hb dX6_putInOrder_6 rfl hl (by decide) rfl (fun ls hl => ?_)
  have hL7 : ∀ (K7_38 : Int32 → MS → Option (Int32 × MS)), (∀ (v1 : Int32) (u : MS) (D : Nat × Nat) (H : Heap) (locs : List Loc) (ls : Array Slot), lv_has ls 3 [(0, .ref (Q 9)), (1, .int v1)] → cH G Q D T A u s H locs → K7_38 v1 u = some (r, u1) → W p l e (headSpec (Cond.code yX6_putInOrder cX6_putInOrder 3 none :: wK) { frames := 4, cells := 0, slots := 0, locals := 92 }).room s m [.ref (Q 9)].toArray below meth c H locs 0 0 (MQ below (cQv G Q T u1 A) [.ref (Q 9)].toArray s 0 0 A) (F0 m 38 ls [])) → ∀ (n7 : Nat) (v1 : Int32) (u : MS) (D : Nat × Nat) (H : Heap) (locs : List Loc) (ls : Array Slot), lv_has ls 3 [(0, .ref (Q 9)), (1, .int v1)] → cH G Q D T A u s H locs → xl_X6_putInOrder_7 n7 v1 u K7_38 = some (r, u1) → W p l e (headSpec (Cond.code yX6_putInOrder cX6_putInOrder 3 none :: wK) { frames := 4, cells := 0, slots := 0, locals := 92 }).room s m [.ref (Q 9)].toArray below meth c H locs 0 0 (MQ below (cQv G Q T u1 A) [.ref (Q 9)].toArray s 0 0 A) (F0 m 7 ls []) := by
    intro K7_38 hK7_38 n7
    induction n7 with
    | zero => intro v1 u D H locs ls hl hH hF; cases hF
    | succ n7 ih7 =>
      intro v1 u D H locs ls hl hH hF
      unfold xl_X6_putInOrder_7 at hF
      refine lv_iload_n hx hb dX6_putInOrder_7 rfl (lv_at hl 1 rfl) ?_
      refine lv_bipush (v := 20) hx hb dX6_putInOrder_8 (by decide) ?_
      refine lv_icmp_gt (tgt := 38) hx hb dX6_putInOrder_10 (by decide) (fun c_3 => ?_) (fun c_3 => ?_)
      · rw [if_pos c_3] at hF
        exact hK7_38 v1 u _ _ _ _ (lv_sub hl [0, 1] rfl) hH hF
      · rw [if_neg c_3] at hF
        refine lv_iconst (v := 0) hx hb dX6_putInOrder_13 (by decide) ?_
        refine lv_istore_n (lv' := [(2, .int 0), (0, .ref (Q 9)), (1, .int v1)]) hx hb dX6_putInOrder_14 rfl hl (by decide) rfl (fun ls hl => ?_)
        have hL15 : ∀ (K15_32 : Int32 → Int32 → MS → Option (Int32 × MS)), (∀ (v1 v2 : Int32) (u : MS) (D : Nat × Nat) (H : Heap) (locs : List Loc) (ls : Array Slot), lv_has ls 3 [(0, .ref (Q 9)), (1, .int v1), (2, .int v2)] → cH G Q D T A u s H locs → K15_32 v1 v2 u = some (r, u1) → W p l e (headSpec (Cond.code yX6_putInOrder cX6_putInOrder 3 none :: wK) { frames := 4, cells := 0, slots := 0, locals := 92 }).room s m [.ref (Q 9)].toArray below meth c H locs 0 0 (MQ below (cQv G Q T u1 A) [.ref (Q 9)].toArray s 0 0 A) (F0 m 32 ls [])) → ∀ (n15 : Nat) (v1 v2 : Int32) (u : MS) (D : Nat × Nat) (H : Heap) (locs : List Loc) (ls : Array Slot), lv_has ls 3 [(0, .ref (Q 9)), (1, .int v1), (2, .int v2)] → cH G Q D T A u s H locs → xl_X6_putInOrder_15 n15 v1 v2 u K15_32 = some (r, u1) → W p l e (headSpec (Cond.code yX6_putInOrder cX6_putInOrder 3 none :: wK) { frames := 4, cells := 0, slots := 0, locals := 92 }).room s m [.ref (Q 9)].toArray below meth c H locs 0 0 (MQ below (cQv G Q T u1 A) [.ref (Q 9)].toArray s 0 0 A) (F0 m 15 ls []) := by
          intro K15_32 hK15_32 n15
          induction n15 with
          | zero => intro v1 v2 u D H locs ls hl hH hF; cases hF
          | succ n15 ih15 =>
            intro v1 v2 u D H locs ls hl hH hF
            unfold xl_X6_putInOrder_15 at hF
            refine lv_iload_n hx hb dX6_putInOrder_15 rfl (lv_at hl 2 rfl) ?_
            refine lv_iconst (v := 4) hx hb dX6_putInOrder_16 (by decide) ?_
            refine lv_icmp_ge (tgt := 32) hx hb dX6_putInOrder_17 (by decide) (fun c_4 => ?_) (fun c_4 => ?_)
            · rw [if_pos c_4] at hF
              exact hK15_32 v1 v2 u _ _ _ _ (lv_sub hl [0, 1, 2] rfl) hH hF
            · rw [if_neg c_4] at hF
              refine lv_aload_n hx hb dX6_putInOrder_20 rfl (lv_at hl 0 rfl) ?_
              refine lv_iload_n hx hb dX6_putInOrder_21 rfl (lv_at hl 1 rfl) ?_
              refine lv_iload_n hx hb dX6_putInOrder_22 rfl (lv_at hl 2 rfl) ?_
              obtain ⟨r_5, u_6, h_7, hF⟩ := ob_some hF
              refine ccV_v (q0 := 9) (As := [.int v1, .int v2]) (rest := []) hC hH (n_X6_putStageInOrder l G Z Q _ T u u_6 r_5 v1 v2 _ h_7) rfl rfl ⟨wkc_X6_putStageInOrder, wka365, wka592, wka593, wka750⟩ kVX6_putStageInOrder ⟨Nat.le_of_ble_eq_true rfl, Nat.le_of_ble_eq_true rfl⟩ rfl hl.1 rfl (Nat.le_of_ble_eq_true rfl) dX6_putInOrder_23 (fun D H locs hH => ?_)
              obtain ⟨x_8, e_9, hF⟩ := li_some hF
              refine lv_iinc (v := x_8) (lv' := [(2, .int x_8), (0, .ref (Q 9)), (1, .int v1)]) hx hb dX6_putInOrder_26 hl (k := 2) rfl e_9 (by decide) rfl (fun ls hl => ?_)
              refine lv_goto (tgt := 15) hx hb dX6_putInOrder_29 (by decide) ?_
              exact ih15 v1 x_8 u_6 _ _ _ _ (lv_sub hl [1, 2, 0] rfl) hH hF
        refine hL15 _ (fun v1 v2 u D H locs ls hl hH hF => ?_) fuel v1 0 u _ _ _ _ (lv_sub hl [1, 2, 0] rfl) hH hF
        obtain ⟨x_10, e_11, hF⟩ := li_some hF
        refine lv_iinc (v := x_10) (lv' := [(1, .int x_10), (0, .ref (Q 9)), (2, .int v2)]) hx hb dX6_putInOrder_32 hl (k := 1) rfl e_11 (by decide) rfl (fun ls hl => ?_)
        refine lv_goto (tgt := 7) hx hb dX6_putInOrder_35 (by decide) ?_
        exact ih7 x_10 u _ _ _ _ (lv_sub hl [1, 0] rfl) hH hF
  refine hL7 _ (fun v1 u D H locs ls hl hH hF => ?_) fuel 0 u_1 _ _ _ _ (lv_sub hl [1, 0] rfl) hH hF
  exact cr_v hC hH hr hF dX6_putInOrder_38 hlocks
def x_X6_freeFrom (a0 : Int32) (u : MS) : Option (Int32 × MS) := (if a0 = (-1) then some (0, u) else some (rg (u.2 24) 96 a0, u))
set_option maxHeartbeats 4000000 in
set_option maxRecDepth 100000 in
theorem n_X6_freeFrom (l : Launch) (G : gG) (Z : gC) (Q : Nat → Nat) (D : Nat × Nat) (T : va_W) (u u1 : MS) (r : Int32) (a0 : Int32) (sz : Nat) (hF : x_X6_freeFrom a0 u = some (r, u1)) : Met l yX6_freeFrom (Cond.code yX6_freeFrom cX6_freeFrom 2 (some .int) :: wK) { frames := 1, cells := 0, slots := 0, locals := 22 } (va_Pc [.ref (Q 9), .int a0] (cPM G Z Q D T u sz)) (cQi G Q T u1 r (va_A (cW G Q D T u) sz)) 0 0 (va_A (cW G Q D T u) sz) := by
  refine Met.ofW (cc := cX6_freeFrom) (maxL := 2) (ret := (some .int)) (by decide) rfl ?_
  intro p e s m args below meth c s₁ B hml hv
  obtain ⟨rfl, rfl, hP, hB, hD0, hE⟩ := hv
  have hr := B.returns
  have hlocks := B.notSynchronized
  have hts := atoms_spec (ws := Cond.code yX6_freeFrom cX6_freeFrom 2 (some .int) :: wK) B.pre
  have hD := hD0.self (sz := s.heap.size)
  have hA : ∀ q : Nat, s.heap.size ≤ q → va_A (cW G Q D T u) s.heap.size q := fun q h => Or.inr h
  generalize va_A (cW G Q D T u) s.heap.size = A at hD hA hE ⊢
  have hC : cX p c cX6_freeFrom 2 s m _ RX6 G Z A := ⟨B.exec, B.bytes, hml, findClass_of_methodNamed B.named, fun w h => hts w (List.mem_cons_of_mem _ h), hB, hE, hA⟩
  have hx := hC.1
  have hb := hC.2.1
  have hH : cH G Q D T A u s s.heap [] := ⟨hP, hD, va_S.rf⟩
  have hl := lv_entry ([.ref (Q 9), .int a0]) (n := 2) (Nat.le_of_ble_eq_true rfl)
  rw [lg_entry_eq]
  generalize (lg_sl ([.ref (Q 9), .int a0]) ++ List.replicate (2 - (lg_sl ([.ref (Q 9), .int a0])).length) Slot.unset).toArray = ls at hl ⊢
  have hl : lv_has ls 2 [(0, .ref (Q 9)), (1, .int a0)] := hl
  unfold x_X6_freeFrom at hF
  refine lv_iload_n hx hb dX6_freeFrom_0 rfl (lv_at hl 1 rfl) ?_
  refine lv_iconst (v := (-1)) hx hb dX6_freeFrom_1 (by decide) ?_
  refine lv_icmp_ne (tgt := 9) hx hb dX6_freeFrom_2 (by decide) (fun c_1 => ?_) (fun c_1 => ?_)
  · rw [if_neg c_1] at hF
    refine lv_aload_n hx hb dX6_freeFrom_9 rfl (lv_at hl 0 rfl) ?_
    refine cg_X6_36 hC hH dX6_freeFrom_10 ?_
    refine lv_iload_n hx hb dX6_freeFrom_13 rfl (lv_at hl 1 rfl) ?_
    refine rg_23 hC hH wka361 ⟨Nat.le_of_ble_eq_true rfl, Nat.le_of_ble_eq_true rfl⟩ hl.1 (Nat.le_of_ble_eq_true rfl) ⟨Nat.zero_le _, Nat.zero_le _⟩ dX6_freeFrom_14 ?_
    exact cr_i hC hH hr hF dX6_freeFrom_17 hlocks
  · rw [if_pos c_1] at hF
    refine lv_iconst (v := 0) hx hb dX6_freeFrom_5 (by decide) ?_
    refine lv_goto (tgt := 17) hx hb dX6_freeFrom_6 (by decide) ?_
    exact cr_i hC hH hr hF dX6_freeFrom_17 hlocks
def x_X6_behindFight (a0 : Int32) (a1 : Int32) (u : MS) : Option (Int32 × MS) := (if a1 = (-1) then some (0, u) else ob (x_X0_stateOf a0 a1 u) (fun r_2 u_3 => (if r_2 = 3 then some (0, u_3) else ob (x_X0_stateOf a0 a1 u_3) (fun r_6 u_7 => (if r_6 = 4 then some (0, u_7) else ob (x_X0_slot a0 a1 u_7) (fun r_10 u_11 => li (rg (u_11.2 22) 148 r_10) (fun x_13 => (if x_13 = (-1) then some (1000000, u_11) else some (x_13 + (rg (u_11.2 0) 2088 1), u_11)))))))))
set_option maxHeartbeats 4000000 in
set_option maxRecDepth 100000 in
theorem n_X6_behindFight (l : Launch) (G : gG) (Z : gC) (Q : Nat → Nat) (D : Nat × Nat) (T : va_W) (u u1 : MS) (r : Int32) (a0 : Int32) (a1 : Int32) (sz : Nat) (hF : x_X6_behindFight a0 a1 u = some (r, u1)) : Met l yX6_behindFight (Cond.code yX6_behindFight cX6_behindFight 4 (some .int) :: wK) { frames := 2, cells := 0, slots := 0, locals := 44 } (va_Pc [.ref (Q 9), .int a0, .int a1] (cPM G Z Q D T u sz)) (cQi G Q T u1 r (va_A (cW G Q D T u) sz)) 0 0 (va_A (cW G Q D T u) sz) := by
  refine Met.ofW (cc := cX6_behindFight) (maxL := 4) (ret := (some .int)) (by decide) rfl ?_
  intro p e s m args below meth c s₁ B hml hv
  obtain ⟨rfl, rfl, hP, hB, hD0, hE⟩ := hv
  have hr := B.returns
  have hlocks := B.notSynchronized
  have hts := atoms_spec (ws := Cond.code yX6_behindFight cX6_behindFight 4 (some .int) :: wK) B.pre
  have hD := hD0.self (sz := s.heap.size)
  have hA : ∀ q : Nat, s.heap.size ≤ q → va_A (cW G Q D T u) s.heap.size q := fun q h => Or.inr h
  generalize va_A (cW G Q D T u) s.heap.size = A at hD hA hE ⊢
  have hC : cX p c cX6_behindFight 4 s m _ RX6 G Z A := ⟨B.exec, B.bytes, hml, findClass_of_methodNamed B.named, fun w h => hts w (List.mem_cons_of_mem _ h), hB, hE, hA⟩
  have hx := hC.1
  have hb := hC.2.1
  have hH : cH G Q D T A u s s.heap [] := ⟨hP, hD, va_S.rf⟩
  have hl := lv_entry ([.ref (Q 9), .int a0, .int a1]) (n := 4) (Nat.le_of_ble_eq_true rfl)
  rw [lg_entry_eq]
  generalize (lg_sl ([.ref (Q 9), .int a0, .int a1]) ++ List.replicate (4 - (lg_sl ([.ref (Q 9), .int a0, .int a1])).length) Slot.unset).toArray = ls at hl ⊢
  have hl : lv_has ls 4 [(0, .ref (Q 9)), (1, .int a0), (2, .int a1)] := hl
  unfold x_X6_behindFight at hF
  refine lv_iload_n hx hb dX6_behindFight_0 rfl (lv_at hl 2 rfl) ?_
  refine lv_iconst (v := (-1)) hx hb dX6_behindFight_1 (by decide) ?_
  refine lv_icmp_eq (tgt := 31) hx hb dX6_behindFight_2 (by decide) (fun c_1 => ?_) (fun c_1 => ?_)
  · rw [if_pos c_1] at hF
    refine lv_iconst (v := 0) hx hb dX6_behindFight_31 (by decide) ?_
    exact cr_i hC hH hr hF dX6_behindFight_32 hlocks
  · rw [if_neg c_1] at hF
    refine lv_aload_n hx hb dX6_behindFight_5 rfl (lv_at hl 0 rfl) ?_
    refine cg_X6_15 hC hH dX6_behindFight_6 ?_
    refine lv_iload_n hx hb dX6_behindFight_9 rfl (lv_at hl 1 rfl) ?_
    refine lv_iload_n hx hb dX6_behindFight_10 rfl (lv_at hl 2 rfl) ?_
    obtain ⟨r_2, u_3, h_4, hF⟩ := ob_some hF
    refine ccV_i (q0 := 6) (As := [.int a0, .int a1]) (rest := []) hC hH (n_X0_stateOf l G Z Q _ T u u_3 r_2 a0 a1 _ h_4) rfl rfl ⟨wkc_X0_stateOf, wka367, wka407, wka408, wka744⟩ kVX0_stateOf ⟨Nat.le_of_ble_eq_true rfl, Nat.le_of_ble_eq_true rfl⟩ rfl hl.1 rfl (Nat.le_of_ble_eq_true rfl) dX6_behindFight_11 (fun D H locs hH => ?_)
    refine lv_iconst (v := 3) hx hb dX6_behindFight_14 (by decide) ?_
    refine lv_icmp_eq (tgt := 31) hx hb dX6_behindFight_15 (by decide) (fun c_5 => ?_) (fun c_5 => ?_)
    · rw [if_pos c_5] at hF
      refine lv_iconst (v := 0) hx hb dX6_behindFight_31 (by decide) ?_
      exact cr_i hC hH hr hF dX6_behindFight_32 hlocks
    · rw [if_neg c_5] at hF
      refine lv_aload_n hx hb dX6_behindFight_18 rfl (lv_at hl 0 rfl) ?_
      refine cg_X6_15 hC hH dX6_behindFight_19 ?_
      refine lv_iload_n hx hb dX6_behindFight_22 rfl (lv_at hl 1 rfl) ?_
      refine lv_iload_n hx hb dX6_behindFight_23 rfl (lv_at hl 2 rfl) ?_
      obtain ⟨r_6, u_7, h_8, hF⟩ := ob_some hF
      refine ccV_i (q0 := 6) (As := [.int a0, .int a1]) (rest := []) hC hH (n_X0_stateOf l G Z Q _ T u_3 u_7 r_6 a0 a1 _ h_8) rfl rfl ⟨wkc_X0_stateOf, wka367, wka407, wka408, wka744⟩ kVX0_stateOf ⟨Nat.le_of_ble_eq_true rfl, Nat.le_of_ble_eq_true rfl⟩ rfl hl.1 rfl (Nat.le_of_ble_eq_true rfl) dX6_behindFight_24 (fun D H locs hH => ?_)
      refine lv_iconst (v := 4) hx hb dX6_behindFight_27 (by decide) ?_
      refine lv_icmp_ne (tgt := 33) hx hb dX6_behindFight_28 (by decide) (fun c_9 => ?_) (fun c_9 => ?_)
      · rw [if_neg c_9] at hF
        refine lv_aload_n hx hb dX6_behindFight_33 rfl (lv_at hl 0 rfl) ?_
        refine cg_X6_30 hC hH dX6_behindFight_34 ?_
        refine lv_iload_n hx hb dX6_behindFight_37 rfl (lv_at hl 1 rfl) ?_
        refine lv_iload_n hx hb dX6_behindFight_38 rfl (lv_at hl 2 rfl) ?_
        obtain ⟨r_10, u_11, h_12, hF⟩ := ob_some hF
        refine ccS_i (As := [.int a0, .int a1]) (rest := [.ref (Q 62)]) hC hH (n_X0_slot l G Z Q _ T u_7 u_11 r_10 a0 a1 _ h_12) ⟨wkc_X0_slot, wka358, wka387, wka744⟩ kSX0_slot ⟨Nat.le_of_ble_eq_true rfl, Nat.le_of_ble_eq_true rfl⟩ rfl hl.1 rfl (Nat.le_of_ble_eq_true rfl) dX6_behindFight_39 (fun D H locs hH => ?_)
        refine rg_21 hC hH wka361 ⟨Nat.le_of_ble_eq_true rfl, Nat.le_of_ble_eq_true rfl⟩ hl.1 (Nat.le_of_ble_eq_true rfl) ⟨Nat.zero_le _, Nat.zero_le _⟩ dX6_behindFight_42 ?_
        obtain ⟨x_13, e_14, hF⟩ := li_some hF
        refine gx_ti e_14 ?_
        refine lv_istore_n (lv' := [(3, .int x_13), (0, .ref (Q 9)), (1, .int a0), (2, .int a1)]) hx hb dX6_behindFight_45 rfl hl (by decide) rfl (fun ls hl => ?_)
        refine lv_iload_n hx hb dX6_behindFight_46 rfl (lv_at hl 0 rfl) ?_
        refine lv_iconst (v := (-1)) hx hb dX6_behindFight_47 (by decide) ?_
        refine lv_icmp_ne (tgt := 56) hx hb dX6_behindFight_48 (by decide) (fun c_15 => ?_) (fun c_15 => ?_)
        · rw [if_neg c_15] at hF
          refine lv_iload_n hx hb dX6_behindFight_56 rfl (lv_at hl 0 rfl) ?_
          refine lv_aload_n hx hb dX6_behindFight_57 rfl (lv_at hl 1 rfl) ?_
          refine cg_X6_9 hC hH dX6_behindFight_58 ?_
          refine lv_iconst (v := 1) hx hb dX6_behindFight_61 (by decide) ?_
          refine bat (i := 1) (j := 11) hC hH rfl rfl (by decide) wka352 ⟨Nat.le_of_ble_eq_true rfl, Nat.le_of_ble_eq_true rfl⟩ hl.1 (Nat.le_of_ble_eq_true rfl) ⟨Nat.zero_le _, Nat.zero_le _⟩ dX6_behindFight_62 ?_
          refine lv_iadd hx hb dX6_behindFight_65 ?_
          exact cr_i hC hH hr hF dX6_behindFight_66 hlocks
        · rw [if_pos c_15] at hF
          refine lv_ldc (v := 1000000) hx hb hC.2.2.2.1 (hC.2.2.2.2.1 _ wka374) dX6_behindFight_51 ?_
          refine lv_goto (tgt := 66) hx hb dX6_behindFight_53 (by decide) ?_
          exact cr_i hC hH hr hF dX6_behindFight_66 hlocks
      · rw [if_pos c_9] at hF
        refine lv_iconst (v := 0) hx hb dX6_behindFight_31 (by decide) ?_
        exact cr_i hC hH hr hF dX6_behindFight_32 hlocks
def xl_X6_findEarliest_2 : Nat → Int32 → Int32 → MS → (Int32 → Int32 → MS → Option (Int32 × MS)) → Option (Int32 × MS)
  | 0, _, _, _, _ => none
  | n2 + 1, v1, v2, u, K2_107 => ob (x_X0_fightsOf v1 u) (fun r_1 u_2 => (if r_1 ≤ v2 then K2_107 v1 v2 u_2 else ob (x_X0_whiteOf v1 v2 u_2) (fun r_5 u_6 => ob (x_X6_freeFrom r_5 u_6) (fun r_8 u_9 => ob (x_X0_blueOf v1 v2 u_9) (fun r_11 u_12 => ob (x_X6_freeFrom r_11 u_12) (fun r_14 u_15 => li (if r_8 < r_14 then r_14 else r_8) (fun x_17 => ob (x_X0_aheadOf v1 v2 0 u_15) (fun r_19 u_20 => ob (x_X6_behindFight v1 r_19 u_20) (fun r_22 u_23 => ob (x_X0_aheadOf v1 v2 1 u_23) (fun r_25 u_26 => ob (x_X6_behindFight v1 r_25 u_26) (fun r_28 u_29 => ob (x_X0_slot v1 v2 u_29) (fun r_31 u_32 => lu (sf u_32 25 (rs (u_32.2 25) 148 r_31 (if x_17 < (if r_22 < r_28 then r_28 else r_22) then (if r_22 < r_28 then r_28 else r_22) else x_17))) (fun u_34 => li (v2 + 1) (fun x_36 => xl_X6_findEarliest_2 n2 v1 x_36 u_34 K2_107))))))))))))))
def x_X6_findEarliest (a0 : Int32) (u : MS) : Option (Int32 × MS) := xl_X6_findEarliest_2 fuel a0 0 u (fun v1 v2 u => some (0, u))
set_option maxHeartbeats 4000000 in
set_option maxRecDepth 100000 in
theorem n_X6_findEarliest (l : Launch) (G : gG) (Z : gC) (Q : Nat → Nat) (D : Nat × Nat) (T : va_W) (u u1 : MS) (r : Int32) (a0 : Int32) (sz : Nat) (hF : x_X6_findEarliest a0 u = some (r, u1)) : Met l yX6_findEarliest (Cond.code yX6_findEarliest cX6_findEarliest 6 none :: wK) { frames := 3, cells := 0, slots := 0, locals := 68 } (va_Pc [.ref (Q 9), .int a0] (cPM G Z Q D T u sz)) (cQv G Q T u1 (va_A (cW G Q D T u) sz)) 0 0 (va_A (cW G Q D T u) sz) := by
  refine Met.ofW (cc := cX6_findEarliest) (maxL := 6) (ret := none) (by decide) rfl ?_
  intro p e s m args below meth c s₁ B hml hv
  obtain ⟨rfl, rfl, hP, hB, hD0, hE⟩ := hv
  have hr := B.returns
  have hlocks := B.notSynchronized
  have hts := atoms_spec (ws := Cond.code yX6_findEarliest cX6_findEarliest 6 none :: wK) B.pre
  have hD := hD0.self (sz := s.heap.size)
  have hA : ∀ q : Nat, s.heap.size ≤ q → va_A (cW G Q D T u) s.heap.size q := fun q h => Or.inr h
  generalize va_A (cW G Q D T u) s.heap.size = A at hD hA hE ⊢
  have hC : cX p c cX6_findEarliest 6 s m _ RX6 G Z A := ⟨B.exec, B.bytes, hml, findClass_of_methodNamed B.named, fun w h => hts w (List.mem_cons_of_mem _ h), hB, hE, hA⟩
  have hx := hC.1
  have hb := hC.2.1
  have hH : cH G Q D T A u s s.heap [] := ⟨hP, hD, va_S.rf⟩
  have hl := lv_entry ([.ref (Q 9), .int a0]) (n := 6) (Nat.le_of_ble_eq_true rfl)
  rw [lg_entry_eq]
  generalize (lg_sl ([.ref (Q 9), .int a0]) ++ List.replicate (6 - (lg_sl ([.ref (Q 9), .int a0])).length) Slot.unset).toArray = ls at hl ⊢
  have hl : lv_has ls 6 [(0, .ref (Q 9)), (1, .int a0)] := hl
  unfold x_X6_findEarliest at hF
  refine lv_iconst (v := 0) hx hb dX6_findEarliest_0 (by decide) ?_
  refine lv_istore_n (lv' := [(2, .int 0), (0, .ref (Q 9)), (1, .int a0)]) hx hb dX6_findEarliest_1 rfl hl (by decide) rfl (fun ls hl => ?_)
  have hL2 : ∀ (K2_107 : Int32 → Int32 → MS → Option (Int32 × MS)), (∀ (v1 v2 : Int32) (u : MS) (D : Nat × Nat) (H : Heap) (locs : List Loc) (ls : Array Slot), lv_has ls 6 [(0, .ref (Q 9)), (1, .int v1), (2, .int v2)] → cH G Q D T A u s H locs → K2_107 v1 v2 u = some (r, u1) → W p l e (headSpec (Cond.code yX6_findEarliest cX6_findEarliest 6 none :: wK) { frames := 3, cells := 0, slots := 0, locals := 68 }).room s m [.ref (Q 9), .int a0].toArray below meth c H locs 0 0 (MQ below (cQv G Q T u1 A) [.ref (Q 9), .int a0].toArray s 0 0 A) (F0 m 107 ls [])) → ∀ (n2 : Nat) (v1 v2 : Int32) (u : MS) (D : Nat × Nat) (H : Heap) (locs : List Loc) (ls : Array Slot), lv_has ls 6 [(0, .ref (Q 9)), (1, .int v1), (2, .int v2)] → cH G Q D T A u s H locs → xl_X6_findEarliest_2 n2 v1 v2 u K2_107 = some (r, u1) → W p l e (headSpec (Cond.code yX6_findEarliest cX6_findEarliest 6 none :: wK) { frames := 3, cells := 0, slots := 0, locals := 68 }).room s m [.ref (Q 9), .int a0].toArray below meth c H locs 0 0 (MQ below (cQv G Q T u1 A) [.ref (Q 9), .int a0].toArray s 0 0 A) (F0 m 2 ls []) := by
    intro K2_107 hK2_107 n2
    induction n2 with
    | zero => intro v1 v2 u D H locs ls hl hH hF; cases hF
    | succ n2 ih2 =>
      intro v1 v2 u D H locs ls hl hH hF
      unfold xl_X6_findEarliest_2 at hF
      refine lv_iload_n hx hb dX6_findEarliest_2 rfl (lv_at hl 2 rfl) ?_
      refine lv_aload_n hx hb dX6_findEarliest_3 rfl (lv_at hl 0 rfl) ?_
      refine cg_X6_15 hC hH dX6_findEarliest_4 ?_
      refine lv_iload_n hx hb dX6_findEarliest_7 rfl (lv_at hl 1 rfl) ?_
      obtain ⟨r_1, u_2, h_3, hF⟩ := ob_some hF
      refine ccV_i (q0 := 6) (As := [.int v1]) (rest := [.int v2]) hC hH (n_X0_fightsOf l G Z Q _ T u u_2 r_1 v1 _ h_3) rfl rfl ⟨wkc_X0_fightsOf, wka366, wka396, wka397, wka744⟩ kVX0_fightsOf ⟨Nat.le_of_ble_eq_true rfl, Nat.le_of_ble_eq_true rfl⟩ rfl hl.1 rfl (Nat.le_of_ble_eq_true rfl) dX6_findEarliest_8 (fun D H locs hH => ?_)
      refine lv_icmp_ge (tgt := 107) hx hb dX6_findEarliest_11 (by decide) (fun c_4 => ?_) (fun c_4 => ?_)
      · rw [if_pos c_4] at hF
        exact hK2_107 v1 v2 u_2 _ _ _ _ (lv_sub hl [0, 1, 2] rfl) hH hF
      · rw [if_neg c_4] at hF
        refine lv_aload_n hx hb dX6_findEarliest_14 rfl (lv_at hl 0 rfl) ?_
        refine lv_aload_n hx hb dX6_findEarliest_15 rfl (lv_at hl 0 rfl) ?_
        refine cg_X6_15 hC hH dX6_findEarliest_16 ?_
        refine lv_iload_n hx hb dX6_findEarliest_19 rfl (lv_at hl 1 rfl) ?_
        refine lv_iload_n hx hb dX6_findEarliest_20 rfl (lv_at hl 2 rfl) ?_
        obtain ⟨r_5, u_6, h_7, hF⟩ := ob_some hF
        refine ccV_i (q0 := 6) (As := [.int v1, .int v2]) (rest := [.ref (Q 9)]) hC hH (n_X0_whiteOf l G Z Q _ T u_2 u_6 r_5 v1 v2 _ h_7) rfl rfl ⟨wkc_X0_whiteOf, wka359, wka401, wka402, wka744⟩ kVX0_whiteOf ⟨Nat.le_of_ble_eq_true rfl, Nat.le_of_ble_eq_true rfl⟩ rfl hl.1 rfl (Nat.le_of_ble_eq_true rfl) dX6_findEarliest_21 (fun D H locs hH => ?_)
        obtain ⟨r_8, u_9, h_10, hF⟩ := ob_some hF
        refine ccV_i (q0 := 9) (As := [.int r_5]) (rest := []) hC hH (n_X6_freeFrom l G Z Q _ T u_6 u_9 r_8 r_5 _ h_10) rfl rfl ⟨wkc_X6_freeFrom, wka371, wka606, wka607, wka750⟩ kVX6_freeFrom ⟨Nat.le_of_ble_eq_true rfl, Nat.le_of_ble_eq_true rfl⟩ rfl hl.1 rfl (Nat.le_of_ble_eq_true rfl) dX6_findEarliest_24 (fun D H locs hH => ?_)
        refine lv_aload_n hx hb dX6_findEarliest_27 rfl (lv_at hl 0 rfl) ?_
        refine lv_aload_n hx hb dX6_findEarliest_28 rfl (lv_at hl 0 rfl) ?_
        refine cg_X6_15 hC hH dX6_findEarliest_29 ?_
        refine lv_iload_n hx hb dX6_findEarliest_32 rfl (lv_at hl 1 rfl) ?_
        refine lv_iload_n hx hb dX6_findEarliest_33 rfl (lv_at hl 2 rfl) ?_
        obtain ⟨r_11, u_12, h_13, hF⟩ := ob_some hF
        refine ccV_i (q0 := 6) (As := [.int v1, .int v2]) (rest := [.ref (Q 9), .int r_8]) hC hH (n_X0_blueOf l G Z Q _ T u_9 u_12 r_11 v1 v2 _ h_13) rfl rfl ⟨wkc_X0_blueOf, wka363, wka403, wka404, wka744⟩ kVX0_blueOf ⟨Nat.le_of_ble_eq_true rfl, Nat.le_of_ble_eq_true rfl⟩ rfl hl.1 rfl (Nat.le_of_ble_eq_true rfl) dX6_findEarliest_34 (fun D H locs hH => ?_)
        obtain ⟨r_14, u_15, h_16, hF⟩ := ob_some hF
        refine ccV_i (q0 := 9) (As := [.int r_11]) (rest := [.int r_8]) hC hH (n_X6_freeFrom l G Z Q _ T u_12 u_15 r_14 r_11 _ h_16) rfl rfl ⟨wkc_X6_freeFrom, wka371, wka606, wka607, wka750⟩ kVX6_freeFrom ⟨Nat.le_of_ble_eq_true rfl, Nat.le_of_ble_eq_true rfl⟩ rfl hl.1 rfl (Nat.le_of_ble_eq_true rfl) dX6_findEarliest_37 (fun D H locs hH => ?_)
        refine va_mmax hx hb (hC.2.2.1.trans hl.1.symm) hC.2.2.2.1 (hC.2.2.2.2.1 _ wka362) (hC.2.2.2.2.1 _ wka756) (hC.2.2.2.2.1 _ wka760) (hC.2.2.2.2.1 _ wka757) (Nat.le_of_ble_eq_true rfl) (Nat.le_of_ble_eq_true rfl) (Nat.le_of_ble_eq_true rfl) (Nat.le_of_ble_eq_true rfl) dX6_findEarliest_40 ?_
        obtain ⟨x_17, e_18, hF⟩ := li_some hF
        refine gx_ti e_18 ?_
        refine lv_istore_n (lv' := [(3, .int x_17), (0, .ref (Q 9)), (1, .int v1), (2, .int v2)]) hx hb dX6_findEarliest_43 rfl hl (by decide) rfl (fun ls hl => ?_)
        refine lv_aload_n hx hb dX6_findEarliest_44 rfl (lv_at hl 1 rfl) ?_
        refine lv_iload_n hx hb dX6_findEarliest_45 rfl (lv_at hl 2 rfl) ?_
        refine lv_aload_n hx hb dX6_findEarliest_46 rfl (lv_at hl 1 rfl) ?_
        refine cg_X6_15 hC hH dX6_findEarliest_47 ?_
        refine lv_iload_n hx hb dX6_findEarliest_50 rfl (lv_at hl 2 rfl) ?_
        refine lv_iload_n hx hb dX6_findEarliest_51 rfl (lv_at hl 3 rfl) ?_
        refine lv_iconst (v := 0) hx hb dX6_findEarliest_52 (by decide) ?_
        obtain ⟨r_19, u_20, h_21, hF⟩ := ob_some hF
        refine ccV_i (q0 := 6) (As := [.int v1, .int v2, .int 0]) (rest := [.int v1, .ref (Q 9)]) hC hH (n_X0_aheadOf l G Z Q _ T u_15 u_20 r_19 v1 v2 0 _ h_21) rfl rfl ⟨wkc_X0_aheadOf, wka372, wka433, wka434, wka744⟩ kVX0_aheadOf ⟨Nat.le_of_ble_eq_true rfl, Nat.le_of_ble_eq_true rfl⟩ rfl hl.1 rfl (Nat.le_of_ble_eq_true rfl) dX6_findEarliest_53 (fun D H locs hH => ?_)
        obtain ⟨r_22, u_23, h_24, hF⟩ := ob_some hF
        refine ccV_i (q0 := 9) (As := [.int v1, .int r_19]) (rest := []) hC hH (n_X6_behindFight l G Z Q _ T u_20 u_23 r_22 v1 r_19 _ h_24) rfl rfl ⟨wkc_X6_behindFight, wka373, wka608, wka609, wka750⟩ kVX6_behindFight ⟨Nat.le_of_ble_eq_true rfl, Nat.le_of_ble_eq_true rfl⟩ rfl hl.1 rfl (Nat.le_of_ble_eq_true rfl) dX6_findEarliest_56 (fun D H locs hH => ?_)
        refine lv_istore (lv' := [(4, .int r_22), (3, .int x_17), (0, .ref (Q 9)), (1, .int v1), (2, .int v2)]) hx hb dX6_findEarliest_59 hl (by decide) rfl (fun ls hl => ?_)
        refine lv_aload_n hx hb dX6_findEarliest_61 rfl (lv_at hl 2 rfl) ?_
        refine lv_iload_n hx hb dX6_findEarliest_62 rfl (lv_at hl 3 rfl) ?_
        refine lv_aload_n hx hb dX6_findEarliest_63 rfl (lv_at hl 2 rfl) ?_
        refine cg_X6_15 hC hH dX6_findEarliest_64 ?_
        refine lv_iload_n hx hb dX6_findEarliest_67 rfl (lv_at hl 3 rfl) ?_
        refine lv_iload_n hx hb dX6_findEarliest_68 rfl (lv_at hl 4 rfl) ?_
        refine lv_iconst (v := 1) hx hb dX6_findEarliest_69 (by decide) ?_
        obtain ⟨r_25, u_26, h_27, hF⟩ := ob_some hF
        refine ccV_i (q0 := 6) (As := [.int v1, .int v2, .int 1]) (rest := [.int v1, .ref (Q 9)]) hC hH (n_X0_aheadOf l G Z Q _ T u_23 u_26 r_25 v1 v2 1 _ h_27) rfl rfl ⟨wkc_X0_aheadOf, wka372, wka433, wka434, wka744⟩ kVX0_aheadOf ⟨Nat.le_of_ble_eq_true rfl, Nat.le_of_ble_eq_true rfl⟩ rfl hl.1 rfl (Nat.le_of_ble_eq_true rfl) dX6_findEarliest_70 (fun D H locs hH => ?_)
        obtain ⟨r_28, u_29, h_30, hF⟩ := ob_some hF
        refine ccV_i (q0 := 9) (As := [.int v1, .int r_25]) (rest := []) hC hH (n_X6_behindFight l G Z Q _ T u_26 u_29 r_28 v1 r_25 _ h_30) rfl rfl ⟨wkc_X6_behindFight, wka373, wka608, wka609, wka750⟩ kVX6_behindFight ⟨Nat.le_of_ble_eq_true rfl, Nat.le_of_ble_eq_true rfl⟩ rfl hl.1 rfl (Nat.le_of_ble_eq_true rfl) dX6_findEarliest_73 (fun D H locs hH => ?_)
        refine lv_istore (lv' := [(5, .int r_28), (4, .int r_22), (3, .int x_17), (0, .ref (Q 9)), (1, .int v1), (2, .int v2)]) hx hb dX6_findEarliest_76 hl (by decide) rfl (fun ls hl => ?_)
        refine lv_aload_n hx hb dX6_findEarliest_78 rfl (lv_at hl 3 rfl) ?_
        refine cg_X6_39 hC hH dX6_findEarliest_79 ?_
        refine lv_iload_n hx hb dX6_findEarliest_82 rfl (lv_at hl 4 rfl) ?_
        refine lv_iload_n hx hb dX6_findEarliest_83 rfl (lv_at hl 5 rfl) ?_
        obtain ⟨r_31, u_32, h_33, hF⟩ := ob_some hF
        refine ccS_i (As := [.int v1, .int v2]) (rest := [.ref (Q 68)]) hC hH (n_X0_slot l G Z Q _ T u_29 u_32 r_31 v1 v2 _ h_33) ⟨wkc_X0_slot, wka358, wka387, wka744⟩ kSX0_slot ⟨Nat.le_of_ble_eq_true rfl, Nat.le_of_ble_eq_true rfl⟩ rfl hl.1 rfl (Nat.le_of_ble_eq_true rfl) dX6_findEarliest_84 (fun D H locs hH => ?_)
        refine lv_iload_n hx hb dX6_findEarliest_87 rfl (lv_at hl 2 rfl) ?_
        refine lv_iload hx hb dX6_findEarliest_88 (lv_at hl 1 rfl) ?_
        refine lv_iload hx hb dX6_findEarliest_90 (lv_at hl 0 rfl) ?_
        refine va_mmax hx hb (hC.2.2.1.trans hl.1.symm) hC.2.2.2.1 (hC.2.2.2.2.1 _ wka362) (hC.2.2.2.2.1 _ wka756) (hC.2.2.2.2.1 _ wka760) (hC.2.2.2.2.1 _ wka757) (Nat.le_of_ble_eq_true rfl) (Nat.le_of_ble_eq_true rfl) (Nat.le_of_ble_eq_true rfl) (Nat.le_of_ble_eq_true rfl) dX6_findEarliest_92 ?_
        refine va_mmax hx hb (hC.2.2.1.trans hl.1.symm) hC.2.2.2.1 (hC.2.2.2.2.1 _ wka362) (hC.2.2.2.2.1 _ wka756) (hC.2.2.2.2.1 _ wka760) (hC.2.2.2.2.1 _ wka757) (Nat.le_of_ble_eq_true rfl) (Nat.le_of_ble_eq_true rfl) (Nat.le_of_ble_eq_true rfl) (Nat.le_of_ble_eq_true rfl) dX6_findEarliest_95 ?_
        obtain ⟨u_34, e_35, hF⟩ := lu_some hF
        refine rs_24 hC hH e_35 wka354 ⟨Nat.le_of_ble_eq_true rfl, Nat.le_of_ble_eq_true rfl⟩ hl.1 (Nat.le_of_ble_eq_true rfl) ⟨Nat.zero_le _, Nat.zero_le _⟩ dX6_findEarliest_98 (fun H locs hH => ?_)
        obtain ⟨x_36, e_37, hF⟩ := li_some hF
        refine lv_iinc (v := x_36) (lv' := [(2, .int x_36), (5, .int r_28), (4, .int r_22), (3, .int x_17), (0, .ref (Q 9)), (1, .int v1)]) hx hb dX6_findEarliest_101 hl (k := 5) rfl e_37 (by decide) rfl (fun ls hl => ?_)
        refine lv_goto (tgt := 2) hx hb dX6_findEarliest_104 (by decide) ?_
        exact ih2 v1 x_36 u_34 _ _ _ _ (lv_sub hl [4, 5, 0] rfl) hH hF
  refine hL2 _ (fun v1 v2 u D H locs ls hl hH hF => ?_) fuel a0 0 u _ _ _ _ (lv_sub hl [1, 2, 0] rfl) hH hF
  exact cr_v hC hH hr hF dX6_findEarliest_107 hlocks
def xl_X6_takeOutOfOrder_12 : Nat → Int32 → Int32 → MS → (Int32 → Int32 → MS → Option (Int32 × MS)) → Option (Int32 × MS)
  | 0, _, _, _, _ => none
  | n12 + 1, v1, v2, u, K12_44 => (if (u.1 17) ≤ v2 then K12_44 v1 v2 u else lu (sf u 21 (rs (u.2 21) 148 v2 (rg (u.2 21) 148 (v2 + 1)))) (fun u_4 => li (v2 + 1) (fun x_6 => xl_X6_takeOutOfOrder_12 n12 v1 x_6 u_4 K12_44)))
def x_X6_takeOutOfOrder (a0 : Int32) (u : MS) : Option (Int32 × MS) := lu (si u 17 ((u.1 17) - 1)) (fun u_1 => xl_X6_takeOutOfOrder_12 fuel a0 a0 u_1 (fun v1 v2 u => some (0, u)))
set_option maxHeartbeats 4000000 in
set_option maxRecDepth 100000 in
theorem n_X6_takeOutOfOrder (l : Launch) (G : gG) (Z : gC) (Q : Nat → Nat) (D : Nat × Nat) (T : va_W) (u u1 : MS) (r : Int32) (a0 : Int32) (sz : Nat) (hF : x_X6_takeOutOfOrder a0 u = some (r, u1)) : Met l yX6_takeOutOfOrder (Cond.code yX6_takeOutOfOrder cX6_takeOutOfOrder 3 none :: wK) { frames := 1, cells := 0, slots := 0, locals := 22 } (va_Pc [.ref (Q 9), .int a0] (cPM G Z Q D T u sz)) (cQv G Q T u1 (va_A (cW G Q D T u) sz)) 0 0 (va_A (cW G Q D T u) sz) := by
  refine Met.ofW (cc := cX6_takeOutOfOrder) (maxL := 3) (ret := none) (by decide) rfl ?_
  intro p e s m args below meth c s₁ B hml hv
  obtain ⟨rfl, rfl, hP, hB, hD0, hE⟩ := hv
  have hr := B.returns
  have hlocks := B.notSynchronized
  have hts := atoms_spec (ws := Cond.code yX6_takeOutOfOrder cX6_takeOutOfOrder 3 none :: wK) B.pre
  have hD := hD0.self (sz := s.heap.size)
  have hA : ∀ q : Nat, s.heap.size ≤ q → va_A (cW G Q D T u) s.heap.size q := fun q h => Or.inr h
  generalize va_A (cW G Q D T u) s.heap.size = A at hD hA hE ⊢
  have hC : cX p c cX6_takeOutOfOrder 3 s m _ RX6 G Z A := ⟨B.exec, B.bytes, hml, findClass_of_methodNamed B.named, fun w h => hts w (List.mem_cons_of_mem _ h), hB, hE, hA⟩
  have hx := hC.1
  have hb := hC.2.1
  have hH : cH G Q D T A u s s.heap [] := ⟨hP, hD, va_S.rf⟩
  have hl := lv_entry ([.ref (Q 9), .int a0]) (n := 3) (Nat.le_of_ble_eq_true rfl)
  rw [lg_entry_eq]
  generalize (lg_sl ([.ref (Q 9), .int a0]) ++ List.replicate (3 - (lg_sl ([.ref (Q 9), .int a0])).length) Slot.unset).toArray = ls at hl ⊢
  have hl : lv_has ls 3 [(0, .ref (Q 9)), (1, .int a0)] := hl
  unfold x_X6_takeOutOfOrder at hF
  refine lv_aload_n hx hb dX6_takeOutOfOrder_0 rfl (lv_at hl 0 rfl) ?_
  refine lv_dup hx hb dX6_takeOutOfOrder_1 rfl ?_
  refine cg_X6_84 hC hH dX6_takeOutOfOrder_2 ?_
  refine lv_iconst (v := 1) hx hb dX6_takeOutOfOrder_5 (by decide) ?_
  refine lv_isub hx hb dX6_takeOutOfOrder_6 ?_
  obtain ⟨u_1, e_2, hF⟩ := lu_some hF
  refine cp_X6_84 hC hH e_2 dX6_takeOutOfOrder_7 (fun H locs hH => ?_)
  refine lv_iload_n hx hb dX6_takeOutOfOrder_10 rfl (lv_at hl 1 rfl) ?_
  refine lv_istore_n (lv' := [(2, .int a0), (0, .ref (Q 9)), (1, .int a0)]) hx hb dX6_takeOutOfOrder_11 rfl hl (by decide) rfl (fun ls hl => ?_)
  have hL12 : ∀ (K12_44 : Int32 → Int32 → MS → Option (Int32 × MS)), (∀ (v1 v2 : Int32) (u : MS) (D : Nat × Nat) (H : Heap) (locs : List Loc) (ls : Array Slot), lv_has ls 3 [(0, .ref (Q 9)), (1, .int v1), (2, .int v2)] → cH G Q D T A u s H locs → K12_44 v1 v2 u = some (r, u1) → W p l e (headSpec (Cond.code yX6_takeOutOfOrder cX6_takeOutOfOrder 3 none :: wK) { frames := 1, cells := 0, slots := 0, locals := 22 }).room s m [.ref (Q 9), .int a0].toArray below meth c H locs 0 0 (MQ below (cQv G Q T u1 A) [.ref (Q 9), .int a0].toArray s 0 0 A) (F0 m 44 ls [])) → ∀ (n12 : Nat) (v1 v2 : Int32) (u : MS) (D : Nat × Nat) (H : Heap) (locs : List Loc) (ls : Array Slot), lv_has ls 3 [(0, .ref (Q 9)), (1, .int v1), (2, .int v2)] → cH G Q D T A u s H locs → xl_X6_takeOutOfOrder_12 n12 v1 v2 u K12_44 = some (r, u1) → W p l e (headSpec (Cond.code yX6_takeOutOfOrder cX6_takeOutOfOrder 3 none :: wK) { frames := 1, cells := 0, slots := 0, locals := 22 }).room s m [.ref (Q 9), .int a0].toArray below meth c H locs 0 0 (MQ below (cQv G Q T u1 A) [.ref (Q 9), .int a0].toArray s 0 0 A) (F0 m 12 ls []) := by
    intro K12_44 hK12_44 n12
    induction n12 with
    | zero => intro v1 v2 u D H locs ls hl hH hF; cases hF
    | succ n12 ih12 =>
      intro v1 v2 u D H locs ls hl hH hF
      unfold xl_X6_takeOutOfOrder_12 at hF
      refine lv_iload_n hx hb dX6_takeOutOfOrder_12 rfl (lv_at hl 2 rfl) ?_
      refine lv_aload_n hx hb dX6_takeOutOfOrder_13 rfl (lv_at hl 0 rfl) ?_
      refine cg_X6_84 hC hH dX6_takeOutOfOrder_14 ?_
      refine lv_icmp_ge (tgt := 44) hx hb dX6_takeOutOfOrder_17 (by decide) (fun c_3 => ?_) (fun c_3 => ?_)
      · rw [if_pos c_3] at hF
        exact hK12_44 v1 v2 u _ _ _ _ (lv_sub hl [0, 1, 2] rfl) hH hF
      · rw [if_neg c_3] at hF
        refine lv_aload_n hx hb dX6_takeOutOfOrder_20 rfl (lv_at hl 0 rfl) ?_
        refine cg_X6_26 hC hH dX6_takeOutOfOrder_21 ?_
        refine lv_iload_n hx hb dX6_takeOutOfOrder_24 rfl (lv_at hl 2 rfl) ?_
        refine lv_aload_n hx hb dX6_takeOutOfOrder_25 rfl (lv_at hl 0 rfl) ?_
        refine cg_X6_26 hC hH dX6_takeOutOfOrder_26 ?_
        refine lv_iload_n hx hb dX6_takeOutOfOrder_29 rfl (lv_at hl 2 rfl) ?_
        refine lv_iconst (v := 1) hx hb dX6_takeOutOfOrder_30 (by decide) ?_
        refine lv_iadd hx hb dX6_takeOutOfOrder_31 ?_
        refine rg_20 hC hH wka361 ⟨Nat.le_of_ble_eq_true rfl, Nat.le_of_ble_eq_true rfl⟩ hl.1 (Nat.le_of_ble_eq_true rfl) ⟨Nat.zero_le _, Nat.zero_le _⟩ dX6_takeOutOfOrder_32 ?_
        obtain ⟨u_4, e_5, hF⟩ := lu_some hF
        refine rs_20 hC hH e_5 wka354 ⟨Nat.le_of_ble_eq_true rfl, Nat.le_of_ble_eq_true rfl⟩ hl.1 (Nat.le_of_ble_eq_true rfl) ⟨Nat.zero_le _, Nat.zero_le _⟩ dX6_takeOutOfOrder_35 (fun H locs hH => ?_)
        obtain ⟨x_6, e_7, hF⟩ := li_some hF
        refine lv_iinc (v := x_6) (lv' := [(2, .int x_6), (0, .ref (Q 9)), (1, .int v1)]) hx hb dX6_takeOutOfOrder_38 hl (k := 2) rfl e_7 (by decide) rfl (fun ls hl => ?_)
        refine lv_goto (tgt := 12) hx hb dX6_takeOutOfOrder_41 (by decide) ?_
        exact ih12 v1 x_6 u_4 _ _ _ _ (lv_sub hl [1, 2, 0] rfl) hH hF
  refine hL12 _ (fun v1 v2 u D H locs ls hl hH hF => ?_) fuel a0 a0 u_1 _ _ _ _ (lv_sub hl [1, 2, 0] rfl) hH hF
  exact cr_v hC hH hr hF dX6_takeOutOfOrder_44 hlocks
def xl_X6_firstThatMay_2 : Nat → Int32 → Int32 → MS → (Int32 → Int32 → MS → Option (Int32 × MS)) → Option (Int32 × MS)
  | 0, _, _, _, _ => none
  | n2 + 1, v1, v2, u, K2_37 => (if (u.1 17) ≤ v2 then K2_37 v1 v2 u else (if v1 < (rg (u.2 25) 148 (rg (u.2 21) 148 v2)) then li (v2 + 1) (fun x_3 => xl_X6_firstThatMay_2 n2 v1 x_3 u K2_37) else some (v2, u)))
def x_X6_firstThatMay (a0 : Int32) (u : MS) : Option (Int32 × MS) := xl_X6_firstThatMay_2 fuel a0 0 u (fun v1 v2 u => some (-1, u))
set_option maxHeartbeats 4000000 in
set_option maxRecDepth 100000 in
theorem n_X6_firstThatMay (l : Launch) (G : gG) (Z : gC) (Q : Nat → Nat) (D : Nat × Nat) (T : va_W) (u u1 : MS) (r : Int32) (a0 : Int32) (sz : Nat) (hF : x_X6_firstThatMay a0 u = some (r, u1)) : Met l yX6_firstThatMay (Cond.code yX6_firstThatMay cX6_firstThatMay 3 (some .int) :: wK) { frames := 1, cells := 0, slots := 0, locals := 22 } (va_Pc [.ref (Q 9), .int a0] (cPM G Z Q D T u sz)) (cQi G Q T u1 r (va_A (cW G Q D T u) sz)) 0 0 (va_A (cW G Q D T u) sz) := by
  refine Met.ofW (cc := cX6_firstThatMay) (maxL := 3) (ret := (some .int)) (by decide) rfl ?_
  intro p e s m args below meth c s₁ B hml hv
  obtain ⟨rfl, rfl, hP, hB, hD0, hE⟩ := hv
  have hr := B.returns
  have hlocks := B.notSynchronized
  have hts := atoms_spec (ws := Cond.code yX6_firstThatMay cX6_firstThatMay 3 (some .int) :: wK) B.pre
  have hD := hD0.self (sz := s.heap.size)
  have hA : ∀ q : Nat, s.heap.size ≤ q → va_A (cW G Q D T u) s.heap.size q := fun q h => Or.inr h
  generalize va_A (cW G Q D T u) s.heap.size = A at hD hA hE ⊢
  have hC : cX p c cX6_firstThatMay 3 s m _ RX6 G Z A := ⟨B.exec, B.bytes, hml, findClass_of_methodNamed B.named, fun w h => hts w (List.mem_cons_of_mem _ h), hB, hE, hA⟩
  have hx := hC.1
  have hb := hC.2.1
  have hH : cH G Q D T A u s s.heap [] := ⟨hP, hD, va_S.rf⟩
  have hl := lv_entry ([.ref (Q 9), .int a0]) (n := 3) (Nat.le_of_ble_eq_true rfl)
  rw [lg_entry_eq]
  generalize (lg_sl ([.ref (Q 9), .int a0]) ++ List.replicate (3 - (lg_sl ([.ref (Q 9), .int a0])).length) Slot.unset).toArray = ls at hl ⊢
  have hl : lv_has ls 3 [(0, .ref (Q 9)), (1, .int a0)] := hl
  unfold x_X6_firstThatMay at hF
  refine lv_iconst (v := 0) hx hb dX6_firstThatMay_0 (by decide) ?_
  refine lv_istore_n (lv' := [(2, .int 0), (0, .ref (Q 9)), (1, .int a0)]) hx hb dX6_firstThatMay_1 rfl hl (by decide) rfl (fun ls hl => ?_)
  have hL2 : ∀ (K2_37 : Int32 → Int32 → MS → Option (Int32 × MS)), (∀ (v1 v2 : Int32) (u : MS) (D : Nat × Nat) (H : Heap) (locs : List Loc) (ls : Array Slot), lv_has ls 3 [(0, .ref (Q 9)), (1, .int v1), (2, .int v2)] → cH G Q D T A u s H locs → K2_37 v1 v2 u = some (r, u1) → W p l e (headSpec (Cond.code yX6_firstThatMay cX6_firstThatMay 3 (some .int) :: wK) { frames := 1, cells := 0, slots := 0, locals := 22 }).room s m [.ref (Q 9), .int a0].toArray below meth c H locs 0 0 (MQ below (cQi G Q T u1 r A) [.ref (Q 9), .int a0].toArray s 0 0 A) (F0 m 37 ls [])) → ∀ (n2 : Nat) (v1 v2 : Int32) (u : MS) (D : Nat × Nat) (H : Heap) (locs : List Loc) (ls : Array Slot), lv_has ls 3 [(0, .ref (Q 9)), (1, .int v1), (2, .int v2)] → cH G Q D T A u s H locs → xl_X6_firstThatMay_2 n2 v1 v2 u K2_37 = some (r, u1) → W p l e (headSpec (Cond.code yX6_firstThatMay cX6_firstThatMay 3 (some .int) :: wK) { frames := 1, cells := 0, slots := 0, locals := 22 }).room s m [.ref (Q 9), .int a0].toArray below meth c H locs 0 0 (MQ below (cQi G Q T u1 r A) [.ref (Q 9), .int a0].toArray s 0 0 A) (F0 m 2 ls []) := by
    intro K2_37 hK2_37 n2
    induction n2 with
    | zero => intro v1 v2 u D H locs ls hl hH hF; cases hF
    | succ n2 ih2 =>
      intro v1 v2 u D H locs ls hl hH hF
      unfold xl_X6_firstThatMay_2 at hF
      refine lv_iload_n hx hb dX6_firstThatMay_2 rfl (lv_at hl 2 rfl) ?_
      refine lv_aload_n hx hb dX6_firstThatMay_3 rfl (lv_at hl 0 rfl) ?_
      refine cg_X6_84 hC hH dX6_firstThatMay_4 ?_
      refine lv_icmp_ge (tgt := 37) hx hb dX6_firstThatMay_7 (by decide) (fun c_1 => ?_) (fun c_1 => ?_)
      · rw [if_pos c_1] at hF
        exact hK2_37 v1 v2 u _ _ _ _ (lv_sub hl [0, 1, 2] rfl) hH hF
      · rw [if_neg c_1] at hF
        refine lv_aload_n hx hb dX6_firstThatMay_10 rfl (lv_at hl 0 rfl) ?_
        refine cg_X6_39 hC hH dX6_firstThatMay_11 ?_
        refine lv_aload_n hx hb dX6_firstThatMay_14 rfl (lv_at hl 0 rfl) ?_
        refine cg_X6_26 hC hH dX6_firstThatMay_15 ?_
        refine lv_iload_n hx hb dX6_firstThatMay_18 rfl (lv_at hl 2 rfl) ?_
        refine rg_20 hC hH wka361 ⟨Nat.le_of_ble_eq_true rfl, Nat.le_of_ble_eq_true rfl⟩ hl.1 (Nat.le_of_ble_eq_true rfl) ⟨Nat.zero_le _, Nat.zero_le _⟩ dX6_firstThatMay_19 ?_
        refine rg_24 hC hH wka361 ⟨Nat.le_of_ble_eq_true rfl, Nat.le_of_ble_eq_true rfl⟩ hl.1 (Nat.le_of_ble_eq_true rfl) ⟨Nat.zero_le _, Nat.zero_le _⟩ dX6_firstThatMay_22 ?_
        refine lv_iload_n hx hb dX6_firstThatMay_25 rfl (lv_at hl 1 rfl) ?_
        refine lv_icmp_gt (tgt := 31) hx hb dX6_firstThatMay_26 (by decide) (fun c_2 => ?_) (fun c_2 => ?_)
        · rw [if_pos c_2] at hF
          obtain ⟨x_3, e_4, hF⟩ := li_some hF
          refine lv_iinc (v := x_3) (lv' := [(2, .int x_3), (0, .ref (Q 9)), (1, .int v1)]) hx hb dX6_firstThatMay_31 hl (k := 2) rfl e_4 (by decide) rfl (fun ls hl => ?_)
          refine lv_goto (tgt := 2) hx hb dX6_firstThatMay_34 (by decide) ?_
          exact ih2 v1 x_3 u _ _ _ _ (lv_sub hl [1, 2, 0] rfl) hH hF
        · rw [if_neg c_2] at hF
          refine lv_iload_n hx hb dX6_firstThatMay_29 rfl (lv_at hl 2 rfl) ?_
          exact cr_i hC hH hr hF dX6_firstThatMay_30 hlocks
  refine hL2 _ (fun v1 v2 u D H locs ls hl hH hF => ?_) fuel a0 0 u _ _ _ _ (lv_sub hl [1, 2, 0] rfl) hH hF
  refine lv_iconst (v := (-1)) hx hb dX6_firstThatMay_37 (by decide) ?_
  exact cr_i hC hH hr hF dX6_firstThatMay_38 hlocks
def xl_X6_putFrom_2 : Nat → Int32 → Int32 → Int32 → MS → (Int32 → Int32 → Int32 → MS → Option (Int32 × MS)) → Option (Int32 × MS)
  | 0, _, _, _, _, _ => none
  | n2 + 1, v1, v2, v3, u, K2_85 => (if v1 ≤ v3 then K2_85 v1 v2 v3 u else (if v2 < (rg (u.2 23) 4 v3) then (if (-1 : Int32) = (-1) then li (v3 + 1) (fun x_4 => xl_X6_putFrom_2 n2 v1 v2 x_4 u K2_85) else li (rg (u.2 21) 148 (-1)) (fun x_6 => li (x_6 / 37) (fun x_8 => ob (x_X6_put x_8 (x_6 - x_6 / 37 * 37) v3 v2 u) (fun r_10 u_11 => ob (x_X6_takeOutOfOrder (-1) u_11) (fun r_13 u_14 => ob (x_X6_findEarliest x_8 u_14) (fun r_16 u_17 => li (v3 + 1) (fun x_19 => xl_X6_putFrom_2 n2 v1 v2 x_19 u_17 K2_85))))))) else ob (x_X6_firstThatMay v2 u) (fun r_21 u_22 => (if r_21 = (-1) then li (v3 + 1) (fun x_25 => xl_X6_putFrom_2 n2 v1 v2 x_25 u_22 K2_85) else li (rg (u_22.2 21) 148 r_21) (fun x_27 => li (x_27 / 37) (fun x_29 => ob (x_X6_put x_29 (x_27 - x_27 / 37 * 37) v3 v2 u_22) (fun r_31 u_32 => ob (x_X6_takeOutOfOrder r_21 u_32) (fun r_34 u_35 => ob (x_X6_findEarliest x_29 u_35) (fun r_37 u_38 => li (v3 + 1) (fun x_40 => xl_X6_putFrom_2 n2 v1 v2 x_40 u_38 K2_85))))))))))
def x_X6_putFrom (a0 : Int32) (a1 : Int32) (u : MS) : Option (Int32 × MS) := xl_X6_putFrom_2 fuel a0 a1 0 u (fun v1 v2 v3 u => some (0, u))
set_option maxHeartbeats 4000000 in
set_option maxRecDepth 100000 in
theorem n_X6_putFrom (l : Launch) (G : gG) (Z : gC) (Q : Nat → Nat) (D : Nat × Nat) (T : va_W) (u u1 : MS) (r : Int32) (a0 : Int32) (a1 : Int32) (sz : Nat) (hF : x_X6_putFrom a0 a1 u = some (r, u1)) : Met l yX6_putFrom (Cond.code yX6_putFrom cX6_putFrom 7 none :: wK) { frames := 4, cells := 0, slots := 0, locals := 93 } (va_Pc [.ref (Q 9), .int a0, .int a1] (cPM G Z Q D T u sz)) (cQv G Q T u1 (va_A (cW G Q D T u) sz)) 0 0 (va_A (cW G Q D T u) sz) := by
  refine Met.ofW (cc := cX6_putFrom) (maxL := 7) (ret := none) (by decide) rfl ?_
  intro p e s m args below meth c s₁ B hml hv
  obtain ⟨rfl, rfl, hP, hB, hD0, hE⟩ := hv
  have hr := B.returns
  have hlocks := B.notSynchronized
  have hts := atoms_spec (ws := Cond.code yX6_putFrom cX6_putFrom 7 none :: wK) B.pre
  have hD := hD0.self (sz := s.heap.size)
  have hA : ∀ q : Nat, s.heap.size ≤ q → va_A (cW G Q D T u) s.heap.size q := fun q h => Or.inr h
  generalize va_A (cW G Q D T u) s.heap.size = A at hD hA hE ⊢
  have hC : cX p c cX6_putFrom 7 s m _ RX6 G Z A := ⟨B.exec, B.bytes, hml, findClass_of_methodNamed B.named, fun w h => hts w (List.mem_cons_of_mem _ h), hB, hE, hA⟩
  have hx := hC.1
  have hb := hC.2.1
  have hH : cH G Q D T A u s s.heap [] := ⟨hP, hD, va_S.rf⟩
  have hl := lv_entry ([.ref (Q 9), .int a0, .int a1]) (n := 7) (Nat.le_of_ble_eq_true rfl)
  rw [lg_entry_eq]
  generalize (lg_sl ([.ref (Q 9), .int a0, .int a1]) ++ List.replicate (7 - (lg_sl ([.ref (Q 9), .int a0, .int a1])).length) Slot.unset).toArray = ls at hl ⊢
  have hl : lv_has ls 7 [(0, .ref (Q 9)), (1, .int a0), (2, .int a1)] := hl
  unfold x_X6_putFrom at hF
  refine lv_iconst (v := 0) hx hb dX6_putFrom_0 (by decide) ?_
  refine lv_istore_n (lv' := [(3, .int 0), (0, .ref (Q 9)), (1, .int a0), (2, .int a1)]) hx hb dX6_putFrom_1 rfl hl (by decide) rfl (fun ls hl => ?_)
  have hL2 : ∀ (K2_85 : Int32 → Int32 → Int32 → MS → Option (Int32 × MS)), (∀ (v1 v2 v3 : Int32) (u : MS) (D : Nat × Nat) (H : Heap) (locs : List Loc) (ls : Array Slot), lv_has ls 7 [(0, .ref (Q 9)), (1, .int v1), (2, .int v2), (3, .int v3)] → cH G Q D T A u s H locs → K2_85 v1 v2 v3 u = some (r, u1) → W p l e (headSpec (Cond.code yX6_putFrom cX6_putFrom 7 none :: wK) { frames := 4, cells := 0, slots := 0, locals := 93 }).room s m [.ref (Q 9), .int a0, .int a1].toArray below meth c H locs 0 0 (MQ below (cQv G Q T u1 A) [.ref (Q 9), .int a0, .int a1].toArray s 0 0 A) (F0 m 85 ls [])) → ∀ (n2 : Nat) (v1 v2 v3 : Int32) (u : MS) (D : Nat × Nat) (H : Heap) (locs : List Loc) (ls : Array Slot), lv_has ls 7 [(0, .ref (Q 9)), (1, .int v1), (2, .int v2), (3, .int v3)] → cH G Q D T A u s H locs → xl_X6_putFrom_2 n2 v1 v2 v3 u K2_85 = some (r, u1) → W p l e (headSpec (Cond.code yX6_putFrom cX6_putFrom 7 none :: wK) { frames := 4, cells := 0, slots := 0, locals := 93 }).room s m [.ref (Q 9), .int a0, .int a1].toArray below meth c H locs 0 0 (MQ below (cQv G Q T u1 A) [.ref (Q 9), .int a0, .int a1].toArray s 0 0 A) (F0 m 2 ls []) := by
    intro K2_85 hK2_85 n2
    induction n2 with
    | zero => intro v1 v2 v3 u D H locs ls hl hH hF; cases hF
    | succ n2 ih2 =>
      intro v1 v2 v3 u D H locs ls hl hH hF
      unfold xl_X6_putFrom_2 at hF
      refine lv_iload_n hx hb dX6_putFrom_2 rfl (lv_at hl 3 rfl) ?_
      refine lv_iload_n hx hb dX6_putFrom_3 rfl (lv_at hl 1 rfl) ?_
      refine lv_icmp_ge (tgt := 85) hx hb dX6_putFrom_4 (by decide) (fun c_1 => ?_) (fun c_1 => ?_)
      · rw [if_pos c_1] at hF
        exact hK2_85 v1 v2 v3 u _ _ _ _ (lv_sub hl [0, 1, 2, 3] rfl) hH hF
      · rw [if_neg c_1] at hF
        refine lv_aload_n hx hb dX6_putFrom_7 rfl (lv_at hl 0 rfl) ?_
        refine cg_X6_33 hC hH dX6_putFrom_8 ?_
        refine lv_iload_n hx hb dX6_putFrom_11 rfl (lv_at hl 3 rfl) ?_
        refine rg_22 hC hH wka361 ⟨Nat.le_of_ble_eq_true rfl, Nat.le_of_ble_eq_true rfl⟩ hl.1 (Nat.le_of_ble_eq_true rfl) ⟨Nat.zero_le _, Nat.zero_le _⟩ dX6_putFrom_12 ?_
        refine lv_iload_n hx hb dX6_putFrom_15 rfl (lv_at hl 2 rfl) ?_
        refine lv_icmp_gt (tgt := 27) hx hb dX6_putFrom_16 (by decide) (fun c_2 => ?_) (fun c_2 => ?_)
        · rw [if_pos c_2] at hF
          refine lv_iconst (v := (-1)) hx hb dX6_putFrom_27 (by decide) ?_
          refine lv_istore (lv' := [(4, .int (-1)), (0, .ref (Q 9)), (1, .int v1), (2, .int v2), (3, .int v3)]) hx hb dX6_putFrom_28 hl (by decide) rfl (fun ls hl => ?_)
          refine lv_iload hx hb dX6_putFrom_30 (lv_at hl 0 rfl) ?_
          refine lv_iconst (v := (-1)) hx hb dX6_putFrom_32 (by decide) ?_
          refine lv_icmp_eq (tgt := 79) hx hb dX6_putFrom_33 (by decide) (fun c_3 => ?_) (fun c_3 => ?_)
          · rw [if_pos c_3] at hF
            obtain ⟨x_4, e_5, hF⟩ := li_some hF
            refine lv_iinc (v := x_4) (lv' := [(3, .int x_4), (4, .int (-1)), (0, .ref (Q 9)), (1, .int v1), (2, .int v2)]) hx hb dX6_putFrom_79 hl (k := 4) rfl e_5 (by decide) rfl (fun ls hl => ?_)
            refine lv_goto (tgt := 2) hx hb dX6_putFrom_82 (by decide) ?_
            exact ih2 v1 v2 x_4 u _ _ _ _ (lv_sub hl [2, 3, 4, 0] rfl) hH hF
          · rw [if_neg c_3] at hF
            refine lv_aload_n hx hb dX6_putFrom_36 rfl (lv_at hl 1 rfl) ?_
            refine cg_X6_26 hC hH dX6_putFrom_37 ?_
            refine lv_iload hx hb dX6_putFrom_40 (lv_at hl 0 rfl) ?_
            refine rg_20 hC hH wka361 ⟨Nat.le_of_ble_eq_true rfl, Nat.le_of_ble_eq_true rfl⟩ hl.1 (Nat.le_of_ble_eq_true rfl) ⟨Nat.zero_le _, Nat.zero_le _⟩ dX6_putFrom_42 ?_
            obtain ⟨x_6, e_7, hF⟩ := li_some hF
            refine gx_ti e_7 ?_
            refine lv_istore (lv' := [(5, .int x_6), (4, .int (-1)), (0, .ref (Q 9)), (1, .int v1), (2, .int v2), (3, .int v3)]) hx hb dX6_putFrom_45 hl (by decide) rfl (fun ls hl => ?_)
            refine lv_iload hx hb dX6_putFrom_47 (lv_at hl 0 rfl) ?_
            refine lv_bipush (v := 37) hx hb dX6_putFrom_49 (by decide) ?_
            refine lv_idiv hx hb dX6_putFrom_51 (by decide) ?_
            obtain ⟨x_8, e_9, hF⟩ := li_some hF
            refine gx_ti e_9 ?_
            refine lv_istore (lv' := [(6, .int x_8), (5, .int x_6), (4, .int (-1)), (0, .ref (Q 9)), (1, .int v1), (2, .int v2), (3, .int v3)]) hx hb dX6_putFrom_52 hl (by decide) rfl (fun ls hl => ?_)
            refine lv_aload_n hx hb dX6_putFrom_54 rfl (lv_at hl 3 rfl) ?_
            refine lv_iload hx hb dX6_putFrom_55 (lv_at hl 0 rfl) ?_
            refine lv_iload hx hb dX6_putFrom_57 (lv_at hl 1 rfl) ?_
            refine lv_bipush (v := 37) hx hb dX6_putFrom_59 (by decide) ?_
            refine lv_irem hx hb dX6_putFrom_61 (by decide) ?_
            refine lv_iload_n hx hb dX6_putFrom_62 rfl (lv_at hl 6 rfl) ?_
            refine lv_iload_n hx hb dX6_putFrom_63 rfl (lv_at hl 5 rfl) ?_
            obtain ⟨r_10, u_11, h_12, hF⟩ := ob_some hF
            refine ccV_v (q0 := 9) (As := [.int x_8, .int (x_6 - x_6 / 37 * 37), .int v3, .int v2]) (rest := []) hC hH (n_X6_put l G Z Q _ T u u_11 r_10 x_8 (x_6 - x_6 / 37 * 37) v3 v2 _ h_12) rfl rfl ⟨wkc_X6_put, wka357, wka586, wka587, wka750⟩ kVX6_put ⟨Nat.le_of_ble_eq_true rfl, Nat.le_of_ble_eq_true rfl⟩ rfl hl.1 rfl (Nat.le_of_ble_eq_true rfl) dX6_putFrom_64 (fun D H locs hH => ?_)
            refine lv_aload_n hx hb dX6_putFrom_67 rfl (lv_at hl 3 rfl) ?_
            refine lv_iload hx hb dX6_putFrom_68 (lv_at hl 2 rfl) ?_
            obtain ⟨r_13, u_14, h_15, hF⟩ := ob_some hF
            refine ccV_v (q0 := 9) (As := [.int (-1)]) (rest := []) hC hH (n_X6_takeOutOfOrder l G Z Q _ T u_11 u_14 r_13 (-1) _ h_15) rfl rfl ⟨wkc_X6_takeOutOfOrder, wka377, wka598, wka599, wka750⟩ kVX6_takeOutOfOrder ⟨Nat.le_of_ble_eq_true rfl, Nat.le_of_ble_eq_true rfl⟩ rfl hl.1 rfl (Nat.le_of_ble_eq_true rfl) dX6_putFrom_70 (fun D H locs hH => ?_)
            refine lv_aload_n hx hb dX6_putFrom_73 rfl (lv_at hl 3 rfl) ?_
            refine lv_iload hx hb dX6_putFrom_74 (lv_at hl 0 rfl) ?_
            obtain ⟨r_16, u_17, h_18, hF⟩ := ob_some hF
            refine ccV_v (q0 := 9) (As := [.int x_8]) (rest := []) hC hH (n_X6_findEarliest l G Z Q _ T u_14 u_17 r_16 x_8 _ h_18) rfl rfl ⟨wkc_X6_findEarliest, wka370, wka604, wka605, wka750⟩ kVX6_findEarliest ⟨Nat.le_of_ble_eq_true rfl, Nat.le_of_ble_eq_true rfl⟩ rfl hl.1 rfl (Nat.le_of_ble_eq_true rfl) dX6_putFrom_76 (fun D H locs hH => ?_)
            obtain ⟨x_19, e_20, hF⟩ := li_some hF
            refine lv_iinc (v := x_19) (lv' := [(3, .int x_19), (6, .int x_8), (5, .int x_6), (4, .int (-1)), (0, .ref (Q 9)), (1, .int v1), (2, .int v2)]) hx hb dX6_putFrom_79 hl (k := 6) rfl e_20 (by decide) rfl (fun ls hl => ?_)
            refine lv_goto (tgt := 2) hx hb dX6_putFrom_82 (by decide) ?_
            exact ih2 v1 v2 x_19 u_17 _ _ _ _ (lv_sub hl [4, 5, 6, 0] rfl) hH hF
        · rw [if_neg c_2] at hF
          refine lv_aload_n hx hb dX6_putFrom_19 rfl (lv_at hl 0 rfl) ?_
          refine lv_iload_n hx hb dX6_putFrom_20 rfl (lv_at hl 2 rfl) ?_
          obtain ⟨r_21, u_22, h_23, hF⟩ := ob_some hF
          refine ccV_i (q0 := 9) (As := [.int v2]) (rest := []) hC hH (n_X6_firstThatMay l G Z Q _ T u u_22 r_21 v2 _ h_23) rfl rfl ⟨wkc_X6_firstThatMay, wka376, wka596, wka597, wka750⟩ kVX6_firstThatMay ⟨Nat.le_of_ble_eq_true rfl, Nat.le_of_ble_eq_true rfl⟩ rfl hl.1 rfl (Nat.le_of_ble_eq_true rfl) dX6_putFrom_21 (fun D H locs hH => ?_)
          refine lv_goto (tgt := 28) hx hb dX6_putFrom_24 (by decide) ?_
          refine lv_istore (lv' := [(4, .int r_21), (0, .ref (Q 9)), (1, .int v1), (2, .int v2), (3, .int v3)]) hx hb dX6_putFrom_28 hl (by decide) rfl (fun ls hl => ?_)
          refine lv_iload hx hb dX6_putFrom_30 (lv_at hl 0 rfl) ?_
          refine lv_iconst (v := (-1)) hx hb dX6_putFrom_32 (by decide) ?_
          refine lv_icmp_eq (tgt := 79) hx hb dX6_putFrom_33 (by decide) (fun c_24 => ?_) (fun c_24 => ?_)
          · rw [if_pos c_24] at hF
            obtain ⟨x_25, e_26, hF⟩ := li_some hF
            refine lv_iinc (v := x_25) (lv' := [(3, .int x_25), (4, .int r_21), (0, .ref (Q 9)), (1, .int v1), (2, .int v2)]) hx hb dX6_putFrom_79 hl (k := 4) rfl e_26 (by decide) rfl (fun ls hl => ?_)
            refine lv_goto (tgt := 2) hx hb dX6_putFrom_82 (by decide) ?_
            exact ih2 v1 v2 x_25 u_22 _ _ _ _ (lv_sub hl [2, 3, 4, 0] rfl) hH hF
          · rw [if_neg c_24] at hF
            refine lv_aload_n hx hb dX6_putFrom_36 rfl (lv_at hl 1 rfl) ?_
            refine cg_X6_26 hC hH dX6_putFrom_37 ?_
            refine lv_iload hx hb dX6_putFrom_40 (lv_at hl 0 rfl) ?_
            refine rg_20 hC hH wka361 ⟨Nat.le_of_ble_eq_true rfl, Nat.le_of_ble_eq_true rfl⟩ hl.1 (Nat.le_of_ble_eq_true rfl) ⟨Nat.zero_le _, Nat.zero_le _⟩ dX6_putFrom_42 ?_
            obtain ⟨x_27, e_28, hF⟩ := li_some hF
            refine gx_ti e_28 ?_
            refine lv_istore (lv' := [(5, .int x_27), (4, .int r_21), (0, .ref (Q 9)), (1, .int v1), (2, .int v2), (3, .int v3)]) hx hb dX6_putFrom_45 hl (by decide) rfl (fun ls hl => ?_)
            refine lv_iload hx hb dX6_putFrom_47 (lv_at hl 0 rfl) ?_
            refine lv_bipush (v := 37) hx hb dX6_putFrom_49 (by decide) ?_
            refine lv_idiv hx hb dX6_putFrom_51 (by decide) ?_
            obtain ⟨x_29, e_30, hF⟩ := li_some hF
            refine gx_ti e_30 ?_
            refine lv_istore (lv' := [(6, .int x_29), (5, .int x_27), (4, .int r_21), (0, .ref (Q 9)), (1, .int v1), (2, .int v2), (3, .int v3)]) hx hb dX6_putFrom_52 hl (by decide) rfl (fun ls hl => ?_)
            refine lv_aload_n hx hb dX6_putFrom_54 rfl (lv_at hl 3 rfl) ?_
            refine lv_iload hx hb dX6_putFrom_55 (lv_at hl 0 rfl) ?_
            refine lv_iload hx hb dX6_putFrom_57 (lv_at hl 1 rfl) ?_
            refine lv_bipush (v := 37) hx hb dX6_putFrom_59 (by decide) ?_
            refine lv_irem hx hb dX6_putFrom_61 (by decide) ?_
            refine lv_iload_n hx hb dX6_putFrom_62 rfl (lv_at hl 6 rfl) ?_
            refine lv_iload_n hx hb dX6_putFrom_63 rfl (lv_at hl 5 rfl) ?_
            obtain ⟨r_31, u_32, h_33, hF⟩ := ob_some hF
            refine ccV_v (q0 := 9) (As := [.int x_29, .int (x_27 - x_27 / 37 * 37), .int v3, .int v2]) (rest := []) hC hH (n_X6_put l G Z Q _ T u_22 u_32 r_31 x_29 (x_27 - x_27 / 37 * 37) v3 v2 _ h_33) rfl rfl ⟨wkc_X6_put, wka357, wka586, wka587, wka750⟩ kVX6_put ⟨Nat.le_of_ble_eq_true rfl, Nat.le_of_ble_eq_true rfl⟩ rfl hl.1 rfl (Nat.le_of_ble_eq_true rfl) dX6_putFrom_64 (fun D H locs hH => ?_)
            refine lv_aload_n hx hb dX6_putFrom_67 rfl (lv_at hl 3 rfl) ?_
            refine lv_iload hx hb dX6_putFrom_68 (lv_at hl 2 rfl) ?_
            obtain ⟨r_34, u_35, h_36, hF⟩ := ob_some hF
            refine ccV_v (q0 := 9) (As := [.int r_21]) (rest := []) hC hH (n_X6_takeOutOfOrder l G Z Q _ T u_32 u_35 r_34 r_21 _ h_36) rfl rfl ⟨wkc_X6_takeOutOfOrder, wka377, wka598, wka599, wka750⟩ kVX6_takeOutOfOrder ⟨Nat.le_of_ble_eq_true rfl, Nat.le_of_ble_eq_true rfl⟩ rfl hl.1 rfl (Nat.le_of_ble_eq_true rfl) dX6_putFrom_70 (fun D H locs hH => ?_)
            refine lv_aload_n hx hb dX6_putFrom_73 rfl (lv_at hl 3 rfl) ?_
            refine lv_iload hx hb dX6_putFrom_74 (lv_at hl 0 rfl) ?_
            obtain ⟨r_37, u_38, h_39, hF⟩ := ob_some hF
            refine ccV_v (q0 := 9) (As := [.int x_29]) (rest := []) hC hH (n_X6_findEarliest l G Z Q _ T u_35 u_38 r_37 x_29 _ h_39) rfl rfl ⟨wkc_X6_findEarliest, wka370, wka604, wka605, wka750⟩ kVX6_findEarliest ⟨Nat.le_of_ble_eq_true rfl, Nat.le_of_ble_eq_true rfl⟩ rfl hl.1 rfl (Nat.le_of_ble_eq_true rfl) dX6_putFrom_76 (fun D H locs hH => ?_)
            obtain ⟨x_40, e_41, hF⟩ := li_some hF
            refine lv_iinc (v := x_40) (lv' := [(3, .int x_40), (6, .int x_29), (5, .int x_27), (4, .int r_21), (0, .ref (Q 9)), (1, .int v1), (2, .int v2)]) hx hb dX6_putFrom_79 hl (k := 6) rfl e_41 (by decide) rfl (fun ls hl => ?_)
            refine lv_goto (tgt := 2) hx hb dX6_putFrom_82 (by decide) ?_
            exact ih2 v1 v2 x_40 u_38 _ _ _ _ (lv_sub hl [4, 5, 6, 0] rfl) hH hF
  refine hL2 _ (fun v1 v2 v3 u D H locs ls hl hH hF => ?_) fuel a0 a1 0 u _ _ _ _ (lv_sub hl [1, 2, 3, 0] rfl) hH hF
  exact cr_v hC hH hr hF dX6_putFrom_85 hlocks
def xl_X6_soonestMat_5 : Nat → Int32 → Int32 → Int32 → MS → (Int32 → Int32 → Int32 → MS → Option (Int32 × MS)) → Option (Int32 × MS)
  | 0, _, _, _, _, _ => none
  | n5 + 1, v1, v2, v3, u, K5_29 => (if v1 ≤ v3 then K5_29 v1 v2 v3 u else li (if (rg (u.2 23) 4 v3) < v2 then (rg (u.2 23) 4 v3) else v2) (fun x_2 => li (v3 + 1) (fun x_4 => xl_X6_soonestMat_5 n5 v1 x_2 x_4 u K5_29)))
def x_X6_soonestMat (a0 : Int32) (u : MS) : Option (Int32 × MS) := xl_X6_soonestMat_5 fuel a0 1000000 0 u (fun v1 v2 v3 u => some (v2, u))
set_option maxHeartbeats 4000000 in
set_option maxRecDepth 100000 in
theorem n_X6_soonestMat (l : Launch) (G : gG) (Z : gC) (Q : Nat → Nat) (D : Nat × Nat) (T : va_W) (u u1 : MS) (r : Int32) (a0 : Int32) (sz : Nat) (hF : x_X6_soonestMat a0 u = some (r, u1)) : Met l yX6_soonestMat (Cond.code yX6_soonestMat cX6_soonestMat 4 (some .int) :: wK) { frames := 1, cells := 0, slots := 0, locals := 22 } (va_Pc [.ref (Q 9), .int a0] (cPM G Z Q D T u sz)) (cQi G Q T u1 r (va_A (cW G Q D T u) sz)) 0 0 (va_A (cW G Q D T u) sz) := by
  refine Met.ofW (cc := cX6_soonestMat) (maxL := 4) (ret := (some .int)) (by decide) rfl ?_
  intro p e s m args below meth c s₁ B hml hv
  obtain ⟨rfl, rfl, hP, hB, hD0, hE⟩ := hv
  have hr := B.returns
  have hlocks := B.notSynchronized
  have hts := atoms_spec (ws := Cond.code yX6_soonestMat cX6_soonestMat 4 (some .int) :: wK) B.pre
  have hD := hD0.self (sz := s.heap.size)
  have hA : ∀ q : Nat, s.heap.size ≤ q → va_A (cW G Q D T u) s.heap.size q := fun q h => Or.inr h
  generalize va_A (cW G Q D T u) s.heap.size = A at hD hA hE ⊢
  have hC : cX p c cX6_soonestMat 4 s m _ RX6 G Z A := ⟨B.exec, B.bytes, hml, findClass_of_methodNamed B.named, fun w h => hts w (List.mem_cons_of_mem _ h), hB, hE, hA⟩
  have hx := hC.1
  have hb := hC.2.1
  have hH : cH G Q D T A u s s.heap [] := ⟨hP, hD, va_S.rf⟩
  have hl := lv_entry ([.ref (Q 9), .int a0]) (n := 4) (Nat.le_of_ble_eq_true rfl)
  rw [lg_entry_eq]
  generalize (lg_sl ([.ref (Q 9), .int a0]) ++ List.replicate (4 - (lg_sl ([.ref (Q 9), .int a0])).length) Slot.unset).toArray = ls at hl ⊢
  have hl : lv_has ls 4 [(0, .ref (Q 9)), (1, .int a0)] := hl
  unfold x_X6_soonestMat at hF
  refine lv_ldc (v := 1000000) hx hb hC.2.2.2.1 (hC.2.2.2.2.1 _ wka374) dX6_soonestMat_0 ?_
  refine lv_istore_n (lv' := [(2, .int 1000000), (0, .ref (Q 9)), (1, .int a0)]) hx hb dX6_soonestMat_2 rfl hl (by decide) rfl (fun ls hl => ?_)
  refine lv_iconst (v := 0) hx hb dX6_soonestMat_3 (by decide) ?_
  refine lv_istore_n (lv' := [(3, .int 0), (2, .int 1000000), (0, .ref (Q 9)), (1, .int a0)]) hx hb dX6_soonestMat_4 rfl hl (by decide) rfl (fun ls hl => ?_)
  have hL5 : ∀ (K5_29 : Int32 → Int32 → Int32 → MS → Option (Int32 × MS)), (∀ (v1 v2 v3 : Int32) (u : MS) (D : Nat × Nat) (H : Heap) (locs : List Loc) (ls : Array Slot), lv_has ls 4 [(0, .ref (Q 9)), (1, .int v1), (2, .int v2), (3, .int v3)] → cH G Q D T A u s H locs → K5_29 v1 v2 v3 u = some (r, u1) → W p l e (headSpec (Cond.code yX6_soonestMat cX6_soonestMat 4 (some .int) :: wK) { frames := 1, cells := 0, slots := 0, locals := 22 }).room s m [.ref (Q 9), .int a0].toArray below meth c H locs 0 0 (MQ below (cQi G Q T u1 r A) [.ref (Q 9), .int a0].toArray s 0 0 A) (F0 m 29 ls [])) → ∀ (n5 : Nat) (v1 v2 v3 : Int32) (u : MS) (D : Nat × Nat) (H : Heap) (locs : List Loc) (ls : Array Slot), lv_has ls 4 [(0, .ref (Q 9)), (1, .int v1), (2, .int v2), (3, .int v3)] → cH G Q D T A u s H locs → xl_X6_soonestMat_5 n5 v1 v2 v3 u K5_29 = some (r, u1) → W p l e (headSpec (Cond.code yX6_soonestMat cX6_soonestMat 4 (some .int) :: wK) { frames := 1, cells := 0, slots := 0, locals := 22 }).room s m [.ref (Q 9), .int a0].toArray below meth c H locs 0 0 (MQ below (cQi G Q T u1 r A) [.ref (Q 9), .int a0].toArray s 0 0 A) (F0 m 5 ls []) := by
    intro K5_29 hK5_29 n5
    induction n5 with
    | zero => intro v1 v2 v3 u D H locs ls hl hH hF; cases hF
    | succ n5 ih5 =>
      intro v1 v2 v3 u D H locs ls hl hH hF
      unfold xl_X6_soonestMat_5 at hF
      refine lv_iload_n hx hb dX6_soonestMat_5 rfl (lv_at hl 3 rfl) ?_
      refine lv_iload_n hx hb dX6_soonestMat_6 rfl (lv_at hl 1 rfl) ?_
      refine lv_icmp_ge (tgt := 29) hx hb dX6_soonestMat_7 (by decide) (fun c_1 => ?_) (fun c_1 => ?_)
      · rw [if_pos c_1] at hF
        exact hK5_29 v1 v2 v3 u _ _ _ _ (lv_sub hl [0, 1, 2, 3] rfl) hH hF
      · rw [if_neg c_1] at hF
        refine lv_iload_n hx hb dX6_soonestMat_10 rfl (lv_at hl 2 rfl) ?_
        refine lv_aload_n hx hb dX6_soonestMat_11 rfl (lv_at hl 0 rfl) ?_
        refine cg_X6_33 hC hH dX6_soonestMat_12 ?_
        refine lv_iload_n hx hb dX6_soonestMat_15 rfl (lv_at hl 3 rfl) ?_
        refine rg_22 hC hH wka361 ⟨Nat.le_of_ble_eq_true rfl, Nat.le_of_ble_eq_true rfl⟩ hl.1 (Nat.le_of_ble_eq_true rfl) ⟨Nat.zero_le _, Nat.zero_le _⟩ dX6_soonestMat_16 ?_
        refine va_mmin hx hb (hC.2.2.1.trans hl.1.symm) hC.2.2.2.1 (hC.2.2.2.2.1 _ wka379) (hC.2.2.2.2.1 _ wka758) (hC.2.2.2.2.1 _ wka760) (hC.2.2.2.2.1 _ wka759) (Nat.le_of_ble_eq_true rfl) (Nat.le_of_ble_eq_true rfl) (Nat.le_of_ble_eq_true rfl) (Nat.le_of_ble_eq_true rfl) dX6_soonestMat_19 ?_
        obtain ⟨x_2, e_3, hF⟩ := li_some hF
        refine gx_ti e_3 ?_
        refine lv_istore_n (lv' := [(2, .int x_2), (0, .ref (Q 9)), (1, .int v1), (3, .int v3)]) hx hb dX6_soonestMat_22 rfl hl (by decide) rfl (fun ls hl => ?_)
        obtain ⟨x_4, e_5, hF⟩ := li_some hF
        refine lv_iinc (v := x_4) (lv' := [(3, .int x_4), (2, .int x_2), (0, .ref (Q 9)), (1, .int v1)]) hx hb dX6_soonestMat_23 hl (k := 3) rfl e_5 (by decide) rfl (fun ls hl => ?_)
        refine lv_goto (tgt := 5) hx hb dX6_soonestMat_26 (by decide) ?_
        exact ih5 v1 x_2 x_4 u _ _ _ _ (lv_sub hl [2, 3, 1, 0] rfl) hH hF
  refine hL5 _ (fun v1 v2 v3 u D H locs ls hl hH hF => ?_) fuel a0 1000000 0 u _ _ _ _ (lv_sub hl [2, 3, 1, 0] rfl) hH hF
  refine lv_iload_n hx hb dX6_soonestMat_29 rfl (lv_at hl 2 rfl) ?_
  exact cr_i hC hH hr hF dX6_soonestMat_30 hlocks
def xl_X6_soonestFight_5 : Nat → Int32 → Int32 → MS → (Int32 → Int32 → MS → Option (Int32 × MS)) → Option (Int32 × MS)
  | 0, _, _, _, _ => none
  | n5 + 1, v1, v2, u, K5_39 => (if (u.1 17) ≤ v2 then K5_39 v1 v2 u else li (if (rg (u.2 25) 148 (rg (u.2 21) 148 v2)) < v1 then (rg (u.2 25) 148 (rg (u.2 21) 148 v2)) else v1) (fun x_2 => li (v2 + 1) (fun x_4 => xl_X6_soonestFight_5 n5 x_2 x_4 u K5_39)))
def x_X6_soonestFight (u : MS) : Option (Int32 × MS) := xl_X6_soonestFight_5 fuel 1000000 0 u (fun v1 v2 u => some (v1, u))
set_option maxHeartbeats 4000000 in
set_option maxRecDepth 100000 in
theorem n_X6_soonestFight (l : Launch) (G : gG) (Z : gC) (Q : Nat → Nat) (D : Nat × Nat) (T : va_W) (u u1 : MS) (r : Int32) (sz : Nat) (hF : x_X6_soonestFight u = some (r, u1)) : Met l yX6_soonestFight (Cond.code yX6_soonestFight cX6_soonestFight 3 (some .int) :: wK) { frames := 1, cells := 0, slots := 0, locals := 22 } (va_Pc [.ref (Q 9)] (cPM G Z Q D T u sz)) (cQi G Q T u1 r (va_A (cW G Q D T u) sz)) 0 0 (va_A (cW G Q D T u) sz) := by
  refine Met.ofW (cc := cX6_soonestFight) (maxL := 3) (ret := (some .int)) (by decide) rfl ?_
  intro p e s m args below meth c s₁ B hml hv
  obtain ⟨rfl, rfl, hP, hB, hD0, hE⟩ := hv
  have hr := B.returns
  have hlocks := B.notSynchronized
  have hts := atoms_spec (ws := Cond.code yX6_soonestFight cX6_soonestFight 3 (some .int) :: wK) B.pre
  have hD := hD0.self (sz := s.heap.size)
  have hA : ∀ q : Nat, s.heap.size ≤ q → va_A (cW G Q D T u) s.heap.size q := fun q h => Or.inr h
  generalize va_A (cW G Q D T u) s.heap.size = A at hD hA hE ⊢
  have hC : cX p c cX6_soonestFight 3 s m _ RX6 G Z A := ⟨B.exec, B.bytes, hml, findClass_of_methodNamed B.named, fun w h => hts w (List.mem_cons_of_mem _ h), hB, hE, hA⟩
  have hx := hC.1
  have hb := hC.2.1
  have hH : cH G Q D T A u s s.heap [] := ⟨hP, hD, va_S.rf⟩
  have hl := lv_entry ([.ref (Q 9)]) (n := 3) (Nat.le_of_ble_eq_true rfl)
  rw [lg_entry_eq]
  generalize (lg_sl ([.ref (Q 9)]) ++ List.replicate (3 - (lg_sl ([.ref (Q 9)])).length) Slot.unset).toArray = ls at hl ⊢
  have hl : lv_has ls 3 [(0, .ref (Q 9))] := hl
  unfold x_X6_soonestFight at hF
  refine lv_ldc (v := 1000000) hx hb hC.2.2.2.1 (hC.2.2.2.2.1 _ wka374) dX6_soonestFight_0 ?_
  refine lv_istore_n (lv' := [(1, .int 1000000), (0, .ref (Q 9))]) hx hb dX6_soonestFight_2 rfl hl (by decide) rfl (fun ls hl => ?_)
  refine lv_iconst (v := 0) hx hb dX6_soonestFight_3 (by decide) ?_
  refine lv_istore_n (lv' := [(2, .int 0), (1, .int 1000000), (0, .ref (Q 9))]) hx hb dX6_soonestFight_4 rfl hl (by decide) rfl (fun ls hl => ?_)
  have hL5 : ∀ (K5_39 : Int32 → Int32 → MS → Option (Int32 × MS)), (∀ (v1 v2 : Int32) (u : MS) (D : Nat × Nat) (H : Heap) (locs : List Loc) (ls : Array Slot), lv_has ls 3 [(0, .ref (Q 9)), (1, .int v1), (2, .int v2)] → cH G Q D T A u s H locs → K5_39 v1 v2 u = some (r, u1) → W p l e (headSpec (Cond.code yX6_soonestFight cX6_soonestFight 3 (some .int) :: wK) { frames := 1, cells := 0, slots := 0, locals := 22 }).room s m [.ref (Q 9)].toArray below meth c H locs 0 0 (MQ below (cQi G Q T u1 r A) [.ref (Q 9)].toArray s 0 0 A) (F0 m 39 ls [])) → ∀ (n5 : Nat) (v1 v2 : Int32) (u : MS) (D : Nat × Nat) (H : Heap) (locs : List Loc) (ls : Array Slot), lv_has ls 3 [(0, .ref (Q 9)), (1, .int v1), (2, .int v2)] → cH G Q D T A u s H locs → xl_X6_soonestFight_5 n5 v1 v2 u K5_39 = some (r, u1) → W p l e (headSpec (Cond.code yX6_soonestFight cX6_soonestFight 3 (some .int) :: wK) { frames := 1, cells := 0, slots := 0, locals := 22 }).room s m [.ref (Q 9)].toArray below meth c H locs 0 0 (MQ below (cQi G Q T u1 r A) [.ref (Q 9)].toArray s 0 0 A) (F0 m 5 ls []) := by
    intro K5_39 hK5_39 n5
    induction n5 with
    | zero => intro v1 v2 u D H locs ls hl hH hF; cases hF
    | succ n5 ih5 =>
      intro v1 v2 u D H locs ls hl hH hF
      unfold xl_X6_soonestFight_5 at hF
      refine lv_iload_n hx hb dX6_soonestFight_5 rfl (lv_at hl 2 rfl) ?_
      refine lv_aload_n hx hb dX6_soonestFight_6 rfl (lv_at hl 0 rfl) ?_
      refine cg_X6_84 hC hH dX6_soonestFight_7 ?_
      refine lv_icmp_ge (tgt := 39) hx hb dX6_soonestFight_10 (by decide) (fun c_1 => ?_) (fun c_1 => ?_)
      · rw [if_pos c_1] at hF
        exact hK5_39 v1 v2 u _ _ _ _ (lv_sub hl [0, 1, 2] rfl) hH hF
      · rw [if_neg c_1] at hF
        refine lv_iload_n hx hb dX6_soonestFight_13 rfl (lv_at hl 1 rfl) ?_
        refine lv_aload_n hx hb dX6_soonestFight_14 rfl (lv_at hl 0 rfl) ?_
        refine cg_X6_39 hC hH dX6_soonestFight_15 ?_
        refine lv_aload_n hx hb dX6_soonestFight_18 rfl (lv_at hl 0 rfl) ?_
        refine cg_X6_26 hC hH dX6_soonestFight_19 ?_
        refine lv_iload_n hx hb dX6_soonestFight_22 rfl (lv_at hl 2 rfl) ?_
        refine rg_20 hC hH wka361 ⟨Nat.le_of_ble_eq_true rfl, Nat.le_of_ble_eq_true rfl⟩ hl.1 (Nat.le_of_ble_eq_true rfl) ⟨Nat.zero_le _, Nat.zero_le _⟩ dX6_soonestFight_23 ?_
        refine rg_24 hC hH wka361 ⟨Nat.le_of_ble_eq_true rfl, Nat.le_of_ble_eq_true rfl⟩ hl.1 (Nat.le_of_ble_eq_true rfl) ⟨Nat.zero_le _, Nat.zero_le _⟩ dX6_soonestFight_26 ?_
        refine va_mmin hx hb (hC.2.2.1.trans hl.1.symm) hC.2.2.2.1 (hC.2.2.2.2.1 _ wka379) (hC.2.2.2.2.1 _ wka758) (hC.2.2.2.2.1 _ wka760) (hC.2.2.2.2.1 _ wka759) (Nat.le_of_ble_eq_true rfl) (Nat.le_of_ble_eq_true rfl) (Nat.le_of_ble_eq_true rfl) (Nat.le_of_ble_eq_true rfl) dX6_soonestFight_29 ?_
        obtain ⟨x_2, e_3, hF⟩ := li_some hF
        refine gx_ti e_3 ?_
        refine lv_istore_n (lv' := [(1, .int x_2), (0, .ref (Q 9)), (2, .int v2)]) hx hb dX6_soonestFight_32 rfl hl (by decide) rfl (fun ls hl => ?_)
        obtain ⟨x_4, e_5, hF⟩ := li_some hF
        refine lv_iinc (v := x_4) (lv' := [(2, .int x_4), (1, .int x_2), (0, .ref (Q 9))]) hx hb dX6_soonestFight_33 hl (k := 2) rfl e_5 (by decide) rfl (fun ls hl => ?_)
        refine lv_goto (tgt := 5) hx hb dX6_soonestFight_36 (by decide) ?_
        exact ih5 x_2 x_4 u _ _ _ _ (lv_sub hl [2, 1, 0] rfl) hH hF
  refine hL5 _ (fun v1 v2 u D H locs ls hl hH hF => ?_) fuel 1000000 0 u _ _ _ _ (lv_sub hl [2, 1, 0] rfl) hH hF
  refine lv_iload_n hx hb dX6_soonestFight_39 rfl (lv_at hl 1 rfl) ?_
  exact cr_i hC hH hr hF dX6_soonestFight_40 hlocks
def x_X6_keep (u : MS) : Option (Int32 × MS) := lu (si u 61 (u.1 62)) (fun u_1 => lu (si u_1 63 (u_1.1 64)) (fun u_3 => lu (si u_3 62 (u.1 61)) (fun u_5 => lu (si u_5 64 (u.1 63)) (fun u_7 => some (0, u_7)))))
set_option maxHeartbeats 4000000 in
set_option maxRecDepth 100000 in
theorem n_X6_keep (l : Launch) (G : gG) (Z : gC) (Q : Nat → Nat) (D : Nat × Nat) (T : va_W) (u u1 : MS) (r : Int32) (sz : Nat) (hF : x_X6_keep u = some (r, u1)) : Met l yX6_keep (Cond.code yX6_keep cX6_keep 3 none :: wK) { frames := 0, cells := 0, slots := 0, locals := 0 } (va_Pc [.ref (Q 9)] (cPM G Z Q D T u sz)) (cQv G Q T u1 (va_A (cW G Q D T u) sz)) 0 0 (va_A (cW G Q D T u) sz) := by
  refine Met.ofW (cc := cX6_keep) (maxL := 3) (ret := none) (by decide) rfl ?_
  intro p e s m args below meth c s₁ B hml hv
  obtain ⟨rfl, rfl, hP, hB, hD0, hE⟩ := hv
  have hr := B.returns
  have hlocks := B.notSynchronized
  have hts := atoms_spec (ws := Cond.code yX6_keep cX6_keep 3 none :: wK) B.pre
  have hD := hD0.self (sz := s.heap.size)
  have hA : ∀ q : Nat, s.heap.size ≤ q → va_A (cW G Q D T u) s.heap.size q := fun q h => Or.inr h
  generalize va_A (cW G Q D T u) s.heap.size = A at hD hA hE ⊢
  have hC : cX p c cX6_keep 3 s m _ RX6 G Z A := ⟨B.exec, B.bytes, hml, findClass_of_methodNamed B.named, fun w h => hts w (List.mem_cons_of_mem _ h), hB, hE, hA⟩
  have hx := hC.1
  have hb := hC.2.1
  have hH : cH G Q D T A u s s.heap [] := ⟨hP, hD, va_S.rf⟩
  have hl := lv_entry ([.ref (Q 9)]) (n := 3) (Nat.le_of_ble_eq_true rfl)
  rw [lg_entry_eq]
  generalize (lg_sl ([.ref (Q 9)]) ++ List.replicate (3 - (lg_sl ([.ref (Q 9)])).length) Slot.unset).toArray = ls at hl ⊢
  have hl : lv_has ls 3 [(0, .ref (Q 9))] := hl
  unfold x_X6_keep at hF
  refine lv_aload_n hx hb dX6_keep_0 rfl (lv_at hl 0 rfl) ?_
  refine cg_X6_42 hC hH dX6_keep_1 ?_
  refine lv_astore_n (lv' := [(1, .ref (sl (u.1 61) (Q 70) (Q 72))), (0, .ref (Q 9))]) hx hb dX6_keep_4 rfl hl (by decide) rfl (fun ls hl => ?_)
  refine lv_aload_n hx hb dX6_keep_5 rfl (lv_at hl 1 rfl) ?_
  refine cg_X6_45 hC hH dX6_keep_6 ?_
  refine lv_astore_n (lv' := [(2, .ref (sl (u.1 63) (Q 74) (Q 76))), (1, .ref (sl (u.1 61) (Q 70) (Q 72))), (0, .ref (Q 9))]) hx hb dX6_keep_9 rfl hl (by decide) rfl (fun ls hl => ?_)
  refine lv_aload_n hx hb dX6_keep_10 rfl (lv_at hl 2 rfl) ?_
  refine lv_aload_n hx hb dX6_keep_11 rfl (lv_at hl 2 rfl) ?_
  refine cg_X6_48 hC hH dX6_keep_12 ?_
  obtain ⟨u_1, e_2, hF⟩ := lu_some hF
  refine cp_X6_42 hC hH e_2 dX6_keep_15 (fun H locs hH => ?_)
  refine lv_aload_n hx hb dX6_keep_18 rfl (lv_at hl 2 rfl) ?_
  refine lv_aload_n hx hb dX6_keep_19 rfl (lv_at hl 2 rfl) ?_
  refine cg_X6_51 hC hH dX6_keep_20 ?_
  obtain ⟨u_3, e_4, hF⟩ := lu_some hF
  refine cp_X6_45 hC hH e_4 dX6_keep_23 (fun H locs hH => ?_)
  refine lv_aload_n hx hb dX6_keep_26 rfl (lv_at hl 2 rfl) ?_
  refine lv_aload_n hx hb dX6_keep_27 rfl (lv_at hl 1 rfl) ?_
  obtain ⟨u_5, e_6, hF⟩ := lu_some hF
  refine cp_X6_48 hC hH e_6 dX6_keep_28 (fun H locs hH => ?_)
  refine lv_aload_n hx hb dX6_keep_31 rfl (lv_at hl 2 rfl) ?_
  refine lv_aload_n hx hb dX6_keep_32 rfl (lv_at hl 0 rfl) ?_
  obtain ⟨u_7, e_8, hF⟩ := lu_some hF
  refine cp_X6_51 hC hH e_8 dX6_keep_33 (fun H locs hH => ?_)
  exact cr_v hC hH hr hF dX6_keep_36 hlocks
def xl_X6_planDay_19 : Nat → Int32 → Int32 → Int32 → MS → (Int32 → Int32 → Int32 → MS → Option (Int32 × MS)) → Option (Int32 × MS)
  | 0, _, _, _, _, _ => none
  | n19 + 1, v1, v2, v3, u, K19_35 => (if 4 ≤ v3 then K19_35 v1 v2 v3 u else ob (x_X6_findEarliest v3 u) (fun r_13 u_14 => li (v3 + 1) (fun x_16 => xl_X6_planDay_19 n19 v1 v2 x_16 u_14 K19_35)))
def xl_X6_planDay_47 : Nat → Int32 → Int32 → Int32 → Int32 → MS → (Int32 → Int32 → Int32 → Int32 → MS → Option (Int32 × MS)) → Option (Int32 × MS)
  | 0, _, _, _, _, _, _ => none
  | n47 + 1, v1, v2, v3, v4, u, K47_93 => (if 296 ≤ v4 then K47_93 v1 v2 v3 v4 u else (if (u.1 17) ≤ 0 then K47_93 v1 v2 v3 v4 u else ob (x_X6_putFrom v1 v3 u) (fun r_22 u_23 => ob (x_X6_soonestMat v1 u_23) (fun r_25 u_26 => ob (x_X6_soonestFight u_26) (fun r_28 u_29 => li (if (v3 + 1) < (if r_25 < r_28 then r_28 else r_25) then (if r_25 < r_28 then r_28 else r_25) else (v3 + 1)) (fun x_31 => li (v4 + 1) (fun x_33 => xl_X6_planDay_47 n47 v1 v2 x_31 x_33 u_29 K47_93)))))))
def x_X6_planDay (a0 : Int32) (a1 : Int32) (u : MS) : Option (Int32 × MS) := lu (si u 18 a1) (fun u_1 => ob (x_X6_clear u_1) (fun r_3 u_4 => ob (x_X6_putOpenOnes u_4) (fun r_6 u_7 => ob (x_X6_putInOrder u_7) (fun r_9 u_10 => xl_X6_planDay_19 fuel a0 a1 0 u_10 (fun v1 v2 v3 u => li (rg (u.2 0) 2088 0) (fun x_18 => xl_X6_planDay_47 fuel v1 v2 x_18 0 u (fun v1 v2 v3 v4 u => (if (u.1 19) ≤ 100000 then ob (x_X6_keep u) (fun r_36 u_37 => some (u_37.1 19, u_37)) else some (-1, u)))))))))
set_option maxHeartbeats 4000000 in
set_option maxRecDepth 100000 in
theorem n_X6_planDay (l : Launch) (G : gG) (Z : gC) (Q : Nat → Nat) (D : Nat × Nat) (T : va_W) (u u1 : MS) (r : Int32) (a0 : Int32) (a1 : Int32) (sz : Nat) (hF : x_X6_planDay a0 a1 u = some (r, u1)) : Met l yX6_planDay (Cond.code yX6_planDay cX6_planDay 5 (some .int) :: wK) { frames := 5, cells := 0, slots := 0, locals := 119 } (va_Pc [.ref (Q 9), .int a0, .int a1] (cPM G Z Q D T u sz)) (cQi G Q T u1 r (va_A (cW G Q D T u) sz)) 0 0 (va_A (cW G Q D T u) sz) := by
  refine Met.ofW (cc := cX6_planDay) (maxL := 5) (ret := (some .int)) (by decide) rfl ?_
  intro p e s m args below meth c s₁ B hml hv
  obtain ⟨rfl, rfl, hP, hB, hD0, hE⟩ := hv
  have hr := B.returns
  have hlocks := B.notSynchronized
  have hts := atoms_spec (ws := Cond.code yX6_planDay cX6_planDay 5 (some .int) :: wK) B.pre
  have hD := hD0.self (sz := s.heap.size)
  have hA : ∀ q : Nat, s.heap.size ≤ q → va_A (cW G Q D T u) s.heap.size q := fun q h => Or.inr h
  generalize va_A (cW G Q D T u) s.heap.size = A at hD hA hE ⊢
  have hC : cX p c cX6_planDay 5 s m _ RX6 G Z A := ⟨B.exec, B.bytes, hml, findClass_of_methodNamed B.named, fun w h => hts w (List.mem_cons_of_mem _ h), hB, hE, hA⟩
  have hx := hC.1
  have hb := hC.2.1
  have hH : cH G Q D T A u s s.heap [] := ⟨hP, hD, va_S.rf⟩
  have hl := lv_entry ([.ref (Q 9), .int a0, .int a1]) (n := 5) (Nat.le_of_ble_eq_true rfl)
  rw [lg_entry_eq]
  generalize (lg_sl ([.ref (Q 9), .int a0, .int a1]) ++ List.replicate (5 - (lg_sl ([.ref (Q 9), .int a0, .int a1])).length) Slot.unset).toArray = ls at hl ⊢
  have hl : lv_has ls 5 [(0, .ref (Q 9)), (1, .int a0), (2, .int a1)] := hl
  unfold x_X6_planDay at hF
  refine lv_aload_n hx hb dX6_planDay_0 rfl (lv_at hl 0 rfl) ?_
  refine lv_iload_n hx hb dX6_planDay_1 rfl (lv_at hl 2 rfl) ?_
  obtain ⟨u_1, e_2, hF⟩ := lu_some hF
  refine cp_X6_62 hC hH e_2 dX6_planDay_2 (fun H locs hH => ?_)
  refine lv_aload_n hx hb dX6_planDay_5 rfl (lv_at hl 0 rfl) ?_
  obtain ⟨r_3, u_4, h_5, hF⟩ := ob_some hF
  refine ccV_v (q0 := 9) (As := []) (rest := []) hC hH (n_X6_clear l G Z Q _ T u_1 u_4 r_3 _ h_5) rfl rfl ⟨wkc_X6_clear, wka350, wka580, wka581, wka750⟩ kVX6_clear ⟨Nat.le_of_ble_eq_true rfl, Nat.le_of_ble_eq_true rfl⟩ rfl hl.1 rfl (Nat.le_of_ble_eq_true rfl) dX6_planDay_6 (fun D H locs hH => ?_)
  refine lv_aload_n hx hb dX6_planDay_9 rfl (lv_at hl 0 rfl) ?_
  obtain ⟨r_6, u_7, h_8, hF⟩ := ob_some hF
  refine ccV_v (q0 := 9) (As := []) (rest := []) hC hH (n_X6_putOpenOnes l G Z Q _ T u_4 u_7 r_6 _ h_8) rfl rfl ⟨wkc_X6_putOpenOnes, wka355, wka584, wka585, wka750⟩ kVX6_putOpenOnes ⟨Nat.le_of_ble_eq_true rfl, Nat.le_of_ble_eq_true rfl⟩ rfl hl.1 rfl (Nat.le_of_ble_eq_true rfl) dX6_planDay_10 (fun D H locs hH => ?_)
  refine lv_aload_n hx hb dX6_planDay_13 rfl (lv_at hl 0 rfl) ?_
  obtain ⟨r_9, u_10, h_11, hF⟩ := ob_some hF
  refine ccV_v (q0 := 9) (As := []) (rest := []) hC hH (n_X6_putInOrder l G Z Q _ T u_7 u_10 r_9 _ h_11) rfl rfl ⟨wkc_X6_putInOrder, wka364, wka590, wka591, wka750⟩ kVX6_putInOrder ⟨Nat.le_of_ble_eq_true rfl, Nat.le_of_ble_eq_true rfl⟩ rfl hl.1 rfl (Nat.le_of_ble_eq_true rfl) dX6_planDay_14 (fun D H locs hH => ?_)
  refine lv_iconst (v := 0) hx hb dX6_planDay_17 (by decide) ?_
  refine lv_istore_n (lv' := [(3, .int 0), (0, .ref (Q 9)), (1, .int a0), (2, .int a1)]) hx hb dX6_planDay_18 rfl hl (by decide) rfl (fun ls hl => ?_)
  have hL19 : ∀ (K19_35 : Int32 → Int32 → Int32 → MS → Option (Int32 × MS)), (∀ (v1 v2 v3 : Int32) (u : MS) (D : Nat × Nat) (H : Heap) (locs : List Loc) (ls : Array Slot), lv_has ls 5 [(0, .ref (Q 9)), (1, .int v1), (2, .int v2), (3, .int v3)] → cH G Q D T A u s H locs → K19_35 v1 v2 v3 u = some (r, u1) → W p l e (headSpec (Cond.code yX6_planDay cX6_planDay 5 (some .int) :: wK) { frames := 5, cells := 0, slots := 0, locals := 119 }).room s m [.ref (Q 9), .int a0, .int a1].toArray below meth c H locs 0 0 (MQ below (cQi G Q T u1 r A) [.ref (Q 9), .int a0, .int a1].toArray s 0 0 A) (F0 m 35 ls [])) → ∀ (n19 : Nat) (v1 v2 v3 : Int32) (u : MS) (D : Nat × Nat) (H : Heap) (locs : List Loc) (ls : Array Slot), lv_has ls 5 [(0, .ref (Q 9)), (1, .int v1), (2, .int v2), (3, .int v3)] → cH G Q D T A u s H locs → xl_X6_planDay_19 n19 v1 v2 v3 u K19_35 = some (r, u1) → W p l e (headSpec (Cond.code yX6_planDay cX6_planDay 5 (some .int) :: wK) { frames := 5, cells := 0, slots := 0, locals := 119 }).room s m [.ref (Q 9), .int a0, .int a1].toArray below meth c H locs 0 0 (MQ below (cQi G Q T u1 r A) [.ref (Q 9), .int a0, .int a1].toArray s 0 0 A) (F0 m 19 ls []) := by
    intro K19_35 hK19_35 n19
    induction n19 with
    | zero => intro v1 v2 v3 u D H locs ls hl hH hF; cases hF
    | succ n19 ih19 =>
      intro v1 v2 v3 u D H locs ls hl hH hF
      unfold xl_X6_planDay_19 at hF
      refine lv_iload_n hx hb dX6_planDay_19 rfl (lv_at hl 3 rfl) ?_
      refine lv_iconst (v := 4) hx hb dX6_planDay_20 (by decide) ?_
      refine lv_icmp_ge (tgt := 35) hx hb dX6_planDay_21 (by decide) (fun c_12 => ?_) (fun c_12 => ?_)
      · rw [if_pos c_12] at hF
        exact hK19_35 v1 v2 v3 u _ _ _ _ (lv_sub hl [0, 1, 2, 3] rfl) hH hF
      · rw [if_neg c_12] at hF
        refine lv_aload_n hx hb dX6_planDay_24 rfl (lv_at hl 0 rfl) ?_
        refine lv_iload_n hx hb dX6_planDay_25 rfl (lv_at hl 3 rfl) ?_
        obtain ⟨r_13, u_14, h_15, hF⟩ := ob_some hF
        refine ccV_v (q0 := 9) (As := [.int v3]) (rest := []) hC hH (n_X6_findEarliest l G Z Q _ T u u_14 r_13 v3 _ h_15) rfl rfl ⟨wkc_X6_findEarliest, wka370, wka604, wka605, wka750⟩ kVX6_findEarliest ⟨Nat.le_of_ble_eq_true rfl, Nat.le_of_ble_eq_true rfl⟩ rfl hl.1 rfl (Nat.le_of_ble_eq_true rfl) dX6_planDay_26 (fun D H locs hH => ?_)
        obtain ⟨x_16, e_17, hF⟩ := li_some hF
        refine lv_iinc (v := x_16) (lv' := [(3, .int x_16), (0, .ref (Q 9)), (1, .int v1), (2, .int v2)]) hx hb dX6_planDay_29 hl (k := 3) rfl e_17 (by decide) rfl (fun ls hl => ?_)
        refine lv_goto (tgt := 19) hx hb dX6_planDay_32 (by decide) ?_
        exact ih19 v1 v2 x_16 u_14 _ _ _ _ (lv_sub hl [1, 2, 3, 0] rfl) hH hF
  refine hL19 _ (fun v1 v2 v3 u D H locs ls hl hH hF => ?_) fuel a0 a1 0 u_10 _ _ _ _ (lv_sub hl [1, 2, 3, 0] rfl) hH hF
  refine lv_aload_n hx hb dX6_planDay_35 rfl (lv_at hl 0 rfl) ?_
  refine cg_X6_9 hC hH dX6_planDay_36 ?_
  refine lv_iconst (v := 0) hx hb dX6_planDay_39 (by decide) ?_
  refine bat (i := 1) (j := 11) hC hH rfl rfl (by decide) wka352 ⟨Nat.le_of_ble_eq_true rfl, Nat.le_of_ble_eq_true rfl⟩ hl.1 (Nat.le_of_ble_eq_true rfl) ⟨Nat.zero_le _, Nat.zero_le _⟩ dX6_planDay_40 ?_
  obtain ⟨x_18, e_19, hF⟩ := li_some hF
  refine gx_ti e_19 ?_
  refine lv_istore_n (lv' := [(3, .int x_18), (0, .ref (Q 9)), (1, .int v1), (2, .int v2)]) hx hb dX6_planDay_43 rfl hl (by decide) rfl (fun ls hl => ?_)
  refine lv_iconst (v := 0) hx hb dX6_planDay_44 (by decide) ?_
  refine lv_istore (lv' := [(4, .int 0), (3, .int x_18), (0, .ref (Q 9)), (1, .int v1), (2, .int v2)]) hx hb dX6_planDay_45 hl (by decide) rfl (fun ls hl => ?_)
  have hL47 : ∀ (K47_93 : Int32 → Int32 → Int32 → Int32 → MS → Option (Int32 × MS)), (∀ (v1 v2 v3 v4 : Int32) (u : MS) (D : Nat × Nat) (H : Heap) (locs : List Loc) (ls : Array Slot), lv_has ls 5 [(0, .ref (Q 9)), (1, .int v1), (2, .int v2), (3, .int v3), (4, .int v4)] → cH G Q D T A u s H locs → K47_93 v1 v2 v3 v4 u = some (r, u1) → W p l e (headSpec (Cond.code yX6_planDay cX6_planDay 5 (some .int) :: wK) { frames := 5, cells := 0, slots := 0, locals := 119 }).room s m [.ref (Q 9), .int a0, .int a1].toArray below meth c H locs 0 0 (MQ below (cQi G Q T u1 r A) [.ref (Q 9), .int a0, .int a1].toArray s 0 0 A) (F0 m 93 ls [])) → ∀ (n47 : Nat) (v1 v2 v3 v4 : Int32) (u : MS) (D : Nat × Nat) (H : Heap) (locs : List Loc) (ls : Array Slot), lv_has ls 5 [(0, .ref (Q 9)), (1, .int v1), (2, .int v2), (3, .int v3), (4, .int v4)] → cH G Q D T A u s H locs → xl_X6_planDay_47 n47 v1 v2 v3 v4 u K47_93 = some (r, u1) → W p l e (headSpec (Cond.code yX6_planDay cX6_planDay 5 (some .int) :: wK) { frames := 5, cells := 0, slots := 0, locals := 119 }).room s m [.ref (Q 9), .int a0, .int a1].toArray below meth c H locs 0 0 (MQ below (cQi G Q T u1 r A) [.ref (Q 9), .int a0, .int a1].toArray s 0 0 A) (F0 m 47 ls []) := by
    intro K47_93 hK47_93 n47
    induction n47 with
    | zero => intro v1 v2 v3 v4 u D H locs ls hl hH hF; cases hF
    | succ n47 ih47 =>
      intro v1 v2 v3 v4 u D H locs ls hl hH hF
      unfold xl_X6_planDay_47 at hF
      refine lv_iload hx hb dX6_planDay_47 (lv_at hl 4 rfl) ?_
      refine lv_sipush (v := 296) hx hb dX6_planDay_49 (by decide) ?_
      refine lv_icmp_ge (tgt := 93) hx hb dX6_planDay_52 (by decide) (fun c_20 => ?_) (fun c_20 => ?_)
      · rw [if_pos c_20] at hF
        exact hK47_93 v1 v2 v3 v4 u _ _ _ _ (lv_sub hl [0, 1, 2, 3, 4] rfl) hH hF
      · rw [if_neg c_20] at hF
        refine lv_aload_n hx hb dX6_planDay_55 rfl (lv_at hl 0 rfl) ?_
        refine cg_X6_84 hC hH dX6_planDay_56 ?_
        refine lv_if_le (tgt := 93) hx hb dX6_planDay_59 (by decide) (fun c_21 => ?_) (fun c_21 => ?_)
        · rw [if_pos c_21] at hF
          exact hK47_93 v1 v2 v3 v4 u _ _ _ _ (lv_sub hl [0, 1, 2, 3, 4] rfl) hH hF
        · rw [if_neg c_21] at hF
          refine lv_aload_n hx hb dX6_planDay_62 rfl (lv_at hl 0 rfl) ?_
          refine lv_iload_n hx hb dX6_planDay_63 rfl (lv_at hl 1 rfl) ?_
          refine lv_iload_n hx hb dX6_planDay_64 rfl (lv_at hl 3 rfl) ?_
          obtain ⟨r_22, u_23, h_24, hF⟩ := ob_some hF
          refine ccV_v (q0 := 9) (As := [.int v1, .int v3]) (rest := []) hC hH (n_X6_putFrom l G Z Q _ T u u_23 r_22 v1 v3 _ h_24) rfl rfl ⟨wkc_X6_putFrom, wka375, wka594, wka595, wka750⟩ kVX6_putFrom ⟨Nat.le_of_ble_eq_true rfl, Nat.le_of_ble_eq_true rfl⟩ rfl hl.1 rfl (Nat.le_of_ble_eq_true rfl) dX6_planDay_65 (fun D H locs hH => ?_)
          refine lv_iload_n hx hb dX6_planDay_68 rfl (lv_at hl 3 rfl) ?_
          refine lv_iconst (v := 1) hx hb dX6_planDay_69 (by decide) ?_
          refine lv_iadd hx hb dX6_planDay_70 ?_
          refine lv_aload_n hx hb dX6_planDay_71 rfl (lv_at hl 0 rfl) ?_
          refine lv_iload_n hx hb dX6_planDay_72 rfl (lv_at hl 1 rfl) ?_
          obtain ⟨r_25, u_26, h_27, hF⟩ := ob_some hF
          refine ccV_i (q0 := 9) (As := [.int v1]) (rest := [.int (v3 + 1)]) hC hH (n_X6_soonestMat l G Z Q _ T u_23 u_26 r_25 v1 _ h_27) rfl rfl ⟨wkc_X6_soonestMat, wka378, wka600, wka601, wka750⟩ kVX6_soonestMat ⟨Nat.le_of_ble_eq_true rfl, Nat.le_of_ble_eq_true rfl⟩ rfl hl.1 rfl (Nat.le_of_ble_eq_true rfl) dX6_planDay_73 (fun D H locs hH => ?_)
          refine lv_aload_n hx hb dX6_planDay_76 rfl (lv_at hl 0 rfl) ?_
          obtain ⟨r_28, u_29, h_30, hF⟩ := ob_some hF
          refine ccV_i (q0 := 9) (As := []) (rest := [.int r_25, .int (v3 + 1)]) hC hH (n_X6_soonestFight l G Z Q _ T u_26 u_29 r_28 _ h_30) rfl rfl ⟨wkc_X6_soonestFight, wka380, wka602, wka603, wka750⟩ kVX6_soonestFight ⟨Nat.le_of_ble_eq_true rfl, Nat.le_of_ble_eq_true rfl⟩ rfl hl.1 rfl (Nat.le_of_ble_eq_true rfl) dX6_planDay_77 (fun D H locs hH => ?_)
          refine va_mmax hx hb (hC.2.2.1.trans hl.1.symm) hC.2.2.2.1 (hC.2.2.2.2.1 _ wka362) (hC.2.2.2.2.1 _ wka756) (hC.2.2.2.2.1 _ wka760) (hC.2.2.2.2.1 _ wka757) (Nat.le_of_ble_eq_true rfl) (Nat.le_of_ble_eq_true rfl) (Nat.le_of_ble_eq_true rfl) (Nat.le_of_ble_eq_true rfl) dX6_planDay_80 ?_
          refine va_mmax hx hb (hC.2.2.1.trans hl.1.symm) hC.2.2.2.1 (hC.2.2.2.2.1 _ wka362) (hC.2.2.2.2.1 _ wka756) (hC.2.2.2.2.1 _ wka760) (hC.2.2.2.2.1 _ wka757) (Nat.le_of_ble_eq_true rfl) (Nat.le_of_ble_eq_true rfl) (Nat.le_of_ble_eq_true rfl) (Nat.le_of_ble_eq_true rfl) dX6_planDay_83 ?_
          obtain ⟨x_31, e_32, hF⟩ := li_some hF
          refine gx_ti e_32 ?_
          refine lv_istore_n (lv' := [(3, .int x_31), (0, .ref (Q 9)), (1, .int v1), (2, .int v2), (4, .int v4)]) hx hb dX6_planDay_86 rfl hl (by decide) rfl (fun ls hl => ?_)
          obtain ⟨x_33, e_34, hF⟩ := li_some hF
          refine lv_iinc (v := x_33) (lv' := [(4, .int x_33), (3, .int x_31), (0, .ref (Q 9)), (1, .int v1), (2, .int v2)]) hx hb dX6_planDay_87 hl (k := 4) rfl e_34 (by decide) rfl (fun ls hl => ?_)
          refine lv_goto (tgt := 47) hx hb dX6_planDay_90 (by decide) ?_
          exact ih47 v1 v2 x_31 x_33 u_29 _ _ _ _ (lv_sub hl [2, 3, 4, 1, 0] rfl) hH hF
  refine hL47 _ (fun v1 v2 v3 v4 u D H locs ls hl hH hF => ?_) fuel v1 v2 x_18 0 u _ _ _ _ (lv_sub hl [2, 3, 4, 1, 0] rfl) hH hF
  refine lv_aload_n hx hb dX6_planDay_93 rfl (lv_at hl 0 rfl) ?_
  refine cg_X6_102 hC hH dX6_planDay_94 ?_
  refine lv_ldc (v := 100000) hx hb hC.2.2.2.1 (hC.2.2.2.2.1 _ wka381) dX6_planDay_97 ?_
  refine lv_icmp_le (tgt := 104) hx hb dX6_planDay_99 (by decide) (fun c_35 => ?_) (fun c_35 => ?_)
  · rw [if_pos c_35] at hF
    refine lv_aload_n hx hb dX6_planDay_104 rfl (lv_at hl 0 rfl) ?_
    obtain ⟨r_36, u_37, h_38, hF⟩ := ob_some hF
    refine ccV_v (q0 := 9) (As := []) (rest := []) hC hH (n_X6_keep l G Z Q _ T u u_37 r_36 _ h_38) rfl rfl ⟨wkc_X6_keep, wka382, wka582, wka583, wka750⟩ kVX6_keep ⟨Nat.le_of_ble_eq_true rfl, Nat.le_of_ble_eq_true rfl⟩ rfl hl.1 rfl (Nat.le_of_ble_eq_true rfl) dX6_planDay_105 (fun D H locs hH => ?_)
    refine lv_aload_n hx hb dX6_planDay_108 rfl (lv_at hl 0 rfl) ?_
    refine cg_X6_102 hC hH dX6_planDay_109 ?_
    exact cr_i hC hH hr hF dX6_planDay_112 hlocks
  · rw [if_neg c_35] at hF
    refine lv_iconst (v := (-1)) hx hb dX6_planDay_102 (by decide) ?_
    exact cr_i hC hH hr hF dX6_planDay_103 hlocks
def x_X7_ofTree (a0 : Int32) (a1 : Int32) (u : MS) : Option (Int32 × MS) := ob (x_X0_sizeOf a0 u) (fun r_1 u_2 => li (r_1 - 2) (fun x_4 => ob (x_X0_fightsOf a0 u_2) (fun r_6 u_7 => li (((r_6 - x_4) - 1) / 2) (fun x_9 => (if a1 = 0 then ob (x_X0_winnerOf a0 x_4 u_7) (fun r_12 u_13 => some (r_12, u_13)) else if a1 = 1 then ob (x_X0_loserOf a0 x_4 u_7) (fun r_16 u_17 => some (r_16, u_17)) else if a1 = 2 then ob (x_X0_winnerOf a0 (x_4 + x_9) u_7) (fun r_20 u_21 => some (r_20, u_21)) else if a1 = 3 then ob (x_X0_winnerOf a0 (x_4 + (2 * x_9)) u_7) (fun r_24 u_25 => some (r_24, u_25)) else some (-1, u_7))))))
set_option maxHeartbeats 4000000 in
set_option maxRecDepth 100000 in
theorem n_X7_ofTree (l : Launch) (G : gG) (Z : gC) (Q : Nat → Nat) (D : Nat × Nat) (T : va_W) (u u1 : MS) (r : Int32) (a0 : Int32) (a1 : Int32) (sz : Nat) (hF : x_X7_ofTree a0 a1 u = some (r, u1)) : Met l yX7_ofTree (Cond.code yX7_ofTree cX7_ofTree 5 (some .int) :: wK) { frames := 3, cells := 0, slots := 0, locals := 67 } (va_Pc [.ref (Q 8), .int a0, .int a1] (cPM G Z Q D T u sz)) (cQi G Q T u1 r (va_A (cW G Q D T u) sz)) 0 0 (va_A (cW G Q D T u) sz) := by
  refine Met.ofW (cc := cX7_ofTree) (maxL := 5) (ret := (some .int)) (by decide) rfl ?_
  intro p e s m args below meth c s₁ B hml hv
  obtain ⟨rfl, rfl, hP, hB, hD0, hE⟩ := hv
  have hr := B.returns
  have hlocks := B.notSynchronized
  have hts := atoms_spec (ws := Cond.code yX7_ofTree cX7_ofTree 5 (some .int) :: wK) B.pre
  have hD := hD0.self (sz := s.heap.size)
  have hA : ∀ q : Nat, s.heap.size ≤ q → va_A (cW G Q D T u) s.heap.size q := fun q h => Or.inr h
  generalize va_A (cW G Q D T u) s.heap.size = A at hD hA hE ⊢
  have hC : cX p c cX7_ofTree 5 s m _ RX7 G Z A := ⟨B.exec, B.bytes, hml, findClass_of_methodNamed B.named, fun w h => hts w (List.mem_cons_of_mem _ h), hB, hE, hA⟩
  have hx := hC.1
  have hb := hC.2.1
  have hH : cH G Q D T A u s s.heap [] := ⟨hP, hD, va_S.rf⟩
  have hl := lv_entry ([.ref (Q 8), .int a0, .int a1]) (n := 5) (Nat.le_of_ble_eq_true rfl)
  rw [lg_entry_eq]
  generalize (lg_sl ([.ref (Q 8), .int a0, .int a1]) ++ List.replicate (5 - (lg_sl ([.ref (Q 8), .int a0, .int a1])).length) Slot.unset).toArray = ls at hl ⊢
  have hl : lv_has ls 5 [(0, .ref (Q 8)), (1, .int a0), (2, .int a1)] := hl
  unfold x_X7_ofTree at hF
  refine lv_aload_n hx hb dX7_ofTree_0 rfl (lv_at hl 0 rfl) ?_
  refine cg_X7_15 hC hH dX7_ofTree_1 ?_
  refine lv_iload_n hx hb dX7_ofTree_4 rfl (lv_at hl 1 rfl) ?_
  obtain ⟨r_1, u_2, h_3, hF⟩ := ob_some hF
  refine ccV_i (q0 := 6) (As := [.int a0]) (rest := []) hC hH (n_X0_sizeOf l G Z Q _ T u u_2 r_1 a0 _ h_3) rfl rfl ⟨wkc_X0_sizeOf, wka338, wka390, wka391, wka744⟩ kVX0_sizeOf ⟨Nat.le_of_ble_eq_true rfl, Nat.le_of_ble_eq_true rfl⟩ rfl hl.1 rfl (Nat.le_of_ble_eq_true rfl) dX7_ofTree_5 (fun D H locs hH => ?_)
  refine lv_iconst (v := 2) hx hb dX7_ofTree_8 (by decide) ?_
  refine lv_isub hx hb dX7_ofTree_9 ?_
  obtain ⟨x_4, e_5, hF⟩ := li_some hF
  refine gx_ti e_5 ?_
  refine lv_istore_n (lv' := [(3, .int x_4), (0, .ref (Q 8)), (1, .int a0), (2, .int a1)]) hx hb dX7_ofTree_10 rfl hl (by decide) rfl (fun ls hl => ?_)
  refine lv_aload_n hx hb dX7_ofTree_11 rfl (lv_at hl 1 rfl) ?_
  refine cg_X7_15 hC hH dX7_ofTree_12 ?_
  refine lv_iload_n hx hb dX7_ofTree_15 rfl (lv_at hl 2 rfl) ?_
  obtain ⟨r_6, u_7, h_8, hF⟩ := ob_some hF
  refine ccV_i (q0 := 6) (As := [.int a0]) (rest := []) hC hH (n_X0_fightsOf l G Z Q _ T u_2 u_7 r_6 a0 _ h_8) rfl rfl ⟨wkc_X0_fightsOf, wka330, wka396, wka397, wka744⟩ kVX0_fightsOf ⟨Nat.le_of_ble_eq_true rfl, Nat.le_of_ble_eq_true rfl⟩ rfl hl.1 rfl (Nat.le_of_ble_eq_true rfl) dX7_ofTree_16 (fun D H locs hH => ?_)
  refine lv_iload_n hx hb dX7_ofTree_19 rfl (lv_at hl 0 rfl) ?_
  refine lv_isub hx hb dX7_ofTree_20 ?_
  refine lv_iconst (v := 1) hx hb dX7_ofTree_21 (by decide) ?_
  refine lv_isub hx hb dX7_ofTree_22 ?_
  refine lv_iconst (v := 2) hx hb dX7_ofTree_23 (by decide) ?_
  refine lv_idiv hx hb dX7_ofTree_24 (by decide) ?_
  obtain ⟨x_9, e_10, hF⟩ := li_some hF
  refine gx_ti e_10 ?_
  refine lv_istore (lv' := [(4, .int x_9), (3, .int x_4), (0, .ref (Q 8)), (1, .int a0), (2, .int a1)]) hx hb dX7_ofTree_25 hl (by decide) rfl (fun ls hl => ?_)
  refine lv_iload_n hx hb dX7_ofTree_27 rfl (lv_at hl 4 rfl) ?_
  by_cases c_11 : a1 = 0
  · rw [if_pos c_11] at hF
    refine gx_ti (y := 0) c_11 ?_
    refine lv_tableIn (off := 32) (tgt := 60) hx hb dX7_ofTree_28 (by decide) (by decide) rfl (by decide) ?_
    refine lv_aload_n hx hb dX7_ofTree_60 rfl (lv_at hl 2 rfl) ?_
    refine cg_X7_15 hC hH dX7_ofTree_61 ?_
    refine lv_iload_n hx hb dX7_ofTree_64 rfl (lv_at hl 3 rfl) ?_
    refine lv_iload_n hx hb dX7_ofTree_65 rfl (lv_at hl 1 rfl) ?_
    obtain ⟨r_12, u_13, h_14, hF⟩ := ob_some hF
    refine ccV_i (q0 := 6) (As := [.int a0, .int x_4]) (rest := []) hC hH (n_X0_winnerOf l G Z Q _ T u_7 u_13 r_12 a0 x_4 _ h_14) rfl rfl ⟨wkc_X0_winnerOf, wka333, wka405, wka406, wka744⟩ kVX0_winnerOf ⟨Nat.le_of_ble_eq_true rfl, Nat.le_of_ble_eq_true rfl⟩ rfl hl.1 rfl (Nat.le_of_ble_eq_true rfl) dX7_ofTree_66 (fun D H locs hH => ?_)
    exact cr_i hC hH hr hF dX7_ofTree_69 hlocks
  rw [if_neg c_11] at hF
  by_cases c_15 : a1 = 1
  · rw [if_pos c_15] at hF
    refine gx_ti (y := 1) c_15 ?_
    refine lv_tableIn (off := 42) (tgt := 70) hx hb dX7_ofTree_28 (by decide) (by decide) rfl (by decide) ?_
    refine lv_aload_n hx hb dX7_ofTree_70 rfl (lv_at hl 2 rfl) ?_
    refine cg_X7_15 hC hH dX7_ofTree_71 ?_
    refine lv_iload_n hx hb dX7_ofTree_74 rfl (lv_at hl 3 rfl) ?_
    refine lv_iload_n hx hb dX7_ofTree_75 rfl (lv_at hl 1 rfl) ?_
    obtain ⟨r_16, u_17, h_18, hF⟩ := ob_some hF
    refine ccV_i (q0 := 6) (As := [.int a0, .int x_4]) (rest := []) hC hH (n_X0_loserOf l G Z Q _ T u_7 u_17 r_16 a0 x_4 _ h_18) rfl rfl ⟨wkc_X0_loserOf, wka345, wka409, wka410, wka744⟩ kVX0_loserOf ⟨Nat.le_of_ble_eq_true rfl, Nat.le_of_ble_eq_true rfl⟩ rfl hl.1 rfl (Nat.le_of_ble_eq_true rfl) dX7_ofTree_76 (fun D H locs hH => ?_)
    exact cr_i hC hH hr hF dX7_ofTree_79 hlocks
  rw [if_neg c_15] at hF
  by_cases c_19 : a1 = 2
  · rw [if_pos c_19] at hF
    refine gx_ti (y := 2) c_19 ?_
    refine lv_tableIn (off := 52) (tgt := 80) hx hb dX7_ofTree_28 (by decide) (by decide) rfl (by decide) ?_
    refine lv_aload_n hx hb dX7_ofTree_80 rfl (lv_at hl 2 rfl) ?_
    refine cg_X7_15 hC hH dX7_ofTree_81 ?_
    refine lv_iload_n hx hb dX7_ofTree_84 rfl (lv_at hl 3 rfl) ?_
    refine lv_iload_n hx hb dX7_ofTree_85 rfl (lv_at hl 1 rfl) ?_
    refine lv_iload hx hb dX7_ofTree_86 (lv_at hl 0 rfl) ?_
    refine lv_iadd hx hb dX7_ofTree_88 ?_
    obtain ⟨r_20, u_21, h_22, hF⟩ := ob_some hF
    refine ccV_i (q0 := 6) (As := [.int a0, .int (x_4 + x_9)]) (rest := []) hC hH (n_X0_winnerOf l G Z Q _ T u_7 u_21 r_20 a0 (x_4 + x_9) _ h_22) rfl rfl ⟨wkc_X0_winnerOf, wka333, wka405, wka406, wka744⟩ kVX0_winnerOf ⟨Nat.le_of_ble_eq_true rfl, Nat.le_of_ble_eq_true rfl⟩ rfl hl.1 rfl (Nat.le_of_ble_eq_true rfl) dX7_ofTree_89 (fun D H locs hH => ?_)
    exact cr_i hC hH hr hF dX7_ofTree_92 hlocks
  rw [if_neg c_19] at hF
  by_cases c_23 : a1 = 3
  · rw [if_pos c_23] at hF
    refine gx_ti (y := 3) c_23 ?_
    refine lv_tableIn (off := 65) (tgt := 93) hx hb dX7_ofTree_28 (by decide) (by decide) rfl (by decide) ?_
    refine lv_aload_n hx hb dX7_ofTree_93 rfl (lv_at hl 2 rfl) ?_
    refine cg_X7_15 hC hH dX7_ofTree_94 ?_
    refine lv_iload_n hx hb dX7_ofTree_97 rfl (lv_at hl 3 rfl) ?_
    refine lv_iload_n hx hb dX7_ofTree_98 rfl (lv_at hl 1 rfl) ?_
    refine lv_iconst (v := 2) hx hb dX7_ofTree_99 (by decide) ?_
    refine lv_iload hx hb dX7_ofTree_100 (lv_at hl 0 rfl) ?_
    refine lv_imul hx hb dX7_ofTree_102 ?_
    refine lv_iadd hx hb dX7_ofTree_103 ?_
    obtain ⟨r_24, u_25, h_26, hF⟩ := ob_some hF
    refine ccV_i (q0 := 6) (As := [.int a0, .int (x_4 + (2 * x_9))]) (rest := []) hC hH (n_X0_winnerOf l G Z Q _ T u_7 u_25 r_24 a0 (x_4 + (2 * x_9)) _ h_26) rfl rfl ⟨wkc_X0_winnerOf, wka333, wka405, wka406, wka744⟩ kVX0_winnerOf ⟨Nat.le_of_ble_eq_true rfl, Nat.le_of_ble_eq_true rfl⟩ rfl hl.1 rfl (Nat.le_of_ble_eq_true rfl) dX7_ofTree_104 (fun D H locs hH => ?_)
    exact cr_i hC hH hr hF dX7_ofTree_107 hlocks
  rw [if_neg c_23] at hF
  refine lv_tableOut (tgt := 108) hx hb dX7_ofTree_28 (by have q0 := gl_ne c_11 (a := 0) (by decide); have q1 := gl_ne c_15 (a := 1) (by decide); have q2 := gl_ne c_19 (a := 2) (by decide); have q3 := gl_ne c_23 (a := 3) (by decide); omega) (by decide) ?_
  refine lv_iconst (v := (-1)) hx hb dX7_ofTree_108 (by decide) ?_
  exact cr_i hC hH hr hF dX7_ofTree_109 hlocks
def xl_X7_addUp_18 : Nat → Int32 → Int32 → MS → (Int32 → Int32 → MS → Option (Int32 × MS)) → Option (Int32 × MS)
  | 0, _, _, _, _ => none
  | n18 + 1, v1, v2, u, K18_94 => ob (x_X0_fightsOf v1 u) (fun r_5 u_6 => (if r_5 ≤ v2 then K18_94 v1 v2 u_6 else ob (x_X0_winnerOf v1 v2 u_6) (fun r_9 u_10 => lu (sf u_10 19 (rs (u_10.2 19) 96 r_9 ((rg (u_10.2 19) 96 r_9) + 1))) (fun u_12 => ob (x_X1_ofFight v1 v2 5 u_12) (fun r_14 u_15 => lu (sf u_15 20 (rs (u_15.2 20) 96 r_9 ((rg (u_12.2 20) 96 r_9) + (rg (u_15.2 0) 2088 r_14)))) (fun u_17 => li (v2 + 1) (fun x_19 => xl_X7_addUp_18 n18 v1 x_19 u_17 K18_94)))))))
def x_X7_addUp (a0 : Int32) (u : MS) : Option (Int32 × MS) := lu (sf u 19 (fl 96 0 (u.2 19))) (fun u_1 => lu (sf u_1 20 (fl 96 0 (u_1.2 20))) (fun u_3 => xl_X7_addUp_18 fuel a0 0 u_3 (fun v1 v2 u => some (0, u))))
set_option maxHeartbeats 4000000 in
set_option maxRecDepth 100000 in
theorem n_X7_addUp (l : Launch) (G : gG) (Z : gC) (Q : Nat → Nat) (D : Nat × Nat) (T : va_W) (u u1 : MS) (r : Int32) (a0 : Int32) (sz : Nat) (hF : x_X7_addUp a0 u = some (r, u1)) : Met l yX7_addUp (Cond.code yX7_addUp cX7_addUp 4 none :: wK) { frames := 3, cells := 0, slots := 0, locals := 65 } (va_Pc [.ref (Q 8), .int a0] (cPM G Z Q D T u sz)) (cQv G Q T u1 (va_A (cW G Q D T u) sz)) 0 0 (va_A (cW G Q D T u) sz) := by
  refine Met.ofW (cc := cX7_addUp) (maxL := 4) (ret := none) (by decide) rfl ?_
  intro p e s m args below meth c s₁ B hml hv
  obtain ⟨rfl, rfl, hP, hB, hD0, hE⟩ := hv
  have hr := B.returns
  have hlocks := B.notSynchronized
  have hts := atoms_spec (ws := Cond.code yX7_addUp cX7_addUp 4 none :: wK) B.pre
  have hD := hD0.self (sz := s.heap.size)
  have hA : ∀ q : Nat, s.heap.size ≤ q → va_A (cW G Q D T u) s.heap.size q := fun q h => Or.inr h
  generalize va_A (cW G Q D T u) s.heap.size = A at hD hA hE ⊢
  have hC : cX p c cX7_addUp 4 s m _ RX7 G Z A := ⟨B.exec, B.bytes, hml, findClass_of_methodNamed B.named, fun w h => hts w (List.mem_cons_of_mem _ h), hB, hE, hA⟩
  have hx := hC.1
  have hb := hC.2.1
  have hH : cH G Q D T A u s s.heap [] := ⟨hP, hD, va_S.rf⟩
  have hl := lv_entry ([.ref (Q 8), .int a0]) (n := 4) (Nat.le_of_ble_eq_true rfl)
  rw [lg_entry_eq]
  generalize (lg_sl ([.ref (Q 8), .int a0]) ++ List.replicate (4 - (lg_sl ([.ref (Q 8), .int a0])).length) Slot.unset).toArray = ls at hl ⊢
  have hl : lv_has ls 4 [(0, .ref (Q 8)), (1, .int a0)] := hl
  unfold x_X7_addUp at hF
  refine lv_aload_n hx hb dX7_addUp_0 rfl (lv_at hl 0 rfl) ?_
  refine cg_X7_24 hC hH dX7_addUp_1 ?_
  refine lv_iconst (v := 0) hx hb dX7_addUp_4 (by decide) ?_
  obtain ⟨u_1, e_2, hF⟩ := lu_some hF
  refine rf_18 hC hH e_2 wka332 ⟨Nat.le_of_ble_eq_true rfl, Nat.le_of_ble_eq_true rfl⟩ hl.1 (Nat.le_of_ble_eq_true rfl) ⟨Nat.zero_le _, Nat.zero_le _⟩ dX7_addUp_5 (fun H locs hH => ?_)
  refine lv_aload_n hx hb dX7_addUp_8 rfl (lv_at hl 0 rfl) ?_
  refine cg_X7_28 hC hH dX7_addUp_9 ?_
  refine lv_iconst (v := 0) hx hb dX7_addUp_12 (by decide) ?_
  obtain ⟨u_3, e_4, hF⟩ := lu_some hF
  refine rf_19 hC hH e_4 wka332 ⟨Nat.le_of_ble_eq_true rfl, Nat.le_of_ble_eq_true rfl⟩ hl.1 (Nat.le_of_ble_eq_true rfl) ⟨Nat.zero_le _, Nat.zero_le _⟩ dX7_addUp_13 (fun H locs hH => ?_)
  refine lv_iconst (v := 0) hx hb dX7_addUp_16 (by decide) ?_
  refine lv_istore_n (lv' := [(2, .int 0), (0, .ref (Q 8)), (1, .int a0)]) hx hb dX7_addUp_17 rfl hl (by decide) rfl (fun ls hl => ?_)
  have hL18 : ∀ (K18_94 : Int32 → Int32 → MS → Option (Int32 × MS)), (∀ (v1 v2 : Int32) (u : MS) (D : Nat × Nat) (H : Heap) (locs : List Loc) (ls : Array Slot), lv_has ls 4 [(0, .ref (Q 8)), (1, .int v1), (2, .int v2)] → cH G Q D T A u s H locs → K18_94 v1 v2 u = some (r, u1) → W p l e (headSpec (Cond.code yX7_addUp cX7_addUp 4 none :: wK) { frames := 3, cells := 0, slots := 0, locals := 65 }).room s m [.ref (Q 8), .int a0].toArray below meth c H locs 0 0 (MQ below (cQv G Q T u1 A) [.ref (Q 8), .int a0].toArray s 0 0 A) (F0 m 94 ls [])) → ∀ (n18 : Nat) (v1 v2 : Int32) (u : MS) (D : Nat × Nat) (H : Heap) (locs : List Loc) (ls : Array Slot), lv_has ls 4 [(0, .ref (Q 8)), (1, .int v1), (2, .int v2)] → cH G Q D T A u s H locs → xl_X7_addUp_18 n18 v1 v2 u K18_94 = some (r, u1) → W p l e (headSpec (Cond.code yX7_addUp cX7_addUp 4 none :: wK) { frames := 3, cells := 0, slots := 0, locals := 65 }).room s m [.ref (Q 8), .int a0].toArray below meth c H locs 0 0 (MQ below (cQv G Q T u1 A) [.ref (Q 8), .int a0].toArray s 0 0 A) (F0 m 18 ls []) := by
    intro K18_94 hK18_94 n18
    induction n18 with
    | zero => intro v1 v2 u D H locs ls hl hH hF; cases hF
    | succ n18 ih18 =>
      intro v1 v2 u D H locs ls hl hH hF
      unfold xl_X7_addUp_18 at hF
      refine lv_iload_n hx hb dX7_addUp_18 rfl (lv_at hl 2 rfl) ?_
      refine lv_aload_n hx hb dX7_addUp_19 rfl (lv_at hl 0 rfl) ?_
      refine cg_X7_15 hC hH dX7_addUp_20 ?_
      refine lv_iload_n hx hb dX7_addUp_23 rfl (lv_at hl 1 rfl) ?_
      obtain ⟨r_5, u_6, h_7, hF⟩ := ob_some hF
      refine ccV_i (q0 := 6) (As := [.int v1]) (rest := [.int v2]) hC hH (n_X0_fightsOf l G Z Q _ T u u_6 r_5 v1 _ h_7) rfl rfl ⟨wkc_X0_fightsOf, wka330, wka396, wka397, wka744⟩ kVX0_fightsOf ⟨Nat.le_of_ble_eq_true rfl, Nat.le_of_ble_eq_true rfl⟩ rfl hl.1 rfl (Nat.le_of_ble_eq_true rfl) dX7_addUp_24 (fun D H locs hH => ?_)
      refine lv_icmp_ge (tgt := 94) hx hb dX7_addUp_27 (by decide) (fun c_8 => ?_) (fun c_8 => ?_)
      · rw [if_pos c_8] at hF
        exact hK18_94 v1 v2 u_6 _ _ _ _ (lv_sub hl [0, 1, 2] rfl) hH hF
      · rw [if_neg c_8] at hF
        refine lv_aload_n hx hb dX7_addUp_30 rfl (lv_at hl 0 rfl) ?_
        refine cg_X7_15 hC hH dX7_addUp_31 ?_
        refine lv_iload_n hx hb dX7_addUp_34 rfl (lv_at hl 1 rfl) ?_
        refine lv_iload_n hx hb dX7_addUp_35 rfl (lv_at hl 2 rfl) ?_
        obtain ⟨r_9, u_10, h_11, hF⟩ := ob_some hF
        refine ccV_i (q0 := 6) (As := [.int v1, .int v2]) (rest := []) hC hH (n_X0_winnerOf l G Z Q _ T u_6 u_10 r_9 v1 v2 _ h_11) rfl rfl ⟨wkc_X0_winnerOf, wka333, wka405, wka406, wka744⟩ kVX0_winnerOf ⟨Nat.le_of_ble_eq_true rfl, Nat.le_of_ble_eq_true rfl⟩ rfl hl.1 rfl (Nat.le_of_ble_eq_true rfl) dX7_addUp_36 (fun D H locs hH => ?_)
        refine lv_istore_n (lv' := [(3, .int r_9), (0, .ref (Q 8)), (1, .int v1), (2, .int v2)]) hx hb dX7_addUp_39 rfl hl (by decide) rfl (fun ls hl => ?_)
        refine lv_aload_n hx hb dX7_addUp_40 rfl (lv_at hl 1 rfl) ?_
        refine cg_X7_24 hC hH dX7_addUp_41 ?_
        refine lv_iload_n hx hb dX7_addUp_44 rfl (lv_at hl 0 rfl) ?_
        refine lv_aload_n hx hb dX7_addUp_45 rfl (lv_at hl 1 rfl) ?_
        refine cg_X7_24 hC hH dX7_addUp_46 ?_
        refine lv_iload_n hx hb dX7_addUp_49 rfl (lv_at hl 0 rfl) ?_
        refine rg_18 hC hH wka334 ⟨Nat.le_of_ble_eq_true rfl, Nat.le_of_ble_eq_true rfl⟩ hl.1 (Nat.le_of_ble_eq_true rfl) ⟨Nat.zero_le _, Nat.zero_le _⟩ dX7_addUp_50 ?_
        refine lv_iconst (v := 1) hx hb dX7_addUp_53 (by decide) ?_
        refine lv_iadd hx hb dX7_addUp_54 ?_
        obtain ⟨u_12, e_13, hF⟩ := lu_some hF
        refine rs_18 hC hH e_13 wka335 ⟨Nat.le_of_ble_eq_true rfl, Nat.le_of_ble_eq_true rfl⟩ hl.1 (Nat.le_of_ble_eq_true rfl) ⟨Nat.zero_le _, Nat.zero_le _⟩ dX7_addUp_55 (fun H locs hH => ?_)
        refine lv_aload_n hx hb dX7_addUp_58 rfl (lv_at hl 1 rfl) ?_
        refine cg_X7_28 hC hH dX7_addUp_59 ?_
        refine lv_iload_n hx hb dX7_addUp_62 rfl (lv_at hl 0 rfl) ?_
        refine lv_aload_n hx hb dX7_addUp_63 rfl (lv_at hl 1 rfl) ?_
        refine cg_X7_28 hC hH dX7_addUp_64 ?_
        refine lv_iload_n hx hb dX7_addUp_67 rfl (lv_at hl 0 rfl) ?_
        refine rg_19 hC hH wka334 ⟨Nat.le_of_ble_eq_true rfl, Nat.le_of_ble_eq_true rfl⟩ hl.1 (Nat.le_of_ble_eq_true rfl) ⟨Nat.zero_le _, Nat.zero_le _⟩ dX7_addUp_68 ?_
        refine lv_aload_n hx hb dX7_addUp_71 rfl (lv_at hl 1 rfl) ?_
        refine cg_X7_9 hC hH dX7_addUp_72 ?_
        refine lv_iload_n hx hb dX7_addUp_75 rfl (lv_at hl 2 rfl) ?_
        refine lv_iload_n hx hb dX7_addUp_76 rfl (lv_at hl 3 rfl) ?_
        refine lv_iconst (v := 5) hx hb dX7_addUp_77 (by decide) ?_
        obtain ⟨r_14, u_15, h_16, hF⟩ := ob_some hF
        refine ccS_i (As := [.int v1, .int v2, .int 5]) (rest := [.ref (Q 1), .int (rg (u_12.2 20) 96 r_9), .int r_9, .ref (Q 58)]) hC hH (n_X1_ofFight l G Z Q _ T u_12 u_15 r_14 v1 v2 5 _ h_16) ⟨wkc_X1_ofFight, wka336, wka437, wka745⟩ kSX1_ofFight ⟨Nat.le_of_ble_eq_true rfl, Nat.le_of_ble_eq_true rfl⟩ rfl hl.1 rfl (Nat.le_of_ble_eq_true rfl) dX7_addUp_78 (fun D H locs hH => ?_)
        refine bat (i := 1) (j := 11) hC hH rfl rfl (by decide) wka337 ⟨Nat.le_of_ble_eq_true rfl, Nat.le_of_ble_eq_true rfl⟩ hl.1 (Nat.le_of_ble_eq_true rfl) ⟨Nat.zero_le _, Nat.zero_le _⟩ dX7_addUp_81 ?_
        refine lv_iadd hx hb dX7_addUp_84 ?_
        obtain ⟨u_17, e_18, hF⟩ := lu_some hF
        refine rs_19 hC hH e_18 wka335 ⟨Nat.le_of_ble_eq_true rfl, Nat.le_of_ble_eq_true rfl⟩ hl.1 (Nat.le_of_ble_eq_true rfl) ⟨Nat.zero_le _, Nat.zero_le _⟩ dX7_addUp_85 (fun H locs hH => ?_)
        obtain ⟨x_19, e_20, hF⟩ := li_some hF
        refine lv_iinc (v := x_19) (lv' := [(2, .int x_19), (3, .int r_9), (0, .ref (Q 8)), (1, .int v1)]) hx hb dX7_addUp_88 hl (k := 3) rfl e_20 (by decide) rfl (fun ls hl => ?_)
        refine lv_goto (tgt := 18) hx hb dX7_addUp_91 (by decide) ?_
        exact ih18 v1 x_19 u_17 _ _ _ _ (lv_sub hl [2, 3, 0] rfl) hH hF
  refine hL18 _ (fun v1 v2 u D H locs ls hl hH hF => ?_) fuel a0 0 u_3 _ _ _ _ (lv_sub hl [1, 2, 0] rfl) hH hF
  exact cr_v hC hH hr hF dX7_addUp_94 hlocks
def x_X7_member (a0 : Int32) (a1 : Int32) (u : MS) : Option (Int32 × MS) := ob (x_X1_ofClass a0 (4 + a1) u) (fun r_1 u_2 => some (rg (u_2.2 0) 2088 r_1, u_2))
set_option maxHeartbeats 4000000 in
set_option maxRecDepth 100000 in
theorem n_X7_member (l : Launch) (G : gG) (Z : gC) (Q : Nat → Nat) (D : Nat × Nat) (T : va_W) (u u1 : MS) (r : Int32) (a0 : Int32) (a1 : Int32) (sz : Nat) (hF : x_X7_member a0 a1 u = some (r, u1)) : Met l yX7_member (Cond.code yX7_member cX7_member 3 (some .int) :: wK) { frames := 1, cells := 0, slots := 0, locals := 22 } (va_Pc [.ref (Q 8), .int a0, .int a1] (cPM G Z Q D T u sz)) (cQi G Q T u1 r (va_A (cW G Q D T u) sz)) 0 0 (va_A (cW G Q D T u) sz) := by
  refine Met.ofW (cc := cX7_member) (maxL := 3) (ret := (some .int)) (by decide) rfl ?_
  intro p e s m args below meth c s₁ B hml hv
  obtain ⟨rfl, rfl, hP, hB, hD0, hE⟩ := hv
  have hr := B.returns
  have hlocks := B.notSynchronized
  have hts := atoms_spec (ws := Cond.code yX7_member cX7_member 3 (some .int) :: wK) B.pre
  have hD := hD0.self (sz := s.heap.size)
  have hA : ∀ q : Nat, s.heap.size ≤ q → va_A (cW G Q D T u) s.heap.size q := fun q h => Or.inr h
  generalize va_A (cW G Q D T u) s.heap.size = A at hD hA hE ⊢
  have hC : cX p c cX7_member 3 s m _ RX7 G Z A := ⟨B.exec, B.bytes, hml, findClass_of_methodNamed B.named, fun w h => hts w (List.mem_cons_of_mem _ h), hB, hE, hA⟩
  have hx := hC.1
  have hb := hC.2.1
  have hH : cH G Q D T A u s s.heap [] := ⟨hP, hD, va_S.rf⟩
  have hl := lv_entry ([.ref (Q 8), .int a0, .int a1]) (n := 3) (Nat.le_of_ble_eq_true rfl)
  rw [lg_entry_eq]
  generalize (lg_sl ([.ref (Q 8), .int a0, .int a1]) ++ List.replicate (3 - (lg_sl ([.ref (Q 8), .int a0, .int a1])).length) Slot.unset).toArray = ls at hl ⊢
  have hl : lv_has ls 3 [(0, .ref (Q 8)), (1, .int a0), (2, .int a1)] := hl
  unfold x_X7_member at hF
  refine lv_aload_n hx hb dX7_member_0 rfl (lv_at hl 0 rfl) ?_
  refine cg_X7_9 hC hH dX7_member_1 ?_
  refine lv_iload_n hx hb dX7_member_4 rfl (lv_at hl 1 rfl) ?_
  refine lv_iconst (v := 4) hx hb dX7_member_5 (by decide) ?_
  refine lv_iload_n hx hb dX7_member_6 rfl (lv_at hl 2 rfl) ?_
  refine lv_iadd hx hb dX7_member_7 ?_
  obtain ⟨r_1, u_2, h_3, hF⟩ := ob_some hF
  refine ccS_i (As := [.int a0, .int (4 + a1)]) (rest := [.ref (Q 1)]) hC hH (n_X1_ofClass l G Z Q _ T u u_2 r_1 a0 (4 + a1) _ h_3) ⟨wkc_X1_ofClass, wka340, wka435, wka745⟩ kSX1_ofClass ⟨Nat.le_of_ble_eq_true rfl, Nat.le_of_ble_eq_true rfl⟩ rfl hl.1 rfl (Nat.le_of_ble_eq_true rfl) dX7_member_8 (fun D H locs hH => ?_)
  refine bat (i := 1) (j := 11) hC hH rfl rfl (by decide) wka337 ⟨Nat.le_of_ble_eq_true rfl, Nat.le_of_ble_eq_true rfl⟩ hl.1 (Nat.le_of_ble_eq_true rfl) ⟨Nat.zero_le _, Nat.zero_le _⟩ dX7_member_11 ?_
  exact cr_i hC hH hr hF dX7_member_14 hlocks
def x_X7_areAlike (a0 : Int32) (a1 : Int32) (u : MS) : Option (Int32 × MS) := (if (rg (u.2 19) 96 a0) = (rg (u.2 19) 96 a1) then (if (rg (u.2 20) 96 a0) = (rg (u.2 20) 96 a1) then some (1, u) else some (0, u)) else some (0, u))
set_option maxHeartbeats 4000000 in
set_option maxRecDepth 100000 in
theorem n_X7_areAlike (l : Launch) (G : gG) (Z : gC) (Q : Nat → Nat) (D : Nat × Nat) (T : va_W) (u u1 : MS) (r : Int32) (a0 : Int32) (a1 : Int32) (sz : Nat) (hF : x_X7_areAlike a0 a1 u = some (r, u1)) : Met l yX7_areAlike (Cond.code yX7_areAlike cX7_areAlike 3 (some .boolean) :: wK) { frames := 1, cells := 0, slots := 0, locals := 22 } (va_Pc [.ref (Q 8), .int a0, .int a1] (cPM G Z Q D T u sz)) (cQi G Q T u1 r (va_A (cW G Q D T u) sz)) 0 0 (va_A (cW G Q D T u) sz) := by
  refine Met.ofW (cc := cX7_areAlike) (maxL := 3) (ret := (some .boolean)) (by decide) rfl ?_
  intro p e s m args below meth c s₁ B hml hv
  obtain ⟨rfl, rfl, hP, hB, hD0, hE⟩ := hv
  have hr := B.returns
  have hlocks := B.notSynchronized
  have hts := atoms_spec (ws := Cond.code yX7_areAlike cX7_areAlike 3 (some .boolean) :: wK) B.pre
  have hD := hD0.self (sz := s.heap.size)
  have hA : ∀ q : Nat, s.heap.size ≤ q → va_A (cW G Q D T u) s.heap.size q := fun q h => Or.inr h
  generalize va_A (cW G Q D T u) s.heap.size = A at hD hA hE ⊢
  have hC : cX p c cX7_areAlike 3 s m _ RX7 G Z A := ⟨B.exec, B.bytes, hml, findClass_of_methodNamed B.named, fun w h => hts w (List.mem_cons_of_mem _ h), hB, hE, hA⟩
  have hx := hC.1
  have hb := hC.2.1
  have hH : cH G Q D T A u s s.heap [] := ⟨hP, hD, va_S.rf⟩
  have hl := lv_entry ([.ref (Q 8), .int a0, .int a1]) (n := 3) (Nat.le_of_ble_eq_true rfl)
  rw [lg_entry_eq]
  generalize (lg_sl ([.ref (Q 8), .int a0, .int a1]) ++ List.replicate (3 - (lg_sl ([.ref (Q 8), .int a0, .int a1])).length) Slot.unset).toArray = ls at hl ⊢
  have hl : lv_has ls 3 [(0, .ref (Q 8)), (1, .int a0), (2, .int a1)] := hl
  unfold x_X7_areAlike at hF
  refine lv_aload_n hx hb dX7_areAlike_0 rfl (lv_at hl 0 rfl) ?_
  refine cg_X7_24 hC hH dX7_areAlike_1 ?_
  refine lv_iload_n hx hb dX7_areAlike_4 rfl (lv_at hl 1 rfl) ?_
  refine rg_18 hC hH wka334 ⟨Nat.le_of_ble_eq_true rfl, Nat.le_of_ble_eq_true rfl⟩ hl.1 (Nat.le_of_ble_eq_true rfl) ⟨Nat.zero_le _, Nat.zero_le _⟩ dX7_areAlike_5 ?_
  refine lv_aload_n hx hb dX7_areAlike_8 rfl (lv_at hl 0 rfl) ?_
  refine cg_X7_24 hC hH dX7_areAlike_9 ?_
  refine lv_iload_n hx hb dX7_areAlike_12 rfl (lv_at hl 2 rfl) ?_
  refine rg_18 hC hH wka334 ⟨Nat.le_of_ble_eq_true rfl, Nat.le_of_ble_eq_true rfl⟩ hl.1 (Nat.le_of_ble_eq_true rfl) ⟨Nat.zero_le _, Nat.zero_le _⟩ dX7_areAlike_13 ?_
  refine lv_icmp_ne (tgt := 42) hx hb dX7_areAlike_16 (by decide) (fun c_1 => ?_) (fun c_1 => ?_)
  · rw [if_neg c_1] at hF
    refine lv_iconst (v := 0) hx hb dX7_areAlike_42 (by decide) ?_
    exact cr_z hC hH hr rfl hF dX7_areAlike_43 hlocks
  · rw [if_pos c_1] at hF
    refine lv_aload_n hx hb dX7_areAlike_19 rfl (lv_at hl 0 rfl) ?_
    refine cg_X7_28 hC hH dX7_areAlike_20 ?_
    refine lv_iload_n hx hb dX7_areAlike_23 rfl (lv_at hl 1 rfl) ?_
    refine rg_19 hC hH wka334 ⟨Nat.le_of_ble_eq_true rfl, Nat.le_of_ble_eq_true rfl⟩ hl.1 (Nat.le_of_ble_eq_true rfl) ⟨Nat.zero_le _, Nat.zero_le _⟩ dX7_areAlike_24 ?_
    refine lv_aload_n hx hb dX7_areAlike_27 rfl (lv_at hl 0 rfl) ?_
    refine cg_X7_28 hC hH dX7_areAlike_28 ?_
    refine lv_iload_n hx hb dX7_areAlike_31 rfl (lv_at hl 2 rfl) ?_
    refine rg_19 hC hH wka334 ⟨Nat.le_of_ble_eq_true rfl, Nat.le_of_ble_eq_true rfl⟩ hl.1 (Nat.le_of_ble_eq_true rfl) ⟨Nat.zero_le _, Nat.zero_le _⟩ dX7_areAlike_32 ?_
    refine lv_icmp_ne (tgt := 42) hx hb dX7_areAlike_35 (by decide) (fun c_2 => ?_) (fun c_2 => ?_)
    · rw [if_neg c_2] at hF
      refine lv_iconst (v := 0) hx hb dX7_areAlike_42 (by decide) ?_
      exact cr_z hC hH hr rfl hF dX7_areAlike_43 hlocks
    · rw [if_pos c_2] at hF
      refine lv_iconst (v := 1) hx hb dX7_areAlike_38 (by decide) ?_
      refine lv_goto (tgt := 43) hx hb dX7_areAlike_39 (by decide) ?_
      exact cr_z hC hH hr rfl hF dX7_areAlike_43 hlocks
def x_X7_hasMore (a0 : Int32) (a1 : Int32) (u : MS) : Option (Int32 × MS) := (if (rg (u.2 19) 96 a0) = (rg (u.2 19) 96 a1) then (if (rg (u.2 20) 96 a0) ≤ (rg (u.2 20) 96 a1) then some (0, u) else some (1, u)) else (if (rg (u.2 19) 96 a0) ≤ (rg (u.2 19) 96 a1) then some (0, u) else some (1, u)))
set_option maxHeartbeats 4000000 in
set_option maxRecDepth 100000 in
theorem n_X7_hasMore (l : Launch) (G : gG) (Z : gC) (Q : Nat → Nat) (D : Nat × Nat) (T : va_W) (u u1 : MS) (r : Int32) (a0 : Int32) (a1 : Int32) (sz : Nat) (hF : x_X7_hasMore a0 a1 u = some (r, u1)) : Met l yX7_hasMore (Cond.code yX7_hasMore cX7_hasMore 3 (some .boolean) :: wK) { frames := 1, cells := 0, slots := 0, locals := 22 } (va_Pc [.ref (Q 8), .int a0, .int a1] (cPM G Z Q D T u sz)) (cQi G Q T u1 r (va_A (cW G Q D T u) sz)) 0 0 (va_A (cW G Q D T u) sz) := by
  refine Met.ofW (cc := cX7_hasMore) (maxL := 3) (ret := (some .boolean)) (by decide) rfl ?_
  intro p e s m args below meth c s₁ B hml hv
  obtain ⟨rfl, rfl, hP, hB, hD0, hE⟩ := hv
  have hr := B.returns
  have hlocks := B.notSynchronized
  have hts := atoms_spec (ws := Cond.code yX7_hasMore cX7_hasMore 3 (some .boolean) :: wK) B.pre
  have hD := hD0.self (sz := s.heap.size)
  have hA : ∀ q : Nat, s.heap.size ≤ q → va_A (cW G Q D T u) s.heap.size q := fun q h => Or.inr h
  generalize va_A (cW G Q D T u) s.heap.size = A at hD hA hE ⊢
  have hC : cX p c cX7_hasMore 3 s m _ RX7 G Z A := ⟨B.exec, B.bytes, hml, findClass_of_methodNamed B.named, fun w h => hts w (List.mem_cons_of_mem _ h), hB, hE, hA⟩
  have hx := hC.1
  have hb := hC.2.1
  have hH : cH G Q D T A u s s.heap [] := ⟨hP, hD, va_S.rf⟩
  have hl := lv_entry ([.ref (Q 8), .int a0, .int a1]) (n := 3) (Nat.le_of_ble_eq_true rfl)
  rw [lg_entry_eq]
  generalize (lg_sl ([.ref (Q 8), .int a0, .int a1]) ++ List.replicate (3 - (lg_sl ([.ref (Q 8), .int a0, .int a1])).length) Slot.unset).toArray = ls at hl ⊢
  have hl : lv_has ls 3 [(0, .ref (Q 8)), (1, .int a0), (2, .int a1)] := hl
  unfold x_X7_hasMore at hF
  refine lv_aload_n hx hb dX7_hasMore_0 rfl (lv_at hl 0 rfl) ?_
  refine cg_X7_24 hC hH dX7_hasMore_1 ?_
  refine lv_iload_n hx hb dX7_hasMore_4 rfl (lv_at hl 1 rfl) ?_
  refine rg_18 hC hH wka334 ⟨Nat.le_of_ble_eq_true rfl, Nat.le_of_ble_eq_true rfl⟩ hl.1 (Nat.le_of_ble_eq_true rfl) ⟨Nat.zero_le _, Nat.zero_le _⟩ dX7_hasMore_5 ?_
  refine lv_aload_n hx hb dX7_hasMore_8 rfl (lv_at hl 0 rfl) ?_
  refine cg_X7_24 hC hH dX7_hasMore_9 ?_
  refine lv_iload_n hx hb dX7_hasMore_12 rfl (lv_at hl 2 rfl) ?_
  refine rg_18 hC hH wka334 ⟨Nat.le_of_ble_eq_true rfl, Nat.le_of_ble_eq_true rfl⟩ hl.1 (Nat.le_of_ble_eq_true rfl) ⟨Nat.zero_le _, Nat.zero_le _⟩ dX7_hasMore_13 ?_
  refine lv_icmp_eq (tgt := 44) hx hb dX7_hasMore_16 (by decide) (fun c_1 => ?_) (fun c_1 => ?_)
  · rw [if_pos c_1] at hF
    refine lv_aload_n hx hb dX7_hasMore_44 rfl (lv_at hl 0 rfl) ?_
    refine cg_X7_28 hC hH dX7_hasMore_45 ?_
    refine lv_iload_n hx hb dX7_hasMore_48 rfl (lv_at hl 1 rfl) ?_
    refine rg_19 hC hH wka334 ⟨Nat.le_of_ble_eq_true rfl, Nat.le_of_ble_eq_true rfl⟩ hl.1 (Nat.le_of_ble_eq_true rfl) ⟨Nat.zero_le _, Nat.zero_le _⟩ dX7_hasMore_49 ?_
    refine lv_aload_n hx hb dX7_hasMore_52 rfl (lv_at hl 0 rfl) ?_
    refine cg_X7_28 hC hH dX7_hasMore_53 ?_
    refine lv_iload_n hx hb dX7_hasMore_56 rfl (lv_at hl 2 rfl) ?_
    refine rg_19 hC hH wka334 ⟨Nat.le_of_ble_eq_true rfl, Nat.le_of_ble_eq_true rfl⟩ hl.1 (Nat.le_of_ble_eq_true rfl) ⟨Nat.zero_le _, Nat.zero_le _⟩ dX7_hasMore_57 ?_
    refine lv_icmp_le (tgt := 67) hx hb dX7_hasMore_60 (by decide) (fun c_2 => ?_) (fun c_2 => ?_)
    · rw [if_pos c_2] at hF
      refine lv_iconst (v := 0) hx hb dX7_hasMore_67 (by decide) ?_
      exact cr_z hC hH hr rfl hF dX7_hasMore_68 hlocks
    · rw [if_neg c_2] at hF
      refine lv_iconst (v := 1) hx hb dX7_hasMore_63 (by decide) ?_
      refine lv_goto (tgt := 68) hx hb dX7_hasMore_64 (by decide) ?_
      exact cr_z hC hH hr rfl hF dX7_hasMore_68 hlocks
  · rw [if_neg c_1] at hF
    refine lv_aload_n hx hb dX7_hasMore_19 rfl (lv_at hl 0 rfl) ?_
    refine cg_X7_24 hC hH dX7_hasMore_20 ?_
    refine lv_iload_n hx hb dX7_hasMore_23 rfl (lv_at hl 1 rfl) ?_
    refine rg_18 hC hH wka334 ⟨Nat.le_of_ble_eq_true rfl, Nat.le_of_ble_eq_true rfl⟩ hl.1 (Nat.le_of_ble_eq_true rfl) ⟨Nat.zero_le _, Nat.zero_le _⟩ dX7_hasMore_24 ?_
    refine lv_aload_n hx hb dX7_hasMore_27 rfl (lv_at hl 0 rfl) ?_
    refine cg_X7_24 hC hH dX7_hasMore_28 ?_
    refine lv_iload_n hx hb dX7_hasMore_31 rfl (lv_at hl 2 rfl) ?_
    refine rg_18 hC hH wka334 ⟨Nat.le_of_ble_eq_true rfl, Nat.le_of_ble_eq_true rfl⟩ hl.1 (Nat.le_of_ble_eq_true rfl) ⟨Nat.zero_le _, Nat.zero_le _⟩ dX7_hasMore_32 ?_
    refine lv_icmp_le (tgt := 42) hx hb dX7_hasMore_35 (by decide) (fun c_3 => ?_) (fun c_3 => ?_)
    · rw [if_pos c_3] at hF
      refine lv_iconst (v := 0) hx hb dX7_hasMore_42 (by decide) ?_
      exact cr_z hC hH hr rfl hF dX7_hasMore_43 hlocks
    · rw [if_neg c_3] at hF
      refine lv_iconst (v := 1) hx hb dX7_hasMore_38 (by decide) ?_
      refine lv_goto (tgt := 43) hx hb dX7_hasMore_39 (by decide) ?_
      exact cr_z hC hH hr rfl hF dX7_hasMore_43 hlocks
def xl_X7_beat_3 : Nat → Int32 → Int32 → Int32 → Int32 → MS → (Int32 → Int32 → Int32 → Int32 → MS → Option (Int32 × MS)) → Option (Int32 × MS)
  | 0, _, _, _, _, _, _ => none
  | n3 + 1, v1, v2, v3, v4, u, K3_52 => ob (x_X0_fightsOf v1 u) (fun r_1 u_2 => (if r_1 ≤ v4 then K3_52 v1 v2 v3 v4 u_2 else ob (x_X0_winnerOf v1 v4 u_2) (fun r_5 u_6 => (if r_5 = v2 then ob (x_X0_loserOf v1 v4 u_6) (fun r_11 u_12 => (if r_11 = v3 then some (1, u_12) else li (v4 + 1) (fun x_15 => xl_X7_beat_3 n3 v1 v2 v3 x_15 u_12 K3_52))) else li (v4 + 1) (fun x_9 => xl_X7_beat_3 n3 v1 v2 v3 x_9 u_6 K3_52)))))
def x_X7_beat (a0 : Int32) (a1 : Int32) (a2 : Int32) (u : MS) : Option (Int32 × MS) := xl_X7_beat_3 fuel a0 a1 a2 0 u (fun v1 v2 v3 v4 u => some (0, u))
set_option maxHeartbeats 4000000 in
set_option maxRecDepth 100000 in
theorem n_X7_beat (l : Launch) (G : gG) (Z : gC) (Q : Nat → Nat) (D : Nat × Nat) (T : va_W) (u u1 : MS) (r : Int32) (a0 : Int32) (a1 : Int32) (a2 : Int32) (sz : Nat) (hF : x_X7_beat a0 a1 a2 u = some (r, u1)) : Met l yX7_beat (Cond.code yX7_beat cX7_beat 5 (some .boolean) :: wK) { frames := 3, cells := 0, slots := 0, locals := 67 } (va_Pc [.ref (Q 8), .int a0, .int a1, .int a2] (cPM G Z Q D T u sz)) (cQi G Q T u1 r (va_A (cW G Q D T u) sz)) 0 0 (va_A (cW G Q D T u) sz) := by
  refine Met.ofW (cc := cX7_beat) (maxL := 5) (ret := (some .boolean)) (by decide) rfl ?_
  intro p e s m args below meth c s₁ B hml hv
  obtain ⟨rfl, rfl, hP, hB, hD0, hE⟩ := hv
  have hr := B.returns
  have hlocks := B.notSynchronized
  have hts := atoms_spec (ws := Cond.code yX7_beat cX7_beat 5 (some .boolean) :: wK) B.pre
  have hD := hD0.self (sz := s.heap.size)
  have hA : ∀ q : Nat, s.heap.size ≤ q → va_A (cW G Q D T u) s.heap.size q := fun q h => Or.inr h
  generalize va_A (cW G Q D T u) s.heap.size = A at hD hA hE ⊢
  have hC : cX p c cX7_beat 5 s m _ RX7 G Z A := ⟨B.exec, B.bytes, hml, findClass_of_methodNamed B.named, fun w h => hts w (List.mem_cons_of_mem _ h), hB, hE, hA⟩
  have hx := hC.1
  have hb := hC.2.1
  have hH : cH G Q D T A u s s.heap [] := ⟨hP, hD, va_S.rf⟩
  have hl := lv_entry ([.ref (Q 8), .int a0, .int a1, .int a2]) (n := 5) (Nat.le_of_ble_eq_true rfl)
  rw [lg_entry_eq]
  generalize (lg_sl ([.ref (Q 8), .int a0, .int a1, .int a2]) ++ List.replicate (5 - (lg_sl ([.ref (Q 8), .int a0, .int a1, .int a2])).length) Slot.unset).toArray = ls at hl ⊢
  have hl : lv_has ls 5 [(0, .ref (Q 8)), (1, .int a0), (2, .int a1), (3, .int a2)] := hl
  unfold x_X7_beat at hF
  refine lv_iconst (v := 0) hx hb dX7_beat_0 (by decide) ?_
  refine lv_istore (lv' := [(4, .int 0), (0, .ref (Q 8)), (1, .int a0), (2, .int a1), (3, .int a2)]) hx hb dX7_beat_1 hl (by decide) rfl (fun ls hl => ?_)
  have hL3 : ∀ (K3_52 : Int32 → Int32 → Int32 → Int32 → MS → Option (Int32 × MS)), (∀ (v1 v2 v3 v4 : Int32) (u : MS) (D : Nat × Nat) (H : Heap) (locs : List Loc) (ls : Array Slot), lv_has ls 5 [(0, .ref (Q 8)), (1, .int v1), (2, .int v2), (3, .int v3), (4, .int v4)] → cH G Q D T A u s H locs → K3_52 v1 v2 v3 v4 u = some (r, u1) → W p l e (headSpec (Cond.code yX7_beat cX7_beat 5 (some .boolean) :: wK) { frames := 3, cells := 0, slots := 0, locals := 67 }).room s m [.ref (Q 8), .int a0, .int a1, .int a2].toArray below meth c H locs 0 0 (MQ below (cQi G Q T u1 r A) [.ref (Q 8), .int a0, .int a1, .int a2].toArray s 0 0 A) (F0 m 52 ls [])) → ∀ (n3 : Nat) (v1 v2 v3 v4 : Int32) (u : MS) (D : Nat × Nat) (H : Heap) (locs : List Loc) (ls : Array Slot), lv_has ls 5 [(0, .ref (Q 8)), (1, .int v1), (2, .int v2), (3, .int v3), (4, .int v4)] → cH G Q D T A u s H locs → xl_X7_beat_3 n3 v1 v2 v3 v4 u K3_52 = some (r, u1) → W p l e (headSpec (Cond.code yX7_beat cX7_beat 5 (some .boolean) :: wK) { frames := 3, cells := 0, slots := 0, locals := 67 }).room s m [.ref (Q 8), .int a0, .int a1, .int a2].toArray below meth c H locs 0 0 (MQ below (cQi G Q T u1 r A) [.ref (Q 8), .int a0, .int a1, .int a2].toArray s 0 0 A) (F0 m 3 ls []) := by
    intro K3_52 hK3_52 n3
    induction n3 with
    | zero => intro v1 v2 v3 v4 u D H locs ls hl hH hF; cases hF
    | succ n3 ih3 =>
      intro v1 v2 v3 v4 u D H locs ls hl hH hF
      unfold xl_X7_beat_3 at hF
      refine lv_iload hx hb dX7_beat_3 (lv_at hl 4 rfl) ?_
      refine lv_aload_n hx hb dX7_beat_5 rfl (lv_at hl 0 rfl) ?_
      refine cg_X7_15 hC hH dX7_beat_6 ?_
      refine lv_iload_n hx hb dX7_beat_9 rfl (lv_at hl 1 rfl) ?_
      obtain ⟨r_1, u_2, h_3, hF⟩ := ob_some hF
      refine ccV_i (q0 := 6) (As := [.int v1]) (rest := [.int v4]) hC hH (n_X0_fightsOf l G Z Q _ T u u_2 r_1 v1 _ h_3) rfl rfl ⟨wkc_X0_fightsOf, wka330, wka396, wka397, wka744⟩ kVX0_fightsOf ⟨Nat.le_of_ble_eq_true rfl, Nat.le_of_ble_eq_true rfl⟩ rfl hl.1 rfl (Nat.le_of_ble_eq_true rfl) dX7_beat_10 (fun D H locs hH => ?_)
      refine lv_icmp_ge (tgt := 52) hx hb dX7_beat_13 (by decide) (fun c_4 => ?_) (fun c_4 => ?_)
      · rw [if_pos c_4] at hF
        exact hK3_52 v1 v2 v3 v4 u_2 _ _ _ _ (lv_sub hl [0, 1, 2, 3, 4] rfl) hH hF
      · rw [if_neg c_4] at hF
        refine lv_aload_n hx hb dX7_beat_16 rfl (lv_at hl 0 rfl) ?_
        refine cg_X7_15 hC hH dX7_beat_17 ?_
        refine lv_iload_n hx hb dX7_beat_20 rfl (lv_at hl 1 rfl) ?_
        refine lv_iload hx hb dX7_beat_21 (lv_at hl 4 rfl) ?_
        obtain ⟨r_5, u_6, h_7, hF⟩ := ob_some hF
        refine ccV_i (q0 := 6) (As := [.int v1, .int v4]) (rest := []) hC hH (n_X0_winnerOf l G Z Q _ T u_2 u_6 r_5 v1 v4 _ h_7) rfl rfl ⟨wkc_X0_winnerOf, wka333, wka405, wka406, wka744⟩ kVX0_winnerOf ⟨Nat.le_of_ble_eq_true rfl, Nat.le_of_ble_eq_true rfl⟩ rfl hl.1 rfl (Nat.le_of_ble_eq_true rfl) dX7_beat_23 (fun D H locs hH => ?_)
        refine lv_iload_n hx hb dX7_beat_26 rfl (lv_at hl 2 rfl) ?_
        refine lv_icmp_ne (tgt := 46) hx hb dX7_beat_27 (by decide) (fun c_8 => ?_) (fun c_8 => ?_)
        · rw [if_neg c_8] at hF
          obtain ⟨x_9, e_10, hF⟩ := li_some hF
          refine lv_iinc (v := x_9) (lv' := [(4, .int x_9), (0, .ref (Q 8)), (1, .int v1), (2, .int v2), (3, .int v3)]) hx hb dX7_beat_46 hl (k := 4) rfl e_10 (by decide) rfl (fun ls hl => ?_)
          refine lv_goto (tgt := 3) hx hb dX7_beat_49 (by decide) ?_
          exact ih3 v1 v2 v3 x_9 u_6 _ _ _ _ (lv_sub hl [1, 2, 3, 4, 0] rfl) hH hF
        · rw [if_pos c_8] at hF
          refine lv_aload_n hx hb dX7_beat_30 rfl (lv_at hl 0 rfl) ?_
          refine cg_X7_15 hC hH dX7_beat_31 ?_
          refine lv_iload_n hx hb dX7_beat_34 rfl (lv_at hl 1 rfl) ?_
          refine lv_iload hx hb dX7_beat_35 (lv_at hl 4 rfl) ?_
          obtain ⟨r_11, u_12, h_13, hF⟩ := ob_some hF
          refine ccV_i (q0 := 6) (As := [.int v1, .int v4]) (rest := []) hC hH (n_X0_loserOf l G Z Q _ T u_6 u_12 r_11 v1 v4 _ h_13) rfl rfl ⟨wkc_X0_loserOf, wka345, wka409, wka410, wka744⟩ kVX0_loserOf ⟨Nat.le_of_ble_eq_true rfl, Nat.le_of_ble_eq_true rfl⟩ rfl hl.1 rfl (Nat.le_of_ble_eq_true rfl) dX7_beat_37 (fun D H locs hH => ?_)
          refine lv_iload_n hx hb dX7_beat_40 rfl (lv_at hl 3 rfl) ?_
          refine lv_icmp_ne (tgt := 46) hx hb dX7_beat_41 (by decide) (fun c_14 => ?_) (fun c_14 => ?_)
          · rw [if_neg c_14] at hF
            obtain ⟨x_15, e_16, hF⟩ := li_some hF
            refine lv_iinc (v := x_15) (lv' := [(4, .int x_15), (0, .ref (Q 8)), (1, .int v1), (2, .int v2), (3, .int v3)]) hx hb dX7_beat_46 hl (k := 4) rfl e_16 (by decide) rfl (fun ls hl => ?_)
            refine lv_goto (tgt := 3) hx hb dX7_beat_49 (by decide) ?_
            exact ih3 v1 v2 v3 x_15 u_12 _ _ _ _ (lv_sub hl [1, 2, 3, 4, 0] rfl) hH hF
          · rw [if_pos c_14] at hF
            refine lv_iconst (v := 1) hx hb dX7_beat_44 (by decide) ?_
            exact cr_z hC hH hr rfl hF dX7_beat_45 hlocks
  refine hL3 _ (fun v1 v2 v3 v4 u D H locs ls hl hH hF => ?_) fuel a0 a1 a2 0 u _ _ _ _ (lv_sub hl [1, 2, 3, 4, 0] rfl) hH hF
  refine lv_iconst (v := 0) hx hb dX7_beat_52 (by decide) ?_
  exact cr_z hC hH hr rfl hF dX7_beat_53 hlocks
def x_X7_breaksTie (a0 : Int32) (a1 : Int32) (a2 : Int32) (a3 : Int32) (u : MS) : Option (Int32 × MS) := (if a3 = 2 then ob (x_X7_beat a0 a1 a2 u) (fun r_15 u_16 => og (gb r_15) (some (r_15, u_16))) else ob (x_X1_ofFighter a1 2 u) (fun r_2 u_3 => li (rg (u_3.2 0) 2088 r_2) (fun x_5 => ob (x_X1_ofFighter a2 2 u_3) (fun r_7 u_8 => li (rg (u_8.2 0) 2088 r_7) (fun x_10 => (if x_5 = x_10 then (if a2 ≤ a1 then some (0, u_8) else some (1, u_8)) else (if x_10 ≤ x_5 then some (0, u_8) else some (1, u_8))))))))
set_option maxHeartbeats 4000000 in
set_option maxRecDepth 100000 in
theorem n_X7_breaksTie (l : Launch) (G : gG) (Z : gC) (Q : Nat → Nat) (D : Nat × Nat) (T : va_W) (u u1 : MS) (r : Int32) (a0 : Int32) (a1 : Int32) (a2 : Int32) (a3 : Int32) (sz : Nat) (hF : x_X7_breaksTie a0 a1 a2 a3 u = some (r, u1)) : Met l yX7_breaksTie (Cond.code yX7_breaksTie cX7_breaksTie 7 (some .boolean) :: wK) { frames := 4, cells := 0, slots := 0, locals := 91 } (va_Pc [.ref (Q 8), .int a0, .int a1, .int a2, .int a3] (cPM G Z Q D T u sz)) (cQi G Q T u1 r (va_A (cW G Q D T u) sz)) 0 0 (va_A (cW G Q D T u) sz) := by
  refine Met.ofW (cc := cX7_breaksTie) (maxL := 7) (ret := (some .boolean)) (by decide) rfl ?_
  intro p e s m args below meth c s₁ B hml hv
  obtain ⟨rfl, rfl, hP, hB, hD0, hE⟩ := hv
  have hr := B.returns
  have hlocks := B.notSynchronized
  have hts := atoms_spec (ws := Cond.code yX7_breaksTie cX7_breaksTie 7 (some .boolean) :: wK) B.pre
  have hD := hD0.self (sz := s.heap.size)
  have hA : ∀ q : Nat, s.heap.size ≤ q → va_A (cW G Q D T u) s.heap.size q := fun q h => Or.inr h
  generalize va_A (cW G Q D T u) s.heap.size = A at hD hA hE ⊢
  have hC : cX p c cX7_breaksTie 7 s m _ RX7 G Z A := ⟨B.exec, B.bytes, hml, findClass_of_methodNamed B.named, fun w h => hts w (List.mem_cons_of_mem _ h), hB, hE, hA⟩
  have hx := hC.1
  have hb := hC.2.1
  have hH : cH G Q D T A u s s.heap [] := ⟨hP, hD, va_S.rf⟩
  have hl := lv_entry ([.ref (Q 8), .int a0, .int a1, .int a2, .int a3]) (n := 7) (Nat.le_of_ble_eq_true rfl)
  rw [lg_entry_eq]
  generalize (lg_sl ([.ref (Q 8), .int a0, .int a1, .int a2, .int a3]) ++ List.replicate (7 - (lg_sl ([.ref (Q 8), .int a0, .int a1, .int a2, .int a3])).length) Slot.unset).toArray = ls at hl ⊢
  have hl : lv_has ls 7 [(0, .ref (Q 8)), (1, .int a0), (2, .int a1), (3, .int a2), (4, .int a3)] := hl
  unfold x_X7_breaksTie at hF
  refine lv_iload hx hb dX7_breaksTie_0 (lv_at hl 4 rfl) ?_
  refine lv_iconst (v := 2) hx hb dX7_breaksTie_2 (by decide) ?_
  refine lv_icmp_ne (tgt := 14) hx hb dX7_breaksTie_3 (by decide) (fun c_1 => ?_) (fun c_1 => ?_)
  · rw [if_neg c_1] at hF
    refine lv_aload_n hx hb dX7_breaksTie_14 rfl (lv_at hl 0 rfl) ?_
    refine cg_X7_9 hC hH dX7_breaksTie_15 ?_
    refine lv_iload_n hx hb dX7_breaksTie_18 rfl (lv_at hl 2 rfl) ?_
    refine lv_iconst (v := 2) hx hb dX7_breaksTie_19 (by decide) ?_
    obtain ⟨r_2, u_3, h_4, hF⟩ := ob_some hF
    refine ccS_i (As := [.int a1, .int 2]) (rest := [.ref (Q 1)]) hC hH (n_X1_ofFighter l G Z Q _ T u u_3 r_2 a1 2 _ h_4) ⟨wkc_X1_ofFighter, wka346, wka436, wka745⟩ kSX1_ofFighter ⟨Nat.le_of_ble_eq_true rfl, Nat.le_of_ble_eq_true rfl⟩ rfl hl.1 rfl (Nat.le_of_ble_eq_true rfl) dX7_breaksTie_20 (fun D H locs hH => ?_)
    refine bat (i := 1) (j := 11) hC hH rfl rfl (by decide) wka337 ⟨Nat.le_of_ble_eq_true rfl, Nat.le_of_ble_eq_true rfl⟩ hl.1 (Nat.le_of_ble_eq_true rfl) ⟨Nat.zero_le _, Nat.zero_le _⟩ dX7_breaksTie_23 ?_
    obtain ⟨x_5, e_6, hF⟩ := li_some hF
    refine gx_ti e_6 ?_
    refine lv_istore (lv' := [(5, .int x_5), (0, .ref (Q 8)), (1, .int a0), (2, .int a1), (3, .int a2), (4, .int a3)]) hx hb dX7_breaksTie_26 hl (by decide) rfl (fun ls hl => ?_)
    refine lv_aload_n hx hb dX7_breaksTie_28 rfl (lv_at hl 1 rfl) ?_
    refine cg_X7_9 hC hH dX7_breaksTie_29 ?_
    refine lv_iload_n hx hb dX7_breaksTie_32 rfl (lv_at hl 4 rfl) ?_
    refine lv_iconst (v := 2) hx hb dX7_breaksTie_33 (by decide) ?_
    obtain ⟨r_7, u_8, h_9, hF⟩ := ob_some hF
    refine ccS_i (As := [.int a2, .int 2]) (rest := [.ref (Q 1)]) hC hH (n_X1_ofFighter l G Z Q _ T u_3 u_8 r_7 a2 2 _ h_9) ⟨wkc_X1_ofFighter, wka346, wka436, wka745⟩ kSX1_ofFighter ⟨Nat.le_of_ble_eq_true rfl, Nat.le_of_ble_eq_true rfl⟩ rfl hl.1 rfl (Nat.le_of_ble_eq_true rfl) dX7_breaksTie_34 (fun D H locs hH => ?_)
    refine bat (i := 1) (j := 11) hC hH rfl rfl (by decide) wka337 ⟨Nat.le_of_ble_eq_true rfl, Nat.le_of_ble_eq_true rfl⟩ hl.1 (Nat.le_of_ble_eq_true rfl) ⟨Nat.zero_le _, Nat.zero_le _⟩ dX7_breaksTie_37 ?_
    obtain ⟨x_10, e_11, hF⟩ := li_some hF
    refine gx_ti e_11 ?_
    refine lv_istore (lv' := [(6, .int x_10), (5, .int x_5), (0, .ref (Q 8)), (1, .int a0), (2, .int a1), (3, .int a2), (4, .int a3)]) hx hb dX7_breaksTie_40 hl (by decide) rfl (fun ls hl => ?_)
    refine lv_iload hx hb dX7_breaksTie_42 (lv_at hl 1 rfl) ?_
    refine lv_iload hx hb dX7_breaksTie_44 (lv_at hl 0 rfl) ?_
    refine lv_icmp_eq (tgt := 64) hx hb dX7_breaksTie_46 (by decide) (fun c_12 => ?_) (fun c_12 => ?_)
    · rw [if_pos c_12] at hF
      refine lv_iload_n hx hb dX7_breaksTie_64 rfl (lv_at hl 4 rfl) ?_
      refine lv_iload_n hx hb dX7_breaksTie_65 rfl (lv_at hl 5 rfl) ?_
      refine lv_icmp_ge (tgt := 73) hx hb dX7_breaksTie_66 (by decide) (fun c_13 => ?_) (fun c_13 => ?_)
      · rw [if_pos c_13] at hF
        refine lv_iconst (v := 0) hx hb dX7_breaksTie_73 (by decide) ?_
        exact cr_z hC hH hr rfl hF dX7_breaksTie_74 hlocks
      · rw [if_neg c_13] at hF
        refine lv_iconst (v := 1) hx hb dX7_breaksTie_69 (by decide) ?_
        refine lv_goto (tgt := 74) hx hb dX7_breaksTie_70 (by decide) ?_
        exact cr_z hC hH hr rfl hF dX7_breaksTie_74 hlocks
    · rw [if_neg c_12] at hF
      refine lv_iload hx hb dX7_breaksTie_49 (lv_at hl 1 rfl) ?_
      refine lv_iload hx hb dX7_breaksTie_51 (lv_at hl 0 rfl) ?_
      refine lv_icmp_ge (tgt := 60) hx hb dX7_breaksTie_53 (by decide) (fun c_14 => ?_) (fun c_14 => ?_)
      · rw [if_pos c_14] at hF
        refine lv_iconst (v := 0) hx hb dX7_breaksTie_60 (by decide) ?_
        refine lv_goto (tgt := 74) hx hb dX7_breaksTie_61 (by decide) ?_
        exact cr_z hC hH hr rfl hF dX7_breaksTie_74 hlocks
      · rw [if_neg c_14] at hF
        refine lv_iconst (v := 1) hx hb dX7_breaksTie_56 (by decide) ?_
        refine lv_goto (tgt := 74) hx hb dX7_breaksTie_57 (by decide) ?_
        exact cr_z hC hH hr rfl hF dX7_breaksTie_74 hlocks
  · rw [if_pos c_1] at hF
    refine lv_aload_n hx hb dX7_breaksTie_6 rfl (lv_at hl 0 rfl) ?_
    refine lv_iload_n hx hb dX7_breaksTie_7 rfl (lv_at hl 1 rfl) ?_
    refine lv_iload_n hx hb dX7_breaksTie_8 rfl (lv_at hl 2 rfl) ?_
    refine lv_iload_n hx hb dX7_breaksTie_9 rfl (lv_at hl 3 rfl) ?_
    obtain ⟨r_15, u_16, h_17, hF⟩ := ob_some hF
    refine ccV_i (q0 := 8) (As := [.int a0, .int a1, .int a2]) (rest := []) hC hH (n_X7_beat l G Z Q _ T u u_16 r_15 a0 a1 a2 _ h_17) rfl rfl ⟨wkc_X7_beat, wka344, wka626, wka627, wka751⟩ kVX7_beat ⟨Nat.le_of_ble_eq_true rfl, Nat.le_of_ble_eq_true rfl⟩ rfl hl.1 rfl (Nat.le_of_ble_eq_true rfl) dX7_breaksTie_10 (fun D H locs hH => ?_)
    obtain ⟨g_18, hF⟩ := og_some hF
    exact cr_z hC hH hr g_18 hF dX7_breaksTie_13 hlocks
def xl_X7_aheadOf_8 : Nat → Int32 → Int32 → Int32 → Int32 → Int32 → MS → (Int32 → Int32 → Int32 → Int32 → Int32 → MS → Option (Int32 × MS)) → Option (Int32 × MS)
  | 0, _, _, _, _, _, _, _ => none
  | n8 + 1, v1, v2, v3, v4, v5, u, K8_52 => ob (x_X0_sizeOf v1 u) (fun r_1 u_2 => (if r_1 ≤ v5 then K8_52 v1 v2 v3 v4 v5 u_2 else ob (x_X7_member v1 v5 u_2) (fun r_5 u_6 => ob (x_X7_areAlike r_5 v2 u_6) (fun r_8 u_9 => (if r_8 = 0 then li (v4 + 0) (fun x_12 => li (v5 + 1) (fun x_14 => xl_X7_aheadOf_8 n8 v1 v2 v3 x_12 x_14 u_9 K8_52)) else li (v4 + 1) (fun x_16 => li (v5 + 1) (fun x_18 => xl_X7_aheadOf_8 n8 v1 v2 v3 x_16 x_18 u_9 K8_52)))))))
def xl_X7_aheadOf_55 : Nat → Int32 → Int32 → Int32 → Int32 → Int32 → MS → (Int32 → Int32 → Int32 → Int32 → Int32 → MS → Option (Int32 × MS)) → Option (Int32 × MS)
  | 0, _, _, _, _, _, _, _ => none
  | n55 + 1, v1, v2, v3, v4, v5, u, K55_141 => ob (x_X0_sizeOf v1 u) (fun r_20 u_21 => (if r_20 ≤ v5 then K55_141 v1 v2 v3 v4 v5 u_21 else ob (x_X7_member v1 v5 u_21) (fun r_24 u_25 => ob (x_X7_areAlike r_24 v2 u_25) (fun r_27 u_28 => (if r_27 = 0 then ob (x_X7_hasMore r_24 v2 u_28) (fun r_31 u_32 => (if r_31 = 0 then li (v3 + 0) (fun x_35 => li (v5 + 1) (fun x_37 => xl_X7_aheadOf_55 n55 v1 v2 x_35 v4 x_37 u_32 K55_141)) else li (v3 + 1) (fun x_39 => li (v5 + 1) (fun x_41 => xl_X7_aheadOf_55 n55 v1 v2 x_39 v4 x_41 u_32 K55_141)))) else (if r_24 = v2 then li (v3 + 0) (fun x_44 => li (v5 + 1) (fun x_46 => xl_X7_aheadOf_55 n55 v1 v2 x_44 v4 x_46 u_28 K55_141)) else ob (x_X7_breaksTie v1 r_24 v2 v4 u_28) (fun r_48 u_49 => (if r_48 = 0 then li (v3 + 0) (fun x_52 => li (v5 + 1) (fun x_54 => xl_X7_aheadOf_55 n55 v1 v2 x_52 v4 x_54 u_49 K55_141)) else li (v3 + 1) (fun x_56 => li (v5 + 1) (fun x_58 => xl_X7_aheadOf_55 n55 v1 v2 x_56 v4 x_58 u_49 K55_141))))))))))
def x_X7_aheadOf (a0 : Int32) (a1 : Int32) (u : MS) : Option (Int32 × MS) := xl_X7_aheadOf_8 fuel a0 a1 0 0 0 u (fun v1 v2 v3 v4 v5 u => xl_X7_aheadOf_55 fuel v1 v2 v3 v4 0 u (fun v1 v2 v3 v4 v5 u => some (v3, u)))
set_option maxHeartbeats 4000000 in
set_option maxRecDepth 100000 in
theorem n_X7_aheadOf (l : Launch) (G : gG) (Z : gC) (Q : Nat → Nat) (D : Nat × Nat) (T : va_W) (u u1 : MS) (r : Int32) (a0 : Int32) (a1 : Int32) (sz : Nat) (hF : x_X7_aheadOf a0 a1 u = some (r, u1)) : Met l yX7_aheadOf (Cond.code yX7_aheadOf cX7_aheadOf 7 (some .int) :: wK) { frames := 5, cells := 0, slots := 0, locals := 117 } (va_Pc [.ref (Q 8), .int a0, .int a1] (cPM G Z Q D T u sz)) (cQi G Q T u1 r (va_A (cW G Q D T u) sz)) 0 0 (va_A (cW G Q D T u) sz) := by
  refine Met.ofW (cc := cX7_aheadOf) (maxL := 7) (ret := (some .int)) (by decide) rfl ?_
  intro p e s m args below meth c s₁ B hml hv
  obtain ⟨rfl, rfl, hP, hB, hD0, hE⟩ := hv
  have hr := B.returns
  have hlocks := B.notSynchronized
  have hts := atoms_spec (ws := Cond.code yX7_aheadOf cX7_aheadOf 7 (some .int) :: wK) B.pre
  have hD := hD0.self (sz := s.heap.size)
  have hA : ∀ q : Nat, s.heap.size ≤ q → va_A (cW G Q D T u) s.heap.size q := fun q h => Or.inr h
  generalize va_A (cW G Q D T u) s.heap.size = A at hD hA hE ⊢
  have hC : cX p c cX7_aheadOf 7 s m _ RX7 G Z A := ⟨B.exec, B.bytes, hml, findClass_of_methodNamed B.named, fun w h => hts w (List.mem_cons_of_mem _ h), hB, hE, hA⟩
  have hx := hC.1
  have hb := hC.2.1
  have hH : cH G Q D T A u s s.heap [] := ⟨hP, hD, va_S.rf⟩
  have hl := lv_entry ([.ref (Q 8), .int a0, .int a1]) (n := 7) (Nat.le_of_ble_eq_true rfl)
  rw [lg_entry_eq]
  generalize (lg_sl ([.ref (Q 8), .int a0, .int a1]) ++ List.replicate (7 - (lg_sl ([.ref (Q 8), .int a0, .int a1])).length) Slot.unset).toArray = ls at hl ⊢
  have hl : lv_has ls 7 [(0, .ref (Q 8)), (1, .int a0), (2, .int a1)] := hl
  unfold x_X7_aheadOf at hF
  refine lv_iconst (v := 0) hx hb dX7_aheadOf_0 (by decide) ?_
  refine lv_istore_n (lv' := [(3, .int 0), (0, .ref (Q 8)), (1, .int a0), (2, .int a1)]) hx hb dX7_aheadOf_1 rfl hl (by decide) rfl (fun ls hl => ?_)
  refine lv_iconst (v := 0) hx hb dX7_aheadOf_2 (by decide) ?_
  refine lv_istore (lv' := [(4, .int 0), (3, .int 0), (0, .ref (Q 8)), (1, .int a0), (2, .int a1)]) hx hb dX7_aheadOf_3 hl (by decide) rfl (fun ls hl => ?_)
  refine lv_iconst (v := 0) hx hb dX7_aheadOf_5 (by decide) ?_
  refine lv_istore (lv' := [(5, .int 0), (4, .int 0), (3, .int 0), (0, .ref (Q 8)), (1, .int a0), (2, .int a1)]) hx hb dX7_aheadOf_6 hl (by decide) rfl (fun ls hl => ?_)
  have hL8 : ∀ (K8_52 : Int32 → Int32 → Int32 → Int32 → Int32 → MS → Option (Int32 × MS)), (∀ (v1 v2 v3 v4 v5 : Int32) (u : MS) (D : Nat × Nat) (H : Heap) (locs : List Loc) (ls : Array Slot), lv_has ls 7 [(0, .ref (Q 8)), (1, .int v1), (2, .int v2), (3, .int v3), (4, .int v4), (5, .int v5)] → cH G Q D T A u s H locs → K8_52 v1 v2 v3 v4 v5 u = some (r, u1) → W p l e (headSpec (Cond.code yX7_aheadOf cX7_aheadOf 7 (some .int) :: wK) { frames := 5, cells := 0, slots := 0, locals := 117 }).room s m [.ref (Q 8), .int a0, .int a1].toArray below meth c H locs 0 0 (MQ below (cQi G Q T u1 r A) [.ref (Q 8), .int a0, .int a1].toArray s 0 0 A) (F0 m 52 ls [])) → ∀ (n8 : Nat) (v1 v2 v3 v4 v5 : Int32) (u : MS) (D : Nat × Nat) (H : Heap) (locs : List Loc) (ls : Array Slot), lv_has ls 7 [(0, .ref (Q 8)), (1, .int v1), (2, .int v2), (3, .int v3), (4, .int v4), (5, .int v5)] → cH G Q D T A u s H locs → xl_X7_aheadOf_8 n8 v1 v2 v3 v4 v5 u K8_52 = some (r, u1) → W p l e (headSpec (Cond.code yX7_aheadOf cX7_aheadOf 7 (some .int) :: wK) { frames := 5, cells := 0, slots := 0, locals := 117 }).room s m [.ref (Q 8), .int a0, .int a1].toArray below meth c H locs 0 0 (MQ below (cQi G Q T u1 r A) [.ref (Q 8), .int a0, .int a1].toArray s 0 0 A) (F0 m 8 ls []) := by
    intro K8_52 hK8_52 n8
    induction n8 with
    | zero => intro v1 v2 v3 v4 v5 u D H locs ls hl hH hF; cases hF
    | succ n8 ih8 =>
      intro v1 v2 v3 v4 v5 u D H locs ls hl hH hF
      unfold xl_X7_aheadOf_8 at hF
      refine lv_iload hx hb dX7_aheadOf_8 (lv_at hl 5 rfl) ?_
      refine lv_aload_n hx hb dX7_aheadOf_10 rfl (lv_at hl 0 rfl) ?_
      refine cg_X7_15 hC hH dX7_aheadOf_11 ?_
      refine lv_iload_n hx hb dX7_aheadOf_14 rfl (lv_at hl 1 rfl) ?_
      obtain ⟨r_1, u_2, h_3, hF⟩ := ob_some hF
      refine ccV_i (q0 := 6) (As := [.int v1]) (rest := [.int v5]) hC hH (n_X0_sizeOf l G Z Q _ T u u_2 r_1 v1 _ h_3) rfl rfl ⟨wkc_X0_sizeOf, wka338, wka390, wka391, wka744⟩ kVX0_sizeOf ⟨Nat.le_of_ble_eq_true rfl, Nat.le_of_ble_eq_true rfl⟩ rfl hl.1 rfl (Nat.le_of_ble_eq_true rfl) dX7_aheadOf_15 (fun D H locs hH => ?_)
      refine lv_icmp_ge (tgt := 52) hx hb dX7_aheadOf_18 (by decide) (fun c_4 => ?_) (fun c_4 => ?_)
      · rw [if_pos c_4] at hF
        exact hK8_52 v1 v2 v3 v4 v5 u_2 _ _ _ _ (lv_sub hl [0, 1, 2, 3, 4, 5] rfl) hH hF
      · rw [if_neg c_4] at hF
        refine lv_iload hx hb dX7_aheadOf_21 (lv_at hl 4 rfl) ?_
        refine lv_aload_n hx hb dX7_aheadOf_23 rfl (lv_at hl 0 rfl) ?_
        refine lv_aload_n hx hb dX7_aheadOf_24 rfl (lv_at hl 0 rfl) ?_
        refine lv_iload_n hx hb dX7_aheadOf_25 rfl (lv_at hl 1 rfl) ?_
        refine lv_iload hx hb dX7_aheadOf_26 (lv_at hl 5 rfl) ?_
        obtain ⟨r_5, u_6, h_7, hF⟩ := ob_some hF
        refine ccV_i (q0 := 8) (As := [.int v1, .int v5]) (rest := [.ref (Q 8), .int v4]) hC hH (n_X7_member l G Z Q _ T u_2 u_6 r_5 v1 v5 _ h_7) rfl rfl ⟨wkc_X7_member, wka339, wka614, wka615, wka751⟩ kVX7_member ⟨Nat.le_of_ble_eq_true rfl, Nat.le_of_ble_eq_true rfl⟩ rfl hl.1 rfl (Nat.le_of_ble_eq_true rfl) dX7_aheadOf_28 (fun D H locs hH => ?_)
        refine lv_iload_n hx hb dX7_aheadOf_31 rfl (lv_at hl 2 rfl) ?_
        obtain ⟨r_8, u_9, h_10, hF⟩ := ob_some hF
        refine ccV_i (q0 := 8) (As := [.int r_5, .int v2]) (rest := [.int v4]) hC hH (n_X7_areAlike l G Z Q _ T u_6 u_9 r_8 r_5 v2 _ h_10) rfl rfl ⟨wkc_X7_areAlike, wka342, wka620, wka621, wka751⟩ kVX7_areAlike ⟨Nat.le_of_ble_eq_true rfl, Nat.le_of_ble_eq_true rfl⟩ rfl hl.1 rfl (Nat.le_of_ble_eq_true rfl) dX7_aheadOf_32 (fun D H locs hH => ?_)
        refine lv_if_eq (tgt := 42) hx hb dX7_aheadOf_35 (by decide) (fun c_11 => ?_) (fun c_11 => ?_)
        · rw [if_pos c_11] at hF
          refine lv_iconst (v := 0) hx hb dX7_aheadOf_42 (by decide) ?_
          refine lv_iadd hx hb dX7_aheadOf_43 ?_
          obtain ⟨x_12, e_13, hF⟩ := li_some hF
          refine gx_ti e_13 ?_
          refine lv_istore (lv' := [(4, .int x_12), (0, .ref (Q 8)), (1, .int v1), (2, .int v2), (3, .int v3), (5, .int v5)]) hx hb dX7_aheadOf_44 hl (by decide) rfl (fun ls hl => ?_)
          obtain ⟨x_14, e_15, hF⟩ := li_some hF
          refine lv_iinc (v := x_14) (lv' := [(5, .int x_14), (4, .int x_12), (0, .ref (Q 8)), (1, .int v1), (2, .int v2), (3, .int v3)]) hx hb dX7_aheadOf_46 hl (k := 5) rfl e_15 (by decide) rfl (fun ls hl => ?_)
          refine lv_goto (tgt := 8) hx hb dX7_aheadOf_49 (by decide) ?_
          exact ih8 v1 v2 v3 x_12 x_14 u_9 _ _ _ _ (lv_sub hl [2, 3, 4, 5, 1, 0] rfl) hH hF
        · rw [if_neg c_11] at hF
          refine lv_iconst (v := 1) hx hb dX7_aheadOf_38 (by decide) ?_
          refine lv_goto (tgt := 43) hx hb dX7_aheadOf_39 (by decide) ?_
          refine lv_iadd hx hb dX7_aheadOf_43 ?_
          obtain ⟨x_16, e_17, hF⟩ := li_some hF
          refine gx_ti e_17 ?_
          refine lv_istore (lv' := [(4, .int x_16), (0, .ref (Q 8)), (1, .int v1), (2, .int v2), (3, .int v3), (5, .int v5)]) hx hb dX7_aheadOf_44 hl (by decide) rfl (fun ls hl => ?_)
          obtain ⟨x_18, e_19, hF⟩ := li_some hF
          refine lv_iinc (v := x_18) (lv' := [(5, .int x_18), (4, .int x_16), (0, .ref (Q 8)), (1, .int v1), (2, .int v2), (3, .int v3)]) hx hb dX7_aheadOf_46 hl (k := 5) rfl e_19 (by decide) rfl (fun ls hl => ?_)
          refine lv_goto (tgt := 8) hx hb dX7_aheadOf_49 (by decide) ?_
          exact ih8 v1 v2 v3 x_16 x_18 u_9 _ _ _ _ (lv_sub hl [2, 3, 4, 5, 1, 0] rfl) hH hF
  refine hL8 _ (fun v1 v2 v3 v4 v5 u D H locs ls hl hH hF => ?_) fuel a0 a1 0 0 0 u _ _ _ _ (lv_sub hl [3, 4, 5, 2, 1, 0] rfl) hH hF
  refine lv_iconst (v := 0) hx hb dX7_aheadOf_52 (by decide) ?_
  refine lv_istore (lv' := [(5, .int 0), (0, .ref (Q 8)), (1, .int v1), (2, .int v2), (3, .int v3), (4, .int v4)]) hx hb dX7_aheadOf_53 hl (by decide) rfl (fun ls hl => ?_)
  have hL55 : ∀ (K55_141 : Int32 → Int32 → Int32 → Int32 → Int32 → MS → Option (Int32 × MS)), (∀ (v1 v2 v3 v4 v5 : Int32) (u : MS) (D : Nat × Nat) (H : Heap) (locs : List Loc) (ls : Array Slot), lv_has ls 7 [(0, .ref (Q 8)), (1, .int v1), (2, .int v2), (3, .int v3), (4, .int v4), (5, .int v5)] → cH G Q D T A u s H locs → K55_141 v1 v2 v3 v4 v5 u = some (r, u1) → W p l e (headSpec (Cond.code yX7_aheadOf cX7_aheadOf 7 (some .int) :: wK) { frames := 5, cells := 0, slots := 0, locals := 117 }).room s m [.ref (Q 8), .int a0, .int a1].toArray below meth c H locs 0 0 (MQ below (cQi G Q T u1 r A) [.ref (Q 8), .int a0, .int a1].toArray s 0 0 A) (F0 m 141 ls [])) → ∀ (n55 : Nat) (v1 v2 v3 v4 v5 : Int32) (u : MS) (D : Nat × Nat) (H : Heap) (locs : List Loc) (ls : Array Slot), lv_has ls 7 [(0, .ref (Q 8)), (1, .int v1), (2, .int v2), (3, .int v3), (4, .int v4), (5, .int v5)] → cH G Q D T A u s H locs → xl_X7_aheadOf_55 n55 v1 v2 v3 v4 v5 u K55_141 = some (r, u1) → W p l e (headSpec (Cond.code yX7_aheadOf cX7_aheadOf 7 (some .int) :: wK) { frames := 5, cells := 0, slots := 0, locals := 117 }).room s m [.ref (Q 8), .int a0, .int a1].toArray below meth c H locs 0 0 (MQ below (cQi G Q T u1 r A) [.ref (Q 8), .int a0, .int a1].toArray s 0 0 A) (F0 m 55 ls []) := by
    intro K55_141 hK55_141 n55
    induction n55 with
    | zero => intro v1 v2 v3 v4 v5 u D H locs ls hl hH hF; cases hF
    | succ n55 ih55 =>
      intro v1 v2 v3 v4 v5 u D H locs ls hl hH hF
      unfold xl_X7_aheadOf_55 at hF
      refine lv_iload hx hb dX7_aheadOf_55 (lv_at hl 5 rfl) ?_
      refine lv_aload_n hx hb dX7_aheadOf_57 rfl (lv_at hl 0 rfl) ?_
      refine cg_X7_15 hC hH dX7_aheadOf_58 ?_
      refine lv_iload_n hx hb dX7_aheadOf_61 rfl (lv_at hl 1 rfl) ?_
      obtain ⟨r_20, u_21, h_22, hF⟩ := ob_some hF
      refine ccV_i (q0 := 6) (As := [.int v1]) (rest := [.int v5]) hC hH (n_X0_sizeOf l G Z Q _ T u u_21 r_20 v1 _ h_22) rfl rfl ⟨wkc_X0_sizeOf, wka338, wka390, wka391, wka744⟩ kVX0_sizeOf ⟨Nat.le_of_ble_eq_true rfl, Nat.le_of_ble_eq_true rfl⟩ rfl hl.1 rfl (Nat.le_of_ble_eq_true rfl) dX7_aheadOf_62 (fun D H locs hH => ?_)
      refine lv_icmp_ge (tgt := 141) hx hb dX7_aheadOf_65 (by decide) (fun c_23 => ?_) (fun c_23 => ?_)
      · rw [if_pos c_23] at hF
        exact hK55_141 v1 v2 v3 v4 v5 u_21 _ _ _ _ (lv_sub hl [0, 1, 2, 3, 4, 5] rfl) hH hF
      · rw [if_neg c_23] at hF
        refine lv_aload_n hx hb dX7_aheadOf_68 rfl (lv_at hl 0 rfl) ?_
        refine lv_iload_n hx hb dX7_aheadOf_69 rfl (lv_at hl 1 rfl) ?_
        refine lv_iload hx hb dX7_aheadOf_70 (lv_at hl 5 rfl) ?_
        obtain ⟨r_24, u_25, h_26, hF⟩ := ob_some hF
        refine ccV_i (q0 := 8) (As := [.int v1, .int v5]) (rest := []) hC hH (n_X7_member l G Z Q _ T u_21 u_25 r_24 v1 v5 _ h_26) rfl rfl ⟨wkc_X7_member, wka339, wka614, wka615, wka751⟩ kVX7_member ⟨Nat.le_of_ble_eq_true rfl, Nat.le_of_ble_eq_true rfl⟩ rfl hl.1 rfl (Nat.le_of_ble_eq_true rfl) dX7_aheadOf_72 (fun D H locs hH => ?_)
        refine lv_istore (lv' := [(6, .int r_24), (0, .ref (Q 8)), (1, .int v1), (2, .int v2), (3, .int v3), (4, .int v4), (5, .int v5)]) hx hb dX7_aheadOf_75 hl (by decide) rfl (fun ls hl => ?_)
        refine lv_aload_n hx hb dX7_aheadOf_77 rfl (lv_at hl 1 rfl) ?_
        refine lv_iload hx hb dX7_aheadOf_78 (lv_at hl 0 rfl) ?_
        refine lv_iload_n hx hb dX7_aheadOf_80 rfl (lv_at hl 3 rfl) ?_
        obtain ⟨r_27, u_28, h_29, hF⟩ := ob_some hF
        refine ccV_i (q0 := 8) (As := [.int r_24, .int v2]) (rest := []) hC hH (n_X7_areAlike l G Z Q _ T u_25 u_28 r_27 r_24 v2 _ h_29) rfl rfl ⟨wkc_X7_areAlike, wka342, wka620, wka621, wka751⟩ kVX7_areAlike ⟨Nat.le_of_ble_eq_true rfl, Nat.le_of_ble_eq_true rfl⟩ rfl hl.1 rfl (Nat.le_of_ble_eq_true rfl) dX7_aheadOf_81 (fun D H locs hH => ?_)
        refine lv_if_eq (tgt := 117) hx hb dX7_aheadOf_84 (by decide) (fun c_30 => ?_) (fun c_30 => ?_)
        · rw [if_pos c_30] at hF
          refine lv_iload_n hx hb dX7_aheadOf_117 rfl (lv_at hl 4 rfl) ?_
          refine lv_aload_n hx hb dX7_aheadOf_118 rfl (lv_at hl 1 rfl) ?_
          refine lv_iload hx hb dX7_aheadOf_119 (lv_at hl 0 rfl) ?_
          refine lv_iload_n hx hb dX7_aheadOf_121 rfl (lv_at hl 3 rfl) ?_
          obtain ⟨r_31, u_32, h_33, hF⟩ := ob_some hF
          refine ccV_i (q0 := 8) (As := [.int r_24, .int v2]) (rest := [.int v3]) hC hH (n_X7_hasMore l G Z Q _ T u_28 u_32 r_31 r_24 v2 _ h_33) rfl rfl ⟨wkc_X7_hasMore, wka347, wka622, wka623, wka751⟩ kVX7_hasMore ⟨Nat.le_of_ble_eq_true rfl, Nat.le_of_ble_eq_true rfl⟩ rfl hl.1 rfl (Nat.le_of_ble_eq_true rfl) dX7_aheadOf_122 (fun D H locs hH => ?_)
          refine lv_if_eq (tgt := 132) hx hb dX7_aheadOf_125 (by decide) (fun c_34 => ?_) (fun c_34 => ?_)
          · rw [if_pos c_34] at hF
            refine lv_iconst (v := 0) hx hb dX7_aheadOf_132 (by decide) ?_
            refine lv_iadd hx hb dX7_aheadOf_133 ?_
            obtain ⟨x_35, e_36, hF⟩ := li_some hF
            refine gx_ti e_36 ?_
            refine lv_istore_n (lv' := [(3, .int x_35), (6, .int r_24), (0, .ref (Q 8)), (1, .int v1), (2, .int v2), (4, .int v4), (5, .int v5)]) hx hb dX7_aheadOf_134 rfl hl (by decide) rfl (fun ls hl => ?_)
            obtain ⟨x_37, e_38, hF⟩ := li_some hF
            refine lv_iinc (v := x_37) (lv' := [(5, .int x_37), (3, .int x_35), (6, .int r_24), (0, .ref (Q 8)), (1, .int v1), (2, .int v2), (4, .int v4)]) hx hb dX7_aheadOf_135 hl (k := 6) rfl e_38 (by decide) rfl (fun ls hl => ?_)
            refine lv_goto (tgt := 55) hx hb dX7_aheadOf_138 (by decide) ?_
            exact ih55 v1 v2 x_35 v4 x_37 u_32 _ _ _ _ (lv_sub hl [3, 4, 5, 1, 6, 0] rfl) hH hF
          · rw [if_neg c_34] at hF
            refine lv_iconst (v := 1) hx hb dX7_aheadOf_128 (by decide) ?_
            refine lv_goto (tgt := 133) hx hb dX7_aheadOf_129 (by decide) ?_
            refine lv_iadd hx hb dX7_aheadOf_133 ?_
            obtain ⟨x_39, e_40, hF⟩ := li_some hF
            refine gx_ti e_40 ?_
            refine lv_istore_n (lv' := [(3, .int x_39), (6, .int r_24), (0, .ref (Q 8)), (1, .int v1), (2, .int v2), (4, .int v4), (5, .int v5)]) hx hb dX7_aheadOf_134 rfl hl (by decide) rfl (fun ls hl => ?_)
            obtain ⟨x_41, e_42, hF⟩ := li_some hF
            refine lv_iinc (v := x_41) (lv' := [(5, .int x_41), (3, .int x_39), (6, .int r_24), (0, .ref (Q 8)), (1, .int v1), (2, .int v2), (4, .int v4)]) hx hb dX7_aheadOf_135 hl (k := 6) rfl e_42 (by decide) rfl (fun ls hl => ?_)
            refine lv_goto (tgt := 55) hx hb dX7_aheadOf_138 (by decide) ?_
            exact ih55 v1 v2 x_39 v4 x_41 u_32 _ _ _ _ (lv_sub hl [3, 4, 5, 1, 6, 0] rfl) hH hF
        · rw [if_neg c_30] at hF
          refine lv_iload_n hx hb dX7_aheadOf_87 rfl (lv_at hl 4 rfl) ?_
          refine lv_iload hx hb dX7_aheadOf_88 (lv_at hl 0 rfl) ?_
          refine lv_iload_n hx hb dX7_aheadOf_90 rfl (lv_at hl 3 rfl) ?_
          refine lv_icmp_eq (tgt := 111) hx hb dX7_aheadOf_91 (by decide) (fun c_43 => ?_) (fun c_43 => ?_)
          · rw [if_pos c_43] at hF
            refine lv_iconst (v := 0) hx hb dX7_aheadOf_111 (by decide) ?_
            refine lv_iadd hx hb dX7_aheadOf_112 ?_
            obtain ⟨x_44, e_45, hF⟩ := li_some hF
            refine gx_ti e_45 ?_
            refine lv_istore_n (lv' := [(3, .int x_44), (6, .int r_24), (0, .ref (Q 8)), (1, .int v1), (2, .int v2), (4, .int v4), (5, .int v5)]) hx hb dX7_aheadOf_113 rfl hl (by decide) rfl (fun ls hl => ?_)
            refine lv_goto (tgt := 135) hx hb dX7_aheadOf_114 (by decide) ?_
            obtain ⟨x_46, e_47, hF⟩ := li_some hF
            refine lv_iinc (v := x_46) (lv' := [(5, .int x_46), (3, .int x_44), (6, .int r_24), (0, .ref (Q 8)), (1, .int v1), (2, .int v2), (4, .int v4)]) hx hb dX7_aheadOf_135 hl (k := 6) rfl e_47 (by decide) rfl (fun ls hl => ?_)
            refine lv_goto (tgt := 55) hx hb dX7_aheadOf_138 (by decide) ?_
            exact ih55 v1 v2 x_44 v4 x_46 u_28 _ _ _ _ (lv_sub hl [3, 4, 5, 1, 6, 0] rfl) hH hF
          · rw [if_neg c_43] at hF
            refine lv_aload_n hx hb dX7_aheadOf_94 rfl (lv_at hl 1 rfl) ?_
            refine lv_iload_n hx hb dX7_aheadOf_95 rfl (lv_at hl 2 rfl) ?_
            refine lv_iload hx hb dX7_aheadOf_96 (lv_at hl 0 rfl) ?_
            refine lv_iload_n hx hb dX7_aheadOf_98 rfl (lv_at hl 3 rfl) ?_
            refine lv_iload hx hb dX7_aheadOf_99 (lv_at hl 5 rfl) ?_
            obtain ⟨r_48, u_49, h_50, hF⟩ := ob_some hF
            refine ccV_i (q0 := 8) (As := [.int v1, .int r_24, .int v2, .int v4]) (rest := [.int v3]) hC hH (n_X7_breaksTie l G Z Q _ T u_28 u_49 r_48 v1 r_24 v2 v4 _ h_50) rfl rfl ⟨wkc_X7_breaksTie, wka343, wka624, wka625, wka751⟩ kVX7_breaksTie ⟨Nat.le_of_ble_eq_true rfl, Nat.le_of_ble_eq_true rfl⟩ rfl hl.1 rfl (Nat.le_of_ble_eq_true rfl) dX7_aheadOf_101 (fun D H locs hH => ?_)
            refine lv_if_eq (tgt := 111) hx hb dX7_aheadOf_104 (by decide) (fun c_51 => ?_) (fun c_51 => ?_)
            · rw [if_pos c_51] at hF
              refine lv_iconst (v := 0) hx hb dX7_aheadOf_111 (by decide) ?_
              refine lv_iadd hx hb dX7_aheadOf_112 ?_
              obtain ⟨x_52, e_53, hF⟩ := li_some hF
              refine gx_ti e_53 ?_
              refine lv_istore_n (lv' := [(3, .int x_52), (6, .int r_24), (0, .ref (Q 8)), (1, .int v1), (2, .int v2), (4, .int v4), (5, .int v5)]) hx hb dX7_aheadOf_113 rfl hl (by decide) rfl (fun ls hl => ?_)
              refine lv_goto (tgt := 135) hx hb dX7_aheadOf_114 (by decide) ?_
              obtain ⟨x_54, e_55, hF⟩ := li_some hF
              refine lv_iinc (v := x_54) (lv' := [(5, .int x_54), (3, .int x_52), (6, .int r_24), (0, .ref (Q 8)), (1, .int v1), (2, .int v2), (4, .int v4)]) hx hb dX7_aheadOf_135 hl (k := 6) rfl e_55 (by decide) rfl (fun ls hl => ?_)
              refine lv_goto (tgt := 55) hx hb dX7_aheadOf_138 (by decide) ?_
              exact ih55 v1 v2 x_52 v4 x_54 u_49 _ _ _ _ (lv_sub hl [3, 4, 5, 1, 6, 0] rfl) hH hF
            · rw [if_neg c_51] at hF
              refine lv_iconst (v := 1) hx hb dX7_aheadOf_107 (by decide) ?_
              refine lv_goto (tgt := 112) hx hb dX7_aheadOf_108 (by decide) ?_
              refine lv_iadd hx hb dX7_aheadOf_112 ?_
              obtain ⟨x_56, e_57, hF⟩ := li_some hF
              refine gx_ti e_57 ?_
              refine lv_istore_n (lv' := [(3, .int x_56), (6, .int r_24), (0, .ref (Q 8)), (1, .int v1), (2, .int v2), (4, .int v4), (5, .int v5)]) hx hb dX7_aheadOf_113 rfl hl (by decide) rfl (fun ls hl => ?_)
              refine lv_goto (tgt := 135) hx hb dX7_aheadOf_114 (by decide) ?_
              obtain ⟨x_58, e_59, hF⟩ := li_some hF
              refine lv_iinc (v := x_58) (lv' := [(5, .int x_58), (3, .int x_56), (6, .int r_24), (0, .ref (Q 8)), (1, .int v1), (2, .int v2), (4, .int v4)]) hx hb dX7_aheadOf_135 hl (k := 6) rfl e_59 (by decide) rfl (fun ls hl => ?_)
              refine lv_goto (tgt := 55) hx hb dX7_aheadOf_138 (by decide) ?_
              exact ih55 v1 v2 x_56 v4 x_58 u_49 _ _ _ _ (lv_sub hl [3, 4, 5, 1, 6, 0] rfl) hH hF
  refine hL55 _ (fun v1 v2 v3 v4 v5 u D H locs ls hl hH hF => ?_) fuel v1 v2 v3 v4 0 u _ _ _ _ (lv_sub hl [1, 2, 3, 4, 5, 0] rfl) hH hF
  refine lv_iload_n hx hb dX7_aheadOf_141 rfl (lv_at hl 3 rfl) ?_
  exact cr_i hC hH hr hF dX7_aheadOf_142 hlocks
def xl_X7_ofPool_29 : Nat → Int32 → Int32 → Int32 → MS → (Int32 → Int32 → Int32 → MS → Option (Int32 × MS)) → Option (Int32 × MS)
  | 0, _, _, _, _, _ => none
  | n29 + 1, v1, v2, v3, u, K29_69 => ob (x_X0_sizeOf v1 u) (fun r_11 u_12 => (if r_11 ≤ v3 then K29_69 v1 v2 v3 u_12 else ob (x_X7_member v1 v3 u_12) (fun r_15 u_16 => ob (x_X7_aheadOf v1 r_15 u_16) (fun r_18 u_19 => (if r_18 = v2 then ob (x_X7_member v1 v3 u_19) (fun r_24 u_25 => some (r_24, u_25)) else li (v3 + 1) (fun x_22 => xl_X7_ofPool_29 n29 v1 v2 x_22 u_19 K29_69))))))
def x_X7_ofPool (a0 : Int32) (a1 : Int32) (u : MS) : Option (Int32 × MS) := ob (x_X0_howMany a0 3 u) (fun r_1 u_2 => ob (x_X0_fightsOf a0 u_2) (fun r_4 u_5 => (if r_4 ≤ r_1 then ob (x_X7_addUp a0 u_5) (fun r_8 u_9 => xl_X7_ofPool_29 fuel a0 a1 0 u_9 (fun v1 v2 v3 u => some (-1, u))) else some (-1, u_5))))
set_option maxHeartbeats 4000000 in
set_option maxRecDepth 100000 in
theorem n_X7_ofPool (l : Launch) (G : gG) (Z : gC) (Q : Nat → Nat) (D : Nat × Nat) (T : va_W) (u u1 : MS) (r : Int32) (a0 : Int32) (a1 : Int32) (sz : Nat) (hF : x_X7_ofPool a0 a1 u = some (r, u1)) : Met l yX7_ofPool (Cond.code yX7_ofPool cX7_ofPool 4 (some .int) :: wK) { frames := 6, cells := 0, slots := 0, locals := 143 } (va_Pc [.ref (Q 8), .int a0, .int a1] (cPM G Z Q D T u sz)) (cQi G Q T u1 r (va_A (cW G Q D T u) sz)) 0 0 (va_A (cW G Q D T u) sz) := by
  refine Met.ofW (cc := cX7_ofPool) (maxL := 4) (ret := (some .int)) (by decide) rfl ?_
  intro p e s m args below meth c s₁ B hml hv
  obtain ⟨rfl, rfl, hP, hB, hD0, hE⟩ := hv
  have hr := B.returns
  have hlocks := B.notSynchronized
  have hts := atoms_spec (ws := Cond.code yX7_ofPool cX7_ofPool 4 (some .int) :: wK) B.pre
  have hD := hD0.self (sz := s.heap.size)
  have hA : ∀ q : Nat, s.heap.size ≤ q → va_A (cW G Q D T u) s.heap.size q := fun q h => Or.inr h
  generalize va_A (cW G Q D T u) s.heap.size = A at hD hA hE ⊢
  have hC : cX p c cX7_ofPool 4 s m _ RX7 G Z A := ⟨B.exec, B.bytes, hml, findClass_of_methodNamed B.named, fun w h => hts w (List.mem_cons_of_mem _ h), hB, hE, hA⟩
  have hx := hC.1
  have hb := hC.2.1
  have hH : cH G Q D T A u s s.heap [] := ⟨hP, hD, va_S.rf⟩
  have hl := lv_entry ([.ref (Q 8), .int a0, .int a1]) (n := 4) (Nat.le_of_ble_eq_true rfl)
  rw [lg_entry_eq]
  generalize (lg_sl ([.ref (Q 8), .int a0, .int a1]) ++ List.replicate (4 - (lg_sl ([.ref (Q 8), .int a0, .int a1])).length) Slot.unset).toArray = ls at hl ⊢
  have hl : lv_has ls 4 [(0, .ref (Q 8)), (1, .int a0), (2, .int a1)] := hl
  unfold x_X7_ofPool at hF
  refine lv_aload_n hx hb dX7_ofPool_0 rfl (lv_at hl 0 rfl) ?_
  refine cg_X7_15 hC hH dX7_ofPool_1 ?_
  refine lv_iload_n hx hb dX7_ofPool_4 rfl (lv_at hl 1 rfl) ?_
  refine lv_iconst (v := 3) hx hb dX7_ofPool_5 (by decide) ?_
  obtain ⟨r_1, u_2, h_3, hF⟩ := ob_some hF
  refine ccV_i (q0 := 6) (As := [.int a0, .int 3]) (rest := []) hC hH (n_X0_howMany l G Z Q _ T u u_2 r_1 a0 3 _ h_3) rfl rfl ⟨wkc_X0_howMany, wka329, wka411, wka412, wka744⟩ kVX0_howMany ⟨Nat.le_of_ble_eq_true rfl, Nat.le_of_ble_eq_true rfl⟩ rfl hl.1 rfl (Nat.le_of_ble_eq_true rfl) dX7_ofPool_6 (fun D H locs hH => ?_)
  refine lv_aload_n hx hb dX7_ofPool_9 rfl (lv_at hl 0 rfl) ?_
  refine cg_X7_15 hC hH dX7_ofPool_10 ?_
  refine lv_iload_n hx hb dX7_ofPool_13 rfl (lv_at hl 1 rfl) ?_
  obtain ⟨r_4, u_5, h_6, hF⟩ := ob_some hF
  refine ccV_i (q0 := 6) (As := [.int a0]) (rest := [.int r_1]) hC hH (n_X0_fightsOf l G Z Q _ T u_2 u_5 r_4 a0 _ h_6) rfl rfl ⟨wkc_X0_fightsOf, wka330, wka396, wka397, wka744⟩ kVX0_fightsOf ⟨Nat.le_of_ble_eq_true rfl, Nat.le_of_ble_eq_true rfl⟩ rfl hl.1 rfl (Nat.le_of_ble_eq_true rfl) dX7_ofPool_14 (fun D H locs hH => ?_)
  refine lv_icmp_ge (tgt := 22) hx hb dX7_ofPool_17 (by decide) (fun c_7 => ?_) (fun c_7 => ?_)
  · rw [if_pos c_7] at hF
    refine lv_aload_n hx hb dX7_ofPool_22 rfl (lv_at hl 0 rfl) ?_
    refine lv_iload_n hx hb dX7_ofPool_23 rfl (lv_at hl 1 rfl) ?_
    obtain ⟨r_8, u_9, h_10, hF⟩ := ob_some hF
    refine ccV_v (q0 := 8) (As := [.int a0]) (rest := []) hC hH (n_X7_addUp l G Z Q _ T u_5 u_9 r_8 a0 _ h_10) rfl rfl ⟨wkc_X7_addUp, wka331, wka616, wka617, wka751⟩ kVX7_addUp ⟨Nat.le_of_ble_eq_true rfl, Nat.le_of_ble_eq_true rfl⟩ rfl hl.1 rfl (Nat.le_of_ble_eq_true rfl) dX7_ofPool_24 (fun D H locs hH => ?_)
    refine lv_iconst (v := 0) hx hb dX7_ofPool_27 (by decide) ?_
    refine lv_istore_n (lv' := [(3, .int 0), (0, .ref (Q 8)), (1, .int a0), (2, .int a1)]) hx hb dX7_ofPool_28 rfl hl (by decide) rfl (fun ls hl => ?_)
    have hL29 : ∀ (K29_69 : Int32 → Int32 → Int32 → MS → Option (Int32 × MS)), (∀ (v1 v2 v3 : Int32) (u : MS) (D : Nat × Nat) (H : Heap) (locs : List Loc) (ls : Array Slot), lv_has ls 4 [(0, .ref (Q 8)), (1, .int v1), (2, .int v2), (3, .int v3)] → cH G Q D T A u s H locs → K29_69 v1 v2 v3 u = some (r, u1) → W p l e (headSpec (Cond.code yX7_ofPool cX7_ofPool 4 (some .int) :: wK) { frames := 6, cells := 0, slots := 0, locals := 143 }).room s m [.ref (Q 8), .int a0, .int a1].toArray below meth c H locs 0 0 (MQ below (cQi G Q T u1 r A) [.ref (Q 8), .int a0, .int a1].toArray s 0 0 A) (F0 m 69 ls [])) → ∀ (n29 : Nat) (v1 v2 v3 : Int32) (u : MS) (D : Nat × Nat) (H : Heap) (locs : List Loc) (ls : Array Slot), lv_has ls 4 [(0, .ref (Q 8)), (1, .int v1), (2, .int v2), (3, .int v3)] → cH G Q D T A u s H locs → xl_X7_ofPool_29 n29 v1 v2 v3 u K29_69 = some (r, u1) → W p l e (headSpec (Cond.code yX7_ofPool cX7_ofPool 4 (some .int) :: wK) { frames := 6, cells := 0, slots := 0, locals := 143 }).room s m [.ref (Q 8), .int a0, .int a1].toArray below meth c H locs 0 0 (MQ below (cQi G Q T u1 r A) [.ref (Q 8), .int a0, .int a1].toArray s 0 0 A) (F0 m 29 ls []) := by
      intro K29_69 hK29_69 n29
      induction n29 with
      | zero => intro v1 v2 v3 u D H locs ls hl hH hF; cases hF
      | succ n29 ih29 =>
        intro v1 v2 v3 u D H locs ls hl hH hF
        unfold xl_X7_ofPool_29 at hF
        refine lv_iload_n hx hb dX7_ofPool_29 rfl (lv_at hl 3 rfl) ?_
        refine lv_aload_n hx hb dX7_ofPool_30 rfl (lv_at hl 0 rfl) ?_
        refine cg_X7_15 hC hH dX7_ofPool_31 ?_
        refine lv_iload_n hx hb dX7_ofPool_34 rfl (lv_at hl 1 rfl) ?_
        obtain ⟨r_11, u_12, h_13, hF⟩ := ob_some hF
        refine ccV_i (q0 := 6) (As := [.int v1]) (rest := [.int v3]) hC hH (n_X0_sizeOf l G Z Q _ T u u_12 r_11 v1 _ h_13) rfl rfl ⟨wkc_X0_sizeOf, wka338, wka390, wka391, wka744⟩ kVX0_sizeOf ⟨Nat.le_of_ble_eq_true rfl, Nat.le_of_ble_eq_true rfl⟩ rfl hl.1 rfl (Nat.le_of_ble_eq_true rfl) dX7_ofPool_35 (fun D H locs hH => ?_)
        refine lv_icmp_ge (tgt := 69) hx hb dX7_ofPool_38 (by decide) (fun c_14 => ?_) (fun c_14 => ?_)
        · rw [if_pos c_14] at hF
          exact hK29_69 v1 v2 v3 u_12 _ _ _ _ (lv_sub hl [0, 1, 2, 3] rfl) hH hF
        · rw [if_neg c_14] at hF
          refine lv_aload_n hx hb dX7_ofPool_41 rfl (lv_at hl 0 rfl) ?_
          refine lv_iload_n hx hb dX7_ofPool_42 rfl (lv_at hl 1 rfl) ?_
          refine lv_aload_n hx hb dX7_ofPool_43 rfl (lv_at hl 0 rfl) ?_
          refine lv_iload_n hx hb dX7_ofPool_44 rfl (lv_at hl 1 rfl) ?_
          refine lv_iload_n hx hb dX7_ofPool_45 rfl (lv_at hl 3 rfl) ?_
          obtain ⟨r_15, u_16, h_17, hF⟩ := ob_some hF
          refine ccV_i (q0 := 8) (As := [.int v1, .int v3]) (rest := [.int v1, .ref (Q 8)]) hC hH (n_X7_member l G Z Q _ T u_12 u_16 r_15 v1 v3 _ h_17) rfl rfl ⟨wkc_X7_member, wka339, wka614, wka615, wka751⟩ kVX7_member ⟨Nat.le_of_ble_eq_true rfl, Nat.le_of_ble_eq_true rfl⟩ rfl hl.1 rfl (Nat.le_of_ble_eq_true rfl) dX7_ofPool_46 (fun D H locs hH => ?_)
          obtain ⟨r_18, u_19, h_20, hF⟩ := ob_some hF
          refine ccV_i (q0 := 8) (As := [.int v1, .int r_15]) (rest := []) hC hH (n_X7_aheadOf l G Z Q _ T u_16 u_19 r_18 v1 r_15 _ h_20) rfl rfl ⟨wkc_X7_aheadOf, wka341, wka618, wka619, wka751⟩ kVX7_aheadOf ⟨Nat.le_of_ble_eq_true rfl, Nat.le_of_ble_eq_true rfl⟩ rfl hl.1 rfl (Nat.le_of_ble_eq_true rfl) dX7_ofPool_49 (fun D H locs hH => ?_)
          refine lv_iload_n hx hb dX7_ofPool_52 rfl (lv_at hl 2 rfl) ?_
          refine lv_icmp_ne (tgt := 63) hx hb dX7_ofPool_53 (by decide) (fun c_21 => ?_) (fun c_21 => ?_)
          · rw [if_neg c_21] at hF
            obtain ⟨x_22, e_23, hF⟩ := li_some hF
            refine lv_iinc (v := x_22) (lv' := [(3, .int x_22), (0, .ref (Q 8)), (1, .int v1), (2, .int v2)]) hx hb dX7_ofPool_63 hl (k := 3) rfl e_23 (by decide) rfl (fun ls hl => ?_)
            refine lv_goto (tgt := 29) hx hb dX7_ofPool_66 (by decide) ?_
            exact ih29 v1 v2 x_22 u_19 _ _ _ _ (lv_sub hl [1, 2, 3, 0] rfl) hH hF
          · rw [if_pos c_21] at hF
            refine lv_aload_n hx hb dX7_ofPool_56 rfl (lv_at hl 0 rfl) ?_
            refine lv_iload_n hx hb dX7_ofPool_57 rfl (lv_at hl 1 rfl) ?_
            refine lv_iload_n hx hb dX7_ofPool_58 rfl (lv_at hl 3 rfl) ?_
            obtain ⟨r_24, u_25, h_26, hF⟩ := ob_some hF
            refine ccV_i (q0 := 8) (As := [.int v1, .int v3]) (rest := []) hC hH (n_X7_member l G Z Q _ T u_19 u_25 r_24 v1 v3 _ h_26) rfl rfl ⟨wkc_X7_member, wka339, wka614, wka615, wka751⟩ kVX7_member ⟨Nat.le_of_ble_eq_true rfl, Nat.le_of_ble_eq_true rfl⟩ rfl hl.1 rfl (Nat.le_of_ble_eq_true rfl) dX7_ofPool_59 (fun D H locs hH => ?_)
            exact cr_i hC hH hr hF dX7_ofPool_62 hlocks
    refine hL29 _ (fun v1 v2 v3 u D H locs ls hl hH hF => ?_) fuel a0 a1 0 u_9 _ _ _ _ (lv_sub hl [1, 2, 3, 0] rfl) hH hF
    refine lv_iconst (v := (-1)) hx hb dX7_ofPool_69 (by decide) ?_
    exact cr_i hC hH hr hF dX7_ofPool_70 hlocks
  · rw [if_neg c_7] at hF
    refine lv_iconst (v := (-1)) hx hb dX7_ofPool_20 (by decide) ?_
    exact cr_i hC hH hr hF dX7_ofPool_21 hlocks
def x_X8_people (u : MS) : Option (Int32 × MS) := some (rg (u.2 0) 2088 2, u)
set_option maxHeartbeats 4000000 in
set_option maxRecDepth 100000 in
theorem n_X8_people (l : Launch) (G : gG) (Z : gC) (Q : Nat → Nat) (D : Nat × Nat) (T : va_W) (u u1 : MS) (r : Int32) (sz : Nat) (hF : x_X8_people u = some (r, u1)) : Met l yX8_people (Cond.code yX8_people cX8_people 1 (some .int) :: wK) { frames := 1, cells := 0, slots := 0, locals := 22 } (va_Pc [.ref (Q 4)] (cPM G Z Q D T u sz)) (cQi G Q T u1 r (va_A (cW G Q D T u) sz)) 0 0 (va_A (cW G Q D T u) sz) := by
  refine Met.ofW (cc := cX8_people) (maxL := 1) (ret := (some .int)) (by decide) rfl ?_
  intro p e s m args below meth c s₁ B hml hv
  obtain ⟨rfl, rfl, hP, hB, hD0, hE⟩ := hv
  have hr := B.returns
  have hlocks := B.notSynchronized
  have hts := atoms_spec (ws := Cond.code yX8_people cX8_people 1 (some .int) :: wK) B.pre
  have hD := hD0.self (sz := s.heap.size)
  have hA : ∀ q : Nat, s.heap.size ≤ q → va_A (cW G Q D T u) s.heap.size q := fun q h => Or.inr h
  generalize va_A (cW G Q D T u) s.heap.size = A at hD hA hE ⊢
  have hC : cX p c cX8_people 1 s m _ RX8 G Z A := ⟨B.exec, B.bytes, hml, findClass_of_methodNamed B.named, fun w h => hts w (List.mem_cons_of_mem _ h), hB, hE, hA⟩
  have hx := hC.1
  have hb := hC.2.1
  have hH : cH G Q D T A u s s.heap [] := ⟨hP, hD, va_S.rf⟩
  have hl := lv_entry ([.ref (Q 4)]) (n := 1) (Nat.le_of_ble_eq_true rfl)
  rw [lg_entry_eq]
  generalize (lg_sl ([.ref (Q 4)]) ++ List.replicate (1 - (lg_sl ([.ref (Q 4)])).length) Slot.unset).toArray = ls at hl ⊢
  have hl : lv_has ls 1 [(0, .ref (Q 4))] := hl
  unfold x_X8_people at hF
  refine lv_aload_n hx hb dX8_people_0 rfl (lv_at hl 0 rfl) ?_
  refine cg_X8_9 hC hH dX8_people_1 ?_
  refine lv_iconst (v := 2) hx hb dX8_people_4 (by decide) ?_
  refine bat (i := 1) (j := 11) hC hH rfl rfl (by decide) wka216 ⟨Nat.le_of_ble_eq_true rfl, Nat.le_of_ble_eq_true rfl⟩ hl.1 (Nat.le_of_ble_eq_true rfl) ⟨Nat.zero_le _, Nat.zero_le _⟩ dX8_people_5 ?_
  exact cr_i hC hH hr hF dX8_people_8 hlocks
def x_X8_has (a0 : Int32) (u : MS) : Option (Int32 × MS) := (if a0 < 0 then some (0, u) else ob (x_X8_people u) (fun r_2 u_3 => (if r_2 ≤ a0 then some (0, u_3) else some (1, u_3))))
set_option maxHeartbeats 4000000 in
set_option maxRecDepth 100000 in
theorem n_X8_has (l : Launch) (G : gG) (Z : gC) (Q : Nat → Nat) (D : Nat × Nat) (T : va_W) (u u1 : MS) (r : Int32) (a0 : Int32) (sz : Nat) (hF : x_X8_has a0 u = some (r, u1)) : Met l yX8_has (Cond.code yX8_has cX8_has 2 (some .boolean) :: wK) { frames := 2, cells := 0, slots := 0, locals := 42 } (va_Pc [.ref (Q 4), .int a0] (cPM G Z Q D T u sz)) (cQi G Q T u1 r (va_A (cW G Q D T u) sz)) 0 0 (va_A (cW G Q D T u) sz) := by
  refine Met.ofW (cc := cX8_has) (maxL := 2) (ret := (some .boolean)) (by decide) rfl ?_
  intro p e s m args below meth c s₁ B hml hv
  obtain ⟨rfl, rfl, hP, hB, hD0, hE⟩ := hv
  have hr := B.returns
  have hlocks := B.notSynchronized
  have hts := atoms_spec (ws := Cond.code yX8_has cX8_has 2 (some .boolean) :: wK) B.pre
  have hD := hD0.self (sz := s.heap.size)
  have hA : ∀ q : Nat, s.heap.size ≤ q → va_A (cW G Q D T u) s.heap.size q := fun q h => Or.inr h
  generalize va_A (cW G Q D T u) s.heap.size = A at hD hA hE ⊢
  have hC : cX p c cX8_has 2 s m _ RX8 G Z A := ⟨B.exec, B.bytes, hml, findClass_of_methodNamed B.named, fun w h => hts w (List.mem_cons_of_mem _ h), hB, hE, hA⟩
  have hx := hC.1
  have hb := hC.2.1
  have hH : cH G Q D T A u s s.heap [] := ⟨hP, hD, va_S.rf⟩
  have hl := lv_entry ([.ref (Q 4), .int a0]) (n := 2) (Nat.le_of_ble_eq_true rfl)
  rw [lg_entry_eq]
  generalize (lg_sl ([.ref (Q 4), .int a0]) ++ List.replicate (2 - (lg_sl ([.ref (Q 4), .int a0])).length) Slot.unset).toArray = ls at hl ⊢
  have hl : lv_has ls 2 [(0, .ref (Q 4)), (1, .int a0)] := hl
  unfold x_X8_has at hF
  refine lv_iload_n hx hb dX8_has_0 rfl (lv_at hl 1 rfl) ?_
  refine lv_if_lt (tgt := 16) hx hb dX8_has_1 (by decide) (fun c_1 => ?_) (fun c_1 => ?_)
  · rw [if_pos c_1] at hF
    refine lv_iconst (v := 0) hx hb dX8_has_16 (by decide) ?_
    exact cr_z hC hH hr rfl hF dX8_has_17 hlocks
  · rw [if_neg c_1] at hF
    refine lv_iload_n hx hb dX8_has_4 rfl (lv_at hl 1 rfl) ?_
    refine lv_aload_n hx hb dX8_has_5 rfl (lv_at hl 0 rfl) ?_
    obtain ⟨r_2, u_3, h_4, hF⟩ := ob_some hF
    refine ccV_i (q0 := 4) (As := []) (rest := [.int a0]) hC hH (n_X8_people l G Z Q _ T u u_3 r_2 _ h_4) rfl rfl ⟨wkc_X8_people, wka215, wka628, wka629, wka752⟩ kVX8_people ⟨Nat.le_of_ble_eq_true rfl, Nat.le_of_ble_eq_true rfl⟩ rfl hl.1 rfl (Nat.le_of_ble_eq_true rfl) dX8_has_6 (fun D H locs hH => ?_)
    refine lv_icmp_ge (tgt := 16) hx hb dX8_has_9 (by decide) (fun c_5 => ?_) (fun c_5 => ?_)
    · rw [if_pos c_5] at hF
      refine lv_iconst (v := 0) hx hb dX8_has_16 (by decide) ?_
      exact cr_z hC hH hr rfl hF dX8_has_17 hlocks
    · rw [if_neg c_5] at hF
      refine lv_iconst (v := 1) hx hb dX8_has_12 (by decide) ?_
      refine lv_goto (tgt := 17) hx hb dX8_has_13 (by decide) ?_
      exact cr_z hC hH hr rfl hF dX8_has_17 hlocks
def x_X8_classOf (a0 : Int32) (u : MS) : Option (Int32 × MS) := ob (x_X1_ofFighter a0 0 u) (fun r_1 u_2 => some (rg (u_2.2 0) 2088 r_1, u_2))
set_option maxHeartbeats 4000000 in
set_option maxRecDepth 100000 in
theorem n_X8_classOf (l : Launch) (G : gG) (Z : gC) (Q : Nat → Nat) (D : Nat × Nat) (T : va_W) (u u1 : MS) (r : Int32) (a0 : Int32) (sz : Nat) (hF : x_X8_classOf a0 u = some (r, u1)) : Met l yX8_classOf (Cond.code yX8_classOf cX8_classOf 2 (some .int) :: wK) { frames := 1, cells := 0, slots := 0, locals := 22 } (va_Pc [.ref (Q 4), .int a0] (cPM G Z Q D T u sz)) (cQi G Q T u1 r (va_A (cW G Q D T u) sz)) 0 0 (va_A (cW G Q D T u) sz) := by
  refine Met.ofW (cc := cX8_classOf) (maxL := 2) (ret := (some .int)) (by decide) rfl ?_
  intro p e s m args below meth c s₁ B hml hv
  obtain ⟨rfl, rfl, hP, hB, hD0, hE⟩ := hv
  have hr := B.returns
  have hlocks := B.notSynchronized
  have hts := atoms_spec (ws := Cond.code yX8_classOf cX8_classOf 2 (some .int) :: wK) B.pre
  have hD := hD0.self (sz := s.heap.size)
  have hA : ∀ q : Nat, s.heap.size ≤ q → va_A (cW G Q D T u) s.heap.size q := fun q h => Or.inr h
  generalize va_A (cW G Q D T u) s.heap.size = A at hD hA hE ⊢
  have hC : cX p c cX8_classOf 2 s m _ RX8 G Z A := ⟨B.exec, B.bytes, hml, findClass_of_methodNamed B.named, fun w h => hts w (List.mem_cons_of_mem _ h), hB, hE, hA⟩
  have hx := hC.1
  have hb := hC.2.1
  have hH : cH G Q D T A u s s.heap [] := ⟨hP, hD, va_S.rf⟩
  have hl := lv_entry ([.ref (Q 4), .int a0]) (n := 2) (Nat.le_of_ble_eq_true rfl)
  rw [lg_entry_eq]
  generalize (lg_sl ([.ref (Q 4), .int a0]) ++ List.replicate (2 - (lg_sl ([.ref (Q 4), .int a0])).length) Slot.unset).toArray = ls at hl ⊢
  have hl : lv_has ls 2 [(0, .ref (Q 4)), (1, .int a0)] := hl
  unfold x_X8_classOf at hF
  refine lv_aload_n hx hb dX8_classOf_0 rfl (lv_at hl 0 rfl) ?_
  refine cg_X8_9 hC hH dX8_classOf_1 ?_
  refine lv_iload_n hx hb dX8_classOf_4 rfl (lv_at hl 1 rfl) ?_
  refine lv_iconst (v := 0) hx hb dX8_classOf_5 (by decide) ?_
  obtain ⟨r_1, u_2, h_3, hF⟩ := ob_some hF
  refine ccS_i (As := [.int a0, .int 0]) (rest := [.ref (Q 1)]) hC hH (n_X1_ofFighter l G Z Q _ T u u_2 r_1 a0 0 _ h_3) ⟨wkc_X1_ofFighter, wka218, wka436, wka745⟩ kSX1_ofFighter ⟨Nat.le_of_ble_eq_true rfl, Nat.le_of_ble_eq_true rfl⟩ rfl hl.1 rfl (Nat.le_of_ble_eq_true rfl) dX8_classOf_6 (fun D H locs hH => ?_)
  refine bat (i := 1) (j := 11) hC hH rfl rfl (by decide) wka216 ⟨Nat.le_of_ble_eq_true rfl, Nat.le_of_ble_eq_true rfl⟩ hl.1 (Nat.le_of_ble_eq_true rfl) ⟨Nat.zero_le _, Nat.zero_le _⟩ dX8_classOf_9 ?_
  exact cr_i hC hH hr hF dX8_classOf_12 hlocks
def xl_X8_wasAnyAtScales_2 : Nat → Int32 → Int32 → MS → (Int32 → Int32 → MS → Option (Int32 × MS)) → Option (Int32 × MS)
  | 0, _, _, _, _ => none
  | n2 + 1, v1, v2, u, K2_42 => ob (x_X8_people u) (fun r_1 u_2 => (if r_1 ≤ v2 then K2_42 v1 v2 u_2 else ob (x_X8_classOf v2 u_2) (fun r_5 u_6 => (if r_5 = v1 then ob (x_X1_ofFighter v2 3 u_6) (fun r_11 u_12 => (if (rg (u_12.2 0) 2088 r_11) = 0 then li (v2 + 1) (fun x_15 => xl_X8_wasAnyAtScales_2 n2 v1 x_15 u_12 K2_42) else some (1, u_12))) else li (v2 + 1) (fun x_9 => xl_X8_wasAnyAtScales_2 n2 v1 x_9 u_6 K2_42)))))
def x_X8_wasAnyAtScales (a0 : Int32) (u : MS) : Option (Int32 × MS) := xl_X8_wasAnyAtScales_2 fuel a0 0 u (fun v1 v2 u => some (0, u))
set_option maxHeartbeats 4000000 in
set_option maxRecDepth 100000 in
theorem n_X8_wasAnyAtScales (l : Launch) (G : gG) (Z : gC) (Q : Nat → Nat) (D : Nat × Nat) (T : va_W) (u u1 : MS) (r : Int32) (a0 : Int32) (sz : Nat) (hF : x_X8_wasAnyAtScales a0 u = some (r, u1)) : Met l yX8_wasAnyAtScales (Cond.code yX8_wasAnyAtScales cX8_wasAnyAtScales 3 (some .boolean) :: wK) { frames := 2, cells := 0, slots := 0, locals := 43 } (va_Pc [.ref (Q 4), .int a0] (cPM G Z Q D T u sz)) (cQi G Q T u1 r (va_A (cW G Q D T u) sz)) 0 0 (va_A (cW G Q D T u) sz) := by
  refine Met.ofW (cc := cX8_wasAnyAtScales) (maxL := 3) (ret := (some .boolean)) (by decide) rfl ?_
  intro p e s m args below meth c s₁ B hml hv
  obtain ⟨rfl, rfl, hP, hB, hD0, hE⟩ := hv
  have hr := B.returns
  have hlocks := B.notSynchronized
  have hts := atoms_spec (ws := Cond.code yX8_wasAnyAtScales cX8_wasAnyAtScales 3 (some .boolean) :: wK) B.pre
  have hD := hD0.self (sz := s.heap.size)
  have hA : ∀ q : Nat, s.heap.size ≤ q → va_A (cW G Q D T u) s.heap.size q := fun q h => Or.inr h
  generalize va_A (cW G Q D T u) s.heap.size = A at hD hA hE ⊢
  have hC : cX p c cX8_wasAnyAtScales 3 s m _ RX8 G Z A := ⟨B.exec, B.bytes, hml, findClass_of_methodNamed B.named, fun w h => hts w (List.mem_cons_of_mem _ h), hB, hE, hA⟩
  have hx := hC.1
  have hb := hC.2.1
  have hH : cH G Q D T A u s s.heap [] := ⟨hP, hD, va_S.rf⟩
  have hl := lv_entry ([.ref (Q 4), .int a0]) (n := 3) (Nat.le_of_ble_eq_true rfl)
  rw [lg_entry_eq]
  generalize (lg_sl ([.ref (Q 4), .int a0]) ++ List.replicate (3 - (lg_sl ([.ref (Q 4), .int a0])).length) Slot.unset).toArray = ls at hl ⊢
  have hl : lv_has ls 3 [(0, .ref (Q 4)), (1, .int a0)] := hl
  unfold x_X8_wasAnyAtScales at hF
  refine lv_iconst (v := 0) hx hb dX8_wasAnyAtScales_0 (by decide) ?_
  refine lv_istore_n (lv' := [(2, .int 0), (0, .ref (Q 4)), (1, .int a0)]) hx hb dX8_wasAnyAtScales_1 rfl hl (by decide) rfl (fun ls hl => ?_)
  have hL2 : ∀ (K2_42 : Int32 → Int32 → MS → Option (Int32 × MS)), (∀ (v1 v2 : Int32) (u : MS) (D : Nat × Nat) (H : Heap) (locs : List Loc) (ls : Array Slot), lv_has ls 3 [(0, .ref (Q 4)), (1, .int v1), (2, .int v2)] → cH G Q D T A u s H locs → K2_42 v1 v2 u = some (r, u1) → W p l e (headSpec (Cond.code yX8_wasAnyAtScales cX8_wasAnyAtScales 3 (some .boolean) :: wK) { frames := 2, cells := 0, slots := 0, locals := 43 }).room s m [.ref (Q 4), .int a0].toArray below meth c H locs 0 0 (MQ below (cQi G Q T u1 r A) [.ref (Q 4), .int a0].toArray s 0 0 A) (F0 m 42 ls [])) → ∀ (n2 : Nat) (v1 v2 : Int32) (u : MS) (D : Nat × Nat) (H : Heap) (locs : List Loc) (ls : Array Slot), lv_has ls 3 [(0, .ref (Q 4)), (1, .int v1), (2, .int v2)] → cH G Q D T A u s H locs → xl_X8_wasAnyAtScales_2 n2 v1 v2 u K2_42 = some (r, u1) → W p l e (headSpec (Cond.code yX8_wasAnyAtScales cX8_wasAnyAtScales 3 (some .boolean) :: wK) { frames := 2, cells := 0, slots := 0, locals := 43 }).room s m [.ref (Q 4), .int a0].toArray below meth c H locs 0 0 (MQ below (cQi G Q T u1 r A) [.ref (Q 4), .int a0].toArray s 0 0 A) (F0 m 2 ls []) := by
    intro K2_42 hK2_42 n2
    induction n2 with
    | zero => intro v1 v2 u D H locs ls hl hH hF; cases hF
    | succ n2 ih2 =>
      intro v1 v2 u D H locs ls hl hH hF
      unfold xl_X8_wasAnyAtScales_2 at hF
      refine lv_iload_n hx hb dX8_wasAnyAtScales_2 rfl (lv_at hl 2 rfl) ?_
      refine lv_aload_n hx hb dX8_wasAnyAtScales_3 rfl (lv_at hl 0 rfl) ?_
      obtain ⟨r_1, u_2, h_3, hF⟩ := ob_some hF
      refine ccV_i (q0 := 4) (As := []) (rest := [.int v2]) hC hH (n_X8_people l G Z Q _ T u u_2 r_1 _ h_3) rfl rfl ⟨wkc_X8_people, wka215, wka628, wka629, wka752⟩ kVX8_people ⟨Nat.le_of_ble_eq_true rfl, Nat.le_of_ble_eq_true rfl⟩ rfl hl.1 rfl (Nat.le_of_ble_eq_true rfl) dX8_wasAnyAtScales_4 (fun D H locs hH => ?_)
      refine lv_icmp_ge (tgt := 42) hx hb dX8_wasAnyAtScales_7 (by decide) (fun c_4 => ?_) (fun c_4 => ?_)
      · rw [if_pos c_4] at hF
        exact hK2_42 v1 v2 u_2 _ _ _ _ (lv_sub hl [0, 1, 2] rfl) hH hF
      · rw [if_neg c_4] at hF
        refine lv_aload_n hx hb dX8_wasAnyAtScales_10 rfl (lv_at hl 0 rfl) ?_
        refine lv_iload_n hx hb dX8_wasAnyAtScales_11 rfl (lv_at hl 2 rfl) ?_
        obtain ⟨r_5, u_6, h_7, hF⟩ := ob_some hF
        refine ccV_i (q0 := 4) (As := [.int v2]) (rest := []) hC hH (n_X8_classOf l G Z Q _ T u_2 u_6 r_5 v2 _ h_7) rfl rfl ⟨wkc_X8_classOf, wka217, wka632, wka633, wka752⟩ kVX8_classOf ⟨Nat.le_of_ble_eq_true rfl, Nat.le_of_ble_eq_true rfl⟩ rfl hl.1 rfl (Nat.le_of_ble_eq_true rfl) dX8_wasAnyAtScales_12 (fun D H locs hH => ?_)
        refine lv_iload_n hx hb dX8_wasAnyAtScales_15 rfl (lv_at hl 1 rfl) ?_
        refine lv_icmp_ne (tgt := 36) hx hb dX8_wasAnyAtScales_16 (by decide) (fun c_8 => ?_) (fun c_8 => ?_)
        · rw [if_neg c_8] at hF
          obtain ⟨x_9, e_10, hF⟩ := li_some hF
          refine lv_iinc (v := x_9) (lv' := [(2, .int x_9), (0, .ref (Q 4)), (1, .int v1)]) hx hb dX8_wasAnyAtScales_36 hl (k := 2) rfl e_10 (by decide) rfl (fun ls hl => ?_)
          refine lv_goto (tgt := 2) hx hb dX8_wasAnyAtScales_39 (by decide) ?_
          exact ih2 v1 x_9 u_6 _ _ _ _ (lv_sub hl [1, 2, 0] rfl) hH hF
        · rw [if_pos c_8] at hF
          refine lv_aload_n hx hb dX8_wasAnyAtScales_19 rfl (lv_at hl 0 rfl) ?_
          refine cg_X8_9 hC hH dX8_wasAnyAtScales_20 ?_
          refine lv_iload_n hx hb dX8_wasAnyAtScales_23 rfl (lv_at hl 2 rfl) ?_
          refine lv_iconst (v := 3) hx hb dX8_wasAnyAtScales_24 (by decide) ?_
          obtain ⟨r_11, u_12, h_13, hF⟩ := ob_some hF
          refine ccS_i (As := [.int v2, .int 3]) (rest := [.ref (Q 1)]) hC hH (n_X1_ofFighter l G Z Q _ T u_6 u_12 r_11 v2 3 _ h_13) ⟨wkc_X1_ofFighter, wka218, wka436, wka745⟩ kSX1_ofFighter ⟨Nat.le_of_ble_eq_true rfl, Nat.le_of_ble_eq_true rfl⟩ rfl hl.1 rfl (Nat.le_of_ble_eq_true rfl) dX8_wasAnyAtScales_25 (fun D H locs hH => ?_)
          refine bat (i := 1) (j := 11) hC hH rfl rfl (by decide) wka216 ⟨Nat.le_of_ble_eq_true rfl, Nat.le_of_ble_eq_true rfl⟩ hl.1 (Nat.le_of_ble_eq_true rfl) ⟨Nat.zero_le _, Nat.zero_le _⟩ dX8_wasAnyAtScales_28 ?_
          refine lv_if_eq (tgt := 36) hx hb dX8_wasAnyAtScales_31 (by decide) (fun c_14 => ?_) (fun c_14 => ?_)
          · rw [if_pos c_14] at hF
            obtain ⟨x_15, e_16, hF⟩ := li_some hF
            refine lv_iinc (v := x_15) (lv' := [(2, .int x_15), (0, .ref (Q 4)), (1, .int v1)]) hx hb dX8_wasAnyAtScales_36 hl (k := 2) rfl e_16 (by decide) rfl (fun ls hl => ?_)
            refine lv_goto (tgt := 2) hx hb dX8_wasAnyAtScales_39 (by decide) ?_
            exact ih2 v1 x_15 u_12 _ _ _ _ (lv_sub hl [1, 2, 0] rfl) hH hF
          · rw [if_neg c_14] at hF
            refine lv_iconst (v := 1) hx hb dX8_wasAnyAtScales_34 (by decide) ?_
            exact cr_z hC hH hr rfl hF dX8_wasAnyAtScales_35 hlocks
  refine hL2 _ (fun v1 v2 u D H locs ls hl hH hF => ?_) fuel a0 0 u _ _ _ _ (lv_sub hl [1, 2, 0] rfl) hH hF
  refine lv_iconst (v := 0) hx hb dX8_wasAnyAtScales_42 (by decide) ?_
  exact cr_z hC hH hr rfl hF dX8_wasAnyAtScales_43 hlocks
def xl_X8_isSeedOfAnother_2 : Nat → Int32 → Int32 → Int32 → MS → (Int32 → Int32 → Int32 → MS → Option (Int32 × MS)) → Option (Int32 × MS)
  | 0, _, _, _, _, _ => none
  | n2 + 1, v1, v2, v3, u, K2_68 => ob (x_X8_people u) (fun r_1 u_2 => (if r_1 ≤ v3 then K2_68 v1 v2 v3 u_2 else (if v2 ≤ 0 then K2_68 v1 v2 v3 u_2 else (if v3 = v1 then (if (0 : Int32) = 0 then li (v3 + 1) (fun x_8 => xl_X8_isSeedOfAnother_2 n2 v1 v2 x_8 u_2 K2_68) else ob (x_X1_ofFighter v3 4 u_2) (fun r_10 u_11 => (if (rg (u_11.2 0) 2088 r_10) = v2 then some (1, u_11) else li (v3 + 1) (fun x_14 => xl_X8_isSeedOfAnother_2 n2 v1 v2 x_14 u_11 K2_68)))) else ob (x_X8_classOf v3 u_2) (fun r_16 u_17 => ob (x_X8_classOf v1 u_17) (fun r_19 u_20 => (if r_16 = r_19 then (if (1 : Int32) = 0 then li (v3 + 1) (fun x_33 => xl_X8_isSeedOfAnother_2 n2 v1 v2 x_33 u_20 K2_68) else ob (x_X1_ofFighter v3 4 u_20) (fun r_35 u_36 => (if (rg (u_36.2 0) 2088 r_35) = v2 then some (1, u_36) else li (v3 + 1) (fun x_39 => xl_X8_isSeedOfAnother_2 n2 v1 v2 x_39 u_36 K2_68)))) else (if (0 : Int32) = 0 then li (v3 + 1) (fun x_24 => xl_X8_isSeedOfAnother_2 n2 v1 v2 x_24 u_20 K2_68) else ob (x_X1_ofFighter v3 4 u_20) (fun r_26 u_27 => (if (rg (u_27.2 0) 2088 r_26) = v2 then some (1, u_27) else li (v3 + 1) (fun x_30 => xl_X8_isSeedOfAnother_2 n2 v1 v2 x_30 u_27 K2_68)))))))))))
def x_X8_isSeedOfAnother (a0 : Int32) (a1 : Int32) (u : MS) : Option (Int32 × MS) := xl_X8_isSeedOfAnother_2 fuel a0 a1 0 u (fun v1 v2 v3 u => some (0, u))
set_option maxHeartbeats 4000000 in
set_option maxRecDepth 100000 in
theorem n_X8_isSeedOfAnother (l : Launch) (G : gG) (Z : gC) (Q : Nat → Nat) (D : Nat × Nat) (T : va_W) (u u1 : MS) (r : Int32) (a0 : Int32) (a1 : Int32) (sz : Nat) (hF : x_X8_isSeedOfAnother a0 a1 u = some (r, u1)) : Met l yX8_isSeedOfAnother (Cond.code yX8_isSeedOfAnother cX8_isSeedOfAnother 5 (some .boolean) :: wK) { frames := 2, cells := 0, slots := 0, locals := 43 } (va_Pc [.ref (Q 4), .int a0, .int a1] (cPM G Z Q D T u sz)) (cQi G Q T u1 r (va_A (cW G Q D T u) sz)) 0 0 (va_A (cW G Q D T u) sz) := by
  refine Met.ofW (cc := cX8_isSeedOfAnother) (maxL := 5) (ret := (some .boolean)) (by decide) rfl ?_
  intro p e s m args below meth c s₁ B hml hv
  obtain ⟨rfl, rfl, hP, hB, hD0, hE⟩ := hv
  have hr := B.returns
  have hlocks := B.notSynchronized
  have hts := atoms_spec (ws := Cond.code yX8_isSeedOfAnother cX8_isSeedOfAnother 5 (some .boolean) :: wK) B.pre
  have hD := hD0.self (sz := s.heap.size)
  have hA : ∀ q : Nat, s.heap.size ≤ q → va_A (cW G Q D T u) s.heap.size q := fun q h => Or.inr h
  generalize va_A (cW G Q D T u) s.heap.size = A at hD hA hE ⊢
  have hC : cX p c cX8_isSeedOfAnother 5 s m _ RX8 G Z A := ⟨B.exec, B.bytes, hml, findClass_of_methodNamed B.named, fun w h => hts w (List.mem_cons_of_mem _ h), hB, hE, hA⟩
  have hx := hC.1
  have hb := hC.2.1
  have hH : cH G Q D T A u s s.heap [] := ⟨hP, hD, va_S.rf⟩
  have hl := lv_entry ([.ref (Q 4), .int a0, .int a1]) (n := 5) (Nat.le_of_ble_eq_true rfl)
  rw [lg_entry_eq]
  generalize (lg_sl ([.ref (Q 4), .int a0, .int a1]) ++ List.replicate (5 - (lg_sl ([.ref (Q 4), .int a0, .int a1])).length) Slot.unset).toArray = ls at hl ⊢
  have hl : lv_has ls 5 [(0, .ref (Q 4)), (1, .int a0), (2, .int a1)] := hl
  unfold x_X8_isSeedOfAnother at hF
  refine lv_iconst (v := 0) hx hb dX8_isSeedOfAnother_0 (by decide) ?_
  refine lv_istore_n (lv' := [(3, .int 0), (0, .ref (Q 4)), (1, .int a0), (2, .int a1)]) hx hb dX8_isSeedOfAnother_1 rfl hl (by decide) rfl (fun ls hl => ?_)
  have hL2 : ∀ (K2_68 : Int32 → Int32 → Int32 → MS → Option (Int32 × MS)), (∀ (v1 v2 v3 : Int32) (u : MS) (D : Nat × Nat) (H : Heap) (locs : List Loc) (ls : Array Slot), lv_has ls 5 [(0, .ref (Q 4)), (1, .int v1), (2, .int v2), (3, .int v3)] → cH G Q D T A u s H locs → K2_68 v1 v2 v3 u = some (r, u1) → W p l e (headSpec (Cond.code yX8_isSeedOfAnother cX8_isSeedOfAnother 5 (some .boolean) :: wK) { frames := 2, cells := 0, slots := 0, locals := 43 }).room s m [.ref (Q 4), .int a0, .int a1].toArray below meth c H locs 0 0 (MQ below (cQi G Q T u1 r A) [.ref (Q 4), .int a0, .int a1].toArray s 0 0 A) (F0 m 68 ls [])) → ∀ (n2 : Nat) (v1 v2 v3 : Int32) (u : MS) (D : Nat × Nat) (H : Heap) (locs : List Loc) (ls : Array Slot), lv_has ls 5 [(0, .ref (Q 4)), (1, .int v1), (2, .int v2), (3, .int v3)] → cH G Q D T A u s H locs → xl_X8_isSeedOfAnother_2 n2 v1 v2 v3 u K2_68 = some (r, u1) → W p l e (headSpec (Cond.code yX8_isSeedOfAnother cX8_isSeedOfAnother 5 (some .boolean) :: wK) { frames := 2, cells := 0, slots := 0, locals := 43 }).room s m [.ref (Q 4), .int a0, .int a1].toArray below meth c H locs 0 0 (MQ below (cQi G Q T u1 r A) [.ref (Q 4), .int a0, .int a1].toArray s 0 0 A) (F0 m 2 ls []) := by
    intro K2_68 hK2_68 n2
    induction n2 with
    | zero => intro v1 v2 v3 u D H locs ls hl hH hF; cases hF
    | succ n2 ih2 =>
      intro v1 v2 v3 u D H locs ls hl hH hF
      unfold xl_X8_isSeedOfAnother_2 at hF
      refine lv_iload_n hx hb dX8_isSeedOfAnother_2 rfl (lv_at hl 3 rfl) ?_
      refine lv_aload_n hx hb dX8_isSeedOfAnother_3 rfl (lv_at hl 0 rfl) ?_
      obtain ⟨r_1, u_2, h_3, hF⟩ := ob_some hF
      refine ccV_i (q0 := 4) (As := []) (rest := [.int v3]) hC hH (n_X8_people l G Z Q _ T u u_2 r_1 _ h_3) rfl rfl ⟨wkc_X8_people, wka215, wka628, wka629, wka752⟩ kVX8_people ⟨Nat.le_of_ble_eq_true rfl, Nat.le_of_ble_eq_true rfl⟩ rfl hl.1 rfl (Nat.le_of_ble_eq_true rfl) dX8_isSeedOfAnother_4 (fun D H locs hH => ?_)
      refine lv_icmp_ge (tgt := 68) hx hb dX8_isSeedOfAnother_7 (by decide) (fun c_4 => ?_) (fun c_4 => ?_)
      · rw [if_pos c_4] at hF
        exact hK2_68 v1 v2 v3 u_2 _ _ _ _ (lv_sub hl [0, 1, 2, 3] rfl) hH hF
      · rw [if_neg c_4] at hF
        refine lv_iload_n hx hb dX8_isSeedOfAnother_10 rfl (lv_at hl 2 rfl) ?_
        refine lv_if_le (tgt := 68) hx hb dX8_isSeedOfAnother_11 (by decide) (fun c_5 => ?_) (fun c_5 => ?_)
        · rw [if_pos c_5] at hF
          exact hK2_68 v1 v2 v3 u_2 _ _ _ _ (lv_sub hl [0, 1, 2, 3] rfl) hH hF
        · rw [if_neg c_5] at hF
          refine lv_iload_n hx hb dX8_isSeedOfAnother_14 rfl (lv_at hl 3 rfl) ?_
          refine lv_iload_n hx hb dX8_isSeedOfAnother_15 rfl (lv_at hl 1 rfl) ?_
          refine lv_icmp_eq (tgt := 36) hx hb dX8_isSeedOfAnother_16 (by decide) (fun c_6 => ?_) (fun c_6 => ?_)
          · rw [if_pos c_6] at hF
            refine lv_iconst (v := 0) hx hb dX8_isSeedOfAnother_36 (by decide) ?_
            refine lv_istore (lv' := [(4, .int 0), (0, .ref (Q 4)), (1, .int v1), (2, .int v2), (3, .int v3)]) hx hb dX8_isSeedOfAnother_37 hl (by decide) rfl (fun ls hl => ?_)
            refine lv_iload hx hb dX8_isSeedOfAnother_39 (lv_at hl 0 rfl) ?_
            refine lv_if_eq (tgt := 62) hx hb dX8_isSeedOfAnother_41 (by decide) (fun c_7 => ?_) (fun c_7 => ?_)
            · rw [if_pos c_7] at hF
              obtain ⟨x_8, e_9, hF⟩ := li_some hF
              refine lv_iinc (v := x_8) (lv' := [(3, .int x_8), (4, .int 0), (0, .ref (Q 4)), (1, .int v1), (2, .int v2)]) hx hb dX8_isSeedOfAnother_62 hl (k := 4) rfl e_9 (by decide) rfl (fun ls hl => ?_)
              refine lv_goto (tgt := 2) hx hb dX8_isSeedOfAnother_65 (by decide) ?_
              exact ih2 v1 v2 x_8 u_2 _ _ _ _ (lv_sub hl [2, 3, 4, 0] rfl) hH hF
            · rw [if_neg c_7] at hF
              refine lv_aload_n hx hb dX8_isSeedOfAnother_44 rfl (lv_at hl 1 rfl) ?_
              refine cg_X8_9 hC hH dX8_isSeedOfAnother_45 ?_
              refine lv_iload_n hx hb dX8_isSeedOfAnother_48 rfl (lv_at hl 4 rfl) ?_
              refine lv_iconst (v := 4) hx hb dX8_isSeedOfAnother_49 (by decide) ?_
              obtain ⟨r_10, u_11, h_12, hF⟩ := ob_some hF
              refine ccS_i (As := [.int v3, .int 4]) (rest := [.ref (Q 1)]) hC hH (n_X1_ofFighter l G Z Q _ T u_2 u_11 r_10 v3 4 _ h_12) ⟨wkc_X1_ofFighter, wka218, wka436, wka745⟩ kSX1_ofFighter ⟨Nat.le_of_ble_eq_true rfl, Nat.le_of_ble_eq_true rfl⟩ rfl hl.1 rfl (Nat.le_of_ble_eq_true rfl) dX8_isSeedOfAnother_50 (fun D H locs hH => ?_)
              refine bat (i := 1) (j := 11) hC hH rfl rfl (by decide) wka216 ⟨Nat.le_of_ble_eq_true rfl, Nat.le_of_ble_eq_true rfl⟩ hl.1 (Nat.le_of_ble_eq_true rfl) ⟨Nat.zero_le _, Nat.zero_le _⟩ dX8_isSeedOfAnother_53 ?_
              refine lv_iload_n hx hb dX8_isSeedOfAnother_56 rfl (lv_at hl 3 rfl) ?_
              refine lv_icmp_ne (tgt := 62) hx hb dX8_isSeedOfAnother_57 (by decide) (fun c_13 => ?_) (fun c_13 => ?_)
              · rw [if_neg c_13] at hF
                obtain ⟨x_14, e_15, hF⟩ := li_some hF
                refine lv_iinc (v := x_14) (lv' := [(3, .int x_14), (4, .int 0), (0, .ref (Q 4)), (1, .int v1), (2, .int v2)]) hx hb dX8_isSeedOfAnother_62 hl (k := 4) rfl e_15 (by decide) rfl (fun ls hl => ?_)
                refine lv_goto (tgt := 2) hx hb dX8_isSeedOfAnother_65 (by decide) ?_
                exact ih2 v1 v2 x_14 u_11 _ _ _ _ (lv_sub hl [2, 3, 4, 0] rfl) hH hF
              · rw [if_pos c_13] at hF
                refine lv_iconst (v := 1) hx hb dX8_isSeedOfAnother_60 (by decide) ?_
                exact cr_z hC hH hr rfl hF dX8_isSeedOfAnother_61 hlocks
          · rw [if_neg c_6] at hF
            refine lv_aload_n hx hb dX8_isSeedOfAnother_19 rfl (lv_at hl 0 rfl) ?_
            refine lv_iload_n hx hb dX8_isSeedOfAnother_20 rfl (lv_at hl 3 rfl) ?_
            obtain ⟨r_16, u_17, h_18, hF⟩ := ob_some hF
            refine ccV_i (q0 := 4) (As := [.int v3]) (rest := []) hC hH (n_X8_classOf l G Z Q _ T u_2 u_17 r_16 v3 _ h_18) rfl rfl ⟨wkc_X8_classOf, wka217, wka632, wka633, wka752⟩ kVX8_classOf ⟨Nat.le_of_ble_eq_true rfl, Nat.le_of_ble_eq_true rfl⟩ rfl hl.1 rfl (Nat.le_of_ble_eq_true rfl) dX8_isSeedOfAnother_21 (fun D H locs hH => ?_)
            refine lv_aload_n hx hb dX8_isSeedOfAnother_24 rfl (lv_at hl 0 rfl) ?_
            refine lv_iload_n hx hb dX8_isSeedOfAnother_25 rfl (lv_at hl 1 rfl) ?_
            obtain ⟨r_19, u_20, h_21, hF⟩ := ob_some hF
            refine ccV_i (q0 := 4) (As := [.int v1]) (rest := [.int r_16]) hC hH (n_X8_classOf l G Z Q _ T u_17 u_20 r_19 v1 _ h_21) rfl rfl ⟨wkc_X8_classOf, wka217, wka632, wka633, wka752⟩ kVX8_classOf ⟨Nat.le_of_ble_eq_true rfl, Nat.le_of_ble_eq_true rfl⟩ rfl hl.1 rfl (Nat.le_of_ble_eq_true rfl) dX8_isSeedOfAnother_26 (fun D H locs hH => ?_)
            refine lv_icmp_ne (tgt := 36) hx hb dX8_isSeedOfAnother_29 (by decide) (fun c_22 => ?_) (fun c_22 => ?_)
            · rw [if_neg c_22] at hF
              refine lv_iconst (v := 0) hx hb dX8_isSeedOfAnother_36 (by decide) ?_
              refine lv_istore (lv' := [(4, .int 0), (0, .ref (Q 4)), (1, .int v1), (2, .int v2), (3, .int v3)]) hx hb dX8_isSeedOfAnother_37 hl (by decide) rfl (fun ls hl => ?_)
              refine lv_iload hx hb dX8_isSeedOfAnother_39 (lv_at hl 0 rfl) ?_
              refine lv_if_eq (tgt := 62) hx hb dX8_isSeedOfAnother_41 (by decide) (fun c_23 => ?_) (fun c_23 => ?_)
              · rw [if_pos c_23] at hF
                obtain ⟨x_24, e_25, hF⟩ := li_some hF
                refine lv_iinc (v := x_24) (lv' := [(3, .int x_24), (4, .int 0), (0, .ref (Q 4)), (1, .int v1), (2, .int v2)]) hx hb dX8_isSeedOfAnother_62 hl (k := 4) rfl e_25 (by decide) rfl (fun ls hl => ?_)
                refine lv_goto (tgt := 2) hx hb dX8_isSeedOfAnother_65 (by decide) ?_
                exact ih2 v1 v2 x_24 u_20 _ _ _ _ (lv_sub hl [2, 3, 4, 0] rfl) hH hF
              · rw [if_neg c_23] at hF
                refine lv_aload_n hx hb dX8_isSeedOfAnother_44 rfl (lv_at hl 1 rfl) ?_
                refine cg_X8_9 hC hH dX8_isSeedOfAnother_45 ?_
                refine lv_iload_n hx hb dX8_isSeedOfAnother_48 rfl (lv_at hl 4 rfl) ?_
                refine lv_iconst (v := 4) hx hb dX8_isSeedOfAnother_49 (by decide) ?_
                obtain ⟨r_26, u_27, h_28, hF⟩ := ob_some hF
                refine ccS_i (As := [.int v3, .int 4]) (rest := [.ref (Q 1)]) hC hH (n_X1_ofFighter l G Z Q _ T u_20 u_27 r_26 v3 4 _ h_28) ⟨wkc_X1_ofFighter, wka218, wka436, wka745⟩ kSX1_ofFighter ⟨Nat.le_of_ble_eq_true rfl, Nat.le_of_ble_eq_true rfl⟩ rfl hl.1 rfl (Nat.le_of_ble_eq_true rfl) dX8_isSeedOfAnother_50 (fun D H locs hH => ?_)
                refine bat (i := 1) (j := 11) hC hH rfl rfl (by decide) wka216 ⟨Nat.le_of_ble_eq_true rfl, Nat.le_of_ble_eq_true rfl⟩ hl.1 (Nat.le_of_ble_eq_true rfl) ⟨Nat.zero_le _, Nat.zero_le _⟩ dX8_isSeedOfAnother_53 ?_
                refine lv_iload_n hx hb dX8_isSeedOfAnother_56 rfl (lv_at hl 3 rfl) ?_
                refine lv_icmp_ne (tgt := 62) hx hb dX8_isSeedOfAnother_57 (by decide) (fun c_29 => ?_) (fun c_29 => ?_)
                · rw [if_neg c_29] at hF
                  obtain ⟨x_30, e_31, hF⟩ := li_some hF
                  refine lv_iinc (v := x_30) (lv' := [(3, .int x_30), (4, .int 0), (0, .ref (Q 4)), (1, .int v1), (2, .int v2)]) hx hb dX8_isSeedOfAnother_62 hl (k := 4) rfl e_31 (by decide) rfl (fun ls hl => ?_)
                  refine lv_goto (tgt := 2) hx hb dX8_isSeedOfAnother_65 (by decide) ?_
                  exact ih2 v1 v2 x_30 u_27 _ _ _ _ (lv_sub hl [2, 3, 4, 0] rfl) hH hF
                · rw [if_pos c_29] at hF
                  refine lv_iconst (v := 1) hx hb dX8_isSeedOfAnother_60 (by decide) ?_
                  exact cr_z hC hH hr rfl hF dX8_isSeedOfAnother_61 hlocks
            · rw [if_pos c_22] at hF
              refine lv_iconst (v := 1) hx hb dX8_isSeedOfAnother_32 (by decide) ?_
              refine lv_goto (tgt := 37) hx hb dX8_isSeedOfAnother_33 (by decide) ?_
              refine lv_istore (lv' := [(4, .int 1), (0, .ref (Q 4)), (1, .int v1), (2, .int v2), (3, .int v3)]) hx hb dX8_isSeedOfAnother_37 hl (by decide) rfl (fun ls hl => ?_)
              refine lv_iload hx hb dX8_isSeedOfAnother_39 (lv_at hl 0 rfl) ?_
              refine lv_if_eq (tgt := 62) hx hb dX8_isSeedOfAnother_41 (by decide) (fun c_32 => ?_) (fun c_32 => ?_)
              · rw [if_pos c_32] at hF
                obtain ⟨x_33, e_34, hF⟩ := li_some hF
                refine lv_iinc (v := x_33) (lv' := [(3, .int x_33), (4, .int 1), (0, .ref (Q 4)), (1, .int v1), (2, .int v2)]) hx hb dX8_isSeedOfAnother_62 hl (k := 4) rfl e_34 (by decide) rfl (fun ls hl => ?_)
                refine lv_goto (tgt := 2) hx hb dX8_isSeedOfAnother_65 (by decide) ?_
                exact ih2 v1 v2 x_33 u_20 _ _ _ _ (lv_sub hl [2, 3, 4, 0] rfl) hH hF
              · rw [if_neg c_32] at hF
                refine lv_aload_n hx hb dX8_isSeedOfAnother_44 rfl (lv_at hl 1 rfl) ?_
                refine cg_X8_9 hC hH dX8_isSeedOfAnother_45 ?_
                refine lv_iload_n hx hb dX8_isSeedOfAnother_48 rfl (lv_at hl 4 rfl) ?_
                refine lv_iconst (v := 4) hx hb dX8_isSeedOfAnother_49 (by decide) ?_
                obtain ⟨r_35, u_36, h_37, hF⟩ := ob_some hF
                refine ccS_i (As := [.int v3, .int 4]) (rest := [.ref (Q 1)]) hC hH (n_X1_ofFighter l G Z Q _ T u_20 u_36 r_35 v3 4 _ h_37) ⟨wkc_X1_ofFighter, wka218, wka436, wka745⟩ kSX1_ofFighter ⟨Nat.le_of_ble_eq_true rfl, Nat.le_of_ble_eq_true rfl⟩ rfl hl.1 rfl (Nat.le_of_ble_eq_true rfl) dX8_isSeedOfAnother_50 (fun D H locs hH => ?_)
                refine bat (i := 1) (j := 11) hC hH rfl rfl (by decide) wka216 ⟨Nat.le_of_ble_eq_true rfl, Nat.le_of_ble_eq_true rfl⟩ hl.1 (Nat.le_of_ble_eq_true rfl) ⟨Nat.zero_le _, Nat.zero_le _⟩ dX8_isSeedOfAnother_53 ?_
                refine lv_iload_n hx hb dX8_isSeedOfAnother_56 rfl (lv_at hl 3 rfl) ?_
                refine lv_icmp_ne (tgt := 62) hx hb dX8_isSeedOfAnother_57 (by decide) (fun c_38 => ?_) (fun c_38 => ?_)
                · rw [if_neg c_38] at hF
                  obtain ⟨x_39, e_40, hF⟩ := li_some hF
                  refine lv_iinc (v := x_39) (lv' := [(3, .int x_39), (4, .int 1), (0, .ref (Q 4)), (1, .int v1), (2, .int v2)]) hx hb dX8_isSeedOfAnother_62 hl (k := 4) rfl e_40 (by decide) rfl (fun ls hl => ?_)
                  refine lv_goto (tgt := 2) hx hb dX8_isSeedOfAnother_65 (by decide) ?_
                  exact ih2 v1 v2 x_39 u_36 _ _ _ _ (lv_sub hl [2, 3, 4, 0] rfl) hH hF
                · rw [if_pos c_38] at hF
                  refine lv_iconst (v := 1) hx hb dX8_isSeedOfAnother_60 (by decide) ?_
                  exact cr_z hC hH hr rfl hF dX8_isSeedOfAnother_61 hlocks
  refine hL2 _ (fun v1 v2 v3 u D H locs ls hl hH hF => ?_) fuel a0 a1 0 u _ _ _ _ (lv_sub hl [1, 2, 3, 0] rfl) hH hF
  refine lv_iconst (v := 0) hx hb dX8_isSeedOfAnother_68 (by decide) ?_
  exact cr_z hC hH hr rfl hF dX8_isSeedOfAnother_69 hlocks
def xl_X8_fightersOf_4 : Nat → Int32 → Int32 → Int32 → MS → (Int32 → Int32 → Int32 → MS → Option (Int32 × MS)) → Option (Int32 × MS)
  | 0, _, _, _, _, _ => none
  | n4 + 1, v1, v2, v3, u, K4_35 => ob (x_X8_people u) (fun r_1 u_2 => (if r_1 ≤ v3 then K4_35 v1 v2 v3 u_2 else ob (x_X8_classOf v3 u_2) (fun r_5 u_6 => (if r_5 = v1 then li (v2 + 1) (fun x_13 => li (v3 + 1) (fun x_15 => xl_X8_fightersOf_4 n4 v1 x_13 x_15 u_6 K4_35)) else li (v2 + 0) (fun x_9 => li (v3 + 1) (fun x_11 => xl_X8_fightersOf_4 n4 v1 x_9 x_11 u_6 K4_35))))))
def x_X8_fightersOf (a0 : Int32) (u : MS) : Option (Int32 × MS) := xl_X8_fightersOf_4 fuel a0 0 0 u (fun v1 v2 v3 u => some (v2, u))
set_option maxHeartbeats 4000000 in
set_option maxRecDepth 100000 in
theorem n_X8_fightersOf (l : Launch) (G : gG) (Z : gC) (Q : Nat → Nat) (D : Nat × Nat) (T : va_W) (u u1 : MS) (r : Int32) (a0 : Int32) (sz : Nat) (hF : x_X8_fightersOf a0 u = some (r, u1)) : Met l yX8_fightersOf (Cond.code yX8_fightersOf cX8_fightersOf 4 (some .int) :: wK) { frames := 2, cells := 0, slots := 0, locals := 43 } (va_Pc [.ref (Q 4), .int a0] (cPM G Z Q D T u sz)) (cQi G Q T u1 r (va_A (cW G Q D T u) sz)) 0 0 (va_A (cW G Q D T u) sz) := by
  refine Met.ofW (cc := cX8_fightersOf) (maxL := 4) (ret := (some .int)) (by decide) rfl ?_
  intro p e s m args below meth c s₁ B hml hv
  obtain ⟨rfl, rfl, hP, hB, hD0, hE⟩ := hv
  have hr := B.returns
  have hlocks := B.notSynchronized
  have hts := atoms_spec (ws := Cond.code yX8_fightersOf cX8_fightersOf 4 (some .int) :: wK) B.pre
  have hD := hD0.self (sz := s.heap.size)
  have hA : ∀ q : Nat, s.heap.size ≤ q → va_A (cW G Q D T u) s.heap.size q := fun q h => Or.inr h
  generalize va_A (cW G Q D T u) s.heap.size = A at hD hA hE ⊢
  have hC : cX p c cX8_fightersOf 4 s m _ RX8 G Z A := ⟨B.exec, B.bytes, hml, findClass_of_methodNamed B.named, fun w h => hts w (List.mem_cons_of_mem _ h), hB, hE, hA⟩
  have hx := hC.1
  have hb := hC.2.1
  have hH : cH G Q D T A u s s.heap [] := ⟨hP, hD, va_S.rf⟩
  have hl := lv_entry ([.ref (Q 4), .int a0]) (n := 4) (Nat.le_of_ble_eq_true rfl)
  rw [lg_entry_eq]
  generalize (lg_sl ([.ref (Q 4), .int a0]) ++ List.replicate (4 - (lg_sl ([.ref (Q 4), .int a0])).length) Slot.unset).toArray = ls at hl ⊢
  have hl : lv_has ls 4 [(0, .ref (Q 4)), (1, .int a0)] := hl
  unfold x_X8_fightersOf at hF
  refine lv_iconst (v := 0) hx hb dX8_fightersOf_0 (by decide) ?_
  refine lv_istore_n (lv' := [(2, .int 0), (0, .ref (Q 4)), (1, .int a0)]) hx hb dX8_fightersOf_1 rfl hl (by decide) rfl (fun ls hl => ?_)
  refine lv_iconst (v := 0) hx hb dX8_fightersOf_2 (by decide) ?_
  refine lv_istore_n (lv' := [(3, .int 0), (2, .int 0), (0, .ref (Q 4)), (1, .int a0)]) hx hb dX8_fightersOf_3 rfl hl (by decide) rfl (fun ls hl => ?_)
  have hL4 : ∀ (K4_35 : Int32 → Int32 → Int32 → MS → Option (Int32 × MS)), (∀ (v1 v2 v3 : Int32) (u : MS) (D : Nat × Nat) (H : Heap) (locs : List Loc) (ls : Array Slot), lv_has ls 4 [(0, .ref (Q 4)), (1, .int v1), (2, .int v2), (3, .int v3)] → cH G Q D T A u s H locs → K4_35 v1 v2 v3 u = some (r, u1) → W p l e (headSpec (Cond.code yX8_fightersOf cX8_fightersOf 4 (some .int) :: wK) { frames := 2, cells := 0, slots := 0, locals := 43 }).room s m [.ref (Q 4), .int a0].toArray below meth c H locs 0 0 (MQ below (cQi G Q T u1 r A) [.ref (Q 4), .int a0].toArray s 0 0 A) (F0 m 35 ls [])) → ∀ (n4 : Nat) (v1 v2 v3 : Int32) (u : MS) (D : Nat × Nat) (H : Heap) (locs : List Loc) (ls : Array Slot), lv_has ls 4 [(0, .ref (Q 4)), (1, .int v1), (2, .int v2), (3, .int v3)] → cH G Q D T A u s H locs → xl_X8_fightersOf_4 n4 v1 v2 v3 u K4_35 = some (r, u1) → W p l e (headSpec (Cond.code yX8_fightersOf cX8_fightersOf 4 (some .int) :: wK) { frames := 2, cells := 0, slots := 0, locals := 43 }).room s m [.ref (Q 4), .int a0].toArray below meth c H locs 0 0 (MQ below (cQi G Q T u1 r A) [.ref (Q 4), .int a0].toArray s 0 0 A) (F0 m 4 ls []) := by
    intro K4_35 hK4_35 n4
    induction n4 with
    | zero => intro v1 v2 v3 u D H locs ls hl hH hF; cases hF
    | succ n4 ih4 =>
      intro v1 v2 v3 u D H locs ls hl hH hF
      unfold xl_X8_fightersOf_4 at hF
      refine lv_iload_n hx hb dX8_fightersOf_4 rfl (lv_at hl 3 rfl) ?_
      refine lv_aload_n hx hb dX8_fightersOf_5 rfl (lv_at hl 0 rfl) ?_
      obtain ⟨r_1, u_2, h_3, hF⟩ := ob_some hF
      refine ccV_i (q0 := 4) (As := []) (rest := [.int v3]) hC hH (n_X8_people l G Z Q _ T u u_2 r_1 _ h_3) rfl rfl ⟨wkc_X8_people, wka215, wka628, wka629, wka752⟩ kVX8_people ⟨Nat.le_of_ble_eq_true rfl, Nat.le_of_ble_eq_true rfl⟩ rfl hl.1 rfl (Nat.le_of_ble_eq_true rfl) dX8_fightersOf_6 (fun D H locs hH => ?_)
      refine lv_icmp_ge (tgt := 35) hx hb dX8_fightersOf_9 (by decide) (fun c_4 => ?_) (fun c_4 => ?_)
      · rw [if_pos c_4] at hF
        exact hK4_35 v1 v2 v3 u_2 _ _ _ _ (lv_sub hl [0, 1, 2, 3] rfl) hH hF
      · rw [if_neg c_4] at hF
        refine lv_iload_n hx hb dX8_fightersOf_12 rfl (lv_at hl 2 rfl) ?_
        refine lv_aload_n hx hb dX8_fightersOf_13 rfl (lv_at hl 0 rfl) ?_
        refine lv_iload_n hx hb dX8_fightersOf_14 rfl (lv_at hl 3 rfl) ?_
        obtain ⟨r_5, u_6, h_7, hF⟩ := ob_some hF
        refine ccV_i (q0 := 4) (As := [.int v3]) (rest := [.int v2]) hC hH (n_X8_classOf l G Z Q _ T u_2 u_6 r_5 v3 _ h_7) rfl rfl ⟨wkc_X8_classOf, wka217, wka632, wka633, wka752⟩ kVX8_classOf ⟨Nat.le_of_ble_eq_true rfl, Nat.le_of_ble_eq_true rfl⟩ rfl hl.1 rfl (Nat.le_of_ble_eq_true rfl) dX8_fightersOf_15 (fun D H locs hH => ?_)
        refine lv_iload_n hx hb dX8_fightersOf_18 rfl (lv_at hl 1 rfl) ?_
        refine lv_icmp_ne (tgt := 26) hx hb dX8_fightersOf_19 (by decide) (fun c_8 => ?_) (fun c_8 => ?_)
        · rw [if_neg c_8] at hF
          refine lv_iconst (v := 0) hx hb dX8_fightersOf_26 (by decide) ?_
          refine lv_iadd hx hb dX8_fightersOf_27 ?_
          obtain ⟨x_9, e_10, hF⟩ := li_some hF
          refine gx_ti e_10 ?_
          refine lv_istore_n (lv' := [(2, .int x_9), (0, .ref (Q 4)), (1, .int v1), (3, .int v3)]) hx hb dX8_fightersOf_28 rfl hl (by decide) rfl (fun ls hl => ?_)
          obtain ⟨x_11, e_12, hF⟩ := li_some hF
          refine lv_iinc (v := x_11) (lv' := [(3, .int x_11), (2, .int x_9), (0, .ref (Q 4)), (1, .int v1)]) hx hb dX8_fightersOf_29 hl (k := 3) rfl e_12 (by decide) rfl (fun ls hl => ?_)
          refine lv_goto (tgt := 4) hx hb dX8_fightersOf_32 (by decide) ?_
          exact ih4 v1 x_9 x_11 u_6 _ _ _ _ (lv_sub hl [2, 3, 1, 0] rfl) hH hF
        · rw [if_pos c_8] at hF
          refine lv_iconst (v := 1) hx hb dX8_fightersOf_22 (by decide) ?_
          refine lv_goto (tgt := 27) hx hb dX8_fightersOf_23 (by decide) ?_
          refine lv_iadd hx hb dX8_fightersOf_27 ?_
          obtain ⟨x_13, e_14, hF⟩ := li_some hF
          refine gx_ti e_14 ?_
          refine lv_istore_n (lv' := [(2, .int x_13), (0, .ref (Q 4)), (1, .int v1), (3, .int v3)]) hx hb dX8_fightersOf_28 rfl hl (by decide) rfl (fun ls hl => ?_)
          obtain ⟨x_15, e_16, hF⟩ := li_some hF
          refine lv_iinc (v := x_15) (lv' := [(3, .int x_15), (2, .int x_13), (0, .ref (Q 4)), (1, .int v1)]) hx hb dX8_fightersOf_29 hl (k := 3) rfl e_16 (by decide) rfl (fun ls hl => ?_)
          refine lv_goto (tgt := 4) hx hb dX8_fightersOf_32 (by decide) ?_
          exact ih4 v1 x_13 x_15 u_6 _ _ _ _ (lv_sub hl [2, 3, 1, 0] rfl) hH hF
  refine hL4 _ (fun v1 v2 v3 u D H locs ls hl hH hF => ?_) fuel a0 0 0 u _ _ _ _ (lv_sub hl [2, 3, 1, 0] rfl) hH hF
  refine lv_iload_n hx hb dX8_fightersOf_35 rfl (lv_at hl 2 rfl) ?_
  exact cr_i hC hH hr hF dX8_fightersOf_36 hlocks
def x_X8_isWeighed (a1 : Int32) (a2 : Int32) (u : MS) : Option (Int32 × MS) := ob (x_X1_ofFighter a1 0 u) (fun r_1 u_2 => (if (rg (u_2.2 0) 2088 r_1) = a2 then ob (x_X1_ofFighter a1 3 u_2) (fun r_5 u_6 => (if (rg (u_6.2 0) 2088 r_5) = 1 then some (1, u_6) else some (0, u_6))) else some (0, u_2)))
set_option maxHeartbeats 4000000 in
set_option maxRecDepth 100000 in
theorem n_X8_isWeighed (l : Launch) (G : gG) (Z : gC) (Q : Nat → Nat) (D : Nat × Nat) (T : va_W) (u u1 : MS) (r : Int32) (a1 : Int32) (a2 : Int32) (sz : Nat) (hF : x_X8_isWeighed a1 a2 u = some (r, u1)) : Met l yX8_isWeighed (Cond.code yX8_isWeighed cX8_isWeighed 3 (some .boolean) :: wK) { frames := 1, cells := 0, slots := 0, locals := 22 } (va_Pc [.ref (Q 1), .int a1, .int a2] (cPM G Z Q D T u sz)) (cQi G Q T u1 r (va_A (cW G Q D T u) sz)) 0 0 (va_A (cW G Q D T u) sz) := by
  refine Met.ofW (cc := cX8_isWeighed) (maxL := 3) (ret := (some .boolean)) (by decide) rfl ?_
  intro p e s m args below meth c s₁ B hml hv
  obtain ⟨rfl, rfl, hP, hB, hD0, hE⟩ := hv
  have hr := B.returns
  have hlocks := B.notSynchronized
  have hts := atoms_spec (ws := Cond.code yX8_isWeighed cX8_isWeighed 3 (some .boolean) :: wK) B.pre
  have hD := hD0.self (sz := s.heap.size)
  have hA : ∀ q : Nat, s.heap.size ≤ q → va_A (cW G Q D T u) s.heap.size q := fun q h => Or.inr h
  generalize va_A (cW G Q D T u) s.heap.size = A at hD hA hE ⊢
  have hC : cX p c cX8_isWeighed 3 s m _ RX8 G Z A := ⟨B.exec, B.bytes, hml, findClass_of_methodNamed B.named, fun w h => hts w (List.mem_cons_of_mem _ h), hB, hE, hA⟩
  have hx := hC.1
  have hb := hC.2.1
  have hH : cH G Q D T A u s s.heap [] := ⟨hP, hD, va_S.rf⟩
  have hl := lv_entry ([.ref (Q 1), .int a1, .int a2]) (n := 3) (Nat.le_of_ble_eq_true rfl)
  rw [lg_entry_eq]
  generalize (lg_sl ([.ref (Q 1), .int a1, .int a2]) ++ List.replicate (3 - (lg_sl ([.ref (Q 1), .int a1, .int a2])).length) Slot.unset).toArray = ls at hl ⊢
  have hl : lv_has ls 3 [(0, .ref (Q 1)), (1, .int a1), (2, .int a2)] := hl
  unfold x_X8_isWeighed at hF
  refine lv_aload_n hx hb dX8_isWeighed_0 rfl (lv_at hl 0 rfl) ?_
  refine lv_iload_n hx hb dX8_isWeighed_1 rfl (lv_at hl 1 rfl) ?_
  refine lv_iconst (v := 0) hx hb dX8_isWeighed_2 (by decide) ?_
  obtain ⟨r_1, u_2, h_3, hF⟩ := ob_some hF
  refine ccS_i (As := [.int a1, .int 0]) (rest := [.ref (Q 1)]) hC hH (n_X1_ofFighter l G Z Q _ T u u_2 r_1 a1 0 _ h_3) ⟨wkc_X1_ofFighter, wka218, wka436, wka745⟩ kSX1_ofFighter ⟨Nat.le_of_ble_eq_true rfl, Nat.le_of_ble_eq_true rfl⟩ rfl hl.1 rfl (Nat.le_of_ble_eq_true rfl) dX8_isWeighed_3 (fun D H locs hH => ?_)
  refine bat (i := 1) (j := 11) hC hH rfl rfl (by decide) wka216 ⟨Nat.le_of_ble_eq_true rfl, Nat.le_of_ble_eq_true rfl⟩ hl.1 (Nat.le_of_ble_eq_true rfl) ⟨Nat.zero_le _, Nat.zero_le _⟩ dX8_isWeighed_6 ?_
  refine lv_iload_n hx hb dX8_isWeighed_9 rfl (lv_at hl 2 rfl) ?_
  refine lv_icmp_ne (tgt := 30) hx hb dX8_isWeighed_10 (by decide) (fun c_4 => ?_) (fun c_4 => ?_)
  · rw [if_neg c_4] at hF
    refine lv_iconst (v := 0) hx hb dX8_isWeighed_30 (by decide) ?_
    exact cr_z hC hH hr rfl hF dX8_isWeighed_31 hlocks
  · rw [if_pos c_4] at hF
    refine lv_aload_n hx hb dX8_isWeighed_13 rfl (lv_at hl 0 rfl) ?_
    refine lv_iload_n hx hb dX8_isWeighed_14 rfl (lv_at hl 1 rfl) ?_
    refine lv_iconst (v := 3) hx hb dX8_isWeighed_15 (by decide) ?_
    obtain ⟨r_5, u_6, h_7, hF⟩ := ob_some hF
    refine ccS_i (As := [.int a1, .int 3]) (rest := [.ref (Q 1)]) hC hH (n_X1_ofFighter l G Z Q _ T u_2 u_6 r_5 a1 3 _ h_7) ⟨wkc_X1_ofFighter, wka218, wka436, wka745⟩ kSX1_ofFighter ⟨Nat.le_of_ble_eq_true rfl, Nat.le_of_ble_eq_true rfl⟩ rfl hl.1 rfl (Nat.le_of_ble_eq_true rfl) dX8_isWeighed_16 (fun D H locs hH => ?_)
    refine bat (i := 1) (j := 11) hC hH rfl rfl (by decide) wka216 ⟨Nat.le_of_ble_eq_true rfl, Nat.le_of_ble_eq_true rfl⟩ hl.1 (Nat.le_of_ble_eq_true rfl) ⟨Nat.zero_le _, Nat.zero_le _⟩ dX8_isWeighed_19 ?_
    refine lv_iconst (v := 1) hx hb dX8_isWeighed_22 (by decide) ?_
    refine lv_icmp_ne (tgt := 30) hx hb dX8_isWeighed_23 (by decide) (fun c_8 => ?_) (fun c_8 => ?_)
    · rw [if_neg c_8] at hF
      refine lv_iconst (v := 0) hx hb dX8_isWeighed_30 (by decide) ?_
      exact cr_z hC hH hr rfl hF dX8_isWeighed_31 hlocks
    · rw [if_pos c_8] at hF
      refine lv_iconst (v := 1) hx hb dX8_isWeighed_26 (by decide) ?_
      refine lv_goto (tgt := 31) hx hb dX8_isWeighed_27 (by decide) ?_
      exact cr_z hC hH hr rfl hF dX8_isWeighed_31 hlocks
