def f_does (a0 : Int32) (a1 : Int32) (a2 : Int32) (a3 : Int32) (u : MS) : Option (Int32 × MS) := (if a0 = 0 then ob (f_takeLaws a1 a2 u) (fun r_2 u_3 => some (r_2, u_3)) else if a0 = 1 then og (gi a1 4) (lu (wa u 0 a1 a2) (fun u_7 => og (gi a1 4) (lu (wa u_7 1 a1 a3) (fun u_10 => some (1, u_10))))) else if a0 = 2 then ob (f_comes a1 a2 u) (fun r_13 u_14 => some (r_13, u_14)) else if a0 = 3 then og (gi a1 96) (lu (wa u 7 a1 a2) (fun u_18 => og (gi a1 96) (og (gi (ra u_18 5 a1) 4) (og (gi a1 96) (og (gi (ra u_18 5 a1) 4) (ob (f_in a2.toInt64 ((ra u_18 0 (ra u_18 5 a1)).toInt64) ((ra u_18 1 (ra u_18 5 a1)).toInt64) u_18) (fun r_24 u_25 => (if r_24 = 0 then og (gi a1 96) (lu (wa u_25 8 a1 2) (fun u_29 => og (gi a1 96) ((if (ra u_29 8 a1) = 1 then some (1, u_29) else some (0, u_29))))) else og (gi a1 96) (lu (wa u_25 8 a1 1) (fun u_34 => og (gi a1 96) ((if (ra u_34 8 a1) = 1 then some (1, u_34) else some (0, u_34))))))))))))) else if a0 = 4 then og (gi a1 96) (li (ra u 9 a1) (fun x_40 => og (gi a1 96) (lu (wa u 9 a1 a2) (fun u_43 => some (x_40, u_43))))) else if a0 = 5 then ob (f_draws a1 u) (fun r_46 u_47 => some (r_46, u_47)) else if a0 = 6 then lu (si u 3 a1) (fun u_50 => some (a1, u_50)) else if a0 = 7 then li (u.1 4) (fun x_53 => lu (si u 4 a1) (fun u_55 => some (x_53, u_55))) else if a0 = 8 then ob (f_begins a1 a2 a3 u) (fun r_58 u_59 => some (r_58, u_59)) else if a0 = 9 then li ((((2 * a1) + a2) * 8) + a3) (fun x_62 => og (gi x_62 64) (og (gi x_62 64) (lu (wa u 24 x_62 (if ((ra u 24 x_62) + 1) < 99 then ((ra u 24 x_62) + 1) else 99)) (fun u_66 => og (gi a1 4) (ob (f_asked a1 (ra u_66 25 a1) u_66) (fun r_69 u_70 => some (r_69, u_70))))))) else if a0 = 10 then ob (f_passes a1 a2 u) (fun r_73 u_74 => some (r_73, u_74)) else if a0 = 11 then ob (f_ends a1 a2 (-1) 0 u) (fun r_77 u_78 => some (r_77, u_78)) else ob (f_struck a1 a2 u) (fun r_80 u_81 => some (r_80, u_81)))
set_option maxHeartbeats 4000000 in
set_option maxRecDepth 100000 in
theorem m_does (l : Launch) (G : gG) (Z : gM) (Q : Nat → Nat) (u u1 : MS) (r : Int32) (a0 : Int32) (a1 : Int32) (a2 : Int32) (a3 : Int32) (sz : Nat) (hF : f_does a0 a1 a2 a3 u = some (r, u1)) : Met l yX13_does (Cond.code yX13_does cX13_does 7 (some .int) :: wM) { frames := 407, cells := 0, slots := 0, locals := 4946 } (va_Pc [.ref (Q 72), .int a0, .int a1, .int a2, .int a3] (mPM G Z Q u sz)) (mQi G Q u1 r sz) 0 0 (mA Q sz) := by
  refine Met.ofW (cc := cX13_does) (maxL := 7) (ret := (some .int)) (by decide) rfl ?_
  intro p e s m args below meth c s₁ B hml hv
  obtain ⟨rfl, rfl, hP, hB, hD, hE⟩ := hv
  have hr := B.returns
  have hlocks := B.notSynchronized
  have hts := atoms_spec (ws := Cond.code yX13_does cX13_does 7 (some .int) :: wM) B.pre
  have hC : mX p c cX13_does 7 s m _ G Z Q := ⟨B.exec, B.bytes, hml, findClass_of_methodNamed B.named, fun w h => hts w (List.mem_cons_of_mem _ h), hB, hE⟩
  have hx := hC.1
  have hb := hC.2.1
  have hH : mH G Q u s s.heap [] := ⟨hP, hD, va_S.rf⟩
  have hl := lv_entry ([.ref (Q 72), .int a0, .int a1, .int a2, .int a3]) (n := 7) (Nat.le_of_ble_eq_true rfl)
  rw [lg_entry_eq]
  generalize (lg_sl ([.ref (Q 72), .int a0, .int a1, .int a2, .int a3]) ++ List.replicate (7 - (lg_sl ([.ref (Q 72), .int a0, .int a1, .int a2, .int a3])).length) Slot.unset).toArray = ls at hl ⊢
  have hl : lv_has ls 7 [(0, .ref (Q 72)), (1, .int a0), (2, .int a1), (3, .int a2), (4, .int a3)] := hl
  unfold f_does at hF
  refine lv_iload_n hx hb dX13_does_0 rfl (lv_at hl 1 rfl) ?_
  by_cases c_1 : a0 = 0
  · rw [if_pos c_1] at hF
    refine gx_ti (y := 0) c_1 ?_
    refine lv_tableIn (off := 63) (tgt := 64) hx hb dX13_does_1 (by decide) (by decide) rfl (by decide) ?_
    refine lv_aload_n hx hb dX13_does_64 rfl (lv_at hl 0 rfl) ?_
    refine lv_iload_n hx hb dX13_does_65 rfl (lv_at hl 2 rfl) ?_
    refine lv_iload_n hx hb dX13_does_66 rfl (lv_at hl 3 rfl) ?_
    obtain ⟨r_2, u_3, h_4, hF⟩ := ob_some hF
    refine mcW_i (As := [.int a1, .int a2]) (rest := []) hC hH (m_takeLaws l G Z Q u u_3 r_2 a1 a2 _ h_4) kwX13_takeLaws kVX13_takeLaws ⟨Nat.le_of_ble_eq_true rfl, Nat.le_of_ble_eq_true rfl⟩ rfl hl.1 rfl (Nat.le_of_ble_eq_true rfl) dX13_does_67 (fun H locs hH => ?_)
    exact mr_i hC hH hr hF dX13_does_70 hlocks
  rw [if_neg c_1] at hF
  by_cases c_5 : a0 = 1
  · rw [if_pos c_5] at hF
    refine gx_ti (y := 1) c_5 ?_
    refine lv_tableIn (off := 70) (tgt := 71) hx hb dX13_does_1 (by decide) (by decide) rfl (by decide) ?_
    refine lv_aload_n hx hb dX13_does_71 rfl (lv_at hl 0 rfl) ?_
    refine mg_0 hC hH dX13_does_72 ?_
    refine lv_iload_n hx hb dX13_does_75 rfl (lv_at hl 2 rfl) ?_
    refine lv_iload_n hx hb dX13_does_76 rfl (lv_at hl 3 rfl) ?_
    obtain ⟨g_6, hF⟩ := og_some hF
    obtain ⟨u_7, e_8, hF⟩ := lu_some hF
    refine ms_0 hC hH e_8 g_6 dX13_does_77 (fun H locs hH => ?_)
    refine lv_aload_n hx hb dX13_does_78 rfl (lv_at hl 0 rfl) ?_
    refine mg_1 hC hH dX13_does_79 ?_
    refine lv_iload_n hx hb dX13_does_82 rfl (lv_at hl 2 rfl) ?_
    refine lv_iload hx hb dX13_does_83 (lv_at hl 4 rfl) ?_
    obtain ⟨g_9, hF⟩ := og_some hF
    obtain ⟨u_10, e_11, hF⟩ := lu_some hF
    refine ms_1 hC hH e_11 g_9 dX13_does_85 (fun H locs hH => ?_)
    refine lv_iconst (v := 1) hx hb dX13_does_86 (by decide) ?_
    exact mr_i hC hH hr hF dX13_does_87 hlocks
  rw [if_neg c_5] at hF
  by_cases c_12 : a0 = 2
  · rw [if_pos c_12] at hF
    refine gx_ti (y := 2) c_12 ?_
    refine lv_tableIn (off := 87) (tgt := 88) hx hb dX13_does_1 (by decide) (by decide) rfl (by decide) ?_
    refine lv_aload_n hx hb dX13_does_88 rfl (lv_at hl 0 rfl) ?_
    refine lv_iload_n hx hb dX13_does_89 rfl (lv_at hl 2 rfl) ?_
    refine lv_iload_n hx hb dX13_does_90 rfl (lv_at hl 3 rfl) ?_
    obtain ⟨r_13, u_14, h_15, hF⟩ := ob_some hF
    refine mcV_i (As := [.int a1, .int a2]) (rest := []) hC hH (m_comes l G Z Q u u_14 r_13 a1 a2 _ h_15) kwX13_comes kVX13_comes ⟨Nat.le_of_ble_eq_true rfl, Nat.le_of_ble_eq_true rfl⟩ rfl hl.1 rfl (Nat.le_of_ble_eq_true rfl) dX13_does_91 (fun H locs hH => ?_)
    exact mr_i hC hH hr hF dX13_does_94 hlocks
  rw [if_neg c_12] at hF
  by_cases c_16 : a0 = 3
  · rw [if_pos c_16] at hF
    refine gx_ti (y := 3) c_16 ?_
    refine lv_tableIn (off := 94) (tgt := 95) hx hb dX13_does_1 (by decide) (by decide) rfl (by decide) ?_
    refine lv_aload_n hx hb dX13_does_95 rfl (lv_at hl 0 rfl) ?_
    refine mg_7 hC hH dX13_does_96 ?_
    refine lv_iload_n hx hb dX13_does_99 rfl (lv_at hl 2 rfl) ?_
    refine lv_iload_n hx hb dX13_does_100 rfl (lv_at hl 3 rfl) ?_
    obtain ⟨g_17, hF⟩ := og_some hF
    obtain ⟨u_18, e_19, hF⟩ := lu_some hF
    refine ms_7 hC hH e_19 g_17 dX13_does_101 (fun H locs hH => ?_)
    refine lv_aload_n hx hb dX13_does_102 rfl (lv_at hl 0 rfl) ?_
    refine mg_8 hC hH dX13_does_103 ?_
    refine lv_iload_n hx hb dX13_does_106 rfl (lv_at hl 2 rfl) ?_
    refine lv_iload_n hx hb dX13_does_107 rfl (lv_at hl 3 rfl) ?_
    refine lv_i2l (v := a2.toInt64) hx hb dX13_does_108 rfl ?_
    refine lv_aload_n hx hb dX13_does_109 rfl (lv_at hl 0 rfl) ?_
    refine mg_0 hC hH dX13_does_110 ?_
    refine lv_aload_n hx hb dX13_does_113 rfl (lv_at hl 0 rfl) ?_
    refine mg_5 hC hH dX13_does_114 ?_
    refine lv_iload_n hx hb dX13_does_117 rfl (lv_at hl 2 rfl) ?_
    obtain ⟨g_20, hF⟩ := og_some hF
    refine ml_5 hC hH g_20 dX13_does_118 ?_
    obtain ⟨g_21, hF⟩ := og_some hF
    refine ml_0 hC hH g_21 dX13_does_119 ?_
    refine lv_i2l (v := (ra u_18 0 (ra u_18 5 a1)).toInt64) hx hb dX13_does_120 rfl ?_
    refine lv_aload_n hx hb dX13_does_121 rfl (lv_at hl 0 rfl) ?_
    refine mg_1 hC hH dX13_does_122 ?_
    refine lv_aload_n hx hb dX13_does_125 rfl (lv_at hl 0 rfl) ?_
    refine mg_5 hC hH dX13_does_126 ?_
    refine lv_iload_n hx hb dX13_does_129 rfl (lv_at hl 2 rfl) ?_
    obtain ⟨g_22, hF⟩ := og_some hF
    refine ml_5 hC hH g_22 dX13_does_130 ?_
    obtain ⟨g_23, hF⟩ := og_some hF
    refine ml_1 hC hH g_23 dX13_does_131 ?_
    refine lv_i2l (v := (ra u_18 1 (ra u_18 5 a1)).toInt64) hx hb dX13_does_132 rfl ?_
    obtain ⟨r_24, u_25, h_26, hF⟩ := ob_some hF
    refine mcS_i (As := [.long a2.toInt64, .long ((ra u_18 0 (ra u_18 5 a1)).toInt64), .long ((ra u_18 1 (ra u_18 5 a1)).toInt64)]) (rest := [.int a1, .ref (Q 8)]) hC hH (m_in l G Z Q u_18 u_25 r_24 a2.toInt64 ((ra u_18 0 (ra u_18 5 a1)).toInt64) ((ra u_18 1 (ra u_18 5 a1)).toInt64) _ h_26) kwX13_in kVX13_in ⟨Nat.le_of_ble_eq_true rfl, Nat.le_of_ble_eq_true rfl⟩ rfl hl.1 rfl (Nat.le_of_ble_eq_true rfl) dX13_does_133 (fun H locs hH => ?_)
    refine lv_if_eq (tgt := 143) hx hb dX13_does_136 (by decide) (fun c_27 => ?_) (fun c_27 => ?_)
    · rw [if_pos c_27] at hF
      refine lv_iconst (v := 2) hx hb dX13_does_143 (by decide) ?_
      obtain ⟨g_28, hF⟩ := og_some hF
      obtain ⟨u_29, e_30, hF⟩ := lu_some hF
      refine ms_8 hC hH e_30 g_28 dX13_does_144 (fun H locs hH => ?_)
      refine lv_aload_n hx hb dX13_does_145 rfl (lv_at hl 0 rfl) ?_
      refine mg_8 hC hH dX13_does_146 ?_
      refine lv_iload_n hx hb dX13_does_149 rfl (lv_at hl 2 rfl) ?_
      obtain ⟨g_31, hF⟩ := og_some hF
      refine ml_8 hC hH g_31 dX13_does_150 ?_
      refine lv_iconst (v := 1) hx hb dX13_does_151 (by decide) ?_
      refine lv_icmp_ne (tgt := 159) hx hb dX13_does_152 (by decide) (fun c_32 => ?_) (fun c_32 => ?_)
      · rw [if_neg c_32] at hF
        refine lv_iconst (v := 0) hx hb dX13_does_159 (by decide) ?_
        exact mr_i hC hH hr hF dX13_does_160 hlocks
      · rw [if_pos c_32] at hF
        refine lv_iconst (v := 1) hx hb dX13_does_155 (by decide) ?_
        refine lv_goto (tgt := 160) hx hb dX13_does_156 (by decide) ?_
        exact mr_i hC hH hr hF dX13_does_160 hlocks
    · rw [if_neg c_27] at hF
      refine lv_iconst (v := 1) hx hb dX13_does_139 (by decide) ?_
      refine lv_goto (tgt := 144) hx hb dX13_does_140 (by decide) ?_
      obtain ⟨g_33, hF⟩ := og_some hF
      obtain ⟨u_34, e_35, hF⟩ := lu_some hF
      refine ms_8 hC hH e_35 g_33 dX13_does_144 (fun H locs hH => ?_)
      refine lv_aload_n hx hb dX13_does_145 rfl (lv_at hl 0 rfl) ?_
      refine mg_8 hC hH dX13_does_146 ?_
      refine lv_iload_n hx hb dX13_does_149 rfl (lv_at hl 2 rfl) ?_
      obtain ⟨g_36, hF⟩ := og_some hF
      refine ml_8 hC hH g_36 dX13_does_150 ?_
      refine lv_iconst (v := 1) hx hb dX13_does_151 (by decide) ?_
      refine lv_icmp_ne (tgt := 159) hx hb dX13_does_152 (by decide) (fun c_37 => ?_) (fun c_37 => ?_)
      · rw [if_neg c_37] at hF
        refine lv_iconst (v := 0) hx hb dX13_does_159 (by decide) ?_
        exact mr_i hC hH hr hF dX13_does_160 hlocks
      · rw [if_pos c_37] at hF
        refine lv_iconst (v := 1) hx hb dX13_does_155 (by decide) ?_
        refine lv_goto (tgt := 160) hx hb dX13_does_156 (by decide) ?_
        exact mr_i hC hH hr hF dX13_does_160 hlocks
  rw [if_neg c_16] at hF
  by_cases c_38 : a0 = 4
  · rw [if_pos c_38] at hF
    refine gx_ti (y := 4) c_38 ?_
    refine lv_tableIn (off := 160) (tgt := 161) hx hb dX13_does_1 (by decide) (by decide) rfl (by decide) ?_
    refine lv_aload_n hx hb dX13_does_161 rfl (lv_at hl 0 rfl) ?_
    refine mg_9 hC hH dX13_does_162 ?_
    refine lv_iload_n hx hb dX13_does_165 rfl (lv_at hl 2 rfl) ?_
    obtain ⟨g_39, hF⟩ := og_some hF
    refine ml_9 hC hH g_39 dX13_does_166 ?_
    obtain ⟨x_40, e_41, hF⟩ := li_some hF
    refine gx_ti e_41 ?_
    refine lv_istore (lv' := [(5, .int x_40), (0, .ref (Q 72)), (1, .int a0), (2, .int a1), (3, .int a2), (4, .int a3)]) hx hb dX13_does_167 hl (by decide) rfl (fun ls hl => ?_)
    refine lv_aload_n hx hb dX13_does_169 rfl (lv_at hl 1 rfl) ?_
    refine mg_9 hC hH dX13_does_170 ?_
    refine lv_iload_n hx hb dX13_does_173 rfl (lv_at hl 3 rfl) ?_
    refine lv_iload_n hx hb dX13_does_174 rfl (lv_at hl 4 rfl) ?_
    obtain ⟨g_42, hF⟩ := og_some hF
    obtain ⟨u_43, e_44, hF⟩ := lu_some hF
    refine ms_9 hC hH e_44 g_42 dX13_does_175 (fun H locs hH => ?_)
    refine lv_iload hx hb dX13_does_176 (lv_at hl 0 rfl) ?_
    exact mr_i hC hH hr hF dX13_does_178 hlocks
  rw [if_neg c_38] at hF
  by_cases c_45 : a0 = 5
  · rw [if_pos c_45] at hF
    refine gx_ti (y := 5) c_45 ?_
    refine lv_tableIn (off := 178) (tgt := 179) hx hb dX13_does_1 (by decide) (by decide) rfl (by decide) ?_
    refine lv_aload_n hx hb dX13_does_179 rfl (lv_at hl 0 rfl) ?_
    refine lv_iload_n hx hb dX13_does_180 rfl (lv_at hl 2 rfl) ?_
    obtain ⟨r_46, u_47, h_48, hF⟩ := ob_some hF
    refine mcV_i (As := [.int a1]) (rest := []) hC hH (m_draws l G Z Q u u_47 r_46 a1 _ h_48) kwX13_draws kVX13_draws ⟨Nat.le_of_ble_eq_true rfl, Nat.le_of_ble_eq_true rfl⟩ rfl hl.1 rfl (Nat.le_of_ble_eq_true rfl) dX13_does_181 (fun H locs hH => ?_)
    exact mr_i hC hH hr hF dX13_does_184 hlocks
  rw [if_neg c_45] at hF
  by_cases c_49 : a0 = 6
  · rw [if_pos c_49] at hF
    refine gx_ti (y := 6) c_49 ?_
    refine lv_tableIn (off := 184) (tgt := 185) hx hb dX13_does_1 (by decide) (by decide) rfl (by decide) ?_
    refine lv_aload_n hx hb dX13_does_185 rfl (lv_at hl 0 rfl) ?_
    refine lv_iload_n hx hb dX13_does_186 rfl (lv_at hl 2 rfl) ?_
    obtain ⟨u_50, e_51, hF⟩ := lu_some hF
    refine mp_3 hC hH e_51 dX13_does_187 (fun H locs hH => ?_)
    refine lv_iload_n hx hb dX13_does_190 rfl (lv_at hl 2 rfl) ?_
    exact mr_i hC hH hr hF dX13_does_191 hlocks
  rw [if_neg c_49] at hF
  by_cases c_52 : a0 = 7
  · rw [if_pos c_52] at hF
    refine gx_ti (y := 7) c_52 ?_
    refine lv_tableIn (off := 191) (tgt := 192) hx hb dX13_does_1 (by decide) (by decide) rfl (by decide) ?_
    refine lv_aload_n hx hb dX13_does_192 rfl (lv_at hl 0 rfl) ?_
    refine mg_4 hC hH dX13_does_193 ?_
    obtain ⟨x_53, e_54, hF⟩ := li_some hF
    refine gx_ti e_54 ?_
    refine lv_istore (lv' := [(5, .int x_53), (0, .ref (Q 72)), (1, .int a0), (2, .int a1), (3, .int a2), (4, .int a3)]) hx hb dX13_does_196 hl (by decide) rfl (fun ls hl => ?_)
    refine lv_aload_n hx hb dX13_does_198 rfl (lv_at hl 1 rfl) ?_
    refine lv_iload_n hx hb dX13_does_199 rfl (lv_at hl 3 rfl) ?_
    obtain ⟨u_55, e_56, hF⟩ := lu_some hF
    refine mp_4 hC hH e_56 dX13_does_200 (fun H locs hH => ?_)
    refine lv_iload hx hb dX13_does_203 (lv_at hl 0 rfl) ?_
    exact mr_i hC hH hr hF dX13_does_205 hlocks
  rw [if_neg c_52] at hF
  by_cases c_57 : a0 = 8
  · rw [if_pos c_57] at hF
    refine gx_ti (y := 8) c_57 ?_
    refine lv_tableIn (off := 205) (tgt := 206) hx hb dX13_does_1 (by decide) (by decide) rfl (by decide) ?_
    refine lv_aload_n hx hb dX13_does_206 rfl (lv_at hl 0 rfl) ?_
    refine lv_iload_n hx hb dX13_does_207 rfl (lv_at hl 2 rfl) ?_
    refine lv_iload_n hx hb dX13_does_208 rfl (lv_at hl 3 rfl) ?_
    refine lv_iload hx hb dX13_does_209 (lv_at hl 4 rfl) ?_
    obtain ⟨r_58, u_59, h_60, hF⟩ := ob_some hF
    refine mcV_i (As := [.int a1, .int a2, .int a3]) (rest := []) hC hH (m_begins l G Z Q u u_59 r_58 a1 a2 a3 _ h_60) kwX13_begins kVX13_begins ⟨Nat.le_of_ble_eq_true rfl, Nat.le_of_ble_eq_true rfl⟩ rfl hl.1 rfl (Nat.le_of_ble_eq_true rfl) dX13_does_211 (fun H locs hH => ?_)
    exact mr_i hC hH hr hF dX13_does_214 hlocks
  rw [if_neg c_57] at hF
  by_cases c_61 : a0 = 9
  · rw [if_pos c_61] at hF
    refine gx_ti (y := 9) c_61 ?_
    refine lv_tableIn (off := 214) (tgt := 215) hx hb dX13_does_1 (by decide) (by decide) rfl (by decide) ?_
    refine lv_iconst (v := 2) hx hb dX13_does_215 (by decide) ?_
    refine lv_iload_n hx hb dX13_does_216 rfl (lv_at hl 2 rfl) ?_
    refine lv_imul hx hb dX13_does_217 ?_
    refine lv_iload_n hx hb dX13_does_218 rfl (lv_at hl 3 rfl) ?_
    refine lv_iadd hx hb dX13_does_219 ?_
    refine lv_bipush (v := 8) hx hb dX13_does_220 (by decide) ?_
    refine lv_imul hx hb dX13_does_222 ?_
    refine lv_iload hx hb dX13_does_223 (lv_at hl 4 rfl) ?_
    refine lv_iadd hx hb dX13_does_225 ?_
    obtain ⟨x_62, e_63, hF⟩ := li_some hF
    refine gx_ti e_63 ?_
    refine lv_istore (lv' := [(6, .int x_62), (0, .ref (Q 72)), (1, .int a0), (2, .int a1), (3, .int a2), (4, .int a3)]) hx hb dX13_does_226 hl (by decide) rfl (fun ls hl => ?_)
    refine lv_aload_n hx hb dX13_does_228 rfl (lv_at hl 1 rfl) ?_
    refine mg_24 hC hH dX13_does_229 ?_
    refine lv_iload hx hb dX13_does_232 (lv_at hl 0 rfl) ?_
    refine lv_bipush (v := 99) hx hb dX13_does_234 (by decide) ?_
    refine lv_aload_n hx hb dX13_does_236 rfl (lv_at hl 1 rfl) ?_
    refine mg_24 hC hH dX13_does_237 ?_
    refine lv_iload hx hb dX13_does_240 (lv_at hl 0 rfl) ?_
    obtain ⟨g_64, hF⟩ := og_some hF
    refine ml_24 hC hH g_64 dX13_does_242 ?_
    refine lv_iconst (v := 1) hx hb dX13_does_243 (by decide) ?_
    refine lv_iadd hx hb dX13_does_244 ?_
    refine va_mmin hx hb (hC.2.2.1.trans hl.1.symm) hC.2.2.2.1 (hC.2.2.2.2.1 _ wma116) (hC.2.2.2.2.1 _ wma377) (hC.2.2.2.2.1 _ wma378) (hC.2.2.2.2.1 _ wma380) (Nat.le_of_ble_eq_true rfl) (Nat.le_of_ble_eq_true rfl) (Nat.le_of_ble_eq_true rfl) (Nat.le_of_ble_eq_true rfl) dX13_does_245 ?_
    obtain ⟨g_65, hF⟩ := og_some hF
    obtain ⟨u_66, e_67, hF⟩ := lu_some hF
    refine ms_24 hC hH e_67 g_65 dX13_does_248 (fun H locs hH => ?_)
    refine lv_aload_n hx hb dX13_does_249 rfl (lv_at hl 1 rfl) ?_
    refine lv_iload_n hx hb dX13_does_250 rfl (lv_at hl 3 rfl) ?_
    refine lv_aload_n hx hb dX13_does_251 rfl (lv_at hl 1 rfl) ?_
    refine mg_25 hC hH dX13_does_252 ?_
    refine lv_iload_n hx hb dX13_does_255 rfl (lv_at hl 3 rfl) ?_
    obtain ⟨g_68, hF⟩ := og_some hF
    refine ml_25 hC hH g_68 dX13_does_256 ?_
    obtain ⟨r_69, u_70, h_71, hF⟩ := ob_some hF
    refine mcV_i (As := [.int a1, .int (ra u_66 25 a1)]) (rest := []) hC hH (m_asked l G Z Q u_66 u_70 r_69 a1 (ra u_66 25 a1) _ h_71) kwX13_asked kVX13_asked ⟨Nat.le_of_ble_eq_true rfl, Nat.le_of_ble_eq_true rfl⟩ rfl hl.1 rfl (Nat.le_of_ble_eq_true rfl) dX13_does_257 (fun H locs hH => ?_)
    exact mr_i hC hH hr hF dX13_does_260 hlocks
  rw [if_neg c_61] at hF
  by_cases c_72 : a0 = 10
  · rw [if_pos c_72] at hF
    refine gx_ti (y := 10) c_72 ?_
    refine lv_tableIn (off := 260) (tgt := 261) hx hb dX13_does_1 (by decide) (by decide) rfl (by decide) ?_
    refine lv_aload_n hx hb dX13_does_261 rfl (lv_at hl 0 rfl) ?_
    refine lv_iload_n hx hb dX13_does_262 rfl (lv_at hl 2 rfl) ?_
    refine lv_iload_n hx hb dX13_does_263 rfl (lv_at hl 3 rfl) ?_
    obtain ⟨r_73, u_74, h_75, hF⟩ := ob_some hF
    refine mcV_i (As := [.int a1, .int a2]) (rest := []) hC hH (m_passes l G Z Q u u_74 r_73 a1 a2 _ h_75) kwX13_passes kVX13_passes ⟨Nat.le_of_ble_eq_true rfl, Nat.le_of_ble_eq_true rfl⟩ rfl hl.1 rfl (Nat.le_of_ble_eq_true rfl) dX13_does_264 (fun H locs hH => ?_)
    exact mr_i hC hH hr hF dX13_does_267 hlocks
  rw [if_neg c_72] at hF
  by_cases c_76 : a0 = 11
  · rw [if_pos c_76] at hF
    refine gx_ti (y := 11) c_76 ?_
    refine lv_tableIn (off := 267) (tgt := 268) hx hb dX13_does_1 (by decide) (by decide) rfl (by decide) ?_
    refine lv_aload_n hx hb dX13_does_268 rfl (lv_at hl 0 rfl) ?_
    refine lv_iload_n hx hb dX13_does_269 rfl (lv_at hl 2 rfl) ?_
    refine lv_iload_n hx hb dX13_does_270 rfl (lv_at hl 3 rfl) ?_
    refine lv_iconst (v := (-1)) hx hb dX13_does_271 (by decide) ?_
    refine lv_iconst (v := 0) hx hb dX13_does_272 (by decide) ?_
    obtain ⟨r_77, u_78, h_79, hF⟩ := ob_some hF
    refine mcV_i (As := [.int a1, .int a2, .int (-1), .int 0]) (rest := []) hC hH (m_ends l G Z Q u u_78 r_77 a1 a2 (-1) 0 _ h_79) kwX13_ends kVX13_ends ⟨Nat.le_of_ble_eq_true rfl, Nat.le_of_ble_eq_true rfl⟩ rfl hl.1 rfl (Nat.le_of_ble_eq_true rfl) dX13_does_273 (fun H locs hH => ?_)
    exact mr_i hC hH hr hF dX13_does_276 hlocks
  rw [if_neg c_76] at hF
  refine lv_tableOut (tgt := 277) hx hb dX13_does_1 (by have q0 := gl_ne c_1 (a := 0) (by decide); have q1 := gl_ne c_5 (a := 1) (by decide); have q2 := gl_ne c_12 (a := 2) (by decide); have q3 := gl_ne c_16 (a := 3) (by decide); have q4 := gl_ne c_38 (a := 4) (by decide); have q5 := gl_ne c_45 (a := 5) (by decide); have q6 := gl_ne c_49 (a := 6) (by decide); have q7 := gl_ne c_52 (a := 7) (by decide); have q8 := gl_ne c_57 (a := 8) (by decide); have q9 := gl_ne c_61 (a := 9) (by decide); have q10 := gl_ne c_72 (a := 10) (by decide); have q11 := gl_ne c_76 (a := 11) (by decide); omega) (by decide) ?_
  refine lv_aload_n hx hb dX13_does_277 rfl (lv_at hl 0 rfl) ?_
  refine lv_iload_n hx hb dX13_does_278 rfl (lv_at hl 2 rfl) ?_
  refine lv_iload_n hx hb dX13_does_279 rfl (lv_at hl 3 rfl) ?_
  obtain ⟨r_80, u_81, h_82, hF⟩ := ob_some hF
  refine mcV_i (As := [.int a1, .int a2]) (rest := []) hC hH (m_struck l G Z Q u u_81 r_80 a1 a2 _ h_82) kwX13_struck kVX13_struck ⟨Nat.le_of_ble_eq_true rfl, Nat.le_of_ble_eq_true rfl⟩ rfl hl.1 rfl (Nat.le_of_ble_eq_true rfl) dX13_does_280 (fun H locs hH => ?_)
  exact mr_i hC hH hr hF dX13_does_283 hlocks
def f_act (a0 : Int32) (a1 : Int32) (a2 : Int32) (a3 : Int32) (u : MS) : Option (Int32 × MS) := (if (u.1 53) = 500 then some (-4, u) else og (gi (4 * (u.1 53)) 2000) (lu (wa u 52 (4 * (u.1 53)) a0) (fun u_3 => og (gi ((4 * (u_3.1 53)) + 1) 2000) (lu (wa u_3 52 ((4 * (u_3.1 53)) + 1) a1) (fun u_6 => og (gi ((4 * (u_6.1 53)) + 2) 2000) (lu (wa u_6 52 ((4 * (u_6.1 53)) + 2) a2) (fun u_9 => og (gi ((4 * (u_9.1 53)) + 3) 2000) (lu (wa u_9 52 ((4 * (u_9.1 53)) + 3) a3) (fun u_12 => lu (si u_12 53 ((u_12.1 53) + 1)) (fun u_14 => ob (f_does a0 a1 a2 a3 u_14) (fun r_16 u_17 => some (r_16, u_17))))))))))))
set_option maxHeartbeats 4000000 in
set_option maxRecDepth 100000 in
theorem m_act (l : Launch) (G : gG) (Z : gM) (Q : Nat → Nat) (u u1 : MS) (r : Int32) (a0 : Int32) (a1 : Int32) (a2 : Int32) (a3 : Int32) (sz : Nat) (hF : f_act a0 a1 a2 a3 u = some (r, u1)) : Met l yX13_act (Cond.code yX13_act cX13_act 5 (some .int) :: wM) { frames := 408, cells := 0, slots := 0, locals := 4972 } (va_Pc [.ref (Q 72), .int a0, .int a1, .int a2, .int a3] (mPM G Z Q u sz)) (mQi G Q u1 r sz) 0 0 (mA Q sz) := by
  refine Met.ofW (cc := cX13_act) (maxL := 5) (ret := (some .int)) (by decide) rfl ?_
  intro p e s m args below meth c s₁ B hml hv
  obtain ⟨rfl, rfl, hP, hB, hD, hE⟩ := hv
  have hr := B.returns
  have hlocks := B.notSynchronized
  have hts := atoms_spec (ws := Cond.code yX13_act cX13_act 5 (some .int) :: wM) B.pre
  have hC : mX p c cX13_act 5 s m _ G Z Q := ⟨B.exec, B.bytes, hml, findClass_of_methodNamed B.named, fun w h => hts w (List.mem_cons_of_mem _ h), hB, hE⟩
  have hx := hC.1
  have hb := hC.2.1
  have hH : mH G Q u s s.heap [] := ⟨hP, hD, va_S.rf⟩
  have hl := lv_entry ([.ref (Q 72), .int a0, .int a1, .int a2, .int a3]) (n := 5) (Nat.le_of_ble_eq_true rfl)
  rw [lg_entry_eq]
  generalize (lg_sl ([.ref (Q 72), .int a0, .int a1, .int a2, .int a3]) ++ List.replicate (5 - (lg_sl ([.ref (Q 72), .int a0, .int a1, .int a2, .int a3])).length) Slot.unset).toArray = ls at hl ⊢
  have hl : lv_has ls 5 [(0, .ref (Q 72)), (1, .int a0), (2, .int a1), (3, .int a2), (4, .int a3)] := hl
  unfold f_act at hF
  refine lv_aload_n hx hb dX13_act_0 rfl (lv_at hl 0 rfl) ?_
  refine mg_53 hC hH dX13_act_1 ?_
  refine lv_sipush (v := 500) hx hb dX13_act_4 (by decide) ?_
  refine lv_icmp_ne (tgt := 13) hx hb dX13_act_7 (by decide) (fun c_1 => ?_) (fun c_1 => ?_)
  · rw [if_neg c_1] at hF
    refine lv_aload_n hx hb dX13_act_13 rfl (lv_at hl 0 rfl) ?_
    refine mg_52 hC hH dX13_act_14 ?_
    refine lv_iconst (v := 4) hx hb dX13_act_17 (by decide) ?_
    refine lv_aload_n hx hb dX13_act_18 rfl (lv_at hl 0 rfl) ?_
    refine mg_53 hC hH dX13_act_19 ?_
    refine lv_imul hx hb dX13_act_22 ?_
    refine lv_iload_n hx hb dX13_act_23 rfl (lv_at hl 1 rfl) ?_
    obtain ⟨g_2, hF⟩ := og_some hF
    obtain ⟨u_3, e_4, hF⟩ := lu_some hF
    refine ms_52 hC hH e_4 g_2 dX13_act_24 (fun H locs hH => ?_)
    refine lv_aload_n hx hb dX13_act_25 rfl (lv_at hl 0 rfl) ?_
    refine mg_52 hC hH dX13_act_26 ?_
    refine lv_iconst (v := 4) hx hb dX13_act_29 (by decide) ?_
    refine lv_aload_n hx hb dX13_act_30 rfl (lv_at hl 0 rfl) ?_
    refine mg_53 hC hH dX13_act_31 ?_
    refine lv_imul hx hb dX13_act_34 ?_
    refine lv_iconst (v := 1) hx hb dX13_act_35 (by decide) ?_
    refine lv_iadd hx hb dX13_act_36 ?_
    refine lv_iload_n hx hb dX13_act_37 rfl (lv_at hl 2 rfl) ?_
    obtain ⟨g_5, hF⟩ := og_some hF
    obtain ⟨u_6, e_7, hF⟩ := lu_some hF
    refine ms_52 hC hH e_7 g_5 dX13_act_38 (fun H locs hH => ?_)
    refine lv_aload_n hx hb dX13_act_39 rfl (lv_at hl 0 rfl) ?_
    refine mg_52 hC hH dX13_act_40 ?_
    refine lv_iconst (v := 4) hx hb dX13_act_43 (by decide) ?_
    refine lv_aload_n hx hb dX13_act_44 rfl (lv_at hl 0 rfl) ?_
    refine mg_53 hC hH dX13_act_45 ?_
    refine lv_imul hx hb dX13_act_48 ?_
    refine lv_iconst (v := 2) hx hb dX13_act_49 (by decide) ?_
    refine lv_iadd hx hb dX13_act_50 ?_
    refine lv_iload_n hx hb dX13_act_51 rfl (lv_at hl 3 rfl) ?_
    obtain ⟨g_8, hF⟩ := og_some hF
    obtain ⟨u_9, e_10, hF⟩ := lu_some hF
    refine ms_52 hC hH e_10 g_8 dX13_act_52 (fun H locs hH => ?_)
    refine lv_aload_n hx hb dX13_act_53 rfl (lv_at hl 0 rfl) ?_
    refine mg_52 hC hH dX13_act_54 ?_
    refine lv_iconst (v := 4) hx hb dX13_act_57 (by decide) ?_
    refine lv_aload_n hx hb dX13_act_58 rfl (lv_at hl 0 rfl) ?_
    refine mg_53 hC hH dX13_act_59 ?_
    refine lv_imul hx hb dX13_act_62 ?_
    refine lv_iconst (v := 3) hx hb dX13_act_63 (by decide) ?_
    refine lv_iadd hx hb dX13_act_64 ?_
    refine lv_iload hx hb dX13_act_65 (lv_at hl 4 rfl) ?_
    obtain ⟨g_11, hF⟩ := og_some hF
    obtain ⟨u_12, e_13, hF⟩ := lu_some hF
    refine ms_52 hC hH e_13 g_11 dX13_act_67 (fun H locs hH => ?_)
    refine lv_aload_n hx hb dX13_act_68 rfl (lv_at hl 0 rfl) ?_
    refine lv_dup hx hb dX13_act_69 rfl ?_
    refine mg_53 hC hH dX13_act_70 ?_
    refine lv_iconst (v := 1) hx hb dX13_act_73 (by decide) ?_
    refine lv_iadd hx hb dX13_act_74 ?_
    obtain ⟨u_14, e_15, hF⟩ := lu_some hF
    refine mp_53 hC hH e_15 dX13_act_75 (fun H locs hH => ?_)
    refine lv_aload_n hx hb dX13_act_78 rfl (lv_at hl 0 rfl) ?_
    refine lv_iload_n hx hb dX13_act_79 rfl (lv_at hl 1 rfl) ?_
    refine lv_iload_n hx hb dX13_act_80 rfl (lv_at hl 2 rfl) ?_
    refine lv_iload_n hx hb dX13_act_81 rfl (lv_at hl 3 rfl) ?_
    refine lv_iload hx hb dX13_act_82 (lv_at hl 4 rfl) ?_
    obtain ⟨r_16, u_17, h_18, hF⟩ := ob_some hF
    refine mcV_i (As := [.int a0, .int a1, .int a2, .int a3]) (rest := []) hC hH (m_does l G Z Q u_14 u_17 r_16 a0 a1 a2 a3 _ h_18) kwX13_does kVX13_does ⟨Nat.le_of_ble_eq_true rfl, Nat.le_of_ble_eq_true rfl⟩ rfl hl.1 rfl (Nat.le_of_ble_eq_true rfl) dX13_act_84 (fun H locs hH => ?_)
    exact mr_i hC hH hr hF dX13_act_87 hlocks
  · rw [if_pos c_1] at hF
    refine lv_bipush (v := (-4)) hx hb dX13_act_10 (by decide) ?_
    exact mr_i hC hH hr hF dX13_act_12 hlocks
def lp_undo_25 : Nat → Int32 → MS → (Int32 → MS → Option (Int32 × MS)) → Option (Int32 × MS)
  | 0, _, _, _ => none
  | n25 + 1, v1, u, K25_82 => (if (u.1 53) ≤ v1 then K25_82 v1 u else og (gi (4 * v1) 2000) (og (gi ((4 * v1) + 1) 2000) (og (gi ((4 * v1) + 2) 2000) (og (gi ((4 * v1) + 3) 2000) (ob (f_does (ra u 52 (4 * v1)) (ra u 52 ((4 * v1) + 1)) (ra u 52 ((4 * v1) + 2)) (ra u 52 ((4 * v1) + 3)) u) (fun r_12 u_13 => li (v1 + 1) (fun x_15 => lp_undo_25 n25 x_15 u_13 K25_82)))))))
def f_undo  (u : MS) : Option (Int32 × MS) := (if (u.1 53) = 0 then some (-1, u) else lu (si u 53 ((u.1 53) - 1)) (fun u_2 => ob (f_anew u_2) (fun r_4 u_5 => lp_undo_25 fuel 0 u_5 (fun v1 u => some (u.1 53, u)))))
set_option maxHeartbeats 4000000 in
set_option maxRecDepth 100000 in
theorem m_undo (l : Launch) (G : gG) (Z : gM) (Q : Nat → Nat) (u u1 : MS) (r : Int32)  (sz : Nat) (hF : f_undo u = some (r, u1)) : Met l yX13_undo (Cond.code yX13_undo cX13_undo 3 (some .int) :: wM) { frames := 408, cells := 0, slots := 0, locals := 4972 } (va_Pc [.ref (Q 72)] (mPM G Z Q u sz)) (mQi G Q u1 r sz) 0 0 (mA Q sz) := by
  refine Met.ofW (cc := cX13_undo) (maxL := 3) (ret := (some .int)) (by decide) rfl ?_
  intro p e s m args below meth c s₁ B hml hv
  obtain ⟨rfl, rfl, hP, hB, hD, hE⟩ := hv
  have hr := B.returns
  have hlocks := B.notSynchronized
  have hts := atoms_spec (ws := Cond.code yX13_undo cX13_undo 3 (some .int) :: wM) B.pre
  have hC : mX p c cX13_undo 3 s m _ G Z Q := ⟨B.exec, B.bytes, hml, findClass_of_methodNamed B.named, fun w h => hts w (List.mem_cons_of_mem _ h), hB, hE⟩
  have hx := hC.1
  have hb := hC.2.1
  have hH : mH G Q u s s.heap [] := ⟨hP, hD, va_S.rf⟩
  have hl := lv_entry ([.ref (Q 72)]) (n := 3) (Nat.le_of_ble_eq_true rfl)
  rw [lg_entry_eq]
  generalize (lg_sl ([.ref (Q 72)]) ++ List.replicate (3 - (lg_sl ([.ref (Q 72)])).length) Slot.unset).toArray = ls at hl ⊢
  have hl : lv_has ls 3 [(0, .ref (Q 72))] := hl
  unfold f_undo at hF
  refine lv_aload_n hx hb dX13_undo_0 rfl (lv_at hl 0 rfl) ?_
  refine mg_53 hC hH dX13_undo_1 ?_
  refine lv_if_ne (tgt := 9) hx hb dX13_undo_4 (by decide) (fun c_1 => ?_) (fun c_1 => ?_)
  · rw [if_neg c_1] at hF
    refine lv_aload_n hx hb dX13_undo_9 rfl (lv_at hl 0 rfl) ?_
    refine lv_dup hx hb dX13_undo_10 rfl ?_
    refine mg_53 hC hH dX13_undo_11 ?_
    refine lv_iconst (v := 1) hx hb dX13_undo_14 (by decide) ?_
    refine lv_isub hx hb dX13_undo_15 ?_
    obtain ⟨u_2, e_3, hF⟩ := lu_some hF
    refine mp_53 hC hH e_3 dX13_undo_16 (fun H locs hH => ?_)
    refine lv_aload_n hx hb dX13_undo_19 rfl (lv_at hl 0 rfl) ?_
    obtain ⟨r_4, u_5, h_6, hF⟩ := ob_some hF
    refine mcV_v (As := []) (rest := []) hC hH (m_anew l G Z Q u_2 u_5 r_4  _ h_6) kwX13_anew kVX13_anew ⟨Nat.le_of_ble_eq_true rfl, Nat.le_of_ble_eq_true rfl⟩ rfl hl.1 rfl (Nat.le_of_ble_eq_true rfl) dX13_undo_20 (fun H locs hH => ?_)
    refine lv_iconst (v := 0) hx hb dX13_undo_23 (by decide) ?_
    refine lv_istore_n (lv' := [(1, .int 0), (0, .ref (Q 72))]) hx hb dX13_undo_24 rfl hl (by decide) rfl (fun ls hl => ?_)
    have hL25 : ∀ (K25_82 : Int32 → MS → Option (Int32 × MS)), (∀ (v1 : Int32) (u : MS) (H : Heap) (locs : List Loc) (ls : Array Slot), lv_has ls 3 [(0, .ref (Q 72)), (1, .int v1)] → mH G Q u s H locs → K25_82 v1 u = some ((r, u1)) → W p l e (headSpec (Cond.code yX13_undo cX13_undo 3 (some .int) :: wM) { frames := 408, cells := 0, slots := 0, locals := 4972 }).room s m [.ref (Q 72)].toArray below meth c H locs 0 0 (MQ below (mQi G Q u1 r s.heap.size) [.ref (Q 72)].toArray s 0 0 (mA Q s.heap.size)) (F0 m 82 ls [])) → ∀ (n25 : Nat) (v1 : Int32) (u : MS) (H : Heap) (locs : List Loc) (ls : Array Slot), lv_has ls 3 [(0, .ref (Q 72)), (1, .int v1)] → mH G Q u s H locs → lp_undo_25 n25 v1 u K25_82 = some ((r, u1)) → W p l e (headSpec (Cond.code yX13_undo cX13_undo 3 (some .int) :: wM) { frames := 408, cells := 0, slots := 0, locals := 4972 }).room s m [.ref (Q 72)].toArray below meth c H locs 0 0 (MQ below (mQi G Q u1 r s.heap.size) [.ref (Q 72)].toArray s 0 0 (mA Q s.heap.size)) (F0 m 25 ls []) := by
      intro K25_82 hK25_82 n25
      induction n25 with
      | zero => intro v1 u H locs ls hl hH hF; cases hF
      | succ n25 ih25 =>
        intro v1 u H locs ls hl hH hF
        unfold lp_undo_25 at hF
        refine lv_iload_n hx hb dX13_undo_25 rfl (lv_at hl 1 rfl) ?_
        refine lv_aload_n hx hb dX13_undo_26 rfl (lv_at hl 0 rfl) ?_
        refine mg_53 hC hH dX13_undo_27 ?_
        refine lv_icmp_ge (tgt := 82) hx hb dX13_undo_30 (by decide) (fun c_7 => ?_) (fun c_7 => ?_)
        · rw [if_pos c_7] at hF
          exact hK25_82 v1 u _ _ _ (lv_sub hl [0, 1] rfl) hH hF
        · rw [if_neg c_7] at hF
          refine lv_aload_n hx hb dX13_undo_33 rfl (lv_at hl 0 rfl) ?_
          refine lv_aload_n hx hb dX13_undo_34 rfl (lv_at hl 0 rfl) ?_
          refine mg_52 hC hH dX13_undo_35 ?_
          refine lv_iconst (v := 4) hx hb dX13_undo_38 (by decide) ?_
          refine lv_iload_n hx hb dX13_undo_39 rfl (lv_at hl 1 rfl) ?_
          refine lv_imul hx hb dX13_undo_40 ?_
          obtain ⟨g_8, hF⟩ := og_some hF
          refine ml_52 hC hH g_8 dX13_undo_41 ?_
          refine lv_aload_n hx hb dX13_undo_42 rfl (lv_at hl 0 rfl) ?_
          refine mg_52 hC hH dX13_undo_43 ?_
          refine lv_iconst (v := 4) hx hb dX13_undo_46 (by decide) ?_
          refine lv_iload_n hx hb dX13_undo_47 rfl (lv_at hl 1 rfl) ?_
          refine lv_imul hx hb dX13_undo_48 ?_
          refine lv_iconst (v := 1) hx hb dX13_undo_49 (by decide) ?_
          refine lv_iadd hx hb dX13_undo_50 ?_
          obtain ⟨g_9, hF⟩ := og_some hF
          refine ml_52 hC hH g_9 dX13_undo_51 ?_
          refine lv_aload_n hx hb dX13_undo_52 rfl (lv_at hl 0 rfl) ?_
          refine mg_52 hC hH dX13_undo_53 ?_
          refine lv_iconst (v := 4) hx hb dX13_undo_56 (by decide) ?_
          refine lv_iload_n hx hb dX13_undo_57 rfl (lv_at hl 1 rfl) ?_
          refine lv_imul hx hb dX13_undo_58 ?_
          refine lv_iconst (v := 2) hx hb dX13_undo_59 (by decide) ?_
          refine lv_iadd hx hb dX13_undo_60 ?_
          obtain ⟨g_10, hF⟩ := og_some hF
          refine ml_52 hC hH g_10 dX13_undo_61 ?_
          refine lv_aload_n hx hb dX13_undo_62 rfl (lv_at hl 0 rfl) ?_
          refine mg_52 hC hH dX13_undo_63 ?_
          refine lv_iconst (v := 4) hx hb dX13_undo_66 (by decide) ?_
          refine lv_iload_n hx hb dX13_undo_67 rfl (lv_at hl 1 rfl) ?_
          refine lv_imul hx hb dX13_undo_68 ?_
          refine lv_iconst (v := 3) hx hb dX13_undo_69 (by decide) ?_
          refine lv_iadd hx hb dX13_undo_70 ?_
          obtain ⟨g_11, hF⟩ := og_some hF
          refine ml_52 hC hH g_11 dX13_undo_71 ?_
          obtain ⟨r_12, u_13, h_14, hF⟩ := ob_some hF
          refine mcV_i (As := [.int (ra u 52 (4 * v1)), .int (ra u 52 ((4 * v1) + 1)), .int (ra u 52 ((4 * v1) + 2)), .int (ra u 52 ((4 * v1) + 3))]) (rest := []) hC hH (m_does l G Z Q u u_13 r_12 (ra u 52 (4 * v1)) (ra u 52 ((4 * v1) + 1)) (ra u 52 ((4 * v1) + 2)) (ra u 52 ((4 * v1) + 3)) _ h_14) kwX13_does kVX13_does ⟨Nat.le_of_ble_eq_true rfl, Nat.le_of_ble_eq_true rfl⟩ rfl hl.1 rfl (Nat.le_of_ble_eq_true rfl) dX13_undo_72 (fun H locs hH => ?_)
          refine lv_istore_n (lv' := [(2, .int r_12), (0, .ref (Q 72)), (1, .int v1)]) hx hb dX13_undo_75 rfl hl (by decide) rfl (fun ls hl => ?_)
          obtain ⟨x_15, e_16, hF⟩ := li_some hF
          refine lv_iinc (v := x_15) (lv' := [(1, .int x_15), (2, .int r_12), (0, .ref (Q 72))]) hx hb dX13_undo_76 hl (k := 2) rfl e_16 (by decide) rfl (fun ls hl => ?_)
          refine lv_goto (tgt := 25) hx hb dX13_undo_79 (by decide) ?_
          exact ih25 x_15 u_13 _ _ _ (lv_sub hl [2, 0] rfl) hH hF
    refine hL25 _ (fun v1 u H locs ls hl hH hF => ?_) fuel 0 u_5 _ _ _ (lv_sub hl [1, 0] rfl) hH hF
    refine lv_aload_n hx hb dX13_undo_82 rfl (lv_at hl 0 rfl) ?_
    refine mg_53 hC hH dX13_undo_83 ?_
    exact mr_i hC hH hr hF dX13_undo_86 hlocks
  · rw [if_pos c_1] at hF
    refine lv_iconst (v := (-1)) hx hb dX13_undo_7 (by decide) ?_
    exact mr_i hC hH hr hF dX13_undo_8 hlocks
def lp_laws_4 : Nat → Int32 → Int32 → MS → (Int32 → Int32 → MS → Option (Int32 × MS)) → Option (Int32 × MS)
  | 0, _, _, _, _ => none
  | n4 + 1, v1, v2, u, K4_35 => (if 4 ≤ v2 then K4_35 v1 v2 u else (if v1 = 0 then og (gi v2 4) ((if (ra u 22 v2) = (-1) then li (v2 + 1) (fun x_7 => lp_laws_4 n4 0 x_7 u K4_35) else li (v2 + 1) (fun x_9 => lp_laws_4 n4 1 x_9 u K4_35))) else li (v2 + 1) (fun x_3 => lp_laws_4 n4 1 x_3 u K4_35)))
def lp_laws_99 : Nat → Int32 → Int32 → Int32 → Int32 → Int32 → MS → (Int32 → Int32 → Int32 → Int32 → Int32 → MS → Option (Int32 × MS)) → Option (Int32 × MS)
  | 0, _, _, _, _, _, _, _ => none
  | n99 + 1, v1, v2, v3, v4, v5, u, K99_132 => (if v3 ≤ v5 then K99_132 v1 v2 v3 v4 v5 u else (if v2 = 0 then K99_132 v1 v2 v3 v4 v5 u else og (gi v5 3000) (og (gi (v4 + v5) 24000) (lu (wa u 54 (v4 + v5) (vp_nar .byte (ra u 40 v5))) (fun u_34 => li (v5 + 1) (fun x_36 => lp_laws_99 n99 v1 v2 v3 v4 x_36 u_34 K99_132))))))
def f_laws  (u : MS) : Option (Int32 × MS) := lp_laws_4 fuel 0 0 u (fun v1 v2 u => lu (si u 41 0) (fun u_11 => lu (si u_11 43 (u_11.1 42)) (fun u_13 => lu (si u_13 42 0) (fun u_15 => (if v1 = 0 then lu (si u_15 49 0) (fun u_18 => lu (si u_18 50 (-1)) (fun u_20 => ob (f_readLaws u_20) (fun r_22 u_23 => ot r_22 (li (u_23.1 43) (fun x_26 => li (u_23.1 55) (fun x_28 => lp_laws_99 fuel v1 0 x_26 x_28 0 u_23 (fun v1 v2 v3 v4 v5 u => ob (f_lawsAgain u) (fun r_38 u_39 => (if v2 = 0 then some (-1, u_39) else (if (u_39.1 53) = 500 then some (-4, u_39) else lu (si u_39 55 ((u_39.1 55) + v3)) (fun u_43 => ob (f_act 0 v4 v3 0 u_43) (fun r_45 u_46 => some (r_45, u_46)))))))))) (fun r_25 => li (u_23.1 43) (fun x_48 => li (u_23.1 55) (fun x_50 => lp_laws_99 fuel v1 1 x_48 x_50 0 u_23 (fun v1 v2 v3 v4 v5 u => ob (f_lawsAgain u) (fun r_60 u_61 => (if v2 = 0 then some (-1, u_61) else (if (u_61.1 53) = 500 then some (-4, u_61) else lu (si u_61 55 ((u_61.1 55) + v3)) (fun u_65 => ob (f_act 0 v4 v3 0 u_65) (fun r_67 u_68 => some (r_67, u_68))))))))))))) else some (-3, u_15))))))
set_option maxHeartbeats 4000000 in
set_option maxRecDepth 100000 in
theorem m_laws (l : Launch) (G : gG) (Z : gM) (Q : Nat → Nat) (u u1 : MS) (r : Int32)  (sz : Nat) (hF : f_laws u = some (r, u1)) : Met l yX13_laws (Cond.codeWith yX13_laws cX13_laws 6 (some .int) [(75, 79, 82, 105)] :: wM) { frames := 409, cells := 0, slots := 0, locals := 4996 } (va_Pc [.ref (Q 72)] (mPM G Z Q u sz)) (mQi G Q u1 r sz) 0 0 (mA Q sz) := by
  refine va_MetW (cc := cX13_laws) (maxL := 6) (ret := (some .int)) (by decide) rfl ?_
  intro p e s m args below meth c s₁ B hml hv
  obtain ⟨rfl, rfl, hP, hB, hD, hE⟩ := hv
  have hr := B.returns
  have hlocks := B.notSynchronized
  have hts := atoms_spec (ws := Cond.codeWith yX13_laws cX13_laws 6 (some .int) [(75, 79, 82, 105)] :: wM) B.pre
  have hC : mX p c cX13_laws 6 s m _ G Z Q := ⟨B.exec, B.bytes, hml, findClass_of_methodNamed B.named, fun w h => hts w (List.mem_cons_of_mem _ h), hB, hE⟩
  have hx := hC.1
  have hb := hC.2.1
  have hH : mH G Q u s s.heap [] := ⟨hP, hD, va_S.rf⟩
  have hl := lv_entry ([.ref (Q 72)]) (n := 6) (Nat.le_of_ble_eq_true rfl)
  rw [lg_entry_eq]
  generalize (lg_sl ([.ref (Q 72)]) ++ List.replicate (6 - (lg_sl ([.ref (Q 72)])).length) Slot.unset).toArray = ls at hl ⊢
  have hl : lv_has ls 6 [(0, .ref (Q 72))] := hl
  obtain ⟨m9, meth9, c9, hn9, hm9, hc9, -, -, htab9, -⟩ := Cond.codeWith_spec (hts _ List.mem_cons_self)
  cases B.named.symm.trans hn9
  cases B.method.symm.trans hm9
  cases (Stand.of_body B).code.symm.trans hc9
  obtain ⟨x9, htab, ex9⟩ : ∃ x9 : ExceptionTableEntry, c.exceptionTable.toList = [x9] ∧ (x9.startPc, x9.endPc, x9.handlerPc, x9.catchType) = (75, 79, 82, 105) := by
    cases hz : c.exceptionTable.toList with
    | nil => rw [hz] at htab9; cases htab9
    | cons y ys =>
      rw [hz] at htab9
      cases ys with
      | nil => exact ⟨y, rfl, (List.cons.inj htab9).1⟩
      | cons z zs => exact absurd (List.cons.inj htab9).2 (by intro h; cases h)
  obtain ⟨x1, x2, x3, x4⟩ := x9
  cases ex9
  unfold f_laws at hF
  refine lv_iconst (v := 0) hx hb dX13_laws_0 (by decide) ?_
  refine lv_istore_n (lv' := [(1, .int 0), (0, .ref (Q 72))]) hx hb dX13_laws_1 rfl hl (by decide) rfl (fun ls hl => ?_)
  refine lv_iconst (v := 0) hx hb dX13_laws_2 (by decide) ?_
  refine lv_istore_n (lv' := [(2, .int 0), (1, .int 0), (0, .ref (Q 72))]) hx hb dX13_laws_3 rfl hl (by decide) rfl (fun ls hl => ?_)
  have hL4 : ∀ (K4_35 : Int32 → Int32 → MS → Option (Int32 × MS)), (∀ (v1 v2 : Int32) (u : MS) (H : Heap) (locs : List Loc) (ls : Array Slot), lv_has ls 6 [(0, .ref (Q 72)), (1, .int v1), (2, .int v2)] → mH G Q u s H locs → K4_35 v1 v2 u = some ((r, u1)) → W p l e (headSpec (Cond.codeWith yX13_laws cX13_laws 6 (some .int) [(75, 79, 82, 105)] :: wM) { frames := 409, cells := 0, slots := 0, locals := 4996 }).room s m [.ref (Q 72)].toArray below meth c H locs 0 0 (MQ below (mQi G Q u1 r s.heap.size) [.ref (Q 72)].toArray s 0 0 (mA Q s.heap.size)) (F0 m 35 ls [])) → ∀ (n4 : Nat) (v1 v2 : Int32) (u : MS) (H : Heap) (locs : List Loc) (ls : Array Slot), lv_has ls 6 [(0, .ref (Q 72)), (1, .int v1), (2, .int v2)] → mH G Q u s H locs → lp_laws_4 n4 v1 v2 u K4_35 = some ((r, u1)) → W p l e (headSpec (Cond.codeWith yX13_laws cX13_laws 6 (some .int) [(75, 79, 82, 105)] :: wM) { frames := 409, cells := 0, slots := 0, locals := 4996 }).room s m [.ref (Q 72)].toArray below meth c H locs 0 0 (MQ below (mQi G Q u1 r s.heap.size) [.ref (Q 72)].toArray s 0 0 (mA Q s.heap.size)) (F0 m 4 ls []) := by
    intro K4_35 hK4_35 n4
    induction n4 with
    | zero => intro v1 v2 u H locs ls hl hH hF; cases hF
    | succ n4 ih4 =>
      intro v1 v2 u H locs ls hl hH hF
      unfold lp_laws_4 at hF
      refine lv_iload_n hx hb dX13_laws_4 rfl (lv_at hl 2 rfl) ?_
      refine lv_iconst (v := 4) hx hb dX13_laws_5 (by decide) ?_
      refine lv_icmp_ge (tgt := 35) hx hb dX13_laws_6 (by decide) (fun c_1 => ?_) (fun c_1 => ?_)
      · rw [if_pos c_1] at hF
        exact hK4_35 v1 v2 u _ _ _ (lv_sub hl [0, 1, 2] rfl) hH hF
      · rw [if_neg c_1] at hF
        refine lv_iload_n hx hb dX13_laws_9 rfl (lv_at hl 1 rfl) ?_
        refine lv_if_ne (tgt := 23) hx hb dX13_laws_10 (by decide) (fun c_2 => ?_) (fun c_2 => ?_)
        · rw [if_neg c_2] at hF
          refine lv_iconst (v := 1) hx hb dX13_laws_23 (by decide) ?_
          refine lv_goto (tgt := 28) hx hb dX13_laws_24 (by decide) ?_
          refine lv_istore_n (lv' := [(1, .int 1), (0, .ref (Q 72)), (2, .int v2)]) hx hb dX13_laws_28 rfl hl (by decide) rfl (fun ls hl => ?_)
          obtain ⟨x_3, e_4, hF⟩ := li_some hF
          refine lv_iinc (v := x_3) (lv' := [(2, .int x_3), (1, .int 1), (0, .ref (Q 72))]) hx hb dX13_laws_29 hl (k := 2) rfl e_4 (by decide) rfl (fun ls hl => ?_)
          refine lv_goto (tgt := 4) hx hb dX13_laws_32 (by decide) ?_
          exact ih4 1 x_3 u _ _ _ (lv_sub hl [2, 1, 0] rfl) hH hF
        · rw [if_pos c_2] at hF
          refine lv_aload_n hx hb dX13_laws_13 rfl (lv_at hl 0 rfl) ?_
          refine mg_22 hC hH dX13_laws_14 ?_
          refine lv_iload_n hx hb dX13_laws_17 rfl (lv_at hl 2 rfl) ?_
          obtain ⟨g_5, hF⟩ := og_some hF
          refine ml_22 hC hH g_5 dX13_laws_18 ?_
          refine lv_iconst (v := (-1)) hx hb dX13_laws_19 (by decide) ?_
          refine lv_icmp_eq (tgt := 27) hx hb dX13_laws_20 (by decide) (fun c_6 => ?_) (fun c_6 => ?_)
          · rw [if_pos c_6] at hF
            refine lv_iconst (v := 0) hx hb dX13_laws_27 (by decide) ?_
            refine lv_istore_n (lv' := [(1, .int 0), (0, .ref (Q 72)), (2, .int v2)]) hx hb dX13_laws_28 rfl hl (by decide) rfl (fun ls hl => ?_)
            obtain ⟨x_7, e_8, hF⟩ := li_some hF
            refine lv_iinc (v := x_7) (lv' := [(2, .int x_7), (1, .int 0), (0, .ref (Q 72))]) hx hb dX13_laws_29 hl (k := 2) rfl e_8 (by decide) rfl (fun ls hl => ?_)
            refine lv_goto (tgt := 4) hx hb dX13_laws_32 (by decide) ?_
            exact ih4 0 x_7 u _ _ _ (lv_sub hl [2, 1, 0] rfl) hH hF
          · rw [if_neg c_6] at hF
            refine lv_iconst (v := 1) hx hb dX13_laws_23 (by decide) ?_
            refine lv_goto (tgt := 28) hx hb dX13_laws_24 (by decide) ?_
            refine lv_istore_n (lv' := [(1, .int 1), (0, .ref (Q 72)), (2, .int v2)]) hx hb dX13_laws_28 rfl hl (by decide) rfl (fun ls hl => ?_)
            obtain ⟨x_9, e_10, hF⟩ := li_some hF
            refine lv_iinc (v := x_9) (lv' := [(2, .int x_9), (1, .int 1), (0, .ref (Q 72))]) hx hb dX13_laws_29 hl (k := 2) rfl e_10 (by decide) rfl (fun ls hl => ?_)
            refine lv_goto (tgt := 4) hx hb dX13_laws_32 (by decide) ?_
            exact ih4 1 x_9 u _ _ _ (lv_sub hl [2, 1, 0] rfl) hH hF
  refine hL4 _ (fun v1 v2 u H locs ls hl hH hF => ?_) fuel 0 0 u _ _ _ (lv_sub hl [2, 1, 0] rfl) hH hF
  refine lv_aload_n hx hb dX13_laws_35 rfl (lv_at hl 0 rfl) ?_
  refine lv_aload_n hx hb dX13_laws_36 rfl (lv_at hl 0 rfl) ?_
  refine mg_40 hC hH dX13_laws_37 ?_
  obtain ⟨u_11, e_12, hF⟩ := lu_some hF
  refine mp_41_0 hC hH e_12 dX13_laws_40 (fun H locs hH => ?_)
  refine lv_aload_n hx hb dX13_laws_43 rfl (lv_at hl 0 rfl) ?_
  refine lv_aload_n hx hb dX13_laws_44 rfl (lv_at hl 0 rfl) ?_
  refine mg_42 hC hH dX13_laws_45 ?_
  obtain ⟨u_13, e_14, hF⟩ := lu_some hF
  refine mp_43 hC hH e_14 dX13_laws_48 (fun H locs hH => ?_)
  refine lv_aload_n hx hb dX13_laws_51 rfl (lv_at hl 0 rfl) ?_
  refine lv_iconst (v := 0) hx hb dX13_laws_52 (by decide) ?_
  obtain ⟨u_15, e_16, hF⟩ := lu_some hF
  refine mp_42 hC hH e_16 dX13_laws_53 (fun H locs hH => ?_)
  refine lv_iload_n hx hb dX13_laws_56 rfl (lv_at hl 1 rfl) ?_
  refine lv_if_eq (tgt := 63) hx hb dX13_laws_57 (by decide) (fun c_17 => ?_) (fun c_17 => ?_)
  · rw [if_pos c_17] at hF
    refine lv_aload_n hx hb dX13_laws_63 rfl (lv_at hl 0 rfl) ?_
    refine lv_iconst (v := 0) hx hb dX13_laws_64 (by decide) ?_
    obtain ⟨u_18, e_19, hF⟩ := lu_some hF
    refine mp_49 hC hH e_19 dX13_laws_65 (fun H locs hH => ?_)
    refine lv_aload_n hx hb dX13_laws_68 rfl (lv_at hl 0 rfl) ?_
    refine lv_iconst (v := (-1)) hx hb dX13_laws_69 (by decide) ?_
    obtain ⟨u_20, e_21, hF⟩ := lu_some hF
    refine mp_50 hC hH e_21 dX13_laws_70 (fun H locs hH => ?_)
    refine lv_iconst (v := 1) hx hb dX13_laws_73 (by decide) ?_
    refine lv_istore_n (lv' := [(2, .int 1), (0, .ref (Q 72)), (1, .int v1)]) hx hb dX13_laws_74 rfl hl (by decide) rfl (fun ls hl => ?_)
    refine lv_aload_n hx hb dX13_laws_75 rfl (lv_at hl 1 rfl) ?_
    obtain ⟨r_22, u_23, h_24, hF⟩ := ob_some hF
    cases r_22 with
    | none =>
      have hF := ot_none hF
      refine mt_catch (hpc := 82) hC hH (mt_run (As := []) (rest := []) hC hH (t_readLaws l G Z Q u_20 u_23  _ h_24) kwX13_readLaws kVX13_readLaws ⟨Nat.le_of_ble_eq_true rfl, Nat.le_of_ble_eq_true rfl⟩ rfl hl.1 rfl (Nat.le_of_ble_eq_true rfl) dX13_laws_76) htab (by decide) (by decide) wma1 rfl (fun H locs hH => ?_)
      refine lv_astore_n (lv' := [(3, .ref (Q 39)), (2, .int 1), (0, .ref (Q 72)), (1, .int v1)]) hx hb dX13_laws_82 rfl hl (by decide) rfl (fun ls hl => ?_)
      refine lv_iconst (v := 0) hx hb dX13_laws_83 (by decide) ?_
      refine lv_istore_n (lv' := [(2, .int 0), (3, .ref (Q 39)), (0, .ref (Q 72)), (1, .int v1)]) hx hb dX13_laws_84 rfl hl (by decide) rfl (fun ls hl => ?_)
      refine lv_aload_n hx hb dX13_laws_85 rfl (lv_at hl 2 rfl) ?_
      refine mg_43 hC hH dX13_laws_86 ?_
      obtain ⟨x_26, e_27, hF⟩ := li_some hF
      refine gx_ti e_27 ?_
      refine lv_istore_n (lv' := [(3, .int x_26), (2, .int 0), (0, .ref (Q 72)), (1, .int v1)]) hx hb dX13_laws_89 rfl hl (by decide) rfl (fun ls hl => ?_)
      refine lv_aload_n hx hb dX13_laws_90 rfl (lv_at hl 2 rfl) ?_
      refine mg_55 hC hH dX13_laws_91 ?_
      obtain ⟨x_28, e_29, hF⟩ := li_some hF
      refine gx_ti e_29 ?_
      refine lv_istore (lv' := [(4, .int x_28), (3, .int x_26), (2, .int 0), (0, .ref (Q 72)), (1, .int v1)]) hx hb dX13_laws_94 hl (by decide) rfl (fun ls hl => ?_)
      refine lv_iconst (v := 0) hx hb dX13_laws_96 (by decide) ?_
      refine lv_istore (lv' := [(5, .int 0), (4, .int x_28), (3, .int x_26), (2, .int 0), (0, .ref (Q 72)), (1, .int v1)]) hx hb dX13_laws_97 hl (by decide) rfl (fun ls hl => ?_)
      have hL99 : ∀ (K99_132 : Int32 → Int32 → Int32 → Int32 → Int32 → MS → Option (Int32 × MS)), (∀ (v1 v2 v3 v4 v5 : Int32) (u : MS) (H : Heap) (locs : List Loc) (ls : Array Slot), lv_has ls 6 [(0, .ref (Q 72)), (1, .int v1), (2, .int v2), (3, .int v3), (4, .int v4), (5, .int v5)] → mH G Q u s H locs → K99_132 v1 v2 v3 v4 v5 u = some ((r, u1)) → W p l e (headSpec (Cond.codeWith yX13_laws cX13_laws 6 (some .int) [(75, 79, 82, 105)] :: wM) { frames := 409, cells := 0, slots := 0, locals := 4996 }).room s m [.ref (Q 72)].toArray below meth c H locs 0 0 (MQ below (mQi G Q u1 r s.heap.size) [.ref (Q 72)].toArray s 0 0 (mA Q s.heap.size)) (F0 m 132 ls [])) → ∀ (n99 : Nat) (v1 v2 v3 v4 v5 : Int32) (u : MS) (H : Heap) (locs : List Loc) (ls : Array Slot), lv_has ls 6 [(0, .ref (Q 72)), (1, .int v1), (2, .int v2), (3, .int v3), (4, .int v4), (5, .int v5)] → mH G Q u s H locs → lp_laws_99 n99 v1 v2 v3 v4 v5 u K99_132 = some ((r, u1)) → W p l e (headSpec (Cond.codeWith yX13_laws cX13_laws 6 (some .int) [(75, 79, 82, 105)] :: wM) { frames := 409, cells := 0, slots := 0, locals := 4996 }).room s m [.ref (Q 72)].toArray below meth c H locs 0 0 (MQ below (mQi G Q u1 r s.heap.size) [.ref (Q 72)].toArray s 0 0 (mA Q s.heap.size)) (F0 m 99 ls []) := by
        intro K99_132 hK99_132 n99
        induction n99 with
        | zero => intro v1 v2 v3 v4 v5 u H locs ls hl hH hF; cases hF
        | succ n99 ih99 =>
          intro v1 v2 v3 v4 v5 u H locs ls hl hH hF
          unfold lp_laws_99 at hF
          refine lv_iload hx hb dX13_laws_99 (lv_at hl 5 rfl) ?_
          refine lv_iload_n hx hb dX13_laws_101 rfl (lv_at hl 3 rfl) ?_
          refine lv_icmp_ge (tgt := 132) hx hb dX13_laws_102 (by decide) (fun c_30 => ?_) (fun c_30 => ?_)
          · rw [if_pos c_30] at hF
            exact hK99_132 v1 v2 v3 v4 v5 u _ _ _ (lv_sub hl [0, 1, 2, 3, 4, 5] rfl) hH hF
          · rw [if_neg c_30] at hF
            refine lv_iload_n hx hb dX13_laws_105 rfl (lv_at hl 2 rfl) ?_
            refine lv_if_eq (tgt := 132) hx hb dX13_laws_106 (by decide) (fun c_31 => ?_) (fun c_31 => ?_)
            · rw [if_pos c_31] at hF
              exact hK99_132 v1 v2 v3 v4 v5 u _ _ _ (lv_sub hl [0, 1, 2, 3, 4, 5] rfl) hH hF
            · rw [if_neg c_31] at hF
              refine lv_aload_n hx hb dX13_laws_109 rfl (lv_at hl 0 rfl) ?_
              refine mg_54 hC hH dX13_laws_110 ?_
              refine lv_iload hx hb dX13_laws_113 (lv_at hl 4 rfl) ?_
              refine lv_iload hx hb dX13_laws_115 (lv_at hl 5 rfl) ?_
              refine lv_iadd hx hb dX13_laws_117 ?_
              refine lv_aload_n hx hb dX13_laws_118 rfl (lv_at hl 0 rfl) ?_
              refine mg_40 hC hH dX13_laws_119 ?_
              refine lv_iload hx hb dX13_laws_122 (lv_at hl 5 rfl) ?_
              obtain ⟨g_32, hF⟩ := og_some hF
              refine ml_40 hC hH g_32 dX13_laws_124 ?_
              obtain ⟨g_33, hF⟩ := og_some hF
              obtain ⟨u_34, e_35, hF⟩ := lu_some hF
              refine ms_54 hC hH e_35 g_33 dX13_laws_125 (fun H locs hH => ?_)
              obtain ⟨x_36, e_37, hF⟩ := li_some hF
              refine lv_iinc (v := x_36) (lv' := [(5, .int x_36), (0, .ref (Q 72)), (1, .int v1), (2, .int v2), (3, .int v3), (4, .int v4)]) hx hb dX13_laws_126 hl (k := 5) rfl e_37 (by decide) rfl (fun ls hl => ?_)
              refine lv_goto (tgt := 99) hx hb dX13_laws_129 (by decide) ?_
              exact ih99 v1 v2 v3 v4 x_36 u_34 _ _ _ (lv_sub hl [1, 2, 3, 4, 5, 0] rfl) hH hF
      refine hL99 _ (fun v1 v2 v3 v4 v5 u H locs ls hl hH hF => ?_) fuel v1 0 x_26 x_28 0 u_23 _ _ _ (lv_sub hl [4, 5, 3, 2, 1, 0] rfl) hH hF
      refine lv_aload_n hx hb dX13_laws_132 rfl (lv_at hl 0 rfl) ?_
      obtain ⟨r_38, u_39, h_40, hF⟩ := ob_some hF
      refine mcV_v (As := []) (rest := []) hC hH (m_lawsAgain l G Z Q u u_39 r_38  _ h_40) kwX13_lawsAgain kVX13_lawsAgain ⟨Nat.le_of_ble_eq_true rfl, Nat.le_of_ble_eq_true rfl⟩ rfl hl.1 rfl (Nat.le_of_ble_eq_true rfl) dX13_laws_133 (fun H locs hH => ?_)
      refine lv_iload_n hx hb dX13_laws_136 rfl (lv_at hl 2 rfl) ?_
      refine lv_if_ne (tgt := 142) hx hb dX13_laws_137 (by decide) (fun c_41 => ?_) (fun c_41 => ?_)
      · rw [if_neg c_41] at hF
        refine lv_aload_n hx hb dX13_laws_142 rfl (lv_at hl 0 rfl) ?_
        refine mg_53 hC hH dX13_laws_143 ?_
        refine lv_sipush (v := 500) hx hb dX13_laws_146 (by decide) ?_
        refine lv_icmp_ne (tgt := 155) hx hb dX13_laws_149 (by decide) (fun c_42 => ?_) (fun c_42 => ?_)
        · rw [if_neg c_42] at hF
          refine lv_aload_n hx hb dX13_laws_155 rfl (lv_at hl 0 rfl) ?_
          refine lv_dup hx hb dX13_laws_156 rfl ?_
          refine mg_55 hC hH dX13_laws_157 ?_
          refine lv_iload_n hx hb dX13_laws_160 rfl (lv_at hl 3 rfl) ?_
          refine lv_iadd hx hb dX13_laws_161 ?_
          obtain ⟨u_43, e_44, hF⟩ := lu_some hF
          refine mp_55 hC hH e_44 dX13_laws_162 (fun H locs hH => ?_)
          refine lv_aload_n hx hb dX13_laws_165 rfl (lv_at hl 0 rfl) ?_
          refine lv_iconst (v := 0) hx hb dX13_laws_166 (by decide) ?_
          refine lv_iload hx hb dX13_laws_167 (lv_at hl 4 rfl) ?_
          refine lv_iload_n hx hb dX13_laws_169 rfl (lv_at hl 3 rfl) ?_
          refine lv_iconst (v := 0) hx hb dX13_laws_170 (by decide) ?_
          obtain ⟨r_45, u_46, h_47, hF⟩ := ob_some hF
          refine mcV_i (As := [.int 0, .int v4, .int v3, .int 0]) (rest := []) hC hH (m_act l G Z Q u_43 u_46 r_45 0 v4 v3 0 _ h_47) kwX13_act kVX13_act ⟨Nat.le_of_ble_eq_true rfl, Nat.le_of_ble_eq_true rfl⟩ rfl hl.1 rfl (Nat.le_of_ble_eq_true rfl) dX13_laws_171 (fun H locs hH => ?_)
          exact mr_i hC hH hr hF dX13_laws_174 hlocks
        · rw [if_pos c_42] at hF
          refine lv_bipush (v := (-4)) hx hb dX13_laws_152 (by decide) ?_
          exact mr_i hC hH hr hF dX13_laws_154 hlocks
      · rw [if_pos c_41] at hF
        refine lv_iconst (v := (-1)) hx hb dX13_laws_140 (by decide) ?_
        exact mr_i hC hH hr hF dX13_laws_141 hlocks
    | some r_25 =>
      have hF := ot_some hF
      refine mcV_v (As := []) (rest := []) hC hH (m_readLaws l G Z Q u_20 u_23 r_25  _ h_24) kwX13_readLaws kVX13_readLaws ⟨Nat.le_of_ble_eq_true rfl, Nat.le_of_ble_eq_true rfl⟩ rfl hl.1 rfl (Nat.le_of_ble_eq_true rfl) dX13_laws_76 (fun H locs hH => ?_)
      refine lv_goto (tgt := 85) hx hb dX13_laws_79 (by decide) ?_
      refine lv_aload_n hx hb dX13_laws_85 rfl (lv_at hl 1 rfl) ?_
      refine mg_43 hC hH dX13_laws_86 ?_
      obtain ⟨x_48, e_49, hF⟩ := li_some hF
      refine gx_ti e_49 ?_
      refine lv_istore_n (lv' := [(3, .int x_48), (2, .int 1), (0, .ref (Q 72)), (1, .int v1)]) hx hb dX13_laws_89 rfl hl (by decide) rfl (fun ls hl => ?_)
      refine lv_aload_n hx hb dX13_laws_90 rfl (lv_at hl 2 rfl) ?_
      refine mg_55 hC hH dX13_laws_91 ?_
      obtain ⟨x_50, e_51, hF⟩ := li_some hF
      refine gx_ti e_51 ?_
      refine lv_istore (lv' := [(4, .int x_50), (3, .int x_48), (2, .int 1), (0, .ref (Q 72)), (1, .int v1)]) hx hb dX13_laws_94 hl (by decide) rfl (fun ls hl => ?_)
      refine lv_iconst (v := 0) hx hb dX13_laws_96 (by decide) ?_
      refine lv_istore (lv' := [(5, .int 0), (4, .int x_50), (3, .int x_48), (2, .int 1), (0, .ref (Q 72)), (1, .int v1)]) hx hb dX13_laws_97 hl (by decide) rfl (fun ls hl => ?_)
      have hL99 : ∀ (K99_132 : Int32 → Int32 → Int32 → Int32 → Int32 → MS → Option (Int32 × MS)), (∀ (v1 v2 v3 v4 v5 : Int32) (u : MS) (H : Heap) (locs : List Loc) (ls : Array Slot), lv_has ls 6 [(0, .ref (Q 72)), (1, .int v1), (2, .int v2), (3, .int v3), (4, .int v4), (5, .int v5)] → mH G Q u s H locs → K99_132 v1 v2 v3 v4 v5 u = some ((r, u1)) → W p l e (headSpec (Cond.codeWith yX13_laws cX13_laws 6 (some .int) [(75, 79, 82, 105)] :: wM) { frames := 409, cells := 0, slots := 0, locals := 4996 }).room s m [.ref (Q 72)].toArray below meth c H locs 0 0 (MQ below (mQi G Q u1 r s.heap.size) [.ref (Q 72)].toArray s 0 0 (mA Q s.heap.size)) (F0 m 132 ls [])) → ∀ (n99 : Nat) (v1 v2 v3 v4 v5 : Int32) (u : MS) (H : Heap) (locs : List Loc) (ls : Array Slot), lv_has ls 6 [(0, .ref (Q 72)), (1, .int v1), (2, .int v2), (3, .int v3), (4, .int v4), (5, .int v5)] → mH G Q u s H locs → lp_laws_99 n99 v1 v2 v3 v4 v5 u K99_132 = some ((r, u1)) → W p l e (headSpec (Cond.codeWith yX13_laws cX13_laws 6 (some .int) [(75, 79, 82, 105)] :: wM) { frames := 409, cells := 0, slots := 0, locals := 4996 }).room s m [.ref (Q 72)].toArray below meth c H locs 0 0 (MQ below (mQi G Q u1 r s.heap.size) [.ref (Q 72)].toArray s 0 0 (mA Q s.heap.size)) (F0 m 99 ls []) := by
        intro K99_132 hK99_132 n99
        induction n99 with
        | zero => intro v1 v2 v3 v4 v5 u H locs ls hl hH hF; cases hF
        | succ n99 ih99 =>
          intro v1 v2 v3 v4 v5 u H locs ls hl hH hF
          unfold lp_laws_99 at hF
          refine lv_iload hx hb dX13_laws_99 (lv_at hl 5 rfl) ?_
          refine lv_iload_n hx hb dX13_laws_101 rfl (lv_at hl 3 rfl) ?_
          refine lv_icmp_ge (tgt := 132) hx hb dX13_laws_102 (by decide) (fun c_52 => ?_) (fun c_52 => ?_)
          · rw [if_pos c_52] at hF
            exact hK99_132 v1 v2 v3 v4 v5 u _ _ _ (lv_sub hl [0, 1, 2, 3, 4, 5] rfl) hH hF
          · rw [if_neg c_52] at hF
            refine lv_iload_n hx hb dX13_laws_105 rfl (lv_at hl 2 rfl) ?_
            refine lv_if_eq (tgt := 132) hx hb dX13_laws_106 (by decide) (fun c_53 => ?_) (fun c_53 => ?_)
            · rw [if_pos c_53] at hF
              exact hK99_132 v1 v2 v3 v4 v5 u _ _ _ (lv_sub hl [0, 1, 2, 3, 4, 5] rfl) hH hF
            · rw [if_neg c_53] at hF
              refine lv_aload_n hx hb dX13_laws_109 rfl (lv_at hl 0 rfl) ?_
              refine mg_54 hC hH dX13_laws_110 ?_
              refine lv_iload hx hb dX13_laws_113 (lv_at hl 4 rfl) ?_
              refine lv_iload hx hb dX13_laws_115 (lv_at hl 5 rfl) ?_
              refine lv_iadd hx hb dX13_laws_117 ?_
              refine lv_aload_n hx hb dX13_laws_118 rfl (lv_at hl 0 rfl) ?_
              refine mg_40 hC hH dX13_laws_119 ?_
              refine lv_iload hx hb dX13_laws_122 (lv_at hl 5 rfl) ?_
              obtain ⟨g_54, hF⟩ := og_some hF
              refine ml_40 hC hH g_54 dX13_laws_124 ?_
              obtain ⟨g_55, hF⟩ := og_some hF
              obtain ⟨u_56, e_57, hF⟩ := lu_some hF
              refine ms_54 hC hH e_57 g_55 dX13_laws_125 (fun H locs hH => ?_)
              obtain ⟨x_58, e_59, hF⟩ := li_some hF
              refine lv_iinc (v := x_58) (lv' := [(5, .int x_58), (0, .ref (Q 72)), (1, .int v1), (2, .int v2), (3, .int v3), (4, .int v4)]) hx hb dX13_laws_126 hl (k := 5) rfl e_59 (by decide) rfl (fun ls hl => ?_)
              refine lv_goto (tgt := 99) hx hb dX13_laws_129 (by decide) ?_
              exact ih99 v1 v2 v3 v4 x_58 u_56 _ _ _ (lv_sub hl [1, 2, 3, 4, 5, 0] rfl) hH hF
      refine hL99 _ (fun v1 v2 v3 v4 v5 u H locs ls hl hH hF => ?_) fuel v1 1 x_48 x_50 0 u_23 _ _ _ (lv_sub hl [4, 5, 3, 2, 1, 0] rfl) hH hF
      refine lv_aload_n hx hb dX13_laws_132 rfl (lv_at hl 0 rfl) ?_
      obtain ⟨r_60, u_61, h_62, hF⟩ := ob_some hF
      refine mcV_v (As := []) (rest := []) hC hH (m_lawsAgain l G Z Q u u_61 r_60  _ h_62) kwX13_lawsAgain kVX13_lawsAgain ⟨Nat.le_of_ble_eq_true rfl, Nat.le_of_ble_eq_true rfl⟩ rfl hl.1 rfl (Nat.le_of_ble_eq_true rfl) dX13_laws_133 (fun H locs hH => ?_)
      refine lv_iload_n hx hb dX13_laws_136 rfl (lv_at hl 2 rfl) ?_
      refine lv_if_ne (tgt := 142) hx hb dX13_laws_137 (by decide) (fun c_63 => ?_) (fun c_63 => ?_)
      · rw [if_neg c_63] at hF
        refine lv_aload_n hx hb dX13_laws_142 rfl (lv_at hl 0 rfl) ?_
        refine mg_53 hC hH dX13_laws_143 ?_
        refine lv_sipush (v := 500) hx hb dX13_laws_146 (by decide) ?_
        refine lv_icmp_ne (tgt := 155) hx hb dX13_laws_149 (by decide) (fun c_64 => ?_) (fun c_64 => ?_)
        · rw [if_neg c_64] at hF
          refine lv_aload_n hx hb dX13_laws_155 rfl (lv_at hl 0 rfl) ?_
          refine lv_dup hx hb dX13_laws_156 rfl ?_
          refine mg_55 hC hH dX13_laws_157 ?_
          refine lv_iload_n hx hb dX13_laws_160 rfl (lv_at hl 3 rfl) ?_
          refine lv_iadd hx hb dX13_laws_161 ?_
          obtain ⟨u_65, e_66, hF⟩ := lu_some hF
          refine mp_55 hC hH e_66 dX13_laws_162 (fun H locs hH => ?_)
          refine lv_aload_n hx hb dX13_laws_165 rfl (lv_at hl 0 rfl) ?_
          refine lv_iconst (v := 0) hx hb dX13_laws_166 (by decide) ?_
          refine lv_iload hx hb dX13_laws_167 (lv_at hl 4 rfl) ?_
          refine lv_iload_n hx hb dX13_laws_169 rfl (lv_at hl 3 rfl) ?_
          refine lv_iconst (v := 0) hx hb dX13_laws_170 (by decide) ?_
          obtain ⟨r_67, u_68, h_69, hF⟩ := ob_some hF
          refine mcV_i (As := [.int 0, .int v4, .int v3, .int 0]) (rest := []) hC hH (m_act l G Z Q u_65 u_68 r_67 0 v4 v3 0 _ h_69) kwX13_act kVX13_act ⟨Nat.le_of_ble_eq_true rfl, Nat.le_of_ble_eq_true rfl⟩ rfl hl.1 rfl (Nat.le_of_ble_eq_true rfl) dX13_laws_171 (fun H locs hH => ?_)
          exact mr_i hC hH hr hF dX13_laws_174 hlocks
        · rw [if_pos c_64] at hF
          refine lv_bipush (v := (-4)) hx hb dX13_laws_152 (by decide) ?_
          exact mr_i hC hH hr hF dX13_laws_154 hlocks
      · rw [if_pos c_63] at hF
        refine lv_iconst (v := (-1)) hx hb dX13_laws_140 (by decide) ?_
        exact mr_i hC hH hr hF dX13_laws_141 hlocks
  · rw [if_neg c_17] at hF
    refine lv_bipush (v := (-3)) hx hb dX13_laws_60 (by decide) ?_
    exact mr_i hC hH hr hF dX13_laws_62 hlocks
def lp_limit_54 : Nat → Int32 → Int32 → Int32 → Int32 → Int32 → MS → (Int32 → Int32 → Int32 → Int32 → Int32 → MS → Option (Int32 × MS)) → Option (Int32 × MS)
  | 0, _, _, _, _, _, _, _ => none
  | n54 + 1, v1, v2, v3, v4, v5, u, K54_102 => (if (u.1 2) ≤ v5 then K54_102 v1 v2 v3 v4 v5 u else (if v4 = 0 then og (gi v5 96) ((if (ra u 5 v5) = v1 then og (gi v5 96) ((if (ra u 8 v5) = 0 then li (v5 + 1) (fun x_25 => lp_limit_54 n54 v1 v2 v3 0 x_25 u K54_102) else li (v5 + 1) (fun x_27 => lp_limit_54 n54 v1 v2 v3 1 x_27 u K54_102))) else li (v5 + 1) (fun x_21 => lp_limit_54 n54 v1 v2 v3 0 x_21 u K54_102))) else li (v5 + 1) (fun x_17 => lp_limit_54 n54 v1 v2 v3 1 x_17 u K54_102)))
def f_limit (a0 : Int32) (a1 : Int32) (a2 : Int32) (u : MS) : Option (Int32 × MS) := ob (f_isClass a0 u) (fun r_1 u_2 => (if r_1 = 0 then some (-2, u_2) else ob (f_in a1.toInt64 0 200000 u_2) (fun r_5 u_6 => (if r_5 = 0 then some (-2, u_6) else ob (f_in a2.toInt64 a1.toInt64 200000 u_6) (fun r_9 u_10 => (if r_9 = 0 then some (-2, u_10) else og (gi a0 4) ((if (ra u_10 12 a0) = 0 then lp_limit_54 fuel a0 a1 a2 0 0 u_10 (fun v1 v2 v3 v4 v5 u => (if v4 = 0 then ob (f_act 1 v1 v2 v3 u) (fun r_30 u_31 => some (r_30, u_31)) else some (-3, u))) else lp_limit_54 fuel a0 a1 a2 1 0 u_10 (fun v1 v2 v3 v4 v5 u => (if v4 = 0 then ob (f_act 1 v1 v2 v3 u) (fun r_48 u_49 => some (r_48, u_49)) else some (-3, u)))))))))))
set_option maxHeartbeats 4000000 in
set_option maxRecDepth 100000 in
theorem m_limit (l : Launch) (G : gG) (Z : gM) (Q : Nat → Nat) (u u1 : MS) (r : Int32) (a0 : Int32) (a1 : Int32) (a2 : Int32) (sz : Nat) (hF : f_limit a0 a1 a2 u = some (r, u1)) : Met l yX13_limit (Cond.code yX13_limit cX13_limit 6 (some .int) :: wM) { frames := 409, cells := 0, slots := 0, locals := 4996 } (va_Pc [.ref (Q 72), .int a0, .int a1, .int a2] (mPM G Z Q u sz)) (mQi G Q u1 r sz) 0 0 (mA Q sz) := by
  refine Met.ofW (cc := cX13_limit) (maxL := 6) (ret := (some .int)) (by decide) rfl ?_
  intro p e s m args below meth c s₁ B hml hv
  obtain ⟨rfl, rfl, hP, hB, hD, hE⟩ := hv
  have hr := B.returns
  have hlocks := B.notSynchronized
  have hts := atoms_spec (ws := Cond.code yX13_limit cX13_limit 6 (some .int) :: wM) B.pre
  have hC : mX p c cX13_limit 6 s m _ G Z Q := ⟨B.exec, B.bytes, hml, findClass_of_methodNamed B.named, fun w h => hts w (List.mem_cons_of_mem _ h), hB, hE⟩
  have hx := hC.1
  have hb := hC.2.1
  have hH : mH G Q u s s.heap [] := ⟨hP, hD, va_S.rf⟩
  have hl := lv_entry ([.ref (Q 72), .int a0, .int a1, .int a2]) (n := 6) (Nat.le_of_ble_eq_true rfl)
  rw [lg_entry_eq]
  generalize (lg_sl ([.ref (Q 72), .int a0, .int a1, .int a2]) ++ List.replicate (6 - (lg_sl ([.ref (Q 72), .int a0, .int a1, .int a2])).length) Slot.unset).toArray = ls at hl ⊢
  have hl : lv_has ls 6 [(0, .ref (Q 72)), (1, .int a0), (2, .int a1), (3, .int a2)] := hl
  unfold f_limit at hF
  refine lv_iload_n hx hb dX13_limit_0 rfl (lv_at hl 1 rfl) ?_
  obtain ⟨r_1, u_2, h_3, hF⟩ := ob_some hF
  refine mcS_i (As := [.int a0]) (rest := []) hC hH (m_isClass l G Z Q u u_2 r_1 a0 _ h_3) kwX13_isClass kVX13_isClass ⟨Nat.le_of_ble_eq_true rfl, Nat.le_of_ble_eq_true rfl⟩ rfl hl.1 rfl (Nat.le_of_ble_eq_true rfl) dX13_limit_1 (fun H locs hH => ?_)
  refine lv_if_eq (tgt := 32) hx hb dX13_limit_4 (by decide) (fun c_4 => ?_) (fun c_4 => ?_)
  · rw [if_pos c_4] at hF
    refine lv_bipush (v := (-2)) hx hb dX13_limit_32 (by decide) ?_
    exact mr_i hC hH hr hF dX13_limit_34 hlocks
  · rw [if_neg c_4] at hF
    refine lv_iload_n hx hb dX13_limit_7 rfl (lv_at hl 2 rfl) ?_
    refine lv_i2l (v := a1.toInt64) hx hb dX13_limit_8 rfl ?_
    refine lv_lconst (v := 0) hx hb dX13_limit_9 (by decide) ?_
    refine lv_ldc2 (v := 200000) hx hb hC.2.2.2.1 (hC.2.2.2.2.1 _ wma142) dX13_limit_10 ?_
    obtain ⟨r_5, u_6, h_7, hF⟩ := ob_some hF
    refine mcS_i (As := [.long a1.toInt64, .long 0, .long 200000]) (rest := []) hC hH (m_in l G Z Q u_2 u_6 r_5 a1.toInt64 0 200000 _ h_7) kwX13_in kVX13_in ⟨Nat.le_of_ble_eq_true rfl, Nat.le_of_ble_eq_true rfl⟩ rfl hl.1 rfl (Nat.le_of_ble_eq_true rfl) dX13_limit_13 (fun H locs hH => ?_)
    refine lv_if_eq (tgt := 32) hx hb dX13_limit_16 (by decide) (fun c_8 => ?_) (fun c_8 => ?_)
    · rw [if_pos c_8] at hF
      refine lv_bipush (v := (-2)) hx hb dX13_limit_32 (by decide) ?_
      exact mr_i hC hH hr hF dX13_limit_34 hlocks
    · rw [if_neg c_8] at hF
      refine lv_iload_n hx hb dX13_limit_19 rfl (lv_at hl 3 rfl) ?_
      refine lv_i2l (v := a2.toInt64) hx hb dX13_limit_20 rfl ?_
      refine lv_iload_n hx hb dX13_limit_21 rfl (lv_at hl 2 rfl) ?_
      refine lv_i2l (v := a1.toInt64) hx hb dX13_limit_22 rfl ?_
      refine lv_ldc2 (v := 200000) hx hb hC.2.2.2.1 (hC.2.2.2.2.1 _ wma142) dX13_limit_23 ?_
      obtain ⟨r_9, u_10, h_11, hF⟩ := ob_some hF
      refine mcS_i (As := [.long a2.toInt64, .long a1.toInt64, .long 200000]) (rest := []) hC hH (m_in l G Z Q u_6 u_10 r_9 a2.toInt64 a1.toInt64 200000 _ h_11) kwX13_in kVX13_in ⟨Nat.le_of_ble_eq_true rfl, Nat.le_of_ble_eq_true rfl⟩ rfl hl.1 rfl (Nat.le_of_ble_eq_true rfl) dX13_limit_26 (fun H locs hH => ?_)
      refine lv_if_ne (tgt := 35) hx hb dX13_limit_29 (by decide) (fun c_12 => ?_) (fun c_12 => ?_)
      · rw [if_neg c_12] at hF
        refine lv_aload_n hx hb dX13_limit_35 rfl (lv_at hl 0 rfl) ?_
        refine mg_12 hC hH dX13_limit_36 ?_
        refine lv_iload_n hx hb dX13_limit_39 rfl (lv_at hl 1 rfl) ?_
        obtain ⟨g_13, hF⟩ := og_some hF
        refine ml_12 hC hH g_13 dX13_limit_40 ?_
        refine lv_if_eq (tgt := 48) hx hb dX13_limit_41 (by decide) (fun c_14 => ?_) (fun c_14 => ?_)
        · rw [if_pos c_14] at hF
          refine lv_iconst (v := 0) hx hb dX13_limit_48 (by decide) ?_
          refine lv_istore (lv' := [(4, .int 0), (0, .ref (Q 72)), (1, .int a0), (2, .int a1), (3, .int a2)]) hx hb dX13_limit_49 hl (by decide) rfl (fun ls hl => ?_)
          refine lv_iconst (v := 0) hx hb dX13_limit_51 (by decide) ?_
          refine lv_istore (lv' := [(5, .int 0), (4, .int 0), (0, .ref (Q 72)), (1, .int a0), (2, .int a1), (3, .int a2)]) hx hb dX13_limit_52 hl (by decide) rfl (fun ls hl => ?_)
          have hL54 : ∀ (K54_102 : Int32 → Int32 → Int32 → Int32 → Int32 → MS → Option (Int32 × MS)), (∀ (v1 v2 v3 v4 v5 : Int32) (u : MS) (H : Heap) (locs : List Loc) (ls : Array Slot), lv_has ls 6 [(0, .ref (Q 72)), (1, .int v1), (2, .int v2), (3, .int v3), (4, .int v4), (5, .int v5)] → mH G Q u s H locs → K54_102 v1 v2 v3 v4 v5 u = some ((r, u1)) → W p l e (headSpec (Cond.code yX13_limit cX13_limit 6 (some .int) :: wM) { frames := 409, cells := 0, slots := 0, locals := 4996 }).room s m [.ref (Q 72), .int a0, .int a1, .int a2].toArray below meth c H locs 0 0 (MQ below (mQi G Q u1 r s.heap.size) [.ref (Q 72), .int a0, .int a1, .int a2].toArray s 0 0 (mA Q s.heap.size)) (F0 m 102 ls [])) → ∀ (n54 : Nat) (v1 v2 v3 v4 v5 : Int32) (u : MS) (H : Heap) (locs : List Loc) (ls : Array Slot), lv_has ls 6 [(0, .ref (Q 72)), (1, .int v1), (2, .int v2), (3, .int v3), (4, .int v4), (5, .int v5)] → mH G Q u s H locs → lp_limit_54 n54 v1 v2 v3 v4 v5 u K54_102 = some ((r, u1)) → W p l e (headSpec (Cond.code yX13_limit cX13_limit 6 (some .int) :: wM) { frames := 409, cells := 0, slots := 0, locals := 4996 }).room s m [.ref (Q 72), .int a0, .int a1, .int a2].toArray below meth c H locs 0 0 (MQ below (mQi G Q u1 r s.heap.size) [.ref (Q 72), .int a0, .int a1, .int a2].toArray s 0 0 (mA Q s.heap.size)) (F0 m 54 ls []) := by
            intro K54_102 hK54_102 n54
            induction n54 with
            | zero => intro v1 v2 v3 v4 v5 u H locs ls hl hH hF; cases hF
            | succ n54 ih54 =>
              intro v1 v2 v3 v4 v5 u H locs ls hl hH hF
              unfold lp_limit_54 at hF
              refine lv_iload hx hb dX13_limit_54 (lv_at hl 5 rfl) ?_
              refine lv_aload_n hx hb dX13_limit_56 rfl (lv_at hl 0 rfl) ?_
              refine mg_2 hC hH dX13_limit_57 ?_
              refine lv_icmp_ge (tgt := 102) hx hb dX13_limit_60 (by decide) (fun c_15 => ?_) (fun c_15 => ?_)
              · rw [if_pos c_15] at hF
                exact hK54_102 v1 v2 v3 v4 v5 u _ _ _ (lv_sub hl [0, 1, 2, 3, 4, 5] rfl) hH hF
              · rw [if_neg c_15] at hF
                refine lv_iload hx hb dX13_limit_63 (lv_at hl 4 rfl) ?_
                refine lv_if_ne (tgt := 89) hx hb dX13_limit_65 (by decide) (fun c_16 => ?_) (fun c_16 => ?_)
                · rw [if_neg c_16] at hF
                  refine lv_iconst (v := 1) hx hb dX13_limit_89 (by decide) ?_
                  refine lv_goto (tgt := 94) hx hb dX13_limit_90 (by decide) ?_
                  refine lv_istore (lv' := [(4, .int 1), (0, .ref (Q 72)), (1, .int v1), (2, .int v2), (3, .int v3), (5, .int v5)]) hx hb dX13_limit_94 hl (by decide) rfl (fun ls hl => ?_)
                  obtain ⟨x_17, e_18, hF⟩ := li_some hF
                  refine lv_iinc (v := x_17) (lv' := [(5, .int x_17), (4, .int 1), (0, .ref (Q 72)), (1, .int v1), (2, .int v2), (3, .int v3)]) hx hb dX13_limit_96 hl (k := 5) rfl e_18 (by decide) rfl (fun ls hl => ?_)
                  refine lv_goto (tgt := 54) hx hb dX13_limit_99 (by decide) ?_
                  exact ih54 v1 v2 v3 1 x_17 u _ _ _ (lv_sub hl [2, 3, 4, 5, 1, 0] rfl) hH hF
                · rw [if_pos c_16] at hF
                  refine lv_aload_n hx hb dX13_limit_68 rfl (lv_at hl 0 rfl) ?_
                  refine mg_5 hC hH dX13_limit_69 ?_
                  refine lv_iload hx hb dX13_limit_72 (lv_at hl 5 rfl) ?_
                  obtain ⟨g_19, hF⟩ := og_some hF
                  refine ml_5 hC hH g_19 dX13_limit_74 ?_
                  refine lv_iload_n hx hb dX13_limit_75 rfl (lv_at hl 1 rfl) ?_
                  refine lv_icmp_ne (tgt := 93) hx hb dX13_limit_76 (by decide) (fun c_20 => ?_) (fun c_20 => ?_)
                  · rw [if_neg c_20] at hF
                    refine lv_iconst (v := 0) hx hb dX13_limit_93 (by decide) ?_
                    refine lv_istore (lv' := [(4, .int 0), (0, .ref (Q 72)), (1, .int v1), (2, .int v2), (3, .int v3), (5, .int v5)]) hx hb dX13_limit_94 hl (by decide) rfl (fun ls hl => ?_)
                    obtain ⟨x_21, e_22, hF⟩ := li_some hF
                    refine lv_iinc (v := x_21) (lv' := [(5, .int x_21), (4, .int 0), (0, .ref (Q 72)), (1, .int v1), (2, .int v2), (3, .int v3)]) hx hb dX13_limit_96 hl (k := 5) rfl e_22 (by decide) rfl (fun ls hl => ?_)
                    refine lv_goto (tgt := 54) hx hb dX13_limit_99 (by decide) ?_
                    exact ih54 v1 v2 v3 0 x_21 u _ _ _ (lv_sub hl [2, 3, 4, 5, 1, 0] rfl) hH hF
                  · rw [if_pos c_20] at hF
                    refine lv_aload_n hx hb dX13_limit_79 rfl (lv_at hl 0 rfl) ?_
                    refine mg_8 hC hH dX13_limit_80 ?_
                    refine lv_iload hx hb dX13_limit_83 (lv_at hl 5 rfl) ?_
                    obtain ⟨g_23, hF⟩ := og_some hF
                    refine ml_8 hC hH g_23 dX13_limit_85 ?_
                    refine lv_if_eq (tgt := 93) hx hb dX13_limit_86 (by decide) (fun c_24 => ?_) (fun c_24 => ?_)
                    · rw [if_pos c_24] at hF
                      refine lv_iconst (v := 0) hx hb dX13_limit_93 (by decide) ?_
                      refine lv_istore (lv' := [(4, .int 0), (0, .ref (Q 72)), (1, .int v1), (2, .int v2), (3, .int v3), (5, .int v5)]) hx hb dX13_limit_94 hl (by decide) rfl (fun ls hl => ?_)
                      obtain ⟨x_25, e_26, hF⟩ := li_some hF
                      refine lv_iinc (v := x_25) (lv' := [(5, .int x_25), (4, .int 0), (0, .ref (Q 72)), (1, .int v1), (2, .int v2), (3, .int v3)]) hx hb dX13_limit_96 hl (k := 5) rfl e_26 (by decide) rfl (fun ls hl => ?_)
                      refine lv_goto (tgt := 54) hx hb dX13_limit_99 (by decide) ?_
                      exact ih54 v1 v2 v3 0 x_25 u _ _ _ (lv_sub hl [2, 3, 4, 5, 1, 0] rfl) hH hF
                    · rw [if_neg c_24] at hF
                      refine lv_iconst (v := 1) hx hb dX13_limit_89 (by decide) ?_
                      refine lv_goto (tgt := 94) hx hb dX13_limit_90 (by decide) ?_
                      refine lv_istore (lv' := [(4, .int 1), (0, .ref (Q 72)), (1, .int v1), (2, .int v2), (3, .int v3), (5, .int v5)]) hx hb dX13_limit_94 hl (by decide) rfl (fun ls hl => ?_)
                      obtain ⟨x_27, e_28, hF⟩ := li_some hF
                      refine lv_iinc (v := x_27) (lv' := [(5, .int x_27), (4, .int 1), (0, .ref (Q 72)), (1, .int v1), (2, .int v2), (3, .int v3)]) hx hb dX13_limit_96 hl (k := 5) rfl e_28 (by decide) rfl (fun ls hl => ?_)
                      refine lv_goto (tgt := 54) hx hb dX13_limit_99 (by decide) ?_
                      exact ih54 v1 v2 v3 1 x_27 u _ _ _ (lv_sub hl [2, 3, 4, 5, 1, 0] rfl) hH hF
          refine hL54 _ (fun v1 v2 v3 v4 v5 u H locs ls hl hH hF => ?_) fuel a0 a1 a2 0 0 u_10 _ _ _ (lv_sub hl [2, 3, 4, 5, 1, 0] rfl) hH hF
          refine lv_iload hx hb dX13_limit_102 (lv_at hl 4 rfl) ?_
          refine lv_if_eq (tgt := 112) hx hb dX13_limit_104 (by decide) (fun c_29 => ?_) (fun c_29 => ?_)
          · rw [if_pos c_29] at hF
            refine lv_aload_n hx hb dX13_limit_112 rfl (lv_at hl 0 rfl) ?_
            refine lv_iconst (v := 1) hx hb dX13_limit_113 (by decide) ?_
            refine lv_iload_n hx hb dX13_limit_114 rfl (lv_at hl 1 rfl) ?_
            refine lv_iload_n hx hb dX13_limit_115 rfl (lv_at hl 2 rfl) ?_
            refine lv_iload_n hx hb dX13_limit_116 rfl (lv_at hl 3 rfl) ?_
            obtain ⟨r_30, u_31, h_32, hF⟩ := ob_some hF
            refine mcV_i (As := [.int 1, .int v1, .int v2, .int v3]) (rest := []) hC hH (m_act l G Z Q u u_31 r_30 1 v1 v2 v3 _ h_32) kwX13_act kVX13_act ⟨Nat.le_of_ble_eq_true rfl, Nat.le_of_ble_eq_true rfl⟩ rfl hl.1 rfl (Nat.le_of_ble_eq_true rfl) dX13_limit_117 (fun H locs hH => ?_)
            exact mr_i hC hH hr hF dX13_limit_120 hlocks
          · rw [if_neg c_29] at hF
            refine lv_bipush (v := (-3)) hx hb dX13_limit_107 (by decide) ?_
            refine lv_goto (tgt := 120) hx hb dX13_limit_109 (by decide) ?_
            exact mr_i hC hH hr hF dX13_limit_120 hlocks
        · rw [if_neg c_14] at hF
          refine lv_iconst (v := 1) hx hb dX13_limit_44 (by decide) ?_
          refine lv_goto (tgt := 49) hx hb dX13_limit_45 (by decide) ?_
          refine lv_istore (lv' := [(4, .int 1), (0, .ref (Q 72)), (1, .int a0), (2, .int a1), (3, .int a2)]) hx hb dX13_limit_49 hl (by decide) rfl (fun ls hl => ?_)
          refine lv_iconst (v := 0) hx hb dX13_limit_51 (by decide) ?_
          refine lv_istore (lv' := [(5, .int 0), (4, .int 1), (0, .ref (Q 72)), (1, .int a0), (2, .int a1), (3, .int a2)]) hx hb dX13_limit_52 hl (by decide) rfl (fun ls hl => ?_)
          have hL54 : ∀ (K54_102 : Int32 → Int32 → Int32 → Int32 → Int32 → MS → Option (Int32 × MS)), (∀ (v1 v2 v3 v4 v5 : Int32) (u : MS) (H : Heap) (locs : List Loc) (ls : Array Slot), lv_has ls 6 [(0, .ref (Q 72)), (1, .int v1), (2, .int v2), (3, .int v3), (4, .int v4), (5, .int v5)] → mH G Q u s H locs → K54_102 v1 v2 v3 v4 v5 u = some ((r, u1)) → W p l e (headSpec (Cond.code yX13_limit cX13_limit 6 (some .int) :: wM) { frames := 409, cells := 0, slots := 0, locals := 4996 }).room s m [.ref (Q 72), .int a0, .int a1, .int a2].toArray below meth c H locs 0 0 (MQ below (mQi G Q u1 r s.heap.size) [.ref (Q 72), .int a0, .int a1, .int a2].toArray s 0 0 (mA Q s.heap.size)) (F0 m 102 ls [])) → ∀ (n54 : Nat) (v1 v2 v3 v4 v5 : Int32) (u : MS) (H : Heap) (locs : List Loc) (ls : Array Slot), lv_has ls 6 [(0, .ref (Q 72)), (1, .int v1), (2, .int v2), (3, .int v3), (4, .int v4), (5, .int v5)] → mH G Q u s H locs → lp_limit_54 n54 v1 v2 v3 v4 v5 u K54_102 = some ((r, u1)) → W p l e (headSpec (Cond.code yX13_limit cX13_limit 6 (some .int) :: wM) { frames := 409, cells := 0, slots := 0, locals := 4996 }).room s m [.ref (Q 72), .int a0, .int a1, .int a2].toArray below meth c H locs 0 0 (MQ below (mQi G Q u1 r s.heap.size) [.ref (Q 72), .int a0, .int a1, .int a2].toArray s 0 0 (mA Q s.heap.size)) (F0 m 54 ls []) := by
            intro K54_102 hK54_102 n54
            induction n54 with
            | zero => intro v1 v2 v3 v4 v5 u H locs ls hl hH hF; cases hF
            | succ n54 ih54 =>
              intro v1 v2 v3 v4 v5 u H locs ls hl hH hF
              unfold lp_limit_54 at hF
              refine lv_iload hx hb dX13_limit_54 (lv_at hl 5 rfl) ?_
              refine lv_aload_n hx hb dX13_limit_56 rfl (lv_at hl 0 rfl) ?_
              refine mg_2 hC hH dX13_limit_57 ?_
              refine lv_icmp_ge (tgt := 102) hx hb dX13_limit_60 (by decide) (fun c_33 => ?_) (fun c_33 => ?_)
              · rw [if_pos c_33] at hF
                exact hK54_102 v1 v2 v3 v4 v5 u _ _ _ (lv_sub hl [0, 1, 2, 3, 4, 5] rfl) hH hF
              · rw [if_neg c_33] at hF
                refine lv_iload hx hb dX13_limit_63 (lv_at hl 4 rfl) ?_
                refine lv_if_ne (tgt := 89) hx hb dX13_limit_65 (by decide) (fun c_34 => ?_) (fun c_34 => ?_)
                · rw [if_neg c_34] at hF
                  refine lv_iconst (v := 1) hx hb dX13_limit_89 (by decide) ?_
                  refine lv_goto (tgt := 94) hx hb dX13_limit_90 (by decide) ?_
                  refine lv_istore (lv' := [(4, .int 1), (0, .ref (Q 72)), (1, .int v1), (2, .int v2), (3, .int v3), (5, .int v5)]) hx hb dX13_limit_94 hl (by decide) rfl (fun ls hl => ?_)
                  obtain ⟨x_35, e_36, hF⟩ := li_some hF
                  refine lv_iinc (v := x_35) (lv' := [(5, .int x_35), (4, .int 1), (0, .ref (Q 72)), (1, .int v1), (2, .int v2), (3, .int v3)]) hx hb dX13_limit_96 hl (k := 5) rfl e_36 (by decide) rfl (fun ls hl => ?_)
                  refine lv_goto (tgt := 54) hx hb dX13_limit_99 (by decide) ?_
                  exact ih54 v1 v2 v3 1 x_35 u _ _ _ (lv_sub hl [2, 3, 4, 5, 1, 0] rfl) hH hF
                · rw [if_pos c_34] at hF
                  refine lv_aload_n hx hb dX13_limit_68 rfl (lv_at hl 0 rfl) ?_
                  refine mg_5 hC hH dX13_limit_69 ?_
                  refine lv_iload hx hb dX13_limit_72 (lv_at hl 5 rfl) ?_
                  obtain ⟨g_37, hF⟩ := og_some hF
                  refine ml_5 hC hH g_37 dX13_limit_74 ?_
                  refine lv_iload_n hx hb dX13_limit_75 rfl (lv_at hl 1 rfl) ?_
                  refine lv_icmp_ne (tgt := 93) hx hb dX13_limit_76 (by decide) (fun c_38 => ?_) (fun c_38 => ?_)
                  · rw [if_neg c_38] at hF
                    refine lv_iconst (v := 0) hx hb dX13_limit_93 (by decide) ?_
                    refine lv_istore (lv' := [(4, .int 0), (0, .ref (Q 72)), (1, .int v1), (2, .int v2), (3, .int v3), (5, .int v5)]) hx hb dX13_limit_94 hl (by decide) rfl (fun ls hl => ?_)
                    obtain ⟨x_39, e_40, hF⟩ := li_some hF
                    refine lv_iinc (v := x_39) (lv' := [(5, .int x_39), (4, .int 0), (0, .ref (Q 72)), (1, .int v1), (2, .int v2), (3, .int v3)]) hx hb dX13_limit_96 hl (k := 5) rfl e_40 (by decide) rfl (fun ls hl => ?_)
                    refine lv_goto (tgt := 54) hx hb dX13_limit_99 (by decide) ?_
                    exact ih54 v1 v2 v3 0 x_39 u _ _ _ (lv_sub hl [2, 3, 4, 5, 1, 0] rfl) hH hF
                  · rw [if_pos c_38] at hF
                    refine lv_aload_n hx hb dX13_limit_79 rfl (lv_at hl 0 rfl) ?_
                    refine mg_8 hC hH dX13_limit_80 ?_
                    refine lv_iload hx hb dX13_limit_83 (lv_at hl 5 rfl) ?_
                    obtain ⟨g_41, hF⟩ := og_some hF
                    refine ml_8 hC hH g_41 dX13_limit_85 ?_
                    refine lv_if_eq (tgt := 93) hx hb dX13_limit_86 (by decide) (fun c_42 => ?_) (fun c_42 => ?_)
                    · rw [if_pos c_42] at hF
                      refine lv_iconst (v := 0) hx hb dX13_limit_93 (by decide) ?_
                      refine lv_istore (lv' := [(4, .int 0), (0, .ref (Q 72)), (1, .int v1), (2, .int v2), (3, .int v3), (5, .int v5)]) hx hb dX13_limit_94 hl (by decide) rfl (fun ls hl => ?_)
                      obtain ⟨x_43, e_44, hF⟩ := li_some hF
                      refine lv_iinc (v := x_43) (lv' := [(5, .int x_43), (4, .int 0), (0, .ref (Q 72)), (1, .int v1), (2, .int v2), (3, .int v3)]) hx hb dX13_limit_96 hl (k := 5) rfl e_44 (by decide) rfl (fun ls hl => ?_)
                      refine lv_goto (tgt := 54) hx hb dX13_limit_99 (by decide) ?_
                      exact ih54 v1 v2 v3 0 x_43 u _ _ _ (lv_sub hl [2, 3, 4, 5, 1, 0] rfl) hH hF
                    · rw [if_neg c_42] at hF
                      refine lv_iconst (v := 1) hx hb dX13_limit_89 (by decide) ?_
                      refine lv_goto (tgt := 94) hx hb dX13_limit_90 (by decide) ?_
                      refine lv_istore (lv' := [(4, .int 1), (0, .ref (Q 72)), (1, .int v1), (2, .int v2), (3, .int v3), (5, .int v5)]) hx hb dX13_limit_94 hl (by decide) rfl (fun ls hl => ?_)
                      obtain ⟨x_45, e_46, hF⟩ := li_some hF
                      refine lv_iinc (v := x_45) (lv' := [(5, .int x_45), (4, .int 1), (0, .ref (Q 72)), (1, .int v1), (2, .int v2), (3, .int v3)]) hx hb dX13_limit_96 hl (k := 5) rfl e_46 (by decide) rfl (fun ls hl => ?_)
                      refine lv_goto (tgt := 54) hx hb dX13_limit_99 (by decide) ?_
                      exact ih54 v1 v2 v3 1 x_45 u _ _ _ (lv_sub hl [2, 3, 4, 5, 1, 0] rfl) hH hF
          refine hL54 _ (fun v1 v2 v3 v4 v5 u H locs ls hl hH hF => ?_) fuel a0 a1 a2 1 0 u_10 _ _ _ (lv_sub hl [2, 3, 4, 5, 1, 0] rfl) hH hF
          refine lv_iload hx hb dX13_limit_102 (lv_at hl 4 rfl) ?_
          refine lv_if_eq (tgt := 112) hx hb dX13_limit_104 (by decide) (fun c_47 => ?_) (fun c_47 => ?_)
          · rw [if_pos c_47] at hF
            refine lv_aload_n hx hb dX13_limit_112 rfl (lv_at hl 0 rfl) ?_
            refine lv_iconst (v := 1) hx hb dX13_limit_113 (by decide) ?_
            refine lv_iload_n hx hb dX13_limit_114 rfl (lv_at hl 1 rfl) ?_
            refine lv_iload_n hx hb dX13_limit_115 rfl (lv_at hl 2 rfl) ?_
            refine lv_iload_n hx hb dX13_limit_116 rfl (lv_at hl 3 rfl) ?_
            obtain ⟨r_48, u_49, h_50, hF⟩ := ob_some hF
            refine mcV_i (As := [.int 1, .int v1, .int v2, .int v3]) (rest := []) hC hH (m_act l G Z Q u u_49 r_48 1 v1 v2 v3 _ h_50) kwX13_act kVX13_act ⟨Nat.le_of_ble_eq_true rfl, Nat.le_of_ble_eq_true rfl⟩ rfl hl.1 rfl (Nat.le_of_ble_eq_true rfl) dX13_limit_117 (fun H locs hH => ?_)
            exact mr_i hC hH hr hF dX13_limit_120 hlocks
          · rw [if_neg c_47] at hF
            refine lv_bipush (v := (-3)) hx hb dX13_limit_107 (by decide) ?_
            refine lv_goto (tgt := 120) hx hb dX13_limit_109 (by decide) ?_
            exact mr_i hC hH hr hF dX13_limit_120 hlocks
      · rw [if_pos c_12] at hF
        refine lv_bipush (v := (-2)) hx hb dX13_limit_32 (by decide) ?_
        exact mr_i hC hH hr hF dX13_limit_34 hlocks
def f_enter (a0 : Int32) (a1 : Int32) (u : MS) : Option (Int32 × MS) := ob (f_in a0.toInt64 0 15 u) (fun r_1 u_2 => (if r_1 = 0 then some (-2, u_2) else ob (f_isClass a1 u_2) (fun r_5 u_6 => (if r_5 = 0 then some (-2, u_6) else og (gi a1 4) ((if (ra u_6 12 a1) = 0 then (if (u_6.1 2) = 96 then some (-4, u_6) else ob (f_act 2 a0 a1 0 u_6) (fun r_12 u_13 => some (r_12, u_13))) else some (-3, u_6)))))))
set_option maxHeartbeats 4000000 in
set_option maxRecDepth 100000 in
theorem m_enter (l : Launch) (G : gG) (Z : gM) (Q : Nat → Nat) (u u1 : MS) (r : Int32) (a0 : Int32) (a1 : Int32) (sz : Nat) (hF : f_enter a0 a1 u = some (r, u1)) : Met l yX13_enter (Cond.code yX13_enter cX13_enter 3 (some .int) :: wM) { frames := 409, cells := 0, slots := 0, locals := 4996 } (va_Pc [.ref (Q 72), .int a0, .int a1] (mPM G Z Q u sz)) (mQi G Q u1 r sz) 0 0 (mA Q sz) := by
  refine Met.ofW (cc := cX13_enter) (maxL := 3) (ret := (some .int)) (by decide) rfl ?_
  intro p e s m args below meth c s₁ B hml hv
  obtain ⟨rfl, rfl, hP, hB, hD, hE⟩ := hv
  have hr := B.returns
  have hlocks := B.notSynchronized
  have hts := atoms_spec (ws := Cond.code yX13_enter cX13_enter 3 (some .int) :: wM) B.pre
  have hC : mX p c cX13_enter 3 s m _ G Z Q := ⟨B.exec, B.bytes, hml, findClass_of_methodNamed B.named, fun w h => hts w (List.mem_cons_of_mem _ h), hB, hE⟩
  have hx := hC.1
  have hb := hC.2.1
  have hH : mH G Q u s s.heap [] := ⟨hP, hD, va_S.rf⟩
  have hl := lv_entry ([.ref (Q 72), .int a0, .int a1]) (n := 3) (Nat.le_of_ble_eq_true rfl)
  rw [lg_entry_eq]
  generalize (lg_sl ([.ref (Q 72), .int a0, .int a1]) ++ List.replicate (3 - (lg_sl ([.ref (Q 72), .int a0, .int a1])).length) Slot.unset).toArray = ls at hl ⊢
  have hl : lv_has ls 3 [(0, .ref (Q 72)), (1, .int a0), (2, .int a1)] := hl
  unfold f_enter at hF
  refine lv_iload_n hx hb dX13_enter_0 rfl (lv_at hl 1 rfl) ?_
  refine lv_i2l (v := a0.toInt64) hx hb dX13_enter_1 rfl ?_
  refine lv_lconst (v := 0) hx hb dX13_enter_2 (by decide) ?_
  refine lv_ldc2 (v := 15) hx hb hC.2.2.2.1 (hC.2.2.2.2.1 _ wma143) dX13_enter_3 ?_
  obtain ⟨r_1, u_2, h_3, hF⟩ := ob_some hF
  refine mcS_i (As := [.long a0.toInt64, .long 0, .long 15]) (rest := []) hC hH (m_in l G Z Q u u_2 r_1 a0.toInt64 0 15 _ h_3) kwX13_in kVX13_in ⟨Nat.le_of_ble_eq_true rfl, Nat.le_of_ble_eq_true rfl⟩ rfl hl.1 rfl (Nat.le_of_ble_eq_true rfl) dX13_enter_6 (fun H locs hH => ?_)
  refine lv_if_eq (tgt := 19) hx hb dX13_enter_9 (by decide) (fun c_4 => ?_) (fun c_4 => ?_)
  · rw [if_pos c_4] at hF
    refine lv_bipush (v := (-2)) hx hb dX13_enter_19 (by decide) ?_
    exact mr_i hC hH hr hF dX13_enter_21 hlocks
  · rw [if_neg c_4] at hF
    refine lv_iload_n hx hb dX13_enter_12 rfl (lv_at hl 2 rfl) ?_
    obtain ⟨r_5, u_6, h_7, hF⟩ := ob_some hF
    refine mcS_i (As := [.int a1]) (rest := []) hC hH (m_isClass l G Z Q u_2 u_6 r_5 a1 _ h_7) kwX13_isClass kVX13_isClass ⟨Nat.le_of_ble_eq_true rfl, Nat.le_of_ble_eq_true rfl⟩ rfl hl.1 rfl (Nat.le_of_ble_eq_true rfl) dX13_enter_13 (fun H locs hH => ?_)
    refine lv_if_ne (tgt := 22) hx hb dX13_enter_16 (by decide) (fun c_8 => ?_) (fun c_8 => ?_)
    · rw [if_neg c_8] at hF
      refine lv_aload_n hx hb dX13_enter_22 rfl (lv_at hl 0 rfl) ?_
      refine mg_12 hC hH dX13_enter_23 ?_
      refine lv_iload_n hx hb dX13_enter_26 rfl (lv_at hl 2 rfl) ?_
      obtain ⟨g_9, hF⟩ := og_some hF
      refine ml_12 hC hH g_9 dX13_enter_27 ?_
      refine lv_if_eq (tgt := 36) hx hb dX13_enter_28 (by decide) (fun c_10 => ?_) (fun c_10 => ?_)
      · rw [if_pos c_10] at hF
        refine lv_aload_n hx hb dX13_enter_36 rfl (lv_at hl 0 rfl) ?_
        refine mg_2 hC hH dX13_enter_37 ?_
        refine lv_bipush (v := 96) hx hb dX13_enter_40 (by decide) ?_
        refine lv_icmp_ne (tgt := 50) hx hb dX13_enter_42 (by decide) (fun c_11 => ?_) (fun c_11 => ?_)
        · rw [if_neg c_11] at hF
          refine lv_aload_n hx hb dX13_enter_50 rfl (lv_at hl 0 rfl) ?_
          refine lv_iconst (v := 2) hx hb dX13_enter_51 (by decide) ?_
          refine lv_iload_n hx hb dX13_enter_52 rfl (lv_at hl 1 rfl) ?_
          refine lv_iload_n hx hb dX13_enter_53 rfl (lv_at hl 2 rfl) ?_
          refine lv_iconst (v := 0) hx hb dX13_enter_54 (by decide) ?_
          obtain ⟨r_12, u_13, h_14, hF⟩ := ob_some hF
          refine mcV_i (As := [.int 2, .int a0, .int a1, .int 0]) (rest := []) hC hH (m_act l G Z Q u_6 u_13 r_12 2 a0 a1 0 _ h_14) kwX13_act kVX13_act ⟨Nat.le_of_ble_eq_true rfl, Nat.le_of_ble_eq_true rfl⟩ rfl hl.1 rfl (Nat.le_of_ble_eq_true rfl) dX13_enter_55 (fun H locs hH => ?_)
          exact mr_i hC hH hr hF dX13_enter_58 hlocks
        · rw [if_pos c_11] at hF
          refine lv_bipush (v := (-4)) hx hb dX13_enter_45 (by decide) ?_
          refine lv_goto (tgt := 58) hx hb dX13_enter_47 (by decide) ?_
          exact mr_i hC hH hr hF dX13_enter_58 hlocks
      · rw [if_neg c_10] at hF
        refine lv_bipush (v := (-3)) hx hb dX13_enter_31 (by decide) ?_
        refine lv_goto (tgt := 58) hx hb dX13_enter_33 (by decide) ?_
        exact mr_i hC hH hr hF dX13_enter_58 hlocks
    · rw [if_pos c_8] at hF
      refine lv_bipush (v := (-2)) hx hb dX13_enter_19 (by decide) ?_
      exact mr_i hC hH hr hF dX13_enter_21 hlocks
def f_weigh (a0 : Int32) (a1 : Int32) (u : MS) : Option (Int32 × MS) := ob (f_isFighter a0 u) (fun r_1 u_2 => (if r_1 = 0 then some (-2, u_2) else ob (f_in a1.toInt64 0 200000 u_2) (fun r_5 u_6 => (if r_5 = 0 then some (-2, u_6) else og (gi a0 96) (og (gi (ra u_6 5 a0) 4) ((if (ra u_6 12 (ra u_6 5 a0)) = 0 then ob (f_act 3 a0 a1 0 u_6) (fun r_12 u_13 => some (r_12, u_13)) else some (-3, u_6))))))))
set_option maxHeartbeats 4000000 in
set_option maxRecDepth 100000 in
theorem m_weigh (l : Launch) (G : gG) (Z : gM) (Q : Nat → Nat) (u u1 : MS) (r : Int32) (a0 : Int32) (a1 : Int32) (sz : Nat) (hF : f_weigh a0 a1 u = some (r, u1)) : Met l yX13_weigh (Cond.code yX13_weigh cX13_weigh 3 (some .int) :: wM) { frames := 409, cells := 0, slots := 0, locals := 4996 } (va_Pc [.ref (Q 72), .int a0, .int a1] (mPM G Z Q u sz)) (mQi G Q u1 r sz) 0 0 (mA Q sz) := by
  refine Met.ofW (cc := cX13_weigh) (maxL := 3) (ret := (some .int)) (by decide) rfl ?_
  intro p e s m args below meth c s₁ B hml hv
  obtain ⟨rfl, rfl, hP, hB, hD, hE⟩ := hv
  have hr := B.returns
  have hlocks := B.notSynchronized
  have hts := atoms_spec (ws := Cond.code yX13_weigh cX13_weigh 3 (some .int) :: wM) B.pre
  have hC : mX p c cX13_weigh 3 s m _ G Z Q := ⟨B.exec, B.bytes, hml, findClass_of_methodNamed B.named, fun w h => hts w (List.mem_cons_of_mem _ h), hB, hE⟩
  have hx := hC.1
  have hb := hC.2.1
  have hH : mH G Q u s s.heap [] := ⟨hP, hD, va_S.rf⟩
  have hl := lv_entry ([.ref (Q 72), .int a0, .int a1]) (n := 3) (Nat.le_of_ble_eq_true rfl)
  rw [lg_entry_eq]
  generalize (lg_sl ([.ref (Q 72), .int a0, .int a1]) ++ List.replicate (3 - (lg_sl ([.ref (Q 72), .int a0, .int a1])).length) Slot.unset).toArray = ls at hl ⊢
  have hl : lv_has ls 3 [(0, .ref (Q 72)), (1, .int a0), (2, .int a1)] := hl
  unfold f_weigh at hF
  refine lv_aload_n hx hb dX13_weigh_0 rfl (lv_at hl 0 rfl) ?_
  refine lv_iload_n hx hb dX13_weigh_1 rfl (lv_at hl 1 rfl) ?_
  obtain ⟨r_1, u_2, h_3, hF⟩ := ob_some hF
  refine mcV_i (As := [.int a0]) (rest := []) hC hH (m_isFighter l G Z Q u u_2 r_1 a0 _ h_3) kwX13_isFighter kVX13_isFighter ⟨Nat.le_of_ble_eq_true rfl, Nat.le_of_ble_eq_true rfl⟩ rfl hl.1 rfl (Nat.le_of_ble_eq_true rfl) dX13_weigh_2 (fun H locs hH => ?_)
  refine lv_if_eq (tgt := 20) hx hb dX13_weigh_5 (by decide) (fun c_4 => ?_) (fun c_4 => ?_)
  · rw [if_pos c_4] at hF
    refine lv_bipush (v := (-2)) hx hb dX13_weigh_20 (by decide) ?_
    refine lv_goto (tgt := 52) hx hb dX13_weigh_22 (by decide) ?_
    exact mr_i hC hH hr hF dX13_weigh_52 hlocks
  · rw [if_neg c_4] at hF
    refine lv_iload_n hx hb dX13_weigh_8 rfl (lv_at hl 2 rfl) ?_
    refine lv_i2l (v := a1.toInt64) hx hb dX13_weigh_9 rfl ?_
    refine lv_lconst (v := 0) hx hb dX13_weigh_10 (by decide) ?_
    refine lv_ldc2 (v := 200000) hx hb hC.2.2.2.1 (hC.2.2.2.2.1 _ wma142) dX13_weigh_11 ?_
    obtain ⟨r_5, u_6, h_7, hF⟩ := ob_some hF
    refine mcS_i (As := [.long a1.toInt64, .long 0, .long 200000]) (rest := []) hC hH (m_in l G Z Q u_2 u_6 r_5 a1.toInt64 0 200000 _ h_7) kwX13_in kVX13_in ⟨Nat.le_of_ble_eq_true rfl, Nat.le_of_ble_eq_true rfl⟩ rfl hl.1 rfl (Nat.le_of_ble_eq_true rfl) dX13_weigh_14 (fun H locs hH => ?_)
    refine lv_if_ne (tgt := 25) hx hb dX13_weigh_17 (by decide) (fun c_8 => ?_) (fun c_8 => ?_)
    · rw [if_neg c_8] at hF
      refine lv_aload_n hx hb dX13_weigh_25 rfl (lv_at hl 0 rfl) ?_
      refine mg_12 hC hH dX13_weigh_26 ?_
      refine lv_aload_n hx hb dX13_weigh_29 rfl (lv_at hl 0 rfl) ?_
      refine mg_5 hC hH dX13_weigh_30 ?_
      refine lv_iload_n hx hb dX13_weigh_33 rfl (lv_at hl 1 rfl) ?_
      obtain ⟨g_9, hF⟩ := og_some hF
      refine ml_5 hC hH g_9 dX13_weigh_34 ?_
      obtain ⟨g_10, hF⟩ := og_some hF
      refine ml_12 hC hH g_10 dX13_weigh_35 ?_
      refine lv_if_eq (tgt := 44) hx hb dX13_weigh_36 (by decide) (fun c_11 => ?_) (fun c_11 => ?_)
      · rw [if_pos c_11] at hF
        refine lv_aload_n hx hb dX13_weigh_44 rfl (lv_at hl 0 rfl) ?_
        refine lv_iconst (v := 3) hx hb dX13_weigh_45 (by decide) ?_
        refine lv_iload_n hx hb dX13_weigh_46 rfl (lv_at hl 1 rfl) ?_
        refine lv_iload_n hx hb dX13_weigh_47 rfl (lv_at hl 2 rfl) ?_
        refine lv_iconst (v := 0) hx hb dX13_weigh_48 (by decide) ?_
        obtain ⟨r_12, u_13, h_14, hF⟩ := ob_some hF
        refine mcV_i (As := [.int 3, .int a0, .int a1, .int 0]) (rest := []) hC hH (m_act l G Z Q u_6 u_13 r_12 3 a0 a1 0 _ h_14) kwX13_act kVX13_act ⟨Nat.le_of_ble_eq_true rfl, Nat.le_of_ble_eq_true rfl⟩ rfl hl.1 rfl (Nat.le_of_ble_eq_true rfl) dX13_weigh_49 (fun H locs hH => ?_)
        exact mr_i hC hH hr hF dX13_weigh_52 hlocks
      · rw [if_neg c_11] at hF
        refine lv_bipush (v := (-3)) hx hb dX13_weigh_39 (by decide) ?_
        refine lv_goto (tgt := 52) hx hb dX13_weigh_41 (by decide) ?_
        exact mr_i hC hH hr hF dX13_weigh_52 hlocks
    · rw [if_pos c_8] at hF
      refine lv_bipush (v := (-2)) hx hb dX13_weigh_20 (by decide) ?_
      refine lv_goto (tgt := 52) hx hb dX13_weigh_22 (by decide) ?_
      exact mr_i hC hH hr hF dX13_weigh_52 hlocks
def lp_seed_46 : Nat → Int32 → Int32 → Int32 → Int32 → MS → (Int32 → Int32 → Int32 → Int32 → MS → Option (Int32 × MS)) → Option (Int32 × MS)
  | 0, _, _, _, _, _, _ => none
  | n46 + 1, v1, v2, v3, v4, u, K46_108 => (if (u.1 2) ≤ v4 then K46_108 v1 v2 v3 v4 u else (if v2 ≤ 0 then K46_108 v1 v2 v3 v4 u else (if v3 = 0 then (if v4 = v1 then li (v4 + 1) (fun x_18 => lp_seed_46 n46 v1 v2 0 x_18 u K46_108) else og (gi v4 96) (og (gi v1 96) ((if (ra u 5 v4) = (ra u 5 v1) then og (gi v4 96) ((if (ra u 9 v4) = v2 then li (v4 + 1) (fun x_29 => lp_seed_46 n46 v1 v2 1 x_29 u K46_108) else li (v4 + 1) (fun x_27 => lp_seed_46 n46 v1 v2 0 x_27 u K46_108))) else li (v4 + 1) (fun x_23 => lp_seed_46 n46 v1 v2 0 x_23 u K46_108))))) else li (v4 + 1) (fun x_15 => lp_seed_46 n46 v1 v2 1 x_15 u K46_108))))
def f_seed (a0 : Int32) (a1 : Int32) (u : MS) : Option (Int32 × MS) := ob (f_isFighter a0 u) (fun r_1 u_2 => (if r_1 = 0 then some (-2, u_2) else ob (f_in a1.toInt64 0 8 u_2) (fun r_5 u_6 => (if r_5 = 0 then some (-2, u_6) else og (gi a0 96) (og (gi (ra u_6 5 a0) 4) ((if (ra u_6 12 (ra u_6 5 a0)) = 0 then lp_seed_46 fuel a0 a1 0 0 u_6 (fun v1 v2 v3 v4 u => (if v3 = 0 then ob (f_act 4 v1 v2 0 u) (fun r_32 u_33 => some (r_32, u_33)) else some (-3, u))) else lp_seed_46 fuel a0 a1 1 0 u_6 (fun v1 v2 v3 v4 u => (if v3 = 0 then ob (f_act 4 v1 v2 0 u) (fun r_55 u_56 => some (r_55, u_56)) else some (-3, u))))))))))
set_option maxHeartbeats 4000000 in
set_option maxRecDepth 100000 in
theorem m_seed (l : Launch) (G : gG) (Z : gM) (Q : Nat → Nat) (u u1 : MS) (r : Int32) (a0 : Int32) (a1 : Int32) (sz : Nat) (hF : f_seed a0 a1 u = some (r, u1)) : Met l yX13_seed (Cond.code yX13_seed cX13_seed 5 (some .int) :: wM) { frames := 409, cells := 0, slots := 0, locals := 4996 } (va_Pc [.ref (Q 72), .int a0, .int a1] (mPM G Z Q u sz)) (mQi G Q u1 r sz) 0 0 (mA Q sz) := by
  refine Met.ofW (cc := cX13_seed) (maxL := 5) (ret := (some .int)) (by decide) rfl ?_
  intro p e s m args below meth c s₁ B hml hv
  obtain ⟨rfl, rfl, hP, hB, hD, hE⟩ := hv
  have hr := B.returns
  have hlocks := B.notSynchronized
  have hts := atoms_spec (ws := Cond.code yX13_seed cX13_seed 5 (some .int) :: wM) B.pre
  have hC : mX p c cX13_seed 5 s m _ G Z Q := ⟨B.exec, B.bytes, hml, findClass_of_methodNamed B.named, fun w h => hts w (List.mem_cons_of_mem _ h), hB, hE⟩
  have hx := hC.1
  have hb := hC.2.1
  have hH : mH G Q u s s.heap [] := ⟨hP, hD, va_S.rf⟩
  have hl := lv_entry ([.ref (Q 72), .int a0, .int a1]) (n := 5) (Nat.le_of_ble_eq_true rfl)
  rw [lg_entry_eq]
  generalize (lg_sl ([.ref (Q 72), .int a0, .int a1]) ++ List.replicate (5 - (lg_sl ([.ref (Q 72), .int a0, .int a1])).length) Slot.unset).toArray = ls at hl ⊢
  have hl : lv_has ls 5 [(0, .ref (Q 72)), (1, .int a0), (2, .int a1)] := hl
  unfold f_seed at hF
  refine lv_aload_n hx hb dX13_seed_0 rfl (lv_at hl 0 rfl) ?_
  refine lv_iload_n hx hb dX13_seed_1 rfl (lv_at hl 1 rfl) ?_
  obtain ⟨r_1, u_2, h_3, hF⟩ := ob_some hF
  refine mcV_i (As := [.int a0]) (rest := []) hC hH (m_isFighter l G Z Q u u_2 r_1 a0 _ h_3) kwX13_isFighter kVX13_isFighter ⟨Nat.le_of_ble_eq_true rfl, Nat.le_of_ble_eq_true rfl⟩ rfl hl.1 rfl (Nat.le_of_ble_eq_true rfl) dX13_seed_2 (fun H locs hH => ?_)
  refine lv_if_eq (tgt := 20) hx hb dX13_seed_5 (by decide) (fun c_4 => ?_) (fun c_4 => ?_)
  · rw [if_pos c_4] at hF
    refine lv_bipush (v := (-2)) hx hb dX13_seed_20 (by decide) ?_
    exact mr_i hC hH hr hF dX13_seed_22 hlocks
  · rw [if_neg c_4] at hF
    refine lv_iload_n hx hb dX13_seed_8 rfl (lv_at hl 2 rfl) ?_
    refine lv_i2l (v := a1.toInt64) hx hb dX13_seed_9 rfl ?_
    refine lv_lconst (v := 0) hx hb dX13_seed_10 (by decide) ?_
    refine lv_ldc2 (v := 8) hx hb hC.2.2.2.1 (hC.2.2.2.2.1 _ wma145) dX13_seed_11 ?_
    obtain ⟨r_5, u_6, h_7, hF⟩ := ob_some hF
    refine mcS_i (As := [.long a1.toInt64, .long 0, .long 8]) (rest := []) hC hH (m_in l G Z Q u_2 u_6 r_5 a1.toInt64 0 8 _ h_7) kwX13_in kVX13_in ⟨Nat.le_of_ble_eq_true rfl, Nat.le_of_ble_eq_true rfl⟩ rfl hl.1 rfl (Nat.le_of_ble_eq_true rfl) dX13_seed_14 (fun H locs hH => ?_)
    refine lv_if_ne (tgt := 23) hx hb dX13_seed_17 (by decide) (fun c_8 => ?_) (fun c_8 => ?_)
    · rw [if_neg c_8] at hF
      refine lv_aload_n hx hb dX13_seed_23 rfl (lv_at hl 0 rfl) ?_
      refine mg_12 hC hH dX13_seed_24 ?_
      refine lv_aload_n hx hb dX13_seed_27 rfl (lv_at hl 0 rfl) ?_
      refine mg_5 hC hH dX13_seed_28 ?_
      refine lv_iload_n hx hb dX13_seed_31 rfl (lv_at hl 1 rfl) ?_
      obtain ⟨g_9, hF⟩ := og_some hF
      refine ml_5 hC hH g_9 dX13_seed_32 ?_
      obtain ⟨g_10, hF⟩ := og_some hF
      refine ml_12 hC hH g_10 dX13_seed_33 ?_
      refine lv_if_eq (tgt := 41) hx hb dX13_seed_34 (by decide) (fun c_11 => ?_) (fun c_11 => ?_)
      · rw [if_pos c_11] at hF
        refine lv_iconst (v := 0) hx hb dX13_seed_41 (by decide) ?_
        refine lv_istore_n (lv' := [(3, .int 0), (0, .ref (Q 72)), (1, .int a0), (2, .int a1)]) hx hb dX13_seed_42 rfl hl (by decide) rfl (fun ls hl => ?_)
        refine lv_iconst (v := 0) hx hb dX13_seed_43 (by decide) ?_
        refine lv_istore (lv' := [(4, .int 0), (3, .int 0), (0, .ref (Q 72)), (1, .int a0), (2, .int a1)]) hx hb dX13_seed_44 hl (by decide) rfl (fun ls hl => ?_)
        have hL46 : ∀ (K46_108 : Int32 → Int32 → Int32 → Int32 → MS → Option (Int32 × MS)), (∀ (v1 v2 v3 v4 : Int32) (u : MS) (H : Heap) (locs : List Loc) (ls : Array Slot), lv_has ls 5 [(0, .ref (Q 72)), (1, .int v1), (2, .int v2), (3, .int v3), (4, .int v4)] → mH G Q u s H locs → K46_108 v1 v2 v3 v4 u = some ((r, u1)) → W p l e (headSpec (Cond.code yX13_seed cX13_seed 5 (some .int) :: wM) { frames := 409, cells := 0, slots := 0, locals := 4996 }).room s m [.ref (Q 72), .int a0, .int a1].toArray below meth c H locs 0 0 (MQ below (mQi G Q u1 r s.heap.size) [.ref (Q 72), .int a0, .int a1].toArray s 0 0 (mA Q s.heap.size)) (F0 m 108 ls [])) → ∀ (n46 : Nat) (v1 v2 v3 v4 : Int32) (u : MS) (H : Heap) (locs : List Loc) (ls : Array Slot), lv_has ls 5 [(0, .ref (Q 72)), (1, .int v1), (2, .int v2), (3, .int v3), (4, .int v4)] → mH G Q u s H locs → lp_seed_46 n46 v1 v2 v3 v4 u K46_108 = some ((r, u1)) → W p l e (headSpec (Cond.code yX13_seed cX13_seed 5 (some .int) :: wM) { frames := 409, cells := 0, slots := 0, locals := 4996 }).room s m [.ref (Q 72), .int a0, .int a1].toArray below meth c H locs 0 0 (MQ below (mQi G Q u1 r s.heap.size) [.ref (Q 72), .int a0, .int a1].toArray s 0 0 (mA Q s.heap.size)) (F0 m 46 ls []) := by
          intro K46_108 hK46_108 n46
          induction n46 with
          | zero => intro v1 v2 v3 v4 u H locs ls hl hH hF; cases hF
          | succ n46 ih46 =>
            intro v1 v2 v3 v4 u H locs ls hl hH hF
            unfold lp_seed_46 at hF
            refine lv_iload hx hb dX13_seed_46 (lv_at hl 4 rfl) ?_
            refine lv_aload_n hx hb dX13_seed_48 rfl (lv_at hl 0 rfl) ?_
            refine mg_2 hC hH dX13_seed_49 ?_
            refine lv_icmp_ge (tgt := 108) hx hb dX13_seed_52 (by decide) (fun c_12 => ?_) (fun c_12 => ?_)
            · rw [if_pos c_12] at hF
              exact hK46_108 v1 v2 v3 v4 u _ _ _ (lv_sub hl [0, 1, 2, 3, 4] rfl) hH hF
            · rw [if_neg c_12] at hF
              refine lv_iload_n hx hb dX13_seed_55 rfl (lv_at hl 2 rfl) ?_
              refine lv_if_le (tgt := 108) hx hb dX13_seed_56 (by decide) (fun c_13 => ?_) (fun c_13 => ?_)
              · rw [if_pos c_13] at hF
                exact hK46_108 v1 v2 v3 v4 u _ _ _ (lv_sub hl [0, 1, 2, 3, 4] rfl) hH hF
              · rw [if_neg c_13] at hF
                refine lv_iload_n hx hb dX13_seed_59 rfl (lv_at hl 3 rfl) ?_
                refine lv_if_ne (tgt := 96) hx hb dX13_seed_60 (by decide) (fun c_14 => ?_) (fun c_14 => ?_)
                · rw [if_neg c_14] at hF
                  refine lv_iconst (v := 1) hx hb dX13_seed_96 (by decide) ?_
                  refine lv_goto (tgt := 101) hx hb dX13_seed_97 (by decide) ?_
                  refine lv_istore_n (lv' := [(3, .int 1), (0, .ref (Q 72)), (1, .int v1), (2, .int v2), (4, .int v4)]) hx hb dX13_seed_101 rfl hl (by decide) rfl (fun ls hl => ?_)
                  obtain ⟨x_15, e_16, hF⟩ := li_some hF
                  refine lv_iinc (v := x_15) (lv' := [(4, .int x_15), (3, .int 1), (0, .ref (Q 72)), (1, .int v1), (2, .int v2)]) hx hb dX13_seed_102 hl (k := 4) rfl e_16 (by decide) rfl (fun ls hl => ?_)
                  refine lv_goto (tgt := 46) hx hb dX13_seed_105 (by decide) ?_
                  exact ih46 v1 v2 1 x_15 u _ _ _ (lv_sub hl [2, 3, 4, 1, 0] rfl) hH hF
                · rw [if_pos c_14] at hF
                  refine lv_iload hx hb dX13_seed_63 (lv_at hl 4 rfl) ?_
                  refine lv_iload_n hx hb dX13_seed_65 rfl (lv_at hl 1 rfl) ?_
                  refine lv_icmp_eq (tgt := 100) hx hb dX13_seed_66 (by decide) (fun c_17 => ?_) (fun c_17 => ?_)
                  · rw [if_pos c_17] at hF
                    refine lv_iconst (v := 0) hx hb dX13_seed_100 (by decide) ?_
                    refine lv_istore_n (lv' := [(3, .int 0), (0, .ref (Q 72)), (1, .int v1), (2, .int v2), (4, .int v4)]) hx hb dX13_seed_101 rfl hl (by decide) rfl (fun ls hl => ?_)
                    obtain ⟨x_18, e_19, hF⟩ := li_some hF
                    refine lv_iinc (v := x_18) (lv' := [(4, .int x_18), (3, .int 0), (0, .ref (Q 72)), (1, .int v1), (2, .int v2)]) hx hb dX13_seed_102 hl (k := 4) rfl e_19 (by decide) rfl (fun ls hl => ?_)
                    refine lv_goto (tgt := 46) hx hb dX13_seed_105 (by decide) ?_
                    exact ih46 v1 v2 0 x_18 u _ _ _ (lv_sub hl [2, 3, 4, 1, 0] rfl) hH hF
                  · rw [if_neg c_17] at hF
                    refine lv_aload_n hx hb dX13_seed_69 rfl (lv_at hl 0 rfl) ?_
                    refine mg_5 hC hH dX13_seed_70 ?_
                    refine lv_iload hx hb dX13_seed_73 (lv_at hl 4 rfl) ?_
                    obtain ⟨g_20, hF⟩ := og_some hF
                    refine ml_5 hC hH g_20 dX13_seed_75 ?_
                    refine lv_aload_n hx hb dX13_seed_76 rfl (lv_at hl 0 rfl) ?_
                    refine mg_5 hC hH dX13_seed_77 ?_
                    refine lv_iload_n hx hb dX13_seed_80 rfl (lv_at hl 1 rfl) ?_
                    obtain ⟨g_21, hF⟩ := og_some hF
                    refine ml_5 hC hH g_21 dX13_seed_81 ?_
                    refine lv_icmp_ne (tgt := 100) hx hb dX13_seed_82 (by decide) (fun c_22 => ?_) (fun c_22 => ?_)
                    · rw [if_neg c_22] at hF
                      refine lv_iconst (v := 0) hx hb dX13_seed_100 (by decide) ?_
                      refine lv_istore_n (lv' := [(3, .int 0), (0, .ref (Q 72)), (1, .int v1), (2, .int v2), (4, .int v4)]) hx hb dX13_seed_101 rfl hl (by decide) rfl (fun ls hl => ?_)
                      obtain ⟨x_23, e_24, hF⟩ := li_some hF
                      refine lv_iinc (v := x_23) (lv' := [(4, .int x_23), (3, .int 0), (0, .ref (Q 72)), (1, .int v1), (2, .int v2)]) hx hb dX13_seed_102 hl (k := 4) rfl e_24 (by decide) rfl (fun ls hl => ?_)
                      refine lv_goto (tgt := 46) hx hb dX13_seed_105 (by decide) ?_
                      exact ih46 v1 v2 0 x_23 u _ _ _ (lv_sub hl [2, 3, 4, 1, 0] rfl) hH hF
                    · rw [if_pos c_22] at hF
                      refine lv_aload_n hx hb dX13_seed_85 rfl (lv_at hl 0 rfl) ?_
                      refine mg_9 hC hH dX13_seed_86 ?_
                      refine lv_iload hx hb dX13_seed_89 (lv_at hl 4 rfl) ?_
                      obtain ⟨g_25, hF⟩ := og_some hF
                      refine ml_9 hC hH g_25 dX13_seed_91 ?_
                      refine lv_iload_n hx hb dX13_seed_92 rfl (lv_at hl 2 rfl) ?_
                      refine lv_icmp_ne (tgt := 100) hx hb dX13_seed_93 (by decide) (fun c_26 => ?_) (fun c_26 => ?_)
                      · rw [if_neg c_26] at hF
                        refine lv_iconst (v := 0) hx hb dX13_seed_100 (by decide) ?_
                        refine lv_istore_n (lv' := [(3, .int 0), (0, .ref (Q 72)), (1, .int v1), (2, .int v2), (4, .int v4)]) hx hb dX13_seed_101 rfl hl (by decide) rfl (fun ls hl => ?_)
                        obtain ⟨x_27, e_28, hF⟩ := li_some hF
                        refine lv_iinc (v := x_27) (lv' := [(4, .int x_27), (3, .int 0), (0, .ref (Q 72)), (1, .int v1), (2, .int v2)]) hx hb dX13_seed_102 hl (k := 4) rfl e_28 (by decide) rfl (fun ls hl => ?_)
                        refine lv_goto (tgt := 46) hx hb dX13_seed_105 (by decide) ?_
                        exact ih46 v1 v2 0 x_27 u _ _ _ (lv_sub hl [2, 3, 4, 1, 0] rfl) hH hF
                      · rw [if_pos c_26] at hF
                        refine lv_iconst (v := 1) hx hb dX13_seed_96 (by decide) ?_
                        refine lv_goto (tgt := 101) hx hb dX13_seed_97 (by decide) ?_
                        refine lv_istore_n (lv' := [(3, .int 1), (0, .ref (Q 72)), (1, .int v1), (2, .int v2), (4, .int v4)]) hx hb dX13_seed_101 rfl hl (by decide) rfl (fun ls hl => ?_)
                        obtain ⟨x_29, e_30, hF⟩ := li_some hF
                        refine lv_iinc (v := x_29) (lv' := [(4, .int x_29), (3, .int 1), (0, .ref (Q 72)), (1, .int v1), (2, .int v2)]) hx hb dX13_seed_102 hl (k := 4) rfl e_30 (by decide) rfl (fun ls hl => ?_)
                        refine lv_goto (tgt := 46) hx hb dX13_seed_105 (by decide) ?_
                        exact ih46 v1 v2 1 x_29 u _ _ _ (lv_sub hl [2, 3, 4, 1, 0] rfl) hH hF
        refine hL46 _ (fun v1 v2 v3 v4 u H locs ls hl hH hF => ?_) fuel a0 a1 0 0 u_6 _ _ _ (lv_sub hl [2, 3, 4, 1, 0] rfl) hH hF
        refine lv_iload_n hx hb dX13_seed_108 rfl (lv_at hl 3 rfl) ?_
        refine lv_if_eq (tgt := 117) hx hb dX13_seed_109 (by decide) (fun c_31 => ?_) (fun c_31 => ?_)
        · rw [if_pos c_31] at hF
          refine lv_aload_n hx hb dX13_seed_117 rfl (lv_at hl 0 rfl) ?_
          refine lv_iconst (v := 4) hx hb dX13_seed_118 (by decide) ?_
          refine lv_iload_n hx hb dX13_seed_119 rfl (lv_at hl 1 rfl) ?_
          refine lv_iload_n hx hb dX13_seed_120 rfl (lv_at hl 2 rfl) ?_
          refine lv_iconst (v := 0) hx hb dX13_seed_121 (by decide) ?_
          obtain ⟨r_32, u_33, h_34, hF⟩ := ob_some hF
          refine mcV_i (As := [.int 4, .int v1, .int v2, .int 0]) (rest := []) hC hH (m_act l G Z Q u u_33 r_32 4 v1 v2 0 _ h_34) kwX13_act kVX13_act ⟨Nat.le_of_ble_eq_true rfl, Nat.le_of_ble_eq_true rfl⟩ rfl hl.1 rfl (Nat.le_of_ble_eq_true rfl) dX13_seed_122 (fun H locs hH => ?_)
          exact mr_i hC hH hr hF dX13_seed_125 hlocks
        · rw [if_neg c_31] at hF
          refine lv_bipush (v := (-3)) hx hb dX13_seed_112 (by decide) ?_
          refine lv_goto (tgt := 125) hx hb dX13_seed_114 (by decide) ?_
          exact mr_i hC hH hr hF dX13_seed_125 hlocks
      · rw [if_neg c_11] at hF
        refine lv_iconst (v := 1) hx hb dX13_seed_37 (by decide) ?_
        refine lv_goto (tgt := 42) hx hb dX13_seed_38 (by decide) ?_
        refine lv_istore_n (lv' := [(3, .int 1), (0, .ref (Q 72)), (1, .int a0), (2, .int a1)]) hx hb dX13_seed_42 rfl hl (by decide) rfl (fun ls hl => ?_)
        refine lv_iconst (v := 0) hx hb dX13_seed_43 (by decide) ?_
        refine lv_istore (lv' := [(4, .int 0), (3, .int 1), (0, .ref (Q 72)), (1, .int a0), (2, .int a1)]) hx hb dX13_seed_44 hl (by decide) rfl (fun ls hl => ?_)
        have hL46 : ∀ (K46_108 : Int32 → Int32 → Int32 → Int32 → MS → Option (Int32 × MS)), (∀ (v1 v2 v3 v4 : Int32) (u : MS) (H : Heap) (locs : List Loc) (ls : Array Slot), lv_has ls 5 [(0, .ref (Q 72)), (1, .int v1), (2, .int v2), (3, .int v3), (4, .int v4)] → mH G Q u s H locs → K46_108 v1 v2 v3 v4 u = some ((r, u1)) → W p l e (headSpec (Cond.code yX13_seed cX13_seed 5 (some .int) :: wM) { frames := 409, cells := 0, slots := 0, locals := 4996 }).room s m [.ref (Q 72), .int a0, .int a1].toArray below meth c H locs 0 0 (MQ below (mQi G Q u1 r s.heap.size) [.ref (Q 72), .int a0, .int a1].toArray s 0 0 (mA Q s.heap.size)) (F0 m 108 ls [])) → ∀ (n46 : Nat) (v1 v2 v3 v4 : Int32) (u : MS) (H : Heap) (locs : List Loc) (ls : Array Slot), lv_has ls 5 [(0, .ref (Q 72)), (1, .int v1), (2, .int v2), (3, .int v3), (4, .int v4)] → mH G Q u s H locs → lp_seed_46 n46 v1 v2 v3 v4 u K46_108 = some ((r, u1)) → W p l e (headSpec (Cond.code yX13_seed cX13_seed 5 (some .int) :: wM) { frames := 409, cells := 0, slots := 0, locals := 4996 }).room s m [.ref (Q 72), .int a0, .int a1].toArray below meth c H locs 0 0 (MQ below (mQi G Q u1 r s.heap.size) [.ref (Q 72), .int a0, .int a1].toArray s 0 0 (mA Q s.heap.size)) (F0 m 46 ls []) := by
          intro K46_108 hK46_108 n46
          induction n46 with
          | zero => intro v1 v2 v3 v4 u H locs ls hl hH hF; cases hF
          | succ n46 ih46 =>
            intro v1 v2 v3 v4 u H locs ls hl hH hF
            unfold lp_seed_46 at hF
            refine lv_iload hx hb dX13_seed_46 (lv_at hl 4 rfl) ?_
            refine lv_aload_n hx hb dX13_seed_48 rfl (lv_at hl 0 rfl) ?_
            refine mg_2 hC hH dX13_seed_49 ?_
            refine lv_icmp_ge (tgt := 108) hx hb dX13_seed_52 (by decide) (fun c_35 => ?_) (fun c_35 => ?_)
            · rw [if_pos c_35] at hF
              exact hK46_108 v1 v2 v3 v4 u _ _ _ (lv_sub hl [0, 1, 2, 3, 4] rfl) hH hF
            · rw [if_neg c_35] at hF
              refine lv_iload_n hx hb dX13_seed_55 rfl (lv_at hl 2 rfl) ?_
              refine lv_if_le (tgt := 108) hx hb dX13_seed_56 (by decide) (fun c_36 => ?_) (fun c_36 => ?_)
              · rw [if_pos c_36] at hF
                exact hK46_108 v1 v2 v3 v4 u _ _ _ (lv_sub hl [0, 1, 2, 3, 4] rfl) hH hF
              · rw [if_neg c_36] at hF
                refine lv_iload_n hx hb dX13_seed_59 rfl (lv_at hl 3 rfl) ?_
                refine lv_if_ne (tgt := 96) hx hb dX13_seed_60 (by decide) (fun c_37 => ?_) (fun c_37 => ?_)
                · rw [if_neg c_37] at hF
                  refine lv_iconst (v := 1) hx hb dX13_seed_96 (by decide) ?_
                  refine lv_goto (tgt := 101) hx hb dX13_seed_97 (by decide) ?_
                  refine lv_istore_n (lv' := [(3, .int 1), (0, .ref (Q 72)), (1, .int v1), (2, .int v2), (4, .int v4)]) hx hb dX13_seed_101 rfl hl (by decide) rfl (fun ls hl => ?_)
                  obtain ⟨x_38, e_39, hF⟩ := li_some hF
                  refine lv_iinc (v := x_38) (lv' := [(4, .int x_38), (3, .int 1), (0, .ref (Q 72)), (1, .int v1), (2, .int v2)]) hx hb dX13_seed_102 hl (k := 4) rfl e_39 (by decide) rfl (fun ls hl => ?_)
                  refine lv_goto (tgt := 46) hx hb dX13_seed_105 (by decide) ?_
                  exact ih46 v1 v2 1 x_38 u _ _ _ (lv_sub hl [2, 3, 4, 1, 0] rfl) hH hF
                · rw [if_pos c_37] at hF
                  refine lv_iload hx hb dX13_seed_63 (lv_at hl 4 rfl) ?_
                  refine lv_iload_n hx hb dX13_seed_65 rfl (lv_at hl 1 rfl) ?_
                  refine lv_icmp_eq (tgt := 100) hx hb dX13_seed_66 (by decide) (fun c_40 => ?_) (fun c_40 => ?_)
                  · rw [if_pos c_40] at hF
                    refine lv_iconst (v := 0) hx hb dX13_seed_100 (by decide) ?_
                    refine lv_istore_n (lv' := [(3, .int 0), (0, .ref (Q 72)), (1, .int v1), (2, .int v2), (4, .int v4)]) hx hb dX13_seed_101 rfl hl (by decide) rfl (fun ls hl => ?_)
                    obtain ⟨x_41, e_42, hF⟩ := li_some hF
                    refine lv_iinc (v := x_41) (lv' := [(4, .int x_41), (3, .int 0), (0, .ref (Q 72)), (1, .int v1), (2, .int v2)]) hx hb dX13_seed_102 hl (k := 4) rfl e_42 (by decide) rfl (fun ls hl => ?_)
                    refine lv_goto (tgt := 46) hx hb dX13_seed_105 (by decide) ?_
                    exact ih46 v1 v2 0 x_41 u _ _ _ (lv_sub hl [2, 3, 4, 1, 0] rfl) hH hF
                  · rw [if_neg c_40] at hF
                    refine lv_aload_n hx hb dX13_seed_69 rfl (lv_at hl 0 rfl) ?_
                    refine mg_5 hC hH dX13_seed_70 ?_
                    refine lv_iload hx hb dX13_seed_73 (lv_at hl 4 rfl) ?_
                    obtain ⟨g_43, hF⟩ := og_some hF
                    refine ml_5 hC hH g_43 dX13_seed_75 ?_
                    refine lv_aload_n hx hb dX13_seed_76 rfl (lv_at hl 0 rfl) ?_
                    refine mg_5 hC hH dX13_seed_77 ?_
                    refine lv_iload_n hx hb dX13_seed_80 rfl (lv_at hl 1 rfl) ?_
                    obtain ⟨g_44, hF⟩ := og_some hF
                    refine ml_5 hC hH g_44 dX13_seed_81 ?_
                    refine lv_icmp_ne (tgt := 100) hx hb dX13_seed_82 (by decide) (fun c_45 => ?_) (fun c_45 => ?_)
                    · rw [if_neg c_45] at hF
                      refine lv_iconst (v := 0) hx hb dX13_seed_100 (by decide) ?_
                      refine lv_istore_n (lv' := [(3, .int 0), (0, .ref (Q 72)), (1, .int v1), (2, .int v2), (4, .int v4)]) hx hb dX13_seed_101 rfl hl (by decide) rfl (fun ls hl => ?_)
                      obtain ⟨x_46, e_47, hF⟩ := li_some hF
                      refine lv_iinc (v := x_46) (lv' := [(4, .int x_46), (3, .int 0), (0, .ref (Q 72)), (1, .int v1), (2, .int v2)]) hx hb dX13_seed_102 hl (k := 4) rfl e_47 (by decide) rfl (fun ls hl => ?_)
                      refine lv_goto (tgt := 46) hx hb dX13_seed_105 (by decide) ?_
                      exact ih46 v1 v2 0 x_46 u _ _ _ (lv_sub hl [2, 3, 4, 1, 0] rfl) hH hF
                    · rw [if_pos c_45] at hF
                      refine lv_aload_n hx hb dX13_seed_85 rfl (lv_at hl 0 rfl) ?_
                      refine mg_9 hC hH dX13_seed_86 ?_
                      refine lv_iload hx hb dX13_seed_89 (lv_at hl 4 rfl) ?_
                      obtain ⟨g_48, hF⟩ := og_some hF
                      refine ml_9 hC hH g_48 dX13_seed_91 ?_
                      refine lv_iload_n hx hb dX13_seed_92 rfl (lv_at hl 2 rfl) ?_
                      refine lv_icmp_ne (tgt := 100) hx hb dX13_seed_93 (by decide) (fun c_49 => ?_) (fun c_49 => ?_)
                      · rw [if_neg c_49] at hF
                        refine lv_iconst (v := 0) hx hb dX13_seed_100 (by decide) ?_
                        refine lv_istore_n (lv' := [(3, .int 0), (0, .ref (Q 72)), (1, .int v1), (2, .int v2), (4, .int v4)]) hx hb dX13_seed_101 rfl hl (by decide) rfl (fun ls hl => ?_)
                        obtain ⟨x_50, e_51, hF⟩ := li_some hF
                        refine lv_iinc (v := x_50) (lv' := [(4, .int x_50), (3, .int 0), (0, .ref (Q 72)), (1, .int v1), (2, .int v2)]) hx hb dX13_seed_102 hl (k := 4) rfl e_51 (by decide) rfl (fun ls hl => ?_)
                        refine lv_goto (tgt := 46) hx hb dX13_seed_105 (by decide) ?_
                        exact ih46 v1 v2 0 x_50 u _ _ _ (lv_sub hl [2, 3, 4, 1, 0] rfl) hH hF
                      · rw [if_pos c_49] at hF
                        refine lv_iconst (v := 1) hx hb dX13_seed_96 (by decide) ?_
                        refine lv_goto (tgt := 101) hx hb dX13_seed_97 (by decide) ?_
                        refine lv_istore_n (lv' := [(3, .int 1), (0, .ref (Q 72)), (1, .int v1), (2, .int v2), (4, .int v4)]) hx hb dX13_seed_101 rfl hl (by decide) rfl (fun ls hl => ?_)
                        obtain ⟨x_52, e_53, hF⟩ := li_some hF
                        refine lv_iinc (v := x_52) (lv' := [(4, .int x_52), (3, .int 1), (0, .ref (Q 72)), (1, .int v1), (2, .int v2)]) hx hb dX13_seed_102 hl (k := 4) rfl e_53 (by decide) rfl (fun ls hl => ?_)
                        refine lv_goto (tgt := 46) hx hb dX13_seed_105 (by decide) ?_
                        exact ih46 v1 v2 1 x_52 u _ _ _ (lv_sub hl [2, 3, 4, 1, 0] rfl) hH hF
        refine hL46 _ (fun v1 v2 v3 v4 u H locs ls hl hH hF => ?_) fuel a0 a1 1 0 u_6 _ _ _ (lv_sub hl [2, 3, 4, 1, 0] rfl) hH hF
        refine lv_iload_n hx hb dX13_seed_108 rfl (lv_at hl 3 rfl) ?_
        refine lv_if_eq (tgt := 117) hx hb dX13_seed_109 (by decide) (fun c_54 => ?_) (fun c_54 => ?_)
        · rw [if_pos c_54] at hF
          refine lv_aload_n hx hb dX13_seed_117 rfl (lv_at hl 0 rfl) ?_
          refine lv_iconst (v := 4) hx hb dX13_seed_118 (by decide) ?_
          refine lv_iload_n hx hb dX13_seed_119 rfl (lv_at hl 1 rfl) ?_
          refine lv_iload_n hx hb dX13_seed_120 rfl (lv_at hl 2 rfl) ?_
          refine lv_iconst (v := 0) hx hb dX13_seed_121 (by decide) ?_
          obtain ⟨r_55, u_56, h_57, hF⟩ := ob_some hF
          refine mcV_i (As := [.int 4, .int v1, .int v2, .int 0]) (rest := []) hC hH (m_act l G Z Q u u_56 r_55 4 v1 v2 0 _ h_57) kwX13_act kVX13_act ⟨Nat.le_of_ble_eq_true rfl, Nat.le_of_ble_eq_true rfl⟩ rfl hl.1 rfl (Nat.le_of_ble_eq_true rfl) dX13_seed_122 (fun H locs hH => ?_)
          exact mr_i hC hH hr hF dX13_seed_125 hlocks
        · rw [if_neg c_54] at hF
          refine lv_bipush (v := (-3)) hx hb dX13_seed_112 (by decide) ?_
          refine lv_goto (tgt := 125) hx hb dX13_seed_114 (by decide) ?_
          exact mr_i hC hH hr hF dX13_seed_125 hlocks
    · rw [if_pos c_8] at hF
      refine lv_bipush (v := (-2)) hx hb dX13_seed_20 (by decide) ?_
      exact mr_i hC hH hr hF dX13_seed_22 hlocks
def f_draw (a0 : Int32) (u : MS) : Option (Int32 × MS) := ob (f_isClass a0 u) (fun r_1 u_2 => (if r_1 = 0 then some (-2, u_2) else og (gi a0 4) ((if (ra u_2 12 a0) = 0 then ob (f_weighed a0 u_2) (fun r_7 u_8 => ob (f_in r_7.toInt64 2 32 u_8) (fun r_10 u_11 => (if r_10 = 0 then some (-1, u_11) else ob (f_act 5 a0 0 0 u_11) (fun r_14 u_15 => some (r_14, u_15))))) else some (-3, u_2)))))
set_option maxHeartbeats 4000000 in
set_option maxRecDepth 100000 in
theorem m_draw (l : Launch) (G : gG) (Z : gM) (Q : Nat → Nat) (u u1 : MS) (r : Int32) (a0 : Int32) (sz : Nat) (hF : f_draw a0 u = some (r, u1)) : Met l yX13_draw (Cond.code yX13_draw cX13_draw 2 (some .int) :: wM) { frames := 409, cells := 0, slots := 0, locals := 4996 } (va_Pc [.ref (Q 72), .int a0] (mPM G Z Q u sz)) (mQi G Q u1 r sz) 0 0 (mA Q sz) := by
  refine Met.ofW (cc := cX13_draw) (maxL := 2) (ret := (some .int)) (by decide) rfl ?_
  intro p e s m args below meth c s₁ B hml hv
  obtain ⟨rfl, rfl, hP, hB, hD, hE⟩ := hv
  have hr := B.returns
  have hlocks := B.notSynchronized
  have hts := atoms_spec (ws := Cond.code yX13_draw cX13_draw 2 (some .int) :: wM) B.pre
  have hC : mX p c cX13_draw 2 s m _ G Z Q := ⟨B.exec, B.bytes, hml, findClass_of_methodNamed B.named, fun w h => hts w (List.mem_cons_of_mem _ h), hB, hE⟩
  have hx := hC.1
  have hb := hC.2.1
  have hH : mH G Q u s s.heap [] := ⟨hP, hD, va_S.rf⟩
  have hl := lv_entry ([.ref (Q 72), .int a0]) (n := 2) (Nat.le_of_ble_eq_true rfl)
  rw [lg_entry_eq]
  generalize (lg_sl ([.ref (Q 72), .int a0]) ++ List.replicate (2 - (lg_sl ([.ref (Q 72), .int a0])).length) Slot.unset).toArray = ls at hl ⊢
  have hl : lv_has ls 2 [(0, .ref (Q 72)), (1, .int a0)] := hl
  unfold f_draw at hF
  refine lv_iload_n hx hb dX13_draw_0 rfl (lv_at hl 1 rfl) ?_
  obtain ⟨r_1, u_2, h_3, hF⟩ := ob_some hF
  refine mcS_i (As := [.int a0]) (rest := []) hC hH (m_isClass l G Z Q u u_2 r_1 a0 _ h_3) kwX13_isClass kVX13_isClass ⟨Nat.le_of_ble_eq_true rfl, Nat.le_of_ble_eq_true rfl⟩ rfl hl.1 rfl (Nat.le_of_ble_eq_true rfl) dX13_draw_1 (fun H locs hH => ?_)
  refine lv_if_ne (tgt := 10) hx hb dX13_draw_4 (by decide) (fun c_4 => ?_) (fun c_4 => ?_)
  · rw [if_neg c_4] at hF
    refine lv_aload_n hx hb dX13_draw_10 rfl (lv_at hl 0 rfl) ?_
    refine mg_12 hC hH dX13_draw_11 ?_
    refine lv_iload_n hx hb dX13_draw_14 rfl (lv_at hl 1 rfl) ?_
    obtain ⟨g_5, hF⟩ := og_some hF
    refine ml_12 hC hH g_5 dX13_draw_15 ?_
    refine lv_if_eq (tgt := 24) hx hb dX13_draw_16 (by decide) (fun c_6 => ?_) (fun c_6 => ?_)
    · rw [if_pos c_6] at hF
      refine lv_aload_n hx hb dX13_draw_24 rfl (lv_at hl 0 rfl) ?_
      refine lv_iload_n hx hb dX13_draw_25 rfl (lv_at hl 1 rfl) ?_
      obtain ⟨r_7, u_8, h_9, hF⟩ := ob_some hF
      refine mcV_i (As := [.int a0]) (rest := []) hC hH (m_weighed l G Z Q u_2 u_8 r_7 a0 _ h_9) kwX13_weighed kVX13_weighed ⟨Nat.le_of_ble_eq_true rfl, Nat.le_of_ble_eq_true rfl⟩ rfl hl.1 rfl (Nat.le_of_ble_eq_true rfl) dX13_draw_26 (fun H locs hH => ?_)
      refine lv_i2l (v := r_7.toInt64) hx hb dX13_draw_29 rfl ?_
      refine lv_ldc2 (v := 2) hx hb hC.2.2.2.1 (hC.2.2.2.2.1 _ wma146) dX13_draw_30 ?_
      refine lv_ldc2 (v := 32) hx hb hC.2.2.2.1 (hC.2.2.2.2.1 _ wma147) dX13_draw_33 ?_
      obtain ⟨r_10, u_11, h_12, hF⟩ := ob_some hF
      refine mcS_i (As := [.long r_7.toInt64, .long 2, .long 32]) (rest := []) hC hH (m_in l G Z Q u_8 u_11 r_10 r_7.toInt64 2 32 _ h_12) kwX13_in kVX13_in ⟨Nat.le_of_ble_eq_true rfl, Nat.le_of_ble_eq_true rfl⟩ rfl hl.1 rfl (Nat.le_of_ble_eq_true rfl) dX13_draw_36 (fun H locs hH => ?_)
      refine lv_if_ne (tgt := 46) hx hb dX13_draw_39 (by decide) (fun c_13 => ?_) (fun c_13 => ?_)
      · rw [if_neg c_13] at hF
        refine lv_aload_n hx hb dX13_draw_46 rfl (lv_at hl 0 rfl) ?_
        refine lv_iconst (v := 5) hx hb dX13_draw_47 (by decide) ?_
        refine lv_iload_n hx hb dX13_draw_48 rfl (lv_at hl 1 rfl) ?_
        refine lv_iconst (v := 0) hx hb dX13_draw_49 (by decide) ?_
        refine lv_iconst (v := 0) hx hb dX13_draw_50 (by decide) ?_
        obtain ⟨r_14, u_15, h_16, hF⟩ := ob_some hF
        refine mcV_i (As := [.int 5, .int a0, .int 0, .int 0]) (rest := []) hC hH (m_act l G Z Q u_11 u_15 r_14 5 a0 0 0 _ h_16) kwX13_act kVX13_act ⟨Nat.le_of_ble_eq_true rfl, Nat.le_of_ble_eq_true rfl⟩ rfl hl.1 rfl (Nat.le_of_ble_eq_true rfl) dX13_draw_51 (fun H locs hH => ?_)
        exact mr_i hC hH hr hF dX13_draw_54 hlocks
      · rw [if_pos c_13] at hF
        refine lv_iconst (v := (-1)) hx hb dX13_draw_42 (by decide) ?_
        refine lv_goto (tgt := 54) hx hb dX13_draw_43 (by decide) ?_
        exact mr_i hC hH hr hF dX13_draw_54 hlocks
    · rw [if_neg c_6] at hF
      refine lv_bipush (v := (-3)) hx hb dX13_draw_19 (by decide) ?_
      refine lv_goto (tgt := 54) hx hb dX13_draw_21 (by decide) ?_
      exact mr_i hC hH hr hF dX13_draw_54 hlocks
  · rw [if_pos c_4] at hF
    refine lv_bipush (v := (-2)) hx hb dX13_draw_7 (by decide) ?_
    exact mr_i hC hH hr hF dX13_draw_9 hlocks
def f_now (a0 : Int32) (u : MS) : Option (Int32 × MS) := ob (f_in a0.toInt64 ((u.1 3).toInt64) 1440 u) (fun r_1 u_2 => (if r_1 = 0 then some (-2, u_2) else ob (f_act 6 a0 0 0 u_2) (fun r_5 u_6 => some (r_5, u_6))))
set_option maxHeartbeats 4000000 in
set_option maxRecDepth 100000 in
theorem m_now (l : Launch) (G : gG) (Z : gM) (Q : Nat → Nat) (u u1 : MS) (r : Int32) (a0 : Int32) (sz : Nat) (hF : f_now a0 u = some (r, u1)) : Met l yX13_now (Cond.code yX13_now cX13_now 2 (some .int) :: wM) { frames := 409, cells := 0, slots := 0, locals := 4996 } (va_Pc [.ref (Q 72), .int a0] (mPM G Z Q u sz)) (mQi G Q u1 r sz) 0 0 (mA Q sz) := by
  refine Met.ofW (cc := cX13_now) (maxL := 2) (ret := (some .int)) (by decide) rfl ?_
  intro p e s m args below meth c s₁ B hml hv
  obtain ⟨rfl, rfl, hP, hB, hD, hE⟩ := hv
  have hr := B.returns
  have hlocks := B.notSynchronized
  have hts := atoms_spec (ws := Cond.code yX13_now cX13_now 2 (some .int) :: wM) B.pre
  have hC : mX p c cX13_now 2 s m _ G Z Q := ⟨B.exec, B.bytes, hml, findClass_of_methodNamed B.named, fun w h => hts w (List.mem_cons_of_mem _ h), hB, hE⟩
  have hx := hC.1
  have hb := hC.2.1
  have hH : mH G Q u s s.heap [] := ⟨hP, hD, va_S.rf⟩
  have hl := lv_entry ([.ref (Q 72), .int a0]) (n := 2) (Nat.le_of_ble_eq_true rfl)
  rw [lg_entry_eq]
  generalize (lg_sl ([.ref (Q 72), .int a0]) ++ List.replicate (2 - (lg_sl ([.ref (Q 72), .int a0])).length) Slot.unset).toArray = ls at hl ⊢
  have hl : lv_has ls 2 [(0, .ref (Q 72)), (1, .int a0)] := hl
  unfold f_now at hF
  refine lv_iload_n hx hb dX13_now_0 rfl (lv_at hl 1 rfl) ?_
  refine lv_i2l (v := a0.toInt64) hx hb dX13_now_1 rfl ?_
  refine lv_aload_n hx hb dX13_now_2 rfl (lv_at hl 0 rfl) ?_
  refine mg_3 hC hH dX13_now_3 ?_
  refine lv_i2l (v := (u.1 3).toInt64) hx hb dX13_now_6 rfl ?_
  refine lv_ldc2 (v := 1440) hx hb hC.2.2.2.1 (hC.2.2.2.2.1 _ wma154) dX13_now_7 ?_
  obtain ⟨r_1, u_2, h_3, hF⟩ := ob_some hF
  refine mcS_i (As := [.long a0.toInt64, .long ((u.1 3).toInt64), .long 1440]) (rest := []) hC hH (m_in l G Z Q u u_2 r_1 a0.toInt64 ((u.1 3).toInt64) 1440 _ h_3) kwX13_in kVX13_in ⟨Nat.le_of_ble_eq_true rfl, Nat.le_of_ble_eq_true rfl⟩ rfl hl.1 rfl (Nat.le_of_ble_eq_true rfl) dX13_now_10 (fun H locs hH => ?_)
  refine lv_if_eq (tgt := 28) hx hb dX13_now_13 (by decide) (fun c_4 => ?_) (fun c_4 => ?_)
  · rw [if_pos c_4] at hF
    refine lv_bipush (v := (-2)) hx hb dX13_now_28 (by decide) ?_
    exact mr_i hC hH hr hF dX13_now_30 hlocks
  · rw [if_neg c_4] at hF
    refine lv_aload_n hx hb dX13_now_16 rfl (lv_at hl 0 rfl) ?_
    refine lv_bipush (v := 6) hx hb dX13_now_17 (by decide) ?_
    refine lv_iload_n hx hb dX13_now_19 rfl (lv_at hl 1 rfl) ?_
    refine lv_iconst (v := 0) hx hb dX13_now_20 (by decide) ?_
    refine lv_iconst (v := 0) hx hb dX13_now_21 (by decide) ?_
    obtain ⟨r_5, u_6, h_7, hF⟩ := ob_some hF
    refine mcV_i (As := [.int 6, .int a0, .int 0, .int 0]) (rest := []) hC hH (m_act l G Z Q u_2 u_6 r_5 6 a0 0 0 _ h_7) kwX13_act kVX13_act ⟨Nat.le_of_ble_eq_true rfl, Nat.le_of_ble_eq_true rfl⟩ rfl hl.1 rfl (Nat.le_of_ble_eq_true rfl) dX13_now_22 (fun H locs hH => ?_)
    refine lv_goto (tgt := 30) hx hb dX13_now_25 (by decide) ?_
    exact mr_i hC hH hr hF dX13_now_30 hlocks
def f_rest (a0 : Int32) (u : MS) : Option (Int32 × MS) := ob (f_in a0.toInt64 0 120 u) (fun r_1 u_2 => (if r_1 = 0 then some (-2, u_2) else ob (f_act 7 a0 0 0 u_2) (fun r_5 u_6 => some (r_5, u_6))))
set_option maxHeartbeats 4000000 in
set_option maxRecDepth 100000 in
theorem m_rest (l : Launch) (G : gG) (Z : gM) (Q : Nat → Nat) (u u1 : MS) (r : Int32) (a0 : Int32) (sz : Nat) (hF : f_rest a0 u = some (r, u1)) : Met l yX13_rest (Cond.code yX13_rest cX13_rest 2 (some .int) :: wM) { frames := 409, cells := 0, slots := 0, locals := 4996 } (va_Pc [.ref (Q 72), .int a0] (mPM G Z Q u sz)) (mQi G Q u1 r sz) 0 0 (mA Q sz) := by
  refine Met.ofW (cc := cX13_rest) (maxL := 2) (ret := (some .int)) (by decide) rfl ?_
  intro p e s m args below meth c s₁ B hml hv
  obtain ⟨rfl, rfl, hP, hB, hD, hE⟩ := hv
  have hr := B.returns
  have hlocks := B.notSynchronized
  have hts := atoms_spec (ws := Cond.code yX13_rest cX13_rest 2 (some .int) :: wM) B.pre
  have hC : mX p c cX13_rest 2 s m _ G Z Q := ⟨B.exec, B.bytes, hml, findClass_of_methodNamed B.named, fun w h => hts w (List.mem_cons_of_mem _ h), hB, hE⟩
  have hx := hC.1
  have hb := hC.2.1
  have hH : mH G Q u s s.heap [] := ⟨hP, hD, va_S.rf⟩
  have hl := lv_entry ([.ref (Q 72), .int a0]) (n := 2) (Nat.le_of_ble_eq_true rfl)
  rw [lg_entry_eq]
  generalize (lg_sl ([.ref (Q 72), .int a0]) ++ List.replicate (2 - (lg_sl ([.ref (Q 72), .int a0])).length) Slot.unset).toArray = ls at hl ⊢
  have hl : lv_has ls 2 [(0, .ref (Q 72)), (1, .int a0)] := hl
  unfold f_rest at hF
  refine lv_iload_n hx hb dX13_rest_0 rfl (lv_at hl 1 rfl) ?_
  refine lv_i2l (v := a0.toInt64) hx hb dX13_rest_1 rfl ?_
  refine lv_lconst (v := 0) hx hb dX13_rest_2 (by decide) ?_
  refine lv_ldc2 (v := 120) hx hb hC.2.2.2.1 (hC.2.2.2.2.1 _ wma155) dX13_rest_3 ?_
  obtain ⟨r_1, u_2, h_3, hF⟩ := ob_some hF
  refine mcS_i (As := [.long a0.toInt64, .long 0, .long 120]) (rest := []) hC hH (m_in l G Z Q u u_2 r_1 a0.toInt64 0 120 _ h_3) kwX13_in kVX13_in ⟨Nat.le_of_ble_eq_true rfl, Nat.le_of_ble_eq_true rfl⟩ rfl hl.1 rfl (Nat.le_of_ble_eq_true rfl) dX13_rest_6 (fun H locs hH => ?_)
  refine lv_if_eq (tgt := 24) hx hb dX13_rest_9 (by decide) (fun c_4 => ?_) (fun c_4 => ?_)
  · rw [if_pos c_4] at hF
    refine lv_bipush (v := (-2)) hx hb dX13_rest_24 (by decide) ?_
    exact mr_i hC hH hr hF dX13_rest_26 hlocks
  · rw [if_neg c_4] at hF
    refine lv_aload_n hx hb dX13_rest_12 rfl (lv_at hl 0 rfl) ?_
    refine lv_bipush (v := 7) hx hb dX13_rest_13 (by decide) ?_
    refine lv_iload_n hx hb dX13_rest_15 rfl (lv_at hl 1 rfl) ?_
    refine lv_iconst (v := 0) hx hb dX13_rest_16 (by decide) ?_
    refine lv_iconst (v := 0) hx hb dX13_rest_17 (by decide) ?_
    obtain ⟨r_5, u_6, h_7, hF⟩ := ob_some hF
    refine mcV_i (As := [.int 7, .int a0, .int 0, .int 0]) (rest := []) hC hH (m_act l G Z Q u_2 u_6 r_5 7 a0 0 0 _ h_7) kwX13_act kVX13_act ⟨Nat.le_of_ble_eq_true rfl, Nat.le_of_ble_eq_true rfl⟩ rfl hl.1 rfl (Nat.le_of_ble_eq_true rfl) dX13_rest_18 (fun H locs hH => ?_)
    refine lv_goto (tgt := 26) hx hb dX13_rest_21 (by decide) ?_
    exact mr_i hC hH hr hF dX13_rest_26 hlocks
def f_begin (a0 : Int32) (a1 : Int32) (a2 : Int32) (u : MS) : Option (Int32 × MS) := ob (f_isFight a0 a1 u) (fun r_1 u_2 => (if r_1 = 0 then some (-2, u_2) else ob (f_isMat a2 u_2) (fun r_5 u_6 => (if r_5 = 0 then some (-2, u_6) else (if (u_6.1 30) = 0 then some (-3, u_6) else ob (f_isReady a0 a1 u_6) (fun r_10 u_11 => (if r_10 = 0 then some (-3, u_11) else og (gi a2 4) ((if (ra u_11 22 a2) = (-1) then ob (fS 24 0 a0 a1 0 0 u_11) (fun r_16 u_17 => ob (f_rests r_16 u_17) (fun r_19 u_20 => (if r_19 = 0 then ob (fS 24 0 a0 a1 1 0 u_20) (fun r_23 u_24 => ob (f_rests r_23 u_24) (fun r_26 u_27 => (if r_26 = 0 then ob (f_act 8 a0 a1 a2 u_27) (fun r_30 u_31 => some (r_30, u_31)) else some (-5, u_27)))) else some (-5, u_20)))) else some (-3, u_11))))))))))
set_option maxHeartbeats 4000000 in
set_option maxRecDepth 100000 in
theorem m_begin (l : Launch) (G : gG) (Z : gM) (Q : Nat → Nat) (u u1 : MS) (r : Int32) (a0 : Int32) (a1 : Int32) (a2 : Int32) (sz : Nat) (hF : f_begin a0 a1 a2 u = some (r, u1)) : Met l yX13_begin (Cond.code yX13_begin cX13_begin 4 (some .int) :: wM) { frames := 409, cells := 0, slots := 0, locals := 4996 } (va_Pc [.ref (Q 72), .int a0, .int a1, .int a2] (mPM G Z Q u sz)) (mQi G Q u1 r sz) 0 0 (mA Q sz) := by
  refine Met.ofW (cc := cX13_begin) (maxL := 4) (ret := (some .int)) (by decide) rfl ?_
  intro p e s m args below meth c s₁ B hml hv
  obtain ⟨rfl, rfl, hP, hB, hD, hE⟩ := hv
  have hr := B.returns
  have hlocks := B.notSynchronized
  have hts := atoms_spec (ws := Cond.code yX13_begin cX13_begin 4 (some .int) :: wM) B.pre
  have hC : mX p c cX13_begin 4 s m _ G Z Q := ⟨B.exec, B.bytes, hml, findClass_of_methodNamed B.named, fun w h => hts w (List.mem_cons_of_mem _ h), hB, hE⟩
  have hx := hC.1
  have hb := hC.2.1
  have hH : mH G Q u s s.heap [] := ⟨hP, hD, va_S.rf⟩
  have hl := lv_entry ([.ref (Q 72), .int a0, .int a1, .int a2]) (n := 4) (Nat.le_of_ble_eq_true rfl)
  rw [lg_entry_eq]
  generalize (lg_sl ([.ref (Q 72), .int a0, .int a1, .int a2]) ++ List.replicate (4 - (lg_sl ([.ref (Q 72), .int a0, .int a1, .int a2])).length) Slot.unset).toArray = ls at hl ⊢
  have hl : lv_has ls 4 [(0, .ref (Q 72)), (1, .int a0), (2, .int a1), (3, .int a2)] := hl
  unfold f_begin at hF
  refine lv_aload_n hx hb dX13_begin_0 rfl (lv_at hl 0 rfl) ?_
  refine lv_iload_n hx hb dX13_begin_1 rfl (lv_at hl 1 rfl) ?_
  refine lv_iload_n hx hb dX13_begin_2 rfl (lv_at hl 2 rfl) ?_
  obtain ⟨r_1, u_2, h_3, hF⟩ := ob_some hF
  refine mcV_i (As := [.int a0, .int a1]) (rest := []) hC hH (m_isFight l G Z Q u u_2 r_1 a0 a1 _ h_3) kwX13_isFight kVX13_isFight ⟨Nat.le_of_ble_eq_true rfl, Nat.le_of_ble_eq_true rfl⟩ rfl hl.1 rfl (Nat.le_of_ble_eq_true rfl) dX13_begin_3 (fun H locs hH => ?_)
  refine lv_if_eq (tgt := 16) hx hb dX13_begin_6 (by decide) (fun c_4 => ?_) (fun c_4 => ?_)
  · rw [if_pos c_4] at hF
    refine lv_bipush (v := (-2)) hx hb dX13_begin_16 (by decide) ?_
    exact mr_i hC hH hr hF dX13_begin_18 hlocks
  · rw [if_neg c_4] at hF
    refine lv_iload_n hx hb dX13_begin_9 rfl (lv_at hl 3 rfl) ?_
    obtain ⟨r_5, u_6, h_7, hF⟩ := ob_some hF
    refine mcS_i (As := [.int a2]) (rest := []) hC hH (m_isMat l G Z Q u_2 u_6 r_5 a2 _ h_7) kwX13_isMat kVX13_isMat ⟨Nat.le_of_ble_eq_true rfl, Nat.le_of_ble_eq_true rfl⟩ rfl hl.1 rfl (Nat.le_of_ble_eq_true rfl) dX13_begin_10 (fun H locs hH => ?_)
    refine lv_if_ne (tgt := 19) hx hb dX13_begin_13 (by decide) (fun c_8 => ?_) (fun c_8 => ?_)
    · rw [if_neg c_8] at hF
      refine lv_aload_n hx hb dX13_begin_19 rfl (lv_at hl 0 rfl) ?_
      refine mg_30 hC hH dX13_begin_20 ?_
      refine lv_if_eq (tgt := 45) hx hb dX13_begin_23 (by decide) (fun c_9 => ?_) (fun c_9 => ?_)
      · rw [if_pos c_9] at hF
        refine lv_bipush (v := (-3)) hx hb dX13_begin_45 (by decide) ?_
        exact mr_i hC hH hr hF dX13_begin_47 hlocks
      · rw [if_neg c_9] at hF
        refine lv_aload_n hx hb dX13_begin_26 rfl (lv_at hl 0 rfl) ?_
        refine lv_iload_n hx hb dX13_begin_27 rfl (lv_at hl 1 rfl) ?_
        refine lv_iload_n hx hb dX13_begin_28 rfl (lv_at hl 2 rfl) ?_
        obtain ⟨r_10, u_11, h_12, hF⟩ := ob_some hF
        refine mcV_i (As := [.int a0, .int a1]) (rest := []) hC hH (m_isReady l G Z Q u_6 u_11 r_10 a0 a1 _ h_12) kwX13_isReady kVX13_isReady ⟨Nat.le_of_ble_eq_true rfl, Nat.le_of_ble_eq_true rfl⟩ rfl hl.1 rfl (Nat.le_of_ble_eq_true rfl) dX13_begin_29 (fun H locs hH => ?_)
        refine lv_if_eq (tgt := 45) hx hb dX13_begin_32 (by decide) (fun c_13 => ?_) (fun c_13 => ?_)
        · rw [if_pos c_13] at hF
          refine lv_bipush (v := (-3)) hx hb dX13_begin_45 (by decide) ?_
          exact mr_i hC hH hr hF dX13_begin_47 hlocks
        · rw [if_neg c_13] at hF
          refine lv_aload_n hx hb dX13_begin_35 rfl (lv_at hl 0 rfl) ?_
          refine mg_22 hC hH dX13_begin_36 ?_
          refine lv_iload_n hx hb dX13_begin_39 rfl (lv_at hl 3 rfl) ?_
          obtain ⟨g_14, hF⟩ := og_some hF
          refine ml_22 hC hH g_14 dX13_begin_40 ?_
          refine lv_iconst (v := (-1)) hx hb dX13_begin_41 (by decide) ?_
          refine lv_icmp_eq (tgt := 48) hx hb dX13_begin_42 (by decide) (fun c_15 => ?_) (fun c_15 => ?_)
          · rw [if_pos c_15] at hF
            refine lv_aload_n hx hb dX13_begin_48 rfl (lv_at hl 0 rfl) ?_
            refine lv_aload_n hx hb dX13_begin_49 rfl (lv_at hl 0 rfl) ?_
            refine lv_iload_n hx hb dX13_begin_50 rfl (lv_at hl 1 rfl) ?_
            refine lv_iload_n hx hb dX13_begin_51 rfl (lv_at hl 2 rfl) ?_
            refine lv_iconst (v := 0) hx hb dX13_begin_52 (by decide) ?_
            obtain ⟨r_16, u_17, h_18, hF⟩ := ob_some hF
            refine mcV_i (As := [.int a0, .int a1, .int 0]) (rest := [.ref (Q 72)]) hC hH (m_sideOf l G Z Q u_11 u_17 r_16 a0 a1 0 _ h_18) kwX13_sideOf kVX13_sideOf ⟨Nat.le_of_ble_eq_true rfl, Nat.le_of_ble_eq_true rfl⟩ rfl hl.1 rfl (Nat.le_of_ble_eq_true rfl) dX13_begin_53 (fun H locs hH => ?_)
            obtain ⟨r_19, u_20, h_21, hF⟩ := ob_some hF
            refine mcV_i (As := [.int r_16]) (rest := []) hC hH (m_rests l G Z Q u_17 u_20 r_19 r_16 _ h_21) kwX13_rests kVX13_rests ⟨Nat.le_of_ble_eq_true rfl, Nat.le_of_ble_eq_true rfl⟩ rfl hl.1 rfl (Nat.le_of_ble_eq_true rfl) dX13_begin_56 (fun H locs hH => ?_)
            refine lv_if_ne (tgt := 76) hx hb dX13_begin_59 (by decide) (fun c_22 => ?_) (fun c_22 => ?_)
            · rw [if_neg c_22] at hF
              refine lv_bipush (v := (-5)) hx hb dX13_begin_76 (by decide) ?_
              refine lv_goto (tgt := 90) hx hb dX13_begin_78 (by decide) ?_
              exact mr_i hC hH hr hF dX13_begin_90 hlocks
            · rw [if_pos c_22] at hF
              refine lv_aload_n hx hb dX13_begin_62 rfl (lv_at hl 0 rfl) ?_
              refine lv_aload_n hx hb dX13_begin_63 rfl (lv_at hl 0 rfl) ?_
              refine lv_iload_n hx hb dX13_begin_64 rfl (lv_at hl 1 rfl) ?_
              refine lv_iload_n hx hb dX13_begin_65 rfl (lv_at hl 2 rfl) ?_
              refine lv_iconst (v := 1) hx hb dX13_begin_66 (by decide) ?_
              obtain ⟨r_23, u_24, h_25, hF⟩ := ob_some hF
              refine mcV_i (As := [.int a0, .int a1, .int 1]) (rest := [.ref (Q 72)]) hC hH (m_sideOf l G Z Q u_20 u_24 r_23 a0 a1 1 _ h_25) kwX13_sideOf kVX13_sideOf ⟨Nat.le_of_ble_eq_true rfl, Nat.le_of_ble_eq_true rfl⟩ rfl hl.1 rfl (Nat.le_of_ble_eq_true rfl) dX13_begin_67 (fun H locs hH => ?_)
              obtain ⟨r_26, u_27, h_28, hF⟩ := ob_some hF
              refine mcV_i (As := [.int r_23]) (rest := []) hC hH (m_rests l G Z Q u_24 u_27 r_26 r_23 _ h_28) kwX13_rests kVX13_rests ⟨Nat.le_of_ble_eq_true rfl, Nat.le_of_ble_eq_true rfl⟩ rfl hl.1 rfl (Nat.le_of_ble_eq_true rfl) dX13_begin_70 (fun H locs hH => ?_)
              refine lv_if_eq (tgt := 81) hx hb dX13_begin_73 (by decide) (fun c_29 => ?_) (fun c_29 => ?_)
              · rw [if_pos c_29] at hF
                refine lv_aload_n hx hb dX13_begin_81 rfl (lv_at hl 0 rfl) ?_
                refine lv_bipush (v := 8) hx hb dX13_begin_82 (by decide) ?_
                refine lv_iload_n hx hb dX13_begin_84 rfl (lv_at hl 1 rfl) ?_
                refine lv_iload_n hx hb dX13_begin_85 rfl (lv_at hl 2 rfl) ?_
                refine lv_iload_n hx hb dX13_begin_86 rfl (lv_at hl 3 rfl) ?_
                obtain ⟨r_30, u_31, h_32, hF⟩ := ob_some hF
                refine mcV_i (As := [.int 8, .int a0, .int a1, .int a2]) (rest := []) hC hH (m_act l G Z Q u_27 u_31 r_30 8 a0 a1 a2 _ h_32) kwX13_act kVX13_act ⟨Nat.le_of_ble_eq_true rfl, Nat.le_of_ble_eq_true rfl⟩ rfl hl.1 rfl (Nat.le_of_ble_eq_true rfl) dX13_begin_87 (fun H locs hH => ?_)
                exact mr_i hC hH hr hF dX13_begin_90 hlocks
              · rw [if_neg c_29] at hF
                refine lv_bipush (v := (-5)) hx hb dX13_begin_76 (by decide) ?_
                refine lv_goto (tgt := 90) hx hb dX13_begin_78 (by decide) ?_
                exact mr_i hC hH hr hF dX13_begin_90 hlocks
          · rw [if_neg c_15] at hF
            refine lv_bipush (v := (-3)) hx hb dX13_begin_45 (by decide) ?_
            exact mr_i hC hH hr hF dX13_begin_47 hlocks
    · rw [if_pos c_8] at hF
      refine lv_bipush (v := (-2)) hx hb dX13_begin_16 (by decide) ?_
      exact mr_i hC hH hr hF dX13_begin_18 hlocks
def f_event (a0 : Int32) (a1 : Int32) (a2 : Int32) (u : MS) : Option (Int32 × MS) := ob (f_isMat a0 u) (fun r_1 u_2 => (if r_1 = 0 then some (-2, u_2) else ob (f_in a1.toInt64 0 1 u_2) (fun r_5 u_6 => (if r_5 = 0 then some (-2, u_6) else ob (f_in a2.toInt64 0 (((u_6.1 29).toInt64 : Int64) - (1 : Int64)) u_6) (fun r_9 u_10 => (if r_9 = 0 then some (-2, u_10) else og (gi a0 4) ((if (ra u_10 22 a0) = (-1) then some (-3, u_10) else og (gi a0 4) ((if (ra u_10 26 a0) = 0 then ob (f_act 9 a0 a1 a2 u_10) (fun r_17 u_18 => some (r_17, u_18)) else some (-3, u_10)))))))))))
set_option maxHeartbeats 4000000 in
set_option maxRecDepth 100000 in
theorem m_event (l : Launch) (G : gG) (Z : gM) (Q : Nat → Nat) (u u1 : MS) (r : Int32) (a0 : Int32) (a1 : Int32) (a2 : Int32) (sz : Nat) (hF : f_event a0 a1 a2 u = some (r, u1)) : Met l yX13_event (Cond.code yX13_event cX13_event 4 (some .int) :: wM) { frames := 409, cells := 0, slots := 0, locals := 4996 } (va_Pc [.ref (Q 72), .int a0, .int a1, .int a2] (mPM G Z Q u sz)) (mQi G Q u1 r sz) 0 0 (mA Q sz) := by
  refine Met.ofW (cc := cX13_event) (maxL := 4) (ret := (some .int)) (by decide) rfl ?_
  intro p e s m args below meth c s₁ B hml hv
  obtain ⟨rfl, rfl, hP, hB, hD, hE⟩ := hv
  have hr := B.returns
  have hlocks := B.notSynchronized
  have hts := atoms_spec (ws := Cond.code yX13_event cX13_event 4 (some .int) :: wM) B.pre
  have hC : mX p c cX13_event 4 s m _ G Z Q := ⟨B.exec, B.bytes, hml, findClass_of_methodNamed B.named, fun w h => hts w (List.mem_cons_of_mem _ h), hB, hE⟩
  have hx := hC.1
  have hb := hC.2.1
  have hH : mH G Q u s s.heap [] := ⟨hP, hD, va_S.rf⟩
  have hl := lv_entry ([.ref (Q 72), .int a0, .int a1, .int a2]) (n := 4) (Nat.le_of_ble_eq_true rfl)
  rw [lg_entry_eq]
  generalize (lg_sl ([.ref (Q 72), .int a0, .int a1, .int a2]) ++ List.replicate (4 - (lg_sl ([.ref (Q 72), .int a0, .int a1, .int a2])).length) Slot.unset).toArray = ls at hl ⊢
  have hl : lv_has ls 4 [(0, .ref (Q 72)), (1, .int a0), (2, .int a1), (3, .int a2)] := hl
  unfold f_event at hF
  refine lv_iload_n hx hb dX13_event_0 rfl (lv_at hl 1 rfl) ?_
  obtain ⟨r_1, u_2, h_3, hF⟩ := ob_some hF
  refine mcS_i (As := [.int a0]) (rest := []) hC hH (m_isMat l G Z Q u u_2 r_1 a0 _ h_3) kwX13_isMat kVX13_isMat ⟨Nat.le_of_ble_eq_true rfl, Nat.le_of_ble_eq_true rfl⟩ rfl hl.1 rfl (Nat.le_of_ble_eq_true rfl) dX13_event_1 (fun H locs hH => ?_)
  refine lv_if_eq (tgt := 33) hx hb dX13_event_4 (by decide) (fun c_4 => ?_) (fun c_4 => ?_)
  · rw [if_pos c_4] at hF
    refine lv_bipush (v := (-2)) hx hb dX13_event_33 (by decide) ?_
    exact mr_i hC hH hr hF dX13_event_35 hlocks
  · rw [if_neg c_4] at hF
    refine lv_iload_n hx hb dX13_event_7 rfl (lv_at hl 2 rfl) ?_
    refine lv_i2l (v := a1.toInt64) hx hb dX13_event_8 rfl ?_
    refine lv_lconst (v := 0) hx hb dX13_event_9 (by decide) ?_
    refine lv_lconst (v := 1) hx hb dX13_event_10 (by decide) ?_
    obtain ⟨r_5, u_6, h_7, hF⟩ := ob_some hF
    refine mcS_i (As := [.long a1.toInt64, .long 0, .long 1]) (rest := []) hC hH (m_in l G Z Q u_2 u_6 r_5 a1.toInt64 0 1 _ h_7) kwX13_in kVX13_in ⟨Nat.le_of_ble_eq_true rfl, Nat.le_of_ble_eq_true rfl⟩ rfl hl.1 rfl (Nat.le_of_ble_eq_true rfl) dX13_event_11 (fun H locs hH => ?_)
    refine lv_if_eq (tgt := 33) hx hb dX13_event_14 (by decide) (fun c_8 => ?_) (fun c_8 => ?_)
    · rw [if_pos c_8] at hF
      refine lv_bipush (v := (-2)) hx hb dX13_event_33 (by decide) ?_
      exact mr_i hC hH hr hF dX13_event_35 hlocks
    · rw [if_neg c_8] at hF
      refine lv_iload_n hx hb dX13_event_17 rfl (lv_at hl 3 rfl) ?_
      refine lv_i2l (v := a2.toInt64) hx hb dX13_event_18 rfl ?_
      refine lv_lconst (v := 0) hx hb dX13_event_19 (by decide) ?_
      refine lv_aload_n hx hb dX13_event_20 rfl (lv_at hl 0 rfl) ?_
      refine mg_29 hC hH dX13_event_21 ?_
      refine lv_i2l (v := (u_6.1 29).toInt64) hx hb dX13_event_24 rfl ?_
      refine lv_lconst (v := 1) hx hb dX13_event_25 (by decide) ?_
      refine lv_lsub hx hb dX13_event_26 ?_
      obtain ⟨r_9, u_10, h_11, hF⟩ := ob_some hF
      refine mcS_i (As := [.long a2.toInt64, .long 0, .long (((u_6.1 29).toInt64 : Int64) - (1 : Int64))]) (rest := []) hC hH (m_in l G Z Q u_6 u_10 r_9 a2.toInt64 0 (((u_6.1 29).toInt64 : Int64) - (1 : Int64)) _ h_11) kwX13_in kVX13_in ⟨Nat.le_of_ble_eq_true rfl, Nat.le_of_ble_eq_true rfl⟩ rfl hl.1 rfl (Nat.le_of_ble_eq_true rfl) dX13_event_27 (fun H locs hH => ?_)
      refine lv_if_ne (tgt := 36) hx hb dX13_event_30 (by decide) (fun c_12 => ?_) (fun c_12 => ?_)
      · rw [if_neg c_12] at hF
        refine lv_aload_n hx hb dX13_event_36 rfl (lv_at hl 0 rfl) ?_
        refine mg_22 hC hH dX13_event_37 ?_
        refine lv_iload_n hx hb dX13_event_40 rfl (lv_at hl 1 rfl) ?_
        obtain ⟨g_13, hF⟩ := og_some hF
        refine ml_22 hC hH g_13 dX13_event_41 ?_
        refine lv_iconst (v := (-1)) hx hb dX13_event_42 (by decide) ?_
        refine lv_icmp_eq (tgt := 55) hx hb dX13_event_43 (by decide) (fun c_14 => ?_) (fun c_14 => ?_)
        · rw [if_pos c_14] at hF
          refine lv_bipush (v := (-3)) hx hb dX13_event_55 (by decide) ?_
          refine lv_goto (tgt := 69) hx hb dX13_event_57 (by decide) ?_
          exact mr_i hC hH hr hF dX13_event_69 hlocks
        · rw [if_neg c_14] at hF
          refine lv_aload_n hx hb dX13_event_46 rfl (lv_at hl 0 rfl) ?_
          refine mg_26 hC hH dX13_event_47 ?_
          refine lv_iload_n hx hb dX13_event_50 rfl (lv_at hl 1 rfl) ?_
          obtain ⟨g_15, hF⟩ := og_some hF
          refine ml_26 hC hH g_15 dX13_event_51 ?_
          refine lv_if_eq (tgt := 60) hx hb dX13_event_52 (by decide) (fun c_16 => ?_) (fun c_16 => ?_)
          · rw [if_pos c_16] at hF
            refine lv_aload_n hx hb dX13_event_60 rfl (lv_at hl 0 rfl) ?_
            refine lv_bipush (v := 9) hx hb dX13_event_61 (by decide) ?_
            refine lv_iload_n hx hb dX13_event_63 rfl (lv_at hl 1 rfl) ?_
            refine lv_iload_n hx hb dX13_event_64 rfl (lv_at hl 2 rfl) ?_
            refine lv_iload_n hx hb dX13_event_65 rfl (lv_at hl 3 rfl) ?_
            obtain ⟨r_17, u_18, h_19, hF⟩ := ob_some hF
            refine mcV_i (As := [.int 9, .int a0, .int a1, .int a2]) (rest := []) hC hH (m_act l G Z Q u_10 u_18 r_17 9 a0 a1 a2 _ h_19) kwX13_act kVX13_act ⟨Nat.le_of_ble_eq_true rfl, Nat.le_of_ble_eq_true rfl⟩ rfl hl.1 rfl (Nat.le_of_ble_eq_true rfl) dX13_event_66 (fun H locs hH => ?_)
            exact mr_i hC hH hr hF dX13_event_69 hlocks
          · rw [if_neg c_16] at hF
            refine lv_bipush (v := (-3)) hx hb dX13_event_55 (by decide) ?_
            refine lv_goto (tgt := 69) hx hb dX13_event_57 (by decide) ?_
            exact mr_i hC hH hr hF dX13_event_69 hlocks
      · rw [if_pos c_12] at hF
        refine lv_bipush (v := (-2)) hx hb dX13_event_33 (by decide) ?_
        exact mr_i hC hH hr hF dX13_event_35 hlocks
def f_tick (a0 : Int32) (a1 : Int32) (u : MS) : Option (Int32 × MS) := ob (f_isMat a0 u) (fun r_1 u_2 => (if r_1 = 0 then some (-2, u_2) else ob (f_in a1.toInt64 1 9999 u_2) (fun r_5 u_6 => (if r_5 = 0 then some (-2, u_6) else og (gi a0 4) ((if (ra u_6 22 a0) = (-1) then some (-3, u_6) else og (gi a0 4) ((if (ra u_6 26 a0) = 0 then og (gi a0 4) ((if a1 ≤ (ra u_6 23 a0) then ob (f_act 10 a0 a1 0 u_6) (fun r_15 u_16 => some (r_15, u_16)) else some (-2, u_6))) else some (-3, u_6)))))))))
set_option maxHeartbeats 4000000 in
set_option maxRecDepth 100000 in
theorem m_tick (l : Launch) (G : gG) (Z : gM) (Q : Nat → Nat) (u u1 : MS) (r : Int32) (a0 : Int32) (a1 : Int32) (sz : Nat) (hF : f_tick a0 a1 u = some (r, u1)) : Met l yX13_tick (Cond.code yX13_tick cX13_tick 3 (some .int) :: wM) { frames := 409, cells := 0, slots := 0, locals := 4996 } (va_Pc [.ref (Q 72), .int a0, .int a1] (mPM G Z Q u sz)) (mQi G Q u1 r sz) 0 0 (mA Q sz) := by
  refine Met.ofW (cc := cX13_tick) (maxL := 3) (ret := (some .int)) (by decide) rfl ?_
  intro p e s m args below meth c s₁ B hml hv
  obtain ⟨rfl, rfl, hP, hB, hD, hE⟩ := hv
  have hr := B.returns
  have hlocks := B.notSynchronized
  have hts := atoms_spec (ws := Cond.code yX13_tick cX13_tick 3 (some .int) :: wM) B.pre
  have hC : mX p c cX13_tick 3 s m _ G Z Q := ⟨B.exec, B.bytes, hml, findClass_of_methodNamed B.named, fun w h => hts w (List.mem_cons_of_mem _ h), hB, hE⟩
  have hx := hC.1
  have hb := hC.2.1
  have hH : mH G Q u s s.heap [] := ⟨hP, hD, va_S.rf⟩
  have hl := lv_entry ([.ref (Q 72), .int a0, .int a1]) (n := 3) (Nat.le_of_ble_eq_true rfl)
  rw [lg_entry_eq]
  generalize (lg_sl ([.ref (Q 72), .int a0, .int a1]) ++ List.replicate (3 - (lg_sl ([.ref (Q 72), .int a0, .int a1])).length) Slot.unset).toArray = ls at hl ⊢
  have hl : lv_has ls 3 [(0, .ref (Q 72)), (1, .int a0), (2, .int a1)] := hl
  unfold f_tick at hF
  refine lv_iload_n hx hb dX13_tick_0 rfl (lv_at hl 1 rfl) ?_
  obtain ⟨r_1, u_2, h_3, hF⟩ := ob_some hF
  refine mcS_i (As := [.int a0]) (rest := []) hC hH (m_isMat l G Z Q u u_2 r_1 a0 _ h_3) kwX13_isMat kVX13_isMat ⟨Nat.le_of_ble_eq_true rfl, Nat.le_of_ble_eq_true rfl⟩ rfl hl.1 rfl (Nat.le_of_ble_eq_true rfl) dX13_tick_1 (fun H locs hH => ?_)
  refine lv_if_eq (tgt := 19) hx hb dX13_tick_4 (by decide) (fun c_4 => ?_) (fun c_4 => ?_)
  · rw [if_pos c_4] at hF
    refine lv_bipush (v := (-2)) hx hb dX13_tick_19 (by decide) ?_
    exact mr_i hC hH hr hF dX13_tick_21 hlocks
  · rw [if_neg c_4] at hF
    refine lv_iload_n hx hb dX13_tick_7 rfl (lv_at hl 2 rfl) ?_
    refine lv_i2l (v := a1.toInt64) hx hb dX13_tick_8 rfl ?_
    refine lv_lconst (v := 1) hx hb dX13_tick_9 (by decide) ?_
    refine lv_ldc2 (v := 9999) hx hb hC.2.2.2.1 (hC.2.2.2.2.1 _ wma158) dX13_tick_10 ?_
    obtain ⟨r_5, u_6, h_7, hF⟩ := ob_some hF
    refine mcS_i (As := [.long a1.toInt64, .long 1, .long 9999]) (rest := []) hC hH (m_in l G Z Q u_2 u_6 r_5 a1.toInt64 1 9999 _ h_7) kwX13_in kVX13_in ⟨Nat.le_of_ble_eq_true rfl, Nat.le_of_ble_eq_true rfl⟩ rfl hl.1 rfl (Nat.le_of_ble_eq_true rfl) dX13_tick_13 (fun H locs hH => ?_)
    refine lv_if_ne (tgt := 22) hx hb dX13_tick_16 (by decide) (fun c_8 => ?_) (fun c_8 => ?_)
    · rw [if_neg c_8] at hF
      refine lv_aload_n hx hb dX13_tick_22 rfl (lv_at hl 0 rfl) ?_
      refine mg_22 hC hH dX13_tick_23 ?_
      refine lv_iload_n hx hb dX13_tick_26 rfl (lv_at hl 1 rfl) ?_
      obtain ⟨g_9, hF⟩ := og_some hF
      refine ml_22 hC hH g_9 dX13_tick_27 ?_
      refine lv_iconst (v := (-1)) hx hb dX13_tick_28 (by decide) ?_
      refine lv_icmp_eq (tgt := 41) hx hb dX13_tick_29 (by decide) (fun c_10 => ?_) (fun c_10 => ?_)
      · rw [if_pos c_10] at hF
        refine lv_bipush (v := (-3)) hx hb dX13_tick_41 (by decide) ?_
        exact mr_i hC hH hr hF dX13_tick_43 hlocks
      · rw [if_neg c_10] at hF
        refine lv_aload_n hx hb dX13_tick_32 rfl (lv_at hl 0 rfl) ?_
        refine mg_26 hC hH dX13_tick_33 ?_
        refine lv_iload_n hx hb dX13_tick_36 rfl (lv_at hl 1 rfl) ?_
        obtain ⟨g_11, hF⟩ := og_some hF
        refine ml_26 hC hH g_11 dX13_tick_37 ?_
        refine lv_if_eq (tgt := 44) hx hb dX13_tick_38 (by decide) (fun c_12 => ?_) (fun c_12 => ?_)
        · rw [if_pos c_12] at hF
          refine lv_iload_n hx hb dX13_tick_44 rfl (lv_at hl 2 rfl) ?_
          refine lv_aload_n hx hb dX13_tick_45 rfl (lv_at hl 0 rfl) ?_
          refine mg_23 hC hH dX13_tick_46 ?_
          refine lv_iload_n hx hb dX13_tick_49 rfl (lv_at hl 1 rfl) ?_
          obtain ⟨g_13, hF⟩ := og_some hF
          refine ml_23 hC hH g_13 dX13_tick_50 ?_
          refine lv_icmp_le (tgt := 59) hx hb dX13_tick_51 (by decide) (fun c_14 => ?_) (fun c_14 => ?_)
          · rw [if_pos c_14] at hF
            refine lv_aload_n hx hb dX13_tick_59 rfl (lv_at hl 0 rfl) ?_
            refine lv_bipush (v := 10) hx hb dX13_tick_60 (by decide) ?_
            refine lv_iload_n hx hb dX13_tick_62 rfl (lv_at hl 1 rfl) ?_
            refine lv_iload_n hx hb dX13_tick_63 rfl (lv_at hl 2 rfl) ?_
            refine lv_iconst (v := 0) hx hb dX13_tick_64 (by decide) ?_
            obtain ⟨r_15, u_16, h_17, hF⟩ := ob_some hF
            refine mcV_i (As := [.int 10, .int a0, .int a1, .int 0]) (rest := []) hC hH (m_act l G Z Q u_6 u_16 r_15 10 a0 a1 0 _ h_17) kwX13_act kVX13_act ⟨Nat.le_of_ble_eq_true rfl, Nat.le_of_ble_eq_true rfl⟩ rfl hl.1 rfl (Nat.le_of_ble_eq_true rfl) dX13_tick_65 (fun H locs hH => ?_)
            exact mr_i hC hH hr hF dX13_tick_68 hlocks
          · rw [if_neg c_14] at hF
            refine lv_bipush (v := (-2)) hx hb dX13_tick_54 (by decide) ?_
            refine lv_goto (tgt := 68) hx hb dX13_tick_56 (by decide) ?_
            exact mr_i hC hH hr hF dX13_tick_68 hlocks
        · rw [if_neg c_12] at hF
          refine lv_bipush (v := (-3)) hx hb dX13_tick_41 (by decide) ?_
          exact mr_i hC hH hr hF dX13_tick_43 hlocks
    · rw [if_pos c_8] at hF
      refine lv_bipush (v := (-2)) hx hb dX13_tick_19 (by decide) ?_
      exact mr_i hC hH hr hF dX13_tick_21 hlocks
def f_decide (a0 : Int32) (a1 : Int32) (u : MS) : Option (Int32 × MS) := ob (f_isMat a0 u) (fun r_1 u_2 => (if r_1 = 0 then some (-2, u_2) else ob (f_in a1.toInt64 0 1 u_2) (fun r_5 u_6 => (if r_5 = 0 then some (-2, u_6) else og (gi a0 4) ((if (ra u_6 22 a0) = (-1) then some (-3, u_6) else og (gi a0 4) ((if (ra u_6 26 a0) = 0 then some (-3, u_6) else ob (f_act 11 a0 a1 0 u_6) (fun r_13 u_14 => some (r_13, u_14))))))))))
set_option maxHeartbeats 4000000 in
set_option maxRecDepth 100000 in
theorem m_decide (l : Launch) (G : gG) (Z : gM) (Q : Nat → Nat) (u u1 : MS) (r : Int32) (a0 : Int32) (a1 : Int32) (sz : Nat) (hF : f_decide a0 a1 u = some (r, u1)) : Met l yX13_decide (Cond.code yX13_decide cX13_decide 3 (some .int) :: wM) { frames := 409, cells := 0, slots := 0, locals := 4996 } (va_Pc [.ref (Q 72), .int a0, .int a1] (mPM G Z Q u sz)) (mQi G Q u1 r sz) 0 0 (mA Q sz) := by
  refine Met.ofW (cc := cX13_decide) (maxL := 3) (ret := (some .int)) (by decide) rfl ?_
  intro p e s m args below meth c s₁ B hml hv
  obtain ⟨rfl, rfl, hP, hB, hD, hE⟩ := hv
  have hr := B.returns
  have hlocks := B.notSynchronized
  have hts := atoms_spec (ws := Cond.code yX13_decide cX13_decide 3 (some .int) :: wM) B.pre
  have hC : mX p c cX13_decide 3 s m _ G Z Q := ⟨B.exec, B.bytes, hml, findClass_of_methodNamed B.named, fun w h => hts w (List.mem_cons_of_mem _ h), hB, hE⟩
  have hx := hC.1
  have hb := hC.2.1
  have hH : mH G Q u s s.heap [] := ⟨hP, hD, va_S.rf⟩
  have hl := lv_entry ([.ref (Q 72), .int a0, .int a1]) (n := 3) (Nat.le_of_ble_eq_true rfl)
  rw [lg_entry_eq]
  generalize (lg_sl ([.ref (Q 72), .int a0, .int a1]) ++ List.replicate (3 - (lg_sl ([.ref (Q 72), .int a0, .int a1])).length) Slot.unset).toArray = ls at hl ⊢
  have hl : lv_has ls 3 [(0, .ref (Q 72)), (1, .int a0), (2, .int a1)] := hl
  unfold f_decide at hF
  refine lv_iload_n hx hb dX13_decide_0 rfl (lv_at hl 1 rfl) ?_
  obtain ⟨r_1, u_2, h_3, hF⟩ := ob_some hF
  refine mcS_i (As := [.int a0]) (rest := []) hC hH (m_isMat l G Z Q u u_2 r_1 a0 _ h_3) kwX13_isMat kVX13_isMat ⟨Nat.le_of_ble_eq_true rfl, Nat.le_of_ble_eq_true rfl⟩ rfl hl.1 rfl (Nat.le_of_ble_eq_true rfl) dX13_decide_1 (fun H locs hH => ?_)
  refine lv_if_eq (tgt := 17) hx hb dX13_decide_4 (by decide) (fun c_4 => ?_) (fun c_4 => ?_)
  · rw [if_pos c_4] at hF
    refine lv_bipush (v := (-2)) hx hb dX13_decide_17 (by decide) ?_
    exact mr_i hC hH hr hF dX13_decide_19 hlocks
  · rw [if_neg c_4] at hF
    refine lv_iload_n hx hb dX13_decide_7 rfl (lv_at hl 2 rfl) ?_
    refine lv_i2l (v := a1.toInt64) hx hb dX13_decide_8 rfl ?_
    refine lv_lconst (v := 0) hx hb dX13_decide_9 (by decide) ?_
    refine lv_lconst (v := 1) hx hb dX13_decide_10 (by decide) ?_
    obtain ⟨r_5, u_6, h_7, hF⟩ := ob_some hF
    refine mcS_i (As := [.long a1.toInt64, .long 0, .long 1]) (rest := []) hC hH (m_in l G Z Q u_2 u_6 r_5 a1.toInt64 0 1 _ h_7) kwX13_in kVX13_in ⟨Nat.le_of_ble_eq_true rfl, Nat.le_of_ble_eq_true rfl⟩ rfl hl.1 rfl (Nat.le_of_ble_eq_true rfl) dX13_decide_11 (fun H locs hH => ?_)
    refine lv_if_ne (tgt := 20) hx hb dX13_decide_14 (by decide) (fun c_8 => ?_) (fun c_8 => ?_)
    · rw [if_neg c_8] at hF
      refine lv_aload_n hx hb dX13_decide_20 rfl (lv_at hl 0 rfl) ?_
      refine mg_22 hC hH dX13_decide_21 ?_
      refine lv_iload_n hx hb dX13_decide_24 rfl (lv_at hl 1 rfl) ?_
      obtain ⟨g_9, hF⟩ := og_some hF
      refine ml_22 hC hH g_9 dX13_decide_25 ?_
      refine lv_iconst (v := (-1)) hx hb dX13_decide_26 (by decide) ?_
      refine lv_icmp_eq (tgt := 39) hx hb dX13_decide_27 (by decide) (fun c_10 => ?_) (fun c_10 => ?_)
      · rw [if_pos c_10] at hF
        refine lv_bipush (v := (-3)) hx hb dX13_decide_39 (by decide) ?_
        refine lv_goto (tgt := 53) hx hb dX13_decide_41 (by decide) ?_
        exact mr_i hC hH hr hF dX13_decide_53 hlocks
      · rw [if_neg c_10] at hF
        refine lv_aload_n hx hb dX13_decide_30 rfl (lv_at hl 0 rfl) ?_
        refine mg_26 hC hH dX13_decide_31 ?_
        refine lv_iload_n hx hb dX13_decide_34 rfl (lv_at hl 1 rfl) ?_
        obtain ⟨g_11, hF⟩ := og_some hF
        refine ml_26 hC hH g_11 dX13_decide_35 ?_
        refine lv_if_ne (tgt := 44) hx hb dX13_decide_36 (by decide) (fun c_12 => ?_) (fun c_12 => ?_)
        · rw [if_neg c_12] at hF
          refine lv_aload_n hx hb dX13_decide_44 rfl (lv_at hl 0 rfl) ?_
          refine lv_bipush (v := 11) hx hb dX13_decide_45 (by decide) ?_
          refine lv_iload_n hx hb dX13_decide_47 rfl (lv_at hl 1 rfl) ?_
          refine lv_iload_n hx hb dX13_decide_48 rfl (lv_at hl 2 rfl) ?_
          refine lv_iconst (v := 0) hx hb dX13_decide_49 (by decide) ?_
          obtain ⟨r_13, u_14, h_15, hF⟩ := ob_some hF
          refine mcV_i (As := [.int 11, .int a0, .int a1, .int 0]) (rest := []) hC hH (m_act l G Z Q u_6 u_14 r_13 11 a0 a1 0 _ h_15) kwX13_act kVX13_act ⟨Nat.le_of_ble_eq_true rfl, Nat.le_of_ble_eq_true rfl⟩ rfl hl.1 rfl (Nat.le_of_ble_eq_true rfl) dX13_decide_50 (fun H locs hH => ?_)
          exact mr_i hC hH hr hF dX13_decide_53 hlocks
        · rw [if_pos c_12] at hF
          refine lv_bipush (v := (-3)) hx hb dX13_decide_39 (by decide) ?_
          refine lv_goto (tgt := 53) hx hb dX13_decide_41 (by decide) ?_
          exact mr_i hC hH hr hF dX13_decide_53 hlocks
    · rw [if_pos c_8] at hF
      refine lv_bipush (v := (-2)) hx hb dX13_decide_17 (by decide) ?_
      exact mr_i hC hH hr hF dX13_decide_19 hlocks
def f_strike (a0 : Int32) (a1 : Int32) (u : MS) : Option (Int32 × MS) := ob (f_isFight a0 a1 u) (fun r_1 u_2 => (if r_1 = 0 then some (-2, u_2) else og (gi ((40 * a0) + a1) 160) ((if (ra u_2 15 ((40 * a0) + a1)) = 2 then ob (f_act 12 a0 a1 0 u_2) (fun r_7 u_8 => some (r_7, u_8)) else some (-3, u_2)))))
set_option maxHeartbeats 4000000 in
set_option maxRecDepth 100000 in
theorem m_strike (l : Launch) (G : gG) (Z : gM) (Q : Nat → Nat) (u u1 : MS) (r : Int32) (a0 : Int32) (a1 : Int32) (sz : Nat) (hF : f_strike a0 a1 u = some (r, u1)) : Met l yX13_strike (Cond.code yX13_strike cX13_strike 3 (some .int) :: wM) { frames := 409, cells := 0, slots := 0, locals := 4996 } (va_Pc [.ref (Q 72), .int a0, .int a1] (mPM G Z Q u sz)) (mQi G Q u1 r sz) 0 0 (mA Q sz) := by
  refine Met.ofW (cc := cX13_strike) (maxL := 3) (ret := (some .int)) (by decide) rfl ?_
  intro p e s m args below meth c s₁ B hml hv
  obtain ⟨rfl, rfl, hP, hB, hD, hE⟩ := hv
  have hr := B.returns
  have hlocks := B.notSynchronized
  have hts := atoms_spec (ws := Cond.code yX13_strike cX13_strike 3 (some .int) :: wM) B.pre
  have hC : mX p c cX13_strike 3 s m _ G Z Q := ⟨B.exec, B.bytes, hml, findClass_of_methodNamed B.named, fun w h => hts w (List.mem_cons_of_mem _ h), hB, hE⟩
  have hx := hC.1
  have hb := hC.2.1
  have hH : mH G Q u s s.heap [] := ⟨hP, hD, va_S.rf⟩
  have hl := lv_entry ([.ref (Q 72), .int a0, .int a1]) (n := 3) (Nat.le_of_ble_eq_true rfl)
  rw [lg_entry_eq]
  generalize (lg_sl ([.ref (Q 72), .int a0, .int a1]) ++ List.replicate (3 - (lg_sl ([.ref (Q 72), .int a0, .int a1])).length) Slot.unset).toArray = ls at hl ⊢
  have hl : lv_has ls 3 [(0, .ref (Q 72)), (1, .int a0), (2, .int a1)] := hl
  unfold f_strike at hF
  refine lv_aload_n hx hb dX13_strike_0 rfl (lv_at hl 0 rfl) ?_
  refine lv_iload_n hx hb dX13_strike_1 rfl (lv_at hl 1 rfl) ?_
  refine lv_iload_n hx hb dX13_strike_2 rfl (lv_at hl 2 rfl) ?_
  obtain ⟨r_1, u_2, h_3, hF⟩ := ob_some hF
  refine mcV_i (As := [.int a0, .int a1]) (rest := []) hC hH (m_isFight l G Z Q u u_2 r_1 a0 a1 _ h_3) kwX13_isFight kVX13_isFight ⟨Nat.le_of_ble_eq_true rfl, Nat.le_of_ble_eq_true rfl⟩ rfl hl.1 rfl (Nat.le_of_ble_eq_true rfl) dX13_strike_3 (fun H locs hH => ?_)
  refine lv_if_ne (tgt := 14) hx hb dX13_strike_6 (by decide) (fun c_4 => ?_) (fun c_4 => ?_)
  · rw [if_neg c_4] at hF
    refine lv_aload_n hx hb dX13_strike_14 rfl (lv_at hl 0 rfl) ?_
    refine mg_15 hC hH dX13_strike_15 ?_
    refine lv_bipush (v := 40) hx hb dX13_strike_18 (by decide) ?_
    refine lv_iload_n hx hb dX13_strike_20 rfl (lv_at hl 1 rfl) ?_
    refine lv_imul hx hb dX13_strike_21 ?_
    refine lv_iload_n hx hb dX13_strike_22 rfl (lv_at hl 2 rfl) ?_
    refine lv_iadd hx hb dX13_strike_23 ?_
    obtain ⟨g_5, hF⟩ := og_some hF
    refine ml_15 hC hH g_5 dX13_strike_24 ?_
    refine lv_iconst (v := 2) hx hb dX13_strike_25 (by decide) ?_
    refine lv_icmp_eq (tgt := 34) hx hb dX13_strike_26 (by decide) (fun c_6 => ?_) (fun c_6 => ?_)
    · rw [if_pos c_6] at hF
      refine lv_aload_n hx hb dX13_strike_34 rfl (lv_at hl 0 rfl) ?_
      refine lv_bipush (v := 12) hx hb dX13_strike_35 (by decide) ?_
      refine lv_iload_n hx hb dX13_strike_37 rfl (lv_at hl 1 rfl) ?_
      refine lv_iload_n hx hb dX13_strike_38 rfl (lv_at hl 2 rfl) ?_
      refine lv_iconst (v := 0) hx hb dX13_strike_39 (by decide) ?_
      obtain ⟨r_7, u_8, h_9, hF⟩ := ob_some hF
      refine mcV_i (As := [.int 12, .int a0, .int a1, .int 0]) (rest := []) hC hH (m_act l G Z Q u_2 u_8 r_7 12 a0 a1 0 _ h_9) kwX13_act kVX13_act ⟨Nat.le_of_ble_eq_true rfl, Nat.le_of_ble_eq_true rfl⟩ rfl hl.1 rfl (Nat.le_of_ble_eq_true rfl) dX13_strike_40 (fun H locs hH => ?_)
      exact mr_i hC hH hr hF dX13_strike_43 hlocks
    · rw [if_neg c_6] at hF
      refine lv_bipush (v := (-3)) hx hb dX13_strike_29 (by decide) ?_
      refine lv_goto (tgt := 43) hx hb dX13_strike_31 (by decide) ?_
      exact mr_i hC hH hr hF dX13_strike_43 hlocks
  · rw [if_pos c_4] at hF
    refine lv_bipush (v := (-2)) hx hb dX13_strike_9 (by decide) ?_
    refine lv_goto (tgt := 43) hx hb dX13_strike_11 (by decide) ?_
    exact mr_i hC hH hr hF dX13_strike_43 hlocks
