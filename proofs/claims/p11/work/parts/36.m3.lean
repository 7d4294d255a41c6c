def f_fighter (a0 : Int32) (a1 : Int32) : PG (Int32) := pcl (f_isFighter a0) (fun r_1 => (if r_1 = 0 then prt (-1) else (if a1 = 0 then prd 5 96 a0 (fun x_6 => prt x_6) else if a1 = 1 then prd 6 96 a0 (fun x_10 => prt x_10) else if a1 = 2 then prd 7 96 a0 (fun x_14 => prt x_14) else if a1 = 3 then prd 8 96 a0 (fun x_18 => prt x_18) else if a1 = 4 then prd 9 96 a0 (fun x_22 => prt x_22) else if a1 = 5 then prd 10 96 a0 (fun x_26 => prt x_26) else if a1 = 6 then prd 11 96 a0 (fun x_30 => prt x_30) else prt (-1))))
set_option maxHeartbeats 4000000 in
set_option maxRecDepth 100000 in
theorem m_fighter (l : Launch) (G : gG) (Z : gM) (Q : Nat → Nat) (u u1 : GS) (r : Int32) (a0 : Int32) (a1 : Int32) (sz : Nat) (hF : f_fighter a0 a1 u = some (r, u1)) : Met l yX13_fighter (Cond.code yX13_fighter cX13_fighter 3 (some .int) :: wM) { frames := 2, cells := 0, slots := 0, locals := 46 } (va_Pc [.ref (Q 72), .int a0, .int a1] (mPM G Z Q u.1 sz)) (mQi G Q u1.1 r sz) 0 0 (mA Q sz) := by
  refine Met.ofW (cc := cX13_fighter) (maxL := 3) (ret := (some .int)) (by decide) rfl ?_
  intro p e s m args below meth c s₁ B hml hv
  obtain ⟨rfl, rfl, hP, hB, hD, hE⟩ := hv
  have hr := B.returns
  have hlocks := B.notSynchronized
  have hts := atoms_spec (ws := Cond.code yX13_fighter cX13_fighter 3 (some .int) :: wM) B.pre
  have hC : mX p c cX13_fighter 3 s m _ G Z Q := ⟨B.exec, B.bytes, hml, findClass_of_methodNamed B.named, fun w h => hts w (List.mem_cons_of_mem _ h), hB, hE⟩
  have hx := hC.1
  have hb := hC.2.1
  have hH : mH G Q u.1 s s.heap [] := ⟨hP, hD, va_S.rf⟩
  have hl := lv_entry ([.ref (Q 72), .int a0, .int a1]) (n := 3) (Nat.le_of_ble_eq_true rfl)
  rw [lg_entry_eq]
  generalize (lg_sl ([.ref (Q 72), .int a0, .int a1]) ++ List.replicate (3 - (lg_sl ([.ref (Q 72), .int a0, .int a1])).length) Slot.unset).toArray = ls at hl ⊢
  have hl : lv_has ls 3 [(0, .ref (Q 72)), (1, .int a0), (2, .int a1)] := hl
  unfold f_fighter at hF
  refine lv_aload_n hx hb dX13_fighter_0 rfl (lv_at hl 0 rfl) ?_
  refine lv_iload_n hx hb dX13_fighter_1 rfl (lv_at hl 1 rfl) ?_
  obtain ⟨r_1, u_2, h_3, hF⟩ := pcl_some hF
  refine mcV_i (As := [.int a0]) (rest := []) hC hH (m_isFighter l G Z Q u u_2 r_1 a0 _ h_3) kwX13_isFighter kVX13_isFighter ⟨Nat.le_of_ble_eq_true rfl, Nat.le_of_ble_eq_true rfl⟩ rfl hl.1 rfl (Nat.le_of_ble_eq_true rfl) dX13_fighter_2 (fun H locs hH => ?_)
  refine lv_if_ne (tgt := 10) hx hb dX13_fighter_5 (by decide) (fun c_4 => ?_) (fun c_4 => ?_)
  · rw [if_neg c_4] at hF
    refine lv_iload_n hx hb dX13_fighter_10 rfl (lv_at hl 2 rfl) ?_
    by_cases c_5 : a1 = 0
    · rw [if_pos c_5] at hF
      refine gx_ti (y := 0) c_5 ?_
      refine lv_tableIn (off := 41) (tgt := 52) hx hb dX13_fighter_11 (by decide) (by decide) rfl (by decide) ?_
      refine lv_aload_n hx hb dX13_fighter_52 rfl (lv_at hl 0 rfl) ?_
      refine mg_5 hC hH dX13_fighter_53 ?_
      refine lv_iload_n hx hb dX13_fighter_56 rfl (lv_at hl 1 rfl) ?_
      obtain ⟨x_6, g_7, e_8, hF⟩ := prd_some hF
      refine ml_5 hC hH g_7 dX13_fighter_57 ?_
      refine gx_ti e_8 ?_
      have hF := prt_eq hF
      exact mr_i hC hH hr hF dX13_fighter_58 hlocks
    rw [if_neg c_5] at hF
    by_cases c_9 : a1 = 1
    · rw [if_pos c_9] at hF
      refine gx_ti (y := 1) c_9 ?_
      refine lv_tableIn (off := 48) (tgt := 59) hx hb dX13_fighter_11 (by decide) (by decide) rfl (by decide) ?_
      refine lv_aload_n hx hb dX13_fighter_59 rfl (lv_at hl 0 rfl) ?_
      refine mg_6 hC hH dX13_fighter_60 ?_
      refine lv_iload_n hx hb dX13_fighter_63 rfl (lv_at hl 1 rfl) ?_
      obtain ⟨x_10, g_11, e_12, hF⟩ := prd_some hF
      refine ml_6 hC hH g_11 dX13_fighter_64 ?_
      refine gx_ti e_12 ?_
      have hF := prt_eq hF
      exact mr_i hC hH hr hF dX13_fighter_65 hlocks
    rw [if_neg c_9] at hF
    by_cases c_13 : a1 = 2
    · rw [if_pos c_13] at hF
      refine gx_ti (y := 2) c_13 ?_
      refine lv_tableIn (off := 55) (tgt := 66) hx hb dX13_fighter_11 (by decide) (by decide) rfl (by decide) ?_
      refine lv_aload_n hx hb dX13_fighter_66 rfl (lv_at hl 0 rfl) ?_
      refine mg_7 hC hH dX13_fighter_67 ?_
      refine lv_iload_n hx hb dX13_fighter_70 rfl (lv_at hl 1 rfl) ?_
      obtain ⟨x_14, g_15, e_16, hF⟩ := prd_some hF
      refine ml_7 hC hH g_15 dX13_fighter_71 ?_
      refine gx_ti e_16 ?_
      have hF := prt_eq hF
      exact mr_i hC hH hr hF dX13_fighter_72 hlocks
    rw [if_neg c_13] at hF
    by_cases c_17 : a1 = 3
    · rw [if_pos c_17] at hF
      refine gx_ti (y := 3) c_17 ?_
      refine lv_tableIn (off := 62) (tgt := 73) hx hb dX13_fighter_11 (by decide) (by decide) rfl (by decide) ?_
      refine lv_aload_n hx hb dX13_fighter_73 rfl (lv_at hl 0 rfl) ?_
      refine mg_8 hC hH dX13_fighter_74 ?_
      refine lv_iload_n hx hb dX13_fighter_77 rfl (lv_at hl 1 rfl) ?_
      obtain ⟨x_18, g_19, e_20, hF⟩ := prd_some hF
      refine ml_8 hC hH g_19 dX13_fighter_78 ?_
      refine gx_ti e_20 ?_
      have hF := prt_eq hF
      exact mr_i hC hH hr hF dX13_fighter_79 hlocks
    rw [if_neg c_17] at hF
    by_cases c_21 : a1 = 4
    · rw [if_pos c_21] at hF
      refine gx_ti (y := 4) c_21 ?_
      refine lv_tableIn (off := 69) (tgt := 80) hx hb dX13_fighter_11 (by decide) (by decide) rfl (by decide) ?_
      refine lv_aload_n hx hb dX13_fighter_80 rfl (lv_at hl 0 rfl) ?_
      refine mg_9 hC hH dX13_fighter_81 ?_
      refine lv_iload_n hx hb dX13_fighter_84 rfl (lv_at hl 1 rfl) ?_
      obtain ⟨x_22, g_23, e_24, hF⟩ := prd_some hF
      refine ml_9 hC hH g_23 dX13_fighter_85 ?_
      refine gx_ti e_24 ?_
      have hF := prt_eq hF
      exact mr_i hC hH hr hF dX13_fighter_86 hlocks
    rw [if_neg c_21] at hF
    by_cases c_25 : a1 = 5
    · rw [if_pos c_25] at hF
      refine gx_ti (y := 5) c_25 ?_
      refine lv_tableIn (off := 76) (tgt := 87) hx hb dX13_fighter_11 (by decide) (by decide) rfl (by decide) ?_
      refine lv_aload_n hx hb dX13_fighter_87 rfl (lv_at hl 0 rfl) ?_
      refine mg_10 hC hH dX13_fighter_88 ?_
      refine lv_iload_n hx hb dX13_fighter_91 rfl (lv_at hl 1 rfl) ?_
      obtain ⟨x_26, g_27, e_28, hF⟩ := prd_some hF
      refine ml_10 hC hH g_27 dX13_fighter_92 ?_
      refine gx_ti e_28 ?_
      have hF := prt_eq hF
      exact mr_i hC hH hr hF dX13_fighter_93 hlocks
    rw [if_neg c_25] at hF
    by_cases c_29 : a1 = 6
    · rw [if_pos c_29] at hF
      refine gx_ti (y := 6) c_29 ?_
      refine lv_tableIn (off := 83) (tgt := 94) hx hb dX13_fighter_11 (by decide) (by decide) rfl (by decide) ?_
      refine lv_aload_n hx hb dX13_fighter_94 rfl (lv_at hl 0 rfl) ?_
      refine mg_11 hC hH dX13_fighter_95 ?_
      refine lv_iload_n hx hb dX13_fighter_98 rfl (lv_at hl 1 rfl) ?_
      obtain ⟨x_30, g_31, e_32, hF⟩ := prd_some hF
      refine ml_11 hC hH g_31 dX13_fighter_99 ?_
      refine gx_ti e_32 ?_
      have hF := prt_eq hF
      exact mr_i hC hH hr hF dX13_fighter_100 hlocks
    rw [if_neg c_29] at hF
    refine lv_tableOut (tgt := 101) hx hb dX13_fighter_11 (by have q0 := gl_ne c_5 (a := 0) (by decide); have q1 := gl_ne c_9 (a := 1) (by decide); have q2 := gl_ne c_13 (a := 2) (by decide); have q3 := gl_ne c_17 (a := 3) (by decide); have q4 := gl_ne c_21 (a := 4) (by decide); have q5 := gl_ne c_25 (a := 5) (by decide); have q6 := gl_ne c_29 (a := 6) (by decide); omega) (by decide) ?_
    refine lv_iconst (v := (-1)) hx hb dX13_fighter_101 (by decide) ?_
    have hF := prt_eq hF
    exact mr_i hC hH hr hF dX13_fighter_102 hlocks
  · rw [if_pos c_4] at hF
    refine lv_iconst (v := (-1)) hx hb dX13_fighter_8 (by decide) ?_
    have hF := prt_eq hF
    exact mr_i hC hH hr hF dX13_fighter_9 hlocks
def lp_about_107 : Nat → Int32 → Int32 → Int32 → Int32 → (Int32 → Int32 → Int32 → Int32 → PG (Int32)) → PG (Int32)
  | 0, _, _, _, _, _ => fun _ => none
  | n107 + 1, v1, v2, v3, v4, K107_141 => prf 2 (fun x_17 => (if x_17 ≤ v4 then K107_141 v1 v2 v3 v4 else prd 5 96 v4 (fun x_20 => (if x_20 = v1 then pli (v3 + 1) (fun x_28 => pli (v4 + 1) (fun x_30 => lp_about_107 n107 v1 v2 x_28 x_30 K107_141)) else pli (v3 + 0) (fun x_24 => pli (v4 + 1) (fun x_26 => lp_about_107 n107 v1 v2 x_24 x_26 K107_141))))))
def lp_about_185 : Nat → Int32 → Int32 → Int32 → Int32 → (Int32 → Int32 → Int32 → Int32 → PG (Int32)) → PG (Int32)
  | 0, _, _, _, _, _ => fun _ => none
  | n185 + 1, v1, v2, v3, v4, K185_225 => pcl (f_fights v1) (fun r_53 => (if r_53 ≤ v4 then K185_225 v1 v2 v3 v4 else prd 15 160 ((40 * v1) + v4) (fun x_57 => (if x_57 = 2 then pli (v3 + 1) (fun x_65 => pli (v4 + 1) (fun x_67 => lp_about_185 n185 v1 v2 x_65 x_67 K185_225)) else pli (v3 + 0) (fun x_61 => pli (v4 + 1) (fun x_63 => lp_about_185 n185 v1 v2 x_61 x_63 K185_225))))))
def lp_about_230 : Nat → Int32 → Int32 → Int32 → Int32 → (Int32 → Int32 → Int32 → Int32 → PG (Int32)) → PG (Int32)
  | 0, _, _, _, _, _ => fun _ => none
  | n230 + 1, v1, v2, v3, v4, K230_264 => pcl (f_fights v1) (fun r_70 => (if r_70 ≤ v4 then K230_264 v1 v2 v3 v4 else pcl (f_isWalk v1 v4) (fun r_74 => (if r_74 = 0 then pli (v3 + 0) (fun x_78 => pli (v4 + 1) (fun x_80 => lp_about_230 n230 v1 v2 x_78 x_80 K230_264)) else pli (v3 + 1) (fun x_82 => pli (v4 + 1) (fun x_84 => lp_about_230 n230 v1 v2 x_82 x_84 K230_264))))))
def f_about (a0 : Int32) (a1 : Int32) : PG (Int32) := pcl (f_isClass a0) (fun r_1 => (if r_1 = 0 then prt (-1) else prd 12 4 a0 (fun x_5 => (if x_5 = 0 then pcl (f_in a1.toInt64 100 ((99 : Int64) + (0 : Int64))) (fun r_89 => (if r_89 = 0 then (if a1 = 0 then lp_about_107 fuel a0 a1 0 0 (fun v1 v2 v3 v4 => prt v3) else if a1 = 1 then pcl (f_weighed a0) (fun r_110 => prt r_110) else if a1 = 2 then prd 12 4 a0 (fun x_114 => prt x_114) else if a1 = 3 then prd 12 4 a0 (fun x_118 => (if x_118 = 0 then prt (-1) else prd 13 4 a0 (fun x_122 => prt x_122))) else if a1 = 4 then pcl (f_fights a0) (fun r_126 => prt r_126) else if a1 = 5 then lp_about_185 fuel a0 a1 0 0 (fun v1 v2 v3 v4 => prt v3) else if a1 = 6 then lp_about_230 fuel a0 a1 0 0 (fun v1 v2 v3 v4 => prt v3) else prt (-1)) else prd 14 128 (((32 * a0) + a1) - 100) (fun x_163 => prt x_163))) else prd 13 4 a0 (fun x_9 => pcl (f_in a1.toInt64 100 ((99 : Int64) + (x_9.toInt64 : Int64))) (fun r_12 => (if r_12 = 0 then (if a1 = 0 then lp_about_107 fuel a0 a1 0 0 (fun v1 v2 v3 v4 => prt v3) else if a1 = 1 then pcl (f_weighed a0) (fun r_33 => prt r_33) else if a1 = 2 then prd 12 4 a0 (fun x_37 => prt x_37) else if a1 = 3 then prd 12 4 a0 (fun x_41 => (if x_41 = 0 then prt (-1) else prd 13 4 a0 (fun x_45 => prt x_45))) else if a1 = 4 then pcl (f_fights a0) (fun r_49 => prt r_49) else if a1 = 5 then lp_about_185 fuel a0 a1 0 0 (fun v1 v2 v3 v4 => prt v3) else if a1 = 6 then lp_about_230 fuel a0 a1 0 0 (fun v1 v2 v3 v4 => prt v3) else prt (-1)) else prd 14 128 (((32 * a0) + a1) - 100) (fun x_86 => prt x_86))))))))
set_option maxHeartbeats 4000000 in
set_option maxRecDepth 100000 in
theorem m_about (l : Launch) (G : gG) (Z : gM) (Q : Nat → Nat) (u u1 : GS) (r : Int32) (a0 : Int32) (a1 : Int32) (sz : Nat) (hF : f_about a0 a1 u = some (r, u1)) : Met l yX13_about (Cond.code yX13_about cX13_about 5 (some .int) :: wM) { frames := 310, cells := 0, slots := 0, locals := 3810 } (va_Pc [.ref (Q 72), .int a0, .int a1] (mPM G Z Q u.1 sz)) (mQi G Q u1.1 r sz) 0 0 (mA Q sz) := by
  refine Met.ofW (cc := cX13_about) (maxL := 5) (ret := (some .int)) (by decide) rfl ?_
  intro p e s m args below meth c s₁ B hml hv
  obtain ⟨rfl, rfl, hP, hB, hD, hE⟩ := hv
  have hr := B.returns
  have hlocks := B.notSynchronized
  have hts := atoms_spec (ws := Cond.code yX13_about cX13_about 5 (some .int) :: wM) B.pre
  have hC : mX p c cX13_about 5 s m _ G Z Q := ⟨B.exec, B.bytes, hml, findClass_of_methodNamed B.named, fun w h => hts w (List.mem_cons_of_mem _ h), hB, hE⟩
  have hx := hC.1
  have hb := hC.2.1
  have hH : mH G Q u.1 s s.heap [] := ⟨hP, hD, va_S.rf⟩
  have hl := lv_entry ([.ref (Q 72), .int a0, .int a1]) (n := 5) (Nat.le_of_ble_eq_true rfl)
  rw [lg_entry_eq]
  generalize (lg_sl ([.ref (Q 72), .int a0, .int a1]) ++ List.replicate (5 - (lg_sl ([.ref (Q 72), .int a0, .int a1])).length) Slot.unset).toArray = ls at hl ⊢
  have hl : lv_has ls 5 [(0, .ref (Q 72)), (1, .int a0), (2, .int a1)] := hl
  unfold f_about at hF
  refine lv_iload_n hx hb dX13_about_0 rfl (lv_at hl 1 rfl) ?_
  obtain ⟨r_1, u_2, h_3, hF⟩ := pcl_some hF
  refine mcS_i (As := [.int a0]) (rest := []) hC hH (m_isClass l G Z Q u u_2 r_1 a0 _ h_3) kwX13_isClass kVX13_isClass ⟨Nat.le_of_ble_eq_true rfl, Nat.le_of_ble_eq_true rfl⟩ rfl hl.1 rfl (Nat.le_of_ble_eq_true rfl) dX13_about_1 (fun H locs hH => ?_)
  refine lv_if_ne (tgt := 9) hx hb dX13_about_4 (by decide) (fun c_4 => ?_) (fun c_4 => ?_)
  · rw [if_neg c_4] at hF
    refine lv_iload_n hx hb dX13_about_9 rfl (lv_at hl 2 rfl) ?_
    refine lv_i2l (v := a1.toInt64) hx hb dX13_about_10 rfl ?_
    refine lv_ldc2 (v := 100) hx hb hC.2.2.2.1 (hC.2.2.2.2.1 _ wma148) dX13_about_11 ?_
    refine lv_ldc2 (v := 99) hx hb hC.2.2.2.1 (hC.2.2.2.2.1 _ wma149) dX13_about_14 ?_
    refine lv_aload_n hx hb dX13_about_17 rfl (lv_at hl 0 rfl) ?_
    refine mg_12 hC hH dX13_about_18 ?_
    refine lv_iload_n hx hb dX13_about_21 rfl (lv_at hl 1 rfl) ?_
    obtain ⟨x_5, g_6, e_7, hF⟩ := prd_some hF
    refine ml_12 hC hH g_6 dX13_about_22 ?_
    refine gx_ti e_7 ?_
    refine lv_if_ne (tgt := 30) hx hb dX13_about_23 (by decide) (fun c_8 => ?_) (fun c_8 => ?_)
    · rw [if_neg c_8] at hF
      refine lv_aload_n hx hb dX13_about_30 rfl (lv_at hl 0 rfl) ?_
      refine mg_13 hC hH dX13_about_31 ?_
      refine lv_iload_n hx hb dX13_about_34 rfl (lv_at hl 1 rfl) ?_
      obtain ⟨x_9, g_10, e_11, hF⟩ := prd_some hF
      refine ml_13 hC hH g_10 dX13_about_35 ?_
      refine gx_ti e_11 ?_
      refine lv_i2l (v := x_9.toInt64) hx hb dX13_about_36 rfl ?_
      refine lv_ladd hx hb dX13_about_37 ?_
      obtain ⟨r_12, u_13, h_14, hF⟩ := pcl_some hF
      refine mcS_i (As := [.long a1.toInt64, .long 100, .long ((99 : Int64) + (x_9.toInt64 : Int64))]) (rest := []) hC hH (m_in l G Z Q u_2 u_13 r_12 a1.toInt64 100 ((99 : Int64) + (x_9.toInt64 : Int64)) _ h_14) kwX13_in kVX13_in ⟨Nat.le_of_ble_eq_true rfl, Nat.le_of_ble_eq_true rfl⟩ rfl hl.1 rfl (Nat.le_of_ble_eq_true rfl) dX13_about_38 (fun H locs hH => ?_)
      refine lv_if_eq (tgt := 59) hx hb dX13_about_41 (by decide) (fun c_15 => ?_) (fun c_15 => ?_)
      · rw [if_pos c_15] at hF
        refine lv_iconst (v := 0) hx hb dX13_about_59 (by decide) ?_
        refine lv_istore_n (lv' := [(3, .int 0), (0, .ref (Q 72)), (1, .int a0), (2, .int a1)]) hx hb dX13_about_60 rfl hl (by decide) rfl (fun ls hl => ?_)
        refine lv_iload_n hx hb dX13_about_61 rfl (lv_at hl 3 rfl) ?_
        by_cases c_16 : a1 = 0
        · rw [if_pos c_16] at hF
          refine gx_ti (y := 0) c_16 ?_
          refine lv_tableIn (off := 42) (tgt := 104) hx hb dX13_about_62 (by decide) (by decide) rfl (by decide) ?_
          refine lv_iconst (v := 0) hx hb dX13_about_104 (by decide) ?_
          refine lv_istore (lv' := [(4, .int 0), (3, .int 0), (0, .ref (Q 72)), (1, .int a0), (2, .int a1)]) hx hb dX13_about_105 hl (by decide) rfl (fun ls hl => ?_)
          have hL107 : ∀ (K107_141 : Int32 → Int32 → Int32 → Int32 → PG (Int32)), (∀ (v1 v2 v3 v4 : Int32) (u : GS) (H : Heap) (locs : List Loc) (ls : Array Slot), lv_has ls 5 [(0, .ref (Q 72)), (1, .int v1), (2, .int v2), (3, .int v3), (4, .int v4)] → mH G Q u.1 s H locs → K107_141 v1 v2 v3 v4 u = some ((r, u1)) → W p l e (headSpec (Cond.code yX13_about cX13_about 5 (some .int) :: wM) { frames := 310, cells := 0, slots := 0, locals := 3810 }).room s m [.ref (Q 72), .int a0, .int a1].toArray below meth c H locs 0 0 (MQ below (mQi G Q u1.1 r s.heap.size) [.ref (Q 72), .int a0, .int a1].toArray s 0 0 (mA Q s.heap.size)) (F0 m 141 ls [])) → ∀ (n107 : Nat) (v1 v2 v3 v4 : Int32) (u : GS) (H : Heap) (locs : List Loc) (ls : Array Slot), lv_has ls 5 [(0, .ref (Q 72)), (1, .int v1), (2, .int v2), (3, .int v3), (4, .int v4)] → mH G Q u.1 s H locs → lp_about_107 n107 v1 v2 v3 v4 K107_141 u = some ((r, u1)) → W p l e (headSpec (Cond.code yX13_about cX13_about 5 (some .int) :: wM) { frames := 310, cells := 0, slots := 0, locals := 3810 }).room s m [.ref (Q 72), .int a0, .int a1].toArray below meth c H locs 0 0 (MQ below (mQi G Q u1.1 r s.heap.size) [.ref (Q 72), .int a0, .int a1].toArray s 0 0 (mA Q s.heap.size)) (F0 m 107 ls []) := by
            intro K107_141 hK107_141 n107
            induction n107 with
            | zero => intro v1 v2 v3 v4 u H locs ls hl hH hF; cases hF
            | succ n107 ih107 =>
              intro v1 v2 v3 v4 u H locs ls hl hH hF
              unfold lp_about_107 at hF
              refine lv_iload hx hb dX13_about_107 (lv_at hl 4 rfl) ?_
              refine lv_aload_n hx hb dX13_about_109 rfl (lv_at hl 0 rfl) ?_
              refine mg_2 hC hH dX13_about_110 ?_
              obtain ⟨x_17, e_18, hF⟩ := prf_some hF
              refine gx_ti e_18 ?_
              refine lv_icmp_ge (tgt := 141) hx hb dX13_about_113 (by decide) (fun c_19 => ?_) (fun c_19 => ?_)
              · rw [if_pos c_19] at hF
                exact hK107_141 v1 v2 v3 v4 u _ _ _ (lv_sub hl [0, 1, 2, 3, 4] rfl) hH hF
              · rw [if_neg c_19] at hF
                refine lv_iload_n hx hb dX13_about_116 rfl (lv_at hl 3 rfl) ?_
                refine lv_aload_n hx hb dX13_about_117 rfl (lv_at hl 0 rfl) ?_
                refine mg_5 hC hH dX13_about_118 ?_
                refine lv_iload hx hb dX13_about_121 (lv_at hl 4 rfl) ?_
                obtain ⟨x_20, g_21, e_22, hF⟩ := prd_some hF
                refine ml_5 hC hH g_21 dX13_about_123 ?_
                refine gx_ti e_22 ?_
                refine lv_iload_n hx hb dX13_about_124 rfl (lv_at hl 1 rfl) ?_
                refine lv_icmp_ne (tgt := 132) hx hb dX13_about_125 (by decide) (fun c_23 => ?_) (fun c_23 => ?_)
                · rw [if_neg c_23] at hF
                  refine lv_iconst (v := 0) hx hb dX13_about_132 (by decide) ?_
                  refine lv_iadd hx hb dX13_about_133 ?_
                  obtain ⟨x_24, e_25, hF⟩ := pli_some hF
                  refine gx_ti e_25 ?_
                  refine lv_istore_n (lv' := [(3, .int x_24), (0, .ref (Q 72)), (1, .int v1), (2, .int v2), (4, .int v4)]) hx hb dX13_about_134 rfl hl (by decide) rfl (fun ls hl => ?_)
                  obtain ⟨x_26, e_27, hF⟩ := pli_some hF
                  refine lv_iinc (v := x_26) (lv' := [(4, .int x_26), (3, .int x_24), (0, .ref (Q 72)), (1, .int v1), (2, .int v2)]) hx hb dX13_about_135 hl (k := 4) rfl e_27 (by decide) rfl (fun ls hl => ?_)
                  refine lv_goto (tgt := 107) hx hb dX13_about_138 (by decide) ?_
                  exact ih107 v1 v2 x_24 x_26 u _ _ _ (lv_sub hl [2, 3, 4, 1, 0] rfl) hH hF
                · rw [if_pos c_23] at hF
                  refine lv_iconst (v := 1) hx hb dX13_about_128 (by decide) ?_
                  refine lv_goto (tgt := 133) hx hb dX13_about_129 (by decide) ?_
                  refine lv_iadd hx hb dX13_about_133 ?_
                  obtain ⟨x_28, e_29, hF⟩ := pli_some hF
                  refine gx_ti e_29 ?_
                  refine lv_istore_n (lv' := [(3, .int x_28), (0, .ref (Q 72)), (1, .int v1), (2, .int v2), (4, .int v4)]) hx hb dX13_about_134 rfl hl (by decide) rfl (fun ls hl => ?_)
                  obtain ⟨x_30, e_31, hF⟩ := pli_some hF
                  refine lv_iinc (v := x_30) (lv' := [(4, .int x_30), (3, .int x_28), (0, .ref (Q 72)), (1, .int v1), (2, .int v2)]) hx hb dX13_about_135 hl (k := 4) rfl e_31 (by decide) rfl (fun ls hl => ?_)
                  refine lv_goto (tgt := 107) hx hb dX13_about_138 (by decide) ?_
                  exact ih107 v1 v2 x_28 x_30 u _ _ _ (lv_sub hl [2, 3, 4, 1, 0] rfl) hH hF
          refine hL107 _ (fun v1 v2 v3 v4 u H locs ls hl hH hF => ?_) fuel a0 a1 0 0 u_13 _ _ _ (lv_sub hl [2, 3, 4, 1, 0] rfl) hH hF
          refine lv_iload_n hx hb dX13_about_141 rfl (lv_at hl 3 rfl) ?_
          have hF := prt_eq hF
          exact mr_i hC hH hr hF dX13_about_142 hlocks
        rw [if_neg c_16] at hF
        by_cases c_32 : a1 = 1
        · rw [if_pos c_32] at hF
          refine gx_ti (y := 1) c_32 ?_
          refine lv_tableIn (off := 81) (tgt := 143) hx hb dX13_about_62 (by decide) (by decide) rfl (by decide) ?_
          refine lv_aload_n hx hb dX13_about_143 rfl (lv_at hl 1 rfl) ?_
          refine lv_iload_n hx hb dX13_about_144 rfl (lv_at hl 2 rfl) ?_
          obtain ⟨r_33, u_34, h_35, hF⟩ := pcl_some hF
          refine mcV_i (As := [.int a0]) (rest := []) hC hH (m_weighed l G Z Q u_13 u_34 r_33 a0 _ h_35) kwX13_weighed kVX13_weighed ⟨Nat.le_of_ble_eq_true rfl, Nat.le_of_ble_eq_true rfl⟩ rfl hl.1 rfl (Nat.le_of_ble_eq_true rfl) dX13_about_145 (fun H locs hH => ?_)
          have hF := prt_eq hF
          exact mr_i hC hH hr hF dX13_about_148 hlocks
        rw [if_neg c_32] at hF
        by_cases c_36 : a1 = 2
        · rw [if_pos c_36] at hF
          refine gx_ti (y := 2) c_36 ?_
          refine lv_tableIn (off := 87) (tgt := 149) hx hb dX13_about_62 (by decide) (by decide) rfl (by decide) ?_
          refine lv_aload_n hx hb dX13_about_149 rfl (lv_at hl 1 rfl) ?_
          refine mg_12 hC hH dX13_about_150 ?_
          refine lv_iload_n hx hb dX13_about_153 rfl (lv_at hl 2 rfl) ?_
          obtain ⟨x_37, g_38, e_39, hF⟩ := prd_some hF
          refine ml_12 hC hH g_38 dX13_about_154 ?_
          refine gx_ti e_39 ?_
          have hF := prt_eq hF
          exact mr_i hC hH hr hF dX13_about_155 hlocks
        rw [if_neg c_36] at hF
        by_cases c_40 : a1 = 3
        · rw [if_pos c_40] at hF
          refine gx_ti (y := 3) c_40 ?_
          refine lv_tableIn (off := 94) (tgt := 156) hx hb dX13_about_62 (by decide) (by decide) rfl (by decide) ?_
          refine lv_aload_n hx hb dX13_about_156 rfl (lv_at hl 1 rfl) ?_
          refine mg_12 hC hH dX13_about_157 ?_
          refine lv_iload_n hx hb dX13_about_160 rfl (lv_at hl 2 rfl) ?_
          obtain ⟨x_41, g_42, e_43, hF⟩ := prd_some hF
          refine ml_12 hC hH g_42 dX13_about_161 ?_
          refine gx_ti e_43 ?_
          refine lv_if_ne (tgt := 169) hx hb dX13_about_162 (by decide) (fun c_44 => ?_) (fun c_44 => ?_)
          · rw [if_neg c_44] at hF
            refine lv_aload_n hx hb dX13_about_169 rfl (lv_at hl 1 rfl) ?_
            refine mg_13 hC hH dX13_about_170 ?_
            refine lv_iload_n hx hb dX13_about_173 rfl (lv_at hl 2 rfl) ?_
            obtain ⟨x_45, g_46, e_47, hF⟩ := prd_some hF
            refine ml_13 hC hH g_46 dX13_about_174 ?_
            refine gx_ti e_47 ?_
            have hF := prt_eq hF
            exact mr_i hC hH hr hF dX13_about_175 hlocks
          · rw [if_pos c_44] at hF
            refine lv_iconst (v := (-1)) hx hb dX13_about_165 (by decide) ?_
            refine lv_goto (tgt := 175) hx hb dX13_about_166 (by decide) ?_
            have hF := prt_eq hF
            exact mr_i hC hH hr hF dX13_about_175 hlocks
        rw [if_neg c_40] at hF
        by_cases c_48 : a1 = 4
        · rw [if_pos c_48] at hF
          refine gx_ti (y := 4) c_48 ?_
          refine lv_tableIn (off := 114) (tgt := 176) hx hb dX13_about_62 (by decide) (by decide) rfl (by decide) ?_
          refine lv_aload_n hx hb dX13_about_176 rfl (lv_at hl 1 rfl) ?_
          refine lv_iload_n hx hb dX13_about_177 rfl (lv_at hl 2 rfl) ?_
          obtain ⟨r_49, u_50, h_51, hF⟩ := pcl_some hF
          refine mcV_i (As := [.int a0]) (rest := []) hC hH (m_fights l G Z Q u_13 u_50 r_49 a0 _ h_51) kwX13_fights kVX13_fights ⟨Nat.le_of_ble_eq_true rfl, Nat.le_of_ble_eq_true rfl⟩ rfl hl.1 rfl (Nat.le_of_ble_eq_true rfl) dX13_about_178 (fun H locs hH => ?_)
          have hF := prt_eq hF
          exact mr_i hC hH hr hF dX13_about_181 hlocks
        rw [if_neg c_48] at hF
        by_cases c_52 : a1 = 5
        · rw [if_pos c_52] at hF
          refine gx_ti (y := 5) c_52 ?_
          refine lv_tableIn (off := 120) (tgt := 182) hx hb dX13_about_62 (by decide) (by decide) rfl (by decide) ?_
          refine lv_iconst (v := 0) hx hb dX13_about_182 (by decide) ?_
          refine lv_istore (lv' := [(4, .int 0), (3, .int 0), (0, .ref (Q 72)), (1, .int a0), (2, .int a1)]) hx hb dX13_about_183 hl (by decide) rfl (fun ls hl => ?_)
          have hL185 : ∀ (K185_225 : Int32 → Int32 → Int32 → Int32 → PG (Int32)), (∀ (v1 v2 v3 v4 : Int32) (u : GS) (H : Heap) (locs : List Loc) (ls : Array Slot), lv_has ls 5 [(0, .ref (Q 72)), (1, .int v1), (2, .int v2), (3, .int v3), (4, .int v4)] → mH G Q u.1 s H locs → K185_225 v1 v2 v3 v4 u = some ((r, u1)) → W p l e (headSpec (Cond.code yX13_about cX13_about 5 (some .int) :: wM) { frames := 310, cells := 0, slots := 0, locals := 3810 }).room s m [.ref (Q 72), .int a0, .int a1].toArray below meth c H locs 0 0 (MQ below (mQi G Q u1.1 r s.heap.size) [.ref (Q 72), .int a0, .int a1].toArray s 0 0 (mA Q s.heap.size)) (F0 m 225 ls [])) → ∀ (n185 : Nat) (v1 v2 v3 v4 : Int32) (u : GS) (H : Heap) (locs : List Loc) (ls : Array Slot), lv_has ls 5 [(0, .ref (Q 72)), (1, .int v1), (2, .int v2), (3, .int v3), (4, .int v4)] → mH G Q u.1 s H locs → lp_about_185 n185 v1 v2 v3 v4 K185_225 u = some ((r, u1)) → W p l e (headSpec (Cond.code yX13_about cX13_about 5 (some .int) :: wM) { frames := 310, cells := 0, slots := 0, locals := 3810 }).room s m [.ref (Q 72), .int a0, .int a1].toArray below meth c H locs 0 0 (MQ below (mQi G Q u1.1 r s.heap.size) [.ref (Q 72), .int a0, .int a1].toArray s 0 0 (mA Q s.heap.size)) (F0 m 185 ls []) := by
            intro K185_225 hK185_225 n185
            induction n185 with
            | zero => intro v1 v2 v3 v4 u H locs ls hl hH hF; cases hF
            | succ n185 ih185 =>
              intro v1 v2 v3 v4 u H locs ls hl hH hF
              unfold lp_about_185 at hF
              refine lv_iload hx hb dX13_about_185 (lv_at hl 4 rfl) ?_
              refine lv_aload_n hx hb dX13_about_187 rfl (lv_at hl 0 rfl) ?_
              refine lv_iload_n hx hb dX13_about_188 rfl (lv_at hl 1 rfl) ?_
              obtain ⟨r_53, u_54, h_55, hF⟩ := pcl_some hF
              refine mcV_i (As := [.int v1]) (rest := [.int v4]) hC hH (m_fights l G Z Q u u_54 r_53 v1 _ h_55) kwX13_fights kVX13_fights ⟨Nat.le_of_ble_eq_true rfl, Nat.le_of_ble_eq_true rfl⟩ rfl hl.1 rfl (Nat.le_of_ble_eq_true rfl) dX13_about_189 (fun H locs hH => ?_)
              refine lv_icmp_ge (tgt := 225) hx hb dX13_about_192 (by decide) (fun c_56 => ?_) (fun c_56 => ?_)
              · rw [if_pos c_56] at hF
                exact hK185_225 v1 v2 v3 v4 u_54 _ _ _ (lv_sub hl [0, 1, 2, 3, 4] rfl) hH hF
              · rw [if_neg c_56] at hF
                refine lv_iload_n hx hb dX13_about_195 rfl (lv_at hl 3 rfl) ?_
                refine lv_aload_n hx hb dX13_about_196 rfl (lv_at hl 0 rfl) ?_
                refine mg_15 hC hH dX13_about_197 ?_
                refine lv_bipush (v := 40) hx hb dX13_about_200 (by decide) ?_
                refine lv_iload_n hx hb dX13_about_202 rfl (lv_at hl 1 rfl) ?_
                refine lv_imul hx hb dX13_about_203 ?_
                refine lv_iload hx hb dX13_about_204 (lv_at hl 4 rfl) ?_
                refine lv_iadd hx hb dX13_about_206 ?_
                obtain ⟨x_57, g_58, e_59, hF⟩ := prd_some hF
                refine ml_15 hC hH g_58 dX13_about_207 ?_
                refine gx_ti e_59 ?_
                refine lv_iconst (v := 2) hx hb dX13_about_208 (by decide) ?_
                refine lv_icmp_ne (tgt := 216) hx hb dX13_about_209 (by decide) (fun c_60 => ?_) (fun c_60 => ?_)
                · rw [if_neg c_60] at hF
                  refine lv_iconst (v := 0) hx hb dX13_about_216 (by decide) ?_
                  refine lv_iadd hx hb dX13_about_217 ?_
                  obtain ⟨x_61, e_62, hF⟩ := pli_some hF
                  refine gx_ti e_62 ?_
                  refine lv_istore_n (lv' := [(3, .int x_61), (0, .ref (Q 72)), (1, .int v1), (2, .int v2), (4, .int v4)]) hx hb dX13_about_218 rfl hl (by decide) rfl (fun ls hl => ?_)
                  obtain ⟨x_63, e_64, hF⟩ := pli_some hF
                  refine lv_iinc (v := x_63) (lv' := [(4, .int x_63), (3, .int x_61), (0, .ref (Q 72)), (1, .int v1), (2, .int v2)]) hx hb dX13_about_219 hl (k := 4) rfl e_64 (by decide) rfl (fun ls hl => ?_)
                  refine lv_goto (tgt := 185) hx hb dX13_about_222 (by decide) ?_
                  exact ih185 v1 v2 x_61 x_63 u_54 _ _ _ (lv_sub hl [2, 3, 4, 1, 0] rfl) hH hF
                · rw [if_pos c_60] at hF
                  refine lv_iconst (v := 1) hx hb dX13_about_212 (by decide) ?_
                  refine lv_goto (tgt := 217) hx hb dX13_about_213 (by decide) ?_
                  refine lv_iadd hx hb dX13_about_217 ?_
                  obtain ⟨x_65, e_66, hF⟩ := pli_some hF
                  refine gx_ti e_66 ?_
                  refine lv_istore_n (lv' := [(3, .int x_65), (0, .ref (Q 72)), (1, .int v1), (2, .int v2), (4, .int v4)]) hx hb dX13_about_218 rfl hl (by decide) rfl (fun ls hl => ?_)
                  obtain ⟨x_67, e_68, hF⟩ := pli_some hF
                  refine lv_iinc (v := x_67) (lv' := [(4, .int x_67), (3, .int x_65), (0, .ref (Q 72)), (1, .int v1), (2, .int v2)]) hx hb dX13_about_219 hl (k := 4) rfl e_68 (by decide) rfl (fun ls hl => ?_)
                  refine lv_goto (tgt := 185) hx hb dX13_about_222 (by decide) ?_
                  exact ih185 v1 v2 x_65 x_67 u_54 _ _ _ (lv_sub hl [2, 3, 4, 1, 0] rfl) hH hF
          refine hL185 _ (fun v1 v2 v3 v4 u H locs ls hl hH hF => ?_) fuel a0 a1 0 0 u_13 _ _ _ (lv_sub hl [2, 3, 4, 1, 0] rfl) hH hF
          refine lv_iload_n hx hb dX13_about_225 rfl (lv_at hl 3 rfl) ?_
          have hF := prt_eq hF
          exact mr_i hC hH hr hF dX13_about_226 hlocks
        rw [if_neg c_52] at hF
        by_cases c_69 : a1 = 6
        · rw [if_pos c_69] at hF
          refine gx_ti (y := 6) c_69 ?_
          refine lv_tableIn (off := 165) (tgt := 227) hx hb dX13_about_62 (by decide) (by decide) rfl (by decide) ?_
          refine lv_iconst (v := 0) hx hb dX13_about_227 (by decide) ?_
          refine lv_istore (lv' := [(4, .int 0), (3, .int 0), (0, .ref (Q 72)), (1, .int a0), (2, .int a1)]) hx hb dX13_about_228 hl (by decide) rfl (fun ls hl => ?_)
          have hL230 : ∀ (K230_264 : Int32 → Int32 → Int32 → Int32 → PG (Int32)), (∀ (v1 v2 v3 v4 : Int32) (u : GS) (H : Heap) (locs : List Loc) (ls : Array Slot), lv_has ls 5 [(0, .ref (Q 72)), (1, .int v1), (2, .int v2), (3, .int v3), (4, .int v4)] → mH G Q u.1 s H locs → K230_264 v1 v2 v3 v4 u = some ((r, u1)) → W p l e (headSpec (Cond.code yX13_about cX13_about 5 (some .int) :: wM) { frames := 310, cells := 0, slots := 0, locals := 3810 }).room s m [.ref (Q 72), .int a0, .int a1].toArray below meth c H locs 0 0 (MQ below (mQi G Q u1.1 r s.heap.size) [.ref (Q 72), .int a0, .int a1].toArray s 0 0 (mA Q s.heap.size)) (F0 m 264 ls [])) → ∀ (n230 : Nat) (v1 v2 v3 v4 : Int32) (u : GS) (H : Heap) (locs : List Loc) (ls : Array Slot), lv_has ls 5 [(0, .ref (Q 72)), (1, .int v1), (2, .int v2), (3, .int v3), (4, .int v4)] → mH G Q u.1 s H locs → lp_about_230 n230 v1 v2 v3 v4 K230_264 u = some ((r, u1)) → W p l e (headSpec (Cond.code yX13_about cX13_about 5 (some .int) :: wM) { frames := 310, cells := 0, slots := 0, locals := 3810 }).room s m [.ref (Q 72), .int a0, .int a1].toArray below meth c H locs 0 0 (MQ below (mQi G Q u1.1 r s.heap.size) [.ref (Q 72), .int a0, .int a1].toArray s 0 0 (mA Q s.heap.size)) (F0 m 230 ls []) := by
            intro K230_264 hK230_264 n230
            induction n230 with
            | zero => intro v1 v2 v3 v4 u H locs ls hl hH hF; cases hF
            | succ n230 ih230 =>
              intro v1 v2 v3 v4 u H locs ls hl hH hF
              unfold lp_about_230 at hF
              refine lv_iload hx hb dX13_about_230 (lv_at hl 4 rfl) ?_
              refine lv_aload_n hx hb dX13_about_232 rfl (lv_at hl 0 rfl) ?_
              refine lv_iload_n hx hb dX13_about_233 rfl (lv_at hl 1 rfl) ?_
              obtain ⟨r_70, u_71, h_72, hF⟩ := pcl_some hF
              refine mcV_i (As := [.int v1]) (rest := [.int v4]) hC hH (m_fights l G Z Q u u_71 r_70 v1 _ h_72) kwX13_fights kVX13_fights ⟨Nat.le_of_ble_eq_true rfl, Nat.le_of_ble_eq_true rfl⟩ rfl hl.1 rfl (Nat.le_of_ble_eq_true rfl) dX13_about_234 (fun H locs hH => ?_)
              refine lv_icmp_ge (tgt := 264) hx hb dX13_about_237 (by decide) (fun c_73 => ?_) (fun c_73 => ?_)
              · rw [if_pos c_73] at hF
                exact hK230_264 v1 v2 v3 v4 u_71 _ _ _ (lv_sub hl [0, 1, 2, 3, 4] rfl) hH hF
              · rw [if_neg c_73] at hF
                refine lv_iload_n hx hb dX13_about_240 rfl (lv_at hl 3 rfl) ?_
                refine lv_aload_n hx hb dX13_about_241 rfl (lv_at hl 0 rfl) ?_
                refine lv_iload_n hx hb dX13_about_242 rfl (lv_at hl 1 rfl) ?_
                refine lv_iload hx hb dX13_about_243 (lv_at hl 4 rfl) ?_
                obtain ⟨r_74, u_75, h_76, hF⟩ := pcl_some hF
                refine mcV_i (As := [.int v1, .int v4]) (rest := [.int v3]) hC hH (m_isWalk l G Z Q u_71 u_75 r_74 v1 v4 _ h_76) kwX13_isWalk kVX13_isWalk ⟨Nat.le_of_ble_eq_true rfl, Nat.le_of_ble_eq_true rfl⟩ rfl hl.1 rfl (Nat.le_of_ble_eq_true rfl) dX13_about_245 (fun H locs hH => ?_)
                refine lv_if_eq (tgt := 255) hx hb dX13_about_248 (by decide) (fun c_77 => ?_) (fun c_77 => ?_)
                · rw [if_pos c_77] at hF
                  refine lv_iconst (v := 0) hx hb dX13_about_255 (by decide) ?_
                  refine lv_iadd hx hb dX13_about_256 ?_
                  obtain ⟨x_78, e_79, hF⟩ := pli_some hF
                  refine gx_ti e_79 ?_
                  refine lv_istore_n (lv' := [(3, .int x_78), (0, .ref (Q 72)), (1, .int v1), (2, .int v2), (4, .int v4)]) hx hb dX13_about_257 rfl hl (by decide) rfl (fun ls hl => ?_)
                  obtain ⟨x_80, e_81, hF⟩ := pli_some hF
                  refine lv_iinc (v := x_80) (lv' := [(4, .int x_80), (3, .int x_78), (0, .ref (Q 72)), (1, .int v1), (2, .int v2)]) hx hb dX13_about_258 hl (k := 4) rfl e_81 (by decide) rfl (fun ls hl => ?_)
                  refine lv_goto (tgt := 230) hx hb dX13_about_261 (by decide) ?_
                  exact ih230 v1 v2 x_78 x_80 u_75 _ _ _ (lv_sub hl [2, 3, 4, 1, 0] rfl) hH hF
                · rw [if_neg c_77] at hF
                  refine lv_iconst (v := 1) hx hb dX13_about_251 (by decide) ?_
                  refine lv_goto (tgt := 256) hx hb dX13_about_252 (by decide) ?_
                  refine lv_iadd hx hb dX13_about_256 ?_
                  obtain ⟨x_82, e_83, hF⟩ := pli_some hF
                  refine gx_ti e_83 ?_
                  refine lv_istore_n (lv' := [(3, .int x_82), (0, .ref (Q 72)), (1, .int v1), (2, .int v2), (4, .int v4)]) hx hb dX13_about_257 rfl hl (by decide) rfl (fun ls hl => ?_)
                  obtain ⟨x_84, e_85, hF⟩ := pli_some hF
                  refine lv_iinc (v := x_84) (lv' := [(4, .int x_84), (3, .int x_82), (0, .ref (Q 72)), (1, .int v1), (2, .int v2)]) hx hb dX13_about_258 hl (k := 4) rfl e_85 (by decide) rfl (fun ls hl => ?_)
                  refine lv_goto (tgt := 230) hx hb dX13_about_261 (by decide) ?_
                  exact ih230 v1 v2 x_82 x_84 u_75 _ _ _ (lv_sub hl [2, 3, 4, 1, 0] rfl) hH hF
          refine hL230 _ (fun v1 v2 v3 v4 u H locs ls hl hH hF => ?_) fuel a0 a1 0 0 u_13 _ _ _ (lv_sub hl [2, 3, 4, 1, 0] rfl) hH hF
          refine lv_iload_n hx hb dX13_about_264 rfl (lv_at hl 3 rfl) ?_
          have hF := prt_eq hF
          exact mr_i hC hH hr hF dX13_about_265 hlocks
        rw [if_neg c_69] at hF
        refine lv_tableOut (tgt := 266) hx hb dX13_about_62 (by have q0 := gl_ne c_16 (a := 0) (by decide); have q1 := gl_ne c_32 (a := 1) (by decide); have q2 := gl_ne c_36 (a := 2) (by decide); have q3 := gl_ne c_40 (a := 3) (by decide); have q4 := gl_ne c_48 (a := 4) (by decide); have q5 := gl_ne c_52 (a := 5) (by decide); have q6 := gl_ne c_69 (a := 6) (by decide); omega) (by decide) ?_
        refine lv_iconst (v := (-1)) hx hb dX13_about_266 (by decide) ?_
        have hF := prt_eq hF
        exact mr_i hC hH hr hF dX13_about_267 hlocks
      · rw [if_neg c_15] at hF
        refine lv_aload_n hx hb dX13_about_44 rfl (lv_at hl 0 rfl) ?_
        refine mg_14 hC hH dX13_about_45 ?_
        refine lv_bipush (v := 32) hx hb dX13_about_48 (by decide) ?_
        refine lv_iload_n hx hb dX13_about_50 rfl (lv_at hl 1 rfl) ?_
        refine lv_imul hx hb dX13_about_51 ?_
        refine lv_iload_n hx hb dX13_about_52 rfl (lv_at hl 2 rfl) ?_
        refine lv_iadd hx hb dX13_about_53 ?_
        refine lv_bipush (v := 100) hx hb dX13_about_54 (by decide) ?_
        refine lv_isub hx hb dX13_about_56 ?_
        obtain ⟨x_86, g_87, e_88, hF⟩ := prd_some hF
        refine ml_14 hC hH g_87 dX13_about_57 ?_
        refine gx_ti e_88 ?_
        have hF := prt_eq hF
        exact mr_i hC hH hr hF dX13_about_58 hlocks
    · rw [if_pos c_8] at hF
      refine lv_iconst (v := 0) hx hb dX13_about_26 (by decide) ?_
      refine lv_goto (tgt := 36) hx hb dX13_about_27 (by decide) ?_
      refine lv_i2l (v := 0) hx hb dX13_about_36 (by decide) ?_
      refine lv_ladd hx hb dX13_about_37 ?_
      obtain ⟨r_89, u_90, h_91, hF⟩ := pcl_some hF
      refine mcS_i (As := [.long a1.toInt64, .long 100, .long ((99 : Int64) + (0 : Int64))]) (rest := []) hC hH (m_in l G Z Q u_2 u_90 r_89 a1.toInt64 100 ((99 : Int64) + (0 : Int64)) _ h_91) kwX13_in kVX13_in ⟨Nat.le_of_ble_eq_true rfl, Nat.le_of_ble_eq_true rfl⟩ rfl hl.1 rfl (Nat.le_of_ble_eq_true rfl) dX13_about_38 (fun H locs hH => ?_)
      refine lv_if_eq (tgt := 59) hx hb dX13_about_41 (by decide) (fun c_92 => ?_) (fun c_92 => ?_)
      · rw [if_pos c_92] at hF
        refine lv_iconst (v := 0) hx hb dX13_about_59 (by decide) ?_
        refine lv_istore_n (lv' := [(3, .int 0), (0, .ref (Q 72)), (1, .int a0), (2, .int a1)]) hx hb dX13_about_60 rfl hl (by decide) rfl (fun ls hl => ?_)
        refine lv_iload_n hx hb dX13_about_61 rfl (lv_at hl 3 rfl) ?_
        by_cases c_93 : a1 = 0
        · rw [if_pos c_93] at hF
          refine gx_ti (y := 0) c_93 ?_
          refine lv_tableIn (off := 42) (tgt := 104) hx hb dX13_about_62 (by decide) (by decide) rfl (by decide) ?_
          refine lv_iconst (v := 0) hx hb dX13_about_104 (by decide) ?_
          refine lv_istore (lv' := [(4, .int 0), (3, .int 0), (0, .ref (Q 72)), (1, .int a0), (2, .int a1)]) hx hb dX13_about_105 hl (by decide) rfl (fun ls hl => ?_)
          have hL107 : ∀ (K107_141 : Int32 → Int32 → Int32 → Int32 → PG (Int32)), (∀ (v1 v2 v3 v4 : Int32) (u : GS) (H : Heap) (locs : List Loc) (ls : Array Slot), lv_has ls 5 [(0, .ref (Q 72)), (1, .int v1), (2, .int v2), (3, .int v3), (4, .int v4)] → mH G Q u.1 s H locs → K107_141 v1 v2 v3 v4 u = some ((r, u1)) → W p l e (headSpec (Cond.code yX13_about cX13_about 5 (some .int) :: wM) { frames := 310, cells := 0, slots := 0, locals := 3810 }).room s m [.ref (Q 72), .int a0, .int a1].toArray below meth c H locs 0 0 (MQ below (mQi G Q u1.1 r s.heap.size) [.ref (Q 72), .int a0, .int a1].toArray s 0 0 (mA Q s.heap.size)) (F0 m 141 ls [])) → ∀ (n107 : Nat) (v1 v2 v3 v4 : Int32) (u : GS) (H : Heap) (locs : List Loc) (ls : Array Slot), lv_has ls 5 [(0, .ref (Q 72)), (1, .int v1), (2, .int v2), (3, .int v3), (4, .int v4)] → mH G Q u.1 s H locs → lp_about_107 n107 v1 v2 v3 v4 K107_141 u = some ((r, u1)) → W p l e (headSpec (Cond.code yX13_about cX13_about 5 (some .int) :: wM) { frames := 310, cells := 0, slots := 0, locals := 3810 }).room s m [.ref (Q 72), .int a0, .int a1].toArray below meth c H locs 0 0 (MQ below (mQi G Q u1.1 r s.heap.size) [.ref (Q 72), .int a0, .int a1].toArray s 0 0 (mA Q s.heap.size)) (F0 m 107 ls []) := by
            intro K107_141 hK107_141 n107
            induction n107 with
            | zero => intro v1 v2 v3 v4 u H locs ls hl hH hF; cases hF
            | succ n107 ih107 =>
              intro v1 v2 v3 v4 u H locs ls hl hH hF
              unfold lp_about_107 at hF
              refine lv_iload hx hb dX13_about_107 (lv_at hl 4 rfl) ?_
              refine lv_aload_n hx hb dX13_about_109 rfl (lv_at hl 0 rfl) ?_
              refine mg_2 hC hH dX13_about_110 ?_
              obtain ⟨x_94, e_95, hF⟩ := prf_some hF
              refine gx_ti e_95 ?_
              refine lv_icmp_ge (tgt := 141) hx hb dX13_about_113 (by decide) (fun c_96 => ?_) (fun c_96 => ?_)
              · rw [if_pos c_96] at hF
                exact hK107_141 v1 v2 v3 v4 u _ _ _ (lv_sub hl [0, 1, 2, 3, 4] rfl) hH hF
              · rw [if_neg c_96] at hF
                refine lv_iload_n hx hb dX13_about_116 rfl (lv_at hl 3 rfl) ?_
                refine lv_aload_n hx hb dX13_about_117 rfl (lv_at hl 0 rfl) ?_
                refine mg_5 hC hH dX13_about_118 ?_
                refine lv_iload hx hb dX13_about_121 (lv_at hl 4 rfl) ?_
                obtain ⟨x_97, g_98, e_99, hF⟩ := prd_some hF
                refine ml_5 hC hH g_98 dX13_about_123 ?_
                refine gx_ti e_99 ?_
                refine lv_iload_n hx hb dX13_about_124 rfl (lv_at hl 1 rfl) ?_
                refine lv_icmp_ne (tgt := 132) hx hb dX13_about_125 (by decide) (fun c_100 => ?_) (fun c_100 => ?_)
                · rw [if_neg c_100] at hF
                  refine lv_iconst (v := 0) hx hb dX13_about_132 (by decide) ?_
                  refine lv_iadd hx hb dX13_about_133 ?_
                  obtain ⟨x_101, e_102, hF⟩ := pli_some hF
                  refine gx_ti e_102 ?_
                  refine lv_istore_n (lv' := [(3, .int x_101), (0, .ref (Q 72)), (1, .int v1), (2, .int v2), (4, .int v4)]) hx hb dX13_about_134 rfl hl (by decide) rfl (fun ls hl => ?_)
                  obtain ⟨x_103, e_104, hF⟩ := pli_some hF
                  refine lv_iinc (v := x_103) (lv' := [(4, .int x_103), (3, .int x_101), (0, .ref (Q 72)), (1, .int v1), (2, .int v2)]) hx hb dX13_about_135 hl (k := 4) rfl e_104 (by decide) rfl (fun ls hl => ?_)
                  refine lv_goto (tgt := 107) hx hb dX13_about_138 (by decide) ?_
                  exact ih107 v1 v2 x_101 x_103 u _ _ _ (lv_sub hl [2, 3, 4, 1, 0] rfl) hH hF
                · rw [if_pos c_100] at hF
                  refine lv_iconst (v := 1) hx hb dX13_about_128 (by decide) ?_
                  refine lv_goto (tgt := 133) hx hb dX13_about_129 (by decide) ?_
                  refine lv_iadd hx hb dX13_about_133 ?_
                  obtain ⟨x_105, e_106, hF⟩ := pli_some hF
                  refine gx_ti e_106 ?_
                  refine lv_istore_n (lv' := [(3, .int x_105), (0, .ref (Q 72)), (1, .int v1), (2, .int v2), (4, .int v4)]) hx hb dX13_about_134 rfl hl (by decide) rfl (fun ls hl => ?_)
                  obtain ⟨x_107, e_108, hF⟩ := pli_some hF
                  refine lv_iinc (v := x_107) (lv' := [(4, .int x_107), (3, .int x_105), (0, .ref (Q 72)), (1, .int v1), (2, .int v2)]) hx hb dX13_about_135 hl (k := 4) rfl e_108 (by decide) rfl (fun ls hl => ?_)
                  refine lv_goto (tgt := 107) hx hb dX13_about_138 (by decide) ?_
                  exact ih107 v1 v2 x_105 x_107 u _ _ _ (lv_sub hl [2, 3, 4, 1, 0] rfl) hH hF
          refine hL107 _ (fun v1 v2 v3 v4 u H locs ls hl hH hF => ?_) fuel a0 a1 0 0 u_90 _ _ _ (lv_sub hl [2, 3, 4, 1, 0] rfl) hH hF
          refine lv_iload_n hx hb dX13_about_141 rfl (lv_at hl 3 rfl) ?_
          have hF := prt_eq hF
          exact mr_i hC hH hr hF dX13_about_142 hlocks
        rw [if_neg c_93] at hF
        by_cases c_109 : a1 = 1
        · rw [if_pos c_109] at hF
          refine gx_ti (y := 1) c_109 ?_
          refine lv_tableIn (off := 81) (tgt := 143) hx hb dX13_about_62 (by decide) (by decide) rfl (by decide) ?_
          refine lv_aload_n hx hb dX13_about_143 rfl (lv_at hl 1 rfl) ?_
          refine lv_iload_n hx hb dX13_about_144 rfl (lv_at hl 2 rfl) ?_
          obtain ⟨r_110, u_111, h_112, hF⟩ := pcl_some hF
          refine mcV_i (As := [.int a0]) (rest := []) hC hH (m_weighed l G Z Q u_90 u_111 r_110 a0 _ h_112) kwX13_weighed kVX13_weighed ⟨Nat.le_of_ble_eq_true rfl, Nat.le_of_ble_eq_true rfl⟩ rfl hl.1 rfl (Nat.le_of_ble_eq_true rfl) dX13_about_145 (fun H locs hH => ?_)
          have hF := prt_eq hF
          exact mr_i hC hH hr hF dX13_about_148 hlocks
        rw [if_neg c_109] at hF
        by_cases c_113 : a1 = 2
        · rw [if_pos c_113] at hF
          refine gx_ti (y := 2) c_113 ?_
          refine lv_tableIn (off := 87) (tgt := 149) hx hb dX13_about_62 (by decide) (by decide) rfl (by decide) ?_
          refine lv_aload_n hx hb dX13_about_149 rfl (lv_at hl 1 rfl) ?_
          refine mg_12 hC hH dX13_about_150 ?_
          refine lv_iload_n hx hb dX13_about_153 rfl (lv_at hl 2 rfl) ?_
          obtain ⟨x_114, g_115, e_116, hF⟩ := prd_some hF
          refine ml_12 hC hH g_115 dX13_about_154 ?_
          refine gx_ti e_116 ?_
          have hF := prt_eq hF
          exact mr_i hC hH hr hF dX13_about_155 hlocks
        rw [if_neg c_113] at hF
        by_cases c_117 : a1 = 3
        · rw [if_pos c_117] at hF
          refine gx_ti (y := 3) c_117 ?_
          refine lv_tableIn (off := 94) (tgt := 156) hx hb dX13_about_62 (by decide) (by decide) rfl (by decide) ?_
          refine lv_aload_n hx hb dX13_about_156 rfl (lv_at hl 1 rfl) ?_
          refine mg_12 hC hH dX13_about_157 ?_
          refine lv_iload_n hx hb dX13_about_160 rfl (lv_at hl 2 rfl) ?_
          obtain ⟨x_118, g_119, e_120, hF⟩ := prd_some hF
          refine ml_12 hC hH g_119 dX13_about_161 ?_
          refine gx_ti e_120 ?_
          refine lv_if_ne (tgt := 169) hx hb dX13_about_162 (by decide) (fun c_121 => ?_) (fun c_121 => ?_)
          · rw [if_neg c_121] at hF
            refine lv_aload_n hx hb dX13_about_169 rfl (lv_at hl 1 rfl) ?_
            refine mg_13 hC hH dX13_about_170 ?_
            refine lv_iload_n hx hb dX13_about_173 rfl (lv_at hl 2 rfl) ?_
            obtain ⟨x_122, g_123, e_124, hF⟩ := prd_some hF
            refine ml_13 hC hH g_123 dX13_about_174 ?_
            refine gx_ti e_124 ?_
            have hF := prt_eq hF
            exact mr_i hC hH hr hF dX13_about_175 hlocks
          · rw [if_pos c_121] at hF
            refine lv_iconst (v := (-1)) hx hb dX13_about_165 (by decide) ?_
            refine lv_goto (tgt := 175) hx hb dX13_about_166 (by decide) ?_
            have hF := prt_eq hF
            exact mr_i hC hH hr hF dX13_about_175 hlocks
        rw [if_neg c_117] at hF
        by_cases c_125 : a1 = 4
        · rw [if_pos c_125] at hF
          refine gx_ti (y := 4) c_125 ?_
          refine lv_tableIn (off := 114) (tgt := 176) hx hb dX13_about_62 (by decide) (by decide) rfl (by decide) ?_
          refine lv_aload_n hx hb dX13_about_176 rfl (lv_at hl 1 rfl) ?_
          refine lv_iload_n hx hb dX13_about_177 rfl (lv_at hl 2 rfl) ?_
          obtain ⟨r_126, u_127, h_128, hF⟩ := pcl_some hF
          refine mcV_i (As := [.int a0]) (rest := []) hC hH (m_fights l G Z Q u_90 u_127 r_126 a0 _ h_128) kwX13_fights kVX13_fights ⟨Nat.le_of_ble_eq_true rfl, Nat.le_of_ble_eq_true rfl⟩ rfl hl.1 rfl (Nat.le_of_ble_eq_true rfl) dX13_about_178 (fun H locs hH => ?_)
          have hF := prt_eq hF
          exact mr_i hC hH hr hF dX13_about_181 hlocks
        rw [if_neg c_125] at hF
        by_cases c_129 : a1 = 5
        · rw [if_pos c_129] at hF
          refine gx_ti (y := 5) c_129 ?_
          refine lv_tableIn (off := 120) (tgt := 182) hx hb dX13_about_62 (by decide) (by decide) rfl (by decide) ?_
          refine lv_iconst (v := 0) hx hb dX13_about_182 (by decide) ?_
          refine lv_istore (lv' := [(4, .int 0), (3, .int 0), (0, .ref (Q 72)), (1, .int a0), (2, .int a1)]) hx hb dX13_about_183 hl (by decide) rfl (fun ls hl => ?_)
          have hL185 : ∀ (K185_225 : Int32 → Int32 → Int32 → Int32 → PG (Int32)), (∀ (v1 v2 v3 v4 : Int32) (u : GS) (H : Heap) (locs : List Loc) (ls : Array Slot), lv_has ls 5 [(0, .ref (Q 72)), (1, .int v1), (2, .int v2), (3, .int v3), (4, .int v4)] → mH G Q u.1 s H locs → K185_225 v1 v2 v3 v4 u = some ((r, u1)) → W p l e (headSpec (Cond.code yX13_about cX13_about 5 (some .int) :: wM) { frames := 310, cells := 0, slots := 0, locals := 3810 }).room s m [.ref (Q 72), .int a0, .int a1].toArray below meth c H locs 0 0 (MQ below (mQi G Q u1.1 r s.heap.size) [.ref (Q 72), .int a0, .int a1].toArray s 0 0 (mA Q s.heap.size)) (F0 m 225 ls [])) → ∀ (n185 : Nat) (v1 v2 v3 v4 : Int32) (u : GS) (H : Heap) (locs : List Loc) (ls : Array Slot), lv_has ls 5 [(0, .ref (Q 72)), (1, .int v1), (2, .int v2), (3, .int v3), (4, .int v4)] → mH G Q u.1 s H locs → lp_about_185 n185 v1 v2 v3 v4 K185_225 u = some ((r, u1)) → W p l e (headSpec (Cond.code yX13_about cX13_about 5 (some .int) :: wM) { frames := 310, cells := 0, slots := 0, locals := 3810 }).room s m [.ref (Q 72), .int a0, .int a1].toArray below meth c H locs 0 0 (MQ below (mQi G Q u1.1 r s.heap.size) [.ref (Q 72), .int a0, .int a1].toArray s 0 0 (mA Q s.heap.size)) (F0 m 185 ls []) := by
            intro K185_225 hK185_225 n185
            induction n185 with
            | zero => intro v1 v2 v3 v4 u H locs ls hl hH hF; cases hF
            | succ n185 ih185 =>
              intro v1 v2 v3 v4 u H locs ls hl hH hF
              unfold lp_about_185 at hF
              refine lv_iload hx hb dX13_about_185 (lv_at hl 4 rfl) ?_
              refine lv_aload_n hx hb dX13_about_187 rfl (lv_at hl 0 rfl) ?_
              refine lv_iload_n hx hb dX13_about_188 rfl (lv_at hl 1 rfl) ?_
              obtain ⟨r_130, u_131, h_132, hF⟩ := pcl_some hF
              refine mcV_i (As := [.int v1]) (rest := [.int v4]) hC hH (m_fights l G Z Q u u_131 r_130 v1 _ h_132) kwX13_fights kVX13_fights ⟨Nat.le_of_ble_eq_true rfl, Nat.le_of_ble_eq_true rfl⟩ rfl hl.1 rfl (Nat.le_of_ble_eq_true rfl) dX13_about_189 (fun H locs hH => ?_)
              refine lv_icmp_ge (tgt := 225) hx hb dX13_about_192 (by decide) (fun c_133 => ?_) (fun c_133 => ?_)
              · rw [if_pos c_133] at hF
                exact hK185_225 v1 v2 v3 v4 u_131 _ _ _ (lv_sub hl [0, 1, 2, 3, 4] rfl) hH hF
              · rw [if_neg c_133] at hF
                refine lv_iload_n hx hb dX13_about_195 rfl (lv_at hl 3 rfl) ?_
                refine lv_aload_n hx hb dX13_about_196 rfl (lv_at hl 0 rfl) ?_
                refine mg_15 hC hH dX13_about_197 ?_
                refine lv_bipush (v := 40) hx hb dX13_about_200 (by decide) ?_
                refine lv_iload_n hx hb dX13_about_202 rfl (lv_at hl 1 rfl) ?_
                refine lv_imul hx hb dX13_about_203 ?_
                refine lv_iload hx hb dX13_about_204 (lv_at hl 4 rfl) ?_
                refine lv_iadd hx hb dX13_about_206 ?_
                obtain ⟨x_134, g_135, e_136, hF⟩ := prd_some hF
                refine ml_15 hC hH g_135 dX13_about_207 ?_
                refine gx_ti e_136 ?_
                refine lv_iconst (v := 2) hx hb dX13_about_208 (by decide) ?_
                refine lv_icmp_ne (tgt := 216) hx hb dX13_about_209 (by decide) (fun c_137 => ?_) (fun c_137 => ?_)
                · rw [if_neg c_137] at hF
                  refine lv_iconst (v := 0) hx hb dX13_about_216 (by decide) ?_
                  refine lv_iadd hx hb dX13_about_217 ?_
                  obtain ⟨x_138, e_139, hF⟩ := pli_some hF
                  refine gx_ti e_139 ?_
                  refine lv_istore_n (lv' := [(3, .int x_138), (0, .ref (Q 72)), (1, .int v1), (2, .int v2), (4, .int v4)]) hx hb dX13_about_218 rfl hl (by decide) rfl (fun ls hl => ?_)
                  obtain ⟨x_140, e_141, hF⟩ := pli_some hF
                  refine lv_iinc (v := x_140) (lv' := [(4, .int x_140), (3, .int x_138), (0, .ref (Q 72)), (1, .int v1), (2, .int v2)]) hx hb dX13_about_219 hl (k := 4) rfl e_141 (by decide) rfl (fun ls hl => ?_)
                  refine lv_goto (tgt := 185) hx hb dX13_about_222 (by decide) ?_
                  exact ih185 v1 v2 x_138 x_140 u_131 _ _ _ (lv_sub hl [2, 3, 4, 1, 0] rfl) hH hF
                · rw [if_pos c_137] at hF
                  refine lv_iconst (v := 1) hx hb dX13_about_212 (by decide) ?_
                  refine lv_goto (tgt := 217) hx hb dX13_about_213 (by decide) ?_
                  refine lv_iadd hx hb dX13_about_217 ?_
                  obtain ⟨x_142, e_143, hF⟩ := pli_some hF
                  refine gx_ti e_143 ?_
                  refine lv_istore_n (lv' := [(3, .int x_142), (0, .ref (Q 72)), (1, .int v1), (2, .int v2), (4, .int v4)]) hx hb dX13_about_218 rfl hl (by decide) rfl (fun ls hl => ?_)
                  obtain ⟨x_144, e_145, hF⟩ := pli_some hF
                  refine lv_iinc (v := x_144) (lv' := [(4, .int x_144), (3, .int x_142), (0, .ref (Q 72)), (1, .int v1), (2, .int v2)]) hx hb dX13_about_219 hl (k := 4) rfl e_145 (by decide) rfl (fun ls hl => ?_)
                  refine lv_goto (tgt := 185) hx hb dX13_about_222 (by decide) ?_
                  exact ih185 v1 v2 x_142 x_144 u_131 _ _ _ (lv_sub hl [2, 3, 4, 1, 0] rfl) hH hF
          refine hL185 _ (fun v1 v2 v3 v4 u H locs ls hl hH hF => ?_) fuel a0 a1 0 0 u_90 _ _ _ (lv_sub hl [2, 3, 4, 1, 0] rfl) hH hF
          refine lv_iload_n hx hb dX13_about_225 rfl (lv_at hl 3 rfl) ?_
          have hF := prt_eq hF
          exact mr_i hC hH hr hF dX13_about_226 hlocks
        rw [if_neg c_129] at hF
        by_cases c_146 : a1 = 6
        · rw [if_pos c_146] at hF
          refine gx_ti (y := 6) c_146 ?_
          refine lv_tableIn (off := 165) (tgt := 227) hx hb dX13_about_62 (by decide) (by decide) rfl (by decide) ?_
          refine lv_iconst (v := 0) hx hb dX13_about_227 (by decide) ?_
          refine lv_istore (lv' := [(4, .int 0), (3, .int 0), (0, .ref (Q 72)), (1, .int a0), (2, .int a1)]) hx hb dX13_about_228 hl (by decide) rfl (fun ls hl => ?_)
          have hL230 : ∀ (K230_264 : Int32 → Int32 → Int32 → Int32 → PG (Int32)), (∀ (v1 v2 v3 v4 : Int32) (u : GS) (H : Heap) (locs : List Loc) (ls : Array Slot), lv_has ls 5 [(0, .ref (Q 72)), (1, .int v1), (2, .int v2), (3, .int v3), (4, .int v4)] → mH G Q u.1 s H locs → K230_264 v1 v2 v3 v4 u = some ((r, u1)) → W p l e (headSpec (Cond.code yX13_about cX13_about 5 (some .int) :: wM) { frames := 310, cells := 0, slots := 0, locals := 3810 }).room s m [.ref (Q 72), .int a0, .int a1].toArray below meth c H locs 0 0 (MQ below (mQi G Q u1.1 r s.heap.size) [.ref (Q 72), .int a0, .int a1].toArray s 0 0 (mA Q s.heap.size)) (F0 m 264 ls [])) → ∀ (n230 : Nat) (v1 v2 v3 v4 : Int32) (u : GS) (H : Heap) (locs : List Loc) (ls : Array Slot), lv_has ls 5 [(0, .ref (Q 72)), (1, .int v1), (2, .int v2), (3, .int v3), (4, .int v4)] → mH G Q u.1 s H locs → lp_about_230 n230 v1 v2 v3 v4 K230_264 u = some ((r, u1)) → W p l e (headSpec (Cond.code yX13_about cX13_about 5 (some .int) :: wM) { frames := 310, cells := 0, slots := 0, locals := 3810 }).room s m [.ref (Q 72), .int a0, .int a1].toArray below meth c H locs 0 0 (MQ below (mQi G Q u1.1 r s.heap.size) [.ref (Q 72), .int a0, .int a1].toArray s 0 0 (mA Q s.heap.size)) (F0 m 230 ls []) := by
            intro K230_264 hK230_264 n230
            induction n230 with
            | zero => intro v1 v2 v3 v4 u H locs ls hl hH hF; cases hF
            | succ n230 ih230 =>
              intro v1 v2 v3 v4 u H locs ls hl hH hF
              unfold lp_about_230 at hF
              refine lv_iload hx hb dX13_about_230 (lv_at hl 4 rfl) ?_
              refine lv_aload_n hx hb dX13_about_232 rfl (lv_at hl 0 rfl) ?_
              refine lv_iload_n hx hb dX13_about_233 rfl (lv_at hl 1 rfl) ?_
              obtain ⟨r_147, u_148, h_149, hF⟩ := pcl_some hF
              refine mcV_i (As := [.int v1]) (rest := [.int v4]) hC hH (m_fights l G Z Q u u_148 r_147 v1 _ h_149) kwX13_fights kVX13_fights ⟨Nat.le_of_ble_eq_true rfl, Nat.le_of_ble_eq_true rfl⟩ rfl hl.1 rfl (Nat.le_of_ble_eq_true rfl) dX13_about_234 (fun H locs hH => ?_)
              refine lv_icmp_ge (tgt := 264) hx hb dX13_about_237 (by decide) (fun c_150 => ?_) (fun c_150 => ?_)
              · rw [if_pos c_150] at hF
                exact hK230_264 v1 v2 v3 v4 u_148 _ _ _ (lv_sub hl [0, 1, 2, 3, 4] rfl) hH hF
              · rw [if_neg c_150] at hF
                refine lv_iload_n hx hb dX13_about_240 rfl (lv_at hl 3 rfl) ?_
                refine lv_aload_n hx hb dX13_about_241 rfl (lv_at hl 0 rfl) ?_
                refine lv_iload_n hx hb dX13_about_242 rfl (lv_at hl 1 rfl) ?_
                refine lv_iload hx hb dX13_about_243 (lv_at hl 4 rfl) ?_
                obtain ⟨r_151, u_152, h_153, hF⟩ := pcl_some hF
                refine mcV_i (As := [.int v1, .int v4]) (rest := [.int v3]) hC hH (m_isWalk l G Z Q u_148 u_152 r_151 v1 v4 _ h_153) kwX13_isWalk kVX13_isWalk ⟨Nat.le_of_ble_eq_true rfl, Nat.le_of_ble_eq_true rfl⟩ rfl hl.1 rfl (Nat.le_of_ble_eq_true rfl) dX13_about_245 (fun H locs hH => ?_)
                refine lv_if_eq (tgt := 255) hx hb dX13_about_248 (by decide) (fun c_154 => ?_) (fun c_154 => ?_)
                · rw [if_pos c_154] at hF
                  refine lv_iconst (v := 0) hx hb dX13_about_255 (by decide) ?_
                  refine lv_iadd hx hb dX13_about_256 ?_
                  obtain ⟨x_155, e_156, hF⟩ := pli_some hF
                  refine gx_ti e_156 ?_
                  refine lv_istore_n (lv' := [(3, .int x_155), (0, .ref (Q 72)), (1, .int v1), (2, .int v2), (4, .int v4)]) hx hb dX13_about_257 rfl hl (by decide) rfl (fun ls hl => ?_)
                  obtain ⟨x_157, e_158, hF⟩ := pli_some hF
                  refine lv_iinc (v := x_157) (lv' := [(4, .int x_157), (3, .int x_155), (0, .ref (Q 72)), (1, .int v1), (2, .int v2)]) hx hb dX13_about_258 hl (k := 4) rfl e_158 (by decide) rfl (fun ls hl => ?_)
                  refine lv_goto (tgt := 230) hx hb dX13_about_261 (by decide) ?_
                  exact ih230 v1 v2 x_155 x_157 u_152 _ _ _ (lv_sub hl [2, 3, 4, 1, 0] rfl) hH hF
                · rw [if_neg c_154] at hF
                  refine lv_iconst (v := 1) hx hb dX13_about_251 (by decide) ?_
                  refine lv_goto (tgt := 256) hx hb dX13_about_252 (by decide) ?_
                  refine lv_iadd hx hb dX13_about_256 ?_
                  obtain ⟨x_159, e_160, hF⟩ := pli_some hF
                  refine gx_ti e_160 ?_
                  refine lv_istore_n (lv' := [(3, .int x_159), (0, .ref (Q 72)), (1, .int v1), (2, .int v2), (4, .int v4)]) hx hb dX13_about_257 rfl hl (by decide) rfl (fun ls hl => ?_)
                  obtain ⟨x_161, e_162, hF⟩ := pli_some hF
                  refine lv_iinc (v := x_161) (lv' := [(4, .int x_161), (3, .int x_159), (0, .ref (Q 72)), (1, .int v1), (2, .int v2)]) hx hb dX13_about_258 hl (k := 4) rfl e_162 (by decide) rfl (fun ls hl => ?_)
                  refine lv_goto (tgt := 230) hx hb dX13_about_261 (by decide) ?_
                  exact ih230 v1 v2 x_159 x_161 u_152 _ _ _ (lv_sub hl [2, 3, 4, 1, 0] rfl) hH hF
          refine hL230 _ (fun v1 v2 v3 v4 u H locs ls hl hH hF => ?_) fuel a0 a1 0 0 u_90 _ _ _ (lv_sub hl [2, 3, 4, 1, 0] rfl) hH hF
          refine lv_iload_n hx hb dX13_about_264 rfl (lv_at hl 3 rfl) ?_
          have hF := prt_eq hF
          exact mr_i hC hH hr hF dX13_about_265 hlocks
        rw [if_neg c_146] at hF
        refine lv_tableOut (tgt := 266) hx hb dX13_about_62 (by have q0 := gl_ne c_93 (a := 0) (by decide); have q1 := gl_ne c_109 (a := 1) (by decide); have q2 := gl_ne c_113 (a := 2) (by decide); have q3 := gl_ne c_117 (a := 3) (by decide); have q4 := gl_ne c_125 (a := 4) (by decide); have q5 := gl_ne c_129 (a := 5) (by decide); have q6 := gl_ne c_146 (a := 6) (by decide); omega) (by decide) ?_
        refine lv_iconst (v := (-1)) hx hb dX13_about_266 (by decide) ?_
        have hF := prt_eq hF
        exact mr_i hC hH hr hF dX13_about_267 hlocks
      · rw [if_neg c_92] at hF
        refine lv_aload_n hx hb dX13_about_44 rfl (lv_at hl 0 rfl) ?_
        refine mg_14 hC hH dX13_about_45 ?_
        refine lv_bipush (v := 32) hx hb dX13_about_48 (by decide) ?_
        refine lv_iload_n hx hb dX13_about_50 rfl (lv_at hl 1 rfl) ?_
        refine lv_imul hx hb dX13_about_51 ?_
        refine lv_iload_n hx hb dX13_about_52 rfl (lv_at hl 2 rfl) ?_
        refine lv_iadd hx hb dX13_about_53 ?_
        refine lv_bipush (v := 100) hx hb dX13_about_54 (by decide) ?_
        refine lv_isub hx hb dX13_about_56 ?_
        obtain ⟨x_163, g_164, e_165, hF⟩ := prd_some hF
        refine ml_14 hC hH g_164 dX13_about_57 ?_
        refine gx_ti e_165 ?_
        have hF := prt_eq hF
        exact mr_i hC hH hr hF dX13_about_58 hlocks
  · rw [if_pos c_4] at hF
    refine lv_iconst (v := (-1)) hx hb dX13_about_7 (by decide) ?_
    have hF := prt_eq hF
    exact mr_i hC hH hr hF dX13_about_8 hlocks
def f_fight (a0 : Int32) (a1 : Int32) (a2 : Int32) : PG (Int32) := pcl (f_isFight a0 a1) (fun r_1 => (if r_1 = 0 then prt (-1) else pli ((40 * a0) + a1) (fun x_5 => prd 15 160 x_5 (fun x_7 => (if x_7 = 2 then (if a2 = 0 then pcl (fS 24 0 a0 a1 0 0) (fun r_57 => prt (if (-1) < r_57 then r_57 else (-1))) else if a2 = 1 then pcl (fS 24 0 a0 a1 1 0) (fun r_61 => prt (if (-1) < r_61 then r_61 else (-1))) else if a2 = 2 then pcl (fS 24 3 a0 a1 0 0) (fun r_65 => prt r_65) else if a2 = 3 then (if (1 : Int32) = 0 then prd 15 160 x_5 (fun x_70 => (if x_70 = 1 then prt 2 else pcl (f_isWalk a0 a1) (fun r_74 => (if r_74 = 0 then pcl (f_isReady a0 a1) (fun r_78 => (if r_78 = 0 then prt 0 else prt 1)) else prt 4)))) else prt 3) else if a2 = 4 then (if (1 : Int32) = 0 then prt (-1) else prd 19 160 x_5 (fun x_84 => prt x_84)) else if a2 = 5 then (if (1 : Int32) = 0 then prt 0 else prd 20 160 x_5 (fun x_89 => prt x_89)) else if a2 = 6 then pcl (f_matOf a0 a1) (fun r_93 => prt r_93) else if a2 = 7 then (if (1 : Int32) = 0 then prt (-1) else prd 21 160 x_5 (fun x_98 => prt x_98)) else prt (-1)) else (if a2 = 0 then pcl (fS 24 0 a0 a1 0 0) (fun r_12 => prt (if (-1) < r_12 then r_12 else (-1))) else if a2 = 1 then pcl (fS 24 0 a0 a1 1 0) (fun r_16 => prt (if (-1) < r_16 then r_16 else (-1))) else if a2 = 2 then pcl (fS 24 3 a0 a1 0 0) (fun r_20 => prt r_20) else if a2 = 3 then (if (0 : Int32) = 0 then prd 15 160 x_5 (fun x_25 => (if x_25 = 1 then prt 2 else pcl (f_isWalk a0 a1) (fun r_29 => (if r_29 = 0 then pcl (f_isReady a0 a1) (fun r_33 => (if r_33 = 0 then prt 0 else prt 1)) else prt 4)))) else prt 3) else if a2 = 4 then (if (0 : Int32) = 0 then prt (-1) else prd 19 160 x_5 (fun x_39 => prt x_39)) else if a2 = 5 then (if (0 : Int32) = 0 then prt 0 else prd 20 160 x_5 (fun x_44 => prt x_44)) else if a2 = 6 then pcl (f_matOf a0 a1) (fun r_48 => prt r_48) else if a2 = 7 then (if (0 : Int32) = 0 then prt (-1) else prd 21 160 x_5 (fun x_53 => prt x_53)) else prt (-1)))))))
set_option maxHeartbeats 4000000 in
set_option maxRecDepth 100000 in
theorem m_fight (l : Launch) (G : gG) (Z : gM) (Q : Nat → Nat) (u u1 : GS) (r : Int32) (a0 : Int32) (a1 : Int32) (a2 : Int32) (sz : Nat) (hF : f_fight a0 a1 a2 u = some (r, u1)) : Met l yX13_fight (Cond.code yX13_fight cX13_fight 6 (some .int) :: wM) { frames := 310, cells := 0, slots := 0, locals := 3810 } (va_Pc [.ref (Q 72), .int a0, .int a1, .int a2] (mPM G Z Q u.1 sz)) (mQi G Q u1.1 r sz) 0 0 (mA Q sz) := by
  refine Met.ofW (cc := cX13_fight) (maxL := 6) (ret := (some .int)) (by decide) rfl ?_
  intro p e s m args below meth c s₁ B hml hv
  obtain ⟨rfl, rfl, hP, hB, hD, hE⟩ := hv
  have hr := B.returns
  have hlocks := B.notSynchronized
  have hts := atoms_spec (ws := Cond.code yX13_fight cX13_fight 6 (some .int) :: wM) B.pre
  have hC : mX p c cX13_fight 6 s m _ G Z Q := ⟨B.exec, B.bytes, hml, findClass_of_methodNamed B.named, fun w h => hts w (List.mem_cons_of_mem _ h), hB, hE⟩
  have hx := hC.1
  have hb := hC.2.1
  have hH : mH G Q u.1 s s.heap [] := ⟨hP, hD, va_S.rf⟩
  have hl := lv_entry ([.ref (Q 72), .int a0, .int a1, .int a2]) (n := 6) (Nat.le_of_ble_eq_true rfl)
  rw [lg_entry_eq]
  generalize (lg_sl ([.ref (Q 72), .int a0, .int a1, .int a2]) ++ List.replicate (6 - (lg_sl ([.ref (Q 72), .int a0, .int a1, .int a2])).length) Slot.unset).toArray = ls at hl ⊢
  have hl : lv_has ls 6 [(0, .ref (Q 72)), (1, .int a0), (2, .int a1), (3, .int a2)] := hl
  unfold f_fight at hF
  refine lv_aload_n hx hb dX13_fight_0 rfl (lv_at hl 0 rfl) ?_
  refine lv_iload_n hx hb dX13_fight_1 rfl (lv_at hl 1 rfl) ?_
  refine lv_iload_n hx hb dX13_fight_2 rfl (lv_at hl 2 rfl) ?_
  obtain ⟨r_1, u_2, h_3, hF⟩ := pcl_some hF
  refine mcV_i (As := [.int a0, .int a1]) (rest := []) hC hH (m_isFight l G Z Q u u_2 r_1 a0 a1 _ h_3) kwX13_isFight kVX13_isFight ⟨Nat.le_of_ble_eq_true rfl, Nat.le_of_ble_eq_true rfl⟩ rfl hl.1 rfl (Nat.le_of_ble_eq_true rfl) dX13_fight_3 (fun H locs hH => ?_)
  refine lv_if_ne (tgt := 11) hx hb dX13_fight_6 (by decide) (fun c_4 => ?_) (fun c_4 => ?_)
  · rw [if_neg c_4] at hF
    refine lv_bipush (v := 40) hx hb dX13_fight_11 (by decide) ?_
    refine lv_iload_n hx hb dX13_fight_13 rfl (lv_at hl 1 rfl) ?_
    refine lv_imul hx hb dX13_fight_14 ?_
    refine lv_iload_n hx hb dX13_fight_15 rfl (lv_at hl 2 rfl) ?_
    refine lv_iadd hx hb dX13_fight_16 ?_
    obtain ⟨x_5, e_6, hF⟩ := pli_some hF
    refine gx_ti e_6 ?_
    refine lv_istore (lv' := [(4, .int x_5), (0, .ref (Q 72)), (1, .int a0), (2, .int a1), (3, .int a2)]) hx hb dX13_fight_17 hl (by decide) rfl (fun ls hl => ?_)
    refine lv_aload_n hx hb dX13_fight_19 rfl (lv_at hl 1 rfl) ?_
    refine mg_15 hC hH dX13_fight_20 ?_
    refine lv_iload hx hb dX13_fight_23 (lv_at hl 0 rfl) ?_
    obtain ⟨x_7, g_8, e_9, hF⟩ := prd_some hF
    refine ml_15 hC hH g_8 dX13_fight_25 ?_
    refine gx_ti e_9 ?_
    refine lv_iconst (v := 2) hx hb dX13_fight_26 (by decide) ?_
    refine lv_icmp_ne (tgt := 34) hx hb dX13_fight_27 (by decide) (fun c_10 => ?_) (fun c_10 => ?_)
    · rw [if_neg c_10] at hF
      refine lv_iconst (v := 0) hx hb dX13_fight_34 (by decide) ?_
      refine lv_istore (lv' := [(5, .int 0), (4, .int x_5), (0, .ref (Q 72)), (1, .int a0), (2, .int a1), (3, .int a2)]) hx hb dX13_fight_35 hl (by decide) rfl (fun ls hl => ?_)
      refine lv_iload_n hx hb dX13_fight_37 rfl (lv_at hl 5 rfl) ?_
      by_cases c_11 : a2 = 0
      · rw [if_pos c_11] at hF
        refine gx_ti (y := 0) c_11 ?_
        refine lv_tableIn (off := 46) (tgt := 84) hx hb dX13_fight_38 (by decide) (by decide) rfl (by decide) ?_
        refine lv_iconst (v := (-1)) hx hb dX13_fight_84 (by decide) ?_
        refine lv_aload_n hx hb dX13_fight_85 rfl (lv_at hl 2 rfl) ?_
        refine lv_iload_n hx hb dX13_fight_86 rfl (lv_at hl 3 rfl) ?_
        refine lv_iload_n hx hb dX13_fight_87 rfl (lv_at hl 4 rfl) ?_
        refine lv_iconst (v := 0) hx hb dX13_fight_88 (by decide) ?_
        obtain ⟨r_12, u_13, h_14, hF⟩ := pcl_some hF
        refine mcV_i (As := [.int a0, .int a1, .int 0]) (rest := [.int (-1)]) hC hH (m_sideOf l G Z Q u_2 u_13 r_12 a0 a1 0 _ h_14) kwX13_sideOf kVX13_sideOf ⟨Nat.le_of_ble_eq_true rfl, Nat.le_of_ble_eq_true rfl⟩ rfl hl.1 rfl (Nat.le_of_ble_eq_true rfl) dX13_fight_89 (fun H locs hH => ?_)
        refine va_mmax hx hb (hC.2.2.1.trans hl.1.symm) hC.2.2.2.1 (hC.2.2.2.2.1 _ wma152) (hC.2.2.2.2.1 _ wma376) (hC.2.2.2.2.1 _ wma378) (hC.2.2.2.2.1 _ wma379) (Nat.le_of_ble_eq_true rfl) (Nat.le_of_ble_eq_true rfl) (Nat.le_of_ble_eq_true rfl) (Nat.le_of_ble_eq_true rfl) dX13_fight_92 ?_
        have hF := prt_eq hF
        exact mr_i hC hH hr hF dX13_fight_95 hlocks
      rw [if_neg c_11] at hF
      by_cases c_15 : a2 = 1
      · rw [if_pos c_15] at hF
        refine gx_ti (y := 1) c_15 ?_
        refine lv_tableIn (off := 58) (tgt := 96) hx hb dX13_fight_38 (by decide) (by decide) rfl (by decide) ?_
        refine lv_iconst (v := (-1)) hx hb dX13_fight_96 (by decide) ?_
        refine lv_aload_n hx hb dX13_fight_97 rfl (lv_at hl 2 rfl) ?_
        refine lv_iload_n hx hb dX13_fight_98 rfl (lv_at hl 3 rfl) ?_
        refine lv_iload_n hx hb dX13_fight_99 rfl (lv_at hl 4 rfl) ?_
        refine lv_iconst (v := 1) hx hb dX13_fight_100 (by decide) ?_
        obtain ⟨r_16, u_17, h_18, hF⟩ := pcl_some hF
        refine mcV_i (As := [.int a0, .int a1, .int 1]) (rest := [.int (-1)]) hC hH (m_sideOf l G Z Q u_2 u_17 r_16 a0 a1 1 _ h_18) kwX13_sideOf kVX13_sideOf ⟨Nat.le_of_ble_eq_true rfl, Nat.le_of_ble_eq_true rfl⟩ rfl hl.1 rfl (Nat.le_of_ble_eq_true rfl) dX13_fight_101 (fun H locs hH => ?_)
        refine va_mmax hx hb (hC.2.2.1.trans hl.1.symm) hC.2.2.2.1 (hC.2.2.2.2.1 _ wma152) (hC.2.2.2.2.1 _ wma376) (hC.2.2.2.2.1 _ wma378) (hC.2.2.2.2.1 _ wma379) (Nat.le_of_ble_eq_true rfl) (Nat.le_of_ble_eq_true rfl) (Nat.le_of_ble_eq_true rfl) (Nat.le_of_ble_eq_true rfl) dX13_fight_104 ?_
        have hF := prt_eq hF
        exact mr_i hC hH hr hF dX13_fight_107 hlocks
      rw [if_neg c_15] at hF
      by_cases c_19 : a2 = 2
      · rw [if_pos c_19] at hF
        refine gx_ti (y := 2) c_19 ?_
        refine lv_tableIn (off := 70) (tgt := 108) hx hb dX13_fight_38 (by decide) (by decide) rfl (by decide) ?_
        refine lv_aload_n hx hb dX13_fight_108 rfl (lv_at hl 2 rfl) ?_
        refine lv_iload_n hx hb dX13_fight_109 rfl (lv_at hl 3 rfl) ?_
        refine lv_iload_n hx hb dX13_fight_110 rfl (lv_at hl 4 rfl) ?_
        obtain ⟨r_20, u_21, h_22, hF⟩ := pcl_some hF
        refine mcV_i (As := [.int a0, .int a1]) (rest := []) hC hH (m_winnerOf l G Z Q u_2 u_21 r_20 a0 a1 _ h_22) kwX13_winnerOf kVX13_winnerOf ⟨Nat.le_of_ble_eq_true rfl, Nat.le_of_ble_eq_true rfl⟩ rfl hl.1 rfl (Nat.le_of_ble_eq_true rfl) dX13_fight_111 (fun H locs hH => ?_)
        have hF := prt_eq hF
        exact mr_i hC hH hr hF dX13_fight_114 hlocks
      rw [if_neg c_19] at hF
      by_cases c_23 : a2 = 3
      · rw [if_pos c_23] at hF
        refine gx_ti (y := 3) c_23 ?_
        refine lv_tableIn (off := 77) (tgt := 115) hx hb dX13_fight_38 (by decide) (by decide) rfl (by decide) ?_
        refine lv_iload hx hb dX13_fight_115 (lv_at hl 0 rfl) ?_
        refine lv_if_eq (tgt := 124) hx hb dX13_fight_117 (by decide) (fun c_24 => ?_) (fun c_24 => ?_)
        · rw [if_pos c_24] at hF
          refine lv_aload_n hx hb dX13_fight_124 rfl (lv_at hl 2 rfl) ?_
          refine mg_15 hC hH dX13_fight_125 ?_
          refine lv_iload hx hb dX13_fight_128 (lv_at hl 1 rfl) ?_
          obtain ⟨x_25, g_26, e_27, hF⟩ := prd_some hF
          refine ml_15 hC hH g_26 dX13_fight_130 ?_
          refine gx_ti e_27 ?_
          refine lv_iconst (v := 1) hx hb dX13_fight_131 (by decide) ?_
          refine lv_icmp_ne (tgt := 139) hx hb dX13_fight_132 (by decide) (fun c_28 => ?_) (fun c_28 => ?_)
          · rw [if_neg c_28] at hF
            refine lv_aload_n hx hb dX13_fight_139 rfl (lv_at hl 2 rfl) ?_
            refine lv_iload_n hx hb dX13_fight_140 rfl (lv_at hl 3 rfl) ?_
            refine lv_iload_n hx hb dX13_fight_141 rfl (lv_at hl 4 rfl) ?_
            obtain ⟨r_29, u_30, h_31, hF⟩ := pcl_some hF
            refine mcV_i (As := [.int a0, .int a1]) (rest := []) hC hH (m_isWalk l G Z Q u_2 u_30 r_29 a0 a1 _ h_31) kwX13_isWalk kVX13_isWalk ⟨Nat.le_of_ble_eq_true rfl, Nat.le_of_ble_eq_true rfl⟩ rfl hl.1 rfl (Nat.le_of_ble_eq_true rfl) dX13_fight_142 (fun H locs hH => ?_)
            refine lv_if_eq (tgt := 152) hx hb dX13_fight_145 (by decide) (fun c_32 => ?_) (fun c_32 => ?_)
            · rw [if_pos c_32] at hF
              refine lv_aload_n hx hb dX13_fight_152 rfl (lv_at hl 2 rfl) ?_
              refine lv_iload_n hx hb dX13_fight_153 rfl (lv_at hl 3 rfl) ?_
              refine lv_iload_n hx hb dX13_fight_154 rfl (lv_at hl 4 rfl) ?_
              obtain ⟨r_33, u_34, h_35, hF⟩ := pcl_some hF
              refine mcV_i (As := [.int a0, .int a1]) (rest := []) hC hH (m_isReady l G Z Q u_30 u_34 r_33 a0 a1 _ h_35) kwX13_isReady kVX13_isReady ⟨Nat.le_of_ble_eq_true rfl, Nat.le_of_ble_eq_true rfl⟩ rfl hl.1 rfl (Nat.le_of_ble_eq_true rfl) dX13_fight_155 (fun H locs hH => ?_)
              refine lv_if_eq (tgt := 165) hx hb dX13_fight_158 (by decide) (fun c_36 => ?_) (fun c_36 => ?_)
              · rw [if_pos c_36] at hF
                refine lv_iconst (v := 0) hx hb dX13_fight_165 (by decide) ?_
                have hF := prt_eq hF
                exact mr_i hC hH hr hF dX13_fight_166 hlocks
              · rw [if_neg c_36] at hF
                refine lv_iconst (v := 1) hx hb dX13_fight_161 (by decide) ?_
                refine lv_goto (tgt := 166) hx hb dX13_fight_162 (by decide) ?_
                have hF := prt_eq hF
                exact mr_i hC hH hr hF dX13_fight_166 hlocks
            · rw [if_neg c_32] at hF
              refine lv_iconst (v := 4) hx hb dX13_fight_148 (by decide) ?_
              refine lv_goto (tgt := 166) hx hb dX13_fight_149 (by decide) ?_
              have hF := prt_eq hF
              exact mr_i hC hH hr hF dX13_fight_166 hlocks
          · rw [if_pos c_28] at hF
            refine lv_iconst (v := 2) hx hb dX13_fight_135 (by decide) ?_
            refine lv_goto (tgt := 166) hx hb dX13_fight_136 (by decide) ?_
            have hF := prt_eq hF
            exact mr_i hC hH hr hF dX13_fight_166 hlocks
        · rw [if_neg c_24] at hF
          refine lv_iconst (v := 3) hx hb dX13_fight_120 (by decide) ?_
          refine lv_goto (tgt := 166) hx hb dX13_fight_121 (by decide) ?_
          have hF := prt_eq hF
          exact mr_i hC hH hr hF dX13_fight_166 hlocks
      rw [if_neg c_23] at hF
      by_cases c_37 : a2 = 4
      · rw [if_pos c_37] at hF
        refine gx_ti (y := 4) c_37 ?_
        refine lv_tableIn (off := 129) (tgt := 167) hx hb dX13_fight_38 (by decide) (by decide) rfl (by decide) ?_
        refine lv_iload hx hb dX13_fight_167 (lv_at hl 0 rfl) ?_
        refine lv_if_eq (tgt := 182) hx hb dX13_fight_169 (by decide) (fun c_38 => ?_) (fun c_38 => ?_)
        · rw [if_pos c_38] at hF
          refine lv_iconst (v := (-1)) hx hb dX13_fight_182 (by decide) ?_
          have hF := prt_eq hF
          exact mr_i hC hH hr hF dX13_fight_183 hlocks
        · rw [if_neg c_38] at hF
          refine lv_aload_n hx hb dX13_fight_172 rfl (lv_at hl 2 rfl) ?_
          refine mg_19 hC hH dX13_fight_173 ?_
          refine lv_iload hx hb dX13_fight_176 (lv_at hl 1 rfl) ?_
          obtain ⟨x_39, g_40, e_41, hF⟩ := prd_some hF
          refine ml_19 hC hH g_40 dX13_fight_178 ?_
          refine gx_ti e_41 ?_
          refine lv_goto (tgt := 183) hx hb dX13_fight_179 (by decide) ?_
          have hF := prt_eq hF
          exact mr_i hC hH hr hF dX13_fight_183 hlocks
      rw [if_neg c_37] at hF
      by_cases c_42 : a2 = 5
      · rw [if_pos c_42] at hF
        refine gx_ti (y := 5) c_42 ?_
        refine lv_tableIn (off := 146) (tgt := 184) hx hb dX13_fight_38 (by decide) (by decide) rfl (by decide) ?_
        refine lv_iload hx hb dX13_fight_184 (lv_at hl 0 rfl) ?_
        refine lv_if_eq (tgt := 199) hx hb dX13_fight_186 (by decide) (fun c_43 => ?_) (fun c_43 => ?_)
        · rw [if_pos c_43] at hF
          refine lv_iconst (v := 0) hx hb dX13_fight_199 (by decide) ?_
          have hF := prt_eq hF
          exact mr_i hC hH hr hF dX13_fight_200 hlocks
        · rw [if_neg c_43] at hF
          refine lv_aload_n hx hb dX13_fight_189 rfl (lv_at hl 2 rfl) ?_
          refine mg_20 hC hH dX13_fight_190 ?_
          refine lv_iload hx hb dX13_fight_193 (lv_at hl 1 rfl) ?_
          obtain ⟨x_44, g_45, e_46, hF⟩ := prd_some hF
          refine ml_20 hC hH g_45 dX13_fight_195 ?_
          refine gx_ti e_46 ?_
          refine lv_goto (tgt := 200) hx hb dX13_fight_196 (by decide) ?_
          have hF := prt_eq hF
          exact mr_i hC hH hr hF dX13_fight_200 hlocks
      rw [if_neg c_42] at hF
      by_cases c_47 : a2 = 6
      · rw [if_pos c_47] at hF
        refine gx_ti (y := 6) c_47 ?_
        refine lv_tableIn (off := 163) (tgt := 201) hx hb dX13_fight_38 (by decide) (by decide) rfl (by decide) ?_
        refine lv_aload_n hx hb dX13_fight_201 rfl (lv_at hl 2 rfl) ?_
        refine lv_iload_n hx hb dX13_fight_202 rfl (lv_at hl 3 rfl) ?_
        refine lv_iload_n hx hb dX13_fight_203 rfl (lv_at hl 4 rfl) ?_
        obtain ⟨r_48, u_49, h_50, hF⟩ := pcl_some hF
        refine mcV_i (As := [.int a0, .int a1]) (rest := []) hC hH (m_matOf l G Z Q u_2 u_49 r_48 a0 a1 _ h_50) kwX13_matOf kVX13_matOf ⟨Nat.le_of_ble_eq_true rfl, Nat.le_of_ble_eq_true rfl⟩ rfl hl.1 rfl (Nat.le_of_ble_eq_true rfl) dX13_fight_204 (fun H locs hH => ?_)
        have hF := prt_eq hF
        exact mr_i hC hH hr hF dX13_fight_207 hlocks
      rw [if_neg c_47] at hF
      by_cases c_51 : a2 = 7
      · rw [if_pos c_51] at hF
        refine gx_ti (y := 7) c_51 ?_
        refine lv_tableIn (off := 170) (tgt := 208) hx hb dX13_fight_38 (by decide) (by decide) rfl (by decide) ?_
        refine lv_iload hx hb dX13_fight_208 (lv_at hl 0 rfl) ?_
        refine lv_if_eq (tgt := 223) hx hb dX13_fight_210 (by decide) (fun c_52 => ?_) (fun c_52 => ?_)
        · rw [if_pos c_52] at hF
          refine lv_iconst (v := (-1)) hx hb dX13_fight_223 (by decide) ?_
          have hF := prt_eq hF
          exact mr_i hC hH hr hF dX13_fight_224 hlocks
        · rw [if_neg c_52] at hF
          refine lv_aload_n hx hb dX13_fight_213 rfl (lv_at hl 2 rfl) ?_
          refine mg_21 hC hH dX13_fight_214 ?_
          refine lv_iload hx hb dX13_fight_217 (lv_at hl 1 rfl) ?_
          obtain ⟨x_53, g_54, e_55, hF⟩ := prd_some hF
          refine ml_21 hC hH g_54 dX13_fight_219 ?_
          refine gx_ti e_55 ?_
          refine lv_goto (tgt := 224) hx hb dX13_fight_220 (by decide) ?_
          have hF := prt_eq hF
          exact mr_i hC hH hr hF dX13_fight_224 hlocks
      rw [if_neg c_51] at hF
      refine lv_tableOut (tgt := 225) hx hb dX13_fight_38 (by have q0 := gl_ne c_11 (a := 0) (by decide); have q1 := gl_ne c_15 (a := 1) (by decide); have q2 := gl_ne c_19 (a := 2) (by decide); have q3 := gl_ne c_23 (a := 3) (by decide); have q4 := gl_ne c_37 (a := 4) (by decide); have q5 := gl_ne c_42 (a := 5) (by decide); have q6 := gl_ne c_47 (a := 6) (by decide); have q7 := gl_ne c_51 (a := 7) (by decide); omega) (by decide) ?_
      refine lv_iconst (v := (-1)) hx hb dX13_fight_225 (by decide) ?_
      have hF := prt_eq hF
      exact mr_i hC hH hr hF dX13_fight_226 hlocks
    · rw [if_pos c_10] at hF
      refine lv_iconst (v := 1) hx hb dX13_fight_30 (by decide) ?_
      refine lv_goto (tgt := 35) hx hb dX13_fight_31 (by decide) ?_
      refine lv_istore (lv' := [(5, .int 1), (4, .int x_5), (0, .ref (Q 72)), (1, .int a0), (2, .int a1), (3, .int a2)]) hx hb dX13_fight_35 hl (by decide) rfl (fun ls hl => ?_)
      refine lv_iload_n hx hb dX13_fight_37 rfl (lv_at hl 5 rfl) ?_
      by_cases c_56 : a2 = 0
      · rw [if_pos c_56] at hF
        refine gx_ti (y := 0) c_56 ?_
        refine lv_tableIn (off := 46) (tgt := 84) hx hb dX13_fight_38 (by decide) (by decide) rfl (by decide) ?_
        refine lv_iconst (v := (-1)) hx hb dX13_fight_84 (by decide) ?_
        refine lv_aload_n hx hb dX13_fight_85 rfl (lv_at hl 2 rfl) ?_
        refine lv_iload_n hx hb dX13_fight_86 rfl (lv_at hl 3 rfl) ?_
        refine lv_iload_n hx hb dX13_fight_87 rfl (lv_at hl 4 rfl) ?_
        refine lv_iconst (v := 0) hx hb dX13_fight_88 (by decide) ?_
        obtain ⟨r_57, u_58, h_59, hF⟩ := pcl_some hF
        refine mcV_i (As := [.int a0, .int a1, .int 0]) (rest := [.int (-1)]) hC hH (m_sideOf l G Z Q u_2 u_58 r_57 a0 a1 0 _ h_59) kwX13_sideOf kVX13_sideOf ⟨Nat.le_of_ble_eq_true rfl, Nat.le_of_ble_eq_true rfl⟩ rfl hl.1 rfl (Nat.le_of_ble_eq_true rfl) dX13_fight_89 (fun H locs hH => ?_)
        refine va_mmax hx hb (hC.2.2.1.trans hl.1.symm) hC.2.2.2.1 (hC.2.2.2.2.1 _ wma152) (hC.2.2.2.2.1 _ wma376) (hC.2.2.2.2.1 _ wma378) (hC.2.2.2.2.1 _ wma379) (Nat.le_of_ble_eq_true rfl) (Nat.le_of_ble_eq_true rfl) (Nat.le_of_ble_eq_true rfl) (Nat.le_of_ble_eq_true rfl) dX13_fight_92 ?_
        have hF := prt_eq hF
        exact mr_i hC hH hr hF dX13_fight_95 hlocks
      rw [if_neg c_56] at hF
      by_cases c_60 : a2 = 1
      · rw [if_pos c_60] at hF
        refine gx_ti (y := 1) c_60 ?_
        refine lv_tableIn (off := 58) (tgt := 96) hx hb dX13_fight_38 (by decide) (by decide) rfl (by decide) ?_
        refine lv_iconst (v := (-1)) hx hb dX13_fight_96 (by decide) ?_
        refine lv_aload_n hx hb dX13_fight_97 rfl (lv_at hl 2 rfl) ?_
        refine lv_iload_n hx hb dX13_fight_98 rfl (lv_at hl 3 rfl) ?_
        refine lv_iload_n hx hb dX13_fight_99 rfl (lv_at hl 4 rfl) ?_
        refine lv_iconst (v := 1) hx hb dX13_fight_100 (by decide) ?_
        obtain ⟨r_61, u_62, h_63, hF⟩ := pcl_some hF
        refine mcV_i (As := [.int a0, .int a1, .int 1]) (rest := [.int (-1)]) hC hH (m_sideOf l G Z Q u_2 u_62 r_61 a0 a1 1 _ h_63) kwX13_sideOf kVX13_sideOf ⟨Nat.le_of_ble_eq_true rfl, Nat.le_of_ble_eq_true rfl⟩ rfl hl.1 rfl (Nat.le_of_ble_eq_true rfl) dX13_fight_101 (fun H locs hH => ?_)
        refine va_mmax hx hb (hC.2.2.1.trans hl.1.symm) hC.2.2.2.1 (hC.2.2.2.2.1 _ wma152) (hC.2.2.2.2.1 _ wma376) (hC.2.2.2.2.1 _ wma378) (hC.2.2.2.2.1 _ wma379) (Nat.le_of_ble_eq_true rfl) (Nat.le_of_ble_eq_true rfl) (Nat.le_of_ble_eq_true rfl) (Nat.le_of_ble_eq_true rfl) dX13_fight_104 ?_
        have hF := prt_eq hF
        exact mr_i hC hH hr hF dX13_fight_107 hlocks
      rw [if_neg c_60] at hF
      by_cases c_64 : a2 = 2
      · rw [if_pos c_64] at hF
        refine gx_ti (y := 2) c_64 ?_
        refine lv_tableIn (off := 70) (tgt := 108) hx hb dX13_fight_38 (by decide) (by decide) rfl (by decide) ?_
        refine lv_aload_n hx hb dX13_fight_108 rfl (lv_at hl 2 rfl) ?_
        refine lv_iload_n hx hb dX13_fight_109 rfl (lv_at hl 3 rfl) ?_
        refine lv_iload_n hx hb dX13_fight_110 rfl (lv_at hl 4 rfl) ?_
        obtain ⟨r_65, u_66, h_67, hF⟩ := pcl_some hF
        refine mcV_i (As := [.int a0, .int a1]) (rest := []) hC hH (m_winnerOf l G Z Q u_2 u_66 r_65 a0 a1 _ h_67) kwX13_winnerOf kVX13_winnerOf ⟨Nat.le_of_ble_eq_true rfl, Nat.le_of_ble_eq_true rfl⟩ rfl hl.1 rfl (Nat.le_of_ble_eq_true rfl) dX13_fight_111 (fun H locs hH => ?_)
        have hF := prt_eq hF
        exact mr_i hC hH hr hF dX13_fight_114 hlocks
      rw [if_neg c_64] at hF
      by_cases c_68 : a2 = 3
      · rw [if_pos c_68] at hF
        refine gx_ti (y := 3) c_68 ?_
        refine lv_tableIn (off := 77) (tgt := 115) hx hb dX13_fight_38 (by decide) (by decide) rfl (by decide) ?_
        refine lv_iload hx hb dX13_fight_115 (lv_at hl 0 rfl) ?_
        refine lv_if_eq (tgt := 124) hx hb dX13_fight_117 (by decide) (fun c_69 => ?_) (fun c_69 => ?_)
        · rw [if_pos c_69] at hF
          refine lv_aload_n hx hb dX13_fight_124 rfl (lv_at hl 2 rfl) ?_
          refine mg_15 hC hH dX13_fight_125 ?_
          refine lv_iload hx hb dX13_fight_128 (lv_at hl 1 rfl) ?_
          obtain ⟨x_70, g_71, e_72, hF⟩ := prd_some hF
          refine ml_15 hC hH g_71 dX13_fight_130 ?_
          refine gx_ti e_72 ?_
          refine lv_iconst (v := 1) hx hb dX13_fight_131 (by decide) ?_
          refine lv_icmp_ne (tgt := 139) hx hb dX13_fight_132 (by decide) (fun c_73 => ?_) (fun c_73 => ?_)
          · rw [if_neg c_73] at hF
            refine lv_aload_n hx hb dX13_fight_139 rfl (lv_at hl 2 rfl) ?_
            refine lv_iload_n hx hb dX13_fight_140 rfl (lv_at hl 3 rfl) ?_
            refine lv_iload_n hx hb dX13_fight_141 rfl (lv_at hl 4 rfl) ?_
            obtain ⟨r_74, u_75, h_76, hF⟩ := pcl_some hF
            refine mcV_i (As := [.int a0, .int a1]) (rest := []) hC hH (m_isWalk l G Z Q u_2 u_75 r_74 a0 a1 _ h_76) kwX13_isWalk kVX13_isWalk ⟨Nat.le_of_ble_eq_true rfl, Nat.le_of_ble_eq_true rfl⟩ rfl hl.1 rfl (Nat.le_of_ble_eq_true rfl) dX13_fight_142 (fun H locs hH => ?_)
            refine lv_if_eq (tgt := 152) hx hb dX13_fight_145 (by decide) (fun c_77 => ?_) (fun c_77 => ?_)
            · rw [if_pos c_77] at hF
              refine lv_aload_n hx hb dX13_fight_152 rfl (lv_at hl 2 rfl) ?_
              refine lv_iload_n hx hb dX13_fight_153 rfl (lv_at hl 3 rfl) ?_
              refine lv_iload_n hx hb dX13_fight_154 rfl (lv_at hl 4 rfl) ?_
              obtain ⟨r_78, u_79, h_80, hF⟩ := pcl_some hF
              refine mcV_i (As := [.int a0, .int a1]) (rest := []) hC hH (m_isReady l G Z Q u_75 u_79 r_78 a0 a1 _ h_80) kwX13_isReady kVX13_isReady ⟨Nat.le_of_ble_eq_true rfl, Nat.le_of_ble_eq_true rfl⟩ rfl hl.1 rfl (Nat.le_of_ble_eq_true rfl) dX13_fight_155 (fun H locs hH => ?_)
              refine lv_if_eq (tgt := 165) hx hb dX13_fight_158 (by decide) (fun c_81 => ?_) (fun c_81 => ?_)
              · rw [if_pos c_81] at hF
                refine lv_iconst (v := 0) hx hb dX13_fight_165 (by decide) ?_
                have hF := prt_eq hF
                exact mr_i hC hH hr hF dX13_fight_166 hlocks
              · rw [if_neg c_81] at hF
                refine lv_iconst (v := 1) hx hb dX13_fight_161 (by decide) ?_
                refine lv_goto (tgt := 166) hx hb dX13_fight_162 (by decide) ?_
                have hF := prt_eq hF
                exact mr_i hC hH hr hF dX13_fight_166 hlocks
            · rw [if_neg c_77] at hF
              refine lv_iconst (v := 4) hx hb dX13_fight_148 (by decide) ?_
              refine lv_goto (tgt := 166) hx hb dX13_fight_149 (by decide) ?_
              have hF := prt_eq hF
              exact mr_i hC hH hr hF dX13_fight_166 hlocks
          · rw [if_pos c_73] at hF
            refine lv_iconst (v := 2) hx hb dX13_fight_135 (by decide) ?_
            refine lv_goto (tgt := 166) hx hb dX13_fight_136 (by decide) ?_
            have hF := prt_eq hF
            exact mr_i hC hH hr hF dX13_fight_166 hlocks
        · rw [if_neg c_69] at hF
          refine lv_iconst (v := 3) hx hb dX13_fight_120 (by decide) ?_
          refine lv_goto (tgt := 166) hx hb dX13_fight_121 (by decide) ?_
          have hF := prt_eq hF
          exact mr_i hC hH hr hF dX13_fight_166 hlocks
      rw [if_neg c_68] at hF
      by_cases c_82 : a2 = 4
      · rw [if_pos c_82] at hF
        refine gx_ti (y := 4) c_82 ?_
        refine lv_tableIn (off := 129) (tgt := 167) hx hb dX13_fight_38 (by decide) (by decide) rfl (by decide) ?_
        refine lv_iload hx hb dX13_fight_167 (lv_at hl 0 rfl) ?_
        refine lv_if_eq (tgt := 182) hx hb dX13_fight_169 (by decide) (fun c_83 => ?_) (fun c_83 => ?_)
        · rw [if_pos c_83] at hF
          refine lv_iconst (v := (-1)) hx hb dX13_fight_182 (by decide) ?_
          have hF := prt_eq hF
          exact mr_i hC hH hr hF dX13_fight_183 hlocks
        · rw [if_neg c_83] at hF
          refine lv_aload_n hx hb dX13_fight_172 rfl (lv_at hl 2 rfl) ?_
          refine mg_19 hC hH dX13_fight_173 ?_
          refine lv_iload hx hb dX13_fight_176 (lv_at hl 1 rfl) ?_
          obtain ⟨x_84, g_85, e_86, hF⟩ := prd_some hF
          refine ml_19 hC hH g_85 dX13_fight_178 ?_
          refine gx_ti e_86 ?_
          refine lv_goto (tgt := 183) hx hb dX13_fight_179 (by decide) ?_
          have hF := prt_eq hF
          exact mr_i hC hH hr hF dX13_fight_183 hlocks
      rw [if_neg c_82] at hF
      by_cases c_87 : a2 = 5
      · rw [if_pos c_87] at hF
        refine gx_ti (y := 5) c_87 ?_
        refine lv_tableIn (off := 146) (tgt := 184) hx hb dX13_fight_38 (by decide) (by decide) rfl (by decide) ?_
        refine lv_iload hx hb dX13_fight_184 (lv_at hl 0 rfl) ?_
        refine lv_if_eq (tgt := 199) hx hb dX13_fight_186 (by decide) (fun c_88 => ?_) (fun c_88 => ?_)
        · rw [if_pos c_88] at hF
          refine lv_iconst (v := 0) hx hb dX13_fight_199 (by decide) ?_
          have hF := prt_eq hF
          exact mr_i hC hH hr hF dX13_fight_200 hlocks
        · rw [if_neg c_88] at hF
          refine lv_aload_n hx hb dX13_fight_189 rfl (lv_at hl 2 rfl) ?_
          refine mg_20 hC hH dX13_fight_190 ?_
          refine lv_iload hx hb dX13_fight_193 (lv_at hl 1 rfl) ?_
          obtain ⟨x_89, g_90, e_91, hF⟩ := prd_some hF
          refine ml_20 hC hH g_90 dX13_fight_195 ?_
          refine gx_ti e_91 ?_
          refine lv_goto (tgt := 200) hx hb dX13_fight_196 (by decide) ?_
          have hF := prt_eq hF
          exact mr_i hC hH hr hF dX13_fight_200 hlocks
      rw [if_neg c_87] at hF
      by_cases c_92 : a2 = 6
      · rw [if_pos c_92] at hF
        refine gx_ti (y := 6) c_92 ?_
        refine lv_tableIn (off := 163) (tgt := 201) hx hb dX13_fight_38 (by decide) (by decide) rfl (by decide) ?_
        refine lv_aload_n hx hb dX13_fight_201 rfl (lv_at hl 2 rfl) ?_
        refine lv_iload_n hx hb dX13_fight_202 rfl (lv_at hl 3 rfl) ?_
        refine lv_iload_n hx hb dX13_fight_203 rfl (lv_at hl 4 rfl) ?_
        obtain ⟨r_93, u_94, h_95, hF⟩ := pcl_some hF
        refine mcV_i (As := [.int a0, .int a1]) (rest := []) hC hH (m_matOf l G Z Q u_2 u_94 r_93 a0 a1 _ h_95) kwX13_matOf kVX13_matOf ⟨Nat.le_of_ble_eq_true rfl, Nat.le_of_ble_eq_true rfl⟩ rfl hl.1 rfl (Nat.le_of_ble_eq_true rfl) dX13_fight_204 (fun H locs hH => ?_)
        have hF := prt_eq hF
        exact mr_i hC hH hr hF dX13_fight_207 hlocks
      rw [if_neg c_92] at hF
      by_cases c_96 : a2 = 7
      · rw [if_pos c_96] at hF
        refine gx_ti (y := 7) c_96 ?_
        refine lv_tableIn (off := 170) (tgt := 208) hx hb dX13_fight_38 (by decide) (by decide) rfl (by decide) ?_
        refine lv_iload hx hb dX13_fight_208 (lv_at hl 0 rfl) ?_
        refine lv_if_eq (tgt := 223) hx hb dX13_fight_210 (by decide) (fun c_97 => ?_) (fun c_97 => ?_)
        · rw [if_pos c_97] at hF
          refine lv_iconst (v := (-1)) hx hb dX13_fight_223 (by decide) ?_
          have hF := prt_eq hF
          exact mr_i hC hH hr hF dX13_fight_224 hlocks
        · rw [if_neg c_97] at hF
          refine lv_aload_n hx hb dX13_fight_213 rfl (lv_at hl 2 rfl) ?_
          refine mg_21 hC hH dX13_fight_214 ?_
          refine lv_iload hx hb dX13_fight_217 (lv_at hl 1 rfl) ?_
          obtain ⟨x_98, g_99, e_100, hF⟩ := prd_some hF
          refine ml_21 hC hH g_99 dX13_fight_219 ?_
          refine gx_ti e_100 ?_
          refine lv_goto (tgt := 224) hx hb dX13_fight_220 (by decide) ?_
          have hF := prt_eq hF
          exact mr_i hC hH hr hF dX13_fight_224 hlocks
      rw [if_neg c_96] at hF
      refine lv_tableOut (tgt := 225) hx hb dX13_fight_38 (by have q0 := gl_ne c_56 (a := 0) (by decide); have q1 := gl_ne c_60 (a := 1) (by decide); have q2 := gl_ne c_64 (a := 2) (by decide); have q3 := gl_ne c_68 (a := 3) (by decide); have q4 := gl_ne c_82 (a := 4) (by decide); have q5 := gl_ne c_87 (a := 5) (by decide); have q6 := gl_ne c_92 (a := 6) (by decide); have q7 := gl_ne c_96 (a := 7) (by decide); omega) (by decide) ?_
      refine lv_iconst (v := (-1)) hx hb dX13_fight_225 (by decide) ?_
      have hF := prt_eq hF
      exact mr_i hC hH hr hF dX13_fight_226 hlocks
  · rw [if_pos c_4] at hF
    refine lv_iconst (v := (-1)) hx hb dX13_fight_9 (by decide) ?_
    have hF := prt_eq hF
    exact mr_i hC hH hr hF dX13_fight_10 hlocks
def f_mat (a0 : Int32) (a1 : Int32) : PG (Int32) := pcl (f_isMat a0) (fun r_1 => (if r_1 = 0 then prt (-1) else prd 22 4 a0 (fun x_5 => (if x_5 = (-1) then prt (-1) else prf 29 (fun x_9 => pcl (f_in a1.toInt64 10 ((9 : Int64) + (x_9.toInt64 : Int64))) (fun r_11 => (if r_11 = 0 then prf 29 (fun x_15 => pcl (f_in a1.toInt64 20 ((19 : Int64) + (x_15.toInt64 : Int64))) (fun r_17 => (if r_17 = 0 then (if a1 = 0 then prd 22 4 a0 (fun x_22 => prt (x_22 / 40)) else if a1 = 1 then prd 22 4 a0 (fun x_26 => prt (x_26 - x_26 / 40 * 40)) else if a1 = 2 then prd 23 4 a0 (fun x_30 => prt x_30) else if a1 = 3 then prd 25 4 a0 (fun x_34 => (if x_34 = 0 then prt 0 else prt 1)) else if a1 = 4 then prd 26 4 a0 (fun x_39 => (if x_39 = 0 then prt 0 else prt 1)) else prt (-1)) else prd 24 64 ((((16 * a0) + 8) + a1) - 20) (fun x_43 => prt x_43)))) else prd 24 64 (((16 * a0) + a1) - 10) (fun x_46 => prt x_46))))))))
set_option maxHeartbeats 4000000 in
set_option maxRecDepth 100000 in
theorem m_mat (l : Launch) (G : gG) (Z : gM) (Q : Nat → Nat) (u u1 : GS) (r : Int32) (a0 : Int32) (a1 : Int32) (sz : Nat) (hF : f_mat a0 a1 u = some (r, u1)) : Met l yX13_mat (Cond.code yX13_mat cX13_mat 3 (some .int) :: wM) { frames := 2, cells := 0, slots := 0, locals := 45 } (va_Pc [.ref (Q 72), .int a0, .int a1] (mPM G Z Q u.1 sz)) (mQi G Q u1.1 r sz) 0 0 (mA Q sz) := by
  refine Met.ofW (cc := cX13_mat) (maxL := 3) (ret := (some .int)) (by decide) rfl ?_
  intro p e s m args below meth c s₁ B hml hv
  obtain ⟨rfl, rfl, hP, hB, hD, hE⟩ := hv
  have hr := B.returns
  have hlocks := B.notSynchronized
  have hts := atoms_spec (ws := Cond.code yX13_mat cX13_mat 3 (some .int) :: wM) B.pre
  have hC : mX p c cX13_mat 3 s m _ G Z Q := ⟨B.exec, B.bytes, hml, findClass_of_methodNamed B.named, fun w h => hts w (List.mem_cons_of_mem _ h), hB, hE⟩
  have hx := hC.1
  have hb := hC.2.1
  have hH : mH G Q u.1 s s.heap [] := ⟨hP, hD, va_S.rf⟩
  have hl := lv_entry ([.ref (Q 72), .int a0, .int a1]) (n := 3) (Nat.le_of_ble_eq_true rfl)
  rw [lg_entry_eq]
  generalize (lg_sl ([.ref (Q 72), .int a0, .int a1]) ++ List.replicate (3 - (lg_sl ([.ref (Q 72), .int a0, .int a1])).length) Slot.unset).toArray = ls at hl ⊢
  have hl : lv_has ls 3 [(0, .ref (Q 72)), (1, .int a0), (2, .int a1)] := hl
  unfold f_mat at hF
  refine lv_iload_n hx hb dX13_mat_0 rfl (lv_at hl 1 rfl) ?_
  obtain ⟨r_1, u_2, h_3, hF⟩ := pcl_some hF
  refine mcS_i (As := [.int a0]) (rest := []) hC hH (m_isMat l G Z Q u u_2 r_1 a0 _ h_3) kwX13_isMat kVX13_isMat ⟨Nat.le_of_ble_eq_true rfl, Nat.le_of_ble_eq_true rfl⟩ rfl hl.1 rfl (Nat.le_of_ble_eq_true rfl) dX13_mat_1 (fun H locs hH => ?_)
  refine lv_if_eq (tgt := 17) hx hb dX13_mat_4 (by decide) (fun c_4 => ?_) (fun c_4 => ?_)
  · rw [if_pos c_4] at hF
    refine lv_iconst (v := (-1)) hx hb dX13_mat_17 (by decide) ?_
    have hF := prt_eq hF
    exact mr_i hC hH hr hF dX13_mat_18 hlocks
  · rw [if_neg c_4] at hF
    refine lv_aload_n hx hb dX13_mat_7 rfl (lv_at hl 0 rfl) ?_
    refine mg_22 hC hH dX13_mat_8 ?_
    refine lv_iload_n hx hb dX13_mat_11 rfl (lv_at hl 1 rfl) ?_
    obtain ⟨x_5, g_6, e_7, hF⟩ := prd_some hF
    refine ml_22 hC hH g_6 dX13_mat_12 ?_
    refine gx_ti e_7 ?_
    refine lv_iconst (v := (-1)) hx hb dX13_mat_13 (by decide) ?_
    refine lv_icmp_ne (tgt := 19) hx hb dX13_mat_14 (by decide) (fun c_8 => ?_) (fun c_8 => ?_)
    · rw [if_neg c_8] at hF
      refine lv_iload_n hx hb dX13_mat_19 rfl (lv_at hl 2 rfl) ?_
      refine lv_i2l (v := a1.toInt64) hx hb dX13_mat_20 rfl ?_
      refine lv_ldc2 (v := 10) hx hb hC.2.2.2.1 (hC.2.2.2.2.1 _ wma159) dX13_mat_21 ?_
      refine lv_ldc2 (v := 9) hx hb hC.2.2.2.1 (hC.2.2.2.2.1 _ wma160) dX13_mat_24 ?_
      refine lv_aload_n hx hb dX13_mat_27 rfl (lv_at hl 0 rfl) ?_
      refine mg_29 hC hH dX13_mat_28 ?_
      obtain ⟨x_9, e_10, hF⟩ := prf_some hF
      refine gx_ti e_10 ?_
      refine lv_i2l (v := x_9.toInt64) hx hb dX13_mat_31 rfl ?_
      refine lv_ladd hx hb dX13_mat_32 ?_
      obtain ⟨r_11, u_12, h_13, hF⟩ := pcl_some hF
      refine mcS_i (As := [.long a1.toInt64, .long 10, .long ((9 : Int64) + (x_9.toInt64 : Int64))]) (rest := []) hC hH (m_in l G Z Q u_2 u_12 r_11 a1.toInt64 10 ((9 : Int64) + (x_9.toInt64 : Int64)) _ h_13) kwX13_in kVX13_in ⟨Nat.le_of_ble_eq_true rfl, Nat.le_of_ble_eq_true rfl⟩ rfl hl.1 rfl (Nat.le_of_ble_eq_true rfl) dX13_mat_33 (fun H locs hH => ?_)
      refine lv_if_eq (tgt := 54) hx hb dX13_mat_36 (by decide) (fun c_14 => ?_) (fun c_14 => ?_)
      · rw [if_pos c_14] at hF
        refine lv_iload_n hx hb dX13_mat_54 rfl (lv_at hl 2 rfl) ?_
        refine lv_i2l (v := a1.toInt64) hx hb dX13_mat_55 rfl ?_
        refine lv_ldc2 (v := 20) hx hb hC.2.2.2.1 (hC.2.2.2.2.1 _ wma161) dX13_mat_56 ?_
        refine lv_ldc2 (v := 19) hx hb hC.2.2.2.1 (hC.2.2.2.2.1 _ wma162) dX13_mat_59 ?_
        refine lv_aload_n hx hb dX13_mat_62 rfl (lv_at hl 0 rfl) ?_
        refine mg_29 hC hH dX13_mat_63 ?_
        obtain ⟨x_15, e_16, hF⟩ := prf_some hF
        refine gx_ti e_16 ?_
        refine lv_i2l (v := x_15.toInt64) hx hb dX13_mat_66 rfl ?_
        refine lv_ladd hx hb dX13_mat_67 ?_
        obtain ⟨r_17, u_18, h_19, hF⟩ := pcl_some hF
        refine mcS_i (As := [.long a1.toInt64, .long 20, .long ((19 : Int64) + (x_15.toInt64 : Int64))]) (rest := []) hC hH (m_in l G Z Q u_12 u_18 r_17 a1.toInt64 20 ((19 : Int64) + (x_15.toInt64 : Int64)) _ h_19) kwX13_in kVX13_in ⟨Nat.le_of_ble_eq_true rfl, Nat.le_of_ble_eq_true rfl⟩ rfl hl.1 rfl (Nat.le_of_ble_eq_true rfl) dX13_mat_68 (fun H locs hH => ?_)
        refine lv_if_eq (tgt := 92) hx hb dX13_mat_71 (by decide) (fun c_20 => ?_) (fun c_20 => ?_)
        · rw [if_pos c_20] at hF
          refine lv_iload_n hx hb dX13_mat_92 rfl (lv_at hl 2 rfl) ?_
          by_cases c_21 : a1 = 0
          · rw [if_pos c_21] at hF
            refine gx_ti (y := 0) c_21 ?_
            refine lv_tableIn (off := 35) (tgt := 128) hx hb dX13_mat_93 (by decide) (by decide) rfl (by decide) ?_
            refine lv_aload_n hx hb dX13_mat_128 rfl (lv_at hl 0 rfl) ?_
            refine mg_22 hC hH dX13_mat_129 ?_
            refine lv_iload_n hx hb dX13_mat_132 rfl (lv_at hl 1 rfl) ?_
            obtain ⟨x_22, g_23, e_24, hF⟩ := prd_some hF
            refine ml_22 hC hH g_23 dX13_mat_133 ?_
            refine gx_ti e_24 ?_
            refine lv_bipush (v := 40) hx hb dX13_mat_134 (by decide) ?_
            refine lv_idiv hx hb dX13_mat_136 (by decide) ?_
            have hF := prt_eq hF
            exact mr_i hC hH hr hF dX13_mat_137 hlocks
          rw [if_neg c_21] at hF
          by_cases c_25 : a1 = 1
          · rw [if_pos c_25] at hF
            refine gx_ti (y := 1) c_25 ?_
            refine lv_tableIn (off := 45) (tgt := 138) hx hb dX13_mat_93 (by decide) (by decide) rfl (by decide) ?_
            refine lv_aload_n hx hb dX13_mat_138 rfl (lv_at hl 0 rfl) ?_
            refine mg_22 hC hH dX13_mat_139 ?_
            refine lv_iload_n hx hb dX13_mat_142 rfl (lv_at hl 1 rfl) ?_
            obtain ⟨x_26, g_27, e_28, hF⟩ := prd_some hF
            refine ml_22 hC hH g_27 dX13_mat_143 ?_
            refine gx_ti e_28 ?_
            refine lv_bipush (v := 40) hx hb dX13_mat_144 (by decide) ?_
            refine lv_irem hx hb dX13_mat_146 (by decide) ?_
            have hF := prt_eq hF
            exact mr_i hC hH hr hF dX13_mat_147 hlocks
          rw [if_neg c_25] at hF
          by_cases c_29 : a1 = 2
          · rw [if_pos c_29] at hF
            refine gx_ti (y := 2) c_29 ?_
            refine lv_tableIn (off := 55) (tgt := 148) hx hb dX13_mat_93 (by decide) (by decide) rfl (by decide) ?_
            refine lv_aload_n hx hb dX13_mat_148 rfl (lv_at hl 0 rfl) ?_
            refine mg_23 hC hH dX13_mat_149 ?_
            refine lv_iload_n hx hb dX13_mat_152 rfl (lv_at hl 1 rfl) ?_
            obtain ⟨x_30, g_31, e_32, hF⟩ := prd_some hF
            refine ml_23 hC hH g_31 dX13_mat_153 ?_
            refine gx_ti e_32 ?_
            have hF := prt_eq hF
            exact mr_i hC hH hr hF dX13_mat_154 hlocks
          rw [if_neg c_29] at hF
          by_cases c_33 : a1 = 3
          · rw [if_pos c_33] at hF
            refine gx_ti (y := 3) c_33 ?_
            refine lv_tableIn (off := 62) (tgt := 155) hx hb dX13_mat_93 (by decide) (by decide) rfl (by decide) ?_
            refine lv_aload_n hx hb dX13_mat_155 rfl (lv_at hl 0 rfl) ?_
            refine mg_25 hC hH dX13_mat_156 ?_
            refine lv_iload_n hx hb dX13_mat_159 rfl (lv_at hl 1 rfl) ?_
            obtain ⟨x_34, g_35, e_36, hF⟩ := prd_some hF
            refine ml_25 hC hH g_35 dX13_mat_160 ?_
            refine gx_ti e_36 ?_
            refine lv_if_eq (tgt := 168) hx hb dX13_mat_161 (by decide) (fun c_37 => ?_) (fun c_37 => ?_)
            · rw [if_pos c_37] at hF
              refine lv_iconst (v := 0) hx hb dX13_mat_168 (by decide) ?_
              have hF := prt_eq hF
              exact mr_i hC hH hr hF dX13_mat_169 hlocks
            · rw [if_neg c_37] at hF
              refine lv_iconst (v := 1) hx hb dX13_mat_164 (by decide) ?_
              refine lv_goto (tgt := 169) hx hb dX13_mat_165 (by decide) ?_
              have hF := prt_eq hF
              exact mr_i hC hH hr hF dX13_mat_169 hlocks
          rw [if_neg c_33] at hF
          by_cases c_38 : a1 = 4
          · rw [if_pos c_38] at hF
            refine gx_ti (y := 4) c_38 ?_
            refine lv_tableIn (off := 77) (tgt := 170) hx hb dX13_mat_93 (by decide) (by decide) rfl (by decide) ?_
            refine lv_aload_n hx hb dX13_mat_170 rfl (lv_at hl 0 rfl) ?_
            refine mg_26 hC hH dX13_mat_171 ?_
            refine lv_iload_n hx hb dX13_mat_174 rfl (lv_at hl 1 rfl) ?_
            obtain ⟨x_39, g_40, e_41, hF⟩ := prd_some hF
            refine ml_26 hC hH g_40 dX13_mat_175 ?_
            refine gx_ti e_41 ?_
            refine lv_if_eq (tgt := 183) hx hb dX13_mat_176 (by decide) (fun c_42 => ?_) (fun c_42 => ?_)
            · rw [if_pos c_42] at hF
              refine lv_iconst (v := 0) hx hb dX13_mat_183 (by decide) ?_
              have hF := prt_eq hF
              exact mr_i hC hH hr hF dX13_mat_184 hlocks
            · rw [if_neg c_42] at hF
              refine lv_iconst (v := 1) hx hb dX13_mat_179 (by decide) ?_
              refine lv_goto (tgt := 184) hx hb dX13_mat_180 (by decide) ?_
              have hF := prt_eq hF
              exact mr_i hC hH hr hF dX13_mat_184 hlocks
          rw [if_neg c_38] at hF
          refine lv_tableOut (tgt := 185) hx hb dX13_mat_93 (by have q0 := gl_ne c_21 (a := 0) (by decide); have q1 := gl_ne c_25 (a := 1) (by decide); have q2 := gl_ne c_29 (a := 2) (by decide); have q3 := gl_ne c_33 (a := 3) (by decide); have q4 := gl_ne c_38 (a := 4) (by decide); omega) (by decide) ?_
          refine lv_iconst (v := (-1)) hx hb dX13_mat_185 (by decide) ?_
          have hF := prt_eq hF
          exact mr_i hC hH hr hF dX13_mat_186 hlocks
        · rw [if_neg c_20] at hF
          refine lv_aload_n hx hb dX13_mat_74 rfl (lv_at hl 0 rfl) ?_
          refine mg_24 hC hH dX13_mat_75 ?_
          refine lv_bipush (v := 16) hx hb dX13_mat_78 (by decide) ?_
          refine lv_iload_n hx hb dX13_mat_80 rfl (lv_at hl 1 rfl) ?_
          refine lv_imul hx hb dX13_mat_81 ?_
          refine lv_bipush (v := 8) hx hb dX13_mat_82 (by decide) ?_
          refine lv_iadd hx hb dX13_mat_84 ?_
          refine lv_iload_n hx hb dX13_mat_85 rfl (lv_at hl 2 rfl) ?_
          refine lv_iadd hx hb dX13_mat_86 ?_
          refine lv_bipush (v := 20) hx hb dX13_mat_87 (by decide) ?_
          refine lv_isub hx hb dX13_mat_89 ?_
          obtain ⟨x_43, g_44, e_45, hF⟩ := prd_some hF
          refine ml_24 hC hH g_44 dX13_mat_90 ?_
          refine gx_ti e_45 ?_
          have hF := prt_eq hF
          exact mr_i hC hH hr hF dX13_mat_91 hlocks
      · rw [if_neg c_14] at hF
        refine lv_aload_n hx hb dX13_mat_39 rfl (lv_at hl 0 rfl) ?_
        refine mg_24 hC hH dX13_mat_40 ?_
        refine lv_bipush (v := 16) hx hb dX13_mat_43 (by decide) ?_
        refine lv_iload_n hx hb dX13_mat_45 rfl (lv_at hl 1 rfl) ?_
        refine lv_imul hx hb dX13_mat_46 ?_
        refine lv_iload_n hx hb dX13_mat_47 rfl (lv_at hl 2 rfl) ?_
        refine lv_iadd hx hb dX13_mat_48 ?_
        refine lv_bipush (v := 10) hx hb dX13_mat_49 (by decide) ?_
        refine lv_isub hx hb dX13_mat_51 ?_
        obtain ⟨x_46, g_47, e_48, hF⟩ := prd_some hF
        refine ml_24 hC hH g_47 dX13_mat_52 ?_
        refine gx_ti e_48 ?_
        have hF := prt_eq hF
        exact mr_i hC hH hr hF dX13_mat_53 hlocks
    · rw [if_pos c_8] at hF
      refine lv_iconst (v := (-1)) hx hb dX13_mat_17 (by decide) ?_
      have hF := prt_eq hF
      exact mr_i hC hH hr hF dX13_mat_18 hlocks
def lp_won_5 : Nat → Int32 → Int32 → Int32 → Int32 → (Int32 → Int32 → Int32 → Int32 → PG (Int32)) → PG (Int32)
  | 0, _, _, _, _, _ => fun _ => none
  | n5 + 1, v1, v2, v3, v4, K5_45 => pcl (f_fights v1) (fun r_1 => (if r_1 ≤ v4 then K5_45 v1 v2 v3 v4 else prd 18 160 ((40 * v1) + v4) (fun x_5 => (if x_5 = v2 then pli (v3 + 1) (fun x_13 => pli (v4 + 1) (fun x_15 => lp_won_5 n5 v1 v2 x_13 x_15 K5_45)) else pli (v3 + 0) (fun x_9 => pli (v4 + 1) (fun x_11 => lp_won_5 n5 v1 v2 x_9 x_11 K5_45))))))
def f_won (a0 : Int32) (a1 : Int32) : PG (Int32) := lp_won_5 fuel a0 a1 0 0 (fun v1 v2 v3 v4 => prt v3)
set_option maxHeartbeats 4000000 in
set_option maxRecDepth 100000 in
theorem m_won (l : Launch) (G : gG) (Z : gM) (Q : Nat → Nat) (u u1 : GS) (r : Int32) (a0 : Int32) (a1 : Int32) (sz : Nat) (hF : f_won a0 a1 u = some (r, u1)) : Met l yX13_won (Cond.code yX13_won cX13_won 5 (some .int) :: wM) { frames := 3, cells := 0, slots := 0, locals := 65 } (va_Pc [.ref (Q 72), .int a0, .int a1] (mPM G Z Q u.1 sz)) (mQi G Q u1.1 r sz) 0 0 (mA Q sz) := by
  refine Met.ofW (cc := cX13_won) (maxL := 5) (ret := (some .int)) (by decide) rfl ?_
  intro p e s m args below meth c s₁ B hml hv
  obtain ⟨rfl, rfl, hP, hB, hD, hE⟩ := hv
  have hr := B.returns
  have hlocks := B.notSynchronized
  have hts := atoms_spec (ws := Cond.code yX13_won cX13_won 5 (some .int) :: wM) B.pre
  have hC : mX p c cX13_won 5 s m _ G Z Q := ⟨B.exec, B.bytes, hml, findClass_of_methodNamed B.named, fun w h => hts w (List.mem_cons_of_mem _ h), hB, hE⟩
  have hx := hC.1
  have hb := hC.2.1
  have hH : mH G Q u.1 s s.heap [] := ⟨hP, hD, va_S.rf⟩
  have hl := lv_entry ([.ref (Q 72), .int a0, .int a1]) (n := 5) (Nat.le_of_ble_eq_true rfl)
  rw [lg_entry_eq]
  generalize (lg_sl ([.ref (Q 72), .int a0, .int a1]) ++ List.replicate (5 - (lg_sl ([.ref (Q 72), .int a0, .int a1])).length) Slot.unset).toArray = ls at hl ⊢
  have hl : lv_has ls 5 [(0, .ref (Q 72)), (1, .int a0), (2, .int a1)] := hl
  unfold f_won at hF
  refine lv_iconst (v := 0) hx hb dX13_won_0 (by decide) ?_
  refine lv_istore_n (lv' := [(3, .int 0), (0, .ref (Q 72)), (1, .int a0), (2, .int a1)]) hx hb dX13_won_1 rfl hl (by decide) rfl (fun ls hl => ?_)
  refine lv_iconst (v := 0) hx hb dX13_won_2 (by decide) ?_
  refine lv_istore (lv' := [(4, .int 0), (3, .int 0), (0, .ref (Q 72)), (1, .int a0), (2, .int a1)]) hx hb dX13_won_3 hl (by decide) rfl (fun ls hl => ?_)
  have hL5 : ∀ (K5_45 : Int32 → Int32 → Int32 → Int32 → PG (Int32)), (∀ (v1 v2 v3 v4 : Int32) (u : GS) (H : Heap) (locs : List Loc) (ls : Array Slot), lv_has ls 5 [(0, .ref (Q 72)), (1, .int v1), (2, .int v2), (3, .int v3), (4, .int v4)] → mH G Q u.1 s H locs → K5_45 v1 v2 v3 v4 u = some ((r, u1)) → W p l e (headSpec (Cond.code yX13_won cX13_won 5 (some .int) :: wM) { frames := 3, cells := 0, slots := 0, locals := 65 }).room s m [.ref (Q 72), .int a0, .int a1].toArray below meth c H locs 0 0 (MQ below (mQi G Q u1.1 r s.heap.size) [.ref (Q 72), .int a0, .int a1].toArray s 0 0 (mA Q s.heap.size)) (F0 m 45 ls [])) → ∀ (n5 : Nat) (v1 v2 v3 v4 : Int32) (u : GS) (H : Heap) (locs : List Loc) (ls : Array Slot), lv_has ls 5 [(0, .ref (Q 72)), (1, .int v1), (2, .int v2), (3, .int v3), (4, .int v4)] → mH G Q u.1 s H locs → lp_won_5 n5 v1 v2 v3 v4 K5_45 u = some ((r, u1)) → W p l e (headSpec (Cond.code yX13_won cX13_won 5 (some .int) :: wM) { frames := 3, cells := 0, slots := 0, locals := 65 }).room s m [.ref (Q 72), .int a0, .int a1].toArray below meth c H locs 0 0 (MQ below (mQi G Q u1.1 r s.heap.size) [.ref (Q 72), .int a0, .int a1].toArray s 0 0 (mA Q s.heap.size)) (F0 m 5 ls []) := by
    intro K5_45 hK5_45 n5
    induction n5 with
    | zero => intro v1 v2 v3 v4 u H locs ls hl hH hF; cases hF
    | succ n5 ih5 =>
      intro v1 v2 v3 v4 u H locs ls hl hH hF
      unfold lp_won_5 at hF
      refine lv_iload hx hb dX13_won_5 (lv_at hl 4 rfl) ?_
      refine lv_aload_n hx hb dX13_won_7 rfl (lv_at hl 0 rfl) ?_
      refine lv_iload_n hx hb dX13_won_8 rfl (lv_at hl 1 rfl) ?_
      obtain ⟨r_1, u_2, h_3, hF⟩ := pcl_some hF
      refine mcV_i (As := [.int v1]) (rest := [.int v4]) hC hH (m_fights l G Z Q u u_2 r_1 v1 _ h_3) kwX13_fights kVX13_fights ⟨Nat.le_of_ble_eq_true rfl, Nat.le_of_ble_eq_true rfl⟩ rfl hl.1 rfl (Nat.le_of_ble_eq_true rfl) dX13_won_9 (fun H locs hH => ?_)
      refine lv_icmp_ge (tgt := 45) hx hb dX13_won_12 (by decide) (fun c_4 => ?_) (fun c_4 => ?_)
      · rw [if_pos c_4] at hF
        exact hK5_45 v1 v2 v3 v4 u_2 _ _ _ (lv_sub hl [0, 1, 2, 3, 4] rfl) hH hF
      · rw [if_neg c_4] at hF
        refine lv_iload_n hx hb dX13_won_15 rfl (lv_at hl 3 rfl) ?_
        refine lv_aload_n hx hb dX13_won_16 rfl (lv_at hl 0 rfl) ?_
        refine mg_18 hC hH dX13_won_17 ?_
        refine lv_bipush (v := 40) hx hb dX13_won_20 (by decide) ?_
        refine lv_iload_n hx hb dX13_won_22 rfl (lv_at hl 1 rfl) ?_
        refine lv_imul hx hb dX13_won_23 ?_
        refine lv_iload hx hb dX13_won_24 (lv_at hl 4 rfl) ?_
        refine lv_iadd hx hb dX13_won_26 ?_
        obtain ⟨x_5, g_6, e_7, hF⟩ := prd_some hF
        refine ml_18 hC hH g_6 dX13_won_27 ?_
        refine gx_ti e_7 ?_
        refine lv_iload_n hx hb dX13_won_28 rfl (lv_at hl 2 rfl) ?_
        refine lv_icmp_ne (tgt := 36) hx hb dX13_won_29 (by decide) (fun c_8 => ?_) (fun c_8 => ?_)
        · rw [if_neg c_8] at hF
          refine lv_iconst (v := 0) hx hb dX13_won_36 (by decide) ?_
          refine lv_iadd hx hb dX13_won_37 ?_
          obtain ⟨x_9, e_10, hF⟩ := pli_some hF
          refine gx_ti e_10 ?_
          refine lv_istore_n (lv' := [(3, .int x_9), (0, .ref (Q 72)), (1, .int v1), (2, .int v2), (4, .int v4)]) hx hb dX13_won_38 rfl hl (by decide) rfl (fun ls hl => ?_)
          obtain ⟨x_11, e_12, hF⟩ := pli_some hF
          refine lv_iinc (v := x_11) (lv' := [(4, .int x_11), (3, .int x_9), (0, .ref (Q 72)), (1, .int v1), (2, .int v2)]) hx hb dX13_won_39 hl (k := 4) rfl e_12 (by decide) rfl (fun ls hl => ?_)
          refine lv_goto (tgt := 5) hx hb dX13_won_42 (by decide) ?_
          exact ih5 v1 v2 x_9 x_11 u_2 _ _ _ (lv_sub hl [2, 3, 4, 1, 0] rfl) hH hF
        · rw [if_pos c_8] at hF
          refine lv_iconst (v := 1) hx hb dX13_won_32 (by decide) ?_
          refine lv_goto (tgt := 37) hx hb dX13_won_33 (by decide) ?_
          refine lv_iadd hx hb dX13_won_37 ?_
          obtain ⟨x_13, e_14, hF⟩ := pli_some hF
          refine gx_ti e_14 ?_
          refine lv_istore_n (lv' := [(3, .int x_13), (0, .ref (Q 72)), (1, .int v1), (2, .int v2), (4, .int v4)]) hx hb dX13_won_38 rfl hl (by decide) rfl (fun ls hl => ?_)
          obtain ⟨x_15, e_16, hF⟩ := pli_some hF
          refine lv_iinc (v := x_15) (lv' := [(4, .int x_15), (3, .int x_13), (0, .ref (Q 72)), (1, .int v1), (2, .int v2)]) hx hb dX13_won_39 hl (k := 4) rfl e_16 (by decide) rfl (fun ls hl => ?_)
          refine lv_goto (tgt := 5) hx hb dX13_won_42 (by decide) ?_
          exact ih5 v1 v2 x_13 x_15 u_2 _ _ _ (lv_sub hl [2, 3, 4, 1, 0] rfl) hH hF
  refine hL5 _ (fun v1 v2 v3 v4 u H locs ls hl hH hF => ?_) fuel a0 a1 0 0 u _ _ _ (lv_sub hl [2, 3, 4, 1, 0] rfl) hH hF
  refine lv_iload_n hx hb dX13_won_45 rfl (lv_at hl 3 rfl) ?_
  have hF := prt_eq hF
  exact mr_i hC hH hr hF dX13_won_46 hlocks
def lp_sum_5 : Nat → Int32 → Int32 → Int32 → Int32 → (Int32 → Int32 → Int32 → Int32 → PG (Int32)) → PG (Int32)
  | 0, _, _, _, _, _ => fun _ => none
  | n5 + 1, v1, v2, v3, v4, K5_56 => pcl (f_fights v1) (fun r_1 => (if r_1 ≤ v4 then K5_56 v1 v2 v3 v4 else prd 18 160 ((40 * v1) + v4) (fun x_5 => (if x_5 = v2 then prd 20 160 ((40 * v1) + v4) (fun x_13 => pli (v3 + x_13) (fun x_16 => pli (v4 + 1) (fun x_18 => lp_sum_5 n5 v1 v2 x_16 x_18 K5_56))) else pli (v3 + 0) (fun x_9 => pli (v4 + 1) (fun x_11 => lp_sum_5 n5 v1 v2 x_9 x_11 K5_56))))))
def f_sum (a0 : Int32) (a1 : Int32) : PG (Int32) := lp_sum_5 fuel a0 a1 0 0 (fun v1 v2 v3 v4 => prt v3)
set_option maxHeartbeats 4000000 in
set_option maxRecDepth 100000 in
theorem m_sum (l : Launch) (G : gG) (Z : gM) (Q : Nat → Nat) (u u1 : GS) (r : Int32) (a0 : Int32) (a1 : Int32) (sz : Nat) (hF : f_sum a0 a1 u = some (r, u1)) : Met l yX13_sum (Cond.code yX13_sum cX13_sum 5 (some .int) :: wM) { frames := 3, cells := 0, slots := 0, locals := 65 } (va_Pc [.ref (Q 72), .int a0, .int a1] (mPM G Z Q u.1 sz)) (mQi G Q u1.1 r sz) 0 0 (mA Q sz) := by
  refine Met.ofW (cc := cX13_sum) (maxL := 5) (ret := (some .int)) (by decide) rfl ?_
  intro p e s m args below meth c s₁ B hml hv
  obtain ⟨rfl, rfl, hP, hB, hD, hE⟩ := hv
  have hr := B.returns
  have hlocks := B.notSynchronized
  have hts := atoms_spec (ws := Cond.code yX13_sum cX13_sum 5 (some .int) :: wM) B.pre
  have hC : mX p c cX13_sum 5 s m _ G Z Q := ⟨B.exec, B.bytes, hml, findClass_of_methodNamed B.named, fun w h => hts w (List.mem_cons_of_mem _ h), hB, hE⟩
  have hx := hC.1
  have hb := hC.2.1
  have hH : mH G Q u.1 s s.heap [] := ⟨hP, hD, va_S.rf⟩
  have hl := lv_entry ([.ref (Q 72), .int a0, .int a1]) (n := 5) (Nat.le_of_ble_eq_true rfl)
  rw [lg_entry_eq]
  generalize (lg_sl ([.ref (Q 72), .int a0, .int a1]) ++ List.replicate (5 - (lg_sl ([.ref (Q 72), .int a0, .int a1])).length) Slot.unset).toArray = ls at hl ⊢
  have hl : lv_has ls 5 [(0, .ref (Q 72)), (1, .int a0), (2, .int a1)] := hl
  unfold f_sum at hF
  refine lv_iconst (v := 0) hx hb dX13_sum_0 (by decide) ?_
  refine lv_istore_n (lv' := [(3, .int 0), (0, .ref (Q 72)), (1, .int a0), (2, .int a1)]) hx hb dX13_sum_1 rfl hl (by decide) rfl (fun ls hl => ?_)
  refine lv_iconst (v := 0) hx hb dX13_sum_2 (by decide) ?_
  refine lv_istore (lv' := [(4, .int 0), (3, .int 0), (0, .ref (Q 72)), (1, .int a0), (2, .int a1)]) hx hb dX13_sum_3 hl (by decide) rfl (fun ls hl => ?_)
  have hL5 : ∀ (K5_56 : Int32 → Int32 → Int32 → Int32 → PG (Int32)), (∀ (v1 v2 v3 v4 : Int32) (u : GS) (H : Heap) (locs : List Loc) (ls : Array Slot), lv_has ls 5 [(0, .ref (Q 72)), (1, .int v1), (2, .int v2), (3, .int v3), (4, .int v4)] → mH G Q u.1 s H locs → K5_56 v1 v2 v3 v4 u = some ((r, u1)) → W p l e (headSpec (Cond.code yX13_sum cX13_sum 5 (some .int) :: wM) { frames := 3, cells := 0, slots := 0, locals := 65 }).room s m [.ref (Q 72), .int a0, .int a1].toArray below meth c H locs 0 0 (MQ below (mQi G Q u1.1 r s.heap.size) [.ref (Q 72), .int a0, .int a1].toArray s 0 0 (mA Q s.heap.size)) (F0 m 56 ls [])) → ∀ (n5 : Nat) (v1 v2 v3 v4 : Int32) (u : GS) (H : Heap) (locs : List Loc) (ls : Array Slot), lv_has ls 5 [(0, .ref (Q 72)), (1, .int v1), (2, .int v2), (3, .int v3), (4, .int v4)] → mH G Q u.1 s H locs → lp_sum_5 n5 v1 v2 v3 v4 K5_56 u = some ((r, u1)) → W p l e (headSpec (Cond.code yX13_sum cX13_sum 5 (some .int) :: wM) { frames := 3, cells := 0, slots := 0, locals := 65 }).room s m [.ref (Q 72), .int a0, .int a1].toArray below meth c H locs 0 0 (MQ below (mQi G Q u1.1 r s.heap.size) [.ref (Q 72), .int a0, .int a1].toArray s 0 0 (mA Q s.heap.size)) (F0 m 5 ls []) := by
    intro K5_56 hK5_56 n5
    induction n5 with
    | zero => intro v1 v2 v3 v4 u H locs ls hl hH hF; cases hF
    | succ n5 ih5 =>
      intro v1 v2 v3 v4 u H locs ls hl hH hF
      unfold lp_sum_5 at hF
      refine lv_iload hx hb dX13_sum_5 (lv_at hl 4 rfl) ?_
      refine lv_aload_n hx hb dX13_sum_7 rfl (lv_at hl 0 rfl) ?_
      refine lv_iload_n hx hb dX13_sum_8 rfl (lv_at hl 1 rfl) ?_
      obtain ⟨r_1, u_2, h_3, hF⟩ := pcl_some hF
      refine mcV_i (As := [.int v1]) (rest := [.int v4]) hC hH (m_fights l G Z Q u u_2 r_1 v1 _ h_3) kwX13_fights kVX13_fights ⟨Nat.le_of_ble_eq_true rfl, Nat.le_of_ble_eq_true rfl⟩ rfl hl.1 rfl (Nat.le_of_ble_eq_true rfl) dX13_sum_9 (fun H locs hH => ?_)
      refine lv_icmp_ge (tgt := 56) hx hb dX13_sum_12 (by decide) (fun c_4 => ?_) (fun c_4 => ?_)
      · rw [if_pos c_4] at hF
        exact hK5_56 v1 v2 v3 v4 u_2 _ _ _ (lv_sub hl [0, 1, 2, 3, 4] rfl) hH hF
      · rw [if_neg c_4] at hF
        refine lv_iload_n hx hb dX13_sum_15 rfl (lv_at hl 3 rfl) ?_
        refine lv_aload_n hx hb dX13_sum_16 rfl (lv_at hl 0 rfl) ?_
        refine mg_18 hC hH dX13_sum_17 ?_
        refine lv_bipush (v := 40) hx hb dX13_sum_20 (by decide) ?_
        refine lv_iload_n hx hb dX13_sum_22 rfl (lv_at hl 1 rfl) ?_
        refine lv_imul hx hb dX13_sum_23 ?_
        refine lv_iload hx hb dX13_sum_24 (lv_at hl 4 rfl) ?_
        refine lv_iadd hx hb dX13_sum_26 ?_
        obtain ⟨x_5, g_6, e_7, hF⟩ := prd_some hF
        refine ml_18 hC hH g_6 dX13_sum_27 ?_
        refine gx_ti e_7 ?_
        refine lv_iload_n hx hb dX13_sum_28 rfl (lv_at hl 2 rfl) ?_
        refine lv_icmp_ne (tgt := 47) hx hb dX13_sum_29 (by decide) (fun c_8 => ?_) (fun c_8 => ?_)
        · rw [if_neg c_8] at hF
          refine lv_iconst (v := 0) hx hb dX13_sum_47 (by decide) ?_
          refine lv_iadd hx hb dX13_sum_48 ?_
          obtain ⟨x_9, e_10, hF⟩ := pli_some hF
          refine gx_ti e_10 ?_
          refine lv_istore_n (lv' := [(3, .int x_9), (0, .ref (Q 72)), (1, .int v1), (2, .int v2), (4, .int v4)]) hx hb dX13_sum_49 rfl hl (by decide) rfl (fun ls hl => ?_)
          obtain ⟨x_11, e_12, hF⟩ := pli_some hF
          refine lv_iinc (v := x_11) (lv' := [(4, .int x_11), (3, .int x_9), (0, .ref (Q 72)), (1, .int v1), (2, .int v2)]) hx hb dX13_sum_50 hl (k := 4) rfl e_12 (by decide) rfl (fun ls hl => ?_)
          refine lv_goto (tgt := 5) hx hb dX13_sum_53 (by decide) ?_
          exact ih5 v1 v2 x_9 x_11 u_2 _ _ _ (lv_sub hl [2, 3, 4, 1, 0] rfl) hH hF
        · rw [if_pos c_8] at hF
          refine lv_aload_n hx hb dX13_sum_32 rfl (lv_at hl 0 rfl) ?_
          refine mg_20 hC hH dX13_sum_33 ?_
          refine lv_bipush (v := 40) hx hb dX13_sum_36 (by decide) ?_
          refine lv_iload_n hx hb dX13_sum_38 rfl (lv_at hl 1 rfl) ?_
          refine lv_imul hx hb dX13_sum_39 ?_
          refine lv_iload hx hb dX13_sum_40 (lv_at hl 4 rfl) ?_
          refine lv_iadd hx hb dX13_sum_42 ?_
          obtain ⟨x_13, g_14, e_15, hF⟩ := prd_some hF
          refine ml_20 hC hH g_14 dX13_sum_43 ?_
          refine gx_ti e_15 ?_
          refine lv_goto (tgt := 48) hx hb dX13_sum_44 (by decide) ?_
          refine lv_iadd hx hb dX13_sum_48 ?_
          obtain ⟨x_16, e_17, hF⟩ := pli_some hF
          refine gx_ti e_17 ?_
          refine lv_istore_n (lv' := [(3, .int x_16), (0, .ref (Q 72)), (1, .int v1), (2, .int v2), (4, .int v4)]) hx hb dX13_sum_49 rfl hl (by decide) rfl (fun ls hl => ?_)
          obtain ⟨x_18, e_19, hF⟩ := pli_some hF
          refine lv_iinc (v := x_18) (lv' := [(4, .int x_18), (3, .int x_16), (0, .ref (Q 72)), (1, .int v1), (2, .int v2)]) hx hb dX13_sum_50 hl (k := 4) rfl e_19 (by decide) rfl (fun ls hl => ?_)
          refine lv_goto (tgt := 5) hx hb dX13_sum_53 (by decide) ?_
          exact ih5 v1 v2 x_16 x_18 u_2 _ _ _ (lv_sub hl [2, 3, 4, 1, 0] rfl) hH hF
  refine hL5 _ (fun v1 v2 v3 v4 u H locs ls hl hH hF => ?_) fuel a0 a1 0 0 u _ _ _ (lv_sub hl [2, 3, 4, 1, 0] rfl) hH hF
  refine lv_iload_n hx hb dX13_sum_56 rfl (lv_at hl 3 rfl) ?_
  have hF := prt_eq hF
  exact mr_i hC hH hr hF dX13_sum_57 hlocks
def lp_alike_5 : Nat → Int32 → Int32 → Int32 → Int32 → (Int32 → Int32 → Int32 → Int32 → PG (Int32)) → PG (Int32)
  | 0, _, _, _, _, _ => fun _ => none
  | n5 + 1, v1, v2, v3, v4, K5_82 => prd 13 4 v1 (fun x_1 => (if x_1 ≤ v4 then K5_82 v1 v2 v3 v4 else prd 14 128 ((32 * v1) + v4) (fun x_5 => pcl (f_won v1 x_5) (fun r_8 => pcl (f_won v1 v2) (fun r_11 => (if r_8 = r_11 then prd 14 128 ((32 * v1) + v4) (fun x_19 => pcl (f_sum v1 x_19) (fun r_22 => pcl (f_sum v1 v2) (fun r_25 => (if r_22 = r_25 then pli (v3 + 1) (fun x_33 => pli (v4 + 1) (fun x_35 => lp_alike_5 n5 v1 v2 x_33 x_35 K5_82)) else pli (v3 + 0) (fun x_29 => pli (v4 + 1) (fun x_31 => lp_alike_5 n5 v1 v2 x_29 x_31 K5_82)))))) else pli (v3 + 0) (fun x_15 => pli (v4 + 1) (fun x_17 => lp_alike_5 n5 v1 v2 x_15 x_17 K5_82))))))))
def f_alike (a0 : Int32) (a1 : Int32) : PG (Int32) := lp_alike_5 fuel a0 a1 0 0 (fun v1 v2 v3 v4 => prt v3)
set_option maxHeartbeats 4000000 in
set_option maxRecDepth 100000 in
theorem m_alike (l : Launch) (G : gG) (Z : gM) (Q : Nat → Nat) (u u1 : GS) (r : Int32) (a0 : Int32) (a1 : Int32) (sz : Nat) (hF : f_alike a0 a1 u = some (r, u1)) : Met l yX13_alike (Cond.code yX13_alike cX13_alike 5 (some .int) :: wM) { frames := 4, cells := 0, slots := 0, locals := 89 } (va_Pc [.ref (Q 72), .int a0, .int a1] (mPM G Z Q u.1 sz)) (mQi G Q u1.1 r sz) 0 0 (mA Q sz) := by
  refine Met.ofW (cc := cX13_alike) (maxL := 5) (ret := (some .int)) (by decide) rfl ?_
  intro p e s m args below meth c s₁ B hml hv
  obtain ⟨rfl, rfl, hP, hB, hD, hE⟩ := hv
  have hr := B.returns
  have hlocks := B.notSynchronized
  have hts := atoms_spec (ws := Cond.code yX13_alike cX13_alike 5 (some .int) :: wM) B.pre
  have hC : mX p c cX13_alike 5 s m _ G Z Q := ⟨B.exec, B.bytes, hml, findClass_of_methodNamed B.named, fun w h => hts w (List.mem_cons_of_mem _ h), hB, hE⟩
  have hx := hC.1
  have hb := hC.2.1
  have hH : mH G Q u.1 s s.heap [] := ⟨hP, hD, va_S.rf⟩
  have hl := lv_entry ([.ref (Q 72), .int a0, .int a1]) (n := 5) (Nat.le_of_ble_eq_true rfl)
  rw [lg_entry_eq]
  generalize (lg_sl ([.ref (Q 72), .int a0, .int a1]) ++ List.replicate (5 - (lg_sl ([.ref (Q 72), .int a0, .int a1])).length) Slot.unset).toArray = ls at hl ⊢
  have hl : lv_has ls 5 [(0, .ref (Q 72)), (1, .int a0), (2, .int a1)] := hl
  unfold f_alike at hF
  refine lv_iconst (v := 0) hx hb dX13_alike_0 (by decide) ?_
  refine lv_istore_n (lv' := [(3, .int 0), (0, .ref (Q 72)), (1, .int a0), (2, .int a1)]) hx hb dX13_alike_1 rfl hl (by decide) rfl (fun ls hl => ?_)
  refine lv_iconst (v := 0) hx hb dX13_alike_2 (by decide) ?_
  refine lv_istore (lv' := [(4, .int 0), (3, .int 0), (0, .ref (Q 72)), (1, .int a0), (2, .int a1)]) hx hb dX13_alike_3 hl (by decide) rfl (fun ls hl => ?_)
  have hL5 : ∀ (K5_82 : Int32 → Int32 → Int32 → Int32 → PG (Int32)), (∀ (v1 v2 v3 v4 : Int32) (u : GS) (H : Heap) (locs : List Loc) (ls : Array Slot), lv_has ls 5 [(0, .ref (Q 72)), (1, .int v1), (2, .int v2), (3, .int v3), (4, .int v4)] → mH G Q u.1 s H locs → K5_82 v1 v2 v3 v4 u = some ((r, u1)) → W p l e (headSpec (Cond.code yX13_alike cX13_alike 5 (some .int) :: wM) { frames := 4, cells := 0, slots := 0, locals := 89 }).room s m [.ref (Q 72), .int a0, .int a1].toArray below meth c H locs 0 0 (MQ below (mQi G Q u1.1 r s.heap.size) [.ref (Q 72), .int a0, .int a1].toArray s 0 0 (mA Q s.heap.size)) (F0 m 82 ls [])) → ∀ (n5 : Nat) (v1 v2 v3 v4 : Int32) (u : GS) (H : Heap) (locs : List Loc) (ls : Array Slot), lv_has ls 5 [(0, .ref (Q 72)), (1, .int v1), (2, .int v2), (3, .int v3), (4, .int v4)] → mH G Q u.1 s H locs → lp_alike_5 n5 v1 v2 v3 v4 K5_82 u = some ((r, u1)) → W p l e (headSpec (Cond.code yX13_alike cX13_alike 5 (some .int) :: wM) { frames := 4, cells := 0, slots := 0, locals := 89 }).room s m [.ref (Q 72), .int a0, .int a1].toArray below meth c H locs 0 0 (MQ below (mQi G Q u1.1 r s.heap.size) [.ref (Q 72), .int a0, .int a1].toArray s 0 0 (mA Q s.heap.size)) (F0 m 5 ls []) := by
    intro K5_82 hK5_82 n5
    induction n5 with
    | zero => intro v1 v2 v3 v4 u H locs ls hl hH hF; cases hF
    | succ n5 ih5 =>
      intro v1 v2 v3 v4 u H locs ls hl hH hF
      unfold lp_alike_5 at hF
      refine lv_iload hx hb dX13_alike_5 (lv_at hl 4 rfl) ?_
      refine lv_aload_n hx hb dX13_alike_7 rfl (lv_at hl 0 rfl) ?_
      refine mg_13 hC hH dX13_alike_8 ?_
      refine lv_iload_n hx hb dX13_alike_11 rfl (lv_at hl 1 rfl) ?_
      obtain ⟨x_1, g_2, e_3, hF⟩ := prd_some hF
      refine ml_13 hC hH g_2 dX13_alike_12 ?_
      refine gx_ti e_3 ?_
      refine lv_icmp_ge (tgt := 82) hx hb dX13_alike_13 (by decide) (fun c_4 => ?_) (fun c_4 => ?_)
      · rw [if_pos c_4] at hF
        exact hK5_82 v1 v2 v3 v4 u _ _ _ (lv_sub hl [0, 1, 2, 3, 4] rfl) hH hF
      · rw [if_neg c_4] at hF
        refine lv_iload_n hx hb dX13_alike_16 rfl (lv_at hl 3 rfl) ?_
        refine lv_aload_n hx hb dX13_alike_17 rfl (lv_at hl 0 rfl) ?_
        refine lv_iload_n hx hb dX13_alike_18 rfl (lv_at hl 1 rfl) ?_
        refine lv_aload_n hx hb dX13_alike_19 rfl (lv_at hl 0 rfl) ?_
        refine mg_14 hC hH dX13_alike_20 ?_
        refine lv_bipush (v := 32) hx hb dX13_alike_23 (by decide) ?_
        refine lv_iload_n hx hb dX13_alike_25 rfl (lv_at hl 1 rfl) ?_
        refine lv_imul hx hb dX13_alike_26 ?_
        refine lv_iload hx hb dX13_alike_27 (lv_at hl 4 rfl) ?_
        refine lv_iadd hx hb dX13_alike_29 ?_
        obtain ⟨x_5, g_6, e_7, hF⟩ := prd_some hF
        refine ml_14 hC hH g_6 dX13_alike_30 ?_
        refine gx_ti e_7 ?_
        obtain ⟨r_8, u_9, h_10, hF⟩ := pcl_some hF
        refine mcV_i (As := [.int v1, .int x_5]) (rest := [.int v3]) hC hH (m_won l G Z Q u u_9 r_8 v1 x_5 _ h_10) kwX13_won kVX13_won ⟨Nat.le_of_ble_eq_true rfl, Nat.le_of_ble_eq_true rfl⟩ rfl hl.1 rfl (Nat.le_of_ble_eq_true rfl) dX13_alike_31 (fun H locs hH => ?_)
        refine lv_aload_n hx hb dX13_alike_34 rfl (lv_at hl 0 rfl) ?_
        refine lv_iload_n hx hb dX13_alike_35 rfl (lv_at hl 1 rfl) ?_
        refine lv_iload_n hx hb dX13_alike_36 rfl (lv_at hl 2 rfl) ?_
        obtain ⟨r_11, u_12, h_13, hF⟩ := pcl_some hF
        refine mcV_i (As := [.int v1, .int v2]) (rest := [.int r_8, .int v3]) hC hH (m_won l G Z Q u_9 u_12 r_11 v1 v2 _ h_13) kwX13_won kVX13_won ⟨Nat.le_of_ble_eq_true rfl, Nat.le_of_ble_eq_true rfl⟩ rfl hl.1 rfl (Nat.le_of_ble_eq_true rfl) dX13_alike_37 (fun H locs hH => ?_)
        refine lv_icmp_ne (tgt := 73) hx hb dX13_alike_40 (by decide) (fun c_14 => ?_) (fun c_14 => ?_)
        · rw [if_neg c_14] at hF
          refine lv_iconst (v := 0) hx hb dX13_alike_73 (by decide) ?_
          refine lv_iadd hx hb dX13_alike_74 ?_
          obtain ⟨x_15, e_16, hF⟩ := pli_some hF
          refine gx_ti e_16 ?_
          refine lv_istore_n (lv' := [(3, .int x_15), (0, .ref (Q 72)), (1, .int v1), (2, .int v2), (4, .int v4)]) hx hb dX13_alike_75 rfl hl (by decide) rfl (fun ls hl => ?_)
          obtain ⟨x_17, e_18, hF⟩ := pli_some hF
          refine lv_iinc (v := x_17) (lv' := [(4, .int x_17), (3, .int x_15), (0, .ref (Q 72)), (1, .int v1), (2, .int v2)]) hx hb dX13_alike_76 hl (k := 4) rfl e_18 (by decide) rfl (fun ls hl => ?_)
          refine lv_goto (tgt := 5) hx hb dX13_alike_79 (by decide) ?_
          exact ih5 v1 v2 x_15 x_17 u_12 _ _ _ (lv_sub hl [2, 3, 4, 1, 0] rfl) hH hF
        · rw [if_pos c_14] at hF
          refine lv_aload_n hx hb dX13_alike_43 rfl (lv_at hl 0 rfl) ?_
          refine lv_iload_n hx hb dX13_alike_44 rfl (lv_at hl 1 rfl) ?_
          refine lv_aload_n hx hb dX13_alike_45 rfl (lv_at hl 0 rfl) ?_
          refine mg_14 hC hH dX13_alike_46 ?_
          refine lv_bipush (v := 32) hx hb dX13_alike_49 (by decide) ?_
          refine lv_iload_n hx hb dX13_alike_51 rfl (lv_at hl 1 rfl) ?_
          refine lv_imul hx hb dX13_alike_52 ?_
          refine lv_iload hx hb dX13_alike_53 (lv_at hl 4 rfl) ?_
          refine lv_iadd hx hb dX13_alike_55 ?_
          obtain ⟨x_19, g_20, e_21, hF⟩ := prd_some hF
          refine ml_14 hC hH g_20 dX13_alike_56 ?_
          refine gx_ti e_21 ?_
          obtain ⟨r_22, u_23, h_24, hF⟩ := pcl_some hF
          refine mcV_i (As := [.int v1, .int x_19]) (rest := [.int v3]) hC hH (m_sum l G Z Q u_12 u_23 r_22 v1 x_19 _ h_24) kwX13_sum kVX13_sum ⟨Nat.le_of_ble_eq_true rfl, Nat.le_of_ble_eq_true rfl⟩ rfl hl.1 rfl (Nat.le_of_ble_eq_true rfl) dX13_alike_57 (fun H locs hH => ?_)
          refine lv_aload_n hx hb dX13_alike_60 rfl (lv_at hl 0 rfl) ?_
          refine lv_iload_n hx hb dX13_alike_61 rfl (lv_at hl 1 rfl) ?_
          refine lv_iload_n hx hb dX13_alike_62 rfl (lv_at hl 2 rfl) ?_
          obtain ⟨r_25, u_26, h_27, hF⟩ := pcl_some hF
          refine mcV_i (As := [.int v1, .int v2]) (rest := [.int r_22, .int v3]) hC hH (m_sum l G Z Q u_23 u_26 r_25 v1 v2 _ h_27) kwX13_sum kVX13_sum ⟨Nat.le_of_ble_eq_true rfl, Nat.le_of_ble_eq_true rfl⟩ rfl hl.1 rfl (Nat.le_of_ble_eq_true rfl) dX13_alike_63 (fun H locs hH => ?_)
          refine lv_icmp_ne (tgt := 73) hx hb dX13_alike_66 (by decide) (fun c_28 => ?_) (fun c_28 => ?_)
          · rw [if_neg c_28] at hF
            refine lv_iconst (v := 0) hx hb dX13_alike_73 (by decide) ?_
            refine lv_iadd hx hb dX13_alike_74 ?_
            obtain ⟨x_29, e_30, hF⟩ := pli_some hF
            refine gx_ti e_30 ?_
            refine lv_istore_n (lv' := [(3, .int x_29), (0, .ref (Q 72)), (1, .int v1), (2, .int v2), (4, .int v4)]) hx hb dX13_alike_75 rfl hl (by decide) rfl (fun ls hl => ?_)
            obtain ⟨x_31, e_32, hF⟩ := pli_some hF
            refine lv_iinc (v := x_31) (lv' := [(4, .int x_31), (3, .int x_29), (0, .ref (Q 72)), (1, .int v1), (2, .int v2)]) hx hb dX13_alike_76 hl (k := 4) rfl e_32 (by decide) rfl (fun ls hl => ?_)
            refine lv_goto (tgt := 5) hx hb dX13_alike_79 (by decide) ?_
            exact ih5 v1 v2 x_29 x_31 u_26 _ _ _ (lv_sub hl [2, 3, 4, 1, 0] rfl) hH hF
          · rw [if_pos c_28] at hF
            refine lv_iconst (v := 1) hx hb dX13_alike_69 (by decide) ?_
            refine lv_goto (tgt := 74) hx hb dX13_alike_70 (by decide) ?_
            refine lv_iadd hx hb dX13_alike_74 ?_
            obtain ⟨x_33, e_34, hF⟩ := pli_some hF
            refine gx_ti e_34 ?_
            refine lv_istore_n (lv' := [(3, .int x_33), (0, .ref (Q 72)), (1, .int v1), (2, .int v2), (4, .int v4)]) hx hb dX13_alike_75 rfl hl (by decide) rfl (fun ls hl => ?_)
            obtain ⟨x_35, e_36, hF⟩ := pli_some hF
            refine lv_iinc (v := x_35) (lv' := [(4, .int x_35), (3, .int x_33), (0, .ref (Q 72)), (1, .int v1), (2, .int v2)]) hx hb dX13_alike_76 hl (k := 4) rfl e_36 (by decide) rfl (fun ls hl => ?_)
            refine lv_goto (tgt := 5) hx hb dX13_alike_79 (by decide) ?_
            exact ih5 v1 v2 x_33 x_35 u_26 _ _ _ (lv_sub hl [2, 3, 4, 1, 0] rfl) hH hF
  refine hL5 _ (fun v1 v2 v3 v4 u H locs ls hl hH hF => ?_) fuel a0 a1 0 0 u _ _ _ (lv_sub hl [2, 3, 4, 1, 0] rfl) hH hF
  refine lv_iload_n hx hb dX13_alike_82 rfl (lv_at hl 3 rfl) ?_
  have hF := prt_eq hF
  exact mr_i hC hH hr hF dX13_alike_83 hlocks
def lp_isAhead_85 : Nat → Int32 → Int32 → Int32 → Int32 → (Int32 → Int32 → Int32 → Int32 → PG (Int32)) → PG (Int32)
  | 0, _, _, _, _, _ => fun _ => none
  | n85 + 1, v1, v2, v3, v4, K85_167 => pcl (f_fights v1) (fun r_34 => (if r_34 ≤ v4 then K85_167 v1 v2 v3 v4 else pcl (fS 24 0 v1 v4 0 0) (fun r_38 => pcl (fS 24 0 v1 v4 1 0) (fun r_41 => (if r_38 = v2 then (if r_41 = v3 then prd 18 160 ((40 * v1) + v4) (fun x_56 => (if x_56 = v2 then prt 1 else prt 0)) else (if r_38 = v3 then (if r_41 = v2 then prd 18 160 ((40 * v1) + v4) (fun x_66 => (if x_66 = v2 then prt 1 else prt 0)) else pli (v4 + 1) (fun x_64 => lp_isAhead_85 n85 v1 v2 v3 x_64 K85_167)) else pli (v4 + 1) (fun x_61 => lp_isAhead_85 n85 v1 v2 v3 x_61 K85_167))) else (if r_38 = v3 then (if r_41 = v2 then prd 18 160 ((40 * v1) + v4) (fun x_51 => (if x_51 = v2 then prt 1 else prt 0)) else pli (v4 + 1) (fun x_49 => lp_isAhead_85 n85 v1 v2 v3 x_49 K85_167)) else pli (v4 + 1) (fun x_46 => lp_isAhead_85 n85 v1 v2 v3 x_46 K85_167)))))))
def f_isAhead (a0 : Int32) (a1 : Int32) (a2 : Int32) : PG (Int32) := pcl (f_won a0 a1) (fun r_1 => pcl (f_won a0 a2) (fun r_4 => (if r_1 = r_4 then pcl (f_sum a0 a1) (fun r_8 => pcl (f_sum a0 a2) (fun r_11 => (if r_8 = r_11 then pcl (f_alike a0 a1) (fun r_15 => (if r_15 = 2 then lp_isAhead_85 fuel a0 a1 a2 0 (fun v1 v2 v3 v4 => prd 7 96 v2 (fun x_70 => prd 7 96 v3 (fun x_73 => (if x_70 = x_73 then (if v3 ≤ v2 then prt 0 else prt 1) else prd 7 96 v2 (fun x_78 => prd 7 96 v3 (fun x_81 => (if x_81 ≤ x_78 then prt 0 else prt 1))))))) else prd 7 96 a1 (fun x_19 => prd 7 96 a2 (fun x_22 => (if x_19 = x_22 then (if a2 ≤ a1 then prt 0 else prt 1) else prd 7 96 a1 (fun x_27 => prd 7 96 a2 (fun x_30 => (if x_30 ≤ x_27 then prt 0 else prt 1)))))))) else pcl (f_sum a0 a1) (fun r_85 => pcl (f_sum a0 a2) (fun r_88 => (if r_85 ≤ r_88 then prt 0 else prt 1)))))) else pcl (f_won a0 a1) (fun r_92 => pcl (f_won a0 a2) (fun r_95 => (if r_92 ≤ r_95 then prt 0 else prt 1))))))
set_option maxHeartbeats 4000000 in
set_option maxRecDepth 100000 in
theorem m_isAhead (l : Launch) (G : gG) (Z : gM) (Q : Nat → Nat) (u u1 : GS) (r : Int32) (a0 : Int32) (a1 : Int32) (a2 : Int32) (sz : Nat) (hF : f_isAhead a0 a1 a2 u = some (r, u1)) : Met l yX13_isAhead (Cond.code yX13_isAhead cX13_isAhead 7 (some .boolean) :: wM) { frames := 309, cells := 0, slots := 0, locals := 3786 } (va_Pc [.ref (Q 72), .int a0, .int a1, .int a2] (mPM G Z Q u.1 sz)) (mQi G Q u1.1 r sz) 0 0 (mA Q sz) := by
  refine Met.ofW (cc := cX13_isAhead) (maxL := 7) (ret := (some .boolean)) (by decide) rfl ?_
  intro p e s m args below meth c s₁ B hml hv
  obtain ⟨rfl, rfl, hP, hB, hD, hE⟩ := hv
  have hr := B.returns
  have hlocks := B.notSynchronized
  have hts := atoms_spec (ws := Cond.code yX13_isAhead cX13_isAhead 7 (some .boolean) :: wM) B.pre
  have hC : mX p c cX13_isAhead 7 s m _ G Z Q := ⟨B.exec, B.bytes, hml, findClass_of_methodNamed B.named, fun w h => hts w (List.mem_cons_of_mem _ h), hB, hE⟩
  have hx := hC.1
  have hb := hC.2.1
  have hH : mH G Q u.1 s s.heap [] := ⟨hP, hD, va_S.rf⟩
  have hl := lv_entry ([.ref (Q 72), .int a0, .int a1, .int a2]) (n := 7) (Nat.le_of_ble_eq_true rfl)
  rw [lg_entry_eq]
  generalize (lg_sl ([.ref (Q 72), .int a0, .int a1, .int a2]) ++ List.replicate (7 - (lg_sl ([.ref (Q 72), .int a0, .int a1, .int a2])).length) Slot.unset).toArray = ls at hl ⊢
  have hl : lv_has ls 7 [(0, .ref (Q 72)), (1, .int a0), (2, .int a1), (3, .int a2)] := hl
  unfold f_isAhead at hF
  refine lv_aload_n hx hb dX13_isAhead_0 rfl (lv_at hl 0 rfl) ?_
  refine lv_iload_n hx hb dX13_isAhead_1 rfl (lv_at hl 1 rfl) ?_
  refine lv_iload_n hx hb dX13_isAhead_2 rfl (lv_at hl 2 rfl) ?_
  obtain ⟨r_1, u_2, h_3, hF⟩ := pcl_some hF
  refine mcV_i (As := [.int a0, .int a1]) (rest := []) hC hH (m_won l G Z Q u u_2 r_1 a0 a1 _ h_3) kwX13_won kVX13_won ⟨Nat.le_of_ble_eq_true rfl, Nat.le_of_ble_eq_true rfl⟩ rfl hl.1 rfl (Nat.le_of_ble_eq_true rfl) dX13_isAhead_3 (fun H locs hH => ?_)
  refine lv_aload_n hx hb dX13_isAhead_6 rfl (lv_at hl 0 rfl) ?_
  refine lv_iload_n hx hb dX13_isAhead_7 rfl (lv_at hl 1 rfl) ?_
  refine lv_iload_n hx hb dX13_isAhead_8 rfl (lv_at hl 3 rfl) ?_
  obtain ⟨r_4, u_5, h_6, hF⟩ := pcl_some hF
  refine mcV_i (As := [.int a0, .int a2]) (rest := [.int r_1]) hC hH (m_won l G Z Q u_2 u_5 r_4 a0 a2 _ h_6) kwX13_won kVX13_won ⟨Nat.le_of_ble_eq_true rfl, Nat.le_of_ble_eq_true rfl⟩ rfl hl.1 rfl (Nat.le_of_ble_eq_true rfl) dX13_isAhead_9 (fun H locs hH => ?_)
  refine lv_icmp_eq (tgt := 36) hx hb dX13_isAhead_12 (by decide) (fun c_7 => ?_) (fun c_7 => ?_)
  · rw [if_pos c_7] at hF
    refine lv_aload_n hx hb dX13_isAhead_36 rfl (lv_at hl 0 rfl) ?_
    refine lv_iload_n hx hb dX13_isAhead_37 rfl (lv_at hl 1 rfl) ?_
    refine lv_iload_n hx hb dX13_isAhead_38 rfl (lv_at hl 2 rfl) ?_
    obtain ⟨r_8, u_9, h_10, hF⟩ := pcl_some hF
    refine mcV_i (As := [.int a0, .int a1]) (rest := []) hC hH (m_sum l G Z Q u_5 u_9 r_8 a0 a1 _ h_10) kwX13_sum kVX13_sum ⟨Nat.le_of_ble_eq_true rfl, Nat.le_of_ble_eq_true rfl⟩ rfl hl.1 rfl (Nat.le_of_ble_eq_true rfl) dX13_isAhead_39 (fun H locs hH => ?_)
    refine lv_aload_n hx hb dX13_isAhead_42 rfl (lv_at hl 0 rfl) ?_
    refine lv_iload_n hx hb dX13_isAhead_43 rfl (lv_at hl 1 rfl) ?_
    refine lv_iload_n hx hb dX13_isAhead_44 rfl (lv_at hl 3 rfl) ?_
    obtain ⟨r_11, u_12, h_13, hF⟩ := pcl_some hF
    refine mcV_i (As := [.int a0, .int a2]) (rest := [.int r_8]) hC hH (m_sum l G Z Q u_9 u_12 r_11 a0 a2 _ h_13) kwX13_sum kVX13_sum ⟨Nat.le_of_ble_eq_true rfl, Nat.le_of_ble_eq_true rfl⟩ rfl hl.1 rfl (Nat.le_of_ble_eq_true rfl) dX13_isAhead_45 (fun H locs hH => ?_)
    refine lv_icmp_eq (tgt := 72) hx hb dX13_isAhead_48 (by decide) (fun c_14 => ?_) (fun c_14 => ?_)
    · rw [if_pos c_14] at hF
      refine lv_aload_n hx hb dX13_isAhead_72 rfl (lv_at hl 0 rfl) ?_
      refine lv_iload_n hx hb dX13_isAhead_73 rfl (lv_at hl 1 rfl) ?_
      refine lv_iload_n hx hb dX13_isAhead_74 rfl (lv_at hl 2 rfl) ?_
      obtain ⟨r_15, u_16, h_17, hF⟩ := pcl_some hF
      refine mcV_i (As := [.int a0, .int a1]) (rest := []) hC hH (m_alike l G Z Q u_12 u_16 r_15 a0 a1 _ h_17) kwX13_alike kVX13_alike ⟨Nat.le_of_ble_eq_true rfl, Nat.le_of_ble_eq_true rfl⟩ rfl hl.1 rfl (Nat.le_of_ble_eq_true rfl) dX13_isAhead_75 (fun H locs hH => ?_)
      refine lv_iconst (v := 2) hx hb dX13_isAhead_78 (by decide) ?_
      refine lv_icmp_ne (tgt := 167) hx hb dX13_isAhead_79 (by decide) (fun c_18 => ?_) (fun c_18 => ?_)
      · rw [if_neg c_18] at hF
        refine lv_aload_n hx hb dX13_isAhead_167 rfl (lv_at hl 0 rfl) ?_
        refine mg_7 hC hH dX13_isAhead_168 ?_
        refine lv_iload_n hx hb dX13_isAhead_171 rfl (lv_at hl 2 rfl) ?_
        obtain ⟨x_19, g_20, e_21, hF⟩ := prd_some hF
        refine ml_7 hC hH g_20 dX13_isAhead_172 ?_
        refine gx_ti e_21 ?_
        refine lv_aload_n hx hb dX13_isAhead_173 rfl (lv_at hl 0 rfl) ?_
        refine mg_7 hC hH dX13_isAhead_174 ?_
        refine lv_iload_n hx hb dX13_isAhead_177 rfl (lv_at hl 3 rfl) ?_
        obtain ⟨x_22, g_23, e_24, hF⟩ := prd_some hF
        refine ml_7 hC hH g_23 dX13_isAhead_178 ?_
        refine gx_ti e_24 ?_
        refine lv_icmp_eq (tgt := 205) hx hb dX13_isAhead_179 (by decide) (fun c_25 => ?_) (fun c_25 => ?_)
        · rw [if_pos c_25] at hF
          refine lv_iload_n hx hb dX13_isAhead_205 rfl (lv_at hl 2 rfl) ?_
          refine lv_iload_n hx hb dX13_isAhead_206 rfl (lv_at hl 3 rfl) ?_
          refine lv_icmp_ge (tgt := 214) hx hb dX13_isAhead_207 (by decide) (fun c_26 => ?_) (fun c_26 => ?_)
          · rw [if_pos c_26] at hF
            refine lv_iconst (v := 0) hx hb dX13_isAhead_214 (by decide) ?_
            have hF := prt_eq hF
            exact mr_z hC hH hr rfl hF dX13_isAhead_215 hlocks
          · rw [if_neg c_26] at hF
            refine lv_iconst (v := 1) hx hb dX13_isAhead_210 (by decide) ?_
            refine lv_goto (tgt := 215) hx hb dX13_isAhead_211 (by decide) ?_
            have hF := prt_eq hF
            exact mr_z hC hH hr rfl hF dX13_isAhead_215 hlocks
        · rw [if_neg c_25] at hF
          refine lv_aload_n hx hb dX13_isAhead_182 rfl (lv_at hl 0 rfl) ?_
          refine mg_7 hC hH dX13_isAhead_183 ?_
          refine lv_iload_n hx hb dX13_isAhead_186 rfl (lv_at hl 2 rfl) ?_
          obtain ⟨x_27, g_28, e_29, hF⟩ := prd_some hF
          refine ml_7 hC hH g_28 dX13_isAhead_187 ?_
          refine gx_ti e_29 ?_
          refine lv_aload_n hx hb dX13_isAhead_188 rfl (lv_at hl 0 rfl) ?_
          refine mg_7 hC hH dX13_isAhead_189 ?_
          refine lv_iload_n hx hb dX13_isAhead_192 rfl (lv_at hl 3 rfl) ?_
          obtain ⟨x_30, g_31, e_32, hF⟩ := prd_some hF
          refine ml_7 hC hH g_31 dX13_isAhead_193 ?_
          refine gx_ti e_32 ?_
          refine lv_icmp_ge (tgt := 201) hx hb dX13_isAhead_194 (by decide) (fun c_33 => ?_) (fun c_33 => ?_)
          · rw [if_pos c_33] at hF
            refine lv_iconst (v := 0) hx hb dX13_isAhead_201 (by decide) ?_
            refine lv_goto (tgt := 215) hx hb dX13_isAhead_202 (by decide) ?_
            have hF := prt_eq hF
            exact mr_z hC hH hr rfl hF dX13_isAhead_215 hlocks
          · rw [if_neg c_33] at hF
            refine lv_iconst (v := 1) hx hb dX13_isAhead_197 (by decide) ?_
            refine lv_goto (tgt := 215) hx hb dX13_isAhead_198 (by decide) ?_
            have hF := prt_eq hF
            exact mr_z hC hH hr rfl hF dX13_isAhead_215 hlocks
      · rw [if_pos c_18] at hF
        refine lv_iconst (v := 0) hx hb dX13_isAhead_82 (by decide) ?_
        refine lv_istore (lv' := [(4, .int 0), (0, .ref (Q 72)), (1, .int a0), (2, .int a1), (3, .int a2)]) hx hb dX13_isAhead_83 hl (by decide) rfl (fun ls hl => ?_)
        have hL85 : ∀ (K85_167 : Int32 → Int32 → Int32 → Int32 → PG (Int32)), (∀ (v1 v2 v3 v4 : Int32) (u : GS) (H : Heap) (locs : List Loc) (ls : Array Slot), lv_has ls 7 [(0, .ref (Q 72)), (1, .int v1), (2, .int v2), (3, .int v3), (4, .int v4)] → mH G Q u.1 s H locs → K85_167 v1 v2 v3 v4 u = some ((r, u1)) → W p l e (headSpec (Cond.code yX13_isAhead cX13_isAhead 7 (some .boolean) :: wM) { frames := 309, cells := 0, slots := 0, locals := 3786 }).room s m [.ref (Q 72), .int a0, .int a1, .int a2].toArray below meth c H locs 0 0 (MQ below (mQi G Q u1.1 r s.heap.size) [.ref (Q 72), .int a0, .int a1, .int a2].toArray s 0 0 (mA Q s.heap.size)) (F0 m 167 ls [])) → ∀ (n85 : Nat) (v1 v2 v3 v4 : Int32) (u : GS) (H : Heap) (locs : List Loc) (ls : Array Slot), lv_has ls 7 [(0, .ref (Q 72)), (1, .int v1), (2, .int v2), (3, .int v3), (4, .int v4)] → mH G Q u.1 s H locs → lp_isAhead_85 n85 v1 v2 v3 v4 K85_167 u = some ((r, u1)) → W p l e (headSpec (Cond.code yX13_isAhead cX13_isAhead 7 (some .boolean) :: wM) { frames := 309, cells := 0, slots := 0, locals := 3786 }).room s m [.ref (Q 72), .int a0, .int a1, .int a2].toArray below meth c H locs 0 0 (MQ below (mQi G Q u1.1 r s.heap.size) [.ref (Q 72), .int a0, .int a1, .int a2].toArray s 0 0 (mA Q s.heap.size)) (F0 m 85 ls []) := by
          intro K85_167 hK85_167 n85
          induction n85 with
          | zero => intro v1 v2 v3 v4 u H locs ls hl hH hF; cases hF
          | succ n85 ih85 =>
            intro v1 v2 v3 v4 u H locs ls hl hH hF
            unfold lp_isAhead_85 at hF
            refine lv_iload hx hb dX13_isAhead_85 (lv_at hl 4 rfl) ?_
            refine lv_aload_n hx hb dX13_isAhead_87 rfl (lv_at hl 0 rfl) ?_
            refine lv_iload_n hx hb dX13_isAhead_88 rfl (lv_at hl 1 rfl) ?_
            obtain ⟨r_34, u_35, h_36, hF⟩ := pcl_some hF
            refine mcV_i (As := [.int v1]) (rest := [.int v4]) hC hH (m_fights l G Z Q u u_35 r_34 v1 _ h_36) kwX13_fights kVX13_fights ⟨Nat.le_of_ble_eq_true rfl, Nat.le_of_ble_eq_true rfl⟩ rfl hl.1 rfl (Nat.le_of_ble_eq_true rfl) dX13_isAhead_89 (fun H locs hH => ?_)
            refine lv_icmp_ge (tgt := 167) hx hb dX13_isAhead_92 (by decide) (fun c_37 => ?_) (fun c_37 => ?_)
            · rw [if_pos c_37] at hF
              exact hK85_167 v1 v2 v3 v4 u_35 _ _ _ (lv_sub hl [0, 1, 2, 3, 4] rfl) hH hF
            · rw [if_neg c_37] at hF
              refine lv_aload_n hx hb dX13_isAhead_95 rfl (lv_at hl 0 rfl) ?_
              refine lv_iload_n hx hb dX13_isAhead_96 rfl (lv_at hl 1 rfl) ?_
              refine lv_iload hx hb dX13_isAhead_97 (lv_at hl 4 rfl) ?_
              refine lv_iconst (v := 0) hx hb dX13_isAhead_99 (by decide) ?_
              obtain ⟨r_38, u_39, h_40, hF⟩ := pcl_some hF
              refine mcV_i (As := [.int v1, .int v4, .int 0]) (rest := []) hC hH (m_sideOf l G Z Q u_35 u_39 r_38 v1 v4 0 _ h_40) kwX13_sideOf kVX13_sideOf ⟨Nat.le_of_ble_eq_true rfl, Nat.le_of_ble_eq_true rfl⟩ rfl hl.1 rfl (Nat.le_of_ble_eq_true rfl) dX13_isAhead_100 (fun H locs hH => ?_)
              refine lv_istore (lv' := [(5, .int r_38), (0, .ref (Q 72)), (1, .int v1), (2, .int v2), (3, .int v3), (4, .int v4)]) hx hb dX13_isAhead_103 hl (by decide) rfl (fun ls hl => ?_)
              refine lv_aload_n hx hb dX13_isAhead_105 rfl (lv_at hl 1 rfl) ?_
              refine lv_iload_n hx hb dX13_isAhead_106 rfl (lv_at hl 2 rfl) ?_
              refine lv_iload hx hb dX13_isAhead_107 (lv_at hl 5 rfl) ?_
              refine lv_iconst (v := 1) hx hb dX13_isAhead_109 (by decide) ?_
              obtain ⟨r_41, u_42, h_43, hF⟩ := pcl_some hF
              refine mcV_i (As := [.int v1, .int v4, .int 1]) (rest := []) hC hH (m_sideOf l G Z Q u_39 u_42 r_41 v1 v4 1 _ h_43) kwX13_sideOf kVX13_sideOf ⟨Nat.le_of_ble_eq_true rfl, Nat.le_of_ble_eq_true rfl⟩ rfl hl.1 rfl (Nat.le_of_ble_eq_true rfl) dX13_isAhead_110 (fun H locs hH => ?_)
              refine lv_istore (lv' := [(6, .int r_41), (5, .int r_38), (0, .ref (Q 72)), (1, .int v1), (2, .int v2), (3, .int v3), (4, .int v4)]) hx hb dX13_isAhead_113 hl (by decide) rfl (fun ls hl => ?_)
              refine lv_iload hx hb dX13_isAhead_115 (lv_at hl 1 rfl) ?_
              refine lv_iload_n hx hb dX13_isAhead_117 rfl (lv_at hl 4 rfl) ?_
              refine lv_icmp_ne (tgt := 127) hx hb dX13_isAhead_118 (by decide) (fun c_44 => ?_) (fun c_44 => ?_)
              · rw [if_neg c_44] at hF
                refine lv_iload hx hb dX13_isAhead_127 (lv_at hl 1 rfl) ?_
                refine lv_iload_n hx hb dX13_isAhead_129 rfl (lv_at hl 5 rfl) ?_
                refine lv_icmp_ne (tgt := 161) hx hb dX13_isAhead_130 (by decide) (fun c_45 => ?_) (fun c_45 => ?_)
                · rw [if_neg c_45] at hF
                  obtain ⟨x_46, e_47, hF⟩ := pli_some hF
                  refine lv_iinc (v := x_46) (lv' := [(4, .int x_46), (6, .int r_41), (5, .int r_38), (0, .ref (Q 72)), (1, .int v1), (2, .int v2), (3, .int v3)]) hx hb dX13_isAhead_161 hl (k := 6) rfl e_47 (by decide) rfl (fun ls hl => ?_)
                  refine lv_goto (tgt := 85) hx hb dX13_isAhead_164 (by decide) ?_
                  exact ih85 v1 v2 v3 x_46 u_42 _ _ _ (lv_sub hl [3, 4, 5, 6, 0] rfl) hH hF
                · rw [if_pos c_45] at hF
                  refine lv_iload hx hb dX13_isAhead_133 (lv_at hl 0 rfl) ?_
                  refine lv_iload_n hx hb dX13_isAhead_135 rfl (lv_at hl 4 rfl) ?_
                  refine lv_icmp_ne (tgt := 161) hx hb dX13_isAhead_136 (by decide) (fun c_48 => ?_) (fun c_48 => ?_)
                  · rw [if_neg c_48] at hF
                    obtain ⟨x_49, e_50, hF⟩ := pli_some hF
                    refine lv_iinc (v := x_49) (lv' := [(4, .int x_49), (6, .int r_41), (5, .int r_38), (0, .ref (Q 72)), (1, .int v1), (2, .int v2), (3, .int v3)]) hx hb dX13_isAhead_161 hl (k := 6) rfl e_50 (by decide) rfl (fun ls hl => ?_)
                    refine lv_goto (tgt := 85) hx hb dX13_isAhead_164 (by decide) ?_
                    exact ih85 v1 v2 v3 x_49 u_42 _ _ _ (lv_sub hl [3, 4, 5, 6, 0] rfl) hH hF
                  · rw [if_pos c_48] at hF
                    refine lv_aload_n hx hb dX13_isAhead_139 rfl (lv_at hl 2 rfl) ?_
                    refine mg_18 hC hH dX13_isAhead_140 ?_
                    refine lv_bipush (v := 40) hx hb dX13_isAhead_143 (by decide) ?_
                    refine lv_iload_n hx hb dX13_isAhead_145 rfl (lv_at hl 3 rfl) ?_
                    refine lv_imul hx hb dX13_isAhead_146 ?_
                    refine lv_iload hx hb dX13_isAhead_147 (lv_at hl 6 rfl) ?_
                    refine lv_iadd hx hb dX13_isAhead_149 ?_
                    obtain ⟨x_51, g_52, e_53, hF⟩ := prd_some hF
                    refine ml_18 hC hH g_52 dX13_isAhead_150 ?_
                    refine gx_ti e_53 ?_
                    refine lv_iload_n hx hb dX13_isAhead_151 rfl (lv_at hl 4 rfl) ?_
                    refine lv_icmp_ne (tgt := 159) hx hb dX13_isAhead_152 (by decide) (fun c_54 => ?_) (fun c_54 => ?_)
                    · rw [if_neg c_54] at hF
                      refine lv_iconst (v := 0) hx hb dX13_isAhead_159 (by decide) ?_
                      have hF := prt_eq hF
                      exact mr_z hC hH hr rfl hF dX13_isAhead_160 hlocks
                    · rw [if_pos c_54] at hF
                      refine lv_iconst (v := 1) hx hb dX13_isAhead_155 (by decide) ?_
                      refine lv_goto (tgt := 160) hx hb dX13_isAhead_156 (by decide) ?_
                      have hF := prt_eq hF
                      exact mr_z hC hH hr rfl hF dX13_isAhead_160 hlocks
              · rw [if_pos c_44] at hF
                refine lv_iload hx hb dX13_isAhead_121 (lv_at hl 0 rfl) ?_
                refine lv_iload_n hx hb dX13_isAhead_123 rfl (lv_at hl 5 rfl) ?_
                refine lv_icmp_eq (tgt := 139) hx hb dX13_isAhead_124 (by decide) (fun c_55 => ?_) (fun c_55 => ?_)
                · rw [if_pos c_55] at hF
                  refine lv_aload_n hx hb dX13_isAhead_139 rfl (lv_at hl 2 rfl) ?_
                  refine mg_18 hC hH dX13_isAhead_140 ?_
                  refine lv_bipush (v := 40) hx hb dX13_isAhead_143 (by decide) ?_
                  refine lv_iload_n hx hb dX13_isAhead_145 rfl (lv_at hl 3 rfl) ?_
                  refine lv_imul hx hb dX13_isAhead_146 ?_
                  refine lv_iload hx hb dX13_isAhead_147 (lv_at hl 6 rfl) ?_
                  refine lv_iadd hx hb dX13_isAhead_149 ?_
                  obtain ⟨x_56, g_57, e_58, hF⟩ := prd_some hF
                  refine ml_18 hC hH g_57 dX13_isAhead_150 ?_
                  refine gx_ti e_58 ?_
                  refine lv_iload_n hx hb dX13_isAhead_151 rfl (lv_at hl 4 rfl) ?_
                  refine lv_icmp_ne (tgt := 159) hx hb dX13_isAhead_152 (by decide) (fun c_59 => ?_) (fun c_59 => ?_)
                  · rw [if_neg c_59] at hF
                    refine lv_iconst (v := 0) hx hb dX13_isAhead_159 (by decide) ?_
                    have hF := prt_eq hF
                    exact mr_z hC hH hr rfl hF dX13_isAhead_160 hlocks
                  · rw [if_pos c_59] at hF
                    refine lv_iconst (v := 1) hx hb dX13_isAhead_155 (by decide) ?_
                    refine lv_goto (tgt := 160) hx hb dX13_isAhead_156 (by decide) ?_
                    have hF := prt_eq hF
                    exact mr_z hC hH hr rfl hF dX13_isAhead_160 hlocks
                · rw [if_neg c_55] at hF
                  refine lv_iload hx hb dX13_isAhead_127 (lv_at hl 1 rfl) ?_
                  refine lv_iload_n hx hb dX13_isAhead_129 rfl (lv_at hl 5 rfl) ?_
                  refine lv_icmp_ne (tgt := 161) hx hb dX13_isAhead_130 (by decide) (fun c_60 => ?_) (fun c_60 => ?_)
                  · rw [if_neg c_60] at hF
                    obtain ⟨x_61, e_62, hF⟩ := pli_some hF
                    refine lv_iinc (v := x_61) (lv' := [(4, .int x_61), (6, .int r_41), (5, .int r_38), (0, .ref (Q 72)), (1, .int v1), (2, .int v2), (3, .int v3)]) hx hb dX13_isAhead_161 hl (k := 6) rfl e_62 (by decide) rfl (fun ls hl => ?_)
                    refine lv_goto (tgt := 85) hx hb dX13_isAhead_164 (by decide) ?_
                    exact ih85 v1 v2 v3 x_61 u_42 _ _ _ (lv_sub hl [3, 4, 5, 6, 0] rfl) hH hF
                  · rw [if_pos c_60] at hF
                    refine lv_iload hx hb dX13_isAhead_133 (lv_at hl 0 rfl) ?_
                    refine lv_iload_n hx hb dX13_isAhead_135 rfl (lv_at hl 4 rfl) ?_
                    refine lv_icmp_ne (tgt := 161) hx hb dX13_isAhead_136 (by decide) (fun c_63 => ?_) (fun c_63 => ?_)
                    · rw [if_neg c_63] at hF
                      obtain ⟨x_64, e_65, hF⟩ := pli_some hF
                      refine lv_iinc (v := x_64) (lv' := [(4, .int x_64), (6, .int r_41), (5, .int r_38), (0, .ref (Q 72)), (1, .int v1), (2, .int v2), (3, .int v3)]) hx hb dX13_isAhead_161 hl (k := 6) rfl e_65 (by decide) rfl (fun ls hl => ?_)
                      refine lv_goto (tgt := 85) hx hb dX13_isAhead_164 (by decide) ?_
                      exact ih85 v1 v2 v3 x_64 u_42 _ _ _ (lv_sub hl [3, 4, 5, 6, 0] rfl) hH hF
                    · rw [if_pos c_63] at hF
                      refine lv_aload_n hx hb dX13_isAhead_139 rfl (lv_at hl 2 rfl) ?_
                      refine mg_18 hC hH dX13_isAhead_140 ?_
                      refine lv_bipush (v := 40) hx hb dX13_isAhead_143 (by decide) ?_
                      refine lv_iload_n hx hb dX13_isAhead_145 rfl (lv_at hl 3 rfl) ?_
                      refine lv_imul hx hb dX13_isAhead_146 ?_
                      refine lv_iload hx hb dX13_isAhead_147 (lv_at hl 6 rfl) ?_
                      refine lv_iadd hx hb dX13_isAhead_149 ?_
                      obtain ⟨x_66, g_67, e_68, hF⟩ := prd_some hF
                      refine ml_18 hC hH g_67 dX13_isAhead_150 ?_
                      refine gx_ti e_68 ?_
                      refine lv_iload_n hx hb dX13_isAhead_151 rfl (lv_at hl 4 rfl) ?_
                      refine lv_icmp_ne (tgt := 159) hx hb dX13_isAhead_152 (by decide) (fun c_69 => ?_) (fun c_69 => ?_)
                      · rw [if_neg c_69] at hF
                        refine lv_iconst (v := 0) hx hb dX13_isAhead_159 (by decide) ?_
                        have hF := prt_eq hF
                        exact mr_z hC hH hr rfl hF dX13_isAhead_160 hlocks
                      · rw [if_pos c_69] at hF
                        refine lv_iconst (v := 1) hx hb dX13_isAhead_155 (by decide) ?_
                        refine lv_goto (tgt := 160) hx hb dX13_isAhead_156 (by decide) ?_
                        have hF := prt_eq hF
                        exact mr_z hC hH hr rfl hF dX13_isAhead_160 hlocks
        refine hL85 _ (fun v1 v2 v3 v4 u H locs ls hl hH hF => ?_) fuel a0 a1 a2 0 u_16 _ _ _ (lv_sub hl [1, 2, 3, 4, 0] rfl) hH hF
        refine lv_aload_n hx hb dX13_isAhead_167 rfl (lv_at hl 0 rfl) ?_
        refine mg_7 hC hH dX13_isAhead_168 ?_
        refine lv_iload_n hx hb dX13_isAhead_171 rfl (lv_at hl 2 rfl) ?_
        obtain ⟨x_70, g_71, e_72, hF⟩ := prd_some hF
        refine ml_7 hC hH g_71 dX13_isAhead_172 ?_
        refine gx_ti e_72 ?_
        refine lv_aload_n hx hb dX13_isAhead_173 rfl (lv_at hl 0 rfl) ?_
        refine mg_7 hC hH dX13_isAhead_174 ?_
        refine lv_iload_n hx hb dX13_isAhead_177 rfl (lv_at hl 3 rfl) ?_
        obtain ⟨x_73, g_74, e_75, hF⟩ := prd_some hF
        refine ml_7 hC hH g_74 dX13_isAhead_178 ?_
        refine gx_ti e_75 ?_
        refine lv_icmp_eq (tgt := 205) hx hb dX13_isAhead_179 (by decide) (fun c_76 => ?_) (fun c_76 => ?_)
        · rw [if_pos c_76] at hF
          refine lv_iload_n hx hb dX13_isAhead_205 rfl (lv_at hl 2 rfl) ?_
          refine lv_iload_n hx hb dX13_isAhead_206 rfl (lv_at hl 3 rfl) ?_
          refine lv_icmp_ge (tgt := 214) hx hb dX13_isAhead_207 (by decide) (fun c_77 => ?_) (fun c_77 => ?_)
          · rw [if_pos c_77] at hF
            refine lv_iconst (v := 0) hx hb dX13_isAhead_214 (by decide) ?_
            have hF := prt_eq hF
            exact mr_z hC hH hr rfl hF dX13_isAhead_215 hlocks
          · rw [if_neg c_77] at hF
            refine lv_iconst (v := 1) hx hb dX13_isAhead_210 (by decide) ?_
            refine lv_goto (tgt := 215) hx hb dX13_isAhead_211 (by decide) ?_
            have hF := prt_eq hF
            exact mr_z hC hH hr rfl hF dX13_isAhead_215 hlocks
        · rw [if_neg c_76] at hF
          refine lv_aload_n hx hb dX13_isAhead_182 rfl (lv_at hl 0 rfl) ?_
          refine mg_7 hC hH dX13_isAhead_183 ?_
          refine lv_iload_n hx hb dX13_isAhead_186 rfl (lv_at hl 2 rfl) ?_
          obtain ⟨x_78, g_79, e_80, hF⟩ := prd_some hF
          refine ml_7 hC hH g_79 dX13_isAhead_187 ?_
          refine gx_ti e_80 ?_
          refine lv_aload_n hx hb dX13_isAhead_188 rfl (lv_at hl 0 rfl) ?_
          refine mg_7 hC hH dX13_isAhead_189 ?_
          refine lv_iload_n hx hb dX13_isAhead_192 rfl (lv_at hl 3 rfl) ?_
          obtain ⟨x_81, g_82, e_83, hF⟩ := prd_some hF
          refine ml_7 hC hH g_82 dX13_isAhead_193 ?_
          refine gx_ti e_83 ?_
          refine lv_icmp_ge (tgt := 201) hx hb dX13_isAhead_194 (by decide) (fun c_84 => ?_) (fun c_84 => ?_)
          · rw [if_pos c_84] at hF
            refine lv_iconst (v := 0) hx hb dX13_isAhead_201 (by decide) ?_
            refine lv_goto (tgt := 215) hx hb dX13_isAhead_202 (by decide) ?_
            have hF := prt_eq hF
            exact mr_z hC hH hr rfl hF dX13_isAhead_215 hlocks
          · rw [if_neg c_84] at hF
            refine lv_iconst (v := 1) hx hb dX13_isAhead_197 (by decide) ?_
            refine lv_goto (tgt := 215) hx hb dX13_isAhead_198 (by decide) ?_
            have hF := prt_eq hF
            exact mr_z hC hH hr rfl hF dX13_isAhead_215 hlocks
    · rw [if_neg c_14] at hF
      refine lv_aload_n hx hb dX13_isAhead_51 rfl (lv_at hl 0 rfl) ?_
      refine lv_iload_n hx hb dX13_isAhead_52 rfl (lv_at hl 1 rfl) ?_
      refine lv_iload_n hx hb dX13_isAhead_53 rfl (lv_at hl 2 rfl) ?_
      obtain ⟨r_85, u_86, h_87, hF⟩ := pcl_some hF
      refine mcV_i (As := [.int a0, .int a1]) (rest := []) hC hH (m_sum l G Z Q u_12 u_86 r_85 a0 a1 _ h_87) kwX13_sum kVX13_sum ⟨Nat.le_of_ble_eq_true rfl, Nat.le_of_ble_eq_true rfl⟩ rfl hl.1 rfl (Nat.le_of_ble_eq_true rfl) dX13_isAhead_54 (fun H locs hH => ?_)
      refine lv_aload_n hx hb dX13_isAhead_57 rfl (lv_at hl 0 rfl) ?_
      refine lv_iload_n hx hb dX13_isAhead_58 rfl (lv_at hl 1 rfl) ?_
      refine lv_iload_n hx hb dX13_isAhead_59 rfl (lv_at hl 3 rfl) ?_
      obtain ⟨r_88, u_89, h_90, hF⟩ := pcl_some hF
      refine mcV_i (As := [.int a0, .int a2]) (rest := [.int r_85]) hC hH (m_sum l G Z Q u_86 u_89 r_88 a0 a2 _ h_90) kwX13_sum kVX13_sum ⟨Nat.le_of_ble_eq_true rfl, Nat.le_of_ble_eq_true rfl⟩ rfl hl.1 rfl (Nat.le_of_ble_eq_true rfl) dX13_isAhead_60 (fun H locs hH => ?_)
      refine lv_icmp_le (tgt := 70) hx hb dX13_isAhead_63 (by decide) (fun c_91 => ?_) (fun c_91 => ?_)
      · rw [if_pos c_91] at hF
        refine lv_iconst (v := 0) hx hb dX13_isAhead_70 (by decide) ?_
        have hF := prt_eq hF
        exact mr_z hC hH hr rfl hF dX13_isAhead_71 hlocks
      · rw [if_neg c_91] at hF
        refine lv_iconst (v := 1) hx hb dX13_isAhead_66 (by decide) ?_
        refine lv_goto (tgt := 71) hx hb dX13_isAhead_67 (by decide) ?_
        have hF := prt_eq hF
        exact mr_z hC hH hr rfl hF dX13_isAhead_71 hlocks
  · rw [if_neg c_7] at hF
    refine lv_aload_n hx hb dX13_isAhead_15 rfl (lv_at hl 0 rfl) ?_
    refine lv_iload_n hx hb dX13_isAhead_16 rfl (lv_at hl 1 rfl) ?_
    refine lv_iload_n hx hb dX13_isAhead_17 rfl (lv_at hl 2 rfl) ?_
    obtain ⟨r_92, u_93, h_94, hF⟩ := pcl_some hF
    refine mcV_i (As := [.int a0, .int a1]) (rest := []) hC hH (m_won l G Z Q u_5 u_93 r_92 a0 a1 _ h_94) kwX13_won kVX13_won ⟨Nat.le_of_ble_eq_true rfl, Nat.le_of_ble_eq_true rfl⟩ rfl hl.1 rfl (Nat.le_of_ble_eq_true rfl) dX13_isAhead_18 (fun H locs hH => ?_)
    refine lv_aload_n hx hb dX13_isAhead_21 rfl (lv_at hl 0 rfl) ?_
    refine lv_iload_n hx hb dX13_isAhead_22 rfl (lv_at hl 1 rfl) ?_
    refine lv_iload_n hx hb dX13_isAhead_23 rfl (lv_at hl 3 rfl) ?_
    obtain ⟨r_95, u_96, h_97, hF⟩ := pcl_some hF
    refine mcV_i (As := [.int a0, .int a2]) (rest := [.int r_92]) hC hH (m_won l G Z Q u_93 u_96 r_95 a0 a2 _ h_97) kwX13_won kVX13_won ⟨Nat.le_of_ble_eq_true rfl, Nat.le_of_ble_eq_true rfl⟩ rfl hl.1 rfl (Nat.le_of_ble_eq_true rfl) dX13_isAhead_24 (fun H locs hH => ?_)
    refine lv_icmp_le (tgt := 34) hx hb dX13_isAhead_27 (by decide) (fun c_98 => ?_) (fun c_98 => ?_)
    · rw [if_pos c_98] at hF
      refine lv_iconst (v := 0) hx hb dX13_isAhead_34 (by decide) ?_
      have hF := prt_eq hF
      exact mr_z hC hH hr rfl hF dX13_isAhead_35 hlocks
    · rw [if_neg c_98] at hF
      refine lv_iconst (v := 1) hx hb dX13_isAhead_30 (by decide) ?_
      refine lv_goto (tgt := 35) hx hb dX13_isAhead_31 (by decide) ?_
      have hF := prt_eq hF
      exact mr_z hC hH hr rfl hF dX13_isAhead_35 hlocks
def lp_ordered_31 : Nat → Int32 → Int32 → Int32 → Int32 → Int32 → Int32 → (Int32 → Int32 → Int32 → Int32 → Int32 → Int32 → PG (Int32)) → PG (Int32)
  | 0, _, _, _, _, _, _, _ => fun _ => none
  | n31 + 1, v1, v2, v3, v4, v5, v6, K31_86 => prd 13 4 v1 (fun x_8 => (if x_8 ≤ v6 then K31_86 v1 v2 v3 v4 v5 v6 else (if v6 = v3 then pli (v5 + 0) (fun x_13 => pli (v6 + 1) (fun x_15 => lp_ordered_31 n31 v1 v2 v3 v4 x_13 x_15 K31_86)) else prd 14 128 ((32 * v1) + v6) (fun x_17 => pcl (f_isAhead v1 x_17 v4) (fun r_20 => (if r_20 = 0 then pli (v5 + 0) (fun x_24 => pli (v6 + 1) (fun x_26 => lp_ordered_31 n31 v1 v2 v3 v4 x_24 x_26 K31_86)) else pli (v5 + 1) (fun x_28 => pli (v6 + 1) (fun x_30 => lp_ordered_31 n31 v1 v2 v3 v4 x_28 x_30 K31_86))))))))
def lp_ordered_2 : Nat → Int32 → Int32 → Int32 → (Int32 → Int32 → Int32 → PG (Int32)) → PG (Int32)
  | 0, _, _, _, _ => fun _ => none
  | n2 + 1, v1, v2, v3, K2_101 => prd 13 4 v1 (fun x_1 => (if x_1 ≤ v3 then K2_101 v1 v2 v3 else prd 14 128 ((32 * v1) + v3) (fun x_5 => lp_ordered_31 fuel v1 v2 v3 x_5 0 0 (fun v1 v2 v3 v4 v5 v6 => (if v5 = v2 then prt v4 else pli (v3 + 1) (fun x_33 => lp_ordered_2 n2 v1 v2 x_33 K2_101))))))
def f_ordered (a0 : Int32) (a1 : Int32) : PG (Int32) := lp_ordered_2 fuel a0 a1 0 (fun v1 v2 v3 => prt (-1))
set_option maxHeartbeats 4000000 in
set_option maxRecDepth 100000 in
theorem m_ordered (l : Launch) (G : gG) (Z : gM) (Q : Nat → Nat) (u u1 : GS) (r : Int32) (a0 : Int32) (a1 : Int32) (sz : Nat) (hF : f_ordered a0 a1 u = some (r, u1)) : Met l yX13_ordered (Cond.code yX13_ordered cX13_ordered 7 (some .int) :: wM) { frames := 310, cells := 0, slots := 0, locals := 3812 } (va_Pc [.ref (Q 72), .int a0, .int a1] (mPM G Z Q u.1 sz)) (mQi G Q u1.1 r sz) 0 0 (mA Q sz) := by
  refine Met.ofW (cc := cX13_ordered) (maxL := 7) (ret := (some .int)) (by decide) rfl ?_
  intro p e s m args below meth c s₁ B hml hv
  obtain ⟨rfl, rfl, hP, hB, hD, hE⟩ := hv
  have hr := B.returns
  have hlocks := B.notSynchronized
  have hts := atoms_spec (ws := Cond.code yX13_ordered cX13_ordered 7 (some .int) :: wM) B.pre
  have hC : mX p c cX13_ordered 7 s m _ G Z Q := ⟨B.exec, B.bytes, hml, findClass_of_methodNamed B.named, fun w h => hts w (List.mem_cons_of_mem _ h), hB, hE⟩
  have hx := hC.1
  have hb := hC.2.1
  have hH : mH G Q u.1 s s.heap [] := ⟨hP, hD, va_S.rf⟩
  have hl := lv_entry ([.ref (Q 72), .int a0, .int a1]) (n := 7) (Nat.le_of_ble_eq_true rfl)
  rw [lg_entry_eq]
  generalize (lg_sl ([.ref (Q 72), .int a0, .int a1]) ++ List.replicate (7 - (lg_sl ([.ref (Q 72), .int a0, .int a1])).length) Slot.unset).toArray = ls at hl ⊢
  have hl : lv_has ls 7 [(0, .ref (Q 72)), (1, .int a0), (2, .int a1)] := hl
  unfold f_ordered at hF
  refine lv_iconst (v := 0) hx hb dX13_ordered_0 (by decide) ?_
  refine lv_istore_n (lv' := [(3, .int 0), (0, .ref (Q 72)), (1, .int a0), (2, .int a1)]) hx hb dX13_ordered_1 rfl hl (by decide) rfl (fun ls hl => ?_)
  have hL2 : ∀ (K2_101 : Int32 → Int32 → Int32 → PG (Int32)), (∀ (v1 v2 v3 : Int32) (u : GS) (H : Heap) (locs : List Loc) (ls : Array Slot), lv_has ls 7 [(0, .ref (Q 72)), (1, .int v1), (2, .int v2), (3, .int v3)] → mH G Q u.1 s H locs → K2_101 v1 v2 v3 u = some ((r, u1)) → W p l e (headSpec (Cond.code yX13_ordered cX13_ordered 7 (some .int) :: wM) { frames := 310, cells := 0, slots := 0, locals := 3812 }).room s m [.ref (Q 72), .int a0, .int a1].toArray below meth c H locs 0 0 (MQ below (mQi G Q u1.1 r s.heap.size) [.ref (Q 72), .int a0, .int a1].toArray s 0 0 (mA Q s.heap.size)) (F0 m 101 ls [])) → ∀ (n2 : Nat) (v1 v2 v3 : Int32) (u : GS) (H : Heap) (locs : List Loc) (ls : Array Slot), lv_has ls 7 [(0, .ref (Q 72)), (1, .int v1), (2, .int v2), (3, .int v3)] → mH G Q u.1 s H locs → lp_ordered_2 n2 v1 v2 v3 K2_101 u = some ((r, u1)) → W p l e (headSpec (Cond.code yX13_ordered cX13_ordered 7 (some .int) :: wM) { frames := 310, cells := 0, slots := 0, locals := 3812 }).room s m [.ref (Q 72), .int a0, .int a1].toArray below meth c H locs 0 0 (MQ below (mQi G Q u1.1 r s.heap.size) [.ref (Q 72), .int a0, .int a1].toArray s 0 0 (mA Q s.heap.size)) (F0 m 2 ls []) := by
    intro K2_101 hK2_101 n2
    induction n2 with
    | zero => intro v1 v2 v3 u H locs ls hl hH hF; cases hF
    | succ n2 ih2 =>
      intro v1 v2 v3 u H locs ls hl hH hF
      unfold lp_ordered_2 at hF
      refine lv_iload_n hx hb dX13_ordered_2 rfl (lv_at hl 3 rfl) ?_
      refine lv_aload_n hx hb dX13_ordered_3 rfl (lv_at hl 0 rfl) ?_
      refine mg_13 hC hH dX13_ordered_4 ?_
      refine lv_iload_n hx hb dX13_ordered_7 rfl (lv_at hl 1 rfl) ?_
      obtain ⟨x_1, g_2, e_3, hF⟩ := prd_some hF
      refine ml_13 hC hH g_2 dX13_ordered_8 ?_
      refine gx_ti e_3 ?_
      refine lv_icmp_ge (tgt := 101) hx hb dX13_ordered_9 (by decide) (fun c_4 => ?_) (fun c_4 => ?_)
      · rw [if_pos c_4] at hF
        exact hK2_101 v1 v2 v3 u _ _ _ (lv_sub hl [0, 1, 2, 3] rfl) hH hF
      · rw [if_neg c_4] at hF
        refine lv_aload_n hx hb dX13_ordered_12 rfl (lv_at hl 0 rfl) ?_
        refine mg_14 hC hH dX13_ordered_13 ?_
        refine lv_bipush (v := 32) hx hb dX13_ordered_16 (by decide) ?_
        refine lv_iload_n hx hb dX13_ordered_18 rfl (lv_at hl 1 rfl) ?_
        refine lv_imul hx hb dX13_ordered_19 ?_
        refine lv_iload_n hx hb dX13_ordered_20 rfl (lv_at hl 3 rfl) ?_
        refine lv_iadd hx hb dX13_ordered_21 ?_
        obtain ⟨x_5, g_6, e_7, hF⟩ := prd_some hF
        refine ml_14 hC hH g_6 dX13_ordered_22 ?_
        refine gx_ti e_7 ?_
        refine lv_istore (lv' := [(4, .int x_5), (0, .ref (Q 72)), (1, .int v1), (2, .int v2), (3, .int v3)]) hx hb dX13_ordered_23 hl (by decide) rfl (fun ls hl => ?_)
        refine lv_iconst (v := 0) hx hb dX13_ordered_25 (by decide) ?_
        refine lv_istore (lv' := [(5, .int 0), (4, .int x_5), (0, .ref (Q 72)), (1, .int v1), (2, .int v2), (3, .int v3)]) hx hb dX13_ordered_26 hl (by decide) rfl (fun ls hl => ?_)
        refine lv_iconst (v := 0) hx hb dX13_ordered_28 (by decide) ?_
        refine lv_istore (lv' := [(6, .int 0), (5, .int 0), (4, .int x_5), (0, .ref (Q 72)), (1, .int v1), (2, .int v2), (3, .int v3)]) hx hb dX13_ordered_29 hl (by decide) rfl (fun ls hl => ?_)
        have hL31 : ∀ (K31_86 : Int32 → Int32 → Int32 → Int32 → Int32 → Int32 → PG (Int32)), (∀ (v1 v2 v3 v4 v5 v6 : Int32) (u : GS) (H : Heap) (locs : List Loc) (ls : Array Slot), lv_has ls 7 [(0, .ref (Q 72)), (1, .int v1), (2, .int v2), (3, .int v3), (4, .int v4), (5, .int v5), (6, .int v6)] → mH G Q u.1 s H locs → K31_86 v1 v2 v3 v4 v5 v6 u = some ((r, u1)) → W p l e (headSpec (Cond.code yX13_ordered cX13_ordered 7 (some .int) :: wM) { frames := 310, cells := 0, slots := 0, locals := 3812 }).room s m [.ref (Q 72), .int a0, .int a1].toArray below meth c H locs 0 0 (MQ below (mQi G Q u1.1 r s.heap.size) [.ref (Q 72), .int a0, .int a1].toArray s 0 0 (mA Q s.heap.size)) (F0 m 86 ls [])) → ∀ (n31 : Nat) (v1 v2 v3 v4 v5 v6 : Int32) (u : GS) (H : Heap) (locs : List Loc) (ls : Array Slot), lv_has ls 7 [(0, .ref (Q 72)), (1, .int v1), (2, .int v2), (3, .int v3), (4, .int v4), (5, .int v5), (6, .int v6)] → mH G Q u.1 s H locs → lp_ordered_31 n31 v1 v2 v3 v4 v5 v6 K31_86 u = some ((r, u1)) → W p l e (headSpec (Cond.code yX13_ordered cX13_ordered 7 (some .int) :: wM) { frames := 310, cells := 0, slots := 0, locals := 3812 }).room s m [.ref (Q 72), .int a0, .int a1].toArray below meth c H locs 0 0 (MQ below (mQi G Q u1.1 r s.heap.size) [.ref (Q 72), .int a0, .int a1].toArray s 0 0 (mA Q s.heap.size)) (F0 m 31 ls []) := by
          intro K31_86 hK31_86 n31
          induction n31 with
          | zero => intro v1 v2 v3 v4 v5 v6 u H locs ls hl hH hF; cases hF
          | succ n31 ih31 =>
            intro v1 v2 v3 v4 v5 v6 u H locs ls hl hH hF
            unfold lp_ordered_31 at hF
            refine lv_iload hx hb dX13_ordered_31 (lv_at hl 6 rfl) ?_
            refine lv_aload_n hx hb dX13_ordered_33 rfl (lv_at hl 0 rfl) ?_
            refine mg_13 hC hH dX13_ordered_34 ?_
            refine lv_iload_n hx hb dX13_ordered_37 rfl (lv_at hl 1 rfl) ?_
            obtain ⟨x_8, g_9, e_10, hF⟩ := prd_some hF
            refine ml_13 hC hH g_9 dX13_ordered_38 ?_
            refine gx_ti e_10 ?_
            refine lv_icmp_ge (tgt := 86) hx hb dX13_ordered_39 (by decide) (fun c_11 => ?_) (fun c_11 => ?_)
            · rw [if_pos c_11] at hF
              exact hK31_86 v1 v2 v3 v4 v5 v6 u _ _ _ (lv_sub hl [0, 1, 2, 3, 4, 5, 6] rfl) hH hF
            · rw [if_neg c_11] at hF
              refine lv_iload hx hb dX13_ordered_42 (lv_at hl 5 rfl) ?_
              refine lv_iload hx hb dX13_ordered_44 (lv_at hl 6 rfl) ?_
              refine lv_iload_n hx hb dX13_ordered_46 rfl (lv_at hl 3 rfl) ?_
              refine lv_icmp_eq (tgt := 76) hx hb dX13_ordered_47 (by decide) (fun c_12 => ?_) (fun c_12 => ?_)
              · rw [if_pos c_12] at hF
                refine lv_iconst (v := 0) hx hb dX13_ordered_76 (by decide) ?_
                refine lv_iadd hx hb dX13_ordered_77 ?_
                obtain ⟨x_13, e_14, hF⟩ := pli_some hF
                refine gx_ti e_14 ?_
                refine lv_istore (lv' := [(5, .int x_13), (0, .ref (Q 72)), (1, .int v1), (2, .int v2), (3, .int v3), (4, .int v4), (6, .int v6)]) hx hb dX13_ordered_78 hl (by decide) rfl (fun ls hl => ?_)
                obtain ⟨x_15, e_16, hF⟩ := pli_some hF
                refine lv_iinc (v := x_15) (lv' := [(6, .int x_15), (5, .int x_13), (0, .ref (Q 72)), (1, .int v1), (2, .int v2), (3, .int v3), (4, .int v4)]) hx hb dX13_ordered_80 hl (k := 6) rfl e_16 (by decide) rfl (fun ls hl => ?_)
                refine lv_goto (tgt := 31) hx hb dX13_ordered_83 (by decide) ?_
                exact ih31 v1 v2 v3 v4 x_13 x_15 u _ _ _ (lv_sub hl [2, 3, 4, 5, 6, 1, 0] rfl) hH hF
              · rw [if_neg c_12] at hF
                refine lv_aload_n hx hb dX13_ordered_50 rfl (lv_at hl 0 rfl) ?_
                refine lv_iload_n hx hb dX13_ordered_51 rfl (lv_at hl 1 rfl) ?_
                refine lv_aload_n hx hb dX13_ordered_52 rfl (lv_at hl 0 rfl) ?_
                refine mg_14 hC hH dX13_ordered_53 ?_
                refine lv_bipush (v := 32) hx hb dX13_ordered_56 (by decide) ?_
                refine lv_iload_n hx hb dX13_ordered_58 rfl (lv_at hl 1 rfl) ?_
                refine lv_imul hx hb dX13_ordered_59 ?_
                refine lv_iload hx hb dX13_ordered_60 (lv_at hl 6 rfl) ?_
                refine lv_iadd hx hb dX13_ordered_62 ?_
                obtain ⟨x_17, g_18, e_19, hF⟩ := prd_some hF
                refine ml_14 hC hH g_18 dX13_ordered_63 ?_
                refine gx_ti e_19 ?_
                refine lv_iload hx hb dX13_ordered_64 (lv_at hl 4 rfl) ?_
                obtain ⟨r_20, u_21, h_22, hF⟩ := pcl_some hF
                refine mcV_i (As := [.int v1, .int x_17, .int v4]) (rest := [.int v5]) hC hH (m_isAhead l G Z Q u u_21 r_20 v1 x_17 v4 _ h_22) kwX13_isAhead kVX13_isAhead ⟨Nat.le_of_ble_eq_true rfl, Nat.le_of_ble_eq_true rfl⟩ rfl hl.1 rfl (Nat.le_of_ble_eq_true rfl) dX13_ordered_66 (fun H locs hH => ?_)
                refine lv_if_eq (tgt := 76) hx hb dX13_ordered_69 (by decide) (fun c_23 => ?_) (fun c_23 => ?_)
                · rw [if_pos c_23] at hF
                  refine lv_iconst (v := 0) hx hb dX13_ordered_76 (by decide) ?_
                  refine lv_iadd hx hb dX13_ordered_77 ?_
                  obtain ⟨x_24, e_25, hF⟩ := pli_some hF
                  refine gx_ti e_25 ?_
                  refine lv_istore (lv' := [(5, .int x_24), (0, .ref (Q 72)), (1, .int v1), (2, .int v2), (3, .int v3), (4, .int v4), (6, .int v6)]) hx hb dX13_ordered_78 hl (by decide) rfl (fun ls hl => ?_)
                  obtain ⟨x_26, e_27, hF⟩ := pli_some hF
                  refine lv_iinc (v := x_26) (lv' := [(6, .int x_26), (5, .int x_24), (0, .ref (Q 72)), (1, .int v1), (2, .int v2), (3, .int v3), (4, .int v4)]) hx hb dX13_ordered_80 hl (k := 6) rfl e_27 (by decide) rfl (fun ls hl => ?_)
                  refine lv_goto (tgt := 31) hx hb dX13_ordered_83 (by decide) ?_
                  exact ih31 v1 v2 v3 v4 x_24 x_26 u_21 _ _ _ (lv_sub hl [2, 3, 4, 5, 6, 1, 0] rfl) hH hF
                · rw [if_neg c_23] at hF
                  refine lv_iconst (v := 1) hx hb dX13_ordered_72 (by decide) ?_
                  refine lv_goto (tgt := 77) hx hb dX13_ordered_73 (by decide) ?_
                  refine lv_iadd hx hb dX13_ordered_77 ?_
                  obtain ⟨x_28, e_29, hF⟩ := pli_some hF
                  refine gx_ti e_29 ?_
                  refine lv_istore (lv' := [(5, .int x_28), (0, .ref (Q 72)), (1, .int v1), (2, .int v2), (3, .int v3), (4, .int v4), (6, .int v6)]) hx hb dX13_ordered_78 hl (by decide) rfl (fun ls hl => ?_)
                  obtain ⟨x_30, e_31, hF⟩ := pli_some hF
                  refine lv_iinc (v := x_30) (lv' := [(6, .int x_30), (5, .int x_28), (0, .ref (Q 72)), (1, .int v1), (2, .int v2), (3, .int v3), (4, .int v4)]) hx hb dX13_ordered_80 hl (k := 6) rfl e_31 (by decide) rfl (fun ls hl => ?_)
                  refine lv_goto (tgt := 31) hx hb dX13_ordered_83 (by decide) ?_
                  exact ih31 v1 v2 v3 v4 x_28 x_30 u_21 _ _ _ (lv_sub hl [2, 3, 4, 5, 6, 1, 0] rfl) hH hF
        refine hL31 _ (fun v1 v2 v3 v4 v5 v6 u H locs ls hl hH hF => ?_) fuel v1 v2 v3 x_5 0 0 u _ _ _ (lv_sub hl [3, 4, 5, 6, 2, 1, 0] rfl) hH hF
        refine lv_iload hx hb dX13_ordered_86 (lv_at hl 5 rfl) ?_
        refine lv_iload_n hx hb dX13_ordered_88 rfl (lv_at hl 2 rfl) ?_
        refine lv_icmp_ne (tgt := 95) hx hb dX13_ordered_89 (by decide) (fun c_32 => ?_) (fun c_32 => ?_)
        · rw [if_neg c_32] at hF
          obtain ⟨x_33, e_34, hF⟩ := pli_some hF
          refine lv_iinc (v := x_33) (lv' := [(3, .int x_33), (0, .ref (Q 72)), (1, .int v1), (2, .int v2), (4, .int v4), (5, .int v5), (6, .int v6)]) hx hb dX13_ordered_95 hl (k := 3) rfl e_34 (by decide) rfl (fun ls hl => ?_)
          refine lv_goto (tgt := 2) hx hb dX13_ordered_98 (by decide) ?_
          exact ih2 v1 v2 x_33 u _ _ _ (lv_sub hl [1, 2, 3, 0] rfl) hH hF
        · rw [if_pos c_32] at hF
          refine lv_iload hx hb dX13_ordered_92 (lv_at hl 4 rfl) ?_
          have hF := prt_eq hF
          exact mr_i hC hH hr hF dX13_ordered_94 hlocks
  refine hL2 _ (fun v1 v2 v3 u H locs ls hl hH hF => ?_) fuel a0 a1 0 u _ _ _ (lv_sub hl [1, 2, 3, 0] rfl) hH hF
  refine lv_iconst (v := (-1)) hx hb dX13_ordered_101 (by decide) ?_
  have hF := prt_eq hF
  exact mr_i hC hH hr hF dX13_ordered_102 hlocks
def f_medal (a0 : Int32) (a1 : Int32) : PG (Int32) := pcl (f_isClass a0) (fun r_1 => (if r_1 = 0 then prt (-1) else prd 12 4 a0 (fun x_5 => (if x_5 = 0 then prt (-1) else (if 0 ≤ a1 then prd 12 4 a0 (fun x_10 => (if x_10 = 1 then prd 13 4 a0 (fun x_52 => (if x_52 ≤ a1 then prt (-1) else pcl (f_about a0 5) (fun r_56 => pcl (f_fights a0) (fun r_59 => (if r_56 = r_59 then pcl (f_ordered a0 a1) (fun r_63 => prt r_63) else prt (-1)))))) else (if a1 ≤ 3 then (if a1 ≤ 1 then pcl (f_finalOf a0) (fun r_16 => pcl (fS 24 3 a0 r_16 0 0) (fun r_19 => (if r_19 = (-1) then prt r_19 else (if a1 = 0 then prt r_19 else pcl (f_finalOf a0) (fun r_24 => pcl (fS 24 0 a0 r_24 0 0) (fun r_27 => (if r_27 = r_19 then pcl (f_finalOf a0) (fun r_37 => pcl (fS 24 0 a0 r_37 1 0) (fun r_40 => prt r_40)) else pcl (f_finalOf a0) (fun r_31 => pcl (fS 24 0 a0 r_31 0 0) (fun r_34 => prt r_34))))))))) else prd 13 4 a0 (fun x_43 => pcl (f_rounds a0) (fun r_46 => pcl (fS 24 3 a0 ((x_43 - 2) + ((a1 - 1) * (r_46 - 1))) 0 0) (fun r_49 => prt r_49)))) else prt (-1)))) else prt (-1))))))
set_option maxHeartbeats 4000000 in
set_option maxRecDepth 100000 in
theorem m_medal (l : Launch) (G : gG) (Z : gM) (Q : Nat → Nat) (u u1 : GS) (r : Int32) (a0 : Int32) (a1 : Int32) (sz : Nat) (hF : f_medal a0 a1 u = some (r, u1)) : Met l yX13_medal (Cond.code yX13_medal cX13_medal 4 (some .int) :: wM) { frames := 311, cells := 0, slots := 0, locals := 3838 } (va_Pc [.ref (Q 72), .int a0, .int a1] (mPM G Z Q u.1 sz)) (mQi G Q u1.1 r sz) 0 0 (mA Q sz) := by
  refine Met.ofW (cc := cX13_medal) (maxL := 4) (ret := (some .int)) (by decide) rfl ?_
  intro p e s m args below meth c s₁ B hml hv
  obtain ⟨rfl, rfl, hP, hB, hD, hE⟩ := hv
  have hr := B.returns
  have hlocks := B.notSynchronized
  have hts := atoms_spec (ws := Cond.code yX13_medal cX13_medal 4 (some .int) :: wM) B.pre
  have hC : mX p c cX13_medal 4 s m _ G Z Q := ⟨B.exec, B.bytes, hml, findClass_of_methodNamed B.named, fun w h => hts w (List.mem_cons_of_mem _ h), hB, hE⟩
  have hx := hC.1
  have hb := hC.2.1
  have hH : mH G Q u.1 s s.heap [] := ⟨hP, hD, va_S.rf⟩
  have hl := lv_entry ([.ref (Q 72), .int a0, .int a1]) (n := 4) (Nat.le_of_ble_eq_true rfl)
  rw [lg_entry_eq]
  generalize (lg_sl ([.ref (Q 72), .int a0, .int a1]) ++ List.replicate (4 - (lg_sl ([.ref (Q 72), .int a0, .int a1])).length) Slot.unset).toArray = ls at hl ⊢
  have hl : lv_has ls 4 [(0, .ref (Q 72)), (1, .int a0), (2, .int a1)] := hl
  unfold f_medal at hF
  refine lv_iload_n hx hb dX13_medal_0 rfl (lv_at hl 1 rfl) ?_
  obtain ⟨r_1, u_2, h_3, hF⟩ := pcl_some hF
  refine mcS_i (As := [.int a0]) (rest := []) hC hH (m_isClass l G Z Q u u_2 r_1 a0 _ h_3) kwX13_isClass kVX13_isClass ⟨Nat.le_of_ble_eq_true rfl, Nat.le_of_ble_eq_true rfl⟩ rfl hl.1 rfl (Nat.le_of_ble_eq_true rfl) dX13_medal_1 (fun H locs hH => ?_)
  refine lv_if_eq (tgt := 20) hx hb dX13_medal_4 (by decide) (fun c_4 => ?_) (fun c_4 => ?_)
  · rw [if_pos c_4] at hF
    refine lv_iconst (v := (-1)) hx hb dX13_medal_20 (by decide) ?_
    have hF := prt_eq hF
    exact mr_i hC hH hr hF dX13_medal_21 hlocks
  · rw [if_neg c_4] at hF
    refine lv_aload_n hx hb dX13_medal_7 rfl (lv_at hl 0 rfl) ?_
    refine mg_12 hC hH dX13_medal_8 ?_
    refine lv_iload_n hx hb dX13_medal_11 rfl (lv_at hl 1 rfl) ?_
    obtain ⟨x_5, g_6, e_7, hF⟩ := prd_some hF
    refine ml_12 hC hH g_6 dX13_medal_12 ?_
    refine gx_ti e_7 ?_
    refine lv_if_eq (tgt := 20) hx hb dX13_medal_13 (by decide) (fun c_8 => ?_) (fun c_8 => ?_)
    · rw [if_pos c_8] at hF
      refine lv_iconst (v := (-1)) hx hb dX13_medal_20 (by decide) ?_
      have hF := prt_eq hF
      exact mr_i hC hH hr hF dX13_medal_21 hlocks
    · rw [if_neg c_8] at hF
      refine lv_iload_n hx hb dX13_medal_16 rfl (lv_at hl 2 rfl) ?_
      refine lv_if_ge (tgt := 22) hx hb dX13_medal_17 (by decide) (fun c_9 => ?_) (fun c_9 => ?_)
      · rw [if_pos c_9] at hF
        refine lv_aload_n hx hb dX13_medal_22 rfl (lv_at hl 0 rfl) ?_
        refine mg_12 hC hH dX13_medal_23 ?_
        refine lv_iload_n hx hb dX13_medal_26 rfl (lv_at hl 1 rfl) ?_
        obtain ⟨x_10, g_11, e_12, hF⟩ := prd_some hF
        refine ml_12 hC hH g_11 dX13_medal_27 ?_
        refine gx_ti e_12 ?_
        refine lv_iconst (v := 1) hx hb dX13_medal_28 (by decide) ?_
        refine lv_icmp_ne (tgt := 67) hx hb dX13_medal_29 (by decide) (fun c_13 => ?_) (fun c_13 => ?_)
        · rw [if_neg c_13] at hF
          refine lv_iload_n hx hb dX13_medal_67 rfl (lv_at hl 2 rfl) ?_
          refine lv_iconst (v := 3) hx hb dX13_medal_68 (by decide) ?_
          refine lv_icmp_le (tgt := 74) hx hb dX13_medal_69 (by decide) (fun c_14 => ?_) (fun c_14 => ?_)
          · rw [if_pos c_14] at hF
            refine lv_iload_n hx hb dX13_medal_74 rfl (lv_at hl 2 rfl) ?_
            refine lv_iconst (v := 1) hx hb dX13_medal_75 (by decide) ?_
            refine lv_icmp_le (tgt := 105) hx hb dX13_medal_76 (by decide) (fun c_15 => ?_) (fun c_15 => ?_)
            · rw [if_pos c_15] at hF
              refine lv_aload_n hx hb dX13_medal_105 rfl (lv_at hl 0 rfl) ?_
              refine lv_iload_n hx hb dX13_medal_106 rfl (lv_at hl 1 rfl) ?_
              refine lv_aload_n hx hb dX13_medal_107 rfl (lv_at hl 0 rfl) ?_
              refine lv_iload_n hx hb dX13_medal_108 rfl (lv_at hl 1 rfl) ?_
              obtain ⟨r_16, u_17, h_18, hF⟩ := pcl_some hF
              refine mcV_i (As := [.int a0]) (rest := [.int a0, .ref (Q 72)]) hC hH (m_finalOf l G Z Q u_2 u_17 r_16 a0 _ h_18) kwX13_finalOf kVX13_finalOf ⟨Nat.le_of_ble_eq_true rfl, Nat.le_of_ble_eq_true rfl⟩ rfl hl.1 rfl (Nat.le_of_ble_eq_true rfl) dX13_medal_109 (fun H locs hH => ?_)
              obtain ⟨r_19, u_20, h_21, hF⟩ := pcl_some hF
              refine mcV_i (As := [.int a0, .int r_16]) (rest := []) hC hH (m_winnerOf l G Z Q u_17 u_20 r_19 a0 r_16 _ h_21) kwX13_winnerOf kVX13_winnerOf ⟨Nat.le_of_ble_eq_true rfl, Nat.le_of_ble_eq_true rfl⟩ rfl hl.1 rfl (Nat.le_of_ble_eq_true rfl) dX13_medal_112 (fun H locs hH => ?_)
              refine lv_istore_n (lv' := [(3, .int r_19), (0, .ref (Q 72)), (1, .int a0), (2, .int a1)]) hx hb dX13_medal_115 rfl hl (by decide) rfl (fun ls hl => ?_)
              refine lv_iload_n hx hb dX13_medal_116 rfl (lv_at hl 0 rfl) ?_
              refine lv_iconst (v := (-1)) hx hb dX13_medal_117 (by decide) ?_
              refine lv_icmp_eq (tgt := 125) hx hb dX13_medal_118 (by decide) (fun c_22 => ?_) (fun c_22 => ?_)
              · rw [if_pos c_22] at hF
                refine lv_iload_n hx hb dX13_medal_125 rfl (lv_at hl 0 rfl) ?_
                have hF := prt_eq hF
                exact mr_i hC hH hr hF dX13_medal_126 hlocks
              · rw [if_neg c_22] at hF
                refine lv_iload_n hx hb dX13_medal_121 rfl (lv_at hl 3 rfl) ?_
                refine lv_if_ne (tgt := 127) hx hb dX13_medal_122 (by decide) (fun c_23 => ?_) (fun c_23 => ?_)
                · rw [if_neg c_23] at hF
                  refine lv_aload_n hx hb dX13_medal_127 rfl (lv_at hl 1 rfl) ?_
                  refine lv_iload_n hx hb dX13_medal_128 rfl (lv_at hl 2 rfl) ?_
                  refine lv_aload_n hx hb dX13_medal_129 rfl (lv_at hl 1 rfl) ?_
                  refine lv_iload_n hx hb dX13_medal_130 rfl (lv_at hl 2 rfl) ?_
                  obtain ⟨r_24, u_25, h_26, hF⟩ := pcl_some hF
                  refine mcV_i (As := [.int a0]) (rest := [.int a0, .ref (Q 72)]) hC hH (m_finalOf l G Z Q u_20 u_25 r_24 a0 _ h_26) kwX13_finalOf kVX13_finalOf ⟨Nat.le_of_ble_eq_true rfl, Nat.le_of_ble_eq_true rfl⟩ rfl hl.1 rfl (Nat.le_of_ble_eq_true rfl) dX13_medal_131 (fun H locs hH => ?_)
                  refine lv_iconst (v := 0) hx hb dX13_medal_134 (by decide) ?_
                  obtain ⟨r_27, u_28, h_29, hF⟩ := pcl_some hF
                  refine mcV_i (As := [.int a0, .int r_24, .int 0]) (rest := []) hC hH (m_sideOf l G Z Q u_25 u_28 r_27 a0 r_24 0 _ h_29) kwX13_sideOf kVX13_sideOf ⟨Nat.le_of_ble_eq_true rfl, Nat.le_of_ble_eq_true rfl⟩ rfl hl.1 rfl (Nat.le_of_ble_eq_true rfl) dX13_medal_135 (fun H locs hH => ?_)
                  refine lv_iload_n hx hb dX13_medal_138 rfl (lv_at hl 0 rfl) ?_
                  refine lv_icmp_ne (tgt := 156) hx hb dX13_medal_139 (by decide) (fun c_30 => ?_) (fun c_30 => ?_)
                  · rw [if_neg c_30] at hF
                    refine lv_aload_n hx hb dX13_medal_156 rfl (lv_at hl 1 rfl) ?_
                    refine lv_iload_n hx hb dX13_medal_157 rfl (lv_at hl 2 rfl) ?_
                    refine lv_aload_n hx hb dX13_medal_158 rfl (lv_at hl 1 rfl) ?_
                    refine lv_iload_n hx hb dX13_medal_159 rfl (lv_at hl 2 rfl) ?_
                    obtain ⟨r_31, u_32, h_33, hF⟩ := pcl_some hF
                    refine mcV_i (As := [.int a0]) (rest := [.int a0, .ref (Q 72)]) hC hH (m_finalOf l G Z Q u_28 u_32 r_31 a0 _ h_33) kwX13_finalOf kVX13_finalOf ⟨Nat.le_of_ble_eq_true rfl, Nat.le_of_ble_eq_true rfl⟩ rfl hl.1 rfl (Nat.le_of_ble_eq_true rfl) dX13_medal_160 (fun H locs hH => ?_)
                    refine lv_iconst (v := 0) hx hb dX13_medal_163 (by decide) ?_
                    obtain ⟨r_34, u_35, h_36, hF⟩ := pcl_some hF
                    refine mcV_i (As := [.int a0, .int r_31, .int 0]) (rest := []) hC hH (m_sideOf l G Z Q u_32 u_35 r_34 a0 r_31 0 _ h_36) kwX13_sideOf kVX13_sideOf ⟨Nat.le_of_ble_eq_true rfl, Nat.le_of_ble_eq_true rfl⟩ rfl hl.1 rfl (Nat.le_of_ble_eq_true rfl) dX13_medal_164 (fun H locs hH => ?_)
                    have hF := prt_eq hF
                    exact mr_i hC hH hr hF dX13_medal_167 hlocks
                  · rw [if_pos c_30] at hF
                    refine lv_aload_n hx hb dX13_medal_142 rfl (lv_at hl 1 rfl) ?_
                    refine lv_iload_n hx hb dX13_medal_143 rfl (lv_at hl 2 rfl) ?_
                    refine lv_aload_n hx hb dX13_medal_144 rfl (lv_at hl 1 rfl) ?_
                    refine lv_iload_n hx hb dX13_medal_145 rfl (lv_at hl 2 rfl) ?_
                    obtain ⟨r_37, u_38, h_39, hF⟩ := pcl_some hF
                    refine mcV_i (As := [.int a0]) (rest := [.int a0, .ref (Q 72)]) hC hH (m_finalOf l G Z Q u_28 u_38 r_37 a0 _ h_39) kwX13_finalOf kVX13_finalOf ⟨Nat.le_of_ble_eq_true rfl, Nat.le_of_ble_eq_true rfl⟩ rfl hl.1 rfl (Nat.le_of_ble_eq_true rfl) dX13_medal_146 (fun H locs hH => ?_)
                    refine lv_iconst (v := 1) hx hb dX13_medal_149 (by decide) ?_
                    obtain ⟨r_40, u_41, h_42, hF⟩ := pcl_some hF
                    refine mcV_i (As := [.int a0, .int r_37, .int 1]) (rest := []) hC hH (m_sideOf l G Z Q u_38 u_41 r_40 a0 r_37 1 _ h_42) kwX13_sideOf kVX13_sideOf ⟨Nat.le_of_ble_eq_true rfl, Nat.le_of_ble_eq_true rfl⟩ rfl hl.1 rfl (Nat.le_of_ble_eq_true rfl) dX13_medal_150 (fun H locs hH => ?_)
                    refine lv_goto (tgt := 167) hx hb dX13_medal_153 (by decide) ?_
                    have hF := prt_eq hF
                    exact mr_i hC hH hr hF dX13_medal_167 hlocks
                · rw [if_pos c_23] at hF
                  refine lv_iload_n hx hb dX13_medal_125 rfl (lv_at hl 0 rfl) ?_
                  have hF := prt_eq hF
                  exact mr_i hC hH hr hF dX13_medal_126 hlocks
            · rw [if_neg c_15] at hF
              refine lv_aload_n hx hb dX13_medal_79 rfl (lv_at hl 0 rfl) ?_
              refine lv_iload_n hx hb dX13_medal_80 rfl (lv_at hl 1 rfl) ?_
              refine lv_aload_n hx hb dX13_medal_81 rfl (lv_at hl 0 rfl) ?_
              refine mg_13 hC hH dX13_medal_82 ?_
              refine lv_iload_n hx hb dX13_medal_85 rfl (lv_at hl 1 rfl) ?_
              obtain ⟨x_43, g_44, e_45, hF⟩ := prd_some hF
              refine ml_13 hC hH g_44 dX13_medal_86 ?_
              refine gx_ti e_45 ?_
              refine lv_iconst (v := 2) hx hb dX13_medal_87 (by decide) ?_
              refine lv_isub hx hb dX13_medal_88 ?_
              refine lv_iload_n hx hb dX13_medal_89 rfl (lv_at hl 2 rfl) ?_
              refine lv_iconst (v := 1) hx hb dX13_medal_90 (by decide) ?_
              refine lv_isub hx hb dX13_medal_91 ?_
              refine lv_aload_n hx hb dX13_medal_92 rfl (lv_at hl 0 rfl) ?_
              refine lv_iload_n hx hb dX13_medal_93 rfl (lv_at hl 1 rfl) ?_
              obtain ⟨r_46, u_47, h_48, hF⟩ := pcl_some hF
              refine mcV_i (As := [.int a0]) (rest := [.int (a1 - 1), .int (x_43 - 2), .int a0, .ref (Q 72)]) hC hH (m_rounds l G Z Q u_2 u_47 r_46 a0 _ h_48) kwX13_rounds kVX13_rounds ⟨Nat.le_of_ble_eq_true rfl, Nat.le_of_ble_eq_true rfl⟩ rfl hl.1 rfl (Nat.le_of_ble_eq_true rfl) dX13_medal_94 (fun H locs hH => ?_)
              refine lv_iconst (v := 1) hx hb dX13_medal_97 (by decide) ?_
              refine lv_isub hx hb dX13_medal_98 ?_
              refine lv_imul hx hb dX13_medal_99 ?_
              refine lv_iadd hx hb dX13_medal_100 ?_
              obtain ⟨r_49, u_50, h_51, hF⟩ := pcl_some hF
              refine mcV_i (As := [.int a0, .int ((x_43 - 2) + ((a1 - 1) * (r_46 - 1)))]) (rest := []) hC hH (m_winnerOf l G Z Q u_47 u_50 r_49 a0 ((x_43 - 2) + ((a1 - 1) * (r_46 - 1))) _ h_51) kwX13_winnerOf kVX13_winnerOf ⟨Nat.le_of_ble_eq_true rfl, Nat.le_of_ble_eq_true rfl⟩ rfl hl.1 rfl (Nat.le_of_ble_eq_true rfl) dX13_medal_101 (fun H locs hH => ?_)
              have hF := prt_eq hF
              exact mr_i hC hH hr hF dX13_medal_104 hlocks
          · rw [if_neg c_14] at hF
            refine lv_iconst (v := (-1)) hx hb dX13_medal_72 (by decide) ?_
            have hF := prt_eq hF
            exact mr_i hC hH hr hF dX13_medal_73 hlocks
        · rw [if_pos c_13] at hF
          refine lv_iload_n hx hb dX13_medal_32 rfl (lv_at hl 2 rfl) ?_
          refine lv_aload_n hx hb dX13_medal_33 rfl (lv_at hl 0 rfl) ?_
          refine mg_13 hC hH dX13_medal_34 ?_
          refine lv_iload_n hx hb dX13_medal_37 rfl (lv_at hl 1 rfl) ?_
          obtain ⟨x_52, g_53, e_54, hF⟩ := prd_some hF
          refine ml_13 hC hH g_53 dX13_medal_38 ?_
          refine gx_ti e_54 ?_
          refine lv_icmp_ge (tgt := 65) hx hb dX13_medal_39 (by decide) (fun c_55 => ?_) (fun c_55 => ?_)
          · rw [if_pos c_55] at hF
            refine lv_iconst (v := (-1)) hx hb dX13_medal_65 (by decide) ?_
            have hF := prt_eq hF
            exact mr_i hC hH hr hF dX13_medal_66 hlocks
          · rw [if_neg c_55] at hF
            refine lv_aload_n hx hb dX13_medal_42 rfl (lv_at hl 0 rfl) ?_
            refine lv_iload_n hx hb dX13_medal_43 rfl (lv_at hl 1 rfl) ?_
            refine lv_iconst (v := 5) hx hb dX13_medal_44 (by decide) ?_
            obtain ⟨r_56, u_57, h_58, hF⟩ := pcl_some hF
            refine mcV_i (As := [.int a0, .int 5]) (rest := []) hC hH (m_about l G Z Q u_2 u_57 r_56 a0 5 _ h_58) kwX13_about kVX13_about ⟨Nat.le_of_ble_eq_true rfl, Nat.le_of_ble_eq_true rfl⟩ rfl hl.1 rfl (Nat.le_of_ble_eq_true rfl) dX13_medal_45 (fun H locs hH => ?_)
            refine lv_aload_n hx hb dX13_medal_48 rfl (lv_at hl 0 rfl) ?_
            refine lv_iload_n hx hb dX13_medal_49 rfl (lv_at hl 1 rfl) ?_
            obtain ⟨r_59, u_60, h_61, hF⟩ := pcl_some hF
            refine mcV_i (As := [.int a0]) (rest := [.int r_56]) hC hH (m_fights l G Z Q u_57 u_60 r_59 a0 _ h_61) kwX13_fights kVX13_fights ⟨Nat.le_of_ble_eq_true rfl, Nat.le_of_ble_eq_true rfl⟩ rfl hl.1 rfl (Nat.le_of_ble_eq_true rfl) dX13_medal_50 (fun H locs hH => ?_)
            refine lv_icmp_ne (tgt := 65) hx hb dX13_medal_53 (by decide) (fun c_62 => ?_) (fun c_62 => ?_)
            · rw [if_neg c_62] at hF
              refine lv_iconst (v := (-1)) hx hb dX13_medal_65 (by decide) ?_
              have hF := prt_eq hF
              exact mr_i hC hH hr hF dX13_medal_66 hlocks
            · rw [if_pos c_62] at hF
              refine lv_aload_n hx hb dX13_medal_56 rfl (lv_at hl 0 rfl) ?_
              refine lv_iload_n hx hb dX13_medal_57 rfl (lv_at hl 1 rfl) ?_
              refine lv_iload_n hx hb dX13_medal_58 rfl (lv_at hl 2 rfl) ?_
              obtain ⟨r_63, u_64, h_65, hF⟩ := pcl_some hF
              refine mcV_i (As := [.int a0, .int a1]) (rest := []) hC hH (m_ordered l G Z Q u_60 u_64 r_63 a0 a1 _ h_65) kwX13_ordered kVX13_ordered ⟨Nat.le_of_ble_eq_true rfl, Nat.le_of_ble_eq_true rfl⟩ rfl hl.1 rfl (Nat.le_of_ble_eq_true rfl) dX13_medal_59 (fun H locs hH => ?_)
              refine lv_goto (tgt := 66) hx hb dX13_medal_62 (by decide) ?_
              have hF := prt_eq hF
              exact mr_i hC hH hr hF dX13_medal_66 hlocks
      · rw [if_neg c_9] at hF
        refine lv_iconst (v := (-1)) hx hb dX13_medal_20 (by decide) ?_
        have hF := prt_eq hF
        exact mr_i hC hH hr hF dX13_medal_21 hlocks
def f_stage (a0 : Int32) : PG (Int32) := pli (a0 / 40) (fun x_1 => pli (a0 - a0 / 40 * 40) (fun x_3 => prd 12 4 x_1 (fun x_5 => (if x_5 = 1 then prt 0 else pcl (f_isSecond x_1 x_3) (fun r_9 => (if r_9 = 0 then pcl (f_finalOf x_1) (fun r_13 => (if x_3 = r_13 then prt 20 else pcl (f_roundOf x_1 x_3) (fun r_17 => prt r_17))) else pcl (f_stepOf x_1 x_3) (fun r_20 => prt (10 + r_20))))))))
set_option maxHeartbeats 4000000 in
set_option maxRecDepth 100000 in
theorem m_stage (l : Launch) (G : gG) (Z : gM) (Q : Nat → Nat) (u u1 : GS) (r : Int32) (a0 : Int32) (sz : Nat) (hF : f_stage a0 u = some (r, u1)) : Met l yX13_stage (Cond.code yX13_stage cX13_stage 4 (some .int) :: wM) { frames := 3, cells := 0, slots := 0, locals := 65 } (va_Pc [.ref (Q 72), .int a0] (mPM G Z Q u.1 sz)) (mQi G Q u1.1 r sz) 0 0 (mA Q sz) := by
  refine Met.ofW (cc := cX13_stage) (maxL := 4) (ret := (some .int)) (by decide) rfl ?_
  intro p e s m args below meth c s₁ B hml hv
  obtain ⟨rfl, rfl, hP, hB, hD, hE⟩ := hv
  have hr := B.returns
  have hlocks := B.notSynchronized
  have hts := atoms_spec (ws := Cond.code yX13_stage cX13_stage 4 (some .int) :: wM) B.pre
  have hC : mX p c cX13_stage 4 s m _ G Z Q := ⟨B.exec, B.bytes, hml, findClass_of_methodNamed B.named, fun w h => hts w (List.mem_cons_of_mem _ h), hB, hE⟩
  have hx := hC.1
  have hb := hC.2.1
  have hH : mH G Q u.1 s s.heap [] := ⟨hP, hD, va_S.rf⟩
  have hl := lv_entry ([.ref (Q 72), .int a0]) (n := 4) (Nat.le_of_ble_eq_true rfl)
  rw [lg_entry_eq]
  generalize (lg_sl ([.ref (Q 72), .int a0]) ++ List.replicate (4 - (lg_sl ([.ref (Q 72), .int a0])).length) Slot.unset).toArray = ls at hl ⊢
  have hl : lv_has ls 4 [(0, .ref (Q 72)), (1, .int a0)] := hl
  unfold f_stage at hF
  refine lv_iload_n hx hb dX13_stage_0 rfl (lv_at hl 1 rfl) ?_
  refine lv_bipush (v := 40) hx hb dX13_stage_1 (by decide) ?_
  refine lv_idiv hx hb dX13_stage_3 (by decide) ?_
  obtain ⟨x_1, e_2, hF⟩ := pli_some hF
  refine gx_ti e_2 ?_
  refine lv_istore_n (lv' := [(2, .int x_1), (0, .ref (Q 72)), (1, .int a0)]) hx hb dX13_stage_4 rfl hl (by decide) rfl (fun ls hl => ?_)
  refine lv_iload_n hx hb dX13_stage_5 rfl (lv_at hl 2 rfl) ?_
  refine lv_bipush (v := 40) hx hb dX13_stage_6 (by decide) ?_
  refine lv_irem hx hb dX13_stage_8 (by decide) ?_
  obtain ⟨x_3, e_4, hF⟩ := pli_some hF
  refine gx_ti e_4 ?_
  refine lv_istore_n (lv' := [(3, .int x_3), (2, .int x_1), (0, .ref (Q 72)), (1, .int a0)]) hx hb dX13_stage_9 rfl hl (by decide) rfl (fun ls hl => ?_)
  refine lv_aload_n hx hb dX13_stage_10 rfl (lv_at hl 2 rfl) ?_
  refine mg_12 hC hH dX13_stage_11 ?_
  refine lv_iload_n hx hb dX13_stage_14 rfl (lv_at hl 1 rfl) ?_
  obtain ⟨x_5, g_6, e_7, hF⟩ := prd_some hF
  refine ml_12 hC hH g_6 dX13_stage_15 ?_
  refine gx_ti e_7 ?_
  refine lv_iconst (v := 1) hx hb dX13_stage_16 (by decide) ?_
  refine lv_icmp_ne (tgt := 22) hx hb dX13_stage_17 (by decide) (fun c_8 => ?_) (fun c_8 => ?_)
  · rw [if_neg c_8] at hF
    refine lv_aload_n hx hb dX13_stage_22 rfl (lv_at hl 2 rfl) ?_
    refine lv_iload_n hx hb dX13_stage_23 rfl (lv_at hl 1 rfl) ?_
    refine lv_iload_n hx hb dX13_stage_24 rfl (lv_at hl 0 rfl) ?_
    obtain ⟨r_9, u_10, h_11, hF⟩ := pcl_some hF
    refine mcV_i (As := [.int x_1, .int x_3]) (rest := []) hC hH (m_isSecond l G Z Q u u_10 r_9 x_1 x_3 _ h_11) kwX13_isSecond kVX13_isSecond ⟨Nat.le_of_ble_eq_true rfl, Nat.le_of_ble_eq_true rfl⟩ rfl hl.1 rfl (Nat.le_of_ble_eq_true rfl) dX13_stage_25 (fun H locs hH => ?_)
    refine lv_if_eq (tgt := 41) hx hb dX13_stage_28 (by decide) (fun c_12 => ?_) (fun c_12 => ?_)
    · rw [if_pos c_12] at hF
      refine lv_iload_n hx hb dX13_stage_41 rfl (lv_at hl 0 rfl) ?_
      refine lv_aload_n hx hb dX13_stage_42 rfl (lv_at hl 2 rfl) ?_
      refine lv_iload_n hx hb dX13_stage_43 rfl (lv_at hl 1 rfl) ?_
      obtain ⟨r_13, u_14, h_15, hF⟩ := pcl_some hF
      refine mcV_i (As := [.int x_1]) (rest := [.int x_3]) hC hH (m_finalOf l G Z Q u_10 u_14 r_13 x_1 _ h_15) kwX13_finalOf kVX13_finalOf ⟨Nat.le_of_ble_eq_true rfl, Nat.le_of_ble_eq_true rfl⟩ rfl hl.1 rfl (Nat.le_of_ble_eq_true rfl) dX13_stage_44 (fun H locs hH => ?_)
      refine lv_icmp_ne (tgt := 55) hx hb dX13_stage_47 (by decide) (fun c_16 => ?_) (fun c_16 => ?_)
      · rw [if_neg c_16] at hF
        refine lv_aload_n hx hb dX13_stage_55 rfl (lv_at hl 2 rfl) ?_
        refine lv_iload_n hx hb dX13_stage_56 rfl (lv_at hl 1 rfl) ?_
        refine lv_iload_n hx hb dX13_stage_57 rfl (lv_at hl 0 rfl) ?_
        obtain ⟨r_17, u_18, h_19, hF⟩ := pcl_some hF
        refine mcV_i (As := [.int x_1, .int x_3]) (rest := []) hC hH (m_roundOf l G Z Q u_14 u_18 r_17 x_1 x_3 _ h_19) kwX13_roundOf kVX13_roundOf ⟨Nat.le_of_ble_eq_true rfl, Nat.le_of_ble_eq_true rfl⟩ rfl hl.1 rfl (Nat.le_of_ble_eq_true rfl) dX13_stage_58 (fun H locs hH => ?_)
        have hF := prt_eq hF
        exact mr_i hC hH hr hF dX13_stage_61 hlocks
      · rw [if_pos c_16] at hF
        refine lv_bipush (v := 20) hx hb dX13_stage_50 (by decide) ?_
        refine lv_goto (tgt := 61) hx hb dX13_stage_52 (by decide) ?_
        have hF := prt_eq hF
        exact mr_i hC hH hr hF dX13_stage_61 hlocks
    · rw [if_neg c_12] at hF
      refine lv_bipush (v := 10) hx hb dX13_stage_31 (by decide) ?_
      refine lv_aload_n hx hb dX13_stage_33 rfl (lv_at hl 2 rfl) ?_
      refine lv_iload_n hx hb dX13_stage_34 rfl (lv_at hl 1 rfl) ?_
      refine lv_iload_n hx hb dX13_stage_35 rfl (lv_at hl 0 rfl) ?_
      obtain ⟨r_20, u_21, h_22, hF⟩ := pcl_some hF
      refine mcV_i (As := [.int x_1, .int x_3]) (rest := [.int 10]) hC hH (m_stepOf l G Z Q u_10 u_21 r_20 x_1 x_3 _ h_22) kwX13_stepOf kVX13_stepOf ⟨Nat.le_of_ble_eq_true rfl, Nat.le_of_ble_eq_true rfl⟩ rfl hl.1 rfl (Nat.le_of_ble_eq_true rfl) dX13_stage_36 (fun H locs hH => ?_)
      refine lv_iadd hx hb dX13_stage_39 ?_
      have hF := prt_eq hF
      exact mr_i hC hH hr hF dX13_stage_40 hlocks
  · rw [if_pos c_8] at hF
    refine lv_iconst (v := 0) hx hb dX13_stage_20 (by decide) ?_
    have hF := prt_eq hF
    exact mr_i hC hH hr hF dX13_stage_21 hlocks
def f_tires (a0 : Int32) (a1 : Int32) : PG (Int32) := prd 67 160 a0 (fun x_1 => (if x_1 = (-1) then prd 68 160 a0 (fun x_5 => (if x_5 = (-1) then prt 0 else prd 68 160 a0 (fun x_9 => prd 68 160 a0 (fun x_12 => prd 70 96 x_12 (fun x_15 => prf 4 (fun x_18 => pwd 70 96 x_9 (if x_15 < (a1 + x_18) then (a1 + x_18) else x_15) (prt 0))))))) else prd 67 160 a0 (fun x_23 => prd 67 160 a0 (fun x_26 => prd 70 96 x_26 (fun x_29 => prf 4 (fun x_32 => pwd 70 96 x_23 (if x_29 < (a1 + x_32) then (a1 + x_32) else x_29) (prd 68 160 a0 (fun x_37 => (if x_37 = (-1) then prt 0 else prd 68 160 a0 (fun x_41 => prd 68 160 a0 (fun x_44 => prd 70 96 x_44 (fun x_47 => prf 4 (fun x_50 => pwd 70 96 x_41 (if x_47 < (a1 + x_50) then (a1 + x_50) else x_47) (prt 0))))))))))))))
set_option maxHeartbeats 4000000 in
set_option maxRecDepth 100000 in
theorem m_tires (l : Launch) (G : gG) (Z : gM) (Q : Nat → Nat) (u u1 : GS) (r : Int32) (a0 : Int32) (a1 : Int32) (sz : Nat) (hF : f_tires a0 a1 u = some (r, u1)) : Met l yX13_tires (Cond.code yX13_tires cX13_tires 3 none :: wM) { frames := 1, cells := 0, slots := 0, locals := 15 } (va_Pc [.ref (Q 72), .int a0, .int a1] (mPM G Z Q u.1 sz)) (mQv G Q u1.1 sz) 0 0 (mA Q sz) := by
  refine Met.ofW (cc := cX13_tires) (maxL := 3) (ret := none) (by decide) rfl ?_
  intro p e s m args below meth c s₁ B hml hv
  obtain ⟨rfl, rfl, hP, hB, hD, hE⟩ := hv
  have hr := B.returns
  have hlocks := B.notSynchronized
  have hts := atoms_spec (ws := Cond.code yX13_tires cX13_tires 3 none :: wM) B.pre
  have hC : mX p c cX13_tires 3 s m _ G Z Q := ⟨B.exec, B.bytes, hml, findClass_of_methodNamed B.named, fun w h => hts w (List.mem_cons_of_mem _ h), hB, hE⟩
  have hx := hC.1
  have hb := hC.2.1
  have hH : mH G Q u.1 s s.heap [] := ⟨hP, hD, va_S.rf⟩
  have hl := lv_entry ([.ref (Q 72), .int a0, .int a1]) (n := 3) (Nat.le_of_ble_eq_true rfl)
  rw [lg_entry_eq]
  generalize (lg_sl ([.ref (Q 72), .int a0, .int a1]) ++ List.replicate (3 - (lg_sl ([.ref (Q 72), .int a0, .int a1])).length) Slot.unset).toArray = ls at hl ⊢
  have hl : lv_has ls 3 [(0, .ref (Q 72)), (1, .int a0), (2, .int a1)] := hl
  unfold f_tires at hF
  refine lv_aload_n hx hb dX13_tires_0 rfl (lv_at hl 0 rfl) ?_
  refine mg_67 hC hH dX13_tires_1 ?_
  refine lv_iload_n hx hb dX13_tires_4 rfl (lv_at hl 1 rfl) ?_
  obtain ⟨x_1, g_2, e_3, hF⟩ := prd_some hF
  refine ml_67 hC hH g_2 dX13_tires_5 ?_
  refine gx_ti e_3 ?_
  refine lv_iconst (v := (-1)) hx hb dX13_tires_6 (by decide) ?_
  refine lv_icmp_eq (tgt := 41) hx hb dX13_tires_7 (by decide) (fun c_4 => ?_) (fun c_4 => ?_)
  · rw [if_pos c_4] at hF
    refine lv_aload_n hx hb dX13_tires_41 rfl (lv_at hl 0 rfl) ?_
    refine mg_68 hC hH dX13_tires_42 ?_
    refine lv_iload_n hx hb dX13_tires_45 rfl (lv_at hl 1 rfl) ?_
    obtain ⟨x_5, g_6, e_7, hF⟩ := prd_some hF
    refine ml_68 hC hH g_6 dX13_tires_46 ?_
    refine gx_ti e_7 ?_
    refine lv_iconst (v := (-1)) hx hb dX13_tires_47 (by decide) ?_
    refine lv_icmp_eq (tgt := 82) hx hb dX13_tires_48 (by decide) (fun c_8 => ?_) (fun c_8 => ?_)
    · rw [if_pos c_8] at hF
      have hF := prt_eq hF
      exact mr_v hC hH hr hF dX13_tires_82 hlocks
    · rw [if_neg c_8] at hF
      refine lv_aload_n hx hb dX13_tires_51 rfl (lv_at hl 0 rfl) ?_
      refine mg_70 hC hH dX13_tires_52 ?_
      refine lv_aload_n hx hb dX13_tires_55 rfl (lv_at hl 0 rfl) ?_
      refine mg_68 hC hH dX13_tires_56 ?_
      refine lv_iload_n hx hb dX13_tires_59 rfl (lv_at hl 1 rfl) ?_
      obtain ⟨x_9, g_10, e_11, hF⟩ := prd_some hF
      refine ml_68 hC hH g_10 dX13_tires_60 ?_
      refine gx_ti e_11 ?_
      refine lv_aload_n hx hb dX13_tires_61 rfl (lv_at hl 0 rfl) ?_
      refine mg_70 hC hH dX13_tires_62 ?_
      refine lv_aload_n hx hb dX13_tires_65 rfl (lv_at hl 0 rfl) ?_
      refine mg_68 hC hH dX13_tires_66 ?_
      refine lv_iload_n hx hb dX13_tires_69 rfl (lv_at hl 1 rfl) ?_
      obtain ⟨x_12, g_13, e_14, hF⟩ := prd_some hF
      refine ml_68 hC hH g_13 dX13_tires_70 ?_
      refine gx_ti e_14 ?_
      obtain ⟨x_15, g_16, e_17, hF⟩ := prd_some hF
      refine ml_70 hC hH g_16 dX13_tires_71 ?_
      refine gx_ti e_17 ?_
      refine lv_iload_n hx hb dX13_tires_72 rfl (lv_at hl 2 rfl) ?_
      refine lv_aload_n hx hb dX13_tires_73 rfl (lv_at hl 0 rfl) ?_
      refine mg_4 hC hH dX13_tires_74 ?_
      obtain ⟨x_18, e_19, hF⟩ := prf_some hF
      refine gx_ti e_19 ?_
      refine lv_iadd hx hb dX13_tires_77 ?_
      refine va_mmax hx hb (hC.2.2.1.trans hl.1.symm) hC.2.2.2.1 (hC.2.2.2.2.1 _ wma152) (hC.2.2.2.2.1 _ wma376) (hC.2.2.2.2.1 _ wma378) (hC.2.2.2.2.1 _ wma379) (Nat.le_of_ble_eq_true rfl) (Nat.le_of_ble_eq_true rfl) (Nat.le_of_ble_eq_true rfl) (Nat.le_of_ble_eq_true rfl) dX13_tires_78 ?_
      obtain ⟨u_21, g_20, e_22, hF⟩ := pwd_some hF
      refine ms_70 hC hH e_22 g_20 dX13_tires_81 (fun H locs hH => ?_)
      have hF := prt_eq hF
      exact mr_v hC hH hr hF dX13_tires_82 hlocks
  · rw [if_neg c_4] at hF
    refine lv_aload_n hx hb dX13_tires_10 rfl (lv_at hl 0 rfl) ?_
    refine mg_70 hC hH dX13_tires_11 ?_
    refine lv_aload_n hx hb dX13_tires_14 rfl (lv_at hl 0 rfl) ?_
    refine mg_67 hC hH dX13_tires_15 ?_
    refine lv_iload_n hx hb dX13_tires_18 rfl (lv_at hl 1 rfl) ?_
    obtain ⟨x_23, g_24, e_25, hF⟩ := prd_some hF
    refine ml_67 hC hH g_24 dX13_tires_19 ?_
    refine gx_ti e_25 ?_
    refine lv_aload_n hx hb dX13_tires_20 rfl (lv_at hl 0 rfl) ?_
    refine mg_70 hC hH dX13_tires_21 ?_
    refine lv_aload_n hx hb dX13_tires_24 rfl (lv_at hl 0 rfl) ?_
    refine mg_67 hC hH dX13_tires_25 ?_
    refine lv_iload_n hx hb dX13_tires_28 rfl (lv_at hl 1 rfl) ?_
    obtain ⟨x_26, g_27, e_28, hF⟩ := prd_some hF
    refine ml_67 hC hH g_27 dX13_tires_29 ?_
    refine gx_ti e_28 ?_
    obtain ⟨x_29, g_30, e_31, hF⟩ := prd_some hF
    refine ml_70 hC hH g_30 dX13_tires_30 ?_
    refine gx_ti e_31 ?_
    refine lv_iload_n hx hb dX13_tires_31 rfl (lv_at hl 2 rfl) ?_
    refine lv_aload_n hx hb dX13_tires_32 rfl (lv_at hl 0 rfl) ?_
    refine mg_4 hC hH dX13_tires_33 ?_
    obtain ⟨x_32, e_33, hF⟩ := prf_some hF
    refine gx_ti e_33 ?_
    refine lv_iadd hx hb dX13_tires_36 ?_
    refine va_mmax hx hb (hC.2.2.1.trans hl.1.symm) hC.2.2.2.1 (hC.2.2.2.2.1 _ wma152) (hC.2.2.2.2.1 _ wma376) (hC.2.2.2.2.1 _ wma378) (hC.2.2.2.2.1 _ wma379) (Nat.le_of_ble_eq_true rfl) (Nat.le_of_ble_eq_true rfl) (Nat.le_of_ble_eq_true rfl) (Nat.le_of_ble_eq_true rfl) dX13_tires_37 ?_
    obtain ⟨u_35, g_34, e_36, hF⟩ := pwd_some hF
    refine ms_70 hC hH e_36 g_34 dX13_tires_40 (fun H locs hH => ?_)
    refine lv_aload_n hx hb dX13_tires_41 rfl (lv_at hl 0 rfl) ?_
    refine mg_68 hC hH dX13_tires_42 ?_
    refine lv_iload_n hx hb dX13_tires_45 rfl (lv_at hl 1 rfl) ?_
    obtain ⟨x_37, g_38, e_39, hF⟩ := prd_some hF
    refine ml_68 hC hH g_38 dX13_tires_46 ?_
    refine gx_ti e_39 ?_
    refine lv_iconst (v := (-1)) hx hb dX13_tires_47 (by decide) ?_
    refine lv_icmp_eq (tgt := 82) hx hb dX13_tires_48 (by decide) (fun c_40 => ?_) (fun c_40 => ?_)
    · rw [if_pos c_40] at hF
      have hF := prt_eq hF
      exact mr_v hC hH hr hF dX13_tires_82 hlocks
    · rw [if_neg c_40] at hF
      refine lv_aload_n hx hb dX13_tires_51 rfl (lv_at hl 0 rfl) ?_
      refine mg_70 hC hH dX13_tires_52 ?_
      refine lv_aload_n hx hb dX13_tires_55 rfl (lv_at hl 0 rfl) ?_
      refine mg_68 hC hH dX13_tires_56 ?_
      refine lv_iload_n hx hb dX13_tires_59 rfl (lv_at hl 1 rfl) ?_
      obtain ⟨x_41, g_42, e_43, hF⟩ := prd_some hF
      refine ml_68 hC hH g_42 dX13_tires_60 ?_
      refine gx_ti e_43 ?_
      refine lv_aload_n hx hb dX13_tires_61 rfl (lv_at hl 0 rfl) ?_
      refine mg_70 hC hH dX13_tires_62 ?_
      refine lv_aload_n hx hb dX13_tires_65 rfl (lv_at hl 0 rfl) ?_
      refine mg_68 hC hH dX13_tires_66 ?_
      refine lv_iload_n hx hb dX13_tires_69 rfl (lv_at hl 1 rfl) ?_
      obtain ⟨x_44, g_45, e_46, hF⟩ := prd_some hF
      refine ml_68 hC hH g_45 dX13_tires_70 ?_
      refine gx_ti e_46 ?_
      obtain ⟨x_47, g_48, e_49, hF⟩ := prd_some hF
      refine ml_70 hC hH g_48 dX13_tires_71 ?_
      refine gx_ti e_49 ?_
      refine lv_iload_n hx hb dX13_tires_72 rfl (lv_at hl 2 rfl) ?_
      refine lv_aload_n hx hb dX13_tires_73 rfl (lv_at hl 0 rfl) ?_
      refine mg_4 hC hH dX13_tires_74 ?_
      obtain ⟨x_50, e_51, hF⟩ := prf_some hF
      refine gx_ti e_51 ?_
      refine lv_iadd hx hb dX13_tires_77 ?_
      refine va_mmax hx hb (hC.2.2.1.trans hl.1.symm) hC.2.2.2.1 (hC.2.2.2.2.1 _ wma152) (hC.2.2.2.2.1 _ wma376) (hC.2.2.2.2.1 _ wma378) (hC.2.2.2.2.1 _ wma379) (Nat.le_of_ble_eq_true rfl) (Nat.le_of_ble_eq_true rfl) (Nat.le_of_ble_eq_true rfl) (Nat.le_of_ble_eq_true rfl) dX13_tires_78 ?_
      obtain ⟨u_53, g_52, e_54, hF⟩ := pwd_some hF
      refine ms_70 hC hH e_54 g_52 dX13_tires_81 (fun H locs hH => ?_)
      have hF := prt_eq hF
      exact mr_v hC hH hr hF dX13_tires_82 hlocks
def f_isOver (a0 : Int32) (a1 : Int32) (a2 : Int32) (a3 : Int32) : PG (Int32) := pli ((40 * a0) + a1) (fun x_1 => prd 65 160 x_1 (fun x_3 => (if x_3 = 0 then prt 1 else prd 65 160 x_1 (fun x_7 => (if x_7 = 2 then prd 64 160 x_1 (fun x_11 => prf 4 (fun x_14 => (if a2 < ((x_11 + a3) + x_14) then prt 0 else prt 1))) else prt 0)))))
set_option maxHeartbeats 4000000 in
set_option maxRecDepth 100000 in
theorem m_isOver (l : Launch) (G : gG) (Z : gM) (Q : Nat → Nat) (u u1 : GS) (r : Int32) (a0 : Int32) (a1 : Int32) (a2 : Int32) (a3 : Int32) (sz : Nat) (hF : f_isOver a0 a1 a2 a3 u = some (r, u1)) : Met l yX13_isOver (Cond.code yX13_isOver cX13_isOver 6 (some .boolean) :: wM) { frames := 0, cells := 0, slots := 0, locals := 0 } (va_Pc [.ref (Q 72), .int a0, .int a1, .int a2, .int a3] (mPM G Z Q u.1 sz)) (mQi G Q u1.1 r sz) 0 0 (mA Q sz) := by
  refine Met.ofW (cc := cX13_isOver) (maxL := 6) (ret := (some .boolean)) (by decide) rfl ?_
  intro p e s m args below meth c s₁ B hml hv
  obtain ⟨rfl, rfl, hP, hB, hD, hE⟩ := hv
  have hr := B.returns
  have hlocks := B.notSynchronized
  have hts := atoms_spec (ws := Cond.code yX13_isOver cX13_isOver 6 (some .boolean) :: wM) B.pre
  have hC : mX p c cX13_isOver 6 s m _ G Z Q := ⟨B.exec, B.bytes, hml, findClass_of_methodNamed B.named, fun w h => hts w (List.mem_cons_of_mem _ h), hB, hE⟩
  have hx := hC.1
  have hb := hC.2.1
  have hH : mH G Q u.1 s s.heap [] := ⟨hP, hD, va_S.rf⟩
  have hl := lv_entry ([.ref (Q 72), .int a0, .int a1, .int a2, .int a3]) (n := 6) (Nat.le_of_ble_eq_true rfl)
  rw [lg_entry_eq]
  generalize (lg_sl ([.ref (Q 72), .int a0, .int a1, .int a2, .int a3]) ++ List.replicate (6 - (lg_sl ([.ref (Q 72), .int a0, .int a1, .int a2, .int a3])).length) Slot.unset).toArray = ls at hl ⊢
  have hl : lv_has ls 6 [(0, .ref (Q 72)), (1, .int a0), (2, .int a1), (3, .int a2), (4, .int a3)] := hl
  unfold f_isOver at hF
  refine lv_bipush (v := 40) hx hb dX13_isOver_0 (by decide) ?_
  refine lv_iload_n hx hb dX13_isOver_2 rfl (lv_at hl 1 rfl) ?_
  refine lv_imul hx hb dX13_isOver_3 ?_
  refine lv_iload_n hx hb dX13_isOver_4 rfl (lv_at hl 2 rfl) ?_
  refine lv_iadd hx hb dX13_isOver_5 ?_
  obtain ⟨x_1, e_2, hF⟩ := pli_some hF
  refine gx_ti e_2 ?_
  refine lv_istore (lv' := [(5, .int x_1), (0, .ref (Q 72)), (1, .int a0), (2, .int a1), (3, .int a2), (4, .int a3)]) hx hb dX13_isOver_6 hl (by decide) rfl (fun ls hl => ?_)
  refine lv_aload_n hx hb dX13_isOver_8 rfl (lv_at hl 1 rfl) ?_
  refine mg_65 hC hH dX13_isOver_9 ?_
  refine lv_iload hx hb dX13_isOver_12 (lv_at hl 0 rfl) ?_
  obtain ⟨x_3, g_4, e_5, hF⟩ := prd_some hF
  refine ml_65 hC hH g_4 dX13_isOver_14 ?_
  refine gx_ti e_5 ?_
  refine lv_if_eq (tgt := 48) hx hb dX13_isOver_15 (by decide) (fun c_6 => ?_) (fun c_6 => ?_)
  · rw [if_pos c_6] at hF
    refine lv_iconst (v := 1) hx hb dX13_isOver_48 (by decide) ?_
    refine lv_goto (tgt := 53) hx hb dX13_isOver_49 (by decide) ?_
    have hF := prt_eq hF
    exact mr_z hC hH hr rfl hF dX13_isOver_53 hlocks
  · rw [if_neg c_6] at hF
    refine lv_aload_n hx hb dX13_isOver_18 rfl (lv_at hl 1 rfl) ?_
    refine mg_65 hC hH dX13_isOver_19 ?_
    refine lv_iload hx hb dX13_isOver_22 (lv_at hl 0 rfl) ?_
    obtain ⟨x_7, g_8, e_9, hF⟩ := prd_some hF
    refine ml_65 hC hH g_8 dX13_isOver_24 ?_
    refine gx_ti e_9 ?_
    refine lv_iconst (v := 2) hx hb dX13_isOver_25 (by decide) ?_
    refine lv_icmp_ne (tgt := 52) hx hb dX13_isOver_26 (by decide) (fun c_10 => ?_) (fun c_10 => ?_)
    · rw [if_neg c_10] at hF
      refine lv_iconst (v := 0) hx hb dX13_isOver_52 (by decide) ?_
      have hF := prt_eq hF
      exact mr_z hC hH hr rfl hF dX13_isOver_53 hlocks
    · rw [if_pos c_10] at hF
      refine lv_iload_n hx hb dX13_isOver_29 rfl (lv_at hl 4 rfl) ?_
      refine lv_aload_n hx hb dX13_isOver_30 rfl (lv_at hl 1 rfl) ?_
      refine mg_64 hC hH dX13_isOver_31 ?_
      refine lv_iload hx hb dX13_isOver_34 (lv_at hl 0 rfl) ?_
      obtain ⟨x_11, g_12, e_13, hF⟩ := prd_some hF
      refine ml_64 hC hH g_12 dX13_isOver_36 ?_
      refine gx_ti e_13 ?_
      refine lv_iload hx hb dX13_isOver_37 (lv_at hl 5 rfl) ?_
      refine lv_iadd hx hb dX13_isOver_39 ?_
      refine lv_aload_n hx hb dX13_isOver_40 rfl (lv_at hl 1 rfl) ?_
      refine mg_4 hC hH dX13_isOver_41 ?_
      obtain ⟨x_14, e_15, hF⟩ := prf_some hF
      refine gx_ti e_15 ?_
      refine lv_iadd hx hb dX13_isOver_44 ?_
      refine lv_icmp_lt (tgt := 52) hx hb dX13_isOver_45 (by decide) (fun c_16 => ?_) (fun c_16 => ?_)
      · rw [if_pos c_16] at hF
        refine lv_iconst (v := 0) hx hb dX13_isOver_52 (by decide) ?_
        have hF := prt_eq hF
        exact mr_z hC hH hr rfl hF dX13_isOver_53 hlocks
      · rw [if_neg c_16] at hF
        refine lv_iconst (v := 1) hx hb dX13_isOver_48 (by decide) ?_
        refine lv_goto (tgt := 53) hx hb dX13_isOver_49 (by decide) ?_
        have hF := prt_eq hF
        exact mr_z hC hH hr rfl hF dX13_isOver_53 hlocks
def f_mayBegin (a0 : Int32) (a1 : Int32) (a2 : Int32) : PG (Int32) := pli (a0 / 40) (fun x_1 => pli (a0 - a0 / 40 * 40) (fun x_3 => prd 12 4 x_1 (fun x_5 => (if x_5 = 2 then pcl (f_isSecond x_1 x_3) (fun r_42 => (if r_42 = 0 then pcl (f_roundOf x_1 x_3) (fun r_46 => (if r_46 ≤ 0 then prd 67 160 a0 (fun x_50 => (if x_50 = (-1) then prd 68 160 a0 (fun x_54 => (if x_54 = (-1) then prt 1 else prd 68 160 a0 (fun x_58 => prd 70 96 x_58 (fun x_61 => (if a1 < x_61 then prt 0 else prt 1))))) else prd 67 160 a0 (fun x_65 => prd 70 96 x_65 (fun x_68 => (if a1 < x_68 then prt 0 else prd 68 160 a0 (fun x_72 => (if x_72 = (-1) then prt 1 else prd 68 160 a0 (fun x_76 => prd 70 96 x_76 (fun x_79 => (if a1 < x_79 then prt 0 else prt 1)))))))))) else pcl (f_roundOf x_1 x_3) (fun r_83 => pcl (f_base x_1 (r_83 - 1)) (fun r_86 => pcl (f_base x_1 r_83) (fun r_89 => pli (r_86 + (2 * (x_3 - r_89))) (fun x_92 => pcl (f_isOver x_1 x_92 a1 a2) (fun r_94 => (if r_94 = 0 then prt 0 else pcl (f_isOver x_1 (x_92 + 1) a1 a2) (fun r_98 => (if r_98 = 0 then prt 0 else prd 67 160 a0 (fun x_102 => (if x_102 = (-1) then prd 68 160 a0 (fun x_106 => (if x_106 = (-1) then prt 1 else prd 68 160 a0 (fun x_110 => prd 70 96 x_110 (fun x_113 => (if a1 < x_113 then prt 0 else prt 1))))) else prd 67 160 a0 (fun x_117 => prd 70 96 x_117 (fun x_120 => (if a1 < x_120 then prt 0 else prd 68 160 a0 (fun x_124 => (if x_124 = (-1) then prt 1 else prd 68 160 a0 (fun x_128 => prd 70 96 x_128 (fun x_131 => (if a1 < x_131 then prt 0 else prt 1)))))))))))))))))))) else pcl (f_rounds x_1) (fun r_135 => pcl (f_base x_1 (r_135 - 1)) (fun r_138 => pcl (f_halfOf x_1 x_3) (fun r_141 => pcl (f_isOver x_1 (r_138 + r_141) a1 a2) (fun r_144 => (if r_144 = 0 then prt 0 else pcl (f_stepOf x_1 x_3) (fun r_148 => (if r_148 ≤ 1 then prd 67 160 a0 (fun x_152 => (if x_152 = (-1) then prd 68 160 a0 (fun x_156 => (if x_156 = (-1) then prt 1 else prd 68 160 a0 (fun x_160 => prd 70 96 x_160 (fun x_163 => (if a1 < x_163 then prt 0 else prt 1))))) else prd 67 160 a0 (fun x_167 => prd 70 96 x_167 (fun x_170 => (if a1 < x_170 then prt 0 else prd 68 160 a0 (fun x_174 => (if x_174 = (-1) then prt 1 else prd 68 160 a0 (fun x_178 => prd 70 96 x_178 (fun x_181 => (if a1 < x_181 then prt 0 else prt 1)))))))))) else pcl (f_isOver x_1 (x_3 - 1) a1 a2) (fun r_185 => (if r_185 = 0 then prt 0 else prd 67 160 a0 (fun x_189 => (if x_189 = (-1) then prd 68 160 a0 (fun x_193 => (if x_193 = (-1) then prt 1 else prd 68 160 a0 (fun x_197 => prd 70 96 x_197 (fun x_200 => (if a1 < x_200 then prt 0 else prt 1))))) else prd 67 160 a0 (fun x_204 => prd 70 96 x_204 (fun x_207 => (if a1 < x_207 then prt 0 else prd 68 160 a0 (fun x_211 => (if x_211 = (-1) then prt 1 else prd 68 160 a0 (fun x_215 => prd 70 96 x_215 (fun x_218 => (if a1 < x_218 then prt 0 else prt 1))))))))))))))))))))) else prd 67 160 a0 (fun x_9 => (if x_9 = (-1) then prd 68 160 a0 (fun x_13 => (if x_13 = (-1) then prt 1 else prd 68 160 a0 (fun x_17 => prd 70 96 x_17 (fun x_20 => (if a1 < x_20 then prt 0 else prt 1))))) else prd 67 160 a0 (fun x_24 => prd 70 96 x_24 (fun x_27 => (if a1 < x_27 then prt 0 else prd 68 160 a0 (fun x_31 => (if x_31 = (-1) then prt 1 else prd 68 160 a0 (fun x_35 => prd 70 96 x_35 (fun x_38 => (if a1 < x_38 then prt 0 else prt 1))))))))))))))
set_option maxHeartbeats 4000000 in
set_option maxRecDepth 100000 in
theorem m_mayBegin (l : Launch) (G : gG) (Z : gM) (Q : Nat → Nat) (u u1 : GS) (r : Int32) (a0 : Int32) (a1 : Int32) (a2 : Int32) (sz : Nat) (hF : f_mayBegin a0 a1 a2 u = some (r, u1)) : Met l yX13_mayBegin (Cond.code yX13_mayBegin cX13_mayBegin 8 (some .boolean) :: wM) { frames := 3, cells := 0, slots := 0, locals := 65 } (va_Pc [.ref (Q 72), .int a0, .int a1, .int a2] (mPM G Z Q u.1 sz)) (mQi G Q u1.1 r sz) 0 0 (mA Q sz) := by
  refine Met.ofW (cc := cX13_mayBegin) (maxL := 8) (ret := (some .boolean)) (by decide) rfl ?_
  intro p e s m args below meth c s₁ B hml hv
  obtain ⟨rfl, rfl, hP, hB, hD, hE⟩ := hv
  have hr := B.returns
  have hlocks := B.notSynchronized
  have hts := atoms_spec (ws := Cond.code yX13_mayBegin cX13_mayBegin 8 (some .boolean) :: wM) B.pre
  have hC : mX p c cX13_mayBegin 8 s m _ G Z Q := ⟨B.exec, B.bytes, hml, findClass_of_methodNamed B.named, fun w h => hts w (List.mem_cons_of_mem _ h), hB, hE⟩
  have hx := hC.1
  have hb := hC.2.1
  have hH : mH G Q u.1 s s.heap [] := ⟨hP, hD, va_S.rf⟩
  have hl := lv_entry ([.ref (Q 72), .int a0, .int a1, .int a2]) (n := 8) (Nat.le_of_ble_eq_true rfl)
  rw [lg_entry_eq]
  generalize (lg_sl ([.ref (Q 72), .int a0, .int a1, .int a2]) ++ List.replicate (8 - (lg_sl ([.ref (Q 72), .int a0, .int a1, .int a2])).length) Slot.unset).toArray = ls at hl ⊢
  have hl : lv_has ls 8 [(0, .ref (Q 72)), (1, .int a0), (2, .int a1), (3, .int a2)] := hl
  unfold f_mayBegin at hF
  refine lv_iload_n hx hb dX13_mayBegin_0 rfl (lv_at hl 1 rfl) ?_
  refine lv_bipush (v := 40) hx hb dX13_mayBegin_1 (by decide) ?_
  refine lv_idiv hx hb dX13_mayBegin_3 (by decide) ?_
  obtain ⟨x_1, e_2, hF⟩ := pli_some hF
  refine gx_ti e_2 ?_
  refine lv_istore (lv' := [(4, .int x_1), (0, .ref (Q 72)), (1, .int a0), (2, .int a1), (3, .int a2)]) hx hb dX13_mayBegin_4 hl (by decide) rfl (fun ls hl => ?_)
  refine lv_iload_n hx hb dX13_mayBegin_6 rfl (lv_at hl 2 rfl) ?_
  refine lv_bipush (v := 40) hx hb dX13_mayBegin_7 (by decide) ?_
  refine lv_irem hx hb dX13_mayBegin_9 (by decide) ?_
  obtain ⟨x_3, e_4, hF⟩ := pli_some hF
  refine gx_ti e_4 ?_
  refine lv_istore (lv' := [(5, .int x_3), (4, .int x_1), (0, .ref (Q 72)), (1, .int a0), (2, .int a1), (3, .int a2)]) hx hb dX13_mayBegin_10 hl (by decide) rfl (fun ls hl => ?_)
  refine lv_aload_n hx hb dX13_mayBegin_12 rfl (lv_at hl 2 rfl) ?_
  refine mg_12 hC hH dX13_mayBegin_13 ?_
  refine lv_iload hx hb dX13_mayBegin_16 (lv_at hl 1 rfl) ?_
  obtain ⟨x_5, g_6, e_7, hF⟩ := prd_some hF
  refine ml_12 hC hH g_6 dX13_mayBegin_18 ?_
  refine gx_ti e_7 ?_
  refine lv_iconst (v := 2) hx hb dX13_mayBegin_19 (by decide) ?_
  refine lv_icmp_ne (tgt := 174) hx hb dX13_mayBegin_20 (by decide) (fun c_8 => ?_) (fun c_8 => ?_)
  · rw [if_neg c_8] at hF
    refine lv_aload_n hx hb dX13_mayBegin_174 rfl (lv_at hl 2 rfl) ?_
    refine mg_67 hC hH dX13_mayBegin_175 ?_
    refine lv_iload_n hx hb dX13_mayBegin_178 rfl (lv_at hl 3 rfl) ?_
    obtain ⟨x_9, g_10, e_11, hF⟩ := prd_some hF
    refine ml_67 hC hH g_10 dX13_mayBegin_179 ?_
    refine gx_ti e_11 ?_
    refine lv_iconst (v := (-1)) hx hb dX13_mayBegin_180 (by decide) ?_
    refine lv_icmp_eq (tgt := 199) hx hb dX13_mayBegin_181 (by decide) (fun c_12 => ?_) (fun c_12 => ?_)
    · rw [if_pos c_12] at hF
      refine lv_aload_n hx hb dX13_mayBegin_199 rfl (lv_at hl 2 rfl) ?_
      refine mg_68 hC hH dX13_mayBegin_200 ?_
      refine lv_iload_n hx hb dX13_mayBegin_203 rfl (lv_at hl 3 rfl) ?_
      obtain ⟨x_13, g_14, e_15, hF⟩ := prd_some hF
      refine ml_68 hC hH g_14 dX13_mayBegin_204 ?_
      refine gx_ti e_15 ?_
      refine lv_iconst (v := (-1)) hx hb dX13_mayBegin_205 (by decide) ?_
      refine lv_icmp_eq (tgt := 224) hx hb dX13_mayBegin_206 (by decide) (fun c_16 => ?_) (fun c_16 => ?_)
      · rw [if_pos c_16] at hF
        refine lv_iconst (v := 1) hx hb dX13_mayBegin_224 (by decide) ?_
        refine lv_goto (tgt := 229) hx hb dX13_mayBegin_225 (by decide) ?_
        have hF := prt_eq hF
        exact mr_z hC hH hr rfl hF dX13_mayBegin_229 hlocks
      · rw [if_neg c_16] at hF
        refine lv_aload_n hx hb dX13_mayBegin_209 rfl (lv_at hl 2 rfl) ?_
        refine mg_70 hC hH dX13_mayBegin_210 ?_
        refine lv_aload_n hx hb dX13_mayBegin_213 rfl (lv_at hl 2 rfl) ?_
        refine mg_68 hC hH dX13_mayBegin_214 ?_
        refine lv_iload_n hx hb dX13_mayBegin_217 rfl (lv_at hl 3 rfl) ?_
        obtain ⟨x_17, g_18, e_19, hF⟩ := prd_some hF
        refine ml_68 hC hH g_18 dX13_mayBegin_218 ?_
        refine gx_ti e_19 ?_
        obtain ⟨x_20, g_21, e_22, hF⟩ := prd_some hF
        refine ml_70 hC hH g_21 dX13_mayBegin_219 ?_
        refine gx_ti e_22 ?_
        refine lv_iload_n hx hb dX13_mayBegin_220 rfl (lv_at hl 4 rfl) ?_
        refine lv_icmp_gt (tgt := 228) hx hb dX13_mayBegin_221 (by decide) (fun c_23 => ?_) (fun c_23 => ?_)
        · rw [if_pos c_23] at hF
          refine lv_iconst (v := 0) hx hb dX13_mayBegin_228 (by decide) ?_
          have hF := prt_eq hF
          exact mr_z hC hH hr rfl hF dX13_mayBegin_229 hlocks
        · rw [if_neg c_23] at hF
          refine lv_iconst (v := 1) hx hb dX13_mayBegin_224 (by decide) ?_
          refine lv_goto (tgt := 229) hx hb dX13_mayBegin_225 (by decide) ?_
          have hF := prt_eq hF
          exact mr_z hC hH hr rfl hF dX13_mayBegin_229 hlocks
    · rw [if_neg c_12] at hF
      refine lv_aload_n hx hb dX13_mayBegin_184 rfl (lv_at hl 2 rfl) ?_
      refine mg_70 hC hH dX13_mayBegin_185 ?_
      refine lv_aload_n hx hb dX13_mayBegin_188 rfl (lv_at hl 2 rfl) ?_
      refine mg_67 hC hH dX13_mayBegin_189 ?_
      refine lv_iload_n hx hb dX13_mayBegin_192 rfl (lv_at hl 3 rfl) ?_
      obtain ⟨x_24, g_25, e_26, hF⟩ := prd_some hF
      refine ml_67 hC hH g_25 dX13_mayBegin_193 ?_
      refine gx_ti e_26 ?_
      obtain ⟨x_27, g_28, e_29, hF⟩ := prd_some hF
      refine ml_70 hC hH g_28 dX13_mayBegin_194 ?_
      refine gx_ti e_29 ?_
      refine lv_iload_n hx hb dX13_mayBegin_195 rfl (lv_at hl 4 rfl) ?_
      refine lv_icmp_gt (tgt := 228) hx hb dX13_mayBegin_196 (by decide) (fun c_30 => ?_) (fun c_30 => ?_)
      · rw [if_pos c_30] at hF
        refine lv_iconst (v := 0) hx hb dX13_mayBegin_228 (by decide) ?_
        have hF := prt_eq hF
        exact mr_z hC hH hr rfl hF dX13_mayBegin_229 hlocks
      · rw [if_neg c_30] at hF
        refine lv_aload_n hx hb dX13_mayBegin_199 rfl (lv_at hl 2 rfl) ?_
        refine mg_68 hC hH dX13_mayBegin_200 ?_
        refine lv_iload_n hx hb dX13_mayBegin_203 rfl (lv_at hl 3 rfl) ?_
        obtain ⟨x_31, g_32, e_33, hF⟩ := prd_some hF
        refine ml_68 hC hH g_32 dX13_mayBegin_204 ?_
        refine gx_ti e_33 ?_
        refine lv_iconst (v := (-1)) hx hb dX13_mayBegin_205 (by decide) ?_
        refine lv_icmp_eq (tgt := 224) hx hb dX13_mayBegin_206 (by decide) (fun c_34 => ?_) (fun c_34 => ?_)
        · rw [if_pos c_34] at hF
          refine lv_iconst (v := 1) hx hb dX13_mayBegin_224 (by decide) ?_
          refine lv_goto (tgt := 229) hx hb dX13_mayBegin_225 (by decide) ?_
          have hF := prt_eq hF
          exact mr_z hC hH hr rfl hF dX13_mayBegin_229 hlocks
        · rw [if_neg c_34] at hF
          refine lv_aload_n hx hb dX13_mayBegin_209 rfl (lv_at hl 2 rfl) ?_
          refine mg_70 hC hH dX13_mayBegin_210 ?_
          refine lv_aload_n hx hb dX13_mayBegin_213 rfl (lv_at hl 2 rfl) ?_
          refine mg_68 hC hH dX13_mayBegin_214 ?_
          refine lv_iload_n hx hb dX13_mayBegin_217 rfl (lv_at hl 3 rfl) ?_
          obtain ⟨x_35, g_36, e_37, hF⟩ := prd_some hF
          refine ml_68 hC hH g_36 dX13_mayBegin_218 ?_
          refine gx_ti e_37 ?_
          obtain ⟨x_38, g_39, e_40, hF⟩ := prd_some hF
          refine ml_70 hC hH g_39 dX13_mayBegin_219 ?_
          refine gx_ti e_40 ?_
          refine lv_iload_n hx hb dX13_mayBegin_220 rfl (lv_at hl 4 rfl) ?_
          refine lv_icmp_gt (tgt := 228) hx hb dX13_mayBegin_221 (by decide) (fun c_41 => ?_) (fun c_41 => ?_)
          · rw [if_pos c_41] at hF
            refine lv_iconst (v := 0) hx hb dX13_mayBegin_228 (by decide) ?_
            have hF := prt_eq hF
            exact mr_z hC hH hr rfl hF dX13_mayBegin_229 hlocks
          · rw [if_neg c_41] at hF
            refine lv_iconst (v := 1) hx hb dX13_mayBegin_224 (by decide) ?_
            refine lv_goto (tgt := 229) hx hb dX13_mayBegin_225 (by decide) ?_
            have hF := prt_eq hF
            exact mr_z hC hH hr rfl hF dX13_mayBegin_229 hlocks
  · rw [if_pos c_8] at hF
    refine lv_aload_n hx hb dX13_mayBegin_23 rfl (lv_at hl 2 rfl) ?_
    refine lv_iload hx hb dX13_mayBegin_24 (lv_at hl 1 rfl) ?_
    refine lv_iload hx hb dX13_mayBegin_26 (lv_at hl 0 rfl) ?_
    obtain ⟨r_42, u_43, h_44, hF⟩ := pcl_some hF
    refine mcV_i (As := [.int x_1, .int x_3]) (rest := []) hC hH (m_isSecond l G Z Q u u_43 r_42 x_1 x_3 _ h_44) kwX13_isSecond kVX13_isSecond ⟨Nat.le_of_ble_eq_true rfl, Nat.le_of_ble_eq_true rfl⟩ rfl hl.1 rfl (Nat.le_of_ble_eq_true rfl) dX13_mayBegin_28 (fun H locs hH => ?_)
    refine lv_if_eq (tgt := 97) hx hb dX13_mayBegin_31 (by decide) (fun c_45 => ?_) (fun c_45 => ?_)
    · rw [if_pos c_45] at hF
      refine lv_aload_n hx hb dX13_mayBegin_97 rfl (lv_at hl 2 rfl) ?_
      refine lv_iload hx hb dX13_mayBegin_98 (lv_at hl 1 rfl) ?_
      refine lv_iload hx hb dX13_mayBegin_100 (lv_at hl 0 rfl) ?_
      obtain ⟨r_46, u_47, h_48, hF⟩ := pcl_some hF
      refine mcV_i (As := [.int x_1, .int x_3]) (rest := []) hC hH (m_roundOf l G Z Q u_43 u_47 r_46 x_1 x_3 _ h_48) kwX13_roundOf kVX13_roundOf ⟨Nat.le_of_ble_eq_true rfl, Nat.le_of_ble_eq_true rfl⟩ rfl hl.1 rfl (Nat.le_of_ble_eq_true rfl) dX13_mayBegin_102 (fun H locs hH => ?_)
      refine lv_if_le (tgt := 174) hx hb dX13_mayBegin_105 (by decide) (fun c_49 => ?_) (fun c_49 => ?_)
      · rw [if_pos c_49] at hF
        refine lv_aload_n hx hb dX13_mayBegin_174 rfl (lv_at hl 2 rfl) ?_
        refine mg_67 hC hH dX13_mayBegin_175 ?_
        refine lv_iload_n hx hb dX13_mayBegin_178 rfl (lv_at hl 3 rfl) ?_
        obtain ⟨x_50, g_51, e_52, hF⟩ := prd_some hF
        refine ml_67 hC hH g_51 dX13_mayBegin_179 ?_
        refine gx_ti e_52 ?_
        refine lv_iconst (v := (-1)) hx hb dX13_mayBegin_180 (by decide) ?_
        refine lv_icmp_eq (tgt := 199) hx hb dX13_mayBegin_181 (by decide) (fun c_53 => ?_) (fun c_53 => ?_)
        · rw [if_pos c_53] at hF
          refine lv_aload_n hx hb dX13_mayBegin_199 rfl (lv_at hl 2 rfl) ?_
          refine mg_68 hC hH dX13_mayBegin_200 ?_
          refine lv_iload_n hx hb dX13_mayBegin_203 rfl (lv_at hl 3 rfl) ?_
          obtain ⟨x_54, g_55, e_56, hF⟩ := prd_some hF
          refine ml_68 hC hH g_55 dX13_mayBegin_204 ?_
          refine gx_ti e_56 ?_
          refine lv_iconst (v := (-1)) hx hb dX13_mayBegin_205 (by decide) ?_
          refine lv_icmp_eq (tgt := 224) hx hb dX13_mayBegin_206 (by decide) (fun c_57 => ?_) (fun c_57 => ?_)
          · rw [if_pos c_57] at hF
            refine lv_iconst (v := 1) hx hb dX13_mayBegin_224 (by decide) ?_
            refine lv_goto (tgt := 229) hx hb dX13_mayBegin_225 (by decide) ?_
            have hF := prt_eq hF
            exact mr_z hC hH hr rfl hF dX13_mayBegin_229 hlocks
          · rw [if_neg c_57] at hF
            refine lv_aload_n hx hb dX13_mayBegin_209 rfl (lv_at hl 2 rfl) ?_
            refine mg_70 hC hH dX13_mayBegin_210 ?_
            refine lv_aload_n hx hb dX13_mayBegin_213 rfl (lv_at hl 2 rfl) ?_
            refine mg_68 hC hH dX13_mayBegin_214 ?_
            refine lv_iload_n hx hb dX13_mayBegin_217 rfl (lv_at hl 3 rfl) ?_
            obtain ⟨x_58, g_59, e_60, hF⟩ := prd_some hF
            refine ml_68 hC hH g_59 dX13_mayBegin_218 ?_
            refine gx_ti e_60 ?_
            obtain ⟨x_61, g_62, e_63, hF⟩ := prd_some hF
            refine ml_70 hC hH g_62 dX13_mayBegin_219 ?_
            refine gx_ti e_63 ?_
            refine lv_iload_n hx hb dX13_mayBegin_220 rfl (lv_at hl 4 rfl) ?_
            refine lv_icmp_gt (tgt := 228) hx hb dX13_mayBegin_221 (by decide) (fun c_64 => ?_) (fun c_64 => ?_)
            · rw [if_pos c_64] at hF
              refine lv_iconst (v := 0) hx hb dX13_mayBegin_228 (by decide) ?_
              have hF := prt_eq hF
              exact mr_z hC hH hr rfl hF dX13_mayBegin_229 hlocks
            · rw [if_neg c_64] at hF
              refine lv_iconst (v := 1) hx hb dX13_mayBegin_224 (by decide) ?_
              refine lv_goto (tgt := 229) hx hb dX13_mayBegin_225 (by decide) ?_
              have hF := prt_eq hF
              exact mr_z hC hH hr rfl hF dX13_mayBegin_229 hlocks
        · rw [if_neg c_53] at hF
          refine lv_aload_n hx hb dX13_mayBegin_184 rfl (lv_at hl 2 rfl) ?_
          refine mg_70 hC hH dX13_mayBegin_185 ?_
          refine lv_aload_n hx hb dX13_mayBegin_188 rfl (lv_at hl 2 rfl) ?_
          refine mg_67 hC hH dX13_mayBegin_189 ?_
          refine lv_iload_n hx hb dX13_mayBegin_192 rfl (lv_at hl 3 rfl) ?_
          obtain ⟨x_65, g_66, e_67, hF⟩ := prd_some hF
          refine ml_67 hC hH g_66 dX13_mayBegin_193 ?_
          refine gx_ti e_67 ?_
          obtain ⟨x_68, g_69, e_70, hF⟩ := prd_some hF
          refine ml_70 hC hH g_69 dX13_mayBegin_194 ?_
          refine gx_ti e_70 ?_
          refine lv_iload_n hx hb dX13_mayBegin_195 rfl (lv_at hl 4 rfl) ?_
          refine lv_icmp_gt (tgt := 228) hx hb dX13_mayBegin_196 (by decide) (fun c_71 => ?_) (fun c_71 => ?_)
          · rw [if_pos c_71] at hF
            refine lv_iconst (v := 0) hx hb dX13_mayBegin_228 (by decide) ?_
            have hF := prt_eq hF
            exact mr_z hC hH hr rfl hF dX13_mayBegin_229 hlocks
          · rw [if_neg c_71] at hF
            refine lv_aload_n hx hb dX13_mayBegin_199 rfl (lv_at hl 2 rfl) ?_
            refine mg_68 hC hH dX13_mayBegin_200 ?_
            refine lv_iload_n hx hb dX13_mayBegin_203 rfl (lv_at hl 3 rfl) ?_
            obtain ⟨x_72, g_73, e_74, hF⟩ := prd_some hF
            refine ml_68 hC hH g_73 dX13_mayBegin_204 ?_
            refine gx_ti e_74 ?_
            refine lv_iconst (v := (-1)) hx hb dX13_mayBegin_205 (by decide) ?_
            refine lv_icmp_eq (tgt := 224) hx hb dX13_mayBegin_206 (by decide) (fun c_75 => ?_) (fun c_75 => ?_)
            · rw [if_pos c_75] at hF
              refine lv_iconst (v := 1) hx hb dX13_mayBegin_224 (by decide) ?_
              refine lv_goto (tgt := 229) hx hb dX13_mayBegin_225 (by decide) ?_
              have hF := prt_eq hF
              exact mr_z hC hH hr rfl hF dX13_mayBegin_229 hlocks
            · rw [if_neg c_75] at hF
              refine lv_aload_n hx hb dX13_mayBegin_209 rfl (lv_at hl 2 rfl) ?_
              refine mg_70 hC hH dX13_mayBegin_210 ?_
              refine lv_aload_n hx hb dX13_mayBegin_213 rfl (lv_at hl 2 rfl) ?_
              refine mg_68 hC hH dX13_mayBegin_214 ?_
              refine lv_iload_n hx hb dX13_mayBegin_217 rfl (lv_at hl 3 rfl) ?_
              obtain ⟨x_76, g_77, e_78, hF⟩ := prd_some hF
              refine ml_68 hC hH g_77 dX13_mayBegin_218 ?_
              refine gx_ti e_78 ?_
              obtain ⟨x_79, g_80, e_81, hF⟩ := prd_some hF
              refine ml_70 hC hH g_80 dX13_mayBegin_219 ?_
              refine gx_ti e_81 ?_
              refine lv_iload_n hx hb dX13_mayBegin_220 rfl (lv_at hl 4 rfl) ?_
              refine lv_icmp_gt (tgt := 228) hx hb dX13_mayBegin_221 (by decide) (fun c_82 => ?_) (fun c_82 => ?_)
              · rw [if_pos c_82] at hF
                refine lv_iconst (v := 0) hx hb dX13_mayBegin_228 (by decide) ?_
                have hF := prt_eq hF
                exact mr_z hC hH hr rfl hF dX13_mayBegin_229 hlocks
              · rw [if_neg c_82] at hF
                refine lv_iconst (v := 1) hx hb dX13_mayBegin_224 (by decide) ?_
                refine lv_goto (tgt := 229) hx hb dX13_mayBegin_225 (by decide) ?_
                have hF := prt_eq hF
                exact mr_z hC hH hr rfl hF dX13_mayBegin_229 hlocks
      · rw [if_neg c_49] at hF
        refine lv_aload_n hx hb dX13_mayBegin_108 rfl (lv_at hl 2 rfl) ?_
        refine lv_iload hx hb dX13_mayBegin_109 (lv_at hl 1 rfl) ?_
        refine lv_iload hx hb dX13_mayBegin_111 (lv_at hl 0 rfl) ?_
        obtain ⟨r_83, u_84, h_85, hF⟩ := pcl_some hF
        refine mcV_i (As := [.int x_1, .int x_3]) (rest := []) hC hH (m_roundOf l G Z Q u_47 u_84 r_83 x_1 x_3 _ h_85) kwX13_roundOf kVX13_roundOf ⟨Nat.le_of_ble_eq_true rfl, Nat.le_of_ble_eq_true rfl⟩ rfl hl.1 rfl (Nat.le_of_ble_eq_true rfl) dX13_mayBegin_113 (fun H locs hH => ?_)
        refine lv_istore (lv' := [(6, .int r_83), (5, .int x_3), (4, .int x_1), (0, .ref (Q 72)), (1, .int a0), (2, .int a1), (3, .int a2)]) hx hb dX13_mayBegin_116 hl (by decide) rfl (fun ls hl => ?_)
        refine lv_aload_n hx hb dX13_mayBegin_118 rfl (lv_at hl 3 rfl) ?_
        refine lv_iload hx hb dX13_mayBegin_119 (lv_at hl 2 rfl) ?_
        refine lv_iload hx hb dX13_mayBegin_121 (lv_at hl 0 rfl) ?_
        refine lv_iconst (v := 1) hx hb dX13_mayBegin_123 (by decide) ?_
        refine lv_isub hx hb dX13_mayBegin_124 ?_
        obtain ⟨r_86, u_87, h_88, hF⟩ := pcl_some hF
        refine mcV_i (As := [.int x_1, .int (r_83 - 1)]) (rest := []) hC hH (m_base l G Z Q u_84 u_87 r_86 x_1 (r_83 - 1) _ h_88) kwX13_base kVX13_base ⟨Nat.le_of_ble_eq_true rfl, Nat.le_of_ble_eq_true rfl⟩ rfl hl.1 rfl (Nat.le_of_ble_eq_true rfl) dX13_mayBegin_125 (fun H locs hH => ?_)
        refine lv_iconst (v := 2) hx hb dX13_mayBegin_128 (by decide) ?_
        refine lv_iload hx hb dX13_mayBegin_129 (lv_at hl 1 rfl) ?_
        refine lv_aload_n hx hb dX13_mayBegin_131 rfl (lv_at hl 3 rfl) ?_
        refine lv_iload hx hb dX13_mayBegin_132 (lv_at hl 2 rfl) ?_
        refine lv_iload hx hb dX13_mayBegin_134 (lv_at hl 0 rfl) ?_
        obtain ⟨r_89, u_90, h_91, hF⟩ := pcl_some hF
        refine mcV_i (As := [.int x_1, .int r_83]) (rest := [.int x_3, .int 2, .int r_86]) hC hH (m_base l G Z Q u_87 u_90 r_89 x_1 r_83 _ h_91) kwX13_base kVX13_base ⟨Nat.le_of_ble_eq_true rfl, Nat.le_of_ble_eq_true rfl⟩ rfl hl.1 rfl (Nat.le_of_ble_eq_true rfl) dX13_mayBegin_136 (fun H locs hH => ?_)
        refine lv_isub hx hb dX13_mayBegin_139 ?_
        refine lv_imul hx hb dX13_mayBegin_140 ?_
        refine lv_iadd hx hb dX13_mayBegin_141 ?_
        obtain ⟨x_92, e_93, hF⟩ := pli_some hF
        refine gx_ti e_93 ?_
        refine lv_istore (lv' := [(7, .int x_92), (6, .int r_83), (5, .int x_3), (4, .int x_1), (0, .ref (Q 72)), (1, .int a0), (2, .int a1), (3, .int a2)]) hx hb dX13_mayBegin_142 hl (by decide) rfl (fun ls hl => ?_)
        refine lv_aload_n hx hb dX13_mayBegin_144 rfl (lv_at hl 4 rfl) ?_
        refine lv_iload hx hb dX13_mayBegin_145 (lv_at hl 3 rfl) ?_
        refine lv_iload hx hb dX13_mayBegin_147 (lv_at hl 0 rfl) ?_
        refine lv_iload_n hx hb dX13_mayBegin_149 rfl (lv_at hl 6 rfl) ?_
        refine lv_iload_n hx hb dX13_mayBegin_150 rfl (lv_at hl 7 rfl) ?_
        obtain ⟨r_94, u_95, h_96, hF⟩ := pcl_some hF
        refine mcV_i (As := [.int x_1, .int x_92, .int a1, .int a2]) (rest := []) hC hH (m_isOver l G Z Q u_90 u_95 r_94 x_1 x_92 a1 a2 _ h_96) kwX13_isOver kVX13_isOver ⟨Nat.le_of_ble_eq_true rfl, Nat.le_of_ble_eq_true rfl⟩ rfl hl.1 rfl (Nat.le_of_ble_eq_true rfl) dX13_mayBegin_151 (fun H locs hH => ?_)
        refine lv_if_eq (tgt := 172) hx hb dX13_mayBegin_154 (by decide) (fun c_97 => ?_) (fun c_97 => ?_)
        · rw [if_pos c_97] at hF
          refine lv_iconst (v := 0) hx hb dX13_mayBegin_172 (by decide) ?_
          have hF := prt_eq hF
          exact mr_z hC hH hr rfl hF dX13_mayBegin_173 hlocks
        · rw [if_neg c_97] at hF
          refine lv_aload_n hx hb dX13_mayBegin_157 rfl (lv_at hl 4 rfl) ?_
          refine lv_iload hx hb dX13_mayBegin_158 (lv_at hl 3 rfl) ?_
          refine lv_iload hx hb dX13_mayBegin_160 (lv_at hl 0 rfl) ?_
          refine lv_iconst (v := 1) hx hb dX13_mayBegin_162 (by decide) ?_
          refine lv_iadd hx hb dX13_mayBegin_163 ?_
          refine lv_iload_n hx hb dX13_mayBegin_164 rfl (lv_at hl 6 rfl) ?_
          refine lv_iload_n hx hb dX13_mayBegin_165 rfl (lv_at hl 7 rfl) ?_
          obtain ⟨r_98, u_99, h_100, hF⟩ := pcl_some hF
          refine mcV_i (As := [.int x_1, .int (x_92 + 1), .int a1, .int a2]) (rest := []) hC hH (m_isOver l G Z Q u_95 u_99 r_98 x_1 (x_92 + 1) a1 a2 _ h_100) kwX13_isOver kVX13_isOver ⟨Nat.le_of_ble_eq_true rfl, Nat.le_of_ble_eq_true rfl⟩ rfl hl.1 rfl (Nat.le_of_ble_eq_true rfl) dX13_mayBegin_166 (fun H locs hH => ?_)
          refine lv_if_ne (tgt := 174) hx hb dX13_mayBegin_169 (by decide) (fun c_101 => ?_) (fun c_101 => ?_)
          · rw [if_neg c_101] at hF
            refine lv_aload_n hx hb dX13_mayBegin_174 rfl (lv_at hl 4 rfl) ?_
            refine mg_67 hC hH dX13_mayBegin_175 ?_
            refine lv_iload_n hx hb dX13_mayBegin_178 rfl (lv_at hl 5 rfl) ?_
            obtain ⟨x_102, g_103, e_104, hF⟩ := prd_some hF
            refine ml_67 hC hH g_103 dX13_mayBegin_179 ?_
            refine gx_ti e_104 ?_
            refine lv_iconst (v := (-1)) hx hb dX13_mayBegin_180 (by decide) ?_
            refine lv_icmp_eq (tgt := 199) hx hb dX13_mayBegin_181 (by decide) (fun c_105 => ?_) (fun c_105 => ?_)
            · rw [if_pos c_105] at hF
              refine lv_aload_n hx hb dX13_mayBegin_199 rfl (lv_at hl 4 rfl) ?_
              refine mg_68 hC hH dX13_mayBegin_200 ?_
              refine lv_iload_n hx hb dX13_mayBegin_203 rfl (lv_at hl 5 rfl) ?_
              obtain ⟨x_106, g_107, e_108, hF⟩ := prd_some hF
              refine ml_68 hC hH g_107 dX13_mayBegin_204 ?_
              refine gx_ti e_108 ?_
              refine lv_iconst (v := (-1)) hx hb dX13_mayBegin_205 (by decide) ?_
              refine lv_icmp_eq (tgt := 224) hx hb dX13_mayBegin_206 (by decide) (fun c_109 => ?_) (fun c_109 => ?_)
              · rw [if_pos c_109] at hF
                refine lv_iconst (v := 1) hx hb dX13_mayBegin_224 (by decide) ?_
                refine lv_goto (tgt := 229) hx hb dX13_mayBegin_225 (by decide) ?_
                have hF := prt_eq hF
                exact mr_z hC hH hr rfl hF dX13_mayBegin_229 hlocks
              · rw [if_neg c_109] at hF
                refine lv_aload_n hx hb dX13_mayBegin_209 rfl (lv_at hl 4 rfl) ?_
                refine mg_70 hC hH dX13_mayBegin_210 ?_
                refine lv_aload_n hx hb dX13_mayBegin_213 rfl (lv_at hl 4 rfl) ?_
                refine mg_68 hC hH dX13_mayBegin_214 ?_
                refine lv_iload_n hx hb dX13_mayBegin_217 rfl (lv_at hl 5 rfl) ?_
                obtain ⟨x_110, g_111, e_112, hF⟩ := prd_some hF
                refine ml_68 hC hH g_111 dX13_mayBegin_218 ?_
                refine gx_ti e_112 ?_
                obtain ⟨x_113, g_114, e_115, hF⟩ := prd_some hF
                refine ml_70 hC hH g_114 dX13_mayBegin_219 ?_
                refine gx_ti e_115 ?_
                refine lv_iload_n hx hb dX13_mayBegin_220 rfl (lv_at hl 6 rfl) ?_
                refine lv_icmp_gt (tgt := 228) hx hb dX13_mayBegin_221 (by decide) (fun c_116 => ?_) (fun c_116 => ?_)
                · rw [if_pos c_116] at hF
                  refine lv_iconst (v := 0) hx hb dX13_mayBegin_228 (by decide) ?_
                  have hF := prt_eq hF
                  exact mr_z hC hH hr rfl hF dX13_mayBegin_229 hlocks
                · rw [if_neg c_116] at hF
                  refine lv_iconst (v := 1) hx hb dX13_mayBegin_224 (by decide) ?_
                  refine lv_goto (tgt := 229) hx hb dX13_mayBegin_225 (by decide) ?_
                  have hF := prt_eq hF
                  exact mr_z hC hH hr rfl hF dX13_mayBegin_229 hlocks
            · rw [if_neg c_105] at hF
              refine lv_aload_n hx hb dX13_mayBegin_184 rfl (lv_at hl 4 rfl) ?_
              refine mg_70 hC hH dX13_mayBegin_185 ?_
              refine lv_aload_n hx hb dX13_mayBegin_188 rfl (lv_at hl 4 rfl) ?_
              refine mg_67 hC hH dX13_mayBegin_189 ?_
              refine lv_iload_n hx hb dX13_mayBegin_192 rfl (lv_at hl 5 rfl) ?_
              obtain ⟨x_117, g_118, e_119, hF⟩ := prd_some hF
              refine ml_67 hC hH g_118 dX13_mayBegin_193 ?_
              refine gx_ti e_119 ?_
              obtain ⟨x_120, g_121, e_122, hF⟩ := prd_some hF
              refine ml_70 hC hH g_121 dX13_mayBegin_194 ?_
              refine gx_ti e_122 ?_
              refine lv_iload_n hx hb dX13_mayBegin_195 rfl (lv_at hl 6 rfl) ?_
              refine lv_icmp_gt (tgt := 228) hx hb dX13_mayBegin_196 (by decide) (fun c_123 => ?_) (fun c_123 => ?_)
              · rw [if_pos c_123] at hF
                refine lv_iconst (v := 0) hx hb dX13_mayBegin_228 (by decide) ?_
                have hF := prt_eq hF
                exact mr_z hC hH hr rfl hF dX13_mayBegin_229 hlocks
              · rw [if_neg c_123] at hF
                refine lv_aload_n hx hb dX13_mayBegin_199 rfl (lv_at hl 4 rfl) ?_
                refine mg_68 hC hH dX13_mayBegin_200 ?_
                refine lv_iload_n hx hb dX13_mayBegin_203 rfl (lv_at hl 5 rfl) ?_
                obtain ⟨x_124, g_125, e_126, hF⟩ := prd_some hF
                refine ml_68 hC hH g_125 dX13_mayBegin_204 ?_
                refine gx_ti e_126 ?_
                refine lv_iconst (v := (-1)) hx hb dX13_mayBegin_205 (by decide) ?_
                refine lv_icmp_eq (tgt := 224) hx hb dX13_mayBegin_206 (by decide) (fun c_127 => ?_) (fun c_127 => ?_)
                · rw [if_pos c_127] at hF
                  refine lv_iconst (v := 1) hx hb dX13_mayBegin_224 (by decide) ?_
                  refine lv_goto (tgt := 229) hx hb dX13_mayBegin_225 (by decide) ?_
                  have hF := prt_eq hF
                  exact mr_z hC hH hr rfl hF dX13_mayBegin_229 hlocks
                · rw [if_neg c_127] at hF
                  refine lv_aload_n hx hb dX13_mayBegin_209 rfl (lv_at hl 4 rfl) ?_
                  refine mg_70 hC hH dX13_mayBegin_210 ?_
                  refine lv_aload_n hx hb dX13_mayBegin_213 rfl (lv_at hl 4 rfl) ?_
                  refine mg_68 hC hH dX13_mayBegin_214 ?_
                  refine lv_iload_n hx hb dX13_mayBegin_217 rfl (lv_at hl 5 rfl) ?_
                  obtain ⟨x_128, g_129, e_130, hF⟩ := prd_some hF
                  refine ml_68 hC hH g_129 dX13_mayBegin_218 ?_
                  refine gx_ti e_130 ?_
                  obtain ⟨x_131, g_132, e_133, hF⟩ := prd_some hF
                  refine ml_70 hC hH g_132 dX13_mayBegin_219 ?_
                  refine gx_ti e_133 ?_
                  refine lv_iload_n hx hb dX13_mayBegin_220 rfl (lv_at hl 6 rfl) ?_
                  refine lv_icmp_gt (tgt := 228) hx hb dX13_mayBegin_221 (by decide) (fun c_134 => ?_) (fun c_134 => ?_)
                  · rw [if_pos c_134] at hF
                    refine lv_iconst (v := 0) hx hb dX13_mayBegin_228 (by decide) ?_
                    have hF := prt_eq hF
                    exact mr_z hC hH hr rfl hF dX13_mayBegin_229 hlocks
                  · rw [if_neg c_134] at hF
                    refine lv_iconst (v := 1) hx hb dX13_mayBegin_224 (by decide) ?_
                    refine lv_goto (tgt := 229) hx hb dX13_mayBegin_225 (by decide) ?_
                    have hF := prt_eq hF
                    exact mr_z hC hH hr rfl hF dX13_mayBegin_229 hlocks
          · rw [if_pos c_101] at hF
            refine lv_iconst (v := 0) hx hb dX13_mayBegin_172 (by decide) ?_
            have hF := prt_eq hF
            exact mr_z hC hH hr rfl hF dX13_mayBegin_173 hlocks
    · rw [if_neg c_45] at hF
      refine lv_aload_n hx hb dX13_mayBegin_34 rfl (lv_at hl 2 rfl) ?_
      refine lv_iload hx hb dX13_mayBegin_35 (lv_at hl 1 rfl) ?_
      refine lv_aload_n hx hb dX13_mayBegin_37 rfl (lv_at hl 2 rfl) ?_
      refine lv_iload hx hb dX13_mayBegin_38 (lv_at hl 1 rfl) ?_
      refine lv_aload_n hx hb dX13_mayBegin_40 rfl (lv_at hl 2 rfl) ?_
      refine lv_iload hx hb dX13_mayBegin_41 (lv_at hl 1 rfl) ?_
      obtain ⟨r_135, u_136, h_137, hF⟩ := pcl_some hF
      refine mcV_i (As := [.int x_1]) (rest := [.int x_1, .ref (Q 72), .int x_1, .ref (Q 72)]) hC hH (m_rounds l G Z Q u_43 u_136 r_135 x_1 _ h_137) kwX13_rounds kVX13_rounds ⟨Nat.le_of_ble_eq_true rfl, Nat.le_of_ble_eq_true rfl⟩ rfl hl.1 rfl (Nat.le_of_ble_eq_true rfl) dX13_mayBegin_43 (fun H locs hH => ?_)
      refine lv_iconst (v := 1) hx hb dX13_mayBegin_46 (by decide) ?_
      refine lv_isub hx hb dX13_mayBegin_47 ?_
      obtain ⟨r_138, u_139, h_140, hF⟩ := pcl_some hF
      refine mcV_i (As := [.int x_1, .int (r_135 - 1)]) (rest := [.int x_1, .ref (Q 72)]) hC hH (m_base l G Z Q u_136 u_139 r_138 x_1 (r_135 - 1) _ h_140) kwX13_base kVX13_base ⟨Nat.le_of_ble_eq_true rfl, Nat.le_of_ble_eq_true rfl⟩ rfl hl.1 rfl (Nat.le_of_ble_eq_true rfl) dX13_mayBegin_48 (fun H locs hH => ?_)
      refine lv_aload_n hx hb dX13_mayBegin_51 rfl (lv_at hl 2 rfl) ?_
      refine lv_iload hx hb dX13_mayBegin_52 (lv_at hl 1 rfl) ?_
      refine lv_iload hx hb dX13_mayBegin_54 (lv_at hl 0 rfl) ?_
      obtain ⟨r_141, u_142, h_143, hF⟩ := pcl_some hF
      refine mcV_i (As := [.int x_1, .int x_3]) (rest := [.int r_138, .int x_1, .ref (Q 72)]) hC hH (m_halfOf l G Z Q u_139 u_142 r_141 x_1 x_3 _ h_143) kwX13_halfOf kVX13_halfOf ⟨Nat.le_of_ble_eq_true rfl, Nat.le_of_ble_eq_true rfl⟩ rfl hl.1 rfl (Nat.le_of_ble_eq_true rfl) dX13_mayBegin_56 (fun H locs hH => ?_)
      refine lv_iadd hx hb dX13_mayBegin_59 ?_
      refine lv_iload_n hx hb dX13_mayBegin_60 rfl (lv_at hl 4 rfl) ?_
      refine lv_iload_n hx hb dX13_mayBegin_61 rfl (lv_at hl 5 rfl) ?_
      obtain ⟨r_144, u_145, h_146, hF⟩ := pcl_some hF
      refine mcV_i (As := [.int x_1, .int (r_138 + r_141), .int a1, .int a2]) (rest := []) hC hH (m_isOver l G Z Q u_142 u_145 r_144 x_1 (r_138 + r_141) a1 a2 _ h_146) kwX13_isOver kVX13_isOver ⟨Nat.le_of_ble_eq_true rfl, Nat.le_of_ble_eq_true rfl⟩ rfl hl.1 rfl (Nat.le_of_ble_eq_true rfl) dX13_mayBegin_62 (fun H locs hH => ?_)
      refine lv_if_eq (tgt := 95) hx hb dX13_mayBegin_65 (by decide) (fun c_147 => ?_) (fun c_147 => ?_)
      · rw [if_pos c_147] at hF
        refine lv_iconst (v := 0) hx hb dX13_mayBegin_95 (by decide) ?_
        have hF := prt_eq hF
        exact mr_z hC hH hr rfl hF dX13_mayBegin_96 hlocks
      · rw [if_neg c_147] at hF
        refine lv_aload_n hx hb dX13_mayBegin_68 rfl (lv_at hl 2 rfl) ?_
        refine lv_iload hx hb dX13_mayBegin_69 (lv_at hl 1 rfl) ?_
        refine lv_iload hx hb dX13_mayBegin_71 (lv_at hl 0 rfl) ?_
        obtain ⟨r_148, u_149, h_150, hF⟩ := pcl_some hF
        refine mcV_i (As := [.int x_1, .int x_3]) (rest := []) hC hH (m_stepOf l G Z Q u_145 u_149 r_148 x_1 x_3 _ h_150) kwX13_stepOf kVX13_stepOf ⟨Nat.le_of_ble_eq_true rfl, Nat.le_of_ble_eq_true rfl⟩ rfl hl.1 rfl (Nat.le_of_ble_eq_true rfl) dX13_mayBegin_73 (fun H locs hH => ?_)
        refine lv_iconst (v := 1) hx hb dX13_mayBegin_76 (by decide) ?_
        refine lv_icmp_le (tgt := 174) hx hb dX13_mayBegin_77 (by decide) (fun c_151 => ?_) (fun c_151 => ?_)
        · rw [if_pos c_151] at hF
          refine lv_aload_n hx hb dX13_mayBegin_174 rfl (lv_at hl 2 rfl) ?_
          refine mg_67 hC hH dX13_mayBegin_175 ?_
          refine lv_iload_n hx hb dX13_mayBegin_178 rfl (lv_at hl 3 rfl) ?_
          obtain ⟨x_152, g_153, e_154, hF⟩ := prd_some hF
          refine ml_67 hC hH g_153 dX13_mayBegin_179 ?_
          refine gx_ti e_154 ?_
          refine lv_iconst (v := (-1)) hx hb dX13_mayBegin_180 (by decide) ?_
          refine lv_icmp_eq (tgt := 199) hx hb dX13_mayBegin_181 (by decide) (fun c_155 => ?_) (fun c_155 => ?_)
          · rw [if_pos c_155] at hF
            refine lv_aload_n hx hb dX13_mayBegin_199 rfl (lv_at hl 2 rfl) ?_
            refine mg_68 hC hH dX13_mayBegin_200 ?_
            refine lv_iload_n hx hb dX13_mayBegin_203 rfl (lv_at hl 3 rfl) ?_
            obtain ⟨x_156, g_157, e_158, hF⟩ := prd_some hF
            refine ml_68 hC hH g_157 dX13_mayBegin_204 ?_
            refine gx_ti e_158 ?_
            refine lv_iconst (v := (-1)) hx hb dX13_mayBegin_205 (by decide) ?_
            refine lv_icmp_eq (tgt := 224) hx hb dX13_mayBegin_206 (by decide) (fun c_159 => ?_) (fun c_159 => ?_)
            · rw [if_pos c_159] at hF
              refine lv_iconst (v := 1) hx hb dX13_mayBegin_224 (by decide) ?_
              refine lv_goto (tgt := 229) hx hb dX13_mayBegin_225 (by decide) ?_
              have hF := prt_eq hF
              exact mr_z hC hH hr rfl hF dX13_mayBegin_229 hlocks
            · rw [if_neg c_159] at hF
              refine lv_aload_n hx hb dX13_mayBegin_209 rfl (lv_at hl 2 rfl) ?_
              refine mg_70 hC hH dX13_mayBegin_210 ?_
              refine lv_aload_n hx hb dX13_mayBegin_213 rfl (lv_at hl 2 rfl) ?_
              refine mg_68 hC hH dX13_mayBegin_214 ?_
              refine lv_iload_n hx hb dX13_mayBegin_217 rfl (lv_at hl 3 rfl) ?_
              obtain ⟨x_160, g_161, e_162, hF⟩ := prd_some hF
              refine ml_68 hC hH g_161 dX13_mayBegin_218 ?_
              refine gx_ti e_162 ?_
              obtain ⟨x_163, g_164, e_165, hF⟩ := prd_some hF
              refine ml_70 hC hH g_164 dX13_mayBegin_219 ?_
              refine gx_ti e_165 ?_
              refine lv_iload_n hx hb dX13_mayBegin_220 rfl (lv_at hl 4 rfl) ?_
              refine lv_icmp_gt (tgt := 228) hx hb dX13_mayBegin_221 (by decide) (fun c_166 => ?_) (fun c_166 => ?_)
              · rw [if_pos c_166] at hF
                refine lv_iconst (v := 0) hx hb dX13_mayBegin_228 (by decide) ?_
                have hF := prt_eq hF
                exact mr_z hC hH hr rfl hF dX13_mayBegin_229 hlocks
              · rw [if_neg c_166] at hF
                refine lv_iconst (v := 1) hx hb dX13_mayBegin_224 (by decide) ?_
                refine lv_goto (tgt := 229) hx hb dX13_mayBegin_225 (by decide) ?_
                have hF := prt_eq hF
                exact mr_z hC hH hr rfl hF dX13_mayBegin_229 hlocks
          · rw [if_neg c_155] at hF
            refine lv_aload_n hx hb dX13_mayBegin_184 rfl (lv_at hl 2 rfl) ?_
            refine mg_70 hC hH dX13_mayBegin_185 ?_
            refine lv_aload_n hx hb dX13_mayBegin_188 rfl (lv_at hl 2 rfl) ?_
            refine mg_67 hC hH dX13_mayBegin_189 ?_
            refine lv_iload_n hx hb dX13_mayBegin_192 rfl (lv_at hl 3 rfl) ?_
            obtain ⟨x_167, g_168, e_169, hF⟩ := prd_some hF
            refine ml_67 hC hH g_168 dX13_mayBegin_193 ?_
            refine gx_ti e_169 ?_
            obtain ⟨x_170, g_171, e_172, hF⟩ := prd_some hF
            refine ml_70 hC hH g_171 dX13_mayBegin_194 ?_
            refine gx_ti e_172 ?_
            refine lv_iload_n hx hb dX13_mayBegin_195 rfl (lv_at hl 4 rfl) ?_
            refine lv_icmp_gt (tgt := 228) hx hb dX13_mayBegin_196 (by decide) (fun c_173 => ?_) (fun c_173 => ?_)
            · rw [if_pos c_173] at hF
              refine lv_iconst (v := 0) hx hb dX13_mayBegin_228 (by decide) ?_
              have hF := prt_eq hF
              exact mr_z hC hH hr rfl hF dX13_mayBegin_229 hlocks
            · rw [if_neg c_173] at hF
              refine lv_aload_n hx hb dX13_mayBegin_199 rfl (lv_at hl 2 rfl) ?_
              refine mg_68 hC hH dX13_mayBegin_200 ?_
              refine lv_iload_n hx hb dX13_mayBegin_203 rfl (lv_at hl 3 rfl) ?_
              obtain ⟨x_174, g_175, e_176, hF⟩ := prd_some hF
              refine ml_68 hC hH g_175 dX13_mayBegin_204 ?_
              refine gx_ti e_176 ?_
              refine lv_iconst (v := (-1)) hx hb dX13_mayBegin_205 (by decide) ?_
              refine lv_icmp_eq (tgt := 224) hx hb dX13_mayBegin_206 (by decide) (fun c_177 => ?_) (fun c_177 => ?_)
              · rw [if_pos c_177] at hF
                refine lv_iconst (v := 1) hx hb dX13_mayBegin_224 (by decide) ?_
                refine lv_goto (tgt := 229) hx hb dX13_mayBegin_225 (by decide) ?_
                have hF := prt_eq hF
                exact mr_z hC hH hr rfl hF dX13_mayBegin_229 hlocks
              · rw [if_neg c_177] at hF
                refine lv_aload_n hx hb dX13_mayBegin_209 rfl (lv_at hl 2 rfl) ?_
                refine mg_70 hC hH dX13_mayBegin_210 ?_
                refine lv_aload_n hx hb dX13_mayBegin_213 rfl (lv_at hl 2 rfl) ?_
                refine mg_68 hC hH dX13_mayBegin_214 ?_
                refine lv_iload_n hx hb dX13_mayBegin_217 rfl (lv_at hl 3 rfl) ?_
                obtain ⟨x_178, g_179, e_180, hF⟩ := prd_some hF
                refine ml_68 hC hH g_179 dX13_mayBegin_218 ?_
                refine gx_ti e_180 ?_
                obtain ⟨x_181, g_182, e_183, hF⟩ := prd_some hF
                refine ml_70 hC hH g_182 dX13_mayBegin_219 ?_
                refine gx_ti e_183 ?_
                refine lv_iload_n hx hb dX13_mayBegin_220 rfl (lv_at hl 4 rfl) ?_
                refine lv_icmp_gt (tgt := 228) hx hb dX13_mayBegin_221 (by decide) (fun c_184 => ?_) (fun c_184 => ?_)
                · rw [if_pos c_184] at hF
                  refine lv_iconst (v := 0) hx hb dX13_mayBegin_228 (by decide) ?_
                  have hF := prt_eq hF
                  exact mr_z hC hH hr rfl hF dX13_mayBegin_229 hlocks
                · rw [if_neg c_184] at hF
                  refine lv_iconst (v := 1) hx hb dX13_mayBegin_224 (by decide) ?_
                  refine lv_goto (tgt := 229) hx hb dX13_mayBegin_225 (by decide) ?_
                  have hF := prt_eq hF
                  exact mr_z hC hH hr rfl hF dX13_mayBegin_229 hlocks
        · rw [if_neg c_151] at hF
          refine lv_aload_n hx hb dX13_mayBegin_80 rfl (lv_at hl 2 rfl) ?_
          refine lv_iload hx hb dX13_mayBegin_81 (lv_at hl 1 rfl) ?_
          refine lv_iload hx hb dX13_mayBegin_83 (lv_at hl 0 rfl) ?_
          refine lv_iconst (v := 1) hx hb dX13_mayBegin_85 (by decide) ?_
          refine lv_isub hx hb dX13_mayBegin_86 ?_
          refine lv_iload_n hx hb dX13_mayBegin_87 rfl (lv_at hl 4 rfl) ?_
          refine lv_iload_n hx hb dX13_mayBegin_88 rfl (lv_at hl 5 rfl) ?_
          obtain ⟨r_185, u_186, h_187, hF⟩ := pcl_some hF
          refine mcV_i (As := [.int x_1, .int (x_3 - 1), .int a1, .int a2]) (rest := []) hC hH (m_isOver l G Z Q u_149 u_186 r_185 x_1 (x_3 - 1) a1 a2 _ h_187) kwX13_isOver kVX13_isOver ⟨Nat.le_of_ble_eq_true rfl, Nat.le_of_ble_eq_true rfl⟩ rfl hl.1 rfl (Nat.le_of_ble_eq_true rfl) dX13_mayBegin_89 (fun H locs hH => ?_)
          refine lv_if_ne (tgt := 174) hx hb dX13_mayBegin_92 (by decide) (fun c_188 => ?_) (fun c_188 => ?_)
          · rw [if_neg c_188] at hF
            refine lv_aload_n hx hb dX13_mayBegin_174 rfl (lv_at hl 2 rfl) ?_
            refine mg_67 hC hH dX13_mayBegin_175 ?_
            refine lv_iload_n hx hb dX13_mayBegin_178 rfl (lv_at hl 3 rfl) ?_
            obtain ⟨x_189, g_190, e_191, hF⟩ := prd_some hF
            refine ml_67 hC hH g_190 dX13_mayBegin_179 ?_
            refine gx_ti e_191 ?_
            refine lv_iconst (v := (-1)) hx hb dX13_mayBegin_180 (by decide) ?_
            refine lv_icmp_eq (tgt := 199) hx hb dX13_mayBegin_181 (by decide) (fun c_192 => ?_) (fun c_192 => ?_)
            · rw [if_pos c_192] at hF
              refine lv_aload_n hx hb dX13_mayBegin_199 rfl (lv_at hl 2 rfl) ?_
              refine mg_68 hC hH dX13_mayBegin_200 ?_
              refine lv_iload_n hx hb dX13_mayBegin_203 rfl (lv_at hl 3 rfl) ?_
              obtain ⟨x_193, g_194, e_195, hF⟩ := prd_some hF
              refine ml_68 hC hH g_194 dX13_mayBegin_204 ?_
              refine gx_ti e_195 ?_
              refine lv_iconst (v := (-1)) hx hb dX13_mayBegin_205 (by decide) ?_
              refine lv_icmp_eq (tgt := 224) hx hb dX13_mayBegin_206 (by decide) (fun c_196 => ?_) (fun c_196 => ?_)
              · rw [if_pos c_196] at hF
                refine lv_iconst (v := 1) hx hb dX13_mayBegin_224 (by decide) ?_
                refine lv_goto (tgt := 229) hx hb dX13_mayBegin_225 (by decide) ?_
                have hF := prt_eq hF
                exact mr_z hC hH hr rfl hF dX13_mayBegin_229 hlocks
              · rw [if_neg c_196] at hF
                refine lv_aload_n hx hb dX13_mayBegin_209 rfl (lv_at hl 2 rfl) ?_
                refine mg_70 hC hH dX13_mayBegin_210 ?_
                refine lv_aload_n hx hb dX13_mayBegin_213 rfl (lv_at hl 2 rfl) ?_
                refine mg_68 hC hH dX13_mayBegin_214 ?_
                refine lv_iload_n hx hb dX13_mayBegin_217 rfl (lv_at hl 3 rfl) ?_
                obtain ⟨x_197, g_198, e_199, hF⟩ := prd_some hF
                refine ml_68 hC hH g_198 dX13_mayBegin_218 ?_
                refine gx_ti e_199 ?_
                obtain ⟨x_200, g_201, e_202, hF⟩ := prd_some hF
                refine ml_70 hC hH g_201 dX13_mayBegin_219 ?_
                refine gx_ti e_202 ?_
                refine lv_iload_n hx hb dX13_mayBegin_220 rfl (lv_at hl 4 rfl) ?_
                refine lv_icmp_gt (tgt := 228) hx hb dX13_mayBegin_221 (by decide) (fun c_203 => ?_) (fun c_203 => ?_)
                · rw [if_pos c_203] at hF
                  refine lv_iconst (v := 0) hx hb dX13_mayBegin_228 (by decide) ?_
                  have hF := prt_eq hF
                  exact mr_z hC hH hr rfl hF dX13_mayBegin_229 hlocks
                · rw [if_neg c_203] at hF
                  refine lv_iconst (v := 1) hx hb dX13_mayBegin_224 (by decide) ?_
                  refine lv_goto (tgt := 229) hx hb dX13_mayBegin_225 (by decide) ?_
                  have hF := prt_eq hF
                  exact mr_z hC hH hr rfl hF dX13_mayBegin_229 hlocks
            · rw [if_neg c_192] at hF
              refine lv_aload_n hx hb dX13_mayBegin_184 rfl (lv_at hl 2 rfl) ?_
              refine mg_70 hC hH dX13_mayBegin_185 ?_
              refine lv_aload_n hx hb dX13_mayBegin_188 rfl (lv_at hl 2 rfl) ?_
              refine mg_67 hC hH dX13_mayBegin_189 ?_
              refine lv_iload_n hx hb dX13_mayBegin_192 rfl (lv_at hl 3 rfl) ?_
              obtain ⟨x_204, g_205, e_206, hF⟩ := prd_some hF
              refine ml_67 hC hH g_205 dX13_mayBegin_193 ?_
              refine gx_ti e_206 ?_
              obtain ⟨x_207, g_208, e_209, hF⟩ := prd_some hF
              refine ml_70 hC hH g_208 dX13_mayBegin_194 ?_
              refine gx_ti e_209 ?_
              refine lv_iload_n hx hb dX13_mayBegin_195 rfl (lv_at hl 4 rfl) ?_
              refine lv_icmp_gt (tgt := 228) hx hb dX13_mayBegin_196 (by decide) (fun c_210 => ?_) (fun c_210 => ?_)
              · rw [if_pos c_210] at hF
                refine lv_iconst (v := 0) hx hb dX13_mayBegin_228 (by decide) ?_
                have hF := prt_eq hF
                exact mr_z hC hH hr rfl hF dX13_mayBegin_229 hlocks
              · rw [if_neg c_210] at hF
                refine lv_aload_n hx hb dX13_mayBegin_199 rfl (lv_at hl 2 rfl) ?_
                refine mg_68 hC hH dX13_mayBegin_200 ?_
                refine lv_iload_n hx hb dX13_mayBegin_203 rfl (lv_at hl 3 rfl) ?_
                obtain ⟨x_211, g_212, e_213, hF⟩ := prd_some hF
                refine ml_68 hC hH g_212 dX13_mayBegin_204 ?_
                refine gx_ti e_213 ?_
                refine lv_iconst (v := (-1)) hx hb dX13_mayBegin_205 (by decide) ?_
                refine lv_icmp_eq (tgt := 224) hx hb dX13_mayBegin_206 (by decide) (fun c_214 => ?_) (fun c_214 => ?_)
                · rw [if_pos c_214] at hF
                  refine lv_iconst (v := 1) hx hb dX13_mayBegin_224 (by decide) ?_
                  refine lv_goto (tgt := 229) hx hb dX13_mayBegin_225 (by decide) ?_
                  have hF := prt_eq hF
                  exact mr_z hC hH hr rfl hF dX13_mayBegin_229 hlocks
                · rw [if_neg c_214] at hF
                  refine lv_aload_n hx hb dX13_mayBegin_209 rfl (lv_at hl 2 rfl) ?_
                  refine mg_70 hC hH dX13_mayBegin_210 ?_
                  refine lv_aload_n hx hb dX13_mayBegin_213 rfl (lv_at hl 2 rfl) ?_
                  refine mg_68 hC hH dX13_mayBegin_214 ?_
                  refine lv_iload_n hx hb dX13_mayBegin_217 rfl (lv_at hl 3 rfl) ?_
                  obtain ⟨x_215, g_216, e_217, hF⟩ := prd_some hF
                  refine ml_68 hC hH g_216 dX13_mayBegin_218 ?_
                  refine gx_ti e_217 ?_
                  obtain ⟨x_218, g_219, e_220, hF⟩ := prd_some hF
                  refine ml_70 hC hH g_219 dX13_mayBegin_219 ?_
                  refine gx_ti e_220 ?_
                  refine lv_iload_n hx hb dX13_mayBegin_220 rfl (lv_at hl 4 rfl) ?_
                  refine lv_icmp_gt (tgt := 228) hx hb dX13_mayBegin_221 (by decide) (fun c_221 => ?_) (fun c_221 => ?_)
                  · rw [if_pos c_221] at hF
                    refine lv_iconst (v := 0) hx hb dX13_mayBegin_228 (by decide) ?_
                    have hF := prt_eq hF
                    exact mr_z hC hH hr rfl hF dX13_mayBegin_229 hlocks
                  · rw [if_neg c_221] at hF
                    refine lv_iconst (v := 1) hx hb dX13_mayBegin_224 (by decide) ?_
                    refine lv_goto (tgt := 229) hx hb dX13_mayBegin_225 (by decide) ?_
                    have hF := prt_eq hF
                    exact mr_z hC hH hr rfl hF dX13_mayBegin_229 hlocks
          · rw [if_pos c_188] at hF
            refine lv_iconst (v := 0) hx hb dX13_mayBegin_95 (by decide) ?_
            have hF := prt_eq hF
            exact mr_z hC hH hr rfl hF dX13_mayBegin_96 hlocks
def lp_plan_41 : Nat → Int32 → Int32 → Int32 → Int32 → Int32 → Int32 → (Int32 → Int32 → Int32 → Int32 → Int32 → Int32 → PG (Int32)) → PG (Int32)
  | 0, _, _, _, _, _, _, _ => fun _ => none
  | n41 + 1, v1, v2, v3, v4, v5, v6, K41_90 => prf 2 (fun x_11 => (if x_11 ≤ v6 then K41_90 v1 v2 v3 v4 v5 v6 else prd 11 96 v6 (fun x_14 => (if x_14 = (-1) then pwd 70 96 v6 0 (pli (v6 + 1) (fun x_31 => lp_plan_41 n41 v1 v2 v3 v4 v5 x_31 K41_90)) else prd 11 96 v6 (fun x_18 => prf 4 (fun x_21 => pwd 70 96 v6 (x_18 + x_21) (pli (v6 + 1) (fun x_26 => lp_plan_41 n41 v1 v2 v3 v4 v5 x_26 K41_90))))))))
def lp_plan_93 : Nat → Int32 → Int32 → Int32 → Int32 → Int32 → Int32 → (Int32 → Int32 → Int32 → Int32 → Int32 → Int32 → PG (Int32)) → PG (Int32)
  | 0, _, _, _, _, _, _, _ => fun _ => none
  | n93 + 1, v1, v2, v3, v4, v5, v6, K93_133 => (if 4 ≤ v6 then K93_133 v1 v2 v3 v4 v5 v6 else prd 22 4 v6 (fun x_34 => (if x_34 = (-1) then pwd 71 4 v6 0 (pli (v6 + 1) (fun x_48 => lp_plan_93 n93 v1 v2 v3 v4 v5 x_48 K93_133)) else prf 3 (fun x_38 => pwd 71 4 v6 (x_38 + v2) (pli (v6 + 1) (fun x_43 => lp_plan_93 n93 v1 v2 v3 v4 v5 x_43 K93_133))))))
def lp_plan_350 : Nat → Int32 → Int32 → Int32 → Int32 → Int32 → Int32 → Int32 → Int32 → Int32 → (Int32 → Int32 → Int32 → Int32 → Int32 → Int32 → Int32 → Int32 → Int32 → PG (Int32)) → PG (Int32)
  | 0, _, _, _, _, _, _, _, _, _, _ => fun _ => none
  | n350 + 1, v1, v2, v3, v4, v5, v6, v7, v8, v9, K350_399 => (if v9 ≤ 0 then K350_399 v1 v2 v3 v4 v5 v6 v7 v8 v9 else prd 66 160 (v9 - 1) (fun x_101 => pcl (f_stage x_101) (fun r_104 => pcl (f_stage v8) (fun r_107 => (if r_104 ≤ r_107 then K350_399 v1 v2 v3 v4 v5 v6 v7 v8 v9 else prd 66 160 (v9 - 1) (fun x_111 => pwd 66 160 v9 x_111 (pli (v9 + (-1)) (fun x_117 => lp_plan_350 n350 v1 v2 v3 v4 v5 v6 v7 v8 x_117 K350_399))))))))
def lp_plan_145 : Nat → Int32 → Int32 → Int32 → Int32 → Int32 → Int32 → Int32 → (Int32 → Int32 → Int32 → Int32 → Int32 → Int32 → Int32 → PG (Int32)) → PG (Int32)
  | 0, _, _, _, _, _, _, _, _ => fun _ => none
  | n145 + 1, v1, v2, v3, v4, v5, v6, v7, K145_417 => (if 40 ≤ v7 then K145_417 v1 v2 v3 v4 v5 v6 v7 else pli ((40 * v6) + v7) (fun x_52 => pwd 65 160 x_52 0 (pwd 63 160 x_52 (-1) (pwd 64 160 x_52 (-1) (pcl (f_fights v6) (fun r_63 => (if r_63 ≤ v7 then pli (v7 + 1) (fun x_67 => lp_plan_145 n145 v1 v2 v3 v4 v5 v6 x_67 K145_417) else prd 15 160 x_52 (fun x_69 => (if x_69 = 2 then pli (v7 + 1) (fun x_73 => lp_plan_145 n145 v1 v2 v3 v4 v5 v6 x_73 K145_417) else pcl (f_isWalk v6 v7) (fun r_75 => (if r_75 = 0 then pcl (fS 24 0 v6 v7 0 0) (fun r_79 => pwd 67 160 x_52 (if (-1) < r_79 then r_79 else (-1)) (pcl (fS 24 0 v6 v7 1 0) (fun r_85 => pwd 68 160 x_52 (if (-1) < r_85 then r_85 else (-1)) (prd 15 160 x_52 (fun x_91 => (if x_91 = 1 then pwd 65 160 x_52 2 (pcl (f_matOf v6 v7) (fun r_129 => pwd 63 160 x_52 r_129 (prf 3 (fun x_135 => pwd 64 160 x_52 x_135 (prf 3 (fun x_140 => pli (if v4 < (x_140 + v2) then (x_140 + v2) else v4) (fun x_142 => prf 3 (fun x_144 => pcl (f_tires x_52 (x_144 + v2)) (fun r_146 => pli (v7 + 1) (fun x_149 => lp_plan_145 n145 v1 v2 v3 x_142 v5 v6 x_149 K145_417)))))))))) else pwd 65 160 x_52 1 (pli (v3 + 1) (fun x_98 => lp_plan_350 fuel v1 v2 x_98 v4 v5 v6 v7 x_52 v5 (fun v1 v2 v3 v4 v5 v6 v7 v8 v9 => pwd 66 160 v9 v8 (pli (v5 + 1) (fun x_122 => pli (v7 + 1) (fun x_124 => lp_plan_145 n145 v1 v2 v3 v4 x_122 v6 x_124 K145_417)))))))))))) else pli (v7 + 1) (fun x_151 => lp_plan_145 n145 v1 v2 v3 v4 v5 v6 x_151 K145_417))))))))))))
def lp_plan_136 : Nat → Int32 → Int32 → Int32 → Int32 → Int32 → Int32 → (Int32 → Int32 → Int32 → Int32 → Int32 → Int32 → PG (Int32)) → PG (Int32)
  | 0, _, _, _, _, _, _, _ => fun _ => none
  | n136 + 1, v1, v2, v3, v4, v5, v6, K136_423 => (if 4 ≤ v6 then K136_423 v1 v2 v3 v4 v5 v6 else lp_plan_145 fuel v1 v2 v3 v4 v5 v6 0 (fun v1 v2 v3 v4 v5 v6 v7 => pli (v6 + 1) (fun x_153 => lp_plan_136 n136 v1 v2 v3 v4 v5 x_153 K136_423)))
def lp_plan_467 : Nat → Int32 → Int32 → Int32 → Int32 → Int32 → Int32 → Int32 → Int32 → Int32 → (Int32 → Int32 → Int32 → Int32 → Int32 → Int32 → Int32 → Int32 → Int32 → PG (Int32)) → PG (Int32)
  | 0, _, _, _, _, _, _, _, _, _, _ => fun _ => none
  | n467 + 1, v1, v2, v3, v4, v5, v6, v7, v8, v9, K467_528 => (if v5 ≤ v9 then K467_528 v1 v2 v3 v4 v5 v6 v7 v8 v9 else (if v8 = (-1) then prd 66 160 v9 (fun x_166 => prd 65 160 x_166 (fun x_169 => (if x_169 = 1 then prd 66 160 v9 (fun x_175 => pcl (f_mayBegin x_175 v6 v2) (fun r_178 => (if r_178 = 0 then pli (v9 + 1) (fun x_182 => lp_plan_467 n467 v1 v2 v3 v4 v5 v6 v7 v8 x_182 K467_528) else prd 66 160 v9 (fun x_184 => pli (v9 + 1) (fun x_187 => lp_plan_467 n467 v1 v2 v3 v4 v5 v6 v7 x_184 x_187 K467_528))))) else pli (v9 + 1) (fun x_173 => lp_plan_467 n467 v1 v2 v3 v4 v5 v6 v7 v8 x_173 K467_528)))) else K467_528 v1 v2 v3 v4 v5 v6 v7 v8 v9))
def lp_plan_436 : Nat → Int32 → Int32 → Int32 → Int32 → Int32 → Int32 → Int32 → (Int32 → Int32 → Int32 → Int32 → Int32 → Int32 → Int32 → PG (Int32)) → PG (Int32)
  | 0, _, _, _, _, _, _, _, _ => fun _ => none
  | n436 + 1, v1, v2, v3, v4, v5, v6, v7, K436_604 => (if v1 ≤ v7 then K436_604 v1 v2 v3 v4 v5 v6 v7 else (if v3 ≤ 0 then K436_604 v1 v2 v3 v4 v5 v6 v7 else prd 71 4 v7 (fun x_160 => (if x_160 ≤ v6 then lp_plan_467 fuel v1 v2 v3 v4 v5 v6 v7 (-1) 0 (fun v1 v2 v3 v4 v5 v6 v7 v8 v9 => (if v8 = (-1) then pli (v7 + 1) (fun x_211 => lp_plan_436 n436 v1 v2 v3 v4 v5 v6 x_211 K436_604) else pwd 65 160 v8 2 (pwd 63 160 v8 v7 (pwd 64 160 v8 v6 (pwd 71 4 v7 (v6 + v2) (pcl (f_tires v8 (v6 + v2)) (fun r_202 => pli (v3 + (-1)) (fun x_205 => pli (if v4 < (v6 + v2) then (v6 + v2) else v4) (fun x_207 => pli (v7 + 1) (fun x_209 => lp_plan_436 n436 v1 v2 x_205 x_207 v5 v6 x_209 K436_604)))))))))) else pli (v7 + 1) (fun x_213 => lp_plan_436 n436 v1 v2 v3 v4 v5 v6 x_213 K436_604)))))
def lp_plan_429 : Nat → Int32 → Int32 → Int32 → Int32 → Int32 → Int32 → (Int32 → Int32 → Int32 → Int32 → Int32 → Int32 → PG (Int32)) → PG (Int32)
  | 0, _, _, _, _, _, _, _ => fun _ => none
  | n429 + 1, v1, v2, v3, v4, v5, v6, K429_628 => (if v3 ≤ 0 then K429_628 v1 v2 v3 v4 v5 v6 else lp_plan_436 fuel v1 v2 v3 v4 v5 v6 0 (fun v1 v2 v3 v4 v5 v6 v7 => (if 100000 < v4 then prt (-1) else (if v6 ≤ 100000 then pli (v6 + 1) (fun x_217 => lp_plan_429 n429 v1 v2 v3 v4 v5 x_217 K429_628) else prt (-1)))))
def lp_plan_631 : Nat → Int32 → Int32 → Int32 → Int32 → Int32 → Int32 → Int32 → (Int32 → Int32 → Int32 → Int32 → Int32 → Int32 → Int32 → PG (Int32)) → PG (Int32)
  | 0, _, _, _, _, _, _, _, _ => fun _ => none
  | n631 + 1, v1, v2, v3, v4, v5, v6, v7, K631_673 => (if 160 ≤ v7 then K631_673 v1 v2 v3 v4 v5 v6 v7 else prd 63 160 v7 (fun x_220 => pwd 61 160 v7 x_220 (prd 64 160 v7 (fun x_226 => pwd 62 160 v7 x_226 (pli (v7 + 1) (fun x_232 => lp_plan_631 n631 v1 v2 v3 v4 v5 v6 x_232 K631_673))))))
def f_plan (a0 : Int32) (a1 : Int32) : PG (Int32) := pcl (f_in a0.toInt64 1 4) (fun r_1 => (if r_1 = 0 then prt (-2) else pcl (f_in a1.toInt64 1 60) (fun r_5 => (if r_5 = 0 then prt (-2) else prf 3 (fun x_9 => lp_plan_41 fuel a0 a1 0 x_9 0 0 (fun v1 v2 v3 v4 v5 v6 => lp_plan_93 fuel v1 v2 v3 v4 v5 0 (fun v1 v2 v3 v4 v5 v6 => lp_plan_136 fuel v1 v2 v3 v4 v5 0 (fun v1 v2 v3 v4 v5 v6 => prf 3 (fun x_155 => lp_plan_429 fuel v1 v2 v3 v4 v5 x_155 (fun v1 v2 v3 v4 v5 v6 => lp_plan_631 fuel v1 v2 v3 v4 v5 v6 0 (fun v1 v2 v3 v4 v5 v6 v7 => pwf 69 1 (prt v4))))))))))))
set_option maxHeartbeats 4000000 in
set_option maxRecDepth 100000 in
theorem m_plan (l : Launch) (G : gG) (Z : gM) (Q : Nat → Nat) (u u1 : GS) (r : Int32) (a0 : Int32) (a1 : Int32) (sz : Nat) (hF : f_plan a0 a1 u = some (r, u1)) : Met l yX13_plan (Cond.code yX13_plan cX13_plan 10 (some .int) :: wM) { frames := 310, cells := 0, slots := 0, locals := 3810 } (va_Pc [.ref (Q 72), .int a0, .int a1] (mPM G Z Q u.1 sz)) (mQi G Q u1.1 r sz) 0 0 (mA Q sz) := by
  refine Met.ofW (cc := cX13_plan) (maxL := 10) (ret := (some .int)) (by decide) rfl ?_
  intro p e s m args below meth c s₁ B hml hv
  obtain ⟨rfl, rfl, hP, hB, hD, hE⟩ := hv
  have hr := B.returns
  have hlocks := B.notSynchronized
  have hts := atoms_spec (ws := Cond.code yX13_plan cX13_plan 10 (some .int) :: wM) B.pre
  have hC : mX p c cX13_plan 10 s m _ G Z Q := ⟨B.exec, B.bytes, hml, findClass_of_methodNamed B.named, fun w h => hts w (List.mem_cons_of_mem _ h), hB, hE⟩
  have hx := hC.1
  have hb := hC.2.1
  have hH : mH G Q u.1 s s.heap [] := ⟨hP, hD, va_S.rf⟩
  have hl := lv_entry ([.ref (Q 72), .int a0, .int a1]) (n := 10) (Nat.le_of_ble_eq_true rfl)
  rw [lg_entry_eq]
  generalize (lg_sl ([.ref (Q 72), .int a0, .int a1]) ++ List.replicate (10 - (lg_sl ([.ref (Q 72), .int a0, .int a1])).length) Slot.unset).toArray = ls at hl ⊢
  have hl : lv_has ls 10 [(0, .ref (Q 72)), (1, .int a0), (2, .int a1)] := hl
  unfold f_plan at hF
  refine lv_iload_n hx hb dX13_plan_0 rfl (lv_at hl 1 rfl) ?_
  refine lv_i2l (v := a0.toInt64) hx hb dX13_plan_1 rfl ?_
  refine lv_lconst (v := 1) hx hb dX13_plan_2 (by decide) ?_
  refine lv_ldc2 (v := 4) hx hb hC.2.2.2.1 (hC.2.2.2.2.1 _ wma170) dX13_plan_3 ?_
  obtain ⟨r_1, u_2, h_3, hF⟩ := pcl_some hF
  refine mcS_i (As := [.long a0.toInt64, .long 1, .long 4]) (rest := []) hC hH (m_in l G Z Q u u_2 r_1 a0.toInt64 1 4 _ h_3) kwX13_in kVX13_in ⟨Nat.le_of_ble_eq_true rfl, Nat.le_of_ble_eq_true rfl⟩ rfl hl.1 rfl (Nat.le_of_ble_eq_true rfl) dX13_plan_6 (fun H locs hH => ?_)
  refine lv_if_eq (tgt := 24) hx hb dX13_plan_9 (by decide) (fun c_4 => ?_) (fun c_4 => ?_)
  · rw [if_pos c_4] at hF
    refine lv_bipush (v := (-2)) hx hb dX13_plan_24 (by decide) ?_
    have hF := prt_eq hF
    exact mr_i hC hH hr hF dX13_plan_26 hlocks
  · rw [if_neg c_4] at hF
    refine lv_iload_n hx hb dX13_plan_12 rfl (lv_at hl 2 rfl) ?_
    refine lv_i2l (v := a1.toInt64) hx hb dX13_plan_13 rfl ?_
    refine lv_lconst (v := 1) hx hb dX13_plan_14 (by decide) ?_
    refine lv_ldc2 (v := 60) hx hb hC.2.2.2.1 (hC.2.2.2.2.1 _ wma171) dX13_plan_15 ?_
    obtain ⟨r_5, u_6, h_7, hF⟩ := pcl_some hF
    refine mcS_i (As := [.long a1.toInt64, .long 1, .long 60]) (rest := []) hC hH (m_in l G Z Q u_2 u_6 r_5 a1.toInt64 1 60 _ h_7) kwX13_in kVX13_in ⟨Nat.le_of_ble_eq_true rfl, Nat.le_of_ble_eq_true rfl⟩ rfl hl.1 rfl (Nat.le_of_ble_eq_true rfl) dX13_plan_18 (fun H locs hH => ?_)
    refine lv_if_ne (tgt := 27) hx hb dX13_plan_21 (by decide) (fun c_8 => ?_) (fun c_8 => ?_)
    · rw [if_neg c_8] at hF
      refine lv_iconst (v := 0) hx hb dX13_plan_27 (by decide) ?_
      refine lv_istore_n (lv' := [(3, .int 0), (0, .ref (Q 72)), (1, .int a0), (2, .int a1)]) hx hb dX13_plan_28 rfl hl (by decide) rfl (fun ls hl => ?_)
      refine lv_aload_n hx hb dX13_plan_29 rfl (lv_at hl 1 rfl) ?_
      refine mg_3 hC hH dX13_plan_30 ?_
      obtain ⟨x_9, e_10, hF⟩ := prf_some hF
      refine gx_ti e_10 ?_
      refine lv_istore (lv' := [(4, .int x_9), (3, .int 0), (0, .ref (Q 72)), (1, .int a0), (2, .int a1)]) hx hb dX13_plan_33 hl (by decide) rfl (fun ls hl => ?_)
      refine lv_iconst (v := 0) hx hb dX13_plan_35 (by decide) ?_
      refine lv_istore (lv' := [(5, .int 0), (4, .int x_9), (3, .int 0), (0, .ref (Q 72)), (1, .int a0), (2, .int a1)]) hx hb dX13_plan_36 hl (by decide) rfl (fun ls hl => ?_)
      refine lv_iconst (v := 0) hx hb dX13_plan_38 (by decide) ?_
      refine lv_istore (lv' := [(6, .int 0), (5, .int 0), (4, .int x_9), (3, .int 0), (0, .ref (Q 72)), (1, .int a0), (2, .int a1)]) hx hb dX13_plan_39 hl (by decide) rfl (fun ls hl => ?_)
      have hL41 : ∀ (K41_90 : Int32 → Int32 → Int32 → Int32 → Int32 → Int32 → PG (Int32)), (∀ (v1 v2 v3 v4 v5 v6 : Int32) (u : GS) (H : Heap) (locs : List Loc) (ls : Array Slot), lv_has ls 10 [(0, .ref (Q 72)), (1, .int v1), (2, .int v2), (3, .int v3), (4, .int v4), (5, .int v5), (6, .int v6)] → mH G Q u.1 s H locs → K41_90 v1 v2 v3 v4 v5 v6 u = some ((r, u1)) → W p l e (headSpec (Cond.code yX13_plan cX13_plan 10 (some .int) :: wM) { frames := 310, cells := 0, slots := 0, locals := 3810 }).room s m [.ref (Q 72), .int a0, .int a1].toArray below meth c H locs 0 0 (MQ below (mQi G Q u1.1 r s.heap.size) [.ref (Q 72), .int a0, .int a1].toArray s 0 0 (mA Q s.heap.size)) (F0 m 90 ls [])) → ∀ (n41 : Nat) (v1 v2 v3 v4 v5 v6 : Int32) (u : GS) (H : Heap) (locs : List Loc) (ls : Array Slot), lv_has ls 10 [(0, .ref (Q 72)), (1, .int v1), (2, .int v2), (3, .int v3), (4, .int v4), (5, .int v5), (6, .int v6)] → mH G Q u.1 s H locs → lp_plan_41 n41 v1 v2 v3 v4 v5 v6 K41_90 u = some ((r, u1)) → W p l e (headSpec (Cond.code yX13_plan cX13_plan 10 (some .int) :: wM) { frames := 310, cells := 0, slots := 0, locals := 3810 }).room s m [.ref (Q 72), .int a0, .int a1].toArray below meth c H locs 0 0 (MQ below (mQi G Q u1.1 r s.heap.size) [.ref (Q 72), .int a0, .int a1].toArray s 0 0 (mA Q s.heap.size)) (F0 m 41 ls []) := by
        intro K41_90 hK41_90 n41
        induction n41 with
        | zero => intro v1 v2 v3 v4 v5 v6 u H locs ls hl hH hF; cases hF
        | succ n41 ih41 =>
          intro v1 v2 v3 v4 v5 v6 u H locs ls hl hH hF
          unfold lp_plan_41 at hF
          refine lv_iload hx hb dX13_plan_41 (lv_at hl 6 rfl) ?_
          refine lv_aload_n hx hb dX13_plan_43 rfl (lv_at hl 0 rfl) ?_
          refine mg_2 hC hH dX13_plan_44 ?_
          obtain ⟨x_11, e_12, hF⟩ := prf_some hF
          refine gx_ti e_12 ?_
          refine lv_icmp_ge (tgt := 90) hx hb dX13_plan_47 (by decide) (fun c_13 => ?_) (fun c_13 => ?_)
          · rw [if_pos c_13] at hF
            exact hK41_90 v1 v2 v3 v4 v5 v6 u _ _ _ (lv_sub hl [0, 1, 2, 3, 4, 5, 6] rfl) hH hF
          · rw [if_neg c_13] at hF
            refine lv_aload_n hx hb dX13_plan_50 rfl (lv_at hl 0 rfl) ?_
            refine mg_70 hC hH dX13_plan_51 ?_
            refine lv_iload hx hb dX13_plan_54 (lv_at hl 6 rfl) ?_
            refine lv_aload_n hx hb dX13_plan_56 rfl (lv_at hl 0 rfl) ?_
            refine mg_11 hC hH dX13_plan_57 ?_
            refine lv_iload hx hb dX13_plan_60 (lv_at hl 6 rfl) ?_
            obtain ⟨x_14, g_15, e_16, hF⟩ := prd_some hF
            refine ml_11 hC hH g_15 dX13_plan_62 ?_
            refine gx_ti e_16 ?_
            refine lv_iconst (v := (-1)) hx hb dX13_plan_63 (by decide) ?_
            refine lv_icmp_ne (tgt := 71) hx hb dX13_plan_64 (by decide) (fun c_17 => ?_) (fun c_17 => ?_)
            · rw [if_neg c_17] at hF
              refine lv_aload_n hx hb dX13_plan_71 rfl (lv_at hl 0 rfl) ?_
              refine mg_11 hC hH dX13_plan_72 ?_
              refine lv_iload hx hb dX13_plan_75 (lv_at hl 6 rfl) ?_
              obtain ⟨x_18, g_19, e_20, hF⟩ := prd_some hF
              refine ml_11 hC hH g_19 dX13_plan_77 ?_
              refine gx_ti e_20 ?_
              refine lv_aload_n hx hb dX13_plan_78 rfl (lv_at hl 0 rfl) ?_
              refine mg_4 hC hH dX13_plan_79 ?_
              obtain ⟨x_21, e_22, hF⟩ := prf_some hF
              refine gx_ti e_22 ?_
              refine lv_iadd hx hb dX13_plan_82 ?_
              obtain ⟨u_24, g_23, e_25, hF⟩ := pwd_some hF
              refine ms_70 hC hH e_25 g_23 dX13_plan_83 (fun H locs hH => ?_)
              obtain ⟨x_26, e_27, hF⟩ := pli_some hF
              refine lv_iinc (v := x_26) (lv' := [(6, .int x_26), (0, .ref (Q 72)), (1, .int v1), (2, .int v2), (3, .int v3), (4, .int v4), (5, .int v5)]) hx hb dX13_plan_84 hl (k := 6) rfl e_27 (by decide) rfl (fun ls hl => ?_)
              refine lv_goto (tgt := 41) hx hb dX13_plan_87 (by decide) ?_
              exact ih41 v1 v2 v3 v4 v5 x_26 u_24 _ _ _ (lv_sub hl [1, 2, 3, 4, 5, 6, 0] rfl) hH hF
            · rw [if_pos c_17] at hF
              refine lv_iconst (v := 0) hx hb dX13_plan_67 (by decide) ?_
              refine lv_goto (tgt := 83) hx hb dX13_plan_68 (by decide) ?_
              obtain ⟨u_29, g_28, e_30, hF⟩ := pwd_some hF
              refine ms_70 hC hH e_30 g_28 dX13_plan_83 (fun H locs hH => ?_)
              obtain ⟨x_31, e_32, hF⟩ := pli_some hF
              refine lv_iinc (v := x_31) (lv' := [(6, .int x_31), (0, .ref (Q 72)), (1, .int v1), (2, .int v2), (3, .int v3), (4, .int v4), (5, .int v5)]) hx hb dX13_plan_84 hl (k := 6) rfl e_32 (by decide) rfl (fun ls hl => ?_)
              refine lv_goto (tgt := 41) hx hb dX13_plan_87 (by decide) ?_
              exact ih41 v1 v2 v3 v4 v5 x_31 u_29 _ _ _ (lv_sub hl [1, 2, 3, 4, 5, 6, 0] rfl) hH hF
      refine hL41 _ (fun v1 v2 v3 v4 v5 v6 u H locs ls hl hH hF => ?_) fuel a0 a1 0 x_9 0 0 u_6 _ _ _ (lv_sub hl [4, 5, 6, 3, 2, 1, 0] rfl) hH hF
      refine lv_iconst (v := 0) hx hb dX13_plan_90 (by decide) ?_
      refine lv_istore (lv' := [(6, .int 0), (0, .ref (Q 72)), (1, .int v1), (2, .int v2), (3, .int v3), (4, .int v4), (5, .int v5)]) hx hb dX13_plan_91 hl (by decide) rfl (fun ls hl => ?_)
      have hL93 : ∀ (K93_133 : Int32 → Int32 → Int32 → Int32 → Int32 → Int32 → PG (Int32)), (∀ (v1 v2 v3 v4 v5 v6 : Int32) (u : GS) (H : Heap) (locs : List Loc) (ls : Array Slot), lv_has ls 10 [(0, .ref (Q 72)), (1, .int v1), (2, .int v2), (3, .int v3), (4, .int v4), (5, .int v5), (6, .int v6)] → mH G Q u.1 s H locs → K93_133 v1 v2 v3 v4 v5 v6 u = some ((r, u1)) → W p l e (headSpec (Cond.code yX13_plan cX13_plan 10 (some .int) :: wM) { frames := 310, cells := 0, slots := 0, locals := 3810 }).room s m [.ref (Q 72), .int a0, .int a1].toArray below meth c H locs 0 0 (MQ below (mQi G Q u1.1 r s.heap.size) [.ref (Q 72), .int a0, .int a1].toArray s 0 0 (mA Q s.heap.size)) (F0 m 133 ls [])) → ∀ (n93 : Nat) (v1 v2 v3 v4 v5 v6 : Int32) (u : GS) (H : Heap) (locs : List Loc) (ls : Array Slot), lv_has ls 10 [(0, .ref (Q 72)), (1, .int v1), (2, .int v2), (3, .int v3), (4, .int v4), (5, .int v5), (6, .int v6)] → mH G Q u.1 s H locs → lp_plan_93 n93 v1 v2 v3 v4 v5 v6 K93_133 u = some ((r, u1)) → W p l e (headSpec (Cond.code yX13_plan cX13_plan 10 (some .int) :: wM) { frames := 310, cells := 0, slots := 0, locals := 3810 }).room s m [.ref (Q 72), .int a0, .int a1].toArray below meth c H locs 0 0 (MQ below (mQi G Q u1.1 r s.heap.size) [.ref (Q 72), .int a0, .int a1].toArray s 0 0 (mA Q s.heap.size)) (F0 m 93 ls []) := by
        intro K93_133 hK93_133 n93
        induction n93 with
        | zero => intro v1 v2 v3 v4 v5 v6 u H locs ls hl hH hF; cases hF
        | succ n93 ih93 =>
          intro v1 v2 v3 v4 v5 v6 u H locs ls hl hH hF
          unfold lp_plan_93 at hF
          refine lv_iload hx hb dX13_plan_93 (lv_at hl 6 rfl) ?_
          refine lv_iconst (v := 4) hx hb dX13_plan_95 (by decide) ?_
          refine lv_icmp_ge (tgt := 133) hx hb dX13_plan_96 (by decide) (fun c_33 => ?_) (fun c_33 => ?_)
          · rw [if_pos c_33] at hF
            exact hK93_133 v1 v2 v3 v4 v5 v6 u _ _ _ (lv_sub hl [0, 1, 2, 3, 4, 5, 6] rfl) hH hF
          · rw [if_neg c_33] at hF
            refine lv_aload_n hx hb dX13_plan_99 rfl (lv_at hl 0 rfl) ?_
            refine mg_71 hC hH dX13_plan_100 ?_
            refine lv_iload hx hb dX13_plan_103 (lv_at hl 6 rfl) ?_
            refine lv_aload_n hx hb dX13_plan_105 rfl (lv_at hl 0 rfl) ?_
            refine mg_22 hC hH dX13_plan_106 ?_
            refine lv_iload hx hb dX13_plan_109 (lv_at hl 6 rfl) ?_
            obtain ⟨x_34, g_35, e_36, hF⟩ := prd_some hF
            refine ml_22 hC hH g_35 dX13_plan_111 ?_
            refine gx_ti e_36 ?_
            refine lv_iconst (v := (-1)) hx hb dX13_plan_112 (by decide) ?_
            refine lv_icmp_ne (tgt := 120) hx hb dX13_plan_113 (by decide) (fun c_37 => ?_) (fun c_37 => ?_)
            · rw [if_neg c_37] at hF
              refine lv_aload_n hx hb dX13_plan_120 rfl (lv_at hl 0 rfl) ?_
              refine mg_3 hC hH dX13_plan_121 ?_
              obtain ⟨x_38, e_39, hF⟩ := prf_some hF
              refine gx_ti e_39 ?_
              refine lv_iload_n hx hb dX13_plan_124 rfl (lv_at hl 2 rfl) ?_
              refine lv_iadd hx hb dX13_plan_125 ?_
              obtain ⟨u_41, g_40, e_42, hF⟩ := pwd_some hF
              refine ms_71 hC hH e_42 g_40 dX13_plan_126 (fun H locs hH => ?_)
              obtain ⟨x_43, e_44, hF⟩ := pli_some hF
              refine lv_iinc (v := x_43) (lv' := [(6, .int x_43), (0, .ref (Q 72)), (1, .int v1), (2, .int v2), (3, .int v3), (4, .int v4), (5, .int v5)]) hx hb dX13_plan_127 hl (k := 6) rfl e_44 (by decide) rfl (fun ls hl => ?_)
              refine lv_goto (tgt := 93) hx hb dX13_plan_130 (by decide) ?_
              exact ih93 v1 v2 v3 v4 v5 x_43 u_41 _ _ _ (lv_sub hl [1, 2, 3, 4, 5, 6, 0] rfl) hH hF
            · rw [if_pos c_37] at hF
              refine lv_iconst (v := 0) hx hb dX13_plan_116 (by decide) ?_
              refine lv_goto (tgt := 126) hx hb dX13_plan_117 (by decide) ?_
              obtain ⟨u_46, g_45, e_47, hF⟩ := pwd_some hF
              refine ms_71 hC hH e_47 g_45 dX13_plan_126 (fun H locs hH => ?_)
              obtain ⟨x_48, e_49, hF⟩ := pli_some hF
              refine lv_iinc (v := x_48) (lv' := [(6, .int x_48), (0, .ref (Q 72)), (1, .int v1), (2, .int v2), (3, .int v3), (4, .int v4), (5, .int v5)]) hx hb dX13_plan_127 hl (k := 6) rfl e_49 (by decide) rfl (fun ls hl => ?_)
              refine lv_goto (tgt := 93) hx hb dX13_plan_130 (by decide) ?_
              exact ih93 v1 v2 v3 v4 v5 x_48 u_46 _ _ _ (lv_sub hl [1, 2, 3, 4, 5, 6, 0] rfl) hH hF
      refine hL93 _ (fun v1 v2 v3 v4 v5 v6 u H locs ls hl hH hF => ?_) fuel v1 v2 v3 v4 v5 0 u _ _ _ (lv_sub hl [1, 2, 3, 4, 5, 6, 0] rfl) hH hF
      refine lv_iconst (v := 0) hx hb dX13_plan_133 (by decide) ?_
      refine lv_istore (lv' := [(6, .int 0), (0, .ref (Q 72)), (1, .int v1), (2, .int v2), (3, .int v3), (4, .int v4), (5, .int v5)]) hx hb dX13_plan_134 hl (by decide) rfl (fun ls hl => ?_)
      have hL136 : ∀ (K136_423 : Int32 → Int32 → Int32 → Int32 → Int32 → Int32 → PG (Int32)), (∀ (v1 v2 v3 v4 v5 v6 : Int32) (u : GS) (H : Heap) (locs : List Loc) (ls : Array Slot), lv_has ls 10 [(0, .ref (Q 72)), (1, .int v1), (2, .int v2), (3, .int v3), (4, .int v4), (5, .int v5), (6, .int v6)] → mH G Q u.1 s H locs → K136_423 v1 v2 v3 v4 v5 v6 u = some ((r, u1)) → W p l e (headSpec (Cond.code yX13_plan cX13_plan 10 (some .int) :: wM) { frames := 310, cells := 0, slots := 0, locals := 3810 }).room s m [.ref (Q 72), .int a0, .int a1].toArray below meth c H locs 0 0 (MQ below (mQi G Q u1.1 r s.heap.size) [.ref (Q 72), .int a0, .int a1].toArray s 0 0 (mA Q s.heap.size)) (F0 m 423 ls [])) → ∀ (n136 : Nat) (v1 v2 v3 v4 v5 v6 : Int32) (u : GS) (H : Heap) (locs : List Loc) (ls : Array Slot), lv_has ls 10 [(0, .ref (Q 72)), (1, .int v1), (2, .int v2), (3, .int v3), (4, .int v4), (5, .int v5), (6, .int v6)] → mH G Q u.1 s H locs → lp_plan_136 n136 v1 v2 v3 v4 v5 v6 K136_423 u = some ((r, u1)) → W p l e (headSpec (Cond.code yX13_plan cX13_plan 10 (some .int) :: wM) { frames := 310, cells := 0, slots := 0, locals := 3810 }).room s m [.ref (Q 72), .int a0, .int a1].toArray below meth c H locs 0 0 (MQ below (mQi G Q u1.1 r s.heap.size) [.ref (Q 72), .int a0, .int a1].toArray s 0 0 (mA Q s.heap.size)) (F0 m 136 ls []) := by
        intro K136_423 hK136_423 n136
        induction n136 with
        | zero => intro v1 v2 v3 v4 v5 v6 u H locs ls hl hH hF; cases hF
        | succ n136 ih136 =>
          intro v1 v2 v3 v4 v5 v6 u H locs ls hl hH hF
          unfold lp_plan_136 at hF
          refine lv_iload hx hb dX13_plan_136 (lv_at hl 6 rfl) ?_
          refine lv_iconst (v := 4) hx hb dX13_plan_138 (by decide) ?_
          refine lv_icmp_ge (tgt := 423) hx hb dX13_plan_139 (by decide) (fun c_50 => ?_) (fun c_50 => ?_)
          · rw [if_pos c_50] at hF
            exact hK136_423 v1 v2 v3 v4 v5 v6 u _ _ _ (lv_sub hl [0, 1, 2, 3, 4, 5, 6] rfl) hH hF
          · rw [if_neg c_50] at hF
            refine lv_iconst (v := 0) hx hb dX13_plan_142 (by decide) ?_
            refine lv_istore (lv' := [(7, .int 0), (0, .ref (Q 72)), (1, .int v1), (2, .int v2), (3, .int v3), (4, .int v4), (5, .int v5), (6, .int v6)]) hx hb dX13_plan_143 hl (by decide) rfl (fun ls hl => ?_)
            have hL145 : ∀ (K145_417 : Int32 → Int32 → Int32 → Int32 → Int32 → Int32 → Int32 → PG (Int32)), (∀ (v1 v2 v3 v4 v5 v6 v7 : Int32) (u : GS) (H : Heap) (locs : List Loc) (ls : Array Slot), lv_has ls 10 [(0, .ref (Q 72)), (1, .int v1), (2, .int v2), (3, .int v3), (4, .int v4), (5, .int v5), (6, .int v6), (7, .int v7)] → mH G Q u.1 s H locs → K145_417 v1 v2 v3 v4 v5 v6 v7 u = some ((r, u1)) → W p l e (headSpec (Cond.code yX13_plan cX13_plan 10 (some .int) :: wM) { frames := 310, cells := 0, slots := 0, locals := 3810 }).room s m [.ref (Q 72), .int a0, .int a1].toArray below meth c H locs 0 0 (MQ below (mQi G Q u1.1 r s.heap.size) [.ref (Q 72), .int a0, .int a1].toArray s 0 0 (mA Q s.heap.size)) (F0 m 417 ls [])) → ∀ (n145 : Nat) (v1 v2 v3 v4 v5 v6 v7 : Int32) (u : GS) (H : Heap) (locs : List Loc) (ls : Array Slot), lv_has ls 10 [(0, .ref (Q 72)), (1, .int v1), (2, .int v2), (3, .int v3), (4, .int v4), (5, .int v5), (6, .int v6), (7, .int v7)] → mH G Q u.1 s H locs → lp_plan_145 n145 v1 v2 v3 v4 v5 v6 v7 K145_417 u = some ((r, u1)) → W p l e (headSpec (Cond.code yX13_plan cX13_plan 10 (some .int) :: wM) { frames := 310, cells := 0, slots := 0, locals := 3810 }).room s m [.ref (Q 72), .int a0, .int a1].toArray below meth c H locs 0 0 (MQ below (mQi G Q u1.1 r s.heap.size) [.ref (Q 72), .int a0, .int a1].toArray s 0 0 (mA Q s.heap.size)) (F0 m 145 ls []) := by
              intro K145_417 hK145_417 n145
              induction n145 with
              | zero => intro v1 v2 v3 v4 v5 v6 v7 u H locs ls hl hH hF; cases hF
              | succ n145 ih145 =>
                intro v1 v2 v3 v4 v5 v6 v7 u H locs ls hl hH hF
                unfold lp_plan_145 at hF
                refine lv_iload hx hb dX13_plan_145 (lv_at hl 7 rfl) ?_
                refine lv_bipush (v := 40) hx hb dX13_plan_147 (by decide) ?_
                refine lv_icmp_ge (tgt := 417) hx hb dX13_plan_149 (by decide) (fun c_51 => ?_) (fun c_51 => ?_)
                · rw [if_pos c_51] at hF
                  exact hK145_417 v1 v2 v3 v4 v5 v6 v7 u _ _ _ (lv_sub hl [0, 1, 2, 3, 4, 5, 6, 7] rfl) hH hF
                · rw [if_neg c_51] at hF
                  refine lv_bipush (v := 40) hx hb dX13_plan_152 (by decide) ?_
                  refine lv_iload hx hb dX13_plan_154 (lv_at hl 6 rfl) ?_
                  refine lv_imul hx hb dX13_plan_156 ?_
                  refine lv_iload hx hb dX13_plan_157 (lv_at hl 7 rfl) ?_
                  refine lv_iadd hx hb dX13_plan_159 ?_
                  obtain ⟨x_52, e_53, hF⟩ := pli_some hF
                  refine gx_ti e_53 ?_
                  refine lv_istore (lv' := [(8, .int x_52), (0, .ref (Q 72)), (1, .int v1), (2, .int v2), (3, .int v3), (4, .int v4), (5, .int v5), (6, .int v6), (7, .int v7)]) hx hb dX13_plan_160 hl (by decide) rfl (fun ls hl => ?_)
                  refine lv_aload_n hx hb dX13_plan_162 rfl (lv_at hl 1 rfl) ?_
                  refine mg_65 hC hH dX13_plan_163 ?_
                  refine lv_iload hx hb dX13_plan_166 (lv_at hl 0 rfl) ?_
                  refine lv_iconst (v := 0) hx hb dX13_plan_168 (by decide) ?_
                  obtain ⟨u_55, g_54, e_56, hF⟩ := pwd_some hF
                  refine ms_65 hC hH e_56 g_54 dX13_plan_169 (fun H locs hH => ?_)
                  refine lv_aload_n hx hb dX13_plan_170 rfl (lv_at hl 1 rfl) ?_
                  refine mg_63 hC hH dX13_plan_171 ?_
                  refine lv_iload hx hb dX13_plan_174 (lv_at hl 0 rfl) ?_
                  refine lv_iconst (v := (-1)) hx hb dX13_plan_176 (by decide) ?_
                  obtain ⟨u_58, g_57, e_59, hF⟩ := pwd_some hF
                  refine ms_63 hC hH e_59 g_57 dX13_plan_177 (fun H locs hH => ?_)
                  refine lv_aload_n hx hb dX13_plan_178 rfl (lv_at hl 1 rfl) ?_
                  refine mg_64 hC hH dX13_plan_179 ?_
                  refine lv_iload hx hb dX13_plan_182 (lv_at hl 0 rfl) ?_
                  refine lv_iconst (v := (-1)) hx hb dX13_plan_184 (by decide) ?_
                  obtain ⟨u_61, g_60, e_62, hF⟩ := pwd_some hF
                  refine ms_64 hC hH e_62 g_60 dX13_plan_185 (fun H locs hH => ?_)
                  refine lv_iload hx hb dX13_plan_186 (lv_at hl 8 rfl) ?_
                  refine lv_aload_n hx hb dX13_plan_188 rfl (lv_at hl 1 rfl) ?_
                  refine lv_iload hx hb dX13_plan_189 (lv_at hl 7 rfl) ?_
                  obtain ⟨r_63, u_64, h_65, hF⟩ := pcl_some hF
                  refine mcV_i (As := [.int v6]) (rest := [.int v7]) hC hH (m_fights l G Z Q u_61 u_64 r_63 v6 _ h_65) kwX13_fights kVX13_fights ⟨Nat.le_of_ble_eq_true rfl, Nat.le_of_ble_eq_true rfl⟩ rfl hl.1 rfl (Nat.le_of_ble_eq_true rfl) dX13_plan_191 (fun H locs hH => ?_)
                  refine lv_icmp_ge (tgt := 411) hx hb dX13_plan_194 (by decide) (fun c_66 => ?_) (fun c_66 => ?_)
                  · rw [if_pos c_66] at hF
                    obtain ⟨x_67, e_68, hF⟩ := pli_some hF
                    refine lv_iinc (v := x_67) (lv' := [(7, .int x_67), (8, .int x_52), (0, .ref (Q 72)), (1, .int v1), (2, .int v2), (3, .int v3), (4, .int v4), (5, .int v5), (6, .int v6)]) hx hb dX13_plan_411 hl (k := 8) rfl e_68 (by decide) rfl (fun ls hl => ?_)
                    refine lv_goto (tgt := 145) hx hb dX13_plan_414 (by decide) ?_
                    exact ih145 v1 v2 v3 v4 v5 v6 x_67 u_64 _ _ _ (lv_sub hl [2, 3, 4, 5, 6, 7, 8, 0] rfl) hH hF
                  · rw [if_neg c_66] at hF
                    refine lv_aload_n hx hb dX13_plan_197 rfl (lv_at hl 1 rfl) ?_
                    refine mg_15 hC hH dX13_plan_198 ?_
                    refine lv_iload hx hb dX13_plan_201 (lv_at hl 0 rfl) ?_
                    obtain ⟨x_69, g_70, e_71, hF⟩ := prd_some hF
                    refine ml_15 hC hH g_70 dX13_plan_203 ?_
                    refine gx_ti e_71 ?_
                    refine lv_iconst (v := 2) hx hb dX13_plan_204 (by decide) ?_
                    refine lv_icmp_eq (tgt := 411) hx hb dX13_plan_205 (by decide) (fun c_72 => ?_) (fun c_72 => ?_)
                    · rw [if_pos c_72] at hF
                      obtain ⟨x_73, e_74, hF⟩ := pli_some hF
                      refine lv_iinc (v := x_73) (lv' := [(7, .int x_73), (8, .int x_52), (0, .ref (Q 72)), (1, .int v1), (2, .int v2), (3, .int v3), (4, .int v4), (5, .int v5), (6, .int v6)]) hx hb dX13_plan_411 hl (k := 8) rfl e_74 (by decide) rfl (fun ls hl => ?_)
                      refine lv_goto (tgt := 145) hx hb dX13_plan_414 (by decide) ?_
                      exact ih145 v1 v2 v3 v4 v5 v6 x_73 u_64 _ _ _ (lv_sub hl [2, 3, 4, 5, 6, 7, 8, 0] rfl) hH hF
                    · rw [if_neg c_72] at hF
                      refine lv_aload_n hx hb dX13_plan_208 rfl (lv_at hl 1 rfl) ?_
                      refine lv_iload hx hb dX13_plan_209 (lv_at hl 7 rfl) ?_
                      refine lv_iload hx hb dX13_plan_211 (lv_at hl 8 rfl) ?_
                      obtain ⟨r_75, u_76, h_77, hF⟩ := pcl_some hF
                      refine mcV_i (As := [.int v6, .int v7]) (rest := []) hC hH (m_isWalk l G Z Q u_64 u_76 r_75 v6 v7 _ h_77) kwX13_isWalk kVX13_isWalk ⟨Nat.le_of_ble_eq_true rfl, Nat.le_of_ble_eq_true rfl⟩ rfl hl.1 rfl (Nat.le_of_ble_eq_true rfl) dX13_plan_213 (fun H locs hH => ?_)
                      refine lv_if_eq (tgt := 222) hx hb dX13_plan_216 (by decide) (fun c_78 => ?_) (fun c_78 => ?_)
                      · rw [if_pos c_78] at hF
                        refine lv_aload_n hx hb dX13_plan_222 rfl (lv_at hl 1 rfl) ?_
                        refine mg_67 hC hH dX13_plan_223 ?_
                        refine lv_iload hx hb dX13_plan_226 (lv_at hl 0 rfl) ?_
                        refine lv_iconst (v := (-1)) hx hb dX13_plan_228 (by decide) ?_
                        refine lv_aload_n hx hb dX13_plan_229 rfl (lv_at hl 1 rfl) ?_
                        refine lv_iload hx hb dX13_plan_230 (lv_at hl 7 rfl) ?_
                        refine lv_iload hx hb dX13_plan_232 (lv_at hl 8 rfl) ?_
                        refine lv_iconst (v := 0) hx hb dX13_plan_234 (by decide) ?_
                        obtain ⟨r_79, u_80, h_81, hF⟩ := pcl_some hF
                        refine mcV_i (As := [.int v6, .int v7, .int 0]) (rest := [.int (-1), .int x_52, .ref (Q 67)]) hC hH (m_sideOf l G Z Q u_76 u_80 r_79 v6 v7 0 _ h_81) kwX13_sideOf kVX13_sideOf ⟨Nat.le_of_ble_eq_true rfl, Nat.le_of_ble_eq_true rfl⟩ rfl hl.1 rfl (Nat.le_of_ble_eq_true rfl) dX13_plan_235 (fun H locs hH => ?_)
                        refine va_mmax hx hb (hC.2.2.1.trans hl.1.symm) hC.2.2.2.1 (hC.2.2.2.2.1 _ wma152) (hC.2.2.2.2.1 _ wma376) (hC.2.2.2.2.1 _ wma378) (hC.2.2.2.2.1 _ wma379) (Nat.le_of_ble_eq_true rfl) (Nat.le_of_ble_eq_true rfl) (Nat.le_of_ble_eq_true rfl) (Nat.le_of_ble_eq_true rfl) dX13_plan_238 ?_
                        obtain ⟨u_83, g_82, e_84, hF⟩ := pwd_some hF
                        refine ms_67 hC hH e_84 g_82 dX13_plan_241 (fun H locs hH => ?_)
                        refine lv_aload_n hx hb dX13_plan_242 rfl (lv_at hl 1 rfl) ?_
                        refine mg_68 hC hH dX13_plan_243 ?_
                        refine lv_iload hx hb dX13_plan_246 (lv_at hl 0 rfl) ?_
                        refine lv_iconst (v := (-1)) hx hb dX13_plan_248 (by decide) ?_
                        refine lv_aload_n hx hb dX13_plan_249 rfl (lv_at hl 1 rfl) ?_
                        refine lv_iload hx hb dX13_plan_250 (lv_at hl 7 rfl) ?_
                        refine lv_iload hx hb dX13_plan_252 (lv_at hl 8 rfl) ?_
                        refine lv_iconst (v := 1) hx hb dX13_plan_254 (by decide) ?_
                        obtain ⟨r_85, u_86, h_87, hF⟩ := pcl_some hF
                        refine mcV_i (As := [.int v6, .int v7, .int 1]) (rest := [.int (-1), .int x_52, .ref (Q 68)]) hC hH (m_sideOf l G Z Q u_83 u_86 r_85 v6 v7 1 _ h_87) kwX13_sideOf kVX13_sideOf ⟨Nat.le_of_ble_eq_true rfl, Nat.le_of_ble_eq_true rfl⟩ rfl hl.1 rfl (Nat.le_of_ble_eq_true rfl) dX13_plan_255 (fun H locs hH => ?_)
                        refine va_mmax hx hb (hC.2.2.1.trans hl.1.symm) hC.2.2.2.1 (hC.2.2.2.2.1 _ wma152) (hC.2.2.2.2.1 _ wma376) (hC.2.2.2.2.1 _ wma378) (hC.2.2.2.2.1 _ wma379) (Nat.le_of_ble_eq_true rfl) (Nat.le_of_ble_eq_true rfl) (Nat.le_of_ble_eq_true rfl) (Nat.le_of_ble_eq_true rfl) dX13_plan_258 ?_
                        obtain ⟨u_89, g_88, e_90, hF⟩ := pwd_some hF
                        refine ms_68 hC hH e_90 g_88 dX13_plan_261 (fun H locs hH => ?_)
                        refine lv_aload_n hx hb dX13_plan_262 rfl (lv_at hl 1 rfl) ?_
                        refine mg_15 hC hH dX13_plan_263 ?_
                        refine lv_iload hx hb dX13_plan_266 (lv_at hl 0 rfl) ?_
                        obtain ⟨x_91, g_92, e_93, hF⟩ := prd_some hF
                        refine ml_15 hC hH g_92 dX13_plan_268 ?_
                        refine gx_ti e_93 ?_
                        refine lv_iconst (v := 1) hx hb dX13_plan_269 (by decide) ?_
                        refine lv_icmp_ne (tgt := 335) hx hb dX13_plan_270 (by decide) (fun c_94 => ?_) (fun c_94 => ?_)
                        · rw [if_neg c_94] at hF
                          refine lv_aload_n hx hb dX13_plan_335 rfl (lv_at hl 1 rfl) ?_
                          refine mg_65 hC hH dX13_plan_336 ?_
                          refine lv_iload hx hb dX13_plan_339 (lv_at hl 0 rfl) ?_
                          refine lv_iconst (v := 1) hx hb dX13_plan_341 (by decide) ?_
                          obtain ⟨u_96, g_95, e_97, hF⟩ := pwd_some hF
                          refine ms_65 hC hH e_97 g_95 dX13_plan_342 (fun H locs hH => ?_)
                          obtain ⟨x_98, e_99, hF⟩ := pli_some hF
                          refine lv_iinc (v := x_98) (lv' := [(3, .int x_98), (8, .int x_52), (0, .ref (Q 72)), (1, .int v1), (2, .int v2), (4, .int v4), (5, .int v5), (6, .int v6), (7, .int v7)]) hx hb dX13_plan_343 hl (k := 4) rfl e_99 (by decide) rfl (fun ls hl => ?_)
                          refine lv_iload hx hb dX13_plan_346 (lv_at hl 6 rfl) ?_
                          refine lv_istore (lv' := [(9, .int v5), (3, .int x_98), (8, .int x_52), (0, .ref (Q 72)), (1, .int v1), (2, .int v2), (4, .int v4), (5, .int v5), (6, .int v6), (7, .int v7)]) hx hb dX13_plan_348 hl (by decide) rfl (fun ls hl => ?_)
                          have hL350 : ∀ (K350_399 : Int32 → Int32 → Int32 → Int32 → Int32 → Int32 → Int32 → Int32 → Int32 → PG (Int32)), (∀ (v1 v2 v3 v4 v5 v6 v7 v8 v9 : Int32) (u : GS) (H : Heap) (locs : List Loc) (ls : Array Slot), lv_has ls 10 [(0, .ref (Q 72)), (1, .int v1), (2, .int v2), (3, .int v3), (4, .int v4), (5, .int v5), (6, .int v6), (7, .int v7), (8, .int v8), (9, .int v9)] → mH G Q u.1 s H locs → K350_399 v1 v2 v3 v4 v5 v6 v7 v8 v9 u = some ((r, u1)) → W p l e (headSpec (Cond.code yX13_plan cX13_plan 10 (some .int) :: wM) { frames := 310, cells := 0, slots := 0, locals := 3810 }).room s m [.ref (Q 72), .int a0, .int a1].toArray below meth c H locs 0 0 (MQ below (mQi G Q u1.1 r s.heap.size) [.ref (Q 72), .int a0, .int a1].toArray s 0 0 (mA Q s.heap.size)) (F0 m 399 ls [])) → ∀ (n350 : Nat) (v1 v2 v3 v4 v5 v6 v7 v8 v9 : Int32) (u : GS) (H : Heap) (locs : List Loc) (ls : Array Slot), lv_has ls 10 [(0, .ref (Q 72)), (1, .int v1), (2, .int v2), (3, .int v3), (4, .int v4), (5, .int v5), (6, .int v6), (7, .int v7), (8, .int v8), (9, .int v9)] → mH G Q u.1 s H locs → lp_plan_350 n350 v1 v2 v3 v4 v5 v6 v7 v8 v9 K350_399 u = some ((r, u1)) → W p l e (headSpec (Cond.code yX13_plan cX13_plan 10 (some .int) :: wM) { frames := 310, cells := 0, slots := 0, locals := 3810 }).room s m [.ref (Q 72), .int a0, .int a1].toArray below meth c H locs 0 0 (MQ below (mQi G Q u1.1 r s.heap.size) [.ref (Q 72), .int a0, .int a1].toArray s 0 0 (mA Q s.heap.size)) (F0 m 350 ls []) := by
                            intro K350_399 hK350_399 n350
                            induction n350 with
                            | zero => intro v1 v2 v3 v4 v5 v6 v7 v8 v9 u H locs ls hl hH hF; cases hF
                            | succ n350 ih350 =>
                              intro v1 v2 v3 v4 v5 v6 v7 v8 v9 u H locs ls hl hH hF
                              unfold lp_plan_350 at hF
                              refine lv_iload hx hb dX13_plan_350 (lv_at hl 9 rfl) ?_
                              refine lv_if_le (tgt := 399) hx hb dX13_plan_352 (by decide) (fun c_100 => ?_) (fun c_100 => ?_)
                              · rw [if_pos c_100] at hF
                                exact hK350_399 v1 v2 v3 v4 v5 v6 v7 v8 v9 u _ _ _ (lv_sub hl [0, 1, 2, 3, 4, 5, 6, 7, 8, 9] rfl) hH hF
                              · rw [if_neg c_100] at hF
                                refine lv_aload_n hx hb dX13_plan_355 rfl (lv_at hl 0 rfl) ?_
                                refine lv_aload_n hx hb dX13_plan_356 rfl (lv_at hl 0 rfl) ?_
                                refine mg_66 hC hH dX13_plan_357 ?_
                                refine lv_iload hx hb dX13_plan_360 (lv_at hl 9 rfl) ?_
                                refine lv_iconst (v := 1) hx hb dX13_plan_362 (by decide) ?_
                                refine lv_isub hx hb dX13_plan_363 ?_
                                obtain ⟨x_101, g_102, e_103, hF⟩ := prd_some hF
                                refine ml_66 hC hH g_102 dX13_plan_364 ?_
                                refine gx_ti e_103 ?_
                                obtain ⟨r_104, u_105, h_106, hF⟩ := pcl_some hF
                                refine mcV_i (As := [.int x_101]) (rest := []) hC hH (m_stage l G Z Q u u_105 r_104 x_101 _ h_106) kwX13_stage kVX13_stage ⟨Nat.le_of_ble_eq_true rfl, Nat.le_of_ble_eq_true rfl⟩ rfl hl.1 rfl (Nat.le_of_ble_eq_true rfl) dX13_plan_365 (fun H locs hH => ?_)
                                refine lv_aload_n hx hb dX13_plan_368 rfl (lv_at hl 0 rfl) ?_
                                refine lv_iload hx hb dX13_plan_369 (lv_at hl 8 rfl) ?_
                                obtain ⟨r_107, u_108, h_109, hF⟩ := pcl_some hF
                                refine mcV_i (As := [.int v8]) (rest := [.int r_104]) hC hH (m_stage l G Z Q u_105 u_108 r_107 v8 _ h_109) kwX13_stage kVX13_stage ⟨Nat.le_of_ble_eq_true rfl, Nat.le_of_ble_eq_true rfl⟩ rfl hl.1 rfl (Nat.le_of_ble_eq_true rfl) dX13_plan_371 (fun H locs hH => ?_)
                                refine lv_icmp_le (tgt := 399) hx hb dX13_plan_374 (by decide) (fun c_110 => ?_) (fun c_110 => ?_)
                                · rw [if_pos c_110] at hF
                                  exact hK350_399 v1 v2 v3 v4 v5 v6 v7 v8 v9 u_108 _ _ _ (lv_sub hl [0, 1, 2, 3, 4, 5, 6, 7, 8, 9] rfl) hH hF
                                · rw [if_neg c_110] at hF
                                  refine lv_aload_n hx hb dX13_plan_377 rfl (lv_at hl 0 rfl) ?_
                                  refine mg_66 hC hH dX13_plan_378 ?_
                                  refine lv_iload hx hb dX13_plan_381 (lv_at hl 9 rfl) ?_
                                  refine lv_aload_n hx hb dX13_plan_383 rfl (lv_at hl 0 rfl) ?_
                                  refine mg_66 hC hH dX13_plan_384 ?_
                                  refine lv_iload hx hb dX13_plan_387 (lv_at hl 9 rfl) ?_
                                  refine lv_iconst (v := 1) hx hb dX13_plan_389 (by decide) ?_
                                  refine lv_isub hx hb dX13_plan_390 ?_
                                  obtain ⟨x_111, g_112, e_113, hF⟩ := prd_some hF
                                  refine ml_66 hC hH g_112 dX13_plan_391 ?_
                                  refine gx_ti e_113 ?_
                                  obtain ⟨u_115, g_114, e_116, hF⟩ := pwd_some hF
                                  refine ms_66 hC hH e_116 g_114 dX13_plan_392 (fun H locs hH => ?_)
                                  obtain ⟨x_117, e_118, hF⟩ := pli_some hF
                                  refine lv_iinc (v := x_117) (lv' := [(9, .int x_117), (0, .ref (Q 72)), (1, .int v1), (2, .int v2), (3, .int v3), (4, .int v4), (5, .int v5), (6, .int v6), (7, .int v7), (8, .int v8)]) hx hb dX13_plan_393 hl (k := 9) rfl e_118 (by decide) rfl (fun ls hl => ?_)
                                  refine lv_goto (tgt := 350) hx hb dX13_plan_396 (by decide) ?_
                                  exact ih350 v1 v2 v3 v4 v5 v6 v7 v8 x_117 u_115 _ _ _ (lv_sub hl [1, 2, 3, 4, 5, 6, 7, 8, 9, 0] rfl) hH hF
                          refine hL350 _ (fun v1 v2 v3 v4 v5 v6 v7 v8 v9 u H locs ls hl hH hF => ?_) fuel v1 v2 x_98 v4 v5 v6 v7 x_52 v5 u_96 _ _ _ (lv_sub hl [3, 4, 5, 1, 6, 7, 8, 9, 2, 0] rfl) hH hF
                          refine lv_aload_n hx hb dX13_plan_399 rfl (lv_at hl 0 rfl) ?_
                          refine mg_66 hC hH dX13_plan_400 ?_
                          refine lv_iload hx hb dX13_plan_403 (lv_at hl 9 rfl) ?_
                          refine lv_iload hx hb dX13_plan_405 (lv_at hl 8 rfl) ?_
                          obtain ⟨u_120, g_119, e_121, hF⟩ := pwd_some hF
                          refine ms_66 hC hH e_121 g_119 dX13_plan_407 (fun H locs hH => ?_)
                          obtain ⟨x_122, e_123, hF⟩ := pli_some hF
                          refine lv_iinc (v := x_122) (lv' := [(5, .int x_122), (0, .ref (Q 72)), (1, .int v1), (2, .int v2), (3, .int v3), (4, .int v4), (6, .int v6), (7, .int v7), (8, .int v8), (9, .int v9)]) hx hb dX13_plan_408 hl (k := 5) rfl e_123 (by decide) rfl (fun ls hl => ?_)
                          obtain ⟨x_124, e_125, hF⟩ := pli_some hF
                          refine lv_iinc (v := x_124) (lv' := [(7, .int x_124), (5, .int x_122), (0, .ref (Q 72)), (1, .int v1), (2, .int v2), (3, .int v3), (4, .int v4), (6, .int v6), (8, .int v8), (9, .int v9)]) hx hb dX13_plan_411 hl (k := 7) rfl e_125 (by decide) rfl (fun ls hl => ?_)
                          refine lv_goto (tgt := 145) hx hb dX13_plan_414 (by decide) ?_
                          exact ih145 v1 v2 v3 v4 x_122 v6 x_124 u_120 _ _ _ (lv_sub hl [2, 3, 4, 5, 6, 1, 7, 0] rfl) hH hF
                        · rw [if_pos c_94] at hF
                          refine lv_aload_n hx hb dX13_plan_273 rfl (lv_at hl 1 rfl) ?_
                          refine mg_65 hC hH dX13_plan_274 ?_
                          refine lv_iload hx hb dX13_plan_277 (lv_at hl 0 rfl) ?_
                          refine lv_iconst (v := 2) hx hb dX13_plan_279 (by decide) ?_
                          obtain ⟨u_127, g_126, e_128, hF⟩ := pwd_some hF
                          refine ms_65 hC hH e_128 g_126 dX13_plan_280 (fun H locs hH => ?_)
                          refine lv_aload_n hx hb dX13_plan_281 rfl (lv_at hl 1 rfl) ?_
                          refine mg_63 hC hH dX13_plan_282 ?_
                          refine lv_iload hx hb dX13_plan_285 (lv_at hl 0 rfl) ?_
                          refine lv_aload_n hx hb dX13_plan_287 rfl (lv_at hl 1 rfl) ?_
                          refine lv_iload hx hb dX13_plan_288 (lv_at hl 7 rfl) ?_
                          refine lv_iload hx hb dX13_plan_290 (lv_at hl 8 rfl) ?_
                          obtain ⟨r_129, u_130, h_131, hF⟩ := pcl_some hF
                          refine mcV_i (As := [.int v6, .int v7]) (rest := [.int x_52, .ref (Q 63)]) hC hH (m_matOf l G Z Q u_127 u_130 r_129 v6 v7 _ h_131) kwX13_matOf kVX13_matOf ⟨Nat.le_of_ble_eq_true rfl, Nat.le_of_ble_eq_true rfl⟩ rfl hl.1 rfl (Nat.le_of_ble_eq_true rfl) dX13_plan_292 (fun H locs hH => ?_)
                          obtain ⟨u_133, g_132, e_134, hF⟩ := pwd_some hF
                          refine ms_63 hC hH e_134 g_132 dX13_plan_295 (fun H locs hH => ?_)
                          refine lv_aload_n hx hb dX13_plan_296 rfl (lv_at hl 1 rfl) ?_
                          refine mg_64 hC hH dX13_plan_297 ?_
                          refine lv_iload hx hb dX13_plan_300 (lv_at hl 0 rfl) ?_
                          refine lv_aload_n hx hb dX13_plan_302 rfl (lv_at hl 1 rfl) ?_
                          refine mg_3 hC hH dX13_plan_303 ?_
                          obtain ⟨x_135, e_136, hF⟩ := prf_some hF
                          refine gx_ti e_136 ?_
                          obtain ⟨u_138, g_137, e_139, hF⟩ := pwd_some hF
                          refine ms_64 hC hH e_139 g_137 dX13_plan_306 (fun H locs hH => ?_)
                          refine lv_iload hx hb dX13_plan_307 (lv_at hl 5 rfl) ?_
                          refine lv_aload_n hx hb dX13_plan_309 rfl (lv_at hl 1 rfl) ?_
                          refine mg_3 hC hH dX13_plan_310 ?_
                          obtain ⟨x_140, e_141, hF⟩ := prf_some hF
                          refine gx_ti e_141 ?_
                          refine lv_iload_n hx hb dX13_plan_313 rfl (lv_at hl 3 rfl) ?_
                          refine lv_iadd hx hb dX13_plan_314 ?_
                          refine va_mmax hx hb (hC.2.2.1.trans hl.1.symm) hC.2.2.2.1 (hC.2.2.2.2.1 _ wma152) (hC.2.2.2.2.1 _ wma376) (hC.2.2.2.2.1 _ wma378) (hC.2.2.2.2.1 _ wma379) (Nat.le_of_ble_eq_true rfl) (Nat.le_of_ble_eq_true rfl) (Nat.le_of_ble_eq_true rfl) (Nat.le_of_ble_eq_true rfl) dX13_plan_315 ?_
                          obtain ⟨x_142, e_143, hF⟩ := pli_some hF
                          refine gx_ti e_143 ?_
                          refine lv_istore (lv' := [(4, .int x_142), (8, .int x_52), (0, .ref (Q 72)), (1, .int v1), (2, .int v2), (3, .int v3), (5, .int v5), (6, .int v6), (7, .int v7)]) hx hb dX13_plan_318 hl (by decide) rfl (fun ls hl => ?_)
                          refine lv_aload_n hx hb dX13_plan_320 rfl (lv_at hl 2 rfl) ?_
                          refine lv_iload hx hb dX13_plan_321 (lv_at hl 1 rfl) ?_
                          refine lv_aload_n hx hb dX13_plan_323 rfl (lv_at hl 2 rfl) ?_
                          refine mg_3 hC hH dX13_plan_324 ?_
                          obtain ⟨x_144, e_145, hF⟩ := prf_some hF
                          refine gx_ti e_145 ?_
                          refine lv_iload_n hx hb dX13_plan_327 rfl (lv_at hl 4 rfl) ?_
                          refine lv_iadd hx hb dX13_plan_328 ?_
                          obtain ⟨r_146, u_147, h_148, hF⟩ := pcl_some hF
                          refine mcV_v (As := [.int x_52, .int (x_144 + v2)]) (rest := []) hC hH (m_tires l G Z Q u_138 u_147 r_146 x_52 (x_144 + v2) _ h_148) kwX13_tires kVX13_tires ⟨Nat.le_of_ble_eq_true rfl, Nat.le_of_ble_eq_true rfl⟩ rfl hl.1 rfl (Nat.le_of_ble_eq_true rfl) dX13_plan_329 (fun H locs hH => ?_)
                          refine lv_goto (tgt := 411) hx hb dX13_plan_332 (by decide) ?_
                          obtain ⟨x_149, e_150, hF⟩ := pli_some hF
                          refine lv_iinc (v := x_149) (lv' := [(7, .int x_149), (4, .int x_142), (8, .int x_52), (0, .ref (Q 72)), (1, .int v1), (2, .int v2), (3, .int v3), (5, .int v5), (6, .int v6)]) hx hb dX13_plan_411 hl (k := 8) rfl e_150 (by decide) rfl (fun ls hl => ?_)
                          refine lv_goto (tgt := 145) hx hb dX13_plan_414 (by decide) ?_
                          exact ih145 v1 v2 v3 x_142 v5 v6 x_149 u_147 _ _ _ (lv_sub hl [3, 4, 5, 6, 1, 7, 8, 0] rfl) hH hF
                      · rw [if_neg c_78] at hF
                        refine lv_goto (tgt := 411) hx hb dX13_plan_219 (by decide) ?_
                        obtain ⟨x_151, e_152, hF⟩ := pli_some hF
                        refine lv_iinc (v := x_151) (lv' := [(7, .int x_151), (8, .int x_52), (0, .ref (Q 72)), (1, .int v1), (2, .int v2), (3, .int v3), (4, .int v4), (5, .int v5), (6, .int v6)]) hx hb dX13_plan_411 hl (k := 8) rfl e_152 (by decide) rfl (fun ls hl => ?_)
                        refine lv_goto (tgt := 145) hx hb dX13_plan_414 (by decide) ?_
                        exact ih145 v1 v2 v3 v4 v5 v6 x_151 u_76 _ _ _ (lv_sub hl [2, 3, 4, 5, 6, 7, 8, 0] rfl) hH hF
            refine hL145 _ (fun v1 v2 v3 v4 v5 v6 v7 u H locs ls hl hH hF => ?_) fuel v1 v2 v3 v4 v5 v6 0 u _ _ _ (lv_sub hl [1, 2, 3, 4, 5, 6, 7, 0] rfl) hH hF
            obtain ⟨x_153, e_154, hF⟩ := pli_some hF
            refine lv_iinc (v := x_153) (lv' := [(6, .int x_153), (0, .ref (Q 72)), (1, .int v1), (2, .int v2), (3, .int v3), (4, .int v4), (5, .int v5), (7, .int v7)]) hx hb dX13_plan_417 hl (k := 6) rfl e_154 (by decide) rfl (fun ls hl => ?_)
            refine lv_goto (tgt := 136) hx hb dX13_plan_420 (by decide) ?_
            exact ih136 v1 v2 v3 v4 v5 x_153 u _ _ _ (lv_sub hl [1, 2, 3, 4, 5, 6, 0] rfl) hH hF
      refine hL136 _ (fun v1 v2 v3 v4 v5 v6 u H locs ls hl hH hF => ?_) fuel v1 v2 v3 v4 v5 0 u _ _ _ (lv_sub hl [1, 2, 3, 4, 5, 6, 0] rfl) hH hF
      refine lv_aload_n hx hb dX13_plan_423 rfl (lv_at hl 0 rfl) ?_
      refine mg_3 hC hH dX13_plan_424 ?_
      obtain ⟨x_155, e_156, hF⟩ := prf_some hF
      refine gx_ti e_156 ?_
      refine lv_istore (lv' := [(6, .int x_155), (0, .ref (Q 72)), (1, .int v1), (2, .int v2), (3, .int v3), (4, .int v4), (5, .int v5)]) hx hb dX13_plan_427 hl (by decide) rfl (fun ls hl => ?_)
      have hL429 : ∀ (K429_628 : Int32 → Int32 → Int32 → Int32 → Int32 → Int32 → PG (Int32)), (∀ (v1 v2 v3 v4 v5 v6 : Int32) (u : GS) (H : Heap) (locs : List Loc) (ls : Array Slot), lv_has ls 10 [(0, .ref (Q 72)), (1, .int v1), (2, .int v2), (3, .int v3), (4, .int v4), (5, .int v5), (6, .int v6)] → mH G Q u.1 s H locs → K429_628 v1 v2 v3 v4 v5 v6 u = some ((r, u1)) → W p l e (headSpec (Cond.code yX13_plan cX13_plan 10 (some .int) :: wM) { frames := 310, cells := 0, slots := 0, locals := 3810 }).room s m [.ref (Q 72), .int a0, .int a1].toArray below meth c H locs 0 0 (MQ below (mQi G Q u1.1 r s.heap.size) [.ref (Q 72), .int a0, .int a1].toArray s 0 0 (mA Q s.heap.size)) (F0 m 628 ls [])) → ∀ (n429 : Nat) (v1 v2 v3 v4 v5 v6 : Int32) (u : GS) (H : Heap) (locs : List Loc) (ls : Array Slot), lv_has ls 10 [(0, .ref (Q 72)), (1, .int v1), (2, .int v2), (3, .int v3), (4, .int v4), (5, .int v5), (6, .int v6)] → mH G Q u.1 s H locs → lp_plan_429 n429 v1 v2 v3 v4 v5 v6 K429_628 u = some ((r, u1)) → W p l e (headSpec (Cond.code yX13_plan cX13_plan 10 (some .int) :: wM) { frames := 310, cells := 0, slots := 0, locals := 3810 }).room s m [.ref (Q 72), .int a0, .int a1].toArray below meth c H locs 0 0 (MQ below (mQi G Q u1.1 r s.heap.size) [.ref (Q 72), .int a0, .int a1].toArray s 0 0 (mA Q s.heap.size)) (F0 m 429 ls []) := by
        intro K429_628 hK429_628 n429
        induction n429 with
        | zero => intro v1 v2 v3 v4 v5 v6 u H locs ls hl hH hF; cases hF
        | succ n429 ih429 =>
          intro v1 v2 v3 v4 v5 v6 u H locs ls hl hH hF
          unfold lp_plan_429 at hF
          refine lv_iload_n hx hb dX13_plan_429 rfl (lv_at hl 3 rfl) ?_
          refine lv_if_le (tgt := 628) hx hb dX13_plan_430 (by decide) (fun c_157 => ?_) (fun c_157 => ?_)
          · rw [if_pos c_157] at hF
            exact hK429_628 v1 v2 v3 v4 v5 v6 u _ _ _ (lv_sub hl [0, 1, 2, 3, 4, 5, 6] rfl) hH hF
          · rw [if_neg c_157] at hF
            refine lv_iconst (v := 0) hx hb dX13_plan_433 (by decide) ?_
            refine lv_istore (lv' := [(7, .int 0), (0, .ref (Q 72)), (1, .int v1), (2, .int v2), (3, .int v3), (4, .int v4), (5, .int v5), (6, .int v6)]) hx hb dX13_plan_434 hl (by decide) rfl (fun ls hl => ?_)
            have hL436 : ∀ (K436_604 : Int32 → Int32 → Int32 → Int32 → Int32 → Int32 → Int32 → PG (Int32)), (∀ (v1 v2 v3 v4 v5 v6 v7 : Int32) (u : GS) (H : Heap) (locs : List Loc) (ls : Array Slot), lv_has ls 10 [(0, .ref (Q 72)), (1, .int v1), (2, .int v2), (3, .int v3), (4, .int v4), (5, .int v5), (6, .int v6), (7, .int v7)] → mH G Q u.1 s H locs → K436_604 v1 v2 v3 v4 v5 v6 v7 u = some ((r, u1)) → W p l e (headSpec (Cond.code yX13_plan cX13_plan 10 (some .int) :: wM) { frames := 310, cells := 0, slots := 0, locals := 3810 }).room s m [.ref (Q 72), .int a0, .int a1].toArray below meth c H locs 0 0 (MQ below (mQi G Q u1.1 r s.heap.size) [.ref (Q 72), .int a0, .int a1].toArray s 0 0 (mA Q s.heap.size)) (F0 m 604 ls [])) → ∀ (n436 : Nat) (v1 v2 v3 v4 v5 v6 v7 : Int32) (u : GS) (H : Heap) (locs : List Loc) (ls : Array Slot), lv_has ls 10 [(0, .ref (Q 72)), (1, .int v1), (2, .int v2), (3, .int v3), (4, .int v4), (5, .int v5), (6, .int v6), (7, .int v7)] → mH G Q u.1 s H locs → lp_plan_436 n436 v1 v2 v3 v4 v5 v6 v7 K436_604 u = some ((r, u1)) → W p l e (headSpec (Cond.code yX13_plan cX13_plan 10 (some .int) :: wM) { frames := 310, cells := 0, slots := 0, locals := 3810 }).room s m [.ref (Q 72), .int a0, .int a1].toArray below meth c H locs 0 0 (MQ below (mQi G Q u1.1 r s.heap.size) [.ref (Q 72), .int a0, .int a1].toArray s 0 0 (mA Q s.heap.size)) (F0 m 436 ls []) := by
              intro K436_604 hK436_604 n436
              induction n436 with
              | zero => intro v1 v2 v3 v4 v5 v6 v7 u H locs ls hl hH hF; cases hF
              | succ n436 ih436 =>
                intro v1 v2 v3 v4 v5 v6 v7 u H locs ls hl hH hF
                unfold lp_plan_436 at hF
                refine lv_iload hx hb dX13_plan_436 (lv_at hl 7 rfl) ?_
                refine lv_iload_n hx hb dX13_plan_438 rfl (lv_at hl 1 rfl) ?_
                refine lv_icmp_ge (tgt := 604) hx hb dX13_plan_439 (by decide) (fun c_158 => ?_) (fun c_158 => ?_)
                · rw [if_pos c_158] at hF
                  exact hK436_604 v1 v2 v3 v4 v5 v6 v7 u _ _ _ (lv_sub hl [0, 1, 2, 3, 4, 5, 6, 7] rfl) hH hF
                · rw [if_neg c_158] at hF
                  refine lv_iload_n hx hb dX13_plan_442 rfl (lv_at hl 3 rfl) ?_
                  refine lv_if_le (tgt := 604) hx hb dX13_plan_443 (by decide) (fun c_159 => ?_) (fun c_159 => ?_)
                  · rw [if_pos c_159] at hF
                    exact hK436_604 v1 v2 v3 v4 v5 v6 v7 u _ _ _ (lv_sub hl [0, 1, 2, 3, 4, 5, 6, 7] rfl) hH hF
                  · rw [if_neg c_159] at hF
                    refine lv_aload_n hx hb dX13_plan_446 rfl (lv_at hl 0 rfl) ?_
                    refine mg_71 hC hH dX13_plan_447 ?_
                    refine lv_iload hx hb dX13_plan_450 (lv_at hl 7 rfl) ?_
                    obtain ⟨x_160, g_161, e_162, hF⟩ := prd_some hF
                    refine ml_71 hC hH g_161 dX13_plan_452 ?_
                    refine gx_ti e_162 ?_
                    refine lv_iload hx hb dX13_plan_453 (lv_at hl 6 rfl) ?_
                    refine lv_icmp_le (tgt := 461) hx hb dX13_plan_455 (by decide) (fun c_163 => ?_) (fun c_163 => ?_)
                    · rw [if_pos c_163] at hF
                      refine lv_iconst (v := (-1)) hx hb dX13_plan_461 (by decide) ?_
                      refine lv_istore (lv' := [(8, .int (-1)), (0, .ref (Q 72)), (1, .int v1), (2, .int v2), (3, .int v3), (4, .int v4), (5, .int v5), (6, .int v6), (7, .int v7)]) hx hb dX13_plan_462 hl (by decide) rfl (fun ls hl => ?_)
                      refine lv_iconst (v := 0) hx hb dX13_plan_464 (by decide) ?_
                      refine lv_istore (lv' := [(9, .int 0), (8, .int (-1)), (0, .ref (Q 72)), (1, .int v1), (2, .int v2), (3, .int v3), (4, .int v4), (5, .int v5), (6, .int v6), (7, .int v7)]) hx hb dX13_plan_465 hl (by decide) rfl (fun ls hl => ?_)
                      have hL467 : ∀ (K467_528 : Int32 → Int32 → Int32 → Int32 → Int32 → Int32 → Int32 → Int32 → Int32 → PG (Int32)), (∀ (v1 v2 v3 v4 v5 v6 v7 v8 v9 : Int32) (u : GS) (H : Heap) (locs : List Loc) (ls : Array Slot), lv_has ls 10 [(0, .ref (Q 72)), (1, .int v1), (2, .int v2), (3, .int v3), (4, .int v4), (5, .int v5), (6, .int v6), (7, .int v7), (8, .int v8), (9, .int v9)] → mH G Q u.1 s H locs → K467_528 v1 v2 v3 v4 v5 v6 v7 v8 v9 u = some ((r, u1)) → W p l e (headSpec (Cond.code yX13_plan cX13_plan 10 (some .int) :: wM) { frames := 310, cells := 0, slots := 0, locals := 3810 }).room s m [.ref (Q 72), .int a0, .int a1].toArray below meth c H locs 0 0 (MQ below (mQi G Q u1.1 r s.heap.size) [.ref (Q 72), .int a0, .int a1].toArray s 0 0 (mA Q s.heap.size)) (F0 m 528 ls [])) → ∀ (n467 : Nat) (v1 v2 v3 v4 v5 v6 v7 v8 v9 : Int32) (u : GS) (H : Heap) (locs : List Loc) (ls : Array Slot), lv_has ls 10 [(0, .ref (Q 72)), (1, .int v1), (2, .int v2), (3, .int v3), (4, .int v4), (5, .int v5), (6, .int v6), (7, .int v7), (8, .int v8), (9, .int v9)] → mH G Q u.1 s H locs → lp_plan_467 n467 v1 v2 v3 v4 v5 v6 v7 v8 v9 K467_528 u = some ((r, u1)) → W p l e (headSpec (Cond.code yX13_plan cX13_plan 10 (some .int) :: wM) { frames := 310, cells := 0, slots := 0, locals := 3810 }).room s m [.ref (Q 72), .int a0, .int a1].toArray below meth c H locs 0 0 (MQ below (mQi G Q u1.1 r s.heap.size) [.ref (Q 72), .int a0, .int a1].toArray s 0 0 (mA Q s.heap.size)) (F0 m 467 ls []) := by
                        intro K467_528 hK467_528 n467
                        induction n467 with
                        | zero => intro v1 v2 v3 v4 v5 v6 v7 v8 v9 u H locs ls hl hH hF; cases hF
                        | succ n467 ih467 =>
                          intro v1 v2 v3 v4 v5 v6 v7 v8 v9 u H locs ls hl hH hF
                          unfold lp_plan_467 at hF
                          refine lv_iload hx hb dX13_plan_467 (lv_at hl 9 rfl) ?_
                          refine lv_iload hx hb dX13_plan_469 (lv_at hl 5 rfl) ?_
                          refine lv_icmp_ge (tgt := 528) hx hb dX13_plan_471 (by decide) (fun c_164 => ?_) (fun c_164 => ?_)
                          · rw [if_pos c_164] at hF
                            exact hK467_528 v1 v2 v3 v4 v5 v6 v7 v8 v9 u _ _ _ (lv_sub hl [0, 1, 2, 3, 4, 5, 6, 7, 8, 9] rfl) hH hF
                          · rw [if_neg c_164] at hF
                            refine lv_iload hx hb dX13_plan_474 (lv_at hl 8 rfl) ?_
                            refine lv_iconst (v := (-1)) hx hb dX13_plan_476 (by decide) ?_
                            refine lv_icmp_ne (tgt := 528) hx hb dX13_plan_477 (by decide) (fun c_165 => ?_) (fun c_165 => ?_)
                            · rw [if_neg c_165] at hF
                              exact hK467_528 v1 v2 v3 v4 v5 v6 v7 v8 v9 u _ _ _ (lv_sub hl [0, 1, 2, 3, 4, 5, 6, 7, 8, 9] rfl) hH hF
                            · rw [if_pos c_165] at hF
                              refine lv_aload_n hx hb dX13_plan_480 rfl (lv_at hl 0 rfl) ?_
                              refine mg_65 hC hH dX13_plan_481 ?_
                              refine lv_aload_n hx hb dX13_plan_484 rfl (lv_at hl 0 rfl) ?_
                              refine mg_66 hC hH dX13_plan_485 ?_
                              refine lv_iload hx hb dX13_plan_488 (lv_at hl 9 rfl) ?_
                              obtain ⟨x_166, g_167, e_168, hF⟩ := prd_some hF
                              refine ml_66 hC hH g_167 dX13_plan_490 ?_
                              refine gx_ti e_168 ?_
                              obtain ⟨x_169, g_170, e_171, hF⟩ := prd_some hF
                              refine ml_65 hC hH g_170 dX13_plan_491 ?_
                              refine gx_ti e_171 ?_
                              refine lv_iconst (v := 1) hx hb dX13_plan_492 (by decide) ?_
                              refine lv_icmp_ne (tgt := 522) hx hb dX13_plan_493 (by decide) (fun c_172 => ?_) (fun c_172 => ?_)
                              · rw [if_neg c_172] at hF
                                obtain ⟨x_173, e_174, hF⟩ := pli_some hF
                                refine lv_iinc (v := x_173) (lv' := [(9, .int x_173), (0, .ref (Q 72)), (1, .int v1), (2, .int v2), (3, .int v3), (4, .int v4), (5, .int v5), (6, .int v6), (7, .int v7), (8, .int v8)]) hx hb dX13_plan_522 hl (k := 9) rfl e_174 (by decide) rfl (fun ls hl => ?_)
                                refine lv_goto (tgt := 467) hx hb dX13_plan_525 (by decide) ?_
                                exact ih467 v1 v2 v3 v4 v5 v6 v7 v8 x_173 u _ _ _ (lv_sub hl [1, 2, 3, 4, 5, 6, 7, 8, 9, 0] rfl) hH hF
                              · rw [if_pos c_172] at hF
                                refine lv_aload_n hx hb dX13_plan_496 rfl (lv_at hl 0 rfl) ?_
                                refine lv_aload_n hx hb dX13_plan_497 rfl (lv_at hl 0 rfl) ?_
                                refine mg_66 hC hH dX13_plan_498 ?_
                                refine lv_iload hx hb dX13_plan_501 (lv_at hl 9 rfl) ?_
                                obtain ⟨x_175, g_176, e_177, hF⟩ := prd_some hF
                                refine ml_66 hC hH g_176 dX13_plan_503 ?_
                                refine gx_ti e_177 ?_
                                refine lv_iload hx hb dX13_plan_504 (lv_at hl 6 rfl) ?_
                                refine lv_iload_n hx hb dX13_plan_506 rfl (lv_at hl 2 rfl) ?_
                                obtain ⟨r_178, u_179, h_180, hF⟩ := pcl_some hF
                                refine mcV_i (As := [.int x_175, .int v6, .int v2]) (rest := []) hC hH (m_mayBegin l G Z Q u u_179 r_178 x_175 v6 v2 _ h_180) kwX13_mayBegin kVX13_mayBegin ⟨Nat.le_of_ble_eq_true rfl, Nat.le_of_ble_eq_true rfl⟩ rfl hl.1 rfl (Nat.le_of_ble_eq_true rfl) dX13_plan_507 (fun H locs hH => ?_)
                                refine lv_if_eq (tgt := 522) hx hb dX13_plan_510 (by decide) (fun c_181 => ?_) (fun c_181 => ?_)
                                · rw [if_pos c_181] at hF
                                  obtain ⟨x_182, e_183, hF⟩ := pli_some hF
                                  refine lv_iinc (v := x_182) (lv' := [(9, .int x_182), (0, .ref (Q 72)), (1, .int v1), (2, .int v2), (3, .int v3), (4, .int v4), (5, .int v5), (6, .int v6), (7, .int v7), (8, .int v8)]) hx hb dX13_plan_522 hl (k := 9) rfl e_183 (by decide) rfl (fun ls hl => ?_)
                                  refine lv_goto (tgt := 467) hx hb dX13_plan_525 (by decide) ?_
                                  exact ih467 v1 v2 v3 v4 v5 v6 v7 v8 x_182 u_179 _ _ _ (lv_sub hl [1, 2, 3, 4, 5, 6, 7, 8, 9, 0] rfl) hH hF
                                · rw [if_neg c_181] at hF
                                  refine lv_aload_n hx hb dX13_plan_513 rfl (lv_at hl 0 rfl) ?_
                                  refine mg_66 hC hH dX13_plan_514 ?_
                                  refine lv_iload hx hb dX13_plan_517 (lv_at hl 9 rfl) ?_
                                  obtain ⟨x_184, g_185, e_186, hF⟩ := prd_some hF
                                  refine ml_66 hC hH g_185 dX13_plan_519 ?_
                                  refine gx_ti e_186 ?_
                                  refine lv_istore (lv' := [(8, .int x_184), (0, .ref (Q 72)), (1, .int v1), (2, .int v2), (3, .int v3), (4, .int v4), (5, .int v5), (6, .int v6), (7, .int v7), (9, .int v9)]) hx hb dX13_plan_520 hl (by decide) rfl (fun ls hl => ?_)
                                  obtain ⟨x_187, e_188, hF⟩ := pli_some hF
                                  refine lv_iinc (v := x_187) (lv' := [(9, .int x_187), (8, .int x_184), (0, .ref (Q 72)), (1, .int v1), (2, .int v2), (3, .int v3), (4, .int v4), (5, .int v5), (6, .int v6), (7, .int v7)]) hx hb dX13_plan_522 hl (k := 9) rfl e_188 (by decide) rfl (fun ls hl => ?_)
                                  refine lv_goto (tgt := 467) hx hb dX13_plan_525 (by decide) ?_
                                  exact ih467 v1 v2 v3 v4 v5 v6 v7 x_184 x_187 u_179 _ _ _ (lv_sub hl [2, 3, 4, 5, 6, 7, 8, 9, 1, 0] rfl) hH hF
                      refine hL467 _ (fun v1 v2 v3 v4 v5 v6 v7 v8 v9 u H locs ls hl hH hF => ?_) fuel v1 v2 v3 v4 v5 v6 v7 (-1) 0 u _ _ _ (lv_sub hl [2, 3, 4, 5, 6, 7, 8, 9, 1, 0] rfl) hH hF
                      refine lv_iload hx hb dX13_plan_528 (lv_at hl 8 rfl) ?_
                      refine lv_iconst (v := (-1)) hx hb dX13_plan_530 (by decide) ?_
                      refine lv_icmp_ne (tgt := 537) hx hb dX13_plan_531 (by decide) (fun c_189 => ?_) (fun c_189 => ?_)
                      · rw [if_neg c_189] at hF
                        refine lv_aload_n hx hb dX13_plan_537 rfl (lv_at hl 0 rfl) ?_
                        refine mg_65 hC hH dX13_plan_538 ?_
                        refine lv_iload hx hb dX13_plan_541 (lv_at hl 8 rfl) ?_
                        refine lv_iconst (v := 2) hx hb dX13_plan_543 (by decide) ?_
                        obtain ⟨u_191, g_190, e_192, hF⟩ := pwd_some hF
                        refine ms_65 hC hH e_192 g_190 dX13_plan_544 (fun H locs hH => ?_)
                        refine lv_aload_n hx hb dX13_plan_545 rfl (lv_at hl 0 rfl) ?_
                        refine mg_63 hC hH dX13_plan_546 ?_
                        refine lv_iload hx hb dX13_plan_549 (lv_at hl 8 rfl) ?_
                        refine lv_iload hx hb dX13_plan_551 (lv_at hl 7 rfl) ?_
                        obtain ⟨u_194, g_193, e_195, hF⟩ := pwd_some hF
                        refine ms_63 hC hH e_195 g_193 dX13_plan_553 (fun H locs hH => ?_)
                        refine lv_aload_n hx hb dX13_plan_554 rfl (lv_at hl 0 rfl) ?_
                        refine mg_64 hC hH dX13_plan_555 ?_
                        refine lv_iload hx hb dX13_plan_558 (lv_at hl 8 rfl) ?_
                        refine lv_iload hx hb dX13_plan_560 (lv_at hl 6 rfl) ?_
                        obtain ⟨u_197, g_196, e_198, hF⟩ := pwd_some hF
                        refine ms_64 hC hH e_198 g_196 dX13_plan_562 (fun H locs hH => ?_)
                        refine lv_aload_n hx hb dX13_plan_563 rfl (lv_at hl 0 rfl) ?_
                        refine mg_71 hC hH dX13_plan_564 ?_
                        refine lv_iload hx hb dX13_plan_567 (lv_at hl 7 rfl) ?_
                        refine lv_iload hx hb dX13_plan_569 (lv_at hl 6 rfl) ?_
                        refine lv_iload_n hx hb dX13_plan_571 rfl (lv_at hl 2 rfl) ?_
                        refine lv_iadd hx hb dX13_plan_572 ?_
                        obtain ⟨u_200, g_199, e_201, hF⟩ := pwd_some hF
                        refine ms_71 hC hH e_201 g_199 dX13_plan_573 (fun H locs hH => ?_)
                        refine lv_aload_n hx hb dX13_plan_574 rfl (lv_at hl 0 rfl) ?_
                        refine lv_iload hx hb dX13_plan_575 (lv_at hl 8 rfl) ?_
                        refine lv_iload hx hb dX13_plan_577 (lv_at hl 6 rfl) ?_
                        refine lv_iload_n hx hb dX13_plan_579 rfl (lv_at hl 2 rfl) ?_
                        refine lv_iadd hx hb dX13_plan_580 ?_
                        obtain ⟨r_202, u_203, h_204, hF⟩ := pcl_some hF
                        refine mcV_v (As := [.int v8, .int (v6 + v2)]) (rest := []) hC hH (m_tires l G Z Q u_200 u_203 r_202 v8 (v6 + v2) _ h_204) kwX13_tires kVX13_tires ⟨Nat.le_of_ble_eq_true rfl, Nat.le_of_ble_eq_true rfl⟩ rfl hl.1 rfl (Nat.le_of_ble_eq_true rfl) dX13_plan_581 (fun H locs hH => ?_)
                        obtain ⟨x_205, e_206, hF⟩ := pli_some hF
                        refine lv_iinc (v := x_205) (lv' := [(3, .int x_205), (0, .ref (Q 72)), (1, .int v1), (2, .int v2), (4, .int v4), (5, .int v5), (6, .int v6), (7, .int v7), (8, .int v8), (9, .int v9)]) hx hb dX13_plan_584 hl (k := 3) rfl e_206 (by decide) rfl (fun ls hl => ?_)
                        refine lv_iload hx hb dX13_plan_587 (lv_at hl 4 rfl) ?_
                        refine lv_iload hx hb dX13_plan_589 (lv_at hl 6 rfl) ?_
                        refine lv_iload_n hx hb dX13_plan_591 rfl (lv_at hl 3 rfl) ?_
                        refine lv_iadd hx hb dX13_plan_592 ?_
                        refine va_mmax hx hb (hC.2.2.1.trans hl.1.symm) hC.2.2.2.1 (hC.2.2.2.2.1 _ wma152) (hC.2.2.2.2.1 _ wma376) (hC.2.2.2.2.1 _ wma378) (hC.2.2.2.2.1 _ wma379) (Nat.le_of_ble_eq_true rfl) (Nat.le_of_ble_eq_true rfl) (Nat.le_of_ble_eq_true rfl) (Nat.le_of_ble_eq_true rfl) dX13_plan_593 ?_
                        obtain ⟨x_207, e_208, hF⟩ := pli_some hF
                        refine gx_ti e_208 ?_
                        refine lv_istore (lv' := [(4, .int x_207), (3, .int x_205), (0, .ref (Q 72)), (1, .int v1), (2, .int v2), (5, .int v5), (6, .int v6), (7, .int v7), (8, .int v8), (9, .int v9)]) hx hb dX13_plan_596 hl (by decide) rfl (fun ls hl => ?_)
                        obtain ⟨x_209, e_210, hF⟩ := pli_some hF
                        refine lv_iinc (v := x_209) (lv' := [(7, .int x_209), (4, .int x_207), (3, .int x_205), (0, .ref (Q 72)), (1, .int v1), (2, .int v2), (5, .int v5), (6, .int v6), (8, .int v8), (9, .int v9)]) hx hb dX13_plan_598 hl (k := 7) rfl e_210 (by decide) rfl (fun ls hl => ?_)
                        refine lv_goto (tgt := 436) hx hb dX13_plan_601 (by decide) ?_
                        exact ih436 v1 v2 x_205 x_207 v5 v6 x_209 u_203 _ _ _ (lv_sub hl [3, 4, 5, 2, 1, 6, 7, 0] rfl) hH hF
                      · rw [if_pos c_189] at hF
                        refine lv_goto (tgt := 598) hx hb dX13_plan_534 (by decide) ?_
                        obtain ⟨x_211, e_212, hF⟩ := pli_some hF
                        refine lv_iinc (v := x_211) (lv' := [(7, .int x_211), (0, .ref (Q 72)), (1, .int v1), (2, .int v2), (3, .int v3), (4, .int v4), (5, .int v5), (6, .int v6), (8, .int v8), (9, .int v9)]) hx hb dX13_plan_598 hl (k := 7) rfl e_212 (by decide) rfl (fun ls hl => ?_)
                        refine lv_goto (tgt := 436) hx hb dX13_plan_601 (by decide) ?_
                        exact ih436 v1 v2 v3 v4 v5 v6 x_211 u _ _ _ (lv_sub hl [1, 2, 3, 4, 5, 6, 7, 0] rfl) hH hF
                    · rw [if_neg c_163] at hF
                      refine lv_goto (tgt := 598) hx hb dX13_plan_458 (by decide) ?_
                      obtain ⟨x_213, e_214, hF⟩ := pli_some hF
                      refine lv_iinc (v := x_213) (lv' := [(7, .int x_213), (0, .ref (Q 72)), (1, .int v1), (2, .int v2), (3, .int v3), (4, .int v4), (5, .int v5), (6, .int v6)]) hx hb dX13_plan_598 hl (k := 7) rfl e_214 (by decide) rfl (fun ls hl => ?_)
                      refine lv_goto (tgt := 436) hx hb dX13_plan_601 (by decide) ?_
                      exact ih436 v1 v2 v3 v4 v5 v6 x_213 u _ _ _ (lv_sub hl [1, 2, 3, 4, 5, 6, 7, 0] rfl) hH hF
            refine hL436 _ (fun v1 v2 v3 v4 v5 v6 v7 u H locs ls hl hH hF => ?_) fuel v1 v2 v3 v4 v5 v6 0 u _ _ _ (lv_sub hl [1, 2, 3, 4, 5, 6, 7, 0] rfl) hH hF
            refine lv_iload hx hb dX13_plan_604 (lv_at hl 4 rfl) ?_
            refine lv_ldcw (v := 100000) hx hb hC.2.2.2.1 (hC.2.2.2.2.1 _ wma176) dX13_plan_606 ?_
            refine lv_icmp_gt (tgt := 620) hx hb dX13_plan_609 (by decide) (fun c_215 => ?_) (fun c_215 => ?_)
            · rw [if_pos c_215] at hF
              refine lv_iconst (v := (-1)) hx hb dX13_plan_620 (by decide) ?_
              have hF := prt_eq hF
              exact mr_i hC hH hr hF dX13_plan_621 hlocks
            · rw [if_neg c_215] at hF
              refine lv_iload hx hb dX13_plan_612 (lv_at hl 6 rfl) ?_
              refine lv_ldcw (v := 100000) hx hb hC.2.2.2.1 (hC.2.2.2.2.1 _ wma176) dX13_plan_614 ?_
              refine lv_icmp_le (tgt := 622) hx hb dX13_plan_617 (by decide) (fun c_216 => ?_) (fun c_216 => ?_)
              · rw [if_pos c_216] at hF
                obtain ⟨x_217, e_218, hF⟩ := pli_some hF
                refine lv_iinc (v := x_217) (lv' := [(6, .int x_217), (0, .ref (Q 72)), (1, .int v1), (2, .int v2), (3, .int v3), (4, .int v4), (5, .int v5), (7, .int v7)]) hx hb dX13_plan_622 hl (k := 6) rfl e_218 (by decide) rfl (fun ls hl => ?_)
                refine lv_goto (tgt := 429) hx hb dX13_plan_625 (by decide) ?_
                exact ih429 v1 v2 v3 v4 v5 x_217 u _ _ _ (lv_sub hl [1, 2, 3, 4, 5, 6, 0] rfl) hH hF
              · rw [if_neg c_216] at hF
                refine lv_iconst (v := (-1)) hx hb dX13_plan_620 (by decide) ?_
                have hF := prt_eq hF
                exact mr_i hC hH hr hF dX13_plan_621 hlocks
      refine hL429 _ (fun v1 v2 v3 v4 v5 v6 u H locs ls hl hH hF => ?_) fuel v1 v2 v3 v4 v5 x_155 u _ _ _ (lv_sub hl [1, 2, 3, 4, 5, 6, 0] rfl) hH hF
      refine lv_iconst (v := 0) hx hb dX13_plan_628 (by decide) ?_
      refine lv_istore (lv' := [(7, .int 0), (0, .ref (Q 72)), (1, .int v1), (2, .int v2), (3, .int v3), (4, .int v4), (5, .int v5), (6, .int v6)]) hx hb dX13_plan_629 hl (by decide) rfl (fun ls hl => ?_)
      have hL631 : ∀ (K631_673 : Int32 → Int32 → Int32 → Int32 → Int32 → Int32 → Int32 → PG (Int32)), (∀ (v1 v2 v3 v4 v5 v6 v7 : Int32) (u : GS) (H : Heap) (locs : List Loc) (ls : Array Slot), lv_has ls 10 [(0, .ref (Q 72)), (1, .int v1), (2, .int v2), (3, .int v3), (4, .int v4), (5, .int v5), (6, .int v6), (7, .int v7)] → mH G Q u.1 s H locs → K631_673 v1 v2 v3 v4 v5 v6 v7 u = some ((r, u1)) → W p l e (headSpec (Cond.code yX13_plan cX13_plan 10 (some .int) :: wM) { frames := 310, cells := 0, slots := 0, locals := 3810 }).room s m [.ref (Q 72), .int a0, .int a1].toArray below meth c H locs 0 0 (MQ below (mQi G Q u1.1 r s.heap.size) [.ref (Q 72), .int a0, .int a1].toArray s 0 0 (mA Q s.heap.size)) (F0 m 673 ls [])) → ∀ (n631 : Nat) (v1 v2 v3 v4 v5 v6 v7 : Int32) (u : GS) (H : Heap) (locs : List Loc) (ls : Array Slot), lv_has ls 10 [(0, .ref (Q 72)), (1, .int v1), (2, .int v2), (3, .int v3), (4, .int v4), (5, .int v5), (6, .int v6), (7, .int v7)] → mH G Q u.1 s H locs → lp_plan_631 n631 v1 v2 v3 v4 v5 v6 v7 K631_673 u = some ((r, u1)) → W p l e (headSpec (Cond.code yX13_plan cX13_plan 10 (some .int) :: wM) { frames := 310, cells := 0, slots := 0, locals := 3810 }).room s m [.ref (Q 72), .int a0, .int a1].toArray below meth c H locs 0 0 (MQ below (mQi G Q u1.1 r s.heap.size) [.ref (Q 72), .int a0, .int a1].toArray s 0 0 (mA Q s.heap.size)) (F0 m 631 ls []) := by
        intro K631_673 hK631_673 n631
        induction n631 with
        | zero => intro v1 v2 v3 v4 v5 v6 v7 u H locs ls hl hH hF; cases hF
        | succ n631 ih631 =>
          intro v1 v2 v3 v4 v5 v6 v7 u H locs ls hl hH hF
          unfold lp_plan_631 at hF
          refine lv_iload hx hb dX13_plan_631 (lv_at hl 7 rfl) ?_
          refine lv_sipush (v := 160) hx hb dX13_plan_633 (by decide) ?_
          refine lv_icmp_ge (tgt := 673) hx hb dX13_plan_636 (by decide) (fun c_219 => ?_) (fun c_219 => ?_)
          · rw [if_pos c_219] at hF
            exact hK631_673 v1 v2 v3 v4 v5 v6 v7 u _ _ _ (lv_sub hl [0, 1, 2, 3, 4, 5, 6, 7] rfl) hH hF
          · rw [if_neg c_219] at hF
            refine lv_aload_n hx hb dX13_plan_639 rfl (lv_at hl 0 rfl) ?_
            refine mg_61 hC hH dX13_plan_640 ?_
            refine lv_iload hx hb dX13_plan_643 (lv_at hl 7 rfl) ?_
            refine lv_aload_n hx hb dX13_plan_645 rfl (lv_at hl 0 rfl) ?_
            refine mg_63 hC hH dX13_plan_646 ?_
            refine lv_iload hx hb dX13_plan_649 (lv_at hl 7 rfl) ?_
            obtain ⟨x_220, g_221, e_222, hF⟩ := prd_some hF
            refine ml_63 hC hH g_221 dX13_plan_651 ?_
            refine gx_ti e_222 ?_
            obtain ⟨u_224, g_223, e_225, hF⟩ := pwd_some hF
            refine ms_61 hC hH e_225 g_223 dX13_plan_652 (fun H locs hH => ?_)
            refine lv_aload_n hx hb dX13_plan_653 rfl (lv_at hl 0 rfl) ?_
            refine mg_62 hC hH dX13_plan_654 ?_
            refine lv_iload hx hb dX13_plan_657 (lv_at hl 7 rfl) ?_
            refine lv_aload_n hx hb dX13_plan_659 rfl (lv_at hl 0 rfl) ?_
            refine mg_64 hC hH dX13_plan_660 ?_
            refine lv_iload hx hb dX13_plan_663 (lv_at hl 7 rfl) ?_
            obtain ⟨x_226, g_227, e_228, hF⟩ := prd_some hF
            refine ml_64 hC hH g_227 dX13_plan_665 ?_
            refine gx_ti e_228 ?_
            obtain ⟨u_230, g_229, e_231, hF⟩ := pwd_some hF
            refine ms_62 hC hH e_231 g_229 dX13_plan_666 (fun H locs hH => ?_)
            obtain ⟨x_232, e_233, hF⟩ := pli_some hF
            refine lv_iinc (v := x_232) (lv' := [(7, .int x_232), (0, .ref (Q 72)), (1, .int v1), (2, .int v2), (3, .int v3), (4, .int v4), (5, .int v5), (6, .int v6)]) hx hb dX13_plan_667 hl (k := 7) rfl e_233 (by decide) rfl (fun ls hl => ?_)
            refine lv_goto (tgt := 631) hx hb dX13_plan_670 (by decide) ?_
            exact ih631 v1 v2 v3 v4 v5 v6 x_232 u_230 _ _ _ (lv_sub hl [1, 2, 3, 4, 5, 6, 7, 0] rfl) hH hF
      refine hL631 _ (fun v1 v2 v3 v4 v5 v6 v7 u H locs ls hl hH hF => ?_) fuel v1 v2 v3 v4 v5 v6 0 u _ _ _ (lv_sub hl [1, 2, 3, 4, 5, 6, 7, 0] rfl) hH hF
      refine lv_aload_n hx hb dX13_plan_673 rfl (lv_at hl 0 rfl) ?_
      refine lv_iconst (v := 1) hx hb dX13_plan_674 (by decide) ?_
      obtain ⟨u_234, e_235, hF⟩ := pwf_some hF
      refine mp_69 hC hH e_235 rfl dX13_plan_675 (fun H locs hH => ?_)
      refine lv_iload hx hb dX13_plan_678 (lv_at hl 4 rfl) ?_
      have hF := prt_eq hF
      exact mr_i hC hH hr hF dX13_plan_680 hlocks
    · rw [if_pos c_8] at hF
      refine lv_bipush (v := (-2)) hx hb dX13_plan_24 (by decide) ?_
      have hF := prt_eq hF
      exact mr_i hC hH hr hF dX13_plan_26 hlocks
def f_planned (a0 : Int32) (a1 : Int32) (a2 : Int32) : PG (Int32) := pcl (f_isFight a0 a1) (fun r_1 => (if r_1 = 0 then prt (-1) else puf 69 (fun x_5 => (if x_5 = 0 then prt (-1) else pcl (f_in a2.toInt64 0 1) (fun r_8 => (if r_8 = 0 then prt (-1) else (if a2 = 0 then pud 61 160 ((40 * a0) + a1) (fun x_16 => prt x_16) else pud 62 160 ((40 * a0) + a1) (fun x_13 => prt x_13))))))))
set_option maxHeartbeats 4000000 in
set_option maxRecDepth 100000 in
theorem m_planned (l : Launch) (G : gG) (Z : gM) (Q : Nat → Nat) (u u1 : GS) (r : Int32) (a0 : Int32) (a1 : Int32) (a2 : Int32) (sz : Nat) (hF : f_planned a0 a1 a2 u = some (r, u1)) : Met l yX13_planned (Cond.code yX13_planned cX13_planned 4 (some .int) :: wM) { frames := 4, cells := 0, slots := 0, locals := 87 } (va_Pc [.ref (Q 72), .int a0, .int a1, .int a2] (mPM G Z Q u.1 sz)) (mQi G Q u1.1 r sz) 0 0 (mA Q sz) := by
  refine Met.ofW (cc := cX13_planned) (maxL := 4) (ret := (some .int)) (by decide) rfl ?_
  intro p e s m args below meth c s₁ B hml hv
  obtain ⟨rfl, rfl, hP, hB, hD, hE⟩ := hv
  have hr := B.returns
  have hlocks := B.notSynchronized
  have hts := atoms_spec (ws := Cond.code yX13_planned cX13_planned 4 (some .int) :: wM) B.pre
  have hC : mX p c cX13_planned 4 s m _ G Z Q := ⟨B.exec, B.bytes, hml, findClass_of_methodNamed B.named, fun w h => hts w (List.mem_cons_of_mem _ h), hB, hE⟩
  have hx := hC.1
  have hb := hC.2.1
  have hH : mH G Q u.1 s s.heap [] := ⟨hP, hD, va_S.rf⟩
  have hl := lv_entry ([.ref (Q 72), .int a0, .int a1, .int a2]) (n := 4) (Nat.le_of_ble_eq_true rfl)
  rw [lg_entry_eq]
  generalize (lg_sl ([.ref (Q 72), .int a0, .int a1, .int a2]) ++ List.replicate (4 - (lg_sl ([.ref (Q 72), .int a0, .int a1, .int a2])).length) Slot.unset).toArray = ls at hl ⊢
  have hl : lv_has ls 4 [(0, .ref (Q 72)), (1, .int a0), (2, .int a1), (3, .int a2)] := hl
  unfold f_planned at hF
  refine lv_aload_n hx hb dX13_planned_0 rfl (lv_at hl 0 rfl) ?_
  refine lv_iload_n hx hb dX13_planned_1 rfl (lv_at hl 1 rfl) ?_
  refine lv_iload_n hx hb dX13_planned_2 rfl (lv_at hl 2 rfl) ?_
  obtain ⟨r_1, u_2, h_3, hF⟩ := pcl_some hF
  refine mcV_i (As := [.int a0, .int a1]) (rest := []) hC hH (m_isFight l G Z Q u u_2 r_1 a0 a1 _ h_3) kwX13_isFight kVX13_isFight ⟨Nat.le_of_ble_eq_true rfl, Nat.le_of_ble_eq_true rfl⟩ rfl hl.1 rfl (Nat.le_of_ble_eq_true rfl) dX13_planned_3 (fun H locs hH => ?_)
  refine lv_if_eq (tgt := 26) hx hb dX13_planned_6 (by decide) (fun c_4 => ?_) (fun c_4 => ?_)
  · rw [if_pos c_4] at hF
    refine lv_iconst (v := (-1)) hx hb dX13_planned_26 (by decide) ?_
    have hF := prt_eq hF
    exact mr_i hC hH hr hF dX13_planned_27 hlocks
  · rw [if_neg c_4] at hF
    refine lv_aload_n hx hb dX13_planned_9 rfl (lv_at hl 0 rfl) ?_
    refine mg_69 hC hH dX13_planned_10 ?_
    obtain ⟨x_5, e_6, hF⟩ := puf_some hF
    refine gx_ti e_6 ?_
    refine lv_if_eq (tgt := 26) hx hb dX13_planned_13 (by decide) (fun c_7 => ?_) (fun c_7 => ?_)
    · rw [if_pos c_7] at hF
      refine lv_iconst (v := (-1)) hx hb dX13_planned_26 (by decide) ?_
      have hF := prt_eq hF
      exact mr_i hC hH hr hF dX13_planned_27 hlocks
    · rw [if_neg c_7] at hF
      refine lv_iload_n hx hb dX13_planned_16 rfl (lv_at hl 3 rfl) ?_
      refine lv_i2l (v := a2.toInt64) hx hb dX13_planned_17 rfl ?_
      refine lv_lconst (v := 0) hx hb dX13_planned_18 (by decide) ?_
      refine lv_lconst (v := 1) hx hb dX13_planned_19 (by decide) ?_
      obtain ⟨r_8, u_9, h_10, hF⟩ := pcl_some hF
      refine mcS_i (As := [.long a2.toInt64, .long 0, .long 1]) (rest := []) hC hH (m_in l G Z Q u_2 u_9 r_8 a2.toInt64 0 1 _ h_10) kwX13_in kVX13_in ⟨Nat.le_of_ble_eq_true rfl, Nat.le_of_ble_eq_true rfl⟩ rfl hl.1 rfl (Nat.le_of_ble_eq_true rfl) dX13_planned_20 (fun H locs hH => ?_)
      refine lv_if_ne (tgt := 28) hx hb dX13_planned_23 (by decide) (fun c_11 => ?_) (fun c_11 => ?_)
      · rw [if_neg c_11] at hF
        refine lv_iload_n hx hb dX13_planned_28 rfl (lv_at hl 3 rfl) ?_
        refine lv_if_ne (tgt := 46) hx hb dX13_planned_29 (by decide) (fun c_12 => ?_) (fun c_12 => ?_)
        · rw [if_neg c_12] at hF
          refine lv_aload_n hx hb dX13_planned_46 rfl (lv_at hl 0 rfl) ?_
          refine mg_62 hC hH dX13_planned_47 ?_
          refine lv_bipush (v := 40) hx hb dX13_planned_50 (by decide) ?_
          refine lv_iload_n hx hb dX13_planned_52 rfl (lv_at hl 1 rfl) ?_
          refine lv_imul hx hb dX13_planned_53 ?_
          refine lv_iload_n hx hb dX13_planned_54 rfl (lv_at hl 2 rfl) ?_
          refine lv_iadd hx hb dX13_planned_55 ?_
          obtain ⟨x_13, g_14, e_15, hF⟩ := pud_some hF
          refine ml_62 hC hH g_14 dX13_planned_56 ?_
          refine gx_ti e_15 ?_
          have hF := prt_eq hF
          exact mr_i hC hH hr hF dX13_planned_57 hlocks
        · rw [if_pos c_12] at hF
          refine lv_aload_n hx hb dX13_planned_32 rfl (lv_at hl 0 rfl) ?_
          refine mg_61 hC hH dX13_planned_33 ?_
          refine lv_bipush (v := 40) hx hb dX13_planned_36 (by decide) ?_
          refine lv_iload_n hx hb dX13_planned_38 rfl (lv_at hl 1 rfl) ?_
          refine lv_imul hx hb dX13_planned_39 ?_
          refine lv_iload_n hx hb dX13_planned_40 rfl (lv_at hl 2 rfl) ?_
          refine lv_iadd hx hb dX13_planned_41 ?_
          obtain ⟨x_16, g_17, e_18, hF⟩ := pud_some hF
          refine ml_61 hC hH g_17 dX13_planned_42 ?_
          refine gx_ti e_18 ?_
          refine lv_goto (tgt := 57) hx hb dX13_planned_43 (by decide) ?_
          have hF := prt_eq hF
          exact mr_i hC hH hr hF dX13_planned_57 hlocks
      · rw [if_pos c_11] at hF
        refine lv_iconst (v := (-1)) hx hb dX13_planned_26 (by decide) ?_
        have hF := prt_eq hF
        exact mr_i hC hH hr hF dX13_planned_27 hlocks
def lp_count_84 : Nat → Int32 → Int32 → Int32 → (Int32 → Int32 → Int32 → PG (Int32)) → PG (Int32)
  | 0, _, _, _, _ => fun _ => none
  | n84 + 1, v1, v2, v3, K84_113 => (if 4 ≤ v3 then K84_113 v1 v2 v3 else prd 22 4 v3 (fun x_21 => (if x_21 = (-1) then pli (v2 + 0) (fun x_25 => pli (v3 + 1) (fun x_27 => lp_count_84 n84 v1 x_25 x_27 K84_113)) else pli (v2 + 1) (fun x_29 => pli (v3 + 1) (fun x_31 => lp_count_84 n84 v1 x_29 x_31 K84_113)))))
def f_count (a0 : Int32) : PG (Int32) := (if a0 = 0 then prf 2 (fun x_2 => prt x_2) else if a0 = 1 then prf 3 (fun x_5 => prt x_5) else if a0 = 2 then prf 4 (fun x_8 => prt x_8) else if a0 = 3 then prf 29 (fun x_11 => prt x_11) else if a0 = 4 then prf 30 (fun x_14 => prt x_14) else if a0 = 5 then prf 31 (fun x_17 => prt x_17) else if a0 = 6 then lp_count_84 fuel a0 0 0 (fun v1 v2 v3 => prt v2) else if a0 = 7 then puf 53 (fun x_34 => prt x_34) else if a0 = 8 then puf 42 (fun x_37 => prt x_37) else prt (-1))
set_option maxHeartbeats 4000000 in
set_option maxRecDepth 100000 in
theorem m_count (l : Launch) (G : gG) (Z : gM) (Q : Nat → Nat) (u u1 : GS) (r : Int32) (a0 : Int32) (sz : Nat) (hF : f_count a0 u = some (r, u1)) : Met l yX13_count (Cond.code yX13_count cX13_count 4 (some .int) :: wM) { frames := 0, cells := 0, slots := 0, locals := 0 } (va_Pc [.ref (Q 72), .int a0] (mPM G Z Q u.1 sz)) (mQi G Q u1.1 r sz) 0 0 (mA Q sz) := by
  refine Met.ofW (cc := cX13_count) (maxL := 4) (ret := (some .int)) (by decide) rfl ?_
  intro p e s m args below meth c s₁ B hml hv
  obtain ⟨rfl, rfl, hP, hB, hD, hE⟩ := hv
  have hr := B.returns
  have hlocks := B.notSynchronized
  have hts := atoms_spec (ws := Cond.code yX13_count cX13_count 4 (some .int) :: wM) B.pre
  have hC : mX p c cX13_count 4 s m _ G Z Q := ⟨B.exec, B.bytes, hml, findClass_of_methodNamed B.named, fun w h => hts w (List.mem_cons_of_mem _ h), hB, hE⟩
  have hx := hC.1
  have hb := hC.2.1
  have hH : mH G Q u.1 s s.heap [] := ⟨hP, hD, va_S.rf⟩
  have hl := lv_entry ([.ref (Q 72), .int a0]) (n := 4) (Nat.le_of_ble_eq_true rfl)
  rw [lg_entry_eq]
  generalize (lg_sl ([.ref (Q 72), .int a0]) ++ List.replicate (4 - (lg_sl ([.ref (Q 72), .int a0])).length) Slot.unset).toArray = ls at hl ⊢
  have hl : lv_has ls 4 [(0, .ref (Q 72)), (1, .int a0)] := hl
  unfold f_count at hF
  refine lv_iconst (v := 0) hx hb dX13_count_0 (by decide) ?_
  refine lv_istore_n (lv' := [(2, .int 0), (0, .ref (Q 72)), (1, .int a0)]) hx hb dX13_count_1 rfl hl (by decide) rfl (fun ls hl => ?_)
  refine lv_iload_n hx hb dX13_count_2 rfl (lv_at hl 2 rfl) ?_
  by_cases c_1 : a0 = 0
  · rw [if_pos c_1] at hF
    refine gx_ti (y := 0) c_1 ?_
    refine lv_tableIn (off := 49) (tgt := 52) hx hb dX13_count_3 (by decide) (by decide) rfl (by decide) ?_
    refine lv_aload_n hx hb dX13_count_52 rfl (lv_at hl 1 rfl) ?_
    refine mg_2 hC hH dX13_count_53 ?_
    obtain ⟨x_2, e_3, hF⟩ := prf_some hF
    refine gx_ti e_3 ?_
    have hF := prt_eq hF
    exact mr_i hC hH hr hF dX13_count_56 hlocks
  rw [if_neg c_1] at hF
  by_cases c_4 : a0 = 1
  · rw [if_pos c_4] at hF
    refine gx_ti (y := 1) c_4 ?_
    refine lv_tableIn (off := 54) (tgt := 57) hx hb dX13_count_3 (by decide) (by decide) rfl (by decide) ?_
    refine lv_aload_n hx hb dX13_count_57 rfl (lv_at hl 1 rfl) ?_
    refine mg_3 hC hH dX13_count_58 ?_
    obtain ⟨x_5, e_6, hF⟩ := prf_some hF
    refine gx_ti e_6 ?_
    have hF := prt_eq hF
    exact mr_i hC hH hr hF dX13_count_61 hlocks
  rw [if_neg c_4] at hF
  by_cases c_7 : a0 = 2
  · rw [if_pos c_7] at hF
    refine gx_ti (y := 2) c_7 ?_
    refine lv_tableIn (off := 59) (tgt := 62) hx hb dX13_count_3 (by decide) (by decide) rfl (by decide) ?_
    refine lv_aload_n hx hb dX13_count_62 rfl (lv_at hl 1 rfl) ?_
    refine mg_4 hC hH dX13_count_63 ?_
    obtain ⟨x_8, e_9, hF⟩ := prf_some hF
    refine gx_ti e_9 ?_
    have hF := prt_eq hF
    exact mr_i hC hH hr hF dX13_count_66 hlocks
  rw [if_neg c_7] at hF
  by_cases c_10 : a0 = 3
  · rw [if_pos c_10] at hF
    refine gx_ti (y := 3) c_10 ?_
    refine lv_tableIn (off := 64) (tgt := 67) hx hb dX13_count_3 (by decide) (by decide) rfl (by decide) ?_
    refine lv_aload_n hx hb dX13_count_67 rfl (lv_at hl 1 rfl) ?_
    refine mg_29 hC hH dX13_count_68 ?_
    obtain ⟨x_11, e_12, hF⟩ := prf_some hF
    refine gx_ti e_12 ?_
    have hF := prt_eq hF
    exact mr_i hC hH hr hF dX13_count_71 hlocks
  rw [if_neg c_10] at hF
  by_cases c_13 : a0 = 4
  · rw [if_pos c_13] at hF
    refine gx_ti (y := 4) c_13 ?_
    refine lv_tableIn (off := 69) (tgt := 72) hx hb dX13_count_3 (by decide) (by decide) rfl (by decide) ?_
    refine lv_aload_n hx hb dX13_count_72 rfl (lv_at hl 1 rfl) ?_
    refine mg_30 hC hH dX13_count_73 ?_
    obtain ⟨x_14, e_15, hF⟩ := prf_some hF
    refine gx_ti e_15 ?_
    have hF := prt_eq hF
    exact mr_i hC hH hr hF dX13_count_76 hlocks
  rw [if_neg c_13] at hF
  by_cases c_16 : a0 = 5
  · rw [if_pos c_16] at hF
    refine gx_ti (y := 5) c_16 ?_
    refine lv_tableIn (off := 74) (tgt := 77) hx hb dX13_count_3 (by decide) (by decide) rfl (by decide) ?_
    refine lv_aload_n hx hb dX13_count_77 rfl (lv_at hl 1 rfl) ?_
    refine mg_31 hC hH dX13_count_78 ?_
    obtain ⟨x_17, e_18, hF⟩ := prf_some hF
    refine gx_ti e_18 ?_
    have hF := prt_eq hF
    exact mr_i hC hH hr hF dX13_count_81 hlocks
  rw [if_neg c_16] at hF
  by_cases c_19 : a0 = 6
  · rw [if_pos c_19] at hF
    refine gx_ti (y := 6) c_19 ?_
    refine lv_tableIn (off := 79) (tgt := 82) hx hb dX13_count_3 (by decide) (by decide) rfl (by decide) ?_
    refine lv_iconst (v := 0) hx hb dX13_count_82 (by decide) ?_
    refine lv_istore_n (lv' := [(3, .int 0), (2, .int 0), (0, .ref (Q 72)), (1, .int a0)]) hx hb dX13_count_83 rfl hl (by decide) rfl (fun ls hl => ?_)
    have hL84 : ∀ (K84_113 : Int32 → Int32 → Int32 → PG (Int32)), (∀ (v1 v2 v3 : Int32) (u : GS) (H : Heap) (locs : List Loc) (ls : Array Slot), lv_has ls 4 [(0, .ref (Q 72)), (1, .int v1), (2, .int v2), (3, .int v3)] → mH G Q u.1 s H locs → K84_113 v1 v2 v3 u = some ((r, u1)) → W p l e (headSpec (Cond.code yX13_count cX13_count 4 (some .int) :: wM) { frames := 0, cells := 0, slots := 0, locals := 0 }).room s m [.ref (Q 72), .int a0].toArray below meth c H locs 0 0 (MQ below (mQi G Q u1.1 r s.heap.size) [.ref (Q 72), .int a0].toArray s 0 0 (mA Q s.heap.size)) (F0 m 113 ls [])) → ∀ (n84 : Nat) (v1 v2 v3 : Int32) (u : GS) (H : Heap) (locs : List Loc) (ls : Array Slot), lv_has ls 4 [(0, .ref (Q 72)), (1, .int v1), (2, .int v2), (3, .int v3)] → mH G Q u.1 s H locs → lp_count_84 n84 v1 v2 v3 K84_113 u = some ((r, u1)) → W p l e (headSpec (Cond.code yX13_count cX13_count 4 (some .int) :: wM) { frames := 0, cells := 0, slots := 0, locals := 0 }).room s m [.ref (Q 72), .int a0].toArray below meth c H locs 0 0 (MQ below (mQi G Q u1.1 r s.heap.size) [.ref (Q 72), .int a0].toArray s 0 0 (mA Q s.heap.size)) (F0 m 84 ls []) := by
      intro K84_113 hK84_113 n84
      induction n84 with
      | zero => intro v1 v2 v3 u H locs ls hl hH hF; cases hF
      | succ n84 ih84 =>
        intro v1 v2 v3 u H locs ls hl hH hF
        unfold lp_count_84 at hF
        refine lv_iload_n hx hb dX13_count_84 rfl (lv_at hl 3 rfl) ?_
        refine lv_iconst (v := 4) hx hb dX13_count_85 (by decide) ?_
        refine lv_icmp_ge (tgt := 113) hx hb dX13_count_86 (by decide) (fun c_20 => ?_) (fun c_20 => ?_)
        · rw [if_pos c_20] at hF
          exact hK84_113 v1 v2 v3 u _ _ _ (lv_sub hl [0, 1, 2, 3] rfl) hH hF
        · rw [if_neg c_20] at hF
          refine lv_iload_n hx hb dX13_count_89 rfl (lv_at hl 2 rfl) ?_
          refine lv_aload_n hx hb dX13_count_90 rfl (lv_at hl 0 rfl) ?_
          refine mg_22 hC hH dX13_count_91 ?_
          refine lv_iload_n hx hb dX13_count_94 rfl (lv_at hl 3 rfl) ?_
          obtain ⟨x_21, g_22, e_23, hF⟩ := prd_some hF
          refine ml_22 hC hH g_22 dX13_count_95 ?_
          refine gx_ti e_23 ?_
          refine lv_iconst (v := (-1)) hx hb dX13_count_96 (by decide) ?_
          refine lv_icmp_eq (tgt := 104) hx hb dX13_count_97 (by decide) (fun c_24 => ?_) (fun c_24 => ?_)
          · rw [if_pos c_24] at hF
            refine lv_iconst (v := 0) hx hb dX13_count_104 (by decide) ?_
            refine lv_iadd hx hb dX13_count_105 ?_
            obtain ⟨x_25, e_26, hF⟩ := pli_some hF
            refine gx_ti e_26 ?_
            refine lv_istore_n (lv' := [(2, .int x_25), (0, .ref (Q 72)), (1, .int v1), (3, .int v3)]) hx hb dX13_count_106 rfl hl (by decide) rfl (fun ls hl => ?_)
            obtain ⟨x_27, e_28, hF⟩ := pli_some hF
            refine lv_iinc (v := x_27) (lv' := [(3, .int x_27), (2, .int x_25), (0, .ref (Q 72)), (1, .int v1)]) hx hb dX13_count_107 hl (k := 3) rfl e_28 (by decide) rfl (fun ls hl => ?_)
            refine lv_goto (tgt := 84) hx hb dX13_count_110 (by decide) ?_
            exact ih84 v1 x_25 x_27 u _ _ _ (lv_sub hl [2, 3, 1, 0] rfl) hH hF
          · rw [if_neg c_24] at hF
            refine lv_iconst (v := 1) hx hb dX13_count_100 (by decide) ?_
            refine lv_goto (tgt := 105) hx hb dX13_count_101 (by decide) ?_
            refine lv_iadd hx hb dX13_count_105 ?_
            obtain ⟨x_29, e_30, hF⟩ := pli_some hF
            refine gx_ti e_30 ?_
            refine lv_istore_n (lv' := [(2, .int x_29), (0, .ref (Q 72)), (1, .int v1), (3, .int v3)]) hx hb dX13_count_106 rfl hl (by decide) rfl (fun ls hl => ?_)
            obtain ⟨x_31, e_32, hF⟩ := pli_some hF
            refine lv_iinc (v := x_31) (lv' := [(3, .int x_31), (2, .int x_29), (0, .ref (Q 72)), (1, .int v1)]) hx hb dX13_count_107 hl (k := 3) rfl e_32 (by decide) rfl (fun ls hl => ?_)
            refine lv_goto (tgt := 84) hx hb dX13_count_110 (by decide) ?_
            exact ih84 v1 x_29 x_31 u _ _ _ (lv_sub hl [2, 3, 1, 0] rfl) hH hF
    refine hL84 _ (fun v1 v2 v3 u H locs ls hl hH hF => ?_) fuel a0 0 0 u _ _ _ (lv_sub hl [2, 3, 1, 0] rfl) hH hF
    refine lv_iload_n hx hb dX13_count_113 rfl (lv_at hl 2 rfl) ?_
    have hF := prt_eq hF
    exact mr_i hC hH hr hF dX13_count_114 hlocks
  rw [if_neg c_19] at hF
  by_cases c_33 : a0 = 7
  · rw [if_pos c_33] at hF
    refine gx_ti (y := 7) c_33 ?_
    refine lv_tableIn (off := 112) (tgt := 115) hx hb dX13_count_3 (by decide) (by decide) rfl (by decide) ?_
    refine lv_aload_n hx hb dX13_count_115 rfl (lv_at hl 1 rfl) ?_
    refine mg_53 hC hH dX13_count_116 ?_
    obtain ⟨x_34, e_35, hF⟩ := puf_some hF
    refine gx_ti e_35 ?_
    have hF := prt_eq hF
    exact mr_i hC hH hr hF dX13_count_119 hlocks
  rw [if_neg c_33] at hF
  by_cases c_36 : a0 = 8
  · rw [if_pos c_36] at hF
    refine gx_ti (y := 8) c_36 ?_
    refine lv_tableIn (off := 117) (tgt := 120) hx hb dX13_count_3 (by decide) (by decide) rfl (by decide) ?_
    refine lv_aload_n hx hb dX13_count_120 rfl (lv_at hl 1 rfl) ?_
    refine mg_42 hC hH dX13_count_121 ?_
    obtain ⟨x_37, e_38, hF⟩ := puf_some hF
    refine gx_ti e_38 ?_
    have hF := prt_eq hF
    exact mr_i hC hH hr hF dX13_count_124 hlocks
  rw [if_neg c_36] at hF
  refine lv_tableOut (tgt := 125) hx hb dX13_count_3 (by have q0 := gl_ne c_1 (a := 0) (by decide); have q1 := gl_ne c_4 (a := 1) (by decide); have q2 := gl_ne c_7 (a := 2) (by decide); have q3 := gl_ne c_10 (a := 3) (by decide); have q4 := gl_ne c_13 (a := 4) (by decide); have q5 := gl_ne c_16 (a := 5) (by decide); have q6 := gl_ne c_19 (a := 6) (by decide); have q7 := gl_ne c_33 (a := 7) (by decide); have q8 := gl_ne c_36 (a := 8) (by decide); omega) (by decide) ?_
  refine lv_iconst (v := (-1)) hx hb dX13_count_125 (by decide) ?_
  have hF := prt_eq hF
  exact mr_i hC hH hr hF dX13_count_126 hlocks

