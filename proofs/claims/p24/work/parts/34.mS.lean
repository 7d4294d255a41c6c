def bd_sideOf (F : Nat → Int32 → Int32 → Int32 → Int32 → PG (Int32)) (a0 : Int32) (a1 : Int32) (a2 : Int32) : PG (Int32) := prd 12 4 a0 (fun x_1 => (if x_1 = 1 then pcl (f_pair a0 a1 a2) (fun r_37 => prd 14 128 ((32 * a0) + r_37) (fun x_40 => prt x_40)) else pcl (f_isSecond a0 a1) (fun r_5 => (if r_5 = 0 then pcl (f_roundOf a0 a1) (fun r_9 => pcl (f_base a0 r_9) (fun r_12 => pli (a1 - r_12) (fun x_15 => (if r_9 = 0 then prd 14 128 (((32 * a0) + (2 * x_15)) + a2) (fun x_24 => (if x_24 = (-1) then prt (-2) else prt x_24)) else pcl (f_base a0 (r_9 - 1)) (fun r_18 => pcl (F 3 a0 ((r_18 + (2 * x_15)) + a2) 0 0) (fun r_21 => prt r_21)))))) else pcl (f_halfOf a0 a1) (fun r_28 => pcl (f_stepOf a0 a1) (fun r_31 => pcl (F 1 a0 r_28 r_31 a2) (fun r_34 => prt r_34)))))))
def bd_second (F : Nat → Int32 → Int32 → Int32 → Int32 → PG (Int32)) (a0 : Int32) (a1 : Int32) (a2 : Int32) (a3 : Int32) : PG (Int32) := (if a3 = 1 then pcl (F 2 a0 a1 a2 0) (fun r_15 => prt r_15) else (if a2 ≤ 1 then pcl (F 2 a0 a1 0 0) (fun r_3 => prt r_3) else prd 13 4 a0 (fun x_6 => pcl (f_rounds a0) (fun r_9 => pcl (F 3 a0 ((((x_6 - 1) + (a1 * (r_9 - 1))) + a2) - 2) 0 0) (fun r_12 => prt r_12)))))
def bd_loserTo (F : Nat → Int32 → Int32 → Int32 → Int32 → PG (Int32)) (a0 : Int32) (a1 : Int32) (a2 : Int32) : PG (Int32) := pcl (f_rounds a0) (fun r_1 => pcl (f_base a0 (r_1 - 1)) (fun r_4 => pcl (F 3 a0 (r_4 + a1) 0 0) (fun r_7 => (if r_7 = (-1) then prt (-1) else pcl (f_base a0 a2) (fun r_11 => prd 10 96 r_7 (fun x_14 => pli (r_11 + (x_14 >>> ((a2 + 1) &&& 31))) (fun x_17 => pcl (F 0 a0 x_17 0 0) (fun r_19 => (if r_19 = r_7 then pcl (F 0 a0 x_17 1 0) (fun r_23 => prt r_23) else prt r_19)))))))))
def bd_winnerOf (F : Nat → Int32 → Int32 → Int32 → Int32 → PG (Int32)) (a0 : Int32) (a1 : Int32) : PG (Int32) := prd 15 160 ((40 * a0) + a1) (fun x_1 => (if x_1 = 2 then prd 18 160 ((40 * a0) + a1) (fun x_13 => prt x_13) else pcl (F 0 a0 a1 0 0) (fun r_5 => pcl (F 0 a0 a1 1 0) (fun r_8 => (if r_5 = (-2) then prt r_8 else (if r_8 = (-2) then prt r_5 else prt (-1)))))))
set_option maxHeartbeats 4000000 in
set_option maxRecDepth 100000 in
theorem bm_sideOf (l : Launch) (G : gG) (Z : gM) (Q : Nat → Nat) (d : Nat) (F : Nat → Int32 → Int32 → Int32 → Int32 → PG (Int32)) (hr_sideOf : ∀ (u u1 : GS) (r : Int32) (a0 a1 a2 : Int32) (sz : Nat), F 0 a0 a1 a2 0 u = some (r, u1) → Met l yX13_sideOf (Cond.code yX13_sideOf cX13_sideOf 7 (some .int) :: wM) { frames := 12 * d + 20, cells := 0, slots := 0, locals := 140 * d + 400 } (va_Pc [.ref (Q 72), .int a0, .int a1, .int a2] (mPM G Z Q u.1 sz)) (mQi G Q u1.1 r sz) 0 0 (mA Q sz)) (hr_second : ∀ (u u1 : GS) (r : Int32) (a0 a1 a2 a3 : Int32) (sz : Nat), F 1 a0 a1 a2 a3 u = some (r, u1) → Met l yX13_second (Cond.code yX13_second cX13_second 5 (some .int) :: wM) { frames := 12 * d + 20, cells := 0, slots := 0, locals := 140 * d + 400 } (va_Pc [.ref (Q 72), .int a0, .int a1, .int a2, .int a3] (mPM G Z Q u.1 sz)) (mQi G Q u1.1 r sz) 0 0 (mA Q sz)) (hr_loserTo : ∀ (u u1 : GS) (r : Int32) (a0 a1 a2 : Int32) (sz : Nat), F 2 a0 a1 a2 0 u = some (r, u1) → Met l yX13_loserTo (Cond.code yX13_loserTo cX13_loserTo 7 (some .int) :: wM) { frames := 12 * d + 20, cells := 0, slots := 0, locals := 140 * d + 400 } (va_Pc [.ref (Q 72), .int a0, .int a1, .int a2] (mPM G Z Q u.1 sz)) (mQi G Q u1.1 r sz) 0 0 (mA Q sz)) (hr_winnerOf : ∀ (u u1 : GS) (r : Int32) (a0 a1 : Int32) (sz : Nat), F 3 a0 a1 0 0 u = some (r, u1) → Met l yX13_winnerOf (Cond.code yX13_winnerOf cX13_winnerOf 5 (some .int) :: wM) { frames := 12 * d + 20, cells := 0, slots := 0, locals := 140 * d + 400 } (va_Pc [.ref (Q 72), .int a0, .int a1] (mPM G Z Q u.1 sz)) (mQi G Q u1.1 r sz) 0 0 (mA Q sz)) (u u1 : GS) (r : Int32) (a0 : Int32) (a1 : Int32) (a2 : Int32) (sz : Nat) (hF : bd_sideOf F a0 a1 a2 u = some (r, u1)) : Met l yX13_sideOf (Cond.code yX13_sideOf cX13_sideOf 7 (some .int) :: wM) { frames := 12 * (d + 1) + 20, cells := 0, slots := 0, locals := 140 * (d + 1) + 400 } (va_Pc [.ref (Q 72), .int a0, .int a1, .int a2] (mPM G Z Q u.1 sz)) (mQi G Q u1.1 r sz) 0 0 (mA Q sz) := by
  refine Met.ofW (cc := cX13_sideOf) (maxL := 7) (ret := (some .int)) (by decide) rfl ?_
  intro p e s m args below meth c s₁ B hml hv
  obtain ⟨rfl, rfl, hP, hB, hD, hE⟩ := hv
  have hr := B.returns
  have hlocks := B.notSynchronized
  have hts := atoms_spec (ws := Cond.code yX13_sideOf cX13_sideOf 7 (some .int) :: wM) B.pre
  have hC : mX p c cX13_sideOf 7 s m _ G Z Q := ⟨B.exec, B.bytes, hml, findClass_of_methodNamed B.named, fun w h => hts w (List.mem_cons_of_mem _ h), hB, hE⟩
  have hx := hC.1
  have hb := hC.2.1
  have hH : mH G Q u.1 s s.heap [] := ⟨hP, hD, va_S.rf⟩
  have hl := lv_entry ([.ref (Q 72), .int a0, .int a1, .int a2]) (n := 7) (Nat.le_of_ble_eq_true rfl)
  rw [lg_entry_eq]
  generalize (lg_sl ([.ref (Q 72), .int a0, .int a1, .int a2]) ++ List.replicate (7 - (lg_sl ([.ref (Q 72), .int a0, .int a1, .int a2])).length) Slot.unset).toArray = ls at hl ⊢
  have hl : lv_has ls 7 [(0, .ref (Q 72)), (1, .int a0), (2, .int a1), (3, .int a2)] := hl
  unfold bd_sideOf at hF
  refine lv_aload_n hx hb dX13_sideOf_0 rfl (lv_at hl 0 rfl) ?_
  refine mg_12 hC hH dX13_sideOf_1 ?_
  refine lv_iload_n hx hb dX13_sideOf_4 rfl (lv_at hl 1 rfl) ?_
  obtain ⟨x_1, g_2, e_3, hF⟩ := prd_some hF
  refine ml_12 hC hH g_2 dX13_sideOf_5 ?_
  refine gx_ti e_3 ?_
  refine lv_iconst (v := 1) hx hb dX13_sideOf_6 (by decide) ?_
  refine lv_icmp_ne (tgt := 28) hx hb dX13_sideOf_7 (by decide) (fun c_4 => ?_) (fun c_4 => ?_)
  · rw [if_neg c_4] at hF
    refine lv_aload_n hx hb dX13_sideOf_28 rfl (lv_at hl 0 rfl) ?_
    refine lv_iload_n hx hb dX13_sideOf_29 rfl (lv_at hl 1 rfl) ?_
    refine lv_iload_n hx hb dX13_sideOf_30 rfl (lv_at hl 2 rfl) ?_
    obtain ⟨r_5, u_6, h_7, hF⟩ := pcl_some hF
    refine mcV_i (As := [.int a0, .int a1]) (rest := []) hC hH (m_isSecond l G Z Q u u_6 r_5 a0 a1 _ h_7) kwX13_isSecond kVX13_isSecond ⟨by show _ ≤ 12 * (d + 1) + 20; omega, by show _ ≤ 140 * (d + 1) + 400; omega⟩ rfl hl.1 rfl (Nat.le_of_ble_eq_true rfl) dX13_sideOf_31 (fun H locs hH => ?_)
    refine lv_if_eq (tgt := 56) hx hb dX13_sideOf_34 (by decide) (fun c_8 => ?_) (fun c_8 => ?_)
    · rw [if_pos c_8] at hF
      refine lv_aload_n hx hb dX13_sideOf_56 rfl (lv_at hl 0 rfl) ?_
      refine lv_iload_n hx hb dX13_sideOf_57 rfl (lv_at hl 1 rfl) ?_
      refine lv_iload_n hx hb dX13_sideOf_58 rfl (lv_at hl 2 rfl) ?_
      obtain ⟨r_9, u_10, h_11, hF⟩ := pcl_some hF
      refine mcV_i (As := [.int a0, .int a1]) (rest := []) hC hH (m_roundOf l G Z Q u_6 u_10 r_9 a0 a1 _ h_11) kwX13_roundOf kVX13_roundOf ⟨by show _ ≤ 12 * (d + 1) + 20; omega, by show _ ≤ 140 * (d + 1) + 400; omega⟩ rfl hl.1 rfl (Nat.le_of_ble_eq_true rfl) dX13_sideOf_59 (fun H locs hH => ?_)
      refine lv_istore (lv' := [(4, .int r_9), (0, .ref (Q 72)), (1, .int a0), (2, .int a1), (3, .int a2)]) hx hb dX13_sideOf_62 hl (by decide) rfl (fun ls hl => ?_)
      refine lv_iload_n hx hb dX13_sideOf_64 rfl (lv_at hl 3 rfl) ?_
      refine lv_aload_n hx hb dX13_sideOf_65 rfl (lv_at hl 1 rfl) ?_
      refine lv_iload_n hx hb dX13_sideOf_66 rfl (lv_at hl 2 rfl) ?_
      refine lv_iload hx hb dX13_sideOf_67 (lv_at hl 0 rfl) ?_
      obtain ⟨r_12, u_13, h_14, hF⟩ := pcl_some hF
      refine mcV_i (As := [.int a0, .int r_9]) (rest := [.int a1]) hC hH (m_base l G Z Q u_10 u_13 r_12 a0 r_9 _ h_14) kwX13_base kVX13_base ⟨by show _ ≤ 12 * (d + 1) + 20; omega, by show _ ≤ 140 * (d + 1) + 400; omega⟩ rfl hl.1 rfl (Nat.le_of_ble_eq_true rfl) dX13_sideOf_69 (fun H locs hH => ?_)
      refine lv_isub hx hb dX13_sideOf_72 ?_
      obtain ⟨x_15, e_16, hF⟩ := pli_some hF
      refine gx_ti e_16 ?_
      refine lv_istore (lv' := [(5, .int x_15), (4, .int r_9), (0, .ref (Q 72)), (1, .int a0), (2, .int a1), (3, .int a2)]) hx hb dX13_sideOf_73 hl (by decide) rfl (fun ls hl => ?_)
      refine lv_iload hx hb dX13_sideOf_75 (lv_at hl 1 rfl) ?_
      refine lv_if_ne (tgt := 112) hx hb dX13_sideOf_77 (by decide) (fun c_17 => ?_) (fun c_17 => ?_)
      · rw [if_neg c_17] at hF
        refine lv_aload_n hx hb dX13_sideOf_112 rfl (lv_at hl 2 rfl) ?_
        refine lv_iload_n hx hb dX13_sideOf_113 rfl (lv_at hl 3 rfl) ?_
        refine lv_aload_n hx hb dX13_sideOf_114 rfl (lv_at hl 2 rfl) ?_
        refine lv_iload_n hx hb dX13_sideOf_115 rfl (lv_at hl 3 rfl) ?_
        refine lv_iload hx hb dX13_sideOf_116 (lv_at hl 1 rfl) ?_
        refine lv_iconst (v := 1) hx hb dX13_sideOf_118 (by decide) ?_
        refine lv_isub hx hb dX13_sideOf_119 ?_
        obtain ⟨r_18, u_19, h_20, hF⟩ := pcl_some hF
        refine mcV_i (As := [.int a0, .int (r_9 - 1)]) (rest := [.int a0, .ref (Q 72)]) hC hH (m_base l G Z Q u_13 u_19 r_18 a0 (r_9 - 1) _ h_20) kwX13_base kVX13_base ⟨by show _ ≤ 12 * (d + 1) + 20; omega, by show _ ≤ 140 * (d + 1) + 400; omega⟩ rfl hl.1 rfl (Nat.le_of_ble_eq_true rfl) dX13_sideOf_120 (fun H locs hH => ?_)
        refine lv_iconst (v := 2) hx hb dX13_sideOf_123 (by decide) ?_
        refine lv_iload hx hb dX13_sideOf_124 (lv_at hl 0 rfl) ?_
        refine lv_imul hx hb dX13_sideOf_126 ?_
        refine lv_iadd hx hb dX13_sideOf_127 ?_
        refine lv_iload_n hx hb dX13_sideOf_128 rfl (lv_at hl 5 rfl) ?_
        refine lv_iadd hx hb dX13_sideOf_129 ?_
        obtain ⟨r_21, u_22, h_23, hF⟩ := pcl_some hF
        refine mcV_i (As := [.int a0, .int ((r_18 + (2 * x_15)) + a2)]) (rest := []) hC hH (hr_winnerOf u_19 u_22 r_21 a0 ((r_18 + (2 * x_15)) + a2) _ h_23) kwX13_winnerOf kVX13_winnerOf ⟨by show _ ≤ 12 * (d + 1) + 20; omega, by show _ ≤ 140 * (d + 1) + 400; omega⟩ rfl hl.1 rfl (Nat.le_of_ble_eq_true rfl) dX13_sideOf_130 (fun H locs hH => ?_)
        have hF := prt_eq hF
        exact mr_i hC hH hr hF dX13_sideOf_133 hlocks
      · rw [if_pos c_17] at hF
        refine lv_aload_n hx hb dX13_sideOf_80 rfl (lv_at hl 2 rfl) ?_
        refine mg_14 hC hH dX13_sideOf_81 ?_
        refine lv_bipush (v := 32) hx hb dX13_sideOf_84 (by decide) ?_
        refine lv_iload_n hx hb dX13_sideOf_86 rfl (lv_at hl 3 rfl) ?_
        refine lv_imul hx hb dX13_sideOf_87 ?_
        refine lv_iconst (v := 2) hx hb dX13_sideOf_88 (by decide) ?_
        refine lv_iload hx hb dX13_sideOf_89 (lv_at hl 0 rfl) ?_
        refine lv_imul hx hb dX13_sideOf_91 ?_
        refine lv_iadd hx hb dX13_sideOf_92 ?_
        refine lv_iload_n hx hb dX13_sideOf_93 rfl (lv_at hl 5 rfl) ?_
        refine lv_iadd hx hb dX13_sideOf_94 ?_
        obtain ⟨x_24, g_25, e_26, hF⟩ := prd_some hF
        refine ml_14 hC hH g_25 dX13_sideOf_95 ?_
        refine gx_ti e_26 ?_
        refine lv_istore (lv' := [(6, .int x_24), (5, .int x_15), (4, .int r_9), (0, .ref (Q 72)), (1, .int a0), (2, .int a1), (3, .int a2)]) hx hb dX13_sideOf_96 hl (by decide) rfl (fun ls hl => ?_)
        refine lv_iload hx hb dX13_sideOf_98 (lv_at hl 0 rfl) ?_
        refine lv_iconst (v := (-1)) hx hb dX13_sideOf_100 (by decide) ?_
        refine lv_icmp_ne (tgt := 109) hx hb dX13_sideOf_101 (by decide) (fun c_27 => ?_) (fun c_27 => ?_)
        · rw [if_neg c_27] at hF
          refine lv_iload hx hb dX13_sideOf_109 (lv_at hl 0 rfl) ?_
          have hF := prt_eq hF
          exact mr_i hC hH hr hF dX13_sideOf_111 hlocks
        · rw [if_pos c_27] at hF
          refine lv_bipush (v := (-2)) hx hb dX13_sideOf_104 (by decide) ?_
          refine lv_goto (tgt := 111) hx hb dX13_sideOf_106 (by decide) ?_
          have hF := prt_eq hF
          exact mr_i hC hH hr hF dX13_sideOf_111 hlocks
    · rw [if_neg c_8] at hF
      refine lv_aload_n hx hb dX13_sideOf_37 rfl (lv_at hl 0 rfl) ?_
      refine lv_iload_n hx hb dX13_sideOf_38 rfl (lv_at hl 1 rfl) ?_
      refine lv_aload_n hx hb dX13_sideOf_39 rfl (lv_at hl 0 rfl) ?_
      refine lv_iload_n hx hb dX13_sideOf_40 rfl (lv_at hl 1 rfl) ?_
      refine lv_iload_n hx hb dX13_sideOf_41 rfl (lv_at hl 2 rfl) ?_
      obtain ⟨r_28, u_29, h_30, hF⟩ := pcl_some hF
      refine mcV_i (As := [.int a0, .int a1]) (rest := [.int a0, .ref (Q 72)]) hC hH (m_halfOf l G Z Q u_6 u_29 r_28 a0 a1 _ h_30) kwX13_halfOf kVX13_halfOf ⟨by show _ ≤ 12 * (d + 1) + 20; omega, by show _ ≤ 140 * (d + 1) + 400; omega⟩ rfl hl.1 rfl (Nat.le_of_ble_eq_true rfl) dX13_sideOf_42 (fun H locs hH => ?_)
      refine lv_aload_n hx hb dX13_sideOf_45 rfl (lv_at hl 0 rfl) ?_
      refine lv_iload_n hx hb dX13_sideOf_46 rfl (lv_at hl 1 rfl) ?_
      refine lv_iload_n hx hb dX13_sideOf_47 rfl (lv_at hl 2 rfl) ?_
      obtain ⟨r_31, u_32, h_33, hF⟩ := pcl_some hF
      refine mcV_i (As := [.int a0, .int a1]) (rest := [.int r_28, .int a0, .ref (Q 72)]) hC hH (m_stepOf l G Z Q u_29 u_32 r_31 a0 a1 _ h_33) kwX13_stepOf kVX13_stepOf ⟨by show _ ≤ 12 * (d + 1) + 20; omega, by show _ ≤ 140 * (d + 1) + 400; omega⟩ rfl hl.1 rfl (Nat.le_of_ble_eq_true rfl) dX13_sideOf_48 (fun H locs hH => ?_)
      refine lv_iload_n hx hb dX13_sideOf_51 rfl (lv_at hl 3 rfl) ?_
      obtain ⟨r_34, u_35, h_36, hF⟩ := pcl_some hF
      refine mcV_i (As := [.int a0, .int r_28, .int r_31, .int a2]) (rest := []) hC hH (hr_second u_32 u_35 r_34 a0 r_28 r_31 a2 _ h_36) kwX13_second kVX13_second ⟨by show _ ≤ 12 * (d + 1) + 20; omega, by show _ ≤ 140 * (d + 1) + 400; omega⟩ rfl hl.1 rfl (Nat.le_of_ble_eq_true rfl) dX13_sideOf_52 (fun H locs hH => ?_)
      have hF := prt_eq hF
      exact mr_i hC hH hr hF dX13_sideOf_55 hlocks
  · rw [if_pos c_4] at hF
    refine lv_aload_n hx hb dX13_sideOf_10 rfl (lv_at hl 0 rfl) ?_
    refine mg_14 hC hH dX13_sideOf_11 ?_
    refine lv_bipush (v := 32) hx hb dX13_sideOf_14 (by decide) ?_
    refine lv_iload_n hx hb dX13_sideOf_16 rfl (lv_at hl 1 rfl) ?_
    refine lv_imul hx hb dX13_sideOf_17 ?_
    refine lv_aload_n hx hb dX13_sideOf_18 rfl (lv_at hl 0 rfl) ?_
    refine lv_iload_n hx hb dX13_sideOf_19 rfl (lv_at hl 1 rfl) ?_
    refine lv_iload_n hx hb dX13_sideOf_20 rfl (lv_at hl 2 rfl) ?_
    refine lv_iload_n hx hb dX13_sideOf_21 rfl (lv_at hl 3 rfl) ?_
    obtain ⟨r_37, u_38, h_39, hF⟩ := pcl_some hF
    refine mcV_i (As := [.int a0, .int a1, .int a2]) (rest := [.int (32 * a0), .ref (Q 14)]) hC hH (m_pair l G Z Q u u_38 r_37 a0 a1 a2 _ h_39) kwX13_pair kVX13_pair ⟨by show _ ≤ 12 * (d + 1) + 20; omega, by show _ ≤ 140 * (d + 1) + 400; omega⟩ rfl hl.1 rfl (Nat.le_of_ble_eq_true rfl) dX13_sideOf_22 (fun H locs hH => ?_)
    refine lv_iadd hx hb dX13_sideOf_25 ?_
    obtain ⟨x_40, g_41, e_42, hF⟩ := prd_some hF
    refine ml_14 hC hH g_41 dX13_sideOf_26 ?_
    refine gx_ti e_42 ?_
    have hF := prt_eq hF
    exact mr_i hC hH hr hF dX13_sideOf_27 hlocks
set_option maxHeartbeats 4000000 in
set_option maxRecDepth 100000 in
theorem bm_second (l : Launch) (G : gG) (Z : gM) (Q : Nat → Nat) (d : Nat) (F : Nat → Int32 → Int32 → Int32 → Int32 → PG (Int32)) (hr_sideOf : ∀ (u u1 : GS) (r : Int32) (a0 a1 a2 : Int32) (sz : Nat), F 0 a0 a1 a2 0 u = some (r, u1) → Met l yX13_sideOf (Cond.code yX13_sideOf cX13_sideOf 7 (some .int) :: wM) { frames := 12 * d + 20, cells := 0, slots := 0, locals := 140 * d + 400 } (va_Pc [.ref (Q 72), .int a0, .int a1, .int a2] (mPM G Z Q u.1 sz)) (mQi G Q u1.1 r sz) 0 0 (mA Q sz)) (hr_second : ∀ (u u1 : GS) (r : Int32) (a0 a1 a2 a3 : Int32) (sz : Nat), F 1 a0 a1 a2 a3 u = some (r, u1) → Met l yX13_second (Cond.code yX13_second cX13_second 5 (some .int) :: wM) { frames := 12 * d + 20, cells := 0, slots := 0, locals := 140 * d + 400 } (va_Pc [.ref (Q 72), .int a0, .int a1, .int a2, .int a3] (mPM G Z Q u.1 sz)) (mQi G Q u1.1 r sz) 0 0 (mA Q sz)) (hr_loserTo : ∀ (u u1 : GS) (r : Int32) (a0 a1 a2 : Int32) (sz : Nat), F 2 a0 a1 a2 0 u = some (r, u1) → Met l yX13_loserTo (Cond.code yX13_loserTo cX13_loserTo 7 (some .int) :: wM) { frames := 12 * d + 20, cells := 0, slots := 0, locals := 140 * d + 400 } (va_Pc [.ref (Q 72), .int a0, .int a1, .int a2] (mPM G Z Q u.1 sz)) (mQi G Q u1.1 r sz) 0 0 (mA Q sz)) (hr_winnerOf : ∀ (u u1 : GS) (r : Int32) (a0 a1 : Int32) (sz : Nat), F 3 a0 a1 0 0 u = some (r, u1) → Met l yX13_winnerOf (Cond.code yX13_winnerOf cX13_winnerOf 5 (some .int) :: wM) { frames := 12 * d + 20, cells := 0, slots := 0, locals := 140 * d + 400 } (va_Pc [.ref (Q 72), .int a0, .int a1] (mPM G Z Q u.1 sz)) (mQi G Q u1.1 r sz) 0 0 (mA Q sz)) (u u1 : GS) (r : Int32) (a0 : Int32) (a1 : Int32) (a2 : Int32) (a3 : Int32) (sz : Nat) (hF : bd_second F a0 a1 a2 a3 u = some (r, u1)) : Met l yX13_second (Cond.code yX13_second cX13_second 5 (some .int) :: wM) { frames := 12 * (d + 1) + 20, cells := 0, slots := 0, locals := 140 * (d + 1) + 400 } (va_Pc [.ref (Q 72), .int a0, .int a1, .int a2, .int a3] (mPM G Z Q u.1 sz)) (mQi G Q u1.1 r sz) 0 0 (mA Q sz) := by
  refine Met.ofW (cc := cX13_second) (maxL := 5) (ret := (some .int)) (by decide) rfl ?_
  intro p e s m args below meth c s₁ B hml hv
  obtain ⟨rfl, rfl, hP, hB, hD, hE⟩ := hv
  have hr := B.returns
  have hlocks := B.notSynchronized
  have hts := atoms_spec (ws := Cond.code yX13_second cX13_second 5 (some .int) :: wM) B.pre
  have hC : mX p c cX13_second 5 s m _ G Z Q := ⟨B.exec, B.bytes, hml, findClass_of_methodNamed B.named, fun w h => hts w (List.mem_cons_of_mem _ h), hB, hE⟩
  have hx := hC.1
  have hb := hC.2.1
  have hH : mH G Q u.1 s s.heap [] := ⟨hP, hD, va_S.rf⟩
  have hl := lv_entry ([.ref (Q 72), .int a0, .int a1, .int a2, .int a3]) (n := 5) (Nat.le_of_ble_eq_true rfl)
  rw [lg_entry_eq]
  generalize (lg_sl ([.ref (Q 72), .int a0, .int a1, .int a2, .int a3]) ++ List.replicate (5 - (lg_sl ([.ref (Q 72), .int a0, .int a1, .int a2, .int a3])).length) Slot.unset).toArray = ls at hl ⊢
  have hl : lv_has ls 5 [(0, .ref (Q 72)), (1, .int a0), (2, .int a1), (3, .int a2), (4, .int a3)] := hl
  unfold bd_second at hF
  refine lv_iload hx hb dX13_second_0 (lv_at hl 4 rfl) ?_
  refine lv_iconst (v := 1) hx hb dX13_second_2 (by decide) ?_
  refine lv_icmp_ne (tgt := 14) hx hb dX13_second_3 (by decide) (fun c_1 => ?_) (fun c_1 => ?_)
  · rw [if_neg c_1] at hF
    refine lv_iload_n hx hb dX13_second_14 rfl (lv_at hl 3 rfl) ?_
    refine lv_iconst (v := 1) hx hb dX13_second_15 (by decide) ?_
    refine lv_icmp_le (tgt := 47) hx hb dX13_second_16 (by decide) (fun c_2 => ?_) (fun c_2 => ?_)
    · rw [if_pos c_2] at hF
      refine lv_aload_n hx hb dX13_second_47 rfl (lv_at hl 0 rfl) ?_
      refine lv_iload_n hx hb dX13_second_48 rfl (lv_at hl 1 rfl) ?_
      refine lv_iload_n hx hb dX13_second_49 rfl (lv_at hl 2 rfl) ?_
      refine lv_iconst (v := 0) hx hb dX13_second_50 (by decide) ?_
      obtain ⟨r_3, u_4, h_5, hF⟩ := pcl_some hF
      refine mcV_i (As := [.int a0, .int a1, .int 0]) (rest := []) hC hH (hr_loserTo u u_4 r_3 a0 a1 0 _ h_5) kwX13_loserTo kVX13_loserTo ⟨by show _ ≤ 12 * (d + 1) + 20; omega, by show _ ≤ 140 * (d + 1) + 400; omega⟩ rfl hl.1 rfl (Nat.le_of_ble_eq_true rfl) dX13_second_51 (fun H locs hH => ?_)
      have hF := prt_eq hF
      exact mr_i hC hH hr hF dX13_second_54 hlocks
    · rw [if_neg c_2] at hF
      refine lv_aload_n hx hb dX13_second_19 rfl (lv_at hl 0 rfl) ?_
      refine lv_iload_n hx hb dX13_second_20 rfl (lv_at hl 1 rfl) ?_
      refine lv_aload_n hx hb dX13_second_21 rfl (lv_at hl 0 rfl) ?_
      refine mg_13 hC hH dX13_second_22 ?_
      refine lv_iload_n hx hb dX13_second_25 rfl (lv_at hl 1 rfl) ?_
      obtain ⟨x_6, g_7, e_8, hF⟩ := prd_some hF
      refine ml_13 hC hH g_7 dX13_second_26 ?_
      refine gx_ti e_8 ?_
      refine lv_iconst (v := 1) hx hb dX13_second_27 (by decide) ?_
      refine lv_isub hx hb dX13_second_28 ?_
      refine lv_iload_n hx hb dX13_second_29 rfl (lv_at hl 2 rfl) ?_
      refine lv_aload_n hx hb dX13_second_30 rfl (lv_at hl 0 rfl) ?_
      refine lv_iload_n hx hb dX13_second_31 rfl (lv_at hl 1 rfl) ?_
      obtain ⟨r_9, u_10, h_11, hF⟩ := pcl_some hF
      refine mcV_i (As := [.int a0]) (rest := [.int a1, .int (x_6 - 1), .int a0, .ref (Q 72)]) hC hH (m_rounds l G Z Q u u_10 r_9 a0 _ h_11) kwX13_rounds kVX13_rounds ⟨by show _ ≤ 12 * (d + 1) + 20; omega, by show _ ≤ 140 * (d + 1) + 400; omega⟩ rfl hl.1 rfl (Nat.le_of_ble_eq_true rfl) dX13_second_32 (fun H locs hH => ?_)
      refine lv_iconst (v := 1) hx hb dX13_second_35 (by decide) ?_
      refine lv_isub hx hb dX13_second_36 ?_
      refine lv_imul hx hb dX13_second_37 ?_
      refine lv_iadd hx hb dX13_second_38 ?_
      refine lv_iload_n hx hb dX13_second_39 rfl (lv_at hl 3 rfl) ?_
      refine lv_iadd hx hb dX13_second_40 ?_
      refine lv_iconst (v := 2) hx hb dX13_second_41 (by decide) ?_
      refine lv_isub hx hb dX13_second_42 ?_
      obtain ⟨r_12, u_13, h_14, hF⟩ := pcl_some hF
      refine mcV_i (As := [.int a0, .int ((((x_6 - 1) + (a1 * (r_9 - 1))) + a2) - 2)]) (rest := []) hC hH (hr_winnerOf u_10 u_13 r_12 a0 ((((x_6 - 1) + (a1 * (r_9 - 1))) + a2) - 2) _ h_14) kwX13_winnerOf kVX13_winnerOf ⟨by show _ ≤ 12 * (d + 1) + 20; omega, by show _ ≤ 140 * (d + 1) + 400; omega⟩ rfl hl.1 rfl (Nat.le_of_ble_eq_true rfl) dX13_second_43 (fun H locs hH => ?_)
      have hF := prt_eq hF
      exact mr_i hC hH hr hF dX13_second_46 hlocks
  · rw [if_pos c_1] at hF
    refine lv_aload_n hx hb dX13_second_6 rfl (lv_at hl 0 rfl) ?_
    refine lv_iload_n hx hb dX13_second_7 rfl (lv_at hl 1 rfl) ?_
    refine lv_iload_n hx hb dX13_second_8 rfl (lv_at hl 2 rfl) ?_
    refine lv_iload_n hx hb dX13_second_9 rfl (lv_at hl 3 rfl) ?_
    obtain ⟨r_15, u_16, h_17, hF⟩ := pcl_some hF
    refine mcV_i (As := [.int a0, .int a1, .int a2]) (rest := []) hC hH (hr_loserTo u u_16 r_15 a0 a1 a2 _ h_17) kwX13_loserTo kVX13_loserTo ⟨by show _ ≤ 12 * (d + 1) + 20; omega, by show _ ≤ 140 * (d + 1) + 400; omega⟩ rfl hl.1 rfl (Nat.le_of_ble_eq_true rfl) dX13_second_10 (fun H locs hH => ?_)
    have hF := prt_eq hF
    exact mr_i hC hH hr hF dX13_second_13 hlocks
set_option maxHeartbeats 4000000 in
set_option maxRecDepth 100000 in
theorem bm_loserTo (l : Launch) (G : gG) (Z : gM) (Q : Nat → Nat) (d : Nat) (F : Nat → Int32 → Int32 → Int32 → Int32 → PG (Int32)) (hr_sideOf : ∀ (u u1 : GS) (r : Int32) (a0 a1 a2 : Int32) (sz : Nat), F 0 a0 a1 a2 0 u = some (r, u1) → Met l yX13_sideOf (Cond.code yX13_sideOf cX13_sideOf 7 (some .int) :: wM) { frames := 12 * d + 20, cells := 0, slots := 0, locals := 140 * d + 400 } (va_Pc [.ref (Q 72), .int a0, .int a1, .int a2] (mPM G Z Q u.1 sz)) (mQi G Q u1.1 r sz) 0 0 (mA Q sz)) (hr_second : ∀ (u u1 : GS) (r : Int32) (a0 a1 a2 a3 : Int32) (sz : Nat), F 1 a0 a1 a2 a3 u = some (r, u1) → Met l yX13_second (Cond.code yX13_second cX13_second 5 (some .int) :: wM) { frames := 12 * d + 20, cells := 0, slots := 0, locals := 140 * d + 400 } (va_Pc [.ref (Q 72), .int a0, .int a1, .int a2, .int a3] (mPM G Z Q u.1 sz)) (mQi G Q u1.1 r sz) 0 0 (mA Q sz)) (hr_loserTo : ∀ (u u1 : GS) (r : Int32) (a0 a1 a2 : Int32) (sz : Nat), F 2 a0 a1 a2 0 u = some (r, u1) → Met l yX13_loserTo (Cond.code yX13_loserTo cX13_loserTo 7 (some .int) :: wM) { frames := 12 * d + 20, cells := 0, slots := 0, locals := 140 * d + 400 } (va_Pc [.ref (Q 72), .int a0, .int a1, .int a2] (mPM G Z Q u.1 sz)) (mQi G Q u1.1 r sz) 0 0 (mA Q sz)) (hr_winnerOf : ∀ (u u1 : GS) (r : Int32) (a0 a1 : Int32) (sz : Nat), F 3 a0 a1 0 0 u = some (r, u1) → Met l yX13_winnerOf (Cond.code yX13_winnerOf cX13_winnerOf 5 (some .int) :: wM) { frames := 12 * d + 20, cells := 0, slots := 0, locals := 140 * d + 400 } (va_Pc [.ref (Q 72), .int a0, .int a1] (mPM G Z Q u.1 sz)) (mQi G Q u1.1 r sz) 0 0 (mA Q sz)) (u u1 : GS) (r : Int32) (a0 : Int32) (a1 : Int32) (a2 : Int32) (sz : Nat) (hF : bd_loserTo F a0 a1 a2 u = some (r, u1)) : Met l yX13_loserTo (Cond.code yX13_loserTo cX13_loserTo 7 (some .int) :: wM) { frames := 12 * (d + 1) + 20, cells := 0, slots := 0, locals := 140 * (d + 1) + 400 } (va_Pc [.ref (Q 72), .int a0, .int a1, .int a2] (mPM G Z Q u.1 sz)) (mQi G Q u1.1 r sz) 0 0 (mA Q sz) := by
  refine Met.ofW (cc := cX13_loserTo) (maxL := 7) (ret := (some .int)) (by decide) rfl ?_
  intro p e s m args below meth c s₁ B hml hv
  obtain ⟨rfl, rfl, hP, hB, hD, hE⟩ := hv
  have hr := B.returns
  have hlocks := B.notSynchronized
  have hts := atoms_spec (ws := Cond.code yX13_loserTo cX13_loserTo 7 (some .int) :: wM) B.pre
  have hC : mX p c cX13_loserTo 7 s m _ G Z Q := ⟨B.exec, B.bytes, hml, findClass_of_methodNamed B.named, fun w h => hts w (List.mem_cons_of_mem _ h), hB, hE⟩
  have hx := hC.1
  have hb := hC.2.1
  have hH : mH G Q u.1 s s.heap [] := ⟨hP, hD, va_S.rf⟩
  have hl := lv_entry ([.ref (Q 72), .int a0, .int a1, .int a2]) (n := 7) (Nat.le_of_ble_eq_true rfl)
  rw [lg_entry_eq]
  generalize (lg_sl ([.ref (Q 72), .int a0, .int a1, .int a2]) ++ List.replicate (7 - (lg_sl ([.ref (Q 72), .int a0, .int a1, .int a2])).length) Slot.unset).toArray = ls at hl ⊢
  have hl : lv_has ls 7 [(0, .ref (Q 72)), (1, .int a0), (2, .int a1), (3, .int a2)] := hl
  unfold bd_loserTo at hF
  refine lv_aload_n hx hb dX13_loserTo_0 rfl (lv_at hl 0 rfl) ?_
  refine lv_iload_n hx hb dX13_loserTo_1 rfl (lv_at hl 1 rfl) ?_
  refine lv_aload_n hx hb dX13_loserTo_2 rfl (lv_at hl 0 rfl) ?_
  refine lv_iload_n hx hb dX13_loserTo_3 rfl (lv_at hl 1 rfl) ?_
  refine lv_aload_n hx hb dX13_loserTo_4 rfl (lv_at hl 0 rfl) ?_
  refine lv_iload_n hx hb dX13_loserTo_5 rfl (lv_at hl 1 rfl) ?_
  obtain ⟨r_1, u_2, h_3, hF⟩ := pcl_some hF
  refine mcV_i (As := [.int a0]) (rest := [.int a0, .ref (Q 72), .int a0, .ref (Q 72)]) hC hH (m_rounds l G Z Q u u_2 r_1 a0 _ h_3) kwX13_rounds kVX13_rounds ⟨by show _ ≤ 12 * (d + 1) + 20; omega, by show _ ≤ 140 * (d + 1) + 400; omega⟩ rfl hl.1 rfl (Nat.le_of_ble_eq_true rfl) dX13_loserTo_6 (fun H locs hH => ?_)
  refine lv_iconst (v := 1) hx hb dX13_loserTo_9 (by decide) ?_
  refine lv_isub hx hb dX13_loserTo_10 ?_
  obtain ⟨r_4, u_5, h_6, hF⟩ := pcl_some hF
  refine mcV_i (As := [.int a0, .int (r_1 - 1)]) (rest := [.int a0, .ref (Q 72)]) hC hH (m_base l G Z Q u_2 u_5 r_4 a0 (r_1 - 1) _ h_6) kwX13_base kVX13_base ⟨by show _ ≤ 12 * (d + 1) + 20; omega, by show _ ≤ 140 * (d + 1) + 400; omega⟩ rfl hl.1 rfl (Nat.le_of_ble_eq_true rfl) dX13_loserTo_11 (fun H locs hH => ?_)
  refine lv_iload_n hx hb dX13_loserTo_14 rfl (lv_at hl 2 rfl) ?_
  refine lv_iadd hx hb dX13_loserTo_15 ?_
  obtain ⟨r_7, u_8, h_9, hF⟩ := pcl_some hF
  refine mcV_i (As := [.int a0, .int (r_4 + a1)]) (rest := []) hC hH (hr_winnerOf u_5 u_8 r_7 a0 (r_4 + a1) _ h_9) kwX13_winnerOf kVX13_winnerOf ⟨by show _ ≤ 12 * (d + 1) + 20; omega, by show _ ≤ 140 * (d + 1) + 400; omega⟩ rfl hl.1 rfl (Nat.le_of_ble_eq_true rfl) dX13_loserTo_16 (fun H locs hH => ?_)
  refine lv_istore (lv' := [(4, .int r_7), (0, .ref (Q 72)), (1, .int a0), (2, .int a1), (3, .int a2)]) hx hb dX13_loserTo_19 hl (by decide) rfl (fun ls hl => ?_)
  refine lv_iload hx hb dX13_loserTo_21 (lv_at hl 0 rfl) ?_
  refine lv_iconst (v := (-1)) hx hb dX13_loserTo_23 (by decide) ?_
  refine lv_icmp_ne (tgt := 29) hx hb dX13_loserTo_24 (by decide) (fun c_10 => ?_) (fun c_10 => ?_)
  · rw [if_neg c_10] at hF
    refine lv_aload_n hx hb dX13_loserTo_29 rfl (lv_at hl 1 rfl) ?_
    refine lv_iload_n hx hb dX13_loserTo_30 rfl (lv_at hl 2 rfl) ?_
    refine lv_iload_n hx hb dX13_loserTo_31 rfl (lv_at hl 4 rfl) ?_
    obtain ⟨r_11, u_12, h_13, hF⟩ := pcl_some hF
    refine mcV_i (As := [.int a0, .int a2]) (rest := []) hC hH (m_base l G Z Q u_8 u_12 r_11 a0 a2 _ h_13) kwX13_base kVX13_base ⟨by show _ ≤ 12 * (d + 1) + 20; omega, by show _ ≤ 140 * (d + 1) + 400; omega⟩ rfl hl.1 rfl (Nat.le_of_ble_eq_true rfl) dX13_loserTo_32 (fun H locs hH => ?_)
    refine lv_aload_n hx hb dX13_loserTo_35 rfl (lv_at hl 1 rfl) ?_
    refine mg_10 hC hH dX13_loserTo_36 ?_
    refine lv_iload hx hb dX13_loserTo_39 (lv_at hl 0 rfl) ?_
    obtain ⟨x_14, g_15, e_16, hF⟩ := prd_some hF
    refine ml_10 hC hH g_15 dX13_loserTo_41 ?_
    refine gx_ti e_16 ?_
    refine lv_iload_n hx hb dX13_loserTo_42 rfl (lv_at hl 4 rfl) ?_
    refine lv_iconst (v := 1) hx hb dX13_loserTo_43 (by decide) ?_
    refine lv_iadd hx hb dX13_loserTo_44 ?_
    refine lv_ishr hx hb dX13_loserTo_45 ?_
    refine lv_iadd hx hb dX13_loserTo_46 ?_
    obtain ⟨x_17, e_18, hF⟩ := pli_some hF
    refine gx_ti e_18 ?_
    refine lv_istore (lv' := [(5, .int x_17), (4, .int r_7), (0, .ref (Q 72)), (1, .int a0), (2, .int a1), (3, .int a2)]) hx hb dX13_loserTo_47 hl (by decide) rfl (fun ls hl => ?_)
    refine lv_aload_n hx hb dX13_loserTo_49 rfl (lv_at hl 2 rfl) ?_
    refine lv_iload_n hx hb dX13_loserTo_50 rfl (lv_at hl 3 rfl) ?_
    refine lv_iload hx hb dX13_loserTo_51 (lv_at hl 0 rfl) ?_
    refine lv_iconst (v := 0) hx hb dX13_loserTo_53 (by decide) ?_
    obtain ⟨r_19, u_20, h_21, hF⟩ := pcl_some hF
    refine mcV_i (As := [.int a0, .int x_17, .int 0]) (rest := []) hC hH (hr_sideOf u_12 u_20 r_19 a0 x_17 0 _ h_21) kwX13_sideOf kVX13_sideOf ⟨by show _ ≤ 12 * (d + 1) + 20; omega, by show _ ≤ 140 * (d + 1) + 400; omega⟩ rfl hl.1 rfl (Nat.le_of_ble_eq_true rfl) dX13_loserTo_54 (fun H locs hH => ?_)
    refine lv_istore (lv' := [(6, .int r_19), (5, .int x_17), (4, .int r_7), (0, .ref (Q 72)), (1, .int a0), (2, .int a1), (3, .int a2)]) hx hb dX13_loserTo_57 hl (by decide) rfl (fun ls hl => ?_)
    refine lv_iload hx hb dX13_loserTo_59 (lv_at hl 0 rfl) ?_
    refine lv_iload hx hb dX13_loserTo_61 (lv_at hl 2 rfl) ?_
    refine lv_icmp_ne (tgt := 77) hx hb dX13_loserTo_63 (by decide) (fun c_22 => ?_) (fun c_22 => ?_)
    · rw [if_neg c_22] at hF
      refine lv_iload hx hb dX13_loserTo_77 (lv_at hl 0 rfl) ?_
      have hF := prt_eq hF
      exact mr_i hC hH hr hF dX13_loserTo_79 hlocks
    · rw [if_pos c_22] at hF
      refine lv_aload_n hx hb dX13_loserTo_66 rfl (lv_at hl 3 rfl) ?_
      refine lv_iload_n hx hb dX13_loserTo_67 rfl (lv_at hl 4 rfl) ?_
      refine lv_iload hx hb dX13_loserTo_68 (lv_at hl 1 rfl) ?_
      refine lv_iconst (v := 1) hx hb dX13_loserTo_70 (by decide) ?_
      obtain ⟨r_23, u_24, h_25, hF⟩ := pcl_some hF
      refine mcV_i (As := [.int a0, .int x_17, .int 1]) (rest := []) hC hH (hr_sideOf u_20 u_24 r_23 a0 x_17 1 _ h_25) kwX13_sideOf kVX13_sideOf ⟨by show _ ≤ 12 * (d + 1) + 20; omega, by show _ ≤ 140 * (d + 1) + 400; omega⟩ rfl hl.1 rfl (Nat.le_of_ble_eq_true rfl) dX13_loserTo_71 (fun H locs hH => ?_)
      refine lv_goto (tgt := 79) hx hb dX13_loserTo_74 (by decide) ?_
      have hF := prt_eq hF
      exact mr_i hC hH hr hF dX13_loserTo_79 hlocks
  · rw [if_pos c_10] at hF
    refine lv_iconst (v := (-1)) hx hb dX13_loserTo_27 (by decide) ?_
    have hF := prt_eq hF
    exact mr_i hC hH hr hF dX13_loserTo_28 hlocks
set_option maxHeartbeats 4000000 in
set_option maxRecDepth 100000 in
theorem bm_winnerOf (l : Launch) (G : gG) (Z : gM) (Q : Nat → Nat) (d : Nat) (F : Nat → Int32 → Int32 → Int32 → Int32 → PG (Int32)) (hr_sideOf : ∀ (u u1 : GS) (r : Int32) (a0 a1 a2 : Int32) (sz : Nat), F 0 a0 a1 a2 0 u = some (r, u1) → Met l yX13_sideOf (Cond.code yX13_sideOf cX13_sideOf 7 (some .int) :: wM) { frames := 12 * d + 20, cells := 0, slots := 0, locals := 140 * d + 400 } (va_Pc [.ref (Q 72), .int a0, .int a1, .int a2] (mPM G Z Q u.1 sz)) (mQi G Q u1.1 r sz) 0 0 (mA Q sz)) (hr_second : ∀ (u u1 : GS) (r : Int32) (a0 a1 a2 a3 : Int32) (sz : Nat), F 1 a0 a1 a2 a3 u = some (r, u1) → Met l yX13_second (Cond.code yX13_second cX13_second 5 (some .int) :: wM) { frames := 12 * d + 20, cells := 0, slots := 0, locals := 140 * d + 400 } (va_Pc [.ref (Q 72), .int a0, .int a1, .int a2, .int a3] (mPM G Z Q u.1 sz)) (mQi G Q u1.1 r sz) 0 0 (mA Q sz)) (hr_loserTo : ∀ (u u1 : GS) (r : Int32) (a0 a1 a2 : Int32) (sz : Nat), F 2 a0 a1 a2 0 u = some (r, u1) → Met l yX13_loserTo (Cond.code yX13_loserTo cX13_loserTo 7 (some .int) :: wM) { frames := 12 * d + 20, cells := 0, slots := 0, locals := 140 * d + 400 } (va_Pc [.ref (Q 72), .int a0, .int a1, .int a2] (mPM G Z Q u.1 sz)) (mQi G Q u1.1 r sz) 0 0 (mA Q sz)) (hr_winnerOf : ∀ (u u1 : GS) (r : Int32) (a0 a1 : Int32) (sz : Nat), F 3 a0 a1 0 0 u = some (r, u1) → Met l yX13_winnerOf (Cond.code yX13_winnerOf cX13_winnerOf 5 (some .int) :: wM) { frames := 12 * d + 20, cells := 0, slots := 0, locals := 140 * d + 400 } (va_Pc [.ref (Q 72), .int a0, .int a1] (mPM G Z Q u.1 sz)) (mQi G Q u1.1 r sz) 0 0 (mA Q sz)) (u u1 : GS) (r : Int32) (a0 : Int32) (a1 : Int32) (sz : Nat) (hF : bd_winnerOf F a0 a1 u = some (r, u1)) : Met l yX13_winnerOf (Cond.code yX13_winnerOf cX13_winnerOf 5 (some .int) :: wM) { frames := 12 * (d + 1) + 20, cells := 0, slots := 0, locals := 140 * (d + 1) + 400 } (va_Pc [.ref (Q 72), .int a0, .int a1] (mPM G Z Q u.1 sz)) (mQi G Q u1.1 r sz) 0 0 (mA Q sz) := by
  refine Met.ofW (cc := cX13_winnerOf) (maxL := 5) (ret := (some .int)) (by decide) rfl ?_
  intro p e s m args below meth c s₁ B hml hv
  obtain ⟨rfl, rfl, hP, hB, hD, hE⟩ := hv
  have hr := B.returns
  have hlocks := B.notSynchronized
  have hts := atoms_spec (ws := Cond.code yX13_winnerOf cX13_winnerOf 5 (some .int) :: wM) B.pre
  have hC : mX p c cX13_winnerOf 5 s m _ G Z Q := ⟨B.exec, B.bytes, hml, findClass_of_methodNamed B.named, fun w h => hts w (List.mem_cons_of_mem _ h), hB, hE⟩
  have hx := hC.1
  have hb := hC.2.1
  have hH : mH G Q u.1 s s.heap [] := ⟨hP, hD, va_S.rf⟩
  have hl := lv_entry ([.ref (Q 72), .int a0, .int a1]) (n := 5) (Nat.le_of_ble_eq_true rfl)
  rw [lg_entry_eq]
  generalize (lg_sl ([.ref (Q 72), .int a0, .int a1]) ++ List.replicate (5 - (lg_sl ([.ref (Q 72), .int a0, .int a1])).length) Slot.unset).toArray = ls at hl ⊢
  have hl : lv_has ls 5 [(0, .ref (Q 72)), (1, .int a0), (2, .int a1)] := hl
  unfold bd_winnerOf at hF
  refine lv_aload_n hx hb dX13_winnerOf_0 rfl (lv_at hl 0 rfl) ?_
  refine mg_15 hC hH dX13_winnerOf_1 ?_
  refine lv_bipush (v := 40) hx hb dX13_winnerOf_4 (by decide) ?_
  refine lv_iload_n hx hb dX13_winnerOf_6 rfl (lv_at hl 1 rfl) ?_
  refine lv_imul hx hb dX13_winnerOf_7 ?_
  refine lv_iload_n hx hb dX13_winnerOf_8 rfl (lv_at hl 2 rfl) ?_
  refine lv_iadd hx hb dX13_winnerOf_9 ?_
  obtain ⟨x_1, g_2, e_3, hF⟩ := prd_some hF
  refine ml_15 hC hH g_2 dX13_winnerOf_10 ?_
  refine gx_ti e_3 ?_
  refine lv_iconst (v := 2) hx hb dX13_winnerOf_11 (by decide) ?_
  refine lv_icmp_ne (tgt := 27) hx hb dX13_winnerOf_12 (by decide) (fun c_4 => ?_) (fun c_4 => ?_)
  · rw [if_neg c_4] at hF
    refine lv_aload_n hx hb dX13_winnerOf_27 rfl (lv_at hl 0 rfl) ?_
    refine lv_iload_n hx hb dX13_winnerOf_28 rfl (lv_at hl 1 rfl) ?_
    refine lv_iload_n hx hb dX13_winnerOf_29 rfl (lv_at hl 2 rfl) ?_
    refine lv_iconst (v := 0) hx hb dX13_winnerOf_30 (by decide) ?_
    obtain ⟨r_5, u_6, h_7, hF⟩ := pcl_some hF
    refine mcV_i (As := [.int a0, .int a1, .int 0]) (rest := []) hC hH (hr_sideOf u u_6 r_5 a0 a1 0 _ h_7) kwX13_sideOf kVX13_sideOf ⟨by show _ ≤ 12 * (d + 1) + 20; omega, by show _ ≤ 140 * (d + 1) + 400; omega⟩ rfl hl.1 rfl (Nat.le_of_ble_eq_true rfl) dX13_winnerOf_31 (fun H locs hH => ?_)
    refine lv_istore_n (lv' := [(3, .int r_5), (0, .ref (Q 72)), (1, .int a0), (2, .int a1)]) hx hb dX13_winnerOf_34 rfl hl (by decide) rfl (fun ls hl => ?_)
    refine lv_aload_n hx hb dX13_winnerOf_35 rfl (lv_at hl 1 rfl) ?_
    refine lv_iload_n hx hb dX13_winnerOf_36 rfl (lv_at hl 2 rfl) ?_
    refine lv_iload_n hx hb dX13_winnerOf_37 rfl (lv_at hl 3 rfl) ?_
    refine lv_iconst (v := 1) hx hb dX13_winnerOf_38 (by decide) ?_
    obtain ⟨r_8, u_9, h_10, hF⟩ := pcl_some hF
    refine mcV_i (As := [.int a0, .int a1, .int 1]) (rest := []) hC hH (hr_sideOf u_6 u_9 r_8 a0 a1 1 _ h_10) kwX13_sideOf kVX13_sideOf ⟨by show _ ≤ 12 * (d + 1) + 20; omega, by show _ ≤ 140 * (d + 1) + 400; omega⟩ rfl hl.1 rfl (Nat.le_of_ble_eq_true rfl) dX13_winnerOf_39 (fun H locs hH => ?_)
    refine lv_istore (lv' := [(4, .int r_8), (3, .int r_5), (0, .ref (Q 72)), (1, .int a0), (2, .int a1)]) hx hb dX13_winnerOf_42 hl (by decide) rfl (fun ls hl => ?_)
    refine lv_iload_n hx hb dX13_winnerOf_44 rfl (lv_at hl 1 rfl) ?_
    refine lv_bipush (v := (-2)) hx hb dX13_winnerOf_45 (by decide) ?_
    refine lv_icmp_ne (tgt := 55) hx hb dX13_winnerOf_47 (by decide) (fun c_11 => ?_) (fun c_11 => ?_)
    · rw [if_neg c_11] at hF
      refine lv_iload hx hb dX13_winnerOf_55 (lv_at hl 0 rfl) ?_
      refine lv_bipush (v := (-2)) hx hb dX13_winnerOf_57 (by decide) ?_
      refine lv_icmp_ne (tgt := 66) hx hb dX13_winnerOf_59 (by decide) (fun c_12 => ?_) (fun c_12 => ?_)
      · rw [if_neg c_12] at hF
        refine lv_iconst (v := (-1)) hx hb dX13_winnerOf_66 (by decide) ?_
        have hF := prt_eq hF
        exact mr_i hC hH hr hF dX13_winnerOf_67 hlocks
      · rw [if_pos c_12] at hF
        refine lv_iload_n hx hb dX13_winnerOf_62 rfl (lv_at hl 1 rfl) ?_
        refine lv_goto (tgt := 67) hx hb dX13_winnerOf_63 (by decide) ?_
        have hF := prt_eq hF
        exact mr_i hC hH hr hF dX13_winnerOf_67 hlocks
    · rw [if_pos c_11] at hF
      refine lv_iload hx hb dX13_winnerOf_50 (lv_at hl 0 rfl) ?_
      refine lv_goto (tgt := 67) hx hb dX13_winnerOf_52 (by decide) ?_
      have hF := prt_eq hF
      exact mr_i hC hH hr hF dX13_winnerOf_67 hlocks
  · rw [if_pos c_4] at hF
    refine lv_aload_n hx hb dX13_winnerOf_15 rfl (lv_at hl 0 rfl) ?_
    refine mg_18 hC hH dX13_winnerOf_16 ?_
    refine lv_bipush (v := 40) hx hb dX13_winnerOf_19 (by decide) ?_
    refine lv_iload_n hx hb dX13_winnerOf_21 rfl (lv_at hl 1 rfl) ?_
    refine lv_imul hx hb dX13_winnerOf_22 ?_
    refine lv_iload_n hx hb dX13_winnerOf_23 rfl (lv_at hl 2 rfl) ?_
    refine lv_iadd hx hb dX13_winnerOf_24 ?_
    obtain ⟨x_13, g_14, e_15, hF⟩ := prd_some hF
    refine ml_18 hC hH g_14 dX13_winnerOf_25 ?_
    refine gx_ti e_15 ?_
    have hF := prt_eq hF
    exact mr_i hC hH hr hF dX13_winnerOf_26 hlocks
def fS : Nat → Nat → Int32 → Int32 → Int32 → Int32 → PG (Int32)
  | 0, _, _, _, _, _ => fun _ => none
  | d + 1, w, a0, a1, a2, a3 => if w = 0 then bd_sideOf (fS d) a0 a1 a2 else if w = 1 then bd_second (fS d) a0 a1 a2 a3 else if w = 2 then bd_loserTo (fS d) a0 a1 a2 else bd_winnerOf (fS d) a0 a1
theorem grpS (l : Launch) (G : gG) (Z : gM) (Q : Nat → Nat) : ∀ d : Nat, (∀ (u u1 : GS) (r : Int32) (a0 a1 a2 : Int32) (sz : Nat), fS d 0 a0 a1 a2 0 u = some (r, u1) → Met l yX13_sideOf (Cond.code yX13_sideOf cX13_sideOf 7 (some .int) :: wM) { frames := 12 * d + 20, cells := 0, slots := 0, locals := 140 * d + 400 } (va_Pc [.ref (Q 72), .int a0, .int a1, .int a2] (mPM G Z Q u.1 sz)) (mQi G Q u1.1 r sz) 0 0 (mA Q sz)) ∧ (∀ (u u1 : GS) (r : Int32) (a0 a1 a2 a3 : Int32) (sz : Nat), fS d 1 a0 a1 a2 a3 u = some (r, u1) → Met l yX13_second (Cond.code yX13_second cX13_second 5 (some .int) :: wM) { frames := 12 * d + 20, cells := 0, slots := 0, locals := 140 * d + 400 } (va_Pc [.ref (Q 72), .int a0, .int a1, .int a2, .int a3] (mPM G Z Q u.1 sz)) (mQi G Q u1.1 r sz) 0 0 (mA Q sz)) ∧ (∀ (u u1 : GS) (r : Int32) (a0 a1 a2 : Int32) (sz : Nat), fS d 2 a0 a1 a2 0 u = some (r, u1) → Met l yX13_loserTo (Cond.code yX13_loserTo cX13_loserTo 7 (some .int) :: wM) { frames := 12 * d + 20, cells := 0, slots := 0, locals := 140 * d + 400 } (va_Pc [.ref (Q 72), .int a0, .int a1, .int a2] (mPM G Z Q u.1 sz)) (mQi G Q u1.1 r sz) 0 0 (mA Q sz)) ∧ (∀ (u u1 : GS) (r : Int32) (a0 a1 : Int32) (sz : Nat), fS d 3 a0 a1 0 0 u = some (r, u1) → Met l yX13_winnerOf (Cond.code yX13_winnerOf cX13_winnerOf 5 (some .int) :: wM) { frames := 12 * d + 20, cells := 0, slots := 0, locals := 140 * d + 400 } (va_Pc [.ref (Q 72), .int a0, .int a1] (mPM G Z Q u.1 sz)) (mQi G Q u1.1 r sz) 0 0 (mA Q sz)) := by
  intro d
  induction d with
  | zero => exact ⟨(fun u u1 r a0 a1 a2 sz hF => by cases hF), (fun u u1 r a0 a1 a2 a3 sz hF => by cases hF), (fun u u1 r a0 a1 a2 sz hF => by cases hF), (fun u u1 r a0 a1 sz hF => by cases hF)⟩
  | succ d ih =>
    obtain ⟨i0, i1, i2, i3⟩ := ih
    exact ⟨(fun u u1 r a0 a1 a2 sz hF => bm_sideOf l G Z Q d (fS d) i0 i1 i2 i3 u u1 r a0 a1 a2 sz hF), (fun u u1 r a0 a1 a2 a3 sz hF => bm_second l G Z Q d (fS d) i0 i1 i2 i3 u u1 r a0 a1 a2 a3 sz hF), (fun u u1 r a0 a1 a2 sz hF => bm_loserTo l G Z Q d (fS d) i0 i1 i2 i3 u u1 r a0 a1 a2 sz hF), (fun u u1 r a0 a1 sz hF => bm_winnerOf l G Z Q d (fS d) i0 i1 i2 i3 u u1 r a0 a1 sz hF)⟩
theorem m_sideOf (l : Launch) (G : gG) (Z : gM) (Q : Nat → Nat) (u u1 : GS) (r : Int32) (a0 a1 a2 : Int32) (sz : Nat) (hF : fS 24 0 a0 a1 a2 0 u = some (r, u1)) : Met l yX13_sideOf (Cond.code yX13_sideOf cX13_sideOf 7 (some .int) :: wM) { frames := 308, cells := 0, slots := 0, locals := 3760 } (va_Pc [.ref (Q 72), .int a0, .int a1, .int a2] (mPM G Z Q u.1 sz)) (mQi G Q u1.1 r sz) 0 0 (mA Q sz) := (grpS l G Z Q 24).1 u u1 r a0 a1 a2 sz hF
theorem m_winnerOf (l : Launch) (G : gG) (Z : gM) (Q : Nat → Nat) (u u1 : GS) (r : Int32) (a0 a1 : Int32) (sz : Nat) (hF : fS 24 3 a0 a1 0 0 u = some (r, u1)) : Met l yX13_winnerOf (Cond.code yX13_winnerOf cX13_winnerOf 5 (some .int) :: wM) { frames := 308, cells := 0, slots := 0, locals := 3760 } (va_Pc [.ref (Q 72), .int a0, .int a1] (mPM G Z Q u.1 sz)) (mQi G Q u1.1 r sz) 0 0 (mA Q sz) := (grpS l G Z Q 24).2.2.2 u u1 r a0 a1 sz hF

