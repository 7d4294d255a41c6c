def bd_sideOf (F : Nat → Int32 → Int32 → Int32 → Int32 → MS → Option (Int32 × MS)) (a0 : Int32) (a1 : Int32) (a2 : Int32) (u : MS) : Option (Int32 × MS) := og (gi a0 4) ((if (ra u 12 a0) = 1 then ob (f_pair a0 a1 a2 u) (fun r_35 u_36 => og (gi ((32 * a0) + r_35) 128) (some (ra u_36 14 ((32 * a0) + r_35), u_36))) else ob (f_isSecond a0 a1 u) (fun r_3 u_4 => (if r_3 = 0 then ob (f_roundOf a0 a1 u_4) (fun r_7 u_8 => ob (f_base a0 r_7 u_8) (fun r_10 u_11 => li (a1 - r_10) (fun x_13 => (if r_7 = 0 then og (gi (((32 * a0) + (2 * x_13)) + a2) 128) (li (ra u_11 14 (((32 * a0) + (2 * x_13)) + a2)) (fun x_23 => (if x_23 = (-1) then some (-2, u_11) else some (x_23, u_11)))) else ob (f_base a0 (r_7 - 1) u_11) (fun r_16 u_17 => ob (F 3 a0 ((r_16 + (2 * x_13)) + a2) 0 0 u_17) (fun r_19 u_20 => some (r_19, u_20))))))) else ob (f_halfOf a0 a1 u_4) (fun r_26 u_27 => ob (f_stepOf a0 a1 u_27) (fun r_29 u_30 => ob (F 1 a0 r_26 r_29 a2 u_30) (fun r_32 u_33 => some (r_32, u_33))))))))
def bd_second (F : Nat → Int32 → Int32 → Int32 → Int32 → MS → Option (Int32 × MS)) (a0 : Int32) (a1 : Int32) (a2 : Int32) (a3 : Int32) (u : MS) : Option (Int32 × MS) := (if a3 = 1 then ob (F 2 a0 a1 a2 0 u) (fun r_13 u_14 => some (r_13, u_14)) else (if a2 ≤ 1 then ob (F 2 a0 a1 0 0 u) (fun r_3 u_4 => some (r_3, u_4)) else og (gi a0 4) (ob (f_rounds a0 u) (fun r_7 u_8 => ob (F 3 a0 (((((ra u 13 a0) - 1) + (a1 * (r_7 - 1))) + a2) - 2) 0 0 u_8) (fun r_10 u_11 => some (r_10, u_11))))))
def bd_loserTo (F : Nat → Int32 → Int32 → Int32 → Int32 → MS → Option (Int32 × MS)) (a0 : Int32) (a1 : Int32) (a2 : Int32) (u : MS) : Option (Int32 × MS) := ob (f_rounds a0 u) (fun r_1 u_2 => ob (f_base a0 (r_1 - 1) u_2) (fun r_4 u_5 => ob (F 3 a0 (r_4 + a1) 0 0 u_5) (fun r_7 u_8 => (if r_7 = (-1) then some (-1, u_8) else ob (f_base a0 a2 u_8) (fun r_11 u_12 => og (gi r_7 96) (li (r_11 + ((ra u_12 10 r_7) >>> ((a2 + 1) &&& 31))) (fun x_15 => ob (F 0 a0 x_15 0 0 u_12) (fun r_17 u_18 => (if r_17 = r_7 then ob (F 0 a0 x_15 1 0 u_18) (fun r_21 u_22 => some (r_21, u_22)) else some (r_17, u_18))))))))))
def bd_winnerOf (F : Nat → Int32 → Int32 → Int32 → Int32 → MS → Option (Int32 × MS)) (a0 : Int32) (a1 : Int32) (u : MS) : Option (Int32 × MS) := og (gi ((40 * a0) + a1) 160) ((if (ra u 15 ((40 * a0) + a1)) = 2 then og (gi ((40 * a0) + a1) 160) (some (ra u 18 ((40 * a0) + a1), u)) else ob (F 0 a0 a1 0 0 u) (fun r_3 u_4 => ob (F 0 a0 a1 1 0 u_4) (fun r_6 u_7 => (if r_3 = (-2) then some (r_6, u_7) else (if r_6 = (-2) then some (r_3, u_7) else some (-1, u_7)))))))
set_option maxHeartbeats 4000000 in
set_option maxRecDepth 100000 in
theorem bm_sideOf (l : Launch) (G : gG) (Z : gM) (Q : Nat → Nat) (d : Nat) (F : Nat → Int32 → Int32 → Int32 → Int32 → MS → Option (Int32 × MS)) (hr_sideOf : ∀ (u u1 : MS) (r : Int32) (a0 a1 a2 : Int32) (sz : Nat), F 0 a0 a1 a2 0 u = some (r, u1) → Met l yX13_sideOf (Cond.code yX13_sideOf cX13_sideOf 7 (some .int) :: wM) { frames := 12 * d + 20, cells := 0, slots := 0, locals := 140 * d + 400 } (va_Pc [.ref (Q 72), .int a0, .int a1, .int a2] (mPM G Z Q u sz)) (mQi G Q u1 r sz) 0 0 (mA Q sz)) (hr_second : ∀ (u u1 : MS) (r : Int32) (a0 a1 a2 a3 : Int32) (sz : Nat), F 1 a0 a1 a2 a3 u = some (r, u1) → Met l yX13_second (Cond.code yX13_second cX13_second 5 (some .int) :: wM) { frames := 12 * d + 20, cells := 0, slots := 0, locals := 140 * d + 400 } (va_Pc [.ref (Q 72), .int a0, .int a1, .int a2, .int a3] (mPM G Z Q u sz)) (mQi G Q u1 r sz) 0 0 (mA Q sz)) (hr_loserTo : ∀ (u u1 : MS) (r : Int32) (a0 a1 a2 : Int32) (sz : Nat), F 2 a0 a1 a2 0 u = some (r, u1) → Met l yX13_loserTo (Cond.code yX13_loserTo cX13_loserTo 7 (some .int) :: wM) { frames := 12 * d + 20, cells := 0, slots := 0, locals := 140 * d + 400 } (va_Pc [.ref (Q 72), .int a0, .int a1, .int a2] (mPM G Z Q u sz)) (mQi G Q u1 r sz) 0 0 (mA Q sz)) (hr_winnerOf : ∀ (u u1 : MS) (r : Int32) (a0 a1 : Int32) (sz : Nat), F 3 a0 a1 0 0 u = some (r, u1) → Met l yX13_winnerOf (Cond.code yX13_winnerOf cX13_winnerOf 5 (some .int) :: wM) { frames := 12 * d + 20, cells := 0, slots := 0, locals := 140 * d + 400 } (va_Pc [.ref (Q 72), .int a0, .int a1] (mPM G Z Q u sz)) (mQi G Q u1 r sz) 0 0 (mA Q sz)) (u u1 : MS) (r : Int32) (a0 : Int32) (a1 : Int32) (a2 : Int32) (sz : Nat) (hF : bd_sideOf F a0 a1 a2 u = some (r, u1)) : Met l yX13_sideOf (Cond.code yX13_sideOf cX13_sideOf 7 (some .int) :: wM) { frames := 12 * (d + 1) + 20, cells := 0, slots := 0, locals := 140 * (d + 1) + 400 } (va_Pc [.ref (Q 72), .int a0, .int a1, .int a2] (mPM G Z Q u sz)) (mQi G Q u1 r sz) 0 0 (mA Q sz) := by
  refine Met.ofW (cc := cX13_sideOf) (maxL := 7) (ret := (some .int)) (by decide) rfl ?_
  intro p e s m args below meth c s₁ B hml hv
  obtain ⟨rfl, rfl, hP, hB, hD, hE⟩ := hv
  have hr := B.returns
  have hlocks := B.notSynchronized
  have hts := atoms_spec (ws := Cond.code yX13_sideOf cX13_sideOf 7 (some .int) :: wM) B.pre
  have hC : mX p c cX13_sideOf 7 s m _ G Z Q := ⟨B.exec, B.bytes, hml, findClass_of_methodNamed B.named, fun w h => hts w (List.mem_cons_of_mem _ h), hB, hE⟩
  have hx := hC.1
  have hb := hC.2.1
  have hH : mH G Q u s s.heap [] := ⟨hP, hD, va_S.rf⟩
  have hl := lv_entry ([.ref (Q 72), .int a0, .int a1, .int a2]) (n := 7) (Nat.le_of_ble_eq_true rfl)
  rw [lg_entry_eq]
  generalize (lg_sl ([.ref (Q 72), .int a0, .int a1, .int a2]) ++ List.replicate (7 - (lg_sl ([.ref (Q 72), .int a0, .int a1, .int a2])).length) Slot.unset).toArray = ls at hl ⊢
  have hl : lv_has ls 7 [(0, .ref (Q 72)), (1, .int a0), (2, .int a1), (3, .int a2)] := hl
  unfold bd_sideOf at hF
  refine lv_aload_n hx hb dX13_sideOf_0 rfl (lv_at hl 0 rfl) ?_
  refine mg_12 hC hH dX13_sideOf_1 ?_
  refine lv_iload_n hx hb dX13_sideOf_4 rfl (lv_at hl 1 rfl) ?_
  obtain ⟨g_1, hF⟩ := og_some hF
  refine ml_12 hC hH g_1 dX13_sideOf_5 ?_
  refine lv_iconst (v := 1) hx hb dX13_sideOf_6 (by decide) ?_
  refine lv_icmp_ne (tgt := 28) hx hb dX13_sideOf_7 (by decide) (fun c_2 => ?_) (fun c_2 => ?_)
  · rw [if_neg c_2] at hF
    refine lv_aload_n hx hb dX13_sideOf_28 rfl (lv_at hl 0 rfl) ?_
    refine lv_iload_n hx hb dX13_sideOf_29 rfl (lv_at hl 1 rfl) ?_
    refine lv_iload_n hx hb dX13_sideOf_30 rfl (lv_at hl 2 rfl) ?_
    obtain ⟨r_3, u_4, h_5, hF⟩ := ob_some hF
    refine mcV_i (As := [.int a0, .int a1]) (rest := []) hC hH (m_isSecond l G Z Q u u_4 r_3 a0 a1 _ h_5) kwX13_isSecond kVX13_isSecond ⟨by show _ ≤ 12 * (d + 1) + 20; omega, by show _ ≤ 140 * (d + 1) + 400; omega⟩ rfl hl.1 rfl (Nat.le_of_ble_eq_true rfl) dX13_sideOf_31 (fun H locs hH => ?_)
    refine lv_if_eq (tgt := 56) hx hb dX13_sideOf_34 (by decide) (fun c_6 => ?_) (fun c_6 => ?_)
    · rw [if_pos c_6] at hF
      refine lv_aload_n hx hb dX13_sideOf_56 rfl (lv_at hl 0 rfl) ?_
      refine lv_iload_n hx hb dX13_sideOf_57 rfl (lv_at hl 1 rfl) ?_
      refine lv_iload_n hx hb dX13_sideOf_58 rfl (lv_at hl 2 rfl) ?_
      obtain ⟨r_7, u_8, h_9, hF⟩ := ob_some hF
      refine mcV_i (As := [.int a0, .int a1]) (rest := []) hC hH (m_roundOf l G Z Q u_4 u_8 r_7 a0 a1 _ h_9) kwX13_roundOf kVX13_roundOf ⟨by show _ ≤ 12 * (d + 1) + 20; omega, by show _ ≤ 140 * (d + 1) + 400; omega⟩ rfl hl.1 rfl (Nat.le_of_ble_eq_true rfl) dX13_sideOf_59 (fun H locs hH => ?_)
      refine lv_istore (lv' := [(4, .int r_7), (0, .ref (Q 72)), (1, .int a0), (2, .int a1), (3, .int a2)]) hx hb dX13_sideOf_62 hl (by decide) rfl (fun ls hl => ?_)
      refine lv_iload_n hx hb dX13_sideOf_64 rfl (lv_at hl 3 rfl) ?_
      refine lv_aload_n hx hb dX13_sideOf_65 rfl (lv_at hl 1 rfl) ?_
      refine lv_iload_n hx hb dX13_sideOf_66 rfl (lv_at hl 2 rfl) ?_
      refine lv_iload hx hb dX13_sideOf_67 (lv_at hl 0 rfl) ?_
      obtain ⟨r_10, u_11, h_12, hF⟩ := ob_some hF
      refine mcV_i (As := [.int a0, .int r_7]) (rest := [.int a1]) hC hH (m_base l G Z Q u_8 u_11 r_10 a0 r_7 _ h_12) kwX13_base kVX13_base ⟨by show _ ≤ 12 * (d + 1) + 20; omega, by show _ ≤ 140 * (d + 1) + 400; omega⟩ rfl hl.1 rfl (Nat.le_of_ble_eq_true rfl) dX13_sideOf_69 (fun H locs hH => ?_)
      refine lv_isub hx hb dX13_sideOf_72 ?_
      obtain ⟨x_13, e_14, hF⟩ := li_some hF
      refine gx_ti e_14 ?_
      refine lv_istore (lv' := [(5, .int x_13), (4, .int r_7), (0, .ref (Q 72)), (1, .int a0), (2, .int a1), (3, .int a2)]) hx hb dX13_sideOf_73 hl (by decide) rfl (fun ls hl => ?_)
      refine lv_iload hx hb dX13_sideOf_75 (lv_at hl 1 rfl) ?_
      refine lv_if_ne (tgt := 112) hx hb dX13_sideOf_77 (by decide) (fun c_15 => ?_) (fun c_15 => ?_)
      · rw [if_neg c_15] at hF
        refine lv_aload_n hx hb dX13_sideOf_112 rfl (lv_at hl 2 rfl) ?_
        refine lv_iload_n hx hb dX13_sideOf_113 rfl (lv_at hl 3 rfl) ?_
        refine lv_aload_n hx hb dX13_sideOf_114 rfl (lv_at hl 2 rfl) ?_
        refine lv_iload_n hx hb dX13_sideOf_115 rfl (lv_at hl 3 rfl) ?_
        refine lv_iload hx hb dX13_sideOf_116 (lv_at hl 1 rfl) ?_
        refine lv_iconst (v := 1) hx hb dX13_sideOf_118 (by decide) ?_
        refine lv_isub hx hb dX13_sideOf_119 ?_
        obtain ⟨r_16, u_17, h_18, hF⟩ := ob_some hF
        refine mcV_i (As := [.int a0, .int (r_7 - 1)]) (rest := [.int a0, .ref (Q 72)]) hC hH (m_base l G Z Q u_11 u_17 r_16 a0 (r_7 - 1) _ h_18) kwX13_base kVX13_base ⟨by show _ ≤ 12 * (d + 1) + 20; omega, by show _ ≤ 140 * (d + 1) + 400; omega⟩ rfl hl.1 rfl (Nat.le_of_ble_eq_true rfl) dX13_sideOf_120 (fun H locs hH => ?_)
        refine lv_iconst (v := 2) hx hb dX13_sideOf_123 (by decide) ?_
        refine lv_iload hx hb dX13_sideOf_124 (lv_at hl 0 rfl) ?_
        refine lv_imul hx hb dX13_sideOf_126 ?_
        refine lv_iadd hx hb dX13_sideOf_127 ?_
        refine lv_iload_n hx hb dX13_sideOf_128 rfl (lv_at hl 5 rfl) ?_
        refine lv_iadd hx hb dX13_sideOf_129 ?_
        obtain ⟨r_19, u_20, h_21, hF⟩ := ob_some hF
        refine mcV_i (As := [.int a0, .int ((r_16 + (2 * x_13)) + a2)]) (rest := []) hC hH (hr_winnerOf u_17 u_20 r_19 a0 ((r_16 + (2 * x_13)) + a2) _ h_21) kwX13_winnerOf kVX13_winnerOf ⟨by show _ ≤ 12 * (d + 1) + 20; omega, by show _ ≤ 140 * (d + 1) + 400; omega⟩ rfl hl.1 rfl (Nat.le_of_ble_eq_true rfl) dX13_sideOf_130 (fun H locs hH => ?_)
        exact mr_i hC hH hr hF dX13_sideOf_133 hlocks
      · rw [if_pos c_15] at hF
        refine lv_aload_n hx hb dX13_sideOf_80 rfl (lv_at hl 2 rfl) ?_
        refine mg_14 hC hH dX13_sideOf_81 ?_
        refine lv_bipush (v := 32) hx hb dX13_sideOf_84 (by decide) ?_
        refine lv_iload_n hx hb dX13_sideOf_86 rfl (lv_at hl 3 rfl) ?_
        refine lv_imul hx hb dX13_sideOf_87 ?_
        refine lv_iconst (v := 2) hx hb dX13_sideOf_88 (by decide) ?_
        refine lv_iload hx hb dX13_sideOf_89 (lv_at hl 0 rfl) ?_
        refine lv_imul hx hb dX13_sideOf_91 ?_
        refine lv_iadd hx hb dX13_sideOf_92 ?_
        refine lv_iload_n hx hb dX13_sideOf_93 rfl (lv_at hl 5 rfl) ?_
        refine lv_iadd hx hb dX13_sideOf_94 ?_
        obtain ⟨g_22, hF⟩ := og_some hF
        refine ml_14 hC hH g_22 dX13_sideOf_95 ?_
        obtain ⟨x_23, e_24, hF⟩ := li_some hF
        refine gx_ti e_24 ?_
        refine lv_istore (lv' := [(6, .int x_23), (5, .int x_13), (4, .int r_7), (0, .ref (Q 72)), (1, .int a0), (2, .int a1), (3, .int a2)]) hx hb dX13_sideOf_96 hl (by decide) rfl (fun ls hl => ?_)
        refine lv_iload hx hb dX13_sideOf_98 (lv_at hl 0 rfl) ?_
        refine lv_iconst (v := (-1)) hx hb dX13_sideOf_100 (by decide) ?_
        refine lv_icmp_ne (tgt := 109) hx hb dX13_sideOf_101 (by decide) (fun c_25 => ?_) (fun c_25 => ?_)
        · rw [if_neg c_25] at hF
          refine lv_iload hx hb dX13_sideOf_109 (lv_at hl 0 rfl) ?_
          exact mr_i hC hH hr hF dX13_sideOf_111 hlocks
        · rw [if_pos c_25] at hF
          refine lv_bipush (v := (-2)) hx hb dX13_sideOf_104 (by decide) ?_
          refine lv_goto (tgt := 111) hx hb dX13_sideOf_106 (by decide) ?_
          exact mr_i hC hH hr hF dX13_sideOf_111 hlocks
    · rw [if_neg c_6] at hF
      refine lv_aload_n hx hb dX13_sideOf_37 rfl (lv_at hl 0 rfl) ?_
      refine lv_iload_n hx hb dX13_sideOf_38 rfl (lv_at hl 1 rfl) ?_
      refine lv_aload_n hx hb dX13_sideOf_39 rfl (lv_at hl 0 rfl) ?_
      refine lv_iload_n hx hb dX13_sideOf_40 rfl (lv_at hl 1 rfl) ?_
      refine lv_iload_n hx hb dX13_sideOf_41 rfl (lv_at hl 2 rfl) ?_
      obtain ⟨r_26, u_27, h_28, hF⟩ := ob_some hF
      refine mcV_i (As := [.int a0, .int a1]) (rest := [.int a0, .ref (Q 72)]) hC hH (m_halfOf l G Z Q u_4 u_27 r_26 a0 a1 _ h_28) kwX13_halfOf kVX13_halfOf ⟨by show _ ≤ 12 * (d + 1) + 20; omega, by show _ ≤ 140 * (d + 1) + 400; omega⟩ rfl hl.1 rfl (Nat.le_of_ble_eq_true rfl) dX13_sideOf_42 (fun H locs hH => ?_)
      refine lv_aload_n hx hb dX13_sideOf_45 rfl (lv_at hl 0 rfl) ?_
      refine lv_iload_n hx hb dX13_sideOf_46 rfl (lv_at hl 1 rfl) ?_
      refine lv_iload_n hx hb dX13_sideOf_47 rfl (lv_at hl 2 rfl) ?_
      obtain ⟨r_29, u_30, h_31, hF⟩ := ob_some hF
      refine mcV_i (As := [.int a0, .int a1]) (rest := [.int r_26, .int a0, .ref (Q 72)]) hC hH (m_stepOf l G Z Q u_27 u_30 r_29 a0 a1 _ h_31) kwX13_stepOf kVX13_stepOf ⟨by show _ ≤ 12 * (d + 1) + 20; omega, by show _ ≤ 140 * (d + 1) + 400; omega⟩ rfl hl.1 rfl (Nat.le_of_ble_eq_true rfl) dX13_sideOf_48 (fun H locs hH => ?_)
      refine lv_iload_n hx hb dX13_sideOf_51 rfl (lv_at hl 3 rfl) ?_
      obtain ⟨r_32, u_33, h_34, hF⟩ := ob_some hF
      refine mcV_i (As := [.int a0, .int r_26, .int r_29, .int a2]) (rest := []) hC hH (hr_second u_30 u_33 r_32 a0 r_26 r_29 a2 _ h_34) kwX13_second kVX13_second ⟨by show _ ≤ 12 * (d + 1) + 20; omega, by show _ ≤ 140 * (d + 1) + 400; omega⟩ rfl hl.1 rfl (Nat.le_of_ble_eq_true rfl) dX13_sideOf_52 (fun H locs hH => ?_)
      exact mr_i hC hH hr hF dX13_sideOf_55 hlocks
  · rw [if_pos c_2] at hF
    refine lv_aload_n hx hb dX13_sideOf_10 rfl (lv_at hl 0 rfl) ?_
    refine mg_14 hC hH dX13_sideOf_11 ?_
    refine lv_bipush (v := 32) hx hb dX13_sideOf_14 (by decide) ?_
    refine lv_iload_n hx hb dX13_sideOf_16 rfl (lv_at hl 1 rfl) ?_
    refine lv_imul hx hb dX13_sideOf_17 ?_
    refine lv_aload_n hx hb dX13_sideOf_18 rfl (lv_at hl 0 rfl) ?_
    refine lv_iload_n hx hb dX13_sideOf_19 rfl (lv_at hl 1 rfl) ?_
    refine lv_iload_n hx hb dX13_sideOf_20 rfl (lv_at hl 2 rfl) ?_
    refine lv_iload_n hx hb dX13_sideOf_21 rfl (lv_at hl 3 rfl) ?_
    obtain ⟨r_35, u_36, h_37, hF⟩ := ob_some hF
    refine mcV_i (As := [.int a0, .int a1, .int a2]) (rest := [.int (32 * a0), .ref (Q 14)]) hC hH (m_pair l G Z Q u u_36 r_35 a0 a1 a2 _ h_37) kwX13_pair kVX13_pair ⟨by show _ ≤ 12 * (d + 1) + 20; omega, by show _ ≤ 140 * (d + 1) + 400; omega⟩ rfl hl.1 rfl (Nat.le_of_ble_eq_true rfl) dX13_sideOf_22 (fun H locs hH => ?_)
    refine lv_iadd hx hb dX13_sideOf_25 ?_
    obtain ⟨g_38, hF⟩ := og_some hF
    refine ml_14 hC hH g_38 dX13_sideOf_26 ?_
    exact mr_i hC hH hr hF dX13_sideOf_27 hlocks
set_option maxHeartbeats 4000000 in
set_option maxRecDepth 100000 in
theorem bm_second (l : Launch) (G : gG) (Z : gM) (Q : Nat → Nat) (d : Nat) (F : Nat → Int32 → Int32 → Int32 → Int32 → MS → Option (Int32 × MS)) (hr_sideOf : ∀ (u u1 : MS) (r : Int32) (a0 a1 a2 : Int32) (sz : Nat), F 0 a0 a1 a2 0 u = some (r, u1) → Met l yX13_sideOf (Cond.code yX13_sideOf cX13_sideOf 7 (some .int) :: wM) { frames := 12 * d + 20, cells := 0, slots := 0, locals := 140 * d + 400 } (va_Pc [.ref (Q 72), .int a0, .int a1, .int a2] (mPM G Z Q u sz)) (mQi G Q u1 r sz) 0 0 (mA Q sz)) (hr_second : ∀ (u u1 : MS) (r : Int32) (a0 a1 a2 a3 : Int32) (sz : Nat), F 1 a0 a1 a2 a3 u = some (r, u1) → Met l yX13_second (Cond.code yX13_second cX13_second 5 (some .int) :: wM) { frames := 12 * d + 20, cells := 0, slots := 0, locals := 140 * d + 400 } (va_Pc [.ref (Q 72), .int a0, .int a1, .int a2, .int a3] (mPM G Z Q u sz)) (mQi G Q u1 r sz) 0 0 (mA Q sz)) (hr_loserTo : ∀ (u u1 : MS) (r : Int32) (a0 a1 a2 : Int32) (sz : Nat), F 2 a0 a1 a2 0 u = some (r, u1) → Met l yX13_loserTo (Cond.code yX13_loserTo cX13_loserTo 7 (some .int) :: wM) { frames := 12 * d + 20, cells := 0, slots := 0, locals := 140 * d + 400 } (va_Pc [.ref (Q 72), .int a0, .int a1, .int a2] (mPM G Z Q u sz)) (mQi G Q u1 r sz) 0 0 (mA Q sz)) (hr_winnerOf : ∀ (u u1 : MS) (r : Int32) (a0 a1 : Int32) (sz : Nat), F 3 a0 a1 0 0 u = some (r, u1) → Met l yX13_winnerOf (Cond.code yX13_winnerOf cX13_winnerOf 5 (some .int) :: wM) { frames := 12 * d + 20, cells := 0, slots := 0, locals := 140 * d + 400 } (va_Pc [.ref (Q 72), .int a0, .int a1] (mPM G Z Q u sz)) (mQi G Q u1 r sz) 0 0 (mA Q sz)) (u u1 : MS) (r : Int32) (a0 : Int32) (a1 : Int32) (a2 : Int32) (a3 : Int32) (sz : Nat) (hF : bd_second F a0 a1 a2 a3 u = some (r, u1)) : Met l yX13_second (Cond.code yX13_second cX13_second 5 (some .int) :: wM) { frames := 12 * (d + 1) + 20, cells := 0, slots := 0, locals := 140 * (d + 1) + 400 } (va_Pc [.ref (Q 72), .int a0, .int a1, .int a2, .int a3] (mPM G Z Q u sz)) (mQi G Q u1 r sz) 0 0 (mA Q sz) := by
  refine Met.ofW (cc := cX13_second) (maxL := 5) (ret := (some .int)) (by decide) rfl ?_
  intro p e s m args below meth c s₁ B hml hv
  obtain ⟨rfl, rfl, hP, hB, hD, hE⟩ := hv
  have hr := B.returns
  have hlocks := B.notSynchronized
  have hts := atoms_spec (ws := Cond.code yX13_second cX13_second 5 (some .int) :: wM) B.pre
  have hC : mX p c cX13_second 5 s m _ G Z Q := ⟨B.exec, B.bytes, hml, findClass_of_methodNamed B.named, fun w h => hts w (List.mem_cons_of_mem _ h), hB, hE⟩
  have hx := hC.1
  have hb := hC.2.1
  have hH : mH G Q u s s.heap [] := ⟨hP, hD, va_S.rf⟩
  have hl := lv_entry ([.ref (Q 72), .int a0, .int a1, .int a2, .int a3]) (n := 5) (Nat.le_of_ble_eq_true rfl)
  rw [lg_entry_eq]
  generalize (lg_sl ([.ref (Q 72), .int a0, .int a1, .int a2, .int a3]) ++ List.replicate (5 - (lg_sl ([.ref (Q 72), .int a0, .int a1, .int a2, .int a3])).length) Slot.unset).toArray = ls at hl ⊢
  have hl : lv_has ls 5 [(0, .ref (Q 72)), (1, .int a0), (2, .int a1), (3, .int a2), (4, .int a3)] := hl
  unfold bd_second at hF
  refine lv_iload hx hb dX13_second_0 (lv_at hl 4 rfl) ?_
  refine lv_iconst (v := 1) hx hb dX13_second_2 (by decide) ?_
  refine lv_icmp_ne (tgt := 14) hx hb dX13_second_3 (by decide) (fun c_1 => ?_) (fun c_1 => ?_)
  · rw [if_neg c_1] at hF
    refine lv_iload_n hx hb dX13_second_14 rfl (lv_at hl 3 rfl) ?_
    refine lv_iconst (v := 1) hx hb dX13_second_15 (by decide) ?_
    refine lv_icmp_le (tgt := 47) hx hb dX13_second_16 (by decide) (fun c_2 => ?_) (fun c_2 => ?_)
    · rw [if_pos c_2] at hF
      refine lv_aload_n hx hb dX13_second_47 rfl (lv_at hl 0 rfl) ?_
      refine lv_iload_n hx hb dX13_second_48 rfl (lv_at hl 1 rfl) ?_
      refine lv_iload_n hx hb dX13_second_49 rfl (lv_at hl 2 rfl) ?_
      refine lv_iconst (v := 0) hx hb dX13_second_50 (by decide) ?_
      obtain ⟨r_3, u_4, h_5, hF⟩ := ob_some hF
      refine mcV_i (As := [.int a0, .int a1, .int 0]) (rest := []) hC hH (hr_loserTo u u_4 r_3 a0 a1 0 _ h_5) kwX13_loserTo kVX13_loserTo ⟨by show _ ≤ 12 * (d + 1) + 20; omega, by show _ ≤ 140 * (d + 1) + 400; omega⟩ rfl hl.1 rfl (Nat.le_of_ble_eq_true rfl) dX13_second_51 (fun H locs hH => ?_)
      exact mr_i hC hH hr hF dX13_second_54 hlocks
    · rw [if_neg c_2] at hF
      refine lv_aload_n hx hb dX13_second_19 rfl (lv_at hl 0 rfl) ?_
      refine lv_iload_n hx hb dX13_second_20 rfl (lv_at hl 1 rfl) ?_
      refine lv_aload_n hx hb dX13_second_21 rfl (lv_at hl 0 rfl) ?_
      refine mg_13 hC hH dX13_second_22 ?_
      refine lv_iload_n hx hb dX13_second_25 rfl (lv_at hl 1 rfl) ?_
      obtain ⟨g_6, hF⟩ := og_some hF
      refine ml_13 hC hH g_6 dX13_second_26 ?_
      refine lv_iconst (v := 1) hx hb dX13_second_27 (by decide) ?_
      refine lv_isub hx hb dX13_second_28 ?_
      refine lv_iload_n hx hb dX13_second_29 rfl (lv_at hl 2 rfl) ?_
      refine lv_aload_n hx hb dX13_second_30 rfl (lv_at hl 0 rfl) ?_
      refine lv_iload_n hx hb dX13_second_31 rfl (lv_at hl 1 rfl) ?_
      obtain ⟨r_7, u_8, h_9, hF⟩ := ob_some hF
      refine mcV_i (As := [.int a0]) (rest := [.int a1, .int ((ra u 13 a0) - 1), .int a0, .ref (Q 72)]) hC hH (m_rounds l G Z Q u u_8 r_7 a0 _ h_9) kwX13_rounds kVX13_rounds ⟨by show _ ≤ 12 * (d + 1) + 20; omega, by show _ ≤ 140 * (d + 1) + 400; omega⟩ rfl hl.1 rfl (Nat.le_of_ble_eq_true rfl) dX13_second_32 (fun H locs hH => ?_)
      refine lv_iconst (v := 1) hx hb dX13_second_35 (by decide) ?_
      refine lv_isub hx hb dX13_second_36 ?_
      refine lv_imul hx hb dX13_second_37 ?_
      refine lv_iadd hx hb dX13_second_38 ?_
      refine lv_iload_n hx hb dX13_second_39 rfl (lv_at hl 3 rfl) ?_
      refine lv_iadd hx hb dX13_second_40 ?_
      refine lv_iconst (v := 2) hx hb dX13_second_41 (by decide) ?_
      refine lv_isub hx hb dX13_second_42 ?_
      obtain ⟨r_10, u_11, h_12, hF⟩ := ob_some hF
      refine mcV_i (As := [.int a0, .int (((((ra u 13 a0) - 1) + (a1 * (r_7 - 1))) + a2) - 2)]) (rest := []) hC hH (hr_winnerOf u_8 u_11 r_10 a0 (((((ra u 13 a0) - 1) + (a1 * (r_7 - 1))) + a2) - 2) _ h_12) kwX13_winnerOf kVX13_winnerOf ⟨by show _ ≤ 12 * (d + 1) + 20; omega, by show _ ≤ 140 * (d + 1) + 400; omega⟩ rfl hl.1 rfl (Nat.le_of_ble_eq_true rfl) dX13_second_43 (fun H locs hH => ?_)
      exact mr_i hC hH hr hF dX13_second_46 hlocks
  · rw [if_pos c_1] at hF
    refine lv_aload_n hx hb dX13_second_6 rfl (lv_at hl 0 rfl) ?_
    refine lv_iload_n hx hb dX13_second_7 rfl (lv_at hl 1 rfl) ?_
    refine lv_iload_n hx hb dX13_second_8 rfl (lv_at hl 2 rfl) ?_
    refine lv_iload_n hx hb dX13_second_9 rfl (lv_at hl 3 rfl) ?_
    obtain ⟨r_13, u_14, h_15, hF⟩ := ob_some hF
    refine mcV_i (As := [.int a0, .int a1, .int a2]) (rest := []) hC hH (hr_loserTo u u_14 r_13 a0 a1 a2 _ h_15) kwX13_loserTo kVX13_loserTo ⟨by show _ ≤ 12 * (d + 1) + 20; omega, by show _ ≤ 140 * (d + 1) + 400; omega⟩ rfl hl.1 rfl (Nat.le_of_ble_eq_true rfl) dX13_second_10 (fun H locs hH => ?_)
    exact mr_i hC hH hr hF dX13_second_13 hlocks
set_option maxHeartbeats 4000000 in
set_option maxRecDepth 100000 in
theorem bm_loserTo (l : Launch) (G : gG) (Z : gM) (Q : Nat → Nat) (d : Nat) (F : Nat → Int32 → Int32 → Int32 → Int32 → MS → Option (Int32 × MS)) (hr_sideOf : ∀ (u u1 : MS) (r : Int32) (a0 a1 a2 : Int32) (sz : Nat), F 0 a0 a1 a2 0 u = some (r, u1) → Met l yX13_sideOf (Cond.code yX13_sideOf cX13_sideOf 7 (some .int) :: wM) { frames := 12 * d + 20, cells := 0, slots := 0, locals := 140 * d + 400 } (va_Pc [.ref (Q 72), .int a0, .int a1, .int a2] (mPM G Z Q u sz)) (mQi G Q u1 r sz) 0 0 (mA Q sz)) (hr_second : ∀ (u u1 : MS) (r : Int32) (a0 a1 a2 a3 : Int32) (sz : Nat), F 1 a0 a1 a2 a3 u = some (r, u1) → Met l yX13_second (Cond.code yX13_second cX13_second 5 (some .int) :: wM) { frames := 12 * d + 20, cells := 0, slots := 0, locals := 140 * d + 400 } (va_Pc [.ref (Q 72), .int a0, .int a1, .int a2, .int a3] (mPM G Z Q u sz)) (mQi G Q u1 r sz) 0 0 (mA Q sz)) (hr_loserTo : ∀ (u u1 : MS) (r : Int32) (a0 a1 a2 : Int32) (sz : Nat), F 2 a0 a1 a2 0 u = some (r, u1) → Met l yX13_loserTo (Cond.code yX13_loserTo cX13_loserTo 7 (some .int) :: wM) { frames := 12 * d + 20, cells := 0, slots := 0, locals := 140 * d + 400 } (va_Pc [.ref (Q 72), .int a0, .int a1, .int a2] (mPM G Z Q u sz)) (mQi G Q u1 r sz) 0 0 (mA Q sz)) (hr_winnerOf : ∀ (u u1 : MS) (r : Int32) (a0 a1 : Int32) (sz : Nat), F 3 a0 a1 0 0 u = some (r, u1) → Met l yX13_winnerOf (Cond.code yX13_winnerOf cX13_winnerOf 5 (some .int) :: wM) { frames := 12 * d + 20, cells := 0, slots := 0, locals := 140 * d + 400 } (va_Pc [.ref (Q 72), .int a0, .int a1] (mPM G Z Q u sz)) (mQi G Q u1 r sz) 0 0 (mA Q sz)) (u u1 : MS) (r : Int32) (a0 : Int32) (a1 : Int32) (a2 : Int32) (sz : Nat) (hF : bd_loserTo F a0 a1 a2 u = some (r, u1)) : Met l yX13_loserTo (Cond.code yX13_loserTo cX13_loserTo 7 (some .int) :: wM) { frames := 12 * (d + 1) + 20, cells := 0, slots := 0, locals := 140 * (d + 1) + 400 } (va_Pc [.ref (Q 72), .int a0, .int a1, .int a2] (mPM G Z Q u sz)) (mQi G Q u1 r sz) 0 0 (mA Q sz) := by
  refine Met.ofW (cc := cX13_loserTo) (maxL := 7) (ret := (some .int)) (by decide) rfl ?_
  intro p e s m args below meth c s₁ B hml hv
  obtain ⟨rfl, rfl, hP, hB, hD, hE⟩ := hv
  have hr := B.returns
  have hlocks := B.notSynchronized
  have hts := atoms_spec (ws := Cond.code yX13_loserTo cX13_loserTo 7 (some .int) :: wM) B.pre
  have hC : mX p c cX13_loserTo 7 s m _ G Z Q := ⟨B.exec, B.bytes, hml, findClass_of_methodNamed B.named, fun w h => hts w (List.mem_cons_of_mem _ h), hB, hE⟩
  have hx := hC.1
  have hb := hC.2.1
  have hH : mH G Q u s s.heap [] := ⟨hP, hD, va_S.rf⟩
  have hl := lv_entry ([.ref (Q 72), .int a0, .int a1, .int a2]) (n := 7) (Nat.le_of_ble_eq_true rfl)
  rw [lg_entry_eq]
  generalize (lg_sl ([.ref (Q 72), .int a0, .int a1, .int a2]) ++ List.replicate (7 - (lg_sl ([.ref (Q 72), .int a0, .int a1, .int a2])).length) Slot.unset).toArray = ls at hl ⊢
  have hl : lv_has ls 7 [(0, .ref (Q 72)), (1, .int a0), (2, .int a1), (3, .int a2)] := hl
  unfold bd_loserTo at hF
  refine lv_aload_n hx hb dX13_loserTo_0 rfl (lv_at hl 0 rfl) ?_
  refine lv_iload_n hx hb dX13_loserTo_1 rfl (lv_at hl 1 rfl) ?_
  refine lv_aload_n hx hb dX13_loserTo_2 rfl (lv_at hl 0 rfl) ?_
  refine lv_iload_n hx hb dX13_loserTo_3 rfl (lv_at hl 1 rfl) ?_
  refine lv_aload_n hx hb dX13_loserTo_4 rfl (lv_at hl 0 rfl) ?_
  refine lv_iload_n hx hb dX13_loserTo_5 rfl (lv_at hl 1 rfl) ?_
  obtain ⟨r_1, u_2, h_3, hF⟩ := ob_some hF
  refine mcV_i (As := [.int a0]) (rest := [.int a0, .ref (Q 72), .int a0, .ref (Q 72)]) hC hH (m_rounds l G Z Q u u_2 r_1 a0 _ h_3) kwX13_rounds kVX13_rounds ⟨by show _ ≤ 12 * (d + 1) + 20; omega, by show _ ≤ 140 * (d + 1) + 400; omega⟩ rfl hl.1 rfl (Nat.le_of_ble_eq_true rfl) dX13_loserTo_6 (fun H locs hH => ?_)
  refine lv_iconst (v := 1) hx hb dX13_loserTo_9 (by decide) ?_
  refine lv_isub hx hb dX13_loserTo_10 ?_
  obtain ⟨r_4, u_5, h_6, hF⟩ := ob_some hF
  refine mcV_i (As := [.int a0, .int (r_1 - 1)]) (rest := [.int a0, .ref (Q 72)]) hC hH (m_base l G Z Q u_2 u_5 r_4 a0 (r_1 - 1) _ h_6) kwX13_base kVX13_base ⟨by show _ ≤ 12 * (d + 1) + 20; omega, by show _ ≤ 140 * (d + 1) + 400; omega⟩ rfl hl.1 rfl (Nat.le_of_ble_eq_true rfl) dX13_loserTo_11 (fun H locs hH => ?_)
  refine lv_iload_n hx hb dX13_loserTo_14 rfl (lv_at hl 2 rfl) ?_
  refine lv_iadd hx hb dX13_loserTo_15 ?_
  obtain ⟨r_7, u_8, h_9, hF⟩ := ob_some hF
  refine mcV_i (As := [.int a0, .int (r_4 + a1)]) (rest := []) hC hH (hr_winnerOf u_5 u_8 r_7 a0 (r_4 + a1) _ h_9) kwX13_winnerOf kVX13_winnerOf ⟨by show _ ≤ 12 * (d + 1) + 20; omega, by show _ ≤ 140 * (d + 1) + 400; omega⟩ rfl hl.1 rfl (Nat.le_of_ble_eq_true rfl) dX13_loserTo_16 (fun H locs hH => ?_)
  refine lv_istore (lv' := [(4, .int r_7), (0, .ref (Q 72)), (1, .int a0), (2, .int a1), (3, .int a2)]) hx hb dX13_loserTo_19 hl (by decide) rfl (fun ls hl => ?_)
  refine lv_iload hx hb dX13_loserTo_21 (lv_at hl 0 rfl) ?_
  refine lv_iconst (v := (-1)) hx hb dX13_loserTo_23 (by decide) ?_
  refine lv_icmp_ne (tgt := 29) hx hb dX13_loserTo_24 (by decide) (fun c_10 => ?_) (fun c_10 => ?_)
  · rw [if_neg c_10] at hF
    refine lv_aload_n hx hb dX13_loserTo_29 rfl (lv_at hl 1 rfl) ?_
    refine lv_iload_n hx hb dX13_loserTo_30 rfl (lv_at hl 2 rfl) ?_
    refine lv_iload_n hx hb dX13_loserTo_31 rfl (lv_at hl 4 rfl) ?_
    obtain ⟨r_11, u_12, h_13, hF⟩ := ob_some hF
    refine mcV_i (As := [.int a0, .int a2]) (rest := []) hC hH (m_base l G Z Q u_8 u_12 r_11 a0 a2 _ h_13) kwX13_base kVX13_base ⟨by show _ ≤ 12 * (d + 1) + 20; omega, by show _ ≤ 140 * (d + 1) + 400; omega⟩ rfl hl.1 rfl (Nat.le_of_ble_eq_true rfl) dX13_loserTo_32 (fun H locs hH => ?_)
    refine lv_aload_n hx hb dX13_loserTo_35 rfl (lv_at hl 1 rfl) ?_
    refine mg_10 hC hH dX13_loserTo_36 ?_
    refine lv_iload hx hb dX13_loserTo_39 (lv_at hl 0 rfl) ?_
    obtain ⟨g_14, hF⟩ := og_some hF
    refine ml_10 hC hH g_14 dX13_loserTo_41 ?_
    refine lv_iload_n hx hb dX13_loserTo_42 rfl (lv_at hl 4 rfl) ?_
    refine lv_iconst (v := 1) hx hb dX13_loserTo_43 (by decide) ?_
    refine lv_iadd hx hb dX13_loserTo_44 ?_
    refine lv_ishr hx hb dX13_loserTo_45 ?_
    refine lv_iadd hx hb dX13_loserTo_46 ?_
    obtain ⟨x_15, e_16, hF⟩ := li_some hF
    refine gx_ti e_16 ?_
    refine lv_istore (lv' := [(5, .int x_15), (4, .int r_7), (0, .ref (Q 72)), (1, .int a0), (2, .int a1), (3, .int a2)]) hx hb dX13_loserTo_47 hl (by decide) rfl (fun ls hl => ?_)
    refine lv_aload_n hx hb dX13_loserTo_49 rfl (lv_at hl 2 rfl) ?_
    refine lv_iload_n hx hb dX13_loserTo_50 rfl (lv_at hl 3 rfl) ?_
    refine lv_iload hx hb dX13_loserTo_51 (lv_at hl 0 rfl) ?_
    refine lv_iconst (v := 0) hx hb dX13_loserTo_53 (by decide) ?_
    obtain ⟨r_17, u_18, h_19, hF⟩ := ob_some hF
    refine mcV_i (As := [.int a0, .int x_15, .int 0]) (rest := []) hC hH (hr_sideOf u_12 u_18 r_17 a0 x_15 0 _ h_19) kwX13_sideOf kVX13_sideOf ⟨by show _ ≤ 12 * (d + 1) + 20; omega, by show _ ≤ 140 * (d + 1) + 400; omega⟩ rfl hl.1 rfl (Nat.le_of_ble_eq_true rfl) dX13_loserTo_54 (fun H locs hH => ?_)
    refine lv_istore (lv' := [(6, .int r_17), (5, .int x_15), (4, .int r_7), (0, .ref (Q 72)), (1, .int a0), (2, .int a1), (3, .int a2)]) hx hb dX13_loserTo_57 hl (by decide) rfl (fun ls hl => ?_)
    refine lv_iload hx hb dX13_loserTo_59 (lv_at hl 0 rfl) ?_
    refine lv_iload hx hb dX13_loserTo_61 (lv_at hl 2 rfl) ?_
    refine lv_icmp_ne (tgt := 77) hx hb dX13_loserTo_63 (by decide) (fun c_20 => ?_) (fun c_20 => ?_)
    · rw [if_neg c_20] at hF
      refine lv_iload hx hb dX13_loserTo_77 (lv_at hl 0 rfl) ?_
      exact mr_i hC hH hr hF dX13_loserTo_79 hlocks
    · rw [if_pos c_20] at hF
      refine lv_aload_n hx hb dX13_loserTo_66 rfl (lv_at hl 3 rfl) ?_
      refine lv_iload_n hx hb dX13_loserTo_67 rfl (lv_at hl 4 rfl) ?_
      refine lv_iload hx hb dX13_loserTo_68 (lv_at hl 1 rfl) ?_
      refine lv_iconst (v := 1) hx hb dX13_loserTo_70 (by decide) ?_
      obtain ⟨r_21, u_22, h_23, hF⟩ := ob_some hF
      refine mcV_i (As := [.int a0, .int x_15, .int 1]) (rest := []) hC hH (hr_sideOf u_18 u_22 r_21 a0 x_15 1 _ h_23) kwX13_sideOf kVX13_sideOf ⟨by show _ ≤ 12 * (d + 1) + 20; omega, by show _ ≤ 140 * (d + 1) + 400; omega⟩ rfl hl.1 rfl (Nat.le_of_ble_eq_true rfl) dX13_loserTo_71 (fun H locs hH => ?_)
      refine lv_goto (tgt := 79) hx hb dX13_loserTo_74 (by decide) ?_
      exact mr_i hC hH hr hF dX13_loserTo_79 hlocks
  · rw [if_pos c_10] at hF
    refine lv_iconst (v := (-1)) hx hb dX13_loserTo_27 (by decide) ?_
    exact mr_i hC hH hr hF dX13_loserTo_28 hlocks
set_option maxHeartbeats 4000000 in
set_option maxRecDepth 100000 in
theorem bm_winnerOf (l : Launch) (G : gG) (Z : gM) (Q : Nat → Nat) (d : Nat) (F : Nat → Int32 → Int32 → Int32 → Int32 → MS → Option (Int32 × MS)) (hr_sideOf : ∀ (u u1 : MS) (r : Int32) (a0 a1 a2 : Int32) (sz : Nat), F 0 a0 a1 a2 0 u = some (r, u1) → Met l yX13_sideOf (Cond.code yX13_sideOf cX13_sideOf 7 (some .int) :: wM) { frames := 12 * d + 20, cells := 0, slots := 0, locals := 140 * d + 400 } (va_Pc [.ref (Q 72), .int a0, .int a1, .int a2] (mPM G Z Q u sz)) (mQi G Q u1 r sz) 0 0 (mA Q sz)) (hr_second : ∀ (u u1 : MS) (r : Int32) (a0 a1 a2 a3 : Int32) (sz : Nat), F 1 a0 a1 a2 a3 u = some (r, u1) → Met l yX13_second (Cond.code yX13_second cX13_second 5 (some .int) :: wM) { frames := 12 * d + 20, cells := 0, slots := 0, locals := 140 * d + 400 } (va_Pc [.ref (Q 72), .int a0, .int a1, .int a2, .int a3] (mPM G Z Q u sz)) (mQi G Q u1 r sz) 0 0 (mA Q sz)) (hr_loserTo : ∀ (u u1 : MS) (r : Int32) (a0 a1 a2 : Int32) (sz : Nat), F 2 a0 a1 a2 0 u = some (r, u1) → Met l yX13_loserTo (Cond.code yX13_loserTo cX13_loserTo 7 (some .int) :: wM) { frames := 12 * d + 20, cells := 0, slots := 0, locals := 140 * d + 400 } (va_Pc [.ref (Q 72), .int a0, .int a1, .int a2] (mPM G Z Q u sz)) (mQi G Q u1 r sz) 0 0 (mA Q sz)) (hr_winnerOf : ∀ (u u1 : MS) (r : Int32) (a0 a1 : Int32) (sz : Nat), F 3 a0 a1 0 0 u = some (r, u1) → Met l yX13_winnerOf (Cond.code yX13_winnerOf cX13_winnerOf 5 (some .int) :: wM) { frames := 12 * d + 20, cells := 0, slots := 0, locals := 140 * d + 400 } (va_Pc [.ref (Q 72), .int a0, .int a1] (mPM G Z Q u sz)) (mQi G Q u1 r sz) 0 0 (mA Q sz)) (u u1 : MS) (r : Int32) (a0 : Int32) (a1 : Int32) (sz : Nat) (hF : bd_winnerOf F a0 a1 u = some (r, u1)) : Met l yX13_winnerOf (Cond.code yX13_winnerOf cX13_winnerOf 5 (some .int) :: wM) { frames := 12 * (d + 1) + 20, cells := 0, slots := 0, locals := 140 * (d + 1) + 400 } (va_Pc [.ref (Q 72), .int a0, .int a1] (mPM G Z Q u sz)) (mQi G Q u1 r sz) 0 0 (mA Q sz) := by
  refine Met.ofW (cc := cX13_winnerOf) (maxL := 5) (ret := (some .int)) (by decide) rfl ?_
  intro p e s m args below meth c s₁ B hml hv
  obtain ⟨rfl, rfl, hP, hB, hD, hE⟩ := hv
  have hr := B.returns
  have hlocks := B.notSynchronized
  have hts := atoms_spec (ws := Cond.code yX13_winnerOf cX13_winnerOf 5 (some .int) :: wM) B.pre
  have hC : mX p c cX13_winnerOf 5 s m _ G Z Q := ⟨B.exec, B.bytes, hml, findClass_of_methodNamed B.named, fun w h => hts w (List.mem_cons_of_mem _ h), hB, hE⟩
  have hx := hC.1
  have hb := hC.2.1
  have hH : mH G Q u s s.heap [] := ⟨hP, hD, va_S.rf⟩
  have hl := lv_entry ([.ref (Q 72), .int a0, .int a1]) (n := 5) (Nat.le_of_ble_eq_true rfl)
  rw [lg_entry_eq]
  generalize (lg_sl ([.ref (Q 72), .int a0, .int a1]) ++ List.replicate (5 - (lg_sl ([.ref (Q 72), .int a0, .int a1])).length) Slot.unset).toArray = ls at hl ⊢
  have hl : lv_has ls 5 [(0, .ref (Q 72)), (1, .int a0), (2, .int a1)] := hl
  unfold bd_winnerOf at hF
  refine lv_aload_n hx hb dX13_winnerOf_0 rfl (lv_at hl 0 rfl) ?_
  refine mg_15 hC hH dX13_winnerOf_1 ?_
  refine lv_bipush (v := 40) hx hb dX13_winnerOf_4 (by decide) ?_
  refine lv_iload_n hx hb dX13_winnerOf_6 rfl (lv_at hl 1 rfl) ?_
  refine lv_imul hx hb dX13_winnerOf_7 ?_
  refine lv_iload_n hx hb dX13_winnerOf_8 rfl (lv_at hl 2 rfl) ?_
  refine lv_iadd hx hb dX13_winnerOf_9 ?_
  obtain ⟨g_1, hF⟩ := og_some hF
  refine ml_15 hC hH g_1 dX13_winnerOf_10 ?_
  refine lv_iconst (v := 2) hx hb dX13_winnerOf_11 (by decide) ?_
  refine lv_icmp_ne (tgt := 27) hx hb dX13_winnerOf_12 (by decide) (fun c_2 => ?_) (fun c_2 => ?_)
  · rw [if_neg c_2] at hF
    refine lv_aload_n hx hb dX13_winnerOf_27 rfl (lv_at hl 0 rfl) ?_
    refine lv_iload_n hx hb dX13_winnerOf_28 rfl (lv_at hl 1 rfl) ?_
    refine lv_iload_n hx hb dX13_winnerOf_29 rfl (lv_at hl 2 rfl) ?_
    refine lv_iconst (v := 0) hx hb dX13_winnerOf_30 (by decide) ?_
    obtain ⟨r_3, u_4, h_5, hF⟩ := ob_some hF
    refine mcV_i (As := [.int a0, .int a1, .int 0]) (rest := []) hC hH (hr_sideOf u u_4 r_3 a0 a1 0 _ h_5) kwX13_sideOf kVX13_sideOf ⟨by show _ ≤ 12 * (d + 1) + 20; omega, by show _ ≤ 140 * (d + 1) + 400; omega⟩ rfl hl.1 rfl (Nat.le_of_ble_eq_true rfl) dX13_winnerOf_31 (fun H locs hH => ?_)
    refine lv_istore_n (lv' := [(3, .int r_3), (0, .ref (Q 72)), (1, .int a0), (2, .int a1)]) hx hb dX13_winnerOf_34 rfl hl (by decide) rfl (fun ls hl => ?_)
    refine lv_aload_n hx hb dX13_winnerOf_35 rfl (lv_at hl 1 rfl) ?_
    refine lv_iload_n hx hb dX13_winnerOf_36 rfl (lv_at hl 2 rfl) ?_
    refine lv_iload_n hx hb dX13_winnerOf_37 rfl (lv_at hl 3 rfl) ?_
    refine lv_iconst (v := 1) hx hb dX13_winnerOf_38 (by decide) ?_
    obtain ⟨r_6, u_7, h_8, hF⟩ := ob_some hF
    refine mcV_i (As := [.int a0, .int a1, .int 1]) (rest := []) hC hH (hr_sideOf u_4 u_7 r_6 a0 a1 1 _ h_8) kwX13_sideOf kVX13_sideOf ⟨by show _ ≤ 12 * (d + 1) + 20; omega, by show _ ≤ 140 * (d + 1) + 400; omega⟩ rfl hl.1 rfl (Nat.le_of_ble_eq_true rfl) dX13_winnerOf_39 (fun H locs hH => ?_)
    refine lv_istore (lv' := [(4, .int r_6), (3, .int r_3), (0, .ref (Q 72)), (1, .int a0), (2, .int a1)]) hx hb dX13_winnerOf_42 hl (by decide) rfl (fun ls hl => ?_)
    refine lv_iload_n hx hb dX13_winnerOf_44 rfl (lv_at hl 1 rfl) ?_
    refine lv_bipush (v := (-2)) hx hb dX13_winnerOf_45 (by decide) ?_
    refine lv_icmp_ne (tgt := 55) hx hb dX13_winnerOf_47 (by decide) (fun c_9 => ?_) (fun c_9 => ?_)
    · rw [if_neg c_9] at hF
      refine lv_iload hx hb dX13_winnerOf_55 (lv_at hl 0 rfl) ?_
      refine lv_bipush (v := (-2)) hx hb dX13_winnerOf_57 (by decide) ?_
      refine lv_icmp_ne (tgt := 66) hx hb dX13_winnerOf_59 (by decide) (fun c_10 => ?_) (fun c_10 => ?_)
      · rw [if_neg c_10] at hF
        refine lv_iconst (v := (-1)) hx hb dX13_winnerOf_66 (by decide) ?_
        exact mr_i hC hH hr hF dX13_winnerOf_67 hlocks
      · rw [if_pos c_10] at hF
        refine lv_iload_n hx hb dX13_winnerOf_62 rfl (lv_at hl 1 rfl) ?_
        refine lv_goto (tgt := 67) hx hb dX13_winnerOf_63 (by decide) ?_
        exact mr_i hC hH hr hF dX13_winnerOf_67 hlocks
    · rw [if_pos c_9] at hF
      refine lv_iload hx hb dX13_winnerOf_50 (lv_at hl 0 rfl) ?_
      refine lv_goto (tgt := 67) hx hb dX13_winnerOf_52 (by decide) ?_
      exact mr_i hC hH hr hF dX13_winnerOf_67 hlocks
  · rw [if_pos c_2] at hF
    refine lv_aload_n hx hb dX13_winnerOf_15 rfl (lv_at hl 0 rfl) ?_
    refine mg_18 hC hH dX13_winnerOf_16 ?_
    refine lv_bipush (v := 40) hx hb dX13_winnerOf_19 (by decide) ?_
    refine lv_iload_n hx hb dX13_winnerOf_21 rfl (lv_at hl 1 rfl) ?_
    refine lv_imul hx hb dX13_winnerOf_22 ?_
    refine lv_iload_n hx hb dX13_winnerOf_23 rfl (lv_at hl 2 rfl) ?_
    refine lv_iadd hx hb dX13_winnerOf_24 ?_
    obtain ⟨g_11, hF⟩ := og_some hF
    refine ml_18 hC hH g_11 dX13_winnerOf_25 ?_
    exact mr_i hC hH hr hF dX13_winnerOf_26 hlocks
def fS : Nat → Nat → Int32 → Int32 → Int32 → Int32 → MS → Option (Int32 × MS)
  | 0, _, _, _, _, _, _ => none
  | d + 1, w, a0, a1, a2, a3, u => if w = 0 then bd_sideOf (fS d) a0 a1 a2 u else if w = 1 then bd_second (fS d) a0 a1 a2 a3 u else if w = 2 then bd_loserTo (fS d) a0 a1 a2 u else bd_winnerOf (fS d) a0 a1 u
theorem grpS (l : Launch) (G : gG) (Z : gM) (Q : Nat → Nat) : ∀ d : Nat, (∀ (u u1 : MS) (r : Int32) (a0 a1 a2 : Int32) (sz : Nat), fS d 0 a0 a1 a2 0 u = some (r, u1) → Met l yX13_sideOf (Cond.code yX13_sideOf cX13_sideOf 7 (some .int) :: wM) { frames := 12 * d + 20, cells := 0, slots := 0, locals := 140 * d + 400 } (va_Pc [.ref (Q 72), .int a0, .int a1, .int a2] (mPM G Z Q u sz)) (mQi G Q u1 r sz) 0 0 (mA Q sz)) ∧ (∀ (u u1 : MS) (r : Int32) (a0 a1 a2 a3 : Int32) (sz : Nat), fS d 1 a0 a1 a2 a3 u = some (r, u1) → Met l yX13_second (Cond.code yX13_second cX13_second 5 (some .int) :: wM) { frames := 12 * d + 20, cells := 0, slots := 0, locals := 140 * d + 400 } (va_Pc [.ref (Q 72), .int a0, .int a1, .int a2, .int a3] (mPM G Z Q u sz)) (mQi G Q u1 r sz) 0 0 (mA Q sz)) ∧ (∀ (u u1 : MS) (r : Int32) (a0 a1 a2 : Int32) (sz : Nat), fS d 2 a0 a1 a2 0 u = some (r, u1) → Met l yX13_loserTo (Cond.code yX13_loserTo cX13_loserTo 7 (some .int) :: wM) { frames := 12 * d + 20, cells := 0, slots := 0, locals := 140 * d + 400 } (va_Pc [.ref (Q 72), .int a0, .int a1, .int a2] (mPM G Z Q u sz)) (mQi G Q u1 r sz) 0 0 (mA Q sz)) ∧ (∀ (u u1 : MS) (r : Int32) (a0 a1 : Int32) (sz : Nat), fS d 3 a0 a1 0 0 u = some (r, u1) → Met l yX13_winnerOf (Cond.code yX13_winnerOf cX13_winnerOf 5 (some .int) :: wM) { frames := 12 * d + 20, cells := 0, slots := 0, locals := 140 * d + 400 } (va_Pc [.ref (Q 72), .int a0, .int a1] (mPM G Z Q u sz)) (mQi G Q u1 r sz) 0 0 (mA Q sz)) := by
  intro d
  induction d with
  | zero => exact ⟨(fun u u1 r a0 a1 a2 sz hF => by cases hF), (fun u u1 r a0 a1 a2 a3 sz hF => by cases hF), (fun u u1 r a0 a1 a2 sz hF => by cases hF), (fun u u1 r a0 a1 sz hF => by cases hF)⟩
  | succ d ih =>
    obtain ⟨i0, i1, i2, i3⟩ := ih
    exact ⟨(fun u u1 r a0 a1 a2 sz hF => bm_sideOf l G Z Q d (fS d) i0 i1 i2 i3 u u1 r a0 a1 a2 sz hF), (fun u u1 r a0 a1 a2 a3 sz hF => bm_second l G Z Q d (fS d) i0 i1 i2 i3 u u1 r a0 a1 a2 a3 sz hF), (fun u u1 r a0 a1 a2 sz hF => bm_loserTo l G Z Q d (fS d) i0 i1 i2 i3 u u1 r a0 a1 a2 sz hF), (fun u u1 r a0 a1 sz hF => bm_winnerOf l G Z Q d (fS d) i0 i1 i2 i3 u u1 r a0 a1 sz hF)⟩
theorem m_sideOf (l : Launch) (G : gG) (Z : gM) (Q : Nat → Nat) (u u1 : MS) (r : Int32) (a0 a1 a2 : Int32) (sz : Nat) (hF : fS 24 0 a0 a1 a2 0 u = some (r, u1)) : Met l yX13_sideOf (Cond.code yX13_sideOf cX13_sideOf 7 (some .int) :: wM) { frames := 308, cells := 0, slots := 0, locals := 3760 } (va_Pc [.ref (Q 72), .int a0, .int a1, .int a2] (mPM G Z Q u sz)) (mQi G Q u1 r sz) 0 0 (mA Q sz) := (grpS l G Z Q 24).1 u u1 r a0 a1 a2 sz hF
theorem m_second (l : Launch) (G : gG) (Z : gM) (Q : Nat → Nat) (u u1 : MS) (r : Int32) (a0 a1 a2 a3 : Int32) (sz : Nat) (hF : fS 24 1 a0 a1 a2 a3 u = some (r, u1)) : Met l yX13_second (Cond.code yX13_second cX13_second 5 (some .int) :: wM) { frames := 308, cells := 0, slots := 0, locals := 3760 } (va_Pc [.ref (Q 72), .int a0, .int a1, .int a2, .int a3] (mPM G Z Q u sz)) (mQi G Q u1 r sz) 0 0 (mA Q sz) := (grpS l G Z Q 24).2.1 u u1 r a0 a1 a2 a3 sz hF
theorem m_loserTo (l : Launch) (G : gG) (Z : gM) (Q : Nat → Nat) (u u1 : MS) (r : Int32) (a0 a1 a2 : Int32) (sz : Nat) (hF : fS 24 2 a0 a1 a2 0 u = some (r, u1)) : Met l yX13_loserTo (Cond.code yX13_loserTo cX13_loserTo 7 (some .int) :: wM) { frames := 308, cells := 0, slots := 0, locals := 3760 } (va_Pc [.ref (Q 72), .int a0, .int a1, .int a2] (mPM G Z Q u sz)) (mQi G Q u1 r sz) 0 0 (mA Q sz) := (grpS l G Z Q 24).2.2.1 u u1 r a0 a1 a2 sz hF
theorem m_winnerOf (l : Launch) (G : gG) (Z : gM) (Q : Nat → Nat) (u u1 : MS) (r : Int32) (a0 a1 : Int32) (sz : Nat) (hF : fS 24 3 a0 a1 0 0 u = some (r, u1)) : Met l yX13_winnerOf (Cond.code yX13_winnerOf cX13_winnerOf 5 (some .int) :: wM) { frames := 308, cells := 0, slots := 0, locals := 3760 } (va_Pc [.ref (Q 72), .int a0, .int a1] (mPM G Z Q u sz)) (mQi G Q u1 r sz) 0 0 (mA Q sz) := (grpS l G Z Q 24).2.2.2 u u1 r a0 a1 sz hF
