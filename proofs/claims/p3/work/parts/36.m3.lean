def f_fighter (a0 : Int32) (a1 : Int32) (u : MS) : Option (Int32 × MS) := ob (f_isFighter a0 u) (fun r_1 u_2 => (if r_1 = 0 then some (-1, u_2) else (if a1 = 0 then og (gi a0 96) (some (ra u_2 5 a0, u_2)) else if a1 = 1 then og (gi a0 96) (some (ra u_2 6 a0, u_2)) else if a1 = 2 then og (gi a0 96) (some (ra u_2 7 a0, u_2)) else if a1 = 3 then og (gi a0 96) (some (ra u_2 8 a0, u_2)) else if a1 = 4 then og (gi a0 96) (some (ra u_2 9 a0, u_2)) else if a1 = 5 then og (gi a0 96) (some (ra u_2 10 a0, u_2)) else if a1 = 6 then og (gi a0 96) (some (ra u_2 11 a0, u_2)) else some (-1, u_2))))
set_option maxHeartbeats 4000000 in
set_option maxRecDepth 100000 in
theorem m_fighter (l : Launch) (G : gG) (Z : gM) (Q : Nat → Nat) (u u1 : MS) (r : Int32) (a0 : Int32) (a1 : Int32) (sz : Nat) (hF : f_fighter a0 a1 u = some (r, u1)) : Met l yX13_fighter (Cond.code yX13_fighter cX13_fighter 3 (some .int) :: wM) { frames := 2, cells := 0, slots := 0, locals := 46 } (va_Pc [.ref (Q 72), .int a0, .int a1] (mPM G Z Q u sz)) (mQi G Q u1 r sz) 0 0 (mA Q sz) := by
  refine Met.ofW (cc := cX13_fighter) (maxL := 3) (ret := (some .int)) (by decide) rfl ?_
  intro p e s m args below meth c s₁ B hml hv
  obtain ⟨rfl, rfl, hP, hB, hD, hE⟩ := hv
  have hr := B.returns
  have hlocks := B.notSynchronized
  have hts := atoms_spec (ws := Cond.code yX13_fighter cX13_fighter 3 (some .int) :: wM) B.pre
  have hC : mX p c cX13_fighter 3 s m _ G Z Q := ⟨B.exec, B.bytes, hml, findClass_of_methodNamed B.named, fun w h => hts w (List.mem_cons_of_mem _ h), hB, hE⟩
  have hx := hC.1
  have hb := hC.2.1
  have hH : mH G Q u s s.heap [] := ⟨hP, hD, va_S.rf⟩
  have hl := lv_entry ([.ref (Q 72), .int a0, .int a1]) (n := 3) (Nat.le_of_ble_eq_true rfl)
  rw [lg_entry_eq]
  generalize (lg_sl ([.ref (Q 72), .int a0, .int a1]) ++ List.replicate (3 - (lg_sl ([.ref (Q 72), .int a0, .int a1])).length) Slot.unset).toArray = ls at hl ⊢
  have hl : lv_has ls 3 [(0, .ref (Q 72)), (1, .int a0), (2, .int a1)] := hl
  unfold f_fighter at hF
  refine lv_aload_n hx hb dX13_fighter_0 rfl (lv_at hl 0 rfl) ?_
  refine lv_iload_n hx hb dX13_fighter_1 rfl (lv_at hl 1 rfl) ?_
  obtain ⟨r_1, u_2, h_3, hF⟩ := ob_some hF
  refine mcV_i (As := [.int a0]) (rest := []) hC hH (m_isFighter l G Z Q u u_2 r_1 a0 _ h_3) kwX13_isFighter kVX13_isFighter ⟨Nat.le_of_ble_eq_true rfl, Nat.le_of_ble_eq_true rfl⟩ rfl hl.1 rfl (Nat.le_of_ble_eq_true rfl) dX13_fighter_2 (fun H locs hH => ?_)
  refine lv_if_ne (tgt := 10) hx hb dX13_fighter_5 (by decide) (fun c_4 => ?_) (fun c_4 => ?_)
  · rw [if_neg c_4] at hF
    refine lv_iload_n hx hb dX13_fighter_10 rfl (lv_at hl 2 rfl) ?_
    by_cases c_5 : a1 = 0
    · rw [if_pos c_5] at hF
      refine gx_ti (y := 0) c_5 ?_
      refine lv_tableIn (off := 41) (tgt := 52) hx hb dX13_fighter_11 (by decide) (by decide) rfl (by decide) ?_
      refine lv_aload_n hx hb dX13_fighter_52 rfl (lv_at hl 0 rfl) ?_
      refine mg_5 hC hH dX13_fighter_53 ?_
      refine lv_iload_n hx hb dX13_fighter_56 rfl (lv_at hl 1 rfl) ?_
      obtain ⟨g_6, hF⟩ := og_some hF
      refine ml_5 hC hH g_6 dX13_fighter_57 ?_
      exact mr_i hC hH hr hF dX13_fighter_58 hlocks
    rw [if_neg c_5] at hF
    by_cases c_7 : a1 = 1
    · rw [if_pos c_7] at hF
      refine gx_ti (y := 1) c_7 ?_
      refine lv_tableIn (off := 48) (tgt := 59) hx hb dX13_fighter_11 (by decide) (by decide) rfl (by decide) ?_
      refine lv_aload_n hx hb dX13_fighter_59 rfl (lv_at hl 0 rfl) ?_
      refine mg_6 hC hH dX13_fighter_60 ?_
      refine lv_iload_n hx hb dX13_fighter_63 rfl (lv_at hl 1 rfl) ?_
      obtain ⟨g_8, hF⟩ := og_some hF
      refine ml_6 hC hH g_8 dX13_fighter_64 ?_
      exact mr_i hC hH hr hF dX13_fighter_65 hlocks
    rw [if_neg c_7] at hF
    by_cases c_9 : a1 = 2
    · rw [if_pos c_9] at hF
      refine gx_ti (y := 2) c_9 ?_
      refine lv_tableIn (off := 55) (tgt := 66) hx hb dX13_fighter_11 (by decide) (by decide) rfl (by decide) ?_
      refine lv_aload_n hx hb dX13_fighter_66 rfl (lv_at hl 0 rfl) ?_
      refine mg_7 hC hH dX13_fighter_67 ?_
      refine lv_iload_n hx hb dX13_fighter_70 rfl (lv_at hl 1 rfl) ?_
      obtain ⟨g_10, hF⟩ := og_some hF
      refine ml_7 hC hH g_10 dX13_fighter_71 ?_
      exact mr_i hC hH hr hF dX13_fighter_72 hlocks
    rw [if_neg c_9] at hF
    by_cases c_11 : a1 = 3
    · rw [if_pos c_11] at hF
      refine gx_ti (y := 3) c_11 ?_
      refine lv_tableIn (off := 62) (tgt := 73) hx hb dX13_fighter_11 (by decide) (by decide) rfl (by decide) ?_
      refine lv_aload_n hx hb dX13_fighter_73 rfl (lv_at hl 0 rfl) ?_
      refine mg_8 hC hH dX13_fighter_74 ?_
      refine lv_iload_n hx hb dX13_fighter_77 rfl (lv_at hl 1 rfl) ?_
      obtain ⟨g_12, hF⟩ := og_some hF
      refine ml_8 hC hH g_12 dX13_fighter_78 ?_
      exact mr_i hC hH hr hF dX13_fighter_79 hlocks
    rw [if_neg c_11] at hF
    by_cases c_13 : a1 = 4
    · rw [if_pos c_13] at hF
      refine gx_ti (y := 4) c_13 ?_
      refine lv_tableIn (off := 69) (tgt := 80) hx hb dX13_fighter_11 (by decide) (by decide) rfl (by decide) ?_
      refine lv_aload_n hx hb dX13_fighter_80 rfl (lv_at hl 0 rfl) ?_
      refine mg_9 hC hH dX13_fighter_81 ?_
      refine lv_iload_n hx hb dX13_fighter_84 rfl (lv_at hl 1 rfl) ?_
      obtain ⟨g_14, hF⟩ := og_some hF
      refine ml_9 hC hH g_14 dX13_fighter_85 ?_
      exact mr_i hC hH hr hF dX13_fighter_86 hlocks
    rw [if_neg c_13] at hF
    by_cases c_15 : a1 = 5
    · rw [if_pos c_15] at hF
      refine gx_ti (y := 5) c_15 ?_
      refine lv_tableIn (off := 76) (tgt := 87) hx hb dX13_fighter_11 (by decide) (by decide) rfl (by decide) ?_
      refine lv_aload_n hx hb dX13_fighter_87 rfl (lv_at hl 0 rfl) ?_
      refine mg_10 hC hH dX13_fighter_88 ?_
      refine lv_iload_n hx hb dX13_fighter_91 rfl (lv_at hl 1 rfl) ?_
      obtain ⟨g_16, hF⟩ := og_some hF
      refine ml_10 hC hH g_16 dX13_fighter_92 ?_
      exact mr_i hC hH hr hF dX13_fighter_93 hlocks
    rw [if_neg c_15] at hF
    by_cases c_17 : a1 = 6
    · rw [if_pos c_17] at hF
      refine gx_ti (y := 6) c_17 ?_
      refine lv_tableIn (off := 83) (tgt := 94) hx hb dX13_fighter_11 (by decide) (by decide) rfl (by decide) ?_
      refine lv_aload_n hx hb dX13_fighter_94 rfl (lv_at hl 0 rfl) ?_
      refine mg_11 hC hH dX13_fighter_95 ?_
      refine lv_iload_n hx hb dX13_fighter_98 rfl (lv_at hl 1 rfl) ?_
      obtain ⟨g_18, hF⟩ := og_some hF
      refine ml_11 hC hH g_18 dX13_fighter_99 ?_
      exact mr_i hC hH hr hF dX13_fighter_100 hlocks
    rw [if_neg c_17] at hF
    refine lv_tableOut (tgt := 101) hx hb dX13_fighter_11 (by have q0 := gl_ne c_5 (a := 0) (by decide); have q1 := gl_ne c_7 (a := 1) (by decide); have q2 := gl_ne c_9 (a := 2) (by decide); have q3 := gl_ne c_11 (a := 3) (by decide); have q4 := gl_ne c_13 (a := 4) (by decide); have q5 := gl_ne c_15 (a := 5) (by decide); have q6 := gl_ne c_17 (a := 6) (by decide); omega) (by decide) ?_
    refine lv_iconst (v := (-1)) hx hb dX13_fighter_101 (by decide) ?_
    exact mr_i hC hH hr hF dX13_fighter_102 hlocks
  · rw [if_pos c_4] at hF
    refine lv_iconst (v := (-1)) hx hb dX13_fighter_8 (by decide) ?_
    exact mr_i hC hH hr hF dX13_fighter_9 hlocks
def lp_about_107 : Nat → Int32 → Int32 → Int32 → Int32 → MS → (Int32 → Int32 → Int32 → Int32 → MS → Option (Int32 × MS)) → Option (Int32 × MS)
  | 0, _, _, _, _, _, _ => none
  | n107 + 1, v1, v2, v3, v4, u, K107_141 => (if (u.1 2) ≤ v4 then K107_141 v1 v2 v3 v4 u else og (gi v4 96) ((if (ra u 5 v4) = v1 then li (v3 + 1) (fun x_20 => li (v4 + 1) (fun x_22 => lp_about_107 n107 v1 v2 x_20 x_22 u K107_141)) else li (v3 + 0) (fun x_16 => li (v4 + 1) (fun x_18 => lp_about_107 n107 v1 v2 x_16 x_18 u K107_141)))))
def lp_about_185 : Nat → Int32 → Int32 → Int32 → Int32 → MS → (Int32 → Int32 → Int32 → Int32 → MS → Option (Int32 × MS)) → Option (Int32 × MS)
  | 0, _, _, _, _, _, _ => none
  | n185 + 1, v1, v2, v3, v4, u, K185_225 => ob (f_fights v1 u) (fun r_39 u_40 => (if r_39 ≤ v4 then K185_225 v1 v2 v3 v4 u_40 else og (gi ((40 * v1) + v4) 160) ((if (ra u_40 15 ((40 * v1) + v4)) = 2 then li (v3 + 1) (fun x_49 => li (v4 + 1) (fun x_51 => lp_about_185 n185 v1 v2 x_49 x_51 u_40 K185_225)) else li (v3 + 0) (fun x_45 => li (v4 + 1) (fun x_47 => lp_about_185 n185 v1 v2 x_45 x_47 u_40 K185_225))))))
def lp_about_230 : Nat → Int32 → Int32 → Int32 → Int32 → MS → (Int32 → Int32 → Int32 → Int32 → MS → Option (Int32 × MS)) → Option (Int32 × MS)
  | 0, _, _, _, _, _, _ => none
  | n230 + 1, v1, v2, v3, v4, u, K230_264 => ob (f_fights v1 u) (fun r_54 u_55 => (if r_54 ≤ v4 then K230_264 v1 v2 v3 v4 u_55 else ob (f_isWalk v1 v4 u_55) (fun r_58 u_59 => (if r_58 = 0 then li (v3 + 0) (fun x_62 => li (v4 + 1) (fun x_64 => lp_about_230 n230 v1 v2 x_62 x_64 u_59 K230_264)) else li (v3 + 1) (fun x_66 => li (v4 + 1) (fun x_68 => lp_about_230 n230 v1 v2 x_66 x_68 u_59 K230_264))))))
def f_about (a0 : Int32) (a1 : Int32) (u : MS) : Option (Int32 × MS) := ob (f_isClass a0 u) (fun r_1 u_2 => (if r_1 = 0 then some (-1, u_2) else og (gi a0 4) ((if (ra u_2 12 a0) = 0 then ob (f_in a1.toInt64 100 ((99 : Int64) + (0 : Int64)) u_2) (fun r_71 u_72 => (if r_71 = 0 then (if a1 = 0 then lp_about_107 fuel a0 a1 0 0 u_72 (fun v1 v2 v3 v4 u => some (v3, u)) else if a1 = 1 then ob (f_weighed a0 u_72) (fun r_88 u_89 => some (r_88, u_89)) else if a1 = 2 then og (gi a0 4) (some (ra u_72 12 a0, u_72)) else if a1 = 3 then og (gi a0 4) ((if (ra u_72 12 a0) = 0 then some (-1, u_72) else og (gi a0 4) (some (ra u_72 13 a0, u_72)))) else if a1 = 4 then ob (f_fights a0 u_72) (fun r_98 u_99 => some (r_98, u_99)) else if a1 = 5 then lp_about_185 fuel a0 a1 0 0 u_72 (fun v1 v2 v3 v4 u => some (v3, u)) else if a1 = 6 then lp_about_230 fuel a0 a1 0 0 u_72 (fun v1 v2 v3 v4 u => some (v3, u)) else some (-1, u_72)) else og (gi (((32 * a0) + a1) - 100) 128) (some (ra u_72 14 (((32 * a0) + a1) - 100), u_72)))) else og (gi a0 4) (ob (f_in a1.toInt64 100 ((99 : Int64) + ((ra u_2 13 a0).toInt64 : Int64)) u_2) (fun r_8 u_9 => (if r_8 = 0 then (if a1 = 0 then lp_about_107 fuel a0 a1 0 0 u_9 (fun v1 v2 v3 v4 u => some (v3, u)) else if a1 = 1 then ob (f_weighed a0 u_9) (fun r_25 u_26 => some (r_25, u_26)) else if a1 = 2 then og (gi a0 4) (some (ra u_9 12 a0, u_9)) else if a1 = 3 then og (gi a0 4) ((if (ra u_9 12 a0) = 0 then some (-1, u_9) else og (gi a0 4) (some (ra u_9 13 a0, u_9)))) else if a1 = 4 then ob (f_fights a0 u_9) (fun r_35 u_36 => some (r_35, u_36)) else if a1 = 5 then lp_about_185 fuel a0 a1 0 0 u_9 (fun v1 v2 v3 v4 u => some (v3, u)) else if a1 = 6 then lp_about_230 fuel a0 a1 0 0 u_9 (fun v1 v2 v3 v4 u => some (v3, u)) else some (-1, u_9)) else og (gi (((32 * a0) + a1) - 100) 128) (some (ra u_9 14 (((32 * a0) + a1) - 100), u_9)))))))))
set_option maxHeartbeats 4000000 in
set_option maxRecDepth 100000 in
theorem m_about (l : Launch) (G : gG) (Z : gM) (Q : Nat → Nat) (u u1 : MS) (r : Int32) (a0 : Int32) (a1 : Int32) (sz : Nat) (hF : f_about a0 a1 u = some (r, u1)) : Met l yX13_about (Cond.code yX13_about cX13_about 5 (some .int) :: wM) { frames := 310, cells := 0, slots := 0, locals := 3810 } (va_Pc [.ref (Q 72), .int a0, .int a1] (mPM G Z Q u sz)) (mQi G Q u1 r sz) 0 0 (mA Q sz) := by
  refine Met.ofW (cc := cX13_about) (maxL := 5) (ret := (some .int)) (by decide) rfl ?_
  intro p e s m args below meth c s₁ B hml hv
  obtain ⟨rfl, rfl, hP, hB, hD, hE⟩ := hv
  have hr := B.returns
  have hlocks := B.notSynchronized
  have hts := atoms_spec (ws := Cond.code yX13_about cX13_about 5 (some .int) :: wM) B.pre
  have hC : mX p c cX13_about 5 s m _ G Z Q := ⟨B.exec, B.bytes, hml, findClass_of_methodNamed B.named, fun w h => hts w (List.mem_cons_of_mem _ h), hB, hE⟩
  have hx := hC.1
  have hb := hC.2.1
  have hH : mH G Q u s s.heap [] := ⟨hP, hD, va_S.rf⟩
  have hl := lv_entry ([.ref (Q 72), .int a0, .int a1]) (n := 5) (Nat.le_of_ble_eq_true rfl)
  rw [lg_entry_eq]
  generalize (lg_sl ([.ref (Q 72), .int a0, .int a1]) ++ List.replicate (5 - (lg_sl ([.ref (Q 72), .int a0, .int a1])).length) Slot.unset).toArray = ls at hl ⊢
  have hl : lv_has ls 5 [(0, .ref (Q 72)), (1, .int a0), (2, .int a1)] := hl
  unfold f_about at hF
  refine lv_iload_n hx hb dX13_about_0 rfl (lv_at hl 1 rfl) ?_
  obtain ⟨r_1, u_2, h_3, hF⟩ := ob_some hF
  refine mcS_i (As := [.int a0]) (rest := []) hC hH (m_isClass l G Z Q u u_2 r_1 a0 _ h_3) kwX13_isClass kVX13_isClass ⟨Nat.le_of_ble_eq_true rfl, Nat.le_of_ble_eq_true rfl⟩ rfl hl.1 rfl (Nat.le_of_ble_eq_true rfl) dX13_about_1 (fun H locs hH => ?_)
  refine lv_if_ne (tgt := 9) hx hb dX13_about_4 (by decide) (fun c_4 => ?_) (fun c_4 => ?_)
  · rw [if_neg c_4] at hF
    refine lv_iload_n hx hb dX13_about_9 rfl (lv_at hl 2 rfl) ?_
    refine lv_i2l (v := a1.toInt64) hx hb dX13_about_10 rfl ?_
    refine lv_ldc2 (v := 100) hx hb hC.2.2.2.1 (hC.2.2.2.2.1 _ wma148) dX13_about_11 ?_
    refine lv_ldc2 (v := 99) hx hb hC.2.2.2.1 (hC.2.2.2.2.1 _ wma149) dX13_about_14 ?_
    refine lv_aload_n hx hb dX13_about_17 rfl (lv_at hl 0 rfl) ?_
    refine mg_12 hC hH dX13_about_18 ?_
    refine lv_iload_n hx hb dX13_about_21 rfl (lv_at hl 1 rfl) ?_
    obtain ⟨g_5, hF⟩ := og_some hF
    refine ml_12 hC hH g_5 dX13_about_22 ?_
    refine lv_if_ne (tgt := 30) hx hb dX13_about_23 (by decide) (fun c_6 => ?_) (fun c_6 => ?_)
    · rw [if_neg c_6] at hF
      refine lv_aload_n hx hb dX13_about_30 rfl (lv_at hl 0 rfl) ?_
      refine mg_13 hC hH dX13_about_31 ?_
      refine lv_iload_n hx hb dX13_about_34 rfl (lv_at hl 1 rfl) ?_
      obtain ⟨g_7, hF⟩ := og_some hF
      refine ml_13 hC hH g_7 dX13_about_35 ?_
      refine lv_i2l (v := (ra u_2 13 a0).toInt64) hx hb dX13_about_36 rfl ?_
      refine lv_ladd hx hb dX13_about_37 ?_
      obtain ⟨r_8, u_9, h_10, hF⟩ := ob_some hF
      refine mcS_i (As := [.long a1.toInt64, .long 100, .long ((99 : Int64) + ((ra u_2 13 a0).toInt64 : Int64))]) (rest := []) hC hH (m_in l G Z Q u_2 u_9 r_8 a1.toInt64 100 ((99 : Int64) + ((ra u_2 13 a0).toInt64 : Int64)) _ h_10) kwX13_in kVX13_in ⟨Nat.le_of_ble_eq_true rfl, Nat.le_of_ble_eq_true rfl⟩ rfl hl.1 rfl (Nat.le_of_ble_eq_true rfl) dX13_about_38 (fun H locs hH => ?_)
      refine lv_if_eq (tgt := 59) hx hb dX13_about_41 (by decide) (fun c_11 => ?_) (fun c_11 => ?_)
      · rw [if_pos c_11] at hF
        refine lv_iconst (v := 0) hx hb dX13_about_59 (by decide) ?_
        refine lv_istore_n (lv' := [(3, .int 0), (0, .ref (Q 72)), (1, .int a0), (2, .int a1)]) hx hb dX13_about_60 rfl hl (by decide) rfl (fun ls hl => ?_)
        refine lv_iload_n hx hb dX13_about_61 rfl (lv_at hl 3 rfl) ?_
        by_cases c_12 : a1 = 0
        · rw [if_pos c_12] at hF
          refine gx_ti (y := 0) c_12 ?_
          refine lv_tableIn (off := 42) (tgt := 104) hx hb dX13_about_62 (by decide) (by decide) rfl (by decide) ?_
          refine lv_iconst (v := 0) hx hb dX13_about_104 (by decide) ?_
          refine lv_istore (lv' := [(4, .int 0), (3, .int 0), (0, .ref (Q 72)), (1, .int a0), (2, .int a1)]) hx hb dX13_about_105 hl (by decide) rfl (fun ls hl => ?_)
          have hL107 : ∀ (K107_141 : Int32 → Int32 → Int32 → Int32 → MS → Option (Int32 × MS)), (∀ (v1 v2 v3 v4 : Int32) (u : MS) (H : Heap) (locs : List Loc) (ls : Array Slot), lv_has ls 5 [(0, .ref (Q 72)), (1, .int v1), (2, .int v2), (3, .int v3), (4, .int v4)] → mH G Q u s H locs → K107_141 v1 v2 v3 v4 u = some ((r, u1)) → W p l e (headSpec (Cond.code yX13_about cX13_about 5 (some .int) :: wM) { frames := 310, cells := 0, slots := 0, locals := 3810 }).room s m [.ref (Q 72), .int a0, .int a1].toArray below meth c H locs 0 0 (MQ below (mQi G Q u1 r s.heap.size) [.ref (Q 72), .int a0, .int a1].toArray s 0 0 (mA Q s.heap.size)) (F0 m 141 ls [])) → ∀ (n107 : Nat) (v1 v2 v3 v4 : Int32) (u : MS) (H : Heap) (locs : List Loc) (ls : Array Slot), lv_has ls 5 [(0, .ref (Q 72)), (1, .int v1), (2, .int v2), (3, .int v3), (4, .int v4)] → mH G Q u s H locs → lp_about_107 n107 v1 v2 v3 v4 u K107_141 = some ((r, u1)) → W p l e (headSpec (Cond.code yX13_about cX13_about 5 (some .int) :: wM) { frames := 310, cells := 0, slots := 0, locals := 3810 }).room s m [.ref (Q 72), .int a0, .int a1].toArray below meth c H locs 0 0 (MQ below (mQi G Q u1 r s.heap.size) [.ref (Q 72), .int a0, .int a1].toArray s 0 0 (mA Q s.heap.size)) (F0 m 107 ls []) := by
            intro K107_141 hK107_141 n107
            induction n107 with
            | zero => intro v1 v2 v3 v4 u H locs ls hl hH hF; cases hF
            | succ n107 ih107 =>
              intro v1 v2 v3 v4 u H locs ls hl hH hF
              unfold lp_about_107 at hF
              refine lv_iload hx hb dX13_about_107 (lv_at hl 4 rfl) ?_
              refine lv_aload_n hx hb dX13_about_109 rfl (lv_at hl 0 rfl) ?_
              refine mg_2 hC hH dX13_about_110 ?_
              refine lv_icmp_ge (tgt := 141) hx hb dX13_about_113 (by decide) (fun c_13 => ?_) (fun c_13 => ?_)
              · rw [if_pos c_13] at hF
                exact hK107_141 v1 v2 v3 v4 u _ _ _ (lv_sub hl [0, 1, 2, 3, 4] rfl) hH hF
              · rw [if_neg c_13] at hF
                refine lv_iload_n hx hb dX13_about_116 rfl (lv_at hl 3 rfl) ?_
                refine lv_aload_n hx hb dX13_about_117 rfl (lv_at hl 0 rfl) ?_
                refine mg_5 hC hH dX13_about_118 ?_
                refine lv_iload hx hb dX13_about_121 (lv_at hl 4 rfl) ?_
                obtain ⟨g_14, hF⟩ := og_some hF
                refine ml_5 hC hH g_14 dX13_about_123 ?_
                refine lv_iload_n hx hb dX13_about_124 rfl (lv_at hl 1 rfl) ?_
                refine lv_icmp_ne (tgt := 132) hx hb dX13_about_125 (by decide) (fun c_15 => ?_) (fun c_15 => ?_)
                · rw [if_neg c_15] at hF
                  refine lv_iconst (v := 0) hx hb dX13_about_132 (by decide) ?_
                  refine lv_iadd hx hb dX13_about_133 ?_
                  obtain ⟨x_16, e_17, hF⟩ := li_some hF
                  refine gx_ti e_17 ?_
                  refine lv_istore_n (lv' := [(3, .int x_16), (0, .ref (Q 72)), (1, .int v1), (2, .int v2), (4, .int v4)]) hx hb dX13_about_134 rfl hl (by decide) rfl (fun ls hl => ?_)
                  obtain ⟨x_18, e_19, hF⟩ := li_some hF
                  refine lv_iinc (v := x_18) (lv' := [(4, .int x_18), (3, .int x_16), (0, .ref (Q 72)), (1, .int v1), (2, .int v2)]) hx hb dX13_about_135 hl (k := 4) rfl e_19 (by decide) rfl (fun ls hl => ?_)
                  refine lv_goto (tgt := 107) hx hb dX13_about_138 (by decide) ?_
                  exact ih107 v1 v2 x_16 x_18 u _ _ _ (lv_sub hl [2, 3, 4, 1, 0] rfl) hH hF
                · rw [if_pos c_15] at hF
                  refine lv_iconst (v := 1) hx hb dX13_about_128 (by decide) ?_
                  refine lv_goto (tgt := 133) hx hb dX13_about_129 (by decide) ?_
                  refine lv_iadd hx hb dX13_about_133 ?_
                  obtain ⟨x_20, e_21, hF⟩ := li_some hF
                  refine gx_ti e_21 ?_
                  refine lv_istore_n (lv' := [(3, .int x_20), (0, .ref (Q 72)), (1, .int v1), (2, .int v2), (4, .int v4)]) hx hb dX13_about_134 rfl hl (by decide) rfl (fun ls hl => ?_)
                  obtain ⟨x_22, e_23, hF⟩ := li_some hF
                  refine lv_iinc (v := x_22) (lv' := [(4, .int x_22), (3, .int x_20), (0, .ref (Q 72)), (1, .int v1), (2, .int v2)]) hx hb dX13_about_135 hl (k := 4) rfl e_23 (by decide) rfl (fun ls hl => ?_)
                  refine lv_goto (tgt := 107) hx hb dX13_about_138 (by decide) ?_
                  exact ih107 v1 v2 x_20 x_22 u _ _ _ (lv_sub hl [2, 3, 4, 1, 0] rfl) hH hF
          refine hL107 _ (fun v1 v2 v3 v4 u H locs ls hl hH hF => ?_) fuel a0 a1 0 0 u_9 _ _ _ (lv_sub hl [2, 3, 4, 1, 0] rfl) hH hF
          refine lv_iload_n hx hb dX13_about_141 rfl (lv_at hl 3 rfl) ?_
          exact mr_i hC hH hr hF dX13_about_142 hlocks
        rw [if_neg c_12] at hF
        by_cases c_24 : a1 = 1
        · rw [if_pos c_24] at hF
          refine gx_ti (y := 1) c_24 ?_
          refine lv_tableIn (off := 81) (tgt := 143) hx hb dX13_about_62 (by decide) (by decide) rfl (by decide) ?_
          refine lv_aload_n hx hb dX13_about_143 rfl (lv_at hl 1 rfl) ?_
          refine lv_iload_n hx hb dX13_about_144 rfl (lv_at hl 2 rfl) ?_
          obtain ⟨r_25, u_26, h_27, hF⟩ := ob_some hF
          refine mcV_i (As := [.int a0]) (rest := []) hC hH (m_weighed l G Z Q u_9 u_26 r_25 a0 _ h_27) kwX13_weighed kVX13_weighed ⟨Nat.le_of_ble_eq_true rfl, Nat.le_of_ble_eq_true rfl⟩ rfl hl.1 rfl (Nat.le_of_ble_eq_true rfl) dX13_about_145 (fun H locs hH => ?_)
          exact mr_i hC hH hr hF dX13_about_148 hlocks
        rw [if_neg c_24] at hF
        by_cases c_28 : a1 = 2
        · rw [if_pos c_28] at hF
          refine gx_ti (y := 2) c_28 ?_
          refine lv_tableIn (off := 87) (tgt := 149) hx hb dX13_about_62 (by decide) (by decide) rfl (by decide) ?_
          refine lv_aload_n hx hb dX13_about_149 rfl (lv_at hl 1 rfl) ?_
          refine mg_12 hC hH dX13_about_150 ?_
          refine lv_iload_n hx hb dX13_about_153 rfl (lv_at hl 2 rfl) ?_
          obtain ⟨g_29, hF⟩ := og_some hF
          refine ml_12 hC hH g_29 dX13_about_154 ?_
          exact mr_i hC hH hr hF dX13_about_155 hlocks
        rw [if_neg c_28] at hF
        by_cases c_30 : a1 = 3
        · rw [if_pos c_30] at hF
          refine gx_ti (y := 3) c_30 ?_
          refine lv_tableIn (off := 94) (tgt := 156) hx hb dX13_about_62 (by decide) (by decide) rfl (by decide) ?_
          refine lv_aload_n hx hb dX13_about_156 rfl (lv_at hl 1 rfl) ?_
          refine mg_12 hC hH dX13_about_157 ?_
          refine lv_iload_n hx hb dX13_about_160 rfl (lv_at hl 2 rfl) ?_
          obtain ⟨g_31, hF⟩ := og_some hF
          refine ml_12 hC hH g_31 dX13_about_161 ?_
          refine lv_if_ne (tgt := 169) hx hb dX13_about_162 (by decide) (fun c_32 => ?_) (fun c_32 => ?_)
          · rw [if_neg c_32] at hF
            refine lv_aload_n hx hb dX13_about_169 rfl (lv_at hl 1 rfl) ?_
            refine mg_13 hC hH dX13_about_170 ?_
            refine lv_iload_n hx hb dX13_about_173 rfl (lv_at hl 2 rfl) ?_
            obtain ⟨g_33, hF⟩ := og_some hF
            refine ml_13 hC hH g_33 dX13_about_174 ?_
            exact mr_i hC hH hr hF dX13_about_175 hlocks
          · rw [if_pos c_32] at hF
            refine lv_iconst (v := (-1)) hx hb dX13_about_165 (by decide) ?_
            refine lv_goto (tgt := 175) hx hb dX13_about_166 (by decide) ?_
            exact mr_i hC hH hr hF dX13_about_175 hlocks
        rw [if_neg c_30] at hF
        by_cases c_34 : a1 = 4
        · rw [if_pos c_34] at hF
          refine gx_ti (y := 4) c_34 ?_
          refine lv_tableIn (off := 114) (tgt := 176) hx hb dX13_about_62 (by decide) (by decide) rfl (by decide) ?_
          refine lv_aload_n hx hb dX13_about_176 rfl (lv_at hl 1 rfl) ?_
          refine lv_iload_n hx hb dX13_about_177 rfl (lv_at hl 2 rfl) ?_
          obtain ⟨r_35, u_36, h_37, hF⟩ := ob_some hF
          refine mcV_i (As := [.int a0]) (rest := []) hC hH (m_fights l G Z Q u_9 u_36 r_35 a0 _ h_37) kwX13_fights kVX13_fights ⟨Nat.le_of_ble_eq_true rfl, Nat.le_of_ble_eq_true rfl⟩ rfl hl.1 rfl (Nat.le_of_ble_eq_true rfl) dX13_about_178 (fun H locs hH => ?_)
          exact mr_i hC hH hr hF dX13_about_181 hlocks
        rw [if_neg c_34] at hF
        by_cases c_38 : a1 = 5
        · rw [if_pos c_38] at hF
          refine gx_ti (y := 5) c_38 ?_
          refine lv_tableIn (off := 120) (tgt := 182) hx hb dX13_about_62 (by decide) (by decide) rfl (by decide) ?_
          refine lv_iconst (v := 0) hx hb dX13_about_182 (by decide) ?_
          refine lv_istore (lv' := [(4, .int 0), (3, .int 0), (0, .ref (Q 72)), (1, .int a0), (2, .int a1)]) hx hb dX13_about_183 hl (by decide) rfl (fun ls hl => ?_)
          have hL185 : ∀ (K185_225 : Int32 → Int32 → Int32 → Int32 → MS → Option (Int32 × MS)), (∀ (v1 v2 v3 v4 : Int32) (u : MS) (H : Heap) (locs : List Loc) (ls : Array Slot), lv_has ls 5 [(0, .ref (Q 72)), (1, .int v1), (2, .int v2), (3, .int v3), (4, .int v4)] → mH G Q u s H locs → K185_225 v1 v2 v3 v4 u = some ((r, u1)) → W p l e (headSpec (Cond.code yX13_about cX13_about 5 (some .int) :: wM) { frames := 310, cells := 0, slots := 0, locals := 3810 }).room s m [.ref (Q 72), .int a0, .int a1].toArray below meth c H locs 0 0 (MQ below (mQi G Q u1 r s.heap.size) [.ref (Q 72), .int a0, .int a1].toArray s 0 0 (mA Q s.heap.size)) (F0 m 225 ls [])) → ∀ (n185 : Nat) (v1 v2 v3 v4 : Int32) (u : MS) (H : Heap) (locs : List Loc) (ls : Array Slot), lv_has ls 5 [(0, .ref (Q 72)), (1, .int v1), (2, .int v2), (3, .int v3), (4, .int v4)] → mH G Q u s H locs → lp_about_185 n185 v1 v2 v3 v4 u K185_225 = some ((r, u1)) → W p l e (headSpec (Cond.code yX13_about cX13_about 5 (some .int) :: wM) { frames := 310, cells := 0, slots := 0, locals := 3810 }).room s m [.ref (Q 72), .int a0, .int a1].toArray below meth c H locs 0 0 (MQ below (mQi G Q u1 r s.heap.size) [.ref (Q 72), .int a0, .int a1].toArray s 0 0 (mA Q s.heap.size)) (F0 m 185 ls []) := by
            intro K185_225 hK185_225 n185
            induction n185 with
            | zero => intro v1 v2 v3 v4 u H locs ls hl hH hF; cases hF
            | succ n185 ih185 =>
              intro v1 v2 v3 v4 u H locs ls hl hH hF
              unfold lp_about_185 at hF
              refine lv_iload hx hb dX13_about_185 (lv_at hl 4 rfl) ?_
              refine lv_aload_n hx hb dX13_about_187 rfl (lv_at hl 0 rfl) ?_
              refine lv_iload_n hx hb dX13_about_188 rfl (lv_at hl 1 rfl) ?_
              obtain ⟨r_39, u_40, h_41, hF⟩ := ob_some hF
              refine mcV_i (As := [.int v1]) (rest := [.int v4]) hC hH (m_fights l G Z Q u u_40 r_39 v1 _ h_41) kwX13_fights kVX13_fights ⟨Nat.le_of_ble_eq_true rfl, Nat.le_of_ble_eq_true rfl⟩ rfl hl.1 rfl (Nat.le_of_ble_eq_true rfl) dX13_about_189 (fun H locs hH => ?_)
              refine lv_icmp_ge (tgt := 225) hx hb dX13_about_192 (by decide) (fun c_42 => ?_) (fun c_42 => ?_)
              · rw [if_pos c_42] at hF
                exact hK185_225 v1 v2 v3 v4 u_40 _ _ _ (lv_sub hl [0, 1, 2, 3, 4] rfl) hH hF
              · rw [if_neg c_42] at hF
                refine lv_iload_n hx hb dX13_about_195 rfl (lv_at hl 3 rfl) ?_
                refine lv_aload_n hx hb dX13_about_196 rfl (lv_at hl 0 rfl) ?_
                refine mg_15 hC hH dX13_about_197 ?_
                refine lv_bipush (v := 40) hx hb dX13_about_200 (by decide) ?_
                refine lv_iload_n hx hb dX13_about_202 rfl (lv_at hl 1 rfl) ?_
                refine lv_imul hx hb dX13_about_203 ?_
                refine lv_iload hx hb dX13_about_204 (lv_at hl 4 rfl) ?_
                refine lv_iadd hx hb dX13_about_206 ?_
                obtain ⟨g_43, hF⟩ := og_some hF
                refine ml_15 hC hH g_43 dX13_about_207 ?_
                refine lv_iconst (v := 2) hx hb dX13_about_208 (by decide) ?_
                refine lv_icmp_ne (tgt := 216) hx hb dX13_about_209 (by decide) (fun c_44 => ?_) (fun c_44 => ?_)
                · rw [if_neg c_44] at hF
                  refine lv_iconst (v := 0) hx hb dX13_about_216 (by decide) ?_
                  refine lv_iadd hx hb dX13_about_217 ?_
                  obtain ⟨x_45, e_46, hF⟩ := li_some hF
                  refine gx_ti e_46 ?_
                  refine lv_istore_n (lv' := [(3, .int x_45), (0, .ref (Q 72)), (1, .int v1), (2, .int v2), (4, .int v4)]) hx hb dX13_about_218 rfl hl (by decide) rfl (fun ls hl => ?_)
                  obtain ⟨x_47, e_48, hF⟩ := li_some hF
                  refine lv_iinc (v := x_47) (lv' := [(4, .int x_47), (3, .int x_45), (0, .ref (Q 72)), (1, .int v1), (2, .int v2)]) hx hb dX13_about_219 hl (k := 4) rfl e_48 (by decide) rfl (fun ls hl => ?_)
                  refine lv_goto (tgt := 185) hx hb dX13_about_222 (by decide) ?_
                  exact ih185 v1 v2 x_45 x_47 u_40 _ _ _ (lv_sub hl [2, 3, 4, 1, 0] rfl) hH hF
                · rw [if_pos c_44] at hF
                  refine lv_iconst (v := 1) hx hb dX13_about_212 (by decide) ?_
                  refine lv_goto (tgt := 217) hx hb dX13_about_213 (by decide) ?_
                  refine lv_iadd hx hb dX13_about_217 ?_
                  obtain ⟨x_49, e_50, hF⟩ := li_some hF
                  refine gx_ti e_50 ?_
                  refine lv_istore_n (lv' := [(3, .int x_49), (0, .ref (Q 72)), (1, .int v1), (2, .int v2), (4, .int v4)]) hx hb dX13_about_218 rfl hl (by decide) rfl (fun ls hl => ?_)
                  obtain ⟨x_51, e_52, hF⟩ := li_some hF
                  refine lv_iinc (v := x_51) (lv' := [(4, .int x_51), (3, .int x_49), (0, .ref (Q 72)), (1, .int v1), (2, .int v2)]) hx hb dX13_about_219 hl (k := 4) rfl e_52 (by decide) rfl (fun ls hl => ?_)
                  refine lv_goto (tgt := 185) hx hb dX13_about_222 (by decide) ?_
                  exact ih185 v1 v2 x_49 x_51 u_40 _ _ _ (lv_sub hl [2, 3, 4, 1, 0] rfl) hH hF
          refine hL185 _ (fun v1 v2 v3 v4 u H locs ls hl hH hF => ?_) fuel a0 a1 0 0 u_9 _ _ _ (lv_sub hl [2, 3, 4, 1, 0] rfl) hH hF
          refine lv_iload_n hx hb dX13_about_225 rfl (lv_at hl 3 rfl) ?_
          exact mr_i hC hH hr hF dX13_about_226 hlocks
        rw [if_neg c_38] at hF
        by_cases c_53 : a1 = 6
        · rw [if_pos c_53] at hF
          refine gx_ti (y := 6) c_53 ?_
          refine lv_tableIn (off := 165) (tgt := 227) hx hb dX13_about_62 (by decide) (by decide) rfl (by decide) ?_
          refine lv_iconst (v := 0) hx hb dX13_about_227 (by decide) ?_
          refine lv_istore (lv' := [(4, .int 0), (3, .int 0), (0, .ref (Q 72)), (1, .int a0), (2, .int a1)]) hx hb dX13_about_228 hl (by decide) rfl (fun ls hl => ?_)
          have hL230 : ∀ (K230_264 : Int32 → Int32 → Int32 → Int32 → MS → Option (Int32 × MS)), (∀ (v1 v2 v3 v4 : Int32) (u : MS) (H : Heap) (locs : List Loc) (ls : Array Slot), lv_has ls 5 [(0, .ref (Q 72)), (1, .int v1), (2, .int v2), (3, .int v3), (4, .int v4)] → mH G Q u s H locs → K230_264 v1 v2 v3 v4 u = some ((r, u1)) → W p l e (headSpec (Cond.code yX13_about cX13_about 5 (some .int) :: wM) { frames := 310, cells := 0, slots := 0, locals := 3810 }).room s m [.ref (Q 72), .int a0, .int a1].toArray below meth c H locs 0 0 (MQ below (mQi G Q u1 r s.heap.size) [.ref (Q 72), .int a0, .int a1].toArray s 0 0 (mA Q s.heap.size)) (F0 m 264 ls [])) → ∀ (n230 : Nat) (v1 v2 v3 v4 : Int32) (u : MS) (H : Heap) (locs : List Loc) (ls : Array Slot), lv_has ls 5 [(0, .ref (Q 72)), (1, .int v1), (2, .int v2), (3, .int v3), (4, .int v4)] → mH G Q u s H locs → lp_about_230 n230 v1 v2 v3 v4 u K230_264 = some ((r, u1)) → W p l e (headSpec (Cond.code yX13_about cX13_about 5 (some .int) :: wM) { frames := 310, cells := 0, slots := 0, locals := 3810 }).room s m [.ref (Q 72), .int a0, .int a1].toArray below meth c H locs 0 0 (MQ below (mQi G Q u1 r s.heap.size) [.ref (Q 72), .int a0, .int a1].toArray s 0 0 (mA Q s.heap.size)) (F0 m 230 ls []) := by
            intro K230_264 hK230_264 n230
            induction n230 with
            | zero => intro v1 v2 v3 v4 u H locs ls hl hH hF; cases hF
            | succ n230 ih230 =>
              intro v1 v2 v3 v4 u H locs ls hl hH hF
              unfold lp_about_230 at hF
              refine lv_iload hx hb dX13_about_230 (lv_at hl 4 rfl) ?_
              refine lv_aload_n hx hb dX13_about_232 rfl (lv_at hl 0 rfl) ?_
              refine lv_iload_n hx hb dX13_about_233 rfl (lv_at hl 1 rfl) ?_
              obtain ⟨r_54, u_55, h_56, hF⟩ := ob_some hF
              refine mcV_i (As := [.int v1]) (rest := [.int v4]) hC hH (m_fights l G Z Q u u_55 r_54 v1 _ h_56) kwX13_fights kVX13_fights ⟨Nat.le_of_ble_eq_true rfl, Nat.le_of_ble_eq_true rfl⟩ rfl hl.1 rfl (Nat.le_of_ble_eq_true rfl) dX13_about_234 (fun H locs hH => ?_)
              refine lv_icmp_ge (tgt := 264) hx hb dX13_about_237 (by decide) (fun c_57 => ?_) (fun c_57 => ?_)
              · rw [if_pos c_57] at hF
                exact hK230_264 v1 v2 v3 v4 u_55 _ _ _ (lv_sub hl [0, 1, 2, 3, 4] rfl) hH hF
              · rw [if_neg c_57] at hF
                refine lv_iload_n hx hb dX13_about_240 rfl (lv_at hl 3 rfl) ?_
                refine lv_aload_n hx hb dX13_about_241 rfl (lv_at hl 0 rfl) ?_
                refine lv_iload_n hx hb dX13_about_242 rfl (lv_at hl 1 rfl) ?_
                refine lv_iload hx hb dX13_about_243 (lv_at hl 4 rfl) ?_
                obtain ⟨r_58, u_59, h_60, hF⟩ := ob_some hF
                refine mcV_i (As := [.int v1, .int v4]) (rest := [.int v3]) hC hH (m_isWalk l G Z Q u_55 u_59 r_58 v1 v4 _ h_60) kwX13_isWalk kVX13_isWalk ⟨Nat.le_of_ble_eq_true rfl, Nat.le_of_ble_eq_true rfl⟩ rfl hl.1 rfl (Nat.le_of_ble_eq_true rfl) dX13_about_245 (fun H locs hH => ?_)
                refine lv_if_eq (tgt := 255) hx hb dX13_about_248 (by decide) (fun c_61 => ?_) (fun c_61 => ?_)
                · rw [if_pos c_61] at hF
                  refine lv_iconst (v := 0) hx hb dX13_about_255 (by decide) ?_
                  refine lv_iadd hx hb dX13_about_256 ?_
                  obtain ⟨x_62, e_63, hF⟩ := li_some hF
                  refine gx_ti e_63 ?_
                  refine lv_istore_n (lv' := [(3, .int x_62), (0, .ref (Q 72)), (1, .int v1), (2, .int v2), (4, .int v4)]) hx hb dX13_about_257 rfl hl (by decide) rfl (fun ls hl => ?_)
                  obtain ⟨x_64, e_65, hF⟩ := li_some hF
                  refine lv_iinc (v := x_64) (lv' := [(4, .int x_64), (3, .int x_62), (0, .ref (Q 72)), (1, .int v1), (2, .int v2)]) hx hb dX13_about_258 hl (k := 4) rfl e_65 (by decide) rfl (fun ls hl => ?_)
                  refine lv_goto (tgt := 230) hx hb dX13_about_261 (by decide) ?_
                  exact ih230 v1 v2 x_62 x_64 u_59 _ _ _ (lv_sub hl [2, 3, 4, 1, 0] rfl) hH hF
                · rw [if_neg c_61] at hF
                  refine lv_iconst (v := 1) hx hb dX13_about_251 (by decide) ?_
                  refine lv_goto (tgt := 256) hx hb dX13_about_252 (by decide) ?_
                  refine lv_iadd hx hb dX13_about_256 ?_
                  obtain ⟨x_66, e_67, hF⟩ := li_some hF
                  refine gx_ti e_67 ?_
                  refine lv_istore_n (lv' := [(3, .int x_66), (0, .ref (Q 72)), (1, .int v1), (2, .int v2), (4, .int v4)]) hx hb dX13_about_257 rfl hl (by decide) rfl (fun ls hl => ?_)
                  obtain ⟨x_68, e_69, hF⟩ := li_some hF
                  refine lv_iinc (v := x_68) (lv' := [(4, .int x_68), (3, .int x_66), (0, .ref (Q 72)), (1, .int v1), (2, .int v2)]) hx hb dX13_about_258 hl (k := 4) rfl e_69 (by decide) rfl (fun ls hl => ?_)
                  refine lv_goto (tgt := 230) hx hb dX13_about_261 (by decide) ?_
                  exact ih230 v1 v2 x_66 x_68 u_59 _ _ _ (lv_sub hl [2, 3, 4, 1, 0] rfl) hH hF
          refine hL230 _ (fun v1 v2 v3 v4 u H locs ls hl hH hF => ?_) fuel a0 a1 0 0 u_9 _ _ _ (lv_sub hl [2, 3, 4, 1, 0] rfl) hH hF
          refine lv_iload_n hx hb dX13_about_264 rfl (lv_at hl 3 rfl) ?_
          exact mr_i hC hH hr hF dX13_about_265 hlocks
        rw [if_neg c_53] at hF
        refine lv_tableOut (tgt := 266) hx hb dX13_about_62 (by have q0 := gl_ne c_12 (a := 0) (by decide); have q1 := gl_ne c_24 (a := 1) (by decide); have q2 := gl_ne c_28 (a := 2) (by decide); have q3 := gl_ne c_30 (a := 3) (by decide); have q4 := gl_ne c_34 (a := 4) (by decide); have q5 := gl_ne c_38 (a := 5) (by decide); have q6 := gl_ne c_53 (a := 6) (by decide); omega) (by decide) ?_
        refine lv_iconst (v := (-1)) hx hb dX13_about_266 (by decide) ?_
        exact mr_i hC hH hr hF dX13_about_267 hlocks
      · rw [if_neg c_11] at hF
        refine lv_aload_n hx hb dX13_about_44 rfl (lv_at hl 0 rfl) ?_
        refine mg_14 hC hH dX13_about_45 ?_
        refine lv_bipush (v := 32) hx hb dX13_about_48 (by decide) ?_
        refine lv_iload_n hx hb dX13_about_50 rfl (lv_at hl 1 rfl) ?_
        refine lv_imul hx hb dX13_about_51 ?_
        refine lv_iload_n hx hb dX13_about_52 rfl (lv_at hl 2 rfl) ?_
        refine lv_iadd hx hb dX13_about_53 ?_
        refine lv_bipush (v := 100) hx hb dX13_about_54 (by decide) ?_
        refine lv_isub hx hb dX13_about_56 ?_
        obtain ⟨g_70, hF⟩ := og_some hF
        refine ml_14 hC hH g_70 dX13_about_57 ?_
        exact mr_i hC hH hr hF dX13_about_58 hlocks
    · rw [if_pos c_6] at hF
      refine lv_iconst (v := 0) hx hb dX13_about_26 (by decide) ?_
      refine lv_goto (tgt := 36) hx hb dX13_about_27 (by decide) ?_
      refine lv_i2l (v := 0) hx hb dX13_about_36 (by decide) ?_
      refine lv_ladd hx hb dX13_about_37 ?_
      obtain ⟨r_71, u_72, h_73, hF⟩ := ob_some hF
      refine mcS_i (As := [.long a1.toInt64, .long 100, .long ((99 : Int64) + (0 : Int64))]) (rest := []) hC hH (m_in l G Z Q u_2 u_72 r_71 a1.toInt64 100 ((99 : Int64) + (0 : Int64)) _ h_73) kwX13_in kVX13_in ⟨Nat.le_of_ble_eq_true rfl, Nat.le_of_ble_eq_true rfl⟩ rfl hl.1 rfl (Nat.le_of_ble_eq_true rfl) dX13_about_38 (fun H locs hH => ?_)
      refine lv_if_eq (tgt := 59) hx hb dX13_about_41 (by decide) (fun c_74 => ?_) (fun c_74 => ?_)
      · rw [if_pos c_74] at hF
        refine lv_iconst (v := 0) hx hb dX13_about_59 (by decide) ?_
        refine lv_istore_n (lv' := [(3, .int 0), (0, .ref (Q 72)), (1, .int a0), (2, .int a1)]) hx hb dX13_about_60 rfl hl (by decide) rfl (fun ls hl => ?_)
        refine lv_iload_n hx hb dX13_about_61 rfl (lv_at hl 3 rfl) ?_
        by_cases c_75 : a1 = 0
        · rw [if_pos c_75] at hF
          refine gx_ti (y := 0) c_75 ?_
          refine lv_tableIn (off := 42) (tgt := 104) hx hb dX13_about_62 (by decide) (by decide) rfl (by decide) ?_
          refine lv_iconst (v := 0) hx hb dX13_about_104 (by decide) ?_
          refine lv_istore (lv' := [(4, .int 0), (3, .int 0), (0, .ref (Q 72)), (1, .int a0), (2, .int a1)]) hx hb dX13_about_105 hl (by decide) rfl (fun ls hl => ?_)
          have hL107 : ∀ (K107_141 : Int32 → Int32 → Int32 → Int32 → MS → Option (Int32 × MS)), (∀ (v1 v2 v3 v4 : Int32) (u : MS) (H : Heap) (locs : List Loc) (ls : Array Slot), lv_has ls 5 [(0, .ref (Q 72)), (1, .int v1), (2, .int v2), (3, .int v3), (4, .int v4)] → mH G Q u s H locs → K107_141 v1 v2 v3 v4 u = some ((r, u1)) → W p l e (headSpec (Cond.code yX13_about cX13_about 5 (some .int) :: wM) { frames := 310, cells := 0, slots := 0, locals := 3810 }).room s m [.ref (Q 72), .int a0, .int a1].toArray below meth c H locs 0 0 (MQ below (mQi G Q u1 r s.heap.size) [.ref (Q 72), .int a0, .int a1].toArray s 0 0 (mA Q s.heap.size)) (F0 m 141 ls [])) → ∀ (n107 : Nat) (v1 v2 v3 v4 : Int32) (u : MS) (H : Heap) (locs : List Loc) (ls : Array Slot), lv_has ls 5 [(0, .ref (Q 72)), (1, .int v1), (2, .int v2), (3, .int v3), (4, .int v4)] → mH G Q u s H locs → lp_about_107 n107 v1 v2 v3 v4 u K107_141 = some ((r, u1)) → W p l e (headSpec (Cond.code yX13_about cX13_about 5 (some .int) :: wM) { frames := 310, cells := 0, slots := 0, locals := 3810 }).room s m [.ref (Q 72), .int a0, .int a1].toArray below meth c H locs 0 0 (MQ below (mQi G Q u1 r s.heap.size) [.ref (Q 72), .int a0, .int a1].toArray s 0 0 (mA Q s.heap.size)) (F0 m 107 ls []) := by
            intro K107_141 hK107_141 n107
            induction n107 with
            | zero => intro v1 v2 v3 v4 u H locs ls hl hH hF; cases hF
            | succ n107 ih107 =>
              intro v1 v2 v3 v4 u H locs ls hl hH hF
              unfold lp_about_107 at hF
              refine lv_iload hx hb dX13_about_107 (lv_at hl 4 rfl) ?_
              refine lv_aload_n hx hb dX13_about_109 rfl (lv_at hl 0 rfl) ?_
              refine mg_2 hC hH dX13_about_110 ?_
              refine lv_icmp_ge (tgt := 141) hx hb dX13_about_113 (by decide) (fun c_76 => ?_) (fun c_76 => ?_)
              · rw [if_pos c_76] at hF
                exact hK107_141 v1 v2 v3 v4 u _ _ _ (lv_sub hl [0, 1, 2, 3, 4] rfl) hH hF
              · rw [if_neg c_76] at hF
                refine lv_iload_n hx hb dX13_about_116 rfl (lv_at hl 3 rfl) ?_
                refine lv_aload_n hx hb dX13_about_117 rfl (lv_at hl 0 rfl) ?_
                refine mg_5 hC hH dX13_about_118 ?_
                refine lv_iload hx hb dX13_about_121 (lv_at hl 4 rfl) ?_
                obtain ⟨g_77, hF⟩ := og_some hF
                refine ml_5 hC hH g_77 dX13_about_123 ?_
                refine lv_iload_n hx hb dX13_about_124 rfl (lv_at hl 1 rfl) ?_
                refine lv_icmp_ne (tgt := 132) hx hb dX13_about_125 (by decide) (fun c_78 => ?_) (fun c_78 => ?_)
                · rw [if_neg c_78] at hF
                  refine lv_iconst (v := 0) hx hb dX13_about_132 (by decide) ?_
                  refine lv_iadd hx hb dX13_about_133 ?_
                  obtain ⟨x_79, e_80, hF⟩ := li_some hF
                  refine gx_ti e_80 ?_
                  refine lv_istore_n (lv' := [(3, .int x_79), (0, .ref (Q 72)), (1, .int v1), (2, .int v2), (4, .int v4)]) hx hb dX13_about_134 rfl hl (by decide) rfl (fun ls hl => ?_)
                  obtain ⟨x_81, e_82, hF⟩ := li_some hF
                  refine lv_iinc (v := x_81) (lv' := [(4, .int x_81), (3, .int x_79), (0, .ref (Q 72)), (1, .int v1), (2, .int v2)]) hx hb dX13_about_135 hl (k := 4) rfl e_82 (by decide) rfl (fun ls hl => ?_)
                  refine lv_goto (tgt := 107) hx hb dX13_about_138 (by decide) ?_
                  exact ih107 v1 v2 x_79 x_81 u _ _ _ (lv_sub hl [2, 3, 4, 1, 0] rfl) hH hF
                · rw [if_pos c_78] at hF
                  refine lv_iconst (v := 1) hx hb dX13_about_128 (by decide) ?_
                  refine lv_goto (tgt := 133) hx hb dX13_about_129 (by decide) ?_
                  refine lv_iadd hx hb dX13_about_133 ?_
                  obtain ⟨x_83, e_84, hF⟩ := li_some hF
                  refine gx_ti e_84 ?_
                  refine lv_istore_n (lv' := [(3, .int x_83), (0, .ref (Q 72)), (1, .int v1), (2, .int v2), (4, .int v4)]) hx hb dX13_about_134 rfl hl (by decide) rfl (fun ls hl => ?_)
                  obtain ⟨x_85, e_86, hF⟩ := li_some hF
                  refine lv_iinc (v := x_85) (lv' := [(4, .int x_85), (3, .int x_83), (0, .ref (Q 72)), (1, .int v1), (2, .int v2)]) hx hb dX13_about_135 hl (k := 4) rfl e_86 (by decide) rfl (fun ls hl => ?_)
                  refine lv_goto (tgt := 107) hx hb dX13_about_138 (by decide) ?_
                  exact ih107 v1 v2 x_83 x_85 u _ _ _ (lv_sub hl [2, 3, 4, 1, 0] rfl) hH hF
          refine hL107 _ (fun v1 v2 v3 v4 u H locs ls hl hH hF => ?_) fuel a0 a1 0 0 u_72 _ _ _ (lv_sub hl [2, 3, 4, 1, 0] rfl) hH hF
          refine lv_iload_n hx hb dX13_about_141 rfl (lv_at hl 3 rfl) ?_
          exact mr_i hC hH hr hF dX13_about_142 hlocks
        rw [if_neg c_75] at hF
        by_cases c_87 : a1 = 1
        · rw [if_pos c_87] at hF
          refine gx_ti (y := 1) c_87 ?_
          refine lv_tableIn (off := 81) (tgt := 143) hx hb dX13_about_62 (by decide) (by decide) rfl (by decide) ?_
          refine lv_aload_n hx hb dX13_about_143 rfl (lv_at hl 1 rfl) ?_
          refine lv_iload_n hx hb dX13_about_144 rfl (lv_at hl 2 rfl) ?_
          obtain ⟨r_88, u_89, h_90, hF⟩ := ob_some hF
          refine mcV_i (As := [.int a0]) (rest := []) hC hH (m_weighed l G Z Q u_72 u_89 r_88 a0 _ h_90) kwX13_weighed kVX13_weighed ⟨Nat.le_of_ble_eq_true rfl, Nat.le_of_ble_eq_true rfl⟩ rfl hl.1 rfl (Nat.le_of_ble_eq_true rfl) dX13_about_145 (fun H locs hH => ?_)
          exact mr_i hC hH hr hF dX13_about_148 hlocks
        rw [if_neg c_87] at hF
        by_cases c_91 : a1 = 2
        · rw [if_pos c_91] at hF
          refine gx_ti (y := 2) c_91 ?_
          refine lv_tableIn (off := 87) (tgt := 149) hx hb dX13_about_62 (by decide) (by decide) rfl (by decide) ?_
          refine lv_aload_n hx hb dX13_about_149 rfl (lv_at hl 1 rfl) ?_
          refine mg_12 hC hH dX13_about_150 ?_
          refine lv_iload_n hx hb dX13_about_153 rfl (lv_at hl 2 rfl) ?_
          obtain ⟨g_92, hF⟩ := og_some hF
          refine ml_12 hC hH g_92 dX13_about_154 ?_
          exact mr_i hC hH hr hF dX13_about_155 hlocks
        rw [if_neg c_91] at hF
        by_cases c_93 : a1 = 3
        · rw [if_pos c_93] at hF
          refine gx_ti (y := 3) c_93 ?_
          refine lv_tableIn (off := 94) (tgt := 156) hx hb dX13_about_62 (by decide) (by decide) rfl (by decide) ?_
          refine lv_aload_n hx hb dX13_about_156 rfl (lv_at hl 1 rfl) ?_
          refine mg_12 hC hH dX13_about_157 ?_
          refine lv_iload_n hx hb dX13_about_160 rfl (lv_at hl 2 rfl) ?_
          obtain ⟨g_94, hF⟩ := og_some hF
          refine ml_12 hC hH g_94 dX13_about_161 ?_
          refine lv_if_ne (tgt := 169) hx hb dX13_about_162 (by decide) (fun c_95 => ?_) (fun c_95 => ?_)
          · rw [if_neg c_95] at hF
            refine lv_aload_n hx hb dX13_about_169 rfl (lv_at hl 1 rfl) ?_
            refine mg_13 hC hH dX13_about_170 ?_
            refine lv_iload_n hx hb dX13_about_173 rfl (lv_at hl 2 rfl) ?_
            obtain ⟨g_96, hF⟩ := og_some hF
            refine ml_13 hC hH g_96 dX13_about_174 ?_
            exact mr_i hC hH hr hF dX13_about_175 hlocks
          · rw [if_pos c_95] at hF
            refine lv_iconst (v := (-1)) hx hb dX13_about_165 (by decide) ?_
            refine lv_goto (tgt := 175) hx hb dX13_about_166 (by decide) ?_
            exact mr_i hC hH hr hF dX13_about_175 hlocks
        rw [if_neg c_93] at hF
        by_cases c_97 : a1 = 4
        · rw [if_pos c_97] at hF
          refine gx_ti (y := 4) c_97 ?_
          refine lv_tableIn (off := 114) (tgt := 176) hx hb dX13_about_62 (by decide) (by decide) rfl (by decide) ?_
          refine lv_aload_n hx hb dX13_about_176 rfl (lv_at hl 1 rfl) ?_
          refine lv_iload_n hx hb dX13_about_177 rfl (lv_at hl 2 rfl) ?_
          obtain ⟨r_98, u_99, h_100, hF⟩ := ob_some hF
          refine mcV_i (As := [.int a0]) (rest := []) hC hH (m_fights l G Z Q u_72 u_99 r_98 a0 _ h_100) kwX13_fights kVX13_fights ⟨Nat.le_of_ble_eq_true rfl, Nat.le_of_ble_eq_true rfl⟩ rfl hl.1 rfl (Nat.le_of_ble_eq_true rfl) dX13_about_178 (fun H locs hH => ?_)
          exact mr_i hC hH hr hF dX13_about_181 hlocks
        rw [if_neg c_97] at hF
        by_cases c_101 : a1 = 5
        · rw [if_pos c_101] at hF
          refine gx_ti (y := 5) c_101 ?_
          refine lv_tableIn (off := 120) (tgt := 182) hx hb dX13_about_62 (by decide) (by decide) rfl (by decide) ?_
          refine lv_iconst (v := 0) hx hb dX13_about_182 (by decide) ?_
          refine lv_istore (lv' := [(4, .int 0), (3, .int 0), (0, .ref (Q 72)), (1, .int a0), (2, .int a1)]) hx hb dX13_about_183 hl (by decide) rfl (fun ls hl => ?_)
          have hL185 : ∀ (K185_225 : Int32 → Int32 → Int32 → Int32 → MS → Option (Int32 × MS)), (∀ (v1 v2 v3 v4 : Int32) (u : MS) (H : Heap) (locs : List Loc) (ls : Array Slot), lv_has ls 5 [(0, .ref (Q 72)), (1, .int v1), (2, .int v2), (3, .int v3), (4, .int v4)] → mH G Q u s H locs → K185_225 v1 v2 v3 v4 u = some ((r, u1)) → W p l e (headSpec (Cond.code yX13_about cX13_about 5 (some .int) :: wM) { frames := 310, cells := 0, slots := 0, locals := 3810 }).room s m [.ref (Q 72), .int a0, .int a1].toArray below meth c H locs 0 0 (MQ below (mQi G Q u1 r s.heap.size) [.ref (Q 72), .int a0, .int a1].toArray s 0 0 (mA Q s.heap.size)) (F0 m 225 ls [])) → ∀ (n185 : Nat) (v1 v2 v3 v4 : Int32) (u : MS) (H : Heap) (locs : List Loc) (ls : Array Slot), lv_has ls 5 [(0, .ref (Q 72)), (1, .int v1), (2, .int v2), (3, .int v3), (4, .int v4)] → mH G Q u s H locs → lp_about_185 n185 v1 v2 v3 v4 u K185_225 = some ((r, u1)) → W p l e (headSpec (Cond.code yX13_about cX13_about 5 (some .int) :: wM) { frames := 310, cells := 0, slots := 0, locals := 3810 }).room s m [.ref (Q 72), .int a0, .int a1].toArray below meth c H locs 0 0 (MQ below (mQi G Q u1 r s.heap.size) [.ref (Q 72), .int a0, .int a1].toArray s 0 0 (mA Q s.heap.size)) (F0 m 185 ls []) := by
            intro K185_225 hK185_225 n185
            induction n185 with
            | zero => intro v1 v2 v3 v4 u H locs ls hl hH hF; cases hF
            | succ n185 ih185 =>
              intro v1 v2 v3 v4 u H locs ls hl hH hF
              unfold lp_about_185 at hF
              refine lv_iload hx hb dX13_about_185 (lv_at hl 4 rfl) ?_
              refine lv_aload_n hx hb dX13_about_187 rfl (lv_at hl 0 rfl) ?_
              refine lv_iload_n hx hb dX13_about_188 rfl (lv_at hl 1 rfl) ?_
              obtain ⟨r_102, u_103, h_104, hF⟩ := ob_some hF
              refine mcV_i (As := [.int v1]) (rest := [.int v4]) hC hH (m_fights l G Z Q u u_103 r_102 v1 _ h_104) kwX13_fights kVX13_fights ⟨Nat.le_of_ble_eq_true rfl, Nat.le_of_ble_eq_true rfl⟩ rfl hl.1 rfl (Nat.le_of_ble_eq_true rfl) dX13_about_189 (fun H locs hH => ?_)
              refine lv_icmp_ge (tgt := 225) hx hb dX13_about_192 (by decide) (fun c_105 => ?_) (fun c_105 => ?_)
              · rw [if_pos c_105] at hF
                exact hK185_225 v1 v2 v3 v4 u_103 _ _ _ (lv_sub hl [0, 1, 2, 3, 4] rfl) hH hF
              · rw [if_neg c_105] at hF
                refine lv_iload_n hx hb dX13_about_195 rfl (lv_at hl 3 rfl) ?_
                refine lv_aload_n hx hb dX13_about_196 rfl (lv_at hl 0 rfl) ?_
                refine mg_15 hC hH dX13_about_197 ?_
                refine lv_bipush (v := 40) hx hb dX13_about_200 (by decide) ?_
                refine lv_iload_n hx hb dX13_about_202 rfl (lv_at hl 1 rfl) ?_
                refine lv_imul hx hb dX13_about_203 ?_
                refine lv_iload hx hb dX13_about_204 (lv_at hl 4 rfl) ?_
                refine lv_iadd hx hb dX13_about_206 ?_
                obtain ⟨g_106, hF⟩ := og_some hF
                refine ml_15 hC hH g_106 dX13_about_207 ?_
                refine lv_iconst (v := 2) hx hb dX13_about_208 (by decide) ?_
                refine lv_icmp_ne (tgt := 216) hx hb dX13_about_209 (by decide) (fun c_107 => ?_) (fun c_107 => ?_)
                · rw [if_neg c_107] at hF
                  refine lv_iconst (v := 0) hx hb dX13_about_216 (by decide) ?_
                  refine lv_iadd hx hb dX13_about_217 ?_
                  obtain ⟨x_108, e_109, hF⟩ := li_some hF
                  refine gx_ti e_109 ?_
                  refine lv_istore_n (lv' := [(3, .int x_108), (0, .ref (Q 72)), (1, .int v1), (2, .int v2), (4, .int v4)]) hx hb dX13_about_218 rfl hl (by decide) rfl (fun ls hl => ?_)
                  obtain ⟨x_110, e_111, hF⟩ := li_some hF
                  refine lv_iinc (v := x_110) (lv' := [(4, .int x_110), (3, .int x_108), (0, .ref (Q 72)), (1, .int v1), (2, .int v2)]) hx hb dX13_about_219 hl (k := 4) rfl e_111 (by decide) rfl (fun ls hl => ?_)
                  refine lv_goto (tgt := 185) hx hb dX13_about_222 (by decide) ?_
                  exact ih185 v1 v2 x_108 x_110 u_103 _ _ _ (lv_sub hl [2, 3, 4, 1, 0] rfl) hH hF
                · rw [if_pos c_107] at hF
                  refine lv_iconst (v := 1) hx hb dX13_about_212 (by decide) ?_
                  refine lv_goto (tgt := 217) hx hb dX13_about_213 (by decide) ?_
                  refine lv_iadd hx hb dX13_about_217 ?_
                  obtain ⟨x_112, e_113, hF⟩ := li_some hF
                  refine gx_ti e_113 ?_
                  refine lv_istore_n (lv' := [(3, .int x_112), (0, .ref (Q 72)), (1, .int v1), (2, .int v2), (4, .int v4)]) hx hb dX13_about_218 rfl hl (by decide) rfl (fun ls hl => ?_)
                  obtain ⟨x_114, e_115, hF⟩ := li_some hF
                  refine lv_iinc (v := x_114) (lv' := [(4, .int x_114), (3, .int x_112), (0, .ref (Q 72)), (1, .int v1), (2, .int v2)]) hx hb dX13_about_219 hl (k := 4) rfl e_115 (by decide) rfl (fun ls hl => ?_)
                  refine lv_goto (tgt := 185) hx hb dX13_about_222 (by decide) ?_
                  exact ih185 v1 v2 x_112 x_114 u_103 _ _ _ (lv_sub hl [2, 3, 4, 1, 0] rfl) hH hF
          refine hL185 _ (fun v1 v2 v3 v4 u H locs ls hl hH hF => ?_) fuel a0 a1 0 0 u_72 _ _ _ (lv_sub hl [2, 3, 4, 1, 0] rfl) hH hF
          refine lv_iload_n hx hb dX13_about_225 rfl (lv_at hl 3 rfl) ?_
          exact mr_i hC hH hr hF dX13_about_226 hlocks
        rw [if_neg c_101] at hF
        by_cases c_116 : a1 = 6
        · rw [if_pos c_116] at hF
          refine gx_ti (y := 6) c_116 ?_
          refine lv_tableIn (off := 165) (tgt := 227) hx hb dX13_about_62 (by decide) (by decide) rfl (by decide) ?_
          refine lv_iconst (v := 0) hx hb dX13_about_227 (by decide) ?_
          refine lv_istore (lv' := [(4, .int 0), (3, .int 0), (0, .ref (Q 72)), (1, .int a0), (2, .int a1)]) hx hb dX13_about_228 hl (by decide) rfl (fun ls hl => ?_)
          have hL230 : ∀ (K230_264 : Int32 → Int32 → Int32 → Int32 → MS → Option (Int32 × MS)), (∀ (v1 v2 v3 v4 : Int32) (u : MS) (H : Heap) (locs : List Loc) (ls : Array Slot), lv_has ls 5 [(0, .ref (Q 72)), (1, .int v1), (2, .int v2), (3, .int v3), (4, .int v4)] → mH G Q u s H locs → K230_264 v1 v2 v3 v4 u = some ((r, u1)) → W p l e (headSpec (Cond.code yX13_about cX13_about 5 (some .int) :: wM) { frames := 310, cells := 0, slots := 0, locals := 3810 }).room s m [.ref (Q 72), .int a0, .int a1].toArray below meth c H locs 0 0 (MQ below (mQi G Q u1 r s.heap.size) [.ref (Q 72), .int a0, .int a1].toArray s 0 0 (mA Q s.heap.size)) (F0 m 264 ls [])) → ∀ (n230 : Nat) (v1 v2 v3 v4 : Int32) (u : MS) (H : Heap) (locs : List Loc) (ls : Array Slot), lv_has ls 5 [(0, .ref (Q 72)), (1, .int v1), (2, .int v2), (3, .int v3), (4, .int v4)] → mH G Q u s H locs → lp_about_230 n230 v1 v2 v3 v4 u K230_264 = some ((r, u1)) → W p l e (headSpec (Cond.code yX13_about cX13_about 5 (some .int) :: wM) { frames := 310, cells := 0, slots := 0, locals := 3810 }).room s m [.ref (Q 72), .int a0, .int a1].toArray below meth c H locs 0 0 (MQ below (mQi G Q u1 r s.heap.size) [.ref (Q 72), .int a0, .int a1].toArray s 0 0 (mA Q s.heap.size)) (F0 m 230 ls []) := by
            intro K230_264 hK230_264 n230
            induction n230 with
            | zero => intro v1 v2 v3 v4 u H locs ls hl hH hF; cases hF
            | succ n230 ih230 =>
              intro v1 v2 v3 v4 u H locs ls hl hH hF
              unfold lp_about_230 at hF
              refine lv_iload hx hb dX13_about_230 (lv_at hl 4 rfl) ?_
              refine lv_aload_n hx hb dX13_about_232 rfl (lv_at hl 0 rfl) ?_
              refine lv_iload_n hx hb dX13_about_233 rfl (lv_at hl 1 rfl) ?_
              obtain ⟨r_117, u_118, h_119, hF⟩ := ob_some hF
              refine mcV_i (As := [.int v1]) (rest := [.int v4]) hC hH (m_fights l G Z Q u u_118 r_117 v1 _ h_119) kwX13_fights kVX13_fights ⟨Nat.le_of_ble_eq_true rfl, Nat.le_of_ble_eq_true rfl⟩ rfl hl.1 rfl (Nat.le_of_ble_eq_true rfl) dX13_about_234 (fun H locs hH => ?_)
              refine lv_icmp_ge (tgt := 264) hx hb dX13_about_237 (by decide) (fun c_120 => ?_) (fun c_120 => ?_)
              · rw [if_pos c_120] at hF
                exact hK230_264 v1 v2 v3 v4 u_118 _ _ _ (lv_sub hl [0, 1, 2, 3, 4] rfl) hH hF
              · rw [if_neg c_120] at hF
                refine lv_iload_n hx hb dX13_about_240 rfl (lv_at hl 3 rfl) ?_
                refine lv_aload_n hx hb dX13_about_241 rfl (lv_at hl 0 rfl) ?_
                refine lv_iload_n hx hb dX13_about_242 rfl (lv_at hl 1 rfl) ?_
                refine lv_iload hx hb dX13_about_243 (lv_at hl 4 rfl) ?_
                obtain ⟨r_121, u_122, h_123, hF⟩ := ob_some hF
                refine mcV_i (As := [.int v1, .int v4]) (rest := [.int v3]) hC hH (m_isWalk l G Z Q u_118 u_122 r_121 v1 v4 _ h_123) kwX13_isWalk kVX13_isWalk ⟨Nat.le_of_ble_eq_true rfl, Nat.le_of_ble_eq_true rfl⟩ rfl hl.1 rfl (Nat.le_of_ble_eq_true rfl) dX13_about_245 (fun H locs hH => ?_)
                refine lv_if_eq (tgt := 255) hx hb dX13_about_248 (by decide) (fun c_124 => ?_) (fun c_124 => ?_)
                · rw [if_pos c_124] at hF
                  refine lv_iconst (v := 0) hx hb dX13_about_255 (by decide) ?_
                  refine lv_iadd hx hb dX13_about_256 ?_
                  obtain ⟨x_125, e_126, hF⟩ := li_some hF
                  refine gx_ti e_126 ?_
                  refine lv_istore_n (lv' := [(3, .int x_125), (0, .ref (Q 72)), (1, .int v1), (2, .int v2), (4, .int v4)]) hx hb dX13_about_257 rfl hl (by decide) rfl (fun ls hl => ?_)
                  obtain ⟨x_127, e_128, hF⟩ := li_some hF
                  refine lv_iinc (v := x_127) (lv' := [(4, .int x_127), (3, .int x_125), (0, .ref (Q 72)), (1, .int v1), (2, .int v2)]) hx hb dX13_about_258 hl (k := 4) rfl e_128 (by decide) rfl (fun ls hl => ?_)
                  refine lv_goto (tgt := 230) hx hb dX13_about_261 (by decide) ?_
                  exact ih230 v1 v2 x_125 x_127 u_122 _ _ _ (lv_sub hl [2, 3, 4, 1, 0] rfl) hH hF
                · rw [if_neg c_124] at hF
                  refine lv_iconst (v := 1) hx hb dX13_about_251 (by decide) ?_
                  refine lv_goto (tgt := 256) hx hb dX13_about_252 (by decide) ?_
                  refine lv_iadd hx hb dX13_about_256 ?_
                  obtain ⟨x_129, e_130, hF⟩ := li_some hF
                  refine gx_ti e_130 ?_
                  refine lv_istore_n (lv' := [(3, .int x_129), (0, .ref (Q 72)), (1, .int v1), (2, .int v2), (4, .int v4)]) hx hb dX13_about_257 rfl hl (by decide) rfl (fun ls hl => ?_)
                  obtain ⟨x_131, e_132, hF⟩ := li_some hF
                  refine lv_iinc (v := x_131) (lv' := [(4, .int x_131), (3, .int x_129), (0, .ref (Q 72)), (1, .int v1), (2, .int v2)]) hx hb dX13_about_258 hl (k := 4) rfl e_132 (by decide) rfl (fun ls hl => ?_)
                  refine lv_goto (tgt := 230) hx hb dX13_about_261 (by decide) ?_
                  exact ih230 v1 v2 x_129 x_131 u_122 _ _ _ (lv_sub hl [2, 3, 4, 1, 0] rfl) hH hF
          refine hL230 _ (fun v1 v2 v3 v4 u H locs ls hl hH hF => ?_) fuel a0 a1 0 0 u_72 _ _ _ (lv_sub hl [2, 3, 4, 1, 0] rfl) hH hF
          refine lv_iload_n hx hb dX13_about_264 rfl (lv_at hl 3 rfl) ?_
          exact mr_i hC hH hr hF dX13_about_265 hlocks
        rw [if_neg c_116] at hF
        refine lv_tableOut (tgt := 266) hx hb dX13_about_62 (by have q0 := gl_ne c_75 (a := 0) (by decide); have q1 := gl_ne c_87 (a := 1) (by decide); have q2 := gl_ne c_91 (a := 2) (by decide); have q3 := gl_ne c_93 (a := 3) (by decide); have q4 := gl_ne c_97 (a := 4) (by decide); have q5 := gl_ne c_101 (a := 5) (by decide); have q6 := gl_ne c_116 (a := 6) (by decide); omega) (by decide) ?_
        refine lv_iconst (v := (-1)) hx hb dX13_about_266 (by decide) ?_
        exact mr_i hC hH hr hF dX13_about_267 hlocks
      · rw [if_neg c_74] at hF
        refine lv_aload_n hx hb dX13_about_44 rfl (lv_at hl 0 rfl) ?_
        refine mg_14 hC hH dX13_about_45 ?_
        refine lv_bipush (v := 32) hx hb dX13_about_48 (by decide) ?_
        refine lv_iload_n hx hb dX13_about_50 rfl (lv_at hl 1 rfl) ?_
        refine lv_imul hx hb dX13_about_51 ?_
        refine lv_iload_n hx hb dX13_about_52 rfl (lv_at hl 2 rfl) ?_
        refine lv_iadd hx hb dX13_about_53 ?_
        refine lv_bipush (v := 100) hx hb dX13_about_54 (by decide) ?_
        refine lv_isub hx hb dX13_about_56 ?_
        obtain ⟨g_133, hF⟩ := og_some hF
        refine ml_14 hC hH g_133 dX13_about_57 ?_
        exact mr_i hC hH hr hF dX13_about_58 hlocks
  · rw [if_pos c_4] at hF
    refine lv_iconst (v := (-1)) hx hb dX13_about_7 (by decide) ?_
    exact mr_i hC hH hr hF dX13_about_8 hlocks
def f_fight (a0 : Int32) (a1 : Int32) (a2 : Int32) (u : MS) : Option (Int32 × MS) := ob (f_isFight a0 a1 u) (fun r_1 u_2 => (if r_1 = 0 then some (-1, u_2) else li ((40 * a0) + a1) (fun x_5 => og (gi x_5 160) ((if (ra u_2 15 x_5) = 2 then (if a2 = 0 then ob (fS 24 0 a0 a1 0 0 u_2) (fun r_47 u_48 => some ((if (-1) < r_47 then r_47 else (-1)), u_48)) else if a2 = 1 then ob (fS 24 0 a0 a1 1 0 u_2) (fun r_51 u_52 => some ((if (-1) < r_51 then r_51 else (-1)), u_52)) else if a2 = 2 then ob (fS 24 3 a0 a1 0 0 u_2) (fun r_55 u_56 => some (r_55, u_56)) else if a2 = 3 then (if (1 : Int32) = 0 then og (gi x_5 160) ((if (ra u_2 15 x_5) = 1 then some (2, u_2) else ob (f_isWalk a0 a1 u_2) (fun r_62 u_63 => (if r_62 = 0 then ob (f_isReady a0 a1 u_63) (fun r_66 u_67 => (if r_66 = 0 then some (0, u_67) else some (1, u_67))) else some (4, u_63))))) else some (3, u_2)) else if a2 = 4 then (if (1 : Int32) = 0 then some (-1, u_2) else og (gi x_5 160) (some (ra u_2 19 x_5, u_2))) else if a2 = 5 then (if (1 : Int32) = 0 then some (0, u_2) else og (gi x_5 160) (some (ra u_2 20 x_5, u_2))) else if a2 = 6 then ob (f_matOf a0 a1 u_2) (fun r_77 u_78 => some (r_77, u_78)) else if a2 = 7 then (if (1 : Int32) = 0 then some (-1, u_2) else og (gi x_5 160) (some (ra u_2 21 x_5, u_2))) else some (-1, u_2)) else (if a2 = 0 then ob (fS 24 0 a0 a1 0 0 u_2) (fun r_10 u_11 => some ((if (-1) < r_10 then r_10 else (-1)), u_11)) else if a2 = 1 then ob (fS 24 0 a0 a1 1 0 u_2) (fun r_14 u_15 => some ((if (-1) < r_14 then r_14 else (-1)), u_15)) else if a2 = 2 then ob (fS 24 3 a0 a1 0 0 u_2) (fun r_18 u_19 => some (r_18, u_19)) else if a2 = 3 then (if (0 : Int32) = 0 then og (gi x_5 160) ((if (ra u_2 15 x_5) = 1 then some (2, u_2) else ob (f_isWalk a0 a1 u_2) (fun r_25 u_26 => (if r_25 = 0 then ob (f_isReady a0 a1 u_26) (fun r_29 u_30 => (if r_29 = 0 then some (0, u_30) else some (1, u_30))) else some (4, u_26))))) else some (3, u_2)) else if a2 = 4 then (if (0 : Int32) = 0 then some (-1, u_2) else og (gi x_5 160) (some (ra u_2 19 x_5, u_2))) else if a2 = 5 then (if (0 : Int32) = 0 then some (0, u_2) else og (gi x_5 160) (some (ra u_2 20 x_5, u_2))) else if a2 = 6 then ob (f_matOf a0 a1 u_2) (fun r_40 u_41 => some (r_40, u_41)) else if a2 = 7 then (if (0 : Int32) = 0 then some (-1, u_2) else og (gi x_5 160) (some (ra u_2 21 x_5, u_2))) else some (-1, u_2)))))))
set_option maxHeartbeats 4000000 in
set_option maxRecDepth 100000 in
theorem m_fight (l : Launch) (G : gG) (Z : gM) (Q : Nat → Nat) (u u1 : MS) (r : Int32) (a0 : Int32) (a1 : Int32) (a2 : Int32) (sz : Nat) (hF : f_fight a0 a1 a2 u = some (r, u1)) : Met l yX13_fight (Cond.code yX13_fight cX13_fight 6 (some .int) :: wM) { frames := 310, cells := 0, slots := 0, locals := 3810 } (va_Pc [.ref (Q 72), .int a0, .int a1, .int a2] (mPM G Z Q u sz)) (mQi G Q u1 r sz) 0 0 (mA Q sz) := by
  refine Met.ofW (cc := cX13_fight) (maxL := 6) (ret := (some .int)) (by decide) rfl ?_
  intro p e s m args below meth c s₁ B hml hv
  obtain ⟨rfl, rfl, hP, hB, hD, hE⟩ := hv
  have hr := B.returns
  have hlocks := B.notSynchronized
  have hts := atoms_spec (ws := Cond.code yX13_fight cX13_fight 6 (some .int) :: wM) B.pre
  have hC : mX p c cX13_fight 6 s m _ G Z Q := ⟨B.exec, B.bytes, hml, findClass_of_methodNamed B.named, fun w h => hts w (List.mem_cons_of_mem _ h), hB, hE⟩
  have hx := hC.1
  have hb := hC.2.1
  have hH : mH G Q u s s.heap [] := ⟨hP, hD, va_S.rf⟩
  have hl := lv_entry ([.ref (Q 72), .int a0, .int a1, .int a2]) (n := 6) (Nat.le_of_ble_eq_true rfl)
  rw [lg_entry_eq]
  generalize (lg_sl ([.ref (Q 72), .int a0, .int a1, .int a2]) ++ List.replicate (6 - (lg_sl ([.ref (Q 72), .int a0, .int a1, .int a2])).length) Slot.unset).toArray = ls at hl ⊢
  have hl : lv_has ls 6 [(0, .ref (Q 72)), (1, .int a0), (2, .int a1), (3, .int a2)] := hl
  unfold f_fight at hF
  refine lv_aload_n hx hb dX13_fight_0 rfl (lv_at hl 0 rfl) ?_
  refine lv_iload_n hx hb dX13_fight_1 rfl (lv_at hl 1 rfl) ?_
  refine lv_iload_n hx hb dX13_fight_2 rfl (lv_at hl 2 rfl) ?_
  obtain ⟨r_1, u_2, h_3, hF⟩ := ob_some hF
  refine mcV_i (As := [.int a0, .int a1]) (rest := []) hC hH (m_isFight l G Z Q u u_2 r_1 a0 a1 _ h_3) kwX13_isFight kVX13_isFight ⟨Nat.le_of_ble_eq_true rfl, Nat.le_of_ble_eq_true rfl⟩ rfl hl.1 rfl (Nat.le_of_ble_eq_true rfl) dX13_fight_3 (fun H locs hH => ?_)
  refine lv_if_ne (tgt := 11) hx hb dX13_fight_6 (by decide) (fun c_4 => ?_) (fun c_4 => ?_)
  · rw [if_neg c_4] at hF
    refine lv_bipush (v := 40) hx hb dX13_fight_11 (by decide) ?_
    refine lv_iload_n hx hb dX13_fight_13 rfl (lv_at hl 1 rfl) ?_
    refine lv_imul hx hb dX13_fight_14 ?_
    refine lv_iload_n hx hb dX13_fight_15 rfl (lv_at hl 2 rfl) ?_
    refine lv_iadd hx hb dX13_fight_16 ?_
    obtain ⟨x_5, e_6, hF⟩ := li_some hF
    refine gx_ti e_6 ?_
    refine lv_istore (lv' := [(4, .int x_5), (0, .ref (Q 72)), (1, .int a0), (2, .int a1), (3, .int a2)]) hx hb dX13_fight_17 hl (by decide) rfl (fun ls hl => ?_)
    refine lv_aload_n hx hb dX13_fight_19 rfl (lv_at hl 1 rfl) ?_
    refine mg_15 hC hH dX13_fight_20 ?_
    refine lv_iload hx hb dX13_fight_23 (lv_at hl 0 rfl) ?_
    obtain ⟨g_7, hF⟩ := og_some hF
    refine ml_15 hC hH g_7 dX13_fight_25 ?_
    refine lv_iconst (v := 2) hx hb dX13_fight_26 (by decide) ?_
    refine lv_icmp_ne (tgt := 34) hx hb dX13_fight_27 (by decide) (fun c_8 => ?_) (fun c_8 => ?_)
    · rw [if_neg c_8] at hF
      refine lv_iconst (v := 0) hx hb dX13_fight_34 (by decide) ?_
      refine lv_istore (lv' := [(5, .int 0), (4, .int x_5), (0, .ref (Q 72)), (1, .int a0), (2, .int a1), (3, .int a2)]) hx hb dX13_fight_35 hl (by decide) rfl (fun ls hl => ?_)
      refine lv_iload_n hx hb dX13_fight_37 rfl (lv_at hl 5 rfl) ?_
      by_cases c_9 : a2 = 0
      · rw [if_pos c_9] at hF
        refine gx_ti (y := 0) c_9 ?_
        refine lv_tableIn (off := 46) (tgt := 84) hx hb dX13_fight_38 (by decide) (by decide) rfl (by decide) ?_
        refine lv_iconst (v := (-1)) hx hb dX13_fight_84 (by decide) ?_
        refine lv_aload_n hx hb dX13_fight_85 rfl (lv_at hl 2 rfl) ?_
        refine lv_iload_n hx hb dX13_fight_86 rfl (lv_at hl 3 rfl) ?_
        refine lv_iload_n hx hb dX13_fight_87 rfl (lv_at hl 4 rfl) ?_
        refine lv_iconst (v := 0) hx hb dX13_fight_88 (by decide) ?_
        obtain ⟨r_10, u_11, h_12, hF⟩ := ob_some hF
        refine mcV_i (As := [.int a0, .int a1, .int 0]) (rest := [.int (-1)]) hC hH (m_sideOf l G Z Q u_2 u_11 r_10 a0 a1 0 _ h_12) kwX13_sideOf kVX13_sideOf ⟨Nat.le_of_ble_eq_true rfl, Nat.le_of_ble_eq_true rfl⟩ rfl hl.1 rfl (Nat.le_of_ble_eq_true rfl) dX13_fight_89 (fun H locs hH => ?_)
        refine va_mmax hx hb (hC.2.2.1.trans hl.1.symm) hC.2.2.2.1 (hC.2.2.2.2.1 _ wma152) (hC.2.2.2.2.1 _ wma376) (hC.2.2.2.2.1 _ wma378) (hC.2.2.2.2.1 _ wma379) (Nat.le_of_ble_eq_true rfl) (Nat.le_of_ble_eq_true rfl) (Nat.le_of_ble_eq_true rfl) (Nat.le_of_ble_eq_true rfl) dX13_fight_92 ?_
        exact mr_i hC hH hr hF dX13_fight_95 hlocks
      rw [if_neg c_9] at hF
      by_cases c_13 : a2 = 1
      · rw [if_pos c_13] at hF
        refine gx_ti (y := 1) c_13 ?_
        refine lv_tableIn (off := 58) (tgt := 96) hx hb dX13_fight_38 (by decide) (by decide) rfl (by decide) ?_
        refine lv_iconst (v := (-1)) hx hb dX13_fight_96 (by decide) ?_
        refine lv_aload_n hx hb dX13_fight_97 rfl (lv_at hl 2 rfl) ?_
        refine lv_iload_n hx hb dX13_fight_98 rfl (lv_at hl 3 rfl) ?_
        refine lv_iload_n hx hb dX13_fight_99 rfl (lv_at hl 4 rfl) ?_
        refine lv_iconst (v := 1) hx hb dX13_fight_100 (by decide) ?_
        obtain ⟨r_14, u_15, h_16, hF⟩ := ob_some hF
        refine mcV_i (As := [.int a0, .int a1, .int 1]) (rest := [.int (-1)]) hC hH (m_sideOf l G Z Q u_2 u_15 r_14 a0 a1 1 _ h_16) kwX13_sideOf kVX13_sideOf ⟨Nat.le_of_ble_eq_true rfl, Nat.le_of_ble_eq_true rfl⟩ rfl hl.1 rfl (Nat.le_of_ble_eq_true rfl) dX13_fight_101 (fun H locs hH => ?_)
        refine va_mmax hx hb (hC.2.2.1.trans hl.1.symm) hC.2.2.2.1 (hC.2.2.2.2.1 _ wma152) (hC.2.2.2.2.1 _ wma376) (hC.2.2.2.2.1 _ wma378) (hC.2.2.2.2.1 _ wma379) (Nat.le_of_ble_eq_true rfl) (Nat.le_of_ble_eq_true rfl) (Nat.le_of_ble_eq_true rfl) (Nat.le_of_ble_eq_true rfl) dX13_fight_104 ?_
        exact mr_i hC hH hr hF dX13_fight_107 hlocks
      rw [if_neg c_13] at hF
      by_cases c_17 : a2 = 2
      · rw [if_pos c_17] at hF
        refine gx_ti (y := 2) c_17 ?_
        refine lv_tableIn (off := 70) (tgt := 108) hx hb dX13_fight_38 (by decide) (by decide) rfl (by decide) ?_
        refine lv_aload_n hx hb dX13_fight_108 rfl (lv_at hl 2 rfl) ?_
        refine lv_iload_n hx hb dX13_fight_109 rfl (lv_at hl 3 rfl) ?_
        refine lv_iload_n hx hb dX13_fight_110 rfl (lv_at hl 4 rfl) ?_
        obtain ⟨r_18, u_19, h_20, hF⟩ := ob_some hF
        refine mcV_i (As := [.int a0, .int a1]) (rest := []) hC hH (m_winnerOf l G Z Q u_2 u_19 r_18 a0 a1 _ h_20) kwX13_winnerOf kVX13_winnerOf ⟨Nat.le_of_ble_eq_true rfl, Nat.le_of_ble_eq_true rfl⟩ rfl hl.1 rfl (Nat.le_of_ble_eq_true rfl) dX13_fight_111 (fun H locs hH => ?_)
        exact mr_i hC hH hr hF dX13_fight_114 hlocks
      rw [if_neg c_17] at hF
      by_cases c_21 : a2 = 3
      · rw [if_pos c_21] at hF
        refine gx_ti (y := 3) c_21 ?_
        refine lv_tableIn (off := 77) (tgt := 115) hx hb dX13_fight_38 (by decide) (by decide) rfl (by decide) ?_
        refine lv_iload hx hb dX13_fight_115 (lv_at hl 0 rfl) ?_
        refine lv_if_eq (tgt := 124) hx hb dX13_fight_117 (by decide) (fun c_22 => ?_) (fun c_22 => ?_)
        · rw [if_pos c_22] at hF
          refine lv_aload_n hx hb dX13_fight_124 rfl (lv_at hl 2 rfl) ?_
          refine mg_15 hC hH dX13_fight_125 ?_
          refine lv_iload hx hb dX13_fight_128 (lv_at hl 1 rfl) ?_
          obtain ⟨g_23, hF⟩ := og_some hF
          refine ml_15 hC hH g_23 dX13_fight_130 ?_
          refine lv_iconst (v := 1) hx hb dX13_fight_131 (by decide) ?_
          refine lv_icmp_ne (tgt := 139) hx hb dX13_fight_132 (by decide) (fun c_24 => ?_) (fun c_24 => ?_)
          · rw [if_neg c_24] at hF
            refine lv_aload_n hx hb dX13_fight_139 rfl (lv_at hl 2 rfl) ?_
            refine lv_iload_n hx hb dX13_fight_140 rfl (lv_at hl 3 rfl) ?_
            refine lv_iload_n hx hb dX13_fight_141 rfl (lv_at hl 4 rfl) ?_
            obtain ⟨r_25, u_26, h_27, hF⟩ := ob_some hF
            refine mcV_i (As := [.int a0, .int a1]) (rest := []) hC hH (m_isWalk l G Z Q u_2 u_26 r_25 a0 a1 _ h_27) kwX13_isWalk kVX13_isWalk ⟨Nat.le_of_ble_eq_true rfl, Nat.le_of_ble_eq_true rfl⟩ rfl hl.1 rfl (Nat.le_of_ble_eq_true rfl) dX13_fight_142 (fun H locs hH => ?_)
            refine lv_if_eq (tgt := 152) hx hb dX13_fight_145 (by decide) (fun c_28 => ?_) (fun c_28 => ?_)
            · rw [if_pos c_28] at hF
              refine lv_aload_n hx hb dX13_fight_152 rfl (lv_at hl 2 rfl) ?_
              refine lv_iload_n hx hb dX13_fight_153 rfl (lv_at hl 3 rfl) ?_
              refine lv_iload_n hx hb dX13_fight_154 rfl (lv_at hl 4 rfl) ?_
              obtain ⟨r_29, u_30, h_31, hF⟩ := ob_some hF
              refine mcV_i (As := [.int a0, .int a1]) (rest := []) hC hH (m_isReady l G Z Q u_26 u_30 r_29 a0 a1 _ h_31) kwX13_isReady kVX13_isReady ⟨Nat.le_of_ble_eq_true rfl, Nat.le_of_ble_eq_true rfl⟩ rfl hl.1 rfl (Nat.le_of_ble_eq_true rfl) dX13_fight_155 (fun H locs hH => ?_)
              refine lv_if_eq (tgt := 165) hx hb dX13_fight_158 (by decide) (fun c_32 => ?_) (fun c_32 => ?_)
              · rw [if_pos c_32] at hF
                refine lv_iconst (v := 0) hx hb dX13_fight_165 (by decide) ?_
                exact mr_i hC hH hr hF dX13_fight_166 hlocks
              · rw [if_neg c_32] at hF
                refine lv_iconst (v := 1) hx hb dX13_fight_161 (by decide) ?_
                refine lv_goto (tgt := 166) hx hb dX13_fight_162 (by decide) ?_
                exact mr_i hC hH hr hF dX13_fight_166 hlocks
            · rw [if_neg c_28] at hF
              refine lv_iconst (v := 4) hx hb dX13_fight_148 (by decide) ?_
              refine lv_goto (tgt := 166) hx hb dX13_fight_149 (by decide) ?_
              exact mr_i hC hH hr hF dX13_fight_166 hlocks
          · rw [if_pos c_24] at hF
            refine lv_iconst (v := 2) hx hb dX13_fight_135 (by decide) ?_
            refine lv_goto (tgt := 166) hx hb dX13_fight_136 (by decide) ?_
            exact mr_i hC hH hr hF dX13_fight_166 hlocks
        · rw [if_neg c_22] at hF
          refine lv_iconst (v := 3) hx hb dX13_fight_120 (by decide) ?_
          refine lv_goto (tgt := 166) hx hb dX13_fight_121 (by decide) ?_
          exact mr_i hC hH hr hF dX13_fight_166 hlocks
      rw [if_neg c_21] at hF
      by_cases c_33 : a2 = 4
      · rw [if_pos c_33] at hF
        refine gx_ti (y := 4) c_33 ?_
        refine lv_tableIn (off := 129) (tgt := 167) hx hb dX13_fight_38 (by decide) (by decide) rfl (by decide) ?_
        refine lv_iload hx hb dX13_fight_167 (lv_at hl 0 rfl) ?_
        refine lv_if_eq (tgt := 182) hx hb dX13_fight_169 (by decide) (fun c_34 => ?_) (fun c_34 => ?_)
        · rw [if_pos c_34] at hF
          refine lv_iconst (v := (-1)) hx hb dX13_fight_182 (by decide) ?_
          exact mr_i hC hH hr hF dX13_fight_183 hlocks
        · rw [if_neg c_34] at hF
          refine lv_aload_n hx hb dX13_fight_172 rfl (lv_at hl 2 rfl) ?_
          refine mg_19 hC hH dX13_fight_173 ?_
          refine lv_iload hx hb dX13_fight_176 (lv_at hl 1 rfl) ?_
          obtain ⟨g_35, hF⟩ := og_some hF
          refine ml_19 hC hH g_35 dX13_fight_178 ?_
          refine lv_goto (tgt := 183) hx hb dX13_fight_179 (by decide) ?_
          exact mr_i hC hH hr hF dX13_fight_183 hlocks
      rw [if_neg c_33] at hF
      by_cases c_36 : a2 = 5
      · rw [if_pos c_36] at hF
        refine gx_ti (y := 5) c_36 ?_
        refine lv_tableIn (off := 146) (tgt := 184) hx hb dX13_fight_38 (by decide) (by decide) rfl (by decide) ?_
        refine lv_iload hx hb dX13_fight_184 (lv_at hl 0 rfl) ?_
        refine lv_if_eq (tgt := 199) hx hb dX13_fight_186 (by decide) (fun c_37 => ?_) (fun c_37 => ?_)
        · rw [if_pos c_37] at hF
          refine lv_iconst (v := 0) hx hb dX13_fight_199 (by decide) ?_
          exact mr_i hC hH hr hF dX13_fight_200 hlocks
        · rw [if_neg c_37] at hF
          refine lv_aload_n hx hb dX13_fight_189 rfl (lv_at hl 2 rfl) ?_
          refine mg_20 hC hH dX13_fight_190 ?_
          refine lv_iload hx hb dX13_fight_193 (lv_at hl 1 rfl) ?_
          obtain ⟨g_38, hF⟩ := og_some hF
          refine ml_20 hC hH g_38 dX13_fight_195 ?_
          refine lv_goto (tgt := 200) hx hb dX13_fight_196 (by decide) ?_
          exact mr_i hC hH hr hF dX13_fight_200 hlocks
      rw [if_neg c_36] at hF
      by_cases c_39 : a2 = 6
      · rw [if_pos c_39] at hF
        refine gx_ti (y := 6) c_39 ?_
        refine lv_tableIn (off := 163) (tgt := 201) hx hb dX13_fight_38 (by decide) (by decide) rfl (by decide) ?_
        refine lv_aload_n hx hb dX13_fight_201 rfl (lv_at hl 2 rfl) ?_
        refine lv_iload_n hx hb dX13_fight_202 rfl (lv_at hl 3 rfl) ?_
        refine lv_iload_n hx hb dX13_fight_203 rfl (lv_at hl 4 rfl) ?_
        obtain ⟨r_40, u_41, h_42, hF⟩ := ob_some hF
        refine mcV_i (As := [.int a0, .int a1]) (rest := []) hC hH (m_matOf l G Z Q u_2 u_41 r_40 a0 a1 _ h_42) kwX13_matOf kVX13_matOf ⟨Nat.le_of_ble_eq_true rfl, Nat.le_of_ble_eq_true rfl⟩ rfl hl.1 rfl (Nat.le_of_ble_eq_true rfl) dX13_fight_204 (fun H locs hH => ?_)
        exact mr_i hC hH hr hF dX13_fight_207 hlocks
      rw [if_neg c_39] at hF
      by_cases c_43 : a2 = 7
      · rw [if_pos c_43] at hF
        refine gx_ti (y := 7) c_43 ?_
        refine lv_tableIn (off := 170) (tgt := 208) hx hb dX13_fight_38 (by decide) (by decide) rfl (by decide) ?_
        refine lv_iload hx hb dX13_fight_208 (lv_at hl 0 rfl) ?_
        refine lv_if_eq (tgt := 223) hx hb dX13_fight_210 (by decide) (fun c_44 => ?_) (fun c_44 => ?_)
        · rw [if_pos c_44] at hF
          refine lv_iconst (v := (-1)) hx hb dX13_fight_223 (by decide) ?_
          exact mr_i hC hH hr hF dX13_fight_224 hlocks
        · rw [if_neg c_44] at hF
          refine lv_aload_n hx hb dX13_fight_213 rfl (lv_at hl 2 rfl) ?_
          refine mg_21 hC hH dX13_fight_214 ?_
          refine lv_iload hx hb dX13_fight_217 (lv_at hl 1 rfl) ?_
          obtain ⟨g_45, hF⟩ := og_some hF
          refine ml_21 hC hH g_45 dX13_fight_219 ?_
          refine lv_goto (tgt := 224) hx hb dX13_fight_220 (by decide) ?_
          exact mr_i hC hH hr hF dX13_fight_224 hlocks
      rw [if_neg c_43] at hF
      refine lv_tableOut (tgt := 225) hx hb dX13_fight_38 (by have q0 := gl_ne c_9 (a := 0) (by decide); have q1 := gl_ne c_13 (a := 1) (by decide); have q2 := gl_ne c_17 (a := 2) (by decide); have q3 := gl_ne c_21 (a := 3) (by decide); have q4 := gl_ne c_33 (a := 4) (by decide); have q5 := gl_ne c_36 (a := 5) (by decide); have q6 := gl_ne c_39 (a := 6) (by decide); have q7 := gl_ne c_43 (a := 7) (by decide); omega) (by decide) ?_
      refine lv_iconst (v := (-1)) hx hb dX13_fight_225 (by decide) ?_
      exact mr_i hC hH hr hF dX13_fight_226 hlocks
    · rw [if_pos c_8] at hF
      refine lv_iconst (v := 1) hx hb dX13_fight_30 (by decide) ?_
      refine lv_goto (tgt := 35) hx hb dX13_fight_31 (by decide) ?_
      refine lv_istore (lv' := [(5, .int 1), (4, .int x_5), (0, .ref (Q 72)), (1, .int a0), (2, .int a1), (3, .int a2)]) hx hb dX13_fight_35 hl (by decide) rfl (fun ls hl => ?_)
      refine lv_iload_n hx hb dX13_fight_37 rfl (lv_at hl 5 rfl) ?_
      by_cases c_46 : a2 = 0
      · rw [if_pos c_46] at hF
        refine gx_ti (y := 0) c_46 ?_
        refine lv_tableIn (off := 46) (tgt := 84) hx hb dX13_fight_38 (by decide) (by decide) rfl (by decide) ?_
        refine lv_iconst (v := (-1)) hx hb dX13_fight_84 (by decide) ?_
        refine lv_aload_n hx hb dX13_fight_85 rfl (lv_at hl 2 rfl) ?_
        refine lv_iload_n hx hb dX13_fight_86 rfl (lv_at hl 3 rfl) ?_
        refine lv_iload_n hx hb dX13_fight_87 rfl (lv_at hl 4 rfl) ?_
        refine lv_iconst (v := 0) hx hb dX13_fight_88 (by decide) ?_
        obtain ⟨r_47, u_48, h_49, hF⟩ := ob_some hF
        refine mcV_i (As := [.int a0, .int a1, .int 0]) (rest := [.int (-1)]) hC hH (m_sideOf l G Z Q u_2 u_48 r_47 a0 a1 0 _ h_49) kwX13_sideOf kVX13_sideOf ⟨Nat.le_of_ble_eq_true rfl, Nat.le_of_ble_eq_true rfl⟩ rfl hl.1 rfl (Nat.le_of_ble_eq_true rfl) dX13_fight_89 (fun H locs hH => ?_)
        refine va_mmax hx hb (hC.2.2.1.trans hl.1.symm) hC.2.2.2.1 (hC.2.2.2.2.1 _ wma152) (hC.2.2.2.2.1 _ wma376) (hC.2.2.2.2.1 _ wma378) (hC.2.2.2.2.1 _ wma379) (Nat.le_of_ble_eq_true rfl) (Nat.le_of_ble_eq_true rfl) (Nat.le_of_ble_eq_true rfl) (Nat.le_of_ble_eq_true rfl) dX13_fight_92 ?_
        exact mr_i hC hH hr hF dX13_fight_95 hlocks
      rw [if_neg c_46] at hF
      by_cases c_50 : a2 = 1
      · rw [if_pos c_50] at hF
        refine gx_ti (y := 1) c_50 ?_
        refine lv_tableIn (off := 58) (tgt := 96) hx hb dX13_fight_38 (by decide) (by decide) rfl (by decide) ?_
        refine lv_iconst (v := (-1)) hx hb dX13_fight_96 (by decide) ?_
        refine lv_aload_n hx hb dX13_fight_97 rfl (lv_at hl 2 rfl) ?_
        refine lv_iload_n hx hb dX13_fight_98 rfl (lv_at hl 3 rfl) ?_
        refine lv_iload_n hx hb dX13_fight_99 rfl (lv_at hl 4 rfl) ?_
        refine lv_iconst (v := 1) hx hb dX13_fight_100 (by decide) ?_
        obtain ⟨r_51, u_52, h_53, hF⟩ := ob_some hF
        refine mcV_i (As := [.int a0, .int a1, .int 1]) (rest := [.int (-1)]) hC hH (m_sideOf l G Z Q u_2 u_52 r_51 a0 a1 1 _ h_53) kwX13_sideOf kVX13_sideOf ⟨Nat.le_of_ble_eq_true rfl, Nat.le_of_ble_eq_true rfl⟩ rfl hl.1 rfl (Nat.le_of_ble_eq_true rfl) dX13_fight_101 (fun H locs hH => ?_)
        refine va_mmax hx hb (hC.2.2.1.trans hl.1.symm) hC.2.2.2.1 (hC.2.2.2.2.1 _ wma152) (hC.2.2.2.2.1 _ wma376) (hC.2.2.2.2.1 _ wma378) (hC.2.2.2.2.1 _ wma379) (Nat.le_of_ble_eq_true rfl) (Nat.le_of_ble_eq_true rfl) (Nat.le_of_ble_eq_true rfl) (Nat.le_of_ble_eq_true rfl) dX13_fight_104 ?_
        exact mr_i hC hH hr hF dX13_fight_107 hlocks
      rw [if_neg c_50] at hF
      by_cases c_54 : a2 = 2
      · rw [if_pos c_54] at hF
        refine gx_ti (y := 2) c_54 ?_
        refine lv_tableIn (off := 70) (tgt := 108) hx hb dX13_fight_38 (by decide) (by decide) rfl (by decide) ?_
        refine lv_aload_n hx hb dX13_fight_108 rfl (lv_at hl 2 rfl) ?_
        refine lv_iload_n hx hb dX13_fight_109 rfl (lv_at hl 3 rfl) ?_
        refine lv_iload_n hx hb dX13_fight_110 rfl (lv_at hl 4 rfl) ?_
        obtain ⟨r_55, u_56, h_57, hF⟩ := ob_some hF
        refine mcV_i (As := [.int a0, .int a1]) (rest := []) hC hH (m_winnerOf l G Z Q u_2 u_56 r_55 a0 a1 _ h_57) kwX13_winnerOf kVX13_winnerOf ⟨Nat.le_of_ble_eq_true rfl, Nat.le_of_ble_eq_true rfl⟩ rfl hl.1 rfl (Nat.le_of_ble_eq_true rfl) dX13_fight_111 (fun H locs hH => ?_)
        exact mr_i hC hH hr hF dX13_fight_114 hlocks
      rw [if_neg c_54] at hF
      by_cases c_58 : a2 = 3
      · rw [if_pos c_58] at hF
        refine gx_ti (y := 3) c_58 ?_
        refine lv_tableIn (off := 77) (tgt := 115) hx hb dX13_fight_38 (by decide) (by decide) rfl (by decide) ?_
        refine lv_iload hx hb dX13_fight_115 (lv_at hl 0 rfl) ?_
        refine lv_if_eq (tgt := 124) hx hb dX13_fight_117 (by decide) (fun c_59 => ?_) (fun c_59 => ?_)
        · rw [if_pos c_59] at hF
          refine lv_aload_n hx hb dX13_fight_124 rfl (lv_at hl 2 rfl) ?_
          refine mg_15 hC hH dX13_fight_125 ?_
          refine lv_iload hx hb dX13_fight_128 (lv_at hl 1 rfl) ?_
          obtain ⟨g_60, hF⟩ := og_some hF
          refine ml_15 hC hH g_60 dX13_fight_130 ?_
          refine lv_iconst (v := 1) hx hb dX13_fight_131 (by decide) ?_
          refine lv_icmp_ne (tgt := 139) hx hb dX13_fight_132 (by decide) (fun c_61 => ?_) (fun c_61 => ?_)
          · rw [if_neg c_61] at hF
            refine lv_aload_n hx hb dX13_fight_139 rfl (lv_at hl 2 rfl) ?_
            refine lv_iload_n hx hb dX13_fight_140 rfl (lv_at hl 3 rfl) ?_
            refine lv_iload_n hx hb dX13_fight_141 rfl (lv_at hl 4 rfl) ?_
            obtain ⟨r_62, u_63, h_64, hF⟩ := ob_some hF
            refine mcV_i (As := [.int a0, .int a1]) (rest := []) hC hH (m_isWalk l G Z Q u_2 u_63 r_62 a0 a1 _ h_64) kwX13_isWalk kVX13_isWalk ⟨Nat.le_of_ble_eq_true rfl, Nat.le_of_ble_eq_true rfl⟩ rfl hl.1 rfl (Nat.le_of_ble_eq_true rfl) dX13_fight_142 (fun H locs hH => ?_)
            refine lv_if_eq (tgt := 152) hx hb dX13_fight_145 (by decide) (fun c_65 => ?_) (fun c_65 => ?_)
            · rw [if_pos c_65] at hF
              refine lv_aload_n hx hb dX13_fight_152 rfl (lv_at hl 2 rfl) ?_
              refine lv_iload_n hx hb dX13_fight_153 rfl (lv_at hl 3 rfl) ?_
              refine lv_iload_n hx hb dX13_fight_154 rfl (lv_at hl 4 rfl) ?_
              obtain ⟨r_66, u_67, h_68, hF⟩ := ob_some hF
              refine mcV_i (As := [.int a0, .int a1]) (rest := []) hC hH (m_isReady l G Z Q u_63 u_67 r_66 a0 a1 _ h_68) kwX13_isReady kVX13_isReady ⟨Nat.le_of_ble_eq_true rfl, Nat.le_of_ble_eq_true rfl⟩ rfl hl.1 rfl (Nat.le_of_ble_eq_true rfl) dX13_fight_155 (fun H locs hH => ?_)
              refine lv_if_eq (tgt := 165) hx hb dX13_fight_158 (by decide) (fun c_69 => ?_) (fun c_69 => ?_)
              · rw [if_pos c_69] at hF
                refine lv_iconst (v := 0) hx hb dX13_fight_165 (by decide) ?_
                exact mr_i hC hH hr hF dX13_fight_166 hlocks
              · rw [if_neg c_69] at hF
                refine lv_iconst (v := 1) hx hb dX13_fight_161 (by decide) ?_
                refine lv_goto (tgt := 166) hx hb dX13_fight_162 (by decide) ?_
                exact mr_i hC hH hr hF dX13_fight_166 hlocks
            · rw [if_neg c_65] at hF
              refine lv_iconst (v := 4) hx hb dX13_fight_148 (by decide) ?_
              refine lv_goto (tgt := 166) hx hb dX13_fight_149 (by decide) ?_
              exact mr_i hC hH hr hF dX13_fight_166 hlocks
          · rw [if_pos c_61] at hF
            refine lv_iconst (v := 2) hx hb dX13_fight_135 (by decide) ?_
            refine lv_goto (tgt := 166) hx hb dX13_fight_136 (by decide) ?_
            exact mr_i hC hH hr hF dX13_fight_166 hlocks
        · rw [if_neg c_59] at hF
          refine lv_iconst (v := 3) hx hb dX13_fight_120 (by decide) ?_
          refine lv_goto (tgt := 166) hx hb dX13_fight_121 (by decide) ?_
          exact mr_i hC hH hr hF dX13_fight_166 hlocks
      rw [if_neg c_58] at hF
      by_cases c_70 : a2 = 4
      · rw [if_pos c_70] at hF
        refine gx_ti (y := 4) c_70 ?_
        refine lv_tableIn (off := 129) (tgt := 167) hx hb dX13_fight_38 (by decide) (by decide) rfl (by decide) ?_
        refine lv_iload hx hb dX13_fight_167 (lv_at hl 0 rfl) ?_
        refine lv_if_eq (tgt := 182) hx hb dX13_fight_169 (by decide) (fun c_71 => ?_) (fun c_71 => ?_)
        · rw [if_pos c_71] at hF
          refine lv_iconst (v := (-1)) hx hb dX13_fight_182 (by decide) ?_
          exact mr_i hC hH hr hF dX13_fight_183 hlocks
        · rw [if_neg c_71] at hF
          refine lv_aload_n hx hb dX13_fight_172 rfl (lv_at hl 2 rfl) ?_
          refine mg_19 hC hH dX13_fight_173 ?_
          refine lv_iload hx hb dX13_fight_176 (lv_at hl 1 rfl) ?_
          obtain ⟨g_72, hF⟩ := og_some hF
          refine ml_19 hC hH g_72 dX13_fight_178 ?_
          refine lv_goto (tgt := 183) hx hb dX13_fight_179 (by decide) ?_
          exact mr_i hC hH hr hF dX13_fight_183 hlocks
      rw [if_neg c_70] at hF
      by_cases c_73 : a2 = 5
      · rw [if_pos c_73] at hF
        refine gx_ti (y := 5) c_73 ?_
        refine lv_tableIn (off := 146) (tgt := 184) hx hb dX13_fight_38 (by decide) (by decide) rfl (by decide) ?_
        refine lv_iload hx hb dX13_fight_184 (lv_at hl 0 rfl) ?_
        refine lv_if_eq (tgt := 199) hx hb dX13_fight_186 (by decide) (fun c_74 => ?_) (fun c_74 => ?_)
        · rw [if_pos c_74] at hF
          refine lv_iconst (v := 0) hx hb dX13_fight_199 (by decide) ?_
          exact mr_i hC hH hr hF dX13_fight_200 hlocks
        · rw [if_neg c_74] at hF
          refine lv_aload_n hx hb dX13_fight_189 rfl (lv_at hl 2 rfl) ?_
          refine mg_20 hC hH dX13_fight_190 ?_
          refine lv_iload hx hb dX13_fight_193 (lv_at hl 1 rfl) ?_
          obtain ⟨g_75, hF⟩ := og_some hF
          refine ml_20 hC hH g_75 dX13_fight_195 ?_
          refine lv_goto (tgt := 200) hx hb dX13_fight_196 (by decide) ?_
          exact mr_i hC hH hr hF dX13_fight_200 hlocks
      rw [if_neg c_73] at hF
      by_cases c_76 : a2 = 6
      · rw [if_pos c_76] at hF
        refine gx_ti (y := 6) c_76 ?_
        refine lv_tableIn (off := 163) (tgt := 201) hx hb dX13_fight_38 (by decide) (by decide) rfl (by decide) ?_
        refine lv_aload_n hx hb dX13_fight_201 rfl (lv_at hl 2 rfl) ?_
        refine lv_iload_n hx hb dX13_fight_202 rfl (lv_at hl 3 rfl) ?_
        refine lv_iload_n hx hb dX13_fight_203 rfl (lv_at hl 4 rfl) ?_
        obtain ⟨r_77, u_78, h_79, hF⟩ := ob_some hF
        refine mcV_i (As := [.int a0, .int a1]) (rest := []) hC hH (m_matOf l G Z Q u_2 u_78 r_77 a0 a1 _ h_79) kwX13_matOf kVX13_matOf ⟨Nat.le_of_ble_eq_true rfl, Nat.le_of_ble_eq_true rfl⟩ rfl hl.1 rfl (Nat.le_of_ble_eq_true rfl) dX13_fight_204 (fun H locs hH => ?_)
        exact mr_i hC hH hr hF dX13_fight_207 hlocks
      rw [if_neg c_76] at hF
      by_cases c_80 : a2 = 7
      · rw [if_pos c_80] at hF
        refine gx_ti (y := 7) c_80 ?_
        refine lv_tableIn (off := 170) (tgt := 208) hx hb dX13_fight_38 (by decide) (by decide) rfl (by decide) ?_
        refine lv_iload hx hb dX13_fight_208 (lv_at hl 0 rfl) ?_
        refine lv_if_eq (tgt := 223) hx hb dX13_fight_210 (by decide) (fun c_81 => ?_) (fun c_81 => ?_)
        · rw [if_pos c_81] at hF
          refine lv_iconst (v := (-1)) hx hb dX13_fight_223 (by decide) ?_
          exact mr_i hC hH hr hF dX13_fight_224 hlocks
        · rw [if_neg c_81] at hF
          refine lv_aload_n hx hb dX13_fight_213 rfl (lv_at hl 2 rfl) ?_
          refine mg_21 hC hH dX13_fight_214 ?_
          refine lv_iload hx hb dX13_fight_217 (lv_at hl 1 rfl) ?_
          obtain ⟨g_82, hF⟩ := og_some hF
          refine ml_21 hC hH g_82 dX13_fight_219 ?_
          refine lv_goto (tgt := 224) hx hb dX13_fight_220 (by decide) ?_
          exact mr_i hC hH hr hF dX13_fight_224 hlocks
      rw [if_neg c_80] at hF
      refine lv_tableOut (tgt := 225) hx hb dX13_fight_38 (by have q0 := gl_ne c_46 (a := 0) (by decide); have q1 := gl_ne c_50 (a := 1) (by decide); have q2 := gl_ne c_54 (a := 2) (by decide); have q3 := gl_ne c_58 (a := 3) (by decide); have q4 := gl_ne c_70 (a := 4) (by decide); have q5 := gl_ne c_73 (a := 5) (by decide); have q6 := gl_ne c_76 (a := 6) (by decide); have q7 := gl_ne c_80 (a := 7) (by decide); omega) (by decide) ?_
      refine lv_iconst (v := (-1)) hx hb dX13_fight_225 (by decide) ?_
      exact mr_i hC hH hr hF dX13_fight_226 hlocks
  · rw [if_pos c_4] at hF
    refine lv_iconst (v := (-1)) hx hb dX13_fight_9 (by decide) ?_
    exact mr_i hC hH hr hF dX13_fight_10 hlocks
def f_mat (a0 : Int32) (a1 : Int32) (u : MS) : Option (Int32 × MS) := ob (f_isMat a0 u) (fun r_1 u_2 => (if r_1 = 0 then some (-1, u_2) else og (gi a0 4) ((if (ra u_2 22 a0) = (-1) then some (-1, u_2) else ob (f_in a1.toInt64 10 ((9 : Int64) + ((u_2.1 29).toInt64 : Int64)) u_2) (fun r_7 u_8 => (if r_7 = 0 then ob (f_in a1.toInt64 20 ((19 : Int64) + ((u_8.1 29).toInt64 : Int64)) u_8) (fun r_11 u_12 => (if r_11 = 0 then (if a1 = 0 then og (gi a0 4) (some ((ra u_12 22 a0) / 40, u_12)) else if a1 = 1 then og (gi a0 4) (some ((ra u_12 22 a0) - (ra u_12 22 a0) / 40 * 40, u_12)) else if a1 = 2 then og (gi a0 4) (some (ra u_12 23 a0, u_12)) else if a1 = 3 then og (gi a0 4) ((if (ra u_12 25 a0) = 0 then some (0, u_12) else some (1, u_12))) else if a1 = 4 then og (gi a0 4) ((if (ra u_12 26 a0) = 0 then some (0, u_12) else some (1, u_12))) else some (-1, u_12)) else og (gi ((((16 * a0) + 8) + a1) - 20) 64) (some (ra u_12 24 ((((16 * a0) + 8) + a1) - 20), u_12)))) else og (gi (((16 * a0) + a1) - 10) 64) (some (ra u_8 24 (((16 * a0) + a1) - 10), u_8))))))))
set_option maxHeartbeats 4000000 in
set_option maxRecDepth 100000 in
theorem m_mat (l : Launch) (G : gG) (Z : gM) (Q : Nat → Nat) (u u1 : MS) (r : Int32) (a0 : Int32) (a1 : Int32) (sz : Nat) (hF : f_mat a0 a1 u = some (r, u1)) : Met l yX13_mat (Cond.code yX13_mat cX13_mat 3 (some .int) :: wM) { frames := 2, cells := 0, slots := 0, locals := 45 } (va_Pc [.ref (Q 72), .int a0, .int a1] (mPM G Z Q u sz)) (mQi G Q u1 r sz) 0 0 (mA Q sz) := by
  refine Met.ofW (cc := cX13_mat) (maxL := 3) (ret := (some .int)) (by decide) rfl ?_
  intro p e s m args below meth c s₁ B hml hv
  obtain ⟨rfl, rfl, hP, hB, hD, hE⟩ := hv
  have hr := B.returns
  have hlocks := B.notSynchronized
  have hts := atoms_spec (ws := Cond.code yX13_mat cX13_mat 3 (some .int) :: wM) B.pre
  have hC : mX p c cX13_mat 3 s m _ G Z Q := ⟨B.exec, B.bytes, hml, findClass_of_methodNamed B.named, fun w h => hts w (List.mem_cons_of_mem _ h), hB, hE⟩
  have hx := hC.1
  have hb := hC.2.1
  have hH : mH G Q u s s.heap [] := ⟨hP, hD, va_S.rf⟩
  have hl := lv_entry ([.ref (Q 72), .int a0, .int a1]) (n := 3) (Nat.le_of_ble_eq_true rfl)
  rw [lg_entry_eq]
  generalize (lg_sl ([.ref (Q 72), .int a0, .int a1]) ++ List.replicate (3 - (lg_sl ([.ref (Q 72), .int a0, .int a1])).length) Slot.unset).toArray = ls at hl ⊢
  have hl : lv_has ls 3 [(0, .ref (Q 72)), (1, .int a0), (2, .int a1)] := hl
  unfold f_mat at hF
  refine lv_iload_n hx hb dX13_mat_0 rfl (lv_at hl 1 rfl) ?_
  obtain ⟨r_1, u_2, h_3, hF⟩ := ob_some hF
  refine mcS_i (As := [.int a0]) (rest := []) hC hH (m_isMat l G Z Q u u_2 r_1 a0 _ h_3) kwX13_isMat kVX13_isMat ⟨Nat.le_of_ble_eq_true rfl, Nat.le_of_ble_eq_true rfl⟩ rfl hl.1 rfl (Nat.le_of_ble_eq_true rfl) dX13_mat_1 (fun H locs hH => ?_)
  refine lv_if_eq (tgt := 17) hx hb dX13_mat_4 (by decide) (fun c_4 => ?_) (fun c_4 => ?_)
  · rw [if_pos c_4] at hF
    refine lv_iconst (v := (-1)) hx hb dX13_mat_17 (by decide) ?_
    exact mr_i hC hH hr hF dX13_mat_18 hlocks
  · rw [if_neg c_4] at hF
    refine lv_aload_n hx hb dX13_mat_7 rfl (lv_at hl 0 rfl) ?_
    refine mg_22 hC hH dX13_mat_8 ?_
    refine lv_iload_n hx hb dX13_mat_11 rfl (lv_at hl 1 rfl) ?_
    obtain ⟨g_5, hF⟩ := og_some hF
    refine ml_22 hC hH g_5 dX13_mat_12 ?_
    refine lv_iconst (v := (-1)) hx hb dX13_mat_13 (by decide) ?_
    refine lv_icmp_ne (tgt := 19) hx hb dX13_mat_14 (by decide) (fun c_6 => ?_) (fun c_6 => ?_)
    · rw [if_neg c_6] at hF
      refine lv_iload_n hx hb dX13_mat_19 rfl (lv_at hl 2 rfl) ?_
      refine lv_i2l (v := a1.toInt64) hx hb dX13_mat_20 rfl ?_
      refine lv_ldc2 (v := 10) hx hb hC.2.2.2.1 (hC.2.2.2.2.1 _ wma159) dX13_mat_21 ?_
      refine lv_ldc2 (v := 9) hx hb hC.2.2.2.1 (hC.2.2.2.2.1 _ wma160) dX13_mat_24 ?_
      refine lv_aload_n hx hb dX13_mat_27 rfl (lv_at hl 0 rfl) ?_
      refine mg_29 hC hH dX13_mat_28 ?_
      refine lv_i2l (v := (u_2.1 29).toInt64) hx hb dX13_mat_31 rfl ?_
      refine lv_ladd hx hb dX13_mat_32 ?_
      obtain ⟨r_7, u_8, h_9, hF⟩ := ob_some hF
      refine mcS_i (As := [.long a1.toInt64, .long 10, .long ((9 : Int64) + ((u_2.1 29).toInt64 : Int64))]) (rest := []) hC hH (m_in l G Z Q u_2 u_8 r_7 a1.toInt64 10 ((9 : Int64) + ((u_2.1 29).toInt64 : Int64)) _ h_9) kwX13_in kVX13_in ⟨Nat.le_of_ble_eq_true rfl, Nat.le_of_ble_eq_true rfl⟩ rfl hl.1 rfl (Nat.le_of_ble_eq_true rfl) dX13_mat_33 (fun H locs hH => ?_)
      refine lv_if_eq (tgt := 54) hx hb dX13_mat_36 (by decide) (fun c_10 => ?_) (fun c_10 => ?_)
      · rw [if_pos c_10] at hF
        refine lv_iload_n hx hb dX13_mat_54 rfl (lv_at hl 2 rfl) ?_
        refine lv_i2l (v := a1.toInt64) hx hb dX13_mat_55 rfl ?_
        refine lv_ldc2 (v := 20) hx hb hC.2.2.2.1 (hC.2.2.2.2.1 _ wma161) dX13_mat_56 ?_
        refine lv_ldc2 (v := 19) hx hb hC.2.2.2.1 (hC.2.2.2.2.1 _ wma162) dX13_mat_59 ?_
        refine lv_aload_n hx hb dX13_mat_62 rfl (lv_at hl 0 rfl) ?_
        refine mg_29 hC hH dX13_mat_63 ?_
        refine lv_i2l (v := (u_8.1 29).toInt64) hx hb dX13_mat_66 rfl ?_
        refine lv_ladd hx hb dX13_mat_67 ?_
        obtain ⟨r_11, u_12, h_13, hF⟩ := ob_some hF
        refine mcS_i (As := [.long a1.toInt64, .long 20, .long ((19 : Int64) + ((u_8.1 29).toInt64 : Int64))]) (rest := []) hC hH (m_in l G Z Q u_8 u_12 r_11 a1.toInt64 20 ((19 : Int64) + ((u_8.1 29).toInt64 : Int64)) _ h_13) kwX13_in kVX13_in ⟨Nat.le_of_ble_eq_true rfl, Nat.le_of_ble_eq_true rfl⟩ rfl hl.1 rfl (Nat.le_of_ble_eq_true rfl) dX13_mat_68 (fun H locs hH => ?_)
        refine lv_if_eq (tgt := 92) hx hb dX13_mat_71 (by decide) (fun c_14 => ?_) (fun c_14 => ?_)
        · rw [if_pos c_14] at hF
          refine lv_iload_n hx hb dX13_mat_92 rfl (lv_at hl 2 rfl) ?_
          by_cases c_15 : a1 = 0
          · rw [if_pos c_15] at hF
            refine gx_ti (y := 0) c_15 ?_
            refine lv_tableIn (off := 35) (tgt := 128) hx hb dX13_mat_93 (by decide) (by decide) rfl (by decide) ?_
            refine lv_aload_n hx hb dX13_mat_128 rfl (lv_at hl 0 rfl) ?_
            refine mg_22 hC hH dX13_mat_129 ?_
            refine lv_iload_n hx hb dX13_mat_132 rfl (lv_at hl 1 rfl) ?_
            obtain ⟨g_16, hF⟩ := og_some hF
            refine ml_22 hC hH g_16 dX13_mat_133 ?_
            refine lv_bipush (v := 40) hx hb dX13_mat_134 (by decide) ?_
            refine lv_idiv hx hb dX13_mat_136 (by decide) ?_
            exact mr_i hC hH hr hF dX13_mat_137 hlocks
          rw [if_neg c_15] at hF
          by_cases c_17 : a1 = 1
          · rw [if_pos c_17] at hF
            refine gx_ti (y := 1) c_17 ?_
            refine lv_tableIn (off := 45) (tgt := 138) hx hb dX13_mat_93 (by decide) (by decide) rfl (by decide) ?_
            refine lv_aload_n hx hb dX13_mat_138 rfl (lv_at hl 0 rfl) ?_
            refine mg_22 hC hH dX13_mat_139 ?_
            refine lv_iload_n hx hb dX13_mat_142 rfl (lv_at hl 1 rfl) ?_
            obtain ⟨g_18, hF⟩ := og_some hF
            refine ml_22 hC hH g_18 dX13_mat_143 ?_
            refine lv_bipush (v := 40) hx hb dX13_mat_144 (by decide) ?_
            refine lv_irem hx hb dX13_mat_146 (by decide) ?_
            exact mr_i hC hH hr hF dX13_mat_147 hlocks
          rw [if_neg c_17] at hF
          by_cases c_19 : a1 = 2
          · rw [if_pos c_19] at hF
            refine gx_ti (y := 2) c_19 ?_
            refine lv_tableIn (off := 55) (tgt := 148) hx hb dX13_mat_93 (by decide) (by decide) rfl (by decide) ?_
            refine lv_aload_n hx hb dX13_mat_148 rfl (lv_at hl 0 rfl) ?_
            refine mg_23 hC hH dX13_mat_149 ?_
            refine lv_iload_n hx hb dX13_mat_152 rfl (lv_at hl 1 rfl) ?_
            obtain ⟨g_20, hF⟩ := og_some hF
            refine ml_23 hC hH g_20 dX13_mat_153 ?_
            exact mr_i hC hH hr hF dX13_mat_154 hlocks
          rw [if_neg c_19] at hF
          by_cases c_21 : a1 = 3
          · rw [if_pos c_21] at hF
            refine gx_ti (y := 3) c_21 ?_
            refine lv_tableIn (off := 62) (tgt := 155) hx hb dX13_mat_93 (by decide) (by decide) rfl (by decide) ?_
            refine lv_aload_n hx hb dX13_mat_155 rfl (lv_at hl 0 rfl) ?_
            refine mg_25 hC hH dX13_mat_156 ?_
            refine lv_iload_n hx hb dX13_mat_159 rfl (lv_at hl 1 rfl) ?_
            obtain ⟨g_22, hF⟩ := og_some hF
            refine ml_25 hC hH g_22 dX13_mat_160 ?_
            refine lv_if_eq (tgt := 168) hx hb dX13_mat_161 (by decide) (fun c_23 => ?_) (fun c_23 => ?_)
            · rw [if_pos c_23] at hF
              refine lv_iconst (v := 0) hx hb dX13_mat_168 (by decide) ?_
              exact mr_i hC hH hr hF dX13_mat_169 hlocks
            · rw [if_neg c_23] at hF
              refine lv_iconst (v := 1) hx hb dX13_mat_164 (by decide) ?_
              refine lv_goto (tgt := 169) hx hb dX13_mat_165 (by decide) ?_
              exact mr_i hC hH hr hF dX13_mat_169 hlocks
          rw [if_neg c_21] at hF
          by_cases c_24 : a1 = 4
          · rw [if_pos c_24] at hF
            refine gx_ti (y := 4) c_24 ?_
            refine lv_tableIn (off := 77) (tgt := 170) hx hb dX13_mat_93 (by decide) (by decide) rfl (by decide) ?_
            refine lv_aload_n hx hb dX13_mat_170 rfl (lv_at hl 0 rfl) ?_
            refine mg_26 hC hH dX13_mat_171 ?_
            refine lv_iload_n hx hb dX13_mat_174 rfl (lv_at hl 1 rfl) ?_
            obtain ⟨g_25, hF⟩ := og_some hF
            refine ml_26 hC hH g_25 dX13_mat_175 ?_
            refine lv_if_eq (tgt := 183) hx hb dX13_mat_176 (by decide) (fun c_26 => ?_) (fun c_26 => ?_)
            · rw [if_pos c_26] at hF
              refine lv_iconst (v := 0) hx hb dX13_mat_183 (by decide) ?_
              exact mr_i hC hH hr hF dX13_mat_184 hlocks
            · rw [if_neg c_26] at hF
              refine lv_iconst (v := 1) hx hb dX13_mat_179 (by decide) ?_
              refine lv_goto (tgt := 184) hx hb dX13_mat_180 (by decide) ?_
              exact mr_i hC hH hr hF dX13_mat_184 hlocks
          rw [if_neg c_24] at hF
          refine lv_tableOut (tgt := 185) hx hb dX13_mat_93 (by have q0 := gl_ne c_15 (a := 0) (by decide); have q1 := gl_ne c_17 (a := 1) (by decide); have q2 := gl_ne c_19 (a := 2) (by decide); have q3 := gl_ne c_21 (a := 3) (by decide); have q4 := gl_ne c_24 (a := 4) (by decide); omega) (by decide) ?_
          refine lv_iconst (v := (-1)) hx hb dX13_mat_185 (by decide) ?_
          exact mr_i hC hH hr hF dX13_mat_186 hlocks
        · rw [if_neg c_14] at hF
          refine lv_aload_n hx hb dX13_mat_74 rfl (lv_at hl 0 rfl) ?_
          refine mg_24 hC hH dX13_mat_75 ?_
          refine lv_bipush (v := 16) hx hb dX13_mat_78 (by decide) ?_
          refine lv_iload_n hx hb dX13_mat_80 rfl (lv_at hl 1 rfl) ?_
          refine lv_imul hx hb dX13_mat_81 ?_
          refine lv_bipush (v := 8) hx hb dX13_mat_82 (by decide) ?_
          refine lv_iadd hx hb dX13_mat_84 ?_
          refine lv_iload_n hx hb dX13_mat_85 rfl (lv_at hl 2 rfl) ?_
          refine lv_iadd hx hb dX13_mat_86 ?_
          refine lv_bipush (v := 20) hx hb dX13_mat_87 (by decide) ?_
          refine lv_isub hx hb dX13_mat_89 ?_
          obtain ⟨g_27, hF⟩ := og_some hF
          refine ml_24 hC hH g_27 dX13_mat_90 ?_
          exact mr_i hC hH hr hF dX13_mat_91 hlocks
      · rw [if_neg c_10] at hF
        refine lv_aload_n hx hb dX13_mat_39 rfl (lv_at hl 0 rfl) ?_
        refine mg_24 hC hH dX13_mat_40 ?_
        refine lv_bipush (v := 16) hx hb dX13_mat_43 (by decide) ?_
        refine lv_iload_n hx hb dX13_mat_45 rfl (lv_at hl 1 rfl) ?_
        refine lv_imul hx hb dX13_mat_46 ?_
        refine lv_iload_n hx hb dX13_mat_47 rfl (lv_at hl 2 rfl) ?_
        refine lv_iadd hx hb dX13_mat_48 ?_
        refine lv_bipush (v := 10) hx hb dX13_mat_49 (by decide) ?_
        refine lv_isub hx hb dX13_mat_51 ?_
        obtain ⟨g_28, hF⟩ := og_some hF
        refine ml_24 hC hH g_28 dX13_mat_52 ?_
        exact mr_i hC hH hr hF dX13_mat_53 hlocks
    · rw [if_pos c_6] at hF
      refine lv_iconst (v := (-1)) hx hb dX13_mat_17 (by decide) ?_
      exact mr_i hC hH hr hF dX13_mat_18 hlocks
def lp_won_5 : Nat → Int32 → Int32 → Int32 → Int32 → MS → (Int32 → Int32 → Int32 → Int32 → MS → Option (Int32 × MS)) → Option (Int32 × MS)
  | 0, _, _, _, _, _, _ => none
  | n5 + 1, v1, v2, v3, v4, u, K5_45 => ob (f_fights v1 u) (fun r_1 u_2 => (if r_1 ≤ v4 then K5_45 v1 v2 v3 v4 u_2 else og (gi ((40 * v1) + v4) 160) ((if (ra u_2 18 ((40 * v1) + v4)) = v2 then li (v3 + 1) (fun x_11 => li (v4 + 1) (fun x_13 => lp_won_5 n5 v1 v2 x_11 x_13 u_2 K5_45)) else li (v3 + 0) (fun x_7 => li (v4 + 1) (fun x_9 => lp_won_5 n5 v1 v2 x_7 x_9 u_2 K5_45))))))
def f_won (a0 : Int32) (a1 : Int32) (u : MS) : Option (Int32 × MS) := lp_won_5 fuel a0 a1 0 0 u (fun v1 v2 v3 v4 u => some (v3, u))
set_option maxHeartbeats 4000000 in
set_option maxRecDepth 100000 in
theorem m_won (l : Launch) (G : gG) (Z : gM) (Q : Nat → Nat) (u u1 : MS) (r : Int32) (a0 : Int32) (a1 : Int32) (sz : Nat) (hF : f_won a0 a1 u = some (r, u1)) : Met l yX13_won (Cond.code yX13_won cX13_won 5 (some .int) :: wM) { frames := 3, cells := 0, slots := 0, locals := 65 } (va_Pc [.ref (Q 72), .int a0, .int a1] (mPM G Z Q u sz)) (mQi G Q u1 r sz) 0 0 (mA Q sz) := by
  refine Met.ofW (cc := cX13_won) (maxL := 5) (ret := (some .int)) (by decide) rfl ?_
  intro p e s m args below meth c s₁ B hml hv
  obtain ⟨rfl, rfl, hP, hB, hD, hE⟩ := hv
  have hr := B.returns
  have hlocks := B.notSynchronized
  have hts := atoms_spec (ws := Cond.code yX13_won cX13_won 5 (some .int) :: wM) B.pre
  have hC : mX p c cX13_won 5 s m _ G Z Q := ⟨B.exec, B.bytes, hml, findClass_of_methodNamed B.named, fun w h => hts w (List.mem_cons_of_mem _ h), hB, hE⟩
  have hx := hC.1
  have hb := hC.2.1
  have hH : mH G Q u s s.heap [] := ⟨hP, hD, va_S.rf⟩
  have hl := lv_entry ([.ref (Q 72), .int a0, .int a1]) (n := 5) (Nat.le_of_ble_eq_true rfl)
  rw [lg_entry_eq]
  generalize (lg_sl ([.ref (Q 72), .int a0, .int a1]) ++ List.replicate (5 - (lg_sl ([.ref (Q 72), .int a0, .int a1])).length) Slot.unset).toArray = ls at hl ⊢
  have hl : lv_has ls 5 [(0, .ref (Q 72)), (1, .int a0), (2, .int a1)] := hl
  unfold f_won at hF
  refine lv_iconst (v := 0) hx hb dX13_won_0 (by decide) ?_
  refine lv_istore_n (lv' := [(3, .int 0), (0, .ref (Q 72)), (1, .int a0), (2, .int a1)]) hx hb dX13_won_1 rfl hl (by decide) rfl (fun ls hl => ?_)
  refine lv_iconst (v := 0) hx hb dX13_won_2 (by decide) ?_
  refine lv_istore (lv' := [(4, .int 0), (3, .int 0), (0, .ref (Q 72)), (1, .int a0), (2, .int a1)]) hx hb dX13_won_3 hl (by decide) rfl (fun ls hl => ?_)
  have hL5 : ∀ (K5_45 : Int32 → Int32 → Int32 → Int32 → MS → Option (Int32 × MS)), (∀ (v1 v2 v3 v4 : Int32) (u : MS) (H : Heap) (locs : List Loc) (ls : Array Slot), lv_has ls 5 [(0, .ref (Q 72)), (1, .int v1), (2, .int v2), (3, .int v3), (4, .int v4)] → mH G Q u s H locs → K5_45 v1 v2 v3 v4 u = some ((r, u1)) → W p l e (headSpec (Cond.code yX13_won cX13_won 5 (some .int) :: wM) { frames := 3, cells := 0, slots := 0, locals := 65 }).room s m [.ref (Q 72), .int a0, .int a1].toArray below meth c H locs 0 0 (MQ below (mQi G Q u1 r s.heap.size) [.ref (Q 72), .int a0, .int a1].toArray s 0 0 (mA Q s.heap.size)) (F0 m 45 ls [])) → ∀ (n5 : Nat) (v1 v2 v3 v4 : Int32) (u : MS) (H : Heap) (locs : List Loc) (ls : Array Slot), lv_has ls 5 [(0, .ref (Q 72)), (1, .int v1), (2, .int v2), (3, .int v3), (4, .int v4)] → mH G Q u s H locs → lp_won_5 n5 v1 v2 v3 v4 u K5_45 = some ((r, u1)) → W p l e (headSpec (Cond.code yX13_won cX13_won 5 (some .int) :: wM) { frames := 3, cells := 0, slots := 0, locals := 65 }).room s m [.ref (Q 72), .int a0, .int a1].toArray below meth c H locs 0 0 (MQ below (mQi G Q u1 r s.heap.size) [.ref (Q 72), .int a0, .int a1].toArray s 0 0 (mA Q s.heap.size)) (F0 m 5 ls []) := by
    intro K5_45 hK5_45 n5
    induction n5 with
    | zero => intro v1 v2 v3 v4 u H locs ls hl hH hF; cases hF
    | succ n5 ih5 =>
      intro v1 v2 v3 v4 u H locs ls hl hH hF
      unfold lp_won_5 at hF
      refine lv_iload hx hb dX13_won_5 (lv_at hl 4 rfl) ?_
      refine lv_aload_n hx hb dX13_won_7 rfl (lv_at hl 0 rfl) ?_
      refine lv_iload_n hx hb dX13_won_8 rfl (lv_at hl 1 rfl) ?_
      obtain ⟨r_1, u_2, h_3, hF⟩ := ob_some hF
      refine mcV_i (As := [.int v1]) (rest := [.int v4]) hC hH (m_fights l G Z Q u u_2 r_1 v1 _ h_3) kwX13_fights kVX13_fights ⟨Nat.le_of_ble_eq_true rfl, Nat.le_of_ble_eq_true rfl⟩ rfl hl.1 rfl (Nat.le_of_ble_eq_true rfl) dX13_won_9 (fun H locs hH => ?_)
      refine lv_icmp_ge (tgt := 45) hx hb dX13_won_12 (by decide) (fun c_4 => ?_) (fun c_4 => ?_)
      · rw [if_pos c_4] at hF
        exact hK5_45 v1 v2 v3 v4 u_2 _ _ _ (lv_sub hl [0, 1, 2, 3, 4] rfl) hH hF
      · rw [if_neg c_4] at hF
        refine lv_iload_n hx hb dX13_won_15 rfl (lv_at hl 3 rfl) ?_
        refine lv_aload_n hx hb dX13_won_16 rfl (lv_at hl 0 rfl) ?_
        refine mg_18 hC hH dX13_won_17 ?_
        refine lv_bipush (v := 40) hx hb dX13_won_20 (by decide) ?_
        refine lv_iload_n hx hb dX13_won_22 rfl (lv_at hl 1 rfl) ?_
        refine lv_imul hx hb dX13_won_23 ?_
        refine lv_iload hx hb dX13_won_24 (lv_at hl 4 rfl) ?_
        refine lv_iadd hx hb dX13_won_26 ?_
        obtain ⟨g_5, hF⟩ := og_some hF
        refine ml_18 hC hH g_5 dX13_won_27 ?_
        refine lv_iload_n hx hb dX13_won_28 rfl (lv_at hl 2 rfl) ?_
        refine lv_icmp_ne (tgt := 36) hx hb dX13_won_29 (by decide) (fun c_6 => ?_) (fun c_6 => ?_)
        · rw [if_neg c_6] at hF
          refine lv_iconst (v := 0) hx hb dX13_won_36 (by decide) ?_
          refine lv_iadd hx hb dX13_won_37 ?_
          obtain ⟨x_7, e_8, hF⟩ := li_some hF
          refine gx_ti e_8 ?_
          refine lv_istore_n (lv' := [(3, .int x_7), (0, .ref (Q 72)), (1, .int v1), (2, .int v2), (4, .int v4)]) hx hb dX13_won_38 rfl hl (by decide) rfl (fun ls hl => ?_)
          obtain ⟨x_9, e_10, hF⟩ := li_some hF
          refine lv_iinc (v := x_9) (lv' := [(4, .int x_9), (3, .int x_7), (0, .ref (Q 72)), (1, .int v1), (2, .int v2)]) hx hb dX13_won_39 hl (k := 4) rfl e_10 (by decide) rfl (fun ls hl => ?_)
          refine lv_goto (tgt := 5) hx hb dX13_won_42 (by decide) ?_
          exact ih5 v1 v2 x_7 x_9 u_2 _ _ _ (lv_sub hl [2, 3, 4, 1, 0] rfl) hH hF
        · rw [if_pos c_6] at hF
          refine lv_iconst (v := 1) hx hb dX13_won_32 (by decide) ?_
          refine lv_goto (tgt := 37) hx hb dX13_won_33 (by decide) ?_
          refine lv_iadd hx hb dX13_won_37 ?_
          obtain ⟨x_11, e_12, hF⟩ := li_some hF
          refine gx_ti e_12 ?_
          refine lv_istore_n (lv' := [(3, .int x_11), (0, .ref (Q 72)), (1, .int v1), (2, .int v2), (4, .int v4)]) hx hb dX13_won_38 rfl hl (by decide) rfl (fun ls hl => ?_)
          obtain ⟨x_13, e_14, hF⟩ := li_some hF
          refine lv_iinc (v := x_13) (lv' := [(4, .int x_13), (3, .int x_11), (0, .ref (Q 72)), (1, .int v1), (2, .int v2)]) hx hb dX13_won_39 hl (k := 4) rfl e_14 (by decide) rfl (fun ls hl => ?_)
          refine lv_goto (tgt := 5) hx hb dX13_won_42 (by decide) ?_
          exact ih5 v1 v2 x_11 x_13 u_2 _ _ _ (lv_sub hl [2, 3, 4, 1, 0] rfl) hH hF
  refine hL5 _ (fun v1 v2 v3 v4 u H locs ls hl hH hF => ?_) fuel a0 a1 0 0 u _ _ _ (lv_sub hl [2, 3, 4, 1, 0] rfl) hH hF
  refine lv_iload_n hx hb dX13_won_45 rfl (lv_at hl 3 rfl) ?_
  exact mr_i hC hH hr hF dX13_won_46 hlocks
def lp_sum_5 : Nat → Int32 → Int32 → Int32 → Int32 → MS → (Int32 → Int32 → Int32 → Int32 → MS → Option (Int32 × MS)) → Option (Int32 × MS)
  | 0, _, _, _, _, _, _ => none
  | n5 + 1, v1, v2, v3, v4, u, K5_56 => ob (f_fights v1 u) (fun r_1 u_2 => (if r_1 ≤ v4 then K5_56 v1 v2 v3 v4 u_2 else og (gi ((40 * v1) + v4) 160) ((if (ra u_2 18 ((40 * v1) + v4)) = v2 then og (gi ((40 * v1) + v4) 160) (li (v3 + (ra u_2 20 ((40 * v1) + v4))) (fun x_12 => li (v4 + 1) (fun x_14 => lp_sum_5 n5 v1 v2 x_12 x_14 u_2 K5_56))) else li (v3 + 0) (fun x_7 => li (v4 + 1) (fun x_9 => lp_sum_5 n5 v1 v2 x_7 x_9 u_2 K5_56))))))
def f_sum (a0 : Int32) (a1 : Int32) (u : MS) : Option (Int32 × MS) := lp_sum_5 fuel a0 a1 0 0 u (fun v1 v2 v3 v4 u => some (v3, u))
set_option maxHeartbeats 4000000 in
set_option maxRecDepth 100000 in
theorem m_sum (l : Launch) (G : gG) (Z : gM) (Q : Nat → Nat) (u u1 : MS) (r : Int32) (a0 : Int32) (a1 : Int32) (sz : Nat) (hF : f_sum a0 a1 u = some (r, u1)) : Met l yX13_sum (Cond.code yX13_sum cX13_sum 5 (some .int) :: wM) { frames := 3, cells := 0, slots := 0, locals := 65 } (va_Pc [.ref (Q 72), .int a0, .int a1] (mPM G Z Q u sz)) (mQi G Q u1 r sz) 0 0 (mA Q sz) := by
  refine Met.ofW (cc := cX13_sum) (maxL := 5) (ret := (some .int)) (by decide) rfl ?_
  intro p e s m args below meth c s₁ B hml hv
  obtain ⟨rfl, rfl, hP, hB, hD, hE⟩ := hv
  have hr := B.returns
  have hlocks := B.notSynchronized
  have hts := atoms_spec (ws := Cond.code yX13_sum cX13_sum 5 (some .int) :: wM) B.pre
  have hC : mX p c cX13_sum 5 s m _ G Z Q := ⟨B.exec, B.bytes, hml, findClass_of_methodNamed B.named, fun w h => hts w (List.mem_cons_of_mem _ h), hB, hE⟩
  have hx := hC.1
  have hb := hC.2.1
  have hH : mH G Q u s s.heap [] := ⟨hP, hD, va_S.rf⟩
  have hl := lv_entry ([.ref (Q 72), .int a0, .int a1]) (n := 5) (Nat.le_of_ble_eq_true rfl)
  rw [lg_entry_eq]
  generalize (lg_sl ([.ref (Q 72), .int a0, .int a1]) ++ List.replicate (5 - (lg_sl ([.ref (Q 72), .int a0, .int a1])).length) Slot.unset).toArray = ls at hl ⊢
  have hl : lv_has ls 5 [(0, .ref (Q 72)), (1, .int a0), (2, .int a1)] := hl
  unfold f_sum at hF
  refine lv_iconst (v := 0) hx hb dX13_sum_0 (by decide) ?_
  refine lv_istore_n (lv' := [(3, .int 0), (0, .ref (Q 72)), (1, .int a0), (2, .int a1)]) hx hb dX13_sum_1 rfl hl (by decide) rfl (fun ls hl => ?_)
  refine lv_iconst (v := 0) hx hb dX13_sum_2 (by decide) ?_
  refine lv_istore (lv' := [(4, .int 0), (3, .int 0), (0, .ref (Q 72)), (1, .int a0), (2, .int a1)]) hx hb dX13_sum_3 hl (by decide) rfl (fun ls hl => ?_)
  have hL5 : ∀ (K5_56 : Int32 → Int32 → Int32 → Int32 → MS → Option (Int32 × MS)), (∀ (v1 v2 v3 v4 : Int32) (u : MS) (H : Heap) (locs : List Loc) (ls : Array Slot), lv_has ls 5 [(0, .ref (Q 72)), (1, .int v1), (2, .int v2), (3, .int v3), (4, .int v4)] → mH G Q u s H locs → K5_56 v1 v2 v3 v4 u = some ((r, u1)) → W p l e (headSpec (Cond.code yX13_sum cX13_sum 5 (some .int) :: wM) { frames := 3, cells := 0, slots := 0, locals := 65 }).room s m [.ref (Q 72), .int a0, .int a1].toArray below meth c H locs 0 0 (MQ below (mQi G Q u1 r s.heap.size) [.ref (Q 72), .int a0, .int a1].toArray s 0 0 (mA Q s.heap.size)) (F0 m 56 ls [])) → ∀ (n5 : Nat) (v1 v2 v3 v4 : Int32) (u : MS) (H : Heap) (locs : List Loc) (ls : Array Slot), lv_has ls 5 [(0, .ref (Q 72)), (1, .int v1), (2, .int v2), (3, .int v3), (4, .int v4)] → mH G Q u s H locs → lp_sum_5 n5 v1 v2 v3 v4 u K5_56 = some ((r, u1)) → W p l e (headSpec (Cond.code yX13_sum cX13_sum 5 (some .int) :: wM) { frames := 3, cells := 0, slots := 0, locals := 65 }).room s m [.ref (Q 72), .int a0, .int a1].toArray below meth c H locs 0 0 (MQ below (mQi G Q u1 r s.heap.size) [.ref (Q 72), .int a0, .int a1].toArray s 0 0 (mA Q s.heap.size)) (F0 m 5 ls []) := by
    intro K5_56 hK5_56 n5
    induction n5 with
    | zero => intro v1 v2 v3 v4 u H locs ls hl hH hF; cases hF
    | succ n5 ih5 =>
      intro v1 v2 v3 v4 u H locs ls hl hH hF
      unfold lp_sum_5 at hF
      refine lv_iload hx hb dX13_sum_5 (lv_at hl 4 rfl) ?_
      refine lv_aload_n hx hb dX13_sum_7 rfl (lv_at hl 0 rfl) ?_
      refine lv_iload_n hx hb dX13_sum_8 rfl (lv_at hl 1 rfl) ?_
      obtain ⟨r_1, u_2, h_3, hF⟩ := ob_some hF
      refine mcV_i (As := [.int v1]) (rest := [.int v4]) hC hH (m_fights l G Z Q u u_2 r_1 v1 _ h_3) kwX13_fights kVX13_fights ⟨Nat.le_of_ble_eq_true rfl, Nat.le_of_ble_eq_true rfl⟩ rfl hl.1 rfl (Nat.le_of_ble_eq_true rfl) dX13_sum_9 (fun H locs hH => ?_)
      refine lv_icmp_ge (tgt := 56) hx hb dX13_sum_12 (by decide) (fun c_4 => ?_) (fun c_4 => ?_)
      · rw [if_pos c_4] at hF
        exact hK5_56 v1 v2 v3 v4 u_2 _ _ _ (lv_sub hl [0, 1, 2, 3, 4] rfl) hH hF
      · rw [if_neg c_4] at hF
        refine lv_iload_n hx hb dX13_sum_15 rfl (lv_at hl 3 rfl) ?_
        refine lv_aload_n hx hb dX13_sum_16 rfl (lv_at hl 0 rfl) ?_
        refine mg_18 hC hH dX13_sum_17 ?_
        refine lv_bipush (v := 40) hx hb dX13_sum_20 (by decide) ?_
        refine lv_iload_n hx hb dX13_sum_22 rfl (lv_at hl 1 rfl) ?_
        refine lv_imul hx hb dX13_sum_23 ?_
        refine lv_iload hx hb dX13_sum_24 (lv_at hl 4 rfl) ?_
        refine lv_iadd hx hb dX13_sum_26 ?_
        obtain ⟨g_5, hF⟩ := og_some hF
        refine ml_18 hC hH g_5 dX13_sum_27 ?_
        refine lv_iload_n hx hb dX13_sum_28 rfl (lv_at hl 2 rfl) ?_
        refine lv_icmp_ne (tgt := 47) hx hb dX13_sum_29 (by decide) (fun c_6 => ?_) (fun c_6 => ?_)
        · rw [if_neg c_6] at hF
          refine lv_iconst (v := 0) hx hb dX13_sum_47 (by decide) ?_
          refine lv_iadd hx hb dX13_sum_48 ?_
          obtain ⟨x_7, e_8, hF⟩ := li_some hF
          refine gx_ti e_8 ?_
          refine lv_istore_n (lv' := [(3, .int x_7), (0, .ref (Q 72)), (1, .int v1), (2, .int v2), (4, .int v4)]) hx hb dX13_sum_49 rfl hl (by decide) rfl (fun ls hl => ?_)
          obtain ⟨x_9, e_10, hF⟩ := li_some hF
          refine lv_iinc (v := x_9) (lv' := [(4, .int x_9), (3, .int x_7), (0, .ref (Q 72)), (1, .int v1), (2, .int v2)]) hx hb dX13_sum_50 hl (k := 4) rfl e_10 (by decide) rfl (fun ls hl => ?_)
          refine lv_goto (tgt := 5) hx hb dX13_sum_53 (by decide) ?_
          exact ih5 v1 v2 x_7 x_9 u_2 _ _ _ (lv_sub hl [2, 3, 4, 1, 0] rfl) hH hF
        · rw [if_pos c_6] at hF
          refine lv_aload_n hx hb dX13_sum_32 rfl (lv_at hl 0 rfl) ?_
          refine mg_20 hC hH dX13_sum_33 ?_
          refine lv_bipush (v := 40) hx hb dX13_sum_36 (by decide) ?_
          refine lv_iload_n hx hb dX13_sum_38 rfl (lv_at hl 1 rfl) ?_
          refine lv_imul hx hb dX13_sum_39 ?_
          refine lv_iload hx hb dX13_sum_40 (lv_at hl 4 rfl) ?_
          refine lv_iadd hx hb dX13_sum_42 ?_
          obtain ⟨g_11, hF⟩ := og_some hF
          refine ml_20 hC hH g_11 dX13_sum_43 ?_
          refine lv_goto (tgt := 48) hx hb dX13_sum_44 (by decide) ?_
          refine lv_iadd hx hb dX13_sum_48 ?_
          obtain ⟨x_12, e_13, hF⟩ := li_some hF
          refine gx_ti e_13 ?_
          refine lv_istore_n (lv' := [(3, .int x_12), (0, .ref (Q 72)), (1, .int v1), (2, .int v2), (4, .int v4)]) hx hb dX13_sum_49 rfl hl (by decide) rfl (fun ls hl => ?_)
          obtain ⟨x_14, e_15, hF⟩ := li_some hF
          refine lv_iinc (v := x_14) (lv' := [(4, .int x_14), (3, .int x_12), (0, .ref (Q 72)), (1, .int v1), (2, .int v2)]) hx hb dX13_sum_50 hl (k := 4) rfl e_15 (by decide) rfl (fun ls hl => ?_)
          refine lv_goto (tgt := 5) hx hb dX13_sum_53 (by decide) ?_
          exact ih5 v1 v2 x_12 x_14 u_2 _ _ _ (lv_sub hl [2, 3, 4, 1, 0] rfl) hH hF
  refine hL5 _ (fun v1 v2 v3 v4 u H locs ls hl hH hF => ?_) fuel a0 a1 0 0 u _ _ _ (lv_sub hl [2, 3, 4, 1, 0] rfl) hH hF
  refine lv_iload_n hx hb dX13_sum_56 rfl (lv_at hl 3 rfl) ?_
  exact mr_i hC hH hr hF dX13_sum_57 hlocks
def lp_alike_5 : Nat → Int32 → Int32 → Int32 → Int32 → MS → (Int32 → Int32 → Int32 → Int32 → MS → Option (Int32 × MS)) → Option (Int32 × MS)
  | 0, _, _, _, _, _, _ => none
  | n5 + 1, v1, v2, v3, v4, u, K5_82 => og (gi v1 4) ((if (ra u 13 v1) ≤ v4 then K5_82 v1 v2 v3 v4 u else og (gi ((32 * v1) + v4) 128) (ob (f_won v1 (ra u 14 ((32 * v1) + v4)) u) (fun r_4 u_5 => ob (f_won v1 v2 u_5) (fun r_7 u_8 => (if r_4 = r_7 then og (gi ((32 * v1) + v4) 128) (ob (f_sum v1 (ra u_8 14 ((32 * v1) + v4)) u_8) (fun r_16 u_17 => ob (f_sum v1 v2 u_17) (fun r_19 u_20 => (if r_16 = r_19 then li (v3 + 1) (fun x_27 => li (v4 + 1) (fun x_29 => lp_alike_5 n5 v1 v2 x_27 x_29 u_20 K5_82)) else li (v3 + 0) (fun x_23 => li (v4 + 1) (fun x_25 => lp_alike_5 n5 v1 v2 x_23 x_25 u_20 K5_82)))))) else li (v3 + 0) (fun x_11 => li (v4 + 1) (fun x_13 => lp_alike_5 n5 v1 v2 x_11 x_13 u_8 K5_82))))))))
def f_alike (a0 : Int32) (a1 : Int32) (u : MS) : Option (Int32 × MS) := lp_alike_5 fuel a0 a1 0 0 u (fun v1 v2 v3 v4 u => some (v3, u))
set_option maxHeartbeats 4000000 in
set_option maxRecDepth 100000 in
theorem m_alike (l : Launch) (G : gG) (Z : gM) (Q : Nat → Nat) (u u1 : MS) (r : Int32) (a0 : Int32) (a1 : Int32) (sz : Nat) (hF : f_alike a0 a1 u = some (r, u1)) : Met l yX13_alike (Cond.code yX13_alike cX13_alike 5 (some .int) :: wM) { frames := 4, cells := 0, slots := 0, locals := 89 } (va_Pc [.ref (Q 72), .int a0, .int a1] (mPM G Z Q u sz)) (mQi G Q u1 r sz) 0 0 (mA Q sz) := by
  refine Met.ofW (cc := cX13_alike) (maxL := 5) (ret := (some .int)) (by decide) rfl ?_
  intro p e s m args below meth c s₁ B hml hv
  obtain ⟨rfl, rfl, hP, hB, hD, hE⟩ := hv
  have hr := B.returns
  have hlocks := B.notSynchronized
  have hts := atoms_spec (ws := Cond.code yX13_alike cX13_alike 5 (some .int) :: wM) B.pre
  have hC : mX p c cX13_alike 5 s m _ G Z Q := ⟨B.exec, B.bytes, hml, findClass_of_methodNamed B.named, fun w h => hts w (List.mem_cons_of_mem _ h), hB, hE⟩
  have hx := hC.1
  have hb := hC.2.1
  have hH : mH G Q u s s.heap [] := ⟨hP, hD, va_S.rf⟩
  have hl := lv_entry ([.ref (Q 72), .int a0, .int a1]) (n := 5) (Nat.le_of_ble_eq_true rfl)
  rw [lg_entry_eq]
  generalize (lg_sl ([.ref (Q 72), .int a0, .int a1]) ++ List.replicate (5 - (lg_sl ([.ref (Q 72), .int a0, .int a1])).length) Slot.unset).toArray = ls at hl ⊢
  have hl : lv_has ls 5 [(0, .ref (Q 72)), (1, .int a0), (2, .int a1)] := hl
  unfold f_alike at hF
  refine lv_iconst (v := 0) hx hb dX13_alike_0 (by decide) ?_
  refine lv_istore_n (lv' := [(3, .int 0), (0, .ref (Q 72)), (1, .int a0), (2, .int a1)]) hx hb dX13_alike_1 rfl hl (by decide) rfl (fun ls hl => ?_)
  refine lv_iconst (v := 0) hx hb dX13_alike_2 (by decide) ?_
  refine lv_istore (lv' := [(4, .int 0), (3, .int 0), (0, .ref (Q 72)), (1, .int a0), (2, .int a1)]) hx hb dX13_alike_3 hl (by decide) rfl (fun ls hl => ?_)
  have hL5 : ∀ (K5_82 : Int32 → Int32 → Int32 → Int32 → MS → Option (Int32 × MS)), (∀ (v1 v2 v3 v4 : Int32) (u : MS) (H : Heap) (locs : List Loc) (ls : Array Slot), lv_has ls 5 [(0, .ref (Q 72)), (1, .int v1), (2, .int v2), (3, .int v3), (4, .int v4)] → mH G Q u s H locs → K5_82 v1 v2 v3 v4 u = some ((r, u1)) → W p l e (headSpec (Cond.code yX13_alike cX13_alike 5 (some .int) :: wM) { frames := 4, cells := 0, slots := 0, locals := 89 }).room s m [.ref (Q 72), .int a0, .int a1].toArray below meth c H locs 0 0 (MQ below (mQi G Q u1 r s.heap.size) [.ref (Q 72), .int a0, .int a1].toArray s 0 0 (mA Q s.heap.size)) (F0 m 82 ls [])) → ∀ (n5 : Nat) (v1 v2 v3 v4 : Int32) (u : MS) (H : Heap) (locs : List Loc) (ls : Array Slot), lv_has ls 5 [(0, .ref (Q 72)), (1, .int v1), (2, .int v2), (3, .int v3), (4, .int v4)] → mH G Q u s H locs → lp_alike_5 n5 v1 v2 v3 v4 u K5_82 = some ((r, u1)) → W p l e (headSpec (Cond.code yX13_alike cX13_alike 5 (some .int) :: wM) { frames := 4, cells := 0, slots := 0, locals := 89 }).room s m [.ref (Q 72), .int a0, .int a1].toArray below meth c H locs 0 0 (MQ below (mQi G Q u1 r s.heap.size) [.ref (Q 72), .int a0, .int a1].toArray s 0 0 (mA Q s.heap.size)) (F0 m 5 ls []) := by
    intro K5_82 hK5_82 n5
    induction n5 with
    | zero => intro v1 v2 v3 v4 u H locs ls hl hH hF; cases hF
    | succ n5 ih5 =>
      intro v1 v2 v3 v4 u H locs ls hl hH hF
      unfold lp_alike_5 at hF
      refine lv_iload hx hb dX13_alike_5 (lv_at hl 4 rfl) ?_
      refine lv_aload_n hx hb dX13_alike_7 rfl (lv_at hl 0 rfl) ?_
      refine mg_13 hC hH dX13_alike_8 ?_
      refine lv_iload_n hx hb dX13_alike_11 rfl (lv_at hl 1 rfl) ?_
      obtain ⟨g_1, hF⟩ := og_some hF
      refine ml_13 hC hH g_1 dX13_alike_12 ?_
      refine lv_icmp_ge (tgt := 82) hx hb dX13_alike_13 (by decide) (fun c_2 => ?_) (fun c_2 => ?_)
      · rw [if_pos c_2] at hF
        exact hK5_82 v1 v2 v3 v4 u _ _ _ (lv_sub hl [0, 1, 2, 3, 4] rfl) hH hF
      · rw [if_neg c_2] at hF
        refine lv_iload_n hx hb dX13_alike_16 rfl (lv_at hl 3 rfl) ?_
        refine lv_aload_n hx hb dX13_alike_17 rfl (lv_at hl 0 rfl) ?_
        refine lv_iload_n hx hb dX13_alike_18 rfl (lv_at hl 1 rfl) ?_
        refine lv_aload_n hx hb dX13_alike_19 rfl (lv_at hl 0 rfl) ?_
        refine mg_14 hC hH dX13_alike_20 ?_
        refine lv_bipush (v := 32) hx hb dX13_alike_23 (by decide) ?_
        refine lv_iload_n hx hb dX13_alike_25 rfl (lv_at hl 1 rfl) ?_
        refine lv_imul hx hb dX13_alike_26 ?_
        refine lv_iload hx hb dX13_alike_27 (lv_at hl 4 rfl) ?_
        refine lv_iadd hx hb dX13_alike_29 ?_
        obtain ⟨g_3, hF⟩ := og_some hF
        refine ml_14 hC hH g_3 dX13_alike_30 ?_
        obtain ⟨r_4, u_5, h_6, hF⟩ := ob_some hF
        refine mcV_i (As := [.int v1, .int (ra u 14 ((32 * v1) + v4))]) (rest := [.int v3]) hC hH (m_won l G Z Q u u_5 r_4 v1 (ra u 14 ((32 * v1) + v4)) _ h_6) kwX13_won kVX13_won ⟨Nat.le_of_ble_eq_true rfl, Nat.le_of_ble_eq_true rfl⟩ rfl hl.1 rfl (Nat.le_of_ble_eq_true rfl) dX13_alike_31 (fun H locs hH => ?_)
        refine lv_aload_n hx hb dX13_alike_34 rfl (lv_at hl 0 rfl) ?_
        refine lv_iload_n hx hb dX13_alike_35 rfl (lv_at hl 1 rfl) ?_
        refine lv_iload_n hx hb dX13_alike_36 rfl (lv_at hl 2 rfl) ?_
        obtain ⟨r_7, u_8, h_9, hF⟩ := ob_some hF
        refine mcV_i (As := [.int v1, .int v2]) (rest := [.int r_4, .int v3]) hC hH (m_won l G Z Q u_5 u_8 r_7 v1 v2 _ h_9) kwX13_won kVX13_won ⟨Nat.le_of_ble_eq_true rfl, Nat.le_of_ble_eq_true rfl⟩ rfl hl.1 rfl (Nat.le_of_ble_eq_true rfl) dX13_alike_37 (fun H locs hH => ?_)
        refine lv_icmp_ne (tgt := 73) hx hb dX13_alike_40 (by decide) (fun c_10 => ?_) (fun c_10 => ?_)
        · rw [if_neg c_10] at hF
          refine lv_iconst (v := 0) hx hb dX13_alike_73 (by decide) ?_
          refine lv_iadd hx hb dX13_alike_74 ?_
          obtain ⟨x_11, e_12, hF⟩ := li_some hF
          refine gx_ti e_12 ?_
          refine lv_istore_n (lv' := [(3, .int x_11), (0, .ref (Q 72)), (1, .int v1), (2, .int v2), (4, .int v4)]) hx hb dX13_alike_75 rfl hl (by decide) rfl (fun ls hl => ?_)
          obtain ⟨x_13, e_14, hF⟩ := li_some hF
          refine lv_iinc (v := x_13) (lv' := [(4, .int x_13), (3, .int x_11), (0, .ref (Q 72)), (1, .int v1), (2, .int v2)]) hx hb dX13_alike_76 hl (k := 4) rfl e_14 (by decide) rfl (fun ls hl => ?_)
          refine lv_goto (tgt := 5) hx hb dX13_alike_79 (by decide) ?_
          exact ih5 v1 v2 x_11 x_13 u_8 _ _ _ (lv_sub hl [2, 3, 4, 1, 0] rfl) hH hF
        · rw [if_pos c_10] at hF
          refine lv_aload_n hx hb dX13_alike_43 rfl (lv_at hl 0 rfl) ?_
          refine lv_iload_n hx hb dX13_alike_44 rfl (lv_at hl 1 rfl) ?_
          refine lv_aload_n hx hb dX13_alike_45 rfl (lv_at hl 0 rfl) ?_
          refine mg_14 hC hH dX13_alike_46 ?_
          refine lv_bipush (v := 32) hx hb dX13_alike_49 (by decide) ?_
          refine lv_iload_n hx hb dX13_alike_51 rfl (lv_at hl 1 rfl) ?_
          refine lv_imul hx hb dX13_alike_52 ?_
          refine lv_iload hx hb dX13_alike_53 (lv_at hl 4 rfl) ?_
          refine lv_iadd hx hb dX13_alike_55 ?_
          obtain ⟨g_15, hF⟩ := og_some hF
          refine ml_14 hC hH g_15 dX13_alike_56 ?_
          obtain ⟨r_16, u_17, h_18, hF⟩ := ob_some hF
          refine mcV_i (As := [.int v1, .int (ra u_8 14 ((32 * v1) + v4))]) (rest := [.int v3]) hC hH (m_sum l G Z Q u_8 u_17 r_16 v1 (ra u_8 14 ((32 * v1) + v4)) _ h_18) kwX13_sum kVX13_sum ⟨Nat.le_of_ble_eq_true rfl, Nat.le_of_ble_eq_true rfl⟩ rfl hl.1 rfl (Nat.le_of_ble_eq_true rfl) dX13_alike_57 (fun H locs hH => ?_)
          refine lv_aload_n hx hb dX13_alike_60 rfl (lv_at hl 0 rfl) ?_
          refine lv_iload_n hx hb dX13_alike_61 rfl (lv_at hl 1 rfl) ?_
          refine lv_iload_n hx hb dX13_alike_62 rfl (lv_at hl 2 rfl) ?_
          obtain ⟨r_19, u_20, h_21, hF⟩ := ob_some hF
          refine mcV_i (As := [.int v1, .int v2]) (rest := [.int r_16, .int v3]) hC hH (m_sum l G Z Q u_17 u_20 r_19 v1 v2 _ h_21) kwX13_sum kVX13_sum ⟨Nat.le_of_ble_eq_true rfl, Nat.le_of_ble_eq_true rfl⟩ rfl hl.1 rfl (Nat.le_of_ble_eq_true rfl) dX13_alike_63 (fun H locs hH => ?_)
          refine lv_icmp_ne (tgt := 73) hx hb dX13_alike_66 (by decide) (fun c_22 => ?_) (fun c_22 => ?_)
          · rw [if_neg c_22] at hF
            refine lv_iconst (v := 0) hx hb dX13_alike_73 (by decide) ?_
            refine lv_iadd hx hb dX13_alike_74 ?_
            obtain ⟨x_23, e_24, hF⟩ := li_some hF
            refine gx_ti e_24 ?_
            refine lv_istore_n (lv' := [(3, .int x_23), (0, .ref (Q 72)), (1, .int v1), (2, .int v2), (4, .int v4)]) hx hb dX13_alike_75 rfl hl (by decide) rfl (fun ls hl => ?_)
            obtain ⟨x_25, e_26, hF⟩ := li_some hF
            refine lv_iinc (v := x_25) (lv' := [(4, .int x_25), (3, .int x_23), (0, .ref (Q 72)), (1, .int v1), (2, .int v2)]) hx hb dX13_alike_76 hl (k := 4) rfl e_26 (by decide) rfl (fun ls hl => ?_)
            refine lv_goto (tgt := 5) hx hb dX13_alike_79 (by decide) ?_
            exact ih5 v1 v2 x_23 x_25 u_20 _ _ _ (lv_sub hl [2, 3, 4, 1, 0] rfl) hH hF
          · rw [if_pos c_22] at hF
            refine lv_iconst (v := 1) hx hb dX13_alike_69 (by decide) ?_
            refine lv_goto (tgt := 74) hx hb dX13_alike_70 (by decide) ?_
            refine lv_iadd hx hb dX13_alike_74 ?_
            obtain ⟨x_27, e_28, hF⟩ := li_some hF
            refine gx_ti e_28 ?_
            refine lv_istore_n (lv' := [(3, .int x_27), (0, .ref (Q 72)), (1, .int v1), (2, .int v2), (4, .int v4)]) hx hb dX13_alike_75 rfl hl (by decide) rfl (fun ls hl => ?_)
            obtain ⟨x_29, e_30, hF⟩ := li_some hF
            refine lv_iinc (v := x_29) (lv' := [(4, .int x_29), (3, .int x_27), (0, .ref (Q 72)), (1, .int v1), (2, .int v2)]) hx hb dX13_alike_76 hl (k := 4) rfl e_30 (by decide) rfl (fun ls hl => ?_)
            refine lv_goto (tgt := 5) hx hb dX13_alike_79 (by decide) ?_
            exact ih5 v1 v2 x_27 x_29 u_20 _ _ _ (lv_sub hl [2, 3, 4, 1, 0] rfl) hH hF
  refine hL5 _ (fun v1 v2 v3 v4 u H locs ls hl hH hF => ?_) fuel a0 a1 0 0 u _ _ _ (lv_sub hl [2, 3, 4, 1, 0] rfl) hH hF
  refine lv_iload_n hx hb dX13_alike_82 rfl (lv_at hl 3 rfl) ?_
  exact mr_i hC hH hr hF dX13_alike_83 hlocks
def lp_isAhead_85 : Nat → Int32 → Int32 → Int32 → Int32 → MS → (Int32 → Int32 → Int32 → Int32 → MS → Option (Int32 × MS)) → Option (Int32 × MS)
  | 0, _, _, _, _, _, _ => none
  | n85 + 1, v1, v2, v3, v4, u, K85_167 => ob (f_fights v1 u) (fun r_26 u_27 => (if r_26 ≤ v4 then K85_167 v1 v2 v3 v4 u_27 else ob (fS 24 0 v1 v4 0 0 u_27) (fun r_30 u_31 => ob (fS 24 0 v1 v4 1 0 u_31) (fun r_33 u_34 => (if r_30 = v2 then (if r_33 = v3 then og (gi ((40 * v1) + v4) 160) ((if (ra u_34 18 ((40 * v1) + v4)) = v2 then some (1, u_34) else some (0, u_34))) else (if r_30 = v3 then (if r_33 = v2 then og (gi ((40 * v1) + v4) 160) ((if (ra u_34 18 ((40 * v1) + v4)) = v2 then some (1, u_34) else some (0, u_34))) else li (v4 + 1) (fun x_52 => lp_isAhead_85 n85 v1 v2 v3 x_52 u_34 K85_167)) else li (v4 + 1) (fun x_49 => lp_isAhead_85 n85 v1 v2 v3 x_49 u_34 K85_167))) else (if r_30 = v3 then (if r_33 = v2 then og (gi ((40 * v1) + v4) 160) ((if (ra u_34 18 ((40 * v1) + v4)) = v2 then some (1, u_34) else some (0, u_34))) else li (v4 + 1) (fun x_41 => lp_isAhead_85 n85 v1 v2 v3 x_41 u_34 K85_167)) else li (v4 + 1) (fun x_38 => lp_isAhead_85 n85 v1 v2 v3 x_38 u_34 K85_167)))))))
def f_isAhead (a0 : Int32) (a1 : Int32) (a2 : Int32) (u : MS) : Option (Int32 × MS) := ob (f_won a0 a1 u) (fun r_1 u_2 => ob (f_won a0 a2 u_2) (fun r_4 u_5 => (if r_1 = r_4 then ob (f_sum a0 a1 u_5) (fun r_8 u_9 => ob (f_sum a0 a2 u_9) (fun r_11 u_12 => (if r_8 = r_11 then ob (f_alike a0 a1 u_12) (fun r_15 u_16 => (if r_15 = 2 then lp_isAhead_85 fuel a0 a1 a2 0 u_16 (fun v1 v2 v3 v4 u => og (gi v2 96) (og (gi v3 96) ((if (ra u 7 v2) = (ra u 7 v3) then (if v3 ≤ v2 then some (0, u) else some (1, u)) else og (gi v2 96) (og (gi v3 96) ((if (ra u 7 v3) ≤ (ra u 7 v2) then some (0, u) else some (1, u)))))))) else og (gi a1 96) (og (gi a2 96) ((if (ra u_16 7 a1) = (ra u_16 7 a2) then (if a2 ≤ a1 then some (0, u_16) else some (1, u_16)) else og (gi a1 96) (og (gi a2 96) ((if (ra u_16 7 a2) ≤ (ra u_16 7 a1) then some (0, u_16) else some (1, u_16))))))))) else ob (f_sum a0 a1 u_12) (fun r_63 u_64 => ob (f_sum a0 a2 u_64) (fun r_66 u_67 => (if r_63 ≤ r_66 then some (0, u_67) else some (1, u_67))))))) else ob (f_won a0 a1 u_5) (fun r_70 u_71 => ob (f_won a0 a2 u_71) (fun r_73 u_74 => (if r_70 ≤ r_73 then some (0, u_74) else some (1, u_74)))))))
set_option maxHeartbeats 4000000 in
set_option maxRecDepth 100000 in
theorem m_isAhead (l : Launch) (G : gG) (Z : gM) (Q : Nat → Nat) (u u1 : MS) (r : Int32) (a0 : Int32) (a1 : Int32) (a2 : Int32) (sz : Nat) (hF : f_isAhead a0 a1 a2 u = some (r, u1)) : Met l yX13_isAhead (Cond.code yX13_isAhead cX13_isAhead 7 (some .boolean) :: wM) { frames := 309, cells := 0, slots := 0, locals := 3786 } (va_Pc [.ref (Q 72), .int a0, .int a1, .int a2] (mPM G Z Q u sz)) (mQi G Q u1 r sz) 0 0 (mA Q sz) := by
  refine Met.ofW (cc := cX13_isAhead) (maxL := 7) (ret := (some .boolean)) (by decide) rfl ?_
  intro p e s m args below meth c s₁ B hml hv
  obtain ⟨rfl, rfl, hP, hB, hD, hE⟩ := hv
  have hr := B.returns
  have hlocks := B.notSynchronized
  have hts := atoms_spec (ws := Cond.code yX13_isAhead cX13_isAhead 7 (some .boolean) :: wM) B.pre
  have hC : mX p c cX13_isAhead 7 s m _ G Z Q := ⟨B.exec, B.bytes, hml, findClass_of_methodNamed B.named, fun w h => hts w (List.mem_cons_of_mem _ h), hB, hE⟩
  have hx := hC.1
  have hb := hC.2.1
  have hH : mH G Q u s s.heap [] := ⟨hP, hD, va_S.rf⟩
  have hl := lv_entry ([.ref (Q 72), .int a0, .int a1, .int a2]) (n := 7) (Nat.le_of_ble_eq_true rfl)
  rw [lg_entry_eq]
  generalize (lg_sl ([.ref (Q 72), .int a0, .int a1, .int a2]) ++ List.replicate (7 - (lg_sl ([.ref (Q 72), .int a0, .int a1, .int a2])).length) Slot.unset).toArray = ls at hl ⊢
  have hl : lv_has ls 7 [(0, .ref (Q 72)), (1, .int a0), (2, .int a1), (3, .int a2)] := hl
  unfold f_isAhead at hF
  refine lv_aload_n hx hb dX13_isAhead_0 rfl (lv_at hl 0 rfl) ?_
  refine lv_iload_n hx hb dX13_isAhead_1 rfl (lv_at hl 1 rfl) ?_
  refine lv_iload_n hx hb dX13_isAhead_2 rfl (lv_at hl 2 rfl) ?_
  obtain ⟨r_1, u_2, h_3, hF⟩ := ob_some hF
  refine mcV_i (As := [.int a0, .int a1]) (rest := []) hC hH (m_won l G Z Q u u_2 r_1 a0 a1 _ h_3) kwX13_won kVX13_won ⟨Nat.le_of_ble_eq_true rfl, Nat.le_of_ble_eq_true rfl⟩ rfl hl.1 rfl (Nat.le_of_ble_eq_true rfl) dX13_isAhead_3 (fun H locs hH => ?_)
  refine lv_aload_n hx hb dX13_isAhead_6 rfl (lv_at hl 0 rfl) ?_
  refine lv_iload_n hx hb dX13_isAhead_7 rfl (lv_at hl 1 rfl) ?_
  refine lv_iload_n hx hb dX13_isAhead_8 rfl (lv_at hl 3 rfl) ?_
  obtain ⟨r_4, u_5, h_6, hF⟩ := ob_some hF
  refine mcV_i (As := [.int a0, .int a2]) (rest := [.int r_1]) hC hH (m_won l G Z Q u_2 u_5 r_4 a0 a2 _ h_6) kwX13_won kVX13_won ⟨Nat.le_of_ble_eq_true rfl, Nat.le_of_ble_eq_true rfl⟩ rfl hl.1 rfl (Nat.le_of_ble_eq_true rfl) dX13_isAhead_9 (fun H locs hH => ?_)
  refine lv_icmp_eq (tgt := 36) hx hb dX13_isAhead_12 (by decide) (fun c_7 => ?_) (fun c_7 => ?_)
  · rw [if_pos c_7] at hF
    refine lv_aload_n hx hb dX13_isAhead_36 rfl (lv_at hl 0 rfl) ?_
    refine lv_iload_n hx hb dX13_isAhead_37 rfl (lv_at hl 1 rfl) ?_
    refine lv_iload_n hx hb dX13_isAhead_38 rfl (lv_at hl 2 rfl) ?_
    obtain ⟨r_8, u_9, h_10, hF⟩ := ob_some hF
    refine mcV_i (As := [.int a0, .int a1]) (rest := []) hC hH (m_sum l G Z Q u_5 u_9 r_8 a0 a1 _ h_10) kwX13_sum kVX13_sum ⟨Nat.le_of_ble_eq_true rfl, Nat.le_of_ble_eq_true rfl⟩ rfl hl.1 rfl (Nat.le_of_ble_eq_true rfl) dX13_isAhead_39 (fun H locs hH => ?_)
    refine lv_aload_n hx hb dX13_isAhead_42 rfl (lv_at hl 0 rfl) ?_
    refine lv_iload_n hx hb dX13_isAhead_43 rfl (lv_at hl 1 rfl) ?_
    refine lv_iload_n hx hb dX13_isAhead_44 rfl (lv_at hl 3 rfl) ?_
    obtain ⟨r_11, u_12, h_13, hF⟩ := ob_some hF
    refine mcV_i (As := [.int a0, .int a2]) (rest := [.int r_8]) hC hH (m_sum l G Z Q u_9 u_12 r_11 a0 a2 _ h_13) kwX13_sum kVX13_sum ⟨Nat.le_of_ble_eq_true rfl, Nat.le_of_ble_eq_true rfl⟩ rfl hl.1 rfl (Nat.le_of_ble_eq_true rfl) dX13_isAhead_45 (fun H locs hH => ?_)
    refine lv_icmp_eq (tgt := 72) hx hb dX13_isAhead_48 (by decide) (fun c_14 => ?_) (fun c_14 => ?_)
    · rw [if_pos c_14] at hF
      refine lv_aload_n hx hb dX13_isAhead_72 rfl (lv_at hl 0 rfl) ?_
      refine lv_iload_n hx hb dX13_isAhead_73 rfl (lv_at hl 1 rfl) ?_
      refine lv_iload_n hx hb dX13_isAhead_74 rfl (lv_at hl 2 rfl) ?_
      obtain ⟨r_15, u_16, h_17, hF⟩ := ob_some hF
      refine mcV_i (As := [.int a0, .int a1]) (rest := []) hC hH (m_alike l G Z Q u_12 u_16 r_15 a0 a1 _ h_17) kwX13_alike kVX13_alike ⟨Nat.le_of_ble_eq_true rfl, Nat.le_of_ble_eq_true rfl⟩ rfl hl.1 rfl (Nat.le_of_ble_eq_true rfl) dX13_isAhead_75 (fun H locs hH => ?_)
      refine lv_iconst (v := 2) hx hb dX13_isAhead_78 (by decide) ?_
      refine lv_icmp_ne (tgt := 167) hx hb dX13_isAhead_79 (by decide) (fun c_18 => ?_) (fun c_18 => ?_)
      · rw [if_neg c_18] at hF
        refine lv_aload_n hx hb dX13_isAhead_167 rfl (lv_at hl 0 rfl) ?_
        refine mg_7 hC hH dX13_isAhead_168 ?_
        refine lv_iload_n hx hb dX13_isAhead_171 rfl (lv_at hl 2 rfl) ?_
        obtain ⟨g_19, hF⟩ := og_some hF
        refine ml_7 hC hH g_19 dX13_isAhead_172 ?_
        refine lv_aload_n hx hb dX13_isAhead_173 rfl (lv_at hl 0 rfl) ?_
        refine mg_7 hC hH dX13_isAhead_174 ?_
        refine lv_iload_n hx hb dX13_isAhead_177 rfl (lv_at hl 3 rfl) ?_
        obtain ⟨g_20, hF⟩ := og_some hF
        refine ml_7 hC hH g_20 dX13_isAhead_178 ?_
        refine lv_icmp_eq (tgt := 205) hx hb dX13_isAhead_179 (by decide) (fun c_21 => ?_) (fun c_21 => ?_)
        · rw [if_pos c_21] at hF
          refine lv_iload_n hx hb dX13_isAhead_205 rfl (lv_at hl 2 rfl) ?_
          refine lv_iload_n hx hb dX13_isAhead_206 rfl (lv_at hl 3 rfl) ?_
          refine lv_icmp_ge (tgt := 214) hx hb dX13_isAhead_207 (by decide) (fun c_22 => ?_) (fun c_22 => ?_)
          · rw [if_pos c_22] at hF
            refine lv_iconst (v := 0) hx hb dX13_isAhead_214 (by decide) ?_
            exact mr_z hC hH hr rfl hF dX13_isAhead_215 hlocks
          · rw [if_neg c_22] at hF
            refine lv_iconst (v := 1) hx hb dX13_isAhead_210 (by decide) ?_
            refine lv_goto (tgt := 215) hx hb dX13_isAhead_211 (by decide) ?_
            exact mr_z hC hH hr rfl hF dX13_isAhead_215 hlocks
        · rw [if_neg c_21] at hF
          refine lv_aload_n hx hb dX13_isAhead_182 rfl (lv_at hl 0 rfl) ?_
          refine mg_7 hC hH dX13_isAhead_183 ?_
          refine lv_iload_n hx hb dX13_isAhead_186 rfl (lv_at hl 2 rfl) ?_
          obtain ⟨g_23, hF⟩ := og_some hF
          refine ml_7 hC hH g_23 dX13_isAhead_187 ?_
          refine lv_aload_n hx hb dX13_isAhead_188 rfl (lv_at hl 0 rfl) ?_
          refine mg_7 hC hH dX13_isAhead_189 ?_
          refine lv_iload_n hx hb dX13_isAhead_192 rfl (lv_at hl 3 rfl) ?_
          obtain ⟨g_24, hF⟩ := og_some hF
          refine ml_7 hC hH g_24 dX13_isAhead_193 ?_
          refine lv_icmp_ge (tgt := 201) hx hb dX13_isAhead_194 (by decide) (fun c_25 => ?_) (fun c_25 => ?_)
          · rw [if_pos c_25] at hF
            refine lv_iconst (v := 0) hx hb dX13_isAhead_201 (by decide) ?_
            refine lv_goto (tgt := 215) hx hb dX13_isAhead_202 (by decide) ?_
            exact mr_z hC hH hr rfl hF dX13_isAhead_215 hlocks
          · rw [if_neg c_25] at hF
            refine lv_iconst (v := 1) hx hb dX13_isAhead_197 (by decide) ?_
            refine lv_goto (tgt := 215) hx hb dX13_isAhead_198 (by decide) ?_
            exact mr_z hC hH hr rfl hF dX13_isAhead_215 hlocks
      · rw [if_pos c_18] at hF
        refine lv_iconst (v := 0) hx hb dX13_isAhead_82 (by decide) ?_
        refine lv_istore (lv' := [(4, .int 0), (0, .ref (Q 72)), (1, .int a0), (2, .int a1), (3, .int a2)]) hx hb dX13_isAhead_83 hl (by decide) rfl (fun ls hl => ?_)
        have hL85 : ∀ (K85_167 : Int32 → Int32 → Int32 → Int32 → MS → Option (Int32 × MS)), (∀ (v1 v2 v3 v4 : Int32) (u : MS) (H : Heap) (locs : List Loc) (ls : Array Slot), lv_has ls 7 [(0, .ref (Q 72)), (1, .int v1), (2, .int v2), (3, .int v3), (4, .int v4)] → mH G Q u s H locs → K85_167 v1 v2 v3 v4 u = some ((r, u1)) → W p l e (headSpec (Cond.code yX13_isAhead cX13_isAhead 7 (some .boolean) :: wM) { frames := 309, cells := 0, slots := 0, locals := 3786 }).room s m [.ref (Q 72), .int a0, .int a1, .int a2].toArray below meth c H locs 0 0 (MQ below (mQi G Q u1 r s.heap.size) [.ref (Q 72), .int a0, .int a1, .int a2].toArray s 0 0 (mA Q s.heap.size)) (F0 m 167 ls [])) → ∀ (n85 : Nat) (v1 v2 v3 v4 : Int32) (u : MS) (H : Heap) (locs : List Loc) (ls : Array Slot), lv_has ls 7 [(0, .ref (Q 72)), (1, .int v1), (2, .int v2), (3, .int v3), (4, .int v4)] → mH G Q u s H locs → lp_isAhead_85 n85 v1 v2 v3 v4 u K85_167 = some ((r, u1)) → W p l e (headSpec (Cond.code yX13_isAhead cX13_isAhead 7 (some .boolean) :: wM) { frames := 309, cells := 0, slots := 0, locals := 3786 }).room s m [.ref (Q 72), .int a0, .int a1, .int a2].toArray below meth c H locs 0 0 (MQ below (mQi G Q u1 r s.heap.size) [.ref (Q 72), .int a0, .int a1, .int a2].toArray s 0 0 (mA Q s.heap.size)) (F0 m 85 ls []) := by
          intro K85_167 hK85_167 n85
          induction n85 with
          | zero => intro v1 v2 v3 v4 u H locs ls hl hH hF; cases hF
          | succ n85 ih85 =>
            intro v1 v2 v3 v4 u H locs ls hl hH hF
            unfold lp_isAhead_85 at hF
            refine lv_iload hx hb dX13_isAhead_85 (lv_at hl 4 rfl) ?_
            refine lv_aload_n hx hb dX13_isAhead_87 rfl (lv_at hl 0 rfl) ?_
            refine lv_iload_n hx hb dX13_isAhead_88 rfl (lv_at hl 1 rfl) ?_
            obtain ⟨r_26, u_27, h_28, hF⟩ := ob_some hF
            refine mcV_i (As := [.int v1]) (rest := [.int v4]) hC hH (m_fights l G Z Q u u_27 r_26 v1 _ h_28) kwX13_fights kVX13_fights ⟨Nat.le_of_ble_eq_true rfl, Nat.le_of_ble_eq_true rfl⟩ rfl hl.1 rfl (Nat.le_of_ble_eq_true rfl) dX13_isAhead_89 (fun H locs hH => ?_)
            refine lv_icmp_ge (tgt := 167) hx hb dX13_isAhead_92 (by decide) (fun c_29 => ?_) (fun c_29 => ?_)
            · rw [if_pos c_29] at hF
              exact hK85_167 v1 v2 v3 v4 u_27 _ _ _ (lv_sub hl [0, 1, 2, 3, 4] rfl) hH hF
            · rw [if_neg c_29] at hF
              refine lv_aload_n hx hb dX13_isAhead_95 rfl (lv_at hl 0 rfl) ?_
              refine lv_iload_n hx hb dX13_isAhead_96 rfl (lv_at hl 1 rfl) ?_
              refine lv_iload hx hb dX13_isAhead_97 (lv_at hl 4 rfl) ?_
              refine lv_iconst (v := 0) hx hb dX13_isAhead_99 (by decide) ?_
              obtain ⟨r_30, u_31, h_32, hF⟩ := ob_some hF
              refine mcV_i (As := [.int v1, .int v4, .int 0]) (rest := []) hC hH (m_sideOf l G Z Q u_27 u_31 r_30 v1 v4 0 _ h_32) kwX13_sideOf kVX13_sideOf ⟨Nat.le_of_ble_eq_true rfl, Nat.le_of_ble_eq_true rfl⟩ rfl hl.1 rfl (Nat.le_of_ble_eq_true rfl) dX13_isAhead_100 (fun H locs hH => ?_)
              refine lv_istore (lv' := [(5, .int r_30), (0, .ref (Q 72)), (1, .int v1), (2, .int v2), (3, .int v3), (4, .int v4)]) hx hb dX13_isAhead_103 hl (by decide) rfl (fun ls hl => ?_)
              refine lv_aload_n hx hb dX13_isAhead_105 rfl (lv_at hl 1 rfl) ?_
              refine lv_iload_n hx hb dX13_isAhead_106 rfl (lv_at hl 2 rfl) ?_
              refine lv_iload hx hb dX13_isAhead_107 (lv_at hl 5 rfl) ?_
              refine lv_iconst (v := 1) hx hb dX13_isAhead_109 (by decide) ?_
              obtain ⟨r_33, u_34, h_35, hF⟩ := ob_some hF
              refine mcV_i (As := [.int v1, .int v4, .int 1]) (rest := []) hC hH (m_sideOf l G Z Q u_31 u_34 r_33 v1 v4 1 _ h_35) kwX13_sideOf kVX13_sideOf ⟨Nat.le_of_ble_eq_true rfl, Nat.le_of_ble_eq_true rfl⟩ rfl hl.1 rfl (Nat.le_of_ble_eq_true rfl) dX13_isAhead_110 (fun H locs hH => ?_)
              refine lv_istore (lv' := [(6, .int r_33), (5, .int r_30), (0, .ref (Q 72)), (1, .int v1), (2, .int v2), (3, .int v3), (4, .int v4)]) hx hb dX13_isAhead_113 hl (by decide) rfl (fun ls hl => ?_)
              refine lv_iload hx hb dX13_isAhead_115 (lv_at hl 1 rfl) ?_
              refine lv_iload_n hx hb dX13_isAhead_117 rfl (lv_at hl 4 rfl) ?_
              refine lv_icmp_ne (tgt := 127) hx hb dX13_isAhead_118 (by decide) (fun c_36 => ?_) (fun c_36 => ?_)
              · rw [if_neg c_36] at hF
                refine lv_iload hx hb dX13_isAhead_127 (lv_at hl 1 rfl) ?_
                refine lv_iload_n hx hb dX13_isAhead_129 rfl (lv_at hl 5 rfl) ?_
                refine lv_icmp_ne (tgt := 161) hx hb dX13_isAhead_130 (by decide) (fun c_37 => ?_) (fun c_37 => ?_)
                · rw [if_neg c_37] at hF
                  obtain ⟨x_38, e_39, hF⟩ := li_some hF
                  refine lv_iinc (v := x_38) (lv' := [(4, .int x_38), (6, .int r_33), (5, .int r_30), (0, .ref (Q 72)), (1, .int v1), (2, .int v2), (3, .int v3)]) hx hb dX13_isAhead_161 hl (k := 6) rfl e_39 (by decide) rfl (fun ls hl => ?_)
                  refine lv_goto (tgt := 85) hx hb dX13_isAhead_164 (by decide) ?_
                  exact ih85 v1 v2 v3 x_38 u_34 _ _ _ (lv_sub hl [3, 4, 5, 6, 0] rfl) hH hF
                · rw [if_pos c_37] at hF
                  refine lv_iload hx hb dX13_isAhead_133 (lv_at hl 0 rfl) ?_
                  refine lv_iload_n hx hb dX13_isAhead_135 rfl (lv_at hl 4 rfl) ?_
                  refine lv_icmp_ne (tgt := 161) hx hb dX13_isAhead_136 (by decide) (fun c_40 => ?_) (fun c_40 => ?_)
                  · rw [if_neg c_40] at hF
                    obtain ⟨x_41, e_42, hF⟩ := li_some hF
                    refine lv_iinc (v := x_41) (lv' := [(4, .int x_41), (6, .int r_33), (5, .int r_30), (0, .ref (Q 72)), (1, .int v1), (2, .int v2), (3, .int v3)]) hx hb dX13_isAhead_161 hl (k := 6) rfl e_42 (by decide) rfl (fun ls hl => ?_)
                    refine lv_goto (tgt := 85) hx hb dX13_isAhead_164 (by decide) ?_
                    exact ih85 v1 v2 v3 x_41 u_34 _ _ _ (lv_sub hl [3, 4, 5, 6, 0] rfl) hH hF
                  · rw [if_pos c_40] at hF
                    refine lv_aload_n hx hb dX13_isAhead_139 rfl (lv_at hl 2 rfl) ?_
                    refine mg_18 hC hH dX13_isAhead_140 ?_
                    refine lv_bipush (v := 40) hx hb dX13_isAhead_143 (by decide) ?_
                    refine lv_iload_n hx hb dX13_isAhead_145 rfl (lv_at hl 3 rfl) ?_
                    refine lv_imul hx hb dX13_isAhead_146 ?_
                    refine lv_iload hx hb dX13_isAhead_147 (lv_at hl 6 rfl) ?_
                    refine lv_iadd hx hb dX13_isAhead_149 ?_
                    obtain ⟨g_43, hF⟩ := og_some hF
                    refine ml_18 hC hH g_43 dX13_isAhead_150 ?_
                    refine lv_iload_n hx hb dX13_isAhead_151 rfl (lv_at hl 4 rfl) ?_
                    refine lv_icmp_ne (tgt := 159) hx hb dX13_isAhead_152 (by decide) (fun c_44 => ?_) (fun c_44 => ?_)
                    · rw [if_neg c_44] at hF
                      refine lv_iconst (v := 0) hx hb dX13_isAhead_159 (by decide) ?_
                      exact mr_z hC hH hr rfl hF dX13_isAhead_160 hlocks
                    · rw [if_pos c_44] at hF
                      refine lv_iconst (v := 1) hx hb dX13_isAhead_155 (by decide) ?_
                      refine lv_goto (tgt := 160) hx hb dX13_isAhead_156 (by decide) ?_
                      exact mr_z hC hH hr rfl hF dX13_isAhead_160 hlocks
              · rw [if_pos c_36] at hF
                refine lv_iload hx hb dX13_isAhead_121 (lv_at hl 0 rfl) ?_
                refine lv_iload_n hx hb dX13_isAhead_123 rfl (lv_at hl 5 rfl) ?_
                refine lv_icmp_eq (tgt := 139) hx hb dX13_isAhead_124 (by decide) (fun c_45 => ?_) (fun c_45 => ?_)
                · rw [if_pos c_45] at hF
                  refine lv_aload_n hx hb dX13_isAhead_139 rfl (lv_at hl 2 rfl) ?_
                  refine mg_18 hC hH dX13_isAhead_140 ?_
                  refine lv_bipush (v := 40) hx hb dX13_isAhead_143 (by decide) ?_
                  refine lv_iload_n hx hb dX13_isAhead_145 rfl (lv_at hl 3 rfl) ?_
                  refine lv_imul hx hb dX13_isAhead_146 ?_
                  refine lv_iload hx hb dX13_isAhead_147 (lv_at hl 6 rfl) ?_
                  refine lv_iadd hx hb dX13_isAhead_149 ?_
                  obtain ⟨g_46, hF⟩ := og_some hF
                  refine ml_18 hC hH g_46 dX13_isAhead_150 ?_
                  refine lv_iload_n hx hb dX13_isAhead_151 rfl (lv_at hl 4 rfl) ?_
                  refine lv_icmp_ne (tgt := 159) hx hb dX13_isAhead_152 (by decide) (fun c_47 => ?_) (fun c_47 => ?_)
                  · rw [if_neg c_47] at hF
                    refine lv_iconst (v := 0) hx hb dX13_isAhead_159 (by decide) ?_
                    exact mr_z hC hH hr rfl hF dX13_isAhead_160 hlocks
                  · rw [if_pos c_47] at hF
                    refine lv_iconst (v := 1) hx hb dX13_isAhead_155 (by decide) ?_
                    refine lv_goto (tgt := 160) hx hb dX13_isAhead_156 (by decide) ?_
                    exact mr_z hC hH hr rfl hF dX13_isAhead_160 hlocks
                · rw [if_neg c_45] at hF
                  refine lv_iload hx hb dX13_isAhead_127 (lv_at hl 1 rfl) ?_
                  refine lv_iload_n hx hb dX13_isAhead_129 rfl (lv_at hl 5 rfl) ?_
                  refine lv_icmp_ne (tgt := 161) hx hb dX13_isAhead_130 (by decide) (fun c_48 => ?_) (fun c_48 => ?_)
                  · rw [if_neg c_48] at hF
                    obtain ⟨x_49, e_50, hF⟩ := li_some hF
                    refine lv_iinc (v := x_49) (lv' := [(4, .int x_49), (6, .int r_33), (5, .int r_30), (0, .ref (Q 72)), (1, .int v1), (2, .int v2), (3, .int v3)]) hx hb dX13_isAhead_161 hl (k := 6) rfl e_50 (by decide) rfl (fun ls hl => ?_)
                    refine lv_goto (tgt := 85) hx hb dX13_isAhead_164 (by decide) ?_
                    exact ih85 v1 v2 v3 x_49 u_34 _ _ _ (lv_sub hl [3, 4, 5, 6, 0] rfl) hH hF
                  · rw [if_pos c_48] at hF
                    refine lv_iload hx hb dX13_isAhead_133 (lv_at hl 0 rfl) ?_
                    refine lv_iload_n hx hb dX13_isAhead_135 rfl (lv_at hl 4 rfl) ?_
                    refine lv_icmp_ne (tgt := 161) hx hb dX13_isAhead_136 (by decide) (fun c_51 => ?_) (fun c_51 => ?_)
                    · rw [if_neg c_51] at hF
                      obtain ⟨x_52, e_53, hF⟩ := li_some hF
                      refine lv_iinc (v := x_52) (lv' := [(4, .int x_52), (6, .int r_33), (5, .int r_30), (0, .ref (Q 72)), (1, .int v1), (2, .int v2), (3, .int v3)]) hx hb dX13_isAhead_161 hl (k := 6) rfl e_53 (by decide) rfl (fun ls hl => ?_)
                      refine lv_goto (tgt := 85) hx hb dX13_isAhead_164 (by decide) ?_
                      exact ih85 v1 v2 v3 x_52 u_34 _ _ _ (lv_sub hl [3, 4, 5, 6, 0] rfl) hH hF
                    · rw [if_pos c_51] at hF
                      refine lv_aload_n hx hb dX13_isAhead_139 rfl (lv_at hl 2 rfl) ?_
                      refine mg_18 hC hH dX13_isAhead_140 ?_
                      refine lv_bipush (v := 40) hx hb dX13_isAhead_143 (by decide) ?_
                      refine lv_iload_n hx hb dX13_isAhead_145 rfl (lv_at hl 3 rfl) ?_
                      refine lv_imul hx hb dX13_isAhead_146 ?_
                      refine lv_iload hx hb dX13_isAhead_147 (lv_at hl 6 rfl) ?_
                      refine lv_iadd hx hb dX13_isAhead_149 ?_
                      obtain ⟨g_54, hF⟩ := og_some hF
                      refine ml_18 hC hH g_54 dX13_isAhead_150 ?_
                      refine lv_iload_n hx hb dX13_isAhead_151 rfl (lv_at hl 4 rfl) ?_
                      refine lv_icmp_ne (tgt := 159) hx hb dX13_isAhead_152 (by decide) (fun c_55 => ?_) (fun c_55 => ?_)
                      · rw [if_neg c_55] at hF
                        refine lv_iconst (v := 0) hx hb dX13_isAhead_159 (by decide) ?_
                        exact mr_z hC hH hr rfl hF dX13_isAhead_160 hlocks
                      · rw [if_pos c_55] at hF
                        refine lv_iconst (v := 1) hx hb dX13_isAhead_155 (by decide) ?_
                        refine lv_goto (tgt := 160) hx hb dX13_isAhead_156 (by decide) ?_
                        exact mr_z hC hH hr rfl hF dX13_isAhead_160 hlocks
        refine hL85 _ (fun v1 v2 v3 v4 u H locs ls hl hH hF => ?_) fuel a0 a1 a2 0 u_16 _ _ _ (lv_sub hl [1, 2, 3, 4, 0] rfl) hH hF
        refine lv_aload_n hx hb dX13_isAhead_167 rfl (lv_at hl 0 rfl) ?_
        refine mg_7 hC hH dX13_isAhead_168 ?_
        refine lv_iload_n hx hb dX13_isAhead_171 rfl (lv_at hl 2 rfl) ?_
        obtain ⟨g_56, hF⟩ := og_some hF
        refine ml_7 hC hH g_56 dX13_isAhead_172 ?_
        refine lv_aload_n hx hb dX13_isAhead_173 rfl (lv_at hl 0 rfl) ?_
        refine mg_7 hC hH dX13_isAhead_174 ?_
        refine lv_iload_n hx hb dX13_isAhead_177 rfl (lv_at hl 3 rfl) ?_
        obtain ⟨g_57, hF⟩ := og_some hF
        refine ml_7 hC hH g_57 dX13_isAhead_178 ?_
        refine lv_icmp_eq (tgt := 205) hx hb dX13_isAhead_179 (by decide) (fun c_58 => ?_) (fun c_58 => ?_)
        · rw [if_pos c_58] at hF
          refine lv_iload_n hx hb dX13_isAhead_205 rfl (lv_at hl 2 rfl) ?_
          refine lv_iload_n hx hb dX13_isAhead_206 rfl (lv_at hl 3 rfl) ?_
          refine lv_icmp_ge (tgt := 214) hx hb dX13_isAhead_207 (by decide) (fun c_59 => ?_) (fun c_59 => ?_)
          · rw [if_pos c_59] at hF
            refine lv_iconst (v := 0) hx hb dX13_isAhead_214 (by decide) ?_
            exact mr_z hC hH hr rfl hF dX13_isAhead_215 hlocks
          · rw [if_neg c_59] at hF
            refine lv_iconst (v := 1) hx hb dX13_isAhead_210 (by decide) ?_
            refine lv_goto (tgt := 215) hx hb dX13_isAhead_211 (by decide) ?_
            exact mr_z hC hH hr rfl hF dX13_isAhead_215 hlocks
        · rw [if_neg c_58] at hF
          refine lv_aload_n hx hb dX13_isAhead_182 rfl (lv_at hl 0 rfl) ?_
          refine mg_7 hC hH dX13_isAhead_183 ?_
          refine lv_iload_n hx hb dX13_isAhead_186 rfl (lv_at hl 2 rfl) ?_
          obtain ⟨g_60, hF⟩ := og_some hF
          refine ml_7 hC hH g_60 dX13_isAhead_187 ?_
          refine lv_aload_n hx hb dX13_isAhead_188 rfl (lv_at hl 0 rfl) ?_
          refine mg_7 hC hH dX13_isAhead_189 ?_
          refine lv_iload_n hx hb dX13_isAhead_192 rfl (lv_at hl 3 rfl) ?_
          obtain ⟨g_61, hF⟩ := og_some hF
          refine ml_7 hC hH g_61 dX13_isAhead_193 ?_
          refine lv_icmp_ge (tgt := 201) hx hb dX13_isAhead_194 (by decide) (fun c_62 => ?_) (fun c_62 => ?_)
          · rw [if_pos c_62] at hF
            refine lv_iconst (v := 0) hx hb dX13_isAhead_201 (by decide) ?_
            refine lv_goto (tgt := 215) hx hb dX13_isAhead_202 (by decide) ?_
            exact mr_z hC hH hr rfl hF dX13_isAhead_215 hlocks
          · rw [if_neg c_62] at hF
            refine lv_iconst (v := 1) hx hb dX13_isAhead_197 (by decide) ?_
            refine lv_goto (tgt := 215) hx hb dX13_isAhead_198 (by decide) ?_
            exact mr_z hC hH hr rfl hF dX13_isAhead_215 hlocks
    · rw [if_neg c_14] at hF
      refine lv_aload_n hx hb dX13_isAhead_51 rfl (lv_at hl 0 rfl) ?_
      refine lv_iload_n hx hb dX13_isAhead_52 rfl (lv_at hl 1 rfl) ?_
      refine lv_iload_n hx hb dX13_isAhead_53 rfl (lv_at hl 2 rfl) ?_
      obtain ⟨r_63, u_64, h_65, hF⟩ := ob_some hF
      refine mcV_i (As := [.int a0, .int a1]) (rest := []) hC hH (m_sum l G Z Q u_12 u_64 r_63 a0 a1 _ h_65) kwX13_sum kVX13_sum ⟨Nat.le_of_ble_eq_true rfl, Nat.le_of_ble_eq_true rfl⟩ rfl hl.1 rfl (Nat.le_of_ble_eq_true rfl) dX13_isAhead_54 (fun H locs hH => ?_)
      refine lv_aload_n hx hb dX13_isAhead_57 rfl (lv_at hl 0 rfl) ?_
      refine lv_iload_n hx hb dX13_isAhead_58 rfl (lv_at hl 1 rfl) ?_
      refine lv_iload_n hx hb dX13_isAhead_59 rfl (lv_at hl 3 rfl) ?_
      obtain ⟨r_66, u_67, h_68, hF⟩ := ob_some hF
      refine mcV_i (As := [.int a0, .int a2]) (rest := [.int r_63]) hC hH (m_sum l G Z Q u_64 u_67 r_66 a0 a2 _ h_68) kwX13_sum kVX13_sum ⟨Nat.le_of_ble_eq_true rfl, Nat.le_of_ble_eq_true rfl⟩ rfl hl.1 rfl (Nat.le_of_ble_eq_true rfl) dX13_isAhead_60 (fun H locs hH => ?_)
      refine lv_icmp_le (tgt := 70) hx hb dX13_isAhead_63 (by decide) (fun c_69 => ?_) (fun c_69 => ?_)
      · rw [if_pos c_69] at hF
        refine lv_iconst (v := 0) hx hb dX13_isAhead_70 (by decide) ?_
        exact mr_z hC hH hr rfl hF dX13_isAhead_71 hlocks
      · rw [if_neg c_69] at hF
        refine lv_iconst (v := 1) hx hb dX13_isAhead_66 (by decide) ?_
        refine lv_goto (tgt := 71) hx hb dX13_isAhead_67 (by decide) ?_
        exact mr_z hC hH hr rfl hF dX13_isAhead_71 hlocks
  · rw [if_neg c_7] at hF
    refine lv_aload_n hx hb dX13_isAhead_15 rfl (lv_at hl 0 rfl) ?_
    refine lv_iload_n hx hb dX13_isAhead_16 rfl (lv_at hl 1 rfl) ?_
    refine lv_iload_n hx hb dX13_isAhead_17 rfl (lv_at hl 2 rfl) ?_
    obtain ⟨r_70, u_71, h_72, hF⟩ := ob_some hF
    refine mcV_i (As := [.int a0, .int a1]) (rest := []) hC hH (m_won l G Z Q u_5 u_71 r_70 a0 a1 _ h_72) kwX13_won kVX13_won ⟨Nat.le_of_ble_eq_true rfl, Nat.le_of_ble_eq_true rfl⟩ rfl hl.1 rfl (Nat.le_of_ble_eq_true rfl) dX13_isAhead_18 (fun H locs hH => ?_)
    refine lv_aload_n hx hb dX13_isAhead_21 rfl (lv_at hl 0 rfl) ?_
    refine lv_iload_n hx hb dX13_isAhead_22 rfl (lv_at hl 1 rfl) ?_
    refine lv_iload_n hx hb dX13_isAhead_23 rfl (lv_at hl 3 rfl) ?_
    obtain ⟨r_73, u_74, h_75, hF⟩ := ob_some hF
    refine mcV_i (As := [.int a0, .int a2]) (rest := [.int r_70]) hC hH (m_won l G Z Q u_71 u_74 r_73 a0 a2 _ h_75) kwX13_won kVX13_won ⟨Nat.le_of_ble_eq_true rfl, Nat.le_of_ble_eq_true rfl⟩ rfl hl.1 rfl (Nat.le_of_ble_eq_true rfl) dX13_isAhead_24 (fun H locs hH => ?_)
    refine lv_icmp_le (tgt := 34) hx hb dX13_isAhead_27 (by decide) (fun c_76 => ?_) (fun c_76 => ?_)
    · rw [if_pos c_76] at hF
      refine lv_iconst (v := 0) hx hb dX13_isAhead_34 (by decide) ?_
      exact mr_z hC hH hr rfl hF dX13_isAhead_35 hlocks
    · rw [if_neg c_76] at hF
      refine lv_iconst (v := 1) hx hb dX13_isAhead_30 (by decide) ?_
      refine lv_goto (tgt := 35) hx hb dX13_isAhead_31 (by decide) ?_
      exact mr_z hC hH hr rfl hF dX13_isAhead_35 hlocks
def lp_ordered_31 : Nat → Int32 → Int32 → Int32 → Int32 → Int32 → Int32 → MS → (Int32 → Int32 → Int32 → Int32 → Int32 → Int32 → MS → Option (Int32 × MS)) → Option (Int32 × MS)
  | 0, _, _, _, _, _, _, _, _ => none
  | n31 + 1, v1, v2, v3, v4, v5, v6, u, K31_86 => og (gi v1 4) ((if (ra u 13 v1) ≤ v6 then K31_86 v1 v2 v3 v4 v5 v6 u else (if v6 = v3 then li (v5 + 0) (fun x_9 => li (v6 + 1) (fun x_11 => lp_ordered_31 n31 v1 v2 v3 v4 x_9 x_11 u K31_86)) else og (gi ((32 * v1) + v6) 128) (ob (f_isAhead v1 (ra u 14 ((32 * v1) + v6)) v4 u) (fun r_14 u_15 => (if r_14 = 0 then li (v5 + 0) (fun x_18 => li (v6 + 1) (fun x_20 => lp_ordered_31 n31 v1 v2 v3 v4 x_18 x_20 u_15 K31_86)) else li (v5 + 1) (fun x_22 => li (v6 + 1) (fun x_24 => lp_ordered_31 n31 v1 v2 v3 v4 x_22 x_24 u_15 K31_86))))))))
def lp_ordered_2 : Nat → Int32 → Int32 → Int32 → MS → (Int32 → Int32 → Int32 → MS → Option (Int32 × MS)) → Option (Int32 × MS)
  | 0, _, _, _, _, _ => none
  | n2 + 1, v1, v2, v3, u, K2_101 => og (gi v1 4) ((if (ra u 13 v1) ≤ v3 then K2_101 v1 v2 v3 u else og (gi ((32 * v1) + v3) 128) (li (ra u 14 ((32 * v1) + v3)) (fun x_4 => lp_ordered_31 fuel v1 v2 v3 x_4 0 0 u (fun v1 v2 v3 v4 v5 v6 u => (if v5 = v2 then some (v4, u) else li (v3 + 1) (fun x_27 => lp_ordered_2 n2 v1 v2 x_27 u K2_101)))))))
def f_ordered (a0 : Int32) (a1 : Int32) (u : MS) : Option (Int32 × MS) := lp_ordered_2 fuel a0 a1 0 u (fun v1 v2 v3 u => some (-1, u))
set_option maxHeartbeats 4000000 in
set_option maxRecDepth 100000 in
theorem m_ordered (l : Launch) (G : gG) (Z : gM) (Q : Nat → Nat) (u u1 : MS) (r : Int32) (a0 : Int32) (a1 : Int32) (sz : Nat) (hF : f_ordered a0 a1 u = some (r, u1)) : Met l yX13_ordered (Cond.code yX13_ordered cX13_ordered 7 (some .int) :: wM) { frames := 310, cells := 0, slots := 0, locals := 3812 } (va_Pc [.ref (Q 72), .int a0, .int a1] (mPM G Z Q u sz)) (mQi G Q u1 r sz) 0 0 (mA Q sz) := by
  refine Met.ofW (cc := cX13_ordered) (maxL := 7) (ret := (some .int)) (by decide) rfl ?_
  intro p e s m args below meth c s₁ B hml hv
  obtain ⟨rfl, rfl, hP, hB, hD, hE⟩ := hv
  have hr := B.returns
  have hlocks := B.notSynchronized
  have hts := atoms_spec (ws := Cond.code yX13_ordered cX13_ordered 7 (some .int) :: wM) B.pre
  have hC : mX p c cX13_ordered 7 s m _ G Z Q := ⟨B.exec, B.bytes, hml, findClass_of_methodNamed B.named, fun w h => hts w (List.mem_cons_of_mem _ h), hB, hE⟩
  have hx := hC.1
  have hb := hC.2.1
  have hH : mH G Q u s s.heap [] := ⟨hP, hD, va_S.rf⟩
  have hl := lv_entry ([.ref (Q 72), .int a0, .int a1]) (n := 7) (Nat.le_of_ble_eq_true rfl)
  rw [lg_entry_eq]
  generalize (lg_sl ([.ref (Q 72), .int a0, .int a1]) ++ List.replicate (7 - (lg_sl ([.ref (Q 72), .int a0, .int a1])).length) Slot.unset).toArray = ls at hl ⊢
  have hl : lv_has ls 7 [(0, .ref (Q 72)), (1, .int a0), (2, .int a1)] := hl
  unfold f_ordered at hF
  refine lv_iconst (v := 0) hx hb dX13_ordered_0 (by decide) ?_
  refine lv_istore_n (lv' := [(3, .int 0), (0, .ref (Q 72)), (1, .int a0), (2, .int a1)]) hx hb dX13_ordered_1 rfl hl (by decide) rfl (fun ls hl => ?_)
  have hL2 : ∀ (K2_101 : Int32 → Int32 → Int32 → MS → Option (Int32 × MS)), (∀ (v1 v2 v3 : Int32) (u : MS) (H : Heap) (locs : List Loc) (ls : Array Slot), lv_has ls 7 [(0, .ref (Q 72)), (1, .int v1), (2, .int v2), (3, .int v3)] → mH G Q u s H locs → K2_101 v1 v2 v3 u = some ((r, u1)) → W p l e (headSpec (Cond.code yX13_ordered cX13_ordered 7 (some .int) :: wM) { frames := 310, cells := 0, slots := 0, locals := 3812 }).room s m [.ref (Q 72), .int a0, .int a1].toArray below meth c H locs 0 0 (MQ below (mQi G Q u1 r s.heap.size) [.ref (Q 72), .int a0, .int a1].toArray s 0 0 (mA Q s.heap.size)) (F0 m 101 ls [])) → ∀ (n2 : Nat) (v1 v2 v3 : Int32) (u : MS) (H : Heap) (locs : List Loc) (ls : Array Slot), lv_has ls 7 [(0, .ref (Q 72)), (1, .int v1), (2, .int v2), (3, .int v3)] → mH G Q u s H locs → lp_ordered_2 n2 v1 v2 v3 u K2_101 = some ((r, u1)) → W p l e (headSpec (Cond.code yX13_ordered cX13_ordered 7 (some .int) :: wM) { frames := 310, cells := 0, slots := 0, locals := 3812 }).room s m [.ref (Q 72), .int a0, .int a1].toArray below meth c H locs 0 0 (MQ below (mQi G Q u1 r s.heap.size) [.ref (Q 72), .int a0, .int a1].toArray s 0 0 (mA Q s.heap.size)) (F0 m 2 ls []) := by
    intro K2_101 hK2_101 n2
    induction n2 with
    | zero => intro v1 v2 v3 u H locs ls hl hH hF; cases hF
    | succ n2 ih2 =>
      intro v1 v2 v3 u H locs ls hl hH hF
      unfold lp_ordered_2 at hF
      refine lv_iload_n hx hb dX13_ordered_2 rfl (lv_at hl 3 rfl) ?_
      refine lv_aload_n hx hb dX13_ordered_3 rfl (lv_at hl 0 rfl) ?_
      refine mg_13 hC hH dX13_ordered_4 ?_
      refine lv_iload_n hx hb dX13_ordered_7 rfl (lv_at hl 1 rfl) ?_
      obtain ⟨g_1, hF⟩ := og_some hF
      refine ml_13 hC hH g_1 dX13_ordered_8 ?_
      refine lv_icmp_ge (tgt := 101) hx hb dX13_ordered_9 (by decide) (fun c_2 => ?_) (fun c_2 => ?_)
      · rw [if_pos c_2] at hF
        exact hK2_101 v1 v2 v3 u _ _ _ (lv_sub hl [0, 1, 2, 3] rfl) hH hF
      · rw [if_neg c_2] at hF
        refine lv_aload_n hx hb dX13_ordered_12 rfl (lv_at hl 0 rfl) ?_
        refine mg_14 hC hH dX13_ordered_13 ?_
        refine lv_bipush (v := 32) hx hb dX13_ordered_16 (by decide) ?_
        refine lv_iload_n hx hb dX13_ordered_18 rfl (lv_at hl 1 rfl) ?_
        refine lv_imul hx hb dX13_ordered_19 ?_
        refine lv_iload_n hx hb dX13_ordered_20 rfl (lv_at hl 3 rfl) ?_
        refine lv_iadd hx hb dX13_ordered_21 ?_
        obtain ⟨g_3, hF⟩ := og_some hF
        refine ml_14 hC hH g_3 dX13_ordered_22 ?_
        obtain ⟨x_4, e_5, hF⟩ := li_some hF
        refine gx_ti e_5 ?_
        refine lv_istore (lv' := [(4, .int x_4), (0, .ref (Q 72)), (1, .int v1), (2, .int v2), (3, .int v3)]) hx hb dX13_ordered_23 hl (by decide) rfl (fun ls hl => ?_)
        refine lv_iconst (v := 0) hx hb dX13_ordered_25 (by decide) ?_
        refine lv_istore (lv' := [(5, .int 0), (4, .int x_4), (0, .ref (Q 72)), (1, .int v1), (2, .int v2), (3, .int v3)]) hx hb dX13_ordered_26 hl (by decide) rfl (fun ls hl => ?_)
        refine lv_iconst (v := 0) hx hb dX13_ordered_28 (by decide) ?_
        refine lv_istore (lv' := [(6, .int 0), (5, .int 0), (4, .int x_4), (0, .ref (Q 72)), (1, .int v1), (2, .int v2), (3, .int v3)]) hx hb dX13_ordered_29 hl (by decide) rfl (fun ls hl => ?_)
        have hL31 : ∀ (K31_86 : Int32 → Int32 → Int32 → Int32 → Int32 → Int32 → MS → Option (Int32 × MS)), (∀ (v1 v2 v3 v4 v5 v6 : Int32) (u : MS) (H : Heap) (locs : List Loc) (ls : Array Slot), lv_has ls 7 [(0, .ref (Q 72)), (1, .int v1), (2, .int v2), (3, .int v3), (4, .int v4), (5, .int v5), (6, .int v6)] → mH G Q u s H locs → K31_86 v1 v2 v3 v4 v5 v6 u = some ((r, u1)) → W p l e (headSpec (Cond.code yX13_ordered cX13_ordered 7 (some .int) :: wM) { frames := 310, cells := 0, slots := 0, locals := 3812 }).room s m [.ref (Q 72), .int a0, .int a1].toArray below meth c H locs 0 0 (MQ below (mQi G Q u1 r s.heap.size) [.ref (Q 72), .int a0, .int a1].toArray s 0 0 (mA Q s.heap.size)) (F0 m 86 ls [])) → ∀ (n31 : Nat) (v1 v2 v3 v4 v5 v6 : Int32) (u : MS) (H : Heap) (locs : List Loc) (ls : Array Slot), lv_has ls 7 [(0, .ref (Q 72)), (1, .int v1), (2, .int v2), (3, .int v3), (4, .int v4), (5, .int v5), (6, .int v6)] → mH G Q u s H locs → lp_ordered_31 n31 v1 v2 v3 v4 v5 v6 u K31_86 = some ((r, u1)) → W p l e (headSpec (Cond.code yX13_ordered cX13_ordered 7 (some .int) :: wM) { frames := 310, cells := 0, slots := 0, locals := 3812 }).room s m [.ref (Q 72), .int a0, .int a1].toArray below meth c H locs 0 0 (MQ below (mQi G Q u1 r s.heap.size) [.ref (Q 72), .int a0, .int a1].toArray s 0 0 (mA Q s.heap.size)) (F0 m 31 ls []) := by
          intro K31_86 hK31_86 n31
          induction n31 with
          | zero => intro v1 v2 v3 v4 v5 v6 u H locs ls hl hH hF; cases hF
          | succ n31 ih31 =>
            intro v1 v2 v3 v4 v5 v6 u H locs ls hl hH hF
            unfold lp_ordered_31 at hF
            refine lv_iload hx hb dX13_ordered_31 (lv_at hl 6 rfl) ?_
            refine lv_aload_n hx hb dX13_ordered_33 rfl (lv_at hl 0 rfl) ?_
            refine mg_13 hC hH dX13_ordered_34 ?_
            refine lv_iload_n hx hb dX13_ordered_37 rfl (lv_at hl 1 rfl) ?_
            obtain ⟨g_6, hF⟩ := og_some hF
            refine ml_13 hC hH g_6 dX13_ordered_38 ?_
            refine lv_icmp_ge (tgt := 86) hx hb dX13_ordered_39 (by decide) (fun c_7 => ?_) (fun c_7 => ?_)
            · rw [if_pos c_7] at hF
              exact hK31_86 v1 v2 v3 v4 v5 v6 u _ _ _ (lv_sub hl [0, 1, 2, 3, 4, 5, 6] rfl) hH hF
            · rw [if_neg c_7] at hF
              refine lv_iload hx hb dX13_ordered_42 (lv_at hl 5 rfl) ?_
              refine lv_iload hx hb dX13_ordered_44 (lv_at hl 6 rfl) ?_
              refine lv_iload_n hx hb dX13_ordered_46 rfl (lv_at hl 3 rfl) ?_
              refine lv_icmp_eq (tgt := 76) hx hb dX13_ordered_47 (by decide) (fun c_8 => ?_) (fun c_8 => ?_)
              · rw [if_pos c_8] at hF
                refine lv_iconst (v := 0) hx hb dX13_ordered_76 (by decide) ?_
                refine lv_iadd hx hb dX13_ordered_77 ?_
                obtain ⟨x_9, e_10, hF⟩ := li_some hF
                refine gx_ti e_10 ?_
                refine lv_istore (lv' := [(5, .int x_9), (0, .ref (Q 72)), (1, .int v1), (2, .int v2), (3, .int v3), (4, .int v4), (6, .int v6)]) hx hb dX13_ordered_78 hl (by decide) rfl (fun ls hl => ?_)
                obtain ⟨x_11, e_12, hF⟩ := li_some hF
                refine lv_iinc (v := x_11) (lv' := [(6, .int x_11), (5, .int x_9), (0, .ref (Q 72)), (1, .int v1), (2, .int v2), (3, .int v3), (4, .int v4)]) hx hb dX13_ordered_80 hl (k := 6) rfl e_12 (by decide) rfl (fun ls hl => ?_)
                refine lv_goto (tgt := 31) hx hb dX13_ordered_83 (by decide) ?_
                exact ih31 v1 v2 v3 v4 x_9 x_11 u _ _ _ (lv_sub hl [2, 3, 4, 5, 6, 1, 0] rfl) hH hF
              · rw [if_neg c_8] at hF
                refine lv_aload_n hx hb dX13_ordered_50 rfl (lv_at hl 0 rfl) ?_
                refine lv_iload_n hx hb dX13_ordered_51 rfl (lv_at hl 1 rfl) ?_
                refine lv_aload_n hx hb dX13_ordered_52 rfl (lv_at hl 0 rfl) ?_
                refine mg_14 hC hH dX13_ordered_53 ?_
                refine lv_bipush (v := 32) hx hb dX13_ordered_56 (by decide) ?_
                refine lv_iload_n hx hb dX13_ordered_58 rfl (lv_at hl 1 rfl) ?_
                refine lv_imul hx hb dX13_ordered_59 ?_
                refine lv_iload hx hb dX13_ordered_60 (lv_at hl 6 rfl) ?_
                refine lv_iadd hx hb dX13_ordered_62 ?_
                obtain ⟨g_13, hF⟩ := og_some hF
                refine ml_14 hC hH g_13 dX13_ordered_63 ?_
                refine lv_iload hx hb dX13_ordered_64 (lv_at hl 4 rfl) ?_
                obtain ⟨r_14, u_15, h_16, hF⟩ := ob_some hF
                refine mcV_i (As := [.int v1, .int (ra u 14 ((32 * v1) + v6)), .int v4]) (rest := [.int v5]) hC hH (m_isAhead l G Z Q u u_15 r_14 v1 (ra u 14 ((32 * v1) + v6)) v4 _ h_16) kwX13_isAhead kVX13_isAhead ⟨Nat.le_of_ble_eq_true rfl, Nat.le_of_ble_eq_true rfl⟩ rfl hl.1 rfl (Nat.le_of_ble_eq_true rfl) dX13_ordered_66 (fun H locs hH => ?_)
                refine lv_if_eq (tgt := 76) hx hb dX13_ordered_69 (by decide) (fun c_17 => ?_) (fun c_17 => ?_)
                · rw [if_pos c_17] at hF
                  refine lv_iconst (v := 0) hx hb dX13_ordered_76 (by decide) ?_
                  refine lv_iadd hx hb dX13_ordered_77 ?_
                  obtain ⟨x_18, e_19, hF⟩ := li_some hF
                  refine gx_ti e_19 ?_
                  refine lv_istore (lv' := [(5, .int x_18), (0, .ref (Q 72)), (1, .int v1), (2, .int v2), (3, .int v3), (4, .int v4), (6, .int v6)]) hx hb dX13_ordered_78 hl (by decide) rfl (fun ls hl => ?_)
                  obtain ⟨x_20, e_21, hF⟩ := li_some hF
                  refine lv_iinc (v := x_20) (lv' := [(6, .int x_20), (5, .int x_18), (0, .ref (Q 72)), (1, .int v1), (2, .int v2), (3, .int v3), (4, .int v4)]) hx hb dX13_ordered_80 hl (k := 6) rfl e_21 (by decide) rfl (fun ls hl => ?_)
                  refine lv_goto (tgt := 31) hx hb dX13_ordered_83 (by decide) ?_
                  exact ih31 v1 v2 v3 v4 x_18 x_20 u_15 _ _ _ (lv_sub hl [2, 3, 4, 5, 6, 1, 0] rfl) hH hF
                · rw [if_neg c_17] at hF
                  refine lv_iconst (v := 1) hx hb dX13_ordered_72 (by decide) ?_
                  refine lv_goto (tgt := 77) hx hb dX13_ordered_73 (by decide) ?_
                  refine lv_iadd hx hb dX13_ordered_77 ?_
                  obtain ⟨x_22, e_23, hF⟩ := li_some hF
                  refine gx_ti e_23 ?_
                  refine lv_istore (lv' := [(5, .int x_22), (0, .ref (Q 72)), (1, .int v1), (2, .int v2), (3, .int v3), (4, .int v4), (6, .int v6)]) hx hb dX13_ordered_78 hl (by decide) rfl (fun ls hl => ?_)
                  obtain ⟨x_24, e_25, hF⟩ := li_some hF
                  refine lv_iinc (v := x_24) (lv' := [(6, .int x_24), (5, .int x_22), (0, .ref (Q 72)), (1, .int v1), (2, .int v2), (3, .int v3), (4, .int v4)]) hx hb dX13_ordered_80 hl (k := 6) rfl e_25 (by decide) rfl (fun ls hl => ?_)
                  refine lv_goto (tgt := 31) hx hb dX13_ordered_83 (by decide) ?_
                  exact ih31 v1 v2 v3 v4 x_22 x_24 u_15 _ _ _ (lv_sub hl [2, 3, 4, 5, 6, 1, 0] rfl) hH hF
        refine hL31 _ (fun v1 v2 v3 v4 v5 v6 u H locs ls hl hH hF => ?_) fuel v1 v2 v3 x_4 0 0 u _ _ _ (lv_sub hl [3, 4, 5, 6, 2, 1, 0] rfl) hH hF
        refine lv_iload hx hb dX13_ordered_86 (lv_at hl 5 rfl) ?_
        refine lv_iload_n hx hb dX13_ordered_88 rfl (lv_at hl 2 rfl) ?_
        refine lv_icmp_ne (tgt := 95) hx hb dX13_ordered_89 (by decide) (fun c_26 => ?_) (fun c_26 => ?_)
        · rw [if_neg c_26] at hF
          obtain ⟨x_27, e_28, hF⟩ := li_some hF
          refine lv_iinc (v := x_27) (lv' := [(3, .int x_27), (0, .ref (Q 72)), (1, .int v1), (2, .int v2), (4, .int v4), (5, .int v5), (6, .int v6)]) hx hb dX13_ordered_95 hl (k := 3) rfl e_28 (by decide) rfl (fun ls hl => ?_)
          refine lv_goto (tgt := 2) hx hb dX13_ordered_98 (by decide) ?_
          exact ih2 v1 v2 x_27 u _ _ _ (lv_sub hl [1, 2, 3, 0] rfl) hH hF
        · rw [if_pos c_26] at hF
          refine lv_iload hx hb dX13_ordered_92 (lv_at hl 4 rfl) ?_
          exact mr_i hC hH hr hF dX13_ordered_94 hlocks
  refine hL2 _ (fun v1 v2 v3 u H locs ls hl hH hF => ?_) fuel a0 a1 0 u _ _ _ (lv_sub hl [1, 2, 3, 0] rfl) hH hF
  refine lv_iconst (v := (-1)) hx hb dX13_ordered_101 (by decide) ?_
  exact mr_i hC hH hr hF dX13_ordered_102 hlocks
def f_medal (a0 : Int32) (a1 : Int32) (u : MS) : Option (Int32 × MS) := ob (f_isClass a0 u) (fun r_1 u_2 => (if r_1 = 0 then some (-1, u_2) else og (gi a0 4) ((if (ra u_2 12 a0) = 0 then some (-1, u_2) else (if 0 ≤ a1 then og (gi a0 4) ((if (ra u_2 12 a0) = 1 then og (gi a0 4) ((if (ra u_2 13 a0) ≤ a1 then some (-1, u_2) else ob (f_about a0 5 u_2) (fun r_48 u_49 => ob (f_fights a0 u_49) (fun r_51 u_52 => (if r_48 = r_51 then ob (f_ordered a0 a1 u_52) (fun r_55 u_56 => some (r_55, u_56)) else some (-1, u_52)))))) else (if a1 ≤ 3 then (if a1 ≤ 1 then ob (f_finalOf a0 u_2) (fun r_12 u_13 => ob (fS 24 3 a0 r_12 0 0 u_13) (fun r_15 u_16 => (if r_15 = (-1) then some (r_15, u_16) else (if a1 = 0 then some (r_15, u_16) else ob (f_finalOf a0 u_16) (fun r_20 u_21 => ob (fS 24 0 a0 r_20 0 0 u_21) (fun r_23 u_24 => (if r_23 = r_15 then ob (f_finalOf a0 u_24) (fun r_33 u_34 => ob (fS 24 0 a0 r_33 1 0 u_34) (fun r_36 u_37 => some (r_36, u_37))) else ob (f_finalOf a0 u_24) (fun r_27 u_28 => ob (fS 24 0 a0 r_27 0 0 u_28) (fun r_30 u_31 => some (r_30, u_31)))))))))) else og (gi a0 4) (ob (f_rounds a0 u_2) (fun r_40 u_41 => ob (fS 24 3 a0 (((ra u_2 13 a0) - 2) + ((a1 - 1) * (r_40 - 1))) 0 0 u_41) (fun r_43 u_44 => some (r_43, u_44))))) else some (-1, u_2)))) else some (-1, u_2))))))
set_option maxHeartbeats 4000000 in
set_option maxRecDepth 100000 in
theorem m_medal (l : Launch) (G : gG) (Z : gM) (Q : Nat → Nat) (u u1 : MS) (r : Int32) (a0 : Int32) (a1 : Int32) (sz : Nat) (hF : f_medal a0 a1 u = some (r, u1)) : Met l yX13_medal (Cond.code yX13_medal cX13_medal 4 (some .int) :: wM) { frames := 311, cells := 0, slots := 0, locals := 3838 } (va_Pc [.ref (Q 72), .int a0, .int a1] (mPM G Z Q u sz)) (mQi G Q u1 r sz) 0 0 (mA Q sz) := by
  refine Met.ofW (cc := cX13_medal) (maxL := 4) (ret := (some .int)) (by decide) rfl ?_
  intro p e s m args below meth c s₁ B hml hv
  obtain ⟨rfl, rfl, hP, hB, hD, hE⟩ := hv
  have hr := B.returns
  have hlocks := B.notSynchronized
  have hts := atoms_spec (ws := Cond.code yX13_medal cX13_medal 4 (some .int) :: wM) B.pre
  have hC : mX p c cX13_medal 4 s m _ G Z Q := ⟨B.exec, B.bytes, hml, findClass_of_methodNamed B.named, fun w h => hts w (List.mem_cons_of_mem _ h), hB, hE⟩
  have hx := hC.1
  have hb := hC.2.1
  have hH : mH G Q u s s.heap [] := ⟨hP, hD, va_S.rf⟩
  have hl := lv_entry ([.ref (Q 72), .int a0, .int a1]) (n := 4) (Nat.le_of_ble_eq_true rfl)
  rw [lg_entry_eq]
  generalize (lg_sl ([.ref (Q 72), .int a0, .int a1]) ++ List.replicate (4 - (lg_sl ([.ref (Q 72), .int a0, .int a1])).length) Slot.unset).toArray = ls at hl ⊢
  have hl : lv_has ls 4 [(0, .ref (Q 72)), (1, .int a0), (2, .int a1)] := hl
  unfold f_medal at hF
  refine lv_iload_n hx hb dX13_medal_0 rfl (lv_at hl 1 rfl) ?_
  obtain ⟨r_1, u_2, h_3, hF⟩ := ob_some hF
  refine mcS_i (As := [.int a0]) (rest := []) hC hH (m_isClass l G Z Q u u_2 r_1 a0 _ h_3) kwX13_isClass kVX13_isClass ⟨Nat.le_of_ble_eq_true rfl, Nat.le_of_ble_eq_true rfl⟩ rfl hl.1 rfl (Nat.le_of_ble_eq_true rfl) dX13_medal_1 (fun H locs hH => ?_)
  refine lv_if_eq (tgt := 20) hx hb dX13_medal_4 (by decide) (fun c_4 => ?_) (fun c_4 => ?_)
  · rw [if_pos c_4] at hF
    refine lv_iconst (v := (-1)) hx hb dX13_medal_20 (by decide) ?_
    exact mr_i hC hH hr hF dX13_medal_21 hlocks
  · rw [if_neg c_4] at hF
    refine lv_aload_n hx hb dX13_medal_7 rfl (lv_at hl 0 rfl) ?_
    refine mg_12 hC hH dX13_medal_8 ?_
    refine lv_iload_n hx hb dX13_medal_11 rfl (lv_at hl 1 rfl) ?_
    obtain ⟨g_5, hF⟩ := og_some hF
    refine ml_12 hC hH g_5 dX13_medal_12 ?_
    refine lv_if_eq (tgt := 20) hx hb dX13_medal_13 (by decide) (fun c_6 => ?_) (fun c_6 => ?_)
    · rw [if_pos c_6] at hF
      refine lv_iconst (v := (-1)) hx hb dX13_medal_20 (by decide) ?_
      exact mr_i hC hH hr hF dX13_medal_21 hlocks
    · rw [if_neg c_6] at hF
      refine lv_iload_n hx hb dX13_medal_16 rfl (lv_at hl 2 rfl) ?_
      refine lv_if_ge (tgt := 22) hx hb dX13_medal_17 (by decide) (fun c_7 => ?_) (fun c_7 => ?_)
      · rw [if_pos c_7] at hF
        refine lv_aload_n hx hb dX13_medal_22 rfl (lv_at hl 0 rfl) ?_
        refine mg_12 hC hH dX13_medal_23 ?_
        refine lv_iload_n hx hb dX13_medal_26 rfl (lv_at hl 1 rfl) ?_
        obtain ⟨g_8, hF⟩ := og_some hF
        refine ml_12 hC hH g_8 dX13_medal_27 ?_
        refine lv_iconst (v := 1) hx hb dX13_medal_28 (by decide) ?_
        refine lv_icmp_ne (tgt := 67) hx hb dX13_medal_29 (by decide) (fun c_9 => ?_) (fun c_9 => ?_)
        · rw [if_neg c_9] at hF
          refine lv_iload_n hx hb dX13_medal_67 rfl (lv_at hl 2 rfl) ?_
          refine lv_iconst (v := 3) hx hb dX13_medal_68 (by decide) ?_
          refine lv_icmp_le (tgt := 74) hx hb dX13_medal_69 (by decide) (fun c_10 => ?_) (fun c_10 => ?_)
          · rw [if_pos c_10] at hF
            refine lv_iload_n hx hb dX13_medal_74 rfl (lv_at hl 2 rfl) ?_
            refine lv_iconst (v := 1) hx hb dX13_medal_75 (by decide) ?_
            refine lv_icmp_le (tgt := 105) hx hb dX13_medal_76 (by decide) (fun c_11 => ?_) (fun c_11 => ?_)
            · rw [if_pos c_11] at hF
              refine lv_aload_n hx hb dX13_medal_105 rfl (lv_at hl 0 rfl) ?_
              refine lv_iload_n hx hb dX13_medal_106 rfl (lv_at hl 1 rfl) ?_
              refine lv_aload_n hx hb dX13_medal_107 rfl (lv_at hl 0 rfl) ?_
              refine lv_iload_n hx hb dX13_medal_108 rfl (lv_at hl 1 rfl) ?_
              obtain ⟨r_12, u_13, h_14, hF⟩ := ob_some hF
              refine mcV_i (As := [.int a0]) (rest := [.int a0, .ref (Q 72)]) hC hH (m_finalOf l G Z Q u_2 u_13 r_12 a0 _ h_14) kwX13_finalOf kVX13_finalOf ⟨Nat.le_of_ble_eq_true rfl, Nat.le_of_ble_eq_true rfl⟩ rfl hl.1 rfl (Nat.le_of_ble_eq_true rfl) dX13_medal_109 (fun H locs hH => ?_)
              obtain ⟨r_15, u_16, h_17, hF⟩ := ob_some hF
              refine mcV_i (As := [.int a0, .int r_12]) (rest := []) hC hH (m_winnerOf l G Z Q u_13 u_16 r_15 a0 r_12 _ h_17) kwX13_winnerOf kVX13_winnerOf ⟨Nat.le_of_ble_eq_true rfl, Nat.le_of_ble_eq_true rfl⟩ rfl hl.1 rfl (Nat.le_of_ble_eq_true rfl) dX13_medal_112 (fun H locs hH => ?_)
              refine lv_istore_n (lv' := [(3, .int r_15), (0, .ref (Q 72)), (1, .int a0), (2, .int a1)]) hx hb dX13_medal_115 rfl hl (by decide) rfl (fun ls hl => ?_)
              refine lv_iload_n hx hb dX13_medal_116 rfl (lv_at hl 0 rfl) ?_
              refine lv_iconst (v := (-1)) hx hb dX13_medal_117 (by decide) ?_
              refine lv_icmp_eq (tgt := 125) hx hb dX13_medal_118 (by decide) (fun c_18 => ?_) (fun c_18 => ?_)
              · rw [if_pos c_18] at hF
                refine lv_iload_n hx hb dX13_medal_125 rfl (lv_at hl 0 rfl) ?_
                exact mr_i hC hH hr hF dX13_medal_126 hlocks
              · rw [if_neg c_18] at hF
                refine lv_iload_n hx hb dX13_medal_121 rfl (lv_at hl 3 rfl) ?_
                refine lv_if_ne (tgt := 127) hx hb dX13_medal_122 (by decide) (fun c_19 => ?_) (fun c_19 => ?_)
                · rw [if_neg c_19] at hF
                  refine lv_aload_n hx hb dX13_medal_127 rfl (lv_at hl 1 rfl) ?_
                  refine lv_iload_n hx hb dX13_medal_128 rfl (lv_at hl 2 rfl) ?_
                  refine lv_aload_n hx hb dX13_medal_129 rfl (lv_at hl 1 rfl) ?_
                  refine lv_iload_n hx hb dX13_medal_130 rfl (lv_at hl 2 rfl) ?_
                  obtain ⟨r_20, u_21, h_22, hF⟩ := ob_some hF
                  refine mcV_i (As := [.int a0]) (rest := [.int a0, .ref (Q 72)]) hC hH (m_finalOf l G Z Q u_16 u_21 r_20 a0 _ h_22) kwX13_finalOf kVX13_finalOf ⟨Nat.le_of_ble_eq_true rfl, Nat.le_of_ble_eq_true rfl⟩ rfl hl.1 rfl (Nat.le_of_ble_eq_true rfl) dX13_medal_131 (fun H locs hH => ?_)
                  refine lv_iconst (v := 0) hx hb dX13_medal_134 (by decide) ?_
                  obtain ⟨r_23, u_24, h_25, hF⟩ := ob_some hF
                  refine mcV_i (As := [.int a0, .int r_20, .int 0]) (rest := []) hC hH (m_sideOf l G Z Q u_21 u_24 r_23 a0 r_20 0 _ h_25) kwX13_sideOf kVX13_sideOf ⟨Nat.le_of_ble_eq_true rfl, Nat.le_of_ble_eq_true rfl⟩ rfl hl.1 rfl (Nat.le_of_ble_eq_true rfl) dX13_medal_135 (fun H locs hH => ?_)
                  refine lv_iload_n hx hb dX13_medal_138 rfl (lv_at hl 0 rfl) ?_
                  refine lv_icmp_ne (tgt := 156) hx hb dX13_medal_139 (by decide) (fun c_26 => ?_) (fun c_26 => ?_)
                  · rw [if_neg c_26] at hF
                    refine lv_aload_n hx hb dX13_medal_156 rfl (lv_at hl 1 rfl) ?_
                    refine lv_iload_n hx hb dX13_medal_157 rfl (lv_at hl 2 rfl) ?_
                    refine lv_aload_n hx hb dX13_medal_158 rfl (lv_at hl 1 rfl) ?_
                    refine lv_iload_n hx hb dX13_medal_159 rfl (lv_at hl 2 rfl) ?_
                    obtain ⟨r_27, u_28, h_29, hF⟩ := ob_some hF
                    refine mcV_i (As := [.int a0]) (rest := [.int a0, .ref (Q 72)]) hC hH (m_finalOf l G Z Q u_24 u_28 r_27 a0 _ h_29) kwX13_finalOf kVX13_finalOf ⟨Nat.le_of_ble_eq_true rfl, Nat.le_of_ble_eq_true rfl⟩ rfl hl.1 rfl (Nat.le_of_ble_eq_true rfl) dX13_medal_160 (fun H locs hH => ?_)
                    refine lv_iconst (v := 0) hx hb dX13_medal_163 (by decide) ?_
                    obtain ⟨r_30, u_31, h_32, hF⟩ := ob_some hF
                    refine mcV_i (As := [.int a0, .int r_27, .int 0]) (rest := []) hC hH (m_sideOf l G Z Q u_28 u_31 r_30 a0 r_27 0 _ h_32) kwX13_sideOf kVX13_sideOf ⟨Nat.le_of_ble_eq_true rfl, Nat.le_of_ble_eq_true rfl⟩ rfl hl.1 rfl (Nat.le_of_ble_eq_true rfl) dX13_medal_164 (fun H locs hH => ?_)
                    exact mr_i hC hH hr hF dX13_medal_167 hlocks
                  · rw [if_pos c_26] at hF
                    refine lv_aload_n hx hb dX13_medal_142 rfl (lv_at hl 1 rfl) ?_
                    refine lv_iload_n hx hb dX13_medal_143 rfl (lv_at hl 2 rfl) ?_
                    refine lv_aload_n hx hb dX13_medal_144 rfl (lv_at hl 1 rfl) ?_
                    refine lv_iload_n hx hb dX13_medal_145 rfl (lv_at hl 2 rfl) ?_
                    obtain ⟨r_33, u_34, h_35, hF⟩ := ob_some hF
                    refine mcV_i (As := [.int a0]) (rest := [.int a0, .ref (Q 72)]) hC hH (m_finalOf l G Z Q u_24 u_34 r_33 a0 _ h_35) kwX13_finalOf kVX13_finalOf ⟨Nat.le_of_ble_eq_true rfl, Nat.le_of_ble_eq_true rfl⟩ rfl hl.1 rfl (Nat.le_of_ble_eq_true rfl) dX13_medal_146 (fun H locs hH => ?_)
                    refine lv_iconst (v := 1) hx hb dX13_medal_149 (by decide) ?_
                    obtain ⟨r_36, u_37, h_38, hF⟩ := ob_some hF
                    refine mcV_i (As := [.int a0, .int r_33, .int 1]) (rest := []) hC hH (m_sideOf l G Z Q u_34 u_37 r_36 a0 r_33 1 _ h_38) kwX13_sideOf kVX13_sideOf ⟨Nat.le_of_ble_eq_true rfl, Nat.le_of_ble_eq_true rfl⟩ rfl hl.1 rfl (Nat.le_of_ble_eq_true rfl) dX13_medal_150 (fun H locs hH => ?_)
                    refine lv_goto (tgt := 167) hx hb dX13_medal_153 (by decide) ?_
                    exact mr_i hC hH hr hF dX13_medal_167 hlocks
                · rw [if_pos c_19] at hF
                  refine lv_iload_n hx hb dX13_medal_125 rfl (lv_at hl 0 rfl) ?_
                  exact mr_i hC hH hr hF dX13_medal_126 hlocks
            · rw [if_neg c_11] at hF
              refine lv_aload_n hx hb dX13_medal_79 rfl (lv_at hl 0 rfl) ?_
              refine lv_iload_n hx hb dX13_medal_80 rfl (lv_at hl 1 rfl) ?_
              refine lv_aload_n hx hb dX13_medal_81 rfl (lv_at hl 0 rfl) ?_
              refine mg_13 hC hH dX13_medal_82 ?_
              refine lv_iload_n hx hb dX13_medal_85 rfl (lv_at hl 1 rfl) ?_
              obtain ⟨g_39, hF⟩ := og_some hF
              refine ml_13 hC hH g_39 dX13_medal_86 ?_
              refine lv_iconst (v := 2) hx hb dX13_medal_87 (by decide) ?_
              refine lv_isub hx hb dX13_medal_88 ?_
              refine lv_iload_n hx hb dX13_medal_89 rfl (lv_at hl 2 rfl) ?_
              refine lv_iconst (v := 1) hx hb dX13_medal_90 (by decide) ?_
              refine lv_isub hx hb dX13_medal_91 ?_
              refine lv_aload_n hx hb dX13_medal_92 rfl (lv_at hl 0 rfl) ?_
              refine lv_iload_n hx hb dX13_medal_93 rfl (lv_at hl 1 rfl) ?_
              obtain ⟨r_40, u_41, h_42, hF⟩ := ob_some hF
              refine mcV_i (As := [.int a0]) (rest := [.int (a1 - 1), .int ((ra u_2 13 a0) - 2), .int a0, .ref (Q 72)]) hC hH (m_rounds l G Z Q u_2 u_41 r_40 a0 _ h_42) kwX13_rounds kVX13_rounds ⟨Nat.le_of_ble_eq_true rfl, Nat.le_of_ble_eq_true rfl⟩ rfl hl.1 rfl (Nat.le_of_ble_eq_true rfl) dX13_medal_94 (fun H locs hH => ?_)
              refine lv_iconst (v := 1) hx hb dX13_medal_97 (by decide) ?_
              refine lv_isub hx hb dX13_medal_98 ?_
              refine lv_imul hx hb dX13_medal_99 ?_
              refine lv_iadd hx hb dX13_medal_100 ?_
              obtain ⟨r_43, u_44, h_45, hF⟩ := ob_some hF
              refine mcV_i (As := [.int a0, .int (((ra u_2 13 a0) - 2) + ((a1 - 1) * (r_40 - 1)))]) (rest := []) hC hH (m_winnerOf l G Z Q u_41 u_44 r_43 a0 (((ra u_2 13 a0) - 2) + ((a1 - 1) * (r_40 - 1))) _ h_45) kwX13_winnerOf kVX13_winnerOf ⟨Nat.le_of_ble_eq_true rfl, Nat.le_of_ble_eq_true rfl⟩ rfl hl.1 rfl (Nat.le_of_ble_eq_true rfl) dX13_medal_101 (fun H locs hH => ?_)
              exact mr_i hC hH hr hF dX13_medal_104 hlocks
          · rw [if_neg c_10] at hF
            refine lv_iconst (v := (-1)) hx hb dX13_medal_72 (by decide) ?_
            exact mr_i hC hH hr hF dX13_medal_73 hlocks
        · rw [if_pos c_9] at hF
          refine lv_iload_n hx hb dX13_medal_32 rfl (lv_at hl 2 rfl) ?_
          refine lv_aload_n hx hb dX13_medal_33 rfl (lv_at hl 0 rfl) ?_
          refine mg_13 hC hH dX13_medal_34 ?_
          refine lv_iload_n hx hb dX13_medal_37 rfl (lv_at hl 1 rfl) ?_
          obtain ⟨g_46, hF⟩ := og_some hF
          refine ml_13 hC hH g_46 dX13_medal_38 ?_
          refine lv_icmp_ge (tgt := 65) hx hb dX13_medal_39 (by decide) (fun c_47 => ?_) (fun c_47 => ?_)
          · rw [if_pos c_47] at hF
            refine lv_iconst (v := (-1)) hx hb dX13_medal_65 (by decide) ?_
            exact mr_i hC hH hr hF dX13_medal_66 hlocks
          · rw [if_neg c_47] at hF
            refine lv_aload_n hx hb dX13_medal_42 rfl (lv_at hl 0 rfl) ?_
            refine lv_iload_n hx hb dX13_medal_43 rfl (lv_at hl 1 rfl) ?_
            refine lv_iconst (v := 5) hx hb dX13_medal_44 (by decide) ?_
            obtain ⟨r_48, u_49, h_50, hF⟩ := ob_some hF
            refine mcV_i (As := [.int a0, .int 5]) (rest := []) hC hH (m_about l G Z Q u_2 u_49 r_48 a0 5 _ h_50) kwX13_about kVX13_about ⟨Nat.le_of_ble_eq_true rfl, Nat.le_of_ble_eq_true rfl⟩ rfl hl.1 rfl (Nat.le_of_ble_eq_true rfl) dX13_medal_45 (fun H locs hH => ?_)
            refine lv_aload_n hx hb dX13_medal_48 rfl (lv_at hl 0 rfl) ?_
            refine lv_iload_n hx hb dX13_medal_49 rfl (lv_at hl 1 rfl) ?_
            obtain ⟨r_51, u_52, h_53, hF⟩ := ob_some hF
            refine mcV_i (As := [.int a0]) (rest := [.int r_48]) hC hH (m_fights l G Z Q u_49 u_52 r_51 a0 _ h_53) kwX13_fights kVX13_fights ⟨Nat.le_of_ble_eq_true rfl, Nat.le_of_ble_eq_true rfl⟩ rfl hl.1 rfl (Nat.le_of_ble_eq_true rfl) dX13_medal_50 (fun H locs hH => ?_)
            refine lv_icmp_ne (tgt := 65) hx hb dX13_medal_53 (by decide) (fun c_54 => ?_) (fun c_54 => ?_)
            · rw [if_neg c_54] at hF
              refine lv_iconst (v := (-1)) hx hb dX13_medal_65 (by decide) ?_
              exact mr_i hC hH hr hF dX13_medal_66 hlocks
            · rw [if_pos c_54] at hF
              refine lv_aload_n hx hb dX13_medal_56 rfl (lv_at hl 0 rfl) ?_
              refine lv_iload_n hx hb dX13_medal_57 rfl (lv_at hl 1 rfl) ?_
              refine lv_iload_n hx hb dX13_medal_58 rfl (lv_at hl 2 rfl) ?_
              obtain ⟨r_55, u_56, h_57, hF⟩ := ob_some hF
              refine mcV_i (As := [.int a0, .int a1]) (rest := []) hC hH (m_ordered l G Z Q u_52 u_56 r_55 a0 a1 _ h_57) kwX13_ordered kVX13_ordered ⟨Nat.le_of_ble_eq_true rfl, Nat.le_of_ble_eq_true rfl⟩ rfl hl.1 rfl (Nat.le_of_ble_eq_true rfl) dX13_medal_59 (fun H locs hH => ?_)
              refine lv_goto (tgt := 66) hx hb dX13_medal_62 (by decide) ?_
              exact mr_i hC hH hr hF dX13_medal_66 hlocks
      · rw [if_neg c_7] at hF
        refine lv_iconst (v := (-1)) hx hb dX13_medal_20 (by decide) ?_
        exact mr_i hC hH hr hF dX13_medal_21 hlocks
def f_stage (a0 : Int32) (u : MS) : Option (Int32 × MS) := li (a0 / 40) (fun x_1 => li (a0 - a0 / 40 * 40) (fun x_3 => og (gi x_1 4) ((if (ra u 12 x_1) = 1 then some (0, u) else ob (f_isSecond x_1 x_3 u) (fun r_7 u_8 => (if r_7 = 0 then ob (f_finalOf x_1 u_8) (fun r_11 u_12 => (if x_3 = r_11 then some (20, u_12) else ob (f_roundOf x_1 x_3 u_12) (fun r_15 u_16 => some (r_15, u_16)))) else ob (f_stepOf x_1 x_3 u_8) (fun r_18 u_19 => some (10 + r_18, u_19))))))))
set_option maxHeartbeats 4000000 in
set_option maxRecDepth 100000 in
theorem m_stage (l : Launch) (G : gG) (Z : gM) (Q : Nat → Nat) (u u1 : MS) (r : Int32) (a0 : Int32) (sz : Nat) (hF : f_stage a0 u = some (r, u1)) : Met l yX13_stage (Cond.code yX13_stage cX13_stage 4 (some .int) :: wM) { frames := 3, cells := 0, slots := 0, locals := 65 } (va_Pc [.ref (Q 72), .int a0] (mPM G Z Q u sz)) (mQi G Q u1 r sz) 0 0 (mA Q sz) := by
  refine Met.ofW (cc := cX13_stage) (maxL := 4) (ret := (some .int)) (by decide) rfl ?_
  intro p e s m args below meth c s₁ B hml hv
  obtain ⟨rfl, rfl, hP, hB, hD, hE⟩ := hv
  have hr := B.returns
  have hlocks := B.notSynchronized
  have hts := atoms_spec (ws := Cond.code yX13_stage cX13_stage 4 (some .int) :: wM) B.pre
  have hC : mX p c cX13_stage 4 s m _ G Z Q := ⟨B.exec, B.bytes, hml, findClass_of_methodNamed B.named, fun w h => hts w (List.mem_cons_of_mem _ h), hB, hE⟩
  have hx := hC.1
  have hb := hC.2.1
  have hH : mH G Q u s s.heap [] := ⟨hP, hD, va_S.rf⟩
  have hl := lv_entry ([.ref (Q 72), .int a0]) (n := 4) (Nat.le_of_ble_eq_true rfl)
  rw [lg_entry_eq]
  generalize (lg_sl ([.ref (Q 72), .int a0]) ++ List.replicate (4 - (lg_sl ([.ref (Q 72), .int a0])).length) Slot.unset).toArray = ls at hl ⊢
  have hl : lv_has ls 4 [(0, .ref (Q 72)), (1, .int a0)] := hl
  unfold f_stage at hF
  refine lv_iload_n hx hb dX13_stage_0 rfl (lv_at hl 1 rfl) ?_
  refine lv_bipush (v := 40) hx hb dX13_stage_1 (by decide) ?_
  refine lv_idiv hx hb dX13_stage_3 (by decide) ?_
  obtain ⟨x_1, e_2, hF⟩ := li_some hF
  refine gx_ti e_2 ?_
  refine lv_istore_n (lv' := [(2, .int x_1), (0, .ref (Q 72)), (1, .int a0)]) hx hb dX13_stage_4 rfl hl (by decide) rfl (fun ls hl => ?_)
  refine lv_iload_n hx hb dX13_stage_5 rfl (lv_at hl 2 rfl) ?_
  refine lv_bipush (v := 40) hx hb dX13_stage_6 (by decide) ?_
  refine lv_irem hx hb dX13_stage_8 (by decide) ?_
  obtain ⟨x_3, e_4, hF⟩ := li_some hF
  refine gx_ti e_4 ?_
  refine lv_istore_n (lv' := [(3, .int x_3), (2, .int x_1), (0, .ref (Q 72)), (1, .int a0)]) hx hb dX13_stage_9 rfl hl (by decide) rfl (fun ls hl => ?_)
  refine lv_aload_n hx hb dX13_stage_10 rfl (lv_at hl 2 rfl) ?_
  refine mg_12 hC hH dX13_stage_11 ?_
  refine lv_iload_n hx hb dX13_stage_14 rfl (lv_at hl 1 rfl) ?_
  obtain ⟨g_5, hF⟩ := og_some hF
  refine ml_12 hC hH g_5 dX13_stage_15 ?_
  refine lv_iconst (v := 1) hx hb dX13_stage_16 (by decide) ?_
  refine lv_icmp_ne (tgt := 22) hx hb dX13_stage_17 (by decide) (fun c_6 => ?_) (fun c_6 => ?_)
  · rw [if_neg c_6] at hF
    refine lv_aload_n hx hb dX13_stage_22 rfl (lv_at hl 2 rfl) ?_
    refine lv_iload_n hx hb dX13_stage_23 rfl (lv_at hl 1 rfl) ?_
    refine lv_iload_n hx hb dX13_stage_24 rfl (lv_at hl 0 rfl) ?_
    obtain ⟨r_7, u_8, h_9, hF⟩ := ob_some hF
    refine mcV_i (As := [.int x_1, .int x_3]) (rest := []) hC hH (m_isSecond l G Z Q u u_8 r_7 x_1 x_3 _ h_9) kwX13_isSecond kVX13_isSecond ⟨Nat.le_of_ble_eq_true rfl, Nat.le_of_ble_eq_true rfl⟩ rfl hl.1 rfl (Nat.le_of_ble_eq_true rfl) dX13_stage_25 (fun H locs hH => ?_)
    refine lv_if_eq (tgt := 41) hx hb dX13_stage_28 (by decide) (fun c_10 => ?_) (fun c_10 => ?_)
    · rw [if_pos c_10] at hF
      refine lv_iload_n hx hb dX13_stage_41 rfl (lv_at hl 0 rfl) ?_
      refine lv_aload_n hx hb dX13_stage_42 rfl (lv_at hl 2 rfl) ?_
      refine lv_iload_n hx hb dX13_stage_43 rfl (lv_at hl 1 rfl) ?_
      obtain ⟨r_11, u_12, h_13, hF⟩ := ob_some hF
      refine mcV_i (As := [.int x_1]) (rest := [.int x_3]) hC hH (m_finalOf l G Z Q u_8 u_12 r_11 x_1 _ h_13) kwX13_finalOf kVX13_finalOf ⟨Nat.le_of_ble_eq_true rfl, Nat.le_of_ble_eq_true rfl⟩ rfl hl.1 rfl (Nat.le_of_ble_eq_true rfl) dX13_stage_44 (fun H locs hH => ?_)
      refine lv_icmp_ne (tgt := 55) hx hb dX13_stage_47 (by decide) (fun c_14 => ?_) (fun c_14 => ?_)
      · rw [if_neg c_14] at hF
        refine lv_aload_n hx hb dX13_stage_55 rfl (lv_at hl 2 rfl) ?_
        refine lv_iload_n hx hb dX13_stage_56 rfl (lv_at hl 1 rfl) ?_
        refine lv_iload_n hx hb dX13_stage_57 rfl (lv_at hl 0 rfl) ?_
        obtain ⟨r_15, u_16, h_17, hF⟩ := ob_some hF
        refine mcV_i (As := [.int x_1, .int x_3]) (rest := []) hC hH (m_roundOf l G Z Q u_12 u_16 r_15 x_1 x_3 _ h_17) kwX13_roundOf kVX13_roundOf ⟨Nat.le_of_ble_eq_true rfl, Nat.le_of_ble_eq_true rfl⟩ rfl hl.1 rfl (Nat.le_of_ble_eq_true rfl) dX13_stage_58 (fun H locs hH => ?_)
        exact mr_i hC hH hr hF dX13_stage_61 hlocks
      · rw [if_pos c_14] at hF
        refine lv_bipush (v := 20) hx hb dX13_stage_50 (by decide) ?_
        refine lv_goto (tgt := 61) hx hb dX13_stage_52 (by decide) ?_
        exact mr_i hC hH hr hF dX13_stage_61 hlocks
    · rw [if_neg c_10] at hF
      refine lv_bipush (v := 10) hx hb dX13_stage_31 (by decide) ?_
      refine lv_aload_n hx hb dX13_stage_33 rfl (lv_at hl 2 rfl) ?_
      refine lv_iload_n hx hb dX13_stage_34 rfl (lv_at hl 1 rfl) ?_
      refine lv_iload_n hx hb dX13_stage_35 rfl (lv_at hl 0 rfl) ?_
      obtain ⟨r_18, u_19, h_20, hF⟩ := ob_some hF
      refine mcV_i (As := [.int x_1, .int x_3]) (rest := [.int 10]) hC hH (m_stepOf l G Z Q u_8 u_19 r_18 x_1 x_3 _ h_20) kwX13_stepOf kVX13_stepOf ⟨Nat.le_of_ble_eq_true rfl, Nat.le_of_ble_eq_true rfl⟩ rfl hl.1 rfl (Nat.le_of_ble_eq_true rfl) dX13_stage_36 (fun H locs hH => ?_)
      refine lv_iadd hx hb dX13_stage_39 ?_
      exact mr_i hC hH hr hF dX13_stage_40 hlocks
  · rw [if_pos c_6] at hF
    refine lv_iconst (v := 0) hx hb dX13_stage_20 (by decide) ?_
    exact mr_i hC hH hr hF dX13_stage_21 hlocks
def f_tires (a0 : Int32) (a1 : Int32) (u : MS) : Option (Int32 × MS) := og (gi a0 160) ((if (ra u 67 a0) = (-1) then og (gi a0 160) ((if (ra u 68 a0) = (-1) then some (0, u) else og (gi a0 160) (og (gi a0 160) (og (gi (ra u 68 a0) 96) (og (gi (ra u 68 a0) 96) (lu (wa u 70 (ra u 68 a0) (if (ra u 70 (ra u 68 a0)) < (a1 + (u.1 4)) then (a1 + (u.1 4)) else (ra u 70 (ra u 68 a0)))) (fun u_9 => some (0, u_9)))))))) else og (gi a0 160) (og (gi a0 160) (og (gi (ra u 67 a0) 96) (og (gi (ra u 67 a0) 96) (lu (wa u 70 (ra u 67 a0) (if (ra u 70 (ra u 67 a0)) < (a1 + (u.1 4)) then (a1 + (u.1 4)) else (ra u 70 (ra u 67 a0)))) (fun u_15 => og (gi a0 160) ((if (ra u_15 68 a0) = (-1) then some (0, u_15) else og (gi a0 160) (og (gi a0 160) (og (gi (ra u_15 68 a0) 96) (og (gi (ra u_15 68 a0) 96) (lu (wa u_15 70 (ra u_15 68 a0) (if (ra u_15 70 (ra u_15 68 a0)) < (a1 + (u_15.1 4)) then (a1 + (u_15.1 4)) else (ra u_15 70 (ra u_15 68 a0)))) (fun u_23 => some (0, u_23)))))))))))))))
set_option maxHeartbeats 4000000 in
set_option maxRecDepth 100000 in
theorem m_tires (l : Launch) (G : gG) (Z : gM) (Q : Nat → Nat) (u u1 : MS) (r : Int32) (a0 : Int32) (a1 : Int32) (sz : Nat) (hF : f_tires a0 a1 u = some (r, u1)) : Met l yX13_tires (Cond.code yX13_tires cX13_tires 3 none :: wM) { frames := 1, cells := 0, slots := 0, locals := 15 } (va_Pc [.ref (Q 72), .int a0, .int a1] (mPM G Z Q u sz)) (mQv G Q u1 sz) 0 0 (mA Q sz) := by
  refine Met.ofW (cc := cX13_tires) (maxL := 3) (ret := none) (by decide) rfl ?_
  intro p e s m args below meth c s₁ B hml hv
  obtain ⟨rfl, rfl, hP, hB, hD, hE⟩ := hv
  have hr := B.returns
  have hlocks := B.notSynchronized
  have hts := atoms_spec (ws := Cond.code yX13_tires cX13_tires 3 none :: wM) B.pre
  have hC : mX p c cX13_tires 3 s m _ G Z Q := ⟨B.exec, B.bytes, hml, findClass_of_methodNamed B.named, fun w h => hts w (List.mem_cons_of_mem _ h), hB, hE⟩
  have hx := hC.1
  have hb := hC.2.1
  have hH : mH G Q u s s.heap [] := ⟨hP, hD, va_S.rf⟩
  have hl := lv_entry ([.ref (Q 72), .int a0, .int a1]) (n := 3) (Nat.le_of_ble_eq_true rfl)
  rw [lg_entry_eq]
  generalize (lg_sl ([.ref (Q 72), .int a0, .int a1]) ++ List.replicate (3 - (lg_sl ([.ref (Q 72), .int a0, .int a1])).length) Slot.unset).toArray = ls at hl ⊢
  have hl : lv_has ls 3 [(0, .ref (Q 72)), (1, .int a0), (2, .int a1)] := hl
  unfold f_tires at hF
  refine lv_aload_n hx hb dX13_tires_0 rfl (lv_at hl 0 rfl) ?_
  refine mg_67 hC hH dX13_tires_1 ?_
  refine lv_iload_n hx hb dX13_tires_4 rfl (lv_at hl 1 rfl) ?_
  obtain ⟨g_1, hF⟩ := og_some hF
  refine ml_67 hC hH g_1 dX13_tires_5 ?_
  refine lv_iconst (v := (-1)) hx hb dX13_tires_6 (by decide) ?_
  refine lv_icmp_eq (tgt := 41) hx hb dX13_tires_7 (by decide) (fun c_2 => ?_) (fun c_2 => ?_)
  · rw [if_pos c_2] at hF
    refine lv_aload_n hx hb dX13_tires_41 rfl (lv_at hl 0 rfl) ?_
    refine mg_68 hC hH dX13_tires_42 ?_
    refine lv_iload_n hx hb dX13_tires_45 rfl (lv_at hl 1 rfl) ?_
    obtain ⟨g_3, hF⟩ := og_some hF
    refine ml_68 hC hH g_3 dX13_tires_46 ?_
    refine lv_iconst (v := (-1)) hx hb dX13_tires_47 (by decide) ?_
    refine lv_icmp_eq (tgt := 82) hx hb dX13_tires_48 (by decide) (fun c_4 => ?_) (fun c_4 => ?_)
    · rw [if_pos c_4] at hF
      exact mr_v hC hH hr hF dX13_tires_82 hlocks
    · rw [if_neg c_4] at hF
      refine lv_aload_n hx hb dX13_tires_51 rfl (lv_at hl 0 rfl) ?_
      refine mg_70 hC hH dX13_tires_52 ?_
      refine lv_aload_n hx hb dX13_tires_55 rfl (lv_at hl 0 rfl) ?_
      refine mg_68 hC hH dX13_tires_56 ?_
      refine lv_iload_n hx hb dX13_tires_59 rfl (lv_at hl 1 rfl) ?_
      obtain ⟨g_5, hF⟩ := og_some hF
      refine ml_68 hC hH g_5 dX13_tires_60 ?_
      refine lv_aload_n hx hb dX13_tires_61 rfl (lv_at hl 0 rfl) ?_
      refine mg_70 hC hH dX13_tires_62 ?_
      refine lv_aload_n hx hb dX13_tires_65 rfl (lv_at hl 0 rfl) ?_
      refine mg_68 hC hH dX13_tires_66 ?_
      refine lv_iload_n hx hb dX13_tires_69 rfl (lv_at hl 1 rfl) ?_
      obtain ⟨g_6, hF⟩ := og_some hF
      refine ml_68 hC hH g_6 dX13_tires_70 ?_
      obtain ⟨g_7, hF⟩ := og_some hF
      refine ml_70 hC hH g_7 dX13_tires_71 ?_
      refine lv_iload_n hx hb dX13_tires_72 rfl (lv_at hl 2 rfl) ?_
      refine lv_aload_n hx hb dX13_tires_73 rfl (lv_at hl 0 rfl) ?_
      refine mg_4 hC hH dX13_tires_74 ?_
      refine lv_iadd hx hb dX13_tires_77 ?_
      refine va_mmax hx hb (hC.2.2.1.trans hl.1.symm) hC.2.2.2.1 (hC.2.2.2.2.1 _ wma152) (hC.2.2.2.2.1 _ wma376) (hC.2.2.2.2.1 _ wma378) (hC.2.2.2.2.1 _ wma379) (Nat.le_of_ble_eq_true rfl) (Nat.le_of_ble_eq_true rfl) (Nat.le_of_ble_eq_true rfl) (Nat.le_of_ble_eq_true rfl) dX13_tires_78 ?_
      obtain ⟨g_8, hF⟩ := og_some hF
      obtain ⟨u_9, e_10, hF⟩ := lu_some hF
      refine ms_70 hC hH e_10 g_8 dX13_tires_81 (fun H locs hH => ?_)
      exact mr_v hC hH hr hF dX13_tires_82 hlocks
  · rw [if_neg c_2] at hF
    refine lv_aload_n hx hb dX13_tires_10 rfl (lv_at hl 0 rfl) ?_
    refine mg_70 hC hH dX13_tires_11 ?_
    refine lv_aload_n hx hb dX13_tires_14 rfl (lv_at hl 0 rfl) ?_
    refine mg_67 hC hH dX13_tires_15 ?_
    refine lv_iload_n hx hb dX13_tires_18 rfl (lv_at hl 1 rfl) ?_
    obtain ⟨g_11, hF⟩ := og_some hF
    refine ml_67 hC hH g_11 dX13_tires_19 ?_
    refine lv_aload_n hx hb dX13_tires_20 rfl (lv_at hl 0 rfl) ?_
    refine mg_70 hC hH dX13_tires_21 ?_
    refine lv_aload_n hx hb dX13_tires_24 rfl (lv_at hl 0 rfl) ?_
    refine mg_67 hC hH dX13_tires_25 ?_
    refine lv_iload_n hx hb dX13_tires_28 rfl (lv_at hl 1 rfl) ?_
    obtain ⟨g_12, hF⟩ := og_some hF
    refine ml_67 hC hH g_12 dX13_tires_29 ?_
    obtain ⟨g_13, hF⟩ := og_some hF
    refine ml_70 hC hH g_13 dX13_tires_30 ?_
    refine lv_iload_n hx hb dX13_tires_31 rfl (lv_at hl 2 rfl) ?_
    refine lv_aload_n hx hb dX13_tires_32 rfl (lv_at hl 0 rfl) ?_
    refine mg_4 hC hH dX13_tires_33 ?_
    refine lv_iadd hx hb dX13_tires_36 ?_
    refine va_mmax hx hb (hC.2.2.1.trans hl.1.symm) hC.2.2.2.1 (hC.2.2.2.2.1 _ wma152) (hC.2.2.2.2.1 _ wma376) (hC.2.2.2.2.1 _ wma378) (hC.2.2.2.2.1 _ wma379) (Nat.le_of_ble_eq_true rfl) (Nat.le_of_ble_eq_true rfl) (Nat.le_of_ble_eq_true rfl) (Nat.le_of_ble_eq_true rfl) dX13_tires_37 ?_
    obtain ⟨g_14, hF⟩ := og_some hF
    obtain ⟨u_15, e_16, hF⟩ := lu_some hF
    refine ms_70 hC hH e_16 g_14 dX13_tires_40 (fun H locs hH => ?_)
    refine lv_aload_n hx hb dX13_tires_41 rfl (lv_at hl 0 rfl) ?_
    refine mg_68 hC hH dX13_tires_42 ?_
    refine lv_iload_n hx hb dX13_tires_45 rfl (lv_at hl 1 rfl) ?_
    obtain ⟨g_17, hF⟩ := og_some hF
    refine ml_68 hC hH g_17 dX13_tires_46 ?_
    refine lv_iconst (v := (-1)) hx hb dX13_tires_47 (by decide) ?_
    refine lv_icmp_eq (tgt := 82) hx hb dX13_tires_48 (by decide) (fun c_18 => ?_) (fun c_18 => ?_)
    · rw [if_pos c_18] at hF
      exact mr_v hC hH hr hF dX13_tires_82 hlocks
    · rw [if_neg c_18] at hF
      refine lv_aload_n hx hb dX13_tires_51 rfl (lv_at hl 0 rfl) ?_
      refine mg_70 hC hH dX13_tires_52 ?_
      refine lv_aload_n hx hb dX13_tires_55 rfl (lv_at hl 0 rfl) ?_
      refine mg_68 hC hH dX13_tires_56 ?_
      refine lv_iload_n hx hb dX13_tires_59 rfl (lv_at hl 1 rfl) ?_
      obtain ⟨g_19, hF⟩ := og_some hF
      refine ml_68 hC hH g_19 dX13_tires_60 ?_
      refine lv_aload_n hx hb dX13_tires_61 rfl (lv_at hl 0 rfl) ?_
      refine mg_70 hC hH dX13_tires_62 ?_
      refine lv_aload_n hx hb dX13_tires_65 rfl (lv_at hl 0 rfl) ?_
      refine mg_68 hC hH dX13_tires_66 ?_
      refine lv_iload_n hx hb dX13_tires_69 rfl (lv_at hl 1 rfl) ?_
      obtain ⟨g_20, hF⟩ := og_some hF
      refine ml_68 hC hH g_20 dX13_tires_70 ?_
      obtain ⟨g_21, hF⟩ := og_some hF
      refine ml_70 hC hH g_21 dX13_tires_71 ?_
      refine lv_iload_n hx hb dX13_tires_72 rfl (lv_at hl 2 rfl) ?_
      refine lv_aload_n hx hb dX13_tires_73 rfl (lv_at hl 0 rfl) ?_
      refine mg_4 hC hH dX13_tires_74 ?_
      refine lv_iadd hx hb dX13_tires_77 ?_
      refine va_mmax hx hb (hC.2.2.1.trans hl.1.symm) hC.2.2.2.1 (hC.2.2.2.2.1 _ wma152) (hC.2.2.2.2.1 _ wma376) (hC.2.2.2.2.1 _ wma378) (hC.2.2.2.2.1 _ wma379) (Nat.le_of_ble_eq_true rfl) (Nat.le_of_ble_eq_true rfl) (Nat.le_of_ble_eq_true rfl) (Nat.le_of_ble_eq_true rfl) dX13_tires_78 ?_
      obtain ⟨g_22, hF⟩ := og_some hF
      obtain ⟨u_23, e_24, hF⟩ := lu_some hF
      refine ms_70 hC hH e_24 g_22 dX13_tires_81 (fun H locs hH => ?_)
      exact mr_v hC hH hr hF dX13_tires_82 hlocks
def f_isOver (a0 : Int32) (a1 : Int32) (a2 : Int32) (a3 : Int32) (u : MS) : Option (Int32 × MS) := li ((40 * a0) + a1) (fun x_1 => og (gi x_1 160) ((if (ra u 65 x_1) = 0 then some (1, u) else og (gi x_1 160) ((if (ra u 65 x_1) = 2 then og (gi x_1 160) ((if a2 < (((ra u 64 x_1) + a3) + (u.1 4)) then some (0, u) else some (1, u))) else some (0, u))))))
set_option maxHeartbeats 4000000 in
set_option maxRecDepth 100000 in
theorem m_isOver (l : Launch) (G : gG) (Z : gM) (Q : Nat → Nat) (u u1 : MS) (r : Int32) (a0 : Int32) (a1 : Int32) (a2 : Int32) (a3 : Int32) (sz : Nat) (hF : f_isOver a0 a1 a2 a3 u = some (r, u1)) : Met l yX13_isOver (Cond.code yX13_isOver cX13_isOver 6 (some .boolean) :: wM) { frames := 0, cells := 0, slots := 0, locals := 0 } (va_Pc [.ref (Q 72), .int a0, .int a1, .int a2, .int a3] (mPM G Z Q u sz)) (mQi G Q u1 r sz) 0 0 (mA Q sz) := by
  refine Met.ofW (cc := cX13_isOver) (maxL := 6) (ret := (some .boolean)) (by decide) rfl ?_
  intro p e s m args below meth c s₁ B hml hv
  obtain ⟨rfl, rfl, hP, hB, hD, hE⟩ := hv
  have hr := B.returns
  have hlocks := B.notSynchronized
  have hts := atoms_spec (ws := Cond.code yX13_isOver cX13_isOver 6 (some .boolean) :: wM) B.pre
  have hC : mX p c cX13_isOver 6 s m _ G Z Q := ⟨B.exec, B.bytes, hml, findClass_of_methodNamed B.named, fun w h => hts w (List.mem_cons_of_mem _ h), hB, hE⟩
  have hx := hC.1
  have hb := hC.2.1
  have hH : mH G Q u s s.heap [] := ⟨hP, hD, va_S.rf⟩
  have hl := lv_entry ([.ref (Q 72), .int a0, .int a1, .int a2, .int a3]) (n := 6) (Nat.le_of_ble_eq_true rfl)
  rw [lg_entry_eq]
  generalize (lg_sl ([.ref (Q 72), .int a0, .int a1, .int a2, .int a3]) ++ List.replicate (6 - (lg_sl ([.ref (Q 72), .int a0, .int a1, .int a2, .int a3])).length) Slot.unset).toArray = ls at hl ⊢
  have hl : lv_has ls 6 [(0, .ref (Q 72)), (1, .int a0), (2, .int a1), (3, .int a2), (4, .int a3)] := hl
  unfold f_isOver at hF
  refine lv_bipush (v := 40) hx hb dX13_isOver_0 (by decide) ?_
  refine lv_iload_n hx hb dX13_isOver_2 rfl (lv_at hl 1 rfl) ?_
  refine lv_imul hx hb dX13_isOver_3 ?_
  refine lv_iload_n hx hb dX13_isOver_4 rfl (lv_at hl 2 rfl) ?_
  refine lv_iadd hx hb dX13_isOver_5 ?_
  obtain ⟨x_1, e_2, hF⟩ := li_some hF
  refine gx_ti e_2 ?_
  refine lv_istore (lv' := [(5, .int x_1), (0, .ref (Q 72)), (1, .int a0), (2, .int a1), (3, .int a2), (4, .int a3)]) hx hb dX13_isOver_6 hl (by decide) rfl (fun ls hl => ?_)
  refine lv_aload_n hx hb dX13_isOver_8 rfl (lv_at hl 1 rfl) ?_
  refine mg_65 hC hH dX13_isOver_9 ?_
  refine lv_iload hx hb dX13_isOver_12 (lv_at hl 0 rfl) ?_
  obtain ⟨g_3, hF⟩ := og_some hF
  refine ml_65 hC hH g_3 dX13_isOver_14 ?_
  refine lv_if_eq (tgt := 48) hx hb dX13_isOver_15 (by decide) (fun c_4 => ?_) (fun c_4 => ?_)
  · rw [if_pos c_4] at hF
    refine lv_iconst (v := 1) hx hb dX13_isOver_48 (by decide) ?_
    refine lv_goto (tgt := 53) hx hb dX13_isOver_49 (by decide) ?_
    exact mr_z hC hH hr rfl hF dX13_isOver_53 hlocks
  · rw [if_neg c_4] at hF
    refine lv_aload_n hx hb dX13_isOver_18 rfl (lv_at hl 1 rfl) ?_
    refine mg_65 hC hH dX13_isOver_19 ?_
    refine lv_iload hx hb dX13_isOver_22 (lv_at hl 0 rfl) ?_
    obtain ⟨g_5, hF⟩ := og_some hF
    refine ml_65 hC hH g_5 dX13_isOver_24 ?_
    refine lv_iconst (v := 2) hx hb dX13_isOver_25 (by decide) ?_
    refine lv_icmp_ne (tgt := 52) hx hb dX13_isOver_26 (by decide) (fun c_6 => ?_) (fun c_6 => ?_)
    · rw [if_neg c_6] at hF
      refine lv_iconst (v := 0) hx hb dX13_isOver_52 (by decide) ?_
      exact mr_z hC hH hr rfl hF dX13_isOver_53 hlocks
    · rw [if_pos c_6] at hF
      refine lv_iload_n hx hb dX13_isOver_29 rfl (lv_at hl 4 rfl) ?_
      refine lv_aload_n hx hb dX13_isOver_30 rfl (lv_at hl 1 rfl) ?_
      refine mg_64 hC hH dX13_isOver_31 ?_
      refine lv_iload hx hb dX13_isOver_34 (lv_at hl 0 rfl) ?_
      obtain ⟨g_7, hF⟩ := og_some hF
      refine ml_64 hC hH g_7 dX13_isOver_36 ?_
      refine lv_iload hx hb dX13_isOver_37 (lv_at hl 5 rfl) ?_
      refine lv_iadd hx hb dX13_isOver_39 ?_
      refine lv_aload_n hx hb dX13_isOver_40 rfl (lv_at hl 1 rfl) ?_
      refine mg_4 hC hH dX13_isOver_41 ?_
      refine lv_iadd hx hb dX13_isOver_44 ?_
      refine lv_icmp_lt (tgt := 52) hx hb dX13_isOver_45 (by decide) (fun c_8 => ?_) (fun c_8 => ?_)
      · rw [if_pos c_8] at hF
        refine lv_iconst (v := 0) hx hb dX13_isOver_52 (by decide) ?_
        exact mr_z hC hH hr rfl hF dX13_isOver_53 hlocks
      · rw [if_neg c_8] at hF
        refine lv_iconst (v := 1) hx hb dX13_isOver_48 (by decide) ?_
        refine lv_goto (tgt := 53) hx hb dX13_isOver_49 (by decide) ?_
        exact mr_z hC hH hr rfl hF dX13_isOver_53 hlocks
def f_mayBegin (a0 : Int32) (a1 : Int32) (a2 : Int32) (u : MS) : Option (Int32 × MS) := li (a0 / 40) (fun x_1 => li (a0 - a0 / 40 * 40) (fun x_3 => og (gi x_1 4) ((if (ra u 12 x_1) = 2 then ob (f_isSecond x_1 x_3 u) (fun r_22 u_23 => (if r_22 = 0 then ob (f_roundOf x_1 x_3 u_23) (fun r_26 u_27 => (if r_26 ≤ 0 then og (gi a0 160) ((if (ra u_27 67 a0) = (-1) then og (gi a0 160) ((if (ra u_27 68 a0) = (-1) then some (1, u_27) else og (gi a0 160) (og (gi (ra u_27 68 a0) 96) ((if a1 < (ra u_27 70 (ra u_27 68 a0)) then some (0, u_27) else some (1, u_27)))))) else og (gi a0 160) (og (gi (ra u_27 67 a0) 96) ((if a1 < (ra u_27 70 (ra u_27 67 a0)) then some (0, u_27) else og (gi a0 160) ((if (ra u_27 68 a0) = (-1) then some (1, u_27) else og (gi a0 160) (og (gi (ra u_27 68 a0) 96) ((if a1 < (ra u_27 70 (ra u_27 68 a0)) then some (0, u_27) else some (1, u_27))))))))))) else ob (f_roundOf x_1 x_3 u_27) (fun r_45 u_46 => ob (f_base x_1 (r_45 - 1) u_46) (fun r_48 u_49 => ob (f_base x_1 r_45 u_49) (fun r_51 u_52 => li (r_48 + (2 * (x_3 - r_51))) (fun x_54 => ob (f_isOver x_1 x_54 a1 a2 u_52) (fun r_56 u_57 => (if r_56 = 0 then some (0, u_57) else ob (f_isOver x_1 (x_54 + 1) a1 a2 u_57) (fun r_60 u_61 => (if r_60 = 0 then some (0, u_61) else og (gi a0 160) ((if (ra u_61 67 a0) = (-1) then og (gi a0 160) ((if (ra u_61 68 a0) = (-1) then some (1, u_61) else og (gi a0 160) (og (gi (ra u_61 68 a0) 96) ((if a1 < (ra u_61 70 (ra u_61 68 a0)) then some (0, u_61) else some (1, u_61)))))) else og (gi a0 160) (og (gi (ra u_61 67 a0) 96) ((if a1 < (ra u_61 70 (ra u_61 67 a0)) then some (0, u_61) else og (gi a0 160) ((if (ra u_61 68 a0) = (-1) then some (1, u_61) else og (gi a0 160) (og (gi (ra u_61 68 a0) 96) ((if a1 < (ra u_61 70 (ra u_61 68 a0)) then some (0, u_61) else some (1, u_61))))))))))))))))))))) else ob (f_rounds x_1 u_23) (fun r_79 u_80 => ob (f_base x_1 (r_79 - 1) u_80) (fun r_82 u_83 => ob (f_halfOf x_1 x_3 u_83) (fun r_85 u_86 => ob (f_isOver x_1 (r_82 + r_85) a1 a2 u_86) (fun r_88 u_89 => (if r_88 = 0 then some (0, u_89) else ob (f_stepOf x_1 x_3 u_89) (fun r_92 u_93 => (if r_92 ≤ 1 then og (gi a0 160) ((if (ra u_93 67 a0) = (-1) then og (gi a0 160) ((if (ra u_93 68 a0) = (-1) then some (1, u_93) else og (gi a0 160) (og (gi (ra u_93 68 a0) 96) ((if a1 < (ra u_93 70 (ra u_93 68 a0)) then some (0, u_93) else some (1, u_93)))))) else og (gi a0 160) (og (gi (ra u_93 67 a0) 96) ((if a1 < (ra u_93 70 (ra u_93 67 a0)) then some (0, u_93) else og (gi a0 160) ((if (ra u_93 68 a0) = (-1) then some (1, u_93) else og (gi a0 160) (og (gi (ra u_93 68 a0) 96) ((if a1 < (ra u_93 70 (ra u_93 68 a0)) then some (0, u_93) else some (1, u_93))))))))))) else ob (f_isOver x_1 (x_3 - 1) a1 a2 u_93) (fun r_111 u_112 => (if r_111 = 0 then some (0, u_112) else og (gi a0 160) ((if (ra u_112 67 a0) = (-1) then og (gi a0 160) ((if (ra u_112 68 a0) = (-1) then some (1, u_112) else og (gi a0 160) (og (gi (ra u_112 68 a0) 96) ((if a1 < (ra u_112 70 (ra u_112 68 a0)) then some (0, u_112) else some (1, u_112)))))) else og (gi a0 160) (og (gi (ra u_112 67 a0) 96) ((if a1 < (ra u_112 70 (ra u_112 67 a0)) then some (0, u_112) else og (gi a0 160) ((if (ra u_112 68 a0) = (-1) then some (1, u_112) else og (gi a0 160) (og (gi (ra u_112 68 a0) 96) ((if a1 < (ra u_112 70 (ra u_112 68 a0)) then some (0, u_112) else some (1, u_112)))))))))))))))))))))) else og (gi a0 160) ((if (ra u 67 a0) = (-1) then og (gi a0 160) ((if (ra u 68 a0) = (-1) then some (1, u) else og (gi a0 160) (og (gi (ra u 68 a0) 96) ((if a1 < (ra u 70 (ra u 68 a0)) then some (0, u) else some (1, u)))))) else og (gi a0 160) (og (gi (ra u 67 a0) 96) ((if a1 < (ra u 70 (ra u 67 a0)) then some (0, u) else og (gi a0 160) ((if (ra u 68 a0) = (-1) then some (1, u) else og (gi a0 160) (og (gi (ra u 68 a0) 96) ((if a1 < (ra u 70 (ra u 68 a0)) then some (0, u) else some (1, u)))))))))))))))
set_option maxHeartbeats 4000000 in
set_option maxRecDepth 100000 in
theorem m_mayBegin (l : Launch) (G : gG) (Z : gM) (Q : Nat → Nat) (u u1 : MS) (r : Int32) (a0 : Int32) (a1 : Int32) (a2 : Int32) (sz : Nat) (hF : f_mayBegin a0 a1 a2 u = some (r, u1)) : Met l yX13_mayBegin (Cond.code yX13_mayBegin cX13_mayBegin 8 (some .boolean) :: wM) { frames := 3, cells := 0, slots := 0, locals := 65 } (va_Pc [.ref (Q 72), .int a0, .int a1, .int a2] (mPM G Z Q u sz)) (mQi G Q u1 r sz) 0 0 (mA Q sz) := by
  refine Met.ofW (cc := cX13_mayBegin) (maxL := 8) (ret := (some .boolean)) (by decide) rfl ?_
  intro p e s m args below meth c s₁ B hml hv
  obtain ⟨rfl, rfl, hP, hB, hD, hE⟩ := hv
  have hr := B.returns
  have hlocks := B.notSynchronized
  have hts := atoms_spec (ws := Cond.code yX13_mayBegin cX13_mayBegin 8 (some .boolean) :: wM) B.pre
  have hC : mX p c cX13_mayBegin 8 s m _ G Z Q := ⟨B.exec, B.bytes, hml, findClass_of_methodNamed B.named, fun w h => hts w (List.mem_cons_of_mem _ h), hB, hE⟩
  have hx := hC.1
  have hb := hC.2.1
  have hH : mH G Q u s s.heap [] := ⟨hP, hD, va_S.rf⟩
  have hl := lv_entry ([.ref (Q 72), .int a0, .int a1, .int a2]) (n := 8) (Nat.le_of_ble_eq_true rfl)
  rw [lg_entry_eq]
  generalize (lg_sl ([.ref (Q 72), .int a0, .int a1, .int a2]) ++ List.replicate (8 - (lg_sl ([.ref (Q 72), .int a0, .int a1, .int a2])).length) Slot.unset).toArray = ls at hl ⊢
  have hl : lv_has ls 8 [(0, .ref (Q 72)), (1, .int a0), (2, .int a1), (3, .int a2)] := hl
  unfold f_mayBegin at hF
  refine lv_iload_n hx hb dX13_mayBegin_0 rfl (lv_at hl 1 rfl) ?_
  refine lv_bipush (v := 40) hx hb dX13_mayBegin_1 (by decide) ?_
  refine lv_idiv hx hb dX13_mayBegin_3 (by decide) ?_
  obtain ⟨x_1, e_2, hF⟩ := li_some hF
  refine gx_ti e_2 ?_
  refine lv_istore (lv' := [(4, .int x_1), (0, .ref (Q 72)), (1, .int a0), (2, .int a1), (3, .int a2)]) hx hb dX13_mayBegin_4 hl (by decide) rfl (fun ls hl => ?_)
  refine lv_iload_n hx hb dX13_mayBegin_6 rfl (lv_at hl 2 rfl) ?_
  refine lv_bipush (v := 40) hx hb dX13_mayBegin_7 (by decide) ?_
  refine lv_irem hx hb dX13_mayBegin_9 (by decide) ?_
  obtain ⟨x_3, e_4, hF⟩ := li_some hF
  refine gx_ti e_4 ?_
  refine lv_istore (lv' := [(5, .int x_3), (4, .int x_1), (0, .ref (Q 72)), (1, .int a0), (2, .int a1), (3, .int a2)]) hx hb dX13_mayBegin_10 hl (by decide) rfl (fun ls hl => ?_)
  refine lv_aload_n hx hb dX13_mayBegin_12 rfl (lv_at hl 2 rfl) ?_
  refine mg_12 hC hH dX13_mayBegin_13 ?_
  refine lv_iload hx hb dX13_mayBegin_16 (lv_at hl 1 rfl) ?_
  obtain ⟨g_5, hF⟩ := og_some hF
  refine ml_12 hC hH g_5 dX13_mayBegin_18 ?_
  refine lv_iconst (v := 2) hx hb dX13_mayBegin_19 (by decide) ?_
  refine lv_icmp_ne (tgt := 174) hx hb dX13_mayBegin_20 (by decide) (fun c_6 => ?_) (fun c_6 => ?_)
  · rw [if_neg c_6] at hF
    refine lv_aload_n hx hb dX13_mayBegin_174 rfl (lv_at hl 2 rfl) ?_
    refine mg_67 hC hH dX13_mayBegin_175 ?_
    refine lv_iload_n hx hb dX13_mayBegin_178 rfl (lv_at hl 3 rfl) ?_
    obtain ⟨g_7, hF⟩ := og_some hF
    refine ml_67 hC hH g_7 dX13_mayBegin_179 ?_
    refine lv_iconst (v := (-1)) hx hb dX13_mayBegin_180 (by decide) ?_
    refine lv_icmp_eq (tgt := 199) hx hb dX13_mayBegin_181 (by decide) (fun c_8 => ?_) (fun c_8 => ?_)
    · rw [if_pos c_8] at hF
      refine lv_aload_n hx hb dX13_mayBegin_199 rfl (lv_at hl 2 rfl) ?_
      refine mg_68 hC hH dX13_mayBegin_200 ?_
      refine lv_iload_n hx hb dX13_mayBegin_203 rfl (lv_at hl 3 rfl) ?_
      obtain ⟨g_9, hF⟩ := og_some hF
      refine ml_68 hC hH g_9 dX13_mayBegin_204 ?_
      refine lv_iconst (v := (-1)) hx hb dX13_mayBegin_205 (by decide) ?_
      refine lv_icmp_eq (tgt := 224) hx hb dX13_mayBegin_206 (by decide) (fun c_10 => ?_) (fun c_10 => ?_)
      · rw [if_pos c_10] at hF
        refine lv_iconst (v := 1) hx hb dX13_mayBegin_224 (by decide) ?_
        refine lv_goto (tgt := 229) hx hb dX13_mayBegin_225 (by decide) ?_
        exact mr_z hC hH hr rfl hF dX13_mayBegin_229 hlocks
      · rw [if_neg c_10] at hF
        refine lv_aload_n hx hb dX13_mayBegin_209 rfl (lv_at hl 2 rfl) ?_
        refine mg_70 hC hH dX13_mayBegin_210 ?_
        refine lv_aload_n hx hb dX13_mayBegin_213 rfl (lv_at hl 2 rfl) ?_
        refine mg_68 hC hH dX13_mayBegin_214 ?_
        refine lv_iload_n hx hb dX13_mayBegin_217 rfl (lv_at hl 3 rfl) ?_
        obtain ⟨g_11, hF⟩ := og_some hF
        refine ml_68 hC hH g_11 dX13_mayBegin_218 ?_
        obtain ⟨g_12, hF⟩ := og_some hF
        refine ml_70 hC hH g_12 dX13_mayBegin_219 ?_
        refine lv_iload_n hx hb dX13_mayBegin_220 rfl (lv_at hl 4 rfl) ?_
        refine lv_icmp_gt (tgt := 228) hx hb dX13_mayBegin_221 (by decide) (fun c_13 => ?_) (fun c_13 => ?_)
        · rw [if_pos c_13] at hF
          refine lv_iconst (v := 0) hx hb dX13_mayBegin_228 (by decide) ?_
          exact mr_z hC hH hr rfl hF dX13_mayBegin_229 hlocks
        · rw [if_neg c_13] at hF
          refine lv_iconst (v := 1) hx hb dX13_mayBegin_224 (by decide) ?_
          refine lv_goto (tgt := 229) hx hb dX13_mayBegin_225 (by decide) ?_
          exact mr_z hC hH hr rfl hF dX13_mayBegin_229 hlocks
    · rw [if_neg c_8] at hF
      refine lv_aload_n hx hb dX13_mayBegin_184 rfl (lv_at hl 2 rfl) ?_
      refine mg_70 hC hH dX13_mayBegin_185 ?_
      refine lv_aload_n hx hb dX13_mayBegin_188 rfl (lv_at hl 2 rfl) ?_
      refine mg_67 hC hH dX13_mayBegin_189 ?_
      refine lv_iload_n hx hb dX13_mayBegin_192 rfl (lv_at hl 3 rfl) ?_
      obtain ⟨g_14, hF⟩ := og_some hF
      refine ml_67 hC hH g_14 dX13_mayBegin_193 ?_
      obtain ⟨g_15, hF⟩ := og_some hF
      refine ml_70 hC hH g_15 dX13_mayBegin_194 ?_
      refine lv_iload_n hx hb dX13_mayBegin_195 rfl (lv_at hl 4 rfl) ?_
      refine lv_icmp_gt (tgt := 228) hx hb dX13_mayBegin_196 (by decide) (fun c_16 => ?_) (fun c_16 => ?_)
      · rw [if_pos c_16] at hF
        refine lv_iconst (v := 0) hx hb dX13_mayBegin_228 (by decide) ?_
        exact mr_z hC hH hr rfl hF dX13_mayBegin_229 hlocks
      · rw [if_neg c_16] at hF
        refine lv_aload_n hx hb dX13_mayBegin_199 rfl (lv_at hl 2 rfl) ?_
        refine mg_68 hC hH dX13_mayBegin_200 ?_
        refine lv_iload_n hx hb dX13_mayBegin_203 rfl (lv_at hl 3 rfl) ?_
        obtain ⟨g_17, hF⟩ := og_some hF
        refine ml_68 hC hH g_17 dX13_mayBegin_204 ?_
        refine lv_iconst (v := (-1)) hx hb dX13_mayBegin_205 (by decide) ?_
        refine lv_icmp_eq (tgt := 224) hx hb dX13_mayBegin_206 (by decide) (fun c_18 => ?_) (fun c_18 => ?_)
        · rw [if_pos c_18] at hF
          refine lv_iconst (v := 1) hx hb dX13_mayBegin_224 (by decide) ?_
          refine lv_goto (tgt := 229) hx hb dX13_mayBegin_225 (by decide) ?_
          exact mr_z hC hH hr rfl hF dX13_mayBegin_229 hlocks
        · rw [if_neg c_18] at hF
          refine lv_aload_n hx hb dX13_mayBegin_209 rfl (lv_at hl 2 rfl) ?_
          refine mg_70 hC hH dX13_mayBegin_210 ?_
          refine lv_aload_n hx hb dX13_mayBegin_213 rfl (lv_at hl 2 rfl) ?_
          refine mg_68 hC hH dX13_mayBegin_214 ?_
          refine lv_iload_n hx hb dX13_mayBegin_217 rfl (lv_at hl 3 rfl) ?_
          obtain ⟨g_19, hF⟩ := og_some hF
          refine ml_68 hC hH g_19 dX13_mayBegin_218 ?_
          obtain ⟨g_20, hF⟩ := og_some hF
          refine ml_70 hC hH g_20 dX13_mayBegin_219 ?_
          refine lv_iload_n hx hb dX13_mayBegin_220 rfl (lv_at hl 4 rfl) ?_
          refine lv_icmp_gt (tgt := 228) hx hb dX13_mayBegin_221 (by decide) (fun c_21 => ?_) (fun c_21 => ?_)
          · rw [if_pos c_21] at hF
            refine lv_iconst (v := 0) hx hb dX13_mayBegin_228 (by decide) ?_
            exact mr_z hC hH hr rfl hF dX13_mayBegin_229 hlocks
          · rw [if_neg c_21] at hF
            refine lv_iconst (v := 1) hx hb dX13_mayBegin_224 (by decide) ?_
            refine lv_goto (tgt := 229) hx hb dX13_mayBegin_225 (by decide) ?_
            exact mr_z hC hH hr rfl hF dX13_mayBegin_229 hlocks
  · rw [if_pos c_6] at hF
    refine lv_aload_n hx hb dX13_mayBegin_23 rfl (lv_at hl 2 rfl) ?_
    refine lv_iload hx hb dX13_mayBegin_24 (lv_at hl 1 rfl) ?_
    refine lv_iload hx hb dX13_mayBegin_26 (lv_at hl 0 rfl) ?_
    obtain ⟨r_22, u_23, h_24, hF⟩ := ob_some hF
    refine mcV_i (As := [.int x_1, .int x_3]) (rest := []) hC hH (m_isSecond l G Z Q u u_23 r_22 x_1 x_3 _ h_24) kwX13_isSecond kVX13_isSecond ⟨Nat.le_of_ble_eq_true rfl, Nat.le_of_ble_eq_true rfl⟩ rfl hl.1 rfl (Nat.le_of_ble_eq_true rfl) dX13_mayBegin_28 (fun H locs hH => ?_)
    refine lv_if_eq (tgt := 97) hx hb dX13_mayBegin_31 (by decide) (fun c_25 => ?_) (fun c_25 => ?_)
    · rw [if_pos c_25] at hF
      refine lv_aload_n hx hb dX13_mayBegin_97 rfl (lv_at hl 2 rfl) ?_
      refine lv_iload hx hb dX13_mayBegin_98 (lv_at hl 1 rfl) ?_
      refine lv_iload hx hb dX13_mayBegin_100 (lv_at hl 0 rfl) ?_
      obtain ⟨r_26, u_27, h_28, hF⟩ := ob_some hF
      refine mcV_i (As := [.int x_1, .int x_3]) (rest := []) hC hH (m_roundOf l G Z Q u_23 u_27 r_26 x_1 x_3 _ h_28) kwX13_roundOf kVX13_roundOf ⟨Nat.le_of_ble_eq_true rfl, Nat.le_of_ble_eq_true rfl⟩ rfl hl.1 rfl (Nat.le_of_ble_eq_true rfl) dX13_mayBegin_102 (fun H locs hH => ?_)
      refine lv_if_le (tgt := 174) hx hb dX13_mayBegin_105 (by decide) (fun c_29 => ?_) (fun c_29 => ?_)
      · rw [if_pos c_29] at hF
        refine lv_aload_n hx hb dX13_mayBegin_174 rfl (lv_at hl 2 rfl) ?_
        refine mg_67 hC hH dX13_mayBegin_175 ?_
        refine lv_iload_n hx hb dX13_mayBegin_178 rfl (lv_at hl 3 rfl) ?_
        obtain ⟨g_30, hF⟩ := og_some hF
        refine ml_67 hC hH g_30 dX13_mayBegin_179 ?_
        refine lv_iconst (v := (-1)) hx hb dX13_mayBegin_180 (by decide) ?_
        refine lv_icmp_eq (tgt := 199) hx hb dX13_mayBegin_181 (by decide) (fun c_31 => ?_) (fun c_31 => ?_)
        · rw [if_pos c_31] at hF
          refine lv_aload_n hx hb dX13_mayBegin_199 rfl (lv_at hl 2 rfl) ?_
          refine mg_68 hC hH dX13_mayBegin_200 ?_
          refine lv_iload_n hx hb dX13_mayBegin_203 rfl (lv_at hl 3 rfl) ?_
          obtain ⟨g_32, hF⟩ := og_some hF
          refine ml_68 hC hH g_32 dX13_mayBegin_204 ?_
          refine lv_iconst (v := (-1)) hx hb dX13_mayBegin_205 (by decide) ?_
          refine lv_icmp_eq (tgt := 224) hx hb dX13_mayBegin_206 (by decide) (fun c_33 => ?_) (fun c_33 => ?_)
          · rw [if_pos c_33] at hF
            refine lv_iconst (v := 1) hx hb dX13_mayBegin_224 (by decide) ?_
            refine lv_goto (tgt := 229) hx hb dX13_mayBegin_225 (by decide) ?_
            exact mr_z hC hH hr rfl hF dX13_mayBegin_229 hlocks
          · rw [if_neg c_33] at hF
            refine lv_aload_n hx hb dX13_mayBegin_209 rfl (lv_at hl 2 rfl) ?_
            refine mg_70 hC hH dX13_mayBegin_210 ?_
            refine lv_aload_n hx hb dX13_mayBegin_213 rfl (lv_at hl 2 rfl) ?_
            refine mg_68 hC hH dX13_mayBegin_214 ?_
            refine lv_iload_n hx hb dX13_mayBegin_217 rfl (lv_at hl 3 rfl) ?_
            obtain ⟨g_34, hF⟩ := og_some hF
            refine ml_68 hC hH g_34 dX13_mayBegin_218 ?_
            obtain ⟨g_35, hF⟩ := og_some hF
            refine ml_70 hC hH g_35 dX13_mayBegin_219 ?_
            refine lv_iload_n hx hb dX13_mayBegin_220 rfl (lv_at hl 4 rfl) ?_
            refine lv_icmp_gt (tgt := 228) hx hb dX13_mayBegin_221 (by decide) (fun c_36 => ?_) (fun c_36 => ?_)
            · rw [if_pos c_36] at hF
              refine lv_iconst (v := 0) hx hb dX13_mayBegin_228 (by decide) ?_
              exact mr_z hC hH hr rfl hF dX13_mayBegin_229 hlocks
            · rw [if_neg c_36] at hF
              refine lv_iconst (v := 1) hx hb dX13_mayBegin_224 (by decide) ?_
              refine lv_goto (tgt := 229) hx hb dX13_mayBegin_225 (by decide) ?_
              exact mr_z hC hH hr rfl hF dX13_mayBegin_229 hlocks
        · rw [if_neg c_31] at hF
          refine lv_aload_n hx hb dX13_mayBegin_184 rfl (lv_at hl 2 rfl) ?_
          refine mg_70 hC hH dX13_mayBegin_185 ?_
          refine lv_aload_n hx hb dX13_mayBegin_188 rfl (lv_at hl 2 rfl) ?_
          refine mg_67 hC hH dX13_mayBegin_189 ?_
          refine lv_iload_n hx hb dX13_mayBegin_192 rfl (lv_at hl 3 rfl) ?_
          obtain ⟨g_37, hF⟩ := og_some hF
          refine ml_67 hC hH g_37 dX13_mayBegin_193 ?_
          obtain ⟨g_38, hF⟩ := og_some hF
          refine ml_70 hC hH g_38 dX13_mayBegin_194 ?_
          refine lv_iload_n hx hb dX13_mayBegin_195 rfl (lv_at hl 4 rfl) ?_
          refine lv_icmp_gt (tgt := 228) hx hb dX13_mayBegin_196 (by decide) (fun c_39 => ?_) (fun c_39 => ?_)
          · rw [if_pos c_39] at hF
            refine lv_iconst (v := 0) hx hb dX13_mayBegin_228 (by decide) ?_
            exact mr_z hC hH hr rfl hF dX13_mayBegin_229 hlocks
          · rw [if_neg c_39] at hF
            refine lv_aload_n hx hb dX13_mayBegin_199 rfl (lv_at hl 2 rfl) ?_
            refine mg_68 hC hH dX13_mayBegin_200 ?_
            refine lv_iload_n hx hb dX13_mayBegin_203 rfl (lv_at hl 3 rfl) ?_
            obtain ⟨g_40, hF⟩ := og_some hF
            refine ml_68 hC hH g_40 dX13_mayBegin_204 ?_
            refine lv_iconst (v := (-1)) hx hb dX13_mayBegin_205 (by decide) ?_
            refine lv_icmp_eq (tgt := 224) hx hb dX13_mayBegin_206 (by decide) (fun c_41 => ?_) (fun c_41 => ?_)
            · rw [if_pos c_41] at hF
              refine lv_iconst (v := 1) hx hb dX13_mayBegin_224 (by decide) ?_
              refine lv_goto (tgt := 229) hx hb dX13_mayBegin_225 (by decide) ?_
              exact mr_z hC hH hr rfl hF dX13_mayBegin_229 hlocks
            · rw [if_neg c_41] at hF
              refine lv_aload_n hx hb dX13_mayBegin_209 rfl (lv_at hl 2 rfl) ?_
              refine mg_70 hC hH dX13_mayBegin_210 ?_
              refine lv_aload_n hx hb dX13_mayBegin_213 rfl (lv_at hl 2 rfl) ?_
              refine mg_68 hC hH dX13_mayBegin_214 ?_
              refine lv_iload_n hx hb dX13_mayBegin_217 rfl (lv_at hl 3 rfl) ?_
              obtain ⟨g_42, hF⟩ := og_some hF
              refine ml_68 hC hH g_42 dX13_mayBegin_218 ?_
              obtain ⟨g_43, hF⟩ := og_some hF
              refine ml_70 hC hH g_43 dX13_mayBegin_219 ?_
              refine lv_iload_n hx hb dX13_mayBegin_220 rfl (lv_at hl 4 rfl) ?_
              refine lv_icmp_gt (tgt := 228) hx hb dX13_mayBegin_221 (by decide) (fun c_44 => ?_) (fun c_44 => ?_)
              · rw [if_pos c_44] at hF
                refine lv_iconst (v := 0) hx hb dX13_mayBegin_228 (by decide) ?_
                exact mr_z hC hH hr rfl hF dX13_mayBegin_229 hlocks
              · rw [if_neg c_44] at hF
                refine lv_iconst (v := 1) hx hb dX13_mayBegin_224 (by decide) ?_
                refine lv_goto (tgt := 229) hx hb dX13_mayBegin_225 (by decide) ?_
                exact mr_z hC hH hr rfl hF dX13_mayBegin_229 hlocks
      · rw [if_neg c_29] at hF
        refine lv_aload_n hx hb dX13_mayBegin_108 rfl (lv_at hl 2 rfl) ?_
        refine lv_iload hx hb dX13_mayBegin_109 (lv_at hl 1 rfl) ?_
        refine lv_iload hx hb dX13_mayBegin_111 (lv_at hl 0 rfl) ?_
        obtain ⟨r_45, u_46, h_47, hF⟩ := ob_some hF
        refine mcV_i (As := [.int x_1, .int x_3]) (rest := []) hC hH (m_roundOf l G Z Q u_27 u_46 r_45 x_1 x_3 _ h_47) kwX13_roundOf kVX13_roundOf ⟨Nat.le_of_ble_eq_true rfl, Nat.le_of_ble_eq_true rfl⟩ rfl hl.1 rfl (Nat.le_of_ble_eq_true rfl) dX13_mayBegin_113 (fun H locs hH => ?_)
        refine lv_istore (lv' := [(6, .int r_45), (5, .int x_3), (4, .int x_1), (0, .ref (Q 72)), (1, .int a0), (2, .int a1), (3, .int a2)]) hx hb dX13_mayBegin_116 hl (by decide) rfl (fun ls hl => ?_)
        refine lv_aload_n hx hb dX13_mayBegin_118 rfl (lv_at hl 3 rfl) ?_
        refine lv_iload hx hb dX13_mayBegin_119 (lv_at hl 2 rfl) ?_
        refine lv_iload hx hb dX13_mayBegin_121 (lv_at hl 0 rfl) ?_
        refine lv_iconst (v := 1) hx hb dX13_mayBegin_123 (by decide) ?_
        refine lv_isub hx hb dX13_mayBegin_124 ?_
        obtain ⟨r_48, u_49, h_50, hF⟩ := ob_some hF
        refine mcV_i (As := [.int x_1, .int (r_45 - 1)]) (rest := []) hC hH (m_base l G Z Q u_46 u_49 r_48 x_1 (r_45 - 1) _ h_50) kwX13_base kVX13_base ⟨Nat.le_of_ble_eq_true rfl, Nat.le_of_ble_eq_true rfl⟩ rfl hl.1 rfl (Nat.le_of_ble_eq_true rfl) dX13_mayBegin_125 (fun H locs hH => ?_)
        refine lv_iconst (v := 2) hx hb dX13_mayBegin_128 (by decide) ?_
        refine lv_iload hx hb dX13_mayBegin_129 (lv_at hl 1 rfl) ?_
        refine lv_aload_n hx hb dX13_mayBegin_131 rfl (lv_at hl 3 rfl) ?_
        refine lv_iload hx hb dX13_mayBegin_132 (lv_at hl 2 rfl) ?_
        refine lv_iload hx hb dX13_mayBegin_134 (lv_at hl 0 rfl) ?_
        obtain ⟨r_51, u_52, h_53, hF⟩ := ob_some hF
        refine mcV_i (As := [.int x_1, .int r_45]) (rest := [.int x_3, .int 2, .int r_48]) hC hH (m_base l G Z Q u_49 u_52 r_51 x_1 r_45 _ h_53) kwX13_base kVX13_base ⟨Nat.le_of_ble_eq_true rfl, Nat.le_of_ble_eq_true rfl⟩ rfl hl.1 rfl (Nat.le_of_ble_eq_true rfl) dX13_mayBegin_136 (fun H locs hH => ?_)
        refine lv_isub hx hb dX13_mayBegin_139 ?_
        refine lv_imul hx hb dX13_mayBegin_140 ?_
        refine lv_iadd hx hb dX13_mayBegin_141 ?_
        obtain ⟨x_54, e_55, hF⟩ := li_some hF
        refine gx_ti e_55 ?_
        refine lv_istore (lv' := [(7, .int x_54), (6, .int r_45), (5, .int x_3), (4, .int x_1), (0, .ref (Q 72)), (1, .int a0), (2, .int a1), (3, .int a2)]) hx hb dX13_mayBegin_142 hl (by decide) rfl (fun ls hl => ?_)
        refine lv_aload_n hx hb dX13_mayBegin_144 rfl (lv_at hl 4 rfl) ?_
        refine lv_iload hx hb dX13_mayBegin_145 (lv_at hl 3 rfl) ?_
        refine lv_iload hx hb dX13_mayBegin_147 (lv_at hl 0 rfl) ?_
        refine lv_iload_n hx hb dX13_mayBegin_149 rfl (lv_at hl 6 rfl) ?_
        refine lv_iload_n hx hb dX13_mayBegin_150 rfl (lv_at hl 7 rfl) ?_
        obtain ⟨r_56, u_57, h_58, hF⟩ := ob_some hF
        refine mcV_i (As := [.int x_1, .int x_54, .int a1, .int a2]) (rest := []) hC hH (m_isOver l G Z Q u_52 u_57 r_56 x_1 x_54 a1 a2 _ h_58) kwX13_isOver kVX13_isOver ⟨Nat.le_of_ble_eq_true rfl, Nat.le_of_ble_eq_true rfl⟩ rfl hl.1 rfl (Nat.le_of_ble_eq_true rfl) dX13_mayBegin_151 (fun H locs hH => ?_)
        refine lv_if_eq (tgt := 172) hx hb dX13_mayBegin_154 (by decide) (fun c_59 => ?_) (fun c_59 => ?_)
        · rw [if_pos c_59] at hF
          refine lv_iconst (v := 0) hx hb dX13_mayBegin_172 (by decide) ?_
          exact mr_z hC hH hr rfl hF dX13_mayBegin_173 hlocks
        · rw [if_neg c_59] at hF
          refine lv_aload_n hx hb dX13_mayBegin_157 rfl (lv_at hl 4 rfl) ?_
          refine lv_iload hx hb dX13_mayBegin_158 (lv_at hl 3 rfl) ?_
          refine lv_iload hx hb dX13_mayBegin_160 (lv_at hl 0 rfl) ?_
          refine lv_iconst (v := 1) hx hb dX13_mayBegin_162 (by decide) ?_
          refine lv_iadd hx hb dX13_mayBegin_163 ?_
          refine lv_iload_n hx hb dX13_mayBegin_164 rfl (lv_at hl 6 rfl) ?_
          refine lv_iload_n hx hb dX13_mayBegin_165 rfl (lv_at hl 7 rfl) ?_
          obtain ⟨r_60, u_61, h_62, hF⟩ := ob_some hF
          refine mcV_i (As := [.int x_1, .int (x_54 + 1), .int a1, .int a2]) (rest := []) hC hH (m_isOver l G Z Q u_57 u_61 r_60 x_1 (x_54 + 1) a1 a2 _ h_62) kwX13_isOver kVX13_isOver ⟨Nat.le_of_ble_eq_true rfl, Nat.le_of_ble_eq_true rfl⟩ rfl hl.1 rfl (Nat.le_of_ble_eq_true rfl) dX13_mayBegin_166 (fun H locs hH => ?_)
          refine lv_if_ne (tgt := 174) hx hb dX13_mayBegin_169 (by decide) (fun c_63 => ?_) (fun c_63 => ?_)
          · rw [if_neg c_63] at hF
            refine lv_aload_n hx hb dX13_mayBegin_174 rfl (lv_at hl 4 rfl) ?_
            refine mg_67 hC hH dX13_mayBegin_175 ?_
            refine lv_iload_n hx hb dX13_mayBegin_178 rfl (lv_at hl 5 rfl) ?_
            obtain ⟨g_64, hF⟩ := og_some hF
            refine ml_67 hC hH g_64 dX13_mayBegin_179 ?_
            refine lv_iconst (v := (-1)) hx hb dX13_mayBegin_180 (by decide) ?_
            refine lv_icmp_eq (tgt := 199) hx hb dX13_mayBegin_181 (by decide) (fun c_65 => ?_) (fun c_65 => ?_)
            · rw [if_pos c_65] at hF
              refine lv_aload_n hx hb dX13_mayBegin_199 rfl (lv_at hl 4 rfl) ?_
              refine mg_68 hC hH dX13_mayBegin_200 ?_
              refine lv_iload_n hx hb dX13_mayBegin_203 rfl (lv_at hl 5 rfl) ?_
              obtain ⟨g_66, hF⟩ := og_some hF
              refine ml_68 hC hH g_66 dX13_mayBegin_204 ?_
              refine lv_iconst (v := (-1)) hx hb dX13_mayBegin_205 (by decide) ?_
              refine lv_icmp_eq (tgt := 224) hx hb dX13_mayBegin_206 (by decide) (fun c_67 => ?_) (fun c_67 => ?_)
              · rw [if_pos c_67] at hF
                refine lv_iconst (v := 1) hx hb dX13_mayBegin_224 (by decide) ?_
                refine lv_goto (tgt := 229) hx hb dX13_mayBegin_225 (by decide) ?_
                exact mr_z hC hH hr rfl hF dX13_mayBegin_229 hlocks
              · rw [if_neg c_67] at hF
                refine lv_aload_n hx hb dX13_mayBegin_209 rfl (lv_at hl 4 rfl) ?_
                refine mg_70 hC hH dX13_mayBegin_210 ?_
                refine lv_aload_n hx hb dX13_mayBegin_213 rfl (lv_at hl 4 rfl) ?_
                refine mg_68 hC hH dX13_mayBegin_214 ?_
                refine lv_iload_n hx hb dX13_mayBegin_217 rfl (lv_at hl 5 rfl) ?_
                obtain ⟨g_68, hF⟩ := og_some hF
                refine ml_68 hC hH g_68 dX13_mayBegin_218 ?_
                obtain ⟨g_69, hF⟩ := og_some hF
                refine ml_70 hC hH g_69 dX13_mayBegin_219 ?_
                refine lv_iload_n hx hb dX13_mayBegin_220 rfl (lv_at hl 6 rfl) ?_
                refine lv_icmp_gt (tgt := 228) hx hb dX13_mayBegin_221 (by decide) (fun c_70 => ?_) (fun c_70 => ?_)
                · rw [if_pos c_70] at hF
                  refine lv_iconst (v := 0) hx hb dX13_mayBegin_228 (by decide) ?_
                  exact mr_z hC hH hr rfl hF dX13_mayBegin_229 hlocks
                · rw [if_neg c_70] at hF
                  refine lv_iconst (v := 1) hx hb dX13_mayBegin_224 (by decide) ?_
                  refine lv_goto (tgt := 229) hx hb dX13_mayBegin_225 (by decide) ?_
                  exact mr_z hC hH hr rfl hF dX13_mayBegin_229 hlocks
            · rw [if_neg c_65] at hF
              refine lv_aload_n hx hb dX13_mayBegin_184 rfl (lv_at hl 4 rfl) ?_
              refine mg_70 hC hH dX13_mayBegin_185 ?_
              refine lv_aload_n hx hb dX13_mayBegin_188 rfl (lv_at hl 4 rfl) ?_
              refine mg_67 hC hH dX13_mayBegin_189 ?_
              refine lv_iload_n hx hb dX13_mayBegin_192 rfl (lv_at hl 5 rfl) ?_
              obtain ⟨g_71, hF⟩ := og_some hF
              refine ml_67 hC hH g_71 dX13_mayBegin_193 ?_
              obtain ⟨g_72, hF⟩ := og_some hF
              refine ml_70 hC hH g_72 dX13_mayBegin_194 ?_
              refine lv_iload_n hx hb dX13_mayBegin_195 rfl (lv_at hl 6 rfl) ?_
              refine lv_icmp_gt (tgt := 228) hx hb dX13_mayBegin_196 (by decide) (fun c_73 => ?_) (fun c_73 => ?_)
              · rw [if_pos c_73] at hF
                refine lv_iconst (v := 0) hx hb dX13_mayBegin_228 (by decide) ?_
                exact mr_z hC hH hr rfl hF dX13_mayBegin_229 hlocks
              · rw [if_neg c_73] at hF
                refine lv_aload_n hx hb dX13_mayBegin_199 rfl (lv_at hl 4 rfl) ?_
                refine mg_68 hC hH dX13_mayBegin_200 ?_
                refine lv_iload_n hx hb dX13_mayBegin_203 rfl (lv_at hl 5 rfl) ?_
                obtain ⟨g_74, hF⟩ := og_some hF
                refine ml_68 hC hH g_74 dX13_mayBegin_204 ?_
                refine lv_iconst (v := (-1)) hx hb dX13_mayBegin_205 (by decide) ?_
                refine lv_icmp_eq (tgt := 224) hx hb dX13_mayBegin_206 (by decide) (fun c_75 => ?_) (fun c_75 => ?_)
                · rw [if_pos c_75] at hF
                  refine lv_iconst (v := 1) hx hb dX13_mayBegin_224 (by decide) ?_
                  refine lv_goto (tgt := 229) hx hb dX13_mayBegin_225 (by decide) ?_
                  exact mr_z hC hH hr rfl hF dX13_mayBegin_229 hlocks
                · rw [if_neg c_75] at hF
                  refine lv_aload_n hx hb dX13_mayBegin_209 rfl (lv_at hl 4 rfl) ?_
                  refine mg_70 hC hH dX13_mayBegin_210 ?_
                  refine lv_aload_n hx hb dX13_mayBegin_213 rfl (lv_at hl 4 rfl) ?_
                  refine mg_68 hC hH dX13_mayBegin_214 ?_
                  refine lv_iload_n hx hb dX13_mayBegin_217 rfl (lv_at hl 5 rfl) ?_
                  obtain ⟨g_76, hF⟩ := og_some hF
                  refine ml_68 hC hH g_76 dX13_mayBegin_218 ?_
                  obtain ⟨g_77, hF⟩ := og_some hF
                  refine ml_70 hC hH g_77 dX13_mayBegin_219 ?_
                  refine lv_iload_n hx hb dX13_mayBegin_220 rfl (lv_at hl 6 rfl) ?_
                  refine lv_icmp_gt (tgt := 228) hx hb dX13_mayBegin_221 (by decide) (fun c_78 => ?_) (fun c_78 => ?_)
                  · rw [if_pos c_78] at hF
                    refine lv_iconst (v := 0) hx hb dX13_mayBegin_228 (by decide) ?_
                    exact mr_z hC hH hr rfl hF dX13_mayBegin_229 hlocks
                  · rw [if_neg c_78] at hF
                    refine lv_iconst (v := 1) hx hb dX13_mayBegin_224 (by decide) ?_
                    refine lv_goto (tgt := 229) hx hb dX13_mayBegin_225 (by decide) ?_
                    exact mr_z hC hH hr rfl hF dX13_mayBegin_229 hlocks
          · rw [if_pos c_63] at hF
            refine lv_iconst (v := 0) hx hb dX13_mayBegin_172 (by decide) ?_
            exact mr_z hC hH hr rfl hF dX13_mayBegin_173 hlocks
    · rw [if_neg c_25] at hF
      refine lv_aload_n hx hb dX13_mayBegin_34 rfl (lv_at hl 2 rfl) ?_
      refine lv_iload hx hb dX13_mayBegin_35 (lv_at hl 1 rfl) ?_
      refine lv_aload_n hx hb dX13_mayBegin_37 rfl (lv_at hl 2 rfl) ?_
      refine lv_iload hx hb dX13_mayBegin_38 (lv_at hl 1 rfl) ?_
      refine lv_aload_n hx hb dX13_mayBegin_40 rfl (lv_at hl 2 rfl) ?_
      refine lv_iload hx hb dX13_mayBegin_41 (lv_at hl 1 rfl) ?_
      obtain ⟨r_79, u_80, h_81, hF⟩ := ob_some hF
      refine mcV_i (As := [.int x_1]) (rest := [.int x_1, .ref (Q 72), .int x_1, .ref (Q 72)]) hC hH (m_rounds l G Z Q u_23 u_80 r_79 x_1 _ h_81) kwX13_rounds kVX13_rounds ⟨Nat.le_of_ble_eq_true rfl, Nat.le_of_ble_eq_true rfl⟩ rfl hl.1 rfl (Nat.le_of_ble_eq_true rfl) dX13_mayBegin_43 (fun H locs hH => ?_)
      refine lv_iconst (v := 1) hx hb dX13_mayBegin_46 (by decide) ?_
      refine lv_isub hx hb dX13_mayBegin_47 ?_
      obtain ⟨r_82, u_83, h_84, hF⟩ := ob_some hF
      refine mcV_i (As := [.int x_1, .int (r_79 - 1)]) (rest := [.int x_1, .ref (Q 72)]) hC hH (m_base l G Z Q u_80 u_83 r_82 x_1 (r_79 - 1) _ h_84) kwX13_base kVX13_base ⟨Nat.le_of_ble_eq_true rfl, Nat.le_of_ble_eq_true rfl⟩ rfl hl.1 rfl (Nat.le_of_ble_eq_true rfl) dX13_mayBegin_48 (fun H locs hH => ?_)
      refine lv_aload_n hx hb dX13_mayBegin_51 rfl (lv_at hl 2 rfl) ?_
      refine lv_iload hx hb dX13_mayBegin_52 (lv_at hl 1 rfl) ?_
      refine lv_iload hx hb dX13_mayBegin_54 (lv_at hl 0 rfl) ?_
      obtain ⟨r_85, u_86, h_87, hF⟩ := ob_some hF
      refine mcV_i (As := [.int x_1, .int x_3]) (rest := [.int r_82, .int x_1, .ref (Q 72)]) hC hH (m_halfOf l G Z Q u_83 u_86 r_85 x_1 x_3 _ h_87) kwX13_halfOf kVX13_halfOf ⟨Nat.le_of_ble_eq_true rfl, Nat.le_of_ble_eq_true rfl⟩ rfl hl.1 rfl (Nat.le_of_ble_eq_true rfl) dX13_mayBegin_56 (fun H locs hH => ?_)
      refine lv_iadd hx hb dX13_mayBegin_59 ?_
      refine lv_iload_n hx hb dX13_mayBegin_60 rfl (lv_at hl 4 rfl) ?_
      refine lv_iload_n hx hb dX13_mayBegin_61 rfl (lv_at hl 5 rfl) ?_
      obtain ⟨r_88, u_89, h_90, hF⟩ := ob_some hF
      refine mcV_i (As := [.int x_1, .int (r_82 + r_85), .int a1, .int a2]) (rest := []) hC hH (m_isOver l G Z Q u_86 u_89 r_88 x_1 (r_82 + r_85) a1 a2 _ h_90) kwX13_isOver kVX13_isOver ⟨Nat.le_of_ble_eq_true rfl, Nat.le_of_ble_eq_true rfl⟩ rfl hl.1 rfl (Nat.le_of_ble_eq_true rfl) dX13_mayBegin_62 (fun H locs hH => ?_)
      refine lv_if_eq (tgt := 95) hx hb dX13_mayBegin_65 (by decide) (fun c_91 => ?_) (fun c_91 => ?_)
      · rw [if_pos c_91] at hF
        refine lv_iconst (v := 0) hx hb dX13_mayBegin_95 (by decide) ?_
        exact mr_z hC hH hr rfl hF dX13_mayBegin_96 hlocks
      · rw [if_neg c_91] at hF
        refine lv_aload_n hx hb dX13_mayBegin_68 rfl (lv_at hl 2 rfl) ?_
        refine lv_iload hx hb dX13_mayBegin_69 (lv_at hl 1 rfl) ?_
        refine lv_iload hx hb dX13_mayBegin_71 (lv_at hl 0 rfl) ?_
        obtain ⟨r_92, u_93, h_94, hF⟩ := ob_some hF
        refine mcV_i (As := [.int x_1, .int x_3]) (rest := []) hC hH (m_stepOf l G Z Q u_89 u_93 r_92 x_1 x_3 _ h_94) kwX13_stepOf kVX13_stepOf ⟨Nat.le_of_ble_eq_true rfl, Nat.le_of_ble_eq_true rfl⟩ rfl hl.1 rfl (Nat.le_of_ble_eq_true rfl) dX13_mayBegin_73 (fun H locs hH => ?_)
        refine lv_iconst (v := 1) hx hb dX13_mayBegin_76 (by decide) ?_
        refine lv_icmp_le (tgt := 174) hx hb dX13_mayBegin_77 (by decide) (fun c_95 => ?_) (fun c_95 => ?_)
        · rw [if_pos c_95] at hF
          refine lv_aload_n hx hb dX13_mayBegin_174 rfl (lv_at hl 2 rfl) ?_
          refine mg_67 hC hH dX13_mayBegin_175 ?_
          refine lv_iload_n hx hb dX13_mayBegin_178 rfl (lv_at hl 3 rfl) ?_
          obtain ⟨g_96, hF⟩ := og_some hF
          refine ml_67 hC hH g_96 dX13_mayBegin_179 ?_
          refine lv_iconst (v := (-1)) hx hb dX13_mayBegin_180 (by decide) ?_
          refine lv_icmp_eq (tgt := 199) hx hb dX13_mayBegin_181 (by decide) (fun c_97 => ?_) (fun c_97 => ?_)
          · rw [if_pos c_97] at hF
            refine lv_aload_n hx hb dX13_mayBegin_199 rfl (lv_at hl 2 rfl) ?_
            refine mg_68 hC hH dX13_mayBegin_200 ?_
            refine lv_iload_n hx hb dX13_mayBegin_203 rfl (lv_at hl 3 rfl) ?_
            obtain ⟨g_98, hF⟩ := og_some hF
            refine ml_68 hC hH g_98 dX13_mayBegin_204 ?_
            refine lv_iconst (v := (-1)) hx hb dX13_mayBegin_205 (by decide) ?_
            refine lv_icmp_eq (tgt := 224) hx hb dX13_mayBegin_206 (by decide) (fun c_99 => ?_) (fun c_99 => ?_)
            · rw [if_pos c_99] at hF
              refine lv_iconst (v := 1) hx hb dX13_mayBegin_224 (by decide) ?_
              refine lv_goto (tgt := 229) hx hb dX13_mayBegin_225 (by decide) ?_
              exact mr_z hC hH hr rfl hF dX13_mayBegin_229 hlocks
            · rw [if_neg c_99] at hF
              refine lv_aload_n hx hb dX13_mayBegin_209 rfl (lv_at hl 2 rfl) ?_
              refine mg_70 hC hH dX13_mayBegin_210 ?_
              refine lv_aload_n hx hb dX13_mayBegin_213 rfl (lv_at hl 2 rfl) ?_
              refine mg_68 hC hH dX13_mayBegin_214 ?_
              refine lv_iload_n hx hb dX13_mayBegin_217 rfl (lv_at hl 3 rfl) ?_
              obtain ⟨g_100, hF⟩ := og_some hF
              refine ml_68 hC hH g_100 dX13_mayBegin_218 ?_
              obtain ⟨g_101, hF⟩ := og_some hF
              refine ml_70 hC hH g_101 dX13_mayBegin_219 ?_
              refine lv_iload_n hx hb dX13_mayBegin_220 rfl (lv_at hl 4 rfl) ?_
              refine lv_icmp_gt (tgt := 228) hx hb dX13_mayBegin_221 (by decide) (fun c_102 => ?_) (fun c_102 => ?_)
              · rw [if_pos c_102] at hF
                refine lv_iconst (v := 0) hx hb dX13_mayBegin_228 (by decide) ?_
                exact mr_z hC hH hr rfl hF dX13_mayBegin_229 hlocks
              · rw [if_neg c_102] at hF
                refine lv_iconst (v := 1) hx hb dX13_mayBegin_224 (by decide) ?_
                refine lv_goto (tgt := 229) hx hb dX13_mayBegin_225 (by decide) ?_
                exact mr_z hC hH hr rfl hF dX13_mayBegin_229 hlocks
          · rw [if_neg c_97] at hF
            refine lv_aload_n hx hb dX13_mayBegin_184 rfl (lv_at hl 2 rfl) ?_
            refine mg_70 hC hH dX13_mayBegin_185 ?_
            refine lv_aload_n hx hb dX13_mayBegin_188 rfl (lv_at hl 2 rfl) ?_
            refine mg_67 hC hH dX13_mayBegin_189 ?_
            refine lv_iload_n hx hb dX13_mayBegin_192 rfl (lv_at hl 3 rfl) ?_
            obtain ⟨g_103, hF⟩ := og_some hF
            refine ml_67 hC hH g_103 dX13_mayBegin_193 ?_
            obtain ⟨g_104, hF⟩ := og_some hF
            refine ml_70 hC hH g_104 dX13_mayBegin_194 ?_
            refine lv_iload_n hx hb dX13_mayBegin_195 rfl (lv_at hl 4 rfl) ?_
            refine lv_icmp_gt (tgt := 228) hx hb dX13_mayBegin_196 (by decide) (fun c_105 => ?_) (fun c_105 => ?_)
            · rw [if_pos c_105] at hF
              refine lv_iconst (v := 0) hx hb dX13_mayBegin_228 (by decide) ?_
              exact mr_z hC hH hr rfl hF dX13_mayBegin_229 hlocks
            · rw [if_neg c_105] at hF
              refine lv_aload_n hx hb dX13_mayBegin_199 rfl (lv_at hl 2 rfl) ?_
              refine mg_68 hC hH dX13_mayBegin_200 ?_
              refine lv_iload_n hx hb dX13_mayBegin_203 rfl (lv_at hl 3 rfl) ?_
              obtain ⟨g_106, hF⟩ := og_some hF
              refine ml_68 hC hH g_106 dX13_mayBegin_204 ?_
              refine lv_iconst (v := (-1)) hx hb dX13_mayBegin_205 (by decide) ?_
              refine lv_icmp_eq (tgt := 224) hx hb dX13_mayBegin_206 (by decide) (fun c_107 => ?_) (fun c_107 => ?_)
              · rw [if_pos c_107] at hF
                refine lv_iconst (v := 1) hx hb dX13_mayBegin_224 (by decide) ?_
                refine lv_goto (tgt := 229) hx hb dX13_mayBegin_225 (by decide) ?_
                exact mr_z hC hH hr rfl hF dX13_mayBegin_229 hlocks
              · rw [if_neg c_107] at hF
                refine lv_aload_n hx hb dX13_mayBegin_209 rfl (lv_at hl 2 rfl) ?_
                refine mg_70 hC hH dX13_mayBegin_210 ?_
                refine lv_aload_n hx hb dX13_mayBegin_213 rfl (lv_at hl 2 rfl) ?_
                refine mg_68 hC hH dX13_mayBegin_214 ?_
                refine lv_iload_n hx hb dX13_mayBegin_217 rfl (lv_at hl 3 rfl) ?_
                obtain ⟨g_108, hF⟩ := og_some hF
                refine ml_68 hC hH g_108 dX13_mayBegin_218 ?_
                obtain ⟨g_109, hF⟩ := og_some hF
                refine ml_70 hC hH g_109 dX13_mayBegin_219 ?_
                refine lv_iload_n hx hb dX13_mayBegin_220 rfl (lv_at hl 4 rfl) ?_
                refine lv_icmp_gt (tgt := 228) hx hb dX13_mayBegin_221 (by decide) (fun c_110 => ?_) (fun c_110 => ?_)
                · rw [if_pos c_110] at hF
                  refine lv_iconst (v := 0) hx hb dX13_mayBegin_228 (by decide) ?_
                  exact mr_z hC hH hr rfl hF dX13_mayBegin_229 hlocks
                · rw [if_neg c_110] at hF
                  refine lv_iconst (v := 1) hx hb dX13_mayBegin_224 (by decide) ?_
                  refine lv_goto (tgt := 229) hx hb dX13_mayBegin_225 (by decide) ?_
                  exact mr_z hC hH hr rfl hF dX13_mayBegin_229 hlocks
        · rw [if_neg c_95] at hF
          refine lv_aload_n hx hb dX13_mayBegin_80 rfl (lv_at hl 2 rfl) ?_
          refine lv_iload hx hb dX13_mayBegin_81 (lv_at hl 1 rfl) ?_
          refine lv_iload hx hb dX13_mayBegin_83 (lv_at hl 0 rfl) ?_
          refine lv_iconst (v := 1) hx hb dX13_mayBegin_85 (by decide) ?_
          refine lv_isub hx hb dX13_mayBegin_86 ?_
          refine lv_iload_n hx hb dX13_mayBegin_87 rfl (lv_at hl 4 rfl) ?_
          refine lv_iload_n hx hb dX13_mayBegin_88 rfl (lv_at hl 5 rfl) ?_
          obtain ⟨r_111, u_112, h_113, hF⟩ := ob_some hF
          refine mcV_i (As := [.int x_1, .int (x_3 - 1), .int a1, .int a2]) (rest := []) hC hH (m_isOver l G Z Q u_93 u_112 r_111 x_1 (x_3 - 1) a1 a2 _ h_113) kwX13_isOver kVX13_isOver ⟨Nat.le_of_ble_eq_true rfl, Nat.le_of_ble_eq_true rfl⟩ rfl hl.1 rfl (Nat.le_of_ble_eq_true rfl) dX13_mayBegin_89 (fun H locs hH => ?_)
          refine lv_if_ne (tgt := 174) hx hb dX13_mayBegin_92 (by decide) (fun c_114 => ?_) (fun c_114 => ?_)
          · rw [if_neg c_114] at hF
            refine lv_aload_n hx hb dX13_mayBegin_174 rfl (lv_at hl 2 rfl) ?_
            refine mg_67 hC hH dX13_mayBegin_175 ?_
            refine lv_iload_n hx hb dX13_mayBegin_178 rfl (lv_at hl 3 rfl) ?_
            obtain ⟨g_115, hF⟩ := og_some hF
            refine ml_67 hC hH g_115 dX13_mayBegin_179 ?_
            refine lv_iconst (v := (-1)) hx hb dX13_mayBegin_180 (by decide) ?_
            refine lv_icmp_eq (tgt := 199) hx hb dX13_mayBegin_181 (by decide) (fun c_116 => ?_) (fun c_116 => ?_)
            · rw [if_pos c_116] at hF
              refine lv_aload_n hx hb dX13_mayBegin_199 rfl (lv_at hl 2 rfl) ?_
              refine mg_68 hC hH dX13_mayBegin_200 ?_
              refine lv_iload_n hx hb dX13_mayBegin_203 rfl (lv_at hl 3 rfl) ?_
              obtain ⟨g_117, hF⟩ := og_some hF
              refine ml_68 hC hH g_117 dX13_mayBegin_204 ?_
              refine lv_iconst (v := (-1)) hx hb dX13_mayBegin_205 (by decide) ?_
              refine lv_icmp_eq (tgt := 224) hx hb dX13_mayBegin_206 (by decide) (fun c_118 => ?_) (fun c_118 => ?_)
              · rw [if_pos c_118] at hF
                refine lv_iconst (v := 1) hx hb dX13_mayBegin_224 (by decide) ?_
                refine lv_goto (tgt := 229) hx hb dX13_mayBegin_225 (by decide) ?_
                exact mr_z hC hH hr rfl hF dX13_mayBegin_229 hlocks
              · rw [if_neg c_118] at hF
                refine lv_aload_n hx hb dX13_mayBegin_209 rfl (lv_at hl 2 rfl) ?_
                refine mg_70 hC hH dX13_mayBegin_210 ?_
                refine lv_aload_n hx hb dX13_mayBegin_213 rfl (lv_at hl 2 rfl) ?_
                refine mg_68 hC hH dX13_mayBegin_214 ?_
                refine lv_iload_n hx hb dX13_mayBegin_217 rfl (lv_at hl 3 rfl) ?_
                obtain ⟨g_119, hF⟩ := og_some hF
                refine ml_68 hC hH g_119 dX13_mayBegin_218 ?_
                obtain ⟨g_120, hF⟩ := og_some hF
                refine ml_70 hC hH g_120 dX13_mayBegin_219 ?_
                refine lv_iload_n hx hb dX13_mayBegin_220 rfl (lv_at hl 4 rfl) ?_
                refine lv_icmp_gt (tgt := 228) hx hb dX13_mayBegin_221 (by decide) (fun c_121 => ?_) (fun c_121 => ?_)
                · rw [if_pos c_121] at hF
                  refine lv_iconst (v := 0) hx hb dX13_mayBegin_228 (by decide) ?_
                  exact mr_z hC hH hr rfl hF dX13_mayBegin_229 hlocks
                · rw [if_neg c_121] at hF
                  refine lv_iconst (v := 1) hx hb dX13_mayBegin_224 (by decide) ?_
                  refine lv_goto (tgt := 229) hx hb dX13_mayBegin_225 (by decide) ?_
                  exact mr_z hC hH hr rfl hF dX13_mayBegin_229 hlocks
            · rw [if_neg c_116] at hF
              refine lv_aload_n hx hb dX13_mayBegin_184 rfl (lv_at hl 2 rfl) ?_
              refine mg_70 hC hH dX13_mayBegin_185 ?_
              refine lv_aload_n hx hb dX13_mayBegin_188 rfl (lv_at hl 2 rfl) ?_
              refine mg_67 hC hH dX13_mayBegin_189 ?_
              refine lv_iload_n hx hb dX13_mayBegin_192 rfl (lv_at hl 3 rfl) ?_
              obtain ⟨g_122, hF⟩ := og_some hF
              refine ml_67 hC hH g_122 dX13_mayBegin_193 ?_
              obtain ⟨g_123, hF⟩ := og_some hF
              refine ml_70 hC hH g_123 dX13_mayBegin_194 ?_
              refine lv_iload_n hx hb dX13_mayBegin_195 rfl (lv_at hl 4 rfl) ?_
              refine lv_icmp_gt (tgt := 228) hx hb dX13_mayBegin_196 (by decide) (fun c_124 => ?_) (fun c_124 => ?_)
              · rw [if_pos c_124] at hF
                refine lv_iconst (v := 0) hx hb dX13_mayBegin_228 (by decide) ?_
                exact mr_z hC hH hr rfl hF dX13_mayBegin_229 hlocks
              · rw [if_neg c_124] at hF
                refine lv_aload_n hx hb dX13_mayBegin_199 rfl (lv_at hl 2 rfl) ?_
                refine mg_68 hC hH dX13_mayBegin_200 ?_
                refine lv_iload_n hx hb dX13_mayBegin_203 rfl (lv_at hl 3 rfl) ?_
                obtain ⟨g_125, hF⟩ := og_some hF
                refine ml_68 hC hH g_125 dX13_mayBegin_204 ?_
                refine lv_iconst (v := (-1)) hx hb dX13_mayBegin_205 (by decide) ?_
                refine lv_icmp_eq (tgt := 224) hx hb dX13_mayBegin_206 (by decide) (fun c_126 => ?_) (fun c_126 => ?_)
                · rw [if_pos c_126] at hF
                  refine lv_iconst (v := 1) hx hb dX13_mayBegin_224 (by decide) ?_
                  refine lv_goto (tgt := 229) hx hb dX13_mayBegin_225 (by decide) ?_
                  exact mr_z hC hH hr rfl hF dX13_mayBegin_229 hlocks
                · rw [if_neg c_126] at hF
                  refine lv_aload_n hx hb dX13_mayBegin_209 rfl (lv_at hl 2 rfl) ?_
                  refine mg_70 hC hH dX13_mayBegin_210 ?_
                  refine lv_aload_n hx hb dX13_mayBegin_213 rfl (lv_at hl 2 rfl) ?_
                  refine mg_68 hC hH dX13_mayBegin_214 ?_
                  refine lv_iload_n hx hb dX13_mayBegin_217 rfl (lv_at hl 3 rfl) ?_
                  obtain ⟨g_127, hF⟩ := og_some hF
                  refine ml_68 hC hH g_127 dX13_mayBegin_218 ?_
                  obtain ⟨g_128, hF⟩ := og_some hF
                  refine ml_70 hC hH g_128 dX13_mayBegin_219 ?_
                  refine lv_iload_n hx hb dX13_mayBegin_220 rfl (lv_at hl 4 rfl) ?_
                  refine lv_icmp_gt (tgt := 228) hx hb dX13_mayBegin_221 (by decide) (fun c_129 => ?_) (fun c_129 => ?_)
                  · rw [if_pos c_129] at hF
                    refine lv_iconst (v := 0) hx hb dX13_mayBegin_228 (by decide) ?_
                    exact mr_z hC hH hr rfl hF dX13_mayBegin_229 hlocks
                  · rw [if_neg c_129] at hF
                    refine lv_iconst (v := 1) hx hb dX13_mayBegin_224 (by decide) ?_
                    refine lv_goto (tgt := 229) hx hb dX13_mayBegin_225 (by decide) ?_
                    exact mr_z hC hH hr rfl hF dX13_mayBegin_229 hlocks
          · rw [if_pos c_114] at hF
            refine lv_iconst (v := 0) hx hb dX13_mayBegin_95 (by decide) ?_
            exact mr_z hC hH hr rfl hF dX13_mayBegin_96 hlocks
def lp_plan_41 : Nat → Int32 → Int32 → Int32 → Int32 → Int32 → Int32 → MS → (Int32 → Int32 → Int32 → Int32 → Int32 → Int32 → MS → Option (Int32 × MS)) → Option (Int32 × MS)
  | 0, _, _, _, _, _, _, _, _ => none
  | n41 + 1, v1, v2, v3, v4, v5, v6, u, K41_90 => (if (u.1 2) ≤ v6 then K41_90 v1 v2 v3 v4 v5 v6 u else og (gi v6 96) ((if (ra u 11 v6) = (-1) then og (gi v6 96) (lu (wa u 70 v6 0) (fun u_21 => li (v6 + 1) (fun x_23 => lp_plan_41 n41 v1 v2 v3 v4 v5 x_23 u_21 K41_90))) else og (gi v6 96) (og (gi v6 96) (lu (wa u 70 v6 ((ra u 11 v6) + (u.1 4))) (fun u_16 => li (v6 + 1) (fun x_18 => lp_plan_41 n41 v1 v2 v3 v4 v5 x_18 u_16 K41_90)))))))
def lp_plan_93 : Nat → Int32 → Int32 → Int32 → Int32 → Int32 → Int32 → MS → (Int32 → Int32 → Int32 → Int32 → Int32 → Int32 → MS → Option (Int32 × MS)) → Option (Int32 × MS)
  | 0, _, _, _, _, _, _, _, _ => none
  | n93 + 1, v1, v2, v3, v4, v5, v6, u, K93_133 => (if 4 ≤ v6 then K93_133 v1 v2 v3 v4 v5 v6 u else og (gi v6 4) ((if (ra u 22 v6) = (-1) then og (gi v6 4) (lu (wa u 71 v6 0) (fun u_34 => li (v6 + 1) (fun x_36 => lp_plan_93 n93 v1 v2 v3 v4 v5 x_36 u_34 K93_133))) else og (gi v6 4) (lu (wa u 71 v6 ((u.1 3) + v2)) (fun u_29 => li (v6 + 1) (fun x_31 => lp_plan_93 n93 v1 v2 v3 v4 v5 x_31 u_29 K93_133))))))
def lp_plan_350 : Nat → Int32 → Int32 → Int32 → Int32 → Int32 → Int32 → Int32 → Int32 → Int32 → MS → (Int32 → Int32 → Int32 → Int32 → Int32 → Int32 → Int32 → Int32 → Int32 → MS → Option (Int32 × MS)) → Option (Int32 × MS)
  | 0, _, _, _, _, _, _, _, _, _, _, _ => none
  | n350 + 1, v1, v2, v3, v4, v5, v6, v7, v8, v9, u, K350_399 => (if v9 ≤ 0 then K350_399 v1 v2 v3 v4 v5 v6 v7 v8 v9 u else og (gi (v9 - 1) 160) (ob (f_stage (ra u 66 (v9 - 1)) u) (fun r_86 u_87 => ob (f_stage v8 u_87) (fun r_89 u_90 => (if r_86 ≤ r_89 then K350_399 v1 v2 v3 v4 v5 v6 v7 v8 v9 u_90 else og (gi (v9 - 1) 160) (og (gi v9 160) (lu (wa u_90 66 v9 (ra u_90 66 (v9 - 1))) (fun u_95 => li (v9 + (-1)) (fun x_97 => lp_plan_350 n350 v1 v2 v3 v4 v5 v6 v7 v8 x_97 u_95 K350_399)))))))))
def lp_plan_145 : Nat → Int32 → Int32 → Int32 → Int32 → Int32 → Int32 → Int32 → MS → (Int32 → Int32 → Int32 → Int32 → Int32 → Int32 → Int32 → MS → Option (Int32 × MS)) → Option (Int32 × MS)
  | 0, _, _, _, _, _, _, _, _, _ => none
  | n145 + 1, v1, v2, v3, v4, v5, v6, v7, u, K145_417 => (if 40 ≤ v7 then K145_417 v1 v2 v3 v4 v5 v6 v7 u else li ((40 * v6) + v7) (fun x_40 => og (gi x_40 160) (lu (wa u 65 x_40 0) (fun u_43 => og (gi x_40 160) (lu (wa u_43 63 x_40 (-1)) (fun u_46 => og (gi x_40 160) (lu (wa u_46 64 x_40 (-1)) (fun u_49 => ob (f_fights v6 u_49) (fun r_51 u_52 => (if r_51 ≤ v7 then li (v7 + 1) (fun x_55 => lp_plan_145 n145 v1 v2 v3 v4 v5 v6 x_55 u_52 K145_417) else og (gi x_40 160) ((if (ra u_52 15 x_40) = 2 then li (v7 + 1) (fun x_59 => lp_plan_145 n145 v1 v2 v3 v4 v5 v6 x_59 u_52 K145_417) else ob (f_isWalk v6 v7 u_52) (fun r_61 u_62 => (if r_61 = 0 then ob (fS 24 0 v6 v7 0 0 u_62) (fun r_65 u_66 => og (gi x_40 160) (lu (wa u_66 67 x_40 (if (-1) < r_65 then r_65 else (-1))) (fun u_69 => ob (fS 24 0 v6 v7 1 0 u_69) (fun r_71 u_72 => og (gi x_40 160) (lu (wa u_72 68 x_40 (if (-1) < r_71 then r_71 else (-1))) (fun u_75 => og (gi x_40 160) ((if (ra u_75 15 x_40) = 1 then og (gi x_40 160) (lu (wa u_75 65 x_40 2) (fun u_107 => ob (f_matOf v6 v7 u_107) (fun r_109 u_110 => og (gi x_40 160) (lu (wa u_110 63 x_40 r_109) (fun u_113 => og (gi x_40 160) (lu (wa u_113 64 x_40 (u_113.1 3)) (fun u_116 => li (if v4 < ((u_116.1 3) + v2) then ((u_116.1 3) + v2) else v4) (fun x_118 => ob (f_tires x_40 ((u_116.1 3) + v2) u_116) (fun r_120 u_121 => li (v7 + 1) (fun x_123 => lp_plan_145 n145 v1 v2 v3 x_118 v5 v6 x_123 u_121 K145_417)))))))))) else og (gi x_40 160) (lu (wa u_75 65 x_40 1) (fun u_80 => li (v3 + 1) (fun x_82 => lp_plan_350 fuel v1 v2 x_82 v4 v5 v6 v7 x_40 v5 u_80 (fun v1 v2 v3 v4 v5 v6 v7 v8 v9 u => og (gi v9 160) (lu (wa u 66 v9 v8) (fun u_100 => li (v5 + 1) (fun x_102 => li (v7 + 1) (fun x_104 => lp_plan_145 n145 v1 v2 v3 v4 x_102 v6 x_104 u_100 K145_417)))))))))))))))) else li (v7 + 1) (fun x_125 => lp_plan_145 n145 v1 v2 v3 v4 v5 v6 x_125 u_62 K145_417)))))))))))))))
def lp_plan_136 : Nat → Int32 → Int32 → Int32 → Int32 → Int32 → Int32 → MS → (Int32 → Int32 → Int32 → Int32 → Int32 → Int32 → MS → Option (Int32 × MS)) → Option (Int32 × MS)
  | 0, _, _, _, _, _, _, _, _ => none
  | n136 + 1, v1, v2, v3, v4, v5, v6, u, K136_423 => (if 4 ≤ v6 then K136_423 v1 v2 v3 v4 v5 v6 u else lp_plan_145 fuel v1 v2 v3 v4 v5 v6 0 u (fun v1 v2 v3 v4 v5 v6 v7 u => li (v6 + 1) (fun x_127 => lp_plan_136 n136 v1 v2 v3 v4 v5 x_127 u K136_423)))
def lp_plan_467 : Nat → Int32 → Int32 → Int32 → Int32 → Int32 → Int32 → Int32 → Int32 → Int32 → MS → (Int32 → Int32 → Int32 → Int32 → Int32 → Int32 → Int32 → Int32 → Int32 → MS → Option (Int32 × MS)) → Option (Int32 × MS)
  | 0, _, _, _, _, _, _, _, _, _, _, _ => none
  | n467 + 1, v1, v2, v3, v4, v5, v6, v7, v8, v9, u, K467_528 => (if v5 ≤ v9 then K467_528 v1 v2 v3 v4 v5 v6 v7 v8 v9 u else (if v8 = (-1) then og (gi v9 160) (og (gi (ra u 66 v9) 160) ((if (ra u 65 (ra u 66 v9)) = 1 then og (gi v9 160) (ob (f_mayBegin (ra u 66 v9) v6 v2 u) (fun r_144 u_145 => (if r_144 = 0 then li (v9 + 1) (fun x_148 => lp_plan_467 n467 v1 v2 v3 v4 v5 v6 v7 v8 x_148 u_145 K467_528) else og (gi v9 160) (li (ra u_145 66 v9) (fun x_151 => li (v9 + 1) (fun x_153 => lp_plan_467 n467 v1 v2 v3 v4 v5 v6 v7 x_151 x_153 u_145 K467_528)))))) else li (v9 + 1) (fun x_141 => lp_plan_467 n467 v1 v2 v3 v4 v5 v6 v7 v8 x_141 u K467_528)))) else K467_528 v1 v2 v3 v4 v5 v6 v7 v8 v9 u))
def lp_plan_436 : Nat → Int32 → Int32 → Int32 → Int32 → Int32 → Int32 → Int32 → MS → (Int32 → Int32 → Int32 → Int32 → Int32 → Int32 → Int32 → MS → Option (Int32 × MS)) → Option (Int32 × MS)
  | 0, _, _, _, _, _, _, _, _, _ => none
  | n436 + 1, v1, v2, v3, v4, v5, v6, v7, u, K436_604 => (if v1 ≤ v7 then K436_604 v1 v2 v3 v4 v5 v6 v7 u else (if v3 ≤ 0 then K436_604 v1 v2 v3 v4 v5 v6 v7 u else og (gi v7 4) ((if (ra u 71 v7) ≤ v6 then lp_plan_467 fuel v1 v2 v3 v4 v5 v6 v7 (-1) 0 u (fun v1 v2 v3 v4 v5 v6 v7 v8 v9 u => (if v8 = (-1) then li (v7 + 1) (fun x_177 => lp_plan_436 n436 v1 v2 v3 v4 v5 v6 x_177 u K436_604) else og (gi v8 160) (lu (wa u 65 v8 2) (fun u_157 => og (gi v8 160) (lu (wa u_157 63 v8 v7) (fun u_160 => og (gi v8 160) (lu (wa u_160 64 v8 v6) (fun u_163 => og (gi v7 4) (lu (wa u_163 71 v7 (v6 + v2)) (fun u_166 => ob (f_tires v8 (v6 + v2) u_166) (fun r_168 u_169 => li (v3 + (-1)) (fun x_171 => li (if v4 < (v6 + v2) then (v6 + v2) else v4) (fun x_173 => li (v7 + 1) (fun x_175 => lp_plan_436 n436 v1 v2 x_171 x_173 v5 v6 x_175 u_169 K436_604)))))))))))))) else li (v7 + 1) (fun x_179 => lp_plan_436 n436 v1 v2 v3 v4 v5 v6 x_179 u K436_604)))))
def lp_plan_429 : Nat → Int32 → Int32 → Int32 → Int32 → Int32 → Int32 → MS → (Int32 → Int32 → Int32 → Int32 → Int32 → Int32 → MS → Option (Int32 × MS)) → Option (Int32 × MS)
  | 0, _, _, _, _, _, _, _, _ => none
  | n429 + 1, v1, v2, v3, v4, v5, v6, u, K429_628 => (if v3 ≤ 0 then K429_628 v1 v2 v3 v4 v5 v6 u else lp_plan_436 fuel v1 v2 v3 v4 v5 v6 0 u (fun v1 v2 v3 v4 v5 v6 v7 u => (if 100000 < v4 then some (-1, u) else (if v6 ≤ 100000 then li (v6 + 1) (fun x_183 => lp_plan_429 n429 v1 v2 v3 v4 v5 x_183 u K429_628) else some (-1, u)))))
def lp_plan_631 : Nat → Int32 → Int32 → Int32 → Int32 → Int32 → Int32 → Int32 → MS → (Int32 → Int32 → Int32 → Int32 → Int32 → Int32 → Int32 → MS → Option (Int32 × MS)) → Option (Int32 × MS)
  | 0, _, _, _, _, _, _, _, _, _ => none
  | n631 + 1, v1, v2, v3, v4, v5, v6, v7, u, K631_673 => (if 160 ≤ v7 then K631_673 v1 v2 v3 v4 v5 v6 v7 u else og (gi v7 160) (og (gi v7 160) (lu (wa u 61 v7 (ra u 63 v7)) (fun u_188 => og (gi v7 160) (og (gi v7 160) (lu (wa u_188 62 v7 (ra u_188 64 v7)) (fun u_192 => li (v7 + 1) (fun x_194 => lp_plan_631 n631 v1 v2 v3 v4 v5 v6 x_194 u_192 K631_673))))))))
def f_plan (a0 : Int32) (a1 : Int32) (u : MS) : Option (Int32 × MS) := ob (f_in a0.toInt64 1 4 u) (fun r_1 u_2 => (if r_1 = 0 then some (-2, u_2) else ob (f_in a1.toInt64 1 60 u_2) (fun r_5 u_6 => (if r_5 = 0 then some (-2, u_6) else li (u_6.1 3) (fun x_9 => lp_plan_41 fuel a0 a1 0 x_9 0 0 u_6 (fun v1 v2 v3 v4 v5 v6 u => lp_plan_93 fuel v1 v2 v3 v4 v5 0 u (fun v1 v2 v3 v4 v5 v6 u => lp_plan_136 fuel v1 v2 v3 v4 v5 0 u (fun v1 v2 v3 v4 v5 v6 u => li (u.1 3) (fun x_129 => lp_plan_429 fuel v1 v2 v3 v4 v5 x_129 u (fun v1 v2 v3 v4 v5 v6 u => lp_plan_631 fuel v1 v2 v3 v4 v5 v6 0 u (fun v1 v2 v3 v4 v5 v6 v7 u => lu (si u 69 1) (fun u_196 => some (v4, u_196)))))))))))))
set_option maxHeartbeats 4000000 in
set_option maxRecDepth 100000 in
theorem m_plan (l : Launch) (G : gG) (Z : gM) (Q : Nat → Nat) (u u1 : MS) (r : Int32) (a0 : Int32) (a1 : Int32) (sz : Nat) (hF : f_plan a0 a1 u = some (r, u1)) : Met l yX13_plan (Cond.code yX13_plan cX13_plan 10 (some .int) :: wM) { frames := 310, cells := 0, slots := 0, locals := 3810 } (va_Pc [.ref (Q 72), .int a0, .int a1] (mPM G Z Q u sz)) (mQi G Q u1 r sz) 0 0 (mA Q sz) := by
  refine Met.ofW (cc := cX13_plan) (maxL := 10) (ret := (some .int)) (by decide) rfl ?_
  intro p e s m args below meth c s₁ B hml hv
  obtain ⟨rfl, rfl, hP, hB, hD, hE⟩ := hv
  have hr := B.returns
  have hlocks := B.notSynchronized
  have hts := atoms_spec (ws := Cond.code yX13_plan cX13_plan 10 (some .int) :: wM) B.pre
  have hC : mX p c cX13_plan 10 s m _ G Z Q := ⟨B.exec, B.bytes, hml, findClass_of_methodNamed B.named, fun w h => hts w (List.mem_cons_of_mem _ h), hB, hE⟩
  have hx := hC.1
  have hb := hC.2.1
  have hH : mH G Q u s s.heap [] := ⟨hP, hD, va_S.rf⟩
  have hl := lv_entry ([.ref (Q 72), .int a0, .int a1]) (n := 10) (Nat.le_of_ble_eq_true rfl)
  rw [lg_entry_eq]
  generalize (lg_sl ([.ref (Q 72), .int a0, .int a1]) ++ List.replicate (10 - (lg_sl ([.ref (Q 72), .int a0, .int a1])).length) Slot.unset).toArray = ls at hl ⊢
  have hl : lv_has ls 10 [(0, .ref (Q 72)), (1, .int a0), (2, .int a1)] := hl
  unfold f_plan at hF
  refine lv_iload_n hx hb dX13_plan_0 rfl (lv_at hl 1 rfl) ?_
  refine lv_i2l (v := a0.toInt64) hx hb dX13_plan_1 rfl ?_
  refine lv_lconst (v := 1) hx hb dX13_plan_2 (by decide) ?_
  refine lv_ldc2 (v := 4) hx hb hC.2.2.2.1 (hC.2.2.2.2.1 _ wma170) dX13_plan_3 ?_
  obtain ⟨r_1, u_2, h_3, hF⟩ := ob_some hF
  refine mcS_i (As := [.long a0.toInt64, .long 1, .long 4]) (rest := []) hC hH (m_in l G Z Q u u_2 r_1 a0.toInt64 1 4 _ h_3) kwX13_in kVX13_in ⟨Nat.le_of_ble_eq_true rfl, Nat.le_of_ble_eq_true rfl⟩ rfl hl.1 rfl (Nat.le_of_ble_eq_true rfl) dX13_plan_6 (fun H locs hH => ?_)
  refine lv_if_eq (tgt := 24) hx hb dX13_plan_9 (by decide) (fun c_4 => ?_) (fun c_4 => ?_)
  · rw [if_pos c_4] at hF
    refine lv_bipush (v := (-2)) hx hb dX13_plan_24 (by decide) ?_
    exact mr_i hC hH hr hF dX13_plan_26 hlocks
  · rw [if_neg c_4] at hF
    refine lv_iload_n hx hb dX13_plan_12 rfl (lv_at hl 2 rfl) ?_
    refine lv_i2l (v := a1.toInt64) hx hb dX13_plan_13 rfl ?_
    refine lv_lconst (v := 1) hx hb dX13_plan_14 (by decide) ?_
    refine lv_ldc2 (v := 60) hx hb hC.2.2.2.1 (hC.2.2.2.2.1 _ wma171) dX13_plan_15 ?_
    obtain ⟨r_5, u_6, h_7, hF⟩ := ob_some hF
    refine mcS_i (As := [.long a1.toInt64, .long 1, .long 60]) (rest := []) hC hH (m_in l G Z Q u_2 u_6 r_5 a1.toInt64 1 60 _ h_7) kwX13_in kVX13_in ⟨Nat.le_of_ble_eq_true rfl, Nat.le_of_ble_eq_true rfl⟩ rfl hl.1 rfl (Nat.le_of_ble_eq_true rfl) dX13_plan_18 (fun H locs hH => ?_)
    refine lv_if_ne (tgt := 27) hx hb dX13_plan_21 (by decide) (fun c_8 => ?_) (fun c_8 => ?_)
    · rw [if_neg c_8] at hF
      refine lv_iconst (v := 0) hx hb dX13_plan_27 (by decide) ?_
      refine lv_istore_n (lv' := [(3, .int 0), (0, .ref (Q 72)), (1, .int a0), (2, .int a1)]) hx hb dX13_plan_28 rfl hl (by decide) rfl (fun ls hl => ?_)
      refine lv_aload_n hx hb dX13_plan_29 rfl (lv_at hl 1 rfl) ?_
      refine mg_3 hC hH dX13_plan_30 ?_
      obtain ⟨x_9, e_10, hF⟩ := li_some hF
      refine gx_ti e_10 ?_
      refine lv_istore (lv' := [(4, .int x_9), (3, .int 0), (0, .ref (Q 72)), (1, .int a0), (2, .int a1)]) hx hb dX13_plan_33 hl (by decide) rfl (fun ls hl => ?_)
      refine lv_iconst (v := 0) hx hb dX13_plan_35 (by decide) ?_
      refine lv_istore (lv' := [(5, .int 0), (4, .int x_9), (3, .int 0), (0, .ref (Q 72)), (1, .int a0), (2, .int a1)]) hx hb dX13_plan_36 hl (by decide) rfl (fun ls hl => ?_)
      refine lv_iconst (v := 0) hx hb dX13_plan_38 (by decide) ?_
      refine lv_istore (lv' := [(6, .int 0), (5, .int 0), (4, .int x_9), (3, .int 0), (0, .ref (Q 72)), (1, .int a0), (2, .int a1)]) hx hb dX13_plan_39 hl (by decide) rfl (fun ls hl => ?_)
      have hL41 : ∀ (K41_90 : Int32 → Int32 → Int32 → Int32 → Int32 → Int32 → MS → Option (Int32 × MS)), (∀ (v1 v2 v3 v4 v5 v6 : Int32) (u : MS) (H : Heap) (locs : List Loc) (ls : Array Slot), lv_has ls 10 [(0, .ref (Q 72)), (1, .int v1), (2, .int v2), (3, .int v3), (4, .int v4), (5, .int v5), (6, .int v6)] → mH G Q u s H locs → K41_90 v1 v2 v3 v4 v5 v6 u = some ((r, u1)) → W p l e (headSpec (Cond.code yX13_plan cX13_plan 10 (some .int) :: wM) { frames := 310, cells := 0, slots := 0, locals := 3810 }).room s m [.ref (Q 72), .int a0, .int a1].toArray below meth c H locs 0 0 (MQ below (mQi G Q u1 r s.heap.size) [.ref (Q 72), .int a0, .int a1].toArray s 0 0 (mA Q s.heap.size)) (F0 m 90 ls [])) → ∀ (n41 : Nat) (v1 v2 v3 v4 v5 v6 : Int32) (u : MS) (H : Heap) (locs : List Loc) (ls : Array Slot), lv_has ls 10 [(0, .ref (Q 72)), (1, .int v1), (2, .int v2), (3, .int v3), (4, .int v4), (5, .int v5), (6, .int v6)] → mH G Q u s H locs → lp_plan_41 n41 v1 v2 v3 v4 v5 v6 u K41_90 = some ((r, u1)) → W p l e (headSpec (Cond.code yX13_plan cX13_plan 10 (some .int) :: wM) { frames := 310, cells := 0, slots := 0, locals := 3810 }).room s m [.ref (Q 72), .int a0, .int a1].toArray below meth c H locs 0 0 (MQ below (mQi G Q u1 r s.heap.size) [.ref (Q 72), .int a0, .int a1].toArray s 0 0 (mA Q s.heap.size)) (F0 m 41 ls []) := by
        intro K41_90 hK41_90 n41
        induction n41 with
        | zero => intro v1 v2 v3 v4 v5 v6 u H locs ls hl hH hF; cases hF
        | succ n41 ih41 =>
          intro v1 v2 v3 v4 v5 v6 u H locs ls hl hH hF
          unfold lp_plan_41 at hF
          refine lv_iload hx hb dX13_plan_41 (lv_at hl 6 rfl) ?_
          refine lv_aload_n hx hb dX13_plan_43 rfl (lv_at hl 0 rfl) ?_
          refine mg_2 hC hH dX13_plan_44 ?_
          refine lv_icmp_ge (tgt := 90) hx hb dX13_plan_47 (by decide) (fun c_11 => ?_) (fun c_11 => ?_)
          · rw [if_pos c_11] at hF
            exact hK41_90 v1 v2 v3 v4 v5 v6 u _ _ _ (lv_sub hl [0, 1, 2, 3, 4, 5, 6] rfl) hH hF
          · rw [if_neg c_11] at hF
            refine lv_aload_n hx hb dX13_plan_50 rfl (lv_at hl 0 rfl) ?_
            refine mg_70 hC hH dX13_plan_51 ?_
            refine lv_iload hx hb dX13_plan_54 (lv_at hl 6 rfl) ?_
            refine lv_aload_n hx hb dX13_plan_56 rfl (lv_at hl 0 rfl) ?_
            refine mg_11 hC hH dX13_plan_57 ?_
            refine lv_iload hx hb dX13_plan_60 (lv_at hl 6 rfl) ?_
            obtain ⟨g_12, hF⟩ := og_some hF
            refine ml_11 hC hH g_12 dX13_plan_62 ?_
            refine lv_iconst (v := (-1)) hx hb dX13_plan_63 (by decide) ?_
            refine lv_icmp_ne (tgt := 71) hx hb dX13_plan_64 (by decide) (fun c_13 => ?_) (fun c_13 => ?_)
            · rw [if_neg c_13] at hF
              refine lv_aload_n hx hb dX13_plan_71 rfl (lv_at hl 0 rfl) ?_
              refine mg_11 hC hH dX13_plan_72 ?_
              refine lv_iload hx hb dX13_plan_75 (lv_at hl 6 rfl) ?_
              obtain ⟨g_14, hF⟩ := og_some hF
              refine ml_11 hC hH g_14 dX13_plan_77 ?_
              refine lv_aload_n hx hb dX13_plan_78 rfl (lv_at hl 0 rfl) ?_
              refine mg_4 hC hH dX13_plan_79 ?_
              refine lv_iadd hx hb dX13_plan_82 ?_
              obtain ⟨g_15, hF⟩ := og_some hF
              obtain ⟨u_16, e_17, hF⟩ := lu_some hF
              refine ms_70 hC hH e_17 g_15 dX13_plan_83 (fun H locs hH => ?_)
              obtain ⟨x_18, e_19, hF⟩ := li_some hF
              refine lv_iinc (v := x_18) (lv' := [(6, .int x_18), (0, .ref (Q 72)), (1, .int v1), (2, .int v2), (3, .int v3), (4, .int v4), (5, .int v5)]) hx hb dX13_plan_84 hl (k := 6) rfl e_19 (by decide) rfl (fun ls hl => ?_)
              refine lv_goto (tgt := 41) hx hb dX13_plan_87 (by decide) ?_
              exact ih41 v1 v2 v3 v4 v5 x_18 u_16 _ _ _ (lv_sub hl [1, 2, 3, 4, 5, 6, 0] rfl) hH hF
            · rw [if_pos c_13] at hF
              refine lv_iconst (v := 0) hx hb dX13_plan_67 (by decide) ?_
              refine lv_goto (tgt := 83) hx hb dX13_plan_68 (by decide) ?_
              obtain ⟨g_20, hF⟩ := og_some hF
              obtain ⟨u_21, e_22, hF⟩ := lu_some hF
              refine ms_70 hC hH e_22 g_20 dX13_plan_83 (fun H locs hH => ?_)
              obtain ⟨x_23, e_24, hF⟩ := li_some hF
              refine lv_iinc (v := x_23) (lv' := [(6, .int x_23), (0, .ref (Q 72)), (1, .int v1), (2, .int v2), (3, .int v3), (4, .int v4), (5, .int v5)]) hx hb dX13_plan_84 hl (k := 6) rfl e_24 (by decide) rfl (fun ls hl => ?_)
              refine lv_goto (tgt := 41) hx hb dX13_plan_87 (by decide) ?_
              exact ih41 v1 v2 v3 v4 v5 x_23 u_21 _ _ _ (lv_sub hl [1, 2, 3, 4, 5, 6, 0] rfl) hH hF
      refine hL41 _ (fun v1 v2 v3 v4 v5 v6 u H locs ls hl hH hF => ?_) fuel a0 a1 0 x_9 0 0 u_6 _ _ _ (lv_sub hl [4, 5, 6, 3, 2, 1, 0] rfl) hH hF
      refine lv_iconst (v := 0) hx hb dX13_plan_90 (by decide) ?_
      refine lv_istore (lv' := [(6, .int 0), (0, .ref (Q 72)), (1, .int v1), (2, .int v2), (3, .int v3), (4, .int v4), (5, .int v5)]) hx hb dX13_plan_91 hl (by decide) rfl (fun ls hl => ?_)
      have hL93 : ∀ (K93_133 : Int32 → Int32 → Int32 → Int32 → Int32 → Int32 → MS → Option (Int32 × MS)), (∀ (v1 v2 v3 v4 v5 v6 : Int32) (u : MS) (H : Heap) (locs : List Loc) (ls : Array Slot), lv_has ls 10 [(0, .ref (Q 72)), (1, .int v1), (2, .int v2), (3, .int v3), (4, .int v4), (5, .int v5), (6, .int v6)] → mH G Q u s H locs → K93_133 v1 v2 v3 v4 v5 v6 u = some ((r, u1)) → W p l e (headSpec (Cond.code yX13_plan cX13_plan 10 (some .int) :: wM) { frames := 310, cells := 0, slots := 0, locals := 3810 }).room s m [.ref (Q 72), .int a0, .int a1].toArray below meth c H locs 0 0 (MQ below (mQi G Q u1 r s.heap.size) [.ref (Q 72), .int a0, .int a1].toArray s 0 0 (mA Q s.heap.size)) (F0 m 133 ls [])) → ∀ (n93 : Nat) (v1 v2 v3 v4 v5 v6 : Int32) (u : MS) (H : Heap) (locs : List Loc) (ls : Array Slot), lv_has ls 10 [(0, .ref (Q 72)), (1, .int v1), (2, .int v2), (3, .int v3), (4, .int v4), (5, .int v5), (6, .int v6)] → mH G Q u s H locs → lp_plan_93 n93 v1 v2 v3 v4 v5 v6 u K93_133 = some ((r, u1)) → W p l e (headSpec (Cond.code yX13_plan cX13_plan 10 (some .int) :: wM) { frames := 310, cells := 0, slots := 0, locals := 3810 }).room s m [.ref (Q 72), .int a0, .int a1].toArray below meth c H locs 0 0 (MQ below (mQi G Q u1 r s.heap.size) [.ref (Q 72), .int a0, .int a1].toArray s 0 0 (mA Q s.heap.size)) (F0 m 93 ls []) := by
        intro K93_133 hK93_133 n93
        induction n93 with
        | zero => intro v1 v2 v3 v4 v5 v6 u H locs ls hl hH hF; cases hF
        | succ n93 ih93 =>
          intro v1 v2 v3 v4 v5 v6 u H locs ls hl hH hF
          unfold lp_plan_93 at hF
          refine lv_iload hx hb dX13_plan_93 (lv_at hl 6 rfl) ?_
          refine lv_iconst (v := 4) hx hb dX13_plan_95 (by decide) ?_
          refine lv_icmp_ge (tgt := 133) hx hb dX13_plan_96 (by decide) (fun c_25 => ?_) (fun c_25 => ?_)
          · rw [if_pos c_25] at hF
            exact hK93_133 v1 v2 v3 v4 v5 v6 u _ _ _ (lv_sub hl [0, 1, 2, 3, 4, 5, 6] rfl) hH hF
          · rw [if_neg c_25] at hF
            refine lv_aload_n hx hb dX13_plan_99 rfl (lv_at hl 0 rfl) ?_
            refine mg_71 hC hH dX13_plan_100 ?_
            refine lv_iload hx hb dX13_plan_103 (lv_at hl 6 rfl) ?_
            refine lv_aload_n hx hb dX13_plan_105 rfl (lv_at hl 0 rfl) ?_
            refine mg_22 hC hH dX13_plan_106 ?_
            refine lv_iload hx hb dX13_plan_109 (lv_at hl 6 rfl) ?_
            obtain ⟨g_26, hF⟩ := og_some hF
            refine ml_22 hC hH g_26 dX13_plan_111 ?_
            refine lv_iconst (v := (-1)) hx hb dX13_plan_112 (by decide) ?_
            refine lv_icmp_ne (tgt := 120) hx hb dX13_plan_113 (by decide) (fun c_27 => ?_) (fun c_27 => ?_)
            · rw [if_neg c_27] at hF
              refine lv_aload_n hx hb dX13_plan_120 rfl (lv_at hl 0 rfl) ?_
              refine mg_3 hC hH dX13_plan_121 ?_
              refine lv_iload_n hx hb dX13_plan_124 rfl (lv_at hl 2 rfl) ?_
              refine lv_iadd hx hb dX13_plan_125 ?_
              obtain ⟨g_28, hF⟩ := og_some hF
              obtain ⟨u_29, e_30, hF⟩ := lu_some hF
              refine ms_71 hC hH e_30 g_28 dX13_plan_126 (fun H locs hH => ?_)
              obtain ⟨x_31, e_32, hF⟩ := li_some hF
              refine lv_iinc (v := x_31) (lv' := [(6, .int x_31), (0, .ref (Q 72)), (1, .int v1), (2, .int v2), (3, .int v3), (4, .int v4), (5, .int v5)]) hx hb dX13_plan_127 hl (k := 6) rfl e_32 (by decide) rfl (fun ls hl => ?_)
              refine lv_goto (tgt := 93) hx hb dX13_plan_130 (by decide) ?_
              exact ih93 v1 v2 v3 v4 v5 x_31 u_29 _ _ _ (lv_sub hl [1, 2, 3, 4, 5, 6, 0] rfl) hH hF
            · rw [if_pos c_27] at hF
              refine lv_iconst (v := 0) hx hb dX13_plan_116 (by decide) ?_
              refine lv_goto (tgt := 126) hx hb dX13_plan_117 (by decide) ?_
              obtain ⟨g_33, hF⟩ := og_some hF
              obtain ⟨u_34, e_35, hF⟩ := lu_some hF
              refine ms_71 hC hH e_35 g_33 dX13_plan_126 (fun H locs hH => ?_)
              obtain ⟨x_36, e_37, hF⟩ := li_some hF
              refine lv_iinc (v := x_36) (lv' := [(6, .int x_36), (0, .ref (Q 72)), (1, .int v1), (2, .int v2), (3, .int v3), (4, .int v4), (5, .int v5)]) hx hb dX13_plan_127 hl (k := 6) rfl e_37 (by decide) rfl (fun ls hl => ?_)
              refine lv_goto (tgt := 93) hx hb dX13_plan_130 (by decide) ?_
              exact ih93 v1 v2 v3 v4 v5 x_36 u_34 _ _ _ (lv_sub hl [1, 2, 3, 4, 5, 6, 0] rfl) hH hF
      refine hL93 _ (fun v1 v2 v3 v4 v5 v6 u H locs ls hl hH hF => ?_) fuel v1 v2 v3 v4 v5 0 u _ _ _ (lv_sub hl [1, 2, 3, 4, 5, 6, 0] rfl) hH hF
      refine lv_iconst (v := 0) hx hb dX13_plan_133 (by decide) ?_
      refine lv_istore (lv' := [(6, .int 0), (0, .ref (Q 72)), (1, .int v1), (2, .int v2), (3, .int v3), (4, .int v4), (5, .int v5)]) hx hb dX13_plan_134 hl (by decide) rfl (fun ls hl => ?_)
      have hL136 : ∀ (K136_423 : Int32 → Int32 → Int32 → Int32 → Int32 → Int32 → MS → Option (Int32 × MS)), (∀ (v1 v2 v3 v4 v5 v6 : Int32) (u : MS) (H : Heap) (locs : List Loc) (ls : Array Slot), lv_has ls 10 [(0, .ref (Q 72)), (1, .int v1), (2, .int v2), (3, .int v3), (4, .int v4), (5, .int v5), (6, .int v6)] → mH G Q u s H locs → K136_423 v1 v2 v3 v4 v5 v6 u = some ((r, u1)) → W p l e (headSpec (Cond.code yX13_plan cX13_plan 10 (some .int) :: wM) { frames := 310, cells := 0, slots := 0, locals := 3810 }).room s m [.ref (Q 72), .int a0, .int a1].toArray below meth c H locs 0 0 (MQ below (mQi G Q u1 r s.heap.size) [.ref (Q 72), .int a0, .int a1].toArray s 0 0 (mA Q s.heap.size)) (F0 m 423 ls [])) → ∀ (n136 : Nat) (v1 v2 v3 v4 v5 v6 : Int32) (u : MS) (H : Heap) (locs : List Loc) (ls : Array Slot), lv_has ls 10 [(0, .ref (Q 72)), (1, .int v1), (2, .int v2), (3, .int v3), (4, .int v4), (5, .int v5), (6, .int v6)] → mH G Q u s H locs → lp_plan_136 n136 v1 v2 v3 v4 v5 v6 u K136_423 = some ((r, u1)) → W p l e (headSpec (Cond.code yX13_plan cX13_plan 10 (some .int) :: wM) { frames := 310, cells := 0, slots := 0, locals := 3810 }).room s m [.ref (Q 72), .int a0, .int a1].toArray below meth c H locs 0 0 (MQ below (mQi G Q u1 r s.heap.size) [.ref (Q 72), .int a0, .int a1].toArray s 0 0 (mA Q s.heap.size)) (F0 m 136 ls []) := by
        intro K136_423 hK136_423 n136
        induction n136 with
        | zero => intro v1 v2 v3 v4 v5 v6 u H locs ls hl hH hF; cases hF
        | succ n136 ih136 =>
          intro v1 v2 v3 v4 v5 v6 u H locs ls hl hH hF
          unfold lp_plan_136 at hF
          refine lv_iload hx hb dX13_plan_136 (lv_at hl 6 rfl) ?_
          refine lv_iconst (v := 4) hx hb dX13_plan_138 (by decide) ?_
          refine lv_icmp_ge (tgt := 423) hx hb dX13_plan_139 (by decide) (fun c_38 => ?_) (fun c_38 => ?_)
          · rw [if_pos c_38] at hF
            exact hK136_423 v1 v2 v3 v4 v5 v6 u _ _ _ (lv_sub hl [0, 1, 2, 3, 4, 5, 6] rfl) hH hF
          · rw [if_neg c_38] at hF
            refine lv_iconst (v := 0) hx hb dX13_plan_142 (by decide) ?_
            refine lv_istore (lv' := [(7, .int 0), (0, .ref (Q 72)), (1, .int v1), (2, .int v2), (3, .int v3), (4, .int v4), (5, .int v5), (6, .int v6)]) hx hb dX13_plan_143 hl (by decide) rfl (fun ls hl => ?_)
            have hL145 : ∀ (K145_417 : Int32 → Int32 → Int32 → Int32 → Int32 → Int32 → Int32 → MS → Option (Int32 × MS)), (∀ (v1 v2 v3 v4 v5 v6 v7 : Int32) (u : MS) (H : Heap) (locs : List Loc) (ls : Array Slot), lv_has ls 10 [(0, .ref (Q 72)), (1, .int v1), (2, .int v2), (3, .int v3), (4, .int v4), (5, .int v5), (6, .int v6), (7, .int v7)] → mH G Q u s H locs → K145_417 v1 v2 v3 v4 v5 v6 v7 u = some ((r, u1)) → W p l e (headSpec (Cond.code yX13_plan cX13_plan 10 (some .int) :: wM) { frames := 310, cells := 0, slots := 0, locals := 3810 }).room s m [.ref (Q 72), .int a0, .int a1].toArray below meth c H locs 0 0 (MQ below (mQi G Q u1 r s.heap.size) [.ref (Q 72), .int a0, .int a1].toArray s 0 0 (mA Q s.heap.size)) (F0 m 417 ls [])) → ∀ (n145 : Nat) (v1 v2 v3 v4 v5 v6 v7 : Int32) (u : MS) (H : Heap) (locs : List Loc) (ls : Array Slot), lv_has ls 10 [(0, .ref (Q 72)), (1, .int v1), (2, .int v2), (3, .int v3), (4, .int v4), (5, .int v5), (6, .int v6), (7, .int v7)] → mH G Q u s H locs → lp_plan_145 n145 v1 v2 v3 v4 v5 v6 v7 u K145_417 = some ((r, u1)) → W p l e (headSpec (Cond.code yX13_plan cX13_plan 10 (some .int) :: wM) { frames := 310, cells := 0, slots := 0, locals := 3810 }).room s m [.ref (Q 72), .int a0, .int a1].toArray below meth c H locs 0 0 (MQ below (mQi G Q u1 r s.heap.size) [.ref (Q 72), .int a0, .int a1].toArray s 0 0 (mA Q s.heap.size)) (F0 m 145 ls []) := by
              intro K145_417 hK145_417 n145
              induction n145 with
              | zero => intro v1 v2 v3 v4 v5 v6 v7 u H locs ls hl hH hF; cases hF
              | succ n145 ih145 =>
                intro v1 v2 v3 v4 v5 v6 v7 u H locs ls hl hH hF
                unfold lp_plan_145 at hF
                refine lv_iload hx hb dX13_plan_145 (lv_at hl 7 rfl) ?_
                refine lv_bipush (v := 40) hx hb dX13_plan_147 (by decide) ?_
                refine lv_icmp_ge (tgt := 417) hx hb dX13_plan_149 (by decide) (fun c_39 => ?_) (fun c_39 => ?_)
                · rw [if_pos c_39] at hF
                  exact hK145_417 v1 v2 v3 v4 v5 v6 v7 u _ _ _ (lv_sub hl [0, 1, 2, 3, 4, 5, 6, 7] rfl) hH hF
                · rw [if_neg c_39] at hF
                  refine lv_bipush (v := 40) hx hb dX13_plan_152 (by decide) ?_
                  refine lv_iload hx hb dX13_plan_154 (lv_at hl 6 rfl) ?_
                  refine lv_imul hx hb dX13_plan_156 ?_
                  refine lv_iload hx hb dX13_plan_157 (lv_at hl 7 rfl) ?_
                  refine lv_iadd hx hb dX13_plan_159 ?_
                  obtain ⟨x_40, e_41, hF⟩ := li_some hF
                  refine gx_ti e_41 ?_
                  refine lv_istore (lv' := [(8, .int x_40), (0, .ref (Q 72)), (1, .int v1), (2, .int v2), (3, .int v3), (4, .int v4), (5, .int v5), (6, .int v6), (7, .int v7)]) hx hb dX13_plan_160 hl (by decide) rfl (fun ls hl => ?_)
                  refine lv_aload_n hx hb dX13_plan_162 rfl (lv_at hl 1 rfl) ?_
                  refine mg_65 hC hH dX13_plan_163 ?_
                  refine lv_iload hx hb dX13_plan_166 (lv_at hl 0 rfl) ?_
                  refine lv_iconst (v := 0) hx hb dX13_plan_168 (by decide) ?_
                  obtain ⟨g_42, hF⟩ := og_some hF
                  obtain ⟨u_43, e_44, hF⟩ := lu_some hF
                  refine ms_65 hC hH e_44 g_42 dX13_plan_169 (fun H locs hH => ?_)
                  refine lv_aload_n hx hb dX13_plan_170 rfl (lv_at hl 1 rfl) ?_
                  refine mg_63 hC hH dX13_plan_171 ?_
                  refine lv_iload hx hb dX13_plan_174 (lv_at hl 0 rfl) ?_
                  refine lv_iconst (v := (-1)) hx hb dX13_plan_176 (by decide) ?_
                  obtain ⟨g_45, hF⟩ := og_some hF
                  obtain ⟨u_46, e_47, hF⟩ := lu_some hF
                  refine ms_63 hC hH e_47 g_45 dX13_plan_177 (fun H locs hH => ?_)
                  refine lv_aload_n hx hb dX13_plan_178 rfl (lv_at hl 1 rfl) ?_
                  refine mg_64 hC hH dX13_plan_179 ?_
                  refine lv_iload hx hb dX13_plan_182 (lv_at hl 0 rfl) ?_
                  refine lv_iconst (v := (-1)) hx hb dX13_plan_184 (by decide) ?_
                  obtain ⟨g_48, hF⟩ := og_some hF
                  obtain ⟨u_49, e_50, hF⟩ := lu_some hF
                  refine ms_64 hC hH e_50 g_48 dX13_plan_185 (fun H locs hH => ?_)
                  refine lv_iload hx hb dX13_plan_186 (lv_at hl 8 rfl) ?_
                  refine lv_aload_n hx hb dX13_plan_188 rfl (lv_at hl 1 rfl) ?_
                  refine lv_iload hx hb dX13_plan_189 (lv_at hl 7 rfl) ?_
                  obtain ⟨r_51, u_52, h_53, hF⟩ := ob_some hF
                  refine mcV_i (As := [.int v6]) (rest := [.int v7]) hC hH (m_fights l G Z Q u_49 u_52 r_51 v6 _ h_53) kwX13_fights kVX13_fights ⟨Nat.le_of_ble_eq_true rfl, Nat.le_of_ble_eq_true rfl⟩ rfl hl.1 rfl (Nat.le_of_ble_eq_true rfl) dX13_plan_191 (fun H locs hH => ?_)
                  refine lv_icmp_ge (tgt := 411) hx hb dX13_plan_194 (by decide) (fun c_54 => ?_) (fun c_54 => ?_)
                  · rw [if_pos c_54] at hF
                    obtain ⟨x_55, e_56, hF⟩ := li_some hF
                    refine lv_iinc (v := x_55) (lv' := [(7, .int x_55), (8, .int x_40), (0, .ref (Q 72)), (1, .int v1), (2, .int v2), (3, .int v3), (4, .int v4), (5, .int v5), (6, .int v6)]) hx hb dX13_plan_411 hl (k := 8) rfl e_56 (by decide) rfl (fun ls hl => ?_)
                    refine lv_goto (tgt := 145) hx hb dX13_plan_414 (by decide) ?_
                    exact ih145 v1 v2 v3 v4 v5 v6 x_55 u_52 _ _ _ (lv_sub hl [2, 3, 4, 5, 6, 7, 8, 0] rfl) hH hF
                  · rw [if_neg c_54] at hF
                    refine lv_aload_n hx hb dX13_plan_197 rfl (lv_at hl 1 rfl) ?_
                    refine mg_15 hC hH dX13_plan_198 ?_
                    refine lv_iload hx hb dX13_plan_201 (lv_at hl 0 rfl) ?_
                    obtain ⟨g_57, hF⟩ := og_some hF
                    refine ml_15 hC hH g_57 dX13_plan_203 ?_
                    refine lv_iconst (v := 2) hx hb dX13_plan_204 (by decide) ?_
                    refine lv_icmp_eq (tgt := 411) hx hb dX13_plan_205 (by decide) (fun c_58 => ?_) (fun c_58 => ?_)
                    · rw [if_pos c_58] at hF
                      obtain ⟨x_59, e_60, hF⟩ := li_some hF
                      refine lv_iinc (v := x_59) (lv' := [(7, .int x_59), (8, .int x_40), (0, .ref (Q 72)), (1, .int v1), (2, .int v2), (3, .int v3), (4, .int v4), (5, .int v5), (6, .int v6)]) hx hb dX13_plan_411 hl (k := 8) rfl e_60 (by decide) rfl (fun ls hl => ?_)
                      refine lv_goto (tgt := 145) hx hb dX13_plan_414 (by decide) ?_
                      exact ih145 v1 v2 v3 v4 v5 v6 x_59 u_52 _ _ _ (lv_sub hl [2, 3, 4, 5, 6, 7, 8, 0] rfl) hH hF
                    · rw [if_neg c_58] at hF
                      refine lv_aload_n hx hb dX13_plan_208 rfl (lv_at hl 1 rfl) ?_
                      refine lv_iload hx hb dX13_plan_209 (lv_at hl 7 rfl) ?_
                      refine lv_iload hx hb dX13_plan_211 (lv_at hl 8 rfl) ?_
                      obtain ⟨r_61, u_62, h_63, hF⟩ := ob_some hF
                      refine mcV_i (As := [.int v6, .int v7]) (rest := []) hC hH (m_isWalk l G Z Q u_52 u_62 r_61 v6 v7 _ h_63) kwX13_isWalk kVX13_isWalk ⟨Nat.le_of_ble_eq_true rfl, Nat.le_of_ble_eq_true rfl⟩ rfl hl.1 rfl (Nat.le_of_ble_eq_true rfl) dX13_plan_213 (fun H locs hH => ?_)
                      refine lv_if_eq (tgt := 222) hx hb dX13_plan_216 (by decide) (fun c_64 => ?_) (fun c_64 => ?_)
                      · rw [if_pos c_64] at hF
                        refine lv_aload_n hx hb dX13_plan_222 rfl (lv_at hl 1 rfl) ?_
                        refine mg_67 hC hH dX13_plan_223 ?_
                        refine lv_iload hx hb dX13_plan_226 (lv_at hl 0 rfl) ?_
                        refine lv_iconst (v := (-1)) hx hb dX13_plan_228 (by decide) ?_
                        refine lv_aload_n hx hb dX13_plan_229 rfl (lv_at hl 1 rfl) ?_
                        refine lv_iload hx hb dX13_plan_230 (lv_at hl 7 rfl) ?_
                        refine lv_iload hx hb dX13_plan_232 (lv_at hl 8 rfl) ?_
                        refine lv_iconst (v := 0) hx hb dX13_plan_234 (by decide) ?_
                        obtain ⟨r_65, u_66, h_67, hF⟩ := ob_some hF
                        refine mcV_i (As := [.int v6, .int v7, .int 0]) (rest := [.int (-1), .int x_40, .ref (Q 67)]) hC hH (m_sideOf l G Z Q u_62 u_66 r_65 v6 v7 0 _ h_67) kwX13_sideOf kVX13_sideOf ⟨Nat.le_of_ble_eq_true rfl, Nat.le_of_ble_eq_true rfl⟩ rfl hl.1 rfl (Nat.le_of_ble_eq_true rfl) dX13_plan_235 (fun H locs hH => ?_)
                        refine va_mmax hx hb (hC.2.2.1.trans hl.1.symm) hC.2.2.2.1 (hC.2.2.2.2.1 _ wma152) (hC.2.2.2.2.1 _ wma376) (hC.2.2.2.2.1 _ wma378) (hC.2.2.2.2.1 _ wma379) (Nat.le_of_ble_eq_true rfl) (Nat.le_of_ble_eq_true rfl) (Nat.le_of_ble_eq_true rfl) (Nat.le_of_ble_eq_true rfl) dX13_plan_238 ?_
                        obtain ⟨g_68, hF⟩ := og_some hF
                        obtain ⟨u_69, e_70, hF⟩ := lu_some hF
                        refine ms_67 hC hH e_70 g_68 dX13_plan_241 (fun H locs hH => ?_)
                        refine lv_aload_n hx hb dX13_plan_242 rfl (lv_at hl 1 rfl) ?_
                        refine mg_68 hC hH dX13_plan_243 ?_
                        refine lv_iload hx hb dX13_plan_246 (lv_at hl 0 rfl) ?_
                        refine lv_iconst (v := (-1)) hx hb dX13_plan_248 (by decide) ?_
                        refine lv_aload_n hx hb dX13_plan_249 rfl (lv_at hl 1 rfl) ?_
                        refine lv_iload hx hb dX13_plan_250 (lv_at hl 7 rfl) ?_
                        refine lv_iload hx hb dX13_plan_252 (lv_at hl 8 rfl) ?_
                        refine lv_iconst (v := 1) hx hb dX13_plan_254 (by decide) ?_
                        obtain ⟨r_71, u_72, h_73, hF⟩ := ob_some hF
                        refine mcV_i (As := [.int v6, .int v7, .int 1]) (rest := [.int (-1), .int x_40, .ref (Q 68)]) hC hH (m_sideOf l G Z Q u_69 u_72 r_71 v6 v7 1 _ h_73) kwX13_sideOf kVX13_sideOf ⟨Nat.le_of_ble_eq_true rfl, Nat.le_of_ble_eq_true rfl⟩ rfl hl.1 rfl (Nat.le_of_ble_eq_true rfl) dX13_plan_255 (fun H locs hH => ?_)
                        refine va_mmax hx hb (hC.2.2.1.trans hl.1.symm) hC.2.2.2.1 (hC.2.2.2.2.1 _ wma152) (hC.2.2.2.2.1 _ wma376) (hC.2.2.2.2.1 _ wma378) (hC.2.2.2.2.1 _ wma379) (Nat.le_of_ble_eq_true rfl) (Nat.le_of_ble_eq_true rfl) (Nat.le_of_ble_eq_true rfl) (Nat.le_of_ble_eq_true rfl) dX13_plan_258 ?_
                        obtain ⟨g_74, hF⟩ := og_some hF
                        obtain ⟨u_75, e_76, hF⟩ := lu_some hF
                        refine ms_68 hC hH e_76 g_74 dX13_plan_261 (fun H locs hH => ?_)
                        refine lv_aload_n hx hb dX13_plan_262 rfl (lv_at hl 1 rfl) ?_
                        refine mg_15 hC hH dX13_plan_263 ?_
                        refine lv_iload hx hb dX13_plan_266 (lv_at hl 0 rfl) ?_
                        obtain ⟨g_77, hF⟩ := og_some hF
                        refine ml_15 hC hH g_77 dX13_plan_268 ?_
                        refine lv_iconst (v := 1) hx hb dX13_plan_269 (by decide) ?_
                        refine lv_icmp_ne (tgt := 335) hx hb dX13_plan_270 (by decide) (fun c_78 => ?_) (fun c_78 => ?_)
                        · rw [if_neg c_78] at hF
                          refine lv_aload_n hx hb dX13_plan_335 rfl (lv_at hl 1 rfl) ?_
                          refine mg_65 hC hH dX13_plan_336 ?_
                          refine lv_iload hx hb dX13_plan_339 (lv_at hl 0 rfl) ?_
                          refine lv_iconst (v := 1) hx hb dX13_plan_341 (by decide) ?_
                          obtain ⟨g_79, hF⟩ := og_some hF
                          obtain ⟨u_80, e_81, hF⟩ := lu_some hF
                          refine ms_65 hC hH e_81 g_79 dX13_plan_342 (fun H locs hH => ?_)
                          obtain ⟨x_82, e_83, hF⟩ := li_some hF
                          refine lv_iinc (v := x_82) (lv' := [(3, .int x_82), (8, .int x_40), (0, .ref (Q 72)), (1, .int v1), (2, .int v2), (4, .int v4), (5, .int v5), (6, .int v6), (7, .int v7)]) hx hb dX13_plan_343 hl (k := 4) rfl e_83 (by decide) rfl (fun ls hl => ?_)
                          refine lv_iload hx hb dX13_plan_346 (lv_at hl 6 rfl) ?_
                          refine lv_istore (lv' := [(9, .int v5), (3, .int x_82), (8, .int x_40), (0, .ref (Q 72)), (1, .int v1), (2, .int v2), (4, .int v4), (5, .int v5), (6, .int v6), (7, .int v7)]) hx hb dX13_plan_348 hl (by decide) rfl (fun ls hl => ?_)
                          have hL350 : ∀ (K350_399 : Int32 → Int32 → Int32 → Int32 → Int32 → Int32 → Int32 → Int32 → Int32 → MS → Option (Int32 × MS)), (∀ (v1 v2 v3 v4 v5 v6 v7 v8 v9 : Int32) (u : MS) (H : Heap) (locs : List Loc) (ls : Array Slot), lv_has ls 10 [(0, .ref (Q 72)), (1, .int v1), (2, .int v2), (3, .int v3), (4, .int v4), (5, .int v5), (6, .int v6), (7, .int v7), (8, .int v8), (9, .int v9)] → mH G Q u s H locs → K350_399 v1 v2 v3 v4 v5 v6 v7 v8 v9 u = some ((r, u1)) → W p l e (headSpec (Cond.code yX13_plan cX13_plan 10 (some .int) :: wM) { frames := 310, cells := 0, slots := 0, locals := 3810 }).room s m [.ref (Q 72), .int a0, .int a1].toArray below meth c H locs 0 0 (MQ below (mQi G Q u1 r s.heap.size) [.ref (Q 72), .int a0, .int a1].toArray s 0 0 (mA Q s.heap.size)) (F0 m 399 ls [])) → ∀ (n350 : Nat) (v1 v2 v3 v4 v5 v6 v7 v8 v9 : Int32) (u : MS) (H : Heap) (locs : List Loc) (ls : Array Slot), lv_has ls 10 [(0, .ref (Q 72)), (1, .int v1), (2, .int v2), (3, .int v3), (4, .int v4), (5, .int v5), (6, .int v6), (7, .int v7), (8, .int v8), (9, .int v9)] → mH G Q u s H locs → lp_plan_350 n350 v1 v2 v3 v4 v5 v6 v7 v8 v9 u K350_399 = some ((r, u1)) → W p l e (headSpec (Cond.code yX13_plan cX13_plan 10 (some .int) :: wM) { frames := 310, cells := 0, slots := 0, locals := 3810 }).room s m [.ref (Q 72), .int a0, .int a1].toArray below meth c H locs 0 0 (MQ below (mQi G Q u1 r s.heap.size) [.ref (Q 72), .int a0, .int a1].toArray s 0 0 (mA Q s.heap.size)) (F0 m 350 ls []) := by
                            intro K350_399 hK350_399 n350
                            induction n350 with
                            | zero => intro v1 v2 v3 v4 v5 v6 v7 v8 v9 u H locs ls hl hH hF; cases hF
                            | succ n350 ih350 =>
                              intro v1 v2 v3 v4 v5 v6 v7 v8 v9 u H locs ls hl hH hF
                              unfold lp_plan_350 at hF
                              refine lv_iload hx hb dX13_plan_350 (lv_at hl 9 rfl) ?_
                              refine lv_if_le (tgt := 399) hx hb dX13_plan_352 (by decide) (fun c_84 => ?_) (fun c_84 => ?_)
                              · rw [if_pos c_84] at hF
                                exact hK350_399 v1 v2 v3 v4 v5 v6 v7 v8 v9 u _ _ _ (lv_sub hl [0, 1, 2, 3, 4, 5, 6, 7, 8, 9] rfl) hH hF
                              · rw [if_neg c_84] at hF
                                refine lv_aload_n hx hb dX13_plan_355 rfl (lv_at hl 0 rfl) ?_
                                refine lv_aload_n hx hb dX13_plan_356 rfl (lv_at hl 0 rfl) ?_
                                refine mg_66 hC hH dX13_plan_357 ?_
                                refine lv_iload hx hb dX13_plan_360 (lv_at hl 9 rfl) ?_
                                refine lv_iconst (v := 1) hx hb dX13_plan_362 (by decide) ?_
                                refine lv_isub hx hb dX13_plan_363 ?_
                                obtain ⟨g_85, hF⟩ := og_some hF
                                refine ml_66 hC hH g_85 dX13_plan_364 ?_
                                obtain ⟨r_86, u_87, h_88, hF⟩ := ob_some hF
                                refine mcV_i (As := [.int (ra u 66 (v9 - 1))]) (rest := []) hC hH (m_stage l G Z Q u u_87 r_86 (ra u 66 (v9 - 1)) _ h_88) kwX13_stage kVX13_stage ⟨Nat.le_of_ble_eq_true rfl, Nat.le_of_ble_eq_true rfl⟩ rfl hl.1 rfl (Nat.le_of_ble_eq_true rfl) dX13_plan_365 (fun H locs hH => ?_)
                                refine lv_aload_n hx hb dX13_plan_368 rfl (lv_at hl 0 rfl) ?_
                                refine lv_iload hx hb dX13_plan_369 (lv_at hl 8 rfl) ?_
                                obtain ⟨r_89, u_90, h_91, hF⟩ := ob_some hF
                                refine mcV_i (As := [.int v8]) (rest := [.int r_86]) hC hH (m_stage l G Z Q u_87 u_90 r_89 v8 _ h_91) kwX13_stage kVX13_stage ⟨Nat.le_of_ble_eq_true rfl, Nat.le_of_ble_eq_true rfl⟩ rfl hl.1 rfl (Nat.le_of_ble_eq_true rfl) dX13_plan_371 (fun H locs hH => ?_)
                                refine lv_icmp_le (tgt := 399) hx hb dX13_plan_374 (by decide) (fun c_92 => ?_) (fun c_92 => ?_)
                                · rw [if_pos c_92] at hF
                                  exact hK350_399 v1 v2 v3 v4 v5 v6 v7 v8 v9 u_90 _ _ _ (lv_sub hl [0, 1, 2, 3, 4, 5, 6, 7, 8, 9] rfl) hH hF
                                · rw [if_neg c_92] at hF
                                  refine lv_aload_n hx hb dX13_plan_377 rfl (lv_at hl 0 rfl) ?_
                                  refine mg_66 hC hH dX13_plan_378 ?_
                                  refine lv_iload hx hb dX13_plan_381 (lv_at hl 9 rfl) ?_
                                  refine lv_aload_n hx hb dX13_plan_383 rfl (lv_at hl 0 rfl) ?_
                                  refine mg_66 hC hH dX13_plan_384 ?_
                                  refine lv_iload hx hb dX13_plan_387 (lv_at hl 9 rfl) ?_
                                  refine lv_iconst (v := 1) hx hb dX13_plan_389 (by decide) ?_
                                  refine lv_isub hx hb dX13_plan_390 ?_
                                  obtain ⟨g_93, hF⟩ := og_some hF
                                  refine ml_66 hC hH g_93 dX13_plan_391 ?_
                                  obtain ⟨g_94, hF⟩ := og_some hF
                                  obtain ⟨u_95, e_96, hF⟩ := lu_some hF
                                  refine ms_66 hC hH e_96 g_94 dX13_plan_392 (fun H locs hH => ?_)
                                  obtain ⟨x_97, e_98, hF⟩ := li_some hF
                                  refine lv_iinc (v := x_97) (lv' := [(9, .int x_97), (0, .ref (Q 72)), (1, .int v1), (2, .int v2), (3, .int v3), (4, .int v4), (5, .int v5), (6, .int v6), (7, .int v7), (8, .int v8)]) hx hb dX13_plan_393 hl (k := 9) rfl e_98 (by decide) rfl (fun ls hl => ?_)
                                  refine lv_goto (tgt := 350) hx hb dX13_plan_396 (by decide) ?_
                                  exact ih350 v1 v2 v3 v4 v5 v6 v7 v8 x_97 u_95 _ _ _ (lv_sub hl [1, 2, 3, 4, 5, 6, 7, 8, 9, 0] rfl) hH hF
                          refine hL350 _ (fun v1 v2 v3 v4 v5 v6 v7 v8 v9 u H locs ls hl hH hF => ?_) fuel v1 v2 x_82 v4 v5 v6 v7 x_40 v5 u_80 _ _ _ (lv_sub hl [3, 4, 5, 1, 6, 7, 8, 9, 2, 0] rfl) hH hF
                          refine lv_aload_n hx hb dX13_plan_399 rfl (lv_at hl 0 rfl) ?_
                          refine mg_66 hC hH dX13_plan_400 ?_
                          refine lv_iload hx hb dX13_plan_403 (lv_at hl 9 rfl) ?_
                          refine lv_iload hx hb dX13_plan_405 (lv_at hl 8 rfl) ?_
                          obtain ⟨g_99, hF⟩ := og_some hF
                          obtain ⟨u_100, e_101, hF⟩ := lu_some hF
                          refine ms_66 hC hH e_101 g_99 dX13_plan_407 (fun H locs hH => ?_)
                          obtain ⟨x_102, e_103, hF⟩ := li_some hF
                          refine lv_iinc (v := x_102) (lv' := [(5, .int x_102), (0, .ref (Q 72)), (1, .int v1), (2, .int v2), (3, .int v3), (4, .int v4), (6, .int v6), (7, .int v7), (8, .int v8), (9, .int v9)]) hx hb dX13_plan_408 hl (k := 5) rfl e_103 (by decide) rfl (fun ls hl => ?_)
                          obtain ⟨x_104, e_105, hF⟩ := li_some hF
                          refine lv_iinc (v := x_104) (lv' := [(7, .int x_104), (5, .int x_102), (0, .ref (Q 72)), (1, .int v1), (2, .int v2), (3, .int v3), (4, .int v4), (6, .int v6), (8, .int v8), (9, .int v9)]) hx hb dX13_plan_411 hl (k := 7) rfl e_105 (by decide) rfl (fun ls hl => ?_)
                          refine lv_goto (tgt := 145) hx hb dX13_plan_414 (by decide) ?_
                          exact ih145 v1 v2 v3 v4 x_102 v6 x_104 u_100 _ _ _ (lv_sub hl [2, 3, 4, 5, 6, 1, 7, 0] rfl) hH hF
                        · rw [if_pos c_78] at hF
                          refine lv_aload_n hx hb dX13_plan_273 rfl (lv_at hl 1 rfl) ?_
                          refine mg_65 hC hH dX13_plan_274 ?_
                          refine lv_iload hx hb dX13_plan_277 (lv_at hl 0 rfl) ?_
                          refine lv_iconst (v := 2) hx hb dX13_plan_279 (by decide) ?_
                          obtain ⟨g_106, hF⟩ := og_some hF
                          obtain ⟨u_107, e_108, hF⟩ := lu_some hF
                          refine ms_65 hC hH e_108 g_106 dX13_plan_280 (fun H locs hH => ?_)
                          refine lv_aload_n hx hb dX13_plan_281 rfl (lv_at hl 1 rfl) ?_
                          refine mg_63 hC hH dX13_plan_282 ?_
                          refine lv_iload hx hb dX13_plan_285 (lv_at hl 0 rfl) ?_
                          refine lv_aload_n hx hb dX13_plan_287 rfl (lv_at hl 1 rfl) ?_
                          refine lv_iload hx hb dX13_plan_288 (lv_at hl 7 rfl) ?_
                          refine lv_iload hx hb dX13_plan_290 (lv_at hl 8 rfl) ?_
                          obtain ⟨r_109, u_110, h_111, hF⟩ := ob_some hF
                          refine mcV_i (As := [.int v6, .int v7]) (rest := [.int x_40, .ref (Q 63)]) hC hH (m_matOf l G Z Q u_107 u_110 r_109 v6 v7 _ h_111) kwX13_matOf kVX13_matOf ⟨Nat.le_of_ble_eq_true rfl, Nat.le_of_ble_eq_true rfl⟩ rfl hl.1 rfl (Nat.le_of_ble_eq_true rfl) dX13_plan_292 (fun H locs hH => ?_)
                          obtain ⟨g_112, hF⟩ := og_some hF
                          obtain ⟨u_113, e_114, hF⟩ := lu_some hF
                          refine ms_63 hC hH e_114 g_112 dX13_plan_295 (fun H locs hH => ?_)
                          refine lv_aload_n hx hb dX13_plan_296 rfl (lv_at hl 1 rfl) ?_
                          refine mg_64 hC hH dX13_plan_297 ?_
                          refine lv_iload hx hb dX13_plan_300 (lv_at hl 0 rfl) ?_
                          refine lv_aload_n hx hb dX13_plan_302 rfl (lv_at hl 1 rfl) ?_
                          refine mg_3 hC hH dX13_plan_303 ?_
                          obtain ⟨g_115, hF⟩ := og_some hF
                          obtain ⟨u_116, e_117, hF⟩ := lu_some hF
                          refine ms_64 hC hH e_117 g_115 dX13_plan_306 (fun H locs hH => ?_)
                          refine lv_iload hx hb dX13_plan_307 (lv_at hl 5 rfl) ?_
                          refine lv_aload_n hx hb dX13_plan_309 rfl (lv_at hl 1 rfl) ?_
                          refine mg_3 hC hH dX13_plan_310 ?_
                          refine lv_iload_n hx hb dX13_plan_313 rfl (lv_at hl 3 rfl) ?_
                          refine lv_iadd hx hb dX13_plan_314 ?_
                          refine va_mmax hx hb (hC.2.2.1.trans hl.1.symm) hC.2.2.2.1 (hC.2.2.2.2.1 _ wma152) (hC.2.2.2.2.1 _ wma376) (hC.2.2.2.2.1 _ wma378) (hC.2.2.2.2.1 _ wma379) (Nat.le_of_ble_eq_true rfl) (Nat.le_of_ble_eq_true rfl) (Nat.le_of_ble_eq_true rfl) (Nat.le_of_ble_eq_true rfl) dX13_plan_315 ?_
                          obtain ⟨x_118, e_119, hF⟩ := li_some hF
                          refine gx_ti e_119 ?_
                          refine lv_istore (lv' := [(4, .int x_118), (8, .int x_40), (0, .ref (Q 72)), (1, .int v1), (2, .int v2), (3, .int v3), (5, .int v5), (6, .int v6), (7, .int v7)]) hx hb dX13_plan_318 hl (by decide) rfl (fun ls hl => ?_)
                          refine lv_aload_n hx hb dX13_plan_320 rfl (lv_at hl 2 rfl) ?_
                          refine lv_iload hx hb dX13_plan_321 (lv_at hl 1 rfl) ?_
                          refine lv_aload_n hx hb dX13_plan_323 rfl (lv_at hl 2 rfl) ?_
                          refine mg_3 hC hH dX13_plan_324 ?_
                          refine lv_iload_n hx hb dX13_plan_327 rfl (lv_at hl 4 rfl) ?_
                          refine lv_iadd hx hb dX13_plan_328 ?_
                          obtain ⟨r_120, u_121, h_122, hF⟩ := ob_some hF
                          refine mcV_v (As := [.int x_40, .int ((u_116.1 3) + v2)]) (rest := []) hC hH (m_tires l G Z Q u_116 u_121 r_120 x_40 ((u_116.1 3) + v2) _ h_122) kwX13_tires kVX13_tires ⟨Nat.le_of_ble_eq_true rfl, Nat.le_of_ble_eq_true rfl⟩ rfl hl.1 rfl (Nat.le_of_ble_eq_true rfl) dX13_plan_329 (fun H locs hH => ?_)
                          refine lv_goto (tgt := 411) hx hb dX13_plan_332 (by decide) ?_
                          obtain ⟨x_123, e_124, hF⟩ := li_some hF
                          refine lv_iinc (v := x_123) (lv' := [(7, .int x_123), (4, .int x_118), (8, .int x_40), (0, .ref (Q 72)), (1, .int v1), (2, .int v2), (3, .int v3), (5, .int v5), (6, .int v6)]) hx hb dX13_plan_411 hl (k := 8) rfl e_124 (by decide) rfl (fun ls hl => ?_)
                          refine lv_goto (tgt := 145) hx hb dX13_plan_414 (by decide) ?_
                          exact ih145 v1 v2 v3 x_118 v5 v6 x_123 u_121 _ _ _ (lv_sub hl [3, 4, 5, 6, 1, 7, 8, 0] rfl) hH hF
                      · rw [if_neg c_64] at hF
                        refine lv_goto (tgt := 411) hx hb dX13_plan_219 (by decide) ?_
                        obtain ⟨x_125, e_126, hF⟩ := li_some hF
                        refine lv_iinc (v := x_125) (lv' := [(7, .int x_125), (8, .int x_40), (0, .ref (Q 72)), (1, .int v1), (2, .int v2), (3, .int v3), (4, .int v4), (5, .int v5), (6, .int v6)]) hx hb dX13_plan_411 hl (k := 8) rfl e_126 (by decide) rfl (fun ls hl => ?_)
                        refine lv_goto (tgt := 145) hx hb dX13_plan_414 (by decide) ?_
                        exact ih145 v1 v2 v3 v4 v5 v6 x_125 u_62 _ _ _ (lv_sub hl [2, 3, 4, 5, 6, 7, 8, 0] rfl) hH hF
            refine hL145 _ (fun v1 v2 v3 v4 v5 v6 v7 u H locs ls hl hH hF => ?_) fuel v1 v2 v3 v4 v5 v6 0 u _ _ _ (lv_sub hl [1, 2, 3, 4, 5, 6, 7, 0] rfl) hH hF
            obtain ⟨x_127, e_128, hF⟩ := li_some hF
            refine lv_iinc (v := x_127) (lv' := [(6, .int x_127), (0, .ref (Q 72)), (1, .int v1), (2, .int v2), (3, .int v3), (4, .int v4), (5, .int v5), (7, .int v7)]) hx hb dX13_plan_417 hl (k := 6) rfl e_128 (by decide) rfl (fun ls hl => ?_)
            refine lv_goto (tgt := 136) hx hb dX13_plan_420 (by decide) ?_
            exact ih136 v1 v2 v3 v4 v5 x_127 u _ _ _ (lv_sub hl [1, 2, 3, 4, 5, 6, 0] rfl) hH hF
      refine hL136 _ (fun v1 v2 v3 v4 v5 v6 u H locs ls hl hH hF => ?_) fuel v1 v2 v3 v4 v5 0 u _ _ _ (lv_sub hl [1, 2, 3, 4, 5, 6, 0] rfl) hH hF
      refine lv_aload_n hx hb dX13_plan_423 rfl (lv_at hl 0 rfl) ?_
      refine mg_3 hC hH dX13_plan_424 ?_
      obtain ⟨x_129, e_130, hF⟩ := li_some hF
      refine gx_ti e_130 ?_
      refine lv_istore (lv' := [(6, .int x_129), (0, .ref (Q 72)), (1, .int v1), (2, .int v2), (3, .int v3), (4, .int v4), (5, .int v5)]) hx hb dX13_plan_427 hl (by decide) rfl (fun ls hl => ?_)
      have hL429 : ∀ (K429_628 : Int32 → Int32 → Int32 → Int32 → Int32 → Int32 → MS → Option (Int32 × MS)), (∀ (v1 v2 v3 v4 v5 v6 : Int32) (u : MS) (H : Heap) (locs : List Loc) (ls : Array Slot), lv_has ls 10 [(0, .ref (Q 72)), (1, .int v1), (2, .int v2), (3, .int v3), (4, .int v4), (5, .int v5), (6, .int v6)] → mH G Q u s H locs → K429_628 v1 v2 v3 v4 v5 v6 u = some ((r, u1)) → W p l e (headSpec (Cond.code yX13_plan cX13_plan 10 (some .int) :: wM) { frames := 310, cells := 0, slots := 0, locals := 3810 }).room s m [.ref (Q 72), .int a0, .int a1].toArray below meth c H locs 0 0 (MQ below (mQi G Q u1 r s.heap.size) [.ref (Q 72), .int a0, .int a1].toArray s 0 0 (mA Q s.heap.size)) (F0 m 628 ls [])) → ∀ (n429 : Nat) (v1 v2 v3 v4 v5 v6 : Int32) (u : MS) (H : Heap) (locs : List Loc) (ls : Array Slot), lv_has ls 10 [(0, .ref (Q 72)), (1, .int v1), (2, .int v2), (3, .int v3), (4, .int v4), (5, .int v5), (6, .int v6)] → mH G Q u s H locs → lp_plan_429 n429 v1 v2 v3 v4 v5 v6 u K429_628 = some ((r, u1)) → W p l e (headSpec (Cond.code yX13_plan cX13_plan 10 (some .int) :: wM) { frames := 310, cells := 0, slots := 0, locals := 3810 }).room s m [.ref (Q 72), .int a0, .int a1].toArray below meth c H locs 0 0 (MQ below (mQi G Q u1 r s.heap.size) [.ref (Q 72), .int a0, .int a1].toArray s 0 0 (mA Q s.heap.size)) (F0 m 429 ls []) := by
        intro K429_628 hK429_628 n429
        induction n429 with
        | zero => intro v1 v2 v3 v4 v5 v6 u H locs ls hl hH hF; cases hF
        | succ n429 ih429 =>
          intro v1 v2 v3 v4 v5 v6 u H locs ls hl hH hF
          unfold lp_plan_429 at hF
          refine lv_iload_n hx hb dX13_plan_429 rfl (lv_at hl 3 rfl) ?_
          refine lv_if_le (tgt := 628) hx hb dX13_plan_430 (by decide) (fun c_131 => ?_) (fun c_131 => ?_)
          · rw [if_pos c_131] at hF
            exact hK429_628 v1 v2 v3 v4 v5 v6 u _ _ _ (lv_sub hl [0, 1, 2, 3, 4, 5, 6] rfl) hH hF
          · rw [if_neg c_131] at hF
            refine lv_iconst (v := 0) hx hb dX13_plan_433 (by decide) ?_
            refine lv_istore (lv' := [(7, .int 0), (0, .ref (Q 72)), (1, .int v1), (2, .int v2), (3, .int v3), (4, .int v4), (5, .int v5), (6, .int v6)]) hx hb dX13_plan_434 hl (by decide) rfl (fun ls hl => ?_)
            have hL436 : ∀ (K436_604 : Int32 → Int32 → Int32 → Int32 → Int32 → Int32 → Int32 → MS → Option (Int32 × MS)), (∀ (v1 v2 v3 v4 v5 v6 v7 : Int32) (u : MS) (H : Heap) (locs : List Loc) (ls : Array Slot), lv_has ls 10 [(0, .ref (Q 72)), (1, .int v1), (2, .int v2), (3, .int v3), (4, .int v4), (5, .int v5), (6, .int v6), (7, .int v7)] → mH G Q u s H locs → K436_604 v1 v2 v3 v4 v5 v6 v7 u = some ((r, u1)) → W p l e (headSpec (Cond.code yX13_plan cX13_plan 10 (some .int) :: wM) { frames := 310, cells := 0, slots := 0, locals := 3810 }).room s m [.ref (Q 72), .int a0, .int a1].toArray below meth c H locs 0 0 (MQ below (mQi G Q u1 r s.heap.size) [.ref (Q 72), .int a0, .int a1].toArray s 0 0 (mA Q s.heap.size)) (F0 m 604 ls [])) → ∀ (n436 : Nat) (v1 v2 v3 v4 v5 v6 v7 : Int32) (u : MS) (H : Heap) (locs : List Loc) (ls : Array Slot), lv_has ls 10 [(0, .ref (Q 72)), (1, .int v1), (2, .int v2), (3, .int v3), (4, .int v4), (5, .int v5), (6, .int v6), (7, .int v7)] → mH G Q u s H locs → lp_plan_436 n436 v1 v2 v3 v4 v5 v6 v7 u K436_604 = some ((r, u1)) → W p l e (headSpec (Cond.code yX13_plan cX13_plan 10 (some .int) :: wM) { frames := 310, cells := 0, slots := 0, locals := 3810 }).room s m [.ref (Q 72), .int a0, .int a1].toArray below meth c H locs 0 0 (MQ below (mQi G Q u1 r s.heap.size) [.ref (Q 72), .int a0, .int a1].toArray s 0 0 (mA Q s.heap.size)) (F0 m 436 ls []) := by
              intro K436_604 hK436_604 n436
              induction n436 with
              | zero => intro v1 v2 v3 v4 v5 v6 v7 u H locs ls hl hH hF; cases hF
              | succ n436 ih436 =>
                intro v1 v2 v3 v4 v5 v6 v7 u H locs ls hl hH hF
                unfold lp_plan_436 at hF
                refine lv_iload hx hb dX13_plan_436 (lv_at hl 7 rfl) ?_
                refine lv_iload_n hx hb dX13_plan_438 rfl (lv_at hl 1 rfl) ?_
                refine lv_icmp_ge (tgt := 604) hx hb dX13_plan_439 (by decide) (fun c_132 => ?_) (fun c_132 => ?_)
                · rw [if_pos c_132] at hF
                  exact hK436_604 v1 v2 v3 v4 v5 v6 v7 u _ _ _ (lv_sub hl [0, 1, 2, 3, 4, 5, 6, 7] rfl) hH hF
                · rw [if_neg c_132] at hF
                  refine lv_iload_n hx hb dX13_plan_442 rfl (lv_at hl 3 rfl) ?_
                  refine lv_if_le (tgt := 604) hx hb dX13_plan_443 (by decide) (fun c_133 => ?_) (fun c_133 => ?_)
                  · rw [if_pos c_133] at hF
                    exact hK436_604 v1 v2 v3 v4 v5 v6 v7 u _ _ _ (lv_sub hl [0, 1, 2, 3, 4, 5, 6, 7] rfl) hH hF
                  · rw [if_neg c_133] at hF
                    refine lv_aload_n hx hb dX13_plan_446 rfl (lv_at hl 0 rfl) ?_
                    refine mg_71 hC hH dX13_plan_447 ?_
                    refine lv_iload hx hb dX13_plan_450 (lv_at hl 7 rfl) ?_
                    obtain ⟨g_134, hF⟩ := og_some hF
                    refine ml_71 hC hH g_134 dX13_plan_452 ?_
                    refine lv_iload hx hb dX13_plan_453 (lv_at hl 6 rfl) ?_
                    refine lv_icmp_le (tgt := 461) hx hb dX13_plan_455 (by decide) (fun c_135 => ?_) (fun c_135 => ?_)
                    · rw [if_pos c_135] at hF
                      refine lv_iconst (v := (-1)) hx hb dX13_plan_461 (by decide) ?_
                      refine lv_istore (lv' := [(8, .int (-1)), (0, .ref (Q 72)), (1, .int v1), (2, .int v2), (3, .int v3), (4, .int v4), (5, .int v5), (6, .int v6), (7, .int v7)]) hx hb dX13_plan_462 hl (by decide) rfl (fun ls hl => ?_)
                      refine lv_iconst (v := 0) hx hb dX13_plan_464 (by decide) ?_
                      refine lv_istore (lv' := [(9, .int 0), (8, .int (-1)), (0, .ref (Q 72)), (1, .int v1), (2, .int v2), (3, .int v3), (4, .int v4), (5, .int v5), (6, .int v6), (7, .int v7)]) hx hb dX13_plan_465 hl (by decide) rfl (fun ls hl => ?_)
                      have hL467 : ∀ (K467_528 : Int32 → Int32 → Int32 → Int32 → Int32 → Int32 → Int32 → Int32 → Int32 → MS → Option (Int32 × MS)), (∀ (v1 v2 v3 v4 v5 v6 v7 v8 v9 : Int32) (u : MS) (H : Heap) (locs : List Loc) (ls : Array Slot), lv_has ls 10 [(0, .ref (Q 72)), (1, .int v1), (2, .int v2), (3, .int v3), (4, .int v4), (5, .int v5), (6, .int v6), (7, .int v7), (8, .int v8), (9, .int v9)] → mH G Q u s H locs → K467_528 v1 v2 v3 v4 v5 v6 v7 v8 v9 u = some ((r, u1)) → W p l e (headSpec (Cond.code yX13_plan cX13_plan 10 (some .int) :: wM) { frames := 310, cells := 0, slots := 0, locals := 3810 }).room s m [.ref (Q 72), .int a0, .int a1].toArray below meth c H locs 0 0 (MQ below (mQi G Q u1 r s.heap.size) [.ref (Q 72), .int a0, .int a1].toArray s 0 0 (mA Q s.heap.size)) (F0 m 528 ls [])) → ∀ (n467 : Nat) (v1 v2 v3 v4 v5 v6 v7 v8 v9 : Int32) (u : MS) (H : Heap) (locs : List Loc) (ls : Array Slot), lv_has ls 10 [(0, .ref (Q 72)), (1, .int v1), (2, .int v2), (3, .int v3), (4, .int v4), (5, .int v5), (6, .int v6), (7, .int v7), (8, .int v8), (9, .int v9)] → mH G Q u s H locs → lp_plan_467 n467 v1 v2 v3 v4 v5 v6 v7 v8 v9 u K467_528 = some ((r, u1)) → W p l e (headSpec (Cond.code yX13_plan cX13_plan 10 (some .int) :: wM) { frames := 310, cells := 0, slots := 0, locals := 3810 }).room s m [.ref (Q 72), .int a0, .int a1].toArray below meth c H locs 0 0 (MQ below (mQi G Q u1 r s.heap.size) [.ref (Q 72), .int a0, .int a1].toArray s 0 0 (mA Q s.heap.size)) (F0 m 467 ls []) := by
                        intro K467_528 hK467_528 n467
                        induction n467 with
                        | zero => intro v1 v2 v3 v4 v5 v6 v7 v8 v9 u H locs ls hl hH hF; cases hF
                        | succ n467 ih467 =>
                          intro v1 v2 v3 v4 v5 v6 v7 v8 v9 u H locs ls hl hH hF
                          unfold lp_plan_467 at hF
                          refine lv_iload hx hb dX13_plan_467 (lv_at hl 9 rfl) ?_
                          refine lv_iload hx hb dX13_plan_469 (lv_at hl 5 rfl) ?_
                          refine lv_icmp_ge (tgt := 528) hx hb dX13_plan_471 (by decide) (fun c_136 => ?_) (fun c_136 => ?_)
                          · rw [if_pos c_136] at hF
                            exact hK467_528 v1 v2 v3 v4 v5 v6 v7 v8 v9 u _ _ _ (lv_sub hl [0, 1, 2, 3, 4, 5, 6, 7, 8, 9] rfl) hH hF
                          · rw [if_neg c_136] at hF
                            refine lv_iload hx hb dX13_plan_474 (lv_at hl 8 rfl) ?_
                            refine lv_iconst (v := (-1)) hx hb dX13_plan_476 (by decide) ?_
                            refine lv_icmp_ne (tgt := 528) hx hb dX13_plan_477 (by decide) (fun c_137 => ?_) (fun c_137 => ?_)
                            · rw [if_neg c_137] at hF
                              exact hK467_528 v1 v2 v3 v4 v5 v6 v7 v8 v9 u _ _ _ (lv_sub hl [0, 1, 2, 3, 4, 5, 6, 7, 8, 9] rfl) hH hF
                            · rw [if_pos c_137] at hF
                              refine lv_aload_n hx hb dX13_plan_480 rfl (lv_at hl 0 rfl) ?_
                              refine mg_65 hC hH dX13_plan_481 ?_
                              refine lv_aload_n hx hb dX13_plan_484 rfl (lv_at hl 0 rfl) ?_
                              refine mg_66 hC hH dX13_plan_485 ?_
                              refine lv_iload hx hb dX13_plan_488 (lv_at hl 9 rfl) ?_
                              obtain ⟨g_138, hF⟩ := og_some hF
                              refine ml_66 hC hH g_138 dX13_plan_490 ?_
                              obtain ⟨g_139, hF⟩ := og_some hF
                              refine ml_65 hC hH g_139 dX13_plan_491 ?_
                              refine lv_iconst (v := 1) hx hb dX13_plan_492 (by decide) ?_
                              refine lv_icmp_ne (tgt := 522) hx hb dX13_plan_493 (by decide) (fun c_140 => ?_) (fun c_140 => ?_)
                              · rw [if_neg c_140] at hF
                                obtain ⟨x_141, e_142, hF⟩ := li_some hF
                                refine lv_iinc (v := x_141) (lv' := [(9, .int x_141), (0, .ref (Q 72)), (1, .int v1), (2, .int v2), (3, .int v3), (4, .int v4), (5, .int v5), (6, .int v6), (7, .int v7), (8, .int v8)]) hx hb dX13_plan_522 hl (k := 9) rfl e_142 (by decide) rfl (fun ls hl => ?_)
                                refine lv_goto (tgt := 467) hx hb dX13_plan_525 (by decide) ?_
                                exact ih467 v1 v2 v3 v4 v5 v6 v7 v8 x_141 u _ _ _ (lv_sub hl [1, 2, 3, 4, 5, 6, 7, 8, 9, 0] rfl) hH hF
                              · rw [if_pos c_140] at hF
                                refine lv_aload_n hx hb dX13_plan_496 rfl (lv_at hl 0 rfl) ?_
                                refine lv_aload_n hx hb dX13_plan_497 rfl (lv_at hl 0 rfl) ?_
                                refine mg_66 hC hH dX13_plan_498 ?_
                                refine lv_iload hx hb dX13_plan_501 (lv_at hl 9 rfl) ?_
                                obtain ⟨g_143, hF⟩ := og_some hF
                                refine ml_66 hC hH g_143 dX13_plan_503 ?_
                                refine lv_iload hx hb dX13_plan_504 (lv_at hl 6 rfl) ?_
                                refine lv_iload_n hx hb dX13_plan_506 rfl (lv_at hl 2 rfl) ?_
                                obtain ⟨r_144, u_145, h_146, hF⟩ := ob_some hF
                                refine mcV_i (As := [.int (ra u 66 v9), .int v6, .int v2]) (rest := []) hC hH (m_mayBegin l G Z Q u u_145 r_144 (ra u 66 v9) v6 v2 _ h_146) kwX13_mayBegin kVX13_mayBegin ⟨Nat.le_of_ble_eq_true rfl, Nat.le_of_ble_eq_true rfl⟩ rfl hl.1 rfl (Nat.le_of_ble_eq_true rfl) dX13_plan_507 (fun H locs hH => ?_)
                                refine lv_if_eq (tgt := 522) hx hb dX13_plan_510 (by decide) (fun c_147 => ?_) (fun c_147 => ?_)
                                · rw [if_pos c_147] at hF
                                  obtain ⟨x_148, e_149, hF⟩ := li_some hF
                                  refine lv_iinc (v := x_148) (lv' := [(9, .int x_148), (0, .ref (Q 72)), (1, .int v1), (2, .int v2), (3, .int v3), (4, .int v4), (5, .int v5), (6, .int v6), (7, .int v7), (8, .int v8)]) hx hb dX13_plan_522 hl (k := 9) rfl e_149 (by decide) rfl (fun ls hl => ?_)
                                  refine lv_goto (tgt := 467) hx hb dX13_plan_525 (by decide) ?_
                                  exact ih467 v1 v2 v3 v4 v5 v6 v7 v8 x_148 u_145 _ _ _ (lv_sub hl [1, 2, 3, 4, 5, 6, 7, 8, 9, 0] rfl) hH hF
                                · rw [if_neg c_147] at hF
                                  refine lv_aload_n hx hb dX13_plan_513 rfl (lv_at hl 0 rfl) ?_
                                  refine mg_66 hC hH dX13_plan_514 ?_
                                  refine lv_iload hx hb dX13_plan_517 (lv_at hl 9 rfl) ?_
                                  obtain ⟨g_150, hF⟩ := og_some hF
                                  refine ml_66 hC hH g_150 dX13_plan_519 ?_
                                  obtain ⟨x_151, e_152, hF⟩ := li_some hF
                                  refine gx_ti e_152 ?_
                                  refine lv_istore (lv' := [(8, .int x_151), (0, .ref (Q 72)), (1, .int v1), (2, .int v2), (3, .int v3), (4, .int v4), (5, .int v5), (6, .int v6), (7, .int v7), (9, .int v9)]) hx hb dX13_plan_520 hl (by decide) rfl (fun ls hl => ?_)
                                  obtain ⟨x_153, e_154, hF⟩ := li_some hF
                                  refine lv_iinc (v := x_153) (lv' := [(9, .int x_153), (8, .int x_151), (0, .ref (Q 72)), (1, .int v1), (2, .int v2), (3, .int v3), (4, .int v4), (5, .int v5), (6, .int v6), (7, .int v7)]) hx hb dX13_plan_522 hl (k := 9) rfl e_154 (by decide) rfl (fun ls hl => ?_)
                                  refine lv_goto (tgt := 467) hx hb dX13_plan_525 (by decide) ?_
                                  exact ih467 v1 v2 v3 v4 v5 v6 v7 x_151 x_153 u_145 _ _ _ (lv_sub hl [2, 3, 4, 5, 6, 7, 8, 9, 1, 0] rfl) hH hF
                      refine hL467 _ (fun v1 v2 v3 v4 v5 v6 v7 v8 v9 u H locs ls hl hH hF => ?_) fuel v1 v2 v3 v4 v5 v6 v7 (-1) 0 u _ _ _ (lv_sub hl [2, 3, 4, 5, 6, 7, 8, 9, 1, 0] rfl) hH hF
                      refine lv_iload hx hb dX13_plan_528 (lv_at hl 8 rfl) ?_
                      refine lv_iconst (v := (-1)) hx hb dX13_plan_530 (by decide) ?_
                      refine lv_icmp_ne (tgt := 537) hx hb dX13_plan_531 (by decide) (fun c_155 => ?_) (fun c_155 => ?_)
                      · rw [if_neg c_155] at hF
                        refine lv_aload_n hx hb dX13_plan_537 rfl (lv_at hl 0 rfl) ?_
                        refine mg_65 hC hH dX13_plan_538 ?_
                        refine lv_iload hx hb dX13_plan_541 (lv_at hl 8 rfl) ?_
                        refine lv_iconst (v := 2) hx hb dX13_plan_543 (by decide) ?_
                        obtain ⟨g_156, hF⟩ := og_some hF
                        obtain ⟨u_157, e_158, hF⟩ := lu_some hF
                        refine ms_65 hC hH e_158 g_156 dX13_plan_544 (fun H locs hH => ?_)
                        refine lv_aload_n hx hb dX13_plan_545 rfl (lv_at hl 0 rfl) ?_
                        refine mg_63 hC hH dX13_plan_546 ?_
                        refine lv_iload hx hb dX13_plan_549 (lv_at hl 8 rfl) ?_
                        refine lv_iload hx hb dX13_plan_551 (lv_at hl 7 rfl) ?_
                        obtain ⟨g_159, hF⟩ := og_some hF
                        obtain ⟨u_160, e_161, hF⟩ := lu_some hF
                        refine ms_63 hC hH e_161 g_159 dX13_plan_553 (fun H locs hH => ?_)
                        refine lv_aload_n hx hb dX13_plan_554 rfl (lv_at hl 0 rfl) ?_
                        refine mg_64 hC hH dX13_plan_555 ?_
                        refine lv_iload hx hb dX13_plan_558 (lv_at hl 8 rfl) ?_
                        refine lv_iload hx hb dX13_plan_560 (lv_at hl 6 rfl) ?_
                        obtain ⟨g_162, hF⟩ := og_some hF
                        obtain ⟨u_163, e_164, hF⟩ := lu_some hF
                        refine ms_64 hC hH e_164 g_162 dX13_plan_562 (fun H locs hH => ?_)
                        refine lv_aload_n hx hb dX13_plan_563 rfl (lv_at hl 0 rfl) ?_
                        refine mg_71 hC hH dX13_plan_564 ?_
                        refine lv_iload hx hb dX13_plan_567 (lv_at hl 7 rfl) ?_
                        refine lv_iload hx hb dX13_plan_569 (lv_at hl 6 rfl) ?_
                        refine lv_iload_n hx hb dX13_plan_571 rfl (lv_at hl 2 rfl) ?_
                        refine lv_iadd hx hb dX13_plan_572 ?_
                        obtain ⟨g_165, hF⟩ := og_some hF
                        obtain ⟨u_166, e_167, hF⟩ := lu_some hF
                        refine ms_71 hC hH e_167 g_165 dX13_plan_573 (fun H locs hH => ?_)
                        refine lv_aload_n hx hb dX13_plan_574 rfl (lv_at hl 0 rfl) ?_
                        refine lv_iload hx hb dX13_plan_575 (lv_at hl 8 rfl) ?_
                        refine lv_iload hx hb dX13_plan_577 (lv_at hl 6 rfl) ?_
                        refine lv_iload_n hx hb dX13_plan_579 rfl (lv_at hl 2 rfl) ?_
                        refine lv_iadd hx hb dX13_plan_580 ?_
                        obtain ⟨r_168, u_169, h_170, hF⟩ := ob_some hF
                        refine mcV_v (As := [.int v8, .int (v6 + v2)]) (rest := []) hC hH (m_tires l G Z Q u_166 u_169 r_168 v8 (v6 + v2) _ h_170) kwX13_tires kVX13_tires ⟨Nat.le_of_ble_eq_true rfl, Nat.le_of_ble_eq_true rfl⟩ rfl hl.1 rfl (Nat.le_of_ble_eq_true rfl) dX13_plan_581 (fun H locs hH => ?_)
                        obtain ⟨x_171, e_172, hF⟩ := li_some hF
                        refine lv_iinc (v := x_171) (lv' := [(3, .int x_171), (0, .ref (Q 72)), (1, .int v1), (2, .int v2), (4, .int v4), (5, .int v5), (6, .int v6), (7, .int v7), (8, .int v8), (9, .int v9)]) hx hb dX13_plan_584 hl (k := 3) rfl e_172 (by decide) rfl (fun ls hl => ?_)
                        refine lv_iload hx hb dX13_plan_587 (lv_at hl 4 rfl) ?_
                        refine lv_iload hx hb dX13_plan_589 (lv_at hl 6 rfl) ?_
                        refine lv_iload_n hx hb dX13_plan_591 rfl (lv_at hl 3 rfl) ?_
                        refine lv_iadd hx hb dX13_plan_592 ?_
                        refine va_mmax hx hb (hC.2.2.1.trans hl.1.symm) hC.2.2.2.1 (hC.2.2.2.2.1 _ wma152) (hC.2.2.2.2.1 _ wma376) (hC.2.2.2.2.1 _ wma378) (hC.2.2.2.2.1 _ wma379) (Nat.le_of_ble_eq_true rfl) (Nat.le_of_ble_eq_true rfl) (Nat.le_of_ble_eq_true rfl) (Nat.le_of_ble_eq_true rfl) dX13_plan_593 ?_
                        obtain ⟨x_173, e_174, hF⟩ := li_some hF
                        refine gx_ti e_174 ?_
                        refine lv_istore (lv' := [(4, .int x_173), (3, .int x_171), (0, .ref (Q 72)), (1, .int v1), (2, .int v2), (5, .int v5), (6, .int v6), (7, .int v7), (8, .int v8), (9, .int v9)]) hx hb dX13_plan_596 hl (by decide) rfl (fun ls hl => ?_)
                        obtain ⟨x_175, e_176, hF⟩ := li_some hF
                        refine lv_iinc (v := x_175) (lv' := [(7, .int x_175), (4, .int x_173), (3, .int x_171), (0, .ref (Q 72)), (1, .int v1), (2, .int v2), (5, .int v5), (6, .int v6), (8, .int v8), (9, .int v9)]) hx hb dX13_plan_598 hl (k := 7) rfl e_176 (by decide) rfl (fun ls hl => ?_)
                        refine lv_goto (tgt := 436) hx hb dX13_plan_601 (by decide) ?_
                        exact ih436 v1 v2 x_171 x_173 v5 v6 x_175 u_169 _ _ _ (lv_sub hl [3, 4, 5, 2, 1, 6, 7, 0] rfl) hH hF
                      · rw [if_pos c_155] at hF
                        refine lv_goto (tgt := 598) hx hb dX13_plan_534 (by decide) ?_
                        obtain ⟨x_177, e_178, hF⟩ := li_some hF
                        refine lv_iinc (v := x_177) (lv' := [(7, .int x_177), (0, .ref (Q 72)), (1, .int v1), (2, .int v2), (3, .int v3), (4, .int v4), (5, .int v5), (6, .int v6), (8, .int v8), (9, .int v9)]) hx hb dX13_plan_598 hl (k := 7) rfl e_178 (by decide) rfl (fun ls hl => ?_)
                        refine lv_goto (tgt := 436) hx hb dX13_plan_601 (by decide) ?_
                        exact ih436 v1 v2 v3 v4 v5 v6 x_177 u _ _ _ (lv_sub hl [1, 2, 3, 4, 5, 6, 7, 0] rfl) hH hF
                    · rw [if_neg c_135] at hF
                      refine lv_goto (tgt := 598) hx hb dX13_plan_458 (by decide) ?_
                      obtain ⟨x_179, e_180, hF⟩ := li_some hF
                      refine lv_iinc (v := x_179) (lv' := [(7, .int x_179), (0, .ref (Q 72)), (1, .int v1), (2, .int v2), (3, .int v3), (4, .int v4), (5, .int v5), (6, .int v6)]) hx hb dX13_plan_598 hl (k := 7) rfl e_180 (by decide) rfl (fun ls hl => ?_)
                      refine lv_goto (tgt := 436) hx hb dX13_plan_601 (by decide) ?_
                      exact ih436 v1 v2 v3 v4 v5 v6 x_179 u _ _ _ (lv_sub hl [1, 2, 3, 4, 5, 6, 7, 0] rfl) hH hF
            refine hL436 _ (fun v1 v2 v3 v4 v5 v6 v7 u H locs ls hl hH hF => ?_) fuel v1 v2 v3 v4 v5 v6 0 u _ _ _ (lv_sub hl [1, 2, 3, 4, 5, 6, 7, 0] rfl) hH hF
            refine lv_iload hx hb dX13_plan_604 (lv_at hl 4 rfl) ?_
            refine lv_ldcw (v := 100000) hx hb hC.2.2.2.1 (hC.2.2.2.2.1 _ wma176) dX13_plan_606 ?_
            refine lv_icmp_gt (tgt := 620) hx hb dX13_plan_609 (by decide) (fun c_181 => ?_) (fun c_181 => ?_)
            · rw [if_pos c_181] at hF
              refine lv_iconst (v := (-1)) hx hb dX13_plan_620 (by decide) ?_
              exact mr_i hC hH hr hF dX13_plan_621 hlocks
            · rw [if_neg c_181] at hF
              refine lv_iload hx hb dX13_plan_612 (lv_at hl 6 rfl) ?_
              refine lv_ldcw (v := 100000) hx hb hC.2.2.2.1 (hC.2.2.2.2.1 _ wma176) dX13_plan_614 ?_
              refine lv_icmp_le (tgt := 622) hx hb dX13_plan_617 (by decide) (fun c_182 => ?_) (fun c_182 => ?_)
              · rw [if_pos c_182] at hF
                obtain ⟨x_183, e_184, hF⟩ := li_some hF
                refine lv_iinc (v := x_183) (lv' := [(6, .int x_183), (0, .ref (Q 72)), (1, .int v1), (2, .int v2), (3, .int v3), (4, .int v4), (5, .int v5), (7, .int v7)]) hx hb dX13_plan_622 hl (k := 6) rfl e_184 (by decide) rfl (fun ls hl => ?_)
                refine lv_goto (tgt := 429) hx hb dX13_plan_625 (by decide) ?_
                exact ih429 v1 v2 v3 v4 v5 x_183 u _ _ _ (lv_sub hl [1, 2, 3, 4, 5, 6, 0] rfl) hH hF
              · rw [if_neg c_182] at hF
                refine lv_iconst (v := (-1)) hx hb dX13_plan_620 (by decide) ?_
                exact mr_i hC hH hr hF dX13_plan_621 hlocks
      refine hL429 _ (fun v1 v2 v3 v4 v5 v6 u H locs ls hl hH hF => ?_) fuel v1 v2 v3 v4 v5 x_129 u _ _ _ (lv_sub hl [1, 2, 3, 4, 5, 6, 0] rfl) hH hF
      refine lv_iconst (v := 0) hx hb dX13_plan_628 (by decide) ?_
      refine lv_istore (lv' := [(7, .int 0), (0, .ref (Q 72)), (1, .int v1), (2, .int v2), (3, .int v3), (4, .int v4), (5, .int v5), (6, .int v6)]) hx hb dX13_plan_629 hl (by decide) rfl (fun ls hl => ?_)
      have hL631 : ∀ (K631_673 : Int32 → Int32 → Int32 → Int32 → Int32 → Int32 → Int32 → MS → Option (Int32 × MS)), (∀ (v1 v2 v3 v4 v5 v6 v7 : Int32) (u : MS) (H : Heap) (locs : List Loc) (ls : Array Slot), lv_has ls 10 [(0, .ref (Q 72)), (1, .int v1), (2, .int v2), (3, .int v3), (4, .int v4), (5, .int v5), (6, .int v6), (7, .int v7)] → mH G Q u s H locs → K631_673 v1 v2 v3 v4 v5 v6 v7 u = some ((r, u1)) → W p l e (headSpec (Cond.code yX13_plan cX13_plan 10 (some .int) :: wM) { frames := 310, cells := 0, slots := 0, locals := 3810 }).room s m [.ref (Q 72), .int a0, .int a1].toArray below meth c H locs 0 0 (MQ below (mQi G Q u1 r s.heap.size) [.ref (Q 72), .int a0, .int a1].toArray s 0 0 (mA Q s.heap.size)) (F0 m 673 ls [])) → ∀ (n631 : Nat) (v1 v2 v3 v4 v5 v6 v7 : Int32) (u : MS) (H : Heap) (locs : List Loc) (ls : Array Slot), lv_has ls 10 [(0, .ref (Q 72)), (1, .int v1), (2, .int v2), (3, .int v3), (4, .int v4), (5, .int v5), (6, .int v6), (7, .int v7)] → mH G Q u s H locs → lp_plan_631 n631 v1 v2 v3 v4 v5 v6 v7 u K631_673 = some ((r, u1)) → W p l e (headSpec (Cond.code yX13_plan cX13_plan 10 (some .int) :: wM) { frames := 310, cells := 0, slots := 0, locals := 3810 }).room s m [.ref (Q 72), .int a0, .int a1].toArray below meth c H locs 0 0 (MQ below (mQi G Q u1 r s.heap.size) [.ref (Q 72), .int a0, .int a1].toArray s 0 0 (mA Q s.heap.size)) (F0 m 631 ls []) := by
        intro K631_673 hK631_673 n631
        induction n631 with
        | zero => intro v1 v2 v3 v4 v5 v6 v7 u H locs ls hl hH hF; cases hF
        | succ n631 ih631 =>
          intro v1 v2 v3 v4 v5 v6 v7 u H locs ls hl hH hF
          unfold lp_plan_631 at hF
          refine lv_iload hx hb dX13_plan_631 (lv_at hl 7 rfl) ?_
          refine lv_sipush (v := 160) hx hb dX13_plan_633 (by decide) ?_
          refine lv_icmp_ge (tgt := 673) hx hb dX13_plan_636 (by decide) (fun c_185 => ?_) (fun c_185 => ?_)
          · rw [if_pos c_185] at hF
            exact hK631_673 v1 v2 v3 v4 v5 v6 v7 u _ _ _ (lv_sub hl [0, 1, 2, 3, 4, 5, 6, 7] rfl) hH hF
          · rw [if_neg c_185] at hF
            refine lv_aload_n hx hb dX13_plan_639 rfl (lv_at hl 0 rfl) ?_
            refine mg_61 hC hH dX13_plan_640 ?_
            refine lv_iload hx hb dX13_plan_643 (lv_at hl 7 rfl) ?_
            refine lv_aload_n hx hb dX13_plan_645 rfl (lv_at hl 0 rfl) ?_
            refine mg_63 hC hH dX13_plan_646 ?_
            refine lv_iload hx hb dX13_plan_649 (lv_at hl 7 rfl) ?_
            obtain ⟨g_186, hF⟩ := og_some hF
            refine ml_63 hC hH g_186 dX13_plan_651 ?_
            obtain ⟨g_187, hF⟩ := og_some hF
            obtain ⟨u_188, e_189, hF⟩ := lu_some hF
            refine ms_61 hC hH e_189 g_187 dX13_plan_652 (fun H locs hH => ?_)
            refine lv_aload_n hx hb dX13_plan_653 rfl (lv_at hl 0 rfl) ?_
            refine mg_62 hC hH dX13_plan_654 ?_
            refine lv_iload hx hb dX13_plan_657 (lv_at hl 7 rfl) ?_
            refine lv_aload_n hx hb dX13_plan_659 rfl (lv_at hl 0 rfl) ?_
            refine mg_64 hC hH dX13_plan_660 ?_
            refine lv_iload hx hb dX13_plan_663 (lv_at hl 7 rfl) ?_
            obtain ⟨g_190, hF⟩ := og_some hF
            refine ml_64 hC hH g_190 dX13_plan_665 ?_
            obtain ⟨g_191, hF⟩ := og_some hF
            obtain ⟨u_192, e_193, hF⟩ := lu_some hF
            refine ms_62 hC hH e_193 g_191 dX13_plan_666 (fun H locs hH => ?_)
            obtain ⟨x_194, e_195, hF⟩ := li_some hF
            refine lv_iinc (v := x_194) (lv' := [(7, .int x_194), (0, .ref (Q 72)), (1, .int v1), (2, .int v2), (3, .int v3), (4, .int v4), (5, .int v5), (6, .int v6)]) hx hb dX13_plan_667 hl (k := 7) rfl e_195 (by decide) rfl (fun ls hl => ?_)
            refine lv_goto (tgt := 631) hx hb dX13_plan_670 (by decide) ?_
            exact ih631 v1 v2 v3 v4 v5 v6 x_194 u_192 _ _ _ (lv_sub hl [1, 2, 3, 4, 5, 6, 7, 0] rfl) hH hF
      refine hL631 _ (fun v1 v2 v3 v4 v5 v6 v7 u H locs ls hl hH hF => ?_) fuel v1 v2 v3 v4 v5 v6 0 u _ _ _ (lv_sub hl [1, 2, 3, 4, 5, 6, 7, 0] rfl) hH hF
      refine lv_aload_n hx hb dX13_plan_673 rfl (lv_at hl 0 rfl) ?_
      refine lv_iconst (v := 1) hx hb dX13_plan_674 (by decide) ?_
      obtain ⟨u_196, e_197, hF⟩ := lu_some hF
      refine mp_69 hC hH e_197 rfl dX13_plan_675 (fun H locs hH => ?_)
      refine lv_iload hx hb dX13_plan_678 (lv_at hl 4 rfl) ?_
      exact mr_i hC hH hr hF dX13_plan_680 hlocks
    · rw [if_pos c_8] at hF
      refine lv_bipush (v := (-2)) hx hb dX13_plan_24 (by decide) ?_
      exact mr_i hC hH hr hF dX13_plan_26 hlocks
def f_planned (a0 : Int32) (a1 : Int32) (a2 : Int32) (u : MS) : Option (Int32 × MS) := ob (f_isFight a0 a1 u) (fun r_1 u_2 => (if r_1 = 0 then some (-1, u_2) else (if (u_2.1 69) = 0 then some (-1, u_2) else ob (f_in a2.toInt64 0 1 u_2) (fun r_6 u_7 => (if r_6 = 0 then some (-1, u_7) else (if a2 = 0 then og (gi ((40 * a0) + a1) 160) (some (ra u_7 61 ((40 * a0) + a1), u_7)) else og (gi ((40 * a0) + a1) 160) (some (ra u_7 62 ((40 * a0) + a1), u_7))))))))
set_option maxHeartbeats 4000000 in
set_option maxRecDepth 100000 in
theorem m_planned (l : Launch) (G : gG) (Z : gM) (Q : Nat → Nat) (u u1 : MS) (r : Int32) (a0 : Int32) (a1 : Int32) (a2 : Int32) (sz : Nat) (hF : f_planned a0 a1 a2 u = some (r, u1)) : Met l yX13_planned (Cond.code yX13_planned cX13_planned 4 (some .int) :: wM) { frames := 4, cells := 0, slots := 0, locals := 87 } (va_Pc [.ref (Q 72), .int a0, .int a1, .int a2] (mPM G Z Q u sz)) (mQi G Q u1 r sz) 0 0 (mA Q sz) := by
  refine Met.ofW (cc := cX13_planned) (maxL := 4) (ret := (some .int)) (by decide) rfl ?_
  intro p e s m args below meth c s₁ B hml hv
  obtain ⟨rfl, rfl, hP, hB, hD, hE⟩ := hv
  have hr := B.returns
  have hlocks := B.notSynchronized
  have hts := atoms_spec (ws := Cond.code yX13_planned cX13_planned 4 (some .int) :: wM) B.pre
  have hC : mX p c cX13_planned 4 s m _ G Z Q := ⟨B.exec, B.bytes, hml, findClass_of_methodNamed B.named, fun w h => hts w (List.mem_cons_of_mem _ h), hB, hE⟩
  have hx := hC.1
  have hb := hC.2.1
  have hH : mH G Q u s s.heap [] := ⟨hP, hD, va_S.rf⟩
  have hl := lv_entry ([.ref (Q 72), .int a0, .int a1, .int a2]) (n := 4) (Nat.le_of_ble_eq_true rfl)
  rw [lg_entry_eq]
  generalize (lg_sl ([.ref (Q 72), .int a0, .int a1, .int a2]) ++ List.replicate (4 - (lg_sl ([.ref (Q 72), .int a0, .int a1, .int a2])).length) Slot.unset).toArray = ls at hl ⊢
  have hl : lv_has ls 4 [(0, .ref (Q 72)), (1, .int a0), (2, .int a1), (3, .int a2)] := hl
  unfold f_planned at hF
  refine lv_aload_n hx hb dX13_planned_0 rfl (lv_at hl 0 rfl) ?_
  refine lv_iload_n hx hb dX13_planned_1 rfl (lv_at hl 1 rfl) ?_
  refine lv_iload_n hx hb dX13_planned_2 rfl (lv_at hl 2 rfl) ?_
  obtain ⟨r_1, u_2, h_3, hF⟩ := ob_some hF
  refine mcV_i (As := [.int a0, .int a1]) (rest := []) hC hH (m_isFight l G Z Q u u_2 r_1 a0 a1 _ h_3) kwX13_isFight kVX13_isFight ⟨Nat.le_of_ble_eq_true rfl, Nat.le_of_ble_eq_true rfl⟩ rfl hl.1 rfl (Nat.le_of_ble_eq_true rfl) dX13_planned_3 (fun H locs hH => ?_)
  refine lv_if_eq (tgt := 26) hx hb dX13_planned_6 (by decide) (fun c_4 => ?_) (fun c_4 => ?_)
  · rw [if_pos c_4] at hF
    refine lv_iconst (v := (-1)) hx hb dX13_planned_26 (by decide) ?_
    exact mr_i hC hH hr hF dX13_planned_27 hlocks
  · rw [if_neg c_4] at hF
    refine lv_aload_n hx hb dX13_planned_9 rfl (lv_at hl 0 rfl) ?_
    refine mg_69 hC hH dX13_planned_10 ?_
    refine lv_if_eq (tgt := 26) hx hb dX13_planned_13 (by decide) (fun c_5 => ?_) (fun c_5 => ?_)
    · rw [if_pos c_5] at hF
      refine lv_iconst (v := (-1)) hx hb dX13_planned_26 (by decide) ?_
      exact mr_i hC hH hr hF dX13_planned_27 hlocks
    · rw [if_neg c_5] at hF
      refine lv_iload_n hx hb dX13_planned_16 rfl (lv_at hl 3 rfl) ?_
      refine lv_i2l (v := a2.toInt64) hx hb dX13_planned_17 rfl ?_
      refine lv_lconst (v := 0) hx hb dX13_planned_18 (by decide) ?_
      refine lv_lconst (v := 1) hx hb dX13_planned_19 (by decide) ?_
      obtain ⟨r_6, u_7, h_8, hF⟩ := ob_some hF
      refine mcS_i (As := [.long a2.toInt64, .long 0, .long 1]) (rest := []) hC hH (m_in l G Z Q u_2 u_7 r_6 a2.toInt64 0 1 _ h_8) kwX13_in kVX13_in ⟨Nat.le_of_ble_eq_true rfl, Nat.le_of_ble_eq_true rfl⟩ rfl hl.1 rfl (Nat.le_of_ble_eq_true rfl) dX13_planned_20 (fun H locs hH => ?_)
      refine lv_if_ne (tgt := 28) hx hb dX13_planned_23 (by decide) (fun c_9 => ?_) (fun c_9 => ?_)
      · rw [if_neg c_9] at hF
        refine lv_iload_n hx hb dX13_planned_28 rfl (lv_at hl 3 rfl) ?_
        refine lv_if_ne (tgt := 46) hx hb dX13_planned_29 (by decide) (fun c_10 => ?_) (fun c_10 => ?_)
        · rw [if_neg c_10] at hF
          refine lv_aload_n hx hb dX13_planned_46 rfl (lv_at hl 0 rfl) ?_
          refine mg_62 hC hH dX13_planned_47 ?_
          refine lv_bipush (v := 40) hx hb dX13_planned_50 (by decide) ?_
          refine lv_iload_n hx hb dX13_planned_52 rfl (lv_at hl 1 rfl) ?_
          refine lv_imul hx hb dX13_planned_53 ?_
          refine lv_iload_n hx hb dX13_planned_54 rfl (lv_at hl 2 rfl) ?_
          refine lv_iadd hx hb dX13_planned_55 ?_
          obtain ⟨g_11, hF⟩ := og_some hF
          refine ml_62 hC hH g_11 dX13_planned_56 ?_
          exact mr_i hC hH hr hF dX13_planned_57 hlocks
        · rw [if_pos c_10] at hF
          refine lv_aload_n hx hb dX13_planned_32 rfl (lv_at hl 0 rfl) ?_
          refine mg_61 hC hH dX13_planned_33 ?_
          refine lv_bipush (v := 40) hx hb dX13_planned_36 (by decide) ?_
          refine lv_iload_n hx hb dX13_planned_38 rfl (lv_at hl 1 rfl) ?_
          refine lv_imul hx hb dX13_planned_39 ?_
          refine lv_iload_n hx hb dX13_planned_40 rfl (lv_at hl 2 rfl) ?_
          refine lv_iadd hx hb dX13_planned_41 ?_
          obtain ⟨g_12, hF⟩ := og_some hF
          refine ml_61 hC hH g_12 dX13_planned_42 ?_
          refine lv_goto (tgt := 57) hx hb dX13_planned_43 (by decide) ?_
          exact mr_i hC hH hr hF dX13_planned_57 hlocks
      · rw [if_pos c_9] at hF
        refine lv_iconst (v := (-1)) hx hb dX13_planned_26 (by decide) ?_
        exact mr_i hC hH hr hF dX13_planned_27 hlocks
def lp_count_84 : Nat → Int32 → Int32 → Int32 → MS → (Int32 → Int32 → Int32 → MS → Option (Int32 × MS)) → Option (Int32 × MS)
  | 0, _, _, _, _, _ => none
  | n84 + 1, v1, v2, v3, u, K84_113 => (if 4 ≤ v3 then K84_113 v1 v2 v3 u else og (gi v3 4) ((if (ra u 22 v3) = (-1) then li (v2 + 0) (fun x_11 => li (v3 + 1) (fun x_13 => lp_count_84 n84 v1 x_11 x_13 u K84_113)) else li (v2 + 1) (fun x_15 => li (v3 + 1) (fun x_17 => lp_count_84 n84 v1 x_15 x_17 u K84_113)))))
def f_count (a0 : Int32) (u : MS) : Option (Int32 × MS) := (if a0 = 0 then some (u.1 2, u) else if a0 = 1 then some (u.1 3, u) else if a0 = 2 then some (u.1 4, u) else if a0 = 3 then some (u.1 29, u) else if a0 = 4 then some (u.1 30, u) else if a0 = 5 then some (u.1 31, u) else if a0 = 6 then lp_count_84 fuel a0 0 0 u (fun v1 v2 v3 u => some (v2, u)) else if a0 = 7 then some (u.1 53, u) else if a0 = 8 then some (u.1 42, u) else some (-1, u))
set_option maxHeartbeats 4000000 in
set_option maxRecDepth 100000 in
theorem m_count (l : Launch) (G : gG) (Z : gM) (Q : Nat → Nat) (u u1 : MS) (r : Int32) (a0 : Int32) (sz : Nat) (hF : f_count a0 u = some (r, u1)) : Met l yX13_count (Cond.code yX13_count cX13_count 4 (some .int) :: wM) { frames := 0, cells := 0, slots := 0, locals := 0 } (va_Pc [.ref (Q 72), .int a0] (mPM G Z Q u sz)) (mQi G Q u1 r sz) 0 0 (mA Q sz) := by
  refine Met.ofW (cc := cX13_count) (maxL := 4) (ret := (some .int)) (by decide) rfl ?_
  intro p e s m args below meth c s₁ B hml hv
  obtain ⟨rfl, rfl, hP, hB, hD, hE⟩ := hv
  have hr := B.returns
  have hlocks := B.notSynchronized
  have hts := atoms_spec (ws := Cond.code yX13_count cX13_count 4 (some .int) :: wM) B.pre
  have hC : mX p c cX13_count 4 s m _ G Z Q := ⟨B.exec, B.bytes, hml, findClass_of_methodNamed B.named, fun w h => hts w (List.mem_cons_of_mem _ h), hB, hE⟩
  have hx := hC.1
  have hb := hC.2.1
  have hH : mH G Q u s s.heap [] := ⟨hP, hD, va_S.rf⟩
  have hl := lv_entry ([.ref (Q 72), .int a0]) (n := 4) (Nat.le_of_ble_eq_true rfl)
  rw [lg_entry_eq]
  generalize (lg_sl ([.ref (Q 72), .int a0]) ++ List.replicate (4 - (lg_sl ([.ref (Q 72), .int a0])).length) Slot.unset).toArray = ls at hl ⊢
  have hl : lv_has ls 4 [(0, .ref (Q 72)), (1, .int a0)] := hl
  unfold f_count at hF
  refine lv_iconst (v := 0) hx hb dX13_count_0 (by decide) ?_
  refine lv_istore_n (lv' := [(2, .int 0), (0, .ref (Q 72)), (1, .int a0)]) hx hb dX13_count_1 rfl hl (by decide) rfl (fun ls hl => ?_)
  refine lv_iload_n hx hb dX13_count_2 rfl (lv_at hl 2 rfl) ?_
  by_cases c_1 : a0 = 0
  · rw [if_pos c_1] at hF
    refine gx_ti (y := 0) c_1 ?_
    refine lv_tableIn (off := 49) (tgt := 52) hx hb dX13_count_3 (by decide) (by decide) rfl (by decide) ?_
    refine lv_aload_n hx hb dX13_count_52 rfl (lv_at hl 1 rfl) ?_
    refine mg_2 hC hH dX13_count_53 ?_
    exact mr_i hC hH hr hF dX13_count_56 hlocks
  rw [if_neg c_1] at hF
  by_cases c_2 : a0 = 1
  · rw [if_pos c_2] at hF
    refine gx_ti (y := 1) c_2 ?_
    refine lv_tableIn (off := 54) (tgt := 57) hx hb dX13_count_3 (by decide) (by decide) rfl (by decide) ?_
    refine lv_aload_n hx hb dX13_count_57 rfl (lv_at hl 1 rfl) ?_
    refine mg_3 hC hH dX13_count_58 ?_
    exact mr_i hC hH hr hF dX13_count_61 hlocks
  rw [if_neg c_2] at hF
  by_cases c_3 : a0 = 2
  · rw [if_pos c_3] at hF
    refine gx_ti (y := 2) c_3 ?_
    refine lv_tableIn (off := 59) (tgt := 62) hx hb dX13_count_3 (by decide) (by decide) rfl (by decide) ?_
    refine lv_aload_n hx hb dX13_count_62 rfl (lv_at hl 1 rfl) ?_
    refine mg_4 hC hH dX13_count_63 ?_
    exact mr_i hC hH hr hF dX13_count_66 hlocks
  rw [if_neg c_3] at hF
  by_cases c_4 : a0 = 3
  · rw [if_pos c_4] at hF
    refine gx_ti (y := 3) c_4 ?_
    refine lv_tableIn (off := 64) (tgt := 67) hx hb dX13_count_3 (by decide) (by decide) rfl (by decide) ?_
    refine lv_aload_n hx hb dX13_count_67 rfl (lv_at hl 1 rfl) ?_
    refine mg_29 hC hH dX13_count_68 ?_
    exact mr_i hC hH hr hF dX13_count_71 hlocks
  rw [if_neg c_4] at hF
  by_cases c_5 : a0 = 4
  · rw [if_pos c_5] at hF
    refine gx_ti (y := 4) c_5 ?_
    refine lv_tableIn (off := 69) (tgt := 72) hx hb dX13_count_3 (by decide) (by decide) rfl (by decide) ?_
    refine lv_aload_n hx hb dX13_count_72 rfl (lv_at hl 1 rfl) ?_
    refine mg_30 hC hH dX13_count_73 ?_
    exact mr_i hC hH hr hF dX13_count_76 hlocks
  rw [if_neg c_5] at hF
  by_cases c_6 : a0 = 5
  · rw [if_pos c_6] at hF
    refine gx_ti (y := 5) c_6 ?_
    refine lv_tableIn (off := 74) (tgt := 77) hx hb dX13_count_3 (by decide) (by decide) rfl (by decide) ?_
    refine lv_aload_n hx hb dX13_count_77 rfl (lv_at hl 1 rfl) ?_
    refine mg_31 hC hH dX13_count_78 ?_
    exact mr_i hC hH hr hF dX13_count_81 hlocks
  rw [if_neg c_6] at hF
  by_cases c_7 : a0 = 6
  · rw [if_pos c_7] at hF
    refine gx_ti (y := 6) c_7 ?_
    refine lv_tableIn (off := 79) (tgt := 82) hx hb dX13_count_3 (by decide) (by decide) rfl (by decide) ?_
    refine lv_iconst (v := 0) hx hb dX13_count_82 (by decide) ?_
    refine lv_istore_n (lv' := [(3, .int 0), (2, .int 0), (0, .ref (Q 72)), (1, .int a0)]) hx hb dX13_count_83 rfl hl (by decide) rfl (fun ls hl => ?_)
    have hL84 : ∀ (K84_113 : Int32 → Int32 → Int32 → MS → Option (Int32 × MS)), (∀ (v1 v2 v3 : Int32) (u : MS) (H : Heap) (locs : List Loc) (ls : Array Slot), lv_has ls 4 [(0, .ref (Q 72)), (1, .int v1), (2, .int v2), (3, .int v3)] → mH G Q u s H locs → K84_113 v1 v2 v3 u = some ((r, u1)) → W p l e (headSpec (Cond.code yX13_count cX13_count 4 (some .int) :: wM) { frames := 0, cells := 0, slots := 0, locals := 0 }).room s m [.ref (Q 72), .int a0].toArray below meth c H locs 0 0 (MQ below (mQi G Q u1 r s.heap.size) [.ref (Q 72), .int a0].toArray s 0 0 (mA Q s.heap.size)) (F0 m 113 ls [])) → ∀ (n84 : Nat) (v1 v2 v3 : Int32) (u : MS) (H : Heap) (locs : List Loc) (ls : Array Slot), lv_has ls 4 [(0, .ref (Q 72)), (1, .int v1), (2, .int v2), (3, .int v3)] → mH G Q u s H locs → lp_count_84 n84 v1 v2 v3 u K84_113 = some ((r, u1)) → W p l e (headSpec (Cond.code yX13_count cX13_count 4 (some .int) :: wM) { frames := 0, cells := 0, slots := 0, locals := 0 }).room s m [.ref (Q 72), .int a0].toArray below meth c H locs 0 0 (MQ below (mQi G Q u1 r s.heap.size) [.ref (Q 72), .int a0].toArray s 0 0 (mA Q s.heap.size)) (F0 m 84 ls []) := by
      intro K84_113 hK84_113 n84
      induction n84 with
      | zero => intro v1 v2 v3 u H locs ls hl hH hF; cases hF
      | succ n84 ih84 =>
        intro v1 v2 v3 u H locs ls hl hH hF
        unfold lp_count_84 at hF
        refine lv_iload_n hx hb dX13_count_84 rfl (lv_at hl 3 rfl) ?_
        refine lv_iconst (v := 4) hx hb dX13_count_85 (by decide) ?_
        refine lv_icmp_ge (tgt := 113) hx hb dX13_count_86 (by decide) (fun c_8 => ?_) (fun c_8 => ?_)
        · rw [if_pos c_8] at hF
          exact hK84_113 v1 v2 v3 u _ _ _ (lv_sub hl [0, 1, 2, 3] rfl) hH hF
        · rw [if_neg c_8] at hF
          refine lv_iload_n hx hb dX13_count_89 rfl (lv_at hl 2 rfl) ?_
          refine lv_aload_n hx hb dX13_count_90 rfl (lv_at hl 0 rfl) ?_
          refine mg_22 hC hH dX13_count_91 ?_
          refine lv_iload_n hx hb dX13_count_94 rfl (lv_at hl 3 rfl) ?_
          obtain ⟨g_9, hF⟩ := og_some hF
          refine ml_22 hC hH g_9 dX13_count_95 ?_
          refine lv_iconst (v := (-1)) hx hb dX13_count_96 (by decide) ?_
          refine lv_icmp_eq (tgt := 104) hx hb dX13_count_97 (by decide) (fun c_10 => ?_) (fun c_10 => ?_)
          · rw [if_pos c_10] at hF
            refine lv_iconst (v := 0) hx hb dX13_count_104 (by decide) ?_
            refine lv_iadd hx hb dX13_count_105 ?_
            obtain ⟨x_11, e_12, hF⟩ := li_some hF
            refine gx_ti e_12 ?_
            refine lv_istore_n (lv' := [(2, .int x_11), (0, .ref (Q 72)), (1, .int v1), (3, .int v3)]) hx hb dX13_count_106 rfl hl (by decide) rfl (fun ls hl => ?_)
            obtain ⟨x_13, e_14, hF⟩ := li_some hF
            refine lv_iinc (v := x_13) (lv' := [(3, .int x_13), (2, .int x_11), (0, .ref (Q 72)), (1, .int v1)]) hx hb dX13_count_107 hl (k := 3) rfl e_14 (by decide) rfl (fun ls hl => ?_)
            refine lv_goto (tgt := 84) hx hb dX13_count_110 (by decide) ?_
            exact ih84 v1 x_11 x_13 u _ _ _ (lv_sub hl [2, 3, 1, 0] rfl) hH hF
          · rw [if_neg c_10] at hF
            refine lv_iconst (v := 1) hx hb dX13_count_100 (by decide) ?_
            refine lv_goto (tgt := 105) hx hb dX13_count_101 (by decide) ?_
            refine lv_iadd hx hb dX13_count_105 ?_
            obtain ⟨x_15, e_16, hF⟩ := li_some hF
            refine gx_ti e_16 ?_
            refine lv_istore_n (lv' := [(2, .int x_15), (0, .ref (Q 72)), (1, .int v1), (3, .int v3)]) hx hb dX13_count_106 rfl hl (by decide) rfl (fun ls hl => ?_)
            obtain ⟨x_17, e_18, hF⟩ := li_some hF
            refine lv_iinc (v := x_17) (lv' := [(3, .int x_17), (2, .int x_15), (0, .ref (Q 72)), (1, .int v1)]) hx hb dX13_count_107 hl (k := 3) rfl e_18 (by decide) rfl (fun ls hl => ?_)
            refine lv_goto (tgt := 84) hx hb dX13_count_110 (by decide) ?_
            exact ih84 v1 x_15 x_17 u _ _ _ (lv_sub hl [2, 3, 1, 0] rfl) hH hF
    refine hL84 _ (fun v1 v2 v3 u H locs ls hl hH hF => ?_) fuel a0 0 0 u _ _ _ (lv_sub hl [2, 3, 1, 0] rfl) hH hF
    refine lv_iload_n hx hb dX13_count_113 rfl (lv_at hl 2 rfl) ?_
    exact mr_i hC hH hr hF dX13_count_114 hlocks
  rw [if_neg c_7] at hF
  by_cases c_19 : a0 = 7
  · rw [if_pos c_19] at hF
    refine gx_ti (y := 7) c_19 ?_
    refine lv_tableIn (off := 112) (tgt := 115) hx hb dX13_count_3 (by decide) (by decide) rfl (by decide) ?_
    refine lv_aload_n hx hb dX13_count_115 rfl (lv_at hl 1 rfl) ?_
    refine mg_53 hC hH dX13_count_116 ?_
    exact mr_i hC hH hr hF dX13_count_119 hlocks
  rw [if_neg c_19] at hF
  by_cases c_20 : a0 = 8
  · rw [if_pos c_20] at hF
    refine gx_ti (y := 8) c_20 ?_
    refine lv_tableIn (off := 117) (tgt := 120) hx hb dX13_count_3 (by decide) (by decide) rfl (by decide) ?_
    refine lv_aload_n hx hb dX13_count_120 rfl (lv_at hl 1 rfl) ?_
    refine mg_42 hC hH dX13_count_121 ?_
    exact mr_i hC hH hr hF dX13_count_124 hlocks
  rw [if_neg c_20] at hF
  refine lv_tableOut (tgt := 125) hx hb dX13_count_3 (by have q0 := gl_ne c_1 (a := 0) (by decide); have q1 := gl_ne c_2 (a := 1) (by decide); have q2 := gl_ne c_3 (a := 2) (by decide); have q3 := gl_ne c_4 (a := 3) (by decide); have q4 := gl_ne c_5 (a := 4) (by decide); have q5 := gl_ne c_6 (a := 5) (by decide); have q6 := gl_ne c_7 (a := 6) (by decide); have q7 := gl_ne c_19 (a := 7) (by decide); have q8 := gl_ne c_20 (a := 8) (by decide); omega) (by decide) ?_
  refine lv_iconst (v := (-1)) hx hb dX13_count_125 (by decide) ?_
  exact mr_i hC hH hr hF dX13_count_126 hlocks
