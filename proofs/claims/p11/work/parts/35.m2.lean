def f_isWalk (a0 : Int32) (a1 : Int32) : PG (Int32) := prd 15 160 ((40 * a0) + a1) (fun x_1 => (if x_1 = 0 then pcl (fS 24 0 a0 a1 0 0) (fun r_5 => pcl (fS 24 0 a0 a1 1 0) (fun r_8 => (if r_5 = (-2) then (if 0 ≤ r_8 then prt 1 else (if r_8 = (-2) then (if r_5 < 0 then prt 0 else prt 1) else prt 0)) else (if r_8 = (-2) then (if r_5 < 0 then prt 0 else prt 1) else prt 0)))) else prt 0))
set_option maxHeartbeats 4000000 in
set_option maxRecDepth 100000 in
theorem m_isWalk (l : Launch) (G : gG) (Z : gM) (Q : Nat → Nat) (u u1 : GS) (r : Int32) (a0 : Int32) (a1 : Int32) (sz : Nat) (hF : f_isWalk a0 a1 u = some (r, u1)) : Met l yX13_isWalk (Cond.code yX13_isWalk cX13_isWalk 5 (some .boolean) :: wM) { frames := 309, cells := 0, slots := 0, locals := 3786 } (va_Pc [.ref (Q 72), .int a0, .int a1] (mPM G Z Q u.1 sz)) (mQi G Q u1.1 r sz) 0 0 (mA Q sz) := by
  refine Met.ofW (cc := cX13_isWalk) (maxL := 5) (ret := (some .boolean)) (by decide) rfl ?_
  intro p e s m args below meth c s₁ B hml hv
  obtain ⟨rfl, rfl, hP, hB, hD, hE⟩ := hv
  have hr := B.returns
  have hlocks := B.notSynchronized
  have hts := atoms_spec (ws := Cond.code yX13_isWalk cX13_isWalk 5 (some .boolean) :: wM) B.pre
  have hC : mX p c cX13_isWalk 5 s m _ G Z Q := ⟨B.exec, B.bytes, hml, findClass_of_methodNamed B.named, fun w h => hts w (List.mem_cons_of_mem _ h), hB, hE⟩
  have hx := hC.1
  have hb := hC.2.1
  have hH : mH G Q u.1 s s.heap [] := ⟨hP, hD, va_S.rf⟩
  have hl := lv_entry ([.ref (Q 72), .int a0, .int a1]) (n := 5) (Nat.le_of_ble_eq_true rfl)
  rw [lg_entry_eq]
  generalize (lg_sl ([.ref (Q 72), .int a0, .int a1]) ++ List.replicate (5 - (lg_sl ([.ref (Q 72), .int a0, .int a1])).length) Slot.unset).toArray = ls at hl ⊢
  have hl : lv_has ls 5 [(0, .ref (Q 72)), (1, .int a0), (2, .int a1)] := hl
  unfold f_isWalk at hF
  refine lv_aload_n hx hb dX13_isWalk_0 rfl (lv_at hl 0 rfl) ?_
  refine mg_15 hC hH dX13_isWalk_1 ?_
  refine lv_bipush (v := 40) hx hb dX13_isWalk_4 (by decide) ?_
  refine lv_iload_n hx hb dX13_isWalk_6 rfl (lv_at hl 1 rfl) ?_
  refine lv_imul hx hb dX13_isWalk_7 ?_
  refine lv_iload_n hx hb dX13_isWalk_8 rfl (lv_at hl 2 rfl) ?_
  refine lv_iadd hx hb dX13_isWalk_9 ?_
  obtain ⟨x_1, g_2, e_3, hF⟩ := prd_some hF
  refine ml_15 hC hH g_2 dX13_isWalk_10 ?_
  refine gx_ti e_3 ?_
  refine lv_if_eq (tgt := 16) hx hb dX13_isWalk_11 (by decide) (fun c_4 => ?_) (fun c_4 => ?_)
  · rw [if_pos c_4] at hF
    refine lv_aload_n hx hb dX13_isWalk_16 rfl (lv_at hl 0 rfl) ?_
    refine lv_iload_n hx hb dX13_isWalk_17 rfl (lv_at hl 1 rfl) ?_
    refine lv_iload_n hx hb dX13_isWalk_18 rfl (lv_at hl 2 rfl) ?_
    refine lv_iconst (v := 0) hx hb dX13_isWalk_19 (by decide) ?_
    obtain ⟨r_5, u_6, h_7, hF⟩ := pcl_some hF
    refine mcV_i (As := [.int a0, .int a1, .int 0]) (rest := []) hC hH (m_sideOf l G Z Q u u_6 r_5 a0 a1 0 _ h_7) kwX13_sideOf kVX13_sideOf ⟨Nat.le_of_ble_eq_true rfl, Nat.le_of_ble_eq_true rfl⟩ rfl hl.1 rfl (Nat.le_of_ble_eq_true rfl) dX13_isWalk_20 (fun H locs hH => ?_)
    refine lv_istore_n (lv' := [(3, .int r_5), (0, .ref (Q 72)), (1, .int a0), (2, .int a1)]) hx hb dX13_isWalk_23 rfl hl (by decide) rfl (fun ls hl => ?_)
    refine lv_aload_n hx hb dX13_isWalk_24 rfl (lv_at hl 1 rfl) ?_
    refine lv_iload_n hx hb dX13_isWalk_25 rfl (lv_at hl 2 rfl) ?_
    refine lv_iload_n hx hb dX13_isWalk_26 rfl (lv_at hl 3 rfl) ?_
    refine lv_iconst (v := 1) hx hb dX13_isWalk_27 (by decide) ?_
    obtain ⟨r_8, u_9, h_10, hF⟩ := pcl_some hF
    refine mcV_i (As := [.int a0, .int a1, .int 1]) (rest := []) hC hH (m_sideOf l G Z Q u_6 u_9 r_8 a0 a1 1 _ h_10) kwX13_sideOf kVX13_sideOf ⟨Nat.le_of_ble_eq_true rfl, Nat.le_of_ble_eq_true rfl⟩ rfl hl.1 rfl (Nat.le_of_ble_eq_true rfl) dX13_isWalk_28 (fun H locs hH => ?_)
    refine lv_istore (lv' := [(4, .int r_8), (3, .int r_5), (0, .ref (Q 72)), (1, .int a0), (2, .int a1)]) hx hb dX13_isWalk_31 hl (by decide) rfl (fun ls hl => ?_)
    refine lv_iload_n hx hb dX13_isWalk_33 rfl (lv_at hl 1 rfl) ?_
    refine lv_bipush (v := (-2)) hx hb dX13_isWalk_34 (by decide) ?_
    refine lv_icmp_ne (tgt := 44) hx hb dX13_isWalk_36 (by decide) (fun c_11 => ?_) (fun c_11 => ?_)
    · rw [if_neg c_11] at hF
      refine lv_iload hx hb dX13_isWalk_44 (lv_at hl 0 rfl) ?_
      refine lv_bipush (v := (-2)) hx hb dX13_isWalk_46 (by decide) ?_
      refine lv_icmp_ne (tgt := 59) hx hb dX13_isWalk_48 (by decide) (fun c_12 => ?_) (fun c_12 => ?_)
      · rw [if_neg c_12] at hF
        refine lv_iconst (v := 0) hx hb dX13_isWalk_59 (by decide) ?_
        have hF := prt_eq hF
        exact mr_z hC hH hr rfl hF dX13_isWalk_60 hlocks
      · rw [if_pos c_12] at hF
        refine lv_iload_n hx hb dX13_isWalk_51 rfl (lv_at hl 1 rfl) ?_
        refine lv_if_lt (tgt := 59) hx hb dX13_isWalk_52 (by decide) (fun c_13 => ?_) (fun c_13 => ?_)
        · rw [if_pos c_13] at hF
          refine lv_iconst (v := 0) hx hb dX13_isWalk_59 (by decide) ?_
          have hF := prt_eq hF
          exact mr_z hC hH hr rfl hF dX13_isWalk_60 hlocks
        · rw [if_neg c_13] at hF
          refine lv_iconst (v := 1) hx hb dX13_isWalk_55 (by decide) ?_
          refine lv_goto (tgt := 60) hx hb dX13_isWalk_56 (by decide) ?_
          have hF := prt_eq hF
          exact mr_z hC hH hr rfl hF dX13_isWalk_60 hlocks
    · rw [if_pos c_11] at hF
      refine lv_iload hx hb dX13_isWalk_39 (lv_at hl 0 rfl) ?_
      refine lv_if_ge (tgt := 55) hx hb dX13_isWalk_41 (by decide) (fun c_14 => ?_) (fun c_14 => ?_)
      · rw [if_pos c_14] at hF
        refine lv_iconst (v := 1) hx hb dX13_isWalk_55 (by decide) ?_
        refine lv_goto (tgt := 60) hx hb dX13_isWalk_56 (by decide) ?_
        have hF := prt_eq hF
        exact mr_z hC hH hr rfl hF dX13_isWalk_60 hlocks
      · rw [if_neg c_14] at hF
        refine lv_iload hx hb dX13_isWalk_44 (lv_at hl 0 rfl) ?_
        refine lv_bipush (v := (-2)) hx hb dX13_isWalk_46 (by decide) ?_
        refine lv_icmp_ne (tgt := 59) hx hb dX13_isWalk_48 (by decide) (fun c_15 => ?_) (fun c_15 => ?_)
        · rw [if_neg c_15] at hF
          refine lv_iconst (v := 0) hx hb dX13_isWalk_59 (by decide) ?_
          have hF := prt_eq hF
          exact mr_z hC hH hr rfl hF dX13_isWalk_60 hlocks
        · rw [if_pos c_15] at hF
          refine lv_iload_n hx hb dX13_isWalk_51 rfl (lv_at hl 1 rfl) ?_
          refine lv_if_lt (tgt := 59) hx hb dX13_isWalk_52 (by decide) (fun c_16 => ?_) (fun c_16 => ?_)
          · rw [if_pos c_16] at hF
            refine lv_iconst (v := 0) hx hb dX13_isWalk_59 (by decide) ?_
            have hF := prt_eq hF
            exact mr_z hC hH hr rfl hF dX13_isWalk_60 hlocks
          · rw [if_neg c_16] at hF
            refine lv_iconst (v := 1) hx hb dX13_isWalk_55 (by decide) ?_
            refine lv_goto (tgt := 60) hx hb dX13_isWalk_56 (by decide) ?_
            have hF := prt_eq hF
            exact mr_z hC hH hr rfl hF dX13_isWalk_60 hlocks
  · rw [if_neg c_4] at hF
    refine lv_iconst (v := 0) hx hb dX13_isWalk_14 (by decide) ?_
    have hF := prt_eq hF
    exact mr_z hC hH hr rfl hF dX13_isWalk_15 hlocks
def f_isReady (a0 : Int32) (a1 : Int32) : PG (Int32) := prd 15 160 ((40 * a0) + a1) (fun x_1 => (if x_1 = 0 then pcl (fS 24 0 a0 a1 0 0) (fun r_5 => (if r_5 < 0 then prt 0 else pcl (fS 24 0 a0 a1 1 0) (fun r_9 => (if r_9 < 0 then prt 0 else prt 1)))) else prt 0))
set_option maxHeartbeats 4000000 in
set_option maxRecDepth 100000 in
theorem m_isReady (l : Launch) (G : gG) (Z : gM) (Q : Nat → Nat) (u u1 : GS) (r : Int32) (a0 : Int32) (a1 : Int32) (sz : Nat) (hF : f_isReady a0 a1 u = some (r, u1)) : Met l yX13_isReady (Cond.code yX13_isReady cX13_isReady 3 (some .boolean) :: wM) { frames := 309, cells := 0, slots := 0, locals := 3786 } (va_Pc [.ref (Q 72), .int a0, .int a1] (mPM G Z Q u.1 sz)) (mQi G Q u1.1 r sz) 0 0 (mA Q sz) := by
  refine Met.ofW (cc := cX13_isReady) (maxL := 3) (ret := (some .boolean)) (by decide) rfl ?_
  intro p e s m args below meth c s₁ B hml hv
  obtain ⟨rfl, rfl, hP, hB, hD, hE⟩ := hv
  have hr := B.returns
  have hlocks := B.notSynchronized
  have hts := atoms_spec (ws := Cond.code yX13_isReady cX13_isReady 3 (some .boolean) :: wM) B.pre
  have hC : mX p c cX13_isReady 3 s m _ G Z Q := ⟨B.exec, B.bytes, hml, findClass_of_methodNamed B.named, fun w h => hts w (List.mem_cons_of_mem _ h), hB, hE⟩
  have hx := hC.1
  have hb := hC.2.1
  have hH : mH G Q u.1 s s.heap [] := ⟨hP, hD, va_S.rf⟩
  have hl := lv_entry ([.ref (Q 72), .int a0, .int a1]) (n := 3) (Nat.le_of_ble_eq_true rfl)
  rw [lg_entry_eq]
  generalize (lg_sl ([.ref (Q 72), .int a0, .int a1]) ++ List.replicate (3 - (lg_sl ([.ref (Q 72), .int a0, .int a1])).length) Slot.unset).toArray = ls at hl ⊢
  have hl : lv_has ls 3 [(0, .ref (Q 72)), (1, .int a0), (2, .int a1)] := hl
  unfold f_isReady at hF
  refine lv_aload_n hx hb dX13_isReady_0 rfl (lv_at hl 0 rfl) ?_
  refine mg_15 hC hH dX13_isReady_1 ?_
  refine lv_bipush (v := 40) hx hb dX13_isReady_4 (by decide) ?_
  refine lv_iload_n hx hb dX13_isReady_6 rfl (lv_at hl 1 rfl) ?_
  refine lv_imul hx hb dX13_isReady_7 ?_
  refine lv_iload_n hx hb dX13_isReady_8 rfl (lv_at hl 2 rfl) ?_
  refine lv_iadd hx hb dX13_isReady_9 ?_
  obtain ⟨x_1, g_2, e_3, hF⟩ := prd_some hF
  refine ml_15 hC hH g_2 dX13_isReady_10 ?_
  refine gx_ti e_3 ?_
  refine lv_if_ne (tgt := 38) hx hb dX13_isReady_11 (by decide) (fun c_4 => ?_) (fun c_4 => ?_)
  · rw [if_neg c_4] at hF
    refine lv_iconst (v := 0) hx hb dX13_isReady_38 (by decide) ?_
    have hF := prt_eq hF
    exact mr_z hC hH hr rfl hF dX13_isReady_39 hlocks
  · rw [if_pos c_4] at hF
    refine lv_aload_n hx hb dX13_isReady_14 rfl (lv_at hl 0 rfl) ?_
    refine lv_iload_n hx hb dX13_isReady_15 rfl (lv_at hl 1 rfl) ?_
    refine lv_iload_n hx hb dX13_isReady_16 rfl (lv_at hl 2 rfl) ?_
    refine lv_iconst (v := 0) hx hb dX13_isReady_17 (by decide) ?_
    obtain ⟨r_5, u_6, h_7, hF⟩ := pcl_some hF
    refine mcV_i (As := [.int a0, .int a1, .int 0]) (rest := []) hC hH (m_sideOf l G Z Q u u_6 r_5 a0 a1 0 _ h_7) kwX13_sideOf kVX13_sideOf ⟨Nat.le_of_ble_eq_true rfl, Nat.le_of_ble_eq_true rfl⟩ rfl hl.1 rfl (Nat.le_of_ble_eq_true rfl) dX13_isReady_18 (fun H locs hH => ?_)
    refine lv_if_lt (tgt := 38) hx hb dX13_isReady_21 (by decide) (fun c_8 => ?_) (fun c_8 => ?_)
    · rw [if_pos c_8] at hF
      refine lv_iconst (v := 0) hx hb dX13_isReady_38 (by decide) ?_
      have hF := prt_eq hF
      exact mr_z hC hH hr rfl hF dX13_isReady_39 hlocks
    · rw [if_neg c_8] at hF
      refine lv_aload_n hx hb dX13_isReady_24 rfl (lv_at hl 0 rfl) ?_
      refine lv_iload_n hx hb dX13_isReady_25 rfl (lv_at hl 1 rfl) ?_
      refine lv_iload_n hx hb dX13_isReady_26 rfl (lv_at hl 2 rfl) ?_
      refine lv_iconst (v := 1) hx hb dX13_isReady_27 (by decide) ?_
      obtain ⟨r_9, u_10, h_11, hF⟩ := pcl_some hF
      refine mcV_i (As := [.int a0, .int a1, .int 1]) (rest := []) hC hH (m_sideOf l G Z Q u_6 u_10 r_9 a0 a1 1 _ h_11) kwX13_sideOf kVX13_sideOf ⟨Nat.le_of_ble_eq_true rfl, Nat.le_of_ble_eq_true rfl⟩ rfl hl.1 rfl (Nat.le_of_ble_eq_true rfl) dX13_isReady_28 (fun H locs hH => ?_)
      refine lv_if_lt (tgt := 38) hx hb dX13_isReady_31 (by decide) (fun c_12 => ?_) (fun c_12 => ?_)
      · rw [if_pos c_12] at hF
        refine lv_iconst (v := 0) hx hb dX13_isReady_38 (by decide) ?_
        have hF := prt_eq hF
        exact mr_z hC hH hr rfl hF dX13_isReady_39 hlocks
      · rw [if_neg c_12] at hF
        refine lv_iconst (v := 1) hx hb dX13_isReady_34 (by decide) ?_
        refine lv_goto (tgt := 39) hx hb dX13_isReady_35 (by decide) ?_
        have hF := prt_eq hF
        exact mr_z hC hH hr rfl hF dX13_isReady_39 hlocks
def f_joined (a0 : Int32) (a1 : Int32) (a2 : Int32) : PG (Int32) := (if a0 = 7 then prt (a1 + a2) else if a0 = 8 then prt (a1 - a2) else if a0 = 9 then (if a2 ≤ a1 then prt 0 else prt 1) else if a0 = 10 then (if a2 < a1 then prt 0 else prt 1) else if a0 = 11 then (if a1 ≤ a2 then prt 0 else prt 1) else if a0 = 12 then (if a1 < a2 then prt 0 else prt 1) else if a0 = 13 then (if a1 = a2 then prt 1 else prt 0) else if a0 = 14 then (if a1 = a2 then prt 0 else prt 1) else if a0 = 15 then (if a1 = 0 then prt 0 else (if a2 = 0 then prt 0 else prt 1)) else (if a1 = 0 then (if a2 = 0 then prt 0 else prt 1) else prt 1))
set_option maxHeartbeats 4000000 in
set_option maxRecDepth 100000 in
theorem m_joined (l : Launch) (G : gG) (Z : gM) (Q : Nat → Nat) (u u1 : GS) (r : Int32) (a0 : Int32) (a1 : Int32) (a2 : Int32) (sz : Nat) (hF : f_joined a0 a1 a2 u = some (r, u1)) : Met l yX13_joined (Cond.code yX13_joined cX13_joined 3 (some .int) :: wM) { frames := 0, cells := 0, slots := 0, locals := 0 } (va_Pc [.int a0, .int a1, .int a2] (mPM G Z Q u.1 sz)) (mQi G Q u1.1 r sz) 0 0 (mA Q sz) := by
  refine Met.ofW (cc := cX13_joined) (maxL := 3) (ret := (some .int)) (by decide) rfl ?_
  intro p e s m args below meth c s₁ B hml hv
  obtain ⟨rfl, rfl, hP, hB, hD, hE⟩ := hv
  have hr := B.returns
  have hlocks := B.notSynchronized
  have hts := atoms_spec (ws := Cond.code yX13_joined cX13_joined 3 (some .int) :: wM) B.pre
  have hC : mX p c cX13_joined 3 s m _ G Z Q := ⟨B.exec, B.bytes, hml, findClass_of_methodNamed B.named, fun w h => hts w (List.mem_cons_of_mem _ h), hB, hE⟩
  have hx := hC.1
  have hb := hC.2.1
  have hH : mH G Q u.1 s s.heap [] := ⟨hP, hD, va_S.rf⟩
  have hl := lv_entry ([.int a0, .int a1, .int a2]) (n := 3) (Nat.le_of_ble_eq_true rfl)
  rw [lg_entry_eq]
  generalize (lg_sl ([.int a0, .int a1, .int a2]) ++ List.replicate (3 - (lg_sl ([.int a0, .int a1, .int a2])).length) Slot.unset).toArray = ls at hl ⊢
  have hl : lv_has ls 3 [(0, .int a0), (1, .int a1), (2, .int a2)] := hl
  unfold f_joined at hF
  refine lv_iload_n hx hb dX13_joined_0 rfl (lv_at hl 0 rfl) ?_
  by_cases c_1 : a0 = 7
  · rw [if_pos c_1] at hF
    refine gx_ti (y := 7) c_1 ?_
    refine lv_tableIn (off := 51) (tgt := 52) hx hb dX13_joined_1 (by decide) (by decide) rfl (by decide) ?_
    refine lv_iload_n hx hb dX13_joined_52 rfl (lv_at hl 1 rfl) ?_
    refine lv_iload_n hx hb dX13_joined_53 rfl (lv_at hl 2 rfl) ?_
    refine lv_iadd hx hb dX13_joined_54 ?_
    have hF := prt_eq hF
    exact mr_i hC hH hr hF dX13_joined_55 hlocks
  rw [if_neg c_1] at hF
  by_cases c_2 : a0 = 8
  · rw [if_pos c_2] at hF
    refine gx_ti (y := 8) c_2 ?_
    refine lv_tableIn (off := 55) (tgt := 56) hx hb dX13_joined_1 (by decide) (by decide) rfl (by decide) ?_
    refine lv_iload_n hx hb dX13_joined_56 rfl (lv_at hl 1 rfl) ?_
    refine lv_iload_n hx hb dX13_joined_57 rfl (lv_at hl 2 rfl) ?_
    refine lv_isub hx hb dX13_joined_58 ?_
    have hF := prt_eq hF
    exact mr_i hC hH hr hF dX13_joined_59 hlocks
  rw [if_neg c_2] at hF
  by_cases c_3 : a0 = 9
  · rw [if_pos c_3] at hF
    refine gx_ti (y := 9) c_3 ?_
    refine lv_tableIn (off := 59) (tgt := 60) hx hb dX13_joined_1 (by decide) (by decide) rfl (by decide) ?_
    refine lv_iload_n hx hb dX13_joined_60 rfl (lv_at hl 1 rfl) ?_
    refine lv_iload_n hx hb dX13_joined_61 rfl (lv_at hl 2 rfl) ?_
    refine lv_icmp_ge (tgt := 69) hx hb dX13_joined_62 (by decide) (fun c_4 => ?_) (fun c_4 => ?_)
    · rw [if_pos c_4] at hF
      refine lv_iconst (v := 0) hx hb dX13_joined_69 (by decide) ?_
      have hF := prt_eq hF
      exact mr_i hC hH hr hF dX13_joined_70 hlocks
    · rw [if_neg c_4] at hF
      refine lv_iconst (v := 1) hx hb dX13_joined_65 (by decide) ?_
      refine lv_goto (tgt := 70) hx hb dX13_joined_66 (by decide) ?_
      have hF := prt_eq hF
      exact mr_i hC hH hr hF dX13_joined_70 hlocks
  rw [if_neg c_3] at hF
  by_cases c_5 : a0 = 10
  · rw [if_pos c_5] at hF
    refine gx_ti (y := 10) c_5 ?_
    refine lv_tableIn (off := 70) (tgt := 71) hx hb dX13_joined_1 (by decide) (by decide) rfl (by decide) ?_
    refine lv_iload_n hx hb dX13_joined_71 rfl (lv_at hl 1 rfl) ?_
    refine lv_iload_n hx hb dX13_joined_72 rfl (lv_at hl 2 rfl) ?_
    refine lv_icmp_gt (tgt := 80) hx hb dX13_joined_73 (by decide) (fun c_6 => ?_) (fun c_6 => ?_)
    · rw [if_pos c_6] at hF
      refine lv_iconst (v := 0) hx hb dX13_joined_80 (by decide) ?_
      have hF := prt_eq hF
      exact mr_i hC hH hr hF dX13_joined_81 hlocks
    · rw [if_neg c_6] at hF
      refine lv_iconst (v := 1) hx hb dX13_joined_76 (by decide) ?_
      refine lv_goto (tgt := 81) hx hb dX13_joined_77 (by decide) ?_
      have hF := prt_eq hF
      exact mr_i hC hH hr hF dX13_joined_81 hlocks
  rw [if_neg c_5] at hF
  by_cases c_7 : a0 = 11
  · rw [if_pos c_7] at hF
    refine gx_ti (y := 11) c_7 ?_
    refine lv_tableIn (off := 81) (tgt := 82) hx hb dX13_joined_1 (by decide) (by decide) rfl (by decide) ?_
    refine lv_iload_n hx hb dX13_joined_82 rfl (lv_at hl 1 rfl) ?_
    refine lv_iload_n hx hb dX13_joined_83 rfl (lv_at hl 2 rfl) ?_
    refine lv_icmp_le (tgt := 91) hx hb dX13_joined_84 (by decide) (fun c_8 => ?_) (fun c_8 => ?_)
    · rw [if_pos c_8] at hF
      refine lv_iconst (v := 0) hx hb dX13_joined_91 (by decide) ?_
      have hF := prt_eq hF
      exact mr_i hC hH hr hF dX13_joined_92 hlocks
    · rw [if_neg c_8] at hF
      refine lv_iconst (v := 1) hx hb dX13_joined_87 (by decide) ?_
      refine lv_goto (tgt := 92) hx hb dX13_joined_88 (by decide) ?_
      have hF := prt_eq hF
      exact mr_i hC hH hr hF dX13_joined_92 hlocks
  rw [if_neg c_7] at hF
  by_cases c_9 : a0 = 12
  · rw [if_pos c_9] at hF
    refine gx_ti (y := 12) c_9 ?_
    refine lv_tableIn (off := 92) (tgt := 93) hx hb dX13_joined_1 (by decide) (by decide) rfl (by decide) ?_
    refine lv_iload_n hx hb dX13_joined_93 rfl (lv_at hl 1 rfl) ?_
    refine lv_iload_n hx hb dX13_joined_94 rfl (lv_at hl 2 rfl) ?_
    refine lv_icmp_lt (tgt := 102) hx hb dX13_joined_95 (by decide) (fun c_10 => ?_) (fun c_10 => ?_)
    · rw [if_pos c_10] at hF
      refine lv_iconst (v := 0) hx hb dX13_joined_102 (by decide) ?_
      have hF := prt_eq hF
      exact mr_i hC hH hr hF dX13_joined_103 hlocks
    · rw [if_neg c_10] at hF
      refine lv_iconst (v := 1) hx hb dX13_joined_98 (by decide) ?_
      refine lv_goto (tgt := 103) hx hb dX13_joined_99 (by decide) ?_
      have hF := prt_eq hF
      exact mr_i hC hH hr hF dX13_joined_103 hlocks
  rw [if_neg c_9] at hF
  by_cases c_11 : a0 = 13
  · rw [if_pos c_11] at hF
    refine gx_ti (y := 13) c_11 ?_
    refine lv_tableIn (off := 103) (tgt := 104) hx hb dX13_joined_1 (by decide) (by decide) rfl (by decide) ?_
    refine lv_iload_n hx hb dX13_joined_104 rfl (lv_at hl 1 rfl) ?_
    refine lv_iload_n hx hb dX13_joined_105 rfl (lv_at hl 2 rfl) ?_
    refine lv_icmp_ne (tgt := 113) hx hb dX13_joined_106 (by decide) (fun c_12 => ?_) (fun c_12 => ?_)
    · rw [if_neg c_12] at hF
      refine lv_iconst (v := 0) hx hb dX13_joined_113 (by decide) ?_
      have hF := prt_eq hF
      exact mr_i hC hH hr hF dX13_joined_114 hlocks
    · rw [if_pos c_12] at hF
      refine lv_iconst (v := 1) hx hb dX13_joined_109 (by decide) ?_
      refine lv_goto (tgt := 114) hx hb dX13_joined_110 (by decide) ?_
      have hF := prt_eq hF
      exact mr_i hC hH hr hF dX13_joined_114 hlocks
  rw [if_neg c_11] at hF
  by_cases c_13 : a0 = 14
  · rw [if_pos c_13] at hF
    refine gx_ti (y := 14) c_13 ?_
    refine lv_tableIn (off := 114) (tgt := 115) hx hb dX13_joined_1 (by decide) (by decide) rfl (by decide) ?_
    refine lv_iload_n hx hb dX13_joined_115 rfl (lv_at hl 1 rfl) ?_
    refine lv_iload_n hx hb dX13_joined_116 rfl (lv_at hl 2 rfl) ?_
    refine lv_icmp_eq (tgt := 124) hx hb dX13_joined_117 (by decide) (fun c_14 => ?_) (fun c_14 => ?_)
    · rw [if_pos c_14] at hF
      refine lv_iconst (v := 0) hx hb dX13_joined_124 (by decide) ?_
      have hF := prt_eq hF
      exact mr_i hC hH hr hF dX13_joined_125 hlocks
    · rw [if_neg c_14] at hF
      refine lv_iconst (v := 1) hx hb dX13_joined_120 (by decide) ?_
      refine lv_goto (tgt := 125) hx hb dX13_joined_121 (by decide) ?_
      have hF := prt_eq hF
      exact mr_i hC hH hr hF dX13_joined_125 hlocks
  rw [if_neg c_13] at hF
  by_cases c_15 : a0 = 15
  · rw [if_pos c_15] at hF
    refine gx_ti (y := 15) c_15 ?_
    refine lv_tableIn (off := 125) (tgt := 126) hx hb dX13_joined_1 (by decide) (by decide) rfl (by decide) ?_
    refine lv_iload_n hx hb dX13_joined_126 rfl (lv_at hl 1 rfl) ?_
    refine lv_if_eq (tgt := 138) hx hb dX13_joined_127 (by decide) (fun c_16 => ?_) (fun c_16 => ?_)
    · rw [if_pos c_16] at hF
      refine lv_iconst (v := 0) hx hb dX13_joined_138 (by decide) ?_
      have hF := prt_eq hF
      exact mr_i hC hH hr hF dX13_joined_139 hlocks
    · rw [if_neg c_16] at hF
      refine lv_iload_n hx hb dX13_joined_130 rfl (lv_at hl 2 rfl) ?_
      refine lv_if_eq (tgt := 138) hx hb dX13_joined_131 (by decide) (fun c_17 => ?_) (fun c_17 => ?_)
      · rw [if_pos c_17] at hF
        refine lv_iconst (v := 0) hx hb dX13_joined_138 (by decide) ?_
        have hF := prt_eq hF
        exact mr_i hC hH hr hF dX13_joined_139 hlocks
      · rw [if_neg c_17] at hF
        refine lv_iconst (v := 1) hx hb dX13_joined_134 (by decide) ?_
        refine lv_goto (tgt := 139) hx hb dX13_joined_135 (by decide) ?_
        have hF := prt_eq hF
        exact mr_i hC hH hr hF dX13_joined_139 hlocks
  rw [if_neg c_15] at hF
  refine lv_tableOut (tgt := 140) hx hb dX13_joined_1 (by have q0 := gl_ne c_1 (a := 7) (by decide); have q1 := gl_ne c_2 (a := 8) (by decide); have q2 := gl_ne c_3 (a := 9) (by decide); have q3 := gl_ne c_5 (a := 10) (by decide); have q4 := gl_ne c_7 (a := 11) (by decide); have q5 := gl_ne c_9 (a := 12) (by decide); have q6 := gl_ne c_11 (a := 13) (by decide); have q7 := gl_ne c_13 (a := 14) (by decide); have q8 := gl_ne c_15 (a := 15) (by decide); omega) (by decide) ?_
  refine lv_iload_n hx hb dX13_joined_140 rfl (lv_at hl 1 rfl) ?_
  refine lv_if_ne (tgt := 148) hx hb dX13_joined_141 (by decide) (fun c_18 => ?_) (fun c_18 => ?_)
  · rw [if_neg c_18] at hF
    refine lv_iconst (v := 1) hx hb dX13_joined_148 (by decide) ?_
    refine lv_goto (tgt := 153) hx hb dX13_joined_149 (by decide) ?_
    have hF := prt_eq hF
    exact mr_i hC hH hr hF dX13_joined_153 hlocks
  · rw [if_pos c_18] at hF
    refine lv_iload_n hx hb dX13_joined_144 rfl (lv_at hl 2 rfl) ?_
    refine lv_if_eq (tgt := 152) hx hb dX13_joined_145 (by decide) (fun c_19 => ?_) (fun c_19 => ?_)
    · rw [if_pos c_19] at hF
      refine lv_iconst (v := 0) hx hb dX13_joined_152 (by decide) ?_
      have hF := prt_eq hF
      exact mr_i hC hH hr hF dX13_joined_153 hlocks
    · rw [if_neg c_19] at hF
      refine lv_iconst (v := 1) hx hb dX13_joined_148 (by decide) ?_
      refine lv_goto (tgt := 153) hx hb dX13_joined_149 (by decide) ?_
      have hF := prt_eq hF
      exact mr_i hC hH hr hF dX13_joined_153 hlocks
def f_termOf (a0 : Int32) (a1 : Int32) (a2 : Int32) (a3 : Int32) : PG (Int32) := prd 36 300 a0 (fun x_1 => (if x_1 = 0 then prd 37 300 a0 (fun x_5 => prt x_5) else if x_1 = 1 then prd 37 300 a0 (fun x_9 => prd 24 64 ((((2 * a1) + a2) * 8) + x_9) (fun x_12 => prt x_12)) else if x_1 = 2 then prd 37 300 a0 (fun x_16 => prd 24 64 (((((2 * a1) + 1) - a2) * 8) + x_16) (fun x_19 => prt x_19)) else if x_1 = 3 then prd 23 4 a1 (fun x_23 => prt x_23) else if x_1 = 4 then (if a3 = 0 then prt 0 else prt 1) else prd 25 4 a1 (fun x_28 => (if x_28 = 0 then prt 0 else prt 1))))
set_option maxHeartbeats 4000000 in
set_option maxRecDepth 100000 in
theorem m_termOf (l : Launch) (G : gG) (Z : gM) (Q : Nat → Nat) (u u1 : GS) (r : Int32) (a0 : Int32) (a1 : Int32) (a2 : Int32) (a3 : Int32) (sz : Nat) (hF : f_termOf a0 a1 a2 a3 u = some (r, u1)) : Met l yX13_termOf (Cond.code yX13_termOf cX13_termOf 5 (some .int) :: wM) { frames := 0, cells := 0, slots := 0, locals := 0 } (va_Pc [.ref (Q 72), .int a0, .int a1, .int a2, .int a3] (mPM G Z Q u.1 sz)) (mQi G Q u1.1 r sz) 0 0 (mA Q sz) := by
  refine Met.ofW (cc := cX13_termOf) (maxL := 5) (ret := (some .int)) (by decide) rfl ?_
  intro p e s m args below meth c s₁ B hml hv
  obtain ⟨rfl, rfl, hP, hB, hD, hE⟩ := hv
  have hr := B.returns
  have hlocks := B.notSynchronized
  have hts := atoms_spec (ws := Cond.code yX13_termOf cX13_termOf 5 (some .int) :: wM) B.pre
  have hC : mX p c cX13_termOf 5 s m _ G Z Q := ⟨B.exec, B.bytes, hml, findClass_of_methodNamed B.named, fun w h => hts w (List.mem_cons_of_mem _ h), hB, hE⟩
  have hx := hC.1
  have hb := hC.2.1
  have hH : mH G Q u.1 s s.heap [] := ⟨hP, hD, va_S.rf⟩
  have hl := lv_entry ([.ref (Q 72), .int a0, .int a1, .int a2, .int a3]) (n := 5) (Nat.le_of_ble_eq_true rfl)
  rw [lg_entry_eq]
  generalize (lg_sl ([.ref (Q 72), .int a0, .int a1, .int a2, .int a3]) ++ List.replicate (5 - (lg_sl ([.ref (Q 72), .int a0, .int a1, .int a2, .int a3])).length) Slot.unset).toArray = ls at hl ⊢
  have hl : lv_has ls 5 [(0, .ref (Q 72)), (1, .int a0), (2, .int a1), (3, .int a2), (4, .int a3)] := hl
  unfold f_termOf at hF
  refine lv_aload_n hx hb dX13_termOf_0 rfl (lv_at hl 0 rfl) ?_
  refine mg_36 hC hH dX13_termOf_1 ?_
  refine lv_iload_n hx hb dX13_termOf_4 rfl (lv_at hl 1 rfl) ?_
  obtain ⟨x_1, g_2, e_3, hF⟩ := prd_some hF
  refine ml_36 hC hH g_2 dX13_termOf_5 ?_
  refine gx_ti e_3 ?_
  by_cases c_4 : x_1 = 0
  · rw [if_pos c_4] at hF
    refine gx_ti (y := 0) c_4 ?_
    refine lv_tableIn (off := 34) (tgt := 40) hx hb dX13_termOf_6 (by decide) (by decide) rfl (by decide) ?_
    refine lv_aload_n hx hb dX13_termOf_40 rfl (lv_at hl 0 rfl) ?_
    refine mg_37 hC hH dX13_termOf_41 ?_
    refine lv_iload_n hx hb dX13_termOf_44 rfl (lv_at hl 1 rfl) ?_
    obtain ⟨x_5, g_6, e_7, hF⟩ := prd_some hF
    refine ml_37 hC hH g_6 dX13_termOf_45 ?_
    refine gx_ti e_7 ?_
    have hF := prt_eq hF
    exact mr_i hC hH hr hF dX13_termOf_46 hlocks
  rw [if_neg c_4] at hF
  by_cases c_8 : x_1 = 1
  · rw [if_pos c_8] at hF
    refine gx_ti (y := 1) c_8 ?_
    refine lv_tableIn (off := 41) (tgt := 47) hx hb dX13_termOf_6 (by decide) (by decide) rfl (by decide) ?_
    refine lv_aload_n hx hb dX13_termOf_47 rfl (lv_at hl 0 rfl) ?_
    refine mg_24 hC hH dX13_termOf_48 ?_
    refine lv_iconst (v := 2) hx hb dX13_termOf_51 (by decide) ?_
    refine lv_iload_n hx hb dX13_termOf_52 rfl (lv_at hl 2 rfl) ?_
    refine lv_imul hx hb dX13_termOf_53 ?_
    refine lv_iload_n hx hb dX13_termOf_54 rfl (lv_at hl 3 rfl) ?_
    refine lv_iadd hx hb dX13_termOf_55 ?_
    refine lv_bipush (v := 8) hx hb dX13_termOf_56 (by decide) ?_
    refine lv_imul hx hb dX13_termOf_58 ?_
    refine lv_aload_n hx hb dX13_termOf_59 rfl (lv_at hl 0 rfl) ?_
    refine mg_37 hC hH dX13_termOf_60 ?_
    refine lv_iload_n hx hb dX13_termOf_63 rfl (lv_at hl 1 rfl) ?_
    obtain ⟨x_9, g_10, e_11, hF⟩ := prd_some hF
    refine ml_37 hC hH g_10 dX13_termOf_64 ?_
    refine gx_ti e_11 ?_
    refine lv_iadd hx hb dX13_termOf_65 ?_
    obtain ⟨x_12, g_13, e_14, hF⟩ := prd_some hF
    refine ml_24 hC hH g_13 dX13_termOf_66 ?_
    refine gx_ti e_14 ?_
    have hF := prt_eq hF
    exact mr_i hC hH hr hF dX13_termOf_67 hlocks
  rw [if_neg c_8] at hF
  by_cases c_15 : x_1 = 2
  · rw [if_pos c_15] at hF
    refine gx_ti (y := 2) c_15 ?_
    refine lv_tableIn (off := 62) (tgt := 68) hx hb dX13_termOf_6 (by decide) (by decide) rfl (by decide) ?_
    refine lv_aload_n hx hb dX13_termOf_68 rfl (lv_at hl 0 rfl) ?_
    refine mg_24 hC hH dX13_termOf_69 ?_
    refine lv_iconst (v := 2) hx hb dX13_termOf_72 (by decide) ?_
    refine lv_iload_n hx hb dX13_termOf_73 rfl (lv_at hl 2 rfl) ?_
    refine lv_imul hx hb dX13_termOf_74 ?_
    refine lv_iconst (v := 1) hx hb dX13_termOf_75 (by decide) ?_
    refine lv_iadd hx hb dX13_termOf_76 ?_
    refine lv_iload_n hx hb dX13_termOf_77 rfl (lv_at hl 3 rfl) ?_
    refine lv_isub hx hb dX13_termOf_78 ?_
    refine lv_bipush (v := 8) hx hb dX13_termOf_79 (by decide) ?_
    refine lv_imul hx hb dX13_termOf_81 ?_
    refine lv_aload_n hx hb dX13_termOf_82 rfl (lv_at hl 0 rfl) ?_
    refine mg_37 hC hH dX13_termOf_83 ?_
    refine lv_iload_n hx hb dX13_termOf_86 rfl (lv_at hl 1 rfl) ?_
    obtain ⟨x_16, g_17, e_18, hF⟩ := prd_some hF
    refine ml_37 hC hH g_17 dX13_termOf_87 ?_
    refine gx_ti e_18 ?_
    refine lv_iadd hx hb dX13_termOf_88 ?_
    obtain ⟨x_19, g_20, e_21, hF⟩ := prd_some hF
    refine ml_24 hC hH g_20 dX13_termOf_89 ?_
    refine gx_ti e_21 ?_
    have hF := prt_eq hF
    exact mr_i hC hH hr hF dX13_termOf_90 hlocks
  rw [if_neg c_15] at hF
  by_cases c_22 : x_1 = 3
  · rw [if_pos c_22] at hF
    refine gx_ti (y := 3) c_22 ?_
    refine lv_tableIn (off := 85) (tgt := 91) hx hb dX13_termOf_6 (by decide) (by decide) rfl (by decide) ?_
    refine lv_aload_n hx hb dX13_termOf_91 rfl (lv_at hl 0 rfl) ?_
    refine mg_23 hC hH dX13_termOf_92 ?_
    refine lv_iload_n hx hb dX13_termOf_95 rfl (lv_at hl 2 rfl) ?_
    obtain ⟨x_23, g_24, e_25, hF⟩ := prd_some hF
    refine ml_23 hC hH g_24 dX13_termOf_96 ?_
    refine gx_ti e_25 ?_
    have hF := prt_eq hF
    exact mr_i hC hH hr hF dX13_termOf_97 hlocks
  rw [if_neg c_22] at hF
  by_cases c_26 : x_1 = 4
  · rw [if_pos c_26] at hF
    refine gx_ti (y := 4) c_26 ?_
    refine lv_tableIn (off := 92) (tgt := 98) hx hb dX13_termOf_6 (by decide) (by decide) rfl (by decide) ?_
    refine lv_iload hx hb dX13_termOf_98 (lv_at hl 4 rfl) ?_
    refine lv_if_eq (tgt := 107) hx hb dX13_termOf_100 (by decide) (fun c_27 => ?_) (fun c_27 => ?_)
    · rw [if_pos c_27] at hF
      refine lv_iconst (v := 0) hx hb dX13_termOf_107 (by decide) ?_
      have hF := prt_eq hF
      exact mr_i hC hH hr hF dX13_termOf_108 hlocks
    · rw [if_neg c_27] at hF
      refine lv_iconst (v := 1) hx hb dX13_termOf_103 (by decide) ?_
      refine lv_goto (tgt := 108) hx hb dX13_termOf_104 (by decide) ?_
      have hF := prt_eq hF
      exact mr_i hC hH hr hF dX13_termOf_108 hlocks
  rw [if_neg c_26] at hF
  refine lv_tableOut (tgt := 109) hx hb dX13_termOf_6 (by have q0 := gl_ne c_4 (a := 0) (by decide); have q1 := gl_ne c_8 (a := 1) (by decide); have q2 := gl_ne c_15 (a := 2) (by decide); have q3 := gl_ne c_22 (a := 3) (by decide); have q4 := gl_ne c_26 (a := 4) (by decide); omega) (by decide) ?_
  refine lv_aload_n hx hb dX13_termOf_109 rfl (lv_at hl 0 rfl) ?_
  refine mg_25 hC hH dX13_termOf_110 ?_
  refine lv_iload_n hx hb dX13_termOf_113 rfl (lv_at hl 2 rfl) ?_
  obtain ⟨x_28, g_29, e_30, hF⟩ := prd_some hF
  refine ml_25 hC hH g_29 dX13_termOf_114 ?_
  refine gx_ti e_30 ?_
  refine lv_if_eq (tgt := 122) hx hb dX13_termOf_115 (by decide) (fun c_31 => ?_) (fun c_31 => ?_)
  · rw [if_pos c_31] at hF
    refine lv_iconst (v := 0) hx hb dX13_termOf_122 (by decide) ?_
    have hF := prt_eq hF
    exact mr_i hC hH hr hF dX13_termOf_123 hlocks
  · rw [if_neg c_31] at hF
    refine lv_iconst (v := 1) hx hb dX13_termOf_118 (by decide) ?_
    refine lv_goto (tgt := 123) hx hb dX13_termOf_119 (by decide) ?_
    have hF := prt_eq hF
    exact mr_i hC hH hr hF dX13_termOf_123 hlocks
def lp_holds_11 : Nat → Int32 → Int32 → Int32 → Int32 → Int32 → Int32 → (Int32 → Int32 → Int32 → Int32 → Int32 → Int32 → PG (Int32)) → PG (Int32)
  | 0, _, _, _, _, _, _, _ => fun _ => none
  | n11 + 1, v1, v2, v3, v4, v5, v6, K11_143 => prd 34 21 (v1 + 1) (fun x_4 => (if x_4 ≤ v6 then K11_143 v1 v2 v3 v4 v5 v6 else prd 36 300 v6 (fun x_8 => (if 5 < x_8 then prd 36 300 v6 (fun x_12 => (if x_12 = 6 then prd 38 301 (v5 - 1) (fun x_35 => (if x_35 = 0 then pwd 38 301 (v5 - 1) 1 (pli (v6 + 1) (fun x_47 => lp_holds_11 n11 v1 v2 v3 v4 v5 x_47 K11_143)) else pwd 38 301 (v5 - 1) 0 (pli (v6 + 1) (fun x_42 => lp_holds_11 n11 v1 v2 v3 v4 v5 x_42 K11_143)))) else pli (v5 + (-1)) (fun x_16 => prd 36 300 v6 (fun x_18 => prd 38 301 (x_16 - 1) (fun x_21 => prd 38 301 x_16 (fun x_24 => pcl (f_joined x_18 x_21 x_24) (fun r_27 => pwd 38 301 (x_16 - 1) r_27 (pli (v6 + 1) (fun x_33 => lp_holds_11 n11 v1 v2 v3 v4 x_16 x_33 K11_143))))))))) else pcl (f_termOf v6 v2 v3 v4) (fun r_49 => pwd 38 301 v5 r_49 (pli (v5 + 1) (fun x_55 => pli (v6 + 1) (fun x_57 => lp_holds_11 n11 v1 v2 v3 v4 x_55 x_57 K11_143))))))))
def f_holds (a0 : Int32) (a1 : Int32) (a2 : Int32) (a3 : Int32) : PG (Int32) := prd 34 21 a0 (fun x_1 => lp_holds_11 fuel a0 a1 a2 a3 0 x_1 (fun v1 v2 v3 v4 v5 v6 => prd 38 301 0 (fun x_59 => (if x_59 = 0 then prt 0 else prt 1))))
set_option maxHeartbeats 4000000 in
set_option maxRecDepth 100000 in
theorem m_holds (l : Launch) (G : gG) (Z : gM) (Q : Nat → Nat) (u u1 : GS) (r : Int32) (a0 : Int32) (a1 : Int32) (a2 : Int32) (a3 : Int32) (sz : Nat) (hF : f_holds a0 a1 a2 a3 u = some (r, u1)) : Met l yX13_holds (Cond.code yX13_holds cX13_holds 7 (some .boolean) :: wM) { frames := 1, cells := 0, slots := 0, locals := 24 } (va_Pc [.ref (Q 72), .int a0, .int a1, .int a2, .int a3] (mPM G Z Q u.1 sz)) (mQi G Q u1.1 r sz) 0 0 (mA Q sz) := by
  refine Met.ofW (cc := cX13_holds) (maxL := 7) (ret := (some .boolean)) (by decide) rfl ?_
  intro p e s m args below meth c s₁ B hml hv
  obtain ⟨rfl, rfl, hP, hB, hD, hE⟩ := hv
  have hr := B.returns
  have hlocks := B.notSynchronized
  have hts := atoms_spec (ws := Cond.code yX13_holds cX13_holds 7 (some .boolean) :: wM) B.pre
  have hC : mX p c cX13_holds 7 s m _ G Z Q := ⟨B.exec, B.bytes, hml, findClass_of_methodNamed B.named, fun w h => hts w (List.mem_cons_of_mem _ h), hB, hE⟩
  have hx := hC.1
  have hb := hC.2.1
  have hH : mH G Q u.1 s s.heap [] := ⟨hP, hD, va_S.rf⟩
  have hl := lv_entry ([.ref (Q 72), .int a0, .int a1, .int a2, .int a3]) (n := 7) (Nat.le_of_ble_eq_true rfl)
  rw [lg_entry_eq]
  generalize (lg_sl ([.ref (Q 72), .int a0, .int a1, .int a2, .int a3]) ++ List.replicate (7 - (lg_sl ([.ref (Q 72), .int a0, .int a1, .int a2, .int a3])).length) Slot.unset).toArray = ls at hl ⊢
  have hl : lv_has ls 7 [(0, .ref (Q 72)), (1, .int a0), (2, .int a1), (3, .int a2), (4, .int a3)] := hl
  unfold f_holds at hF
  refine lv_iconst (v := 0) hx hb dX13_holds_0 (by decide) ?_
  refine lv_istore (lv' := [(5, .int 0), (0, .ref (Q 72)), (1, .int a0), (2, .int a1), (3, .int a2), (4, .int a3)]) hx hb dX13_holds_1 hl (by decide) rfl (fun ls hl => ?_)
  refine lv_aload_n hx hb dX13_holds_3 rfl (lv_at hl 1 rfl) ?_
  refine mg_34 hC hH dX13_holds_4 ?_
  refine lv_iload_n hx hb dX13_holds_7 rfl (lv_at hl 2 rfl) ?_
  obtain ⟨x_1, g_2, e_3, hF⟩ := prd_some hF
  refine ml_34 hC hH g_2 dX13_holds_8 ?_
  refine gx_ti e_3 ?_
  refine lv_istore (lv' := [(6, .int x_1), (5, .int 0), (0, .ref (Q 72)), (1, .int a0), (2, .int a1), (3, .int a2), (4, .int a3)]) hx hb dX13_holds_9 hl (by decide) rfl (fun ls hl => ?_)
  have hL11 : ∀ (K11_143 : Int32 → Int32 → Int32 → Int32 → Int32 → Int32 → PG (Int32)), (∀ (v1 v2 v3 v4 v5 v6 : Int32) (u : GS) (H : Heap) (locs : List Loc) (ls : Array Slot), lv_has ls 7 [(0, .ref (Q 72)), (1, .int v1), (2, .int v2), (3, .int v3), (4, .int v4), (5, .int v5), (6, .int v6)] → mH G Q u.1 s H locs → K11_143 v1 v2 v3 v4 v5 v6 u = some ((r, u1)) → W p l e (headSpec (Cond.code yX13_holds cX13_holds 7 (some .boolean) :: wM) { frames := 1, cells := 0, slots := 0, locals := 24 }).room s m [.ref (Q 72), .int a0, .int a1, .int a2, .int a3].toArray below meth c H locs 0 0 (MQ below (mQi G Q u1.1 r s.heap.size) [.ref (Q 72), .int a0, .int a1, .int a2, .int a3].toArray s 0 0 (mA Q s.heap.size)) (F0 m 143 ls [])) → ∀ (n11 : Nat) (v1 v2 v3 v4 v5 v6 : Int32) (u : GS) (H : Heap) (locs : List Loc) (ls : Array Slot), lv_has ls 7 [(0, .ref (Q 72)), (1, .int v1), (2, .int v2), (3, .int v3), (4, .int v4), (5, .int v5), (6, .int v6)] → mH G Q u.1 s H locs → lp_holds_11 n11 v1 v2 v3 v4 v5 v6 K11_143 u = some ((r, u1)) → W p l e (headSpec (Cond.code yX13_holds cX13_holds 7 (some .boolean) :: wM) { frames := 1, cells := 0, slots := 0, locals := 24 }).room s m [.ref (Q 72), .int a0, .int a1, .int a2, .int a3].toArray below meth c H locs 0 0 (MQ below (mQi G Q u1.1 r s.heap.size) [.ref (Q 72), .int a0, .int a1, .int a2, .int a3].toArray s 0 0 (mA Q s.heap.size)) (F0 m 11 ls []) := by
    intro K11_143 hK11_143 n11
    induction n11 with
    | zero => intro v1 v2 v3 v4 v5 v6 u H locs ls hl hH hF; cases hF
    | succ n11 ih11 =>
      intro v1 v2 v3 v4 v5 v6 u H locs ls hl hH hF
      unfold lp_holds_11 at hF
      refine lv_iload hx hb dX13_holds_11 (lv_at hl 6 rfl) ?_
      refine lv_aload_n hx hb dX13_holds_13 rfl (lv_at hl 0 rfl) ?_
      refine mg_34 hC hH dX13_holds_14 ?_
      refine lv_iload_n hx hb dX13_holds_17 rfl (lv_at hl 1 rfl) ?_
      refine lv_iconst (v := 1) hx hb dX13_holds_18 (by decide) ?_
      refine lv_iadd hx hb dX13_holds_19 ?_
      obtain ⟨x_4, g_5, e_6, hF⟩ := prd_some hF
      refine ml_34 hC hH g_5 dX13_holds_20 ?_
      refine gx_ti e_6 ?_
      refine lv_icmp_ge (tgt := 143) hx hb dX13_holds_21 (by decide) (fun c_7 => ?_) (fun c_7 => ?_)
      · rw [if_pos c_7] at hF
        exact hK11_143 v1 v2 v3 v4 v5 v6 u _ _ _ (lv_sub hl [0, 1, 2, 3, 4, 5, 6] rfl) hH hF
      · rw [if_neg c_7] at hF
        refine lv_aload_n hx hb dX13_holds_24 rfl (lv_at hl 0 rfl) ?_
        refine mg_36 hC hH dX13_holds_25 ?_
        refine lv_iload hx hb dX13_holds_28 (lv_at hl 6 rfl) ?_
        obtain ⟨x_8, g_9, e_10, hF⟩ := prd_some hF
        refine ml_36 hC hH g_9 dX13_holds_30 ?_
        refine gx_ti e_10 ?_
        refine lv_iconst (v := 5) hx hb dX13_holds_31 (by decide) ?_
        refine lv_icmp_gt (tgt := 58) hx hb dX13_holds_32 (by decide) (fun c_11 => ?_) (fun c_11 => ?_)
        · rw [if_pos c_11] at hF
          refine lv_aload_n hx hb dX13_holds_58 rfl (lv_at hl 0 rfl) ?_
          refine mg_36 hC hH dX13_holds_59 ?_
          refine lv_iload hx hb dX13_holds_62 (lv_at hl 6 rfl) ?_
          obtain ⟨x_12, g_13, e_14, hF⟩ := prd_some hF
          refine ml_36 hC hH g_13 dX13_holds_64 ?_
          refine gx_ti e_14 ?_
          refine lv_bipush (v := 6) hx hb dX13_holds_65 (by decide) ?_
          refine lv_icmp_ne (tgt := 99) hx hb dX13_holds_67 (by decide) (fun c_15 => ?_) (fun c_15 => ?_)
          · rw [if_neg c_15] at hF
            obtain ⟨x_16, e_17, hF⟩ := pli_some hF
            refine lv_iinc (v := x_16) (lv' := [(5, .int x_16), (0, .ref (Q 72)), (1, .int v1), (2, .int v2), (3, .int v3), (4, .int v4), (6, .int v6)]) hx hb dX13_holds_99 hl (k := 5) rfl e_17 (by decide) rfl (fun ls hl => ?_)
            refine lv_aload_n hx hb dX13_holds_102 rfl (lv_at hl 1 rfl) ?_
            refine mg_38 hC hH dX13_holds_103 ?_
            refine lv_iload hx hb dX13_holds_106 (lv_at hl 0 rfl) ?_
            refine lv_iconst (v := 1) hx hb dX13_holds_108 (by decide) ?_
            refine lv_isub hx hb dX13_holds_109 ?_
            refine lv_aload_n hx hb dX13_holds_110 rfl (lv_at hl 1 rfl) ?_
            refine mg_36 hC hH dX13_holds_111 ?_
            refine lv_iload hx hb dX13_holds_114 (lv_at hl 6 rfl) ?_
            obtain ⟨x_18, g_19, e_20, hF⟩ := prd_some hF
            refine ml_36 hC hH g_19 dX13_holds_116 ?_
            refine gx_ti e_20 ?_
            refine lv_aload_n hx hb dX13_holds_117 rfl (lv_at hl 1 rfl) ?_
            refine mg_38 hC hH dX13_holds_118 ?_
            refine lv_iload hx hb dX13_holds_121 (lv_at hl 0 rfl) ?_
            refine lv_iconst (v := 1) hx hb dX13_holds_123 (by decide) ?_
            refine lv_isub hx hb dX13_holds_124 ?_
            obtain ⟨x_21, g_22, e_23, hF⟩ := prd_some hF
            refine ml_38 hC hH g_22 dX13_holds_125 ?_
            refine gx_ti e_23 ?_
            refine lv_aload_n hx hb dX13_holds_126 rfl (lv_at hl 1 rfl) ?_
            refine mg_38 hC hH dX13_holds_127 ?_
            refine lv_iload hx hb dX13_holds_130 (lv_at hl 0 rfl) ?_
            obtain ⟨x_24, g_25, e_26, hF⟩ := prd_some hF
            refine ml_38 hC hH g_25 dX13_holds_132 ?_
            refine gx_ti e_26 ?_
            obtain ⟨r_27, u_28, h_29, hF⟩ := pcl_some hF
            refine mcS_i (As := [.int x_18, .int x_21, .int x_24]) (rest := [.int (x_16 - 1), .ref (Q 38)]) hC hH (m_joined l G Z Q u u_28 r_27 x_18 x_21 x_24 _ h_29) kwX13_joined kVX13_joined ⟨Nat.le_of_ble_eq_true rfl, Nat.le_of_ble_eq_true rfl⟩ rfl hl.1 rfl (Nat.le_of_ble_eq_true rfl) dX13_holds_133 (fun H locs hH => ?_)
            obtain ⟨u_31, g_30, e_32, hF⟩ := pwd_some hF
            refine ms_38 hC hH e_32 g_30 dX13_holds_136 (fun H locs hH => ?_)
            obtain ⟨x_33, e_34, hF⟩ := pli_some hF
            refine lv_iinc (v := x_33) (lv' := [(6, .int x_33), (5, .int x_16), (0, .ref (Q 72)), (1, .int v1), (2, .int v2), (3, .int v3), (4, .int v4)]) hx hb dX13_holds_137 hl (k := 6) rfl e_34 (by decide) rfl (fun ls hl => ?_)
            refine lv_goto (tgt := 11) hx hb dX13_holds_140 (by decide) ?_
            exact ih11 v1 v2 v3 v4 x_16 x_33 u_31 _ _ _ (lv_sub hl [2, 3, 4, 5, 6, 1, 0] rfl) hH hF
          · rw [if_pos c_15] at hF
            refine lv_aload_n hx hb dX13_holds_70 rfl (lv_at hl 0 rfl) ?_
            refine mg_38 hC hH dX13_holds_71 ?_
            refine lv_iload hx hb dX13_holds_74 (lv_at hl 5 rfl) ?_
            refine lv_iconst (v := 1) hx hb dX13_holds_76 (by decide) ?_
            refine lv_isub hx hb dX13_holds_77 ?_
            refine lv_aload_n hx hb dX13_holds_78 rfl (lv_at hl 0 rfl) ?_
            refine mg_38 hC hH dX13_holds_79 ?_
            refine lv_iload hx hb dX13_holds_82 (lv_at hl 5 rfl) ?_
            refine lv_iconst (v := 1) hx hb dX13_holds_84 (by decide) ?_
            refine lv_isub hx hb dX13_holds_85 ?_
            obtain ⟨x_35, g_36, e_37, hF⟩ := prd_some hF
            refine ml_38 hC hH g_36 dX13_holds_86 ?_
            refine gx_ti e_37 ?_
            refine lv_if_ne (tgt := 94) hx hb dX13_holds_87 (by decide) (fun c_38 => ?_) (fun c_38 => ?_)
            · rw [if_neg c_38] at hF
              refine lv_iconst (v := 0) hx hb dX13_holds_94 (by decide) ?_
              obtain ⟨u_40, g_39, e_41, hF⟩ := pwd_some hF
              refine ms_38 hC hH e_41 g_39 dX13_holds_95 (fun H locs hH => ?_)
              refine lv_goto (tgt := 137) hx hb dX13_holds_96 (by decide) ?_
              obtain ⟨x_42, e_43, hF⟩ := pli_some hF
              refine lv_iinc (v := x_42) (lv' := [(6, .int x_42), (0, .ref (Q 72)), (1, .int v1), (2, .int v2), (3, .int v3), (4, .int v4), (5, .int v5)]) hx hb dX13_holds_137 hl (k := 6) rfl e_43 (by decide) rfl (fun ls hl => ?_)
              refine lv_goto (tgt := 11) hx hb dX13_holds_140 (by decide) ?_
              exact ih11 v1 v2 v3 v4 v5 x_42 u_40 _ _ _ (lv_sub hl [1, 2, 3, 4, 5, 6, 0] rfl) hH hF
            · rw [if_pos c_38] at hF
              refine lv_iconst (v := 1) hx hb dX13_holds_90 (by decide) ?_
              refine lv_goto (tgt := 95) hx hb dX13_holds_91 (by decide) ?_
              obtain ⟨u_45, g_44, e_46, hF⟩ := pwd_some hF
              refine ms_38 hC hH e_46 g_44 dX13_holds_95 (fun H locs hH => ?_)
              refine lv_goto (tgt := 137) hx hb dX13_holds_96 (by decide) ?_
              obtain ⟨x_47, e_48, hF⟩ := pli_some hF
              refine lv_iinc (v := x_47) (lv' := [(6, .int x_47), (0, .ref (Q 72)), (1, .int v1), (2, .int v2), (3, .int v3), (4, .int v4), (5, .int v5)]) hx hb dX13_holds_137 hl (k := 6) rfl e_48 (by decide) rfl (fun ls hl => ?_)
              refine lv_goto (tgt := 11) hx hb dX13_holds_140 (by decide) ?_
              exact ih11 v1 v2 v3 v4 v5 x_47 u_45 _ _ _ (lv_sub hl [1, 2, 3, 4, 5, 6, 0] rfl) hH hF
        · rw [if_neg c_11] at hF
          refine lv_aload_n hx hb dX13_holds_35 rfl (lv_at hl 0 rfl) ?_
          refine mg_38 hC hH dX13_holds_36 ?_
          refine lv_iload hx hb dX13_holds_39 (lv_at hl 5 rfl) ?_
          refine lv_aload_n hx hb dX13_holds_41 rfl (lv_at hl 0 rfl) ?_
          refine lv_iload hx hb dX13_holds_42 (lv_at hl 6 rfl) ?_
          refine lv_iload_n hx hb dX13_holds_44 rfl (lv_at hl 2 rfl) ?_
          refine lv_iload_n hx hb dX13_holds_45 rfl (lv_at hl 3 rfl) ?_
          refine lv_iload hx hb dX13_holds_46 (lv_at hl 4 rfl) ?_
          obtain ⟨r_49, u_50, h_51, hF⟩ := pcl_some hF
          refine mcV_i (As := [.int v6, .int v2, .int v3, .int v4]) (rest := [.int v5, .ref (Q 38)]) hC hH (m_termOf l G Z Q u u_50 r_49 v6 v2 v3 v4 _ h_51) kwX13_termOf kVX13_termOf ⟨Nat.le_of_ble_eq_true rfl, Nat.le_of_ble_eq_true rfl⟩ rfl hl.1 rfl (Nat.le_of_ble_eq_true rfl) dX13_holds_48 (fun H locs hH => ?_)
          obtain ⟨u_53, g_52, e_54, hF⟩ := pwd_some hF
          refine ms_38 hC hH e_54 g_52 dX13_holds_51 (fun H locs hH => ?_)
          obtain ⟨x_55, e_56, hF⟩ := pli_some hF
          refine lv_iinc (v := x_55) (lv' := [(5, .int x_55), (0, .ref (Q 72)), (1, .int v1), (2, .int v2), (3, .int v3), (4, .int v4), (6, .int v6)]) hx hb dX13_holds_52 hl (k := 5) rfl e_56 (by decide) rfl (fun ls hl => ?_)
          refine lv_goto (tgt := 137) hx hb dX13_holds_55 (by decide) ?_
          obtain ⟨x_57, e_58, hF⟩ := pli_some hF
          refine lv_iinc (v := x_57) (lv' := [(6, .int x_57), (5, .int x_55), (0, .ref (Q 72)), (1, .int v1), (2, .int v2), (3, .int v3), (4, .int v4)]) hx hb dX13_holds_137 hl (k := 6) rfl e_58 (by decide) rfl (fun ls hl => ?_)
          refine lv_goto (tgt := 11) hx hb dX13_holds_140 (by decide) ?_
          exact ih11 v1 v2 v3 v4 x_55 x_57 u_53 _ _ _ (lv_sub hl [2, 3, 4, 5, 6, 1, 0] rfl) hH hF
  refine hL11 _ (fun v1 v2 v3 v4 v5 v6 u H locs ls hl hH hF => ?_) fuel a0 a1 a2 a3 0 x_1 u _ _ _ (lv_sub hl [2, 3, 4, 5, 6, 1, 0] rfl) hH hF
  refine lv_aload_n hx hb dX13_holds_143 rfl (lv_at hl 0 rfl) ?_
  refine mg_38 hC hH dX13_holds_144 ?_
  refine lv_iconst (v := 0) hx hb dX13_holds_147 (by decide) ?_
  obtain ⟨x_59, g_60, e_61, hF⟩ := prd_some hF
  refine ml_38 hC hH g_60 dX13_holds_148 ?_
  refine gx_ti e_61 ?_
  refine lv_if_eq (tgt := 156) hx hb dX13_holds_149 (by decide) (fun c_62 => ?_) (fun c_62 => ?_)
  · rw [if_pos c_62] at hF
    refine lv_iconst (v := 0) hx hb dX13_holds_156 (by decide) ?_
    have hF := prt_eq hF
    exact mr_z hC hH hr rfl hF dX13_holds_157 hlocks
  · rw [if_neg c_62] at hF
    refine lv_iconst (v := 1) hx hb dX13_holds_152 (by decide) ?_
    refine lv_goto (tgt := 157) hx hb dX13_holds_153 (by decide) ?_
    have hF := prt_eq hF
    exact mr_z hC hH hr rfl hF dX13_holds_157 hlocks
def f_byteAt (a0 : Int32) : PG (Int32) := prf 43 (fun x_1 => (if x_1 ≤ a0 then prt 0 else psr a0 (fun x_4 => prt (x_4 &&& 255))))
set_option maxHeartbeats 4000000 in
set_option maxRecDepth 100000 in
theorem m_byteAt (l : Launch) (G : gG) (Z : gM) (Q : Nat → Nat) (u u1 : GS) (r : Int32) (a0 : Int32) (sz : Nat) (hF : f_byteAt a0 u = some (r, u1)) : Met l yX13_byteAt (Cond.code yX13_byteAt cX13_byteAt 2 (some .int) :: wM) { frames := 0, cells := 0, slots := 0, locals := 0 } (va_Pc [.ref (Q 72), .int a0] (mPM G Z Q u.1 sz)) (mQi G Q u1.1 r sz) 0 0 (mA Q sz) := by
  refine Met.ofW (cc := cX13_byteAt) (maxL := 2) (ret := (some .int)) (by decide) rfl ?_
  intro p e s m args below meth c s₁ B hml hv
  obtain ⟨rfl, rfl, hP, hB, hD, hE⟩ := hv
  have hr := B.returns
  have hlocks := B.notSynchronized
  have hts := atoms_spec (ws := Cond.code yX13_byteAt cX13_byteAt 2 (some .int) :: wM) B.pre
  have hC : mX p c cX13_byteAt 2 s m _ G Z Q := ⟨B.exec, B.bytes, hml, findClass_of_methodNamed B.named, fun w h => hts w (List.mem_cons_of_mem _ h), hB, hE⟩
  have hx := hC.1
  have hb := hC.2.1
  have hH : mH G Q u.1 s s.heap [] := ⟨hP, hD, va_S.rf⟩
  have hl := lv_entry ([.ref (Q 72), .int a0]) (n := 2) (Nat.le_of_ble_eq_true rfl)
  rw [lg_entry_eq]
  generalize (lg_sl ([.ref (Q 72), .int a0]) ++ List.replicate (2 - (lg_sl ([.ref (Q 72), .int a0])).length) Slot.unset).toArray = ls at hl ⊢
  have hl : lv_has ls 2 [(0, .ref (Q 72)), (1, .int a0)] := hl
  unfold f_byteAt at hF
  refine lv_iload_n hx hb dX13_byteAt_0 rfl (lv_at hl 1 rfl) ?_
  refine lv_aload_n hx hb dX13_byteAt_1 rfl (lv_at hl 0 rfl) ?_
  refine mg_43 hC hH dX13_byteAt_2 ?_
  obtain ⟨x_1, e_2, hF⟩ := prf_some hF
  refine gx_ti e_2 ?_
  refine lv_icmp_ge (tgt := 21) hx hb dX13_byteAt_5 (by decide) (fun c_3 => ?_) (fun c_3 => ?_)
  · rw [if_pos c_3] at hF
    refine lv_iconst (v := 0) hx hb dX13_byteAt_21 (by decide) ?_
    have hF := prt_eq hF
    exact mr_i hC hH hr hF dX13_byteAt_22 hlocks
  · rw [if_neg c_3] at hF
    refine lv_aload_n hx hb dX13_byteAt_8 rfl (lv_at hl 0 rfl) ?_
    refine mg_41 hC hH dX13_byteAt_9 ?_
    refine lv_iload_n hx hb dX13_byteAt_12 rfl (lv_at hl 1 rfl) ?_
    obtain ⟨x_4, g_5, e_6, hF⟩ := psr_some hF
    refine ml_src hC hH g_5 dX13_byteAt_13 ?_
    refine gx_ti e_6 ?_
    refine lv_sipush (v := 255) hx hb dX13_byteAt_14 (by decide) ?_
    refine lv_iand hx hb dX13_byteAt_17 ?_
    refine lv_goto (tgt := 22) hx hb dX13_byteAt_18 (by decide) ?_
    have hF := prt_eq hF
    exact mr_i hC hH hr hF dX13_byteAt_22 hlocks
def f_isLetter (a0 : Int32) : PG (Int32) := (if a0 < 97 then prt 0 else (if 122 < a0 then prt 0 else prt 1))
set_option maxHeartbeats 4000000 in
set_option maxRecDepth 100000 in
theorem m_isLetter (l : Launch) (G : gG) (Z : gM) (Q : Nat → Nat) (u u1 : GS) (r : Int32) (a0 : Int32) (sz : Nat) (hF : f_isLetter a0 u = some (r, u1)) : Met l yX13_isLetter (Cond.code yX13_isLetter cX13_isLetter 1 (some .boolean) :: wM) { frames := 0, cells := 0, slots := 0, locals := 0 } (va_Pc [.int a0] (mPM G Z Q u.1 sz)) (mQi G Q u1.1 r sz) 0 0 (mA Q sz) := by
  refine Met.ofW (cc := cX13_isLetter) (maxL := 1) (ret := (some .boolean)) (by decide) rfl ?_
  intro p e s m args below meth c s₁ B hml hv
  obtain ⟨rfl, rfl, hP, hB, hD, hE⟩ := hv
  have hr := B.returns
  have hlocks := B.notSynchronized
  have hts := atoms_spec (ws := Cond.code yX13_isLetter cX13_isLetter 1 (some .boolean) :: wM) B.pre
  have hC : mX p c cX13_isLetter 1 s m _ G Z Q := ⟨B.exec, B.bytes, hml, findClass_of_methodNamed B.named, fun w h => hts w (List.mem_cons_of_mem _ h), hB, hE⟩
  have hx := hC.1
  have hb := hC.2.1
  have hH : mH G Q u.1 s s.heap [] := ⟨hP, hD, va_S.rf⟩
  have hl := lv_entry ([.int a0]) (n := 1) (Nat.le_of_ble_eq_true rfl)
  rw [lg_entry_eq]
  generalize (lg_sl ([.int a0]) ++ List.replicate (1 - (lg_sl ([.int a0])).length) Slot.unset).toArray = ls at hl ⊢
  have hl : lv_has ls 1 [(0, .int a0)] := hl
  unfold f_isLetter at hF
  refine lv_iload_n hx hb dX13_isLetter_0 rfl (lv_at hl 0 rfl) ?_
  refine lv_bipush (v := 97) hx hb dX13_isLetter_1 (by decide) ?_
  refine lv_icmp_lt (tgt := 16) hx hb dX13_isLetter_3 (by decide) (fun c_1 => ?_) (fun c_1 => ?_)
  · rw [if_pos c_1] at hF
    refine lv_iconst (v := 0) hx hb dX13_isLetter_16 (by decide) ?_
    have hF := prt_eq hF
    exact mr_z hC hH hr rfl hF dX13_isLetter_17 hlocks
  · rw [if_neg c_1] at hF
    refine lv_iload_n hx hb dX13_isLetter_6 rfl (lv_at hl 0 rfl) ?_
    refine lv_bipush (v := 122) hx hb dX13_isLetter_7 (by decide) ?_
    refine lv_icmp_gt (tgt := 16) hx hb dX13_isLetter_9 (by decide) (fun c_2 => ?_) (fun c_2 => ?_)
    · rw [if_pos c_2] at hF
      refine lv_iconst (v := 0) hx hb dX13_isLetter_16 (by decide) ?_
      have hF := prt_eq hF
      exact mr_z hC hH hr rfl hF dX13_isLetter_17 hlocks
    · rw [if_neg c_2] at hF
      refine lv_iconst (v := 1) hx hb dX13_isLetter_12 (by decide) ?_
      refine lv_goto (tgt := 17) hx hb dX13_isLetter_13 (by decide) ?_
      have hF := prt_eq hF
      exact mr_z hC hH hr rfl hF dX13_isLetter_17 hlocks
def f_isDigit (a0 : Int32) : PG (Int32) := (if a0 < 48 then prt 0 else (if 57 < a0 then prt 0 else prt 1))
set_option maxHeartbeats 4000000 in
set_option maxRecDepth 100000 in
theorem m_isDigit (l : Launch) (G : gG) (Z : gM) (Q : Nat → Nat) (u u1 : GS) (r : Int32) (a0 : Int32) (sz : Nat) (hF : f_isDigit a0 u = some (r, u1)) : Met l yX13_isDigit (Cond.code yX13_isDigit cX13_isDigit 1 (some .boolean) :: wM) { frames := 0, cells := 0, slots := 0, locals := 0 } (va_Pc [.int a0] (mPM G Z Q u.1 sz)) (mQi G Q u1.1 r sz) 0 0 (mA Q sz) := by
  refine Met.ofW (cc := cX13_isDigit) (maxL := 1) (ret := (some .boolean)) (by decide) rfl ?_
  intro p e s m args below meth c s₁ B hml hv
  obtain ⟨rfl, rfl, hP, hB, hD, hE⟩ := hv
  have hr := B.returns
  have hlocks := B.notSynchronized
  have hts := atoms_spec (ws := Cond.code yX13_isDigit cX13_isDigit 1 (some .boolean) :: wM) B.pre
  have hC : mX p c cX13_isDigit 1 s m _ G Z Q := ⟨B.exec, B.bytes, hml, findClass_of_methodNamed B.named, fun w h => hts w (List.mem_cons_of_mem _ h), hB, hE⟩
  have hx := hC.1
  have hb := hC.2.1
  have hH : mH G Q u.1 s s.heap [] := ⟨hP, hD, va_S.rf⟩
  have hl := lv_entry ([.int a0]) (n := 1) (Nat.le_of_ble_eq_true rfl)
  rw [lg_entry_eq]
  generalize (lg_sl ([.int a0]) ++ List.replicate (1 - (lg_sl ([.int a0])).length) Slot.unset).toArray = ls at hl ⊢
  have hl : lv_has ls 1 [(0, .int a0)] := hl
  unfold f_isDigit at hF
  refine lv_iload_n hx hb dX13_isDigit_0 rfl (lv_at hl 0 rfl) ?_
  refine lv_bipush (v := 48) hx hb dX13_isDigit_1 (by decide) ?_
  refine lv_icmp_lt (tgt := 16) hx hb dX13_isDigit_3 (by decide) (fun c_1 => ?_) (fun c_1 => ?_)
  · rw [if_pos c_1] at hF
    refine lv_iconst (v := 0) hx hb dX13_isDigit_16 (by decide) ?_
    have hF := prt_eq hF
    exact mr_z hC hH hr rfl hF dX13_isDigit_17 hlocks
  · rw [if_neg c_1] at hF
    refine lv_iload_n hx hb dX13_isDigit_6 rfl (lv_at hl 0 rfl) ?_
    refine lv_bipush (v := 57) hx hb dX13_isDigit_7 (by decide) ?_
    refine lv_icmp_gt (tgt := 16) hx hb dX13_isDigit_9 (by decide) (fun c_2 => ?_) (fun c_2 => ?_)
    · rw [if_pos c_2] at hF
      refine lv_iconst (v := 0) hx hb dX13_isDigit_16 (by decide) ?_
      have hF := prt_eq hF
      exact mr_z hC hH hr rfl hF dX13_isDigit_17 hlocks
    · rw [if_neg c_2] at hF
      refine lv_iconst (v := 1) hx hb dX13_isDigit_12 (by decide) ?_
      refine lv_goto (tgt := 17) hx hb dX13_isDigit_13 (by decide) ?_
      have hF := prt_eq hF
      exact mr_z hC hH hr rfl hF dX13_isDigit_17 hlocks
def f_put (a0 : Int32) (a1 : Int32) : PG (Int32) := prf 31 (fun x_1 => pwd 36 300 x_1 a0 (prf 31 (fun x_6 => pwd 37 300 x_6 a1 (prf 31 (fun x_11 => pwf 31 (x_11 + 1) (prt 0))))))
set_option maxHeartbeats 4000000 in
set_option maxRecDepth 100000 in
theorem m_put (l : Launch) (G : gG) (Z : gM) (Q : Nat → Nat) (u u1 : GS) (r : Int32) (a0 : Int32) (a1 : Int32) (sz : Nat) (hF : f_put a0 a1 u = some (r, u1)) : Met l yX13_put (Cond.code yX13_put cX13_put 3 none :: wM) { frames := 0, cells := 0, slots := 0, locals := 0 } (va_Pc [.ref (Q 72), .int a0, .int a1] (mPM G Z Q u.1 sz)) (mQv G Q u1.1 sz) 0 0 (mA Q sz) := by
  refine Met.ofW (cc := cX13_put) (maxL := 3) (ret := none) (by decide) rfl ?_
  intro p e s m args below meth c s₁ B hml hv
  obtain ⟨rfl, rfl, hP, hB, hD, hE⟩ := hv
  have hr := B.returns
  have hlocks := B.notSynchronized
  have hts := atoms_spec (ws := Cond.code yX13_put cX13_put 3 none :: wM) B.pre
  have hC : mX p c cX13_put 3 s m _ G Z Q := ⟨B.exec, B.bytes, hml, findClass_of_methodNamed B.named, fun w h => hts w (List.mem_cons_of_mem _ h), hB, hE⟩
  have hx := hC.1
  have hb := hC.2.1
  have hH : mH G Q u.1 s s.heap [] := ⟨hP, hD, va_S.rf⟩
  have hl := lv_entry ([.ref (Q 72), .int a0, .int a1]) (n := 3) (Nat.le_of_ble_eq_true rfl)
  rw [lg_entry_eq]
  generalize (lg_sl ([.ref (Q 72), .int a0, .int a1]) ++ List.replicate (3 - (lg_sl ([.ref (Q 72), .int a0, .int a1])).length) Slot.unset).toArray = ls at hl ⊢
  have hl : lv_has ls 3 [(0, .ref (Q 72)), (1, .int a0), (2, .int a1)] := hl
  unfold f_put at hF
  refine lv_aload_n hx hb dX13_put_0 rfl (lv_at hl 0 rfl) ?_
  refine mg_36 hC hH dX13_put_1 ?_
  refine lv_aload_n hx hb dX13_put_4 rfl (lv_at hl 0 rfl) ?_
  refine mg_31 hC hH dX13_put_5 ?_
  obtain ⟨x_1, e_2, hF⟩ := prf_some hF
  refine gx_ti e_2 ?_
  refine lv_iload_n hx hb dX13_put_8 rfl (lv_at hl 1 rfl) ?_
  obtain ⟨u_4, g_3, e_5, hF⟩ := pwd_some hF
  refine ms_36 hC hH e_5 g_3 dX13_put_9 (fun H locs hH => ?_)
  refine lv_aload_n hx hb dX13_put_10 rfl (lv_at hl 0 rfl) ?_
  refine mg_37 hC hH dX13_put_11 ?_
  refine lv_aload_n hx hb dX13_put_14 rfl (lv_at hl 0 rfl) ?_
  refine mg_31 hC hH dX13_put_15 ?_
  obtain ⟨x_6, e_7, hF⟩ := prf_some hF
  refine gx_ti e_7 ?_
  refine lv_iload_n hx hb dX13_put_18 rfl (lv_at hl 2 rfl) ?_
  obtain ⟨u_9, g_8, e_10, hF⟩ := pwd_some hF
  refine ms_37 hC hH e_10 g_8 dX13_put_19 (fun H locs hH => ?_)
  refine lv_aload_n hx hb dX13_put_20 rfl (lv_at hl 0 rfl) ?_
  refine lv_dup hx hb dX13_put_21 rfl ?_
  refine mg_31 hC hH dX13_put_22 ?_
  obtain ⟨x_11, e_12, hF⟩ := prf_some hF
  refine gx_ti e_12 ?_
  refine lv_iconst (v := 1) hx hb dX13_put_25 (by decide) ?_
  refine lv_iadd hx hb dX13_put_26 ?_
  obtain ⟨u_13, e_14, hF⟩ := pwf_some hF
  refine mp_31 hC hH e_14 dX13_put_27 (fun H locs hH => ?_)
  have hF := prt_eq hF
  exact mr_v hC hH hr hF dX13_put_30 hlocks
def f_release (a0 : Int32) : PG (Int32) := prf 51 (fun x_1 => pwf 51 (x_1 - 1) (pcl (f_put a0 0) (fun r_5 => prt 0)))
set_option maxHeartbeats 4000000 in
set_option maxRecDepth 100000 in
theorem m_release (l : Launch) (G : gG) (Z : gM) (Q : Nat → Nat) (u u1 : GS) (r : Int32) (a0 : Int32) (sz : Nat) (hF : f_release a0 u = some (r, u1)) : Met l yX13_release (Cond.code yX13_release cX13_release 2 none :: wM) { frames := 1, cells := 0, slots := 0, locals := 22 } (va_Pc [.ref (Q 72), .int a0] (mPM G Z Q u.1 sz)) (mQv G Q u1.1 sz) 0 0 (mA Q sz) := by
  refine Met.ofW (cc := cX13_release) (maxL := 2) (ret := none) (by decide) rfl ?_
  intro p e s m args below meth c s₁ B hml hv
  obtain ⟨rfl, rfl, hP, hB, hD, hE⟩ := hv
  have hr := B.returns
  have hlocks := B.notSynchronized
  have hts := atoms_spec (ws := Cond.code yX13_release cX13_release 2 none :: wM) B.pre
  have hC : mX p c cX13_release 2 s m _ G Z Q := ⟨B.exec, B.bytes, hml, findClass_of_methodNamed B.named, fun w h => hts w (List.mem_cons_of_mem _ h), hB, hE⟩
  have hx := hC.1
  have hb := hC.2.1
  have hH : mH G Q u.1 s s.heap [] := ⟨hP, hD, va_S.rf⟩
  have hl := lv_entry ([.ref (Q 72), .int a0]) (n := 2) (Nat.le_of_ble_eq_true rfl)
  rw [lg_entry_eq]
  generalize (lg_sl ([.ref (Q 72), .int a0]) ++ List.replicate (2 - (lg_sl ([.ref (Q 72), .int a0])).length) Slot.unset).toArray = ls at hl ⊢
  have hl : lv_has ls 2 [(0, .ref (Q 72)), (1, .int a0)] := hl
  unfold f_release at hF
  refine lv_aload_n hx hb dX13_release_0 rfl (lv_at hl 0 rfl) ?_
  refine lv_dup hx hb dX13_release_1 rfl ?_
  refine mg_51 hC hH dX13_release_2 ?_
  obtain ⟨x_1, e_2, hF⟩ := prf_some hF
  refine gx_ti e_2 ?_
  refine lv_iconst (v := 1) hx hb dX13_release_5 (by decide) ?_
  refine lv_isub hx hb dX13_release_6 ?_
  obtain ⟨u_3, e_4, hF⟩ := pwf_some hF
  refine mp_51 hC hH e_4 dX13_release_7 (fun H locs hH => ?_)
  refine lv_aload_n hx hb dX13_release_10 rfl (lv_at hl 0 rfl) ?_
  refine lv_iload_n hx hb dX13_release_11 rfl (lv_at hl 1 rfl) ?_
  refine lv_iconst (v := 0) hx hb dX13_release_12 (by decide) ?_
  obtain ⟨r_5, u_6, h_7, hF⟩ := pcl_some hF
  refine mcV_v (As := [.int a0, .int 0]) (rest := []) hC hH (m_put l G Z Q u_3 u_6 r_5 a0 0 _ h_7) kwX13_put kVX13_put ⟨Nat.le_of_ble_eq_true rfl, Nat.le_of_ble_eq_true rfl⟩ rfl hl.1 rfl (Nat.le_of_ble_eq_true rfl) dX13_release_13 (fun H locs hH => ?_)
  have hF := prt_eq hF
  exact mr_v hC hH hr hF dX13_release_16 hlocks
def lp_anew_47 : Nat → Int32 → Int32 → (Int32 → Int32 → PG (Int32)) → PG (Int32)
  | 0, _, _, _ => fun _ => none
  | n47 + 1, v1, v2, K47_71 => (if 40 ≤ v2 then K47_71 v1 v2 else pwd 15 160 ((40 * v1) + v2) 0 (pli (v2 + 1) (fun x_21 => lp_anew_47 n47 v1 x_21 K47_71)))
def lp_anew_18 : Nat → Int32 → (Int32 → PG (Int32)) → PG (Int32)
  | 0, _, _ => fun _ => none
  | n18 + 1, v1, K18_77 => (if 4 ≤ v1 then K18_77 v1 else pwd 0 4 v1 0 (pwd 1 4 v1 200000 (pwd 12 4 v1 0 (lp_anew_47 fuel v1 0 (fun v1 v2 => pli (v1 + 1) (fun x_23 => lp_anew_18 n18 x_23 K18_77))))))
def lp_anew_79 : Nat → Int32 → (Int32 → PG (Int32)) → PG (Int32)
  | 0, _, _ => fun _ => none
  | n79 + 1, v1, K79_97 => (if 4 ≤ v1 then K79_97 v1 else pwd 22 4 v1 (-1) (pli (v1 + 1) (fun x_29 => lp_anew_79 n79 x_29 K79_97)))
def f_anew  : PG (Int32) := pclr (pwf 2 0 (pwf 3 0 (pwf 4 10 (lp_anew_18 fuel 0 (fun v1 => lp_anew_79 fuel 0 (fun v1 => pwf 29 0 (pwf 30 0 (pwf 31 0 (pwf 27 0 (pwf 28 0 (prt 0)))))))))))
set_option maxHeartbeats 4000000 in
set_option maxRecDepth 100000 in
theorem m_anew (l : Launch) (G : gG) (Z : gM) (Q : Nat → Nat) (u u1 : GS) (r : Int32)  (sz : Nat) (hF : f_anew u = some (r, u1)) : Met l yX13_anew (Cond.code yX13_anew cX13_anew 3 none :: wM) { frames := 0, cells := 0, slots := 0, locals := 0 } (va_Pc [.ref (Q 72)] (mPM G Z Q u.1 sz)) (mQv G Q u1.1 sz) 0 0 (mA Q sz) := by
  refine Met.ofW (cc := cX13_anew) (maxL := 3) (ret := none) (by decide) rfl ?_
  intro p e s m args below meth c s₁ B hml hv
  obtain ⟨rfl, rfl, hP, hB, hD, hE⟩ := hv
  have hr := B.returns
  have hlocks := B.notSynchronized
  have hts := atoms_spec (ws := Cond.code yX13_anew cX13_anew 3 none :: wM) B.pre
  have hC : mX p c cX13_anew 3 s m _ G Z Q := ⟨B.exec, B.bytes, hml, findClass_of_methodNamed B.named, fun w h => hts w (List.mem_cons_of_mem _ h), hB, hE⟩
  have hx := hC.1
  have hb := hC.2.1
  have hH : mH G Q u.1 s s.heap [] := ⟨hP, hD, va_S.rf⟩
  have hl := lv_entry ([.ref (Q 72)]) (n := 3) (Nat.le_of_ble_eq_true rfl)
  rw [lg_entry_eq]
  generalize (lg_sl ([.ref (Q 72)]) ++ List.replicate (3 - (lg_sl ([.ref (Q 72)])).length) Slot.unset).toArray = ls at hl ⊢
  have hl : lv_has ls 3 [(0, .ref (Q 72))] := hl
  unfold f_anew at hF
  obtain ⟨u0, e0, hF⟩ := pclr_some hF
  rw [e0] at hH
  refine lv_aload_n hx hb dX13_anew_0 rfl (lv_at hl 0 rfl) ?_
  refine lv_iconst (v := 0) hx hb dX13_anew_1 (by decide) ?_
  obtain ⟨u_1, e_2, hF⟩ := pwf_some hF
  refine mp_2 hC hH e_2 dX13_anew_2 (fun H locs hH => ?_)
  refine lv_aload_n hx hb dX13_anew_5 rfl (lv_at hl 0 rfl) ?_
  refine lv_iconst (v := 0) hx hb dX13_anew_6 (by decide) ?_
  obtain ⟨u_3, e_4, hF⟩ := pwf_some hF
  refine mp_3 hC hH e_4 dX13_anew_7 (fun H locs hH => ?_)
  refine lv_aload_n hx hb dX13_anew_10 rfl (lv_at hl 0 rfl) ?_
  refine lv_bipush (v := 10) hx hb dX13_anew_11 (by decide) ?_
  obtain ⟨u_5, e_6, hF⟩ := pwf_some hF
  refine mp_4 hC hH e_6 dX13_anew_13 (fun H locs hH => ?_)
  refine lv_iconst (v := 0) hx hb dX13_anew_16 (by decide) ?_
  refine lv_istore_n (lv' := [(1, .int 0), (0, .ref (Q 72))]) hx hb dX13_anew_17 rfl hl (by decide) rfl (fun ls hl => ?_)
  have hL18 : ∀ (K18_77 : Int32 → PG (Int32)), (∀ (v1 : Int32) (u : GS) (H : Heap) (locs : List Loc) (ls : Array Slot), lv_has ls 3 [(0, .ref (Q 72)), (1, .int v1)] → mH G Q u.1 s H locs → K18_77 v1 u = some ((r, u1)) → W p l e (headSpec (Cond.code yX13_anew cX13_anew 3 none :: wM) { frames := 0, cells := 0, slots := 0, locals := 0 }).room s m [.ref (Q 72)].toArray below meth c H locs 0 0 (MQ below (mQv G Q u1.1 s.heap.size) [.ref (Q 72)].toArray s 0 0 (mA Q s.heap.size)) (F0 m 77 ls [])) → ∀ (n18 : Nat) (v1 : Int32) (u : GS) (H : Heap) (locs : List Loc) (ls : Array Slot), lv_has ls 3 [(0, .ref (Q 72)), (1, .int v1)] → mH G Q u.1 s H locs → lp_anew_18 n18 v1 K18_77 u = some ((r, u1)) → W p l e (headSpec (Cond.code yX13_anew cX13_anew 3 none :: wM) { frames := 0, cells := 0, slots := 0, locals := 0 }).room s m [.ref (Q 72)].toArray below meth c H locs 0 0 (MQ below (mQv G Q u1.1 s.heap.size) [.ref (Q 72)].toArray s 0 0 (mA Q s.heap.size)) (F0 m 18 ls []) := by
    intro K18_77 hK18_77 n18
    induction n18 with
    | zero => intro v1 u H locs ls hl hH hF; cases hF
    | succ n18 ih18 =>
      intro v1 u H locs ls hl hH hF
      unfold lp_anew_18 at hF
      refine lv_iload_n hx hb dX13_anew_18 rfl (lv_at hl 1 rfl) ?_
      refine lv_iconst (v := 4) hx hb dX13_anew_19 (by decide) ?_
      refine lv_icmp_ge (tgt := 77) hx hb dX13_anew_20 (by decide) (fun c_7 => ?_) (fun c_7 => ?_)
      · rw [if_pos c_7] at hF
        exact hK18_77 v1 u _ _ _ (lv_sub hl [0, 1] rfl) hH hF
      · rw [if_neg c_7] at hF
        refine lv_aload_n hx hb dX13_anew_23 rfl (lv_at hl 0 rfl) ?_
        refine mg_0 hC hH dX13_anew_24 ?_
        refine lv_iload_n hx hb dX13_anew_27 rfl (lv_at hl 1 rfl) ?_
        refine lv_iconst (v := 0) hx hb dX13_anew_28 (by decide) ?_
        obtain ⟨u_9, g_8, e_10, hF⟩ := pwd_some hF
        refine ms_0 hC hH e_10 g_8 dX13_anew_29 (fun H locs hH => ?_)
        refine lv_aload_n hx hb dX13_anew_30 rfl (lv_at hl 0 rfl) ?_
        refine mg_1 hC hH dX13_anew_31 ?_
        refine lv_iload_n hx hb dX13_anew_34 rfl (lv_at hl 1 rfl) ?_
        refine lv_ldc (v := 200000) hx hb hC.2.2.2.1 (hC.2.2.2.2.1 _ wma4) dX13_anew_35 ?_
        obtain ⟨u_12, g_11, e_13, hF⟩ := pwd_some hF
        refine ms_1 hC hH e_13 g_11 dX13_anew_37 (fun H locs hH => ?_)
        refine lv_aload_n hx hb dX13_anew_38 rfl (lv_at hl 0 rfl) ?_
        refine mg_12 hC hH dX13_anew_39 ?_
        refine lv_iload_n hx hb dX13_anew_42 rfl (lv_at hl 1 rfl) ?_
        refine lv_iconst (v := 0) hx hb dX13_anew_43 (by decide) ?_
        obtain ⟨u_15, g_14, e_16, hF⟩ := pwd_some hF
        refine ms_12 hC hH e_16 g_14 dX13_anew_44 (fun H locs hH => ?_)
        refine lv_iconst (v := 0) hx hb dX13_anew_45 (by decide) ?_
        refine lv_istore_n (lv' := [(2, .int 0), (0, .ref (Q 72)), (1, .int v1)]) hx hb dX13_anew_46 rfl hl (by decide) rfl (fun ls hl => ?_)
        have hL47 : ∀ (K47_71 : Int32 → Int32 → PG (Int32)), (∀ (v1 v2 : Int32) (u : GS) (H : Heap) (locs : List Loc) (ls : Array Slot), lv_has ls 3 [(0, .ref (Q 72)), (1, .int v1), (2, .int v2)] → mH G Q u.1 s H locs → K47_71 v1 v2 u = some ((r, u1)) → W p l e (headSpec (Cond.code yX13_anew cX13_anew 3 none :: wM) { frames := 0, cells := 0, slots := 0, locals := 0 }).room s m [.ref (Q 72)].toArray below meth c H locs 0 0 (MQ below (mQv G Q u1.1 s.heap.size) [.ref (Q 72)].toArray s 0 0 (mA Q s.heap.size)) (F0 m 71 ls [])) → ∀ (n47 : Nat) (v1 v2 : Int32) (u : GS) (H : Heap) (locs : List Loc) (ls : Array Slot), lv_has ls 3 [(0, .ref (Q 72)), (1, .int v1), (2, .int v2)] → mH G Q u.1 s H locs → lp_anew_47 n47 v1 v2 K47_71 u = some ((r, u1)) → W p l e (headSpec (Cond.code yX13_anew cX13_anew 3 none :: wM) { frames := 0, cells := 0, slots := 0, locals := 0 }).room s m [.ref (Q 72)].toArray below meth c H locs 0 0 (MQ below (mQv G Q u1.1 s.heap.size) [.ref (Q 72)].toArray s 0 0 (mA Q s.heap.size)) (F0 m 47 ls []) := by
          intro K47_71 hK47_71 n47
          induction n47 with
          | zero => intro v1 v2 u H locs ls hl hH hF; cases hF
          | succ n47 ih47 =>
            intro v1 v2 u H locs ls hl hH hF
            unfold lp_anew_47 at hF
            refine lv_iload_n hx hb dX13_anew_47 rfl (lv_at hl 2 rfl) ?_
            refine lv_bipush (v := 40) hx hb dX13_anew_48 (by decide) ?_
            refine lv_icmp_ge (tgt := 71) hx hb dX13_anew_50 (by decide) (fun c_17 => ?_) (fun c_17 => ?_)
            · rw [if_pos c_17] at hF
              exact hK47_71 v1 v2 u _ _ _ (lv_sub hl [0, 1, 2] rfl) hH hF
            · rw [if_neg c_17] at hF
              refine lv_aload_n hx hb dX13_anew_53 rfl (lv_at hl 0 rfl) ?_
              refine mg_15 hC hH dX13_anew_54 ?_
              refine lv_bipush (v := 40) hx hb dX13_anew_57 (by decide) ?_
              refine lv_iload_n hx hb dX13_anew_59 rfl (lv_at hl 1 rfl) ?_
              refine lv_imul hx hb dX13_anew_60 ?_
              refine lv_iload_n hx hb dX13_anew_61 rfl (lv_at hl 2 rfl) ?_
              refine lv_iadd hx hb dX13_anew_62 ?_
              refine lv_iconst (v := 0) hx hb dX13_anew_63 (by decide) ?_
              obtain ⟨u_19, g_18, e_20, hF⟩ := pwd_some hF
              refine ms_15 hC hH e_20 g_18 dX13_anew_64 (fun H locs hH => ?_)
              obtain ⟨x_21, e_22, hF⟩ := pli_some hF
              refine lv_iinc (v := x_21) (lv' := [(2, .int x_21), (0, .ref (Q 72)), (1, .int v1)]) hx hb dX13_anew_65 hl (k := 2) rfl e_22 (by decide) rfl (fun ls hl => ?_)
              refine lv_goto (tgt := 47) hx hb dX13_anew_68 (by decide) ?_
              exact ih47 v1 x_21 u_19 _ _ _ (lv_sub hl [1, 2, 0] rfl) hH hF
        refine hL47 _ (fun v1 v2 u H locs ls hl hH hF => ?_) fuel v1 0 u_15 _ _ _ (lv_sub hl [1, 2, 0] rfl) hH hF
        obtain ⟨x_23, e_24, hF⟩ := pli_some hF
        refine lv_iinc (v := x_23) (lv' := [(1, .int x_23), (0, .ref (Q 72)), (2, .int v2)]) hx hb dX13_anew_71 hl (k := 1) rfl e_24 (by decide) rfl (fun ls hl => ?_)
        refine lv_goto (tgt := 18) hx hb dX13_anew_74 (by decide) ?_
        exact ih18 x_23 u _ _ _ (lv_sub hl [1, 0] rfl) hH hF
  refine hL18 _ (fun v1 u H locs ls hl hH hF => ?_) fuel 0 u_5 _ _ _ (lv_sub hl [1, 0] rfl) hH hF
  refine lv_iconst (v := 0) hx hb dX13_anew_77 (by decide) ?_
  refine lv_istore_n (lv' := [(1, .int 0), (0, .ref (Q 72))]) hx hb dX13_anew_78 rfl hl (by decide) rfl (fun ls hl => ?_)
  have hL79 : ∀ (K79_97 : Int32 → PG (Int32)), (∀ (v1 : Int32) (u : GS) (H : Heap) (locs : List Loc) (ls : Array Slot), lv_has ls 3 [(0, .ref (Q 72)), (1, .int v1)] → mH G Q u.1 s H locs → K79_97 v1 u = some ((r, u1)) → W p l e (headSpec (Cond.code yX13_anew cX13_anew 3 none :: wM) { frames := 0, cells := 0, slots := 0, locals := 0 }).room s m [.ref (Q 72)].toArray below meth c H locs 0 0 (MQ below (mQv G Q u1.1 s.heap.size) [.ref (Q 72)].toArray s 0 0 (mA Q s.heap.size)) (F0 m 97 ls [])) → ∀ (n79 : Nat) (v1 : Int32) (u : GS) (H : Heap) (locs : List Loc) (ls : Array Slot), lv_has ls 3 [(0, .ref (Q 72)), (1, .int v1)] → mH G Q u.1 s H locs → lp_anew_79 n79 v1 K79_97 u = some ((r, u1)) → W p l e (headSpec (Cond.code yX13_anew cX13_anew 3 none :: wM) { frames := 0, cells := 0, slots := 0, locals := 0 }).room s m [.ref (Q 72)].toArray below meth c H locs 0 0 (MQ below (mQv G Q u1.1 s.heap.size) [.ref (Q 72)].toArray s 0 0 (mA Q s.heap.size)) (F0 m 79 ls []) := by
    intro K79_97 hK79_97 n79
    induction n79 with
    | zero => intro v1 u H locs ls hl hH hF; cases hF
    | succ n79 ih79 =>
      intro v1 u H locs ls hl hH hF
      unfold lp_anew_79 at hF
      refine lv_iload_n hx hb dX13_anew_79 rfl (lv_at hl 1 rfl) ?_
      refine lv_iconst (v := 4) hx hb dX13_anew_80 (by decide) ?_
      refine lv_icmp_ge (tgt := 97) hx hb dX13_anew_81 (by decide) (fun c_25 => ?_) (fun c_25 => ?_)
      · rw [if_pos c_25] at hF
        exact hK79_97 v1 u _ _ _ (lv_sub hl [0, 1] rfl) hH hF
      · rw [if_neg c_25] at hF
        refine lv_aload_n hx hb dX13_anew_84 rfl (lv_at hl 0 rfl) ?_
        refine mg_22 hC hH dX13_anew_85 ?_
        refine lv_iload_n hx hb dX13_anew_88 rfl (lv_at hl 1 rfl) ?_
        refine lv_iconst (v := (-1)) hx hb dX13_anew_89 (by decide) ?_
        obtain ⟨u_27, g_26, e_28, hF⟩ := pwd_some hF
        refine ms_22 hC hH e_28 g_26 dX13_anew_90 (fun H locs hH => ?_)
        obtain ⟨x_29, e_30, hF⟩ := pli_some hF
        refine lv_iinc (v := x_29) (lv' := [(1, .int x_29), (0, .ref (Q 72))]) hx hb dX13_anew_91 hl (k := 1) rfl e_30 (by decide) rfl (fun ls hl => ?_)
        refine lv_goto (tgt := 79) hx hb dX13_anew_94 (by decide) ?_
        exact ih79 x_29 u_27 _ _ _ (lv_sub hl [1, 0] rfl) hH hF
  refine hL79 _ (fun v1 u H locs ls hl hH hF => ?_) fuel 0 u _ _ _ (lv_sub hl [1, 0] rfl) hH hF
  refine lv_aload_n hx hb dX13_anew_97 rfl (lv_at hl 0 rfl) ?_
  refine lv_iconst (v := 0) hx hb dX13_anew_98 (by decide) ?_
  obtain ⟨u_31, e_32, hF⟩ := pwf_some hF
  refine mp_29 hC hH e_32 dX13_anew_99 (fun H locs hH => ?_)
  refine lv_aload_n hx hb dX13_anew_102 rfl (lv_at hl 0 rfl) ?_
  refine lv_iconst (v := 0) hx hb dX13_anew_103 (by decide) ?_
  obtain ⟨u_33, e_34, hF⟩ := pwf_some hF
  refine mp_30 hC hH e_34 dX13_anew_104 (fun H locs hH => ?_)
  refine lv_aload_n hx hb dX13_anew_107 rfl (lv_at hl 0 rfl) ?_
  refine lv_iconst (v := 0) hx hb dX13_anew_108 (by decide) ?_
  obtain ⟨u_35, e_36, hF⟩ := pwf_some hF
  refine mp_31 hC hH e_36 dX13_anew_109 (fun H locs hH => ?_)
  refine lv_aload_n hx hb dX13_anew_112 rfl (lv_at hl 0 rfl) ?_
  refine lv_iconst (v := 0) hx hb dX13_anew_113 (by decide) ?_
  obtain ⟨u_37, e_38, hF⟩ := pwf_some hF
  refine mp_27 hC hH e_38 dX13_anew_114 (fun H locs hH => ?_)
  refine lv_aload_n hx hb dX13_anew_117 rfl (lv_at hl 0 rfl) ?_
  refine lv_iconst (v := 0) hx hb dX13_anew_118 (by decide) ?_
  obtain ⟨u_39, e_40, hF⟩ := pwf_some hF
  refine mp_28 hC hH e_40 dX13_anew_119 (fun H locs hH => ?_)
  have hF := prt_eq hF
  exact mr_v hC hH hr hF dX13_anew_122 hlocks
def lp_lay_3 : Nat → Int32 → Int32 → (Int32 → Int32 → PG (Int32)) → PG (Int32)
  | 0, _, _, _ => fun _ => none
  | n3 + 1, v1, v2, K3_36 => (if v2 < 0 then K3_36 v1 v2 else puf 42 (fun x_2 => pwd 40 3000 x_2 (vp_nar .byte ((v1 >>> (v2 &&& 31)).toInt8.toInt32)) (puf 42 (fun x_7 => pwf 42 (x_7 + 1) (pli (v2 + (-8)) (fun x_11 => lp_lay_3 n3 v1 x_11 K3_36))))))
def f_lay (a0 : Int32) : PG (Int32) := lp_lay_3 fuel a0 24 (fun v1 v2 => prt 0)
set_option maxHeartbeats 4000000 in
set_option maxRecDepth 100000 in
theorem m_lay (l : Launch) (G : gG) (Z : gM) (Q : Nat → Nat) (u u1 : GS) (r : Int32) (a0 : Int32) (sz : Nat) (hF : f_lay a0 u = some (r, u1)) : Met l yX13_lay (Cond.code yX13_lay cX13_lay 3 none :: wM) { frames := 0, cells := 0, slots := 0, locals := 0 } (va_Pc [.ref (Q 72), .int a0] (mPM G Z Q u.1 sz)) (mQv G Q u1.1 sz) 0 0 (mA Q sz) := by
  refine Met.ofW (cc := cX13_lay) (maxL := 3) (ret := none) (by decide) rfl ?_
  intro p e s m args below meth c s₁ B hml hv
  obtain ⟨rfl, rfl, hP, hB, hD, hE⟩ := hv
  have hr := B.returns
  have hlocks := B.notSynchronized
  have hts := atoms_spec (ws := Cond.code yX13_lay cX13_lay 3 none :: wM) B.pre
  have hC : mX p c cX13_lay 3 s m _ G Z Q := ⟨B.exec, B.bytes, hml, findClass_of_methodNamed B.named, fun w h => hts w (List.mem_cons_of_mem _ h), hB, hE⟩
  have hx := hC.1
  have hb := hC.2.1
  have hH : mH G Q u.1 s s.heap [] := ⟨hP, hD, va_S.rf⟩
  have hl := lv_entry ([.ref (Q 72), .int a0]) (n := 3) (Nat.le_of_ble_eq_true rfl)
  rw [lg_entry_eq]
  generalize (lg_sl ([.ref (Q 72), .int a0]) ++ List.replicate (3 - (lg_sl ([.ref (Q 72), .int a0])).length) Slot.unset).toArray = ls at hl ⊢
  have hl : lv_has ls 3 [(0, .ref (Q 72)), (1, .int a0)] := hl
  unfold f_lay at hF
  refine lv_bipush (v := 24) hx hb dX13_lay_0 (by decide) ?_
  refine lv_istore_n (lv' := [(2, .int 24), (0, .ref (Q 72)), (1, .int a0)]) hx hb dX13_lay_2 rfl hl (by decide) rfl (fun ls hl => ?_)
  have hL3 : ∀ (K3_36 : Int32 → Int32 → PG (Int32)), (∀ (v1 v2 : Int32) (u : GS) (H : Heap) (locs : List Loc) (ls : Array Slot), lv_has ls 3 [(0, .ref (Q 72)), (1, .int v1), (2, .int v2)] → mH G Q u.1 s H locs → K3_36 v1 v2 u = some ((r, u1)) → W p l e (headSpec (Cond.code yX13_lay cX13_lay 3 none :: wM) { frames := 0, cells := 0, slots := 0, locals := 0 }).room s m [.ref (Q 72), .int a0].toArray below meth c H locs 0 0 (MQ below (mQv G Q u1.1 s.heap.size) [.ref (Q 72), .int a0].toArray s 0 0 (mA Q s.heap.size)) (F0 m 36 ls [])) → ∀ (n3 : Nat) (v1 v2 : Int32) (u : GS) (H : Heap) (locs : List Loc) (ls : Array Slot), lv_has ls 3 [(0, .ref (Q 72)), (1, .int v1), (2, .int v2)] → mH G Q u.1 s H locs → lp_lay_3 n3 v1 v2 K3_36 u = some ((r, u1)) → W p l e (headSpec (Cond.code yX13_lay cX13_lay 3 none :: wM) { frames := 0, cells := 0, slots := 0, locals := 0 }).room s m [.ref (Q 72), .int a0].toArray below meth c H locs 0 0 (MQ below (mQv G Q u1.1 s.heap.size) [.ref (Q 72), .int a0].toArray s 0 0 (mA Q s.heap.size)) (F0 m 3 ls []) := by
    intro K3_36 hK3_36 n3
    induction n3 with
    | zero => intro v1 v2 u H locs ls hl hH hF; cases hF
    | succ n3 ih3 =>
      intro v1 v2 u H locs ls hl hH hF
      unfold lp_lay_3 at hF
      refine lv_iload_n hx hb dX13_lay_3 rfl (lv_at hl 2 rfl) ?_
      refine lv_if_lt (tgt := 36) hx hb dX13_lay_4 (by decide) (fun c_1 => ?_) (fun c_1 => ?_)
      · rw [if_pos c_1] at hF
        exact hK3_36 v1 v2 u _ _ _ (lv_sub hl [0, 1, 2] rfl) hH hF
      · rw [if_neg c_1] at hF
        refine lv_aload_n hx hb dX13_lay_7 rfl (lv_at hl 0 rfl) ?_
        refine mg_40 hC hH dX13_lay_8 ?_
        refine lv_aload_n hx hb dX13_lay_11 rfl (lv_at hl 0 rfl) ?_
        refine mg_42 hC hH dX13_lay_12 ?_
        obtain ⟨x_2, e_3, hF⟩ := puf_some hF
        refine gx_ti e_3 ?_
        refine lv_iload_n hx hb dX13_lay_15 rfl (lv_at hl 1 rfl) ?_
        refine lv_iload_n hx hb dX13_lay_16 rfl (lv_at hl 2 rfl) ?_
        refine lv_ishr hx hb dX13_lay_17 ?_
        refine lv_i2b (v := (v1 >>> (v2 &&& 31)).toInt8.toInt32) hx hb dX13_lay_18 rfl ?_
        obtain ⟨u_5, g_4, e_6, hF⟩ := pwd_some hF
        refine ms_40 hC hH e_6 g_4 dX13_lay_19 (fun H locs hH => ?_)
        refine lv_aload_n hx hb dX13_lay_20 rfl (lv_at hl 0 rfl) ?_
        refine lv_dup hx hb dX13_lay_21 rfl ?_
        refine mg_42 hC hH dX13_lay_22 ?_
        obtain ⟨x_7, e_8, hF⟩ := puf_some hF
        refine gx_ti e_8 ?_
        refine lv_iconst (v := 1) hx hb dX13_lay_25 (by decide) ?_
        refine lv_iadd hx hb dX13_lay_26 ?_
        obtain ⟨u_9, e_10, hF⟩ := pwf_some hF
        refine mp_42 hC hH e_10 dX13_lay_27 (fun H locs hH => ?_)
        obtain ⟨x_11, e_12, hF⟩ := pli_some hF
        refine lv_iinc (v := x_11) (lv' := [(2, .int x_11), (0, .ref (Q 72)), (1, .int v1)]) hx hb dX13_lay_30 hl (k := 2) rfl e_12 (by decide) rfl (fun ls hl => ?_)
        refine lv_goto (tgt := 3) hx hb dX13_lay_33 (by decide) ?_
        exact ih3 v1 x_11 u_9 _ _ _ (lv_sub hl [1, 2, 0] rfl) hH hF
  refine hL3 _ (fun v1 v2 u H locs ls hl hH hF => ?_) fuel a0 24 u _ _ _ (lv_sub hl [1, 2, 0] rfl) hH hF
  have hF := prt_eq hF
  exact mr_v hC hH hr hF dX13_lay_36 hlocks
def f_feed (a0 : Int32) (a1 : Int32) (a2 : Int32) (a3 : Int32) (a4 : Int32) : PG (Int32) := puf 42 (fun x_1 => (if (x_1 + 20) ≤ 3000 then pcl (f_lay a0) (fun r_4 => pcl (f_lay a1) (fun r_7 => pcl (f_lay a2) (fun r_10 => pcl (f_lay a3) (fun r_13 => pcl (f_lay a4) (fun r_16 => puf 42 (fun x_19 => prt x_19)))))) else prt (-4)))
set_option maxHeartbeats 4000000 in
set_option maxRecDepth 100000 in
theorem m_feed (l : Launch) (G : gG) (Z : gM) (Q : Nat → Nat) (u u1 : GS) (r : Int32) (a0 : Int32) (a1 : Int32) (a2 : Int32) (a3 : Int32) (a4 : Int32) (sz : Nat) (hF : f_feed a0 a1 a2 a3 a4 u = some (r, u1)) : Met l yX13_feed (Cond.code yX13_feed cX13_feed 6 (some .int) :: wM) { frames := 1, cells := 0, slots := 0, locals := 22 } (va_Pc [.ref (Q 72), .int a0, .int a1, .int a2, .int a3, .int a4] (mPM G Z Q u.1 sz)) (mQi G Q u1.1 r sz) 0 0 (mA Q sz) := by
  refine Met.ofW (cc := cX13_feed) (maxL := 6) (ret := (some .int)) (by decide) rfl ?_
  intro p e s m args below meth c s₁ B hml hv
  obtain ⟨rfl, rfl, hP, hB, hD, hE⟩ := hv
  have hr := B.returns
  have hlocks := B.notSynchronized
  have hts := atoms_spec (ws := Cond.code yX13_feed cX13_feed 6 (some .int) :: wM) B.pre
  have hC : mX p c cX13_feed 6 s m _ G Z Q := ⟨B.exec, B.bytes, hml, findClass_of_methodNamed B.named, fun w h => hts w (List.mem_cons_of_mem _ h), hB, hE⟩
  have hx := hC.1
  have hb := hC.2.1
  have hH : mH G Q u.1 s s.heap [] := ⟨hP, hD, va_S.rf⟩
  have hl := lv_entry ([.ref (Q 72), .int a0, .int a1, .int a2, .int a3, .int a4]) (n := 6) (Nat.le_of_ble_eq_true rfl)
  rw [lg_entry_eq]
  generalize (lg_sl ([.ref (Q 72), .int a0, .int a1, .int a2, .int a3, .int a4]) ++ List.replicate (6 - (lg_sl ([.ref (Q 72), .int a0, .int a1, .int a2, .int a3, .int a4])).length) Slot.unset).toArray = ls at hl ⊢
  have hl : lv_has ls 6 [(0, .ref (Q 72)), (1, .int a0), (2, .int a1), (3, .int a2), (4, .int a3), (5, .int a4)] := hl
  unfold f_feed at hF
  refine lv_aload_n hx hb dX13_feed_0 rfl (lv_at hl 0 rfl) ?_
  refine mg_42 hC hH dX13_feed_1 ?_
  obtain ⟨x_1, e_2, hF⟩ := puf_some hF
  refine gx_ti e_2 ?_
  refine lv_bipush (v := 20) hx hb dX13_feed_4 (by decide) ?_
  refine lv_iadd hx hb dX13_feed_6 ?_
  refine lv_sipush (v := 3000) hx hb dX13_feed_7 (by decide) ?_
  refine lv_icmp_le (tgt := 16) hx hb dX13_feed_10 (by decide) (fun c_3 => ?_) (fun c_3 => ?_)
  · rw [if_pos c_3] at hF
    refine lv_aload_n hx hb dX13_feed_16 rfl (lv_at hl 0 rfl) ?_
    refine lv_iload_n hx hb dX13_feed_17 rfl (lv_at hl 1 rfl) ?_
    obtain ⟨r_4, u_5, h_6, hF⟩ := pcl_some hF
    refine mcV_v (As := [.int a0]) (rest := []) hC hH (m_lay l G Z Q u u_5 r_4 a0 _ h_6) kwX13_lay kVX13_lay ⟨Nat.le_of_ble_eq_true rfl, Nat.le_of_ble_eq_true rfl⟩ rfl hl.1 rfl (Nat.le_of_ble_eq_true rfl) dX13_feed_18 (fun H locs hH => ?_)
    refine lv_aload_n hx hb dX13_feed_21 rfl (lv_at hl 0 rfl) ?_
    refine lv_iload_n hx hb dX13_feed_22 rfl (lv_at hl 2 rfl) ?_
    obtain ⟨r_7, u_8, h_9, hF⟩ := pcl_some hF
    refine mcV_v (As := [.int a1]) (rest := []) hC hH (m_lay l G Z Q u_5 u_8 r_7 a1 _ h_9) kwX13_lay kVX13_lay ⟨Nat.le_of_ble_eq_true rfl, Nat.le_of_ble_eq_true rfl⟩ rfl hl.1 rfl (Nat.le_of_ble_eq_true rfl) dX13_feed_23 (fun H locs hH => ?_)
    refine lv_aload_n hx hb dX13_feed_26 rfl (lv_at hl 0 rfl) ?_
    refine lv_iload_n hx hb dX13_feed_27 rfl (lv_at hl 3 rfl) ?_
    obtain ⟨r_10, u_11, h_12, hF⟩ := pcl_some hF
    refine mcV_v (As := [.int a2]) (rest := []) hC hH (m_lay l G Z Q u_8 u_11 r_10 a2 _ h_12) kwX13_lay kVX13_lay ⟨Nat.le_of_ble_eq_true rfl, Nat.le_of_ble_eq_true rfl⟩ rfl hl.1 rfl (Nat.le_of_ble_eq_true rfl) dX13_feed_28 (fun H locs hH => ?_)
    refine lv_aload_n hx hb dX13_feed_31 rfl (lv_at hl 0 rfl) ?_
    refine lv_iload hx hb dX13_feed_32 (lv_at hl 4 rfl) ?_
    obtain ⟨r_13, u_14, h_15, hF⟩ := pcl_some hF
    refine mcV_v (As := [.int a3]) (rest := []) hC hH (m_lay l G Z Q u_11 u_14 r_13 a3 _ h_15) kwX13_lay kVX13_lay ⟨Nat.le_of_ble_eq_true rfl, Nat.le_of_ble_eq_true rfl⟩ rfl hl.1 rfl (Nat.le_of_ble_eq_true rfl) dX13_feed_34 (fun H locs hH => ?_)
    refine lv_aload_n hx hb dX13_feed_37 rfl (lv_at hl 0 rfl) ?_
    refine lv_iload hx hb dX13_feed_38 (lv_at hl 5 rfl) ?_
    obtain ⟨r_16, u_17, h_18, hF⟩ := pcl_some hF
    refine mcV_v (As := [.int a4]) (rest := []) hC hH (m_lay l G Z Q u_14 u_17 r_16 a4 _ h_18) kwX13_lay kVX13_lay ⟨Nat.le_of_ble_eq_true rfl, Nat.le_of_ble_eq_true rfl⟩ rfl hl.1 rfl (Nat.le_of_ble_eq_true rfl) dX13_feed_40 (fun H locs hH => ?_)
    refine lv_aload_n hx hb dX13_feed_43 rfl (lv_at hl 0 rfl) ?_
    refine mg_42 hC hH dX13_feed_44 ?_
    obtain ⟨x_19, e_20, hF⟩ := puf_some hF
    refine gx_ti e_20 ?_
    have hF := prt_eq hF
    exact mr_i hC hH hr hF dX13_feed_47 hlocks
  · rw [if_neg c_3] at hF
    refine lv_bipush (v := (-4)) hx hb dX13_feed_13 (by decide) ?_
    have hF := prt_eq hF
    exact mr_i hC hH hr hF dX13_feed_15 hlocks
def f_end (a0 : Int32) : PG (Int32) := puf 42 (fun x_1 => pcl (f_in a0.toInt64 0 x_1.toInt64) (fun r_3 => (if r_3 = 0 then prt (-1) else pwf 42 a0 (prt a0))))
set_option maxHeartbeats 4000000 in
set_option maxRecDepth 100000 in
theorem m_end (l : Launch) (G : gG) (Z : gM) (Q : Nat → Nat) (u u1 : GS) (r : Int32) (a0 : Int32) (sz : Nat) (hF : f_end a0 u = some (r, u1)) : Met l yX13_end (Cond.code yX13_end cX13_end 2 (some .int) :: wM) { frames := 1, cells := 0, slots := 0, locals := 25 } (va_Pc [.ref (Q 72), .int a0] (mPM G Z Q u.1 sz)) (mQi G Q u1.1 r sz) 0 0 (mA Q sz) := by
  refine Met.ofW (cc := cX13_end) (maxL := 2) (ret := (some .int)) (by decide) rfl ?_
  intro p e s m args below meth c s₁ B hml hv
  obtain ⟨rfl, rfl, hP, hB, hD, hE⟩ := hv
  have hr := B.returns
  have hlocks := B.notSynchronized
  have hts := atoms_spec (ws := Cond.code yX13_end cX13_end 2 (some .int) :: wM) B.pre
  have hC : mX p c cX13_end 2 s m _ G Z Q := ⟨B.exec, B.bytes, hml, findClass_of_methodNamed B.named, fun w h => hts w (List.mem_cons_of_mem _ h), hB, hE⟩
  have hx := hC.1
  have hb := hC.2.1
  have hH : mH G Q u.1 s s.heap [] := ⟨hP, hD, va_S.rf⟩
  have hl := lv_entry ([.ref (Q 72), .int a0]) (n := 2) (Nat.le_of_ble_eq_true rfl)
  rw [lg_entry_eq]
  generalize (lg_sl ([.ref (Q 72), .int a0]) ++ List.replicate (2 - (lg_sl ([.ref (Q 72), .int a0])).length) Slot.unset).toArray = ls at hl ⊢
  have hl : lv_has ls 2 [(0, .ref (Q 72)), (1, .int a0)] := hl
  unfold f_end at hF
  refine lv_iload_n hx hb dX13_end_0 rfl (lv_at hl 1 rfl) ?_
  refine lv_i2l (v := a0.toInt64) hx hb dX13_end_1 rfl ?_
  refine lv_lconst (v := 0) hx hb dX13_end_2 (by decide) ?_
  refine lv_aload_n hx hb dX13_end_3 rfl (lv_at hl 0 rfl) ?_
  refine mg_42 hC hH dX13_end_4 ?_
  obtain ⟨x_1, e_2, hF⟩ := puf_some hF
  refine gx_ti e_2 ?_
  refine lv_i2l (v := x_1.toInt64) hx hb dX13_end_7 rfl ?_
  obtain ⟨r_3, u_4, h_5, hF⟩ := pcl_some hF
  refine mcS_i (As := [.long a0.toInt64, .long 0, .long x_1.toInt64]) (rest := []) hC hH (m_in l G Z Q u u_4 r_3 a0.toInt64 0 x_1.toInt64 _ h_5) kwX13_in kVX13_in ⟨Nat.le_of_ble_eq_true rfl, Nat.le_of_ble_eq_true rfl⟩ rfl hl.1 rfl (Nat.le_of_ble_eq_true rfl) dX13_end_8 (fun H locs hH => ?_)
  refine lv_if_ne (tgt := 16) hx hb dX13_end_11 (by decide) (fun c_6 => ?_) (fun c_6 => ?_)
  · rw [if_neg c_6] at hF
    refine lv_aload_n hx hb dX13_end_16 rfl (lv_at hl 0 rfl) ?_
    refine lv_iload_n hx hb dX13_end_17 rfl (lv_at hl 1 rfl) ?_
    obtain ⟨u_7, e_8, hF⟩ := pwf_some hF
    refine mp_42 hC hH e_8 dX13_end_18 (fun H locs hH => ?_)
    refine lv_iload_n hx hb dX13_end_21 rfl (lv_at hl 1 rfl) ?_
    have hF := prt_eq hF
    exact mr_i hC hH hr hF dX13_end_22 hlocks
  · rw [if_pos c_6] at hF
    refine lv_iconst (v := (-1)) hx hb dX13_end_14 (by decide) ?_
    have hF := prt_eq hF
    exact mr_i hC hH hr hF dX13_end_15 hlocks
def f_fault (a0 : Int32) : PG (Int32) := (if a0 = 0 then puf 49 (fun x_5 => prt x_5) else (if a0 = 1 then puf 50 (fun x_3 => prt x_3) else prt (-1)))
set_option maxHeartbeats 4000000 in
set_option maxRecDepth 100000 in
theorem m_fault (l : Launch) (G : gG) (Z : gM) (Q : Nat → Nat) (u u1 : GS) (r : Int32) (a0 : Int32) (sz : Nat) (hF : f_fault a0 u = some (r, u1)) : Met l yX13_fault (Cond.code yX13_fault cX13_fault 2 (some .int) :: wM) { frames := 0, cells := 0, slots := 0, locals := 0 } (va_Pc [.ref (Q 72), .int a0] (mPM G Z Q u.1 sz)) (mQi G Q u1.1 r sz) 0 0 (mA Q sz) := by
  refine Met.ofW (cc := cX13_fault) (maxL := 2) (ret := (some .int)) (by decide) rfl ?_
  intro p e s m args below meth c s₁ B hml hv
  obtain ⟨rfl, rfl, hP, hB, hD, hE⟩ := hv
  have hr := B.returns
  have hlocks := B.notSynchronized
  have hts := atoms_spec (ws := Cond.code yX13_fault cX13_fault 2 (some .int) :: wM) B.pre
  have hC : mX p c cX13_fault 2 s m _ G Z Q := ⟨B.exec, B.bytes, hml, findClass_of_methodNamed B.named, fun w h => hts w (List.mem_cons_of_mem _ h), hB, hE⟩
  have hx := hC.1
  have hb := hC.2.1
  have hH : mH G Q u.1 s s.heap [] := ⟨hP, hD, va_S.rf⟩
  have hl := lv_entry ([.ref (Q 72), .int a0]) (n := 2) (Nat.le_of_ble_eq_true rfl)
  rw [lg_entry_eq]
  generalize (lg_sl ([.ref (Q 72), .int a0]) ++ List.replicate (2 - (lg_sl ([.ref (Q 72), .int a0])).length) Slot.unset).toArray = ls at hl ⊢
  have hl : lv_has ls 2 [(0, .ref (Q 72)), (1, .int a0)] := hl
  unfold f_fault at hF
  refine lv_iload_n hx hb dX13_fault_0 rfl (lv_at hl 1 rfl) ?_
  refine lv_if_ne (tgt := 11) hx hb dX13_fault_1 (by decide) (fun c_1 => ?_) (fun c_1 => ?_)
  · rw [if_neg c_1] at hF
    refine lv_iload_n hx hb dX13_fault_11 rfl (lv_at hl 1 rfl) ?_
    refine lv_iconst (v := 1) hx hb dX13_fault_12 (by decide) ?_
    refine lv_icmp_ne (tgt := 23) hx hb dX13_fault_13 (by decide) (fun c_2 => ?_) (fun c_2 => ?_)
    · rw [if_neg c_2] at hF
      refine lv_iconst (v := (-1)) hx hb dX13_fault_23 (by decide) ?_
      have hF := prt_eq hF
      exact mr_i hC hH hr hF dX13_fault_24 hlocks
    · rw [if_pos c_2] at hF
      refine lv_aload_n hx hb dX13_fault_16 rfl (lv_at hl 0 rfl) ?_
      refine mg_50 hC hH dX13_fault_17 ?_
      obtain ⟨x_3, e_4, hF⟩ := puf_some hF
      refine gx_ti e_4 ?_
      refine lv_goto (tgt := 24) hx hb dX13_fault_20 (by decide) ?_
      have hF := prt_eq hF
      exact mr_i hC hH hr hF dX13_fault_24 hlocks
  · rw [if_pos c_1] at hF
    refine lv_aload_n hx hb dX13_fault_4 rfl (lv_at hl 0 rfl) ?_
    refine mg_49 hC hH dX13_fault_5 ?_
    obtain ⟨x_5, e_6, hF⟩ := puf_some hF
    refine gx_ti e_6 ?_
    refine lv_goto (tgt := 24) hx hb dX13_fault_8 (by decide) ?_
    have hF := prt_eq hF
    exact mr_i hC hH hr hF dX13_fault_24 hlocks
def f_isFighter (a0 : Int32) : PG (Int32) := prf 2 (fun x_1 => pcl (f_in a0.toInt64 0 ((x_1.toInt64 : Int64) - (1 : Int64))) (fun r_3 => pog (gb r_3) (prt r_3)))
set_option maxHeartbeats 4000000 in
set_option maxRecDepth 100000 in
theorem m_isFighter (l : Launch) (G : gG) (Z : gM) (Q : Nat → Nat) (u u1 : GS) (r : Int32) (a0 : Int32) (sz : Nat) (hF : f_isFighter a0 u = some (r, u1)) : Met l yX13_isFighter (Cond.code yX13_isFighter cX13_isFighter 2 (some .boolean) :: wM) { frames := 1, cells := 0, slots := 0, locals := 25 } (va_Pc [.ref (Q 72), .int a0] (mPM G Z Q u.1 sz)) (mQi G Q u1.1 r sz) 0 0 (mA Q sz) := by
  refine Met.ofW (cc := cX13_isFighter) (maxL := 2) (ret := (some .boolean)) (by decide) rfl ?_
  intro p e s m args below meth c s₁ B hml hv
  obtain ⟨rfl, rfl, hP, hB, hD, hE⟩ := hv
  have hr := B.returns
  have hlocks := B.notSynchronized
  have hts := atoms_spec (ws := Cond.code yX13_isFighter cX13_isFighter 2 (some .boolean) :: wM) B.pre
  have hC : mX p c cX13_isFighter 2 s m _ G Z Q := ⟨B.exec, B.bytes, hml, findClass_of_methodNamed B.named, fun w h => hts w (List.mem_cons_of_mem _ h), hB, hE⟩
  have hx := hC.1
  have hb := hC.2.1
  have hH : mH G Q u.1 s s.heap [] := ⟨hP, hD, va_S.rf⟩
  have hl := lv_entry ([.ref (Q 72), .int a0]) (n := 2) (Nat.le_of_ble_eq_true rfl)
  rw [lg_entry_eq]
  generalize (lg_sl ([.ref (Q 72), .int a0]) ++ List.replicate (2 - (lg_sl ([.ref (Q 72), .int a0])).length) Slot.unset).toArray = ls at hl ⊢
  have hl : lv_has ls 2 [(0, .ref (Q 72)), (1, .int a0)] := hl
  unfold f_isFighter at hF
  refine lv_iload_n hx hb dX13_isFighter_0 rfl (lv_at hl 1 rfl) ?_
  refine lv_i2l (v := a0.toInt64) hx hb dX13_isFighter_1 rfl ?_
  refine lv_lconst (v := 0) hx hb dX13_isFighter_2 (by decide) ?_
  refine lv_aload_n hx hb dX13_isFighter_3 rfl (lv_at hl 0 rfl) ?_
  refine mg_2 hC hH dX13_isFighter_4 ?_
  obtain ⟨x_1, e_2, hF⟩ := prf_some hF
  refine gx_ti e_2 ?_
  refine lv_i2l (v := x_1.toInt64) hx hb dX13_isFighter_7 rfl ?_
  refine lv_lconst (v := 1) hx hb dX13_isFighter_8 (by decide) ?_
  refine lv_lsub hx hb dX13_isFighter_9 ?_
  obtain ⟨r_3, u_4, h_5, hF⟩ := pcl_some hF
  refine mcS_i (As := [.long a0.toInt64, .long 0, .long ((x_1.toInt64 : Int64) - (1 : Int64))]) (rest := []) hC hH (m_in l G Z Q u u_4 r_3 a0.toInt64 0 ((x_1.toInt64 : Int64) - (1 : Int64)) _ h_5) kwX13_in kVX13_in ⟨Nat.le_of_ble_eq_true rfl, Nat.le_of_ble_eq_true rfl⟩ rfl hl.1 rfl (Nat.le_of_ble_eq_true rfl) dX13_isFighter_10 (fun H locs hH => ?_)
  obtain ⟨g_6, hF⟩ := pog_some hF
  have hF := prt_eq hF
  exact mr_z hC hH hr g_6 hF dX13_isFighter_13 hlocks
def f_comes (a0 : Int32) (a1 : Int32) : PG (Int32) := prf 2 (fun x_1 => prf 2 (fun x_3 => pwf 2 (x_3 + 1) (pwd 6 96 x_1 a0 (pwd 5 96 x_1 a1 (pwd 7 96 x_1 (-1) (pwd 8 96 x_1 0 (pwd 9 96 x_1 0 (pwd 10 96 x_1 (-1) (pwd 11 96 x_1 (-1) (prt x_1))))))))))
set_option maxHeartbeats 4000000 in
set_option maxRecDepth 100000 in
theorem m_comes (l : Launch) (G : gG) (Z : gM) (Q : Nat → Nat) (u u1 : GS) (r : Int32) (a0 : Int32) (a1 : Int32) (sz : Nat) (hF : f_comes a0 a1 u = some (r, u1)) : Met l yX13_comes (Cond.code yX13_comes cX13_comes 4 (some .int) :: wM) { frames := 0, cells := 0, slots := 0, locals := 0 } (va_Pc [.ref (Q 72), .int a0, .int a1] (mPM G Z Q u.1 sz)) (mQi G Q u1.1 r sz) 0 0 (mA Q sz) := by
  refine Met.ofW (cc := cX13_comes) (maxL := 4) (ret := (some .int)) (by decide) rfl ?_
  intro p e s m args below meth c s₁ B hml hv
  obtain ⟨rfl, rfl, hP, hB, hD, hE⟩ := hv
  have hr := B.returns
  have hlocks := B.notSynchronized
  have hts := atoms_spec (ws := Cond.code yX13_comes cX13_comes 4 (some .int) :: wM) B.pre
  have hC : mX p c cX13_comes 4 s m _ G Z Q := ⟨B.exec, B.bytes, hml, findClass_of_methodNamed B.named, fun w h => hts w (List.mem_cons_of_mem _ h), hB, hE⟩
  have hx := hC.1
  have hb := hC.2.1
  have hH : mH G Q u.1 s s.heap [] := ⟨hP, hD, va_S.rf⟩
  have hl := lv_entry ([.ref (Q 72), .int a0, .int a1]) (n := 4) (Nat.le_of_ble_eq_true rfl)
  rw [lg_entry_eq]
  generalize (lg_sl ([.ref (Q 72), .int a0, .int a1]) ++ List.replicate (4 - (lg_sl ([.ref (Q 72), .int a0, .int a1])).length) Slot.unset).toArray = ls at hl ⊢
  have hl : lv_has ls 4 [(0, .ref (Q 72)), (1, .int a0), (2, .int a1)] := hl
  unfold f_comes at hF
  refine lv_aload_n hx hb dX13_comes_0 rfl (lv_at hl 0 rfl) ?_
  refine mg_2 hC hH dX13_comes_1 ?_
  obtain ⟨x_1, e_2, hF⟩ := prf_some hF
  refine gx_ti e_2 ?_
  refine lv_istore_n (lv' := [(3, .int x_1), (0, .ref (Q 72)), (1, .int a0), (2, .int a1)]) hx hb dX13_comes_4 rfl hl (by decide) rfl (fun ls hl => ?_)
  refine lv_aload_n hx hb dX13_comes_5 rfl (lv_at hl 1 rfl) ?_
  refine lv_dup hx hb dX13_comes_6 rfl ?_
  refine mg_2 hC hH dX13_comes_7 ?_
  obtain ⟨x_3, e_4, hF⟩ := prf_some hF
  refine gx_ti e_4 ?_
  refine lv_iconst (v := 1) hx hb dX13_comes_10 (by decide) ?_
  refine lv_iadd hx hb dX13_comes_11 ?_
  obtain ⟨u_5, e_6, hF⟩ := pwf_some hF
  refine mp_2 hC hH e_6 dX13_comes_12 (fun H locs hH => ?_)
  refine lv_aload_n hx hb dX13_comes_15 rfl (lv_at hl 1 rfl) ?_
  refine mg_6 hC hH dX13_comes_16 ?_
  refine lv_iload_n hx hb dX13_comes_19 rfl (lv_at hl 0 rfl) ?_
  refine lv_iload_n hx hb dX13_comes_20 rfl (lv_at hl 2 rfl) ?_
  obtain ⟨u_8, g_7, e_9, hF⟩ := pwd_some hF
  refine ms_6 hC hH e_9 g_7 dX13_comes_21 (fun H locs hH => ?_)
  refine lv_aload_n hx hb dX13_comes_22 rfl (lv_at hl 1 rfl) ?_
  refine mg_5 hC hH dX13_comes_23 ?_
  refine lv_iload_n hx hb dX13_comes_26 rfl (lv_at hl 0 rfl) ?_
  refine lv_iload_n hx hb dX13_comes_27 rfl (lv_at hl 3 rfl) ?_
  obtain ⟨u_11, g_10, e_12, hF⟩ := pwd_some hF
  refine ms_5 hC hH e_12 g_10 dX13_comes_28 (fun H locs hH => ?_)
  refine lv_aload_n hx hb dX13_comes_29 rfl (lv_at hl 1 rfl) ?_
  refine mg_7 hC hH dX13_comes_30 ?_
  refine lv_iload_n hx hb dX13_comes_33 rfl (lv_at hl 0 rfl) ?_
  refine lv_iconst (v := (-1)) hx hb dX13_comes_34 (by decide) ?_
  obtain ⟨u_14, g_13, e_15, hF⟩ := pwd_some hF
  refine ms_7 hC hH e_15 g_13 dX13_comes_35 (fun H locs hH => ?_)
  refine lv_aload_n hx hb dX13_comes_36 rfl (lv_at hl 1 rfl) ?_
  refine mg_8 hC hH dX13_comes_37 ?_
  refine lv_iload_n hx hb dX13_comes_40 rfl (lv_at hl 0 rfl) ?_
  refine lv_iconst (v := 0) hx hb dX13_comes_41 (by decide) ?_
  obtain ⟨u_17, g_16, e_18, hF⟩ := pwd_some hF
  refine ms_8 hC hH e_18 g_16 dX13_comes_42 (fun H locs hH => ?_)
  refine lv_aload_n hx hb dX13_comes_43 rfl (lv_at hl 1 rfl) ?_
  refine mg_9 hC hH dX13_comes_44 ?_
  refine lv_iload_n hx hb dX13_comes_47 rfl (lv_at hl 0 rfl) ?_
  refine lv_iconst (v := 0) hx hb dX13_comes_48 (by decide) ?_
  obtain ⟨u_20, g_19, e_21, hF⟩ := pwd_some hF
  refine ms_9 hC hH e_21 g_19 dX13_comes_49 (fun H locs hH => ?_)
  refine lv_aload_n hx hb dX13_comes_50 rfl (lv_at hl 1 rfl) ?_
  refine mg_10 hC hH dX13_comes_51 ?_
  refine lv_iload_n hx hb dX13_comes_54 rfl (lv_at hl 0 rfl) ?_
  refine lv_iconst (v := (-1)) hx hb dX13_comes_55 (by decide) ?_
  obtain ⟨u_23, g_22, e_24, hF⟩ := pwd_some hF
  refine ms_10 hC hH e_24 g_22 dX13_comes_56 (fun H locs hH => ?_)
  refine lv_aload_n hx hb dX13_comes_57 rfl (lv_at hl 1 rfl) ?_
  refine mg_11 hC hH dX13_comes_58 ?_
  refine lv_iload_n hx hb dX13_comes_61 rfl (lv_at hl 0 rfl) ?_
  refine lv_iconst (v := (-1)) hx hb dX13_comes_62 (by decide) ?_
  obtain ⟨u_26, g_25, e_27, hF⟩ := pwd_some hF
  refine ms_11 hC hH e_27 g_25 dX13_comes_63 (fun H locs hH => ?_)
  refine lv_iload_n hx hb dX13_comes_64 rfl (lv_at hl 0 rfl) ?_
  have hF := prt_eq hF
  exact mr_i hC hH hr hF dX13_comes_65 hlocks
def lp_weighed_4 : Nat → Int32 → Int32 → Int32 → (Int32 → Int32 → Int32 → PG (Int32)) → PG (Int32)
  | 0, _, _, _, _ => fun _ => none
  | n4 + 1, v1, v2, v3, K4_46 => prf 2 (fun x_1 => (if x_1 ≤ v3 then K4_46 v1 v2 v3 else prd 5 96 v3 (fun x_4 => (if x_4 = v1 then prd 8 96 v3 (fun x_12 => (if x_12 = 1 then pli (v2 + 1) (fun x_20 => pli (v3 + 1) (fun x_22 => lp_weighed_4 n4 v1 x_20 x_22 K4_46)) else pli (v2 + 0) (fun x_16 => pli (v3 + 1) (fun x_18 => lp_weighed_4 n4 v1 x_16 x_18 K4_46)))) else pli (v2 + 0) (fun x_8 => pli (v3 + 1) (fun x_10 => lp_weighed_4 n4 v1 x_8 x_10 K4_46))))))
def f_weighed (a0 : Int32) : PG (Int32) := lp_weighed_4 fuel a0 0 0 (fun v1 v2 v3 => prt v2)
set_option maxHeartbeats 4000000 in
set_option maxRecDepth 100000 in
theorem m_weighed (l : Launch) (G : gG) (Z : gM) (Q : Nat → Nat) (u u1 : GS) (r : Int32) (a0 : Int32) (sz : Nat) (hF : f_weighed a0 u = some (r, u1)) : Met l yX13_weighed (Cond.code yX13_weighed cX13_weighed 4 (some .int) :: wM) { frames := 0, cells := 0, slots := 0, locals := 0 } (va_Pc [.ref (Q 72), .int a0] (mPM G Z Q u.1 sz)) (mQi G Q u1.1 r sz) 0 0 (mA Q sz) := by
  refine Met.ofW (cc := cX13_weighed) (maxL := 4) (ret := (some .int)) (by decide) rfl ?_
  intro p e s m args below meth c s₁ B hml hv
  obtain ⟨rfl, rfl, hP, hB, hD, hE⟩ := hv
  have hr := B.returns
  have hlocks := B.notSynchronized
  have hts := atoms_spec (ws := Cond.code yX13_weighed cX13_weighed 4 (some .int) :: wM) B.pre
  have hC : mX p c cX13_weighed 4 s m _ G Z Q := ⟨B.exec, B.bytes, hml, findClass_of_methodNamed B.named, fun w h => hts w (List.mem_cons_of_mem _ h), hB, hE⟩
  have hx := hC.1
  have hb := hC.2.1
  have hH : mH G Q u.1 s s.heap [] := ⟨hP, hD, va_S.rf⟩
  have hl := lv_entry ([.ref (Q 72), .int a0]) (n := 4) (Nat.le_of_ble_eq_true rfl)
  rw [lg_entry_eq]
  generalize (lg_sl ([.ref (Q 72), .int a0]) ++ List.replicate (4 - (lg_sl ([.ref (Q 72), .int a0])).length) Slot.unset).toArray = ls at hl ⊢
  have hl : lv_has ls 4 [(0, .ref (Q 72)), (1, .int a0)] := hl
  unfold f_weighed at hF
  refine lv_iconst (v := 0) hx hb dX13_weighed_0 (by decide) ?_
  refine lv_istore_n (lv' := [(2, .int 0), (0, .ref (Q 72)), (1, .int a0)]) hx hb dX13_weighed_1 rfl hl (by decide) rfl (fun ls hl => ?_)
  refine lv_iconst (v := 0) hx hb dX13_weighed_2 (by decide) ?_
  refine lv_istore_n (lv' := [(3, .int 0), (2, .int 0), (0, .ref (Q 72)), (1, .int a0)]) hx hb dX13_weighed_3 rfl hl (by decide) rfl (fun ls hl => ?_)
  have hL4 : ∀ (K4_46 : Int32 → Int32 → Int32 → PG (Int32)), (∀ (v1 v2 v3 : Int32) (u : GS) (H : Heap) (locs : List Loc) (ls : Array Slot), lv_has ls 4 [(0, .ref (Q 72)), (1, .int v1), (2, .int v2), (3, .int v3)] → mH G Q u.1 s H locs → K4_46 v1 v2 v3 u = some ((r, u1)) → W p l e (headSpec (Cond.code yX13_weighed cX13_weighed 4 (some .int) :: wM) { frames := 0, cells := 0, slots := 0, locals := 0 }).room s m [.ref (Q 72), .int a0].toArray below meth c H locs 0 0 (MQ below (mQi G Q u1.1 r s.heap.size) [.ref (Q 72), .int a0].toArray s 0 0 (mA Q s.heap.size)) (F0 m 46 ls [])) → ∀ (n4 : Nat) (v1 v2 v3 : Int32) (u : GS) (H : Heap) (locs : List Loc) (ls : Array Slot), lv_has ls 4 [(0, .ref (Q 72)), (1, .int v1), (2, .int v2), (3, .int v3)] → mH G Q u.1 s H locs → lp_weighed_4 n4 v1 v2 v3 K4_46 u = some ((r, u1)) → W p l e (headSpec (Cond.code yX13_weighed cX13_weighed 4 (some .int) :: wM) { frames := 0, cells := 0, slots := 0, locals := 0 }).room s m [.ref (Q 72), .int a0].toArray below meth c H locs 0 0 (MQ below (mQi G Q u1.1 r s.heap.size) [.ref (Q 72), .int a0].toArray s 0 0 (mA Q s.heap.size)) (F0 m 4 ls []) := by
    intro K4_46 hK4_46 n4
    induction n4 with
    | zero => intro v1 v2 v3 u H locs ls hl hH hF; cases hF
    | succ n4 ih4 =>
      intro v1 v2 v3 u H locs ls hl hH hF
      unfold lp_weighed_4 at hF
      refine lv_iload_n hx hb dX13_weighed_4 rfl (lv_at hl 3 rfl) ?_
      refine lv_aload_n hx hb dX13_weighed_5 rfl (lv_at hl 0 rfl) ?_
      refine mg_2 hC hH dX13_weighed_6 ?_
      obtain ⟨x_1, e_2, hF⟩ := prf_some hF
      refine gx_ti e_2 ?_
      refine lv_icmp_ge (tgt := 46) hx hb dX13_weighed_9 (by decide) (fun c_3 => ?_) (fun c_3 => ?_)
      · rw [if_pos c_3] at hF
        exact hK4_46 v1 v2 v3 u _ _ _ (lv_sub hl [0, 1, 2, 3] rfl) hH hF
      · rw [if_neg c_3] at hF
        refine lv_iload_n hx hb dX13_weighed_12 rfl (lv_at hl 2 rfl) ?_
        refine lv_aload_n hx hb dX13_weighed_13 rfl (lv_at hl 0 rfl) ?_
        refine mg_5 hC hH dX13_weighed_14 ?_
        refine lv_iload_n hx hb dX13_weighed_17 rfl (lv_at hl 3 rfl) ?_
        obtain ⟨x_4, g_5, e_6, hF⟩ := prd_some hF
        refine ml_5 hC hH g_5 dX13_weighed_18 ?_
        refine gx_ti e_6 ?_
        refine lv_iload_n hx hb dX13_weighed_19 rfl (lv_at hl 1 rfl) ?_
        refine lv_icmp_ne (tgt := 37) hx hb dX13_weighed_20 (by decide) (fun c_7 => ?_) (fun c_7 => ?_)
        · rw [if_neg c_7] at hF
          refine lv_iconst (v := 0) hx hb dX13_weighed_37 (by decide) ?_
          refine lv_iadd hx hb dX13_weighed_38 ?_
          obtain ⟨x_8, e_9, hF⟩ := pli_some hF
          refine gx_ti e_9 ?_
          refine lv_istore_n (lv' := [(2, .int x_8), (0, .ref (Q 72)), (1, .int v1), (3, .int v3)]) hx hb dX13_weighed_39 rfl hl (by decide) rfl (fun ls hl => ?_)
          obtain ⟨x_10, e_11, hF⟩ := pli_some hF
          refine lv_iinc (v := x_10) (lv' := [(3, .int x_10), (2, .int x_8), (0, .ref (Q 72)), (1, .int v1)]) hx hb dX13_weighed_40 hl (k := 3) rfl e_11 (by decide) rfl (fun ls hl => ?_)
          refine lv_goto (tgt := 4) hx hb dX13_weighed_43 (by decide) ?_
          exact ih4 v1 x_8 x_10 u _ _ _ (lv_sub hl [2, 3, 1, 0] rfl) hH hF
        · rw [if_pos c_7] at hF
          refine lv_aload_n hx hb dX13_weighed_23 rfl (lv_at hl 0 rfl) ?_
          refine mg_8 hC hH dX13_weighed_24 ?_
          refine lv_iload_n hx hb dX13_weighed_27 rfl (lv_at hl 3 rfl) ?_
          obtain ⟨x_12, g_13, e_14, hF⟩ := prd_some hF
          refine ml_8 hC hH g_13 dX13_weighed_28 ?_
          refine gx_ti e_14 ?_
          refine lv_iconst (v := 1) hx hb dX13_weighed_29 (by decide) ?_
          refine lv_icmp_ne (tgt := 37) hx hb dX13_weighed_30 (by decide) (fun c_15 => ?_) (fun c_15 => ?_)
          · rw [if_neg c_15] at hF
            refine lv_iconst (v := 0) hx hb dX13_weighed_37 (by decide) ?_
            refine lv_iadd hx hb dX13_weighed_38 ?_
            obtain ⟨x_16, e_17, hF⟩ := pli_some hF
            refine gx_ti e_17 ?_
            refine lv_istore_n (lv' := [(2, .int x_16), (0, .ref (Q 72)), (1, .int v1), (3, .int v3)]) hx hb dX13_weighed_39 rfl hl (by decide) rfl (fun ls hl => ?_)
            obtain ⟨x_18, e_19, hF⟩ := pli_some hF
            refine lv_iinc (v := x_18) (lv' := [(3, .int x_18), (2, .int x_16), (0, .ref (Q 72)), (1, .int v1)]) hx hb dX13_weighed_40 hl (k := 3) rfl e_19 (by decide) rfl (fun ls hl => ?_)
            refine lv_goto (tgt := 4) hx hb dX13_weighed_43 (by decide) ?_
            exact ih4 v1 x_16 x_18 u _ _ _ (lv_sub hl [2, 3, 1, 0] rfl) hH hF
          · rw [if_pos c_15] at hF
            refine lv_iconst (v := 1) hx hb dX13_weighed_33 (by decide) ?_
            refine lv_goto (tgt := 38) hx hb dX13_weighed_34 (by decide) ?_
            refine lv_iadd hx hb dX13_weighed_38 ?_
            obtain ⟨x_20, e_21, hF⟩ := pli_some hF
            refine gx_ti e_21 ?_
            refine lv_istore_n (lv' := [(2, .int x_20), (0, .ref (Q 72)), (1, .int v1), (3, .int v3)]) hx hb dX13_weighed_39 rfl hl (by decide) rfl (fun ls hl => ?_)
            obtain ⟨x_22, e_23, hF⟩ := pli_some hF
            refine lv_iinc (v := x_22) (lv' := [(3, .int x_22), (2, .int x_20), (0, .ref (Q 72)), (1, .int v1)]) hx hb dX13_weighed_40 hl (k := 3) rfl e_23 (by decide) rfl (fun ls hl => ?_)
            refine lv_goto (tgt := 4) hx hb dX13_weighed_43 (by decide) ?_
            exact ih4 v1 x_20 x_22 u _ _ _ (lv_sub hl [2, 3, 1, 0] rfl) hH hF
  refine hL4 _ (fun v1 v2 v3 u H locs ls hl hH hF => ?_) fuel a0 0 0 u _ _ _ (lv_sub hl [2, 3, 1, 0] rfl) hH hF
  refine lv_iload_n hx hb dX13_weighed_46 rfl (lv_at hl 2 rfl) ?_
  have hF := prt_eq hF
  exact mr_i hC hH hr hF dX13_weighed_47 hlocks
def lp_makeRow_16 : Nat → Int32 → Int32 → Int32 → (Int32 → Int32 → Int32 → PG (Int32)) → PG (Int32)
  | 0, _, _, _, _ => fun _ => none
  | n16 + 1, v1, v2, v3, K16_39 => (if v2 ≤ v3 then K16_39 v1 v2 v3 else prd 57 32 v3 (fun x_6 => pwd 58 32 v3 x_6 (pli (v3 + 1) (fun x_12 => lp_makeRow_16 n16 v1 v2 x_12 K16_39))))
def lp_makeRow_41 : Nat → Int32 → Int32 → Int32 → (Int32 → Int32 → Int32 → PG (Int32)) → PG (Int32)
  | 0, _, _, _, _ => fun _ => none
  | n41 + 1, v1, v2, v3, K41_111 => (if v2 ≤ v3 then K41_111 v1 v2 v3 else prd 58 32 v3 (fun x_15 => (if (x_15 - x_15 / 2 * 2) = 0 then pli (2 * x_15) (fun x_29 => pwd 57 32 v3 x_29 (pwd 57 32 (((2 * v2) - 1) - v3) (((4 * x_15) + 1) - x_29) (pli (v3 + 1) (fun x_37 => lp_makeRow_41 n41 v1 v2 x_37 K41_111)))) else pli ((2 * x_15) + 1) (fun x_19 => pwd 57 32 v3 x_19 (pwd 57 32 (((2 * v2) - 1) - v3) (((4 * x_15) + 1) - x_19) (pli (v3 + 1) (fun x_27 => lp_makeRow_41 n41 v1 v2 x_27 K41_111)))))))
def lp_makeRow_9 : Nat → Int32 → Int32 → (Int32 → Int32 → PG (Int32)) → PG (Int32)
  | 0, _, _, _ => fun _ => none
  | n9 + 1, v1, v2, K9_118 => (if v1 ≤ v2 then K9_118 v1 v2 else lp_makeRow_16 fuel v1 v2 0 (fun v1 v2 v3 => lp_makeRow_41 fuel v1 v2 0 (fun v1 v2 v3 => pli (v2 * 2) (fun x_39 => lp_makeRow_9 n9 v1 x_39 K9_118))))
def f_makeRow (a0 : Int32) : PG (Int32) := pwd 57 32 0 0 (lp_makeRow_9 fuel a0 1 (fun v1 v2 => prt 0))
set_option maxHeartbeats 4000000 in
set_option maxRecDepth 100000 in
theorem m_makeRow (l : Launch) (G : gG) (Z : gM) (Q : Nat → Nat) (u u1 : GS) (r : Int32) (a0 : Int32) (sz : Nat) (hF : f_makeRow a0 u = some (r, u1)) : Met l yX13_makeRow (Cond.code yX13_makeRow cX13_makeRow 6 none :: wM) { frames := 0, cells := 0, slots := 0, locals := 0 } (va_Pc [.ref (Q 72), .int a0] (mPM G Z Q u.1 sz)) (mQv G Q u1.1 sz) 0 0 (mA Q sz) := by
  refine Met.ofW (cc := cX13_makeRow) (maxL := 6) (ret := none) (by decide) rfl ?_
  intro p e s m args below meth c s₁ B hml hv
  obtain ⟨rfl, rfl, hP, hB, hD, hE⟩ := hv
  have hr := B.returns
  have hlocks := B.notSynchronized
  have hts := atoms_spec (ws := Cond.code yX13_makeRow cX13_makeRow 6 none :: wM) B.pre
  have hC : mX p c cX13_makeRow 6 s m _ G Z Q := ⟨B.exec, B.bytes, hml, findClass_of_methodNamed B.named, fun w h => hts w (List.mem_cons_of_mem _ h), hB, hE⟩
  have hx := hC.1
  have hb := hC.2.1
  have hH : mH G Q u.1 s s.heap [] := ⟨hP, hD, va_S.rf⟩
  have hl := lv_entry ([.ref (Q 72), .int a0]) (n := 6) (Nat.le_of_ble_eq_true rfl)
  rw [lg_entry_eq]
  generalize (lg_sl ([.ref (Q 72), .int a0]) ++ List.replicate (6 - (lg_sl ([.ref (Q 72), .int a0])).length) Slot.unset).toArray = ls at hl ⊢
  have hl : lv_has ls 6 [(0, .ref (Q 72)), (1, .int a0)] := hl
  unfold f_makeRow at hF
  refine lv_aload_n hx hb dX13_makeRow_0 rfl (lv_at hl 0 rfl) ?_
  refine mg_57 hC hH dX13_makeRow_1 ?_
  refine lv_iconst (v := 0) hx hb dX13_makeRow_4 (by decide) ?_
  refine lv_iconst (v := 0) hx hb dX13_makeRow_5 (by decide) ?_
  obtain ⟨u_2, g_1, e_3, hF⟩ := pwd_some hF
  refine ms_57 hC hH e_3 g_1 dX13_makeRow_6 (fun H locs hH => ?_)
  refine lv_iconst (v := 1) hx hb dX13_makeRow_7 (by decide) ?_
  refine lv_istore_n (lv' := [(2, .int 1), (0, .ref (Q 72)), (1, .int a0)]) hx hb dX13_makeRow_8 rfl hl (by decide) rfl (fun ls hl => ?_)
  have hL9 : ∀ (K9_118 : Int32 → Int32 → PG (Int32)), (∀ (v1 v2 : Int32) (u : GS) (H : Heap) (locs : List Loc) (ls : Array Slot), lv_has ls 6 [(0, .ref (Q 72)), (1, .int v1), (2, .int v2)] → mH G Q u.1 s H locs → K9_118 v1 v2 u = some ((r, u1)) → W p l e (headSpec (Cond.code yX13_makeRow cX13_makeRow 6 none :: wM) { frames := 0, cells := 0, slots := 0, locals := 0 }).room s m [.ref (Q 72), .int a0].toArray below meth c H locs 0 0 (MQ below (mQv G Q u1.1 s.heap.size) [.ref (Q 72), .int a0].toArray s 0 0 (mA Q s.heap.size)) (F0 m 118 ls [])) → ∀ (n9 : Nat) (v1 v2 : Int32) (u : GS) (H : Heap) (locs : List Loc) (ls : Array Slot), lv_has ls 6 [(0, .ref (Q 72)), (1, .int v1), (2, .int v2)] → mH G Q u.1 s H locs → lp_makeRow_9 n9 v1 v2 K9_118 u = some ((r, u1)) → W p l e (headSpec (Cond.code yX13_makeRow cX13_makeRow 6 none :: wM) { frames := 0, cells := 0, slots := 0, locals := 0 }).room s m [.ref (Q 72), .int a0].toArray below meth c H locs 0 0 (MQ below (mQv G Q u1.1 s.heap.size) [.ref (Q 72), .int a0].toArray s 0 0 (mA Q s.heap.size)) (F0 m 9 ls []) := by
    intro K9_118 hK9_118 n9
    induction n9 with
    | zero => intro v1 v2 u H locs ls hl hH hF; cases hF
    | succ n9 ih9 =>
      intro v1 v2 u H locs ls hl hH hF
      unfold lp_makeRow_9 at hF
      refine lv_iload_n hx hb dX13_makeRow_9 rfl (lv_at hl 2 rfl) ?_
      refine lv_iload_n hx hb dX13_makeRow_10 rfl (lv_at hl 1 rfl) ?_
      refine lv_icmp_ge (tgt := 118) hx hb dX13_makeRow_11 (by decide) (fun c_4 => ?_) (fun c_4 => ?_)
      · rw [if_pos c_4] at hF
        exact hK9_118 v1 v2 u _ _ _ (lv_sub hl [0, 1, 2] rfl) hH hF
      · rw [if_neg c_4] at hF
        refine lv_iconst (v := 0) hx hb dX13_makeRow_14 (by decide) ?_
        refine lv_istore_n (lv' := [(3, .int 0), (0, .ref (Q 72)), (1, .int v1), (2, .int v2)]) hx hb dX13_makeRow_15 rfl hl (by decide) rfl (fun ls hl => ?_)
        have hL16 : ∀ (K16_39 : Int32 → Int32 → Int32 → PG (Int32)), (∀ (v1 v2 v3 : Int32) (u : GS) (H : Heap) (locs : List Loc) (ls : Array Slot), lv_has ls 6 [(0, .ref (Q 72)), (1, .int v1), (2, .int v2), (3, .int v3)] → mH G Q u.1 s H locs → K16_39 v1 v2 v3 u = some ((r, u1)) → W p l e (headSpec (Cond.code yX13_makeRow cX13_makeRow 6 none :: wM) { frames := 0, cells := 0, slots := 0, locals := 0 }).room s m [.ref (Q 72), .int a0].toArray below meth c H locs 0 0 (MQ below (mQv G Q u1.1 s.heap.size) [.ref (Q 72), .int a0].toArray s 0 0 (mA Q s.heap.size)) (F0 m 39 ls [])) → ∀ (n16 : Nat) (v1 v2 v3 : Int32) (u : GS) (H : Heap) (locs : List Loc) (ls : Array Slot), lv_has ls 6 [(0, .ref (Q 72)), (1, .int v1), (2, .int v2), (3, .int v3)] → mH G Q u.1 s H locs → lp_makeRow_16 n16 v1 v2 v3 K16_39 u = some ((r, u1)) → W p l e (headSpec (Cond.code yX13_makeRow cX13_makeRow 6 none :: wM) { frames := 0, cells := 0, slots := 0, locals := 0 }).room s m [.ref (Q 72), .int a0].toArray below meth c H locs 0 0 (MQ below (mQv G Q u1.1 s.heap.size) [.ref (Q 72), .int a0].toArray s 0 0 (mA Q s.heap.size)) (F0 m 16 ls []) := by
          intro K16_39 hK16_39 n16
          induction n16 with
          | zero => intro v1 v2 v3 u H locs ls hl hH hF; cases hF
          | succ n16 ih16 =>
            intro v1 v2 v3 u H locs ls hl hH hF
            unfold lp_makeRow_16 at hF
            refine lv_iload_n hx hb dX13_makeRow_16 rfl (lv_at hl 3 rfl) ?_
            refine lv_iload_n hx hb dX13_makeRow_17 rfl (lv_at hl 2 rfl) ?_
            refine lv_icmp_ge (tgt := 39) hx hb dX13_makeRow_18 (by decide) (fun c_5 => ?_) (fun c_5 => ?_)
            · rw [if_pos c_5] at hF
              exact hK16_39 v1 v2 v3 u _ _ _ (lv_sub hl [0, 1, 2, 3] rfl) hH hF
            · rw [if_neg c_5] at hF
              refine lv_aload_n hx hb dX13_makeRow_21 rfl (lv_at hl 0 rfl) ?_
              refine mg_58 hC hH dX13_makeRow_22 ?_
              refine lv_iload_n hx hb dX13_makeRow_25 rfl (lv_at hl 3 rfl) ?_
              refine lv_aload_n hx hb dX13_makeRow_26 rfl (lv_at hl 0 rfl) ?_
              refine mg_57 hC hH dX13_makeRow_27 ?_
              refine lv_iload_n hx hb dX13_makeRow_30 rfl (lv_at hl 3 rfl) ?_
              obtain ⟨x_6, g_7, e_8, hF⟩ := prd_some hF
              refine ml_57 hC hH g_7 dX13_makeRow_31 ?_
              refine gx_ti e_8 ?_
              obtain ⟨u_10, g_9, e_11, hF⟩ := pwd_some hF
              refine ms_58 hC hH e_11 g_9 dX13_makeRow_32 (fun H locs hH => ?_)
              obtain ⟨x_12, e_13, hF⟩ := pli_some hF
              refine lv_iinc (v := x_12) (lv' := [(3, .int x_12), (0, .ref (Q 72)), (1, .int v1), (2, .int v2)]) hx hb dX13_makeRow_33 hl (k := 3) rfl e_13 (by decide) rfl (fun ls hl => ?_)
              refine lv_goto (tgt := 16) hx hb dX13_makeRow_36 (by decide) ?_
              exact ih16 v1 v2 x_12 u_10 _ _ _ (lv_sub hl [1, 2, 3, 0] rfl) hH hF
        refine hL16 _ (fun v1 v2 v3 u H locs ls hl hH hF => ?_) fuel v1 v2 0 u _ _ _ (lv_sub hl [1, 2, 3, 0] rfl) hH hF
        refine lv_iconst (v := 0) hx hb dX13_makeRow_39 (by decide) ?_
        refine lv_istore_n (lv' := [(3, .int 0), (0, .ref (Q 72)), (1, .int v1), (2, .int v2)]) hx hb dX13_makeRow_40 rfl hl (by decide) rfl (fun ls hl => ?_)
        have hL41 : ∀ (K41_111 : Int32 → Int32 → Int32 → PG (Int32)), (∀ (v1 v2 v3 : Int32) (u : GS) (H : Heap) (locs : List Loc) (ls : Array Slot), lv_has ls 6 [(0, .ref (Q 72)), (1, .int v1), (2, .int v2), (3, .int v3)] → mH G Q u.1 s H locs → K41_111 v1 v2 v3 u = some ((r, u1)) → W p l e (headSpec (Cond.code yX13_makeRow cX13_makeRow 6 none :: wM) { frames := 0, cells := 0, slots := 0, locals := 0 }).room s m [.ref (Q 72), .int a0].toArray below meth c H locs 0 0 (MQ below (mQv G Q u1.1 s.heap.size) [.ref (Q 72), .int a0].toArray s 0 0 (mA Q s.heap.size)) (F0 m 111 ls [])) → ∀ (n41 : Nat) (v1 v2 v3 : Int32) (u : GS) (H : Heap) (locs : List Loc) (ls : Array Slot), lv_has ls 6 [(0, .ref (Q 72)), (1, .int v1), (2, .int v2), (3, .int v3)] → mH G Q u.1 s H locs → lp_makeRow_41 n41 v1 v2 v3 K41_111 u = some ((r, u1)) → W p l e (headSpec (Cond.code yX13_makeRow cX13_makeRow 6 none :: wM) { frames := 0, cells := 0, slots := 0, locals := 0 }).room s m [.ref (Q 72), .int a0].toArray below meth c H locs 0 0 (MQ below (mQv G Q u1.1 s.heap.size) [.ref (Q 72), .int a0].toArray s 0 0 (mA Q s.heap.size)) (F0 m 41 ls []) := by
          intro K41_111 hK41_111 n41
          induction n41 with
          | zero => intro v1 v2 v3 u H locs ls hl hH hF; cases hF
          | succ n41 ih41 =>
            intro v1 v2 v3 u H locs ls hl hH hF
            unfold lp_makeRow_41 at hF
            refine lv_iload_n hx hb dX13_makeRow_41 rfl (lv_at hl 3 rfl) ?_
            refine lv_iload_n hx hb dX13_makeRow_42 rfl (lv_at hl 2 rfl) ?_
            refine lv_icmp_ge (tgt := 111) hx hb dX13_makeRow_43 (by decide) (fun c_14 => ?_) (fun c_14 => ?_)
            · rw [if_pos c_14] at hF
              exact hK41_111 v1 v2 v3 u _ _ _ (lv_sub hl [0, 1, 2, 3] rfl) hH hF
            · rw [if_neg c_14] at hF
              refine lv_aload_n hx hb dX13_makeRow_46 rfl (lv_at hl 0 rfl) ?_
              refine mg_58 hC hH dX13_makeRow_47 ?_
              refine lv_iload_n hx hb dX13_makeRow_50 rfl (lv_at hl 3 rfl) ?_
              obtain ⟨x_15, g_16, e_17, hF⟩ := prd_some hF
              refine ml_58 hC hH g_16 dX13_makeRow_51 ?_
              refine gx_ti e_17 ?_
              refine lv_istore (lv' := [(4, .int x_15), (0, .ref (Q 72)), (1, .int v1), (2, .int v2), (3, .int v3)]) hx hb dX13_makeRow_52 hl (by decide) rfl (fun ls hl => ?_)
              refine lv_iload hx hb dX13_makeRow_54 (lv_at hl 0 rfl) ?_
              refine lv_iconst (v := 2) hx hb dX13_makeRow_56 (by decide) ?_
              refine lv_irem hx hb dX13_makeRow_57 (by decide) ?_
              refine lv_if_ne (tgt := 68) hx hb dX13_makeRow_58 (by decide) (fun c_18 => ?_) (fun c_18 => ?_)
              · rw [if_neg c_18] at hF
                refine lv_iconst (v := 2) hx hb dX13_makeRow_68 (by decide) ?_
                refine lv_iload hx hb dX13_makeRow_69 (lv_at hl 0 rfl) ?_
                refine lv_imul hx hb dX13_makeRow_71 ?_
                refine lv_iconst (v := 1) hx hb dX13_makeRow_72 (by decide) ?_
                refine lv_iadd hx hb dX13_makeRow_73 ?_
                obtain ⟨x_19, e_20, hF⟩ := pli_some hF
                refine gx_ti e_20 ?_
                refine lv_istore (lv' := [(5, .int x_19), (4, .int x_15), (0, .ref (Q 72)), (1, .int v1), (2, .int v2), (3, .int v3)]) hx hb dX13_makeRow_74 hl (by decide) rfl (fun ls hl => ?_)
                refine lv_aload_n hx hb dX13_makeRow_76 rfl (lv_at hl 2 rfl) ?_
                refine mg_57 hC hH dX13_makeRow_77 ?_
                refine lv_iload_n hx hb dX13_makeRow_80 rfl (lv_at hl 5 rfl) ?_
                refine lv_iload hx hb dX13_makeRow_81 (lv_at hl 0 rfl) ?_
                obtain ⟨u_22, g_21, e_23, hF⟩ := pwd_some hF
                refine ms_57 hC hH e_23 g_21 dX13_makeRow_83 (fun H locs hH => ?_)
                refine lv_aload_n hx hb dX13_makeRow_84 rfl (lv_at hl 2 rfl) ?_
                refine mg_57 hC hH dX13_makeRow_85 ?_
                refine lv_iconst (v := 2) hx hb dX13_makeRow_88 (by decide) ?_
                refine lv_iload_n hx hb dX13_makeRow_89 rfl (lv_at hl 4 rfl) ?_
                refine lv_imul hx hb dX13_makeRow_90 ?_
                refine lv_iconst (v := 1) hx hb dX13_makeRow_91 (by decide) ?_
                refine lv_isub hx hb dX13_makeRow_92 ?_
                refine lv_iload_n hx hb dX13_makeRow_93 rfl (lv_at hl 5 rfl) ?_
                refine lv_isub hx hb dX13_makeRow_94 ?_
                refine lv_iconst (v := 4) hx hb dX13_makeRow_95 (by decide) ?_
                refine lv_iload hx hb dX13_makeRow_96 (lv_at hl 1 rfl) ?_
                refine lv_imul hx hb dX13_makeRow_98 ?_
                refine lv_iconst (v := 1) hx hb dX13_makeRow_99 (by decide) ?_
                refine lv_iadd hx hb dX13_makeRow_100 ?_
                refine lv_iload hx hb dX13_makeRow_101 (lv_at hl 0 rfl) ?_
                refine lv_isub hx hb dX13_makeRow_103 ?_
                obtain ⟨u_25, g_24, e_26, hF⟩ := pwd_some hF
                refine ms_57 hC hH e_26 g_24 dX13_makeRow_104 (fun H locs hH => ?_)
                obtain ⟨x_27, e_28, hF⟩ := pli_some hF
                refine lv_iinc (v := x_27) (lv' := [(3, .int x_27), (5, .int x_19), (4, .int x_15), (0, .ref (Q 72)), (1, .int v1), (2, .int v2)]) hx hb dX13_makeRow_105 hl (k := 5) rfl e_28 (by decide) rfl (fun ls hl => ?_)
                refine lv_goto (tgt := 41) hx hb dX13_makeRow_108 (by decide) ?_
                exact ih41 v1 v2 x_27 u_25 _ _ _ (lv_sub hl [3, 4, 5, 0] rfl) hH hF
              · rw [if_pos c_18] at hF
                refine lv_iconst (v := 2) hx hb dX13_makeRow_61 (by decide) ?_
                refine lv_iload hx hb dX13_makeRow_62 (lv_at hl 0 rfl) ?_
                refine lv_imul hx hb dX13_makeRow_64 ?_
                refine lv_goto (tgt := 74) hx hb dX13_makeRow_65 (by decide) ?_
                obtain ⟨x_29, e_30, hF⟩ := pli_some hF
                refine gx_ti e_30 ?_
                refine lv_istore (lv' := [(5, .int x_29), (4, .int x_15), (0, .ref (Q 72)), (1, .int v1), (2, .int v2), (3, .int v3)]) hx hb dX13_makeRow_74 hl (by decide) rfl (fun ls hl => ?_)
                refine lv_aload_n hx hb dX13_makeRow_76 rfl (lv_at hl 2 rfl) ?_
                refine mg_57 hC hH dX13_makeRow_77 ?_
                refine lv_iload_n hx hb dX13_makeRow_80 rfl (lv_at hl 5 rfl) ?_
                refine lv_iload hx hb dX13_makeRow_81 (lv_at hl 0 rfl) ?_
                obtain ⟨u_32, g_31, e_33, hF⟩ := pwd_some hF
                refine ms_57 hC hH e_33 g_31 dX13_makeRow_83 (fun H locs hH => ?_)
                refine lv_aload_n hx hb dX13_makeRow_84 rfl (lv_at hl 2 rfl) ?_
                refine mg_57 hC hH dX13_makeRow_85 ?_
                refine lv_iconst (v := 2) hx hb dX13_makeRow_88 (by decide) ?_
                refine lv_iload_n hx hb dX13_makeRow_89 rfl (lv_at hl 4 rfl) ?_
                refine lv_imul hx hb dX13_makeRow_90 ?_
                refine lv_iconst (v := 1) hx hb dX13_makeRow_91 (by decide) ?_
                refine lv_isub hx hb dX13_makeRow_92 ?_
                refine lv_iload_n hx hb dX13_makeRow_93 rfl (lv_at hl 5 rfl) ?_
                refine lv_isub hx hb dX13_makeRow_94 ?_
                refine lv_iconst (v := 4) hx hb dX13_makeRow_95 (by decide) ?_
                refine lv_iload hx hb dX13_makeRow_96 (lv_at hl 1 rfl) ?_
                refine lv_imul hx hb dX13_makeRow_98 ?_
                refine lv_iconst (v := 1) hx hb dX13_makeRow_99 (by decide) ?_
                refine lv_iadd hx hb dX13_makeRow_100 ?_
                refine lv_iload hx hb dX13_makeRow_101 (lv_at hl 0 rfl) ?_
                refine lv_isub hx hb dX13_makeRow_103 ?_
                obtain ⟨u_35, g_34, e_36, hF⟩ := pwd_some hF
                refine ms_57 hC hH e_36 g_34 dX13_makeRow_104 (fun H locs hH => ?_)
                obtain ⟨x_37, e_38, hF⟩ := pli_some hF
                refine lv_iinc (v := x_37) (lv' := [(3, .int x_37), (5, .int x_29), (4, .int x_15), (0, .ref (Q 72)), (1, .int v1), (2, .int v2)]) hx hb dX13_makeRow_105 hl (k := 5) rfl e_38 (by decide) rfl (fun ls hl => ?_)
                refine lv_goto (tgt := 41) hx hb dX13_makeRow_108 (by decide) ?_
                exact ih41 v1 v2 x_37 u_35 _ _ _ (lv_sub hl [3, 4, 5, 0] rfl) hH hF
        refine hL41 _ (fun v1 v2 v3 u H locs ls hl hH hF => ?_) fuel v1 v2 0 u _ _ _ (lv_sub hl [1, 2, 3, 0] rfl) hH hF
        refine lv_iload_n hx hb dX13_makeRow_111 rfl (lv_at hl 2 rfl) ?_
        refine lv_iconst (v := 2) hx hb dX13_makeRow_112 (by decide) ?_
        refine lv_imul hx hb dX13_makeRow_113 ?_
        obtain ⟨x_39, e_40, hF⟩ := pli_some hF
        refine gx_ti e_40 ?_
        refine lv_istore_n (lv' := [(2, .int x_39), (0, .ref (Q 72)), (1, .int v1), (3, .int v3)]) hx hb dX13_makeRow_114 rfl hl (by decide) rfl (fun ls hl => ?_)
        refine lv_goto (tgt := 9) hx hb dX13_makeRow_115 (by decide) ?_
        exact ih9 v1 x_39 u _ _ _ (lv_sub hl [1, 2, 0] rfl) hH hF
  refine hL9 _ (fun v1 v2 u H locs ls hl hH hF => ?_) fuel a0 1 u_2 _ _ _ (lv_sub hl [1, 2, 0] rfl) hH hF
  have hF := prt_eq hF
  exact mr_v hC hH hr hF dX13_makeRow_118 hlocks
def f_isOther (a0 : Int32) (a1 : Int32) : PG (Int32) := prd 5 96 a1 (fun x_1 => (if x_1 = a0 then prd 8 96 a1 (fun x_5 => (if x_5 = 1 then prd 9 96 a1 (fun x_9 => (if x_9 = 0 then prt 1 else prt 0)) else prt 0)) else prt 0))
set_option maxHeartbeats 4000000 in
set_option maxRecDepth 100000 in
theorem m_isOther (l : Launch) (G : gG) (Z : gM) (Q : Nat → Nat) (u u1 : GS) (r : Int32) (a0 : Int32) (a1 : Int32) (sz : Nat) (hF : f_isOther a0 a1 u = some (r, u1)) : Met l yX13_isOther (Cond.code yX13_isOther cX13_isOther 3 (some .boolean) :: wM) { frames := 0, cells := 0, slots := 0, locals := 0 } (va_Pc [.ref (Q 72), .int a0, .int a1] (mPM G Z Q u.1 sz)) (mQi G Q u1.1 r sz) 0 0 (mA Q sz) := by
  refine Met.ofW (cc := cX13_isOther) (maxL := 3) (ret := (some .boolean)) (by decide) rfl ?_
  intro p e s m args below meth c s₁ B hml hv
  obtain ⟨rfl, rfl, hP, hB, hD, hE⟩ := hv
  have hr := B.returns
  have hlocks := B.notSynchronized
  have hts := atoms_spec (ws := Cond.code yX13_isOther cX13_isOther 3 (some .boolean) :: wM) B.pre
  have hC : mX p c cX13_isOther 3 s m _ G Z Q := ⟨B.exec, B.bytes, hml, findClass_of_methodNamed B.named, fun w h => hts w (List.mem_cons_of_mem _ h), hB, hE⟩
  have hx := hC.1
  have hb := hC.2.1
  have hH : mH G Q u.1 s s.heap [] := ⟨hP, hD, va_S.rf⟩
  have hl := lv_entry ([.ref (Q 72), .int a0, .int a1]) (n := 3) (Nat.le_of_ble_eq_true rfl)
  rw [lg_entry_eq]
  generalize (lg_sl ([.ref (Q 72), .int a0, .int a1]) ++ List.replicate (3 - (lg_sl ([.ref (Q 72), .int a0, .int a1])).length) Slot.unset).toArray = ls at hl ⊢
  have hl : lv_has ls 3 [(0, .ref (Q 72)), (1, .int a0), (2, .int a1)] := hl
  unfold f_isOther at hF
  refine lv_aload_n hx hb dX13_isOther_0 rfl (lv_at hl 0 rfl) ?_
  refine mg_5 hC hH dX13_isOther_1 ?_
  refine lv_iload_n hx hb dX13_isOther_4 rfl (lv_at hl 2 rfl) ?_
  obtain ⟨x_1, g_2, e_3, hF⟩ := prd_some hF
  refine ml_5 hC hH g_2 dX13_isOther_5 ?_
  refine gx_ti e_3 ?_
  refine lv_iload_n hx hb dX13_isOther_6 rfl (lv_at hl 1 rfl) ?_
  refine lv_icmp_ne (tgt := 33) hx hb dX13_isOther_7 (by decide) (fun c_4 => ?_) (fun c_4 => ?_)
  · rw [if_neg c_4] at hF
    refine lv_iconst (v := 0) hx hb dX13_isOther_33 (by decide) ?_
    have hF := prt_eq hF
    exact mr_z hC hH hr rfl hF dX13_isOther_34 hlocks
  · rw [if_pos c_4] at hF
    refine lv_aload_n hx hb dX13_isOther_10 rfl (lv_at hl 0 rfl) ?_
    refine mg_8 hC hH dX13_isOther_11 ?_
    refine lv_iload_n hx hb dX13_isOther_14 rfl (lv_at hl 2 rfl) ?_
    obtain ⟨x_5, g_6, e_7, hF⟩ := prd_some hF
    refine ml_8 hC hH g_6 dX13_isOther_15 ?_
    refine gx_ti e_7 ?_
    refine lv_iconst (v := 1) hx hb dX13_isOther_16 (by decide) ?_
    refine lv_icmp_ne (tgt := 33) hx hb dX13_isOther_17 (by decide) (fun c_8 => ?_) (fun c_8 => ?_)
    · rw [if_neg c_8] at hF
      refine lv_iconst (v := 0) hx hb dX13_isOther_33 (by decide) ?_
      have hF := prt_eq hF
      exact mr_z hC hH hr rfl hF dX13_isOther_34 hlocks
    · rw [if_pos c_8] at hF
      refine lv_aload_n hx hb dX13_isOther_20 rfl (lv_at hl 0 rfl) ?_
      refine mg_9 hC hH dX13_isOther_21 ?_
      refine lv_iload_n hx hb dX13_isOther_24 rfl (lv_at hl 2 rfl) ?_
      obtain ⟨x_9, g_10, e_11, hF⟩ := prd_some hF
      refine ml_9 hC hH g_10 dX13_isOther_25 ?_
      refine gx_ti e_11 ?_
      refine lv_if_ne (tgt := 33) hx hb dX13_isOther_26 (by decide) (fun c_12 => ?_) (fun c_12 => ?_)
      · rw [if_neg c_12] at hF
        refine lv_iconst (v := 0) hx hb dX13_isOther_33 (by decide) ?_
        have hF := prt_eq hF
        exact mr_z hC hH hr rfl hF dX13_isOther_34 hlocks
      · rw [if_pos c_12] at hF
        refine lv_iconst (v := 1) hx hb dX13_isOther_29 (by decide) ?_
        refine lv_goto (tgt := 34) hx hb dX13_isOther_30 (by decide) ?_
        have hF := prt_eq hF
        exact mr_z hC hH hr rfl hF dX13_isOther_34 hlocks
def f_settle (a0 : Int32) (a1 : Int32) (a2 : Int32) : PG (Int32) := pwd 14 128 ((32 * a0) + a2) a1 (pwd 10 96 a1 a2 (pwd 60 32 a2 (vp_nar .boolean 1) (prt 0)))
set_option maxHeartbeats 4000000 in
set_option maxRecDepth 100000 in
theorem m_settle (l : Launch) (G : gG) (Z : gM) (Q : Nat → Nat) (u u1 : GS) (r : Int32) (a0 : Int32) (a1 : Int32) (a2 : Int32) (sz : Nat) (hF : f_settle a0 a1 a2 u = some (r, u1)) : Met l yX13_settle (Cond.code yX13_settle cX13_settle 4 none :: wM) { frames := 0, cells := 0, slots := 0, locals := 0 } (va_Pc [.ref (Q 72), .int a0, .int a1, .int a2] (mPM G Z Q u.1 sz)) (mQv G Q u1.1 sz) 0 0 (mA Q sz) := by
  refine Met.ofW (cc := cX13_settle) (maxL := 4) (ret := none) (by decide) rfl ?_
  intro p e s m args below meth c s₁ B hml hv
  obtain ⟨rfl, rfl, hP, hB, hD, hE⟩ := hv
  have hr := B.returns
  have hlocks := B.notSynchronized
  have hts := atoms_spec (ws := Cond.code yX13_settle cX13_settle 4 none :: wM) B.pre
  have hC : mX p c cX13_settle 4 s m _ G Z Q := ⟨B.exec, B.bytes, hml, findClass_of_methodNamed B.named, fun w h => hts w (List.mem_cons_of_mem _ h), hB, hE⟩
  have hx := hC.1
  have hb := hC.2.1
  have hH : mH G Q u.1 s s.heap [] := ⟨hP, hD, va_S.rf⟩
  have hl := lv_entry ([.ref (Q 72), .int a0, .int a1, .int a2]) (n := 4) (Nat.le_of_ble_eq_true rfl)
  rw [lg_entry_eq]
  generalize (lg_sl ([.ref (Q 72), .int a0, .int a1, .int a2]) ++ List.replicate (4 - (lg_sl ([.ref (Q 72), .int a0, .int a1, .int a2])).length) Slot.unset).toArray = ls at hl ⊢
  have hl : lv_has ls 4 [(0, .ref (Q 72)), (1, .int a0), (2, .int a1), (3, .int a2)] := hl
  unfold f_settle at hF
  refine lv_aload_n hx hb dX13_settle_0 rfl (lv_at hl 0 rfl) ?_
  refine mg_14 hC hH dX13_settle_1 ?_
  refine lv_bipush (v := 32) hx hb dX13_settle_4 (by decide) ?_
  refine lv_iload_n hx hb dX13_settle_6 rfl (lv_at hl 1 rfl) ?_
  refine lv_imul hx hb dX13_settle_7 ?_
  refine lv_iload_n hx hb dX13_settle_8 rfl (lv_at hl 3 rfl) ?_
  refine lv_iadd hx hb dX13_settle_9 ?_
  refine lv_iload_n hx hb dX13_settle_10 rfl (lv_at hl 2 rfl) ?_
  obtain ⟨u_2, g_1, e_3, hF⟩ := pwd_some hF
  refine ms_14 hC hH e_3 g_1 dX13_settle_11 (fun H locs hH => ?_)
  refine lv_aload_n hx hb dX13_settle_12 rfl (lv_at hl 0 rfl) ?_
  refine mg_10 hC hH dX13_settle_13 ?_
  refine lv_iload_n hx hb dX13_settle_16 rfl (lv_at hl 2 rfl) ?_
  refine lv_iload_n hx hb dX13_settle_17 rfl (lv_at hl 3 rfl) ?_
  obtain ⟨u_5, g_4, e_6, hF⟩ := pwd_some hF
  refine ms_10 hC hH e_6 g_4 dX13_settle_18 (fun H locs hH => ?_)
  refine lv_aload_n hx hb dX13_settle_19 rfl (lv_at hl 0 rfl) ?_
  refine mg_60 hC hH dX13_settle_20 ?_
  refine lv_iload_n hx hb dX13_settle_23 rfl (lv_at hl 3 rfl) ?_
  refine lv_iconst (v := 1) hx hb dX13_settle_24 (by decide) ?_
  obtain ⟨u_8, g_7, e_9, hF⟩ := pwd_some hF
  refine ms_60 hC hH e_9 g_7 dX13_settle_25 (fun H locs hH => ?_)
  have hF := prt_eq hF
  exact mr_v hC hH hr hF dX13_settle_26 hlocks
def lp_bestPlace_87 : Nat → Int32 → Int32 → Int32 → Int32 → Int32 → Int32 → Int32 → Int32 → Int32 → Int32 → Int32 → (Int32 → Int32 → Int32 → Int32 → Int32 → Int32 → Int32 → Int32 → Int32 → Int32 → Int32 → PG (Int32)) → PG (Int32)
  | 0, _, _, _, _, _, _, _, _, _, _, _, _ => fun _ => none
  | n87 + 1, v1, v2, v3, v4, v5, v6, v7, v8, v9, v10, v11, K87_110 => (if (v7 >>> ((v11 + 1) &&& 31)) = (v9 >>> ((v11 + 1) &&& 31)) then K87_110 v1 v2 v3 v4 v5 v6 v7 v8 v9 v10 v11 else pli (v11 + 1) (fun x_21 => lp_bestPlace_87 n87 v1 v2 v3 v4 v5 v6 v7 v8 v9 v10 x_21 K87_110))
def lp_bestPlace_44 : Nat → Int32 → Int32 → Int32 → Int32 → Int32 → Int32 → Int32 → Int32 → Int32 → (Int32 → Int32 → Int32 → Int32 → Int32 → Int32 → Int32 → Int32 → Int32 → PG (Int32)) → PG (Int32)
  | 0, _, _, _, _, _, _, _, _, _, _ => fun _ => none
  | n44 + 1, v1, v2, v3, v4, v5, v6, v7, v8, v9, K44_125 => (if v3 ≤ v9 then K44_125 v1 v2 v3 v4 v5 v6 v7 v8 v9 else prd 14 128 ((32 * v1) + v9) (fun x_10 => (if x_10 = (-1) then pli (v9 + 1) (fun x_14 => lp_bestPlace_44 n44 v1 v2 v3 v4 v5 v6 v7 v8 x_14 K44_125) else prd 6 96 x_10 (fun x_16 => (if x_16 = v2 then lp_bestPlace_87 fuel v1 v2 v3 v4 v5 v6 v7 v8 v9 x_10 0 (fun v1 v2 v3 v4 v5 v6 v7 v8 v9 v10 v11 => pli (if v11 < v8 then v11 else v8) (fun x_23 => pli (v9 + 1) (fun x_25 => lp_bestPlace_44 n44 v1 v2 v3 v4 v5 v6 v7 x_23 x_25 K44_125))) else pli (v9 + 1) (fun x_27 => lp_bestPlace_44 n44 v1 v2 v3 v4 v5 v6 v7 v8 x_27 K44_125))))))
def lp_bestPlace_9 : Nat → Int32 → Int32 → Int32 → Int32 → Int32 → Int32 → (Int32 → Int32 → Int32 → Int32 → Int32 → Int32 → PG (Int32)) → PG (Int32)
  | 0, _, _, _, _, _, _, _ => fun _ => none
  | n9 + 1, v1, v2, v3, v4, v5, v6, K9_149 => (if v3 ≤ v6 then K9_149 v1 v2 v3 v4 v5 v6 else prd 57 32 v6 (fun x_2 => prd 60 32 x_2 (fun x_5 => (if x_5 = 0 then lp_bestPlace_44 fuel v1 v2 v3 v4 v5 v6 x_2 99 0 (fun v1 v2 v3 v4 v5 v6 v7 v8 v9 => (if v5 < v8 then pli (v6 + 1) (fun x_30 => lp_bestPlace_9 n9 v1 v2 v3 v7 v8 x_30 K9_149) else pli (v6 + 1) (fun x_32 => lp_bestPlace_9 n9 v1 v2 v3 v4 v5 x_32 K9_149))) else pli (v6 + 1) (fun x_34 => lp_bestPlace_9 n9 v1 v2 v3 v4 v5 x_34 K9_149)))))
def f_bestPlace (a0 : Int32) (a1 : Int32) (a2 : Int32) : PG (Int32) := lp_bestPlace_9 fuel a0 a1 a2 (-1) (-1) 0 (fun v1 v2 v3 v4 v5 v6 => prt v4)
set_option maxHeartbeats 4000000 in
set_option maxRecDepth 100000 in
theorem m_bestPlace (l : Launch) (G : gG) (Z : gM) (Q : Nat → Nat) (u u1 : GS) (r : Int32) (a0 : Int32) (a1 : Int32) (a2 : Int32) (sz : Nat) (hF : f_bestPlace a0 a1 a2 u = some (r, u1)) : Met l yX13_bestPlace (Cond.code yX13_bestPlace cX13_bestPlace 12 (some .int) :: wM) { frames := 1, cells := 0, slots := 0, locals := 13 } (va_Pc [.ref (Q 72), .int a0, .int a1, .int a2] (mPM G Z Q u.1 sz)) (mQi G Q u1.1 r sz) 0 0 (mA Q sz) := by
  refine Met.ofW (cc := cX13_bestPlace) (maxL := 12) (ret := (some .int)) (by decide) rfl ?_
  intro p e s m args below meth c s₁ B hml hv
  obtain ⟨rfl, rfl, hP, hB, hD, hE⟩ := hv
  have hr := B.returns
  have hlocks := B.notSynchronized
  have hts := atoms_spec (ws := Cond.code yX13_bestPlace cX13_bestPlace 12 (some .int) :: wM) B.pre
  have hC : mX p c cX13_bestPlace 12 s m _ G Z Q := ⟨B.exec, B.bytes, hml, findClass_of_methodNamed B.named, fun w h => hts w (List.mem_cons_of_mem _ h), hB, hE⟩
  have hx := hC.1
  have hb := hC.2.1
  have hH : mH G Q u.1 s s.heap [] := ⟨hP, hD, va_S.rf⟩
  have hl := lv_entry ([.ref (Q 72), .int a0, .int a1, .int a2]) (n := 12) (Nat.le_of_ble_eq_true rfl)
  rw [lg_entry_eq]
  generalize (lg_sl ([.ref (Q 72), .int a0, .int a1, .int a2]) ++ List.replicate (12 - (lg_sl ([.ref (Q 72), .int a0, .int a1, .int a2])).length) Slot.unset).toArray = ls at hl ⊢
  have hl : lv_has ls 12 [(0, .ref (Q 72)), (1, .int a0), (2, .int a1), (3, .int a2)] := hl
  unfold f_bestPlace at hF
  refine lv_iconst (v := (-1)) hx hb dX13_bestPlace_0 (by decide) ?_
  refine lv_istore (lv' := [(4, .int (-1)), (0, .ref (Q 72)), (1, .int a0), (2, .int a1), (3, .int a2)]) hx hb dX13_bestPlace_1 hl (by decide) rfl (fun ls hl => ?_)
  refine lv_iconst (v := (-1)) hx hb dX13_bestPlace_3 (by decide) ?_
  refine lv_istore (lv' := [(5, .int (-1)), (4, .int (-1)), (0, .ref (Q 72)), (1, .int a0), (2, .int a1), (3, .int a2)]) hx hb dX13_bestPlace_4 hl (by decide) rfl (fun ls hl => ?_)
  refine lv_iconst (v := 0) hx hb dX13_bestPlace_6 (by decide) ?_
  refine lv_istore (lv' := [(6, .int 0), (5, .int (-1)), (4, .int (-1)), (0, .ref (Q 72)), (1, .int a0), (2, .int a1), (3, .int a2)]) hx hb dX13_bestPlace_7 hl (by decide) rfl (fun ls hl => ?_)
  have hL9 : ∀ (K9_149 : Int32 → Int32 → Int32 → Int32 → Int32 → Int32 → PG (Int32)), (∀ (v1 v2 v3 v4 v5 v6 : Int32) (u : GS) (H : Heap) (locs : List Loc) (ls : Array Slot), lv_has ls 12 [(0, .ref (Q 72)), (1, .int v1), (2, .int v2), (3, .int v3), (4, .int v4), (5, .int v5), (6, .int v6)] → mH G Q u.1 s H locs → K9_149 v1 v2 v3 v4 v5 v6 u = some ((r, u1)) → W p l e (headSpec (Cond.code yX13_bestPlace cX13_bestPlace 12 (some .int) :: wM) { frames := 1, cells := 0, slots := 0, locals := 13 }).room s m [.ref (Q 72), .int a0, .int a1, .int a2].toArray below meth c H locs 0 0 (MQ below (mQi G Q u1.1 r s.heap.size) [.ref (Q 72), .int a0, .int a1, .int a2].toArray s 0 0 (mA Q s.heap.size)) (F0 m 149 ls [])) → ∀ (n9 : Nat) (v1 v2 v3 v4 v5 v6 : Int32) (u : GS) (H : Heap) (locs : List Loc) (ls : Array Slot), lv_has ls 12 [(0, .ref (Q 72)), (1, .int v1), (2, .int v2), (3, .int v3), (4, .int v4), (5, .int v5), (6, .int v6)] → mH G Q u.1 s H locs → lp_bestPlace_9 n9 v1 v2 v3 v4 v5 v6 K9_149 u = some ((r, u1)) → W p l e (headSpec (Cond.code yX13_bestPlace cX13_bestPlace 12 (some .int) :: wM) { frames := 1, cells := 0, slots := 0, locals := 13 }).room s m [.ref (Q 72), .int a0, .int a1, .int a2].toArray below meth c H locs 0 0 (MQ below (mQi G Q u1.1 r s.heap.size) [.ref (Q 72), .int a0, .int a1, .int a2].toArray s 0 0 (mA Q s.heap.size)) (F0 m 9 ls []) := by
    intro K9_149 hK9_149 n9
    induction n9 with
    | zero => intro v1 v2 v3 v4 v5 v6 u H locs ls hl hH hF; cases hF
    | succ n9 ih9 =>
      intro v1 v2 v3 v4 v5 v6 u H locs ls hl hH hF
      unfold lp_bestPlace_9 at hF
      refine lv_iload hx hb dX13_bestPlace_9 (lv_at hl 6 rfl) ?_
      refine lv_iload_n hx hb dX13_bestPlace_11 rfl (lv_at hl 3 rfl) ?_
      refine lv_icmp_ge (tgt := 149) hx hb dX13_bestPlace_12 (by decide) (fun c_1 => ?_) (fun c_1 => ?_)
      · rw [if_pos c_1] at hF
        exact hK9_149 v1 v2 v3 v4 v5 v6 u _ _ _ (lv_sub hl [0, 1, 2, 3, 4, 5, 6] rfl) hH hF
      · rw [if_neg c_1] at hF
        refine lv_aload_n hx hb dX13_bestPlace_15 rfl (lv_at hl 0 rfl) ?_
        refine mg_57 hC hH dX13_bestPlace_16 ?_
        refine lv_iload hx hb dX13_bestPlace_19 (lv_at hl 6 rfl) ?_
        obtain ⟨x_2, g_3, e_4, hF⟩ := prd_some hF
        refine ml_57 hC hH g_3 dX13_bestPlace_21 ?_
        refine gx_ti e_4 ?_
        refine lv_istore (lv' := [(7, .int x_2), (0, .ref (Q 72)), (1, .int v1), (2, .int v2), (3, .int v3), (4, .int v4), (5, .int v5), (6, .int v6)]) hx hb dX13_bestPlace_22 hl (by decide) rfl (fun ls hl => ?_)
        refine lv_aload_n hx hb dX13_bestPlace_24 rfl (lv_at hl 1 rfl) ?_
        refine mg_60 hC hH dX13_bestPlace_25 ?_
        refine lv_iload hx hb dX13_bestPlace_28 (lv_at hl 0 rfl) ?_
        obtain ⟨x_5, g_6, e_7, hF⟩ := prd_some hF
        refine ml_60 hC hH g_6 dX13_bestPlace_30 ?_
        refine gx_ti e_7 ?_
        refine lv_if_eq (tgt := 37) hx hb dX13_bestPlace_31 (by decide) (fun c_8 => ?_) (fun c_8 => ?_)
        · rw [if_pos c_8] at hF
          refine lv_bipush (v := 99) hx hb dX13_bestPlace_37 (by decide) ?_
          refine lv_istore (lv' := [(8, .int 99), (7, .int x_2), (0, .ref (Q 72)), (1, .int v1), (2, .int v2), (3, .int v3), (4, .int v4), (5, .int v5), (6, .int v6)]) hx hb dX13_bestPlace_39 hl (by decide) rfl (fun ls hl => ?_)
          refine lv_iconst (v := 0) hx hb dX13_bestPlace_41 (by decide) ?_
          refine lv_istore (lv' := [(9, .int 0), (8, .int 99), (7, .int x_2), (0, .ref (Q 72)), (1, .int v1), (2, .int v2), (3, .int v3), (4, .int v4), (5, .int v5), (6, .int v6)]) hx hb dX13_bestPlace_42 hl (by decide) rfl (fun ls hl => ?_)
          have hL44 : ∀ (K44_125 : Int32 → Int32 → Int32 → Int32 → Int32 → Int32 → Int32 → Int32 → Int32 → PG (Int32)), (∀ (v1 v2 v3 v4 v5 v6 v7 v8 v9 : Int32) (u : GS) (H : Heap) (locs : List Loc) (ls : Array Slot), lv_has ls 12 [(0, .ref (Q 72)), (1, .int v1), (2, .int v2), (3, .int v3), (4, .int v4), (5, .int v5), (6, .int v6), (7, .int v7), (8, .int v8), (9, .int v9)] → mH G Q u.1 s H locs → K44_125 v1 v2 v3 v4 v5 v6 v7 v8 v9 u = some ((r, u1)) → W p l e (headSpec (Cond.code yX13_bestPlace cX13_bestPlace 12 (some .int) :: wM) { frames := 1, cells := 0, slots := 0, locals := 13 }).room s m [.ref (Q 72), .int a0, .int a1, .int a2].toArray below meth c H locs 0 0 (MQ below (mQi G Q u1.1 r s.heap.size) [.ref (Q 72), .int a0, .int a1, .int a2].toArray s 0 0 (mA Q s.heap.size)) (F0 m 125 ls [])) → ∀ (n44 : Nat) (v1 v2 v3 v4 v5 v6 v7 v8 v9 : Int32) (u : GS) (H : Heap) (locs : List Loc) (ls : Array Slot), lv_has ls 12 [(0, .ref (Q 72)), (1, .int v1), (2, .int v2), (3, .int v3), (4, .int v4), (5, .int v5), (6, .int v6), (7, .int v7), (8, .int v8), (9, .int v9)] → mH G Q u.1 s H locs → lp_bestPlace_44 n44 v1 v2 v3 v4 v5 v6 v7 v8 v9 K44_125 u = some ((r, u1)) → W p l e (headSpec (Cond.code yX13_bestPlace cX13_bestPlace 12 (some .int) :: wM) { frames := 1, cells := 0, slots := 0, locals := 13 }).room s m [.ref (Q 72), .int a0, .int a1, .int a2].toArray below meth c H locs 0 0 (MQ below (mQi G Q u1.1 r s.heap.size) [.ref (Q 72), .int a0, .int a1, .int a2].toArray s 0 0 (mA Q s.heap.size)) (F0 m 44 ls []) := by
            intro K44_125 hK44_125 n44
            induction n44 with
            | zero => intro v1 v2 v3 v4 v5 v6 v7 v8 v9 u H locs ls hl hH hF; cases hF
            | succ n44 ih44 =>
              intro v1 v2 v3 v4 v5 v6 v7 v8 v9 u H locs ls hl hH hF
              unfold lp_bestPlace_44 at hF
              refine lv_iload hx hb dX13_bestPlace_44 (lv_at hl 9 rfl) ?_
              refine lv_iload_n hx hb dX13_bestPlace_46 rfl (lv_at hl 3 rfl) ?_
              refine lv_icmp_ge (tgt := 125) hx hb dX13_bestPlace_47 (by decide) (fun c_9 => ?_) (fun c_9 => ?_)
              · rw [if_pos c_9] at hF
                exact hK44_125 v1 v2 v3 v4 v5 v6 v7 v8 v9 u _ _ _ (lv_sub hl [0, 1, 2, 3, 4, 5, 6, 7, 8, 9] rfl) hH hF
              · rw [if_neg c_9] at hF
                refine lv_aload_n hx hb dX13_bestPlace_50 rfl (lv_at hl 0 rfl) ?_
                refine mg_14 hC hH dX13_bestPlace_51 ?_
                refine lv_bipush (v := 32) hx hb dX13_bestPlace_54 (by decide) ?_
                refine lv_iload_n hx hb dX13_bestPlace_56 rfl (lv_at hl 1 rfl) ?_
                refine lv_imul hx hb dX13_bestPlace_57 ?_
                refine lv_iload hx hb dX13_bestPlace_58 (lv_at hl 9 rfl) ?_
                refine lv_iadd hx hb dX13_bestPlace_60 ?_
                obtain ⟨x_10, g_11, e_12, hF⟩ := prd_some hF
                refine ml_14 hC hH g_11 dX13_bestPlace_61 ?_
                refine gx_ti e_12 ?_
                refine lv_istore (lv' := [(10, .int x_10), (0, .ref (Q 72)), (1, .int v1), (2, .int v2), (3, .int v3), (4, .int v4), (5, .int v5), (6, .int v6), (7, .int v7), (8, .int v8), (9, .int v9)]) hx hb dX13_bestPlace_62 hl (by decide) rfl (fun ls hl => ?_)
                refine lv_iload hx hb dX13_bestPlace_64 (lv_at hl 0 rfl) ?_
                refine lv_iconst (v := (-1)) hx hb dX13_bestPlace_66 (by decide) ?_
                refine lv_icmp_eq (tgt := 119) hx hb dX13_bestPlace_67 (by decide) (fun c_13 => ?_) (fun c_13 => ?_)
                · rw [if_pos c_13] at hF
                  obtain ⟨x_14, e_15, hF⟩ := pli_some hF
                  refine lv_iinc (v := x_14) (lv' := [(9, .int x_14), (10, .int x_10), (0, .ref (Q 72)), (1, .int v1), (2, .int v2), (3, .int v3), (4, .int v4), (5, .int v5), (6, .int v6), (7, .int v7), (8, .int v8)]) hx hb dX13_bestPlace_119 hl (k := 10) rfl e_15 (by decide) rfl (fun ls hl => ?_)
                  refine lv_goto (tgt := 44) hx hb dX13_bestPlace_122 (by decide) ?_
                  exact ih44 v1 v2 v3 v4 v5 v6 v7 v8 x_14 u _ _ _ (lv_sub hl [2, 3, 4, 5, 6, 7, 8, 9, 10, 0] rfl) hH hF
                · rw [if_neg c_13] at hF
                  refine lv_aload_n hx hb dX13_bestPlace_70 rfl (lv_at hl 1 rfl) ?_
                  refine mg_6 hC hH dX13_bestPlace_71 ?_
                  refine lv_iload hx hb dX13_bestPlace_74 (lv_at hl 0 rfl) ?_
                  obtain ⟨x_16, g_17, e_18, hF⟩ := prd_some hF
                  refine ml_6 hC hH g_17 dX13_bestPlace_76 ?_
                  refine gx_ti e_18 ?_
                  refine lv_iload_n hx hb dX13_bestPlace_77 rfl (lv_at hl 3 rfl) ?_
                  refine lv_icmp_eq (tgt := 84) hx hb dX13_bestPlace_78 (by decide) (fun c_19 => ?_) (fun c_19 => ?_)
                  · rw [if_pos c_19] at hF
                    refine lv_iconst (v := 0) hx hb dX13_bestPlace_84 (by decide) ?_
                    refine lv_istore (lv' := [(11, .int 0), (10, .int x_10), (0, .ref (Q 72)), (1, .int v1), (2, .int v2), (3, .int v3), (4, .int v4), (5, .int v5), (6, .int v6), (7, .int v7), (8, .int v8), (9, .int v9)]) hx hb dX13_bestPlace_85 hl (by decide) rfl (fun ls hl => ?_)
                    have hL87 : ∀ (K87_110 : Int32 → Int32 → Int32 → Int32 → Int32 → Int32 → Int32 → Int32 → Int32 → Int32 → Int32 → PG (Int32)), (∀ (v1 v2 v3 v4 v5 v6 v7 v8 v9 v10 v11 : Int32) (u : GS) (H : Heap) (locs : List Loc) (ls : Array Slot), lv_has ls 12 [(0, .ref (Q 72)), (1, .int v1), (2, .int v2), (3, .int v3), (4, .int v4), (5, .int v5), (6, .int v6), (7, .int v7), (8, .int v8), (9, .int v9), (10, .int v10), (11, .int v11)] → mH G Q u.1 s H locs → K87_110 v1 v2 v3 v4 v5 v6 v7 v8 v9 v10 v11 u = some ((r, u1)) → W p l e (headSpec (Cond.code yX13_bestPlace cX13_bestPlace 12 (some .int) :: wM) { frames := 1, cells := 0, slots := 0, locals := 13 }).room s m [.ref (Q 72), .int a0, .int a1, .int a2].toArray below meth c H locs 0 0 (MQ below (mQi G Q u1.1 r s.heap.size) [.ref (Q 72), .int a0, .int a1, .int a2].toArray s 0 0 (mA Q s.heap.size)) (F0 m 110 ls [])) → ∀ (n87 : Nat) (v1 v2 v3 v4 v5 v6 v7 v8 v9 v10 v11 : Int32) (u : GS) (H : Heap) (locs : List Loc) (ls : Array Slot), lv_has ls 12 [(0, .ref (Q 72)), (1, .int v1), (2, .int v2), (3, .int v3), (4, .int v4), (5, .int v5), (6, .int v6), (7, .int v7), (8, .int v8), (9, .int v9), (10, .int v10), (11, .int v11)] → mH G Q u.1 s H locs → lp_bestPlace_87 n87 v1 v2 v3 v4 v5 v6 v7 v8 v9 v10 v11 K87_110 u = some ((r, u1)) → W p l e (headSpec (Cond.code yX13_bestPlace cX13_bestPlace 12 (some .int) :: wM) { frames := 1, cells := 0, slots := 0, locals := 13 }).room s m [.ref (Q 72), .int a0, .int a1, .int a2].toArray below meth c H locs 0 0 (MQ below (mQi G Q u1.1 r s.heap.size) [.ref (Q 72), .int a0, .int a1, .int a2].toArray s 0 0 (mA Q s.heap.size)) (F0 m 87 ls []) := by
                      intro K87_110 hK87_110 n87
                      induction n87 with
                      | zero => intro v1 v2 v3 v4 v5 v6 v7 v8 v9 v10 v11 u H locs ls hl hH hF; cases hF
                      | succ n87 ih87 =>
                        intro v1 v2 v3 v4 v5 v6 v7 v8 v9 v10 v11 u H locs ls hl hH hF
                        unfold lp_bestPlace_87 at hF
                        refine lv_iload hx hb dX13_bestPlace_87 (lv_at hl 7 rfl) ?_
                        refine lv_iload hx hb dX13_bestPlace_89 (lv_at hl 11 rfl) ?_
                        refine lv_iconst (v := 1) hx hb dX13_bestPlace_91 (by decide) ?_
                        refine lv_iadd hx hb dX13_bestPlace_92 ?_
                        refine lv_ishr hx hb dX13_bestPlace_93 ?_
                        refine lv_iload hx hb dX13_bestPlace_94 (lv_at hl 9 rfl) ?_
                        refine lv_iload hx hb dX13_bestPlace_96 (lv_at hl 11 rfl) ?_
                        refine lv_iconst (v := 1) hx hb dX13_bestPlace_98 (by decide) ?_
                        refine lv_iadd hx hb dX13_bestPlace_99 ?_
                        refine lv_ishr hx hb dX13_bestPlace_100 ?_
                        refine lv_icmp_eq (tgt := 110) hx hb dX13_bestPlace_101 (by decide) (fun c_20 => ?_) (fun c_20 => ?_)
                        · rw [if_pos c_20] at hF
                          exact hK87_110 v1 v2 v3 v4 v5 v6 v7 v8 v9 v10 v11 u _ _ _ (lv_sub hl [0, 1, 2, 3, 4, 5, 6, 7, 8, 9, 10, 11] rfl) hH hF
                        · rw [if_neg c_20] at hF
                          obtain ⟨x_21, e_22, hF⟩ := pli_some hF
                          refine lv_iinc (v := x_21) (lv' := [(11, .int x_21), (0, .ref (Q 72)), (1, .int v1), (2, .int v2), (3, .int v3), (4, .int v4), (5, .int v5), (6, .int v6), (7, .int v7), (8, .int v8), (9, .int v9), (10, .int v10)]) hx hb dX13_bestPlace_104 hl (k := 11) rfl e_22 (by decide) rfl (fun ls hl => ?_)
                          refine lv_goto (tgt := 87) hx hb dX13_bestPlace_107 (by decide) ?_
                          exact ih87 v1 v2 v3 v4 v5 v6 v7 v8 v9 v10 x_21 u _ _ _ (lv_sub hl [1, 2, 3, 4, 5, 6, 7, 8, 9, 10, 11, 0] rfl) hH hF
                    refine hL87 _ (fun v1 v2 v3 v4 v5 v6 v7 v8 v9 v10 v11 u H locs ls hl hH hF => ?_) fuel v1 v2 v3 v4 v5 v6 v7 v8 v9 x_10 0 u _ _ _ (lv_sub hl [2, 3, 4, 5, 6, 7, 8, 9, 10, 11, 1, 0] rfl) hH hF
                    refine lv_iload hx hb dX13_bestPlace_110 (lv_at hl 8 rfl) ?_
                    refine lv_iload hx hb dX13_bestPlace_112 (lv_at hl 11 rfl) ?_
                    refine va_mmin hx hb (hC.2.2.1.trans hl.1.symm) hC.2.2.2.1 (hC.2.2.2.2.1 _ wma116) (hC.2.2.2.2.1 _ wma377) (hC.2.2.2.2.1 _ wma378) (hC.2.2.2.2.1 _ wma380) (Nat.le_of_ble_eq_true rfl) (Nat.le_of_ble_eq_true rfl) (Nat.le_of_ble_eq_true rfl) (Nat.le_of_ble_eq_true rfl) dX13_bestPlace_114 ?_
                    obtain ⟨x_23, e_24, hF⟩ := pli_some hF
                    refine gx_ti e_24 ?_
                    refine lv_istore (lv' := [(8, .int x_23), (0, .ref (Q 72)), (1, .int v1), (2, .int v2), (3, .int v3), (4, .int v4), (5, .int v5), (6, .int v6), (7, .int v7), (9, .int v9), (10, .int v10), (11, .int v11)]) hx hb dX13_bestPlace_117 hl (by decide) rfl (fun ls hl => ?_)
                    obtain ⟨x_25, e_26, hF⟩ := pli_some hF
                    refine lv_iinc (v := x_25) (lv' := [(9, .int x_25), (8, .int x_23), (0, .ref (Q 72)), (1, .int v1), (2, .int v2), (3, .int v3), (4, .int v4), (5, .int v5), (6, .int v6), (7, .int v7), (10, .int v10), (11, .int v11)]) hx hb dX13_bestPlace_119 hl (k := 9) rfl e_26 (by decide) rfl (fun ls hl => ?_)
                    refine lv_goto (tgt := 44) hx hb dX13_bestPlace_122 (by decide) ?_
                    exact ih44 v1 v2 v3 v4 v5 v6 v7 x_23 x_25 u _ _ _ (lv_sub hl [2, 3, 4, 5, 6, 7, 8, 9, 1, 0] rfl) hH hF
                  · rw [if_neg c_19] at hF
                    refine lv_goto (tgt := 119) hx hb dX13_bestPlace_81 (by decide) ?_
                    obtain ⟨x_27, e_28, hF⟩ := pli_some hF
                    refine lv_iinc (v := x_27) (lv' := [(9, .int x_27), (10, .int x_10), (0, .ref (Q 72)), (1, .int v1), (2, .int v2), (3, .int v3), (4, .int v4), (5, .int v5), (6, .int v6), (7, .int v7), (8, .int v8)]) hx hb dX13_bestPlace_119 hl (k := 10) rfl e_28 (by decide) rfl (fun ls hl => ?_)
                    refine lv_goto (tgt := 44) hx hb dX13_bestPlace_122 (by decide) ?_
                    exact ih44 v1 v2 v3 v4 v5 v6 v7 v8 x_27 u _ _ _ (lv_sub hl [2, 3, 4, 5, 6, 7, 8, 9, 10, 0] rfl) hH hF
          refine hL44 _ (fun v1 v2 v3 v4 v5 v6 v7 v8 v9 u H locs ls hl hH hF => ?_) fuel v1 v2 v3 v4 v5 v6 x_2 99 0 u _ _ _ (lv_sub hl [3, 4, 5, 6, 7, 8, 9, 2, 1, 0] rfl) hH hF
          refine lv_iload hx hb dX13_bestPlace_125 (lv_at hl 8 rfl) ?_
          refine lv_iload hx hb dX13_bestPlace_127 (lv_at hl 5 rfl) ?_
          refine lv_icmp_gt (tgt := 135) hx hb dX13_bestPlace_129 (by decide) (fun c_29 => ?_) (fun c_29 => ?_)
          · rw [if_pos c_29] at hF
            refine lv_iload hx hb dX13_bestPlace_135 (lv_at hl 8 rfl) ?_
            refine lv_istore (lv' := [(5, .int v8), (0, .ref (Q 72)), (1, .int v1), (2, .int v2), (3, .int v3), (4, .int v4), (6, .int v6), (7, .int v7), (8, .int v8), (9, .int v9)]) hx hb dX13_bestPlace_137 hl (by decide) rfl (fun ls hl => ?_)
            refine lv_iload hx hb dX13_bestPlace_139 (lv_at hl 7 rfl) ?_
            refine lv_istore (lv' := [(4, .int v7), (5, .int v8), (0, .ref (Q 72)), (1, .int v1), (2, .int v2), (3, .int v3), (6, .int v6), (7, .int v7), (8, .int v8), (9, .int v9)]) hx hb dX13_bestPlace_141 hl (by decide) rfl (fun ls hl => ?_)
            obtain ⟨x_30, e_31, hF⟩ := pli_some hF
            refine lv_iinc (v := x_30) (lv' := [(6, .int x_30), (4, .int v7), (5, .int v8), (0, .ref (Q 72)), (1, .int v1), (2, .int v2), (3, .int v3), (7, .int v7), (8, .int v8), (9, .int v9)]) hx hb dX13_bestPlace_143 hl (k := 6) rfl e_31 (by decide) rfl (fun ls hl => ?_)
            refine lv_goto (tgt := 9) hx hb dX13_bestPlace_146 (by decide) ?_
            exact ih9 v1 v2 v3 v7 v8 x_30 u _ _ _ (lv_sub hl [3, 4, 5, 6, 1, 2, 0] rfl) hH hF
          · rw [if_neg c_29] at hF
            refine lv_goto (tgt := 143) hx hb dX13_bestPlace_132 (by decide) ?_
            obtain ⟨x_32, e_33, hF⟩ := pli_some hF
            refine lv_iinc (v := x_32) (lv' := [(6, .int x_32), (0, .ref (Q 72)), (1, .int v1), (2, .int v2), (3, .int v3), (4, .int v4), (5, .int v5), (7, .int v7), (8, .int v8), (9, .int v9)]) hx hb dX13_bestPlace_143 hl (k := 6) rfl e_33 (by decide) rfl (fun ls hl => ?_)
            refine lv_goto (tgt := 9) hx hb dX13_bestPlace_146 (by decide) ?_
            exact ih9 v1 v2 v3 v4 v5 x_32 u _ _ _ (lv_sub hl [1, 2, 3, 4, 5, 6, 0] rfl) hH hF
        · rw [if_neg c_8] at hF
          refine lv_goto (tgt := 143) hx hb dX13_bestPlace_34 (by decide) ?_
          obtain ⟨x_34, e_35, hF⟩ := pli_some hF
          refine lv_iinc (v := x_34) (lv' := [(6, .int x_34), (7, .int x_2), (0, .ref (Q 72)), (1, .int v1), (2, .int v2), (3, .int v3), (4, .int v4), (5, .int v5)]) hx hb dX13_bestPlace_143 hl (k := 7) rfl e_35 (by decide) rfl (fun ls hl => ?_)
          refine lv_goto (tgt := 9) hx hb dX13_bestPlace_146 (by decide) ?_
          exact ih9 v1 v2 v3 v4 v5 x_34 u _ _ _ (lv_sub hl [2, 3, 4, 5, 6, 7, 0] rfl) hH hF
  refine hL9 _ (fun v1 v2 v3 v4 v5 v6 u H locs ls hl hH hF => ?_) fuel a0 a1 a2 (-1) (-1) 0 u _ _ _ (lv_sub hl [3, 4, 5, 6, 2, 1, 0] rfl) hH hF
  refine lv_iload hx hb dX13_bestPlace_149 (lv_at hl 4 rfl) ?_
  have hF := prt_eq hF
  exact mr_i hC hH hr hF dX13_bestPlace_151 hlocks
def lp_draws_150 : Nat → Int32 → Int32 → Int32 → (Int32 → Int32 → Int32 → PG (Int32)) → PG (Int32)
  | 0, _, _, _, _ => fun _ => none
  | n150 + 1, v1, v2, v3, K150_185 => prd 13 4 v1 (fun x_19 => (if x_19 ≤ v3 then K150_185 v1 v2 v3 else pwd 14 128 ((32 * v1) + v3) (-1) (pwd 60 32 v3 (vp_nar .boolean 0) (pli (v3 + 1) (fun x_29 => lp_draws_150 n150 v1 v2 x_29 K150_185)))))
def lp_draws_187 : Nat → Int32 → Int32 → Int32 → (Int32 → Int32 → Int32 → PG (Int32)) → PG (Int32)
  | 0, _, _, _, _ => fun _ => none
  | n187 + 1, v1, v2, v3, K187_215 => prd 13 4 v1 (fun x_31 => (if x_31 ≤ v3 then K187_215 v1 v2 v3 else prd 57 32 v3 (fun x_35 => pwd 60 32 x_35 (vp_nar .boolean 1) (pli (v3 + 1) (fun x_41 => lp_draws_187 n187 v1 v2 x_41 K187_215)))))
def lp_draws_230 : Nat → Int32 → Int32 → Int32 → Int32 → Int32 → (Int32 → Int32 → Int32 → Int32 → Int32 → PG (Int32)) → PG (Int32)
  | 0, _, _, _, _, _, _ => fun _ => none
  | n230 + 1, v1, v2, v3, v4, v5, K230_298 => prf 2 (fun x_44 => (if x_44 ≤ v5 then K230_298 v1 v2 v3 v4 v5 else prd 5 96 v5 (fun x_47 => (if x_47 = v1 then prd 8 96 v5 (fun x_53 => (if x_53 = 1 then prd 9 96 v5 (fun x_59 => (if x_59 = v4 then prd 57 32 v3 (fun x_63 => pcl (f_settle v1 v5 x_63) (fun r_66 => pli (v3 + 1) (fun x_69 => pli (v5 + 1) (fun x_71 => lp_draws_230 n230 v1 v2 x_69 v4 x_71 K230_298)))) else pli (v5 + 1) (fun x_73 => lp_draws_230 n230 v1 v2 v3 v4 x_73 K230_298))) else pli (v5 + 1) (fun x_57 => lp_draws_230 n230 v1 v2 v3 v4 x_57 K230_298))) else pli (v5 + 1) (fun x_51 => lp_draws_230 n230 v1 v2 v3 v4 x_51 K230_298)))))
def lp_draws_220 : Nat → Int32 → Int32 → Int32 → Int32 → (Int32 → Int32 → Int32 → Int32 → PG (Int32)) → PG (Int32)
  | 0, _, _, _, _, _ => fun _ => none
  | n220 + 1, v1, v2, v3, v4, K220_304 => (if 8 < v4 then K220_304 v1 v2 v3 v4 else lp_draws_230 fuel v1 v2 v3 v4 0 (fun v1 v2 v3 v4 v5 => pli (v4 + 1) (fun x_75 => lp_draws_220 n220 v1 v2 v3 x_75 K220_304)))
def lp_draws_307 : Nat → Int32 → Int32 → Int32 → Int32 → (Int32 → Int32 → Int32 → Int32 → PG (Int32)) → PG (Int32)
  | 0, _, _, _, _, _ => fun _ => none
  | n307 + 1, v1, v2, v3, v4, K307_328 => (if 16 ≤ v4 then K307_328 v1 v2 v3 v4 else pwd 59 16 v4 0 (pli (v4 + 1) (fun x_81 => lp_draws_307 n307 v1 v2 v3 x_81 K307_328)))
def lp_draws_331 : Nat → Int32 → Int32 → Int32 → Int32 → (Int32 → Int32 → Int32 → Int32 → PG (Int32)) → PG (Int32)
  | 0, _, _, _, _, _ => fun _ => none
  | n331 + 1, v1, v2, v3, v4, K331_372 => prf 2 (fun x_83 => (if x_83 ≤ v4 then K331_372 v1 v2 v3 v4 else pcl (f_isOther v1 v4) (fun r_86 => (if r_86 = 0 then pli (v4 + 1) (fun x_90 => lp_draws_331 n331 v1 v2 v3 x_90 K331_372) else prd 6 96 v4 (fun x_92 => prd 59 16 x_92 (fun x_95 => pwd 59 16 x_92 (x_95 + 1) (pli (v4 + 1) (fun x_101 => lp_draws_331 n331 v1 v2 v3 x_101 K331_372))))))))
def lp_draws_388 : Nat → Int32 → Int32 → Int32 → Int32 → Int32 → Int32 → (Int32 → Int32 → Int32 → Int32 → Int32 → Int32 → PG (Int32)) → PG (Int32)
  | 0, _, _, _, _, _, _, _ => fun _ => none
  | n388 + 1, v1, v2, v3, v4, v5, v6, K388_422 => (if 16 ≤ v6 then K388_422 v1 v2 v3 v4 v5 v6 else prd 59 16 v6 (fun x_105 => prd 59 16 v5 (fun x_108 => (if x_105 ≤ x_108 then pli (v6 + 1) (fun x_112 => lp_draws_388 n388 v1 v2 v3 v4 v5 x_112 K388_422) else pli (v6 + 1) (fun x_114 => lp_draws_388 n388 v1 v2 v3 v4 v6 x_114 K388_422)))))
def lp_draws_425 : Nat → Int32 → Int32 → Int32 → Int32 → Int32 → Int32 → (Int32 → Int32 → Int32 → Int32 → Int32 → Int32 → PG (Int32)) → PG (Int32)
  | 0, _, _, _, _, _, _, _ => fun _ => none
  | n425 + 1, v1, v2, v3, v4, v5, v6, K425_482 => prf 2 (fun x_116 => (if x_116 ≤ v6 then K425_482 v1 v2 v3 v4 v5 v6 else prd 6 96 v6 (fun x_119 => (if x_119 = v5 then pcl (f_isOther v1 v6) (fun r_125 => (if r_125 = 0 then pli (v6 + 1) (fun x_129 => lp_draws_425 n425 v1 v2 v3 v4 v5 x_129 K425_482) else prd 13 4 v1 (fun x_131 => pcl (f_bestPlace v1 v5 x_131) (fun r_134 => pcl (f_settle v1 v6 r_134) (fun r_137 => pli (v6 + 1) (fun x_140 => lp_draws_425 n425 v1 v2 v3 v4 v5 x_140 K425_482)))))) else pli (v6 + 1) (fun x_123 => lp_draws_425 n425 v1 v2 v3 v4 v5 x_123 K425_482)))))
def lp_draws_375 : Nat → Int32 → Int32 → Int32 → Int32 → (Int32 → Int32 → Int32 → Int32 → PG (Int32)) → PG (Int32)
  | 0, _, _, _, _, _ => fun _ => none
  | n375 + 1, v1, v2, v3, v4, K375_496 => (if 16 ≤ v4 then K375_496 v1 v2 v3 v4 else lp_draws_388 fuel v1 v2 v3 v4 0 1 (fun v1 v2 v3 v4 v5 v6 => lp_draws_425 fuel v1 v2 v3 v4 v5 0 (fun v1 v2 v3 v4 v5 v6 => pwd 59 16 v5 (-1) (pli (v4 + 1) (fun x_145 => lp_draws_375 n375 v1 v2 v3 x_145 K375_496)))))
def lp_draws_31 : Nat → Int32 → Int32 → Int32 → Int32 → (Int32 → Int32 → Int32 → Int32 → PG (Int32)) → PG (Int32)
  | 0, _, _, _, _, _ => fun _ => none
  | n31 + 1, v1, v2, v3, v4, K31_95 => prf 2 (fun x_436 => (if x_436 ≤ v4 then K31_95 v1 v2 v3 v4 else prd 5 96 v4 (fun x_439 => (if x_439 = v1 then prd 8 96 v4 (fun x_445 => (if x_445 = 1 then pwd 14 128 ((32 * v1) + v3) v4 (pwd 10 96 v4 v3 (pli (v3 + 1) (fun x_455 => pli (v4 + 1) (fun x_457 => lp_draws_31 n31 v1 v2 x_455 x_457 K31_95)))) else pli (v4 + 1) (fun x_459 => lp_draws_31 n31 v1 v2 v3 x_459 K31_95))) else pli (v4 + 1) (fun x_443 => lp_draws_31 n31 v1 v2 v3 x_443 K31_95)))))
def f_draws (a0 : Int32) : PG (Int32) := pcl (f_weighed a0) (fun r_1 => (if 6 ≤ r_1 then pwd 12 4 a0 2 ((if r_1 ≤ 16 then (if r_1 ≤ 8 then pwd 13 4 a0 8 (prd 13 4 a0 (fun x_13 => pcl (f_makeRow x_13) (fun r_16 => lp_draws_150 fuel a0 r_1 0 (fun v1 v2 v3 => lp_draws_187 fuel v1 v2 v2 (fun v1 v2 v3 => lp_draws_220 fuel v1 v2 0 1 (fun v1 v2 v3 v4 => lp_draws_307 fuel v1 v2 v3 0 (fun v1 v2 v3 v4 => lp_draws_331 fuel v1 v2 v3 0 (fun v1 v2 v3 v4 => lp_draws_375 fuel v1 v2 v3 0 (fun v1 v2 v3 v4 => pcl (f_fights v1) (fun r_147 => prt r_147)))))))))) else pwd 13 4 a0 16 (prd 13 4 a0 (fun x_153 => pcl (f_makeRow x_153) (fun r_156 => lp_draws_150 fuel a0 r_1 0 (fun v1 v2 v3 => lp_draws_187 fuel v1 v2 v2 (fun v1 v2 v3 => lp_draws_220 fuel v1 v2 0 1 (fun v1 v2 v3 v4 => lp_draws_307 fuel v1 v2 v3 0 (fun v1 v2 v3 v4 => lp_draws_331 fuel v1 v2 v3 0 (fun v1 v2 v3 v4 => lp_draws_375 fuel v1 v2 v3 0 (fun v1 v2 v3 v4 => pcl (f_fights v1) (fun r_287 => prt r_287))))))))))) else pwd 13 4 a0 32 (prd 13 4 a0 (fun x_293 => pcl (f_makeRow x_293) (fun r_296 => lp_draws_150 fuel a0 r_1 0 (fun v1 v2 v3 => lp_draws_187 fuel v1 v2 v2 (fun v1 v2 v3 => lp_draws_220 fuel v1 v2 0 1 (fun v1 v2 v3 v4 => lp_draws_307 fuel v1 v2 v3 0 (fun v1 v2 v3 v4 => lp_draws_331 fuel v1 v2 v3 0 (fun v1 v2 v3 v4 => lp_draws_375 fuel v1 v2 v3 0 (fun v1 v2 v3 v4 => pcl (f_fights v1) (fun r_427 => prt r_427)))))))))))) else pwd 12 4 a0 1 (pwd 13 4 a0 r_1 (lp_draws_31 fuel a0 r_1 0 0 (fun v1 v2 v3 v4 => pcl (f_fights v1) (fun r_461 => prt r_461))))))
set_option maxHeartbeats 4000000 in
set_option maxRecDepth 100000 in
theorem m_draws (l : Launch) (G : gG) (Z : gM) (Q : Nat → Nat) (u u1 : GS) (r : Int32) (a0 : Int32) (sz : Nat) (hF : f_draws a0 u = some (r, u1)) : Met l yX13_draws (Cond.code yX13_draws cX13_draws 7 (some .int) :: wM) { frames := 3, cells := 0, slots := 0, locals := 65 } (va_Pc [.ref (Q 72), .int a0] (mPM G Z Q u.1 sz)) (mQi G Q u1.1 r sz) 0 0 (mA Q sz) := by
  refine Met.ofW (cc := cX13_draws) (maxL := 7) (ret := (some .int)) (by decide) rfl ?_
  intro p e s m args below meth c s₁ B hml hv
  obtain ⟨rfl, rfl, hP, hB, hD, hE⟩ := hv
  have hr := B.returns
  have hlocks := B.notSynchronized
  have hts := atoms_spec (ws := Cond.code yX13_draws cX13_draws 7 (some .int) :: wM) B.pre
  have hC : mX p c cX13_draws 7 s m _ G Z Q := ⟨B.exec, B.bytes, hml, findClass_of_methodNamed B.named, fun w h => hts w (List.mem_cons_of_mem _ h), hB, hE⟩
  have hx := hC.1
  have hb := hC.2.1
  have hH : mH G Q u.1 s s.heap [] := ⟨hP, hD, va_S.rf⟩
  have hl := lv_entry ([.ref (Q 72), .int a0]) (n := 7) (Nat.le_of_ble_eq_true rfl)
  rw [lg_entry_eq]
  generalize (lg_sl ([.ref (Q 72), .int a0]) ++ List.replicate (7 - (lg_sl ([.ref (Q 72), .int a0])).length) Slot.unset).toArray = ls at hl ⊢
  have hl : lv_has ls 7 [(0, .ref (Q 72)), (1, .int a0)] := hl
  unfold f_draws at hF
  refine lv_aload_n hx hb dX13_draws_0 rfl (lv_at hl 0 rfl) ?_
  refine lv_iload_n hx hb dX13_draws_1 rfl (lv_at hl 1 rfl) ?_
  obtain ⟨r_1, u_2, h_3, hF⟩ := pcl_some hF
  refine mcV_i (As := [.int a0]) (rest := []) hC hH (m_weighed l G Z Q u u_2 r_1 a0 _ h_3) kwX13_weighed kVX13_weighed ⟨Nat.le_of_ble_eq_true rfl, Nat.le_of_ble_eq_true rfl⟩ rfl hl.1 rfl (Nat.le_of_ble_eq_true rfl) dX13_draws_2 (fun H locs hH => ?_)
  refine lv_istore_n (lv' := [(2, .int r_1), (0, .ref (Q 72)), (1, .int a0)]) hx hb dX13_draws_5 rfl hl (by decide) rfl (fun ls hl => ?_)
  refine lv_iload_n hx hb dX13_draws_6 rfl (lv_at hl 0 rfl) ?_
  refine lv_bipush (v := 6) hx hb dX13_draws_7 (by decide) ?_
  refine lv_icmp_ge (tgt := 101) hx hb dX13_draws_9 (by decide) (fun c_4 => ?_) (fun c_4 => ?_)
  · rw [if_pos c_4] at hF
    refine lv_aload_n hx hb dX13_draws_101 rfl (lv_at hl 1 rfl) ?_
    refine mg_12 hC hH dX13_draws_102 ?_
    refine lv_iload_n hx hb dX13_draws_105 rfl (lv_at hl 2 rfl) ?_
    refine lv_iconst (v := 2) hx hb dX13_draws_106 (by decide) ?_
    obtain ⟨u_6, g_5, e_7, hF⟩ := pwd_some hF
    refine ms_12 hC hH e_7 g_5 dX13_draws_107 (fun H locs hH => ?_)
    refine lv_aload_n hx hb dX13_draws_108 rfl (lv_at hl 1 rfl) ?_
    refine mg_13 hC hH dX13_draws_109 ?_
    refine lv_iload_n hx hb dX13_draws_112 rfl (lv_at hl 2 rfl) ?_
    refine lv_iload_n hx hb dX13_draws_113 rfl (lv_at hl 0 rfl) ?_
    refine lv_bipush (v := 16) hx hb dX13_draws_114 (by decide) ?_
    refine lv_icmp_le (tgt := 124) hx hb dX13_draws_116 (by decide) (fun c_8 => ?_) (fun c_8 => ?_)
    · rw [if_pos c_8] at hF
      refine lv_iload_n hx hb dX13_draws_124 rfl (lv_at hl 0 rfl) ?_
      refine lv_bipush (v := 8) hx hb dX13_draws_125 (by decide) ?_
      refine lv_icmp_le (tgt := 135) hx hb dX13_draws_127 (by decide) (fun c_9 => ?_) (fun c_9 => ?_)
      · rw [if_pos c_9] at hF
        refine lv_bipush (v := 8) hx hb dX13_draws_135 (by decide) ?_
        obtain ⟨u_11, g_10, e_12, hF⟩ := pwd_some hF
        refine ms_13 hC hH e_12 g_10 dX13_draws_137 (fun H locs hH => ?_)
        refine lv_aload_n hx hb dX13_draws_138 rfl (lv_at hl 1 rfl) ?_
        refine lv_aload_n hx hb dX13_draws_139 rfl (lv_at hl 1 rfl) ?_
        refine mg_13 hC hH dX13_draws_140 ?_
        refine lv_iload_n hx hb dX13_draws_143 rfl (lv_at hl 2 rfl) ?_
        obtain ⟨x_13, g_14, e_15, hF⟩ := prd_some hF
        refine ml_13 hC hH g_14 dX13_draws_144 ?_
        refine gx_ti e_15 ?_
        obtain ⟨r_16, u_17, h_18, hF⟩ := pcl_some hF
        refine mcV_v (As := [.int x_13]) (rest := []) hC hH (m_makeRow l G Z Q u_11 u_17 r_16 x_13 _ h_18) kwX13_makeRow kVX13_makeRow ⟨Nat.le_of_ble_eq_true rfl, Nat.le_of_ble_eq_true rfl⟩ rfl hl.1 rfl (Nat.le_of_ble_eq_true rfl) dX13_draws_145 (fun H locs hH => ?_)
        refine lv_iconst (v := 0) hx hb dX13_draws_148 (by decide) ?_
        refine lv_istore_n (lv' := [(3, .int 0), (2, .int r_1), (0, .ref (Q 72)), (1, .int a0)]) hx hb dX13_draws_149 rfl hl (by decide) rfl (fun ls hl => ?_)
        have hL150 : ∀ (K150_185 : Int32 → Int32 → Int32 → PG (Int32)), (∀ (v1 v2 v3 : Int32) (u : GS) (H : Heap) (locs : List Loc) (ls : Array Slot), lv_has ls 7 [(0, .ref (Q 72)), (1, .int v1), (2, .int v2), (3, .int v3)] → mH G Q u.1 s H locs → K150_185 v1 v2 v3 u = some ((r, u1)) → W p l e (headSpec (Cond.code yX13_draws cX13_draws 7 (some .int) :: wM) { frames := 3, cells := 0, slots := 0, locals := 65 }).room s m [.ref (Q 72), .int a0].toArray below meth c H locs 0 0 (MQ below (mQi G Q u1.1 r s.heap.size) [.ref (Q 72), .int a0].toArray s 0 0 (mA Q s.heap.size)) (F0 m 185 ls [])) → ∀ (n150 : Nat) (v1 v2 v3 : Int32) (u : GS) (H : Heap) (locs : List Loc) (ls : Array Slot), lv_has ls 7 [(0, .ref (Q 72)), (1, .int v1), (2, .int v2), (3, .int v3)] → mH G Q u.1 s H locs → lp_draws_150 n150 v1 v2 v3 K150_185 u = some ((r, u1)) → W p l e (headSpec (Cond.code yX13_draws cX13_draws 7 (some .int) :: wM) { frames := 3, cells := 0, slots := 0, locals := 65 }).room s m [.ref (Q 72), .int a0].toArray below meth c H locs 0 0 (MQ below (mQi G Q u1.1 r s.heap.size) [.ref (Q 72), .int a0].toArray s 0 0 (mA Q s.heap.size)) (F0 m 150 ls []) := by
          intro K150_185 hK150_185 n150
          induction n150 with
          | zero => intro v1 v2 v3 u H locs ls hl hH hF; cases hF
          | succ n150 ih150 =>
            intro v1 v2 v3 u H locs ls hl hH hF
            unfold lp_draws_150 at hF
            refine lv_iload_n hx hb dX13_draws_150 rfl (lv_at hl 3 rfl) ?_
            refine lv_aload_n hx hb dX13_draws_151 rfl (lv_at hl 0 rfl) ?_
            refine mg_13 hC hH dX13_draws_152 ?_
            refine lv_iload_n hx hb dX13_draws_155 rfl (lv_at hl 1 rfl) ?_
            obtain ⟨x_19, g_20, e_21, hF⟩ := prd_some hF
            refine ml_13 hC hH g_20 dX13_draws_156 ?_
            refine gx_ti e_21 ?_
            refine lv_icmp_ge (tgt := 185) hx hb dX13_draws_157 (by decide) (fun c_22 => ?_) (fun c_22 => ?_)
            · rw [if_pos c_22] at hF
              exact hK150_185 v1 v2 v3 u _ _ _ (lv_sub hl [0, 1, 2, 3] rfl) hH hF
            · rw [if_neg c_22] at hF
              refine lv_aload_n hx hb dX13_draws_160 rfl (lv_at hl 0 rfl) ?_
              refine mg_14 hC hH dX13_draws_161 ?_
              refine lv_bipush (v := 32) hx hb dX13_draws_164 (by decide) ?_
              refine lv_iload_n hx hb dX13_draws_166 rfl (lv_at hl 1 rfl) ?_
              refine lv_imul hx hb dX13_draws_167 ?_
              refine lv_iload_n hx hb dX13_draws_168 rfl (lv_at hl 3 rfl) ?_
              refine lv_iadd hx hb dX13_draws_169 ?_
              refine lv_iconst (v := (-1)) hx hb dX13_draws_170 (by decide) ?_
              obtain ⟨u_24, g_23, e_25, hF⟩ := pwd_some hF
              refine ms_14 hC hH e_25 g_23 dX13_draws_171 (fun H locs hH => ?_)
              refine lv_aload_n hx hb dX13_draws_172 rfl (lv_at hl 0 rfl) ?_
              refine mg_60 hC hH dX13_draws_173 ?_
              refine lv_iload_n hx hb dX13_draws_176 rfl (lv_at hl 3 rfl) ?_
              refine lv_iconst (v := 0) hx hb dX13_draws_177 (by decide) ?_
              obtain ⟨u_27, g_26, e_28, hF⟩ := pwd_some hF
              refine ms_60 hC hH e_28 g_26 dX13_draws_178 (fun H locs hH => ?_)
              obtain ⟨x_29, e_30, hF⟩ := pli_some hF
              refine lv_iinc (v := x_29) (lv' := [(3, .int x_29), (0, .ref (Q 72)), (1, .int v1), (2, .int v2)]) hx hb dX13_draws_179 hl (k := 3) rfl e_30 (by decide) rfl (fun ls hl => ?_)
              refine lv_goto (tgt := 150) hx hb dX13_draws_182 (by decide) ?_
              exact ih150 v1 v2 x_29 u_27 _ _ _ (lv_sub hl [1, 2, 3, 0] rfl) hH hF
        refine hL150 _ (fun v1 v2 v3 u H locs ls hl hH hF => ?_) fuel a0 r_1 0 u_17 _ _ _ (lv_sub hl [2, 3, 1, 0] rfl) hH hF
        refine lv_iload_n hx hb dX13_draws_185 rfl (lv_at hl 2 rfl) ?_
        refine lv_istore_n (lv' := [(3, .int v2), (0, .ref (Q 72)), (1, .int v1), (2, .int v2)]) hx hb dX13_draws_186 rfl hl (by decide) rfl (fun ls hl => ?_)
        have hL187 : ∀ (K187_215 : Int32 → Int32 → Int32 → PG (Int32)), (∀ (v1 v2 v3 : Int32) (u : GS) (H : Heap) (locs : List Loc) (ls : Array Slot), lv_has ls 7 [(0, .ref (Q 72)), (1, .int v1), (2, .int v2), (3, .int v3)] → mH G Q u.1 s H locs → K187_215 v1 v2 v3 u = some ((r, u1)) → W p l e (headSpec (Cond.code yX13_draws cX13_draws 7 (some .int) :: wM) { frames := 3, cells := 0, slots := 0, locals := 65 }).room s m [.ref (Q 72), .int a0].toArray below meth c H locs 0 0 (MQ below (mQi G Q u1.1 r s.heap.size) [.ref (Q 72), .int a0].toArray s 0 0 (mA Q s.heap.size)) (F0 m 215 ls [])) → ∀ (n187 : Nat) (v1 v2 v3 : Int32) (u : GS) (H : Heap) (locs : List Loc) (ls : Array Slot), lv_has ls 7 [(0, .ref (Q 72)), (1, .int v1), (2, .int v2), (3, .int v3)] → mH G Q u.1 s H locs → lp_draws_187 n187 v1 v2 v3 K187_215 u = some ((r, u1)) → W p l e (headSpec (Cond.code yX13_draws cX13_draws 7 (some .int) :: wM) { frames := 3, cells := 0, slots := 0, locals := 65 }).room s m [.ref (Q 72), .int a0].toArray below meth c H locs 0 0 (MQ below (mQi G Q u1.1 r s.heap.size) [.ref (Q 72), .int a0].toArray s 0 0 (mA Q s.heap.size)) (F0 m 187 ls []) := by
          intro K187_215 hK187_215 n187
          induction n187 with
          | zero => intro v1 v2 v3 u H locs ls hl hH hF; cases hF
          | succ n187 ih187 =>
            intro v1 v2 v3 u H locs ls hl hH hF
            unfold lp_draws_187 at hF
            refine lv_iload_n hx hb dX13_draws_187 rfl (lv_at hl 3 rfl) ?_
            refine lv_aload_n hx hb dX13_draws_188 rfl (lv_at hl 0 rfl) ?_
            refine mg_13 hC hH dX13_draws_189 ?_
            refine lv_iload_n hx hb dX13_draws_192 rfl (lv_at hl 1 rfl) ?_
            obtain ⟨x_31, g_32, e_33, hF⟩ := prd_some hF
            refine ml_13 hC hH g_32 dX13_draws_193 ?_
            refine gx_ti e_33 ?_
            refine lv_icmp_ge (tgt := 215) hx hb dX13_draws_194 (by decide) (fun c_34 => ?_) (fun c_34 => ?_)
            · rw [if_pos c_34] at hF
              exact hK187_215 v1 v2 v3 u _ _ _ (lv_sub hl [0, 1, 2, 3] rfl) hH hF
            · rw [if_neg c_34] at hF
              refine lv_aload_n hx hb dX13_draws_197 rfl (lv_at hl 0 rfl) ?_
              refine mg_60 hC hH dX13_draws_198 ?_
              refine lv_aload_n hx hb dX13_draws_201 rfl (lv_at hl 0 rfl) ?_
              refine mg_57 hC hH dX13_draws_202 ?_
              refine lv_iload_n hx hb dX13_draws_205 rfl (lv_at hl 3 rfl) ?_
              obtain ⟨x_35, g_36, e_37, hF⟩ := prd_some hF
              refine ml_57 hC hH g_36 dX13_draws_206 ?_
              refine gx_ti e_37 ?_
              refine lv_iconst (v := 1) hx hb dX13_draws_207 (by decide) ?_
              obtain ⟨u_39, g_38, e_40, hF⟩ := pwd_some hF
              refine ms_60 hC hH e_40 g_38 dX13_draws_208 (fun H locs hH => ?_)
              obtain ⟨x_41, e_42, hF⟩ := pli_some hF
              refine lv_iinc (v := x_41) (lv' := [(3, .int x_41), (0, .ref (Q 72)), (1, .int v1), (2, .int v2)]) hx hb dX13_draws_209 hl (k := 3) rfl e_42 (by decide) rfl (fun ls hl => ?_)
              refine lv_goto (tgt := 187) hx hb dX13_draws_212 (by decide) ?_
              exact ih187 v1 v2 x_41 u_39 _ _ _ (lv_sub hl [1, 2, 3, 0] rfl) hH hF
        refine hL187 _ (fun v1 v2 v3 u H locs ls hl hH hF => ?_) fuel v1 v2 v2 u _ _ _ (lv_sub hl [1, 2, 3, 0] rfl) hH hF
        refine lv_iconst (v := 0) hx hb dX13_draws_215 (by decide) ?_
        refine lv_istore_n (lv' := [(3, .int 0), (0, .ref (Q 72)), (1, .int v1), (2, .int v2)]) hx hb dX13_draws_216 rfl hl (by decide) rfl (fun ls hl => ?_)
        refine lv_iconst (v := 1) hx hb dX13_draws_217 (by decide) ?_
        refine lv_istore (lv' := [(4, .int 1), (3, .int 0), (0, .ref (Q 72)), (1, .int v1), (2, .int v2)]) hx hb dX13_draws_218 hl (by decide) rfl (fun ls hl => ?_)
        have hL220 : ∀ (K220_304 : Int32 → Int32 → Int32 → Int32 → PG (Int32)), (∀ (v1 v2 v3 v4 : Int32) (u : GS) (H : Heap) (locs : List Loc) (ls : Array Slot), lv_has ls 7 [(0, .ref (Q 72)), (1, .int v1), (2, .int v2), (3, .int v3), (4, .int v4)] → mH G Q u.1 s H locs → K220_304 v1 v2 v3 v4 u = some ((r, u1)) → W p l e (headSpec (Cond.code yX13_draws cX13_draws 7 (some .int) :: wM) { frames := 3, cells := 0, slots := 0, locals := 65 }).room s m [.ref (Q 72), .int a0].toArray below meth c H locs 0 0 (MQ below (mQi G Q u1.1 r s.heap.size) [.ref (Q 72), .int a0].toArray s 0 0 (mA Q s.heap.size)) (F0 m 304 ls [])) → ∀ (n220 : Nat) (v1 v2 v3 v4 : Int32) (u : GS) (H : Heap) (locs : List Loc) (ls : Array Slot), lv_has ls 7 [(0, .ref (Q 72)), (1, .int v1), (2, .int v2), (3, .int v3), (4, .int v4)] → mH G Q u.1 s H locs → lp_draws_220 n220 v1 v2 v3 v4 K220_304 u = some ((r, u1)) → W p l e (headSpec (Cond.code yX13_draws cX13_draws 7 (some .int) :: wM) { frames := 3, cells := 0, slots := 0, locals := 65 }).room s m [.ref (Q 72), .int a0].toArray below meth c H locs 0 0 (MQ below (mQi G Q u1.1 r s.heap.size) [.ref (Q 72), .int a0].toArray s 0 0 (mA Q s.heap.size)) (F0 m 220 ls []) := by
          intro K220_304 hK220_304 n220
          induction n220 with
          | zero => intro v1 v2 v3 v4 u H locs ls hl hH hF; cases hF
          | succ n220 ih220 =>
            intro v1 v2 v3 v4 u H locs ls hl hH hF
            unfold lp_draws_220 at hF
            refine lv_iload hx hb dX13_draws_220 (lv_at hl 4 rfl) ?_
            refine lv_bipush (v := 8) hx hb dX13_draws_222 (by decide) ?_
            refine lv_icmp_gt (tgt := 304) hx hb dX13_draws_224 (by decide) (fun c_43 => ?_) (fun c_43 => ?_)
            · rw [if_pos c_43] at hF
              exact hK220_304 v1 v2 v3 v4 u _ _ _ (lv_sub hl [0, 1, 2, 3, 4] rfl) hH hF
            · rw [if_neg c_43] at hF
              refine lv_iconst (v := 0) hx hb dX13_draws_227 (by decide) ?_
              refine lv_istore (lv' := [(5, .int 0), (0, .ref (Q 72)), (1, .int v1), (2, .int v2), (3, .int v3), (4, .int v4)]) hx hb dX13_draws_228 hl (by decide) rfl (fun ls hl => ?_)
              have hL230 : ∀ (K230_298 : Int32 → Int32 → Int32 → Int32 → Int32 → PG (Int32)), (∀ (v1 v2 v3 v4 v5 : Int32) (u : GS) (H : Heap) (locs : List Loc) (ls : Array Slot), lv_has ls 7 [(0, .ref (Q 72)), (1, .int v1), (2, .int v2), (3, .int v3), (4, .int v4), (5, .int v5)] → mH G Q u.1 s H locs → K230_298 v1 v2 v3 v4 v5 u = some ((r, u1)) → W p l e (headSpec (Cond.code yX13_draws cX13_draws 7 (some .int) :: wM) { frames := 3, cells := 0, slots := 0, locals := 65 }).room s m [.ref (Q 72), .int a0].toArray below meth c H locs 0 0 (MQ below (mQi G Q u1.1 r s.heap.size) [.ref (Q 72), .int a0].toArray s 0 0 (mA Q s.heap.size)) (F0 m 298 ls [])) → ∀ (n230 : Nat) (v1 v2 v3 v4 v5 : Int32) (u : GS) (H : Heap) (locs : List Loc) (ls : Array Slot), lv_has ls 7 [(0, .ref (Q 72)), (1, .int v1), (2, .int v2), (3, .int v3), (4, .int v4), (5, .int v5)] → mH G Q u.1 s H locs → lp_draws_230 n230 v1 v2 v3 v4 v5 K230_298 u = some ((r, u1)) → W p l e (headSpec (Cond.code yX13_draws cX13_draws 7 (some .int) :: wM) { frames := 3, cells := 0, slots := 0, locals := 65 }).room s m [.ref (Q 72), .int a0].toArray below meth c H locs 0 0 (MQ below (mQi G Q u1.1 r s.heap.size) [.ref (Q 72), .int a0].toArray s 0 0 (mA Q s.heap.size)) (F0 m 230 ls []) := by
                intro K230_298 hK230_298 n230
                induction n230 with
                | zero => intro v1 v2 v3 v4 v5 u H locs ls hl hH hF; cases hF
                | succ n230 ih230 =>
                  intro v1 v2 v3 v4 v5 u H locs ls hl hH hF
                  unfold lp_draws_230 at hF
                  refine lv_iload hx hb dX13_draws_230 (lv_at hl 5 rfl) ?_
                  refine lv_aload_n hx hb dX13_draws_232 rfl (lv_at hl 0 rfl) ?_
                  refine mg_2 hC hH dX13_draws_233 ?_
                  obtain ⟨x_44, e_45, hF⟩ := prf_some hF
                  refine gx_ti e_45 ?_
                  refine lv_icmp_ge (tgt := 298) hx hb dX13_draws_236 (by decide) (fun c_46 => ?_) (fun c_46 => ?_)
                  · rw [if_pos c_46] at hF
                    exact hK230_298 v1 v2 v3 v4 v5 u _ _ _ (lv_sub hl [0, 1, 2, 3, 4, 5] rfl) hH hF
                  · rw [if_neg c_46] at hF
                    refine lv_aload_n hx hb dX13_draws_239 rfl (lv_at hl 0 rfl) ?_
                    refine mg_5 hC hH dX13_draws_240 ?_
                    refine lv_iload hx hb dX13_draws_243 (lv_at hl 5 rfl) ?_
                    obtain ⟨x_47, g_48, e_49, hF⟩ := prd_some hF
                    refine ml_5 hC hH g_48 dX13_draws_245 ?_
                    refine gx_ti e_49 ?_
                    refine lv_iload_n hx hb dX13_draws_246 rfl (lv_at hl 1 rfl) ?_
                    refine lv_icmp_ne (tgt := 292) hx hb dX13_draws_247 (by decide) (fun c_50 => ?_) (fun c_50 => ?_)
                    · rw [if_neg c_50] at hF
                      obtain ⟨x_51, e_52, hF⟩ := pli_some hF
                      refine lv_iinc (v := x_51) (lv' := [(5, .int x_51), (0, .ref (Q 72)), (1, .int v1), (2, .int v2), (3, .int v3), (4, .int v4)]) hx hb dX13_draws_292 hl (k := 5) rfl e_52 (by decide) rfl (fun ls hl => ?_)
                      refine lv_goto (tgt := 230) hx hb dX13_draws_295 (by decide) ?_
                      exact ih230 v1 v2 v3 v4 x_51 u _ _ _ (lv_sub hl [1, 2, 3, 4, 5, 0] rfl) hH hF
                    · rw [if_pos c_50] at hF
                      refine lv_aload_n hx hb dX13_draws_250 rfl (lv_at hl 0 rfl) ?_
                      refine mg_8 hC hH dX13_draws_251 ?_
                      refine lv_iload hx hb dX13_draws_254 (lv_at hl 5 rfl) ?_
                      obtain ⟨x_53, g_54, e_55, hF⟩ := prd_some hF
                      refine ml_8 hC hH g_54 dX13_draws_256 ?_
                      refine gx_ti e_55 ?_
                      refine lv_iconst (v := 1) hx hb dX13_draws_257 (by decide) ?_
                      refine lv_icmp_ne (tgt := 292) hx hb dX13_draws_258 (by decide) (fun c_56 => ?_) (fun c_56 => ?_)
                      · rw [if_neg c_56] at hF
                        obtain ⟨x_57, e_58, hF⟩ := pli_some hF
                        refine lv_iinc (v := x_57) (lv' := [(5, .int x_57), (0, .ref (Q 72)), (1, .int v1), (2, .int v2), (3, .int v3), (4, .int v4)]) hx hb dX13_draws_292 hl (k := 5) rfl e_58 (by decide) rfl (fun ls hl => ?_)
                        refine lv_goto (tgt := 230) hx hb dX13_draws_295 (by decide) ?_
                        exact ih230 v1 v2 v3 v4 x_57 u _ _ _ (lv_sub hl [1, 2, 3, 4, 5, 0] rfl) hH hF
                      · rw [if_pos c_56] at hF
                        refine lv_aload_n hx hb dX13_draws_261 rfl (lv_at hl 0 rfl) ?_
                        refine mg_9 hC hH dX13_draws_262 ?_
                        refine lv_iload hx hb dX13_draws_265 (lv_at hl 5 rfl) ?_
                        obtain ⟨x_59, g_60, e_61, hF⟩ := prd_some hF
                        refine ml_9 hC hH g_60 dX13_draws_267 ?_
                        refine gx_ti e_61 ?_
                        refine lv_iload hx hb dX13_draws_268 (lv_at hl 4 rfl) ?_
                        refine lv_icmp_eq (tgt := 276) hx hb dX13_draws_270 (by decide) (fun c_62 => ?_) (fun c_62 => ?_)
                        · rw [if_pos c_62] at hF
                          refine lv_aload_n hx hb dX13_draws_276 rfl (lv_at hl 0 rfl) ?_
                          refine lv_iload_n hx hb dX13_draws_277 rfl (lv_at hl 1 rfl) ?_
                          refine lv_iload hx hb dX13_draws_278 (lv_at hl 5 rfl) ?_
                          refine lv_aload_n hx hb dX13_draws_280 rfl (lv_at hl 0 rfl) ?_
                          refine mg_57 hC hH dX13_draws_281 ?_
                          refine lv_iload_n hx hb dX13_draws_284 rfl (lv_at hl 3 rfl) ?_
                          obtain ⟨x_63, g_64, e_65, hF⟩ := prd_some hF
                          refine ml_57 hC hH g_64 dX13_draws_285 ?_
                          refine gx_ti e_65 ?_
                          obtain ⟨r_66, u_67, h_68, hF⟩ := pcl_some hF
                          refine mcV_v (As := [.int v1, .int v5, .int x_63]) (rest := []) hC hH (m_settle l G Z Q u u_67 r_66 v1 v5 x_63 _ h_68) kwX13_settle kVX13_settle ⟨Nat.le_of_ble_eq_true rfl, Nat.le_of_ble_eq_true rfl⟩ rfl hl.1 rfl (Nat.le_of_ble_eq_true rfl) dX13_draws_286 (fun H locs hH => ?_)
                          obtain ⟨x_69, e_70, hF⟩ := pli_some hF
                          refine lv_iinc (v := x_69) (lv' := [(3, .int x_69), (0, .ref (Q 72)), (1, .int v1), (2, .int v2), (4, .int v4), (5, .int v5)]) hx hb dX13_draws_289 hl (k := 3) rfl e_70 (by decide) rfl (fun ls hl => ?_)
                          obtain ⟨x_71, e_72, hF⟩ := pli_some hF
                          refine lv_iinc (v := x_71) (lv' := [(5, .int x_71), (3, .int x_69), (0, .ref (Q 72)), (1, .int v1), (2, .int v2), (4, .int v4)]) hx hb dX13_draws_292 hl (k := 5) rfl e_72 (by decide) rfl (fun ls hl => ?_)
                          refine lv_goto (tgt := 230) hx hb dX13_draws_295 (by decide) ?_
                          exact ih230 v1 v2 x_69 v4 x_71 u_67 _ _ _ (lv_sub hl [2, 3, 4, 1, 5, 0] rfl) hH hF
                        · rw [if_neg c_62] at hF
                          refine lv_goto (tgt := 292) hx hb dX13_draws_273 (by decide) ?_
                          obtain ⟨x_73, e_74, hF⟩ := pli_some hF
                          refine lv_iinc (v := x_73) (lv' := [(5, .int x_73), (0, .ref (Q 72)), (1, .int v1), (2, .int v2), (3, .int v3), (4, .int v4)]) hx hb dX13_draws_292 hl (k := 5) rfl e_74 (by decide) rfl (fun ls hl => ?_)
                          refine lv_goto (tgt := 230) hx hb dX13_draws_295 (by decide) ?_
                          exact ih230 v1 v2 v3 v4 x_73 u _ _ _ (lv_sub hl [1, 2, 3, 4, 5, 0] rfl) hH hF
              refine hL230 _ (fun v1 v2 v3 v4 v5 u H locs ls hl hH hF => ?_) fuel v1 v2 v3 v4 0 u _ _ _ (lv_sub hl [1, 2, 3, 4, 5, 0] rfl) hH hF
              obtain ⟨x_75, e_76, hF⟩ := pli_some hF
              refine lv_iinc (v := x_75) (lv' := [(4, .int x_75), (0, .ref (Q 72)), (1, .int v1), (2, .int v2), (3, .int v3), (5, .int v5)]) hx hb dX13_draws_298 hl (k := 4) rfl e_76 (by decide) rfl (fun ls hl => ?_)
              refine lv_goto (tgt := 220) hx hb dX13_draws_301 (by decide) ?_
              exact ih220 v1 v2 v3 x_75 u _ _ _ (lv_sub hl [1, 2, 3, 4, 0] rfl) hH hF
        refine hL220 _ (fun v1 v2 v3 v4 u H locs ls hl hH hF => ?_) fuel v1 v2 0 1 u _ _ _ (lv_sub hl [2, 3, 4, 1, 0] rfl) hH hF
        refine lv_iconst (v := 0) hx hb dX13_draws_304 (by decide) ?_
        refine lv_istore (lv' := [(4, .int 0), (0, .ref (Q 72)), (1, .int v1), (2, .int v2), (3, .int v3)]) hx hb dX13_draws_305 hl (by decide) rfl (fun ls hl => ?_)
        have hL307 : ∀ (K307_328 : Int32 → Int32 → Int32 → Int32 → PG (Int32)), (∀ (v1 v2 v3 v4 : Int32) (u : GS) (H : Heap) (locs : List Loc) (ls : Array Slot), lv_has ls 7 [(0, .ref (Q 72)), (1, .int v1), (2, .int v2), (3, .int v3), (4, .int v4)] → mH G Q u.1 s H locs → K307_328 v1 v2 v3 v4 u = some ((r, u1)) → W p l e (headSpec (Cond.code yX13_draws cX13_draws 7 (some .int) :: wM) { frames := 3, cells := 0, slots := 0, locals := 65 }).room s m [.ref (Q 72), .int a0].toArray below meth c H locs 0 0 (MQ below (mQi G Q u1.1 r s.heap.size) [.ref (Q 72), .int a0].toArray s 0 0 (mA Q s.heap.size)) (F0 m 328 ls [])) → ∀ (n307 : Nat) (v1 v2 v3 v4 : Int32) (u : GS) (H : Heap) (locs : List Loc) (ls : Array Slot), lv_has ls 7 [(0, .ref (Q 72)), (1, .int v1), (2, .int v2), (3, .int v3), (4, .int v4)] → mH G Q u.1 s H locs → lp_draws_307 n307 v1 v2 v3 v4 K307_328 u = some ((r, u1)) → W p l e (headSpec (Cond.code yX13_draws cX13_draws 7 (some .int) :: wM) { frames := 3, cells := 0, slots := 0, locals := 65 }).room s m [.ref (Q 72), .int a0].toArray below meth c H locs 0 0 (MQ below (mQi G Q u1.1 r s.heap.size) [.ref (Q 72), .int a0].toArray s 0 0 (mA Q s.heap.size)) (F0 m 307 ls []) := by
          intro K307_328 hK307_328 n307
          induction n307 with
          | zero => intro v1 v2 v3 v4 u H locs ls hl hH hF; cases hF
          | succ n307 ih307 =>
            intro v1 v2 v3 v4 u H locs ls hl hH hF
            unfold lp_draws_307 at hF
            refine lv_iload hx hb dX13_draws_307 (lv_at hl 4 rfl) ?_
            refine lv_bipush (v := 16) hx hb dX13_draws_309 (by decide) ?_
            refine lv_icmp_ge (tgt := 328) hx hb dX13_draws_311 (by decide) (fun c_77 => ?_) (fun c_77 => ?_)
            · rw [if_pos c_77] at hF
              exact hK307_328 v1 v2 v3 v4 u _ _ _ (lv_sub hl [0, 1, 2, 3, 4] rfl) hH hF
            · rw [if_neg c_77] at hF
              refine lv_aload_n hx hb dX13_draws_314 rfl (lv_at hl 0 rfl) ?_
              refine mg_59 hC hH dX13_draws_315 ?_
              refine lv_iload hx hb dX13_draws_318 (lv_at hl 4 rfl) ?_
              refine lv_iconst (v := 0) hx hb dX13_draws_320 (by decide) ?_
              obtain ⟨u_79, g_78, e_80, hF⟩ := pwd_some hF
              refine ms_59 hC hH e_80 g_78 dX13_draws_321 (fun H locs hH => ?_)
              obtain ⟨x_81, e_82, hF⟩ := pli_some hF
              refine lv_iinc (v := x_81) (lv' := [(4, .int x_81), (0, .ref (Q 72)), (1, .int v1), (2, .int v2), (3, .int v3)]) hx hb dX13_draws_322 hl (k := 4) rfl e_82 (by decide) rfl (fun ls hl => ?_)
              refine lv_goto (tgt := 307) hx hb dX13_draws_325 (by decide) ?_
              exact ih307 v1 v2 v3 x_81 u_79 _ _ _ (lv_sub hl [1, 2, 3, 4, 0] rfl) hH hF
        refine hL307 _ (fun v1 v2 v3 v4 u H locs ls hl hH hF => ?_) fuel v1 v2 v3 0 u _ _ _ (lv_sub hl [1, 2, 3, 4, 0] rfl) hH hF
        refine lv_iconst (v := 0) hx hb dX13_draws_328 (by decide) ?_
        refine lv_istore (lv' := [(4, .int 0), (0, .ref (Q 72)), (1, .int v1), (2, .int v2), (3, .int v3)]) hx hb dX13_draws_329 hl (by decide) rfl (fun ls hl => ?_)
        have hL331 : ∀ (K331_372 : Int32 → Int32 → Int32 → Int32 → PG (Int32)), (∀ (v1 v2 v3 v4 : Int32) (u : GS) (H : Heap) (locs : List Loc) (ls : Array Slot), lv_has ls 7 [(0, .ref (Q 72)), (1, .int v1), (2, .int v2), (3, .int v3), (4, .int v4)] → mH G Q u.1 s H locs → K331_372 v1 v2 v3 v4 u = some ((r, u1)) → W p l e (headSpec (Cond.code yX13_draws cX13_draws 7 (some .int) :: wM) { frames := 3, cells := 0, slots := 0, locals := 65 }).room s m [.ref (Q 72), .int a0].toArray below meth c H locs 0 0 (MQ below (mQi G Q u1.1 r s.heap.size) [.ref (Q 72), .int a0].toArray s 0 0 (mA Q s.heap.size)) (F0 m 372 ls [])) → ∀ (n331 : Nat) (v1 v2 v3 v4 : Int32) (u : GS) (H : Heap) (locs : List Loc) (ls : Array Slot), lv_has ls 7 [(0, .ref (Q 72)), (1, .int v1), (2, .int v2), (3, .int v3), (4, .int v4)] → mH G Q u.1 s H locs → lp_draws_331 n331 v1 v2 v3 v4 K331_372 u = some ((r, u1)) → W p l e (headSpec (Cond.code yX13_draws cX13_draws 7 (some .int) :: wM) { frames := 3, cells := 0, slots := 0, locals := 65 }).room s m [.ref (Q 72), .int a0].toArray below meth c H locs 0 0 (MQ below (mQi G Q u1.1 r s.heap.size) [.ref (Q 72), .int a0].toArray s 0 0 (mA Q s.heap.size)) (F0 m 331 ls []) := by
          intro K331_372 hK331_372 n331
          induction n331 with
          | zero => intro v1 v2 v3 v4 u H locs ls hl hH hF; cases hF
          | succ n331 ih331 =>
            intro v1 v2 v3 v4 u H locs ls hl hH hF
            unfold lp_draws_331 at hF
            refine lv_iload hx hb dX13_draws_331 (lv_at hl 4 rfl) ?_
            refine lv_aload_n hx hb dX13_draws_333 rfl (lv_at hl 0 rfl) ?_
            refine mg_2 hC hH dX13_draws_334 ?_
            obtain ⟨x_83, e_84, hF⟩ := prf_some hF
            refine gx_ti e_84 ?_
            refine lv_icmp_ge (tgt := 372) hx hb dX13_draws_337 (by decide) (fun c_85 => ?_) (fun c_85 => ?_)
            · rw [if_pos c_85] at hF
              exact hK331_372 v1 v2 v3 v4 u _ _ _ (lv_sub hl [0, 1, 2, 3, 4] rfl) hH hF
            · rw [if_neg c_85] at hF
              refine lv_aload_n hx hb dX13_draws_340 rfl (lv_at hl 0 rfl) ?_
              refine lv_iload_n hx hb dX13_draws_341 rfl (lv_at hl 1 rfl) ?_
              refine lv_iload hx hb dX13_draws_342 (lv_at hl 4 rfl) ?_
              obtain ⟨r_86, u_87, h_88, hF⟩ := pcl_some hF
              refine mcV_i (As := [.int v1, .int v4]) (rest := []) hC hH (m_isOther l G Z Q u u_87 r_86 v1 v4 _ h_88) kwX13_isOther kVX13_isOther ⟨Nat.le_of_ble_eq_true rfl, Nat.le_of_ble_eq_true rfl⟩ rfl hl.1 rfl (Nat.le_of_ble_eq_true rfl) dX13_draws_344 (fun H locs hH => ?_)
              refine lv_if_eq (tgt := 366) hx hb dX13_draws_347 (by decide) (fun c_89 => ?_) (fun c_89 => ?_)
              · rw [if_pos c_89] at hF
                obtain ⟨x_90, e_91, hF⟩ := pli_some hF
                refine lv_iinc (v := x_90) (lv' := [(4, .int x_90), (0, .ref (Q 72)), (1, .int v1), (2, .int v2), (3, .int v3)]) hx hb dX13_draws_366 hl (k := 4) rfl e_91 (by decide) rfl (fun ls hl => ?_)
                refine lv_goto (tgt := 331) hx hb dX13_draws_369 (by decide) ?_
                exact ih331 v1 v2 v3 x_90 u_87 _ _ _ (lv_sub hl [1, 2, 3, 4, 0] rfl) hH hF
              · rw [if_neg c_89] at hF
                refine lv_aload_n hx hb dX13_draws_350 rfl (lv_at hl 0 rfl) ?_
                refine mg_59 hC hH dX13_draws_351 ?_
                refine lv_aload_n hx hb dX13_draws_354 rfl (lv_at hl 0 rfl) ?_
                refine mg_6 hC hH dX13_draws_355 ?_
                refine lv_iload hx hb dX13_draws_358 (lv_at hl 4 rfl) ?_
                obtain ⟨x_92, g_93, e_94, hF⟩ := prd_some hF
                refine ml_6 hC hH g_93 dX13_draws_360 ?_
                refine gx_ti e_94 ?_
                refine lv_dup2_11 hx hb dX13_draws_361 rfl rfl ?_
                obtain ⟨x_95, g_96, e_97, hF⟩ := prd_some hF
                refine ml_59 hC hH g_96 dX13_draws_362 ?_
                refine gx_ti e_97 ?_
                refine lv_iconst (v := 1) hx hb dX13_draws_363 (by decide) ?_
                refine lv_iadd hx hb dX13_draws_364 ?_
                obtain ⟨u_99, g_98, e_100, hF⟩ := pwd_some hF
                refine ms_59 hC hH e_100 g_98 dX13_draws_365 (fun H locs hH => ?_)
                obtain ⟨x_101, e_102, hF⟩ := pli_some hF
                refine lv_iinc (v := x_101) (lv' := [(4, .int x_101), (0, .ref (Q 72)), (1, .int v1), (2, .int v2), (3, .int v3)]) hx hb dX13_draws_366 hl (k := 4) rfl e_102 (by decide) rfl (fun ls hl => ?_)
                refine lv_goto (tgt := 331) hx hb dX13_draws_369 (by decide) ?_
                exact ih331 v1 v2 v3 x_101 u_99 _ _ _ (lv_sub hl [1, 2, 3, 4, 0] rfl) hH hF
        refine hL331 _ (fun v1 v2 v3 v4 u H locs ls hl hH hF => ?_) fuel v1 v2 v3 0 u _ _ _ (lv_sub hl [1, 2, 3, 4, 0] rfl) hH hF
        refine lv_iconst (v := 0) hx hb dX13_draws_372 (by decide) ?_
        refine lv_istore (lv' := [(4, .int 0), (0, .ref (Q 72)), (1, .int v1), (2, .int v2), (3, .int v3)]) hx hb dX13_draws_373 hl (by decide) rfl (fun ls hl => ?_)
        have hL375 : ∀ (K375_496 : Int32 → Int32 → Int32 → Int32 → PG (Int32)), (∀ (v1 v2 v3 v4 : Int32) (u : GS) (H : Heap) (locs : List Loc) (ls : Array Slot), lv_has ls 7 [(0, .ref (Q 72)), (1, .int v1), (2, .int v2), (3, .int v3), (4, .int v4)] → mH G Q u.1 s H locs → K375_496 v1 v2 v3 v4 u = some ((r, u1)) → W p l e (headSpec (Cond.code yX13_draws cX13_draws 7 (some .int) :: wM) { frames := 3, cells := 0, slots := 0, locals := 65 }).room s m [.ref (Q 72), .int a0].toArray below meth c H locs 0 0 (MQ below (mQi G Q u1.1 r s.heap.size) [.ref (Q 72), .int a0].toArray s 0 0 (mA Q s.heap.size)) (F0 m 496 ls [])) → ∀ (n375 : Nat) (v1 v2 v3 v4 : Int32) (u : GS) (H : Heap) (locs : List Loc) (ls : Array Slot), lv_has ls 7 [(0, .ref (Q 72)), (1, .int v1), (2, .int v2), (3, .int v3), (4, .int v4)] → mH G Q u.1 s H locs → lp_draws_375 n375 v1 v2 v3 v4 K375_496 u = some ((r, u1)) → W p l e (headSpec (Cond.code yX13_draws cX13_draws 7 (some .int) :: wM) { frames := 3, cells := 0, slots := 0, locals := 65 }).room s m [.ref (Q 72), .int a0].toArray below meth c H locs 0 0 (MQ below (mQi G Q u1.1 r s.heap.size) [.ref (Q 72), .int a0].toArray s 0 0 (mA Q s.heap.size)) (F0 m 375 ls []) := by
          intro K375_496 hK375_496 n375
          induction n375 with
          | zero => intro v1 v2 v3 v4 u H locs ls hl hH hF; cases hF
          | succ n375 ih375 =>
            intro v1 v2 v3 v4 u H locs ls hl hH hF
            unfold lp_draws_375 at hF
            refine lv_iload hx hb dX13_draws_375 (lv_at hl 4 rfl) ?_
            refine lv_bipush (v := 16) hx hb dX13_draws_377 (by decide) ?_
            refine lv_icmp_ge (tgt := 496) hx hb dX13_draws_379 (by decide) (fun c_103 => ?_) (fun c_103 => ?_)
            · rw [if_pos c_103] at hF
              exact hK375_496 v1 v2 v3 v4 u _ _ _ (lv_sub hl [0, 1, 2, 3, 4] rfl) hH hF
            · rw [if_neg c_103] at hF
              refine lv_iconst (v := 0) hx hb dX13_draws_382 (by decide) ?_
              refine lv_istore (lv' := [(5, .int 0), (0, .ref (Q 72)), (1, .int v1), (2, .int v2), (3, .int v3), (4, .int v4)]) hx hb dX13_draws_383 hl (by decide) rfl (fun ls hl => ?_)
              refine lv_iconst (v := 1) hx hb dX13_draws_385 (by decide) ?_
              refine lv_istore (lv' := [(6, .int 1), (5, .int 0), (0, .ref (Q 72)), (1, .int v1), (2, .int v2), (3, .int v3), (4, .int v4)]) hx hb dX13_draws_386 hl (by decide) rfl (fun ls hl => ?_)
              have hL388 : ∀ (K388_422 : Int32 → Int32 → Int32 → Int32 → Int32 → Int32 → PG (Int32)), (∀ (v1 v2 v3 v4 v5 v6 : Int32) (u : GS) (H : Heap) (locs : List Loc) (ls : Array Slot), lv_has ls 7 [(0, .ref (Q 72)), (1, .int v1), (2, .int v2), (3, .int v3), (4, .int v4), (5, .int v5), (6, .int v6)] → mH G Q u.1 s H locs → K388_422 v1 v2 v3 v4 v5 v6 u = some ((r, u1)) → W p l e (headSpec (Cond.code yX13_draws cX13_draws 7 (some .int) :: wM) { frames := 3, cells := 0, slots := 0, locals := 65 }).room s m [.ref (Q 72), .int a0].toArray below meth c H locs 0 0 (MQ below (mQi G Q u1.1 r s.heap.size) [.ref (Q 72), .int a0].toArray s 0 0 (mA Q s.heap.size)) (F0 m 422 ls [])) → ∀ (n388 : Nat) (v1 v2 v3 v4 v5 v6 : Int32) (u : GS) (H : Heap) (locs : List Loc) (ls : Array Slot), lv_has ls 7 [(0, .ref (Q 72)), (1, .int v1), (2, .int v2), (3, .int v3), (4, .int v4), (5, .int v5), (6, .int v6)] → mH G Q u.1 s H locs → lp_draws_388 n388 v1 v2 v3 v4 v5 v6 K388_422 u = some ((r, u1)) → W p l e (headSpec (Cond.code yX13_draws cX13_draws 7 (some .int) :: wM) { frames := 3, cells := 0, slots := 0, locals := 65 }).room s m [.ref (Q 72), .int a0].toArray below meth c H locs 0 0 (MQ below (mQi G Q u1.1 r s.heap.size) [.ref (Q 72), .int a0].toArray s 0 0 (mA Q s.heap.size)) (F0 m 388 ls []) := by
                intro K388_422 hK388_422 n388
                induction n388 with
                | zero => intro v1 v2 v3 v4 v5 v6 u H locs ls hl hH hF; cases hF
                | succ n388 ih388 =>
                  intro v1 v2 v3 v4 v5 v6 u H locs ls hl hH hF
                  unfold lp_draws_388 at hF
                  refine lv_iload hx hb dX13_draws_388 (lv_at hl 6 rfl) ?_
                  refine lv_bipush (v := 16) hx hb dX13_draws_390 (by decide) ?_
                  refine lv_icmp_ge (tgt := 422) hx hb dX13_draws_392 (by decide) (fun c_104 => ?_) (fun c_104 => ?_)
                  · rw [if_pos c_104] at hF
                    exact hK388_422 v1 v2 v3 v4 v5 v6 u _ _ _ (lv_sub hl [0, 1, 2, 3, 4, 5, 6] rfl) hH hF
                  · rw [if_neg c_104] at hF
                    refine lv_aload_n hx hb dX13_draws_395 rfl (lv_at hl 0 rfl) ?_
                    refine mg_59 hC hH dX13_draws_396 ?_
                    refine lv_iload hx hb dX13_draws_399 (lv_at hl 6 rfl) ?_
                    obtain ⟨x_105, g_106, e_107, hF⟩ := prd_some hF
                    refine ml_59 hC hH g_106 dX13_draws_401 ?_
                    refine gx_ti e_107 ?_
                    refine lv_aload_n hx hb dX13_draws_402 rfl (lv_at hl 0 rfl) ?_
                    refine mg_59 hC hH dX13_draws_403 ?_
                    refine lv_iload hx hb dX13_draws_406 (lv_at hl 5 rfl) ?_
                    obtain ⟨x_108, g_109, e_110, hF⟩ := prd_some hF
                    refine ml_59 hC hH g_109 dX13_draws_408 ?_
                    refine gx_ti e_110 ?_
                    refine lv_icmp_le (tgt := 416) hx hb dX13_draws_409 (by decide) (fun c_111 => ?_) (fun c_111 => ?_)
                    · rw [if_pos c_111] at hF
                      obtain ⟨x_112, e_113, hF⟩ := pli_some hF
                      refine lv_iinc (v := x_112) (lv' := [(6, .int x_112), (0, .ref (Q 72)), (1, .int v1), (2, .int v2), (3, .int v3), (4, .int v4), (5, .int v5)]) hx hb dX13_draws_416 hl (k := 6) rfl e_113 (by decide) rfl (fun ls hl => ?_)
                      refine lv_goto (tgt := 388) hx hb dX13_draws_419 (by decide) ?_
                      exact ih388 v1 v2 v3 v4 v5 x_112 u _ _ _ (lv_sub hl [1, 2, 3, 4, 5, 6, 0] rfl) hH hF
                    · rw [if_neg c_111] at hF
                      refine lv_iload hx hb dX13_draws_412 (lv_at hl 6 rfl) ?_
                      refine lv_istore (lv' := [(5, .int v6), (0, .ref (Q 72)), (1, .int v1), (2, .int v2), (3, .int v3), (4, .int v4), (6, .int v6)]) hx hb dX13_draws_414 hl (by decide) rfl (fun ls hl => ?_)
                      obtain ⟨x_114, e_115, hF⟩ := pli_some hF
                      refine lv_iinc (v := x_114) (lv' := [(6, .int x_114), (5, .int v6), (0, .ref (Q 72)), (1, .int v1), (2, .int v2), (3, .int v3), (4, .int v4)]) hx hb dX13_draws_416 hl (k := 6) rfl e_115 (by decide) rfl (fun ls hl => ?_)
                      refine lv_goto (tgt := 388) hx hb dX13_draws_419 (by decide) ?_
                      exact ih388 v1 v2 v3 v4 v6 x_114 u _ _ _ (lv_sub hl [2, 3, 4, 5, 6, 1, 0] rfl) hH hF
              refine hL388 _ (fun v1 v2 v3 v4 v5 v6 u H locs ls hl hH hF => ?_) fuel v1 v2 v3 v4 0 1 u _ _ _ (lv_sub hl [2, 3, 4, 5, 6, 1, 0] rfl) hH hF
              refine lv_iconst (v := 0) hx hb dX13_draws_422 (by decide) ?_
              refine lv_istore (lv' := [(6, .int 0), (0, .ref (Q 72)), (1, .int v1), (2, .int v2), (3, .int v3), (4, .int v4), (5, .int v5)]) hx hb dX13_draws_423 hl (by decide) rfl (fun ls hl => ?_)
              have hL425 : ∀ (K425_482 : Int32 → Int32 → Int32 → Int32 → Int32 → Int32 → PG (Int32)), (∀ (v1 v2 v3 v4 v5 v6 : Int32) (u : GS) (H : Heap) (locs : List Loc) (ls : Array Slot), lv_has ls 7 [(0, .ref (Q 72)), (1, .int v1), (2, .int v2), (3, .int v3), (4, .int v4), (5, .int v5), (6, .int v6)] → mH G Q u.1 s H locs → K425_482 v1 v2 v3 v4 v5 v6 u = some ((r, u1)) → W p l e (headSpec (Cond.code yX13_draws cX13_draws 7 (some .int) :: wM) { frames := 3, cells := 0, slots := 0, locals := 65 }).room s m [.ref (Q 72), .int a0].toArray below meth c H locs 0 0 (MQ below (mQi G Q u1.1 r s.heap.size) [.ref (Q 72), .int a0].toArray s 0 0 (mA Q s.heap.size)) (F0 m 482 ls [])) → ∀ (n425 : Nat) (v1 v2 v3 v4 v5 v6 : Int32) (u : GS) (H : Heap) (locs : List Loc) (ls : Array Slot), lv_has ls 7 [(0, .ref (Q 72)), (1, .int v1), (2, .int v2), (3, .int v3), (4, .int v4), (5, .int v5), (6, .int v6)] → mH G Q u.1 s H locs → lp_draws_425 n425 v1 v2 v3 v4 v5 v6 K425_482 u = some ((r, u1)) → W p l e (headSpec (Cond.code yX13_draws cX13_draws 7 (some .int) :: wM) { frames := 3, cells := 0, slots := 0, locals := 65 }).room s m [.ref (Q 72), .int a0].toArray below meth c H locs 0 0 (MQ below (mQi G Q u1.1 r s.heap.size) [.ref (Q 72), .int a0].toArray s 0 0 (mA Q s.heap.size)) (F0 m 425 ls []) := by
                intro K425_482 hK425_482 n425
                induction n425 with
                | zero => intro v1 v2 v3 v4 v5 v6 u H locs ls hl hH hF; cases hF
                | succ n425 ih425 =>
                  intro v1 v2 v3 v4 v5 v6 u H locs ls hl hH hF
                  unfold lp_draws_425 at hF
                  refine lv_iload hx hb dX13_draws_425 (lv_at hl 6 rfl) ?_
                  refine lv_aload_n hx hb dX13_draws_427 rfl (lv_at hl 0 rfl) ?_
                  refine mg_2 hC hH dX13_draws_428 ?_
                  obtain ⟨x_116, e_117, hF⟩ := prf_some hF
                  refine gx_ti e_117 ?_
                  refine lv_icmp_ge (tgt := 482) hx hb dX13_draws_431 (by decide) (fun c_118 => ?_) (fun c_118 => ?_)
                  · rw [if_pos c_118] at hF
                    exact hK425_482 v1 v2 v3 v4 v5 v6 u _ _ _ (lv_sub hl [0, 1, 2, 3, 4, 5, 6] rfl) hH hF
                  · rw [if_neg c_118] at hF
                    refine lv_aload_n hx hb dX13_draws_434 rfl (lv_at hl 0 rfl) ?_
                    refine mg_6 hC hH dX13_draws_435 ?_
                    refine lv_iload hx hb dX13_draws_438 (lv_at hl 6 rfl) ?_
                    obtain ⟨x_119, g_120, e_121, hF⟩ := prd_some hF
                    refine ml_6 hC hH g_120 dX13_draws_440 ?_
                    refine gx_ti e_121 ?_
                    refine lv_iload hx hb dX13_draws_441 (lv_at hl 5 rfl) ?_
                    refine lv_icmp_ne (tgt := 476) hx hb dX13_draws_443 (by decide) (fun c_122 => ?_) (fun c_122 => ?_)
                    · rw [if_neg c_122] at hF
                      obtain ⟨x_123, e_124, hF⟩ := pli_some hF
                      refine lv_iinc (v := x_123) (lv' := [(6, .int x_123), (0, .ref (Q 72)), (1, .int v1), (2, .int v2), (3, .int v3), (4, .int v4), (5, .int v5)]) hx hb dX13_draws_476 hl (k := 6) rfl e_124 (by decide) rfl (fun ls hl => ?_)
                      refine lv_goto (tgt := 425) hx hb dX13_draws_479 (by decide) ?_
                      exact ih425 v1 v2 v3 v4 v5 x_123 u _ _ _ (lv_sub hl [1, 2, 3, 4, 5, 6, 0] rfl) hH hF
                    · rw [if_pos c_122] at hF
                      refine lv_aload_n hx hb dX13_draws_446 rfl (lv_at hl 0 rfl) ?_
                      refine lv_iload_n hx hb dX13_draws_447 rfl (lv_at hl 1 rfl) ?_
                      refine lv_iload hx hb dX13_draws_448 (lv_at hl 6 rfl) ?_
                      obtain ⟨r_125, u_126, h_127, hF⟩ := pcl_some hF
                      refine mcV_i (As := [.int v1, .int v6]) (rest := []) hC hH (m_isOther l G Z Q u u_126 r_125 v1 v6 _ h_127) kwX13_isOther kVX13_isOther ⟨Nat.le_of_ble_eq_true rfl, Nat.le_of_ble_eq_true rfl⟩ rfl hl.1 rfl (Nat.le_of_ble_eq_true rfl) dX13_draws_450 (fun H locs hH => ?_)
                      refine lv_if_eq (tgt := 476) hx hb dX13_draws_453 (by decide) (fun c_128 => ?_) (fun c_128 => ?_)
                      · rw [if_pos c_128] at hF
                        obtain ⟨x_129, e_130, hF⟩ := pli_some hF
                        refine lv_iinc (v := x_129) (lv' := [(6, .int x_129), (0, .ref (Q 72)), (1, .int v1), (2, .int v2), (3, .int v3), (4, .int v4), (5, .int v5)]) hx hb dX13_draws_476 hl (k := 6) rfl e_130 (by decide) rfl (fun ls hl => ?_)
                        refine lv_goto (tgt := 425) hx hb dX13_draws_479 (by decide) ?_
                        exact ih425 v1 v2 v3 v4 v5 x_129 u_126 _ _ _ (lv_sub hl [1, 2, 3, 4, 5, 6, 0] rfl) hH hF
                      · rw [if_neg c_128] at hF
                        refine lv_aload_n hx hb dX13_draws_456 rfl (lv_at hl 0 rfl) ?_
                        refine lv_iload_n hx hb dX13_draws_457 rfl (lv_at hl 1 rfl) ?_
                        refine lv_iload hx hb dX13_draws_458 (lv_at hl 6 rfl) ?_
                        refine lv_aload_n hx hb dX13_draws_460 rfl (lv_at hl 0 rfl) ?_
                        refine lv_iload_n hx hb dX13_draws_461 rfl (lv_at hl 1 rfl) ?_
                        refine lv_iload hx hb dX13_draws_462 (lv_at hl 5 rfl) ?_
                        refine lv_aload_n hx hb dX13_draws_464 rfl (lv_at hl 0 rfl) ?_
                        refine mg_13 hC hH dX13_draws_465 ?_
                        refine lv_iload_n hx hb dX13_draws_468 rfl (lv_at hl 1 rfl) ?_
                        obtain ⟨x_131, g_132, e_133, hF⟩ := prd_some hF
                        refine ml_13 hC hH g_132 dX13_draws_469 ?_
                        refine gx_ti e_133 ?_
                        obtain ⟨r_134, u_135, h_136, hF⟩ := pcl_some hF
                        refine mcV_i (As := [.int v1, .int v5, .int x_131]) (rest := [.int v6, .int v1, .ref (Q 72)]) hC hH (m_bestPlace l G Z Q u_126 u_135 r_134 v1 v5 x_131 _ h_136) kwX13_bestPlace kVX13_bestPlace ⟨Nat.le_of_ble_eq_true rfl, Nat.le_of_ble_eq_true rfl⟩ rfl hl.1 rfl (Nat.le_of_ble_eq_true rfl) dX13_draws_470 (fun H locs hH => ?_)
                        obtain ⟨r_137, u_138, h_139, hF⟩ := pcl_some hF
                        refine mcV_v (As := [.int v1, .int v6, .int r_134]) (rest := []) hC hH (m_settle l G Z Q u_135 u_138 r_137 v1 v6 r_134 _ h_139) kwX13_settle kVX13_settle ⟨Nat.le_of_ble_eq_true rfl, Nat.le_of_ble_eq_true rfl⟩ rfl hl.1 rfl (Nat.le_of_ble_eq_true rfl) dX13_draws_473 (fun H locs hH => ?_)
                        obtain ⟨x_140, e_141, hF⟩ := pli_some hF
                        refine lv_iinc (v := x_140) (lv' := [(6, .int x_140), (0, .ref (Q 72)), (1, .int v1), (2, .int v2), (3, .int v3), (4, .int v4), (5, .int v5)]) hx hb dX13_draws_476 hl (k := 6) rfl e_141 (by decide) rfl (fun ls hl => ?_)
                        refine lv_goto (tgt := 425) hx hb dX13_draws_479 (by decide) ?_
                        exact ih425 v1 v2 v3 v4 v5 x_140 u_138 _ _ _ (lv_sub hl [1, 2, 3, 4, 5, 6, 0] rfl) hH hF
              refine hL425 _ (fun v1 v2 v3 v4 v5 v6 u H locs ls hl hH hF => ?_) fuel v1 v2 v3 v4 v5 0 u _ _ _ (lv_sub hl [1, 2, 3, 4, 5, 6, 0] rfl) hH hF
              refine lv_aload_n hx hb dX13_draws_482 rfl (lv_at hl 0 rfl) ?_
              refine mg_59 hC hH dX13_draws_483 ?_
              refine lv_iload hx hb dX13_draws_486 (lv_at hl 5 rfl) ?_
              refine lv_iconst (v := (-1)) hx hb dX13_draws_488 (by decide) ?_
              obtain ⟨u_143, g_142, e_144, hF⟩ := pwd_some hF
              refine ms_59 hC hH e_144 g_142 dX13_draws_489 (fun H locs hH => ?_)
              obtain ⟨x_145, e_146, hF⟩ := pli_some hF
              refine lv_iinc (v := x_145) (lv' := [(4, .int x_145), (0, .ref (Q 72)), (1, .int v1), (2, .int v2), (3, .int v3), (5, .int v5), (6, .int v6)]) hx hb dX13_draws_490 hl (k := 4) rfl e_146 (by decide) rfl (fun ls hl => ?_)
              refine lv_goto (tgt := 375) hx hb dX13_draws_493 (by decide) ?_
              exact ih375 v1 v2 v3 x_145 u_143 _ _ _ (lv_sub hl [1, 2, 3, 4, 0] rfl) hH hF
        refine hL375 _ (fun v1 v2 v3 v4 u H locs ls hl hH hF => ?_) fuel v1 v2 v3 0 u _ _ _ (lv_sub hl [1, 2, 3, 4, 0] rfl) hH hF
        refine lv_aload_n hx hb dX13_draws_496 rfl (lv_at hl 0 rfl) ?_
        refine lv_iload_n hx hb dX13_draws_497 rfl (lv_at hl 1 rfl) ?_
        obtain ⟨r_147, u_148, h_149, hF⟩ := pcl_some hF
        refine mcV_i (As := [.int v1]) (rest := []) hC hH (m_fights l G Z Q u u_148 r_147 v1 _ h_149) kwX13_fights kVX13_fights ⟨Nat.le_of_ble_eq_true rfl, Nat.le_of_ble_eq_true rfl⟩ rfl hl.1 rfl (Nat.le_of_ble_eq_true rfl) dX13_draws_498 (fun H locs hH => ?_)
        have hF := prt_eq hF
        exact mr_i hC hH hr hF dX13_draws_501 hlocks
      · rw [if_neg c_9] at hF
        refine lv_bipush (v := 16) hx hb dX13_draws_130 (by decide) ?_
        refine lv_goto (tgt := 137) hx hb dX13_draws_132 (by decide) ?_
        obtain ⟨u_151, g_150, e_152, hF⟩ := pwd_some hF
        refine ms_13 hC hH e_152 g_150 dX13_draws_137 (fun H locs hH => ?_)
        refine lv_aload_n hx hb dX13_draws_138 rfl (lv_at hl 1 rfl) ?_
        refine lv_aload_n hx hb dX13_draws_139 rfl (lv_at hl 1 rfl) ?_
        refine mg_13 hC hH dX13_draws_140 ?_
        refine lv_iload_n hx hb dX13_draws_143 rfl (lv_at hl 2 rfl) ?_
        obtain ⟨x_153, g_154, e_155, hF⟩ := prd_some hF
        refine ml_13 hC hH g_154 dX13_draws_144 ?_
        refine gx_ti e_155 ?_
        obtain ⟨r_156, u_157, h_158, hF⟩ := pcl_some hF
        refine mcV_v (As := [.int x_153]) (rest := []) hC hH (m_makeRow l G Z Q u_151 u_157 r_156 x_153 _ h_158) kwX13_makeRow kVX13_makeRow ⟨Nat.le_of_ble_eq_true rfl, Nat.le_of_ble_eq_true rfl⟩ rfl hl.1 rfl (Nat.le_of_ble_eq_true rfl) dX13_draws_145 (fun H locs hH => ?_)
        refine lv_iconst (v := 0) hx hb dX13_draws_148 (by decide) ?_
        refine lv_istore_n (lv' := [(3, .int 0), (2, .int r_1), (0, .ref (Q 72)), (1, .int a0)]) hx hb dX13_draws_149 rfl hl (by decide) rfl (fun ls hl => ?_)
        have hL150 : ∀ (K150_185 : Int32 → Int32 → Int32 → PG (Int32)), (∀ (v1 v2 v3 : Int32) (u : GS) (H : Heap) (locs : List Loc) (ls : Array Slot), lv_has ls 7 [(0, .ref (Q 72)), (1, .int v1), (2, .int v2), (3, .int v3)] → mH G Q u.1 s H locs → K150_185 v1 v2 v3 u = some ((r, u1)) → W p l e (headSpec (Cond.code yX13_draws cX13_draws 7 (some .int) :: wM) { frames := 3, cells := 0, slots := 0, locals := 65 }).room s m [.ref (Q 72), .int a0].toArray below meth c H locs 0 0 (MQ below (mQi G Q u1.1 r s.heap.size) [.ref (Q 72), .int a0].toArray s 0 0 (mA Q s.heap.size)) (F0 m 185 ls [])) → ∀ (n150 : Nat) (v1 v2 v3 : Int32) (u : GS) (H : Heap) (locs : List Loc) (ls : Array Slot), lv_has ls 7 [(0, .ref (Q 72)), (1, .int v1), (2, .int v2), (3, .int v3)] → mH G Q u.1 s H locs → lp_draws_150 n150 v1 v2 v3 K150_185 u = some ((r, u1)) → W p l e (headSpec (Cond.code yX13_draws cX13_draws 7 (some .int) :: wM) { frames := 3, cells := 0, slots := 0, locals := 65 }).room s m [.ref (Q 72), .int a0].toArray below meth c H locs 0 0 (MQ below (mQi G Q u1.1 r s.heap.size) [.ref (Q 72), .int a0].toArray s 0 0 (mA Q s.heap.size)) (F0 m 150 ls []) := by
          intro K150_185 hK150_185 n150
          induction n150 with
          | zero => intro v1 v2 v3 u H locs ls hl hH hF; cases hF
          | succ n150 ih150 =>
            intro v1 v2 v3 u H locs ls hl hH hF
            unfold lp_draws_150 at hF
            refine lv_iload_n hx hb dX13_draws_150 rfl (lv_at hl 3 rfl) ?_
            refine lv_aload_n hx hb dX13_draws_151 rfl (lv_at hl 0 rfl) ?_
            refine mg_13 hC hH dX13_draws_152 ?_
            refine lv_iload_n hx hb dX13_draws_155 rfl (lv_at hl 1 rfl) ?_
            obtain ⟨x_159, g_160, e_161, hF⟩ := prd_some hF
            refine ml_13 hC hH g_160 dX13_draws_156 ?_
            refine gx_ti e_161 ?_
            refine lv_icmp_ge (tgt := 185) hx hb dX13_draws_157 (by decide) (fun c_162 => ?_) (fun c_162 => ?_)
            · rw [if_pos c_162] at hF
              exact hK150_185 v1 v2 v3 u _ _ _ (lv_sub hl [0, 1, 2, 3] rfl) hH hF
            · rw [if_neg c_162] at hF
              refine lv_aload_n hx hb dX13_draws_160 rfl (lv_at hl 0 rfl) ?_
              refine mg_14 hC hH dX13_draws_161 ?_
              refine lv_bipush (v := 32) hx hb dX13_draws_164 (by decide) ?_
              refine lv_iload_n hx hb dX13_draws_166 rfl (lv_at hl 1 rfl) ?_
              refine lv_imul hx hb dX13_draws_167 ?_
              refine lv_iload_n hx hb dX13_draws_168 rfl (lv_at hl 3 rfl) ?_
              refine lv_iadd hx hb dX13_draws_169 ?_
              refine lv_iconst (v := (-1)) hx hb dX13_draws_170 (by decide) ?_
              obtain ⟨u_164, g_163, e_165, hF⟩ := pwd_some hF
              refine ms_14 hC hH e_165 g_163 dX13_draws_171 (fun H locs hH => ?_)
              refine lv_aload_n hx hb dX13_draws_172 rfl (lv_at hl 0 rfl) ?_
              refine mg_60 hC hH dX13_draws_173 ?_
              refine lv_iload_n hx hb dX13_draws_176 rfl (lv_at hl 3 rfl) ?_
              refine lv_iconst (v := 0) hx hb dX13_draws_177 (by decide) ?_
              obtain ⟨u_167, g_166, e_168, hF⟩ := pwd_some hF
              refine ms_60 hC hH e_168 g_166 dX13_draws_178 (fun H locs hH => ?_)
              obtain ⟨x_169, e_170, hF⟩ := pli_some hF
              refine lv_iinc (v := x_169) (lv' := [(3, .int x_169), (0, .ref (Q 72)), (1, .int v1), (2, .int v2)]) hx hb dX13_draws_179 hl (k := 3) rfl e_170 (by decide) rfl (fun ls hl => ?_)
              refine lv_goto (tgt := 150) hx hb dX13_draws_182 (by decide) ?_
              exact ih150 v1 v2 x_169 u_167 _ _ _ (lv_sub hl [1, 2, 3, 0] rfl) hH hF
        refine hL150 _ (fun v1 v2 v3 u H locs ls hl hH hF => ?_) fuel a0 r_1 0 u_157 _ _ _ (lv_sub hl [2, 3, 1, 0] rfl) hH hF
        refine lv_iload_n hx hb dX13_draws_185 rfl (lv_at hl 2 rfl) ?_
        refine lv_istore_n (lv' := [(3, .int v2), (0, .ref (Q 72)), (1, .int v1), (2, .int v2)]) hx hb dX13_draws_186 rfl hl (by decide) rfl (fun ls hl => ?_)
        have hL187 : ∀ (K187_215 : Int32 → Int32 → Int32 → PG (Int32)), (∀ (v1 v2 v3 : Int32) (u : GS) (H : Heap) (locs : List Loc) (ls : Array Slot), lv_has ls 7 [(0, .ref (Q 72)), (1, .int v1), (2, .int v2), (3, .int v3)] → mH G Q u.1 s H locs → K187_215 v1 v2 v3 u = some ((r, u1)) → W p l e (headSpec (Cond.code yX13_draws cX13_draws 7 (some .int) :: wM) { frames := 3, cells := 0, slots := 0, locals := 65 }).room s m [.ref (Q 72), .int a0].toArray below meth c H locs 0 0 (MQ below (mQi G Q u1.1 r s.heap.size) [.ref (Q 72), .int a0].toArray s 0 0 (mA Q s.heap.size)) (F0 m 215 ls [])) → ∀ (n187 : Nat) (v1 v2 v3 : Int32) (u : GS) (H : Heap) (locs : List Loc) (ls : Array Slot), lv_has ls 7 [(0, .ref (Q 72)), (1, .int v1), (2, .int v2), (3, .int v3)] → mH G Q u.1 s H locs → lp_draws_187 n187 v1 v2 v3 K187_215 u = some ((r, u1)) → W p l e (headSpec (Cond.code yX13_draws cX13_draws 7 (some .int) :: wM) { frames := 3, cells := 0, slots := 0, locals := 65 }).room s m [.ref (Q 72), .int a0].toArray below meth c H locs 0 0 (MQ below (mQi G Q u1.1 r s.heap.size) [.ref (Q 72), .int a0].toArray s 0 0 (mA Q s.heap.size)) (F0 m 187 ls []) := by
          intro K187_215 hK187_215 n187
          induction n187 with
          | zero => intro v1 v2 v3 u H locs ls hl hH hF; cases hF
          | succ n187 ih187 =>
            intro v1 v2 v3 u H locs ls hl hH hF
            unfold lp_draws_187 at hF
            refine lv_iload_n hx hb dX13_draws_187 rfl (lv_at hl 3 rfl) ?_
            refine lv_aload_n hx hb dX13_draws_188 rfl (lv_at hl 0 rfl) ?_
            refine mg_13 hC hH dX13_draws_189 ?_
            refine lv_iload_n hx hb dX13_draws_192 rfl (lv_at hl 1 rfl) ?_
            obtain ⟨x_171, g_172, e_173, hF⟩ := prd_some hF
            refine ml_13 hC hH g_172 dX13_draws_193 ?_
            refine gx_ti e_173 ?_
            refine lv_icmp_ge (tgt := 215) hx hb dX13_draws_194 (by decide) (fun c_174 => ?_) (fun c_174 => ?_)
            · rw [if_pos c_174] at hF
              exact hK187_215 v1 v2 v3 u _ _ _ (lv_sub hl [0, 1, 2, 3] rfl) hH hF
            · rw [if_neg c_174] at hF
              refine lv_aload_n hx hb dX13_draws_197 rfl (lv_at hl 0 rfl) ?_
              refine mg_60 hC hH dX13_draws_198 ?_
              refine lv_aload_n hx hb dX13_draws_201 rfl (lv_at hl 0 rfl) ?_
              refine mg_57 hC hH dX13_draws_202 ?_
              refine lv_iload_n hx hb dX13_draws_205 rfl (lv_at hl 3 rfl) ?_
              obtain ⟨x_175, g_176, e_177, hF⟩ := prd_some hF
              refine ml_57 hC hH g_176 dX13_draws_206 ?_
              refine gx_ti e_177 ?_
              refine lv_iconst (v := 1) hx hb dX13_draws_207 (by decide) ?_
              obtain ⟨u_179, g_178, e_180, hF⟩ := pwd_some hF
              refine ms_60 hC hH e_180 g_178 dX13_draws_208 (fun H locs hH => ?_)
              obtain ⟨x_181, e_182, hF⟩ := pli_some hF
              refine lv_iinc (v := x_181) (lv' := [(3, .int x_181), (0, .ref (Q 72)), (1, .int v1), (2, .int v2)]) hx hb dX13_draws_209 hl (k := 3) rfl e_182 (by decide) rfl (fun ls hl => ?_)
              refine lv_goto (tgt := 187) hx hb dX13_draws_212 (by decide) ?_
              exact ih187 v1 v2 x_181 u_179 _ _ _ (lv_sub hl [1, 2, 3, 0] rfl) hH hF
        refine hL187 _ (fun v1 v2 v3 u H locs ls hl hH hF => ?_) fuel v1 v2 v2 u _ _ _ (lv_sub hl [1, 2, 3, 0] rfl) hH hF
        refine lv_iconst (v := 0) hx hb dX13_draws_215 (by decide) ?_
        refine lv_istore_n (lv' := [(3, .int 0), (0, .ref (Q 72)), (1, .int v1), (2, .int v2)]) hx hb dX13_draws_216 rfl hl (by decide) rfl (fun ls hl => ?_)
        refine lv_iconst (v := 1) hx hb dX13_draws_217 (by decide) ?_
        refine lv_istore (lv' := [(4, .int 1), (3, .int 0), (0, .ref (Q 72)), (1, .int v1), (2, .int v2)]) hx hb dX13_draws_218 hl (by decide) rfl (fun ls hl => ?_)
        have hL220 : ∀ (K220_304 : Int32 → Int32 → Int32 → Int32 → PG (Int32)), (∀ (v1 v2 v3 v4 : Int32) (u : GS) (H : Heap) (locs : List Loc) (ls : Array Slot), lv_has ls 7 [(0, .ref (Q 72)), (1, .int v1), (2, .int v2), (3, .int v3), (4, .int v4)] → mH G Q u.1 s H locs → K220_304 v1 v2 v3 v4 u = some ((r, u1)) → W p l e (headSpec (Cond.code yX13_draws cX13_draws 7 (some .int) :: wM) { frames := 3, cells := 0, slots := 0, locals := 65 }).room s m [.ref (Q 72), .int a0].toArray below meth c H locs 0 0 (MQ below (mQi G Q u1.1 r s.heap.size) [.ref (Q 72), .int a0].toArray s 0 0 (mA Q s.heap.size)) (F0 m 304 ls [])) → ∀ (n220 : Nat) (v1 v2 v3 v4 : Int32) (u : GS) (H : Heap) (locs : List Loc) (ls : Array Slot), lv_has ls 7 [(0, .ref (Q 72)), (1, .int v1), (2, .int v2), (3, .int v3), (4, .int v4)] → mH G Q u.1 s H locs → lp_draws_220 n220 v1 v2 v3 v4 K220_304 u = some ((r, u1)) → W p l e (headSpec (Cond.code yX13_draws cX13_draws 7 (some .int) :: wM) { frames := 3, cells := 0, slots := 0, locals := 65 }).room s m [.ref (Q 72), .int a0].toArray below meth c H locs 0 0 (MQ below (mQi G Q u1.1 r s.heap.size) [.ref (Q 72), .int a0].toArray s 0 0 (mA Q s.heap.size)) (F0 m 220 ls []) := by
          intro K220_304 hK220_304 n220
          induction n220 with
          | zero => intro v1 v2 v3 v4 u H locs ls hl hH hF; cases hF
          | succ n220 ih220 =>
            intro v1 v2 v3 v4 u H locs ls hl hH hF
            unfold lp_draws_220 at hF
            refine lv_iload hx hb dX13_draws_220 (lv_at hl 4 rfl) ?_
            refine lv_bipush (v := 8) hx hb dX13_draws_222 (by decide) ?_
            refine lv_icmp_gt (tgt := 304) hx hb dX13_draws_224 (by decide) (fun c_183 => ?_) (fun c_183 => ?_)
            · rw [if_pos c_183] at hF
              exact hK220_304 v1 v2 v3 v4 u _ _ _ (lv_sub hl [0, 1, 2, 3, 4] rfl) hH hF
            · rw [if_neg c_183] at hF
              refine lv_iconst (v := 0) hx hb dX13_draws_227 (by decide) ?_
              refine lv_istore (lv' := [(5, .int 0), (0, .ref (Q 72)), (1, .int v1), (2, .int v2), (3, .int v3), (4, .int v4)]) hx hb dX13_draws_228 hl (by decide) rfl (fun ls hl => ?_)
              have hL230 : ∀ (K230_298 : Int32 → Int32 → Int32 → Int32 → Int32 → PG (Int32)), (∀ (v1 v2 v3 v4 v5 : Int32) (u : GS) (H : Heap) (locs : List Loc) (ls : Array Slot), lv_has ls 7 [(0, .ref (Q 72)), (1, .int v1), (2, .int v2), (3, .int v3), (4, .int v4), (5, .int v5)] → mH G Q u.1 s H locs → K230_298 v1 v2 v3 v4 v5 u = some ((r, u1)) → W p l e (headSpec (Cond.code yX13_draws cX13_draws 7 (some .int) :: wM) { frames := 3, cells := 0, slots := 0, locals := 65 }).room s m [.ref (Q 72), .int a0].toArray below meth c H locs 0 0 (MQ below (mQi G Q u1.1 r s.heap.size) [.ref (Q 72), .int a0].toArray s 0 0 (mA Q s.heap.size)) (F0 m 298 ls [])) → ∀ (n230 : Nat) (v1 v2 v3 v4 v5 : Int32) (u : GS) (H : Heap) (locs : List Loc) (ls : Array Slot), lv_has ls 7 [(0, .ref (Q 72)), (1, .int v1), (2, .int v2), (3, .int v3), (4, .int v4), (5, .int v5)] → mH G Q u.1 s H locs → lp_draws_230 n230 v1 v2 v3 v4 v5 K230_298 u = some ((r, u1)) → W p l e (headSpec (Cond.code yX13_draws cX13_draws 7 (some .int) :: wM) { frames := 3, cells := 0, slots := 0, locals := 65 }).room s m [.ref (Q 72), .int a0].toArray below meth c H locs 0 0 (MQ below (mQi G Q u1.1 r s.heap.size) [.ref (Q 72), .int a0].toArray s 0 0 (mA Q s.heap.size)) (F0 m 230 ls []) := by
                intro K230_298 hK230_298 n230
                induction n230 with
                | zero => intro v1 v2 v3 v4 v5 u H locs ls hl hH hF; cases hF
                | succ n230 ih230 =>
                  intro v1 v2 v3 v4 v5 u H locs ls hl hH hF
                  unfold lp_draws_230 at hF
                  refine lv_iload hx hb dX13_draws_230 (lv_at hl 5 rfl) ?_
                  refine lv_aload_n hx hb dX13_draws_232 rfl (lv_at hl 0 rfl) ?_
                  refine mg_2 hC hH dX13_draws_233 ?_
                  obtain ⟨x_184, e_185, hF⟩ := prf_some hF
                  refine gx_ti e_185 ?_
                  refine lv_icmp_ge (tgt := 298) hx hb dX13_draws_236 (by decide) (fun c_186 => ?_) (fun c_186 => ?_)
                  · rw [if_pos c_186] at hF
                    exact hK230_298 v1 v2 v3 v4 v5 u _ _ _ (lv_sub hl [0, 1, 2, 3, 4, 5] rfl) hH hF
                  · rw [if_neg c_186] at hF
                    refine lv_aload_n hx hb dX13_draws_239 rfl (lv_at hl 0 rfl) ?_
                    refine mg_5 hC hH dX13_draws_240 ?_
                    refine lv_iload hx hb dX13_draws_243 (lv_at hl 5 rfl) ?_
                    obtain ⟨x_187, g_188, e_189, hF⟩ := prd_some hF
                    refine ml_5 hC hH g_188 dX13_draws_245 ?_
                    refine gx_ti e_189 ?_
                    refine lv_iload_n hx hb dX13_draws_246 rfl (lv_at hl 1 rfl) ?_
                    refine lv_icmp_ne (tgt := 292) hx hb dX13_draws_247 (by decide) (fun c_190 => ?_) (fun c_190 => ?_)
                    · rw [if_neg c_190] at hF
                      obtain ⟨x_191, e_192, hF⟩ := pli_some hF
                      refine lv_iinc (v := x_191) (lv' := [(5, .int x_191), (0, .ref (Q 72)), (1, .int v1), (2, .int v2), (3, .int v3), (4, .int v4)]) hx hb dX13_draws_292 hl (k := 5) rfl e_192 (by decide) rfl (fun ls hl => ?_)
                      refine lv_goto (tgt := 230) hx hb dX13_draws_295 (by decide) ?_
                      exact ih230 v1 v2 v3 v4 x_191 u _ _ _ (lv_sub hl [1, 2, 3, 4, 5, 0] rfl) hH hF
                    · rw [if_pos c_190] at hF
                      refine lv_aload_n hx hb dX13_draws_250 rfl (lv_at hl 0 rfl) ?_
                      refine mg_8 hC hH dX13_draws_251 ?_
                      refine lv_iload hx hb dX13_draws_254 (lv_at hl 5 rfl) ?_
                      obtain ⟨x_193, g_194, e_195, hF⟩ := prd_some hF
                      refine ml_8 hC hH g_194 dX13_draws_256 ?_
                      refine gx_ti e_195 ?_
                      refine lv_iconst (v := 1) hx hb dX13_draws_257 (by decide) ?_
                      refine lv_icmp_ne (tgt := 292) hx hb dX13_draws_258 (by decide) (fun c_196 => ?_) (fun c_196 => ?_)
                      · rw [if_neg c_196] at hF
                        obtain ⟨x_197, e_198, hF⟩ := pli_some hF
                        refine lv_iinc (v := x_197) (lv' := [(5, .int x_197), (0, .ref (Q 72)), (1, .int v1), (2, .int v2), (3, .int v3), (4, .int v4)]) hx hb dX13_draws_292 hl (k := 5) rfl e_198 (by decide) rfl (fun ls hl => ?_)
                        refine lv_goto (tgt := 230) hx hb dX13_draws_295 (by decide) ?_
                        exact ih230 v1 v2 v3 v4 x_197 u _ _ _ (lv_sub hl [1, 2, 3, 4, 5, 0] rfl) hH hF
                      · rw [if_pos c_196] at hF
                        refine lv_aload_n hx hb dX13_draws_261 rfl (lv_at hl 0 rfl) ?_
                        refine mg_9 hC hH dX13_draws_262 ?_
                        refine lv_iload hx hb dX13_draws_265 (lv_at hl 5 rfl) ?_
                        obtain ⟨x_199, g_200, e_201, hF⟩ := prd_some hF
                        refine ml_9 hC hH g_200 dX13_draws_267 ?_
                        refine gx_ti e_201 ?_
                        refine lv_iload hx hb dX13_draws_268 (lv_at hl 4 rfl) ?_
                        refine lv_icmp_eq (tgt := 276) hx hb dX13_draws_270 (by decide) (fun c_202 => ?_) (fun c_202 => ?_)
                        · rw [if_pos c_202] at hF
                          refine lv_aload_n hx hb dX13_draws_276 rfl (lv_at hl 0 rfl) ?_
                          refine lv_iload_n hx hb dX13_draws_277 rfl (lv_at hl 1 rfl) ?_
                          refine lv_iload hx hb dX13_draws_278 (lv_at hl 5 rfl) ?_
                          refine lv_aload_n hx hb dX13_draws_280 rfl (lv_at hl 0 rfl) ?_
                          refine mg_57 hC hH dX13_draws_281 ?_
                          refine lv_iload_n hx hb dX13_draws_284 rfl (lv_at hl 3 rfl) ?_
                          obtain ⟨x_203, g_204, e_205, hF⟩ := prd_some hF
                          refine ml_57 hC hH g_204 dX13_draws_285 ?_
                          refine gx_ti e_205 ?_
                          obtain ⟨r_206, u_207, h_208, hF⟩ := pcl_some hF
                          refine mcV_v (As := [.int v1, .int v5, .int x_203]) (rest := []) hC hH (m_settle l G Z Q u u_207 r_206 v1 v5 x_203 _ h_208) kwX13_settle kVX13_settle ⟨Nat.le_of_ble_eq_true rfl, Nat.le_of_ble_eq_true rfl⟩ rfl hl.1 rfl (Nat.le_of_ble_eq_true rfl) dX13_draws_286 (fun H locs hH => ?_)
                          obtain ⟨x_209, e_210, hF⟩ := pli_some hF
                          refine lv_iinc (v := x_209) (lv' := [(3, .int x_209), (0, .ref (Q 72)), (1, .int v1), (2, .int v2), (4, .int v4), (5, .int v5)]) hx hb dX13_draws_289 hl (k := 3) rfl e_210 (by decide) rfl (fun ls hl => ?_)
                          obtain ⟨x_211, e_212, hF⟩ := pli_some hF
                          refine lv_iinc (v := x_211) (lv' := [(5, .int x_211), (3, .int x_209), (0, .ref (Q 72)), (1, .int v1), (2, .int v2), (4, .int v4)]) hx hb dX13_draws_292 hl (k := 5) rfl e_212 (by decide) rfl (fun ls hl => ?_)
                          refine lv_goto (tgt := 230) hx hb dX13_draws_295 (by decide) ?_
                          exact ih230 v1 v2 x_209 v4 x_211 u_207 _ _ _ (lv_sub hl [2, 3, 4, 1, 5, 0] rfl) hH hF
                        · rw [if_neg c_202] at hF
                          refine lv_goto (tgt := 292) hx hb dX13_draws_273 (by decide) ?_
                          obtain ⟨x_213, e_214, hF⟩ := pli_some hF
                          refine lv_iinc (v := x_213) (lv' := [(5, .int x_213), (0, .ref (Q 72)), (1, .int v1), (2, .int v2), (3, .int v3), (4, .int v4)]) hx hb dX13_draws_292 hl (k := 5) rfl e_214 (by decide) rfl (fun ls hl => ?_)
                          refine lv_goto (tgt := 230) hx hb dX13_draws_295 (by decide) ?_
                          exact ih230 v1 v2 v3 v4 x_213 u _ _ _ (lv_sub hl [1, 2, 3, 4, 5, 0] rfl) hH hF
              refine hL230 _ (fun v1 v2 v3 v4 v5 u H locs ls hl hH hF => ?_) fuel v1 v2 v3 v4 0 u _ _ _ (lv_sub hl [1, 2, 3, 4, 5, 0] rfl) hH hF
              obtain ⟨x_215, e_216, hF⟩ := pli_some hF
              refine lv_iinc (v := x_215) (lv' := [(4, .int x_215), (0, .ref (Q 72)), (1, .int v1), (2, .int v2), (3, .int v3), (5, .int v5)]) hx hb dX13_draws_298 hl (k := 4) rfl e_216 (by decide) rfl (fun ls hl => ?_)
              refine lv_goto (tgt := 220) hx hb dX13_draws_301 (by decide) ?_
              exact ih220 v1 v2 v3 x_215 u _ _ _ (lv_sub hl [1, 2, 3, 4, 0] rfl) hH hF
        refine hL220 _ (fun v1 v2 v3 v4 u H locs ls hl hH hF => ?_) fuel v1 v2 0 1 u _ _ _ (lv_sub hl [2, 3, 4, 1, 0] rfl) hH hF
        refine lv_iconst (v := 0) hx hb dX13_draws_304 (by decide) ?_
        refine lv_istore (lv' := [(4, .int 0), (0, .ref (Q 72)), (1, .int v1), (2, .int v2), (3, .int v3)]) hx hb dX13_draws_305 hl (by decide) rfl (fun ls hl => ?_)
        have hL307 : ∀ (K307_328 : Int32 → Int32 → Int32 → Int32 → PG (Int32)), (∀ (v1 v2 v3 v4 : Int32) (u : GS) (H : Heap) (locs : List Loc) (ls : Array Slot), lv_has ls 7 [(0, .ref (Q 72)), (1, .int v1), (2, .int v2), (3, .int v3), (4, .int v4)] → mH G Q u.1 s H locs → K307_328 v1 v2 v3 v4 u = some ((r, u1)) → W p l e (headSpec (Cond.code yX13_draws cX13_draws 7 (some .int) :: wM) { frames := 3, cells := 0, slots := 0, locals := 65 }).room s m [.ref (Q 72), .int a0].toArray below meth c H locs 0 0 (MQ below (mQi G Q u1.1 r s.heap.size) [.ref (Q 72), .int a0].toArray s 0 0 (mA Q s.heap.size)) (F0 m 328 ls [])) → ∀ (n307 : Nat) (v1 v2 v3 v4 : Int32) (u : GS) (H : Heap) (locs : List Loc) (ls : Array Slot), lv_has ls 7 [(0, .ref (Q 72)), (1, .int v1), (2, .int v2), (3, .int v3), (4, .int v4)] → mH G Q u.1 s H locs → lp_draws_307 n307 v1 v2 v3 v4 K307_328 u = some ((r, u1)) → W p l e (headSpec (Cond.code yX13_draws cX13_draws 7 (some .int) :: wM) { frames := 3, cells := 0, slots := 0, locals := 65 }).room s m [.ref (Q 72), .int a0].toArray below meth c H locs 0 0 (MQ below (mQi G Q u1.1 r s.heap.size) [.ref (Q 72), .int a0].toArray s 0 0 (mA Q s.heap.size)) (F0 m 307 ls []) := by
          intro K307_328 hK307_328 n307
          induction n307 with
          | zero => intro v1 v2 v3 v4 u H locs ls hl hH hF; cases hF
          | succ n307 ih307 =>
            intro v1 v2 v3 v4 u H locs ls hl hH hF
            unfold lp_draws_307 at hF
            refine lv_iload hx hb dX13_draws_307 (lv_at hl 4 rfl) ?_
            refine lv_bipush (v := 16) hx hb dX13_draws_309 (by decide) ?_
            refine lv_icmp_ge (tgt := 328) hx hb dX13_draws_311 (by decide) (fun c_217 => ?_) (fun c_217 => ?_)
            · rw [if_pos c_217] at hF
              exact hK307_328 v1 v2 v3 v4 u _ _ _ (lv_sub hl [0, 1, 2, 3, 4] rfl) hH hF
            · rw [if_neg c_217] at hF
              refine lv_aload_n hx hb dX13_draws_314 rfl (lv_at hl 0 rfl) ?_
              refine mg_59 hC hH dX13_draws_315 ?_
              refine lv_iload hx hb dX13_draws_318 (lv_at hl 4 rfl) ?_
              refine lv_iconst (v := 0) hx hb dX13_draws_320 (by decide) ?_
              obtain ⟨u_219, g_218, e_220, hF⟩ := pwd_some hF
              refine ms_59 hC hH e_220 g_218 dX13_draws_321 (fun H locs hH => ?_)
              obtain ⟨x_221, e_222, hF⟩ := pli_some hF
              refine lv_iinc (v := x_221) (lv' := [(4, .int x_221), (0, .ref (Q 72)), (1, .int v1), (2, .int v2), (3, .int v3)]) hx hb dX13_draws_322 hl (k := 4) rfl e_222 (by decide) rfl (fun ls hl => ?_)
              refine lv_goto (tgt := 307) hx hb dX13_draws_325 (by decide) ?_
              exact ih307 v1 v2 v3 x_221 u_219 _ _ _ (lv_sub hl [1, 2, 3, 4, 0] rfl) hH hF
        refine hL307 _ (fun v1 v2 v3 v4 u H locs ls hl hH hF => ?_) fuel v1 v2 v3 0 u _ _ _ (lv_sub hl [1, 2, 3, 4, 0] rfl) hH hF
        refine lv_iconst (v := 0) hx hb dX13_draws_328 (by decide) ?_
        refine lv_istore (lv' := [(4, .int 0), (0, .ref (Q 72)), (1, .int v1), (2, .int v2), (3, .int v3)]) hx hb dX13_draws_329 hl (by decide) rfl (fun ls hl => ?_)
        have hL331 : ∀ (K331_372 : Int32 → Int32 → Int32 → Int32 → PG (Int32)), (∀ (v1 v2 v3 v4 : Int32) (u : GS) (H : Heap) (locs : List Loc) (ls : Array Slot), lv_has ls 7 [(0, .ref (Q 72)), (1, .int v1), (2, .int v2), (3, .int v3), (4, .int v4)] → mH G Q u.1 s H locs → K331_372 v1 v2 v3 v4 u = some ((r, u1)) → W p l e (headSpec (Cond.code yX13_draws cX13_draws 7 (some .int) :: wM) { frames := 3, cells := 0, slots := 0, locals := 65 }).room s m [.ref (Q 72), .int a0].toArray below meth c H locs 0 0 (MQ below (mQi G Q u1.1 r s.heap.size) [.ref (Q 72), .int a0].toArray s 0 0 (mA Q s.heap.size)) (F0 m 372 ls [])) → ∀ (n331 : Nat) (v1 v2 v3 v4 : Int32) (u : GS) (H : Heap) (locs : List Loc) (ls : Array Slot), lv_has ls 7 [(0, .ref (Q 72)), (1, .int v1), (2, .int v2), (3, .int v3), (4, .int v4)] → mH G Q u.1 s H locs → lp_draws_331 n331 v1 v2 v3 v4 K331_372 u = some ((r, u1)) → W p l e (headSpec (Cond.code yX13_draws cX13_draws 7 (some .int) :: wM) { frames := 3, cells := 0, slots := 0, locals := 65 }).room s m [.ref (Q 72), .int a0].toArray below meth c H locs 0 0 (MQ below (mQi G Q u1.1 r s.heap.size) [.ref (Q 72), .int a0].toArray s 0 0 (mA Q s.heap.size)) (F0 m 331 ls []) := by
          intro K331_372 hK331_372 n331
          induction n331 with
          | zero => intro v1 v2 v3 v4 u H locs ls hl hH hF; cases hF
          | succ n331 ih331 =>
            intro v1 v2 v3 v4 u H locs ls hl hH hF
            unfold lp_draws_331 at hF
            refine lv_iload hx hb dX13_draws_331 (lv_at hl 4 rfl) ?_
            refine lv_aload_n hx hb dX13_draws_333 rfl (lv_at hl 0 rfl) ?_
            refine mg_2 hC hH dX13_draws_334 ?_
            obtain ⟨x_223, e_224, hF⟩ := prf_some hF
            refine gx_ti e_224 ?_
            refine lv_icmp_ge (tgt := 372) hx hb dX13_draws_337 (by decide) (fun c_225 => ?_) (fun c_225 => ?_)
            · rw [if_pos c_225] at hF
              exact hK331_372 v1 v2 v3 v4 u _ _ _ (lv_sub hl [0, 1, 2, 3, 4] rfl) hH hF
            · rw [if_neg c_225] at hF
              refine lv_aload_n hx hb dX13_draws_340 rfl (lv_at hl 0 rfl) ?_
              refine lv_iload_n hx hb dX13_draws_341 rfl (lv_at hl 1 rfl) ?_
              refine lv_iload hx hb dX13_draws_342 (lv_at hl 4 rfl) ?_
              obtain ⟨r_226, u_227, h_228, hF⟩ := pcl_some hF
              refine mcV_i (As := [.int v1, .int v4]) (rest := []) hC hH (m_isOther l G Z Q u u_227 r_226 v1 v4 _ h_228) kwX13_isOther kVX13_isOther ⟨Nat.le_of_ble_eq_true rfl, Nat.le_of_ble_eq_true rfl⟩ rfl hl.1 rfl (Nat.le_of_ble_eq_true rfl) dX13_draws_344 (fun H locs hH => ?_)
              refine lv_if_eq (tgt := 366) hx hb dX13_draws_347 (by decide) (fun c_229 => ?_) (fun c_229 => ?_)
              · rw [if_pos c_229] at hF
                obtain ⟨x_230, e_231, hF⟩ := pli_some hF
                refine lv_iinc (v := x_230) (lv' := [(4, .int x_230), (0, .ref (Q 72)), (1, .int v1), (2, .int v2), (3, .int v3)]) hx hb dX13_draws_366 hl (k := 4) rfl e_231 (by decide) rfl (fun ls hl => ?_)
                refine lv_goto (tgt := 331) hx hb dX13_draws_369 (by decide) ?_
                exact ih331 v1 v2 v3 x_230 u_227 _ _ _ (lv_sub hl [1, 2, 3, 4, 0] rfl) hH hF
              · rw [if_neg c_229] at hF
                refine lv_aload_n hx hb dX13_draws_350 rfl (lv_at hl 0 rfl) ?_
                refine mg_59 hC hH dX13_draws_351 ?_
                refine lv_aload_n hx hb dX13_draws_354 rfl (lv_at hl 0 rfl) ?_
                refine mg_6 hC hH dX13_draws_355 ?_
                refine lv_iload hx hb dX13_draws_358 (lv_at hl 4 rfl) ?_
                obtain ⟨x_232, g_233, e_234, hF⟩ := prd_some hF
                refine ml_6 hC hH g_233 dX13_draws_360 ?_
                refine gx_ti e_234 ?_
                refine lv_dup2_11 hx hb dX13_draws_361 rfl rfl ?_
                obtain ⟨x_235, g_236, e_237, hF⟩ := prd_some hF
                refine ml_59 hC hH g_236 dX13_draws_362 ?_
                refine gx_ti e_237 ?_
                refine lv_iconst (v := 1) hx hb dX13_draws_363 (by decide) ?_
                refine lv_iadd hx hb dX13_draws_364 ?_
                obtain ⟨u_239, g_238, e_240, hF⟩ := pwd_some hF
                refine ms_59 hC hH e_240 g_238 dX13_draws_365 (fun H locs hH => ?_)
                obtain ⟨x_241, e_242, hF⟩ := pli_some hF
                refine lv_iinc (v := x_241) (lv' := [(4, .int x_241), (0, .ref (Q 72)), (1, .int v1), (2, .int v2), (3, .int v3)]) hx hb dX13_draws_366 hl (k := 4) rfl e_242 (by decide) rfl (fun ls hl => ?_)
                refine lv_goto (tgt := 331) hx hb dX13_draws_369 (by decide) ?_
                exact ih331 v1 v2 v3 x_241 u_239 _ _ _ (lv_sub hl [1, 2, 3, 4, 0] rfl) hH hF
        refine hL331 _ (fun v1 v2 v3 v4 u H locs ls hl hH hF => ?_) fuel v1 v2 v3 0 u _ _ _ (lv_sub hl [1, 2, 3, 4, 0] rfl) hH hF
        refine lv_iconst (v := 0) hx hb dX13_draws_372 (by decide) ?_
        refine lv_istore (lv' := [(4, .int 0), (0, .ref (Q 72)), (1, .int v1), (2, .int v2), (3, .int v3)]) hx hb dX13_draws_373 hl (by decide) rfl (fun ls hl => ?_)
        have hL375 : ∀ (K375_496 : Int32 → Int32 → Int32 → Int32 → PG (Int32)), (∀ (v1 v2 v3 v4 : Int32) (u : GS) (H : Heap) (locs : List Loc) (ls : Array Slot), lv_has ls 7 [(0, .ref (Q 72)), (1, .int v1), (2, .int v2), (3, .int v3), (4, .int v4)] → mH G Q u.1 s H locs → K375_496 v1 v2 v3 v4 u = some ((r, u1)) → W p l e (headSpec (Cond.code yX13_draws cX13_draws 7 (some .int) :: wM) { frames := 3, cells := 0, slots := 0, locals := 65 }).room s m [.ref (Q 72), .int a0].toArray below meth c H locs 0 0 (MQ below (mQi G Q u1.1 r s.heap.size) [.ref (Q 72), .int a0].toArray s 0 0 (mA Q s.heap.size)) (F0 m 496 ls [])) → ∀ (n375 : Nat) (v1 v2 v3 v4 : Int32) (u : GS) (H : Heap) (locs : List Loc) (ls : Array Slot), lv_has ls 7 [(0, .ref (Q 72)), (1, .int v1), (2, .int v2), (3, .int v3), (4, .int v4)] → mH G Q u.1 s H locs → lp_draws_375 n375 v1 v2 v3 v4 K375_496 u = some ((r, u1)) → W p l e (headSpec (Cond.code yX13_draws cX13_draws 7 (some .int) :: wM) { frames := 3, cells := 0, slots := 0, locals := 65 }).room s m [.ref (Q 72), .int a0].toArray below meth c H locs 0 0 (MQ below (mQi G Q u1.1 r s.heap.size) [.ref (Q 72), .int a0].toArray s 0 0 (mA Q s.heap.size)) (F0 m 375 ls []) := by
          intro K375_496 hK375_496 n375
          induction n375 with
          | zero => intro v1 v2 v3 v4 u H locs ls hl hH hF; cases hF
          | succ n375 ih375 =>
            intro v1 v2 v3 v4 u H locs ls hl hH hF
            unfold lp_draws_375 at hF
            refine lv_iload hx hb dX13_draws_375 (lv_at hl 4 rfl) ?_
            refine lv_bipush (v := 16) hx hb dX13_draws_377 (by decide) ?_
            refine lv_icmp_ge (tgt := 496) hx hb dX13_draws_379 (by decide) (fun c_243 => ?_) (fun c_243 => ?_)
            · rw [if_pos c_243] at hF
              exact hK375_496 v1 v2 v3 v4 u _ _ _ (lv_sub hl [0, 1, 2, 3, 4] rfl) hH hF
            · rw [if_neg c_243] at hF
              refine lv_iconst (v := 0) hx hb dX13_draws_382 (by decide) ?_
              refine lv_istore (lv' := [(5, .int 0), (0, .ref (Q 72)), (1, .int v1), (2, .int v2), (3, .int v3), (4, .int v4)]) hx hb dX13_draws_383 hl (by decide) rfl (fun ls hl => ?_)
              refine lv_iconst (v := 1) hx hb dX13_draws_385 (by decide) ?_
              refine lv_istore (lv' := [(6, .int 1), (5, .int 0), (0, .ref (Q 72)), (1, .int v1), (2, .int v2), (3, .int v3), (4, .int v4)]) hx hb dX13_draws_386 hl (by decide) rfl (fun ls hl => ?_)
              have hL388 : ∀ (K388_422 : Int32 → Int32 → Int32 → Int32 → Int32 → Int32 → PG (Int32)), (∀ (v1 v2 v3 v4 v5 v6 : Int32) (u : GS) (H : Heap) (locs : List Loc) (ls : Array Slot), lv_has ls 7 [(0, .ref (Q 72)), (1, .int v1), (2, .int v2), (3, .int v3), (4, .int v4), (5, .int v5), (6, .int v6)] → mH G Q u.1 s H locs → K388_422 v1 v2 v3 v4 v5 v6 u = some ((r, u1)) → W p l e (headSpec (Cond.code yX13_draws cX13_draws 7 (some .int) :: wM) { frames := 3, cells := 0, slots := 0, locals := 65 }).room s m [.ref (Q 72), .int a0].toArray below meth c H locs 0 0 (MQ below (mQi G Q u1.1 r s.heap.size) [.ref (Q 72), .int a0].toArray s 0 0 (mA Q s.heap.size)) (F0 m 422 ls [])) → ∀ (n388 : Nat) (v1 v2 v3 v4 v5 v6 : Int32) (u : GS) (H : Heap) (locs : List Loc) (ls : Array Slot), lv_has ls 7 [(0, .ref (Q 72)), (1, .int v1), (2, .int v2), (3, .int v3), (4, .int v4), (5, .int v5), (6, .int v6)] → mH G Q u.1 s H locs → lp_draws_388 n388 v1 v2 v3 v4 v5 v6 K388_422 u = some ((r, u1)) → W p l e (headSpec (Cond.code yX13_draws cX13_draws 7 (some .int) :: wM) { frames := 3, cells := 0, slots := 0, locals := 65 }).room s m [.ref (Q 72), .int a0].toArray below meth c H locs 0 0 (MQ below (mQi G Q u1.1 r s.heap.size) [.ref (Q 72), .int a0].toArray s 0 0 (mA Q s.heap.size)) (F0 m 388 ls []) := by
                intro K388_422 hK388_422 n388
                induction n388 with
                | zero => intro v1 v2 v3 v4 v5 v6 u H locs ls hl hH hF; cases hF
                | succ n388 ih388 =>
                  intro v1 v2 v3 v4 v5 v6 u H locs ls hl hH hF
                  unfold lp_draws_388 at hF
                  refine lv_iload hx hb dX13_draws_388 (lv_at hl 6 rfl) ?_
                  refine lv_bipush (v := 16) hx hb dX13_draws_390 (by decide) ?_
                  refine lv_icmp_ge (tgt := 422) hx hb dX13_draws_392 (by decide) (fun c_244 => ?_) (fun c_244 => ?_)
                  · rw [if_pos c_244] at hF
                    exact hK388_422 v1 v2 v3 v4 v5 v6 u _ _ _ (lv_sub hl [0, 1, 2, 3, 4, 5, 6] rfl) hH hF
                  · rw [if_neg c_244] at hF
                    refine lv_aload_n hx hb dX13_draws_395 rfl (lv_at hl 0 rfl) ?_
                    refine mg_59 hC hH dX13_draws_396 ?_
                    refine lv_iload hx hb dX13_draws_399 (lv_at hl 6 rfl) ?_
                    obtain ⟨x_245, g_246, e_247, hF⟩ := prd_some hF
                    refine ml_59 hC hH g_246 dX13_draws_401 ?_
                    refine gx_ti e_247 ?_
                    refine lv_aload_n hx hb dX13_draws_402 rfl (lv_at hl 0 rfl) ?_
                    refine mg_59 hC hH dX13_draws_403 ?_
                    refine lv_iload hx hb dX13_draws_406 (lv_at hl 5 rfl) ?_
                    obtain ⟨x_248, g_249, e_250, hF⟩ := prd_some hF
                    refine ml_59 hC hH g_249 dX13_draws_408 ?_
                    refine gx_ti e_250 ?_
                    refine lv_icmp_le (tgt := 416) hx hb dX13_draws_409 (by decide) (fun c_251 => ?_) (fun c_251 => ?_)
                    · rw [if_pos c_251] at hF
                      obtain ⟨x_252, e_253, hF⟩ := pli_some hF
                      refine lv_iinc (v := x_252) (lv' := [(6, .int x_252), (0, .ref (Q 72)), (1, .int v1), (2, .int v2), (3, .int v3), (4, .int v4), (5, .int v5)]) hx hb dX13_draws_416 hl (k := 6) rfl e_253 (by decide) rfl (fun ls hl => ?_)
                      refine lv_goto (tgt := 388) hx hb dX13_draws_419 (by decide) ?_
                      exact ih388 v1 v2 v3 v4 v5 x_252 u _ _ _ (lv_sub hl [1, 2, 3, 4, 5, 6, 0] rfl) hH hF
                    · rw [if_neg c_251] at hF
                      refine lv_iload hx hb dX13_draws_412 (lv_at hl 6 rfl) ?_
                      refine lv_istore (lv' := [(5, .int v6), (0, .ref (Q 72)), (1, .int v1), (2, .int v2), (3, .int v3), (4, .int v4), (6, .int v6)]) hx hb dX13_draws_414 hl (by decide) rfl (fun ls hl => ?_)
                      obtain ⟨x_254, e_255, hF⟩ := pli_some hF
                      refine lv_iinc (v := x_254) (lv' := [(6, .int x_254), (5, .int v6), (0, .ref (Q 72)), (1, .int v1), (2, .int v2), (3, .int v3), (4, .int v4)]) hx hb dX13_draws_416 hl (k := 6) rfl e_255 (by decide) rfl (fun ls hl => ?_)
                      refine lv_goto (tgt := 388) hx hb dX13_draws_419 (by decide) ?_
                      exact ih388 v1 v2 v3 v4 v6 x_254 u _ _ _ (lv_sub hl [2, 3, 4, 5, 6, 1, 0] rfl) hH hF
              refine hL388 _ (fun v1 v2 v3 v4 v5 v6 u H locs ls hl hH hF => ?_) fuel v1 v2 v3 v4 0 1 u _ _ _ (lv_sub hl [2, 3, 4, 5, 6, 1, 0] rfl) hH hF
              refine lv_iconst (v := 0) hx hb dX13_draws_422 (by decide) ?_
              refine lv_istore (lv' := [(6, .int 0), (0, .ref (Q 72)), (1, .int v1), (2, .int v2), (3, .int v3), (4, .int v4), (5, .int v5)]) hx hb dX13_draws_423 hl (by decide) rfl (fun ls hl => ?_)
              have hL425 : ∀ (K425_482 : Int32 → Int32 → Int32 → Int32 → Int32 → Int32 → PG (Int32)), (∀ (v1 v2 v3 v4 v5 v6 : Int32) (u : GS) (H : Heap) (locs : List Loc) (ls : Array Slot), lv_has ls 7 [(0, .ref (Q 72)), (1, .int v1), (2, .int v2), (3, .int v3), (4, .int v4), (5, .int v5), (6, .int v6)] → mH G Q u.1 s H locs → K425_482 v1 v2 v3 v4 v5 v6 u = some ((r, u1)) → W p l e (headSpec (Cond.code yX13_draws cX13_draws 7 (some .int) :: wM) { frames := 3, cells := 0, slots := 0, locals := 65 }).room s m [.ref (Q 72), .int a0].toArray below meth c H locs 0 0 (MQ below (mQi G Q u1.1 r s.heap.size) [.ref (Q 72), .int a0].toArray s 0 0 (mA Q s.heap.size)) (F0 m 482 ls [])) → ∀ (n425 : Nat) (v1 v2 v3 v4 v5 v6 : Int32) (u : GS) (H : Heap) (locs : List Loc) (ls : Array Slot), lv_has ls 7 [(0, .ref (Q 72)), (1, .int v1), (2, .int v2), (3, .int v3), (4, .int v4), (5, .int v5), (6, .int v6)] → mH G Q u.1 s H locs → lp_draws_425 n425 v1 v2 v3 v4 v5 v6 K425_482 u = some ((r, u1)) → W p l e (headSpec (Cond.code yX13_draws cX13_draws 7 (some .int) :: wM) { frames := 3, cells := 0, slots := 0, locals := 65 }).room s m [.ref (Q 72), .int a0].toArray below meth c H locs 0 0 (MQ below (mQi G Q u1.1 r s.heap.size) [.ref (Q 72), .int a0].toArray s 0 0 (mA Q s.heap.size)) (F0 m 425 ls []) := by
                intro K425_482 hK425_482 n425
                induction n425 with
                | zero => intro v1 v2 v3 v4 v5 v6 u H locs ls hl hH hF; cases hF
                | succ n425 ih425 =>
                  intro v1 v2 v3 v4 v5 v6 u H locs ls hl hH hF
                  unfold lp_draws_425 at hF
                  refine lv_iload hx hb dX13_draws_425 (lv_at hl 6 rfl) ?_
                  refine lv_aload_n hx hb dX13_draws_427 rfl (lv_at hl 0 rfl) ?_
                  refine mg_2 hC hH dX13_draws_428 ?_
                  obtain ⟨x_256, e_257, hF⟩ := prf_some hF
                  refine gx_ti e_257 ?_
                  refine lv_icmp_ge (tgt := 482) hx hb dX13_draws_431 (by decide) (fun c_258 => ?_) (fun c_258 => ?_)
                  · rw [if_pos c_258] at hF
                    exact hK425_482 v1 v2 v3 v4 v5 v6 u _ _ _ (lv_sub hl [0, 1, 2, 3, 4, 5, 6] rfl) hH hF
                  · rw [if_neg c_258] at hF
                    refine lv_aload_n hx hb dX13_draws_434 rfl (lv_at hl 0 rfl) ?_
                    refine mg_6 hC hH dX13_draws_435 ?_
                    refine lv_iload hx hb dX13_draws_438 (lv_at hl 6 rfl) ?_
                    obtain ⟨x_259, g_260, e_261, hF⟩ := prd_some hF
                    refine ml_6 hC hH g_260 dX13_draws_440 ?_
                    refine gx_ti e_261 ?_
                    refine lv_iload hx hb dX13_draws_441 (lv_at hl 5 rfl) ?_
                    refine lv_icmp_ne (tgt := 476) hx hb dX13_draws_443 (by decide) (fun c_262 => ?_) (fun c_262 => ?_)
                    · rw [if_neg c_262] at hF
                      obtain ⟨x_263, e_264, hF⟩ := pli_some hF
                      refine lv_iinc (v := x_263) (lv' := [(6, .int x_263), (0, .ref (Q 72)), (1, .int v1), (2, .int v2), (3, .int v3), (4, .int v4), (5, .int v5)]) hx hb dX13_draws_476 hl (k := 6) rfl e_264 (by decide) rfl (fun ls hl => ?_)
                      refine lv_goto (tgt := 425) hx hb dX13_draws_479 (by decide) ?_
                      exact ih425 v1 v2 v3 v4 v5 x_263 u _ _ _ (lv_sub hl [1, 2, 3, 4, 5, 6, 0] rfl) hH hF
                    · rw [if_pos c_262] at hF
                      refine lv_aload_n hx hb dX13_draws_446 rfl (lv_at hl 0 rfl) ?_
                      refine lv_iload_n hx hb dX13_draws_447 rfl (lv_at hl 1 rfl) ?_
                      refine lv_iload hx hb dX13_draws_448 (lv_at hl 6 rfl) ?_
                      obtain ⟨r_265, u_266, h_267, hF⟩ := pcl_some hF
                      refine mcV_i (As := [.int v1, .int v6]) (rest := []) hC hH (m_isOther l G Z Q u u_266 r_265 v1 v6 _ h_267) kwX13_isOther kVX13_isOther ⟨Nat.le_of_ble_eq_true rfl, Nat.le_of_ble_eq_true rfl⟩ rfl hl.1 rfl (Nat.le_of_ble_eq_true rfl) dX13_draws_450 (fun H locs hH => ?_)
                      refine lv_if_eq (tgt := 476) hx hb dX13_draws_453 (by decide) (fun c_268 => ?_) (fun c_268 => ?_)
                      · rw [if_pos c_268] at hF
                        obtain ⟨x_269, e_270, hF⟩ := pli_some hF
                        refine lv_iinc (v := x_269) (lv' := [(6, .int x_269), (0, .ref (Q 72)), (1, .int v1), (2, .int v2), (3, .int v3), (4, .int v4), (5, .int v5)]) hx hb dX13_draws_476 hl (k := 6) rfl e_270 (by decide) rfl (fun ls hl => ?_)
                        refine lv_goto (tgt := 425) hx hb dX13_draws_479 (by decide) ?_
                        exact ih425 v1 v2 v3 v4 v5 x_269 u_266 _ _ _ (lv_sub hl [1, 2, 3, 4, 5, 6, 0] rfl) hH hF
                      · rw [if_neg c_268] at hF
                        refine lv_aload_n hx hb dX13_draws_456 rfl (lv_at hl 0 rfl) ?_
                        refine lv_iload_n hx hb dX13_draws_457 rfl (lv_at hl 1 rfl) ?_
                        refine lv_iload hx hb dX13_draws_458 (lv_at hl 6 rfl) ?_
                        refine lv_aload_n hx hb dX13_draws_460 rfl (lv_at hl 0 rfl) ?_
                        refine lv_iload_n hx hb dX13_draws_461 rfl (lv_at hl 1 rfl) ?_
                        refine lv_iload hx hb dX13_draws_462 (lv_at hl 5 rfl) ?_
                        refine lv_aload_n hx hb dX13_draws_464 rfl (lv_at hl 0 rfl) ?_
                        refine mg_13 hC hH dX13_draws_465 ?_
                        refine lv_iload_n hx hb dX13_draws_468 rfl (lv_at hl 1 rfl) ?_
                        obtain ⟨x_271, g_272, e_273, hF⟩ := prd_some hF
                        refine ml_13 hC hH g_272 dX13_draws_469 ?_
                        refine gx_ti e_273 ?_
                        obtain ⟨r_274, u_275, h_276, hF⟩ := pcl_some hF
                        refine mcV_i (As := [.int v1, .int v5, .int x_271]) (rest := [.int v6, .int v1, .ref (Q 72)]) hC hH (m_bestPlace l G Z Q u_266 u_275 r_274 v1 v5 x_271 _ h_276) kwX13_bestPlace kVX13_bestPlace ⟨Nat.le_of_ble_eq_true rfl, Nat.le_of_ble_eq_true rfl⟩ rfl hl.1 rfl (Nat.le_of_ble_eq_true rfl) dX13_draws_470 (fun H locs hH => ?_)
                        obtain ⟨r_277, u_278, h_279, hF⟩ := pcl_some hF
                        refine mcV_v (As := [.int v1, .int v6, .int r_274]) (rest := []) hC hH (m_settle l G Z Q u_275 u_278 r_277 v1 v6 r_274 _ h_279) kwX13_settle kVX13_settle ⟨Nat.le_of_ble_eq_true rfl, Nat.le_of_ble_eq_true rfl⟩ rfl hl.1 rfl (Nat.le_of_ble_eq_true rfl) dX13_draws_473 (fun H locs hH => ?_)
                        obtain ⟨x_280, e_281, hF⟩ := pli_some hF
                        refine lv_iinc (v := x_280) (lv' := [(6, .int x_280), (0, .ref (Q 72)), (1, .int v1), (2, .int v2), (3, .int v3), (4, .int v4), (5, .int v5)]) hx hb dX13_draws_476 hl (k := 6) rfl e_281 (by decide) rfl (fun ls hl => ?_)
                        refine lv_goto (tgt := 425) hx hb dX13_draws_479 (by decide) ?_
                        exact ih425 v1 v2 v3 v4 v5 x_280 u_278 _ _ _ (lv_sub hl [1, 2, 3, 4, 5, 6, 0] rfl) hH hF
              refine hL425 _ (fun v1 v2 v3 v4 v5 v6 u H locs ls hl hH hF => ?_) fuel v1 v2 v3 v4 v5 0 u _ _ _ (lv_sub hl [1, 2, 3, 4, 5, 6, 0] rfl) hH hF
              refine lv_aload_n hx hb dX13_draws_482 rfl (lv_at hl 0 rfl) ?_
              refine mg_59 hC hH dX13_draws_483 ?_
              refine lv_iload hx hb dX13_draws_486 (lv_at hl 5 rfl) ?_
              refine lv_iconst (v := (-1)) hx hb dX13_draws_488 (by decide) ?_
              obtain ⟨u_283, g_282, e_284, hF⟩ := pwd_some hF
              refine ms_59 hC hH e_284 g_282 dX13_draws_489 (fun H locs hH => ?_)
              obtain ⟨x_285, e_286, hF⟩ := pli_some hF
              refine lv_iinc (v := x_285) (lv' := [(4, .int x_285), (0, .ref (Q 72)), (1, .int v1), (2, .int v2), (3, .int v3), (5, .int v5), (6, .int v6)]) hx hb dX13_draws_490 hl (k := 4) rfl e_286 (by decide) rfl (fun ls hl => ?_)
              refine lv_goto (tgt := 375) hx hb dX13_draws_493 (by decide) ?_
              exact ih375 v1 v2 v3 x_285 u_283 _ _ _ (lv_sub hl [1, 2, 3, 4, 0] rfl) hH hF
        refine hL375 _ (fun v1 v2 v3 v4 u H locs ls hl hH hF => ?_) fuel v1 v2 v3 0 u _ _ _ (lv_sub hl [1, 2, 3, 4, 0] rfl) hH hF
        refine lv_aload_n hx hb dX13_draws_496 rfl (lv_at hl 0 rfl) ?_
        refine lv_iload_n hx hb dX13_draws_497 rfl (lv_at hl 1 rfl) ?_
        obtain ⟨r_287, u_288, h_289, hF⟩ := pcl_some hF
        refine mcV_i (As := [.int v1]) (rest := []) hC hH (m_fights l G Z Q u u_288 r_287 v1 _ h_289) kwX13_fights kVX13_fights ⟨Nat.le_of_ble_eq_true rfl, Nat.le_of_ble_eq_true rfl⟩ rfl hl.1 rfl (Nat.le_of_ble_eq_true rfl) dX13_draws_498 (fun H locs hH => ?_)
        have hF := prt_eq hF
        exact mr_i hC hH hr hF dX13_draws_501 hlocks
    · rw [if_neg c_8] at hF
      refine lv_bipush (v := 32) hx hb dX13_draws_119 (by decide) ?_
      refine lv_goto (tgt := 137) hx hb dX13_draws_121 (by decide) ?_
      obtain ⟨u_291, g_290, e_292, hF⟩ := pwd_some hF
      refine ms_13 hC hH e_292 g_290 dX13_draws_137 (fun H locs hH => ?_)
      refine lv_aload_n hx hb dX13_draws_138 rfl (lv_at hl 1 rfl) ?_
      refine lv_aload_n hx hb dX13_draws_139 rfl (lv_at hl 1 rfl) ?_
      refine mg_13 hC hH dX13_draws_140 ?_
      refine lv_iload_n hx hb dX13_draws_143 rfl (lv_at hl 2 rfl) ?_
      obtain ⟨x_293, g_294, e_295, hF⟩ := prd_some hF
      refine ml_13 hC hH g_294 dX13_draws_144 ?_
      refine gx_ti e_295 ?_
      obtain ⟨r_296, u_297, h_298, hF⟩ := pcl_some hF
      refine mcV_v (As := [.int x_293]) (rest := []) hC hH (m_makeRow l G Z Q u_291 u_297 r_296 x_293 _ h_298) kwX13_makeRow kVX13_makeRow ⟨Nat.le_of_ble_eq_true rfl, Nat.le_of_ble_eq_true rfl⟩ rfl hl.1 rfl (Nat.le_of_ble_eq_true rfl) dX13_draws_145 (fun H locs hH => ?_)
      refine lv_iconst (v := 0) hx hb dX13_draws_148 (by decide) ?_
      refine lv_istore_n (lv' := [(3, .int 0), (2, .int r_1), (0, .ref (Q 72)), (1, .int a0)]) hx hb dX13_draws_149 rfl hl (by decide) rfl (fun ls hl => ?_)
      have hL150 : ∀ (K150_185 : Int32 → Int32 → Int32 → PG (Int32)), (∀ (v1 v2 v3 : Int32) (u : GS) (H : Heap) (locs : List Loc) (ls : Array Slot), lv_has ls 7 [(0, .ref (Q 72)), (1, .int v1), (2, .int v2), (3, .int v3)] → mH G Q u.1 s H locs → K150_185 v1 v2 v3 u = some ((r, u1)) → W p l e (headSpec (Cond.code yX13_draws cX13_draws 7 (some .int) :: wM) { frames := 3, cells := 0, slots := 0, locals := 65 }).room s m [.ref (Q 72), .int a0].toArray below meth c H locs 0 0 (MQ below (mQi G Q u1.1 r s.heap.size) [.ref (Q 72), .int a0].toArray s 0 0 (mA Q s.heap.size)) (F0 m 185 ls [])) → ∀ (n150 : Nat) (v1 v2 v3 : Int32) (u : GS) (H : Heap) (locs : List Loc) (ls : Array Slot), lv_has ls 7 [(0, .ref (Q 72)), (1, .int v1), (2, .int v2), (3, .int v3)] → mH G Q u.1 s H locs → lp_draws_150 n150 v1 v2 v3 K150_185 u = some ((r, u1)) → W p l e (headSpec (Cond.code yX13_draws cX13_draws 7 (some .int) :: wM) { frames := 3, cells := 0, slots := 0, locals := 65 }).room s m [.ref (Q 72), .int a0].toArray below meth c H locs 0 0 (MQ below (mQi G Q u1.1 r s.heap.size) [.ref (Q 72), .int a0].toArray s 0 0 (mA Q s.heap.size)) (F0 m 150 ls []) := by
        intro K150_185 hK150_185 n150
        induction n150 with
        | zero => intro v1 v2 v3 u H locs ls hl hH hF; cases hF
        | succ n150 ih150 =>
          intro v1 v2 v3 u H locs ls hl hH hF
          unfold lp_draws_150 at hF
          refine lv_iload_n hx hb dX13_draws_150 rfl (lv_at hl 3 rfl) ?_
          refine lv_aload_n hx hb dX13_draws_151 rfl (lv_at hl 0 rfl) ?_
          refine mg_13 hC hH dX13_draws_152 ?_
          refine lv_iload_n hx hb dX13_draws_155 rfl (lv_at hl 1 rfl) ?_
          obtain ⟨x_299, g_300, e_301, hF⟩ := prd_some hF
          refine ml_13 hC hH g_300 dX13_draws_156 ?_
          refine gx_ti e_301 ?_
          refine lv_icmp_ge (tgt := 185) hx hb dX13_draws_157 (by decide) (fun c_302 => ?_) (fun c_302 => ?_)
          · rw [if_pos c_302] at hF
            exact hK150_185 v1 v2 v3 u _ _ _ (lv_sub hl [0, 1, 2, 3] rfl) hH hF
          · rw [if_neg c_302] at hF
            refine lv_aload_n hx hb dX13_draws_160 rfl (lv_at hl 0 rfl) ?_
            refine mg_14 hC hH dX13_draws_161 ?_
            refine lv_bipush (v := 32) hx hb dX13_draws_164 (by decide) ?_
            refine lv_iload_n hx hb dX13_draws_166 rfl (lv_at hl 1 rfl) ?_
            refine lv_imul hx hb dX13_draws_167 ?_
            refine lv_iload_n hx hb dX13_draws_168 rfl (lv_at hl 3 rfl) ?_
            refine lv_iadd hx hb dX13_draws_169 ?_
            refine lv_iconst (v := (-1)) hx hb dX13_draws_170 (by decide) ?_
            obtain ⟨u_304, g_303, e_305, hF⟩ := pwd_some hF
            refine ms_14 hC hH e_305 g_303 dX13_draws_171 (fun H locs hH => ?_)
            refine lv_aload_n hx hb dX13_draws_172 rfl (lv_at hl 0 rfl) ?_
            refine mg_60 hC hH dX13_draws_173 ?_
            refine lv_iload_n hx hb dX13_draws_176 rfl (lv_at hl 3 rfl) ?_
            refine lv_iconst (v := 0) hx hb dX13_draws_177 (by decide) ?_
            obtain ⟨u_307, g_306, e_308, hF⟩ := pwd_some hF
            refine ms_60 hC hH e_308 g_306 dX13_draws_178 (fun H locs hH => ?_)
            obtain ⟨x_309, e_310, hF⟩ := pli_some hF
            refine lv_iinc (v := x_309) (lv' := [(3, .int x_309), (0, .ref (Q 72)), (1, .int v1), (2, .int v2)]) hx hb dX13_draws_179 hl (k := 3) rfl e_310 (by decide) rfl (fun ls hl => ?_)
            refine lv_goto (tgt := 150) hx hb dX13_draws_182 (by decide) ?_
            exact ih150 v1 v2 x_309 u_307 _ _ _ (lv_sub hl [1, 2, 3, 0] rfl) hH hF
      refine hL150 _ (fun v1 v2 v3 u H locs ls hl hH hF => ?_) fuel a0 r_1 0 u_297 _ _ _ (lv_sub hl [2, 3, 1, 0] rfl) hH hF
      refine lv_iload_n hx hb dX13_draws_185 rfl (lv_at hl 2 rfl) ?_
      refine lv_istore_n (lv' := [(3, .int v2), (0, .ref (Q 72)), (1, .int v1), (2, .int v2)]) hx hb dX13_draws_186 rfl hl (by decide) rfl (fun ls hl => ?_)
      have hL187 : ∀ (K187_215 : Int32 → Int32 → Int32 → PG (Int32)), (∀ (v1 v2 v3 : Int32) (u : GS) (H : Heap) (locs : List Loc) (ls : Array Slot), lv_has ls 7 [(0, .ref (Q 72)), (1, .int v1), (2, .int v2), (3, .int v3)] → mH G Q u.1 s H locs → K187_215 v1 v2 v3 u = some ((r, u1)) → W p l e (headSpec (Cond.code yX13_draws cX13_draws 7 (some .int) :: wM) { frames := 3, cells := 0, slots := 0, locals := 65 }).room s m [.ref (Q 72), .int a0].toArray below meth c H locs 0 0 (MQ below (mQi G Q u1.1 r s.heap.size) [.ref (Q 72), .int a0].toArray s 0 0 (mA Q s.heap.size)) (F0 m 215 ls [])) → ∀ (n187 : Nat) (v1 v2 v3 : Int32) (u : GS) (H : Heap) (locs : List Loc) (ls : Array Slot), lv_has ls 7 [(0, .ref (Q 72)), (1, .int v1), (2, .int v2), (3, .int v3)] → mH G Q u.1 s H locs → lp_draws_187 n187 v1 v2 v3 K187_215 u = some ((r, u1)) → W p l e (headSpec (Cond.code yX13_draws cX13_draws 7 (some .int) :: wM) { frames := 3, cells := 0, slots := 0, locals := 65 }).room s m [.ref (Q 72), .int a0].toArray below meth c H locs 0 0 (MQ below (mQi G Q u1.1 r s.heap.size) [.ref (Q 72), .int a0].toArray s 0 0 (mA Q s.heap.size)) (F0 m 187 ls []) := by
        intro K187_215 hK187_215 n187
        induction n187 with
        | zero => intro v1 v2 v3 u H locs ls hl hH hF; cases hF
        | succ n187 ih187 =>
          intro v1 v2 v3 u H locs ls hl hH hF
          unfold lp_draws_187 at hF
          refine lv_iload_n hx hb dX13_draws_187 rfl (lv_at hl 3 rfl) ?_
          refine lv_aload_n hx hb dX13_draws_188 rfl (lv_at hl 0 rfl) ?_
          refine mg_13 hC hH dX13_draws_189 ?_
          refine lv_iload_n hx hb dX13_draws_192 rfl (lv_at hl 1 rfl) ?_
          obtain ⟨x_311, g_312, e_313, hF⟩ := prd_some hF
          refine ml_13 hC hH g_312 dX13_draws_193 ?_
          refine gx_ti e_313 ?_
          refine lv_icmp_ge (tgt := 215) hx hb dX13_draws_194 (by decide) (fun c_314 => ?_) (fun c_314 => ?_)
          · rw [if_pos c_314] at hF
            exact hK187_215 v1 v2 v3 u _ _ _ (lv_sub hl [0, 1, 2, 3] rfl) hH hF
          · rw [if_neg c_314] at hF
            refine lv_aload_n hx hb dX13_draws_197 rfl (lv_at hl 0 rfl) ?_
            refine mg_60 hC hH dX13_draws_198 ?_
            refine lv_aload_n hx hb dX13_draws_201 rfl (lv_at hl 0 rfl) ?_
            refine mg_57 hC hH dX13_draws_202 ?_
            refine lv_iload_n hx hb dX13_draws_205 rfl (lv_at hl 3 rfl) ?_
            obtain ⟨x_315, g_316, e_317, hF⟩ := prd_some hF
            refine ml_57 hC hH g_316 dX13_draws_206 ?_
            refine gx_ti e_317 ?_
            refine lv_iconst (v := 1) hx hb dX13_draws_207 (by decide) ?_
            obtain ⟨u_319, g_318, e_320, hF⟩ := pwd_some hF
            refine ms_60 hC hH e_320 g_318 dX13_draws_208 (fun H locs hH => ?_)
            obtain ⟨x_321, e_322, hF⟩ := pli_some hF
            refine lv_iinc (v := x_321) (lv' := [(3, .int x_321), (0, .ref (Q 72)), (1, .int v1), (2, .int v2)]) hx hb dX13_draws_209 hl (k := 3) rfl e_322 (by decide) rfl (fun ls hl => ?_)
            refine lv_goto (tgt := 187) hx hb dX13_draws_212 (by decide) ?_
            exact ih187 v1 v2 x_321 u_319 _ _ _ (lv_sub hl [1, 2, 3, 0] rfl) hH hF
      refine hL187 _ (fun v1 v2 v3 u H locs ls hl hH hF => ?_) fuel v1 v2 v2 u _ _ _ (lv_sub hl [1, 2, 3, 0] rfl) hH hF
      refine lv_iconst (v := 0) hx hb dX13_draws_215 (by decide) ?_
      refine lv_istore_n (lv' := [(3, .int 0), (0, .ref (Q 72)), (1, .int v1), (2, .int v2)]) hx hb dX13_draws_216 rfl hl (by decide) rfl (fun ls hl => ?_)
      refine lv_iconst (v := 1) hx hb dX13_draws_217 (by decide) ?_
      refine lv_istore (lv' := [(4, .int 1), (3, .int 0), (0, .ref (Q 72)), (1, .int v1), (2, .int v2)]) hx hb dX13_draws_218 hl (by decide) rfl (fun ls hl => ?_)
      have hL220 : ∀ (K220_304 : Int32 → Int32 → Int32 → Int32 → PG (Int32)), (∀ (v1 v2 v3 v4 : Int32) (u : GS) (H : Heap) (locs : List Loc) (ls : Array Slot), lv_has ls 7 [(0, .ref (Q 72)), (1, .int v1), (2, .int v2), (3, .int v3), (4, .int v4)] → mH G Q u.1 s H locs → K220_304 v1 v2 v3 v4 u = some ((r, u1)) → W p l e (headSpec (Cond.code yX13_draws cX13_draws 7 (some .int) :: wM) { frames := 3, cells := 0, slots := 0, locals := 65 }).room s m [.ref (Q 72), .int a0].toArray below meth c H locs 0 0 (MQ below (mQi G Q u1.1 r s.heap.size) [.ref (Q 72), .int a0].toArray s 0 0 (mA Q s.heap.size)) (F0 m 304 ls [])) → ∀ (n220 : Nat) (v1 v2 v3 v4 : Int32) (u : GS) (H : Heap) (locs : List Loc) (ls : Array Slot), lv_has ls 7 [(0, .ref (Q 72)), (1, .int v1), (2, .int v2), (3, .int v3), (4, .int v4)] → mH G Q u.1 s H locs → lp_draws_220 n220 v1 v2 v3 v4 K220_304 u = some ((r, u1)) → W p l e (headSpec (Cond.code yX13_draws cX13_draws 7 (some .int) :: wM) { frames := 3, cells := 0, slots := 0, locals := 65 }).room s m [.ref (Q 72), .int a0].toArray below meth c H locs 0 0 (MQ below (mQi G Q u1.1 r s.heap.size) [.ref (Q 72), .int a0].toArray s 0 0 (mA Q s.heap.size)) (F0 m 220 ls []) := by
        intro K220_304 hK220_304 n220
        induction n220 with
        | zero => intro v1 v2 v3 v4 u H locs ls hl hH hF; cases hF
        | succ n220 ih220 =>
          intro v1 v2 v3 v4 u H locs ls hl hH hF
          unfold lp_draws_220 at hF
          refine lv_iload hx hb dX13_draws_220 (lv_at hl 4 rfl) ?_
          refine lv_bipush (v := 8) hx hb dX13_draws_222 (by decide) ?_
          refine lv_icmp_gt (tgt := 304) hx hb dX13_draws_224 (by decide) (fun c_323 => ?_) (fun c_323 => ?_)
          · rw [if_pos c_323] at hF
            exact hK220_304 v1 v2 v3 v4 u _ _ _ (lv_sub hl [0, 1, 2, 3, 4] rfl) hH hF
          · rw [if_neg c_323] at hF
            refine lv_iconst (v := 0) hx hb dX13_draws_227 (by decide) ?_
            refine lv_istore (lv' := [(5, .int 0), (0, .ref (Q 72)), (1, .int v1), (2, .int v2), (3, .int v3), (4, .int v4)]) hx hb dX13_draws_228 hl (by decide) rfl (fun ls hl => ?_)
            have hL230 : ∀ (K230_298 : Int32 → Int32 → Int32 → Int32 → Int32 → PG (Int32)), (∀ (v1 v2 v3 v4 v5 : Int32) (u : GS) (H : Heap) (locs : List Loc) (ls : Array Slot), lv_has ls 7 [(0, .ref (Q 72)), (1, .int v1), (2, .int v2), (3, .int v3), (4, .int v4), (5, .int v5)] → mH G Q u.1 s H locs → K230_298 v1 v2 v3 v4 v5 u = some ((r, u1)) → W p l e (headSpec (Cond.code yX13_draws cX13_draws 7 (some .int) :: wM) { frames := 3, cells := 0, slots := 0, locals := 65 }).room s m [.ref (Q 72), .int a0].toArray below meth c H locs 0 0 (MQ below (mQi G Q u1.1 r s.heap.size) [.ref (Q 72), .int a0].toArray s 0 0 (mA Q s.heap.size)) (F0 m 298 ls [])) → ∀ (n230 : Nat) (v1 v2 v3 v4 v5 : Int32) (u : GS) (H : Heap) (locs : List Loc) (ls : Array Slot), lv_has ls 7 [(0, .ref (Q 72)), (1, .int v1), (2, .int v2), (3, .int v3), (4, .int v4), (5, .int v5)] → mH G Q u.1 s H locs → lp_draws_230 n230 v1 v2 v3 v4 v5 K230_298 u = some ((r, u1)) → W p l e (headSpec (Cond.code yX13_draws cX13_draws 7 (some .int) :: wM) { frames := 3, cells := 0, slots := 0, locals := 65 }).room s m [.ref (Q 72), .int a0].toArray below meth c H locs 0 0 (MQ below (mQi G Q u1.1 r s.heap.size) [.ref (Q 72), .int a0].toArray s 0 0 (mA Q s.heap.size)) (F0 m 230 ls []) := by
              intro K230_298 hK230_298 n230
              induction n230 with
              | zero => intro v1 v2 v3 v4 v5 u H locs ls hl hH hF; cases hF
              | succ n230 ih230 =>
                intro v1 v2 v3 v4 v5 u H locs ls hl hH hF
                unfold lp_draws_230 at hF
                refine lv_iload hx hb dX13_draws_230 (lv_at hl 5 rfl) ?_
                refine lv_aload_n hx hb dX13_draws_232 rfl (lv_at hl 0 rfl) ?_
                refine mg_2 hC hH dX13_draws_233 ?_
                obtain ⟨x_324, e_325, hF⟩ := prf_some hF
                refine gx_ti e_325 ?_
                refine lv_icmp_ge (tgt := 298) hx hb dX13_draws_236 (by decide) (fun c_326 => ?_) (fun c_326 => ?_)
                · rw [if_pos c_326] at hF
                  exact hK230_298 v1 v2 v3 v4 v5 u _ _ _ (lv_sub hl [0, 1, 2, 3, 4, 5] rfl) hH hF
                · rw [if_neg c_326] at hF
                  refine lv_aload_n hx hb dX13_draws_239 rfl (lv_at hl 0 rfl) ?_
                  refine mg_5 hC hH dX13_draws_240 ?_
                  refine lv_iload hx hb dX13_draws_243 (lv_at hl 5 rfl) ?_
                  obtain ⟨x_327, g_328, e_329, hF⟩ := prd_some hF
                  refine ml_5 hC hH g_328 dX13_draws_245 ?_
                  refine gx_ti e_329 ?_
                  refine lv_iload_n hx hb dX13_draws_246 rfl (lv_at hl 1 rfl) ?_
                  refine lv_icmp_ne (tgt := 292) hx hb dX13_draws_247 (by decide) (fun c_330 => ?_) (fun c_330 => ?_)
                  · rw [if_neg c_330] at hF
                    obtain ⟨x_331, e_332, hF⟩ := pli_some hF
                    refine lv_iinc (v := x_331) (lv' := [(5, .int x_331), (0, .ref (Q 72)), (1, .int v1), (2, .int v2), (3, .int v3), (4, .int v4)]) hx hb dX13_draws_292 hl (k := 5) rfl e_332 (by decide) rfl (fun ls hl => ?_)
                    refine lv_goto (tgt := 230) hx hb dX13_draws_295 (by decide) ?_
                    exact ih230 v1 v2 v3 v4 x_331 u _ _ _ (lv_sub hl [1, 2, 3, 4, 5, 0] rfl) hH hF
                  · rw [if_pos c_330] at hF
                    refine lv_aload_n hx hb dX13_draws_250 rfl (lv_at hl 0 rfl) ?_
                    refine mg_8 hC hH dX13_draws_251 ?_
                    refine lv_iload hx hb dX13_draws_254 (lv_at hl 5 rfl) ?_
                    obtain ⟨x_333, g_334, e_335, hF⟩ := prd_some hF
                    refine ml_8 hC hH g_334 dX13_draws_256 ?_
                    refine gx_ti e_335 ?_
                    refine lv_iconst (v := 1) hx hb dX13_draws_257 (by decide) ?_
                    refine lv_icmp_ne (tgt := 292) hx hb dX13_draws_258 (by decide) (fun c_336 => ?_) (fun c_336 => ?_)
                    · rw [if_neg c_336] at hF
                      obtain ⟨x_337, e_338, hF⟩ := pli_some hF
                      refine lv_iinc (v := x_337) (lv' := [(5, .int x_337), (0, .ref (Q 72)), (1, .int v1), (2, .int v2), (3, .int v3), (4, .int v4)]) hx hb dX13_draws_292 hl (k := 5) rfl e_338 (by decide) rfl (fun ls hl => ?_)
                      refine lv_goto (tgt := 230) hx hb dX13_draws_295 (by decide) ?_
                      exact ih230 v1 v2 v3 v4 x_337 u _ _ _ (lv_sub hl [1, 2, 3, 4, 5, 0] rfl) hH hF
                    · rw [if_pos c_336] at hF
                      refine lv_aload_n hx hb dX13_draws_261 rfl (lv_at hl 0 rfl) ?_
                      refine mg_9 hC hH dX13_draws_262 ?_
                      refine lv_iload hx hb dX13_draws_265 (lv_at hl 5 rfl) ?_
                      obtain ⟨x_339, g_340, e_341, hF⟩ := prd_some hF
                      refine ml_9 hC hH g_340 dX13_draws_267 ?_
                      refine gx_ti e_341 ?_
                      refine lv_iload hx hb dX13_draws_268 (lv_at hl 4 rfl) ?_
                      refine lv_icmp_eq (tgt := 276) hx hb dX13_draws_270 (by decide) (fun c_342 => ?_) (fun c_342 => ?_)
                      · rw [if_pos c_342] at hF
                        refine lv_aload_n hx hb dX13_draws_276 rfl (lv_at hl 0 rfl) ?_
                        refine lv_iload_n hx hb dX13_draws_277 rfl (lv_at hl 1 rfl) ?_
                        refine lv_iload hx hb dX13_draws_278 (lv_at hl 5 rfl) ?_
                        refine lv_aload_n hx hb dX13_draws_280 rfl (lv_at hl 0 rfl) ?_
                        refine mg_57 hC hH dX13_draws_281 ?_
                        refine lv_iload_n hx hb dX13_draws_284 rfl (lv_at hl 3 rfl) ?_
                        obtain ⟨x_343, g_344, e_345, hF⟩ := prd_some hF
                        refine ml_57 hC hH g_344 dX13_draws_285 ?_
                        refine gx_ti e_345 ?_
                        obtain ⟨r_346, u_347, h_348, hF⟩ := pcl_some hF
                        refine mcV_v (As := [.int v1, .int v5, .int x_343]) (rest := []) hC hH (m_settle l G Z Q u u_347 r_346 v1 v5 x_343 _ h_348) kwX13_settle kVX13_settle ⟨Nat.le_of_ble_eq_true rfl, Nat.le_of_ble_eq_true rfl⟩ rfl hl.1 rfl (Nat.le_of_ble_eq_true rfl) dX13_draws_286 (fun H locs hH => ?_)
                        obtain ⟨x_349, e_350, hF⟩ := pli_some hF
                        refine lv_iinc (v := x_349) (lv' := [(3, .int x_349), (0, .ref (Q 72)), (1, .int v1), (2, .int v2), (4, .int v4), (5, .int v5)]) hx hb dX13_draws_289 hl (k := 3) rfl e_350 (by decide) rfl (fun ls hl => ?_)
                        obtain ⟨x_351, e_352, hF⟩ := pli_some hF
                        refine lv_iinc (v := x_351) (lv' := [(5, .int x_351), (3, .int x_349), (0, .ref (Q 72)), (1, .int v1), (2, .int v2), (4, .int v4)]) hx hb dX13_draws_292 hl (k := 5) rfl e_352 (by decide) rfl (fun ls hl => ?_)
                        refine lv_goto (tgt := 230) hx hb dX13_draws_295 (by decide) ?_
                        exact ih230 v1 v2 x_349 v4 x_351 u_347 _ _ _ (lv_sub hl [2, 3, 4, 1, 5, 0] rfl) hH hF
                      · rw [if_neg c_342] at hF
                        refine lv_goto (tgt := 292) hx hb dX13_draws_273 (by decide) ?_
                        obtain ⟨x_353, e_354, hF⟩ := pli_some hF
                        refine lv_iinc (v := x_353) (lv' := [(5, .int x_353), (0, .ref (Q 72)), (1, .int v1), (2, .int v2), (3, .int v3), (4, .int v4)]) hx hb dX13_draws_292 hl (k := 5) rfl e_354 (by decide) rfl (fun ls hl => ?_)
                        refine lv_goto (tgt := 230) hx hb dX13_draws_295 (by decide) ?_
                        exact ih230 v1 v2 v3 v4 x_353 u _ _ _ (lv_sub hl [1, 2, 3, 4, 5, 0] rfl) hH hF
            refine hL230 _ (fun v1 v2 v3 v4 v5 u H locs ls hl hH hF => ?_) fuel v1 v2 v3 v4 0 u _ _ _ (lv_sub hl [1, 2, 3, 4, 5, 0] rfl) hH hF
            obtain ⟨x_355, e_356, hF⟩ := pli_some hF
            refine lv_iinc (v := x_355) (lv' := [(4, .int x_355), (0, .ref (Q 72)), (1, .int v1), (2, .int v2), (3, .int v3), (5, .int v5)]) hx hb dX13_draws_298 hl (k := 4) rfl e_356 (by decide) rfl (fun ls hl => ?_)
            refine lv_goto (tgt := 220) hx hb dX13_draws_301 (by decide) ?_
            exact ih220 v1 v2 v3 x_355 u _ _ _ (lv_sub hl [1, 2, 3, 4, 0] rfl) hH hF
      refine hL220 _ (fun v1 v2 v3 v4 u H locs ls hl hH hF => ?_) fuel v1 v2 0 1 u _ _ _ (lv_sub hl [2, 3, 4, 1, 0] rfl) hH hF
      refine lv_iconst (v := 0) hx hb dX13_draws_304 (by decide) ?_
      refine lv_istore (lv' := [(4, .int 0), (0, .ref (Q 72)), (1, .int v1), (2, .int v2), (3, .int v3)]) hx hb dX13_draws_305 hl (by decide) rfl (fun ls hl => ?_)
      have hL307 : ∀ (K307_328 : Int32 → Int32 → Int32 → Int32 → PG (Int32)), (∀ (v1 v2 v3 v4 : Int32) (u : GS) (H : Heap) (locs : List Loc) (ls : Array Slot), lv_has ls 7 [(0, .ref (Q 72)), (1, .int v1), (2, .int v2), (3, .int v3), (4, .int v4)] → mH G Q u.1 s H locs → K307_328 v1 v2 v3 v4 u = some ((r, u1)) → W p l e (headSpec (Cond.code yX13_draws cX13_draws 7 (some .int) :: wM) { frames := 3, cells := 0, slots := 0, locals := 65 }).room s m [.ref (Q 72), .int a0].toArray below meth c H locs 0 0 (MQ below (mQi G Q u1.1 r s.heap.size) [.ref (Q 72), .int a0].toArray s 0 0 (mA Q s.heap.size)) (F0 m 328 ls [])) → ∀ (n307 : Nat) (v1 v2 v3 v4 : Int32) (u : GS) (H : Heap) (locs : List Loc) (ls : Array Slot), lv_has ls 7 [(0, .ref (Q 72)), (1, .int v1), (2, .int v2), (3, .int v3), (4, .int v4)] → mH G Q u.1 s H locs → lp_draws_307 n307 v1 v2 v3 v4 K307_328 u = some ((r, u1)) → W p l e (headSpec (Cond.code yX13_draws cX13_draws 7 (some .int) :: wM) { frames := 3, cells := 0, slots := 0, locals := 65 }).room s m [.ref (Q 72), .int a0].toArray below meth c H locs 0 0 (MQ below (mQi G Q u1.1 r s.heap.size) [.ref (Q 72), .int a0].toArray s 0 0 (mA Q s.heap.size)) (F0 m 307 ls []) := by
        intro K307_328 hK307_328 n307
        induction n307 with
        | zero => intro v1 v2 v3 v4 u H locs ls hl hH hF; cases hF
        | succ n307 ih307 =>
          intro v1 v2 v3 v4 u H locs ls hl hH hF
          unfold lp_draws_307 at hF
          refine lv_iload hx hb dX13_draws_307 (lv_at hl 4 rfl) ?_
          refine lv_bipush (v := 16) hx hb dX13_draws_309 (by decide) ?_
          refine lv_icmp_ge (tgt := 328) hx hb dX13_draws_311 (by decide) (fun c_357 => ?_) (fun c_357 => ?_)
          · rw [if_pos c_357] at hF
            exact hK307_328 v1 v2 v3 v4 u _ _ _ (lv_sub hl [0, 1, 2, 3, 4] rfl) hH hF
          · rw [if_neg c_357] at hF
            refine lv_aload_n hx hb dX13_draws_314 rfl (lv_at hl 0 rfl) ?_
            refine mg_59 hC hH dX13_draws_315 ?_
            refine lv_iload hx hb dX13_draws_318 (lv_at hl 4 rfl) ?_
            refine lv_iconst (v := 0) hx hb dX13_draws_320 (by decide) ?_
            obtain ⟨u_359, g_358, e_360, hF⟩ := pwd_some hF
            refine ms_59 hC hH e_360 g_358 dX13_draws_321 (fun H locs hH => ?_)
            obtain ⟨x_361, e_362, hF⟩ := pli_some hF
            refine lv_iinc (v := x_361) (lv' := [(4, .int x_361), (0, .ref (Q 72)), (1, .int v1), (2, .int v2), (3, .int v3)]) hx hb dX13_draws_322 hl (k := 4) rfl e_362 (by decide) rfl (fun ls hl => ?_)
            refine lv_goto (tgt := 307) hx hb dX13_draws_325 (by decide) ?_
            exact ih307 v1 v2 v3 x_361 u_359 _ _ _ (lv_sub hl [1, 2, 3, 4, 0] rfl) hH hF
      refine hL307 _ (fun v1 v2 v3 v4 u H locs ls hl hH hF => ?_) fuel v1 v2 v3 0 u _ _ _ (lv_sub hl [1, 2, 3, 4, 0] rfl) hH hF
      refine lv_iconst (v := 0) hx hb dX13_draws_328 (by decide) ?_
      refine lv_istore (lv' := [(4, .int 0), (0, .ref (Q 72)), (1, .int v1), (2, .int v2), (3, .int v3)]) hx hb dX13_draws_329 hl (by decide) rfl (fun ls hl => ?_)
      have hL331 : ∀ (K331_372 : Int32 → Int32 → Int32 → Int32 → PG (Int32)), (∀ (v1 v2 v3 v4 : Int32) (u : GS) (H : Heap) (locs : List Loc) (ls : Array Slot), lv_has ls 7 [(0, .ref (Q 72)), (1, .int v1), (2, .int v2), (3, .int v3), (4, .int v4)] → mH G Q u.1 s H locs → K331_372 v1 v2 v3 v4 u = some ((r, u1)) → W p l e (headSpec (Cond.code yX13_draws cX13_draws 7 (some .int) :: wM) { frames := 3, cells := 0, slots := 0, locals := 65 }).room s m [.ref (Q 72), .int a0].toArray below meth c H locs 0 0 (MQ below (mQi G Q u1.1 r s.heap.size) [.ref (Q 72), .int a0].toArray s 0 0 (mA Q s.heap.size)) (F0 m 372 ls [])) → ∀ (n331 : Nat) (v1 v2 v3 v4 : Int32) (u : GS) (H : Heap) (locs : List Loc) (ls : Array Slot), lv_has ls 7 [(0, .ref (Q 72)), (1, .int v1), (2, .int v2), (3, .int v3), (4, .int v4)] → mH G Q u.1 s H locs → lp_draws_331 n331 v1 v2 v3 v4 K331_372 u = some ((r, u1)) → W p l e (headSpec (Cond.code yX13_draws cX13_draws 7 (some .int) :: wM) { frames := 3, cells := 0, slots := 0, locals := 65 }).room s m [.ref (Q 72), .int a0].toArray below meth c H locs 0 0 (MQ below (mQi G Q u1.1 r s.heap.size) [.ref (Q 72), .int a0].toArray s 0 0 (mA Q s.heap.size)) (F0 m 331 ls []) := by
        intro K331_372 hK331_372 n331
        induction n331 with
        | zero => intro v1 v2 v3 v4 u H locs ls hl hH hF; cases hF
        | succ n331 ih331 =>
          intro v1 v2 v3 v4 u H locs ls hl hH hF
          unfold lp_draws_331 at hF
          refine lv_iload hx hb dX13_draws_331 (lv_at hl 4 rfl) ?_
          refine lv_aload_n hx hb dX13_draws_333 rfl (lv_at hl 0 rfl) ?_
          refine mg_2 hC hH dX13_draws_334 ?_
          obtain ⟨x_363, e_364, hF⟩ := prf_some hF
          refine gx_ti e_364 ?_
          refine lv_icmp_ge (tgt := 372) hx hb dX13_draws_337 (by decide) (fun c_365 => ?_) (fun c_365 => ?_)
          · rw [if_pos c_365] at hF
            exact hK331_372 v1 v2 v3 v4 u _ _ _ (lv_sub hl [0, 1, 2, 3, 4] rfl) hH hF
          · rw [if_neg c_365] at hF
            refine lv_aload_n hx hb dX13_draws_340 rfl (lv_at hl 0 rfl) ?_
            refine lv_iload_n hx hb dX13_draws_341 rfl (lv_at hl 1 rfl) ?_
            refine lv_iload hx hb dX13_draws_342 (lv_at hl 4 rfl) ?_
            obtain ⟨r_366, u_367, h_368, hF⟩ := pcl_some hF
            refine mcV_i (As := [.int v1, .int v4]) (rest := []) hC hH (m_isOther l G Z Q u u_367 r_366 v1 v4 _ h_368) kwX13_isOther kVX13_isOther ⟨Nat.le_of_ble_eq_true rfl, Nat.le_of_ble_eq_true rfl⟩ rfl hl.1 rfl (Nat.le_of_ble_eq_true rfl) dX13_draws_344 (fun H locs hH => ?_)
            refine lv_if_eq (tgt := 366) hx hb dX13_draws_347 (by decide) (fun c_369 => ?_) (fun c_369 => ?_)
            · rw [if_pos c_369] at hF
              obtain ⟨x_370, e_371, hF⟩ := pli_some hF
              refine lv_iinc (v := x_370) (lv' := [(4, .int x_370), (0, .ref (Q 72)), (1, .int v1), (2, .int v2), (3, .int v3)]) hx hb dX13_draws_366 hl (k := 4) rfl e_371 (by decide) rfl (fun ls hl => ?_)
              refine lv_goto (tgt := 331) hx hb dX13_draws_369 (by decide) ?_
              exact ih331 v1 v2 v3 x_370 u_367 _ _ _ (lv_sub hl [1, 2, 3, 4, 0] rfl) hH hF
            · rw [if_neg c_369] at hF
              refine lv_aload_n hx hb dX13_draws_350 rfl (lv_at hl 0 rfl) ?_
              refine mg_59 hC hH dX13_draws_351 ?_
              refine lv_aload_n hx hb dX13_draws_354 rfl (lv_at hl 0 rfl) ?_
              refine mg_6 hC hH dX13_draws_355 ?_
              refine lv_iload hx hb dX13_draws_358 (lv_at hl 4 rfl) ?_
              obtain ⟨x_372, g_373, e_374, hF⟩ := prd_some hF
              refine ml_6 hC hH g_373 dX13_draws_360 ?_
              refine gx_ti e_374 ?_
              refine lv_dup2_11 hx hb dX13_draws_361 rfl rfl ?_
              obtain ⟨x_375, g_376, e_377, hF⟩ := prd_some hF
              refine ml_59 hC hH g_376 dX13_draws_362 ?_
              refine gx_ti e_377 ?_
              refine lv_iconst (v := 1) hx hb dX13_draws_363 (by decide) ?_
              refine lv_iadd hx hb dX13_draws_364 ?_
              obtain ⟨u_379, g_378, e_380, hF⟩ := pwd_some hF
              refine ms_59 hC hH e_380 g_378 dX13_draws_365 (fun H locs hH => ?_)
              obtain ⟨x_381, e_382, hF⟩ := pli_some hF
              refine lv_iinc (v := x_381) (lv' := [(4, .int x_381), (0, .ref (Q 72)), (1, .int v1), (2, .int v2), (3, .int v3)]) hx hb dX13_draws_366 hl (k := 4) rfl e_382 (by decide) rfl (fun ls hl => ?_)
              refine lv_goto (tgt := 331) hx hb dX13_draws_369 (by decide) ?_
              exact ih331 v1 v2 v3 x_381 u_379 _ _ _ (lv_sub hl [1, 2, 3, 4, 0] rfl) hH hF
      refine hL331 _ (fun v1 v2 v3 v4 u H locs ls hl hH hF => ?_) fuel v1 v2 v3 0 u _ _ _ (lv_sub hl [1, 2, 3, 4, 0] rfl) hH hF
      refine lv_iconst (v := 0) hx hb dX13_draws_372 (by decide) ?_
      refine lv_istore (lv' := [(4, .int 0), (0, .ref (Q 72)), (1, .int v1), (2, .int v2), (3, .int v3)]) hx hb dX13_draws_373 hl (by decide) rfl (fun ls hl => ?_)
      have hL375 : ∀ (K375_496 : Int32 → Int32 → Int32 → Int32 → PG (Int32)), (∀ (v1 v2 v3 v4 : Int32) (u : GS) (H : Heap) (locs : List Loc) (ls : Array Slot), lv_has ls 7 [(0, .ref (Q 72)), (1, .int v1), (2, .int v2), (3, .int v3), (4, .int v4)] → mH G Q u.1 s H locs → K375_496 v1 v2 v3 v4 u = some ((r, u1)) → W p l e (headSpec (Cond.code yX13_draws cX13_draws 7 (some .int) :: wM) { frames := 3, cells := 0, slots := 0, locals := 65 }).room s m [.ref (Q 72), .int a0].toArray below meth c H locs 0 0 (MQ below (mQi G Q u1.1 r s.heap.size) [.ref (Q 72), .int a0].toArray s 0 0 (mA Q s.heap.size)) (F0 m 496 ls [])) → ∀ (n375 : Nat) (v1 v2 v3 v4 : Int32) (u : GS) (H : Heap) (locs : List Loc) (ls : Array Slot), lv_has ls 7 [(0, .ref (Q 72)), (1, .int v1), (2, .int v2), (3, .int v3), (4, .int v4)] → mH G Q u.1 s H locs → lp_draws_375 n375 v1 v2 v3 v4 K375_496 u = some ((r, u1)) → W p l e (headSpec (Cond.code yX13_draws cX13_draws 7 (some .int) :: wM) { frames := 3, cells := 0, slots := 0, locals := 65 }).room s m [.ref (Q 72), .int a0].toArray below meth c H locs 0 0 (MQ below (mQi G Q u1.1 r s.heap.size) [.ref (Q 72), .int a0].toArray s 0 0 (mA Q s.heap.size)) (F0 m 375 ls []) := by
        intro K375_496 hK375_496 n375
        induction n375 with
        | zero => intro v1 v2 v3 v4 u H locs ls hl hH hF; cases hF
        | succ n375 ih375 =>
          intro v1 v2 v3 v4 u H locs ls hl hH hF
          unfold lp_draws_375 at hF
          refine lv_iload hx hb dX13_draws_375 (lv_at hl 4 rfl) ?_
          refine lv_bipush (v := 16) hx hb dX13_draws_377 (by decide) ?_
          refine lv_icmp_ge (tgt := 496) hx hb dX13_draws_379 (by decide) (fun c_383 => ?_) (fun c_383 => ?_)
          · rw [if_pos c_383] at hF
            exact hK375_496 v1 v2 v3 v4 u _ _ _ (lv_sub hl [0, 1, 2, 3, 4] rfl) hH hF
          · rw [if_neg c_383] at hF
            refine lv_iconst (v := 0) hx hb dX13_draws_382 (by decide) ?_
            refine lv_istore (lv' := [(5, .int 0), (0, .ref (Q 72)), (1, .int v1), (2, .int v2), (3, .int v3), (4, .int v4)]) hx hb dX13_draws_383 hl (by decide) rfl (fun ls hl => ?_)
            refine lv_iconst (v := 1) hx hb dX13_draws_385 (by decide) ?_
            refine lv_istore (lv' := [(6, .int 1), (5, .int 0), (0, .ref (Q 72)), (1, .int v1), (2, .int v2), (3, .int v3), (4, .int v4)]) hx hb dX13_draws_386 hl (by decide) rfl (fun ls hl => ?_)
            have hL388 : ∀ (K388_422 : Int32 → Int32 → Int32 → Int32 → Int32 → Int32 → PG (Int32)), (∀ (v1 v2 v3 v4 v5 v6 : Int32) (u : GS) (H : Heap) (locs : List Loc) (ls : Array Slot), lv_has ls 7 [(0, .ref (Q 72)), (1, .int v1), (2, .int v2), (3, .int v3), (4, .int v4), (5, .int v5), (6, .int v6)] → mH G Q u.1 s H locs → K388_422 v1 v2 v3 v4 v5 v6 u = some ((r, u1)) → W p l e (headSpec (Cond.code yX13_draws cX13_draws 7 (some .int) :: wM) { frames := 3, cells := 0, slots := 0, locals := 65 }).room s m [.ref (Q 72), .int a0].toArray below meth c H locs 0 0 (MQ below (mQi G Q u1.1 r s.heap.size) [.ref (Q 72), .int a0].toArray s 0 0 (mA Q s.heap.size)) (F0 m 422 ls [])) → ∀ (n388 : Nat) (v1 v2 v3 v4 v5 v6 : Int32) (u : GS) (H : Heap) (locs : List Loc) (ls : Array Slot), lv_has ls 7 [(0, .ref (Q 72)), (1, .int v1), (2, .int v2), (3, .int v3), (4, .int v4), (5, .int v5), (6, .int v6)] → mH G Q u.1 s H locs → lp_draws_388 n388 v1 v2 v3 v4 v5 v6 K388_422 u = some ((r, u1)) → W p l e (headSpec (Cond.code yX13_draws cX13_draws 7 (some .int) :: wM) { frames := 3, cells := 0, slots := 0, locals := 65 }).room s m [.ref (Q 72), .int a0].toArray below meth c H locs 0 0 (MQ below (mQi G Q u1.1 r s.heap.size) [.ref (Q 72), .int a0].toArray s 0 0 (mA Q s.heap.size)) (F0 m 388 ls []) := by
              intro K388_422 hK388_422 n388
              induction n388 with
              | zero => intro v1 v2 v3 v4 v5 v6 u H locs ls hl hH hF; cases hF
              | succ n388 ih388 =>
                intro v1 v2 v3 v4 v5 v6 u H locs ls hl hH hF
                unfold lp_draws_388 at hF
                refine lv_iload hx hb dX13_draws_388 (lv_at hl 6 rfl) ?_
                refine lv_bipush (v := 16) hx hb dX13_draws_390 (by decide) ?_
                refine lv_icmp_ge (tgt := 422) hx hb dX13_draws_392 (by decide) (fun c_384 => ?_) (fun c_384 => ?_)
                · rw [if_pos c_384] at hF
                  exact hK388_422 v1 v2 v3 v4 v5 v6 u _ _ _ (lv_sub hl [0, 1, 2, 3, 4, 5, 6] rfl) hH hF
                · rw [if_neg c_384] at hF
                  refine lv_aload_n hx hb dX13_draws_395 rfl (lv_at hl 0 rfl) ?_
                  refine mg_59 hC hH dX13_draws_396 ?_
                  refine lv_iload hx hb dX13_draws_399 (lv_at hl 6 rfl) ?_
                  obtain ⟨x_385, g_386, e_387, hF⟩ := prd_some hF
                  refine ml_59 hC hH g_386 dX13_draws_401 ?_
                  refine gx_ti e_387 ?_
                  refine lv_aload_n hx hb dX13_draws_402 rfl (lv_at hl 0 rfl) ?_
                  refine mg_59 hC hH dX13_draws_403 ?_
                  refine lv_iload hx hb dX13_draws_406 (lv_at hl 5 rfl) ?_
                  obtain ⟨x_388, g_389, e_390, hF⟩ := prd_some hF
                  refine ml_59 hC hH g_389 dX13_draws_408 ?_
                  refine gx_ti e_390 ?_
                  refine lv_icmp_le (tgt := 416) hx hb dX13_draws_409 (by decide) (fun c_391 => ?_) (fun c_391 => ?_)
                  · rw [if_pos c_391] at hF
                    obtain ⟨x_392, e_393, hF⟩ := pli_some hF
                    refine lv_iinc (v := x_392) (lv' := [(6, .int x_392), (0, .ref (Q 72)), (1, .int v1), (2, .int v2), (3, .int v3), (4, .int v4), (5, .int v5)]) hx hb dX13_draws_416 hl (k := 6) rfl e_393 (by decide) rfl (fun ls hl => ?_)
                    refine lv_goto (tgt := 388) hx hb dX13_draws_419 (by decide) ?_
                    exact ih388 v1 v2 v3 v4 v5 x_392 u _ _ _ (lv_sub hl [1, 2, 3, 4, 5, 6, 0] rfl) hH hF
                  · rw [if_neg c_391] at hF
                    refine lv_iload hx hb dX13_draws_412 (lv_at hl 6 rfl) ?_
                    refine lv_istore (lv' := [(5, .int v6), (0, .ref (Q 72)), (1, .int v1), (2, .int v2), (3, .int v3), (4, .int v4), (6, .int v6)]) hx hb dX13_draws_414 hl (by decide) rfl (fun ls hl => ?_)
                    obtain ⟨x_394, e_395, hF⟩ := pli_some hF
                    refine lv_iinc (v := x_394) (lv' := [(6, .int x_394), (5, .int v6), (0, .ref (Q 72)), (1, .int v1), (2, .int v2), (3, .int v3), (4, .int v4)]) hx hb dX13_draws_416 hl (k := 6) rfl e_395 (by decide) rfl (fun ls hl => ?_)
                    refine lv_goto (tgt := 388) hx hb dX13_draws_419 (by decide) ?_
                    exact ih388 v1 v2 v3 v4 v6 x_394 u _ _ _ (lv_sub hl [2, 3, 4, 5, 6, 1, 0] rfl) hH hF
            refine hL388 _ (fun v1 v2 v3 v4 v5 v6 u H locs ls hl hH hF => ?_) fuel v1 v2 v3 v4 0 1 u _ _ _ (lv_sub hl [2, 3, 4, 5, 6, 1, 0] rfl) hH hF
            refine lv_iconst (v := 0) hx hb dX13_draws_422 (by decide) ?_
            refine lv_istore (lv' := [(6, .int 0), (0, .ref (Q 72)), (1, .int v1), (2, .int v2), (3, .int v3), (4, .int v4), (5, .int v5)]) hx hb dX13_draws_423 hl (by decide) rfl (fun ls hl => ?_)
            have hL425 : ∀ (K425_482 : Int32 → Int32 → Int32 → Int32 → Int32 → Int32 → PG (Int32)), (∀ (v1 v2 v3 v4 v5 v6 : Int32) (u : GS) (H : Heap) (locs : List Loc) (ls : Array Slot), lv_has ls 7 [(0, .ref (Q 72)), (1, .int v1), (2, .int v2), (3, .int v3), (4, .int v4), (5, .int v5), (6, .int v6)] → mH G Q u.1 s H locs → K425_482 v1 v2 v3 v4 v5 v6 u = some ((r, u1)) → W p l e (headSpec (Cond.code yX13_draws cX13_draws 7 (some .int) :: wM) { frames := 3, cells := 0, slots := 0, locals := 65 }).room s m [.ref (Q 72), .int a0].toArray below meth c H locs 0 0 (MQ below (mQi G Q u1.1 r s.heap.size) [.ref (Q 72), .int a0].toArray s 0 0 (mA Q s.heap.size)) (F0 m 482 ls [])) → ∀ (n425 : Nat) (v1 v2 v3 v4 v5 v6 : Int32) (u : GS) (H : Heap) (locs : List Loc) (ls : Array Slot), lv_has ls 7 [(0, .ref (Q 72)), (1, .int v1), (2, .int v2), (3, .int v3), (4, .int v4), (5, .int v5), (6, .int v6)] → mH G Q u.1 s H locs → lp_draws_425 n425 v1 v2 v3 v4 v5 v6 K425_482 u = some ((r, u1)) → W p l e (headSpec (Cond.code yX13_draws cX13_draws 7 (some .int) :: wM) { frames := 3, cells := 0, slots := 0, locals := 65 }).room s m [.ref (Q 72), .int a0].toArray below meth c H locs 0 0 (MQ below (mQi G Q u1.1 r s.heap.size) [.ref (Q 72), .int a0].toArray s 0 0 (mA Q s.heap.size)) (F0 m 425 ls []) := by
              intro K425_482 hK425_482 n425
              induction n425 with
              | zero => intro v1 v2 v3 v4 v5 v6 u H locs ls hl hH hF; cases hF
              | succ n425 ih425 =>
                intro v1 v2 v3 v4 v5 v6 u H locs ls hl hH hF
                unfold lp_draws_425 at hF
                refine lv_iload hx hb dX13_draws_425 (lv_at hl 6 rfl) ?_
                refine lv_aload_n hx hb dX13_draws_427 rfl (lv_at hl 0 rfl) ?_
                refine mg_2 hC hH dX13_draws_428 ?_
                obtain ⟨x_396, e_397, hF⟩ := prf_some hF
                refine gx_ti e_397 ?_
                refine lv_icmp_ge (tgt := 482) hx hb dX13_draws_431 (by decide) (fun c_398 => ?_) (fun c_398 => ?_)
                · rw [if_pos c_398] at hF
                  exact hK425_482 v1 v2 v3 v4 v5 v6 u _ _ _ (lv_sub hl [0, 1, 2, 3, 4, 5, 6] rfl) hH hF
                · rw [if_neg c_398] at hF
                  refine lv_aload_n hx hb dX13_draws_434 rfl (lv_at hl 0 rfl) ?_
                  refine mg_6 hC hH dX13_draws_435 ?_
                  refine lv_iload hx hb dX13_draws_438 (lv_at hl 6 rfl) ?_
                  obtain ⟨x_399, g_400, e_401, hF⟩ := prd_some hF
                  refine ml_6 hC hH g_400 dX13_draws_440 ?_
                  refine gx_ti e_401 ?_
                  refine lv_iload hx hb dX13_draws_441 (lv_at hl 5 rfl) ?_
                  refine lv_icmp_ne (tgt := 476) hx hb dX13_draws_443 (by decide) (fun c_402 => ?_) (fun c_402 => ?_)
                  · rw [if_neg c_402] at hF
                    obtain ⟨x_403, e_404, hF⟩ := pli_some hF
                    refine lv_iinc (v := x_403) (lv' := [(6, .int x_403), (0, .ref (Q 72)), (1, .int v1), (2, .int v2), (3, .int v3), (4, .int v4), (5, .int v5)]) hx hb dX13_draws_476 hl (k := 6) rfl e_404 (by decide) rfl (fun ls hl => ?_)
                    refine lv_goto (tgt := 425) hx hb dX13_draws_479 (by decide) ?_
                    exact ih425 v1 v2 v3 v4 v5 x_403 u _ _ _ (lv_sub hl [1, 2, 3, 4, 5, 6, 0] rfl) hH hF
                  · rw [if_pos c_402] at hF
                    refine lv_aload_n hx hb dX13_draws_446 rfl (lv_at hl 0 rfl) ?_
                    refine lv_iload_n hx hb dX13_draws_447 rfl (lv_at hl 1 rfl) ?_
                    refine lv_iload hx hb dX13_draws_448 (lv_at hl 6 rfl) ?_
                    obtain ⟨r_405, u_406, h_407, hF⟩ := pcl_some hF
                    refine mcV_i (As := [.int v1, .int v6]) (rest := []) hC hH (m_isOther l G Z Q u u_406 r_405 v1 v6 _ h_407) kwX13_isOther kVX13_isOther ⟨Nat.le_of_ble_eq_true rfl, Nat.le_of_ble_eq_true rfl⟩ rfl hl.1 rfl (Nat.le_of_ble_eq_true rfl) dX13_draws_450 (fun H locs hH => ?_)
                    refine lv_if_eq (tgt := 476) hx hb dX13_draws_453 (by decide) (fun c_408 => ?_) (fun c_408 => ?_)
                    · rw [if_pos c_408] at hF
                      obtain ⟨x_409, e_410, hF⟩ := pli_some hF
                      refine lv_iinc (v := x_409) (lv' := [(6, .int x_409), (0, .ref (Q 72)), (1, .int v1), (2, .int v2), (3, .int v3), (4, .int v4), (5, .int v5)]) hx hb dX13_draws_476 hl (k := 6) rfl e_410 (by decide) rfl (fun ls hl => ?_)
                      refine lv_goto (tgt := 425) hx hb dX13_draws_479 (by decide) ?_
                      exact ih425 v1 v2 v3 v4 v5 x_409 u_406 _ _ _ (lv_sub hl [1, 2, 3, 4, 5, 6, 0] rfl) hH hF
                    · rw [if_neg c_408] at hF
                      refine lv_aload_n hx hb dX13_draws_456 rfl (lv_at hl 0 rfl) ?_
                      refine lv_iload_n hx hb dX13_draws_457 rfl (lv_at hl 1 rfl) ?_
                      refine lv_iload hx hb dX13_draws_458 (lv_at hl 6 rfl) ?_
                      refine lv_aload_n hx hb dX13_draws_460 rfl (lv_at hl 0 rfl) ?_
                      refine lv_iload_n hx hb dX13_draws_461 rfl (lv_at hl 1 rfl) ?_
                      refine lv_iload hx hb dX13_draws_462 (lv_at hl 5 rfl) ?_
                      refine lv_aload_n hx hb dX13_draws_464 rfl (lv_at hl 0 rfl) ?_
                      refine mg_13 hC hH dX13_draws_465 ?_
                      refine lv_iload_n hx hb dX13_draws_468 rfl (lv_at hl 1 rfl) ?_
                      obtain ⟨x_411, g_412, e_413, hF⟩ := prd_some hF
                      refine ml_13 hC hH g_412 dX13_draws_469 ?_
                      refine gx_ti e_413 ?_
                      obtain ⟨r_414, u_415, h_416, hF⟩ := pcl_some hF
                      refine mcV_i (As := [.int v1, .int v5, .int x_411]) (rest := [.int v6, .int v1, .ref (Q 72)]) hC hH (m_bestPlace l G Z Q u_406 u_415 r_414 v1 v5 x_411 _ h_416) kwX13_bestPlace kVX13_bestPlace ⟨Nat.le_of_ble_eq_true rfl, Nat.le_of_ble_eq_true rfl⟩ rfl hl.1 rfl (Nat.le_of_ble_eq_true rfl) dX13_draws_470 (fun H locs hH => ?_)
                      obtain ⟨r_417, u_418, h_419, hF⟩ := pcl_some hF
                      refine mcV_v (As := [.int v1, .int v6, .int r_414]) (rest := []) hC hH (m_settle l G Z Q u_415 u_418 r_417 v1 v6 r_414 _ h_419) kwX13_settle kVX13_settle ⟨Nat.le_of_ble_eq_true rfl, Nat.le_of_ble_eq_true rfl⟩ rfl hl.1 rfl (Nat.le_of_ble_eq_true rfl) dX13_draws_473 (fun H locs hH => ?_)
                      obtain ⟨x_420, e_421, hF⟩ := pli_some hF
                      refine lv_iinc (v := x_420) (lv' := [(6, .int x_420), (0, .ref (Q 72)), (1, .int v1), (2, .int v2), (3, .int v3), (4, .int v4), (5, .int v5)]) hx hb dX13_draws_476 hl (k := 6) rfl e_421 (by decide) rfl (fun ls hl => ?_)
                      refine lv_goto (tgt := 425) hx hb dX13_draws_479 (by decide) ?_
                      exact ih425 v1 v2 v3 v4 v5 x_420 u_418 _ _ _ (lv_sub hl [1, 2, 3, 4, 5, 6, 0] rfl) hH hF
            refine hL425 _ (fun v1 v2 v3 v4 v5 v6 u H locs ls hl hH hF => ?_) fuel v1 v2 v3 v4 v5 0 u _ _ _ (lv_sub hl [1, 2, 3, 4, 5, 6, 0] rfl) hH hF
            refine lv_aload_n hx hb dX13_draws_482 rfl (lv_at hl 0 rfl) ?_
            refine mg_59 hC hH dX13_draws_483 ?_
            refine lv_iload hx hb dX13_draws_486 (lv_at hl 5 rfl) ?_
            refine lv_iconst (v := (-1)) hx hb dX13_draws_488 (by decide) ?_
            obtain ⟨u_423, g_422, e_424, hF⟩ := pwd_some hF
            refine ms_59 hC hH e_424 g_422 dX13_draws_489 (fun H locs hH => ?_)
            obtain ⟨x_425, e_426, hF⟩ := pli_some hF
            refine lv_iinc (v := x_425) (lv' := [(4, .int x_425), (0, .ref (Q 72)), (1, .int v1), (2, .int v2), (3, .int v3), (5, .int v5), (6, .int v6)]) hx hb dX13_draws_490 hl (k := 4) rfl e_426 (by decide) rfl (fun ls hl => ?_)
            refine lv_goto (tgt := 375) hx hb dX13_draws_493 (by decide) ?_
            exact ih375 v1 v2 v3 x_425 u_423 _ _ _ (lv_sub hl [1, 2, 3, 4, 0] rfl) hH hF
      refine hL375 _ (fun v1 v2 v3 v4 u H locs ls hl hH hF => ?_) fuel v1 v2 v3 0 u _ _ _ (lv_sub hl [1, 2, 3, 4, 0] rfl) hH hF
      refine lv_aload_n hx hb dX13_draws_496 rfl (lv_at hl 0 rfl) ?_
      refine lv_iload_n hx hb dX13_draws_497 rfl (lv_at hl 1 rfl) ?_
      obtain ⟨r_427, u_428, h_429, hF⟩ := pcl_some hF
      refine mcV_i (As := [.int v1]) (rest := []) hC hH (m_fights l G Z Q u u_428 r_427 v1 _ h_429) kwX13_fights kVX13_fights ⟨Nat.le_of_ble_eq_true rfl, Nat.le_of_ble_eq_true rfl⟩ rfl hl.1 rfl (Nat.le_of_ble_eq_true rfl) dX13_draws_498 (fun H locs hH => ?_)
      have hF := prt_eq hF
      exact mr_i hC hH hr hF dX13_draws_501 hlocks
  · rw [if_neg c_4] at hF
    refine lv_aload_n hx hb dX13_draws_12 rfl (lv_at hl 1 rfl) ?_
    refine mg_12 hC hH dX13_draws_13 ?_
    refine lv_iload_n hx hb dX13_draws_16 rfl (lv_at hl 2 rfl) ?_
    refine lv_iconst (v := 1) hx hb dX13_draws_17 (by decide) ?_
    obtain ⟨u_431, g_430, e_432, hF⟩ := pwd_some hF
    refine ms_12 hC hH e_432 g_430 dX13_draws_18 (fun H locs hH => ?_)
    refine lv_aload_n hx hb dX13_draws_19 rfl (lv_at hl 1 rfl) ?_
    refine mg_13 hC hH dX13_draws_20 ?_
    refine lv_iload_n hx hb dX13_draws_23 rfl (lv_at hl 2 rfl) ?_
    refine lv_iload_n hx hb dX13_draws_24 rfl (lv_at hl 0 rfl) ?_
    obtain ⟨u_434, g_433, e_435, hF⟩ := pwd_some hF
    refine ms_13 hC hH e_435 g_433 dX13_draws_25 (fun H locs hH => ?_)
    refine lv_iconst (v := 0) hx hb dX13_draws_26 (by decide) ?_
    refine lv_istore_n (lv' := [(3, .int 0), (2, .int r_1), (0, .ref (Q 72)), (1, .int a0)]) hx hb dX13_draws_27 rfl hl (by decide) rfl (fun ls hl => ?_)
    refine lv_iconst (v := 0) hx hb dX13_draws_28 (by decide) ?_
    refine lv_istore (lv' := [(4, .int 0), (3, .int 0), (2, .int r_1), (0, .ref (Q 72)), (1, .int a0)]) hx hb dX13_draws_29 hl (by decide) rfl (fun ls hl => ?_)
    have hL31 : ∀ (K31_95 : Int32 → Int32 → Int32 → Int32 → PG (Int32)), (∀ (v1 v2 v3 v4 : Int32) (u : GS) (H : Heap) (locs : List Loc) (ls : Array Slot), lv_has ls 7 [(0, .ref (Q 72)), (1, .int v1), (2, .int v2), (3, .int v3), (4, .int v4)] → mH G Q u.1 s H locs → K31_95 v1 v2 v3 v4 u = some ((r, u1)) → W p l e (headSpec (Cond.code yX13_draws cX13_draws 7 (some .int) :: wM) { frames := 3, cells := 0, slots := 0, locals := 65 }).room s m [.ref (Q 72), .int a0].toArray below meth c H locs 0 0 (MQ below (mQi G Q u1.1 r s.heap.size) [.ref (Q 72), .int a0].toArray s 0 0 (mA Q s.heap.size)) (F0 m 95 ls [])) → ∀ (n31 : Nat) (v1 v2 v3 v4 : Int32) (u : GS) (H : Heap) (locs : List Loc) (ls : Array Slot), lv_has ls 7 [(0, .ref (Q 72)), (1, .int v1), (2, .int v2), (3, .int v3), (4, .int v4)] → mH G Q u.1 s H locs → lp_draws_31 n31 v1 v2 v3 v4 K31_95 u = some ((r, u1)) → W p l e (headSpec (Cond.code yX13_draws cX13_draws 7 (some .int) :: wM) { frames := 3, cells := 0, slots := 0, locals := 65 }).room s m [.ref (Q 72), .int a0].toArray below meth c H locs 0 0 (MQ below (mQi G Q u1.1 r s.heap.size) [.ref (Q 72), .int a0].toArray s 0 0 (mA Q s.heap.size)) (F0 m 31 ls []) := by
      intro K31_95 hK31_95 n31
      induction n31 with
      | zero => intro v1 v2 v3 v4 u H locs ls hl hH hF; cases hF
      | succ n31 ih31 =>
        intro v1 v2 v3 v4 u H locs ls hl hH hF
        unfold lp_draws_31 at hF
        refine lv_iload hx hb dX13_draws_31 (lv_at hl 4 rfl) ?_
        refine lv_aload_n hx hb dX13_draws_33 rfl (lv_at hl 0 rfl) ?_
        refine mg_2 hC hH dX13_draws_34 ?_
        obtain ⟨x_436, e_437, hF⟩ := prf_some hF
        refine gx_ti e_437 ?_
        refine lv_icmp_ge (tgt := 95) hx hb dX13_draws_37 (by decide) (fun c_438 => ?_) (fun c_438 => ?_)
        · rw [if_pos c_438] at hF
          exact hK31_95 v1 v2 v3 v4 u _ _ _ (lv_sub hl [0, 1, 2, 3, 4] rfl) hH hF
        · rw [if_neg c_438] at hF
          refine lv_aload_n hx hb dX13_draws_40 rfl (lv_at hl 0 rfl) ?_
          refine mg_5 hC hH dX13_draws_41 ?_
          refine lv_iload hx hb dX13_draws_44 (lv_at hl 4 rfl) ?_
          obtain ⟨x_439, g_440, e_441, hF⟩ := prd_some hF
          refine ml_5 hC hH g_440 dX13_draws_46 ?_
          refine gx_ti e_441 ?_
          refine lv_iload_n hx hb dX13_draws_47 rfl (lv_at hl 1 rfl) ?_
          refine lv_icmp_ne (tgt := 89) hx hb dX13_draws_48 (by decide) (fun c_442 => ?_) (fun c_442 => ?_)
          · rw [if_neg c_442] at hF
            obtain ⟨x_443, e_444, hF⟩ := pli_some hF
            refine lv_iinc (v := x_443) (lv' := [(4, .int x_443), (0, .ref (Q 72)), (1, .int v1), (2, .int v2), (3, .int v3)]) hx hb dX13_draws_89 hl (k := 4) rfl e_444 (by decide) rfl (fun ls hl => ?_)
            refine lv_goto (tgt := 31) hx hb dX13_draws_92 (by decide) ?_
            exact ih31 v1 v2 v3 x_443 u _ _ _ (lv_sub hl [1, 2, 3, 4, 0] rfl) hH hF
          · rw [if_pos c_442] at hF
            refine lv_aload_n hx hb dX13_draws_51 rfl (lv_at hl 0 rfl) ?_
            refine mg_8 hC hH dX13_draws_52 ?_
            refine lv_iload hx hb dX13_draws_55 (lv_at hl 4 rfl) ?_
            obtain ⟨x_445, g_446, e_447, hF⟩ := prd_some hF
            refine ml_8 hC hH g_446 dX13_draws_57 ?_
            refine gx_ti e_447 ?_
            refine lv_iconst (v := 1) hx hb dX13_draws_58 (by decide) ?_
            refine lv_icmp_eq (tgt := 65) hx hb dX13_draws_59 (by decide) (fun c_448 => ?_) (fun c_448 => ?_)
            · rw [if_pos c_448] at hF
              refine lv_aload_n hx hb dX13_draws_65 rfl (lv_at hl 0 rfl) ?_
              refine mg_14 hC hH dX13_draws_66 ?_
              refine lv_bipush (v := 32) hx hb dX13_draws_69 (by decide) ?_
              refine lv_iload_n hx hb dX13_draws_71 rfl (lv_at hl 1 rfl) ?_
              refine lv_imul hx hb dX13_draws_72 ?_
              refine lv_iload_n hx hb dX13_draws_73 rfl (lv_at hl 3 rfl) ?_
              refine lv_iadd hx hb dX13_draws_74 ?_
              refine lv_iload hx hb dX13_draws_75 (lv_at hl 4 rfl) ?_
              obtain ⟨u_450, g_449, e_451, hF⟩ := pwd_some hF
              refine ms_14 hC hH e_451 g_449 dX13_draws_77 (fun H locs hH => ?_)
              refine lv_aload_n hx hb dX13_draws_78 rfl (lv_at hl 0 rfl) ?_
              refine mg_10 hC hH dX13_draws_79 ?_
              refine lv_iload hx hb dX13_draws_82 (lv_at hl 4 rfl) ?_
              refine lv_iload_n hx hb dX13_draws_84 rfl (lv_at hl 3 rfl) ?_
              obtain ⟨u_453, g_452, e_454, hF⟩ := pwd_some hF
              refine ms_10 hC hH e_454 g_452 dX13_draws_85 (fun H locs hH => ?_)
              obtain ⟨x_455, e_456, hF⟩ := pli_some hF
              refine lv_iinc (v := x_455) (lv' := [(3, .int x_455), (0, .ref (Q 72)), (1, .int v1), (2, .int v2), (4, .int v4)]) hx hb dX13_draws_86 hl (k := 3) rfl e_456 (by decide) rfl (fun ls hl => ?_)
              obtain ⟨x_457, e_458, hF⟩ := pli_some hF
              refine lv_iinc (v := x_457) (lv' := [(4, .int x_457), (3, .int x_455), (0, .ref (Q 72)), (1, .int v1), (2, .int v2)]) hx hb dX13_draws_89 hl (k := 4) rfl e_458 (by decide) rfl (fun ls hl => ?_)
              refine lv_goto (tgt := 31) hx hb dX13_draws_92 (by decide) ?_
              exact ih31 v1 v2 x_455 x_457 u_453 _ _ _ (lv_sub hl [2, 3, 4, 1, 0] rfl) hH hF
            · rw [if_neg c_448] at hF
              refine lv_goto (tgt := 89) hx hb dX13_draws_62 (by decide) ?_
              obtain ⟨x_459, e_460, hF⟩ := pli_some hF
              refine lv_iinc (v := x_459) (lv' := [(4, .int x_459), (0, .ref (Q 72)), (1, .int v1), (2, .int v2), (3, .int v3)]) hx hb dX13_draws_89 hl (k := 4) rfl e_460 (by decide) rfl (fun ls hl => ?_)
              refine lv_goto (tgt := 31) hx hb dX13_draws_92 (by decide) ?_
              exact ih31 v1 v2 v3 x_459 u _ _ _ (lv_sub hl [1, 2, 3, 4, 0] rfl) hH hF
    refine hL31 _ (fun v1 v2 v3 v4 u H locs ls hl hH hF => ?_) fuel a0 r_1 0 0 u_434 _ _ _ (lv_sub hl [3, 4, 2, 1, 0] rfl) hH hF
    refine lv_aload_n hx hb dX13_draws_95 rfl (lv_at hl 0 rfl) ?_
    refine lv_iload_n hx hb dX13_draws_96 rfl (lv_at hl 1 rfl) ?_
    obtain ⟨r_461, u_462, h_463, hF⟩ := pcl_some hF
    refine mcV_i (As := [.int v1]) (rest := []) hC hH (m_fights l G Z Q u u_462 r_461 v1 _ h_463) kwX13_fights kVX13_fights ⟨Nat.le_of_ble_eq_true rfl, Nat.le_of_ble_eq_true rfl⟩ rfl hl.1 rfl (Nat.le_of_ble_eq_true rfl) dX13_draws_97 (fun H locs hH => ?_)
    have hF := prt_eq hF
    exact mr_i hC hH hr hF dX13_draws_100 hlocks
def lp_matOf_2 : Nat → Int32 → Int32 → Int32 → (Int32 → Int32 → Int32 → PG (Int32)) → PG (Int32)
  | 0, _, _, _, _ => fun _ => none
  | n2 + 1, v1, v2, v3, K2_30 => (if 4 ≤ v3 then K2_30 v1 v2 v3 else prd 22 4 v3 (fun x_2 => (if x_2 = ((40 * v1) + v2) then prt v3 else pli (v3 + 1) (fun x_6 => lp_matOf_2 n2 v1 v2 x_6 K2_30))))
def f_matOf (a0 : Int32) (a1 : Int32) : PG (Int32) := lp_matOf_2 fuel a0 a1 0 (fun v1 v2 v3 => prt (-1))
set_option maxHeartbeats 4000000 in
set_option maxRecDepth 100000 in
theorem m_matOf (l : Launch) (G : gG) (Z : gM) (Q : Nat → Nat) (u u1 : GS) (r : Int32) (a0 : Int32) (a1 : Int32) (sz : Nat) (hF : f_matOf a0 a1 u = some (r, u1)) : Met l yX13_matOf (Cond.code yX13_matOf cX13_matOf 4 (some .int) :: wM) { frames := 0, cells := 0, slots := 0, locals := 0 } (va_Pc [.ref (Q 72), .int a0, .int a1] (mPM G Z Q u.1 sz)) (mQi G Q u1.1 r sz) 0 0 (mA Q sz) := by
  refine Met.ofW (cc := cX13_matOf) (maxL := 4) (ret := (some .int)) (by decide) rfl ?_
  intro p e s m args below meth c s₁ B hml hv
  obtain ⟨rfl, rfl, hP, hB, hD, hE⟩ := hv
  have hr := B.returns
  have hlocks := B.notSynchronized
  have hts := atoms_spec (ws := Cond.code yX13_matOf cX13_matOf 4 (some .int) :: wM) B.pre
  have hC : mX p c cX13_matOf 4 s m _ G Z Q := ⟨B.exec, B.bytes, hml, findClass_of_methodNamed B.named, fun w h => hts w (List.mem_cons_of_mem _ h), hB, hE⟩
  have hx := hC.1
  have hb := hC.2.1
  have hH : mH G Q u.1 s s.heap [] := ⟨hP, hD, va_S.rf⟩
  have hl := lv_entry ([.ref (Q 72), .int a0, .int a1]) (n := 4) (Nat.le_of_ble_eq_true rfl)
  rw [lg_entry_eq]
  generalize (lg_sl ([.ref (Q 72), .int a0, .int a1]) ++ List.replicate (4 - (lg_sl ([.ref (Q 72), .int a0, .int a1])).length) Slot.unset).toArray = ls at hl ⊢
  have hl : lv_has ls 4 [(0, .ref (Q 72)), (1, .int a0), (2, .int a1)] := hl
  unfold f_matOf at hF
  refine lv_iconst (v := 0) hx hb dX13_matOf_0 (by decide) ?_
  refine lv_istore_n (lv' := [(3, .int 0), (0, .ref (Q 72)), (1, .int a0), (2, .int a1)]) hx hb dX13_matOf_1 rfl hl (by decide) rfl (fun ls hl => ?_)
  have hL2 : ∀ (K2_30 : Int32 → Int32 → Int32 → PG (Int32)), (∀ (v1 v2 v3 : Int32) (u : GS) (H : Heap) (locs : List Loc) (ls : Array Slot), lv_has ls 4 [(0, .ref (Q 72)), (1, .int v1), (2, .int v2), (3, .int v3)] → mH G Q u.1 s H locs → K2_30 v1 v2 v3 u = some ((r, u1)) → W p l e (headSpec (Cond.code yX13_matOf cX13_matOf 4 (some .int) :: wM) { frames := 0, cells := 0, slots := 0, locals := 0 }).room s m [.ref (Q 72), .int a0, .int a1].toArray below meth c H locs 0 0 (MQ below (mQi G Q u1.1 r s.heap.size) [.ref (Q 72), .int a0, .int a1].toArray s 0 0 (mA Q s.heap.size)) (F0 m 30 ls [])) → ∀ (n2 : Nat) (v1 v2 v3 : Int32) (u : GS) (H : Heap) (locs : List Loc) (ls : Array Slot), lv_has ls 4 [(0, .ref (Q 72)), (1, .int v1), (2, .int v2), (3, .int v3)] → mH G Q u.1 s H locs → lp_matOf_2 n2 v1 v2 v3 K2_30 u = some ((r, u1)) → W p l e (headSpec (Cond.code yX13_matOf cX13_matOf 4 (some .int) :: wM) { frames := 0, cells := 0, slots := 0, locals := 0 }).room s m [.ref (Q 72), .int a0, .int a1].toArray below meth c H locs 0 0 (MQ below (mQi G Q u1.1 r s.heap.size) [.ref (Q 72), .int a0, .int a1].toArray s 0 0 (mA Q s.heap.size)) (F0 m 2 ls []) := by
    intro K2_30 hK2_30 n2
    induction n2 with
    | zero => intro v1 v2 v3 u H locs ls hl hH hF; cases hF
    | succ n2 ih2 =>
      intro v1 v2 v3 u H locs ls hl hH hF
      unfold lp_matOf_2 at hF
      refine lv_iload_n hx hb dX13_matOf_2 rfl (lv_at hl 3 rfl) ?_
      refine lv_iconst (v := 4) hx hb dX13_matOf_3 (by decide) ?_
      refine lv_icmp_ge (tgt := 30) hx hb dX13_matOf_4 (by decide) (fun c_1 => ?_) (fun c_1 => ?_)
      · rw [if_pos c_1] at hF
        exact hK2_30 v1 v2 v3 u _ _ _ (lv_sub hl [0, 1, 2, 3] rfl) hH hF
      · rw [if_neg c_1] at hF
        refine lv_aload_n hx hb dX13_matOf_7 rfl (lv_at hl 0 rfl) ?_
        refine mg_22 hC hH dX13_matOf_8 ?_
        refine lv_iload_n hx hb dX13_matOf_11 rfl (lv_at hl 3 rfl) ?_
        obtain ⟨x_2, g_3, e_4, hF⟩ := prd_some hF
        refine ml_22 hC hH g_3 dX13_matOf_12 ?_
        refine gx_ti e_4 ?_
        refine lv_bipush (v := 40) hx hb dX13_matOf_13 (by decide) ?_
        refine lv_iload_n hx hb dX13_matOf_15 rfl (lv_at hl 1 rfl) ?_
        refine lv_imul hx hb dX13_matOf_16 ?_
        refine lv_iload_n hx hb dX13_matOf_17 rfl (lv_at hl 2 rfl) ?_
        refine lv_iadd hx hb dX13_matOf_18 ?_
        refine lv_icmp_ne (tgt := 24) hx hb dX13_matOf_19 (by decide) (fun c_5 => ?_) (fun c_5 => ?_)
        · rw [if_neg c_5] at hF
          obtain ⟨x_6, e_7, hF⟩ := pli_some hF
          refine lv_iinc (v := x_6) (lv' := [(3, .int x_6), (0, .ref (Q 72)), (1, .int v1), (2, .int v2)]) hx hb dX13_matOf_24 hl (k := 3) rfl e_7 (by decide) rfl (fun ls hl => ?_)
          refine lv_goto (tgt := 2) hx hb dX13_matOf_27 (by decide) ?_
          exact ih2 v1 v2 x_6 u _ _ _ (lv_sub hl [1, 2, 3, 0] rfl) hH hF
        · rw [if_pos c_5] at hF
          refine lv_iload_n hx hb dX13_matOf_22 rfl (lv_at hl 3 rfl) ?_
          have hF := prt_eq hF
          exact mr_i hC hH hr hF dX13_matOf_23 hlocks
  refine hL2 _ (fun v1 v2 v3 u H locs ls hl hH hF => ?_) fuel a0 a1 0 u _ _ _ (lv_sub hl [1, 2, 3, 0] rfl) hH hF
  refine lv_iconst (v := (-1)) hx hb dX13_matOf_30 (by decide) ?_
  have hF := prt_eq hF
  exact mr_i hC hH hr hF dX13_matOf_31 hlocks
def f_isMat (a0 : Int32) : PG (Int32) := pcl (f_in a0.toInt64 0 3) (fun r_1 => pog (gb r_1) (prt r_1))
set_option maxHeartbeats 4000000 in
set_option maxRecDepth 100000 in
theorem m_isMat (l : Launch) (G : gG) (Z : gM) (Q : Nat → Nat) (u u1 : GS) (r : Int32) (a0 : Int32) (sz : Nat) (hF : f_isMat a0 u = some (r, u1)) : Met l yX13_isMat (Cond.code yX13_isMat cX13_isMat 1 (some .boolean) :: wM) { frames := 1, cells := 0, slots := 0, locals := 25 } (va_Pc [.int a0] (mPM G Z Q u.1 sz)) (mQi G Q u1.1 r sz) 0 0 (mA Q sz) := by
  refine Met.ofW (cc := cX13_isMat) (maxL := 1) (ret := (some .boolean)) (by decide) rfl ?_
  intro p e s m args below meth c s₁ B hml hv
  obtain ⟨rfl, rfl, hP, hB, hD, hE⟩ := hv
  have hr := B.returns
  have hlocks := B.notSynchronized
  have hts := atoms_spec (ws := Cond.code yX13_isMat cX13_isMat 1 (some .boolean) :: wM) B.pre
  have hC : mX p c cX13_isMat 1 s m _ G Z Q := ⟨B.exec, B.bytes, hml, findClass_of_methodNamed B.named, fun w h => hts w (List.mem_cons_of_mem _ h), hB, hE⟩
  have hx := hC.1
  have hb := hC.2.1
  have hH : mH G Q u.1 s s.heap [] := ⟨hP, hD, va_S.rf⟩
  have hl := lv_entry ([.int a0]) (n := 1) (Nat.le_of_ble_eq_true rfl)
  rw [lg_entry_eq]
  generalize (lg_sl ([.int a0]) ++ List.replicate (1 - (lg_sl ([.int a0])).length) Slot.unset).toArray = ls at hl ⊢
  have hl : lv_has ls 1 [(0, .int a0)] := hl
  unfold f_isMat at hF
  refine lv_iload_n hx hb dX13_isMat_0 rfl (lv_at hl 0 rfl) ?_
  refine lv_i2l (v := a0.toInt64) hx hb dX13_isMat_1 rfl ?_
  refine lv_lconst (v := 0) hx hb dX13_isMat_2 (by decide) ?_
  refine lv_ldc2 (v := 3) hx hb hC.2.2.2.1 (hC.2.2.2.2.1 _ wma141) dX13_isMat_3 ?_
  obtain ⟨r_1, u_2, h_3, hF⟩ := pcl_some hF
  refine mcS_i (As := [.long a0.toInt64, .long 0, .long 3]) (rest := []) hC hH (m_in l G Z Q u u_2 r_1 a0.toInt64 0 3 _ h_3) kwX13_in kVX13_in ⟨Nat.le_of_ble_eq_true rfl, Nat.le_of_ble_eq_true rfl⟩ rfl hl.1 rfl (Nat.le_of_ble_eq_true rfl) dX13_isMat_6 (fun H locs hH => ?_)
  obtain ⟨g_4, hF⟩ := pog_some hF
  have hF := prt_eq hF
  exact mr_z hC hH hr g_4 hF dX13_isMat_9 hlocks
def lp_rests_36 : Nat → Int32 → Int32 → Int32 → (Int32 → Int32 → Int32 → PG (Int32)) → PG (Int32)
  | 0, _, _, _, _ => fun _ => none
  | n36 + 1, v1, v2, v3, K36_97 => (if 4 ≤ v3 then K36_97 v1 v2 v3 else (if v2 = 0 then prd 22 4 v3 (fun x_9 => (if x_9 = (-1) then pli (v3 + 1) (fun x_13 => lp_rests_36 n36 v1 0 x_13 K36_97) else prd 22 4 v3 (fun x_15 => prd 16 160 x_15 (fun x_18 => (if x_18 = v1 then pli (v3 + 1) (fun x_22 => lp_rests_36 n36 v1 1 x_22 K36_97) else prd 22 4 v3 (fun x_24 => prd 17 160 x_24 (fun x_27 => (if x_27 = v1 then pli (v3 + 1) (fun x_33 => lp_rests_36 n36 v1 1 x_33 K36_97) else pli (v3 + 1) (fun x_31 => lp_rests_36 n36 v1 0 x_31 K36_97))))))))) else pli (v3 + 1) (fun x_7 => lp_rests_36 n36 v1 1 x_7 K36_97)))
def f_rests (a0 : Int32) : PG (Int32) := prd 11 96 a0 (fun x_1 => (if x_1 = (-1) then lp_rests_36 fuel a0 0 0 (fun v1 v2 v3 => pog (gb v2) (prt v2)) else prf 3 (fun x_36 => prd 11 96 a0 (fun x_38 => prf 4 (fun x_41 => (if x_41 ≤ (x_36 - x_38) then lp_rests_36 fuel a0 0 0 (fun v1 v2 v3 => pog (gb v2) (prt v2)) else lp_rests_36 fuel a0 1 0 (fun v1 v2 v3 => pog (gb v2) (prt v2))))))))
set_option maxHeartbeats 4000000 in
set_option maxRecDepth 100000 in
theorem m_rests (l : Launch) (G : gG) (Z : gM) (Q : Nat → Nat) (u u1 : GS) (r : Int32) (a0 : Int32) (sz : Nat) (hF : f_rests a0 u = some (r, u1)) : Met l yX13_rests (Cond.code yX13_rests cX13_rests 4 (some .boolean) :: wM) { frames := 0, cells := 0, slots := 0, locals := 0 } (va_Pc [.ref (Q 72), .int a0] (mPM G Z Q u.1 sz)) (mQi G Q u1.1 r sz) 0 0 (mA Q sz) := by
  refine Met.ofW (cc := cX13_rests) (maxL := 4) (ret := (some .boolean)) (by decide) rfl ?_
  intro p e s m args below meth c s₁ B hml hv
  obtain ⟨rfl, rfl, hP, hB, hD, hE⟩ := hv
  have hr := B.returns
  have hlocks := B.notSynchronized
  have hts := atoms_spec (ws := Cond.code yX13_rests cX13_rests 4 (some .boolean) :: wM) B.pre
  have hC : mX p c cX13_rests 4 s m _ G Z Q := ⟨B.exec, B.bytes, hml, findClass_of_methodNamed B.named, fun w h => hts w (List.mem_cons_of_mem _ h), hB, hE⟩
  have hx := hC.1
  have hb := hC.2.1
  have hH : mH G Q u.1 s s.heap [] := ⟨hP, hD, va_S.rf⟩
  have hl := lv_entry ([.ref (Q 72), .int a0]) (n := 4) (Nat.le_of_ble_eq_true rfl)
  rw [lg_entry_eq]
  generalize (lg_sl ([.ref (Q 72), .int a0]) ++ List.replicate (4 - (lg_sl ([.ref (Q 72), .int a0])).length) Slot.unset).toArray = ls at hl ⊢
  have hl : lv_has ls 4 [(0, .ref (Q 72)), (1, .int a0)] := hl
  unfold f_rests at hF
  refine lv_aload_n hx hb dX13_rests_0 rfl (lv_at hl 0 rfl) ?_
  refine mg_11 hC hH dX13_rests_1 ?_
  refine lv_iload_n hx hb dX13_rests_4 rfl (lv_at hl 1 rfl) ?_
  obtain ⟨x_1, g_2, e_3, hF⟩ := prd_some hF
  refine ml_11 hC hH g_2 dX13_rests_5 ?_
  refine gx_ti e_3 ?_
  refine lv_iconst (v := (-1)) hx hb dX13_rests_6 (by decide) ?_
  refine lv_icmp_eq (tgt := 32) hx hb dX13_rests_7 (by decide) (fun c_4 => ?_) (fun c_4 => ?_)
  · rw [if_pos c_4] at hF
    refine lv_iconst (v := 0) hx hb dX13_rests_32 (by decide) ?_
    refine lv_istore_n (lv' := [(2, .int 0), (0, .ref (Q 72)), (1, .int a0)]) hx hb dX13_rests_33 rfl hl (by decide) rfl (fun ls hl => ?_)
    refine lv_iconst (v := 0) hx hb dX13_rests_34 (by decide) ?_
    refine lv_istore_n (lv' := [(3, .int 0), (2, .int 0), (0, .ref (Q 72)), (1, .int a0)]) hx hb dX13_rests_35 rfl hl (by decide) rfl (fun ls hl => ?_)
    have hL36 : ∀ (K36_97 : Int32 → Int32 → Int32 → PG (Int32)), (∀ (v1 v2 v3 : Int32) (u : GS) (H : Heap) (locs : List Loc) (ls : Array Slot), lv_has ls 4 [(0, .ref (Q 72)), (1, .int v1), (2, .int v2), (3, .int v3)] → mH G Q u.1 s H locs → K36_97 v1 v2 v3 u = some ((r, u1)) → W p l e (headSpec (Cond.code yX13_rests cX13_rests 4 (some .boolean) :: wM) { frames := 0, cells := 0, slots := 0, locals := 0 }).room s m [.ref (Q 72), .int a0].toArray below meth c H locs 0 0 (MQ below (mQi G Q u1.1 r s.heap.size) [.ref (Q 72), .int a0].toArray s 0 0 (mA Q s.heap.size)) (F0 m 97 ls [])) → ∀ (n36 : Nat) (v1 v2 v3 : Int32) (u : GS) (H : Heap) (locs : List Loc) (ls : Array Slot), lv_has ls 4 [(0, .ref (Q 72)), (1, .int v1), (2, .int v2), (3, .int v3)] → mH G Q u.1 s H locs → lp_rests_36 n36 v1 v2 v3 K36_97 u = some ((r, u1)) → W p l e (headSpec (Cond.code yX13_rests cX13_rests 4 (some .boolean) :: wM) { frames := 0, cells := 0, slots := 0, locals := 0 }).room s m [.ref (Q 72), .int a0].toArray below meth c H locs 0 0 (MQ below (mQi G Q u1.1 r s.heap.size) [.ref (Q 72), .int a0].toArray s 0 0 (mA Q s.heap.size)) (F0 m 36 ls []) := by
      intro K36_97 hK36_97 n36
      induction n36 with
      | zero => intro v1 v2 v3 u H locs ls hl hH hF; cases hF
      | succ n36 ih36 =>
        intro v1 v2 v3 u H locs ls hl hH hF
        unfold lp_rests_36 at hF
        refine lv_iload_n hx hb dX13_rests_36 rfl (lv_at hl 3 rfl) ?_
        refine lv_iconst (v := 4) hx hb dX13_rests_37 (by decide) ?_
        refine lv_icmp_ge (tgt := 97) hx hb dX13_rests_38 (by decide) (fun c_5 => ?_) (fun c_5 => ?_)
        · rw [if_pos c_5] at hF
          exact hK36_97 v1 v2 v3 u _ _ _ (lv_sub hl [0, 1, 2, 3] rfl) hH hF
        · rw [if_neg c_5] at hF
          refine lv_iload_n hx hb dX13_rests_41 rfl (lv_at hl 2 rfl) ?_
          refine lv_if_ne (tgt := 85) hx hb dX13_rests_42 (by decide) (fun c_6 => ?_) (fun c_6 => ?_)
          · rw [if_neg c_6] at hF
            refine lv_iconst (v := 1) hx hb dX13_rests_85 (by decide) ?_
            refine lv_goto (tgt := 90) hx hb dX13_rests_86 (by decide) ?_
            refine lv_istore_n (lv' := [(2, .int 1), (0, .ref (Q 72)), (1, .int v1), (3, .int v3)]) hx hb dX13_rests_90 rfl hl (by decide) rfl (fun ls hl => ?_)
            obtain ⟨x_7, e_8, hF⟩ := pli_some hF
            refine lv_iinc (v := x_7) (lv' := [(3, .int x_7), (2, .int 1), (0, .ref (Q 72)), (1, .int v1)]) hx hb dX13_rests_91 hl (k := 3) rfl e_8 (by decide) rfl (fun ls hl => ?_)
            refine lv_goto (tgt := 36) hx hb dX13_rests_94 (by decide) ?_
            exact ih36 v1 1 x_7 u _ _ _ (lv_sub hl [2, 3, 1, 0] rfl) hH hF
          · rw [if_pos c_6] at hF
            refine lv_aload_n hx hb dX13_rests_45 rfl (lv_at hl 0 rfl) ?_
            refine mg_22 hC hH dX13_rests_46 ?_
            refine lv_iload_n hx hb dX13_rests_49 rfl (lv_at hl 3 rfl) ?_
            obtain ⟨x_9, g_10, e_11, hF⟩ := prd_some hF
            refine ml_22 hC hH g_10 dX13_rests_50 ?_
            refine gx_ti e_11 ?_
            refine lv_iconst (v := (-1)) hx hb dX13_rests_51 (by decide) ?_
            refine lv_icmp_eq (tgt := 89) hx hb dX13_rests_52 (by decide) (fun c_12 => ?_) (fun c_12 => ?_)
            · rw [if_pos c_12] at hF
              refine lv_iconst (v := 0) hx hb dX13_rests_89 (by decide) ?_
              refine lv_istore_n (lv' := [(2, .int 0), (0, .ref (Q 72)), (1, .int v1), (3, .int v3)]) hx hb dX13_rests_90 rfl hl (by decide) rfl (fun ls hl => ?_)
              obtain ⟨x_13, e_14, hF⟩ := pli_some hF
              refine lv_iinc (v := x_13) (lv' := [(3, .int x_13), (2, .int 0), (0, .ref (Q 72)), (1, .int v1)]) hx hb dX13_rests_91 hl (k := 3) rfl e_14 (by decide) rfl (fun ls hl => ?_)
              refine lv_goto (tgt := 36) hx hb dX13_rests_94 (by decide) ?_
              exact ih36 v1 0 x_13 u _ _ _ (lv_sub hl [2, 3, 1, 0] rfl) hH hF
            · rw [if_neg c_12] at hF
              refine lv_aload_n hx hb dX13_rests_55 rfl (lv_at hl 0 rfl) ?_
              refine mg_16 hC hH dX13_rests_56 ?_
              refine lv_aload_n hx hb dX13_rests_59 rfl (lv_at hl 0 rfl) ?_
              refine mg_22 hC hH dX13_rests_60 ?_
              refine lv_iload_n hx hb dX13_rests_63 rfl (lv_at hl 3 rfl) ?_
              obtain ⟨x_15, g_16, e_17, hF⟩ := prd_some hF
              refine ml_22 hC hH g_16 dX13_rests_64 ?_
              refine gx_ti e_17 ?_
              obtain ⟨x_18, g_19, e_20, hF⟩ := prd_some hF
              refine ml_16 hC hH g_19 dX13_rests_65 ?_
              refine gx_ti e_20 ?_
              refine lv_iload_n hx hb dX13_rests_66 rfl (lv_at hl 1 rfl) ?_
              refine lv_icmp_eq (tgt := 85) hx hb dX13_rests_67 (by decide) (fun c_21 => ?_) (fun c_21 => ?_)
              · rw [if_pos c_21] at hF
                refine lv_iconst (v := 1) hx hb dX13_rests_85 (by decide) ?_
                refine lv_goto (tgt := 90) hx hb dX13_rests_86 (by decide) ?_
                refine lv_istore_n (lv' := [(2, .int 1), (0, .ref (Q 72)), (1, .int v1), (3, .int v3)]) hx hb dX13_rests_90 rfl hl (by decide) rfl (fun ls hl => ?_)
                obtain ⟨x_22, e_23, hF⟩ := pli_some hF
                refine lv_iinc (v := x_22) (lv' := [(3, .int x_22), (2, .int 1), (0, .ref (Q 72)), (1, .int v1)]) hx hb dX13_rests_91 hl (k := 3) rfl e_23 (by decide) rfl (fun ls hl => ?_)
                refine lv_goto (tgt := 36) hx hb dX13_rests_94 (by decide) ?_
                exact ih36 v1 1 x_22 u _ _ _ (lv_sub hl [2, 3, 1, 0] rfl) hH hF
              · rw [if_neg c_21] at hF
                refine lv_aload_n hx hb dX13_rests_70 rfl (lv_at hl 0 rfl) ?_
                refine mg_17 hC hH dX13_rests_71 ?_
                refine lv_aload_n hx hb dX13_rests_74 rfl (lv_at hl 0 rfl) ?_
                refine mg_22 hC hH dX13_rests_75 ?_
                refine lv_iload_n hx hb dX13_rests_78 rfl (lv_at hl 3 rfl) ?_
                obtain ⟨x_24, g_25, e_26, hF⟩ := prd_some hF
                refine ml_22 hC hH g_25 dX13_rests_79 ?_
                refine gx_ti e_26 ?_
                obtain ⟨x_27, g_28, e_29, hF⟩ := prd_some hF
                refine ml_17 hC hH g_28 dX13_rests_80 ?_
                refine gx_ti e_29 ?_
                refine lv_iload_n hx hb dX13_rests_81 rfl (lv_at hl 1 rfl) ?_
                refine lv_icmp_ne (tgt := 89) hx hb dX13_rests_82 (by decide) (fun c_30 => ?_) (fun c_30 => ?_)
                · rw [if_neg c_30] at hF
                  refine lv_iconst (v := 0) hx hb dX13_rests_89 (by decide) ?_
                  refine lv_istore_n (lv' := [(2, .int 0), (0, .ref (Q 72)), (1, .int v1), (3, .int v3)]) hx hb dX13_rests_90 rfl hl (by decide) rfl (fun ls hl => ?_)
                  obtain ⟨x_31, e_32, hF⟩ := pli_some hF
                  refine lv_iinc (v := x_31) (lv' := [(3, .int x_31), (2, .int 0), (0, .ref (Q 72)), (1, .int v1)]) hx hb dX13_rests_91 hl (k := 3) rfl e_32 (by decide) rfl (fun ls hl => ?_)
                  refine lv_goto (tgt := 36) hx hb dX13_rests_94 (by decide) ?_
                  exact ih36 v1 0 x_31 u _ _ _ (lv_sub hl [2, 3, 1, 0] rfl) hH hF
                · rw [if_pos c_30] at hF
                  refine lv_iconst (v := 1) hx hb dX13_rests_85 (by decide) ?_
                  refine lv_goto (tgt := 90) hx hb dX13_rests_86 (by decide) ?_
                  refine lv_istore_n (lv' := [(2, .int 1), (0, .ref (Q 72)), (1, .int v1), (3, .int v3)]) hx hb dX13_rests_90 rfl hl (by decide) rfl (fun ls hl => ?_)
                  obtain ⟨x_33, e_34, hF⟩ := pli_some hF
                  refine lv_iinc (v := x_33) (lv' := [(3, .int x_33), (2, .int 1), (0, .ref (Q 72)), (1, .int v1)]) hx hb dX13_rests_91 hl (k := 3) rfl e_34 (by decide) rfl (fun ls hl => ?_)
                  refine lv_goto (tgt := 36) hx hb dX13_rests_94 (by decide) ?_
                  exact ih36 v1 1 x_33 u _ _ _ (lv_sub hl [2, 3, 1, 0] rfl) hH hF
    refine hL36 _ (fun v1 v2 v3 u H locs ls hl hH hF => ?_) fuel a0 0 0 u _ _ _ (lv_sub hl [2, 3, 1, 0] rfl) hH hF
    refine lv_iload_n hx hb dX13_rests_97 rfl (lv_at hl 2 rfl) ?_
    obtain ⟨g_35, hF⟩ := pog_some hF
    have hF := prt_eq hF
    exact mr_z hC hH hr g_35 hF dX13_rests_98 hlocks
  · rw [if_neg c_4] at hF
    refine lv_aload_n hx hb dX13_rests_10 rfl (lv_at hl 0 rfl) ?_
    refine mg_3 hC hH dX13_rests_11 ?_
    obtain ⟨x_36, e_37, hF⟩ := prf_some hF
    refine gx_ti e_37 ?_
    refine lv_aload_n hx hb dX13_rests_14 rfl (lv_at hl 0 rfl) ?_
    refine mg_11 hC hH dX13_rests_15 ?_
    refine lv_iload_n hx hb dX13_rests_18 rfl (lv_at hl 1 rfl) ?_
    obtain ⟨x_38, g_39, e_40, hF⟩ := prd_some hF
    refine ml_11 hC hH g_39 dX13_rests_19 ?_
    refine gx_ti e_40 ?_
    refine lv_isub hx hb dX13_rests_20 ?_
    refine lv_aload_n hx hb dX13_rests_21 rfl (lv_at hl 0 rfl) ?_
    refine mg_4 hC hH dX13_rests_22 ?_
    obtain ⟨x_41, e_42, hF⟩ := prf_some hF
    refine gx_ti e_42 ?_
    refine lv_icmp_ge (tgt := 32) hx hb dX13_rests_25 (by decide) (fun c_43 => ?_) (fun c_43 => ?_)
    · rw [if_pos c_43] at hF
      refine lv_iconst (v := 0) hx hb dX13_rests_32 (by decide) ?_
      refine lv_istore_n (lv' := [(2, .int 0), (0, .ref (Q 72)), (1, .int a0)]) hx hb dX13_rests_33 rfl hl (by decide) rfl (fun ls hl => ?_)
      refine lv_iconst (v := 0) hx hb dX13_rests_34 (by decide) ?_
      refine lv_istore_n (lv' := [(3, .int 0), (2, .int 0), (0, .ref (Q 72)), (1, .int a0)]) hx hb dX13_rests_35 rfl hl (by decide) rfl (fun ls hl => ?_)
      have hL36 : ∀ (K36_97 : Int32 → Int32 → Int32 → PG (Int32)), (∀ (v1 v2 v3 : Int32) (u : GS) (H : Heap) (locs : List Loc) (ls : Array Slot), lv_has ls 4 [(0, .ref (Q 72)), (1, .int v1), (2, .int v2), (3, .int v3)] → mH G Q u.1 s H locs → K36_97 v1 v2 v3 u = some ((r, u1)) → W p l e (headSpec (Cond.code yX13_rests cX13_rests 4 (some .boolean) :: wM) { frames := 0, cells := 0, slots := 0, locals := 0 }).room s m [.ref (Q 72), .int a0].toArray below meth c H locs 0 0 (MQ below (mQi G Q u1.1 r s.heap.size) [.ref (Q 72), .int a0].toArray s 0 0 (mA Q s.heap.size)) (F0 m 97 ls [])) → ∀ (n36 : Nat) (v1 v2 v3 : Int32) (u : GS) (H : Heap) (locs : List Loc) (ls : Array Slot), lv_has ls 4 [(0, .ref (Q 72)), (1, .int v1), (2, .int v2), (3, .int v3)] → mH G Q u.1 s H locs → lp_rests_36 n36 v1 v2 v3 K36_97 u = some ((r, u1)) → W p l e (headSpec (Cond.code yX13_rests cX13_rests 4 (some .boolean) :: wM) { frames := 0, cells := 0, slots := 0, locals := 0 }).room s m [.ref (Q 72), .int a0].toArray below meth c H locs 0 0 (MQ below (mQi G Q u1.1 r s.heap.size) [.ref (Q 72), .int a0].toArray s 0 0 (mA Q s.heap.size)) (F0 m 36 ls []) := by
        intro K36_97 hK36_97 n36
        induction n36 with
        | zero => intro v1 v2 v3 u H locs ls hl hH hF; cases hF
        | succ n36 ih36 =>
          intro v1 v2 v3 u H locs ls hl hH hF
          unfold lp_rests_36 at hF
          refine lv_iload_n hx hb dX13_rests_36 rfl (lv_at hl 3 rfl) ?_
          refine lv_iconst (v := 4) hx hb dX13_rests_37 (by decide) ?_
          refine lv_icmp_ge (tgt := 97) hx hb dX13_rests_38 (by decide) (fun c_44 => ?_) (fun c_44 => ?_)
          · rw [if_pos c_44] at hF
            exact hK36_97 v1 v2 v3 u _ _ _ (lv_sub hl [0, 1, 2, 3] rfl) hH hF
          · rw [if_neg c_44] at hF
            refine lv_iload_n hx hb dX13_rests_41 rfl (lv_at hl 2 rfl) ?_
            refine lv_if_ne (tgt := 85) hx hb dX13_rests_42 (by decide) (fun c_45 => ?_) (fun c_45 => ?_)
            · rw [if_neg c_45] at hF
              refine lv_iconst (v := 1) hx hb dX13_rests_85 (by decide) ?_
              refine lv_goto (tgt := 90) hx hb dX13_rests_86 (by decide) ?_
              refine lv_istore_n (lv' := [(2, .int 1), (0, .ref (Q 72)), (1, .int v1), (3, .int v3)]) hx hb dX13_rests_90 rfl hl (by decide) rfl (fun ls hl => ?_)
              obtain ⟨x_46, e_47, hF⟩ := pli_some hF
              refine lv_iinc (v := x_46) (lv' := [(3, .int x_46), (2, .int 1), (0, .ref (Q 72)), (1, .int v1)]) hx hb dX13_rests_91 hl (k := 3) rfl e_47 (by decide) rfl (fun ls hl => ?_)
              refine lv_goto (tgt := 36) hx hb dX13_rests_94 (by decide) ?_
              exact ih36 v1 1 x_46 u _ _ _ (lv_sub hl [2, 3, 1, 0] rfl) hH hF
            · rw [if_pos c_45] at hF
              refine lv_aload_n hx hb dX13_rests_45 rfl (lv_at hl 0 rfl) ?_
              refine mg_22 hC hH dX13_rests_46 ?_
              refine lv_iload_n hx hb dX13_rests_49 rfl (lv_at hl 3 rfl) ?_
              obtain ⟨x_48, g_49, e_50, hF⟩ := prd_some hF
              refine ml_22 hC hH g_49 dX13_rests_50 ?_
              refine gx_ti e_50 ?_
              refine lv_iconst (v := (-1)) hx hb dX13_rests_51 (by decide) ?_
              refine lv_icmp_eq (tgt := 89) hx hb dX13_rests_52 (by decide) (fun c_51 => ?_) (fun c_51 => ?_)
              · rw [if_pos c_51] at hF
                refine lv_iconst (v := 0) hx hb dX13_rests_89 (by decide) ?_
                refine lv_istore_n (lv' := [(2, .int 0), (0, .ref (Q 72)), (1, .int v1), (3, .int v3)]) hx hb dX13_rests_90 rfl hl (by decide) rfl (fun ls hl => ?_)
                obtain ⟨x_52, e_53, hF⟩ := pli_some hF
                refine lv_iinc (v := x_52) (lv' := [(3, .int x_52), (2, .int 0), (0, .ref (Q 72)), (1, .int v1)]) hx hb dX13_rests_91 hl (k := 3) rfl e_53 (by decide) rfl (fun ls hl => ?_)
                refine lv_goto (tgt := 36) hx hb dX13_rests_94 (by decide) ?_
                exact ih36 v1 0 x_52 u _ _ _ (lv_sub hl [2, 3, 1, 0] rfl) hH hF
              · rw [if_neg c_51] at hF
                refine lv_aload_n hx hb dX13_rests_55 rfl (lv_at hl 0 rfl) ?_
                refine mg_16 hC hH dX13_rests_56 ?_
                refine lv_aload_n hx hb dX13_rests_59 rfl (lv_at hl 0 rfl) ?_
                refine mg_22 hC hH dX13_rests_60 ?_
                refine lv_iload_n hx hb dX13_rests_63 rfl (lv_at hl 3 rfl) ?_
                obtain ⟨x_54, g_55, e_56, hF⟩ := prd_some hF
                refine ml_22 hC hH g_55 dX13_rests_64 ?_
                refine gx_ti e_56 ?_
                obtain ⟨x_57, g_58, e_59, hF⟩ := prd_some hF
                refine ml_16 hC hH g_58 dX13_rests_65 ?_
                refine gx_ti e_59 ?_
                refine lv_iload_n hx hb dX13_rests_66 rfl (lv_at hl 1 rfl) ?_
                refine lv_icmp_eq (tgt := 85) hx hb dX13_rests_67 (by decide) (fun c_60 => ?_) (fun c_60 => ?_)
                · rw [if_pos c_60] at hF
                  refine lv_iconst (v := 1) hx hb dX13_rests_85 (by decide) ?_
                  refine lv_goto (tgt := 90) hx hb dX13_rests_86 (by decide) ?_
                  refine lv_istore_n (lv' := [(2, .int 1), (0, .ref (Q 72)), (1, .int v1), (3, .int v3)]) hx hb dX13_rests_90 rfl hl (by decide) rfl (fun ls hl => ?_)
                  obtain ⟨x_61, e_62, hF⟩ := pli_some hF
                  refine lv_iinc (v := x_61) (lv' := [(3, .int x_61), (2, .int 1), (0, .ref (Q 72)), (1, .int v1)]) hx hb dX13_rests_91 hl (k := 3) rfl e_62 (by decide) rfl (fun ls hl => ?_)
                  refine lv_goto (tgt := 36) hx hb dX13_rests_94 (by decide) ?_
                  exact ih36 v1 1 x_61 u _ _ _ (lv_sub hl [2, 3, 1, 0] rfl) hH hF
                · rw [if_neg c_60] at hF
                  refine lv_aload_n hx hb dX13_rests_70 rfl (lv_at hl 0 rfl) ?_
                  refine mg_17 hC hH dX13_rests_71 ?_
                  refine lv_aload_n hx hb dX13_rests_74 rfl (lv_at hl 0 rfl) ?_
                  refine mg_22 hC hH dX13_rests_75 ?_
                  refine lv_iload_n hx hb dX13_rests_78 rfl (lv_at hl 3 rfl) ?_
                  obtain ⟨x_63, g_64, e_65, hF⟩ := prd_some hF
                  refine ml_22 hC hH g_64 dX13_rests_79 ?_
                  refine gx_ti e_65 ?_
                  obtain ⟨x_66, g_67, e_68, hF⟩ := prd_some hF
                  refine ml_17 hC hH g_67 dX13_rests_80 ?_
                  refine gx_ti e_68 ?_
                  refine lv_iload_n hx hb dX13_rests_81 rfl (lv_at hl 1 rfl) ?_
                  refine lv_icmp_ne (tgt := 89) hx hb dX13_rests_82 (by decide) (fun c_69 => ?_) (fun c_69 => ?_)
                  · rw [if_neg c_69] at hF
                    refine lv_iconst (v := 0) hx hb dX13_rests_89 (by decide) ?_
                    refine lv_istore_n (lv' := [(2, .int 0), (0, .ref (Q 72)), (1, .int v1), (3, .int v3)]) hx hb dX13_rests_90 rfl hl (by decide) rfl (fun ls hl => ?_)
                    obtain ⟨x_70, e_71, hF⟩ := pli_some hF
                    refine lv_iinc (v := x_70) (lv' := [(3, .int x_70), (2, .int 0), (0, .ref (Q 72)), (1, .int v1)]) hx hb dX13_rests_91 hl (k := 3) rfl e_71 (by decide) rfl (fun ls hl => ?_)
                    refine lv_goto (tgt := 36) hx hb dX13_rests_94 (by decide) ?_
                    exact ih36 v1 0 x_70 u _ _ _ (lv_sub hl [2, 3, 1, 0] rfl) hH hF
                  · rw [if_pos c_69] at hF
                    refine lv_iconst (v := 1) hx hb dX13_rests_85 (by decide) ?_
                    refine lv_goto (tgt := 90) hx hb dX13_rests_86 (by decide) ?_
                    refine lv_istore_n (lv' := [(2, .int 1), (0, .ref (Q 72)), (1, .int v1), (3, .int v3)]) hx hb dX13_rests_90 rfl hl (by decide) rfl (fun ls hl => ?_)
                    obtain ⟨x_72, e_73, hF⟩ := pli_some hF
                    refine lv_iinc (v := x_72) (lv' := [(3, .int x_72), (2, .int 1), (0, .ref (Q 72)), (1, .int v1)]) hx hb dX13_rests_91 hl (k := 3) rfl e_73 (by decide) rfl (fun ls hl => ?_)
                    refine lv_goto (tgt := 36) hx hb dX13_rests_94 (by decide) ?_
                    exact ih36 v1 1 x_72 u _ _ _ (lv_sub hl [2, 3, 1, 0] rfl) hH hF
      refine hL36 _ (fun v1 v2 v3 u H locs ls hl hH hF => ?_) fuel a0 0 0 u _ _ _ (lv_sub hl [2, 3, 1, 0] rfl) hH hF
      refine lv_iload_n hx hb dX13_rests_97 rfl (lv_at hl 2 rfl) ?_
      obtain ⟨g_74, hF⟩ := pog_some hF
      have hF := prt_eq hF
      exact mr_z hC hH hr g_74 hF dX13_rests_98 hlocks
    · rw [if_neg c_43] at hF
      refine lv_iconst (v := 1) hx hb dX13_rests_28 (by decide) ?_
      refine lv_goto (tgt := 33) hx hb dX13_rests_29 (by decide) ?_
      refine lv_istore_n (lv' := [(2, .int 1), (0, .ref (Q 72)), (1, .int a0)]) hx hb dX13_rests_33 rfl hl (by decide) rfl (fun ls hl => ?_)
      refine lv_iconst (v := 0) hx hb dX13_rests_34 (by decide) ?_
      refine lv_istore_n (lv' := [(3, .int 0), (2, .int 1), (0, .ref (Q 72)), (1, .int a0)]) hx hb dX13_rests_35 rfl hl (by decide) rfl (fun ls hl => ?_)
      have hL36 : ∀ (K36_97 : Int32 → Int32 → Int32 → PG (Int32)), (∀ (v1 v2 v3 : Int32) (u : GS) (H : Heap) (locs : List Loc) (ls : Array Slot), lv_has ls 4 [(0, .ref (Q 72)), (1, .int v1), (2, .int v2), (3, .int v3)] → mH G Q u.1 s H locs → K36_97 v1 v2 v3 u = some ((r, u1)) → W p l e (headSpec (Cond.code yX13_rests cX13_rests 4 (some .boolean) :: wM) { frames := 0, cells := 0, slots := 0, locals := 0 }).room s m [.ref (Q 72), .int a0].toArray below meth c H locs 0 0 (MQ below (mQi G Q u1.1 r s.heap.size) [.ref (Q 72), .int a0].toArray s 0 0 (mA Q s.heap.size)) (F0 m 97 ls [])) → ∀ (n36 : Nat) (v1 v2 v3 : Int32) (u : GS) (H : Heap) (locs : List Loc) (ls : Array Slot), lv_has ls 4 [(0, .ref (Q 72)), (1, .int v1), (2, .int v2), (3, .int v3)] → mH G Q u.1 s H locs → lp_rests_36 n36 v1 v2 v3 K36_97 u = some ((r, u1)) → W p l e (headSpec (Cond.code yX13_rests cX13_rests 4 (some .boolean) :: wM) { frames := 0, cells := 0, slots := 0, locals := 0 }).room s m [.ref (Q 72), .int a0].toArray below meth c H locs 0 0 (MQ below (mQi G Q u1.1 r s.heap.size) [.ref (Q 72), .int a0].toArray s 0 0 (mA Q s.heap.size)) (F0 m 36 ls []) := by
        intro K36_97 hK36_97 n36
        induction n36 with
        | zero => intro v1 v2 v3 u H locs ls hl hH hF; cases hF
        | succ n36 ih36 =>
          intro v1 v2 v3 u H locs ls hl hH hF
          unfold lp_rests_36 at hF
          refine lv_iload_n hx hb dX13_rests_36 rfl (lv_at hl 3 rfl) ?_
          refine lv_iconst (v := 4) hx hb dX13_rests_37 (by decide) ?_
          refine lv_icmp_ge (tgt := 97) hx hb dX13_rests_38 (by decide) (fun c_75 => ?_) (fun c_75 => ?_)
          · rw [if_pos c_75] at hF
            exact hK36_97 v1 v2 v3 u _ _ _ (lv_sub hl [0, 1, 2, 3] rfl) hH hF
          · rw [if_neg c_75] at hF
            refine lv_iload_n hx hb dX13_rests_41 rfl (lv_at hl 2 rfl) ?_
            refine lv_if_ne (tgt := 85) hx hb dX13_rests_42 (by decide) (fun c_76 => ?_) (fun c_76 => ?_)
            · rw [if_neg c_76] at hF
              refine lv_iconst (v := 1) hx hb dX13_rests_85 (by decide) ?_
              refine lv_goto (tgt := 90) hx hb dX13_rests_86 (by decide) ?_
              refine lv_istore_n (lv' := [(2, .int 1), (0, .ref (Q 72)), (1, .int v1), (3, .int v3)]) hx hb dX13_rests_90 rfl hl (by decide) rfl (fun ls hl => ?_)
              obtain ⟨x_77, e_78, hF⟩ := pli_some hF
              refine lv_iinc (v := x_77) (lv' := [(3, .int x_77), (2, .int 1), (0, .ref (Q 72)), (1, .int v1)]) hx hb dX13_rests_91 hl (k := 3) rfl e_78 (by decide) rfl (fun ls hl => ?_)
              refine lv_goto (tgt := 36) hx hb dX13_rests_94 (by decide) ?_
              exact ih36 v1 1 x_77 u _ _ _ (lv_sub hl [2, 3, 1, 0] rfl) hH hF
            · rw [if_pos c_76] at hF
              refine lv_aload_n hx hb dX13_rests_45 rfl (lv_at hl 0 rfl) ?_
              refine mg_22 hC hH dX13_rests_46 ?_
              refine lv_iload_n hx hb dX13_rests_49 rfl (lv_at hl 3 rfl) ?_
              obtain ⟨x_79, g_80, e_81, hF⟩ := prd_some hF
              refine ml_22 hC hH g_80 dX13_rests_50 ?_
              refine gx_ti e_81 ?_
              refine lv_iconst (v := (-1)) hx hb dX13_rests_51 (by decide) ?_
              refine lv_icmp_eq (tgt := 89) hx hb dX13_rests_52 (by decide) (fun c_82 => ?_) (fun c_82 => ?_)
              · rw [if_pos c_82] at hF
                refine lv_iconst (v := 0) hx hb dX13_rests_89 (by decide) ?_
                refine lv_istore_n (lv' := [(2, .int 0), (0, .ref (Q 72)), (1, .int v1), (3, .int v3)]) hx hb dX13_rests_90 rfl hl (by decide) rfl (fun ls hl => ?_)
                obtain ⟨x_83, e_84, hF⟩ := pli_some hF
                refine lv_iinc (v := x_83) (lv' := [(3, .int x_83), (2, .int 0), (0, .ref (Q 72)), (1, .int v1)]) hx hb dX13_rests_91 hl (k := 3) rfl e_84 (by decide) rfl (fun ls hl => ?_)
                refine lv_goto (tgt := 36) hx hb dX13_rests_94 (by decide) ?_
                exact ih36 v1 0 x_83 u _ _ _ (lv_sub hl [2, 3, 1, 0] rfl) hH hF
              · rw [if_neg c_82] at hF
                refine lv_aload_n hx hb dX13_rests_55 rfl (lv_at hl 0 rfl) ?_
                refine mg_16 hC hH dX13_rests_56 ?_
                refine lv_aload_n hx hb dX13_rests_59 rfl (lv_at hl 0 rfl) ?_
                refine mg_22 hC hH dX13_rests_60 ?_
                refine lv_iload_n hx hb dX13_rests_63 rfl (lv_at hl 3 rfl) ?_
                obtain ⟨x_85, g_86, e_87, hF⟩ := prd_some hF
                refine ml_22 hC hH g_86 dX13_rests_64 ?_
                refine gx_ti e_87 ?_
                obtain ⟨x_88, g_89, e_90, hF⟩ := prd_some hF
                refine ml_16 hC hH g_89 dX13_rests_65 ?_
                refine gx_ti e_90 ?_
                refine lv_iload_n hx hb dX13_rests_66 rfl (lv_at hl 1 rfl) ?_
                refine lv_icmp_eq (tgt := 85) hx hb dX13_rests_67 (by decide) (fun c_91 => ?_) (fun c_91 => ?_)
                · rw [if_pos c_91] at hF
                  refine lv_iconst (v := 1) hx hb dX13_rests_85 (by decide) ?_
                  refine lv_goto (tgt := 90) hx hb dX13_rests_86 (by decide) ?_
                  refine lv_istore_n (lv' := [(2, .int 1), (0, .ref (Q 72)), (1, .int v1), (3, .int v3)]) hx hb dX13_rests_90 rfl hl (by decide) rfl (fun ls hl => ?_)
                  obtain ⟨x_92, e_93, hF⟩ := pli_some hF
                  refine lv_iinc (v := x_92) (lv' := [(3, .int x_92), (2, .int 1), (0, .ref (Q 72)), (1, .int v1)]) hx hb dX13_rests_91 hl (k := 3) rfl e_93 (by decide) rfl (fun ls hl => ?_)
                  refine lv_goto (tgt := 36) hx hb dX13_rests_94 (by decide) ?_
                  exact ih36 v1 1 x_92 u _ _ _ (lv_sub hl [2, 3, 1, 0] rfl) hH hF
                · rw [if_neg c_91] at hF
                  refine lv_aload_n hx hb dX13_rests_70 rfl (lv_at hl 0 rfl) ?_
                  refine mg_17 hC hH dX13_rests_71 ?_
                  refine lv_aload_n hx hb dX13_rests_74 rfl (lv_at hl 0 rfl) ?_
                  refine mg_22 hC hH dX13_rests_75 ?_
                  refine lv_iload_n hx hb dX13_rests_78 rfl (lv_at hl 3 rfl) ?_
                  obtain ⟨x_94, g_95, e_96, hF⟩ := prd_some hF
                  refine ml_22 hC hH g_95 dX13_rests_79 ?_
                  refine gx_ti e_96 ?_
                  obtain ⟨x_97, g_98, e_99, hF⟩ := prd_some hF
                  refine ml_17 hC hH g_98 dX13_rests_80 ?_
                  refine gx_ti e_99 ?_
                  refine lv_iload_n hx hb dX13_rests_81 rfl (lv_at hl 1 rfl) ?_
                  refine lv_icmp_ne (tgt := 89) hx hb dX13_rests_82 (by decide) (fun c_100 => ?_) (fun c_100 => ?_)
                  · rw [if_neg c_100] at hF
                    refine lv_iconst (v := 0) hx hb dX13_rests_89 (by decide) ?_
                    refine lv_istore_n (lv' := [(2, .int 0), (0, .ref (Q 72)), (1, .int v1), (3, .int v3)]) hx hb dX13_rests_90 rfl hl (by decide) rfl (fun ls hl => ?_)
                    obtain ⟨x_101, e_102, hF⟩ := pli_some hF
                    refine lv_iinc (v := x_101) (lv' := [(3, .int x_101), (2, .int 0), (0, .ref (Q 72)), (1, .int v1)]) hx hb dX13_rests_91 hl (k := 3) rfl e_102 (by decide) rfl (fun ls hl => ?_)
                    refine lv_goto (tgt := 36) hx hb dX13_rests_94 (by decide) ?_
                    exact ih36 v1 0 x_101 u _ _ _ (lv_sub hl [2, 3, 1, 0] rfl) hH hF
                  · rw [if_pos c_100] at hF
                    refine lv_iconst (v := 1) hx hb dX13_rests_85 (by decide) ?_
                    refine lv_goto (tgt := 90) hx hb dX13_rests_86 (by decide) ?_
                    refine lv_istore_n (lv' := [(2, .int 1), (0, .ref (Q 72)), (1, .int v1), (3, .int v3)]) hx hb dX13_rests_90 rfl hl (by decide) rfl (fun ls hl => ?_)
                    obtain ⟨x_103, e_104, hF⟩ := pli_some hF
                    refine lv_iinc (v := x_103) (lv' := [(3, .int x_103), (2, .int 1), (0, .ref (Q 72)), (1, .int v1)]) hx hb dX13_rests_91 hl (k := 3) rfl e_104 (by decide) rfl (fun ls hl => ?_)
                    refine lv_goto (tgt := 36) hx hb dX13_rests_94 (by decide) ?_
                    exact ih36 v1 1 x_103 u _ _ _ (lv_sub hl [2, 3, 1, 0] rfl) hH hF
      refine hL36 _ (fun v1 v2 v3 u H locs ls hl hH hF => ?_) fuel a0 1 0 u _ _ _ (lv_sub hl [2, 3, 1, 0] rfl) hH hF
      refine lv_iload_n hx hb dX13_rests_97 rfl (lv_at hl 2 rfl) ?_
      obtain ⟨g_105, hF⟩ := pog_some hF
      have hF := prt_eq hF
      exact mr_z hC hH hr g_105 hF dX13_rests_98 hlocks
def f_goesOver (a0 : Int32) : PG (Int32) := prd 25 4 a0 (fun x_1 => (if x_1 = 0 then prf 28 (fun x_8 => (if x_8 = 0 then pwd 26 4 a0 (vp_nar .boolean 1) (prt 0) else pwd 25 4 a0 (vp_nar .boolean 1) (prf 28 (fun x_14 => pwd 23 4 a0 x_14 (prt 0))))) else pwd 26 4 a0 (vp_nar .boolean 1) (prt 0)))
set_option maxHeartbeats 4000000 in
set_option maxRecDepth 100000 in
theorem m_goesOver (l : Launch) (G : gG) (Z : gM) (Q : Nat → Nat) (u u1 : GS) (r : Int32) (a0 : Int32) (sz : Nat) (hF : f_goesOver a0 u = some (r, u1)) : Met l yX13_goesOver (Cond.code yX13_goesOver cX13_goesOver 2 none :: wM) { frames := 0, cells := 0, slots := 0, locals := 0 } (va_Pc [.ref (Q 72), .int a0] (mPM G Z Q u.1 sz)) (mQv G Q u1.1 sz) 0 0 (mA Q sz) := by
  refine Met.ofW (cc := cX13_goesOver) (maxL := 2) (ret := none) (by decide) rfl ?_
  intro p e s m args below meth c s₁ B hml hv
  obtain ⟨rfl, rfl, hP, hB, hD, hE⟩ := hv
  have hr := B.returns
  have hlocks := B.notSynchronized
  have hts := atoms_spec (ws := Cond.code yX13_goesOver cX13_goesOver 2 none :: wM) B.pre
  have hC : mX p c cX13_goesOver 2 s m _ G Z Q := ⟨B.exec, B.bytes, hml, findClass_of_methodNamed B.named, fun w h => hts w (List.mem_cons_of_mem _ h), hB, hE⟩
  have hx := hC.1
  have hb := hC.2.1
  have hH : mH G Q u.1 s s.heap [] := ⟨hP, hD, va_S.rf⟩
  have hl := lv_entry ([.ref (Q 72), .int a0]) (n := 2) (Nat.le_of_ble_eq_true rfl)
  rw [lg_entry_eq]
  generalize (lg_sl ([.ref (Q 72), .int a0]) ++ List.replicate (2 - (lg_sl ([.ref (Q 72), .int a0])).length) Slot.unset).toArray = ls at hl ⊢
  have hl : lv_has ls 2 [(0, .ref (Q 72)), (1, .int a0)] := hl
  unfold f_goesOver at hF
  refine lv_aload_n hx hb dX13_goesOver_0 rfl (lv_at hl 0 rfl) ?_
  refine mg_25 hC hH dX13_goesOver_1 ?_
  refine lv_iload_n hx hb dX13_goesOver_4 rfl (lv_at hl 1 rfl) ?_
  obtain ⟨x_1, g_2, e_3, hF⟩ := prd_some hF
  refine ml_25 hC hH g_2 dX13_goesOver_5 ?_
  refine gx_ti e_3 ?_
  refine lv_if_ne (tgt := 16) hx hb dX13_goesOver_6 (by decide) (fun c_4 => ?_) (fun c_4 => ?_)
  · rw [if_neg c_4] at hF
    refine lv_aload_n hx hb dX13_goesOver_16 rfl (lv_at hl 0 rfl) ?_
    refine mg_26 hC hH dX13_goesOver_17 ?_
    refine lv_iload_n hx hb dX13_goesOver_20 rfl (lv_at hl 1 rfl) ?_
    refine lv_iconst (v := 1) hx hb dX13_goesOver_21 (by decide) ?_
    obtain ⟨u_6, g_5, e_7, hF⟩ := pwd_some hF
    refine ms_26 hC hH e_7 g_5 dX13_goesOver_22 (fun H locs hH => ?_)
    refine lv_goto (tgt := 43) hx hb dX13_goesOver_23 (by decide) ?_
    have hF := prt_eq hF
    exact mr_v hC hH hr hF dX13_goesOver_43 hlocks
  · rw [if_pos c_4] at hF
    refine lv_aload_n hx hb dX13_goesOver_9 rfl (lv_at hl 0 rfl) ?_
    refine mg_28 hC hH dX13_goesOver_10 ?_
    obtain ⟨x_8, e_9, hF⟩ := prf_some hF
    refine gx_ti e_9 ?_
    refine lv_if_ne (tgt := 26) hx hb dX13_goesOver_13 (by decide) (fun c_10 => ?_) (fun c_10 => ?_)
    · rw [if_neg c_10] at hF
      refine lv_aload_n hx hb dX13_goesOver_26 rfl (lv_at hl 0 rfl) ?_
      refine mg_25 hC hH dX13_goesOver_27 ?_
      refine lv_iload_n hx hb dX13_goesOver_30 rfl (lv_at hl 1 rfl) ?_
      refine lv_iconst (v := 1) hx hb dX13_goesOver_31 (by decide) ?_
      obtain ⟨u_12, g_11, e_13, hF⟩ := pwd_some hF
      refine ms_25 hC hH e_13 g_11 dX13_goesOver_32 (fun H locs hH => ?_)
      refine lv_aload_n hx hb dX13_goesOver_33 rfl (lv_at hl 0 rfl) ?_
      refine mg_23 hC hH dX13_goesOver_34 ?_
      refine lv_iload_n hx hb dX13_goesOver_37 rfl (lv_at hl 1 rfl) ?_
      refine lv_aload_n hx hb dX13_goesOver_38 rfl (lv_at hl 0 rfl) ?_
      refine mg_28 hC hH dX13_goesOver_39 ?_
      obtain ⟨x_14, e_15, hF⟩ := prf_some hF
      refine gx_ti e_15 ?_
      obtain ⟨u_17, g_16, e_18, hF⟩ := pwd_some hF
      refine ms_23 hC hH e_18 g_16 dX13_goesOver_42 (fun H locs hH => ?_)
      have hF := prt_eq hF
      exact mr_v hC hH hr hF dX13_goesOver_43 hlocks
    · rw [if_pos c_10] at hF
      refine lv_aload_n hx hb dX13_goesOver_16 rfl (lv_at hl 0 rfl) ?_
      refine mg_26 hC hH dX13_goesOver_17 ?_
      refine lv_iload_n hx hb dX13_goesOver_20 rfl (lv_at hl 1 rfl) ?_
      refine lv_iconst (v := 1) hx hb dX13_goesOver_21 (by decide) ?_
      obtain ⟨u_20, g_19, e_21, hF⟩ := pwd_some hF
      refine ms_26 hC hH e_21 g_19 dX13_goesOver_22 (fun H locs hH => ?_)
      refine lv_goto (tgt := 43) hx hb dX13_goesOver_23 (by decide) ?_
      have hF := prt_eq hF
      exact mr_v hC hH hr hF dX13_goesOver_43 hlocks
def lp_begins_79 : Nat → Int32 → Int32 → Int32 → Int32 → Int32 → (Int32 → Int32 → Int32 → Int32 → Int32 → PG (Int32)) → PG (Int32)
  | 0, _, _, _, _, _, _ => fun _ => none
  | n79 + 1, v1, v2, v3, v4, v5, K79_105 => (if 16 ≤ v5 then K79_105 v1 v2 v3 v4 v5 else pwd 24 64 ((16 * v3) + v5) 0 (pli (v5 + 1) (fun x_36 => lp_begins_79 n79 v1 v2 v3 v4 x_36 K79_105)))
def f_begins (a0 : Int32) (a1 : Int32) (a2 : Int32) : PG (Int32) := pli ((40 * a0) + a1) (fun x_1 => pwd 15 160 x_1 1 (pcl (fS 24 0 a0 a1 0 0) (fun r_6 => pwd 16 160 x_1 r_6 (pcl (fS 24 0 a0 a1 1 0) (fun r_12 => pwd 17 160 x_1 r_12 (pwd 22 4 a2 x_1 (prf 27 (fun x_21 => pwd 23 4 a2 x_21 (pwd 25 4 a2 (vp_nar .boolean 0) (pwd 26 4 a2 (vp_nar .boolean 0) (lp_begins_79 fuel a0 a1 a2 x_1 0 (fun v1 v2 v3 v4 v5 => prf 27 (fun x_38 => (if x_38 = 0 then pcl (f_goesOver v3) (fun r_41 => prt 1) else prt 1))))))))))))))
set_option maxHeartbeats 4000000 in
set_option maxRecDepth 100000 in
theorem m_begins (l : Launch) (G : gG) (Z : gM) (Q : Nat → Nat) (u u1 : GS) (r : Int32) (a0 : Int32) (a1 : Int32) (a2 : Int32) (sz : Nat) (hF : f_begins a0 a1 a2 u = some (r, u1)) : Met l yX13_begins (Cond.code yX13_begins cX13_begins 6 (some .int) :: wM) { frames := 309, cells := 0, slots := 0, locals := 3786 } (va_Pc [.ref (Q 72), .int a0, .int a1, .int a2] (mPM G Z Q u.1 sz)) (mQi G Q u1.1 r sz) 0 0 (mA Q sz) := by
  refine Met.ofW (cc := cX13_begins) (maxL := 6) (ret := (some .int)) (by decide) rfl ?_
  intro p e s m args below meth c s₁ B hml hv
  obtain ⟨rfl, rfl, hP, hB, hD, hE⟩ := hv
  have hr := B.returns
  have hlocks := B.notSynchronized
  have hts := atoms_spec (ws := Cond.code yX13_begins cX13_begins 6 (some .int) :: wM) B.pre
  have hC : mX p c cX13_begins 6 s m _ G Z Q := ⟨B.exec, B.bytes, hml, findClass_of_methodNamed B.named, fun w h => hts w (List.mem_cons_of_mem _ h), hB, hE⟩
  have hx := hC.1
  have hb := hC.2.1
  have hH : mH G Q u.1 s s.heap [] := ⟨hP, hD, va_S.rf⟩
  have hl := lv_entry ([.ref (Q 72), .int a0, .int a1, .int a2]) (n := 6) (Nat.le_of_ble_eq_true rfl)
  rw [lg_entry_eq]
  generalize (lg_sl ([.ref (Q 72), .int a0, .int a1, .int a2]) ++ List.replicate (6 - (lg_sl ([.ref (Q 72), .int a0, .int a1, .int a2])).length) Slot.unset).toArray = ls at hl ⊢
  have hl : lv_has ls 6 [(0, .ref (Q 72)), (1, .int a0), (2, .int a1), (3, .int a2)] := hl
  unfold f_begins at hF
  refine lv_bipush (v := 40) hx hb dX13_begins_0 (by decide) ?_
  refine lv_iload_n hx hb dX13_begins_2 rfl (lv_at hl 1 rfl) ?_
  refine lv_imul hx hb dX13_begins_3 ?_
  refine lv_iload_n hx hb dX13_begins_4 rfl (lv_at hl 2 rfl) ?_
  refine lv_iadd hx hb dX13_begins_5 ?_
  obtain ⟨x_1, e_2, hF⟩ := pli_some hF
  refine gx_ti e_2 ?_
  refine lv_istore (lv' := [(4, .int x_1), (0, .ref (Q 72)), (1, .int a0), (2, .int a1), (3, .int a2)]) hx hb dX13_begins_6 hl (by decide) rfl (fun ls hl => ?_)
  refine lv_aload_n hx hb dX13_begins_8 rfl (lv_at hl 1 rfl) ?_
  refine mg_15 hC hH dX13_begins_9 ?_
  refine lv_iload hx hb dX13_begins_12 (lv_at hl 0 rfl) ?_
  refine lv_iconst (v := 1) hx hb dX13_begins_14 (by decide) ?_
  obtain ⟨u_4, g_3, e_5, hF⟩ := pwd_some hF
  refine ms_15 hC hH e_5 g_3 dX13_begins_15 (fun H locs hH => ?_)
  refine lv_aload_n hx hb dX13_begins_16 rfl (lv_at hl 1 rfl) ?_
  refine mg_16 hC hH dX13_begins_17 ?_
  refine lv_iload hx hb dX13_begins_20 (lv_at hl 0 rfl) ?_
  refine lv_aload_n hx hb dX13_begins_22 rfl (lv_at hl 1 rfl) ?_
  refine lv_iload_n hx hb dX13_begins_23 rfl (lv_at hl 2 rfl) ?_
  refine lv_iload_n hx hb dX13_begins_24 rfl (lv_at hl 3 rfl) ?_
  refine lv_iconst (v := 0) hx hb dX13_begins_25 (by decide) ?_
  obtain ⟨r_6, u_7, h_8, hF⟩ := pcl_some hF
  refine mcV_i (As := [.int a0, .int a1, .int 0]) (rest := [.int x_1, .ref (Q 16)]) hC hH (m_sideOf l G Z Q u_4 u_7 r_6 a0 a1 0 _ h_8) kwX13_sideOf kVX13_sideOf ⟨Nat.le_of_ble_eq_true rfl, Nat.le_of_ble_eq_true rfl⟩ rfl hl.1 rfl (Nat.le_of_ble_eq_true rfl) dX13_begins_26 (fun H locs hH => ?_)
  obtain ⟨u_10, g_9, e_11, hF⟩ := pwd_some hF
  refine ms_16 hC hH e_11 g_9 dX13_begins_29 (fun H locs hH => ?_)
  refine lv_aload_n hx hb dX13_begins_30 rfl (lv_at hl 1 rfl) ?_
  refine mg_17 hC hH dX13_begins_31 ?_
  refine lv_iload hx hb dX13_begins_34 (lv_at hl 0 rfl) ?_
  refine lv_aload_n hx hb dX13_begins_36 rfl (lv_at hl 1 rfl) ?_
  refine lv_iload_n hx hb dX13_begins_37 rfl (lv_at hl 2 rfl) ?_
  refine lv_iload_n hx hb dX13_begins_38 rfl (lv_at hl 3 rfl) ?_
  refine lv_iconst (v := 1) hx hb dX13_begins_39 (by decide) ?_
  obtain ⟨r_12, u_13, h_14, hF⟩ := pcl_some hF
  refine mcV_i (As := [.int a0, .int a1, .int 1]) (rest := [.int x_1, .ref (Q 17)]) hC hH (m_sideOf l G Z Q u_10 u_13 r_12 a0 a1 1 _ h_14) kwX13_sideOf kVX13_sideOf ⟨Nat.le_of_ble_eq_true rfl, Nat.le_of_ble_eq_true rfl⟩ rfl hl.1 rfl (Nat.le_of_ble_eq_true rfl) dX13_begins_40 (fun H locs hH => ?_)
  obtain ⟨u_16, g_15, e_17, hF⟩ := pwd_some hF
  refine ms_17 hC hH e_17 g_15 dX13_begins_43 (fun H locs hH => ?_)
  refine lv_aload_n hx hb dX13_begins_44 rfl (lv_at hl 1 rfl) ?_
  refine mg_22 hC hH dX13_begins_45 ?_
  refine lv_iload_n hx hb dX13_begins_48 rfl (lv_at hl 4 rfl) ?_
  refine lv_iload hx hb dX13_begins_49 (lv_at hl 0 rfl) ?_
  obtain ⟨u_19, g_18, e_20, hF⟩ := pwd_some hF
  refine ms_22 hC hH e_20 g_18 dX13_begins_51 (fun H locs hH => ?_)
  refine lv_aload_n hx hb dX13_begins_52 rfl (lv_at hl 1 rfl) ?_
  refine mg_23 hC hH dX13_begins_53 ?_
  refine lv_iload_n hx hb dX13_begins_56 rfl (lv_at hl 4 rfl) ?_
  refine lv_aload_n hx hb dX13_begins_57 rfl (lv_at hl 1 rfl) ?_
  refine mg_27 hC hH dX13_begins_58 ?_
  obtain ⟨x_21, e_22, hF⟩ := prf_some hF
  refine gx_ti e_22 ?_
  obtain ⟨u_24, g_23, e_25, hF⟩ := pwd_some hF
  refine ms_23 hC hH e_25 g_23 dX13_begins_61 (fun H locs hH => ?_)
  refine lv_aload_n hx hb dX13_begins_62 rfl (lv_at hl 1 rfl) ?_
  refine mg_25 hC hH dX13_begins_63 ?_
  refine lv_iload_n hx hb dX13_begins_66 rfl (lv_at hl 4 rfl) ?_
  refine lv_iconst (v := 0) hx hb dX13_begins_67 (by decide) ?_
  obtain ⟨u_27, g_26, e_28, hF⟩ := pwd_some hF
  refine ms_25 hC hH e_28 g_26 dX13_begins_68 (fun H locs hH => ?_)
  refine lv_aload_n hx hb dX13_begins_69 rfl (lv_at hl 1 rfl) ?_
  refine mg_26 hC hH dX13_begins_70 ?_
  refine lv_iload_n hx hb dX13_begins_73 rfl (lv_at hl 4 rfl) ?_
  refine lv_iconst (v := 0) hx hb dX13_begins_74 (by decide) ?_
  obtain ⟨u_30, g_29, e_31, hF⟩ := pwd_some hF
  refine ms_26 hC hH e_31 g_29 dX13_begins_75 (fun H locs hH => ?_)
  refine lv_iconst (v := 0) hx hb dX13_begins_76 (by decide) ?_
  refine lv_istore (lv' := [(5, .int 0), (4, .int x_1), (0, .ref (Q 72)), (1, .int a0), (2, .int a1), (3, .int a2)]) hx hb dX13_begins_77 hl (by decide) rfl (fun ls hl => ?_)
  have hL79 : ∀ (K79_105 : Int32 → Int32 → Int32 → Int32 → Int32 → PG (Int32)), (∀ (v1 v2 v3 v4 v5 : Int32) (u : GS) (H : Heap) (locs : List Loc) (ls : Array Slot), lv_has ls 6 [(0, .ref (Q 72)), (1, .int v1), (2, .int v2), (3, .int v3), (4, .int v4), (5, .int v5)] → mH G Q u.1 s H locs → K79_105 v1 v2 v3 v4 v5 u = some ((r, u1)) → W p l e (headSpec (Cond.code yX13_begins cX13_begins 6 (some .int) :: wM) { frames := 309, cells := 0, slots := 0, locals := 3786 }).room s m [.ref (Q 72), .int a0, .int a1, .int a2].toArray below meth c H locs 0 0 (MQ below (mQi G Q u1.1 r s.heap.size) [.ref (Q 72), .int a0, .int a1, .int a2].toArray s 0 0 (mA Q s.heap.size)) (F0 m 105 ls [])) → ∀ (n79 : Nat) (v1 v2 v3 v4 v5 : Int32) (u : GS) (H : Heap) (locs : List Loc) (ls : Array Slot), lv_has ls 6 [(0, .ref (Q 72)), (1, .int v1), (2, .int v2), (3, .int v3), (4, .int v4), (5, .int v5)] → mH G Q u.1 s H locs → lp_begins_79 n79 v1 v2 v3 v4 v5 K79_105 u = some ((r, u1)) → W p l e (headSpec (Cond.code yX13_begins cX13_begins 6 (some .int) :: wM) { frames := 309, cells := 0, slots := 0, locals := 3786 }).room s m [.ref (Q 72), .int a0, .int a1, .int a2].toArray below meth c H locs 0 0 (MQ below (mQi G Q u1.1 r s.heap.size) [.ref (Q 72), .int a0, .int a1, .int a2].toArray s 0 0 (mA Q s.heap.size)) (F0 m 79 ls []) := by
    intro K79_105 hK79_105 n79
    induction n79 with
    | zero => intro v1 v2 v3 v4 v5 u H locs ls hl hH hF; cases hF
    | succ n79 ih79 =>
      intro v1 v2 v3 v4 v5 u H locs ls hl hH hF
      unfold lp_begins_79 at hF
      refine lv_iload hx hb dX13_begins_79 (lv_at hl 5 rfl) ?_
      refine lv_bipush (v := 16) hx hb dX13_begins_81 (by decide) ?_
      refine lv_icmp_ge (tgt := 105) hx hb dX13_begins_83 (by decide) (fun c_32 => ?_) (fun c_32 => ?_)
      · rw [if_pos c_32] at hF
        exact hK79_105 v1 v2 v3 v4 v5 u _ _ _ (lv_sub hl [0, 1, 2, 3, 4, 5] rfl) hH hF
      · rw [if_neg c_32] at hF
        refine lv_aload_n hx hb dX13_begins_86 rfl (lv_at hl 0 rfl) ?_
        refine mg_24 hC hH dX13_begins_87 ?_
        refine lv_bipush (v := 16) hx hb dX13_begins_90 (by decide) ?_
        refine lv_iload_n hx hb dX13_begins_92 rfl (lv_at hl 3 rfl) ?_
        refine lv_imul hx hb dX13_begins_93 ?_
        refine lv_iload hx hb dX13_begins_94 (lv_at hl 5 rfl) ?_
        refine lv_iadd hx hb dX13_begins_96 ?_
        refine lv_iconst (v := 0) hx hb dX13_begins_97 (by decide) ?_
        obtain ⟨u_34, g_33, e_35, hF⟩ := pwd_some hF
        refine ms_24 hC hH e_35 g_33 dX13_begins_98 (fun H locs hH => ?_)
        obtain ⟨x_36, e_37, hF⟩ := pli_some hF
        refine lv_iinc (v := x_36) (lv' := [(5, .int x_36), (0, .ref (Q 72)), (1, .int v1), (2, .int v2), (3, .int v3), (4, .int v4)]) hx hb dX13_begins_99 hl (k := 5) rfl e_37 (by decide) rfl (fun ls hl => ?_)
        refine lv_goto (tgt := 79) hx hb dX13_begins_102 (by decide) ?_
        exact ih79 v1 v2 v3 v4 x_36 u_34 _ _ _ (lv_sub hl [1, 2, 3, 4, 5, 0] rfl) hH hF
  refine hL79 _ (fun v1 v2 v3 v4 v5 u H locs ls hl hH hF => ?_) fuel a0 a1 a2 x_1 0 u_30 _ _ _ (lv_sub hl [2, 3, 4, 5, 1, 0] rfl) hH hF
  refine lv_aload_n hx hb dX13_begins_105 rfl (lv_at hl 0 rfl) ?_
  refine mg_27 hC hH dX13_begins_106 ?_
  obtain ⟨x_38, e_39, hF⟩ := prf_some hF
  refine gx_ti e_39 ?_
  refine lv_if_ne (tgt := 117) hx hb dX13_begins_109 (by decide) (fun c_40 => ?_) (fun c_40 => ?_)
  · rw [if_neg c_40] at hF
    refine lv_iconst (v := 1) hx hb dX13_begins_117 (by decide) ?_
    have hF := prt_eq hF
    exact mr_i hC hH hr hF dX13_begins_118 hlocks
  · rw [if_pos c_40] at hF
    refine lv_aload_n hx hb dX13_begins_112 rfl (lv_at hl 0 rfl) ?_
    refine lv_iload_n hx hb dX13_begins_113 rfl (lv_at hl 3 rfl) ?_
    obtain ⟨r_41, u_42, h_43, hF⟩ := pcl_some hF
    refine mcV_v (As := [.int v3]) (rest := []) hC hH (m_goesOver l G Z Q u u_42 r_41 v3 _ h_43) kwX13_goesOver kVX13_goesOver ⟨Nat.le_of_ble_eq_true rfl, Nat.le_of_ble_eq_true rfl⟩ rfl hl.1 rfl (Nat.le_of_ble_eq_true rfl) dX13_begins_114 (fun H locs hH => ?_)
    refine lv_iconst (v := 1) hx hb dX13_begins_117 (by decide) ?_
    have hF := prt_eq hF
    exact mr_i hC hH hr hF dX13_begins_118 hlocks
def f_ends (a0 : Int32) (a1 : Int32) (a2 : Int32) (a3 : Int32) : PG (Int32) := prd 22 4 a0 (fun x_1 => pwd 15 160 x_1 2 ((if a1 = 0 then prd 16 160 x_1 (fun x_47 => pwd 18 160 x_1 x_47 (pwd 19 160 x_1 a2 (pwd 20 160 x_1 a3 (prf 3 (fun x_59 => pwd 21 160 x_1 x_59 (prd 16 160 x_1 (fun x_64 => prf 3 (fun x_67 => pwd 11 96 x_64 x_67 (prd 17 160 x_1 (fun x_72 => prf 3 (fun x_75 => pwd 11 96 x_72 x_75 (pwd 22 4 a0 (-1) (prd 18 160 x_1 (fun x_83 => prt x_83)))))))))))))) else prd 17 160 x_1 (fun x_8 => pwd 18 160 x_1 x_8 (pwd 19 160 x_1 a2 (pwd 20 160 x_1 a3 (prf 3 (fun x_20 => pwd 21 160 x_1 x_20 (prd 16 160 x_1 (fun x_25 => prf 3 (fun x_28 => pwd 11 96 x_25 x_28 (prd 17 160 x_1 (fun x_33 => prf 3 (fun x_36 => pwd 11 96 x_33 x_36 (pwd 22 4 a0 (-1) (prd 18 160 x_1 (fun x_44 => prt x_44)))))))))))))))))
set_option maxHeartbeats 4000000 in
set_option maxRecDepth 100000 in
theorem m_ends (l : Launch) (G : gG) (Z : gM) (Q : Nat → Nat) (u u1 : GS) (r : Int32) (a0 : Int32) (a1 : Int32) (a2 : Int32) (a3 : Int32) (sz : Nat) (hF : f_ends a0 a1 a2 a3 u = some (r, u1)) : Met l yX13_ends (Cond.code yX13_ends cX13_ends 6 (some .int) :: wM) { frames := 0, cells := 0, slots := 0, locals := 0 } (va_Pc [.ref (Q 72), .int a0, .int a1, .int a2, .int a3] (mPM G Z Q u.1 sz)) (mQi G Q u1.1 r sz) 0 0 (mA Q sz) := by
  refine Met.ofW (cc := cX13_ends) (maxL := 6) (ret := (some .int)) (by decide) rfl ?_
  intro p e s m args below meth c s₁ B hml hv
  obtain ⟨rfl, rfl, hP, hB, hD, hE⟩ := hv
  have hr := B.returns
  have hlocks := B.notSynchronized
  have hts := atoms_spec (ws := Cond.code yX13_ends cX13_ends 6 (some .int) :: wM) B.pre
  have hC : mX p c cX13_ends 6 s m _ G Z Q := ⟨B.exec, B.bytes, hml, findClass_of_methodNamed B.named, fun w h => hts w (List.mem_cons_of_mem _ h), hB, hE⟩
  have hx := hC.1
  have hb := hC.2.1
  have hH : mH G Q u.1 s s.heap [] := ⟨hP, hD, va_S.rf⟩
  have hl := lv_entry ([.ref (Q 72), .int a0, .int a1, .int a2, .int a3]) (n := 6) (Nat.le_of_ble_eq_true rfl)
  rw [lg_entry_eq]
  generalize (lg_sl ([.ref (Q 72), .int a0, .int a1, .int a2, .int a3]) ++ List.replicate (6 - (lg_sl ([.ref (Q 72), .int a0, .int a1, .int a2, .int a3])).length) Slot.unset).toArray = ls at hl ⊢
  have hl : lv_has ls 6 [(0, .ref (Q 72)), (1, .int a0), (2, .int a1), (3, .int a2), (4, .int a3)] := hl
  unfold f_ends at hF
  refine lv_aload_n hx hb dX13_ends_0 rfl (lv_at hl 0 rfl) ?_
  refine mg_22 hC hH dX13_ends_1 ?_
  refine lv_iload_n hx hb dX13_ends_4 rfl (lv_at hl 1 rfl) ?_
  obtain ⟨x_1, g_2, e_3, hF⟩ := prd_some hF
  refine ml_22 hC hH g_2 dX13_ends_5 ?_
  refine gx_ti e_3 ?_
  refine lv_istore (lv' := [(5, .int x_1), (0, .ref (Q 72)), (1, .int a0), (2, .int a1), (3, .int a2), (4, .int a3)]) hx hb dX13_ends_6 hl (by decide) rfl (fun ls hl => ?_)
  refine lv_aload_n hx hb dX13_ends_8 rfl (lv_at hl 1 rfl) ?_
  refine mg_15 hC hH dX13_ends_9 ?_
  refine lv_iload hx hb dX13_ends_12 (lv_at hl 0 rfl) ?_
  refine lv_iconst (v := 2) hx hb dX13_ends_14 (by decide) ?_
  obtain ⟨u_5, g_4, e_6, hF⟩ := pwd_some hF
  refine ms_15 hC hH e_6 g_4 dX13_ends_15 (fun H locs hH => ?_)
  refine lv_aload_n hx hb dX13_ends_16 rfl (lv_at hl 1 rfl) ?_
  refine mg_18 hC hH dX13_ends_17 ?_
  refine lv_iload hx hb dX13_ends_20 (lv_at hl 0 rfl) ?_
  refine lv_iload_n hx hb dX13_ends_22 rfl (lv_at hl 3 rfl) ?_
  refine lv_if_ne (tgt := 36) hx hb dX13_ends_23 (by decide) (fun c_7 => ?_) (fun c_7 => ?_)
  · rw [if_neg c_7] at hF
    refine lv_aload_n hx hb dX13_ends_36 rfl (lv_at hl 1 rfl) ?_
    refine mg_17 hC hH dX13_ends_37 ?_
    refine lv_iload hx hb dX13_ends_40 (lv_at hl 0 rfl) ?_
    obtain ⟨x_8, g_9, e_10, hF⟩ := prd_some hF
    refine ml_17 hC hH g_9 dX13_ends_42 ?_
    refine gx_ti e_10 ?_
    obtain ⟨u_12, g_11, e_13, hF⟩ := pwd_some hF
    refine ms_18 hC hH e_13 g_11 dX13_ends_43 (fun H locs hH => ?_)
    refine lv_aload_n hx hb dX13_ends_44 rfl (lv_at hl 1 rfl) ?_
    refine mg_19 hC hH dX13_ends_45 ?_
    refine lv_iload hx hb dX13_ends_48 (lv_at hl 0 rfl) ?_
    refine lv_iload_n hx hb dX13_ends_50 rfl (lv_at hl 4 rfl) ?_
    obtain ⟨u_15, g_14, e_16, hF⟩ := pwd_some hF
    refine ms_19 hC hH e_16 g_14 dX13_ends_51 (fun H locs hH => ?_)
    refine lv_aload_n hx hb dX13_ends_52 rfl (lv_at hl 1 rfl) ?_
    refine mg_20 hC hH dX13_ends_53 ?_
    refine lv_iload hx hb dX13_ends_56 (lv_at hl 0 rfl) ?_
    refine lv_iload hx hb dX13_ends_58 (lv_at hl 5 rfl) ?_
    obtain ⟨u_18, g_17, e_19, hF⟩ := pwd_some hF
    refine ms_20 hC hH e_19 g_17 dX13_ends_60 (fun H locs hH => ?_)
    refine lv_aload_n hx hb dX13_ends_61 rfl (lv_at hl 1 rfl) ?_
    refine mg_21 hC hH dX13_ends_62 ?_
    refine lv_iload hx hb dX13_ends_65 (lv_at hl 0 rfl) ?_
    refine lv_aload_n hx hb dX13_ends_67 rfl (lv_at hl 1 rfl) ?_
    refine mg_3 hC hH dX13_ends_68 ?_
    obtain ⟨x_20, e_21, hF⟩ := prf_some hF
    refine gx_ti e_21 ?_
    obtain ⟨u_23, g_22, e_24, hF⟩ := pwd_some hF
    refine ms_21 hC hH e_24 g_22 dX13_ends_71 (fun H locs hH => ?_)
    refine lv_aload_n hx hb dX13_ends_72 rfl (lv_at hl 1 rfl) ?_
    refine mg_11 hC hH dX13_ends_73 ?_
    refine lv_aload_n hx hb dX13_ends_76 rfl (lv_at hl 1 rfl) ?_
    refine mg_16 hC hH dX13_ends_77 ?_
    refine lv_iload hx hb dX13_ends_80 (lv_at hl 0 rfl) ?_
    obtain ⟨x_25, g_26, e_27, hF⟩ := prd_some hF
    refine ml_16 hC hH g_26 dX13_ends_82 ?_
    refine gx_ti e_27 ?_
    refine lv_aload_n hx hb dX13_ends_83 rfl (lv_at hl 1 rfl) ?_
    refine mg_3 hC hH dX13_ends_84 ?_
    obtain ⟨x_28, e_29, hF⟩ := prf_some hF
    refine gx_ti e_29 ?_
    obtain ⟨u_31, g_30, e_32, hF⟩ := pwd_some hF
    refine ms_11 hC hH e_32 g_30 dX13_ends_87 (fun H locs hH => ?_)
    refine lv_aload_n hx hb dX13_ends_88 rfl (lv_at hl 1 rfl) ?_
    refine mg_11 hC hH dX13_ends_89 ?_
    refine lv_aload_n hx hb dX13_ends_92 rfl (lv_at hl 1 rfl) ?_
    refine mg_17 hC hH dX13_ends_93 ?_
    refine lv_iload hx hb dX13_ends_96 (lv_at hl 0 rfl) ?_
    obtain ⟨x_33, g_34, e_35, hF⟩ := prd_some hF
    refine ml_17 hC hH g_34 dX13_ends_98 ?_
    refine gx_ti e_35 ?_
    refine lv_aload_n hx hb dX13_ends_99 rfl (lv_at hl 1 rfl) ?_
    refine mg_3 hC hH dX13_ends_100 ?_
    obtain ⟨x_36, e_37, hF⟩ := prf_some hF
    refine gx_ti e_37 ?_
    obtain ⟨u_39, g_38, e_40, hF⟩ := pwd_some hF
    refine ms_11 hC hH e_40 g_38 dX13_ends_103 (fun H locs hH => ?_)
    refine lv_aload_n hx hb dX13_ends_104 rfl (lv_at hl 1 rfl) ?_
    refine mg_22 hC hH dX13_ends_105 ?_
    refine lv_iload_n hx hb dX13_ends_108 rfl (lv_at hl 2 rfl) ?_
    refine lv_iconst (v := (-1)) hx hb dX13_ends_109 (by decide) ?_
    obtain ⟨u_42, g_41, e_43, hF⟩ := pwd_some hF
    refine ms_22 hC hH e_43 g_41 dX13_ends_110 (fun H locs hH => ?_)
    refine lv_aload_n hx hb dX13_ends_111 rfl (lv_at hl 1 rfl) ?_
    refine mg_18 hC hH dX13_ends_112 ?_
    refine lv_iload hx hb dX13_ends_115 (lv_at hl 0 rfl) ?_
    obtain ⟨x_44, g_45, e_46, hF⟩ := prd_some hF
    refine ml_18 hC hH g_45 dX13_ends_117 ?_
    refine gx_ti e_46 ?_
    have hF := prt_eq hF
    exact mr_i hC hH hr hF dX13_ends_118 hlocks
  · rw [if_pos c_7] at hF
    refine lv_aload_n hx hb dX13_ends_26 rfl (lv_at hl 1 rfl) ?_
    refine mg_16 hC hH dX13_ends_27 ?_
    refine lv_iload hx hb dX13_ends_30 (lv_at hl 0 rfl) ?_
    obtain ⟨x_47, g_48, e_49, hF⟩ := prd_some hF
    refine ml_16 hC hH g_48 dX13_ends_32 ?_
    refine gx_ti e_49 ?_
    refine lv_goto (tgt := 43) hx hb dX13_ends_33 (by decide) ?_
    obtain ⟨u_51, g_50, e_52, hF⟩ := pwd_some hF
    refine ms_18 hC hH e_52 g_50 dX13_ends_43 (fun H locs hH => ?_)
    refine lv_aload_n hx hb dX13_ends_44 rfl (lv_at hl 1 rfl) ?_
    refine mg_19 hC hH dX13_ends_45 ?_
    refine lv_iload hx hb dX13_ends_48 (lv_at hl 0 rfl) ?_
    refine lv_iload_n hx hb dX13_ends_50 rfl (lv_at hl 4 rfl) ?_
    obtain ⟨u_54, g_53, e_55, hF⟩ := pwd_some hF
    refine ms_19 hC hH e_55 g_53 dX13_ends_51 (fun H locs hH => ?_)
    refine lv_aload_n hx hb dX13_ends_52 rfl (lv_at hl 1 rfl) ?_
    refine mg_20 hC hH dX13_ends_53 ?_
    refine lv_iload hx hb dX13_ends_56 (lv_at hl 0 rfl) ?_
    refine lv_iload hx hb dX13_ends_58 (lv_at hl 5 rfl) ?_
    obtain ⟨u_57, g_56, e_58, hF⟩ := pwd_some hF
    refine ms_20 hC hH e_58 g_56 dX13_ends_60 (fun H locs hH => ?_)
    refine lv_aload_n hx hb dX13_ends_61 rfl (lv_at hl 1 rfl) ?_
    refine mg_21 hC hH dX13_ends_62 ?_
    refine lv_iload hx hb dX13_ends_65 (lv_at hl 0 rfl) ?_
    refine lv_aload_n hx hb dX13_ends_67 rfl (lv_at hl 1 rfl) ?_
    refine mg_3 hC hH dX13_ends_68 ?_
    obtain ⟨x_59, e_60, hF⟩ := prf_some hF
    refine gx_ti e_60 ?_
    obtain ⟨u_62, g_61, e_63, hF⟩ := pwd_some hF
    refine ms_21 hC hH e_63 g_61 dX13_ends_71 (fun H locs hH => ?_)
    refine lv_aload_n hx hb dX13_ends_72 rfl (lv_at hl 1 rfl) ?_
    refine mg_11 hC hH dX13_ends_73 ?_
    refine lv_aload_n hx hb dX13_ends_76 rfl (lv_at hl 1 rfl) ?_
    refine mg_16 hC hH dX13_ends_77 ?_
    refine lv_iload hx hb dX13_ends_80 (lv_at hl 0 rfl) ?_
    obtain ⟨x_64, g_65, e_66, hF⟩ := prd_some hF
    refine ml_16 hC hH g_65 dX13_ends_82 ?_
    refine gx_ti e_66 ?_
    refine lv_aload_n hx hb dX13_ends_83 rfl (lv_at hl 1 rfl) ?_
    refine mg_3 hC hH dX13_ends_84 ?_
    obtain ⟨x_67, e_68, hF⟩ := prf_some hF
    refine gx_ti e_68 ?_
    obtain ⟨u_70, g_69, e_71, hF⟩ := pwd_some hF
    refine ms_11 hC hH e_71 g_69 dX13_ends_87 (fun H locs hH => ?_)
    refine lv_aload_n hx hb dX13_ends_88 rfl (lv_at hl 1 rfl) ?_
    refine mg_11 hC hH dX13_ends_89 ?_
    refine lv_aload_n hx hb dX13_ends_92 rfl (lv_at hl 1 rfl) ?_
    refine mg_17 hC hH dX13_ends_93 ?_
    refine lv_iload hx hb dX13_ends_96 (lv_at hl 0 rfl) ?_
    obtain ⟨x_72, g_73, e_74, hF⟩ := prd_some hF
    refine ml_17 hC hH g_73 dX13_ends_98 ?_
    refine gx_ti e_74 ?_
    refine lv_aload_n hx hb dX13_ends_99 rfl (lv_at hl 1 rfl) ?_
    refine mg_3 hC hH dX13_ends_100 ?_
    obtain ⟨x_75, e_76, hF⟩ := prf_some hF
    refine gx_ti e_76 ?_
    obtain ⟨u_78, g_77, e_79, hF⟩ := pwd_some hF
    refine ms_11 hC hH e_79 g_77 dX13_ends_103 (fun H locs hH => ?_)
    refine lv_aload_n hx hb dX13_ends_104 rfl (lv_at hl 1 rfl) ?_
    refine mg_22 hC hH dX13_ends_105 ?_
    refine lv_iload_n hx hb dX13_ends_108 rfl (lv_at hl 2 rfl) ?_
    refine lv_iconst (v := (-1)) hx hb dX13_ends_109 (by decide) ?_
    obtain ⟨u_81, g_80, e_82, hF⟩ := pwd_some hF
    refine ms_22 hC hH e_82 g_80 dX13_ends_110 (fun H locs hH => ?_)
    refine lv_aload_n hx hb dX13_ends_111 rfl (lv_at hl 1 rfl) ?_
    refine mg_18 hC hH dX13_ends_112 ?_
    refine lv_iload hx hb dX13_ends_115 (lv_at hl 0 rfl) ?_
    obtain ⟨x_83, g_84, e_85, hF⟩ := prd_some hF
    refine ml_18 hC hH g_84 dX13_ends_117 ?_
    refine gx_ti e_85 ?_
    have hF := prt_eq hF
    exact mr_i hC hH hr hF dX13_ends_118 hlocks
def lp_asked_13 : Nat → Int32 → Int32 → Int32 → Int32 → (Int32 → Int32 → Int32 → Int32 → PG (Int32)) → PG (Int32)
  | 0, _, _, _, _, _ => fun _ => none
  | n13 + 1, v1, v2, v3, v4, K13_58 => (if 2 ≤ v4 then K13_58 v1 v2 v3 v4 else pcl (f_holds v3 v1 v4 v2) (fun r_5 => (if r_5 = 0 then pli (v4 + 1) (fun x_15 => lp_asked_13 n13 v1 v2 v3 x_15 K13_58) else prd 35 20 v3 (fun x_9 => pcl (f_ends v1 v4 v3 x_9) (fun r_12 => prt v3)))))
def lp_asked_2 : Nat → Int32 → Int32 → Int32 → (Int32 → Int32 → Int32 → PG (Int32)) → PG (Int32)
  | 0, _, _, _, _ => fun _ => none
  | n2 + 1, v1, v2, v3, K2_64 => prf 30 (fun x_1 => (if x_1 ≤ v3 then K2_64 v1 v2 v3 else lp_asked_13 fuel v1 v2 v3 0 (fun v1 v2 v3 v4 => pli (v3 + 1) (fun x_17 => lp_asked_2 n2 v1 v2 x_17 K2_64))))
def f_asked (a0 : Int32) (a1 : Int32) : PG (Int32) := lp_asked_2 fuel a0 a1 0 (fun v1 v2 v3 => prt (-1))
set_option maxHeartbeats 4000000 in
set_option maxRecDepth 100000 in
theorem m_asked (l : Launch) (G : gG) (Z : gM) (Q : Nat → Nat) (u u1 : GS) (r : Int32) (a0 : Int32) (a1 : Int32) (sz : Nat) (hF : f_asked a0 a1 u = some (r, u1)) : Met l yX13_asked (Cond.code yX13_asked cX13_asked 6 (some .int) :: wM) { frames := 2, cells := 0, slots := 0, locals := 50 } (va_Pc [.ref (Q 72), .int a0, .int a1] (mPM G Z Q u.1 sz)) (mQi G Q u1.1 r sz) 0 0 (mA Q sz) := by
  refine Met.ofW (cc := cX13_asked) (maxL := 6) (ret := (some .int)) (by decide) rfl ?_
  intro p e s m args below meth c s₁ B hml hv
  obtain ⟨rfl, rfl, hP, hB, hD, hE⟩ := hv
  have hr := B.returns
  have hlocks := B.notSynchronized
  have hts := atoms_spec (ws := Cond.code yX13_asked cX13_asked 6 (some .int) :: wM) B.pre
  have hC : mX p c cX13_asked 6 s m _ G Z Q := ⟨B.exec, B.bytes, hml, findClass_of_methodNamed B.named, fun w h => hts w (List.mem_cons_of_mem _ h), hB, hE⟩
  have hx := hC.1
  have hb := hC.2.1
  have hH : mH G Q u.1 s s.heap [] := ⟨hP, hD, va_S.rf⟩
  have hl := lv_entry ([.ref (Q 72), .int a0, .int a1]) (n := 6) (Nat.le_of_ble_eq_true rfl)
  rw [lg_entry_eq]
  generalize (lg_sl ([.ref (Q 72), .int a0, .int a1]) ++ List.replicate (6 - (lg_sl ([.ref (Q 72), .int a0, .int a1])).length) Slot.unset).toArray = ls at hl ⊢
  have hl : lv_has ls 6 [(0, .ref (Q 72)), (1, .int a0), (2, .int a1)] := hl
  unfold f_asked at hF
  refine lv_iconst (v := 0) hx hb dX13_asked_0 (by decide) ?_
  refine lv_istore_n (lv' := [(3, .int 0), (0, .ref (Q 72)), (1, .int a0), (2, .int a1)]) hx hb dX13_asked_1 rfl hl (by decide) rfl (fun ls hl => ?_)
  have hL2 : ∀ (K2_64 : Int32 → Int32 → Int32 → PG (Int32)), (∀ (v1 v2 v3 : Int32) (u : GS) (H : Heap) (locs : List Loc) (ls : Array Slot), lv_has ls 6 [(0, .ref (Q 72)), (1, .int v1), (2, .int v2), (3, .int v3)] → mH G Q u.1 s H locs → K2_64 v1 v2 v3 u = some ((r, u1)) → W p l e (headSpec (Cond.code yX13_asked cX13_asked 6 (some .int) :: wM) { frames := 2, cells := 0, slots := 0, locals := 50 }).room s m [.ref (Q 72), .int a0, .int a1].toArray below meth c H locs 0 0 (MQ below (mQi G Q u1.1 r s.heap.size) [.ref (Q 72), .int a0, .int a1].toArray s 0 0 (mA Q s.heap.size)) (F0 m 64 ls [])) → ∀ (n2 : Nat) (v1 v2 v3 : Int32) (u : GS) (H : Heap) (locs : List Loc) (ls : Array Slot), lv_has ls 6 [(0, .ref (Q 72)), (1, .int v1), (2, .int v2), (3, .int v3)] → mH G Q u.1 s H locs → lp_asked_2 n2 v1 v2 v3 K2_64 u = some ((r, u1)) → W p l e (headSpec (Cond.code yX13_asked cX13_asked 6 (some .int) :: wM) { frames := 2, cells := 0, slots := 0, locals := 50 }).room s m [.ref (Q 72), .int a0, .int a1].toArray below meth c H locs 0 0 (MQ below (mQi G Q u1.1 r s.heap.size) [.ref (Q 72), .int a0, .int a1].toArray s 0 0 (mA Q s.heap.size)) (F0 m 2 ls []) := by
    intro K2_64 hK2_64 n2
    induction n2 with
    | zero => intro v1 v2 v3 u H locs ls hl hH hF; cases hF
    | succ n2 ih2 =>
      intro v1 v2 v3 u H locs ls hl hH hF
      unfold lp_asked_2 at hF
      refine lv_iload_n hx hb dX13_asked_2 rfl (lv_at hl 3 rfl) ?_
      refine lv_aload_n hx hb dX13_asked_3 rfl (lv_at hl 0 rfl) ?_
      refine mg_30 hC hH dX13_asked_4 ?_
      obtain ⟨x_1, e_2, hF⟩ := prf_some hF
      refine gx_ti e_2 ?_
      refine lv_icmp_ge (tgt := 64) hx hb dX13_asked_7 (by decide) (fun c_3 => ?_) (fun c_3 => ?_)
      · rw [if_pos c_3] at hF
        exact hK2_64 v1 v2 v3 u _ _ _ (lv_sub hl [0, 1, 2, 3] rfl) hH hF
      · rw [if_neg c_3] at hF
        refine lv_iconst (v := 0) hx hb dX13_asked_10 (by decide) ?_
        refine lv_istore (lv' := [(4, .int 0), (0, .ref (Q 72)), (1, .int v1), (2, .int v2), (3, .int v3)]) hx hb dX13_asked_11 hl (by decide) rfl (fun ls hl => ?_)
        have hL13 : ∀ (K13_58 : Int32 → Int32 → Int32 → Int32 → PG (Int32)), (∀ (v1 v2 v3 v4 : Int32) (u : GS) (H : Heap) (locs : List Loc) (ls : Array Slot), lv_has ls 6 [(0, .ref (Q 72)), (1, .int v1), (2, .int v2), (3, .int v3), (4, .int v4)] → mH G Q u.1 s H locs → K13_58 v1 v2 v3 v4 u = some ((r, u1)) → W p l e (headSpec (Cond.code yX13_asked cX13_asked 6 (some .int) :: wM) { frames := 2, cells := 0, slots := 0, locals := 50 }).room s m [.ref (Q 72), .int a0, .int a1].toArray below meth c H locs 0 0 (MQ below (mQi G Q u1.1 r s.heap.size) [.ref (Q 72), .int a0, .int a1].toArray s 0 0 (mA Q s.heap.size)) (F0 m 58 ls [])) → ∀ (n13 : Nat) (v1 v2 v3 v4 : Int32) (u : GS) (H : Heap) (locs : List Loc) (ls : Array Slot), lv_has ls 6 [(0, .ref (Q 72)), (1, .int v1), (2, .int v2), (3, .int v3), (4, .int v4)] → mH G Q u.1 s H locs → lp_asked_13 n13 v1 v2 v3 v4 K13_58 u = some ((r, u1)) → W p l e (headSpec (Cond.code yX13_asked cX13_asked 6 (some .int) :: wM) { frames := 2, cells := 0, slots := 0, locals := 50 }).room s m [.ref (Q 72), .int a0, .int a1].toArray below meth c H locs 0 0 (MQ below (mQi G Q u1.1 r s.heap.size) [.ref (Q 72), .int a0, .int a1].toArray s 0 0 (mA Q s.heap.size)) (F0 m 13 ls []) := by
          intro K13_58 hK13_58 n13
          induction n13 with
          | zero => intro v1 v2 v3 v4 u H locs ls hl hH hF; cases hF
          | succ n13 ih13 =>
            intro v1 v2 v3 v4 u H locs ls hl hH hF
            unfold lp_asked_13 at hF
            refine lv_iload hx hb dX13_asked_13 (lv_at hl 4 rfl) ?_
            refine lv_iconst (v := 2) hx hb dX13_asked_15 (by decide) ?_
            refine lv_icmp_ge (tgt := 58) hx hb dX13_asked_16 (by decide) (fun c_4 => ?_) (fun c_4 => ?_)
            · rw [if_pos c_4] at hF
              exact hK13_58 v1 v2 v3 v4 u _ _ _ (lv_sub hl [0, 1, 2, 3, 4] rfl) hH hF
            · rw [if_neg c_4] at hF
              refine lv_aload_n hx hb dX13_asked_19 rfl (lv_at hl 0 rfl) ?_
              refine lv_iload_n hx hb dX13_asked_20 rfl (lv_at hl 3 rfl) ?_
              refine lv_iload_n hx hb dX13_asked_21 rfl (lv_at hl 1 rfl) ?_
              refine lv_iload hx hb dX13_asked_22 (lv_at hl 4 rfl) ?_
              refine lv_iload_n hx hb dX13_asked_24 rfl (lv_at hl 2 rfl) ?_
              obtain ⟨r_5, u_6, h_7, hF⟩ := pcl_some hF
              refine mcV_i (As := [.int v3, .int v1, .int v4, .int v2]) (rest := []) hC hH (m_holds l G Z Q u u_6 r_5 v3 v1 v4 v2 _ h_7) kwX13_holds kVX13_holds ⟨Nat.le_of_ble_eq_true rfl, Nat.le_of_ble_eq_true rfl⟩ rfl hl.1 rfl (Nat.le_of_ble_eq_true rfl) dX13_asked_25 (fun H locs hH => ?_)
              refine lv_if_ne (tgt := 34) hx hb dX13_asked_28 (by decide) (fun c_8 => ?_) (fun c_8 => ?_)
              · rw [if_neg c_8] at hF
                refine lv_aload_n hx hb dX13_asked_34 rfl (lv_at hl 0 rfl) ?_
                refine lv_iload_n hx hb dX13_asked_35 rfl (lv_at hl 1 rfl) ?_
                refine lv_iload hx hb dX13_asked_36 (lv_at hl 4 rfl) ?_
                refine lv_iload_n hx hb dX13_asked_38 rfl (lv_at hl 3 rfl) ?_
                refine lv_aload_n hx hb dX13_asked_39 rfl (lv_at hl 0 rfl) ?_
                refine mg_35 hC hH dX13_asked_40 ?_
                refine lv_iload_n hx hb dX13_asked_43 rfl (lv_at hl 3 rfl) ?_
                obtain ⟨x_9, g_10, e_11, hF⟩ := prd_some hF
                refine ml_35 hC hH g_10 dX13_asked_44 ?_
                refine gx_ti e_11 ?_
                obtain ⟨r_12, u_13, h_14, hF⟩ := pcl_some hF
                refine mcV_i (As := [.int v1, .int v4, .int v3, .int x_9]) (rest := []) hC hH (m_ends l G Z Q u_6 u_13 r_12 v1 v4 v3 x_9 _ h_14) kwX13_ends kVX13_ends ⟨Nat.le_of_ble_eq_true rfl, Nat.le_of_ble_eq_true rfl⟩ rfl hl.1 rfl (Nat.le_of_ble_eq_true rfl) dX13_asked_45 (fun H locs hH => ?_)
                refine lv_istore (lv' := [(5, .int r_12), (0, .ref (Q 72)), (1, .int v1), (2, .int v2), (3, .int v3), (4, .int v4)]) hx hb dX13_asked_48 hl (by decide) rfl (fun ls hl => ?_)
                refine lv_iload_n hx hb dX13_asked_50 rfl (lv_at hl 4 rfl) ?_
                have hF := prt_eq hF
                exact mr_i hC hH hr hF dX13_asked_51 hlocks
              · rw [if_pos c_8] at hF
                refine lv_goto (tgt := 52) hx hb dX13_asked_31 (by decide) ?_
                obtain ⟨x_15, e_16, hF⟩ := pli_some hF
                refine lv_iinc (v := x_15) (lv' := [(4, .int x_15), (0, .ref (Q 72)), (1, .int v1), (2, .int v2), (3, .int v3)]) hx hb dX13_asked_52 hl (k := 4) rfl e_16 (by decide) rfl (fun ls hl => ?_)
                refine lv_goto (tgt := 13) hx hb dX13_asked_55 (by decide) ?_
                exact ih13 v1 v2 v3 x_15 u_6 _ _ _ (lv_sub hl [1, 2, 3, 4, 0] rfl) hH hF
        refine hL13 _ (fun v1 v2 v3 v4 u H locs ls hl hH hF => ?_) fuel v1 v2 v3 0 u _ _ _ (lv_sub hl [1, 2, 3, 4, 0] rfl) hH hF
        obtain ⟨x_17, e_18, hF⟩ := pli_some hF
        refine lv_iinc (v := x_17) (lv' := [(3, .int x_17), (0, .ref (Q 72)), (1, .int v1), (2, .int v2), (4, .int v4)]) hx hb dX13_asked_58 hl (k := 3) rfl e_18 (by decide) rfl (fun ls hl => ?_)
        refine lv_goto (tgt := 2) hx hb dX13_asked_61 (by decide) ?_
        exact ih2 v1 v2 x_17 u _ _ _ (lv_sub hl [1, 2, 3, 0] rfl) hH hF
  refine hL2 _ (fun v1 v2 v3 u H locs ls hl hH hF => ?_) fuel a0 a1 0 u _ _ _ (lv_sub hl [1, 2, 3, 0] rfl) hH hF
  refine lv_iconst (v := (-1)) hx hb dX13_asked_64 (by decide) ?_
  have hF := prt_eq hF
  exact mr_i hC hH hr hF dX13_asked_65 hlocks
def f_passes (a0 : Int32) (a1 : Int32) : PG (Int32) := prd 23 4 a0 (fun x_1 => pwd 23 4 a0 (x_1 - a1) (prd 25 4 a0 (fun x_7 => (if x_7 = 0 then prd 23 4 a0 (fun x_22 => (if x_22 = 0 then pcl (f_asked a0 1) (fun r_37 => (if r_37 = (-1) then prd 23 4 a0 (fun x_41 => (if x_41 ≤ 0 then pcl (f_goesOver a0) (fun r_45 => prt (-1)) else prt r_37)) else prt r_37)) else pcl (f_asked a0 0) (fun r_26 => (if r_26 = (-1) then prd 23 4 a0 (fun x_30 => (if x_30 ≤ 0 then pcl (f_goesOver a0) (fun r_34 => prt (-1)) else prt r_26)) else prt r_26)))) else pcl (f_asked a0 1) (fun r_11 => (if r_11 = (-1) then prd 23 4 a0 (fun x_15 => (if x_15 ≤ 0 then pcl (f_goesOver a0) (fun r_19 => prt (-1)) else prt r_11)) else prt r_11))))))
set_option maxHeartbeats 4000000 in
set_option maxRecDepth 100000 in
theorem m_passes (l : Launch) (G : gG) (Z : gM) (Q : Nat → Nat) (u u1 : GS) (r : Int32) (a0 : Int32) (a1 : Int32) (sz : Nat) (hF : f_passes a0 a1 u = some (r, u1)) : Met l yX13_passes (Cond.code yX13_passes cX13_passes 4 (some .int) :: wM) { frames := 3, cells := 0, slots := 0, locals := 75 } (va_Pc [.ref (Q 72), .int a0, .int a1] (mPM G Z Q u.1 sz)) (mQi G Q u1.1 r sz) 0 0 (mA Q sz) := by
  refine Met.ofW (cc := cX13_passes) (maxL := 4) (ret := (some .int)) (by decide) rfl ?_
  intro p e s m args below meth c s₁ B hml hv
  obtain ⟨rfl, rfl, hP, hB, hD, hE⟩ := hv
  have hr := B.returns
  have hlocks := B.notSynchronized
  have hts := atoms_spec (ws := Cond.code yX13_passes cX13_passes 4 (some .int) :: wM) B.pre
  have hC : mX p c cX13_passes 4 s m _ G Z Q := ⟨B.exec, B.bytes, hml, findClass_of_methodNamed B.named, fun w h => hts w (List.mem_cons_of_mem _ h), hB, hE⟩
  have hx := hC.1
  have hb := hC.2.1
  have hH : mH G Q u.1 s s.heap [] := ⟨hP, hD, va_S.rf⟩
  have hl := lv_entry ([.ref (Q 72), .int a0, .int a1]) (n := 4) (Nat.le_of_ble_eq_true rfl)
  rw [lg_entry_eq]
  generalize (lg_sl ([.ref (Q 72), .int a0, .int a1]) ++ List.replicate (4 - (lg_sl ([.ref (Q 72), .int a0, .int a1])).length) Slot.unset).toArray = ls at hl ⊢
  have hl : lv_has ls 4 [(0, .ref (Q 72)), (1, .int a0), (2, .int a1)] := hl
  unfold f_passes at hF
  refine lv_aload_n hx hb dX13_passes_0 rfl (lv_at hl 0 rfl) ?_
  refine mg_23 hC hH dX13_passes_1 ?_
  refine lv_iload_n hx hb dX13_passes_4 rfl (lv_at hl 1 rfl) ?_
  refine lv_dup2_11 hx hb dX13_passes_5 rfl rfl ?_
  obtain ⟨x_1, g_2, e_3, hF⟩ := prd_some hF
  refine ml_23 hC hH g_2 dX13_passes_6 ?_
  refine gx_ti e_3 ?_
  refine lv_iload_n hx hb dX13_passes_7 rfl (lv_at hl 2 rfl) ?_
  refine lv_isub hx hb dX13_passes_8 ?_
  obtain ⟨u_5, g_4, e_6, hF⟩ := pwd_some hF
  refine ms_23 hC hH e_6 g_4 dX13_passes_9 (fun H locs hH => ?_)
  refine lv_aload_n hx hb dX13_passes_10 rfl (lv_at hl 0 rfl) ?_
  refine lv_iload_n hx hb dX13_passes_11 rfl (lv_at hl 1 rfl) ?_
  refine lv_aload_n hx hb dX13_passes_12 rfl (lv_at hl 0 rfl) ?_
  refine mg_25 hC hH dX13_passes_13 ?_
  refine lv_iload_n hx hb dX13_passes_16 rfl (lv_at hl 1 rfl) ?_
  obtain ⟨x_7, g_8, e_9, hF⟩ := prd_some hF
  refine ml_25 hC hH g_8 dX13_passes_17 ?_
  refine gx_ti e_9 ?_
  refine lv_if_ne (tgt := 30) hx hb dX13_passes_18 (by decide) (fun c_10 => ?_) (fun c_10 => ?_)
  · rw [if_neg c_10] at hF
    refine lv_iconst (v := 1) hx hb dX13_passes_30 (by decide) ?_
    refine lv_goto (tgt := 35) hx hb dX13_passes_31 (by decide) ?_
    obtain ⟨r_11, u_12, h_13, hF⟩ := pcl_some hF
    refine mcV_i (As := [.int a0, .int 1]) (rest := []) hC hH (m_asked l G Z Q u_5 u_12 r_11 a0 1 _ h_13) kwX13_asked kVX13_asked ⟨Nat.le_of_ble_eq_true rfl, Nat.le_of_ble_eq_true rfl⟩ rfl hl.1 rfl (Nat.le_of_ble_eq_true rfl) dX13_passes_35 (fun H locs hH => ?_)
    refine lv_istore_n (lv' := [(3, .int r_11), (0, .ref (Q 72)), (1, .int a0), (2, .int a1)]) hx hb dX13_passes_38 rfl hl (by decide) rfl (fun ls hl => ?_)
    refine lv_iload_n hx hb dX13_passes_39 rfl (lv_at hl 0 rfl) ?_
    refine lv_iconst (v := (-1)) hx hb dX13_passes_40 (by decide) ?_
    refine lv_icmp_ne (tgt := 53) hx hb dX13_passes_41 (by decide) (fun c_14 => ?_) (fun c_14 => ?_)
    · rw [if_neg c_14] at hF
      refine lv_iload_n hx hb dX13_passes_53 rfl (lv_at hl 0 rfl) ?_
      have hF := prt_eq hF
      exact mr_i hC hH hr hF dX13_passes_54 hlocks
    · rw [if_pos c_14] at hF
      refine lv_aload_n hx hb dX13_passes_44 rfl (lv_at hl 1 rfl) ?_
      refine mg_23 hC hH dX13_passes_45 ?_
      refine lv_iload_n hx hb dX13_passes_48 rfl (lv_at hl 2 rfl) ?_
      obtain ⟨x_15, g_16, e_17, hF⟩ := prd_some hF
      refine ml_23 hC hH g_16 dX13_passes_49 ?_
      refine gx_ti e_17 ?_
      refine lv_if_le (tgt := 55) hx hb dX13_passes_50 (by decide) (fun c_18 => ?_) (fun c_18 => ?_)
      · rw [if_pos c_18] at hF
        refine lv_aload_n hx hb dX13_passes_55 rfl (lv_at hl 1 rfl) ?_
        refine lv_iload_n hx hb dX13_passes_56 rfl (lv_at hl 2 rfl) ?_
        obtain ⟨r_19, u_20, h_21, hF⟩ := pcl_some hF
        refine mcV_v (As := [.int a0]) (rest := []) hC hH (m_goesOver l G Z Q u_12 u_20 r_19 a0 _ h_21) kwX13_goesOver kVX13_goesOver ⟨Nat.le_of_ble_eq_true rfl, Nat.le_of_ble_eq_true rfl⟩ rfl hl.1 rfl (Nat.le_of_ble_eq_true rfl) dX13_passes_57 (fun H locs hH => ?_)
        refine lv_iconst (v := (-1)) hx hb dX13_passes_60 (by decide) ?_
        have hF := prt_eq hF
        exact mr_i hC hH hr hF dX13_passes_61 hlocks
      · rw [if_neg c_18] at hF
        refine lv_iload_n hx hb dX13_passes_53 rfl (lv_at hl 0 rfl) ?_
        have hF := prt_eq hF
        exact mr_i hC hH hr hF dX13_passes_54 hlocks
  · rw [if_pos c_10] at hF
    refine lv_aload_n hx hb dX13_passes_21 rfl (lv_at hl 0 rfl) ?_
    refine mg_23 hC hH dX13_passes_22 ?_
    refine lv_iload_n hx hb dX13_passes_25 rfl (lv_at hl 1 rfl) ?_
    obtain ⟨x_22, g_23, e_24, hF⟩ := prd_some hF
    refine ml_23 hC hH g_23 dX13_passes_26 ?_
    refine gx_ti e_24 ?_
    refine lv_if_ne (tgt := 34) hx hb dX13_passes_27 (by decide) (fun c_25 => ?_) (fun c_25 => ?_)
    · rw [if_neg c_25] at hF
      refine lv_iconst (v := 0) hx hb dX13_passes_34 (by decide) ?_
      obtain ⟨r_26, u_27, h_28, hF⟩ := pcl_some hF
      refine mcV_i (As := [.int a0, .int 0]) (rest := []) hC hH (m_asked l G Z Q u_5 u_27 r_26 a0 0 _ h_28) kwX13_asked kVX13_asked ⟨Nat.le_of_ble_eq_true rfl, Nat.le_of_ble_eq_true rfl⟩ rfl hl.1 rfl (Nat.le_of_ble_eq_true rfl) dX13_passes_35 (fun H locs hH => ?_)
      refine lv_istore_n (lv' := [(3, .int r_26), (0, .ref (Q 72)), (1, .int a0), (2, .int a1)]) hx hb dX13_passes_38 rfl hl (by decide) rfl (fun ls hl => ?_)
      refine lv_iload_n hx hb dX13_passes_39 rfl (lv_at hl 0 rfl) ?_
      refine lv_iconst (v := (-1)) hx hb dX13_passes_40 (by decide) ?_
      refine lv_icmp_ne (tgt := 53) hx hb dX13_passes_41 (by decide) (fun c_29 => ?_) (fun c_29 => ?_)
      · rw [if_neg c_29] at hF
        refine lv_iload_n hx hb dX13_passes_53 rfl (lv_at hl 0 rfl) ?_
        have hF := prt_eq hF
        exact mr_i hC hH hr hF dX13_passes_54 hlocks
      · rw [if_pos c_29] at hF
        refine lv_aload_n hx hb dX13_passes_44 rfl (lv_at hl 1 rfl) ?_
        refine mg_23 hC hH dX13_passes_45 ?_
        refine lv_iload_n hx hb dX13_passes_48 rfl (lv_at hl 2 rfl) ?_
        obtain ⟨x_30, g_31, e_32, hF⟩ := prd_some hF
        refine ml_23 hC hH g_31 dX13_passes_49 ?_
        refine gx_ti e_32 ?_
        refine lv_if_le (tgt := 55) hx hb dX13_passes_50 (by decide) (fun c_33 => ?_) (fun c_33 => ?_)
        · rw [if_pos c_33] at hF
          refine lv_aload_n hx hb dX13_passes_55 rfl (lv_at hl 1 rfl) ?_
          refine lv_iload_n hx hb dX13_passes_56 rfl (lv_at hl 2 rfl) ?_
          obtain ⟨r_34, u_35, h_36, hF⟩ := pcl_some hF
          refine mcV_v (As := [.int a0]) (rest := []) hC hH (m_goesOver l G Z Q u_27 u_35 r_34 a0 _ h_36) kwX13_goesOver kVX13_goesOver ⟨Nat.le_of_ble_eq_true rfl, Nat.le_of_ble_eq_true rfl⟩ rfl hl.1 rfl (Nat.le_of_ble_eq_true rfl) dX13_passes_57 (fun H locs hH => ?_)
          refine lv_iconst (v := (-1)) hx hb dX13_passes_60 (by decide) ?_
          have hF := prt_eq hF
          exact mr_i hC hH hr hF dX13_passes_61 hlocks
        · rw [if_neg c_33] at hF
          refine lv_iload_n hx hb dX13_passes_53 rfl (lv_at hl 0 rfl) ?_
          have hF := prt_eq hF
          exact mr_i hC hH hr hF dX13_passes_54 hlocks
    · rw [if_pos c_25] at hF
      refine lv_iconst (v := 1) hx hb dX13_passes_30 (by decide) ?_
      refine lv_goto (tgt := 35) hx hb dX13_passes_31 (by decide) ?_
      obtain ⟨r_37, u_38, h_39, hF⟩ := pcl_some hF
      refine mcV_i (As := [.int a0, .int 1]) (rest := []) hC hH (m_asked l G Z Q u_5 u_38 r_37 a0 1 _ h_39) kwX13_asked kVX13_asked ⟨Nat.le_of_ble_eq_true rfl, Nat.le_of_ble_eq_true rfl⟩ rfl hl.1 rfl (Nat.le_of_ble_eq_true rfl) dX13_passes_35 (fun H locs hH => ?_)
      refine lv_istore_n (lv' := [(3, .int r_37), (0, .ref (Q 72)), (1, .int a0), (2, .int a1)]) hx hb dX13_passes_38 rfl hl (by decide) rfl (fun ls hl => ?_)
      refine lv_iload_n hx hb dX13_passes_39 rfl (lv_at hl 0 rfl) ?_
      refine lv_iconst (v := (-1)) hx hb dX13_passes_40 (by decide) ?_
      refine lv_icmp_ne (tgt := 53) hx hb dX13_passes_41 (by decide) (fun c_40 => ?_) (fun c_40 => ?_)
      · rw [if_neg c_40] at hF
        refine lv_iload_n hx hb dX13_passes_53 rfl (lv_at hl 0 rfl) ?_
        have hF := prt_eq hF
        exact mr_i hC hH hr hF dX13_passes_54 hlocks
      · rw [if_pos c_40] at hF
        refine lv_aload_n hx hb dX13_passes_44 rfl (lv_at hl 1 rfl) ?_
        refine mg_23 hC hH dX13_passes_45 ?_
        refine lv_iload_n hx hb dX13_passes_48 rfl (lv_at hl 2 rfl) ?_
        obtain ⟨x_41, g_42, e_43, hF⟩ := prd_some hF
        refine ml_23 hC hH g_42 dX13_passes_49 ?_
        refine gx_ti e_43 ?_
        refine lv_if_le (tgt := 55) hx hb dX13_passes_50 (by decide) (fun c_44 => ?_) (fun c_44 => ?_)
        · rw [if_pos c_44] at hF
          refine lv_aload_n hx hb dX13_passes_55 rfl (lv_at hl 1 rfl) ?_
          refine lv_iload_n hx hb dX13_passes_56 rfl (lv_at hl 2 rfl) ?_
          obtain ⟨r_45, u_46, h_47, hF⟩ := pcl_some hF
          refine mcV_v (As := [.int a0]) (rest := []) hC hH (m_goesOver l G Z Q u_38 u_46 r_45 a0 _ h_47) kwX13_goesOver kVX13_goesOver ⟨Nat.le_of_ble_eq_true rfl, Nat.le_of_ble_eq_true rfl⟩ rfl hl.1 rfl (Nat.le_of_ble_eq_true rfl) dX13_passes_57 (fun H locs hH => ?_)
          refine lv_iconst (v := (-1)) hx hb dX13_passes_60 (by decide) ?_
          have hF := prt_eq hF
          exact mr_i hC hH hr hF dX13_passes_61 hlocks
        · rw [if_neg c_44] at hF
          refine lv_iload_n hx hb dX13_passes_53 rfl (lv_at hl 0 rfl) ?_
          have hF := prt_eq hF
          exact mr_i hC hH hr hF dX13_passes_54 hlocks
def lp_struck_28 : Nat → Int32 → Int32 → Int32 → Int32 → Int32 → (Int32 → Int32 → Int32 → Int32 → Int32 → PG (Int32)) → PG (Int32)
  | 0, _, _, _, _, _, _ => fun _ => none
  | n28 + 1, v1, v2, v3, v4, v5, K28_172 => pcl (f_fights v1) (fun r_5 => (if r_5 ≤ v5 then K28_172 v1 v2 v3 v4 v5 else pli ((40 * v1) + v5) (fun x_9 => prd 15 160 x_9 (fun x_11 => (if x_11 = 0 then pli (v5 + 1) (fun x_15 => lp_struck_28 n28 v1 v2 v3 v4 x_15 K28_172) else pcl (fS 24 0 v1 v5 0 0) (fun r_17 => prd 16 160 x_9 (fun x_20 => (if r_17 = x_20 then pcl (fS 24 0 v1 v5 1 0) (fun r_64 => prd 17 160 x_9 (fun x_67 => (if r_64 = x_67 then pli (v5 + 1) (fun x_111 => lp_struck_28 n28 v1 v2 v3 v4 x_111 K28_172) else prd 15 160 x_9 (fun x_71 => (if x_71 = 1 then pcl (f_matOf v1 v5) (fun r_82 => pwd 22 4 r_82 (-1) (prd 16 160 x_9 (fun x_88 => prf 3 (fun x_91 => pwd 11 96 x_88 x_91 (prd 17 160 x_9 (fun x_96 => prf 3 (fun x_99 => pwd 11 96 x_96 x_99 (pwd 15 160 x_9 0 (pli (v3 + 1) (fun x_107 => pli (v5 + 1) (fun x_109 => lp_struck_28 n28 v1 v2 x_107 1 x_109 K28_172))))))))))) else pwd 15 160 x_9 0 (pli (v3 + 1) (fun x_78 => pli (v5 + 1) (fun x_80 => lp_struck_28 n28 v1 v2 x_78 1 x_80 K28_172)))))))) else prd 15 160 x_9 (fun x_24 => (if x_24 = 1 then pcl (f_matOf v1 v5) (fun r_35 => pwd 22 4 r_35 (-1) (prd 16 160 x_9 (fun x_41 => prf 3 (fun x_44 => pwd 11 96 x_41 x_44 (prd 17 160 x_9 (fun x_49 => prf 3 (fun x_52 => pwd 11 96 x_49 x_52 (pwd 15 160 x_9 0 (pli (v3 + 1) (fun x_60 => pli (v5 + 1) (fun x_62 => lp_struck_28 n28 v1 v2 x_60 1 x_62 K28_172))))))))))) else pwd 15 160 x_9 0 (pli (v3 + 1) (fun x_31 => pli (v5 + 1) (fun x_33 => lp_struck_28 n28 v1 v2 x_31 1 x_33 K28_172)))))))))))))
def lp_struck_17 : Nat → Int32 → Int32 → Int32 → Int32 → (Int32 → Int32 → Int32 → Int32 → PG (Int32)) → PG (Int32)
  | 0, _, _, _, _, _ => fun _ => none
  | n17 + 1, v1, v2, v3, v4, K17_175 => (if v4 = 0 then K17_175 v1 v2 v3 v4 else lp_struck_28 fuel v1 v2 v3 0 0 (fun v1 v2 v3 v4 v5 => lp_struck_17 n17 v1 v2 v3 v4 K17_175))
def f_struck (a0 : Int32) (a1 : Int32) : PG (Int32) := pwd 15 160 ((40 * a0) + a1) 0 (lp_struck_17 fuel a0 a1 1 1 (fun v1 v2 v3 v4 => prt v3))
set_option maxHeartbeats 4000000 in
set_option maxRecDepth 100000 in
theorem m_struck (l : Launch) (G : gG) (Z : gM) (Q : Nat → Nat) (u u1 : GS) (r : Int32) (a0 : Int32) (a1 : Int32) (sz : Nat) (hF : f_struck a0 a1 u = some (r, u1)) : Met l yX13_struck (Cond.code yX13_struck cX13_struck 7 (some .int) :: wM) { frames := 309, cells := 0, slots := 0, locals := 3786 } (va_Pc [.ref (Q 72), .int a0, .int a1] (mPM G Z Q u.1 sz)) (mQi G Q u1.1 r sz) 0 0 (mA Q sz) := by
  refine Met.ofW (cc := cX13_struck) (maxL := 7) (ret := (some .int)) (by decide) rfl ?_
  intro p e s m args below meth c s₁ B hml hv
  obtain ⟨rfl, rfl, hP, hB, hD, hE⟩ := hv
  have hr := B.returns
  have hlocks := B.notSynchronized
  have hts := atoms_spec (ws := Cond.code yX13_struck cX13_struck 7 (some .int) :: wM) B.pre
  have hC : mX p c cX13_struck 7 s m _ G Z Q := ⟨B.exec, B.bytes, hml, findClass_of_methodNamed B.named, fun w h => hts w (List.mem_cons_of_mem _ h), hB, hE⟩
  have hx := hC.1
  have hb := hC.2.1
  have hH : mH G Q u.1 s s.heap [] := ⟨hP, hD, va_S.rf⟩
  have hl := lv_entry ([.ref (Q 72), .int a0, .int a1]) (n := 7) (Nat.le_of_ble_eq_true rfl)
  rw [lg_entry_eq]
  generalize (lg_sl ([.ref (Q 72), .int a0, .int a1]) ++ List.replicate (7 - (lg_sl ([.ref (Q 72), .int a0, .int a1])).length) Slot.unset).toArray = ls at hl ⊢
  have hl : lv_has ls 7 [(0, .ref (Q 72)), (1, .int a0), (2, .int a1)] := hl
  unfold f_struck at hF
  refine lv_aload_n hx hb dX13_struck_0 rfl (lv_at hl 0 rfl) ?_
  refine mg_15 hC hH dX13_struck_1 ?_
  refine lv_bipush (v := 40) hx hb dX13_struck_4 (by decide) ?_
  refine lv_iload_n hx hb dX13_struck_6 rfl (lv_at hl 1 rfl) ?_
  refine lv_imul hx hb dX13_struck_7 ?_
  refine lv_iload_n hx hb dX13_struck_8 rfl (lv_at hl 2 rfl) ?_
  refine lv_iadd hx hb dX13_struck_9 ?_
  refine lv_iconst (v := 0) hx hb dX13_struck_10 (by decide) ?_
  obtain ⟨u_2, g_1, e_3, hF⟩ := pwd_some hF
  refine ms_15 hC hH e_3 g_1 dX13_struck_11 (fun H locs hH => ?_)
  refine lv_iconst (v := 1) hx hb dX13_struck_12 (by decide) ?_
  refine lv_istore_n (lv' := [(3, .int 1), (0, .ref (Q 72)), (1, .int a0), (2, .int a1)]) hx hb dX13_struck_13 rfl hl (by decide) rfl (fun ls hl => ?_)
  refine lv_iconst (v := 1) hx hb dX13_struck_14 (by decide) ?_
  refine lv_istore (lv' := [(4, .int 1), (3, .int 1), (0, .ref (Q 72)), (1, .int a0), (2, .int a1)]) hx hb dX13_struck_15 hl (by decide) rfl (fun ls hl => ?_)
  have hL17 : ∀ (K17_175 : Int32 → Int32 → Int32 → Int32 → PG (Int32)), (∀ (v1 v2 v3 v4 : Int32) (u : GS) (H : Heap) (locs : List Loc) (ls : Array Slot), lv_has ls 7 [(0, .ref (Q 72)), (1, .int v1), (2, .int v2), (3, .int v3), (4, .int v4)] → mH G Q u.1 s H locs → K17_175 v1 v2 v3 v4 u = some ((r, u1)) → W p l e (headSpec (Cond.code yX13_struck cX13_struck 7 (some .int) :: wM) { frames := 309, cells := 0, slots := 0, locals := 3786 }).room s m [.ref (Q 72), .int a0, .int a1].toArray below meth c H locs 0 0 (MQ below (mQi G Q u1.1 r s.heap.size) [.ref (Q 72), .int a0, .int a1].toArray s 0 0 (mA Q s.heap.size)) (F0 m 175 ls [])) → ∀ (n17 : Nat) (v1 v2 v3 v4 : Int32) (u : GS) (H : Heap) (locs : List Loc) (ls : Array Slot), lv_has ls 7 [(0, .ref (Q 72)), (1, .int v1), (2, .int v2), (3, .int v3), (4, .int v4)] → mH G Q u.1 s H locs → lp_struck_17 n17 v1 v2 v3 v4 K17_175 u = some ((r, u1)) → W p l e (headSpec (Cond.code yX13_struck cX13_struck 7 (some .int) :: wM) { frames := 309, cells := 0, slots := 0, locals := 3786 }).room s m [.ref (Q 72), .int a0, .int a1].toArray below meth c H locs 0 0 (MQ below (mQi G Q u1.1 r s.heap.size) [.ref (Q 72), .int a0, .int a1].toArray s 0 0 (mA Q s.heap.size)) (F0 m 17 ls []) := by
    intro K17_175 hK17_175 n17
    induction n17 with
    | zero => intro v1 v2 v3 v4 u H locs ls hl hH hF; cases hF
    | succ n17 ih17 =>
      intro v1 v2 v3 v4 u H locs ls hl hH hF
      unfold lp_struck_17 at hF
      refine lv_iload hx hb dX13_struck_17 (lv_at hl 4 rfl) ?_
      refine lv_if_eq (tgt := 175) hx hb dX13_struck_19 (by decide) (fun c_4 => ?_) (fun c_4 => ?_)
      · rw [if_pos c_4] at hF
        exact hK17_175 v1 v2 v3 v4 u _ _ _ (lv_sub hl [0, 1, 2, 3, 4] rfl) hH hF
      · rw [if_neg c_4] at hF
        refine lv_iconst (v := 0) hx hb dX13_struck_22 (by decide) ?_
        refine lv_istore (lv' := [(4, .int 0), (0, .ref (Q 72)), (1, .int v1), (2, .int v2), (3, .int v3)]) hx hb dX13_struck_23 hl (by decide) rfl (fun ls hl => ?_)
        refine lv_iconst (v := 0) hx hb dX13_struck_25 (by decide) ?_
        refine lv_istore (lv' := [(5, .int 0), (4, .int 0), (0, .ref (Q 72)), (1, .int v1), (2, .int v2), (3, .int v3)]) hx hb dX13_struck_26 hl (by decide) rfl (fun ls hl => ?_)
        have hL28 : ∀ (K28_172 : Int32 → Int32 → Int32 → Int32 → Int32 → PG (Int32)), (∀ (v1 v2 v3 v4 v5 : Int32) (u : GS) (H : Heap) (locs : List Loc) (ls : Array Slot), lv_has ls 7 [(0, .ref (Q 72)), (1, .int v1), (2, .int v2), (3, .int v3), (4, .int v4), (5, .int v5)] → mH G Q u.1 s H locs → K28_172 v1 v2 v3 v4 v5 u = some ((r, u1)) → W p l e (headSpec (Cond.code yX13_struck cX13_struck 7 (some .int) :: wM) { frames := 309, cells := 0, slots := 0, locals := 3786 }).room s m [.ref (Q 72), .int a0, .int a1].toArray below meth c H locs 0 0 (MQ below (mQi G Q u1.1 r s.heap.size) [.ref (Q 72), .int a0, .int a1].toArray s 0 0 (mA Q s.heap.size)) (F0 m 172 ls [])) → ∀ (n28 : Nat) (v1 v2 v3 v4 v5 : Int32) (u : GS) (H : Heap) (locs : List Loc) (ls : Array Slot), lv_has ls 7 [(0, .ref (Q 72)), (1, .int v1), (2, .int v2), (3, .int v3), (4, .int v4), (5, .int v5)] → mH G Q u.1 s H locs → lp_struck_28 n28 v1 v2 v3 v4 v5 K28_172 u = some ((r, u1)) → W p l e (headSpec (Cond.code yX13_struck cX13_struck 7 (some .int) :: wM) { frames := 309, cells := 0, slots := 0, locals := 3786 }).room s m [.ref (Q 72), .int a0, .int a1].toArray below meth c H locs 0 0 (MQ below (mQi G Q u1.1 r s.heap.size) [.ref (Q 72), .int a0, .int a1].toArray s 0 0 (mA Q s.heap.size)) (F0 m 28 ls []) := by
          intro K28_172 hK28_172 n28
          induction n28 with
          | zero => intro v1 v2 v3 v4 v5 u H locs ls hl hH hF; cases hF
          | succ n28 ih28 =>
            intro v1 v2 v3 v4 v5 u H locs ls hl hH hF
            unfold lp_struck_28 at hF
            refine lv_iload hx hb dX13_struck_28 (lv_at hl 5 rfl) ?_
            refine lv_aload_n hx hb dX13_struck_30 rfl (lv_at hl 0 rfl) ?_
            refine lv_iload_n hx hb dX13_struck_31 rfl (lv_at hl 1 rfl) ?_
            obtain ⟨r_5, u_6, h_7, hF⟩ := pcl_some hF
            refine mcV_i (As := [.int v1]) (rest := [.int v5]) hC hH (m_fights l G Z Q u u_6 r_5 v1 _ h_7) kwX13_fights kVX13_fights ⟨Nat.le_of_ble_eq_true rfl, Nat.le_of_ble_eq_true rfl⟩ rfl hl.1 rfl (Nat.le_of_ble_eq_true rfl) dX13_struck_32 (fun H locs hH => ?_)
            refine lv_icmp_ge (tgt := 172) hx hb dX13_struck_35 (by decide) (fun c_8 => ?_) (fun c_8 => ?_)
            · rw [if_pos c_8] at hF
              exact hK28_172 v1 v2 v3 v4 v5 u_6 _ _ _ (lv_sub hl [0, 1, 2, 3, 4, 5] rfl) hH hF
            · rw [if_neg c_8] at hF
              refine lv_bipush (v := 40) hx hb dX13_struck_38 (by decide) ?_
              refine lv_iload_n hx hb dX13_struck_40 rfl (lv_at hl 1 rfl) ?_
              refine lv_imul hx hb dX13_struck_41 ?_
              refine lv_iload hx hb dX13_struck_42 (lv_at hl 5 rfl) ?_
              refine lv_iadd hx hb dX13_struck_44 ?_
              obtain ⟨x_9, e_10, hF⟩ := pli_some hF
              refine gx_ti e_10 ?_
              refine lv_istore (lv' := [(6, .int x_9), (0, .ref (Q 72)), (1, .int v1), (2, .int v2), (3, .int v3), (4, .int v4), (5, .int v5)]) hx hb dX13_struck_45 hl (by decide) rfl (fun ls hl => ?_)
              refine lv_aload_n hx hb dX13_struck_47 rfl (lv_at hl 1 rfl) ?_
              refine mg_15 hC hH dX13_struck_48 ?_
              refine lv_iload hx hb dX13_struck_51 (lv_at hl 0 rfl) ?_
              obtain ⟨x_11, g_12, e_13, hF⟩ := prd_some hF
              refine ml_15 hC hH g_12 dX13_struck_53 ?_
              refine gx_ti e_13 ?_
              refine lv_if_eq (tgt := 166) hx hb dX13_struck_54 (by decide) (fun c_14 => ?_) (fun c_14 => ?_)
              · rw [if_pos c_14] at hF
                obtain ⟨x_15, e_16, hF⟩ := pli_some hF
                refine lv_iinc (v := x_15) (lv' := [(5, .int x_15), (6, .int x_9), (0, .ref (Q 72)), (1, .int v1), (2, .int v2), (3, .int v3), (4, .int v4)]) hx hb dX13_struck_166 hl (k := 6) rfl e_16 (by decide) rfl (fun ls hl => ?_)
                refine lv_goto (tgt := 28) hx hb dX13_struck_169 (by decide) ?_
                exact ih28 v1 v2 v3 v4 x_15 u_6 _ _ _ (lv_sub hl [2, 3, 4, 5, 6, 0] rfl) hH hF
              · rw [if_neg c_14] at hF
                refine lv_aload_n hx hb dX13_struck_57 rfl (lv_at hl 1 rfl) ?_
                refine lv_iload_n hx hb dX13_struck_58 rfl (lv_at hl 2 rfl) ?_
                refine lv_iload hx hb dX13_struck_59 (lv_at hl 6 rfl) ?_
                refine lv_iconst (v := 0) hx hb dX13_struck_61 (by decide) ?_
                obtain ⟨r_17, u_18, h_19, hF⟩ := pcl_some hF
                refine mcV_i (As := [.int v1, .int v5, .int 0]) (rest := []) hC hH (m_sideOf l G Z Q u_6 u_18 r_17 v1 v5 0 _ h_19) kwX13_sideOf kVX13_sideOf ⟨Nat.le_of_ble_eq_true rfl, Nat.le_of_ble_eq_true rfl⟩ rfl hl.1 rfl (Nat.le_of_ble_eq_true rfl) dX13_struck_62 (fun H locs hH => ?_)
                refine lv_aload_n hx hb dX13_struck_65 rfl (lv_at hl 1 rfl) ?_
                refine mg_16 hC hH dX13_struck_66 ?_
                refine lv_iload hx hb dX13_struck_69 (lv_at hl 0 rfl) ?_
                obtain ⟨x_20, g_21, e_22, hF⟩ := prd_some hF
                refine ml_16 hC hH g_21 dX13_struck_71 ?_
                refine gx_ti e_22 ?_
                refine lv_icmp_ne (tgt := 96) hx hb dX13_struck_72 (by decide) (fun c_23 => ?_) (fun c_23 => ?_)
                · rw [if_neg c_23] at hF
                  refine lv_aload_n hx hb dX13_struck_96 rfl (lv_at hl 1 rfl) ?_
                  refine mg_15 hC hH dX13_struck_97 ?_
                  refine lv_iload hx hb dX13_struck_100 (lv_at hl 0 rfl) ?_
                  obtain ⟨x_24, g_25, e_26, hF⟩ := prd_some hF
                  refine ml_15 hC hH g_25 dX13_struck_102 ?_
                  refine gx_ti e_26 ?_
                  refine lv_iconst (v := 1) hx hb dX13_struck_103 (by decide) ?_
                  refine lv_icmp_ne (tgt := 152) hx hb dX13_struck_104 (by decide) (fun c_27 => ?_) (fun c_27 => ?_)
                  · rw [if_neg c_27] at hF
                    refine lv_aload_n hx hb dX13_struck_152 rfl (lv_at hl 1 rfl) ?_
                    refine mg_15 hC hH dX13_struck_153 ?_
                    refine lv_iload hx hb dX13_struck_156 (lv_at hl 0 rfl) ?_
                    refine lv_iconst (v := 0) hx hb dX13_struck_158 (by decide) ?_
                    obtain ⟨u_29, g_28, e_30, hF⟩ := pwd_some hF
                    refine ms_15 hC hH e_30 g_28 dX13_struck_159 (fun H locs hH => ?_)
                    obtain ⟨x_31, e_32, hF⟩ := pli_some hF
                    refine lv_iinc (v := x_31) (lv' := [(3, .int x_31), (6, .int x_9), (0, .ref (Q 72)), (1, .int v1), (2, .int v2), (4, .int v4), (5, .int v5)]) hx hb dX13_struck_160 hl (k := 4) rfl e_32 (by decide) rfl (fun ls hl => ?_)
                    refine lv_iconst (v := 1) hx hb dX13_struck_163 (by decide) ?_
                    refine lv_istore (lv' := [(4, .int 1), (3, .int x_31), (6, .int x_9), (0, .ref (Q 72)), (1, .int v1), (2, .int v2), (5, .int v5)]) hx hb dX13_struck_164 hl (by decide) rfl (fun ls hl => ?_)
                    obtain ⟨x_33, e_34, hF⟩ := pli_some hF
                    refine lv_iinc (v := x_33) (lv' := [(5, .int x_33), (4, .int 1), (3, .int x_31), (6, .int x_9), (0, .ref (Q 72)), (1, .int v1), (2, .int v2)]) hx hb dX13_struck_166 hl (k := 6) rfl e_34 (by decide) rfl (fun ls hl => ?_)
                    refine lv_goto (tgt := 28) hx hb dX13_struck_169 (by decide) ?_
                    exact ih28 v1 v2 x_31 1 x_33 u_29 _ _ _ (lv_sub hl [4, 5, 6, 2, 1, 0] rfl) hH hF
                  · rw [if_pos c_27] at hF
                    refine lv_aload_n hx hb dX13_struck_107 rfl (lv_at hl 1 rfl) ?_
                    refine mg_22 hC hH dX13_struck_108 ?_
                    refine lv_aload_n hx hb dX13_struck_111 rfl (lv_at hl 1 rfl) ?_
                    refine lv_iload_n hx hb dX13_struck_112 rfl (lv_at hl 2 rfl) ?_
                    refine lv_iload hx hb dX13_struck_113 (lv_at hl 6 rfl) ?_
                    obtain ⟨r_35, u_36, h_37, hF⟩ := pcl_some hF
                    refine mcV_i (As := [.int v1, .int v5]) (rest := [.ref (Q 22)]) hC hH (m_matOf l G Z Q u_18 u_36 r_35 v1 v5 _ h_37) kwX13_matOf kVX13_matOf ⟨Nat.le_of_ble_eq_true rfl, Nat.le_of_ble_eq_true rfl⟩ rfl hl.1 rfl (Nat.le_of_ble_eq_true rfl) dX13_struck_115 (fun H locs hH => ?_)
                    refine lv_iconst (v := (-1)) hx hb dX13_struck_118 (by decide) ?_
                    obtain ⟨u_39, g_38, e_40, hF⟩ := pwd_some hF
                    refine ms_22 hC hH e_40 g_38 dX13_struck_119 (fun H locs hH => ?_)
                    refine lv_aload_n hx hb dX13_struck_120 rfl (lv_at hl 1 rfl) ?_
                    refine mg_11 hC hH dX13_struck_121 ?_
                    refine lv_aload_n hx hb dX13_struck_124 rfl (lv_at hl 1 rfl) ?_
                    refine mg_16 hC hH dX13_struck_125 ?_
                    refine lv_iload hx hb dX13_struck_128 (lv_at hl 0 rfl) ?_
                    obtain ⟨x_41, g_42, e_43, hF⟩ := prd_some hF
                    refine ml_16 hC hH g_42 dX13_struck_130 ?_
                    refine gx_ti e_43 ?_
                    refine lv_aload_n hx hb dX13_struck_131 rfl (lv_at hl 1 rfl) ?_
                    refine mg_3 hC hH dX13_struck_132 ?_
                    obtain ⟨x_44, e_45, hF⟩ := prf_some hF
                    refine gx_ti e_45 ?_
                    obtain ⟨u_47, g_46, e_48, hF⟩ := pwd_some hF
                    refine ms_11 hC hH e_48 g_46 dX13_struck_135 (fun H locs hH => ?_)
                    refine lv_aload_n hx hb dX13_struck_136 rfl (lv_at hl 1 rfl) ?_
                    refine mg_11 hC hH dX13_struck_137 ?_
                    refine lv_aload_n hx hb dX13_struck_140 rfl (lv_at hl 1 rfl) ?_
                    refine mg_17 hC hH dX13_struck_141 ?_
                    refine lv_iload hx hb dX13_struck_144 (lv_at hl 0 rfl) ?_
                    obtain ⟨x_49, g_50, e_51, hF⟩ := prd_some hF
                    refine ml_17 hC hH g_50 dX13_struck_146 ?_
                    refine gx_ti e_51 ?_
                    refine lv_aload_n hx hb dX13_struck_147 rfl (lv_at hl 1 rfl) ?_
                    refine mg_3 hC hH dX13_struck_148 ?_
                    obtain ⟨x_52, e_53, hF⟩ := prf_some hF
                    refine gx_ti e_53 ?_
                    obtain ⟨u_55, g_54, e_56, hF⟩ := pwd_some hF
                    refine ms_11 hC hH e_56 g_54 dX13_struck_151 (fun H locs hH => ?_)
                    refine lv_aload_n hx hb dX13_struck_152 rfl (lv_at hl 1 rfl) ?_
                    refine mg_15 hC hH dX13_struck_153 ?_
                    refine lv_iload hx hb dX13_struck_156 (lv_at hl 0 rfl) ?_
                    refine lv_iconst (v := 0) hx hb dX13_struck_158 (by decide) ?_
                    obtain ⟨u_58, g_57, e_59, hF⟩ := pwd_some hF
                    refine ms_15 hC hH e_59 g_57 dX13_struck_159 (fun H locs hH => ?_)
                    obtain ⟨x_60, e_61, hF⟩ := pli_some hF
                    refine lv_iinc (v := x_60) (lv' := [(3, .int x_60), (6, .int x_9), (0, .ref (Q 72)), (1, .int v1), (2, .int v2), (4, .int v4), (5, .int v5)]) hx hb dX13_struck_160 hl (k := 4) rfl e_61 (by decide) rfl (fun ls hl => ?_)
                    refine lv_iconst (v := 1) hx hb dX13_struck_163 (by decide) ?_
                    refine lv_istore (lv' := [(4, .int 1), (3, .int x_60), (6, .int x_9), (0, .ref (Q 72)), (1, .int v1), (2, .int v2), (5, .int v5)]) hx hb dX13_struck_164 hl (by decide) rfl (fun ls hl => ?_)
                    obtain ⟨x_62, e_63, hF⟩ := pli_some hF
                    refine lv_iinc (v := x_62) (lv' := [(5, .int x_62), (4, .int 1), (3, .int x_60), (6, .int x_9), (0, .ref (Q 72)), (1, .int v1), (2, .int v2)]) hx hb dX13_struck_166 hl (k := 6) rfl e_63 (by decide) rfl (fun ls hl => ?_)
                    refine lv_goto (tgt := 28) hx hb dX13_struck_169 (by decide) ?_
                    exact ih28 v1 v2 x_60 1 x_62 u_58 _ _ _ (lv_sub hl [4, 5, 6, 2, 1, 0] rfl) hH hF
                · rw [if_pos c_23] at hF
                  refine lv_aload_n hx hb dX13_struck_75 rfl (lv_at hl 1 rfl) ?_
                  refine lv_iload_n hx hb dX13_struck_76 rfl (lv_at hl 2 rfl) ?_
                  refine lv_iload hx hb dX13_struck_77 (lv_at hl 6 rfl) ?_
                  refine lv_iconst (v := 1) hx hb dX13_struck_79 (by decide) ?_
                  obtain ⟨r_64, u_65, h_66, hF⟩ := pcl_some hF
                  refine mcV_i (As := [.int v1, .int v5, .int 1]) (rest := []) hC hH (m_sideOf l G Z Q u_18 u_65 r_64 v1 v5 1 _ h_66) kwX13_sideOf kVX13_sideOf ⟨Nat.le_of_ble_eq_true rfl, Nat.le_of_ble_eq_true rfl⟩ rfl hl.1 rfl (Nat.le_of_ble_eq_true rfl) dX13_struck_80 (fun H locs hH => ?_)
                  refine lv_aload_n hx hb dX13_struck_83 rfl (lv_at hl 1 rfl) ?_
                  refine mg_17 hC hH dX13_struck_84 ?_
                  refine lv_iload hx hb dX13_struck_87 (lv_at hl 0 rfl) ?_
                  obtain ⟨x_67, g_68, e_69, hF⟩ := prd_some hF
                  refine ml_17 hC hH g_68 dX13_struck_89 ?_
                  refine gx_ti e_69 ?_
                  refine lv_icmp_ne (tgt := 96) hx hb dX13_struck_90 (by decide) (fun c_70 => ?_) (fun c_70 => ?_)
                  · rw [if_neg c_70] at hF
                    refine lv_aload_n hx hb dX13_struck_96 rfl (lv_at hl 1 rfl) ?_
                    refine mg_15 hC hH dX13_struck_97 ?_
                    refine lv_iload hx hb dX13_struck_100 (lv_at hl 0 rfl) ?_
                    obtain ⟨x_71, g_72, e_73, hF⟩ := prd_some hF
                    refine ml_15 hC hH g_72 dX13_struck_102 ?_
                    refine gx_ti e_73 ?_
                    refine lv_iconst (v := 1) hx hb dX13_struck_103 (by decide) ?_
                    refine lv_icmp_ne (tgt := 152) hx hb dX13_struck_104 (by decide) (fun c_74 => ?_) (fun c_74 => ?_)
                    · rw [if_neg c_74] at hF
                      refine lv_aload_n hx hb dX13_struck_152 rfl (lv_at hl 1 rfl) ?_
                      refine mg_15 hC hH dX13_struck_153 ?_
                      refine lv_iload hx hb dX13_struck_156 (lv_at hl 0 rfl) ?_
                      refine lv_iconst (v := 0) hx hb dX13_struck_158 (by decide) ?_
                      obtain ⟨u_76, g_75, e_77, hF⟩ := pwd_some hF
                      refine ms_15 hC hH e_77 g_75 dX13_struck_159 (fun H locs hH => ?_)
                      obtain ⟨x_78, e_79, hF⟩ := pli_some hF
                      refine lv_iinc (v := x_78) (lv' := [(3, .int x_78), (6, .int x_9), (0, .ref (Q 72)), (1, .int v1), (2, .int v2), (4, .int v4), (5, .int v5)]) hx hb dX13_struck_160 hl (k := 4) rfl e_79 (by decide) rfl (fun ls hl => ?_)
                      refine lv_iconst (v := 1) hx hb dX13_struck_163 (by decide) ?_
                      refine lv_istore (lv' := [(4, .int 1), (3, .int x_78), (6, .int x_9), (0, .ref (Q 72)), (1, .int v1), (2, .int v2), (5, .int v5)]) hx hb dX13_struck_164 hl (by decide) rfl (fun ls hl => ?_)
                      obtain ⟨x_80, e_81, hF⟩ := pli_some hF
                      refine lv_iinc (v := x_80) (lv' := [(5, .int x_80), (4, .int 1), (3, .int x_78), (6, .int x_9), (0, .ref (Q 72)), (1, .int v1), (2, .int v2)]) hx hb dX13_struck_166 hl (k := 6) rfl e_81 (by decide) rfl (fun ls hl => ?_)
                      refine lv_goto (tgt := 28) hx hb dX13_struck_169 (by decide) ?_
                      exact ih28 v1 v2 x_78 1 x_80 u_76 _ _ _ (lv_sub hl [4, 5, 6, 2, 1, 0] rfl) hH hF
                    · rw [if_pos c_74] at hF
                      refine lv_aload_n hx hb dX13_struck_107 rfl (lv_at hl 1 rfl) ?_
                      refine mg_22 hC hH dX13_struck_108 ?_
                      refine lv_aload_n hx hb dX13_struck_111 rfl (lv_at hl 1 rfl) ?_
                      refine lv_iload_n hx hb dX13_struck_112 rfl (lv_at hl 2 rfl) ?_
                      refine lv_iload hx hb dX13_struck_113 (lv_at hl 6 rfl) ?_
                      obtain ⟨r_82, u_83, h_84, hF⟩ := pcl_some hF
                      refine mcV_i (As := [.int v1, .int v5]) (rest := [.ref (Q 22)]) hC hH (m_matOf l G Z Q u_65 u_83 r_82 v1 v5 _ h_84) kwX13_matOf kVX13_matOf ⟨Nat.le_of_ble_eq_true rfl, Nat.le_of_ble_eq_true rfl⟩ rfl hl.1 rfl (Nat.le_of_ble_eq_true rfl) dX13_struck_115 (fun H locs hH => ?_)
                      refine lv_iconst (v := (-1)) hx hb dX13_struck_118 (by decide) ?_
                      obtain ⟨u_86, g_85, e_87, hF⟩ := pwd_some hF
                      refine ms_22 hC hH e_87 g_85 dX13_struck_119 (fun H locs hH => ?_)
                      refine lv_aload_n hx hb dX13_struck_120 rfl (lv_at hl 1 rfl) ?_
                      refine mg_11 hC hH dX13_struck_121 ?_
                      refine lv_aload_n hx hb dX13_struck_124 rfl (lv_at hl 1 rfl) ?_
                      refine mg_16 hC hH dX13_struck_125 ?_
                      refine lv_iload hx hb dX13_struck_128 (lv_at hl 0 rfl) ?_
                      obtain ⟨x_88, g_89, e_90, hF⟩ := prd_some hF
                      refine ml_16 hC hH g_89 dX13_struck_130 ?_
                      refine gx_ti e_90 ?_
                      refine lv_aload_n hx hb dX13_struck_131 rfl (lv_at hl 1 rfl) ?_
                      refine mg_3 hC hH dX13_struck_132 ?_
                      obtain ⟨x_91, e_92, hF⟩ := prf_some hF
                      refine gx_ti e_92 ?_
                      obtain ⟨u_94, g_93, e_95, hF⟩ := pwd_some hF
                      refine ms_11 hC hH e_95 g_93 dX13_struck_135 (fun H locs hH => ?_)
                      refine lv_aload_n hx hb dX13_struck_136 rfl (lv_at hl 1 rfl) ?_
                      refine mg_11 hC hH dX13_struck_137 ?_
                      refine lv_aload_n hx hb dX13_struck_140 rfl (lv_at hl 1 rfl) ?_
                      refine mg_17 hC hH dX13_struck_141 ?_
                      refine lv_iload hx hb dX13_struck_144 (lv_at hl 0 rfl) ?_
                      obtain ⟨x_96, g_97, e_98, hF⟩ := prd_some hF
                      refine ml_17 hC hH g_97 dX13_struck_146 ?_
                      refine gx_ti e_98 ?_
                      refine lv_aload_n hx hb dX13_struck_147 rfl (lv_at hl 1 rfl) ?_
                      refine mg_3 hC hH dX13_struck_148 ?_
                      obtain ⟨x_99, e_100, hF⟩ := prf_some hF
                      refine gx_ti e_100 ?_
                      obtain ⟨u_102, g_101, e_103, hF⟩ := pwd_some hF
                      refine ms_11 hC hH e_103 g_101 dX13_struck_151 (fun H locs hH => ?_)
                      refine lv_aload_n hx hb dX13_struck_152 rfl (lv_at hl 1 rfl) ?_
                      refine mg_15 hC hH dX13_struck_153 ?_
                      refine lv_iload hx hb dX13_struck_156 (lv_at hl 0 rfl) ?_
                      refine lv_iconst (v := 0) hx hb dX13_struck_158 (by decide) ?_
                      obtain ⟨u_105, g_104, e_106, hF⟩ := pwd_some hF
                      refine ms_15 hC hH e_106 g_104 dX13_struck_159 (fun H locs hH => ?_)
                      obtain ⟨x_107, e_108, hF⟩ := pli_some hF
                      refine lv_iinc (v := x_107) (lv' := [(3, .int x_107), (6, .int x_9), (0, .ref (Q 72)), (1, .int v1), (2, .int v2), (4, .int v4), (5, .int v5)]) hx hb dX13_struck_160 hl (k := 4) rfl e_108 (by decide) rfl (fun ls hl => ?_)
                      refine lv_iconst (v := 1) hx hb dX13_struck_163 (by decide) ?_
                      refine lv_istore (lv' := [(4, .int 1), (3, .int x_107), (6, .int x_9), (0, .ref (Q 72)), (1, .int v1), (2, .int v2), (5, .int v5)]) hx hb dX13_struck_164 hl (by decide) rfl (fun ls hl => ?_)
                      obtain ⟨x_109, e_110, hF⟩ := pli_some hF
                      refine lv_iinc (v := x_109) (lv' := [(5, .int x_109), (4, .int 1), (3, .int x_107), (6, .int x_9), (0, .ref (Q 72)), (1, .int v1), (2, .int v2)]) hx hb dX13_struck_166 hl (k := 6) rfl e_110 (by decide) rfl (fun ls hl => ?_)
                      refine lv_goto (tgt := 28) hx hb dX13_struck_169 (by decide) ?_
                      exact ih28 v1 v2 x_107 1 x_109 u_105 _ _ _ (lv_sub hl [4, 5, 6, 2, 1, 0] rfl) hH hF
                  · rw [if_pos c_70] at hF
                    refine lv_goto (tgt := 166) hx hb dX13_struck_93 (by decide) ?_
                    obtain ⟨x_111, e_112, hF⟩ := pli_some hF
                    refine lv_iinc (v := x_111) (lv' := [(5, .int x_111), (6, .int x_9), (0, .ref (Q 72)), (1, .int v1), (2, .int v2), (3, .int v3), (4, .int v4)]) hx hb dX13_struck_166 hl (k := 6) rfl e_112 (by decide) rfl (fun ls hl => ?_)
                    refine lv_goto (tgt := 28) hx hb dX13_struck_169 (by decide) ?_
                    exact ih28 v1 v2 v3 v4 x_111 u_65 _ _ _ (lv_sub hl [2, 3, 4, 5, 6, 0] rfl) hH hF
        refine hL28 _ (fun v1 v2 v3 v4 v5 u H locs ls hl hH hF => ?_) fuel v1 v2 v3 0 0 u _ _ _ (lv_sub hl [2, 3, 4, 5, 1, 0] rfl) hH hF
        refine lv_goto (tgt := 17) hx hb dX13_struck_172 (by decide) ?_
        exact ih17 v1 v2 v3 v4 u _ _ _ (lv_sub hl [0, 1, 2, 3, 4] rfl) hH hF
  refine hL17 _ (fun v1 v2 v3 v4 u H locs ls hl hH hF => ?_) fuel a0 a1 1 1 u_2 _ _ _ (lv_sub hl [2, 3, 4, 1, 0] rfl) hH hF
  refine lv_iload_n hx hb dX13_struck_175 rfl (lv_at hl 3 rfl) ?_
  have hF := prt_eq hF
  exact mr_i hC hH hr hF dX13_struck_176 hlocks

