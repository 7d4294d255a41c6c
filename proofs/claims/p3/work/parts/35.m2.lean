def f_isWalk (a0 : Int32) (a1 : Int32) (u : MS) : Option (Int32 × MS) := og (gi ((40 * a0) + a1) 160) ((if (ra u 15 ((40 * a0) + a1)) = 0 then ob (fS 24 0 a0 a1 0 0 u) (fun r_3 u_4 => ob (fS 24 0 a0 a1 1 0 u_4) (fun r_6 u_7 => (if r_3 = (-2) then (if 0 ≤ r_6 then some (1, u_7) else (if r_6 = (-2) then (if r_3 < 0 then some (0, u_7) else some (1, u_7)) else some (0, u_7))) else (if r_6 = (-2) then (if r_3 < 0 then some (0, u_7) else some (1, u_7)) else some (0, u_7))))) else some (0, u)))
set_option maxHeartbeats 4000000 in
set_option maxRecDepth 100000 in
theorem m_isWalk (l : Launch) (G : gG) (Z : gM) (Q : Nat → Nat) (u u1 : MS) (r : Int32) (a0 : Int32) (a1 : Int32) (sz : Nat) (hF : f_isWalk a0 a1 u = some (r, u1)) : Met l yX13_isWalk (Cond.code yX13_isWalk cX13_isWalk 5 (some .boolean) :: wM) { frames := 309, cells := 0, slots := 0, locals := 3786 } (va_Pc [.ref (Q 72), .int a0, .int a1] (mPM G Z Q u sz)) (mQi G Q u1 r sz) 0 0 (mA Q sz) := by
  refine Met.ofW (cc := cX13_isWalk) (maxL := 5) (ret := (some .boolean)) (by decide) rfl ?_
  intro p e s m args below meth c s₁ B hml hv
  obtain ⟨rfl, rfl, hP, hB, hD, hE⟩ := hv
  have hr := B.returns
  have hlocks := B.notSynchronized
  have hts := atoms_spec (ws := Cond.code yX13_isWalk cX13_isWalk 5 (some .boolean) :: wM) B.pre
  have hC : mX p c cX13_isWalk 5 s m _ G Z Q := ⟨B.exec, B.bytes, hml, findClass_of_methodNamed B.named, fun w h => hts w (List.mem_cons_of_mem _ h), hB, hE⟩
  have hx := hC.1
  have hb := hC.2.1
  have hH : mH G Q u s s.heap [] := ⟨hP, hD, va_S.rf⟩
  have hl := lv_entry ([.ref (Q 72), .int a0, .int a1]) (n := 5) (Nat.le_of_ble_eq_true rfl)
  rw [lg_entry_eq]
  generalize (lg_sl ([.ref (Q 72), .int a0, .int a1]) ++ List.replicate (5 - (lg_sl ([.ref (Q 72), .int a0, .int a1])).length) Slot.unset).toArray = ls at hl ⊢
  have hl : lv_has ls 5 [(0, .ref (Q 72)), (1, .int a0), (2, .int a1)] := hl
  unfold f_isWalk at hF
  refine lv_aload_n hx hb dX13_isWalk_0 rfl (lv_at hl 0 rfl) ?_
  refine mg_15 hC hH dX13_isWalk_1 ?_
  refine lv_bipush (v := 40) hx hb dX13_isWalk_4 (by decide) ?_
  refine lv_iload_n hx hb dX13_isWalk_6 rfl (lv_at hl 1 rfl) ?_
  refine lv_imul hx hb dX13_isWalk_7 ?_
  refine lv_iload_n hx hb dX13_isWalk_8 rfl (lv_at hl 2 rfl) ?_
  refine lv_iadd hx hb dX13_isWalk_9 ?_
  obtain ⟨g_1, hF⟩ := og_some hF
  refine ml_15 hC hH g_1 dX13_isWalk_10 ?_
  refine lv_if_eq (tgt := 16) hx hb dX13_isWalk_11 (by decide) (fun c_2 => ?_) (fun c_2 => ?_)
  · rw [if_pos c_2] at hF
    refine lv_aload_n hx hb dX13_isWalk_16 rfl (lv_at hl 0 rfl) ?_
    refine lv_iload_n hx hb dX13_isWalk_17 rfl (lv_at hl 1 rfl) ?_
    refine lv_iload_n hx hb dX13_isWalk_18 rfl (lv_at hl 2 rfl) ?_
    refine lv_iconst (v := 0) hx hb dX13_isWalk_19 (by decide) ?_
    obtain ⟨r_3, u_4, h_5, hF⟩ := ob_some hF
    refine mcV_i (As := [.int a0, .int a1, .int 0]) (rest := []) hC hH (m_sideOf l G Z Q u u_4 r_3 a0 a1 0 _ h_5) kwX13_sideOf kVX13_sideOf ⟨Nat.le_of_ble_eq_true rfl, Nat.le_of_ble_eq_true rfl⟩ rfl hl.1 rfl (Nat.le_of_ble_eq_true rfl) dX13_isWalk_20 (fun H locs hH => ?_)
    refine lv_istore_n (lv' := [(3, .int r_3), (0, .ref (Q 72)), (1, .int a0), (2, .int a1)]) hx hb dX13_isWalk_23 rfl hl (by decide) rfl (fun ls hl => ?_)
    refine lv_aload_n hx hb dX13_isWalk_24 rfl (lv_at hl 1 rfl) ?_
    refine lv_iload_n hx hb dX13_isWalk_25 rfl (lv_at hl 2 rfl) ?_
    refine lv_iload_n hx hb dX13_isWalk_26 rfl (lv_at hl 3 rfl) ?_
    refine lv_iconst (v := 1) hx hb dX13_isWalk_27 (by decide) ?_
    obtain ⟨r_6, u_7, h_8, hF⟩ := ob_some hF
    refine mcV_i (As := [.int a0, .int a1, .int 1]) (rest := []) hC hH (m_sideOf l G Z Q u_4 u_7 r_6 a0 a1 1 _ h_8) kwX13_sideOf kVX13_sideOf ⟨Nat.le_of_ble_eq_true rfl, Nat.le_of_ble_eq_true rfl⟩ rfl hl.1 rfl (Nat.le_of_ble_eq_true rfl) dX13_isWalk_28 (fun H locs hH => ?_)
    refine lv_istore (lv' := [(4, .int r_6), (3, .int r_3), (0, .ref (Q 72)), (1, .int a0), (2, .int a1)]) hx hb dX13_isWalk_31 hl (by decide) rfl (fun ls hl => ?_)
    refine lv_iload_n hx hb dX13_isWalk_33 rfl (lv_at hl 1 rfl) ?_
    refine lv_bipush (v := (-2)) hx hb dX13_isWalk_34 (by decide) ?_
    refine lv_icmp_ne (tgt := 44) hx hb dX13_isWalk_36 (by decide) (fun c_9 => ?_) (fun c_9 => ?_)
    · rw [if_neg c_9] at hF
      refine lv_iload hx hb dX13_isWalk_44 (lv_at hl 0 rfl) ?_
      refine lv_bipush (v := (-2)) hx hb dX13_isWalk_46 (by decide) ?_
      refine lv_icmp_ne (tgt := 59) hx hb dX13_isWalk_48 (by decide) (fun c_10 => ?_) (fun c_10 => ?_)
      · rw [if_neg c_10] at hF
        refine lv_iconst (v := 0) hx hb dX13_isWalk_59 (by decide) ?_
        exact mr_z hC hH hr rfl hF dX13_isWalk_60 hlocks
      · rw [if_pos c_10] at hF
        refine lv_iload_n hx hb dX13_isWalk_51 rfl (lv_at hl 1 rfl) ?_
        refine lv_if_lt (tgt := 59) hx hb dX13_isWalk_52 (by decide) (fun c_11 => ?_) (fun c_11 => ?_)
        · rw [if_pos c_11] at hF
          refine lv_iconst (v := 0) hx hb dX13_isWalk_59 (by decide) ?_
          exact mr_z hC hH hr rfl hF dX13_isWalk_60 hlocks
        · rw [if_neg c_11] at hF
          refine lv_iconst (v := 1) hx hb dX13_isWalk_55 (by decide) ?_
          refine lv_goto (tgt := 60) hx hb dX13_isWalk_56 (by decide) ?_
          exact mr_z hC hH hr rfl hF dX13_isWalk_60 hlocks
    · rw [if_pos c_9] at hF
      refine lv_iload hx hb dX13_isWalk_39 (lv_at hl 0 rfl) ?_
      refine lv_if_ge (tgt := 55) hx hb dX13_isWalk_41 (by decide) (fun c_12 => ?_) (fun c_12 => ?_)
      · rw [if_pos c_12] at hF
        refine lv_iconst (v := 1) hx hb dX13_isWalk_55 (by decide) ?_
        refine lv_goto (tgt := 60) hx hb dX13_isWalk_56 (by decide) ?_
        exact mr_z hC hH hr rfl hF dX13_isWalk_60 hlocks
      · rw [if_neg c_12] at hF
        refine lv_iload hx hb dX13_isWalk_44 (lv_at hl 0 rfl) ?_
        refine lv_bipush (v := (-2)) hx hb dX13_isWalk_46 (by decide) ?_
        refine lv_icmp_ne (tgt := 59) hx hb dX13_isWalk_48 (by decide) (fun c_13 => ?_) (fun c_13 => ?_)
        · rw [if_neg c_13] at hF
          refine lv_iconst (v := 0) hx hb dX13_isWalk_59 (by decide) ?_
          exact mr_z hC hH hr rfl hF dX13_isWalk_60 hlocks
        · rw [if_pos c_13] at hF
          refine lv_iload_n hx hb dX13_isWalk_51 rfl (lv_at hl 1 rfl) ?_
          refine lv_if_lt (tgt := 59) hx hb dX13_isWalk_52 (by decide) (fun c_14 => ?_) (fun c_14 => ?_)
          · rw [if_pos c_14] at hF
            refine lv_iconst (v := 0) hx hb dX13_isWalk_59 (by decide) ?_
            exact mr_z hC hH hr rfl hF dX13_isWalk_60 hlocks
          · rw [if_neg c_14] at hF
            refine lv_iconst (v := 1) hx hb dX13_isWalk_55 (by decide) ?_
            refine lv_goto (tgt := 60) hx hb dX13_isWalk_56 (by decide) ?_
            exact mr_z hC hH hr rfl hF dX13_isWalk_60 hlocks
  · rw [if_neg c_2] at hF
    refine lv_iconst (v := 0) hx hb dX13_isWalk_14 (by decide) ?_
    exact mr_z hC hH hr rfl hF dX13_isWalk_15 hlocks
def f_isReady (a0 : Int32) (a1 : Int32) (u : MS) : Option (Int32 × MS) := og (gi ((40 * a0) + a1) 160) ((if (ra u 15 ((40 * a0) + a1)) = 0 then ob (fS 24 0 a0 a1 0 0 u) (fun r_3 u_4 => (if r_3 < 0 then some (0, u_4) else ob (fS 24 0 a0 a1 1 0 u_4) (fun r_7 u_8 => (if r_7 < 0 then some (0, u_8) else some (1, u_8))))) else some (0, u)))
set_option maxHeartbeats 4000000 in
set_option maxRecDepth 100000 in
theorem m_isReady (l : Launch) (G : gG) (Z : gM) (Q : Nat → Nat) (u u1 : MS) (r : Int32) (a0 : Int32) (a1 : Int32) (sz : Nat) (hF : f_isReady a0 a1 u = some (r, u1)) : Met l yX13_isReady (Cond.code yX13_isReady cX13_isReady 3 (some .boolean) :: wM) { frames := 309, cells := 0, slots := 0, locals := 3786 } (va_Pc [.ref (Q 72), .int a0, .int a1] (mPM G Z Q u sz)) (mQi G Q u1 r sz) 0 0 (mA Q sz) := by
  refine Met.ofW (cc := cX13_isReady) (maxL := 3) (ret := (some .boolean)) (by decide) rfl ?_
  intro p e s m args below meth c s₁ B hml hv
  obtain ⟨rfl, rfl, hP, hB, hD, hE⟩ := hv
  have hr := B.returns
  have hlocks := B.notSynchronized
  have hts := atoms_spec (ws := Cond.code yX13_isReady cX13_isReady 3 (some .boolean) :: wM) B.pre
  have hC : mX p c cX13_isReady 3 s m _ G Z Q := ⟨B.exec, B.bytes, hml, findClass_of_methodNamed B.named, fun w h => hts w (List.mem_cons_of_mem _ h), hB, hE⟩
  have hx := hC.1
  have hb := hC.2.1
  have hH : mH G Q u s s.heap [] := ⟨hP, hD, va_S.rf⟩
  have hl := lv_entry ([.ref (Q 72), .int a0, .int a1]) (n := 3) (Nat.le_of_ble_eq_true rfl)
  rw [lg_entry_eq]
  generalize (lg_sl ([.ref (Q 72), .int a0, .int a1]) ++ List.replicate (3 - (lg_sl ([.ref (Q 72), .int a0, .int a1])).length) Slot.unset).toArray = ls at hl ⊢
  have hl : lv_has ls 3 [(0, .ref (Q 72)), (1, .int a0), (2, .int a1)] := hl
  unfold f_isReady at hF
  refine lv_aload_n hx hb dX13_isReady_0 rfl (lv_at hl 0 rfl) ?_
  refine mg_15 hC hH dX13_isReady_1 ?_
  refine lv_bipush (v := 40) hx hb dX13_isReady_4 (by decide) ?_
  refine lv_iload_n hx hb dX13_isReady_6 rfl (lv_at hl 1 rfl) ?_
  refine lv_imul hx hb dX13_isReady_7 ?_
  refine lv_iload_n hx hb dX13_isReady_8 rfl (lv_at hl 2 rfl) ?_
  refine lv_iadd hx hb dX13_isReady_9 ?_
  obtain ⟨g_1, hF⟩ := og_some hF
  refine ml_15 hC hH g_1 dX13_isReady_10 ?_
  refine lv_if_ne (tgt := 38) hx hb dX13_isReady_11 (by decide) (fun c_2 => ?_) (fun c_2 => ?_)
  · rw [if_neg c_2] at hF
    refine lv_iconst (v := 0) hx hb dX13_isReady_38 (by decide) ?_
    exact mr_z hC hH hr rfl hF dX13_isReady_39 hlocks
  · rw [if_pos c_2] at hF
    refine lv_aload_n hx hb dX13_isReady_14 rfl (lv_at hl 0 rfl) ?_
    refine lv_iload_n hx hb dX13_isReady_15 rfl (lv_at hl 1 rfl) ?_
    refine lv_iload_n hx hb dX13_isReady_16 rfl (lv_at hl 2 rfl) ?_
    refine lv_iconst (v := 0) hx hb dX13_isReady_17 (by decide) ?_
    obtain ⟨r_3, u_4, h_5, hF⟩ := ob_some hF
    refine mcV_i (As := [.int a0, .int a1, .int 0]) (rest := []) hC hH (m_sideOf l G Z Q u u_4 r_3 a0 a1 0 _ h_5) kwX13_sideOf kVX13_sideOf ⟨Nat.le_of_ble_eq_true rfl, Nat.le_of_ble_eq_true rfl⟩ rfl hl.1 rfl (Nat.le_of_ble_eq_true rfl) dX13_isReady_18 (fun H locs hH => ?_)
    refine lv_if_lt (tgt := 38) hx hb dX13_isReady_21 (by decide) (fun c_6 => ?_) (fun c_6 => ?_)
    · rw [if_pos c_6] at hF
      refine lv_iconst (v := 0) hx hb dX13_isReady_38 (by decide) ?_
      exact mr_z hC hH hr rfl hF dX13_isReady_39 hlocks
    · rw [if_neg c_6] at hF
      refine lv_aload_n hx hb dX13_isReady_24 rfl (lv_at hl 0 rfl) ?_
      refine lv_iload_n hx hb dX13_isReady_25 rfl (lv_at hl 1 rfl) ?_
      refine lv_iload_n hx hb dX13_isReady_26 rfl (lv_at hl 2 rfl) ?_
      refine lv_iconst (v := 1) hx hb dX13_isReady_27 (by decide) ?_
      obtain ⟨r_7, u_8, h_9, hF⟩ := ob_some hF
      refine mcV_i (As := [.int a0, .int a1, .int 1]) (rest := []) hC hH (m_sideOf l G Z Q u_4 u_8 r_7 a0 a1 1 _ h_9) kwX13_sideOf kVX13_sideOf ⟨Nat.le_of_ble_eq_true rfl, Nat.le_of_ble_eq_true rfl⟩ rfl hl.1 rfl (Nat.le_of_ble_eq_true rfl) dX13_isReady_28 (fun H locs hH => ?_)
      refine lv_if_lt (tgt := 38) hx hb dX13_isReady_31 (by decide) (fun c_10 => ?_) (fun c_10 => ?_)
      · rw [if_pos c_10] at hF
        refine lv_iconst (v := 0) hx hb dX13_isReady_38 (by decide) ?_
        exact mr_z hC hH hr rfl hF dX13_isReady_39 hlocks
      · rw [if_neg c_10] at hF
        refine lv_iconst (v := 1) hx hb dX13_isReady_34 (by decide) ?_
        refine lv_goto (tgt := 39) hx hb dX13_isReady_35 (by decide) ?_
        exact mr_z hC hH hr rfl hF dX13_isReady_39 hlocks
def f_joined (a0 : Int32) (a1 : Int32) (a2 : Int32) (u : MS) : Option (Int32 × MS) := (if a0 = 7 then some (a1 + a2, u) else if a0 = 8 then some (a1 - a2, u) else if a0 = 9 then (if a2 ≤ a1 then some (0, u) else some (1, u)) else if a0 = 10 then (if a2 < a1 then some (0, u) else some (1, u)) else if a0 = 11 then (if a1 ≤ a2 then some (0, u) else some (1, u)) else if a0 = 12 then (if a1 < a2 then some (0, u) else some (1, u)) else if a0 = 13 then (if a1 = a2 then some (1, u) else some (0, u)) else if a0 = 14 then (if a1 = a2 then some (0, u) else some (1, u)) else if a0 = 15 then (if a1 = 0 then some (0, u) else (if a2 = 0 then some (0, u) else some (1, u))) else (if a1 = 0 then (if a2 = 0 then some (0, u) else some (1, u)) else some (1, u)))
set_option maxHeartbeats 4000000 in
set_option maxRecDepth 100000 in
theorem m_joined (l : Launch) (G : gG) (Z : gM) (Q : Nat → Nat) (u u1 : MS) (r : Int32) (a0 : Int32) (a1 : Int32) (a2 : Int32) (sz : Nat) (hF : f_joined a0 a1 a2 u = some (r, u1)) : Met l yX13_joined (Cond.code yX13_joined cX13_joined 3 (some .int) :: wM) { frames := 0, cells := 0, slots := 0, locals := 0 } (va_Pc [.int a0, .int a1, .int a2] (mPM G Z Q u sz)) (mQi G Q u1 r sz) 0 0 (mA Q sz) := by
  refine Met.ofW (cc := cX13_joined) (maxL := 3) (ret := (some .int)) (by decide) rfl ?_
  intro p e s m args below meth c s₁ B hml hv
  obtain ⟨rfl, rfl, hP, hB, hD, hE⟩ := hv
  have hr := B.returns
  have hlocks := B.notSynchronized
  have hts := atoms_spec (ws := Cond.code yX13_joined cX13_joined 3 (some .int) :: wM) B.pre
  have hC : mX p c cX13_joined 3 s m _ G Z Q := ⟨B.exec, B.bytes, hml, findClass_of_methodNamed B.named, fun w h => hts w (List.mem_cons_of_mem _ h), hB, hE⟩
  have hx := hC.1
  have hb := hC.2.1
  have hH : mH G Q u s s.heap [] := ⟨hP, hD, va_S.rf⟩
  have hl := lv_entry ([.int a0, .int a1, .int a2]) (n := 3) (Nat.le_of_ble_eq_true rfl)
  rw [lg_entry_eq]
  generalize (lg_sl ([.int a0, .int a1, .int a2]) ++ List.replicate (3 - (lg_sl ([.int a0, .int a1, .int a2])).length) Slot.unset).toArray = ls at hl ⊢
  have hl : lv_has ls 3 [(0, .int a0), (1, .int a1), (2, .int a2)] := hl
  unfold f_joined at hF
  refine lv_iload_n hx hb dX13_joined_0 rfl (lv_at hl 0 rfl) ?_
  by_cases c_1 : a0 = 7
  · rw [if_pos c_1] at hF
    refine gx_ti (y := 7) c_1 ?_
    refine lv_tableIn (off := 51) (tgt := 52) hx hb dX13_joined_1 (by decide) (by decide) rfl (by decide) ?_
    refine lv_iload_n hx hb dX13_joined_52 rfl (lv_at hl 1 rfl) ?_
    refine lv_iload_n hx hb dX13_joined_53 rfl (lv_at hl 2 rfl) ?_
    refine lv_iadd hx hb dX13_joined_54 ?_
    exact mr_i hC hH hr hF dX13_joined_55 hlocks
  rw [if_neg c_1] at hF
  by_cases c_2 : a0 = 8
  · rw [if_pos c_2] at hF
    refine gx_ti (y := 8) c_2 ?_
    refine lv_tableIn (off := 55) (tgt := 56) hx hb dX13_joined_1 (by decide) (by decide) rfl (by decide) ?_
    refine lv_iload_n hx hb dX13_joined_56 rfl (lv_at hl 1 rfl) ?_
    refine lv_iload_n hx hb dX13_joined_57 rfl (lv_at hl 2 rfl) ?_
    refine lv_isub hx hb dX13_joined_58 ?_
    exact mr_i hC hH hr hF dX13_joined_59 hlocks
  rw [if_neg c_2] at hF
  by_cases c_3 : a0 = 9
  · rw [if_pos c_3] at hF
    refine gx_ti (y := 9) c_3 ?_
    refine lv_tableIn (off := 59) (tgt := 60) hx hb dX13_joined_1 (by decide) (by decide) rfl (by decide) ?_
    refine lv_iload_n hx hb dX13_joined_60 rfl (lv_at hl 1 rfl) ?_
    refine lv_iload_n hx hb dX13_joined_61 rfl (lv_at hl 2 rfl) ?_
    refine lv_icmp_ge (tgt := 69) hx hb dX13_joined_62 (by decide) (fun c_4 => ?_) (fun c_4 => ?_)
    · rw [if_pos c_4] at hF
      refine lv_iconst (v := 0) hx hb dX13_joined_69 (by decide) ?_
      exact mr_i hC hH hr hF dX13_joined_70 hlocks
    · rw [if_neg c_4] at hF
      refine lv_iconst (v := 1) hx hb dX13_joined_65 (by decide) ?_
      refine lv_goto (tgt := 70) hx hb dX13_joined_66 (by decide) ?_
      exact mr_i hC hH hr hF dX13_joined_70 hlocks
  rw [if_neg c_3] at hF
  by_cases c_5 : a0 = 10
  · rw [if_pos c_5] at hF
    refine gx_ti (y := 10) c_5 ?_
    refine lv_tableIn (off := 70) (tgt := 71) hx hb dX13_joined_1 (by decide) (by decide) rfl (by decide) ?_
    refine lv_iload_n hx hb dX13_joined_71 rfl (lv_at hl 1 rfl) ?_
    refine lv_iload_n hx hb dX13_joined_72 rfl (lv_at hl 2 rfl) ?_
    refine lv_icmp_gt (tgt := 80) hx hb dX13_joined_73 (by decide) (fun c_6 => ?_) (fun c_6 => ?_)
    · rw [if_pos c_6] at hF
      refine lv_iconst (v := 0) hx hb dX13_joined_80 (by decide) ?_
      exact mr_i hC hH hr hF dX13_joined_81 hlocks
    · rw [if_neg c_6] at hF
      refine lv_iconst (v := 1) hx hb dX13_joined_76 (by decide) ?_
      refine lv_goto (tgt := 81) hx hb dX13_joined_77 (by decide) ?_
      exact mr_i hC hH hr hF dX13_joined_81 hlocks
  rw [if_neg c_5] at hF
  by_cases c_7 : a0 = 11
  · rw [if_pos c_7] at hF
    refine gx_ti (y := 11) c_7 ?_
    refine lv_tableIn (off := 81) (tgt := 82) hx hb dX13_joined_1 (by decide) (by decide) rfl (by decide) ?_
    refine lv_iload_n hx hb dX13_joined_82 rfl (lv_at hl 1 rfl) ?_
    refine lv_iload_n hx hb dX13_joined_83 rfl (lv_at hl 2 rfl) ?_
    refine lv_icmp_le (tgt := 91) hx hb dX13_joined_84 (by decide) (fun c_8 => ?_) (fun c_8 => ?_)
    · rw [if_pos c_8] at hF
      refine lv_iconst (v := 0) hx hb dX13_joined_91 (by decide) ?_
      exact mr_i hC hH hr hF dX13_joined_92 hlocks
    · rw [if_neg c_8] at hF
      refine lv_iconst (v := 1) hx hb dX13_joined_87 (by decide) ?_
      refine lv_goto (tgt := 92) hx hb dX13_joined_88 (by decide) ?_
      exact mr_i hC hH hr hF dX13_joined_92 hlocks
  rw [if_neg c_7] at hF
  by_cases c_9 : a0 = 12
  · rw [if_pos c_9] at hF
    refine gx_ti (y := 12) c_9 ?_
    refine lv_tableIn (off := 92) (tgt := 93) hx hb dX13_joined_1 (by decide) (by decide) rfl (by decide) ?_
    refine lv_iload_n hx hb dX13_joined_93 rfl (lv_at hl 1 rfl) ?_
    refine lv_iload_n hx hb dX13_joined_94 rfl (lv_at hl 2 rfl) ?_
    refine lv_icmp_lt (tgt := 102) hx hb dX13_joined_95 (by decide) (fun c_10 => ?_) (fun c_10 => ?_)
    · rw [if_pos c_10] at hF
      refine lv_iconst (v := 0) hx hb dX13_joined_102 (by decide) ?_
      exact mr_i hC hH hr hF dX13_joined_103 hlocks
    · rw [if_neg c_10] at hF
      refine lv_iconst (v := 1) hx hb dX13_joined_98 (by decide) ?_
      refine lv_goto (tgt := 103) hx hb dX13_joined_99 (by decide) ?_
      exact mr_i hC hH hr hF dX13_joined_103 hlocks
  rw [if_neg c_9] at hF
  by_cases c_11 : a0 = 13
  · rw [if_pos c_11] at hF
    refine gx_ti (y := 13) c_11 ?_
    refine lv_tableIn (off := 103) (tgt := 104) hx hb dX13_joined_1 (by decide) (by decide) rfl (by decide) ?_
    refine lv_iload_n hx hb dX13_joined_104 rfl (lv_at hl 1 rfl) ?_
    refine lv_iload_n hx hb dX13_joined_105 rfl (lv_at hl 2 rfl) ?_
    refine lv_icmp_ne (tgt := 113) hx hb dX13_joined_106 (by decide) (fun c_12 => ?_) (fun c_12 => ?_)
    · rw [if_neg c_12] at hF
      refine lv_iconst (v := 0) hx hb dX13_joined_113 (by decide) ?_
      exact mr_i hC hH hr hF dX13_joined_114 hlocks
    · rw [if_pos c_12] at hF
      refine lv_iconst (v := 1) hx hb dX13_joined_109 (by decide) ?_
      refine lv_goto (tgt := 114) hx hb dX13_joined_110 (by decide) ?_
      exact mr_i hC hH hr hF dX13_joined_114 hlocks
  rw [if_neg c_11] at hF
  by_cases c_13 : a0 = 14
  · rw [if_pos c_13] at hF
    refine gx_ti (y := 14) c_13 ?_
    refine lv_tableIn (off := 114) (tgt := 115) hx hb dX13_joined_1 (by decide) (by decide) rfl (by decide) ?_
    refine lv_iload_n hx hb dX13_joined_115 rfl (lv_at hl 1 rfl) ?_
    refine lv_iload_n hx hb dX13_joined_116 rfl (lv_at hl 2 rfl) ?_
    refine lv_icmp_eq (tgt := 124) hx hb dX13_joined_117 (by decide) (fun c_14 => ?_) (fun c_14 => ?_)
    · rw [if_pos c_14] at hF
      refine lv_iconst (v := 0) hx hb dX13_joined_124 (by decide) ?_
      exact mr_i hC hH hr hF dX13_joined_125 hlocks
    · rw [if_neg c_14] at hF
      refine lv_iconst (v := 1) hx hb dX13_joined_120 (by decide) ?_
      refine lv_goto (tgt := 125) hx hb dX13_joined_121 (by decide) ?_
      exact mr_i hC hH hr hF dX13_joined_125 hlocks
  rw [if_neg c_13] at hF
  by_cases c_15 : a0 = 15
  · rw [if_pos c_15] at hF
    refine gx_ti (y := 15) c_15 ?_
    refine lv_tableIn (off := 125) (tgt := 126) hx hb dX13_joined_1 (by decide) (by decide) rfl (by decide) ?_
    refine lv_iload_n hx hb dX13_joined_126 rfl (lv_at hl 1 rfl) ?_
    refine lv_if_eq (tgt := 138) hx hb dX13_joined_127 (by decide) (fun c_16 => ?_) (fun c_16 => ?_)
    · rw [if_pos c_16] at hF
      refine lv_iconst (v := 0) hx hb dX13_joined_138 (by decide) ?_
      exact mr_i hC hH hr hF dX13_joined_139 hlocks
    · rw [if_neg c_16] at hF
      refine lv_iload_n hx hb dX13_joined_130 rfl (lv_at hl 2 rfl) ?_
      refine lv_if_eq (tgt := 138) hx hb dX13_joined_131 (by decide) (fun c_17 => ?_) (fun c_17 => ?_)
      · rw [if_pos c_17] at hF
        refine lv_iconst (v := 0) hx hb dX13_joined_138 (by decide) ?_
        exact mr_i hC hH hr hF dX13_joined_139 hlocks
      · rw [if_neg c_17] at hF
        refine lv_iconst (v := 1) hx hb dX13_joined_134 (by decide) ?_
        refine lv_goto (tgt := 139) hx hb dX13_joined_135 (by decide) ?_
        exact mr_i hC hH hr hF dX13_joined_139 hlocks
  rw [if_neg c_15] at hF
  refine lv_tableOut (tgt := 140) hx hb dX13_joined_1 (by have q0 := gl_ne c_1 (a := 7) (by decide); have q1 := gl_ne c_2 (a := 8) (by decide); have q2 := gl_ne c_3 (a := 9) (by decide); have q3 := gl_ne c_5 (a := 10) (by decide); have q4 := gl_ne c_7 (a := 11) (by decide); have q5 := gl_ne c_9 (a := 12) (by decide); have q6 := gl_ne c_11 (a := 13) (by decide); have q7 := gl_ne c_13 (a := 14) (by decide); have q8 := gl_ne c_15 (a := 15) (by decide); omega) (by decide) ?_
  refine lv_iload_n hx hb dX13_joined_140 rfl (lv_at hl 1 rfl) ?_
  refine lv_if_ne (tgt := 148) hx hb dX13_joined_141 (by decide) (fun c_18 => ?_) (fun c_18 => ?_)
  · rw [if_neg c_18] at hF
    refine lv_iconst (v := 1) hx hb dX13_joined_148 (by decide) ?_
    refine lv_goto (tgt := 153) hx hb dX13_joined_149 (by decide) ?_
    exact mr_i hC hH hr hF dX13_joined_153 hlocks
  · rw [if_pos c_18] at hF
    refine lv_iload_n hx hb dX13_joined_144 rfl (lv_at hl 2 rfl) ?_
    refine lv_if_eq (tgt := 152) hx hb dX13_joined_145 (by decide) (fun c_19 => ?_) (fun c_19 => ?_)
    · rw [if_pos c_19] at hF
      refine lv_iconst (v := 0) hx hb dX13_joined_152 (by decide) ?_
      exact mr_i hC hH hr hF dX13_joined_153 hlocks
    · rw [if_neg c_19] at hF
      refine lv_iconst (v := 1) hx hb dX13_joined_148 (by decide) ?_
      refine lv_goto (tgt := 153) hx hb dX13_joined_149 (by decide) ?_
      exact mr_i hC hH hr hF dX13_joined_153 hlocks
def f_termOf (a0 : Int32) (a1 : Int32) (a2 : Int32) (a3 : Int32) (u : MS) : Option (Int32 × MS) := og (gi a0 300) ((if (ra u 36 a0) = 0 then og (gi a0 300) (some (ra u 37 a0, u)) else if (ra u 36 a0) = 1 then og (gi a0 300) (og (gi ((((2 * a1) + a2) * 8) + (ra u 37 a0)) 64) (some (ra u 24 ((((2 * a1) + a2) * 8) + (ra u 37 a0)), u))) else if (ra u 36 a0) = 2 then og (gi a0 300) (og (gi (((((2 * a1) + 1) - a2) * 8) + (ra u 37 a0)) 64) (some (ra u 24 (((((2 * a1) + 1) - a2) * 8) + (ra u 37 a0)), u))) else if (ra u 36 a0) = 3 then og (gi a1 4) (some (ra u 23 a1, u)) else if (ra u 36 a0) = 4 then (if a3 = 0 then some (0, u) else some (1, u)) else og (gi a1 4) ((if (ra u 25 a1) = 0 then some (0, u) else some (1, u)))))
set_option maxHeartbeats 4000000 in
set_option maxRecDepth 100000 in
theorem m_termOf (l : Launch) (G : gG) (Z : gM) (Q : Nat → Nat) (u u1 : MS) (r : Int32) (a0 : Int32) (a1 : Int32) (a2 : Int32) (a3 : Int32) (sz : Nat) (hF : f_termOf a0 a1 a2 a3 u = some (r, u1)) : Met l yX13_termOf (Cond.code yX13_termOf cX13_termOf 5 (some .int) :: wM) { frames := 0, cells := 0, slots := 0, locals := 0 } (va_Pc [.ref (Q 72), .int a0, .int a1, .int a2, .int a3] (mPM G Z Q u sz)) (mQi G Q u1 r sz) 0 0 (mA Q sz) := by
  refine Met.ofW (cc := cX13_termOf) (maxL := 5) (ret := (some .int)) (by decide) rfl ?_
  intro p e s m args below meth c s₁ B hml hv
  obtain ⟨rfl, rfl, hP, hB, hD, hE⟩ := hv
  have hr := B.returns
  have hlocks := B.notSynchronized
  have hts := atoms_spec (ws := Cond.code yX13_termOf cX13_termOf 5 (some .int) :: wM) B.pre
  have hC : mX p c cX13_termOf 5 s m _ G Z Q := ⟨B.exec, B.bytes, hml, findClass_of_methodNamed B.named, fun w h => hts w (List.mem_cons_of_mem _ h), hB, hE⟩
  have hx := hC.1
  have hb := hC.2.1
  have hH : mH G Q u s s.heap [] := ⟨hP, hD, va_S.rf⟩
  have hl := lv_entry ([.ref (Q 72), .int a0, .int a1, .int a2, .int a3]) (n := 5) (Nat.le_of_ble_eq_true rfl)
  rw [lg_entry_eq]
  generalize (lg_sl ([.ref (Q 72), .int a0, .int a1, .int a2, .int a3]) ++ List.replicate (5 - (lg_sl ([.ref (Q 72), .int a0, .int a1, .int a2, .int a3])).length) Slot.unset).toArray = ls at hl ⊢
  have hl : lv_has ls 5 [(0, .ref (Q 72)), (1, .int a0), (2, .int a1), (3, .int a2), (4, .int a3)] := hl
  unfold f_termOf at hF
  refine lv_aload_n hx hb dX13_termOf_0 rfl (lv_at hl 0 rfl) ?_
  refine mg_36 hC hH dX13_termOf_1 ?_
  refine lv_iload_n hx hb dX13_termOf_4 rfl (lv_at hl 1 rfl) ?_
  obtain ⟨g_1, hF⟩ := og_some hF
  refine ml_36 hC hH g_1 dX13_termOf_5 ?_
  by_cases c_2 : (ra u 36 a0) = 0
  · rw [if_pos c_2] at hF
    refine gx_ti (y := 0) c_2 ?_
    refine lv_tableIn (off := 34) (tgt := 40) hx hb dX13_termOf_6 (by decide) (by decide) rfl (by decide) ?_
    refine lv_aload_n hx hb dX13_termOf_40 rfl (lv_at hl 0 rfl) ?_
    refine mg_37 hC hH dX13_termOf_41 ?_
    refine lv_iload_n hx hb dX13_termOf_44 rfl (lv_at hl 1 rfl) ?_
    obtain ⟨g_3, hF⟩ := og_some hF
    refine ml_37 hC hH g_3 dX13_termOf_45 ?_
    exact mr_i hC hH hr hF dX13_termOf_46 hlocks
  rw [if_neg c_2] at hF
  by_cases c_4 : (ra u 36 a0) = 1
  · rw [if_pos c_4] at hF
    refine gx_ti (y := 1) c_4 ?_
    refine lv_tableIn (off := 41) (tgt := 47) hx hb dX13_termOf_6 (by decide) (by decide) rfl (by decide) ?_
    refine lv_aload_n hx hb dX13_termOf_47 rfl (lv_at hl 0 rfl) ?_
    refine mg_24 hC hH dX13_termOf_48 ?_
    refine lv_iconst (v := 2) hx hb dX13_termOf_51 (by decide) ?_
    refine lv_iload_n hx hb dX13_termOf_52 rfl (lv_at hl 2 rfl) ?_
    refine lv_imul hx hb dX13_termOf_53 ?_
    refine lv_iload_n hx hb dX13_termOf_54 rfl (lv_at hl 3 rfl) ?_
    refine lv_iadd hx hb dX13_termOf_55 ?_
    refine lv_bipush (v := 8) hx hb dX13_termOf_56 (by decide) ?_
    refine lv_imul hx hb dX13_termOf_58 ?_
    refine lv_aload_n hx hb dX13_termOf_59 rfl (lv_at hl 0 rfl) ?_
    refine mg_37 hC hH dX13_termOf_60 ?_
    refine lv_iload_n hx hb dX13_termOf_63 rfl (lv_at hl 1 rfl) ?_
    obtain ⟨g_5, hF⟩ := og_some hF
    refine ml_37 hC hH g_5 dX13_termOf_64 ?_
    refine lv_iadd hx hb dX13_termOf_65 ?_
    obtain ⟨g_6, hF⟩ := og_some hF
    refine ml_24 hC hH g_6 dX13_termOf_66 ?_
    exact mr_i hC hH hr hF dX13_termOf_67 hlocks
  rw [if_neg c_4] at hF
  by_cases c_7 : (ra u 36 a0) = 2
  · rw [if_pos c_7] at hF
    refine gx_ti (y := 2) c_7 ?_
    refine lv_tableIn (off := 62) (tgt := 68) hx hb dX13_termOf_6 (by decide) (by decide) rfl (by decide) ?_
    refine lv_aload_n hx hb dX13_termOf_68 rfl (lv_at hl 0 rfl) ?_
    refine mg_24 hC hH dX13_termOf_69 ?_
    refine lv_iconst (v := 2) hx hb dX13_termOf_72 (by decide) ?_
    refine lv_iload_n hx hb dX13_termOf_73 rfl (lv_at hl 2 rfl) ?_
    refine lv_imul hx hb dX13_termOf_74 ?_
    refine lv_iconst (v := 1) hx hb dX13_termOf_75 (by decide) ?_
    refine lv_iadd hx hb dX13_termOf_76 ?_
    refine lv_iload_n hx hb dX13_termOf_77 rfl (lv_at hl 3 rfl) ?_
    refine lv_isub hx hb dX13_termOf_78 ?_
    refine lv_bipush (v := 8) hx hb dX13_termOf_79 (by decide) ?_
    refine lv_imul hx hb dX13_termOf_81 ?_
    refine lv_aload_n hx hb dX13_termOf_82 rfl (lv_at hl 0 rfl) ?_
    refine mg_37 hC hH dX13_termOf_83 ?_
    refine lv_iload_n hx hb dX13_termOf_86 rfl (lv_at hl 1 rfl) ?_
    obtain ⟨g_8, hF⟩ := og_some hF
    refine ml_37 hC hH g_8 dX13_termOf_87 ?_
    refine lv_iadd hx hb dX13_termOf_88 ?_
    obtain ⟨g_9, hF⟩ := og_some hF
    refine ml_24 hC hH g_9 dX13_termOf_89 ?_
    exact mr_i hC hH hr hF dX13_termOf_90 hlocks
  rw [if_neg c_7] at hF
  by_cases c_10 : (ra u 36 a0) = 3
  · rw [if_pos c_10] at hF
    refine gx_ti (y := 3) c_10 ?_
    refine lv_tableIn (off := 85) (tgt := 91) hx hb dX13_termOf_6 (by decide) (by decide) rfl (by decide) ?_
    refine lv_aload_n hx hb dX13_termOf_91 rfl (lv_at hl 0 rfl) ?_
    refine mg_23 hC hH dX13_termOf_92 ?_
    refine lv_iload_n hx hb dX13_termOf_95 rfl (lv_at hl 2 rfl) ?_
    obtain ⟨g_11, hF⟩ := og_some hF
    refine ml_23 hC hH g_11 dX13_termOf_96 ?_
    exact mr_i hC hH hr hF dX13_termOf_97 hlocks
  rw [if_neg c_10] at hF
  by_cases c_12 : (ra u 36 a0) = 4
  · rw [if_pos c_12] at hF
    refine gx_ti (y := 4) c_12 ?_
    refine lv_tableIn (off := 92) (tgt := 98) hx hb dX13_termOf_6 (by decide) (by decide) rfl (by decide) ?_
    refine lv_iload hx hb dX13_termOf_98 (lv_at hl 4 rfl) ?_
    refine lv_if_eq (tgt := 107) hx hb dX13_termOf_100 (by decide) (fun c_13 => ?_) (fun c_13 => ?_)
    · rw [if_pos c_13] at hF
      refine lv_iconst (v := 0) hx hb dX13_termOf_107 (by decide) ?_
      exact mr_i hC hH hr hF dX13_termOf_108 hlocks
    · rw [if_neg c_13] at hF
      refine lv_iconst (v := 1) hx hb dX13_termOf_103 (by decide) ?_
      refine lv_goto (tgt := 108) hx hb dX13_termOf_104 (by decide) ?_
      exact mr_i hC hH hr hF dX13_termOf_108 hlocks
  rw [if_neg c_12] at hF
  refine lv_tableOut (tgt := 109) hx hb dX13_termOf_6 (by have q0 := gl_ne c_2 (a := 0) (by decide); have q1 := gl_ne c_4 (a := 1) (by decide); have q2 := gl_ne c_7 (a := 2) (by decide); have q3 := gl_ne c_10 (a := 3) (by decide); have q4 := gl_ne c_12 (a := 4) (by decide); omega) (by decide) ?_
  refine lv_aload_n hx hb dX13_termOf_109 rfl (lv_at hl 0 rfl) ?_
  refine mg_25 hC hH dX13_termOf_110 ?_
  refine lv_iload_n hx hb dX13_termOf_113 rfl (lv_at hl 2 rfl) ?_
  obtain ⟨g_14, hF⟩ := og_some hF
  refine ml_25 hC hH g_14 dX13_termOf_114 ?_
  refine lv_if_eq (tgt := 122) hx hb dX13_termOf_115 (by decide) (fun c_15 => ?_) (fun c_15 => ?_)
  · rw [if_pos c_15] at hF
    refine lv_iconst (v := 0) hx hb dX13_termOf_122 (by decide) ?_
    exact mr_i hC hH hr hF dX13_termOf_123 hlocks
  · rw [if_neg c_15] at hF
    refine lv_iconst (v := 1) hx hb dX13_termOf_118 (by decide) ?_
    refine lv_goto (tgt := 123) hx hb dX13_termOf_119 (by decide) ?_
    exact mr_i hC hH hr hF dX13_termOf_123 hlocks
def lp_holds_11 : Nat → Int32 → Int32 → Int32 → Int32 → Int32 → Int32 → MS → (Int32 → Int32 → Int32 → Int32 → Int32 → Int32 → MS → Option (Int32 × MS)) → Option (Int32 × MS)
  | 0, _, _, _, _, _, _, _, _ => none
  | n11 + 1, v1, v2, v3, v4, v5, v6, u, K11_143 => og (gi (v1 + 1) 21) ((if (ra u 34 (v1 + 1)) ≤ v6 then K11_143 v1 v2 v3 v4 v5 v6 u else og (gi v6 300) ((if 5 < (ra u 36 v6) then og (gi v6 300) ((if (ra u 36 v6) = 6 then og (gi (v5 - 1) 301) ((if (ra u 38 (v5 - 1)) = 0 then og (gi (v5 - 1) 301) (lu (wa u 38 (v5 - 1) 1) (fun u_31 => li (v6 + 1) (fun x_33 => lp_holds_11 n11 v1 v2 v3 v4 v5 x_33 u_31 K11_143))) else og (gi (v5 - 1) 301) (lu (wa u 38 (v5 - 1) 0) (fun u_26 => li (v6 + 1) (fun x_28 => lp_holds_11 n11 v1 v2 v3 v4 v5 x_28 u_26 K11_143))))) else li (v5 + (-1)) (fun x_10 => og (gi v6 300) (og (gi (x_10 - 1) 301) (og (gi x_10 301) (ob (f_joined (ra u 36 v6) (ra u 38 (x_10 - 1)) (ra u 38 x_10) u) (fun r_15 u_16 => og (gi (x_10 - 1) 301) (lu (wa u_16 38 (x_10 - 1) r_15) (fun u_19 => li (v6 + 1) (fun x_21 => lp_holds_11 n11 v1 v2 v3 v4 x_10 x_21 u_19 K11_143)))))))))) else ob (f_termOf v6 v2 v3 v4 u) (fun r_35 u_36 => og (gi v5 301) (lu (wa u_36 38 v5 r_35) (fun u_39 => li (v5 + 1) (fun x_41 => li (v6 + 1) (fun x_43 => lp_holds_11 n11 v1 v2 v3 v4 x_41 x_43 u_39 K11_143)))))))))
def f_holds (a0 : Int32) (a1 : Int32) (a2 : Int32) (a3 : Int32) (u : MS) : Option (Int32 × MS) := og (gi a0 21) (li (ra u 34 a0) (fun x_2 => lp_holds_11 fuel a0 a1 a2 a3 0 x_2 u (fun v1 v2 v3 v4 v5 v6 u => og (gi 0 301) ((if (ra u 38 0) = 0 then some (0, u) else some (1, u))))))
set_option maxHeartbeats 4000000 in
set_option maxRecDepth 100000 in
theorem m_holds (l : Launch) (G : gG) (Z : gM) (Q : Nat → Nat) (u u1 : MS) (r : Int32) (a0 : Int32) (a1 : Int32) (a2 : Int32) (a3 : Int32) (sz : Nat) (hF : f_holds a0 a1 a2 a3 u = some (r, u1)) : Met l yX13_holds (Cond.code yX13_holds cX13_holds 7 (some .boolean) :: wM) { frames := 1, cells := 0, slots := 0, locals := 24 } (va_Pc [.ref (Q 72), .int a0, .int a1, .int a2, .int a3] (mPM G Z Q u sz)) (mQi G Q u1 r sz) 0 0 (mA Q sz) := by
  refine Met.ofW (cc := cX13_holds) (maxL := 7) (ret := (some .boolean)) (by decide) rfl ?_
  intro p e s m args below meth c s₁ B hml hv
  obtain ⟨rfl, rfl, hP, hB, hD, hE⟩ := hv
  have hr := B.returns
  have hlocks := B.notSynchronized
  have hts := atoms_spec (ws := Cond.code yX13_holds cX13_holds 7 (some .boolean) :: wM) B.pre
  have hC : mX p c cX13_holds 7 s m _ G Z Q := ⟨B.exec, B.bytes, hml, findClass_of_methodNamed B.named, fun w h => hts w (List.mem_cons_of_mem _ h), hB, hE⟩
  have hx := hC.1
  have hb := hC.2.1
  have hH : mH G Q u s s.heap [] := ⟨hP, hD, va_S.rf⟩
  have hl := lv_entry ([.ref (Q 72), .int a0, .int a1, .int a2, .int a3]) (n := 7) (Nat.le_of_ble_eq_true rfl)
  rw [lg_entry_eq]
  generalize (lg_sl ([.ref (Q 72), .int a0, .int a1, .int a2, .int a3]) ++ List.replicate (7 - (lg_sl ([.ref (Q 72), .int a0, .int a1, .int a2, .int a3])).length) Slot.unset).toArray = ls at hl ⊢
  have hl : lv_has ls 7 [(0, .ref (Q 72)), (1, .int a0), (2, .int a1), (3, .int a2), (4, .int a3)] := hl
  unfold f_holds at hF
  refine lv_iconst (v := 0) hx hb dX13_holds_0 (by decide) ?_
  refine lv_istore (lv' := [(5, .int 0), (0, .ref (Q 72)), (1, .int a0), (2, .int a1), (3, .int a2), (4, .int a3)]) hx hb dX13_holds_1 hl (by decide) rfl (fun ls hl => ?_)
  refine lv_aload_n hx hb dX13_holds_3 rfl (lv_at hl 1 rfl) ?_
  refine mg_34 hC hH dX13_holds_4 ?_
  refine lv_iload_n hx hb dX13_holds_7 rfl (lv_at hl 2 rfl) ?_
  obtain ⟨g_1, hF⟩ := og_some hF
  refine ml_34 hC hH g_1 dX13_holds_8 ?_
  obtain ⟨x_2, e_3, hF⟩ := li_some hF
  refine gx_ti e_3 ?_
  refine lv_istore (lv' := [(6, .int x_2), (5, .int 0), (0, .ref (Q 72)), (1, .int a0), (2, .int a1), (3, .int a2), (4, .int a3)]) hx hb dX13_holds_9 hl (by decide) rfl (fun ls hl => ?_)
  have hL11 : ∀ (K11_143 : Int32 → Int32 → Int32 → Int32 → Int32 → Int32 → MS → Option (Int32 × MS)), (∀ (v1 v2 v3 v4 v5 v6 : Int32) (u : MS) (H : Heap) (locs : List Loc) (ls : Array Slot), lv_has ls 7 [(0, .ref (Q 72)), (1, .int v1), (2, .int v2), (3, .int v3), (4, .int v4), (5, .int v5), (6, .int v6)] → mH G Q u s H locs → K11_143 v1 v2 v3 v4 v5 v6 u = some ((r, u1)) → W p l e (headSpec (Cond.code yX13_holds cX13_holds 7 (some .boolean) :: wM) { frames := 1, cells := 0, slots := 0, locals := 24 }).room s m [.ref (Q 72), .int a0, .int a1, .int a2, .int a3].toArray below meth c H locs 0 0 (MQ below (mQi G Q u1 r s.heap.size) [.ref (Q 72), .int a0, .int a1, .int a2, .int a3].toArray s 0 0 (mA Q s.heap.size)) (F0 m 143 ls [])) → ∀ (n11 : Nat) (v1 v2 v3 v4 v5 v6 : Int32) (u : MS) (H : Heap) (locs : List Loc) (ls : Array Slot), lv_has ls 7 [(0, .ref (Q 72)), (1, .int v1), (2, .int v2), (3, .int v3), (4, .int v4), (5, .int v5), (6, .int v6)] → mH G Q u s H locs → lp_holds_11 n11 v1 v2 v3 v4 v5 v6 u K11_143 = some ((r, u1)) → W p l e (headSpec (Cond.code yX13_holds cX13_holds 7 (some .boolean) :: wM) { frames := 1, cells := 0, slots := 0, locals := 24 }).room s m [.ref (Q 72), .int a0, .int a1, .int a2, .int a3].toArray below meth c H locs 0 0 (MQ below (mQi G Q u1 r s.heap.size) [.ref (Q 72), .int a0, .int a1, .int a2, .int a3].toArray s 0 0 (mA Q s.heap.size)) (F0 m 11 ls []) := by
    intro K11_143 hK11_143 n11
    induction n11 with
    | zero => intro v1 v2 v3 v4 v5 v6 u H locs ls hl hH hF; cases hF
    | succ n11 ih11 =>
      intro v1 v2 v3 v4 v5 v6 u H locs ls hl hH hF
      unfold lp_holds_11 at hF
      refine lv_iload hx hb dX13_holds_11 (lv_at hl 6 rfl) ?_
      refine lv_aload_n hx hb dX13_holds_13 rfl (lv_at hl 0 rfl) ?_
      refine mg_34 hC hH dX13_holds_14 ?_
      refine lv_iload_n hx hb dX13_holds_17 rfl (lv_at hl 1 rfl) ?_
      refine lv_iconst (v := 1) hx hb dX13_holds_18 (by decide) ?_
      refine lv_iadd hx hb dX13_holds_19 ?_
      obtain ⟨g_4, hF⟩ := og_some hF
      refine ml_34 hC hH g_4 dX13_holds_20 ?_
      refine lv_icmp_ge (tgt := 143) hx hb dX13_holds_21 (by decide) (fun c_5 => ?_) (fun c_5 => ?_)
      · rw [if_pos c_5] at hF
        exact hK11_143 v1 v2 v3 v4 v5 v6 u _ _ _ (lv_sub hl [0, 1, 2, 3, 4, 5, 6] rfl) hH hF
      · rw [if_neg c_5] at hF
        refine lv_aload_n hx hb dX13_holds_24 rfl (lv_at hl 0 rfl) ?_
        refine mg_36 hC hH dX13_holds_25 ?_
        refine lv_iload hx hb dX13_holds_28 (lv_at hl 6 rfl) ?_
        obtain ⟨g_6, hF⟩ := og_some hF
        refine ml_36 hC hH g_6 dX13_holds_30 ?_
        refine lv_iconst (v := 5) hx hb dX13_holds_31 (by decide) ?_
        refine lv_icmp_gt (tgt := 58) hx hb dX13_holds_32 (by decide) (fun c_7 => ?_) (fun c_7 => ?_)
        · rw [if_pos c_7] at hF
          refine lv_aload_n hx hb dX13_holds_58 rfl (lv_at hl 0 rfl) ?_
          refine mg_36 hC hH dX13_holds_59 ?_
          refine lv_iload hx hb dX13_holds_62 (lv_at hl 6 rfl) ?_
          obtain ⟨g_8, hF⟩ := og_some hF
          refine ml_36 hC hH g_8 dX13_holds_64 ?_
          refine lv_bipush (v := 6) hx hb dX13_holds_65 (by decide) ?_
          refine lv_icmp_ne (tgt := 99) hx hb dX13_holds_67 (by decide) (fun c_9 => ?_) (fun c_9 => ?_)
          · rw [if_neg c_9] at hF
            obtain ⟨x_10, e_11, hF⟩ := li_some hF
            refine lv_iinc (v := x_10) (lv' := [(5, .int x_10), (0, .ref (Q 72)), (1, .int v1), (2, .int v2), (3, .int v3), (4, .int v4), (6, .int v6)]) hx hb dX13_holds_99 hl (k := 5) rfl e_11 (by decide) rfl (fun ls hl => ?_)
            refine lv_aload_n hx hb dX13_holds_102 rfl (lv_at hl 1 rfl) ?_
            refine mg_38 hC hH dX13_holds_103 ?_
            refine lv_iload hx hb dX13_holds_106 (lv_at hl 0 rfl) ?_
            refine lv_iconst (v := 1) hx hb dX13_holds_108 (by decide) ?_
            refine lv_isub hx hb dX13_holds_109 ?_
            refine lv_aload_n hx hb dX13_holds_110 rfl (lv_at hl 1 rfl) ?_
            refine mg_36 hC hH dX13_holds_111 ?_
            refine lv_iload hx hb dX13_holds_114 (lv_at hl 6 rfl) ?_
            obtain ⟨g_12, hF⟩ := og_some hF
            refine ml_36 hC hH g_12 dX13_holds_116 ?_
            refine lv_aload_n hx hb dX13_holds_117 rfl (lv_at hl 1 rfl) ?_
            refine mg_38 hC hH dX13_holds_118 ?_
            refine lv_iload hx hb dX13_holds_121 (lv_at hl 0 rfl) ?_
            refine lv_iconst (v := 1) hx hb dX13_holds_123 (by decide) ?_
            refine lv_isub hx hb dX13_holds_124 ?_
            obtain ⟨g_13, hF⟩ := og_some hF
            refine ml_38 hC hH g_13 dX13_holds_125 ?_
            refine lv_aload_n hx hb dX13_holds_126 rfl (lv_at hl 1 rfl) ?_
            refine mg_38 hC hH dX13_holds_127 ?_
            refine lv_iload hx hb dX13_holds_130 (lv_at hl 0 rfl) ?_
            obtain ⟨g_14, hF⟩ := og_some hF
            refine ml_38 hC hH g_14 dX13_holds_132 ?_
            obtain ⟨r_15, u_16, h_17, hF⟩ := ob_some hF
            refine mcS_i (As := [.int (ra u 36 v6), .int (ra u 38 (x_10 - 1)), .int (ra u 38 x_10)]) (rest := [.int (x_10 - 1), .ref (Q 38)]) hC hH (m_joined l G Z Q u u_16 r_15 (ra u 36 v6) (ra u 38 (x_10 - 1)) (ra u 38 x_10) _ h_17) kwX13_joined kVX13_joined ⟨Nat.le_of_ble_eq_true rfl, Nat.le_of_ble_eq_true rfl⟩ rfl hl.1 rfl (Nat.le_of_ble_eq_true rfl) dX13_holds_133 (fun H locs hH => ?_)
            obtain ⟨g_18, hF⟩ := og_some hF
            obtain ⟨u_19, e_20, hF⟩ := lu_some hF
            refine ms_38 hC hH e_20 g_18 dX13_holds_136 (fun H locs hH => ?_)
            obtain ⟨x_21, e_22, hF⟩ := li_some hF
            refine lv_iinc (v := x_21) (lv' := [(6, .int x_21), (5, .int x_10), (0, .ref (Q 72)), (1, .int v1), (2, .int v2), (3, .int v3), (4, .int v4)]) hx hb dX13_holds_137 hl (k := 6) rfl e_22 (by decide) rfl (fun ls hl => ?_)
            refine lv_goto (tgt := 11) hx hb dX13_holds_140 (by decide) ?_
            exact ih11 v1 v2 v3 v4 x_10 x_21 u_19 _ _ _ (lv_sub hl [2, 3, 4, 5, 6, 1, 0] rfl) hH hF
          · rw [if_pos c_9] at hF
            refine lv_aload_n hx hb dX13_holds_70 rfl (lv_at hl 0 rfl) ?_
            refine mg_38 hC hH dX13_holds_71 ?_
            refine lv_iload hx hb dX13_holds_74 (lv_at hl 5 rfl) ?_
            refine lv_iconst (v := 1) hx hb dX13_holds_76 (by decide) ?_
            refine lv_isub hx hb dX13_holds_77 ?_
            refine lv_aload_n hx hb dX13_holds_78 rfl (lv_at hl 0 rfl) ?_
            refine mg_38 hC hH dX13_holds_79 ?_
            refine lv_iload hx hb dX13_holds_82 (lv_at hl 5 rfl) ?_
            refine lv_iconst (v := 1) hx hb dX13_holds_84 (by decide) ?_
            refine lv_isub hx hb dX13_holds_85 ?_
            obtain ⟨g_23, hF⟩ := og_some hF
            refine ml_38 hC hH g_23 dX13_holds_86 ?_
            refine lv_if_ne (tgt := 94) hx hb dX13_holds_87 (by decide) (fun c_24 => ?_) (fun c_24 => ?_)
            · rw [if_neg c_24] at hF
              refine lv_iconst (v := 0) hx hb dX13_holds_94 (by decide) ?_
              obtain ⟨g_25, hF⟩ := og_some hF
              obtain ⟨u_26, e_27, hF⟩ := lu_some hF
              refine ms_38 hC hH e_27 g_25 dX13_holds_95 (fun H locs hH => ?_)
              refine lv_goto (tgt := 137) hx hb dX13_holds_96 (by decide) ?_
              obtain ⟨x_28, e_29, hF⟩ := li_some hF
              refine lv_iinc (v := x_28) (lv' := [(6, .int x_28), (0, .ref (Q 72)), (1, .int v1), (2, .int v2), (3, .int v3), (4, .int v4), (5, .int v5)]) hx hb dX13_holds_137 hl (k := 6) rfl e_29 (by decide) rfl (fun ls hl => ?_)
              refine lv_goto (tgt := 11) hx hb dX13_holds_140 (by decide) ?_
              exact ih11 v1 v2 v3 v4 v5 x_28 u_26 _ _ _ (lv_sub hl [1, 2, 3, 4, 5, 6, 0] rfl) hH hF
            · rw [if_pos c_24] at hF
              refine lv_iconst (v := 1) hx hb dX13_holds_90 (by decide) ?_
              refine lv_goto (tgt := 95) hx hb dX13_holds_91 (by decide) ?_
              obtain ⟨g_30, hF⟩ := og_some hF
              obtain ⟨u_31, e_32, hF⟩ := lu_some hF
              refine ms_38 hC hH e_32 g_30 dX13_holds_95 (fun H locs hH => ?_)
              refine lv_goto (tgt := 137) hx hb dX13_holds_96 (by decide) ?_
              obtain ⟨x_33, e_34, hF⟩ := li_some hF
              refine lv_iinc (v := x_33) (lv' := [(6, .int x_33), (0, .ref (Q 72)), (1, .int v1), (2, .int v2), (3, .int v3), (4, .int v4), (5, .int v5)]) hx hb dX13_holds_137 hl (k := 6) rfl e_34 (by decide) rfl (fun ls hl => ?_)
              refine lv_goto (tgt := 11) hx hb dX13_holds_140 (by decide) ?_
              exact ih11 v1 v2 v3 v4 v5 x_33 u_31 _ _ _ (lv_sub hl [1, 2, 3, 4, 5, 6, 0] rfl) hH hF
        · rw [if_neg c_7] at hF
          refine lv_aload_n hx hb dX13_holds_35 rfl (lv_at hl 0 rfl) ?_
          refine mg_38 hC hH dX13_holds_36 ?_
          refine lv_iload hx hb dX13_holds_39 (lv_at hl 5 rfl) ?_
          refine lv_aload_n hx hb dX13_holds_41 rfl (lv_at hl 0 rfl) ?_
          refine lv_iload hx hb dX13_holds_42 (lv_at hl 6 rfl) ?_
          refine lv_iload_n hx hb dX13_holds_44 rfl (lv_at hl 2 rfl) ?_
          refine lv_iload_n hx hb dX13_holds_45 rfl (lv_at hl 3 rfl) ?_
          refine lv_iload hx hb dX13_holds_46 (lv_at hl 4 rfl) ?_
          obtain ⟨r_35, u_36, h_37, hF⟩ := ob_some hF
          refine mcV_i (As := [.int v6, .int v2, .int v3, .int v4]) (rest := [.int v5, .ref (Q 38)]) hC hH (m_termOf l G Z Q u u_36 r_35 v6 v2 v3 v4 _ h_37) kwX13_termOf kVX13_termOf ⟨Nat.le_of_ble_eq_true rfl, Nat.le_of_ble_eq_true rfl⟩ rfl hl.1 rfl (Nat.le_of_ble_eq_true rfl) dX13_holds_48 (fun H locs hH => ?_)
          obtain ⟨g_38, hF⟩ := og_some hF
          obtain ⟨u_39, e_40, hF⟩ := lu_some hF
          refine ms_38 hC hH e_40 g_38 dX13_holds_51 (fun H locs hH => ?_)
          obtain ⟨x_41, e_42, hF⟩ := li_some hF
          refine lv_iinc (v := x_41) (lv' := [(5, .int x_41), (0, .ref (Q 72)), (1, .int v1), (2, .int v2), (3, .int v3), (4, .int v4), (6, .int v6)]) hx hb dX13_holds_52 hl (k := 5) rfl e_42 (by decide) rfl (fun ls hl => ?_)
          refine lv_goto (tgt := 137) hx hb dX13_holds_55 (by decide) ?_
          obtain ⟨x_43, e_44, hF⟩ := li_some hF
          refine lv_iinc (v := x_43) (lv' := [(6, .int x_43), (5, .int x_41), (0, .ref (Q 72)), (1, .int v1), (2, .int v2), (3, .int v3), (4, .int v4)]) hx hb dX13_holds_137 hl (k := 6) rfl e_44 (by decide) rfl (fun ls hl => ?_)
          refine lv_goto (tgt := 11) hx hb dX13_holds_140 (by decide) ?_
          exact ih11 v1 v2 v3 v4 x_41 x_43 u_39 _ _ _ (lv_sub hl [2, 3, 4, 5, 6, 1, 0] rfl) hH hF
  refine hL11 _ (fun v1 v2 v3 v4 v5 v6 u H locs ls hl hH hF => ?_) fuel a0 a1 a2 a3 0 x_2 u _ _ _ (lv_sub hl [2, 3, 4, 5, 6, 1, 0] rfl) hH hF
  refine lv_aload_n hx hb dX13_holds_143 rfl (lv_at hl 0 rfl) ?_
  refine mg_38 hC hH dX13_holds_144 ?_
  refine lv_iconst (v := 0) hx hb dX13_holds_147 (by decide) ?_
  obtain ⟨g_45, hF⟩ := og_some hF
  refine ml_38 hC hH g_45 dX13_holds_148 ?_
  refine lv_if_eq (tgt := 156) hx hb dX13_holds_149 (by decide) (fun c_46 => ?_) (fun c_46 => ?_)
  · rw [if_pos c_46] at hF
    refine lv_iconst (v := 0) hx hb dX13_holds_156 (by decide) ?_
    exact mr_z hC hH hr rfl hF dX13_holds_157 hlocks
  · rw [if_neg c_46] at hF
    refine lv_iconst (v := 1) hx hb dX13_holds_152 (by decide) ?_
    refine lv_goto (tgt := 157) hx hb dX13_holds_153 (by decide) ?_
    exact mr_z hC hH hr rfl hF dX13_holds_157 hlocks
def f_byteAt (a0 : Int32) (u : MS) : Option (Int32 × MS) := (if (u.1 43) ≤ a0 then some (0, u) else og (gi a0 3000) (some ((rz u a0) &&& 255, u)))
set_option maxHeartbeats 4000000 in
set_option maxRecDepth 100000 in
theorem m_byteAt (l : Launch) (G : gG) (Z : gM) (Q : Nat → Nat) (u u1 : MS) (r : Int32) (a0 : Int32) (sz : Nat) (hF : f_byteAt a0 u = some (r, u1)) : Met l yX13_byteAt (Cond.code yX13_byteAt cX13_byteAt 2 (some .int) :: wM) { frames := 0, cells := 0, slots := 0, locals := 0 } (va_Pc [.ref (Q 72), .int a0] (mPM G Z Q u sz)) (mQi G Q u1 r sz) 0 0 (mA Q sz) := by
  refine Met.ofW (cc := cX13_byteAt) (maxL := 2) (ret := (some .int)) (by decide) rfl ?_
  intro p e s m args below meth c s₁ B hml hv
  obtain ⟨rfl, rfl, hP, hB, hD, hE⟩ := hv
  have hr := B.returns
  have hlocks := B.notSynchronized
  have hts := atoms_spec (ws := Cond.code yX13_byteAt cX13_byteAt 2 (some .int) :: wM) B.pre
  have hC : mX p c cX13_byteAt 2 s m _ G Z Q := ⟨B.exec, B.bytes, hml, findClass_of_methodNamed B.named, fun w h => hts w (List.mem_cons_of_mem _ h), hB, hE⟩
  have hx := hC.1
  have hb := hC.2.1
  have hH : mH G Q u s s.heap [] := ⟨hP, hD, va_S.rf⟩
  have hl := lv_entry ([.ref (Q 72), .int a0]) (n := 2) (Nat.le_of_ble_eq_true rfl)
  rw [lg_entry_eq]
  generalize (lg_sl ([.ref (Q 72), .int a0]) ++ List.replicate (2 - (lg_sl ([.ref (Q 72), .int a0])).length) Slot.unset).toArray = ls at hl ⊢
  have hl : lv_has ls 2 [(0, .ref (Q 72)), (1, .int a0)] := hl
  unfold f_byteAt at hF
  refine lv_iload_n hx hb dX13_byteAt_0 rfl (lv_at hl 1 rfl) ?_
  refine lv_aload_n hx hb dX13_byteAt_1 rfl (lv_at hl 0 rfl) ?_
  refine mg_43 hC hH dX13_byteAt_2 ?_
  refine lv_icmp_ge (tgt := 21) hx hb dX13_byteAt_5 (by decide) (fun c_1 => ?_) (fun c_1 => ?_)
  · rw [if_pos c_1] at hF
    refine lv_iconst (v := 0) hx hb dX13_byteAt_21 (by decide) ?_
    exact mr_i hC hH hr hF dX13_byteAt_22 hlocks
  · rw [if_neg c_1] at hF
    refine lv_aload_n hx hb dX13_byteAt_8 rfl (lv_at hl 0 rfl) ?_
    refine mg_41 hC hH dX13_byteAt_9 ?_
    refine lv_iload_n hx hb dX13_byteAt_12 rfl (lv_at hl 1 rfl) ?_
    obtain ⟨g_2, hF⟩ := og_some hF
    refine ml_src hC hH g_2 dX13_byteAt_13 ?_
    refine lv_sipush (v := 255) hx hb dX13_byteAt_14 (by decide) ?_
    refine lv_iand hx hb dX13_byteAt_17 ?_
    refine lv_goto (tgt := 22) hx hb dX13_byteAt_18 (by decide) ?_
    exact mr_i hC hH hr hF dX13_byteAt_22 hlocks
def f_isLetter (a0 : Int32) (u : MS) : Option (Int32 × MS) := (if a0 < 97 then some (0, u) else (if 122 < a0 then some (0, u) else some (1, u)))
set_option maxHeartbeats 4000000 in
set_option maxRecDepth 100000 in
theorem m_isLetter (l : Launch) (G : gG) (Z : gM) (Q : Nat → Nat) (u u1 : MS) (r : Int32) (a0 : Int32) (sz : Nat) (hF : f_isLetter a0 u = some (r, u1)) : Met l yX13_isLetter (Cond.code yX13_isLetter cX13_isLetter 1 (some .boolean) :: wM) { frames := 0, cells := 0, slots := 0, locals := 0 } (va_Pc [.int a0] (mPM G Z Q u sz)) (mQi G Q u1 r sz) 0 0 (mA Q sz) := by
  refine Met.ofW (cc := cX13_isLetter) (maxL := 1) (ret := (some .boolean)) (by decide) rfl ?_
  intro p e s m args below meth c s₁ B hml hv
  obtain ⟨rfl, rfl, hP, hB, hD, hE⟩ := hv
  have hr := B.returns
  have hlocks := B.notSynchronized
  have hts := atoms_spec (ws := Cond.code yX13_isLetter cX13_isLetter 1 (some .boolean) :: wM) B.pre
  have hC : mX p c cX13_isLetter 1 s m _ G Z Q := ⟨B.exec, B.bytes, hml, findClass_of_methodNamed B.named, fun w h => hts w (List.mem_cons_of_mem _ h), hB, hE⟩
  have hx := hC.1
  have hb := hC.2.1
  have hH : mH G Q u s s.heap [] := ⟨hP, hD, va_S.rf⟩
  have hl := lv_entry ([.int a0]) (n := 1) (Nat.le_of_ble_eq_true rfl)
  rw [lg_entry_eq]
  generalize (lg_sl ([.int a0]) ++ List.replicate (1 - (lg_sl ([.int a0])).length) Slot.unset).toArray = ls at hl ⊢
  have hl : lv_has ls 1 [(0, .int a0)] := hl
  unfold f_isLetter at hF
  refine lv_iload_n hx hb dX13_isLetter_0 rfl (lv_at hl 0 rfl) ?_
  refine lv_bipush (v := 97) hx hb dX13_isLetter_1 (by decide) ?_
  refine lv_icmp_lt (tgt := 16) hx hb dX13_isLetter_3 (by decide) (fun c_1 => ?_) (fun c_1 => ?_)
  · rw [if_pos c_1] at hF
    refine lv_iconst (v := 0) hx hb dX13_isLetter_16 (by decide) ?_
    exact mr_z hC hH hr rfl hF dX13_isLetter_17 hlocks
  · rw [if_neg c_1] at hF
    refine lv_iload_n hx hb dX13_isLetter_6 rfl (lv_at hl 0 rfl) ?_
    refine lv_bipush (v := 122) hx hb dX13_isLetter_7 (by decide) ?_
    refine lv_icmp_gt (tgt := 16) hx hb dX13_isLetter_9 (by decide) (fun c_2 => ?_) (fun c_2 => ?_)
    · rw [if_pos c_2] at hF
      refine lv_iconst (v := 0) hx hb dX13_isLetter_16 (by decide) ?_
      exact mr_z hC hH hr rfl hF dX13_isLetter_17 hlocks
    · rw [if_neg c_2] at hF
      refine lv_iconst (v := 1) hx hb dX13_isLetter_12 (by decide) ?_
      refine lv_goto (tgt := 17) hx hb dX13_isLetter_13 (by decide) ?_
      exact mr_z hC hH hr rfl hF dX13_isLetter_17 hlocks
def f_isDigit (a0 : Int32) (u : MS) : Option (Int32 × MS) := (if a0 < 48 then some (0, u) else (if 57 < a0 then some (0, u) else some (1, u)))
set_option maxHeartbeats 4000000 in
set_option maxRecDepth 100000 in
theorem m_isDigit (l : Launch) (G : gG) (Z : gM) (Q : Nat → Nat) (u u1 : MS) (r : Int32) (a0 : Int32) (sz : Nat) (hF : f_isDigit a0 u = some (r, u1)) : Met l yX13_isDigit (Cond.code yX13_isDigit cX13_isDigit 1 (some .boolean) :: wM) { frames := 0, cells := 0, slots := 0, locals := 0 } (va_Pc [.int a0] (mPM G Z Q u sz)) (mQi G Q u1 r sz) 0 0 (mA Q sz) := by
  refine Met.ofW (cc := cX13_isDigit) (maxL := 1) (ret := (some .boolean)) (by decide) rfl ?_
  intro p e s m args below meth c s₁ B hml hv
  obtain ⟨rfl, rfl, hP, hB, hD, hE⟩ := hv
  have hr := B.returns
  have hlocks := B.notSynchronized
  have hts := atoms_spec (ws := Cond.code yX13_isDigit cX13_isDigit 1 (some .boolean) :: wM) B.pre
  have hC : mX p c cX13_isDigit 1 s m _ G Z Q := ⟨B.exec, B.bytes, hml, findClass_of_methodNamed B.named, fun w h => hts w (List.mem_cons_of_mem _ h), hB, hE⟩
  have hx := hC.1
  have hb := hC.2.1
  have hH : mH G Q u s s.heap [] := ⟨hP, hD, va_S.rf⟩
  have hl := lv_entry ([.int a0]) (n := 1) (Nat.le_of_ble_eq_true rfl)
  rw [lg_entry_eq]
  generalize (lg_sl ([.int a0]) ++ List.replicate (1 - (lg_sl ([.int a0])).length) Slot.unset).toArray = ls at hl ⊢
  have hl : lv_has ls 1 [(0, .int a0)] := hl
  unfold f_isDigit at hF
  refine lv_iload_n hx hb dX13_isDigit_0 rfl (lv_at hl 0 rfl) ?_
  refine lv_bipush (v := 48) hx hb dX13_isDigit_1 (by decide) ?_
  refine lv_icmp_lt (tgt := 16) hx hb dX13_isDigit_3 (by decide) (fun c_1 => ?_) (fun c_1 => ?_)
  · rw [if_pos c_1] at hF
    refine lv_iconst (v := 0) hx hb dX13_isDigit_16 (by decide) ?_
    exact mr_z hC hH hr rfl hF dX13_isDigit_17 hlocks
  · rw [if_neg c_1] at hF
    refine lv_iload_n hx hb dX13_isDigit_6 rfl (lv_at hl 0 rfl) ?_
    refine lv_bipush (v := 57) hx hb dX13_isDigit_7 (by decide) ?_
    refine lv_icmp_gt (tgt := 16) hx hb dX13_isDigit_9 (by decide) (fun c_2 => ?_) (fun c_2 => ?_)
    · rw [if_pos c_2] at hF
      refine lv_iconst (v := 0) hx hb dX13_isDigit_16 (by decide) ?_
      exact mr_z hC hH hr rfl hF dX13_isDigit_17 hlocks
    · rw [if_neg c_2] at hF
      refine lv_iconst (v := 1) hx hb dX13_isDigit_12 (by decide) ?_
      refine lv_goto (tgt := 17) hx hb dX13_isDigit_13 (by decide) ?_
      exact mr_z hC hH hr rfl hF dX13_isDigit_17 hlocks
def f_put (a0 : Int32) (a1 : Int32) (u : MS) : Option (Int32 × MS) := og (gi (u.1 31) 300) (lu (wa u 36 (u.1 31) a0) (fun u_2 => og (gi (u_2.1 31) 300) (lu (wa u_2 37 (u_2.1 31) a1) (fun u_5 => lu (si u_5 31 ((u_5.1 31) + 1)) (fun u_7 => some (0, u_7))))))
set_option maxHeartbeats 4000000 in
set_option maxRecDepth 100000 in
theorem m_put (l : Launch) (G : gG) (Z : gM) (Q : Nat → Nat) (u u1 : MS) (r : Int32) (a0 : Int32) (a1 : Int32) (sz : Nat) (hF : f_put a0 a1 u = some (r, u1)) : Met l yX13_put (Cond.code yX13_put cX13_put 3 none :: wM) { frames := 0, cells := 0, slots := 0, locals := 0 } (va_Pc [.ref (Q 72), .int a0, .int a1] (mPM G Z Q u sz)) (mQv G Q u1 sz) 0 0 (mA Q sz) := by
  refine Met.ofW (cc := cX13_put) (maxL := 3) (ret := none) (by decide) rfl ?_
  intro p e s m args below meth c s₁ B hml hv
  obtain ⟨rfl, rfl, hP, hB, hD, hE⟩ := hv
  have hr := B.returns
  have hlocks := B.notSynchronized
  have hts := atoms_spec (ws := Cond.code yX13_put cX13_put 3 none :: wM) B.pre
  have hC : mX p c cX13_put 3 s m _ G Z Q := ⟨B.exec, B.bytes, hml, findClass_of_methodNamed B.named, fun w h => hts w (List.mem_cons_of_mem _ h), hB, hE⟩
  have hx := hC.1
  have hb := hC.2.1
  have hH : mH G Q u s s.heap [] := ⟨hP, hD, va_S.rf⟩
  have hl := lv_entry ([.ref (Q 72), .int a0, .int a1]) (n := 3) (Nat.le_of_ble_eq_true rfl)
  rw [lg_entry_eq]
  generalize (lg_sl ([.ref (Q 72), .int a0, .int a1]) ++ List.replicate (3 - (lg_sl ([.ref (Q 72), .int a0, .int a1])).length) Slot.unset).toArray = ls at hl ⊢
  have hl : lv_has ls 3 [(0, .ref (Q 72)), (1, .int a0), (2, .int a1)] := hl
  unfold f_put at hF
  refine lv_aload_n hx hb dX13_put_0 rfl (lv_at hl 0 rfl) ?_
  refine mg_36 hC hH dX13_put_1 ?_
  refine lv_aload_n hx hb dX13_put_4 rfl (lv_at hl 0 rfl) ?_
  refine mg_31 hC hH dX13_put_5 ?_
  refine lv_iload_n hx hb dX13_put_8 rfl (lv_at hl 1 rfl) ?_
  obtain ⟨g_1, hF⟩ := og_some hF
  obtain ⟨u_2, e_3, hF⟩ := lu_some hF
  refine ms_36 hC hH e_3 g_1 dX13_put_9 (fun H locs hH => ?_)
  refine lv_aload_n hx hb dX13_put_10 rfl (lv_at hl 0 rfl) ?_
  refine mg_37 hC hH dX13_put_11 ?_
  refine lv_aload_n hx hb dX13_put_14 rfl (lv_at hl 0 rfl) ?_
  refine mg_31 hC hH dX13_put_15 ?_
  refine lv_iload_n hx hb dX13_put_18 rfl (lv_at hl 2 rfl) ?_
  obtain ⟨g_4, hF⟩ := og_some hF
  obtain ⟨u_5, e_6, hF⟩ := lu_some hF
  refine ms_37 hC hH e_6 g_4 dX13_put_19 (fun H locs hH => ?_)
  refine lv_aload_n hx hb dX13_put_20 rfl (lv_at hl 0 rfl) ?_
  refine lv_dup hx hb dX13_put_21 rfl ?_
  refine mg_31 hC hH dX13_put_22 ?_
  refine lv_iconst (v := 1) hx hb dX13_put_25 (by decide) ?_
  refine lv_iadd hx hb dX13_put_26 ?_
  obtain ⟨u_7, e_8, hF⟩ := lu_some hF
  refine mp_31 hC hH e_8 dX13_put_27 (fun H locs hH => ?_)
  exact mr_v hC hH hr hF dX13_put_30 hlocks
def f_release (a0 : Int32) (u : MS) : Option (Int32 × MS) := lu (si u 51 ((u.1 51) - 1)) (fun u_1 => ob (f_put a0 0 u_1) (fun r_3 u_4 => some (0, u_4)))
set_option maxHeartbeats 4000000 in
set_option maxRecDepth 100000 in
theorem m_release (l : Launch) (G : gG) (Z : gM) (Q : Nat → Nat) (u u1 : MS) (r : Int32) (a0 : Int32) (sz : Nat) (hF : f_release a0 u = some (r, u1)) : Met l yX13_release (Cond.code yX13_release cX13_release 2 none :: wM) { frames := 1, cells := 0, slots := 0, locals := 22 } (va_Pc [.ref (Q 72), .int a0] (mPM G Z Q u sz)) (mQv G Q u1 sz) 0 0 (mA Q sz) := by
  refine Met.ofW (cc := cX13_release) (maxL := 2) (ret := none) (by decide) rfl ?_
  intro p e s m args below meth c s₁ B hml hv
  obtain ⟨rfl, rfl, hP, hB, hD, hE⟩ := hv
  have hr := B.returns
  have hlocks := B.notSynchronized
  have hts := atoms_spec (ws := Cond.code yX13_release cX13_release 2 none :: wM) B.pre
  have hC : mX p c cX13_release 2 s m _ G Z Q := ⟨B.exec, B.bytes, hml, findClass_of_methodNamed B.named, fun w h => hts w (List.mem_cons_of_mem _ h), hB, hE⟩
  have hx := hC.1
  have hb := hC.2.1
  have hH : mH G Q u s s.heap [] := ⟨hP, hD, va_S.rf⟩
  have hl := lv_entry ([.ref (Q 72), .int a0]) (n := 2) (Nat.le_of_ble_eq_true rfl)
  rw [lg_entry_eq]
  generalize (lg_sl ([.ref (Q 72), .int a0]) ++ List.replicate (2 - (lg_sl ([.ref (Q 72), .int a0])).length) Slot.unset).toArray = ls at hl ⊢
  have hl : lv_has ls 2 [(0, .ref (Q 72)), (1, .int a0)] := hl
  unfold f_release at hF
  refine lv_aload_n hx hb dX13_release_0 rfl (lv_at hl 0 rfl) ?_
  refine lv_dup hx hb dX13_release_1 rfl ?_
  refine mg_51 hC hH dX13_release_2 ?_
  refine lv_iconst (v := 1) hx hb dX13_release_5 (by decide) ?_
  refine lv_isub hx hb dX13_release_6 ?_
  obtain ⟨u_1, e_2, hF⟩ := lu_some hF
  refine mp_51 hC hH e_2 dX13_release_7 (fun H locs hH => ?_)
  refine lv_aload_n hx hb dX13_release_10 rfl (lv_at hl 0 rfl) ?_
  refine lv_iload_n hx hb dX13_release_11 rfl (lv_at hl 1 rfl) ?_
  refine lv_iconst (v := 0) hx hb dX13_release_12 (by decide) ?_
  obtain ⟨r_3, u_4, h_5, hF⟩ := ob_some hF
  refine mcV_v (As := [.int a0, .int 0]) (rest := []) hC hH (m_put l G Z Q u_1 u_4 r_3 a0 0 _ h_5) kwX13_put kVX13_put ⟨Nat.le_of_ble_eq_true rfl, Nat.le_of_ble_eq_true rfl⟩ rfl hl.1 rfl (Nat.le_of_ble_eq_true rfl) dX13_release_13 (fun H locs hH => ?_)
  exact mr_v hC hH hr hF dX13_release_16 hlocks
def lp_anew_47 : Nat → Int32 → Int32 → MS → (Int32 → Int32 → MS → Option (Int32 × MS)) → Option (Int32 × MS)
  | 0, _, _, _, _ => none
  | n47 + 1, v1, v2, u, K47_71 => (if 40 ≤ v2 then K47_71 v1 v2 u else og (gi ((40 * v1) + v2) 160) (lu (wa u 15 ((40 * v1) + v2) 0) (fun u_19 => li (v2 + 1) (fun x_21 => lp_anew_47 n47 v1 x_21 u_19 K47_71))))
def lp_anew_18 : Nat → Int32 → MS → (Int32 → MS → Option (Int32 × MS)) → Option (Int32 × MS)
  | 0, _, _, _ => none
  | n18 + 1, v1, u, K18_77 => (if 4 ≤ v1 then K18_77 v1 u else og (gi v1 4) (lu (wa u 0 v1 0) (fun u_9 => og (gi v1 4) (lu (wa u_9 1 v1 200000) (fun u_12 => og (gi v1 4) (lu (wa u_12 12 v1 0) (fun u_15 => lp_anew_47 fuel v1 0 u_15 (fun v1 v2 u => li (v1 + 1) (fun x_23 => lp_anew_18 n18 x_23 u K18_77)))))))))
def lp_anew_79 : Nat → Int32 → MS → (Int32 → MS → Option (Int32 × MS)) → Option (Int32 × MS)
  | 0, _, _, _ => none
  | n79 + 1, v1, u, K79_97 => (if 4 ≤ v1 then K79_97 v1 u else og (gi v1 4) (lu (wa u 22 v1 (-1)) (fun u_27 => li (v1 + 1) (fun x_29 => lp_anew_79 n79 x_29 u_27 K79_97))))
def f_anew  (u : MS) : Option (Int32 × MS) := lu (si u 2 0) (fun u_1 => lu (si u_1 3 0) (fun u_3 => lu (si u_3 4 10) (fun u_5 => lp_anew_18 fuel 0 u_5 (fun v1 u => lp_anew_79 fuel 0 u (fun v1 u => lu (si u 29 0) (fun u_31 => lu (si u_31 30 0) (fun u_33 => lu (si u_33 31 0) (fun u_35 => lu (si u_35 27 0) (fun u_37 => lu (si u_37 28 0) (fun u_39 => some (0, u_39)))))))))))
set_option maxHeartbeats 4000000 in
set_option maxRecDepth 100000 in
theorem m_anew (l : Launch) (G : gG) (Z : gM) (Q : Nat → Nat) (u u1 : MS) (r : Int32)  (sz : Nat) (hF : f_anew u = some (r, u1)) : Met l yX13_anew (Cond.code yX13_anew cX13_anew 3 none :: wM) { frames := 0, cells := 0, slots := 0, locals := 0 } (va_Pc [.ref (Q 72)] (mPM G Z Q u sz)) (mQv G Q u1 sz) 0 0 (mA Q sz) := by
  refine Met.ofW (cc := cX13_anew) (maxL := 3) (ret := none) (by decide) rfl ?_
  intro p e s m args below meth c s₁ B hml hv
  obtain ⟨rfl, rfl, hP, hB, hD, hE⟩ := hv
  have hr := B.returns
  have hlocks := B.notSynchronized
  have hts := atoms_spec (ws := Cond.code yX13_anew cX13_anew 3 none :: wM) B.pre
  have hC : mX p c cX13_anew 3 s m _ G Z Q := ⟨B.exec, B.bytes, hml, findClass_of_methodNamed B.named, fun w h => hts w (List.mem_cons_of_mem _ h), hB, hE⟩
  have hx := hC.1
  have hb := hC.2.1
  have hH : mH G Q u s s.heap [] := ⟨hP, hD, va_S.rf⟩
  have hl := lv_entry ([.ref (Q 72)]) (n := 3) (Nat.le_of_ble_eq_true rfl)
  rw [lg_entry_eq]
  generalize (lg_sl ([.ref (Q 72)]) ++ List.replicate (3 - (lg_sl ([.ref (Q 72)])).length) Slot.unset).toArray = ls at hl ⊢
  have hl : lv_has ls 3 [(0, .ref (Q 72))] := hl
  unfold f_anew at hF
  refine lv_aload_n hx hb dX13_anew_0 rfl (lv_at hl 0 rfl) ?_
  refine lv_iconst (v := 0) hx hb dX13_anew_1 (by decide) ?_
  obtain ⟨u_1, e_2, hF⟩ := lu_some hF
  refine mp_2 hC hH e_2 dX13_anew_2 (fun H locs hH => ?_)
  refine lv_aload_n hx hb dX13_anew_5 rfl (lv_at hl 0 rfl) ?_
  refine lv_iconst (v := 0) hx hb dX13_anew_6 (by decide) ?_
  obtain ⟨u_3, e_4, hF⟩ := lu_some hF
  refine mp_3 hC hH e_4 dX13_anew_7 (fun H locs hH => ?_)
  refine lv_aload_n hx hb dX13_anew_10 rfl (lv_at hl 0 rfl) ?_
  refine lv_bipush (v := 10) hx hb dX13_anew_11 (by decide) ?_
  obtain ⟨u_5, e_6, hF⟩ := lu_some hF
  refine mp_4 hC hH e_6 dX13_anew_13 (fun H locs hH => ?_)
  refine lv_iconst (v := 0) hx hb dX13_anew_16 (by decide) ?_
  refine lv_istore_n (lv' := [(1, .int 0), (0, .ref (Q 72))]) hx hb dX13_anew_17 rfl hl (by decide) rfl (fun ls hl => ?_)
  have hL18 : ∀ (K18_77 : Int32 → MS → Option (Int32 × MS)), (∀ (v1 : Int32) (u : MS) (H : Heap) (locs : List Loc) (ls : Array Slot), lv_has ls 3 [(0, .ref (Q 72)), (1, .int v1)] → mH G Q u s H locs → K18_77 v1 u = some ((r, u1)) → W p l e (headSpec (Cond.code yX13_anew cX13_anew 3 none :: wM) { frames := 0, cells := 0, slots := 0, locals := 0 }).room s m [.ref (Q 72)].toArray below meth c H locs 0 0 (MQ below (mQv G Q u1 s.heap.size) [.ref (Q 72)].toArray s 0 0 (mA Q s.heap.size)) (F0 m 77 ls [])) → ∀ (n18 : Nat) (v1 : Int32) (u : MS) (H : Heap) (locs : List Loc) (ls : Array Slot), lv_has ls 3 [(0, .ref (Q 72)), (1, .int v1)] → mH G Q u s H locs → lp_anew_18 n18 v1 u K18_77 = some ((r, u1)) → W p l e (headSpec (Cond.code yX13_anew cX13_anew 3 none :: wM) { frames := 0, cells := 0, slots := 0, locals := 0 }).room s m [.ref (Q 72)].toArray below meth c H locs 0 0 (MQ below (mQv G Q u1 s.heap.size) [.ref (Q 72)].toArray s 0 0 (mA Q s.heap.size)) (F0 m 18 ls []) := by
    intro K18_77 hK18_77 n18
    induction n18 with
    | zero => intro v1 u H locs ls hl hH hF; cases hF
    | succ n18 ih18 =>
      intro v1 u H locs ls hl hH hF
      unfold lp_anew_18 at hF
      refine lv_iload_n hx hb dX13_anew_18 rfl (lv_at hl 1 rfl) ?_
      refine lv_iconst (v := 4) hx hb dX13_anew_19 (by decide) ?_
      refine lv_icmp_ge (tgt := 77) hx hb dX13_anew_20 (by decide) (fun c_7 => ?_) (fun c_7 => ?_)
      · rw [if_pos c_7] at hF
        exact hK18_77 v1 u _ _ _ (lv_sub hl [0, 1] rfl) hH hF
      · rw [if_neg c_7] at hF
        refine lv_aload_n hx hb dX13_anew_23 rfl (lv_at hl 0 rfl) ?_
        refine mg_0 hC hH dX13_anew_24 ?_
        refine lv_iload_n hx hb dX13_anew_27 rfl (lv_at hl 1 rfl) ?_
        refine lv_iconst (v := 0) hx hb dX13_anew_28 (by decide) ?_
        obtain ⟨g_8, hF⟩ := og_some hF
        obtain ⟨u_9, e_10, hF⟩ := lu_some hF
        refine ms_0 hC hH e_10 g_8 dX13_anew_29 (fun H locs hH => ?_)
        refine lv_aload_n hx hb dX13_anew_30 rfl (lv_at hl 0 rfl) ?_
        refine mg_1 hC hH dX13_anew_31 ?_
        refine lv_iload_n hx hb dX13_anew_34 rfl (lv_at hl 1 rfl) ?_
        refine lv_ldc (v := 200000) hx hb hC.2.2.2.1 (hC.2.2.2.2.1 _ wma4) dX13_anew_35 ?_
        obtain ⟨g_11, hF⟩ := og_some hF
        obtain ⟨u_12, e_13, hF⟩ := lu_some hF
        refine ms_1 hC hH e_13 g_11 dX13_anew_37 (fun H locs hH => ?_)
        refine lv_aload_n hx hb dX13_anew_38 rfl (lv_at hl 0 rfl) ?_
        refine mg_12 hC hH dX13_anew_39 ?_
        refine lv_iload_n hx hb dX13_anew_42 rfl (lv_at hl 1 rfl) ?_
        refine lv_iconst (v := 0) hx hb dX13_anew_43 (by decide) ?_
        obtain ⟨g_14, hF⟩ := og_some hF
        obtain ⟨u_15, e_16, hF⟩ := lu_some hF
        refine ms_12 hC hH e_16 g_14 dX13_anew_44 (fun H locs hH => ?_)
        refine lv_iconst (v := 0) hx hb dX13_anew_45 (by decide) ?_
        refine lv_istore_n (lv' := [(2, .int 0), (0, .ref (Q 72)), (1, .int v1)]) hx hb dX13_anew_46 rfl hl (by decide) rfl (fun ls hl => ?_)
        have hL47 : ∀ (K47_71 : Int32 → Int32 → MS → Option (Int32 × MS)), (∀ (v1 v2 : Int32) (u : MS) (H : Heap) (locs : List Loc) (ls : Array Slot), lv_has ls 3 [(0, .ref (Q 72)), (1, .int v1), (2, .int v2)] → mH G Q u s H locs → K47_71 v1 v2 u = some ((r, u1)) → W p l e (headSpec (Cond.code yX13_anew cX13_anew 3 none :: wM) { frames := 0, cells := 0, slots := 0, locals := 0 }).room s m [.ref (Q 72)].toArray below meth c H locs 0 0 (MQ below (mQv G Q u1 s.heap.size) [.ref (Q 72)].toArray s 0 0 (mA Q s.heap.size)) (F0 m 71 ls [])) → ∀ (n47 : Nat) (v1 v2 : Int32) (u : MS) (H : Heap) (locs : List Loc) (ls : Array Slot), lv_has ls 3 [(0, .ref (Q 72)), (1, .int v1), (2, .int v2)] → mH G Q u s H locs → lp_anew_47 n47 v1 v2 u K47_71 = some ((r, u1)) → W p l e (headSpec (Cond.code yX13_anew cX13_anew 3 none :: wM) { frames := 0, cells := 0, slots := 0, locals := 0 }).room s m [.ref (Q 72)].toArray below meth c H locs 0 0 (MQ below (mQv G Q u1 s.heap.size) [.ref (Q 72)].toArray s 0 0 (mA Q s.heap.size)) (F0 m 47 ls []) := by
          intro K47_71 hK47_71 n47
          induction n47 with
          | zero => intro v1 v2 u H locs ls hl hH hF; cases hF
          | succ n47 ih47 =>
            intro v1 v2 u H locs ls hl hH hF
            unfold lp_anew_47 at hF
            refine lv_iload_n hx hb dX13_anew_47 rfl (lv_at hl 2 rfl) ?_
            refine lv_bipush (v := 40) hx hb dX13_anew_48 (by decide) ?_
            refine lv_icmp_ge (tgt := 71) hx hb dX13_anew_50 (by decide) (fun c_17 => ?_) (fun c_17 => ?_)
            · rw [if_pos c_17] at hF
              exact hK47_71 v1 v2 u _ _ _ (lv_sub hl [0, 1, 2] rfl) hH hF
            · rw [if_neg c_17] at hF
              refine lv_aload_n hx hb dX13_anew_53 rfl (lv_at hl 0 rfl) ?_
              refine mg_15 hC hH dX13_anew_54 ?_
              refine lv_bipush (v := 40) hx hb dX13_anew_57 (by decide) ?_
              refine lv_iload_n hx hb dX13_anew_59 rfl (lv_at hl 1 rfl) ?_
              refine lv_imul hx hb dX13_anew_60 ?_
              refine lv_iload_n hx hb dX13_anew_61 rfl (lv_at hl 2 rfl) ?_
              refine lv_iadd hx hb dX13_anew_62 ?_
              refine lv_iconst (v := 0) hx hb dX13_anew_63 (by decide) ?_
              obtain ⟨g_18, hF⟩ := og_some hF
              obtain ⟨u_19, e_20, hF⟩ := lu_some hF
              refine ms_15 hC hH e_20 g_18 dX13_anew_64 (fun H locs hH => ?_)
              obtain ⟨x_21, e_22, hF⟩ := li_some hF
              refine lv_iinc (v := x_21) (lv' := [(2, .int x_21), (0, .ref (Q 72)), (1, .int v1)]) hx hb dX13_anew_65 hl (k := 2) rfl e_22 (by decide) rfl (fun ls hl => ?_)
              refine lv_goto (tgt := 47) hx hb dX13_anew_68 (by decide) ?_
              exact ih47 v1 x_21 u_19 _ _ _ (lv_sub hl [1, 2, 0] rfl) hH hF
        refine hL47 _ (fun v1 v2 u H locs ls hl hH hF => ?_) fuel v1 0 u_15 _ _ _ (lv_sub hl [1, 2, 0] rfl) hH hF
        obtain ⟨x_23, e_24, hF⟩ := li_some hF
        refine lv_iinc (v := x_23) (lv' := [(1, .int x_23), (0, .ref (Q 72)), (2, .int v2)]) hx hb dX13_anew_71 hl (k := 1) rfl e_24 (by decide) rfl (fun ls hl => ?_)
        refine lv_goto (tgt := 18) hx hb dX13_anew_74 (by decide) ?_
        exact ih18 x_23 u _ _ _ (lv_sub hl [1, 0] rfl) hH hF
  refine hL18 _ (fun v1 u H locs ls hl hH hF => ?_) fuel 0 u_5 _ _ _ (lv_sub hl [1, 0] rfl) hH hF
  refine lv_iconst (v := 0) hx hb dX13_anew_77 (by decide) ?_
  refine lv_istore_n (lv' := [(1, .int 0), (0, .ref (Q 72))]) hx hb dX13_anew_78 rfl hl (by decide) rfl (fun ls hl => ?_)
  have hL79 : ∀ (K79_97 : Int32 → MS → Option (Int32 × MS)), (∀ (v1 : Int32) (u : MS) (H : Heap) (locs : List Loc) (ls : Array Slot), lv_has ls 3 [(0, .ref (Q 72)), (1, .int v1)] → mH G Q u s H locs → K79_97 v1 u = some ((r, u1)) → W p l e (headSpec (Cond.code yX13_anew cX13_anew 3 none :: wM) { frames := 0, cells := 0, slots := 0, locals := 0 }).room s m [.ref (Q 72)].toArray below meth c H locs 0 0 (MQ below (mQv G Q u1 s.heap.size) [.ref (Q 72)].toArray s 0 0 (mA Q s.heap.size)) (F0 m 97 ls [])) → ∀ (n79 : Nat) (v1 : Int32) (u : MS) (H : Heap) (locs : List Loc) (ls : Array Slot), lv_has ls 3 [(0, .ref (Q 72)), (1, .int v1)] → mH G Q u s H locs → lp_anew_79 n79 v1 u K79_97 = some ((r, u1)) → W p l e (headSpec (Cond.code yX13_anew cX13_anew 3 none :: wM) { frames := 0, cells := 0, slots := 0, locals := 0 }).room s m [.ref (Q 72)].toArray below meth c H locs 0 0 (MQ below (mQv G Q u1 s.heap.size) [.ref (Q 72)].toArray s 0 0 (mA Q s.heap.size)) (F0 m 79 ls []) := by
    intro K79_97 hK79_97 n79
    induction n79 with
    | zero => intro v1 u H locs ls hl hH hF; cases hF
    | succ n79 ih79 =>
      intro v1 u H locs ls hl hH hF
      unfold lp_anew_79 at hF
      refine lv_iload_n hx hb dX13_anew_79 rfl (lv_at hl 1 rfl) ?_
      refine lv_iconst (v := 4) hx hb dX13_anew_80 (by decide) ?_
      refine lv_icmp_ge (tgt := 97) hx hb dX13_anew_81 (by decide) (fun c_25 => ?_) (fun c_25 => ?_)
      · rw [if_pos c_25] at hF
        exact hK79_97 v1 u _ _ _ (lv_sub hl [0, 1] rfl) hH hF
      · rw [if_neg c_25] at hF
        refine lv_aload_n hx hb dX13_anew_84 rfl (lv_at hl 0 rfl) ?_
        refine mg_22 hC hH dX13_anew_85 ?_
        refine lv_iload_n hx hb dX13_anew_88 rfl (lv_at hl 1 rfl) ?_
        refine lv_iconst (v := (-1)) hx hb dX13_anew_89 (by decide) ?_
        obtain ⟨g_26, hF⟩ := og_some hF
        obtain ⟨u_27, e_28, hF⟩ := lu_some hF
        refine ms_22 hC hH e_28 g_26 dX13_anew_90 (fun H locs hH => ?_)
        obtain ⟨x_29, e_30, hF⟩ := li_some hF
        refine lv_iinc (v := x_29) (lv' := [(1, .int x_29), (0, .ref (Q 72))]) hx hb dX13_anew_91 hl (k := 1) rfl e_30 (by decide) rfl (fun ls hl => ?_)
        refine lv_goto (tgt := 79) hx hb dX13_anew_94 (by decide) ?_
        exact ih79 x_29 u_27 _ _ _ (lv_sub hl [1, 0] rfl) hH hF
  refine hL79 _ (fun v1 u H locs ls hl hH hF => ?_) fuel 0 u _ _ _ (lv_sub hl [1, 0] rfl) hH hF
  refine lv_aload_n hx hb dX13_anew_97 rfl (lv_at hl 0 rfl) ?_
  refine lv_iconst (v := 0) hx hb dX13_anew_98 (by decide) ?_
  obtain ⟨u_31, e_32, hF⟩ := lu_some hF
  refine mp_29 hC hH e_32 dX13_anew_99 (fun H locs hH => ?_)
  refine lv_aload_n hx hb dX13_anew_102 rfl (lv_at hl 0 rfl) ?_
  refine lv_iconst (v := 0) hx hb dX13_anew_103 (by decide) ?_
  obtain ⟨u_33, e_34, hF⟩ := lu_some hF
  refine mp_30 hC hH e_34 dX13_anew_104 (fun H locs hH => ?_)
  refine lv_aload_n hx hb dX13_anew_107 rfl (lv_at hl 0 rfl) ?_
  refine lv_iconst (v := 0) hx hb dX13_anew_108 (by decide) ?_
  obtain ⟨u_35, e_36, hF⟩ := lu_some hF
  refine mp_31 hC hH e_36 dX13_anew_109 (fun H locs hH => ?_)
  refine lv_aload_n hx hb dX13_anew_112 rfl (lv_at hl 0 rfl) ?_
  refine lv_iconst (v := 0) hx hb dX13_anew_113 (by decide) ?_
  obtain ⟨u_37, e_38, hF⟩ := lu_some hF
  refine mp_27 hC hH e_38 dX13_anew_114 (fun H locs hH => ?_)
  refine lv_aload_n hx hb dX13_anew_117 rfl (lv_at hl 0 rfl) ?_
  refine lv_iconst (v := 0) hx hb dX13_anew_118 (by decide) ?_
  obtain ⟨u_39, e_40, hF⟩ := lu_some hF
  refine mp_28 hC hH e_40 dX13_anew_119 (fun H locs hH => ?_)
  exact mr_v hC hH hr hF dX13_anew_122 hlocks
def lp_lay_3 : Nat → Int32 → Int32 → MS → (Int32 → Int32 → MS → Option (Int32 × MS)) → Option (Int32 × MS)
  | 0, _, _, _, _ => none
  | n3 + 1, v1, v2, u, K3_36 => (if v2 < 0 then K3_36 v1 v2 u else og (gi (u.1 42) 3000) (lu (wa u 40 (u.1 42) (vp_nar .byte ((v1 >>> (v2 &&& 31)).toInt8.toInt32))) (fun u_3 => lu (si u_3 42 ((u_3.1 42) + 1)) (fun u_5 => li (v2 + (-8)) (fun x_7 => lp_lay_3 n3 v1 x_7 u_5 K3_36)))))
def f_lay (a0 : Int32) (u : MS) : Option (Int32 × MS) := lp_lay_3 fuel a0 24 u (fun v1 v2 u => some (0, u))
set_option maxHeartbeats 4000000 in
set_option maxRecDepth 100000 in
theorem m_lay (l : Launch) (G : gG) (Z : gM) (Q : Nat → Nat) (u u1 : MS) (r : Int32) (a0 : Int32) (sz : Nat) (hF : f_lay a0 u = some (r, u1)) : Met l yX13_lay (Cond.code yX13_lay cX13_lay 3 none :: wM) { frames := 0, cells := 0, slots := 0, locals := 0 } (va_Pc [.ref (Q 72), .int a0] (mPM G Z Q u sz)) (mQv G Q u1 sz) 0 0 (mA Q sz) := by
  refine Met.ofW (cc := cX13_lay) (maxL := 3) (ret := none) (by decide) rfl ?_
  intro p e s m args below meth c s₁ B hml hv
  obtain ⟨rfl, rfl, hP, hB, hD, hE⟩ := hv
  have hr := B.returns
  have hlocks := B.notSynchronized
  have hts := atoms_spec (ws := Cond.code yX13_lay cX13_lay 3 none :: wM) B.pre
  have hC : mX p c cX13_lay 3 s m _ G Z Q := ⟨B.exec, B.bytes, hml, findClass_of_methodNamed B.named, fun w h => hts w (List.mem_cons_of_mem _ h), hB, hE⟩
  have hx := hC.1
  have hb := hC.2.1
  have hH : mH G Q u s s.heap [] := ⟨hP, hD, va_S.rf⟩
  have hl := lv_entry ([.ref (Q 72), .int a0]) (n := 3) (Nat.le_of_ble_eq_true rfl)
  rw [lg_entry_eq]
  generalize (lg_sl ([.ref (Q 72), .int a0]) ++ List.replicate (3 - (lg_sl ([.ref (Q 72), .int a0])).length) Slot.unset).toArray = ls at hl ⊢
  have hl : lv_has ls 3 [(0, .ref (Q 72)), (1, .int a0)] := hl
  unfold f_lay at hF
  refine lv_bipush (v := 24) hx hb dX13_lay_0 (by decide) ?_
  refine lv_istore_n (lv' := [(2, .int 24), (0, .ref (Q 72)), (1, .int a0)]) hx hb dX13_lay_2 rfl hl (by decide) rfl (fun ls hl => ?_)
  have hL3 : ∀ (K3_36 : Int32 → Int32 → MS → Option (Int32 × MS)), (∀ (v1 v2 : Int32) (u : MS) (H : Heap) (locs : List Loc) (ls : Array Slot), lv_has ls 3 [(0, .ref (Q 72)), (1, .int v1), (2, .int v2)] → mH G Q u s H locs → K3_36 v1 v2 u = some ((r, u1)) → W p l e (headSpec (Cond.code yX13_lay cX13_lay 3 none :: wM) { frames := 0, cells := 0, slots := 0, locals := 0 }).room s m [.ref (Q 72), .int a0].toArray below meth c H locs 0 0 (MQ below (mQv G Q u1 s.heap.size) [.ref (Q 72), .int a0].toArray s 0 0 (mA Q s.heap.size)) (F0 m 36 ls [])) → ∀ (n3 : Nat) (v1 v2 : Int32) (u : MS) (H : Heap) (locs : List Loc) (ls : Array Slot), lv_has ls 3 [(0, .ref (Q 72)), (1, .int v1), (2, .int v2)] → mH G Q u s H locs → lp_lay_3 n3 v1 v2 u K3_36 = some ((r, u1)) → W p l e (headSpec (Cond.code yX13_lay cX13_lay 3 none :: wM) { frames := 0, cells := 0, slots := 0, locals := 0 }).room s m [.ref (Q 72), .int a0].toArray below meth c H locs 0 0 (MQ below (mQv G Q u1 s.heap.size) [.ref (Q 72), .int a0].toArray s 0 0 (mA Q s.heap.size)) (F0 m 3 ls []) := by
    intro K3_36 hK3_36 n3
    induction n3 with
    | zero => intro v1 v2 u H locs ls hl hH hF; cases hF
    | succ n3 ih3 =>
      intro v1 v2 u H locs ls hl hH hF
      unfold lp_lay_3 at hF
      refine lv_iload_n hx hb dX13_lay_3 rfl (lv_at hl 2 rfl) ?_
      refine lv_if_lt (tgt := 36) hx hb dX13_lay_4 (by decide) (fun c_1 => ?_) (fun c_1 => ?_)
      · rw [if_pos c_1] at hF
        exact hK3_36 v1 v2 u _ _ _ (lv_sub hl [0, 1, 2] rfl) hH hF
      · rw [if_neg c_1] at hF
        refine lv_aload_n hx hb dX13_lay_7 rfl (lv_at hl 0 rfl) ?_
        refine mg_40 hC hH dX13_lay_8 ?_
        refine lv_aload_n hx hb dX13_lay_11 rfl (lv_at hl 0 rfl) ?_
        refine mg_42 hC hH dX13_lay_12 ?_
        refine lv_iload_n hx hb dX13_lay_15 rfl (lv_at hl 1 rfl) ?_
        refine lv_iload_n hx hb dX13_lay_16 rfl (lv_at hl 2 rfl) ?_
        refine lv_ishr hx hb dX13_lay_17 ?_
        refine lv_i2b (v := (v1 >>> (v2 &&& 31)).toInt8.toInt32) hx hb dX13_lay_18 rfl ?_
        obtain ⟨g_2, hF⟩ := og_some hF
        obtain ⟨u_3, e_4, hF⟩ := lu_some hF
        refine ms_40 hC hH e_4 g_2 dX13_lay_19 (fun H locs hH => ?_)
        refine lv_aload_n hx hb dX13_lay_20 rfl (lv_at hl 0 rfl) ?_
        refine lv_dup hx hb dX13_lay_21 rfl ?_
        refine mg_42 hC hH dX13_lay_22 ?_
        refine lv_iconst (v := 1) hx hb dX13_lay_25 (by decide) ?_
        refine lv_iadd hx hb dX13_lay_26 ?_
        obtain ⟨u_5, e_6, hF⟩ := lu_some hF
        refine mp_42 hC hH e_6 dX13_lay_27 (fun H locs hH => ?_)
        obtain ⟨x_7, e_8, hF⟩ := li_some hF
        refine lv_iinc (v := x_7) (lv' := [(2, .int x_7), (0, .ref (Q 72)), (1, .int v1)]) hx hb dX13_lay_30 hl (k := 2) rfl e_8 (by decide) rfl (fun ls hl => ?_)
        refine lv_goto (tgt := 3) hx hb dX13_lay_33 (by decide) ?_
        exact ih3 v1 x_7 u_5 _ _ _ (lv_sub hl [1, 2, 0] rfl) hH hF
  refine hL3 _ (fun v1 v2 u H locs ls hl hH hF => ?_) fuel a0 24 u _ _ _ (lv_sub hl [1, 2, 0] rfl) hH hF
  exact mr_v hC hH hr hF dX13_lay_36 hlocks
def f_feed (a0 : Int32) (a1 : Int32) (a2 : Int32) (a3 : Int32) (a4 : Int32) (u : MS) : Option (Int32 × MS) := (if ((u.1 42) + 20) ≤ 3000 then ob (f_lay a0 u) (fun r_2 u_3 => ob (f_lay a1 u_3) (fun r_5 u_6 => ob (f_lay a2 u_6) (fun r_8 u_9 => ob (f_lay a3 u_9) (fun r_11 u_12 => ob (f_lay a4 u_12) (fun r_14 u_15 => some (u_15.1 42, u_15)))))) else some (-4, u))
set_option maxHeartbeats 4000000 in
set_option maxRecDepth 100000 in
theorem m_feed (l : Launch) (G : gG) (Z : gM) (Q : Nat → Nat) (u u1 : MS) (r : Int32) (a0 : Int32) (a1 : Int32) (a2 : Int32) (a3 : Int32) (a4 : Int32) (sz : Nat) (hF : f_feed a0 a1 a2 a3 a4 u = some (r, u1)) : Met l yX13_feed (Cond.code yX13_feed cX13_feed 6 (some .int) :: wM) { frames := 1, cells := 0, slots := 0, locals := 22 } (va_Pc [.ref (Q 72), .int a0, .int a1, .int a2, .int a3, .int a4] (mPM G Z Q u sz)) (mQi G Q u1 r sz) 0 0 (mA Q sz) := by
  refine Met.ofW (cc := cX13_feed) (maxL := 6) (ret := (some .int)) (by decide) rfl ?_
  intro p e s m args below meth c s₁ B hml hv
  obtain ⟨rfl, rfl, hP, hB, hD, hE⟩ := hv
  have hr := B.returns
  have hlocks := B.notSynchronized
  have hts := atoms_spec (ws := Cond.code yX13_feed cX13_feed 6 (some .int) :: wM) B.pre
  have hC : mX p c cX13_feed 6 s m _ G Z Q := ⟨B.exec, B.bytes, hml, findClass_of_methodNamed B.named, fun w h => hts w (List.mem_cons_of_mem _ h), hB, hE⟩
  have hx := hC.1
  have hb := hC.2.1
  have hH : mH G Q u s s.heap [] := ⟨hP, hD, va_S.rf⟩
  have hl := lv_entry ([.ref (Q 72), .int a0, .int a1, .int a2, .int a3, .int a4]) (n := 6) (Nat.le_of_ble_eq_true rfl)
  rw [lg_entry_eq]
  generalize (lg_sl ([.ref (Q 72), .int a0, .int a1, .int a2, .int a3, .int a4]) ++ List.replicate (6 - (lg_sl ([.ref (Q 72), .int a0, .int a1, .int a2, .int a3, .int a4])).length) Slot.unset).toArray = ls at hl ⊢
  have hl : lv_has ls 6 [(0, .ref (Q 72)), (1, .int a0), (2, .int a1), (3, .int a2), (4, .int a3), (5, .int a4)] := hl
  unfold f_feed at hF
  refine lv_aload_n hx hb dX13_feed_0 rfl (lv_at hl 0 rfl) ?_
  refine mg_42 hC hH dX13_feed_1 ?_
  refine lv_bipush (v := 20) hx hb dX13_feed_4 (by decide) ?_
  refine lv_iadd hx hb dX13_feed_6 ?_
  refine lv_sipush (v := 3000) hx hb dX13_feed_7 (by decide) ?_
  refine lv_icmp_le (tgt := 16) hx hb dX13_feed_10 (by decide) (fun c_1 => ?_) (fun c_1 => ?_)
  · rw [if_pos c_1] at hF
    refine lv_aload_n hx hb dX13_feed_16 rfl (lv_at hl 0 rfl) ?_
    refine lv_iload_n hx hb dX13_feed_17 rfl (lv_at hl 1 rfl) ?_
    obtain ⟨r_2, u_3, h_4, hF⟩ := ob_some hF
    refine mcV_v (As := [.int a0]) (rest := []) hC hH (m_lay l G Z Q u u_3 r_2 a0 _ h_4) kwX13_lay kVX13_lay ⟨Nat.le_of_ble_eq_true rfl, Nat.le_of_ble_eq_true rfl⟩ rfl hl.1 rfl (Nat.le_of_ble_eq_true rfl) dX13_feed_18 (fun H locs hH => ?_)
    refine lv_aload_n hx hb dX13_feed_21 rfl (lv_at hl 0 rfl) ?_
    refine lv_iload_n hx hb dX13_feed_22 rfl (lv_at hl 2 rfl) ?_
    obtain ⟨r_5, u_6, h_7, hF⟩ := ob_some hF
    refine mcV_v (As := [.int a1]) (rest := []) hC hH (m_lay l G Z Q u_3 u_6 r_5 a1 _ h_7) kwX13_lay kVX13_lay ⟨Nat.le_of_ble_eq_true rfl, Nat.le_of_ble_eq_true rfl⟩ rfl hl.1 rfl (Nat.le_of_ble_eq_true rfl) dX13_feed_23 (fun H locs hH => ?_)
    refine lv_aload_n hx hb dX13_feed_26 rfl (lv_at hl 0 rfl) ?_
    refine lv_iload_n hx hb dX13_feed_27 rfl (lv_at hl 3 rfl) ?_
    obtain ⟨r_8, u_9, h_10, hF⟩ := ob_some hF
    refine mcV_v (As := [.int a2]) (rest := []) hC hH (m_lay l G Z Q u_6 u_9 r_8 a2 _ h_10) kwX13_lay kVX13_lay ⟨Nat.le_of_ble_eq_true rfl, Nat.le_of_ble_eq_true rfl⟩ rfl hl.1 rfl (Nat.le_of_ble_eq_true rfl) dX13_feed_28 (fun H locs hH => ?_)
    refine lv_aload_n hx hb dX13_feed_31 rfl (lv_at hl 0 rfl) ?_
    refine lv_iload hx hb dX13_feed_32 (lv_at hl 4 rfl) ?_
    obtain ⟨r_11, u_12, h_13, hF⟩ := ob_some hF
    refine mcV_v (As := [.int a3]) (rest := []) hC hH (m_lay l G Z Q u_9 u_12 r_11 a3 _ h_13) kwX13_lay kVX13_lay ⟨Nat.le_of_ble_eq_true rfl, Nat.le_of_ble_eq_true rfl⟩ rfl hl.1 rfl (Nat.le_of_ble_eq_true rfl) dX13_feed_34 (fun H locs hH => ?_)
    refine lv_aload_n hx hb dX13_feed_37 rfl (lv_at hl 0 rfl) ?_
    refine lv_iload hx hb dX13_feed_38 (lv_at hl 5 rfl) ?_
    obtain ⟨r_14, u_15, h_16, hF⟩ := ob_some hF
    refine mcV_v (As := [.int a4]) (rest := []) hC hH (m_lay l G Z Q u_12 u_15 r_14 a4 _ h_16) kwX13_lay kVX13_lay ⟨Nat.le_of_ble_eq_true rfl, Nat.le_of_ble_eq_true rfl⟩ rfl hl.1 rfl (Nat.le_of_ble_eq_true rfl) dX13_feed_40 (fun H locs hH => ?_)
    refine lv_aload_n hx hb dX13_feed_43 rfl (lv_at hl 0 rfl) ?_
    refine mg_42 hC hH dX13_feed_44 ?_
    exact mr_i hC hH hr hF dX13_feed_47 hlocks
  · rw [if_neg c_1] at hF
    refine lv_bipush (v := (-4)) hx hb dX13_feed_13 (by decide) ?_
    exact mr_i hC hH hr hF dX13_feed_15 hlocks
def f_end (a0 : Int32) (u : MS) : Option (Int32 × MS) := ob (f_in a0.toInt64 0 ((u.1 42).toInt64) u) (fun r_1 u_2 => (if r_1 = 0 then some (-1, u_2) else lu (si u_2 42 a0) (fun u_5 => some (a0, u_5))))
set_option maxHeartbeats 4000000 in
set_option maxRecDepth 100000 in
theorem m_end (l : Launch) (G : gG) (Z : gM) (Q : Nat → Nat) (u u1 : MS) (r : Int32) (a0 : Int32) (sz : Nat) (hF : f_end a0 u = some (r, u1)) : Met l yX13_end (Cond.code yX13_end cX13_end 2 (some .int) :: wM) { frames := 1, cells := 0, slots := 0, locals := 25 } (va_Pc [.ref (Q 72), .int a0] (mPM G Z Q u sz)) (mQi G Q u1 r sz) 0 0 (mA Q sz) := by
  refine Met.ofW (cc := cX13_end) (maxL := 2) (ret := (some .int)) (by decide) rfl ?_
  intro p e s m args below meth c s₁ B hml hv
  obtain ⟨rfl, rfl, hP, hB, hD, hE⟩ := hv
  have hr := B.returns
  have hlocks := B.notSynchronized
  have hts := atoms_spec (ws := Cond.code yX13_end cX13_end 2 (some .int) :: wM) B.pre
  have hC : mX p c cX13_end 2 s m _ G Z Q := ⟨B.exec, B.bytes, hml, findClass_of_methodNamed B.named, fun w h => hts w (List.mem_cons_of_mem _ h), hB, hE⟩
  have hx := hC.1
  have hb := hC.2.1
  have hH : mH G Q u s s.heap [] := ⟨hP, hD, va_S.rf⟩
  have hl := lv_entry ([.ref (Q 72), .int a0]) (n := 2) (Nat.le_of_ble_eq_true rfl)
  rw [lg_entry_eq]
  generalize (lg_sl ([.ref (Q 72), .int a0]) ++ List.replicate (2 - (lg_sl ([.ref (Q 72), .int a0])).length) Slot.unset).toArray = ls at hl ⊢
  have hl : lv_has ls 2 [(0, .ref (Q 72)), (1, .int a0)] := hl
  unfold f_end at hF
  refine lv_iload_n hx hb dX13_end_0 rfl (lv_at hl 1 rfl) ?_
  refine lv_i2l (v := a0.toInt64) hx hb dX13_end_1 rfl ?_
  refine lv_lconst (v := 0) hx hb dX13_end_2 (by decide) ?_
  refine lv_aload_n hx hb dX13_end_3 rfl (lv_at hl 0 rfl) ?_
  refine mg_42 hC hH dX13_end_4 ?_
  refine lv_i2l (v := (u.1 42).toInt64) hx hb dX13_end_7 rfl ?_
  obtain ⟨r_1, u_2, h_3, hF⟩ := ob_some hF
  refine mcS_i (As := [.long a0.toInt64, .long 0, .long ((u.1 42).toInt64)]) (rest := []) hC hH (m_in l G Z Q u u_2 r_1 a0.toInt64 0 ((u.1 42).toInt64) _ h_3) kwX13_in kVX13_in ⟨Nat.le_of_ble_eq_true rfl, Nat.le_of_ble_eq_true rfl⟩ rfl hl.1 rfl (Nat.le_of_ble_eq_true rfl) dX13_end_8 (fun H locs hH => ?_)
  refine lv_if_ne (tgt := 16) hx hb dX13_end_11 (by decide) (fun c_4 => ?_) (fun c_4 => ?_)
  · rw [if_neg c_4] at hF
    refine lv_aload_n hx hb dX13_end_16 rfl (lv_at hl 0 rfl) ?_
    refine lv_iload_n hx hb dX13_end_17 rfl (lv_at hl 1 rfl) ?_
    obtain ⟨u_5, e_6, hF⟩ := lu_some hF
    refine mp_42 hC hH e_6 dX13_end_18 (fun H locs hH => ?_)
    refine lv_iload_n hx hb dX13_end_21 rfl (lv_at hl 1 rfl) ?_
    exact mr_i hC hH hr hF dX13_end_22 hlocks
  · rw [if_pos c_4] at hF
    refine lv_iconst (v := (-1)) hx hb dX13_end_14 (by decide) ?_
    exact mr_i hC hH hr hF dX13_end_15 hlocks
def f_fault (a0 : Int32) (u : MS) : Option (Int32 × MS) := (if a0 = 0 then some (u.1 49, u) else (if a0 = 1 then some (u.1 50, u) else some (-1, u)))
set_option maxHeartbeats 4000000 in
set_option maxRecDepth 100000 in
theorem m_fault (l : Launch) (G : gG) (Z : gM) (Q : Nat → Nat) (u u1 : MS) (r : Int32) (a0 : Int32) (sz : Nat) (hF : f_fault a0 u = some (r, u1)) : Met l yX13_fault (Cond.code yX13_fault cX13_fault 2 (some .int) :: wM) { frames := 0, cells := 0, slots := 0, locals := 0 } (va_Pc [.ref (Q 72), .int a0] (mPM G Z Q u sz)) (mQi G Q u1 r sz) 0 0 (mA Q sz) := by
  refine Met.ofW (cc := cX13_fault) (maxL := 2) (ret := (some .int)) (by decide) rfl ?_
  intro p e s m args below meth c s₁ B hml hv
  obtain ⟨rfl, rfl, hP, hB, hD, hE⟩ := hv
  have hr := B.returns
  have hlocks := B.notSynchronized
  have hts := atoms_spec (ws := Cond.code yX13_fault cX13_fault 2 (some .int) :: wM) B.pre
  have hC : mX p c cX13_fault 2 s m _ G Z Q := ⟨B.exec, B.bytes, hml, findClass_of_methodNamed B.named, fun w h => hts w (List.mem_cons_of_mem _ h), hB, hE⟩
  have hx := hC.1
  have hb := hC.2.1
  have hH : mH G Q u s s.heap [] := ⟨hP, hD, va_S.rf⟩
  have hl := lv_entry ([.ref (Q 72), .int a0]) (n := 2) (Nat.le_of_ble_eq_true rfl)
  rw [lg_entry_eq]
  generalize (lg_sl ([.ref (Q 72), .int a0]) ++ List.replicate (2 - (lg_sl ([.ref (Q 72), .int a0])).length) Slot.unset).toArray = ls at hl ⊢
  have hl : lv_has ls 2 [(0, .ref (Q 72)), (1, .int a0)] := hl
  unfold f_fault at hF
  refine lv_iload_n hx hb dX13_fault_0 rfl (lv_at hl 1 rfl) ?_
  refine lv_if_ne (tgt := 11) hx hb dX13_fault_1 (by decide) (fun c_1 => ?_) (fun c_1 => ?_)
  · rw [if_neg c_1] at hF
    refine lv_iload_n hx hb dX13_fault_11 rfl (lv_at hl 1 rfl) ?_
    refine lv_iconst (v := 1) hx hb dX13_fault_12 (by decide) ?_
    refine lv_icmp_ne (tgt := 23) hx hb dX13_fault_13 (by decide) (fun c_2 => ?_) (fun c_2 => ?_)
    · rw [if_neg c_2] at hF
      refine lv_iconst (v := (-1)) hx hb dX13_fault_23 (by decide) ?_
      exact mr_i hC hH hr hF dX13_fault_24 hlocks
    · rw [if_pos c_2] at hF
      refine lv_aload_n hx hb dX13_fault_16 rfl (lv_at hl 0 rfl) ?_
      refine mg_50 hC hH dX13_fault_17 ?_
      refine lv_goto (tgt := 24) hx hb dX13_fault_20 (by decide) ?_
      exact mr_i hC hH hr hF dX13_fault_24 hlocks
  · rw [if_pos c_1] at hF
    refine lv_aload_n hx hb dX13_fault_4 rfl (lv_at hl 0 rfl) ?_
    refine mg_49 hC hH dX13_fault_5 ?_
    refine lv_goto (tgt := 24) hx hb dX13_fault_8 (by decide) ?_
    exact mr_i hC hH hr hF dX13_fault_24 hlocks
def f_isFighter (a0 : Int32) (u : MS) : Option (Int32 × MS) := ob (f_in a0.toInt64 0 (((u.1 2).toInt64 : Int64) - (1 : Int64)) u) (fun r_1 u_2 => og (gb r_1) (some (r_1, u_2)))
set_option maxHeartbeats 4000000 in
set_option maxRecDepth 100000 in
theorem m_isFighter (l : Launch) (G : gG) (Z : gM) (Q : Nat → Nat) (u u1 : MS) (r : Int32) (a0 : Int32) (sz : Nat) (hF : f_isFighter a0 u = some (r, u1)) : Met l yX13_isFighter (Cond.code yX13_isFighter cX13_isFighter 2 (some .boolean) :: wM) { frames := 1, cells := 0, slots := 0, locals := 25 } (va_Pc [.ref (Q 72), .int a0] (mPM G Z Q u sz)) (mQi G Q u1 r sz) 0 0 (mA Q sz) := by
  refine Met.ofW (cc := cX13_isFighter) (maxL := 2) (ret := (some .boolean)) (by decide) rfl ?_
  intro p e s m args below meth c s₁ B hml hv
  obtain ⟨rfl, rfl, hP, hB, hD, hE⟩ := hv
  have hr := B.returns
  have hlocks := B.notSynchronized
  have hts := atoms_spec (ws := Cond.code yX13_isFighter cX13_isFighter 2 (some .boolean) :: wM) B.pre
  have hC : mX p c cX13_isFighter 2 s m _ G Z Q := ⟨B.exec, B.bytes, hml, findClass_of_methodNamed B.named, fun w h => hts w (List.mem_cons_of_mem _ h), hB, hE⟩
  have hx := hC.1
  have hb := hC.2.1
  have hH : mH G Q u s s.heap [] := ⟨hP, hD, va_S.rf⟩
  have hl := lv_entry ([.ref (Q 72), .int a0]) (n := 2) (Nat.le_of_ble_eq_true rfl)
  rw [lg_entry_eq]
  generalize (lg_sl ([.ref (Q 72), .int a0]) ++ List.replicate (2 - (lg_sl ([.ref (Q 72), .int a0])).length) Slot.unset).toArray = ls at hl ⊢
  have hl : lv_has ls 2 [(0, .ref (Q 72)), (1, .int a0)] := hl
  unfold f_isFighter at hF
  refine lv_iload_n hx hb dX13_isFighter_0 rfl (lv_at hl 1 rfl) ?_
  refine lv_i2l (v := a0.toInt64) hx hb dX13_isFighter_1 rfl ?_
  refine lv_lconst (v := 0) hx hb dX13_isFighter_2 (by decide) ?_
  refine lv_aload_n hx hb dX13_isFighter_3 rfl (lv_at hl 0 rfl) ?_
  refine mg_2 hC hH dX13_isFighter_4 ?_
  refine lv_i2l (v := (u.1 2).toInt64) hx hb dX13_isFighter_7 rfl ?_
  refine lv_lconst (v := 1) hx hb dX13_isFighter_8 (by decide) ?_
  refine lv_lsub hx hb dX13_isFighter_9 ?_
  obtain ⟨r_1, u_2, h_3, hF⟩ := ob_some hF
  refine mcS_i (As := [.long a0.toInt64, .long 0, .long (((u.1 2).toInt64 : Int64) - (1 : Int64))]) (rest := []) hC hH (m_in l G Z Q u u_2 r_1 a0.toInt64 0 (((u.1 2).toInt64 : Int64) - (1 : Int64)) _ h_3) kwX13_in kVX13_in ⟨Nat.le_of_ble_eq_true rfl, Nat.le_of_ble_eq_true rfl⟩ rfl hl.1 rfl (Nat.le_of_ble_eq_true rfl) dX13_isFighter_10 (fun H locs hH => ?_)
  obtain ⟨g_4, hF⟩ := og_some hF
  exact mr_z hC hH hr g_4 hF dX13_isFighter_13 hlocks
def f_comes (a0 : Int32) (a1 : Int32) (u : MS) : Option (Int32 × MS) := li (u.1 2) (fun x_1 => lu (si u 2 ((u.1 2) + 1)) (fun u_3 => og (gi x_1 96) (lu (wa u_3 6 x_1 a0) (fun u_6 => og (gi x_1 96) (lu (wa u_6 5 x_1 a1) (fun u_9 => og (gi x_1 96) (lu (wa u_9 7 x_1 (-1)) (fun u_12 => og (gi x_1 96) (lu (wa u_12 8 x_1 0) (fun u_15 => og (gi x_1 96) (lu (wa u_15 9 x_1 0) (fun u_18 => og (gi x_1 96) (lu (wa u_18 10 x_1 (-1)) (fun u_21 => og (gi x_1 96) (lu (wa u_21 11 x_1 (-1)) (fun u_24 => some (x_1, u_24)))))))))))))))))
set_option maxHeartbeats 4000000 in
set_option maxRecDepth 100000 in
theorem m_comes (l : Launch) (G : gG) (Z : gM) (Q : Nat → Nat) (u u1 : MS) (r : Int32) (a0 : Int32) (a1 : Int32) (sz : Nat) (hF : f_comes a0 a1 u = some (r, u1)) : Met l yX13_comes (Cond.code yX13_comes cX13_comes 4 (some .int) :: wM) { frames := 0, cells := 0, slots := 0, locals := 0 } (va_Pc [.ref (Q 72), .int a0, .int a1] (mPM G Z Q u sz)) (mQi G Q u1 r sz) 0 0 (mA Q sz) := by
  refine Met.ofW (cc := cX13_comes) (maxL := 4) (ret := (some .int)) (by decide) rfl ?_
  intro p e s m args below meth c s₁ B hml hv
  obtain ⟨rfl, rfl, hP, hB, hD, hE⟩ := hv
  have hr := B.returns
  have hlocks := B.notSynchronized
  have hts := atoms_spec (ws := Cond.code yX13_comes cX13_comes 4 (some .int) :: wM) B.pre
  have hC : mX p c cX13_comes 4 s m _ G Z Q := ⟨B.exec, B.bytes, hml, findClass_of_methodNamed B.named, fun w h => hts w (List.mem_cons_of_mem _ h), hB, hE⟩
  have hx := hC.1
  have hb := hC.2.1
  have hH : mH G Q u s s.heap [] := ⟨hP, hD, va_S.rf⟩
  have hl := lv_entry ([.ref (Q 72), .int a0, .int a1]) (n := 4) (Nat.le_of_ble_eq_true rfl)
  rw [lg_entry_eq]
  generalize (lg_sl ([.ref (Q 72), .int a0, .int a1]) ++ List.replicate (4 - (lg_sl ([.ref (Q 72), .int a0, .int a1])).length) Slot.unset).toArray = ls at hl ⊢
  have hl : lv_has ls 4 [(0, .ref (Q 72)), (1, .int a0), (2, .int a1)] := hl
  unfold f_comes at hF
  refine lv_aload_n hx hb dX13_comes_0 rfl (lv_at hl 0 rfl) ?_
  refine mg_2 hC hH dX13_comes_1 ?_
  obtain ⟨x_1, e_2, hF⟩ := li_some hF
  refine gx_ti e_2 ?_
  refine lv_istore_n (lv' := [(3, .int x_1), (0, .ref (Q 72)), (1, .int a0), (2, .int a1)]) hx hb dX13_comes_4 rfl hl (by decide) rfl (fun ls hl => ?_)
  refine lv_aload_n hx hb dX13_comes_5 rfl (lv_at hl 1 rfl) ?_
  refine lv_dup hx hb dX13_comes_6 rfl ?_
  refine mg_2 hC hH dX13_comes_7 ?_
  refine lv_iconst (v := 1) hx hb dX13_comes_10 (by decide) ?_
  refine lv_iadd hx hb dX13_comes_11 ?_
  obtain ⟨u_3, e_4, hF⟩ := lu_some hF
  refine mp_2 hC hH e_4 dX13_comes_12 (fun H locs hH => ?_)
  refine lv_aload_n hx hb dX13_comes_15 rfl (lv_at hl 1 rfl) ?_
  refine mg_6 hC hH dX13_comes_16 ?_
  refine lv_iload_n hx hb dX13_comes_19 rfl (lv_at hl 0 rfl) ?_
  refine lv_iload_n hx hb dX13_comes_20 rfl (lv_at hl 2 rfl) ?_
  obtain ⟨g_5, hF⟩ := og_some hF
  obtain ⟨u_6, e_7, hF⟩ := lu_some hF
  refine ms_6 hC hH e_7 g_5 dX13_comes_21 (fun H locs hH => ?_)
  refine lv_aload_n hx hb dX13_comes_22 rfl (lv_at hl 1 rfl) ?_
  refine mg_5 hC hH dX13_comes_23 ?_
  refine lv_iload_n hx hb dX13_comes_26 rfl (lv_at hl 0 rfl) ?_
  refine lv_iload_n hx hb dX13_comes_27 rfl (lv_at hl 3 rfl) ?_
  obtain ⟨g_8, hF⟩ := og_some hF
  obtain ⟨u_9, e_10, hF⟩ := lu_some hF
  refine ms_5 hC hH e_10 g_8 dX13_comes_28 (fun H locs hH => ?_)
  refine lv_aload_n hx hb dX13_comes_29 rfl (lv_at hl 1 rfl) ?_
  refine mg_7 hC hH dX13_comes_30 ?_
  refine lv_iload_n hx hb dX13_comes_33 rfl (lv_at hl 0 rfl) ?_
  refine lv_iconst (v := (-1)) hx hb dX13_comes_34 (by decide) ?_
  obtain ⟨g_11, hF⟩ := og_some hF
  obtain ⟨u_12, e_13, hF⟩ := lu_some hF
  refine ms_7 hC hH e_13 g_11 dX13_comes_35 (fun H locs hH => ?_)
  refine lv_aload_n hx hb dX13_comes_36 rfl (lv_at hl 1 rfl) ?_
  refine mg_8 hC hH dX13_comes_37 ?_
  refine lv_iload_n hx hb dX13_comes_40 rfl (lv_at hl 0 rfl) ?_
  refine lv_iconst (v := 0) hx hb dX13_comes_41 (by decide) ?_
  obtain ⟨g_14, hF⟩ := og_some hF
  obtain ⟨u_15, e_16, hF⟩ := lu_some hF
  refine ms_8 hC hH e_16 g_14 dX13_comes_42 (fun H locs hH => ?_)
  refine lv_aload_n hx hb dX13_comes_43 rfl (lv_at hl 1 rfl) ?_
  refine mg_9 hC hH dX13_comes_44 ?_
  refine lv_iload_n hx hb dX13_comes_47 rfl (lv_at hl 0 rfl) ?_
  refine lv_iconst (v := 0) hx hb dX13_comes_48 (by decide) ?_
  obtain ⟨g_17, hF⟩ := og_some hF
  obtain ⟨u_18, e_19, hF⟩ := lu_some hF
  refine ms_9 hC hH e_19 g_17 dX13_comes_49 (fun H locs hH => ?_)
  refine lv_aload_n hx hb dX13_comes_50 rfl (lv_at hl 1 rfl) ?_
  refine mg_10 hC hH dX13_comes_51 ?_
  refine lv_iload_n hx hb dX13_comes_54 rfl (lv_at hl 0 rfl) ?_
  refine lv_iconst (v := (-1)) hx hb dX13_comes_55 (by decide) ?_
  obtain ⟨g_20, hF⟩ := og_some hF
  obtain ⟨u_21, e_22, hF⟩ := lu_some hF
  refine ms_10 hC hH e_22 g_20 dX13_comes_56 (fun H locs hH => ?_)
  refine lv_aload_n hx hb dX13_comes_57 rfl (lv_at hl 1 rfl) ?_
  refine mg_11 hC hH dX13_comes_58 ?_
  refine lv_iload_n hx hb dX13_comes_61 rfl (lv_at hl 0 rfl) ?_
  refine lv_iconst (v := (-1)) hx hb dX13_comes_62 (by decide) ?_
  obtain ⟨g_23, hF⟩ := og_some hF
  obtain ⟨u_24, e_25, hF⟩ := lu_some hF
  refine ms_11 hC hH e_25 g_23 dX13_comes_63 (fun H locs hH => ?_)
  refine lv_iload_n hx hb dX13_comes_64 rfl (lv_at hl 0 rfl) ?_
  exact mr_i hC hH hr hF dX13_comes_65 hlocks
def lp_weighed_4 : Nat → Int32 → Int32 → Int32 → MS → (Int32 → Int32 → Int32 → MS → Option (Int32 × MS)) → Option (Int32 × MS)
  | 0, _, _, _, _, _ => none
  | n4 + 1, v1, v2, v3, u, K4_46 => (if (u.1 2) ≤ v3 then K4_46 v1 v2 v3 u else og (gi v3 96) ((if (ra u 5 v3) = v1 then og (gi v3 96) ((if (ra u 8 v3) = 1 then li (v2 + 1) (fun x_14 => li (v3 + 1) (fun x_16 => lp_weighed_4 n4 v1 x_14 x_16 u K4_46)) else li (v2 + 0) (fun x_10 => li (v3 + 1) (fun x_12 => lp_weighed_4 n4 v1 x_10 x_12 u K4_46)))) else li (v2 + 0) (fun x_4 => li (v3 + 1) (fun x_6 => lp_weighed_4 n4 v1 x_4 x_6 u K4_46)))))
def f_weighed (a0 : Int32) (u : MS) : Option (Int32 × MS) := lp_weighed_4 fuel a0 0 0 u (fun v1 v2 v3 u => some (v2, u))
set_option maxHeartbeats 4000000 in
set_option maxRecDepth 100000 in
theorem m_weighed (l : Launch) (G : gG) (Z : gM) (Q : Nat → Nat) (u u1 : MS) (r : Int32) (a0 : Int32) (sz : Nat) (hF : f_weighed a0 u = some (r, u1)) : Met l yX13_weighed (Cond.code yX13_weighed cX13_weighed 4 (some .int) :: wM) { frames := 0, cells := 0, slots := 0, locals := 0 } (va_Pc [.ref (Q 72), .int a0] (mPM G Z Q u sz)) (mQi G Q u1 r sz) 0 0 (mA Q sz) := by
  refine Met.ofW (cc := cX13_weighed) (maxL := 4) (ret := (some .int)) (by decide) rfl ?_
  intro p e s m args below meth c s₁ B hml hv
  obtain ⟨rfl, rfl, hP, hB, hD, hE⟩ := hv
  have hr := B.returns
  have hlocks := B.notSynchronized
  have hts := atoms_spec (ws := Cond.code yX13_weighed cX13_weighed 4 (some .int) :: wM) B.pre
  have hC : mX p c cX13_weighed 4 s m _ G Z Q := ⟨B.exec, B.bytes, hml, findClass_of_methodNamed B.named, fun w h => hts w (List.mem_cons_of_mem _ h), hB, hE⟩
  have hx := hC.1
  have hb := hC.2.1
  have hH : mH G Q u s s.heap [] := ⟨hP, hD, va_S.rf⟩
  have hl := lv_entry ([.ref (Q 72), .int a0]) (n := 4) (Nat.le_of_ble_eq_true rfl)
  rw [lg_entry_eq]
  generalize (lg_sl ([.ref (Q 72), .int a0]) ++ List.replicate (4 - (lg_sl ([.ref (Q 72), .int a0])).length) Slot.unset).toArray = ls at hl ⊢
  have hl : lv_has ls 4 [(0, .ref (Q 72)), (1, .int a0)] := hl
  unfold f_weighed at hF
  refine lv_iconst (v := 0) hx hb dX13_weighed_0 (by decide) ?_
  refine lv_istore_n (lv' := [(2, .int 0), (0, .ref (Q 72)), (1, .int a0)]) hx hb dX13_weighed_1 rfl hl (by decide) rfl (fun ls hl => ?_)
  refine lv_iconst (v := 0) hx hb dX13_weighed_2 (by decide) ?_
  refine lv_istore_n (lv' := [(3, .int 0), (2, .int 0), (0, .ref (Q 72)), (1, .int a0)]) hx hb dX13_weighed_3 rfl hl (by decide) rfl (fun ls hl => ?_)
  have hL4 : ∀ (K4_46 : Int32 → Int32 → Int32 → MS → Option (Int32 × MS)), (∀ (v1 v2 v3 : Int32) (u : MS) (H : Heap) (locs : List Loc) (ls : Array Slot), lv_has ls 4 [(0, .ref (Q 72)), (1, .int v1), (2, .int v2), (3, .int v3)] → mH G Q u s H locs → K4_46 v1 v2 v3 u = some ((r, u1)) → W p l e (headSpec (Cond.code yX13_weighed cX13_weighed 4 (some .int) :: wM) { frames := 0, cells := 0, slots := 0, locals := 0 }).room s m [.ref (Q 72), .int a0].toArray below meth c H locs 0 0 (MQ below (mQi G Q u1 r s.heap.size) [.ref (Q 72), .int a0].toArray s 0 0 (mA Q s.heap.size)) (F0 m 46 ls [])) → ∀ (n4 : Nat) (v1 v2 v3 : Int32) (u : MS) (H : Heap) (locs : List Loc) (ls : Array Slot), lv_has ls 4 [(0, .ref (Q 72)), (1, .int v1), (2, .int v2), (3, .int v3)] → mH G Q u s H locs → lp_weighed_4 n4 v1 v2 v3 u K4_46 = some ((r, u1)) → W p l e (headSpec (Cond.code yX13_weighed cX13_weighed 4 (some .int) :: wM) { frames := 0, cells := 0, slots := 0, locals := 0 }).room s m [.ref (Q 72), .int a0].toArray below meth c H locs 0 0 (MQ below (mQi G Q u1 r s.heap.size) [.ref (Q 72), .int a0].toArray s 0 0 (mA Q s.heap.size)) (F0 m 4 ls []) := by
    intro K4_46 hK4_46 n4
    induction n4 with
    | zero => intro v1 v2 v3 u H locs ls hl hH hF; cases hF
    | succ n4 ih4 =>
      intro v1 v2 v3 u H locs ls hl hH hF
      unfold lp_weighed_4 at hF
      refine lv_iload_n hx hb dX13_weighed_4 rfl (lv_at hl 3 rfl) ?_
      refine lv_aload_n hx hb dX13_weighed_5 rfl (lv_at hl 0 rfl) ?_
      refine mg_2 hC hH dX13_weighed_6 ?_
      refine lv_icmp_ge (tgt := 46) hx hb dX13_weighed_9 (by decide) (fun c_1 => ?_) (fun c_1 => ?_)
      · rw [if_pos c_1] at hF
        exact hK4_46 v1 v2 v3 u _ _ _ (lv_sub hl [0, 1, 2, 3] rfl) hH hF
      · rw [if_neg c_1] at hF
        refine lv_iload_n hx hb dX13_weighed_12 rfl (lv_at hl 2 rfl) ?_
        refine lv_aload_n hx hb dX13_weighed_13 rfl (lv_at hl 0 rfl) ?_
        refine mg_5 hC hH dX13_weighed_14 ?_
        refine lv_iload_n hx hb dX13_weighed_17 rfl (lv_at hl 3 rfl) ?_
        obtain ⟨g_2, hF⟩ := og_some hF
        refine ml_5 hC hH g_2 dX13_weighed_18 ?_
        refine lv_iload_n hx hb dX13_weighed_19 rfl (lv_at hl 1 rfl) ?_
        refine lv_icmp_ne (tgt := 37) hx hb dX13_weighed_20 (by decide) (fun c_3 => ?_) (fun c_3 => ?_)
        · rw [if_neg c_3] at hF
          refine lv_iconst (v := 0) hx hb dX13_weighed_37 (by decide) ?_
          refine lv_iadd hx hb dX13_weighed_38 ?_
          obtain ⟨x_4, e_5, hF⟩ := li_some hF
          refine gx_ti e_5 ?_
          refine lv_istore_n (lv' := [(2, .int x_4), (0, .ref (Q 72)), (1, .int v1), (3, .int v3)]) hx hb dX13_weighed_39 rfl hl (by decide) rfl (fun ls hl => ?_)
          obtain ⟨x_6, e_7, hF⟩ := li_some hF
          refine lv_iinc (v := x_6) (lv' := [(3, .int x_6), (2, .int x_4), (0, .ref (Q 72)), (1, .int v1)]) hx hb dX13_weighed_40 hl (k := 3) rfl e_7 (by decide) rfl (fun ls hl => ?_)
          refine lv_goto (tgt := 4) hx hb dX13_weighed_43 (by decide) ?_
          exact ih4 v1 x_4 x_6 u _ _ _ (lv_sub hl [2, 3, 1, 0] rfl) hH hF
        · rw [if_pos c_3] at hF
          refine lv_aload_n hx hb dX13_weighed_23 rfl (lv_at hl 0 rfl) ?_
          refine mg_8 hC hH dX13_weighed_24 ?_
          refine lv_iload_n hx hb dX13_weighed_27 rfl (lv_at hl 3 rfl) ?_
          obtain ⟨g_8, hF⟩ := og_some hF
          refine ml_8 hC hH g_8 dX13_weighed_28 ?_
          refine lv_iconst (v := 1) hx hb dX13_weighed_29 (by decide) ?_
          refine lv_icmp_ne (tgt := 37) hx hb dX13_weighed_30 (by decide) (fun c_9 => ?_) (fun c_9 => ?_)
          · rw [if_neg c_9] at hF
            refine lv_iconst (v := 0) hx hb dX13_weighed_37 (by decide) ?_
            refine lv_iadd hx hb dX13_weighed_38 ?_
            obtain ⟨x_10, e_11, hF⟩ := li_some hF
            refine gx_ti e_11 ?_
            refine lv_istore_n (lv' := [(2, .int x_10), (0, .ref (Q 72)), (1, .int v1), (3, .int v3)]) hx hb dX13_weighed_39 rfl hl (by decide) rfl (fun ls hl => ?_)
            obtain ⟨x_12, e_13, hF⟩ := li_some hF
            refine lv_iinc (v := x_12) (lv' := [(3, .int x_12), (2, .int x_10), (0, .ref (Q 72)), (1, .int v1)]) hx hb dX13_weighed_40 hl (k := 3) rfl e_13 (by decide) rfl (fun ls hl => ?_)
            refine lv_goto (tgt := 4) hx hb dX13_weighed_43 (by decide) ?_
            exact ih4 v1 x_10 x_12 u _ _ _ (lv_sub hl [2, 3, 1, 0] rfl) hH hF
          · rw [if_pos c_9] at hF
            refine lv_iconst (v := 1) hx hb dX13_weighed_33 (by decide) ?_
            refine lv_goto (tgt := 38) hx hb dX13_weighed_34 (by decide) ?_
            refine lv_iadd hx hb dX13_weighed_38 ?_
            obtain ⟨x_14, e_15, hF⟩ := li_some hF
            refine gx_ti e_15 ?_
            refine lv_istore_n (lv' := [(2, .int x_14), (0, .ref (Q 72)), (1, .int v1), (3, .int v3)]) hx hb dX13_weighed_39 rfl hl (by decide) rfl (fun ls hl => ?_)
            obtain ⟨x_16, e_17, hF⟩ := li_some hF
            refine lv_iinc (v := x_16) (lv' := [(3, .int x_16), (2, .int x_14), (0, .ref (Q 72)), (1, .int v1)]) hx hb dX13_weighed_40 hl (k := 3) rfl e_17 (by decide) rfl (fun ls hl => ?_)
            refine lv_goto (tgt := 4) hx hb dX13_weighed_43 (by decide) ?_
            exact ih4 v1 x_14 x_16 u _ _ _ (lv_sub hl [2, 3, 1, 0] rfl) hH hF
  refine hL4 _ (fun v1 v2 v3 u H locs ls hl hH hF => ?_) fuel a0 0 0 u _ _ _ (lv_sub hl [2, 3, 1, 0] rfl) hH hF
  refine lv_iload_n hx hb dX13_weighed_46 rfl (lv_at hl 2 rfl) ?_
  exact mr_i hC hH hr hF dX13_weighed_47 hlocks
def lp_makeRow_16 : Nat → Int32 → Int32 → Int32 → MS → (Int32 → Int32 → Int32 → MS → Option (Int32 × MS)) → Option (Int32 × MS)
  | 0, _, _, _, _, _ => none
  | n16 + 1, v1, v2, v3, u, K16_39 => (if v2 ≤ v3 then K16_39 v1 v2 v3 u else og (gi v3 32) (og (gi v3 32) (lu (wa u 58 v3 (ra u 57 v3)) (fun u_8 => li (v3 + 1) (fun x_10 => lp_makeRow_16 n16 v1 v2 x_10 u_8 K16_39)))))
def lp_makeRow_41 : Nat → Int32 → Int32 → Int32 → MS → (Int32 → Int32 → Int32 → MS → Option (Int32 × MS)) → Option (Int32 × MS)
  | 0, _, _, _, _, _ => none
  | n41 + 1, v1, v2, v3, u, K41_111 => (if v2 ≤ v3 then K41_111 v1 v2 v3 u else og (gi v3 32) (li (ra u 58 v3) (fun x_14 => (if (x_14 - x_14 / 2 * 2) = 0 then li (2 * x_14) (fun x_27 => og (gi v3 32) (lu (wa u 57 v3 x_27) (fun u_30 => og (gi (((2 * v2) - 1) - v3) 32) (lu (wa u_30 57 (((2 * v2) - 1) - v3) (((4 * x_14) + 1) - x_27)) (fun u_33 => li (v3 + 1) (fun x_35 => lp_makeRow_41 n41 v1 v2 x_35 u_33 K41_111)))))) else li ((2 * x_14) + 1) (fun x_17 => og (gi v3 32) (lu (wa u 57 v3 x_17) (fun u_20 => og (gi (((2 * v2) - 1) - v3) 32) (lu (wa u_20 57 (((2 * v2) - 1) - v3) (((4 * x_14) + 1) - x_17)) (fun u_23 => li (v3 + 1) (fun x_25 => lp_makeRow_41 n41 v1 v2 x_25 u_23 K41_111))))))))))
def lp_makeRow_9 : Nat → Int32 → Int32 → MS → (Int32 → Int32 → MS → Option (Int32 × MS)) → Option (Int32 × MS)
  | 0, _, _, _, _ => none
  | n9 + 1, v1, v2, u, K9_118 => (if v1 ≤ v2 then K9_118 v1 v2 u else lp_makeRow_16 fuel v1 v2 0 u (fun v1 v2 v3 u => lp_makeRow_41 fuel v1 v2 0 u (fun v1 v2 v3 u => li (v2 * 2) (fun x_37 => lp_makeRow_9 n9 v1 x_37 u K9_118))))
def f_makeRow (a0 : Int32) (u : MS) : Option (Int32 × MS) := og (gi 0 32) (lu (wa u 57 0 0) (fun u_2 => lp_makeRow_9 fuel a0 1 u_2 (fun v1 v2 u => some (0, u))))
set_option maxHeartbeats 4000000 in
set_option maxRecDepth 100000 in
theorem m_makeRow (l : Launch) (G : gG) (Z : gM) (Q : Nat → Nat) (u u1 : MS) (r : Int32) (a0 : Int32) (sz : Nat) (hF : f_makeRow a0 u = some (r, u1)) : Met l yX13_makeRow (Cond.code yX13_makeRow cX13_makeRow 6 none :: wM) { frames := 0, cells := 0, slots := 0, locals := 0 } (va_Pc [.ref (Q 72), .int a0] (mPM G Z Q u sz)) (mQv G Q u1 sz) 0 0 (mA Q sz) := by
  refine Met.ofW (cc := cX13_makeRow) (maxL := 6) (ret := none) (by decide) rfl ?_
  intro p e s m args below meth c s₁ B hml hv
  obtain ⟨rfl, rfl, hP, hB, hD, hE⟩ := hv
  have hr := B.returns
  have hlocks := B.notSynchronized
  have hts := atoms_spec (ws := Cond.code yX13_makeRow cX13_makeRow 6 none :: wM) B.pre
  have hC : mX p c cX13_makeRow 6 s m _ G Z Q := ⟨B.exec, B.bytes, hml, findClass_of_methodNamed B.named, fun w h => hts w (List.mem_cons_of_mem _ h), hB, hE⟩
  have hx := hC.1
  have hb := hC.2.1
  have hH : mH G Q u s s.heap [] := ⟨hP, hD, va_S.rf⟩
  have hl := lv_entry ([.ref (Q 72), .int a0]) (n := 6) (Nat.le_of_ble_eq_true rfl)
  rw [lg_entry_eq]
  generalize (lg_sl ([.ref (Q 72), .int a0]) ++ List.replicate (6 - (lg_sl ([.ref (Q 72), .int a0])).length) Slot.unset).toArray = ls at hl ⊢
  have hl : lv_has ls 6 [(0, .ref (Q 72)), (1, .int a0)] := hl
  unfold f_makeRow at hF
  refine lv_aload_n hx hb dX13_makeRow_0 rfl (lv_at hl 0 rfl) ?_
  refine mg_57 hC hH dX13_makeRow_1 ?_
  refine lv_iconst (v := 0) hx hb dX13_makeRow_4 (by decide) ?_
  refine lv_iconst (v := 0) hx hb dX13_makeRow_5 (by decide) ?_
  obtain ⟨g_1, hF⟩ := og_some hF
  obtain ⟨u_2, e_3, hF⟩ := lu_some hF
  refine ms_57 hC hH e_3 g_1 dX13_makeRow_6 (fun H locs hH => ?_)
  refine lv_iconst (v := 1) hx hb dX13_makeRow_7 (by decide) ?_
  refine lv_istore_n (lv' := [(2, .int 1), (0, .ref (Q 72)), (1, .int a0)]) hx hb dX13_makeRow_8 rfl hl (by decide) rfl (fun ls hl => ?_)
  have hL9 : ∀ (K9_118 : Int32 → Int32 → MS → Option (Int32 × MS)), (∀ (v1 v2 : Int32) (u : MS) (H : Heap) (locs : List Loc) (ls : Array Slot), lv_has ls 6 [(0, .ref (Q 72)), (1, .int v1), (2, .int v2)] → mH G Q u s H locs → K9_118 v1 v2 u = some ((r, u1)) → W p l e (headSpec (Cond.code yX13_makeRow cX13_makeRow 6 none :: wM) { frames := 0, cells := 0, slots := 0, locals := 0 }).room s m [.ref (Q 72), .int a0].toArray below meth c H locs 0 0 (MQ below (mQv G Q u1 s.heap.size) [.ref (Q 72), .int a0].toArray s 0 0 (mA Q s.heap.size)) (F0 m 118 ls [])) → ∀ (n9 : Nat) (v1 v2 : Int32) (u : MS) (H : Heap) (locs : List Loc) (ls : Array Slot), lv_has ls 6 [(0, .ref (Q 72)), (1, .int v1), (2, .int v2)] → mH G Q u s H locs → lp_makeRow_9 n9 v1 v2 u K9_118 = some ((r, u1)) → W p l e (headSpec (Cond.code yX13_makeRow cX13_makeRow 6 none :: wM) { frames := 0, cells := 0, slots := 0, locals := 0 }).room s m [.ref (Q 72), .int a0].toArray below meth c H locs 0 0 (MQ below (mQv G Q u1 s.heap.size) [.ref (Q 72), .int a0].toArray s 0 0 (mA Q s.heap.size)) (F0 m 9 ls []) := by
    intro K9_118 hK9_118 n9
    induction n9 with
    | zero => intro v1 v2 u H locs ls hl hH hF; cases hF
    | succ n9 ih9 =>
      intro v1 v2 u H locs ls hl hH hF
      unfold lp_makeRow_9 at hF
      refine lv_iload_n hx hb dX13_makeRow_9 rfl (lv_at hl 2 rfl) ?_
      refine lv_iload_n hx hb dX13_makeRow_10 rfl (lv_at hl 1 rfl) ?_
      refine lv_icmp_ge (tgt := 118) hx hb dX13_makeRow_11 (by decide) (fun c_4 => ?_) (fun c_4 => ?_)
      · rw [if_pos c_4] at hF
        exact hK9_118 v1 v2 u _ _ _ (lv_sub hl [0, 1, 2] rfl) hH hF
      · rw [if_neg c_4] at hF
        refine lv_iconst (v := 0) hx hb dX13_makeRow_14 (by decide) ?_
        refine lv_istore_n (lv' := [(3, .int 0), (0, .ref (Q 72)), (1, .int v1), (2, .int v2)]) hx hb dX13_makeRow_15 rfl hl (by decide) rfl (fun ls hl => ?_)
        have hL16 : ∀ (K16_39 : Int32 → Int32 → Int32 → MS → Option (Int32 × MS)), (∀ (v1 v2 v3 : Int32) (u : MS) (H : Heap) (locs : List Loc) (ls : Array Slot), lv_has ls 6 [(0, .ref (Q 72)), (1, .int v1), (2, .int v2), (3, .int v3)] → mH G Q u s H locs → K16_39 v1 v2 v3 u = some ((r, u1)) → W p l e (headSpec (Cond.code yX13_makeRow cX13_makeRow 6 none :: wM) { frames := 0, cells := 0, slots := 0, locals := 0 }).room s m [.ref (Q 72), .int a0].toArray below meth c H locs 0 0 (MQ below (mQv G Q u1 s.heap.size) [.ref (Q 72), .int a0].toArray s 0 0 (mA Q s.heap.size)) (F0 m 39 ls [])) → ∀ (n16 : Nat) (v1 v2 v3 : Int32) (u : MS) (H : Heap) (locs : List Loc) (ls : Array Slot), lv_has ls 6 [(0, .ref (Q 72)), (1, .int v1), (2, .int v2), (3, .int v3)] → mH G Q u s H locs → lp_makeRow_16 n16 v1 v2 v3 u K16_39 = some ((r, u1)) → W p l e (headSpec (Cond.code yX13_makeRow cX13_makeRow 6 none :: wM) { frames := 0, cells := 0, slots := 0, locals := 0 }).room s m [.ref (Q 72), .int a0].toArray below meth c H locs 0 0 (MQ below (mQv G Q u1 s.heap.size) [.ref (Q 72), .int a0].toArray s 0 0 (mA Q s.heap.size)) (F0 m 16 ls []) := by
          intro K16_39 hK16_39 n16
          induction n16 with
          | zero => intro v1 v2 v3 u H locs ls hl hH hF; cases hF
          | succ n16 ih16 =>
            intro v1 v2 v3 u H locs ls hl hH hF
            unfold lp_makeRow_16 at hF
            refine lv_iload_n hx hb dX13_makeRow_16 rfl (lv_at hl 3 rfl) ?_
            refine lv_iload_n hx hb dX13_makeRow_17 rfl (lv_at hl 2 rfl) ?_
            refine lv_icmp_ge (tgt := 39) hx hb dX13_makeRow_18 (by decide) (fun c_5 => ?_) (fun c_5 => ?_)
            · rw [if_pos c_5] at hF
              exact hK16_39 v1 v2 v3 u _ _ _ (lv_sub hl [0, 1, 2, 3] rfl) hH hF
            · rw [if_neg c_5] at hF
              refine lv_aload_n hx hb dX13_makeRow_21 rfl (lv_at hl 0 rfl) ?_
              refine mg_58 hC hH dX13_makeRow_22 ?_
              refine lv_iload_n hx hb dX13_makeRow_25 rfl (lv_at hl 3 rfl) ?_
              refine lv_aload_n hx hb dX13_makeRow_26 rfl (lv_at hl 0 rfl) ?_
              refine mg_57 hC hH dX13_makeRow_27 ?_
              refine lv_iload_n hx hb dX13_makeRow_30 rfl (lv_at hl 3 rfl) ?_
              obtain ⟨g_6, hF⟩ := og_some hF
              refine ml_57 hC hH g_6 dX13_makeRow_31 ?_
              obtain ⟨g_7, hF⟩ := og_some hF
              obtain ⟨u_8, e_9, hF⟩ := lu_some hF
              refine ms_58 hC hH e_9 g_7 dX13_makeRow_32 (fun H locs hH => ?_)
              obtain ⟨x_10, e_11, hF⟩ := li_some hF
              refine lv_iinc (v := x_10) (lv' := [(3, .int x_10), (0, .ref (Q 72)), (1, .int v1), (2, .int v2)]) hx hb dX13_makeRow_33 hl (k := 3) rfl e_11 (by decide) rfl (fun ls hl => ?_)
              refine lv_goto (tgt := 16) hx hb dX13_makeRow_36 (by decide) ?_
              exact ih16 v1 v2 x_10 u_8 _ _ _ (lv_sub hl [1, 2, 3, 0] rfl) hH hF
        refine hL16 _ (fun v1 v2 v3 u H locs ls hl hH hF => ?_) fuel v1 v2 0 u _ _ _ (lv_sub hl [1, 2, 3, 0] rfl) hH hF
        refine lv_iconst (v := 0) hx hb dX13_makeRow_39 (by decide) ?_
        refine lv_istore_n (lv' := [(3, .int 0), (0, .ref (Q 72)), (1, .int v1), (2, .int v2)]) hx hb dX13_makeRow_40 rfl hl (by decide) rfl (fun ls hl => ?_)
        have hL41 : ∀ (K41_111 : Int32 → Int32 → Int32 → MS → Option (Int32 × MS)), (∀ (v1 v2 v3 : Int32) (u : MS) (H : Heap) (locs : List Loc) (ls : Array Slot), lv_has ls 6 [(0, .ref (Q 72)), (1, .int v1), (2, .int v2), (3, .int v3)] → mH G Q u s H locs → K41_111 v1 v2 v3 u = some ((r, u1)) → W p l e (headSpec (Cond.code yX13_makeRow cX13_makeRow 6 none :: wM) { frames := 0, cells := 0, slots := 0, locals := 0 }).room s m [.ref (Q 72), .int a0].toArray below meth c H locs 0 0 (MQ below (mQv G Q u1 s.heap.size) [.ref (Q 72), .int a0].toArray s 0 0 (mA Q s.heap.size)) (F0 m 111 ls [])) → ∀ (n41 : Nat) (v1 v2 v3 : Int32) (u : MS) (H : Heap) (locs : List Loc) (ls : Array Slot), lv_has ls 6 [(0, .ref (Q 72)), (1, .int v1), (2, .int v2), (3, .int v3)] → mH G Q u s H locs → lp_makeRow_41 n41 v1 v2 v3 u K41_111 = some ((r, u1)) → W p l e (headSpec (Cond.code yX13_makeRow cX13_makeRow 6 none :: wM) { frames := 0, cells := 0, slots := 0, locals := 0 }).room s m [.ref (Q 72), .int a0].toArray below meth c H locs 0 0 (MQ below (mQv G Q u1 s.heap.size) [.ref (Q 72), .int a0].toArray s 0 0 (mA Q s.heap.size)) (F0 m 41 ls []) := by
          intro K41_111 hK41_111 n41
          induction n41 with
          | zero => intro v1 v2 v3 u H locs ls hl hH hF; cases hF
          | succ n41 ih41 =>
            intro v1 v2 v3 u H locs ls hl hH hF
            unfold lp_makeRow_41 at hF
            refine lv_iload_n hx hb dX13_makeRow_41 rfl (lv_at hl 3 rfl) ?_
            refine lv_iload_n hx hb dX13_makeRow_42 rfl (lv_at hl 2 rfl) ?_
            refine lv_icmp_ge (tgt := 111) hx hb dX13_makeRow_43 (by decide) (fun c_12 => ?_) (fun c_12 => ?_)
            · rw [if_pos c_12] at hF
              exact hK41_111 v1 v2 v3 u _ _ _ (lv_sub hl [0, 1, 2, 3] rfl) hH hF
            · rw [if_neg c_12] at hF
              refine lv_aload_n hx hb dX13_makeRow_46 rfl (lv_at hl 0 rfl) ?_
              refine mg_58 hC hH dX13_makeRow_47 ?_
              refine lv_iload_n hx hb dX13_makeRow_50 rfl (lv_at hl 3 rfl) ?_
              obtain ⟨g_13, hF⟩ := og_some hF
              refine ml_58 hC hH g_13 dX13_makeRow_51 ?_
              obtain ⟨x_14, e_15, hF⟩ := li_some hF
              refine gx_ti e_15 ?_
              refine lv_istore (lv' := [(4, .int x_14), (0, .ref (Q 72)), (1, .int v1), (2, .int v2), (3, .int v3)]) hx hb dX13_makeRow_52 hl (by decide) rfl (fun ls hl => ?_)
              refine lv_iload hx hb dX13_makeRow_54 (lv_at hl 0 rfl) ?_
              refine lv_iconst (v := 2) hx hb dX13_makeRow_56 (by decide) ?_
              refine lv_irem hx hb dX13_makeRow_57 (by decide) ?_
              refine lv_if_ne (tgt := 68) hx hb dX13_makeRow_58 (by decide) (fun c_16 => ?_) (fun c_16 => ?_)
              · rw [if_neg c_16] at hF
                refine lv_iconst (v := 2) hx hb dX13_makeRow_68 (by decide) ?_
                refine lv_iload hx hb dX13_makeRow_69 (lv_at hl 0 rfl) ?_
                refine lv_imul hx hb dX13_makeRow_71 ?_
                refine lv_iconst (v := 1) hx hb dX13_makeRow_72 (by decide) ?_
                refine lv_iadd hx hb dX13_makeRow_73 ?_
                obtain ⟨x_17, e_18, hF⟩ := li_some hF
                refine gx_ti e_18 ?_
                refine lv_istore (lv' := [(5, .int x_17), (4, .int x_14), (0, .ref (Q 72)), (1, .int v1), (2, .int v2), (3, .int v3)]) hx hb dX13_makeRow_74 hl (by decide) rfl (fun ls hl => ?_)
                refine lv_aload_n hx hb dX13_makeRow_76 rfl (lv_at hl 2 rfl) ?_
                refine mg_57 hC hH dX13_makeRow_77 ?_
                refine lv_iload_n hx hb dX13_makeRow_80 rfl (lv_at hl 5 rfl) ?_
                refine lv_iload hx hb dX13_makeRow_81 (lv_at hl 0 rfl) ?_
                obtain ⟨g_19, hF⟩ := og_some hF
                obtain ⟨u_20, e_21, hF⟩ := lu_some hF
                refine ms_57 hC hH e_21 g_19 dX13_makeRow_83 (fun H locs hH => ?_)
                refine lv_aload_n hx hb dX13_makeRow_84 rfl (lv_at hl 2 rfl) ?_
                refine mg_57 hC hH dX13_makeRow_85 ?_
                refine lv_iconst (v := 2) hx hb dX13_makeRow_88 (by decide) ?_
                refine lv_iload_n hx hb dX13_makeRow_89 rfl (lv_at hl 4 rfl) ?_
                refine lv_imul hx hb dX13_makeRow_90 ?_
                refine lv_iconst (v := 1) hx hb dX13_makeRow_91 (by decide) ?_
                refine lv_isub hx hb dX13_makeRow_92 ?_
                refine lv_iload_n hx hb dX13_makeRow_93 rfl (lv_at hl 5 rfl) ?_
                refine lv_isub hx hb dX13_makeRow_94 ?_
                refine lv_iconst (v := 4) hx hb dX13_makeRow_95 (by decide) ?_
                refine lv_iload hx hb dX13_makeRow_96 (lv_at hl 1 rfl) ?_
                refine lv_imul hx hb dX13_makeRow_98 ?_
                refine lv_iconst (v := 1) hx hb dX13_makeRow_99 (by decide) ?_
                refine lv_iadd hx hb dX13_makeRow_100 ?_
                refine lv_iload hx hb dX13_makeRow_101 (lv_at hl 0 rfl) ?_
                refine lv_isub hx hb dX13_makeRow_103 ?_
                obtain ⟨g_22, hF⟩ := og_some hF
                obtain ⟨u_23, e_24, hF⟩ := lu_some hF
                refine ms_57 hC hH e_24 g_22 dX13_makeRow_104 (fun H locs hH => ?_)
                obtain ⟨x_25, e_26, hF⟩ := li_some hF
                refine lv_iinc (v := x_25) (lv' := [(3, .int x_25), (5, .int x_17), (4, .int x_14), (0, .ref (Q 72)), (1, .int v1), (2, .int v2)]) hx hb dX13_makeRow_105 hl (k := 5) rfl e_26 (by decide) rfl (fun ls hl => ?_)
                refine lv_goto (tgt := 41) hx hb dX13_makeRow_108 (by decide) ?_
                exact ih41 v1 v2 x_25 u_23 _ _ _ (lv_sub hl [3, 4, 5, 0] rfl) hH hF
              · rw [if_pos c_16] at hF
                refine lv_iconst (v := 2) hx hb dX13_makeRow_61 (by decide) ?_
                refine lv_iload hx hb dX13_makeRow_62 (lv_at hl 0 rfl) ?_
                refine lv_imul hx hb dX13_makeRow_64 ?_
                refine lv_goto (tgt := 74) hx hb dX13_makeRow_65 (by decide) ?_
                obtain ⟨x_27, e_28, hF⟩ := li_some hF
                refine gx_ti e_28 ?_
                refine lv_istore (lv' := [(5, .int x_27), (4, .int x_14), (0, .ref (Q 72)), (1, .int v1), (2, .int v2), (3, .int v3)]) hx hb dX13_makeRow_74 hl (by decide) rfl (fun ls hl => ?_)
                refine lv_aload_n hx hb dX13_makeRow_76 rfl (lv_at hl 2 rfl) ?_
                refine mg_57 hC hH dX13_makeRow_77 ?_
                refine lv_iload_n hx hb dX13_makeRow_80 rfl (lv_at hl 5 rfl) ?_
                refine lv_iload hx hb dX13_makeRow_81 (lv_at hl 0 rfl) ?_
                obtain ⟨g_29, hF⟩ := og_some hF
                obtain ⟨u_30, e_31, hF⟩ := lu_some hF
                refine ms_57 hC hH e_31 g_29 dX13_makeRow_83 (fun H locs hH => ?_)
                refine lv_aload_n hx hb dX13_makeRow_84 rfl (lv_at hl 2 rfl) ?_
                refine mg_57 hC hH dX13_makeRow_85 ?_
                refine lv_iconst (v := 2) hx hb dX13_makeRow_88 (by decide) ?_
                refine lv_iload_n hx hb dX13_makeRow_89 rfl (lv_at hl 4 rfl) ?_
                refine lv_imul hx hb dX13_makeRow_90 ?_
                refine lv_iconst (v := 1) hx hb dX13_makeRow_91 (by decide) ?_
                refine lv_isub hx hb dX13_makeRow_92 ?_
                refine lv_iload_n hx hb dX13_makeRow_93 rfl (lv_at hl 5 rfl) ?_
                refine lv_isub hx hb dX13_makeRow_94 ?_
                refine lv_iconst (v := 4) hx hb dX13_makeRow_95 (by decide) ?_
                refine lv_iload hx hb dX13_makeRow_96 (lv_at hl 1 rfl) ?_
                refine lv_imul hx hb dX13_makeRow_98 ?_
                refine lv_iconst (v := 1) hx hb dX13_makeRow_99 (by decide) ?_
                refine lv_iadd hx hb dX13_makeRow_100 ?_
                refine lv_iload hx hb dX13_makeRow_101 (lv_at hl 0 rfl) ?_
                refine lv_isub hx hb dX13_makeRow_103 ?_
                obtain ⟨g_32, hF⟩ := og_some hF
                obtain ⟨u_33, e_34, hF⟩ := lu_some hF
                refine ms_57 hC hH e_34 g_32 dX13_makeRow_104 (fun H locs hH => ?_)
                obtain ⟨x_35, e_36, hF⟩ := li_some hF
                refine lv_iinc (v := x_35) (lv' := [(3, .int x_35), (5, .int x_27), (4, .int x_14), (0, .ref (Q 72)), (1, .int v1), (2, .int v2)]) hx hb dX13_makeRow_105 hl (k := 5) rfl e_36 (by decide) rfl (fun ls hl => ?_)
                refine lv_goto (tgt := 41) hx hb dX13_makeRow_108 (by decide) ?_
                exact ih41 v1 v2 x_35 u_33 _ _ _ (lv_sub hl [3, 4, 5, 0] rfl) hH hF
        refine hL41 _ (fun v1 v2 v3 u H locs ls hl hH hF => ?_) fuel v1 v2 0 u _ _ _ (lv_sub hl [1, 2, 3, 0] rfl) hH hF
        refine lv_iload_n hx hb dX13_makeRow_111 rfl (lv_at hl 2 rfl) ?_
        refine lv_iconst (v := 2) hx hb dX13_makeRow_112 (by decide) ?_
        refine lv_imul hx hb dX13_makeRow_113 ?_
        obtain ⟨x_37, e_38, hF⟩ := li_some hF
        refine gx_ti e_38 ?_
        refine lv_istore_n (lv' := [(2, .int x_37), (0, .ref (Q 72)), (1, .int v1), (3, .int v3)]) hx hb dX13_makeRow_114 rfl hl (by decide) rfl (fun ls hl => ?_)
        refine lv_goto (tgt := 9) hx hb dX13_makeRow_115 (by decide) ?_
        exact ih9 v1 x_37 u _ _ _ (lv_sub hl [1, 2, 0] rfl) hH hF
  refine hL9 _ (fun v1 v2 u H locs ls hl hH hF => ?_) fuel a0 1 u_2 _ _ _ (lv_sub hl [1, 2, 0] rfl) hH hF
  exact mr_v hC hH hr hF dX13_makeRow_118 hlocks
def f_isOther (a0 : Int32) (a1 : Int32) (u : MS) : Option (Int32 × MS) := og (gi a1 96) ((if (ra u 5 a1) = a0 then og (gi a1 96) ((if (ra u 8 a1) = 1 then og (gi a1 96) ((if (ra u 9 a1) = 0 then some (1, u) else some (0, u))) else some (0, u))) else some (0, u)))
set_option maxHeartbeats 4000000 in
set_option maxRecDepth 100000 in
theorem m_isOther (l : Launch) (G : gG) (Z : gM) (Q : Nat → Nat) (u u1 : MS) (r : Int32) (a0 : Int32) (a1 : Int32) (sz : Nat) (hF : f_isOther a0 a1 u = some (r, u1)) : Met l yX13_isOther (Cond.code yX13_isOther cX13_isOther 3 (some .boolean) :: wM) { frames := 0, cells := 0, slots := 0, locals := 0 } (va_Pc [.ref (Q 72), .int a0, .int a1] (mPM G Z Q u sz)) (mQi G Q u1 r sz) 0 0 (mA Q sz) := by
  refine Met.ofW (cc := cX13_isOther) (maxL := 3) (ret := (some .boolean)) (by decide) rfl ?_
  intro p e s m args below meth c s₁ B hml hv
  obtain ⟨rfl, rfl, hP, hB, hD, hE⟩ := hv
  have hr := B.returns
  have hlocks := B.notSynchronized
  have hts := atoms_spec (ws := Cond.code yX13_isOther cX13_isOther 3 (some .boolean) :: wM) B.pre
  have hC : mX p c cX13_isOther 3 s m _ G Z Q := ⟨B.exec, B.bytes, hml, findClass_of_methodNamed B.named, fun w h => hts w (List.mem_cons_of_mem _ h), hB, hE⟩
  have hx := hC.1
  have hb := hC.2.1
  have hH : mH G Q u s s.heap [] := ⟨hP, hD, va_S.rf⟩
  have hl := lv_entry ([.ref (Q 72), .int a0, .int a1]) (n := 3) (Nat.le_of_ble_eq_true rfl)
  rw [lg_entry_eq]
  generalize (lg_sl ([.ref (Q 72), .int a0, .int a1]) ++ List.replicate (3 - (lg_sl ([.ref (Q 72), .int a0, .int a1])).length) Slot.unset).toArray = ls at hl ⊢
  have hl : lv_has ls 3 [(0, .ref (Q 72)), (1, .int a0), (2, .int a1)] := hl
  unfold f_isOther at hF
  refine lv_aload_n hx hb dX13_isOther_0 rfl (lv_at hl 0 rfl) ?_
  refine mg_5 hC hH dX13_isOther_1 ?_
  refine lv_iload_n hx hb dX13_isOther_4 rfl (lv_at hl 2 rfl) ?_
  obtain ⟨g_1, hF⟩ := og_some hF
  refine ml_5 hC hH g_1 dX13_isOther_5 ?_
  refine lv_iload_n hx hb dX13_isOther_6 rfl (lv_at hl 1 rfl) ?_
  refine lv_icmp_ne (tgt := 33) hx hb dX13_isOther_7 (by decide) (fun c_2 => ?_) (fun c_2 => ?_)
  · rw [if_neg c_2] at hF
    refine lv_iconst (v := 0) hx hb dX13_isOther_33 (by decide) ?_
    exact mr_z hC hH hr rfl hF dX13_isOther_34 hlocks
  · rw [if_pos c_2] at hF
    refine lv_aload_n hx hb dX13_isOther_10 rfl (lv_at hl 0 rfl) ?_
    refine mg_8 hC hH dX13_isOther_11 ?_
    refine lv_iload_n hx hb dX13_isOther_14 rfl (lv_at hl 2 rfl) ?_
    obtain ⟨g_3, hF⟩ := og_some hF
    refine ml_8 hC hH g_3 dX13_isOther_15 ?_
    refine lv_iconst (v := 1) hx hb dX13_isOther_16 (by decide) ?_
    refine lv_icmp_ne (tgt := 33) hx hb dX13_isOther_17 (by decide) (fun c_4 => ?_) (fun c_4 => ?_)
    · rw [if_neg c_4] at hF
      refine lv_iconst (v := 0) hx hb dX13_isOther_33 (by decide) ?_
      exact mr_z hC hH hr rfl hF dX13_isOther_34 hlocks
    · rw [if_pos c_4] at hF
      refine lv_aload_n hx hb dX13_isOther_20 rfl (lv_at hl 0 rfl) ?_
      refine mg_9 hC hH dX13_isOther_21 ?_
      refine lv_iload_n hx hb dX13_isOther_24 rfl (lv_at hl 2 rfl) ?_
      obtain ⟨g_5, hF⟩ := og_some hF
      refine ml_9 hC hH g_5 dX13_isOther_25 ?_
      refine lv_if_ne (tgt := 33) hx hb dX13_isOther_26 (by decide) (fun c_6 => ?_) (fun c_6 => ?_)
      · rw [if_neg c_6] at hF
        refine lv_iconst (v := 0) hx hb dX13_isOther_33 (by decide) ?_
        exact mr_z hC hH hr rfl hF dX13_isOther_34 hlocks
      · rw [if_pos c_6] at hF
        refine lv_iconst (v := 1) hx hb dX13_isOther_29 (by decide) ?_
        refine lv_goto (tgt := 34) hx hb dX13_isOther_30 (by decide) ?_
        exact mr_z hC hH hr rfl hF dX13_isOther_34 hlocks
def f_settle (a0 : Int32) (a1 : Int32) (a2 : Int32) (u : MS) : Option (Int32 × MS) := og (gi ((32 * a0) + a2) 128) (lu (wa u 14 ((32 * a0) + a2) a1) (fun u_2 => og (gi a1 96) (lu (wa u_2 10 a1 a2) (fun u_5 => og (gi a2 32) (lu (wa u_5 60 a2 (vp_nar .boolean 1)) (fun u_8 => some (0, u_8)))))))
set_option maxHeartbeats 4000000 in
set_option maxRecDepth 100000 in
theorem m_settle (l : Launch) (G : gG) (Z : gM) (Q : Nat → Nat) (u u1 : MS) (r : Int32) (a0 : Int32) (a1 : Int32) (a2 : Int32) (sz : Nat) (hF : f_settle a0 a1 a2 u = some (r, u1)) : Met l yX13_settle (Cond.code yX13_settle cX13_settle 4 none :: wM) { frames := 0, cells := 0, slots := 0, locals := 0 } (va_Pc [.ref (Q 72), .int a0, .int a1, .int a2] (mPM G Z Q u sz)) (mQv G Q u1 sz) 0 0 (mA Q sz) := by
  refine Met.ofW (cc := cX13_settle) (maxL := 4) (ret := none) (by decide) rfl ?_
  intro p e s m args below meth c s₁ B hml hv
  obtain ⟨rfl, rfl, hP, hB, hD, hE⟩ := hv
  have hr := B.returns
  have hlocks := B.notSynchronized
  have hts := atoms_spec (ws := Cond.code yX13_settle cX13_settle 4 none :: wM) B.pre
  have hC : mX p c cX13_settle 4 s m _ G Z Q := ⟨B.exec, B.bytes, hml, findClass_of_methodNamed B.named, fun w h => hts w (List.mem_cons_of_mem _ h), hB, hE⟩
  have hx := hC.1
  have hb := hC.2.1
  have hH : mH G Q u s s.heap [] := ⟨hP, hD, va_S.rf⟩
  have hl := lv_entry ([.ref (Q 72), .int a0, .int a1, .int a2]) (n := 4) (Nat.le_of_ble_eq_true rfl)
  rw [lg_entry_eq]
  generalize (lg_sl ([.ref (Q 72), .int a0, .int a1, .int a2]) ++ List.replicate (4 - (lg_sl ([.ref (Q 72), .int a0, .int a1, .int a2])).length) Slot.unset).toArray = ls at hl ⊢
  have hl : lv_has ls 4 [(0, .ref (Q 72)), (1, .int a0), (2, .int a1), (3, .int a2)] := hl
  unfold f_settle at hF
  refine lv_aload_n hx hb dX13_settle_0 rfl (lv_at hl 0 rfl) ?_
  refine mg_14 hC hH dX13_settle_1 ?_
  refine lv_bipush (v := 32) hx hb dX13_settle_4 (by decide) ?_
  refine lv_iload_n hx hb dX13_settle_6 rfl (lv_at hl 1 rfl) ?_
  refine lv_imul hx hb dX13_settle_7 ?_
  refine lv_iload_n hx hb dX13_settle_8 rfl (lv_at hl 3 rfl) ?_
  refine lv_iadd hx hb dX13_settle_9 ?_
  refine lv_iload_n hx hb dX13_settle_10 rfl (lv_at hl 2 rfl) ?_
  obtain ⟨g_1, hF⟩ := og_some hF
  obtain ⟨u_2, e_3, hF⟩ := lu_some hF
  refine ms_14 hC hH e_3 g_1 dX13_settle_11 (fun H locs hH => ?_)
  refine lv_aload_n hx hb dX13_settle_12 rfl (lv_at hl 0 rfl) ?_
  refine mg_10 hC hH dX13_settle_13 ?_
  refine lv_iload_n hx hb dX13_settle_16 rfl (lv_at hl 2 rfl) ?_
  refine lv_iload_n hx hb dX13_settle_17 rfl (lv_at hl 3 rfl) ?_
  obtain ⟨g_4, hF⟩ := og_some hF
  obtain ⟨u_5, e_6, hF⟩ := lu_some hF
  refine ms_10 hC hH e_6 g_4 dX13_settle_18 (fun H locs hH => ?_)
  refine lv_aload_n hx hb dX13_settle_19 rfl (lv_at hl 0 rfl) ?_
  refine mg_60 hC hH dX13_settle_20 ?_
  refine lv_iload_n hx hb dX13_settle_23 rfl (lv_at hl 3 rfl) ?_
  refine lv_iconst (v := 1) hx hb dX13_settle_24 (by decide) ?_
  obtain ⟨g_7, hF⟩ := og_some hF
  obtain ⟨u_8, e_9, hF⟩ := lu_some hF
  refine ms_60 hC hH e_9 g_7 dX13_settle_25 (fun H locs hH => ?_)
  exact mr_v hC hH hr hF dX13_settle_26 hlocks
def lp_bestPlace_87 : Nat → Int32 → Int32 → Int32 → Int32 → Int32 → Int32 → Int32 → Int32 → Int32 → Int32 → Int32 → MS → (Int32 → Int32 → Int32 → Int32 → Int32 → Int32 → Int32 → Int32 → Int32 → Int32 → Int32 → MS → Option (Int32 × MS)) → Option (Int32 × MS)
  | 0, _, _, _, _, _, _, _, _, _, _, _, _, _ => none
  | n87 + 1, v1, v2, v3, v4, v5, v6, v7, v8, v9, v10, v11, u, K87_110 => (if (v7 >>> ((v11 + 1) &&& 31)) = (v9 >>> ((v11 + 1) &&& 31)) then K87_110 v1 v2 v3 v4 v5 v6 v7 v8 v9 v10 v11 u else li (v11 + 1) (fun x_17 => lp_bestPlace_87 n87 v1 v2 v3 v4 v5 v6 v7 v8 v9 v10 x_17 u K87_110))
def lp_bestPlace_44 : Nat → Int32 → Int32 → Int32 → Int32 → Int32 → Int32 → Int32 → Int32 → Int32 → MS → (Int32 → Int32 → Int32 → Int32 → Int32 → Int32 → Int32 → Int32 → Int32 → MS → Option (Int32 × MS)) → Option (Int32 × MS)
  | 0, _, _, _, _, _, _, _, _, _, _, _ => none
  | n44 + 1, v1, v2, v3, v4, v5, v6, v7, v8, v9, u, K44_125 => (if v3 ≤ v9 then K44_125 v1 v2 v3 v4 v5 v6 v7 v8 v9 u else og (gi ((32 * v1) + v9) 128) (li (ra u 14 ((32 * v1) + v9)) (fun x_9 => (if x_9 = (-1) then li (v9 + 1) (fun x_12 => lp_bestPlace_44 n44 v1 v2 v3 v4 v5 v6 v7 v8 x_12 u K44_125) else og (gi x_9 96) ((if (ra u 6 x_9) = v2 then lp_bestPlace_87 fuel v1 v2 v3 v4 v5 v6 v7 v8 v9 x_9 0 u (fun v1 v2 v3 v4 v5 v6 v7 v8 v9 v10 v11 u => li (if v11 < v8 then v11 else v8) (fun x_19 => li (v9 + 1) (fun x_21 => lp_bestPlace_44 n44 v1 v2 v3 v4 v5 v6 v7 x_19 x_21 u K44_125))) else li (v9 + 1) (fun x_23 => lp_bestPlace_44 n44 v1 v2 v3 v4 v5 v6 v7 v8 x_23 u K44_125)))))))
def lp_bestPlace_9 : Nat → Int32 → Int32 → Int32 → Int32 → Int32 → Int32 → MS → (Int32 → Int32 → Int32 → Int32 → Int32 → Int32 → MS → Option (Int32 × MS)) → Option (Int32 × MS)
  | 0, _, _, _, _, _, _, _, _ => none
  | n9 + 1, v1, v2, v3, v4, v5, v6, u, K9_149 => (if v3 ≤ v6 then K9_149 v1 v2 v3 v4 v5 v6 u else og (gi v6 32) (li (ra u 57 v6) (fun x_3 => og (gi x_3 32) ((if (ra u 60 x_3) = 0 then lp_bestPlace_44 fuel v1 v2 v3 v4 v5 v6 x_3 99 0 u (fun v1 v2 v3 v4 v5 v6 v7 v8 v9 u => (if v5 < v8 then li (v6 + 1) (fun x_26 => lp_bestPlace_9 n9 v1 v2 v3 v7 v8 x_26 u K9_149) else li (v6 + 1) (fun x_28 => lp_bestPlace_9 n9 v1 v2 v3 v4 v5 x_28 u K9_149))) else li (v6 + 1) (fun x_30 => lp_bestPlace_9 n9 v1 v2 v3 v4 v5 x_30 u K9_149))))))
def f_bestPlace (a0 : Int32) (a1 : Int32) (a2 : Int32) (u : MS) : Option (Int32 × MS) := lp_bestPlace_9 fuel a0 a1 a2 (-1) (-1) 0 u (fun v1 v2 v3 v4 v5 v6 u => some (v4, u))
set_option maxHeartbeats 4000000 in
set_option maxRecDepth 100000 in
theorem m_bestPlace (l : Launch) (G : gG) (Z : gM) (Q : Nat → Nat) (u u1 : MS) (r : Int32) (a0 : Int32) (a1 : Int32) (a2 : Int32) (sz : Nat) (hF : f_bestPlace a0 a1 a2 u = some (r, u1)) : Met l yX13_bestPlace (Cond.code yX13_bestPlace cX13_bestPlace 12 (some .int) :: wM) { frames := 1, cells := 0, slots := 0, locals := 13 } (va_Pc [.ref (Q 72), .int a0, .int a1, .int a2] (mPM G Z Q u sz)) (mQi G Q u1 r sz) 0 0 (mA Q sz) := by
  refine Met.ofW (cc := cX13_bestPlace) (maxL := 12) (ret := (some .int)) (by decide) rfl ?_
  intro p e s m args below meth c s₁ B hml hv
  obtain ⟨rfl, rfl, hP, hB, hD, hE⟩ := hv
  have hr := B.returns
  have hlocks := B.notSynchronized
  have hts := atoms_spec (ws := Cond.code yX13_bestPlace cX13_bestPlace 12 (some .int) :: wM) B.pre
  have hC : mX p c cX13_bestPlace 12 s m _ G Z Q := ⟨B.exec, B.bytes, hml, findClass_of_methodNamed B.named, fun w h => hts w (List.mem_cons_of_mem _ h), hB, hE⟩
  have hx := hC.1
  have hb := hC.2.1
  have hH : mH G Q u s s.heap [] := ⟨hP, hD, va_S.rf⟩
  have hl := lv_entry ([.ref (Q 72), .int a0, .int a1, .int a2]) (n := 12) (Nat.le_of_ble_eq_true rfl)
  rw [lg_entry_eq]
  generalize (lg_sl ([.ref (Q 72), .int a0, .int a1, .int a2]) ++ List.replicate (12 - (lg_sl ([.ref (Q 72), .int a0, .int a1, .int a2])).length) Slot.unset).toArray = ls at hl ⊢
  have hl : lv_has ls 12 [(0, .ref (Q 72)), (1, .int a0), (2, .int a1), (3, .int a2)] := hl
  unfold f_bestPlace at hF
  refine lv_iconst (v := (-1)) hx hb dX13_bestPlace_0 (by decide) ?_
  refine lv_istore (lv' := [(4, .int (-1)), (0, .ref (Q 72)), (1, .int a0), (2, .int a1), (3, .int a2)]) hx hb dX13_bestPlace_1 hl (by decide) rfl (fun ls hl => ?_)
  refine lv_iconst (v := (-1)) hx hb dX13_bestPlace_3 (by decide) ?_
  refine lv_istore (lv' := [(5, .int (-1)), (4, .int (-1)), (0, .ref (Q 72)), (1, .int a0), (2, .int a1), (3, .int a2)]) hx hb dX13_bestPlace_4 hl (by decide) rfl (fun ls hl => ?_)
  refine lv_iconst (v := 0) hx hb dX13_bestPlace_6 (by decide) ?_
  refine lv_istore (lv' := [(6, .int 0), (5, .int (-1)), (4, .int (-1)), (0, .ref (Q 72)), (1, .int a0), (2, .int a1), (3, .int a2)]) hx hb dX13_bestPlace_7 hl (by decide) rfl (fun ls hl => ?_)
  have hL9 : ∀ (K9_149 : Int32 → Int32 → Int32 → Int32 → Int32 → Int32 → MS → Option (Int32 × MS)), (∀ (v1 v2 v3 v4 v5 v6 : Int32) (u : MS) (H : Heap) (locs : List Loc) (ls : Array Slot), lv_has ls 12 [(0, .ref (Q 72)), (1, .int v1), (2, .int v2), (3, .int v3), (4, .int v4), (5, .int v5), (6, .int v6)] → mH G Q u s H locs → K9_149 v1 v2 v3 v4 v5 v6 u = some ((r, u1)) → W p l e (headSpec (Cond.code yX13_bestPlace cX13_bestPlace 12 (some .int) :: wM) { frames := 1, cells := 0, slots := 0, locals := 13 }).room s m [.ref (Q 72), .int a0, .int a1, .int a2].toArray below meth c H locs 0 0 (MQ below (mQi G Q u1 r s.heap.size) [.ref (Q 72), .int a0, .int a1, .int a2].toArray s 0 0 (mA Q s.heap.size)) (F0 m 149 ls [])) → ∀ (n9 : Nat) (v1 v2 v3 v4 v5 v6 : Int32) (u : MS) (H : Heap) (locs : List Loc) (ls : Array Slot), lv_has ls 12 [(0, .ref (Q 72)), (1, .int v1), (2, .int v2), (3, .int v3), (4, .int v4), (5, .int v5), (6, .int v6)] → mH G Q u s H locs → lp_bestPlace_9 n9 v1 v2 v3 v4 v5 v6 u K9_149 = some ((r, u1)) → W p l e (headSpec (Cond.code yX13_bestPlace cX13_bestPlace 12 (some .int) :: wM) { frames := 1, cells := 0, slots := 0, locals := 13 }).room s m [.ref (Q 72), .int a0, .int a1, .int a2].toArray below meth c H locs 0 0 (MQ below (mQi G Q u1 r s.heap.size) [.ref (Q 72), .int a0, .int a1, .int a2].toArray s 0 0 (mA Q s.heap.size)) (F0 m 9 ls []) := by
    intro K9_149 hK9_149 n9
    induction n9 with
    | zero => intro v1 v2 v3 v4 v5 v6 u H locs ls hl hH hF; cases hF
    | succ n9 ih9 =>
      intro v1 v2 v3 v4 v5 v6 u H locs ls hl hH hF
      unfold lp_bestPlace_9 at hF
      refine lv_iload hx hb dX13_bestPlace_9 (lv_at hl 6 rfl) ?_
      refine lv_iload_n hx hb dX13_bestPlace_11 rfl (lv_at hl 3 rfl) ?_
      refine lv_icmp_ge (tgt := 149) hx hb dX13_bestPlace_12 (by decide) (fun c_1 => ?_) (fun c_1 => ?_)
      · rw [if_pos c_1] at hF
        exact hK9_149 v1 v2 v3 v4 v5 v6 u _ _ _ (lv_sub hl [0, 1, 2, 3, 4, 5, 6] rfl) hH hF
      · rw [if_neg c_1] at hF
        refine lv_aload_n hx hb dX13_bestPlace_15 rfl (lv_at hl 0 rfl) ?_
        refine mg_57 hC hH dX13_bestPlace_16 ?_
        refine lv_iload hx hb dX13_bestPlace_19 (lv_at hl 6 rfl) ?_
        obtain ⟨g_2, hF⟩ := og_some hF
        refine ml_57 hC hH g_2 dX13_bestPlace_21 ?_
        obtain ⟨x_3, e_4, hF⟩ := li_some hF
        refine gx_ti e_4 ?_
        refine lv_istore (lv' := [(7, .int x_3), (0, .ref (Q 72)), (1, .int v1), (2, .int v2), (3, .int v3), (4, .int v4), (5, .int v5), (6, .int v6)]) hx hb dX13_bestPlace_22 hl (by decide) rfl (fun ls hl => ?_)
        refine lv_aload_n hx hb dX13_bestPlace_24 rfl (lv_at hl 1 rfl) ?_
        refine mg_60 hC hH dX13_bestPlace_25 ?_
        refine lv_iload hx hb dX13_bestPlace_28 (lv_at hl 0 rfl) ?_
        obtain ⟨g_5, hF⟩ := og_some hF
        refine ml_60 hC hH g_5 dX13_bestPlace_30 ?_
        refine lv_if_eq (tgt := 37) hx hb dX13_bestPlace_31 (by decide) (fun c_6 => ?_) (fun c_6 => ?_)
        · rw [if_pos c_6] at hF
          refine lv_bipush (v := 99) hx hb dX13_bestPlace_37 (by decide) ?_
          refine lv_istore (lv' := [(8, .int 99), (7, .int x_3), (0, .ref (Q 72)), (1, .int v1), (2, .int v2), (3, .int v3), (4, .int v4), (5, .int v5), (6, .int v6)]) hx hb dX13_bestPlace_39 hl (by decide) rfl (fun ls hl => ?_)
          refine lv_iconst (v := 0) hx hb dX13_bestPlace_41 (by decide) ?_
          refine lv_istore (lv' := [(9, .int 0), (8, .int 99), (7, .int x_3), (0, .ref (Q 72)), (1, .int v1), (2, .int v2), (3, .int v3), (4, .int v4), (5, .int v5), (6, .int v6)]) hx hb dX13_bestPlace_42 hl (by decide) rfl (fun ls hl => ?_)
          have hL44 : ∀ (K44_125 : Int32 → Int32 → Int32 → Int32 → Int32 → Int32 → Int32 → Int32 → Int32 → MS → Option (Int32 × MS)), (∀ (v1 v2 v3 v4 v5 v6 v7 v8 v9 : Int32) (u : MS) (H : Heap) (locs : List Loc) (ls : Array Slot), lv_has ls 12 [(0, .ref (Q 72)), (1, .int v1), (2, .int v2), (3, .int v3), (4, .int v4), (5, .int v5), (6, .int v6), (7, .int v7), (8, .int v8), (9, .int v9)] → mH G Q u s H locs → K44_125 v1 v2 v3 v4 v5 v6 v7 v8 v9 u = some ((r, u1)) → W p l e (headSpec (Cond.code yX13_bestPlace cX13_bestPlace 12 (some .int) :: wM) { frames := 1, cells := 0, slots := 0, locals := 13 }).room s m [.ref (Q 72), .int a0, .int a1, .int a2].toArray below meth c H locs 0 0 (MQ below (mQi G Q u1 r s.heap.size) [.ref (Q 72), .int a0, .int a1, .int a2].toArray s 0 0 (mA Q s.heap.size)) (F0 m 125 ls [])) → ∀ (n44 : Nat) (v1 v2 v3 v4 v5 v6 v7 v8 v9 : Int32) (u : MS) (H : Heap) (locs : List Loc) (ls : Array Slot), lv_has ls 12 [(0, .ref (Q 72)), (1, .int v1), (2, .int v2), (3, .int v3), (4, .int v4), (5, .int v5), (6, .int v6), (7, .int v7), (8, .int v8), (9, .int v9)] → mH G Q u s H locs → lp_bestPlace_44 n44 v1 v2 v3 v4 v5 v6 v7 v8 v9 u K44_125 = some ((r, u1)) → W p l e (headSpec (Cond.code yX13_bestPlace cX13_bestPlace 12 (some .int) :: wM) { frames := 1, cells := 0, slots := 0, locals := 13 }).room s m [.ref (Q 72), .int a0, .int a1, .int a2].toArray below meth c H locs 0 0 (MQ below (mQi G Q u1 r s.heap.size) [.ref (Q 72), .int a0, .int a1, .int a2].toArray s 0 0 (mA Q s.heap.size)) (F0 m 44 ls []) := by
            intro K44_125 hK44_125 n44
            induction n44 with
            | zero => intro v1 v2 v3 v4 v5 v6 v7 v8 v9 u H locs ls hl hH hF; cases hF
            | succ n44 ih44 =>
              intro v1 v2 v3 v4 v5 v6 v7 v8 v9 u H locs ls hl hH hF
              unfold lp_bestPlace_44 at hF
              refine lv_iload hx hb dX13_bestPlace_44 (lv_at hl 9 rfl) ?_
              refine lv_iload_n hx hb dX13_bestPlace_46 rfl (lv_at hl 3 rfl) ?_
              refine lv_icmp_ge (tgt := 125) hx hb dX13_bestPlace_47 (by decide) (fun c_7 => ?_) (fun c_7 => ?_)
              · rw [if_pos c_7] at hF
                exact hK44_125 v1 v2 v3 v4 v5 v6 v7 v8 v9 u _ _ _ (lv_sub hl [0, 1, 2, 3, 4, 5, 6, 7, 8, 9] rfl) hH hF
              · rw [if_neg c_7] at hF
                refine lv_aload_n hx hb dX13_bestPlace_50 rfl (lv_at hl 0 rfl) ?_
                refine mg_14 hC hH dX13_bestPlace_51 ?_
                refine lv_bipush (v := 32) hx hb dX13_bestPlace_54 (by decide) ?_
                refine lv_iload_n hx hb dX13_bestPlace_56 rfl (lv_at hl 1 rfl) ?_
                refine lv_imul hx hb dX13_bestPlace_57 ?_
                refine lv_iload hx hb dX13_bestPlace_58 (lv_at hl 9 rfl) ?_
                refine lv_iadd hx hb dX13_bestPlace_60 ?_
                obtain ⟨g_8, hF⟩ := og_some hF
                refine ml_14 hC hH g_8 dX13_bestPlace_61 ?_
                obtain ⟨x_9, e_10, hF⟩ := li_some hF
                refine gx_ti e_10 ?_
                refine lv_istore (lv' := [(10, .int x_9), (0, .ref (Q 72)), (1, .int v1), (2, .int v2), (3, .int v3), (4, .int v4), (5, .int v5), (6, .int v6), (7, .int v7), (8, .int v8), (9, .int v9)]) hx hb dX13_bestPlace_62 hl (by decide) rfl (fun ls hl => ?_)
                refine lv_iload hx hb dX13_bestPlace_64 (lv_at hl 0 rfl) ?_
                refine lv_iconst (v := (-1)) hx hb dX13_bestPlace_66 (by decide) ?_
                refine lv_icmp_eq (tgt := 119) hx hb dX13_bestPlace_67 (by decide) (fun c_11 => ?_) (fun c_11 => ?_)
                · rw [if_pos c_11] at hF
                  obtain ⟨x_12, e_13, hF⟩ := li_some hF
                  refine lv_iinc (v := x_12) (lv' := [(9, .int x_12), (10, .int x_9), (0, .ref (Q 72)), (1, .int v1), (2, .int v2), (3, .int v3), (4, .int v4), (5, .int v5), (6, .int v6), (7, .int v7), (8, .int v8)]) hx hb dX13_bestPlace_119 hl (k := 10) rfl e_13 (by decide) rfl (fun ls hl => ?_)
                  refine lv_goto (tgt := 44) hx hb dX13_bestPlace_122 (by decide) ?_
                  exact ih44 v1 v2 v3 v4 v5 v6 v7 v8 x_12 u _ _ _ (lv_sub hl [2, 3, 4, 5, 6, 7, 8, 9, 10, 0] rfl) hH hF
                · rw [if_neg c_11] at hF
                  refine lv_aload_n hx hb dX13_bestPlace_70 rfl (lv_at hl 1 rfl) ?_
                  refine mg_6 hC hH dX13_bestPlace_71 ?_
                  refine lv_iload hx hb dX13_bestPlace_74 (lv_at hl 0 rfl) ?_
                  obtain ⟨g_14, hF⟩ := og_some hF
                  refine ml_6 hC hH g_14 dX13_bestPlace_76 ?_
                  refine lv_iload_n hx hb dX13_bestPlace_77 rfl (lv_at hl 3 rfl) ?_
                  refine lv_icmp_eq (tgt := 84) hx hb dX13_bestPlace_78 (by decide) (fun c_15 => ?_) (fun c_15 => ?_)
                  · rw [if_pos c_15] at hF
                    refine lv_iconst (v := 0) hx hb dX13_bestPlace_84 (by decide) ?_
                    refine lv_istore (lv' := [(11, .int 0), (10, .int x_9), (0, .ref (Q 72)), (1, .int v1), (2, .int v2), (3, .int v3), (4, .int v4), (5, .int v5), (6, .int v6), (7, .int v7), (8, .int v8), (9, .int v9)]) hx hb dX13_bestPlace_85 hl (by decide) rfl (fun ls hl => ?_)
                    have hL87 : ∀ (K87_110 : Int32 → Int32 → Int32 → Int32 → Int32 → Int32 → Int32 → Int32 → Int32 → Int32 → Int32 → MS → Option (Int32 × MS)), (∀ (v1 v2 v3 v4 v5 v6 v7 v8 v9 v10 v11 : Int32) (u : MS) (H : Heap) (locs : List Loc) (ls : Array Slot), lv_has ls 12 [(0, .ref (Q 72)), (1, .int v1), (2, .int v2), (3, .int v3), (4, .int v4), (5, .int v5), (6, .int v6), (7, .int v7), (8, .int v8), (9, .int v9), (10, .int v10), (11, .int v11)] → mH G Q u s H locs → K87_110 v1 v2 v3 v4 v5 v6 v7 v8 v9 v10 v11 u = some ((r, u1)) → W p l e (headSpec (Cond.code yX13_bestPlace cX13_bestPlace 12 (some .int) :: wM) { frames := 1, cells := 0, slots := 0, locals := 13 }).room s m [.ref (Q 72), .int a0, .int a1, .int a2].toArray below meth c H locs 0 0 (MQ below (mQi G Q u1 r s.heap.size) [.ref (Q 72), .int a0, .int a1, .int a2].toArray s 0 0 (mA Q s.heap.size)) (F0 m 110 ls [])) → ∀ (n87 : Nat) (v1 v2 v3 v4 v5 v6 v7 v8 v9 v10 v11 : Int32) (u : MS) (H : Heap) (locs : List Loc) (ls : Array Slot), lv_has ls 12 [(0, .ref (Q 72)), (1, .int v1), (2, .int v2), (3, .int v3), (4, .int v4), (5, .int v5), (6, .int v6), (7, .int v7), (8, .int v8), (9, .int v9), (10, .int v10), (11, .int v11)] → mH G Q u s H locs → lp_bestPlace_87 n87 v1 v2 v3 v4 v5 v6 v7 v8 v9 v10 v11 u K87_110 = some ((r, u1)) → W p l e (headSpec (Cond.code yX13_bestPlace cX13_bestPlace 12 (some .int) :: wM) { frames := 1, cells := 0, slots := 0, locals := 13 }).room s m [.ref (Q 72), .int a0, .int a1, .int a2].toArray below meth c H locs 0 0 (MQ below (mQi G Q u1 r s.heap.size) [.ref (Q 72), .int a0, .int a1, .int a2].toArray s 0 0 (mA Q s.heap.size)) (F0 m 87 ls []) := by
                      intro K87_110 hK87_110 n87
                      induction n87 with
                      | zero => intro v1 v2 v3 v4 v5 v6 v7 v8 v9 v10 v11 u H locs ls hl hH hF; cases hF
                      | succ n87 ih87 =>
                        intro v1 v2 v3 v4 v5 v6 v7 v8 v9 v10 v11 u H locs ls hl hH hF
                        unfold lp_bestPlace_87 at hF
                        refine lv_iload hx hb dX13_bestPlace_87 (lv_at hl 7 rfl) ?_
                        refine lv_iload hx hb dX13_bestPlace_89 (lv_at hl 11 rfl) ?_
                        refine lv_iconst (v := 1) hx hb dX13_bestPlace_91 (by decide) ?_
                        refine lv_iadd hx hb dX13_bestPlace_92 ?_
                        refine lv_ishr hx hb dX13_bestPlace_93 ?_
                        refine lv_iload hx hb dX13_bestPlace_94 (lv_at hl 9 rfl) ?_
                        refine lv_iload hx hb dX13_bestPlace_96 (lv_at hl 11 rfl) ?_
                        refine lv_iconst (v := 1) hx hb dX13_bestPlace_98 (by decide) ?_
                        refine lv_iadd hx hb dX13_bestPlace_99 ?_
                        refine lv_ishr hx hb dX13_bestPlace_100 ?_
                        refine lv_icmp_eq (tgt := 110) hx hb dX13_bestPlace_101 (by decide) (fun c_16 => ?_) (fun c_16 => ?_)
                        · rw [if_pos c_16] at hF
                          exact hK87_110 v1 v2 v3 v4 v5 v6 v7 v8 v9 v10 v11 u _ _ _ (lv_sub hl [0, 1, 2, 3, 4, 5, 6, 7, 8, 9, 10, 11] rfl) hH hF
                        · rw [if_neg c_16] at hF
                          obtain ⟨x_17, e_18, hF⟩ := li_some hF
                          refine lv_iinc (v := x_17) (lv' := [(11, .int x_17), (0, .ref (Q 72)), (1, .int v1), (2, .int v2), (3, .int v3), (4, .int v4), (5, .int v5), (6, .int v6), (7, .int v7), (8, .int v8), (9, .int v9), (10, .int v10)]) hx hb dX13_bestPlace_104 hl (k := 11) rfl e_18 (by decide) rfl (fun ls hl => ?_)
                          refine lv_goto (tgt := 87) hx hb dX13_bestPlace_107 (by decide) ?_
                          exact ih87 v1 v2 v3 v4 v5 v6 v7 v8 v9 v10 x_17 u _ _ _ (lv_sub hl [1, 2, 3, 4, 5, 6, 7, 8, 9, 10, 11, 0] rfl) hH hF
                    refine hL87 _ (fun v1 v2 v3 v4 v5 v6 v7 v8 v9 v10 v11 u H locs ls hl hH hF => ?_) fuel v1 v2 v3 v4 v5 v6 v7 v8 v9 x_9 0 u _ _ _ (lv_sub hl [2, 3, 4, 5, 6, 7, 8, 9, 10, 11, 1, 0] rfl) hH hF
                    refine lv_iload hx hb dX13_bestPlace_110 (lv_at hl 8 rfl) ?_
                    refine lv_iload hx hb dX13_bestPlace_112 (lv_at hl 11 rfl) ?_
                    refine va_mmin hx hb (hC.2.2.1.trans hl.1.symm) hC.2.2.2.1 (hC.2.2.2.2.1 _ wma116) (hC.2.2.2.2.1 _ wma377) (hC.2.2.2.2.1 _ wma378) (hC.2.2.2.2.1 _ wma380) (Nat.le_of_ble_eq_true rfl) (Nat.le_of_ble_eq_true rfl) (Nat.le_of_ble_eq_true rfl) (Nat.le_of_ble_eq_true rfl) dX13_bestPlace_114 ?_
                    obtain ⟨x_19, e_20, hF⟩ := li_some hF
                    refine gx_ti e_20 ?_
                    refine lv_istore (lv' := [(8, .int x_19), (0, .ref (Q 72)), (1, .int v1), (2, .int v2), (3, .int v3), (4, .int v4), (5, .int v5), (6, .int v6), (7, .int v7), (9, .int v9), (10, .int v10), (11, .int v11)]) hx hb dX13_bestPlace_117 hl (by decide) rfl (fun ls hl => ?_)
                    obtain ⟨x_21, e_22, hF⟩ := li_some hF
                    refine lv_iinc (v := x_21) (lv' := [(9, .int x_21), (8, .int x_19), (0, .ref (Q 72)), (1, .int v1), (2, .int v2), (3, .int v3), (4, .int v4), (5, .int v5), (6, .int v6), (7, .int v7), (10, .int v10), (11, .int v11)]) hx hb dX13_bestPlace_119 hl (k := 9) rfl e_22 (by decide) rfl (fun ls hl => ?_)
                    refine lv_goto (tgt := 44) hx hb dX13_bestPlace_122 (by decide) ?_
                    exact ih44 v1 v2 v3 v4 v5 v6 v7 x_19 x_21 u _ _ _ (lv_sub hl [2, 3, 4, 5, 6, 7, 8, 9, 1, 0] rfl) hH hF
                  · rw [if_neg c_15] at hF
                    refine lv_goto (tgt := 119) hx hb dX13_bestPlace_81 (by decide) ?_
                    obtain ⟨x_23, e_24, hF⟩ := li_some hF
                    refine lv_iinc (v := x_23) (lv' := [(9, .int x_23), (10, .int x_9), (0, .ref (Q 72)), (1, .int v1), (2, .int v2), (3, .int v3), (4, .int v4), (5, .int v5), (6, .int v6), (7, .int v7), (8, .int v8)]) hx hb dX13_bestPlace_119 hl (k := 10) rfl e_24 (by decide) rfl (fun ls hl => ?_)
                    refine lv_goto (tgt := 44) hx hb dX13_bestPlace_122 (by decide) ?_
                    exact ih44 v1 v2 v3 v4 v5 v6 v7 v8 x_23 u _ _ _ (lv_sub hl [2, 3, 4, 5, 6, 7, 8, 9, 10, 0] rfl) hH hF
          refine hL44 _ (fun v1 v2 v3 v4 v5 v6 v7 v8 v9 u H locs ls hl hH hF => ?_) fuel v1 v2 v3 v4 v5 v6 x_3 99 0 u _ _ _ (lv_sub hl [3, 4, 5, 6, 7, 8, 9, 2, 1, 0] rfl) hH hF
          refine lv_iload hx hb dX13_bestPlace_125 (lv_at hl 8 rfl) ?_
          refine lv_iload hx hb dX13_bestPlace_127 (lv_at hl 5 rfl) ?_
          refine lv_icmp_gt (tgt := 135) hx hb dX13_bestPlace_129 (by decide) (fun c_25 => ?_) (fun c_25 => ?_)
          · rw [if_pos c_25] at hF
            refine lv_iload hx hb dX13_bestPlace_135 (lv_at hl 8 rfl) ?_
            refine lv_istore (lv' := [(5, .int v8), (0, .ref (Q 72)), (1, .int v1), (2, .int v2), (3, .int v3), (4, .int v4), (6, .int v6), (7, .int v7), (8, .int v8), (9, .int v9)]) hx hb dX13_bestPlace_137 hl (by decide) rfl (fun ls hl => ?_)
            refine lv_iload hx hb dX13_bestPlace_139 (lv_at hl 7 rfl) ?_
            refine lv_istore (lv' := [(4, .int v7), (5, .int v8), (0, .ref (Q 72)), (1, .int v1), (2, .int v2), (3, .int v3), (6, .int v6), (7, .int v7), (8, .int v8), (9, .int v9)]) hx hb dX13_bestPlace_141 hl (by decide) rfl (fun ls hl => ?_)
            obtain ⟨x_26, e_27, hF⟩ := li_some hF
            refine lv_iinc (v := x_26) (lv' := [(6, .int x_26), (4, .int v7), (5, .int v8), (0, .ref (Q 72)), (1, .int v1), (2, .int v2), (3, .int v3), (7, .int v7), (8, .int v8), (9, .int v9)]) hx hb dX13_bestPlace_143 hl (k := 6) rfl e_27 (by decide) rfl (fun ls hl => ?_)
            refine lv_goto (tgt := 9) hx hb dX13_bestPlace_146 (by decide) ?_
            exact ih9 v1 v2 v3 v7 v8 x_26 u _ _ _ (lv_sub hl [3, 4, 5, 6, 1, 2, 0] rfl) hH hF
          · rw [if_neg c_25] at hF
            refine lv_goto (tgt := 143) hx hb dX13_bestPlace_132 (by decide) ?_
            obtain ⟨x_28, e_29, hF⟩ := li_some hF
            refine lv_iinc (v := x_28) (lv' := [(6, .int x_28), (0, .ref (Q 72)), (1, .int v1), (2, .int v2), (3, .int v3), (4, .int v4), (5, .int v5), (7, .int v7), (8, .int v8), (9, .int v9)]) hx hb dX13_bestPlace_143 hl (k := 6) rfl e_29 (by decide) rfl (fun ls hl => ?_)
            refine lv_goto (tgt := 9) hx hb dX13_bestPlace_146 (by decide) ?_
            exact ih9 v1 v2 v3 v4 v5 x_28 u _ _ _ (lv_sub hl [1, 2, 3, 4, 5, 6, 0] rfl) hH hF
        · rw [if_neg c_6] at hF
          refine lv_goto (tgt := 143) hx hb dX13_bestPlace_34 (by decide) ?_
          obtain ⟨x_30, e_31, hF⟩ := li_some hF
          refine lv_iinc (v := x_30) (lv' := [(6, .int x_30), (7, .int x_3), (0, .ref (Q 72)), (1, .int v1), (2, .int v2), (3, .int v3), (4, .int v4), (5, .int v5)]) hx hb dX13_bestPlace_143 hl (k := 7) rfl e_31 (by decide) rfl (fun ls hl => ?_)
          refine lv_goto (tgt := 9) hx hb dX13_bestPlace_146 (by decide) ?_
          exact ih9 v1 v2 v3 v4 v5 x_30 u _ _ _ (lv_sub hl [2, 3, 4, 5, 6, 7, 0] rfl) hH hF
  refine hL9 _ (fun v1 v2 v3 v4 v5 v6 u H locs ls hl hH hF => ?_) fuel a0 a1 a2 (-1) (-1) 0 u _ _ _ (lv_sub hl [3, 4, 5, 6, 2, 1, 0] rfl) hH hF
  refine lv_iload hx hb dX13_bestPlace_149 (lv_at hl 4 rfl) ?_
  exact mr_i hC hH hr hF dX13_bestPlace_151 hlocks
def lp_draws_150 : Nat → Int32 → Int32 → Int32 → MS → (Int32 → Int32 → Int32 → MS → Option (Int32 × MS)) → Option (Int32 × MS)
  | 0, _, _, _, _, _ => none
  | n150 + 1, v1, v2, v3, u, K150_185 => og (gi v1 4) ((if (ra u 13 v1) ≤ v3 then K150_185 v1 v2 v3 u else og (gi ((32 * v1) + v3) 128) (lu (wa u 14 ((32 * v1) + v3) (-1)) (fun u_20 => og (gi v3 32) (lu (wa u_20 60 v3 (vp_nar .boolean 0)) (fun u_23 => li (v3 + 1) (fun x_25 => lp_draws_150 n150 v1 v2 x_25 u_23 K150_185)))))))
def lp_draws_187 : Nat → Int32 → Int32 → Int32 → MS → (Int32 → Int32 → Int32 → MS → Option (Int32 × MS)) → Option (Int32 × MS)
  | 0, _, _, _, _, _ => none
  | n187 + 1, v1, v2, v3, u, K187_215 => og (gi v1 4) ((if (ra u 13 v1) ≤ v3 then K187_215 v1 v2 v3 u else og (gi v3 32) (og (gi (ra u 57 v3) 32) (lu (wa u 60 (ra u 57 v3) (vp_nar .boolean 1)) (fun u_31 => li (v3 + 1) (fun x_33 => lp_draws_187 n187 v1 v2 x_33 u_31 K187_215))))))
def lp_draws_230 : Nat → Int32 → Int32 → Int32 → Int32 → Int32 → MS → (Int32 → Int32 → Int32 → Int32 → Int32 → MS → Option (Int32 × MS)) → Option (Int32 × MS)
  | 0, _, _, _, _, _, _, _ => none
  | n230 + 1, v1, v2, v3, v4, v5, u, K230_298 => (if (u.1 2) ≤ v5 then K230_298 v1 v2 v3 v4 v5 u else og (gi v5 96) ((if (ra u 5 v5) = v1 then og (gi v5 96) ((if (ra u 8 v5) = 1 then og (gi v5 96) ((if (ra u 9 v5) = v4 then og (gi v3 32) (ob (f_settle v1 v5 (ra u 57 v3) u) (fun r_48 u_49 => li (v3 + 1) (fun x_51 => li (v5 + 1) (fun x_53 => lp_draws_230 n230 v1 v2 x_51 v4 x_53 u_49 K230_298)))) else li (v5 + 1) (fun x_55 => lp_draws_230 n230 v1 v2 v3 v4 x_55 u K230_298))) else li (v5 + 1) (fun x_43 => lp_draws_230 n230 v1 v2 v3 v4 x_43 u K230_298))) else li (v5 + 1) (fun x_39 => lp_draws_230 n230 v1 v2 v3 v4 x_39 u K230_298))))
def lp_draws_220 : Nat → Int32 → Int32 → Int32 → Int32 → MS → (Int32 → Int32 → Int32 → Int32 → MS → Option (Int32 × MS)) → Option (Int32 × MS)
  | 0, _, _, _, _, _, _ => none
  | n220 + 1, v1, v2, v3, v4, u, K220_304 => (if 8 < v4 then K220_304 v1 v2 v3 v4 u else lp_draws_230 fuel v1 v2 v3 v4 0 u (fun v1 v2 v3 v4 v5 u => li (v4 + 1) (fun x_57 => lp_draws_220 n220 v1 v2 v3 x_57 u K220_304)))
def lp_draws_307 : Nat → Int32 → Int32 → Int32 → Int32 → MS → (Int32 → Int32 → Int32 → Int32 → MS → Option (Int32 × MS)) → Option (Int32 × MS)
  | 0, _, _, _, _, _, _ => none
  | n307 + 1, v1, v2, v3, v4, u, K307_328 => (if 16 ≤ v4 then K307_328 v1 v2 v3 v4 u else og (gi v4 16) (lu (wa u 59 v4 0) (fun u_61 => li (v4 + 1) (fun x_63 => lp_draws_307 n307 v1 v2 v3 x_63 u_61 K307_328))))
def lp_draws_331 : Nat → Int32 → Int32 → Int32 → Int32 → MS → (Int32 → Int32 → Int32 → Int32 → MS → Option (Int32 × MS)) → Option (Int32 × MS)
  | 0, _, _, _, _, _, _ => none
  | n331 + 1, v1, v2, v3, v4, u, K331_372 => (if (u.1 2) ≤ v4 then K331_372 v1 v2 v3 v4 u else ob (f_isOther v1 v4 u) (fun r_66 u_67 => (if r_66 = 0 then li (v4 + 1) (fun x_70 => lp_draws_331 n331 v1 v2 v3 x_70 u_67 K331_372) else og (gi v4 96) (og (gi (ra u_67 6 v4) 16) (og (gi (ra u_67 6 v4) 16) (lu (wa u_67 59 (ra u_67 6 v4) ((ra u_67 59 (ra u_67 6 v4)) + 1)) (fun u_75 => li (v4 + 1) (fun x_77 => lp_draws_331 n331 v1 v2 v3 x_77 u_75 K331_372))))))))
def lp_draws_388 : Nat → Int32 → Int32 → Int32 → Int32 → Int32 → Int32 → MS → (Int32 → Int32 → Int32 → Int32 → Int32 → Int32 → MS → Option (Int32 × MS)) → Option (Int32 × MS)
  | 0, _, _, _, _, _, _, _, _ => none
  | n388 + 1, v1, v2, v3, v4, v5, v6, u, K388_422 => (if 16 ≤ v6 then K388_422 v1 v2 v3 v4 v5 v6 u else og (gi v6 16) (og (gi v5 16) ((if (ra u 59 v6) ≤ (ra u 59 v5) then li (v6 + 1) (fun x_84 => lp_draws_388 n388 v1 v2 v3 v4 v5 x_84 u K388_422) else li (v6 + 1) (fun x_86 => lp_draws_388 n388 v1 v2 v3 v4 v6 x_86 u K388_422)))))
def lp_draws_425 : Nat → Int32 → Int32 → Int32 → Int32 → Int32 → Int32 → MS → (Int32 → Int32 → Int32 → Int32 → Int32 → Int32 → MS → Option (Int32 × MS)) → Option (Int32 × MS)
  | 0, _, _, _, _, _, _, _, _ => none
  | n425 + 1, v1, v2, v3, v4, v5, v6, u, K425_482 => (if (u.1 2) ≤ v6 then K425_482 v1 v2 v3 v4 v5 v6 u else og (gi v6 96) ((if (ra u 6 v6) = v5 then ob (f_isOther v1 v6 u) (fun r_93 u_94 => (if r_93 = 0 then li (v6 + 1) (fun x_97 => lp_draws_425 n425 v1 v2 v3 v4 v5 x_97 u_94 K425_482) else og (gi v1 4) (ob (f_bestPlace v1 v5 (ra u_94 13 v1) u_94) (fun r_100 u_101 => ob (f_settle v1 v6 r_100 u_101) (fun r_103 u_104 => li (v6 + 1) (fun x_106 => lp_draws_425 n425 v1 v2 v3 v4 v5 x_106 u_104 K425_482)))))) else li (v6 + 1) (fun x_91 => lp_draws_425 n425 v1 v2 v3 v4 v5 x_91 u K425_482))))
def lp_draws_375 : Nat → Int32 → Int32 → Int32 → Int32 → MS → (Int32 → Int32 → Int32 → Int32 → MS → Option (Int32 × MS)) → Option (Int32 × MS)
  | 0, _, _, _, _, _, _ => none
  | n375 + 1, v1, v2, v3, v4, u, K375_496 => (if 16 ≤ v4 then K375_496 v1 v2 v3 v4 u else lp_draws_388 fuel v1 v2 v3 v4 0 1 u (fun v1 v2 v3 v4 v5 v6 u => lp_draws_425 fuel v1 v2 v3 v4 v5 0 u (fun v1 v2 v3 v4 v5 v6 u => og (gi v5 16) (lu (wa u 59 v5 (-1)) (fun u_109 => li (v4 + 1) (fun x_111 => lp_draws_375 n375 v1 v2 v3 x_111 u_109 K375_496))))))
def lp_draws_31 : Nat → Int32 → Int32 → Int32 → Int32 → MS → (Int32 → Int32 → Int32 → Int32 → MS → Option (Int32 × MS)) → Option (Int32 × MS)
  | 0, _, _, _, _, _, _ => none
  | n31 + 1, v1, v2, v3, v4, u, K31_95 => (if (u.1 2) ≤ v4 then K31_95 v1 v2 v3 v4 u else og (gi v4 96) ((if (ra u 5 v4) = v1 then og (gi v4 96) ((if (ra u 8 v4) = 1 then og (gi ((32 * v1) + v3) 128) (lu (wa u 14 ((32 * v1) + v3) v4) (fun u_342 => og (gi v4 96) (lu (wa u_342 10 v4 v3) (fun u_345 => li (v3 + 1) (fun x_347 => li (v4 + 1) (fun x_349 => lp_draws_31 n31 v1 v2 x_347 x_349 u_345 K31_95)))))) else li (v4 + 1) (fun x_351 => lp_draws_31 n31 v1 v2 v3 x_351 u K31_95))) else li (v4 + 1) (fun x_337 => lp_draws_31 n31 v1 v2 v3 x_337 u K31_95))))
def f_draws (a0 : Int32) (u : MS) : Option (Int32 × MS) := ob (f_weighed a0 u) (fun r_1 u_2 => (if 6 ≤ r_1 then og (gi a0 4) (lu (wa u_2 12 a0 2) (fun u_6 => (if r_1 ≤ 16 then (if r_1 ≤ 8 then og (gi a0 4) (lu (wa u_6 13 a0 8) (fun u_11 => og (gi a0 4) (ob (f_makeRow (ra u_11 13 a0) u_11) (fun r_14 u_15 => lp_draws_150 fuel a0 r_1 0 u_15 (fun v1 v2 v3 u => lp_draws_187 fuel v1 v2 v2 u (fun v1 v2 v3 u => lp_draws_220 fuel v1 v2 0 1 u (fun v1 v2 v3 v4 u => lp_draws_307 fuel v1 v2 v3 0 u (fun v1 v2 v3 v4 u => lp_draws_331 fuel v1 v2 v3 0 u (fun v1 v2 v3 v4 u => lp_draws_375 fuel v1 v2 v3 0 u (fun v1 v2 v3 v4 u => ob (f_fights v1 u) (fun r_113 u_114 => some (r_113, u_114)))))))))))) else og (gi a0 4) (lu (wa u_6 13 a0 16) (fun u_117 => og (gi a0 4) (ob (f_makeRow (ra u_117 13 a0) u_117) (fun r_120 u_121 => lp_draws_150 fuel a0 r_1 0 u_121 (fun v1 v2 v3 u => lp_draws_187 fuel v1 v2 v2 u (fun v1 v2 v3 u => lp_draws_220 fuel v1 v2 0 1 u (fun v1 v2 v3 v4 u => lp_draws_307 fuel v1 v2 v3 0 u (fun v1 v2 v3 v4 u => lp_draws_331 fuel v1 v2 v3 0 u (fun v1 v2 v3 v4 u => lp_draws_375 fuel v1 v2 v3 0 u (fun v1 v2 v3 v4 u => ob (f_fights v1 u) (fun r_219 u_220 => some (r_219, u_220))))))))))))) else og (gi a0 4) (lu (wa u_6 13 a0 32) (fun u_223 => og (gi a0 4) (ob (f_makeRow (ra u_223 13 a0) u_223) (fun r_226 u_227 => lp_draws_150 fuel a0 r_1 0 u_227 (fun v1 v2 v3 u => lp_draws_187 fuel v1 v2 v2 u (fun v1 v2 v3 u => lp_draws_220 fuel v1 v2 0 1 u (fun v1 v2 v3 v4 u => lp_draws_307 fuel v1 v2 v3 0 u (fun v1 v2 v3 v4 u => lp_draws_331 fuel v1 v2 v3 0 u (fun v1 v2 v3 v4 u => lp_draws_375 fuel v1 v2 v3 0 u (fun v1 v2 v3 v4 u => ob (f_fights v1 u) (fun r_325 u_326 => some (r_325, u_326))))))))))))))) else og (gi a0 4) (lu (wa u_2 12 a0 1) (fun u_329 => og (gi a0 4) (lu (wa u_329 13 a0 r_1) (fun u_332 => lp_draws_31 fuel a0 r_1 0 0 u_332 (fun v1 v2 v3 v4 u => ob (f_fights v1 u) (fun r_353 u_354 => some (r_353, u_354)))))))))
set_option maxHeartbeats 4000000 in
set_option maxRecDepth 100000 in
theorem m_draws (l : Launch) (G : gG) (Z : gM) (Q : Nat → Nat) (u u1 : MS) (r : Int32) (a0 : Int32) (sz : Nat) (hF : f_draws a0 u = some (r, u1)) : Met l yX13_draws (Cond.code yX13_draws cX13_draws 7 (some .int) :: wM) { frames := 3, cells := 0, slots := 0, locals := 65 } (va_Pc [.ref (Q 72), .int a0] (mPM G Z Q u sz)) (mQi G Q u1 r sz) 0 0 (mA Q sz) := by
  refine Met.ofW (cc := cX13_draws) (maxL := 7) (ret := (some .int)) (by decide) rfl ?_
  intro p e s m args below meth c s₁ B hml hv
  obtain ⟨rfl, rfl, hP, hB, hD, hE⟩ := hv
  have hr := B.returns
  have hlocks := B.notSynchronized
  have hts := atoms_spec (ws := Cond.code yX13_draws cX13_draws 7 (some .int) :: wM) B.pre
  have hC : mX p c cX13_draws 7 s m _ G Z Q := ⟨B.exec, B.bytes, hml, findClass_of_methodNamed B.named, fun w h => hts w (List.mem_cons_of_mem _ h), hB, hE⟩
  have hx := hC.1
  have hb := hC.2.1
  have hH : mH G Q u s s.heap [] := ⟨hP, hD, va_S.rf⟩
  have hl := lv_entry ([.ref (Q 72), .int a0]) (n := 7) (Nat.le_of_ble_eq_true rfl)
  rw [lg_entry_eq]
  generalize (lg_sl ([.ref (Q 72), .int a0]) ++ List.replicate (7 - (lg_sl ([.ref (Q 72), .int a0])).length) Slot.unset).toArray = ls at hl ⊢
  have hl : lv_has ls 7 [(0, .ref (Q 72)), (1, .int a0)] := hl
  unfold f_draws at hF
  refine lv_aload_n hx hb dX13_draws_0 rfl (lv_at hl 0 rfl) ?_
  refine lv_iload_n hx hb dX13_draws_1 rfl (lv_at hl 1 rfl) ?_
  obtain ⟨r_1, u_2, h_3, hF⟩ := ob_some hF
  refine mcV_i (As := [.int a0]) (rest := []) hC hH (m_weighed l G Z Q u u_2 r_1 a0 _ h_3) kwX13_weighed kVX13_weighed ⟨Nat.le_of_ble_eq_true rfl, Nat.le_of_ble_eq_true rfl⟩ rfl hl.1 rfl (Nat.le_of_ble_eq_true rfl) dX13_draws_2 (fun H locs hH => ?_)
  refine lv_istore_n (lv' := [(2, .int r_1), (0, .ref (Q 72)), (1, .int a0)]) hx hb dX13_draws_5 rfl hl (by decide) rfl (fun ls hl => ?_)
  refine lv_iload_n hx hb dX13_draws_6 rfl (lv_at hl 0 rfl) ?_
  refine lv_bipush (v := 6) hx hb dX13_draws_7 (by decide) ?_
  refine lv_icmp_ge (tgt := 101) hx hb dX13_draws_9 (by decide) (fun c_4 => ?_) (fun c_4 => ?_)
  · rw [if_pos c_4] at hF
    refine lv_aload_n hx hb dX13_draws_101 rfl (lv_at hl 1 rfl) ?_
    refine mg_12 hC hH dX13_draws_102 ?_
    refine lv_iload_n hx hb dX13_draws_105 rfl (lv_at hl 2 rfl) ?_
    refine lv_iconst (v := 2) hx hb dX13_draws_106 (by decide) ?_
    obtain ⟨g_5, hF⟩ := og_some hF
    obtain ⟨u_6, e_7, hF⟩ := lu_some hF
    refine ms_12 hC hH e_7 g_5 dX13_draws_107 (fun H locs hH => ?_)
    refine lv_aload_n hx hb dX13_draws_108 rfl (lv_at hl 1 rfl) ?_
    refine mg_13 hC hH dX13_draws_109 ?_
    refine lv_iload_n hx hb dX13_draws_112 rfl (lv_at hl 2 rfl) ?_
    refine lv_iload_n hx hb dX13_draws_113 rfl (lv_at hl 0 rfl) ?_
    refine lv_bipush (v := 16) hx hb dX13_draws_114 (by decide) ?_
    refine lv_icmp_le (tgt := 124) hx hb dX13_draws_116 (by decide) (fun c_8 => ?_) (fun c_8 => ?_)
    · rw [if_pos c_8] at hF
      refine lv_iload_n hx hb dX13_draws_124 rfl (lv_at hl 0 rfl) ?_
      refine lv_bipush (v := 8) hx hb dX13_draws_125 (by decide) ?_
      refine lv_icmp_le (tgt := 135) hx hb dX13_draws_127 (by decide) (fun c_9 => ?_) (fun c_9 => ?_)
      · rw [if_pos c_9] at hF
        refine lv_bipush (v := 8) hx hb dX13_draws_135 (by decide) ?_
        obtain ⟨g_10, hF⟩ := og_some hF
        obtain ⟨u_11, e_12, hF⟩ := lu_some hF
        refine ms_13 hC hH e_12 g_10 dX13_draws_137 (fun H locs hH => ?_)
        refine lv_aload_n hx hb dX13_draws_138 rfl (lv_at hl 1 rfl) ?_
        refine lv_aload_n hx hb dX13_draws_139 rfl (lv_at hl 1 rfl) ?_
        refine mg_13 hC hH dX13_draws_140 ?_
        refine lv_iload_n hx hb dX13_draws_143 rfl (lv_at hl 2 rfl) ?_
        obtain ⟨g_13, hF⟩ := og_some hF
        refine ml_13 hC hH g_13 dX13_draws_144 ?_
        obtain ⟨r_14, u_15, h_16, hF⟩ := ob_some hF
        refine mcV_v (As := [.int (ra u_11 13 a0)]) (rest := []) hC hH (m_makeRow l G Z Q u_11 u_15 r_14 (ra u_11 13 a0) _ h_16) kwX13_makeRow kVX13_makeRow ⟨Nat.le_of_ble_eq_true rfl, Nat.le_of_ble_eq_true rfl⟩ rfl hl.1 rfl (Nat.le_of_ble_eq_true rfl) dX13_draws_145 (fun H locs hH => ?_)
        refine lv_iconst (v := 0) hx hb dX13_draws_148 (by decide) ?_
        refine lv_istore_n (lv' := [(3, .int 0), (2, .int r_1), (0, .ref (Q 72)), (1, .int a0)]) hx hb dX13_draws_149 rfl hl (by decide) rfl (fun ls hl => ?_)
        have hL150 : ∀ (K150_185 : Int32 → Int32 → Int32 → MS → Option (Int32 × MS)), (∀ (v1 v2 v3 : Int32) (u : MS) (H : Heap) (locs : List Loc) (ls : Array Slot), lv_has ls 7 [(0, .ref (Q 72)), (1, .int v1), (2, .int v2), (3, .int v3)] → mH G Q u s H locs → K150_185 v1 v2 v3 u = some ((r, u1)) → W p l e (headSpec (Cond.code yX13_draws cX13_draws 7 (some .int) :: wM) { frames := 3, cells := 0, slots := 0, locals := 65 }).room s m [.ref (Q 72), .int a0].toArray below meth c H locs 0 0 (MQ below (mQi G Q u1 r s.heap.size) [.ref (Q 72), .int a0].toArray s 0 0 (mA Q s.heap.size)) (F0 m 185 ls [])) → ∀ (n150 : Nat) (v1 v2 v3 : Int32) (u : MS) (H : Heap) (locs : List Loc) (ls : Array Slot), lv_has ls 7 [(0, .ref (Q 72)), (1, .int v1), (2, .int v2), (3, .int v3)] → mH G Q u s H locs → lp_draws_150 n150 v1 v2 v3 u K150_185 = some ((r, u1)) → W p l e (headSpec (Cond.code yX13_draws cX13_draws 7 (some .int) :: wM) { frames := 3, cells := 0, slots := 0, locals := 65 }).room s m [.ref (Q 72), .int a0].toArray below meth c H locs 0 0 (MQ below (mQi G Q u1 r s.heap.size) [.ref (Q 72), .int a0].toArray s 0 0 (mA Q s.heap.size)) (F0 m 150 ls []) := by
          intro K150_185 hK150_185 n150
          induction n150 with
          | zero => intro v1 v2 v3 u H locs ls hl hH hF; cases hF
          | succ n150 ih150 =>
            intro v1 v2 v3 u H locs ls hl hH hF
            unfold lp_draws_150 at hF
            refine lv_iload_n hx hb dX13_draws_150 rfl (lv_at hl 3 rfl) ?_
            refine lv_aload_n hx hb dX13_draws_151 rfl (lv_at hl 0 rfl) ?_
            refine mg_13 hC hH dX13_draws_152 ?_
            refine lv_iload_n hx hb dX13_draws_155 rfl (lv_at hl 1 rfl) ?_
            obtain ⟨g_17, hF⟩ := og_some hF
            refine ml_13 hC hH g_17 dX13_draws_156 ?_
            refine lv_icmp_ge (tgt := 185) hx hb dX13_draws_157 (by decide) (fun c_18 => ?_) (fun c_18 => ?_)
            · rw [if_pos c_18] at hF
              exact hK150_185 v1 v2 v3 u _ _ _ (lv_sub hl [0, 1, 2, 3] rfl) hH hF
            · rw [if_neg c_18] at hF
              refine lv_aload_n hx hb dX13_draws_160 rfl (lv_at hl 0 rfl) ?_
              refine mg_14 hC hH dX13_draws_161 ?_
              refine lv_bipush (v := 32) hx hb dX13_draws_164 (by decide) ?_
              refine lv_iload_n hx hb dX13_draws_166 rfl (lv_at hl 1 rfl) ?_
              refine lv_imul hx hb dX13_draws_167 ?_
              refine lv_iload_n hx hb dX13_draws_168 rfl (lv_at hl 3 rfl) ?_
              refine lv_iadd hx hb dX13_draws_169 ?_
              refine lv_iconst (v := (-1)) hx hb dX13_draws_170 (by decide) ?_
              obtain ⟨g_19, hF⟩ := og_some hF
              obtain ⟨u_20, e_21, hF⟩ := lu_some hF
              refine ms_14 hC hH e_21 g_19 dX13_draws_171 (fun H locs hH => ?_)
              refine lv_aload_n hx hb dX13_draws_172 rfl (lv_at hl 0 rfl) ?_
              refine mg_60 hC hH dX13_draws_173 ?_
              refine lv_iload_n hx hb dX13_draws_176 rfl (lv_at hl 3 rfl) ?_
              refine lv_iconst (v := 0) hx hb dX13_draws_177 (by decide) ?_
              obtain ⟨g_22, hF⟩ := og_some hF
              obtain ⟨u_23, e_24, hF⟩ := lu_some hF
              refine ms_60 hC hH e_24 g_22 dX13_draws_178 (fun H locs hH => ?_)
              obtain ⟨x_25, e_26, hF⟩ := li_some hF
              refine lv_iinc (v := x_25) (lv' := [(3, .int x_25), (0, .ref (Q 72)), (1, .int v1), (2, .int v2)]) hx hb dX13_draws_179 hl (k := 3) rfl e_26 (by decide) rfl (fun ls hl => ?_)
              refine lv_goto (tgt := 150) hx hb dX13_draws_182 (by decide) ?_
              exact ih150 v1 v2 x_25 u_23 _ _ _ (lv_sub hl [1, 2, 3, 0] rfl) hH hF
        refine hL150 _ (fun v1 v2 v3 u H locs ls hl hH hF => ?_) fuel a0 r_1 0 u_15 _ _ _ (lv_sub hl [2, 3, 1, 0] rfl) hH hF
        refine lv_iload_n hx hb dX13_draws_185 rfl (lv_at hl 2 rfl) ?_
        refine lv_istore_n (lv' := [(3, .int v2), (0, .ref (Q 72)), (1, .int v1), (2, .int v2)]) hx hb dX13_draws_186 rfl hl (by decide) rfl (fun ls hl => ?_)
        have hL187 : ∀ (K187_215 : Int32 → Int32 → Int32 → MS → Option (Int32 × MS)), (∀ (v1 v2 v3 : Int32) (u : MS) (H : Heap) (locs : List Loc) (ls : Array Slot), lv_has ls 7 [(0, .ref (Q 72)), (1, .int v1), (2, .int v2), (3, .int v3)] → mH G Q u s H locs → K187_215 v1 v2 v3 u = some ((r, u1)) → W p l e (headSpec (Cond.code yX13_draws cX13_draws 7 (some .int) :: wM) { frames := 3, cells := 0, slots := 0, locals := 65 }).room s m [.ref (Q 72), .int a0].toArray below meth c H locs 0 0 (MQ below (mQi G Q u1 r s.heap.size) [.ref (Q 72), .int a0].toArray s 0 0 (mA Q s.heap.size)) (F0 m 215 ls [])) → ∀ (n187 : Nat) (v1 v2 v3 : Int32) (u : MS) (H : Heap) (locs : List Loc) (ls : Array Slot), lv_has ls 7 [(0, .ref (Q 72)), (1, .int v1), (2, .int v2), (3, .int v3)] → mH G Q u s H locs → lp_draws_187 n187 v1 v2 v3 u K187_215 = some ((r, u1)) → W p l e (headSpec (Cond.code yX13_draws cX13_draws 7 (some .int) :: wM) { frames := 3, cells := 0, slots := 0, locals := 65 }).room s m [.ref (Q 72), .int a0].toArray below meth c H locs 0 0 (MQ below (mQi G Q u1 r s.heap.size) [.ref (Q 72), .int a0].toArray s 0 0 (mA Q s.heap.size)) (F0 m 187 ls []) := by
          intro K187_215 hK187_215 n187
          induction n187 with
          | zero => intro v1 v2 v3 u H locs ls hl hH hF; cases hF
          | succ n187 ih187 =>
            intro v1 v2 v3 u H locs ls hl hH hF
            unfold lp_draws_187 at hF
            refine lv_iload_n hx hb dX13_draws_187 rfl (lv_at hl 3 rfl) ?_
            refine lv_aload_n hx hb dX13_draws_188 rfl (lv_at hl 0 rfl) ?_
            refine mg_13 hC hH dX13_draws_189 ?_
            refine lv_iload_n hx hb dX13_draws_192 rfl (lv_at hl 1 rfl) ?_
            obtain ⟨g_27, hF⟩ := og_some hF
            refine ml_13 hC hH g_27 dX13_draws_193 ?_
            refine lv_icmp_ge (tgt := 215) hx hb dX13_draws_194 (by decide) (fun c_28 => ?_) (fun c_28 => ?_)
            · rw [if_pos c_28] at hF
              exact hK187_215 v1 v2 v3 u _ _ _ (lv_sub hl [0, 1, 2, 3] rfl) hH hF
            · rw [if_neg c_28] at hF
              refine lv_aload_n hx hb dX13_draws_197 rfl (lv_at hl 0 rfl) ?_
              refine mg_60 hC hH dX13_draws_198 ?_
              refine lv_aload_n hx hb dX13_draws_201 rfl (lv_at hl 0 rfl) ?_
              refine mg_57 hC hH dX13_draws_202 ?_
              refine lv_iload_n hx hb dX13_draws_205 rfl (lv_at hl 3 rfl) ?_
              obtain ⟨g_29, hF⟩ := og_some hF
              refine ml_57 hC hH g_29 dX13_draws_206 ?_
              refine lv_iconst (v := 1) hx hb dX13_draws_207 (by decide) ?_
              obtain ⟨g_30, hF⟩ := og_some hF
              obtain ⟨u_31, e_32, hF⟩ := lu_some hF
              refine ms_60 hC hH e_32 g_30 dX13_draws_208 (fun H locs hH => ?_)
              obtain ⟨x_33, e_34, hF⟩ := li_some hF
              refine lv_iinc (v := x_33) (lv' := [(3, .int x_33), (0, .ref (Q 72)), (1, .int v1), (2, .int v2)]) hx hb dX13_draws_209 hl (k := 3) rfl e_34 (by decide) rfl (fun ls hl => ?_)
              refine lv_goto (tgt := 187) hx hb dX13_draws_212 (by decide) ?_
              exact ih187 v1 v2 x_33 u_31 _ _ _ (lv_sub hl [1, 2, 3, 0] rfl) hH hF
        refine hL187 _ (fun v1 v2 v3 u H locs ls hl hH hF => ?_) fuel v1 v2 v2 u _ _ _ (lv_sub hl [1, 2, 3, 0] rfl) hH hF
        refine lv_iconst (v := 0) hx hb dX13_draws_215 (by decide) ?_
        refine lv_istore_n (lv' := [(3, .int 0), (0, .ref (Q 72)), (1, .int v1), (2, .int v2)]) hx hb dX13_draws_216 rfl hl (by decide) rfl (fun ls hl => ?_)
        refine lv_iconst (v := 1) hx hb dX13_draws_217 (by decide) ?_
        refine lv_istore (lv' := [(4, .int 1), (3, .int 0), (0, .ref (Q 72)), (1, .int v1), (2, .int v2)]) hx hb dX13_draws_218 hl (by decide) rfl (fun ls hl => ?_)
        have hL220 : ∀ (K220_304 : Int32 → Int32 → Int32 → Int32 → MS → Option (Int32 × MS)), (∀ (v1 v2 v3 v4 : Int32) (u : MS) (H : Heap) (locs : List Loc) (ls : Array Slot), lv_has ls 7 [(0, .ref (Q 72)), (1, .int v1), (2, .int v2), (3, .int v3), (4, .int v4)] → mH G Q u s H locs → K220_304 v1 v2 v3 v4 u = some ((r, u1)) → W p l e (headSpec (Cond.code yX13_draws cX13_draws 7 (some .int) :: wM) { frames := 3, cells := 0, slots := 0, locals := 65 }).room s m [.ref (Q 72), .int a0].toArray below meth c H locs 0 0 (MQ below (mQi G Q u1 r s.heap.size) [.ref (Q 72), .int a0].toArray s 0 0 (mA Q s.heap.size)) (F0 m 304 ls [])) → ∀ (n220 : Nat) (v1 v2 v3 v4 : Int32) (u : MS) (H : Heap) (locs : List Loc) (ls : Array Slot), lv_has ls 7 [(0, .ref (Q 72)), (1, .int v1), (2, .int v2), (3, .int v3), (4, .int v4)] → mH G Q u s H locs → lp_draws_220 n220 v1 v2 v3 v4 u K220_304 = some ((r, u1)) → W p l e (headSpec (Cond.code yX13_draws cX13_draws 7 (some .int) :: wM) { frames := 3, cells := 0, slots := 0, locals := 65 }).room s m [.ref (Q 72), .int a0].toArray below meth c H locs 0 0 (MQ below (mQi G Q u1 r s.heap.size) [.ref (Q 72), .int a0].toArray s 0 0 (mA Q s.heap.size)) (F0 m 220 ls []) := by
          intro K220_304 hK220_304 n220
          induction n220 with
          | zero => intro v1 v2 v3 v4 u H locs ls hl hH hF; cases hF
          | succ n220 ih220 =>
            intro v1 v2 v3 v4 u H locs ls hl hH hF
            unfold lp_draws_220 at hF
            refine lv_iload hx hb dX13_draws_220 (lv_at hl 4 rfl) ?_
            refine lv_bipush (v := 8) hx hb dX13_draws_222 (by decide) ?_
            refine lv_icmp_gt (tgt := 304) hx hb dX13_draws_224 (by decide) (fun c_35 => ?_) (fun c_35 => ?_)
            · rw [if_pos c_35] at hF
              exact hK220_304 v1 v2 v3 v4 u _ _ _ (lv_sub hl [0, 1, 2, 3, 4] rfl) hH hF
            · rw [if_neg c_35] at hF
              refine lv_iconst (v := 0) hx hb dX13_draws_227 (by decide) ?_
              refine lv_istore (lv' := [(5, .int 0), (0, .ref (Q 72)), (1, .int v1), (2, .int v2), (3, .int v3), (4, .int v4)]) hx hb dX13_draws_228 hl (by decide) rfl (fun ls hl => ?_)
              have hL230 : ∀ (K230_298 : Int32 → Int32 → Int32 → Int32 → Int32 → MS → Option (Int32 × MS)), (∀ (v1 v2 v3 v4 v5 : Int32) (u : MS) (H : Heap) (locs : List Loc) (ls : Array Slot), lv_has ls 7 [(0, .ref (Q 72)), (1, .int v1), (2, .int v2), (3, .int v3), (4, .int v4), (5, .int v5)] → mH G Q u s H locs → K230_298 v1 v2 v3 v4 v5 u = some ((r, u1)) → W p l e (headSpec (Cond.code yX13_draws cX13_draws 7 (some .int) :: wM) { frames := 3, cells := 0, slots := 0, locals := 65 }).room s m [.ref (Q 72), .int a0].toArray below meth c H locs 0 0 (MQ below (mQi G Q u1 r s.heap.size) [.ref (Q 72), .int a0].toArray s 0 0 (mA Q s.heap.size)) (F0 m 298 ls [])) → ∀ (n230 : Nat) (v1 v2 v3 v4 v5 : Int32) (u : MS) (H : Heap) (locs : List Loc) (ls : Array Slot), lv_has ls 7 [(0, .ref (Q 72)), (1, .int v1), (2, .int v2), (3, .int v3), (4, .int v4), (5, .int v5)] → mH G Q u s H locs → lp_draws_230 n230 v1 v2 v3 v4 v5 u K230_298 = some ((r, u1)) → W p l e (headSpec (Cond.code yX13_draws cX13_draws 7 (some .int) :: wM) { frames := 3, cells := 0, slots := 0, locals := 65 }).room s m [.ref (Q 72), .int a0].toArray below meth c H locs 0 0 (MQ below (mQi G Q u1 r s.heap.size) [.ref (Q 72), .int a0].toArray s 0 0 (mA Q s.heap.size)) (F0 m 230 ls []) := by
                intro K230_298 hK230_298 n230
                induction n230 with
                | zero => intro v1 v2 v3 v4 v5 u H locs ls hl hH hF; cases hF
                | succ n230 ih230 =>
                  intro v1 v2 v3 v4 v5 u H locs ls hl hH hF
                  unfold lp_draws_230 at hF
                  refine lv_iload hx hb dX13_draws_230 (lv_at hl 5 rfl) ?_
                  refine lv_aload_n hx hb dX13_draws_232 rfl (lv_at hl 0 rfl) ?_
                  refine mg_2 hC hH dX13_draws_233 ?_
                  refine lv_icmp_ge (tgt := 298) hx hb dX13_draws_236 (by decide) (fun c_36 => ?_) (fun c_36 => ?_)
                  · rw [if_pos c_36] at hF
                    exact hK230_298 v1 v2 v3 v4 v5 u _ _ _ (lv_sub hl [0, 1, 2, 3, 4, 5] rfl) hH hF
                  · rw [if_neg c_36] at hF
                    refine lv_aload_n hx hb dX13_draws_239 rfl (lv_at hl 0 rfl) ?_
                    refine mg_5 hC hH dX13_draws_240 ?_
                    refine lv_iload hx hb dX13_draws_243 (lv_at hl 5 rfl) ?_
                    obtain ⟨g_37, hF⟩ := og_some hF
                    refine ml_5 hC hH g_37 dX13_draws_245 ?_
                    refine lv_iload_n hx hb dX13_draws_246 rfl (lv_at hl 1 rfl) ?_
                    refine lv_icmp_ne (tgt := 292) hx hb dX13_draws_247 (by decide) (fun c_38 => ?_) (fun c_38 => ?_)
                    · rw [if_neg c_38] at hF
                      obtain ⟨x_39, e_40, hF⟩ := li_some hF
                      refine lv_iinc (v := x_39) (lv' := [(5, .int x_39), (0, .ref (Q 72)), (1, .int v1), (2, .int v2), (3, .int v3), (4, .int v4)]) hx hb dX13_draws_292 hl (k := 5) rfl e_40 (by decide) rfl (fun ls hl => ?_)
                      refine lv_goto (tgt := 230) hx hb dX13_draws_295 (by decide) ?_
                      exact ih230 v1 v2 v3 v4 x_39 u _ _ _ (lv_sub hl [1, 2, 3, 4, 5, 0] rfl) hH hF
                    · rw [if_pos c_38] at hF
                      refine lv_aload_n hx hb dX13_draws_250 rfl (lv_at hl 0 rfl) ?_
                      refine mg_8 hC hH dX13_draws_251 ?_
                      refine lv_iload hx hb dX13_draws_254 (lv_at hl 5 rfl) ?_
                      obtain ⟨g_41, hF⟩ := og_some hF
                      refine ml_8 hC hH g_41 dX13_draws_256 ?_
                      refine lv_iconst (v := 1) hx hb dX13_draws_257 (by decide) ?_
                      refine lv_icmp_ne (tgt := 292) hx hb dX13_draws_258 (by decide) (fun c_42 => ?_) (fun c_42 => ?_)
                      · rw [if_neg c_42] at hF
                        obtain ⟨x_43, e_44, hF⟩ := li_some hF
                        refine lv_iinc (v := x_43) (lv' := [(5, .int x_43), (0, .ref (Q 72)), (1, .int v1), (2, .int v2), (3, .int v3), (4, .int v4)]) hx hb dX13_draws_292 hl (k := 5) rfl e_44 (by decide) rfl (fun ls hl => ?_)
                        refine lv_goto (tgt := 230) hx hb dX13_draws_295 (by decide) ?_
                        exact ih230 v1 v2 v3 v4 x_43 u _ _ _ (lv_sub hl [1, 2, 3, 4, 5, 0] rfl) hH hF
                      · rw [if_pos c_42] at hF
                        refine lv_aload_n hx hb dX13_draws_261 rfl (lv_at hl 0 rfl) ?_
                        refine mg_9 hC hH dX13_draws_262 ?_
                        refine lv_iload hx hb dX13_draws_265 (lv_at hl 5 rfl) ?_
                        obtain ⟨g_45, hF⟩ := og_some hF
                        refine ml_9 hC hH g_45 dX13_draws_267 ?_
                        refine lv_iload hx hb dX13_draws_268 (lv_at hl 4 rfl) ?_
                        refine lv_icmp_eq (tgt := 276) hx hb dX13_draws_270 (by decide) (fun c_46 => ?_) (fun c_46 => ?_)
                        · rw [if_pos c_46] at hF
                          refine lv_aload_n hx hb dX13_draws_276 rfl (lv_at hl 0 rfl) ?_
                          refine lv_iload_n hx hb dX13_draws_277 rfl (lv_at hl 1 rfl) ?_
                          refine lv_iload hx hb dX13_draws_278 (lv_at hl 5 rfl) ?_
                          refine lv_aload_n hx hb dX13_draws_280 rfl (lv_at hl 0 rfl) ?_
                          refine mg_57 hC hH dX13_draws_281 ?_
                          refine lv_iload_n hx hb dX13_draws_284 rfl (lv_at hl 3 rfl) ?_
                          obtain ⟨g_47, hF⟩ := og_some hF
                          refine ml_57 hC hH g_47 dX13_draws_285 ?_
                          obtain ⟨r_48, u_49, h_50, hF⟩ := ob_some hF
                          refine mcV_v (As := [.int v1, .int v5, .int (ra u 57 v3)]) (rest := []) hC hH (m_settle l G Z Q u u_49 r_48 v1 v5 (ra u 57 v3) _ h_50) kwX13_settle kVX13_settle ⟨Nat.le_of_ble_eq_true rfl, Nat.le_of_ble_eq_true rfl⟩ rfl hl.1 rfl (Nat.le_of_ble_eq_true rfl) dX13_draws_286 (fun H locs hH => ?_)
                          obtain ⟨x_51, e_52, hF⟩ := li_some hF
                          refine lv_iinc (v := x_51) (lv' := [(3, .int x_51), (0, .ref (Q 72)), (1, .int v1), (2, .int v2), (4, .int v4), (5, .int v5)]) hx hb dX13_draws_289 hl (k := 3) rfl e_52 (by decide) rfl (fun ls hl => ?_)
                          obtain ⟨x_53, e_54, hF⟩ := li_some hF
                          refine lv_iinc (v := x_53) (lv' := [(5, .int x_53), (3, .int x_51), (0, .ref (Q 72)), (1, .int v1), (2, .int v2), (4, .int v4)]) hx hb dX13_draws_292 hl (k := 5) rfl e_54 (by decide) rfl (fun ls hl => ?_)
                          refine lv_goto (tgt := 230) hx hb dX13_draws_295 (by decide) ?_
                          exact ih230 v1 v2 x_51 v4 x_53 u_49 _ _ _ (lv_sub hl [2, 3, 4, 1, 5, 0] rfl) hH hF
                        · rw [if_neg c_46] at hF
                          refine lv_goto (tgt := 292) hx hb dX13_draws_273 (by decide) ?_
                          obtain ⟨x_55, e_56, hF⟩ := li_some hF
                          refine lv_iinc (v := x_55) (lv' := [(5, .int x_55), (0, .ref (Q 72)), (1, .int v1), (2, .int v2), (3, .int v3), (4, .int v4)]) hx hb dX13_draws_292 hl (k := 5) rfl e_56 (by decide) rfl (fun ls hl => ?_)
                          refine lv_goto (tgt := 230) hx hb dX13_draws_295 (by decide) ?_
                          exact ih230 v1 v2 v3 v4 x_55 u _ _ _ (lv_sub hl [1, 2, 3, 4, 5, 0] rfl) hH hF
              refine hL230 _ (fun v1 v2 v3 v4 v5 u H locs ls hl hH hF => ?_) fuel v1 v2 v3 v4 0 u _ _ _ (lv_sub hl [1, 2, 3, 4, 5, 0] rfl) hH hF
              obtain ⟨x_57, e_58, hF⟩ := li_some hF
              refine lv_iinc (v := x_57) (lv' := [(4, .int x_57), (0, .ref (Q 72)), (1, .int v1), (2, .int v2), (3, .int v3), (5, .int v5)]) hx hb dX13_draws_298 hl (k := 4) rfl e_58 (by decide) rfl (fun ls hl => ?_)
              refine lv_goto (tgt := 220) hx hb dX13_draws_301 (by decide) ?_
              exact ih220 v1 v2 v3 x_57 u _ _ _ (lv_sub hl [1, 2, 3, 4, 0] rfl) hH hF
        refine hL220 _ (fun v1 v2 v3 v4 u H locs ls hl hH hF => ?_) fuel v1 v2 0 1 u _ _ _ (lv_sub hl [2, 3, 4, 1, 0] rfl) hH hF
        refine lv_iconst (v := 0) hx hb dX13_draws_304 (by decide) ?_
        refine lv_istore (lv' := [(4, .int 0), (0, .ref (Q 72)), (1, .int v1), (2, .int v2), (3, .int v3)]) hx hb dX13_draws_305 hl (by decide) rfl (fun ls hl => ?_)
        have hL307 : ∀ (K307_328 : Int32 → Int32 → Int32 → Int32 → MS → Option (Int32 × MS)), (∀ (v1 v2 v3 v4 : Int32) (u : MS) (H : Heap) (locs : List Loc) (ls : Array Slot), lv_has ls 7 [(0, .ref (Q 72)), (1, .int v1), (2, .int v2), (3, .int v3), (4, .int v4)] → mH G Q u s H locs → K307_328 v1 v2 v3 v4 u = some ((r, u1)) → W p l e (headSpec (Cond.code yX13_draws cX13_draws 7 (some .int) :: wM) { frames := 3, cells := 0, slots := 0, locals := 65 }).room s m [.ref (Q 72), .int a0].toArray below meth c H locs 0 0 (MQ below (mQi G Q u1 r s.heap.size) [.ref (Q 72), .int a0].toArray s 0 0 (mA Q s.heap.size)) (F0 m 328 ls [])) → ∀ (n307 : Nat) (v1 v2 v3 v4 : Int32) (u : MS) (H : Heap) (locs : List Loc) (ls : Array Slot), lv_has ls 7 [(0, .ref (Q 72)), (1, .int v1), (2, .int v2), (3, .int v3), (4, .int v4)] → mH G Q u s H locs → lp_draws_307 n307 v1 v2 v3 v4 u K307_328 = some ((r, u1)) → W p l e (headSpec (Cond.code yX13_draws cX13_draws 7 (some .int) :: wM) { frames := 3, cells := 0, slots := 0, locals := 65 }).room s m [.ref (Q 72), .int a0].toArray below meth c H locs 0 0 (MQ below (mQi G Q u1 r s.heap.size) [.ref (Q 72), .int a0].toArray s 0 0 (mA Q s.heap.size)) (F0 m 307 ls []) := by
          intro K307_328 hK307_328 n307
          induction n307 with
          | zero => intro v1 v2 v3 v4 u H locs ls hl hH hF; cases hF
          | succ n307 ih307 =>
            intro v1 v2 v3 v4 u H locs ls hl hH hF
            unfold lp_draws_307 at hF
            refine lv_iload hx hb dX13_draws_307 (lv_at hl 4 rfl) ?_
            refine lv_bipush (v := 16) hx hb dX13_draws_309 (by decide) ?_
            refine lv_icmp_ge (tgt := 328) hx hb dX13_draws_311 (by decide) (fun c_59 => ?_) (fun c_59 => ?_)
            · rw [if_pos c_59] at hF
              exact hK307_328 v1 v2 v3 v4 u _ _ _ (lv_sub hl [0, 1, 2, 3, 4] rfl) hH hF
            · rw [if_neg c_59] at hF
              refine lv_aload_n hx hb dX13_draws_314 rfl (lv_at hl 0 rfl) ?_
              refine mg_59 hC hH dX13_draws_315 ?_
              refine lv_iload hx hb dX13_draws_318 (lv_at hl 4 rfl) ?_
              refine lv_iconst (v := 0) hx hb dX13_draws_320 (by decide) ?_
              obtain ⟨g_60, hF⟩ := og_some hF
              obtain ⟨u_61, e_62, hF⟩ := lu_some hF
              refine ms_59 hC hH e_62 g_60 dX13_draws_321 (fun H locs hH => ?_)
              obtain ⟨x_63, e_64, hF⟩ := li_some hF
              refine lv_iinc (v := x_63) (lv' := [(4, .int x_63), (0, .ref (Q 72)), (1, .int v1), (2, .int v2), (3, .int v3)]) hx hb dX13_draws_322 hl (k := 4) rfl e_64 (by decide) rfl (fun ls hl => ?_)
              refine lv_goto (tgt := 307) hx hb dX13_draws_325 (by decide) ?_
              exact ih307 v1 v2 v3 x_63 u_61 _ _ _ (lv_sub hl [1, 2, 3, 4, 0] rfl) hH hF
        refine hL307 _ (fun v1 v2 v3 v4 u H locs ls hl hH hF => ?_) fuel v1 v2 v3 0 u _ _ _ (lv_sub hl [1, 2, 3, 4, 0] rfl) hH hF
        refine lv_iconst (v := 0) hx hb dX13_draws_328 (by decide) ?_
        refine lv_istore (lv' := [(4, .int 0), (0, .ref (Q 72)), (1, .int v1), (2, .int v2), (3, .int v3)]) hx hb dX13_draws_329 hl (by decide) rfl (fun ls hl => ?_)
        have hL331 : ∀ (K331_372 : Int32 → Int32 → Int32 → Int32 → MS → Option (Int32 × MS)), (∀ (v1 v2 v3 v4 : Int32) (u : MS) (H : Heap) (locs : List Loc) (ls : Array Slot), lv_has ls 7 [(0, .ref (Q 72)), (1, .int v1), (2, .int v2), (3, .int v3), (4, .int v4)] → mH G Q u s H locs → K331_372 v1 v2 v3 v4 u = some ((r, u1)) → W p l e (headSpec (Cond.code yX13_draws cX13_draws 7 (some .int) :: wM) { frames := 3, cells := 0, slots := 0, locals := 65 }).room s m [.ref (Q 72), .int a0].toArray below meth c H locs 0 0 (MQ below (mQi G Q u1 r s.heap.size) [.ref (Q 72), .int a0].toArray s 0 0 (mA Q s.heap.size)) (F0 m 372 ls [])) → ∀ (n331 : Nat) (v1 v2 v3 v4 : Int32) (u : MS) (H : Heap) (locs : List Loc) (ls : Array Slot), lv_has ls 7 [(0, .ref (Q 72)), (1, .int v1), (2, .int v2), (3, .int v3), (4, .int v4)] → mH G Q u s H locs → lp_draws_331 n331 v1 v2 v3 v4 u K331_372 = some ((r, u1)) → W p l e (headSpec (Cond.code yX13_draws cX13_draws 7 (some .int) :: wM) { frames := 3, cells := 0, slots := 0, locals := 65 }).room s m [.ref (Q 72), .int a0].toArray below meth c H locs 0 0 (MQ below (mQi G Q u1 r s.heap.size) [.ref (Q 72), .int a0].toArray s 0 0 (mA Q s.heap.size)) (F0 m 331 ls []) := by
          intro K331_372 hK331_372 n331
          induction n331 with
          | zero => intro v1 v2 v3 v4 u H locs ls hl hH hF; cases hF
          | succ n331 ih331 =>
            intro v1 v2 v3 v4 u H locs ls hl hH hF
            unfold lp_draws_331 at hF
            refine lv_iload hx hb dX13_draws_331 (lv_at hl 4 rfl) ?_
            refine lv_aload_n hx hb dX13_draws_333 rfl (lv_at hl 0 rfl) ?_
            refine mg_2 hC hH dX13_draws_334 ?_
            refine lv_icmp_ge (tgt := 372) hx hb dX13_draws_337 (by decide) (fun c_65 => ?_) (fun c_65 => ?_)
            · rw [if_pos c_65] at hF
              exact hK331_372 v1 v2 v3 v4 u _ _ _ (lv_sub hl [0, 1, 2, 3, 4] rfl) hH hF
            · rw [if_neg c_65] at hF
              refine lv_aload_n hx hb dX13_draws_340 rfl (lv_at hl 0 rfl) ?_
              refine lv_iload_n hx hb dX13_draws_341 rfl (lv_at hl 1 rfl) ?_
              refine lv_iload hx hb dX13_draws_342 (lv_at hl 4 rfl) ?_
              obtain ⟨r_66, u_67, h_68, hF⟩ := ob_some hF
              refine mcV_i (As := [.int v1, .int v4]) (rest := []) hC hH (m_isOther l G Z Q u u_67 r_66 v1 v4 _ h_68) kwX13_isOther kVX13_isOther ⟨Nat.le_of_ble_eq_true rfl, Nat.le_of_ble_eq_true rfl⟩ rfl hl.1 rfl (Nat.le_of_ble_eq_true rfl) dX13_draws_344 (fun H locs hH => ?_)
              refine lv_if_eq (tgt := 366) hx hb dX13_draws_347 (by decide) (fun c_69 => ?_) (fun c_69 => ?_)
              · rw [if_pos c_69] at hF
                obtain ⟨x_70, e_71, hF⟩ := li_some hF
                refine lv_iinc (v := x_70) (lv' := [(4, .int x_70), (0, .ref (Q 72)), (1, .int v1), (2, .int v2), (3, .int v3)]) hx hb dX13_draws_366 hl (k := 4) rfl e_71 (by decide) rfl (fun ls hl => ?_)
                refine lv_goto (tgt := 331) hx hb dX13_draws_369 (by decide) ?_
                exact ih331 v1 v2 v3 x_70 u_67 _ _ _ (lv_sub hl [1, 2, 3, 4, 0] rfl) hH hF
              · rw [if_neg c_69] at hF
                refine lv_aload_n hx hb dX13_draws_350 rfl (lv_at hl 0 rfl) ?_
                refine mg_59 hC hH dX13_draws_351 ?_
                refine lv_aload_n hx hb dX13_draws_354 rfl (lv_at hl 0 rfl) ?_
                refine mg_6 hC hH dX13_draws_355 ?_
                refine lv_iload hx hb dX13_draws_358 (lv_at hl 4 rfl) ?_
                obtain ⟨g_72, hF⟩ := og_some hF
                refine ml_6 hC hH g_72 dX13_draws_360 ?_
                refine lv_dup2_11 hx hb dX13_draws_361 rfl rfl ?_
                obtain ⟨g_73, hF⟩ := og_some hF
                refine ml_59 hC hH g_73 dX13_draws_362 ?_
                refine lv_iconst (v := 1) hx hb dX13_draws_363 (by decide) ?_
                refine lv_iadd hx hb dX13_draws_364 ?_
                obtain ⟨g_74, hF⟩ := og_some hF
                obtain ⟨u_75, e_76, hF⟩ := lu_some hF
                refine ms_59 hC hH e_76 g_74 dX13_draws_365 (fun H locs hH => ?_)
                obtain ⟨x_77, e_78, hF⟩ := li_some hF
                refine lv_iinc (v := x_77) (lv' := [(4, .int x_77), (0, .ref (Q 72)), (1, .int v1), (2, .int v2), (3, .int v3)]) hx hb dX13_draws_366 hl (k := 4) rfl e_78 (by decide) rfl (fun ls hl => ?_)
                refine lv_goto (tgt := 331) hx hb dX13_draws_369 (by decide) ?_
                exact ih331 v1 v2 v3 x_77 u_75 _ _ _ (lv_sub hl [1, 2, 3, 4, 0] rfl) hH hF
        refine hL331 _ (fun v1 v2 v3 v4 u H locs ls hl hH hF => ?_) fuel v1 v2 v3 0 u _ _ _ (lv_sub hl [1, 2, 3, 4, 0] rfl) hH hF
        refine lv_iconst (v := 0) hx hb dX13_draws_372 (by decide) ?_
        refine lv_istore (lv' := [(4, .int 0), (0, .ref (Q 72)), (1, .int v1), (2, .int v2), (3, .int v3)]) hx hb dX13_draws_373 hl (by decide) rfl (fun ls hl => ?_)
        have hL375 : ∀ (K375_496 : Int32 → Int32 → Int32 → Int32 → MS → Option (Int32 × MS)), (∀ (v1 v2 v3 v4 : Int32) (u : MS) (H : Heap) (locs : List Loc) (ls : Array Slot), lv_has ls 7 [(0, .ref (Q 72)), (1, .int v1), (2, .int v2), (3, .int v3), (4, .int v4)] → mH G Q u s H locs → K375_496 v1 v2 v3 v4 u = some ((r, u1)) → W p l e (headSpec (Cond.code yX13_draws cX13_draws 7 (some .int) :: wM) { frames := 3, cells := 0, slots := 0, locals := 65 }).room s m [.ref (Q 72), .int a0].toArray below meth c H locs 0 0 (MQ below (mQi G Q u1 r s.heap.size) [.ref (Q 72), .int a0].toArray s 0 0 (mA Q s.heap.size)) (F0 m 496 ls [])) → ∀ (n375 : Nat) (v1 v2 v3 v4 : Int32) (u : MS) (H : Heap) (locs : List Loc) (ls : Array Slot), lv_has ls 7 [(0, .ref (Q 72)), (1, .int v1), (2, .int v2), (3, .int v3), (4, .int v4)] → mH G Q u s H locs → lp_draws_375 n375 v1 v2 v3 v4 u K375_496 = some ((r, u1)) → W p l e (headSpec (Cond.code yX13_draws cX13_draws 7 (some .int) :: wM) { frames := 3, cells := 0, slots := 0, locals := 65 }).room s m [.ref (Q 72), .int a0].toArray below meth c H locs 0 0 (MQ below (mQi G Q u1 r s.heap.size) [.ref (Q 72), .int a0].toArray s 0 0 (mA Q s.heap.size)) (F0 m 375 ls []) := by
          intro K375_496 hK375_496 n375
          induction n375 with
          | zero => intro v1 v2 v3 v4 u H locs ls hl hH hF; cases hF
          | succ n375 ih375 =>
            intro v1 v2 v3 v4 u H locs ls hl hH hF
            unfold lp_draws_375 at hF
            refine lv_iload hx hb dX13_draws_375 (lv_at hl 4 rfl) ?_
            refine lv_bipush (v := 16) hx hb dX13_draws_377 (by decide) ?_
            refine lv_icmp_ge (tgt := 496) hx hb dX13_draws_379 (by decide) (fun c_79 => ?_) (fun c_79 => ?_)
            · rw [if_pos c_79] at hF
              exact hK375_496 v1 v2 v3 v4 u _ _ _ (lv_sub hl [0, 1, 2, 3, 4] rfl) hH hF
            · rw [if_neg c_79] at hF
              refine lv_iconst (v := 0) hx hb dX13_draws_382 (by decide) ?_
              refine lv_istore (lv' := [(5, .int 0), (0, .ref (Q 72)), (1, .int v1), (2, .int v2), (3, .int v3), (4, .int v4)]) hx hb dX13_draws_383 hl (by decide) rfl (fun ls hl => ?_)
              refine lv_iconst (v := 1) hx hb dX13_draws_385 (by decide) ?_
              refine lv_istore (lv' := [(6, .int 1), (5, .int 0), (0, .ref (Q 72)), (1, .int v1), (2, .int v2), (3, .int v3), (4, .int v4)]) hx hb dX13_draws_386 hl (by decide) rfl (fun ls hl => ?_)
              have hL388 : ∀ (K388_422 : Int32 → Int32 → Int32 → Int32 → Int32 → Int32 → MS → Option (Int32 × MS)), (∀ (v1 v2 v3 v4 v5 v6 : Int32) (u : MS) (H : Heap) (locs : List Loc) (ls : Array Slot), lv_has ls 7 [(0, .ref (Q 72)), (1, .int v1), (2, .int v2), (3, .int v3), (4, .int v4), (5, .int v5), (6, .int v6)] → mH G Q u s H locs → K388_422 v1 v2 v3 v4 v5 v6 u = some ((r, u1)) → W p l e (headSpec (Cond.code yX13_draws cX13_draws 7 (some .int) :: wM) { frames := 3, cells := 0, slots := 0, locals := 65 }).room s m [.ref (Q 72), .int a0].toArray below meth c H locs 0 0 (MQ below (mQi G Q u1 r s.heap.size) [.ref (Q 72), .int a0].toArray s 0 0 (mA Q s.heap.size)) (F0 m 422 ls [])) → ∀ (n388 : Nat) (v1 v2 v3 v4 v5 v6 : Int32) (u : MS) (H : Heap) (locs : List Loc) (ls : Array Slot), lv_has ls 7 [(0, .ref (Q 72)), (1, .int v1), (2, .int v2), (3, .int v3), (4, .int v4), (5, .int v5), (6, .int v6)] → mH G Q u s H locs → lp_draws_388 n388 v1 v2 v3 v4 v5 v6 u K388_422 = some ((r, u1)) → W p l e (headSpec (Cond.code yX13_draws cX13_draws 7 (some .int) :: wM) { frames := 3, cells := 0, slots := 0, locals := 65 }).room s m [.ref (Q 72), .int a0].toArray below meth c H locs 0 0 (MQ below (mQi G Q u1 r s.heap.size) [.ref (Q 72), .int a0].toArray s 0 0 (mA Q s.heap.size)) (F0 m 388 ls []) := by
                intro K388_422 hK388_422 n388
                induction n388 with
                | zero => intro v1 v2 v3 v4 v5 v6 u H locs ls hl hH hF; cases hF
                | succ n388 ih388 =>
                  intro v1 v2 v3 v4 v5 v6 u H locs ls hl hH hF
                  unfold lp_draws_388 at hF
                  refine lv_iload hx hb dX13_draws_388 (lv_at hl 6 rfl) ?_
                  refine lv_bipush (v := 16) hx hb dX13_draws_390 (by decide) ?_
                  refine lv_icmp_ge (tgt := 422) hx hb dX13_draws_392 (by decide) (fun c_80 => ?_) (fun c_80 => ?_)
                  · rw [if_pos c_80] at hF
                    exact hK388_422 v1 v2 v3 v4 v5 v6 u _ _ _ (lv_sub hl [0, 1, 2, 3, 4, 5, 6] rfl) hH hF
                  · rw [if_neg c_80] at hF
                    refine lv_aload_n hx hb dX13_draws_395 rfl (lv_at hl 0 rfl) ?_
                    refine mg_59 hC hH dX13_draws_396 ?_
                    refine lv_iload hx hb dX13_draws_399 (lv_at hl 6 rfl) ?_
                    obtain ⟨g_81, hF⟩ := og_some hF
                    refine ml_59 hC hH g_81 dX13_draws_401 ?_
                    refine lv_aload_n hx hb dX13_draws_402 rfl (lv_at hl 0 rfl) ?_
                    refine mg_59 hC hH dX13_draws_403 ?_
                    refine lv_iload hx hb dX13_draws_406 (lv_at hl 5 rfl) ?_
                    obtain ⟨g_82, hF⟩ := og_some hF
                    refine ml_59 hC hH g_82 dX13_draws_408 ?_
                    refine lv_icmp_le (tgt := 416) hx hb dX13_draws_409 (by decide) (fun c_83 => ?_) (fun c_83 => ?_)
                    · rw [if_pos c_83] at hF
                      obtain ⟨x_84, e_85, hF⟩ := li_some hF
                      refine lv_iinc (v := x_84) (lv' := [(6, .int x_84), (0, .ref (Q 72)), (1, .int v1), (2, .int v2), (3, .int v3), (4, .int v4), (5, .int v5)]) hx hb dX13_draws_416 hl (k := 6) rfl e_85 (by decide) rfl (fun ls hl => ?_)
                      refine lv_goto (tgt := 388) hx hb dX13_draws_419 (by decide) ?_
                      exact ih388 v1 v2 v3 v4 v5 x_84 u _ _ _ (lv_sub hl [1, 2, 3, 4, 5, 6, 0] rfl) hH hF
                    · rw [if_neg c_83] at hF
                      refine lv_iload hx hb dX13_draws_412 (lv_at hl 6 rfl) ?_
                      refine lv_istore (lv' := [(5, .int v6), (0, .ref (Q 72)), (1, .int v1), (2, .int v2), (3, .int v3), (4, .int v4), (6, .int v6)]) hx hb dX13_draws_414 hl (by decide) rfl (fun ls hl => ?_)
                      obtain ⟨x_86, e_87, hF⟩ := li_some hF
                      refine lv_iinc (v := x_86) (lv' := [(6, .int x_86), (5, .int v6), (0, .ref (Q 72)), (1, .int v1), (2, .int v2), (3, .int v3), (4, .int v4)]) hx hb dX13_draws_416 hl (k := 6) rfl e_87 (by decide) rfl (fun ls hl => ?_)
                      refine lv_goto (tgt := 388) hx hb dX13_draws_419 (by decide) ?_
                      exact ih388 v1 v2 v3 v4 v6 x_86 u _ _ _ (lv_sub hl [2, 3, 4, 5, 6, 1, 0] rfl) hH hF
              refine hL388 _ (fun v1 v2 v3 v4 v5 v6 u H locs ls hl hH hF => ?_) fuel v1 v2 v3 v4 0 1 u _ _ _ (lv_sub hl [2, 3, 4, 5, 6, 1, 0] rfl) hH hF
              refine lv_iconst (v := 0) hx hb dX13_draws_422 (by decide) ?_
              refine lv_istore (lv' := [(6, .int 0), (0, .ref (Q 72)), (1, .int v1), (2, .int v2), (3, .int v3), (4, .int v4), (5, .int v5)]) hx hb dX13_draws_423 hl (by decide) rfl (fun ls hl => ?_)
              have hL425 : ∀ (K425_482 : Int32 → Int32 → Int32 → Int32 → Int32 → Int32 → MS → Option (Int32 × MS)), (∀ (v1 v2 v3 v4 v5 v6 : Int32) (u : MS) (H : Heap) (locs : List Loc) (ls : Array Slot), lv_has ls 7 [(0, .ref (Q 72)), (1, .int v1), (2, .int v2), (3, .int v3), (4, .int v4), (5, .int v5), (6, .int v6)] → mH G Q u s H locs → K425_482 v1 v2 v3 v4 v5 v6 u = some ((r, u1)) → W p l e (headSpec (Cond.code yX13_draws cX13_draws 7 (some .int) :: wM) { frames := 3, cells := 0, slots := 0, locals := 65 }).room s m [.ref (Q 72), .int a0].toArray below meth c H locs 0 0 (MQ below (mQi G Q u1 r s.heap.size) [.ref (Q 72), .int a0].toArray s 0 0 (mA Q s.heap.size)) (F0 m 482 ls [])) → ∀ (n425 : Nat) (v1 v2 v3 v4 v5 v6 : Int32) (u : MS) (H : Heap) (locs : List Loc) (ls : Array Slot), lv_has ls 7 [(0, .ref (Q 72)), (1, .int v1), (2, .int v2), (3, .int v3), (4, .int v4), (5, .int v5), (6, .int v6)] → mH G Q u s H locs → lp_draws_425 n425 v1 v2 v3 v4 v5 v6 u K425_482 = some ((r, u1)) → W p l e (headSpec (Cond.code yX13_draws cX13_draws 7 (some .int) :: wM) { frames := 3, cells := 0, slots := 0, locals := 65 }).room s m [.ref (Q 72), .int a0].toArray below meth c H locs 0 0 (MQ below (mQi G Q u1 r s.heap.size) [.ref (Q 72), .int a0].toArray s 0 0 (mA Q s.heap.size)) (F0 m 425 ls []) := by
                intro K425_482 hK425_482 n425
                induction n425 with
                | zero => intro v1 v2 v3 v4 v5 v6 u H locs ls hl hH hF; cases hF
                | succ n425 ih425 =>
                  intro v1 v2 v3 v4 v5 v6 u H locs ls hl hH hF
                  unfold lp_draws_425 at hF
                  refine lv_iload hx hb dX13_draws_425 (lv_at hl 6 rfl) ?_
                  refine lv_aload_n hx hb dX13_draws_427 rfl (lv_at hl 0 rfl) ?_
                  refine mg_2 hC hH dX13_draws_428 ?_
                  refine lv_icmp_ge (tgt := 482) hx hb dX13_draws_431 (by decide) (fun c_88 => ?_) (fun c_88 => ?_)
                  · rw [if_pos c_88] at hF
                    exact hK425_482 v1 v2 v3 v4 v5 v6 u _ _ _ (lv_sub hl [0, 1, 2, 3, 4, 5, 6] rfl) hH hF
                  · rw [if_neg c_88] at hF
                    refine lv_aload_n hx hb dX13_draws_434 rfl (lv_at hl 0 rfl) ?_
                    refine mg_6 hC hH dX13_draws_435 ?_
                    refine lv_iload hx hb dX13_draws_438 (lv_at hl 6 rfl) ?_
                    obtain ⟨g_89, hF⟩ := og_some hF
                    refine ml_6 hC hH g_89 dX13_draws_440 ?_
                    refine lv_iload hx hb dX13_draws_441 (lv_at hl 5 rfl) ?_
                    refine lv_icmp_ne (tgt := 476) hx hb dX13_draws_443 (by decide) (fun c_90 => ?_) (fun c_90 => ?_)
                    · rw [if_neg c_90] at hF
                      obtain ⟨x_91, e_92, hF⟩ := li_some hF
                      refine lv_iinc (v := x_91) (lv' := [(6, .int x_91), (0, .ref (Q 72)), (1, .int v1), (2, .int v2), (3, .int v3), (4, .int v4), (5, .int v5)]) hx hb dX13_draws_476 hl (k := 6) rfl e_92 (by decide) rfl (fun ls hl => ?_)
                      refine lv_goto (tgt := 425) hx hb dX13_draws_479 (by decide) ?_
                      exact ih425 v1 v2 v3 v4 v5 x_91 u _ _ _ (lv_sub hl [1, 2, 3, 4, 5, 6, 0] rfl) hH hF
                    · rw [if_pos c_90] at hF
                      refine lv_aload_n hx hb dX13_draws_446 rfl (lv_at hl 0 rfl) ?_
                      refine lv_iload_n hx hb dX13_draws_447 rfl (lv_at hl 1 rfl) ?_
                      refine lv_iload hx hb dX13_draws_448 (lv_at hl 6 rfl) ?_
                      obtain ⟨r_93, u_94, h_95, hF⟩ := ob_some hF
                      refine mcV_i (As := [.int v1, .int v6]) (rest := []) hC hH (m_isOther l G Z Q u u_94 r_93 v1 v6 _ h_95) kwX13_isOther kVX13_isOther ⟨Nat.le_of_ble_eq_true rfl, Nat.le_of_ble_eq_true rfl⟩ rfl hl.1 rfl (Nat.le_of_ble_eq_true rfl) dX13_draws_450 (fun H locs hH => ?_)
                      refine lv_if_eq (tgt := 476) hx hb dX13_draws_453 (by decide) (fun c_96 => ?_) (fun c_96 => ?_)
                      · rw [if_pos c_96] at hF
                        obtain ⟨x_97, e_98, hF⟩ := li_some hF
                        refine lv_iinc (v := x_97) (lv' := [(6, .int x_97), (0, .ref (Q 72)), (1, .int v1), (2, .int v2), (3, .int v3), (4, .int v4), (5, .int v5)]) hx hb dX13_draws_476 hl (k := 6) rfl e_98 (by decide) rfl (fun ls hl => ?_)
                        refine lv_goto (tgt := 425) hx hb dX13_draws_479 (by decide) ?_
                        exact ih425 v1 v2 v3 v4 v5 x_97 u_94 _ _ _ (lv_sub hl [1, 2, 3, 4, 5, 6, 0] rfl) hH hF
                      · rw [if_neg c_96] at hF
                        refine lv_aload_n hx hb dX13_draws_456 rfl (lv_at hl 0 rfl) ?_
                        refine lv_iload_n hx hb dX13_draws_457 rfl (lv_at hl 1 rfl) ?_
                        refine lv_iload hx hb dX13_draws_458 (lv_at hl 6 rfl) ?_
                        refine lv_aload_n hx hb dX13_draws_460 rfl (lv_at hl 0 rfl) ?_
                        refine lv_iload_n hx hb dX13_draws_461 rfl (lv_at hl 1 rfl) ?_
                        refine lv_iload hx hb dX13_draws_462 (lv_at hl 5 rfl) ?_
                        refine lv_aload_n hx hb dX13_draws_464 rfl (lv_at hl 0 rfl) ?_
                        refine mg_13 hC hH dX13_draws_465 ?_
                        refine lv_iload_n hx hb dX13_draws_468 rfl (lv_at hl 1 rfl) ?_
                        obtain ⟨g_99, hF⟩ := og_some hF
                        refine ml_13 hC hH g_99 dX13_draws_469 ?_
                        obtain ⟨r_100, u_101, h_102, hF⟩ := ob_some hF
                        refine mcV_i (As := [.int v1, .int v5, .int (ra u_94 13 v1)]) (rest := [.int v6, .int v1, .ref (Q 72)]) hC hH (m_bestPlace l G Z Q u_94 u_101 r_100 v1 v5 (ra u_94 13 v1) _ h_102) kwX13_bestPlace kVX13_bestPlace ⟨Nat.le_of_ble_eq_true rfl, Nat.le_of_ble_eq_true rfl⟩ rfl hl.1 rfl (Nat.le_of_ble_eq_true rfl) dX13_draws_470 (fun H locs hH => ?_)
                        obtain ⟨r_103, u_104, h_105, hF⟩ := ob_some hF
                        refine mcV_v (As := [.int v1, .int v6, .int r_100]) (rest := []) hC hH (m_settle l G Z Q u_101 u_104 r_103 v1 v6 r_100 _ h_105) kwX13_settle kVX13_settle ⟨Nat.le_of_ble_eq_true rfl, Nat.le_of_ble_eq_true rfl⟩ rfl hl.1 rfl (Nat.le_of_ble_eq_true rfl) dX13_draws_473 (fun H locs hH => ?_)
                        obtain ⟨x_106, e_107, hF⟩ := li_some hF
                        refine lv_iinc (v := x_106) (lv' := [(6, .int x_106), (0, .ref (Q 72)), (1, .int v1), (2, .int v2), (3, .int v3), (4, .int v4), (5, .int v5)]) hx hb dX13_draws_476 hl (k := 6) rfl e_107 (by decide) rfl (fun ls hl => ?_)
                        refine lv_goto (tgt := 425) hx hb dX13_draws_479 (by decide) ?_
                        exact ih425 v1 v2 v3 v4 v5 x_106 u_104 _ _ _ (lv_sub hl [1, 2, 3, 4, 5, 6, 0] rfl) hH hF
              refine hL425 _ (fun v1 v2 v3 v4 v5 v6 u H locs ls hl hH hF => ?_) fuel v1 v2 v3 v4 v5 0 u _ _ _ (lv_sub hl [1, 2, 3, 4, 5, 6, 0] rfl) hH hF
              refine lv_aload_n hx hb dX13_draws_482 rfl (lv_at hl 0 rfl) ?_
              refine mg_59 hC hH dX13_draws_483 ?_
              refine lv_iload hx hb dX13_draws_486 (lv_at hl 5 rfl) ?_
              refine lv_iconst (v := (-1)) hx hb dX13_draws_488 (by decide) ?_
              obtain ⟨g_108, hF⟩ := og_some hF
              obtain ⟨u_109, e_110, hF⟩ := lu_some hF
              refine ms_59 hC hH e_110 g_108 dX13_draws_489 (fun H locs hH => ?_)
              obtain ⟨x_111, e_112, hF⟩ := li_some hF
              refine lv_iinc (v := x_111) (lv' := [(4, .int x_111), (0, .ref (Q 72)), (1, .int v1), (2, .int v2), (3, .int v3), (5, .int v5), (6, .int v6)]) hx hb dX13_draws_490 hl (k := 4) rfl e_112 (by decide) rfl (fun ls hl => ?_)
              refine lv_goto (tgt := 375) hx hb dX13_draws_493 (by decide) ?_
              exact ih375 v1 v2 v3 x_111 u_109 _ _ _ (lv_sub hl [1, 2, 3, 4, 0] rfl) hH hF
        refine hL375 _ (fun v1 v2 v3 v4 u H locs ls hl hH hF => ?_) fuel v1 v2 v3 0 u _ _ _ (lv_sub hl [1, 2, 3, 4, 0] rfl) hH hF
        refine lv_aload_n hx hb dX13_draws_496 rfl (lv_at hl 0 rfl) ?_
        refine lv_iload_n hx hb dX13_draws_497 rfl (lv_at hl 1 rfl) ?_
        obtain ⟨r_113, u_114, h_115, hF⟩ := ob_some hF
        refine mcV_i (As := [.int v1]) (rest := []) hC hH (m_fights l G Z Q u u_114 r_113 v1 _ h_115) kwX13_fights kVX13_fights ⟨Nat.le_of_ble_eq_true rfl, Nat.le_of_ble_eq_true rfl⟩ rfl hl.1 rfl (Nat.le_of_ble_eq_true rfl) dX13_draws_498 (fun H locs hH => ?_)
        exact mr_i hC hH hr hF dX13_draws_501 hlocks
      · rw [if_neg c_9] at hF
        refine lv_bipush (v := 16) hx hb dX13_draws_130 (by decide) ?_
        refine lv_goto (tgt := 137) hx hb dX13_draws_132 (by decide) ?_
        obtain ⟨g_116, hF⟩ := og_some hF
        obtain ⟨u_117, e_118, hF⟩ := lu_some hF
        refine ms_13 hC hH e_118 g_116 dX13_draws_137 (fun H locs hH => ?_)
        refine lv_aload_n hx hb dX13_draws_138 rfl (lv_at hl 1 rfl) ?_
        refine lv_aload_n hx hb dX13_draws_139 rfl (lv_at hl 1 rfl) ?_
        refine mg_13 hC hH dX13_draws_140 ?_
        refine lv_iload_n hx hb dX13_draws_143 rfl (lv_at hl 2 rfl) ?_
        obtain ⟨g_119, hF⟩ := og_some hF
        refine ml_13 hC hH g_119 dX13_draws_144 ?_
        obtain ⟨r_120, u_121, h_122, hF⟩ := ob_some hF
        refine mcV_v (As := [.int (ra u_117 13 a0)]) (rest := []) hC hH (m_makeRow l G Z Q u_117 u_121 r_120 (ra u_117 13 a0) _ h_122) kwX13_makeRow kVX13_makeRow ⟨Nat.le_of_ble_eq_true rfl, Nat.le_of_ble_eq_true rfl⟩ rfl hl.1 rfl (Nat.le_of_ble_eq_true rfl) dX13_draws_145 (fun H locs hH => ?_)
        refine lv_iconst (v := 0) hx hb dX13_draws_148 (by decide) ?_
        refine lv_istore_n (lv' := [(3, .int 0), (2, .int r_1), (0, .ref (Q 72)), (1, .int a0)]) hx hb dX13_draws_149 rfl hl (by decide) rfl (fun ls hl => ?_)
        have hL150 : ∀ (K150_185 : Int32 → Int32 → Int32 → MS → Option (Int32 × MS)), (∀ (v1 v2 v3 : Int32) (u : MS) (H : Heap) (locs : List Loc) (ls : Array Slot), lv_has ls 7 [(0, .ref (Q 72)), (1, .int v1), (2, .int v2), (3, .int v3)] → mH G Q u s H locs → K150_185 v1 v2 v3 u = some ((r, u1)) → W p l e (headSpec (Cond.code yX13_draws cX13_draws 7 (some .int) :: wM) { frames := 3, cells := 0, slots := 0, locals := 65 }).room s m [.ref (Q 72), .int a0].toArray below meth c H locs 0 0 (MQ below (mQi G Q u1 r s.heap.size) [.ref (Q 72), .int a0].toArray s 0 0 (mA Q s.heap.size)) (F0 m 185 ls [])) → ∀ (n150 : Nat) (v1 v2 v3 : Int32) (u : MS) (H : Heap) (locs : List Loc) (ls : Array Slot), lv_has ls 7 [(0, .ref (Q 72)), (1, .int v1), (2, .int v2), (3, .int v3)] → mH G Q u s H locs → lp_draws_150 n150 v1 v2 v3 u K150_185 = some ((r, u1)) → W p l e (headSpec (Cond.code yX13_draws cX13_draws 7 (some .int) :: wM) { frames := 3, cells := 0, slots := 0, locals := 65 }).room s m [.ref (Q 72), .int a0].toArray below meth c H locs 0 0 (MQ below (mQi G Q u1 r s.heap.size) [.ref (Q 72), .int a0].toArray s 0 0 (mA Q s.heap.size)) (F0 m 150 ls []) := by
          intro K150_185 hK150_185 n150
          induction n150 with
          | zero => intro v1 v2 v3 u H locs ls hl hH hF; cases hF
          | succ n150 ih150 =>
            intro v1 v2 v3 u H locs ls hl hH hF
            unfold lp_draws_150 at hF
            refine lv_iload_n hx hb dX13_draws_150 rfl (lv_at hl 3 rfl) ?_
            refine lv_aload_n hx hb dX13_draws_151 rfl (lv_at hl 0 rfl) ?_
            refine mg_13 hC hH dX13_draws_152 ?_
            refine lv_iload_n hx hb dX13_draws_155 rfl (lv_at hl 1 rfl) ?_
            obtain ⟨g_123, hF⟩ := og_some hF
            refine ml_13 hC hH g_123 dX13_draws_156 ?_
            refine lv_icmp_ge (tgt := 185) hx hb dX13_draws_157 (by decide) (fun c_124 => ?_) (fun c_124 => ?_)
            · rw [if_pos c_124] at hF
              exact hK150_185 v1 v2 v3 u _ _ _ (lv_sub hl [0, 1, 2, 3] rfl) hH hF
            · rw [if_neg c_124] at hF
              refine lv_aload_n hx hb dX13_draws_160 rfl (lv_at hl 0 rfl) ?_
              refine mg_14 hC hH dX13_draws_161 ?_
              refine lv_bipush (v := 32) hx hb dX13_draws_164 (by decide) ?_
              refine lv_iload_n hx hb dX13_draws_166 rfl (lv_at hl 1 rfl) ?_
              refine lv_imul hx hb dX13_draws_167 ?_
              refine lv_iload_n hx hb dX13_draws_168 rfl (lv_at hl 3 rfl) ?_
              refine lv_iadd hx hb dX13_draws_169 ?_
              refine lv_iconst (v := (-1)) hx hb dX13_draws_170 (by decide) ?_
              obtain ⟨g_125, hF⟩ := og_some hF
              obtain ⟨u_126, e_127, hF⟩ := lu_some hF
              refine ms_14 hC hH e_127 g_125 dX13_draws_171 (fun H locs hH => ?_)
              refine lv_aload_n hx hb dX13_draws_172 rfl (lv_at hl 0 rfl) ?_
              refine mg_60 hC hH dX13_draws_173 ?_
              refine lv_iload_n hx hb dX13_draws_176 rfl (lv_at hl 3 rfl) ?_
              refine lv_iconst (v := 0) hx hb dX13_draws_177 (by decide) ?_
              obtain ⟨g_128, hF⟩ := og_some hF
              obtain ⟨u_129, e_130, hF⟩ := lu_some hF
              refine ms_60 hC hH e_130 g_128 dX13_draws_178 (fun H locs hH => ?_)
              obtain ⟨x_131, e_132, hF⟩ := li_some hF
              refine lv_iinc (v := x_131) (lv' := [(3, .int x_131), (0, .ref (Q 72)), (1, .int v1), (2, .int v2)]) hx hb dX13_draws_179 hl (k := 3) rfl e_132 (by decide) rfl (fun ls hl => ?_)
              refine lv_goto (tgt := 150) hx hb dX13_draws_182 (by decide) ?_
              exact ih150 v1 v2 x_131 u_129 _ _ _ (lv_sub hl [1, 2, 3, 0] rfl) hH hF
        refine hL150 _ (fun v1 v2 v3 u H locs ls hl hH hF => ?_) fuel a0 r_1 0 u_121 _ _ _ (lv_sub hl [2, 3, 1, 0] rfl) hH hF
        refine lv_iload_n hx hb dX13_draws_185 rfl (lv_at hl 2 rfl) ?_
        refine lv_istore_n (lv' := [(3, .int v2), (0, .ref (Q 72)), (1, .int v1), (2, .int v2)]) hx hb dX13_draws_186 rfl hl (by decide) rfl (fun ls hl => ?_)
        have hL187 : ∀ (K187_215 : Int32 → Int32 → Int32 → MS → Option (Int32 × MS)), (∀ (v1 v2 v3 : Int32) (u : MS) (H : Heap) (locs : List Loc) (ls : Array Slot), lv_has ls 7 [(0, .ref (Q 72)), (1, .int v1), (2, .int v2), (3, .int v3)] → mH G Q u s H locs → K187_215 v1 v2 v3 u = some ((r, u1)) → W p l e (headSpec (Cond.code yX13_draws cX13_draws 7 (some .int) :: wM) { frames := 3, cells := 0, slots := 0, locals := 65 }).room s m [.ref (Q 72), .int a0].toArray below meth c H locs 0 0 (MQ below (mQi G Q u1 r s.heap.size) [.ref (Q 72), .int a0].toArray s 0 0 (mA Q s.heap.size)) (F0 m 215 ls [])) → ∀ (n187 : Nat) (v1 v2 v3 : Int32) (u : MS) (H : Heap) (locs : List Loc) (ls : Array Slot), lv_has ls 7 [(0, .ref (Q 72)), (1, .int v1), (2, .int v2), (3, .int v3)] → mH G Q u s H locs → lp_draws_187 n187 v1 v2 v3 u K187_215 = some ((r, u1)) → W p l e (headSpec (Cond.code yX13_draws cX13_draws 7 (some .int) :: wM) { frames := 3, cells := 0, slots := 0, locals := 65 }).room s m [.ref (Q 72), .int a0].toArray below meth c H locs 0 0 (MQ below (mQi G Q u1 r s.heap.size) [.ref (Q 72), .int a0].toArray s 0 0 (mA Q s.heap.size)) (F0 m 187 ls []) := by
          intro K187_215 hK187_215 n187
          induction n187 with
          | zero => intro v1 v2 v3 u H locs ls hl hH hF; cases hF
          | succ n187 ih187 =>
            intro v1 v2 v3 u H locs ls hl hH hF
            unfold lp_draws_187 at hF
            refine lv_iload_n hx hb dX13_draws_187 rfl (lv_at hl 3 rfl) ?_
            refine lv_aload_n hx hb dX13_draws_188 rfl (lv_at hl 0 rfl) ?_
            refine mg_13 hC hH dX13_draws_189 ?_
            refine lv_iload_n hx hb dX13_draws_192 rfl (lv_at hl 1 rfl) ?_
            obtain ⟨g_133, hF⟩ := og_some hF
            refine ml_13 hC hH g_133 dX13_draws_193 ?_
            refine lv_icmp_ge (tgt := 215) hx hb dX13_draws_194 (by decide) (fun c_134 => ?_) (fun c_134 => ?_)
            · rw [if_pos c_134] at hF
              exact hK187_215 v1 v2 v3 u _ _ _ (lv_sub hl [0, 1, 2, 3] rfl) hH hF
            · rw [if_neg c_134] at hF
              refine lv_aload_n hx hb dX13_draws_197 rfl (lv_at hl 0 rfl) ?_
              refine mg_60 hC hH dX13_draws_198 ?_
              refine lv_aload_n hx hb dX13_draws_201 rfl (lv_at hl 0 rfl) ?_
              refine mg_57 hC hH dX13_draws_202 ?_
              refine lv_iload_n hx hb dX13_draws_205 rfl (lv_at hl 3 rfl) ?_
              obtain ⟨g_135, hF⟩ := og_some hF
              refine ml_57 hC hH g_135 dX13_draws_206 ?_
              refine lv_iconst (v := 1) hx hb dX13_draws_207 (by decide) ?_
              obtain ⟨g_136, hF⟩ := og_some hF
              obtain ⟨u_137, e_138, hF⟩ := lu_some hF
              refine ms_60 hC hH e_138 g_136 dX13_draws_208 (fun H locs hH => ?_)
              obtain ⟨x_139, e_140, hF⟩ := li_some hF
              refine lv_iinc (v := x_139) (lv' := [(3, .int x_139), (0, .ref (Q 72)), (1, .int v1), (2, .int v2)]) hx hb dX13_draws_209 hl (k := 3) rfl e_140 (by decide) rfl (fun ls hl => ?_)
              refine lv_goto (tgt := 187) hx hb dX13_draws_212 (by decide) ?_
              exact ih187 v1 v2 x_139 u_137 _ _ _ (lv_sub hl [1, 2, 3, 0] rfl) hH hF
        refine hL187 _ (fun v1 v2 v3 u H locs ls hl hH hF => ?_) fuel v1 v2 v2 u _ _ _ (lv_sub hl [1, 2, 3, 0] rfl) hH hF
        refine lv_iconst (v := 0) hx hb dX13_draws_215 (by decide) ?_
        refine lv_istore_n (lv' := [(3, .int 0), (0, .ref (Q 72)), (1, .int v1), (2, .int v2)]) hx hb dX13_draws_216 rfl hl (by decide) rfl (fun ls hl => ?_)
        refine lv_iconst (v := 1) hx hb dX13_draws_217 (by decide) ?_
        refine lv_istore (lv' := [(4, .int 1), (3, .int 0), (0, .ref (Q 72)), (1, .int v1), (2, .int v2)]) hx hb dX13_draws_218 hl (by decide) rfl (fun ls hl => ?_)
        have hL220 : ∀ (K220_304 : Int32 → Int32 → Int32 → Int32 → MS → Option (Int32 × MS)), (∀ (v1 v2 v3 v4 : Int32) (u : MS) (H : Heap) (locs : List Loc) (ls : Array Slot), lv_has ls 7 [(0, .ref (Q 72)), (1, .int v1), (2, .int v2), (3, .int v3), (4, .int v4)] → mH G Q u s H locs → K220_304 v1 v2 v3 v4 u = some ((r, u1)) → W p l e (headSpec (Cond.code yX13_draws cX13_draws 7 (some .int) :: wM) { frames := 3, cells := 0, slots := 0, locals := 65 }).room s m [.ref (Q 72), .int a0].toArray below meth c H locs 0 0 (MQ below (mQi G Q u1 r s.heap.size) [.ref (Q 72), .int a0].toArray s 0 0 (mA Q s.heap.size)) (F0 m 304 ls [])) → ∀ (n220 : Nat) (v1 v2 v3 v4 : Int32) (u : MS) (H : Heap) (locs : List Loc) (ls : Array Slot), lv_has ls 7 [(0, .ref (Q 72)), (1, .int v1), (2, .int v2), (3, .int v3), (4, .int v4)] → mH G Q u s H locs → lp_draws_220 n220 v1 v2 v3 v4 u K220_304 = some ((r, u1)) → W p l e (headSpec (Cond.code yX13_draws cX13_draws 7 (some .int) :: wM) { frames := 3, cells := 0, slots := 0, locals := 65 }).room s m [.ref (Q 72), .int a0].toArray below meth c H locs 0 0 (MQ below (mQi G Q u1 r s.heap.size) [.ref (Q 72), .int a0].toArray s 0 0 (mA Q s.heap.size)) (F0 m 220 ls []) := by
          intro K220_304 hK220_304 n220
          induction n220 with
          | zero => intro v1 v2 v3 v4 u H locs ls hl hH hF; cases hF
          | succ n220 ih220 =>
            intro v1 v2 v3 v4 u H locs ls hl hH hF
            unfold lp_draws_220 at hF
            refine lv_iload hx hb dX13_draws_220 (lv_at hl 4 rfl) ?_
            refine lv_bipush (v := 8) hx hb dX13_draws_222 (by decide) ?_
            refine lv_icmp_gt (tgt := 304) hx hb dX13_draws_224 (by decide) (fun c_141 => ?_) (fun c_141 => ?_)
            · rw [if_pos c_141] at hF
              exact hK220_304 v1 v2 v3 v4 u _ _ _ (lv_sub hl [0, 1, 2, 3, 4] rfl) hH hF
            · rw [if_neg c_141] at hF
              refine lv_iconst (v := 0) hx hb dX13_draws_227 (by decide) ?_
              refine lv_istore (lv' := [(5, .int 0), (0, .ref (Q 72)), (1, .int v1), (2, .int v2), (3, .int v3), (4, .int v4)]) hx hb dX13_draws_228 hl (by decide) rfl (fun ls hl => ?_)
              have hL230 : ∀ (K230_298 : Int32 → Int32 → Int32 → Int32 → Int32 → MS → Option (Int32 × MS)), (∀ (v1 v2 v3 v4 v5 : Int32) (u : MS) (H : Heap) (locs : List Loc) (ls : Array Slot), lv_has ls 7 [(0, .ref (Q 72)), (1, .int v1), (2, .int v2), (3, .int v3), (4, .int v4), (5, .int v5)] → mH G Q u s H locs → K230_298 v1 v2 v3 v4 v5 u = some ((r, u1)) → W p l e (headSpec (Cond.code yX13_draws cX13_draws 7 (some .int) :: wM) { frames := 3, cells := 0, slots := 0, locals := 65 }).room s m [.ref (Q 72), .int a0].toArray below meth c H locs 0 0 (MQ below (mQi G Q u1 r s.heap.size) [.ref (Q 72), .int a0].toArray s 0 0 (mA Q s.heap.size)) (F0 m 298 ls [])) → ∀ (n230 : Nat) (v1 v2 v3 v4 v5 : Int32) (u : MS) (H : Heap) (locs : List Loc) (ls : Array Slot), lv_has ls 7 [(0, .ref (Q 72)), (1, .int v1), (2, .int v2), (3, .int v3), (4, .int v4), (5, .int v5)] → mH G Q u s H locs → lp_draws_230 n230 v1 v2 v3 v4 v5 u K230_298 = some ((r, u1)) → W p l e (headSpec (Cond.code yX13_draws cX13_draws 7 (some .int) :: wM) { frames := 3, cells := 0, slots := 0, locals := 65 }).room s m [.ref (Q 72), .int a0].toArray below meth c H locs 0 0 (MQ below (mQi G Q u1 r s.heap.size) [.ref (Q 72), .int a0].toArray s 0 0 (mA Q s.heap.size)) (F0 m 230 ls []) := by
                intro K230_298 hK230_298 n230
                induction n230 with
                | zero => intro v1 v2 v3 v4 v5 u H locs ls hl hH hF; cases hF
                | succ n230 ih230 =>
                  intro v1 v2 v3 v4 v5 u H locs ls hl hH hF
                  unfold lp_draws_230 at hF
                  refine lv_iload hx hb dX13_draws_230 (lv_at hl 5 rfl) ?_
                  refine lv_aload_n hx hb dX13_draws_232 rfl (lv_at hl 0 rfl) ?_
                  refine mg_2 hC hH dX13_draws_233 ?_
                  refine lv_icmp_ge (tgt := 298) hx hb dX13_draws_236 (by decide) (fun c_142 => ?_) (fun c_142 => ?_)
                  · rw [if_pos c_142] at hF
                    exact hK230_298 v1 v2 v3 v4 v5 u _ _ _ (lv_sub hl [0, 1, 2, 3, 4, 5] rfl) hH hF
                  · rw [if_neg c_142] at hF
                    refine lv_aload_n hx hb dX13_draws_239 rfl (lv_at hl 0 rfl) ?_
                    refine mg_5 hC hH dX13_draws_240 ?_
                    refine lv_iload hx hb dX13_draws_243 (lv_at hl 5 rfl) ?_
                    obtain ⟨g_143, hF⟩ := og_some hF
                    refine ml_5 hC hH g_143 dX13_draws_245 ?_
                    refine lv_iload_n hx hb dX13_draws_246 rfl (lv_at hl 1 rfl) ?_
                    refine lv_icmp_ne (tgt := 292) hx hb dX13_draws_247 (by decide) (fun c_144 => ?_) (fun c_144 => ?_)
                    · rw [if_neg c_144] at hF
                      obtain ⟨x_145, e_146, hF⟩ := li_some hF
                      refine lv_iinc (v := x_145) (lv' := [(5, .int x_145), (0, .ref (Q 72)), (1, .int v1), (2, .int v2), (3, .int v3), (4, .int v4)]) hx hb dX13_draws_292 hl (k := 5) rfl e_146 (by decide) rfl (fun ls hl => ?_)
                      refine lv_goto (tgt := 230) hx hb dX13_draws_295 (by decide) ?_
                      exact ih230 v1 v2 v3 v4 x_145 u _ _ _ (lv_sub hl [1, 2, 3, 4, 5, 0] rfl) hH hF
                    · rw [if_pos c_144] at hF
                      refine lv_aload_n hx hb dX13_draws_250 rfl (lv_at hl 0 rfl) ?_
                      refine mg_8 hC hH dX13_draws_251 ?_
                      refine lv_iload hx hb dX13_draws_254 (lv_at hl 5 rfl) ?_
                      obtain ⟨g_147, hF⟩ := og_some hF
                      refine ml_8 hC hH g_147 dX13_draws_256 ?_
                      refine lv_iconst (v := 1) hx hb dX13_draws_257 (by decide) ?_
                      refine lv_icmp_ne (tgt := 292) hx hb dX13_draws_258 (by decide) (fun c_148 => ?_) (fun c_148 => ?_)
                      · rw [if_neg c_148] at hF
                        obtain ⟨x_149, e_150, hF⟩ := li_some hF
                        refine lv_iinc (v := x_149) (lv' := [(5, .int x_149), (0, .ref (Q 72)), (1, .int v1), (2, .int v2), (3, .int v3), (4, .int v4)]) hx hb dX13_draws_292 hl (k := 5) rfl e_150 (by decide) rfl (fun ls hl => ?_)
                        refine lv_goto (tgt := 230) hx hb dX13_draws_295 (by decide) ?_
                        exact ih230 v1 v2 v3 v4 x_149 u _ _ _ (lv_sub hl [1, 2, 3, 4, 5, 0] rfl) hH hF
                      · rw [if_pos c_148] at hF
                        refine lv_aload_n hx hb dX13_draws_261 rfl (lv_at hl 0 rfl) ?_
                        refine mg_9 hC hH dX13_draws_262 ?_
                        refine lv_iload hx hb dX13_draws_265 (lv_at hl 5 rfl) ?_
                        obtain ⟨g_151, hF⟩ := og_some hF
                        refine ml_9 hC hH g_151 dX13_draws_267 ?_
                        refine lv_iload hx hb dX13_draws_268 (lv_at hl 4 rfl) ?_
                        refine lv_icmp_eq (tgt := 276) hx hb dX13_draws_270 (by decide) (fun c_152 => ?_) (fun c_152 => ?_)
                        · rw [if_pos c_152] at hF
                          refine lv_aload_n hx hb dX13_draws_276 rfl (lv_at hl 0 rfl) ?_
                          refine lv_iload_n hx hb dX13_draws_277 rfl (lv_at hl 1 rfl) ?_
                          refine lv_iload hx hb dX13_draws_278 (lv_at hl 5 rfl) ?_
                          refine lv_aload_n hx hb dX13_draws_280 rfl (lv_at hl 0 rfl) ?_
                          refine mg_57 hC hH dX13_draws_281 ?_
                          refine lv_iload_n hx hb dX13_draws_284 rfl (lv_at hl 3 rfl) ?_
                          obtain ⟨g_153, hF⟩ := og_some hF
                          refine ml_57 hC hH g_153 dX13_draws_285 ?_
                          obtain ⟨r_154, u_155, h_156, hF⟩ := ob_some hF
                          refine mcV_v (As := [.int v1, .int v5, .int (ra u 57 v3)]) (rest := []) hC hH (m_settle l G Z Q u u_155 r_154 v1 v5 (ra u 57 v3) _ h_156) kwX13_settle kVX13_settle ⟨Nat.le_of_ble_eq_true rfl, Nat.le_of_ble_eq_true rfl⟩ rfl hl.1 rfl (Nat.le_of_ble_eq_true rfl) dX13_draws_286 (fun H locs hH => ?_)
                          obtain ⟨x_157, e_158, hF⟩ := li_some hF
                          refine lv_iinc (v := x_157) (lv' := [(3, .int x_157), (0, .ref (Q 72)), (1, .int v1), (2, .int v2), (4, .int v4), (5, .int v5)]) hx hb dX13_draws_289 hl (k := 3) rfl e_158 (by decide) rfl (fun ls hl => ?_)
                          obtain ⟨x_159, e_160, hF⟩ := li_some hF
                          refine lv_iinc (v := x_159) (lv' := [(5, .int x_159), (3, .int x_157), (0, .ref (Q 72)), (1, .int v1), (2, .int v2), (4, .int v4)]) hx hb dX13_draws_292 hl (k := 5) rfl e_160 (by decide) rfl (fun ls hl => ?_)
                          refine lv_goto (tgt := 230) hx hb dX13_draws_295 (by decide) ?_
                          exact ih230 v1 v2 x_157 v4 x_159 u_155 _ _ _ (lv_sub hl [2, 3, 4, 1, 5, 0] rfl) hH hF
                        · rw [if_neg c_152] at hF
                          refine lv_goto (tgt := 292) hx hb dX13_draws_273 (by decide) ?_
                          obtain ⟨x_161, e_162, hF⟩ := li_some hF
                          refine lv_iinc (v := x_161) (lv' := [(5, .int x_161), (0, .ref (Q 72)), (1, .int v1), (2, .int v2), (3, .int v3), (4, .int v4)]) hx hb dX13_draws_292 hl (k := 5) rfl e_162 (by decide) rfl (fun ls hl => ?_)
                          refine lv_goto (tgt := 230) hx hb dX13_draws_295 (by decide) ?_
                          exact ih230 v1 v2 v3 v4 x_161 u _ _ _ (lv_sub hl [1, 2, 3, 4, 5, 0] rfl) hH hF
              refine hL230 _ (fun v1 v2 v3 v4 v5 u H locs ls hl hH hF => ?_) fuel v1 v2 v3 v4 0 u _ _ _ (lv_sub hl [1, 2, 3, 4, 5, 0] rfl) hH hF
              obtain ⟨x_163, e_164, hF⟩ := li_some hF
              refine lv_iinc (v := x_163) (lv' := [(4, .int x_163), (0, .ref (Q 72)), (1, .int v1), (2, .int v2), (3, .int v3), (5, .int v5)]) hx hb dX13_draws_298 hl (k := 4) rfl e_164 (by decide) rfl (fun ls hl => ?_)
              refine lv_goto (tgt := 220) hx hb dX13_draws_301 (by decide) ?_
              exact ih220 v1 v2 v3 x_163 u _ _ _ (lv_sub hl [1, 2, 3, 4, 0] rfl) hH hF
        refine hL220 _ (fun v1 v2 v3 v4 u H locs ls hl hH hF => ?_) fuel v1 v2 0 1 u _ _ _ (lv_sub hl [2, 3, 4, 1, 0] rfl) hH hF
        refine lv_iconst (v := 0) hx hb dX13_draws_304 (by decide) ?_
        refine lv_istore (lv' := [(4, .int 0), (0, .ref (Q 72)), (1, .int v1), (2, .int v2), (3, .int v3)]) hx hb dX13_draws_305 hl (by decide) rfl (fun ls hl => ?_)
        have hL307 : ∀ (K307_328 : Int32 → Int32 → Int32 → Int32 → MS → Option (Int32 × MS)), (∀ (v1 v2 v3 v4 : Int32) (u : MS) (H : Heap) (locs : List Loc) (ls : Array Slot), lv_has ls 7 [(0, .ref (Q 72)), (1, .int v1), (2, .int v2), (3, .int v3), (4, .int v4)] → mH G Q u s H locs → K307_328 v1 v2 v3 v4 u = some ((r, u1)) → W p l e (headSpec (Cond.code yX13_draws cX13_draws 7 (some .int) :: wM) { frames := 3, cells := 0, slots := 0, locals := 65 }).room s m [.ref (Q 72), .int a0].toArray below meth c H locs 0 0 (MQ below (mQi G Q u1 r s.heap.size) [.ref (Q 72), .int a0].toArray s 0 0 (mA Q s.heap.size)) (F0 m 328 ls [])) → ∀ (n307 : Nat) (v1 v2 v3 v4 : Int32) (u : MS) (H : Heap) (locs : List Loc) (ls : Array Slot), lv_has ls 7 [(0, .ref (Q 72)), (1, .int v1), (2, .int v2), (3, .int v3), (4, .int v4)] → mH G Q u s H locs → lp_draws_307 n307 v1 v2 v3 v4 u K307_328 = some ((r, u1)) → W p l e (headSpec (Cond.code yX13_draws cX13_draws 7 (some .int) :: wM) { frames := 3, cells := 0, slots := 0, locals := 65 }).room s m [.ref (Q 72), .int a0].toArray below meth c H locs 0 0 (MQ below (mQi G Q u1 r s.heap.size) [.ref (Q 72), .int a0].toArray s 0 0 (mA Q s.heap.size)) (F0 m 307 ls []) := by
          intro K307_328 hK307_328 n307
          induction n307 with
          | zero => intro v1 v2 v3 v4 u H locs ls hl hH hF; cases hF
          | succ n307 ih307 =>
            intro v1 v2 v3 v4 u H locs ls hl hH hF
            unfold lp_draws_307 at hF
            refine lv_iload hx hb dX13_draws_307 (lv_at hl 4 rfl) ?_
            refine lv_bipush (v := 16) hx hb dX13_draws_309 (by decide) ?_
            refine lv_icmp_ge (tgt := 328) hx hb dX13_draws_311 (by decide) (fun c_165 => ?_) (fun c_165 => ?_)
            · rw [if_pos c_165] at hF
              exact hK307_328 v1 v2 v3 v4 u _ _ _ (lv_sub hl [0, 1, 2, 3, 4] rfl) hH hF
            · rw [if_neg c_165] at hF
              refine lv_aload_n hx hb dX13_draws_314 rfl (lv_at hl 0 rfl) ?_
              refine mg_59 hC hH dX13_draws_315 ?_
              refine lv_iload hx hb dX13_draws_318 (lv_at hl 4 rfl) ?_
              refine lv_iconst (v := 0) hx hb dX13_draws_320 (by decide) ?_
              obtain ⟨g_166, hF⟩ := og_some hF
              obtain ⟨u_167, e_168, hF⟩ := lu_some hF
              refine ms_59 hC hH e_168 g_166 dX13_draws_321 (fun H locs hH => ?_)
              obtain ⟨x_169, e_170, hF⟩ := li_some hF
              refine lv_iinc (v := x_169) (lv' := [(4, .int x_169), (0, .ref (Q 72)), (1, .int v1), (2, .int v2), (3, .int v3)]) hx hb dX13_draws_322 hl (k := 4) rfl e_170 (by decide) rfl (fun ls hl => ?_)
              refine lv_goto (tgt := 307) hx hb dX13_draws_325 (by decide) ?_
              exact ih307 v1 v2 v3 x_169 u_167 _ _ _ (lv_sub hl [1, 2, 3, 4, 0] rfl) hH hF
        refine hL307 _ (fun v1 v2 v3 v4 u H locs ls hl hH hF => ?_) fuel v1 v2 v3 0 u _ _ _ (lv_sub hl [1, 2, 3, 4, 0] rfl) hH hF
        refine lv_iconst (v := 0) hx hb dX13_draws_328 (by decide) ?_
        refine lv_istore (lv' := [(4, .int 0), (0, .ref (Q 72)), (1, .int v1), (2, .int v2), (3, .int v3)]) hx hb dX13_draws_329 hl (by decide) rfl (fun ls hl => ?_)
        have hL331 : ∀ (K331_372 : Int32 → Int32 → Int32 → Int32 → MS → Option (Int32 × MS)), (∀ (v1 v2 v3 v4 : Int32) (u : MS) (H : Heap) (locs : List Loc) (ls : Array Slot), lv_has ls 7 [(0, .ref (Q 72)), (1, .int v1), (2, .int v2), (3, .int v3), (4, .int v4)] → mH G Q u s H locs → K331_372 v1 v2 v3 v4 u = some ((r, u1)) → W p l e (headSpec (Cond.code yX13_draws cX13_draws 7 (some .int) :: wM) { frames := 3, cells := 0, slots := 0, locals := 65 }).room s m [.ref (Q 72), .int a0].toArray below meth c H locs 0 0 (MQ below (mQi G Q u1 r s.heap.size) [.ref (Q 72), .int a0].toArray s 0 0 (mA Q s.heap.size)) (F0 m 372 ls [])) → ∀ (n331 : Nat) (v1 v2 v3 v4 : Int32) (u : MS) (H : Heap) (locs : List Loc) (ls : Array Slot), lv_has ls 7 [(0, .ref (Q 72)), (1, .int v1), (2, .int v2), (3, .int v3), (4, .int v4)] → mH G Q u s H locs → lp_draws_331 n331 v1 v2 v3 v4 u K331_372 = some ((r, u1)) → W p l e (headSpec (Cond.code yX13_draws cX13_draws 7 (some .int) :: wM) { frames := 3, cells := 0, slots := 0, locals := 65 }).room s m [.ref (Q 72), .int a0].toArray below meth c H locs 0 0 (MQ below (mQi G Q u1 r s.heap.size) [.ref (Q 72), .int a0].toArray s 0 0 (mA Q s.heap.size)) (F0 m 331 ls []) := by
          intro K331_372 hK331_372 n331
          induction n331 with
          | zero => intro v1 v2 v3 v4 u H locs ls hl hH hF; cases hF
          | succ n331 ih331 =>
            intro v1 v2 v3 v4 u H locs ls hl hH hF
            unfold lp_draws_331 at hF
            refine lv_iload hx hb dX13_draws_331 (lv_at hl 4 rfl) ?_
            refine lv_aload_n hx hb dX13_draws_333 rfl (lv_at hl 0 rfl) ?_
            refine mg_2 hC hH dX13_draws_334 ?_
            refine lv_icmp_ge (tgt := 372) hx hb dX13_draws_337 (by decide) (fun c_171 => ?_) (fun c_171 => ?_)
            · rw [if_pos c_171] at hF
              exact hK331_372 v1 v2 v3 v4 u _ _ _ (lv_sub hl [0, 1, 2, 3, 4] rfl) hH hF
            · rw [if_neg c_171] at hF
              refine lv_aload_n hx hb dX13_draws_340 rfl (lv_at hl 0 rfl) ?_
              refine lv_iload_n hx hb dX13_draws_341 rfl (lv_at hl 1 rfl) ?_
              refine lv_iload hx hb dX13_draws_342 (lv_at hl 4 rfl) ?_
              obtain ⟨r_172, u_173, h_174, hF⟩ := ob_some hF
              refine mcV_i (As := [.int v1, .int v4]) (rest := []) hC hH (m_isOther l G Z Q u u_173 r_172 v1 v4 _ h_174) kwX13_isOther kVX13_isOther ⟨Nat.le_of_ble_eq_true rfl, Nat.le_of_ble_eq_true rfl⟩ rfl hl.1 rfl (Nat.le_of_ble_eq_true rfl) dX13_draws_344 (fun H locs hH => ?_)
              refine lv_if_eq (tgt := 366) hx hb dX13_draws_347 (by decide) (fun c_175 => ?_) (fun c_175 => ?_)
              · rw [if_pos c_175] at hF
                obtain ⟨x_176, e_177, hF⟩ := li_some hF
                refine lv_iinc (v := x_176) (lv' := [(4, .int x_176), (0, .ref (Q 72)), (1, .int v1), (2, .int v2), (3, .int v3)]) hx hb dX13_draws_366 hl (k := 4) rfl e_177 (by decide) rfl (fun ls hl => ?_)
                refine lv_goto (tgt := 331) hx hb dX13_draws_369 (by decide) ?_
                exact ih331 v1 v2 v3 x_176 u_173 _ _ _ (lv_sub hl [1, 2, 3, 4, 0] rfl) hH hF
              · rw [if_neg c_175] at hF
                refine lv_aload_n hx hb dX13_draws_350 rfl (lv_at hl 0 rfl) ?_
                refine mg_59 hC hH dX13_draws_351 ?_
                refine lv_aload_n hx hb dX13_draws_354 rfl (lv_at hl 0 rfl) ?_
                refine mg_6 hC hH dX13_draws_355 ?_
                refine lv_iload hx hb dX13_draws_358 (lv_at hl 4 rfl) ?_
                obtain ⟨g_178, hF⟩ := og_some hF
                refine ml_6 hC hH g_178 dX13_draws_360 ?_
                refine lv_dup2_11 hx hb dX13_draws_361 rfl rfl ?_
                obtain ⟨g_179, hF⟩ := og_some hF
                refine ml_59 hC hH g_179 dX13_draws_362 ?_
                refine lv_iconst (v := 1) hx hb dX13_draws_363 (by decide) ?_
                refine lv_iadd hx hb dX13_draws_364 ?_
                obtain ⟨g_180, hF⟩ := og_some hF
                obtain ⟨u_181, e_182, hF⟩ := lu_some hF
                refine ms_59 hC hH e_182 g_180 dX13_draws_365 (fun H locs hH => ?_)
                obtain ⟨x_183, e_184, hF⟩ := li_some hF
                refine lv_iinc (v := x_183) (lv' := [(4, .int x_183), (0, .ref (Q 72)), (1, .int v1), (2, .int v2), (3, .int v3)]) hx hb dX13_draws_366 hl (k := 4) rfl e_184 (by decide) rfl (fun ls hl => ?_)
                refine lv_goto (tgt := 331) hx hb dX13_draws_369 (by decide) ?_
                exact ih331 v1 v2 v3 x_183 u_181 _ _ _ (lv_sub hl [1, 2, 3, 4, 0] rfl) hH hF
        refine hL331 _ (fun v1 v2 v3 v4 u H locs ls hl hH hF => ?_) fuel v1 v2 v3 0 u _ _ _ (lv_sub hl [1, 2, 3, 4, 0] rfl) hH hF
        refine lv_iconst (v := 0) hx hb dX13_draws_372 (by decide) ?_
        refine lv_istore (lv' := [(4, .int 0), (0, .ref (Q 72)), (1, .int v1), (2, .int v2), (3, .int v3)]) hx hb dX13_draws_373 hl (by decide) rfl (fun ls hl => ?_)
        have hL375 : ∀ (K375_496 : Int32 → Int32 → Int32 → Int32 → MS → Option (Int32 × MS)), (∀ (v1 v2 v3 v4 : Int32) (u : MS) (H : Heap) (locs : List Loc) (ls : Array Slot), lv_has ls 7 [(0, .ref (Q 72)), (1, .int v1), (2, .int v2), (3, .int v3), (4, .int v4)] → mH G Q u s H locs → K375_496 v1 v2 v3 v4 u = some ((r, u1)) → W p l e (headSpec (Cond.code yX13_draws cX13_draws 7 (some .int) :: wM) { frames := 3, cells := 0, slots := 0, locals := 65 }).room s m [.ref (Q 72), .int a0].toArray below meth c H locs 0 0 (MQ below (mQi G Q u1 r s.heap.size) [.ref (Q 72), .int a0].toArray s 0 0 (mA Q s.heap.size)) (F0 m 496 ls [])) → ∀ (n375 : Nat) (v1 v2 v3 v4 : Int32) (u : MS) (H : Heap) (locs : List Loc) (ls : Array Slot), lv_has ls 7 [(0, .ref (Q 72)), (1, .int v1), (2, .int v2), (3, .int v3), (4, .int v4)] → mH G Q u s H locs → lp_draws_375 n375 v1 v2 v3 v4 u K375_496 = some ((r, u1)) → W p l e (headSpec (Cond.code yX13_draws cX13_draws 7 (some .int) :: wM) { frames := 3, cells := 0, slots := 0, locals := 65 }).room s m [.ref (Q 72), .int a0].toArray below meth c H locs 0 0 (MQ below (mQi G Q u1 r s.heap.size) [.ref (Q 72), .int a0].toArray s 0 0 (mA Q s.heap.size)) (F0 m 375 ls []) := by
          intro K375_496 hK375_496 n375
          induction n375 with
          | zero => intro v1 v2 v3 v4 u H locs ls hl hH hF; cases hF
          | succ n375 ih375 =>
            intro v1 v2 v3 v4 u H locs ls hl hH hF
            unfold lp_draws_375 at hF
            refine lv_iload hx hb dX13_draws_375 (lv_at hl 4 rfl) ?_
            refine lv_bipush (v := 16) hx hb dX13_draws_377 (by decide) ?_
            refine lv_icmp_ge (tgt := 496) hx hb dX13_draws_379 (by decide) (fun c_185 => ?_) (fun c_185 => ?_)
            · rw [if_pos c_185] at hF
              exact hK375_496 v1 v2 v3 v4 u _ _ _ (lv_sub hl [0, 1, 2, 3, 4] rfl) hH hF
            · rw [if_neg c_185] at hF
              refine lv_iconst (v := 0) hx hb dX13_draws_382 (by decide) ?_
              refine lv_istore (lv' := [(5, .int 0), (0, .ref (Q 72)), (1, .int v1), (2, .int v2), (3, .int v3), (4, .int v4)]) hx hb dX13_draws_383 hl (by decide) rfl (fun ls hl => ?_)
              refine lv_iconst (v := 1) hx hb dX13_draws_385 (by decide) ?_
              refine lv_istore (lv' := [(6, .int 1), (5, .int 0), (0, .ref (Q 72)), (1, .int v1), (2, .int v2), (3, .int v3), (4, .int v4)]) hx hb dX13_draws_386 hl (by decide) rfl (fun ls hl => ?_)
              have hL388 : ∀ (K388_422 : Int32 → Int32 → Int32 → Int32 → Int32 → Int32 → MS → Option (Int32 × MS)), (∀ (v1 v2 v3 v4 v5 v6 : Int32) (u : MS) (H : Heap) (locs : List Loc) (ls : Array Slot), lv_has ls 7 [(0, .ref (Q 72)), (1, .int v1), (2, .int v2), (3, .int v3), (4, .int v4), (5, .int v5), (6, .int v6)] → mH G Q u s H locs → K388_422 v1 v2 v3 v4 v5 v6 u = some ((r, u1)) → W p l e (headSpec (Cond.code yX13_draws cX13_draws 7 (some .int) :: wM) { frames := 3, cells := 0, slots := 0, locals := 65 }).room s m [.ref (Q 72), .int a0].toArray below meth c H locs 0 0 (MQ below (mQi G Q u1 r s.heap.size) [.ref (Q 72), .int a0].toArray s 0 0 (mA Q s.heap.size)) (F0 m 422 ls [])) → ∀ (n388 : Nat) (v1 v2 v3 v4 v5 v6 : Int32) (u : MS) (H : Heap) (locs : List Loc) (ls : Array Slot), lv_has ls 7 [(0, .ref (Q 72)), (1, .int v1), (2, .int v2), (3, .int v3), (4, .int v4), (5, .int v5), (6, .int v6)] → mH G Q u s H locs → lp_draws_388 n388 v1 v2 v3 v4 v5 v6 u K388_422 = some ((r, u1)) → W p l e (headSpec (Cond.code yX13_draws cX13_draws 7 (some .int) :: wM) { frames := 3, cells := 0, slots := 0, locals := 65 }).room s m [.ref (Q 72), .int a0].toArray below meth c H locs 0 0 (MQ below (mQi G Q u1 r s.heap.size) [.ref (Q 72), .int a0].toArray s 0 0 (mA Q s.heap.size)) (F0 m 388 ls []) := by
                intro K388_422 hK388_422 n388
                induction n388 with
                | zero => intro v1 v2 v3 v4 v5 v6 u H locs ls hl hH hF; cases hF
                | succ n388 ih388 =>
                  intro v1 v2 v3 v4 v5 v6 u H locs ls hl hH hF
                  unfold lp_draws_388 at hF
                  refine lv_iload hx hb dX13_draws_388 (lv_at hl 6 rfl) ?_
                  refine lv_bipush (v := 16) hx hb dX13_draws_390 (by decide) ?_
                  refine lv_icmp_ge (tgt := 422) hx hb dX13_draws_392 (by decide) (fun c_186 => ?_) (fun c_186 => ?_)
                  · rw [if_pos c_186] at hF
                    exact hK388_422 v1 v2 v3 v4 v5 v6 u _ _ _ (lv_sub hl [0, 1, 2, 3, 4, 5, 6] rfl) hH hF
                  · rw [if_neg c_186] at hF
                    refine lv_aload_n hx hb dX13_draws_395 rfl (lv_at hl 0 rfl) ?_
                    refine mg_59 hC hH dX13_draws_396 ?_
                    refine lv_iload hx hb dX13_draws_399 (lv_at hl 6 rfl) ?_
                    obtain ⟨g_187, hF⟩ := og_some hF
                    refine ml_59 hC hH g_187 dX13_draws_401 ?_
                    refine lv_aload_n hx hb dX13_draws_402 rfl (lv_at hl 0 rfl) ?_
                    refine mg_59 hC hH dX13_draws_403 ?_
                    refine lv_iload hx hb dX13_draws_406 (lv_at hl 5 rfl) ?_
                    obtain ⟨g_188, hF⟩ := og_some hF
                    refine ml_59 hC hH g_188 dX13_draws_408 ?_
                    refine lv_icmp_le (tgt := 416) hx hb dX13_draws_409 (by decide) (fun c_189 => ?_) (fun c_189 => ?_)
                    · rw [if_pos c_189] at hF
                      obtain ⟨x_190, e_191, hF⟩ := li_some hF
                      refine lv_iinc (v := x_190) (lv' := [(6, .int x_190), (0, .ref (Q 72)), (1, .int v1), (2, .int v2), (3, .int v3), (4, .int v4), (5, .int v5)]) hx hb dX13_draws_416 hl (k := 6) rfl e_191 (by decide) rfl (fun ls hl => ?_)
                      refine lv_goto (tgt := 388) hx hb dX13_draws_419 (by decide) ?_
                      exact ih388 v1 v2 v3 v4 v5 x_190 u _ _ _ (lv_sub hl [1, 2, 3, 4, 5, 6, 0] rfl) hH hF
                    · rw [if_neg c_189] at hF
                      refine lv_iload hx hb dX13_draws_412 (lv_at hl 6 rfl) ?_
                      refine lv_istore (lv' := [(5, .int v6), (0, .ref (Q 72)), (1, .int v1), (2, .int v2), (3, .int v3), (4, .int v4), (6, .int v6)]) hx hb dX13_draws_414 hl (by decide) rfl (fun ls hl => ?_)
                      obtain ⟨x_192, e_193, hF⟩ := li_some hF
                      refine lv_iinc (v := x_192) (lv' := [(6, .int x_192), (5, .int v6), (0, .ref (Q 72)), (1, .int v1), (2, .int v2), (3, .int v3), (4, .int v4)]) hx hb dX13_draws_416 hl (k := 6) rfl e_193 (by decide) rfl (fun ls hl => ?_)
                      refine lv_goto (tgt := 388) hx hb dX13_draws_419 (by decide) ?_
                      exact ih388 v1 v2 v3 v4 v6 x_192 u _ _ _ (lv_sub hl [2, 3, 4, 5, 6, 1, 0] rfl) hH hF
              refine hL388 _ (fun v1 v2 v3 v4 v5 v6 u H locs ls hl hH hF => ?_) fuel v1 v2 v3 v4 0 1 u _ _ _ (lv_sub hl [2, 3, 4, 5, 6, 1, 0] rfl) hH hF
              refine lv_iconst (v := 0) hx hb dX13_draws_422 (by decide) ?_
              refine lv_istore (lv' := [(6, .int 0), (0, .ref (Q 72)), (1, .int v1), (2, .int v2), (3, .int v3), (4, .int v4), (5, .int v5)]) hx hb dX13_draws_423 hl (by decide) rfl (fun ls hl => ?_)
              have hL425 : ∀ (K425_482 : Int32 → Int32 → Int32 → Int32 → Int32 → Int32 → MS → Option (Int32 × MS)), (∀ (v1 v2 v3 v4 v5 v6 : Int32) (u : MS) (H : Heap) (locs : List Loc) (ls : Array Slot), lv_has ls 7 [(0, .ref (Q 72)), (1, .int v1), (2, .int v2), (3, .int v3), (4, .int v4), (5, .int v5), (6, .int v6)] → mH G Q u s H locs → K425_482 v1 v2 v3 v4 v5 v6 u = some ((r, u1)) → W p l e (headSpec (Cond.code yX13_draws cX13_draws 7 (some .int) :: wM) { frames := 3, cells := 0, slots := 0, locals := 65 }).room s m [.ref (Q 72), .int a0].toArray below meth c H locs 0 0 (MQ below (mQi G Q u1 r s.heap.size) [.ref (Q 72), .int a0].toArray s 0 0 (mA Q s.heap.size)) (F0 m 482 ls [])) → ∀ (n425 : Nat) (v1 v2 v3 v4 v5 v6 : Int32) (u : MS) (H : Heap) (locs : List Loc) (ls : Array Slot), lv_has ls 7 [(0, .ref (Q 72)), (1, .int v1), (2, .int v2), (3, .int v3), (4, .int v4), (5, .int v5), (6, .int v6)] → mH G Q u s H locs → lp_draws_425 n425 v1 v2 v3 v4 v5 v6 u K425_482 = some ((r, u1)) → W p l e (headSpec (Cond.code yX13_draws cX13_draws 7 (some .int) :: wM) { frames := 3, cells := 0, slots := 0, locals := 65 }).room s m [.ref (Q 72), .int a0].toArray below meth c H locs 0 0 (MQ below (mQi G Q u1 r s.heap.size) [.ref (Q 72), .int a0].toArray s 0 0 (mA Q s.heap.size)) (F0 m 425 ls []) := by
                intro K425_482 hK425_482 n425
                induction n425 with
                | zero => intro v1 v2 v3 v4 v5 v6 u H locs ls hl hH hF; cases hF
                | succ n425 ih425 =>
                  intro v1 v2 v3 v4 v5 v6 u H locs ls hl hH hF
                  unfold lp_draws_425 at hF
                  refine lv_iload hx hb dX13_draws_425 (lv_at hl 6 rfl) ?_
                  refine lv_aload_n hx hb dX13_draws_427 rfl (lv_at hl 0 rfl) ?_
                  refine mg_2 hC hH dX13_draws_428 ?_
                  refine lv_icmp_ge (tgt := 482) hx hb dX13_draws_431 (by decide) (fun c_194 => ?_) (fun c_194 => ?_)
                  · rw [if_pos c_194] at hF
                    exact hK425_482 v1 v2 v3 v4 v5 v6 u _ _ _ (lv_sub hl [0, 1, 2, 3, 4, 5, 6] rfl) hH hF
                  · rw [if_neg c_194] at hF
                    refine lv_aload_n hx hb dX13_draws_434 rfl (lv_at hl 0 rfl) ?_
                    refine mg_6 hC hH dX13_draws_435 ?_
                    refine lv_iload hx hb dX13_draws_438 (lv_at hl 6 rfl) ?_
                    obtain ⟨g_195, hF⟩ := og_some hF
                    refine ml_6 hC hH g_195 dX13_draws_440 ?_
                    refine lv_iload hx hb dX13_draws_441 (lv_at hl 5 rfl) ?_
                    refine lv_icmp_ne (tgt := 476) hx hb dX13_draws_443 (by decide) (fun c_196 => ?_) (fun c_196 => ?_)
                    · rw [if_neg c_196] at hF
                      obtain ⟨x_197, e_198, hF⟩ := li_some hF
                      refine lv_iinc (v := x_197) (lv' := [(6, .int x_197), (0, .ref (Q 72)), (1, .int v1), (2, .int v2), (3, .int v3), (4, .int v4), (5, .int v5)]) hx hb dX13_draws_476 hl (k := 6) rfl e_198 (by decide) rfl (fun ls hl => ?_)
                      refine lv_goto (tgt := 425) hx hb dX13_draws_479 (by decide) ?_
                      exact ih425 v1 v2 v3 v4 v5 x_197 u _ _ _ (lv_sub hl [1, 2, 3, 4, 5, 6, 0] rfl) hH hF
                    · rw [if_pos c_196] at hF
                      refine lv_aload_n hx hb dX13_draws_446 rfl (lv_at hl 0 rfl) ?_
                      refine lv_iload_n hx hb dX13_draws_447 rfl (lv_at hl 1 rfl) ?_
                      refine lv_iload hx hb dX13_draws_448 (lv_at hl 6 rfl) ?_
                      obtain ⟨r_199, u_200, h_201, hF⟩ := ob_some hF
                      refine mcV_i (As := [.int v1, .int v6]) (rest := []) hC hH (m_isOther l G Z Q u u_200 r_199 v1 v6 _ h_201) kwX13_isOther kVX13_isOther ⟨Nat.le_of_ble_eq_true rfl, Nat.le_of_ble_eq_true rfl⟩ rfl hl.1 rfl (Nat.le_of_ble_eq_true rfl) dX13_draws_450 (fun H locs hH => ?_)
                      refine lv_if_eq (tgt := 476) hx hb dX13_draws_453 (by decide) (fun c_202 => ?_) (fun c_202 => ?_)
                      · rw [if_pos c_202] at hF
                        obtain ⟨x_203, e_204, hF⟩ := li_some hF
                        refine lv_iinc (v := x_203) (lv' := [(6, .int x_203), (0, .ref (Q 72)), (1, .int v1), (2, .int v2), (3, .int v3), (4, .int v4), (5, .int v5)]) hx hb dX13_draws_476 hl (k := 6) rfl e_204 (by decide) rfl (fun ls hl => ?_)
                        refine lv_goto (tgt := 425) hx hb dX13_draws_479 (by decide) ?_
                        exact ih425 v1 v2 v3 v4 v5 x_203 u_200 _ _ _ (lv_sub hl [1, 2, 3, 4, 5, 6, 0] rfl) hH hF
                      · rw [if_neg c_202] at hF
                        refine lv_aload_n hx hb dX13_draws_456 rfl (lv_at hl 0 rfl) ?_
                        refine lv_iload_n hx hb dX13_draws_457 rfl (lv_at hl 1 rfl) ?_
                        refine lv_iload hx hb dX13_draws_458 (lv_at hl 6 rfl) ?_
                        refine lv_aload_n hx hb dX13_draws_460 rfl (lv_at hl 0 rfl) ?_
                        refine lv_iload_n hx hb dX13_draws_461 rfl (lv_at hl 1 rfl) ?_
                        refine lv_iload hx hb dX13_draws_462 (lv_at hl 5 rfl) ?_
                        refine lv_aload_n hx hb dX13_draws_464 rfl (lv_at hl 0 rfl) ?_
                        refine mg_13 hC hH dX13_draws_465 ?_
                        refine lv_iload_n hx hb dX13_draws_468 rfl (lv_at hl 1 rfl) ?_
                        obtain ⟨g_205, hF⟩ := og_some hF
                        refine ml_13 hC hH g_205 dX13_draws_469 ?_
                        obtain ⟨r_206, u_207, h_208, hF⟩ := ob_some hF
                        refine mcV_i (As := [.int v1, .int v5, .int (ra u_200 13 v1)]) (rest := [.int v6, .int v1, .ref (Q 72)]) hC hH (m_bestPlace l G Z Q u_200 u_207 r_206 v1 v5 (ra u_200 13 v1) _ h_208) kwX13_bestPlace kVX13_bestPlace ⟨Nat.le_of_ble_eq_true rfl, Nat.le_of_ble_eq_true rfl⟩ rfl hl.1 rfl (Nat.le_of_ble_eq_true rfl) dX13_draws_470 (fun H locs hH => ?_)
                        obtain ⟨r_209, u_210, h_211, hF⟩ := ob_some hF
                        refine mcV_v (As := [.int v1, .int v6, .int r_206]) (rest := []) hC hH (m_settle l G Z Q u_207 u_210 r_209 v1 v6 r_206 _ h_211) kwX13_settle kVX13_settle ⟨Nat.le_of_ble_eq_true rfl, Nat.le_of_ble_eq_true rfl⟩ rfl hl.1 rfl (Nat.le_of_ble_eq_true rfl) dX13_draws_473 (fun H locs hH => ?_)
                        obtain ⟨x_212, e_213, hF⟩ := li_some hF
                        refine lv_iinc (v := x_212) (lv' := [(6, .int x_212), (0, .ref (Q 72)), (1, .int v1), (2, .int v2), (3, .int v3), (4, .int v4), (5, .int v5)]) hx hb dX13_draws_476 hl (k := 6) rfl e_213 (by decide) rfl (fun ls hl => ?_)
                        refine lv_goto (tgt := 425) hx hb dX13_draws_479 (by decide) ?_
                        exact ih425 v1 v2 v3 v4 v5 x_212 u_210 _ _ _ (lv_sub hl [1, 2, 3, 4, 5, 6, 0] rfl) hH hF
              refine hL425 _ (fun v1 v2 v3 v4 v5 v6 u H locs ls hl hH hF => ?_) fuel v1 v2 v3 v4 v5 0 u _ _ _ (lv_sub hl [1, 2, 3, 4, 5, 6, 0] rfl) hH hF
              refine lv_aload_n hx hb dX13_draws_482 rfl (lv_at hl 0 rfl) ?_
              refine mg_59 hC hH dX13_draws_483 ?_
              refine lv_iload hx hb dX13_draws_486 (lv_at hl 5 rfl) ?_
              refine lv_iconst (v := (-1)) hx hb dX13_draws_488 (by decide) ?_
              obtain ⟨g_214, hF⟩ := og_some hF
              obtain ⟨u_215, e_216, hF⟩ := lu_some hF
              refine ms_59 hC hH e_216 g_214 dX13_draws_489 (fun H locs hH => ?_)
              obtain ⟨x_217, e_218, hF⟩ := li_some hF
              refine lv_iinc (v := x_217) (lv' := [(4, .int x_217), (0, .ref (Q 72)), (1, .int v1), (2, .int v2), (3, .int v3), (5, .int v5), (6, .int v6)]) hx hb dX13_draws_490 hl (k := 4) rfl e_218 (by decide) rfl (fun ls hl => ?_)
              refine lv_goto (tgt := 375) hx hb dX13_draws_493 (by decide) ?_
              exact ih375 v1 v2 v3 x_217 u_215 _ _ _ (lv_sub hl [1, 2, 3, 4, 0] rfl) hH hF
        refine hL375 _ (fun v1 v2 v3 v4 u H locs ls hl hH hF => ?_) fuel v1 v2 v3 0 u _ _ _ (lv_sub hl [1, 2, 3, 4, 0] rfl) hH hF
        refine lv_aload_n hx hb dX13_draws_496 rfl (lv_at hl 0 rfl) ?_
        refine lv_iload_n hx hb dX13_draws_497 rfl (lv_at hl 1 rfl) ?_
        obtain ⟨r_219, u_220, h_221, hF⟩ := ob_some hF
        refine mcV_i (As := [.int v1]) (rest := []) hC hH (m_fights l G Z Q u u_220 r_219 v1 _ h_221) kwX13_fights kVX13_fights ⟨Nat.le_of_ble_eq_true rfl, Nat.le_of_ble_eq_true rfl⟩ rfl hl.1 rfl (Nat.le_of_ble_eq_true rfl) dX13_draws_498 (fun H locs hH => ?_)
        exact mr_i hC hH hr hF dX13_draws_501 hlocks
    · rw [if_neg c_8] at hF
      refine lv_bipush (v := 32) hx hb dX13_draws_119 (by decide) ?_
      refine lv_goto (tgt := 137) hx hb dX13_draws_121 (by decide) ?_
      obtain ⟨g_222, hF⟩ := og_some hF
      obtain ⟨u_223, e_224, hF⟩ := lu_some hF
      refine ms_13 hC hH e_224 g_222 dX13_draws_137 (fun H locs hH => ?_)
      refine lv_aload_n hx hb dX13_draws_138 rfl (lv_at hl 1 rfl) ?_
      refine lv_aload_n hx hb dX13_draws_139 rfl (lv_at hl 1 rfl) ?_
      refine mg_13 hC hH dX13_draws_140 ?_
      refine lv_iload_n hx hb dX13_draws_143 rfl (lv_at hl 2 rfl) ?_
      obtain ⟨g_225, hF⟩ := og_some hF
      refine ml_13 hC hH g_225 dX13_draws_144 ?_
      obtain ⟨r_226, u_227, h_228, hF⟩ := ob_some hF
      refine mcV_v (As := [.int (ra u_223 13 a0)]) (rest := []) hC hH (m_makeRow l G Z Q u_223 u_227 r_226 (ra u_223 13 a0) _ h_228) kwX13_makeRow kVX13_makeRow ⟨Nat.le_of_ble_eq_true rfl, Nat.le_of_ble_eq_true rfl⟩ rfl hl.1 rfl (Nat.le_of_ble_eq_true rfl) dX13_draws_145 (fun H locs hH => ?_)
      refine lv_iconst (v := 0) hx hb dX13_draws_148 (by decide) ?_
      refine lv_istore_n (lv' := [(3, .int 0), (2, .int r_1), (0, .ref (Q 72)), (1, .int a0)]) hx hb dX13_draws_149 rfl hl (by decide) rfl (fun ls hl => ?_)
      have hL150 : ∀ (K150_185 : Int32 → Int32 → Int32 → MS → Option (Int32 × MS)), (∀ (v1 v2 v3 : Int32) (u : MS) (H : Heap) (locs : List Loc) (ls : Array Slot), lv_has ls 7 [(0, .ref (Q 72)), (1, .int v1), (2, .int v2), (3, .int v3)] → mH G Q u s H locs → K150_185 v1 v2 v3 u = some ((r, u1)) → W p l e (headSpec (Cond.code yX13_draws cX13_draws 7 (some .int) :: wM) { frames := 3, cells := 0, slots := 0, locals := 65 }).room s m [.ref (Q 72), .int a0].toArray below meth c H locs 0 0 (MQ below (mQi G Q u1 r s.heap.size) [.ref (Q 72), .int a0].toArray s 0 0 (mA Q s.heap.size)) (F0 m 185 ls [])) → ∀ (n150 : Nat) (v1 v2 v3 : Int32) (u : MS) (H : Heap) (locs : List Loc) (ls : Array Slot), lv_has ls 7 [(0, .ref (Q 72)), (1, .int v1), (2, .int v2), (3, .int v3)] → mH G Q u s H locs → lp_draws_150 n150 v1 v2 v3 u K150_185 = some ((r, u1)) → W p l e (headSpec (Cond.code yX13_draws cX13_draws 7 (some .int) :: wM) { frames := 3, cells := 0, slots := 0, locals := 65 }).room s m [.ref (Q 72), .int a0].toArray below meth c H locs 0 0 (MQ below (mQi G Q u1 r s.heap.size) [.ref (Q 72), .int a0].toArray s 0 0 (mA Q s.heap.size)) (F0 m 150 ls []) := by
        intro K150_185 hK150_185 n150
        induction n150 with
        | zero => intro v1 v2 v3 u H locs ls hl hH hF; cases hF
        | succ n150 ih150 =>
          intro v1 v2 v3 u H locs ls hl hH hF
          unfold lp_draws_150 at hF
          refine lv_iload_n hx hb dX13_draws_150 rfl (lv_at hl 3 rfl) ?_
          refine lv_aload_n hx hb dX13_draws_151 rfl (lv_at hl 0 rfl) ?_
          refine mg_13 hC hH dX13_draws_152 ?_
          refine lv_iload_n hx hb dX13_draws_155 rfl (lv_at hl 1 rfl) ?_
          obtain ⟨g_229, hF⟩ := og_some hF
          refine ml_13 hC hH g_229 dX13_draws_156 ?_
          refine lv_icmp_ge (tgt := 185) hx hb dX13_draws_157 (by decide) (fun c_230 => ?_) (fun c_230 => ?_)
          · rw [if_pos c_230] at hF
            exact hK150_185 v1 v2 v3 u _ _ _ (lv_sub hl [0, 1, 2, 3] rfl) hH hF
          · rw [if_neg c_230] at hF
            refine lv_aload_n hx hb dX13_draws_160 rfl (lv_at hl 0 rfl) ?_
            refine mg_14 hC hH dX13_draws_161 ?_
            refine lv_bipush (v := 32) hx hb dX13_draws_164 (by decide) ?_
            refine lv_iload_n hx hb dX13_draws_166 rfl (lv_at hl 1 rfl) ?_
            refine lv_imul hx hb dX13_draws_167 ?_
            refine lv_iload_n hx hb dX13_draws_168 rfl (lv_at hl 3 rfl) ?_
            refine lv_iadd hx hb dX13_draws_169 ?_
            refine lv_iconst (v := (-1)) hx hb dX13_draws_170 (by decide) ?_
            obtain ⟨g_231, hF⟩ := og_some hF
            obtain ⟨u_232, e_233, hF⟩ := lu_some hF
            refine ms_14 hC hH e_233 g_231 dX13_draws_171 (fun H locs hH => ?_)
            refine lv_aload_n hx hb dX13_draws_172 rfl (lv_at hl 0 rfl) ?_
            refine mg_60 hC hH dX13_draws_173 ?_
            refine lv_iload_n hx hb dX13_draws_176 rfl (lv_at hl 3 rfl) ?_
            refine lv_iconst (v := 0) hx hb dX13_draws_177 (by decide) ?_
            obtain ⟨g_234, hF⟩ := og_some hF
            obtain ⟨u_235, e_236, hF⟩ := lu_some hF
            refine ms_60 hC hH e_236 g_234 dX13_draws_178 (fun H locs hH => ?_)
            obtain ⟨x_237, e_238, hF⟩ := li_some hF
            refine lv_iinc (v := x_237) (lv' := [(3, .int x_237), (0, .ref (Q 72)), (1, .int v1), (2, .int v2)]) hx hb dX13_draws_179 hl (k := 3) rfl e_238 (by decide) rfl (fun ls hl => ?_)
            refine lv_goto (tgt := 150) hx hb dX13_draws_182 (by decide) ?_
            exact ih150 v1 v2 x_237 u_235 _ _ _ (lv_sub hl [1, 2, 3, 0] rfl) hH hF
      refine hL150 _ (fun v1 v2 v3 u H locs ls hl hH hF => ?_) fuel a0 r_1 0 u_227 _ _ _ (lv_sub hl [2, 3, 1, 0] rfl) hH hF
      refine lv_iload_n hx hb dX13_draws_185 rfl (lv_at hl 2 rfl) ?_
      refine lv_istore_n (lv' := [(3, .int v2), (0, .ref (Q 72)), (1, .int v1), (2, .int v2)]) hx hb dX13_draws_186 rfl hl (by decide) rfl (fun ls hl => ?_)
      have hL187 : ∀ (K187_215 : Int32 → Int32 → Int32 → MS → Option (Int32 × MS)), (∀ (v1 v2 v3 : Int32) (u : MS) (H : Heap) (locs : List Loc) (ls : Array Slot), lv_has ls 7 [(0, .ref (Q 72)), (1, .int v1), (2, .int v2), (3, .int v3)] → mH G Q u s H locs → K187_215 v1 v2 v3 u = some ((r, u1)) → W p l e (headSpec (Cond.code yX13_draws cX13_draws 7 (some .int) :: wM) { frames := 3, cells := 0, slots := 0, locals := 65 }).room s m [.ref (Q 72), .int a0].toArray below meth c H locs 0 0 (MQ below (mQi G Q u1 r s.heap.size) [.ref (Q 72), .int a0].toArray s 0 0 (mA Q s.heap.size)) (F0 m 215 ls [])) → ∀ (n187 : Nat) (v1 v2 v3 : Int32) (u : MS) (H : Heap) (locs : List Loc) (ls : Array Slot), lv_has ls 7 [(0, .ref (Q 72)), (1, .int v1), (2, .int v2), (3, .int v3)] → mH G Q u s H locs → lp_draws_187 n187 v1 v2 v3 u K187_215 = some ((r, u1)) → W p l e (headSpec (Cond.code yX13_draws cX13_draws 7 (some .int) :: wM) { frames := 3, cells := 0, slots := 0, locals := 65 }).room s m [.ref (Q 72), .int a0].toArray below meth c H locs 0 0 (MQ below (mQi G Q u1 r s.heap.size) [.ref (Q 72), .int a0].toArray s 0 0 (mA Q s.heap.size)) (F0 m 187 ls []) := by
        intro K187_215 hK187_215 n187
        induction n187 with
        | zero => intro v1 v2 v3 u H locs ls hl hH hF; cases hF
        | succ n187 ih187 =>
          intro v1 v2 v3 u H locs ls hl hH hF
          unfold lp_draws_187 at hF
          refine lv_iload_n hx hb dX13_draws_187 rfl (lv_at hl 3 rfl) ?_
          refine lv_aload_n hx hb dX13_draws_188 rfl (lv_at hl 0 rfl) ?_
          refine mg_13 hC hH dX13_draws_189 ?_
          refine lv_iload_n hx hb dX13_draws_192 rfl (lv_at hl 1 rfl) ?_
          obtain ⟨g_239, hF⟩ := og_some hF
          refine ml_13 hC hH g_239 dX13_draws_193 ?_
          refine lv_icmp_ge (tgt := 215) hx hb dX13_draws_194 (by decide) (fun c_240 => ?_) (fun c_240 => ?_)
          · rw [if_pos c_240] at hF
            exact hK187_215 v1 v2 v3 u _ _ _ (lv_sub hl [0, 1, 2, 3] rfl) hH hF
          · rw [if_neg c_240] at hF
            refine lv_aload_n hx hb dX13_draws_197 rfl (lv_at hl 0 rfl) ?_
            refine mg_60 hC hH dX13_draws_198 ?_
            refine lv_aload_n hx hb dX13_draws_201 rfl (lv_at hl 0 rfl) ?_
            refine mg_57 hC hH dX13_draws_202 ?_
            refine lv_iload_n hx hb dX13_draws_205 rfl (lv_at hl 3 rfl) ?_
            obtain ⟨g_241, hF⟩ := og_some hF
            refine ml_57 hC hH g_241 dX13_draws_206 ?_
            refine lv_iconst (v := 1) hx hb dX13_draws_207 (by decide) ?_
            obtain ⟨g_242, hF⟩ := og_some hF
            obtain ⟨u_243, e_244, hF⟩ := lu_some hF
            refine ms_60 hC hH e_244 g_242 dX13_draws_208 (fun H locs hH => ?_)
            obtain ⟨x_245, e_246, hF⟩ := li_some hF
            refine lv_iinc (v := x_245) (lv' := [(3, .int x_245), (0, .ref (Q 72)), (1, .int v1), (2, .int v2)]) hx hb dX13_draws_209 hl (k := 3) rfl e_246 (by decide) rfl (fun ls hl => ?_)
            refine lv_goto (tgt := 187) hx hb dX13_draws_212 (by decide) ?_
            exact ih187 v1 v2 x_245 u_243 _ _ _ (lv_sub hl [1, 2, 3, 0] rfl) hH hF
      refine hL187 _ (fun v1 v2 v3 u H locs ls hl hH hF => ?_) fuel v1 v2 v2 u _ _ _ (lv_sub hl [1, 2, 3, 0] rfl) hH hF
      refine lv_iconst (v := 0) hx hb dX13_draws_215 (by decide) ?_
      refine lv_istore_n (lv' := [(3, .int 0), (0, .ref (Q 72)), (1, .int v1), (2, .int v2)]) hx hb dX13_draws_216 rfl hl (by decide) rfl (fun ls hl => ?_)
      refine lv_iconst (v := 1) hx hb dX13_draws_217 (by decide) ?_
      refine lv_istore (lv' := [(4, .int 1), (3, .int 0), (0, .ref (Q 72)), (1, .int v1), (2, .int v2)]) hx hb dX13_draws_218 hl (by decide) rfl (fun ls hl => ?_)
      have hL220 : ∀ (K220_304 : Int32 → Int32 → Int32 → Int32 → MS → Option (Int32 × MS)), (∀ (v1 v2 v3 v4 : Int32) (u : MS) (H : Heap) (locs : List Loc) (ls : Array Slot), lv_has ls 7 [(0, .ref (Q 72)), (1, .int v1), (2, .int v2), (3, .int v3), (4, .int v4)] → mH G Q u s H locs → K220_304 v1 v2 v3 v4 u = some ((r, u1)) → W p l e (headSpec (Cond.code yX13_draws cX13_draws 7 (some .int) :: wM) { frames := 3, cells := 0, slots := 0, locals := 65 }).room s m [.ref (Q 72), .int a0].toArray below meth c H locs 0 0 (MQ below (mQi G Q u1 r s.heap.size) [.ref (Q 72), .int a0].toArray s 0 0 (mA Q s.heap.size)) (F0 m 304 ls [])) → ∀ (n220 : Nat) (v1 v2 v3 v4 : Int32) (u : MS) (H : Heap) (locs : List Loc) (ls : Array Slot), lv_has ls 7 [(0, .ref (Q 72)), (1, .int v1), (2, .int v2), (3, .int v3), (4, .int v4)] → mH G Q u s H locs → lp_draws_220 n220 v1 v2 v3 v4 u K220_304 = some ((r, u1)) → W p l e (headSpec (Cond.code yX13_draws cX13_draws 7 (some .int) :: wM) { frames := 3, cells := 0, slots := 0, locals := 65 }).room s m [.ref (Q 72), .int a0].toArray below meth c H locs 0 0 (MQ below (mQi G Q u1 r s.heap.size) [.ref (Q 72), .int a0].toArray s 0 0 (mA Q s.heap.size)) (F0 m 220 ls []) := by
        intro K220_304 hK220_304 n220
        induction n220 with
        | zero => intro v1 v2 v3 v4 u H locs ls hl hH hF; cases hF
        | succ n220 ih220 =>
          intro v1 v2 v3 v4 u H locs ls hl hH hF
          unfold lp_draws_220 at hF
          refine lv_iload hx hb dX13_draws_220 (lv_at hl 4 rfl) ?_
          refine lv_bipush (v := 8) hx hb dX13_draws_222 (by decide) ?_
          refine lv_icmp_gt (tgt := 304) hx hb dX13_draws_224 (by decide) (fun c_247 => ?_) (fun c_247 => ?_)
          · rw [if_pos c_247] at hF
            exact hK220_304 v1 v2 v3 v4 u _ _ _ (lv_sub hl [0, 1, 2, 3, 4] rfl) hH hF
          · rw [if_neg c_247] at hF
            refine lv_iconst (v := 0) hx hb dX13_draws_227 (by decide) ?_
            refine lv_istore (lv' := [(5, .int 0), (0, .ref (Q 72)), (1, .int v1), (2, .int v2), (3, .int v3), (4, .int v4)]) hx hb dX13_draws_228 hl (by decide) rfl (fun ls hl => ?_)
            have hL230 : ∀ (K230_298 : Int32 → Int32 → Int32 → Int32 → Int32 → MS → Option (Int32 × MS)), (∀ (v1 v2 v3 v4 v5 : Int32) (u : MS) (H : Heap) (locs : List Loc) (ls : Array Slot), lv_has ls 7 [(0, .ref (Q 72)), (1, .int v1), (2, .int v2), (3, .int v3), (4, .int v4), (5, .int v5)] → mH G Q u s H locs → K230_298 v1 v2 v3 v4 v5 u = some ((r, u1)) → W p l e (headSpec (Cond.code yX13_draws cX13_draws 7 (some .int) :: wM) { frames := 3, cells := 0, slots := 0, locals := 65 }).room s m [.ref (Q 72), .int a0].toArray below meth c H locs 0 0 (MQ below (mQi G Q u1 r s.heap.size) [.ref (Q 72), .int a0].toArray s 0 0 (mA Q s.heap.size)) (F0 m 298 ls [])) → ∀ (n230 : Nat) (v1 v2 v3 v4 v5 : Int32) (u : MS) (H : Heap) (locs : List Loc) (ls : Array Slot), lv_has ls 7 [(0, .ref (Q 72)), (1, .int v1), (2, .int v2), (3, .int v3), (4, .int v4), (5, .int v5)] → mH G Q u s H locs → lp_draws_230 n230 v1 v2 v3 v4 v5 u K230_298 = some ((r, u1)) → W p l e (headSpec (Cond.code yX13_draws cX13_draws 7 (some .int) :: wM) { frames := 3, cells := 0, slots := 0, locals := 65 }).room s m [.ref (Q 72), .int a0].toArray below meth c H locs 0 0 (MQ below (mQi G Q u1 r s.heap.size) [.ref (Q 72), .int a0].toArray s 0 0 (mA Q s.heap.size)) (F0 m 230 ls []) := by
              intro K230_298 hK230_298 n230
              induction n230 with
              | zero => intro v1 v2 v3 v4 v5 u H locs ls hl hH hF; cases hF
              | succ n230 ih230 =>
                intro v1 v2 v3 v4 v5 u H locs ls hl hH hF
                unfold lp_draws_230 at hF
                refine lv_iload hx hb dX13_draws_230 (lv_at hl 5 rfl) ?_
                refine lv_aload_n hx hb dX13_draws_232 rfl (lv_at hl 0 rfl) ?_
                refine mg_2 hC hH dX13_draws_233 ?_
                refine lv_icmp_ge (tgt := 298) hx hb dX13_draws_236 (by decide) (fun c_248 => ?_) (fun c_248 => ?_)
                · rw [if_pos c_248] at hF
                  exact hK230_298 v1 v2 v3 v4 v5 u _ _ _ (lv_sub hl [0, 1, 2, 3, 4, 5] rfl) hH hF
                · rw [if_neg c_248] at hF
                  refine lv_aload_n hx hb dX13_draws_239 rfl (lv_at hl 0 rfl) ?_
                  refine mg_5 hC hH dX13_draws_240 ?_
                  refine lv_iload hx hb dX13_draws_243 (lv_at hl 5 rfl) ?_
                  obtain ⟨g_249, hF⟩ := og_some hF
                  refine ml_5 hC hH g_249 dX13_draws_245 ?_
                  refine lv_iload_n hx hb dX13_draws_246 rfl (lv_at hl 1 rfl) ?_
                  refine lv_icmp_ne (tgt := 292) hx hb dX13_draws_247 (by decide) (fun c_250 => ?_) (fun c_250 => ?_)
                  · rw [if_neg c_250] at hF
                    obtain ⟨x_251, e_252, hF⟩ := li_some hF
                    refine lv_iinc (v := x_251) (lv' := [(5, .int x_251), (0, .ref (Q 72)), (1, .int v1), (2, .int v2), (3, .int v3), (4, .int v4)]) hx hb dX13_draws_292 hl (k := 5) rfl e_252 (by decide) rfl (fun ls hl => ?_)
                    refine lv_goto (tgt := 230) hx hb dX13_draws_295 (by decide) ?_
                    exact ih230 v1 v2 v3 v4 x_251 u _ _ _ (lv_sub hl [1, 2, 3, 4, 5, 0] rfl) hH hF
                  · rw [if_pos c_250] at hF
                    refine lv_aload_n hx hb dX13_draws_250 rfl (lv_at hl 0 rfl) ?_
                    refine mg_8 hC hH dX13_draws_251 ?_
                    refine lv_iload hx hb dX13_draws_254 (lv_at hl 5 rfl) ?_
                    obtain ⟨g_253, hF⟩ := og_some hF
                    refine ml_8 hC hH g_253 dX13_draws_256 ?_
                    refine lv_iconst (v := 1) hx hb dX13_draws_257 (by decide) ?_
                    refine lv_icmp_ne (tgt := 292) hx hb dX13_draws_258 (by decide) (fun c_254 => ?_) (fun c_254 => ?_)
                    · rw [if_neg c_254] at hF
                      obtain ⟨x_255, e_256, hF⟩ := li_some hF
                      refine lv_iinc (v := x_255) (lv' := [(5, .int x_255), (0, .ref (Q 72)), (1, .int v1), (2, .int v2), (3, .int v3), (4, .int v4)]) hx hb dX13_draws_292 hl (k := 5) rfl e_256 (by decide) rfl (fun ls hl => ?_)
                      refine lv_goto (tgt := 230) hx hb dX13_draws_295 (by decide) ?_
                      exact ih230 v1 v2 v3 v4 x_255 u _ _ _ (lv_sub hl [1, 2, 3, 4, 5, 0] rfl) hH hF
                    · rw [if_pos c_254] at hF
                      refine lv_aload_n hx hb dX13_draws_261 rfl (lv_at hl 0 rfl) ?_
                      refine mg_9 hC hH dX13_draws_262 ?_
                      refine lv_iload hx hb dX13_draws_265 (lv_at hl 5 rfl) ?_
                      obtain ⟨g_257, hF⟩ := og_some hF
                      refine ml_9 hC hH g_257 dX13_draws_267 ?_
                      refine lv_iload hx hb dX13_draws_268 (lv_at hl 4 rfl) ?_
                      refine lv_icmp_eq (tgt := 276) hx hb dX13_draws_270 (by decide) (fun c_258 => ?_) (fun c_258 => ?_)
                      · rw [if_pos c_258] at hF
                        refine lv_aload_n hx hb dX13_draws_276 rfl (lv_at hl 0 rfl) ?_
                        refine lv_iload_n hx hb dX13_draws_277 rfl (lv_at hl 1 rfl) ?_
                        refine lv_iload hx hb dX13_draws_278 (lv_at hl 5 rfl) ?_
                        refine lv_aload_n hx hb dX13_draws_280 rfl (lv_at hl 0 rfl) ?_
                        refine mg_57 hC hH dX13_draws_281 ?_
                        refine lv_iload_n hx hb dX13_draws_284 rfl (lv_at hl 3 rfl) ?_
                        obtain ⟨g_259, hF⟩ := og_some hF
                        refine ml_57 hC hH g_259 dX13_draws_285 ?_
                        obtain ⟨r_260, u_261, h_262, hF⟩ := ob_some hF
                        refine mcV_v (As := [.int v1, .int v5, .int (ra u 57 v3)]) (rest := []) hC hH (m_settle l G Z Q u u_261 r_260 v1 v5 (ra u 57 v3) _ h_262) kwX13_settle kVX13_settle ⟨Nat.le_of_ble_eq_true rfl, Nat.le_of_ble_eq_true rfl⟩ rfl hl.1 rfl (Nat.le_of_ble_eq_true rfl) dX13_draws_286 (fun H locs hH => ?_)
                        obtain ⟨x_263, e_264, hF⟩ := li_some hF
                        refine lv_iinc (v := x_263) (lv' := [(3, .int x_263), (0, .ref (Q 72)), (1, .int v1), (2, .int v2), (4, .int v4), (5, .int v5)]) hx hb dX13_draws_289 hl (k := 3) rfl e_264 (by decide) rfl (fun ls hl => ?_)
                        obtain ⟨x_265, e_266, hF⟩ := li_some hF
                        refine lv_iinc (v := x_265) (lv' := [(5, .int x_265), (3, .int x_263), (0, .ref (Q 72)), (1, .int v1), (2, .int v2), (4, .int v4)]) hx hb dX13_draws_292 hl (k := 5) rfl e_266 (by decide) rfl (fun ls hl => ?_)
                        refine lv_goto (tgt := 230) hx hb dX13_draws_295 (by decide) ?_
                        exact ih230 v1 v2 x_263 v4 x_265 u_261 _ _ _ (lv_sub hl [2, 3, 4, 1, 5, 0] rfl) hH hF
                      · rw [if_neg c_258] at hF
                        refine lv_goto (tgt := 292) hx hb dX13_draws_273 (by decide) ?_
                        obtain ⟨x_267, e_268, hF⟩ := li_some hF
                        refine lv_iinc (v := x_267) (lv' := [(5, .int x_267), (0, .ref (Q 72)), (1, .int v1), (2, .int v2), (3, .int v3), (4, .int v4)]) hx hb dX13_draws_292 hl (k := 5) rfl e_268 (by decide) rfl (fun ls hl => ?_)
                        refine lv_goto (tgt := 230) hx hb dX13_draws_295 (by decide) ?_
                        exact ih230 v1 v2 v3 v4 x_267 u _ _ _ (lv_sub hl [1, 2, 3, 4, 5, 0] rfl) hH hF
            refine hL230 _ (fun v1 v2 v3 v4 v5 u H locs ls hl hH hF => ?_) fuel v1 v2 v3 v4 0 u _ _ _ (lv_sub hl [1, 2, 3, 4, 5, 0] rfl) hH hF
            obtain ⟨x_269, e_270, hF⟩ := li_some hF
            refine lv_iinc (v := x_269) (lv' := [(4, .int x_269), (0, .ref (Q 72)), (1, .int v1), (2, .int v2), (3, .int v3), (5, .int v5)]) hx hb dX13_draws_298 hl (k := 4) rfl e_270 (by decide) rfl (fun ls hl => ?_)
            refine lv_goto (tgt := 220) hx hb dX13_draws_301 (by decide) ?_
            exact ih220 v1 v2 v3 x_269 u _ _ _ (lv_sub hl [1, 2, 3, 4, 0] rfl) hH hF
      refine hL220 _ (fun v1 v2 v3 v4 u H locs ls hl hH hF => ?_) fuel v1 v2 0 1 u _ _ _ (lv_sub hl [2, 3, 4, 1, 0] rfl) hH hF
      refine lv_iconst (v := 0) hx hb dX13_draws_304 (by decide) ?_
      refine lv_istore (lv' := [(4, .int 0), (0, .ref (Q 72)), (1, .int v1), (2, .int v2), (3, .int v3)]) hx hb dX13_draws_305 hl (by decide) rfl (fun ls hl => ?_)
      have hL307 : ∀ (K307_328 : Int32 → Int32 → Int32 → Int32 → MS → Option (Int32 × MS)), (∀ (v1 v2 v3 v4 : Int32) (u : MS) (H : Heap) (locs : List Loc) (ls : Array Slot), lv_has ls 7 [(0, .ref (Q 72)), (1, .int v1), (2, .int v2), (3, .int v3), (4, .int v4)] → mH G Q u s H locs → K307_328 v1 v2 v3 v4 u = some ((r, u1)) → W p l e (headSpec (Cond.code yX13_draws cX13_draws 7 (some .int) :: wM) { frames := 3, cells := 0, slots := 0, locals := 65 }).room s m [.ref (Q 72), .int a0].toArray below meth c H locs 0 0 (MQ below (mQi G Q u1 r s.heap.size) [.ref (Q 72), .int a0].toArray s 0 0 (mA Q s.heap.size)) (F0 m 328 ls [])) → ∀ (n307 : Nat) (v1 v2 v3 v4 : Int32) (u : MS) (H : Heap) (locs : List Loc) (ls : Array Slot), lv_has ls 7 [(0, .ref (Q 72)), (1, .int v1), (2, .int v2), (3, .int v3), (4, .int v4)] → mH G Q u s H locs → lp_draws_307 n307 v1 v2 v3 v4 u K307_328 = some ((r, u1)) → W p l e (headSpec (Cond.code yX13_draws cX13_draws 7 (some .int) :: wM) { frames := 3, cells := 0, slots := 0, locals := 65 }).room s m [.ref (Q 72), .int a0].toArray below meth c H locs 0 0 (MQ below (mQi G Q u1 r s.heap.size) [.ref (Q 72), .int a0].toArray s 0 0 (mA Q s.heap.size)) (F0 m 307 ls []) := by
        intro K307_328 hK307_328 n307
        induction n307 with
        | zero => intro v1 v2 v3 v4 u H locs ls hl hH hF; cases hF
        | succ n307 ih307 =>
          intro v1 v2 v3 v4 u H locs ls hl hH hF
          unfold lp_draws_307 at hF
          refine lv_iload hx hb dX13_draws_307 (lv_at hl 4 rfl) ?_
          refine lv_bipush (v := 16) hx hb dX13_draws_309 (by decide) ?_
          refine lv_icmp_ge (tgt := 328) hx hb dX13_draws_311 (by decide) (fun c_271 => ?_) (fun c_271 => ?_)
          · rw [if_pos c_271] at hF
            exact hK307_328 v1 v2 v3 v4 u _ _ _ (lv_sub hl [0, 1, 2, 3, 4] rfl) hH hF
          · rw [if_neg c_271] at hF
            refine lv_aload_n hx hb dX13_draws_314 rfl (lv_at hl 0 rfl) ?_
            refine mg_59 hC hH dX13_draws_315 ?_
            refine lv_iload hx hb dX13_draws_318 (lv_at hl 4 rfl) ?_
            refine lv_iconst (v := 0) hx hb dX13_draws_320 (by decide) ?_
            obtain ⟨g_272, hF⟩ := og_some hF
            obtain ⟨u_273, e_274, hF⟩ := lu_some hF
            refine ms_59 hC hH e_274 g_272 dX13_draws_321 (fun H locs hH => ?_)
            obtain ⟨x_275, e_276, hF⟩ := li_some hF
            refine lv_iinc (v := x_275) (lv' := [(4, .int x_275), (0, .ref (Q 72)), (1, .int v1), (2, .int v2), (3, .int v3)]) hx hb dX13_draws_322 hl (k := 4) rfl e_276 (by decide) rfl (fun ls hl => ?_)
            refine lv_goto (tgt := 307) hx hb dX13_draws_325 (by decide) ?_
            exact ih307 v1 v2 v3 x_275 u_273 _ _ _ (lv_sub hl [1, 2, 3, 4, 0] rfl) hH hF
      refine hL307 _ (fun v1 v2 v3 v4 u H locs ls hl hH hF => ?_) fuel v1 v2 v3 0 u _ _ _ (lv_sub hl [1, 2, 3, 4, 0] rfl) hH hF
      refine lv_iconst (v := 0) hx hb dX13_draws_328 (by decide) ?_
      refine lv_istore (lv' := [(4, .int 0), (0, .ref (Q 72)), (1, .int v1), (2, .int v2), (3, .int v3)]) hx hb dX13_draws_329 hl (by decide) rfl (fun ls hl => ?_)
      have hL331 : ∀ (K331_372 : Int32 → Int32 → Int32 → Int32 → MS → Option (Int32 × MS)), (∀ (v1 v2 v3 v4 : Int32) (u : MS) (H : Heap) (locs : List Loc) (ls : Array Slot), lv_has ls 7 [(0, .ref (Q 72)), (1, .int v1), (2, .int v2), (3, .int v3), (4, .int v4)] → mH G Q u s H locs → K331_372 v1 v2 v3 v4 u = some ((r, u1)) → W p l e (headSpec (Cond.code yX13_draws cX13_draws 7 (some .int) :: wM) { frames := 3, cells := 0, slots := 0, locals := 65 }).room s m [.ref (Q 72), .int a0].toArray below meth c H locs 0 0 (MQ below (mQi G Q u1 r s.heap.size) [.ref (Q 72), .int a0].toArray s 0 0 (mA Q s.heap.size)) (F0 m 372 ls [])) → ∀ (n331 : Nat) (v1 v2 v3 v4 : Int32) (u : MS) (H : Heap) (locs : List Loc) (ls : Array Slot), lv_has ls 7 [(0, .ref (Q 72)), (1, .int v1), (2, .int v2), (3, .int v3), (4, .int v4)] → mH G Q u s H locs → lp_draws_331 n331 v1 v2 v3 v4 u K331_372 = some ((r, u1)) → W p l e (headSpec (Cond.code yX13_draws cX13_draws 7 (some .int) :: wM) { frames := 3, cells := 0, slots := 0, locals := 65 }).room s m [.ref (Q 72), .int a0].toArray below meth c H locs 0 0 (MQ below (mQi G Q u1 r s.heap.size) [.ref (Q 72), .int a0].toArray s 0 0 (mA Q s.heap.size)) (F0 m 331 ls []) := by
        intro K331_372 hK331_372 n331
        induction n331 with
        | zero => intro v1 v2 v3 v4 u H locs ls hl hH hF; cases hF
        | succ n331 ih331 =>
          intro v1 v2 v3 v4 u H locs ls hl hH hF
          unfold lp_draws_331 at hF
          refine lv_iload hx hb dX13_draws_331 (lv_at hl 4 rfl) ?_
          refine lv_aload_n hx hb dX13_draws_333 rfl (lv_at hl 0 rfl) ?_
          refine mg_2 hC hH dX13_draws_334 ?_
          refine lv_icmp_ge (tgt := 372) hx hb dX13_draws_337 (by decide) (fun c_277 => ?_) (fun c_277 => ?_)
          · rw [if_pos c_277] at hF
            exact hK331_372 v1 v2 v3 v4 u _ _ _ (lv_sub hl [0, 1, 2, 3, 4] rfl) hH hF
          · rw [if_neg c_277] at hF
            refine lv_aload_n hx hb dX13_draws_340 rfl (lv_at hl 0 rfl) ?_
            refine lv_iload_n hx hb dX13_draws_341 rfl (lv_at hl 1 rfl) ?_
            refine lv_iload hx hb dX13_draws_342 (lv_at hl 4 rfl) ?_
            obtain ⟨r_278, u_279, h_280, hF⟩ := ob_some hF
            refine mcV_i (As := [.int v1, .int v4]) (rest := []) hC hH (m_isOther l G Z Q u u_279 r_278 v1 v4 _ h_280) kwX13_isOther kVX13_isOther ⟨Nat.le_of_ble_eq_true rfl, Nat.le_of_ble_eq_true rfl⟩ rfl hl.1 rfl (Nat.le_of_ble_eq_true rfl) dX13_draws_344 (fun H locs hH => ?_)
            refine lv_if_eq (tgt := 366) hx hb dX13_draws_347 (by decide) (fun c_281 => ?_) (fun c_281 => ?_)
            · rw [if_pos c_281] at hF
              obtain ⟨x_282, e_283, hF⟩ := li_some hF
              refine lv_iinc (v := x_282) (lv' := [(4, .int x_282), (0, .ref (Q 72)), (1, .int v1), (2, .int v2), (3, .int v3)]) hx hb dX13_draws_366 hl (k := 4) rfl e_283 (by decide) rfl (fun ls hl => ?_)
              refine lv_goto (tgt := 331) hx hb dX13_draws_369 (by decide) ?_
              exact ih331 v1 v2 v3 x_282 u_279 _ _ _ (lv_sub hl [1, 2, 3, 4, 0] rfl) hH hF
            · rw [if_neg c_281] at hF
              refine lv_aload_n hx hb dX13_draws_350 rfl (lv_at hl 0 rfl) ?_
              refine mg_59 hC hH dX13_draws_351 ?_
              refine lv_aload_n hx hb dX13_draws_354 rfl (lv_at hl 0 rfl) ?_
              refine mg_6 hC hH dX13_draws_355 ?_
              refine lv_iload hx hb dX13_draws_358 (lv_at hl 4 rfl) ?_
              obtain ⟨g_284, hF⟩ := og_some hF
              refine ml_6 hC hH g_284 dX13_draws_360 ?_
              refine lv_dup2_11 hx hb dX13_draws_361 rfl rfl ?_
              obtain ⟨g_285, hF⟩ := og_some hF
              refine ml_59 hC hH g_285 dX13_draws_362 ?_
              refine lv_iconst (v := 1) hx hb dX13_draws_363 (by decide) ?_
              refine lv_iadd hx hb dX13_draws_364 ?_
              obtain ⟨g_286, hF⟩ := og_some hF
              obtain ⟨u_287, e_288, hF⟩ := lu_some hF
              refine ms_59 hC hH e_288 g_286 dX13_draws_365 (fun H locs hH => ?_)
              obtain ⟨x_289, e_290, hF⟩ := li_some hF
              refine lv_iinc (v := x_289) (lv' := [(4, .int x_289), (0, .ref (Q 72)), (1, .int v1), (2, .int v2), (3, .int v3)]) hx hb dX13_draws_366 hl (k := 4) rfl e_290 (by decide) rfl (fun ls hl => ?_)
              refine lv_goto (tgt := 331) hx hb dX13_draws_369 (by decide) ?_
              exact ih331 v1 v2 v3 x_289 u_287 _ _ _ (lv_sub hl [1, 2, 3, 4, 0] rfl) hH hF
      refine hL331 _ (fun v1 v2 v3 v4 u H locs ls hl hH hF => ?_) fuel v1 v2 v3 0 u _ _ _ (lv_sub hl [1, 2, 3, 4, 0] rfl) hH hF
      refine lv_iconst (v := 0) hx hb dX13_draws_372 (by decide) ?_
      refine lv_istore (lv' := [(4, .int 0), (0, .ref (Q 72)), (1, .int v1), (2, .int v2), (3, .int v3)]) hx hb dX13_draws_373 hl (by decide) rfl (fun ls hl => ?_)
      have hL375 : ∀ (K375_496 : Int32 → Int32 → Int32 → Int32 → MS → Option (Int32 × MS)), (∀ (v1 v2 v3 v4 : Int32) (u : MS) (H : Heap) (locs : List Loc) (ls : Array Slot), lv_has ls 7 [(0, .ref (Q 72)), (1, .int v1), (2, .int v2), (3, .int v3), (4, .int v4)] → mH G Q u s H locs → K375_496 v1 v2 v3 v4 u = some ((r, u1)) → W p l e (headSpec (Cond.code yX13_draws cX13_draws 7 (some .int) :: wM) { frames := 3, cells := 0, slots := 0, locals := 65 }).room s m [.ref (Q 72), .int a0].toArray below meth c H locs 0 0 (MQ below (mQi G Q u1 r s.heap.size) [.ref (Q 72), .int a0].toArray s 0 0 (mA Q s.heap.size)) (F0 m 496 ls [])) → ∀ (n375 : Nat) (v1 v2 v3 v4 : Int32) (u : MS) (H : Heap) (locs : List Loc) (ls : Array Slot), lv_has ls 7 [(0, .ref (Q 72)), (1, .int v1), (2, .int v2), (3, .int v3), (4, .int v4)] → mH G Q u s H locs → lp_draws_375 n375 v1 v2 v3 v4 u K375_496 = some ((r, u1)) → W p l e (headSpec (Cond.code yX13_draws cX13_draws 7 (some .int) :: wM) { frames := 3, cells := 0, slots := 0, locals := 65 }).room s m [.ref (Q 72), .int a0].toArray below meth c H locs 0 0 (MQ below (mQi G Q u1 r s.heap.size) [.ref (Q 72), .int a0].toArray s 0 0 (mA Q s.heap.size)) (F0 m 375 ls []) := by
        intro K375_496 hK375_496 n375
        induction n375 with
        | zero => intro v1 v2 v3 v4 u H locs ls hl hH hF; cases hF
        | succ n375 ih375 =>
          intro v1 v2 v3 v4 u H locs ls hl hH hF
          unfold lp_draws_375 at hF
          refine lv_iload hx hb dX13_draws_375 (lv_at hl 4 rfl) ?_
          refine lv_bipush (v := 16) hx hb dX13_draws_377 (by decide) ?_
          refine lv_icmp_ge (tgt := 496) hx hb dX13_draws_379 (by decide) (fun c_291 => ?_) (fun c_291 => ?_)
          · rw [if_pos c_291] at hF
            exact hK375_496 v1 v2 v3 v4 u _ _ _ (lv_sub hl [0, 1, 2, 3, 4] rfl) hH hF
          · rw [if_neg c_291] at hF
            refine lv_iconst (v := 0) hx hb dX13_draws_382 (by decide) ?_
            refine lv_istore (lv' := [(5, .int 0), (0, .ref (Q 72)), (1, .int v1), (2, .int v2), (3, .int v3), (4, .int v4)]) hx hb dX13_draws_383 hl (by decide) rfl (fun ls hl => ?_)
            refine lv_iconst (v := 1) hx hb dX13_draws_385 (by decide) ?_
            refine lv_istore (lv' := [(6, .int 1), (5, .int 0), (0, .ref (Q 72)), (1, .int v1), (2, .int v2), (3, .int v3), (4, .int v4)]) hx hb dX13_draws_386 hl (by decide) rfl (fun ls hl => ?_)
            have hL388 : ∀ (K388_422 : Int32 → Int32 → Int32 → Int32 → Int32 → Int32 → MS → Option (Int32 × MS)), (∀ (v1 v2 v3 v4 v5 v6 : Int32) (u : MS) (H : Heap) (locs : List Loc) (ls : Array Slot), lv_has ls 7 [(0, .ref (Q 72)), (1, .int v1), (2, .int v2), (3, .int v3), (4, .int v4), (5, .int v5), (6, .int v6)] → mH G Q u s H locs → K388_422 v1 v2 v3 v4 v5 v6 u = some ((r, u1)) → W p l e (headSpec (Cond.code yX13_draws cX13_draws 7 (some .int) :: wM) { frames := 3, cells := 0, slots := 0, locals := 65 }).room s m [.ref (Q 72), .int a0].toArray below meth c H locs 0 0 (MQ below (mQi G Q u1 r s.heap.size) [.ref (Q 72), .int a0].toArray s 0 0 (mA Q s.heap.size)) (F0 m 422 ls [])) → ∀ (n388 : Nat) (v1 v2 v3 v4 v5 v6 : Int32) (u : MS) (H : Heap) (locs : List Loc) (ls : Array Slot), lv_has ls 7 [(0, .ref (Q 72)), (1, .int v1), (2, .int v2), (3, .int v3), (4, .int v4), (5, .int v5), (6, .int v6)] → mH G Q u s H locs → lp_draws_388 n388 v1 v2 v3 v4 v5 v6 u K388_422 = some ((r, u1)) → W p l e (headSpec (Cond.code yX13_draws cX13_draws 7 (some .int) :: wM) { frames := 3, cells := 0, slots := 0, locals := 65 }).room s m [.ref (Q 72), .int a0].toArray below meth c H locs 0 0 (MQ below (mQi G Q u1 r s.heap.size) [.ref (Q 72), .int a0].toArray s 0 0 (mA Q s.heap.size)) (F0 m 388 ls []) := by
              intro K388_422 hK388_422 n388
              induction n388 with
              | zero => intro v1 v2 v3 v4 v5 v6 u H locs ls hl hH hF; cases hF
              | succ n388 ih388 =>
                intro v1 v2 v3 v4 v5 v6 u H locs ls hl hH hF
                unfold lp_draws_388 at hF
                refine lv_iload hx hb dX13_draws_388 (lv_at hl 6 rfl) ?_
                refine lv_bipush (v := 16) hx hb dX13_draws_390 (by decide) ?_
                refine lv_icmp_ge (tgt := 422) hx hb dX13_draws_392 (by decide) (fun c_292 => ?_) (fun c_292 => ?_)
                · rw [if_pos c_292] at hF
                  exact hK388_422 v1 v2 v3 v4 v5 v6 u _ _ _ (lv_sub hl [0, 1, 2, 3, 4, 5, 6] rfl) hH hF
                · rw [if_neg c_292] at hF
                  refine lv_aload_n hx hb dX13_draws_395 rfl (lv_at hl 0 rfl) ?_
                  refine mg_59 hC hH dX13_draws_396 ?_
                  refine lv_iload hx hb dX13_draws_399 (lv_at hl 6 rfl) ?_
                  obtain ⟨g_293, hF⟩ := og_some hF
                  refine ml_59 hC hH g_293 dX13_draws_401 ?_
                  refine lv_aload_n hx hb dX13_draws_402 rfl (lv_at hl 0 rfl) ?_
                  refine mg_59 hC hH dX13_draws_403 ?_
                  refine lv_iload hx hb dX13_draws_406 (lv_at hl 5 rfl) ?_
                  obtain ⟨g_294, hF⟩ := og_some hF
                  refine ml_59 hC hH g_294 dX13_draws_408 ?_
                  refine lv_icmp_le (tgt := 416) hx hb dX13_draws_409 (by decide) (fun c_295 => ?_) (fun c_295 => ?_)
                  · rw [if_pos c_295] at hF
                    obtain ⟨x_296, e_297, hF⟩ := li_some hF
                    refine lv_iinc (v := x_296) (lv' := [(6, .int x_296), (0, .ref (Q 72)), (1, .int v1), (2, .int v2), (3, .int v3), (4, .int v4), (5, .int v5)]) hx hb dX13_draws_416 hl (k := 6) rfl e_297 (by decide) rfl (fun ls hl => ?_)
                    refine lv_goto (tgt := 388) hx hb dX13_draws_419 (by decide) ?_
                    exact ih388 v1 v2 v3 v4 v5 x_296 u _ _ _ (lv_sub hl [1, 2, 3, 4, 5, 6, 0] rfl) hH hF
                  · rw [if_neg c_295] at hF
                    refine lv_iload hx hb dX13_draws_412 (lv_at hl 6 rfl) ?_
                    refine lv_istore (lv' := [(5, .int v6), (0, .ref (Q 72)), (1, .int v1), (2, .int v2), (3, .int v3), (4, .int v4), (6, .int v6)]) hx hb dX13_draws_414 hl (by decide) rfl (fun ls hl => ?_)
                    obtain ⟨x_298, e_299, hF⟩ := li_some hF
                    refine lv_iinc (v := x_298) (lv' := [(6, .int x_298), (5, .int v6), (0, .ref (Q 72)), (1, .int v1), (2, .int v2), (3, .int v3), (4, .int v4)]) hx hb dX13_draws_416 hl (k := 6) rfl e_299 (by decide) rfl (fun ls hl => ?_)
                    refine lv_goto (tgt := 388) hx hb dX13_draws_419 (by decide) ?_
                    exact ih388 v1 v2 v3 v4 v6 x_298 u _ _ _ (lv_sub hl [2, 3, 4, 5, 6, 1, 0] rfl) hH hF
            refine hL388 _ (fun v1 v2 v3 v4 v5 v6 u H locs ls hl hH hF => ?_) fuel v1 v2 v3 v4 0 1 u _ _ _ (lv_sub hl [2, 3, 4, 5, 6, 1, 0] rfl) hH hF
            refine lv_iconst (v := 0) hx hb dX13_draws_422 (by decide) ?_
            refine lv_istore (lv' := [(6, .int 0), (0, .ref (Q 72)), (1, .int v1), (2, .int v2), (3, .int v3), (4, .int v4), (5, .int v5)]) hx hb dX13_draws_423 hl (by decide) rfl (fun ls hl => ?_)
            have hL425 : ∀ (K425_482 : Int32 → Int32 → Int32 → Int32 → Int32 → Int32 → MS → Option (Int32 × MS)), (∀ (v1 v2 v3 v4 v5 v6 : Int32) (u : MS) (H : Heap) (locs : List Loc) (ls : Array Slot), lv_has ls 7 [(0, .ref (Q 72)), (1, .int v1), (2, .int v2), (3, .int v3), (4, .int v4), (5, .int v5), (6, .int v6)] → mH G Q u s H locs → K425_482 v1 v2 v3 v4 v5 v6 u = some ((r, u1)) → W p l e (headSpec (Cond.code yX13_draws cX13_draws 7 (some .int) :: wM) { frames := 3, cells := 0, slots := 0, locals := 65 }).room s m [.ref (Q 72), .int a0].toArray below meth c H locs 0 0 (MQ below (mQi G Q u1 r s.heap.size) [.ref (Q 72), .int a0].toArray s 0 0 (mA Q s.heap.size)) (F0 m 482 ls [])) → ∀ (n425 : Nat) (v1 v2 v3 v4 v5 v6 : Int32) (u : MS) (H : Heap) (locs : List Loc) (ls : Array Slot), lv_has ls 7 [(0, .ref (Q 72)), (1, .int v1), (2, .int v2), (3, .int v3), (4, .int v4), (5, .int v5), (6, .int v6)] → mH G Q u s H locs → lp_draws_425 n425 v1 v2 v3 v4 v5 v6 u K425_482 = some ((r, u1)) → W p l e (headSpec (Cond.code yX13_draws cX13_draws 7 (some .int) :: wM) { frames := 3, cells := 0, slots := 0, locals := 65 }).room s m [.ref (Q 72), .int a0].toArray below meth c H locs 0 0 (MQ below (mQi G Q u1 r s.heap.size) [.ref (Q 72), .int a0].toArray s 0 0 (mA Q s.heap.size)) (F0 m 425 ls []) := by
              intro K425_482 hK425_482 n425
              induction n425 with
              | zero => intro v1 v2 v3 v4 v5 v6 u H locs ls hl hH hF; cases hF
              | succ n425 ih425 =>
                intro v1 v2 v3 v4 v5 v6 u H locs ls hl hH hF
                unfold lp_draws_425 at hF
                refine lv_iload hx hb dX13_draws_425 (lv_at hl 6 rfl) ?_
                refine lv_aload_n hx hb dX13_draws_427 rfl (lv_at hl 0 rfl) ?_
                refine mg_2 hC hH dX13_draws_428 ?_
                refine lv_icmp_ge (tgt := 482) hx hb dX13_draws_431 (by decide) (fun c_300 => ?_) (fun c_300 => ?_)
                · rw [if_pos c_300] at hF
                  exact hK425_482 v1 v2 v3 v4 v5 v6 u _ _ _ (lv_sub hl [0, 1, 2, 3, 4, 5, 6] rfl) hH hF
                · rw [if_neg c_300] at hF
                  refine lv_aload_n hx hb dX13_draws_434 rfl (lv_at hl 0 rfl) ?_
                  refine mg_6 hC hH dX13_draws_435 ?_
                  refine lv_iload hx hb dX13_draws_438 (lv_at hl 6 rfl) ?_
                  obtain ⟨g_301, hF⟩ := og_some hF
                  refine ml_6 hC hH g_301 dX13_draws_440 ?_
                  refine lv_iload hx hb dX13_draws_441 (lv_at hl 5 rfl) ?_
                  refine lv_icmp_ne (tgt := 476) hx hb dX13_draws_443 (by decide) (fun c_302 => ?_) (fun c_302 => ?_)
                  · rw [if_neg c_302] at hF
                    obtain ⟨x_303, e_304, hF⟩ := li_some hF
                    refine lv_iinc (v := x_303) (lv' := [(6, .int x_303), (0, .ref (Q 72)), (1, .int v1), (2, .int v2), (3, .int v3), (4, .int v4), (5, .int v5)]) hx hb dX13_draws_476 hl (k := 6) rfl e_304 (by decide) rfl (fun ls hl => ?_)
                    refine lv_goto (tgt := 425) hx hb dX13_draws_479 (by decide) ?_
                    exact ih425 v1 v2 v3 v4 v5 x_303 u _ _ _ (lv_sub hl [1, 2, 3, 4, 5, 6, 0] rfl) hH hF
                  · rw [if_pos c_302] at hF
                    refine lv_aload_n hx hb dX13_draws_446 rfl (lv_at hl 0 rfl) ?_
                    refine lv_iload_n hx hb dX13_draws_447 rfl (lv_at hl 1 rfl) ?_
                    refine lv_iload hx hb dX13_draws_448 (lv_at hl 6 rfl) ?_
                    obtain ⟨r_305, u_306, h_307, hF⟩ := ob_some hF
                    refine mcV_i (As := [.int v1, .int v6]) (rest := []) hC hH (m_isOther l G Z Q u u_306 r_305 v1 v6 _ h_307) kwX13_isOther kVX13_isOther ⟨Nat.le_of_ble_eq_true rfl, Nat.le_of_ble_eq_true rfl⟩ rfl hl.1 rfl (Nat.le_of_ble_eq_true rfl) dX13_draws_450 (fun H locs hH => ?_)
                    refine lv_if_eq (tgt := 476) hx hb dX13_draws_453 (by decide) (fun c_308 => ?_) (fun c_308 => ?_)
                    · rw [if_pos c_308] at hF
                      obtain ⟨x_309, e_310, hF⟩ := li_some hF
                      refine lv_iinc (v := x_309) (lv' := [(6, .int x_309), (0, .ref (Q 72)), (1, .int v1), (2, .int v2), (3, .int v3), (4, .int v4), (5, .int v5)]) hx hb dX13_draws_476 hl (k := 6) rfl e_310 (by decide) rfl (fun ls hl => ?_)
                      refine lv_goto (tgt := 425) hx hb dX13_draws_479 (by decide) ?_
                      exact ih425 v1 v2 v3 v4 v5 x_309 u_306 _ _ _ (lv_sub hl [1, 2, 3, 4, 5, 6, 0] rfl) hH hF
                    · rw [if_neg c_308] at hF
                      refine lv_aload_n hx hb dX13_draws_456 rfl (lv_at hl 0 rfl) ?_
                      refine lv_iload_n hx hb dX13_draws_457 rfl (lv_at hl 1 rfl) ?_
                      refine lv_iload hx hb dX13_draws_458 (lv_at hl 6 rfl) ?_
                      refine lv_aload_n hx hb dX13_draws_460 rfl (lv_at hl 0 rfl) ?_
                      refine lv_iload_n hx hb dX13_draws_461 rfl (lv_at hl 1 rfl) ?_
                      refine lv_iload hx hb dX13_draws_462 (lv_at hl 5 rfl) ?_
                      refine lv_aload_n hx hb dX13_draws_464 rfl (lv_at hl 0 rfl) ?_
                      refine mg_13 hC hH dX13_draws_465 ?_
                      refine lv_iload_n hx hb dX13_draws_468 rfl (lv_at hl 1 rfl) ?_
                      obtain ⟨g_311, hF⟩ := og_some hF
                      refine ml_13 hC hH g_311 dX13_draws_469 ?_
                      obtain ⟨r_312, u_313, h_314, hF⟩ := ob_some hF
                      refine mcV_i (As := [.int v1, .int v5, .int (ra u_306 13 v1)]) (rest := [.int v6, .int v1, .ref (Q 72)]) hC hH (m_bestPlace l G Z Q u_306 u_313 r_312 v1 v5 (ra u_306 13 v1) _ h_314) kwX13_bestPlace kVX13_bestPlace ⟨Nat.le_of_ble_eq_true rfl, Nat.le_of_ble_eq_true rfl⟩ rfl hl.1 rfl (Nat.le_of_ble_eq_true rfl) dX13_draws_470 (fun H locs hH => ?_)
                      obtain ⟨r_315, u_316, h_317, hF⟩ := ob_some hF
                      refine mcV_v (As := [.int v1, .int v6, .int r_312]) (rest := []) hC hH (m_settle l G Z Q u_313 u_316 r_315 v1 v6 r_312 _ h_317) kwX13_settle kVX13_settle ⟨Nat.le_of_ble_eq_true rfl, Nat.le_of_ble_eq_true rfl⟩ rfl hl.1 rfl (Nat.le_of_ble_eq_true rfl) dX13_draws_473 (fun H locs hH => ?_)
                      obtain ⟨x_318, e_319, hF⟩ := li_some hF
                      refine lv_iinc (v := x_318) (lv' := [(6, .int x_318), (0, .ref (Q 72)), (1, .int v1), (2, .int v2), (3, .int v3), (4, .int v4), (5, .int v5)]) hx hb dX13_draws_476 hl (k := 6) rfl e_319 (by decide) rfl (fun ls hl => ?_)
                      refine lv_goto (tgt := 425) hx hb dX13_draws_479 (by decide) ?_
                      exact ih425 v1 v2 v3 v4 v5 x_318 u_316 _ _ _ (lv_sub hl [1, 2, 3, 4, 5, 6, 0] rfl) hH hF
            refine hL425 _ (fun v1 v2 v3 v4 v5 v6 u H locs ls hl hH hF => ?_) fuel v1 v2 v3 v4 v5 0 u _ _ _ (lv_sub hl [1, 2, 3, 4, 5, 6, 0] rfl) hH hF
            refine lv_aload_n hx hb dX13_draws_482 rfl (lv_at hl 0 rfl) ?_
            refine mg_59 hC hH dX13_draws_483 ?_
            refine lv_iload hx hb dX13_draws_486 (lv_at hl 5 rfl) ?_
            refine lv_iconst (v := (-1)) hx hb dX13_draws_488 (by decide) ?_
            obtain ⟨g_320, hF⟩ := og_some hF
            obtain ⟨u_321, e_322, hF⟩ := lu_some hF
            refine ms_59 hC hH e_322 g_320 dX13_draws_489 (fun H locs hH => ?_)
            obtain ⟨x_323, e_324, hF⟩ := li_some hF
            refine lv_iinc (v := x_323) (lv' := [(4, .int x_323), (0, .ref (Q 72)), (1, .int v1), (2, .int v2), (3, .int v3), (5, .int v5), (6, .int v6)]) hx hb dX13_draws_490 hl (k := 4) rfl e_324 (by decide) rfl (fun ls hl => ?_)
            refine lv_goto (tgt := 375) hx hb dX13_draws_493 (by decide) ?_
            exact ih375 v1 v2 v3 x_323 u_321 _ _ _ (lv_sub hl [1, 2, 3, 4, 0] rfl) hH hF
      refine hL375 _ (fun v1 v2 v3 v4 u H locs ls hl hH hF => ?_) fuel v1 v2 v3 0 u _ _ _ (lv_sub hl [1, 2, 3, 4, 0] rfl) hH hF
      refine lv_aload_n hx hb dX13_draws_496 rfl (lv_at hl 0 rfl) ?_
      refine lv_iload_n hx hb dX13_draws_497 rfl (lv_at hl 1 rfl) ?_
      obtain ⟨r_325, u_326, h_327, hF⟩ := ob_some hF
      refine mcV_i (As := [.int v1]) (rest := []) hC hH (m_fights l G Z Q u u_326 r_325 v1 _ h_327) kwX13_fights kVX13_fights ⟨Nat.le_of_ble_eq_true rfl, Nat.le_of_ble_eq_true rfl⟩ rfl hl.1 rfl (Nat.le_of_ble_eq_true rfl) dX13_draws_498 (fun H locs hH => ?_)
      exact mr_i hC hH hr hF dX13_draws_501 hlocks
  · rw [if_neg c_4] at hF
    refine lv_aload_n hx hb dX13_draws_12 rfl (lv_at hl 1 rfl) ?_
    refine mg_12 hC hH dX13_draws_13 ?_
    refine lv_iload_n hx hb dX13_draws_16 rfl (lv_at hl 2 rfl) ?_
    refine lv_iconst (v := 1) hx hb dX13_draws_17 (by decide) ?_
    obtain ⟨g_328, hF⟩ := og_some hF
    obtain ⟨u_329, e_330, hF⟩ := lu_some hF
    refine ms_12 hC hH e_330 g_328 dX13_draws_18 (fun H locs hH => ?_)
    refine lv_aload_n hx hb dX13_draws_19 rfl (lv_at hl 1 rfl) ?_
    refine mg_13 hC hH dX13_draws_20 ?_
    refine lv_iload_n hx hb dX13_draws_23 rfl (lv_at hl 2 rfl) ?_
    refine lv_iload_n hx hb dX13_draws_24 rfl (lv_at hl 0 rfl) ?_
    obtain ⟨g_331, hF⟩ := og_some hF
    obtain ⟨u_332, e_333, hF⟩ := lu_some hF
    refine ms_13 hC hH e_333 g_331 dX13_draws_25 (fun H locs hH => ?_)
    refine lv_iconst (v := 0) hx hb dX13_draws_26 (by decide) ?_
    refine lv_istore_n (lv' := [(3, .int 0), (2, .int r_1), (0, .ref (Q 72)), (1, .int a0)]) hx hb dX13_draws_27 rfl hl (by decide) rfl (fun ls hl => ?_)
    refine lv_iconst (v := 0) hx hb dX13_draws_28 (by decide) ?_
    refine lv_istore (lv' := [(4, .int 0), (3, .int 0), (2, .int r_1), (0, .ref (Q 72)), (1, .int a0)]) hx hb dX13_draws_29 hl (by decide) rfl (fun ls hl => ?_)
    have hL31 : ∀ (K31_95 : Int32 → Int32 → Int32 → Int32 → MS → Option (Int32 × MS)), (∀ (v1 v2 v3 v4 : Int32) (u : MS) (H : Heap) (locs : List Loc) (ls : Array Slot), lv_has ls 7 [(0, .ref (Q 72)), (1, .int v1), (2, .int v2), (3, .int v3), (4, .int v4)] → mH G Q u s H locs → K31_95 v1 v2 v3 v4 u = some ((r, u1)) → W p l e (headSpec (Cond.code yX13_draws cX13_draws 7 (some .int) :: wM) { frames := 3, cells := 0, slots := 0, locals := 65 }).room s m [.ref (Q 72), .int a0].toArray below meth c H locs 0 0 (MQ below (mQi G Q u1 r s.heap.size) [.ref (Q 72), .int a0].toArray s 0 0 (mA Q s.heap.size)) (F0 m 95 ls [])) → ∀ (n31 : Nat) (v1 v2 v3 v4 : Int32) (u : MS) (H : Heap) (locs : List Loc) (ls : Array Slot), lv_has ls 7 [(0, .ref (Q 72)), (1, .int v1), (2, .int v2), (3, .int v3), (4, .int v4)] → mH G Q u s H locs → lp_draws_31 n31 v1 v2 v3 v4 u K31_95 = some ((r, u1)) → W p l e (headSpec (Cond.code yX13_draws cX13_draws 7 (some .int) :: wM) { frames := 3, cells := 0, slots := 0, locals := 65 }).room s m [.ref (Q 72), .int a0].toArray below meth c H locs 0 0 (MQ below (mQi G Q u1 r s.heap.size) [.ref (Q 72), .int a0].toArray s 0 0 (mA Q s.heap.size)) (F0 m 31 ls []) := by
      intro K31_95 hK31_95 n31
      induction n31 with
      | zero => intro v1 v2 v3 v4 u H locs ls hl hH hF; cases hF
      | succ n31 ih31 =>
        intro v1 v2 v3 v4 u H locs ls hl hH hF
        unfold lp_draws_31 at hF
        refine lv_iload hx hb dX13_draws_31 (lv_at hl 4 rfl) ?_
        refine lv_aload_n hx hb dX13_draws_33 rfl (lv_at hl 0 rfl) ?_
        refine mg_2 hC hH dX13_draws_34 ?_
        refine lv_icmp_ge (tgt := 95) hx hb dX13_draws_37 (by decide) (fun c_334 => ?_) (fun c_334 => ?_)
        · rw [if_pos c_334] at hF
          exact hK31_95 v1 v2 v3 v4 u _ _ _ (lv_sub hl [0, 1, 2, 3, 4] rfl) hH hF
        · rw [if_neg c_334] at hF
          refine lv_aload_n hx hb dX13_draws_40 rfl (lv_at hl 0 rfl) ?_
          refine mg_5 hC hH dX13_draws_41 ?_
          refine lv_iload hx hb dX13_draws_44 (lv_at hl 4 rfl) ?_
          obtain ⟨g_335, hF⟩ := og_some hF
          refine ml_5 hC hH g_335 dX13_draws_46 ?_
          refine lv_iload_n hx hb dX13_draws_47 rfl (lv_at hl 1 rfl) ?_
          refine lv_icmp_ne (tgt := 89) hx hb dX13_draws_48 (by decide) (fun c_336 => ?_) (fun c_336 => ?_)
          · rw [if_neg c_336] at hF
            obtain ⟨x_337, e_338, hF⟩ := li_some hF
            refine lv_iinc (v := x_337) (lv' := [(4, .int x_337), (0, .ref (Q 72)), (1, .int v1), (2, .int v2), (3, .int v3)]) hx hb dX13_draws_89 hl (k := 4) rfl e_338 (by decide) rfl (fun ls hl => ?_)
            refine lv_goto (tgt := 31) hx hb dX13_draws_92 (by decide) ?_
            exact ih31 v1 v2 v3 x_337 u _ _ _ (lv_sub hl [1, 2, 3, 4, 0] rfl) hH hF
          · rw [if_pos c_336] at hF
            refine lv_aload_n hx hb dX13_draws_51 rfl (lv_at hl 0 rfl) ?_
            refine mg_8 hC hH dX13_draws_52 ?_
            refine lv_iload hx hb dX13_draws_55 (lv_at hl 4 rfl) ?_
            obtain ⟨g_339, hF⟩ := og_some hF
            refine ml_8 hC hH g_339 dX13_draws_57 ?_
            refine lv_iconst (v := 1) hx hb dX13_draws_58 (by decide) ?_
            refine lv_icmp_eq (tgt := 65) hx hb dX13_draws_59 (by decide) (fun c_340 => ?_) (fun c_340 => ?_)
            · rw [if_pos c_340] at hF
              refine lv_aload_n hx hb dX13_draws_65 rfl (lv_at hl 0 rfl) ?_
              refine mg_14 hC hH dX13_draws_66 ?_
              refine lv_bipush (v := 32) hx hb dX13_draws_69 (by decide) ?_
              refine lv_iload_n hx hb dX13_draws_71 rfl (lv_at hl 1 rfl) ?_
              refine lv_imul hx hb dX13_draws_72 ?_
              refine lv_iload_n hx hb dX13_draws_73 rfl (lv_at hl 3 rfl) ?_
              refine lv_iadd hx hb dX13_draws_74 ?_
              refine lv_iload hx hb dX13_draws_75 (lv_at hl 4 rfl) ?_
              obtain ⟨g_341, hF⟩ := og_some hF
              obtain ⟨u_342, e_343, hF⟩ := lu_some hF
              refine ms_14 hC hH e_343 g_341 dX13_draws_77 (fun H locs hH => ?_)
              refine lv_aload_n hx hb dX13_draws_78 rfl (lv_at hl 0 rfl) ?_
              refine mg_10 hC hH dX13_draws_79 ?_
              refine lv_iload hx hb dX13_draws_82 (lv_at hl 4 rfl) ?_
              refine lv_iload_n hx hb dX13_draws_84 rfl (lv_at hl 3 rfl) ?_
              obtain ⟨g_344, hF⟩ := og_some hF
              obtain ⟨u_345, e_346, hF⟩ := lu_some hF
              refine ms_10 hC hH e_346 g_344 dX13_draws_85 (fun H locs hH => ?_)
              obtain ⟨x_347, e_348, hF⟩ := li_some hF
              refine lv_iinc (v := x_347) (lv' := [(3, .int x_347), (0, .ref (Q 72)), (1, .int v1), (2, .int v2), (4, .int v4)]) hx hb dX13_draws_86 hl (k := 3) rfl e_348 (by decide) rfl (fun ls hl => ?_)
              obtain ⟨x_349, e_350, hF⟩ := li_some hF
              refine lv_iinc (v := x_349) (lv' := [(4, .int x_349), (3, .int x_347), (0, .ref (Q 72)), (1, .int v1), (2, .int v2)]) hx hb dX13_draws_89 hl (k := 4) rfl e_350 (by decide) rfl (fun ls hl => ?_)
              refine lv_goto (tgt := 31) hx hb dX13_draws_92 (by decide) ?_
              exact ih31 v1 v2 x_347 x_349 u_345 _ _ _ (lv_sub hl [2, 3, 4, 1, 0] rfl) hH hF
            · rw [if_neg c_340] at hF
              refine lv_goto (tgt := 89) hx hb dX13_draws_62 (by decide) ?_
              obtain ⟨x_351, e_352, hF⟩ := li_some hF
              refine lv_iinc (v := x_351) (lv' := [(4, .int x_351), (0, .ref (Q 72)), (1, .int v1), (2, .int v2), (3, .int v3)]) hx hb dX13_draws_89 hl (k := 4) rfl e_352 (by decide) rfl (fun ls hl => ?_)
              refine lv_goto (tgt := 31) hx hb dX13_draws_92 (by decide) ?_
              exact ih31 v1 v2 v3 x_351 u _ _ _ (lv_sub hl [1, 2, 3, 4, 0] rfl) hH hF
    refine hL31 _ (fun v1 v2 v3 v4 u H locs ls hl hH hF => ?_) fuel a0 r_1 0 0 u_332 _ _ _ (lv_sub hl [3, 4, 2, 1, 0] rfl) hH hF
    refine lv_aload_n hx hb dX13_draws_95 rfl (lv_at hl 0 rfl) ?_
    refine lv_iload_n hx hb dX13_draws_96 rfl (lv_at hl 1 rfl) ?_
    obtain ⟨r_353, u_354, h_355, hF⟩ := ob_some hF
    refine mcV_i (As := [.int v1]) (rest := []) hC hH (m_fights l G Z Q u u_354 r_353 v1 _ h_355) kwX13_fights kVX13_fights ⟨Nat.le_of_ble_eq_true rfl, Nat.le_of_ble_eq_true rfl⟩ rfl hl.1 rfl (Nat.le_of_ble_eq_true rfl) dX13_draws_97 (fun H locs hH => ?_)
    exact mr_i hC hH hr hF dX13_draws_100 hlocks
def lp_matOf_2 : Nat → Int32 → Int32 → Int32 → MS → (Int32 → Int32 → Int32 → MS → Option (Int32 × MS)) → Option (Int32 × MS)
  | 0, _, _, _, _, _ => none
  | n2 + 1, v1, v2, v3, u, K2_30 => (if 4 ≤ v3 then K2_30 v1 v2 v3 u else og (gi v3 4) ((if (ra u 22 v3) = ((40 * v1) + v2) then some (v3, u) else li (v3 + 1) (fun x_4 => lp_matOf_2 n2 v1 v2 x_4 u K2_30))))
def f_matOf (a0 : Int32) (a1 : Int32) (u : MS) : Option (Int32 × MS) := lp_matOf_2 fuel a0 a1 0 u (fun v1 v2 v3 u => some (-1, u))
set_option maxHeartbeats 4000000 in
set_option maxRecDepth 100000 in
theorem m_matOf (l : Launch) (G : gG) (Z : gM) (Q : Nat → Nat) (u u1 : MS) (r : Int32) (a0 : Int32) (a1 : Int32) (sz : Nat) (hF : f_matOf a0 a1 u = some (r, u1)) : Met l yX13_matOf (Cond.code yX13_matOf cX13_matOf 4 (some .int) :: wM) { frames := 0, cells := 0, slots := 0, locals := 0 } (va_Pc [.ref (Q 72), .int a0, .int a1] (mPM G Z Q u sz)) (mQi G Q u1 r sz) 0 0 (mA Q sz) := by
  refine Met.ofW (cc := cX13_matOf) (maxL := 4) (ret := (some .int)) (by decide) rfl ?_
  intro p e s m args below meth c s₁ B hml hv
  obtain ⟨rfl, rfl, hP, hB, hD, hE⟩ := hv
  have hr := B.returns
  have hlocks := B.notSynchronized
  have hts := atoms_spec (ws := Cond.code yX13_matOf cX13_matOf 4 (some .int) :: wM) B.pre
  have hC : mX p c cX13_matOf 4 s m _ G Z Q := ⟨B.exec, B.bytes, hml, findClass_of_methodNamed B.named, fun w h => hts w (List.mem_cons_of_mem _ h), hB, hE⟩
  have hx := hC.1
  have hb := hC.2.1
  have hH : mH G Q u s s.heap [] := ⟨hP, hD, va_S.rf⟩
  have hl := lv_entry ([.ref (Q 72), .int a0, .int a1]) (n := 4) (Nat.le_of_ble_eq_true rfl)
  rw [lg_entry_eq]
  generalize (lg_sl ([.ref (Q 72), .int a0, .int a1]) ++ List.replicate (4 - (lg_sl ([.ref (Q 72), .int a0, .int a1])).length) Slot.unset).toArray = ls at hl ⊢
  have hl : lv_has ls 4 [(0, .ref (Q 72)), (1, .int a0), (2, .int a1)] := hl
  unfold f_matOf at hF
  refine lv_iconst (v := 0) hx hb dX13_matOf_0 (by decide) ?_
  refine lv_istore_n (lv' := [(3, .int 0), (0, .ref (Q 72)), (1, .int a0), (2, .int a1)]) hx hb dX13_matOf_1 rfl hl (by decide) rfl (fun ls hl => ?_)
  have hL2 : ∀ (K2_30 : Int32 → Int32 → Int32 → MS → Option (Int32 × MS)), (∀ (v1 v2 v3 : Int32) (u : MS) (H : Heap) (locs : List Loc) (ls : Array Slot), lv_has ls 4 [(0, .ref (Q 72)), (1, .int v1), (2, .int v2), (3, .int v3)] → mH G Q u s H locs → K2_30 v1 v2 v3 u = some ((r, u1)) → W p l e (headSpec (Cond.code yX13_matOf cX13_matOf 4 (some .int) :: wM) { frames := 0, cells := 0, slots := 0, locals := 0 }).room s m [.ref (Q 72), .int a0, .int a1].toArray below meth c H locs 0 0 (MQ below (mQi G Q u1 r s.heap.size) [.ref (Q 72), .int a0, .int a1].toArray s 0 0 (mA Q s.heap.size)) (F0 m 30 ls [])) → ∀ (n2 : Nat) (v1 v2 v3 : Int32) (u : MS) (H : Heap) (locs : List Loc) (ls : Array Slot), lv_has ls 4 [(0, .ref (Q 72)), (1, .int v1), (2, .int v2), (3, .int v3)] → mH G Q u s H locs → lp_matOf_2 n2 v1 v2 v3 u K2_30 = some ((r, u1)) → W p l e (headSpec (Cond.code yX13_matOf cX13_matOf 4 (some .int) :: wM) { frames := 0, cells := 0, slots := 0, locals := 0 }).room s m [.ref (Q 72), .int a0, .int a1].toArray below meth c H locs 0 0 (MQ below (mQi G Q u1 r s.heap.size) [.ref (Q 72), .int a0, .int a1].toArray s 0 0 (mA Q s.heap.size)) (F0 m 2 ls []) := by
    intro K2_30 hK2_30 n2
    induction n2 with
    | zero => intro v1 v2 v3 u H locs ls hl hH hF; cases hF
    | succ n2 ih2 =>
      intro v1 v2 v3 u H locs ls hl hH hF
      unfold lp_matOf_2 at hF
      refine lv_iload_n hx hb dX13_matOf_2 rfl (lv_at hl 3 rfl) ?_
      refine lv_iconst (v := 4) hx hb dX13_matOf_3 (by decide) ?_
      refine lv_icmp_ge (tgt := 30) hx hb dX13_matOf_4 (by decide) (fun c_1 => ?_) (fun c_1 => ?_)
      · rw [if_pos c_1] at hF
        exact hK2_30 v1 v2 v3 u _ _ _ (lv_sub hl [0, 1, 2, 3] rfl) hH hF
      · rw [if_neg c_1] at hF
        refine lv_aload_n hx hb dX13_matOf_7 rfl (lv_at hl 0 rfl) ?_
        refine mg_22 hC hH dX13_matOf_8 ?_
        refine lv_iload_n hx hb dX13_matOf_11 rfl (lv_at hl 3 rfl) ?_
        obtain ⟨g_2, hF⟩ := og_some hF
        refine ml_22 hC hH g_2 dX13_matOf_12 ?_
        refine lv_bipush (v := 40) hx hb dX13_matOf_13 (by decide) ?_
        refine lv_iload_n hx hb dX13_matOf_15 rfl (lv_at hl 1 rfl) ?_
        refine lv_imul hx hb dX13_matOf_16 ?_
        refine lv_iload_n hx hb dX13_matOf_17 rfl (lv_at hl 2 rfl) ?_
        refine lv_iadd hx hb dX13_matOf_18 ?_
        refine lv_icmp_ne (tgt := 24) hx hb dX13_matOf_19 (by decide) (fun c_3 => ?_) (fun c_3 => ?_)
        · rw [if_neg c_3] at hF
          obtain ⟨x_4, e_5, hF⟩ := li_some hF
          refine lv_iinc (v := x_4) (lv' := [(3, .int x_4), (0, .ref (Q 72)), (1, .int v1), (2, .int v2)]) hx hb dX13_matOf_24 hl (k := 3) rfl e_5 (by decide) rfl (fun ls hl => ?_)
          refine lv_goto (tgt := 2) hx hb dX13_matOf_27 (by decide) ?_
          exact ih2 v1 v2 x_4 u _ _ _ (lv_sub hl [1, 2, 3, 0] rfl) hH hF
        · rw [if_pos c_3] at hF
          refine lv_iload_n hx hb dX13_matOf_22 rfl (lv_at hl 3 rfl) ?_
          exact mr_i hC hH hr hF dX13_matOf_23 hlocks
  refine hL2 _ (fun v1 v2 v3 u H locs ls hl hH hF => ?_) fuel a0 a1 0 u _ _ _ (lv_sub hl [1, 2, 3, 0] rfl) hH hF
  refine lv_iconst (v := (-1)) hx hb dX13_matOf_30 (by decide) ?_
  exact mr_i hC hH hr hF dX13_matOf_31 hlocks
def f_isMat (a0 : Int32) (u : MS) : Option (Int32 × MS) := ob (f_in a0.toInt64 0 3 u) (fun r_1 u_2 => og (gb r_1) (some (r_1, u_2)))
set_option maxHeartbeats 4000000 in
set_option maxRecDepth 100000 in
theorem m_isMat (l : Launch) (G : gG) (Z : gM) (Q : Nat → Nat) (u u1 : MS) (r : Int32) (a0 : Int32) (sz : Nat) (hF : f_isMat a0 u = some (r, u1)) : Met l yX13_isMat (Cond.code yX13_isMat cX13_isMat 1 (some .boolean) :: wM) { frames := 1, cells := 0, slots := 0, locals := 25 } (va_Pc [.int a0] (mPM G Z Q u sz)) (mQi G Q u1 r sz) 0 0 (mA Q sz) := by
  refine Met.ofW (cc := cX13_isMat) (maxL := 1) (ret := (some .boolean)) (by decide) rfl ?_
  intro p e s m args below meth c s₁ B hml hv
  obtain ⟨rfl, rfl, hP, hB, hD, hE⟩ := hv
  have hr := B.returns
  have hlocks := B.notSynchronized
  have hts := atoms_spec (ws := Cond.code yX13_isMat cX13_isMat 1 (some .boolean) :: wM) B.pre
  have hC : mX p c cX13_isMat 1 s m _ G Z Q := ⟨B.exec, B.bytes, hml, findClass_of_methodNamed B.named, fun w h => hts w (List.mem_cons_of_mem _ h), hB, hE⟩
  have hx := hC.1
  have hb := hC.2.1
  have hH : mH G Q u s s.heap [] := ⟨hP, hD, va_S.rf⟩
  have hl := lv_entry ([.int a0]) (n := 1) (Nat.le_of_ble_eq_true rfl)
  rw [lg_entry_eq]
  generalize (lg_sl ([.int a0]) ++ List.replicate (1 - (lg_sl ([.int a0])).length) Slot.unset).toArray = ls at hl ⊢
  have hl : lv_has ls 1 [(0, .int a0)] := hl
  unfold f_isMat at hF
  refine lv_iload_n hx hb dX13_isMat_0 rfl (lv_at hl 0 rfl) ?_
  refine lv_i2l (v := a0.toInt64) hx hb dX13_isMat_1 rfl ?_
  refine lv_lconst (v := 0) hx hb dX13_isMat_2 (by decide) ?_
  refine lv_ldc2 (v := 3) hx hb hC.2.2.2.1 (hC.2.2.2.2.1 _ wma141) dX13_isMat_3 ?_
  obtain ⟨r_1, u_2, h_3, hF⟩ := ob_some hF
  refine mcS_i (As := [.long a0.toInt64, .long 0, .long 3]) (rest := []) hC hH (m_in l G Z Q u u_2 r_1 a0.toInt64 0 3 _ h_3) kwX13_in kVX13_in ⟨Nat.le_of_ble_eq_true rfl, Nat.le_of_ble_eq_true rfl⟩ rfl hl.1 rfl (Nat.le_of_ble_eq_true rfl) dX13_isMat_6 (fun H locs hH => ?_)
  obtain ⟨g_4, hF⟩ := og_some hF
  exact mr_z hC hH hr g_4 hF dX13_isMat_9 hlocks
def lp_rests_36 : Nat → Int32 → Int32 → Int32 → MS → (Int32 → Int32 → Int32 → MS → Option (Int32 × MS)) → Option (Int32 × MS)
  | 0, _, _, _, _, _ => none
  | n36 + 1, v1, v2, v3, u, K36_97 => (if 4 ≤ v3 then K36_97 v1 v2 v3 u else (if v2 = 0 then og (gi v3 4) ((if (ra u 22 v3) = (-1) then li (v3 + 1) (fun x_9 => lp_rests_36 n36 v1 0 x_9 u K36_97) else og (gi v3 4) (og (gi (ra u 22 v3) 160) ((if (ra u 16 (ra u 22 v3)) = v1 then li (v3 + 1) (fun x_14 => lp_rests_36 n36 v1 1 x_14 u K36_97) else og (gi v3 4) (og (gi (ra u 22 v3) 160) ((if (ra u 17 (ra u 22 v3)) = v1 then li (v3 + 1) (fun x_21 => lp_rests_36 n36 v1 1 x_21 u K36_97) else li (v3 + 1) (fun x_19 => lp_rests_36 n36 v1 0 x_19 u K36_97))))))))) else li (v3 + 1) (fun x_5 => lp_rests_36 n36 v1 1 x_5 u K36_97)))
def f_rests (a0 : Int32) (u : MS) : Option (Int32 × MS) := og (gi a0 96) ((if (ra u 11 a0) = (-1) then lp_rests_36 fuel a0 0 0 u (fun v1 v2 v3 u => og (gb v2) (some (v2, u))) else og (gi a0 96) ((if (u.1 4) ≤ ((u.1 3) - (ra u 11 a0)) then lp_rests_36 fuel a0 0 0 u (fun v1 v2 v3 u => og (gb v2) (some (v2, u))) else lp_rests_36 fuel a0 1 0 u (fun v1 v2 v3 u => og (gb v2) (some (v2, u)))))))
set_option maxHeartbeats 4000000 in
set_option maxRecDepth 100000 in
theorem m_rests (l : Launch) (G : gG) (Z : gM) (Q : Nat → Nat) (u u1 : MS) (r : Int32) (a0 : Int32) (sz : Nat) (hF : f_rests a0 u = some (r, u1)) : Met l yX13_rests (Cond.code yX13_rests cX13_rests 4 (some .boolean) :: wM) { frames := 0, cells := 0, slots := 0, locals := 0 } (va_Pc [.ref (Q 72), .int a0] (mPM G Z Q u sz)) (mQi G Q u1 r sz) 0 0 (mA Q sz) := by
  refine Met.ofW (cc := cX13_rests) (maxL := 4) (ret := (some .boolean)) (by decide) rfl ?_
  intro p e s m args below meth c s₁ B hml hv
  obtain ⟨rfl, rfl, hP, hB, hD, hE⟩ := hv
  have hr := B.returns
  have hlocks := B.notSynchronized
  have hts := atoms_spec (ws := Cond.code yX13_rests cX13_rests 4 (some .boolean) :: wM) B.pre
  have hC : mX p c cX13_rests 4 s m _ G Z Q := ⟨B.exec, B.bytes, hml, findClass_of_methodNamed B.named, fun w h => hts w (List.mem_cons_of_mem _ h), hB, hE⟩
  have hx := hC.1
  have hb := hC.2.1
  have hH : mH G Q u s s.heap [] := ⟨hP, hD, va_S.rf⟩
  have hl := lv_entry ([.ref (Q 72), .int a0]) (n := 4) (Nat.le_of_ble_eq_true rfl)
  rw [lg_entry_eq]
  generalize (lg_sl ([.ref (Q 72), .int a0]) ++ List.replicate (4 - (lg_sl ([.ref (Q 72), .int a0])).length) Slot.unset).toArray = ls at hl ⊢
  have hl : lv_has ls 4 [(0, .ref (Q 72)), (1, .int a0)] := hl
  unfold f_rests at hF
  refine lv_aload_n hx hb dX13_rests_0 rfl (lv_at hl 0 rfl) ?_
  refine mg_11 hC hH dX13_rests_1 ?_
  refine lv_iload_n hx hb dX13_rests_4 rfl (lv_at hl 1 rfl) ?_
  obtain ⟨g_1, hF⟩ := og_some hF
  refine ml_11 hC hH g_1 dX13_rests_5 ?_
  refine lv_iconst (v := (-1)) hx hb dX13_rests_6 (by decide) ?_
  refine lv_icmp_eq (tgt := 32) hx hb dX13_rests_7 (by decide) (fun c_2 => ?_) (fun c_2 => ?_)
  · rw [if_pos c_2] at hF
    refine lv_iconst (v := 0) hx hb dX13_rests_32 (by decide) ?_
    refine lv_istore_n (lv' := [(2, .int 0), (0, .ref (Q 72)), (1, .int a0)]) hx hb dX13_rests_33 rfl hl (by decide) rfl (fun ls hl => ?_)
    refine lv_iconst (v := 0) hx hb dX13_rests_34 (by decide) ?_
    refine lv_istore_n (lv' := [(3, .int 0), (2, .int 0), (0, .ref (Q 72)), (1, .int a0)]) hx hb dX13_rests_35 rfl hl (by decide) rfl (fun ls hl => ?_)
    have hL36 : ∀ (K36_97 : Int32 → Int32 → Int32 → MS → Option (Int32 × MS)), (∀ (v1 v2 v3 : Int32) (u : MS) (H : Heap) (locs : List Loc) (ls : Array Slot), lv_has ls 4 [(0, .ref (Q 72)), (1, .int v1), (2, .int v2), (3, .int v3)] → mH G Q u s H locs → K36_97 v1 v2 v3 u = some ((r, u1)) → W p l e (headSpec (Cond.code yX13_rests cX13_rests 4 (some .boolean) :: wM) { frames := 0, cells := 0, slots := 0, locals := 0 }).room s m [.ref (Q 72), .int a0].toArray below meth c H locs 0 0 (MQ below (mQi G Q u1 r s.heap.size) [.ref (Q 72), .int a0].toArray s 0 0 (mA Q s.heap.size)) (F0 m 97 ls [])) → ∀ (n36 : Nat) (v1 v2 v3 : Int32) (u : MS) (H : Heap) (locs : List Loc) (ls : Array Slot), lv_has ls 4 [(0, .ref (Q 72)), (1, .int v1), (2, .int v2), (3, .int v3)] → mH G Q u s H locs → lp_rests_36 n36 v1 v2 v3 u K36_97 = some ((r, u1)) → W p l e (headSpec (Cond.code yX13_rests cX13_rests 4 (some .boolean) :: wM) { frames := 0, cells := 0, slots := 0, locals := 0 }).room s m [.ref (Q 72), .int a0].toArray below meth c H locs 0 0 (MQ below (mQi G Q u1 r s.heap.size) [.ref (Q 72), .int a0].toArray s 0 0 (mA Q s.heap.size)) (F0 m 36 ls []) := by
      intro K36_97 hK36_97 n36
      induction n36 with
      | zero => intro v1 v2 v3 u H locs ls hl hH hF; cases hF
      | succ n36 ih36 =>
        intro v1 v2 v3 u H locs ls hl hH hF
        unfold lp_rests_36 at hF
        refine lv_iload_n hx hb dX13_rests_36 rfl (lv_at hl 3 rfl) ?_
        refine lv_iconst (v := 4) hx hb dX13_rests_37 (by decide) ?_
        refine lv_icmp_ge (tgt := 97) hx hb dX13_rests_38 (by decide) (fun c_3 => ?_) (fun c_3 => ?_)
        · rw [if_pos c_3] at hF
          exact hK36_97 v1 v2 v3 u _ _ _ (lv_sub hl [0, 1, 2, 3] rfl) hH hF
        · rw [if_neg c_3] at hF
          refine lv_iload_n hx hb dX13_rests_41 rfl (lv_at hl 2 rfl) ?_
          refine lv_if_ne (tgt := 85) hx hb dX13_rests_42 (by decide) (fun c_4 => ?_) (fun c_4 => ?_)
          · rw [if_neg c_4] at hF
            refine lv_iconst (v := 1) hx hb dX13_rests_85 (by decide) ?_
            refine lv_goto (tgt := 90) hx hb dX13_rests_86 (by decide) ?_
            refine lv_istore_n (lv' := [(2, .int 1), (0, .ref (Q 72)), (1, .int v1), (3, .int v3)]) hx hb dX13_rests_90 rfl hl (by decide) rfl (fun ls hl => ?_)
            obtain ⟨x_5, e_6, hF⟩ := li_some hF
            refine lv_iinc (v := x_5) (lv' := [(3, .int x_5), (2, .int 1), (0, .ref (Q 72)), (1, .int v1)]) hx hb dX13_rests_91 hl (k := 3) rfl e_6 (by decide) rfl (fun ls hl => ?_)
            refine lv_goto (tgt := 36) hx hb dX13_rests_94 (by decide) ?_
            exact ih36 v1 1 x_5 u _ _ _ (lv_sub hl [2, 3, 1, 0] rfl) hH hF
          · rw [if_pos c_4] at hF
            refine lv_aload_n hx hb dX13_rests_45 rfl (lv_at hl 0 rfl) ?_
            refine mg_22 hC hH dX13_rests_46 ?_
            refine lv_iload_n hx hb dX13_rests_49 rfl (lv_at hl 3 rfl) ?_
            obtain ⟨g_7, hF⟩ := og_some hF
            refine ml_22 hC hH g_7 dX13_rests_50 ?_
            refine lv_iconst (v := (-1)) hx hb dX13_rests_51 (by decide) ?_
            refine lv_icmp_eq (tgt := 89) hx hb dX13_rests_52 (by decide) (fun c_8 => ?_) (fun c_8 => ?_)
            · rw [if_pos c_8] at hF
              refine lv_iconst (v := 0) hx hb dX13_rests_89 (by decide) ?_
              refine lv_istore_n (lv' := [(2, .int 0), (0, .ref (Q 72)), (1, .int v1), (3, .int v3)]) hx hb dX13_rests_90 rfl hl (by decide) rfl (fun ls hl => ?_)
              obtain ⟨x_9, e_10, hF⟩ := li_some hF
              refine lv_iinc (v := x_9) (lv' := [(3, .int x_9), (2, .int 0), (0, .ref (Q 72)), (1, .int v1)]) hx hb dX13_rests_91 hl (k := 3) rfl e_10 (by decide) rfl (fun ls hl => ?_)
              refine lv_goto (tgt := 36) hx hb dX13_rests_94 (by decide) ?_
              exact ih36 v1 0 x_9 u _ _ _ (lv_sub hl [2, 3, 1, 0] rfl) hH hF
            · rw [if_neg c_8] at hF
              refine lv_aload_n hx hb dX13_rests_55 rfl (lv_at hl 0 rfl) ?_
              refine mg_16 hC hH dX13_rests_56 ?_
              refine lv_aload_n hx hb dX13_rests_59 rfl (lv_at hl 0 rfl) ?_
              refine mg_22 hC hH dX13_rests_60 ?_
              refine lv_iload_n hx hb dX13_rests_63 rfl (lv_at hl 3 rfl) ?_
              obtain ⟨g_11, hF⟩ := og_some hF
              refine ml_22 hC hH g_11 dX13_rests_64 ?_
              obtain ⟨g_12, hF⟩ := og_some hF
              refine ml_16 hC hH g_12 dX13_rests_65 ?_
              refine lv_iload_n hx hb dX13_rests_66 rfl (lv_at hl 1 rfl) ?_
              refine lv_icmp_eq (tgt := 85) hx hb dX13_rests_67 (by decide) (fun c_13 => ?_) (fun c_13 => ?_)
              · rw [if_pos c_13] at hF
                refine lv_iconst (v := 1) hx hb dX13_rests_85 (by decide) ?_
                refine lv_goto (tgt := 90) hx hb dX13_rests_86 (by decide) ?_
                refine lv_istore_n (lv' := [(2, .int 1), (0, .ref (Q 72)), (1, .int v1), (3, .int v3)]) hx hb dX13_rests_90 rfl hl (by decide) rfl (fun ls hl => ?_)
                obtain ⟨x_14, e_15, hF⟩ := li_some hF
                refine lv_iinc (v := x_14) (lv' := [(3, .int x_14), (2, .int 1), (0, .ref (Q 72)), (1, .int v1)]) hx hb dX13_rests_91 hl (k := 3) rfl e_15 (by decide) rfl (fun ls hl => ?_)
                refine lv_goto (tgt := 36) hx hb dX13_rests_94 (by decide) ?_
                exact ih36 v1 1 x_14 u _ _ _ (lv_sub hl [2, 3, 1, 0] rfl) hH hF
              · rw [if_neg c_13] at hF
                refine lv_aload_n hx hb dX13_rests_70 rfl (lv_at hl 0 rfl) ?_
                refine mg_17 hC hH dX13_rests_71 ?_
                refine lv_aload_n hx hb dX13_rests_74 rfl (lv_at hl 0 rfl) ?_
                refine mg_22 hC hH dX13_rests_75 ?_
                refine lv_iload_n hx hb dX13_rests_78 rfl (lv_at hl 3 rfl) ?_
                obtain ⟨g_16, hF⟩ := og_some hF
                refine ml_22 hC hH g_16 dX13_rests_79 ?_
                obtain ⟨g_17, hF⟩ := og_some hF
                refine ml_17 hC hH g_17 dX13_rests_80 ?_
                refine lv_iload_n hx hb dX13_rests_81 rfl (lv_at hl 1 rfl) ?_
                refine lv_icmp_ne (tgt := 89) hx hb dX13_rests_82 (by decide) (fun c_18 => ?_) (fun c_18 => ?_)
                · rw [if_neg c_18] at hF
                  refine lv_iconst (v := 0) hx hb dX13_rests_89 (by decide) ?_
                  refine lv_istore_n (lv' := [(2, .int 0), (0, .ref (Q 72)), (1, .int v1), (3, .int v3)]) hx hb dX13_rests_90 rfl hl (by decide) rfl (fun ls hl => ?_)
                  obtain ⟨x_19, e_20, hF⟩ := li_some hF
                  refine lv_iinc (v := x_19) (lv' := [(3, .int x_19), (2, .int 0), (0, .ref (Q 72)), (1, .int v1)]) hx hb dX13_rests_91 hl (k := 3) rfl e_20 (by decide) rfl (fun ls hl => ?_)
                  refine lv_goto (tgt := 36) hx hb dX13_rests_94 (by decide) ?_
                  exact ih36 v1 0 x_19 u _ _ _ (lv_sub hl [2, 3, 1, 0] rfl) hH hF
                · rw [if_pos c_18] at hF
                  refine lv_iconst (v := 1) hx hb dX13_rests_85 (by decide) ?_
                  refine lv_goto (tgt := 90) hx hb dX13_rests_86 (by decide) ?_
                  refine lv_istore_n (lv' := [(2, .int 1), (0, .ref (Q 72)), (1, .int v1), (3, .int v3)]) hx hb dX13_rests_90 rfl hl (by decide) rfl (fun ls hl => ?_)
                  obtain ⟨x_21, e_22, hF⟩ := li_some hF
                  refine lv_iinc (v := x_21) (lv' := [(3, .int x_21), (2, .int 1), (0, .ref (Q 72)), (1, .int v1)]) hx hb dX13_rests_91 hl (k := 3) rfl e_22 (by decide) rfl (fun ls hl => ?_)
                  refine lv_goto (tgt := 36) hx hb dX13_rests_94 (by decide) ?_
                  exact ih36 v1 1 x_21 u _ _ _ (lv_sub hl [2, 3, 1, 0] rfl) hH hF
    refine hL36 _ (fun v1 v2 v3 u H locs ls hl hH hF => ?_) fuel a0 0 0 u _ _ _ (lv_sub hl [2, 3, 1, 0] rfl) hH hF
    refine lv_iload_n hx hb dX13_rests_97 rfl (lv_at hl 2 rfl) ?_
    obtain ⟨g_23, hF⟩ := og_some hF
    exact mr_z hC hH hr g_23 hF dX13_rests_98 hlocks
  · rw [if_neg c_2] at hF
    refine lv_aload_n hx hb dX13_rests_10 rfl (lv_at hl 0 rfl) ?_
    refine mg_3 hC hH dX13_rests_11 ?_
    refine lv_aload_n hx hb dX13_rests_14 rfl (lv_at hl 0 rfl) ?_
    refine mg_11 hC hH dX13_rests_15 ?_
    refine lv_iload_n hx hb dX13_rests_18 rfl (lv_at hl 1 rfl) ?_
    obtain ⟨g_24, hF⟩ := og_some hF
    refine ml_11 hC hH g_24 dX13_rests_19 ?_
    refine lv_isub hx hb dX13_rests_20 ?_
    refine lv_aload_n hx hb dX13_rests_21 rfl (lv_at hl 0 rfl) ?_
    refine mg_4 hC hH dX13_rests_22 ?_
    refine lv_icmp_ge (tgt := 32) hx hb dX13_rests_25 (by decide) (fun c_25 => ?_) (fun c_25 => ?_)
    · rw [if_pos c_25] at hF
      refine lv_iconst (v := 0) hx hb dX13_rests_32 (by decide) ?_
      refine lv_istore_n (lv' := [(2, .int 0), (0, .ref (Q 72)), (1, .int a0)]) hx hb dX13_rests_33 rfl hl (by decide) rfl (fun ls hl => ?_)
      refine lv_iconst (v := 0) hx hb dX13_rests_34 (by decide) ?_
      refine lv_istore_n (lv' := [(3, .int 0), (2, .int 0), (0, .ref (Q 72)), (1, .int a0)]) hx hb dX13_rests_35 rfl hl (by decide) rfl (fun ls hl => ?_)
      have hL36 : ∀ (K36_97 : Int32 → Int32 → Int32 → MS → Option (Int32 × MS)), (∀ (v1 v2 v3 : Int32) (u : MS) (H : Heap) (locs : List Loc) (ls : Array Slot), lv_has ls 4 [(0, .ref (Q 72)), (1, .int v1), (2, .int v2), (3, .int v3)] → mH G Q u s H locs → K36_97 v1 v2 v3 u = some ((r, u1)) → W p l e (headSpec (Cond.code yX13_rests cX13_rests 4 (some .boolean) :: wM) { frames := 0, cells := 0, slots := 0, locals := 0 }).room s m [.ref (Q 72), .int a0].toArray below meth c H locs 0 0 (MQ below (mQi G Q u1 r s.heap.size) [.ref (Q 72), .int a0].toArray s 0 0 (mA Q s.heap.size)) (F0 m 97 ls [])) → ∀ (n36 : Nat) (v1 v2 v3 : Int32) (u : MS) (H : Heap) (locs : List Loc) (ls : Array Slot), lv_has ls 4 [(0, .ref (Q 72)), (1, .int v1), (2, .int v2), (3, .int v3)] → mH G Q u s H locs → lp_rests_36 n36 v1 v2 v3 u K36_97 = some ((r, u1)) → W p l e (headSpec (Cond.code yX13_rests cX13_rests 4 (some .boolean) :: wM) { frames := 0, cells := 0, slots := 0, locals := 0 }).room s m [.ref (Q 72), .int a0].toArray below meth c H locs 0 0 (MQ below (mQi G Q u1 r s.heap.size) [.ref (Q 72), .int a0].toArray s 0 0 (mA Q s.heap.size)) (F0 m 36 ls []) := by
        intro K36_97 hK36_97 n36
        induction n36 with
        | zero => intro v1 v2 v3 u H locs ls hl hH hF; cases hF
        | succ n36 ih36 =>
          intro v1 v2 v3 u H locs ls hl hH hF
          unfold lp_rests_36 at hF
          refine lv_iload_n hx hb dX13_rests_36 rfl (lv_at hl 3 rfl) ?_
          refine lv_iconst (v := 4) hx hb dX13_rests_37 (by decide) ?_
          refine lv_icmp_ge (tgt := 97) hx hb dX13_rests_38 (by decide) (fun c_26 => ?_) (fun c_26 => ?_)
          · rw [if_pos c_26] at hF
            exact hK36_97 v1 v2 v3 u _ _ _ (lv_sub hl [0, 1, 2, 3] rfl) hH hF
          · rw [if_neg c_26] at hF
            refine lv_iload_n hx hb dX13_rests_41 rfl (lv_at hl 2 rfl) ?_
            refine lv_if_ne (tgt := 85) hx hb dX13_rests_42 (by decide) (fun c_27 => ?_) (fun c_27 => ?_)
            · rw [if_neg c_27] at hF
              refine lv_iconst (v := 1) hx hb dX13_rests_85 (by decide) ?_
              refine lv_goto (tgt := 90) hx hb dX13_rests_86 (by decide) ?_
              refine lv_istore_n (lv' := [(2, .int 1), (0, .ref (Q 72)), (1, .int v1), (3, .int v3)]) hx hb dX13_rests_90 rfl hl (by decide) rfl (fun ls hl => ?_)
              obtain ⟨x_28, e_29, hF⟩ := li_some hF
              refine lv_iinc (v := x_28) (lv' := [(3, .int x_28), (2, .int 1), (0, .ref (Q 72)), (1, .int v1)]) hx hb dX13_rests_91 hl (k := 3) rfl e_29 (by decide) rfl (fun ls hl => ?_)
              refine lv_goto (tgt := 36) hx hb dX13_rests_94 (by decide) ?_
              exact ih36 v1 1 x_28 u _ _ _ (lv_sub hl [2, 3, 1, 0] rfl) hH hF
            · rw [if_pos c_27] at hF
              refine lv_aload_n hx hb dX13_rests_45 rfl (lv_at hl 0 rfl) ?_
              refine mg_22 hC hH dX13_rests_46 ?_
              refine lv_iload_n hx hb dX13_rests_49 rfl (lv_at hl 3 rfl) ?_
              obtain ⟨g_30, hF⟩ := og_some hF
              refine ml_22 hC hH g_30 dX13_rests_50 ?_
              refine lv_iconst (v := (-1)) hx hb dX13_rests_51 (by decide) ?_
              refine lv_icmp_eq (tgt := 89) hx hb dX13_rests_52 (by decide) (fun c_31 => ?_) (fun c_31 => ?_)
              · rw [if_pos c_31] at hF
                refine lv_iconst (v := 0) hx hb dX13_rests_89 (by decide) ?_
                refine lv_istore_n (lv' := [(2, .int 0), (0, .ref (Q 72)), (1, .int v1), (3, .int v3)]) hx hb dX13_rests_90 rfl hl (by decide) rfl (fun ls hl => ?_)
                obtain ⟨x_32, e_33, hF⟩ := li_some hF
                refine lv_iinc (v := x_32) (lv' := [(3, .int x_32), (2, .int 0), (0, .ref (Q 72)), (1, .int v1)]) hx hb dX13_rests_91 hl (k := 3) rfl e_33 (by decide) rfl (fun ls hl => ?_)
                refine lv_goto (tgt := 36) hx hb dX13_rests_94 (by decide) ?_
                exact ih36 v1 0 x_32 u _ _ _ (lv_sub hl [2, 3, 1, 0] rfl) hH hF
              · rw [if_neg c_31] at hF
                refine lv_aload_n hx hb dX13_rests_55 rfl (lv_at hl 0 rfl) ?_
                refine mg_16 hC hH dX13_rests_56 ?_
                refine lv_aload_n hx hb dX13_rests_59 rfl (lv_at hl 0 rfl) ?_
                refine mg_22 hC hH dX13_rests_60 ?_
                refine lv_iload_n hx hb dX13_rests_63 rfl (lv_at hl 3 rfl) ?_
                obtain ⟨g_34, hF⟩ := og_some hF
                refine ml_22 hC hH g_34 dX13_rests_64 ?_
                obtain ⟨g_35, hF⟩ := og_some hF
                refine ml_16 hC hH g_35 dX13_rests_65 ?_
                refine lv_iload_n hx hb dX13_rests_66 rfl (lv_at hl 1 rfl) ?_
                refine lv_icmp_eq (tgt := 85) hx hb dX13_rests_67 (by decide) (fun c_36 => ?_) (fun c_36 => ?_)
                · rw [if_pos c_36] at hF
                  refine lv_iconst (v := 1) hx hb dX13_rests_85 (by decide) ?_
                  refine lv_goto (tgt := 90) hx hb dX13_rests_86 (by decide) ?_
                  refine lv_istore_n (lv' := [(2, .int 1), (0, .ref (Q 72)), (1, .int v1), (3, .int v3)]) hx hb dX13_rests_90 rfl hl (by decide) rfl (fun ls hl => ?_)
                  obtain ⟨x_37, e_38, hF⟩ := li_some hF
                  refine lv_iinc (v := x_37) (lv' := [(3, .int x_37), (2, .int 1), (0, .ref (Q 72)), (1, .int v1)]) hx hb dX13_rests_91 hl (k := 3) rfl e_38 (by decide) rfl (fun ls hl => ?_)
                  refine lv_goto (tgt := 36) hx hb dX13_rests_94 (by decide) ?_
                  exact ih36 v1 1 x_37 u _ _ _ (lv_sub hl [2, 3, 1, 0] rfl) hH hF
                · rw [if_neg c_36] at hF
                  refine lv_aload_n hx hb dX13_rests_70 rfl (lv_at hl 0 rfl) ?_
                  refine mg_17 hC hH dX13_rests_71 ?_
                  refine lv_aload_n hx hb dX13_rests_74 rfl (lv_at hl 0 rfl) ?_
                  refine mg_22 hC hH dX13_rests_75 ?_
                  refine lv_iload_n hx hb dX13_rests_78 rfl (lv_at hl 3 rfl) ?_
                  obtain ⟨g_39, hF⟩ := og_some hF
                  refine ml_22 hC hH g_39 dX13_rests_79 ?_
                  obtain ⟨g_40, hF⟩ := og_some hF
                  refine ml_17 hC hH g_40 dX13_rests_80 ?_
                  refine lv_iload_n hx hb dX13_rests_81 rfl (lv_at hl 1 rfl) ?_
                  refine lv_icmp_ne (tgt := 89) hx hb dX13_rests_82 (by decide) (fun c_41 => ?_) (fun c_41 => ?_)
                  · rw [if_neg c_41] at hF
                    refine lv_iconst (v := 0) hx hb dX13_rests_89 (by decide) ?_
                    refine lv_istore_n (lv' := [(2, .int 0), (0, .ref (Q 72)), (1, .int v1), (3, .int v3)]) hx hb dX13_rests_90 rfl hl (by decide) rfl (fun ls hl => ?_)
                    obtain ⟨x_42, e_43, hF⟩ := li_some hF
                    refine lv_iinc (v := x_42) (lv' := [(3, .int x_42), (2, .int 0), (0, .ref (Q 72)), (1, .int v1)]) hx hb dX13_rests_91 hl (k := 3) rfl e_43 (by decide) rfl (fun ls hl => ?_)
                    refine lv_goto (tgt := 36) hx hb dX13_rests_94 (by decide) ?_
                    exact ih36 v1 0 x_42 u _ _ _ (lv_sub hl [2, 3, 1, 0] rfl) hH hF
                  · rw [if_pos c_41] at hF
                    refine lv_iconst (v := 1) hx hb dX13_rests_85 (by decide) ?_
                    refine lv_goto (tgt := 90) hx hb dX13_rests_86 (by decide) ?_
                    refine lv_istore_n (lv' := [(2, .int 1), (0, .ref (Q 72)), (1, .int v1), (3, .int v3)]) hx hb dX13_rests_90 rfl hl (by decide) rfl (fun ls hl => ?_)
                    obtain ⟨x_44, e_45, hF⟩ := li_some hF
                    refine lv_iinc (v := x_44) (lv' := [(3, .int x_44), (2, .int 1), (0, .ref (Q 72)), (1, .int v1)]) hx hb dX13_rests_91 hl (k := 3) rfl e_45 (by decide) rfl (fun ls hl => ?_)
                    refine lv_goto (tgt := 36) hx hb dX13_rests_94 (by decide) ?_
                    exact ih36 v1 1 x_44 u _ _ _ (lv_sub hl [2, 3, 1, 0] rfl) hH hF
      refine hL36 _ (fun v1 v2 v3 u H locs ls hl hH hF => ?_) fuel a0 0 0 u _ _ _ (lv_sub hl [2, 3, 1, 0] rfl) hH hF
      refine lv_iload_n hx hb dX13_rests_97 rfl (lv_at hl 2 rfl) ?_
      obtain ⟨g_46, hF⟩ := og_some hF
      exact mr_z hC hH hr g_46 hF dX13_rests_98 hlocks
    · rw [if_neg c_25] at hF
      refine lv_iconst (v := 1) hx hb dX13_rests_28 (by decide) ?_
      refine lv_goto (tgt := 33) hx hb dX13_rests_29 (by decide) ?_
      refine lv_istore_n (lv' := [(2, .int 1), (0, .ref (Q 72)), (1, .int a0)]) hx hb dX13_rests_33 rfl hl (by decide) rfl (fun ls hl => ?_)
      refine lv_iconst (v := 0) hx hb dX13_rests_34 (by decide) ?_
      refine lv_istore_n (lv' := [(3, .int 0), (2, .int 1), (0, .ref (Q 72)), (1, .int a0)]) hx hb dX13_rests_35 rfl hl (by decide) rfl (fun ls hl => ?_)
      have hL36 : ∀ (K36_97 : Int32 → Int32 → Int32 → MS → Option (Int32 × MS)), (∀ (v1 v2 v3 : Int32) (u : MS) (H : Heap) (locs : List Loc) (ls : Array Slot), lv_has ls 4 [(0, .ref (Q 72)), (1, .int v1), (2, .int v2), (3, .int v3)] → mH G Q u s H locs → K36_97 v1 v2 v3 u = some ((r, u1)) → W p l e (headSpec (Cond.code yX13_rests cX13_rests 4 (some .boolean) :: wM) { frames := 0, cells := 0, slots := 0, locals := 0 }).room s m [.ref (Q 72), .int a0].toArray below meth c H locs 0 0 (MQ below (mQi G Q u1 r s.heap.size) [.ref (Q 72), .int a0].toArray s 0 0 (mA Q s.heap.size)) (F0 m 97 ls [])) → ∀ (n36 : Nat) (v1 v2 v3 : Int32) (u : MS) (H : Heap) (locs : List Loc) (ls : Array Slot), lv_has ls 4 [(0, .ref (Q 72)), (1, .int v1), (2, .int v2), (3, .int v3)] → mH G Q u s H locs → lp_rests_36 n36 v1 v2 v3 u K36_97 = some ((r, u1)) → W p l e (headSpec (Cond.code yX13_rests cX13_rests 4 (some .boolean) :: wM) { frames := 0, cells := 0, slots := 0, locals := 0 }).room s m [.ref (Q 72), .int a0].toArray below meth c H locs 0 0 (MQ below (mQi G Q u1 r s.heap.size) [.ref (Q 72), .int a0].toArray s 0 0 (mA Q s.heap.size)) (F0 m 36 ls []) := by
        intro K36_97 hK36_97 n36
        induction n36 with
        | zero => intro v1 v2 v3 u H locs ls hl hH hF; cases hF
        | succ n36 ih36 =>
          intro v1 v2 v3 u H locs ls hl hH hF
          unfold lp_rests_36 at hF
          refine lv_iload_n hx hb dX13_rests_36 rfl (lv_at hl 3 rfl) ?_
          refine lv_iconst (v := 4) hx hb dX13_rests_37 (by decide) ?_
          refine lv_icmp_ge (tgt := 97) hx hb dX13_rests_38 (by decide) (fun c_47 => ?_) (fun c_47 => ?_)
          · rw [if_pos c_47] at hF
            exact hK36_97 v1 v2 v3 u _ _ _ (lv_sub hl [0, 1, 2, 3] rfl) hH hF
          · rw [if_neg c_47] at hF
            refine lv_iload_n hx hb dX13_rests_41 rfl (lv_at hl 2 rfl) ?_
            refine lv_if_ne (tgt := 85) hx hb dX13_rests_42 (by decide) (fun c_48 => ?_) (fun c_48 => ?_)
            · rw [if_neg c_48] at hF
              refine lv_iconst (v := 1) hx hb dX13_rests_85 (by decide) ?_
              refine lv_goto (tgt := 90) hx hb dX13_rests_86 (by decide) ?_
              refine lv_istore_n (lv' := [(2, .int 1), (0, .ref (Q 72)), (1, .int v1), (3, .int v3)]) hx hb dX13_rests_90 rfl hl (by decide) rfl (fun ls hl => ?_)
              obtain ⟨x_49, e_50, hF⟩ := li_some hF
              refine lv_iinc (v := x_49) (lv' := [(3, .int x_49), (2, .int 1), (0, .ref (Q 72)), (1, .int v1)]) hx hb dX13_rests_91 hl (k := 3) rfl e_50 (by decide) rfl (fun ls hl => ?_)
              refine lv_goto (tgt := 36) hx hb dX13_rests_94 (by decide) ?_
              exact ih36 v1 1 x_49 u _ _ _ (lv_sub hl [2, 3, 1, 0] rfl) hH hF
            · rw [if_pos c_48] at hF
              refine lv_aload_n hx hb dX13_rests_45 rfl (lv_at hl 0 rfl) ?_
              refine mg_22 hC hH dX13_rests_46 ?_
              refine lv_iload_n hx hb dX13_rests_49 rfl (lv_at hl 3 rfl) ?_
              obtain ⟨g_51, hF⟩ := og_some hF
              refine ml_22 hC hH g_51 dX13_rests_50 ?_
              refine lv_iconst (v := (-1)) hx hb dX13_rests_51 (by decide) ?_
              refine lv_icmp_eq (tgt := 89) hx hb dX13_rests_52 (by decide) (fun c_52 => ?_) (fun c_52 => ?_)
              · rw [if_pos c_52] at hF
                refine lv_iconst (v := 0) hx hb dX13_rests_89 (by decide) ?_
                refine lv_istore_n (lv' := [(2, .int 0), (0, .ref (Q 72)), (1, .int v1), (3, .int v3)]) hx hb dX13_rests_90 rfl hl (by decide) rfl (fun ls hl => ?_)
                obtain ⟨x_53, e_54, hF⟩ := li_some hF
                refine lv_iinc (v := x_53) (lv' := [(3, .int x_53), (2, .int 0), (0, .ref (Q 72)), (1, .int v1)]) hx hb dX13_rests_91 hl (k := 3) rfl e_54 (by decide) rfl (fun ls hl => ?_)
                refine lv_goto (tgt := 36) hx hb dX13_rests_94 (by decide) ?_
                exact ih36 v1 0 x_53 u _ _ _ (lv_sub hl [2, 3, 1, 0] rfl) hH hF
              · rw [if_neg c_52] at hF
                refine lv_aload_n hx hb dX13_rests_55 rfl (lv_at hl 0 rfl) ?_
                refine mg_16 hC hH dX13_rests_56 ?_
                refine lv_aload_n hx hb dX13_rests_59 rfl (lv_at hl 0 rfl) ?_
                refine mg_22 hC hH dX13_rests_60 ?_
                refine lv_iload_n hx hb dX13_rests_63 rfl (lv_at hl 3 rfl) ?_
                obtain ⟨g_55, hF⟩ := og_some hF
                refine ml_22 hC hH g_55 dX13_rests_64 ?_
                obtain ⟨g_56, hF⟩ := og_some hF
                refine ml_16 hC hH g_56 dX13_rests_65 ?_
                refine lv_iload_n hx hb dX13_rests_66 rfl (lv_at hl 1 rfl) ?_
                refine lv_icmp_eq (tgt := 85) hx hb dX13_rests_67 (by decide) (fun c_57 => ?_) (fun c_57 => ?_)
                · rw [if_pos c_57] at hF
                  refine lv_iconst (v := 1) hx hb dX13_rests_85 (by decide) ?_
                  refine lv_goto (tgt := 90) hx hb dX13_rests_86 (by decide) ?_
                  refine lv_istore_n (lv' := [(2, .int 1), (0, .ref (Q 72)), (1, .int v1), (3, .int v3)]) hx hb dX13_rests_90 rfl hl (by decide) rfl (fun ls hl => ?_)
                  obtain ⟨x_58, e_59, hF⟩ := li_some hF
                  refine lv_iinc (v := x_58) (lv' := [(3, .int x_58), (2, .int 1), (0, .ref (Q 72)), (1, .int v1)]) hx hb dX13_rests_91 hl (k := 3) rfl e_59 (by decide) rfl (fun ls hl => ?_)
                  refine lv_goto (tgt := 36) hx hb dX13_rests_94 (by decide) ?_
                  exact ih36 v1 1 x_58 u _ _ _ (lv_sub hl [2, 3, 1, 0] rfl) hH hF
                · rw [if_neg c_57] at hF
                  refine lv_aload_n hx hb dX13_rests_70 rfl (lv_at hl 0 rfl) ?_
                  refine mg_17 hC hH dX13_rests_71 ?_
                  refine lv_aload_n hx hb dX13_rests_74 rfl (lv_at hl 0 rfl) ?_
                  refine mg_22 hC hH dX13_rests_75 ?_
                  refine lv_iload_n hx hb dX13_rests_78 rfl (lv_at hl 3 rfl) ?_
                  obtain ⟨g_60, hF⟩ := og_some hF
                  refine ml_22 hC hH g_60 dX13_rests_79 ?_
                  obtain ⟨g_61, hF⟩ := og_some hF
                  refine ml_17 hC hH g_61 dX13_rests_80 ?_
                  refine lv_iload_n hx hb dX13_rests_81 rfl (lv_at hl 1 rfl) ?_
                  refine lv_icmp_ne (tgt := 89) hx hb dX13_rests_82 (by decide) (fun c_62 => ?_) (fun c_62 => ?_)
                  · rw [if_neg c_62] at hF
                    refine lv_iconst (v := 0) hx hb dX13_rests_89 (by decide) ?_
                    refine lv_istore_n (lv' := [(2, .int 0), (0, .ref (Q 72)), (1, .int v1), (3, .int v3)]) hx hb dX13_rests_90 rfl hl (by decide) rfl (fun ls hl => ?_)
                    obtain ⟨x_63, e_64, hF⟩ := li_some hF
                    refine lv_iinc (v := x_63) (lv' := [(3, .int x_63), (2, .int 0), (0, .ref (Q 72)), (1, .int v1)]) hx hb dX13_rests_91 hl (k := 3) rfl e_64 (by decide) rfl (fun ls hl => ?_)
                    refine lv_goto (tgt := 36) hx hb dX13_rests_94 (by decide) ?_
                    exact ih36 v1 0 x_63 u _ _ _ (lv_sub hl [2, 3, 1, 0] rfl) hH hF
                  · rw [if_pos c_62] at hF
                    refine lv_iconst (v := 1) hx hb dX13_rests_85 (by decide) ?_
                    refine lv_goto (tgt := 90) hx hb dX13_rests_86 (by decide) ?_
                    refine lv_istore_n (lv' := [(2, .int 1), (0, .ref (Q 72)), (1, .int v1), (3, .int v3)]) hx hb dX13_rests_90 rfl hl (by decide) rfl (fun ls hl => ?_)
                    obtain ⟨x_65, e_66, hF⟩ := li_some hF
                    refine lv_iinc (v := x_65) (lv' := [(3, .int x_65), (2, .int 1), (0, .ref (Q 72)), (1, .int v1)]) hx hb dX13_rests_91 hl (k := 3) rfl e_66 (by decide) rfl (fun ls hl => ?_)
                    refine lv_goto (tgt := 36) hx hb dX13_rests_94 (by decide) ?_
                    exact ih36 v1 1 x_65 u _ _ _ (lv_sub hl [2, 3, 1, 0] rfl) hH hF
      refine hL36 _ (fun v1 v2 v3 u H locs ls hl hH hF => ?_) fuel a0 1 0 u _ _ _ (lv_sub hl [2, 3, 1, 0] rfl) hH hF
      refine lv_iload_n hx hb dX13_rests_97 rfl (lv_at hl 2 rfl) ?_
      obtain ⟨g_67, hF⟩ := og_some hF
      exact mr_z hC hH hr g_67 hF dX13_rests_98 hlocks
def f_goesOver (a0 : Int32) (u : MS) : Option (Int32 × MS) := og (gi a0 4) ((if (ra u 25 a0) = 0 then (if (u.1 28) = 0 then og (gi a0 4) (lu (wa u 26 a0 (vp_nar .boolean 1)) (fun u_14 => some (0, u_14))) else og (gi a0 4) (lu (wa u 25 a0 (vp_nar .boolean 1)) (fun u_8 => og (gi a0 4) (lu (wa u_8 23 a0 (u_8.1 28)) (fun u_11 => some (0, u_11)))))) else og (gi a0 4) (lu (wa u 26 a0 (vp_nar .boolean 1)) (fun u_4 => some (0, u_4)))))
set_option maxHeartbeats 4000000 in
set_option maxRecDepth 100000 in
theorem m_goesOver (l : Launch) (G : gG) (Z : gM) (Q : Nat → Nat) (u u1 : MS) (r : Int32) (a0 : Int32) (sz : Nat) (hF : f_goesOver a0 u = some (r, u1)) : Met l yX13_goesOver (Cond.code yX13_goesOver cX13_goesOver 2 none :: wM) { frames := 0, cells := 0, slots := 0, locals := 0 } (va_Pc [.ref (Q 72), .int a0] (mPM G Z Q u sz)) (mQv G Q u1 sz) 0 0 (mA Q sz) := by
  refine Met.ofW (cc := cX13_goesOver) (maxL := 2) (ret := none) (by decide) rfl ?_
  intro p e s m args below meth c s₁ B hml hv
  obtain ⟨rfl, rfl, hP, hB, hD, hE⟩ := hv
  have hr := B.returns
  have hlocks := B.notSynchronized
  have hts := atoms_spec (ws := Cond.code yX13_goesOver cX13_goesOver 2 none :: wM) B.pre
  have hC : mX p c cX13_goesOver 2 s m _ G Z Q := ⟨B.exec, B.bytes, hml, findClass_of_methodNamed B.named, fun w h => hts w (List.mem_cons_of_mem _ h), hB, hE⟩
  have hx := hC.1
  have hb := hC.2.1
  have hH : mH G Q u s s.heap [] := ⟨hP, hD, va_S.rf⟩
  have hl := lv_entry ([.ref (Q 72), .int a0]) (n := 2) (Nat.le_of_ble_eq_true rfl)
  rw [lg_entry_eq]
  generalize (lg_sl ([.ref (Q 72), .int a0]) ++ List.replicate (2 - (lg_sl ([.ref (Q 72), .int a0])).length) Slot.unset).toArray = ls at hl ⊢
  have hl : lv_has ls 2 [(0, .ref (Q 72)), (1, .int a0)] := hl
  unfold f_goesOver at hF
  refine lv_aload_n hx hb dX13_goesOver_0 rfl (lv_at hl 0 rfl) ?_
  refine mg_25 hC hH dX13_goesOver_1 ?_
  refine lv_iload_n hx hb dX13_goesOver_4 rfl (lv_at hl 1 rfl) ?_
  obtain ⟨g_1, hF⟩ := og_some hF
  refine ml_25 hC hH g_1 dX13_goesOver_5 ?_
  refine lv_if_ne (tgt := 16) hx hb dX13_goesOver_6 (by decide) (fun c_2 => ?_) (fun c_2 => ?_)
  · rw [if_neg c_2] at hF
    refine lv_aload_n hx hb dX13_goesOver_16 rfl (lv_at hl 0 rfl) ?_
    refine mg_26 hC hH dX13_goesOver_17 ?_
    refine lv_iload_n hx hb dX13_goesOver_20 rfl (lv_at hl 1 rfl) ?_
    refine lv_iconst (v := 1) hx hb dX13_goesOver_21 (by decide) ?_
    obtain ⟨g_3, hF⟩ := og_some hF
    obtain ⟨u_4, e_5, hF⟩ := lu_some hF
    refine ms_26 hC hH e_5 g_3 dX13_goesOver_22 (fun H locs hH => ?_)
    refine lv_goto (tgt := 43) hx hb dX13_goesOver_23 (by decide) ?_
    exact mr_v hC hH hr hF dX13_goesOver_43 hlocks
  · rw [if_pos c_2] at hF
    refine lv_aload_n hx hb dX13_goesOver_9 rfl (lv_at hl 0 rfl) ?_
    refine mg_28 hC hH dX13_goesOver_10 ?_
    refine lv_if_ne (tgt := 26) hx hb dX13_goesOver_13 (by decide) (fun c_6 => ?_) (fun c_6 => ?_)
    · rw [if_neg c_6] at hF
      refine lv_aload_n hx hb dX13_goesOver_26 rfl (lv_at hl 0 rfl) ?_
      refine mg_25 hC hH dX13_goesOver_27 ?_
      refine lv_iload_n hx hb dX13_goesOver_30 rfl (lv_at hl 1 rfl) ?_
      refine lv_iconst (v := 1) hx hb dX13_goesOver_31 (by decide) ?_
      obtain ⟨g_7, hF⟩ := og_some hF
      obtain ⟨u_8, e_9, hF⟩ := lu_some hF
      refine ms_25 hC hH e_9 g_7 dX13_goesOver_32 (fun H locs hH => ?_)
      refine lv_aload_n hx hb dX13_goesOver_33 rfl (lv_at hl 0 rfl) ?_
      refine mg_23 hC hH dX13_goesOver_34 ?_
      refine lv_iload_n hx hb dX13_goesOver_37 rfl (lv_at hl 1 rfl) ?_
      refine lv_aload_n hx hb dX13_goesOver_38 rfl (lv_at hl 0 rfl) ?_
      refine mg_28 hC hH dX13_goesOver_39 ?_
      obtain ⟨g_10, hF⟩ := og_some hF
      obtain ⟨u_11, e_12, hF⟩ := lu_some hF
      refine ms_23 hC hH e_12 g_10 dX13_goesOver_42 (fun H locs hH => ?_)
      exact mr_v hC hH hr hF dX13_goesOver_43 hlocks
    · rw [if_pos c_6] at hF
      refine lv_aload_n hx hb dX13_goesOver_16 rfl (lv_at hl 0 rfl) ?_
      refine mg_26 hC hH dX13_goesOver_17 ?_
      refine lv_iload_n hx hb dX13_goesOver_20 rfl (lv_at hl 1 rfl) ?_
      refine lv_iconst (v := 1) hx hb dX13_goesOver_21 (by decide) ?_
      obtain ⟨g_13, hF⟩ := og_some hF
      obtain ⟨u_14, e_15, hF⟩ := lu_some hF
      refine ms_26 hC hH e_15 g_13 dX13_goesOver_22 (fun H locs hH => ?_)
      refine lv_goto (tgt := 43) hx hb dX13_goesOver_23 (by decide) ?_
      exact mr_v hC hH hr hF dX13_goesOver_43 hlocks
def lp_begins_79 : Nat → Int32 → Int32 → Int32 → Int32 → Int32 → MS → (Int32 → Int32 → Int32 → Int32 → Int32 → MS → Option (Int32 × MS)) → Option (Int32 × MS)
  | 0, _, _, _, _, _, _, _ => none
  | n79 + 1, v1, v2, v3, v4, v5, u, K79_105 => (if 16 ≤ v5 then K79_105 v1 v2 v3 v4 v5 u else og (gi ((16 * v3) + v5) 64) (lu (wa u 24 ((16 * v3) + v5) 0) (fun u_32 => li (v5 + 1) (fun x_34 => lp_begins_79 n79 v1 v2 v3 v4 x_34 u_32 K79_105))))
def f_begins (a0 : Int32) (a1 : Int32) (a2 : Int32) (u : MS) : Option (Int32 × MS) := li ((40 * a0) + a1) (fun x_1 => og (gi x_1 160) (lu (wa u 15 x_1 1) (fun u_4 => ob (fS 24 0 a0 a1 0 0 u_4) (fun r_6 u_7 => og (gi x_1 160) (lu (wa u_7 16 x_1 r_6) (fun u_10 => ob (fS 24 0 a0 a1 1 0 u_10) (fun r_12 u_13 => og (gi x_1 160) (lu (wa u_13 17 x_1 r_12) (fun u_16 => og (gi a2 4) (lu (wa u_16 22 a2 x_1) (fun u_19 => og (gi a2 4) (lu (wa u_19 23 a2 (u_19.1 27)) (fun u_22 => og (gi a2 4) (lu (wa u_22 25 a2 (vp_nar .boolean 0)) (fun u_25 => og (gi a2 4) (lu (wa u_25 26 a2 (vp_nar .boolean 0)) (fun u_28 => lp_begins_79 fuel a0 a1 a2 x_1 0 u_28 (fun v1 v2 v3 v4 v5 u => (if (u.1 27) = 0 then ob (f_goesOver v3 u) (fun r_37 u_38 => some (1, u_38)) else some (1, u))))))))))))))))))))
set_option maxHeartbeats 4000000 in
set_option maxRecDepth 100000 in
theorem m_begins (l : Launch) (G : gG) (Z : gM) (Q : Nat → Nat) (u u1 : MS) (r : Int32) (a0 : Int32) (a1 : Int32) (a2 : Int32) (sz : Nat) (hF : f_begins a0 a1 a2 u = some (r, u1)) : Met l yX13_begins (Cond.code yX13_begins cX13_begins 6 (some .int) :: wM) { frames := 309, cells := 0, slots := 0, locals := 3786 } (va_Pc [.ref (Q 72), .int a0, .int a1, .int a2] (mPM G Z Q u sz)) (mQi G Q u1 r sz) 0 0 (mA Q sz) := by
  refine Met.ofW (cc := cX13_begins) (maxL := 6) (ret := (some .int)) (by decide) rfl ?_
  intro p e s m args below meth c s₁ B hml hv
  obtain ⟨rfl, rfl, hP, hB, hD, hE⟩ := hv
  have hr := B.returns
  have hlocks := B.notSynchronized
  have hts := atoms_spec (ws := Cond.code yX13_begins cX13_begins 6 (some .int) :: wM) B.pre
  have hC : mX p c cX13_begins 6 s m _ G Z Q := ⟨B.exec, B.bytes, hml, findClass_of_methodNamed B.named, fun w h => hts w (List.mem_cons_of_mem _ h), hB, hE⟩
  have hx := hC.1
  have hb := hC.2.1
  have hH : mH G Q u s s.heap [] := ⟨hP, hD, va_S.rf⟩
  have hl := lv_entry ([.ref (Q 72), .int a0, .int a1, .int a2]) (n := 6) (Nat.le_of_ble_eq_true rfl)
  rw [lg_entry_eq]
  generalize (lg_sl ([.ref (Q 72), .int a0, .int a1, .int a2]) ++ List.replicate (6 - (lg_sl ([.ref (Q 72), .int a0, .int a1, .int a2])).length) Slot.unset).toArray = ls at hl ⊢
  have hl : lv_has ls 6 [(0, .ref (Q 72)), (1, .int a0), (2, .int a1), (3, .int a2)] := hl
  unfold f_begins at hF
  refine lv_bipush (v := 40) hx hb dX13_begins_0 (by decide) ?_
  refine lv_iload_n hx hb dX13_begins_2 rfl (lv_at hl 1 rfl) ?_
  refine lv_imul hx hb dX13_begins_3 ?_
  refine lv_iload_n hx hb dX13_begins_4 rfl (lv_at hl 2 rfl) ?_
  refine lv_iadd hx hb dX13_begins_5 ?_
  obtain ⟨x_1, e_2, hF⟩ := li_some hF
  refine gx_ti e_2 ?_
  refine lv_istore (lv' := [(4, .int x_1), (0, .ref (Q 72)), (1, .int a0), (2, .int a1), (3, .int a2)]) hx hb dX13_begins_6 hl (by decide) rfl (fun ls hl => ?_)
  refine lv_aload_n hx hb dX13_begins_8 rfl (lv_at hl 1 rfl) ?_
  refine mg_15 hC hH dX13_begins_9 ?_
  refine lv_iload hx hb dX13_begins_12 (lv_at hl 0 rfl) ?_
  refine lv_iconst (v := 1) hx hb dX13_begins_14 (by decide) ?_
  obtain ⟨g_3, hF⟩ := og_some hF
  obtain ⟨u_4, e_5, hF⟩ := lu_some hF
  refine ms_15 hC hH e_5 g_3 dX13_begins_15 (fun H locs hH => ?_)
  refine lv_aload_n hx hb dX13_begins_16 rfl (lv_at hl 1 rfl) ?_
  refine mg_16 hC hH dX13_begins_17 ?_
  refine lv_iload hx hb dX13_begins_20 (lv_at hl 0 rfl) ?_
  refine lv_aload_n hx hb dX13_begins_22 rfl (lv_at hl 1 rfl) ?_
  refine lv_iload_n hx hb dX13_begins_23 rfl (lv_at hl 2 rfl) ?_
  refine lv_iload_n hx hb dX13_begins_24 rfl (lv_at hl 3 rfl) ?_
  refine lv_iconst (v := 0) hx hb dX13_begins_25 (by decide) ?_
  obtain ⟨r_6, u_7, h_8, hF⟩ := ob_some hF
  refine mcV_i (As := [.int a0, .int a1, .int 0]) (rest := [.int x_1, .ref (Q 16)]) hC hH (m_sideOf l G Z Q u_4 u_7 r_6 a0 a1 0 _ h_8) kwX13_sideOf kVX13_sideOf ⟨Nat.le_of_ble_eq_true rfl, Nat.le_of_ble_eq_true rfl⟩ rfl hl.1 rfl (Nat.le_of_ble_eq_true rfl) dX13_begins_26 (fun H locs hH => ?_)
  obtain ⟨g_9, hF⟩ := og_some hF
  obtain ⟨u_10, e_11, hF⟩ := lu_some hF
  refine ms_16 hC hH e_11 g_9 dX13_begins_29 (fun H locs hH => ?_)
  refine lv_aload_n hx hb dX13_begins_30 rfl (lv_at hl 1 rfl) ?_
  refine mg_17 hC hH dX13_begins_31 ?_
  refine lv_iload hx hb dX13_begins_34 (lv_at hl 0 rfl) ?_
  refine lv_aload_n hx hb dX13_begins_36 rfl (lv_at hl 1 rfl) ?_
  refine lv_iload_n hx hb dX13_begins_37 rfl (lv_at hl 2 rfl) ?_
  refine lv_iload_n hx hb dX13_begins_38 rfl (lv_at hl 3 rfl) ?_
  refine lv_iconst (v := 1) hx hb dX13_begins_39 (by decide) ?_
  obtain ⟨r_12, u_13, h_14, hF⟩ := ob_some hF
  refine mcV_i (As := [.int a0, .int a1, .int 1]) (rest := [.int x_1, .ref (Q 17)]) hC hH (m_sideOf l G Z Q u_10 u_13 r_12 a0 a1 1 _ h_14) kwX13_sideOf kVX13_sideOf ⟨Nat.le_of_ble_eq_true rfl, Nat.le_of_ble_eq_true rfl⟩ rfl hl.1 rfl (Nat.le_of_ble_eq_true rfl) dX13_begins_40 (fun H locs hH => ?_)
  obtain ⟨g_15, hF⟩ := og_some hF
  obtain ⟨u_16, e_17, hF⟩ := lu_some hF
  refine ms_17 hC hH e_17 g_15 dX13_begins_43 (fun H locs hH => ?_)
  refine lv_aload_n hx hb dX13_begins_44 rfl (lv_at hl 1 rfl) ?_
  refine mg_22 hC hH dX13_begins_45 ?_
  refine lv_iload_n hx hb dX13_begins_48 rfl (lv_at hl 4 rfl) ?_
  refine lv_iload hx hb dX13_begins_49 (lv_at hl 0 rfl) ?_
  obtain ⟨g_18, hF⟩ := og_some hF
  obtain ⟨u_19, e_20, hF⟩ := lu_some hF
  refine ms_22 hC hH e_20 g_18 dX13_begins_51 (fun H locs hH => ?_)
  refine lv_aload_n hx hb dX13_begins_52 rfl (lv_at hl 1 rfl) ?_
  refine mg_23 hC hH dX13_begins_53 ?_
  refine lv_iload_n hx hb dX13_begins_56 rfl (lv_at hl 4 rfl) ?_
  refine lv_aload_n hx hb dX13_begins_57 rfl (lv_at hl 1 rfl) ?_
  refine mg_27 hC hH dX13_begins_58 ?_
  obtain ⟨g_21, hF⟩ := og_some hF
  obtain ⟨u_22, e_23, hF⟩ := lu_some hF
  refine ms_23 hC hH e_23 g_21 dX13_begins_61 (fun H locs hH => ?_)
  refine lv_aload_n hx hb dX13_begins_62 rfl (lv_at hl 1 rfl) ?_
  refine mg_25 hC hH dX13_begins_63 ?_
  refine lv_iload_n hx hb dX13_begins_66 rfl (lv_at hl 4 rfl) ?_
  refine lv_iconst (v := 0) hx hb dX13_begins_67 (by decide) ?_
  obtain ⟨g_24, hF⟩ := og_some hF
  obtain ⟨u_25, e_26, hF⟩ := lu_some hF
  refine ms_25 hC hH e_26 g_24 dX13_begins_68 (fun H locs hH => ?_)
  refine lv_aload_n hx hb dX13_begins_69 rfl (lv_at hl 1 rfl) ?_
  refine mg_26 hC hH dX13_begins_70 ?_
  refine lv_iload_n hx hb dX13_begins_73 rfl (lv_at hl 4 rfl) ?_
  refine lv_iconst (v := 0) hx hb dX13_begins_74 (by decide) ?_
  obtain ⟨g_27, hF⟩ := og_some hF
  obtain ⟨u_28, e_29, hF⟩ := lu_some hF
  refine ms_26 hC hH e_29 g_27 dX13_begins_75 (fun H locs hH => ?_)
  refine lv_iconst (v := 0) hx hb dX13_begins_76 (by decide) ?_
  refine lv_istore (lv' := [(5, .int 0), (4, .int x_1), (0, .ref (Q 72)), (1, .int a0), (2, .int a1), (3, .int a2)]) hx hb dX13_begins_77 hl (by decide) rfl (fun ls hl => ?_)
  have hL79 : ∀ (K79_105 : Int32 → Int32 → Int32 → Int32 → Int32 → MS → Option (Int32 × MS)), (∀ (v1 v2 v3 v4 v5 : Int32) (u : MS) (H : Heap) (locs : List Loc) (ls : Array Slot), lv_has ls 6 [(0, .ref (Q 72)), (1, .int v1), (2, .int v2), (3, .int v3), (4, .int v4), (5, .int v5)] → mH G Q u s H locs → K79_105 v1 v2 v3 v4 v5 u = some ((r, u1)) → W p l e (headSpec (Cond.code yX13_begins cX13_begins 6 (some .int) :: wM) { frames := 309, cells := 0, slots := 0, locals := 3786 }).room s m [.ref (Q 72), .int a0, .int a1, .int a2].toArray below meth c H locs 0 0 (MQ below (mQi G Q u1 r s.heap.size) [.ref (Q 72), .int a0, .int a1, .int a2].toArray s 0 0 (mA Q s.heap.size)) (F0 m 105 ls [])) → ∀ (n79 : Nat) (v1 v2 v3 v4 v5 : Int32) (u : MS) (H : Heap) (locs : List Loc) (ls : Array Slot), lv_has ls 6 [(0, .ref (Q 72)), (1, .int v1), (2, .int v2), (3, .int v3), (4, .int v4), (5, .int v5)] → mH G Q u s H locs → lp_begins_79 n79 v1 v2 v3 v4 v5 u K79_105 = some ((r, u1)) → W p l e (headSpec (Cond.code yX13_begins cX13_begins 6 (some .int) :: wM) { frames := 309, cells := 0, slots := 0, locals := 3786 }).room s m [.ref (Q 72), .int a0, .int a1, .int a2].toArray below meth c H locs 0 0 (MQ below (mQi G Q u1 r s.heap.size) [.ref (Q 72), .int a0, .int a1, .int a2].toArray s 0 0 (mA Q s.heap.size)) (F0 m 79 ls []) := by
    intro K79_105 hK79_105 n79
    induction n79 with
    | zero => intro v1 v2 v3 v4 v5 u H locs ls hl hH hF; cases hF
    | succ n79 ih79 =>
      intro v1 v2 v3 v4 v5 u H locs ls hl hH hF
      unfold lp_begins_79 at hF
      refine lv_iload hx hb dX13_begins_79 (lv_at hl 5 rfl) ?_
      refine lv_bipush (v := 16) hx hb dX13_begins_81 (by decide) ?_
      refine lv_icmp_ge (tgt := 105) hx hb dX13_begins_83 (by decide) (fun c_30 => ?_) (fun c_30 => ?_)
      · rw [if_pos c_30] at hF
        exact hK79_105 v1 v2 v3 v4 v5 u _ _ _ (lv_sub hl [0, 1, 2, 3, 4, 5] rfl) hH hF
      · rw [if_neg c_30] at hF
        refine lv_aload_n hx hb dX13_begins_86 rfl (lv_at hl 0 rfl) ?_
        refine mg_24 hC hH dX13_begins_87 ?_
        refine lv_bipush (v := 16) hx hb dX13_begins_90 (by decide) ?_
        refine lv_iload_n hx hb dX13_begins_92 rfl (lv_at hl 3 rfl) ?_
        refine lv_imul hx hb dX13_begins_93 ?_
        refine lv_iload hx hb dX13_begins_94 (lv_at hl 5 rfl) ?_
        refine lv_iadd hx hb dX13_begins_96 ?_
        refine lv_iconst (v := 0) hx hb dX13_begins_97 (by decide) ?_
        obtain ⟨g_31, hF⟩ := og_some hF
        obtain ⟨u_32, e_33, hF⟩ := lu_some hF
        refine ms_24 hC hH e_33 g_31 dX13_begins_98 (fun H locs hH => ?_)
        obtain ⟨x_34, e_35, hF⟩ := li_some hF
        refine lv_iinc (v := x_34) (lv' := [(5, .int x_34), (0, .ref (Q 72)), (1, .int v1), (2, .int v2), (3, .int v3), (4, .int v4)]) hx hb dX13_begins_99 hl (k := 5) rfl e_35 (by decide) rfl (fun ls hl => ?_)
        refine lv_goto (tgt := 79) hx hb dX13_begins_102 (by decide) ?_
        exact ih79 v1 v2 v3 v4 x_34 u_32 _ _ _ (lv_sub hl [1, 2, 3, 4, 5, 0] rfl) hH hF
  refine hL79 _ (fun v1 v2 v3 v4 v5 u H locs ls hl hH hF => ?_) fuel a0 a1 a2 x_1 0 u_28 _ _ _ (lv_sub hl [2, 3, 4, 5, 1, 0] rfl) hH hF
  refine lv_aload_n hx hb dX13_begins_105 rfl (lv_at hl 0 rfl) ?_
  refine mg_27 hC hH dX13_begins_106 ?_
  refine lv_if_ne (tgt := 117) hx hb dX13_begins_109 (by decide) (fun c_36 => ?_) (fun c_36 => ?_)
  · rw [if_neg c_36] at hF
    refine lv_iconst (v := 1) hx hb dX13_begins_117 (by decide) ?_
    exact mr_i hC hH hr hF dX13_begins_118 hlocks
  · rw [if_pos c_36] at hF
    refine lv_aload_n hx hb dX13_begins_112 rfl (lv_at hl 0 rfl) ?_
    refine lv_iload_n hx hb dX13_begins_113 rfl (lv_at hl 3 rfl) ?_
    obtain ⟨r_37, u_38, h_39, hF⟩ := ob_some hF
    refine mcV_v (As := [.int v3]) (rest := []) hC hH (m_goesOver l G Z Q u u_38 r_37 v3 _ h_39) kwX13_goesOver kVX13_goesOver ⟨Nat.le_of_ble_eq_true rfl, Nat.le_of_ble_eq_true rfl⟩ rfl hl.1 rfl (Nat.le_of_ble_eq_true rfl) dX13_begins_114 (fun H locs hH => ?_)
    refine lv_iconst (v := 1) hx hb dX13_begins_117 (by decide) ?_
    exact mr_i hC hH hr hF dX13_begins_118 hlocks
def f_ends (a0 : Int32) (a1 : Int32) (a2 : Int32) (a3 : Int32) (u : MS) : Option (Int32 × MS) := og (gi a0 4) (li (ra u 22 a0) (fun x_2 => og (gi x_2 160) (lu (wa u 15 x_2 2) (fun u_5 => (if a1 = 0 then og (gi x_2 160) (og (gi x_2 160) (lu (wa u_5 18 x_2 (ra u_5 16 x_2)) (fun u_35 => og (gi x_2 160) (lu (wa u_35 19 x_2 a2) (fun u_38 => og (gi x_2 160) (lu (wa u_38 20 x_2 a3) (fun u_41 => og (gi x_2 160) (lu (wa u_41 21 x_2 (u_41.1 3)) (fun u_44 => og (gi x_2 160) (og (gi (ra u_44 16 x_2) 96) (lu (wa u_44 11 (ra u_44 16 x_2) (u_44.1 3)) (fun u_48 => og (gi x_2 160) (og (gi (ra u_48 17 x_2) 96) (lu (wa u_48 11 (ra u_48 17 x_2) (u_48.1 3)) (fun u_52 => og (gi a0 4) (lu (wa u_52 22 a0 (-1)) (fun u_55 => og (gi x_2 160) (some (ra u_55 18 x_2, u_55))))))))))))))))))) else og (gi x_2 160) (og (gi x_2 160) (lu (wa u_5 18 x_2 (ra u_5 17 x_2)) (fun u_10 => og (gi x_2 160) (lu (wa u_10 19 x_2 a2) (fun u_13 => og (gi x_2 160) (lu (wa u_13 20 x_2 a3) (fun u_16 => og (gi x_2 160) (lu (wa u_16 21 x_2 (u_16.1 3)) (fun u_19 => og (gi x_2 160) (og (gi (ra u_19 16 x_2) 96) (lu (wa u_19 11 (ra u_19 16 x_2) (u_19.1 3)) (fun u_23 => og (gi x_2 160) (og (gi (ra u_23 17 x_2) 96) (lu (wa u_23 11 (ra u_23 17 x_2) (u_23.1 3)) (fun u_27 => og (gi a0 4) (lu (wa u_27 22 a0 (-1)) (fun u_30 => og (gi x_2 160) (some (ra u_30 18 x_2, u_30))))))))))))))))))))))))
set_option maxHeartbeats 4000000 in
set_option maxRecDepth 100000 in
theorem m_ends (l : Launch) (G : gG) (Z : gM) (Q : Nat → Nat) (u u1 : MS) (r : Int32) (a0 : Int32) (a1 : Int32) (a2 : Int32) (a3 : Int32) (sz : Nat) (hF : f_ends a0 a1 a2 a3 u = some (r, u1)) : Met l yX13_ends (Cond.code yX13_ends cX13_ends 6 (some .int) :: wM) { frames := 0, cells := 0, slots := 0, locals := 0 } (va_Pc [.ref (Q 72), .int a0, .int a1, .int a2, .int a3] (mPM G Z Q u sz)) (mQi G Q u1 r sz) 0 0 (mA Q sz) := by
  refine Met.ofW (cc := cX13_ends) (maxL := 6) (ret := (some .int)) (by decide) rfl ?_
  intro p e s m args below meth c s₁ B hml hv
  obtain ⟨rfl, rfl, hP, hB, hD, hE⟩ := hv
  have hr := B.returns
  have hlocks := B.notSynchronized
  have hts := atoms_spec (ws := Cond.code yX13_ends cX13_ends 6 (some .int) :: wM) B.pre
  have hC : mX p c cX13_ends 6 s m _ G Z Q := ⟨B.exec, B.bytes, hml, findClass_of_methodNamed B.named, fun w h => hts w (List.mem_cons_of_mem _ h), hB, hE⟩
  have hx := hC.1
  have hb := hC.2.1
  have hH : mH G Q u s s.heap [] := ⟨hP, hD, va_S.rf⟩
  have hl := lv_entry ([.ref (Q 72), .int a0, .int a1, .int a2, .int a3]) (n := 6) (Nat.le_of_ble_eq_true rfl)
  rw [lg_entry_eq]
  generalize (lg_sl ([.ref (Q 72), .int a0, .int a1, .int a2, .int a3]) ++ List.replicate (6 - (lg_sl ([.ref (Q 72), .int a0, .int a1, .int a2, .int a3])).length) Slot.unset).toArray = ls at hl ⊢
  have hl : lv_has ls 6 [(0, .ref (Q 72)), (1, .int a0), (2, .int a1), (3, .int a2), (4, .int a3)] := hl
  unfold f_ends at hF
  refine lv_aload_n hx hb dX13_ends_0 rfl (lv_at hl 0 rfl) ?_
  refine mg_22 hC hH dX13_ends_1 ?_
  refine lv_iload_n hx hb dX13_ends_4 rfl (lv_at hl 1 rfl) ?_
  obtain ⟨g_1, hF⟩ := og_some hF
  refine ml_22 hC hH g_1 dX13_ends_5 ?_
  obtain ⟨x_2, e_3, hF⟩ := li_some hF
  refine gx_ti e_3 ?_
  refine lv_istore (lv' := [(5, .int x_2), (0, .ref (Q 72)), (1, .int a0), (2, .int a1), (3, .int a2), (4, .int a3)]) hx hb dX13_ends_6 hl (by decide) rfl (fun ls hl => ?_)
  refine lv_aload_n hx hb dX13_ends_8 rfl (lv_at hl 1 rfl) ?_
  refine mg_15 hC hH dX13_ends_9 ?_
  refine lv_iload hx hb dX13_ends_12 (lv_at hl 0 rfl) ?_
  refine lv_iconst (v := 2) hx hb dX13_ends_14 (by decide) ?_
  obtain ⟨g_4, hF⟩ := og_some hF
  obtain ⟨u_5, e_6, hF⟩ := lu_some hF
  refine ms_15 hC hH e_6 g_4 dX13_ends_15 (fun H locs hH => ?_)
  refine lv_aload_n hx hb dX13_ends_16 rfl (lv_at hl 1 rfl) ?_
  refine mg_18 hC hH dX13_ends_17 ?_
  refine lv_iload hx hb dX13_ends_20 (lv_at hl 0 rfl) ?_
  refine lv_iload_n hx hb dX13_ends_22 rfl (lv_at hl 3 rfl) ?_
  refine lv_if_ne (tgt := 36) hx hb dX13_ends_23 (by decide) (fun c_7 => ?_) (fun c_7 => ?_)
  · rw [if_neg c_7] at hF
    refine lv_aload_n hx hb dX13_ends_36 rfl (lv_at hl 1 rfl) ?_
    refine mg_17 hC hH dX13_ends_37 ?_
    refine lv_iload hx hb dX13_ends_40 (lv_at hl 0 rfl) ?_
    obtain ⟨g_8, hF⟩ := og_some hF
    refine ml_17 hC hH g_8 dX13_ends_42 ?_
    obtain ⟨g_9, hF⟩ := og_some hF
    obtain ⟨u_10, e_11, hF⟩ := lu_some hF
    refine ms_18 hC hH e_11 g_9 dX13_ends_43 (fun H locs hH => ?_)
    refine lv_aload_n hx hb dX13_ends_44 rfl (lv_at hl 1 rfl) ?_
    refine mg_19 hC hH dX13_ends_45 ?_
    refine lv_iload hx hb dX13_ends_48 (lv_at hl 0 rfl) ?_
    refine lv_iload_n hx hb dX13_ends_50 rfl (lv_at hl 4 rfl) ?_
    obtain ⟨g_12, hF⟩ := og_some hF
    obtain ⟨u_13, e_14, hF⟩ := lu_some hF
    refine ms_19 hC hH e_14 g_12 dX13_ends_51 (fun H locs hH => ?_)
    refine lv_aload_n hx hb dX13_ends_52 rfl (lv_at hl 1 rfl) ?_
    refine mg_20 hC hH dX13_ends_53 ?_
    refine lv_iload hx hb dX13_ends_56 (lv_at hl 0 rfl) ?_
    refine lv_iload hx hb dX13_ends_58 (lv_at hl 5 rfl) ?_
    obtain ⟨g_15, hF⟩ := og_some hF
    obtain ⟨u_16, e_17, hF⟩ := lu_some hF
    refine ms_20 hC hH e_17 g_15 dX13_ends_60 (fun H locs hH => ?_)
    refine lv_aload_n hx hb dX13_ends_61 rfl (lv_at hl 1 rfl) ?_
    refine mg_21 hC hH dX13_ends_62 ?_
    refine lv_iload hx hb dX13_ends_65 (lv_at hl 0 rfl) ?_
    refine lv_aload_n hx hb dX13_ends_67 rfl (lv_at hl 1 rfl) ?_
    refine mg_3 hC hH dX13_ends_68 ?_
    obtain ⟨g_18, hF⟩ := og_some hF
    obtain ⟨u_19, e_20, hF⟩ := lu_some hF
    refine ms_21 hC hH e_20 g_18 dX13_ends_71 (fun H locs hH => ?_)
    refine lv_aload_n hx hb dX13_ends_72 rfl (lv_at hl 1 rfl) ?_
    refine mg_11 hC hH dX13_ends_73 ?_
    refine lv_aload_n hx hb dX13_ends_76 rfl (lv_at hl 1 rfl) ?_
    refine mg_16 hC hH dX13_ends_77 ?_
    refine lv_iload hx hb dX13_ends_80 (lv_at hl 0 rfl) ?_
    obtain ⟨g_21, hF⟩ := og_some hF
    refine ml_16 hC hH g_21 dX13_ends_82 ?_
    refine lv_aload_n hx hb dX13_ends_83 rfl (lv_at hl 1 rfl) ?_
    refine mg_3 hC hH dX13_ends_84 ?_
    obtain ⟨g_22, hF⟩ := og_some hF
    obtain ⟨u_23, e_24, hF⟩ := lu_some hF
    refine ms_11 hC hH e_24 g_22 dX13_ends_87 (fun H locs hH => ?_)
    refine lv_aload_n hx hb dX13_ends_88 rfl (lv_at hl 1 rfl) ?_
    refine mg_11 hC hH dX13_ends_89 ?_
    refine lv_aload_n hx hb dX13_ends_92 rfl (lv_at hl 1 rfl) ?_
    refine mg_17 hC hH dX13_ends_93 ?_
    refine lv_iload hx hb dX13_ends_96 (lv_at hl 0 rfl) ?_
    obtain ⟨g_25, hF⟩ := og_some hF
    refine ml_17 hC hH g_25 dX13_ends_98 ?_
    refine lv_aload_n hx hb dX13_ends_99 rfl (lv_at hl 1 rfl) ?_
    refine mg_3 hC hH dX13_ends_100 ?_
    obtain ⟨g_26, hF⟩ := og_some hF
    obtain ⟨u_27, e_28, hF⟩ := lu_some hF
    refine ms_11 hC hH e_28 g_26 dX13_ends_103 (fun H locs hH => ?_)
    refine lv_aload_n hx hb dX13_ends_104 rfl (lv_at hl 1 rfl) ?_
    refine mg_22 hC hH dX13_ends_105 ?_
    refine lv_iload_n hx hb dX13_ends_108 rfl (lv_at hl 2 rfl) ?_
    refine lv_iconst (v := (-1)) hx hb dX13_ends_109 (by decide) ?_
    obtain ⟨g_29, hF⟩ := og_some hF
    obtain ⟨u_30, e_31, hF⟩ := lu_some hF
    refine ms_22 hC hH e_31 g_29 dX13_ends_110 (fun H locs hH => ?_)
    refine lv_aload_n hx hb dX13_ends_111 rfl (lv_at hl 1 rfl) ?_
    refine mg_18 hC hH dX13_ends_112 ?_
    refine lv_iload hx hb dX13_ends_115 (lv_at hl 0 rfl) ?_
    obtain ⟨g_32, hF⟩ := og_some hF
    refine ml_18 hC hH g_32 dX13_ends_117 ?_
    exact mr_i hC hH hr hF dX13_ends_118 hlocks
  · rw [if_pos c_7] at hF
    refine lv_aload_n hx hb dX13_ends_26 rfl (lv_at hl 1 rfl) ?_
    refine mg_16 hC hH dX13_ends_27 ?_
    refine lv_iload hx hb dX13_ends_30 (lv_at hl 0 rfl) ?_
    obtain ⟨g_33, hF⟩ := og_some hF
    refine ml_16 hC hH g_33 dX13_ends_32 ?_
    refine lv_goto (tgt := 43) hx hb dX13_ends_33 (by decide) ?_
    obtain ⟨g_34, hF⟩ := og_some hF
    obtain ⟨u_35, e_36, hF⟩ := lu_some hF
    refine ms_18 hC hH e_36 g_34 dX13_ends_43 (fun H locs hH => ?_)
    refine lv_aload_n hx hb dX13_ends_44 rfl (lv_at hl 1 rfl) ?_
    refine mg_19 hC hH dX13_ends_45 ?_
    refine lv_iload hx hb dX13_ends_48 (lv_at hl 0 rfl) ?_
    refine lv_iload_n hx hb dX13_ends_50 rfl (lv_at hl 4 rfl) ?_
    obtain ⟨g_37, hF⟩ := og_some hF
    obtain ⟨u_38, e_39, hF⟩ := lu_some hF
    refine ms_19 hC hH e_39 g_37 dX13_ends_51 (fun H locs hH => ?_)
    refine lv_aload_n hx hb dX13_ends_52 rfl (lv_at hl 1 rfl) ?_
    refine mg_20 hC hH dX13_ends_53 ?_
    refine lv_iload hx hb dX13_ends_56 (lv_at hl 0 rfl) ?_
    refine lv_iload hx hb dX13_ends_58 (lv_at hl 5 rfl) ?_
    obtain ⟨g_40, hF⟩ := og_some hF
    obtain ⟨u_41, e_42, hF⟩ := lu_some hF
    refine ms_20 hC hH e_42 g_40 dX13_ends_60 (fun H locs hH => ?_)
    refine lv_aload_n hx hb dX13_ends_61 rfl (lv_at hl 1 rfl) ?_
    refine mg_21 hC hH dX13_ends_62 ?_
    refine lv_iload hx hb dX13_ends_65 (lv_at hl 0 rfl) ?_
    refine lv_aload_n hx hb dX13_ends_67 rfl (lv_at hl 1 rfl) ?_
    refine mg_3 hC hH dX13_ends_68 ?_
    obtain ⟨g_43, hF⟩ := og_some hF
    obtain ⟨u_44, e_45, hF⟩ := lu_some hF
    refine ms_21 hC hH e_45 g_43 dX13_ends_71 (fun H locs hH => ?_)
    refine lv_aload_n hx hb dX13_ends_72 rfl (lv_at hl 1 rfl) ?_
    refine mg_11 hC hH dX13_ends_73 ?_
    refine lv_aload_n hx hb dX13_ends_76 rfl (lv_at hl 1 rfl) ?_
    refine mg_16 hC hH dX13_ends_77 ?_
    refine lv_iload hx hb dX13_ends_80 (lv_at hl 0 rfl) ?_
    obtain ⟨g_46, hF⟩ := og_some hF
    refine ml_16 hC hH g_46 dX13_ends_82 ?_
    refine lv_aload_n hx hb dX13_ends_83 rfl (lv_at hl 1 rfl) ?_
    refine mg_3 hC hH dX13_ends_84 ?_
    obtain ⟨g_47, hF⟩ := og_some hF
    obtain ⟨u_48, e_49, hF⟩ := lu_some hF
    refine ms_11 hC hH e_49 g_47 dX13_ends_87 (fun H locs hH => ?_)
    refine lv_aload_n hx hb dX13_ends_88 rfl (lv_at hl 1 rfl) ?_
    refine mg_11 hC hH dX13_ends_89 ?_
    refine lv_aload_n hx hb dX13_ends_92 rfl (lv_at hl 1 rfl) ?_
    refine mg_17 hC hH dX13_ends_93 ?_
    refine lv_iload hx hb dX13_ends_96 (lv_at hl 0 rfl) ?_
    obtain ⟨g_50, hF⟩ := og_some hF
    refine ml_17 hC hH g_50 dX13_ends_98 ?_
    refine lv_aload_n hx hb dX13_ends_99 rfl (lv_at hl 1 rfl) ?_
    refine mg_3 hC hH dX13_ends_100 ?_
    obtain ⟨g_51, hF⟩ := og_some hF
    obtain ⟨u_52, e_53, hF⟩ := lu_some hF
    refine ms_11 hC hH e_53 g_51 dX13_ends_103 (fun H locs hH => ?_)
    refine lv_aload_n hx hb dX13_ends_104 rfl (lv_at hl 1 rfl) ?_
    refine mg_22 hC hH dX13_ends_105 ?_
    refine lv_iload_n hx hb dX13_ends_108 rfl (lv_at hl 2 rfl) ?_
    refine lv_iconst (v := (-1)) hx hb dX13_ends_109 (by decide) ?_
    obtain ⟨g_54, hF⟩ := og_some hF
    obtain ⟨u_55, e_56, hF⟩ := lu_some hF
    refine ms_22 hC hH e_56 g_54 dX13_ends_110 (fun H locs hH => ?_)
    refine lv_aload_n hx hb dX13_ends_111 rfl (lv_at hl 1 rfl) ?_
    refine mg_18 hC hH dX13_ends_112 ?_
    refine lv_iload hx hb dX13_ends_115 (lv_at hl 0 rfl) ?_
    obtain ⟨g_57, hF⟩ := og_some hF
    refine ml_18 hC hH g_57 dX13_ends_117 ?_
    exact mr_i hC hH hr hF dX13_ends_118 hlocks
def lp_asked_13 : Nat → Int32 → Int32 → Int32 → Int32 → MS → (Int32 → Int32 → Int32 → Int32 → MS → Option (Int32 × MS)) → Option (Int32 × MS)
  | 0, _, _, _, _, _, _ => none
  | n13 + 1, v1, v2, v3, v4, u, K13_58 => (if 2 ≤ v4 then K13_58 v1 v2 v3 v4 u else ob (f_holds v3 v1 v4 v2 u) (fun r_3 u_4 => (if r_3 = 0 then li (v4 + 1) (fun x_11 => lp_asked_13 n13 v1 v2 v3 x_11 u_4 K13_58) else og (gi v3 20) (ob (f_ends v1 v4 v3 (ra u_4 35 v3) u_4) (fun r_8 u_9 => some (v3, u_9))))))
def lp_asked_2 : Nat → Int32 → Int32 → Int32 → MS → (Int32 → Int32 → Int32 → MS → Option (Int32 × MS)) → Option (Int32 × MS)
  | 0, _, _, _, _, _ => none
  | n2 + 1, v1, v2, v3, u, K2_64 => (if (u.1 30) ≤ v3 then K2_64 v1 v2 v3 u else lp_asked_13 fuel v1 v2 v3 0 u (fun v1 v2 v3 v4 u => li (v3 + 1) (fun x_13 => lp_asked_2 n2 v1 v2 x_13 u K2_64)))
def f_asked (a0 : Int32) (a1 : Int32) (u : MS) : Option (Int32 × MS) := lp_asked_2 fuel a0 a1 0 u (fun v1 v2 v3 u => some (-1, u))
set_option maxHeartbeats 4000000 in
set_option maxRecDepth 100000 in
theorem m_asked (l : Launch) (G : gG) (Z : gM) (Q : Nat → Nat) (u u1 : MS) (r : Int32) (a0 : Int32) (a1 : Int32) (sz : Nat) (hF : f_asked a0 a1 u = some (r, u1)) : Met l yX13_asked (Cond.code yX13_asked cX13_asked 6 (some .int) :: wM) { frames := 2, cells := 0, slots := 0, locals := 50 } (va_Pc [.ref (Q 72), .int a0, .int a1] (mPM G Z Q u sz)) (mQi G Q u1 r sz) 0 0 (mA Q sz) := by
  refine Met.ofW (cc := cX13_asked) (maxL := 6) (ret := (some .int)) (by decide) rfl ?_
  intro p e s m args below meth c s₁ B hml hv
  obtain ⟨rfl, rfl, hP, hB, hD, hE⟩ := hv
  have hr := B.returns
  have hlocks := B.notSynchronized
  have hts := atoms_spec (ws := Cond.code yX13_asked cX13_asked 6 (some .int) :: wM) B.pre
  have hC : mX p c cX13_asked 6 s m _ G Z Q := ⟨B.exec, B.bytes, hml, findClass_of_methodNamed B.named, fun w h => hts w (List.mem_cons_of_mem _ h), hB, hE⟩
  have hx := hC.1
  have hb := hC.2.1
  have hH : mH G Q u s s.heap [] := ⟨hP, hD, va_S.rf⟩
  have hl := lv_entry ([.ref (Q 72), .int a0, .int a1]) (n := 6) (Nat.le_of_ble_eq_true rfl)
  rw [lg_entry_eq]
  generalize (lg_sl ([.ref (Q 72), .int a0, .int a1]) ++ List.replicate (6 - (lg_sl ([.ref (Q 72), .int a0, .int a1])).length) Slot.unset).toArray = ls at hl ⊢
  have hl : lv_has ls 6 [(0, .ref (Q 72)), (1, .int a0), (2, .int a1)] := hl
  unfold f_asked at hF
  refine lv_iconst (v := 0) hx hb dX13_asked_0 (by decide) ?_
  refine lv_istore_n (lv' := [(3, .int 0), (0, .ref (Q 72)), (1, .int a0), (2, .int a1)]) hx hb dX13_asked_1 rfl hl (by decide) rfl (fun ls hl => ?_)
  have hL2 : ∀ (K2_64 : Int32 → Int32 → Int32 → MS → Option (Int32 × MS)), (∀ (v1 v2 v3 : Int32) (u : MS) (H : Heap) (locs : List Loc) (ls : Array Slot), lv_has ls 6 [(0, .ref (Q 72)), (1, .int v1), (2, .int v2), (3, .int v3)] → mH G Q u s H locs → K2_64 v1 v2 v3 u = some ((r, u1)) → W p l e (headSpec (Cond.code yX13_asked cX13_asked 6 (some .int) :: wM) { frames := 2, cells := 0, slots := 0, locals := 50 }).room s m [.ref (Q 72), .int a0, .int a1].toArray below meth c H locs 0 0 (MQ below (mQi G Q u1 r s.heap.size) [.ref (Q 72), .int a0, .int a1].toArray s 0 0 (mA Q s.heap.size)) (F0 m 64 ls [])) → ∀ (n2 : Nat) (v1 v2 v3 : Int32) (u : MS) (H : Heap) (locs : List Loc) (ls : Array Slot), lv_has ls 6 [(0, .ref (Q 72)), (1, .int v1), (2, .int v2), (3, .int v3)] → mH G Q u s H locs → lp_asked_2 n2 v1 v2 v3 u K2_64 = some ((r, u1)) → W p l e (headSpec (Cond.code yX13_asked cX13_asked 6 (some .int) :: wM) { frames := 2, cells := 0, slots := 0, locals := 50 }).room s m [.ref (Q 72), .int a0, .int a1].toArray below meth c H locs 0 0 (MQ below (mQi G Q u1 r s.heap.size) [.ref (Q 72), .int a0, .int a1].toArray s 0 0 (mA Q s.heap.size)) (F0 m 2 ls []) := by
    intro K2_64 hK2_64 n2
    induction n2 with
    | zero => intro v1 v2 v3 u H locs ls hl hH hF; cases hF
    | succ n2 ih2 =>
      intro v1 v2 v3 u H locs ls hl hH hF
      unfold lp_asked_2 at hF
      refine lv_iload_n hx hb dX13_asked_2 rfl (lv_at hl 3 rfl) ?_
      refine lv_aload_n hx hb dX13_asked_3 rfl (lv_at hl 0 rfl) ?_
      refine mg_30 hC hH dX13_asked_4 ?_
      refine lv_icmp_ge (tgt := 64) hx hb dX13_asked_7 (by decide) (fun c_1 => ?_) (fun c_1 => ?_)
      · rw [if_pos c_1] at hF
        exact hK2_64 v1 v2 v3 u _ _ _ (lv_sub hl [0, 1, 2, 3] rfl) hH hF
      · rw [if_neg c_1] at hF
        refine lv_iconst (v := 0) hx hb dX13_asked_10 (by decide) ?_
        refine lv_istore (lv' := [(4, .int 0), (0, .ref (Q 72)), (1, .int v1), (2, .int v2), (3, .int v3)]) hx hb dX13_asked_11 hl (by decide) rfl (fun ls hl => ?_)
        have hL13 : ∀ (K13_58 : Int32 → Int32 → Int32 → Int32 → MS → Option (Int32 × MS)), (∀ (v1 v2 v3 v4 : Int32) (u : MS) (H : Heap) (locs : List Loc) (ls : Array Slot), lv_has ls 6 [(0, .ref (Q 72)), (1, .int v1), (2, .int v2), (3, .int v3), (4, .int v4)] → mH G Q u s H locs → K13_58 v1 v2 v3 v4 u = some ((r, u1)) → W p l e (headSpec (Cond.code yX13_asked cX13_asked 6 (some .int) :: wM) { frames := 2, cells := 0, slots := 0, locals := 50 }).room s m [.ref (Q 72), .int a0, .int a1].toArray below meth c H locs 0 0 (MQ below (mQi G Q u1 r s.heap.size) [.ref (Q 72), .int a0, .int a1].toArray s 0 0 (mA Q s.heap.size)) (F0 m 58 ls [])) → ∀ (n13 : Nat) (v1 v2 v3 v4 : Int32) (u : MS) (H : Heap) (locs : List Loc) (ls : Array Slot), lv_has ls 6 [(0, .ref (Q 72)), (1, .int v1), (2, .int v2), (3, .int v3), (4, .int v4)] → mH G Q u s H locs → lp_asked_13 n13 v1 v2 v3 v4 u K13_58 = some ((r, u1)) → W p l e (headSpec (Cond.code yX13_asked cX13_asked 6 (some .int) :: wM) { frames := 2, cells := 0, slots := 0, locals := 50 }).room s m [.ref (Q 72), .int a0, .int a1].toArray below meth c H locs 0 0 (MQ below (mQi G Q u1 r s.heap.size) [.ref (Q 72), .int a0, .int a1].toArray s 0 0 (mA Q s.heap.size)) (F0 m 13 ls []) := by
          intro K13_58 hK13_58 n13
          induction n13 with
          | zero => intro v1 v2 v3 v4 u H locs ls hl hH hF; cases hF
          | succ n13 ih13 =>
            intro v1 v2 v3 v4 u H locs ls hl hH hF
            unfold lp_asked_13 at hF
            refine lv_iload hx hb dX13_asked_13 (lv_at hl 4 rfl) ?_
            refine lv_iconst (v := 2) hx hb dX13_asked_15 (by decide) ?_
            refine lv_icmp_ge (tgt := 58) hx hb dX13_asked_16 (by decide) (fun c_2 => ?_) (fun c_2 => ?_)
            · rw [if_pos c_2] at hF
              exact hK13_58 v1 v2 v3 v4 u _ _ _ (lv_sub hl [0, 1, 2, 3, 4] rfl) hH hF
            · rw [if_neg c_2] at hF
              refine lv_aload_n hx hb dX13_asked_19 rfl (lv_at hl 0 rfl) ?_
              refine lv_iload_n hx hb dX13_asked_20 rfl (lv_at hl 3 rfl) ?_
              refine lv_iload_n hx hb dX13_asked_21 rfl (lv_at hl 1 rfl) ?_
              refine lv_iload hx hb dX13_asked_22 (lv_at hl 4 rfl) ?_
              refine lv_iload_n hx hb dX13_asked_24 rfl (lv_at hl 2 rfl) ?_
              obtain ⟨r_3, u_4, h_5, hF⟩ := ob_some hF
              refine mcV_i (As := [.int v3, .int v1, .int v4, .int v2]) (rest := []) hC hH (m_holds l G Z Q u u_4 r_3 v3 v1 v4 v2 _ h_5) kwX13_holds kVX13_holds ⟨Nat.le_of_ble_eq_true rfl, Nat.le_of_ble_eq_true rfl⟩ rfl hl.1 rfl (Nat.le_of_ble_eq_true rfl) dX13_asked_25 (fun H locs hH => ?_)
              refine lv_if_ne (tgt := 34) hx hb dX13_asked_28 (by decide) (fun c_6 => ?_) (fun c_6 => ?_)
              · rw [if_neg c_6] at hF
                refine lv_aload_n hx hb dX13_asked_34 rfl (lv_at hl 0 rfl) ?_
                refine lv_iload_n hx hb dX13_asked_35 rfl (lv_at hl 1 rfl) ?_
                refine lv_iload hx hb dX13_asked_36 (lv_at hl 4 rfl) ?_
                refine lv_iload_n hx hb dX13_asked_38 rfl (lv_at hl 3 rfl) ?_
                refine lv_aload_n hx hb dX13_asked_39 rfl (lv_at hl 0 rfl) ?_
                refine mg_35 hC hH dX13_asked_40 ?_
                refine lv_iload_n hx hb dX13_asked_43 rfl (lv_at hl 3 rfl) ?_
                obtain ⟨g_7, hF⟩ := og_some hF
                refine ml_35 hC hH g_7 dX13_asked_44 ?_
                obtain ⟨r_8, u_9, h_10, hF⟩ := ob_some hF
                refine mcV_i (As := [.int v1, .int v4, .int v3, .int (ra u_4 35 v3)]) (rest := []) hC hH (m_ends l G Z Q u_4 u_9 r_8 v1 v4 v3 (ra u_4 35 v3) _ h_10) kwX13_ends kVX13_ends ⟨Nat.le_of_ble_eq_true rfl, Nat.le_of_ble_eq_true rfl⟩ rfl hl.1 rfl (Nat.le_of_ble_eq_true rfl) dX13_asked_45 (fun H locs hH => ?_)
                refine lv_istore (lv' := [(5, .int r_8), (0, .ref (Q 72)), (1, .int v1), (2, .int v2), (3, .int v3), (4, .int v4)]) hx hb dX13_asked_48 hl (by decide) rfl (fun ls hl => ?_)
                refine lv_iload_n hx hb dX13_asked_50 rfl (lv_at hl 4 rfl) ?_
                exact mr_i hC hH hr hF dX13_asked_51 hlocks
              · rw [if_pos c_6] at hF
                refine lv_goto (tgt := 52) hx hb dX13_asked_31 (by decide) ?_
                obtain ⟨x_11, e_12, hF⟩ := li_some hF
                refine lv_iinc (v := x_11) (lv' := [(4, .int x_11), (0, .ref (Q 72)), (1, .int v1), (2, .int v2), (3, .int v3)]) hx hb dX13_asked_52 hl (k := 4) rfl e_12 (by decide) rfl (fun ls hl => ?_)
                refine lv_goto (tgt := 13) hx hb dX13_asked_55 (by decide) ?_
                exact ih13 v1 v2 v3 x_11 u_4 _ _ _ (lv_sub hl [1, 2, 3, 4, 0] rfl) hH hF
        refine hL13 _ (fun v1 v2 v3 v4 u H locs ls hl hH hF => ?_) fuel v1 v2 v3 0 u _ _ _ (lv_sub hl [1, 2, 3, 4, 0] rfl) hH hF
        obtain ⟨x_13, e_14, hF⟩ := li_some hF
        refine lv_iinc (v := x_13) (lv' := [(3, .int x_13), (0, .ref (Q 72)), (1, .int v1), (2, .int v2), (4, .int v4)]) hx hb dX13_asked_58 hl (k := 3) rfl e_14 (by decide) rfl (fun ls hl => ?_)
        refine lv_goto (tgt := 2) hx hb dX13_asked_61 (by decide) ?_
        exact ih2 v1 v2 x_13 u _ _ _ (lv_sub hl [1, 2, 3, 0] rfl) hH hF
  refine hL2 _ (fun v1 v2 v3 u H locs ls hl hH hF => ?_) fuel a0 a1 0 u _ _ _ (lv_sub hl [1, 2, 3, 0] rfl) hH hF
  refine lv_iconst (v := (-1)) hx hb dX13_asked_64 (by decide) ?_
  exact mr_i hC hH hr hF dX13_asked_65 hlocks
def f_passes (a0 : Int32) (a1 : Int32) (u : MS) : Option (Int32 × MS) := og (gi a0 4) (og (gi a0 4) (lu (wa u 23 a0 ((ra u 23 a0) - a1)) (fun u_3 => og (gi a0 4) ((if (ra u_3 25 a0) = 0 then og (gi a0 4) ((if (ra u_3 23 a0) = 0 then ob (f_asked a0 1 u_3) (fun r_27 u_28 => (if r_27 = (-1) then og (gi a0 4) ((if (ra u_28 23 a0) ≤ 0 then ob (f_goesOver a0 u_28) (fun r_33 u_34 => some (-1, u_34)) else some (r_27, u_28))) else some (r_27, u_28))) else ob (f_asked a0 0 u_3) (fun r_18 u_19 => (if r_18 = (-1) then og (gi a0 4) ((if (ra u_19 23 a0) ≤ 0 then ob (f_goesOver a0 u_19) (fun r_24 u_25 => some (-1, u_25)) else some (r_18, u_19))) else some (r_18, u_19))))) else ob (f_asked a0 1 u_3) (fun r_7 u_8 => (if r_7 = (-1) then og (gi a0 4) ((if (ra u_8 23 a0) ≤ 0 then ob (f_goesOver a0 u_8) (fun r_13 u_14 => some (-1, u_14)) else some (r_7, u_8))) else some (r_7, u_8))))))))
set_option maxHeartbeats 4000000 in
set_option maxRecDepth 100000 in
theorem m_passes (l : Launch) (G : gG) (Z : gM) (Q : Nat → Nat) (u u1 : MS) (r : Int32) (a0 : Int32) (a1 : Int32) (sz : Nat) (hF : f_passes a0 a1 u = some (r, u1)) : Met l yX13_passes (Cond.code yX13_passes cX13_passes 4 (some .int) :: wM) { frames := 3, cells := 0, slots := 0, locals := 75 } (va_Pc [.ref (Q 72), .int a0, .int a1] (mPM G Z Q u sz)) (mQi G Q u1 r sz) 0 0 (mA Q sz) := by
  refine Met.ofW (cc := cX13_passes) (maxL := 4) (ret := (some .int)) (by decide) rfl ?_
  intro p e s m args below meth c s₁ B hml hv
  obtain ⟨rfl, rfl, hP, hB, hD, hE⟩ := hv
  have hr := B.returns
  have hlocks := B.notSynchronized
  have hts := atoms_spec (ws := Cond.code yX13_passes cX13_passes 4 (some .int) :: wM) B.pre
  have hC : mX p c cX13_passes 4 s m _ G Z Q := ⟨B.exec, B.bytes, hml, findClass_of_methodNamed B.named, fun w h => hts w (List.mem_cons_of_mem _ h), hB, hE⟩
  have hx := hC.1
  have hb := hC.2.1
  have hH : mH G Q u s s.heap [] := ⟨hP, hD, va_S.rf⟩
  have hl := lv_entry ([.ref (Q 72), .int a0, .int a1]) (n := 4) (Nat.le_of_ble_eq_true rfl)
  rw [lg_entry_eq]
  generalize (lg_sl ([.ref (Q 72), .int a0, .int a1]) ++ List.replicate (4 - (lg_sl ([.ref (Q 72), .int a0, .int a1])).length) Slot.unset).toArray = ls at hl ⊢
  have hl : lv_has ls 4 [(0, .ref (Q 72)), (1, .int a0), (2, .int a1)] := hl
  unfold f_passes at hF
  refine lv_aload_n hx hb dX13_passes_0 rfl (lv_at hl 0 rfl) ?_
  refine mg_23 hC hH dX13_passes_1 ?_
  refine lv_iload_n hx hb dX13_passes_4 rfl (lv_at hl 1 rfl) ?_
  refine lv_dup2_11 hx hb dX13_passes_5 rfl rfl ?_
  obtain ⟨g_1, hF⟩ := og_some hF
  refine ml_23 hC hH g_1 dX13_passes_6 ?_
  refine lv_iload_n hx hb dX13_passes_7 rfl (lv_at hl 2 rfl) ?_
  refine lv_isub hx hb dX13_passes_8 ?_
  obtain ⟨g_2, hF⟩ := og_some hF
  obtain ⟨u_3, e_4, hF⟩ := lu_some hF
  refine ms_23 hC hH e_4 g_2 dX13_passes_9 (fun H locs hH => ?_)
  refine lv_aload_n hx hb dX13_passes_10 rfl (lv_at hl 0 rfl) ?_
  refine lv_iload_n hx hb dX13_passes_11 rfl (lv_at hl 1 rfl) ?_
  refine lv_aload_n hx hb dX13_passes_12 rfl (lv_at hl 0 rfl) ?_
  refine mg_25 hC hH dX13_passes_13 ?_
  refine lv_iload_n hx hb dX13_passes_16 rfl (lv_at hl 1 rfl) ?_
  obtain ⟨g_5, hF⟩ := og_some hF
  refine ml_25 hC hH g_5 dX13_passes_17 ?_
  refine lv_if_ne (tgt := 30) hx hb dX13_passes_18 (by decide) (fun c_6 => ?_) (fun c_6 => ?_)
  · rw [if_neg c_6] at hF
    refine lv_iconst (v := 1) hx hb dX13_passes_30 (by decide) ?_
    refine lv_goto (tgt := 35) hx hb dX13_passes_31 (by decide) ?_
    obtain ⟨r_7, u_8, h_9, hF⟩ := ob_some hF
    refine mcV_i (As := [.int a0, .int 1]) (rest := []) hC hH (m_asked l G Z Q u_3 u_8 r_7 a0 1 _ h_9) kwX13_asked kVX13_asked ⟨Nat.le_of_ble_eq_true rfl, Nat.le_of_ble_eq_true rfl⟩ rfl hl.1 rfl (Nat.le_of_ble_eq_true rfl) dX13_passes_35 (fun H locs hH => ?_)
    refine lv_istore_n (lv' := [(3, .int r_7), (0, .ref (Q 72)), (1, .int a0), (2, .int a1)]) hx hb dX13_passes_38 rfl hl (by decide) rfl (fun ls hl => ?_)
    refine lv_iload_n hx hb dX13_passes_39 rfl (lv_at hl 0 rfl) ?_
    refine lv_iconst (v := (-1)) hx hb dX13_passes_40 (by decide) ?_
    refine lv_icmp_ne (tgt := 53) hx hb dX13_passes_41 (by decide) (fun c_10 => ?_) (fun c_10 => ?_)
    · rw [if_neg c_10] at hF
      refine lv_iload_n hx hb dX13_passes_53 rfl (lv_at hl 0 rfl) ?_
      exact mr_i hC hH hr hF dX13_passes_54 hlocks
    · rw [if_pos c_10] at hF
      refine lv_aload_n hx hb dX13_passes_44 rfl (lv_at hl 1 rfl) ?_
      refine mg_23 hC hH dX13_passes_45 ?_
      refine lv_iload_n hx hb dX13_passes_48 rfl (lv_at hl 2 rfl) ?_
      obtain ⟨g_11, hF⟩ := og_some hF
      refine ml_23 hC hH g_11 dX13_passes_49 ?_
      refine lv_if_le (tgt := 55) hx hb dX13_passes_50 (by decide) (fun c_12 => ?_) (fun c_12 => ?_)
      · rw [if_pos c_12] at hF
        refine lv_aload_n hx hb dX13_passes_55 rfl (lv_at hl 1 rfl) ?_
        refine lv_iload_n hx hb dX13_passes_56 rfl (lv_at hl 2 rfl) ?_
        obtain ⟨r_13, u_14, h_15, hF⟩ := ob_some hF
        refine mcV_v (As := [.int a0]) (rest := []) hC hH (m_goesOver l G Z Q u_8 u_14 r_13 a0 _ h_15) kwX13_goesOver kVX13_goesOver ⟨Nat.le_of_ble_eq_true rfl, Nat.le_of_ble_eq_true rfl⟩ rfl hl.1 rfl (Nat.le_of_ble_eq_true rfl) dX13_passes_57 (fun H locs hH => ?_)
        refine lv_iconst (v := (-1)) hx hb dX13_passes_60 (by decide) ?_
        exact mr_i hC hH hr hF dX13_passes_61 hlocks
      · rw [if_neg c_12] at hF
        refine lv_iload_n hx hb dX13_passes_53 rfl (lv_at hl 0 rfl) ?_
        exact mr_i hC hH hr hF dX13_passes_54 hlocks
  · rw [if_pos c_6] at hF
    refine lv_aload_n hx hb dX13_passes_21 rfl (lv_at hl 0 rfl) ?_
    refine mg_23 hC hH dX13_passes_22 ?_
    refine lv_iload_n hx hb dX13_passes_25 rfl (lv_at hl 1 rfl) ?_
    obtain ⟨g_16, hF⟩ := og_some hF
    refine ml_23 hC hH g_16 dX13_passes_26 ?_
    refine lv_if_ne (tgt := 34) hx hb dX13_passes_27 (by decide) (fun c_17 => ?_) (fun c_17 => ?_)
    · rw [if_neg c_17] at hF
      refine lv_iconst (v := 0) hx hb dX13_passes_34 (by decide) ?_
      obtain ⟨r_18, u_19, h_20, hF⟩ := ob_some hF
      refine mcV_i (As := [.int a0, .int 0]) (rest := []) hC hH (m_asked l G Z Q u_3 u_19 r_18 a0 0 _ h_20) kwX13_asked kVX13_asked ⟨Nat.le_of_ble_eq_true rfl, Nat.le_of_ble_eq_true rfl⟩ rfl hl.1 rfl (Nat.le_of_ble_eq_true rfl) dX13_passes_35 (fun H locs hH => ?_)
      refine lv_istore_n (lv' := [(3, .int r_18), (0, .ref (Q 72)), (1, .int a0), (2, .int a1)]) hx hb dX13_passes_38 rfl hl (by decide) rfl (fun ls hl => ?_)
      refine lv_iload_n hx hb dX13_passes_39 rfl (lv_at hl 0 rfl) ?_
      refine lv_iconst (v := (-1)) hx hb dX13_passes_40 (by decide) ?_
      refine lv_icmp_ne (tgt := 53) hx hb dX13_passes_41 (by decide) (fun c_21 => ?_) (fun c_21 => ?_)
      · rw [if_neg c_21] at hF
        refine lv_iload_n hx hb dX13_passes_53 rfl (lv_at hl 0 rfl) ?_
        exact mr_i hC hH hr hF dX13_passes_54 hlocks
      · rw [if_pos c_21] at hF
        refine lv_aload_n hx hb dX13_passes_44 rfl (lv_at hl 1 rfl) ?_
        refine mg_23 hC hH dX13_passes_45 ?_
        refine lv_iload_n hx hb dX13_passes_48 rfl (lv_at hl 2 rfl) ?_
        obtain ⟨g_22, hF⟩ := og_some hF
        refine ml_23 hC hH g_22 dX13_passes_49 ?_
        refine lv_if_le (tgt := 55) hx hb dX13_passes_50 (by decide) (fun c_23 => ?_) (fun c_23 => ?_)
        · rw [if_pos c_23] at hF
          refine lv_aload_n hx hb dX13_passes_55 rfl (lv_at hl 1 rfl) ?_
          refine lv_iload_n hx hb dX13_passes_56 rfl (lv_at hl 2 rfl) ?_
          obtain ⟨r_24, u_25, h_26, hF⟩ := ob_some hF
          refine mcV_v (As := [.int a0]) (rest := []) hC hH (m_goesOver l G Z Q u_19 u_25 r_24 a0 _ h_26) kwX13_goesOver kVX13_goesOver ⟨Nat.le_of_ble_eq_true rfl, Nat.le_of_ble_eq_true rfl⟩ rfl hl.1 rfl (Nat.le_of_ble_eq_true rfl) dX13_passes_57 (fun H locs hH => ?_)
          refine lv_iconst (v := (-1)) hx hb dX13_passes_60 (by decide) ?_
          exact mr_i hC hH hr hF dX13_passes_61 hlocks
        · rw [if_neg c_23] at hF
          refine lv_iload_n hx hb dX13_passes_53 rfl (lv_at hl 0 rfl) ?_
          exact mr_i hC hH hr hF dX13_passes_54 hlocks
    · rw [if_pos c_17] at hF
      refine lv_iconst (v := 1) hx hb dX13_passes_30 (by decide) ?_
      refine lv_goto (tgt := 35) hx hb dX13_passes_31 (by decide) ?_
      obtain ⟨r_27, u_28, h_29, hF⟩ := ob_some hF
      refine mcV_i (As := [.int a0, .int 1]) (rest := []) hC hH (m_asked l G Z Q u_3 u_28 r_27 a0 1 _ h_29) kwX13_asked kVX13_asked ⟨Nat.le_of_ble_eq_true rfl, Nat.le_of_ble_eq_true rfl⟩ rfl hl.1 rfl (Nat.le_of_ble_eq_true rfl) dX13_passes_35 (fun H locs hH => ?_)
      refine lv_istore_n (lv' := [(3, .int r_27), (0, .ref (Q 72)), (1, .int a0), (2, .int a1)]) hx hb dX13_passes_38 rfl hl (by decide) rfl (fun ls hl => ?_)
      refine lv_iload_n hx hb dX13_passes_39 rfl (lv_at hl 0 rfl) ?_
      refine lv_iconst (v := (-1)) hx hb dX13_passes_40 (by decide) ?_
      refine lv_icmp_ne (tgt := 53) hx hb dX13_passes_41 (by decide) (fun c_30 => ?_) (fun c_30 => ?_)
      · rw [if_neg c_30] at hF
        refine lv_iload_n hx hb dX13_passes_53 rfl (lv_at hl 0 rfl) ?_
        exact mr_i hC hH hr hF dX13_passes_54 hlocks
      · rw [if_pos c_30] at hF
        refine lv_aload_n hx hb dX13_passes_44 rfl (lv_at hl 1 rfl) ?_
        refine mg_23 hC hH dX13_passes_45 ?_
        refine lv_iload_n hx hb dX13_passes_48 rfl (lv_at hl 2 rfl) ?_
        obtain ⟨g_31, hF⟩ := og_some hF
        refine ml_23 hC hH g_31 dX13_passes_49 ?_
        refine lv_if_le (tgt := 55) hx hb dX13_passes_50 (by decide) (fun c_32 => ?_) (fun c_32 => ?_)
        · rw [if_pos c_32] at hF
          refine lv_aload_n hx hb dX13_passes_55 rfl (lv_at hl 1 rfl) ?_
          refine lv_iload_n hx hb dX13_passes_56 rfl (lv_at hl 2 rfl) ?_
          obtain ⟨r_33, u_34, h_35, hF⟩ := ob_some hF
          refine mcV_v (As := [.int a0]) (rest := []) hC hH (m_goesOver l G Z Q u_28 u_34 r_33 a0 _ h_35) kwX13_goesOver kVX13_goesOver ⟨Nat.le_of_ble_eq_true rfl, Nat.le_of_ble_eq_true rfl⟩ rfl hl.1 rfl (Nat.le_of_ble_eq_true rfl) dX13_passes_57 (fun H locs hH => ?_)
          refine lv_iconst (v := (-1)) hx hb dX13_passes_60 (by decide) ?_
          exact mr_i hC hH hr hF dX13_passes_61 hlocks
        · rw [if_neg c_32] at hF
          refine lv_iload_n hx hb dX13_passes_53 rfl (lv_at hl 0 rfl) ?_
          exact mr_i hC hH hr hF dX13_passes_54 hlocks
def lp_struck_28 : Nat → Int32 → Int32 → Int32 → Int32 → Int32 → MS → (Int32 → Int32 → Int32 → Int32 → Int32 → MS → Option (Int32 × MS)) → Option (Int32 × MS)
  | 0, _, _, _, _, _, _, _ => none
  | n28 + 1, v1, v2, v3, v4, v5, u, K28_172 => ob (f_fights v1 u) (fun r_5 u_6 => (if r_5 ≤ v5 then K28_172 v1 v2 v3 v4 v5 u_6 else li ((40 * v1) + v5) (fun x_9 => og (gi x_9 160) ((if (ra u_6 15 x_9) = 0 then li (v5 + 1) (fun x_13 => lp_struck_28 n28 v1 v2 v3 v4 x_13 u_6 K28_172) else ob (fS 24 0 v1 v5 0 0 u_6) (fun r_15 u_16 => og (gi x_9 160) ((if r_15 = (ra u_16 16 x_9) then ob (fS 24 0 v1 v5 1 0 u_16) (fun r_50 u_51 => og (gi x_9 160) ((if r_50 = (ra u_51 17 x_9) then li (v5 + 1) (fun x_85 => lp_struck_28 n28 v1 v2 v3 v4 x_85 u_51 K28_172) else og (gi x_9 160) ((if (ra u_51 15 x_9) = 1 then ob (f_matOf v1 v5 u_51) (fun r_64 u_65 => og (gi r_64 4) (lu (wa u_65 22 r_64 (-1)) (fun u_68 => og (gi x_9 160) (og (gi (ra u_68 16 x_9) 96) (lu (wa u_68 11 (ra u_68 16 x_9) (u_68.1 3)) (fun u_72 => og (gi x_9 160) (og (gi (ra u_72 17 x_9) 96) (lu (wa u_72 11 (ra u_72 17 x_9) (u_72.1 3)) (fun u_76 => og (gi x_9 160) (lu (wa u_76 15 x_9 0) (fun u_79 => li (v3 + 1) (fun x_81 => li (v5 + 1) (fun x_83 => lp_struck_28 n28 v1 v2 x_81 1 x_83 u_79 K28_172))))))))))))) else og (gi x_9 160) (lu (wa u_51 15 x_9 0) (fun u_58 => li (v3 + 1) (fun x_60 => li (v5 + 1) (fun x_62 => lp_struck_28 n28 v1 v2 x_60 1 x_62 u_58 K28_172))))))))) else og (gi x_9 160) ((if (ra u_16 15 x_9) = 1 then ob (f_matOf v1 v5 u_16) (fun r_29 u_30 => og (gi r_29 4) (lu (wa u_30 22 r_29 (-1)) (fun u_33 => og (gi x_9 160) (og (gi (ra u_33 16 x_9) 96) (lu (wa u_33 11 (ra u_33 16 x_9) (u_33.1 3)) (fun u_37 => og (gi x_9 160) (og (gi (ra u_37 17 x_9) 96) (lu (wa u_37 11 (ra u_37 17 x_9) (u_37.1 3)) (fun u_41 => og (gi x_9 160) (lu (wa u_41 15 x_9 0) (fun u_44 => li (v3 + 1) (fun x_46 => li (v5 + 1) (fun x_48 => lp_struck_28 n28 v1 v2 x_46 1 x_48 u_44 K28_172))))))))))))) else og (gi x_9 160) (lu (wa u_16 15 x_9 0) (fun u_23 => li (v3 + 1) (fun x_25 => li (v5 + 1) (fun x_27 => lp_struck_28 n28 v1 v2 x_25 1 x_27 u_23 K28_172))))))))))))))
def lp_struck_17 : Nat → Int32 → Int32 → Int32 → Int32 → MS → (Int32 → Int32 → Int32 → Int32 → MS → Option (Int32 × MS)) → Option (Int32 × MS)
  | 0, _, _, _, _, _, _ => none
  | n17 + 1, v1, v2, v3, v4, u, K17_175 => (if v4 = 0 then K17_175 v1 v2 v3 v4 u else lp_struck_28 fuel v1 v2 v3 0 0 u (fun v1 v2 v3 v4 v5 u => lp_struck_17 n17 v1 v2 v3 v4 u K17_175))
def f_struck (a0 : Int32) (a1 : Int32) (u : MS) : Option (Int32 × MS) := og (gi ((40 * a0) + a1) 160) (lu (wa u 15 ((40 * a0) + a1) 0) (fun u_2 => lp_struck_17 fuel a0 a1 1 1 u_2 (fun v1 v2 v3 v4 u => some (v3, u))))
set_option maxHeartbeats 4000000 in
set_option maxRecDepth 100000 in
theorem m_struck (l : Launch) (G : gG) (Z : gM) (Q : Nat → Nat) (u u1 : MS) (r : Int32) (a0 : Int32) (a1 : Int32) (sz : Nat) (hF : f_struck a0 a1 u = some (r, u1)) : Met l yX13_struck (Cond.code yX13_struck cX13_struck 7 (some .int) :: wM) { frames := 309, cells := 0, slots := 0, locals := 3786 } (va_Pc [.ref (Q 72), .int a0, .int a1] (mPM G Z Q u sz)) (mQi G Q u1 r sz) 0 0 (mA Q sz) := by
  refine Met.ofW (cc := cX13_struck) (maxL := 7) (ret := (some .int)) (by decide) rfl ?_
  intro p e s m args below meth c s₁ B hml hv
  obtain ⟨rfl, rfl, hP, hB, hD, hE⟩ := hv
  have hr := B.returns
  have hlocks := B.notSynchronized
  have hts := atoms_spec (ws := Cond.code yX13_struck cX13_struck 7 (some .int) :: wM) B.pre
  have hC : mX p c cX13_struck 7 s m _ G Z Q := ⟨B.exec, B.bytes, hml, findClass_of_methodNamed B.named, fun w h => hts w (List.mem_cons_of_mem _ h), hB, hE⟩
  have hx := hC.1
  have hb := hC.2.1
  have hH : mH G Q u s s.heap [] := ⟨hP, hD, va_S.rf⟩
  have hl := lv_entry ([.ref (Q 72), .int a0, .int a1]) (n := 7) (Nat.le_of_ble_eq_true rfl)
  rw [lg_entry_eq]
  generalize (lg_sl ([.ref (Q 72), .int a0, .int a1]) ++ List.replicate (7 - (lg_sl ([.ref (Q 72), .int a0, .int a1])).length) Slot.unset).toArray = ls at hl ⊢
  have hl : lv_has ls 7 [(0, .ref (Q 72)), (1, .int a0), (2, .int a1)] := hl
  unfold f_struck at hF
  refine lv_aload_n hx hb dX13_struck_0 rfl (lv_at hl 0 rfl) ?_
  refine mg_15 hC hH dX13_struck_1 ?_
  refine lv_bipush (v := 40) hx hb dX13_struck_4 (by decide) ?_
  refine lv_iload_n hx hb dX13_struck_6 rfl (lv_at hl 1 rfl) ?_
  refine lv_imul hx hb dX13_struck_7 ?_
  refine lv_iload_n hx hb dX13_struck_8 rfl (lv_at hl 2 rfl) ?_
  refine lv_iadd hx hb dX13_struck_9 ?_
  refine lv_iconst (v := 0) hx hb dX13_struck_10 (by decide) ?_
  obtain ⟨g_1, hF⟩ := og_some hF
  obtain ⟨u_2, e_3, hF⟩ := lu_some hF
  refine ms_15 hC hH e_3 g_1 dX13_struck_11 (fun H locs hH => ?_)
  refine lv_iconst (v := 1) hx hb dX13_struck_12 (by decide) ?_
  refine lv_istore_n (lv' := [(3, .int 1), (0, .ref (Q 72)), (1, .int a0), (2, .int a1)]) hx hb dX13_struck_13 rfl hl (by decide) rfl (fun ls hl => ?_)
  refine lv_iconst (v := 1) hx hb dX13_struck_14 (by decide) ?_
  refine lv_istore (lv' := [(4, .int 1), (3, .int 1), (0, .ref (Q 72)), (1, .int a0), (2, .int a1)]) hx hb dX13_struck_15 hl (by decide) rfl (fun ls hl => ?_)
  have hL17 : ∀ (K17_175 : Int32 → Int32 → Int32 → Int32 → MS → Option (Int32 × MS)), (∀ (v1 v2 v3 v4 : Int32) (u : MS) (H : Heap) (locs : List Loc) (ls : Array Slot), lv_has ls 7 [(0, .ref (Q 72)), (1, .int v1), (2, .int v2), (3, .int v3), (4, .int v4)] → mH G Q u s H locs → K17_175 v1 v2 v3 v4 u = some ((r, u1)) → W p l e (headSpec (Cond.code yX13_struck cX13_struck 7 (some .int) :: wM) { frames := 309, cells := 0, slots := 0, locals := 3786 }).room s m [.ref (Q 72), .int a0, .int a1].toArray below meth c H locs 0 0 (MQ below (mQi G Q u1 r s.heap.size) [.ref (Q 72), .int a0, .int a1].toArray s 0 0 (mA Q s.heap.size)) (F0 m 175 ls [])) → ∀ (n17 : Nat) (v1 v2 v3 v4 : Int32) (u : MS) (H : Heap) (locs : List Loc) (ls : Array Slot), lv_has ls 7 [(0, .ref (Q 72)), (1, .int v1), (2, .int v2), (3, .int v3), (4, .int v4)] → mH G Q u s H locs → lp_struck_17 n17 v1 v2 v3 v4 u K17_175 = some ((r, u1)) → W p l e (headSpec (Cond.code yX13_struck cX13_struck 7 (some .int) :: wM) { frames := 309, cells := 0, slots := 0, locals := 3786 }).room s m [.ref (Q 72), .int a0, .int a1].toArray below meth c H locs 0 0 (MQ below (mQi G Q u1 r s.heap.size) [.ref (Q 72), .int a0, .int a1].toArray s 0 0 (mA Q s.heap.size)) (F0 m 17 ls []) := by
    intro K17_175 hK17_175 n17
    induction n17 with
    | zero => intro v1 v2 v3 v4 u H locs ls hl hH hF; cases hF
    | succ n17 ih17 =>
      intro v1 v2 v3 v4 u H locs ls hl hH hF
      unfold lp_struck_17 at hF
      refine lv_iload hx hb dX13_struck_17 (lv_at hl 4 rfl) ?_
      refine lv_if_eq (tgt := 175) hx hb dX13_struck_19 (by decide) (fun c_4 => ?_) (fun c_4 => ?_)
      · rw [if_pos c_4] at hF
        exact hK17_175 v1 v2 v3 v4 u _ _ _ (lv_sub hl [0, 1, 2, 3, 4] rfl) hH hF
      · rw [if_neg c_4] at hF
        refine lv_iconst (v := 0) hx hb dX13_struck_22 (by decide) ?_
        refine lv_istore (lv' := [(4, .int 0), (0, .ref (Q 72)), (1, .int v1), (2, .int v2), (3, .int v3)]) hx hb dX13_struck_23 hl (by decide) rfl (fun ls hl => ?_)
        refine lv_iconst (v := 0) hx hb dX13_struck_25 (by decide) ?_
        refine lv_istore (lv' := [(5, .int 0), (4, .int 0), (0, .ref (Q 72)), (1, .int v1), (2, .int v2), (3, .int v3)]) hx hb dX13_struck_26 hl (by decide) rfl (fun ls hl => ?_)
        have hL28 : ∀ (K28_172 : Int32 → Int32 → Int32 → Int32 → Int32 → MS → Option (Int32 × MS)), (∀ (v1 v2 v3 v4 v5 : Int32) (u : MS) (H : Heap) (locs : List Loc) (ls : Array Slot), lv_has ls 7 [(0, .ref (Q 72)), (1, .int v1), (2, .int v2), (3, .int v3), (4, .int v4), (5, .int v5)] → mH G Q u s H locs → K28_172 v1 v2 v3 v4 v5 u = some ((r, u1)) → W p l e (headSpec (Cond.code yX13_struck cX13_struck 7 (some .int) :: wM) { frames := 309, cells := 0, slots := 0, locals := 3786 }).room s m [.ref (Q 72), .int a0, .int a1].toArray below meth c H locs 0 0 (MQ below (mQi G Q u1 r s.heap.size) [.ref (Q 72), .int a0, .int a1].toArray s 0 0 (mA Q s.heap.size)) (F0 m 172 ls [])) → ∀ (n28 : Nat) (v1 v2 v3 v4 v5 : Int32) (u : MS) (H : Heap) (locs : List Loc) (ls : Array Slot), lv_has ls 7 [(0, .ref (Q 72)), (1, .int v1), (2, .int v2), (3, .int v3), (4, .int v4), (5, .int v5)] → mH G Q u s H locs → lp_struck_28 n28 v1 v2 v3 v4 v5 u K28_172 = some ((r, u1)) → W p l e (headSpec (Cond.code yX13_struck cX13_struck 7 (some .int) :: wM) { frames := 309, cells := 0, slots := 0, locals := 3786 }).room s m [.ref (Q 72), .int a0, .int a1].toArray below meth c H locs 0 0 (MQ below (mQi G Q u1 r s.heap.size) [.ref (Q 72), .int a0, .int a1].toArray s 0 0 (mA Q s.heap.size)) (F0 m 28 ls []) := by
          intro K28_172 hK28_172 n28
          induction n28 with
          | zero => intro v1 v2 v3 v4 v5 u H locs ls hl hH hF; cases hF
          | succ n28 ih28 =>
            intro v1 v2 v3 v4 v5 u H locs ls hl hH hF
            unfold lp_struck_28 at hF
            refine lv_iload hx hb dX13_struck_28 (lv_at hl 5 rfl) ?_
            refine lv_aload_n hx hb dX13_struck_30 rfl (lv_at hl 0 rfl) ?_
            refine lv_iload_n hx hb dX13_struck_31 rfl (lv_at hl 1 rfl) ?_
            obtain ⟨r_5, u_6, h_7, hF⟩ := ob_some hF
            refine mcV_i (As := [.int v1]) (rest := [.int v5]) hC hH (m_fights l G Z Q u u_6 r_5 v1 _ h_7) kwX13_fights kVX13_fights ⟨Nat.le_of_ble_eq_true rfl, Nat.le_of_ble_eq_true rfl⟩ rfl hl.1 rfl (Nat.le_of_ble_eq_true rfl) dX13_struck_32 (fun H locs hH => ?_)
            refine lv_icmp_ge (tgt := 172) hx hb dX13_struck_35 (by decide) (fun c_8 => ?_) (fun c_8 => ?_)
            · rw [if_pos c_8] at hF
              exact hK28_172 v1 v2 v3 v4 v5 u_6 _ _ _ (lv_sub hl [0, 1, 2, 3, 4, 5] rfl) hH hF
            · rw [if_neg c_8] at hF
              refine lv_bipush (v := 40) hx hb dX13_struck_38 (by decide) ?_
              refine lv_iload_n hx hb dX13_struck_40 rfl (lv_at hl 1 rfl) ?_
              refine lv_imul hx hb dX13_struck_41 ?_
              refine lv_iload hx hb dX13_struck_42 (lv_at hl 5 rfl) ?_
              refine lv_iadd hx hb dX13_struck_44 ?_
              obtain ⟨x_9, e_10, hF⟩ := li_some hF
              refine gx_ti e_10 ?_
              refine lv_istore (lv' := [(6, .int x_9), (0, .ref (Q 72)), (1, .int v1), (2, .int v2), (3, .int v3), (4, .int v4), (5, .int v5)]) hx hb dX13_struck_45 hl (by decide) rfl (fun ls hl => ?_)
              refine lv_aload_n hx hb dX13_struck_47 rfl (lv_at hl 1 rfl) ?_
              refine mg_15 hC hH dX13_struck_48 ?_
              refine lv_iload hx hb dX13_struck_51 (lv_at hl 0 rfl) ?_
              obtain ⟨g_11, hF⟩ := og_some hF
              refine ml_15 hC hH g_11 dX13_struck_53 ?_
              refine lv_if_eq (tgt := 166) hx hb dX13_struck_54 (by decide) (fun c_12 => ?_) (fun c_12 => ?_)
              · rw [if_pos c_12] at hF
                obtain ⟨x_13, e_14, hF⟩ := li_some hF
                refine lv_iinc (v := x_13) (lv' := [(5, .int x_13), (6, .int x_9), (0, .ref (Q 72)), (1, .int v1), (2, .int v2), (3, .int v3), (4, .int v4)]) hx hb dX13_struck_166 hl (k := 6) rfl e_14 (by decide) rfl (fun ls hl => ?_)
                refine lv_goto (tgt := 28) hx hb dX13_struck_169 (by decide) ?_
                exact ih28 v1 v2 v3 v4 x_13 u_6 _ _ _ (lv_sub hl [2, 3, 4, 5, 6, 0] rfl) hH hF
              · rw [if_neg c_12] at hF
                refine lv_aload_n hx hb dX13_struck_57 rfl (lv_at hl 1 rfl) ?_
                refine lv_iload_n hx hb dX13_struck_58 rfl (lv_at hl 2 rfl) ?_
                refine lv_iload hx hb dX13_struck_59 (lv_at hl 6 rfl) ?_
                refine lv_iconst (v := 0) hx hb dX13_struck_61 (by decide) ?_
                obtain ⟨r_15, u_16, h_17, hF⟩ := ob_some hF
                refine mcV_i (As := [.int v1, .int v5, .int 0]) (rest := []) hC hH (m_sideOf l G Z Q u_6 u_16 r_15 v1 v5 0 _ h_17) kwX13_sideOf kVX13_sideOf ⟨Nat.le_of_ble_eq_true rfl, Nat.le_of_ble_eq_true rfl⟩ rfl hl.1 rfl (Nat.le_of_ble_eq_true rfl) dX13_struck_62 (fun H locs hH => ?_)
                refine lv_aload_n hx hb dX13_struck_65 rfl (lv_at hl 1 rfl) ?_
                refine mg_16 hC hH dX13_struck_66 ?_
                refine lv_iload hx hb dX13_struck_69 (lv_at hl 0 rfl) ?_
                obtain ⟨g_18, hF⟩ := og_some hF
                refine ml_16 hC hH g_18 dX13_struck_71 ?_
                refine lv_icmp_ne (tgt := 96) hx hb dX13_struck_72 (by decide) (fun c_19 => ?_) (fun c_19 => ?_)
                · rw [if_neg c_19] at hF
                  refine lv_aload_n hx hb dX13_struck_96 rfl (lv_at hl 1 rfl) ?_
                  refine mg_15 hC hH dX13_struck_97 ?_
                  refine lv_iload hx hb dX13_struck_100 (lv_at hl 0 rfl) ?_
                  obtain ⟨g_20, hF⟩ := og_some hF
                  refine ml_15 hC hH g_20 dX13_struck_102 ?_
                  refine lv_iconst (v := 1) hx hb dX13_struck_103 (by decide) ?_
                  refine lv_icmp_ne (tgt := 152) hx hb dX13_struck_104 (by decide) (fun c_21 => ?_) (fun c_21 => ?_)
                  · rw [if_neg c_21] at hF
                    refine lv_aload_n hx hb dX13_struck_152 rfl (lv_at hl 1 rfl) ?_
                    refine mg_15 hC hH dX13_struck_153 ?_
                    refine lv_iload hx hb dX13_struck_156 (lv_at hl 0 rfl) ?_
                    refine lv_iconst (v := 0) hx hb dX13_struck_158 (by decide) ?_
                    obtain ⟨g_22, hF⟩ := og_some hF
                    obtain ⟨u_23, e_24, hF⟩ := lu_some hF
                    refine ms_15 hC hH e_24 g_22 dX13_struck_159 (fun H locs hH => ?_)
                    obtain ⟨x_25, e_26, hF⟩ := li_some hF
                    refine lv_iinc (v := x_25) (lv' := [(3, .int x_25), (6, .int x_9), (0, .ref (Q 72)), (1, .int v1), (2, .int v2), (4, .int v4), (5, .int v5)]) hx hb dX13_struck_160 hl (k := 4) rfl e_26 (by decide) rfl (fun ls hl => ?_)
                    refine lv_iconst (v := 1) hx hb dX13_struck_163 (by decide) ?_
                    refine lv_istore (lv' := [(4, .int 1), (3, .int x_25), (6, .int x_9), (0, .ref (Q 72)), (1, .int v1), (2, .int v2), (5, .int v5)]) hx hb dX13_struck_164 hl (by decide) rfl (fun ls hl => ?_)
                    obtain ⟨x_27, e_28, hF⟩ := li_some hF
                    refine lv_iinc (v := x_27) (lv' := [(5, .int x_27), (4, .int 1), (3, .int x_25), (6, .int x_9), (0, .ref (Q 72)), (1, .int v1), (2, .int v2)]) hx hb dX13_struck_166 hl (k := 6) rfl e_28 (by decide) rfl (fun ls hl => ?_)
                    refine lv_goto (tgt := 28) hx hb dX13_struck_169 (by decide) ?_
                    exact ih28 v1 v2 x_25 1 x_27 u_23 _ _ _ (lv_sub hl [4, 5, 6, 2, 1, 0] rfl) hH hF
                  · rw [if_pos c_21] at hF
                    refine lv_aload_n hx hb dX13_struck_107 rfl (lv_at hl 1 rfl) ?_
                    refine mg_22 hC hH dX13_struck_108 ?_
                    refine lv_aload_n hx hb dX13_struck_111 rfl (lv_at hl 1 rfl) ?_
                    refine lv_iload_n hx hb dX13_struck_112 rfl (lv_at hl 2 rfl) ?_
                    refine lv_iload hx hb dX13_struck_113 (lv_at hl 6 rfl) ?_
                    obtain ⟨r_29, u_30, h_31, hF⟩ := ob_some hF
                    refine mcV_i (As := [.int v1, .int v5]) (rest := [.ref (Q 22)]) hC hH (m_matOf l G Z Q u_16 u_30 r_29 v1 v5 _ h_31) kwX13_matOf kVX13_matOf ⟨Nat.le_of_ble_eq_true rfl, Nat.le_of_ble_eq_true rfl⟩ rfl hl.1 rfl (Nat.le_of_ble_eq_true rfl) dX13_struck_115 (fun H locs hH => ?_)
                    refine lv_iconst (v := (-1)) hx hb dX13_struck_118 (by decide) ?_
                    obtain ⟨g_32, hF⟩ := og_some hF
                    obtain ⟨u_33, e_34, hF⟩ := lu_some hF
                    refine ms_22 hC hH e_34 g_32 dX13_struck_119 (fun H locs hH => ?_)
                    refine lv_aload_n hx hb dX13_struck_120 rfl (lv_at hl 1 rfl) ?_
                    refine mg_11 hC hH dX13_struck_121 ?_
                    refine lv_aload_n hx hb dX13_struck_124 rfl (lv_at hl 1 rfl) ?_
                    refine mg_16 hC hH dX13_struck_125 ?_
                    refine lv_iload hx hb dX13_struck_128 (lv_at hl 0 rfl) ?_
                    obtain ⟨g_35, hF⟩ := og_some hF
                    refine ml_16 hC hH g_35 dX13_struck_130 ?_
                    refine lv_aload_n hx hb dX13_struck_131 rfl (lv_at hl 1 rfl) ?_
                    refine mg_3 hC hH dX13_struck_132 ?_
                    obtain ⟨g_36, hF⟩ := og_some hF
                    obtain ⟨u_37, e_38, hF⟩ := lu_some hF
                    refine ms_11 hC hH e_38 g_36 dX13_struck_135 (fun H locs hH => ?_)
                    refine lv_aload_n hx hb dX13_struck_136 rfl (lv_at hl 1 rfl) ?_
                    refine mg_11 hC hH dX13_struck_137 ?_
                    refine lv_aload_n hx hb dX13_struck_140 rfl (lv_at hl 1 rfl) ?_
                    refine mg_17 hC hH dX13_struck_141 ?_
                    refine lv_iload hx hb dX13_struck_144 (lv_at hl 0 rfl) ?_
                    obtain ⟨g_39, hF⟩ := og_some hF
                    refine ml_17 hC hH g_39 dX13_struck_146 ?_
                    refine lv_aload_n hx hb dX13_struck_147 rfl (lv_at hl 1 rfl) ?_
                    refine mg_3 hC hH dX13_struck_148 ?_
                    obtain ⟨g_40, hF⟩ := og_some hF
                    obtain ⟨u_41, e_42, hF⟩ := lu_some hF
                    refine ms_11 hC hH e_42 g_40 dX13_struck_151 (fun H locs hH => ?_)
                    refine lv_aload_n hx hb dX13_struck_152 rfl (lv_at hl 1 rfl) ?_
                    refine mg_15 hC hH dX13_struck_153 ?_
                    refine lv_iload hx hb dX13_struck_156 (lv_at hl 0 rfl) ?_
                    refine lv_iconst (v := 0) hx hb dX13_struck_158 (by decide) ?_
                    obtain ⟨g_43, hF⟩ := og_some hF
                    obtain ⟨u_44, e_45, hF⟩ := lu_some hF
                    refine ms_15 hC hH e_45 g_43 dX13_struck_159 (fun H locs hH => ?_)
                    obtain ⟨x_46, e_47, hF⟩ := li_some hF
                    refine lv_iinc (v := x_46) (lv' := [(3, .int x_46), (6, .int x_9), (0, .ref (Q 72)), (1, .int v1), (2, .int v2), (4, .int v4), (5, .int v5)]) hx hb dX13_struck_160 hl (k := 4) rfl e_47 (by decide) rfl (fun ls hl => ?_)
                    refine lv_iconst (v := 1) hx hb dX13_struck_163 (by decide) ?_
                    refine lv_istore (lv' := [(4, .int 1), (3, .int x_46), (6, .int x_9), (0, .ref (Q 72)), (1, .int v1), (2, .int v2), (5, .int v5)]) hx hb dX13_struck_164 hl (by decide) rfl (fun ls hl => ?_)
                    obtain ⟨x_48, e_49, hF⟩ := li_some hF
                    refine lv_iinc (v := x_48) (lv' := [(5, .int x_48), (4, .int 1), (3, .int x_46), (6, .int x_9), (0, .ref (Q 72)), (1, .int v1), (2, .int v2)]) hx hb dX13_struck_166 hl (k := 6) rfl e_49 (by decide) rfl (fun ls hl => ?_)
                    refine lv_goto (tgt := 28) hx hb dX13_struck_169 (by decide) ?_
                    exact ih28 v1 v2 x_46 1 x_48 u_44 _ _ _ (lv_sub hl [4, 5, 6, 2, 1, 0] rfl) hH hF
                · rw [if_pos c_19] at hF
                  refine lv_aload_n hx hb dX13_struck_75 rfl (lv_at hl 1 rfl) ?_
                  refine lv_iload_n hx hb dX13_struck_76 rfl (lv_at hl 2 rfl) ?_
                  refine lv_iload hx hb dX13_struck_77 (lv_at hl 6 rfl) ?_
                  refine lv_iconst (v := 1) hx hb dX13_struck_79 (by decide) ?_
                  obtain ⟨r_50, u_51, h_52, hF⟩ := ob_some hF
                  refine mcV_i (As := [.int v1, .int v5, .int 1]) (rest := []) hC hH (m_sideOf l G Z Q u_16 u_51 r_50 v1 v5 1 _ h_52) kwX13_sideOf kVX13_sideOf ⟨Nat.le_of_ble_eq_true rfl, Nat.le_of_ble_eq_true rfl⟩ rfl hl.1 rfl (Nat.le_of_ble_eq_true rfl) dX13_struck_80 (fun H locs hH => ?_)
                  refine lv_aload_n hx hb dX13_struck_83 rfl (lv_at hl 1 rfl) ?_
                  refine mg_17 hC hH dX13_struck_84 ?_
                  refine lv_iload hx hb dX13_struck_87 (lv_at hl 0 rfl) ?_
                  obtain ⟨g_53, hF⟩ := og_some hF
                  refine ml_17 hC hH g_53 dX13_struck_89 ?_
                  refine lv_icmp_ne (tgt := 96) hx hb dX13_struck_90 (by decide) (fun c_54 => ?_) (fun c_54 => ?_)
                  · rw [if_neg c_54] at hF
                    refine lv_aload_n hx hb dX13_struck_96 rfl (lv_at hl 1 rfl) ?_
                    refine mg_15 hC hH dX13_struck_97 ?_
                    refine lv_iload hx hb dX13_struck_100 (lv_at hl 0 rfl) ?_
                    obtain ⟨g_55, hF⟩ := og_some hF
                    refine ml_15 hC hH g_55 dX13_struck_102 ?_
                    refine lv_iconst (v := 1) hx hb dX13_struck_103 (by decide) ?_
                    refine lv_icmp_ne (tgt := 152) hx hb dX13_struck_104 (by decide) (fun c_56 => ?_) (fun c_56 => ?_)
                    · rw [if_neg c_56] at hF
                      refine lv_aload_n hx hb dX13_struck_152 rfl (lv_at hl 1 rfl) ?_
                      refine mg_15 hC hH dX13_struck_153 ?_
                      refine lv_iload hx hb dX13_struck_156 (lv_at hl 0 rfl) ?_
                      refine lv_iconst (v := 0) hx hb dX13_struck_158 (by decide) ?_
                      obtain ⟨g_57, hF⟩ := og_some hF
                      obtain ⟨u_58, e_59, hF⟩ := lu_some hF
                      refine ms_15 hC hH e_59 g_57 dX13_struck_159 (fun H locs hH => ?_)
                      obtain ⟨x_60, e_61, hF⟩ := li_some hF
                      refine lv_iinc (v := x_60) (lv' := [(3, .int x_60), (6, .int x_9), (0, .ref (Q 72)), (1, .int v1), (2, .int v2), (4, .int v4), (5, .int v5)]) hx hb dX13_struck_160 hl (k := 4) rfl e_61 (by decide) rfl (fun ls hl => ?_)
                      refine lv_iconst (v := 1) hx hb dX13_struck_163 (by decide) ?_
                      refine lv_istore (lv' := [(4, .int 1), (3, .int x_60), (6, .int x_9), (0, .ref (Q 72)), (1, .int v1), (2, .int v2), (5, .int v5)]) hx hb dX13_struck_164 hl (by decide) rfl (fun ls hl => ?_)
                      obtain ⟨x_62, e_63, hF⟩ := li_some hF
                      refine lv_iinc (v := x_62) (lv' := [(5, .int x_62), (4, .int 1), (3, .int x_60), (6, .int x_9), (0, .ref (Q 72)), (1, .int v1), (2, .int v2)]) hx hb dX13_struck_166 hl (k := 6) rfl e_63 (by decide) rfl (fun ls hl => ?_)
                      refine lv_goto (tgt := 28) hx hb dX13_struck_169 (by decide) ?_
                      exact ih28 v1 v2 x_60 1 x_62 u_58 _ _ _ (lv_sub hl [4, 5, 6, 2, 1, 0] rfl) hH hF
                    · rw [if_pos c_56] at hF
                      refine lv_aload_n hx hb dX13_struck_107 rfl (lv_at hl 1 rfl) ?_
                      refine mg_22 hC hH dX13_struck_108 ?_
                      refine lv_aload_n hx hb dX13_struck_111 rfl (lv_at hl 1 rfl) ?_
                      refine lv_iload_n hx hb dX13_struck_112 rfl (lv_at hl 2 rfl) ?_
                      refine lv_iload hx hb dX13_struck_113 (lv_at hl 6 rfl) ?_
                      obtain ⟨r_64, u_65, h_66, hF⟩ := ob_some hF
                      refine mcV_i (As := [.int v1, .int v5]) (rest := [.ref (Q 22)]) hC hH (m_matOf l G Z Q u_51 u_65 r_64 v1 v5 _ h_66) kwX13_matOf kVX13_matOf ⟨Nat.le_of_ble_eq_true rfl, Nat.le_of_ble_eq_true rfl⟩ rfl hl.1 rfl (Nat.le_of_ble_eq_true rfl) dX13_struck_115 (fun H locs hH => ?_)
                      refine lv_iconst (v := (-1)) hx hb dX13_struck_118 (by decide) ?_
                      obtain ⟨g_67, hF⟩ := og_some hF
                      obtain ⟨u_68, e_69, hF⟩ := lu_some hF
                      refine ms_22 hC hH e_69 g_67 dX13_struck_119 (fun H locs hH => ?_)
                      refine lv_aload_n hx hb dX13_struck_120 rfl (lv_at hl 1 rfl) ?_
                      refine mg_11 hC hH dX13_struck_121 ?_
                      refine lv_aload_n hx hb dX13_struck_124 rfl (lv_at hl 1 rfl) ?_
                      refine mg_16 hC hH dX13_struck_125 ?_
                      refine lv_iload hx hb dX13_struck_128 (lv_at hl 0 rfl) ?_
                      obtain ⟨g_70, hF⟩ := og_some hF
                      refine ml_16 hC hH g_70 dX13_struck_130 ?_
                      refine lv_aload_n hx hb dX13_struck_131 rfl (lv_at hl 1 rfl) ?_
                      refine mg_3 hC hH dX13_struck_132 ?_
                      obtain ⟨g_71, hF⟩ := og_some hF
                      obtain ⟨u_72, e_73, hF⟩ := lu_some hF
                      refine ms_11 hC hH e_73 g_71 dX13_struck_135 (fun H locs hH => ?_)
                      refine lv_aload_n hx hb dX13_struck_136 rfl (lv_at hl 1 rfl) ?_
                      refine mg_11 hC hH dX13_struck_137 ?_
                      refine lv_aload_n hx hb dX13_struck_140 rfl (lv_at hl 1 rfl) ?_
                      refine mg_17 hC hH dX13_struck_141 ?_
                      refine lv_iload hx hb dX13_struck_144 (lv_at hl 0 rfl) ?_
                      obtain ⟨g_74, hF⟩ := og_some hF
                      refine ml_17 hC hH g_74 dX13_struck_146 ?_
                      refine lv_aload_n hx hb dX13_struck_147 rfl (lv_at hl 1 rfl) ?_
                      refine mg_3 hC hH dX13_struck_148 ?_
                      obtain ⟨g_75, hF⟩ := og_some hF
                      obtain ⟨u_76, e_77, hF⟩ := lu_some hF
                      refine ms_11 hC hH e_77 g_75 dX13_struck_151 (fun H locs hH => ?_)
                      refine lv_aload_n hx hb dX13_struck_152 rfl (lv_at hl 1 rfl) ?_
                      refine mg_15 hC hH dX13_struck_153 ?_
                      refine lv_iload hx hb dX13_struck_156 (lv_at hl 0 rfl) ?_
                      refine lv_iconst (v := 0) hx hb dX13_struck_158 (by decide) ?_
                      obtain ⟨g_78, hF⟩ := og_some hF
                      obtain ⟨u_79, e_80, hF⟩ := lu_some hF
                      refine ms_15 hC hH e_80 g_78 dX13_struck_159 (fun H locs hH => ?_)
                      obtain ⟨x_81, e_82, hF⟩ := li_some hF
                      refine lv_iinc (v := x_81) (lv' := [(3, .int x_81), (6, .int x_9), (0, .ref (Q 72)), (1, .int v1), (2, .int v2), (4, .int v4), (5, .int v5)]) hx hb dX13_struck_160 hl (k := 4) rfl e_82 (by decide) rfl (fun ls hl => ?_)
                      refine lv_iconst (v := 1) hx hb dX13_struck_163 (by decide) ?_
                      refine lv_istore (lv' := [(4, .int 1), (3, .int x_81), (6, .int x_9), (0, .ref (Q 72)), (1, .int v1), (2, .int v2), (5, .int v5)]) hx hb dX13_struck_164 hl (by decide) rfl (fun ls hl => ?_)
                      obtain ⟨x_83, e_84, hF⟩ := li_some hF
                      refine lv_iinc (v := x_83) (lv' := [(5, .int x_83), (4, .int 1), (3, .int x_81), (6, .int x_9), (0, .ref (Q 72)), (1, .int v1), (2, .int v2)]) hx hb dX13_struck_166 hl (k := 6) rfl e_84 (by decide) rfl (fun ls hl => ?_)
                      refine lv_goto (tgt := 28) hx hb dX13_struck_169 (by decide) ?_
                      exact ih28 v1 v2 x_81 1 x_83 u_79 _ _ _ (lv_sub hl [4, 5, 6, 2, 1, 0] rfl) hH hF
                  · rw [if_pos c_54] at hF
                    refine lv_goto (tgt := 166) hx hb dX13_struck_93 (by decide) ?_
                    obtain ⟨x_85, e_86, hF⟩ := li_some hF
                    refine lv_iinc (v := x_85) (lv' := [(5, .int x_85), (6, .int x_9), (0, .ref (Q 72)), (1, .int v1), (2, .int v2), (3, .int v3), (4, .int v4)]) hx hb dX13_struck_166 hl (k := 6) rfl e_86 (by decide) rfl (fun ls hl => ?_)
                    refine lv_goto (tgt := 28) hx hb dX13_struck_169 (by decide) ?_
                    exact ih28 v1 v2 v3 v4 x_85 u_51 _ _ _ (lv_sub hl [2, 3, 4, 5, 6, 0] rfl) hH hF
        refine hL28 _ (fun v1 v2 v3 v4 v5 u H locs ls hl hH hF => ?_) fuel v1 v2 v3 0 0 u _ _ _ (lv_sub hl [2, 3, 4, 5, 1, 0] rfl) hH hF
        refine lv_goto (tgt := 17) hx hb dX13_struck_172 (by decide) ?_
        exact ih17 v1 v2 v3 v4 u _ _ _ (lv_sub hl [0, 1, 2, 3, 4] rfl) hH hF
  refine hL17 _ (fun v1 v2 v3 v4 u H locs ls hl hH hF => ?_) fuel a0 a1 1 1 u_2 _ _ _ (lv_sub hl [2, 3, 4, 1, 0] rfl) hH hF
  refine lv_iload_n hx hb dX13_struck_175 rfl (lv_at hl 3 rfl) ?_
  exact mr_i hC hH hr hF dX13_struck_176 hlocks
