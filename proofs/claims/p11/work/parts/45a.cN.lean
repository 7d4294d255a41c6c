def x_X0_slot (a0 : Int32) (a1 : Int32) : NG Int32 := nrt ((a0 * 37) + a1)
set_option maxHeartbeats 4000000 in
set_option maxRecDepth 100000 in
theorem n_X0_slot (l : Launch) (G : gG) (Z : gC) (Q : Nat → Nat) (D : Nat × Nat) (T : va_W) (u u1 : MS) (r : Int32) (a0 : Int32) (a1 : Int32) (sz : Nat) (hF : x_X0_slot a0 a1 u = some (r, u1)) : Met l yX0_slot (Cond.code yX0_slot cX0_slot 2 (some .int) :: wK) { frames := 0, cells := 0, slots := 0, locals := 0 } (va_Pc [.int a0, .int a1] (cPM G Z Q D T u sz)) (cQi G Q T u1 r (va_A (cW G Q D T u) sz)) 0 0 (va_A (cW G Q D T u) sz) := by
  refine Met.ofW (cc := cX0_slot) (maxL := 2) (ret := (some .int)) (by decide) rfl ?_
  intro p e s m args below meth c s₁ B hml hv
  obtain ⟨rfl, rfl, hP, hB, hD0, hE⟩ := hv
  have hr := B.returns
  have hlocks := B.notSynchronized
  have hts := atoms_spec (ws := Cond.code yX0_slot cX0_slot 2 (some .int) :: wK) B.pre
  have hD := hD0.self (sz := s.heap.size)
  have hA : ∀ q : Nat, s.heap.size ≤ q → va_A (cW G Q D T u) s.heap.size q := fun q h => Or.inr h
  generalize va_A (cW G Q D T u) s.heap.size = A at hD hA hE ⊢
  have hC : cX p c cX0_slot 2 s m _ RX0 G Z A := ⟨B.exec, B.bytes, hml, findClass_of_methodNamed B.named, fun w h => hts w (List.mem_cons_of_mem _ h), hB, hE, hA⟩
  have hx := hC.1
  have hb := hC.2.1
  have hH : cH G Q D T A u s s.heap [] := ⟨hP, hD, va_S.rf⟩
  have hl := lv_entry ([.int a0, .int a1]) (n := 2) (Nat.le_of_ble_eq_true rfl)
  rw [lg_entry_eq]
  generalize (lg_sl ([.int a0, .int a1]) ++ List.replicate (2 - (lg_sl ([.int a0, .int a1])).length) Slot.unset).toArray = ls at hl ⊢
  have hl : lv_has ls 2 [(0, .int a0), (1, .int a1)] := hl
  unfold x_X0_slot at hF
  refine lv_iload_n hx hb dX0_slot_0 rfl (lv_at hl 0 rfl) ?_
  refine lv_bipush (v := 37) hx hb dX0_slot_1 (by decide) ?_
  refine lv_imul hx hb dX0_slot_3 ?_
  refine lv_iload_n hx hb dX0_slot_4 rfl (lv_at hl 1 rfl) ?_
  refine lv_iadd hx hb dX0_slot_5 ?_
  exact cr_i hC hH hr (nrt_eq hF) dX0_slot_6 hlocks
def x_X1_ofClass (a0 : Int32) (a1 : Int32) : NG Int32 := nrt ((4 + (a0 * 36)) + a1)
set_option maxHeartbeats 4000000 in
set_option maxRecDepth 100000 in
theorem n_X1_ofClass (l : Launch) (G : gG) (Z : gC) (Q : Nat → Nat) (D : Nat × Nat) (T : va_W) (u u1 : MS) (r : Int32) (a0 : Int32) (a1 : Int32) (sz : Nat) (hF : x_X1_ofClass a0 a1 u = some (r, u1)) : Met l yX1_ofClass (Cond.code yX1_ofClass cX1_ofClass 2 (some .int) :: wK) { frames := 0, cells := 0, slots := 0, locals := 0 } (va_Pc [.int a0, .int a1] (cPM G Z Q D T u sz)) (cQi G Q T u1 r (va_A (cW G Q D T u) sz)) 0 0 (va_A (cW G Q D T u) sz) := by
  refine Met.ofW (cc := cX1_ofClass) (maxL := 2) (ret := (some .int)) (by decide) rfl ?_
  intro p e s m args below meth c s₁ B hml hv
  obtain ⟨rfl, rfl, hP, hB, hD0, hE⟩ := hv
  have hr := B.returns
  have hlocks := B.notSynchronized
  have hts := atoms_spec (ws := Cond.code yX1_ofClass cX1_ofClass 2 (some .int) :: wK) B.pre
  have hD := hD0.self (sz := s.heap.size)
  have hA : ∀ q : Nat, s.heap.size ≤ q → va_A (cW G Q D T u) s.heap.size q := fun q h => Or.inr h
  generalize va_A (cW G Q D T u) s.heap.size = A at hD hA hE ⊢
  have hC : cX p c cX1_ofClass 2 s m _ RX1 G Z A := ⟨B.exec, B.bytes, hml, findClass_of_methodNamed B.named, fun w h => hts w (List.mem_cons_of_mem _ h), hB, hE, hA⟩
  have hx := hC.1
  have hb := hC.2.1
  have hH : cH G Q D T A u s s.heap [] := ⟨hP, hD, va_S.rf⟩
  have hl := lv_entry ([.int a0, .int a1]) (n := 2) (Nat.le_of_ble_eq_true rfl)
  rw [lg_entry_eq]
  generalize (lg_sl ([.int a0, .int a1]) ++ List.replicate (2 - (lg_sl ([.int a0, .int a1])).length) Slot.unset).toArray = ls at hl ⊢
  have hl : lv_has ls 2 [(0, .int a0), (1, .int a1)] := hl
  unfold x_X1_ofClass at hF
  refine lv_iconst (v := 4) hx hb dX1_ofClass_0 (by decide) ?_
  refine lv_iload_n hx hb dX1_ofClass_1 rfl (lv_at hl 0 rfl) ?_
  refine lv_bipush (v := 36) hx hb dX1_ofClass_2 (by decide) ?_
  refine lv_imul hx hb dX1_ofClass_4 ?_
  refine lv_iadd hx hb dX1_ofClass_5 ?_
  refine lv_iload_n hx hb dX1_ofClass_6 rfl (lv_at hl 1 rfl) ?_
  refine lv_iadd hx hb dX1_ofClass_7 ?_
  exact cr_i hC hH hr (nrt_eq hF) dX1_ofClass_8 hlocks
def x_X0_kindOf (a0 : Int32) : NG Int32 := ncl (x_X1_ofClass a0 2) (fun r_1 => ncl (nGT 0 2088 r_1) (fun x_4 => nrt x_4))
set_option maxHeartbeats 4000000 in
set_option maxRecDepth 100000 in
theorem n_X0_kindOf (l : Launch) (G : gG) (Z : gC) (Q : Nat → Nat) (D : Nat × Nat) (T : va_W) (u u1 : MS) (r : Int32) (a0 : Int32) (sz : Nat) (hF : x_X0_kindOf a0 u = some (r, u1)) : Met l yX0_kindOf (Cond.code yX0_kindOf cX0_kindOf 2 (some .int) :: wK) { frames := 1, cells := 0, slots := 0, locals := 22 } (va_Pc [.ref (Q 6), .int a0] (cPM G Z Q D T u sz)) (cQi G Q T u1 r (va_A (cW G Q D T u) sz)) 0 0 (va_A (cW G Q D T u) sz) := by
  refine Met.ofW (cc := cX0_kindOf) (maxL := 2) (ret := (some .int)) (by decide) rfl ?_
  intro p e s m args below meth c s₁ B hml hv
  obtain ⟨rfl, rfl, hP, hB, hD0, hE⟩ := hv
  have hr := B.returns
  have hlocks := B.notSynchronized
  have hts := atoms_spec (ws := Cond.code yX0_kindOf cX0_kindOf 2 (some .int) :: wK) B.pre
  have hD := hD0.self (sz := s.heap.size)
  have hA : ∀ q : Nat, s.heap.size ≤ q → va_A (cW G Q D T u) s.heap.size q := fun q h => Or.inr h
  generalize va_A (cW G Q D T u) s.heap.size = A at hD hA hE ⊢
  have hC : cX p c cX0_kindOf 2 s m _ RX0 G Z A := ⟨B.exec, B.bytes, hml, findClass_of_methodNamed B.named, fun w h => hts w (List.mem_cons_of_mem _ h), hB, hE, hA⟩
  have hx := hC.1
  have hb := hC.2.1
  have hH : cH G Q D T A u s s.heap [] := ⟨hP, hD, va_S.rf⟩
  have hl := lv_entry ([.ref (Q 6), .int a0]) (n := 2) (Nat.le_of_ble_eq_true rfl)
  rw [lg_entry_eq]
  generalize (lg_sl ([.ref (Q 6), .int a0]) ++ List.replicate (2 - (lg_sl ([.ref (Q 6), .int a0])).length) Slot.unset).toArray = ls at hl ⊢
  have hl : lv_has ls 2 [(0, .ref (Q 6)), (1, .int a0)] := hl
  unfold x_X0_kindOf at hF
  refine lv_aload_n hx hb dX0_kindOf_0 rfl (lv_at hl 0 rfl) ?_
  refine cg_X0_11 hC hH dX0_kindOf_1 ?_
  refine lv_iload_n hx hb dX0_kindOf_4 rfl (lv_at hl 1 rfl) ?_
  refine lv_iconst (v := 2) hx hb dX0_kindOf_5 (by decide) ?_
  obtain ⟨r_1, u_2, h_3, hF⟩ := ncl_some hF
  refine ccS_i (As := [.int a0, .int 2]) (rest := [.ref (Q 1)]) hC hH (n_X1_ofClass l G Z Q _ T u u_2 r_1 a0 2 _ h_3) ⟨wkc_X1_ofClass, wka212, wka435, wka745⟩ kSX1_ofClass ⟨Nat.le_of_ble_eq_true rfl, Nat.le_of_ble_eq_true rfl⟩ rfl hl.1 rfl (Nat.le_of_ble_eq_true rfl) dX0_kindOf_6 (fun D H locs hH => ?_)
  refine bat (i := 1) (j := 11) hC hH rfl rfl (by decide) wka213 ⟨Nat.le_of_ble_eq_true rfl, Nat.le_of_ble_eq_true rfl⟩ hl.1 (Nat.le_of_ble_eq_true rfl) ⟨Nat.zero_le _, Nat.zero_le _⟩ dX0_kindOf_9 ?_
  obtain ⟨x_4, u_5, h_6, hF⟩ := ncl_some hF
  obtain ⟨e_7, rfl⟩ := nGT_eq h_6
  refine gx_ti e_7 ?_
  exact cr_i hC hH hr (nrt_eq hF) dX0_kindOf_12 hlocks
def x_X0_sizeOf (a0 : Int32) : NG Int32 := ncl (x_X1_ofClass a0 3) (fun r_1 => ncl (nGT 0 2088 r_1) (fun x_4 => nrt x_4))
set_option maxHeartbeats 4000000 in
set_option maxRecDepth 100000 in
theorem n_X0_sizeOf (l : Launch) (G : gG) (Z : gC) (Q : Nat → Nat) (D : Nat × Nat) (T : va_W) (u u1 : MS) (r : Int32) (a0 : Int32) (sz : Nat) (hF : x_X0_sizeOf a0 u = some (r, u1)) : Met l yX0_sizeOf (Cond.code yX0_sizeOf cX0_sizeOf 2 (some .int) :: wK) { frames := 1, cells := 0, slots := 0, locals := 22 } (va_Pc [.ref (Q 6), .int a0] (cPM G Z Q D T u sz)) (cQi G Q T u1 r (va_A (cW G Q D T u) sz)) 0 0 (va_A (cW G Q D T u) sz) := by
  refine Met.ofW (cc := cX0_sizeOf) (maxL := 2) (ret := (some .int)) (by decide) rfl ?_
  intro p e s m args below meth c s₁ B hml hv
  obtain ⟨rfl, rfl, hP, hB, hD0, hE⟩ := hv
  have hr := B.returns
  have hlocks := B.notSynchronized
  have hts := atoms_spec (ws := Cond.code yX0_sizeOf cX0_sizeOf 2 (some .int) :: wK) B.pre
  have hD := hD0.self (sz := s.heap.size)
  have hA : ∀ q : Nat, s.heap.size ≤ q → va_A (cW G Q D T u) s.heap.size q := fun q h => Or.inr h
  generalize va_A (cW G Q D T u) s.heap.size = A at hD hA hE ⊢
  have hC : cX p c cX0_sizeOf 2 s m _ RX0 G Z A := ⟨B.exec, B.bytes, hml, findClass_of_methodNamed B.named, fun w h => hts w (List.mem_cons_of_mem _ h), hB, hE, hA⟩
  have hx := hC.1
  have hb := hC.2.1
  have hH : cH G Q D T A u s s.heap [] := ⟨hP, hD, va_S.rf⟩
  have hl := lv_entry ([.ref (Q 6), .int a0]) (n := 2) (Nat.le_of_ble_eq_true rfl)
  rw [lg_entry_eq]
  generalize (lg_sl ([.ref (Q 6), .int a0]) ++ List.replicate (2 - (lg_sl ([.ref (Q 6), .int a0])).length) Slot.unset).toArray = ls at hl ⊢
  have hl : lv_has ls 2 [(0, .ref (Q 6)), (1, .int a0)] := hl
  unfold x_X0_sizeOf at hF
  refine lv_aload_n hx hb dX0_sizeOf_0 rfl (lv_at hl 0 rfl) ?_
  refine cg_X0_11 hC hH dX0_sizeOf_1 ?_
  refine lv_iload_n hx hb dX0_sizeOf_4 rfl (lv_at hl 1 rfl) ?_
  refine lv_iconst (v := 3) hx hb dX0_sizeOf_5 (by decide) ?_
  obtain ⟨r_1, u_2, h_3, hF⟩ := ncl_some hF
  refine ccS_i (As := [.int a0, .int 3]) (rest := [.ref (Q 1)]) hC hH (n_X1_ofClass l G Z Q _ T u u_2 r_1 a0 3 _ h_3) ⟨wkc_X1_ofClass, wka212, wka435, wka745⟩ kSX1_ofClass ⟨Nat.le_of_ble_eq_true rfl, Nat.le_of_ble_eq_true rfl⟩ rfl hl.1 rfl (Nat.le_of_ble_eq_true rfl) dX0_sizeOf_6 (fun D H locs hH => ?_)
  refine bat (i := 1) (j := 11) hC hH rfl rfl (by decide) wka213 ⟨Nat.le_of_ble_eq_true rfl, Nat.le_of_ble_eq_true rfl⟩ hl.1 (Nat.le_of_ble_eq_true rfl) ⟨Nat.zero_le _, Nat.zero_le _⟩ dX0_sizeOf_9 ?_
  obtain ⟨x_4, u_5, h_6, hF⟩ := ncl_some hF
  obtain ⟨e_7, rfl⟩ := nGT_eq h_6
  refine gx_ti e_7 ?_
  exact cr_i hC hH hr (nrt_eq hF) dX0_sizeOf_12 hlocks
def x_X0_isDrawn (a0 : Int32) : NG Int32 := ncl (x_X0_kindOf a0) (fun r_1 => (if r_1 = 0 then nrt 0 else nrt 1))
set_option maxHeartbeats 4000000 in
set_option maxRecDepth 100000 in
theorem n_X0_isDrawn (l : Launch) (G : gG) (Z : gC) (Q : Nat → Nat) (D : Nat × Nat) (T : va_W) (u u1 : MS) (r : Int32) (a0 : Int32) (sz : Nat) (hF : x_X0_isDrawn a0 u = some (r, u1)) : Met l yX0_isDrawn (Cond.code yX0_isDrawn cX0_isDrawn 2 (some .boolean) :: wK) { frames := 2, cells := 0, slots := 0, locals := 43 } (va_Pc [.ref (Q 6), .int a0] (cPM G Z Q D T u sz)) (cQi G Q T u1 r (va_A (cW G Q D T u) sz)) 0 0 (va_A (cW G Q D T u) sz) := by
  refine Met.ofW (cc := cX0_isDrawn) (maxL := 2) (ret := (some .boolean)) (by decide) rfl ?_
  intro p e s m args below meth c s₁ B hml hv
  obtain ⟨rfl, rfl, hP, hB, hD0, hE⟩ := hv
  have hr := B.returns
  have hlocks := B.notSynchronized
  have hts := atoms_spec (ws := Cond.code yX0_isDrawn cX0_isDrawn 2 (some .boolean) :: wK) B.pre
  have hD := hD0.self (sz := s.heap.size)
  have hA : ∀ q : Nat, s.heap.size ≤ q → va_A (cW G Q D T u) s.heap.size q := fun q h => Or.inr h
  generalize va_A (cW G Q D T u) s.heap.size = A at hD hA hE ⊢
  have hC : cX p c cX0_isDrawn 2 s m _ RX0 G Z A := ⟨B.exec, B.bytes, hml, findClass_of_methodNamed B.named, fun w h => hts w (List.mem_cons_of_mem _ h), hB, hE, hA⟩
  have hx := hC.1
  have hb := hC.2.1
  have hH : cH G Q D T A u s s.heap [] := ⟨hP, hD, va_S.rf⟩
  have hl := lv_entry ([.ref (Q 6), .int a0]) (n := 2) (Nat.le_of_ble_eq_true rfl)
  rw [lg_entry_eq]
  generalize (lg_sl ([.ref (Q 6), .int a0]) ++ List.replicate (2 - (lg_sl ([.ref (Q 6), .int a0])).length) Slot.unset).toArray = ls at hl ⊢
  have hl : lv_has ls 2 [(0, .ref (Q 6)), (1, .int a0)] := hl
  unfold x_X0_isDrawn at hF
  refine lv_aload_n hx hb dX0_isDrawn_0 rfl (lv_at hl 0 rfl) ?_
  refine lv_iload_n hx hb dX0_isDrawn_1 rfl (lv_at hl 1 rfl) ?_
  obtain ⟨r_1, u_2, h_3, hF⟩ := ncl_some hF
  refine ccV_i (q0 := 6) (As := [.int a0]) (rest := []) hC hH (n_X0_kindOf l G Z Q _ T u u_2 r_1 a0 _ h_3) rfl rfl ⟨wkc_X0_kindOf, wka211, wka388, wka389, wka744⟩ kVX0_kindOf ⟨Nat.le_of_ble_eq_true rfl, Nat.le_of_ble_eq_true rfl⟩ rfl hl.1 rfl (Nat.le_of_ble_eq_true rfl) dX0_isDrawn_2 (fun D H locs hH => ?_)
  refine lv_if_eq (tgt := 12) hx hb dX0_isDrawn_5 (by decide) (fun c_4 => ?_) (fun c_4 => ?_)
  · rw [if_pos c_4] at hF
    refine lv_iconst (v := 0) hx hb dX0_isDrawn_12 (by decide) ?_
    exact cr_z hC hH hr rfl (nrt_eq hF) dX0_isDrawn_13 hlocks
  · rw [if_neg c_4] at hF
    refine lv_iconst (v := 1) hx hb dX0_isDrawn_8 (by decide) ?_
    refine lv_goto (tgt := 13) hx hb dX0_isDrawn_9 (by decide) ?_
    exact cr_z hC hH hr rfl (nrt_eq hF) dX0_isDrawn_13 hlocks
def x_X0_onPlace (a0 : Int32) (a1 : Int32) : NG Int32 := ncl (x_X0_kindOf a0) (fun r_1 => (if r_1 = 2 then (if a1 < 0 then (if (0 : Int32) = 0 then nrt (-1) else ncl (x_X1_ofClass a0 (4 + a1)) (fun r_15 => ncl (nGT 0 2088 r_15) (fun x_18 => nrt x_18))) else ncl (x_X0_sizeOf a0) (fun r_22 => (if r_22 ≤ a1 then (if (0 : Int32) = 0 then nrt (-1) else ncl (x_X1_ofClass a0 (4 + a1)) (fun r_27 => ncl (nGT 0 2088 r_27) (fun x_30 => nrt x_30))) else (if (1 : Int32) = 0 then nrt (-1) else ncl (x_X1_ofClass a0 (4 + a1)) (fun r_35 => ncl (nGT 0 2088 r_35) (fun x_38 => nrt x_38)))))) else (if (0 : Int32) = 0 then nrt (-1) else ncl (x_X1_ofClass a0 (4 + a1)) (fun r_6 => ncl (nGT 0 2088 r_6) (fun x_9 => nrt x_9)))))
set_option maxHeartbeats 4000000 in
set_option maxRecDepth 100000 in
theorem n_X0_onPlace (l : Launch) (G : gG) (Z : gC) (Q : Nat → Nat) (D : Nat × Nat) (T : va_W) (u u1 : MS) (r : Int32) (a0 : Int32) (a1 : Int32) (sz : Nat) (hF : x_X0_onPlace a0 a1 u = some (r, u1)) : Met l yX0_onPlace (Cond.code yX0_onPlace cX0_onPlace 4 (some .int) :: wK) { frames := 2, cells := 0, slots := 0, locals := 43 } (va_Pc [.ref (Q 6), .int a0, .int a1] (cPM G Z Q D T u sz)) (cQi G Q T u1 r (va_A (cW G Q D T u) sz)) 0 0 (va_A (cW G Q D T u) sz) := by
  refine Met.ofW (cc := cX0_onPlace) (maxL := 4) (ret := (some .int)) (by decide) rfl ?_
  intro p e s m args below meth c s₁ B hml hv
  obtain ⟨rfl, rfl, hP, hB, hD0, hE⟩ := hv
  have hr := B.returns
  have hlocks := B.notSynchronized
  have hts := atoms_spec (ws := Cond.code yX0_onPlace cX0_onPlace 4 (some .int) :: wK) B.pre
  have hD := hD0.self (sz := s.heap.size)
  have hA : ∀ q : Nat, s.heap.size ≤ q → va_A (cW G Q D T u) s.heap.size q := fun q h => Or.inr h
  generalize va_A (cW G Q D T u) s.heap.size = A at hD hA hE ⊢
  have hC : cX p c cX0_onPlace 4 s m _ RX0 G Z A := ⟨B.exec, B.bytes, hml, findClass_of_methodNamed B.named, fun w h => hts w (List.mem_cons_of_mem _ h), hB, hE, hA⟩
  have hx := hC.1
  have hb := hC.2.1
  have hH : cH G Q D T A u s s.heap [] := ⟨hP, hD, va_S.rf⟩
  have hl := lv_entry ([.ref (Q 6), .int a0, .int a1]) (n := 4) (Nat.le_of_ble_eq_true rfl)
  rw [lg_entry_eq]
  generalize (lg_sl ([.ref (Q 6), .int a0, .int a1]) ++ List.replicate (4 - (lg_sl ([.ref (Q 6), .int a0, .int a1])).length) Slot.unset).toArray = ls at hl ⊢
  have hl : lv_has ls 4 [(0, .ref (Q 6)), (1, .int a0), (2, .int a1)] := hl
  unfold x_X0_onPlace at hF
  refine lv_aload_n hx hb dX0_onPlace_0 rfl (lv_at hl 0 rfl) ?_
  refine lv_iload_n hx hb dX0_onPlace_1 rfl (lv_at hl 1 rfl) ?_
  obtain ⟨r_1, u_2, h_3, hF⟩ := ncl_some hF
  refine ccV_i (q0 := 6) (As := [.int a0]) (rest := []) hC hH (n_X0_kindOf l G Z Q _ T u u_2 r_1 a0 _ h_3) rfl rfl ⟨wkc_X0_kindOf, wka211, wka388, wka389, wka744⟩ kVX0_kindOf ⟨Nat.le_of_ble_eq_true rfl, Nat.le_of_ble_eq_true rfl⟩ rfl hl.1 rfl (Nat.le_of_ble_eq_true rfl) dX0_onPlace_2 (fun D H locs hH => ?_)
  refine lv_iconst (v := 2) hx hb dX0_onPlace_5 (by decide) ?_
  refine lv_icmp_ne (tgt := 26) hx hb dX0_onPlace_6 (by decide) (fun c_4 => ?_) (fun c_4 => ?_)
  · rw [if_neg c_4] at hF
    refine lv_iconst (v := 0) hx hb dX0_onPlace_26 (by decide) ?_
    refine lv_istore_n (lv' := [(3, .int 0), (0, .ref (Q 6)), (1, .int a0), (2, .int a1)]) hx hb dX0_onPlace_27 rfl hl (by decide) rfl (fun ls hl => ?_)
    refine lv_iload_n hx hb dX0_onPlace_28 rfl (lv_at hl 0 rfl) ?_
    refine lv_if_eq (tgt := 49) hx hb dX0_onPlace_29 (by decide) (fun c_5 => ?_) (fun c_5 => ?_)
    · rw [if_pos c_5] at hF
      refine lv_iconst (v := (-1)) hx hb dX0_onPlace_49 (by decide) ?_
      exact cr_i hC hH hr (nrt_eq hF) dX0_onPlace_50 hlocks
    · rw [if_neg c_5] at hF
      refine lv_aload_n hx hb dX0_onPlace_32 rfl (lv_at hl 1 rfl) ?_
      refine cg_X0_11 hC hH dX0_onPlace_33 ?_
      refine lv_iload_n hx hb dX0_onPlace_36 rfl (lv_at hl 2 rfl) ?_
      refine lv_iconst (v := 4) hx hb dX0_onPlace_37 (by decide) ?_
      refine lv_iload_n hx hb dX0_onPlace_38 rfl (lv_at hl 3 rfl) ?_
      refine lv_iadd hx hb dX0_onPlace_39 ?_
      obtain ⟨r_6, u_7, h_8, hF⟩ := ncl_some hF
      refine ccS_i (As := [.int a0, .int (4 + a1)]) (rest := [.ref (Q 1)]) hC hH (n_X1_ofClass l G Z Q _ T u_2 u_7 r_6 a0 (4 + a1) _ h_8) ⟨wkc_X1_ofClass, wka212, wka435, wka745⟩ kSX1_ofClass ⟨Nat.le_of_ble_eq_true rfl, Nat.le_of_ble_eq_true rfl⟩ rfl hl.1 rfl (Nat.le_of_ble_eq_true rfl) dX0_onPlace_40 (fun D H locs hH => ?_)
      refine bat (i := 1) (j := 11) hC hH rfl rfl (by decide) wka213 ⟨Nat.le_of_ble_eq_true rfl, Nat.le_of_ble_eq_true rfl⟩ hl.1 (Nat.le_of_ble_eq_true rfl) ⟨Nat.zero_le _, Nat.zero_le _⟩ dX0_onPlace_43 ?_
      obtain ⟨x_9, u_10, h_11, hF⟩ := ncl_some hF
      obtain ⟨e_12, rfl⟩ := nGT_eq h_11
      refine gx_ti e_12 ?_
      refine lv_goto (tgt := 50) hx hb dX0_onPlace_46 (by decide) ?_
      exact cr_i hC hH hr (nrt_eq hF) dX0_onPlace_50 hlocks
  · rw [if_pos c_4] at hF
    refine lv_iload_n hx hb dX0_onPlace_9 rfl (lv_at hl 2 rfl) ?_
    refine lv_if_lt (tgt := 26) hx hb dX0_onPlace_10 (by decide) (fun c_13 => ?_) (fun c_13 => ?_)
    · rw [if_pos c_13] at hF
      refine lv_iconst (v := 0) hx hb dX0_onPlace_26 (by decide) ?_
      refine lv_istore_n (lv' := [(3, .int 0), (0, .ref (Q 6)), (1, .int a0), (2, .int a1)]) hx hb dX0_onPlace_27 rfl hl (by decide) rfl (fun ls hl => ?_)
      refine lv_iload_n hx hb dX0_onPlace_28 rfl (lv_at hl 0 rfl) ?_
      refine lv_if_eq (tgt := 49) hx hb dX0_onPlace_29 (by decide) (fun c_14 => ?_) (fun c_14 => ?_)
      · rw [if_pos c_14] at hF
        refine lv_iconst (v := (-1)) hx hb dX0_onPlace_49 (by decide) ?_
        exact cr_i hC hH hr (nrt_eq hF) dX0_onPlace_50 hlocks
      · rw [if_neg c_14] at hF
        refine lv_aload_n hx hb dX0_onPlace_32 rfl (lv_at hl 1 rfl) ?_
        refine cg_X0_11 hC hH dX0_onPlace_33 ?_
        refine lv_iload_n hx hb dX0_onPlace_36 rfl (lv_at hl 2 rfl) ?_
        refine lv_iconst (v := 4) hx hb dX0_onPlace_37 (by decide) ?_
        refine lv_iload_n hx hb dX0_onPlace_38 rfl (lv_at hl 3 rfl) ?_
        refine lv_iadd hx hb dX0_onPlace_39 ?_
        obtain ⟨r_15, u_16, h_17, hF⟩ := ncl_some hF
        refine ccS_i (As := [.int a0, .int (4 + a1)]) (rest := [.ref (Q 1)]) hC hH (n_X1_ofClass l G Z Q _ T u_2 u_16 r_15 a0 (4 + a1) _ h_17) ⟨wkc_X1_ofClass, wka212, wka435, wka745⟩ kSX1_ofClass ⟨Nat.le_of_ble_eq_true rfl, Nat.le_of_ble_eq_true rfl⟩ rfl hl.1 rfl (Nat.le_of_ble_eq_true rfl) dX0_onPlace_40 (fun D H locs hH => ?_)
        refine bat (i := 1) (j := 11) hC hH rfl rfl (by decide) wka213 ⟨Nat.le_of_ble_eq_true rfl, Nat.le_of_ble_eq_true rfl⟩ hl.1 (Nat.le_of_ble_eq_true rfl) ⟨Nat.zero_le _, Nat.zero_le _⟩ dX0_onPlace_43 ?_
        obtain ⟨x_18, u_19, h_20, hF⟩ := ncl_some hF
        obtain ⟨e_21, rfl⟩ := nGT_eq h_20
        refine gx_ti e_21 ?_
        refine lv_goto (tgt := 50) hx hb dX0_onPlace_46 (by decide) ?_
        exact cr_i hC hH hr (nrt_eq hF) dX0_onPlace_50 hlocks
    · rw [if_neg c_13] at hF
      refine lv_iload_n hx hb dX0_onPlace_13 rfl (lv_at hl 2 rfl) ?_
      refine lv_aload_n hx hb dX0_onPlace_14 rfl (lv_at hl 0 rfl) ?_
      refine lv_iload_n hx hb dX0_onPlace_15 rfl (lv_at hl 1 rfl) ?_
      obtain ⟨r_22, u_23, h_24, hF⟩ := ncl_some hF
      refine ccV_i (q0 := 6) (As := [.int a0]) (rest := [.int a1]) hC hH (n_X0_sizeOf l G Z Q _ T u_2 u_23 r_22 a0 _ h_24) rfl rfl ⟨wkc_X0_sizeOf, wka254, wka390, wka391, wka744⟩ kVX0_sizeOf ⟨Nat.le_of_ble_eq_true rfl, Nat.le_of_ble_eq_true rfl⟩ rfl hl.1 rfl (Nat.le_of_ble_eq_true rfl) dX0_onPlace_16 (fun D H locs hH => ?_)
      refine lv_icmp_ge (tgt := 26) hx hb dX0_onPlace_19 (by decide) (fun c_25 => ?_) (fun c_25 => ?_)
      · rw [if_pos c_25] at hF
        refine lv_iconst (v := 0) hx hb dX0_onPlace_26 (by decide) ?_
        refine lv_istore_n (lv' := [(3, .int 0), (0, .ref (Q 6)), (1, .int a0), (2, .int a1)]) hx hb dX0_onPlace_27 rfl hl (by decide) rfl (fun ls hl => ?_)
        refine lv_iload_n hx hb dX0_onPlace_28 rfl (lv_at hl 0 rfl) ?_
        refine lv_if_eq (tgt := 49) hx hb dX0_onPlace_29 (by decide) (fun c_26 => ?_) (fun c_26 => ?_)
        · rw [if_pos c_26] at hF
          refine lv_iconst (v := (-1)) hx hb dX0_onPlace_49 (by decide) ?_
          exact cr_i hC hH hr (nrt_eq hF) dX0_onPlace_50 hlocks
        · rw [if_neg c_26] at hF
          refine lv_aload_n hx hb dX0_onPlace_32 rfl (lv_at hl 1 rfl) ?_
          refine cg_X0_11 hC hH dX0_onPlace_33 ?_
          refine lv_iload_n hx hb dX0_onPlace_36 rfl (lv_at hl 2 rfl) ?_
          refine lv_iconst (v := 4) hx hb dX0_onPlace_37 (by decide) ?_
          refine lv_iload_n hx hb dX0_onPlace_38 rfl (lv_at hl 3 rfl) ?_
          refine lv_iadd hx hb dX0_onPlace_39 ?_
          obtain ⟨r_27, u_28, h_29, hF⟩ := ncl_some hF
          refine ccS_i (As := [.int a0, .int (4 + a1)]) (rest := [.ref (Q 1)]) hC hH (n_X1_ofClass l G Z Q _ T u_23 u_28 r_27 a0 (4 + a1) _ h_29) ⟨wkc_X1_ofClass, wka212, wka435, wka745⟩ kSX1_ofClass ⟨Nat.le_of_ble_eq_true rfl, Nat.le_of_ble_eq_true rfl⟩ rfl hl.1 rfl (Nat.le_of_ble_eq_true rfl) dX0_onPlace_40 (fun D H locs hH => ?_)
          refine bat (i := 1) (j := 11) hC hH rfl rfl (by decide) wka213 ⟨Nat.le_of_ble_eq_true rfl, Nat.le_of_ble_eq_true rfl⟩ hl.1 (Nat.le_of_ble_eq_true rfl) ⟨Nat.zero_le _, Nat.zero_le _⟩ dX0_onPlace_43 ?_
          obtain ⟨x_30, u_31, h_32, hF⟩ := ncl_some hF
          obtain ⟨e_33, rfl⟩ := nGT_eq h_32
          refine gx_ti e_33 ?_
          refine lv_goto (tgt := 50) hx hb dX0_onPlace_46 (by decide) ?_
          exact cr_i hC hH hr (nrt_eq hF) dX0_onPlace_50 hlocks
      · rw [if_neg c_25] at hF
        refine lv_iconst (v := 1) hx hb dX0_onPlace_22 (by decide) ?_
        refine lv_goto (tgt := 27) hx hb dX0_onPlace_23 (by decide) ?_
        refine lv_istore_n (lv' := [(3, .int 1), (0, .ref (Q 6)), (1, .int a0), (2, .int a1)]) hx hb dX0_onPlace_27 rfl hl (by decide) rfl (fun ls hl => ?_)
        refine lv_iload_n hx hb dX0_onPlace_28 rfl (lv_at hl 0 rfl) ?_
        refine lv_if_eq (tgt := 49) hx hb dX0_onPlace_29 (by decide) (fun c_34 => ?_) (fun c_34 => ?_)
        · rw [if_pos c_34] at hF
          refine lv_iconst (v := (-1)) hx hb dX0_onPlace_49 (by decide) ?_
          exact cr_i hC hH hr (nrt_eq hF) dX0_onPlace_50 hlocks
        · rw [if_neg c_34] at hF
          refine lv_aload_n hx hb dX0_onPlace_32 rfl (lv_at hl 1 rfl) ?_
          refine cg_X0_11 hC hH dX0_onPlace_33 ?_
          refine lv_iload_n hx hb dX0_onPlace_36 rfl (lv_at hl 2 rfl) ?_
          refine lv_iconst (v := 4) hx hb dX0_onPlace_37 (by decide) ?_
          refine lv_iload_n hx hb dX0_onPlace_38 rfl (lv_at hl 3 rfl) ?_
          refine lv_iadd hx hb dX0_onPlace_39 ?_
          obtain ⟨r_35, u_36, h_37, hF⟩ := ncl_some hF
          refine ccS_i (As := [.int a0, .int (4 + a1)]) (rest := [.ref (Q 1)]) hC hH (n_X1_ofClass l G Z Q _ T u_23 u_36 r_35 a0 (4 + a1) _ h_37) ⟨wkc_X1_ofClass, wka212, wka435, wka745⟩ kSX1_ofClass ⟨Nat.le_of_ble_eq_true rfl, Nat.le_of_ble_eq_true rfl⟩ rfl hl.1 rfl (Nat.le_of_ble_eq_true rfl) dX0_onPlace_40 (fun D H locs hH => ?_)
          refine bat (i := 1) (j := 11) hC hH rfl rfl (by decide) wka213 ⟨Nat.le_of_ble_eq_true rfl, Nat.le_of_ble_eq_true rfl⟩ hl.1 (Nat.le_of_ble_eq_true rfl) ⟨Nat.zero_le _, Nat.zero_le _⟩ dX0_onPlace_43 ?_
          obtain ⟨x_38, u_39, h_40, hF⟩ := ncl_some hF
          obtain ⟨e_41, rfl⟩ := nGT_eq h_40
          refine gx_ti e_41 ?_
          refine lv_goto (tgt := 50) hx hb dX0_onPlace_46 (by decide) ?_
          exact cr_i hC hH hr (nrt_eq hF) dX0_onPlace_50 hlocks
def x_X0_stepsOf (a0 : Int32) : NG Int32 := (if 8 < a0 then (if 16 < a0 then nrt 3 else nrt 2) else nrt 1)
set_option maxHeartbeats 4000000 in
set_option maxRecDepth 100000 in
theorem n_X0_stepsOf (l : Launch) (G : gG) (Z : gC) (Q : Nat → Nat) (D : Nat × Nat) (T : va_W) (u u1 : MS) (r : Int32) (a0 : Int32) (sz : Nat) (hF : x_X0_stepsOf a0 u = some (r, u1)) : Met l yX0_stepsOf (Cond.code yX0_stepsOf cX0_stepsOf 1 (some .int) :: wK) { frames := 0, cells := 0, slots := 0, locals := 0 } (va_Pc [.int a0] (cPM G Z Q D T u sz)) (cQi G Q T u1 r (va_A (cW G Q D T u) sz)) 0 0 (va_A (cW G Q D T u) sz) := by
  refine Met.ofW (cc := cX0_stepsOf) (maxL := 1) (ret := (some .int)) (by decide) rfl ?_
  intro p e s m args below meth c s₁ B hml hv
  obtain ⟨rfl, rfl, hP, hB, hD0, hE⟩ := hv
  have hr := B.returns
  have hlocks := B.notSynchronized
  have hts := atoms_spec (ws := Cond.code yX0_stepsOf cX0_stepsOf 1 (some .int) :: wK) B.pre
  have hD := hD0.self (sz := s.heap.size)
  have hA : ∀ q : Nat, s.heap.size ≤ q → va_A (cW G Q D T u) s.heap.size q := fun q h => Or.inr h
  generalize va_A (cW G Q D T u) s.heap.size = A at hD hA hE ⊢
  have hC : cX p c cX0_stepsOf 1 s m _ RX0 G Z A := ⟨B.exec, B.bytes, hml, findClass_of_methodNamed B.named, fun w h => hts w (List.mem_cons_of_mem _ h), hB, hE, hA⟩
  have hx := hC.1
  have hb := hC.2.1
  have hH : cH G Q D T A u s s.heap [] := ⟨hP, hD, va_S.rf⟩
  have hl := lv_entry ([.int a0]) (n := 1) (Nat.le_of_ble_eq_true rfl)
  rw [lg_entry_eq]
  generalize (lg_sl ([.int a0]) ++ List.replicate (1 - (lg_sl ([.int a0])).length) Slot.unset).toArray = ls at hl ⊢
  have hl : lv_has ls 1 [(0, .int a0)] := hl
  unfold x_X0_stepsOf at hF
  refine lv_iload_n hx hb dX0_stepsOf_0 rfl (lv_at hl 0 rfl) ?_
  refine lv_bipush (v := 8) hx hb dX0_stepsOf_1 (by decide) ?_
  refine lv_icmp_gt (tgt := 8) hx hb dX0_stepsOf_3 (by decide) (fun c_1 => ?_) (fun c_1 => ?_)
  · rw [if_pos c_1] at hF
    refine lv_iload_n hx hb dX0_stepsOf_8 rfl (lv_at hl 0 rfl) ?_
    refine lv_bipush (v := 16) hx hb dX0_stepsOf_9 (by decide) ?_
    refine lv_icmp_gt (tgt := 18) hx hb dX0_stepsOf_11 (by decide) (fun c_2 => ?_) (fun c_2 => ?_)
    · rw [if_pos c_2] at hF
      refine lv_iconst (v := 3) hx hb dX0_stepsOf_18 (by decide) ?_
      exact cr_i hC hH hr (nrt_eq hF) dX0_stepsOf_19 hlocks
    · rw [if_neg c_2] at hF
      refine lv_iconst (v := 2) hx hb dX0_stepsOf_14 (by decide) ?_
      refine lv_goto (tgt := 19) hx hb dX0_stepsOf_15 (by decide) ?_
      exact cr_i hC hH hr (nrt_eq hF) dX0_stepsOf_19 hlocks
  · rw [if_neg c_1] at hF
    refine lv_iconst (v := 1) hx hb dX0_stepsOf_6 (by decide) ?_
    exact cr_i hC hH hr (nrt_eq hF) dX0_stepsOf_7 hlocks
def x_X0_fightsOf (a0 : Int32) : NG Int32 := ncl (x_X0_sizeOf a0) (fun r_1 => ncl (x_X0_kindOf a0) (fun r_4 => (if r_4 = 1 then nrt ((r_1 * (r_1 - 1)) / 2) else if r_4 = 2 then ncl (x_X0_stepsOf r_1) (fun r_9 => nrt ((r_1 - 1) + (2 * r_9))) else nrt 0)))
set_option maxHeartbeats 4000000 in
set_option maxRecDepth 100000 in
theorem n_X0_fightsOf (l : Launch) (G : gG) (Z : gC) (Q : Nat → Nat) (D : Nat × Nat) (T : va_W) (u u1 : MS) (r : Int32) (a0 : Int32) (sz : Nat) (hF : x_X0_fightsOf a0 u = some (r, u1)) : Met l yX0_fightsOf (Cond.code yX0_fightsOf cX0_fightsOf 3 (some .int) :: wK) { frames := 2, cells := 0, slots := 0, locals := 43 } (va_Pc [.ref (Q 6), .int a0] (cPM G Z Q D T u sz)) (cQi G Q T u1 r (va_A (cW G Q D T u) sz)) 0 0 (va_A (cW G Q D T u) sz) := by
  refine Met.ofW (cc := cX0_fightsOf) (maxL := 3) (ret := (some .int)) (by decide) rfl ?_
  intro p e s m args below meth c s₁ B hml hv
  obtain ⟨rfl, rfl, hP, hB, hD0, hE⟩ := hv
  have hr := B.returns
  have hlocks := B.notSynchronized
  have hts := atoms_spec (ws := Cond.code yX0_fightsOf cX0_fightsOf 3 (some .int) :: wK) B.pre
  have hD := hD0.self (sz := s.heap.size)
  have hA : ∀ q : Nat, s.heap.size ≤ q → va_A (cW G Q D T u) s.heap.size q := fun q h => Or.inr h
  generalize va_A (cW G Q D T u) s.heap.size = A at hD hA hE ⊢
  have hC : cX p c cX0_fightsOf 3 s m _ RX0 G Z A := ⟨B.exec, B.bytes, hml, findClass_of_methodNamed B.named, fun w h => hts w (List.mem_cons_of_mem _ h), hB, hE, hA⟩
  have hx := hC.1
  have hb := hC.2.1
  have hH : cH G Q D T A u s s.heap [] := ⟨hP, hD, va_S.rf⟩
  have hl := lv_entry ([.ref (Q 6), .int a0]) (n := 3) (Nat.le_of_ble_eq_true rfl)
  rw [lg_entry_eq]
  generalize (lg_sl ([.ref (Q 6), .int a0]) ++ List.replicate (3 - (lg_sl ([.ref (Q 6), .int a0])).length) Slot.unset).toArray = ls at hl ⊢
  have hl : lv_has ls 3 [(0, .ref (Q 6)), (1, .int a0)] := hl
  unfold x_X0_fightsOf at hF
  refine lv_aload_n hx hb dX0_fightsOf_0 rfl (lv_at hl 0 rfl) ?_
  refine lv_iload_n hx hb dX0_fightsOf_1 rfl (lv_at hl 1 rfl) ?_
  obtain ⟨r_1, u_2, h_3, hF⟩ := ncl_some hF
  refine ccV_i (q0 := 6) (As := [.int a0]) (rest := []) hC hH (n_X0_sizeOf l G Z Q _ T u u_2 r_1 a0 _ h_3) rfl rfl ⟨wkc_X0_sizeOf, wka254, wka390, wka391, wka744⟩ kVX0_sizeOf ⟨Nat.le_of_ble_eq_true rfl, Nat.le_of_ble_eq_true rfl⟩ rfl hl.1 rfl (Nat.le_of_ble_eq_true rfl) dX0_fightsOf_2 (fun D H locs hH => ?_)
  refine lv_istore_n (lv' := [(2, .int r_1), (0, .ref (Q 6)), (1, .int a0)]) hx hb dX0_fightsOf_5 rfl hl (by decide) rfl (fun ls hl => ?_)
  refine lv_aload_n hx hb dX0_fightsOf_6 rfl (lv_at hl 1 rfl) ?_
  refine lv_iload_n hx hb dX0_fightsOf_7 rfl (lv_at hl 2 rfl) ?_
  obtain ⟨r_4, u_5, h_6, hF⟩ := ncl_some hF
  refine ccV_i (q0 := 6) (As := [.int a0]) (rest := []) hC hH (n_X0_kindOf l G Z Q _ T u_2 u_5 r_4 a0 _ h_6) rfl rfl ⟨wkc_X0_kindOf, wka211, wka388, wka389, wka744⟩ kVX0_kindOf ⟨Nat.le_of_ble_eq_true rfl, Nat.le_of_ble_eq_true rfl⟩ rfl hl.1 rfl (Nat.le_of_ble_eq_true rfl) dX0_fightsOf_8 (fun D H locs hH => ?_)
  by_cases c_7 : r_4 = 1
  · rw [if_pos c_7] at hF
    refine gx_ti (y := 1) c_7 ?_
    refine lv_lookup (off := 25) (tgt := 36) hx hb dX0_fightsOf_11 (by decide) (by decide) (by decide) ?_
    refine lv_iload_n hx hb dX0_fightsOf_36 rfl (lv_at hl 0 rfl) ?_
    refine lv_iload_n hx hb dX0_fightsOf_37 rfl (lv_at hl 0 rfl) ?_
    refine lv_iconst (v := 1) hx hb dX0_fightsOf_38 (by decide) ?_
    refine lv_isub hx hb dX0_fightsOf_39 ?_
    refine lv_imul hx hb dX0_fightsOf_40 ?_
    refine lv_iconst (v := 2) hx hb dX0_fightsOf_41 (by decide) ?_
    refine lv_idiv hx hb dX0_fightsOf_42 (by decide) ?_
    exact cr_i hC hH hr (nrt_eq hF) dX0_fightsOf_43 hlocks
  rw [if_neg c_7] at hF
  by_cases c_8 : r_4 = 2
  · rw [if_pos c_8] at hF
    refine gx_ti (y := 2) c_8 ?_
    refine lv_lookup (off := 33) (tgt := 44) hx hb dX0_fightsOf_11 (by decide) (by decide) (by decide) ?_
    refine lv_iload_n hx hb dX0_fightsOf_44 rfl (lv_at hl 0 rfl) ?_
    refine lv_iconst (v := 1) hx hb dX0_fightsOf_45 (by decide) ?_
    refine lv_isub hx hb dX0_fightsOf_46 ?_
    refine lv_iconst (v := 2) hx hb dX0_fightsOf_47 (by decide) ?_
    refine lv_iload_n hx hb dX0_fightsOf_48 rfl (lv_at hl 0 rfl) ?_
    obtain ⟨r_9, u_10, h_11, hF⟩ := ncl_some hF
    refine ccS_i (As := [.int r_1]) (rest := [.int 2, .int (r_1 - 1)]) hC hH (n_X0_stepsOf l G Z Q _ T u_5 u_10 r_9 r_1 _ h_11) ⟨wkc_X0_stepsOf, wka267, wka398, wka744⟩ kSX0_stepsOf ⟨Nat.le_of_ble_eq_true rfl, Nat.le_of_ble_eq_true rfl⟩ rfl hl.1 rfl (Nat.le_of_ble_eq_true rfl) dX0_fightsOf_49 (fun D H locs hH => ?_)
    refine lv_imul hx hb dX0_fightsOf_52 ?_
    refine lv_iadd hx hb dX0_fightsOf_53 ?_
    exact cr_i hC hH hr (nrt_eq hF) dX0_fightsOf_54 hlocks
  rw [if_neg c_8] at hF
  refine lv_lookup (off := 44) (tgt := 55) hx hb dX0_fightsOf_11 (by decide) (by show Op.lookupswitch.offset [(1, 25), (2, 33)] 44 _ = _; rw [Op.lookupswitch.offset_cons, if_neg (gl_ne c_7 (by decide)), Op.lookupswitch.offset_cons, if_neg (gl_ne c_8 (by decide))]; rfl) (by decide) ?_
  refine lv_iconst (v := 0) hx hb dX0_fightsOf_55 (by decide) ?_
  exact cr_i hC hH hr (nrt_eq hF) dX0_fightsOf_56 hlocks
def x_X11_isClass (a0 : Int32) : NG Int32 := (if a0 < 0 then nrt 0 else (if 4 ≤ a0 then nrt 0 else nrt 1))
set_option maxHeartbeats 4000000 in
set_option maxRecDepth 100000 in
theorem n_X11_isClass (l : Launch) (G : gG) (Z : gC) (Q : Nat → Nat) (D : Nat × Nat) (T : va_W) (u u1 : MS) (r : Int32) (a0 : Int32) (sz : Nat) (hF : x_X11_isClass a0 u = some (r, u1)) : Met l yX11_isClass (Cond.code yX11_isClass cX11_isClass 1 (some .boolean) :: wK) { frames := 0, cells := 0, slots := 0, locals := 0 } (va_Pc [.int a0] (cPM G Z Q D T u sz)) (cQi G Q T u1 r (va_A (cW G Q D T u) sz)) 0 0 (va_A (cW G Q D T u) sz) := by
  refine Met.ofW (cc := cX11_isClass) (maxL := 1) (ret := (some .boolean)) (by decide) rfl ?_
  intro p e s m args below meth c s₁ B hml hv
  obtain ⟨rfl, rfl, hP, hB, hD0, hE⟩ := hv
  have hr := B.returns
  have hlocks := B.notSynchronized
  have hts := atoms_spec (ws := Cond.code yX11_isClass cX11_isClass 1 (some .boolean) :: wK) B.pre
  have hD := hD0.self (sz := s.heap.size)
  have hA : ∀ q : Nat, s.heap.size ≤ q → va_A (cW G Q D T u) s.heap.size q := fun q h => Or.inr h
  generalize va_A (cW G Q D T u) s.heap.size = A at hD hA hE ⊢
  have hC : cX p c cX11_isClass 1 s m _ RX11 G Z A := ⟨B.exec, B.bytes, hml, findClass_of_methodNamed B.named, fun w h => hts w (List.mem_cons_of_mem _ h), hB, hE, hA⟩
  have hx := hC.1
  have hb := hC.2.1
  have hH : cH G Q D T A u s s.heap [] := ⟨hP, hD, va_S.rf⟩
  have hl := lv_entry ([.int a0]) (n := 1) (Nat.le_of_ble_eq_true rfl)
  rw [lg_entry_eq]
  generalize (lg_sl ([.int a0]) ++ List.replicate (1 - (lg_sl ([.int a0])).length) Slot.unset).toArray = ls at hl ⊢
  have hl : lv_has ls 1 [(0, .int a0)] := hl
  unfold x_X11_isClass at hF
  refine lv_iload_n hx hb dX11_isClass_0 rfl (lv_at hl 0 rfl) ?_
  refine lv_if_lt (tgt := 13) hx hb dX11_isClass_1 (by decide) (fun c_1 => ?_) (fun c_1 => ?_)
  · rw [if_pos c_1] at hF
    refine lv_iconst (v := 0) hx hb dX11_isClass_13 (by decide) ?_
    exact cr_z hC hH hr rfl (nrt_eq hF) dX11_isClass_14 hlocks
  · rw [if_neg c_1] at hF
    refine lv_iload_n hx hb dX11_isClass_4 rfl (lv_at hl 0 rfl) ?_
    refine lv_iconst (v := 4) hx hb dX11_isClass_5 (by decide) ?_
    refine lv_icmp_ge (tgt := 13) hx hb dX11_isClass_6 (by decide) (fun c_2 => ?_) (fun c_2 => ?_)
    · rw [if_pos c_2] at hF
      refine lv_iconst (v := 0) hx hb dX11_isClass_13 (by decide) ?_
      exact cr_z hC hH hr rfl (nrt_eq hF) dX11_isClass_14 hlocks
    · rw [if_neg c_2] at hF
      refine lv_iconst (v := 1) hx hb dX11_isClass_9 (by decide) ?_
      refine lv_goto (tgt := 14) hx hb dX11_isClass_10 (by decide) ?_
      exact cr_z hC hH hr rfl (nrt_eq hF) dX11_isClass_14 hlocks
def x_X0_has (a0 : Int32) (a1 : Int32) : NG Int32 := ncl (x_X11_isClass a0) (fun r_1 => (if r_1 = 0 then nrt 0 else (if a1 < 0 then nrt 0 else ncl (x_X0_fightsOf a0) (fun r_6 => (if r_6 ≤ a1 then nrt 0 else nrt 1)))))
set_option maxHeartbeats 4000000 in
set_option maxRecDepth 100000 in
theorem n_X0_has (l : Launch) (G : gG) (Z : gC) (Q : Nat → Nat) (D : Nat × Nat) (T : va_W) (u u1 : MS) (r : Int32) (a0 : Int32) (a1 : Int32) (sz : Nat) (hF : x_X0_has a0 a1 u = some (r, u1)) : Met l yX0_has (Cond.code yX0_has cX0_has 3 (some .boolean) :: wK) { frames := 3, cells := 0, slots := 0, locals := 65 } (va_Pc [.ref (Q 6), .int a0, .int a1] (cPM G Z Q D T u sz)) (cQi G Q T u1 r (va_A (cW G Q D T u) sz)) 0 0 (va_A (cW G Q D T u) sz) := by
  refine Met.ofW (cc := cX0_has) (maxL := 3) (ret := (some .boolean)) (by decide) rfl ?_
  intro p e s m args below meth c s₁ B hml hv
  obtain ⟨rfl, rfl, hP, hB, hD0, hE⟩ := hv
  have hr := B.returns
  have hlocks := B.notSynchronized
  have hts := atoms_spec (ws := Cond.code yX0_has cX0_has 3 (some .boolean) :: wK) B.pre
  have hD := hD0.self (sz := s.heap.size)
  have hA : ∀ q : Nat, s.heap.size ≤ q → va_A (cW G Q D T u) s.heap.size q := fun q h => Or.inr h
  generalize va_A (cW G Q D T u) s.heap.size = A at hD hA hE ⊢
  have hC : cX p c cX0_has 3 s m _ RX0 G Z A := ⟨B.exec, B.bytes, hml, findClass_of_methodNamed B.named, fun w h => hts w (List.mem_cons_of_mem _ h), hB, hE, hA⟩
  have hx := hC.1
  have hb := hC.2.1
  have hH : cH G Q D T A u s s.heap [] := ⟨hP, hD, va_S.rf⟩
  have hl := lv_entry ([.ref (Q 6), .int a0, .int a1]) (n := 3) (Nat.le_of_ble_eq_true rfl)
  rw [lg_entry_eq]
  generalize (lg_sl ([.ref (Q 6), .int a0, .int a1]) ++ List.replicate (3 - (lg_sl ([.ref (Q 6), .int a0, .int a1])).length) Slot.unset).toArray = ls at hl ⊢
  have hl : lv_has ls 3 [(0, .ref (Q 6)), (1, .int a0), (2, .int a1)] := hl
  unfold x_X0_has at hF
  refine lv_iload_n hx hb dX0_has_0 rfl (lv_at hl 1 rfl) ?_
  obtain ⟨r_1, u_2, h_3, hF⟩ := ncl_some hF
  refine ccSN (As := [.int a0]) (rest := []) hC hH (n_X11_isClass l G Z Q _ T u u_2 r_1 a0 _ h_3) rfl rfl hl.1 rfl (Nat.le_of_ble_eq_true rfl) dX0_has_1 (fun D H locs hH => ?_)
  refine lv_if_eq (tgt := 24) hx hb dX0_has_4 (by decide) (fun c_4 => ?_) (fun c_4 => ?_)
  · rw [if_pos c_4] at hF
    refine lv_iconst (v := 0) hx hb dX0_has_24 (by decide) ?_
    exact cr_z hC hH hr rfl (nrt_eq hF) dX0_has_25 hlocks
  · rw [if_neg c_4] at hF
    refine lv_iload_n hx hb dX0_has_7 rfl (lv_at hl 2 rfl) ?_
    refine lv_if_lt (tgt := 24) hx hb dX0_has_8 (by decide) (fun c_5 => ?_) (fun c_5 => ?_)
    · rw [if_pos c_5] at hF
      refine lv_iconst (v := 0) hx hb dX0_has_24 (by decide) ?_
      exact cr_z hC hH hr rfl (nrt_eq hF) dX0_has_25 hlocks
    · rw [if_neg c_5] at hF
      refine lv_iload_n hx hb dX0_has_11 rfl (lv_at hl 2 rfl) ?_
      refine lv_aload_n hx hb dX0_has_12 rfl (lv_at hl 0 rfl) ?_
      refine lv_iload_n hx hb dX0_has_13 rfl (lv_at hl 1 rfl) ?_
      obtain ⟨r_6, u_7, h_8, hF⟩ := ncl_some hF
      refine ccV_i (q0 := 6) (As := [.int a0]) (rest := [.int a1]) hC hH (n_X0_fightsOf l G Z Q _ T u_2 u_7 r_6 a0 _ h_8) rfl rfl ⟨wkc_X0_fightsOf, wka277, wka396, wka397, wka744⟩ kVX0_fightsOf ⟨Nat.le_of_ble_eq_true rfl, Nat.le_of_ble_eq_true rfl⟩ rfl hl.1 rfl (Nat.le_of_ble_eq_true rfl) dX0_has_14 (fun D H locs hH => ?_)
      refine lv_icmp_ge (tgt := 24) hx hb dX0_has_17 (by decide) (fun c_9 => ?_) (fun c_9 => ?_)
      · rw [if_pos c_9] at hF
        refine lv_iconst (v := 0) hx hb dX0_has_24 (by decide) ?_
        exact cr_z hC hH hr rfl (nrt_eq hF) dX0_has_25 hlocks
      · rw [if_neg c_9] at hF
        refine lv_iconst (v := 1) hx hb dX0_has_20 (by decide) ?_
        refine lv_goto (tgt := 25) hx hb dX0_has_21 (by decide) ?_
        exact cr_z hC hH hr rfl (nrt_eq hF) dX0_has_25 hlocks
def x_X0_whiteOf (a0 : Int32) (a1 : Int32) : NG Int32 := ncl (x_X0_slot a0 a1) (fun r_1 => ncl (nGT 13 148 r_1) (fun x_4 => nrt x_4))
set_option maxHeartbeats 4000000 in
set_option maxRecDepth 100000 in
theorem n_X0_whiteOf (l : Launch) (G : gG) (Z : gC) (Q : Nat → Nat) (D : Nat × Nat) (T : va_W) (u u1 : MS) (r : Int32) (a0 : Int32) (a1 : Int32) (sz : Nat) (hF : x_X0_whiteOf a0 a1 u = some (r, u1)) : Met l yX0_whiteOf (Cond.code yX0_whiteOf cX0_whiteOf 3 (some .int) :: wK) { frames := 1, cells := 0, slots := 0, locals := 22 } (va_Pc [.ref (Q 6), .int a0, .int a1] (cPM G Z Q D T u sz)) (cQi G Q T u1 r (va_A (cW G Q D T u) sz)) 0 0 (va_A (cW G Q D T u) sz) := by
  refine Met.ofW (cc := cX0_whiteOf) (maxL := 3) (ret := (some .int)) (by decide) rfl ?_
  intro p e s m args below meth c s₁ B hml hv
  obtain ⟨rfl, rfl, hP, hB, hD0, hE⟩ := hv
  have hr := B.returns
  have hlocks := B.notSynchronized
  have hts := atoms_spec (ws := Cond.code yX0_whiteOf cX0_whiteOf 3 (some .int) :: wK) B.pre
  have hD := hD0.self (sz := s.heap.size)
  have hA : ∀ q : Nat, s.heap.size ≤ q → va_A (cW G Q D T u) s.heap.size q := fun q h => Or.inr h
  generalize va_A (cW G Q D T u) s.heap.size = A at hD hA hE ⊢
  have hC : cX p c cX0_whiteOf 3 s m _ RX0 G Z A := ⟨B.exec, B.bytes, hml, findClass_of_methodNamed B.named, fun w h => hts w (List.mem_cons_of_mem _ h), hB, hE, hA⟩
  have hx := hC.1
  have hb := hC.2.1
  have hH : cH G Q D T A u s s.heap [] := ⟨hP, hD, va_S.rf⟩
  have hl := lv_entry ([.ref (Q 6), .int a0, .int a1]) (n := 3) (Nat.le_of_ble_eq_true rfl)
  rw [lg_entry_eq]
  generalize (lg_sl ([.ref (Q 6), .int a0, .int a1]) ++ List.replicate (3 - (lg_sl ([.ref (Q 6), .int a0, .int a1])).length) Slot.unset).toArray = ls at hl ⊢
  have hl : lv_has ls 3 [(0, .ref (Q 6)), (1, .int a0), (2, .int a1)] := hl
  unfold x_X0_whiteOf at hF
  refine lv_aload_n hx hb dX0_whiteOf_0 rfl (lv_at hl 0 rfl) ?_
  refine cg_X0_20 hC hH dX0_whiteOf_1 ?_
  refine lv_iload_n hx hb dX0_whiteOf_4 rfl (lv_at hl 1 rfl) ?_
  refine lv_iload_n hx hb dX0_whiteOf_5 rfl (lv_at hl 2 rfl) ?_
  obtain ⟨r_1, u_2, h_3, hF⟩ := ncl_some hF
  refine ccS_i (As := [.int a0, .int a1]) (rest := [.ref (Q 44)]) hC hH (n_X0_slot l G Z Q _ T u u_2 r_1 a0 a1 _ h_3) ⟨wkc_X0_slot, wka259, wka387, wka744⟩ kSX0_slot ⟨Nat.le_of_ble_eq_true rfl, Nat.le_of_ble_eq_true rfl⟩ rfl hl.1 rfl (Nat.le_of_ble_eq_true rfl) dX0_whiteOf_6 (fun D H locs hH => ?_)
  refine rg_12 hC hH wka265 ⟨Nat.le_of_ble_eq_true rfl, Nat.le_of_ble_eq_true rfl⟩ hl.1 (Nat.le_of_ble_eq_true rfl) ⟨Nat.zero_le _, Nat.zero_le _⟩ dX0_whiteOf_9 ?_
  obtain ⟨x_4, u_5, h_6, hF⟩ := ncl_some hF
  obtain ⟨e_7, rfl⟩ := nGT_eq h_6
  refine gx_ti e_7 ?_
  exact cr_i hC hH hr (nrt_eq hF) dX0_whiteOf_12 hlocks
def x_X0_blueOf (a0 : Int32) (a1 : Int32) : NG Int32 := ncl (x_X0_slot a0 a1) (fun r_1 => ncl (nGT 14 148 r_1) (fun x_4 => nrt x_4))
set_option maxHeartbeats 4000000 in
set_option maxRecDepth 100000 in
theorem n_X0_blueOf (l : Launch) (G : gG) (Z : gC) (Q : Nat → Nat) (D : Nat × Nat) (T : va_W) (u u1 : MS) (r : Int32) (a0 : Int32) (a1 : Int32) (sz : Nat) (hF : x_X0_blueOf a0 a1 u = some (r, u1)) : Met l yX0_blueOf (Cond.code yX0_blueOf cX0_blueOf 3 (some .int) :: wK) { frames := 1, cells := 0, slots := 0, locals := 22 } (va_Pc [.ref (Q 6), .int a0, .int a1] (cPM G Z Q D T u sz)) (cQi G Q T u1 r (va_A (cW G Q D T u) sz)) 0 0 (va_A (cW G Q D T u) sz) := by
  refine Met.ofW (cc := cX0_blueOf) (maxL := 3) (ret := (some .int)) (by decide) rfl ?_
  intro p e s m args below meth c s₁ B hml hv
  obtain ⟨rfl, rfl, hP, hB, hD0, hE⟩ := hv
  have hr := B.returns
  have hlocks := B.notSynchronized
  have hts := atoms_spec (ws := Cond.code yX0_blueOf cX0_blueOf 3 (some .int) :: wK) B.pre
  have hD := hD0.self (sz := s.heap.size)
  have hA : ∀ q : Nat, s.heap.size ≤ q → va_A (cW G Q D T u) s.heap.size q := fun q h => Or.inr h
  generalize va_A (cW G Q D T u) s.heap.size = A at hD hA hE ⊢
  have hC : cX p c cX0_blueOf 3 s m _ RX0 G Z A := ⟨B.exec, B.bytes, hml, findClass_of_methodNamed B.named, fun w h => hts w (List.mem_cons_of_mem _ h), hB, hE, hA⟩
  have hx := hC.1
  have hb := hC.2.1
  have hH : cH G Q D T A u s s.heap [] := ⟨hP, hD, va_S.rf⟩
  have hl := lv_entry ([.ref (Q 6), .int a0, .int a1]) (n := 3) (Nat.le_of_ble_eq_true rfl)
  rw [lg_entry_eq]
  generalize (lg_sl ([.ref (Q 6), .int a0, .int a1]) ++ List.replicate (3 - (lg_sl ([.ref (Q 6), .int a0, .int a1])).length) Slot.unset).toArray = ls at hl ⊢
  have hl : lv_has ls 3 [(0, .ref (Q 6)), (1, .int a0), (2, .int a1)] := hl
  unfold x_X0_blueOf at hF
  refine lv_aload_n hx hb dX0_blueOf_0 rfl (lv_at hl 0 rfl) ?_
  refine cg_X0_24 hC hH dX0_blueOf_1 ?_
  refine lv_iload_n hx hb dX0_blueOf_4 rfl (lv_at hl 1 rfl) ?_
  refine lv_iload_n hx hb dX0_blueOf_5 rfl (lv_at hl 2 rfl) ?_
  obtain ⟨r_1, u_2, h_3, hF⟩ := ncl_some hF
  refine ccS_i (As := [.int a0, .int a1]) (rest := [.ref (Q 46)]) hC hH (n_X0_slot l G Z Q _ T u u_2 r_1 a0 a1 _ h_3) ⟨wkc_X0_slot, wka259, wka387, wka744⟩ kSX0_slot ⟨Nat.le_of_ble_eq_true rfl, Nat.le_of_ble_eq_true rfl⟩ rfl hl.1 rfl (Nat.le_of_ble_eq_true rfl) dX0_blueOf_6 (fun D H locs hH => ?_)
  refine rg_13 hC hH wka265 ⟨Nat.le_of_ble_eq_true rfl, Nat.le_of_ble_eq_true rfl⟩ hl.1 (Nat.le_of_ble_eq_true rfl) ⟨Nat.zero_le _, Nat.zero_le _⟩ dX0_blueOf_9 ?_
  obtain ⟨x_4, u_5, h_6, hF⟩ := ncl_some hF
  obtain ⟨e_7, rfl⟩ := nGT_eq h_6
  refine gx_ti e_7 ?_
  exact cr_i hC hH hr (nrt_eq hF) dX0_blueOf_12 hlocks
def x_X0_winnerOf (a0 : Int32) (a1 : Int32) : NG Int32 := ncl (x_X0_slot a0 a1) (fun r_1 => ncl (nGT 15 148 r_1) (fun x_4 => nrt x_4))
set_option maxHeartbeats 4000000 in
set_option maxRecDepth 100000 in
theorem n_X0_winnerOf (l : Launch) (G : gG) (Z : gC) (Q : Nat → Nat) (D : Nat × Nat) (T : va_W) (u u1 : MS) (r : Int32) (a0 : Int32) (a1 : Int32) (sz : Nat) (hF : x_X0_winnerOf a0 a1 u = some (r, u1)) : Met l yX0_winnerOf (Cond.code yX0_winnerOf cX0_winnerOf 3 (some .int) :: wK) { frames := 1, cells := 0, slots := 0, locals := 22 } (va_Pc [.ref (Q 6), .int a0, .int a1] (cPM G Z Q D T u sz)) (cQi G Q T u1 r (va_A (cW G Q D T u) sz)) 0 0 (va_A (cW G Q D T u) sz) := by
  refine Met.ofW (cc := cX0_winnerOf) (maxL := 3) (ret := (some .int)) (by decide) rfl ?_
  intro p e s m args below meth c s₁ B hml hv
  obtain ⟨rfl, rfl, hP, hB, hD0, hE⟩ := hv
  have hr := B.returns
  have hlocks := B.notSynchronized
  have hts := atoms_spec (ws := Cond.code yX0_winnerOf cX0_winnerOf 3 (some .int) :: wK) B.pre
  have hD := hD0.self (sz := s.heap.size)
  have hA : ∀ q : Nat, s.heap.size ≤ q → va_A (cW G Q D T u) s.heap.size q := fun q h => Or.inr h
  generalize va_A (cW G Q D T u) s.heap.size = A at hD hA hE ⊢
  have hC : cX p c cX0_winnerOf 3 s m _ RX0 G Z A := ⟨B.exec, B.bytes, hml, findClass_of_methodNamed B.named, fun w h => hts w (List.mem_cons_of_mem _ h), hB, hE, hA⟩
  have hx := hC.1
  have hb := hC.2.1
  have hH : cH G Q D T A u s s.heap [] := ⟨hP, hD, va_S.rf⟩
  have hl := lv_entry ([.ref (Q 6), .int a0, .int a1]) (n := 3) (Nat.le_of_ble_eq_true rfl)
  rw [lg_entry_eq]
  generalize (lg_sl ([.ref (Q 6), .int a0, .int a1]) ++ List.replicate (3 - (lg_sl ([.ref (Q 6), .int a0, .int a1])).length) Slot.unset).toArray = ls at hl ⊢
  have hl : lv_has ls 3 [(0, .ref (Q 6)), (1, .int a0), (2, .int a1)] := hl
  unfold x_X0_winnerOf at hF
  refine lv_aload_n hx hb dX0_winnerOf_0 rfl (lv_at hl 0 rfl) ?_
  refine cg_X0_27 hC hH dX0_winnerOf_1 ?_
  refine lv_iload_n hx hb dX0_winnerOf_4 rfl (lv_at hl 1 rfl) ?_
  refine lv_iload_n hx hb dX0_winnerOf_5 rfl (lv_at hl 2 rfl) ?_
  obtain ⟨r_1, u_2, h_3, hF⟩ := ncl_some hF
  refine ccS_i (As := [.int a0, .int a1]) (rest := [.ref (Q 48)]) hC hH (n_X0_slot l G Z Q _ T u u_2 r_1 a0 a1 _ h_3) ⟨wkc_X0_slot, wka259, wka387, wka744⟩ kSX0_slot ⟨Nat.le_of_ble_eq_true rfl, Nat.le_of_ble_eq_true rfl⟩ rfl hl.1 rfl (Nat.le_of_ble_eq_true rfl) dX0_winnerOf_6 (fun D H locs hH => ?_)
  refine rg_14 hC hH wka265 ⟨Nat.le_of_ble_eq_true rfl, Nat.le_of_ble_eq_true rfl⟩ hl.1 (Nat.le_of_ble_eq_true rfl) ⟨Nat.zero_le _, Nat.zero_le _⟩ dX0_winnerOf_9 ?_
  obtain ⟨x_4, u_5, h_6, hF⟩ := ncl_some hF
  obtain ⟨e_7, rfl⟩ := nGT_eq h_6
  refine gx_ti e_7 ?_
  exact cr_i hC hH hr (nrt_eq hF) dX0_winnerOf_12 hlocks
def x_X0_stateOf (a0 : Int32) (a1 : Int32) : NG Int32 := ncl (x_X0_slot a0 a1) (fun r_1 => ncl (nGT 16 148 r_1) (fun x_4 => nrt x_4))
set_option maxHeartbeats 4000000 in
set_option maxRecDepth 100000 in
theorem n_X0_stateOf (l : Launch) (G : gG) (Z : gC) (Q : Nat → Nat) (D : Nat × Nat) (T : va_W) (u u1 : MS) (r : Int32) (a0 : Int32) (a1 : Int32) (sz : Nat) (hF : x_X0_stateOf a0 a1 u = some (r, u1)) : Met l yX0_stateOf (Cond.code yX0_stateOf cX0_stateOf 3 (some .int) :: wK) { frames := 1, cells := 0, slots := 0, locals := 22 } (va_Pc [.ref (Q 6), .int a0, .int a1] (cPM G Z Q D T u sz)) (cQi G Q T u1 r (va_A (cW G Q D T u) sz)) 0 0 (va_A (cW G Q D T u) sz) := by
  refine Met.ofW (cc := cX0_stateOf) (maxL := 3) (ret := (some .int)) (by decide) rfl ?_
  intro p e s m args below meth c s₁ B hml hv
  obtain ⟨rfl, rfl, hP, hB, hD0, hE⟩ := hv
  have hr := B.returns
  have hlocks := B.notSynchronized
  have hts := atoms_spec (ws := Cond.code yX0_stateOf cX0_stateOf 3 (some .int) :: wK) B.pre
  have hD := hD0.self (sz := s.heap.size)
  have hA : ∀ q : Nat, s.heap.size ≤ q → va_A (cW G Q D T u) s.heap.size q := fun q h => Or.inr h
  generalize va_A (cW G Q D T u) s.heap.size = A at hD hA hE ⊢
  have hC : cX p c cX0_stateOf 3 s m _ RX0 G Z A := ⟨B.exec, B.bytes, hml, findClass_of_methodNamed B.named, fun w h => hts w (List.mem_cons_of_mem _ h), hB, hE, hA⟩
  have hx := hC.1
  have hb := hC.2.1
  have hH : cH G Q D T A u s s.heap [] := ⟨hP, hD, va_S.rf⟩
  have hl := lv_entry ([.ref (Q 6), .int a0, .int a1]) (n := 3) (Nat.le_of_ble_eq_true rfl)
  rw [lg_entry_eq]
  generalize (lg_sl ([.ref (Q 6), .int a0, .int a1]) ++ List.replicate (3 - (lg_sl ([.ref (Q 6), .int a0, .int a1])).length) Slot.unset).toArray = ls at hl ⊢
  have hl : lv_has ls 3 [(0, .ref (Q 6)), (1, .int a0), (2, .int a1)] := hl
  unfold x_X0_stateOf at hF
  refine lv_aload_n hx hb dX0_stateOf_0 rfl (lv_at hl 0 rfl) ?_
  refine cg_X0_30 hC hH dX0_stateOf_1 ?_
  refine lv_iload_n hx hb dX0_stateOf_4 rfl (lv_at hl 1 rfl) ?_
  refine lv_iload_n hx hb dX0_stateOf_5 rfl (lv_at hl 2 rfl) ?_
  obtain ⟨r_1, u_2, h_3, hF⟩ := ncl_some hF
  refine ccS_i (As := [.int a0, .int a1]) (rest := [.ref (Q 50)]) hC hH (n_X0_slot l G Z Q _ T u u_2 r_1 a0 a1 _ h_3) ⟨wkc_X0_slot, wka259, wka387, wka744⟩ kSX0_slot ⟨Nat.le_of_ble_eq_true rfl, Nat.le_of_ble_eq_true rfl⟩ rfl hl.1 rfl (Nat.le_of_ble_eq_true rfl) dX0_stateOf_6 (fun D H locs hH => ?_)
  refine rg_15 hC hH wka265 ⟨Nat.le_of_ble_eq_true rfl, Nat.le_of_ble_eq_true rfl⟩ hl.1 (Nat.le_of_ble_eq_true rfl) ⟨Nat.zero_le _, Nat.zero_le _⟩ dX0_stateOf_9 ?_
  obtain ⟨x_4, u_5, h_6, hF⟩ := ncl_some hF
  obtain ⟨e_7, rfl⟩ := nGT_eq h_6
  refine gx_ti e_7 ?_
  exact cr_i hC hH hr (nrt_eq hF) dX0_stateOf_12 hlocks
def x_X0_loserOf (a0 : Int32) (a1 : Int32) : NG Int32 := ncl (x_X0_winnerOf a0 a1) (fun r_1 => (if r_1 = (-1) then nrt (-1) else ncl (x_X0_whiteOf a0 a1) (fun r_5 => (if r_5 = r_1 then ncl (x_X0_blueOf a0 a1) (fun r_12 => nrt r_12) else ncl (x_X0_whiteOf a0 a1) (fun r_9 => nrt r_9)))))
set_option maxHeartbeats 4000000 in
set_option maxRecDepth 100000 in
theorem n_X0_loserOf (l : Launch) (G : gG) (Z : gC) (Q : Nat → Nat) (D : Nat × Nat) (T : va_W) (u u1 : MS) (r : Int32) (a0 : Int32) (a1 : Int32) (sz : Nat) (hF : x_X0_loserOf a0 a1 u = some (r, u1)) : Met l yX0_loserOf (Cond.code yX0_loserOf cX0_loserOf 4 (some .int) :: wK) { frames := 2, cells := 0, slots := 0, locals := 44 } (va_Pc [.ref (Q 6), .int a0, .int a1] (cPM G Z Q D T u sz)) (cQi G Q T u1 r (va_A (cW G Q D T u) sz)) 0 0 (va_A (cW G Q D T u) sz) := by
  refine Met.ofW (cc := cX0_loserOf) (maxL := 4) (ret := (some .int)) (by decide) rfl ?_
  intro p e s m args below meth c s₁ B hml hv
  obtain ⟨rfl, rfl, hP, hB, hD0, hE⟩ := hv
  have hr := B.returns
  have hlocks := B.notSynchronized
  have hts := atoms_spec (ws := Cond.code yX0_loserOf cX0_loserOf 4 (some .int) :: wK) B.pre
  have hD := hD0.self (sz := s.heap.size)
  have hA : ∀ q : Nat, s.heap.size ≤ q → va_A (cW G Q D T u) s.heap.size q := fun q h => Or.inr h
  generalize va_A (cW G Q D T u) s.heap.size = A at hD hA hE ⊢
  have hC : cX p c cX0_loserOf 4 s m _ RX0 G Z A := ⟨B.exec, B.bytes, hml, findClass_of_methodNamed B.named, fun w h => hts w (List.mem_cons_of_mem _ h), hB, hE, hA⟩
  have hx := hC.1
  have hb := hC.2.1
  have hH : cH G Q D T A u s s.heap [] := ⟨hP, hD, va_S.rf⟩
  have hl := lv_entry ([.ref (Q 6), .int a0, .int a1]) (n := 4) (Nat.le_of_ble_eq_true rfl)
  rw [lg_entry_eq]
  generalize (lg_sl ([.ref (Q 6), .int a0, .int a1]) ++ List.replicate (4 - (lg_sl ([.ref (Q 6), .int a0, .int a1])).length) Slot.unset).toArray = ls at hl ⊢
  have hl : lv_has ls 4 [(0, .ref (Q 6)), (1, .int a0), (2, .int a1)] := hl
  unfold x_X0_loserOf at hF
  refine lv_aload_n hx hb dX0_loserOf_0 rfl (lv_at hl 0 rfl) ?_
  refine lv_iload_n hx hb dX0_loserOf_1 rfl (lv_at hl 1 rfl) ?_
  refine lv_iload_n hx hb dX0_loserOf_2 rfl (lv_at hl 2 rfl) ?_
  obtain ⟨r_1, u_2, h_3, hF⟩ := ncl_some hF
  refine ccV_i (q0 := 6) (As := [.int a0, .int a1]) (rest := []) hC hH (n_X0_winnerOf l G Z Q _ T u u_2 r_1 a0 a1 _ h_3) rfl rfl ⟨wkc_X0_winnerOf, wka264, wka405, wka406, wka744⟩ kVX0_winnerOf ⟨Nat.le_of_ble_eq_true rfl, Nat.le_of_ble_eq_true rfl⟩ rfl hl.1 rfl (Nat.le_of_ble_eq_true rfl) dX0_loserOf_3 (fun D H locs hH => ?_)
  refine lv_istore_n (lv' := [(3, .int r_1), (0, .ref (Q 6)), (1, .int a0), (2, .int a1)]) hx hb dX0_loserOf_6 rfl hl (by decide) rfl (fun ls hl => ?_)
  refine lv_iload_n hx hb dX0_loserOf_7 rfl (lv_at hl 0 rfl) ?_
  refine lv_iconst (v := (-1)) hx hb dX0_loserOf_8 (by decide) ?_
  refine lv_icmp_ne (tgt := 14) hx hb dX0_loserOf_9 (by decide) (fun c_4 => ?_) (fun c_4 => ?_)
  · rw [if_neg c_4] at hF
    refine lv_aload_n hx hb dX0_loserOf_14 rfl (lv_at hl 1 rfl) ?_
    refine lv_iload_n hx hb dX0_loserOf_15 rfl (lv_at hl 2 rfl) ?_
    refine lv_iload_n hx hb dX0_loserOf_16 rfl (lv_at hl 3 rfl) ?_
    obtain ⟨r_5, u_6, h_7, hF⟩ := ncl_some hF
    refine ccV_i (q0 := 6) (As := [.int a0, .int a1]) (rest := []) hC hH (n_X0_whiteOf l G Z Q _ T u_2 u_6 r_5 a0 a1 _ h_7) rfl rfl ⟨wkc_X0_whiteOf, wka270, wka401, wka402, wka744⟩ kVX0_whiteOf ⟨Nat.le_of_ble_eq_true rfl, Nat.le_of_ble_eq_true rfl⟩ rfl hl.1 rfl (Nat.le_of_ble_eq_true rfl) dX0_loserOf_17 (fun D H locs hH => ?_)
    refine lv_iload_n hx hb dX0_loserOf_20 rfl (lv_at hl 0 rfl) ?_
    refine lv_icmp_ne (tgt := 33) hx hb dX0_loserOf_21 (by decide) (fun c_8 => ?_) (fun c_8 => ?_)
    · rw [if_neg c_8] at hF
      refine lv_aload_n hx hb dX0_loserOf_33 rfl (lv_at hl 1 rfl) ?_
      refine lv_iload_n hx hb dX0_loserOf_34 rfl (lv_at hl 2 rfl) ?_
      refine lv_iload_n hx hb dX0_loserOf_35 rfl (lv_at hl 3 rfl) ?_
      obtain ⟨r_9, u_10, h_11, hF⟩ := ncl_some hF
      refine ccV_i (q0 := 6) (As := [.int a0, .int a1]) (rest := []) hC hH (n_X0_whiteOf l G Z Q _ T u_6 u_10 r_9 a0 a1 _ h_11) rfl rfl ⟨wkc_X0_whiteOf, wka270, wka401, wka402, wka744⟩ kVX0_whiteOf ⟨Nat.le_of_ble_eq_true rfl, Nat.le_of_ble_eq_true rfl⟩ rfl hl.1 rfl (Nat.le_of_ble_eq_true rfl) dX0_loserOf_36 (fun D H locs hH => ?_)
      exact cr_i hC hH hr (nrt_eq hF) dX0_loserOf_39 hlocks
    · rw [if_pos c_8] at hF
      refine lv_aload_n hx hb dX0_loserOf_24 rfl (lv_at hl 1 rfl) ?_
      refine lv_iload_n hx hb dX0_loserOf_25 rfl (lv_at hl 2 rfl) ?_
      refine lv_iload_n hx hb dX0_loserOf_26 rfl (lv_at hl 3 rfl) ?_
      obtain ⟨r_12, u_13, h_14, hF⟩ := ncl_some hF
      refine ccV_i (q0 := 6) (As := [.int a0, .int a1]) (rest := []) hC hH (n_X0_blueOf l G Z Q _ T u_6 u_13 r_12 a0 a1 _ h_14) rfl rfl ⟨wkc_X0_blueOf, wka271, wka403, wka404, wka744⟩ kVX0_blueOf ⟨Nat.le_of_ble_eq_true rfl, Nat.le_of_ble_eq_true rfl⟩ rfl hl.1 rfl (Nat.le_of_ble_eq_true rfl) dX0_loserOf_27 (fun D H locs hH => ?_)
      refine lv_goto (tgt := 39) hx hb dX0_loserOf_30 (by decide) ?_
      exact cr_i hC hH hr (nrt_eq hF) dX0_loserOf_39 hlocks
  · rw [if_pos c_4] at hF
    refine lv_iconst (v := (-1)) hx hb dX0_loserOf_12 (by decide) ?_
    exact cr_i hC hH hr (nrt_eq hF) dX0_loserOf_13 hlocks
def xl_X0_howMany_5 : Nat → Int32 → Int32 → Int32 → Int32 → (Int32 → Int32 → Int32 → Int32 → NG Int32) → NG Int32
  | 0, _, _, _, _, _ => fun _ => none
  | n5 + 1, v1, v2, v3, v4, K5_40 => ncl (x_X0_fightsOf v1) (fun r_1 => (if r_1 ≤ v4 then K5_40 v1 v2 v3 v4 else ncl (x_X0_stateOf v1 v4) (fun r_5 => (if r_5 = v2 then nli (v3 + 1) (fun x_13 => nli (v4 + 1) (fun x_15 => xl_X0_howMany_5 n5 v1 v2 x_13 x_15 K5_40)) else nli (v3 + 0) (fun x_9 => nli (v4 + 1) (fun x_11 => xl_X0_howMany_5 n5 v1 v2 x_9 x_11 K5_40))))))
def x_X0_howMany (a0 : Int32) (a1 : Int32) : NG Int32 := xl_X0_howMany_5 fuel a0 a1 0 0 (fun v1 v2 v3 v4 => nrt v3)
set_option maxHeartbeats 4000000 in
set_option maxRecDepth 100000 in
theorem n_X0_howMany (l : Launch) (G : gG) (Z : gC) (Q : Nat → Nat) (D : Nat × Nat) (T : va_W) (u u1 : MS) (r : Int32) (a0 : Int32) (a1 : Int32) (sz : Nat) (hF : x_X0_howMany a0 a1 u = some (r, u1)) : Met l yX0_howMany (Cond.code yX0_howMany cX0_howMany 5 (some .int) :: wK) { frames := 3, cells := 0, slots := 0, locals := 65 } (va_Pc [.ref (Q 6), .int a0, .int a1] (cPM G Z Q D T u sz)) (cQi G Q T u1 r (va_A (cW G Q D T u) sz)) 0 0 (va_A (cW G Q D T u) sz) := by
  refine Met.ofW (cc := cX0_howMany) (maxL := 5) (ret := (some .int)) (by decide) rfl ?_
  intro p e s m args below meth c s₁ B hml hv
  obtain ⟨rfl, rfl, hP, hB, hD0, hE⟩ := hv
  have hr := B.returns
  have hlocks := B.notSynchronized
  have hts := atoms_spec (ws := Cond.code yX0_howMany cX0_howMany 5 (some .int) :: wK) B.pre
  have hD := hD0.self (sz := s.heap.size)
  have hA : ∀ q : Nat, s.heap.size ≤ q → va_A (cW G Q D T u) s.heap.size q := fun q h => Or.inr h
  generalize va_A (cW G Q D T u) s.heap.size = A at hD hA hE ⊢
  have hC : cX p c cX0_howMany 5 s m _ RX0 G Z A := ⟨B.exec, B.bytes, hml, findClass_of_methodNamed B.named, fun w h => hts w (List.mem_cons_of_mem _ h), hB, hE, hA⟩
  have hx := hC.1
  have hb := hC.2.1
  have hH : cH G Q D T A u s s.heap [] := ⟨hP, hD, va_S.rf⟩
  have hl := lv_entry ([.ref (Q 6), .int a0, .int a1]) (n := 5) (Nat.le_of_ble_eq_true rfl)
  rw [lg_entry_eq]
  generalize (lg_sl ([.ref (Q 6), .int a0, .int a1]) ++ List.replicate (5 - (lg_sl ([.ref (Q 6), .int a0, .int a1])).length) Slot.unset).toArray = ls at hl ⊢
  have hl : lv_has ls 5 [(0, .ref (Q 6)), (1, .int a0), (2, .int a1)] := hl
  unfold x_X0_howMany at hF
  refine lv_iconst (v := 0) hx hb dX0_howMany_0 (by decide) ?_
  refine lv_istore_n (lv' := [(3, .int 0), (0, .ref (Q 6)), (1, .int a0), (2, .int a1)]) hx hb dX0_howMany_1 rfl hl (by decide) rfl (fun ls hl => ?_)
  refine lv_iconst (v := 0) hx hb dX0_howMany_2 (by decide) ?_
  refine lv_istore (lv' := [(4, .int 0), (3, .int 0), (0, .ref (Q 6)), (1, .int a0), (2, .int a1)]) hx hb dX0_howMany_3 hl (by decide) rfl (fun ls hl => ?_)
  have hL5 : ∀ (K5_40 : Int32 → Int32 → Int32 → Int32 → NG Int32), (∀ (v1 v2 v3 v4 : Int32) (u : MS) (D : Nat × Nat) (H : Heap) (locs : List Loc) (ls : Array Slot), lv_has ls 5 [(0, .ref (Q 6)), (1, .int v1), (2, .int v2), (3, .int v3), (4, .int v4)] → cH G Q D T A u s H locs → K5_40 v1 v2 v3 v4 u = some (r, u1) → W p l e (headSpec (Cond.code yX0_howMany cX0_howMany 5 (some .int) :: wK) { frames := 3, cells := 0, slots := 0, locals := 65 }).room s m [.ref (Q 6), .int a0, .int a1].toArray below meth c H locs 0 0 (MQ below (cQi G Q T u1 r A) [.ref (Q 6), .int a0, .int a1].toArray s 0 0 A) (F0 m 40 ls [])) → ∀ (n5 : Nat) (v1 v2 v3 v4 : Int32) (u : MS) (D : Nat × Nat) (H : Heap) (locs : List Loc) (ls : Array Slot), lv_has ls 5 [(0, .ref (Q 6)), (1, .int v1), (2, .int v2), (3, .int v3), (4, .int v4)] → cH G Q D T A u s H locs → xl_X0_howMany_5 n5 v1 v2 v3 v4 K5_40 u = some (r, u1) → W p l e (headSpec (Cond.code yX0_howMany cX0_howMany 5 (some .int) :: wK) { frames := 3, cells := 0, slots := 0, locals := 65 }).room s m [.ref (Q 6), .int a0, .int a1].toArray below meth c H locs 0 0 (MQ below (cQi G Q T u1 r A) [.ref (Q 6), .int a0, .int a1].toArray s 0 0 A) (F0 m 5 ls []) := by
    intro K5_40 hK5_40 n5
    induction n5 with
    | zero => intro v1 v2 v3 v4 u D H locs ls hl hH hF; cases hF
    | succ n5 ih5 =>
      intro v1 v2 v3 v4 u D H locs ls hl hH hF
      unfold xl_X0_howMany_5 at hF
      refine lv_iload hx hb dX0_howMany_5 (lv_at hl 4 rfl) ?_
      refine lv_aload_n hx hb dX0_howMany_7 rfl (lv_at hl 0 rfl) ?_
      refine lv_iload_n hx hb dX0_howMany_8 rfl (lv_at hl 1 rfl) ?_
      obtain ⟨r_1, u_2, h_3, hF⟩ := ncl_some hF
      refine ccV_i (q0 := 6) (As := [.int v1]) (rest := [.int v4]) hC hH (n_X0_fightsOf l G Z Q _ T u u_2 r_1 v1 _ h_3) rfl rfl ⟨wkc_X0_fightsOf, wka277, wka396, wka397, wka744⟩ kVX0_fightsOf ⟨Nat.le_of_ble_eq_true rfl, Nat.le_of_ble_eq_true rfl⟩ rfl hl.1 rfl (Nat.le_of_ble_eq_true rfl) dX0_howMany_9 (fun D H locs hH => ?_)
      refine lv_icmp_ge (tgt := 40) hx hb dX0_howMany_12 (by decide) (fun c_4 => ?_) (fun c_4 => ?_)
      · rw [if_pos c_4] at hF
        exact hK5_40 v1 v2 v3 v4 u_2 _ _ _ _ (lv_sub hl [0, 1, 2, 3, 4] rfl) hH hF
      · rw [if_neg c_4] at hF
        refine lv_iload_n hx hb dX0_howMany_15 rfl (lv_at hl 3 rfl) ?_
        refine lv_aload_n hx hb dX0_howMany_16 rfl (lv_at hl 0 rfl) ?_
        refine lv_iload_n hx hb dX0_howMany_17 rfl (lv_at hl 1 rfl) ?_
        refine lv_iload hx hb dX0_howMany_18 (lv_at hl 4 rfl) ?_
        obtain ⟨r_5, u_6, h_7, hF⟩ := ncl_some hF
        refine ccV_i (q0 := 6) (As := [.int v1, .int v4]) (rest := [.int v3]) hC hH (n_X0_stateOf l G Z Q _ T u_2 u_6 r_5 v1 v4 _ h_7) rfl rfl ⟨wkc_X0_stateOf, wka278, wka407, wka408, wka744⟩ kVX0_stateOf ⟨Nat.le_of_ble_eq_true rfl, Nat.le_of_ble_eq_true rfl⟩ rfl hl.1 rfl (Nat.le_of_ble_eq_true rfl) dX0_howMany_20 (fun D H locs hH => ?_)
        refine lv_iload_n hx hb dX0_howMany_23 rfl (lv_at hl 2 rfl) ?_
        refine lv_icmp_ne (tgt := 31) hx hb dX0_howMany_24 (by decide) (fun c_8 => ?_) (fun c_8 => ?_)
        · rw [if_neg c_8] at hF
          refine lv_iconst (v := 0) hx hb dX0_howMany_31 (by decide) ?_
          refine lv_iadd hx hb dX0_howMany_32 ?_
          obtain ⟨x_9, e_10, hF⟩ := nli_some hF
          refine gx_ti e_10 ?_
          refine lv_istore_n (lv' := [(3, .int x_9), (0, .ref (Q 6)), (1, .int v1), (2, .int v2), (4, .int v4)]) hx hb dX0_howMany_33 rfl hl (by decide) rfl (fun ls hl => ?_)
          obtain ⟨x_11, e_12, hF⟩ := nli_some hF
          refine lv_iinc (v := x_11) (lv' := [(4, .int x_11), (3, .int x_9), (0, .ref (Q 6)), (1, .int v1), (2, .int v2)]) hx hb dX0_howMany_34 hl (k := 4) rfl e_12 (by decide) rfl (fun ls hl => ?_)
          refine lv_goto (tgt := 5) hx hb dX0_howMany_37 (by decide) ?_
          exact ih5 v1 v2 x_9 x_11 u_6 _ _ _ _ (lv_sub hl [2, 3, 4, 1, 0] rfl) hH hF
        · rw [if_pos c_8] at hF
          refine lv_iconst (v := 1) hx hb dX0_howMany_27 (by decide) ?_
          refine lv_goto (tgt := 32) hx hb dX0_howMany_28 (by decide) ?_
          refine lv_iadd hx hb dX0_howMany_32 ?_
          obtain ⟨x_13, e_14, hF⟩ := nli_some hF
          refine gx_ti e_14 ?_
          refine lv_istore_n (lv' := [(3, .int x_13), (0, .ref (Q 6)), (1, .int v1), (2, .int v2), (4, .int v4)]) hx hb dX0_howMany_33 rfl hl (by decide) rfl (fun ls hl => ?_)
          obtain ⟨x_15, e_16, hF⟩ := nli_some hF
          refine lv_iinc (v := x_15) (lv' := [(4, .int x_15), (3, .int x_13), (0, .ref (Q 6)), (1, .int v1), (2, .int v2)]) hx hb dX0_howMany_34 hl (k := 4) rfl e_16 (by decide) rfl (fun ls hl => ?_)
          refine lv_goto (tgt := 5) hx hb dX0_howMany_37 (by decide) ?_
          exact ih5 v1 v2 x_13 x_15 u_6 _ _ _ _ (lv_sub hl [2, 3, 4, 1, 0] rfl) hH hF
  refine hL5 _ (fun v1 v2 v3 v4 u D H locs ls hl hH hF => ?_) fuel a0 a1 0 0 u _ _ _ _ (lv_sub hl [2, 3, 4, 1, 0] rfl) hH hF
  refine lv_iload_n hx hb dX0_howMany_40 rfl (lv_at hl 3 rfl) ?_
  exact cr_i hC hH hr (nrt_eq hF) dX0_howMany_41 hlocks
def x_X0_settleWalk (a0 : Int32) (a1 : Int32) (a2 : Int32) (a3 : Int32) : NG Int32 := ncl (x_X0_slot a0 a1) (fun r_1 => ncl (nST 13 148 r_1 a2) (fun _ => ncl (x_X0_slot a0 a1) (fun r_8 => ncl (nST 14 148 r_8 a3) (fun _ => ncl (x_X0_slot a0 a1) (fun r_15 => (if a2 = (-1) then ncl (nST 15 148 r_15 a3) (fun _ => ncl (x_X0_slot a0 a1) (fun r_34 => ncl (nST 16 148 r_34 4) (fun _ => nrt 0))) else ncl (nST 15 148 r_15 a2) (fun _ => ncl (x_X0_slot a0 a1) (fun r_23 => ncl (nST 16 148 r_23 4) (fun _ => nrt 0)))))))))
set_option maxHeartbeats 4000000 in
set_option maxRecDepth 100000 in
theorem n_X0_settleWalk (l : Launch) (G : gG) (Z : gC) (Q : Nat → Nat) (D : Nat × Nat) (T : va_W) (u u1 : MS) (r : Int32) (a0 : Int32) (a1 : Int32) (a2 : Int32) (a3 : Int32) (sz : Nat) (hF : x_X0_settleWalk a0 a1 a2 a3 u = some (r, u1)) : Met l yX0_settleWalk (Cond.code yX0_settleWalk cX0_settleWalk 5 none :: wK) { frames := 1, cells := 0, slots := 0, locals := 22 } (va_Pc [.ref (Q 6), .int a0, .int a1, .int a2, .int a3] (cPM G Z Q D T u sz)) (cQv G Q T u1 (va_A (cW G Q D T u) sz)) 0 0 (va_A (cW G Q D T u) sz) := by
  refine Met.ofW (cc := cX0_settleWalk) (maxL := 5) (ret := none) (by decide) rfl ?_
  intro p e s m args below meth c s₁ B hml hv
  obtain ⟨rfl, rfl, hP, hB, hD0, hE⟩ := hv
  have hr := B.returns
  have hlocks := B.notSynchronized
  have hts := atoms_spec (ws := Cond.code yX0_settleWalk cX0_settleWalk 5 none :: wK) B.pre
  have hD := hD0.self (sz := s.heap.size)
  have hA : ∀ q : Nat, s.heap.size ≤ q → va_A (cW G Q D T u) s.heap.size q := fun q h => Or.inr h
  generalize va_A (cW G Q D T u) s.heap.size = A at hD hA hE ⊢
  have hC : cX p c cX0_settleWalk 5 s m _ RX0 G Z A := ⟨B.exec, B.bytes, hml, findClass_of_methodNamed B.named, fun w h => hts w (List.mem_cons_of_mem _ h), hB, hE, hA⟩
  have hx := hC.1
  have hb := hC.2.1
  have hH : cH G Q D T A u s s.heap [] := ⟨hP, hD, va_S.rf⟩
  have hl := lv_entry ([.ref (Q 6), .int a0, .int a1, .int a2, .int a3]) (n := 5) (Nat.le_of_ble_eq_true rfl)
  rw [lg_entry_eq]
  generalize (lg_sl ([.ref (Q 6), .int a0, .int a1, .int a2, .int a3]) ++ List.replicate (5 - (lg_sl ([.ref (Q 6), .int a0, .int a1, .int a2, .int a3])).length) Slot.unset).toArray = ls at hl ⊢
  have hl : lv_has ls 5 [(0, .ref (Q 6)), (1, .int a0), (2, .int a1), (3, .int a2), (4, .int a3)] := hl
  unfold x_X0_settleWalk at hF
  refine lv_aload_n hx hb dX0_settleWalk_0 rfl (lv_at hl 0 rfl) ?_
  refine cg_X0_20 hC hH dX0_settleWalk_1 ?_
  refine lv_iload_n hx hb dX0_settleWalk_4 rfl (lv_at hl 1 rfl) ?_
  refine lv_iload_n hx hb dX0_settleWalk_5 rfl (lv_at hl 2 rfl) ?_
  obtain ⟨r_1, u_2, h_3, hF⟩ := ncl_some hF
  refine ccS_i (As := [.int a0, .int a1]) (rest := [.ref (Q 44)]) hC hH (n_X0_slot l G Z Q _ T u u_2 r_1 a0 a1 _ h_3) ⟨wkc_X0_slot, wka259, wka387, wka744⟩ kSX0_slot ⟨Nat.le_of_ble_eq_true rfl, Nat.le_of_ble_eq_true rfl⟩ rfl hl.1 rfl (Nat.le_of_ble_eq_true rfl) dX0_settleWalk_6 (fun D H locs hH => ?_)
  refine lv_iload_n hx hb dX0_settleWalk_9 rfl (lv_at hl 3 rfl) ?_
  obtain ⟨y_7, u_4, h_6, hF⟩ := ncl_some hF
  have e_5 := nST_eq h_6
  refine rs_12 hC hH e_5 wka260 ⟨Nat.le_of_ble_eq_true rfl, Nat.le_of_ble_eq_true rfl⟩ hl.1 (Nat.le_of_ble_eq_true rfl) ⟨Nat.zero_le _, Nat.zero_le _⟩ dX0_settleWalk_10 (fun H locs hH => ?_)
  refine lv_aload_n hx hb dX0_settleWalk_13 rfl (lv_at hl 0 rfl) ?_
  refine cg_X0_24 hC hH dX0_settleWalk_14 ?_
  refine lv_iload_n hx hb dX0_settleWalk_17 rfl (lv_at hl 1 rfl) ?_
  refine lv_iload_n hx hb dX0_settleWalk_18 rfl (lv_at hl 2 rfl) ?_
  obtain ⟨r_8, u_9, h_10, hF⟩ := ncl_some hF
  refine ccS_i (As := [.int a0, .int a1]) (rest := [.ref (Q 46)]) hC hH (n_X0_slot l G Z Q _ T u_4 u_9 r_8 a0 a1 _ h_10) ⟨wkc_X0_slot, wka259, wka387, wka744⟩ kSX0_slot ⟨Nat.le_of_ble_eq_true rfl, Nat.le_of_ble_eq_true rfl⟩ rfl hl.1 rfl (Nat.le_of_ble_eq_true rfl) dX0_settleWalk_19 (fun D H locs hH => ?_)
  refine lv_iload hx hb dX0_settleWalk_22 (lv_at hl 4 rfl) ?_
  obtain ⟨y_14, u_11, h_13, hF⟩ := ncl_some hF
  have e_12 := nST_eq h_13
  refine rs_13 hC hH e_12 wka260 ⟨Nat.le_of_ble_eq_true rfl, Nat.le_of_ble_eq_true rfl⟩ hl.1 (Nat.le_of_ble_eq_true rfl) ⟨Nat.zero_le _, Nat.zero_le _⟩ dX0_settleWalk_24 (fun H locs hH => ?_)
  refine lv_aload_n hx hb dX0_settleWalk_27 rfl (lv_at hl 0 rfl) ?_
  refine cg_X0_27 hC hH dX0_settleWalk_28 ?_
  refine lv_iload_n hx hb dX0_settleWalk_31 rfl (lv_at hl 1 rfl) ?_
  refine lv_iload_n hx hb dX0_settleWalk_32 rfl (lv_at hl 2 rfl) ?_
  obtain ⟨r_15, u_16, h_17, hF⟩ := ncl_some hF
  refine ccS_i (As := [.int a0, .int a1]) (rest := [.ref (Q 48)]) hC hH (n_X0_slot l G Z Q _ T u_11 u_16 r_15 a0 a1 _ h_17) ⟨wkc_X0_slot, wka259, wka387, wka744⟩ kSX0_slot ⟨Nat.le_of_ble_eq_true rfl, Nat.le_of_ble_eq_true rfl⟩ rfl hl.1 rfl (Nat.le_of_ble_eq_true rfl) dX0_settleWalk_33 (fun D H locs hH => ?_)
  refine lv_iload_n hx hb dX0_settleWalk_36 rfl (lv_at hl 3 rfl) ?_
  refine lv_iconst (v := (-1)) hx hb dX0_settleWalk_37 (by decide) ?_
  refine lv_icmp_ne (tgt := 46) hx hb dX0_settleWalk_38 (by decide) (fun c_18 => ?_) (fun c_18 => ?_)
  · rw [if_neg c_18] at hF
    refine lv_iload_n hx hb dX0_settleWalk_46 rfl (lv_at hl 3 rfl) ?_
    obtain ⟨y_22, u_19, h_21, hF⟩ := ncl_some hF
    have e_20 := nST_eq h_21
    refine rs_14 hC hH e_20 wka260 ⟨Nat.le_of_ble_eq_true rfl, Nat.le_of_ble_eq_true rfl⟩ hl.1 (Nat.le_of_ble_eq_true rfl) ⟨Nat.zero_le _, Nat.zero_le _⟩ dX0_settleWalk_47 (fun H locs hH => ?_)
    refine lv_aload_n hx hb dX0_settleWalk_50 rfl (lv_at hl 0 rfl) ?_
    refine cg_X0_30 hC hH dX0_settleWalk_51 ?_
    refine lv_iload_n hx hb dX0_settleWalk_54 rfl (lv_at hl 1 rfl) ?_
    refine lv_iload_n hx hb dX0_settleWalk_55 rfl (lv_at hl 2 rfl) ?_
    obtain ⟨r_23, u_24, h_25, hF⟩ := ncl_some hF
    refine ccS_i (As := [.int a0, .int a1]) (rest := [.ref (Q 50)]) hC hH (n_X0_slot l G Z Q _ T u_19 u_24 r_23 a0 a1 _ h_25) ⟨wkc_X0_slot, wka259, wka387, wka744⟩ kSX0_slot ⟨Nat.le_of_ble_eq_true rfl, Nat.le_of_ble_eq_true rfl⟩ rfl hl.1 rfl (Nat.le_of_ble_eq_true rfl) dX0_settleWalk_56 (fun D H locs hH => ?_)
    refine lv_iconst (v := 4) hx hb dX0_settleWalk_59 (by decide) ?_
    obtain ⟨y_29, u_26, h_28, hF⟩ := ncl_some hF
    have e_27 := nST_eq h_28
    refine rs_15 hC hH e_27 wka260 ⟨Nat.le_of_ble_eq_true rfl, Nat.le_of_ble_eq_true rfl⟩ hl.1 (Nat.le_of_ble_eq_true rfl) ⟨Nat.zero_le _, Nat.zero_le _⟩ dX0_settleWalk_60 (fun H locs hH => ?_)
    exact cr_v hC hH hr (nrt_eq hF) dX0_settleWalk_63 hlocks
  · rw [if_pos c_18] at hF
    refine lv_iload hx hb dX0_settleWalk_41 (lv_at hl 4 rfl) ?_
    refine lv_goto (tgt := 47) hx hb dX0_settleWalk_43 (by decide) ?_
    obtain ⟨y_33, u_30, h_32, hF⟩ := ncl_some hF
    have e_31 := nST_eq h_32
    refine rs_14 hC hH e_31 wka260 ⟨Nat.le_of_ble_eq_true rfl, Nat.le_of_ble_eq_true rfl⟩ hl.1 (Nat.le_of_ble_eq_true rfl) ⟨Nat.zero_le _, Nat.zero_le _⟩ dX0_settleWalk_47 (fun H locs hH => ?_)
    refine lv_aload_n hx hb dX0_settleWalk_50 rfl (lv_at hl 0 rfl) ?_
    refine cg_X0_30 hC hH dX0_settleWalk_51 ?_
    refine lv_iload_n hx hb dX0_settleWalk_54 rfl (lv_at hl 1 rfl) ?_
    refine lv_iload_n hx hb dX0_settleWalk_55 rfl (lv_at hl 2 rfl) ?_
    obtain ⟨r_34, u_35, h_36, hF⟩ := ncl_some hF
    refine ccS_i (As := [.int a0, .int a1]) (rest := [.ref (Q 50)]) hC hH (n_X0_slot l G Z Q _ T u_30 u_35 r_34 a0 a1 _ h_36) ⟨wkc_X0_slot, wka259, wka387, wka744⟩ kSX0_slot ⟨Nat.le_of_ble_eq_true rfl, Nat.le_of_ble_eq_true rfl⟩ rfl hl.1 rfl (Nat.le_of_ble_eq_true rfl) dX0_settleWalk_56 (fun D H locs hH => ?_)
    refine lv_iconst (v := 4) hx hb dX0_settleWalk_59 (by decide) ?_
    obtain ⟨y_40, u_37, h_39, hF⟩ := ncl_some hF
    have e_38 := nST_eq h_39
    refine rs_15 hC hH e_38 wka260 ⟨Nat.le_of_ble_eq_true rfl, Nat.le_of_ble_eq_true rfl⟩ hl.1 (Nat.le_of_ble_eq_true rfl) ⟨Nat.zero_le _, Nat.zero_le _⟩ dX0_settleWalk_60 (fun H locs hH => ?_)
    exact cr_v hC hH hr (nrt_eq hF) dX0_settleWalk_63 hlocks
def x_X1_ofFight (a0 : Int32) (a1 : Int32) (a2 : Int32) : NG Int32 := ncl (x_X0_slot a0 a1) (fun r_1 => nrt ((820 + (r_1 * 8)) + a2))
set_option maxHeartbeats 4000000 in
set_option maxRecDepth 100000 in
theorem n_X1_ofFight (l : Launch) (G : gG) (Z : gC) (Q : Nat → Nat) (D : Nat × Nat) (T : va_W) (u u1 : MS) (r : Int32) (a0 : Int32) (a1 : Int32) (a2 : Int32) (sz : Nat) (hF : x_X1_ofFight a0 a1 a2 u = some (r, u1)) : Met l yX1_ofFight (Cond.code yX1_ofFight cX1_ofFight 3 (some .int) :: wK) { frames := 1, cells := 0, slots := 0, locals := 21 } (va_Pc [.int a0, .int a1, .int a2] (cPM G Z Q D T u sz)) (cQi G Q T u1 r (va_A (cW G Q D T u) sz)) 0 0 (va_A (cW G Q D T u) sz) := by
  refine Met.ofW (cc := cX1_ofFight) (maxL := 3) (ret := (some .int)) (by decide) rfl ?_
  intro p e s m args below meth c s₁ B hml hv
  obtain ⟨rfl, rfl, hP, hB, hD0, hE⟩ := hv
  have hr := B.returns
  have hlocks := B.notSynchronized
  have hts := atoms_spec (ws := Cond.code yX1_ofFight cX1_ofFight 3 (some .int) :: wK) B.pre
  have hD := hD0.self (sz := s.heap.size)
  have hA : ∀ q : Nat, s.heap.size ≤ q → va_A (cW G Q D T u) s.heap.size q := fun q h => Or.inr h
  generalize va_A (cW G Q D T u) s.heap.size = A at hD hA hE ⊢
  have hC : cX p c cX1_ofFight 3 s m _ RX1 G Z A := ⟨B.exec, B.bytes, hml, findClass_of_methodNamed B.named, fun w h => hts w (List.mem_cons_of_mem _ h), hB, hE, hA⟩
  have hx := hC.1
  have hb := hC.2.1
  have hH : cH G Q D T A u s s.heap [] := ⟨hP, hD, va_S.rf⟩
  have hl := lv_entry ([.int a0, .int a1, .int a2]) (n := 3) (Nat.le_of_ble_eq_true rfl)
  rw [lg_entry_eq]
  generalize (lg_sl ([.int a0, .int a1, .int a2]) ++ List.replicate (3 - (lg_sl ([.int a0, .int a1, .int a2])).length) Slot.unset).toArray = ls at hl ⊢
  have hl : lv_has ls 3 [(0, .int a0), (1, .int a1), (2, .int a2)] := hl
  unfold x_X1_ofFight at hF
  refine lv_sipush (v := 820) hx hb dX1_ofFight_0 (by decide) ?_
  refine lv_iload_n hx hb dX1_ofFight_3 rfl (lv_at hl 0 rfl) ?_
  refine lv_iload_n hx hb dX1_ofFight_4 rfl (lv_at hl 1 rfl) ?_
  obtain ⟨r_1, u_2, h_3, hF⟩ := ncl_some hF
  refine ccS_i (As := [.int a0, .int a1]) (rest := [.int 820]) hC hH (n_X0_slot l G Z Q _ T u u_2 r_1 a0 a1 _ h_3) ⟨wkc_X0_slot, wka258, wka387, wka744⟩ kSX0_slot ⟨Nat.le_of_ble_eq_true rfl, Nat.le_of_ble_eq_true rfl⟩ rfl hl.1 rfl (Nat.le_of_ble_eq_true rfl) dX1_ofFight_5 (fun D H locs hH => ?_)
  refine lv_bipush (v := 8) hx hb dX1_ofFight_8 (by decide) ?_
  refine lv_imul hx hb dX1_ofFight_10 ?_
  refine lv_iadd hx hb dX1_ofFight_11 ?_
  refine lv_iload_n hx hb dX1_ofFight_12 rfl (lv_at hl 2 rfl) ?_
  refine lv_iadd hx hb dX1_ofFight_13 ?_
  exact cr_i hC hH hr (nrt_eq hF) dX1_ofFight_14 hlocks
def x_X0_settleFight (a0 : Int32) (a1 : Int32) (a2 : Int32) (a3 : Int32) : NG Int32 := ncl (x_X1_ofFight a0 a1 0) (fun r_1 => ncl (nGT 0 2088 r_1) (fun x_4 => (if a2 = (-1) then ncl (x_X0_slot a0 a1) (fun r_9 => ncl (nST 13 148 r_9 a2) (fun _ => ncl (x_X0_slot a0 a1) (fun r_16 => ncl (nST 14 148 r_16 a3) (fun _ => ncl (x_X0_slot a0 a1) (fun r_23 => (if x_4 = 3 then ncl (x_X1_ofFight a0 a1 3) (fun r_43 => ncl (nGT 0 2088 r_43) (fun x_46 => ncl (nST 15 148 r_23 x_46) (fun _ => ncl (x_X0_slot a0 a1) (fun r_54 => (if x_4 = 0 then ncl (nST 16 148 r_54 0) (fun _ => nrt 0) else ncl (nST 16 148 r_54 x_4) (fun _ => nrt 0)))))) else ncl (nST 15 148 r_23 (-1)) (fun _ => ncl (x_X0_slot a0 a1) (fun r_31 => (if x_4 = 0 then ncl (nST 16 148 r_31 0) (fun _ => nrt 0) else ncl (nST 16 148 r_31 x_4) (fun _ => nrt 0)))))))))) else (if a3 = (-1) then ncl (x_X0_slot a0 a1) (fun r_124 => ncl (nST 13 148 r_124 a2) (fun _ => ncl (x_X0_slot a0 a1) (fun r_131 => ncl (nST 14 148 r_131 a3) (fun _ => ncl (x_X0_slot a0 a1) (fun r_138 => (if x_4 = 3 then ncl (x_X1_ofFight a0 a1 3) (fun r_158 => ncl (nGT 0 2088 r_158) (fun x_161 => ncl (nST 15 148 r_138 x_161) (fun _ => ncl (x_X0_slot a0 a1) (fun r_169 => (if x_4 = 0 then ncl (nST 16 148 r_169 0) (fun _ => nrt 0) else ncl (nST 16 148 r_169 x_4) (fun _ => nrt 0)))))) else ncl (nST 15 148 r_138 (-1)) (fun _ => ncl (x_X0_slot a0 a1) (fun r_146 => (if x_4 = 0 then ncl (nST 16 148 r_146 0) (fun _ => nrt 0) else ncl (nST 16 148 r_146 x_4) (fun _ => nrt 0)))))))))) else ncl (x_X0_slot a0 a1) (fun r_67 => ncl (nST 13 148 r_67 a2) (fun _ => ncl (x_X0_slot a0 a1) (fun r_74 => ncl (nST 14 148 r_74 a3) (fun _ => ncl (x_X0_slot a0 a1) (fun r_81 => (if x_4 = 3 then ncl (x_X1_ofFight a0 a1 3) (fun r_101 => ncl (nGT 0 2088 r_101) (fun x_104 => ncl (nST 15 148 r_81 x_104) (fun _ => ncl (x_X0_slot a0 a1) (fun r_112 => (if x_4 = 0 then ncl (nST 16 148 r_112 1) (fun _ => nrt 0) else ncl (nST 16 148 r_112 x_4) (fun _ => nrt 0)))))) else ncl (nST 15 148 r_81 (-1)) (fun _ => ncl (x_X0_slot a0 a1) (fun r_89 => (if x_4 = 0 then ncl (nST 16 148 r_89 1) (fun _ => nrt 0) else ncl (nST 16 148 r_89 x_4) (fun _ => nrt 0))))))))))))))
set_option maxHeartbeats 4000000 in
set_option maxRecDepth 100000 in
theorem n_X0_settleFight (l : Launch) (G : gG) (Z : gC) (Q : Nat → Nat) (D : Nat × Nat) (T : va_W) (u u1 : MS) (r : Int32) (a0 : Int32) (a1 : Int32) (a2 : Int32) (a3 : Int32) (sz : Nat) (hF : x_X0_settleFight a0 a1 a2 a3 u = some (r, u1)) : Met l yX0_settleFight (Cond.code yX0_settleFight cX0_settleFight 7 none :: wK) { frames := 2, cells := 0, slots := 0, locals := 43 } (va_Pc [.ref (Q 6), .int a0, .int a1, .int a2, .int a3] (cPM G Z Q D T u sz)) (cQv G Q T u1 (va_A (cW G Q D T u) sz)) 0 0 (va_A (cW G Q D T u) sz) := by
  refine Met.ofW (cc := cX0_settleFight) (maxL := 7) (ret := none) (by decide) rfl ?_
  intro p e s m args below meth c s₁ B hml hv
  obtain ⟨rfl, rfl, hP, hB, hD0, hE⟩ := hv
  have hr := B.returns
  have hlocks := B.notSynchronized
  have hts := atoms_spec (ws := Cond.code yX0_settleFight cX0_settleFight 7 none :: wK) B.pre
  have hD := hD0.self (sz := s.heap.size)
  have hA : ∀ q : Nat, s.heap.size ≤ q → va_A (cW G Q D T u) s.heap.size q := fun q h => Or.inr h
  generalize va_A (cW G Q D T u) s.heap.size = A at hD hA hE ⊢
  have hC : cX p c cX0_settleFight 7 s m _ RX0 G Z A := ⟨B.exec, B.bytes, hml, findClass_of_methodNamed B.named, fun w h => hts w (List.mem_cons_of_mem _ h), hB, hE, hA⟩
  have hx := hC.1
  have hb := hC.2.1
  have hH : cH G Q D T A u s s.heap [] := ⟨hP, hD, va_S.rf⟩
  have hl := lv_entry ([.ref (Q 6), .int a0, .int a1, .int a2, .int a3]) (n := 7) (Nat.le_of_ble_eq_true rfl)
  rw [lg_entry_eq]
  generalize (lg_sl ([.ref (Q 6), .int a0, .int a1, .int a2, .int a3]) ++ List.replicate (7 - (lg_sl ([.ref (Q 6), .int a0, .int a1, .int a2, .int a3])).length) Slot.unset).toArray = ls at hl ⊢
  have hl : lv_has ls 7 [(0, .ref (Q 6)), (1, .int a0), (2, .int a1), (3, .int a2), (4, .int a3)] := hl
  unfold x_X0_settleFight at hF
  refine lv_aload_n hx hb dX0_settleFight_0 rfl (lv_at hl 0 rfl) ?_
  refine cg_X0_11 hC hH dX0_settleFight_1 ?_
  refine lv_iload_n hx hb dX0_settleFight_4 rfl (lv_at hl 1 rfl) ?_
  refine lv_iload_n hx hb dX0_settleFight_5 rfl (lv_at hl 2 rfl) ?_
  refine lv_iconst (v := 0) hx hb dX0_settleFight_6 (by decide) ?_
  obtain ⟨r_1, u_2, h_3, hF⟩ := ncl_some hF
  refine ccS_i (As := [.int a0, .int a1, .int 0]) (rest := [.ref (Q 1)]) hC hH (n_X1_ofFight l G Z Q _ T u u_2 r_1 a0 a1 0 _ h_3) ⟨wkc_X1_ofFight, wka257, wka437, wka745⟩ kSX1_ofFight ⟨Nat.le_of_ble_eq_true rfl, Nat.le_of_ble_eq_true rfl⟩ rfl hl.1 rfl (Nat.le_of_ble_eq_true rfl) dX0_settleFight_7 (fun D H locs hH => ?_)
  refine bat (i := 1) (j := 11) hC hH rfl rfl (by decide) wka213 ⟨Nat.le_of_ble_eq_true rfl, Nat.le_of_ble_eq_true rfl⟩ hl.1 (Nat.le_of_ble_eq_true rfl) ⟨Nat.zero_le _, Nat.zero_le _⟩ dX0_settleFight_10 ?_
  obtain ⟨x_4, u_5, h_6, hF⟩ := ncl_some hF
  obtain ⟨e_7, rfl⟩ := nGT_eq h_6
  refine gx_ti e_7 ?_
  refine lv_istore (lv' := [(5, .int x_4), (0, .ref (Q 6)), (1, .int a0), (2, .int a1), (3, .int a2), (4, .int a3)]) hx hb dX0_settleFight_13 hl (by decide) rfl (fun ls hl => ?_)
  refine lv_iload_n hx hb dX0_settleFight_15 rfl (lv_at hl 4 rfl) ?_
  refine lv_iconst (v := (-1)) hx hb dX0_settleFight_16 (by decide) ?_
  refine lv_icmp_eq (tgt := 26) hx hb dX0_settleFight_17 (by decide) (fun c_8 => ?_) (fun c_8 => ?_)
  · rw [if_pos c_8] at hF
    refine lv_iconst (v := 0) hx hb dX0_settleFight_26 (by decide) ?_
    refine lv_goto (tgt := 31) hx hb dX0_settleFight_27 (by decide) ?_
    refine lv_istore (lv' := [(6, .int 0), (5, .int x_4), (0, .ref (Q 6)), (1, .int a0), (2, .int a1), (3, .int a2), (4, .int a3)]) hx hb dX0_settleFight_31 hl (by decide) rfl (fun ls hl => ?_)
    refine lv_aload_n hx hb dX0_settleFight_33 rfl (lv_at hl 2 rfl) ?_
    refine cg_X0_20 hC hH dX0_settleFight_34 ?_
    refine lv_iload_n hx hb dX0_settleFight_37 rfl (lv_at hl 3 rfl) ?_
    refine lv_iload_n hx hb dX0_settleFight_38 rfl (lv_at hl 4 rfl) ?_
    obtain ⟨r_9, u_10, h_11, hF⟩ := ncl_some hF
    refine ccS_i (As := [.int a0, .int a1]) (rest := [.ref (Q 44)]) hC hH (n_X0_slot l G Z Q _ T u_2 u_10 r_9 a0 a1 _ h_11) ⟨wkc_X0_slot, wka259, wka387, wka744⟩ kSX0_slot ⟨Nat.le_of_ble_eq_true rfl, Nat.le_of_ble_eq_true rfl⟩ rfl hl.1 rfl (Nat.le_of_ble_eq_true rfl) dX0_settleFight_39 (fun D H locs hH => ?_)
    refine lv_iload_n hx hb dX0_settleFight_42 rfl (lv_at hl 5 rfl) ?_
    obtain ⟨y_15, u_12, h_14, hF⟩ := ncl_some hF
    have e_13 := nST_eq h_14
    refine rs_12 hC hH e_13 wka260 ⟨Nat.le_of_ble_eq_true rfl, Nat.le_of_ble_eq_true rfl⟩ hl.1 (Nat.le_of_ble_eq_true rfl) ⟨Nat.zero_le _, Nat.zero_le _⟩ dX0_settleFight_43 (fun H locs hH => ?_)
    refine lv_aload_n hx hb dX0_settleFight_46 rfl (lv_at hl 2 rfl) ?_
    refine cg_X0_24 hC hH dX0_settleFight_47 ?_
    refine lv_iload_n hx hb dX0_settleFight_50 rfl (lv_at hl 3 rfl) ?_
    refine lv_iload_n hx hb dX0_settleFight_51 rfl (lv_at hl 4 rfl) ?_
    obtain ⟨r_16, u_17, h_18, hF⟩ := ncl_some hF
    refine ccS_i (As := [.int a0, .int a1]) (rest := [.ref (Q 46)]) hC hH (n_X0_slot l G Z Q _ T u_12 u_17 r_16 a0 a1 _ h_18) ⟨wkc_X0_slot, wka259, wka387, wka744⟩ kSX0_slot ⟨Nat.le_of_ble_eq_true rfl, Nat.le_of_ble_eq_true rfl⟩ rfl hl.1 rfl (Nat.le_of_ble_eq_true rfl) dX0_settleFight_52 (fun D H locs hH => ?_)
    refine lv_iload hx hb dX0_settleFight_55 (lv_at hl 6 rfl) ?_
    obtain ⟨y_22, u_19, h_21, hF⟩ := ncl_some hF
    have e_20 := nST_eq h_21
    refine rs_13 hC hH e_20 wka260 ⟨Nat.le_of_ble_eq_true rfl, Nat.le_of_ble_eq_true rfl⟩ hl.1 (Nat.le_of_ble_eq_true rfl) ⟨Nat.zero_le _, Nat.zero_le _⟩ dX0_settleFight_57 (fun H locs hH => ?_)
    refine lv_aload_n hx hb dX0_settleFight_60 rfl (lv_at hl 2 rfl) ?_
    refine cg_X0_27 hC hH dX0_settleFight_61 ?_
    refine lv_iload_n hx hb dX0_settleFight_64 rfl (lv_at hl 3 rfl) ?_
    refine lv_iload_n hx hb dX0_settleFight_65 rfl (lv_at hl 4 rfl) ?_
    obtain ⟨r_23, u_24, h_25, hF⟩ := ncl_some hF
    refine ccS_i (As := [.int a0, .int a1]) (rest := [.ref (Q 48)]) hC hH (n_X0_slot l G Z Q _ T u_19 u_24 r_23 a0 a1 _ h_25) ⟨wkc_X0_slot, wka259, wka387, wka744⟩ kSX0_slot ⟨Nat.le_of_ble_eq_true rfl, Nat.le_of_ble_eq_true rfl⟩ rfl hl.1 rfl (Nat.le_of_ble_eq_true rfl) dX0_settleFight_66 (fun D H locs hH => ?_)
    refine lv_iload hx hb dX0_settleFight_69 (lv_at hl 1 rfl) ?_
    refine lv_iconst (v := 3) hx hb dX0_settleFight_71 (by decide) ?_
    refine lv_icmp_ne (tgt := 91) hx hb dX0_settleFight_72 (by decide) (fun c_26 => ?_) (fun c_26 => ?_)
    · rw [if_neg c_26] at hF
      refine lv_iconst (v := (-1)) hx hb dX0_settleFight_91 (by decide) ?_
      obtain ⟨y_30, u_27, h_29, hF⟩ := ncl_some hF
      have e_28 := nST_eq h_29
      refine rs_14 hC hH e_28 wka260 ⟨Nat.le_of_ble_eq_true rfl, Nat.le_of_ble_eq_true rfl⟩ hl.1 (Nat.le_of_ble_eq_true rfl) ⟨Nat.zero_le _, Nat.zero_le _⟩ dX0_settleFight_92 (fun H locs hH => ?_)
      refine lv_aload_n hx hb dX0_settleFight_95 rfl (lv_at hl 2 rfl) ?_
      refine cg_X0_30 hC hH dX0_settleFight_96 ?_
      refine lv_iload_n hx hb dX0_settleFight_99 rfl (lv_at hl 3 rfl) ?_
      refine lv_iload_n hx hb dX0_settleFight_100 rfl (lv_at hl 4 rfl) ?_
      obtain ⟨r_31, u_32, h_33, hF⟩ := ncl_some hF
      refine ccS_i (As := [.int a0, .int a1]) (rest := [.ref (Q 50)]) hC hH (n_X0_slot l G Z Q _ T u_27 u_32 r_31 a0 a1 _ h_33) ⟨wkc_X0_slot, wka259, wka387, wka744⟩ kSX0_slot ⟨Nat.le_of_ble_eq_true rfl, Nat.le_of_ble_eq_true rfl⟩ rfl hl.1 rfl (Nat.le_of_ble_eq_true rfl) dX0_settleFight_101 (fun D H locs hH => ?_)
      refine lv_iload hx hb dX0_settleFight_104 (lv_at hl 1 rfl) ?_
      refine lv_if_ne (tgt := 114) hx hb dX0_settleFight_106 (by decide) (fun c_34 => ?_) (fun c_34 => ?_)
      · rw [if_neg c_34] at hF
        refine lv_iload hx hb dX0_settleFight_114 (lv_at hl 1 rfl) ?_
        obtain ⟨y_38, u_35, h_37, hF⟩ := ncl_some hF
        have e_36 := nST_eq h_37
        refine rs_15 hC hH e_36 wka260 ⟨Nat.le_of_ble_eq_true rfl, Nat.le_of_ble_eq_true rfl⟩ hl.1 (Nat.le_of_ble_eq_true rfl) ⟨Nat.zero_le _, Nat.zero_le _⟩ dX0_settleFight_116 (fun H locs hH => ?_)
        exact cr_v hC hH hr (nrt_eq hF) dX0_settleFight_119 hlocks
      · rw [if_pos c_34] at hF
        refine lv_iload hx hb dX0_settleFight_109 (lv_at hl 0 rfl) ?_
        refine lv_goto (tgt := 116) hx hb dX0_settleFight_111 (by decide) ?_
        obtain ⟨y_42, u_39, h_41, hF⟩ := ncl_some hF
        have e_40 := nST_eq h_41
        refine rs_15 hC hH e_40 wka260 ⟨Nat.le_of_ble_eq_true rfl, Nat.le_of_ble_eq_true rfl⟩ hl.1 (Nat.le_of_ble_eq_true rfl) ⟨Nat.zero_le _, Nat.zero_le _⟩ dX0_settleFight_116 (fun H locs hH => ?_)
        exact cr_v hC hH hr (nrt_eq hF) dX0_settleFight_119 hlocks
    · rw [if_pos c_26] at hF
      refine lv_aload_n hx hb dX0_settleFight_75 rfl (lv_at hl 2 rfl) ?_
      refine cg_X0_11 hC hH dX0_settleFight_76 ?_
      refine lv_iload_n hx hb dX0_settleFight_79 rfl (lv_at hl 3 rfl) ?_
      refine lv_iload_n hx hb dX0_settleFight_80 rfl (lv_at hl 4 rfl) ?_
      refine lv_iconst (v := 3) hx hb dX0_settleFight_81 (by decide) ?_
      obtain ⟨r_43, u_44, h_45, hF⟩ := ncl_some hF
      refine ccS_i (As := [.int a0, .int a1, .int 3]) (rest := [.ref (Q 1), .int r_23, .ref (Q 48)]) hC hH (n_X1_ofFight l G Z Q _ T u_24 u_44 r_43 a0 a1 3 _ h_45) ⟨wkc_X1_ofFight, wka257, wka437, wka745⟩ kSX1_ofFight ⟨Nat.le_of_ble_eq_true rfl, Nat.le_of_ble_eq_true rfl⟩ rfl hl.1 rfl (Nat.le_of_ble_eq_true rfl) dX0_settleFight_82 (fun D H locs hH => ?_)
      refine bat (i := 1) (j := 11) hC hH rfl rfl (by decide) wka213 ⟨Nat.le_of_ble_eq_true rfl, Nat.le_of_ble_eq_true rfl⟩ hl.1 (Nat.le_of_ble_eq_true rfl) ⟨Nat.zero_le _, Nat.zero_le _⟩ dX0_settleFight_85 ?_
      obtain ⟨x_46, u_47, h_48, hF⟩ := ncl_some hF
      obtain ⟨e_49, rfl⟩ := nGT_eq h_48
      refine gx_ti e_49 ?_
      refine lv_goto (tgt := 92) hx hb dX0_settleFight_88 (by decide) ?_
      obtain ⟨y_53, u_50, h_52, hF⟩ := ncl_some hF
      have e_51 := nST_eq h_52
      refine rs_14 hC hH e_51 wka260 ⟨Nat.le_of_ble_eq_true rfl, Nat.le_of_ble_eq_true rfl⟩ hl.1 (Nat.le_of_ble_eq_true rfl) ⟨Nat.zero_le _, Nat.zero_le _⟩ dX0_settleFight_92 (fun H locs hH => ?_)
      refine lv_aload_n hx hb dX0_settleFight_95 rfl (lv_at hl 2 rfl) ?_
      refine cg_X0_30 hC hH dX0_settleFight_96 ?_
      refine lv_iload_n hx hb dX0_settleFight_99 rfl (lv_at hl 3 rfl) ?_
      refine lv_iload_n hx hb dX0_settleFight_100 rfl (lv_at hl 4 rfl) ?_
      obtain ⟨r_54, u_55, h_56, hF⟩ := ncl_some hF
      refine ccS_i (As := [.int a0, .int a1]) (rest := [.ref (Q 50)]) hC hH (n_X0_slot l G Z Q _ T u_50 u_55 r_54 a0 a1 _ h_56) ⟨wkc_X0_slot, wka259, wka387, wka744⟩ kSX0_slot ⟨Nat.le_of_ble_eq_true rfl, Nat.le_of_ble_eq_true rfl⟩ rfl hl.1 rfl (Nat.le_of_ble_eq_true rfl) dX0_settleFight_101 (fun D H locs hH => ?_)
      refine lv_iload hx hb dX0_settleFight_104 (lv_at hl 1 rfl) ?_
      refine lv_if_ne (tgt := 114) hx hb dX0_settleFight_106 (by decide) (fun c_57 => ?_) (fun c_57 => ?_)
      · rw [if_neg c_57] at hF
        refine lv_iload hx hb dX0_settleFight_114 (lv_at hl 1 rfl) ?_
        obtain ⟨y_61, u_58, h_60, hF⟩ := ncl_some hF
        have e_59 := nST_eq h_60
        refine rs_15 hC hH e_59 wka260 ⟨Nat.le_of_ble_eq_true rfl, Nat.le_of_ble_eq_true rfl⟩ hl.1 (Nat.le_of_ble_eq_true rfl) ⟨Nat.zero_le _, Nat.zero_le _⟩ dX0_settleFight_116 (fun H locs hH => ?_)
        exact cr_v hC hH hr (nrt_eq hF) dX0_settleFight_119 hlocks
      · rw [if_pos c_57] at hF
        refine lv_iload hx hb dX0_settleFight_109 (lv_at hl 0 rfl) ?_
        refine lv_goto (tgt := 116) hx hb dX0_settleFight_111 (by decide) ?_
        obtain ⟨y_65, u_62, h_64, hF⟩ := ncl_some hF
        have e_63 := nST_eq h_64
        refine rs_15 hC hH e_63 wka260 ⟨Nat.le_of_ble_eq_true rfl, Nat.le_of_ble_eq_true rfl⟩ hl.1 (Nat.le_of_ble_eq_true rfl) ⟨Nat.zero_le _, Nat.zero_le _⟩ dX0_settleFight_116 (fun H locs hH => ?_)
        exact cr_v hC hH hr (nrt_eq hF) dX0_settleFight_119 hlocks
  · rw [if_neg c_8] at hF
    refine lv_iload hx hb dX0_settleFight_20 (lv_at hl 5 rfl) ?_
    refine lv_iconst (v := (-1)) hx hb dX0_settleFight_22 (by decide) ?_
    refine lv_icmp_ne (tgt := 30) hx hb dX0_settleFight_23 (by decide) (fun c_66 => ?_) (fun c_66 => ?_)
    · rw [if_neg c_66] at hF
      refine lv_iconst (v := 1) hx hb dX0_settleFight_30 (by decide) ?_
      refine lv_istore (lv' := [(6, .int 1), (5, .int x_4), (0, .ref (Q 6)), (1, .int a0), (2, .int a1), (3, .int a2), (4, .int a3)]) hx hb dX0_settleFight_31 hl (by decide) rfl (fun ls hl => ?_)
      refine lv_aload_n hx hb dX0_settleFight_33 rfl (lv_at hl 2 rfl) ?_
      refine cg_X0_20 hC hH dX0_settleFight_34 ?_
      refine lv_iload_n hx hb dX0_settleFight_37 rfl (lv_at hl 3 rfl) ?_
      refine lv_iload_n hx hb dX0_settleFight_38 rfl (lv_at hl 4 rfl) ?_
      obtain ⟨r_67, u_68, h_69, hF⟩ := ncl_some hF
      refine ccS_i (As := [.int a0, .int a1]) (rest := [.ref (Q 44)]) hC hH (n_X0_slot l G Z Q _ T u_2 u_68 r_67 a0 a1 _ h_69) ⟨wkc_X0_slot, wka259, wka387, wka744⟩ kSX0_slot ⟨Nat.le_of_ble_eq_true rfl, Nat.le_of_ble_eq_true rfl⟩ rfl hl.1 rfl (Nat.le_of_ble_eq_true rfl) dX0_settleFight_39 (fun D H locs hH => ?_)
      refine lv_iload_n hx hb dX0_settleFight_42 rfl (lv_at hl 5 rfl) ?_
      obtain ⟨y_73, u_70, h_72, hF⟩ := ncl_some hF
      have e_71 := nST_eq h_72
      refine rs_12 hC hH e_71 wka260 ⟨Nat.le_of_ble_eq_true rfl, Nat.le_of_ble_eq_true rfl⟩ hl.1 (Nat.le_of_ble_eq_true rfl) ⟨Nat.zero_le _, Nat.zero_le _⟩ dX0_settleFight_43 (fun H locs hH => ?_)
      refine lv_aload_n hx hb dX0_settleFight_46 rfl (lv_at hl 2 rfl) ?_
      refine cg_X0_24 hC hH dX0_settleFight_47 ?_
      refine lv_iload_n hx hb dX0_settleFight_50 rfl (lv_at hl 3 rfl) ?_
      refine lv_iload_n hx hb dX0_settleFight_51 rfl (lv_at hl 4 rfl) ?_
      obtain ⟨r_74, u_75, h_76, hF⟩ := ncl_some hF
      refine ccS_i (As := [.int a0, .int a1]) (rest := [.ref (Q 46)]) hC hH (n_X0_slot l G Z Q _ T u_70 u_75 r_74 a0 a1 _ h_76) ⟨wkc_X0_slot, wka259, wka387, wka744⟩ kSX0_slot ⟨Nat.le_of_ble_eq_true rfl, Nat.le_of_ble_eq_true rfl⟩ rfl hl.1 rfl (Nat.le_of_ble_eq_true rfl) dX0_settleFight_52 (fun D H locs hH => ?_)
      refine lv_iload hx hb dX0_settleFight_55 (lv_at hl 6 rfl) ?_
      obtain ⟨y_80, u_77, h_79, hF⟩ := ncl_some hF
      have e_78 := nST_eq h_79
      refine rs_13 hC hH e_78 wka260 ⟨Nat.le_of_ble_eq_true rfl, Nat.le_of_ble_eq_true rfl⟩ hl.1 (Nat.le_of_ble_eq_true rfl) ⟨Nat.zero_le _, Nat.zero_le _⟩ dX0_settleFight_57 (fun H locs hH => ?_)
      refine lv_aload_n hx hb dX0_settleFight_60 rfl (lv_at hl 2 rfl) ?_
      refine cg_X0_27 hC hH dX0_settleFight_61 ?_
      refine lv_iload_n hx hb dX0_settleFight_64 rfl (lv_at hl 3 rfl) ?_
      refine lv_iload_n hx hb dX0_settleFight_65 rfl (lv_at hl 4 rfl) ?_
      obtain ⟨r_81, u_82, h_83, hF⟩ := ncl_some hF
      refine ccS_i (As := [.int a0, .int a1]) (rest := [.ref (Q 48)]) hC hH (n_X0_slot l G Z Q _ T u_77 u_82 r_81 a0 a1 _ h_83) ⟨wkc_X0_slot, wka259, wka387, wka744⟩ kSX0_slot ⟨Nat.le_of_ble_eq_true rfl, Nat.le_of_ble_eq_true rfl⟩ rfl hl.1 rfl (Nat.le_of_ble_eq_true rfl) dX0_settleFight_66 (fun D H locs hH => ?_)
      refine lv_iload hx hb dX0_settleFight_69 (lv_at hl 1 rfl) ?_
      refine lv_iconst (v := 3) hx hb dX0_settleFight_71 (by decide) ?_
      refine lv_icmp_ne (tgt := 91) hx hb dX0_settleFight_72 (by decide) (fun c_84 => ?_) (fun c_84 => ?_)
      · rw [if_neg c_84] at hF
        refine lv_iconst (v := (-1)) hx hb dX0_settleFight_91 (by decide) ?_
        obtain ⟨y_88, u_85, h_87, hF⟩ := ncl_some hF
        have e_86 := nST_eq h_87
        refine rs_14 hC hH e_86 wka260 ⟨Nat.le_of_ble_eq_true rfl, Nat.le_of_ble_eq_true rfl⟩ hl.1 (Nat.le_of_ble_eq_true rfl) ⟨Nat.zero_le _, Nat.zero_le _⟩ dX0_settleFight_92 (fun H locs hH => ?_)
        refine lv_aload_n hx hb dX0_settleFight_95 rfl (lv_at hl 2 rfl) ?_
        refine cg_X0_30 hC hH dX0_settleFight_96 ?_
        refine lv_iload_n hx hb dX0_settleFight_99 rfl (lv_at hl 3 rfl) ?_
        refine lv_iload_n hx hb dX0_settleFight_100 rfl (lv_at hl 4 rfl) ?_
        obtain ⟨r_89, u_90, h_91, hF⟩ := ncl_some hF
        refine ccS_i (As := [.int a0, .int a1]) (rest := [.ref (Q 50)]) hC hH (n_X0_slot l G Z Q _ T u_85 u_90 r_89 a0 a1 _ h_91) ⟨wkc_X0_slot, wka259, wka387, wka744⟩ kSX0_slot ⟨Nat.le_of_ble_eq_true rfl, Nat.le_of_ble_eq_true rfl⟩ rfl hl.1 rfl (Nat.le_of_ble_eq_true rfl) dX0_settleFight_101 (fun D H locs hH => ?_)
        refine lv_iload hx hb dX0_settleFight_104 (lv_at hl 1 rfl) ?_
        refine lv_if_ne (tgt := 114) hx hb dX0_settleFight_106 (by decide) (fun c_92 => ?_) (fun c_92 => ?_)
        · rw [if_neg c_92] at hF
          refine lv_iload hx hb dX0_settleFight_114 (lv_at hl 1 rfl) ?_
          obtain ⟨y_96, u_93, h_95, hF⟩ := ncl_some hF
          have e_94 := nST_eq h_95
          refine rs_15 hC hH e_94 wka260 ⟨Nat.le_of_ble_eq_true rfl, Nat.le_of_ble_eq_true rfl⟩ hl.1 (Nat.le_of_ble_eq_true rfl) ⟨Nat.zero_le _, Nat.zero_le _⟩ dX0_settleFight_116 (fun H locs hH => ?_)
          exact cr_v hC hH hr (nrt_eq hF) dX0_settleFight_119 hlocks
        · rw [if_pos c_92] at hF
          refine lv_iload hx hb dX0_settleFight_109 (lv_at hl 0 rfl) ?_
          refine lv_goto (tgt := 116) hx hb dX0_settleFight_111 (by decide) ?_
          obtain ⟨y_100, u_97, h_99, hF⟩ := ncl_some hF
          have e_98 := nST_eq h_99
          refine rs_15 hC hH e_98 wka260 ⟨Nat.le_of_ble_eq_true rfl, Nat.le_of_ble_eq_true rfl⟩ hl.1 (Nat.le_of_ble_eq_true rfl) ⟨Nat.zero_le _, Nat.zero_le _⟩ dX0_settleFight_116 (fun H locs hH => ?_)
          exact cr_v hC hH hr (nrt_eq hF) dX0_settleFight_119 hlocks
      · rw [if_pos c_84] at hF
        refine lv_aload_n hx hb dX0_settleFight_75 rfl (lv_at hl 2 rfl) ?_
        refine cg_X0_11 hC hH dX0_settleFight_76 ?_
        refine lv_iload_n hx hb dX0_settleFight_79 rfl (lv_at hl 3 rfl) ?_
        refine lv_iload_n hx hb dX0_settleFight_80 rfl (lv_at hl 4 rfl) ?_
        refine lv_iconst (v := 3) hx hb dX0_settleFight_81 (by decide) ?_
        obtain ⟨r_101, u_102, h_103, hF⟩ := ncl_some hF
        refine ccS_i (As := [.int a0, .int a1, .int 3]) (rest := [.ref (Q 1), .int r_81, .ref (Q 48)]) hC hH (n_X1_ofFight l G Z Q _ T u_82 u_102 r_101 a0 a1 3 _ h_103) ⟨wkc_X1_ofFight, wka257, wka437, wka745⟩ kSX1_ofFight ⟨Nat.le_of_ble_eq_true rfl, Nat.le_of_ble_eq_true rfl⟩ rfl hl.1 rfl (Nat.le_of_ble_eq_true rfl) dX0_settleFight_82 (fun D H locs hH => ?_)
        refine bat (i := 1) (j := 11) hC hH rfl rfl (by decide) wka213 ⟨Nat.le_of_ble_eq_true rfl, Nat.le_of_ble_eq_true rfl⟩ hl.1 (Nat.le_of_ble_eq_true rfl) ⟨Nat.zero_le _, Nat.zero_le _⟩ dX0_settleFight_85 ?_
        obtain ⟨x_104, u_105, h_106, hF⟩ := ncl_some hF
        obtain ⟨e_107, rfl⟩ := nGT_eq h_106
        refine gx_ti e_107 ?_
        refine lv_goto (tgt := 92) hx hb dX0_settleFight_88 (by decide) ?_
        obtain ⟨y_111, u_108, h_110, hF⟩ := ncl_some hF
        have e_109 := nST_eq h_110
        refine rs_14 hC hH e_109 wka260 ⟨Nat.le_of_ble_eq_true rfl, Nat.le_of_ble_eq_true rfl⟩ hl.1 (Nat.le_of_ble_eq_true rfl) ⟨Nat.zero_le _, Nat.zero_le _⟩ dX0_settleFight_92 (fun H locs hH => ?_)
        refine lv_aload_n hx hb dX0_settleFight_95 rfl (lv_at hl 2 rfl) ?_
        refine cg_X0_30 hC hH dX0_settleFight_96 ?_
        refine lv_iload_n hx hb dX0_settleFight_99 rfl (lv_at hl 3 rfl) ?_
        refine lv_iload_n hx hb dX0_settleFight_100 rfl (lv_at hl 4 rfl) ?_
        obtain ⟨r_112, u_113, h_114, hF⟩ := ncl_some hF
        refine ccS_i (As := [.int a0, .int a1]) (rest := [.ref (Q 50)]) hC hH (n_X0_slot l G Z Q _ T u_108 u_113 r_112 a0 a1 _ h_114) ⟨wkc_X0_slot, wka259, wka387, wka744⟩ kSX0_slot ⟨Nat.le_of_ble_eq_true rfl, Nat.le_of_ble_eq_true rfl⟩ rfl hl.1 rfl (Nat.le_of_ble_eq_true rfl) dX0_settleFight_101 (fun D H locs hH => ?_)
        refine lv_iload hx hb dX0_settleFight_104 (lv_at hl 1 rfl) ?_
        refine lv_if_ne (tgt := 114) hx hb dX0_settleFight_106 (by decide) (fun c_115 => ?_) (fun c_115 => ?_)
        · rw [if_neg c_115] at hF
          refine lv_iload hx hb dX0_settleFight_114 (lv_at hl 1 rfl) ?_
          obtain ⟨y_119, u_116, h_118, hF⟩ := ncl_some hF
          have e_117 := nST_eq h_118
          refine rs_15 hC hH e_117 wka260 ⟨Nat.le_of_ble_eq_true rfl, Nat.le_of_ble_eq_true rfl⟩ hl.1 (Nat.le_of_ble_eq_true rfl) ⟨Nat.zero_le _, Nat.zero_le _⟩ dX0_settleFight_116 (fun H locs hH => ?_)
          exact cr_v hC hH hr (nrt_eq hF) dX0_settleFight_119 hlocks
        · rw [if_pos c_115] at hF
          refine lv_iload hx hb dX0_settleFight_109 (lv_at hl 0 rfl) ?_
          refine lv_goto (tgt := 116) hx hb dX0_settleFight_111 (by decide) ?_
          obtain ⟨y_123, u_120, h_122, hF⟩ := ncl_some hF
          have e_121 := nST_eq h_122
          refine rs_15 hC hH e_121 wka260 ⟨Nat.le_of_ble_eq_true rfl, Nat.le_of_ble_eq_true rfl⟩ hl.1 (Nat.le_of_ble_eq_true rfl) ⟨Nat.zero_le _, Nat.zero_le _⟩ dX0_settleFight_116 (fun H locs hH => ?_)
          exact cr_v hC hH hr (nrt_eq hF) dX0_settleFight_119 hlocks
    · rw [if_pos c_66] at hF
      refine lv_iconst (v := 0) hx hb dX0_settleFight_26 (by decide) ?_
      refine lv_goto (tgt := 31) hx hb dX0_settleFight_27 (by decide) ?_
      refine lv_istore (lv' := [(6, .int 0), (5, .int x_4), (0, .ref (Q 6)), (1, .int a0), (2, .int a1), (3, .int a2), (4, .int a3)]) hx hb dX0_settleFight_31 hl (by decide) rfl (fun ls hl => ?_)
      refine lv_aload_n hx hb dX0_settleFight_33 rfl (lv_at hl 2 rfl) ?_
      refine cg_X0_20 hC hH dX0_settleFight_34 ?_
      refine lv_iload_n hx hb dX0_settleFight_37 rfl (lv_at hl 3 rfl) ?_
      refine lv_iload_n hx hb dX0_settleFight_38 rfl (lv_at hl 4 rfl) ?_
      obtain ⟨r_124, u_125, h_126, hF⟩ := ncl_some hF
      refine ccS_i (As := [.int a0, .int a1]) (rest := [.ref (Q 44)]) hC hH (n_X0_slot l G Z Q _ T u_2 u_125 r_124 a0 a1 _ h_126) ⟨wkc_X0_slot, wka259, wka387, wka744⟩ kSX0_slot ⟨Nat.le_of_ble_eq_true rfl, Nat.le_of_ble_eq_true rfl⟩ rfl hl.1 rfl (Nat.le_of_ble_eq_true rfl) dX0_settleFight_39 (fun D H locs hH => ?_)
      refine lv_iload_n hx hb dX0_settleFight_42 rfl (lv_at hl 5 rfl) ?_
      obtain ⟨y_130, u_127, h_129, hF⟩ := ncl_some hF
      have e_128 := nST_eq h_129
      refine rs_12 hC hH e_128 wka260 ⟨Nat.le_of_ble_eq_true rfl, Nat.le_of_ble_eq_true rfl⟩ hl.1 (Nat.le_of_ble_eq_true rfl) ⟨Nat.zero_le _, Nat.zero_le _⟩ dX0_settleFight_43 (fun H locs hH => ?_)
      refine lv_aload_n hx hb dX0_settleFight_46 rfl (lv_at hl 2 rfl) ?_
      refine cg_X0_24 hC hH dX0_settleFight_47 ?_
      refine lv_iload_n hx hb dX0_settleFight_50 rfl (lv_at hl 3 rfl) ?_
      refine lv_iload_n hx hb dX0_settleFight_51 rfl (lv_at hl 4 rfl) ?_
      obtain ⟨r_131, u_132, h_133, hF⟩ := ncl_some hF
      refine ccS_i (As := [.int a0, .int a1]) (rest := [.ref (Q 46)]) hC hH (n_X0_slot l G Z Q _ T u_127 u_132 r_131 a0 a1 _ h_133) ⟨wkc_X0_slot, wka259, wka387, wka744⟩ kSX0_slot ⟨Nat.le_of_ble_eq_true rfl, Nat.le_of_ble_eq_true rfl⟩ rfl hl.1 rfl (Nat.le_of_ble_eq_true rfl) dX0_settleFight_52 (fun D H locs hH => ?_)
      refine lv_iload hx hb dX0_settleFight_55 (lv_at hl 6 rfl) ?_
      obtain ⟨y_137, u_134, h_136, hF⟩ := ncl_some hF
      have e_135 := nST_eq h_136
      refine rs_13 hC hH e_135 wka260 ⟨Nat.le_of_ble_eq_true rfl, Nat.le_of_ble_eq_true rfl⟩ hl.1 (Nat.le_of_ble_eq_true rfl) ⟨Nat.zero_le _, Nat.zero_le _⟩ dX0_settleFight_57 (fun H locs hH => ?_)
      refine lv_aload_n hx hb dX0_settleFight_60 rfl (lv_at hl 2 rfl) ?_
      refine cg_X0_27 hC hH dX0_settleFight_61 ?_
      refine lv_iload_n hx hb dX0_settleFight_64 rfl (lv_at hl 3 rfl) ?_
      refine lv_iload_n hx hb dX0_settleFight_65 rfl (lv_at hl 4 rfl) ?_
      obtain ⟨r_138, u_139, h_140, hF⟩ := ncl_some hF
      refine ccS_i (As := [.int a0, .int a1]) (rest := [.ref (Q 48)]) hC hH (n_X0_slot l G Z Q _ T u_134 u_139 r_138 a0 a1 _ h_140) ⟨wkc_X0_slot, wka259, wka387, wka744⟩ kSX0_slot ⟨Nat.le_of_ble_eq_true rfl, Nat.le_of_ble_eq_true rfl⟩ rfl hl.1 rfl (Nat.le_of_ble_eq_true rfl) dX0_settleFight_66 (fun D H locs hH => ?_)
      refine lv_iload hx hb dX0_settleFight_69 (lv_at hl 1 rfl) ?_
      refine lv_iconst (v := 3) hx hb dX0_settleFight_71 (by decide) ?_
      refine lv_icmp_ne (tgt := 91) hx hb dX0_settleFight_72 (by decide) (fun c_141 => ?_) (fun c_141 => ?_)
      · rw [if_neg c_141] at hF
        refine lv_iconst (v := (-1)) hx hb dX0_settleFight_91 (by decide) ?_
        obtain ⟨y_145, u_142, h_144, hF⟩ := ncl_some hF
        have e_143 := nST_eq h_144
        refine rs_14 hC hH e_143 wka260 ⟨Nat.le_of_ble_eq_true rfl, Nat.le_of_ble_eq_true rfl⟩ hl.1 (Nat.le_of_ble_eq_true rfl) ⟨Nat.zero_le _, Nat.zero_le _⟩ dX0_settleFight_92 (fun H locs hH => ?_)
        refine lv_aload_n hx hb dX0_settleFight_95 rfl (lv_at hl 2 rfl) ?_
        refine cg_X0_30 hC hH dX0_settleFight_96 ?_
        refine lv_iload_n hx hb dX0_settleFight_99 rfl (lv_at hl 3 rfl) ?_
        refine lv_iload_n hx hb dX0_settleFight_100 rfl (lv_at hl 4 rfl) ?_
        obtain ⟨r_146, u_147, h_148, hF⟩ := ncl_some hF
        refine ccS_i (As := [.int a0, .int a1]) (rest := [.ref (Q 50)]) hC hH (n_X0_slot l G Z Q _ T u_142 u_147 r_146 a0 a1 _ h_148) ⟨wkc_X0_slot, wka259, wka387, wka744⟩ kSX0_slot ⟨Nat.le_of_ble_eq_true rfl, Nat.le_of_ble_eq_true rfl⟩ rfl hl.1 rfl (Nat.le_of_ble_eq_true rfl) dX0_settleFight_101 (fun D H locs hH => ?_)
        refine lv_iload hx hb dX0_settleFight_104 (lv_at hl 1 rfl) ?_
        refine lv_if_ne (tgt := 114) hx hb dX0_settleFight_106 (by decide) (fun c_149 => ?_) (fun c_149 => ?_)
        · rw [if_neg c_149] at hF
          refine lv_iload hx hb dX0_settleFight_114 (lv_at hl 1 rfl) ?_
          obtain ⟨y_153, u_150, h_152, hF⟩ := ncl_some hF
          have e_151 := nST_eq h_152
          refine rs_15 hC hH e_151 wka260 ⟨Nat.le_of_ble_eq_true rfl, Nat.le_of_ble_eq_true rfl⟩ hl.1 (Nat.le_of_ble_eq_true rfl) ⟨Nat.zero_le _, Nat.zero_le _⟩ dX0_settleFight_116 (fun H locs hH => ?_)
          exact cr_v hC hH hr (nrt_eq hF) dX0_settleFight_119 hlocks
        · rw [if_pos c_149] at hF
          refine lv_iload hx hb dX0_settleFight_109 (lv_at hl 0 rfl) ?_
          refine lv_goto (tgt := 116) hx hb dX0_settleFight_111 (by decide) ?_
          obtain ⟨y_157, u_154, h_156, hF⟩ := ncl_some hF
          have e_155 := nST_eq h_156
          refine rs_15 hC hH e_155 wka260 ⟨Nat.le_of_ble_eq_true rfl, Nat.le_of_ble_eq_true rfl⟩ hl.1 (Nat.le_of_ble_eq_true rfl) ⟨Nat.zero_le _, Nat.zero_le _⟩ dX0_settleFight_116 (fun H locs hH => ?_)
          exact cr_v hC hH hr (nrt_eq hF) dX0_settleFight_119 hlocks
      · rw [if_pos c_141] at hF
        refine lv_aload_n hx hb dX0_settleFight_75 rfl (lv_at hl 2 rfl) ?_
        refine cg_X0_11 hC hH dX0_settleFight_76 ?_
        refine lv_iload_n hx hb dX0_settleFight_79 rfl (lv_at hl 3 rfl) ?_
        refine lv_iload_n hx hb dX0_settleFight_80 rfl (lv_at hl 4 rfl) ?_
        refine lv_iconst (v := 3) hx hb dX0_settleFight_81 (by decide) ?_
        obtain ⟨r_158, u_159, h_160, hF⟩ := ncl_some hF
        refine ccS_i (As := [.int a0, .int a1, .int 3]) (rest := [.ref (Q 1), .int r_138, .ref (Q 48)]) hC hH (n_X1_ofFight l G Z Q _ T u_139 u_159 r_158 a0 a1 3 _ h_160) ⟨wkc_X1_ofFight, wka257, wka437, wka745⟩ kSX1_ofFight ⟨Nat.le_of_ble_eq_true rfl, Nat.le_of_ble_eq_true rfl⟩ rfl hl.1 rfl (Nat.le_of_ble_eq_true rfl) dX0_settleFight_82 (fun D H locs hH => ?_)
        refine bat (i := 1) (j := 11) hC hH rfl rfl (by decide) wka213 ⟨Nat.le_of_ble_eq_true rfl, Nat.le_of_ble_eq_true rfl⟩ hl.1 (Nat.le_of_ble_eq_true rfl) ⟨Nat.zero_le _, Nat.zero_le _⟩ dX0_settleFight_85 ?_
        obtain ⟨x_161, u_162, h_163, hF⟩ := ncl_some hF
        obtain ⟨e_164, rfl⟩ := nGT_eq h_163
        refine gx_ti e_164 ?_
        refine lv_goto (tgt := 92) hx hb dX0_settleFight_88 (by decide) ?_
        obtain ⟨y_168, u_165, h_167, hF⟩ := ncl_some hF
        have e_166 := nST_eq h_167
        refine rs_14 hC hH e_166 wka260 ⟨Nat.le_of_ble_eq_true rfl, Nat.le_of_ble_eq_true rfl⟩ hl.1 (Nat.le_of_ble_eq_true rfl) ⟨Nat.zero_le _, Nat.zero_le _⟩ dX0_settleFight_92 (fun H locs hH => ?_)
        refine lv_aload_n hx hb dX0_settleFight_95 rfl (lv_at hl 2 rfl) ?_
        refine cg_X0_30 hC hH dX0_settleFight_96 ?_
        refine lv_iload_n hx hb dX0_settleFight_99 rfl (lv_at hl 3 rfl) ?_
        refine lv_iload_n hx hb dX0_settleFight_100 rfl (lv_at hl 4 rfl) ?_
        obtain ⟨r_169, u_170, h_171, hF⟩ := ncl_some hF
        refine ccS_i (As := [.int a0, .int a1]) (rest := [.ref (Q 50)]) hC hH (n_X0_slot l G Z Q _ T u_165 u_170 r_169 a0 a1 _ h_171) ⟨wkc_X0_slot, wka259, wka387, wka744⟩ kSX0_slot ⟨Nat.le_of_ble_eq_true rfl, Nat.le_of_ble_eq_true rfl⟩ rfl hl.1 rfl (Nat.le_of_ble_eq_true rfl) dX0_settleFight_101 (fun D H locs hH => ?_)
        refine lv_iload hx hb dX0_settleFight_104 (lv_at hl 1 rfl) ?_
        refine lv_if_ne (tgt := 114) hx hb dX0_settleFight_106 (by decide) (fun c_172 => ?_) (fun c_172 => ?_)
        · rw [if_neg c_172] at hF
          refine lv_iload hx hb dX0_settleFight_114 (lv_at hl 1 rfl) ?_
          obtain ⟨y_176, u_173, h_175, hF⟩ := ncl_some hF
          have e_174 := nST_eq h_175
          refine rs_15 hC hH e_174 wka260 ⟨Nat.le_of_ble_eq_true rfl, Nat.le_of_ble_eq_true rfl⟩ hl.1 (Nat.le_of_ble_eq_true rfl) ⟨Nat.zero_le _, Nat.zero_le _⟩ dX0_settleFight_116 (fun H locs hH => ?_)
          exact cr_v hC hH hr (nrt_eq hF) dX0_settleFight_119 hlocks
        · rw [if_pos c_172] at hF
          refine lv_iload hx hb dX0_settleFight_109 (lv_at hl 0 rfl) ?_
          refine lv_goto (tgt := 116) hx hb dX0_settleFight_111 (by decide) ?_
          obtain ⟨y_180, u_177, h_179, hF⟩ := ncl_some hF
          have e_178 := nST_eq h_179
          refine rs_15 hC hH e_178 wka260 ⟨Nat.le_of_ble_eq_true rfl, Nat.le_of_ble_eq_true rfl⟩ hl.1 (Nat.le_of_ble_eq_true rfl) ⟨Nat.zero_le _, Nat.zero_le _⟩ dX0_settleFight_116 (fun H locs hH => ?_)
          exact cr_v hC hH hr (nrt_eq hF) dX0_settleFight_119 hlocks
def x_X0_lowerBelow (a0 : Int32) (a1 : Int32) : NG Int32 := nrt (2 * (a1 - (a0 / 2)))
set_option maxHeartbeats 4000000 in
set_option maxRecDepth 100000 in
theorem n_X0_lowerBelow (l : Launch) (G : gG) (Z : gC) (Q : Nat → Nat) (D : Nat × Nat) (T : va_W) (u u1 : MS) (r : Int32) (a0 : Int32) (a1 : Int32) (sz : Nat) (hF : x_X0_lowerBelow a0 a1 u = some (r, u1)) : Met l yX0_lowerBelow (Cond.code yX0_lowerBelow cX0_lowerBelow 2 (some .int) :: wK) { frames := 0, cells := 0, slots := 0, locals := 0 } (va_Pc [.int a0, .int a1] (cPM G Z Q D T u sz)) (cQi G Q T u1 r (va_A (cW G Q D T u) sz)) 0 0 (va_A (cW G Q D T u) sz) := by
  refine Met.ofW (cc := cX0_lowerBelow) (maxL := 2) (ret := (some .int)) (by decide) rfl ?_
  intro p e s m args below meth c s₁ B hml hv
  obtain ⟨rfl, rfl, hP, hB, hD0, hE⟩ := hv
  have hr := B.returns
  have hlocks := B.notSynchronized
  have hts := atoms_spec (ws := Cond.code yX0_lowerBelow cX0_lowerBelow 2 (some .int) :: wK) B.pre
  have hD := hD0.self (sz := s.heap.size)
  have hA : ∀ q : Nat, s.heap.size ≤ q → va_A (cW G Q D T u) s.heap.size q := fun q h => Or.inr h
  generalize va_A (cW G Q D T u) s.heap.size = A at hD hA hE ⊢
  have hC : cX p c cX0_lowerBelow 2 s m _ RX0 G Z A := ⟨B.exec, B.bytes, hml, findClass_of_methodNamed B.named, fun w h => hts w (List.mem_cons_of_mem _ h), hB, hE, hA⟩
  have hx := hC.1
  have hb := hC.2.1
  have hH : cH G Q D T A u s s.heap [] := ⟨hP, hD, va_S.rf⟩
  have hl := lv_entry ([.int a0, .int a1]) (n := 2) (Nat.le_of_ble_eq_true rfl)
  rw [lg_entry_eq]
  generalize (lg_sl ([.int a0, .int a1]) ++ List.replicate (2 - (lg_sl ([.int a0, .int a1])).length) Slot.unset).toArray = ls at hl ⊢
  have hl : lv_has ls 2 [(0, .int a0), (1, .int a1)] := hl
  unfold x_X0_lowerBelow at hF
  refine lv_iconst (v := 2) hx hb dX0_lowerBelow_0 (by decide) ?_
  refine lv_iload_n hx hb dX0_lowerBelow_1 rfl (lv_at hl 1 rfl) ?_
  refine lv_iload_n hx hb dX0_lowerBelow_2 rfl (lv_at hl 0 rfl) ?_
  refine lv_iconst (v := 2) hx hb dX0_lowerBelow_3 (by decide) ?_
  refine lv_idiv hx hb dX0_lowerBelow_4 (by decide) ?_
  refine lv_isub hx hb dX0_lowerBelow_5 ?_
  refine lv_imul hx hb dX0_lowerBelow_6 ?_
  exact cr_i hC hH hr (nrt_eq hF) dX0_lowerBelow_7 hlocks
def xl_X0_settleTree_2 : Nat → Int32 → Int32 → Int32 → (Int32 → Int32 → Int32 → NG Int32) → NG Int32
  | 0, _, _, _, _ => fun _ => none
  | n2 + 1, v1, v2, v3, K2_88 => (if (v2 / 2) ≤ v3 then K2_88 v1 v2 v3 else ncl (x_X1_ofClass v1 (4 + (2 * v3))) (fun r_2 => ncl (nGT 0 2088 r_2) (fun x_5 => ncl (x_X1_ofClass v1 ((4 + (2 * v3)) + 1)) (fun r_9 => ncl (nGT 0 2088 r_9) (fun x_12 => (if x_5 = (-1) then ncl (x_X0_settleWalk v1 v3 x_5 x_12) (fun r_17 => nli (v3 + 1) (fun x_20 => xl_X0_settleTree_2 n2 v1 v2 x_20 K2_88)) else (if x_12 = (-1) then ncl (x_X0_settleWalk v1 v3 x_5 x_12) (fun r_28 => nli (v3 + 1) (fun x_31 => xl_X0_settleTree_2 n2 v1 v2 x_31 K2_88)) else ncl (x_X0_settleFight v1 v3 x_5 x_12) (fun r_23 => nli (v3 + 1) (fun x_26 => xl_X0_settleTree_2 n2 v1 v2 x_26 K2_88)))))))))
def xl_X0_settleTree_92 : Nat → Int32 → Int32 → Int32 → (Int32 → Int32 → Int32 → NG Int32) → NG Int32
  | 0, _, _, _, _ => fun _ => none
  | n92 + 1, v1, v2, v3, K92_134 => (if (v2 - 1) ≤ v3 then K92_134 v1 v2 v3 else ncl (x_X0_lowerBelow v2 v3) (fun r_36 => ncl (x_X0_winnerOf v1 r_36) (fun r_39 => ncl (x_X0_winnerOf v1 (r_36 + 1)) (fun r_42 => ncl (x_X0_settleFight v1 v3 r_39 r_42) (fun r_45 => nli (v3 + 1) (fun x_48 => xl_X0_settleTree_92 n92 v1 v2 x_48 K92_134))))))
def x_X0_settleTree (a0 : Int32) (a1 : Int32) : NG Int32 := xl_X0_settleTree_2 fuel a0 a1 0 (fun v1 v2 v3 => nli (v2 / 2) (fun x_33 => xl_X0_settleTree_92 fuel v1 v2 x_33 (fun v1 v2 v3 => nrt 0)))
set_option maxHeartbeats 4000000 in
set_option maxRecDepth 100000 in
theorem n_X0_settleTree (l : Launch) (G : gG) (Z : gC) (Q : Nat → Nat) (D : Nat × Nat) (T : va_W) (u u1 : MS) (r : Int32) (a0 : Int32) (a1 : Int32) (sz : Nat) (hF : x_X0_settleTree a0 a1 u = some (r, u1)) : Met l yX0_settleTree (Cond.code yX0_settleTree cX0_settleTree 6 none :: wK) { frames := 3, cells := 0, slots := 0, locals := 69 } (va_Pc [.ref (Q 6), .int a0, .int a1] (cPM G Z Q D T u sz)) (cQv G Q T u1 (va_A (cW G Q D T u) sz)) 0 0 (va_A (cW G Q D T u) sz) := by
  refine Met.ofW (cc := cX0_settleTree) (maxL := 6) (ret := none) (by decide) rfl ?_
  intro p e s m args below meth c s₁ B hml hv
  obtain ⟨rfl, rfl, hP, hB, hD0, hE⟩ := hv
  have hr := B.returns
  have hlocks := B.notSynchronized
  have hts := atoms_spec (ws := Cond.code yX0_settleTree cX0_settleTree 6 none :: wK) B.pre
  have hD := hD0.self (sz := s.heap.size)
  have hA : ∀ q : Nat, s.heap.size ≤ q → va_A (cW G Q D T u) s.heap.size q := fun q h => Or.inr h
  generalize va_A (cW G Q D T u) s.heap.size = A at hD hA hE ⊢
  have hC : cX p c cX0_settleTree 6 s m _ RX0 G Z A := ⟨B.exec, B.bytes, hml, findClass_of_methodNamed B.named, fun w h => hts w (List.mem_cons_of_mem _ h), hB, hE, hA⟩
  have hx := hC.1
  have hb := hC.2.1
  have hH : cH G Q D T A u s s.heap [] := ⟨hP, hD, va_S.rf⟩
  have hl := lv_entry ([.ref (Q 6), .int a0, .int a1]) (n := 6) (Nat.le_of_ble_eq_true rfl)
  rw [lg_entry_eq]
  generalize (lg_sl ([.ref (Q 6), .int a0, .int a1]) ++ List.replicate (6 - (lg_sl ([.ref (Q 6), .int a0, .int a1])).length) Slot.unset).toArray = ls at hl ⊢
  have hl : lv_has ls 6 [(0, .ref (Q 6)), (1, .int a0), (2, .int a1)] := hl
  unfold x_X0_settleTree at hF
  refine lv_iconst (v := 0) hx hb dX0_settleTree_0 (by decide) ?_
  refine lv_istore_n (lv' := [(3, .int 0), (0, .ref (Q 6)), (1, .int a0), (2, .int a1)]) hx hb dX0_settleTree_1 rfl hl (by decide) rfl (fun ls hl => ?_)
  have hL2 : ∀ (K2_88 : Int32 → Int32 → Int32 → NG Int32), (∀ (v1 v2 v3 : Int32) (u : MS) (D : Nat × Nat) (H : Heap) (locs : List Loc) (ls : Array Slot), lv_has ls 6 [(0, .ref (Q 6)), (1, .int v1), (2, .int v2), (3, .int v3)] → cH G Q D T A u s H locs → K2_88 v1 v2 v3 u = some (r, u1) → W p l e (headSpec (Cond.code yX0_settleTree cX0_settleTree 6 none :: wK) { frames := 3, cells := 0, slots := 0, locals := 69 }).room s m [.ref (Q 6), .int a0, .int a1].toArray below meth c H locs 0 0 (MQ below (cQv G Q T u1 A) [.ref (Q 6), .int a0, .int a1].toArray s 0 0 A) (F0 m 88 ls [])) → ∀ (n2 : Nat) (v1 v2 v3 : Int32) (u : MS) (D : Nat × Nat) (H : Heap) (locs : List Loc) (ls : Array Slot), lv_has ls 6 [(0, .ref (Q 6)), (1, .int v1), (2, .int v2), (3, .int v3)] → cH G Q D T A u s H locs → xl_X0_settleTree_2 n2 v1 v2 v3 K2_88 u = some (r, u1) → W p l e (headSpec (Cond.code yX0_settleTree cX0_settleTree 6 none :: wK) { frames := 3, cells := 0, slots := 0, locals := 69 }).room s m [.ref (Q 6), .int a0, .int a1].toArray below meth c H locs 0 0 (MQ below (cQv G Q T u1 A) [.ref (Q 6), .int a0, .int a1].toArray s 0 0 A) (F0 m 2 ls []) := by
    intro K2_88 hK2_88 n2
    induction n2 with
    | zero => intro v1 v2 v3 u D H locs ls hl hH hF; cases hF
    | succ n2 ih2 =>
      intro v1 v2 v3 u D H locs ls hl hH hF
      unfold xl_X0_settleTree_2 at hF
      refine lv_iload_n hx hb dX0_settleTree_2 rfl (lv_at hl 3 rfl) ?_
      refine lv_iload_n hx hb dX0_settleTree_3 rfl (lv_at hl 2 rfl) ?_
      refine lv_iconst (v := 2) hx hb dX0_settleTree_4 (by decide) ?_
      refine lv_idiv hx hb dX0_settleTree_5 (by decide) ?_
      refine lv_icmp_ge (tgt := 88) hx hb dX0_settleTree_6 (by decide) (fun c_1 => ?_) (fun c_1 => ?_)
      · rw [if_pos c_1] at hF
        exact hK2_88 v1 v2 v3 u _ _ _ _ (lv_sub hl [0, 1, 2, 3] rfl) hH hF
      · rw [if_neg c_1] at hF
        refine lv_aload_n hx hb dX0_settleTree_9 rfl (lv_at hl 0 rfl) ?_
        refine cg_X0_11 hC hH dX0_settleTree_10 ?_
        refine lv_iload_n hx hb dX0_settleTree_13 rfl (lv_at hl 1 rfl) ?_
        refine lv_iconst (v := 4) hx hb dX0_settleTree_14 (by decide) ?_
        refine lv_iconst (v := 2) hx hb dX0_settleTree_15 (by decide) ?_
        refine lv_iload_n hx hb dX0_settleTree_16 rfl (lv_at hl 3 rfl) ?_
        refine lv_imul hx hb dX0_settleTree_17 ?_
        refine lv_iadd hx hb dX0_settleTree_18 ?_
        obtain ⟨r_2, u_3, h_4, hF⟩ := ncl_some hF
        refine ccS_i (As := [.int v1, .int (4 + (2 * v3))]) (rest := [.ref (Q 1)]) hC hH (n_X1_ofClass l G Z Q _ T u u_3 r_2 v1 (4 + (2 * v3)) _ h_4) ⟨wkc_X1_ofClass, wka212, wka435, wka745⟩ kSX1_ofClass ⟨Nat.le_of_ble_eq_true rfl, Nat.le_of_ble_eq_true rfl⟩ rfl hl.1 rfl (Nat.le_of_ble_eq_true rfl) dX0_settleTree_19 (fun D H locs hH => ?_)
        refine bat (i := 1) (j := 11) hC hH rfl rfl (by decide) wka213 ⟨Nat.le_of_ble_eq_true rfl, Nat.le_of_ble_eq_true rfl⟩ hl.1 (Nat.le_of_ble_eq_true rfl) ⟨Nat.zero_le _, Nat.zero_le _⟩ dX0_settleTree_22 ?_
        obtain ⟨x_5, u_6, h_7, hF⟩ := ncl_some hF
        obtain ⟨e_8, rfl⟩ := nGT_eq h_7
        refine gx_ti e_8 ?_
        refine lv_istore (lv' := [(4, .int x_5), (0, .ref (Q 6)), (1, .int v1), (2, .int v2), (3, .int v3)]) hx hb dX0_settleTree_25 hl (by decide) rfl (fun ls hl => ?_)
        refine lv_aload_n hx hb dX0_settleTree_27 rfl (lv_at hl 1 rfl) ?_
        refine cg_X0_11 hC hH dX0_settleTree_28 ?_
        refine lv_iload_n hx hb dX0_settleTree_31 rfl (lv_at hl 2 rfl) ?_
        refine lv_iconst (v := 4) hx hb dX0_settleTree_32 (by decide) ?_
        refine lv_iconst (v := 2) hx hb dX0_settleTree_33 (by decide) ?_
        refine lv_iload_n hx hb dX0_settleTree_34 rfl (lv_at hl 4 rfl) ?_
        refine lv_imul hx hb dX0_settleTree_35 ?_
        refine lv_iadd hx hb dX0_settleTree_36 ?_
        refine lv_iconst (v := 1) hx hb dX0_settleTree_37 (by decide) ?_
        refine lv_iadd hx hb dX0_settleTree_38 ?_
        obtain ⟨r_9, u_10, h_11, hF⟩ := ncl_some hF
        refine ccS_i (As := [.int v1, .int ((4 + (2 * v3)) + 1)]) (rest := [.ref (Q 1)]) hC hH (n_X1_ofClass l G Z Q _ T u_3 u_10 r_9 v1 ((4 + (2 * v3)) + 1) _ h_11) ⟨wkc_X1_ofClass, wka212, wka435, wka745⟩ kSX1_ofClass ⟨Nat.le_of_ble_eq_true rfl, Nat.le_of_ble_eq_true rfl⟩ rfl hl.1 rfl (Nat.le_of_ble_eq_true rfl) dX0_settleTree_39 (fun D H locs hH => ?_)
        refine bat (i := 1) (j := 11) hC hH rfl rfl (by decide) wka213 ⟨Nat.le_of_ble_eq_true rfl, Nat.le_of_ble_eq_true rfl⟩ hl.1 (Nat.le_of_ble_eq_true rfl) ⟨Nat.zero_le _, Nat.zero_le _⟩ dX0_settleTree_42 ?_
        obtain ⟨x_12, u_13, h_14, hF⟩ := ncl_some hF
        obtain ⟨e_15, rfl⟩ := nGT_eq h_14
        refine gx_ti e_15 ?_
        refine lv_istore (lv' := [(5, .int x_12), (4, .int x_5), (0, .ref (Q 6)), (1, .int v1), (2, .int v2), (3, .int v3)]) hx hb dX0_settleTree_45 hl (by decide) rfl (fun ls hl => ?_)
        refine lv_iload hx hb dX0_settleTree_47 (lv_at hl 1 rfl) ?_
        refine lv_iconst (v := (-1)) hx hb dX0_settleTree_49 (by decide) ?_
        refine lv_icmp_eq (tgt := 59) hx hb dX0_settleTree_50 (by decide) (fun c_16 => ?_) (fun c_16 => ?_)
        · rw [if_pos c_16] at hF
          refine lv_aload_n hx hb dX0_settleTree_59 rfl (lv_at hl 2 rfl) ?_
          refine lv_iload_n hx hb dX0_settleTree_60 rfl (lv_at hl 3 rfl) ?_
          refine lv_iload_n hx hb dX0_settleTree_61 rfl (lv_at hl 5 rfl) ?_
          refine lv_iload hx hb dX0_settleTree_62 (lv_at hl 1 rfl) ?_
          refine lv_iload hx hb dX0_settleTree_64 (lv_at hl 0 rfl) ?_
          obtain ⟨r_17, u_18, h_19, hF⟩ := ncl_some hF
          refine ccV_v (q0 := 6) (As := [.int v1, .int v3, .int x_5, .int x_12]) (rest := []) hC hH (n_X0_settleWalk l G Z Q _ T u_10 u_18 r_17 v1 v3 x_5 x_12 _ h_19) rfl rfl ⟨wkc_X0_settleWalk, wka262, wka424, wka425, wka744⟩ kVX0_settleWalk ⟨Nat.le_of_ble_eq_true rfl, Nat.le_of_ble_eq_true rfl⟩ rfl hl.1 rfl (Nat.le_of_ble_eq_true rfl) dX0_settleTree_66 (fun D H locs hH => ?_)
          refine lv_goto (tgt := 82) hx hb dX0_settleTree_69 (by decide) ?_
          obtain ⟨x_20, e_21, hF⟩ := nli_some hF
          refine lv_iinc (v := x_20) (lv' := [(3, .int x_20), (5, .int x_12), (4, .int x_5), (0, .ref (Q 6)), (1, .int v1), (2, .int v2)]) hx hb dX0_settleTree_82 hl (k := 5) rfl e_21 (by decide) rfl (fun ls hl => ?_)
          refine lv_goto (tgt := 2) hx hb dX0_settleTree_85 (by decide) ?_
          exact ih2 v1 v2 x_20 u_18 _ _ _ _ (lv_sub hl [3, 4, 5, 0] rfl) hH hF
        · rw [if_neg c_16] at hF
          refine lv_iload hx hb dX0_settleTree_53 (lv_at hl 0 rfl) ?_
          refine lv_iconst (v := (-1)) hx hb dX0_settleTree_55 (by decide) ?_
          refine lv_icmp_ne (tgt := 72) hx hb dX0_settleTree_56 (by decide) (fun c_22 => ?_) (fun c_22 => ?_)
          · rw [if_neg c_22] at hF
            refine lv_aload_n hx hb dX0_settleTree_72 rfl (lv_at hl 2 rfl) ?_
            refine lv_iload_n hx hb dX0_settleTree_73 rfl (lv_at hl 3 rfl) ?_
            refine lv_iload_n hx hb dX0_settleTree_74 rfl (lv_at hl 5 rfl) ?_
            refine lv_iload hx hb dX0_settleTree_75 (lv_at hl 1 rfl) ?_
            refine lv_iload hx hb dX0_settleTree_77 (lv_at hl 0 rfl) ?_
            obtain ⟨r_23, u_24, h_25, hF⟩ := ncl_some hF
            refine ccV_v (q0 := 6) (As := [.int v1, .int v3, .int x_5, .int x_12]) (rest := []) hC hH (n_X0_settleFight l G Z Q _ T u_10 u_24 r_23 v1 v3 x_5 x_12 _ h_25) rfl rfl ⟨wkc_X0_settleFight, wka256, wka426, wka427, wka744⟩ kVX0_settleFight ⟨Nat.le_of_ble_eq_true rfl, Nat.le_of_ble_eq_true rfl⟩ rfl hl.1 rfl (Nat.le_of_ble_eq_true rfl) dX0_settleTree_79 (fun D H locs hH => ?_)
            obtain ⟨x_26, e_27, hF⟩ := nli_some hF
            refine lv_iinc (v := x_26) (lv' := [(3, .int x_26), (5, .int x_12), (4, .int x_5), (0, .ref (Q 6)), (1, .int v1), (2, .int v2)]) hx hb dX0_settleTree_82 hl (k := 5) rfl e_27 (by decide) rfl (fun ls hl => ?_)
            refine lv_goto (tgt := 2) hx hb dX0_settleTree_85 (by decide) ?_
            exact ih2 v1 v2 x_26 u_24 _ _ _ _ (lv_sub hl [3, 4, 5, 0] rfl) hH hF
          · rw [if_pos c_22] at hF
            refine lv_aload_n hx hb dX0_settleTree_59 rfl (lv_at hl 2 rfl) ?_
            refine lv_iload_n hx hb dX0_settleTree_60 rfl (lv_at hl 3 rfl) ?_
            refine lv_iload_n hx hb dX0_settleTree_61 rfl (lv_at hl 5 rfl) ?_
            refine lv_iload hx hb dX0_settleTree_62 (lv_at hl 1 rfl) ?_
            refine lv_iload hx hb dX0_settleTree_64 (lv_at hl 0 rfl) ?_
            obtain ⟨r_28, u_29, h_30, hF⟩ := ncl_some hF
            refine ccV_v (q0 := 6) (As := [.int v1, .int v3, .int x_5, .int x_12]) (rest := []) hC hH (n_X0_settleWalk l G Z Q _ T u_10 u_29 r_28 v1 v3 x_5 x_12 _ h_30) rfl rfl ⟨wkc_X0_settleWalk, wka262, wka424, wka425, wka744⟩ kVX0_settleWalk ⟨Nat.le_of_ble_eq_true rfl, Nat.le_of_ble_eq_true rfl⟩ rfl hl.1 rfl (Nat.le_of_ble_eq_true rfl) dX0_settleTree_66 (fun D H locs hH => ?_)
            refine lv_goto (tgt := 82) hx hb dX0_settleTree_69 (by decide) ?_
            obtain ⟨x_31, e_32, hF⟩ := nli_some hF
            refine lv_iinc (v := x_31) (lv' := [(3, .int x_31), (5, .int x_12), (4, .int x_5), (0, .ref (Q 6)), (1, .int v1), (2, .int v2)]) hx hb dX0_settleTree_82 hl (k := 5) rfl e_32 (by decide) rfl (fun ls hl => ?_)
            refine lv_goto (tgt := 2) hx hb dX0_settleTree_85 (by decide) ?_
            exact ih2 v1 v2 x_31 u_29 _ _ _ _ (lv_sub hl [3, 4, 5, 0] rfl) hH hF
  refine hL2 _ (fun v1 v2 v3 u D H locs ls hl hH hF => ?_) fuel a0 a1 0 u _ _ _ _ (lv_sub hl [1, 2, 3, 0] rfl) hH hF
  refine lv_iload_n hx hb dX0_settleTree_88 rfl (lv_at hl 2 rfl) ?_
  refine lv_iconst (v := 2) hx hb dX0_settleTree_89 (by decide) ?_
  refine lv_idiv hx hb dX0_settleTree_90 (by decide) ?_
  obtain ⟨x_33, e_34, hF⟩ := nli_some hF
  refine gx_ti e_34 ?_
  refine lv_istore_n (lv' := [(3, .int x_33), (0, .ref (Q 6)), (1, .int v1), (2, .int v2)]) hx hb dX0_settleTree_91 rfl hl (by decide) rfl (fun ls hl => ?_)
  have hL92 : ∀ (K92_134 : Int32 → Int32 → Int32 → NG Int32), (∀ (v1 v2 v3 : Int32) (u : MS) (D : Nat × Nat) (H : Heap) (locs : List Loc) (ls : Array Slot), lv_has ls 6 [(0, .ref (Q 6)), (1, .int v1), (2, .int v2), (3, .int v3)] → cH G Q D T A u s H locs → K92_134 v1 v2 v3 u = some (r, u1) → W p l e (headSpec (Cond.code yX0_settleTree cX0_settleTree 6 none :: wK) { frames := 3, cells := 0, slots := 0, locals := 69 }).room s m [.ref (Q 6), .int a0, .int a1].toArray below meth c H locs 0 0 (MQ below (cQv G Q T u1 A) [.ref (Q 6), .int a0, .int a1].toArray s 0 0 A) (F0 m 134 ls [])) → ∀ (n92 : Nat) (v1 v2 v3 : Int32) (u : MS) (D : Nat × Nat) (H : Heap) (locs : List Loc) (ls : Array Slot), lv_has ls 6 [(0, .ref (Q 6)), (1, .int v1), (2, .int v2), (3, .int v3)] → cH G Q D T A u s H locs → xl_X0_settleTree_92 n92 v1 v2 v3 K92_134 u = some (r, u1) → W p l e (headSpec (Cond.code yX0_settleTree cX0_settleTree 6 none :: wK) { frames := 3, cells := 0, slots := 0, locals := 69 }).room s m [.ref (Q 6), .int a0, .int a1].toArray below meth c H locs 0 0 (MQ below (cQv G Q T u1 A) [.ref (Q 6), .int a0, .int a1].toArray s 0 0 A) (F0 m 92 ls []) := by
    intro K92_134 hK92_134 n92
    induction n92 with
    | zero => intro v1 v2 v3 u D H locs ls hl hH hF; cases hF
    | succ n92 ih92 =>
      intro v1 v2 v3 u D H locs ls hl hH hF
      unfold xl_X0_settleTree_92 at hF
      refine lv_iload_n hx hb dX0_settleTree_92 rfl (lv_at hl 3 rfl) ?_
      refine lv_iload_n hx hb dX0_settleTree_93 rfl (lv_at hl 2 rfl) ?_
      refine lv_iconst (v := 1) hx hb dX0_settleTree_94 (by decide) ?_
      refine lv_isub hx hb dX0_settleTree_95 ?_
      refine lv_icmp_ge (tgt := 134) hx hb dX0_settleTree_96 (by decide) (fun c_35 => ?_) (fun c_35 => ?_)
      · rw [if_pos c_35] at hF
        exact hK92_134 v1 v2 v3 u _ _ _ _ (lv_sub hl [0, 1, 2, 3] rfl) hH hF
      · rw [if_neg c_35] at hF
        refine lv_iload_n hx hb dX0_settleTree_99 rfl (lv_at hl 2 rfl) ?_
        refine lv_iload_n hx hb dX0_settleTree_100 rfl (lv_at hl 3 rfl) ?_
        obtain ⟨r_36, u_37, h_38, hF⟩ := ncl_some hF
        refine ccS_i (As := [.int v2, .int v3]) (rest := []) hC hH (n_X0_lowerBelow l G Z Q _ T u u_37 r_36 v2 v3 _ h_38) ⟨wkc_X0_lowerBelow, wka263, wka419, wka744⟩ kSX0_lowerBelow ⟨Nat.le_of_ble_eq_true rfl, Nat.le_of_ble_eq_true rfl⟩ rfl hl.1 rfl (Nat.le_of_ble_eq_true rfl) dX0_settleTree_101 (fun D H locs hH => ?_)
        refine lv_istore (lv' := [(4, .int r_36), (0, .ref (Q 6)), (1, .int v1), (2, .int v2), (3, .int v3)]) hx hb dX0_settleTree_104 hl (by decide) rfl (fun ls hl => ?_)
        refine lv_aload_n hx hb dX0_settleTree_106 rfl (lv_at hl 1 rfl) ?_
        refine lv_iload_n hx hb dX0_settleTree_107 rfl (lv_at hl 2 rfl) ?_
        refine lv_iload_n hx hb dX0_settleTree_108 rfl (lv_at hl 4 rfl) ?_
        refine lv_aload_n hx hb dX0_settleTree_109 rfl (lv_at hl 1 rfl) ?_
        refine lv_iload_n hx hb dX0_settleTree_110 rfl (lv_at hl 2 rfl) ?_
        refine lv_iload hx hb dX0_settleTree_111 (lv_at hl 0 rfl) ?_
        obtain ⟨r_39, u_40, h_41, hF⟩ := ncl_some hF
        refine ccV_i (q0 := 6) (As := [.int v1, .int r_36]) (rest := [.int v3, .int v1, .ref (Q 6)]) hC hH (n_X0_winnerOf l G Z Q _ T u_37 u_40 r_39 v1 r_36 _ h_41) rfl rfl ⟨wkc_X0_winnerOf, wka264, wka405, wka406, wka744⟩ kVX0_winnerOf ⟨Nat.le_of_ble_eq_true rfl, Nat.le_of_ble_eq_true rfl⟩ rfl hl.1 rfl (Nat.le_of_ble_eq_true rfl) dX0_settleTree_113 (fun D H locs hH => ?_)
        refine lv_aload_n hx hb dX0_settleTree_116 rfl (lv_at hl 1 rfl) ?_
        refine lv_iload_n hx hb dX0_settleTree_117 rfl (lv_at hl 2 rfl) ?_
        refine lv_iload hx hb dX0_settleTree_118 (lv_at hl 0 rfl) ?_
        refine lv_iconst (v := 1) hx hb dX0_settleTree_120 (by decide) ?_
        refine lv_iadd hx hb dX0_settleTree_121 ?_
        obtain ⟨r_42, u_43, h_44, hF⟩ := ncl_some hF
        refine ccV_i (q0 := 6) (As := [.int v1, .int (r_36 + 1)]) (rest := [.int r_39, .int v3, .int v1, .ref (Q 6)]) hC hH (n_X0_winnerOf l G Z Q _ T u_40 u_43 r_42 v1 (r_36 + 1) _ h_44) rfl rfl ⟨wkc_X0_winnerOf, wka264, wka405, wka406, wka744⟩ kVX0_winnerOf ⟨Nat.le_of_ble_eq_true rfl, Nat.le_of_ble_eq_true rfl⟩ rfl hl.1 rfl (Nat.le_of_ble_eq_true rfl) dX0_settleTree_122 (fun D H locs hH => ?_)
        obtain ⟨r_45, u_46, h_47, hF⟩ := ncl_some hF
        refine ccV_v (q0 := 6) (As := [.int v1, .int v3, .int r_39, .int r_42]) (rest := []) hC hH (n_X0_settleFight l G Z Q _ T u_43 u_46 r_45 v1 v3 r_39 r_42 _ h_47) rfl rfl ⟨wkc_X0_settleFight, wka256, wka426, wka427, wka744⟩ kVX0_settleFight ⟨Nat.le_of_ble_eq_true rfl, Nat.le_of_ble_eq_true rfl⟩ rfl hl.1 rfl (Nat.le_of_ble_eq_true rfl) dX0_settleTree_125 (fun D H locs hH => ?_)
        obtain ⟨x_48, e_49, hF⟩ := nli_some hF
        refine lv_iinc (v := x_48) (lv' := [(3, .int x_48), (4, .int r_36), (0, .ref (Q 6)), (1, .int v1), (2, .int v2)]) hx hb dX0_settleTree_128 hl (k := 4) rfl e_49 (by decide) rfl (fun ls hl => ?_)
        refine lv_goto (tgt := 92) hx hb dX0_settleTree_131 (by decide) ?_
        exact ih92 v1 v2 x_48 u_46 _ _ _ _ (lv_sub hl [2, 3, 4, 0] rfl) hH hF
  refine hL92 _ (fun v1 v2 v3 u D H locs ls hl hH hF => ?_) fuel v1 v2 x_33 u _ _ _ _ (lv_sub hl [1, 2, 3, 0] rfl) hH hF
  exact cr_v hC hH hr (nrt_eq hF) dX0_settleTree_134 hlocks
def xl_X0_findLosersTo_21 : Nat → Int32 → Int32 → Int32 → Int32 → Int32 → Int32 → (Int32 → Int32 → Int32 → Int32 → Int32 → Int32 → NG Int32) → NG Int32
  | 0, _, _, _, _, _, _, _ => fun _ => none
  | n21 + 1, v1, v2, v3, v4, v5, v6, K21_107 => (if v6 < 0 then K21_107 v1 v2 v3 v4 v5 v6 else (if v4 = (-1) then K21_107 v1 v2 v3 v4 v5 v6 else ncl (x_X0_whiteOf v1 v5) (fun r_12 => (if r_12 = v4 then (if (1 : Int32) = 0 then ncl (x_X0_whiteOf v1 v5) (fun r_56 => ncl (nST 17 4 v6 r_56) (fun _ => ncl (x_X0_lowerBelow v2 v5) (fun r_63 => (if (1 : Int32) = 0 then nli (r_63 + 1) (fun x_67 => nli (v6 + (-1)) (fun x_69 => xl_X0_findLosersTo_21 n21 v1 v2 v3 v4 x_67 x_69 K21_107)) else nli (r_63 + 0) (fun x_71 => nli (v6 + (-1)) (fun x_73 => xl_X0_findLosersTo_21 n21 v1 v2 v3 v4 x_71 x_73 K21_107)))))) else ncl (x_X0_blueOf v1 v5) (fun r_75 => ncl (nST 17 4 v6 r_75) (fun _ => ncl (x_X0_lowerBelow v2 v5) (fun r_82 => (if (1 : Int32) = 0 then nli (r_82 + 1) (fun x_86 => nli (v6 + (-1)) (fun x_88 => xl_X0_findLosersTo_21 n21 v1 v2 v3 v4 x_86 x_88 K21_107)) else nli (r_82 + 0) (fun x_90 => nli (v6 + (-1)) (fun x_92 => xl_X0_findLosersTo_21 n21 v1 v2 v3 v4 x_90 x_92 K21_107))))))) else (if (0 : Int32) = 0 then ncl (x_X0_whiteOf v1 v5) (fun r_17 => ncl (nST 17 4 v6 r_17) (fun _ => ncl (x_X0_lowerBelow v2 v5) (fun r_24 => (if (0 : Int32) = 0 then nli (r_24 + 1) (fun x_28 => nli (v6 + (-1)) (fun x_30 => xl_X0_findLosersTo_21 n21 v1 v2 v3 v4 x_28 x_30 K21_107)) else nli (r_24 + 0) (fun x_32 => nli (v6 + (-1)) (fun x_34 => xl_X0_findLosersTo_21 n21 v1 v2 v3 v4 x_32 x_34 K21_107)))))) else ncl (x_X0_blueOf v1 v5) (fun r_36 => ncl (nST 17 4 v6 r_36) (fun _ => ncl (x_X0_lowerBelow v2 v5) (fun r_43 => (if (0 : Int32) = 0 then nli (r_43 + 1) (fun x_47 => nli (v6 + (-1)) (fun x_49 => xl_X0_findLosersTo_21 n21 v1 v2 v3 v4 x_47 x_49 K21_107)) else nli (r_43 + 0) (fun x_51 => nli (v6 + (-1)) (fun x_53 => xl_X0_findLosersTo_21 n21 v1 v2 v3 v4 x_51 x_53 K21_107)))))))))))
def x_X0_findLosersTo (a0 : Int32) (a1 : Int32) (a2 : Int32) (a3 : Int32) : NG Int32 := ncl (nFL 17 4 (-1)) (fun _ => nli ((a1 - 4) + a2) (fun x_5 => ncl (x_X0_stepsOf a1) (fun r_7 => xl_X0_findLosersTo_21 fuel a0 a1 a2 a3 x_5 r_7 (fun v1 v2 v3 v4 v5 v6 => nrt 0))))
set_option maxHeartbeats 4000000 in
set_option maxRecDepth 100000 in
theorem n_X0_findLosersTo (l : Launch) (G : gG) (Z : gC) (Q : Nat → Nat) (D : Nat × Nat) (T : va_W) (u u1 : MS) (r : Int32) (a0 : Int32) (a1 : Int32) (a2 : Int32) (a3 : Int32) (sz : Nat) (hF : x_X0_findLosersTo a0 a1 a2 a3 u = some (r, u1)) : Met l yX0_findLosersTo (Cond.code yX0_findLosersTo cX0_findLosersTo 8 none :: wK) { frames := 2, cells := 0, slots := 0, locals := 44 } (va_Pc [.ref (Q 6), .int a0, .int a1, .int a2, .int a3] (cPM G Z Q D T u sz)) (cQv G Q T u1 (va_A (cW G Q D T u) sz)) 0 0 (va_A (cW G Q D T u) sz) := by
  refine Met.ofW (cc := cX0_findLosersTo) (maxL := 8) (ret := none) (by decide) rfl ?_
  intro p e s m args below meth c s₁ B hml hv
  obtain ⟨rfl, rfl, hP, hB, hD0, hE⟩ := hv
  have hr := B.returns
  have hlocks := B.notSynchronized
  have hts := atoms_spec (ws := Cond.code yX0_findLosersTo cX0_findLosersTo 8 none :: wK) B.pre
  have hD := hD0.self (sz := s.heap.size)
  have hA : ∀ q : Nat, s.heap.size ≤ q → va_A (cW G Q D T u) s.heap.size q := fun q h => Or.inr h
  generalize va_A (cW G Q D T u) s.heap.size = A at hD hA hE ⊢
  have hC : cX p c cX0_findLosersTo 8 s m _ RX0 G Z A := ⟨B.exec, B.bytes, hml, findClass_of_methodNamed B.named, fun w h => hts w (List.mem_cons_of_mem _ h), hB, hE, hA⟩
  have hx := hC.1
  have hb := hC.2.1
  have hH : cH G Q D T A u s s.heap [] := ⟨hP, hD, va_S.rf⟩
  have hl := lv_entry ([.ref (Q 6), .int a0, .int a1, .int a2, .int a3]) (n := 8) (Nat.le_of_ble_eq_true rfl)
  rw [lg_entry_eq]
  generalize (lg_sl ([.ref (Q 6), .int a0, .int a1, .int a2, .int a3]) ++ List.replicate (8 - (lg_sl ([.ref (Q 6), .int a0, .int a1, .int a2, .int a3])).length) Slot.unset).toArray = ls at hl ⊢
  have hl : lv_has ls 8 [(0, .ref (Q 6)), (1, .int a0), (2, .int a1), (3, .int a2), (4, .int a3)] := hl
  unfold x_X0_findLosersTo at hF
  refine lv_aload_n hx hb dX0_findLosersTo_0 rfl (lv_at hl 0 rfl) ?_
  refine cg_X0_33 hC hH dX0_findLosersTo_1 ?_
  refine lv_iconst (v := (-1)) hx hb dX0_findLosersTo_4 (by decide) ?_
  obtain ⟨y_4, u_1, h_3, hF⟩ := ncl_some hF
  have e_2 := nFL_eq h_3
  refine rf_16 hC hH e_2 wka269 ⟨Nat.le_of_ble_eq_true rfl, Nat.le_of_ble_eq_true rfl⟩ hl.1 (Nat.le_of_ble_eq_true rfl) ⟨Nat.zero_le _, Nat.zero_le _⟩ dX0_findLosersTo_5 (fun H locs hH => ?_)
  refine lv_iload_n hx hb dX0_findLosersTo_8 rfl (lv_at hl 2 rfl) ?_
  refine lv_iconst (v := 4) hx hb dX0_findLosersTo_9 (by decide) ?_
  refine lv_isub hx hb dX0_findLosersTo_10 ?_
  refine lv_iload_n hx hb dX0_findLosersTo_11 rfl (lv_at hl 3 rfl) ?_
  refine lv_iadd hx hb dX0_findLosersTo_12 ?_
  obtain ⟨x_5, e_6, hF⟩ := nli_some hF
  refine gx_ti e_6 ?_
  refine lv_istore (lv' := [(5, .int x_5), (0, .ref (Q 6)), (1, .int a0), (2, .int a1), (3, .int a2), (4, .int a3)]) hx hb dX0_findLosersTo_13 hl (by decide) rfl (fun ls hl => ?_)
  refine lv_iload_n hx hb dX0_findLosersTo_15 rfl (lv_at hl 3 rfl) ?_
  obtain ⟨r_7, u_8, h_9, hF⟩ := ncl_some hF
  refine ccS_i (As := [.int a1]) (rest := []) hC hH (n_X0_stepsOf l G Z Q _ T u_1 u_8 r_7 a1 _ h_9) ⟨wkc_X0_stepsOf, wka267, wka398, wka744⟩ kSX0_stepsOf ⟨Nat.le_of_ble_eq_true rfl, Nat.le_of_ble_eq_true rfl⟩ rfl hl.1 rfl (Nat.le_of_ble_eq_true rfl) dX0_findLosersTo_16 (fun D H locs hH => ?_)
  refine lv_istore (lv' := [(6, .int r_7), (5, .int x_5), (0, .ref (Q 6)), (1, .int a0), (2, .int a1), (3, .int a2), (4, .int a3)]) hx hb dX0_findLosersTo_19 hl (by decide) rfl (fun ls hl => ?_)
  have hL21 : ∀ (K21_107 : Int32 → Int32 → Int32 → Int32 → Int32 → Int32 → NG Int32), (∀ (v1 v2 v3 v4 v5 v6 : Int32) (u : MS) (D : Nat × Nat) (H : Heap) (locs : List Loc) (ls : Array Slot), lv_has ls 8 [(0, .ref (Q 6)), (1, .int v1), (2, .int v2), (3, .int v3), (4, .int v4), (5, .int v5), (6, .int v6)] → cH G Q D T A u s H locs → K21_107 v1 v2 v3 v4 v5 v6 u = some (r, u1) → W p l e (headSpec (Cond.code yX0_findLosersTo cX0_findLosersTo 8 none :: wK) { frames := 2, cells := 0, slots := 0, locals := 44 }).room s m [.ref (Q 6), .int a0, .int a1, .int a2, .int a3].toArray below meth c H locs 0 0 (MQ below (cQv G Q T u1 A) [.ref (Q 6), .int a0, .int a1, .int a2, .int a3].toArray s 0 0 A) (F0 m 107 ls [])) → ∀ (n21 : Nat) (v1 v2 v3 v4 v5 v6 : Int32) (u : MS) (D : Nat × Nat) (H : Heap) (locs : List Loc) (ls : Array Slot), lv_has ls 8 [(0, .ref (Q 6)), (1, .int v1), (2, .int v2), (3, .int v3), (4, .int v4), (5, .int v5), (6, .int v6)] → cH G Q D T A u s H locs → xl_X0_findLosersTo_21 n21 v1 v2 v3 v4 v5 v6 K21_107 u = some (r, u1) → W p l e (headSpec (Cond.code yX0_findLosersTo cX0_findLosersTo 8 none :: wK) { frames := 2, cells := 0, slots := 0, locals := 44 }).room s m [.ref (Q 6), .int a0, .int a1, .int a2, .int a3].toArray below meth c H locs 0 0 (MQ below (cQv G Q T u1 A) [.ref (Q 6), .int a0, .int a1, .int a2, .int a3].toArray s 0 0 A) (F0 m 21 ls []) := by
    intro K21_107 hK21_107 n21
    induction n21 with
    | zero => intro v1 v2 v3 v4 v5 v6 u D H locs ls hl hH hF; cases hF
    | succ n21 ih21 =>
      intro v1 v2 v3 v4 v5 v6 u D H locs ls hl hH hF
      unfold xl_X0_findLosersTo_21 at hF
      refine lv_iload hx hb dX0_findLosersTo_21 (lv_at hl 6 rfl) ?_
      refine lv_if_lt (tgt := 107) hx hb dX0_findLosersTo_23 (by decide) (fun c_10 => ?_) (fun c_10 => ?_)
      · rw [if_pos c_10] at hF
        exact hK21_107 v1 v2 v3 v4 v5 v6 u _ _ _ _ (lv_sub hl [0, 1, 2, 3, 4, 5, 6] rfl) hH hF
      · rw [if_neg c_10] at hF
        refine lv_iload hx hb dX0_findLosersTo_26 (lv_at hl 4 rfl) ?_
        refine lv_iconst (v := (-1)) hx hb dX0_findLosersTo_28 (by decide) ?_
        refine lv_icmp_eq (tgt := 107) hx hb dX0_findLosersTo_29 (by decide) (fun c_11 => ?_) (fun c_11 => ?_)
        · rw [if_pos c_11] at hF
          exact hK21_107 v1 v2 v3 v4 v5 v6 u _ _ _ _ (lv_sub hl [0, 1, 2, 3, 4, 5, 6] rfl) hH hF
        · rw [if_neg c_11] at hF
          refine lv_aload_n hx hb dX0_findLosersTo_32 rfl (lv_at hl 0 rfl) ?_
          refine lv_iload_n hx hb dX0_findLosersTo_33 rfl (lv_at hl 1 rfl) ?_
          refine lv_iload hx hb dX0_findLosersTo_34 (lv_at hl 5 rfl) ?_
          obtain ⟨r_12, u_13, h_14, hF⟩ := ncl_some hF
          refine ccV_i (q0 := 6) (As := [.int v1, .int v5]) (rest := []) hC hH (n_X0_whiteOf l G Z Q _ T u u_13 r_12 v1 v5 _ h_14) rfl rfl ⟨wkc_X0_whiteOf, wka270, wka401, wka402, wka744⟩ kVX0_whiteOf ⟨Nat.le_of_ble_eq_true rfl, Nat.le_of_ble_eq_true rfl⟩ rfl hl.1 rfl (Nat.le_of_ble_eq_true rfl) dX0_findLosersTo_36 (fun D H locs hH => ?_)
          refine lv_iload hx hb dX0_findLosersTo_39 (lv_at hl 4 rfl) ?_
          refine lv_icmp_ne (tgt := 48) hx hb dX0_findLosersTo_41 (by decide) (fun c_15 => ?_) (fun c_15 => ?_)
          · rw [if_neg c_15] at hF
            refine lv_iconst (v := 0) hx hb dX0_findLosersTo_48 (by decide) ?_
            refine lv_istore (lv' := [(7, .int 0), (0, .ref (Q 6)), (1, .int v1), (2, .int v2), (3, .int v3), (4, .int v4), (5, .int v5), (6, .int v6)]) hx hb dX0_findLosersTo_49 hl (by decide) rfl (fun ls hl => ?_)
            refine lv_aload_n hx hb dX0_findLosersTo_51 rfl (lv_at hl 1 rfl) ?_
            refine cg_X0_33 hC hH dX0_findLosersTo_52 ?_
            refine lv_iload hx hb dX0_findLosersTo_55 (lv_at hl 7 rfl) ?_
            refine lv_iload hx hb dX0_findLosersTo_57 (lv_at hl 0 rfl) ?_
            refine lv_if_eq (tgt := 72) hx hb dX0_findLosersTo_59 (by decide) (fun c_16 => ?_) (fun c_16 => ?_)
            · rw [if_pos c_16] at hF
              refine lv_aload_n hx hb dX0_findLosersTo_72 rfl (lv_at hl 1 rfl) ?_
              refine lv_iload_n hx hb dX0_findLosersTo_73 rfl (lv_at hl 2 rfl) ?_
              refine lv_iload hx hb dX0_findLosersTo_74 (lv_at hl 6 rfl) ?_
              obtain ⟨r_17, u_18, h_19, hF⟩ := ncl_some hF
              refine ccV_i (q0 := 6) (As := [.int v1, .int v5]) (rest := [.int v6, .ref (Q 52)]) hC hH (n_X0_whiteOf l G Z Q _ T u_13 u_18 r_17 v1 v5 _ h_19) rfl rfl ⟨wkc_X0_whiteOf, wka270, wka401, wka402, wka744⟩ kVX0_whiteOf ⟨Nat.le_of_ble_eq_true rfl, Nat.le_of_ble_eq_true rfl⟩ rfl hl.1 rfl (Nat.le_of_ble_eq_true rfl) dX0_findLosersTo_76 (fun D H locs hH => ?_)
              obtain ⟨y_23, u_20, h_22, hF⟩ := ncl_some hF
              have e_21 := nST_eq h_22
              refine rs_16 hC hH e_21 wka260 ⟨Nat.le_of_ble_eq_true rfl, Nat.le_of_ble_eq_true rfl⟩ hl.1 (Nat.le_of_ble_eq_true rfl) ⟨Nat.zero_le _, Nat.zero_le _⟩ dX0_findLosersTo_79 (fun H locs hH => ?_)
              refine lv_iload_n hx hb dX0_findLosersTo_82 rfl (lv_at hl 3 rfl) ?_
              refine lv_iload hx hb dX0_findLosersTo_83 (lv_at hl 6 rfl) ?_
              obtain ⟨r_24, u_25, h_26, hF⟩ := ncl_some hF
              refine ccS_i (As := [.int v2, .int v5]) (rest := []) hC hH (n_X0_lowerBelow l G Z Q _ T u_20 u_25 r_24 v2 v5 _ h_26) ⟨wkc_X0_lowerBelow, wka263, wka419, wka744⟩ kSX0_lowerBelow ⟨Nat.le_of_ble_eq_true rfl, Nat.le_of_ble_eq_true rfl⟩ rfl hl.1 rfl (Nat.le_of_ble_eq_true rfl) dX0_findLosersTo_85 (fun D H locs hH => ?_)
              refine lv_iload hx hb dX0_findLosersTo_88 (lv_at hl 0 rfl) ?_
              refine lv_if_eq (tgt := 97) hx hb dX0_findLosersTo_90 (by decide) (fun c_27 => ?_) (fun c_27 => ?_)
              · rw [if_pos c_27] at hF
                refine lv_iconst (v := 1) hx hb dX0_findLosersTo_97 (by decide) ?_
                refine lv_iadd hx hb dX0_findLosersTo_98 ?_
                obtain ⟨x_28, e_29, hF⟩ := nli_some hF
                refine gx_ti e_29 ?_
                refine lv_istore (lv' := [(5, .int x_28), (7, .int 0), (0, .ref (Q 6)), (1, .int v1), (2, .int v2), (3, .int v3), (4, .int v4), (6, .int v6)]) hx hb dX0_findLosersTo_99 hl (by decide) rfl (fun ls hl => ?_)
                obtain ⟨x_30, e_31, hF⟩ := nli_some hF
                refine lv_iinc (v := x_30) (lv' := [(6, .int x_30), (5, .int x_28), (7, .int 0), (0, .ref (Q 6)), (1, .int v1), (2, .int v2), (3, .int v3), (4, .int v4)]) hx hb dX0_findLosersTo_101 hl (k := 7) rfl e_31 (by decide) rfl (fun ls hl => ?_)
                refine lv_goto (tgt := 21) hx hb dX0_findLosersTo_104 (by decide) ?_
                exact ih21 v1 v2 v3 v4 x_28 x_30 u_25 _ _ _ _ (lv_sub hl [3, 4, 5, 6, 7, 1, 0] rfl) hH hF
              · rw [if_neg c_27] at hF
                refine lv_iconst (v := 0) hx hb dX0_findLosersTo_93 (by decide) ?_
                refine lv_goto (tgt := 98) hx hb dX0_findLosersTo_94 (by decide) ?_
                refine lv_iadd hx hb dX0_findLosersTo_98 ?_
                obtain ⟨x_32, e_33, hF⟩ := nli_some hF
                refine gx_ti e_33 ?_
                refine lv_istore (lv' := [(5, .int x_32), (7, .int 0), (0, .ref (Q 6)), (1, .int v1), (2, .int v2), (3, .int v3), (4, .int v4), (6, .int v6)]) hx hb dX0_findLosersTo_99 hl (by decide) rfl (fun ls hl => ?_)
                obtain ⟨x_34, e_35, hF⟩ := nli_some hF
                refine lv_iinc (v := x_34) (lv' := [(6, .int x_34), (5, .int x_32), (7, .int 0), (0, .ref (Q 6)), (1, .int v1), (2, .int v2), (3, .int v3), (4, .int v4)]) hx hb dX0_findLosersTo_101 hl (k := 7) rfl e_35 (by decide) rfl (fun ls hl => ?_)
                refine lv_goto (tgt := 21) hx hb dX0_findLosersTo_104 (by decide) ?_
                exact ih21 v1 v2 v3 v4 x_32 x_34 u_25 _ _ _ _ (lv_sub hl [3, 4, 5, 6, 7, 1, 0] rfl) hH hF
            · rw [if_neg c_16] at hF
              refine lv_aload_n hx hb dX0_findLosersTo_62 rfl (lv_at hl 1 rfl) ?_
              refine lv_iload_n hx hb dX0_findLosersTo_63 rfl (lv_at hl 2 rfl) ?_
              refine lv_iload hx hb dX0_findLosersTo_64 (lv_at hl 6 rfl) ?_
              obtain ⟨r_36, u_37, h_38, hF⟩ := ncl_some hF
              refine ccV_i (q0 := 6) (As := [.int v1, .int v5]) (rest := [.int v6, .ref (Q 52)]) hC hH (n_X0_blueOf l G Z Q _ T u_13 u_37 r_36 v1 v5 _ h_38) rfl rfl ⟨wkc_X0_blueOf, wka271, wka403, wka404, wka744⟩ kVX0_blueOf ⟨Nat.le_of_ble_eq_true rfl, Nat.le_of_ble_eq_true rfl⟩ rfl hl.1 rfl (Nat.le_of_ble_eq_true rfl) dX0_findLosersTo_66 (fun D H locs hH => ?_)
              refine lv_goto (tgt := 79) hx hb dX0_findLosersTo_69 (by decide) ?_
              obtain ⟨y_42, u_39, h_41, hF⟩ := ncl_some hF
              have e_40 := nST_eq h_41
              refine rs_16 hC hH e_40 wka260 ⟨Nat.le_of_ble_eq_true rfl, Nat.le_of_ble_eq_true rfl⟩ hl.1 (Nat.le_of_ble_eq_true rfl) ⟨Nat.zero_le _, Nat.zero_le _⟩ dX0_findLosersTo_79 (fun H locs hH => ?_)
              refine lv_iload_n hx hb dX0_findLosersTo_82 rfl (lv_at hl 3 rfl) ?_
              refine lv_iload hx hb dX0_findLosersTo_83 (lv_at hl 6 rfl) ?_
              obtain ⟨r_43, u_44, h_45, hF⟩ := ncl_some hF
              refine ccS_i (As := [.int v2, .int v5]) (rest := []) hC hH (n_X0_lowerBelow l G Z Q _ T u_39 u_44 r_43 v2 v5 _ h_45) ⟨wkc_X0_lowerBelow, wka263, wka419, wka744⟩ kSX0_lowerBelow ⟨Nat.le_of_ble_eq_true rfl, Nat.le_of_ble_eq_true rfl⟩ rfl hl.1 rfl (Nat.le_of_ble_eq_true rfl) dX0_findLosersTo_85 (fun D H locs hH => ?_)
              refine lv_iload hx hb dX0_findLosersTo_88 (lv_at hl 0 rfl) ?_
              refine lv_if_eq (tgt := 97) hx hb dX0_findLosersTo_90 (by decide) (fun c_46 => ?_) (fun c_46 => ?_)
              · rw [if_pos c_46] at hF
                refine lv_iconst (v := 1) hx hb dX0_findLosersTo_97 (by decide) ?_
                refine lv_iadd hx hb dX0_findLosersTo_98 ?_
                obtain ⟨x_47, e_48, hF⟩ := nli_some hF
                refine gx_ti e_48 ?_
                refine lv_istore (lv' := [(5, .int x_47), (7, .int 0), (0, .ref (Q 6)), (1, .int v1), (2, .int v2), (3, .int v3), (4, .int v4), (6, .int v6)]) hx hb dX0_findLosersTo_99 hl (by decide) rfl (fun ls hl => ?_)
                obtain ⟨x_49, e_50, hF⟩ := nli_some hF
                refine lv_iinc (v := x_49) (lv' := [(6, .int x_49), (5, .int x_47), (7, .int 0), (0, .ref (Q 6)), (1, .int v1), (2, .int v2), (3, .int v3), (4, .int v4)]) hx hb dX0_findLosersTo_101 hl (k := 7) rfl e_50 (by decide) rfl (fun ls hl => ?_)
                refine lv_goto (tgt := 21) hx hb dX0_findLosersTo_104 (by decide) ?_
                exact ih21 v1 v2 v3 v4 x_47 x_49 u_44 _ _ _ _ (lv_sub hl [3, 4, 5, 6, 7, 1, 0] rfl) hH hF
              · rw [if_neg c_46] at hF
                refine lv_iconst (v := 0) hx hb dX0_findLosersTo_93 (by decide) ?_
                refine lv_goto (tgt := 98) hx hb dX0_findLosersTo_94 (by decide) ?_
                refine lv_iadd hx hb dX0_findLosersTo_98 ?_
                obtain ⟨x_51, e_52, hF⟩ := nli_some hF
                refine gx_ti e_52 ?_
                refine lv_istore (lv' := [(5, .int x_51), (7, .int 0), (0, .ref (Q 6)), (1, .int v1), (2, .int v2), (3, .int v3), (4, .int v4), (6, .int v6)]) hx hb dX0_findLosersTo_99 hl (by decide) rfl (fun ls hl => ?_)
                obtain ⟨x_53, e_54, hF⟩ := nli_some hF
                refine lv_iinc (v := x_53) (lv' := [(6, .int x_53), (5, .int x_51), (7, .int 0), (0, .ref (Q 6)), (1, .int v1), (2, .int v2), (3, .int v3), (4, .int v4)]) hx hb dX0_findLosersTo_101 hl (k := 7) rfl e_54 (by decide) rfl (fun ls hl => ?_)
                refine lv_goto (tgt := 21) hx hb dX0_findLosersTo_104 (by decide) ?_
                exact ih21 v1 v2 v3 v4 x_51 x_53 u_44 _ _ _ _ (lv_sub hl [3, 4, 5, 6, 7, 1, 0] rfl) hH hF
          · rw [if_pos c_15] at hF
            refine lv_iconst (v := 1) hx hb dX0_findLosersTo_44 (by decide) ?_
            refine lv_goto (tgt := 49) hx hb dX0_findLosersTo_45 (by decide) ?_
            refine lv_istore (lv' := [(7, .int 1), (0, .ref (Q 6)), (1, .int v1), (2, .int v2), (3, .int v3), (4, .int v4), (5, .int v5), (6, .int v6)]) hx hb dX0_findLosersTo_49 hl (by decide) rfl (fun ls hl => ?_)
            refine lv_aload_n hx hb dX0_findLosersTo_51 rfl (lv_at hl 1 rfl) ?_
            refine cg_X0_33 hC hH dX0_findLosersTo_52 ?_
            refine lv_iload hx hb dX0_findLosersTo_55 (lv_at hl 7 rfl) ?_
            refine lv_iload hx hb dX0_findLosersTo_57 (lv_at hl 0 rfl) ?_
            refine lv_if_eq (tgt := 72) hx hb dX0_findLosersTo_59 (by decide) (fun c_55 => ?_) (fun c_55 => ?_)
            · rw [if_pos c_55] at hF
              refine lv_aload_n hx hb dX0_findLosersTo_72 rfl (lv_at hl 1 rfl) ?_
              refine lv_iload_n hx hb dX0_findLosersTo_73 rfl (lv_at hl 2 rfl) ?_
              refine lv_iload hx hb dX0_findLosersTo_74 (lv_at hl 6 rfl) ?_
              obtain ⟨r_56, u_57, h_58, hF⟩ := ncl_some hF
              refine ccV_i (q0 := 6) (As := [.int v1, .int v5]) (rest := [.int v6, .ref (Q 52)]) hC hH (n_X0_whiteOf l G Z Q _ T u_13 u_57 r_56 v1 v5 _ h_58) rfl rfl ⟨wkc_X0_whiteOf, wka270, wka401, wka402, wka744⟩ kVX0_whiteOf ⟨Nat.le_of_ble_eq_true rfl, Nat.le_of_ble_eq_true rfl⟩ rfl hl.1 rfl (Nat.le_of_ble_eq_true rfl) dX0_findLosersTo_76 (fun D H locs hH => ?_)
              obtain ⟨y_62, u_59, h_61, hF⟩ := ncl_some hF
              have e_60 := nST_eq h_61
              refine rs_16 hC hH e_60 wka260 ⟨Nat.le_of_ble_eq_true rfl, Nat.le_of_ble_eq_true rfl⟩ hl.1 (Nat.le_of_ble_eq_true rfl) ⟨Nat.zero_le _, Nat.zero_le _⟩ dX0_findLosersTo_79 (fun H locs hH => ?_)
              refine lv_iload_n hx hb dX0_findLosersTo_82 rfl (lv_at hl 3 rfl) ?_
              refine lv_iload hx hb dX0_findLosersTo_83 (lv_at hl 6 rfl) ?_
              obtain ⟨r_63, u_64, h_65, hF⟩ := ncl_some hF
              refine ccS_i (As := [.int v2, .int v5]) (rest := []) hC hH (n_X0_lowerBelow l G Z Q _ T u_59 u_64 r_63 v2 v5 _ h_65) ⟨wkc_X0_lowerBelow, wka263, wka419, wka744⟩ kSX0_lowerBelow ⟨Nat.le_of_ble_eq_true rfl, Nat.le_of_ble_eq_true rfl⟩ rfl hl.1 rfl (Nat.le_of_ble_eq_true rfl) dX0_findLosersTo_85 (fun D H locs hH => ?_)
              refine lv_iload hx hb dX0_findLosersTo_88 (lv_at hl 0 rfl) ?_
              refine lv_if_eq (tgt := 97) hx hb dX0_findLosersTo_90 (by decide) (fun c_66 => ?_) (fun c_66 => ?_)
              · rw [if_pos c_66] at hF
                refine lv_iconst (v := 1) hx hb dX0_findLosersTo_97 (by decide) ?_
                refine lv_iadd hx hb dX0_findLosersTo_98 ?_
                obtain ⟨x_67, e_68, hF⟩ := nli_some hF
                refine gx_ti e_68 ?_
                refine lv_istore (lv' := [(5, .int x_67), (7, .int 1), (0, .ref (Q 6)), (1, .int v1), (2, .int v2), (3, .int v3), (4, .int v4), (6, .int v6)]) hx hb dX0_findLosersTo_99 hl (by decide) rfl (fun ls hl => ?_)
                obtain ⟨x_69, e_70, hF⟩ := nli_some hF
                refine lv_iinc (v := x_69) (lv' := [(6, .int x_69), (5, .int x_67), (7, .int 1), (0, .ref (Q 6)), (1, .int v1), (2, .int v2), (3, .int v3), (4, .int v4)]) hx hb dX0_findLosersTo_101 hl (k := 7) rfl e_70 (by decide) rfl (fun ls hl => ?_)
                refine lv_goto (tgt := 21) hx hb dX0_findLosersTo_104 (by decide) ?_
                exact ih21 v1 v2 v3 v4 x_67 x_69 u_64 _ _ _ _ (lv_sub hl [3, 4, 5, 6, 7, 1, 0] rfl) hH hF
              · rw [if_neg c_66] at hF
                refine lv_iconst (v := 0) hx hb dX0_findLosersTo_93 (by decide) ?_
                refine lv_goto (tgt := 98) hx hb dX0_findLosersTo_94 (by decide) ?_
                refine lv_iadd hx hb dX0_findLosersTo_98 ?_
                obtain ⟨x_71, e_72, hF⟩ := nli_some hF
                refine gx_ti e_72 ?_
                refine lv_istore (lv' := [(5, .int x_71), (7, .int 1), (0, .ref (Q 6)), (1, .int v1), (2, .int v2), (3, .int v3), (4, .int v4), (6, .int v6)]) hx hb dX0_findLosersTo_99 hl (by decide) rfl (fun ls hl => ?_)
                obtain ⟨x_73, e_74, hF⟩ := nli_some hF
                refine lv_iinc (v := x_73) (lv' := [(6, .int x_73), (5, .int x_71), (7, .int 1), (0, .ref (Q 6)), (1, .int v1), (2, .int v2), (3, .int v3), (4, .int v4)]) hx hb dX0_findLosersTo_101 hl (k := 7) rfl e_74 (by decide) rfl (fun ls hl => ?_)
                refine lv_goto (tgt := 21) hx hb dX0_findLosersTo_104 (by decide) ?_
                exact ih21 v1 v2 v3 v4 x_71 x_73 u_64 _ _ _ _ (lv_sub hl [3, 4, 5, 6, 7, 1, 0] rfl) hH hF
            · rw [if_neg c_55] at hF
              refine lv_aload_n hx hb dX0_findLosersTo_62 rfl (lv_at hl 1 rfl) ?_
              refine lv_iload_n hx hb dX0_findLosersTo_63 rfl (lv_at hl 2 rfl) ?_
              refine lv_iload hx hb dX0_findLosersTo_64 (lv_at hl 6 rfl) ?_
              obtain ⟨r_75, u_76, h_77, hF⟩ := ncl_some hF
              refine ccV_i (q0 := 6) (As := [.int v1, .int v5]) (rest := [.int v6, .ref (Q 52)]) hC hH (n_X0_blueOf l G Z Q _ T u_13 u_76 r_75 v1 v5 _ h_77) rfl rfl ⟨wkc_X0_blueOf, wka271, wka403, wka404, wka744⟩ kVX0_blueOf ⟨Nat.le_of_ble_eq_true rfl, Nat.le_of_ble_eq_true rfl⟩ rfl hl.1 rfl (Nat.le_of_ble_eq_true rfl) dX0_findLosersTo_66 (fun D H locs hH => ?_)
              refine lv_goto (tgt := 79) hx hb dX0_findLosersTo_69 (by decide) ?_
              obtain ⟨y_81, u_78, h_80, hF⟩ := ncl_some hF
              have e_79 := nST_eq h_80
              refine rs_16 hC hH e_79 wka260 ⟨Nat.le_of_ble_eq_true rfl, Nat.le_of_ble_eq_true rfl⟩ hl.1 (Nat.le_of_ble_eq_true rfl) ⟨Nat.zero_le _, Nat.zero_le _⟩ dX0_findLosersTo_79 (fun H locs hH => ?_)
              refine lv_iload_n hx hb dX0_findLosersTo_82 rfl (lv_at hl 3 rfl) ?_
              refine lv_iload hx hb dX0_findLosersTo_83 (lv_at hl 6 rfl) ?_
              obtain ⟨r_82, u_83, h_84, hF⟩ := ncl_some hF
              refine ccS_i (As := [.int v2, .int v5]) (rest := []) hC hH (n_X0_lowerBelow l G Z Q _ T u_78 u_83 r_82 v2 v5 _ h_84) ⟨wkc_X0_lowerBelow, wka263, wka419, wka744⟩ kSX0_lowerBelow ⟨Nat.le_of_ble_eq_true rfl, Nat.le_of_ble_eq_true rfl⟩ rfl hl.1 rfl (Nat.le_of_ble_eq_true rfl) dX0_findLosersTo_85 (fun D H locs hH => ?_)
              refine lv_iload hx hb dX0_findLosersTo_88 (lv_at hl 0 rfl) ?_
              refine lv_if_eq (tgt := 97) hx hb dX0_findLosersTo_90 (by decide) (fun c_85 => ?_) (fun c_85 => ?_)
              · rw [if_pos c_85] at hF
                refine lv_iconst (v := 1) hx hb dX0_findLosersTo_97 (by decide) ?_
                refine lv_iadd hx hb dX0_findLosersTo_98 ?_
                obtain ⟨x_86, e_87, hF⟩ := nli_some hF
                refine gx_ti e_87 ?_
                refine lv_istore (lv' := [(5, .int x_86), (7, .int 1), (0, .ref (Q 6)), (1, .int v1), (2, .int v2), (3, .int v3), (4, .int v4), (6, .int v6)]) hx hb dX0_findLosersTo_99 hl (by decide) rfl (fun ls hl => ?_)
                obtain ⟨x_88, e_89, hF⟩ := nli_some hF
                refine lv_iinc (v := x_88) (lv' := [(6, .int x_88), (5, .int x_86), (7, .int 1), (0, .ref (Q 6)), (1, .int v1), (2, .int v2), (3, .int v3), (4, .int v4)]) hx hb dX0_findLosersTo_101 hl (k := 7) rfl e_89 (by decide) rfl (fun ls hl => ?_)
                refine lv_goto (tgt := 21) hx hb dX0_findLosersTo_104 (by decide) ?_
                exact ih21 v1 v2 v3 v4 x_86 x_88 u_83 _ _ _ _ (lv_sub hl [3, 4, 5, 6, 7, 1, 0] rfl) hH hF
              · rw [if_neg c_85] at hF
                refine lv_iconst (v := 0) hx hb dX0_findLosersTo_93 (by decide) ?_
                refine lv_goto (tgt := 98) hx hb dX0_findLosersTo_94 (by decide) ?_
                refine lv_iadd hx hb dX0_findLosersTo_98 ?_
                obtain ⟨x_90, e_91, hF⟩ := nli_some hF
                refine gx_ti e_91 ?_
                refine lv_istore (lv' := [(5, .int x_90), (7, .int 1), (0, .ref (Q 6)), (1, .int v1), (2, .int v2), (3, .int v3), (4, .int v4), (6, .int v6)]) hx hb dX0_findLosersTo_99 hl (by decide) rfl (fun ls hl => ?_)
                obtain ⟨x_92, e_93, hF⟩ := nli_some hF
                refine lv_iinc (v := x_92) (lv' := [(6, .int x_92), (5, .int x_90), (7, .int 1), (0, .ref (Q 6)), (1, .int v1), (2, .int v2), (3, .int v3), (4, .int v4)]) hx hb dX0_findLosersTo_101 hl (k := 7) rfl e_93 (by decide) rfl (fun ls hl => ?_)
                refine lv_goto (tgt := 21) hx hb dX0_findLosersTo_104 (by decide) ?_
                exact ih21 v1 v2 v3 v4 x_90 x_92 u_83 _ _ _ _ (lv_sub hl [3, 4, 5, 6, 7, 1, 0] rfl) hH hF
  refine hL21 _ (fun v1 v2 v3 v4 v5 v6 u D H locs ls hl hH hF => ?_) fuel a0 a1 a2 a3 x_5 r_7 u_8 _ _ _ _ (lv_sub hl [2, 3, 4, 5, 6, 1, 0] rfl) hH hF
  exact cr_v hC hH hr (nrt_eq hF) dX0_findLosersTo_107 hlocks
def xl_X0_settleLives_40 : Nat → Int32 → Int32 → Int32 → Int32 → Int32 → Int32 → Int32 → (Int32 → Int32 → Int32 → Int32 → Int32 → Int32 → Int32 → NG Int32) → NG Int32
  | 0, _, _, _, _, _, _, _, _ => fun _ => none
  | n40 + 1, v1, v2, v3, v4, v5, v6, v7, K40_131 => (if v4 < v7 then K40_131 v1 v2 v3 v4 v5 v6 v7 else nli (((v2 - 2) + (v3 * v4)) + v7) (fun x_15 => (if v7 = 1 then (if v5 = (-1) then ncl (nGT 17 4 v7) (fun x_31 => ncl (x_X0_settleFight v1 x_15 v6 x_31) (fun r_35 => ncl (x_X0_winnerOf v1 x_15) (fun r_38 => nli (v7 + 1) (fun x_41 => xl_X0_settleLives_40 n40 v1 v2 v3 v4 v5 r_38 x_41 K40_131)))) else (if v6 = (-1) then ncl (nGT 17 4 v7) (fun x_56 => ncl (x_X0_settleWalk v1 x_15 (-1) x_56) (fun r_60 => ncl (x_X0_winnerOf v1 x_15) (fun r_63 => nli (v7 + 1) (fun x_66 => xl_X0_settleLives_40 n40 v1 v2 v3 v4 v5 r_63 x_66 K40_131)))) else ncl (nGT 17 4 v7) (fun x_44 => ncl (x_X0_settleFight v1 x_15 v6 x_44) (fun r_48 => ncl (x_X0_winnerOf v1 x_15) (fun r_51 => nli (v7 + 1) (fun x_54 => xl_X0_settleLives_40 n40 v1 v2 v3 v4 v5 r_51 x_54 K40_131)))))) else ncl (nGT 17 4 v7) (fun x_18 => ncl (x_X0_settleFight v1 x_15 v6 x_18) (fun r_22 => ncl (x_X0_winnerOf v1 x_15) (fun r_25 => nli (v7 + 1) (fun x_28 => xl_X0_settleLives_40 n40 v1 v2 v3 v4 v5 r_25 x_28 K40_131)))))))
def x_X0_settleLives (a0 : Int32) (a1 : Int32) (a2 : Int32) : NG Int32 := ncl (x_X0_stepsOf a1) (fun r_1 => ncl (x_X0_winnerOf a0 ((a1 - 4) + a2)) (fun r_4 => ncl (x_X0_findLosersTo a0 a1 a2 r_4) (fun r_7 => ncl (nGT 17 4 0) (fun x_10 => xl_X0_settleLives_40 fuel a0 a1 a2 r_1 r_4 x_10 1 (fun v1 v2 v3 v4 v5 v6 v7 => nrt 0)))))
set_option maxHeartbeats 4000000 in
set_option maxRecDepth 100000 in
theorem n_X0_settleLives (l : Launch) (G : gG) (Z : gC) (Q : Nat → Nat) (D : Nat × Nat) (T : va_W) (u u1 : MS) (r : Int32) (a0 : Int32) (a1 : Int32) (a2 : Int32) (sz : Nat) (hF : x_X0_settleLives a0 a1 a2 u = some (r, u1)) : Met l yX0_settleLives (Cond.code yX0_settleLives cX0_settleLives 9 none :: wK) { frames := 3, cells := 0, slots := 0, locals := 71 } (va_Pc [.ref (Q 6), .int a0, .int a1, .int a2] (cPM G Z Q D T u sz)) (cQv G Q T u1 (va_A (cW G Q D T u) sz)) 0 0 (va_A (cW G Q D T u) sz) := by
  refine Met.ofW (cc := cX0_settleLives) (maxL := 9) (ret := none) (by decide) rfl ?_
  intro p e s m args below meth c s₁ B hml hv
  obtain ⟨rfl, rfl, hP, hB, hD0, hE⟩ := hv
  have hr := B.returns
  have hlocks := B.notSynchronized
  have hts := atoms_spec (ws := Cond.code yX0_settleLives cX0_settleLives 9 none :: wK) B.pre
  have hD := hD0.self (sz := s.heap.size)
  have hA : ∀ q : Nat, s.heap.size ≤ q → va_A (cW G Q D T u) s.heap.size q := fun q h => Or.inr h
  generalize va_A (cW G Q D T u) s.heap.size = A at hD hA hE ⊢
  have hC : cX p c cX0_settleLives 9 s m _ RX0 G Z A := ⟨B.exec, B.bytes, hml, findClass_of_methodNamed B.named, fun w h => hts w (List.mem_cons_of_mem _ h), hB, hE, hA⟩
  have hx := hC.1
  have hb := hC.2.1
  have hH : cH G Q D T A u s s.heap [] := ⟨hP, hD, va_S.rf⟩
  have hl := lv_entry ([.ref (Q 6), .int a0, .int a1, .int a2]) (n := 9) (Nat.le_of_ble_eq_true rfl)
  rw [lg_entry_eq]
  generalize (lg_sl ([.ref (Q 6), .int a0, .int a1, .int a2]) ++ List.replicate (9 - (lg_sl ([.ref (Q 6), .int a0, .int a1, .int a2])).length) Slot.unset).toArray = ls at hl ⊢
  have hl : lv_has ls 9 [(0, .ref (Q 6)), (1, .int a0), (2, .int a1), (3, .int a2)] := hl
  unfold x_X0_settleLives at hF
  refine lv_iload_n hx hb dX0_settleLives_0 rfl (lv_at hl 2 rfl) ?_
  obtain ⟨r_1, u_2, h_3, hF⟩ := ncl_some hF
  refine ccS_i (As := [.int a1]) (rest := []) hC hH (n_X0_stepsOf l G Z Q _ T u u_2 r_1 a1 _ h_3) ⟨wkc_X0_stepsOf, wka267, wka398, wka744⟩ kSX0_stepsOf ⟨Nat.le_of_ble_eq_true rfl, Nat.le_of_ble_eq_true rfl⟩ rfl hl.1 rfl (Nat.le_of_ble_eq_true rfl) dX0_settleLives_1 (fun D H locs hH => ?_)
  refine lv_istore (lv' := [(4, .int r_1), (0, .ref (Q 6)), (1, .int a0), (2, .int a1), (3, .int a2)]) hx hb dX0_settleLives_4 hl (by decide) rfl (fun ls hl => ?_)
  refine lv_aload_n hx hb dX0_settleLives_6 rfl (lv_at hl 1 rfl) ?_
  refine lv_iload_n hx hb dX0_settleLives_7 rfl (lv_at hl 2 rfl) ?_
  refine lv_iload_n hx hb dX0_settleLives_8 rfl (lv_at hl 3 rfl) ?_
  refine lv_iconst (v := 4) hx hb dX0_settleLives_9 (by decide) ?_
  refine lv_isub hx hb dX0_settleLives_10 ?_
  refine lv_iload_n hx hb dX0_settleLives_11 rfl (lv_at hl 4 rfl) ?_
  refine lv_iadd hx hb dX0_settleLives_12 ?_
  obtain ⟨r_4, u_5, h_6, hF⟩ := ncl_some hF
  refine ccV_i (q0 := 6) (As := [.int a0, .int ((a1 - 4) + a2)]) (rest := []) hC hH (n_X0_winnerOf l G Z Q _ T u_2 u_5 r_4 a0 ((a1 - 4) + a2) _ h_6) rfl rfl ⟨wkc_X0_winnerOf, wka264, wka405, wka406, wka744⟩ kVX0_winnerOf ⟨Nat.le_of_ble_eq_true rfl, Nat.le_of_ble_eq_true rfl⟩ rfl hl.1 rfl (Nat.le_of_ble_eq_true rfl) dX0_settleLives_13 (fun D H locs hH => ?_)
  refine lv_istore (lv' := [(5, .int r_4), (4, .int r_1), (0, .ref (Q 6)), (1, .int a0), (2, .int a1), (3, .int a2)]) hx hb dX0_settleLives_16 hl (by decide) rfl (fun ls hl => ?_)
  refine lv_aload_n hx hb dX0_settleLives_18 rfl (lv_at hl 2 rfl) ?_
  refine lv_iload_n hx hb dX0_settleLives_19 rfl (lv_at hl 3 rfl) ?_
  refine lv_iload_n hx hb dX0_settleLives_20 rfl (lv_at hl 4 rfl) ?_
  refine lv_iload_n hx hb dX0_settleLives_21 rfl (lv_at hl 5 rfl) ?_
  refine lv_iload hx hb dX0_settleLives_22 (lv_at hl 0 rfl) ?_
  obtain ⟨r_7, u_8, h_9, hF⟩ := ncl_some hF
  refine ccV_v (q0 := 6) (As := [.int a0, .int a1, .int a2, .int r_4]) (rest := []) hC hH (n_X0_findLosersTo l G Z Q _ T u_5 u_8 r_7 a0 a1 a2 r_4 _ h_9) rfl rfl ⟨wkc_X0_findLosersTo, wka268, wka422, wka423, wka744⟩ kVX0_findLosersTo ⟨Nat.le_of_ble_eq_true rfl, Nat.le_of_ble_eq_true rfl⟩ rfl hl.1 rfl (Nat.le_of_ble_eq_true rfl) dX0_settleLives_24 (fun D H locs hH => ?_)
  refine lv_aload_n hx hb dX0_settleLives_27 rfl (lv_at hl 2 rfl) ?_
  refine cg_X0_33 hC hH dX0_settleLives_28 ?_
  refine lv_iconst (v := 0) hx hb dX0_settleLives_31 (by decide) ?_
  refine rg_16 hC hH wka265 ⟨Nat.le_of_ble_eq_true rfl, Nat.le_of_ble_eq_true rfl⟩ hl.1 (Nat.le_of_ble_eq_true rfl) ⟨Nat.zero_le _, Nat.zero_le _⟩ dX0_settleLives_32 ?_
  obtain ⟨x_10, u_11, h_12, hF⟩ := ncl_some hF
  obtain ⟨e_13, rfl⟩ := nGT_eq h_12
  refine gx_ti e_13 ?_
  refine lv_istore (lv' := [(6, .int x_10), (5, .int r_4), (4, .int r_1), (0, .ref (Q 6)), (1, .int a0), (2, .int a1), (3, .int a2)]) hx hb dX0_settleLives_35 hl (by decide) rfl (fun ls hl => ?_)
  refine lv_iconst (v := 1) hx hb dX0_settleLives_37 (by decide) ?_
  refine lv_istore (lv' := [(7, .int 1), (6, .int x_10), (5, .int r_4), (4, .int r_1), (0, .ref (Q 6)), (1, .int a0), (2, .int a1), (3, .int a2)]) hx hb dX0_settleLives_38 hl (by decide) rfl (fun ls hl => ?_)
  have hL40 : ∀ (K40_131 : Int32 → Int32 → Int32 → Int32 → Int32 → Int32 → Int32 → NG Int32), (∀ (v1 v2 v3 v4 v5 v6 v7 : Int32) (u : MS) (D : Nat × Nat) (H : Heap) (locs : List Loc) (ls : Array Slot), lv_has ls 9 [(0, .ref (Q 6)), (1, .int v1), (2, .int v2), (3, .int v3), (4, .int v4), (5, .int v5), (6, .int v6), (7, .int v7)] → cH G Q D T A u s H locs → K40_131 v1 v2 v3 v4 v5 v6 v7 u = some (r, u1) → W p l e (headSpec (Cond.code yX0_settleLives cX0_settleLives 9 none :: wK) { frames := 3, cells := 0, slots := 0, locals := 71 }).room s m [.ref (Q 6), .int a0, .int a1, .int a2].toArray below meth c H locs 0 0 (MQ below (cQv G Q T u1 A) [.ref (Q 6), .int a0, .int a1, .int a2].toArray s 0 0 A) (F0 m 131 ls [])) → ∀ (n40 : Nat) (v1 v2 v3 v4 v5 v6 v7 : Int32) (u : MS) (D : Nat × Nat) (H : Heap) (locs : List Loc) (ls : Array Slot), lv_has ls 9 [(0, .ref (Q 6)), (1, .int v1), (2, .int v2), (3, .int v3), (4, .int v4), (5, .int v5), (6, .int v6), (7, .int v7)] → cH G Q D T A u s H locs → xl_X0_settleLives_40 n40 v1 v2 v3 v4 v5 v6 v7 K40_131 u = some (r, u1) → W p l e (headSpec (Cond.code yX0_settleLives cX0_settleLives 9 none :: wK) { frames := 3, cells := 0, slots := 0, locals := 71 }).room s m [.ref (Q 6), .int a0, .int a1, .int a2].toArray below meth c H locs 0 0 (MQ below (cQv G Q T u1 A) [.ref (Q 6), .int a0, .int a1, .int a2].toArray s 0 0 A) (F0 m 40 ls []) := by
    intro K40_131 hK40_131 n40
    induction n40 with
    | zero => intro v1 v2 v3 v4 v5 v6 v7 u D H locs ls hl hH hF; cases hF
    | succ n40 ih40 =>
      intro v1 v2 v3 v4 v5 v6 v7 u D H locs ls hl hH hF
      unfold xl_X0_settleLives_40 at hF
      refine lv_iload hx hb dX0_settleLives_40 (lv_at hl 7 rfl) ?_
      refine lv_iload hx hb dX0_settleLives_42 (lv_at hl 4 rfl) ?_
      refine lv_icmp_gt (tgt := 131) hx hb dX0_settleLives_44 (by decide) (fun c_14 => ?_) (fun c_14 => ?_)
      · rw [if_pos c_14] at hF
        exact hK40_131 v1 v2 v3 v4 v5 v6 v7 u _ _ _ _ (lv_sub hl [0, 1, 2, 3, 4, 5, 6, 7] rfl) hH hF
      · rw [if_neg c_14] at hF
        refine lv_iload_n hx hb dX0_settleLives_47 rfl (lv_at hl 2 rfl) ?_
        refine lv_iconst (v := 2) hx hb dX0_settleLives_48 (by decide) ?_
        refine lv_isub hx hb dX0_settleLives_49 ?_
        refine lv_iload_n hx hb dX0_settleLives_50 rfl (lv_at hl 3 rfl) ?_
        refine lv_iload hx hb dX0_settleLives_51 (lv_at hl 4 rfl) ?_
        refine lv_imul hx hb dX0_settleLives_53 ?_
        refine lv_iadd hx hb dX0_settleLives_54 ?_
        refine lv_iload hx hb dX0_settleLives_55 (lv_at hl 7 rfl) ?_
        refine lv_iadd hx hb dX0_settleLives_57 ?_
        obtain ⟨x_15, e_16, hF⟩ := nli_some hF
        refine gx_ti e_16 ?_
        refine lv_istore (lv' := [(8, .int x_15), (0, .ref (Q 6)), (1, .int v1), (2, .int v2), (3, .int v3), (4, .int v4), (5, .int v5), (6, .int v6), (7, .int v7)]) hx hb dX0_settleLives_58 hl (by decide) rfl (fun ls hl => ?_)
        refine lv_iload hx hb dX0_settleLives_60 (lv_at hl 8 rfl) ?_
        refine lv_iconst (v := 1) hx hb dX0_settleLives_62 (by decide) ?_
        refine lv_icmp_ne (tgt := 98) hx hb dX0_settleLives_63 (by decide) (fun c_17 => ?_) (fun c_17 => ?_)
        · rw [if_neg c_17] at hF
          refine lv_aload_n hx hb dX0_settleLives_98 rfl (lv_at hl 1 rfl) ?_
          refine lv_iload_n hx hb dX0_settleLives_99 rfl (lv_at hl 2 rfl) ?_
          refine lv_iload hx hb dX0_settleLives_100 (lv_at hl 0 rfl) ?_
          refine lv_iload hx hb dX0_settleLives_102 (lv_at hl 7 rfl) ?_
          refine lv_aload_n hx hb dX0_settleLives_104 rfl (lv_at hl 1 rfl) ?_
          refine cg_X0_33 hC hH dX0_settleLives_105 ?_
          refine lv_iload hx hb dX0_settleLives_108 (lv_at hl 8 rfl) ?_
          refine rg_16 hC hH wka265 ⟨Nat.le_of_ble_eq_true rfl, Nat.le_of_ble_eq_true rfl⟩ hl.1 (Nat.le_of_ble_eq_true rfl) ⟨Nat.zero_le _, Nat.zero_le _⟩ dX0_settleLives_110 ?_
          obtain ⟨x_18, u_19, h_20, hF⟩ := ncl_some hF
          obtain ⟨e_21, rfl⟩ := nGT_eq h_20
          refine gx_ti e_21 ?_
          obtain ⟨r_22, u_23, h_24, hF⟩ := ncl_some hF
          refine ccV_v (q0 := 6) (As := [.int v1, .int x_15, .int v6, .int x_18]) (rest := []) hC hH (n_X0_settleFight l G Z Q _ T u u_23 r_22 v1 x_15 v6 x_18 _ h_24) rfl rfl ⟨wkc_X0_settleFight, wka256, wka426, wka427, wka744⟩ kVX0_settleFight ⟨Nat.le_of_ble_eq_true rfl, Nat.le_of_ble_eq_true rfl⟩ rfl hl.1 rfl (Nat.le_of_ble_eq_true rfl) dX0_settleLives_113 (fun D H locs hH => ?_)
          refine lv_aload_n hx hb dX0_settleLives_116 rfl (lv_at hl 1 rfl) ?_
          refine lv_iload_n hx hb dX0_settleLives_117 rfl (lv_at hl 2 rfl) ?_
          refine lv_iload hx hb dX0_settleLives_118 (lv_at hl 0 rfl) ?_
          obtain ⟨r_25, u_26, h_27, hF⟩ := ncl_some hF
          refine ccV_i (q0 := 6) (As := [.int v1, .int x_15]) (rest := []) hC hH (n_X0_winnerOf l G Z Q _ T u_23 u_26 r_25 v1 x_15 _ h_27) rfl rfl ⟨wkc_X0_winnerOf, wka264, wka405, wka406, wka744⟩ kVX0_winnerOf ⟨Nat.le_of_ble_eq_true rfl, Nat.le_of_ble_eq_true rfl⟩ rfl hl.1 rfl (Nat.le_of_ble_eq_true rfl) dX0_settleLives_120 (fun D H locs hH => ?_)
          refine lv_istore (lv' := [(6, .int r_25), (8, .int x_15), (0, .ref (Q 6)), (1, .int v1), (2, .int v2), (3, .int v3), (4, .int v4), (5, .int v5), (7, .int v7)]) hx hb dX0_settleLives_123 hl (by decide) rfl (fun ls hl => ?_)
          obtain ⟨x_28, e_29, hF⟩ := nli_some hF
          refine lv_iinc (v := x_28) (lv' := [(7, .int x_28), (6, .int r_25), (8, .int x_15), (0, .ref (Q 6)), (1, .int v1), (2, .int v2), (3, .int v3), (4, .int v4), (5, .int v5)]) hx hb dX0_settleLives_125 hl (k := 8) rfl e_29 (by decide) rfl (fun ls hl => ?_)
          refine lv_goto (tgt := 40) hx hb dX0_settleLives_128 (by decide) ?_
          exact ih40 v1 v2 v3 v4 v5 r_25 x_28 u_26 _ _ _ _ (lv_sub hl [3, 4, 5, 6, 7, 8, 1, 0] rfl) hH hF
        · rw [if_pos c_17] at hF
          refine lv_iload hx hb dX0_settleLives_66 (lv_at hl 6 rfl) ?_
          refine lv_iconst (v := (-1)) hx hb dX0_settleLives_68 (by decide) ?_
          refine lv_icmp_eq (tgt := 98) hx hb dX0_settleLives_69 (by decide) (fun c_30 => ?_) (fun c_30 => ?_)
          · rw [if_pos c_30] at hF
            refine lv_aload_n hx hb dX0_settleLives_98 rfl (lv_at hl 1 rfl) ?_
            refine lv_iload_n hx hb dX0_settleLives_99 rfl (lv_at hl 2 rfl) ?_
            refine lv_iload hx hb dX0_settleLives_100 (lv_at hl 0 rfl) ?_
            refine lv_iload hx hb dX0_settleLives_102 (lv_at hl 7 rfl) ?_
            refine lv_aload_n hx hb dX0_settleLives_104 rfl (lv_at hl 1 rfl) ?_
            refine cg_X0_33 hC hH dX0_settleLives_105 ?_
            refine lv_iload hx hb dX0_settleLives_108 (lv_at hl 8 rfl) ?_
            refine rg_16 hC hH wka265 ⟨Nat.le_of_ble_eq_true rfl, Nat.le_of_ble_eq_true rfl⟩ hl.1 (Nat.le_of_ble_eq_true rfl) ⟨Nat.zero_le _, Nat.zero_le _⟩ dX0_settleLives_110 ?_
            obtain ⟨x_31, u_32, h_33, hF⟩ := ncl_some hF
            obtain ⟨e_34, rfl⟩ := nGT_eq h_33
            refine gx_ti e_34 ?_
            obtain ⟨r_35, u_36, h_37, hF⟩ := ncl_some hF
            refine ccV_v (q0 := 6) (As := [.int v1, .int x_15, .int v6, .int x_31]) (rest := []) hC hH (n_X0_settleFight l G Z Q _ T u u_36 r_35 v1 x_15 v6 x_31 _ h_37) rfl rfl ⟨wkc_X0_settleFight, wka256, wka426, wka427, wka744⟩ kVX0_settleFight ⟨Nat.le_of_ble_eq_true rfl, Nat.le_of_ble_eq_true rfl⟩ rfl hl.1 rfl (Nat.le_of_ble_eq_true rfl) dX0_settleLives_113 (fun D H locs hH => ?_)
            refine lv_aload_n hx hb dX0_settleLives_116 rfl (lv_at hl 1 rfl) ?_
            refine lv_iload_n hx hb dX0_settleLives_117 rfl (lv_at hl 2 rfl) ?_
            refine lv_iload hx hb dX0_settleLives_118 (lv_at hl 0 rfl) ?_
            obtain ⟨r_38, u_39, h_40, hF⟩ := ncl_some hF
            refine ccV_i (q0 := 6) (As := [.int v1, .int x_15]) (rest := []) hC hH (n_X0_winnerOf l G Z Q _ T u_36 u_39 r_38 v1 x_15 _ h_40) rfl rfl ⟨wkc_X0_winnerOf, wka264, wka405, wka406, wka744⟩ kVX0_winnerOf ⟨Nat.le_of_ble_eq_true rfl, Nat.le_of_ble_eq_true rfl⟩ rfl hl.1 rfl (Nat.le_of_ble_eq_true rfl) dX0_settleLives_120 (fun D H locs hH => ?_)
            refine lv_istore (lv' := [(6, .int r_38), (8, .int x_15), (0, .ref (Q 6)), (1, .int v1), (2, .int v2), (3, .int v3), (4, .int v4), (5, .int v5), (7, .int v7)]) hx hb dX0_settleLives_123 hl (by decide) rfl (fun ls hl => ?_)
            obtain ⟨x_41, e_42, hF⟩ := nli_some hF
            refine lv_iinc (v := x_41) (lv' := [(7, .int x_41), (6, .int r_38), (8, .int x_15), (0, .ref (Q 6)), (1, .int v1), (2, .int v2), (3, .int v3), (4, .int v4), (5, .int v5)]) hx hb dX0_settleLives_125 hl (k := 8) rfl e_42 (by decide) rfl (fun ls hl => ?_)
            refine lv_goto (tgt := 40) hx hb dX0_settleLives_128 (by decide) ?_
            exact ih40 v1 v2 v3 v4 v5 r_38 x_41 u_39 _ _ _ _ (lv_sub hl [3, 4, 5, 6, 7, 8, 1, 0] rfl) hH hF
          · rw [if_neg c_30] at hF
            refine lv_iload hx hb dX0_settleLives_72 (lv_at hl 7 rfl) ?_
            refine lv_iconst (v := (-1)) hx hb dX0_settleLives_74 (by decide) ?_
            refine lv_icmp_ne (tgt := 98) hx hb dX0_settleLives_75 (by decide) (fun c_43 => ?_) (fun c_43 => ?_)
            · rw [if_neg c_43] at hF
              refine lv_aload_n hx hb dX0_settleLives_98 rfl (lv_at hl 1 rfl) ?_
              refine lv_iload_n hx hb dX0_settleLives_99 rfl (lv_at hl 2 rfl) ?_
              refine lv_iload hx hb dX0_settleLives_100 (lv_at hl 0 rfl) ?_
              refine lv_iload hx hb dX0_settleLives_102 (lv_at hl 7 rfl) ?_
              refine lv_aload_n hx hb dX0_settleLives_104 rfl (lv_at hl 1 rfl) ?_
              refine cg_X0_33 hC hH dX0_settleLives_105 ?_
              refine lv_iload hx hb dX0_settleLives_108 (lv_at hl 8 rfl) ?_
              refine rg_16 hC hH wka265 ⟨Nat.le_of_ble_eq_true rfl, Nat.le_of_ble_eq_true rfl⟩ hl.1 (Nat.le_of_ble_eq_true rfl) ⟨Nat.zero_le _, Nat.zero_le _⟩ dX0_settleLives_110 ?_
              obtain ⟨x_44, u_45, h_46, hF⟩ := ncl_some hF
              obtain ⟨e_47, rfl⟩ := nGT_eq h_46
              refine gx_ti e_47 ?_
              obtain ⟨r_48, u_49, h_50, hF⟩ := ncl_some hF
              refine ccV_v (q0 := 6) (As := [.int v1, .int x_15, .int v6, .int x_44]) (rest := []) hC hH (n_X0_settleFight l G Z Q _ T u u_49 r_48 v1 x_15 v6 x_44 _ h_50) rfl rfl ⟨wkc_X0_settleFight, wka256, wka426, wka427, wka744⟩ kVX0_settleFight ⟨Nat.le_of_ble_eq_true rfl, Nat.le_of_ble_eq_true rfl⟩ rfl hl.1 rfl (Nat.le_of_ble_eq_true rfl) dX0_settleLives_113 (fun D H locs hH => ?_)
              refine lv_aload_n hx hb dX0_settleLives_116 rfl (lv_at hl 1 rfl) ?_
              refine lv_iload_n hx hb dX0_settleLives_117 rfl (lv_at hl 2 rfl) ?_
              refine lv_iload hx hb dX0_settleLives_118 (lv_at hl 0 rfl) ?_
              obtain ⟨r_51, u_52, h_53, hF⟩ := ncl_some hF
              refine ccV_i (q0 := 6) (As := [.int v1, .int x_15]) (rest := []) hC hH (n_X0_winnerOf l G Z Q _ T u_49 u_52 r_51 v1 x_15 _ h_53) rfl rfl ⟨wkc_X0_winnerOf, wka264, wka405, wka406, wka744⟩ kVX0_winnerOf ⟨Nat.le_of_ble_eq_true rfl, Nat.le_of_ble_eq_true rfl⟩ rfl hl.1 rfl (Nat.le_of_ble_eq_true rfl) dX0_settleLives_120 (fun D H locs hH => ?_)
              refine lv_istore (lv' := [(6, .int r_51), (8, .int x_15), (0, .ref (Q 6)), (1, .int v1), (2, .int v2), (3, .int v3), (4, .int v4), (5, .int v5), (7, .int v7)]) hx hb dX0_settleLives_123 hl (by decide) rfl (fun ls hl => ?_)
              obtain ⟨x_54, e_55, hF⟩ := nli_some hF
              refine lv_iinc (v := x_54) (lv' := [(7, .int x_54), (6, .int r_51), (8, .int x_15), (0, .ref (Q 6)), (1, .int v1), (2, .int v2), (3, .int v3), (4, .int v4), (5, .int v5)]) hx hb dX0_settleLives_125 hl (k := 8) rfl e_55 (by decide) rfl (fun ls hl => ?_)
              refine lv_goto (tgt := 40) hx hb dX0_settleLives_128 (by decide) ?_
              exact ih40 v1 v2 v3 v4 v5 r_51 x_54 u_52 _ _ _ _ (lv_sub hl [3, 4, 5, 6, 7, 8, 1, 0] rfl) hH hF
            · rw [if_pos c_43] at hF
              refine lv_aload_n hx hb dX0_settleLives_78 rfl (lv_at hl 1 rfl) ?_
              refine lv_iload_n hx hb dX0_settleLives_79 rfl (lv_at hl 2 rfl) ?_
              refine lv_iload hx hb dX0_settleLives_80 (lv_at hl 0 rfl) ?_
              refine lv_iconst (v := (-1)) hx hb dX0_settleLives_82 (by decide) ?_
              refine lv_aload_n hx hb dX0_settleLives_83 rfl (lv_at hl 1 rfl) ?_
              refine cg_X0_33 hC hH dX0_settleLives_84 ?_
              refine lv_iload hx hb dX0_settleLives_87 (lv_at hl 8 rfl) ?_
              refine rg_16 hC hH wka265 ⟨Nat.le_of_ble_eq_true rfl, Nat.le_of_ble_eq_true rfl⟩ hl.1 (Nat.le_of_ble_eq_true rfl) ⟨Nat.zero_le _, Nat.zero_le _⟩ dX0_settleLives_89 ?_
              obtain ⟨x_56, u_57, h_58, hF⟩ := ncl_some hF
              obtain ⟨e_59, rfl⟩ := nGT_eq h_58
              refine gx_ti e_59 ?_
              obtain ⟨r_60, u_61, h_62, hF⟩ := ncl_some hF
              refine ccV_v (q0 := 6) (As := [.int v1, .int x_15, .int (-1), .int x_56]) (rest := []) hC hH (n_X0_settleWalk l G Z Q _ T u u_61 r_60 v1 x_15 (-1) x_56 _ h_62) rfl rfl ⟨wkc_X0_settleWalk, wka262, wka424, wka425, wka744⟩ kVX0_settleWalk ⟨Nat.le_of_ble_eq_true rfl, Nat.le_of_ble_eq_true rfl⟩ rfl hl.1 rfl (Nat.le_of_ble_eq_true rfl) dX0_settleLives_92 (fun D H locs hH => ?_)
              refine lv_goto (tgt := 116) hx hb dX0_settleLives_95 (by decide) ?_
              refine lv_aload_n hx hb dX0_settleLives_116 rfl (lv_at hl 1 rfl) ?_
              refine lv_iload_n hx hb dX0_settleLives_117 rfl (lv_at hl 2 rfl) ?_
              refine lv_iload hx hb dX0_settleLives_118 (lv_at hl 0 rfl) ?_
              obtain ⟨r_63, u_64, h_65, hF⟩ := ncl_some hF
              refine ccV_i (q0 := 6) (As := [.int v1, .int x_15]) (rest := []) hC hH (n_X0_winnerOf l G Z Q _ T u_61 u_64 r_63 v1 x_15 _ h_65) rfl rfl ⟨wkc_X0_winnerOf, wka264, wka405, wka406, wka744⟩ kVX0_winnerOf ⟨Nat.le_of_ble_eq_true rfl, Nat.le_of_ble_eq_true rfl⟩ rfl hl.1 rfl (Nat.le_of_ble_eq_true rfl) dX0_settleLives_120 (fun D H locs hH => ?_)
              refine lv_istore (lv' := [(6, .int r_63), (8, .int x_15), (0, .ref (Q 6)), (1, .int v1), (2, .int v2), (3, .int v3), (4, .int v4), (5, .int v5), (7, .int v7)]) hx hb dX0_settleLives_123 hl (by decide) rfl (fun ls hl => ?_)
              obtain ⟨x_66, e_67, hF⟩ := nli_some hF
              refine lv_iinc (v := x_66) (lv' := [(7, .int x_66), (6, .int r_63), (8, .int x_15), (0, .ref (Q 6)), (1, .int v1), (2, .int v2), (3, .int v3), (4, .int v4), (5, .int v5)]) hx hb dX0_settleLives_125 hl (k := 8) rfl e_67 (by decide) rfl (fun ls hl => ?_)
              refine lv_goto (tgt := 40) hx hb dX0_settleLives_128 (by decide) ?_
              exact ih40 v1 v2 v3 v4 v5 r_63 x_66 u_64 _ _ _ _ (lv_sub hl [3, 4, 5, 6, 7, 8, 1, 0] rfl) hH hF
  refine hL40 _ (fun v1 v2 v3 v4 v5 v6 v7 u D H locs ls hl hH hF => ?_) fuel a0 a1 a2 r_1 r_4 x_10 1 u_8 _ _ _ _ (lv_sub hl [4, 5, 6, 7, 3, 2, 1, 0] rfl) hH hF
  exact cr_v hC hH hr (nrt_eq hF) dX0_settleLives_131 hlocks
def xl_X0_settlePool_14 : Nat → Int32 → Int32 → Int32 → Int32 → Int32 → (Int32 → Int32 → Int32 → Int32 → Int32 → NG Int32) → NG Int32
  | 0, _, _, _, _, _, _ => fun _ => none
  | n14 + 1, v1, v2, v3, v4, v5, K14_79 => (if v2 ≤ (v5 + v4) then K14_79 v1 v2 v3 v4 v5 else ncl (x_X1_ofClass v1 (4 + v5)) (fun r_3 => ncl (nGT 0 2088 r_3) (fun x_6 => ncl (x_X1_ofClass v1 ((4 + v5) + v4)) (fun r_10 => ncl (nGT 0 2088 r_10) (fun x_13 => ncl (x_X0_settleFight v1 v3 x_6 x_13) (fun r_17 => nli (v3 + 1) (fun x_20 => nli (v5 + 1) (fun x_22 => xl_X0_settlePool_14 n14 v1 v2 x_20 v4 x_22 K14_79))))))))
def xl_X0_settlePool_5 : Nat → Int32 → Int32 → Int32 → Int32 → (Int32 → Int32 → Int32 → Int32 → NG Int32) → NG Int32
  | 0, _, _, _, _, _ => fun _ => none
  | n5 + 1, v1, v2, v3, v4, K5_85 => (if v2 ≤ v4 then K5_85 v1 v2 v3 v4 else xl_X0_settlePool_14 fuel v1 v2 v3 v4 0 (fun v1 v2 v3 v4 v5 => nli (v4 + 1) (fun x_24 => xl_X0_settlePool_5 n5 v1 v2 v3 x_24 K5_85)))
def x_X0_settlePool (a0 : Int32) (a1 : Int32) : NG Int32 := xl_X0_settlePool_5 fuel a0 a1 0 1 (fun v1 v2 v3 v4 => nrt 0)
set_option maxHeartbeats 4000000 in
set_option maxRecDepth 100000 in
theorem n_X0_settlePool (l : Launch) (G : gG) (Z : gC) (Q : Nat → Nat) (D : Nat × Nat) (T : va_W) (u u1 : MS) (r : Int32) (a0 : Int32) (a1 : Int32) (sz : Nat) (hF : x_X0_settlePool a0 a1 u = some (r, u1)) : Met l yX0_settlePool (Cond.code yX0_settlePool cX0_settlePool 8 none :: wK) { frames := 3, cells := 0, slots := 0, locals := 69 } (va_Pc [.ref (Q 6), .int a0, .int a1] (cPM G Z Q D T u sz)) (cQv G Q T u1 (va_A (cW G Q D T u) sz)) 0 0 (va_A (cW G Q D T u) sz) := by
  refine Met.ofW (cc := cX0_settlePool) (maxL := 8) (ret := none) (by decide) rfl ?_
  intro p e s m args below meth c s₁ B hml hv
  obtain ⟨rfl, rfl, hP, hB, hD0, hE⟩ := hv
  have hr := B.returns
  have hlocks := B.notSynchronized
  have hts := atoms_spec (ws := Cond.code yX0_settlePool cX0_settlePool 8 none :: wK) B.pre
  have hD := hD0.self (sz := s.heap.size)
  have hA : ∀ q : Nat, s.heap.size ≤ q → va_A (cW G Q D T u) s.heap.size q := fun q h => Or.inr h
  generalize va_A (cW G Q D T u) s.heap.size = A at hD hA hE ⊢
  have hC : cX p c cX0_settlePool 8 s m _ RX0 G Z A := ⟨B.exec, B.bytes, hml, findClass_of_methodNamed B.named, fun w h => hts w (List.mem_cons_of_mem _ h), hB, hE, hA⟩
  have hx := hC.1
  have hb := hC.2.1
  have hH : cH G Q D T A u s s.heap [] := ⟨hP, hD, va_S.rf⟩
  have hl := lv_entry ([.ref (Q 6), .int a0, .int a1]) (n := 8) (Nat.le_of_ble_eq_true rfl)
  rw [lg_entry_eq]
  generalize (lg_sl ([.ref (Q 6), .int a0, .int a1]) ++ List.replicate (8 - (lg_sl ([.ref (Q 6), .int a0, .int a1])).length) Slot.unset).toArray = ls at hl ⊢
  have hl : lv_has ls 8 [(0, .ref (Q 6)), (1, .int a0), (2, .int a1)] := hl
  unfold x_X0_settlePool at hF
  refine lv_iconst (v := 0) hx hb dX0_settlePool_0 (by decide) ?_
  refine lv_istore_n (lv' := [(3, .int 0), (0, .ref (Q 6)), (1, .int a0), (2, .int a1)]) hx hb dX0_settlePool_1 rfl hl (by decide) rfl (fun ls hl => ?_)
  refine lv_iconst (v := 1) hx hb dX0_settlePool_2 (by decide) ?_
  refine lv_istore (lv' := [(4, .int 1), (3, .int 0), (0, .ref (Q 6)), (1, .int a0), (2, .int a1)]) hx hb dX0_settlePool_3 hl (by decide) rfl (fun ls hl => ?_)
  have hL5 : ∀ (K5_85 : Int32 → Int32 → Int32 → Int32 → NG Int32), (∀ (v1 v2 v3 v4 : Int32) (u : MS) (D : Nat × Nat) (H : Heap) (locs : List Loc) (ls : Array Slot), lv_has ls 8 [(0, .ref (Q 6)), (1, .int v1), (2, .int v2), (3, .int v3), (4, .int v4)] → cH G Q D T A u s H locs → K5_85 v1 v2 v3 v4 u = some (r, u1) → W p l e (headSpec (Cond.code yX0_settlePool cX0_settlePool 8 none :: wK) { frames := 3, cells := 0, slots := 0, locals := 69 }).room s m [.ref (Q 6), .int a0, .int a1].toArray below meth c H locs 0 0 (MQ below (cQv G Q T u1 A) [.ref (Q 6), .int a0, .int a1].toArray s 0 0 A) (F0 m 85 ls [])) → ∀ (n5 : Nat) (v1 v2 v3 v4 : Int32) (u : MS) (D : Nat × Nat) (H : Heap) (locs : List Loc) (ls : Array Slot), lv_has ls 8 [(0, .ref (Q 6)), (1, .int v1), (2, .int v2), (3, .int v3), (4, .int v4)] → cH G Q D T A u s H locs → xl_X0_settlePool_5 n5 v1 v2 v3 v4 K5_85 u = some (r, u1) → W p l e (headSpec (Cond.code yX0_settlePool cX0_settlePool 8 none :: wK) { frames := 3, cells := 0, slots := 0, locals := 69 }).room s m [.ref (Q 6), .int a0, .int a1].toArray below meth c H locs 0 0 (MQ below (cQv G Q T u1 A) [.ref (Q 6), .int a0, .int a1].toArray s 0 0 A) (F0 m 5 ls []) := by
    intro K5_85 hK5_85 n5
    induction n5 with
    | zero => intro v1 v2 v3 v4 u D H locs ls hl hH hF; cases hF
    | succ n5 ih5 =>
      intro v1 v2 v3 v4 u D H locs ls hl hH hF
      unfold xl_X0_settlePool_5 at hF
      refine lv_iload hx hb dX0_settlePool_5 (lv_at hl 4 rfl) ?_
      refine lv_iload_n hx hb dX0_settlePool_7 rfl (lv_at hl 2 rfl) ?_
      refine lv_icmp_ge (tgt := 85) hx hb dX0_settlePool_8 (by decide) (fun c_1 => ?_) (fun c_1 => ?_)
      · rw [if_pos c_1] at hF
        exact hK5_85 v1 v2 v3 v4 u _ _ _ _ (lv_sub hl [0, 1, 2, 3, 4] rfl) hH hF
      · rw [if_neg c_1] at hF
        refine lv_iconst (v := 0) hx hb dX0_settlePool_11 (by decide) ?_
        refine lv_istore (lv' := [(5, .int 0), (0, .ref (Q 6)), (1, .int v1), (2, .int v2), (3, .int v3), (4, .int v4)]) hx hb dX0_settlePool_12 hl (by decide) rfl (fun ls hl => ?_)
        have hL14 : ∀ (K14_79 : Int32 → Int32 → Int32 → Int32 → Int32 → NG Int32), (∀ (v1 v2 v3 v4 v5 : Int32) (u : MS) (D : Nat × Nat) (H : Heap) (locs : List Loc) (ls : Array Slot), lv_has ls 8 [(0, .ref (Q 6)), (1, .int v1), (2, .int v2), (3, .int v3), (4, .int v4), (5, .int v5)] → cH G Q D T A u s H locs → K14_79 v1 v2 v3 v4 v5 u = some (r, u1) → W p l e (headSpec (Cond.code yX0_settlePool cX0_settlePool 8 none :: wK) { frames := 3, cells := 0, slots := 0, locals := 69 }).room s m [.ref (Q 6), .int a0, .int a1].toArray below meth c H locs 0 0 (MQ below (cQv G Q T u1 A) [.ref (Q 6), .int a0, .int a1].toArray s 0 0 A) (F0 m 79 ls [])) → ∀ (n14 : Nat) (v1 v2 v3 v4 v5 : Int32) (u : MS) (D : Nat × Nat) (H : Heap) (locs : List Loc) (ls : Array Slot), lv_has ls 8 [(0, .ref (Q 6)), (1, .int v1), (2, .int v2), (3, .int v3), (4, .int v4), (5, .int v5)] → cH G Q D T A u s H locs → xl_X0_settlePool_14 n14 v1 v2 v3 v4 v5 K14_79 u = some (r, u1) → W p l e (headSpec (Cond.code yX0_settlePool cX0_settlePool 8 none :: wK) { frames := 3, cells := 0, slots := 0, locals := 69 }).room s m [.ref (Q 6), .int a0, .int a1].toArray below meth c H locs 0 0 (MQ below (cQv G Q T u1 A) [.ref (Q 6), .int a0, .int a1].toArray s 0 0 A) (F0 m 14 ls []) := by
          intro K14_79 hK14_79 n14
          induction n14 with
          | zero => intro v1 v2 v3 v4 v5 u D H locs ls hl hH hF; cases hF
          | succ n14 ih14 =>
            intro v1 v2 v3 v4 v5 u D H locs ls hl hH hF
            unfold xl_X0_settlePool_14 at hF
            refine lv_iload hx hb dX0_settlePool_14 (lv_at hl 5 rfl) ?_
            refine lv_iload hx hb dX0_settlePool_16 (lv_at hl 4 rfl) ?_
            refine lv_iadd hx hb dX0_settlePool_18 ?_
            refine lv_iload_n hx hb dX0_settlePool_19 rfl (lv_at hl 2 rfl) ?_
            refine lv_icmp_ge (tgt := 79) hx hb dX0_settlePool_20 (by decide) (fun c_2 => ?_) (fun c_2 => ?_)
            · rw [if_pos c_2] at hF
              exact hK14_79 v1 v2 v3 v4 v5 u _ _ _ _ (lv_sub hl [0, 1, 2, 3, 4, 5] rfl) hH hF
            · rw [if_neg c_2] at hF
              refine lv_aload_n hx hb dX0_settlePool_23 rfl (lv_at hl 0 rfl) ?_
              refine cg_X0_11 hC hH dX0_settlePool_24 ?_
              refine lv_iload_n hx hb dX0_settlePool_27 rfl (lv_at hl 1 rfl) ?_
              refine lv_iconst (v := 4) hx hb dX0_settlePool_28 (by decide) ?_
              refine lv_iload hx hb dX0_settlePool_29 (lv_at hl 5 rfl) ?_
              refine lv_iadd hx hb dX0_settlePool_31 ?_
              obtain ⟨r_3, u_4, h_5, hF⟩ := ncl_some hF
              refine ccS_i (As := [.int v1, .int (4 + v5)]) (rest := [.ref (Q 1)]) hC hH (n_X1_ofClass l G Z Q _ T u u_4 r_3 v1 (4 + v5) _ h_5) ⟨wkc_X1_ofClass, wka212, wka435, wka745⟩ kSX1_ofClass ⟨Nat.le_of_ble_eq_true rfl, Nat.le_of_ble_eq_true rfl⟩ rfl hl.1 rfl (Nat.le_of_ble_eq_true rfl) dX0_settlePool_32 (fun D H locs hH => ?_)
              refine bat (i := 1) (j := 11) hC hH rfl rfl (by decide) wka213 ⟨Nat.le_of_ble_eq_true rfl, Nat.le_of_ble_eq_true rfl⟩ hl.1 (Nat.le_of_ble_eq_true rfl) ⟨Nat.zero_le _, Nat.zero_le _⟩ dX0_settlePool_35 ?_
              obtain ⟨x_6, u_7, h_8, hF⟩ := ncl_some hF
              obtain ⟨e_9, rfl⟩ := nGT_eq h_8
              refine gx_ti e_9 ?_
              refine lv_istore (lv' := [(6, .int x_6), (0, .ref (Q 6)), (1, .int v1), (2, .int v2), (3, .int v3), (4, .int v4), (5, .int v5)]) hx hb dX0_settlePool_38 hl (by decide) rfl (fun ls hl => ?_)
              refine lv_aload_n hx hb dX0_settlePool_40 rfl (lv_at hl 1 rfl) ?_
              refine cg_X0_11 hC hH dX0_settlePool_41 ?_
              refine lv_iload_n hx hb dX0_settlePool_44 rfl (lv_at hl 2 rfl) ?_
              refine lv_iconst (v := 4) hx hb dX0_settlePool_45 (by decide) ?_
              refine lv_iload hx hb dX0_settlePool_46 (lv_at hl 6 rfl) ?_
              refine lv_iadd hx hb dX0_settlePool_48 ?_
              refine lv_iload hx hb dX0_settlePool_49 (lv_at hl 5 rfl) ?_
              refine lv_iadd hx hb dX0_settlePool_51 ?_
              obtain ⟨r_10, u_11, h_12, hF⟩ := ncl_some hF
              refine ccS_i (As := [.int v1, .int ((4 + v5) + v4)]) (rest := [.ref (Q 1)]) hC hH (n_X1_ofClass l G Z Q _ T u_4 u_11 r_10 v1 ((4 + v5) + v4) _ h_12) ⟨wkc_X1_ofClass, wka212, wka435, wka745⟩ kSX1_ofClass ⟨Nat.le_of_ble_eq_true rfl, Nat.le_of_ble_eq_true rfl⟩ rfl hl.1 rfl (Nat.le_of_ble_eq_true rfl) dX0_settlePool_52 (fun D H locs hH => ?_)
              refine bat (i := 1) (j := 11) hC hH rfl rfl (by decide) wka213 ⟨Nat.le_of_ble_eq_true rfl, Nat.le_of_ble_eq_true rfl⟩ hl.1 (Nat.le_of_ble_eq_true rfl) ⟨Nat.zero_le _, Nat.zero_le _⟩ dX0_settlePool_55 ?_
              obtain ⟨x_13, u_14, h_15, hF⟩ := ncl_some hF
              obtain ⟨e_16, rfl⟩ := nGT_eq h_15
              refine gx_ti e_16 ?_
              refine lv_istore (lv' := [(7, .int x_13), (6, .int x_6), (0, .ref (Q 6)), (1, .int v1), (2, .int v2), (3, .int v3), (4, .int v4), (5, .int v5)]) hx hb dX0_settlePool_58 hl (by decide) rfl (fun ls hl => ?_)
              refine lv_aload_n hx hb dX0_settlePool_60 rfl (lv_at hl 2 rfl) ?_
              refine lv_iload_n hx hb dX0_settlePool_61 rfl (lv_at hl 3 rfl) ?_
              refine lv_iload_n hx hb dX0_settlePool_62 rfl (lv_at hl 5 rfl) ?_
              refine lv_iload hx hb dX0_settlePool_63 (lv_at hl 1 rfl) ?_
              refine lv_iload hx hb dX0_settlePool_65 (lv_at hl 0 rfl) ?_
              obtain ⟨r_17, u_18, h_19, hF⟩ := ncl_some hF
              refine ccV_v (q0 := 6) (As := [.int v1, .int v3, .int x_6, .int x_13]) (rest := []) hC hH (n_X0_settleFight l G Z Q _ T u_11 u_18 r_17 v1 v3 x_6 x_13 _ h_19) rfl rfl ⟨wkc_X0_settleFight, wka256, wka426, wka427, wka744⟩ kVX0_settleFight ⟨Nat.le_of_ble_eq_true rfl, Nat.le_of_ble_eq_true rfl⟩ rfl hl.1 rfl (Nat.le_of_ble_eq_true rfl) dX0_settlePool_67 (fun D H locs hH => ?_)
              obtain ⟨x_20, e_21, hF⟩ := nli_some hF
              refine lv_iinc (v := x_20) (lv' := [(3, .int x_20), (7, .int x_13), (6, .int x_6), (0, .ref (Q 6)), (1, .int v1), (2, .int v2), (4, .int v4), (5, .int v5)]) hx hb dX0_settlePool_70 hl (k := 5) rfl e_21 (by decide) rfl (fun ls hl => ?_)
              obtain ⟨x_22, e_23, hF⟩ := nli_some hF
              refine lv_iinc (v := x_22) (lv' := [(5, .int x_22), (3, .int x_20), (7, .int x_13), (6, .int x_6), (0, .ref (Q 6)), (1, .int v1), (2, .int v2), (4, .int v4)]) hx hb dX0_settlePool_73 hl (k := 7) rfl e_23 (by decide) rfl (fun ls hl => ?_)
              refine lv_goto (tgt := 14) hx hb dX0_settlePool_76 (by decide) ?_
              exact ih14 v1 v2 x_20 v4 x_22 u_18 _ _ _ _ (lv_sub hl [4, 5, 6, 1, 7, 0] rfl) hH hF
        refine hL14 _ (fun v1 v2 v3 v4 v5 u D H locs ls hl hH hF => ?_) fuel v1 v2 v3 v4 0 u _ _ _ _ (lv_sub hl [1, 2, 3, 4, 5, 0] rfl) hH hF
        obtain ⟨x_24, e_25, hF⟩ := nli_some hF
        refine lv_iinc (v := x_24) (lv' := [(4, .int x_24), (0, .ref (Q 6)), (1, .int v1), (2, .int v2), (3, .int v3), (5, .int v5)]) hx hb dX0_settlePool_79 hl (k := 4) rfl e_25 (by decide) rfl (fun ls hl => ?_)
        refine lv_goto (tgt := 5) hx hb dX0_settlePool_82 (by decide) ?_
        exact ih5 v1 v2 v3 x_24 u _ _ _ _ (lv_sub hl [1, 2, 3, 4, 0] rfl) hH hF
  refine hL5 _ (fun v1 v2 v3 v4 u D H locs ls hl hH hF => ?_) fuel a0 a1 0 1 u _ _ _ _ (lv_sub hl [2, 3, 4, 1, 0] rfl) hH hF
  exact cr_v hC hH hr (nrt_eq hF) dX0_settlePool_85 hlocks
def x_X0_settle (a0 : Int32) : NG Int32 := ncl (x_X0_kindOf a0) (fun r_1 => (if r_1 = 1 then ncl (x_X0_sizeOf a0) (fun r_27 => ncl (x_X0_settlePool a0 r_27) (fun r_30 => ncl (x_X0_kindOf a0) (fun r_33 => (if r_33 = 2 then ncl (x_X0_sizeOf a0) (fun r_37 => ncl (x_X0_settleTree a0 r_37) (fun r_40 => ncl (x_X0_sizeOf a0) (fun r_43 => ncl (x_X0_settleLives a0 r_43 0) (fun r_46 => ncl (x_X0_sizeOf a0) (fun r_49 => ncl (x_X0_settleLives a0 r_49 1) (fun r_52 => nrt 0)))))) else nrt 0)))) else ncl (x_X0_kindOf a0) (fun r_5 => (if r_5 = 2 then ncl (x_X0_sizeOf a0) (fun r_9 => ncl (x_X0_settleTree a0 r_9) (fun r_12 => ncl (x_X0_sizeOf a0) (fun r_15 => ncl (x_X0_settleLives a0 r_15 0) (fun r_18 => ncl (x_X0_sizeOf a0) (fun r_21 => ncl (x_X0_settleLives a0 r_21 1) (fun r_24 => nrt 0)))))) else nrt 0))))
set_option maxHeartbeats 4000000 in
set_option maxRecDepth 100000 in
theorem n_X0_settle (l : Launch) (G : gG) (Z : gC) (Q : Nat → Nat) (D : Nat × Nat) (T : va_W) (u u1 : MS) (r : Int32) (a0 : Int32) (sz : Nat) (hF : x_X0_settle a0 u = some (r, u1)) : Met l yX0_settle (Cond.code yX0_settle cX0_settle 2 none :: wK) { frames := 4, cells := 0, slots := 0, locals := 99 } (va_Pc [.ref (Q 6), .int a0] (cPM G Z Q D T u sz)) (cQv G Q T u1 (va_A (cW G Q D T u) sz)) 0 0 (va_A (cW G Q D T u) sz) := by
  refine Met.ofW (cc := cX0_settle) (maxL := 2) (ret := none) (by decide) rfl ?_
  intro p e s m args below meth c s₁ B hml hv
  obtain ⟨rfl, rfl, hP, hB, hD0, hE⟩ := hv
  have hr := B.returns
  have hlocks := B.notSynchronized
  have hts := atoms_spec (ws := Cond.code yX0_settle cX0_settle 2 none :: wK) B.pre
  have hD := hD0.self (sz := s.heap.size)
  have hA : ∀ q : Nat, s.heap.size ≤ q → va_A (cW G Q D T u) s.heap.size q := fun q h => Or.inr h
  generalize va_A (cW G Q D T u) s.heap.size = A at hD hA hE ⊢
  have hC : cX p c cX0_settle 2 s m _ RX0 G Z A := ⟨B.exec, B.bytes, hml, findClass_of_methodNamed B.named, fun w h => hts w (List.mem_cons_of_mem _ h), hB, hE, hA⟩
  have hx := hC.1
  have hb := hC.2.1
  have hH : cH G Q D T A u s s.heap [] := ⟨hP, hD, va_S.rf⟩
  have hl := lv_entry ([.ref (Q 6), .int a0]) (n := 2) (Nat.le_of_ble_eq_true rfl)
  rw [lg_entry_eq]
  generalize (lg_sl ([.ref (Q 6), .int a0]) ++ List.replicate (2 - (lg_sl ([.ref (Q 6), .int a0])).length) Slot.unset).toArray = ls at hl ⊢
  have hl : lv_has ls 2 [(0, .ref (Q 6)), (1, .int a0)] := hl
  unfold x_X0_settle at hF
  refine lv_aload_n hx hb dX0_settle_0 rfl (lv_at hl 0 rfl) ?_
  refine lv_iload_n hx hb dX0_settle_1 rfl (lv_at hl 1 rfl) ?_
  obtain ⟨r_1, u_2, h_3, hF⟩ := ncl_some hF
  refine ccV_i (q0 := 6) (As := [.int a0]) (rest := []) hC hH (n_X0_kindOf l G Z Q _ T u u_2 r_1 a0 _ h_3) rfl rfl ⟨wkc_X0_kindOf, wka211, wka388, wka389, wka744⟩ kVX0_kindOf ⟨Nat.le_of_ble_eq_true rfl, Nat.le_of_ble_eq_true rfl⟩ rfl hl.1 rfl (Nat.le_of_ble_eq_true rfl) dX0_settle_2 (fun D H locs hH => ?_)
  refine lv_iconst (v := 1) hx hb dX0_settle_5 (by decide) ?_
  refine lv_icmp_ne (tgt := 19) hx hb dX0_settle_6 (by decide) (fun c_4 => ?_) (fun c_4 => ?_)
  · rw [if_neg c_4] at hF
    refine lv_aload_n hx hb dX0_settle_19 rfl (lv_at hl 0 rfl) ?_
    refine lv_iload_n hx hb dX0_settle_20 rfl (lv_at hl 1 rfl) ?_
    obtain ⟨r_5, u_6, h_7, hF⟩ := ncl_some hF
    refine ccV_i (q0 := 6) (As := [.int a0]) (rest := []) hC hH (n_X0_kindOf l G Z Q _ T u_2 u_6 r_5 a0 _ h_7) rfl rfl ⟨wkc_X0_kindOf, wka211, wka388, wka389, wka744⟩ kVX0_kindOf ⟨Nat.le_of_ble_eq_true rfl, Nat.le_of_ble_eq_true rfl⟩ rfl hl.1 rfl (Nat.le_of_ble_eq_true rfl) dX0_settle_21 (fun D H locs hH => ?_)
    refine lv_iconst (v := 2) hx hb dX0_settle_24 (by decide) ?_
    refine lv_icmp_ne (tgt := 60) hx hb dX0_settle_25 (by decide) (fun c_8 => ?_) (fun c_8 => ?_)
    · rw [if_neg c_8] at hF
      exact cr_v hC hH hr (nrt_eq hF) dX0_settle_60 hlocks
    · rw [if_pos c_8] at hF
      refine lv_aload_n hx hb dX0_settle_28 rfl (lv_at hl 0 rfl) ?_
      refine lv_iload_n hx hb dX0_settle_29 rfl (lv_at hl 1 rfl) ?_
      refine lv_aload_n hx hb dX0_settle_30 rfl (lv_at hl 0 rfl) ?_
      refine lv_iload_n hx hb dX0_settle_31 rfl (lv_at hl 1 rfl) ?_
      obtain ⟨r_9, u_10, h_11, hF⟩ := ncl_some hF
      refine ccV_i (q0 := 6) (As := [.int a0]) (rest := [.int a0, .ref (Q 6)]) hC hH (n_X0_sizeOf l G Z Q _ T u_6 u_10 r_9 a0 _ h_11) rfl rfl ⟨wkc_X0_sizeOf, wka254, wka390, wka391, wka744⟩ kVX0_sizeOf ⟨Nat.le_of_ble_eq_true rfl, Nat.le_of_ble_eq_true rfl⟩ rfl hl.1 rfl (Nat.le_of_ble_eq_true rfl) dX0_settle_32 (fun D H locs hH => ?_)
      obtain ⟨r_12, u_13, h_14, hF⟩ := ncl_some hF
      refine ccV_v (q0 := 6) (As := [.int a0, .int r_9]) (rest := []) hC hH (n_X0_settleTree l G Z Q _ T u_10 u_13 r_12 a0 r_9 _ h_14) rfl rfl ⟨wkc_X0_settleTree, wka261, wka417, wka418, wka744⟩ kVX0_settleTree ⟨Nat.le_of_ble_eq_true rfl, Nat.le_of_ble_eq_true rfl⟩ rfl hl.1 rfl (Nat.le_of_ble_eq_true rfl) dX0_settle_35 (fun D H locs hH => ?_)
      refine lv_aload_n hx hb dX0_settle_38 rfl (lv_at hl 0 rfl) ?_
      refine lv_iload_n hx hb dX0_settle_39 rfl (lv_at hl 1 rfl) ?_
      refine lv_aload_n hx hb dX0_settle_40 rfl (lv_at hl 0 rfl) ?_
      refine lv_iload_n hx hb dX0_settle_41 rfl (lv_at hl 1 rfl) ?_
      obtain ⟨r_15, u_16, h_17, hF⟩ := ncl_some hF
      refine ccV_i (q0 := 6) (As := [.int a0]) (rest := [.int a0, .ref (Q 6)]) hC hH (n_X0_sizeOf l G Z Q _ T u_13 u_16 r_15 a0 _ h_17) rfl rfl ⟨wkc_X0_sizeOf, wka254, wka390, wka391, wka744⟩ kVX0_sizeOf ⟨Nat.le_of_ble_eq_true rfl, Nat.le_of_ble_eq_true rfl⟩ rfl hl.1 rfl (Nat.le_of_ble_eq_true rfl) dX0_settle_42 (fun D H locs hH => ?_)
      refine lv_iconst (v := 0) hx hb dX0_settle_45 (by decide) ?_
      obtain ⟨r_18, u_19, h_20, hF⟩ := ncl_some hF
      refine ccV_v (q0 := 6) (As := [.int a0, .int r_15, .int 0]) (rest := []) hC hH (n_X0_settleLives l G Z Q _ T u_16 u_19 r_18 a0 r_15 0 _ h_20) rfl rfl ⟨wkc_X0_settleLives, wka266, wka420, wka421, wka744⟩ kVX0_settleLives ⟨Nat.le_of_ble_eq_true rfl, Nat.le_of_ble_eq_true rfl⟩ rfl hl.1 rfl (Nat.le_of_ble_eq_true rfl) dX0_settle_46 (fun D H locs hH => ?_)
      refine lv_aload_n hx hb dX0_settle_49 rfl (lv_at hl 0 rfl) ?_
      refine lv_iload_n hx hb dX0_settle_50 rfl (lv_at hl 1 rfl) ?_
      refine lv_aload_n hx hb dX0_settle_51 rfl (lv_at hl 0 rfl) ?_
      refine lv_iload_n hx hb dX0_settle_52 rfl (lv_at hl 1 rfl) ?_
      obtain ⟨r_21, u_22, h_23, hF⟩ := ncl_some hF
      refine ccV_i (q0 := 6) (As := [.int a0]) (rest := [.int a0, .ref (Q 6)]) hC hH (n_X0_sizeOf l G Z Q _ T u_19 u_22 r_21 a0 _ h_23) rfl rfl ⟨wkc_X0_sizeOf, wka254, wka390, wka391, wka744⟩ kVX0_sizeOf ⟨Nat.le_of_ble_eq_true rfl, Nat.le_of_ble_eq_true rfl⟩ rfl hl.1 rfl (Nat.le_of_ble_eq_true rfl) dX0_settle_53 (fun D H locs hH => ?_)
      refine lv_iconst (v := 1) hx hb dX0_settle_56 (by decide) ?_
      obtain ⟨r_24, u_25, h_26, hF⟩ := ncl_some hF
      refine ccV_v (q0 := 6) (As := [.int a0, .int r_21, .int 1]) (rest := []) hC hH (n_X0_settleLives l G Z Q _ T u_22 u_25 r_24 a0 r_21 1 _ h_26) rfl rfl ⟨wkc_X0_settleLives, wka266, wka420, wka421, wka744⟩ kVX0_settleLives ⟨Nat.le_of_ble_eq_true rfl, Nat.le_of_ble_eq_true rfl⟩ rfl hl.1 rfl (Nat.le_of_ble_eq_true rfl) dX0_settle_57 (fun D H locs hH => ?_)
      exact cr_v hC hH hr (nrt_eq hF) dX0_settle_60 hlocks
  · rw [if_pos c_4] at hF
    refine lv_aload_n hx hb dX0_settle_9 rfl (lv_at hl 0 rfl) ?_
    refine lv_iload_n hx hb dX0_settle_10 rfl (lv_at hl 1 rfl) ?_
    refine lv_aload_n hx hb dX0_settle_11 rfl (lv_at hl 0 rfl) ?_
    refine lv_iload_n hx hb dX0_settle_12 rfl (lv_at hl 1 rfl) ?_
    obtain ⟨r_27, u_28, h_29, hF⟩ := ncl_some hF
    refine ccV_i (q0 := 6) (As := [.int a0]) (rest := [.int a0, .ref (Q 6)]) hC hH (n_X0_sizeOf l G Z Q _ T u_2 u_28 r_27 a0 _ h_29) rfl rfl ⟨wkc_X0_sizeOf, wka254, wka390, wka391, wka744⟩ kVX0_sizeOf ⟨Nat.le_of_ble_eq_true rfl, Nat.le_of_ble_eq_true rfl⟩ rfl hl.1 rfl (Nat.le_of_ble_eq_true rfl) dX0_settle_13 (fun D H locs hH => ?_)
    obtain ⟨r_30, u_31, h_32, hF⟩ := ncl_some hF
    refine ccV_v (q0 := 6) (As := [.int a0, .int r_27]) (rest := []) hC hH (n_X0_settlePool l G Z Q _ T u_28 u_31 r_30 a0 r_27 _ h_32) rfl rfl ⟨wkc_X0_settlePool, wka255, wka415, wka416, wka744⟩ kVX0_settlePool ⟨Nat.le_of_ble_eq_true rfl, Nat.le_of_ble_eq_true rfl⟩ rfl hl.1 rfl (Nat.le_of_ble_eq_true rfl) dX0_settle_16 (fun D H locs hH => ?_)
    refine lv_aload_n hx hb dX0_settle_19 rfl (lv_at hl 0 rfl) ?_
    refine lv_iload_n hx hb dX0_settle_20 rfl (lv_at hl 1 rfl) ?_
    obtain ⟨r_33, u_34, h_35, hF⟩ := ncl_some hF
    refine ccV_i (q0 := 6) (As := [.int a0]) (rest := []) hC hH (n_X0_kindOf l G Z Q _ T u_31 u_34 r_33 a0 _ h_35) rfl rfl ⟨wkc_X0_kindOf, wka211, wka388, wka389, wka744⟩ kVX0_kindOf ⟨Nat.le_of_ble_eq_true rfl, Nat.le_of_ble_eq_true rfl⟩ rfl hl.1 rfl (Nat.le_of_ble_eq_true rfl) dX0_settle_21 (fun D H locs hH => ?_)
    refine lv_iconst (v := 2) hx hb dX0_settle_24 (by decide) ?_
    refine lv_icmp_ne (tgt := 60) hx hb dX0_settle_25 (by decide) (fun c_36 => ?_) (fun c_36 => ?_)
    · rw [if_neg c_36] at hF
      exact cr_v hC hH hr (nrt_eq hF) dX0_settle_60 hlocks
    · rw [if_pos c_36] at hF
      refine lv_aload_n hx hb dX0_settle_28 rfl (lv_at hl 0 rfl) ?_
      refine lv_iload_n hx hb dX0_settle_29 rfl (lv_at hl 1 rfl) ?_
      refine lv_aload_n hx hb dX0_settle_30 rfl (lv_at hl 0 rfl) ?_
      refine lv_iload_n hx hb dX0_settle_31 rfl (lv_at hl 1 rfl) ?_
      obtain ⟨r_37, u_38, h_39, hF⟩ := ncl_some hF
      refine ccV_i (q0 := 6) (As := [.int a0]) (rest := [.int a0, .ref (Q 6)]) hC hH (n_X0_sizeOf l G Z Q _ T u_34 u_38 r_37 a0 _ h_39) rfl rfl ⟨wkc_X0_sizeOf, wka254, wka390, wka391, wka744⟩ kVX0_sizeOf ⟨Nat.le_of_ble_eq_true rfl, Nat.le_of_ble_eq_true rfl⟩ rfl hl.1 rfl (Nat.le_of_ble_eq_true rfl) dX0_settle_32 (fun D H locs hH => ?_)
      obtain ⟨r_40, u_41, h_42, hF⟩ := ncl_some hF
      refine ccV_v (q0 := 6) (As := [.int a0, .int r_37]) (rest := []) hC hH (n_X0_settleTree l G Z Q _ T u_38 u_41 r_40 a0 r_37 _ h_42) rfl rfl ⟨wkc_X0_settleTree, wka261, wka417, wka418, wka744⟩ kVX0_settleTree ⟨Nat.le_of_ble_eq_true rfl, Nat.le_of_ble_eq_true rfl⟩ rfl hl.1 rfl (Nat.le_of_ble_eq_true rfl) dX0_settle_35 (fun D H locs hH => ?_)
      refine lv_aload_n hx hb dX0_settle_38 rfl (lv_at hl 0 rfl) ?_
      refine lv_iload_n hx hb dX0_settle_39 rfl (lv_at hl 1 rfl) ?_
      refine lv_aload_n hx hb dX0_settle_40 rfl (lv_at hl 0 rfl) ?_
      refine lv_iload_n hx hb dX0_settle_41 rfl (lv_at hl 1 rfl) ?_
      obtain ⟨r_43, u_44, h_45, hF⟩ := ncl_some hF
      refine ccV_i (q0 := 6) (As := [.int a0]) (rest := [.int a0, .ref (Q 6)]) hC hH (n_X0_sizeOf l G Z Q _ T u_41 u_44 r_43 a0 _ h_45) rfl rfl ⟨wkc_X0_sizeOf, wka254, wka390, wka391, wka744⟩ kVX0_sizeOf ⟨Nat.le_of_ble_eq_true rfl, Nat.le_of_ble_eq_true rfl⟩ rfl hl.1 rfl (Nat.le_of_ble_eq_true rfl) dX0_settle_42 (fun D H locs hH => ?_)
      refine lv_iconst (v := 0) hx hb dX0_settle_45 (by decide) ?_
      obtain ⟨r_46, u_47, h_48, hF⟩ := ncl_some hF
      refine ccV_v (q0 := 6) (As := [.int a0, .int r_43, .int 0]) (rest := []) hC hH (n_X0_settleLives l G Z Q _ T u_44 u_47 r_46 a0 r_43 0 _ h_48) rfl rfl ⟨wkc_X0_settleLives, wka266, wka420, wka421, wka744⟩ kVX0_settleLives ⟨Nat.le_of_ble_eq_true rfl, Nat.le_of_ble_eq_true rfl⟩ rfl hl.1 rfl (Nat.le_of_ble_eq_true rfl) dX0_settle_46 (fun D H locs hH => ?_)
      refine lv_aload_n hx hb dX0_settle_49 rfl (lv_at hl 0 rfl) ?_
      refine lv_iload_n hx hb dX0_settle_50 rfl (lv_at hl 1 rfl) ?_
      refine lv_aload_n hx hb dX0_settle_51 rfl (lv_at hl 0 rfl) ?_
      refine lv_iload_n hx hb dX0_settle_52 rfl (lv_at hl 1 rfl) ?_
      obtain ⟨r_49, u_50, h_51, hF⟩ := ncl_some hF
      refine ccV_i (q0 := 6) (As := [.int a0]) (rest := [.int a0, .ref (Q 6)]) hC hH (n_X0_sizeOf l G Z Q _ T u_47 u_50 r_49 a0 _ h_51) rfl rfl ⟨wkc_X0_sizeOf, wka254, wka390, wka391, wka744⟩ kVX0_sizeOf ⟨Nat.le_of_ble_eq_true rfl, Nat.le_of_ble_eq_true rfl⟩ rfl hl.1 rfl (Nat.le_of_ble_eq_true rfl) dX0_settle_53 (fun D H locs hH => ?_)
      refine lv_iconst (v := 1) hx hb dX0_settle_56 (by decide) ?_
      obtain ⟨r_52, u_53, h_54, hF⟩ := ncl_some hF
      refine ccV_v (q0 := 6) (As := [.int a0, .int r_49, .int 1]) (rest := []) hC hH (n_X0_settleLives l G Z Q _ T u_50 u_53 r_52 a0 r_49 1 _ h_54) rfl rfl ⟨wkc_X0_settleLives, wka266, wka420, wka421, wka744⟩ kVX0_settleLives ⟨Nat.le_of_ble_eq_true rfl, Nat.le_of_ble_eq_true rfl⟩ rfl hl.1 rfl (Nat.le_of_ble_eq_true rfl) dX0_settle_57 (fun D H locs hH => ?_)
      exact cr_v hC hH hr (nrt_eq hF) dX0_settle_60 hlocks
def xl_X0_firstStale_2 : Nat → Int32 → Int32 → (Int32 → Int32 → NG Int32) → NG Int32
  | 0, _, _, _ => fun _ => none
  | n2 + 1, v1, v2, K2_101 => ncl (x_X0_fightsOf v1) (fun r_1 => (if r_1 ≤ v2 then K2_101 v1 v2 else ncl (x_X1_ofFight v1 v2 0) (fun r_5 => ncl (nGT 0 2088 r_5) (fun x_8 => (if x_8 = 0 then ncl (x_X1_ofFight v1 v2 1) (fun r_13 => ncl (nGT 0 2088 r_13) (fun x_16 => ncl (x_X0_whiteOf v1 v2) (fun r_20 => (if x_16 = r_20 then ncl (x_X1_ofFight v1 v2 2) (fun r_30 => ncl (nGT 0 2088 r_30) (fun x_33 => ncl (x_X0_blueOf v1 v2) (fun r_37 => (if x_33 = r_37 then (if (0 : Int32) = 0 then nli (v2 + 1) (fun x_48 => xl_X0_firstStale_2 n2 v1 x_48 K2_101) else (if (1 : Int32) = 0 then nrt v2 else nli (v2 + 1) (fun x_51 => xl_X0_firstStale_2 n2 v1 x_51 K2_101))) else (if (0 : Int32) = 0 then nli (v2 + 1) (fun x_42 => xl_X0_firstStale_2 n2 v1 x_42 K2_101) else (if (0 : Int32) = 0 then nrt v2 else nli (v2 + 1) (fun x_45 => xl_X0_firstStale_2 n2 v1 x_45 K2_101))))))) else (if (0 : Int32) = 0 then nli (v2 + 1) (fun x_25 => xl_X0_firstStale_2 n2 v1 x_25 K2_101) else (if (0 : Int32) = 0 then nrt v2 else nli (v2 + 1) (fun x_28 => xl_X0_firstStale_2 n2 v1 x_28 K2_101))))))) else ncl (x_X1_ofFight v1 v2 1) (fun r_53 => ncl (nGT 0 2088 r_53) (fun x_56 => ncl (x_X0_whiteOf v1 v2) (fun r_60 => (if x_56 = r_60 then ncl (x_X1_ofFight v1 v2 2) (fun r_70 => ncl (nGT 0 2088 r_70) (fun x_73 => ncl (x_X0_blueOf v1 v2) (fun r_77 => (if x_73 = r_77 then (if (1 : Int32) = 0 then nli (v2 + 1) (fun x_88 => xl_X0_firstStale_2 n2 v1 x_88 K2_101) else (if (1 : Int32) = 0 then nrt v2 else nli (v2 + 1) (fun x_91 => xl_X0_firstStale_2 n2 v1 x_91 K2_101))) else (if (1 : Int32) = 0 then nli (v2 + 1) (fun x_82 => xl_X0_firstStale_2 n2 v1 x_82 K2_101) else (if (0 : Int32) = 0 then nrt v2 else nli (v2 + 1) (fun x_85 => xl_X0_firstStale_2 n2 v1 x_85 K2_101))))))) else (if (1 : Int32) = 0 then nli (v2 + 1) (fun x_65 => xl_X0_firstStale_2 n2 v1 x_65 K2_101) else (if (0 : Int32) = 0 then nrt v2 else nli (v2 + 1) (fun x_68 => xl_X0_firstStale_2 n2 v1 x_68 K2_101))))))))))))
def x_X0_firstStale (a0 : Int32) : NG Int32 := xl_X0_firstStale_2 fuel a0 0 (fun v1 v2 => nrt (-1))
set_option maxHeartbeats 4000000 in
set_option maxRecDepth 100000 in
theorem n_X0_firstStale (l : Launch) (G : gG) (Z : gC) (Q : Nat → Nat) (D : Nat × Nat) (T : va_W) (u u1 : MS) (r : Int32) (a0 : Int32) (sz : Nat) (hF : x_X0_firstStale a0 u = some (r, u1)) : Met l yX0_firstStale (Cond.code yX0_firstStale cX0_firstStale 5 (some .int) :: wK) { frames := 3, cells := 0, slots := 0, locals := 65 } (va_Pc [.ref (Q 6), .int a0] (cPM G Z Q D T u sz)) (cQi G Q T u1 r (va_A (cW G Q D T u) sz)) 0 0 (va_A (cW G Q D T u) sz) := by
  refine Met.ofW (cc := cX0_firstStale) (maxL := 5) (ret := (some .int)) (by decide) rfl ?_
  intro p e s m args below meth c s₁ B hml hv
  obtain ⟨rfl, rfl, hP, hB, hD0, hE⟩ := hv
  have hr := B.returns
  have hlocks := B.notSynchronized
  have hts := atoms_spec (ws := Cond.code yX0_firstStale cX0_firstStale 5 (some .int) :: wK) B.pre
  have hD := hD0.self (sz := s.heap.size)
  have hA : ∀ q : Nat, s.heap.size ≤ q → va_A (cW G Q D T u) s.heap.size q := fun q h => Or.inr h
  generalize va_A (cW G Q D T u) s.heap.size = A at hD hA hE ⊢
  have hC : cX p c cX0_firstStale 5 s m _ RX0 G Z A := ⟨B.exec, B.bytes, hml, findClass_of_methodNamed B.named, fun w h => hts w (List.mem_cons_of_mem _ h), hB, hE, hA⟩
  have hx := hC.1
  have hb := hC.2.1
  have hH : cH G Q D T A u s s.heap [] := ⟨hP, hD, va_S.rf⟩
  have hl := lv_entry ([.ref (Q 6), .int a0]) (n := 5) (Nat.le_of_ble_eq_true rfl)
  rw [lg_entry_eq]
  generalize (lg_sl ([.ref (Q 6), .int a0]) ++ List.replicate (5 - (lg_sl ([.ref (Q 6), .int a0])).length) Slot.unset).toArray = ls at hl ⊢
  have hl : lv_has ls 5 [(0, .ref (Q 6)), (1, .int a0)] := hl
  unfold x_X0_firstStale at hF
  refine lv_iconst (v := 0) hx hb dX0_firstStale_0 (by decide) ?_
  refine lv_istore_n (lv' := [(2, .int 0), (0, .ref (Q 6)), (1, .int a0)]) hx hb dX0_firstStale_1 rfl hl (by decide) rfl (fun ls hl => ?_)
  have hL2 : ∀ (K2_101 : Int32 → Int32 → NG Int32), (∀ (v1 v2 : Int32) (u : MS) (D : Nat × Nat) (H : Heap) (locs : List Loc) (ls : Array Slot), lv_has ls 5 [(0, .ref (Q 6)), (1, .int v1), (2, .int v2)] → cH G Q D T A u s H locs → K2_101 v1 v2 u = some (r, u1) → W p l e (headSpec (Cond.code yX0_firstStale cX0_firstStale 5 (some .int) :: wK) { frames := 3, cells := 0, slots := 0, locals := 65 }).room s m [.ref (Q 6), .int a0].toArray below meth c H locs 0 0 (MQ below (cQi G Q T u1 r A) [.ref (Q 6), .int a0].toArray s 0 0 A) (F0 m 101 ls [])) → ∀ (n2 : Nat) (v1 v2 : Int32) (u : MS) (D : Nat × Nat) (H : Heap) (locs : List Loc) (ls : Array Slot), lv_has ls 5 [(0, .ref (Q 6)), (1, .int v1), (2, .int v2)] → cH G Q D T A u s H locs → xl_X0_firstStale_2 n2 v1 v2 K2_101 u = some (r, u1) → W p l e (headSpec (Cond.code yX0_firstStale cX0_firstStale 5 (some .int) :: wK) { frames := 3, cells := 0, slots := 0, locals := 65 }).room s m [.ref (Q 6), .int a0].toArray below meth c H locs 0 0 (MQ below (cQi G Q T u1 r A) [.ref (Q 6), .int a0].toArray s 0 0 A) (F0 m 2 ls []) := by
    intro K2_101 hK2_101 n2
    induction n2 with
    | zero => intro v1 v2 u D H locs ls hl hH hF; cases hF
    | succ n2 ih2 =>
      intro v1 v2 u D H locs ls hl hH hF
      unfold xl_X0_firstStale_2 at hF
      refine lv_iload_n hx hb dX0_firstStale_2 rfl (lv_at hl 2 rfl) ?_
      refine lv_aload_n hx hb dX0_firstStale_3 rfl (lv_at hl 0 rfl) ?_
      refine lv_iload_n hx hb dX0_firstStale_4 rfl (lv_at hl 1 rfl) ?_
      obtain ⟨r_1, u_2, h_3, hF⟩ := ncl_some hF
      refine ccV_i (q0 := 6) (As := [.int v1]) (rest := [.int v2]) hC hH (n_X0_fightsOf l G Z Q _ T u u_2 r_1 v1 _ h_3) rfl rfl ⟨wkc_X0_fightsOf, wka277, wka396, wka397, wka744⟩ kVX0_fightsOf ⟨Nat.le_of_ble_eq_true rfl, Nat.le_of_ble_eq_true rfl⟩ rfl hl.1 rfl (Nat.le_of_ble_eq_true rfl) dX0_firstStale_5 (fun D H locs hH => ?_)
      refine lv_icmp_ge (tgt := 101) hx hb dX0_firstStale_8 (by decide) (fun c_4 => ?_) (fun c_4 => ?_)
      · rw [if_pos c_4] at hF
        exact hK2_101 v1 v2 u_2 _ _ _ _ (lv_sub hl [0, 1, 2] rfl) hH hF
      · rw [if_neg c_4] at hF
        refine lv_aload_n hx hb dX0_firstStale_11 rfl (lv_at hl 0 rfl) ?_
        refine cg_X0_11 hC hH dX0_firstStale_12 ?_
        refine lv_iload_n hx hb dX0_firstStale_15 rfl (lv_at hl 1 rfl) ?_
        refine lv_iload_n hx hb dX0_firstStale_16 rfl (lv_at hl 2 rfl) ?_
        refine lv_iconst (v := 0) hx hb dX0_firstStale_17 (by decide) ?_
        obtain ⟨r_5, u_6, h_7, hF⟩ := ncl_some hF
        refine ccS_i (As := [.int v1, .int v2, .int 0]) (rest := [.ref (Q 1)]) hC hH (n_X1_ofFight l G Z Q _ T u_2 u_6 r_5 v1 v2 0 _ h_7) ⟨wkc_X1_ofFight, wka257, wka437, wka745⟩ kSX1_ofFight ⟨Nat.le_of_ble_eq_true rfl, Nat.le_of_ble_eq_true rfl⟩ rfl hl.1 rfl (Nat.le_of_ble_eq_true rfl) dX0_firstStale_18 (fun D H locs hH => ?_)
        refine bat (i := 1) (j := 11) hC hH rfl rfl (by decide) wka213 ⟨Nat.le_of_ble_eq_true rfl, Nat.le_of_ble_eq_true rfl⟩ hl.1 (Nat.le_of_ble_eq_true rfl) ⟨Nat.zero_le _, Nat.zero_le _⟩ dX0_firstStale_21 ?_
        obtain ⟨x_8, u_9, h_10, hF⟩ := ncl_some hF
        obtain ⟨e_11, rfl⟩ := nGT_eq h_10
        refine gx_ti e_11 ?_
        refine lv_if_eq (tgt := 31) hx hb dX0_firstStale_24 (by decide) (fun c_12 => ?_) (fun c_12 => ?_)
        · rw [if_pos c_12] at hF
          refine lv_iconst (v := 0) hx hb dX0_firstStale_31 (by decide) ?_
          refine lv_istore_n (lv' := [(3, .int 0), (0, .ref (Q 6)), (1, .int v1), (2, .int v2)]) hx hb dX0_firstStale_32 rfl hl (by decide) rfl (fun ls hl => ?_)
          refine lv_aload_n hx hb dX0_firstStale_33 rfl (lv_at hl 1 rfl) ?_
          refine cg_X0_11 hC hH dX0_firstStale_34 ?_
          refine lv_iload_n hx hb dX0_firstStale_37 rfl (lv_at hl 2 rfl) ?_
          refine lv_iload_n hx hb dX0_firstStale_38 rfl (lv_at hl 3 rfl) ?_
          refine lv_iconst (v := 1) hx hb dX0_firstStale_39 (by decide) ?_
          obtain ⟨r_13, u_14, h_15, hF⟩ := ncl_some hF
          refine ccS_i (As := [.int v1, .int v2, .int 1]) (rest := [.ref (Q 1)]) hC hH (n_X1_ofFight l G Z Q _ T u_6 u_14 r_13 v1 v2 1 _ h_15) ⟨wkc_X1_ofFight, wka257, wka437, wka745⟩ kSX1_ofFight ⟨Nat.le_of_ble_eq_true rfl, Nat.le_of_ble_eq_true rfl⟩ rfl hl.1 rfl (Nat.le_of_ble_eq_true rfl) dX0_firstStale_40 (fun D H locs hH => ?_)
          refine bat (i := 1) (j := 11) hC hH rfl rfl (by decide) wka213 ⟨Nat.le_of_ble_eq_true rfl, Nat.le_of_ble_eq_true rfl⟩ hl.1 (Nat.le_of_ble_eq_true rfl) ⟨Nat.zero_le _, Nat.zero_le _⟩ dX0_firstStale_43 ?_
          obtain ⟨x_16, u_17, h_18, hF⟩ := ncl_some hF
          obtain ⟨e_19, rfl⟩ := nGT_eq h_18
          refine gx_ti e_19 ?_
          refine lv_aload_n hx hb dX0_firstStale_46 rfl (lv_at hl 1 rfl) ?_
          refine lv_iload_n hx hb dX0_firstStale_47 rfl (lv_at hl 2 rfl) ?_
          refine lv_iload_n hx hb dX0_firstStale_48 rfl (lv_at hl 3 rfl) ?_
          obtain ⟨r_20, u_21, h_22, hF⟩ := ncl_some hF
          refine ccV_i (q0 := 6) (As := [.int v1, .int v2]) (rest := [.int x_16]) hC hH (n_X0_whiteOf l G Z Q _ T u_14 u_21 r_20 v1 v2 _ h_22) rfl rfl ⟨wkc_X0_whiteOf, wka270, wka401, wka402, wka744⟩ kVX0_whiteOf ⟨Nat.le_of_ble_eq_true rfl, Nat.le_of_ble_eq_true rfl⟩ rfl hl.1 rfl (Nat.le_of_ble_eq_true rfl) dX0_firstStale_49 (fun D H locs hH => ?_)
          refine lv_icmp_ne (tgt := 81) hx hb dX0_firstStale_52 (by decide) (fun c_23 => ?_) (fun c_23 => ?_)
          · rw [if_neg c_23] at hF
            refine lv_iconst (v := 0) hx hb dX0_firstStale_81 (by decide) ?_
            refine lv_istore (lv' := [(4, .int 0), (3, .int 0), (0, .ref (Q 6)), (1, .int v1), (2, .int v2)]) hx hb dX0_firstStale_82 hl (by decide) rfl (fun ls hl => ?_)
            refine lv_iload_n hx hb dX0_firstStale_84 rfl (lv_at hl 1 rfl) ?_
            refine lv_if_eq (tgt := 95) hx hb dX0_firstStale_85 (by decide) (fun c_24 => ?_) (fun c_24 => ?_)
            · rw [if_pos c_24] at hF
              obtain ⟨x_25, e_26, hF⟩ := nli_some hF
              refine lv_iinc (v := x_25) (lv' := [(2, .int x_25), (4, .int 0), (3, .int 0), (0, .ref (Q 6)), (1, .int v1)]) hx hb dX0_firstStale_95 hl (k := 4) rfl e_26 (by decide) rfl (fun ls hl => ?_)
              refine lv_goto (tgt := 2) hx hb dX0_firstStale_98 (by decide) ?_
              exact ih2 v1 x_25 u_21 _ _ _ _ (lv_sub hl [3, 4, 0] rfl) hH hF
            · rw [if_neg c_24] at hF
              refine lv_iload hx hb dX0_firstStale_88 (lv_at hl 0 rfl) ?_
              refine lv_if_ne (tgt := 95) hx hb dX0_firstStale_90 (by decide) (fun c_27 => ?_) (fun c_27 => ?_)
              · rw [if_neg c_27] at hF
                obtain ⟨x_28, e_29, hF⟩ := nli_some hF
                refine lv_iinc (v := x_28) (lv' := [(2, .int x_28), (4, .int 0), (3, .int 0), (0, .ref (Q 6)), (1, .int v1)]) hx hb dX0_firstStale_95 hl (k := 4) rfl e_29 (by decide) rfl (fun ls hl => ?_)
                refine lv_goto (tgt := 2) hx hb dX0_firstStale_98 (by decide) ?_
                exact ih2 v1 x_28 u_21 _ _ _ _ (lv_sub hl [3, 4, 0] rfl) hH hF
              · rw [if_pos c_27] at hF
                refine lv_iload_n hx hb dX0_firstStale_93 rfl (lv_at hl 4 rfl) ?_
                exact cr_i hC hH hr (nrt_eq hF) dX0_firstStale_94 hlocks
          · rw [if_pos c_23] at hF
            refine lv_aload_n hx hb dX0_firstStale_55 rfl (lv_at hl 1 rfl) ?_
            refine cg_X0_11 hC hH dX0_firstStale_56 ?_
            refine lv_iload_n hx hb dX0_firstStale_59 rfl (lv_at hl 2 rfl) ?_
            refine lv_iload_n hx hb dX0_firstStale_60 rfl (lv_at hl 3 rfl) ?_
            refine lv_iconst (v := 2) hx hb dX0_firstStale_61 (by decide) ?_
            obtain ⟨r_30, u_31, h_32, hF⟩ := ncl_some hF
            refine ccS_i (As := [.int v1, .int v2, .int 2]) (rest := [.ref (Q 1)]) hC hH (n_X1_ofFight l G Z Q _ T u_21 u_31 r_30 v1 v2 2 _ h_32) ⟨wkc_X1_ofFight, wka257, wka437, wka745⟩ kSX1_ofFight ⟨Nat.le_of_ble_eq_true rfl, Nat.le_of_ble_eq_true rfl⟩ rfl hl.1 rfl (Nat.le_of_ble_eq_true rfl) dX0_firstStale_62 (fun D H locs hH => ?_)
            refine bat (i := 1) (j := 11) hC hH rfl rfl (by decide) wka213 ⟨Nat.le_of_ble_eq_true rfl, Nat.le_of_ble_eq_true rfl⟩ hl.1 (Nat.le_of_ble_eq_true rfl) ⟨Nat.zero_le _, Nat.zero_le _⟩ dX0_firstStale_65 ?_
            obtain ⟨x_33, u_34, h_35, hF⟩ := ncl_some hF
            obtain ⟨e_36, rfl⟩ := nGT_eq h_35
            refine gx_ti e_36 ?_
            refine lv_aload_n hx hb dX0_firstStale_68 rfl (lv_at hl 1 rfl) ?_
            refine lv_iload_n hx hb dX0_firstStale_69 rfl (lv_at hl 2 rfl) ?_
            refine lv_iload_n hx hb dX0_firstStale_70 rfl (lv_at hl 3 rfl) ?_
            obtain ⟨r_37, u_38, h_39, hF⟩ := ncl_some hF
            refine ccV_i (q0 := 6) (As := [.int v1, .int v2]) (rest := [.int x_33]) hC hH (n_X0_blueOf l G Z Q _ T u_31 u_38 r_37 v1 v2 _ h_39) rfl rfl ⟨wkc_X0_blueOf, wka271, wka403, wka404, wka744⟩ kVX0_blueOf ⟨Nat.le_of_ble_eq_true rfl, Nat.le_of_ble_eq_true rfl⟩ rfl hl.1 rfl (Nat.le_of_ble_eq_true rfl) dX0_firstStale_71 (fun D H locs hH => ?_)
            refine lv_icmp_ne (tgt := 81) hx hb dX0_firstStale_74 (by decide) (fun c_40 => ?_) (fun c_40 => ?_)
            · rw [if_neg c_40] at hF
              refine lv_iconst (v := 0) hx hb dX0_firstStale_81 (by decide) ?_
              refine lv_istore (lv' := [(4, .int 0), (3, .int 0), (0, .ref (Q 6)), (1, .int v1), (2, .int v2)]) hx hb dX0_firstStale_82 hl (by decide) rfl (fun ls hl => ?_)
              refine lv_iload_n hx hb dX0_firstStale_84 rfl (lv_at hl 1 rfl) ?_
              refine lv_if_eq (tgt := 95) hx hb dX0_firstStale_85 (by decide) (fun c_41 => ?_) (fun c_41 => ?_)
              · rw [if_pos c_41] at hF
                obtain ⟨x_42, e_43, hF⟩ := nli_some hF
                refine lv_iinc (v := x_42) (lv' := [(2, .int x_42), (4, .int 0), (3, .int 0), (0, .ref (Q 6)), (1, .int v1)]) hx hb dX0_firstStale_95 hl (k := 4) rfl e_43 (by decide) rfl (fun ls hl => ?_)
                refine lv_goto (tgt := 2) hx hb dX0_firstStale_98 (by decide) ?_
                exact ih2 v1 x_42 u_38 _ _ _ _ (lv_sub hl [3, 4, 0] rfl) hH hF
              · rw [if_neg c_41] at hF
                refine lv_iload hx hb dX0_firstStale_88 (lv_at hl 0 rfl) ?_
                refine lv_if_ne (tgt := 95) hx hb dX0_firstStale_90 (by decide) (fun c_44 => ?_) (fun c_44 => ?_)
                · rw [if_neg c_44] at hF
                  obtain ⟨x_45, e_46, hF⟩ := nli_some hF
                  refine lv_iinc (v := x_45) (lv' := [(2, .int x_45), (4, .int 0), (3, .int 0), (0, .ref (Q 6)), (1, .int v1)]) hx hb dX0_firstStale_95 hl (k := 4) rfl e_46 (by decide) rfl (fun ls hl => ?_)
                  refine lv_goto (tgt := 2) hx hb dX0_firstStale_98 (by decide) ?_
                  exact ih2 v1 x_45 u_38 _ _ _ _ (lv_sub hl [3, 4, 0] rfl) hH hF
                · rw [if_pos c_44] at hF
                  refine lv_iload_n hx hb dX0_firstStale_93 rfl (lv_at hl 4 rfl) ?_
                  exact cr_i hC hH hr (nrt_eq hF) dX0_firstStale_94 hlocks
            · rw [if_pos c_40] at hF
              refine lv_iconst (v := 1) hx hb dX0_firstStale_77 (by decide) ?_
              refine lv_goto (tgt := 82) hx hb dX0_firstStale_78 (by decide) ?_
              refine lv_istore (lv' := [(4, .int 1), (3, .int 0), (0, .ref (Q 6)), (1, .int v1), (2, .int v2)]) hx hb dX0_firstStale_82 hl (by decide) rfl (fun ls hl => ?_)
              refine lv_iload_n hx hb dX0_firstStale_84 rfl (lv_at hl 1 rfl) ?_
              refine lv_if_eq (tgt := 95) hx hb dX0_firstStale_85 (by decide) (fun c_47 => ?_) (fun c_47 => ?_)
              · rw [if_pos c_47] at hF
                obtain ⟨x_48, e_49, hF⟩ := nli_some hF
                refine lv_iinc (v := x_48) (lv' := [(2, .int x_48), (4, .int 1), (3, .int 0), (0, .ref (Q 6)), (1, .int v1)]) hx hb dX0_firstStale_95 hl (k := 4) rfl e_49 (by decide) rfl (fun ls hl => ?_)
                refine lv_goto (tgt := 2) hx hb dX0_firstStale_98 (by decide) ?_
                exact ih2 v1 x_48 u_38 _ _ _ _ (lv_sub hl [3, 4, 0] rfl) hH hF
              · rw [if_neg c_47] at hF
                refine lv_iload hx hb dX0_firstStale_88 (lv_at hl 0 rfl) ?_
                refine lv_if_ne (tgt := 95) hx hb dX0_firstStale_90 (by decide) (fun c_50 => ?_) (fun c_50 => ?_)
                · rw [if_neg c_50] at hF
                  obtain ⟨x_51, e_52, hF⟩ := nli_some hF
                  refine lv_iinc (v := x_51) (lv' := [(2, .int x_51), (4, .int 1), (3, .int 0), (0, .ref (Q 6)), (1, .int v1)]) hx hb dX0_firstStale_95 hl (k := 4) rfl e_52 (by decide) rfl (fun ls hl => ?_)
                  refine lv_goto (tgt := 2) hx hb dX0_firstStale_98 (by decide) ?_
                  exact ih2 v1 x_51 u_38 _ _ _ _ (lv_sub hl [3, 4, 0] rfl) hH hF
                · rw [if_pos c_50] at hF
                  refine lv_iload_n hx hb dX0_firstStale_93 rfl (lv_at hl 4 rfl) ?_
                  exact cr_i hC hH hr (nrt_eq hF) dX0_firstStale_94 hlocks
        · rw [if_neg c_12] at hF
          refine lv_iconst (v := 1) hx hb dX0_firstStale_27 (by decide) ?_
          refine lv_goto (tgt := 32) hx hb dX0_firstStale_28 (by decide) ?_
          refine lv_istore_n (lv' := [(3, .int 1), (0, .ref (Q 6)), (1, .int v1), (2, .int v2)]) hx hb dX0_firstStale_32 rfl hl (by decide) rfl (fun ls hl => ?_)
          refine lv_aload_n hx hb dX0_firstStale_33 rfl (lv_at hl 1 rfl) ?_
          refine cg_X0_11 hC hH dX0_firstStale_34 ?_
          refine lv_iload_n hx hb dX0_firstStale_37 rfl (lv_at hl 2 rfl) ?_
          refine lv_iload_n hx hb dX0_firstStale_38 rfl (lv_at hl 3 rfl) ?_
          refine lv_iconst (v := 1) hx hb dX0_firstStale_39 (by decide) ?_
          obtain ⟨r_53, u_54, h_55, hF⟩ := ncl_some hF
          refine ccS_i (As := [.int v1, .int v2, .int 1]) (rest := [.ref (Q 1)]) hC hH (n_X1_ofFight l G Z Q _ T u_6 u_54 r_53 v1 v2 1 _ h_55) ⟨wkc_X1_ofFight, wka257, wka437, wka745⟩ kSX1_ofFight ⟨Nat.le_of_ble_eq_true rfl, Nat.le_of_ble_eq_true rfl⟩ rfl hl.1 rfl (Nat.le_of_ble_eq_true rfl) dX0_firstStale_40 (fun D H locs hH => ?_)
          refine bat (i := 1) (j := 11) hC hH rfl rfl (by decide) wka213 ⟨Nat.le_of_ble_eq_true rfl, Nat.le_of_ble_eq_true rfl⟩ hl.1 (Nat.le_of_ble_eq_true rfl) ⟨Nat.zero_le _, Nat.zero_le _⟩ dX0_firstStale_43 ?_
          obtain ⟨x_56, u_57, h_58, hF⟩ := ncl_some hF
          obtain ⟨e_59, rfl⟩ := nGT_eq h_58
          refine gx_ti e_59 ?_
          refine lv_aload_n hx hb dX0_firstStale_46 rfl (lv_at hl 1 rfl) ?_
          refine lv_iload_n hx hb dX0_firstStale_47 rfl (lv_at hl 2 rfl) ?_
          refine lv_iload_n hx hb dX0_firstStale_48 rfl (lv_at hl 3 rfl) ?_
          obtain ⟨r_60, u_61, h_62, hF⟩ := ncl_some hF
          refine ccV_i (q0 := 6) (As := [.int v1, .int v2]) (rest := [.int x_56]) hC hH (n_X0_whiteOf l G Z Q _ T u_54 u_61 r_60 v1 v2 _ h_62) rfl rfl ⟨wkc_X0_whiteOf, wka270, wka401, wka402, wka744⟩ kVX0_whiteOf ⟨Nat.le_of_ble_eq_true rfl, Nat.le_of_ble_eq_true rfl⟩ rfl hl.1 rfl (Nat.le_of_ble_eq_true rfl) dX0_firstStale_49 (fun D H locs hH => ?_)
          refine lv_icmp_ne (tgt := 81) hx hb dX0_firstStale_52 (by decide) (fun c_63 => ?_) (fun c_63 => ?_)
          · rw [if_neg c_63] at hF
            refine lv_iconst (v := 0) hx hb dX0_firstStale_81 (by decide) ?_
            refine lv_istore (lv' := [(4, .int 0), (3, .int 1), (0, .ref (Q 6)), (1, .int v1), (2, .int v2)]) hx hb dX0_firstStale_82 hl (by decide) rfl (fun ls hl => ?_)
            refine lv_iload_n hx hb dX0_firstStale_84 rfl (lv_at hl 1 rfl) ?_
            refine lv_if_eq (tgt := 95) hx hb dX0_firstStale_85 (by decide) (fun c_64 => ?_) (fun c_64 => ?_)
            · rw [if_pos c_64] at hF
              obtain ⟨x_65, e_66, hF⟩ := nli_some hF
              refine lv_iinc (v := x_65) (lv' := [(2, .int x_65), (4, .int 0), (3, .int 1), (0, .ref (Q 6)), (1, .int v1)]) hx hb dX0_firstStale_95 hl (k := 4) rfl e_66 (by decide) rfl (fun ls hl => ?_)
              refine lv_goto (tgt := 2) hx hb dX0_firstStale_98 (by decide) ?_
              exact ih2 v1 x_65 u_61 _ _ _ _ (lv_sub hl [3, 4, 0] rfl) hH hF
            · rw [if_neg c_64] at hF
              refine lv_iload hx hb dX0_firstStale_88 (lv_at hl 0 rfl) ?_
              refine lv_if_ne (tgt := 95) hx hb dX0_firstStale_90 (by decide) (fun c_67 => ?_) (fun c_67 => ?_)
              · rw [if_neg c_67] at hF
                obtain ⟨x_68, e_69, hF⟩ := nli_some hF
                refine lv_iinc (v := x_68) (lv' := [(2, .int x_68), (4, .int 0), (3, .int 1), (0, .ref (Q 6)), (1, .int v1)]) hx hb dX0_firstStale_95 hl (k := 4) rfl e_69 (by decide) rfl (fun ls hl => ?_)
                refine lv_goto (tgt := 2) hx hb dX0_firstStale_98 (by decide) ?_
                exact ih2 v1 x_68 u_61 _ _ _ _ (lv_sub hl [3, 4, 0] rfl) hH hF
              · rw [if_pos c_67] at hF
                refine lv_iload_n hx hb dX0_firstStale_93 rfl (lv_at hl 4 rfl) ?_
                exact cr_i hC hH hr (nrt_eq hF) dX0_firstStale_94 hlocks
          · rw [if_pos c_63] at hF
            refine lv_aload_n hx hb dX0_firstStale_55 rfl (lv_at hl 1 rfl) ?_
            refine cg_X0_11 hC hH dX0_firstStale_56 ?_
            refine lv_iload_n hx hb dX0_firstStale_59 rfl (lv_at hl 2 rfl) ?_
            refine lv_iload_n hx hb dX0_firstStale_60 rfl (lv_at hl 3 rfl) ?_
            refine lv_iconst (v := 2) hx hb dX0_firstStale_61 (by decide) ?_
            obtain ⟨r_70, u_71, h_72, hF⟩ := ncl_some hF
            refine ccS_i (As := [.int v1, .int v2, .int 2]) (rest := [.ref (Q 1)]) hC hH (n_X1_ofFight l G Z Q _ T u_61 u_71 r_70 v1 v2 2 _ h_72) ⟨wkc_X1_ofFight, wka257, wka437, wka745⟩ kSX1_ofFight ⟨Nat.le_of_ble_eq_true rfl, Nat.le_of_ble_eq_true rfl⟩ rfl hl.1 rfl (Nat.le_of_ble_eq_true rfl) dX0_firstStale_62 (fun D H locs hH => ?_)
            refine bat (i := 1) (j := 11) hC hH rfl rfl (by decide) wka213 ⟨Nat.le_of_ble_eq_true rfl, Nat.le_of_ble_eq_true rfl⟩ hl.1 (Nat.le_of_ble_eq_true rfl) ⟨Nat.zero_le _, Nat.zero_le _⟩ dX0_firstStale_65 ?_
            obtain ⟨x_73, u_74, h_75, hF⟩ := ncl_some hF
            obtain ⟨e_76, rfl⟩ := nGT_eq h_75
            refine gx_ti e_76 ?_
            refine lv_aload_n hx hb dX0_firstStale_68 rfl (lv_at hl 1 rfl) ?_
            refine lv_iload_n hx hb dX0_firstStale_69 rfl (lv_at hl 2 rfl) ?_
            refine lv_iload_n hx hb dX0_firstStale_70 rfl (lv_at hl 3 rfl) ?_
            obtain ⟨r_77, u_78, h_79, hF⟩ := ncl_some hF
            refine ccV_i (q0 := 6) (As := [.int v1, .int v2]) (rest := [.int x_73]) hC hH (n_X0_blueOf l G Z Q _ T u_71 u_78 r_77 v1 v2 _ h_79) rfl rfl ⟨wkc_X0_blueOf, wka271, wka403, wka404, wka744⟩ kVX0_blueOf ⟨Nat.le_of_ble_eq_true rfl, Nat.le_of_ble_eq_true rfl⟩ rfl hl.1 rfl (Nat.le_of_ble_eq_true rfl) dX0_firstStale_71 (fun D H locs hH => ?_)
            refine lv_icmp_ne (tgt := 81) hx hb dX0_firstStale_74 (by decide) (fun c_80 => ?_) (fun c_80 => ?_)
            · rw [if_neg c_80] at hF
              refine lv_iconst (v := 0) hx hb dX0_firstStale_81 (by decide) ?_
              refine lv_istore (lv' := [(4, .int 0), (3, .int 1), (0, .ref (Q 6)), (1, .int v1), (2, .int v2)]) hx hb dX0_firstStale_82 hl (by decide) rfl (fun ls hl => ?_)
              refine lv_iload_n hx hb dX0_firstStale_84 rfl (lv_at hl 1 rfl) ?_
              refine lv_if_eq (tgt := 95) hx hb dX0_firstStale_85 (by decide) (fun c_81 => ?_) (fun c_81 => ?_)
              · rw [if_pos c_81] at hF
                obtain ⟨x_82, e_83, hF⟩ := nli_some hF
                refine lv_iinc (v := x_82) (lv' := [(2, .int x_82), (4, .int 0), (3, .int 1), (0, .ref (Q 6)), (1, .int v1)]) hx hb dX0_firstStale_95 hl (k := 4) rfl e_83 (by decide) rfl (fun ls hl => ?_)
                refine lv_goto (tgt := 2) hx hb dX0_firstStale_98 (by decide) ?_
                exact ih2 v1 x_82 u_78 _ _ _ _ (lv_sub hl [3, 4, 0] rfl) hH hF
              · rw [if_neg c_81] at hF
                refine lv_iload hx hb dX0_firstStale_88 (lv_at hl 0 rfl) ?_
                refine lv_if_ne (tgt := 95) hx hb dX0_firstStale_90 (by decide) (fun c_84 => ?_) (fun c_84 => ?_)
                · rw [if_neg c_84] at hF
                  obtain ⟨x_85, e_86, hF⟩ := nli_some hF
                  refine lv_iinc (v := x_85) (lv' := [(2, .int x_85), (4, .int 0), (3, .int 1), (0, .ref (Q 6)), (1, .int v1)]) hx hb dX0_firstStale_95 hl (k := 4) rfl e_86 (by decide) rfl (fun ls hl => ?_)
                  refine lv_goto (tgt := 2) hx hb dX0_firstStale_98 (by decide) ?_
                  exact ih2 v1 x_85 u_78 _ _ _ _ (lv_sub hl [3, 4, 0] rfl) hH hF
                · rw [if_pos c_84] at hF
                  refine lv_iload_n hx hb dX0_firstStale_93 rfl (lv_at hl 4 rfl) ?_
                  exact cr_i hC hH hr (nrt_eq hF) dX0_firstStale_94 hlocks
            · rw [if_pos c_80] at hF
              refine lv_iconst (v := 1) hx hb dX0_firstStale_77 (by decide) ?_
              refine lv_goto (tgt := 82) hx hb dX0_firstStale_78 (by decide) ?_
              refine lv_istore (lv' := [(4, .int 1), (3, .int 1), (0, .ref (Q 6)), (1, .int v1), (2, .int v2)]) hx hb dX0_firstStale_82 hl (by decide) rfl (fun ls hl => ?_)
              refine lv_iload_n hx hb dX0_firstStale_84 rfl (lv_at hl 1 rfl) ?_
              refine lv_if_eq (tgt := 95) hx hb dX0_firstStale_85 (by decide) (fun c_87 => ?_) (fun c_87 => ?_)
              · rw [if_pos c_87] at hF
                obtain ⟨x_88, e_89, hF⟩ := nli_some hF
                refine lv_iinc (v := x_88) (lv' := [(2, .int x_88), (4, .int 1), (3, .int 1), (0, .ref (Q 6)), (1, .int v1)]) hx hb dX0_firstStale_95 hl (k := 4) rfl e_89 (by decide) rfl (fun ls hl => ?_)
                refine lv_goto (tgt := 2) hx hb dX0_firstStale_98 (by decide) ?_
                exact ih2 v1 x_88 u_78 _ _ _ _ (lv_sub hl [3, 4, 0] rfl) hH hF
              · rw [if_neg c_87] at hF
                refine lv_iload hx hb dX0_firstStale_88 (lv_at hl 0 rfl) ?_
                refine lv_if_ne (tgt := 95) hx hb dX0_firstStale_90 (by decide) (fun c_90 => ?_) (fun c_90 => ?_)
                · rw [if_neg c_90] at hF
                  obtain ⟨x_91, e_92, hF⟩ := nli_some hF
                  refine lv_iinc (v := x_91) (lv' := [(2, .int x_91), (4, .int 1), (3, .int 1), (0, .ref (Q 6)), (1, .int v1)]) hx hb dX0_firstStale_95 hl (k := 4) rfl e_92 (by decide) rfl (fun ls hl => ?_)
                  refine lv_goto (tgt := 2) hx hb dX0_firstStale_98 (by decide) ?_
                  exact ih2 v1 x_91 u_78 _ _ _ _ (lv_sub hl [3, 4, 0] rfl) hH hF
                · rw [if_pos c_90] at hF
                  refine lv_iload_n hx hb dX0_firstStale_93 rfl (lv_at hl 4 rfl) ?_
                  exact cr_i hC hH hr (nrt_eq hF) dX0_firstStale_94 hlocks
  refine hL2 _ (fun v1 v2 u D H locs ls hl hH hF => ?_) fuel a0 0 u _ _ _ _ (lv_sub hl [1, 2, 0] rfl) hH hF
  refine lv_iconst (v := (-1)) hx hb dX0_firstStale_101 (by decide) ?_
  exact cr_i hC hH hr (nrt_eq hF) dX0_firstStale_102 hlocks
def x_X0_stepOf (a0 : Int32) (a1 : Int32) : NG Int32 := ncl (x_X0_stepsOf a0) (fun r_1 => nli (a1 - (a0 - 1)) (fun x_4 => (if r_1 ≤ x_4 then nrt ((x_4 - r_1) + 1) else nrt (x_4 + 1))))
set_option maxHeartbeats 4000000 in
set_option maxRecDepth 100000 in
theorem n_X0_stepOf (l : Launch) (G : gG) (Z : gC) (Q : Nat → Nat) (D : Nat × Nat) (T : va_W) (u u1 : MS) (r : Int32) (a0 : Int32) (a1 : Int32) (sz : Nat) (hF : x_X0_stepOf a0 a1 u = some (r, u1)) : Met l yX0_stepOf (Cond.code yX0_stepOf cX0_stepOf 4 (some .int) :: wK) { frames := 1, cells := 0, slots := 0, locals := 20 } (va_Pc [.int a0, .int a1] (cPM G Z Q D T u sz)) (cQi G Q T u1 r (va_A (cW G Q D T u) sz)) 0 0 (va_A (cW G Q D T u) sz) := by
  refine Met.ofW (cc := cX0_stepOf) (maxL := 4) (ret := (some .int)) (by decide) rfl ?_
  intro p e s m args below meth c s₁ B hml hv
  obtain ⟨rfl, rfl, hP, hB, hD0, hE⟩ := hv
  have hr := B.returns
  have hlocks := B.notSynchronized
  have hts := atoms_spec (ws := Cond.code yX0_stepOf cX0_stepOf 4 (some .int) :: wK) B.pre
  have hD := hD0.self (sz := s.heap.size)
  have hA : ∀ q : Nat, s.heap.size ≤ q → va_A (cW G Q D T u) s.heap.size q := fun q h => Or.inr h
  generalize va_A (cW G Q D T u) s.heap.size = A at hD hA hE ⊢
  have hC : cX p c cX0_stepOf 4 s m _ RX0 G Z A := ⟨B.exec, B.bytes, hml, findClass_of_methodNamed B.named, fun w h => hts w (List.mem_cons_of_mem _ h), hB, hE, hA⟩
  have hx := hC.1
  have hb := hC.2.1
  have hH : cH G Q D T A u s s.heap [] := ⟨hP, hD, va_S.rf⟩
  have hl := lv_entry ([.int a0, .int a1]) (n := 4) (Nat.le_of_ble_eq_true rfl)
  rw [lg_entry_eq]
  generalize (lg_sl ([.int a0, .int a1]) ++ List.replicate (4 - (lg_sl ([.int a0, .int a1])).length) Slot.unset).toArray = ls at hl ⊢
  have hl : lv_has ls 4 [(0, .int a0), (1, .int a1)] := hl
  unfold x_X0_stepOf at hF
  refine lv_iload_n hx hb dX0_stepOf_0 rfl (lv_at hl 0 rfl) ?_
  obtain ⟨r_1, u_2, h_3, hF⟩ := ncl_some hF
  refine ccS_i (As := [.int a0]) (rest := []) hC hH (n_X0_stepsOf l G Z Q _ T u u_2 r_1 a0 _ h_3) ⟨wkc_X0_stepsOf, wka267, wka398, wka744⟩ kSX0_stepsOf ⟨Nat.le_of_ble_eq_true rfl, Nat.le_of_ble_eq_true rfl⟩ rfl hl.1 rfl (Nat.le_of_ble_eq_true rfl) dX0_stepOf_1 (fun D H locs hH => ?_)
  refine lv_istore_n (lv' := [(2, .int r_1), (0, .int a0), (1, .int a1)]) hx hb dX0_stepOf_4 rfl hl (by decide) rfl (fun ls hl => ?_)
  refine lv_iload_n hx hb dX0_stepOf_5 rfl (lv_at hl 2 rfl) ?_
  refine lv_iload_n hx hb dX0_stepOf_6 rfl (lv_at hl 1 rfl) ?_
  refine lv_iconst (v := 1) hx hb dX0_stepOf_7 (by decide) ?_
  refine lv_isub hx hb dX0_stepOf_8 ?_
  refine lv_isub hx hb dX0_stepOf_9 ?_
  obtain ⟨x_4, e_5, hF⟩ := nli_some hF
  refine gx_ti e_5 ?_
  refine lv_istore_n (lv' := [(3, .int x_4), (2, .int r_1), (0, .int a0), (1, .int a1)]) hx hb dX0_stepOf_10 rfl hl (by decide) rfl (fun ls hl => ?_)
  refine lv_iload_n hx hb dX0_stepOf_11 rfl (lv_at hl 0 rfl) ?_
  refine lv_iload_n hx hb dX0_stepOf_12 rfl (lv_at hl 1 rfl) ?_
  refine lv_icmp_ge (tgt := 22) hx hb dX0_stepOf_13 (by decide) (fun c_6 => ?_) (fun c_6 => ?_)
  · rw [if_pos c_6] at hF
    refine lv_iload_n hx hb dX0_stepOf_22 rfl (lv_at hl 0 rfl) ?_
    refine lv_iload_n hx hb dX0_stepOf_23 rfl (lv_at hl 1 rfl) ?_
    refine lv_isub hx hb dX0_stepOf_24 ?_
    refine lv_iconst (v := 1) hx hb dX0_stepOf_25 (by decide) ?_
    refine lv_iadd hx hb dX0_stepOf_26 ?_
    exact cr_i hC hH hr (nrt_eq hF) dX0_stepOf_27 hlocks
  · rw [if_neg c_6] at hF
    refine lv_iload_n hx hb dX0_stepOf_16 rfl (lv_at hl 0 rfl) ?_
    refine lv_iconst (v := 1) hx hb dX0_stepOf_17 (by decide) ?_
    refine lv_iadd hx hb dX0_stepOf_18 ?_
    refine lv_goto (tgt := 27) hx hb dX0_stepOf_19 (by decide) ?_
    exact cr_i hC hH hr (nrt_eq hF) dX0_stepOf_27 hlocks
def xl_X0_stageOf_41 : Nat → Int32 → Int32 → Int32 → Int32 → Int32 → (Int32 → Int32 → Int32 → Int32 → Int32 → NG Int32) → NG Int32
  | 0, _, _, _, _, _, _ => fun _ => none
  | n41 + 1, v1, v2, v3, v4, v5, K41_70 => (if v2 < v5 then K41_70 v1 v2 v3 v4 v5 else (if 5 ≤ v4 then K41_70 v1 v2 v3 v4 v5 else nli (v4 + 1) (fun x_13 => nli (v5 + (v3 >>> ((x_13 + 1) &&& 31))) (fun x_15 => xl_X0_stageOf_41 n41 v1 v2 v3 x_13 x_15 K41_70))))
def x_X0_stageOf (a0 : Int32) (a1 : Int32) : NG Int32 := ncl (x_X0_sizeOf a0) (fun r_1 => ncl (x_X0_kindOf a0) (fun r_4 => (if r_4 = 2 then (if a1 ≤ (r_1 - 2) then nli (r_1 / 2) (fun x_9 => xl_X0_stageOf_41 fuel a0 a1 r_1 0 x_9 (fun v1 v2 v3 v4 v5 => (if v2 = (v3 - 2) then nrt 20 else nrt v4))) else ncl (x_X0_stepOf r_1 a1) (fun r_18 => nrt (10 + r_18))) else nrt 0)))
set_option maxHeartbeats 4000000 in
set_option maxRecDepth 100000 in
theorem n_X0_stageOf (l : Launch) (G : gG) (Z : gC) (Q : Nat → Nat) (D : Nat × Nat) (T : va_W) (u u1 : MS) (r : Int32) (a0 : Int32) (a1 : Int32) (sz : Nat) (hF : x_X0_stageOf a0 a1 u = some (r, u1)) : Met l yX0_stageOf (Cond.code yX0_stageOf cX0_stageOf 6 (some .int) :: wK) { frames := 2, cells := 0, slots := 0, locals := 43 } (va_Pc [.ref (Q 6), .int a0, .int a1] (cPM G Z Q D T u sz)) (cQi G Q T u1 r (va_A (cW G Q D T u) sz)) 0 0 (va_A (cW G Q D T u) sz) := by
  refine Met.ofW (cc := cX0_stageOf) (maxL := 6) (ret := (some .int)) (by decide) rfl ?_
  intro p e s m args below meth c s₁ B hml hv
  obtain ⟨rfl, rfl, hP, hB, hD0, hE⟩ := hv
  have hr := B.returns
  have hlocks := B.notSynchronized
  have hts := atoms_spec (ws := Cond.code yX0_stageOf cX0_stageOf 6 (some .int) :: wK) B.pre
  have hD := hD0.self (sz := s.heap.size)
  have hA : ∀ q : Nat, s.heap.size ≤ q → va_A (cW G Q D T u) s.heap.size q := fun q h => Or.inr h
  generalize va_A (cW G Q D T u) s.heap.size = A at hD hA hE ⊢
  have hC : cX p c cX0_stageOf 6 s m _ RX0 G Z A := ⟨B.exec, B.bytes, hml, findClass_of_methodNamed B.named, fun w h => hts w (List.mem_cons_of_mem _ h), hB, hE, hA⟩
  have hx := hC.1
  have hb := hC.2.1
  have hH : cH G Q D T A u s s.heap [] := ⟨hP, hD, va_S.rf⟩
  have hl := lv_entry ([.ref (Q 6), .int a0, .int a1]) (n := 6) (Nat.le_of_ble_eq_true rfl)
  rw [lg_entry_eq]
  generalize (lg_sl ([.ref (Q 6), .int a0, .int a1]) ++ List.replicate (6 - (lg_sl ([.ref (Q 6), .int a0, .int a1])).length) Slot.unset).toArray = ls at hl ⊢
  have hl : lv_has ls 6 [(0, .ref (Q 6)), (1, .int a0), (2, .int a1)] := hl
  unfold x_X0_stageOf at hF
  refine lv_aload_n hx hb dX0_stageOf_0 rfl (lv_at hl 0 rfl) ?_
  refine lv_iload_n hx hb dX0_stageOf_1 rfl (lv_at hl 1 rfl) ?_
  obtain ⟨r_1, u_2, h_3, hF⟩ := ncl_some hF
  refine ccV_i (q0 := 6) (As := [.int a0]) (rest := []) hC hH (n_X0_sizeOf l G Z Q _ T u u_2 r_1 a0 _ h_3) rfl rfl ⟨wkc_X0_sizeOf, wka254, wka390, wka391, wka744⟩ kVX0_sizeOf ⟨Nat.le_of_ble_eq_true rfl, Nat.le_of_ble_eq_true rfl⟩ rfl hl.1 rfl (Nat.le_of_ble_eq_true rfl) dX0_stageOf_2 (fun D H locs hH => ?_)
  refine lv_istore_n (lv' := [(3, .int r_1), (0, .ref (Q 6)), (1, .int a0), (2, .int a1)]) hx hb dX0_stageOf_5 rfl hl (by decide) rfl (fun ls hl => ?_)
  refine lv_aload_n hx hb dX0_stageOf_6 rfl (lv_at hl 1 rfl) ?_
  refine lv_iload_n hx hb dX0_stageOf_7 rfl (lv_at hl 2 rfl) ?_
  obtain ⟨r_4, u_5, h_6, hF⟩ := ncl_some hF
  refine ccV_i (q0 := 6) (As := [.int a0]) (rest := []) hC hH (n_X0_kindOf l G Z Q _ T u_2 u_5 r_4 a0 _ h_6) rfl rfl ⟨wkc_X0_kindOf, wka211, wka388, wka389, wka744⟩ kVX0_kindOf ⟨Nat.le_of_ble_eq_true rfl, Nat.le_of_ble_eq_true rfl⟩ rfl hl.1 rfl (Nat.le_of_ble_eq_true rfl) dX0_stageOf_8 (fun D H locs hH => ?_)
  refine lv_iconst (v := 2) hx hb dX0_stageOf_11 (by decide) ?_
  refine lv_icmp_eq (tgt := 17) hx hb dX0_stageOf_12 (by decide) (fun c_7 => ?_) (fun c_7 => ?_)
  · rw [if_pos c_7] at hF
    refine lv_iload_n hx hb dX0_stageOf_17 rfl (lv_at hl 3 rfl) ?_
    refine lv_iload_n hx hb dX0_stageOf_18 rfl (lv_at hl 0 rfl) ?_
    refine lv_iconst (v := 2) hx hb dX0_stageOf_19 (by decide) ?_
    refine lv_isub hx hb dX0_stageOf_20 ?_
    refine lv_icmp_le (tgt := 33) hx hb dX0_stageOf_21 (by decide) (fun c_8 => ?_) (fun c_8 => ?_)
    · rw [if_pos c_8] at hF
      refine lv_iconst (v := 0) hx hb dX0_stageOf_33 (by decide) ?_
      refine lv_istore (lv' := [(4, .int 0), (3, .int r_1), (0, .ref (Q 6)), (1, .int a0), (2, .int a1)]) hx hb dX0_stageOf_34 hl (by decide) rfl (fun ls hl => ?_)
      refine lv_iload_n hx hb dX0_stageOf_36 rfl (lv_at hl 1 rfl) ?_
      refine lv_iconst (v := 2) hx hb dX0_stageOf_37 (by decide) ?_
      refine lv_idiv hx hb dX0_stageOf_38 (by decide) ?_
      obtain ⟨x_9, e_10, hF⟩ := nli_some hF
      refine gx_ti e_10 ?_
      refine lv_istore (lv' := [(5, .int x_9), (4, .int 0), (3, .int r_1), (0, .ref (Q 6)), (1, .int a0), (2, .int a1)]) hx hb dX0_stageOf_39 hl (by decide) rfl (fun ls hl => ?_)
      have hL41 : ∀ (K41_70 : Int32 → Int32 → Int32 → Int32 → Int32 → NG Int32), (∀ (v1 v2 v3 v4 v5 : Int32) (u : MS) (D : Nat × Nat) (H : Heap) (locs : List Loc) (ls : Array Slot), lv_has ls 6 [(0, .ref (Q 6)), (1, .int v1), (2, .int v2), (3, .int v3), (4, .int v4), (5, .int v5)] → cH G Q D T A u s H locs → K41_70 v1 v2 v3 v4 v5 u = some (r, u1) → W p l e (headSpec (Cond.code yX0_stageOf cX0_stageOf 6 (some .int) :: wK) { frames := 2, cells := 0, slots := 0, locals := 43 }).room s m [.ref (Q 6), .int a0, .int a1].toArray below meth c H locs 0 0 (MQ below (cQi G Q T u1 r A) [.ref (Q 6), .int a0, .int a1].toArray s 0 0 A) (F0 m 70 ls [])) → ∀ (n41 : Nat) (v1 v2 v3 v4 v5 : Int32) (u : MS) (D : Nat × Nat) (H : Heap) (locs : List Loc) (ls : Array Slot), lv_has ls 6 [(0, .ref (Q 6)), (1, .int v1), (2, .int v2), (3, .int v3), (4, .int v4), (5, .int v5)] → cH G Q D T A u s H locs → xl_X0_stageOf_41 n41 v1 v2 v3 v4 v5 K41_70 u = some (r, u1) → W p l e (headSpec (Cond.code yX0_stageOf cX0_stageOf 6 (some .int) :: wK) { frames := 2, cells := 0, slots := 0, locals := 43 }).room s m [.ref (Q 6), .int a0, .int a1].toArray below meth c H locs 0 0 (MQ below (cQi G Q T u1 r A) [.ref (Q 6), .int a0, .int a1].toArray s 0 0 A) (F0 m 41 ls []) := by
        intro K41_70 hK41_70 n41
        induction n41 with
        | zero => intro v1 v2 v3 v4 v5 u D H locs ls hl hH hF; cases hF
        | succ n41 ih41 =>
          intro v1 v2 v3 v4 v5 u D H locs ls hl hH hF
          unfold xl_X0_stageOf_41 at hF
          refine lv_iload hx hb dX0_stageOf_41 (lv_at hl 5 rfl) ?_
          refine lv_iload_n hx hb dX0_stageOf_43 rfl (lv_at hl 2 rfl) ?_
          refine lv_icmp_gt (tgt := 70) hx hb dX0_stageOf_44 (by decide) (fun c_11 => ?_) (fun c_11 => ?_)
          · rw [if_pos c_11] at hF
            exact hK41_70 v1 v2 v3 v4 v5 u _ _ _ _ (lv_sub hl [0, 1, 2, 3, 4, 5] rfl) hH hF
          · rw [if_neg c_11] at hF
            refine lv_iload hx hb dX0_stageOf_47 (lv_at hl 4 rfl) ?_
            refine lv_iconst (v := 5) hx hb dX0_stageOf_49 (by decide) ?_
            refine lv_icmp_ge (tgt := 70) hx hb dX0_stageOf_50 (by decide) (fun c_12 => ?_) (fun c_12 => ?_)
            · rw [if_pos c_12] at hF
              exact hK41_70 v1 v2 v3 v4 v5 u _ _ _ _ (lv_sub hl [0, 1, 2, 3, 4, 5] rfl) hH hF
            · rw [if_neg c_12] at hF
              obtain ⟨x_13, e_14, hF⟩ := nli_some hF
              refine lv_iinc (v := x_13) (lv' := [(4, .int x_13), (0, .ref (Q 6)), (1, .int v1), (2, .int v2), (3, .int v3), (5, .int v5)]) hx hb dX0_stageOf_53 hl (k := 4) rfl e_14 (by decide) rfl (fun ls hl => ?_)
              refine lv_iload hx hb dX0_stageOf_56 (lv_at hl 5 rfl) ?_
              refine lv_iload_n hx hb dX0_stageOf_58 rfl (lv_at hl 4 rfl) ?_
              refine lv_iload hx hb dX0_stageOf_59 (lv_at hl 0 rfl) ?_
              refine lv_iconst (v := 1) hx hb dX0_stageOf_61 (by decide) ?_
              refine lv_iadd hx hb dX0_stageOf_62 ?_
              refine lv_ishr hx hb dX0_stageOf_63 ?_
              refine lv_iadd hx hb dX0_stageOf_64 ?_
              obtain ⟨x_15, e_16, hF⟩ := nli_some hF
              refine gx_ti e_16 ?_
              refine lv_istore (lv' := [(5, .int x_15), (4, .int x_13), (0, .ref (Q 6)), (1, .int v1), (2, .int v2), (3, .int v3)]) hx hb dX0_stageOf_65 hl (by decide) rfl (fun ls hl => ?_)
              refine lv_goto (tgt := 41) hx hb dX0_stageOf_67 (by decide) ?_
              exact ih41 v1 v2 v3 x_13 x_15 u _ _ _ _ (lv_sub hl [2, 3, 4, 5, 1, 0] rfl) hH hF
      refine hL41 _ (fun v1 v2 v3 v4 v5 u D H locs ls hl hH hF => ?_) fuel a0 a1 r_1 0 x_9 u_5 _ _ _ _ (lv_sub hl [3, 4, 5, 2, 1, 0] rfl) hH hF
      refine lv_iload_n hx hb dX0_stageOf_70 rfl (lv_at hl 2 rfl) ?_
      refine lv_iload_n hx hb dX0_stageOf_71 rfl (lv_at hl 3 rfl) ?_
      refine lv_iconst (v := 2) hx hb dX0_stageOf_72 (by decide) ?_
      refine lv_isub hx hb dX0_stageOf_73 ?_
      refine lv_icmp_ne (tgt := 82) hx hb dX0_stageOf_74 (by decide) (fun c_17 => ?_) (fun c_17 => ?_)
      · rw [if_neg c_17] at hF
        refine lv_iload hx hb dX0_stageOf_82 (lv_at hl 4 rfl) ?_
        exact cr_i hC hH hr (nrt_eq hF) dX0_stageOf_84 hlocks
      · rw [if_pos c_17] at hF
        refine lv_bipush (v := 20) hx hb dX0_stageOf_77 (by decide) ?_
        refine lv_goto (tgt := 84) hx hb dX0_stageOf_79 (by decide) ?_
        exact cr_i hC hH hr (nrt_eq hF) dX0_stageOf_84 hlocks
    · rw [if_neg c_8] at hF
      refine lv_bipush (v := 10) hx hb dX0_stageOf_24 (by decide) ?_
      refine lv_iload_n hx hb dX0_stageOf_26 rfl (lv_at hl 0 rfl) ?_
      refine lv_iload_n hx hb dX0_stageOf_27 rfl (lv_at hl 3 rfl) ?_
      obtain ⟨r_18, u_19, h_20, hF⟩ := ncl_some hF
      refine ccS_i (As := [.int r_1, .int a1]) (rest := [.int 10]) hC hH (n_X0_stepOf l G Z Q _ T u_5 u_19 r_18 r_1 a1 _ h_20) ⟨wkc_X0_stepOf, wka369, wka432, wka744⟩ kSX0_stepOf ⟨Nat.le_of_ble_eq_true rfl, Nat.le_of_ble_eq_true rfl⟩ rfl hl.1 rfl (Nat.le_of_ble_eq_true rfl) dX0_stageOf_28 (fun D H locs hH => ?_)
      refine lv_iadd hx hb dX0_stageOf_31 ?_
      exact cr_i hC hH hr (nrt_eq hF) dX0_stageOf_32 hlocks
  · rw [if_neg c_7] at hF
    refine lv_iconst (v := 0) hx hb dX0_stageOf_15 (by decide) ?_
    exact cr_i hC hH hr (nrt_eq hF) dX0_stageOf_16 hlocks
def x_X0_aheadOf (a0 : Int32) (a1 : Int32) (a2 : Int32) : NG Int32 := ncl (x_X0_sizeOf a0) (fun r_1 => ncl (x_X0_kindOf a0) (fun r_4 => (if r_4 = 2 then (if (r_1 / 2) ≤ a1 then (if (r_1 - 2) < a1 then ncl (x_X0_stepsOf r_1) (fun r_10 => (if r_10 ≤ (a1 - (r_1 - 1)) then (if a2 = 0 then nrt ((r_1 - 4) + 1) else ncl (x_X0_stepOf r_1 a1) (fun r_15 => (if r_15 ≤ 1 then nrt (-1) else nrt (a1 - 1)))) else (if a2 = 0 then nrt ((r_1 - 4) + 0) else ncl (x_X0_stepOf r_1 a1) (fun r_20 => (if r_20 ≤ 1 then nrt (-1) else nrt (a1 - 1)))))) else ncl (x_X0_lowerBelow r_1 a1) (fun r_24 => nrt (r_24 + a2))) else nrt (-1)) else nrt (-1))))
set_option maxHeartbeats 4000000 in
set_option maxRecDepth 100000 in
theorem n_X0_aheadOf (l : Launch) (G : gG) (Z : gC) (Q : Nat → Nat) (D : Nat × Nat) (T : va_W) (u u1 : MS) (r : Int32) (a0 : Int32) (a1 : Int32) (a2 : Int32) (sz : Nat) (hF : x_X0_aheadOf a0 a1 a2 u = some (r, u1)) : Met l yX0_aheadOf (Cond.code yX0_aheadOf cX0_aheadOf 6 (some .int) :: wK) { frames := 2, cells := 0, slots := 0, locals := 43 } (va_Pc [.ref (Q 6), .int a0, .int a1, .int a2] (cPM G Z Q D T u sz)) (cQi G Q T u1 r (va_A (cW G Q D T u) sz)) 0 0 (va_A (cW G Q D T u) sz) := by
  refine Met.ofW (cc := cX0_aheadOf) (maxL := 6) (ret := (some .int)) (by decide) rfl ?_
  intro p e s m args below meth c s₁ B hml hv
  obtain ⟨rfl, rfl, hP, hB, hD0, hE⟩ := hv
  have hr := B.returns
  have hlocks := B.notSynchronized
  have hts := atoms_spec (ws := Cond.code yX0_aheadOf cX0_aheadOf 6 (some .int) :: wK) B.pre
  have hD := hD0.self (sz := s.heap.size)
  have hA : ∀ q : Nat, s.heap.size ≤ q → va_A (cW G Q D T u) s.heap.size q := fun q h => Or.inr h
  generalize va_A (cW G Q D T u) s.heap.size = A at hD hA hE ⊢
  have hC : cX p c cX0_aheadOf 6 s m _ RX0 G Z A := ⟨B.exec, B.bytes, hml, findClass_of_methodNamed B.named, fun w h => hts w (List.mem_cons_of_mem _ h), hB, hE, hA⟩
  have hx := hC.1
  have hb := hC.2.1
  have hH : cH G Q D T A u s s.heap [] := ⟨hP, hD, va_S.rf⟩
  have hl := lv_entry ([.ref (Q 6), .int a0, .int a1, .int a2]) (n := 6) (Nat.le_of_ble_eq_true rfl)
  rw [lg_entry_eq]
  generalize (lg_sl ([.ref (Q 6), .int a0, .int a1, .int a2]) ++ List.replicate (6 - (lg_sl ([.ref (Q 6), .int a0, .int a1, .int a2])).length) Slot.unset).toArray = ls at hl ⊢
  have hl : lv_has ls 6 [(0, .ref (Q 6)), (1, .int a0), (2, .int a1), (3, .int a2)] := hl
  unfold x_X0_aheadOf at hF
  refine lv_aload_n hx hb dX0_aheadOf_0 rfl (lv_at hl 0 rfl) ?_
  refine lv_iload_n hx hb dX0_aheadOf_1 rfl (lv_at hl 1 rfl) ?_
  obtain ⟨r_1, u_2, h_3, hF⟩ := ncl_some hF
  refine ccV_i (q0 := 6) (As := [.int a0]) (rest := []) hC hH (n_X0_sizeOf l G Z Q _ T u u_2 r_1 a0 _ h_3) rfl rfl ⟨wkc_X0_sizeOf, wka254, wka390, wka391, wka744⟩ kVX0_sizeOf ⟨Nat.le_of_ble_eq_true rfl, Nat.le_of_ble_eq_true rfl⟩ rfl hl.1 rfl (Nat.le_of_ble_eq_true rfl) dX0_aheadOf_2 (fun D H locs hH => ?_)
  refine lv_istore (lv' := [(4, .int r_1), (0, .ref (Q 6)), (1, .int a0), (2, .int a1), (3, .int a2)]) hx hb dX0_aheadOf_5 hl (by decide) rfl (fun ls hl => ?_)
  refine lv_aload_n hx hb dX0_aheadOf_7 rfl (lv_at hl 1 rfl) ?_
  refine lv_iload_n hx hb dX0_aheadOf_8 rfl (lv_at hl 2 rfl) ?_
  obtain ⟨r_4, u_5, h_6, hF⟩ := ncl_some hF
  refine ccV_i (q0 := 6) (As := [.int a0]) (rest := []) hC hH (n_X0_kindOf l G Z Q _ T u_2 u_5 r_4 a0 _ h_6) rfl rfl ⟨wkc_X0_kindOf, wka211, wka388, wka389, wka744⟩ kVX0_kindOf ⟨Nat.le_of_ble_eq_true rfl, Nat.le_of_ble_eq_true rfl⟩ rfl hl.1 rfl (Nat.le_of_ble_eq_true rfl) dX0_aheadOf_9 (fun D H locs hH => ?_)
  refine lv_iconst (v := 2) hx hb dX0_aheadOf_12 (by decide) ?_
  refine lv_icmp_ne (tgt := 24) hx hb dX0_aheadOf_13 (by decide) (fun c_7 => ?_) (fun c_7 => ?_)
  · rw [if_neg c_7] at hF
    refine lv_iconst (v := (-1)) hx hb dX0_aheadOf_24 (by decide) ?_
    exact cr_i hC hH hr (nrt_eq hF) dX0_aheadOf_25 hlocks
  · rw [if_pos c_7] at hF
    refine lv_iload_n hx hb dX0_aheadOf_16 rfl (lv_at hl 3 rfl) ?_
    refine lv_iload hx hb dX0_aheadOf_17 (lv_at hl 0 rfl) ?_
    refine lv_iconst (v := 2) hx hb dX0_aheadOf_19 (by decide) ?_
    refine lv_idiv hx hb dX0_aheadOf_20 (by decide) ?_
    refine lv_icmp_ge (tgt := 26) hx hb dX0_aheadOf_21 (by decide) (fun c_8 => ?_) (fun c_8 => ?_)
    · rw [if_pos c_8] at hF
      refine lv_iload_n hx hb dX0_aheadOf_26 rfl (lv_at hl 3 rfl) ?_
      refine lv_iload hx hb dX0_aheadOf_27 (lv_at hl 0 rfl) ?_
      refine lv_iconst (v := 2) hx hb dX0_aheadOf_29 (by decide) ?_
      refine lv_isub hx hb dX0_aheadOf_30 ?_
      refine lv_icmp_gt (tgt := 43) hx hb dX0_aheadOf_31 (by decide) (fun c_9 => ?_) (fun c_9 => ?_)
      · rw [if_pos c_9] at hF
        refine lv_iload_n hx hb dX0_aheadOf_43 rfl (lv_at hl 3 rfl) ?_
        refine lv_iload hx hb dX0_aheadOf_44 (lv_at hl 0 rfl) ?_
        refine lv_iconst (v := 1) hx hb dX0_aheadOf_46 (by decide) ?_
        refine lv_isub hx hb dX0_aheadOf_47 ?_
        refine lv_isub hx hb dX0_aheadOf_48 ?_
        refine lv_iload hx hb dX0_aheadOf_49 (lv_at hl 0 rfl) ?_
        obtain ⟨r_10, u_11, h_12, hF⟩ := ncl_some hF
        refine ccS_i (As := [.int r_1]) (rest := [.int (a1 - (r_1 - 1))]) hC hH (n_X0_stepsOf l G Z Q _ T u_5 u_11 r_10 r_1 _ h_12) ⟨wkc_X0_stepsOf, wka267, wka398, wka744⟩ kSX0_stepsOf ⟨Nat.le_of_ble_eq_true rfl, Nat.le_of_ble_eq_true rfl⟩ rfl hl.1 rfl (Nat.le_of_ble_eq_true rfl) dX0_aheadOf_51 (fun D H locs hH => ?_)
        refine lv_icmp_ge (tgt := 61) hx hb dX0_aheadOf_54 (by decide) (fun c_13 => ?_) (fun c_13 => ?_)
        · rw [if_pos c_13] at hF
          refine lv_iconst (v := 1) hx hb dX0_aheadOf_61 (by decide) ?_
          refine lv_istore (lv' := [(5, .int 1), (4, .int r_1), (0, .ref (Q 6)), (1, .int a0), (2, .int a1), (3, .int a2)]) hx hb dX0_aheadOf_62 hl (by decide) rfl (fun ls hl => ?_)
          refine lv_iload_n hx hb dX0_aheadOf_64 rfl (lv_at hl 5 rfl) ?_
          refine lv_if_ne (tgt := 76) hx hb dX0_aheadOf_65 (by decide) (fun c_14 => ?_) (fun c_14 => ?_)
          · rw [if_neg c_14] at hF
            refine lv_iload hx hb dX0_aheadOf_76 (lv_at hl 1 rfl) ?_
            refine lv_iload_n hx hb dX0_aheadOf_78 rfl (lv_at hl 4 rfl) ?_
            obtain ⟨r_15, u_16, h_17, hF⟩ := ncl_some hF
            refine ccS_i (As := [.int r_1, .int a1]) (rest := []) hC hH (n_X0_stepOf l G Z Q _ T u_11 u_16 r_15 r_1 a1 _ h_17) ⟨wkc_X0_stepOf, wka369, wka432, wka744⟩ kSX0_stepOf ⟨Nat.le_of_ble_eq_true rfl, Nat.le_of_ble_eq_true rfl⟩ rfl hl.1 rfl (Nat.le_of_ble_eq_true rfl) dX0_aheadOf_79 (fun D H locs hH => ?_)
            refine lv_iconst (v := 1) hx hb dX0_aheadOf_82 (by decide) ?_
            refine lv_icmp_le (tgt := 92) hx hb dX0_aheadOf_83 (by decide) (fun c_18 => ?_) (fun c_18 => ?_)
            · rw [if_pos c_18] at hF
              refine lv_iconst (v := (-1)) hx hb dX0_aheadOf_92 (by decide) ?_
              exact cr_i hC hH hr (nrt_eq hF) dX0_aheadOf_93 hlocks
            · rw [if_neg c_18] at hF
              refine lv_iload_n hx hb dX0_aheadOf_86 rfl (lv_at hl 4 rfl) ?_
              refine lv_iconst (v := 1) hx hb dX0_aheadOf_87 (by decide) ?_
              refine lv_isub hx hb dX0_aheadOf_88 ?_
              refine lv_goto (tgt := 93) hx hb dX0_aheadOf_89 (by decide) ?_
              exact cr_i hC hH hr (nrt_eq hF) dX0_aheadOf_93 hlocks
          · rw [if_pos c_14] at hF
            refine lv_iload hx hb dX0_aheadOf_68 (lv_at hl 1 rfl) ?_
            refine lv_iconst (v := 4) hx hb dX0_aheadOf_70 (by decide) ?_
            refine lv_isub hx hb dX0_aheadOf_71 ?_
            refine lv_iload hx hb dX0_aheadOf_72 (lv_at hl 0 rfl) ?_
            refine lv_iadd hx hb dX0_aheadOf_74 ?_
            exact cr_i hC hH hr (nrt_eq hF) dX0_aheadOf_75 hlocks
        · rw [if_neg c_13] at hF
          refine lv_iconst (v := 0) hx hb dX0_aheadOf_57 (by decide) ?_
          refine lv_goto (tgt := 62) hx hb dX0_aheadOf_58 (by decide) ?_
          refine lv_istore (lv' := [(5, .int 0), (4, .int r_1), (0, .ref (Q 6)), (1, .int a0), (2, .int a1), (3, .int a2)]) hx hb dX0_aheadOf_62 hl (by decide) rfl (fun ls hl => ?_)
          refine lv_iload_n hx hb dX0_aheadOf_64 rfl (lv_at hl 5 rfl) ?_
          refine lv_if_ne (tgt := 76) hx hb dX0_aheadOf_65 (by decide) (fun c_19 => ?_) (fun c_19 => ?_)
          · rw [if_neg c_19] at hF
            refine lv_iload hx hb dX0_aheadOf_76 (lv_at hl 1 rfl) ?_
            refine lv_iload_n hx hb dX0_aheadOf_78 rfl (lv_at hl 4 rfl) ?_
            obtain ⟨r_20, u_21, h_22, hF⟩ := ncl_some hF
            refine ccS_i (As := [.int r_1, .int a1]) (rest := []) hC hH (n_X0_stepOf l G Z Q _ T u_11 u_21 r_20 r_1 a1 _ h_22) ⟨wkc_X0_stepOf, wka369, wka432, wka744⟩ kSX0_stepOf ⟨Nat.le_of_ble_eq_true rfl, Nat.le_of_ble_eq_true rfl⟩ rfl hl.1 rfl (Nat.le_of_ble_eq_true rfl) dX0_aheadOf_79 (fun D H locs hH => ?_)
            refine lv_iconst (v := 1) hx hb dX0_aheadOf_82 (by decide) ?_
            refine lv_icmp_le (tgt := 92) hx hb dX0_aheadOf_83 (by decide) (fun c_23 => ?_) (fun c_23 => ?_)
            · rw [if_pos c_23] at hF
              refine lv_iconst (v := (-1)) hx hb dX0_aheadOf_92 (by decide) ?_
              exact cr_i hC hH hr (nrt_eq hF) dX0_aheadOf_93 hlocks
            · rw [if_neg c_23] at hF
              refine lv_iload_n hx hb dX0_aheadOf_86 rfl (lv_at hl 4 rfl) ?_
              refine lv_iconst (v := 1) hx hb dX0_aheadOf_87 (by decide) ?_
              refine lv_isub hx hb dX0_aheadOf_88 ?_
              refine lv_goto (tgt := 93) hx hb dX0_aheadOf_89 (by decide) ?_
              exact cr_i hC hH hr (nrt_eq hF) dX0_aheadOf_93 hlocks
          · rw [if_pos c_19] at hF
            refine lv_iload hx hb dX0_aheadOf_68 (lv_at hl 1 rfl) ?_
            refine lv_iconst (v := 4) hx hb dX0_aheadOf_70 (by decide) ?_
            refine lv_isub hx hb dX0_aheadOf_71 ?_
            refine lv_iload hx hb dX0_aheadOf_72 (lv_at hl 0 rfl) ?_
            refine lv_iadd hx hb dX0_aheadOf_74 ?_
            exact cr_i hC hH hr (nrt_eq hF) dX0_aheadOf_75 hlocks
      · rw [if_neg c_9] at hF
        refine lv_iload hx hb dX0_aheadOf_34 (lv_at hl 0 rfl) ?_
        refine lv_iload_n hx hb dX0_aheadOf_36 rfl (lv_at hl 3 rfl) ?_
        obtain ⟨r_24, u_25, h_26, hF⟩ := ncl_some hF
        refine ccS_i (As := [.int r_1, .int a1]) (rest := []) hC hH (n_X0_lowerBelow l G Z Q _ T u_5 u_25 r_24 r_1 a1 _ h_26) ⟨wkc_X0_lowerBelow, wka263, wka419, wka744⟩ kSX0_lowerBelow ⟨Nat.le_of_ble_eq_true rfl, Nat.le_of_ble_eq_true rfl⟩ rfl hl.1 rfl (Nat.le_of_ble_eq_true rfl) dX0_aheadOf_37 (fun D H locs hH => ?_)
        refine lv_iload_n hx hb dX0_aheadOf_40 rfl (lv_at hl 4 rfl) ?_
        refine lv_iadd hx hb dX0_aheadOf_41 ?_
        exact cr_i hC hH hr (nrt_eq hF) dX0_aheadOf_42 hlocks
    · rw [if_neg c_8] at hF
      refine lv_iconst (v := (-1)) hx hb dX0_aheadOf_24 (by decide) ?_
      exact cr_i hC hH hr (nrt_eq hF) dX0_aheadOf_25 hlocks
def x_X1_ofFighter (a0 : Int32) (a1 : Int32) : NG Int32 := nrt ((148 + (a0 * 7)) + a1)
set_option maxHeartbeats 4000000 in
set_option maxRecDepth 100000 in
theorem n_X1_ofFighter (l : Launch) (G : gG) (Z : gC) (Q : Nat → Nat) (D : Nat × Nat) (T : va_W) (u u1 : MS) (r : Int32) (a0 : Int32) (a1 : Int32) (sz : Nat) (hF : x_X1_ofFighter a0 a1 u = some (r, u1)) : Met l yX1_ofFighter (Cond.code yX1_ofFighter cX1_ofFighter 2 (some .int) :: wK) { frames := 0, cells := 0, slots := 0, locals := 0 } (va_Pc [.int a0, .int a1] (cPM G Z Q D T u sz)) (cQi G Q T u1 r (va_A (cW G Q D T u) sz)) 0 0 (va_A (cW G Q D T u) sz) := by
  refine Met.ofW (cc := cX1_ofFighter) (maxL := 2) (ret := (some .int)) (by decide) rfl ?_
  intro p e s m args below meth c s₁ B hml hv
  obtain ⟨rfl, rfl, hP, hB, hD0, hE⟩ := hv
  have hr := B.returns
  have hlocks := B.notSynchronized
  have hts := atoms_spec (ws := Cond.code yX1_ofFighter cX1_ofFighter 2 (some .int) :: wK) B.pre
  have hD := hD0.self (sz := s.heap.size)
  have hA : ∀ q : Nat, s.heap.size ≤ q → va_A (cW G Q D T u) s.heap.size q := fun q h => Or.inr h
  generalize va_A (cW G Q D T u) s.heap.size = A at hD hA hE ⊢
  have hC : cX p c cX1_ofFighter 2 s m _ RX1 G Z A := ⟨B.exec, B.bytes, hml, findClass_of_methodNamed B.named, fun w h => hts w (List.mem_cons_of_mem _ h), hB, hE, hA⟩
  have hx := hC.1
  have hb := hC.2.1
  have hH : cH G Q D T A u s s.heap [] := ⟨hP, hD, va_S.rf⟩
  have hl := lv_entry ([.int a0, .int a1]) (n := 2) (Nat.le_of_ble_eq_true rfl)
  rw [lg_entry_eq]
  generalize (lg_sl ([.int a0, .int a1]) ++ List.replicate (2 - (lg_sl ([.int a0, .int a1])).length) Slot.unset).toArray = ls at hl ⊢
  have hl : lv_has ls 2 [(0, .int a0), (1, .int a1)] := hl
  unfold x_X1_ofFighter at hF
  refine lv_sipush (v := 148) hx hb dX1_ofFighter_0 (by decide) ?_
  refine lv_iload_n hx hb dX1_ofFighter_3 rfl (lv_at hl 0 rfl) ?_
  refine lv_bipush (v := 7) hx hb dX1_ofFighter_4 (by decide) ?_
  refine lv_imul hx hb dX1_ofFighter_6 ?_
  refine lv_iadd hx hb dX1_ofFighter_7 ?_
  refine lv_iload_n hx hb dX1_ofFighter_8 rfl (lv_at hl 1 rfl) ?_
  refine lv_iadd hx hb dX1_ofFighter_9 ?_
  exact cr_i hC hH hr (nrt_eq hF) dX1_ofFighter_10 hlocks
def x_X1_ofMat (a0 : Int32) (a1 : Int32) : NG Int32 := nrt ((2004 + (a0 * 21)) + a1)
set_option maxHeartbeats 4000000 in
set_option maxRecDepth 100000 in
theorem n_X1_ofMat (l : Launch) (G : gG) (Z : gC) (Q : Nat → Nat) (D : Nat × Nat) (T : va_W) (u u1 : MS) (r : Int32) (a0 : Int32) (a1 : Int32) (sz : Nat) (hF : x_X1_ofMat a0 a1 u = some (r, u1)) : Met l yX1_ofMat (Cond.code yX1_ofMat cX1_ofMat 2 (some .int) :: wK) { frames := 0, cells := 0, slots := 0, locals := 0 } (va_Pc [.int a0, .int a1] (cPM G Z Q D T u sz)) (cQi G Q T u1 r (va_A (cW G Q D T u) sz)) 0 0 (va_A (cW G Q D T u) sz) := by
  refine Met.ofW (cc := cX1_ofMat) (maxL := 2) (ret := (some .int)) (by decide) rfl ?_
  intro p e s m args below meth c s₁ B hml hv
  obtain ⟨rfl, rfl, hP, hB, hD0, hE⟩ := hv
  have hr := B.returns
  have hlocks := B.notSynchronized
  have hts := atoms_spec (ws := Cond.code yX1_ofMat cX1_ofMat 2 (some .int) :: wK) B.pre
  have hD := hD0.self (sz := s.heap.size)
  have hA : ∀ q : Nat, s.heap.size ≤ q → va_A (cW G Q D T u) s.heap.size q := fun q h => Or.inr h
  generalize va_A (cW G Q D T u) s.heap.size = A at hD hA hE ⊢
  have hC : cX p c cX1_ofMat 2 s m _ RX1 G Z A := ⟨B.exec, B.bytes, hml, findClass_of_methodNamed B.named, fun w h => hts w (List.mem_cons_of_mem _ h), hB, hE, hA⟩
  have hx := hC.1
  have hb := hC.2.1
  have hH : cH G Q D T A u s s.heap [] := ⟨hP, hD, va_S.rf⟩
  have hl := lv_entry ([.int a0, .int a1]) (n := 2) (Nat.le_of_ble_eq_true rfl)
  rw [lg_entry_eq]
  generalize (lg_sl ([.int a0, .int a1]) ++ List.replicate (2 - (lg_sl ([.int a0, .int a1])).length) Slot.unset).toArray = ls at hl ⊢
  have hl : lv_has ls 2 [(0, .int a0), (1, .int a1)] := hl
  unfold x_X1_ofMat at hF
  refine lv_sipush (v := 2004) hx hb dX1_ofMat_0 (by decide) ?_
  refine lv_iload_n hx hb dX1_ofMat_3 rfl (lv_at hl 0 rfl) ?_
  refine lv_bipush (v := 21) hx hb dX1_ofMat_4 (by decide) ?_
  refine lv_imul hx hb dX1_ofMat_6 ?_
  refine lv_iadd hx hb dX1_ofMat_7 ?_
  refine lv_iload_n hx hb dX1_ofMat_8 rfl (lv_at hl 1 rfl) ?_
  refine lv_iadd hx hb dX1_ofMat_9 ?_
  exact cr_i hC hH hr (nrt_eq hF) dX1_ofMat_10 hlocks
def x_X1_isFull : NG Int32 := ncl (nRF 1) (fun x_1 => (if x_1 < 500 then nrt 0 else nrt 1))
set_option maxHeartbeats 4000000 in
set_option maxRecDepth 100000 in
theorem n_X1_isFull (l : Launch) (G : gG) (Z : gC) (Q : Nat → Nat) (D : Nat × Nat) (T : va_W) (u u1 : MS) (r : Int32) (sz : Nat) (hF : x_X1_isFull u = some (r, u1)) : Met l yX1_isFull (Cond.code yX1_isFull cX1_isFull 1 (some .boolean) :: wK) { frames := 0, cells := 0, slots := 0, locals := 0 } (va_Pc [.ref (Q 1)] (cPM G Z Q D T u sz)) (cQi G Q T u1 r (va_A (cW G Q D T u) sz)) 0 0 (va_A (cW G Q D T u) sz) := by
  refine Met.ofW (cc := cX1_isFull) (maxL := 1) (ret := (some .boolean)) (by decide) rfl ?_
  intro p e s m args below meth c s₁ B hml hv
  obtain ⟨rfl, rfl, hP, hB, hD0, hE⟩ := hv
  have hr := B.returns
  have hlocks := B.notSynchronized
  have hts := atoms_spec (ws := Cond.code yX1_isFull cX1_isFull 1 (some .boolean) :: wK) B.pre
  have hD := hD0.self (sz := s.heap.size)
  have hA : ∀ q : Nat, s.heap.size ≤ q → va_A (cW G Q D T u) s.heap.size q := fun q h => Or.inr h
  generalize va_A (cW G Q D T u) s.heap.size = A at hD hA hE ⊢
  have hC : cX p c cX1_isFull 1 s m _ RX1 G Z A := ⟨B.exec, B.bytes, hml, findClass_of_methodNamed B.named, fun w h => hts w (List.mem_cons_of_mem _ h), hB, hE, hA⟩
  have hx := hC.1
  have hb := hC.2.1
  have hH : cH G Q D T A u s s.heap [] := ⟨hP, hD, va_S.rf⟩
  have hl := lv_entry ([.ref (Q 1)]) (n := 1) (Nat.le_of_ble_eq_true rfl)
  rw [lg_entry_eq]
  generalize (lg_sl ([.ref (Q 1)]) ++ List.replicate (1 - (lg_sl ([.ref (Q 1)])).length) Slot.unset).toArray = ls at hl ⊢
  have hl : lv_has ls 1 [(0, .ref (Q 1))] := hl
  unfold x_X1_isFull at hF
  refine lv_aload_n hx hb dX1_isFull_0 rfl (lv_at hl 0 rfl) ?_
  refine cg_X1_61 hC hH dX1_isFull_1 ?_
  obtain ⟨x_1, u_2, h_3, hF⟩ := ncl_some hF
  obtain ⟨e_4, rfl⟩ := nRF_eq h_3
  refine gx_ti e_4 ?_
  refine lv_sipush (v := 500) hx hb dX1_isFull_4 (by decide) ?_
  refine lv_icmp_lt (tgt := 14) hx hb dX1_isFull_7 (by decide) (fun c_5 => ?_) (fun c_5 => ?_)
  · rw [if_pos c_5] at hF
    refine lv_iconst (v := 0) hx hb dX1_isFull_14 (by decide) ?_
    exact cr_z hC hH hr rfl (nrt_eq hF) dX1_isFull_15 hlocks
  · rw [if_neg c_5] at hF
    refine lv_iconst (v := 1) hx hb dX1_isFull_10 (by decide) ?_
    refine lv_goto (tgt := 15) hx hb dX1_isFull_11 (by decide) ?_
    exact cr_z hC hH hr rfl (nrt_eq hF) dX1_isFull_15 hlocks
def x_X1_openEntry : NG Int32 := ncl (nRF 1) (fun x_1 => ncl (nRF 0) (fun x_5 => ncl (nST 3 500 x_1 x_5) (fun _ => ncl (nRF 1) (fun x_13 => ncl (nWF 1 (x_13 + 1)) (fun _ => nrt 0)))))
set_option maxHeartbeats 4000000 in
set_option maxRecDepth 100000 in
theorem n_X1_openEntry (l : Launch) (G : gG) (Z : gC) (Q : Nat → Nat) (D : Nat × Nat) (T : va_W) (u u1 : MS) (r : Int32) (sz : Nat) (hF : x_X1_openEntry u = some (r, u1)) : Met l yX1_openEntry (Cond.code yX1_openEntry cX1_openEntry 1 none :: wK) { frames := 1, cells := 0, slots := 0, locals := 22 } (va_Pc [.ref (Q 1)] (cPM G Z Q D T u sz)) (cQv G Q T u1 (va_A (cW G Q D T u) sz)) 0 0 (va_A (cW G Q D T u) sz) := by
  refine Met.ofW (cc := cX1_openEntry) (maxL := 1) (ret := none) (by decide) rfl ?_
  intro p e s m args below meth c s₁ B hml hv
  obtain ⟨rfl, rfl, hP, hB, hD0, hE⟩ := hv
  have hr := B.returns
  have hlocks := B.notSynchronized
  have hts := atoms_spec (ws := Cond.code yX1_openEntry cX1_openEntry 1 none :: wK) B.pre
  have hD := hD0.self (sz := s.heap.size)
  have hA : ∀ q : Nat, s.heap.size ≤ q → va_A (cW G Q D T u) s.heap.size q := fun q h => Or.inr h
  generalize va_A (cW G Q D T u) s.heap.size = A at hD hA hE ⊢
  have hC : cX p c cX1_openEntry 1 s m _ RX1 G Z A := ⟨B.exec, B.bytes, hml, findClass_of_methodNamed B.named, fun w h => hts w (List.mem_cons_of_mem _ h), hB, hE, hA⟩
  have hx := hC.1
  have hb := hC.2.1
  have hH : cH G Q D T A u s s.heap [] := ⟨hP, hD, va_S.rf⟩
  have hl := lv_entry ([.ref (Q 1)]) (n := 1) (Nat.le_of_ble_eq_true rfl)
  rw [lg_entry_eq]
  generalize (lg_sl ([.ref (Q 1)]) ++ List.replicate (1 - (lg_sl ([.ref (Q 1)])).length) Slot.unset).toArray = ls at hl ⊢
  have hl : lv_has ls 1 [(0, .ref (Q 1))] := hl
  unfold x_X1_openEntry at hF
  refine lv_aload_n hx hb dX1_openEntry_0 rfl (lv_at hl 0 rfl) ?_
  refine cg_X1_29 hC hH dX1_openEntry_1 ?_
  refine lv_aload_n hx hb dX1_openEntry_4 rfl (lv_at hl 0 rfl) ?_
  refine cg_X1_61 hC hH dX1_openEntry_5 ?_
  obtain ⟨x_1, u_2, h_3, hF⟩ := ncl_some hF
  obtain ⟨e_4, rfl⟩ := nRF_eq h_3
  refine gx_ti e_4 ?_
  refine lv_aload_n hx hb dX1_openEntry_8 rfl (lv_at hl 0 rfl) ?_
  refine cg_X1_50 hC hH dX1_openEntry_9 ?_
  obtain ⟨x_5, u_6, h_7, hF⟩ := ncl_some hF
  obtain ⟨e_8, rfl⟩ := nRF_eq h_7
  refine gx_ti e_8 ?_
  obtain ⟨y_12, u_9, h_11, hF⟩ := ncl_some hF
  have e_10 := nST_eq h_11
  refine rs_2 hC hH e_10 wka194 ⟨Nat.le_of_ble_eq_true rfl, Nat.le_of_ble_eq_true rfl⟩ hl.1 (Nat.le_of_ble_eq_true rfl) ⟨Nat.zero_le _, Nat.zero_le _⟩ dX1_openEntry_12 (fun H locs hH => ?_)
  refine lv_aload_n hx hb dX1_openEntry_15 rfl (lv_at hl 0 rfl) ?_
  refine lv_dup hx hb dX1_openEntry_16 rfl ?_
  refine cg_X1_61 hC hH dX1_openEntry_17 ?_
  obtain ⟨x_13, u_14, h_15, hF⟩ := ncl_some hF
  obtain ⟨e_16, rfl⟩ := nRF_eq h_15
  refine gx_ti e_16 ?_
  refine lv_iconst (v := 1) hx hb dX1_openEntry_20 (by decide) ?_
  refine lv_iadd hx hb dX1_openEntry_21 ?_
  obtain ⟨y_20, u_17, h_19, hF⟩ := ncl_some hF
  have e_18 := nWF_eq h_19
  refine cp_X1_61 hC hH e_18 dX1_openEntry_22 (fun H locs hH => ?_)
  exact cr_v hC hH hr (nrt_eq hF) dX1_openEntry_25 hlocks
def xl_X1_takeBack_33 : Nat → Int32 → Int32 → (Int32 → Int32 → NG Int32) → NG Int32
  | 0, _, _, _ => fun _ => none
  | n33 + 1, v1, v2, K33_64 => (if v2 < v1 then K33_64 v1 v2 else ncl (nGD 1 60 v2) (fun x_26 => ncl (nGD 2 65 v2) (fun x_30 => ncl (nST 0 2088 x_26 x_30) (fun _ => nli (v2 + (-1)) (fun x_38 => xl_X1_takeBack_33 n33 v1 x_38 K33_64)))))
def x_X1_takeBack : NG Int32 := ncl (nRF 1) (fun x_1 => ncl (nWF 1 (x_1 - 1)) (fun _ => ncl (nRF 1) (fun x_9 => ncl (nGT 3 500 x_9) (fun x_13 => nli (if x_13 < 0 then 0 else x_13) (fun x_17 => ncl (nRF 0) (fun x_19 => nli (x_19 - 1) (fun x_23 => xl_X1_takeBack_33 fuel x_17 x_23 (fun v1 v2 => ncl (nWF 0 v1) (fun _ => nrt 0)))))))))
set_option maxHeartbeats 4000000 in
set_option maxRecDepth 100000 in
theorem n_X1_takeBack (l : Launch) (G : gG) (Z : gC) (Q : Nat → Nat) (D : Nat × Nat) (T : va_W) (u u1 : MS) (r : Int32) (sz : Nat) (hF : x_X1_takeBack u = some (r, u1)) : Met l yX1_takeBack (Cond.code yX1_takeBack cX1_takeBack 3 none :: wK) { frames := 1, cells := 0, slots := 0, locals := 22 } (va_Pc [.ref (Q 1)] (cPM G Z Q D T u sz)) (cQv G Q T u1 (va_A (cW G Q D T u) sz)) 0 0 (va_A (cW G Q D T u) sz) := by
  refine Met.ofW (cc := cX1_takeBack) (maxL := 3) (ret := none) (by decide) rfl ?_
  intro p e s m args below meth c s₁ B hml hv
  obtain ⟨rfl, rfl, hP, hB, hD0, hE⟩ := hv
  have hr := B.returns
  have hlocks := B.notSynchronized
  have hts := atoms_spec (ws := Cond.code yX1_takeBack cX1_takeBack 3 none :: wK) B.pre
  have hD := hD0.self (sz := s.heap.size)
  have hA : ∀ q : Nat, s.heap.size ≤ q → va_A (cW G Q D T u) s.heap.size q := fun q h => Or.inr h
  generalize va_A (cW G Q D T u) s.heap.size = A at hD hA hE ⊢
  have hC : cX p c cX1_takeBack 3 s m _ RX1 G Z A := ⟨B.exec, B.bytes, hml, findClass_of_methodNamed B.named, fun w h => hts w (List.mem_cons_of_mem _ h), hB, hE, hA⟩
  have hx := hC.1
  have hb := hC.2.1
  have hH : cH G Q D T A u s s.heap [] := ⟨hP, hD, va_S.rf⟩
  have hl := lv_entry ([.ref (Q 1)]) (n := 3) (Nat.le_of_ble_eq_true rfl)
  rw [lg_entry_eq]
  generalize (lg_sl ([.ref (Q 1)]) ++ List.replicate (3 - (lg_sl ([.ref (Q 1)])).length) Slot.unset).toArray = ls at hl ⊢
  have hl : lv_has ls 3 [(0, .ref (Q 1))] := hl
  unfold x_X1_takeBack at hF
  refine lv_aload_n hx hb dX1_takeBack_0 rfl (lv_at hl 0 rfl) ?_
  refine lv_dup hx hb dX1_takeBack_1 rfl ?_
  refine cg_X1_61 hC hH dX1_takeBack_2 ?_
  obtain ⟨x_1, u_2, h_3, hF⟩ := ncl_some hF
  obtain ⟨e_4, rfl⟩ := nRF_eq h_3
  refine gx_ti e_4 ?_
  refine lv_iconst (v := 1) hx hb dX1_takeBack_5 (by decide) ?_
  refine lv_isub hx hb dX1_takeBack_6 ?_
  obtain ⟨y_8, u_5, h_7, hF⟩ := ncl_some hF
  have e_6 := nWF_eq h_7
  refine cp_X1_61 hC hH e_6 dX1_takeBack_7 (fun H locs hH => ?_)
  refine lv_aload_n hx hb dX1_takeBack_10 rfl (lv_at hl 0 rfl) ?_
  refine cg_X1_29 hC hH dX1_takeBack_11 ?_
  refine lv_aload_n hx hb dX1_takeBack_14 rfl (lv_at hl 0 rfl) ?_
  refine cg_X1_61 hC hH dX1_takeBack_15 ?_
  obtain ⟨x_9, u_10, h_11, hF⟩ := ncl_some hF
  obtain ⟨e_12, rfl⟩ := nRF_eq h_11
  refine gx_ti e_12 ?_
  refine rg_2 hC hH wka385 ⟨Nat.le_of_ble_eq_true rfl, Nat.le_of_ble_eq_true rfl⟩ hl.1 (Nat.le_of_ble_eq_true rfl) ⟨Nat.zero_le _, Nat.zero_le _⟩ dX1_takeBack_18 ?_
  obtain ⟨x_13, u_14, h_15, hF⟩ := ncl_some hF
  obtain ⟨e_16, rfl⟩ := nGT_eq h_15
  refine gx_ti e_16 ?_
  refine lv_iconst (v := 0) hx hb dX1_takeBack_21 (by decide) ?_
  refine va_mmax hx hb (hC.2.2.1.trans hl.1.symm) hC.2.2.2.1 (hC.2.2.2.2.1 _ wka386) (hC.2.2.2.2.1 _ wka756) (hC.2.2.2.2.1 _ wka760) (hC.2.2.2.2.1 _ wka757) (Nat.le_of_ble_eq_true rfl) (Nat.le_of_ble_eq_true rfl) (Nat.le_of_ble_eq_true rfl) (Nat.le_of_ble_eq_true rfl) dX1_takeBack_22 ?_
  obtain ⟨x_17, e_18, hF⟩ := nli_some hF
  refine gx_ti e_18 ?_
  refine lv_istore_n (lv' := [(1, .int x_17), (0, .ref (Q 1))]) hx hb dX1_takeBack_25 rfl hl (by decide) rfl (fun ls hl => ?_)
  refine lv_aload_n hx hb dX1_takeBack_26 rfl (lv_at hl 1 rfl) ?_
  refine cg_X1_50 hC hH dX1_takeBack_27 ?_
  obtain ⟨x_19, u_20, h_21, hF⟩ := ncl_some hF
  obtain ⟨e_22, rfl⟩ := nRF_eq h_21
  refine gx_ti e_22 ?_
  refine lv_iconst (v := 1) hx hb dX1_takeBack_30 (by decide) ?_
  refine lv_isub hx hb dX1_takeBack_31 ?_
  obtain ⟨x_23, e_24, hF⟩ := nli_some hF
  refine gx_ti e_24 ?_
  refine lv_istore_n (lv' := [(2, .int x_23), (1, .int x_17), (0, .ref (Q 1))]) hx hb dX1_takeBack_32 rfl hl (by decide) rfl (fun ls hl => ?_)
  have hL33 : ∀ (K33_64 : Int32 → Int32 → NG Int32), (∀ (v1 v2 : Int32) (u : MS) (D : Nat × Nat) (H : Heap) (locs : List Loc) (ls : Array Slot), lv_has ls 3 [(0, .ref (Q 1)), (1, .int v1), (2, .int v2)] → cH G Q D T A u s H locs → K33_64 v1 v2 u = some (r, u1) → W p l e (headSpec (Cond.code yX1_takeBack cX1_takeBack 3 none :: wK) { frames := 1, cells := 0, slots := 0, locals := 22 }).room s m [.ref (Q 1)].toArray below meth c H locs 0 0 (MQ below (cQv G Q T u1 A) [.ref (Q 1)].toArray s 0 0 A) (F0 m 64 ls [])) → ∀ (n33 : Nat) (v1 v2 : Int32) (u : MS) (D : Nat × Nat) (H : Heap) (locs : List Loc) (ls : Array Slot), lv_has ls 3 [(0, .ref (Q 1)), (1, .int v1), (2, .int v2)] → cH G Q D T A u s H locs → xl_X1_takeBack_33 n33 v1 v2 K33_64 u = some (r, u1) → W p l e (headSpec (Cond.code yX1_takeBack cX1_takeBack 3 none :: wK) { frames := 1, cells := 0, slots := 0, locals := 22 }).room s m [.ref (Q 1)].toArray below meth c H locs 0 0 (MQ below (cQv G Q T u1 A) [.ref (Q 1)].toArray s 0 0 A) (F0 m 33 ls []) := by
    intro K33_64 hK33_64 n33
    induction n33 with
    | zero => intro v1 v2 u D H locs ls hl hH hF; cases hF
    | succ n33 ih33 =>
      intro v1 v2 u D H locs ls hl hH hF
      unfold xl_X1_takeBack_33 at hF
      refine lv_iload_n hx hb dX1_takeBack_33 rfl (lv_at hl 2 rfl) ?_
      refine lv_iload_n hx hb dX1_takeBack_34 rfl (lv_at hl 1 rfl) ?_
      refine lv_icmp_lt (tgt := 64) hx hb dX1_takeBack_35 (by decide) (fun c_25 => ?_) (fun c_25 => ?_)
      · rw [if_pos c_25] at hF
        exact hK33_64 v1 v2 u _ _ _ _ (lv_sub hl [0, 1, 2] rfl) hH hF
      · rw [if_neg c_25] at hF
        refine lv_aload_n hx hb dX1_takeBack_38 rfl (lv_at hl 0 rfl) ?_
        refine lv_aload_n hx hb dX1_takeBack_39 rfl (lv_at hl 0 rfl) ?_
        refine cg_X1_22 hC hH dX1_takeBack_40 ?_
        refine lv_iload_n hx hb dX1_takeBack_43 rfl (lv_at hl 2 rfl) ?_
        refine rg_0 hC hH wka385 ⟨Nat.le_of_ble_eq_true rfl, Nat.le_of_ble_eq_true rfl⟩ hl.1 (Nat.le_of_ble_eq_true rfl) ⟨Nat.zero_le _, Nat.zero_le _⟩ dX1_takeBack_44 ?_
        obtain ⟨x_26, u_27, h_28, hF⟩ := ncl_some hF
        obtain ⟨e_29, rfl⟩ := nGD_eq h_28
        refine gx_ti e_29 ?_
        refine lv_aload_n hx hb dX1_takeBack_47 rfl (lv_at hl 0 rfl) ?_
        refine cg_X1_26 hC hH dX1_takeBack_48 ?_
        refine lv_iload_n hx hb dX1_takeBack_51 rfl (lv_at hl 2 rfl) ?_
        refine rg_1 hC hH wka385 ⟨Nat.le_of_ble_eq_true rfl, Nat.le_of_ble_eq_true rfl⟩ hl.1 (Nat.le_of_ble_eq_true rfl) ⟨Nat.zero_le _, Nat.zero_le _⟩ dX1_takeBack_52 ?_
        obtain ⟨x_30, u_31, h_32, hF⟩ := ncl_some hF
        obtain ⟨e_33, rfl⟩ := nGD_eq h_32
        refine gx_ti e_33 ?_
        obtain ⟨y_37, u_34, h_36, hF⟩ := ncl_some hF
        have e_35 := nST_eq h_36
        refine blay (u1 := u_34) (i := 1) (j := 11) hC hH rfl rfl (by decide) (by rw [← e_35]; rfl) wka10 ⟨Nat.le_of_ble_eq_true rfl, Nat.le_of_ble_eq_true rfl⟩ hl.1 (Nat.le_of_ble_eq_true rfl) ⟨Nat.zero_le _, Nat.zero_le _⟩ dX1_takeBack_55 (fun H locs hH => ?_)
        obtain ⟨x_38, e_39, hF⟩ := nli_some hF
        refine lv_iinc (v := x_38) (lv' := [(2, .int x_38), (0, .ref (Q 1)), (1, .int v1)]) hx hb dX1_takeBack_58 hl (k := 2) rfl e_39 (by decide) rfl (fun ls hl => ?_)
        refine lv_goto (tgt := 33) hx hb dX1_takeBack_61 (by decide) ?_
        exact ih33 v1 x_38 u_34 _ _ _ _ (lv_sub hl [1, 2, 0] rfl) hH hF
  refine hL33 _ (fun v1 v2 u D H locs ls hl hH hF => ?_) fuel x_17 x_23 u_5 _ _ _ _ (lv_sub hl [2, 1, 0] rfl) hH hF
  refine lv_aload_n hx hb dX1_takeBack_64 rfl (lv_at hl 0 rfl) ?_
  refine lv_iload_n hx hb dX1_takeBack_65 rfl (lv_at hl 1 rfl) ?_
  obtain ⟨y_43, u_40, h_42, hF⟩ := ncl_some hF
  have e_41 := nWF_eq h_42
  refine cp_X1_50 hC hH e_41 dX1_takeBack_66 (fun H locs hH => ?_)
  exact cr_v hC hH hr (nrt_eq hF) dX1_takeBack_69 hlocks
def x_X2_placesFor (a0 : Int32) : NG Int32 := (if 8 < a0 then (if 16 < a0 then nrt 32 else nrt 16) else nrt 8)
set_option maxHeartbeats 4000000 in
set_option maxRecDepth 100000 in
theorem n_X2_placesFor (l : Launch) (G : gG) (Z : gC) (Q : Nat → Nat) (D : Nat × Nat) (T : va_W) (u u1 : MS) (r : Int32) (a0 : Int32) (sz : Nat) (hF : x_X2_placesFor a0 u = some (r, u1)) : Met l yX2_placesFor (Cond.code yX2_placesFor cX2_placesFor 1 (some .int) :: wK) { frames := 0, cells := 0, slots := 0, locals := 0 } (va_Pc [.int a0] (cPM G Z Q D T u sz)) (cQi G Q T u1 r (va_A (cW G Q D T u) sz)) 0 0 (va_A (cW G Q D T u) sz) := by
  refine Met.ofW (cc := cX2_placesFor) (maxL := 1) (ret := (some .int)) (by decide) rfl ?_
  intro p e s m args below meth c s₁ B hml hv
  obtain ⟨rfl, rfl, hP, hB, hD0, hE⟩ := hv
  have hr := B.returns
  have hlocks := B.notSynchronized
  have hts := atoms_spec (ws := Cond.code yX2_placesFor cX2_placesFor 1 (some .int) :: wK) B.pre
  have hD := hD0.self (sz := s.heap.size)
  have hA : ∀ q : Nat, s.heap.size ≤ q → va_A (cW G Q D T u) s.heap.size q := fun q h => Or.inr h
  generalize va_A (cW G Q D T u) s.heap.size = A at hD hA hE ⊢
  have hC : cX p c cX2_placesFor 1 s m _ RX2 G Z A := ⟨B.exec, B.bytes, hml, findClass_of_methodNamed B.named, fun w h => hts w (List.mem_cons_of_mem _ h), hB, hE, hA⟩
  have hx := hC.1
  have hb := hC.2.1
  have hH : cH G Q D T A u s s.heap [] := ⟨hP, hD, va_S.rf⟩
  have hl := lv_entry ([.int a0]) (n := 1) (Nat.le_of_ble_eq_true rfl)
  rw [lg_entry_eq]
  generalize (lg_sl ([.int a0]) ++ List.replicate (1 - (lg_sl ([.int a0])).length) Slot.unset).toArray = ls at hl ⊢
  have hl : lv_has ls 1 [(0, .int a0)] := hl
  unfold x_X2_placesFor at hF
  refine lv_iload_n hx hb dX2_placesFor_0 rfl (lv_at hl 0 rfl) ?_
  refine lv_bipush (v := 8) hx hb dX2_placesFor_1 (by decide) ?_
  refine lv_icmp_gt (tgt := 9) hx hb dX2_placesFor_3 (by decide) (fun c_1 => ?_) (fun c_1 => ?_)
  · rw [if_pos c_1] at hF
    refine lv_iload_n hx hb dX2_placesFor_9 rfl (lv_at hl 0 rfl) ?_
    refine lv_bipush (v := 16) hx hb dX2_placesFor_10 (by decide) ?_
    refine lv_icmp_gt (tgt := 20) hx hb dX2_placesFor_12 (by decide) (fun c_2 => ?_) (fun c_2 => ?_)
    · rw [if_pos c_2] at hF
      refine lv_bipush (v := 32) hx hb dX2_placesFor_20 (by decide) ?_
      exact cr_i hC hH hr (nrt_eq hF) dX2_placesFor_22 hlocks
    · rw [if_neg c_2] at hF
      refine lv_bipush (v := 16) hx hb dX2_placesFor_15 (by decide) ?_
      refine lv_goto (tgt := 22) hx hb dX2_placesFor_17 (by decide) ?_
      exact cr_i hC hH hr (nrt_eq hF) dX2_placesFor_22 hlocks
  · rw [if_neg c_1] at hF
    refine lv_bipush (v := 8) hx hb dX2_placesFor_6 (by decide) ?_
    exact cr_i hC hH hr (nrt_eq hF) dX2_placesFor_8 hlocks
def xl_X2_makeRow_18 : Nat → Int32 → Int32 → Int32 → (Int32 → Int32 → Int32 → NG Int32) → NG Int32
  | 0, _, _, _, _ => fun _ => none
  | n18 + 1, v1, v2, v3, K18_83 => (if v2 ≤ v3 then K18_83 v1 v2 v3 else ncl (nGT 11 32 v3) (fun x_7 => nli (x_7 - x_7 / 2 * 2) (fun x_11 => ncl (nST 11 32 v3 ((2 * x_7) + x_11)) (fun _ => ncl (nST 11 32 (((2 * v2) - 1) - v3) (((2 * x_7) + 1) - x_11)) (fun _ => nli (v3 + 1) (fun x_21 => xl_X2_makeRow_18 n18 v1 v2 x_21 K18_83))))))
def xl_X2_makeRow_11 : Nat → Int32 → Int32 → (Int32 → Int32 → NG Int32) → NG Int32
  | 0, _, _, _ => fun _ => none
  | n11 + 1, v1, v2, K11_90 => (if v1 ≤ v2 then K11_90 v1 v2 else xl_X2_makeRow_18 fuel v1 v2 0 (fun v1 v2 v3 => nli (v2 * 2) (fun x_23 => xl_X2_makeRow_11 n11 v1 x_23 K11_90)))
def x_X2_makeRow (a0 : Int32) : NG Int32 := ncl (nST 11 32 0 0) (fun _ => xl_X2_makeRow_11 fuel a0 1 (fun v1 v2 => nrt 0))
set_option maxHeartbeats 4000000 in
set_option maxRecDepth 100000 in
theorem n_X2_makeRow (l : Launch) (G : gG) (Z : gC) (Q : Nat → Nat) (D : Nat × Nat) (T : va_W) (u u1 : MS) (r : Int32) (a0 : Int32) (sz : Nat) (hF : x_X2_makeRow a0 u = some (r, u1)) : Met l yX2_makeRow (Cond.code yX2_makeRow cX2_makeRow 6 none :: wK) { frames := 1, cells := 0, slots := 0, locals := 22 } (va_Pc [.ref (Q 5), .int a0] (cPM G Z Q D T u sz)) (cQv G Q T u1 (va_A (cW G Q D T u) sz)) 0 0 (va_A (cW G Q D T u) sz) := by
  refine Met.ofW (cc := cX2_makeRow) (maxL := 6) (ret := none) (by decide) rfl ?_
  intro p e s m args below meth c s₁ B hml hv
  obtain ⟨rfl, rfl, hP, hB, hD0, hE⟩ := hv
  have hr := B.returns
  have hlocks := B.notSynchronized
  have hts := atoms_spec (ws := Cond.code yX2_makeRow cX2_makeRow 6 none :: wK) B.pre
  have hD := hD0.self (sz := s.heap.size)
  have hA : ∀ q : Nat, s.heap.size ≤ q → va_A (cW G Q D T u) s.heap.size q := fun q h => Or.inr h
  generalize va_A (cW G Q D T u) s.heap.size = A at hD hA hE ⊢
  have hC : cX p c cX2_makeRow 6 s m _ RX2 G Z A := ⟨B.exec, B.bytes, hml, findClass_of_methodNamed B.named, fun w h => hts w (List.mem_cons_of_mem _ h), hB, hE, hA⟩
  have hx := hC.1
  have hb := hC.2.1
  have hH : cH G Q D T A u s s.heap [] := ⟨hP, hD, va_S.rf⟩
  have hl := lv_entry ([.ref (Q 5), .int a0]) (n := 6) (Nat.le_of_ble_eq_true rfl)
  rw [lg_entry_eq]
  generalize (lg_sl ([.ref (Q 5), .int a0]) ++ List.replicate (6 - (lg_sl ([.ref (Q 5), .int a0])).length) Slot.unset).toArray = ls at hl ⊢
  have hl : lv_has ls 6 [(0, .ref (Q 5)), (1, .int a0)] := hl
  unfold x_X2_makeRow at hF
  refine lv_aload_n hx hb dX2_makeRow_0 rfl (lv_at hl 0 rfl) ?_
  refine cg_X2_20 hC hH dX2_makeRow_1 ?_
  refine lv_iconst (v := 0) hx hb dX2_makeRow_4 (by decide) ?_
  refine lv_iconst (v := 0) hx hb dX2_makeRow_5 (by decide) ?_
  obtain ⟨y_4, u_1, h_3, hF⟩ := ncl_some hF
  have e_2 := nST_eq h_3
  refine rs_10 hC hH e_2 wka241 ⟨Nat.le_of_ble_eq_true rfl, Nat.le_of_ble_eq_true rfl⟩ hl.1 (Nat.le_of_ble_eq_true rfl) ⟨Nat.zero_le _, Nat.zero_le _⟩ dX2_makeRow_6 (fun H locs hH => ?_)
  refine lv_iconst (v := 1) hx hb dX2_makeRow_9 (by decide) ?_
  refine lv_istore_n (lv' := [(2, .int 1), (0, .ref (Q 5)), (1, .int a0)]) hx hb dX2_makeRow_10 rfl hl (by decide) rfl (fun ls hl => ?_)
  have hL11 : ∀ (K11_90 : Int32 → Int32 → NG Int32), (∀ (v1 v2 : Int32) (u : MS) (D : Nat × Nat) (H : Heap) (locs : List Loc) (ls : Array Slot), lv_has ls 6 [(0, .ref (Q 5)), (1, .int v1), (2, .int v2)] → cH G Q D T A u s H locs → K11_90 v1 v2 u = some (r, u1) → W p l e (headSpec (Cond.code yX2_makeRow cX2_makeRow 6 none :: wK) { frames := 1, cells := 0, slots := 0, locals := 22 }).room s m [.ref (Q 5), .int a0].toArray below meth c H locs 0 0 (MQ below (cQv G Q T u1 A) [.ref (Q 5), .int a0].toArray s 0 0 A) (F0 m 90 ls [])) → ∀ (n11 : Nat) (v1 v2 : Int32) (u : MS) (D : Nat × Nat) (H : Heap) (locs : List Loc) (ls : Array Slot), lv_has ls 6 [(0, .ref (Q 5)), (1, .int v1), (2, .int v2)] → cH G Q D T A u s H locs → xl_X2_makeRow_11 n11 v1 v2 K11_90 u = some (r, u1) → W p l e (headSpec (Cond.code yX2_makeRow cX2_makeRow 6 none :: wK) { frames := 1, cells := 0, slots := 0, locals := 22 }).room s m [.ref (Q 5), .int a0].toArray below meth c H locs 0 0 (MQ below (cQv G Q T u1 A) [.ref (Q 5), .int a0].toArray s 0 0 A) (F0 m 11 ls []) := by
    intro K11_90 hK11_90 n11
    induction n11 with
    | zero => intro v1 v2 u D H locs ls hl hH hF; cases hF
    | succ n11 ih11 =>
      intro v1 v2 u D H locs ls hl hH hF
      unfold xl_X2_makeRow_11 at hF
      refine lv_iload_n hx hb dX2_makeRow_11 rfl (lv_at hl 2 rfl) ?_
      refine lv_iload_n hx hb dX2_makeRow_12 rfl (lv_at hl 1 rfl) ?_
      refine lv_icmp_ge (tgt := 90) hx hb dX2_makeRow_13 (by decide) (fun c_5 => ?_) (fun c_5 => ?_)
      · rw [if_pos c_5] at hF
        exact hK11_90 v1 v2 u _ _ _ _ (lv_sub hl [0, 1, 2] rfl) hH hF
      · rw [if_neg c_5] at hF
        refine lv_iconst (v := 0) hx hb dX2_makeRow_16 (by decide) ?_
        refine lv_istore_n (lv' := [(3, .int 0), (0, .ref (Q 5)), (1, .int v1), (2, .int v2)]) hx hb dX2_makeRow_17 rfl hl (by decide) rfl (fun ls hl => ?_)
        have hL18 : ∀ (K18_83 : Int32 → Int32 → Int32 → NG Int32), (∀ (v1 v2 v3 : Int32) (u : MS) (D : Nat × Nat) (H : Heap) (locs : List Loc) (ls : Array Slot), lv_has ls 6 [(0, .ref (Q 5)), (1, .int v1), (2, .int v2), (3, .int v3)] → cH G Q D T A u s H locs → K18_83 v1 v2 v3 u = some (r, u1) → W p l e (headSpec (Cond.code yX2_makeRow cX2_makeRow 6 none :: wK) { frames := 1, cells := 0, slots := 0, locals := 22 }).room s m [.ref (Q 5), .int a0].toArray below meth c H locs 0 0 (MQ below (cQv G Q T u1 A) [.ref (Q 5), .int a0].toArray s 0 0 A) (F0 m 83 ls [])) → ∀ (n18 : Nat) (v1 v2 v3 : Int32) (u : MS) (D : Nat × Nat) (H : Heap) (locs : List Loc) (ls : Array Slot), lv_has ls 6 [(0, .ref (Q 5)), (1, .int v1), (2, .int v2), (3, .int v3)] → cH G Q D T A u s H locs → xl_X2_makeRow_18 n18 v1 v2 v3 K18_83 u = some (r, u1) → W p l e (headSpec (Cond.code yX2_makeRow cX2_makeRow 6 none :: wK) { frames := 1, cells := 0, slots := 0, locals := 22 }).room s m [.ref (Q 5), .int a0].toArray below meth c H locs 0 0 (MQ below (cQv G Q T u1 A) [.ref (Q 5), .int a0].toArray s 0 0 A) (F0 m 18 ls []) := by
          intro K18_83 hK18_83 n18
          induction n18 with
          | zero => intro v1 v2 v3 u D H locs ls hl hH hF; cases hF
          | succ n18 ih18 =>
            intro v1 v2 v3 u D H locs ls hl hH hF
            unfold xl_X2_makeRow_18 at hF
            refine lv_iload_n hx hb dX2_makeRow_18 rfl (lv_at hl 3 rfl) ?_
            refine lv_iload_n hx hb dX2_makeRow_19 rfl (lv_at hl 2 rfl) ?_
            refine lv_icmp_ge (tgt := 83) hx hb dX2_makeRow_20 (by decide) (fun c_6 => ?_) (fun c_6 => ?_)
            · rw [if_pos c_6] at hF
              exact hK18_83 v1 v2 v3 u _ _ _ _ (lv_sub hl [0, 1, 2, 3] rfl) hH hF
            · rw [if_neg c_6] at hF
              refine lv_aload_n hx hb dX2_makeRow_23 rfl (lv_at hl 0 rfl) ?_
              refine cg_X2_20 hC hH dX2_makeRow_24 ?_
              refine lv_iload_n hx hb dX2_makeRow_27 rfl (lv_at hl 3 rfl) ?_
              refine rg_10 hC hH wka242 ⟨Nat.le_of_ble_eq_true rfl, Nat.le_of_ble_eq_true rfl⟩ hl.1 (Nat.le_of_ble_eq_true rfl) ⟨Nat.zero_le _, Nat.zero_le _⟩ dX2_makeRow_28 ?_
              obtain ⟨x_7, u_8, h_9, hF⟩ := ncl_some hF
              obtain ⟨e_10, rfl⟩ := nGT_eq h_9
              refine gx_ti e_10 ?_
              refine lv_istore (lv' := [(4, .int x_7), (0, .ref (Q 5)), (1, .int v1), (2, .int v2), (3, .int v3)]) hx hb dX2_makeRow_31 hl (by decide) rfl (fun ls hl => ?_)
              refine lv_iload hx hb dX2_makeRow_33 (lv_at hl 0 rfl) ?_
              refine lv_iconst (v := 2) hx hb dX2_makeRow_35 (by decide) ?_
              refine lv_irem hx hb dX2_makeRow_36 (by decide) ?_
              obtain ⟨x_11, e_12, hF⟩ := nli_some hF
              refine gx_ti e_12 ?_
              refine lv_istore (lv' := [(5, .int x_11), (4, .int x_7), (0, .ref (Q 5)), (1, .int v1), (2, .int v2), (3, .int v3)]) hx hb dX2_makeRow_37 hl (by decide) rfl (fun ls hl => ?_)
              refine lv_aload_n hx hb dX2_makeRow_39 rfl (lv_at hl 2 rfl) ?_
              refine cg_X2_20 hC hH dX2_makeRow_40 ?_
              refine lv_iload_n hx hb dX2_makeRow_43 rfl (lv_at hl 5 rfl) ?_
              refine lv_iconst (v := 2) hx hb dX2_makeRow_44 (by decide) ?_
              refine lv_iload hx hb dX2_makeRow_45 (lv_at hl 1 rfl) ?_
              refine lv_imul hx hb dX2_makeRow_47 ?_
              refine lv_iload hx hb dX2_makeRow_48 (lv_at hl 0 rfl) ?_
              refine lv_iadd hx hb dX2_makeRow_50 ?_
              obtain ⟨y_16, u_13, h_15, hF⟩ := ncl_some hF
              have e_14 := nST_eq h_15
              refine rs_10 hC hH e_14 wka241 ⟨Nat.le_of_ble_eq_true rfl, Nat.le_of_ble_eq_true rfl⟩ hl.1 (Nat.le_of_ble_eq_true rfl) ⟨Nat.zero_le _, Nat.zero_le _⟩ dX2_makeRow_51 (fun H locs hH => ?_)
              refine lv_aload_n hx hb dX2_makeRow_54 rfl (lv_at hl 2 rfl) ?_
              refine cg_X2_20 hC hH dX2_makeRow_55 ?_
              refine lv_iconst (v := 2) hx hb dX2_makeRow_58 (by decide) ?_
              refine lv_iload_n hx hb dX2_makeRow_59 rfl (lv_at hl 4 rfl) ?_
              refine lv_imul hx hb dX2_makeRow_60 ?_
              refine lv_iconst (v := 1) hx hb dX2_makeRow_61 (by decide) ?_
              refine lv_isub hx hb dX2_makeRow_62 ?_
              refine lv_iload_n hx hb dX2_makeRow_63 rfl (lv_at hl 5 rfl) ?_
              refine lv_isub hx hb dX2_makeRow_64 ?_
              refine lv_iconst (v := 2) hx hb dX2_makeRow_65 (by decide) ?_
              refine lv_iload hx hb dX2_makeRow_66 (lv_at hl 1 rfl) ?_
              refine lv_imul hx hb dX2_makeRow_68 ?_
              refine lv_iconst (v := 1) hx hb dX2_makeRow_69 (by decide) ?_
              refine lv_iadd hx hb dX2_makeRow_70 ?_
              refine lv_iload hx hb dX2_makeRow_71 (lv_at hl 0 rfl) ?_
              refine lv_isub hx hb dX2_makeRow_73 ?_
              obtain ⟨y_20, u_17, h_19, hF⟩ := ncl_some hF
              have e_18 := nST_eq h_19
              refine rs_10 hC hH e_18 wka241 ⟨Nat.le_of_ble_eq_true rfl, Nat.le_of_ble_eq_true rfl⟩ hl.1 (Nat.le_of_ble_eq_true rfl) ⟨Nat.zero_le _, Nat.zero_le _⟩ dX2_makeRow_74 (fun H locs hH => ?_)
              obtain ⟨x_21, e_22, hF⟩ := nli_some hF
              refine lv_iinc (v := x_21) (lv' := [(3, .int x_21), (5, .int x_11), (4, .int x_7), (0, .ref (Q 5)), (1, .int v1), (2, .int v2)]) hx hb dX2_makeRow_77 hl (k := 5) rfl e_22 (by decide) rfl (fun ls hl => ?_)
              refine lv_goto (tgt := 18) hx hb dX2_makeRow_80 (by decide) ?_
              exact ih18 v1 v2 x_21 u_17 _ _ _ _ (lv_sub hl [3, 4, 5, 0] rfl) hH hF
        refine hL18 _ (fun v1 v2 v3 u D H locs ls hl hH hF => ?_) fuel v1 v2 0 u _ _ _ _ (lv_sub hl [1, 2, 3, 0] rfl) hH hF
        refine lv_iload_n hx hb dX2_makeRow_83 rfl (lv_at hl 2 rfl) ?_
        refine lv_iconst (v := 2) hx hb dX2_makeRow_84 (by decide) ?_
        refine lv_imul hx hb dX2_makeRow_85 ?_
        obtain ⟨x_23, e_24, hF⟩ := nli_some hF
        refine gx_ti e_24 ?_
        refine lv_istore_n (lv' := [(2, .int x_23), (0, .ref (Q 5)), (1, .int v1), (3, .int v3)]) hx hb dX2_makeRow_86 rfl hl (by decide) rfl (fun ls hl => ?_)
        refine lv_goto (tgt := 11) hx hb dX2_makeRow_87 (by decide) ?_
        exact ih11 v1 x_23 u _ _ _ _ (lv_sub hl [1, 2, 0] rfl) hH hF
  refine hL11 _ (fun v1 v2 u D H locs ls hl hH hF => ?_) fuel a0 1 u_1 _ _ _ _ (lv_sub hl [1, 2, 0] rfl) hH hF
  exact cr_v hC hH hr (nrt_eq hF) dX2_makeRow_90 hlocks
def x_X2_isSeed (a0 : Int32) : NG Int32 := ncl (x_X1_ofFighter a0 4) (fun r_1 => ncl (nGT 0 2088 r_1) (fun x_4 => (if x_4 ≤ 0 then nrt 0 else nrt 1)))
set_option maxHeartbeats 4000000 in
set_option maxRecDepth 100000 in
theorem n_X2_isSeed (l : Launch) (G : gG) (Z : gC) (Q : Nat → Nat) (D : Nat × Nat) (T : va_W) (u u1 : MS) (r : Int32) (a0 : Int32) (sz : Nat) (hF : x_X2_isSeed a0 u = some (r, u1)) : Met l yX2_isSeed (Cond.code yX2_isSeed cX2_isSeed 2 (some .boolean) :: wK) { frames := 1, cells := 0, slots := 0, locals := 22 } (va_Pc [.ref (Q 5), .int a0] (cPM G Z Q D T u sz)) (cQi G Q T u1 r (va_A (cW G Q D T u) sz)) 0 0 (va_A (cW G Q D T u) sz) := by
  refine Met.ofW (cc := cX2_isSeed) (maxL := 2) (ret := (some .boolean)) (by decide) rfl ?_
  intro p e s m args below meth c s₁ B hml hv
  obtain ⟨rfl, rfl, hP, hB, hD0, hE⟩ := hv
  have hr := B.returns
  have hlocks := B.notSynchronized
  have hts := atoms_spec (ws := Cond.code yX2_isSeed cX2_isSeed 2 (some .boolean) :: wK) B.pre
  have hD := hD0.self (sz := s.heap.size)
  have hA : ∀ q : Nat, s.heap.size ≤ q → va_A (cW G Q D T u) s.heap.size q := fun q h => Or.inr h
  generalize va_A (cW G Q D T u) s.heap.size = A at hD hA hE ⊢
  have hC : cX p c cX2_isSeed 2 s m _ RX2 G Z A := ⟨B.exec, B.bytes, hml, findClass_of_methodNamed B.named, fun w h => hts w (List.mem_cons_of_mem _ h), hB, hE, hA⟩
  have hx := hC.1
  have hb := hC.2.1
  have hH : cH G Q D T A u s s.heap [] := ⟨hP, hD, va_S.rf⟩
  have hl := lv_entry ([.ref (Q 5), .int a0]) (n := 2) (Nat.le_of_ble_eq_true rfl)
  rw [lg_entry_eq]
  generalize (lg_sl ([.ref (Q 5), .int a0]) ++ List.replicate (2 - (lg_sl ([.ref (Q 5), .int a0])).length) Slot.unset).toArray = ls at hl ⊢
  have hl : lv_has ls 2 [(0, .ref (Q 5)), (1, .int a0)] := hl
  unfold x_X2_isSeed at hF
  refine lv_aload_n hx hb dX2_isSeed_0 rfl (lv_at hl 0 rfl) ?_
  refine cg_X2_9 hC hH dX2_isSeed_1 ?_
  refine lv_iload_n hx hb dX2_isSeed_4 rfl (lv_at hl 1 rfl) ?_
  refine lv_iconst (v := 4) hx hb dX2_isSeed_5 (by decide) ?_
  obtain ⟨r_1, u_2, h_3, hF⟩ := ncl_some hF
  refine ccS_i (As := [.int a0, .int 4]) (rest := [.ref (Q 1)]) hC hH (n_X1_ofFighter l G Z Q _ T u u_2 r_1 a0 4 _ h_3) ⟨wkc_X1_ofFighter, wka239, wka436, wka745⟩ kSX1_ofFighter ⟨Nat.le_of_ble_eq_true rfl, Nat.le_of_ble_eq_true rfl⟩ rfl hl.1 rfl (Nat.le_of_ble_eq_true rfl) dX2_isSeed_6 (fun D H locs hH => ?_)
  refine bat (i := 1) (j := 11) hC hH rfl rfl (by decide) wka236 ⟨Nat.le_of_ble_eq_true rfl, Nat.le_of_ble_eq_true rfl⟩ hl.1 (Nat.le_of_ble_eq_true rfl) ⟨Nat.zero_le _, Nat.zero_le _⟩ dX2_isSeed_9 ?_
  obtain ⟨x_4, u_5, h_6, hF⟩ := ncl_some hF
  obtain ⟨e_7, rfl⟩ := nGT_eq h_6
  refine gx_ti e_7 ?_
  refine lv_if_le (tgt := 19) hx hb dX2_isSeed_12 (by decide) (fun c_8 => ?_) (fun c_8 => ?_)
  · rw [if_pos c_8] at hF
    refine lv_iconst (v := 0) hx hb dX2_isSeed_19 (by decide) ?_
    exact cr_z hC hH hr rfl (nrt_eq hF) dX2_isSeed_20 hlocks
  · rw [if_neg c_8] at hF
    refine lv_iconst (v := 1) hx hb dX2_isSeed_15 (by decide) ?_
    refine lv_goto (tgt := 20) hx hb dX2_isSeed_16 (by decide) ?_
    exact cr_z hC hH hr rfl (nrt_eq hF) dX2_isSeed_20 hlocks
def xl_X2_largestClub_4 : Nat → Int32 → Int32 → (Int32 → Int32 → NG Int32) → NG Int32
  | 0, _, _, _ => fun _ => none
  | n4 + 1, v1, v2, K4_37 => (if 16 ≤ v2 then K4_37 v1 v2 else ncl (nGT 12 16 v2) (fun x_2 => ncl (nGT 12 16 v1) (fun x_6 => (if x_2 ≤ x_6 then nli (v2 + 1) (fun x_11 => xl_X2_largestClub_4 n4 v1 x_11 K4_37) else nli (v2 + 1) (fun x_13 => xl_X2_largestClub_4 n4 v2 x_13 K4_37)))))
def x_X2_largestClub : NG Int32 := xl_X2_largestClub_4 fuel 0 1 (fun v1 v2 => nrt v1)
set_option maxHeartbeats 4000000 in
set_option maxRecDepth 100000 in
theorem n_X2_largestClub (l : Launch) (G : gG) (Z : gC) (Q : Nat → Nat) (D : Nat × Nat) (T : va_W) (u u1 : MS) (r : Int32) (sz : Nat) (hF : x_X2_largestClub u = some (r, u1)) : Met l yX2_largestClub (Cond.code yX2_largestClub cX2_largestClub 3 (some .int) :: wK) { frames := 1, cells := 0, slots := 0, locals := 22 } (va_Pc [.ref (Q 5)] (cPM G Z Q D T u sz)) (cQi G Q T u1 r (va_A (cW G Q D T u) sz)) 0 0 (va_A (cW G Q D T u) sz) := by
  refine Met.ofW (cc := cX2_largestClub) (maxL := 3) (ret := (some .int)) (by decide) rfl ?_
  intro p e s m args below meth c s₁ B hml hv
  obtain ⟨rfl, rfl, hP, hB, hD0, hE⟩ := hv
  have hr := B.returns
  have hlocks := B.notSynchronized
  have hts := atoms_spec (ws := Cond.code yX2_largestClub cX2_largestClub 3 (some .int) :: wK) B.pre
  have hD := hD0.self (sz := s.heap.size)
  have hA : ∀ q : Nat, s.heap.size ≤ q → va_A (cW G Q D T u) s.heap.size q := fun q h => Or.inr h
  generalize va_A (cW G Q D T u) s.heap.size = A at hD hA hE ⊢
  have hC : cX p c cX2_largestClub 3 s m _ RX2 G Z A := ⟨B.exec, B.bytes, hml, findClass_of_methodNamed B.named, fun w h => hts w (List.mem_cons_of_mem _ h), hB, hE, hA⟩
  have hx := hC.1
  have hb := hC.2.1
  have hH : cH G Q D T A u s s.heap [] := ⟨hP, hD, va_S.rf⟩
  have hl := lv_entry ([.ref (Q 5)]) (n := 3) (Nat.le_of_ble_eq_true rfl)
  rw [lg_entry_eq]
  generalize (lg_sl ([.ref (Q 5)]) ++ List.replicate (3 - (lg_sl ([.ref (Q 5)])).length) Slot.unset).toArray = ls at hl ⊢
  have hl : lv_has ls 3 [(0, .ref (Q 5))] := hl
  unfold x_X2_largestClub at hF
  refine lv_iconst (v := 0) hx hb dX2_largestClub_0 (by decide) ?_
  refine lv_istore_n (lv' := [(1, .int 0), (0, .ref (Q 5))]) hx hb dX2_largestClub_1 rfl hl (by decide) rfl (fun ls hl => ?_)
  refine lv_iconst (v := 1) hx hb dX2_largestClub_2 (by decide) ?_
  refine lv_istore_n (lv' := [(2, .int 1), (1, .int 0), (0, .ref (Q 5))]) hx hb dX2_largestClub_3 rfl hl (by decide) rfl (fun ls hl => ?_)
  have hL4 : ∀ (K4_37 : Int32 → Int32 → NG Int32), (∀ (v1 v2 : Int32) (u : MS) (D : Nat × Nat) (H : Heap) (locs : List Loc) (ls : Array Slot), lv_has ls 3 [(0, .ref (Q 5)), (1, .int v1), (2, .int v2)] → cH G Q D T A u s H locs → K4_37 v1 v2 u = some (r, u1) → W p l e (headSpec (Cond.code yX2_largestClub cX2_largestClub 3 (some .int) :: wK) { frames := 1, cells := 0, slots := 0, locals := 22 }).room s m [.ref (Q 5)].toArray below meth c H locs 0 0 (MQ below (cQi G Q T u1 r A) [.ref (Q 5)].toArray s 0 0 A) (F0 m 37 ls [])) → ∀ (n4 : Nat) (v1 v2 : Int32) (u : MS) (D : Nat × Nat) (H : Heap) (locs : List Loc) (ls : Array Slot), lv_has ls 3 [(0, .ref (Q 5)), (1, .int v1), (2, .int v2)] → cH G Q D T A u s H locs → xl_X2_largestClub_4 n4 v1 v2 K4_37 u = some (r, u1) → W p l e (headSpec (Cond.code yX2_largestClub cX2_largestClub 3 (some .int) :: wK) { frames := 1, cells := 0, slots := 0, locals := 22 }).room s m [.ref (Q 5)].toArray below meth c H locs 0 0 (MQ below (cQi G Q T u1 r A) [.ref (Q 5)].toArray s 0 0 A) (F0 m 4 ls []) := by
    intro K4_37 hK4_37 n4
    induction n4 with
    | zero => intro v1 v2 u D H locs ls hl hH hF; cases hF
    | succ n4 ih4 =>
      intro v1 v2 u D H locs ls hl hH hF
      unfold xl_X2_largestClub_4 at hF
      refine lv_iload_n hx hb dX2_largestClub_4 rfl (lv_at hl 2 rfl) ?_
      refine lv_bipush (v := 16) hx hb dX2_largestClub_5 (by decide) ?_
      refine lv_icmp_ge (tgt := 37) hx hb dX2_largestClub_7 (by decide) (fun c_1 => ?_) (fun c_1 => ?_)
      · rw [if_pos c_1] at hF
        exact hK4_37 v1 v2 u _ _ _ _ (lv_sub hl [0, 1, 2] rfl) hH hF
      · rw [if_neg c_1] at hF
        refine lv_aload_n hx hb dX2_largestClub_10 rfl (lv_at hl 0 rfl) ?_
        refine cg_X2_24 hC hH dX2_largestClub_11 ?_
        refine lv_iload_n hx hb dX2_largestClub_14 rfl (lv_at hl 2 rfl) ?_
        refine rg_11 hC hH wka242 ⟨Nat.le_of_ble_eq_true rfl, Nat.le_of_ble_eq_true rfl⟩ hl.1 (Nat.le_of_ble_eq_true rfl) ⟨Nat.zero_le _, Nat.zero_le _⟩ dX2_largestClub_15 ?_
        obtain ⟨x_2, u_3, h_4, hF⟩ := ncl_some hF
        obtain ⟨e_5, rfl⟩ := nGT_eq h_4
        refine gx_ti e_5 ?_
        refine lv_aload_n hx hb dX2_largestClub_18 rfl (lv_at hl 0 rfl) ?_
        refine cg_X2_24 hC hH dX2_largestClub_19 ?_
        refine lv_iload_n hx hb dX2_largestClub_22 rfl (lv_at hl 1 rfl) ?_
        refine rg_11 hC hH wka242 ⟨Nat.le_of_ble_eq_true rfl, Nat.le_of_ble_eq_true rfl⟩ hl.1 (Nat.le_of_ble_eq_true rfl) ⟨Nat.zero_le _, Nat.zero_le _⟩ dX2_largestClub_23 ?_
        obtain ⟨x_6, u_7, h_8, hF⟩ := ncl_some hF
        obtain ⟨e_9, rfl⟩ := nGT_eq h_8
        refine gx_ti e_9 ?_
        refine lv_icmp_le (tgt := 31) hx hb dX2_largestClub_26 (by decide) (fun c_10 => ?_) (fun c_10 => ?_)
        · rw [if_pos c_10] at hF
          obtain ⟨x_11, e_12, hF⟩ := nli_some hF
          refine lv_iinc (v := x_11) (lv' := [(2, .int x_11), (0, .ref (Q 5)), (1, .int v1)]) hx hb dX2_largestClub_31 hl (k := 2) rfl e_12 (by decide) rfl (fun ls hl => ?_)
          refine lv_goto (tgt := 4) hx hb dX2_largestClub_34 (by decide) ?_
          exact ih4 v1 x_11 u _ _ _ _ (lv_sub hl [1, 2, 0] rfl) hH hF
        · rw [if_neg c_10] at hF
          refine lv_iload_n hx hb dX2_largestClub_29 rfl (lv_at hl 2 rfl) ?_
          refine lv_istore_n (lv' := [(1, .int v2), (0, .ref (Q 5)), (2, .int v2)]) hx hb dX2_largestClub_30 rfl hl (by decide) rfl (fun ls hl => ?_)
          obtain ⟨x_13, e_14, hF⟩ := nli_some hF
          refine lv_iinc (v := x_13) (lv' := [(2, .int x_13), (1, .int v2), (0, .ref (Q 5))]) hx hb dX2_largestClub_31 hl (k := 2) rfl e_14 (by decide) rfl (fun ls hl => ?_)
          refine lv_goto (tgt := 4) hx hb dX2_largestClub_34 (by decide) ?_
          exact ih4 v2 x_13 u _ _ _ _ (lv_sub hl [2, 1, 0] rfl) hH hF
  refine hL4 _ (fun v1 v2 u D H locs ls hl hH hF => ?_) fuel 0 1 u _ _ _ _ (lv_sub hl [2, 1, 0] rfl) hH hF
  refine lv_iload_n hx hb dX2_largestClub_37 rfl (lv_at hl 1 rfl) ?_
  exact cr_i hC hH hr (nrt_eq hF) dX2_largestClub_38 hlocks
def xl_X2_meetingRound_8 : Nat → Int32 → Int32 → Int32 → Int32 → (Int32 → Int32 → Int32 → Int32 → NG Int32) → NG Int32
  | 0, _, _, _, _, _ => fun _ => none
  | n8 + 1, v0, v1, v2, v3, K8_22 => (if v3 ≤ 0 then K8_22 v0 v1 v2 v3 else nli (v2 + 1) (fun x_4 => nli (v3 >>> (1 &&& 31)) (fun x_6 => xl_X2_meetingRound_8 n8 v0 v1 x_4 x_6 K8_22)))
def x_X2_meetingRound (a0 : Int32) (a1 : Int32) : NG Int32 := nli ((a0 ^^^ a1) >>> (1 &&& 31)) (fun x_1 => xl_X2_meetingRound_8 fuel a0 a1 0 x_1 (fun v0 v1 v2 v3 => nrt v2))
set_option maxHeartbeats 4000000 in
set_option maxRecDepth 100000 in
theorem n_X2_meetingRound (l : Launch) (G : gG) (Z : gC) (Q : Nat → Nat) (D : Nat × Nat) (T : va_W) (u u1 : MS) (r : Int32) (a0 : Int32) (a1 : Int32) (sz : Nat) (hF : x_X2_meetingRound a0 a1 u = some (r, u1)) : Met l yX2_meetingRound (Cond.code yX2_meetingRound cX2_meetingRound 4 (some .int) :: wK) { frames := 0, cells := 0, slots := 0, locals := 0 } (va_Pc [.int a0, .int a1] (cPM G Z Q D T u sz)) (cQi G Q T u1 r (va_A (cW G Q D T u) sz)) 0 0 (va_A (cW G Q D T u) sz) := by
  refine Met.ofW (cc := cX2_meetingRound) (maxL := 4) (ret := (some .int)) (by decide) rfl ?_
  intro p e s m args below meth c s₁ B hml hv
  obtain ⟨rfl, rfl, hP, hB, hD0, hE⟩ := hv
  have hr := B.returns
  have hlocks := B.notSynchronized
  have hts := atoms_spec (ws := Cond.code yX2_meetingRound cX2_meetingRound 4 (some .int) :: wK) B.pre
  have hD := hD0.self (sz := s.heap.size)
  have hA : ∀ q : Nat, s.heap.size ≤ q → va_A (cW G Q D T u) s.heap.size q := fun q h => Or.inr h
  generalize va_A (cW G Q D T u) s.heap.size = A at hD hA hE ⊢
  have hC : cX p c cX2_meetingRound 4 s m _ RX2 G Z A := ⟨B.exec, B.bytes, hml, findClass_of_methodNamed B.named, fun w h => hts w (List.mem_cons_of_mem _ h), hB, hE, hA⟩
  have hx := hC.1
  have hb := hC.2.1
  have hH : cH G Q D T A u s s.heap [] := ⟨hP, hD, va_S.rf⟩
  have hl := lv_entry ([.int a0, .int a1]) (n := 4) (Nat.le_of_ble_eq_true rfl)
  rw [lg_entry_eq]
  generalize (lg_sl ([.int a0, .int a1]) ++ List.replicate (4 - (lg_sl ([.int a0, .int a1])).length) Slot.unset).toArray = ls at hl ⊢
  have hl : lv_has ls 4 [(0, .int a0), (1, .int a1)] := hl
  unfold x_X2_meetingRound at hF
  refine lv_iconst (v := 0) hx hb dX2_meetingRound_0 (by decide) ?_
  refine lv_istore_n (lv' := [(2, .int 0), (0, .int a0), (1, .int a1)]) hx hb dX2_meetingRound_1 rfl hl (by decide) rfl (fun ls hl => ?_)
  refine lv_iload_n hx hb dX2_meetingRound_2 rfl (lv_at hl 1 rfl) ?_
  refine lv_iload_n hx hb dX2_meetingRound_3 rfl (lv_at hl 2 rfl) ?_
  refine lv_ixor hx hb dX2_meetingRound_4 ?_
  refine lv_iconst (v := 1) hx hb dX2_meetingRound_5 (by decide) ?_
  refine lv_ishr hx hb dX2_meetingRound_6 ?_
  obtain ⟨x_1, e_2, hF⟩ := nli_some hF
  refine gx_ti e_2 ?_
  refine lv_istore_n (lv' := [(3, .int x_1), (2, .int 0), (0, .int a0), (1, .int a1)]) hx hb dX2_meetingRound_7 rfl hl (by decide) rfl (fun ls hl => ?_)
  have hL8 : ∀ (K8_22 : Int32 → Int32 → Int32 → Int32 → NG Int32), (∀ (v0 v1 v2 v3 : Int32) (u : MS) (D : Nat × Nat) (H : Heap) (locs : List Loc) (ls : Array Slot), lv_has ls 4 [(0, .int v0), (1, .int v1), (2, .int v2), (3, .int v3)] → cH G Q D T A u s H locs → K8_22 v0 v1 v2 v3 u = some (r, u1) → W p l e (headSpec (Cond.code yX2_meetingRound cX2_meetingRound 4 (some .int) :: wK) { frames := 0, cells := 0, slots := 0, locals := 0 }).room s m [.int a0, .int a1].toArray below meth c H locs 0 0 (MQ below (cQi G Q T u1 r A) [.int a0, .int a1].toArray s 0 0 A) (F0 m 22 ls [])) → ∀ (n8 : Nat) (v0 v1 v2 v3 : Int32) (u : MS) (D : Nat × Nat) (H : Heap) (locs : List Loc) (ls : Array Slot), lv_has ls 4 [(0, .int v0), (1, .int v1), (2, .int v2), (3, .int v3)] → cH G Q D T A u s H locs → xl_X2_meetingRound_8 n8 v0 v1 v2 v3 K8_22 u = some (r, u1) → W p l e (headSpec (Cond.code yX2_meetingRound cX2_meetingRound 4 (some .int) :: wK) { frames := 0, cells := 0, slots := 0, locals := 0 }).room s m [.int a0, .int a1].toArray below meth c H locs 0 0 (MQ below (cQi G Q T u1 r A) [.int a0, .int a1].toArray s 0 0 A) (F0 m 8 ls []) := by
    intro K8_22 hK8_22 n8
    induction n8 with
    | zero => intro v0 v1 v2 v3 u D H locs ls hl hH hF; cases hF
    | succ n8 ih8 =>
      intro v0 v1 v2 v3 u D H locs ls hl hH hF
      unfold xl_X2_meetingRound_8 at hF
      refine lv_iload_n hx hb dX2_meetingRound_8 rfl (lv_at hl 3 rfl) ?_
      refine lv_if_le (tgt := 22) hx hb dX2_meetingRound_9 (by decide) (fun c_3 => ?_) (fun c_3 => ?_)
      · rw [if_pos c_3] at hF
        exact hK8_22 v0 v1 v2 v3 u _ _ _ _ (lv_sub hl [0, 1, 2, 3] rfl) hH hF
      · rw [if_neg c_3] at hF
        obtain ⟨x_4, e_5, hF⟩ := nli_some hF
        refine lv_iinc (v := x_4) (lv' := [(2, .int x_4), (0, .int v0), (1, .int v1), (3, .int v3)]) hx hb dX2_meetingRound_12 hl (k := 2) rfl e_5 (by decide) rfl (fun ls hl => ?_)
        refine lv_iload_n hx hb dX2_meetingRound_15 rfl (lv_at hl 3 rfl) ?_
        refine lv_iconst (v := 1) hx hb dX2_meetingRound_16 (by decide) ?_
        refine lv_ishr hx hb dX2_meetingRound_17 ?_
        obtain ⟨x_6, e_7, hF⟩ := nli_some hF
        refine gx_ti e_7 ?_
        refine lv_istore_n (lv' := [(3, .int x_6), (2, .int x_4), (0, .int v0), (1, .int v1)]) hx hb dX2_meetingRound_18 rfl hl (by decide) rfl (fun ls hl => ?_)
        refine lv_goto (tgt := 8) hx hb dX2_meetingRound_19 (by decide) ?_
        exact ih8 v0 v1 x_4 x_6 u _ _ _ _ (lv_sub hl [2, 3, 1, 0] rfl) hH hF
  refine hL8 _ (fun v0 v1 v2 v3 u D H locs ls hl hH hF => ?_) fuel a0 a1 0 x_1 u _ _ _ _ (lv_sub hl [2, 3, 1, 0] rfl) hH hF
  refine lv_iload_n hx hb dX2_meetingRound_22 rfl (lv_at hl 2 rfl) ?_
  exact cr_i hC hH hr (nrt_eq hF) dX2_meetingRound_23 hlocks
def xl_X2_firstMeeting_21 : Nat → Int32 → Int32 → Int32 → Int32 → Int32 → Int32 → (Int32 → Int32 → Int32 → Int32 → Int32 → Int32 → NG Int32) → NG Int32
  | 0, _, _, _, _, _, _, _ => fun _ => none
  | n21 + 1, v1, v2, v3, v4, v5, v6, K21_87 => (if v5 ≤ v6 then K21_87 v1 v2 v3 v4 v5 v6 else ncl (x_X1_ofClass v1 (4 + v6)) (fun r_9 => ncl (nGT 0 2088 r_9) (fun x_12 => (if x_12 = (-1) then nli (v6 + 1) (fun x_17 => xl_X2_firstMeeting_21 n21 v1 v2 v3 v4 v5 x_17 K21_87) else ncl (x_X1_ofFighter x_12 1) (fun r_19 => ncl (nGT 0 2088 r_19) (fun x_22 => (if x_22 = v2 then ncl (x_X2_meetingRound v3 v6) (fun r_29 => nli (if r_29 < v4 then r_29 else v4) (fun x_32 => nli (v6 + 1) (fun x_34 => xl_X2_firstMeeting_21 n21 v1 v2 v3 x_32 v5 x_34 K21_87))) else nli (v6 + 1) (fun x_27 => xl_X2_firstMeeting_21 n21 v1 v2 v3 v4 v5 x_27 K21_87))))))))
def x_X2_firstMeeting (a0 : Int32) (a1 : Int32) (a2 : Int32) : NG Int32 := ncl (x_X1_ofClass a0 3) (fun r_1 => ncl (nGT 0 2088 r_1) (fun x_4 => xl_X2_firstMeeting_21 fuel a0 a1 a2 99 x_4 0 (fun v1 v2 v3 v4 v5 v6 => nrt v4)))
set_option maxHeartbeats 4000000 in
set_option maxRecDepth 100000 in
theorem n_X2_firstMeeting (l : Launch) (G : gG) (Z : gC) (Q : Nat → Nat) (D : Nat × Nat) (T : va_W) (u u1 : MS) (r : Int32) (a0 : Int32) (a1 : Int32) (a2 : Int32) (sz : Nat) (hF : x_X2_firstMeeting a0 a1 a2 u = some (r, u1)) : Met l yX2_firstMeeting (Cond.code yX2_firstMeeting cX2_firstMeeting 8 (some .int) :: wK) { frames := 1, cells := 0, slots := 0, locals := 23 } (va_Pc [.ref (Q 5), .int a0, .int a1, .int a2] (cPM G Z Q D T u sz)) (cQi G Q T u1 r (va_A (cW G Q D T u) sz)) 0 0 (va_A (cW G Q D T u) sz) := by
  refine Met.ofW (cc := cX2_firstMeeting) (maxL := 8) (ret := (some .int)) (by decide) rfl ?_
  intro p e s m args below meth c s₁ B hml hv
  obtain ⟨rfl, rfl, hP, hB, hD0, hE⟩ := hv
  have hr := B.returns
  have hlocks := B.notSynchronized
  have hts := atoms_spec (ws := Cond.code yX2_firstMeeting cX2_firstMeeting 8 (some .int) :: wK) B.pre
  have hD := hD0.self (sz := s.heap.size)
  have hA : ∀ q : Nat, s.heap.size ≤ q → va_A (cW G Q D T u) s.heap.size q := fun q h => Or.inr h
  generalize va_A (cW G Q D T u) s.heap.size = A at hD hA hE ⊢
  have hC : cX p c cX2_firstMeeting 8 s m _ RX2 G Z A := ⟨B.exec, B.bytes, hml, findClass_of_methodNamed B.named, fun w h => hts w (List.mem_cons_of_mem _ h), hB, hE, hA⟩
  have hx := hC.1
  have hb := hC.2.1
  have hH : cH G Q D T A u s s.heap [] := ⟨hP, hD, va_S.rf⟩
  have hl := lv_entry ([.ref (Q 5), .int a0, .int a1, .int a2]) (n := 8) (Nat.le_of_ble_eq_true rfl)
  rw [lg_entry_eq]
  generalize (lg_sl ([.ref (Q 5), .int a0, .int a1, .int a2]) ++ List.replicate (8 - (lg_sl ([.ref (Q 5), .int a0, .int a1, .int a2])).length) Slot.unset).toArray = ls at hl ⊢
  have hl : lv_has ls 8 [(0, .ref (Q 5)), (1, .int a0), (2, .int a1), (3, .int a2)] := hl
  unfold x_X2_firstMeeting at hF
  refine lv_bipush (v := 99) hx hb dX2_firstMeeting_0 (by decide) ?_
  refine lv_istore (lv' := [(4, .int 99), (0, .ref (Q 5)), (1, .int a0), (2, .int a1), (3, .int a2)]) hx hb dX2_firstMeeting_2 hl (by decide) rfl (fun ls hl => ?_)
  refine lv_aload_n hx hb dX2_firstMeeting_4 rfl (lv_at hl 1 rfl) ?_
  refine cg_X2_9 hC hH dX2_firstMeeting_5 ?_
  refine lv_iload_n hx hb dX2_firstMeeting_8 rfl (lv_at hl 2 rfl) ?_
  refine lv_iconst (v := 3) hx hb dX2_firstMeeting_9 (by decide) ?_
  obtain ⟨r_1, u_2, h_3, hF⟩ := ncl_some hF
  refine ccS_i (As := [.int a0, .int 3]) (rest := [.ref (Q 1)]) hC hH (n_X1_ofClass l G Z Q _ T u u_2 r_1 a0 3 _ h_3) ⟨wkc_X1_ofClass, wka233, wka435, wka745⟩ kSX1_ofClass ⟨Nat.le_of_ble_eq_true rfl, Nat.le_of_ble_eq_true rfl⟩ rfl hl.1 rfl (Nat.le_of_ble_eq_true rfl) dX2_firstMeeting_10 (fun D H locs hH => ?_)
  refine bat (i := 1) (j := 11) hC hH rfl rfl (by decide) wka236 ⟨Nat.le_of_ble_eq_true rfl, Nat.le_of_ble_eq_true rfl⟩ hl.1 (Nat.le_of_ble_eq_true rfl) ⟨Nat.zero_le _, Nat.zero_le _⟩ dX2_firstMeeting_13 ?_
  obtain ⟨x_4, u_5, h_6, hF⟩ := ncl_some hF
  obtain ⟨e_7, rfl⟩ := nGT_eq h_6
  refine gx_ti e_7 ?_
  refine lv_istore (lv' := [(5, .int x_4), (4, .int 99), (0, .ref (Q 5)), (1, .int a0), (2, .int a1), (3, .int a2)]) hx hb dX2_firstMeeting_16 hl (by decide) rfl (fun ls hl => ?_)
  refine lv_iconst (v := 0) hx hb dX2_firstMeeting_18 (by decide) ?_
  refine lv_istore (lv' := [(6, .int 0), (5, .int x_4), (4, .int 99), (0, .ref (Q 5)), (1, .int a0), (2, .int a1), (3, .int a2)]) hx hb dX2_firstMeeting_19 hl (by decide) rfl (fun ls hl => ?_)
  have hL21 : ∀ (K21_87 : Int32 → Int32 → Int32 → Int32 → Int32 → Int32 → NG Int32), (∀ (v1 v2 v3 v4 v5 v6 : Int32) (u : MS) (D : Nat × Nat) (H : Heap) (locs : List Loc) (ls : Array Slot), lv_has ls 8 [(0, .ref (Q 5)), (1, .int v1), (2, .int v2), (3, .int v3), (4, .int v4), (5, .int v5), (6, .int v6)] → cH G Q D T A u s H locs → K21_87 v1 v2 v3 v4 v5 v6 u = some (r, u1) → W p l e (headSpec (Cond.code yX2_firstMeeting cX2_firstMeeting 8 (some .int) :: wK) { frames := 1, cells := 0, slots := 0, locals := 23 }).room s m [.ref (Q 5), .int a0, .int a1, .int a2].toArray below meth c H locs 0 0 (MQ below (cQi G Q T u1 r A) [.ref (Q 5), .int a0, .int a1, .int a2].toArray s 0 0 A) (F0 m 87 ls [])) → ∀ (n21 : Nat) (v1 v2 v3 v4 v5 v6 : Int32) (u : MS) (D : Nat × Nat) (H : Heap) (locs : List Loc) (ls : Array Slot), lv_has ls 8 [(0, .ref (Q 5)), (1, .int v1), (2, .int v2), (3, .int v3), (4, .int v4), (5, .int v5), (6, .int v6)] → cH G Q D T A u s H locs → xl_X2_firstMeeting_21 n21 v1 v2 v3 v4 v5 v6 K21_87 u = some (r, u1) → W p l e (headSpec (Cond.code yX2_firstMeeting cX2_firstMeeting 8 (some .int) :: wK) { frames := 1, cells := 0, slots := 0, locals := 23 }).room s m [.ref (Q 5), .int a0, .int a1, .int a2].toArray below meth c H locs 0 0 (MQ below (cQi G Q T u1 r A) [.ref (Q 5), .int a0, .int a1, .int a2].toArray s 0 0 A) (F0 m 21 ls []) := by
    intro K21_87 hK21_87 n21
    induction n21 with
    | zero => intro v1 v2 v3 v4 v5 v6 u D H locs ls hl hH hF; cases hF
    | succ n21 ih21 =>
      intro v1 v2 v3 v4 v5 v6 u D H locs ls hl hH hF
      unfold xl_X2_firstMeeting_21 at hF
      refine lv_iload hx hb dX2_firstMeeting_21 (lv_at hl 6 rfl) ?_
      refine lv_iload hx hb dX2_firstMeeting_23 (lv_at hl 5 rfl) ?_
      refine lv_icmp_ge (tgt := 87) hx hb dX2_firstMeeting_25 (by decide) (fun c_8 => ?_) (fun c_8 => ?_)
      · rw [if_pos c_8] at hF
        exact hK21_87 v1 v2 v3 v4 v5 v6 u _ _ _ _ (lv_sub hl [0, 1, 2, 3, 4, 5, 6] rfl) hH hF
      · rw [if_neg c_8] at hF
        refine lv_aload_n hx hb dX2_firstMeeting_28 rfl (lv_at hl 0 rfl) ?_
        refine cg_X2_9 hC hH dX2_firstMeeting_29 ?_
        refine lv_iload_n hx hb dX2_firstMeeting_32 rfl (lv_at hl 1 rfl) ?_
        refine lv_iconst (v := 4) hx hb dX2_firstMeeting_33 (by decide) ?_
        refine lv_iload hx hb dX2_firstMeeting_34 (lv_at hl 6 rfl) ?_
        refine lv_iadd hx hb dX2_firstMeeting_36 ?_
        obtain ⟨r_9, u_10, h_11, hF⟩ := ncl_some hF
        refine ccS_i (As := [.int v1, .int (4 + v6)]) (rest := [.ref (Q 1)]) hC hH (n_X1_ofClass l G Z Q _ T u u_10 r_9 v1 (4 + v6) _ h_11) ⟨wkc_X1_ofClass, wka233, wka435, wka745⟩ kSX1_ofClass ⟨Nat.le_of_ble_eq_true rfl, Nat.le_of_ble_eq_true rfl⟩ rfl hl.1 rfl (Nat.le_of_ble_eq_true rfl) dX2_firstMeeting_37 (fun D H locs hH => ?_)
        refine bat (i := 1) (j := 11) hC hH rfl rfl (by decide) wka236 ⟨Nat.le_of_ble_eq_true rfl, Nat.le_of_ble_eq_true rfl⟩ hl.1 (Nat.le_of_ble_eq_true rfl) ⟨Nat.zero_le _, Nat.zero_le _⟩ dX2_firstMeeting_40 ?_
        obtain ⟨x_12, u_13, h_14, hF⟩ := ncl_some hF
        obtain ⟨e_15, rfl⟩ := nGT_eq h_14
        refine gx_ti e_15 ?_
        refine lv_istore (lv' := [(7, .int x_12), (0, .ref (Q 5)), (1, .int v1), (2, .int v2), (3, .int v3), (4, .int v4), (5, .int v5), (6, .int v6)]) hx hb dX2_firstMeeting_43 hl (by decide) rfl (fun ls hl => ?_)
        refine lv_iload hx hb dX2_firstMeeting_45 (lv_at hl 0 rfl) ?_
        refine lv_iconst (v := (-1)) hx hb dX2_firstMeeting_47 (by decide) ?_
        refine lv_icmp_eq (tgt := 81) hx hb dX2_firstMeeting_48 (by decide) (fun c_16 => ?_) (fun c_16 => ?_)
        · rw [if_pos c_16] at hF
          obtain ⟨x_17, e_18, hF⟩ := nli_some hF
          refine lv_iinc (v := x_17) (lv' := [(6, .int x_17), (7, .int x_12), (0, .ref (Q 5)), (1, .int v1), (2, .int v2), (3, .int v3), (4, .int v4), (5, .int v5)]) hx hb dX2_firstMeeting_81 hl (k := 7) rfl e_18 (by decide) rfl (fun ls hl => ?_)
          refine lv_goto (tgt := 21) hx hb dX2_firstMeeting_84 (by decide) ?_
          exact ih21 v1 v2 v3 v4 v5 x_17 u_10 _ _ _ _ (lv_sub hl [2, 3, 4, 5, 6, 7, 0] rfl) hH hF
        · rw [if_neg c_16] at hF
          refine lv_aload_n hx hb dX2_firstMeeting_51 rfl (lv_at hl 1 rfl) ?_
          refine cg_X2_9 hC hH dX2_firstMeeting_52 ?_
          refine lv_iload hx hb dX2_firstMeeting_55 (lv_at hl 0 rfl) ?_
          refine lv_iconst (v := 1) hx hb dX2_firstMeeting_57 (by decide) ?_
          obtain ⟨r_19, u_20, h_21, hF⟩ := ncl_some hF
          refine ccS_i (As := [.int x_12, .int 1]) (rest := [.ref (Q 1)]) hC hH (n_X1_ofFighter l G Z Q _ T u_10 u_20 r_19 x_12 1 _ h_21) ⟨wkc_X1_ofFighter, wka239, wka436, wka745⟩ kSX1_ofFighter ⟨Nat.le_of_ble_eq_true rfl, Nat.le_of_ble_eq_true rfl⟩ rfl hl.1 rfl (Nat.le_of_ble_eq_true rfl) dX2_firstMeeting_58 (fun D H locs hH => ?_)
          refine bat (i := 1) (j := 11) hC hH rfl rfl (by decide) wka236 ⟨Nat.le_of_ble_eq_true rfl, Nat.le_of_ble_eq_true rfl⟩ hl.1 (Nat.le_of_ble_eq_true rfl) ⟨Nat.zero_le _, Nat.zero_le _⟩ dX2_firstMeeting_61 ?_
          obtain ⟨x_22, u_23, h_24, hF⟩ := ncl_some hF
          obtain ⟨e_25, rfl⟩ := nGT_eq h_24
          refine gx_ti e_25 ?_
          refine lv_iload_n hx hb dX2_firstMeeting_64 rfl (lv_at hl 3 rfl) ?_
          refine lv_icmp_ne (tgt := 81) hx hb dX2_firstMeeting_65 (by decide) (fun c_26 => ?_) (fun c_26 => ?_)
          · rw [if_neg c_26] at hF
            obtain ⟨x_27, e_28, hF⟩ := nli_some hF
            refine lv_iinc (v := x_27) (lv' := [(6, .int x_27), (7, .int x_12), (0, .ref (Q 5)), (1, .int v1), (2, .int v2), (3, .int v3), (4, .int v4), (5, .int v5)]) hx hb dX2_firstMeeting_81 hl (k := 7) rfl e_28 (by decide) rfl (fun ls hl => ?_)
            refine lv_goto (tgt := 21) hx hb dX2_firstMeeting_84 (by decide) ?_
            exact ih21 v1 v2 v3 v4 v5 x_27 u_20 _ _ _ _ (lv_sub hl [2, 3, 4, 5, 6, 7, 0] rfl) hH hF
          · rw [if_pos c_26] at hF
            refine lv_iload hx hb dX2_firstMeeting_68 (lv_at hl 5 rfl) ?_
            refine lv_iload_n hx hb dX2_firstMeeting_70 rfl (lv_at hl 4 rfl) ?_
            refine lv_iload hx hb dX2_firstMeeting_71 (lv_at hl 7 rfl) ?_
            obtain ⟨r_29, u_30, h_31, hF⟩ := ncl_some hF
            refine ccS_i (As := [.int v3, .int v6]) (rest := [.int v4]) hC hH (n_X2_meetingRound l G Z Q _ T u_20 u_30 r_29 v3 v6 _ h_31) ⟨wkc_X2_meetingRound, wka251, wka470, wka746⟩ kSX2_meetingRound ⟨Nat.le_of_ble_eq_true rfl, Nat.le_of_ble_eq_true rfl⟩ rfl hl.1 rfl (Nat.le_of_ble_eq_true rfl) dX2_firstMeeting_73 (fun D H locs hH => ?_)
            refine va_mmin hx hb (hC.2.2.1.trans hl.1.symm) hC.2.2.2.1 (hC.2.2.2.2.1 _ wka252) (hC.2.2.2.2.1 _ wka758) (hC.2.2.2.2.1 _ wka760) (hC.2.2.2.2.1 _ wka759) (Nat.le_of_ble_eq_true rfl) (Nat.le_of_ble_eq_true rfl) (Nat.le_of_ble_eq_true rfl) (Nat.le_of_ble_eq_true rfl) dX2_firstMeeting_76 ?_
            obtain ⟨x_32, e_33, hF⟩ := nli_some hF
            refine gx_ti e_33 ?_
            refine lv_istore (lv' := [(4, .int x_32), (7, .int x_12), (0, .ref (Q 5)), (1, .int v1), (2, .int v2), (3, .int v3), (5, .int v5), (6, .int v6)]) hx hb dX2_firstMeeting_79 hl (by decide) rfl (fun ls hl => ?_)
            obtain ⟨x_34, e_35, hF⟩ := nli_some hF
            refine lv_iinc (v := x_34) (lv' := [(6, .int x_34), (4, .int x_32), (7, .int x_12), (0, .ref (Q 5)), (1, .int v1), (2, .int v2), (3, .int v3), (5, .int v5)]) hx hb dX2_firstMeeting_81 hl (k := 7) rfl e_35 (by decide) rfl (fun ls hl => ?_)
            refine lv_goto (tgt := 21) hx hb dX2_firstMeeting_84 (by decide) ?_
            exact ih21 v1 v2 v3 x_32 v5 x_34 u_30 _ _ _ _ (lv_sub hl [3, 4, 5, 6, 1, 7, 0] rfl) hH hF
  refine hL21 _ (fun v1 v2 v3 v4 v5 v6 u D H locs ls hl hH hF => ?_) fuel a0 a1 a2 99 x_4 0 u_2 _ _ _ _ (lv_sub hl [3, 4, 5, 6, 2, 1, 0] rfl) hH hF
  refine lv_iload hx hb dX2_firstMeeting_87 (lv_at hl 4 rfl) ?_
  exact cr_i hC hH hr (nrt_eq hF) dX2_firstMeeting_89 hlocks
def xl_X2_bestPlace_9 : Nat → Int32 → Int32 → Int32 → Int32 → Int32 → Int32 → (Int32 → Int32 → Int32 → Int32 → Int32 → Int32 → NG Int32) → NG Int32
  | 0, _, _, _, _, _, _, _ => fun _ => none
  | n9 + 1, v1, v2, v3, v4, v5, v6, K9_76 => (if v3 ≤ v6 then K9_76 v1 v2 v3 v4 v5 v6 else ncl (nGT 11 32 v6) (fun x_2 => ncl (x_X1_ofClass v1 (4 + x_2)) (fun r_6 => ncl (nGT 0 2088 r_6) (fun x_9 => (if x_9 = (-1) then ncl (x_X2_firstMeeting v1 v2 x_2) (fun r_16 => (if r_16 ≤ v5 then nli (v6 + 1) (fun x_20 => xl_X2_bestPlace_9 n9 v1 v2 v3 v4 v5 x_20 K9_76) else nli (v6 + 1) (fun x_22 => xl_X2_bestPlace_9 n9 v1 v2 v3 x_2 r_16 x_22 K9_76))) else nli (v6 + 1) (fun x_14 => xl_X2_bestPlace_9 n9 v1 v2 v3 v4 v5 x_14 K9_76))))))
def x_X2_bestPlace (a0 : Int32) (a1 : Int32) (a2 : Int32) : NG Int32 := xl_X2_bestPlace_9 fuel a0 a1 a2 (-1) (-1) 0 (fun v1 v2 v3 v4 v5 v6 => nrt v4)
set_option maxHeartbeats 4000000 in
set_option maxRecDepth 100000 in
theorem n_X2_bestPlace (l : Launch) (G : gG) (Z : gC) (Q : Nat → Nat) (D : Nat × Nat) (T : va_W) (u u1 : MS) (r : Int32) (a0 : Int32) (a1 : Int32) (a2 : Int32) (sz : Nat) (hF : x_X2_bestPlace a0 a1 a2 u = some (r, u1)) : Met l yX2_bestPlace (Cond.code yX2_bestPlace cX2_bestPlace 9 (some .int) :: wK) { frames := 2, cells := 0, slots := 0, locals := 50 } (va_Pc [.ref (Q 5), .int a0, .int a1, .int a2] (cPM G Z Q D T u sz)) (cQi G Q T u1 r (va_A (cW G Q D T u) sz)) 0 0 (va_A (cW G Q D T u) sz) := by
  refine Met.ofW (cc := cX2_bestPlace) (maxL := 9) (ret := (some .int)) (by decide) rfl ?_
  intro p e s m args below meth c s₁ B hml hv
  obtain ⟨rfl, rfl, hP, hB, hD0, hE⟩ := hv
  have hr := B.returns
  have hlocks := B.notSynchronized
  have hts := atoms_spec (ws := Cond.code yX2_bestPlace cX2_bestPlace 9 (some .int) :: wK) B.pre
  have hD := hD0.self (sz := s.heap.size)
  have hA : ∀ q : Nat, s.heap.size ≤ q → va_A (cW G Q D T u) s.heap.size q := fun q h => Or.inr h
  generalize va_A (cW G Q D T u) s.heap.size = A at hD hA hE ⊢
  have hC : cX p c cX2_bestPlace 9 s m _ RX2 G Z A := ⟨B.exec, B.bytes, hml, findClass_of_methodNamed B.named, fun w h => hts w (List.mem_cons_of_mem _ h), hB, hE, hA⟩
  have hx := hC.1
  have hb := hC.2.1
  have hH : cH G Q D T A u s s.heap [] := ⟨hP, hD, va_S.rf⟩
  have hl := lv_entry ([.ref (Q 5), .int a0, .int a1, .int a2]) (n := 9) (Nat.le_of_ble_eq_true rfl)
  rw [lg_entry_eq]
  generalize (lg_sl ([.ref (Q 5), .int a0, .int a1, .int a2]) ++ List.replicate (9 - (lg_sl ([.ref (Q 5), .int a0, .int a1, .int a2])).length) Slot.unset).toArray = ls at hl ⊢
  have hl : lv_has ls 9 [(0, .ref (Q 5)), (1, .int a0), (2, .int a1), (3, .int a2)] := hl
  unfold x_X2_bestPlace at hF
  refine lv_iconst (v := (-1)) hx hb dX2_bestPlace_0 (by decide) ?_
  refine lv_istore (lv' := [(4, .int (-1)), (0, .ref (Q 5)), (1, .int a0), (2, .int a1), (3, .int a2)]) hx hb dX2_bestPlace_1 hl (by decide) rfl (fun ls hl => ?_)
  refine lv_iconst (v := (-1)) hx hb dX2_bestPlace_3 (by decide) ?_
  refine lv_istore (lv' := [(5, .int (-1)), (4, .int (-1)), (0, .ref (Q 5)), (1, .int a0), (2, .int a1), (3, .int a2)]) hx hb dX2_bestPlace_4 hl (by decide) rfl (fun ls hl => ?_)
  refine lv_iconst (v := 0) hx hb dX2_bestPlace_6 (by decide) ?_
  refine lv_istore (lv' := [(6, .int 0), (5, .int (-1)), (4, .int (-1)), (0, .ref (Q 5)), (1, .int a0), (2, .int a1), (3, .int a2)]) hx hb dX2_bestPlace_7 hl (by decide) rfl (fun ls hl => ?_)
  have hL9 : ∀ (K9_76 : Int32 → Int32 → Int32 → Int32 → Int32 → Int32 → NG Int32), (∀ (v1 v2 v3 v4 v5 v6 : Int32) (u : MS) (D : Nat × Nat) (H : Heap) (locs : List Loc) (ls : Array Slot), lv_has ls 9 [(0, .ref (Q 5)), (1, .int v1), (2, .int v2), (3, .int v3), (4, .int v4), (5, .int v5), (6, .int v6)] → cH G Q D T A u s H locs → K9_76 v1 v2 v3 v4 v5 v6 u = some (r, u1) → W p l e (headSpec (Cond.code yX2_bestPlace cX2_bestPlace 9 (some .int) :: wK) { frames := 2, cells := 0, slots := 0, locals := 50 }).room s m [.ref (Q 5), .int a0, .int a1, .int a2].toArray below meth c H locs 0 0 (MQ below (cQi G Q T u1 r A) [.ref (Q 5), .int a0, .int a1, .int a2].toArray s 0 0 A) (F0 m 76 ls [])) → ∀ (n9 : Nat) (v1 v2 v3 v4 v5 v6 : Int32) (u : MS) (D : Nat × Nat) (H : Heap) (locs : List Loc) (ls : Array Slot), lv_has ls 9 [(0, .ref (Q 5)), (1, .int v1), (2, .int v2), (3, .int v3), (4, .int v4), (5, .int v5), (6, .int v6)] → cH G Q D T A u s H locs → xl_X2_bestPlace_9 n9 v1 v2 v3 v4 v5 v6 K9_76 u = some (r, u1) → W p l e (headSpec (Cond.code yX2_bestPlace cX2_bestPlace 9 (some .int) :: wK) { frames := 2, cells := 0, slots := 0, locals := 50 }).room s m [.ref (Q 5), .int a0, .int a1, .int a2].toArray below meth c H locs 0 0 (MQ below (cQi G Q T u1 r A) [.ref (Q 5), .int a0, .int a1, .int a2].toArray s 0 0 A) (F0 m 9 ls []) := by
    intro K9_76 hK9_76 n9
    induction n9 with
    | zero => intro v1 v2 v3 v4 v5 v6 u D H locs ls hl hH hF; cases hF
    | succ n9 ih9 =>
      intro v1 v2 v3 v4 v5 v6 u D H locs ls hl hH hF
      unfold xl_X2_bestPlace_9 at hF
      refine lv_iload hx hb dX2_bestPlace_9 (lv_at hl 6 rfl) ?_
      refine lv_iload_n hx hb dX2_bestPlace_11 rfl (lv_at hl 3 rfl) ?_
      refine lv_icmp_ge (tgt := 76) hx hb dX2_bestPlace_12 (by decide) (fun c_1 => ?_) (fun c_1 => ?_)
      · rw [if_pos c_1] at hF
        exact hK9_76 v1 v2 v3 v4 v5 v6 u _ _ _ _ (lv_sub hl [0, 1, 2, 3, 4, 5, 6] rfl) hH hF
      · rw [if_neg c_1] at hF
        refine lv_aload_n hx hb dX2_bestPlace_15 rfl (lv_at hl 0 rfl) ?_
        refine cg_X2_20 hC hH dX2_bestPlace_16 ?_
        refine lv_iload hx hb dX2_bestPlace_19 (lv_at hl 6 rfl) ?_
        refine rg_10 hC hH wka242 ⟨Nat.le_of_ble_eq_true rfl, Nat.le_of_ble_eq_true rfl⟩ hl.1 (Nat.le_of_ble_eq_true rfl) ⟨Nat.zero_le _, Nat.zero_le _⟩ dX2_bestPlace_21 ?_
        obtain ⟨x_2, u_3, h_4, hF⟩ := ncl_some hF
        obtain ⟨e_5, rfl⟩ := nGT_eq h_4
        refine gx_ti e_5 ?_
        refine lv_istore (lv' := [(7, .int x_2), (0, .ref (Q 5)), (1, .int v1), (2, .int v2), (3, .int v3), (4, .int v4), (5, .int v5), (6, .int v6)]) hx hb dX2_bestPlace_24 hl (by decide) rfl (fun ls hl => ?_)
        refine lv_aload_n hx hb dX2_bestPlace_26 rfl (lv_at hl 1 rfl) ?_
        refine cg_X2_9 hC hH dX2_bestPlace_27 ?_
        refine lv_iload_n hx hb dX2_bestPlace_30 rfl (lv_at hl 2 rfl) ?_
        refine lv_iconst (v := 4) hx hb dX2_bestPlace_31 (by decide) ?_
        refine lv_iload hx hb dX2_bestPlace_32 (lv_at hl 0 rfl) ?_
        refine lv_iadd hx hb dX2_bestPlace_34 ?_
        obtain ⟨r_6, u_7, h_8, hF⟩ := ncl_some hF
        refine ccS_i (As := [.int v1, .int (4 + x_2)]) (rest := [.ref (Q 1)]) hC hH (n_X1_ofClass l G Z Q _ T u u_7 r_6 v1 (4 + x_2) _ h_8) ⟨wkc_X1_ofClass, wka233, wka435, wka745⟩ kSX1_ofClass ⟨Nat.le_of_ble_eq_true rfl, Nat.le_of_ble_eq_true rfl⟩ rfl hl.1 rfl (Nat.le_of_ble_eq_true rfl) dX2_bestPlace_35 (fun D H locs hH => ?_)
        refine bat (i := 1) (j := 11) hC hH rfl rfl (by decide) wka236 ⟨Nat.le_of_ble_eq_true rfl, Nat.le_of_ble_eq_true rfl⟩ hl.1 (Nat.le_of_ble_eq_true rfl) ⟨Nat.zero_le _, Nat.zero_le _⟩ dX2_bestPlace_38 ?_
        obtain ⟨x_9, u_10, h_11, hF⟩ := ncl_some hF
        obtain ⟨e_12, rfl⟩ := nGT_eq h_11
        refine gx_ti e_12 ?_
        refine lv_iconst (v := (-1)) hx hb dX2_bestPlace_41 (by decide) ?_
        refine lv_icmp_ne (tgt := 70) hx hb dX2_bestPlace_42 (by decide) (fun c_13 => ?_) (fun c_13 => ?_)
        · rw [if_neg c_13] at hF
          obtain ⟨x_14, e_15, hF⟩ := nli_some hF
          refine lv_iinc (v := x_14) (lv' := [(6, .int x_14), (7, .int x_2), (0, .ref (Q 5)), (1, .int v1), (2, .int v2), (3, .int v3), (4, .int v4), (5, .int v5)]) hx hb dX2_bestPlace_70 hl (k := 7) rfl e_15 (by decide) rfl (fun ls hl => ?_)
          refine lv_goto (tgt := 9) hx hb dX2_bestPlace_73 (by decide) ?_
          exact ih9 v1 v2 v3 v4 v5 x_14 u_7 _ _ _ _ (lv_sub hl [2, 3, 4, 5, 6, 7, 0] rfl) hH hF
        · rw [if_pos c_13] at hF
          refine lv_aload_n hx hb dX2_bestPlace_45 rfl (lv_at hl 1 rfl) ?_
          refine lv_iload_n hx hb dX2_bestPlace_46 rfl (lv_at hl 2 rfl) ?_
          refine lv_iload_n hx hb dX2_bestPlace_47 rfl (lv_at hl 3 rfl) ?_
          refine lv_iload hx hb dX2_bestPlace_48 (lv_at hl 0 rfl) ?_
          obtain ⟨r_16, u_17, h_18, hF⟩ := ncl_some hF
          refine ccV_i (q0 := 5) (As := [.int v1, .int v2, .int x_2]) (rest := []) hC hH (n_X2_firstMeeting l G Z Q _ T u_7 u_17 r_16 v1 v2 x_2 _ h_18) rfl rfl ⟨wkc_X2_firstMeeting, wka250, wka468, wka469, wka746⟩ kVX2_firstMeeting ⟨Nat.le_of_ble_eq_true rfl, Nat.le_of_ble_eq_true rfl⟩ rfl hl.1 rfl (Nat.le_of_ble_eq_true rfl) dX2_bestPlace_50 (fun D H locs hH => ?_)
          refine lv_istore (lv' := [(8, .int r_16), (7, .int x_2), (0, .ref (Q 5)), (1, .int v1), (2, .int v2), (3, .int v3), (4, .int v4), (5, .int v5), (6, .int v6)]) hx hb dX2_bestPlace_53 hl (by decide) rfl (fun ls hl => ?_)
          refine lv_iload hx hb dX2_bestPlace_55 (lv_at hl 0 rfl) ?_
          refine lv_iload hx hb dX2_bestPlace_57 (lv_at hl 7 rfl) ?_
          refine lv_icmp_le (tgt := 70) hx hb dX2_bestPlace_59 (by decide) (fun c_19 => ?_) (fun c_19 => ?_)
          · rw [if_pos c_19] at hF
            obtain ⟨x_20, e_21, hF⟩ := nli_some hF
            refine lv_iinc (v := x_20) (lv' := [(6, .int x_20), (8, .int r_16), (7, .int x_2), (0, .ref (Q 5)), (1, .int v1), (2, .int v2), (3, .int v3), (4, .int v4), (5, .int v5)]) hx hb dX2_bestPlace_70 hl (k := 8) rfl e_21 (by decide) rfl (fun ls hl => ?_)
            refine lv_goto (tgt := 9) hx hb dX2_bestPlace_73 (by decide) ?_
            exact ih9 v1 v2 v3 v4 v5 x_20 u_17 _ _ _ _ (lv_sub hl [3, 4, 5, 6, 7, 8, 0] rfl) hH hF
          · rw [if_neg c_19] at hF
            refine lv_iload hx hb dX2_bestPlace_62 (lv_at hl 0 rfl) ?_
            refine lv_istore (lv' := [(5, .int r_16), (8, .int r_16), (7, .int x_2), (0, .ref (Q 5)), (1, .int v1), (2, .int v2), (3, .int v3), (4, .int v4), (6, .int v6)]) hx hb dX2_bestPlace_64 hl (by decide) rfl (fun ls hl => ?_)
            refine lv_iload hx hb dX2_bestPlace_66 (lv_at hl 2 rfl) ?_
            refine lv_istore (lv' := [(4, .int x_2), (5, .int r_16), (8, .int r_16), (7, .int x_2), (0, .ref (Q 5)), (1, .int v1), (2, .int v2), (3, .int v3), (6, .int v6)]) hx hb dX2_bestPlace_68 hl (by decide) rfl (fun ls hl => ?_)
            obtain ⟨x_22, e_23, hF⟩ := nli_some hF
            refine lv_iinc (v := x_22) (lv' := [(6, .int x_22), (4, .int x_2), (5, .int r_16), (8, .int r_16), (7, .int x_2), (0, .ref (Q 5)), (1, .int v1), (2, .int v2), (3, .int v3)]) hx hb dX2_bestPlace_70 hl (k := 8) rfl e_23 (by decide) rfl (fun ls hl => ?_)
            refine lv_goto (tgt := 9) hx hb dX2_bestPlace_73 (by decide) ?_
            exact ih9 v1 v2 v3 x_2 r_16 x_22 u_17 _ _ _ _ (lv_sub hl [5, 6, 7, 8, 1, 2, 0] rfl) hH hF
  refine hL9 _ (fun v1 v2 v3 v4 v5 v6 u D H locs ls hl hH hF => ?_) fuel a0 a1 a2 (-1) (-1) 0 u _ _ _ _ (lv_sub hl [3, 4, 5, 6, 2, 1, 0] rfl) hH hF
  refine lv_iload hx hb dX2_bestPlace_76 (lv_at hl 4 rfl) ?_
  exact cr_i hC hH hr (nrt_eq hF) dX2_bestPlace_78 hlocks
def x_X3_on (a0 : Int32) (a1 : Int32) : NG Int32 := ncl (x_X1_ofMat a0 a1) (fun r_1 => ncl (nGT 0 2088 r_1) (fun x_4 => nrt x_4))
set_option maxHeartbeats 4000000 in
set_option maxRecDepth 100000 in
theorem n_X3_on (l : Launch) (G : gG) (Z : gC) (Q : Nat → Nat) (D : Nat × Nat) (T : va_W) (u u1 : MS) (r : Int32) (a0 : Int32) (a1 : Int32) (sz : Nat) (hF : x_X3_on a0 a1 u = some (r, u1)) : Met l yX3_on (Cond.code yX3_on cX3_on 3 (some .int) :: wK) { frames := 1, cells := 0, slots := 0, locals := 22 } (va_Pc [.ref (Q 7), .int a0, .int a1] (cPM G Z Q D T u sz)) (cQi G Q T u1 r (va_A (cW G Q D T u) sz)) 0 0 (va_A (cW G Q D T u) sz) := by
  refine Met.ofW (cc := cX3_on) (maxL := 3) (ret := (some .int)) (by decide) rfl ?_
  intro p e s m args below meth c s₁ B hml hv
  obtain ⟨rfl, rfl, hP, hB, hD0, hE⟩ := hv
  have hr := B.returns
  have hlocks := B.notSynchronized
  have hts := atoms_spec (ws := Cond.code yX3_on cX3_on 3 (some .int) :: wK) B.pre
  have hD := hD0.self (sz := s.heap.size)
  have hA : ∀ q : Nat, s.heap.size ≤ q → va_A (cW G Q D T u) s.heap.size q := fun q h => Or.inr h
  generalize va_A (cW G Q D T u) s.heap.size = A at hD hA hE ⊢
  have hC : cX p c cX3_on 3 s m _ RX3 G Z A := ⟨B.exec, B.bytes, hml, findClass_of_methodNamed B.named, fun w h => hts w (List.mem_cons_of_mem _ h), hB, hE, hA⟩
  have hx := hC.1
  have hb := hC.2.1
  have hH : cH G Q D T A u s s.heap [] := ⟨hP, hD, va_S.rf⟩
  have hl := lv_entry ([.ref (Q 7), .int a0, .int a1]) (n := 3) (Nat.le_of_ble_eq_true rfl)
  rw [lg_entry_eq]
  generalize (lg_sl ([.ref (Q 7), .int a0, .int a1]) ++ List.replicate (3 - (lg_sl ([.ref (Q 7), .int a0, .int a1])).length) Slot.unset).toArray = ls at hl ⊢
  have hl : lv_has ls 3 [(0, .ref (Q 7)), (1, .int a0), (2, .int a1)] := hl
  unfold x_X3_on at hF
  refine lv_aload_n hx hb dX3_on_0 rfl (lv_at hl 0 rfl) ?_
  refine cg_X3_9 hC hH dX3_on_1 ?_
  refine lv_iload_n hx hb dX3_on_4 rfl (lv_at hl 1 rfl) ?_
  refine lv_iload_n hx hb dX3_on_5 rfl (lv_at hl 2 rfl) ?_
  obtain ⟨r_1, u_2, h_3, hF⟩ := ncl_some hF
  refine ccS_i (As := [.int a0, .int a1]) (rest := [.ref (Q 1)]) hC hH (n_X1_ofMat l G Z Q _ T u u_2 r_1 a0 a1 _ h_3) ⟨wkc_X1_ofMat, wka144, wka438, wka745⟩ kSX1_ofMat ⟨Nat.le_of_ble_eq_true rfl, Nat.le_of_ble_eq_true rfl⟩ rfl hl.1 rfl (Nat.le_of_ble_eq_true rfl) dX3_on_6 (fun D H locs hH => ?_)
  refine bat (i := 1) (j := 11) hC hH rfl rfl (by decide) wka145 ⟨Nat.le_of_ble_eq_true rfl, Nat.le_of_ble_eq_true rfl⟩ hl.1 (Nat.le_of_ble_eq_true rfl) ⟨Nat.zero_le _, Nat.zero_le _⟩ dX3_on_9 ?_
  obtain ⟨x_4, u_5, h_6, hF⟩ := ncl_some hF
  obtain ⟨e_7, rfl⟩ := nGT_eq h_6
  refine gx_ti e_7 ?_
  exact cr_i hC hH hr (nrt_eq hF) dX3_on_12 hlocks
def x_X3_isFree (a0 : Int32) : NG Int32 := ncl (x_X3_on a0 1) (fun r_1 => (if r_1 = (-1) then nrt 1 else nrt 0))
set_option maxHeartbeats 4000000 in
set_option maxRecDepth 100000 in
theorem n_X3_isFree (l : Launch) (G : gG) (Z : gC) (Q : Nat → Nat) (D : Nat × Nat) (T : va_W) (u u1 : MS) (r : Int32) (a0 : Int32) (sz : Nat) (hF : x_X3_isFree a0 u = some (r, u1)) : Met l yX3_isFree (Cond.code yX3_isFree cX3_isFree 2 (some .boolean) :: wK) { frames := 2, cells := 0, slots := 0, locals := 44 } (va_Pc [.ref (Q 7), .int a0] (cPM G Z Q D T u sz)) (cQi G Q T u1 r (va_A (cW G Q D T u) sz)) 0 0 (va_A (cW G Q D T u) sz) := by
  refine Met.ofW (cc := cX3_isFree) (maxL := 2) (ret := (some .boolean)) (by decide) rfl ?_
  intro p e s m args below meth c s₁ B hml hv
  obtain ⟨rfl, rfl, hP, hB, hD0, hE⟩ := hv
  have hr := B.returns
  have hlocks := B.notSynchronized
  have hts := atoms_spec (ws := Cond.code yX3_isFree cX3_isFree 2 (some .boolean) :: wK) B.pre
  have hD := hD0.self (sz := s.heap.size)
  have hA : ∀ q : Nat, s.heap.size ≤ q → va_A (cW G Q D T u) s.heap.size q := fun q h => Or.inr h
  generalize va_A (cW G Q D T u) s.heap.size = A at hD hA hE ⊢
  have hC : cX p c cX3_isFree 2 s m _ RX3 G Z A := ⟨B.exec, B.bytes, hml, findClass_of_methodNamed B.named, fun w h => hts w (List.mem_cons_of_mem _ h), hB, hE, hA⟩
  have hx := hC.1
  have hb := hC.2.1
  have hH : cH G Q D T A u s s.heap [] := ⟨hP, hD, va_S.rf⟩
  have hl := lv_entry ([.ref (Q 7), .int a0]) (n := 2) (Nat.le_of_ble_eq_true rfl)
  rw [lg_entry_eq]
  generalize (lg_sl ([.ref (Q 7), .int a0]) ++ List.replicate (2 - (lg_sl ([.ref (Q 7), .int a0])).length) Slot.unset).toArray = ls at hl ⊢
  have hl : lv_has ls 2 [(0, .ref (Q 7)), (1, .int a0)] := hl
  unfold x_X3_isFree at hF
  refine lv_aload_n hx hb dX3_isFree_0 rfl (lv_at hl 0 rfl) ?_
  refine lv_iload_n hx hb dX3_isFree_1 rfl (lv_at hl 1 rfl) ?_
  refine lv_iconst (v := 1) hx hb dX3_isFree_2 (by decide) ?_
  obtain ⟨r_1, u_2, h_3, hF⟩ := ncl_some hF
  refine ccV_i (q0 := 7) (As := [.int a0, .int 1]) (rest := []) hC hH (n_X3_on l G Z Q _ T u u_2 r_1 a0 1 _ h_3) rfl rfl ⟨wkc_X3_on, wka143, wka471, wka472, wka747⟩ kVX3_on ⟨Nat.le_of_ble_eq_true rfl, Nat.le_of_ble_eq_true rfl⟩ rfl hl.1 rfl (Nat.le_of_ble_eq_true rfl) dX3_isFree_3 (fun D H locs hH => ?_)
  refine lv_iconst (v := (-1)) hx hb dX3_isFree_6 (by decide) ?_
  refine lv_icmp_ne (tgt := 14) hx hb dX3_isFree_7 (by decide) (fun c_4 => ?_) (fun c_4 => ?_)
  · rw [if_neg c_4] at hF
    refine lv_iconst (v := 0) hx hb dX3_isFree_14 (by decide) ?_
    exact cr_z hC hH hr rfl (nrt_eq hF) dX3_isFree_15 hlocks
  · rw [if_pos c_4] at hF
    refine lv_iconst (v := 1) hx hb dX3_isFree_10 (by decide) ?_
    refine lv_goto (tgt := 15) hx hb dX3_isFree_11 (by decide) ?_
    exact cr_z hC hH hr rfl (nrt_eq hF) dX3_isFree_15 hlocks
def x_X3_classOn (a0 : Int32) : NG Int32 := ncl (x_X3_on a0 0) (fun r_1 => nrt r_1)
set_option maxHeartbeats 4000000 in
set_option maxRecDepth 100000 in
theorem n_X3_classOn (l : Launch) (G : gG) (Z : gC) (Q : Nat → Nat) (D : Nat × Nat) (T : va_W) (u u1 : MS) (r : Int32) (a0 : Int32) (sz : Nat) (hF : x_X3_classOn a0 u = some (r, u1)) : Met l yX3_classOn (Cond.code yX3_classOn cX3_classOn 2 (some .int) :: wK) { frames := 2, cells := 0, slots := 0, locals := 44 } (va_Pc [.ref (Q 7), .int a0] (cPM G Z Q D T u sz)) (cQi G Q T u1 r (va_A (cW G Q D T u) sz)) 0 0 (va_A (cW G Q D T u) sz) := by
  refine Met.ofW (cc := cX3_classOn) (maxL := 2) (ret := (some .int)) (by decide) rfl ?_
  intro p e s m args below meth c s₁ B hml hv
  obtain ⟨rfl, rfl, hP, hB, hD0, hE⟩ := hv
  have hr := B.returns
  have hlocks := B.notSynchronized
  have hts := atoms_spec (ws := Cond.code yX3_classOn cX3_classOn 2 (some .int) :: wK) B.pre
  have hD := hD0.self (sz := s.heap.size)
  have hA : ∀ q : Nat, s.heap.size ≤ q → va_A (cW G Q D T u) s.heap.size q := fun q h => Or.inr h
  generalize va_A (cW G Q D T u) s.heap.size = A at hD hA hE ⊢
  have hC : cX p c cX3_classOn 2 s m _ RX3 G Z A := ⟨B.exec, B.bytes, hml, findClass_of_methodNamed B.named, fun w h => hts w (List.mem_cons_of_mem _ h), hB, hE, hA⟩
  have hx := hC.1
  have hb := hC.2.1
  have hH : cH G Q D T A u s s.heap [] := ⟨hP, hD, va_S.rf⟩
  have hl := lv_entry ([.ref (Q 7), .int a0]) (n := 2) (Nat.le_of_ble_eq_true rfl)
  rw [lg_entry_eq]
  generalize (lg_sl ([.ref (Q 7), .int a0]) ++ List.replicate (2 - (lg_sl ([.ref (Q 7), .int a0])).length) Slot.unset).toArray = ls at hl ⊢
  have hl : lv_has ls 2 [(0, .ref (Q 7)), (1, .int a0)] := hl
  unfold x_X3_classOn at hF
  refine lv_aload_n hx hb dX3_classOn_0 rfl (lv_at hl 0 rfl) ?_
  refine lv_iload_n hx hb dX3_classOn_1 rfl (lv_at hl 1 rfl) ?_
  refine lv_iconst (v := 0) hx hb dX3_classOn_2 (by decide) ?_
  obtain ⟨r_1, u_2, h_3, hF⟩ := ncl_some hF
  refine ccV_i (q0 := 7) (As := [.int a0, .int 0]) (rest := []) hC hH (n_X3_on l G Z Q _ T u u_2 r_1 a0 0 _ h_3) rfl rfl ⟨wkc_X3_on, wka143, wka471, wka472, wka747⟩ kVX3_on ⟨Nat.le_of_ble_eq_true rfl, Nat.le_of_ble_eq_true rfl⟩ rfl hl.1 rfl (Nat.le_of_ble_eq_true rfl) dX3_classOn_3 (fun D H locs hH => ?_)
  exact cr_i hC hH hr (nrt_eq hF) dX3_classOn_6 hlocks
def x_X3_waits (a0 : Int32) : NG Int32 := ncl (x_X3_isFree a0) (fun r_1 => (if r_1 = 0 then ncl (x_X3_on a0 4) (fun r_5 => (if r_5 = 1 then nrt 1 else nrt 0)) else nrt 0))
set_option maxHeartbeats 4000000 in
set_option maxRecDepth 100000 in
theorem n_X3_waits (l : Launch) (G : gG) (Z : gC) (Q : Nat → Nat) (D : Nat × Nat) (T : va_W) (u u1 : MS) (r : Int32) (a0 : Int32) (sz : Nat) (hF : x_X3_waits a0 u = some (r, u1)) : Met l yX3_waits (Cond.code yX3_waits cX3_waits 2 (some .boolean) :: wK) { frames := 3, cells := 0, slots := 0, locals := 65 } (va_Pc [.ref (Q 7), .int a0] (cPM G Z Q D T u sz)) (cQi G Q T u1 r (va_A (cW G Q D T u) sz)) 0 0 (va_A (cW G Q D T u) sz) := by
  refine Met.ofW (cc := cX3_waits) (maxL := 2) (ret := (some .boolean)) (by decide) rfl ?_
  intro p e s m args below meth c s₁ B hml hv
  obtain ⟨rfl, rfl, hP, hB, hD0, hE⟩ := hv
  have hr := B.returns
  have hlocks := B.notSynchronized
  have hts := atoms_spec (ws := Cond.code yX3_waits cX3_waits 2 (some .boolean) :: wK) B.pre
  have hD := hD0.self (sz := s.heap.size)
  have hA : ∀ q : Nat, s.heap.size ≤ q → va_A (cW G Q D T u) s.heap.size q := fun q h => Or.inr h
  generalize va_A (cW G Q D T u) s.heap.size = A at hD hA hE ⊢
  have hC : cX p c cX3_waits 2 s m _ RX3 G Z A := ⟨B.exec, B.bytes, hml, findClass_of_methodNamed B.named, fun w h => hts w (List.mem_cons_of_mem _ h), hB, hE, hA⟩
  have hx := hC.1
  have hb := hC.2.1
  have hH : cH G Q D T A u s s.heap [] := ⟨hP, hD, va_S.rf⟩
  have hl := lv_entry ([.ref (Q 7), .int a0]) (n := 2) (Nat.le_of_ble_eq_true rfl)
  rw [lg_entry_eq]
  generalize (lg_sl ([.ref (Q 7), .int a0]) ++ List.replicate (2 - (lg_sl ([.ref (Q 7), .int a0])).length) Slot.unset).toArray = ls at hl ⊢
  have hl : lv_has ls 2 [(0, .ref (Q 7)), (1, .int a0)] := hl
  unfold x_X3_waits at hF
  refine lv_aload_n hx hb dX3_waits_0 rfl (lv_at hl 0 rfl) ?_
  refine lv_iload_n hx hb dX3_waits_1 rfl (lv_at hl 1 rfl) ?_
  obtain ⟨r_1, u_2, h_3, hF⟩ := ncl_some hF
  refine ccV_i (q0 := 7) (As := [.int a0]) (rest := []) hC hH (n_X3_isFree l G Z Q _ T u u_2 r_1 a0 _ h_3) rfl rfl ⟨wkc_X3_isFree, wka142, wka473, wka474, wka747⟩ kVX3_isFree ⟨Nat.le_of_ble_eq_true rfl, Nat.le_of_ble_eq_true rfl⟩ rfl hl.1 rfl (Nat.le_of_ble_eq_true rfl) dX3_waits_2 (fun D H locs hH => ?_)
  refine lv_if_ne (tgt := 22) hx hb dX3_waits_5 (by decide) (fun c_4 => ?_) (fun c_4 => ?_)
  · rw [if_neg c_4] at hF
    refine lv_iconst (v := 0) hx hb dX3_waits_22 (by decide) ?_
    exact cr_z hC hH hr rfl (nrt_eq hF) dX3_waits_23 hlocks
  · rw [if_pos c_4] at hF
    refine lv_aload_n hx hb dX3_waits_8 rfl (lv_at hl 0 rfl) ?_
    refine lv_iload_n hx hb dX3_waits_9 rfl (lv_at hl 1 rfl) ?_
    refine lv_iconst (v := 4) hx hb dX3_waits_10 (by decide) ?_
    obtain ⟨r_5, u_6, h_7, hF⟩ := ncl_some hF
    refine ccV_i (q0 := 7) (As := [.int a0, .int 4]) (rest := []) hC hH (n_X3_on l G Z Q _ T u_2 u_6 r_5 a0 4 _ h_7) rfl rfl ⟨wkc_X3_on, wka143, wka471, wka472, wka747⟩ kVX3_on ⟨Nat.le_of_ble_eq_true rfl, Nat.le_of_ble_eq_true rfl⟩ rfl hl.1 rfl (Nat.le_of_ble_eq_true rfl) dX3_waits_11 (fun D H locs hH => ?_)
    refine lv_iconst (v := 1) hx hb dX3_waits_14 (by decide) ?_
    refine lv_icmp_ne (tgt := 22) hx hb dX3_waits_15 (by decide) (fun c_8 => ?_) (fun c_8 => ?_)
    · rw [if_neg c_8] at hF
      refine lv_iconst (v := 0) hx hb dX3_waits_22 (by decide) ?_
      exact cr_z hC hH hr rfl (nrt_eq hF) dX3_waits_23 hlocks
    · rw [if_pos c_8] at hF
      refine lv_iconst (v := 1) hx hb dX3_waits_18 (by decide) ?_
      refine lv_goto (tgt := 23) hx hb dX3_waits_19 (by decide) ?_
      exact cr_z hC hH hr rfl (nrt_eq hF) dX3_waits_23 hlocks
def x_X3_goesOn (a0 : Int32) : NG Int32 := ncl (x_X3_isFree a0) (fun r_1 => (if r_1 = 0 then ncl (x_X3_on a0 4) (fun r_5 => (if r_5 = 0 then nrt 1 else nrt 0)) else nrt 0))
set_option maxHeartbeats 4000000 in
set_option maxRecDepth 100000 in
theorem n_X3_goesOn (l : Launch) (G : gG) (Z : gC) (Q : Nat → Nat) (D : Nat × Nat) (T : va_W) (u u1 : MS) (r : Int32) (a0 : Int32) (sz : Nat) (hF : x_X3_goesOn a0 u = some (r, u1)) : Met l yX3_goesOn (Cond.code yX3_goesOn cX3_goesOn 2 (some .boolean) :: wK) { frames := 3, cells := 0, slots := 0, locals := 65 } (va_Pc [.ref (Q 7), .int a0] (cPM G Z Q D T u sz)) (cQi G Q T u1 r (va_A (cW G Q D T u) sz)) 0 0 (va_A (cW G Q D T u) sz) := by
  refine Met.ofW (cc := cX3_goesOn) (maxL := 2) (ret := (some .boolean)) (by decide) rfl ?_
  intro p e s m args below meth c s₁ B hml hv
  obtain ⟨rfl, rfl, hP, hB, hD0, hE⟩ := hv
  have hr := B.returns
  have hlocks := B.notSynchronized
  have hts := atoms_spec (ws := Cond.code yX3_goesOn cX3_goesOn 2 (some .boolean) :: wK) B.pre
  have hD := hD0.self (sz := s.heap.size)
  have hA : ∀ q : Nat, s.heap.size ≤ q → va_A (cW G Q D T u) s.heap.size q := fun q h => Or.inr h
  generalize va_A (cW G Q D T u) s.heap.size = A at hD hA hE ⊢
  have hC : cX p c cX3_goesOn 2 s m _ RX3 G Z A := ⟨B.exec, B.bytes, hml, findClass_of_methodNamed B.named, fun w h => hts w (List.mem_cons_of_mem _ h), hB, hE, hA⟩
  have hx := hC.1
  have hb := hC.2.1
  have hH : cH G Q D T A u s s.heap [] := ⟨hP, hD, va_S.rf⟩
  have hl := lv_entry ([.ref (Q 7), .int a0]) (n := 2) (Nat.le_of_ble_eq_true rfl)
  rw [lg_entry_eq]
  generalize (lg_sl ([.ref (Q 7), .int a0]) ++ List.replicate (2 - (lg_sl ([.ref (Q 7), .int a0])).length) Slot.unset).toArray = ls at hl ⊢
  have hl : lv_has ls 2 [(0, .ref (Q 7)), (1, .int a0)] := hl
  unfold x_X3_goesOn at hF
  refine lv_aload_n hx hb dX3_goesOn_0 rfl (lv_at hl 0 rfl) ?_
  refine lv_iload_n hx hb dX3_goesOn_1 rfl (lv_at hl 1 rfl) ?_
  obtain ⟨r_1, u_2, h_3, hF⟩ := ncl_some hF
  refine ccV_i (q0 := 7) (As := [.int a0]) (rest := []) hC hH (n_X3_isFree l G Z Q _ T u u_2 r_1 a0 _ h_3) rfl rfl ⟨wkc_X3_isFree, wka142, wka473, wka474, wka747⟩ kVX3_isFree ⟨Nat.le_of_ble_eq_true rfl, Nat.le_of_ble_eq_true rfl⟩ rfl hl.1 rfl (Nat.le_of_ble_eq_true rfl) dX3_goesOn_2 (fun D H locs hH => ?_)
  refine lv_if_ne (tgt := 21) hx hb dX3_goesOn_5 (by decide) (fun c_4 => ?_) (fun c_4 => ?_)
  · rw [if_neg c_4] at hF
    refine lv_iconst (v := 0) hx hb dX3_goesOn_21 (by decide) ?_
    exact cr_z hC hH hr rfl (nrt_eq hF) dX3_goesOn_22 hlocks
  · rw [if_pos c_4] at hF
    refine lv_aload_n hx hb dX3_goesOn_8 rfl (lv_at hl 0 rfl) ?_
    refine lv_iload_n hx hb dX3_goesOn_9 rfl (lv_at hl 1 rfl) ?_
    refine lv_iconst (v := 4) hx hb dX3_goesOn_10 (by decide) ?_
    obtain ⟨r_5, u_6, h_7, hF⟩ := ncl_some hF
    refine ccV_i (q0 := 7) (As := [.int a0, .int 4]) (rest := []) hC hH (n_X3_on l G Z Q _ T u_2 u_6 r_5 a0 4 _ h_7) rfl rfl ⟨wkc_X3_on, wka143, wka471, wka472, wka747⟩ kVX3_on ⟨Nat.le_of_ble_eq_true rfl, Nat.le_of_ble_eq_true rfl⟩ rfl hl.1 rfl (Nat.le_of_ble_eq_true rfl) dX3_goesOn_11 (fun D H locs hH => ?_)
    refine lv_if_ne (tgt := 21) hx hb dX3_goesOn_14 (by decide) (fun c_8 => ?_) (fun c_8 => ?_)
    · rw [if_neg c_8] at hF
      refine lv_iconst (v := 0) hx hb dX3_goesOn_21 (by decide) ?_
      exact cr_z hC hH hr rfl (nrt_eq hF) dX3_goesOn_22 hlocks
    · rw [if_pos c_8] at hF
      refine lv_iconst (v := 1) hx hb dX3_goesOn_17 (by decide) ?_
      refine lv_goto (tgt := 22) hx hb dX3_goesOn_18 (by decide) ?_
      exact cr_z hC hH hr rfl (nrt_eq hF) dX3_goesOn_22 hlocks
def x_X3_signsOf (a0 : Int32) (a1 : Int32) (a2 : Int32) : NG Int32 := ncl (x_X3_on a0 ((5 + (a1 * 8)) + a2)) (fun r_1 => nrt r_1)
set_option maxHeartbeats 4000000 in
set_option maxRecDepth 100000 in
theorem n_X3_signsOf (l : Launch) (G : gG) (Z : gC) (Q : Nat → Nat) (D : Nat × Nat) (T : va_W) (u u1 : MS) (r : Int32) (a0 : Int32) (a1 : Int32) (a2 : Int32) (sz : Nat) (hF : x_X3_signsOf a0 a1 a2 u = some (r, u1)) : Met l yX3_signsOf (Cond.code yX3_signsOf cX3_signsOf 4 (some .int) :: wK) { frames := 2, cells := 0, slots := 0, locals := 44 } (va_Pc [.ref (Q 7), .int a0, .int a1, .int a2] (cPM G Z Q D T u sz)) (cQi G Q T u1 r (va_A (cW G Q D T u) sz)) 0 0 (va_A (cW G Q D T u) sz) := by
  refine Met.ofW (cc := cX3_signsOf) (maxL := 4) (ret := (some .int)) (by decide) rfl ?_
  intro p e s m args below meth c s₁ B hml hv
  obtain ⟨rfl, rfl, hP, hB, hD0, hE⟩ := hv
  have hr := B.returns
  have hlocks := B.notSynchronized
  have hts := atoms_spec (ws := Cond.code yX3_signsOf cX3_signsOf 4 (some .int) :: wK) B.pre
  have hD := hD0.self (sz := s.heap.size)
  have hA : ∀ q : Nat, s.heap.size ≤ q → va_A (cW G Q D T u) s.heap.size q := fun q h => Or.inr h
  generalize va_A (cW G Q D T u) s.heap.size = A at hD hA hE ⊢
  have hC : cX p c cX3_signsOf 4 s m _ RX3 G Z A := ⟨B.exec, B.bytes, hml, findClass_of_methodNamed B.named, fun w h => hts w (List.mem_cons_of_mem _ h), hB, hE, hA⟩
  have hx := hC.1
  have hb := hC.2.1
  have hH : cH G Q D T A u s s.heap [] := ⟨hP, hD, va_S.rf⟩
  have hl := lv_entry ([.ref (Q 7), .int a0, .int a1, .int a2]) (n := 4) (Nat.le_of_ble_eq_true rfl)
  rw [lg_entry_eq]
  generalize (lg_sl ([.ref (Q 7), .int a0, .int a1, .int a2]) ++ List.replicate (4 - (lg_sl ([.ref (Q 7), .int a0, .int a1, .int a2])).length) Slot.unset).toArray = ls at hl ⊢
  have hl : lv_has ls 4 [(0, .ref (Q 7)), (1, .int a0), (2, .int a1), (3, .int a2)] := hl
  unfold x_X3_signsOf at hF
  refine lv_aload_n hx hb dX3_signsOf_0 rfl (lv_at hl 0 rfl) ?_
  refine lv_iload_n hx hb dX3_signsOf_1 rfl (lv_at hl 1 rfl) ?_
  refine lv_iconst (v := 5) hx hb dX3_signsOf_2 (by decide) ?_
  refine lv_iload_n hx hb dX3_signsOf_3 rfl (lv_at hl 2 rfl) ?_
  refine lv_bipush (v := 8) hx hb dX3_signsOf_4 (by decide) ?_
  refine lv_imul hx hb dX3_signsOf_6 ?_
  refine lv_iadd hx hb dX3_signsOf_7 ?_
  refine lv_iload_n hx hb dX3_signsOf_8 rfl (lv_at hl 3 rfl) ?_
  refine lv_iadd hx hb dX3_signsOf_9 ?_
  obtain ⟨r_1, u_2, h_3, hF⟩ := ncl_some hF
  refine ccV_i (q0 := 7) (As := [.int a0, .int ((5 + (a1 * 8)) + a2)]) (rest := []) hC hH (n_X3_on l G Z Q _ T u u_2 r_1 a0 ((5 + (a1 * 8)) + a2) _ h_3) rfl rfl ⟨wkc_X3_on, wka143, wka471, wka472, wka747⟩ kVX3_on ⟨Nat.le_of_ble_eq_true rfl, Nat.le_of_ble_eq_true rfl⟩ rfl hl.1 rfl (Nat.le_of_ble_eq_true rfl) dX3_signsOf_10 (fun D H locs hH => ?_)
  exact cr_i hC hH hr (nrt_eq hF) dX3_signsOf_13 hlocks
def xl_X3_openFights_4 : Nat → Int32 → Int32 → (Int32 → Int32 → NG Int32) → NG Int32
  | 0, _, _, _ => fun _ => none
  | n4 + 1, v1, v2, K4_31 => (if 4 ≤ v2 then K4_31 v1 v2 else ncl (x_X3_isFree v2) (fun r_2 => (if r_2 = 0 then nli (v1 + 1) (fun x_6 => nli (v2 + 1) (fun x_8 => xl_X3_openFights_4 n4 x_6 x_8 K4_31)) else nli (v1 + 0) (fun x_10 => nli (v2 + 1) (fun x_12 => xl_X3_openFights_4 n4 x_10 x_12 K4_31)))))
def x_X3_openFights : NG Int32 := xl_X3_openFights_4 fuel 0 0 (fun v1 v2 => nrt v1)
set_option maxHeartbeats 4000000 in
set_option maxRecDepth 100000 in
theorem n_X3_openFights (l : Launch) (G : gG) (Z : gC) (Q : Nat → Nat) (D : Nat × Nat) (T : va_W) (u u1 : MS) (r : Int32) (sz : Nat) (hF : x_X3_openFights u = some (r, u1)) : Met l yX3_openFights (Cond.code yX3_openFights cX3_openFights 3 (some .int) :: wK) { frames := 3, cells := 0, slots := 0, locals := 65 } (va_Pc [.ref (Q 7)] (cPM G Z Q D T u sz)) (cQi G Q T u1 r (va_A (cW G Q D T u) sz)) 0 0 (va_A (cW G Q D T u) sz) := by
  refine Met.ofW (cc := cX3_openFights) (maxL := 3) (ret := (some .int)) (by decide) rfl ?_
  intro p e s m args below meth c s₁ B hml hv
  obtain ⟨rfl, rfl, hP, hB, hD0, hE⟩ := hv
  have hr := B.returns
  have hlocks := B.notSynchronized
  have hts := atoms_spec (ws := Cond.code yX3_openFights cX3_openFights 3 (some .int) :: wK) B.pre
  have hD := hD0.self (sz := s.heap.size)
  have hA : ∀ q : Nat, s.heap.size ≤ q → va_A (cW G Q D T u) s.heap.size q := fun q h => Or.inr h
  generalize va_A (cW G Q D T u) s.heap.size = A at hD hA hE ⊢
  have hC : cX p c cX3_openFights 3 s m _ RX3 G Z A := ⟨B.exec, B.bytes, hml, findClass_of_methodNamed B.named, fun w h => hts w (List.mem_cons_of_mem _ h), hB, hE, hA⟩
  have hx := hC.1
  have hb := hC.2.1
  have hH : cH G Q D T A u s s.heap [] := ⟨hP, hD, va_S.rf⟩
  have hl := lv_entry ([.ref (Q 7)]) (n := 3) (Nat.le_of_ble_eq_true rfl)
  rw [lg_entry_eq]
  generalize (lg_sl ([.ref (Q 7)]) ++ List.replicate (3 - (lg_sl ([.ref (Q 7)])).length) Slot.unset).toArray = ls at hl ⊢
  have hl : lv_has ls 3 [(0, .ref (Q 7))] := hl
  unfold x_X3_openFights at hF
  refine lv_iconst (v := 0) hx hb dX3_openFights_0 (by decide) ?_
  refine lv_istore_n (lv' := [(1, .int 0), (0, .ref (Q 7))]) hx hb dX3_openFights_1 rfl hl (by decide) rfl (fun ls hl => ?_)
  refine lv_iconst (v := 0) hx hb dX3_openFights_2 (by decide) ?_
  refine lv_istore_n (lv' := [(2, .int 0), (1, .int 0), (0, .ref (Q 7))]) hx hb dX3_openFights_3 rfl hl (by decide) rfl (fun ls hl => ?_)
  have hL4 : ∀ (K4_31 : Int32 → Int32 → NG Int32), (∀ (v1 v2 : Int32) (u : MS) (D : Nat × Nat) (H : Heap) (locs : List Loc) (ls : Array Slot), lv_has ls 3 [(0, .ref (Q 7)), (1, .int v1), (2, .int v2)] → cH G Q D T A u s H locs → K4_31 v1 v2 u = some (r, u1) → W p l e (headSpec (Cond.code yX3_openFights cX3_openFights 3 (some .int) :: wK) { frames := 3, cells := 0, slots := 0, locals := 65 }).room s m [.ref (Q 7)].toArray below meth c H locs 0 0 (MQ below (cQi G Q T u1 r A) [.ref (Q 7)].toArray s 0 0 A) (F0 m 31 ls [])) → ∀ (n4 : Nat) (v1 v2 : Int32) (u : MS) (D : Nat × Nat) (H : Heap) (locs : List Loc) (ls : Array Slot), lv_has ls 3 [(0, .ref (Q 7)), (1, .int v1), (2, .int v2)] → cH G Q D T A u s H locs → xl_X3_openFights_4 n4 v1 v2 K4_31 u = some (r, u1) → W p l e (headSpec (Cond.code yX3_openFights cX3_openFights 3 (some .int) :: wK) { frames := 3, cells := 0, slots := 0, locals := 65 }).room s m [.ref (Q 7)].toArray below meth c H locs 0 0 (MQ below (cQi G Q T u1 r A) [.ref (Q 7)].toArray s 0 0 A) (F0 m 4 ls []) := by
    intro K4_31 hK4_31 n4
    induction n4 with
    | zero => intro v1 v2 u D H locs ls hl hH hF; cases hF
    | succ n4 ih4 =>
      intro v1 v2 u D H locs ls hl hH hF
      unfold xl_X3_openFights_4 at hF
      refine lv_iload_n hx hb dX3_openFights_4 rfl (lv_at hl 2 rfl) ?_
      refine lv_iconst (v := 4) hx hb dX3_openFights_5 (by decide) ?_
      refine lv_icmp_ge (tgt := 31) hx hb dX3_openFights_6 (by decide) (fun c_1 => ?_) (fun c_1 => ?_)
      · rw [if_pos c_1] at hF
        exact hK4_31 v1 v2 u _ _ _ _ (lv_sub hl [0, 1, 2] rfl) hH hF
      · rw [if_neg c_1] at hF
        refine lv_iload_n hx hb dX3_openFights_9 rfl (lv_at hl 1 rfl) ?_
        refine lv_aload_n hx hb dX3_openFights_10 rfl (lv_at hl 0 rfl) ?_
        refine lv_iload_n hx hb dX3_openFights_11 rfl (lv_at hl 2 rfl) ?_
        obtain ⟨r_2, u_3, h_4, hF⟩ := ncl_some hF
        refine ccV_i (q0 := 7) (As := [.int v2]) (rest := [.int v1]) hC hH (n_X3_isFree l G Z Q _ T u u_3 r_2 v2 _ h_4) rfl rfl ⟨wkc_X3_isFree, wka142, wka473, wka474, wka747⟩ kVX3_isFree ⟨Nat.le_of_ble_eq_true rfl, Nat.le_of_ble_eq_true rfl⟩ rfl hl.1 rfl (Nat.le_of_ble_eq_true rfl) dX3_openFights_12 (fun D H locs hH => ?_)
        refine lv_if_eq (tgt := 22) hx hb dX3_openFights_15 (by decide) (fun c_5 => ?_) (fun c_5 => ?_)
        · rw [if_pos c_5] at hF
          refine lv_iconst (v := 1) hx hb dX3_openFights_22 (by decide) ?_
          refine lv_iadd hx hb dX3_openFights_23 ?_
          obtain ⟨x_6, e_7, hF⟩ := nli_some hF
          refine gx_ti e_7 ?_
          refine lv_istore_n (lv' := [(1, .int x_6), (0, .ref (Q 7)), (2, .int v2)]) hx hb dX3_openFights_24 rfl hl (by decide) rfl (fun ls hl => ?_)
          obtain ⟨x_8, e_9, hF⟩ := nli_some hF
          refine lv_iinc (v := x_8) (lv' := [(2, .int x_8), (1, .int x_6), (0, .ref (Q 7))]) hx hb dX3_openFights_25 hl (k := 2) rfl e_9 (by decide) rfl (fun ls hl => ?_)
          refine lv_goto (tgt := 4) hx hb dX3_openFights_28 (by decide) ?_
          exact ih4 x_6 x_8 u_3 _ _ _ _ (lv_sub hl [2, 1, 0] rfl) hH hF
        · rw [if_neg c_5] at hF
          refine lv_iconst (v := 0) hx hb dX3_openFights_18 (by decide) ?_
          refine lv_goto (tgt := 23) hx hb dX3_openFights_19 (by decide) ?_
          refine lv_iadd hx hb dX3_openFights_23 ?_
          obtain ⟨x_10, e_11, hF⟩ := nli_some hF
          refine gx_ti e_11 ?_
          refine lv_istore_n (lv' := [(1, .int x_10), (0, .ref (Q 7)), (2, .int v2)]) hx hb dX3_openFights_24 rfl hl (by decide) rfl (fun ls hl => ?_)
          obtain ⟨x_12, e_13, hF⟩ := nli_some hF
          refine lv_iinc (v := x_12) (lv' := [(2, .int x_12), (1, .int x_10), (0, .ref (Q 7))]) hx hb dX3_openFights_25 hl (k := 2) rfl e_13 (by decide) rfl (fun ls hl => ?_)
          refine lv_goto (tgt := 4) hx hb dX3_openFights_28 (by decide) ?_
          exact ih4 x_10 x_12 u_3 _ _ _ _ (lv_sub hl [2, 1, 0] rfl) hH hF
  refine hL4 _ (fun v1 v2 u D H locs ls hl hH hF => ?_) fuel 0 0 u _ _ _ _ (lv_sub hl [2, 1, 0] rfl) hH hF
  refine lv_iload_n hx hb dX3_openFights_31 rfl (lv_at hl 1 rfl) ?_
  exact cr_i hC hH hr (nrt_eq hF) dX3_openFights_32 hlocks
def x_X3_fighterOn (a0 : Int32) (a1 : Int32) : NG Int32 := (if a1 = 0 then ncl (x_X3_on a0 0) (fun r_15 => ncl (x_X3_on a0 1) (fun r_18 => ncl (x_X1_ofFight r_15 r_18 1) (fun r_21 => ncl (nGT 0 2088 r_21) (fun x_24 => nrt x_24)))) else ncl (x_X3_on a0 0) (fun r_2 => ncl (x_X3_on a0 1) (fun r_5 => ncl (x_X1_ofFight r_2 r_5 2) (fun r_8 => ncl (nGT 0 2088 r_8) (fun x_11 => nrt x_11)))))
set_option maxHeartbeats 4000000 in
set_option maxRecDepth 100000 in
theorem n_X3_fighterOn (l : Launch) (G : gG) (Z : gC) (Q : Nat → Nat) (D : Nat × Nat) (T : va_W) (u u1 : MS) (r : Int32) (a0 : Int32) (a1 : Int32) (sz : Nat) (hF : x_X3_fighterOn a0 a1 u = some (r, u1)) : Met l yX3_fighterOn (Cond.code yX3_fighterOn cX3_fighterOn 4 (some .int) :: wK) { frames := 2, cells := 0, slots := 0, locals := 44 } (va_Pc [.ref (Q 7), .int a0, .int a1] (cPM G Z Q D T u sz)) (cQi G Q T u1 r (va_A (cW G Q D T u) sz)) 0 0 (va_A (cW G Q D T u) sz) := by
  refine Met.ofW (cc := cX3_fighterOn) (maxL := 4) (ret := (some .int)) (by decide) rfl ?_
  intro p e s m args below meth c s₁ B hml hv
  obtain ⟨rfl, rfl, hP, hB, hD0, hE⟩ := hv
  have hr := B.returns
  have hlocks := B.notSynchronized
  have hts := atoms_spec (ws := Cond.code yX3_fighterOn cX3_fighterOn 4 (some .int) :: wK) B.pre
  have hD := hD0.self (sz := s.heap.size)
  have hA : ∀ q : Nat, s.heap.size ≤ q → va_A (cW G Q D T u) s.heap.size q := fun q h => Or.inr h
  generalize va_A (cW G Q D T u) s.heap.size = A at hD hA hE ⊢
  have hC : cX p c cX3_fighterOn 4 s m _ RX3 G Z A := ⟨B.exec, B.bytes, hml, findClass_of_methodNamed B.named, fun w h => hts w (List.mem_cons_of_mem _ h), hB, hE, hA⟩
  have hx := hC.1
  have hb := hC.2.1
  have hH : cH G Q D T A u s s.heap [] := ⟨hP, hD, va_S.rf⟩
  have hl := lv_entry ([.ref (Q 7), .int a0, .int a1]) (n := 4) (Nat.le_of_ble_eq_true rfl)
  rw [lg_entry_eq]
  generalize (lg_sl ([.ref (Q 7), .int a0, .int a1]) ++ List.replicate (4 - (lg_sl ([.ref (Q 7), .int a0, .int a1])).length) Slot.unset).toArray = ls at hl ⊢
  have hl : lv_has ls 4 [(0, .ref (Q 7)), (1, .int a0), (2, .int a1)] := hl
  unfold x_X3_fighterOn at hF
  refine lv_iload_n hx hb dX3_fighterOn_0 rfl (lv_at hl 2 rfl) ?_
  refine lv_if_ne (tgt := 8) hx hb dX3_fighterOn_1 (by decide) (fun c_1 => ?_) (fun c_1 => ?_)
  · rw [if_neg c_1] at hF
    refine lv_iconst (v := 2) hx hb dX3_fighterOn_8 (by decide) ?_
    refine lv_istore_n (lv' := [(3, .int 2), (0, .ref (Q 7)), (1, .int a0), (2, .int a1)]) hx hb dX3_fighterOn_9 rfl hl (by decide) rfl (fun ls hl => ?_)
    refine lv_aload_n hx hb dX3_fighterOn_10 rfl (lv_at hl 1 rfl) ?_
    refine cg_X3_9 hC hH dX3_fighterOn_11 ?_
    refine lv_aload_n hx hb dX3_fighterOn_14 rfl (lv_at hl 1 rfl) ?_
    refine lv_iload_n hx hb dX3_fighterOn_15 rfl (lv_at hl 2 rfl) ?_
    refine lv_iconst (v := 0) hx hb dX3_fighterOn_16 (by decide) ?_
    obtain ⟨r_2, u_3, h_4, hF⟩ := ncl_some hF
    refine ccV_i (q0 := 7) (As := [.int a0, .int 0]) (rest := [.ref (Q 1)]) hC hH (n_X3_on l G Z Q _ T u u_3 r_2 a0 0 _ h_4) rfl rfl ⟨wkc_X3_on, wka143, wka471, wka472, wka747⟩ kVX3_on ⟨Nat.le_of_ble_eq_true rfl, Nat.le_of_ble_eq_true rfl⟩ rfl hl.1 rfl (Nat.le_of_ble_eq_true rfl) dX3_fighterOn_17 (fun D H locs hH => ?_)
    refine lv_aload_n hx hb dX3_fighterOn_20 rfl (lv_at hl 1 rfl) ?_
    refine lv_iload_n hx hb dX3_fighterOn_21 rfl (lv_at hl 2 rfl) ?_
    refine lv_iconst (v := 1) hx hb dX3_fighterOn_22 (by decide) ?_
    obtain ⟨r_5, u_6, h_7, hF⟩ := ncl_some hF
    refine ccV_i (q0 := 7) (As := [.int a0, .int 1]) (rest := [.int r_2, .ref (Q 1)]) hC hH (n_X3_on l G Z Q _ T u_3 u_6 r_5 a0 1 _ h_7) rfl rfl ⟨wkc_X3_on, wka143, wka471, wka472, wka747⟩ kVX3_on ⟨Nat.le_of_ble_eq_true rfl, Nat.le_of_ble_eq_true rfl⟩ rfl hl.1 rfl (Nat.le_of_ble_eq_true rfl) dX3_fighterOn_23 (fun D H locs hH => ?_)
    refine lv_iload_n hx hb dX3_fighterOn_26 rfl (lv_at hl 0 rfl) ?_
    obtain ⟨r_8, u_9, h_10, hF⟩ := ncl_some hF
    refine ccS_i (As := [.int r_2, .int r_5, .int 2]) (rest := [.ref (Q 1)]) hC hH (n_X1_ofFight l G Z Q _ T u_6 u_9 r_8 r_2 r_5 2 _ h_10) ⟨wkc_X1_ofFight, wka290, wka437, wka745⟩ kSX1_ofFight ⟨Nat.le_of_ble_eq_true rfl, Nat.le_of_ble_eq_true rfl⟩ rfl hl.1 rfl (Nat.le_of_ble_eq_true rfl) dX3_fighterOn_27 (fun D H locs hH => ?_)
    refine bat (i := 1) (j := 11) hC hH rfl rfl (by decide) wka145 ⟨Nat.le_of_ble_eq_true rfl, Nat.le_of_ble_eq_true rfl⟩ hl.1 (Nat.le_of_ble_eq_true rfl) ⟨Nat.zero_le _, Nat.zero_le _⟩ dX3_fighterOn_30 ?_
    obtain ⟨x_11, u_12, h_13, hF⟩ := ncl_some hF
    obtain ⟨e_14, rfl⟩ := nGT_eq h_13
    refine gx_ti e_14 ?_
    exact cr_i hC hH hr (nrt_eq hF) dX3_fighterOn_33 hlocks
  · rw [if_pos c_1] at hF
    refine lv_iconst (v := 1) hx hb dX3_fighterOn_4 (by decide) ?_
    refine lv_goto (tgt := 9) hx hb dX3_fighterOn_5 (by decide) ?_
    refine lv_istore_n (lv' := [(3, .int 1), (0, .ref (Q 7)), (1, .int a0), (2, .int a1)]) hx hb dX3_fighterOn_9 rfl hl (by decide) rfl (fun ls hl => ?_)
    refine lv_aload_n hx hb dX3_fighterOn_10 rfl (lv_at hl 1 rfl) ?_
    refine cg_X3_9 hC hH dX3_fighterOn_11 ?_
    refine lv_aload_n hx hb dX3_fighterOn_14 rfl (lv_at hl 1 rfl) ?_
    refine lv_iload_n hx hb dX3_fighterOn_15 rfl (lv_at hl 2 rfl) ?_
    refine lv_iconst (v := 0) hx hb dX3_fighterOn_16 (by decide) ?_
    obtain ⟨r_15, u_16, h_17, hF⟩ := ncl_some hF
    refine ccV_i (q0 := 7) (As := [.int a0, .int 0]) (rest := [.ref (Q 1)]) hC hH (n_X3_on l G Z Q _ T u u_16 r_15 a0 0 _ h_17) rfl rfl ⟨wkc_X3_on, wka143, wka471, wka472, wka747⟩ kVX3_on ⟨Nat.le_of_ble_eq_true rfl, Nat.le_of_ble_eq_true rfl⟩ rfl hl.1 rfl (Nat.le_of_ble_eq_true rfl) dX3_fighterOn_17 (fun D H locs hH => ?_)
    refine lv_aload_n hx hb dX3_fighterOn_20 rfl (lv_at hl 1 rfl) ?_
    refine lv_iload_n hx hb dX3_fighterOn_21 rfl (lv_at hl 2 rfl) ?_
    refine lv_iconst (v := 1) hx hb dX3_fighterOn_22 (by decide) ?_
    obtain ⟨r_18, u_19, h_20, hF⟩ := ncl_some hF
    refine ccV_i (q0 := 7) (As := [.int a0, .int 1]) (rest := [.int r_15, .ref (Q 1)]) hC hH (n_X3_on l G Z Q _ T u_16 u_19 r_18 a0 1 _ h_20) rfl rfl ⟨wkc_X3_on, wka143, wka471, wka472, wka747⟩ kVX3_on ⟨Nat.le_of_ble_eq_true rfl, Nat.le_of_ble_eq_true rfl⟩ rfl hl.1 rfl (Nat.le_of_ble_eq_true rfl) dX3_fighterOn_23 (fun D H locs hH => ?_)
    refine lv_iload_n hx hb dX3_fighterOn_26 rfl (lv_at hl 0 rfl) ?_
    obtain ⟨r_21, u_22, h_23, hF⟩ := ncl_some hF
    refine ccS_i (As := [.int r_15, .int r_18, .int 1]) (rest := [.ref (Q 1)]) hC hH (n_X1_ofFight l G Z Q _ T u_19 u_22 r_21 r_15 r_18 1 _ h_23) ⟨wkc_X1_ofFight, wka290, wka437, wka745⟩ kSX1_ofFight ⟨Nat.le_of_ble_eq_true rfl, Nat.le_of_ble_eq_true rfl⟩ rfl hl.1 rfl (Nat.le_of_ble_eq_true rfl) dX3_fighterOn_27 (fun D H locs hH => ?_)
    refine bat (i := 1) (j := 11) hC hH rfl rfl (by decide) wka145 ⟨Nat.le_of_ble_eq_true rfl, Nat.le_of_ble_eq_true rfl⟩ hl.1 (Nat.le_of_ble_eq_true rfl) ⟨Nat.zero_le _, Nat.zero_le _⟩ dX3_fighterOn_30 ?_
    obtain ⟨x_24, u_25, h_26, hF⟩ := ncl_some hF
    obtain ⟨e_27, rfl⟩ := nGT_eq h_26
    refine gx_ti e_27 ?_
    exact cr_i hC hH hr (nrt_eq hF) dX3_fighterOn_33 hlocks

