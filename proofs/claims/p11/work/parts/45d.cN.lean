def x_X8_isWeighed (a1 : Int32) (a2 : Int32) : NG Int32 := ncl (x_X1_ofFighter a1 0) (fun r_1 => ncl (nGT 0 2088 r_1) (fun x_4 => (if x_4 = a2 then ncl (x_X1_ofFighter a1 3) (fun r_9 => ncl (nGT 0 2088 r_9) (fun x_12 => (if x_12 = 1 then nrt 1 else nrt 0))) else nrt 0)))
set_option maxHeartbeats 4000000 in
set_option maxRecDepth 100000 in
theorem n_X8_isWeighed (l : Launch) (G : gG) (Z : gC) (Q : Nat → Nat) (D : Nat × Nat) (T : va_W) (u u1 : MS) (r : Int32) (a1 : Int32) (a2 : Int32) (sz : Nat) (hF : x_X8_isWeighed a1 a2 u = some (r, u1)) : Met l yX8_isWeighed (Cond.code yX8_isWeighed cX8_isWeighed 3 (some .boolean) :: wK) { frames := 1, cells := 0, slots := 0, locals := 22 } (va_Pc [.ref (Q 1), .int a1, .int a2] (cPM G Z Q D T u sz)) (cQi G Q T u1 r (va_A (cW G Q D T u) sz)) 0 0 (va_A (cW G Q D T u) sz) := by
  refine Met.ofW (cc := cX8_isWeighed) (maxL := 3) (ret := (some .boolean)) (by decide) rfl ?_
  intro p e s m args below meth c s₁ B hml hv
  obtain ⟨rfl, rfl, hP, hB, hD0, hE⟩ := hv
  have hr := B.returns
  have hlocks := B.notSynchronized
  have hts := atoms_spec (ws := Cond.code yX8_isWeighed cX8_isWeighed 3 (some .boolean) :: wK) B.pre
  have hD := hD0.self (sz := s.heap.size)
  have hA : ∀ q : Nat, s.heap.size ≤ q → va_A (cW G Q D T u) s.heap.size q := fun q h => Or.inr h
  generalize va_A (cW G Q D T u) s.heap.size = A at hD hA hE ⊢
  have hC : cX p c cX8_isWeighed 3 s m _ RX8 G Z A := ⟨B.exec, B.bytes, hml, findClass_of_methodNamed B.named, fun w h => hts w (List.mem_cons_of_mem _ h), hB, hE, hA⟩
  have hx := hC.1
  have hb := hC.2.1
  have hH : cH G Q D T A u s s.heap [] := ⟨hP, hD, va_S.rf⟩
  have hl := lv_entry ([.ref (Q 1), .int a1, .int a2]) (n := 3) (Nat.le_of_ble_eq_true rfl)
  rw [lg_entry_eq]
  generalize (lg_sl ([.ref (Q 1), .int a1, .int a2]) ++ List.replicate (3 - (lg_sl ([.ref (Q 1), .int a1, .int a2])).length) Slot.unset).toArray = ls at hl ⊢
  have hl : lv_has ls 3 [(0, .ref (Q 1)), (1, .int a1), (2, .int a2)] := hl
  unfold x_X8_isWeighed at hF
  refine lv_aload_n hx hb dX8_isWeighed_0 rfl (lv_at hl 0 rfl) ?_
  refine lv_iload_n hx hb dX8_isWeighed_1 rfl (lv_at hl 1 rfl) ?_
  refine lv_iconst (v := 0) hx hb dX8_isWeighed_2 (by decide) ?_
  obtain ⟨r_1, u_2, h_3, hF⟩ := ncl_some hF
  refine ccS_i (As := [.int a1, .int 0]) (rest := [.ref (Q 1)]) hC hH (n_X1_ofFighter l G Z Q _ T u u_2 r_1 a1 0 _ h_3) ⟨wkc_X1_ofFighter, wka218, wka436, wka745⟩ kSX1_ofFighter ⟨Nat.le_of_ble_eq_true rfl, Nat.le_of_ble_eq_true rfl⟩ rfl hl.1 rfl (Nat.le_of_ble_eq_true rfl) dX8_isWeighed_3 (fun D H locs hH => ?_)
  refine bat (i := 1) (j := 11) hC hH rfl rfl (by decide) wka216 ⟨Nat.le_of_ble_eq_true rfl, Nat.le_of_ble_eq_true rfl⟩ hl.1 (Nat.le_of_ble_eq_true rfl) ⟨Nat.zero_le _, Nat.zero_le _⟩ dX8_isWeighed_6 ?_
  obtain ⟨x_4, u_5, h_6, hF⟩ := ncl_some hF
  obtain ⟨e_7, rfl⟩ := nGT_eq h_6
  refine gx_ti e_7 ?_
  refine lv_iload_n hx hb dX8_isWeighed_9 rfl (lv_at hl 2 rfl) ?_
  refine lv_icmp_ne (tgt := 30) hx hb dX8_isWeighed_10 (by decide) (fun c_8 => ?_) (fun c_8 => ?_)
  · rw [if_neg c_8] at hF
    refine lv_iconst (v := 0) hx hb dX8_isWeighed_30 (by decide) ?_
    exact cr_z hC hH hr rfl (nrt_eq hF) dX8_isWeighed_31 hlocks
  · rw [if_pos c_8] at hF
    refine lv_aload_n hx hb dX8_isWeighed_13 rfl (lv_at hl 0 rfl) ?_
    refine lv_iload_n hx hb dX8_isWeighed_14 rfl (lv_at hl 1 rfl) ?_
    refine lv_iconst (v := 3) hx hb dX8_isWeighed_15 (by decide) ?_
    obtain ⟨r_9, u_10, h_11, hF⟩ := ncl_some hF
    refine ccS_i (As := [.int a1, .int 3]) (rest := [.ref (Q 1)]) hC hH (n_X1_ofFighter l G Z Q _ T u_2 u_10 r_9 a1 3 _ h_11) ⟨wkc_X1_ofFighter, wka218, wka436, wka745⟩ kSX1_ofFighter ⟨Nat.le_of_ble_eq_true rfl, Nat.le_of_ble_eq_true rfl⟩ rfl hl.1 rfl (Nat.le_of_ble_eq_true rfl) dX8_isWeighed_16 (fun D H locs hH => ?_)
    refine bat (i := 1) (j := 11) hC hH rfl rfl (by decide) wka216 ⟨Nat.le_of_ble_eq_true rfl, Nat.le_of_ble_eq_true rfl⟩ hl.1 (Nat.le_of_ble_eq_true rfl) ⟨Nat.zero_le _, Nat.zero_le _⟩ dX8_isWeighed_19 ?_
    obtain ⟨x_12, u_13, h_14, hF⟩ := ncl_some hF
    obtain ⟨e_15, rfl⟩ := nGT_eq h_14
    refine gx_ti e_15 ?_
    refine lv_iconst (v := 1) hx hb dX8_isWeighed_22 (by decide) ?_
    refine lv_icmp_ne (tgt := 30) hx hb dX8_isWeighed_23 (by decide) (fun c_16 => ?_) (fun c_16 => ?_)
    · rw [if_neg c_16] at hF
      refine lv_iconst (v := 0) hx hb dX8_isWeighed_30 (by decide) ?_
      exact cr_z hC hH hr rfl (nrt_eq hF) dX8_isWeighed_31 hlocks
    · rw [if_pos c_16] at hF
      refine lv_iconst (v := 1) hx hb dX8_isWeighed_26 (by decide) ?_
      refine lv_goto (tgt := 31) hx hb dX8_isWeighed_27 (by decide) ?_
      exact cr_z hC hH hr rfl (nrt_eq hF) dX8_isWeighed_31 hlocks
def xl_X8_weighedOf_4 : Nat → Int32 → Int32 → Int32 → (Int32 → Int32 → Int32 → NG Int32) → NG Int32
  | 0, _, _, _, _ => fun _ => none
  | n4 + 1, v1, v2, v3, K4_38 => ncl (x_X8_people) (fun r_1 => (if r_1 ≤ v3 then K4_38 v1 v2 v3 else ncl (x_X8_isWeighed v3 v1) (fun r_5 => (if r_5 = 0 then nli (v2 + 0) (fun x_9 => nli (v3 + 1) (fun x_11 => xl_X8_weighedOf_4 n4 v1 x_9 x_11 K4_38)) else nli (v2 + 1) (fun x_13 => nli (v3 + 1) (fun x_15 => xl_X8_weighedOf_4 n4 v1 x_13 x_15 K4_38))))))
def x_X8_weighedOf (a0 : Int32) : NG Int32 := xl_X8_weighedOf_4 fuel a0 0 0 (fun v1 v2 v3 => nrt v2)
set_option maxHeartbeats 4000000 in
set_option maxRecDepth 100000 in
theorem n_X8_weighedOf (l : Launch) (G : gG) (Z : gC) (Q : Nat → Nat) (D : Nat × Nat) (T : va_W) (u u1 : MS) (r : Int32) (a0 : Int32) (sz : Nat) (hF : x_X8_weighedOf a0 u = some (r, u1)) : Met l yX8_weighedOf (Cond.code yX8_weighedOf cX8_weighedOf 4 (some .int) :: wK) { frames := 2, cells := 0, slots := 0, locals := 44 } (va_Pc [.ref (Q 4), .int a0] (cPM G Z Q D T u sz)) (cQi G Q T u1 r (va_A (cW G Q D T u) sz)) 0 0 (va_A (cW G Q D T u) sz) := by
  refine Met.ofW (cc := cX8_weighedOf) (maxL := 4) (ret := (some .int)) (by decide) rfl ?_
  intro p e s m args below meth c s₁ B hml hv
  obtain ⟨rfl, rfl, hP, hB, hD0, hE⟩ := hv
  have hr := B.returns
  have hlocks := B.notSynchronized
  have hts := atoms_spec (ws := Cond.code yX8_weighedOf cX8_weighedOf 4 (some .int) :: wK) B.pre
  have hD := hD0.self (sz := s.heap.size)
  have hA : ∀ q : Nat, s.heap.size ≤ q → va_A (cW G Q D T u) s.heap.size q := fun q h => Or.inr h
  generalize va_A (cW G Q D T u) s.heap.size = A at hD hA hE ⊢
  have hC : cX p c cX8_weighedOf 4 s m _ RX8 G Z A := ⟨B.exec, B.bytes, hml, findClass_of_methodNamed B.named, fun w h => hts w (List.mem_cons_of_mem _ h), hB, hE, hA⟩
  have hx := hC.1
  have hb := hC.2.1
  have hH : cH G Q D T A u s s.heap [] := ⟨hP, hD, va_S.rf⟩
  have hl := lv_entry ([.ref (Q 4), .int a0]) (n := 4) (Nat.le_of_ble_eq_true rfl)
  rw [lg_entry_eq]
  generalize (lg_sl ([.ref (Q 4), .int a0]) ++ List.replicate (4 - (lg_sl ([.ref (Q 4), .int a0])).length) Slot.unset).toArray = ls at hl ⊢
  have hl : lv_has ls 4 [(0, .ref (Q 4)), (1, .int a0)] := hl
  unfold x_X8_weighedOf at hF
  refine lv_iconst (v := 0) hx hb dX8_weighedOf_0 (by decide) ?_
  refine lv_istore_n (lv' := [(2, .int 0), (0, .ref (Q 4)), (1, .int a0)]) hx hb dX8_weighedOf_1 rfl hl (by decide) rfl (fun ls hl => ?_)
  refine lv_iconst (v := 0) hx hb dX8_weighedOf_2 (by decide) ?_
  refine lv_istore_n (lv' := [(3, .int 0), (2, .int 0), (0, .ref (Q 4)), (1, .int a0)]) hx hb dX8_weighedOf_3 rfl hl (by decide) rfl (fun ls hl => ?_)
  have hL4 : ∀ (K4_38 : Int32 → Int32 → Int32 → NG Int32), (∀ (v1 v2 v3 : Int32) (u : MS) (D : Nat × Nat) (H : Heap) (locs : List Loc) (ls : Array Slot), lv_has ls 4 [(0, .ref (Q 4)), (1, .int v1), (2, .int v2), (3, .int v3)] → cH G Q D T A u s H locs → K4_38 v1 v2 v3 u = some (r, u1) → W p l e (headSpec (Cond.code yX8_weighedOf cX8_weighedOf 4 (some .int) :: wK) { frames := 2, cells := 0, slots := 0, locals := 44 }).room s m [.ref (Q 4), .int a0].toArray below meth c H locs 0 0 (MQ below (cQi G Q T u1 r A) [.ref (Q 4), .int a0].toArray s 0 0 A) (F0 m 38 ls [])) → ∀ (n4 : Nat) (v1 v2 v3 : Int32) (u : MS) (D : Nat × Nat) (H : Heap) (locs : List Loc) (ls : Array Slot), lv_has ls 4 [(0, .ref (Q 4)), (1, .int v1), (2, .int v2), (3, .int v3)] → cH G Q D T A u s H locs → xl_X8_weighedOf_4 n4 v1 v2 v3 K4_38 u = some (r, u1) → W p l e (headSpec (Cond.code yX8_weighedOf cX8_weighedOf 4 (some .int) :: wK) { frames := 2, cells := 0, slots := 0, locals := 44 }).room s m [.ref (Q 4), .int a0].toArray below meth c H locs 0 0 (MQ below (cQi G Q T u1 r A) [.ref (Q 4), .int a0].toArray s 0 0 A) (F0 m 4 ls []) := by
    intro K4_38 hK4_38 n4
    induction n4 with
    | zero => intro v1 v2 v3 u D H locs ls hl hH hF; cases hF
    | succ n4 ih4 =>
      intro v1 v2 v3 u D H locs ls hl hH hF
      unfold xl_X8_weighedOf_4 at hF
      refine lv_iload_n hx hb dX8_weighedOf_4 rfl (lv_at hl 3 rfl) ?_
      refine lv_aload_n hx hb dX8_weighedOf_5 rfl (lv_at hl 0 rfl) ?_
      obtain ⟨r_1, u_2, h_3, hF⟩ := ncl_some hF
      refine ccV_i (q0 := 4) (As := []) (rest := [.int v3]) hC hH (n_X8_people l G Z Q _ T u u_2 r_1 _ h_3) rfl rfl ⟨wkc_X8_people, wka215, wka628, wka629, wka752⟩ kVX8_people ⟨Nat.le_of_ble_eq_true rfl, Nat.le_of_ble_eq_true rfl⟩ rfl hl.1 rfl (Nat.le_of_ble_eq_true rfl) dX8_weighedOf_6 (fun D H locs hH => ?_)
      refine lv_icmp_ge (tgt := 38) hx hb dX8_weighedOf_9 (by decide) (fun c_4 => ?_) (fun c_4 => ?_)
      · rw [if_pos c_4] at hF
        exact hK4_38 v1 v2 v3 u_2 _ _ _ _ (lv_sub hl [0, 1, 2, 3] rfl) hH hF
      · rw [if_neg c_4] at hF
        refine lv_iload_n hx hb dX8_weighedOf_12 rfl (lv_at hl 2 rfl) ?_
        refine lv_aload_n hx hb dX8_weighedOf_13 rfl (lv_at hl 0 rfl) ?_
        refine cg_X8_9 hC hH dX8_weighedOf_14 ?_
        refine lv_iload_n hx hb dX8_weighedOf_17 rfl (lv_at hl 3 rfl) ?_
        refine lv_iload_n hx hb dX8_weighedOf_18 rfl (lv_at hl 1 rfl) ?_
        obtain ⟨r_5, u_6, h_7, hF⟩ := ncl_some hF
        refine ccS_i (As := [.ref (Q 1), .int v3, .int v1]) (rest := [.int v2]) hC hH (n_X8_isWeighed l G Z Q _ T u_2 u_6 r_5 v3 v1 _ h_7) ⟨wkc_X8_isWeighed, wka230, wka646, wka752⟩ kSX8_isWeighed ⟨Nat.le_of_ble_eq_true rfl, Nat.le_of_ble_eq_true rfl⟩ rfl hl.1 rfl (Nat.le_of_ble_eq_true rfl) dX8_weighedOf_19 (fun D H locs hH => ?_)
        refine lv_if_eq (tgt := 29) hx hb dX8_weighedOf_22 (by decide) (fun c_8 => ?_) (fun c_8 => ?_)
        · rw [if_pos c_8] at hF
          refine lv_iconst (v := 0) hx hb dX8_weighedOf_29 (by decide) ?_
          refine lv_iadd hx hb dX8_weighedOf_30 ?_
          obtain ⟨x_9, e_10, hF⟩ := nli_some hF
          refine gx_ti e_10 ?_
          refine lv_istore_n (lv' := [(2, .int x_9), (0, .ref (Q 4)), (1, .int v1), (3, .int v3)]) hx hb dX8_weighedOf_31 rfl hl (by decide) rfl (fun ls hl => ?_)
          obtain ⟨x_11, e_12, hF⟩ := nli_some hF
          refine lv_iinc (v := x_11) (lv' := [(3, .int x_11), (2, .int x_9), (0, .ref (Q 4)), (1, .int v1)]) hx hb dX8_weighedOf_32 hl (k := 3) rfl e_12 (by decide) rfl (fun ls hl => ?_)
          refine lv_goto (tgt := 4) hx hb dX8_weighedOf_35 (by decide) ?_
          exact ih4 v1 x_9 x_11 u_6 _ _ _ _ (lv_sub hl [2, 3, 1, 0] rfl) hH hF
        · rw [if_neg c_8] at hF
          refine lv_iconst (v := 1) hx hb dX8_weighedOf_25 (by decide) ?_
          refine lv_goto (tgt := 30) hx hb dX8_weighedOf_26 (by decide) ?_
          refine lv_iadd hx hb dX8_weighedOf_30 ?_
          obtain ⟨x_13, e_14, hF⟩ := nli_some hF
          refine gx_ti e_14 ?_
          refine lv_istore_n (lv' := [(2, .int x_13), (0, .ref (Q 4)), (1, .int v1), (3, .int v3)]) hx hb dX8_weighedOf_31 rfl hl (by decide) rfl (fun ls hl => ?_)
          obtain ⟨x_15, e_16, hF⟩ := nli_some hF
          refine lv_iinc (v := x_15) (lv' := [(3, .int x_15), (2, .int x_13), (0, .ref (Q 4)), (1, .int v1)]) hx hb dX8_weighedOf_32 hl (k := 3) rfl e_16 (by decide) rfl (fun ls hl => ?_)
          refine lv_goto (tgt := 4) hx hb dX8_weighedOf_35 (by decide) ?_
          exact ih4 v1 x_13 x_15 u_6 _ _ _ _ (lv_sub hl [2, 3, 1, 0] rfl) hH hF
  refine hL4 _ (fun v1 v2 v3 u D H locs ls hl hH hF => ?_) fuel a0 0 0 u _ _ _ _ (lv_sub hl [2, 3, 1, 0] rfl) hH hF
  refine lv_iload_n hx hb dX8_weighedOf_38 rfl (lv_at hl 2 rfl) ?_
  exact cr_i hC hH hr (nrt_eq hF) dX8_weighedOf_39 hlocks
def xl_X10_push_3 : Nat → Int32 → Int32 → (Int32 → Int32 → NG Int32) → NG Int32
  | 0, _, _, _ => fun _ => none
  | n3 + 1, v1, v2, K3_41 => (if v2 < 0 then K3_41 v1 v2 else ncl (nRF 2) (fun x_2 => ncl (nST 4 3000 x_2 ((v1 >>> (v2 &&& 31)) &&& 255)) (fun _ => ncl (nRF 2) (fun x_10 => ncl (nWF 2 (x_10 + 1)) (fun _ => nli (v2 + (-8)) (fun x_18 => xl_X10_push_3 n3 v1 x_18 K3_41))))))
def x_X10_push (a0 : Int32) : NG Int32 := xl_X10_push_3 fuel a0 24 (fun v1 v2 => nrt 0)
set_option maxHeartbeats 4000000 in
set_option maxRecDepth 100000 in
theorem n_X10_push (l : Launch) (G : gG) (Z : gC) (Q : Nat → Nat) (D : Nat × Nat) (T : va_W) (u u1 : MS) (r : Int32) (a0 : Int32) (sz : Nat) (hF : x_X10_push a0 u = some (r, u1)) : Met l yX10_push (Cond.code yX10_push cX10_push 3 none :: wK) { frames := 1, cells := 0, slots := 0, locals := 22 } (va_Pc [.ref (Q 2), .int a0] (cPM G Z Q D T u sz)) (cQv G Q T u1 (va_A (cW G Q D T u) sz)) 0 0 (va_A (cW G Q D T u) sz) := by
  refine Met.ofW (cc := cX10_push) (maxL := 3) (ret := none) (by decide) rfl ?_
  intro p e s m args below meth c s₁ B hml hv
  obtain ⟨rfl, rfl, hP, hB, hD0, hE⟩ := hv
  have hr := B.returns
  have hlocks := B.notSynchronized
  have hts := atoms_spec (ws := Cond.code yX10_push cX10_push 3 none :: wK) B.pre
  have hD := hD0.self (sz := s.heap.size)
  have hA : ∀ q : Nat, s.heap.size ≤ q → va_A (cW G Q D T u) s.heap.size q := fun q h => Or.inr h
  generalize va_A (cW G Q D T u) s.heap.size = A at hD hA hE ⊢
  have hC : cX p c cX10_push 3 s m _ RX10 G Z A := ⟨B.exec, B.bytes, hml, findClass_of_methodNamed B.named, fun w h => hts w (List.mem_cons_of_mem _ h), hB, hE, hA⟩
  have hx := hC.1
  have hb := hC.2.1
  have hH : cH G Q D T A u s s.heap [] := ⟨hP, hD, va_S.rf⟩
  have hl := lv_entry ([.ref (Q 2), .int a0]) (n := 3) (Nat.le_of_ble_eq_true rfl)
  rw [lg_entry_eq]
  generalize (lg_sl ([.ref (Q 2), .int a0]) ++ List.replicate (3 - (lg_sl ([.ref (Q 2), .int a0])).length) Slot.unset).toArray = ls at hl ⊢
  have hl : lv_has ls 3 [(0, .ref (Q 2)), (1, .int a0)] := hl
  unfold x_X10_push at hF
  refine lv_bipush (v := 24) hx hb dX10_push_0 (by decide) ?_
  refine lv_istore_n (lv' := [(2, .int 24), (0, .ref (Q 2)), (1, .int a0)]) hx hb dX10_push_2 rfl hl (by decide) rfl (fun ls hl => ?_)
  have hL3 : ∀ (K3_41 : Int32 → Int32 → NG Int32), (∀ (v1 v2 : Int32) (u : MS) (D : Nat × Nat) (H : Heap) (locs : List Loc) (ls : Array Slot), lv_has ls 3 [(0, .ref (Q 2)), (1, .int v1), (2, .int v2)] → cH G Q D T A u s H locs → K3_41 v1 v2 u = some (r, u1) → W p l e (headSpec (Cond.code yX10_push cX10_push 3 none :: wK) { frames := 1, cells := 0, slots := 0, locals := 22 }).room s m [.ref (Q 2), .int a0].toArray below meth c H locs 0 0 (MQ below (cQv G Q T u1 A) [.ref (Q 2), .int a0].toArray s 0 0 A) (F0 m 41 ls [])) → ∀ (n3 : Nat) (v1 v2 : Int32) (u : MS) (D : Nat × Nat) (H : Heap) (locs : List Loc) (ls : Array Slot), lv_has ls 3 [(0, .ref (Q 2)), (1, .int v1), (2, .int v2)] → cH G Q D T A u s H locs → xl_X10_push_3 n3 v1 v2 K3_41 u = some (r, u1) → W p l e (headSpec (Cond.code yX10_push cX10_push 3 none :: wK) { frames := 1, cells := 0, slots := 0, locals := 22 }).room s m [.ref (Q 2), .int a0].toArray below meth c H locs 0 0 (MQ below (cQv G Q T u1 A) [.ref (Q 2), .int a0].toArray s 0 0 A) (F0 m 3 ls []) := by
    intro K3_41 hK3_41 n3
    induction n3 with
    | zero => intro v1 v2 u D H locs ls hl hH hF; cases hF
    | succ n3 ih3 =>
      intro v1 v2 u D H locs ls hl hH hF
      unfold xl_X10_push_3 at hF
      refine lv_iload_n hx hb dX10_push_3 rfl (lv_at hl 2 rfl) ?_
      refine lv_if_lt (tgt := 41) hx hb dX10_push_4 (by decide) (fun c_1 => ?_) (fun c_1 => ?_)
      · rw [if_pos c_1] at hF
        exact hK3_41 v1 v2 u _ _ _ _ (lv_sub hl [0, 1, 2] rfl) hH hF
      · rw [if_neg c_1] at hF
        refine lv_aload_n hx hb dX10_push_7 rfl (lv_at hl 0 rfl) ?_
        refine cg_X10_14 hC hH dX10_push_8 ?_
        refine lv_aload_n hx hb dX10_push_11 rfl (lv_at hl 0 rfl) ?_
        refine cg_X10_18 hC hH dX10_push_12 ?_
        obtain ⟨x_2, u_3, h_4, hF⟩ := ncl_some hF
        obtain ⟨e_5, rfl⟩ := nRF_eq h_4
        refine gx_ti e_5 ?_
        refine lv_iload_n hx hb dX10_push_15 rfl (lv_at hl 1 rfl) ?_
        refine lv_iload_n hx hb dX10_push_16 rfl (lv_at hl 2 rfl) ?_
        refine lv_ishr hx hb dX10_push_17 ?_
        refine lv_sipush (v := 255) hx hb dX10_push_18 (by decide) ?_
        refine lv_iand hx hb dX10_push_21 ?_
        obtain ⟨y_9, u_6, h_8, hF⟩ := ncl_some hF
        have e_7 := nST_eq h_8
        refine rs_3 hC hH e_7 wka140 ⟨Nat.le_of_ble_eq_true rfl, Nat.le_of_ble_eq_true rfl⟩ hl.1 (Nat.le_of_ble_eq_true rfl) ⟨Nat.zero_le _, Nat.zero_le _⟩ dX10_push_22 (fun H locs hH => ?_)
        refine lv_aload_n hx hb dX10_push_25 rfl (lv_at hl 0 rfl) ?_
        refine lv_dup hx hb dX10_push_26 rfl ?_
        refine cg_X10_18 hC hH dX10_push_27 ?_
        obtain ⟨x_10, u_11, h_12, hF⟩ := ncl_some hF
        obtain ⟨e_13, rfl⟩ := nRF_eq h_12
        refine gx_ti e_13 ?_
        refine lv_iconst (v := 1) hx hb dX10_push_30 (by decide) ?_
        refine lv_iadd hx hb dX10_push_31 ?_
        obtain ⟨y_17, u_14, h_16, hF⟩ := ncl_some hF
        have e_15 := nWF_eq h_16
        refine cp_X10_18 hC hH e_15 dX10_push_32 (fun H locs hH => ?_)
        obtain ⟨x_18, e_19, hF⟩ := nli_some hF
        refine lv_iinc (v := x_18) (lv' := [(2, .int x_18), (0, .ref (Q 2)), (1, .int v1)]) hx hb dX10_push_35 hl (k := 2) rfl e_19 (by decide) rfl (fun ls hl => ?_)
        refine lv_goto (tgt := 3) hx hb dX10_push_38 (by decide) ?_
        exact ih3 v1 x_18 u_14 _ _ _ _ (lv_sub hl [1, 2, 0] rfl) hH hF
  refine hL3 _ (fun v1 v2 u D H locs ls hl hH hF => ?_) fuel a0 24 u _ _ _ _ (lv_sub hl [1, 2, 0] rfl) hH hF
  exact cr_v hC hH hr (nrt_eq hF) dX10_push_41 hlocks
def x_X11_feed (a0 : Int32) (a1 : Int32) (a2 : Int32) (a3 : Int32) (a4 : Int32) : NG Int32 := ncl (nRF 2) (fun x_1 => (if (x_1 + 20) ≤ 3000 then ncl (x_X10_push a0) (fun r_6 => ncl (x_X10_push a1) (fun r_9 => ncl (x_X10_push a2) (fun r_12 => ncl (x_X10_push a3) (fun r_15 => ncl (x_X10_push a4) (fun r_18 => ncl (nRF 2) (fun x_21 => nrt x_21)))))) else nrt (-4)))
set_option maxHeartbeats 4000000 in
set_option maxRecDepth 100000 in
theorem n_X11_feed (l : Launch) (G : gG) (Z : gC) (Q : Nat → Nat) (D : Nat × Nat) (T : va_W) (u u1 : MS) (r : Int32) (a0 : Int32) (a1 : Int32) (a2 : Int32) (a3 : Int32) (a4 : Int32) (sz : Nat) (hF : x_X11_feed a0 a1 a2 a3 a4 u = some (r, u1)) : Met l yX11_feed (Cond.code yX11_feed cX11_feed 6 (some .int) :: wK) { frames := 2, cells := 0, slots := 0, locals := 44 } (va_Pc [.ref (Q 0), .int a0, .int a1, .int a2, .int a3, .int a4] (cPM G Z Q D T u sz)) (cQi G Q T u1 r (va_A (cW G Q D T u) sz)) 0 0 (va_A (cW G Q D T u) sz) := by
  refine Met.ofW (cc := cX11_feed) (maxL := 6) (ret := (some .int)) (by decide) rfl ?_
  intro p e s m args below meth c s₁ B hml hv
  obtain ⟨rfl, rfl, hP, hB, hD0, hE⟩ := hv
  have hr := B.returns
  have hlocks := B.notSynchronized
  have hts := atoms_spec (ws := Cond.code yX11_feed cX11_feed 6 (some .int) :: wK) B.pre
  have hD := hD0.self (sz := s.heap.size)
  have hA : ∀ q : Nat, s.heap.size ≤ q → va_A (cW G Q D T u) s.heap.size q := fun q h => Or.inr h
  generalize va_A (cW G Q D T u) s.heap.size = A at hD hA hE ⊢
  have hC : cX p c cX11_feed 6 s m _ RX11 G Z A := ⟨B.exec, B.bytes, hml, findClass_of_methodNamed B.named, fun w h => hts w (List.mem_cons_of_mem _ h), hB, hE, hA⟩
  have hx := hC.1
  have hb := hC.2.1
  have hH : cH G Q D T A u s s.heap [] := ⟨hP, hD, va_S.rf⟩
  have hl := lv_entry ([.ref (Q 0), .int a0, .int a1, .int a2, .int a3, .int a4]) (n := 6) (Nat.le_of_ble_eq_true rfl)
  rw [lg_entry_eq]
  generalize (lg_sl ([.ref (Q 0), .int a0, .int a1, .int a2, .int a3, .int a4]) ++ List.replicate (6 - (lg_sl ([.ref (Q 0), .int a0, .int a1, .int a2, .int a3, .int a4])).length) Slot.unset).toArray = ls at hl ⊢
  have hl : lv_has ls 6 [(0, .ref (Q 0)), (1, .int a0), (2, .int a1), (3, .int a2), (4, .int a3), (5, .int a4)] := hl
  unfold x_X11_feed at hF
  refine lv_aload_n hx hb dX11_feed_0 rfl (lv_at hl 0 rfl) ?_
  refine cg_X11_19 hC hH dX11_feed_1 ?_
  refine cg_X11_92 hC hH dX11_feed_4 ?_
  obtain ⟨x_1, u_2, h_3, hF⟩ := ncl_some hF
  obtain ⟨e_4, rfl⟩ := nRF_eq h_3
  refine gx_ti e_4 ?_
  refine lv_bipush (v := 20) hx hb dX11_feed_7 (by decide) ?_
  refine lv_iadd hx hb dX11_feed_9 ?_
  refine lv_sipush (v := 3000) hx hb dX11_feed_10 (by decide) ?_
  refine lv_icmp_le (tgt := 19) hx hb dX11_feed_13 (by decide) (fun c_5 => ?_) (fun c_5 => ?_)
  · rw [if_pos c_5] at hF
    refine lv_aload_n hx hb dX11_feed_19 rfl (lv_at hl 0 rfl) ?_
    refine cg_X11_19 hC hH dX11_feed_20 ?_
    refine lv_iload_n hx hb dX11_feed_23 rfl (lv_at hl 1 rfl) ?_
    obtain ⟨r_6, u_7, h_8, hF⟩ := ncl_some hF
    refine ccV_v (q0 := 2) (As := [.int a0]) (rest := []) hC hH (n_X10_push l G Z Q _ T u u_7 r_6 a0 _ h_8) rfl rfl ⟨wkc_X10_push, wka139, wka647, wka648, wka754⟩ kVX10_push ⟨Nat.le_of_ble_eq_true rfl, Nat.le_of_ble_eq_true rfl⟩ rfl hl.1 rfl (Nat.le_of_ble_eq_true rfl) dX11_feed_24 (fun D H locs hH => ?_)
    refine lv_aload_n hx hb dX11_feed_27 rfl (lv_at hl 0 rfl) ?_
    refine cg_X11_19 hC hH dX11_feed_28 ?_
    refine lv_iload_n hx hb dX11_feed_31 rfl (lv_at hl 2 rfl) ?_
    obtain ⟨r_9, u_10, h_11, hF⟩ := ncl_some hF
    refine ccV_v (q0 := 2) (As := [.int a1]) (rest := []) hC hH (n_X10_push l G Z Q _ T u_7 u_10 r_9 a1 _ h_11) rfl rfl ⟨wkc_X10_push, wka139, wka647, wka648, wka754⟩ kVX10_push ⟨Nat.le_of_ble_eq_true rfl, Nat.le_of_ble_eq_true rfl⟩ rfl hl.1 rfl (Nat.le_of_ble_eq_true rfl) dX11_feed_32 (fun D H locs hH => ?_)
    refine lv_aload_n hx hb dX11_feed_35 rfl (lv_at hl 0 rfl) ?_
    refine cg_X11_19 hC hH dX11_feed_36 ?_
    refine lv_iload_n hx hb dX11_feed_39 rfl (lv_at hl 3 rfl) ?_
    obtain ⟨r_12, u_13, h_14, hF⟩ := ncl_some hF
    refine ccV_v (q0 := 2) (As := [.int a2]) (rest := []) hC hH (n_X10_push l G Z Q _ T u_10 u_13 r_12 a2 _ h_14) rfl rfl ⟨wkc_X10_push, wka139, wka647, wka648, wka754⟩ kVX10_push ⟨Nat.le_of_ble_eq_true rfl, Nat.le_of_ble_eq_true rfl⟩ rfl hl.1 rfl (Nat.le_of_ble_eq_true rfl) dX11_feed_40 (fun D H locs hH => ?_)
    refine lv_aload_n hx hb dX11_feed_43 rfl (lv_at hl 0 rfl) ?_
    refine cg_X11_19 hC hH dX11_feed_44 ?_
    refine lv_iload hx hb dX11_feed_47 (lv_at hl 4 rfl) ?_
    obtain ⟨r_15, u_16, h_17, hF⟩ := ncl_some hF
    refine ccV_v (q0 := 2) (As := [.int a3]) (rest := []) hC hH (n_X10_push l G Z Q _ T u_13 u_16 r_15 a3 _ h_17) rfl rfl ⟨wkc_X10_push, wka139, wka647, wka648, wka754⟩ kVX10_push ⟨Nat.le_of_ble_eq_true rfl, Nat.le_of_ble_eq_true rfl⟩ rfl hl.1 rfl (Nat.le_of_ble_eq_true rfl) dX11_feed_49 (fun D H locs hH => ?_)
    refine lv_aload_n hx hb dX11_feed_52 rfl (lv_at hl 0 rfl) ?_
    refine cg_X11_19 hC hH dX11_feed_53 ?_
    refine lv_iload hx hb dX11_feed_56 (lv_at hl 5 rfl) ?_
    obtain ⟨r_18, u_19, h_20, hF⟩ := ncl_some hF
    refine ccV_v (q0 := 2) (As := [.int a4]) (rest := []) hC hH (n_X10_push l G Z Q _ T u_16 u_19 r_18 a4 _ h_20) rfl rfl ⟨wkc_X10_push, wka139, wka647, wka648, wka754⟩ kVX10_push ⟨Nat.le_of_ble_eq_true rfl, Nat.le_of_ble_eq_true rfl⟩ rfl hl.1 rfl (Nat.le_of_ble_eq_true rfl) dX11_feed_58 (fun D H locs hH => ?_)
    refine lv_aload_n hx hb dX11_feed_61 rfl (lv_at hl 0 rfl) ?_
    refine cg_X11_19 hC hH dX11_feed_62 ?_
    refine cg_X11_92 hC hH dX11_feed_65 ?_
    obtain ⟨x_21, u_22, h_23, hF⟩ := ncl_some hF
    obtain ⟨e_24, rfl⟩ := nRF_eq h_23
    refine gx_ti e_24 ?_
    exact cr_i hC hH hr (nrt_eq hF) dX11_feed_68 hlocks
  · rw [if_neg c_5] at hF
    refine lv_bipush (v := (-4)) hx hb dX11_feed_16 (by decide) ?_
    exact cr_i hC hH hr (nrt_eq hF) dX11_feed_18 hlocks
def x_X11_end (a0 : Int32) : NG Int32 := (if a0 < 0 then nrt (-1) else ncl (nRF 2) (fun x_2 => (if a0 ≤ x_2 then ncl (nWF 2 a0) (fun _ => nrt a0) else nrt (-1))))
set_option maxHeartbeats 4000000 in
set_option maxRecDepth 100000 in
theorem n_X11_end (l : Launch) (G : gG) (Z : gC) (Q : Nat → Nat) (D : Nat × Nat) (T : va_W) (u u1 : MS) (r : Int32) (a0 : Int32) (sz : Nat) (hF : x_X11_end a0 u = some (r, u1)) : Met l yX11_end (Cond.code yX11_end cX11_end 2 (some .int) :: wK) { frames := 0, cells := 0, slots := 0, locals := 0 } (va_Pc [.ref (Q 0), .int a0] (cPM G Z Q D T u sz)) (cQi G Q T u1 r (va_A (cW G Q D T u) sz)) 0 0 (va_A (cW G Q D T u) sz) := by
  refine Met.ofW (cc := cX11_end) (maxL := 2) (ret := (some .int)) (by decide) rfl ?_
  intro p e s m args below meth c s₁ B hml hv
  obtain ⟨rfl, rfl, hP, hB, hD0, hE⟩ := hv
  have hr := B.returns
  have hlocks := B.notSynchronized
  have hts := atoms_spec (ws := Cond.code yX11_end cX11_end 2 (some .int) :: wK) B.pre
  have hD := hD0.self (sz := s.heap.size)
  have hA : ∀ q : Nat, s.heap.size ≤ q → va_A (cW G Q D T u) s.heap.size q := fun q h => Or.inr h
  generalize va_A (cW G Q D T u) s.heap.size = A at hD hA hE ⊢
  have hC : cX p c cX11_end 2 s m _ RX11 G Z A := ⟨B.exec, B.bytes, hml, findClass_of_methodNamed B.named, fun w h => hts w (List.mem_cons_of_mem _ h), hB, hE, hA⟩
  have hx := hC.1
  have hb := hC.2.1
  have hH : cH G Q D T A u s s.heap [] := ⟨hP, hD, va_S.rf⟩
  have hl := lv_entry ([.ref (Q 0), .int a0]) (n := 2) (Nat.le_of_ble_eq_true rfl)
  rw [lg_entry_eq]
  generalize (lg_sl ([.ref (Q 0), .int a0]) ++ List.replicate (2 - (lg_sl ([.ref (Q 0), .int a0])).length) Slot.unset).toArray = ls at hl ⊢
  have hl : lv_has ls 2 [(0, .ref (Q 0)), (1, .int a0)] := hl
  unfold x_X11_end at hF
  refine lv_iload_n hx hb dX11_end_0 rfl (lv_at hl 1 rfl) ?_
  refine lv_if_lt (tgt := 15) hx hb dX11_end_1 (by decide) (fun c_1 => ?_) (fun c_1 => ?_)
  · rw [if_pos c_1] at hF
    refine lv_iconst (v := (-1)) hx hb dX11_end_15 (by decide) ?_
    exact cr_i hC hH hr (nrt_eq hF) dX11_end_16 hlocks
  · rw [if_neg c_1] at hF
    refine lv_iload_n hx hb dX11_end_4 rfl (lv_at hl 1 rfl) ?_
    refine lv_aload_n hx hb dX11_end_5 rfl (lv_at hl 0 rfl) ?_
    refine cg_X11_19 hC hH dX11_end_6 ?_
    refine cg_X11_92 hC hH dX11_end_9 ?_
    obtain ⟨x_2, u_3, h_4, hF⟩ := ncl_some hF
    obtain ⟨e_5, rfl⟩ := nRF_eq h_4
    refine gx_ti e_5 ?_
    refine lv_icmp_le (tgt := 17) hx hb dX11_end_12 (by decide) (fun c_6 => ?_) (fun c_6 => ?_)
    · rw [if_pos c_6] at hF
      refine lv_aload_n hx hb dX11_end_17 rfl (lv_at hl 0 rfl) ?_
      refine cg_X11_19 hC hH dX11_end_18 ?_
      refine lv_iload_n hx hb dX11_end_21 rfl (lv_at hl 1 rfl) ?_
      obtain ⟨y_10, u_7, h_9, hF⟩ := ncl_some hF
      have e_8 := nWF_eq h_9
      refine cp_X11_92 hC hH e_8 dX11_end_22 (fun H locs hH => ?_)
      refine lv_iload_n hx hb dX11_end_25 rfl (lv_at hl 1 rfl) ?_
      exact cr_i hC hH hr (nrt_eq hF) dX11_end_26 hlocks
    · rw [if_neg c_6] at hF
      refine lv_iconst (v := (-1)) hx hb dX11_end_15 (by decide) ?_
      exact cr_i hC hH hr (nrt_eq hF) dX11_end_16 hlocks
def x_X11_fault (a0 : Int32) : NG Int32 := (if a0 = 0 then ncl (nRF 11) (fun x_7 => nrt x_7) else (if a0 = 1 then ncl (nRF 10) (fun x_3 => nrt x_3) else nrt (-1)))
set_option maxHeartbeats 4000000 in
set_option maxRecDepth 100000 in
theorem n_X11_fault (l : Launch) (G : gG) (Z : gC) (Q : Nat → Nat) (D : Nat × Nat) (T : va_W) (u u1 : MS) (r : Int32) (a0 : Int32) (sz : Nat) (hF : x_X11_fault a0 u = some (r, u1)) : Met l yX11_fault (Cond.code yX11_fault cX11_fault 2 (some .int) :: wK) { frames := 0, cells := 0, slots := 0, locals := 0 } (va_Pc [.ref (Q 0), .int a0] (cPM G Z Q D T u sz)) (cQi G Q T u1 r (va_A (cW G Q D T u) sz)) 0 0 (va_A (cW G Q D T u) sz) := by
  refine Met.ofW (cc := cX11_fault) (maxL := 2) (ret := (some .int)) (by decide) rfl ?_
  intro p e s m args below meth c s₁ B hml hv
  obtain ⟨rfl, rfl, hP, hB, hD0, hE⟩ := hv
  have hr := B.returns
  have hlocks := B.notSynchronized
  have hts := atoms_spec (ws := Cond.code yX11_fault cX11_fault 2 (some .int) :: wK) B.pre
  have hD := hD0.self (sz := s.heap.size)
  have hA : ∀ q : Nat, s.heap.size ≤ q → va_A (cW G Q D T u) s.heap.size q := fun q h => Or.inr h
  generalize va_A (cW G Q D T u) s.heap.size = A at hD hA hE ⊢
  have hC : cX p c cX11_fault 2 s m _ RX11 G Z A := ⟨B.exec, B.bytes, hml, findClass_of_methodNamed B.named, fun w h => hts w (List.mem_cons_of_mem _ h), hB, hE, hA⟩
  have hx := hC.1
  have hb := hC.2.1
  have hH : cH G Q D T A u s s.heap [] := ⟨hP, hD, va_S.rf⟩
  have hl := lv_entry ([.ref (Q 0), .int a0]) (n := 2) (Nat.le_of_ble_eq_true rfl)
  rw [lg_entry_eq]
  generalize (lg_sl ([.ref (Q 0), .int a0]) ++ List.replicate (2 - (lg_sl ([.ref (Q 0), .int a0])).length) Slot.unset).toArray = ls at hl ⊢
  have hl : lv_has ls 2 [(0, .ref (Q 0)), (1, .int a0)] := hl
  unfold x_X11_fault at hF
  refine lv_iload_n hx hb dX11_fault_0 rfl (lv_at hl 1 rfl) ?_
  refine lv_if_ne (tgt := 12) hx hb dX11_fault_1 (by decide) (fun c_1 => ?_) (fun c_1 => ?_)
  · rw [if_neg c_1] at hF
    refine lv_iload_n hx hb dX11_fault_12 rfl (lv_at hl 1 rfl) ?_
    refine lv_iconst (v := 1) hx hb dX11_fault_13 (by decide) ?_
    refine lv_icmp_ne (tgt := 27) hx hb dX11_fault_14 (by decide) (fun c_2 => ?_) (fun c_2 => ?_)
    · rw [if_neg c_2] at hF
      refine lv_iconst (v := (-1)) hx hb dX11_fault_27 (by decide) ?_
      exact cr_i hC hH hr (nrt_eq hF) dX11_fault_28 hlocks
    · rw [if_pos c_2] at hF
      refine lv_aload_n hx hb dX11_fault_17 rfl (lv_at hl 0 rfl) ?_
      refine cg_X11_28 hC hH dX11_fault_18 ?_
      refine cg_X11_131 hC hH dX11_fault_21 ?_
      obtain ⟨x_3, u_4, h_5, hF⟩ := ncl_some hF
      obtain ⟨e_6, rfl⟩ := nRF_eq h_5
      refine gx_ti e_6 ?_
      refine lv_goto (tgt := 28) hx hb dX11_fault_24 (by decide) ?_
      exact cr_i hC hH hr (nrt_eq hF) dX11_fault_28 hlocks
  · rw [if_pos c_1] at hF
    refine lv_aload_n hx hb dX11_fault_4 rfl (lv_at hl 0 rfl) ?_
    refine cg_X11_28 hC hH dX11_fault_5 ?_
    refine cg_X11_128 hC hH dX11_fault_8 ?_
    obtain ⟨x_7, u_8, h_9, hF⟩ := ncl_some hF
    obtain ⟨e_10, rfl⟩ := nRF_eq h_9
    refine gx_ti e_10 ?_
    exact cr_i hC hH hr (nrt_eq hF) dX11_fault_11 hlocks
def x_X11_fighter (a0 : Int32) (a1 : Int32) : NG Int32 := ncl (x_X8_has a0) (fun r_1 => (if r_1 = 0 then nrt (-1) else (if a1 = 0 then ncl (x_X1_ofFighter a0 0) (fun r_6 => ncl (nGT 0 2088 r_6) (fun x_9 => nrt x_9)) else if a1 = 1 then ncl (x_X1_ofFighter a0 1) (fun r_14 => ncl (nGT 0 2088 r_14) (fun x_17 => nrt x_17)) else if a1 = 2 then ncl (x_X1_ofFighter a0 2) (fun r_22 => ncl (nGT 0 2088 r_22) (fun x_25 => nrt x_25)) else if a1 = 3 then ncl (x_X1_ofFighter a0 3) (fun r_30 => ncl (nGT 0 2088 r_30) (fun x_33 => nrt x_33)) else if a1 = 4 then ncl (x_X1_ofFighter a0 4) (fun r_38 => ncl (nGT 0 2088 r_38) (fun x_41 => nrt x_41)) else if a1 = 5 then ncl (x_X1_ofFighter a0 5) (fun r_46 => ncl (nGT 0 2088 r_46) (fun x_49 => nrt x_49)) else if a1 = 6 then ncl (x_X1_ofFighter a0 6) (fun r_54 => ncl (nGT 0 2088 r_54) (fun x_57 => nrt x_57)) else nrt (-1))))
set_option maxHeartbeats 4000000 in
set_option maxRecDepth 100000 in
theorem n_X11_fighter (l : Launch) (G : gG) (Z : gC) (Q : Nat → Nat) (D : Nat × Nat) (T : va_W) (u u1 : MS) (r : Int32) (a0 : Int32) (a1 : Int32) (sz : Nat) (hF : x_X11_fighter a0 a1 u = some (r, u1)) : Met l yX11_fighter (Cond.code yX11_fighter cX11_fighter 3 (some .int) :: wK) { frames := 3, cells := 0, slots := 0, locals := 63 } (va_Pc [.ref (Q 0), .int a0, .int a1] (cPM G Z Q D T u sz)) (cQi G Q T u1 r (va_A (cW G Q D T u) sz)) 0 0 (va_A (cW G Q D T u) sz) := by
  refine Met.ofW (cc := cX11_fighter) (maxL := 3) (ret := (some .int)) (by decide) rfl ?_
  intro p e s m args below meth c s₁ B hml hv
  obtain ⟨rfl, rfl, hP, hB, hD0, hE⟩ := hv
  have hr := B.returns
  have hlocks := B.notSynchronized
  have hts := atoms_spec (ws := Cond.code yX11_fighter cX11_fighter 3 (some .int) :: wK) B.pre
  have hD := hD0.self (sz := s.heap.size)
  have hA : ∀ q : Nat, s.heap.size ≤ q → va_A (cW G Q D T u) s.heap.size q := fun q h => Or.inr h
  generalize va_A (cW G Q D T u) s.heap.size = A at hD hA hE ⊢
  have hC : cX p c cX11_fighter 3 s m _ RX11 G Z A := ⟨B.exec, B.bytes, hml, findClass_of_methodNamed B.named, fun w h => hts w (List.mem_cons_of_mem _ h), hB, hE, hA⟩
  have hx := hC.1
  have hb := hC.2.1
  have hH : cH G Q D T A u s s.heap [] := ⟨hP, hD, va_S.rf⟩
  have hl := lv_entry ([.ref (Q 0), .int a0, .int a1]) (n := 3) (Nat.le_of_ble_eq_true rfl)
  rw [lg_entry_eq]
  generalize (lg_sl ([.ref (Q 0), .int a0, .int a1]) ++ List.replicate (3 - (lg_sl ([.ref (Q 0), .int a0, .int a1])).length) Slot.unset).toArray = ls at hl ⊢
  have hl : lv_has ls 3 [(0, .ref (Q 0)), (1, .int a0), (2, .int a1)] := hl
  unfold x_X11_fighter at hF
  refine lv_aload_n hx hb dX11_fighter_0 rfl (lv_at hl 0 rfl) ?_
  refine cg_X11_37 hC hH dX11_fighter_1 ?_
  refine lv_iload_n hx hb dX11_fighter_4 rfl (lv_at hl 1 rfl) ?_
  obtain ⟨r_1, u_2, h_3, hF⟩ := ncl_some hF
  refine ccV_i (q0 := 4) (As := [.int a0]) (rest := []) hC hH (n_X8_has l G Z Q _ T u u_2 r_1 a0 _ h_3) rfl rfl ⟨wkc_X8_has, wka223, wka630, wka631, wka752⟩ kVX8_has ⟨Nat.le_of_ble_eq_true rfl, Nat.le_of_ble_eq_true rfl⟩ rfl hl.1 rfl (Nat.le_of_ble_eq_true rfl) dX11_fighter_5 (fun D H locs hH => ?_)
  refine lv_if_ne (tgt := 13) hx hb dX11_fighter_8 (by decide) (fun c_4 => ?_) (fun c_4 => ?_)
  · rw [if_neg c_4] at hF
    refine lv_iload_n hx hb dX11_fighter_13 rfl (lv_at hl 2 rfl) ?_
    by_cases c_5 : a1 = 0
    · rw [if_pos c_5] at hF
      refine gx_ti (y := 0) c_5 ?_
      refine lv_tableIn (off := 42) (tgt := 56) hx hb dX11_fighter_14 (by decide) (by decide) rfl (by decide) ?_
      refine lv_aload_n hx hb dX11_fighter_56 rfl (lv_at hl 0 rfl) ?_
      refine cg_X11_10 hC hH dX11_fighter_57 ?_
      refine lv_iload_n hx hb dX11_fighter_60 rfl (lv_at hl 1 rfl) ?_
      refine lv_iconst (v := 0) hx hb dX11_fighter_61 (by decide) ?_
      obtain ⟨r_6, u_7, h_8, hF⟩ := ncl_some hF
      refine ccS_i (As := [.int a0, .int 0]) (rest := [.ref (Q 1)]) hC hH (n_X1_ofFighter l G Z Q _ T u_2 u_7 r_6 a0 0 _ h_8) ⟨wkc_X1_ofFighter, wka228, wka436, wka745⟩ kSX1_ofFighter ⟨Nat.le_of_ble_eq_true rfl, Nat.le_of_ble_eq_true rfl⟩ rfl hl.1 rfl (Nat.le_of_ble_eq_true rfl) dX11_fighter_62 (fun D H locs hH => ?_)
      refine bat (i := 1) (j := 11) hC hH rfl rfl (by decide) wka197 ⟨Nat.le_of_ble_eq_true rfl, Nat.le_of_ble_eq_true rfl⟩ hl.1 (Nat.le_of_ble_eq_true rfl) ⟨Nat.zero_le _, Nat.zero_le _⟩ dX11_fighter_65 ?_
      obtain ⟨x_9, u_10, h_11, hF⟩ := ncl_some hF
      obtain ⟨e_12, rfl⟩ := nGT_eq h_11
      refine gx_ti e_12 ?_
      exact cr_i hC hH hr (nrt_eq hF) dX11_fighter_68 hlocks
    rw [if_neg c_5] at hF
    by_cases c_13 : a1 = 1
    · rw [if_pos c_13] at hF
      refine gx_ti (y := 1) c_13 ?_
      refine lv_tableIn (off := 55) (tgt := 69) hx hb dX11_fighter_14 (by decide) (by decide) rfl (by decide) ?_
      refine lv_aload_n hx hb dX11_fighter_69 rfl (lv_at hl 0 rfl) ?_
      refine cg_X11_10 hC hH dX11_fighter_70 ?_
      refine lv_iload_n hx hb dX11_fighter_73 rfl (lv_at hl 1 rfl) ?_
      refine lv_iconst (v := 1) hx hb dX11_fighter_74 (by decide) ?_
      obtain ⟨r_14, u_15, h_16, hF⟩ := ncl_some hF
      refine ccS_i (As := [.int a0, .int 1]) (rest := [.ref (Q 1)]) hC hH (n_X1_ofFighter l G Z Q _ T u_2 u_15 r_14 a0 1 _ h_16) ⟨wkc_X1_ofFighter, wka228, wka436, wka745⟩ kSX1_ofFighter ⟨Nat.le_of_ble_eq_true rfl, Nat.le_of_ble_eq_true rfl⟩ rfl hl.1 rfl (Nat.le_of_ble_eq_true rfl) dX11_fighter_75 (fun D H locs hH => ?_)
      refine bat (i := 1) (j := 11) hC hH rfl rfl (by decide) wka197 ⟨Nat.le_of_ble_eq_true rfl, Nat.le_of_ble_eq_true rfl⟩ hl.1 (Nat.le_of_ble_eq_true rfl) ⟨Nat.zero_le _, Nat.zero_le _⟩ dX11_fighter_78 ?_
      obtain ⟨x_17, u_18, h_19, hF⟩ := ncl_some hF
      obtain ⟨e_20, rfl⟩ := nGT_eq h_19
      refine gx_ti e_20 ?_
      exact cr_i hC hH hr (nrt_eq hF) dX11_fighter_81 hlocks
    rw [if_neg c_13] at hF
    by_cases c_21 : a1 = 2
    · rw [if_pos c_21] at hF
      refine gx_ti (y := 2) c_21 ?_
      refine lv_tableIn (off := 68) (tgt := 82) hx hb dX11_fighter_14 (by decide) (by decide) rfl (by decide) ?_
      refine lv_aload_n hx hb dX11_fighter_82 rfl (lv_at hl 0 rfl) ?_
      refine cg_X11_10 hC hH dX11_fighter_83 ?_
      refine lv_iload_n hx hb dX11_fighter_86 rfl (lv_at hl 1 rfl) ?_
      refine lv_iconst (v := 2) hx hb dX11_fighter_87 (by decide) ?_
      obtain ⟨r_22, u_23, h_24, hF⟩ := ncl_some hF
      refine ccS_i (As := [.int a0, .int 2]) (rest := [.ref (Q 1)]) hC hH (n_X1_ofFighter l G Z Q _ T u_2 u_23 r_22 a0 2 _ h_24) ⟨wkc_X1_ofFighter, wka228, wka436, wka745⟩ kSX1_ofFighter ⟨Nat.le_of_ble_eq_true rfl, Nat.le_of_ble_eq_true rfl⟩ rfl hl.1 rfl (Nat.le_of_ble_eq_true rfl) dX11_fighter_88 (fun D H locs hH => ?_)
      refine bat (i := 1) (j := 11) hC hH rfl rfl (by decide) wka197 ⟨Nat.le_of_ble_eq_true rfl, Nat.le_of_ble_eq_true rfl⟩ hl.1 (Nat.le_of_ble_eq_true rfl) ⟨Nat.zero_le _, Nat.zero_le _⟩ dX11_fighter_91 ?_
      obtain ⟨x_25, u_26, h_27, hF⟩ := ncl_some hF
      obtain ⟨e_28, rfl⟩ := nGT_eq h_27
      refine gx_ti e_28 ?_
      exact cr_i hC hH hr (nrt_eq hF) dX11_fighter_94 hlocks
    rw [if_neg c_21] at hF
    by_cases c_29 : a1 = 3
    · rw [if_pos c_29] at hF
      refine gx_ti (y := 3) c_29 ?_
      refine lv_tableIn (off := 81) (tgt := 95) hx hb dX11_fighter_14 (by decide) (by decide) rfl (by decide) ?_
      refine lv_aload_n hx hb dX11_fighter_95 rfl (lv_at hl 0 rfl) ?_
      refine cg_X11_10 hC hH dX11_fighter_96 ?_
      refine lv_iload_n hx hb dX11_fighter_99 rfl (lv_at hl 1 rfl) ?_
      refine lv_iconst (v := 3) hx hb dX11_fighter_100 (by decide) ?_
      obtain ⟨r_30, u_31, h_32, hF⟩ := ncl_some hF
      refine ccS_i (As := [.int a0, .int 3]) (rest := [.ref (Q 1)]) hC hH (n_X1_ofFighter l G Z Q _ T u_2 u_31 r_30 a0 3 _ h_32) ⟨wkc_X1_ofFighter, wka228, wka436, wka745⟩ kSX1_ofFighter ⟨Nat.le_of_ble_eq_true rfl, Nat.le_of_ble_eq_true rfl⟩ rfl hl.1 rfl (Nat.le_of_ble_eq_true rfl) dX11_fighter_101 (fun D H locs hH => ?_)
      refine bat (i := 1) (j := 11) hC hH rfl rfl (by decide) wka197 ⟨Nat.le_of_ble_eq_true rfl, Nat.le_of_ble_eq_true rfl⟩ hl.1 (Nat.le_of_ble_eq_true rfl) ⟨Nat.zero_le _, Nat.zero_le _⟩ dX11_fighter_104 ?_
      obtain ⟨x_33, u_34, h_35, hF⟩ := ncl_some hF
      obtain ⟨e_36, rfl⟩ := nGT_eq h_35
      refine gx_ti e_36 ?_
      exact cr_i hC hH hr (nrt_eq hF) dX11_fighter_107 hlocks
    rw [if_neg c_29] at hF
    by_cases c_37 : a1 = 4
    · rw [if_pos c_37] at hF
      refine gx_ti (y := 4) c_37 ?_
      refine lv_tableIn (off := 94) (tgt := 108) hx hb dX11_fighter_14 (by decide) (by decide) rfl (by decide) ?_
      refine lv_aload_n hx hb dX11_fighter_108 rfl (lv_at hl 0 rfl) ?_
      refine cg_X11_10 hC hH dX11_fighter_109 ?_
      refine lv_iload_n hx hb dX11_fighter_112 rfl (lv_at hl 1 rfl) ?_
      refine lv_iconst (v := 4) hx hb dX11_fighter_113 (by decide) ?_
      obtain ⟨r_38, u_39, h_40, hF⟩ := ncl_some hF
      refine ccS_i (As := [.int a0, .int 4]) (rest := [.ref (Q 1)]) hC hH (n_X1_ofFighter l G Z Q _ T u_2 u_39 r_38 a0 4 _ h_40) ⟨wkc_X1_ofFighter, wka228, wka436, wka745⟩ kSX1_ofFighter ⟨Nat.le_of_ble_eq_true rfl, Nat.le_of_ble_eq_true rfl⟩ rfl hl.1 rfl (Nat.le_of_ble_eq_true rfl) dX11_fighter_114 (fun D H locs hH => ?_)
      refine bat (i := 1) (j := 11) hC hH rfl rfl (by decide) wka197 ⟨Nat.le_of_ble_eq_true rfl, Nat.le_of_ble_eq_true rfl⟩ hl.1 (Nat.le_of_ble_eq_true rfl) ⟨Nat.zero_le _, Nat.zero_le _⟩ dX11_fighter_117 ?_
      obtain ⟨x_41, u_42, h_43, hF⟩ := ncl_some hF
      obtain ⟨e_44, rfl⟩ := nGT_eq h_43
      refine gx_ti e_44 ?_
      exact cr_i hC hH hr (nrt_eq hF) dX11_fighter_120 hlocks
    rw [if_neg c_37] at hF
    by_cases c_45 : a1 = 5
    · rw [if_pos c_45] at hF
      refine gx_ti (y := 5) c_45 ?_
      refine lv_tableIn (off := 107) (tgt := 121) hx hb dX11_fighter_14 (by decide) (by decide) rfl (by decide) ?_
      refine lv_aload_n hx hb dX11_fighter_121 rfl (lv_at hl 0 rfl) ?_
      refine cg_X11_10 hC hH dX11_fighter_122 ?_
      refine lv_iload_n hx hb dX11_fighter_125 rfl (lv_at hl 1 rfl) ?_
      refine lv_iconst (v := 5) hx hb dX11_fighter_126 (by decide) ?_
      obtain ⟨r_46, u_47, h_48, hF⟩ := ncl_some hF
      refine ccS_i (As := [.int a0, .int 5]) (rest := [.ref (Q 1)]) hC hH (n_X1_ofFighter l G Z Q _ T u_2 u_47 r_46 a0 5 _ h_48) ⟨wkc_X1_ofFighter, wka228, wka436, wka745⟩ kSX1_ofFighter ⟨Nat.le_of_ble_eq_true rfl, Nat.le_of_ble_eq_true rfl⟩ rfl hl.1 rfl (Nat.le_of_ble_eq_true rfl) dX11_fighter_127 (fun D H locs hH => ?_)
      refine bat (i := 1) (j := 11) hC hH rfl rfl (by decide) wka197 ⟨Nat.le_of_ble_eq_true rfl, Nat.le_of_ble_eq_true rfl⟩ hl.1 (Nat.le_of_ble_eq_true rfl) ⟨Nat.zero_le _, Nat.zero_le _⟩ dX11_fighter_130 ?_
      obtain ⟨x_49, u_50, h_51, hF⟩ := ncl_some hF
      obtain ⟨e_52, rfl⟩ := nGT_eq h_51
      refine gx_ti e_52 ?_
      exact cr_i hC hH hr (nrt_eq hF) dX11_fighter_133 hlocks
    rw [if_neg c_45] at hF
    by_cases c_53 : a1 = 6
    · rw [if_pos c_53] at hF
      refine gx_ti (y := 6) c_53 ?_
      refine lv_tableIn (off := 120) (tgt := 134) hx hb dX11_fighter_14 (by decide) (by decide) rfl (by decide) ?_
      refine lv_aload_n hx hb dX11_fighter_134 rfl (lv_at hl 0 rfl) ?_
      refine cg_X11_10 hC hH dX11_fighter_135 ?_
      refine lv_iload_n hx hb dX11_fighter_138 rfl (lv_at hl 1 rfl) ?_
      refine lv_bipush (v := 6) hx hb dX11_fighter_139 (by decide) ?_
      obtain ⟨r_54, u_55, h_56, hF⟩ := ncl_some hF
      refine ccS_i (As := [.int a0, .int 6]) (rest := [.ref (Q 1)]) hC hH (n_X1_ofFighter l G Z Q _ T u_2 u_55 r_54 a0 6 _ h_56) ⟨wkc_X1_ofFighter, wka228, wka436, wka745⟩ kSX1_ofFighter ⟨Nat.le_of_ble_eq_true rfl, Nat.le_of_ble_eq_true rfl⟩ rfl hl.1 rfl (Nat.le_of_ble_eq_true rfl) dX11_fighter_141 (fun D H locs hH => ?_)
      refine bat (i := 1) (j := 11) hC hH rfl rfl (by decide) wka197 ⟨Nat.le_of_ble_eq_true rfl, Nat.le_of_ble_eq_true rfl⟩ hl.1 (Nat.le_of_ble_eq_true rfl) ⟨Nat.zero_le _, Nat.zero_le _⟩ dX11_fighter_144 ?_
      obtain ⟨x_57, u_58, h_59, hF⟩ := ncl_some hF
      obtain ⟨e_60, rfl⟩ := nGT_eq h_59
      refine gx_ti e_60 ?_
      exact cr_i hC hH hr (nrt_eq hF) dX11_fighter_147 hlocks
    rw [if_neg c_53] at hF
    refine lv_tableOut (tgt := 148) hx hb dX11_fighter_14 (by have q0 := gl_ne c_5 (a := 0) (by decide); have q1 := gl_ne c_13 (a := 1) (by decide); have q2 := gl_ne c_21 (a := 2) (by decide); have q3 := gl_ne c_29 (a := 3) (by decide); have q4 := gl_ne c_37 (a := 4) (by decide); have q5 := gl_ne c_45 (a := 5) (by decide); have q6 := gl_ne c_53 (a := 6) (by decide); omega) (by decide) ?_
    refine lv_iconst (v := (-1)) hx hb dX11_fighter_148 (by decide) ?_
    exact cr_i hC hH hr (nrt_eq hF) dX11_fighter_149 hlocks
  · rw [if_pos c_4] at hF
    refine lv_iconst (v := (-1)) hx hb dX11_fighter_11 (by decide) ?_
    exact cr_i hC hH hr (nrt_eq hF) dX11_fighter_12 hlocks
def x_X11_about (a0 : Int32) (a1 : Int32) : NG Int32 := ncl (x_X11_isClass a0) (fun r_1 => (if r_1 = 0 then nrt (-1) else (if a1 = 0 then ncl (x_X8_fightersOf a0) (fun r_6 => nrt r_6) else if a1 = 1 then ncl (x_X8_weighedOf a0) (fun r_10 => nrt r_10) else if a1 = 2 then ncl (x_X0_kindOf a0) (fun r_14 => nrt r_14) else if a1 = 3 then ncl (x_X0_isDrawn a0) (fun r_18 => (if r_18 = 0 then nrt (-1) else ncl (x_X0_sizeOf a0) (fun r_22 => nrt r_22))) else if a1 = 4 then ncl (x_X0_fightsOf a0) (fun r_26 => nrt r_26) else if a1 = 5 then ncl (x_X0_howMany a0 3) (fun r_30 => nrt r_30) else if a1 = 6 then ncl (x_X0_howMany a0 4) (fun r_34 => nrt r_34) else ncl (x_X0_onPlace a0 (a1 - 100)) (fun r_37 => nrt r_37))))
set_option maxHeartbeats 4000000 in
set_option maxRecDepth 100000 in
theorem n_X11_about (l : Launch) (G : gG) (Z : gC) (Q : Nat → Nat) (D : Nat × Nat) (T : va_W) (u u1 : MS) (r : Int32) (a0 : Int32) (a1 : Int32) (sz : Nat) (hF : x_X11_about a0 a1 u = some (r, u1)) : Met l yX11_about (Cond.code yX11_about cX11_about 3 (some .int) :: wK) { frames := 4, cells := 0, slots := 0, locals := 89 } (va_Pc [.ref (Q 0), .int a0, .int a1] (cPM G Z Q D T u sz)) (cQi G Q T u1 r (va_A (cW G Q D T u) sz)) 0 0 (va_A (cW G Q D T u) sz) := by
  refine Met.ofW (cc := cX11_about) (maxL := 3) (ret := (some .int)) (by decide) rfl ?_
  intro p e s m args below meth c s₁ B hml hv
  obtain ⟨rfl, rfl, hP, hB, hD0, hE⟩ := hv
  have hr := B.returns
  have hlocks := B.notSynchronized
  have hts := atoms_spec (ws := Cond.code yX11_about cX11_about 3 (some .int) :: wK) B.pre
  have hD := hD0.self (sz := s.heap.size)
  have hA : ∀ q : Nat, s.heap.size ≤ q → va_A (cW G Q D T u) s.heap.size q := fun q h => Or.inr h
  generalize va_A (cW G Q D T u) s.heap.size = A at hD hA hE ⊢
  have hC : cX p c cX11_about 3 s m _ RX11 G Z A := ⟨B.exec, B.bytes, hml, findClass_of_methodNamed B.named, fun w h => hts w (List.mem_cons_of_mem _ h), hB, hE, hA⟩
  have hx := hC.1
  have hb := hC.2.1
  have hH : cH G Q D T A u s s.heap [] := ⟨hP, hD, va_S.rf⟩
  have hl := lv_entry ([.ref (Q 0), .int a0, .int a1]) (n := 3) (Nat.le_of_ble_eq_true rfl)
  rw [lg_entry_eq]
  generalize (lg_sl ([.ref (Q 0), .int a0, .int a1]) ++ List.replicate (3 - (lg_sl ([.ref (Q 0), .int a0, .int a1])).length) Slot.unset).toArray = ls at hl ⊢
  have hl : lv_has ls 3 [(0, .ref (Q 0)), (1, .int a0), (2, .int a1)] := hl
  unfold x_X11_about at hF
  refine lv_iload_n hx hb dX11_about_0 rfl (lv_at hl 1 rfl) ?_
  obtain ⟨r_1, u_2, h_3, hF⟩ := ncl_some hF
  refine ccS_i (As := [.int a0]) (rest := []) hC hH (n_X11_isClass l G Z Q _ T u u_2 r_1 a0 _ h_3) ⟨wkc_X11_isClass, wka207, wka728, wka755⟩ kSX11_isClass ⟨Nat.le_of_ble_eq_true rfl, Nat.le_of_ble_eq_true rfl⟩ rfl hl.1 rfl (Nat.le_of_ble_eq_true rfl) dX11_about_1 (fun D H locs hH => ?_)
  refine lv_if_ne (tgt := 9) hx hb dX11_about_4 (by decide) (fun c_4 => ?_) (fun c_4 => ?_)
  · rw [if_neg c_4] at hF
    refine lv_iload_n hx hb dX11_about_9 rfl (lv_at hl 2 rfl) ?_
    by_cases c_5 : a1 = 0
    · rw [if_pos c_5] at hF
      refine gx_ti (y := 0) c_5 ?_
      refine lv_tableIn (off := 42) (tgt := 52) hx hb dX11_about_10 (by decide) (by decide) rfl (by decide) ?_
      refine lv_aload_n hx hb dX11_about_52 rfl (lv_at hl 0 rfl) ?_
      refine cg_X11_37 hC hH dX11_about_53 ?_
      refine lv_iload_n hx hb dX11_about_56 rfl (lv_at hl 1 rfl) ?_
      obtain ⟨r_6, u_7, h_8, hF⟩ := ncl_some hF
      refine ccV_i (q0 := 4) (As := [.int a0]) (rest := []) hC hH (n_X8_fightersOf l G Z Q _ T u_2 u_7 r_6 a0 _ h_8) rfl rfl ⟨wkc_X8_fightersOf, wka273, wka642, wka643, wka752⟩ kVX8_fightersOf ⟨Nat.le_of_ble_eq_true rfl, Nat.le_of_ble_eq_true rfl⟩ rfl hl.1 rfl (Nat.le_of_ble_eq_true rfl) dX11_about_57 (fun D H locs hH => ?_)
      exact cr_i hC hH hr (nrt_eq hF) dX11_about_60 hlocks
    rw [if_neg c_5] at hF
    by_cases c_9 : a1 = 1
    · rw [if_pos c_9] at hF
      refine gx_ti (y := 1) c_9 ?_
      refine lv_tableIn (off := 51) (tgt := 61) hx hb dX11_about_10 (by decide) (by decide) rfl (by decide) ?_
      refine lv_aload_n hx hb dX11_about_61 rfl (lv_at hl 0 rfl) ?_
      refine cg_X11_37 hC hH dX11_about_62 ?_
      refine lv_iload_n hx hb dX11_about_65 rfl (lv_at hl 1 rfl) ?_
      obtain ⟨r_10, u_11, h_12, hF⟩ := ncl_some hF
      refine ccV_i (q0 := 4) (As := [.int a0]) (rest := []) hC hH (n_X8_weighedOf l G Z Q _ T u_2 u_11 r_10 a0 _ h_12) rfl rfl ⟨wkc_X8_weighedOf, wka229, wka644, wka645, wka752⟩ kVX8_weighedOf ⟨Nat.le_of_ble_eq_true rfl, Nat.le_of_ble_eq_true rfl⟩ rfl hl.1 rfl (Nat.le_of_ble_eq_true rfl) dX11_about_66 (fun D H locs hH => ?_)
      exact cr_i hC hH hr (nrt_eq hF) dX11_about_69 hlocks
    rw [if_neg c_9] at hF
    by_cases c_13 : a1 = 2
    · rw [if_pos c_13] at hF
      refine gx_ti (y := 2) c_13 ?_
      refine lv_tableIn (off := 60) (tgt := 70) hx hb dX11_about_10 (by decide) (by decide) rfl (by decide) ?_
      refine lv_aload_n hx hb dX11_about_70 rfl (lv_at hl 0 rfl) ?_
      refine cg_X11_51 hC hH dX11_about_71 ?_
      refine lv_iload_n hx hb dX11_about_74 rfl (lv_at hl 1 rfl) ?_
      obtain ⟨r_14, u_15, h_16, hF⟩ := ncl_some hF
      refine ccV_i (q0 := 6) (As := [.int a0]) (rest := []) hC hH (n_X0_kindOf l G Z Q _ T u_2 u_15 r_14 a0 _ h_16) rfl rfl ⟨wkc_X0_kindOf, wka274, wka388, wka389, wka744⟩ kVX0_kindOf ⟨Nat.le_of_ble_eq_true rfl, Nat.le_of_ble_eq_true rfl⟩ rfl hl.1 rfl (Nat.le_of_ble_eq_true rfl) dX11_about_75 (fun D H locs hH => ?_)
      exact cr_i hC hH hr (nrt_eq hF) dX11_about_78 hlocks
    rw [if_neg c_13] at hF
    by_cases c_17 : a1 = 3
    · rw [if_pos c_17] at hF
      refine gx_ti (y := 3) c_17 ?_
      refine lv_tableIn (off := 69) (tgt := 79) hx hb dX11_about_10 (by decide) (by decide) rfl (by decide) ?_
      refine lv_aload_n hx hb dX11_about_79 rfl (lv_at hl 0 rfl) ?_
      refine cg_X11_51 hC hH dX11_about_80 ?_
      refine lv_iload_n hx hb dX11_about_83 rfl (lv_at hl 1 rfl) ?_
      obtain ⟨r_18, u_19, h_20, hF⟩ := ncl_some hF
      refine ccV_i (q0 := 6) (As := [.int a0]) (rest := []) hC hH (n_X0_isDrawn l G Z Q _ T u_2 u_19 r_18 a0 _ h_20) rfl rfl ⟨wkc_X0_isDrawn, wka210, wka392, wka393, wka744⟩ kVX0_isDrawn ⟨Nat.le_of_ble_eq_true rfl, Nat.le_of_ble_eq_true rfl⟩ rfl hl.1 rfl (Nat.le_of_ble_eq_true rfl) dX11_about_84 (fun D H locs hH => ?_)
      refine lv_if_eq (tgt := 101) hx hb dX11_about_87 (by decide) (fun c_21 => ?_) (fun c_21 => ?_)
      · rw [if_pos c_21] at hF
        refine lv_iconst (v := (-1)) hx hb dX11_about_101 (by decide) ?_
        exact cr_i hC hH hr (nrt_eq hF) dX11_about_102 hlocks
      · rw [if_neg c_21] at hF
        refine lv_aload_n hx hb dX11_about_90 rfl (lv_at hl 0 rfl) ?_
        refine cg_X11_51 hC hH dX11_about_91 ?_
        refine lv_iload_n hx hb dX11_about_94 rfl (lv_at hl 1 rfl) ?_
        obtain ⟨r_22, u_23, h_24, hF⟩ := ncl_some hF
        refine ccV_i (q0 := 6) (As := [.int a0]) (rest := []) hC hH (n_X0_sizeOf l G Z Q _ T u_19 u_23 r_22 a0 _ h_24) rfl rfl ⟨wkc_X0_sizeOf, wka275, wka390, wka391, wka744⟩ kVX0_sizeOf ⟨Nat.le_of_ble_eq_true rfl, Nat.le_of_ble_eq_true rfl⟩ rfl hl.1 rfl (Nat.le_of_ble_eq_true rfl) dX11_about_95 (fun D H locs hH => ?_)
        refine lv_goto (tgt := 102) hx hb dX11_about_98 (by decide) ?_
        exact cr_i hC hH hr (nrt_eq hF) dX11_about_102 hlocks
    rw [if_neg c_17] at hF
    by_cases c_25 : a1 = 4
    · rw [if_pos c_25] at hF
      refine gx_ti (y := 4) c_25 ?_
      refine lv_tableIn (off := 93) (tgt := 103) hx hb dX11_about_10 (by decide) (by decide) rfl (by decide) ?_
      refine lv_aload_n hx hb dX11_about_103 rfl (lv_at hl 0 rfl) ?_
      refine cg_X11_51 hC hH dX11_about_104 ?_
      refine lv_iload_n hx hb dX11_about_107 rfl (lv_at hl 1 rfl) ?_
      obtain ⟨r_26, u_27, h_28, hF⟩ := ncl_some hF
      refine ccV_i (q0 := 6) (As := [.int a0]) (rest := []) hC hH (n_X0_fightsOf l G Z Q _ T u_2 u_27 r_26 a0 _ h_28) rfl rfl ⟨wkc_X0_fightsOf, wka272, wka396, wka397, wka744⟩ kVX0_fightsOf ⟨Nat.le_of_ble_eq_true rfl, Nat.le_of_ble_eq_true rfl⟩ rfl hl.1 rfl (Nat.le_of_ble_eq_true rfl) dX11_about_108 (fun D H locs hH => ?_)
      exact cr_i hC hH hr (nrt_eq hF) dX11_about_111 hlocks
    rw [if_neg c_25] at hF
    by_cases c_29 : a1 = 5
    · rw [if_pos c_29] at hF
      refine gx_ti (y := 5) c_29 ?_
      refine lv_tableIn (off := 102) (tgt := 112) hx hb dX11_about_10 (by decide) (by decide) rfl (by decide) ?_
      refine lv_aload_n hx hb dX11_about_112 rfl (lv_at hl 0 rfl) ?_
      refine cg_X11_51 hC hH dX11_about_113 ?_
      refine lv_iload_n hx hb dX11_about_116 rfl (lv_at hl 1 rfl) ?_
      refine lv_iconst (v := 3) hx hb dX11_about_117 (by decide) ?_
      obtain ⟨r_30, u_31, h_32, hF⟩ := ncl_some hF
      refine ccV_i (q0 := 6) (As := [.int a0, .int 3]) (rest := []) hC hH (n_X0_howMany l G Z Q _ T u_2 u_31 r_30 a0 3 _ h_32) rfl rfl ⟨wkc_X0_howMany, wka276, wka411, wka412, wka744⟩ kVX0_howMany ⟨Nat.le_of_ble_eq_true rfl, Nat.le_of_ble_eq_true rfl⟩ rfl hl.1 rfl (Nat.le_of_ble_eq_true rfl) dX11_about_118 (fun D H locs hH => ?_)
      exact cr_i hC hH hr (nrt_eq hF) dX11_about_121 hlocks
    rw [if_neg c_29] at hF
    by_cases c_33 : a1 = 6
    · rw [if_pos c_33] at hF
      refine gx_ti (y := 6) c_33 ?_
      refine lv_tableIn (off := 112) (tgt := 122) hx hb dX11_about_10 (by decide) (by decide) rfl (by decide) ?_
      refine lv_aload_n hx hb dX11_about_122 rfl (lv_at hl 0 rfl) ?_
      refine cg_X11_51 hC hH dX11_about_123 ?_
      refine lv_iload_n hx hb dX11_about_126 rfl (lv_at hl 1 rfl) ?_
      refine lv_iconst (v := 4) hx hb dX11_about_127 (by decide) ?_
      obtain ⟨r_34, u_35, h_36, hF⟩ := ncl_some hF
      refine ccV_i (q0 := 6) (As := [.int a0, .int 4]) (rest := []) hC hH (n_X0_howMany l G Z Q _ T u_2 u_35 r_34 a0 4 _ h_36) rfl rfl ⟨wkc_X0_howMany, wka276, wka411, wka412, wka744⟩ kVX0_howMany ⟨Nat.le_of_ble_eq_true rfl, Nat.le_of_ble_eq_true rfl⟩ rfl hl.1 rfl (Nat.le_of_ble_eq_true rfl) dX11_about_128 (fun D H locs hH => ?_)
      exact cr_i hC hH hr (nrt_eq hF) dX11_about_131 hlocks
    rw [if_neg c_33] at hF
    refine lv_tableOut (tgt := 132) hx hb dX11_about_10 (by have q0 := gl_ne c_5 (a := 0) (by decide); have q1 := gl_ne c_9 (a := 1) (by decide); have q2 := gl_ne c_13 (a := 2) (by decide); have q3 := gl_ne c_17 (a := 3) (by decide); have q4 := gl_ne c_25 (a := 4) (by decide); have q5 := gl_ne c_29 (a := 5) (by decide); have q6 := gl_ne c_33 (a := 6) (by decide); omega) (by decide) ?_
    refine lv_aload_n hx hb dX11_about_132 rfl (lv_at hl 0 rfl) ?_
    refine cg_X11_51 hC hH dX11_about_133 ?_
    refine lv_iload_n hx hb dX11_about_136 rfl (lv_at hl 1 rfl) ?_
    refine lv_iload_n hx hb dX11_about_137 rfl (lv_at hl 2 rfl) ?_
    refine lv_bipush (v := 100) hx hb dX11_about_138 (by decide) ?_
    refine lv_isub hx hb dX11_about_140 ?_
    obtain ⟨r_37, u_38, h_39, hF⟩ := ncl_some hF
    refine ccV_i (q0 := 6) (As := [.int a0, .int (a1 - 100)]) (rest := []) hC hH (n_X0_onPlace l G Z Q _ T u_2 u_38 r_37 a0 (a1 - 100) _ h_39) rfl rfl ⟨wkc_X0_onPlace, wka279, wka394, wka395, wka744⟩ kVX0_onPlace ⟨Nat.le_of_ble_eq_true rfl, Nat.le_of_ble_eq_true rfl⟩ rfl hl.1 rfl (Nat.le_of_ble_eq_true rfl) dX11_about_141 (fun D H locs hH => ?_)
    exact cr_i hC hH hr (nrt_eq hF) dX11_about_144 hlocks
  · rw [if_pos c_4] at hF
    refine lv_iconst (v := (-1)) hx hb dX11_about_7 (by decide) ?_
    exact cr_i hC hH hr (nrt_eq hF) dX11_about_8 hlocks
def x_X11_fight (a0 : Int32) (a1 : Int32) (a2 : Int32) : NG Int32 := ncl (x_X0_has a0 a1) (fun r_1 => (if r_1 = 0 then nrt (-1) else ncl (x_X0_stateOf a0 a1) (fun r_5 => (if r_5 = 3 then (if a2 = 0 then ncl (x_X0_whiteOf a0 a1) (fun r_59 => nrt r_59) else if a2 = 1 then ncl (x_X0_blueOf a0 a1) (fun r_63 => nrt r_63) else if a2 = 2 then ncl (x_X0_winnerOf a0 a1) (fun r_67 => nrt r_67) else if a2 = 3 then nrt r_5 else if a2 = 4 then (if (1 : Int32) = 0 then nrt (-1) else ncl (x_X1_ofFight a0 a1 4) (fun r_73 => ncl (nGT 0 2088 r_73) (fun x_76 => nrt x_76))) else if a2 = 5 then (if (1 : Int32) = 0 then nrt 0 else ncl (x_X1_ofFight a0 a1 5) (fun r_82 => ncl (nGT 0 2088 r_82) (fun x_85 => nrt x_85))) else if a2 = 6 then (if r_5 = 2 then ncl (x_X1_ofFight a0 a1 7) (fun r_91 => ncl (nGT 0 2088 r_91) (fun x_94 => nrt x_94)) else nrt (-1)) else if a2 = 7 then (if (1 : Int32) = 0 then nrt (-1) else ncl (x_X1_ofFight a0 a1 6) (fun r_100 => ncl (nGT 0 2088 r_100) (fun x_103 => nrt x_103))) else nrt (-1)) else (if a2 = 0 then ncl (x_X0_whiteOf a0 a1) (fun r_10 => nrt r_10) else if a2 = 1 then ncl (x_X0_blueOf a0 a1) (fun r_14 => nrt r_14) else if a2 = 2 then ncl (x_X0_winnerOf a0 a1) (fun r_18 => nrt r_18) else if a2 = 3 then nrt r_5 else if a2 = 4 then (if (0 : Int32) = 0 then nrt (-1) else ncl (x_X1_ofFight a0 a1 4) (fun r_24 => ncl (nGT 0 2088 r_24) (fun x_27 => nrt x_27))) else if a2 = 5 then (if (0 : Int32) = 0 then nrt 0 else ncl (x_X1_ofFight a0 a1 5) (fun r_33 => ncl (nGT 0 2088 r_33) (fun x_36 => nrt x_36))) else if a2 = 6 then (if r_5 = 2 then ncl (x_X1_ofFight a0 a1 7) (fun r_42 => ncl (nGT 0 2088 r_42) (fun x_45 => nrt x_45)) else nrt (-1)) else if a2 = 7 then (if (0 : Int32) = 0 then nrt (-1) else ncl (x_X1_ofFight a0 a1 6) (fun r_51 => ncl (nGT 0 2088 r_51) (fun x_54 => nrt x_54))) else nrt (-1))))))
set_option maxHeartbeats 4000000 in
set_option maxRecDepth 100000 in
theorem n_X11_fight (l : Launch) (G : gG) (Z : gC) (Q : Nat → Nat) (D : Nat × Nat) (T : va_W) (u u1 : MS) (r : Int32) (a0 : Int32) (a1 : Int32) (a2 : Int32) (sz : Nat) (hF : x_X11_fight a0 a1 a2 u = some (r, u1)) : Met l yX11_fight (Cond.code yX11_fight cX11_fight 6 (some .int) :: wK) { frames := 4, cells := 0, slots := 0, locals := 87 } (va_Pc [.ref (Q 0), .int a0, .int a1, .int a2] (cPM G Z Q D T u sz)) (cQi G Q T u1 r (va_A (cW G Q D T u) sz)) 0 0 (va_A (cW G Q D T u) sz) := by
  refine Met.ofW (cc := cX11_fight) (maxL := 6) (ret := (some .int)) (by decide) rfl ?_
  intro p e s m args below meth c s₁ B hml hv
  obtain ⟨rfl, rfl, hP, hB, hD0, hE⟩ := hv
  have hr := B.returns
  have hlocks := B.notSynchronized
  have hts := atoms_spec (ws := Cond.code yX11_fight cX11_fight 6 (some .int) :: wK) B.pre
  have hD := hD0.self (sz := s.heap.size)
  have hA : ∀ q : Nat, s.heap.size ≤ q → va_A (cW G Q D T u) s.heap.size q := fun q h => Or.inr h
  generalize va_A (cW G Q D T u) s.heap.size = A at hD hA hE ⊢
  have hC : cX p c cX11_fight 6 s m _ RX11 G Z A := ⟨B.exec, B.bytes, hml, findClass_of_methodNamed B.named, fun w h => hts w (List.mem_cons_of_mem _ h), hB, hE, hA⟩
  have hx := hC.1
  have hb := hC.2.1
  have hH : cH G Q D T A u s s.heap [] := ⟨hP, hD, va_S.rf⟩
  have hl := lv_entry ([.ref (Q 0), .int a0, .int a1, .int a2]) (n := 6) (Nat.le_of_ble_eq_true rfl)
  rw [lg_entry_eq]
  generalize (lg_sl ([.ref (Q 0), .int a0, .int a1, .int a2]) ++ List.replicate (6 - (lg_sl ([.ref (Q 0), .int a0, .int a1, .int a2])).length) Slot.unset).toArray = ls at hl ⊢
  have hl : lv_has ls 6 [(0, .ref (Q 0)), (1, .int a0), (2, .int a1), (3, .int a2)] := hl
  unfold x_X11_fight at hF
  refine lv_aload_n hx hb dX11_fight_0 rfl (lv_at hl 0 rfl) ?_
  refine cg_X11_51 hC hH dX11_fight_1 ?_
  refine lv_iload_n hx hb dX11_fight_4 rfl (lv_at hl 1 rfl) ?_
  refine lv_iload_n hx hb dX11_fight_5 rfl (lv_at hl 2 rfl) ?_
  obtain ⟨r_1, u_2, h_3, hF⟩ := ncl_some hF
  refine ccV_i (q0 := 6) (As := [.int a0, .int a1]) (rest := []) hC hH (n_X0_has l G Z Q _ T u u_2 r_1 a0 a1 _ h_3) rfl rfl ⟨wkc_X0_has, wka280, wka399, wka400, wka744⟩ kVX0_has ⟨Nat.le_of_ble_eq_true rfl, Nat.le_of_ble_eq_true rfl⟩ rfl hl.1 rfl (Nat.le_of_ble_eq_true rfl) dX11_fight_6 (fun D H locs hH => ?_)
  refine lv_if_ne (tgt := 14) hx hb dX11_fight_9 (by decide) (fun c_4 => ?_) (fun c_4 => ?_)
  · rw [if_neg c_4] at hF
    refine lv_aload_n hx hb dX11_fight_14 rfl (lv_at hl 0 rfl) ?_
    refine cg_X11_51 hC hH dX11_fight_15 ?_
    refine lv_iload_n hx hb dX11_fight_18 rfl (lv_at hl 1 rfl) ?_
    refine lv_iload_n hx hb dX11_fight_19 rfl (lv_at hl 2 rfl) ?_
    obtain ⟨r_5, u_6, h_7, hF⟩ := ncl_some hF
    refine ccV_i (q0 := 6) (As := [.int a0, .int a1]) (rest := []) hC hH (n_X0_stateOf l G Z Q _ T u_2 u_6 r_5 a0 a1 _ h_7) rfl rfl ⟨wkc_X0_stateOf, wka281, wka407, wka408, wka744⟩ kVX0_stateOf ⟨Nat.le_of_ble_eq_true rfl, Nat.le_of_ble_eq_true rfl⟩ rfl hl.1 rfl (Nat.le_of_ble_eq_true rfl) dX11_fight_20 (fun D H locs hH => ?_)
    refine lv_istore (lv' := [(4, .int r_5), (0, .ref (Q 0)), (1, .int a0), (2, .int a1), (3, .int a2)]) hx hb dX11_fight_23 hl (by decide) rfl (fun ls hl => ?_)
    refine lv_iload hx hb dX11_fight_25 (lv_at hl 0 rfl) ?_
    refine lv_iconst (v := 3) hx hb dX11_fight_27 (by decide) ?_
    refine lv_icmp_ne (tgt := 35) hx hb dX11_fight_28 (by decide) (fun c_8 => ?_) (fun c_8 => ?_)
    · rw [if_neg c_8] at hF
      refine lv_iconst (v := 0) hx hb dX11_fight_35 (by decide) ?_
      refine lv_istore (lv' := [(5, .int 0), (4, .int r_5), (0, .ref (Q 0)), (1, .int a0), (2, .int a1), (3, .int a2)]) hx hb dX11_fight_36 hl (by decide) rfl (fun ls hl => ?_)
      refine lv_iload_n hx hb dX11_fight_38 rfl (lv_at hl 5 rfl) ?_
      by_cases c_9 : a2 = 0
      · rw [if_pos c_9] at hF
        refine gx_ti (y := 0) c_9 ?_
        refine lv_tableIn (off := 45) (tgt := 84) hx hb dX11_fight_39 (by decide) (by decide) rfl (by decide) ?_
        refine lv_aload_n hx hb dX11_fight_84 rfl (lv_at hl 2 rfl) ?_
        refine cg_X11_51 hC hH dX11_fight_85 ?_
        refine lv_iload_n hx hb dX11_fight_88 rfl (lv_at hl 3 rfl) ?_
        refine lv_iload_n hx hb dX11_fight_89 rfl (lv_at hl 4 rfl) ?_
        obtain ⟨r_10, u_11, h_12, hF⟩ := ncl_some hF
        refine ccV_i (q0 := 6) (As := [.int a0, .int a1]) (rest := []) hC hH (n_X0_whiteOf l G Z Q _ T u_6 u_11 r_10 a0 a1 _ h_12) rfl rfl ⟨wkc_X0_whiteOf, wka282, wka401, wka402, wka744⟩ kVX0_whiteOf ⟨Nat.le_of_ble_eq_true rfl, Nat.le_of_ble_eq_true rfl⟩ rfl hl.1 rfl (Nat.le_of_ble_eq_true rfl) dX11_fight_90 (fun D H locs hH => ?_)
        exact cr_i hC hH hr (nrt_eq hF) dX11_fight_93 hlocks
      rw [if_neg c_9] at hF
      by_cases c_13 : a2 = 1
      · rw [if_pos c_13] at hF
        refine gx_ti (y := 1) c_13 ?_
        refine lv_tableIn (off := 55) (tgt := 94) hx hb dX11_fight_39 (by decide) (by decide) rfl (by decide) ?_
        refine lv_aload_n hx hb dX11_fight_94 rfl (lv_at hl 2 rfl) ?_
        refine cg_X11_51 hC hH dX11_fight_95 ?_
        refine lv_iload_n hx hb dX11_fight_98 rfl (lv_at hl 3 rfl) ?_
        refine lv_iload_n hx hb dX11_fight_99 rfl (lv_at hl 4 rfl) ?_
        obtain ⟨r_14, u_15, h_16, hF⟩ := ncl_some hF
        refine ccV_i (q0 := 6) (As := [.int a0, .int a1]) (rest := []) hC hH (n_X0_blueOf l G Z Q _ T u_6 u_15 r_14 a0 a1 _ h_16) rfl rfl ⟨wkc_X0_blueOf, wka283, wka403, wka404, wka744⟩ kVX0_blueOf ⟨Nat.le_of_ble_eq_true rfl, Nat.le_of_ble_eq_true rfl⟩ rfl hl.1 rfl (Nat.le_of_ble_eq_true rfl) dX11_fight_100 (fun D H locs hH => ?_)
        exact cr_i hC hH hr (nrt_eq hF) dX11_fight_103 hlocks
      rw [if_neg c_13] at hF
      by_cases c_17 : a2 = 2
      · rw [if_pos c_17] at hF
        refine gx_ti (y := 2) c_17 ?_
        refine lv_tableIn (off := 65) (tgt := 104) hx hb dX11_fight_39 (by decide) (by decide) rfl (by decide) ?_
        refine lv_aload_n hx hb dX11_fight_104 rfl (lv_at hl 2 rfl) ?_
        refine cg_X11_51 hC hH dX11_fight_105 ?_
        refine lv_iload_n hx hb dX11_fight_108 rfl (lv_at hl 3 rfl) ?_
        refine lv_iload_n hx hb dX11_fight_109 rfl (lv_at hl 4 rfl) ?_
        obtain ⟨r_18, u_19, h_20, hF⟩ := ncl_some hF
        refine ccV_i (q0 := 6) (As := [.int a0, .int a1]) (rest := []) hC hH (n_X0_winnerOf l G Z Q _ T u_6 u_19 r_18 a0 a1 _ h_20) rfl rfl ⟨wkc_X0_winnerOf, wka284, wka405, wka406, wka744⟩ kVX0_winnerOf ⟨Nat.le_of_ble_eq_true rfl, Nat.le_of_ble_eq_true rfl⟩ rfl hl.1 rfl (Nat.le_of_ble_eq_true rfl) dX11_fight_110 (fun D H locs hH => ?_)
        exact cr_i hC hH hr (nrt_eq hF) dX11_fight_113 hlocks
      rw [if_neg c_17] at hF
      by_cases c_21 : a2 = 3
      · rw [if_pos c_21] at hF
        refine gx_ti (y := 3) c_21 ?_
        refine lv_tableIn (off := 75) (tgt := 114) hx hb dX11_fight_39 (by decide) (by decide) rfl (by decide) ?_
        refine lv_iload hx hb dX11_fight_114 (lv_at hl 1 rfl) ?_
        exact cr_i hC hH hr (nrt_eq hF) dX11_fight_116 hlocks
      rw [if_neg c_21] at hF
      by_cases c_22 : a2 = 4
      · rw [if_pos c_22] at hF
        refine gx_ti (y := 4) c_22 ?_
        refine lv_tableIn (off := 78) (tgt := 117) hx hb dX11_fight_39 (by decide) (by decide) rfl (by decide) ?_
        refine lv_iload hx hb dX11_fight_117 (lv_at hl 0 rfl) ?_
        refine lv_if_eq (tgt := 138) hx hb dX11_fight_119 (by decide) (fun c_23 => ?_) (fun c_23 => ?_)
        · rw [if_pos c_23] at hF
          refine lv_iconst (v := (-1)) hx hb dX11_fight_138 (by decide) ?_
          exact cr_i hC hH hr (nrt_eq hF) dX11_fight_139 hlocks
        · rw [if_neg c_23] at hF
          refine lv_aload_n hx hb dX11_fight_122 rfl (lv_at hl 2 rfl) ?_
          refine cg_X11_10 hC hH dX11_fight_123 ?_
          refine lv_iload_n hx hb dX11_fight_126 rfl (lv_at hl 3 rfl) ?_
          refine lv_iload_n hx hb dX11_fight_127 rfl (lv_at hl 4 rfl) ?_
          refine lv_iconst (v := 4) hx hb dX11_fight_128 (by decide) ?_
          obtain ⟨r_24, u_25, h_26, hF⟩ := ncl_some hF
          refine ccS_i (As := [.int a0, .int a1, .int 4]) (rest := [.ref (Q 1)]) hC hH (n_X1_ofFight l G Z Q _ T u_6 u_25 r_24 a0 a1 4 _ h_26) ⟨wkc_X1_ofFight, wka285, wka437, wka745⟩ kSX1_ofFight ⟨Nat.le_of_ble_eq_true rfl, Nat.le_of_ble_eq_true rfl⟩ rfl hl.1 rfl (Nat.le_of_ble_eq_true rfl) dX11_fight_129 (fun D H locs hH => ?_)
          refine bat (i := 1) (j := 11) hC hH rfl rfl (by decide) wka197 ⟨Nat.le_of_ble_eq_true rfl, Nat.le_of_ble_eq_true rfl⟩ hl.1 (Nat.le_of_ble_eq_true rfl) ⟨Nat.zero_le _, Nat.zero_le _⟩ dX11_fight_132 ?_
          obtain ⟨x_27, u_28, h_29, hF⟩ := ncl_some hF
          obtain ⟨e_30, rfl⟩ := nGT_eq h_29
          refine gx_ti e_30 ?_
          refine lv_goto (tgt := 139) hx hb dX11_fight_135 (by decide) ?_
          exact cr_i hC hH hr (nrt_eq hF) dX11_fight_139 hlocks
      rw [if_neg c_22] at hF
      by_cases c_31 : a2 = 5
      · rw [if_pos c_31] at hF
        refine gx_ti (y := 5) c_31 ?_
        refine lv_tableIn (off := 101) (tgt := 140) hx hb dX11_fight_39 (by decide) (by decide) rfl (by decide) ?_
        refine lv_iload hx hb dX11_fight_140 (lv_at hl 0 rfl) ?_
        refine lv_if_eq (tgt := 161) hx hb dX11_fight_142 (by decide) (fun c_32 => ?_) (fun c_32 => ?_)
        · rw [if_pos c_32] at hF
          refine lv_iconst (v := 0) hx hb dX11_fight_161 (by decide) ?_
          exact cr_i hC hH hr (nrt_eq hF) dX11_fight_162 hlocks
        · rw [if_neg c_32] at hF
          refine lv_aload_n hx hb dX11_fight_145 rfl (lv_at hl 2 rfl) ?_
          refine cg_X11_10 hC hH dX11_fight_146 ?_
          refine lv_iload_n hx hb dX11_fight_149 rfl (lv_at hl 3 rfl) ?_
          refine lv_iload_n hx hb dX11_fight_150 rfl (lv_at hl 4 rfl) ?_
          refine lv_iconst (v := 5) hx hb dX11_fight_151 (by decide) ?_
          obtain ⟨r_33, u_34, h_35, hF⟩ := ncl_some hF
          refine ccS_i (As := [.int a0, .int a1, .int 5]) (rest := [.ref (Q 1)]) hC hH (n_X1_ofFight l G Z Q _ T u_6 u_34 r_33 a0 a1 5 _ h_35) ⟨wkc_X1_ofFight, wka285, wka437, wka745⟩ kSX1_ofFight ⟨Nat.le_of_ble_eq_true rfl, Nat.le_of_ble_eq_true rfl⟩ rfl hl.1 rfl (Nat.le_of_ble_eq_true rfl) dX11_fight_152 (fun D H locs hH => ?_)
          refine bat (i := 1) (j := 11) hC hH rfl rfl (by decide) wka197 ⟨Nat.le_of_ble_eq_true rfl, Nat.le_of_ble_eq_true rfl⟩ hl.1 (Nat.le_of_ble_eq_true rfl) ⟨Nat.zero_le _, Nat.zero_le _⟩ dX11_fight_155 ?_
          obtain ⟨x_36, u_37, h_38, hF⟩ := ncl_some hF
          obtain ⟨e_39, rfl⟩ := nGT_eq h_38
          refine gx_ti e_39 ?_
          refine lv_goto (tgt := 162) hx hb dX11_fight_158 (by decide) ?_
          exact cr_i hC hH hr (nrt_eq hF) dX11_fight_162 hlocks
      rw [if_neg c_31] at hF
      by_cases c_40 : a2 = 6
      · rw [if_pos c_40] at hF
        refine gx_ti (y := 6) c_40 ?_
        refine lv_tableIn (off := 124) (tgt := 163) hx hb dX11_fight_39 (by decide) (by decide) rfl (by decide) ?_
        refine lv_iload hx hb dX11_fight_163 (lv_at hl 1 rfl) ?_
        refine lv_iconst (v := 2) hx hb dX11_fight_165 (by decide) ?_
        refine lv_icmp_ne (tgt := 186) hx hb dX11_fight_166 (by decide) (fun c_41 => ?_) (fun c_41 => ?_)
        · rw [if_neg c_41] at hF
          refine lv_iconst (v := (-1)) hx hb dX11_fight_186 (by decide) ?_
          exact cr_i hC hH hr (nrt_eq hF) dX11_fight_187 hlocks
        · rw [if_pos c_41] at hF
          refine lv_aload_n hx hb dX11_fight_169 rfl (lv_at hl 2 rfl) ?_
          refine cg_X11_10 hC hH dX11_fight_170 ?_
          refine lv_iload_n hx hb dX11_fight_173 rfl (lv_at hl 3 rfl) ?_
          refine lv_iload_n hx hb dX11_fight_174 rfl (lv_at hl 4 rfl) ?_
          refine lv_bipush (v := 7) hx hb dX11_fight_175 (by decide) ?_
          obtain ⟨r_42, u_43, h_44, hF⟩ := ncl_some hF
          refine ccS_i (As := [.int a0, .int a1, .int 7]) (rest := [.ref (Q 1)]) hC hH (n_X1_ofFight l G Z Q _ T u_6 u_43 r_42 a0 a1 7 _ h_44) ⟨wkc_X1_ofFight, wka285, wka437, wka745⟩ kSX1_ofFight ⟨Nat.le_of_ble_eq_true rfl, Nat.le_of_ble_eq_true rfl⟩ rfl hl.1 rfl (Nat.le_of_ble_eq_true rfl) dX11_fight_177 (fun D H locs hH => ?_)
          refine bat (i := 1) (j := 11) hC hH rfl rfl (by decide) wka197 ⟨Nat.le_of_ble_eq_true rfl, Nat.le_of_ble_eq_true rfl⟩ hl.1 (Nat.le_of_ble_eq_true rfl) ⟨Nat.zero_le _, Nat.zero_le _⟩ dX11_fight_180 ?_
          obtain ⟨x_45, u_46, h_47, hF⟩ := ncl_some hF
          obtain ⟨e_48, rfl⟩ := nGT_eq h_47
          refine gx_ti e_48 ?_
          refine lv_goto (tgt := 187) hx hb dX11_fight_183 (by decide) ?_
          exact cr_i hC hH hr (nrt_eq hF) dX11_fight_187 hlocks
      rw [if_neg c_40] at hF
      by_cases c_49 : a2 = 7
      · rw [if_pos c_49] at hF
        refine gx_ti (y := 7) c_49 ?_
        refine lv_tableIn (off := 149) (tgt := 188) hx hb dX11_fight_39 (by decide) (by decide) rfl (by decide) ?_
        refine lv_iload hx hb dX11_fight_188 (lv_at hl 0 rfl) ?_
        refine lv_if_eq (tgt := 210) hx hb dX11_fight_190 (by decide) (fun c_50 => ?_) (fun c_50 => ?_)
        · rw [if_pos c_50] at hF
          refine lv_iconst (v := (-1)) hx hb dX11_fight_210 (by decide) ?_
          exact cr_i hC hH hr (nrt_eq hF) dX11_fight_211 hlocks
        · rw [if_neg c_50] at hF
          refine lv_aload_n hx hb dX11_fight_193 rfl (lv_at hl 2 rfl) ?_
          refine cg_X11_10 hC hH dX11_fight_194 ?_
          refine lv_iload_n hx hb dX11_fight_197 rfl (lv_at hl 3 rfl) ?_
          refine lv_iload_n hx hb dX11_fight_198 rfl (lv_at hl 4 rfl) ?_
          refine lv_bipush (v := 6) hx hb dX11_fight_199 (by decide) ?_
          obtain ⟨r_51, u_52, h_53, hF⟩ := ncl_some hF
          refine ccS_i (As := [.int a0, .int a1, .int 6]) (rest := [.ref (Q 1)]) hC hH (n_X1_ofFight l G Z Q _ T u_6 u_52 r_51 a0 a1 6 _ h_53) ⟨wkc_X1_ofFight, wka285, wka437, wka745⟩ kSX1_ofFight ⟨Nat.le_of_ble_eq_true rfl, Nat.le_of_ble_eq_true rfl⟩ rfl hl.1 rfl (Nat.le_of_ble_eq_true rfl) dX11_fight_201 (fun D H locs hH => ?_)
          refine bat (i := 1) (j := 11) hC hH rfl rfl (by decide) wka197 ⟨Nat.le_of_ble_eq_true rfl, Nat.le_of_ble_eq_true rfl⟩ hl.1 (Nat.le_of_ble_eq_true rfl) ⟨Nat.zero_le _, Nat.zero_le _⟩ dX11_fight_204 ?_
          obtain ⟨x_54, u_55, h_56, hF⟩ := ncl_some hF
          obtain ⟨e_57, rfl⟩ := nGT_eq h_56
          refine gx_ti e_57 ?_
          refine lv_goto (tgt := 211) hx hb dX11_fight_207 (by decide) ?_
          exact cr_i hC hH hr (nrt_eq hF) dX11_fight_211 hlocks
      rw [if_neg c_49] at hF
      refine lv_tableOut (tgt := 212) hx hb dX11_fight_39 (by have q0 := gl_ne c_9 (a := 0) (by decide); have q1 := gl_ne c_13 (a := 1) (by decide); have q2 := gl_ne c_17 (a := 2) (by decide); have q3 := gl_ne c_21 (a := 3) (by decide); have q4 := gl_ne c_22 (a := 4) (by decide); have q5 := gl_ne c_31 (a := 5) (by decide); have q6 := gl_ne c_40 (a := 6) (by decide); have q7 := gl_ne c_49 (a := 7) (by decide); omega) (by decide) ?_
      refine lv_iconst (v := (-1)) hx hb dX11_fight_212 (by decide) ?_
      exact cr_i hC hH hr (nrt_eq hF) dX11_fight_213 hlocks
    · rw [if_pos c_8] at hF
      refine lv_iconst (v := 1) hx hb dX11_fight_31 (by decide) ?_
      refine lv_goto (tgt := 36) hx hb dX11_fight_32 (by decide) ?_
      refine lv_istore (lv' := [(5, .int 1), (4, .int r_5), (0, .ref (Q 0)), (1, .int a0), (2, .int a1), (3, .int a2)]) hx hb dX11_fight_36 hl (by decide) rfl (fun ls hl => ?_)
      refine lv_iload_n hx hb dX11_fight_38 rfl (lv_at hl 5 rfl) ?_
      by_cases c_58 : a2 = 0
      · rw [if_pos c_58] at hF
        refine gx_ti (y := 0) c_58 ?_
        refine lv_tableIn (off := 45) (tgt := 84) hx hb dX11_fight_39 (by decide) (by decide) rfl (by decide) ?_
        refine lv_aload_n hx hb dX11_fight_84 rfl (lv_at hl 2 rfl) ?_
        refine cg_X11_51 hC hH dX11_fight_85 ?_
        refine lv_iload_n hx hb dX11_fight_88 rfl (lv_at hl 3 rfl) ?_
        refine lv_iload_n hx hb dX11_fight_89 rfl (lv_at hl 4 rfl) ?_
        obtain ⟨r_59, u_60, h_61, hF⟩ := ncl_some hF
        refine ccV_i (q0 := 6) (As := [.int a0, .int a1]) (rest := []) hC hH (n_X0_whiteOf l G Z Q _ T u_6 u_60 r_59 a0 a1 _ h_61) rfl rfl ⟨wkc_X0_whiteOf, wka282, wka401, wka402, wka744⟩ kVX0_whiteOf ⟨Nat.le_of_ble_eq_true rfl, Nat.le_of_ble_eq_true rfl⟩ rfl hl.1 rfl (Nat.le_of_ble_eq_true rfl) dX11_fight_90 (fun D H locs hH => ?_)
        exact cr_i hC hH hr (nrt_eq hF) dX11_fight_93 hlocks
      rw [if_neg c_58] at hF
      by_cases c_62 : a2 = 1
      · rw [if_pos c_62] at hF
        refine gx_ti (y := 1) c_62 ?_
        refine lv_tableIn (off := 55) (tgt := 94) hx hb dX11_fight_39 (by decide) (by decide) rfl (by decide) ?_
        refine lv_aload_n hx hb dX11_fight_94 rfl (lv_at hl 2 rfl) ?_
        refine cg_X11_51 hC hH dX11_fight_95 ?_
        refine lv_iload_n hx hb dX11_fight_98 rfl (lv_at hl 3 rfl) ?_
        refine lv_iload_n hx hb dX11_fight_99 rfl (lv_at hl 4 rfl) ?_
        obtain ⟨r_63, u_64, h_65, hF⟩ := ncl_some hF
        refine ccV_i (q0 := 6) (As := [.int a0, .int a1]) (rest := []) hC hH (n_X0_blueOf l G Z Q _ T u_6 u_64 r_63 a0 a1 _ h_65) rfl rfl ⟨wkc_X0_blueOf, wka283, wka403, wka404, wka744⟩ kVX0_blueOf ⟨Nat.le_of_ble_eq_true rfl, Nat.le_of_ble_eq_true rfl⟩ rfl hl.1 rfl (Nat.le_of_ble_eq_true rfl) dX11_fight_100 (fun D H locs hH => ?_)
        exact cr_i hC hH hr (nrt_eq hF) dX11_fight_103 hlocks
      rw [if_neg c_62] at hF
      by_cases c_66 : a2 = 2
      · rw [if_pos c_66] at hF
        refine gx_ti (y := 2) c_66 ?_
        refine lv_tableIn (off := 65) (tgt := 104) hx hb dX11_fight_39 (by decide) (by decide) rfl (by decide) ?_
        refine lv_aload_n hx hb dX11_fight_104 rfl (lv_at hl 2 rfl) ?_
        refine cg_X11_51 hC hH dX11_fight_105 ?_
        refine lv_iload_n hx hb dX11_fight_108 rfl (lv_at hl 3 rfl) ?_
        refine lv_iload_n hx hb dX11_fight_109 rfl (lv_at hl 4 rfl) ?_
        obtain ⟨r_67, u_68, h_69, hF⟩ := ncl_some hF
        refine ccV_i (q0 := 6) (As := [.int a0, .int a1]) (rest := []) hC hH (n_X0_winnerOf l G Z Q _ T u_6 u_68 r_67 a0 a1 _ h_69) rfl rfl ⟨wkc_X0_winnerOf, wka284, wka405, wka406, wka744⟩ kVX0_winnerOf ⟨Nat.le_of_ble_eq_true rfl, Nat.le_of_ble_eq_true rfl⟩ rfl hl.1 rfl (Nat.le_of_ble_eq_true rfl) dX11_fight_110 (fun D H locs hH => ?_)
        exact cr_i hC hH hr (nrt_eq hF) dX11_fight_113 hlocks
      rw [if_neg c_66] at hF
      by_cases c_70 : a2 = 3
      · rw [if_pos c_70] at hF
        refine gx_ti (y := 3) c_70 ?_
        refine lv_tableIn (off := 75) (tgt := 114) hx hb dX11_fight_39 (by decide) (by decide) rfl (by decide) ?_
        refine lv_iload hx hb dX11_fight_114 (lv_at hl 1 rfl) ?_
        exact cr_i hC hH hr (nrt_eq hF) dX11_fight_116 hlocks
      rw [if_neg c_70] at hF
      by_cases c_71 : a2 = 4
      · rw [if_pos c_71] at hF
        refine gx_ti (y := 4) c_71 ?_
        refine lv_tableIn (off := 78) (tgt := 117) hx hb dX11_fight_39 (by decide) (by decide) rfl (by decide) ?_
        refine lv_iload hx hb dX11_fight_117 (lv_at hl 0 rfl) ?_
        refine lv_if_eq (tgt := 138) hx hb dX11_fight_119 (by decide) (fun c_72 => ?_) (fun c_72 => ?_)
        · rw [if_pos c_72] at hF
          refine lv_iconst (v := (-1)) hx hb dX11_fight_138 (by decide) ?_
          exact cr_i hC hH hr (nrt_eq hF) dX11_fight_139 hlocks
        · rw [if_neg c_72] at hF
          refine lv_aload_n hx hb dX11_fight_122 rfl (lv_at hl 2 rfl) ?_
          refine cg_X11_10 hC hH dX11_fight_123 ?_
          refine lv_iload_n hx hb dX11_fight_126 rfl (lv_at hl 3 rfl) ?_
          refine lv_iload_n hx hb dX11_fight_127 rfl (lv_at hl 4 rfl) ?_
          refine lv_iconst (v := 4) hx hb dX11_fight_128 (by decide) ?_
          obtain ⟨r_73, u_74, h_75, hF⟩ := ncl_some hF
          refine ccS_i (As := [.int a0, .int a1, .int 4]) (rest := [.ref (Q 1)]) hC hH (n_X1_ofFight l G Z Q _ T u_6 u_74 r_73 a0 a1 4 _ h_75) ⟨wkc_X1_ofFight, wka285, wka437, wka745⟩ kSX1_ofFight ⟨Nat.le_of_ble_eq_true rfl, Nat.le_of_ble_eq_true rfl⟩ rfl hl.1 rfl (Nat.le_of_ble_eq_true rfl) dX11_fight_129 (fun D H locs hH => ?_)
          refine bat (i := 1) (j := 11) hC hH rfl rfl (by decide) wka197 ⟨Nat.le_of_ble_eq_true rfl, Nat.le_of_ble_eq_true rfl⟩ hl.1 (Nat.le_of_ble_eq_true rfl) ⟨Nat.zero_le _, Nat.zero_le _⟩ dX11_fight_132 ?_
          obtain ⟨x_76, u_77, h_78, hF⟩ := ncl_some hF
          obtain ⟨e_79, rfl⟩ := nGT_eq h_78
          refine gx_ti e_79 ?_
          refine lv_goto (tgt := 139) hx hb dX11_fight_135 (by decide) ?_
          exact cr_i hC hH hr (nrt_eq hF) dX11_fight_139 hlocks
      rw [if_neg c_71] at hF
      by_cases c_80 : a2 = 5
      · rw [if_pos c_80] at hF
        refine gx_ti (y := 5) c_80 ?_
        refine lv_tableIn (off := 101) (tgt := 140) hx hb dX11_fight_39 (by decide) (by decide) rfl (by decide) ?_
        refine lv_iload hx hb dX11_fight_140 (lv_at hl 0 rfl) ?_
        refine lv_if_eq (tgt := 161) hx hb dX11_fight_142 (by decide) (fun c_81 => ?_) (fun c_81 => ?_)
        · rw [if_pos c_81] at hF
          refine lv_iconst (v := 0) hx hb dX11_fight_161 (by decide) ?_
          exact cr_i hC hH hr (nrt_eq hF) dX11_fight_162 hlocks
        · rw [if_neg c_81] at hF
          refine lv_aload_n hx hb dX11_fight_145 rfl (lv_at hl 2 rfl) ?_
          refine cg_X11_10 hC hH dX11_fight_146 ?_
          refine lv_iload_n hx hb dX11_fight_149 rfl (lv_at hl 3 rfl) ?_
          refine lv_iload_n hx hb dX11_fight_150 rfl (lv_at hl 4 rfl) ?_
          refine lv_iconst (v := 5) hx hb dX11_fight_151 (by decide) ?_
          obtain ⟨r_82, u_83, h_84, hF⟩ := ncl_some hF
          refine ccS_i (As := [.int a0, .int a1, .int 5]) (rest := [.ref (Q 1)]) hC hH (n_X1_ofFight l G Z Q _ T u_6 u_83 r_82 a0 a1 5 _ h_84) ⟨wkc_X1_ofFight, wka285, wka437, wka745⟩ kSX1_ofFight ⟨Nat.le_of_ble_eq_true rfl, Nat.le_of_ble_eq_true rfl⟩ rfl hl.1 rfl (Nat.le_of_ble_eq_true rfl) dX11_fight_152 (fun D H locs hH => ?_)
          refine bat (i := 1) (j := 11) hC hH rfl rfl (by decide) wka197 ⟨Nat.le_of_ble_eq_true rfl, Nat.le_of_ble_eq_true rfl⟩ hl.1 (Nat.le_of_ble_eq_true rfl) ⟨Nat.zero_le _, Nat.zero_le _⟩ dX11_fight_155 ?_
          obtain ⟨x_85, u_86, h_87, hF⟩ := ncl_some hF
          obtain ⟨e_88, rfl⟩ := nGT_eq h_87
          refine gx_ti e_88 ?_
          refine lv_goto (tgt := 162) hx hb dX11_fight_158 (by decide) ?_
          exact cr_i hC hH hr (nrt_eq hF) dX11_fight_162 hlocks
      rw [if_neg c_80] at hF
      by_cases c_89 : a2 = 6
      · rw [if_pos c_89] at hF
        refine gx_ti (y := 6) c_89 ?_
        refine lv_tableIn (off := 124) (tgt := 163) hx hb dX11_fight_39 (by decide) (by decide) rfl (by decide) ?_
        refine lv_iload hx hb dX11_fight_163 (lv_at hl 1 rfl) ?_
        refine lv_iconst (v := 2) hx hb dX11_fight_165 (by decide) ?_
        refine lv_icmp_ne (tgt := 186) hx hb dX11_fight_166 (by decide) (fun c_90 => ?_) (fun c_90 => ?_)
        · rw [if_neg c_90] at hF
          refine lv_iconst (v := (-1)) hx hb dX11_fight_186 (by decide) ?_
          exact cr_i hC hH hr (nrt_eq hF) dX11_fight_187 hlocks
        · rw [if_pos c_90] at hF
          refine lv_aload_n hx hb dX11_fight_169 rfl (lv_at hl 2 rfl) ?_
          refine cg_X11_10 hC hH dX11_fight_170 ?_
          refine lv_iload_n hx hb dX11_fight_173 rfl (lv_at hl 3 rfl) ?_
          refine lv_iload_n hx hb dX11_fight_174 rfl (lv_at hl 4 rfl) ?_
          refine lv_bipush (v := 7) hx hb dX11_fight_175 (by decide) ?_
          obtain ⟨r_91, u_92, h_93, hF⟩ := ncl_some hF
          refine ccS_i (As := [.int a0, .int a1, .int 7]) (rest := [.ref (Q 1)]) hC hH (n_X1_ofFight l G Z Q _ T u_6 u_92 r_91 a0 a1 7 _ h_93) ⟨wkc_X1_ofFight, wka285, wka437, wka745⟩ kSX1_ofFight ⟨Nat.le_of_ble_eq_true rfl, Nat.le_of_ble_eq_true rfl⟩ rfl hl.1 rfl (Nat.le_of_ble_eq_true rfl) dX11_fight_177 (fun D H locs hH => ?_)
          refine bat (i := 1) (j := 11) hC hH rfl rfl (by decide) wka197 ⟨Nat.le_of_ble_eq_true rfl, Nat.le_of_ble_eq_true rfl⟩ hl.1 (Nat.le_of_ble_eq_true rfl) ⟨Nat.zero_le _, Nat.zero_le _⟩ dX11_fight_180 ?_
          obtain ⟨x_94, u_95, h_96, hF⟩ := ncl_some hF
          obtain ⟨e_97, rfl⟩ := nGT_eq h_96
          refine gx_ti e_97 ?_
          refine lv_goto (tgt := 187) hx hb dX11_fight_183 (by decide) ?_
          exact cr_i hC hH hr (nrt_eq hF) dX11_fight_187 hlocks
      rw [if_neg c_89] at hF
      by_cases c_98 : a2 = 7
      · rw [if_pos c_98] at hF
        refine gx_ti (y := 7) c_98 ?_
        refine lv_tableIn (off := 149) (tgt := 188) hx hb dX11_fight_39 (by decide) (by decide) rfl (by decide) ?_
        refine lv_iload hx hb dX11_fight_188 (lv_at hl 0 rfl) ?_
        refine lv_if_eq (tgt := 210) hx hb dX11_fight_190 (by decide) (fun c_99 => ?_) (fun c_99 => ?_)
        · rw [if_pos c_99] at hF
          refine lv_iconst (v := (-1)) hx hb dX11_fight_210 (by decide) ?_
          exact cr_i hC hH hr (nrt_eq hF) dX11_fight_211 hlocks
        · rw [if_neg c_99] at hF
          refine lv_aload_n hx hb dX11_fight_193 rfl (lv_at hl 2 rfl) ?_
          refine cg_X11_10 hC hH dX11_fight_194 ?_
          refine lv_iload_n hx hb dX11_fight_197 rfl (lv_at hl 3 rfl) ?_
          refine lv_iload_n hx hb dX11_fight_198 rfl (lv_at hl 4 rfl) ?_
          refine lv_bipush (v := 6) hx hb dX11_fight_199 (by decide) ?_
          obtain ⟨r_100, u_101, h_102, hF⟩ := ncl_some hF
          refine ccS_i (As := [.int a0, .int a1, .int 6]) (rest := [.ref (Q 1)]) hC hH (n_X1_ofFight l G Z Q _ T u_6 u_101 r_100 a0 a1 6 _ h_102) ⟨wkc_X1_ofFight, wka285, wka437, wka745⟩ kSX1_ofFight ⟨Nat.le_of_ble_eq_true rfl, Nat.le_of_ble_eq_true rfl⟩ rfl hl.1 rfl (Nat.le_of_ble_eq_true rfl) dX11_fight_201 (fun D H locs hH => ?_)
          refine bat (i := 1) (j := 11) hC hH rfl rfl (by decide) wka197 ⟨Nat.le_of_ble_eq_true rfl, Nat.le_of_ble_eq_true rfl⟩ hl.1 (Nat.le_of_ble_eq_true rfl) ⟨Nat.zero_le _, Nat.zero_le _⟩ dX11_fight_204 ?_
          obtain ⟨x_103, u_104, h_105, hF⟩ := ncl_some hF
          obtain ⟨e_106, rfl⟩ := nGT_eq h_105
          refine gx_ti e_106 ?_
          refine lv_goto (tgt := 211) hx hb dX11_fight_207 (by decide) ?_
          exact cr_i hC hH hr (nrt_eq hF) dX11_fight_211 hlocks
      rw [if_neg c_98] at hF
      refine lv_tableOut (tgt := 212) hx hb dX11_fight_39 (by have q0 := gl_ne c_58 (a := 0) (by decide); have q1 := gl_ne c_62 (a := 1) (by decide); have q2 := gl_ne c_66 (a := 2) (by decide); have q3 := gl_ne c_70 (a := 3) (by decide); have q4 := gl_ne c_71 (a := 4) (by decide); have q5 := gl_ne c_80 (a := 5) (by decide); have q6 := gl_ne c_89 (a := 6) (by decide); have q7 := gl_ne c_98 (a := 7) (by decide); omega) (by decide) ?_
      refine lv_iconst (v := (-1)) hx hb dX11_fight_212 (by decide) ?_
      exact cr_i hC hH hr (nrt_eq hF) dX11_fight_213 hlocks
  · rw [if_pos c_4] at hF
    refine lv_iconst (v := (-1)) hx hb dX11_fight_12 (by decide) ?_
    exact cr_i hC hH hr (nrt_eq hF) dX11_fight_13 hlocks
def x_X11_medal (a0 : Int32) (a1 : Int32) : NG Int32 := ncl (x_X11_isClass a0) (fun r_1 => (if r_1 = 0 then nrt (-1) else ncl (x_X0_kindOf a0) (fun r_5 => (if r_5 = 1 then ncl (x_X7_ofPool a0 a1) (fun r_9 => nrt r_9) else if r_5 = 2 then ncl (x_X7_ofTree a0 a1) (fun r_13 => nrt r_13) else nrt (-1)))))
set_option maxHeartbeats 4000000 in
set_option maxRecDepth 100000 in
theorem n_X11_medal (l : Launch) (G : gG) (Z : gC) (Q : Nat → Nat) (D : Nat × Nat) (T : va_W) (u u1 : MS) (r : Int32) (a0 : Int32) (a1 : Int32) (sz : Nat) (hF : x_X11_medal a0 a1 u = some (r, u1)) : Met l yX11_medal (Cond.code yX11_medal cX11_medal 3 (some .int) :: wK) { frames := 7, cells := 0, slots := 0, locals := 166 } (va_Pc [.ref (Q 0), .int a0, .int a1] (cPM G Z Q D T u sz)) (cQi G Q T u1 r (va_A (cW G Q D T u) sz)) 0 0 (va_A (cW G Q D T u) sz) := by
  refine Met.ofW (cc := cX11_medal) (maxL := 3) (ret := (some .int)) (by decide) rfl ?_
  intro p e s m args below meth c s₁ B hml hv
  obtain ⟨rfl, rfl, hP, hB, hD0, hE⟩ := hv
  have hr := B.returns
  have hlocks := B.notSynchronized
  have hts := atoms_spec (ws := Cond.code yX11_medal cX11_medal 3 (some .int) :: wK) B.pre
  have hD := hD0.self (sz := s.heap.size)
  have hA : ∀ q : Nat, s.heap.size ≤ q → va_A (cW G Q D T u) s.heap.size q := fun q h => Or.inr h
  generalize va_A (cW G Q D T u) s.heap.size = A at hD hA hE ⊢
  have hC : cX p c cX11_medal 3 s m _ RX11 G Z A := ⟨B.exec, B.bytes, hml, findClass_of_methodNamed B.named, fun w h => hts w (List.mem_cons_of_mem _ h), hB, hE, hA⟩
  have hx := hC.1
  have hb := hC.2.1
  have hH : cH G Q D T A u s s.heap [] := ⟨hP, hD, va_S.rf⟩
  have hl := lv_entry ([.ref (Q 0), .int a0, .int a1]) (n := 3) (Nat.le_of_ble_eq_true rfl)
  rw [lg_entry_eq]
  generalize (lg_sl ([.ref (Q 0), .int a0, .int a1]) ++ List.replicate (3 - (lg_sl ([.ref (Q 0), .int a0, .int a1])).length) Slot.unset).toArray = ls at hl ⊢
  have hl : lv_has ls 3 [(0, .ref (Q 0)), (1, .int a0), (2, .int a1)] := hl
  unfold x_X11_medal at hF
  refine lv_iload_n hx hb dX11_medal_0 rfl (lv_at hl 1 rfl) ?_
  obtain ⟨r_1, u_2, h_3, hF⟩ := ncl_some hF
  refine ccS_i (As := [.int a0]) (rest := []) hC hH (n_X11_isClass l G Z Q _ T u u_2 r_1 a0 _ h_3) ⟨wkc_X11_isClass, wka207, wka728, wka755⟩ kSX11_isClass ⟨Nat.le_of_ble_eq_true rfl, Nat.le_of_ble_eq_true rfl⟩ rfl hl.1 rfl (Nat.le_of_ble_eq_true rfl) dX11_medal_1 (fun D H locs hH => ?_)
  refine lv_if_ne (tgt := 9) hx hb dX11_medal_4 (by decide) (fun c_4 => ?_) (fun c_4 => ?_)
  · rw [if_neg c_4] at hF
    refine lv_aload_n hx hb dX11_medal_9 rfl (lv_at hl 0 rfl) ?_
    refine cg_X11_51 hC hH dX11_medal_10 ?_
    refine lv_iload_n hx hb dX11_medal_13 rfl (lv_at hl 1 rfl) ?_
    obtain ⟨r_5, u_6, h_7, hF⟩ := ncl_some hF
    refine ccV_i (q0 := 6) (As := [.int a0]) (rest := []) hC hH (n_X0_kindOf l G Z Q _ T u_2 u_6 r_5 a0 _ h_7) rfl rfl ⟨wkc_X0_kindOf, wka274, wka388, wka389, wka744⟩ kVX0_kindOf ⟨Nat.le_of_ble_eq_true rfl, Nat.le_of_ble_eq_true rfl⟩ rfl hl.1 rfl (Nat.le_of_ble_eq_true rfl) dX11_medal_14 (fun D H locs hH => ?_)
    by_cases c_8 : r_5 = 1
    · rw [if_pos c_8] at hF
      refine gx_ti (y := 1) c_8 ?_
      refine lv_lookup (off := 27) (tgt := 44) hx hb dX11_medal_17 (by decide) (by decide) (by decide) ?_
      refine lv_aload_n hx hb dX11_medal_44 rfl (lv_at hl 0 rfl) ?_
      refine cg_X11_67 hC hH dX11_medal_45 ?_
      refine lv_iload_n hx hb dX11_medal_48 rfl (lv_at hl 1 rfl) ?_
      refine lv_iload_n hx hb dX11_medal_49 rfl (lv_at hl 2 rfl) ?_
      obtain ⟨r_9, u_10, h_11, hF⟩ := ncl_some hF
      refine ccV_i (q0 := 8) (As := [.int a0, .int a1]) (rest := []) hC hH (n_X7_ofPool l G Z Q _ T u_6 u_10 r_9 a0 a1 _ h_11) rfl rfl ⟨wkc_X7_ofPool, wka328, wka612, wka613, wka751⟩ kVX7_ofPool ⟨Nat.le_of_ble_eq_true rfl, Nat.le_of_ble_eq_true rfl⟩ rfl hl.1 rfl (Nat.le_of_ble_eq_true rfl) dX11_medal_50 (fun D H locs hH => ?_)
      exact cr_i hC hH hr (nrt_eq hF) dX11_medal_53 hlocks
    rw [if_neg c_8] at hF
    by_cases c_12 : r_5 = 2
    · rw [if_pos c_12] at hF
      refine gx_ti (y := 2) c_12 ?_
      refine lv_lookup (off := 37) (tgt := 54) hx hb dX11_medal_17 (by decide) (by decide) (by decide) ?_
      refine lv_aload_n hx hb dX11_medal_54 rfl (lv_at hl 0 rfl) ?_
      refine cg_X11_67 hC hH dX11_medal_55 ?_
      refine lv_iload_n hx hb dX11_medal_58 rfl (lv_at hl 1 rfl) ?_
      refine lv_iload_n hx hb dX11_medal_59 rfl (lv_at hl 2 rfl) ?_
      obtain ⟨r_13, u_14, h_15, hF⟩ := ncl_some hF
      refine ccV_i (q0 := 8) (As := [.int a0, .int a1]) (rest := []) hC hH (n_X7_ofTree l G Z Q _ T u_6 u_14 r_13 a0 a1 _ h_15) rfl rfl ⟨wkc_X7_ofTree, wka348, wka610, wka611, wka751⟩ kVX7_ofTree ⟨Nat.le_of_ble_eq_true rfl, Nat.le_of_ble_eq_true rfl⟩ rfl hl.1 rfl (Nat.le_of_ble_eq_true rfl) dX11_medal_60 (fun D H locs hH => ?_)
      exact cr_i hC hH hr (nrt_eq hF) dX11_medal_63 hlocks
    rw [if_neg c_12] at hF
    refine lv_lookup (off := 47) (tgt := 64) hx hb dX11_medal_17 (by decide) (by show Op.lookupswitch.offset [(1, 27), (2, 37)] 47 _ = _; rw [Op.lookupswitch.offset_cons, if_neg (gl_ne c_8 (by decide)), Op.lookupswitch.offset_cons, if_neg (gl_ne c_12 (by decide))]; rfl) (by decide) ?_
    refine lv_iconst (v := (-1)) hx hb dX11_medal_64 (by decide) ?_
    exact cr_i hC hH hr (nrt_eq hF) dX11_medal_65 hlocks
  · rw [if_pos c_4] at hF
    refine lv_iconst (v := (-1)) hx hb dX11_medal_7 (by decide) ?_
    exact cr_i hC hH hr (nrt_eq hF) dX11_medal_8 hlocks
def x_X11_plan (a0 : Int32) (a1 : Int32) : NG Int32 := (if a0 < 1 then nrt (-2) else (if 4 < a0 then nrt (-2) else (if a1 < 1 then nrt (-2) else (if a1 ≤ 60 then ncl (x_X6_planDay a0 a1) (fun r_5 => nrt r_5) else nrt (-2)))))
set_option maxHeartbeats 4000000 in
set_option maxRecDepth 100000 in
theorem n_X11_plan (l : Launch) (G : gG) (Z : gC) (Q : Nat → Nat) (D : Nat × Nat) (T : va_W) (u u1 : MS) (r : Int32) (a0 : Int32) (a1 : Int32) (sz : Nat) (hF : x_X11_plan a0 a1 u = some (r, u1)) : Met l yX11_plan (Cond.code yX11_plan cX11_plan 3 (some .int) :: wK) { frames := 6, cells := 0, slots := 0, locals := 143 } (va_Pc [.ref (Q 0), .int a0, .int a1] (cPM G Z Q D T u sz)) (cQi G Q T u1 r (va_A (cW G Q D T u) sz)) 0 0 (va_A (cW G Q D T u) sz) := by
  refine Met.ofW (cc := cX11_plan) (maxL := 3) (ret := (some .int)) (by decide) rfl ?_
  intro p e s m args below meth c s₁ B hml hv
  obtain ⟨rfl, rfl, hP, hB, hD0, hE⟩ := hv
  have hr := B.returns
  have hlocks := B.notSynchronized
  have hts := atoms_spec (ws := Cond.code yX11_plan cX11_plan 3 (some .int) :: wK) B.pre
  have hD := hD0.self (sz := s.heap.size)
  have hA : ∀ q : Nat, s.heap.size ≤ q → va_A (cW G Q D T u) s.heap.size q := fun q h => Or.inr h
  generalize va_A (cW G Q D T u) s.heap.size = A at hD hA hE ⊢
  have hC : cX p c cX11_plan 3 s m _ RX11 G Z A := ⟨B.exec, B.bytes, hml, findClass_of_methodNamed B.named, fun w h => hts w (List.mem_cons_of_mem _ h), hB, hE, hA⟩
  have hx := hC.1
  have hb := hC.2.1
  have hH : cH G Q D T A u s s.heap [] := ⟨hP, hD, va_S.rf⟩
  have hl := lv_entry ([.ref (Q 0), .int a0, .int a1]) (n := 3) (Nat.le_of_ble_eq_true rfl)
  rw [lg_entry_eq]
  generalize (lg_sl ([.ref (Q 0), .int a0, .int a1]) ++ List.replicate (3 - (lg_sl ([.ref (Q 0), .int a0, .int a1])).length) Slot.unset).toArray = ls at hl ⊢
  have hl : lv_has ls 3 [(0, .ref (Q 0)), (1, .int a0), (2, .int a1)] := hl
  unfold x_X11_plan at hF
  refine lv_iload_n hx hb dX11_plan_0 rfl (lv_at hl 1 rfl) ?_
  refine lv_iconst (v := 1) hx hb dX11_plan_1 (by decide) ?_
  refine lv_icmp_lt (tgt := 21) hx hb dX11_plan_2 (by decide) (fun c_1 => ?_) (fun c_1 => ?_)
  · rw [if_pos c_1] at hF
    refine lv_bipush (v := (-2)) hx hb dX11_plan_21 (by decide) ?_
    exact cr_i hC hH hr (nrt_eq hF) dX11_plan_23 hlocks
  · rw [if_neg c_1] at hF
    refine lv_iload_n hx hb dX11_plan_5 rfl (lv_at hl 1 rfl) ?_
    refine lv_iconst (v := 4) hx hb dX11_plan_6 (by decide) ?_
    refine lv_icmp_gt (tgt := 21) hx hb dX11_plan_7 (by decide) (fun c_2 => ?_) (fun c_2 => ?_)
    · rw [if_pos c_2] at hF
      refine lv_bipush (v := (-2)) hx hb dX11_plan_21 (by decide) ?_
      exact cr_i hC hH hr (nrt_eq hF) dX11_plan_23 hlocks
    · rw [if_neg c_2] at hF
      refine lv_iload_n hx hb dX11_plan_10 rfl (lv_at hl 2 rfl) ?_
      refine lv_iconst (v := 1) hx hb dX11_plan_11 (by decide) ?_
      refine lv_icmp_lt (tgt := 21) hx hb dX11_plan_12 (by decide) (fun c_3 => ?_) (fun c_3 => ?_)
      · rw [if_pos c_3] at hF
        refine lv_bipush (v := (-2)) hx hb dX11_plan_21 (by decide) ?_
        exact cr_i hC hH hr (nrt_eq hF) dX11_plan_23 hlocks
      · rw [if_neg c_3] at hF
        refine lv_iload_n hx hb dX11_plan_15 rfl (lv_at hl 2 rfl) ?_
        refine lv_bipush (v := 60) hx hb dX11_plan_16 (by decide) ?_
        refine lv_icmp_le (tgt := 24) hx hb dX11_plan_18 (by decide) (fun c_4 => ?_) (fun c_4 => ?_)
        · rw [if_pos c_4] at hF
          refine lv_aload_n hx hb dX11_plan_24 rfl (lv_at hl 0 rfl) ?_
          refine cg_X11_74 hC hH dX11_plan_25 ?_
          refine lv_iload_n hx hb dX11_plan_28 rfl (lv_at hl 1 rfl) ?_
          refine lv_iload_n hx hb dX11_plan_29 rfl (lv_at hl 2 rfl) ?_
          obtain ⟨r_5, u_6, h_7, hF⟩ := ncl_some hF
          refine ccV_i (q0 := 9) (As := [.int a0, .int a1]) (rest := []) hC hH (n_X6_planDay l G Z Q _ T u u_6 r_5 a0 a1 _ h_7) rfl rfl ⟨wkc_X6_planDay, wka349, wka578, wka579, wka750⟩ kVX6_planDay ⟨Nat.le_of_ble_eq_true rfl, Nat.le_of_ble_eq_true rfl⟩ rfl hl.1 rfl (Nat.le_of_ble_eq_true rfl) dX11_plan_30 (fun D H locs hH => ?_)
          exact cr_i hC hH hr (nrt_eq hF) dX11_plan_33 hlocks
        · rw [if_neg c_4] at hF
          refine lv_bipush (v := (-2)) hx hb dX11_plan_21 (by decide) ?_
          exact cr_i hC hH hr (nrt_eq hF) dX11_plan_23 hlocks
def x_X11_planned (a0 : Int32) (a1 : Int32) (a2 : Int32) : NG Int32 := ncl (x_X0_has a0 a1) (fun r_1 => (if r_1 = 0 then nrt (-1) else ncl (x_X6_tell a0 a1 a2) (fun r_5 => nrt r_5)))
set_option maxHeartbeats 4000000 in
set_option maxRecDepth 100000 in
theorem n_X11_planned (l : Launch) (G : gG) (Z : gC) (Q : Nat → Nat) (D : Nat × Nat) (T : va_W) (u u1 : MS) (r : Int32) (a0 : Int32) (a1 : Int32) (a2 : Int32) (sz : Nat) (hF : x_X11_planned a0 a1 a2 u = some (r, u1)) : Met l yX11_planned (Cond.code yX11_planned cX11_planned 4 (some .int) :: wK) { frames := 4, cells := 0, slots := 0, locals := 87 } (va_Pc [.ref (Q 0), .int a0, .int a1, .int a2] (cPM G Z Q D T u sz)) (cQi G Q T u1 r (va_A (cW G Q D T u) sz)) 0 0 (va_A (cW G Q D T u) sz) := by
  refine Met.ofW (cc := cX11_planned) (maxL := 4) (ret := (some .int)) (by decide) rfl ?_
  intro p e s m args below meth c s₁ B hml hv
  obtain ⟨rfl, rfl, hP, hB, hD0, hE⟩ := hv
  have hr := B.returns
  have hlocks := B.notSynchronized
  have hts := atoms_spec (ws := Cond.code yX11_planned cX11_planned 4 (some .int) :: wK) B.pre
  have hD := hD0.self (sz := s.heap.size)
  have hA : ∀ q : Nat, s.heap.size ≤ q → va_A (cW G Q D T u) s.heap.size q := fun q h => Or.inr h
  generalize va_A (cW G Q D T u) s.heap.size = A at hD hA hE ⊢
  have hC : cX p c cX11_planned 4 s m _ RX11 G Z A := ⟨B.exec, B.bytes, hml, findClass_of_methodNamed B.named, fun w h => hts w (List.mem_cons_of_mem _ h), hB, hE, hA⟩
  have hx := hC.1
  have hb := hC.2.1
  have hH : cH G Q D T A u s s.heap [] := ⟨hP, hD, va_S.rf⟩
  have hl := lv_entry ([.ref (Q 0), .int a0, .int a1, .int a2]) (n := 4) (Nat.le_of_ble_eq_true rfl)
  rw [lg_entry_eq]
  generalize (lg_sl ([.ref (Q 0), .int a0, .int a1, .int a2]) ++ List.replicate (4 - (lg_sl ([.ref (Q 0), .int a0, .int a1, .int a2])).length) Slot.unset).toArray = ls at hl ⊢
  have hl : lv_has ls 4 [(0, .ref (Q 0)), (1, .int a0), (2, .int a1), (3, .int a2)] := hl
  unfold x_X11_planned at hF
  refine lv_aload_n hx hb dX11_planned_0 rfl (lv_at hl 0 rfl) ?_
  refine cg_X11_51 hC hH dX11_planned_1 ?_
  refine lv_iload_n hx hb dX11_planned_4 rfl (lv_at hl 1 rfl) ?_
  refine lv_iload_n hx hb dX11_planned_5 rfl (lv_at hl 2 rfl) ?_
  obtain ⟨r_1, u_2, h_3, hF⟩ := ncl_some hF
  refine ccV_i (q0 := 6) (As := [.int a0, .int a1]) (rest := []) hC hH (n_X0_has l G Z Q _ T u u_2 r_1 a0 a1 _ h_3) rfl rfl ⟨wkc_X0_has, wka280, wka399, wka400, wka744⟩ kVX0_has ⟨Nat.le_of_ble_eq_true rfl, Nat.le_of_ble_eq_true rfl⟩ rfl hl.1 rfl (Nat.le_of_ble_eq_true rfl) dX11_planned_6 (fun D H locs hH => ?_)
  refine lv_if_ne (tgt := 14) hx hb dX11_planned_9 (by decide) (fun c_4 => ?_) (fun c_4 => ?_)
  · rw [if_neg c_4] at hF
    refine lv_aload_n hx hb dX11_planned_14 rfl (lv_at hl 0 rfl) ?_
    refine cg_X11_74 hC hH dX11_planned_15 ?_
    refine lv_iload_n hx hb dX11_planned_18 rfl (lv_at hl 1 rfl) ?_
    refine lv_iload_n hx hb dX11_planned_19 rfl (lv_at hl 2 rfl) ?_
    refine lv_iload_n hx hb dX11_planned_20 rfl (lv_at hl 3 rfl) ?_
    obtain ⟨r_5, u_6, h_7, hF⟩ := ncl_some hF
    refine ccV_i (q0 := 9) (As := [.int a0, .int a1, .int a2]) (rest := []) hC hH (n_X6_tell l G Z Q _ T u_2 u_6 r_5 a0 a1 a2 _ h_7) rfl rfl ⟨wkc_X6_tell, wka383, wka576, wka577, wka750⟩ kVX6_tell ⟨Nat.le_of_ble_eq_true rfl, Nat.le_of_ble_eq_true rfl⟩ rfl hl.1 rfl (Nat.le_of_ble_eq_true rfl) dX11_planned_21 (fun D H locs hH => ?_)
    exact cr_i hC hH hr (nrt_eq hF) dX11_planned_24 hlocks
  · rw [if_pos c_4] at hF
    refine lv_iconst (v := (-1)) hx hb dX11_planned_12 (by decide) ?_
    exact cr_i hC hH hr (nrt_eq hF) dX11_planned_13 hlocks
def xl_X11_undo_21 : Nat → Int32 → (Int32 → NG Int32) → NG Int32
  | 0, _, _ => fun _ => none
  | n21 + 1, v1, K21_40 => (if 4 ≤ v1 then K21_40 v1 else ncl (x_X0_settle v1) (fun r_10 => nli (v1 + 1) (fun x_13 => xl_X11_undo_21 n21 x_13 K21_40)))
def x_X11_undo : NG Int32 := ncl (nRF 1) (fun x_1 => (if x_1 = 0 then nrt (-1) else ncl (x_X1_takeBack) (fun r_6 => xl_X11_undo_21 fuel 0 (fun v1 => ncl (nRF 1) (fun x_15 => nrt x_15)))))
set_option maxHeartbeats 4000000 in
set_option maxRecDepth 100000 in
theorem n_X11_undo (l : Launch) (G : gG) (Z : gC) (Q : Nat → Nat) (D : Nat × Nat) (T : va_W) (u u1 : MS) (r : Int32) (sz : Nat) (hF : x_X11_undo u = some (r, u1)) : Met l yX11_undo (Cond.code yX11_undo cX11_undo 2 (some .int) :: wK) { frames := 5, cells := 0, slots := 0, locals := 120 } (va_Pc [.ref (Q 0)] (cPM G Z Q D T u sz)) (cQi G Q T u1 r (va_A (cW G Q D T u) sz)) 0 0 (va_A (cW G Q D T u) sz) := by
  refine Met.ofW (cc := cX11_undo) (maxL := 2) (ret := (some .int)) (by decide) rfl ?_
  intro p e s m args below meth c s₁ B hml hv
  obtain ⟨rfl, rfl, hP, hB, hD0, hE⟩ := hv
  have hr := B.returns
  have hlocks := B.notSynchronized
  have hts := atoms_spec (ws := Cond.code yX11_undo cX11_undo 2 (some .int) :: wK) B.pre
  have hD := hD0.self (sz := s.heap.size)
  have hA : ∀ q : Nat, s.heap.size ≤ q → va_A (cW G Q D T u) s.heap.size q := fun q h => Or.inr h
  generalize va_A (cW G Q D T u) s.heap.size = A at hD hA hE ⊢
  have hC : cX p c cX11_undo 2 s m _ RX11 G Z A := ⟨B.exec, B.bytes, hml, findClass_of_methodNamed B.named, fun w h => hts w (List.mem_cons_of_mem _ h), hB, hE, hA⟩
  have hx := hC.1
  have hb := hC.2.1
  have hH : cH G Q D T A u s s.heap [] := ⟨hP, hD, va_S.rf⟩
  have hl := lv_entry ([.ref (Q 0)]) (n := 2) (Nat.le_of_ble_eq_true rfl)
  rw [lg_entry_eq]
  generalize (lg_sl ([.ref (Q 0)]) ++ List.replicate (2 - (lg_sl ([.ref (Q 0)])).length) Slot.unset).toArray = ls at hl ⊢
  have hl : lv_has ls 2 [(0, .ref (Q 0))] := hl
  unfold x_X11_undo at hF
  refine lv_aload_n hx hb dX11_undo_0 rfl (lv_at hl 0 rfl) ?_
  refine cg_X11_10 hC hH dX11_undo_1 ?_
  refine cg_X11_314 hC hH dX11_undo_4 ?_
  obtain ⟨x_1, u_2, h_3, hF⟩ := ncl_some hF
  obtain ⟨e_4, rfl⟩ := nRF_eq h_3
  refine gx_ti e_4 ?_
  refine lv_if_ne (tgt := 12) hx hb dX11_undo_7 (by decide) (fun c_5 => ?_) (fun c_5 => ?_)
  · rw [if_neg c_5] at hF
    refine lv_aload_n hx hb dX11_undo_12 rfl (lv_at hl 0 rfl) ?_
    refine cg_X11_10 hC hH dX11_undo_13 ?_
    obtain ⟨r_6, u_7, h_8, hF⟩ := ncl_some hF
    refine ccV_v (q0 := 1) (As := []) (rest := []) hC hH (n_X1_takeBack l G Z Q _ T u u_7 r_6 _ h_8) rfl rfl ⟨wkc_X1_takeBack, wka384, wka445, wka446, wka745⟩ kVX1_takeBack ⟨Nat.le_of_ble_eq_true rfl, Nat.le_of_ble_eq_true rfl⟩ rfl hl.1 rfl (Nat.le_of_ble_eq_true rfl) dX11_undo_16 (fun D H locs hH => ?_)
    refine lv_iconst (v := 0) hx hb dX11_undo_19 (by decide) ?_
    refine lv_istore_n (lv' := [(1, .int 0), (0, .ref (Q 0))]) hx hb dX11_undo_20 rfl hl (by decide) rfl (fun ls hl => ?_)
    have hL21 : ∀ (K21_40 : Int32 → NG Int32), (∀ (v1 : Int32) (u : MS) (D : Nat × Nat) (H : Heap) (locs : List Loc) (ls : Array Slot), lv_has ls 2 [(0, .ref (Q 0)), (1, .int v1)] → cH G Q D T A u s H locs → K21_40 v1 u = some (r, u1) → W p l e (headSpec (Cond.code yX11_undo cX11_undo 2 (some .int) :: wK) { frames := 5, cells := 0, slots := 0, locals := 120 }).room s m [.ref (Q 0)].toArray below meth c H locs 0 0 (MQ below (cQi G Q T u1 r A) [.ref (Q 0)].toArray s 0 0 A) (F0 m 40 ls [])) → ∀ (n21 : Nat) (v1 : Int32) (u : MS) (D : Nat × Nat) (H : Heap) (locs : List Loc) (ls : Array Slot), lv_has ls 2 [(0, .ref (Q 0)), (1, .int v1)] → cH G Q D T A u s H locs → xl_X11_undo_21 n21 v1 K21_40 u = some (r, u1) → W p l e (headSpec (Cond.code yX11_undo cX11_undo 2 (some .int) :: wK) { frames := 5, cells := 0, slots := 0, locals := 120 }).room s m [.ref (Q 0)].toArray below meth c H locs 0 0 (MQ below (cQi G Q T u1 r A) [.ref (Q 0)].toArray s 0 0 A) (F0 m 21 ls []) := by
      intro K21_40 hK21_40 n21
      induction n21 with
      | zero => intro v1 u D H locs ls hl hH hF; cases hF
      | succ n21 ih21 =>
        intro v1 u D H locs ls hl hH hF
        unfold xl_X11_undo_21 at hF
        refine lv_iload_n hx hb dX11_undo_21 rfl (lv_at hl 1 rfl) ?_
        refine lv_iconst (v := 4) hx hb dX11_undo_22 (by decide) ?_
        refine lv_icmp_ge (tgt := 40) hx hb dX11_undo_23 (by decide) (fun c_9 => ?_) (fun c_9 => ?_)
        · rw [if_pos c_9] at hF
          exact hK21_40 v1 u _ _ _ _ (lv_sub hl [0, 1] rfl) hH hF
        · rw [if_neg c_9] at hF
          refine lv_aload_n hx hb dX11_undo_26 rfl (lv_at hl 0 rfl) ?_
          refine cg_X11_51 hC hH dX11_undo_27 ?_
          refine lv_iload_n hx hb dX11_undo_30 rfl (lv_at hl 1 rfl) ?_
          obtain ⟨r_10, u_11, h_12, hF⟩ := ncl_some hF
          refine ccV_v (q0 := 6) (As := [.int v1]) (rest := []) hC hH (n_X0_settle l G Z Q _ T u u_11 r_10 v1 _ h_12) rfl rfl ⟨wkc_X0_settle, wka253, wka413, wka414, wka744⟩ kVX0_settle ⟨Nat.le_of_ble_eq_true rfl, Nat.le_of_ble_eq_true rfl⟩ rfl hl.1 rfl (Nat.le_of_ble_eq_true rfl) dX11_undo_31 (fun D H locs hH => ?_)
          obtain ⟨x_13, e_14, hF⟩ := nli_some hF
          refine lv_iinc (v := x_13) (lv' := [(1, .int x_13), (0, .ref (Q 0))]) hx hb dX11_undo_34 hl (k := 1) rfl e_14 (by decide) rfl (fun ls hl => ?_)
          refine lv_goto (tgt := 21) hx hb dX11_undo_37 (by decide) ?_
          exact ih21 x_13 u_11 _ _ _ _ (lv_sub hl [1, 0] rfl) hH hF
    refine hL21 _ (fun v1 u D H locs ls hl hH hF => ?_) fuel 0 u_7 _ _ _ _ (lv_sub hl [1, 0] rfl) hH hF
    refine lv_aload_n hx hb dX11_undo_40 rfl (lv_at hl 0 rfl) ?_
    refine cg_X11_10 hC hH dX11_undo_41 ?_
    refine cg_X11_314 hC hH dX11_undo_44 ?_
    obtain ⟨x_15, u_16, h_17, hF⟩ := ncl_some hF
    obtain ⟨e_18, rfl⟩ := nRF_eq h_17
    refine gx_ti e_18 ?_
    exact cr_i hC hH hr (nrt_eq hF) dX11_undo_47 hlocks
  · rw [if_pos c_5] at hF
    refine lv_iconst (v := (-1)) hx hb dX11_undo_10 (by decide) ?_
    exact cr_i hC hH hr (nrt_eq hF) dX11_undo_11 hlocks
def x_X11_isMat (a0 : Int32) : NG Int32 := (if a0 < 0 then nrt 0 else (if 4 ≤ a0 then nrt 0 else nrt 1))
set_option maxHeartbeats 4000000 in
set_option maxRecDepth 100000 in
theorem n_X11_isMat (l : Launch) (G : gG) (Z : gC) (Q : Nat → Nat) (D : Nat × Nat) (T : va_W) (u u1 : MS) (r : Int32) (a0 : Int32) (sz : Nat) (hF : x_X11_isMat a0 u = some (r, u1)) : Met l yX11_isMat (Cond.code yX11_isMat cX11_isMat 1 (some .boolean) :: wK) { frames := 0, cells := 0, slots := 0, locals := 0 } (va_Pc [.int a0] (cPM G Z Q D T u sz)) (cQi G Q T u1 r (va_A (cW G Q D T u) sz)) 0 0 (va_A (cW G Q D T u) sz) := by
  refine Met.ofW (cc := cX11_isMat) (maxL := 1) (ret := (some .boolean)) (by decide) rfl ?_
  intro p e s m args below meth c s₁ B hml hv
  obtain ⟨rfl, rfl, hP, hB, hD0, hE⟩ := hv
  have hr := B.returns
  have hlocks := B.notSynchronized
  have hts := atoms_spec (ws := Cond.code yX11_isMat cX11_isMat 1 (some .boolean) :: wK) B.pre
  have hD := hD0.self (sz := s.heap.size)
  have hA : ∀ q : Nat, s.heap.size ≤ q → va_A (cW G Q D T u) s.heap.size q := fun q h => Or.inr h
  generalize va_A (cW G Q D T u) s.heap.size = A at hD hA hE ⊢
  have hC : cX p c cX11_isMat 1 s m _ RX11 G Z A := ⟨B.exec, B.bytes, hml, findClass_of_methodNamed B.named, fun w h => hts w (List.mem_cons_of_mem _ h), hB, hE, hA⟩
  have hx := hC.1
  have hb := hC.2.1
  have hH : cH G Q D T A u s s.heap [] := ⟨hP, hD, va_S.rf⟩
  have hl := lv_entry ([.int a0]) (n := 1) (Nat.le_of_ble_eq_true rfl)
  rw [lg_entry_eq]
  generalize (lg_sl ([.int a0]) ++ List.replicate (1 - (lg_sl ([.int a0])).length) Slot.unset).toArray = ls at hl ⊢
  have hl : lv_has ls 1 [(0, .int a0)] := hl
  unfold x_X11_isMat at hF
  refine lv_iload_n hx hb dX11_isMat_0 rfl (lv_at hl 0 rfl) ?_
  refine lv_if_lt (tgt := 13) hx hb dX11_isMat_1 (by decide) (fun c_1 => ?_) (fun c_1 => ?_)
  · rw [if_pos c_1] at hF
    refine lv_iconst (v := 0) hx hb dX11_isMat_13 (by decide) ?_
    exact cr_z hC hH hr rfl (nrt_eq hF) dX11_isMat_14 hlocks
  · rw [if_neg c_1] at hF
    refine lv_iload_n hx hb dX11_isMat_4 rfl (lv_at hl 0 rfl) ?_
    refine lv_iconst (v := 4) hx hb dX11_isMat_5 (by decide) ?_
    refine lv_icmp_ge (tgt := 13) hx hb dX11_isMat_6 (by decide) (fun c_2 => ?_) (fun c_2 => ?_)
    · rw [if_pos c_2] at hF
      refine lv_iconst (v := 0) hx hb dX11_isMat_13 (by decide) ?_
      exact cr_z hC hH hr rfl (nrt_eq hF) dX11_isMat_14 hlocks
    · rw [if_neg c_2] at hF
      refine lv_iconst (v := 1) hx hb dX11_isMat_9 (by decide) ?_
      refine lv_goto (tgt := 14) hx hb dX11_isMat_10 (by decide) ?_
      exact cr_z hC hH hr rfl (nrt_eq hF) dX11_isMat_14 hlocks
def x_X11_isSide (a0 : Int32) : NG Int32 := (if a0 = 0 then nrt 1 else (if a0 = 1 then nrt 1 else nrt 0))
set_option maxHeartbeats 4000000 in
set_option maxRecDepth 100000 in
theorem n_X11_isSide (l : Launch) (G : gG) (Z : gC) (Q : Nat → Nat) (D : Nat × Nat) (T : va_W) (u u1 : MS) (r : Int32) (a0 : Int32) (sz : Nat) (hF : x_X11_isSide a0 u = some (r, u1)) : Met l yX11_isSide (Cond.code yX11_isSide cX11_isSide 1 (some .boolean) :: wK) { frames := 0, cells := 0, slots := 0, locals := 0 } (va_Pc [.int a0] (cPM G Z Q D T u sz)) (cQi G Q T u1 r (va_A (cW G Q D T u) sz)) 0 0 (va_A (cW G Q D T u) sz) := by
  refine Met.ofW (cc := cX11_isSide) (maxL := 1) (ret := (some .boolean)) (by decide) rfl ?_
  intro p e s m args below meth c s₁ B hml hv
  obtain ⟨rfl, rfl, hP, hB, hD0, hE⟩ := hv
  have hr := B.returns
  have hlocks := B.notSynchronized
  have hts := atoms_spec (ws := Cond.code yX11_isSide cX11_isSide 1 (some .boolean) :: wK) B.pre
  have hD := hD0.self (sz := s.heap.size)
  have hA : ∀ q : Nat, s.heap.size ≤ q → va_A (cW G Q D T u) s.heap.size q := fun q h => Or.inr h
  generalize va_A (cW G Q D T u) s.heap.size = A at hD hA hE ⊢
  have hC : cX p c cX11_isSide 1 s m _ RX11 G Z A := ⟨B.exec, B.bytes, hml, findClass_of_methodNamed B.named, fun w h => hts w (List.mem_cons_of_mem _ h), hB, hE, hA⟩
  have hx := hC.1
  have hb := hC.2.1
  have hH : cH G Q D T A u s s.heap [] := ⟨hP, hD, va_S.rf⟩
  have hl := lv_entry ([.int a0]) (n := 1) (Nat.le_of_ble_eq_true rfl)
  rw [lg_entry_eq]
  generalize (lg_sl ([.int a0]) ++ List.replicate (1 - (lg_sl ([.int a0])).length) Slot.unset).toArray = ls at hl ⊢
  have hl : lv_has ls 1 [(0, .int a0)] := hl
  unfold x_X11_isSide at hF
  refine lv_iload_n hx hb dX11_isSide_0 rfl (lv_at hl 0 rfl) ?_
  refine lv_if_eq (tgt := 9) hx hb dX11_isSide_1 (by decide) (fun c_1 => ?_) (fun c_1 => ?_)
  · rw [if_pos c_1] at hF
    refine lv_iconst (v := 1) hx hb dX11_isSide_9 (by decide) ?_
    refine lv_goto (tgt := 14) hx hb dX11_isSide_10 (by decide) ?_
    exact cr_z hC hH hr rfl (nrt_eq hF) dX11_isSide_14 hlocks
  · rw [if_neg c_1] at hF
    refine lv_iload_n hx hb dX11_isSide_4 rfl (lv_at hl 0 rfl) ?_
    refine lv_iconst (v := 1) hx hb dX11_isSide_5 (by decide) ?_
    refine lv_icmp_ne (tgt := 13) hx hb dX11_isSide_6 (by decide) (fun c_2 => ?_) (fun c_2 => ?_)
    · rw [if_neg c_2] at hF
      refine lv_iconst (v := 0) hx hb dX11_isSide_13 (by decide) ?_
      exact cr_z hC hH hr rfl (nrt_eq hF) dX11_isSide_14 hlocks
    · rw [if_pos c_2] at hF
      refine lv_iconst (v := 1) hx hb dX11_isSide_9 (by decide) ?_
      refine lv_goto (tgt := 14) hx hb dX11_isSide_10 (by decide) ?_
      exact cr_z hC hH hr rfl (nrt_eq hF) dX11_isSide_14 hlocks
def x_X11_isGrams (a0 : Int32) : NG Int32 := (if a0 < 0 then nrt 0 else (if 200000 < a0 then nrt 0 else nrt 1))
set_option maxHeartbeats 4000000 in
set_option maxRecDepth 100000 in
theorem n_X11_isGrams (l : Launch) (G : gG) (Z : gC) (Q : Nat → Nat) (D : Nat × Nat) (T : va_W) (u u1 : MS) (r : Int32) (a0 : Int32) (sz : Nat) (hF : x_X11_isGrams a0 u = some (r, u1)) : Met l yX11_isGrams (Cond.code yX11_isGrams cX11_isGrams 1 (some .boolean) :: wK) { frames := 0, cells := 0, slots := 0, locals := 0 } (va_Pc [.int a0] (cPM G Z Q D T u sz)) (cQi G Q T u1 r (va_A (cW G Q D T u) sz)) 0 0 (va_A (cW G Q D T u) sz) := by
  refine Met.ofW (cc := cX11_isGrams) (maxL := 1) (ret := (some .boolean)) (by decide) rfl ?_
  intro p e s m args below meth c s₁ B hml hv
  obtain ⟨rfl, rfl, hP, hB, hD0, hE⟩ := hv
  have hr := B.returns
  have hlocks := B.notSynchronized
  have hts := atoms_spec (ws := Cond.code yX11_isGrams cX11_isGrams 1 (some .boolean) :: wK) B.pre
  have hD := hD0.self (sz := s.heap.size)
  have hA : ∀ q : Nat, s.heap.size ≤ q → va_A (cW G Q D T u) s.heap.size q := fun q h => Or.inr h
  generalize va_A (cW G Q D T u) s.heap.size = A at hD hA hE ⊢
  have hC : cX p c cX11_isGrams 1 s m _ RX11 G Z A := ⟨B.exec, B.bytes, hml, findClass_of_methodNamed B.named, fun w h => hts w (List.mem_cons_of_mem _ h), hB, hE, hA⟩
  have hx := hC.1
  have hb := hC.2.1
  have hH : cH G Q D T A u s s.heap [] := ⟨hP, hD, va_S.rf⟩
  have hl := lv_entry ([.int a0]) (n := 1) (Nat.le_of_ble_eq_true rfl)
  rw [lg_entry_eq]
  generalize (lg_sl ([.int a0]) ++ List.replicate (1 - (lg_sl ([.int a0])).length) Slot.unset).toArray = ls at hl ⊢
  have hl : lv_has ls 1 [(0, .int a0)] := hl
  unfold x_X11_isGrams at hF
  refine lv_iload_n hx hb dX11_isGrams_0 rfl (lv_at hl 0 rfl) ?_
  refine lv_if_lt (tgt := 15) hx hb dX11_isGrams_1 (by decide) (fun c_1 => ?_) (fun c_1 => ?_)
  · rw [if_pos c_1] at hF
    refine lv_iconst (v := 0) hx hb dX11_isGrams_15 (by decide) ?_
    exact cr_z hC hH hr rfl (nrt_eq hF) dX11_isGrams_16 hlocks
  · rw [if_neg c_1] at hF
    refine lv_iload_n hx hb dX11_isGrams_4 rfl (lv_at hl 0 rfl) ?_
    refine lv_ldcw (v := 200000) hx hb hC.2.2.2.1 (hC.2.2.2.2.1 _ wka209) dX11_isGrams_5 ?_
    refine lv_icmp_gt (tgt := 15) hx hb dX11_isGrams_8 (by decide) (fun c_2 => ?_) (fun c_2 => ?_)
    · rw [if_pos c_2] at hF
      refine lv_iconst (v := 0) hx hb dX11_isGrams_15 (by decide) ?_
      exact cr_z hC hH hr rfl (nrt_eq hF) dX11_isGrams_16 hlocks
    · rw [if_neg c_2] at hF
      refine lv_iconst (v := 1) hx hb dX11_isGrams_11 (by decide) ?_
      refine lv_goto (tgt := 16) hx hb dX11_isGrams_12 (by decide) ?_
      exact cr_z hC hH hr rfl (nrt_eq hF) dX11_isGrams_16 hlocks

