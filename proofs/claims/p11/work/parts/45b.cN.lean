def xl_X3_isHeld_2 : Nat → Int32 → Int32 → (Int32 → Int32 → NG Int32) → NG Int32
  | 0, _, _, _ => fun _ => none
  | n2 + 1, v1, v2, K2_43 => (if 4 ≤ v2 then K2_43 v1 v2 else ncl (x_X3_isFree v2) (fun r_2 => (if r_2 = 0 then ncl (x_X3_fighterOn v2 0) (fun r_8 => (if r_8 = v1 then nrt 1 else ncl (x_X3_fighterOn v2 1) (fun r_12 => (if r_12 = v1 then nrt 1 else nli (v2 + 1) (fun x_16 => xl_X3_isHeld_2 n2 v1 x_16 K2_43))))) else nli (v2 + 1) (fun x_6 => xl_X3_isHeld_2 n2 v1 x_6 K2_43))))
def x_X3_isHeld (a0 : Int32) : NG Int32 := xl_X3_isHeld_2 fuel a0 0 (fun v1 v2 => ncl (x_X1_ofFighter v1 6) (fun r_18 => ncl (nGT 0 2088 r_18) (fun x_21 => (if x_21 = (-1) then nrt 0 else ncl (nGT 0 2088 0) (fun x_26 => ncl (nGT 0 2088 1) (fun x_30 => (if (x_21 + x_30) ≤ x_26 then nrt 0 else nrt 1)))))))
set_option maxHeartbeats 4000000 in
set_option maxRecDepth 100000 in
theorem n_X3_isHeld (l : Launch) (G : gG) (Z : gC) (Q : Nat → Nat) (D : Nat × Nat) (T : va_W) (u u1 : MS) (r : Int32) (a0 : Int32) (sz : Nat) (hF : x_X3_isHeld a0 u = some (r, u1)) : Met l yX3_isHeld (Cond.code yX3_isHeld cX3_isHeld 3 (some .boolean) :: wK) { frames := 3, cells := 0, slots := 0, locals := 67 } (va_Pc [.ref (Q 7), .int a0] (cPM G Z Q D T u sz)) (cQi G Q T u1 r (va_A (cW G Q D T u) sz)) 0 0 (va_A (cW G Q D T u) sz) := by
  refine Met.ofW (cc := cX3_isHeld) (maxL := 3) (ret := (some .boolean)) (by decide) rfl ?_
  intro p e s m args below meth c s₁ B hml hv
  obtain ⟨rfl, rfl, hP, hB, hD0, hE⟩ := hv
  have hr := B.returns
  have hlocks := B.notSynchronized
  have hts := atoms_spec (ws := Cond.code yX3_isHeld cX3_isHeld 3 (some .boolean) :: wK) B.pre
  have hD := hD0.self (sz := s.heap.size)
  have hA : ∀ q : Nat, s.heap.size ≤ q → va_A (cW G Q D T u) s.heap.size q := fun q h => Or.inr h
  generalize va_A (cW G Q D T u) s.heap.size = A at hD hA hE ⊢
  have hC : cX p c cX3_isHeld 3 s m _ RX3 G Z A := ⟨B.exec, B.bytes, hml, findClass_of_methodNamed B.named, fun w h => hts w (List.mem_cons_of_mem _ h), hB, hE, hA⟩
  have hx := hC.1
  have hb := hC.2.1
  have hH : cH G Q D T A u s s.heap [] := ⟨hP, hD, va_S.rf⟩
  have hl := lv_entry ([.ref (Q 7), .int a0]) (n := 3) (Nat.le_of_ble_eq_true rfl)
  rw [lg_entry_eq]
  generalize (lg_sl ([.ref (Q 7), .int a0]) ++ List.replicate (3 - (lg_sl ([.ref (Q 7), .int a0])).length) Slot.unset).toArray = ls at hl ⊢
  have hl : lv_has ls 3 [(0, .ref (Q 7)), (1, .int a0)] := hl
  unfold x_X3_isHeld at hF
  refine lv_iconst (v := 0) hx hb dX3_isHeld_0 (by decide) ?_
  refine lv_istore_n (lv' := [(2, .int 0), (0, .ref (Q 7)), (1, .int a0)]) hx hb dX3_isHeld_1 rfl hl (by decide) rfl (fun ls hl => ?_)
  have hL2 : ∀ (K2_43 : Int32 → Int32 → NG Int32), (∀ (v1 v2 : Int32) (u : MS) (D : Nat × Nat) (H : Heap) (locs : List Loc) (ls : Array Slot), lv_has ls 3 [(0, .ref (Q 7)), (1, .int v1), (2, .int v2)] → cH G Q D T A u s H locs → K2_43 v1 v2 u = some (r, u1) → W p l e (headSpec (Cond.code yX3_isHeld cX3_isHeld 3 (some .boolean) :: wK) { frames := 3, cells := 0, slots := 0, locals := 67 }).room s m [.ref (Q 7), .int a0].toArray below meth c H locs 0 0 (MQ below (cQi G Q T u1 r A) [.ref (Q 7), .int a0].toArray s 0 0 A) (F0 m 43 ls [])) → ∀ (n2 : Nat) (v1 v2 : Int32) (u : MS) (D : Nat × Nat) (H : Heap) (locs : List Loc) (ls : Array Slot), lv_has ls 3 [(0, .ref (Q 7)), (1, .int v1), (2, .int v2)] → cH G Q D T A u s H locs → xl_X3_isHeld_2 n2 v1 v2 K2_43 u = some (r, u1) → W p l e (headSpec (Cond.code yX3_isHeld cX3_isHeld 3 (some .boolean) :: wK) { frames := 3, cells := 0, slots := 0, locals := 67 }).room s m [.ref (Q 7), .int a0].toArray below meth c H locs 0 0 (MQ below (cQi G Q T u1 r A) [.ref (Q 7), .int a0].toArray s 0 0 A) (F0 m 2 ls []) := by
    intro K2_43 hK2_43 n2
    induction n2 with
    | zero => intro v1 v2 u D H locs ls hl hH hF; cases hF
    | succ n2 ih2 =>
      intro v1 v2 u D H locs ls hl hH hF
      unfold xl_X3_isHeld_2 at hF
      refine lv_iload_n hx hb dX3_isHeld_2 rfl (lv_at hl 2 rfl) ?_
      refine lv_iconst (v := 4) hx hb dX3_isHeld_3 (by decide) ?_
      refine lv_icmp_ge (tgt := 43) hx hb dX3_isHeld_4 (by decide) (fun c_1 => ?_) (fun c_1 => ?_)
      · rw [if_pos c_1] at hF
        exact hK2_43 v1 v2 u _ _ _ _ (lv_sub hl [0, 1, 2] rfl) hH hF
      · rw [if_neg c_1] at hF
        refine lv_aload_n hx hb dX3_isHeld_7 rfl (lv_at hl 0 rfl) ?_
        refine lv_iload_n hx hb dX3_isHeld_8 rfl (lv_at hl 2 rfl) ?_
        obtain ⟨r_2, u_3, h_4, hF⟩ := ncl_some hF
        refine ccV_i (q0 := 7) (As := [.int v2]) (rest := []) hC hH (n_X3_isFree l G Z Q _ T u u_3 r_2 v2 _ h_4) rfl rfl ⟨wkc_X3_isFree, wka142, wka473, wka474, wka747⟩ kVX3_isFree ⟨Nat.le_of_ble_eq_true rfl, Nat.le_of_ble_eq_true rfl⟩ rfl hl.1 rfl (Nat.le_of_ble_eq_true rfl) dX3_isHeld_9 (fun D H locs hH => ?_)
        refine lv_if_ne (tgt := 37) hx hb dX3_isHeld_12 (by decide) (fun c_5 => ?_) (fun c_5 => ?_)
        · rw [if_neg c_5] at hF
          obtain ⟨x_6, e_7, hF⟩ := nli_some hF
          refine lv_iinc (v := x_6) (lv' := [(2, .int x_6), (0, .ref (Q 7)), (1, .int v1)]) hx hb dX3_isHeld_37 hl (k := 2) rfl e_7 (by decide) rfl (fun ls hl => ?_)
          refine lv_goto (tgt := 2) hx hb dX3_isHeld_40 (by decide) ?_
          exact ih2 v1 x_6 u_3 _ _ _ _ (lv_sub hl [1, 2, 0] rfl) hH hF
        · rw [if_pos c_5] at hF
          refine lv_aload_n hx hb dX3_isHeld_15 rfl (lv_at hl 0 rfl) ?_
          refine lv_iload_n hx hb dX3_isHeld_16 rfl (lv_at hl 2 rfl) ?_
          refine lv_iconst (v := 0) hx hb dX3_isHeld_17 (by decide) ?_
          obtain ⟨r_8, u_9, h_10, hF⟩ := ncl_some hF
          refine ccV_i (q0 := 7) (As := [.int v2, .int 0]) (rest := []) hC hH (n_X3_fighterOn l G Z Q _ T u_3 u_9 r_8 v2 0 _ h_10) rfl rfl ⟨wkc_X3_fighterOn, wka289, wka485, wka486, wka747⟩ kVX3_fighterOn ⟨Nat.le_of_ble_eq_true rfl, Nat.le_of_ble_eq_true rfl⟩ rfl hl.1 rfl (Nat.le_of_ble_eq_true rfl) dX3_isHeld_18 (fun D H locs hH => ?_)
          refine lv_iload_n hx hb dX3_isHeld_21 rfl (lv_at hl 1 rfl) ?_
          refine lv_icmp_eq (tgt := 35) hx hb dX3_isHeld_22 (by decide) (fun c_11 => ?_) (fun c_11 => ?_)
          · rw [if_pos c_11] at hF
            refine lv_iconst (v := 1) hx hb dX3_isHeld_35 (by decide) ?_
            exact cr_z hC hH hr rfl (nrt_eq hF) dX3_isHeld_36 hlocks
          · rw [if_neg c_11] at hF
            refine lv_aload_n hx hb dX3_isHeld_25 rfl (lv_at hl 0 rfl) ?_
            refine lv_iload_n hx hb dX3_isHeld_26 rfl (lv_at hl 2 rfl) ?_
            refine lv_iconst (v := 1) hx hb dX3_isHeld_27 (by decide) ?_
            obtain ⟨r_12, u_13, h_14, hF⟩ := ncl_some hF
            refine ccV_i (q0 := 7) (As := [.int v2, .int 1]) (rest := []) hC hH (n_X3_fighterOn l G Z Q _ T u_9 u_13 r_12 v2 1 _ h_14) rfl rfl ⟨wkc_X3_fighterOn, wka289, wka485, wka486, wka747⟩ kVX3_fighterOn ⟨Nat.le_of_ble_eq_true rfl, Nat.le_of_ble_eq_true rfl⟩ rfl hl.1 rfl (Nat.le_of_ble_eq_true rfl) dX3_isHeld_28 (fun D H locs hH => ?_)
            refine lv_iload_n hx hb dX3_isHeld_31 rfl (lv_at hl 1 rfl) ?_
            refine lv_icmp_ne (tgt := 37) hx hb dX3_isHeld_32 (by decide) (fun c_15 => ?_) (fun c_15 => ?_)
            · rw [if_neg c_15] at hF
              obtain ⟨x_16, e_17, hF⟩ := nli_some hF
              refine lv_iinc (v := x_16) (lv' := [(2, .int x_16), (0, .ref (Q 7)), (1, .int v1)]) hx hb dX3_isHeld_37 hl (k := 2) rfl e_17 (by decide) rfl (fun ls hl => ?_)
              refine lv_goto (tgt := 2) hx hb dX3_isHeld_40 (by decide) ?_
              exact ih2 v1 x_16 u_13 _ _ _ _ (lv_sub hl [1, 2, 0] rfl) hH hF
            · rw [if_pos c_15] at hF
              refine lv_iconst (v := 1) hx hb dX3_isHeld_35 (by decide) ?_
              exact cr_z hC hH hr rfl (nrt_eq hF) dX3_isHeld_36 hlocks
  refine hL2 _ (fun v1 v2 u D H locs ls hl hH hF => ?_) fuel a0 0 u _ _ _ _ (lv_sub hl [1, 2, 0] rfl) hH hF
  refine lv_aload_n hx hb dX3_isHeld_43 rfl (lv_at hl 0 rfl) ?_
  refine cg_X3_9 hC hH dX3_isHeld_44 ?_
  refine lv_iload_n hx hb dX3_isHeld_47 rfl (lv_at hl 1 rfl) ?_
  refine lv_bipush (v := 6) hx hb dX3_isHeld_48 (by decide) ?_
  obtain ⟨r_18, u_19, h_20, hF⟩ := ncl_some hF
  refine ccS_i (As := [.int v1, .int 6]) (rest := [.ref (Q 1)]) hC hH (n_X1_ofFighter l G Z Q _ T u u_19 r_18 v1 6 _ h_20) ⟨wkc_X1_ofFighter, wka291, wka436, wka745⟩ kSX1_ofFighter ⟨Nat.le_of_ble_eq_true rfl, Nat.le_of_ble_eq_true rfl⟩ rfl hl.1 rfl (Nat.le_of_ble_eq_true rfl) dX3_isHeld_50 (fun D H locs hH => ?_)
  refine bat (i := 1) (j := 11) hC hH rfl rfl (by decide) wka145 ⟨Nat.le_of_ble_eq_true rfl, Nat.le_of_ble_eq_true rfl⟩ hl.1 (Nat.le_of_ble_eq_true rfl) ⟨Nat.zero_le _, Nat.zero_le _⟩ dX3_isHeld_53 ?_
  obtain ⟨x_21, u_22, h_23, hF⟩ := ncl_some hF
  obtain ⟨e_24, rfl⟩ := nGT_eq h_23
  refine gx_ti e_24 ?_
  refine lv_istore_n (lv' := [(2, .int x_21), (0, .ref (Q 7)), (1, .int v1)]) hx hb dX3_isHeld_56 rfl hl (by decide) rfl (fun ls hl => ?_)
  refine lv_iload_n hx hb dX3_isHeld_57 rfl (lv_at hl 0 rfl) ?_
  refine lv_iconst (v := (-1)) hx hb dX3_isHeld_58 (by decide) ?_
  refine lv_icmp_eq (tgt := 87) hx hb dX3_isHeld_59 (by decide) (fun c_25 => ?_) (fun c_25 => ?_)
  · rw [if_pos c_25] at hF
    refine lv_iconst (v := 0) hx hb dX3_isHeld_87 (by decide) ?_
    exact cr_z hC hH hr rfl (nrt_eq hF) dX3_isHeld_88 hlocks
  · rw [if_neg c_25] at hF
    refine lv_aload_n hx hb dX3_isHeld_62 rfl (lv_at hl 1 rfl) ?_
    refine cg_X3_9 hC hH dX3_isHeld_63 ?_
    refine lv_iconst (v := 0) hx hb dX3_isHeld_66 (by decide) ?_
    refine bat (i := 1) (j := 11) hC hH rfl rfl (by decide) wka145 ⟨Nat.le_of_ble_eq_true rfl, Nat.le_of_ble_eq_true rfl⟩ hl.1 (Nat.le_of_ble_eq_true rfl) ⟨Nat.zero_le _, Nat.zero_le _⟩ dX3_isHeld_67 ?_
    obtain ⟨x_26, u_27, h_28, hF⟩ := ncl_some hF
    obtain ⟨e_29, rfl⟩ := nGT_eq h_28
    refine gx_ti e_29 ?_
    refine lv_iload_n hx hb dX3_isHeld_70 rfl (lv_at hl 0 rfl) ?_
    refine lv_aload_n hx hb dX3_isHeld_71 rfl (lv_at hl 1 rfl) ?_
    refine cg_X3_9 hC hH dX3_isHeld_72 ?_
    refine lv_iconst (v := 1) hx hb dX3_isHeld_75 (by decide) ?_
    refine bat (i := 1) (j := 11) hC hH rfl rfl (by decide) wka145 ⟨Nat.le_of_ble_eq_true rfl, Nat.le_of_ble_eq_true rfl⟩ hl.1 (Nat.le_of_ble_eq_true rfl) ⟨Nat.zero_le _, Nat.zero_le _⟩ dX3_isHeld_76 ?_
    obtain ⟨x_30, u_31, h_32, hF⟩ := ncl_some hF
    obtain ⟨e_33, rfl⟩ := nGT_eq h_32
    refine gx_ti e_33 ?_
    refine lv_iadd hx hb dX3_isHeld_79 ?_
    refine lv_icmp_ge (tgt := 87) hx hb dX3_isHeld_80 (by decide) (fun c_34 => ?_) (fun c_34 => ?_)
    · rw [if_pos c_34] at hF
      refine lv_iconst (v := 0) hx hb dX3_isHeld_87 (by decide) ?_
      exact cr_z hC hH hr rfl (nrt_eq hF) dX3_isHeld_88 hlocks
    · rw [if_neg c_34] at hF
      refine lv_iconst (v := 1) hx hb dX3_isHeld_83 (by decide) ?_
      refine lv_goto (tgt := 88) hx hb dX3_isHeld_84 (by decide) ?_
      exact cr_z hC hH hr rfl (nrt_eq hF) dX3_isHeld_88 hlocks
def x_X4_startOf (L : MS) (a0 : Int32) : NG Int32 := (if a0 = 0 then nrt 0 else nrt (rg (L.2 1) 20 (a0 - 1)))
set_option maxHeartbeats 4000000 in
set_option maxRecDepth 100000 in
theorem n_X4_startOf (l : Launch) (G : gG) (Z : gC) (Q : Nat → Nat) (D : Nat × Nat) (T : va_W) (la : Nat) (lq : Nat → Nat) (L : MS) (hL : lawAt G T la lq L) (u u1 : MS) (r : Int32) (a0 : Int32) (sz : Nat) (hF : x_X4_startOf L a0 u = some (r, u1)) : Met l yX4_startOf (Cond.code yX4_startOf cX4_startOf 2 (some .int) :: wK) { frames := 1, cells := 0, slots := 0, locals := 22 } (va_Pc [.ref la, .int a0] (cPM G Z Q D T u sz)) (cQi G Q T u1 r (va_A (cW G Q D T u) sz)) 0 0 (va_A (cW G Q D T u) sz) := by
  refine Met.ofW (cc := cX4_startOf) (maxL := 2) (ret := (some .int)) (by decide) rfl ?_
  intro p e s m args below meth c s₁ B hml hv
  obtain ⟨rfl, rfl, hP, hB, hD0, hE⟩ := hv
  have hr := B.returns
  have hlocks := B.notSynchronized
  have hts := atoms_spec (ws := Cond.code yX4_startOf cX4_startOf 2 (some .int) :: wK) B.pre
  have hD := hD0.self (sz := s.heap.size)
  have hA : ∀ q : Nat, s.heap.size ≤ q → va_A (cW G Q D T u) s.heap.size q := fun q h => Or.inr h
  generalize va_A (cW G Q D T u) s.heap.size = A at hD hA hE ⊢
  have hC : cX p c cX4_startOf 2 s m _ RX4 G Z A := ⟨B.exec, B.bytes, hml, findClass_of_methodNamed B.named, fun w h => hts w (List.mem_cons_of_mem _ h), hB, hE, hA⟩
  have hx := hC.1
  have hb := hC.2.1
  have hH : cH G Q D T A u s s.heap [] := ⟨hP, hD, va_S.rf⟩
  have hl := lv_entry ([.ref la, .int a0]) (n := 2) (Nat.le_of_ble_eq_true rfl)
  rw [lg_entry_eq]
  generalize (lg_sl ([.ref la, .int a0]) ++ List.replicate (2 - (lg_sl ([.ref la, .int a0])).length) Slot.unset).toArray = ls at hl ⊢
  have hl : lv_has ls 2 [(0, .ref la), (1, .int a0)] := hl
  unfold x_X4_startOf at hF
  refine lv_iload_n hx hb dX4_startOf_0 rfl (lv_at hl 1 rfl) ?_
  refine lv_if_ne (tgt := 8) hx hb dX4_startOf_1 (by decide) (fun c_1 => ?_) (fun c_1 => ?_)
  · rw [if_neg c_1] at hF
    refine lv_aload_n hx hb dX4_startOf_8 rfl (lv_at hl 0 rfl) ?_
    refine lg_X4_18 hC hH hL dX4_startOf_9 ?_
    refine lv_iload_n hx hb dX4_startOf_12 rfl (lv_at hl 1 rfl) ?_
    refine lv_iconst (v := 1) hx hb dX4_startOf_13 (by decide) ?_
    refine lv_isub hx hb dX4_startOf_14 ?_
    refine lr_1 hC hH hL wka305 ⟨Nat.le_of_ble_eq_true rfl, Nat.le_of_ble_eq_true rfl⟩ hl.1 (Nat.le_of_ble_eq_true rfl) ⟨Nat.zero_le _, Nat.zero_le _⟩ dX4_startOf_15 ?_
    exact cr_i hC hH hr (nrt_eq hF) dX4_startOf_18 hlocks
  · rw [if_pos c_1] at hF
    refine lv_iconst (v := 0) hx hb dX4_startOf_4 (by decide) ?_
    refine lv_goto (tgt := 18) hx hb dX4_startOf_5 (by decide) ?_
    exact cr_i hC hH hr (nrt_eq hF) dX4_startOf_18 hlocks
def x_X4_kindAt (L : MS) (a0 : Int32) : NG Int32 := nrt ((rg (L.2 0) 300 a0) / 10000)
set_option maxHeartbeats 4000000 in
set_option maxRecDepth 100000 in
theorem n_X4_kindAt (l : Launch) (G : gG) (Z : gC) (Q : Nat → Nat) (D : Nat × Nat) (T : va_W) (la : Nat) (lq : Nat → Nat) (L : MS) (hL : lawAt G T la lq L) (u u1 : MS) (r : Int32) (a0 : Int32) (sz : Nat) (hF : x_X4_kindAt L a0 u = some (r, u1)) : Met l yX4_kindAt (Cond.code yX4_kindAt cX4_kindAt 2 (some .int) :: wK) { frames := 1, cells := 0, slots := 0, locals := 22 } (va_Pc [.ref la, .int a0] (cPM G Z Q D T u sz)) (cQi G Q T u1 r (va_A (cW G Q D T u) sz)) 0 0 (va_A (cW G Q D T u) sz) := by
  refine Met.ofW (cc := cX4_kindAt) (maxL := 2) (ret := (some .int)) (by decide) rfl ?_
  intro p e s m args below meth c s₁ B hml hv
  obtain ⟨rfl, rfl, hP, hB, hD0, hE⟩ := hv
  have hr := B.returns
  have hlocks := B.notSynchronized
  have hts := atoms_spec (ws := Cond.code yX4_kindAt cX4_kindAt 2 (some .int) :: wK) B.pre
  have hD := hD0.self (sz := s.heap.size)
  have hA : ∀ q : Nat, s.heap.size ≤ q → va_A (cW G Q D T u) s.heap.size q := fun q h => Or.inr h
  generalize va_A (cW G Q D T u) s.heap.size = A at hD hA hE ⊢
  have hC : cX p c cX4_kindAt 2 s m _ RX4 G Z A := ⟨B.exec, B.bytes, hml, findClass_of_methodNamed B.named, fun w h => hts w (List.mem_cons_of_mem _ h), hB, hE, hA⟩
  have hx := hC.1
  have hb := hC.2.1
  have hH : cH G Q D T A u s s.heap [] := ⟨hP, hD, va_S.rf⟩
  have hl := lv_entry ([.ref la, .int a0]) (n := 2) (Nat.le_of_ble_eq_true rfl)
  rw [lg_entry_eq]
  generalize (lg_sl ([.ref la, .int a0]) ++ List.replicate (2 - (lg_sl ([.ref la, .int a0])).length) Slot.unset).toArray = ls at hl ⊢
  have hl : lv_has ls 2 [(0, .ref la), (1, .int a0)] := hl
  unfold x_X4_kindAt at hF
  refine lv_aload_n hx hb dX4_kindAt_0 rfl (lv_at hl 0 rfl) ?_
  refine lg_X4_14 hC hH hL dX4_kindAt_1 ?_
  refine lv_iload_n hx hb dX4_kindAt_4 rfl (lv_at hl 1 rfl) ?_
  refine lr_0 hC hH hL wka305 ⟨Nat.le_of_ble_eq_true rfl, Nat.le_of_ble_eq_true rfl⟩ hl.1 (Nat.le_of_ble_eq_true rfl) ⟨Nat.zero_le _, Nat.zero_le _⟩ dX4_kindAt_5 ?_
  refine lv_sipush (v := 10000) hx hb dX4_kindAt_8 (by decide) ?_
  refine lv_idiv hx hb dX4_kindAt_11 (by decide) ?_
  exact cr_i hC hH hr (nrt_eq hF) dX4_kindAt_12 hlocks
def x_X3_pop : NG Int32 := ncl (nRF 16) (fun x_1 => ncl (nWF 16 (if (x_1 - 1) < 0 then 0 else (x_1 - 1))) (fun _ => ncl (nRF 16) (fun x_9 => ncl (nGT 18 64 x_9) (fun x_13 => nrt x_13))))
set_option maxHeartbeats 4000000 in
set_option maxRecDepth 100000 in
theorem n_X3_pop (l : Launch) (G : gG) (Z : gC) (Q : Nat → Nat) (D : Nat × Nat) (T : va_W) (u u1 : MS) (r : Int32) (sz : Nat) (hF : x_X3_pop u = some (r, u1)) : Met l yX3_pop (Cond.code yX3_pop cX3_pop 1 (some .int) :: wK) { frames := 1, cells := 0, slots := 0, locals := 22 } (va_Pc [.ref (Q 7)] (cPM G Z Q D T u sz)) (cQi G Q T u1 r (va_A (cW G Q D T u) sz)) 0 0 (va_A (cW G Q D T u) sz) := by
  refine Met.ofW (cc := cX3_pop) (maxL := 1) (ret := (some .int)) (by decide) rfl ?_
  intro p e s m args below meth c s₁ B hml hv
  obtain ⟨rfl, rfl, hP, hB, hD0, hE⟩ := hv
  have hr := B.returns
  have hlocks := B.notSynchronized
  have hts := atoms_spec (ws := Cond.code yX3_pop cX3_pop 1 (some .int) :: wK) B.pre
  have hD := hD0.self (sz := s.heap.size)
  have hA : ∀ q : Nat, s.heap.size ≤ q → va_A (cW G Q D T u) s.heap.size q := fun q h => Or.inr h
  generalize va_A (cW G Q D T u) s.heap.size = A at hD hA hE ⊢
  have hC : cX p c cX3_pop 1 s m _ RX3 G Z A := ⟨B.exec, B.bytes, hml, findClass_of_methodNamed B.named, fun w h => hts w (List.mem_cons_of_mem _ h), hB, hE, hA⟩
  have hx := hC.1
  have hb := hC.2.1
  have hH : cH G Q D T A u s s.heap [] := ⟨hP, hD, va_S.rf⟩
  have hl := lv_entry ([.ref (Q 7)]) (n := 1) (Nat.le_of_ble_eq_true rfl)
  rw [lg_entry_eq]
  generalize (lg_sl ([.ref (Q 7)]) ++ List.replicate (1 - (lg_sl ([.ref (Q 7)])).length) Slot.unset).toArray = ls at hl ⊢
  have hl : lv_has ls 1 [(0, .ref (Q 7))] := hl
  unfold x_X3_pop at hF
  refine lv_aload_n hx hb dX3_pop_0 rfl (lv_at hl 0 rfl) ?_
  refine lv_aload_n hx hb dX3_pop_1 rfl (lv_at hl 0 rfl) ?_
  refine cg_X3_97 hC hH dX3_pop_2 ?_
  obtain ⟨x_1, u_2, h_3, hF⟩ := ncl_some hF
  obtain ⟨e_4, rfl⟩ := nRF_eq h_3
  refine gx_ti e_4 ?_
  refine lv_iconst (v := 1) hx hb dX3_pop_5 (by decide) ?_
  refine lv_isub hx hb dX3_pop_6 ?_
  refine lv_iconst (v := 0) hx hb dX3_pop_7 (by decide) ?_
  refine va_mmax hx hb (hC.2.2.1.trans hl.1.symm) hC.2.2.2.1 (hC.2.2.2.2.1 _ wka309) (hC.2.2.2.2.1 _ wka756) (hC.2.2.2.2.1 _ wka760) (hC.2.2.2.2.1 _ wka757) (Nat.le_of_ble_eq_true rfl) (Nat.le_of_ble_eq_true rfl) (Nat.le_of_ble_eq_true rfl) (Nat.le_of_ble_eq_true rfl) dX3_pop_8 ?_
  obtain ⟨y_8, u_5, h_7, hF⟩ := ncl_some hF
  have e_6 := nWF_eq h_7
  refine cp_X3_97 hC hH e_6 dX3_pop_11 (fun H locs hH => ?_)
  refine lv_aload_n hx hb dX3_pop_14 rfl (lv_at hl 0 rfl) ?_
  refine cg_X3_24 hC hH dX3_pop_15 ?_
  refine lv_aload_n hx hb dX3_pop_18 rfl (lv_at hl 0 rfl) ?_
  refine cg_X3_97 hC hH dX3_pop_19 ?_
  obtain ⟨x_9, u_10, h_11, hF⟩ := ncl_some hF
  obtain ⟨e_12, rfl⟩ := nRF_eq h_11
  refine gx_ti e_12 ?_
  refine rg_17 hC hH wka306 ⟨Nat.le_of_ble_eq_true rfl, Nat.le_of_ble_eq_true rfl⟩ hl.1 (Nat.le_of_ble_eq_true rfl) ⟨Nat.zero_le _, Nat.zero_le _⟩ dX3_pop_22 ?_
  obtain ⟨x_13, u_14, h_15, hF⟩ := ncl_some hF
  obtain ⟨e_16, rfl⟩ := nGT_eq h_15
  refine gx_ti e_16 ?_
  exact cr_i hC hH hr (nrt_eq hF) dX3_pop_25 hlocks
def x_X3_workOn (a0 : Int32) (a1 : Int32) (a2 : Int32) : NG Int32 := (if a0 = 9 then nrt (a1 ||| a2) else if a0 = 10 then nrt (a1 &&& a2) else if a0 = 11 then (if a1 = a2 then nrt 0 else nrt 1) else if a0 = 12 then (if a1 = a2 then nrt 0 else nrt 1) else if a0 = 13 then (if a1 = a2 then nrt 0 else nrt 1) else if a0 = 14 then (if a1 = a2 then nrt 0 else nrt 1) else if a0 = 15 then (if a1 = a2 then nrt 0 else nrt 1) else if a0 = 16 then (if a1 = a2 then nrt 0 else nrt 1) else if a0 = 17 then (if a1 = a2 then nrt 0 else nrt 1) else if a0 = 18 then (if a1 = a2 then nrt 0 else nrt 1) else if a0 = 19 then (if a1 = a2 then nrt 0 else nrt 1) else if a0 = 20 then nrt (a1 + a2) else if a0 = 21 then nrt (a1 - a2) else if a0 = 22 then (if a2 ≤ a1 then nrt 0 else nrt 1) else if a0 = 23 then (if a2 < a1 then nrt 0 else nrt 1) else if a0 = 24 then (if a1 ≤ a2 then nrt 0 else nrt 1) else if a0 = 25 then (if a1 < a2 then nrt 0 else nrt 1) else if a0 = 26 then (if a1 = a2 then nrt 1 else nrt 0) else (if a1 = a2 then nrt 0 else nrt 1))
set_option maxHeartbeats 4000000 in
set_option maxRecDepth 100000 in
theorem n_X3_workOn (l : Launch) (G : gG) (Z : gC) (Q : Nat → Nat) (D : Nat × Nat) (T : va_W) (u u1 : MS) (r : Int32) (a0 : Int32) (a1 : Int32) (a2 : Int32) (sz : Nat) (hF : x_X3_workOn a0 a1 a2 u = some (r, u1)) : Met l yX3_workOn (Cond.code yX3_workOn cX3_workOn 3 (some .int) :: wK) { frames := 0, cells := 0, slots := 0, locals := 0 } (va_Pc [.int a0, .int a1, .int a2] (cPM G Z Q D T u sz)) (cQi G Q T u1 r (va_A (cW G Q D T u) sz)) 0 0 (va_A (cW G Q D T u) sz) := by
  refine Met.ofW (cc := cX3_workOn) (maxL := 3) (ret := (some .int)) (by decide) rfl ?_
  intro p e s m args below meth c s₁ B hml hv
  obtain ⟨rfl, rfl, hP, hB, hD0, hE⟩ := hv
  have hr := B.returns
  have hlocks := B.notSynchronized
  have hts := atoms_spec (ws := Cond.code yX3_workOn cX3_workOn 3 (some .int) :: wK) B.pre
  have hD := hD0.self (sz := s.heap.size)
  have hA : ∀ q : Nat, s.heap.size ≤ q → va_A (cW G Q D T u) s.heap.size q := fun q h => Or.inr h
  generalize va_A (cW G Q D T u) s.heap.size = A at hD hA hE ⊢
  have hC : cX p c cX3_workOn 3 s m _ RX3 G Z A := ⟨B.exec, B.bytes, hml, findClass_of_methodNamed B.named, fun w h => hts w (List.mem_cons_of_mem _ h), hB, hE, hA⟩
  have hx := hC.1
  have hb := hC.2.1
  have hH : cH G Q D T A u s s.heap [] := ⟨hP, hD, va_S.rf⟩
  have hl := lv_entry ([.int a0, .int a1, .int a2]) (n := 3) (Nat.le_of_ble_eq_true rfl)
  rw [lg_entry_eq]
  generalize (lg_sl ([.int a0, .int a1, .int a2]) ++ List.replicate (3 - (lg_sl ([.int a0, .int a1, .int a2])).length) Slot.unset).toArray = ls at hl ⊢
  have hl : lv_has ls 3 [(0, .int a0), (1, .int a1), (2, .int a2)] := hl
  unfold x_X3_workOn at hF
  refine lv_iload_n hx hb dX3_workOn_0 rfl (lv_at hl 0 rfl) ?_
  by_cases c_1 : a0 = 9
  · rw [if_pos c_1] at hF
    refine gx_ti (y := 9) c_1 ?_
    refine lv_tableIn (off := 99) (tgt := 100) hx hb dX3_workOn_1 (by decide) (by decide) rfl (by decide) ?_
    refine lv_iload_n hx hb dX3_workOn_100 rfl (lv_at hl 1 rfl) ?_
    refine lv_iload_n hx hb dX3_workOn_101 rfl (lv_at hl 2 rfl) ?_
    refine lv_ior hx hb dX3_workOn_102 ?_
    exact cr_i hC hH hr (nrt_eq hF) dX3_workOn_103 hlocks
  rw [if_neg c_1] at hF
  by_cases c_2 : a0 = 10
  · rw [if_pos c_2] at hF
    refine gx_ti (y := 10) c_2 ?_
    refine lv_tableIn (off := 95) (tgt := 96) hx hb dX3_workOn_1 (by decide) (by decide) rfl (by decide) ?_
    refine lv_iload_n hx hb dX3_workOn_96 rfl (lv_at hl 1 rfl) ?_
    refine lv_iload_n hx hb dX3_workOn_97 rfl (lv_at hl 2 rfl) ?_
    refine lv_iand hx hb dX3_workOn_98 ?_
    exact cr_i hC hH hr (nrt_eq hF) dX3_workOn_99 hlocks
  rw [if_neg c_2] at hF
  by_cases c_3 : a0 = 11
  · rw [if_pos c_3] at hF
    refine gx_ti (y := 11) c_3 ?_
    refine lv_tableIn (off := 158) (tgt := 159) hx hb dX3_workOn_1 (by decide) (by decide) rfl (by decide) ?_
    refine lv_iload_n hx hb dX3_workOn_159 rfl (lv_at hl 1 rfl) ?_
    refine lv_iload_n hx hb dX3_workOn_160 rfl (lv_at hl 2 rfl) ?_
    refine lv_icmp_eq (tgt := 168) hx hb dX3_workOn_161 (by decide) (fun c_4 => ?_) (fun c_4 => ?_)
    · rw [if_pos c_4] at hF
      refine lv_iconst (v := 0) hx hb dX3_workOn_168 (by decide) ?_
      exact cr_i hC hH hr (nrt_eq hF) dX3_workOn_169 hlocks
    · rw [if_neg c_4] at hF
      refine lv_iconst (v := 1) hx hb dX3_workOn_164 (by decide) ?_
      refine lv_goto (tgt := 169) hx hb dX3_workOn_165 (by decide) ?_
      exact cr_i hC hH hr (nrt_eq hF) dX3_workOn_169 hlocks
  rw [if_neg c_3] at hF
  by_cases c_5 : a0 = 12
  · rw [if_pos c_5] at hF
    refine gx_ti (y := 12) c_5 ?_
    refine lv_tableIn (off := 158) (tgt := 159) hx hb dX3_workOn_1 (by decide) (by decide) rfl (by decide) ?_
    refine lv_iload_n hx hb dX3_workOn_159 rfl (lv_at hl 1 rfl) ?_
    refine lv_iload_n hx hb dX3_workOn_160 rfl (lv_at hl 2 rfl) ?_
    refine lv_icmp_eq (tgt := 168) hx hb dX3_workOn_161 (by decide) (fun c_6 => ?_) (fun c_6 => ?_)
    · rw [if_pos c_6] at hF
      refine lv_iconst (v := 0) hx hb dX3_workOn_168 (by decide) ?_
      exact cr_i hC hH hr (nrt_eq hF) dX3_workOn_169 hlocks
    · rw [if_neg c_6] at hF
      refine lv_iconst (v := 1) hx hb dX3_workOn_164 (by decide) ?_
      refine lv_goto (tgt := 169) hx hb dX3_workOn_165 (by decide) ?_
      exact cr_i hC hH hr (nrt_eq hF) dX3_workOn_169 hlocks
  rw [if_neg c_5] at hF
  by_cases c_7 : a0 = 13
  · rw [if_pos c_7] at hF
    refine gx_ti (y := 13) c_7 ?_
    refine lv_tableIn (off := 158) (tgt := 159) hx hb dX3_workOn_1 (by decide) (by decide) rfl (by decide) ?_
    refine lv_iload_n hx hb dX3_workOn_159 rfl (lv_at hl 1 rfl) ?_
    refine lv_iload_n hx hb dX3_workOn_160 rfl (lv_at hl 2 rfl) ?_
    refine lv_icmp_eq (tgt := 168) hx hb dX3_workOn_161 (by decide) (fun c_8 => ?_) (fun c_8 => ?_)
    · rw [if_pos c_8] at hF
      refine lv_iconst (v := 0) hx hb dX3_workOn_168 (by decide) ?_
      exact cr_i hC hH hr (nrt_eq hF) dX3_workOn_169 hlocks
    · rw [if_neg c_8] at hF
      refine lv_iconst (v := 1) hx hb dX3_workOn_164 (by decide) ?_
      refine lv_goto (tgt := 169) hx hb dX3_workOn_165 (by decide) ?_
      exact cr_i hC hH hr (nrt_eq hF) dX3_workOn_169 hlocks
  rw [if_neg c_7] at hF
  by_cases c_9 : a0 = 14
  · rw [if_pos c_9] at hF
    refine gx_ti (y := 14) c_9 ?_
    refine lv_tableIn (off := 158) (tgt := 159) hx hb dX3_workOn_1 (by decide) (by decide) rfl (by decide) ?_
    refine lv_iload_n hx hb dX3_workOn_159 rfl (lv_at hl 1 rfl) ?_
    refine lv_iload_n hx hb dX3_workOn_160 rfl (lv_at hl 2 rfl) ?_
    refine lv_icmp_eq (tgt := 168) hx hb dX3_workOn_161 (by decide) (fun c_10 => ?_) (fun c_10 => ?_)
    · rw [if_pos c_10] at hF
      refine lv_iconst (v := 0) hx hb dX3_workOn_168 (by decide) ?_
      exact cr_i hC hH hr (nrt_eq hF) dX3_workOn_169 hlocks
    · rw [if_neg c_10] at hF
      refine lv_iconst (v := 1) hx hb dX3_workOn_164 (by decide) ?_
      refine lv_goto (tgt := 169) hx hb dX3_workOn_165 (by decide) ?_
      exact cr_i hC hH hr (nrt_eq hF) dX3_workOn_169 hlocks
  rw [if_neg c_9] at hF
  by_cases c_11 : a0 = 15
  · rw [if_pos c_11] at hF
    refine gx_ti (y := 15) c_11 ?_
    refine lv_tableIn (off := 158) (tgt := 159) hx hb dX3_workOn_1 (by decide) (by decide) rfl (by decide) ?_
    refine lv_iload_n hx hb dX3_workOn_159 rfl (lv_at hl 1 rfl) ?_
    refine lv_iload_n hx hb dX3_workOn_160 rfl (lv_at hl 2 rfl) ?_
    refine lv_icmp_eq (tgt := 168) hx hb dX3_workOn_161 (by decide) (fun c_12 => ?_) (fun c_12 => ?_)
    · rw [if_pos c_12] at hF
      refine lv_iconst (v := 0) hx hb dX3_workOn_168 (by decide) ?_
      exact cr_i hC hH hr (nrt_eq hF) dX3_workOn_169 hlocks
    · rw [if_neg c_12] at hF
      refine lv_iconst (v := 1) hx hb dX3_workOn_164 (by decide) ?_
      refine lv_goto (tgt := 169) hx hb dX3_workOn_165 (by decide) ?_
      exact cr_i hC hH hr (nrt_eq hF) dX3_workOn_169 hlocks
  rw [if_neg c_11] at hF
  by_cases c_13 : a0 = 16
  · rw [if_pos c_13] at hF
    refine gx_ti (y := 16) c_13 ?_
    refine lv_tableIn (off := 158) (tgt := 159) hx hb dX3_workOn_1 (by decide) (by decide) rfl (by decide) ?_
    refine lv_iload_n hx hb dX3_workOn_159 rfl (lv_at hl 1 rfl) ?_
    refine lv_iload_n hx hb dX3_workOn_160 rfl (lv_at hl 2 rfl) ?_
    refine lv_icmp_eq (tgt := 168) hx hb dX3_workOn_161 (by decide) (fun c_14 => ?_) (fun c_14 => ?_)
    · rw [if_pos c_14] at hF
      refine lv_iconst (v := 0) hx hb dX3_workOn_168 (by decide) ?_
      exact cr_i hC hH hr (nrt_eq hF) dX3_workOn_169 hlocks
    · rw [if_neg c_14] at hF
      refine lv_iconst (v := 1) hx hb dX3_workOn_164 (by decide) ?_
      refine lv_goto (tgt := 169) hx hb dX3_workOn_165 (by decide) ?_
      exact cr_i hC hH hr (nrt_eq hF) dX3_workOn_169 hlocks
  rw [if_neg c_13] at hF
  by_cases c_15 : a0 = 17
  · rw [if_pos c_15] at hF
    refine gx_ti (y := 17) c_15 ?_
    refine lv_tableIn (off := 158) (tgt := 159) hx hb dX3_workOn_1 (by decide) (by decide) rfl (by decide) ?_
    refine lv_iload_n hx hb dX3_workOn_159 rfl (lv_at hl 1 rfl) ?_
    refine lv_iload_n hx hb dX3_workOn_160 rfl (lv_at hl 2 rfl) ?_
    refine lv_icmp_eq (tgt := 168) hx hb dX3_workOn_161 (by decide) (fun c_16 => ?_) (fun c_16 => ?_)
    · rw [if_pos c_16] at hF
      refine lv_iconst (v := 0) hx hb dX3_workOn_168 (by decide) ?_
      exact cr_i hC hH hr (nrt_eq hF) dX3_workOn_169 hlocks
    · rw [if_neg c_16] at hF
      refine lv_iconst (v := 1) hx hb dX3_workOn_164 (by decide) ?_
      refine lv_goto (tgt := 169) hx hb dX3_workOn_165 (by decide) ?_
      exact cr_i hC hH hr (nrt_eq hF) dX3_workOn_169 hlocks
  rw [if_neg c_15] at hF
  by_cases c_17 : a0 = 18
  · rw [if_pos c_17] at hF
    refine gx_ti (y := 18) c_17 ?_
    refine lv_tableIn (off := 158) (tgt := 159) hx hb dX3_workOn_1 (by decide) (by decide) rfl (by decide) ?_
    refine lv_iload_n hx hb dX3_workOn_159 rfl (lv_at hl 1 rfl) ?_
    refine lv_iload_n hx hb dX3_workOn_160 rfl (lv_at hl 2 rfl) ?_
    refine lv_icmp_eq (tgt := 168) hx hb dX3_workOn_161 (by decide) (fun c_18 => ?_) (fun c_18 => ?_)
    · rw [if_pos c_18] at hF
      refine lv_iconst (v := 0) hx hb dX3_workOn_168 (by decide) ?_
      exact cr_i hC hH hr (nrt_eq hF) dX3_workOn_169 hlocks
    · rw [if_neg c_18] at hF
      refine lv_iconst (v := 1) hx hb dX3_workOn_164 (by decide) ?_
      refine lv_goto (tgt := 169) hx hb dX3_workOn_165 (by decide) ?_
      exact cr_i hC hH hr (nrt_eq hF) dX3_workOn_169 hlocks
  rw [if_neg c_17] at hF
  by_cases c_19 : a0 = 19
  · rw [if_pos c_19] at hF
    refine gx_ti (y := 19) c_19 ?_
    refine lv_tableIn (off := 158) (tgt := 159) hx hb dX3_workOn_1 (by decide) (by decide) rfl (by decide) ?_
    refine lv_iload_n hx hb dX3_workOn_159 rfl (lv_at hl 1 rfl) ?_
    refine lv_iload_n hx hb dX3_workOn_160 rfl (lv_at hl 2 rfl) ?_
    refine lv_icmp_eq (tgt := 168) hx hb dX3_workOn_161 (by decide) (fun c_20 => ?_) (fun c_20 => ?_)
    · rw [if_pos c_20] at hF
      refine lv_iconst (v := 0) hx hb dX3_workOn_168 (by decide) ?_
      exact cr_i hC hH hr (nrt_eq hF) dX3_workOn_169 hlocks
    · rw [if_neg c_20] at hF
      refine lv_iconst (v := 1) hx hb dX3_workOn_164 (by decide) ?_
      refine lv_goto (tgt := 169) hx hb dX3_workOn_165 (by decide) ?_
      exact cr_i hC hH hr (nrt_eq hF) dX3_workOn_169 hlocks
  rw [if_neg c_19] at hF
  by_cases c_21 : a0 = 20
  · rw [if_pos c_21] at hF
    refine gx_ti (y := 20) c_21 ?_
    refine lv_tableIn (off := 87) (tgt := 88) hx hb dX3_workOn_1 (by decide) (by decide) rfl (by decide) ?_
    refine lv_iload_n hx hb dX3_workOn_88 rfl (lv_at hl 1 rfl) ?_
    refine lv_iload_n hx hb dX3_workOn_89 rfl (lv_at hl 2 rfl) ?_
    refine lv_iadd hx hb dX3_workOn_90 ?_
    exact cr_i hC hH hr (nrt_eq hF) dX3_workOn_91 hlocks
  rw [if_neg c_21] at hF
  by_cases c_22 : a0 = 21
  · rw [if_pos c_22] at hF
    refine gx_ti (y := 21) c_22 ?_
    refine lv_tableIn (off := 91) (tgt := 92) hx hb dX3_workOn_1 (by decide) (by decide) rfl (by decide) ?_
    refine lv_iload_n hx hb dX3_workOn_92 rfl (lv_at hl 1 rfl) ?_
    refine lv_iload_n hx hb dX3_workOn_93 rfl (lv_at hl 2 rfl) ?_
    refine lv_isub hx hb dX3_workOn_94 ?_
    exact cr_i hC hH hr (nrt_eq hF) dX3_workOn_95 hlocks
  rw [if_neg c_22] at hF
  by_cases c_23 : a0 = 22
  · rw [if_pos c_23] at hF
    refine gx_ti (y := 22) c_23 ?_
    refine lv_tableIn (off := 103) (tgt := 104) hx hb dX3_workOn_1 (by decide) (by decide) rfl (by decide) ?_
    refine lv_iload_n hx hb dX3_workOn_104 rfl (lv_at hl 1 rfl) ?_
    refine lv_iload_n hx hb dX3_workOn_105 rfl (lv_at hl 2 rfl) ?_
    refine lv_icmp_ge (tgt := 113) hx hb dX3_workOn_106 (by decide) (fun c_24 => ?_) (fun c_24 => ?_)
    · rw [if_pos c_24] at hF
      refine lv_iconst (v := 0) hx hb dX3_workOn_113 (by decide) ?_
      exact cr_i hC hH hr (nrt_eq hF) dX3_workOn_114 hlocks
    · rw [if_neg c_24] at hF
      refine lv_iconst (v := 1) hx hb dX3_workOn_109 (by decide) ?_
      refine lv_goto (tgt := 114) hx hb dX3_workOn_110 (by decide) ?_
      exact cr_i hC hH hr (nrt_eq hF) dX3_workOn_114 hlocks
  rw [if_neg c_23] at hF
  by_cases c_25 : a0 = 23
  · rw [if_pos c_25] at hF
    refine gx_ti (y := 23) c_25 ?_
    refine lv_tableIn (off := 114) (tgt := 115) hx hb dX3_workOn_1 (by decide) (by decide) rfl (by decide) ?_
    refine lv_iload_n hx hb dX3_workOn_115 rfl (lv_at hl 1 rfl) ?_
    refine lv_iload_n hx hb dX3_workOn_116 rfl (lv_at hl 2 rfl) ?_
    refine lv_icmp_gt (tgt := 124) hx hb dX3_workOn_117 (by decide) (fun c_26 => ?_) (fun c_26 => ?_)
    · rw [if_pos c_26] at hF
      refine lv_iconst (v := 0) hx hb dX3_workOn_124 (by decide) ?_
      exact cr_i hC hH hr (nrt_eq hF) dX3_workOn_125 hlocks
    · rw [if_neg c_26] at hF
      refine lv_iconst (v := 1) hx hb dX3_workOn_120 (by decide) ?_
      refine lv_goto (tgt := 125) hx hb dX3_workOn_121 (by decide) ?_
      exact cr_i hC hH hr (nrt_eq hF) dX3_workOn_125 hlocks
  rw [if_neg c_25] at hF
  by_cases c_27 : a0 = 24
  · rw [if_pos c_27] at hF
    refine gx_ti (y := 24) c_27 ?_
    refine lv_tableIn (off := 125) (tgt := 126) hx hb dX3_workOn_1 (by decide) (by decide) rfl (by decide) ?_
    refine lv_iload_n hx hb dX3_workOn_126 rfl (lv_at hl 1 rfl) ?_
    refine lv_iload_n hx hb dX3_workOn_127 rfl (lv_at hl 2 rfl) ?_
    refine lv_icmp_le (tgt := 135) hx hb dX3_workOn_128 (by decide) (fun c_28 => ?_) (fun c_28 => ?_)
    · rw [if_pos c_28] at hF
      refine lv_iconst (v := 0) hx hb dX3_workOn_135 (by decide) ?_
      exact cr_i hC hH hr (nrt_eq hF) dX3_workOn_136 hlocks
    · rw [if_neg c_28] at hF
      refine lv_iconst (v := 1) hx hb dX3_workOn_131 (by decide) ?_
      refine lv_goto (tgt := 136) hx hb dX3_workOn_132 (by decide) ?_
      exact cr_i hC hH hr (nrt_eq hF) dX3_workOn_136 hlocks
  rw [if_neg c_27] at hF
  by_cases c_29 : a0 = 25
  · rw [if_pos c_29] at hF
    refine gx_ti (y := 25) c_29 ?_
    refine lv_tableIn (off := 136) (tgt := 137) hx hb dX3_workOn_1 (by decide) (by decide) rfl (by decide) ?_
    refine lv_iload_n hx hb dX3_workOn_137 rfl (lv_at hl 1 rfl) ?_
    refine lv_iload_n hx hb dX3_workOn_138 rfl (lv_at hl 2 rfl) ?_
    refine lv_icmp_lt (tgt := 146) hx hb dX3_workOn_139 (by decide) (fun c_30 => ?_) (fun c_30 => ?_)
    · rw [if_pos c_30] at hF
      refine lv_iconst (v := 0) hx hb dX3_workOn_146 (by decide) ?_
      exact cr_i hC hH hr (nrt_eq hF) dX3_workOn_147 hlocks
    · rw [if_neg c_30] at hF
      refine lv_iconst (v := 1) hx hb dX3_workOn_142 (by decide) ?_
      refine lv_goto (tgt := 147) hx hb dX3_workOn_143 (by decide) ?_
      exact cr_i hC hH hr (nrt_eq hF) dX3_workOn_147 hlocks
  rw [if_neg c_29] at hF
  by_cases c_31 : a0 = 26
  · rw [if_pos c_31] at hF
    refine gx_ti (y := 26) c_31 ?_
    refine lv_tableIn (off := 147) (tgt := 148) hx hb dX3_workOn_1 (by decide) (by decide) rfl (by decide) ?_
    refine lv_iload_n hx hb dX3_workOn_148 rfl (lv_at hl 1 rfl) ?_
    refine lv_iload_n hx hb dX3_workOn_149 rfl (lv_at hl 2 rfl) ?_
    refine lv_icmp_ne (tgt := 157) hx hb dX3_workOn_150 (by decide) (fun c_32 => ?_) (fun c_32 => ?_)
    · rw [if_neg c_32] at hF
      refine lv_iconst (v := 0) hx hb dX3_workOn_157 (by decide) ?_
      exact cr_i hC hH hr (nrt_eq hF) dX3_workOn_158 hlocks
    · rw [if_pos c_32] at hF
      refine lv_iconst (v := 1) hx hb dX3_workOn_153 (by decide) ?_
      refine lv_goto (tgt := 158) hx hb dX3_workOn_154 (by decide) ?_
      exact cr_i hC hH hr (nrt_eq hF) dX3_workOn_158 hlocks
  rw [if_neg c_31] at hF
  refine lv_tableOut (tgt := 159) hx hb dX3_workOn_1 (by have q0 := gl_ne c_1 (a := 9) (by decide); have q1 := gl_ne c_2 (a := 10) (by decide); have q2 := gl_ne c_3 (a := 11) (by decide); have q3 := gl_ne c_5 (a := 12) (by decide); have q4 := gl_ne c_7 (a := 13) (by decide); have q5 := gl_ne c_9 (a := 14) (by decide); have q6 := gl_ne c_11 (a := 15) (by decide); have q7 := gl_ne c_13 (a := 16) (by decide); have q8 := gl_ne c_15 (a := 17) (by decide); have q9 := gl_ne c_17 (a := 18) (by decide); have q10 := gl_ne c_19 (a := 19) (by decide); have q11 := gl_ne c_21 (a := 20) (by decide); have q12 := gl_ne c_22 (a := 21) (by decide); have q13 := gl_ne c_23 (a := 22) (by decide); have q14 := gl_ne c_25 (a := 23) (by decide); have q15 := gl_ne c_27 (a := 24) (by decide); have q16 := gl_ne c_29 (a := 25) (by decide); have q17 := gl_ne c_31 (a := 26) (by decide); omega) (by decide) ?_
  refine lv_iload_n hx hb dX3_workOn_159 rfl (lv_at hl 1 rfl) ?_
  refine lv_iload_n hx hb dX3_workOn_160 rfl (lv_at hl 2 rfl) ?_
  refine lv_icmp_eq (tgt := 168) hx hb dX3_workOn_161 (by decide) (fun c_33 => ?_) (fun c_33 => ?_)
  · rw [if_pos c_33] at hF
    refine lv_iconst (v := 0) hx hb dX3_workOn_168 (by decide) ?_
    exact cr_i hC hH hr (nrt_eq hF) dX3_workOn_169 hlocks
  · rw [if_neg c_33] at hF
    refine lv_iconst (v := 1) hx hb dX3_workOn_164 (by decide) ?_
    refine lv_goto (tgt := 169) hx hb dX3_workOn_165 (by decide) ?_
    exact cr_i hC hH hr (nrt_eq hF) dX3_workOn_169 hlocks
def x_X3_push (a0 : Int32) : NG Int32 := ncl (nRF 16) (fun x_1 => ncl (nST 18 64 x_1 a0) (fun _ => ncl (nRF 16) (fun x_9 => ncl (nWF 16 (x_9 + 1)) (fun _ => nrt 0))))
set_option maxHeartbeats 4000000 in
set_option maxRecDepth 100000 in
theorem n_X3_push (l : Launch) (G : gG) (Z : gC) (Q : Nat → Nat) (D : Nat × Nat) (T : va_W) (u u1 : MS) (r : Int32) (a0 : Int32) (sz : Nat) (hF : x_X3_push a0 u = some (r, u1)) : Met l yX3_push (Cond.code yX3_push cX3_push 2 none :: wK) { frames := 1, cells := 0, slots := 0, locals := 22 } (va_Pc [.ref (Q 7), .int a0] (cPM G Z Q D T u sz)) (cQv G Q T u1 (va_A (cW G Q D T u) sz)) 0 0 (va_A (cW G Q D T u) sz) := by
  refine Met.ofW (cc := cX3_push) (maxL := 2) (ret := none) (by decide) rfl ?_
  intro p e s m args below meth c s₁ B hml hv
  obtain ⟨rfl, rfl, hP, hB, hD0, hE⟩ := hv
  have hr := B.returns
  have hlocks := B.notSynchronized
  have hts := atoms_spec (ws := Cond.code yX3_push cX3_push 2 none :: wK) B.pre
  have hD := hD0.self (sz := s.heap.size)
  have hA : ∀ q : Nat, s.heap.size ≤ q → va_A (cW G Q D T u) s.heap.size q := fun q h => Or.inr h
  generalize va_A (cW G Q D T u) s.heap.size = A at hD hA hE ⊢
  have hC : cX p c cX3_push 2 s m _ RX3 G Z A := ⟨B.exec, B.bytes, hml, findClass_of_methodNamed B.named, fun w h => hts w (List.mem_cons_of_mem _ h), hB, hE, hA⟩
  have hx := hC.1
  have hb := hC.2.1
  have hH : cH G Q D T A u s s.heap [] := ⟨hP, hD, va_S.rf⟩
  have hl := lv_entry ([.ref (Q 7), .int a0]) (n := 2) (Nat.le_of_ble_eq_true rfl)
  rw [lg_entry_eq]
  generalize (lg_sl ([.ref (Q 7), .int a0]) ++ List.replicate (2 - (lg_sl ([.ref (Q 7), .int a0])).length) Slot.unset).toArray = ls at hl ⊢
  have hl : lv_has ls 2 [(0, .ref (Q 7)), (1, .int a0)] := hl
  unfold x_X3_push at hF
  refine lv_aload_n hx hb dX3_push_0 rfl (lv_at hl 0 rfl) ?_
  refine cg_X3_24 hC hH dX3_push_1 ?_
  refine lv_aload_n hx hb dX3_push_4 rfl (lv_at hl 0 rfl) ?_
  refine cg_X3_97 hC hH dX3_push_5 ?_
  obtain ⟨x_1, u_2, h_3, hF⟩ := ncl_some hF
  obtain ⟨e_4, rfl⟩ := nRF_eq h_3
  refine gx_ti e_4 ?_
  refine lv_iload_n hx hb dX3_push_8 rfl (lv_at hl 1 rfl) ?_
  obtain ⟨y_8, u_5, h_7, hF⟩ := ncl_some hF
  have e_6 := nST_eq h_7
  refine rs_17 hC hH e_6 wka311 ⟨Nat.le_of_ble_eq_true rfl, Nat.le_of_ble_eq_true rfl⟩ hl.1 (Nat.le_of_ble_eq_true rfl) ⟨Nat.zero_le _, Nat.zero_le _⟩ dX3_push_9 (fun H locs hH => ?_)
  refine lv_aload_n hx hb dX3_push_12 rfl (lv_at hl 0 rfl) ?_
  refine lv_dup hx hb dX3_push_13 rfl ?_
  refine cg_X3_97 hC hH dX3_push_14 ?_
  obtain ⟨x_9, u_10, h_11, hF⟩ := ncl_some hF
  obtain ⟨e_12, rfl⟩ := nRF_eq h_11
  refine gx_ti e_12 ?_
  refine lv_iconst (v := 1) hx hb dX3_push_17 (by decide) ?_
  refine lv_iadd hx hb dX3_push_18 ?_
  obtain ⟨y_16, u_13, h_15, hF⟩ := ncl_some hF
  have e_14 := nWF_eq h_15
  refine cp_X3_97 hC hH e_14 dX3_push_19 (fun H locs hH => ?_)
  exact cr_v hC hH hr (nrt_eq hF) dX3_push_22 hlocks
def x_X4_valueAt (L : MS) (a0 : Int32) : NG Int32 := nrt ((rg (L.2 0) 300 a0) - (rg (L.2 0) 300 a0) / 10000 * 10000)
set_option maxHeartbeats 4000000 in
set_option maxRecDepth 100000 in
theorem n_X4_valueAt (l : Launch) (G : gG) (Z : gC) (Q : Nat → Nat) (D : Nat × Nat) (T : va_W) (la : Nat) (lq : Nat → Nat) (L : MS) (hL : lawAt G T la lq L) (u u1 : MS) (r : Int32) (a0 : Int32) (sz : Nat) (hF : x_X4_valueAt L a0 u = some (r, u1)) : Met l yX4_valueAt (Cond.code yX4_valueAt cX4_valueAt 2 (some .int) :: wK) { frames := 1, cells := 0, slots := 0, locals := 22 } (va_Pc [.ref la, .int a0] (cPM G Z Q D T u sz)) (cQi G Q T u1 r (va_A (cW G Q D T u) sz)) 0 0 (va_A (cW G Q D T u) sz) := by
  refine Met.ofW (cc := cX4_valueAt) (maxL := 2) (ret := (some .int)) (by decide) rfl ?_
  intro p e s m args below meth c s₁ B hml hv
  obtain ⟨rfl, rfl, hP, hB, hD0, hE⟩ := hv
  have hr := B.returns
  have hlocks := B.notSynchronized
  have hts := atoms_spec (ws := Cond.code yX4_valueAt cX4_valueAt 2 (some .int) :: wK) B.pre
  have hD := hD0.self (sz := s.heap.size)
  have hA : ∀ q : Nat, s.heap.size ≤ q → va_A (cW G Q D T u) s.heap.size q := fun q h => Or.inr h
  generalize va_A (cW G Q D T u) s.heap.size = A at hD hA hE ⊢
  have hC : cX p c cX4_valueAt 2 s m _ RX4 G Z A := ⟨B.exec, B.bytes, hml, findClass_of_methodNamed B.named, fun w h => hts w (List.mem_cons_of_mem _ h), hB, hE, hA⟩
  have hx := hC.1
  have hb := hC.2.1
  have hH : cH G Q D T A u s s.heap [] := ⟨hP, hD, va_S.rf⟩
  have hl := lv_entry ([.ref la, .int a0]) (n := 2) (Nat.le_of_ble_eq_true rfl)
  rw [lg_entry_eq]
  generalize (lg_sl ([.ref la, .int a0]) ++ List.replicate (2 - (lg_sl ([.ref la, .int a0])).length) Slot.unset).toArray = ls at hl ⊢
  have hl : lv_has ls 2 [(0, .ref la), (1, .int a0)] := hl
  unfold x_X4_valueAt at hF
  refine lv_aload_n hx hb dX4_valueAt_0 rfl (lv_at hl 0 rfl) ?_
  refine lg_X4_14 hC hH hL dX4_valueAt_1 ?_
  refine lv_iload_n hx hb dX4_valueAt_4 rfl (lv_at hl 1 rfl) ?_
  refine lr_0 hC hH hL wka305 ⟨Nat.le_of_ble_eq_true rfl, Nat.le_of_ble_eq_true rfl⟩ hl.1 (Nat.le_of_ble_eq_true rfl) ⟨Nat.zero_le _, Nat.zero_le _⟩ dX4_valueAt_5 ?_
  refine lv_sipush (v := 10000) hx hb dX4_valueAt_8 (by decide) ?_
  refine lv_irem hx hb dX4_valueAt_11 (by decide) ?_
  exact cr_i hC hH hr (nrt_eq hF) dX4_valueAt_12 hlocks
def x_X3_valueOf (a0 : Int32) (a1 : Int32) (a2 : Int32) (a3 : Int32) : NG Int32 := (if a0 = 12 then ncl (x_X3_on a2 3) (fun r_2 => (if r_2 = 1 then nrt 1 else ncl (x_X3_on a2 2) (fun r_6 => (if r_6 = 0 then nrt 1 else nrt 0)))) else if a0 = 13 then ncl (x_X3_on a2 3) (fun r_11 => nrt r_11) else if a0 = 14 then ncl (x_X3_signsOf a2 a3 a1) (fun r_15 => nrt r_15) else if a0 = 15 then ncl (x_X3_signsOf a2 (1 - a3) a1) (fun r_19 => nrt r_19) else if a0 = 16 then ncl (x_X3_on a2 2) (fun r_23 => nrt r_23) else nrt a1)
set_option maxHeartbeats 4000000 in
set_option maxRecDepth 100000 in
theorem n_X3_valueOf (l : Launch) (G : gG) (Z : gC) (Q : Nat → Nat) (D : Nat × Nat) (T : va_W) (u u1 : MS) (r : Int32) (a0 : Int32) (a1 : Int32) (a2 : Int32) (a3 : Int32) (sz : Nat) (hF : x_X3_valueOf a0 a1 a2 a3 u = some (r, u1)) : Met l yX3_valueOf (Cond.code yX3_valueOf cX3_valueOf 5 (some .int) :: wK) { frames := 3, cells := 0, slots := 0, locals := 67 } (va_Pc [.ref (Q 7), .int a0, .int a1, .int a2, .int a3] (cPM G Z Q D T u sz)) (cQi G Q T u1 r (va_A (cW G Q D T u) sz)) 0 0 (va_A (cW G Q D T u) sz) := by
  refine Met.ofW (cc := cX3_valueOf) (maxL := 5) (ret := (some .int)) (by decide) rfl ?_
  intro p e s m args below meth c s₁ B hml hv
  obtain ⟨rfl, rfl, hP, hB, hD0, hE⟩ := hv
  have hr := B.returns
  have hlocks := B.notSynchronized
  have hts := atoms_spec (ws := Cond.code yX3_valueOf cX3_valueOf 5 (some .int) :: wK) B.pre
  have hD := hD0.self (sz := s.heap.size)
  have hA : ∀ q : Nat, s.heap.size ≤ q → va_A (cW G Q D T u) s.heap.size q := fun q h => Or.inr h
  generalize va_A (cW G Q D T u) s.heap.size = A at hD hA hE ⊢
  have hC : cX p c cX3_valueOf 5 s m _ RX3 G Z A := ⟨B.exec, B.bytes, hml, findClass_of_methodNamed B.named, fun w h => hts w (List.mem_cons_of_mem _ h), hB, hE, hA⟩
  have hx := hC.1
  have hb := hC.2.1
  have hH : cH G Q D T A u s s.heap [] := ⟨hP, hD, va_S.rf⟩
  have hl := lv_entry ([.ref (Q 7), .int a0, .int a1, .int a2, .int a3]) (n := 5) (Nat.le_of_ble_eq_true rfl)
  rw [lg_entry_eq]
  generalize (lg_sl ([.ref (Q 7), .int a0, .int a1, .int a2, .int a3]) ++ List.replicate (5 - (lg_sl ([.ref (Q 7), .int a0, .int a1, .int a2, .int a3])).length) Slot.unset).toArray = ls at hl ⊢
  have hl : lv_has ls 5 [(0, .ref (Q 7)), (1, .int a0), (2, .int a1), (3, .int a2), (4, .int a3)] := hl
  unfold x_X3_valueOf at hF
  refine lv_iload_n hx hb dX3_valueOf_0 rfl (lv_at hl 1 rfl) ?_
  by_cases c_1 : a0 = 12
  · rw [if_pos c_1] at hF
    refine gx_ti (y := 12) c_1 ?_
    refine lv_tableIn (off := 69) (tgt := 70) hx hb dX3_valueOf_1 (by decide) (by decide) rfl (by decide) ?_
    refine lv_aload_n hx hb dX3_valueOf_70 rfl (lv_at hl 0 rfl) ?_
    refine lv_iload_n hx hb dX3_valueOf_71 rfl (lv_at hl 3 rfl) ?_
    refine lv_iconst (v := 3) hx hb dX3_valueOf_72 (by decide) ?_
    obtain ⟨r_2, u_3, h_4, hF⟩ := ncl_some hF
    refine ccV_i (q0 := 7) (As := [.int a2, .int 3]) (rest := []) hC hH (n_X3_on l G Z Q _ T u u_3 r_2 a2 3 _ h_4) rfl rfl ⟨wkc_X3_on, wka143, wka471, wka472, wka747⟩ kVX3_on ⟨Nat.le_of_ble_eq_true rfl, Nat.le_of_ble_eq_true rfl⟩ rfl hl.1 rfl (Nat.le_of_ble_eq_true rfl) dX3_valueOf_73 (fun D H locs hH => ?_)
    refine lv_iconst (v := 1) hx hb dX3_valueOf_76 (by decide) ?_
    refine lv_icmp_eq (tgt := 89) hx hb dX3_valueOf_77 (by decide) (fun c_5 => ?_) (fun c_5 => ?_)
    · rw [if_pos c_5] at hF
      refine lv_iconst (v := 1) hx hb dX3_valueOf_89 (by decide) ?_
      refine lv_goto (tgt := 94) hx hb dX3_valueOf_90 (by decide) ?_
      exact cr_i hC hH hr (nrt_eq hF) dX3_valueOf_94 hlocks
    · rw [if_neg c_5] at hF
      refine lv_aload_n hx hb dX3_valueOf_80 rfl (lv_at hl 0 rfl) ?_
      refine lv_iload_n hx hb dX3_valueOf_81 rfl (lv_at hl 3 rfl) ?_
      refine lv_iconst (v := 2) hx hb dX3_valueOf_82 (by decide) ?_
      obtain ⟨r_6, u_7, h_8, hF⟩ := ncl_some hF
      refine ccV_i (q0 := 7) (As := [.int a2, .int 2]) (rest := []) hC hH (n_X3_on l G Z Q _ T u_3 u_7 r_6 a2 2 _ h_8) rfl rfl ⟨wkc_X3_on, wka143, wka471, wka472, wka747⟩ kVX3_on ⟨Nat.le_of_ble_eq_true rfl, Nat.le_of_ble_eq_true rfl⟩ rfl hl.1 rfl (Nat.le_of_ble_eq_true rfl) dX3_valueOf_83 (fun D H locs hH => ?_)
      refine lv_if_ne (tgt := 93) hx hb dX3_valueOf_86 (by decide) (fun c_9 => ?_) (fun c_9 => ?_)
      · rw [if_neg c_9] at hF
        refine lv_iconst (v := 0) hx hb dX3_valueOf_93 (by decide) ?_
        exact cr_i hC hH hr (nrt_eq hF) dX3_valueOf_94 hlocks
      · rw [if_pos c_9] at hF
        refine lv_iconst (v := 1) hx hb dX3_valueOf_89 (by decide) ?_
        refine lv_goto (tgt := 94) hx hb dX3_valueOf_90 (by decide) ?_
        exact cr_i hC hH hr (nrt_eq hF) dX3_valueOf_94 hlocks
  rw [if_neg c_1] at hF
  by_cases c_10 : a0 = 13
  · rw [if_pos c_10] at hF
    refine gx_ti (y := 13) c_10 ?_
    refine lv_tableIn (off := 62) (tgt := 63) hx hb dX3_valueOf_1 (by decide) (by decide) rfl (by decide) ?_
    refine lv_aload_n hx hb dX3_valueOf_63 rfl (lv_at hl 0 rfl) ?_
    refine lv_iload_n hx hb dX3_valueOf_64 rfl (lv_at hl 3 rfl) ?_
    refine lv_iconst (v := 3) hx hb dX3_valueOf_65 (by decide) ?_
    obtain ⟨r_11, u_12, h_13, hF⟩ := ncl_some hF
    refine ccV_i (q0 := 7) (As := [.int a2, .int 3]) (rest := []) hC hH (n_X3_on l G Z Q _ T u u_12 r_11 a2 3 _ h_13) rfl rfl ⟨wkc_X3_on, wka143, wka471, wka472, wka747⟩ kVX3_on ⟨Nat.le_of_ble_eq_true rfl, Nat.le_of_ble_eq_true rfl⟩ rfl hl.1 rfl (Nat.le_of_ble_eq_true rfl) dX3_valueOf_66 (fun D H locs hH => ?_)
    exact cr_i hC hH hr (nrt_eq hF) dX3_valueOf_69 hlocks
  rw [if_neg c_10] at hF
  by_cases c_14 : a0 = 14
  · rw [if_pos c_14] at hF
    refine gx_ti (y := 14) c_14 ?_
    refine lv_tableIn (off := 35) (tgt := 36) hx hb dX3_valueOf_1 (by decide) (by decide) rfl (by decide) ?_
    refine lv_aload_n hx hb dX3_valueOf_36 rfl (lv_at hl 0 rfl) ?_
    refine lv_iload_n hx hb dX3_valueOf_37 rfl (lv_at hl 3 rfl) ?_
    refine lv_iload hx hb dX3_valueOf_38 (lv_at hl 4 rfl) ?_
    refine lv_iload_n hx hb dX3_valueOf_40 rfl (lv_at hl 2 rfl) ?_
    obtain ⟨r_15, u_16, h_17, hF⟩ := ncl_some hF
    refine ccV_i (q0 := 7) (As := [.int a2, .int a3, .int a1]) (rest := []) hC hH (n_X3_signsOf l G Z Q _ T u u_16 r_15 a2 a3 a1 _ h_17) rfl rfl ⟨wkc_X3_signsOf, wka300, wka481, wka482, wka747⟩ kVX3_signsOf ⟨Nat.le_of_ble_eq_true rfl, Nat.le_of_ble_eq_true rfl⟩ rfl hl.1 rfl (Nat.le_of_ble_eq_true rfl) dX3_valueOf_41 (fun D H locs hH => ?_)
    exact cr_i hC hH hr (nrt_eq hF) dX3_valueOf_44 hlocks
  rw [if_neg c_14] at hF
  by_cases c_18 : a0 = 15
  · rw [if_pos c_18] at hF
    refine gx_ti (y := 15) c_18 ?_
    refine lv_tableIn (off := 44) (tgt := 45) hx hb dX3_valueOf_1 (by decide) (by decide) rfl (by decide) ?_
    refine lv_aload_n hx hb dX3_valueOf_45 rfl (lv_at hl 0 rfl) ?_
    refine lv_iload_n hx hb dX3_valueOf_46 rfl (lv_at hl 3 rfl) ?_
    refine lv_iconst (v := 1) hx hb dX3_valueOf_47 (by decide) ?_
    refine lv_iload hx hb dX3_valueOf_48 (lv_at hl 4 rfl) ?_
    refine lv_isub hx hb dX3_valueOf_50 ?_
    refine lv_iload_n hx hb dX3_valueOf_51 rfl (lv_at hl 2 rfl) ?_
    obtain ⟨r_19, u_20, h_21, hF⟩ := ncl_some hF
    refine ccV_i (q0 := 7) (As := [.int a2, .int (1 - a3), .int a1]) (rest := []) hC hH (n_X3_signsOf l G Z Q _ T u u_20 r_19 a2 (1 - a3) a1 _ h_21) rfl rfl ⟨wkc_X3_signsOf, wka300, wka481, wka482, wka747⟩ kVX3_signsOf ⟨Nat.le_of_ble_eq_true rfl, Nat.le_of_ble_eq_true rfl⟩ rfl hl.1 rfl (Nat.le_of_ble_eq_true rfl) dX3_valueOf_52 (fun D H locs hH => ?_)
    exact cr_i hC hH hr (nrt_eq hF) dX3_valueOf_55 hlocks
  rw [if_neg c_18] at hF
  by_cases c_22 : a0 = 16
  · rw [if_pos c_22] at hF
    refine gx_ti (y := 16) c_22 ?_
    refine lv_tableIn (off := 55) (tgt := 56) hx hb dX3_valueOf_1 (by decide) (by decide) rfl (by decide) ?_
    refine lv_aload_n hx hb dX3_valueOf_56 rfl (lv_at hl 0 rfl) ?_
    refine lv_iload_n hx hb dX3_valueOf_57 rfl (lv_at hl 3 rfl) ?_
    refine lv_iconst (v := 2) hx hb dX3_valueOf_58 (by decide) ?_
    obtain ⟨r_23, u_24, h_25, hF⟩ := ncl_some hF
    refine ccV_i (q0 := 7) (As := [.int a2, .int 2]) (rest := []) hC hH (n_X3_on l G Z Q _ T u u_24 r_23 a2 2 _ h_25) rfl rfl ⟨wkc_X3_on, wka143, wka471, wka472, wka747⟩ kVX3_on ⟨Nat.le_of_ble_eq_true rfl, Nat.le_of_ble_eq_true rfl⟩ rfl hl.1 rfl (Nat.le_of_ble_eq_true rfl) dX3_valueOf_59 (fun D H locs hH => ?_)
    exact cr_i hC hH hr (nrt_eq hF) dX3_valueOf_62 hlocks
  rw [if_neg c_22] at hF
  refine lv_tableOut (tgt := 95) hx hb dX3_valueOf_1 (by have q0 := gl_ne c_1 (a := 12) (by decide); have q1 := gl_ne c_10 (a := 13) (by decide); have q2 := gl_ne c_14 (a := 14) (by decide); have q3 := gl_ne c_18 (a := 15) (by decide); have q4 := gl_ne c_22 (a := 16) (by decide); omega) (by decide) ?_
  refine lv_iload_n hx hb dX3_valueOf_95 rfl (lv_at hl 2 rfl) ?_
  exact cr_i hC hH hr (nrt_eq hF) dX3_valueOf_96 hlocks
def xl_X3_holds_12 (L : MS) : Nat → Int32 → Int32 → Int32 → Int32 → (Int32 → Int32 → Int32 → Int32 → NG Int32) → NG Int32
  | 0, _, _, _, _, _ => fun _ => none
  | n12 + 1, v2, v3, v4, v5, K12_127 => (if (rg (L.2 1) 20 v2) ≤ v5 then K12_127 v2 v3 v4 v5 else ncl (x_X4_kindAt L v5) (fun r_9 => (if r_9 = 11 then ncl (x_X3_pop) (fun r_69 => ncl (x_X3_push (1 - r_69)) (fun r_72 => nli (v5 + 1) (fun x_75 => xl_X3_holds_12 L n12 v2 v3 v4 x_75 K12_127))) else (if r_9 = 10 then ncl (x_X3_pop) (fun r_14 => ncl (x_X3_pop) (fun r_17 => ncl (x_X3_workOn r_9 r_17 r_14) (fun r_20 => ncl (x_X3_push r_20) (fun r_23 => nli (v5 + 1) (fun x_26 => xl_X3_holds_12 L n12 v2 v3 v4 x_26 K12_127))))) else (if r_9 = 9 then ncl (x_X3_pop) (fun r_29 => ncl (x_X3_pop) (fun r_32 => ncl (x_X3_workOn r_9 r_32 r_29) (fun r_35 => ncl (x_X3_push r_35) (fun r_38 => nli (v5 + 1) (fun x_41 => xl_X3_holds_12 L n12 v2 v3 v4 x_41 K12_127))))) else (if r_9 < 20 then ncl (x_X4_valueAt L v5) (fun r_44 => ncl (x_X3_valueOf r_9 r_44 v3 v4) (fun r_47 => ncl (x_X3_push r_47) (fun r_50 => nli (v5 + 1) (fun x_53 => xl_X3_holds_12 L n12 v2 v3 v4 x_53 K12_127)))) else ncl (x_X3_pop) (fun r_55 => ncl (x_X3_pop) (fun r_58 => ncl (x_X3_workOn r_9 r_58 r_55) (fun r_61 => ncl (x_X3_push r_61) (fun r_64 => nli (v5 + 1) (fun x_67 => xl_X3_holds_12 L n12 v2 v3 v4 x_67 K12_127)))))))))))
def x_X3_holds (L : MS) (a1 : Int32) (a2 : Int32) (a3 : Int32) : NG Int32 := ncl (nWF 16 0) (fun _ => ncl (x_X4_startOf L a1) (fun r_5 => xl_X3_holds_12 L fuel a1 a2 a3 r_5 (fun v2 v3 v4 v5 => ncl (x_X3_pop) (fun r_77 => (if r_77 = 1 then nrt 1 else nrt 0)))))
set_option maxHeartbeats 4000000 in
set_option maxRecDepth 100000 in
theorem n_X3_holds (l : Launch) (G : gG) (Z : gC) (Q : Nat → Nat) (D : Nat × Nat) (T : va_W) (la : Nat) (lq : Nat → Nat) (L : MS) (hL : lawAt G T la lq L) (u u1 : MS) (r : Int32) (a1 : Int32) (a2 : Int32) (a3 : Int32) (sz : Nat) (hF : x_X3_holds L a1 a2 a3 u = some (r, u1)) : Met l yX3_holds (Cond.code yX3_holds cX3_holds 9 (some .boolean) :: wK) { frames := 4, cells := 0, slots := 0, locals := 91 } (va_Pc [.ref (Q 7), .ref la, .int a1, .int a2, .int a3] (cPM G Z Q D T u sz)) (cQi G Q T u1 r (va_A (cW G Q D T u) sz)) 0 0 (va_A (cW G Q D T u) sz) := by
  refine Met.ofW (cc := cX3_holds) (maxL := 9) (ret := (some .boolean)) (by decide) rfl ?_
  intro p e s m args below meth c s₁ B hml hv
  obtain ⟨rfl, rfl, hP, hB, hD0, hE⟩ := hv
  have hr := B.returns
  have hlocks := B.notSynchronized
  have hts := atoms_spec (ws := Cond.code yX3_holds cX3_holds 9 (some .boolean) :: wK) B.pre
  have hD := hD0.self (sz := s.heap.size)
  have hA : ∀ q : Nat, s.heap.size ≤ q → va_A (cW G Q D T u) s.heap.size q := fun q h => Or.inr h
  generalize va_A (cW G Q D T u) s.heap.size = A at hD hA hE ⊢
  have hC : cX p c cX3_holds 9 s m _ RX3 G Z A := ⟨B.exec, B.bytes, hml, findClass_of_methodNamed B.named, fun w h => hts w (List.mem_cons_of_mem _ h), hB, hE, hA⟩
  have hx := hC.1
  have hb := hC.2.1
  have hH : cH G Q D T A u s s.heap [] := ⟨hP, hD, va_S.rf⟩
  have hl := lv_entry ([.ref (Q 7), .ref la, .int a1, .int a2, .int a3]) (n := 9) (Nat.le_of_ble_eq_true rfl)
  rw [lg_entry_eq]
  generalize (lg_sl ([.ref (Q 7), .ref la, .int a1, .int a2, .int a3]) ++ List.replicate (9 - (lg_sl ([.ref (Q 7), .ref la, .int a1, .int a2, .int a3])).length) Slot.unset).toArray = ls at hl ⊢
  have hl : lv_has ls 9 [(0, .ref (Q 7)), (1, .ref la), (2, .int a1), (3, .int a2), (4, .int a3)] := hl
  unfold x_X3_holds at hF
  refine lv_aload_n hx hb dX3_holds_0 rfl (lv_at hl 0 rfl) ?_
  refine lv_iconst (v := 0) hx hb dX3_holds_1 (by decide) ?_
  obtain ⟨y_4, u_1, h_3, hF⟩ := ncl_some hF
  have e_2 := nWF_eq h_3
  refine cp_X3_97 hC hH e_2 dX3_holds_2 (fun H locs hH => ?_)
  refine lv_aload_n hx hb dX3_holds_5 rfl (lv_at hl 1 rfl) ?_
  refine lv_iload_n hx hb dX3_holds_6 rfl (lv_at hl 2 rfl) ?_
  obtain ⟨r_5, u_6, h_7, hF⟩ := ncl_some hF
  refine ccV_i (As := [.int a1]) (rest := []) hC hH (n_X4_startOf l G Z Q _ T la lq L hL u_1 u_6 r_5 a1 _ h_7) (hL.he0) rfl ⟨wkc_X4_startOf, wka304, wka522, wka523, wka748⟩ kVX4_startOf ⟨Nat.le_of_ble_eq_true rfl, Nat.le_of_ble_eq_true rfl⟩ rfl hl.1 rfl (Nat.le_of_ble_eq_true rfl) dX3_holds_7 (fun D H locs hH => ?_)
  refine lv_istore (lv' := [(5, .int r_5), (0, .ref (Q 7)), (1, .ref la), (2, .int a1), (3, .int a2), (4, .int a3)]) hx hb dX3_holds_10 hl (by decide) rfl (fun ls hl => ?_)
  have hL12 : ∀ (K12_127 : Int32 → Int32 → Int32 → Int32 → NG Int32), (∀ (v2 v3 v4 v5 : Int32) (u : MS) (D : Nat × Nat) (H : Heap) (locs : List Loc) (ls : Array Slot), lv_has ls 9 [(0, .ref (Q 7)), (1, .ref la), (2, .int v2), (3, .int v3), (4, .int v4), (5, .int v5)] → cH G Q D T A u s H locs → K12_127 v2 v3 v4 v5 u = some (r, u1) → W p l e (headSpec (Cond.code yX3_holds cX3_holds 9 (some .boolean) :: wK) { frames := 4, cells := 0, slots := 0, locals := 91 }).room s m [.ref (Q 7), .ref la, .int a1, .int a2, .int a3].toArray below meth c H locs 0 0 (MQ below (cQi G Q T u1 r A) [.ref (Q 7), .ref la, .int a1, .int a2, .int a3].toArray s 0 0 A) (F0 m 127 ls [])) → ∀ (n12 : Nat) (v2 v3 v4 v5 : Int32) (u : MS) (D : Nat × Nat) (H : Heap) (locs : List Loc) (ls : Array Slot), lv_has ls 9 [(0, .ref (Q 7)), (1, .ref la), (2, .int v2), (3, .int v3), (4, .int v4), (5, .int v5)] → cH G Q D T A u s H locs → xl_X3_holds_12 L n12 v2 v3 v4 v5 K12_127 u = some (r, u1) → W p l e (headSpec (Cond.code yX3_holds cX3_holds 9 (some .boolean) :: wK) { frames := 4, cells := 0, slots := 0, locals := 91 }).room s m [.ref (Q 7), .ref la, .int a1, .int a2, .int a3].toArray below meth c H locs 0 0 (MQ below (cQi G Q T u1 r A) [.ref (Q 7), .ref la, .int a1, .int a2, .int a3].toArray s 0 0 A) (F0 m 12 ls []) := by
    intro K12_127 hK12_127 n12
    induction n12 with
    | zero => intro v2 v3 v4 v5 u D H locs ls hl hH hF; cases hF
    | succ n12 ih12 =>
      intro v2 v3 v4 v5 u D H locs ls hl hH hF
      unfold xl_X3_holds_12 at hF
      refine lv_iload hx hb dX3_holds_12 (lv_at hl 5 rfl) ?_
      refine lv_aload_n hx hb dX3_holds_14 rfl (lv_at hl 1 rfl) ?_
      refine lg_X3_103 hC hH hL dX3_holds_15 ?_
      refine lv_iload_n hx hb dX3_holds_18 rfl (lv_at hl 2 rfl) ?_
      refine lr_1 hC hH hL wka306 ⟨Nat.le_of_ble_eq_true rfl, Nat.le_of_ble_eq_true rfl⟩ hl.1 (Nat.le_of_ble_eq_true rfl) ⟨Nat.zero_le _, Nat.zero_le _⟩ dX3_holds_19 ?_
      refine lv_icmp_ge (tgt := 127) hx hb dX3_holds_22 (by decide) (fun c_8 => ?_) (fun c_8 => ?_)
      · rw [if_pos c_8] at hF
        exact hK12_127 v2 v3 v4 v5 u _ _ _ _ (lv_sub hl [0, 1, 2, 3, 4, 5] rfl) hH hF
      · rw [if_neg c_8] at hF
        refine lv_aload_n hx hb dX3_holds_25 rfl (lv_at hl 1 rfl) ?_
        refine lv_iload hx hb dX3_holds_26 (lv_at hl 5 rfl) ?_
        obtain ⟨r_9, u_10, h_11, hF⟩ := ncl_some hF
        refine ccV_i (As := [.int v5]) (rest := []) hC hH (n_X4_kindAt l G Z Q _ T la lq L hL u u_10 r_9 v5 _ h_11) (hL.he0) rfl ⟨wkc_X4_kindAt, wka307, wka524, wka525, wka748⟩ kVX4_kindAt ⟨Nat.le_of_ble_eq_true rfl, Nat.le_of_ble_eq_true rfl⟩ rfl hl.1 rfl (Nat.le_of_ble_eq_true rfl) dX3_holds_28 (fun D H locs hH => ?_)
        refine lv_istore (lv' := [(6, .int r_9), (0, .ref (Q 7)), (1, .ref la), (2, .int v2), (3, .int v3), (4, .int v4), (5, .int v5)]) hx hb dX3_holds_31 hl (by decide) rfl (fun ls hl => ?_)
        refine lv_iload hx hb dX3_holds_33 (lv_at hl 0 rfl) ?_
        refine lv_bipush (v := 11) hx hb dX3_holds_35 (by decide) ?_
        refine lv_icmp_ne (tgt := 53) hx hb dX3_holds_37 (by decide) (fun c_12 => ?_) (fun c_12 => ?_)
        · rw [if_neg c_12] at hF
          refine lv_iload hx hb dX3_holds_53 (lv_at hl 0 rfl) ?_
          refine lv_bipush (v := 10) hx hb dX3_holds_55 (by decide) ?_
          refine lv_icmp_eq (tgt := 74) hx hb dX3_holds_57 (by decide) (fun c_13 => ?_) (fun c_13 => ?_)
          · rw [if_pos c_13] at hF
            refine lv_aload_n hx hb dX3_holds_74 rfl (lv_at hl 1 rfl) ?_
            obtain ⟨r_14, u_15, h_16, hF⟩ := ncl_some hF
            refine ccV_i (q0 := 7) (As := []) (rest := []) hC hH (n_X3_pop l G Z Q _ T u_10 u_15 r_14 _ h_16) rfl rfl ⟨wkc_X3_pop, wka308, wka503, wka504, wka747⟩ kVX3_pop ⟨Nat.le_of_ble_eq_true rfl, Nat.le_of_ble_eq_true rfl⟩ rfl hl.1 rfl (Nat.le_of_ble_eq_true rfl) dX3_holds_75 (fun D H locs hH => ?_)
            refine lv_istore (lv' := [(7, .int r_14), (6, .int r_9), (0, .ref (Q 7)), (1, .ref la), (2, .int v2), (3, .int v3), (4, .int v4), (5, .int v5)]) hx hb dX3_holds_78 hl (by decide) rfl (fun ls hl => ?_)
            refine lv_aload_n hx hb dX3_holds_80 rfl (lv_at hl 2 rfl) ?_
            obtain ⟨r_17, u_18, h_19, hF⟩ := ncl_some hF
            refine ccV_i (q0 := 7) (As := []) (rest := []) hC hH (n_X3_pop l G Z Q _ T u_15 u_18 r_17 _ h_19) rfl rfl ⟨wkc_X3_pop, wka308, wka503, wka504, wka747⟩ kVX3_pop ⟨Nat.le_of_ble_eq_true rfl, Nat.le_of_ble_eq_true rfl⟩ rfl hl.1 rfl (Nat.le_of_ble_eq_true rfl) dX3_holds_81 (fun D H locs hH => ?_)
            refine lv_istore (lv' := [(8, .int r_17), (7, .int r_14), (6, .int r_9), (0, .ref (Q 7)), (1, .ref la), (2, .int v2), (3, .int v3), (4, .int v4), (5, .int v5)]) hx hb dX3_holds_84 hl (by decide) rfl (fun ls hl => ?_)
            refine lv_aload_n hx hb dX3_holds_86 rfl (lv_at hl 3 rfl) ?_
            refine lv_iload hx hb dX3_holds_87 (lv_at hl 2 rfl) ?_
            refine lv_iload hx hb dX3_holds_89 (lv_at hl 0 rfl) ?_
            refine lv_iload hx hb dX3_holds_91 (lv_at hl 1 rfl) ?_
            obtain ⟨r_20, u_21, h_22, hF⟩ := ncl_some hF
            refine ccS_i (As := [.int r_9, .int r_17, .int r_14]) (rest := [.ref (Q 7)]) hC hH (n_X3_workOn l G Z Q _ T u_18 u_21 r_20 r_9 r_17 r_14 _ h_22) ⟨wkc_X3_workOn, wka312, wka507, wka747⟩ kSX3_workOn ⟨Nat.le_of_ble_eq_true rfl, Nat.le_of_ble_eq_true rfl⟩ rfl hl.1 rfl (Nat.le_of_ble_eq_true rfl) dX3_holds_93 (fun D H locs hH => ?_)
            obtain ⟨r_23, u_24, h_25, hF⟩ := ncl_some hF
            refine ccV_v (q0 := 7) (As := [.int r_20]) (rest := []) hC hH (n_X3_push l G Z Q _ T u_21 u_24 r_23 r_20 _ h_25) rfl rfl ⟨wkc_X3_push, wka310, wka501, wka502, wka747⟩ kVX3_push ⟨Nat.le_of_ble_eq_true rfl, Nat.le_of_ble_eq_true rfl⟩ rfl hl.1 rfl (Nat.le_of_ble_eq_true rfl) dX3_holds_96 (fun D H locs hH => ?_)
            refine lv_goto (tgt := 121) hx hb dX3_holds_99 (by decide) ?_
            obtain ⟨x_26, e_27, hF⟩ := nli_some hF
            refine lv_iinc (v := x_26) (lv' := [(5, .int x_26), (8, .int r_17), (7, .int r_14), (6, .int r_9), (0, .ref (Q 7)), (1, .ref la), (2, .int v2), (3, .int v3), (4, .int v4)]) hx hb dX3_holds_121 hl (k := 8) rfl e_27 (by decide) rfl (fun ls hl => ?_)
            refine lv_goto (tgt := 12) hx hb dX3_holds_124 (by decide) ?_
            exact ih12 v2 v3 v4 x_26 u_24 _ _ _ _ (lv_sub hl [4, 5, 6, 7, 8, 0] rfl) hH hF
          · rw [if_neg c_13] at hF
            refine lv_iload hx hb dX3_holds_60 (lv_at hl 0 rfl) ?_
            refine lv_bipush (v := 9) hx hb dX3_holds_62 (by decide) ?_
            refine lv_icmp_eq (tgt := 74) hx hb dX3_holds_64 (by decide) (fun c_28 => ?_) (fun c_28 => ?_)
            · rw [if_pos c_28] at hF
              refine lv_aload_n hx hb dX3_holds_74 rfl (lv_at hl 1 rfl) ?_
              obtain ⟨r_29, u_30, h_31, hF⟩ := ncl_some hF
              refine ccV_i (q0 := 7) (As := []) (rest := []) hC hH (n_X3_pop l G Z Q _ T u_10 u_30 r_29 _ h_31) rfl rfl ⟨wkc_X3_pop, wka308, wka503, wka504, wka747⟩ kVX3_pop ⟨Nat.le_of_ble_eq_true rfl, Nat.le_of_ble_eq_true rfl⟩ rfl hl.1 rfl (Nat.le_of_ble_eq_true rfl) dX3_holds_75 (fun D H locs hH => ?_)
              refine lv_istore (lv' := [(7, .int r_29), (6, .int r_9), (0, .ref (Q 7)), (1, .ref la), (2, .int v2), (3, .int v3), (4, .int v4), (5, .int v5)]) hx hb dX3_holds_78 hl (by decide) rfl (fun ls hl => ?_)
              refine lv_aload_n hx hb dX3_holds_80 rfl (lv_at hl 2 rfl) ?_
              obtain ⟨r_32, u_33, h_34, hF⟩ := ncl_some hF
              refine ccV_i (q0 := 7) (As := []) (rest := []) hC hH (n_X3_pop l G Z Q _ T u_30 u_33 r_32 _ h_34) rfl rfl ⟨wkc_X3_pop, wka308, wka503, wka504, wka747⟩ kVX3_pop ⟨Nat.le_of_ble_eq_true rfl, Nat.le_of_ble_eq_true rfl⟩ rfl hl.1 rfl (Nat.le_of_ble_eq_true rfl) dX3_holds_81 (fun D H locs hH => ?_)
              refine lv_istore (lv' := [(8, .int r_32), (7, .int r_29), (6, .int r_9), (0, .ref (Q 7)), (1, .ref la), (2, .int v2), (3, .int v3), (4, .int v4), (5, .int v5)]) hx hb dX3_holds_84 hl (by decide) rfl (fun ls hl => ?_)
              refine lv_aload_n hx hb dX3_holds_86 rfl (lv_at hl 3 rfl) ?_
              refine lv_iload hx hb dX3_holds_87 (lv_at hl 2 rfl) ?_
              refine lv_iload hx hb dX3_holds_89 (lv_at hl 0 rfl) ?_
              refine lv_iload hx hb dX3_holds_91 (lv_at hl 1 rfl) ?_
              obtain ⟨r_35, u_36, h_37, hF⟩ := ncl_some hF
              refine ccS_i (As := [.int r_9, .int r_32, .int r_29]) (rest := [.ref (Q 7)]) hC hH (n_X3_workOn l G Z Q _ T u_33 u_36 r_35 r_9 r_32 r_29 _ h_37) ⟨wkc_X3_workOn, wka312, wka507, wka747⟩ kSX3_workOn ⟨Nat.le_of_ble_eq_true rfl, Nat.le_of_ble_eq_true rfl⟩ rfl hl.1 rfl (Nat.le_of_ble_eq_true rfl) dX3_holds_93 (fun D H locs hH => ?_)
              obtain ⟨r_38, u_39, h_40, hF⟩ := ncl_some hF
              refine ccV_v (q0 := 7) (As := [.int r_35]) (rest := []) hC hH (n_X3_push l G Z Q _ T u_36 u_39 r_38 r_35 _ h_40) rfl rfl ⟨wkc_X3_push, wka310, wka501, wka502, wka747⟩ kVX3_push ⟨Nat.le_of_ble_eq_true rfl, Nat.le_of_ble_eq_true rfl⟩ rfl hl.1 rfl (Nat.le_of_ble_eq_true rfl) dX3_holds_96 (fun D H locs hH => ?_)
              refine lv_goto (tgt := 121) hx hb dX3_holds_99 (by decide) ?_
              obtain ⟨x_41, e_42, hF⟩ := nli_some hF
              refine lv_iinc (v := x_41) (lv' := [(5, .int x_41), (8, .int r_32), (7, .int r_29), (6, .int r_9), (0, .ref (Q 7)), (1, .ref la), (2, .int v2), (3, .int v3), (4, .int v4)]) hx hb dX3_holds_121 hl (k := 8) rfl e_42 (by decide) rfl (fun ls hl => ?_)
              refine lv_goto (tgt := 12) hx hb dX3_holds_124 (by decide) ?_
              exact ih12 v2 v3 v4 x_41 u_39 _ _ _ _ (lv_sub hl [4, 5, 6, 7, 8, 0] rfl) hH hF
            · rw [if_neg c_28] at hF
              refine lv_iload hx hb dX3_holds_67 (lv_at hl 0 rfl) ?_
              refine lv_bipush (v := 20) hx hb dX3_holds_69 (by decide) ?_
              refine lv_icmp_lt (tgt := 102) hx hb dX3_holds_71 (by decide) (fun c_43 => ?_) (fun c_43 => ?_)
              · rw [if_pos c_43] at hF
                refine lv_aload_n hx hb dX3_holds_102 rfl (lv_at hl 1 rfl) ?_
                refine lv_aload_n hx hb dX3_holds_103 rfl (lv_at hl 1 rfl) ?_
                refine lv_iload hx hb dX3_holds_104 (lv_at hl 0 rfl) ?_
                refine lv_aload_n hx hb dX3_holds_106 rfl (lv_at hl 2 rfl) ?_
                refine lv_iload hx hb dX3_holds_107 (lv_at hl 6 rfl) ?_
                obtain ⟨r_44, u_45, h_46, hF⟩ := ncl_some hF
                refine ccV_i (As := [.int v5]) (rest := [.int r_9, .ref (Q 7), .ref (Q 7)]) hC hH (n_X4_valueAt l G Z Q _ T la lq L hL u_10 u_45 r_44 v5 _ h_46) (hL.he0) rfl ⟨wkc_X4_valueAt, wka313, wka526, wka527, wka748⟩ kVX4_valueAt ⟨Nat.le_of_ble_eq_true rfl, Nat.le_of_ble_eq_true rfl⟩ rfl hl.1 rfl (Nat.le_of_ble_eq_true rfl) dX3_holds_109 (fun D H locs hH => ?_)
                refine lv_iload_n hx hb dX3_holds_112 rfl (lv_at hl 4 rfl) ?_
                refine lv_iload hx hb dX3_holds_113 (lv_at hl 5 rfl) ?_
                obtain ⟨r_47, u_48, h_49, hF⟩ := ncl_some hF
                refine ccV_i (q0 := 7) (As := [.int r_9, .int r_44, .int v3, .int v4]) (rest := [.ref (Q 7)]) hC hH (n_X3_valueOf l G Z Q _ T u_45 u_48 r_47 r_9 r_44 v3 v4 _ h_49) rfl rfl ⟨wkc_X3_valueOf, wka314, wka505, wka506, wka747⟩ kVX3_valueOf ⟨Nat.le_of_ble_eq_true rfl, Nat.le_of_ble_eq_true rfl⟩ rfl hl.1 rfl (Nat.le_of_ble_eq_true rfl) dX3_holds_115 (fun D H locs hH => ?_)
                obtain ⟨r_50, u_51, h_52, hF⟩ := ncl_some hF
                refine ccV_v (q0 := 7) (As := [.int r_47]) (rest := []) hC hH (n_X3_push l G Z Q _ T u_48 u_51 r_50 r_47 _ h_52) rfl rfl ⟨wkc_X3_push, wka310, wka501, wka502, wka747⟩ kVX3_push ⟨Nat.le_of_ble_eq_true rfl, Nat.le_of_ble_eq_true rfl⟩ rfl hl.1 rfl (Nat.le_of_ble_eq_true rfl) dX3_holds_118 (fun D H locs hH => ?_)
                obtain ⟨x_53, e_54, hF⟩ := nli_some hF
                refine lv_iinc (v := x_53) (lv' := [(5, .int x_53), (6, .int r_9), (0, .ref (Q 7)), (1, .ref la), (2, .int v2), (3, .int v3), (4, .int v4)]) hx hb dX3_holds_121 hl (k := 6) rfl e_54 (by decide) rfl (fun ls hl => ?_)
                refine lv_goto (tgt := 12) hx hb dX3_holds_124 (by decide) ?_
                exact ih12 v2 v3 v4 x_53 u_51 _ _ _ _ (lv_sub hl [2, 3, 4, 5, 6, 0] rfl) hH hF
              · rw [if_neg c_43] at hF
                refine lv_aload_n hx hb dX3_holds_74 rfl (lv_at hl 1 rfl) ?_
                obtain ⟨r_55, u_56, h_57, hF⟩ := ncl_some hF
                refine ccV_i (q0 := 7) (As := []) (rest := []) hC hH (n_X3_pop l G Z Q _ T u_10 u_56 r_55 _ h_57) rfl rfl ⟨wkc_X3_pop, wka308, wka503, wka504, wka747⟩ kVX3_pop ⟨Nat.le_of_ble_eq_true rfl, Nat.le_of_ble_eq_true rfl⟩ rfl hl.1 rfl (Nat.le_of_ble_eq_true rfl) dX3_holds_75 (fun D H locs hH => ?_)
                refine lv_istore (lv' := [(7, .int r_55), (6, .int r_9), (0, .ref (Q 7)), (1, .ref la), (2, .int v2), (3, .int v3), (4, .int v4), (5, .int v5)]) hx hb dX3_holds_78 hl (by decide) rfl (fun ls hl => ?_)
                refine lv_aload_n hx hb dX3_holds_80 rfl (lv_at hl 2 rfl) ?_
                obtain ⟨r_58, u_59, h_60, hF⟩ := ncl_some hF
                refine ccV_i (q0 := 7) (As := []) (rest := []) hC hH (n_X3_pop l G Z Q _ T u_56 u_59 r_58 _ h_60) rfl rfl ⟨wkc_X3_pop, wka308, wka503, wka504, wka747⟩ kVX3_pop ⟨Nat.le_of_ble_eq_true rfl, Nat.le_of_ble_eq_true rfl⟩ rfl hl.1 rfl (Nat.le_of_ble_eq_true rfl) dX3_holds_81 (fun D H locs hH => ?_)
                refine lv_istore (lv' := [(8, .int r_58), (7, .int r_55), (6, .int r_9), (0, .ref (Q 7)), (1, .ref la), (2, .int v2), (3, .int v3), (4, .int v4), (5, .int v5)]) hx hb dX3_holds_84 hl (by decide) rfl (fun ls hl => ?_)
                refine lv_aload_n hx hb dX3_holds_86 rfl (lv_at hl 3 rfl) ?_
                refine lv_iload hx hb dX3_holds_87 (lv_at hl 2 rfl) ?_
                refine lv_iload hx hb dX3_holds_89 (lv_at hl 0 rfl) ?_
                refine lv_iload hx hb dX3_holds_91 (lv_at hl 1 rfl) ?_
                obtain ⟨r_61, u_62, h_63, hF⟩ := ncl_some hF
                refine ccS_i (As := [.int r_9, .int r_58, .int r_55]) (rest := [.ref (Q 7)]) hC hH (n_X3_workOn l G Z Q _ T u_59 u_62 r_61 r_9 r_58 r_55 _ h_63) ⟨wkc_X3_workOn, wka312, wka507, wka747⟩ kSX3_workOn ⟨Nat.le_of_ble_eq_true rfl, Nat.le_of_ble_eq_true rfl⟩ rfl hl.1 rfl (Nat.le_of_ble_eq_true rfl) dX3_holds_93 (fun D H locs hH => ?_)
                obtain ⟨r_64, u_65, h_66, hF⟩ := ncl_some hF
                refine ccV_v (q0 := 7) (As := [.int r_61]) (rest := []) hC hH (n_X3_push l G Z Q _ T u_62 u_65 r_64 r_61 _ h_66) rfl rfl ⟨wkc_X3_push, wka310, wka501, wka502, wka747⟩ kVX3_push ⟨Nat.le_of_ble_eq_true rfl, Nat.le_of_ble_eq_true rfl⟩ rfl hl.1 rfl (Nat.le_of_ble_eq_true rfl) dX3_holds_96 (fun D H locs hH => ?_)
                refine lv_goto (tgt := 121) hx hb dX3_holds_99 (by decide) ?_
                obtain ⟨x_67, e_68, hF⟩ := nli_some hF
                refine lv_iinc (v := x_67) (lv' := [(5, .int x_67), (8, .int r_58), (7, .int r_55), (6, .int r_9), (0, .ref (Q 7)), (1, .ref la), (2, .int v2), (3, .int v3), (4, .int v4)]) hx hb dX3_holds_121 hl (k := 8) rfl e_68 (by decide) rfl (fun ls hl => ?_)
                refine lv_goto (tgt := 12) hx hb dX3_holds_124 (by decide) ?_
                exact ih12 v2 v3 v4 x_67 u_65 _ _ _ _ (lv_sub hl [4, 5, 6, 7, 8, 0] rfl) hH hF
        · rw [if_pos c_12] at hF
          refine lv_aload_n hx hb dX3_holds_40 rfl (lv_at hl 1 rfl) ?_
          refine lv_iconst (v := 1) hx hb dX3_holds_41 (by decide) ?_
          refine lv_aload_n hx hb dX3_holds_42 rfl (lv_at hl 1 rfl) ?_
          obtain ⟨r_69, u_70, h_71, hF⟩ := ncl_some hF
          refine ccV_i (q0 := 7) (As := []) (rest := [.int 1, .ref (Q 7)]) hC hH (n_X3_pop l G Z Q _ T u_10 u_70 r_69 _ h_71) rfl rfl ⟨wkc_X3_pop, wka308, wka503, wka504, wka747⟩ kVX3_pop ⟨Nat.le_of_ble_eq_true rfl, Nat.le_of_ble_eq_true rfl⟩ rfl hl.1 rfl (Nat.le_of_ble_eq_true rfl) dX3_holds_43 (fun D H locs hH => ?_)
          refine lv_isub hx hb dX3_holds_46 ?_
          obtain ⟨r_72, u_73, h_74, hF⟩ := ncl_some hF
          refine ccV_v (q0 := 7) (As := [.int (1 - r_69)]) (rest := []) hC hH (n_X3_push l G Z Q _ T u_70 u_73 r_72 (1 - r_69) _ h_74) rfl rfl ⟨wkc_X3_push, wka310, wka501, wka502, wka747⟩ kVX3_push ⟨Nat.le_of_ble_eq_true rfl, Nat.le_of_ble_eq_true rfl⟩ rfl hl.1 rfl (Nat.le_of_ble_eq_true rfl) dX3_holds_47 (fun D H locs hH => ?_)
          refine lv_goto (tgt := 121) hx hb dX3_holds_50 (by decide) ?_
          obtain ⟨x_75, e_76, hF⟩ := nli_some hF
          refine lv_iinc (v := x_75) (lv' := [(5, .int x_75), (6, .int r_9), (0, .ref (Q 7)), (1, .ref la), (2, .int v2), (3, .int v3), (4, .int v4)]) hx hb dX3_holds_121 hl (k := 6) rfl e_76 (by decide) rfl (fun ls hl => ?_)
          refine lv_goto (tgt := 12) hx hb dX3_holds_124 (by decide) ?_
          exact ih12 v2 v3 v4 x_75 u_73 _ _ _ _ (lv_sub hl [2, 3, 4, 5, 6, 0] rfl) hH hF
  refine hL12 _ (fun v2 v3 v4 v5 u D H locs ls hl hH hF => ?_) fuel a1 a2 a3 r_5 u_6 _ _ _ _ (lv_sub hl [1, 2, 3, 4, 5, 0] rfl) hH hF
  refine lv_aload_n hx hb dX3_holds_127 rfl (lv_at hl 0 rfl) ?_
  obtain ⟨r_77, u_78, h_79, hF⟩ := ncl_some hF
  refine ccV_i (q0 := 7) (As := []) (rest := []) hC hH (n_X3_pop l G Z Q _ T u u_78 r_77 _ h_79) rfl rfl ⟨wkc_X3_pop, wka308, wka503, wka504, wka747⟩ kVX3_pop ⟨Nat.le_of_ble_eq_true rfl, Nat.le_of_ble_eq_true rfl⟩ rfl hl.1 rfl (Nat.le_of_ble_eq_true rfl) dX3_holds_128 (fun D H locs hH => ?_)
  refine lv_iconst (v := 1) hx hb dX3_holds_131 (by decide) ?_
  refine lv_icmp_ne (tgt := 139) hx hb dX3_holds_132 (by decide) (fun c_80 => ?_) (fun c_80 => ?_)
  · rw [if_neg c_80] at hF
    refine lv_iconst (v := 0) hx hb dX3_holds_139 (by decide) ?_
    exact cr_z hC hH hr rfl (nrt_eq hF) dX3_holds_140 hlocks
  · rw [if_pos c_80] at hF
    refine lv_iconst (v := 1) hx hb dX3_holds_135 (by decide) ?_
    refine lv_goto (tgt := 140) hx hb dX3_holds_136 (by decide) ?_
    exact cr_z hC hH hr rfl (nrt_eq hF) dX3_holds_140 hlocks
def x_X4_clear : NG Int32 := ncl (nWF 20 0) (fun _ => ncl (nWF 21 0) (fun _ => ncl (nWF 22 0) (fun _ => ncl (nWF 23 0) (fun _ => ncl (nWF 24 0) (fun _ => ncl (nWF 25 0) (fun _ => nrt 0))))))
set_option maxHeartbeats 4000000 in
set_option maxRecDepth 100000 in
theorem n_X4_clear (l : Launch) (G : gG) (Z : gC) (Q : Nat → Nat) (D : Nat × Nat) (T : va_W) (u u1 : MS) (r : Int32) (sz : Nat) (hF : x_X4_clear u = some (r, u1)) : Met l yX4_clear (Cond.code yX4_clear cX4_clear 1 none :: wK) { frames := 0, cells := 0, slots := 0, locals := 0 } (va_Pc [.ref (Q 10)] (cPM G Z Q D T u sz)) (cQv G Q T u1 (va_A (cW G Q D T u) sz)) 0 0 (va_A (cW G Q D T u) sz) := by
  refine Met.ofW (cc := cX4_clear) (maxL := 1) (ret := none) (by decide) rfl ?_
  intro p e s m args below meth c s₁ B hml hv
  obtain ⟨rfl, rfl, hP, hB, hD0, hE⟩ := hv
  have hr := B.returns
  have hlocks := B.notSynchronized
  have hts := atoms_spec (ws := Cond.code yX4_clear cX4_clear 1 none :: wK) B.pre
  have hD := hD0.self (sz := s.heap.size)
  have hA : ∀ q : Nat, s.heap.size ≤ q → va_A (cW G Q D T u) s.heap.size q := fun q h => Or.inr h
  generalize va_A (cW G Q D T u) s.heap.size = A at hD hA hE ⊢
  have hC : cX p c cX4_clear 1 s m _ RX4 G Z A := ⟨B.exec, B.bytes, hml, findClass_of_methodNamed B.named, fun w h => hts w (List.mem_cons_of_mem _ h), hB, hE, hA⟩
  have hx := hC.1
  have hb := hC.2.1
  have hH : cH G Q D T A u s s.heap [] := ⟨hP, hD, va_S.rf⟩
  have hl := lv_entry ([.ref (Q 10)]) (n := 1) (Nat.le_of_ble_eq_true rfl)
  rw [lg_entry_eq]
  generalize (lg_sl ([.ref (Q 10)]) ++ List.replicate (1 - (lg_sl ([.ref (Q 10)])).length) Slot.unset).toArray = ls at hl ⊢
  have hl : lv_has ls 1 [(0, .ref (Q 10))] := hl
  unfold x_X4_clear at hF
  refine lv_aload_n hx hb dX4_clear_0 rfl (lv_at hl 0 rfl) ?_
  refine lv_iconst (v := 0) hx hb dX4_clear_1 (by decide) ?_
  obtain ⟨y_4, u_1, h_3, hF⟩ := ncl_some hF
  have e_2 := nWF_eq h_3
  refine cp_X4_24 hC hH e_2 dX4_clear_2 (fun H locs hH => ?_)
  refine lv_aload_n hx hb dX4_clear_5 rfl (lv_at hl 0 rfl) ?_
  refine lv_iconst (v := 0) hx hb dX4_clear_6 (by decide) ?_
  obtain ⟨y_8, u_5, h_7, hF⟩ := ncl_some hF
  have e_6 := nWF_eq h_7
  refine cp_X4_28 hC hH e_6 dX4_clear_7 (fun H locs hH => ?_)
  refine lv_aload_n hx hb dX4_clear_10 rfl (lv_at hl 0 rfl) ?_
  refine lv_iconst (v := 0) hx hb dX4_clear_11 (by decide) ?_
  obtain ⟨y_12, u_9, h_11, hF⟩ := ncl_some hF
  have e_10 := nWF_eq h_11
  refine cp_X4_31 hC hH e_10 dX4_clear_12 (fun H locs hH => ?_)
  refine lv_aload_n hx hb dX4_clear_15 rfl (lv_at hl 0 rfl) ?_
  refine lv_iconst (v := 0) hx hb dX4_clear_16 (by decide) ?_
  obtain ⟨y_16, u_13, h_15, hF⟩ := ncl_some hF
  have e_14 := nWF_eq h_15
  refine cp_X4_34 hC hH e_14 dX4_clear_17 (fun H locs hH => ?_)
  refine lv_aload_n hx hb dX4_clear_20 rfl (lv_at hl 0 rfl) ?_
  refine lv_iconst (v := 0) hx hb dX4_clear_21 (by decide) ?_
  obtain ⟨y_20, u_17, h_19, hF⟩ := ncl_some hF
  have e_18 := nWF_eq h_19
  refine cp_X4_37 hC hH e_18 dX4_clear_22 (fun H locs hH => ?_)
  refine lv_aload_n hx hb dX4_clear_25 rfl (lv_at hl 0 rfl) ?_
  refine lv_iconst (v := 0) hx hb dX4_clear_26 (by decide) ?_
  obtain ⟨y_24, u_21, h_23, hF⟩ := ncl_some hF
  have e_22 := nWF_eq h_23
  refine cp_X4_40 hC hH e_22 dX4_clear_27 (fun H locs hH => ?_)
  exact cr_v hC hH hr (nrt_eq hF) dX4_clear_30 hlocks
def x_X4_emit (a0 : Int32) (a1 : Int32) : NG Int32 := ncl (nRF 25) (fun x_1 => ncl (nST 8 300 x_1 ((a0 * 10000) + a1)) (fun _ => ncl (nRF 25) (fun x_9 => ncl (nWF 25 (x_9 + 1)) (fun _ => nrt 0))))
set_option maxHeartbeats 4000000 in
set_option maxRecDepth 100000 in
theorem n_X4_emit (l : Launch) (G : gG) (Z : gC) (Q : Nat → Nat) (D : Nat × Nat) (T : va_W) (u u1 : MS) (r : Int32) (a0 : Int32) (a1 : Int32) (sz : Nat) (hF : x_X4_emit a0 a1 u = some (r, u1)) : Met l yX4_emit (Cond.code yX4_emit cX4_emit 3 none :: wK) { frames := 1, cells := 0, slots := 0, locals := 22 } (va_Pc [.ref (Q 10), .int a0, .int a1] (cPM G Z Q D T u sz)) (cQv G Q T u1 (va_A (cW G Q D T u) sz)) 0 0 (va_A (cW G Q D T u) sz) := by
  refine Met.ofW (cc := cX4_emit) (maxL := 3) (ret := none) (by decide) rfl ?_
  intro p e s m args below meth c s₁ B hml hv
  obtain ⟨rfl, rfl, hP, hB, hD0, hE⟩ := hv
  have hr := B.returns
  have hlocks := B.notSynchronized
  have hts := atoms_spec (ws := Cond.code yX4_emit cX4_emit 3 none :: wK) B.pre
  have hD := hD0.self (sz := s.heap.size)
  have hA : ∀ q : Nat, s.heap.size ≤ q → va_A (cW G Q D T u) s.heap.size q := fun q h => Or.inr h
  generalize va_A (cW G Q D T u) s.heap.size = A at hD hA hE ⊢
  have hC : cX p c cX4_emit 3 s m _ RX4 G Z A := ⟨B.exec, B.bytes, hml, findClass_of_methodNamed B.named, fun w h => hts w (List.mem_cons_of_mem _ h), hB, hE, hA⟩
  have hx := hC.1
  have hb := hC.2.1
  have hH : cH G Q D T A u s s.heap [] := ⟨hP, hD, va_S.rf⟩
  have hl := lv_entry ([.ref (Q 10), .int a0, .int a1]) (n := 3) (Nat.le_of_ble_eq_true rfl)
  rw [lg_entry_eq]
  generalize (lg_sl ([.ref (Q 10), .int a0, .int a1]) ++ List.replicate (3 - (lg_sl ([.ref (Q 10), .int a0, .int a1])).length) Slot.unset).toArray = ls at hl ⊢
  have hl : lv_has ls 3 [(0, .ref (Q 10)), (1, .int a0), (2, .int a1)] := hl
  unfold x_X4_emit at hF
  refine lv_aload_n hx hb dX4_emit_0 rfl (lv_at hl 0 rfl) ?_
  refine cg_X4_14 hC hH dX4_emit_1 ?_
  refine lv_aload_n hx hb dX4_emit_4 rfl (lv_at hl 0 rfl) ?_
  refine cg_X4_40 hC hH dX4_emit_5 ?_
  obtain ⟨x_1, u_2, h_3, hF⟩ := ncl_some hF
  obtain ⟨e_4, rfl⟩ := nRF_eq h_3
  refine gx_ti e_4 ?_
  refine lv_iload_n hx hb dX4_emit_8 rfl (lv_at hl 1 rfl) ?_
  refine lv_sipush (v := 10000) hx hb dX4_emit_9 (by decide) ?_
  refine lv_imul hx hb dX4_emit_12 ?_
  refine lv_iload_n hx hb dX4_emit_13 rfl (lv_at hl 2 rfl) ?_
  refine lv_iadd hx hb dX4_emit_14 ?_
  obtain ⟨y_8, u_5, h_7, hF⟩ := ncl_some hF
  have e_6 := nST_eq h_7
  refine rs_7 hC hH e_6 wka169 ⟨Nat.le_of_ble_eq_true rfl, Nat.le_of_ble_eq_true rfl⟩ hl.1 (Nat.le_of_ble_eq_true rfl) ⟨Nat.zero_le _, Nat.zero_le _⟩ dX4_emit_15 (fun H locs hH => ?_)
  refine lv_aload_n hx hb dX4_emit_18 rfl (lv_at hl 0 rfl) ?_
  refine lv_dup hx hb dX4_emit_19 rfl ?_
  refine cg_X4_40 hC hH dX4_emit_20 ?_
  obtain ⟨x_9, u_10, h_11, hF⟩ := ncl_some hF
  obtain ⟨e_12, rfl⟩ := nRF_eq h_11
  refine gx_ti e_12 ?_
  refine lv_iconst (v := 1) hx hb dX4_emit_23 (by decide) ?_
  refine lv_iadd hx hb dX4_emit_24 ?_
  obtain ⟨y_16, u_13, h_15, hF⟩ := ncl_some hF
  have e_14 := nWF_eq h_15
  refine cp_X4_40 hC hH e_14 dX4_emit_25 (fun H locs hH => ?_)
  exact cr_v hC hH hr (nrt_eq hF) dX4_emit_28 hlocks
def x_X4_endLine : NG Int32 := ncl (nRF 23) (fun x_1 => ncl (nRF 25) (fun x_5 => ncl (nST 9 20 x_1 x_5) (fun _ => ncl (nRF 23) (fun x_13 => ncl (nWF 23 (x_13 + 1)) (fun _ => nrt 0)))))
set_option maxHeartbeats 4000000 in
set_option maxRecDepth 100000 in
theorem n_X4_endLine (l : Launch) (G : gG) (Z : gC) (Q : Nat → Nat) (D : Nat × Nat) (T : va_W) (u u1 : MS) (r : Int32) (sz : Nat) (hF : x_X4_endLine u = some (r, u1)) : Met l yX4_endLine (Cond.code yX4_endLine cX4_endLine 1 none :: wK) { frames := 1, cells := 0, slots := 0, locals := 22 } (va_Pc [.ref (Q 10)] (cPM G Z Q D T u sz)) (cQv G Q T u1 (va_A (cW G Q D T u) sz)) 0 0 (va_A (cW G Q D T u) sz) := by
  refine Met.ofW (cc := cX4_endLine) (maxL := 1) (ret := none) (by decide) rfl ?_
  intro p e s m args below meth c s₁ B hml hv
  obtain ⟨rfl, rfl, hP, hB, hD0, hE⟩ := hv
  have hr := B.returns
  have hlocks := B.notSynchronized
  have hts := atoms_spec (ws := Cond.code yX4_endLine cX4_endLine 1 none :: wK) B.pre
  have hD := hD0.self (sz := s.heap.size)
  have hA : ∀ q : Nat, s.heap.size ≤ q → va_A (cW G Q D T u) s.heap.size q := fun q h => Or.inr h
  generalize va_A (cW G Q D T u) s.heap.size = A at hD hA hE ⊢
  have hC : cX p c cX4_endLine 1 s m _ RX4 G Z A := ⟨B.exec, B.bytes, hml, findClass_of_methodNamed B.named, fun w h => hts w (List.mem_cons_of_mem _ h), hB, hE, hA⟩
  have hx := hC.1
  have hb := hC.2.1
  have hH : cH G Q D T A u s s.heap [] := ⟨hP, hD, va_S.rf⟩
  have hl := lv_entry ([.ref (Q 10)]) (n := 1) (Nat.le_of_ble_eq_true rfl)
  rw [lg_entry_eq]
  generalize (lg_sl ([.ref (Q 10)]) ++ List.replicate (1 - (lg_sl ([.ref (Q 10)])).length) Slot.unset).toArray = ls at hl ⊢
  have hl : lv_has ls 1 [(0, .ref (Q 10))] := hl
  unfold x_X4_endLine at hF
  refine lv_aload_n hx hb dX4_endLine_0 rfl (lv_at hl 0 rfl) ?_
  refine cg_X4_18 hC hH dX4_endLine_1 ?_
  refine lv_aload_n hx hb dX4_endLine_4 rfl (lv_at hl 0 rfl) ?_
  refine cg_X4_34 hC hH dX4_endLine_5 ?_
  obtain ⟨x_1, u_2, h_3, hF⟩ := ncl_some hF
  obtain ⟨e_4, rfl⟩ := nRF_eq h_3
  refine gx_ti e_4 ?_
  refine lv_aload_n hx hb dX4_endLine_8 rfl (lv_at hl 0 rfl) ?_
  refine cg_X4_40 hC hH dX4_endLine_9 ?_
  obtain ⟨x_5, u_6, h_7, hF⟩ := ncl_some hF
  obtain ⟨e_8, rfl⟩ := nRF_eq h_7
  refine gx_ti e_8 ?_
  obtain ⟨y_12, u_9, h_11, hF⟩ := ncl_some hF
  have e_10 := nST_eq h_11
  refine rs_8 hC hH e_10 wka169 ⟨Nat.le_of_ble_eq_true rfl, Nat.le_of_ble_eq_true rfl⟩ hl.1 (Nat.le_of_ble_eq_true rfl) ⟨Nat.zero_le _, Nat.zero_le _⟩ dX4_endLine_12 (fun H locs hH => ?_)
  refine lv_aload_n hx hb dX4_endLine_15 rfl (lv_at hl 0 rfl) ?_
  refine lv_dup hx hb dX4_endLine_16 rfl ?_
  refine cg_X4_34 hC hH dX4_endLine_17 ?_
  obtain ⟨x_13, u_14, h_15, hF⟩ := ncl_some hF
  obtain ⟨e_16, rfl⟩ := nRF_eq h_15
  refine gx_ti e_16 ?_
  refine lv_iconst (v := 1) hx hb dX4_endLine_20 (by decide) ?_
  refine lv_iadd hx hb dX4_endLine_21 ?_
  obtain ⟨y_20, u_17, h_19, hF⟩ := ncl_some hF
  have e_18 := nWF_eq h_19
  refine cp_X4_34 hC hH e_18 dX4_endLine_22 (fun H locs hH => ?_)
  exact cr_v hC hH hr (nrt_eq hF) dX4_endLine_25 hlocks
def x_X10_rewind : NG Int32 := ncl (nWF 3 0) (fun _ => nrt 0)
set_option maxHeartbeats 4000000 in
set_option maxRecDepth 100000 in
theorem n_X10_rewind (l : Launch) (G : gG) (Z : gC) (Q : Nat → Nat) (D : Nat × Nat) (T : va_W) (u u1 : MS) (r : Int32) (sz : Nat) (hF : x_X10_rewind u = some (r, u1)) : Met l yX10_rewind (Cond.code yX10_rewind cX10_rewind 1 none :: wK) { frames := 0, cells := 0, slots := 0, locals := 0 } (va_Pc [.ref (Q 2)] (cPM G Z Q D T u sz)) (cQv G Q T u1 (va_A (cW G Q D T u) sz)) 0 0 (va_A (cW G Q D T u) sz) := by
  refine Met.ofW (cc := cX10_rewind) (maxL := 1) (ret := none) (by decide) rfl ?_
  intro p e s m args below meth c s₁ B hml hv
  obtain ⟨rfl, rfl, hP, hB, hD0, hE⟩ := hv
  have hr := B.returns
  have hlocks := B.notSynchronized
  have hts := atoms_spec (ws := Cond.code yX10_rewind cX10_rewind 1 none :: wK) B.pre
  have hD := hD0.self (sz := s.heap.size)
  have hA : ∀ q : Nat, s.heap.size ≤ q → va_A (cW G Q D T u) s.heap.size q := fun q h => Or.inr h
  generalize va_A (cW G Q D T u) s.heap.size = A at hD hA hE ⊢
  have hC : cX p c cX10_rewind 1 s m _ RX10 G Z A := ⟨B.exec, B.bytes, hml, findClass_of_methodNamed B.named, fun w h => hts w (List.mem_cons_of_mem _ h), hB, hE, hA⟩
  have hx := hC.1
  have hb := hC.2.1
  have hH : cH G Q D T A u s s.heap [] := ⟨hP, hD, va_S.rf⟩
  have hl := lv_entry ([.ref (Q 2)]) (n := 1) (Nat.le_of_ble_eq_true rfl)
  rw [lg_entry_eq]
  generalize (lg_sl ([.ref (Q 2)]) ++ List.replicate (1 - (lg_sl ([.ref (Q 2)])).length) Slot.unset).toArray = ls at hl ⊢
  have hl : lv_has ls 1 [(0, .ref (Q 2))] := hl
  unfold x_X10_rewind at hF
  refine lv_aload_n hx hb dX10_rewind_0 rfl (lv_at hl 0 rfl) ?_
  refine lv_iconst (v := 0) hx hb dX10_rewind_1 (by decide) ?_
  obtain ⟨y_4, u_1, h_3, hF⟩ := ncl_some hF
  have e_2 := nWF_eq h_3
  refine cp_X10_25 hC hH e_2 dX10_rewind_2 (fun H locs hH => ?_)
  exact cr_v hC hH hr (nrt_eq hF) dX10_rewind_5 hlocks
def x_X10_isBlank (a0 : Int32) : NG Int32 := (if a0 = 32 then nrt 1 else (if a0 = 10 then nrt 1 else nrt 0))
set_option maxHeartbeats 4000000 in
set_option maxRecDepth 100000 in
theorem n_X10_isBlank (l : Launch) (G : gG) (Z : gC) (Q : Nat → Nat) (D : Nat × Nat) (T : va_W) (u u1 : MS) (r : Int32) (a0 : Int32) (sz : Nat) (hF : x_X10_isBlank a0 u = some (r, u1)) : Met l yX10_isBlank (Cond.code yX10_isBlank cX10_isBlank 1 (some .boolean) :: wK) { frames := 0, cells := 0, slots := 0, locals := 0 } (va_Pc [.int a0] (cPM G Z Q D T u sz)) (cQi G Q T u1 r (va_A (cW G Q D T u) sz)) 0 0 (va_A (cW G Q D T u) sz) := by
  refine Met.ofW (cc := cX10_isBlank) (maxL := 1) (ret := (some .boolean)) (by decide) rfl ?_
  intro p e s m args below meth c s₁ B hml hv
  obtain ⟨rfl, rfl, hP, hB, hD0, hE⟩ := hv
  have hr := B.returns
  have hlocks := B.notSynchronized
  have hts := atoms_spec (ws := Cond.code yX10_isBlank cX10_isBlank 1 (some .boolean) :: wK) B.pre
  have hD := hD0.self (sz := s.heap.size)
  have hA : ∀ q : Nat, s.heap.size ≤ q → va_A (cW G Q D T u) s.heap.size q := fun q h => Or.inr h
  generalize va_A (cW G Q D T u) s.heap.size = A at hD hA hE ⊢
  have hC : cX p c cX10_isBlank 1 s m _ RX10 G Z A := ⟨B.exec, B.bytes, hml, findClass_of_methodNamed B.named, fun w h => hts w (List.mem_cons_of_mem _ h), hB, hE, hA⟩
  have hx := hC.1
  have hb := hC.2.1
  have hH : cH G Q D T A u s s.heap [] := ⟨hP, hD, va_S.rf⟩
  have hl := lv_entry ([.int a0]) (n := 1) (Nat.le_of_ble_eq_true rfl)
  rw [lg_entry_eq]
  generalize (lg_sl ([.int a0]) ++ List.replicate (1 - (lg_sl ([.int a0])).length) Slot.unset).toArray = ls at hl ⊢
  have hl : lv_has ls 1 [(0, .int a0)] := hl
  unfold x_X10_isBlank at hF
  refine lv_iload_n hx hb dX10_isBlank_0 rfl (lv_at hl 0 rfl) ?_
  refine lv_bipush (v := 32) hx hb dX10_isBlank_1 (by decide) ?_
  refine lv_icmp_eq (tgt := 12) hx hb dX10_isBlank_3 (by decide) (fun c_1 => ?_) (fun c_1 => ?_)
  · rw [if_pos c_1] at hF
    refine lv_iconst (v := 1) hx hb dX10_isBlank_12 (by decide) ?_
    refine lv_goto (tgt := 17) hx hb dX10_isBlank_13 (by decide) ?_
    exact cr_z hC hH hr rfl (nrt_eq hF) dX10_isBlank_17 hlocks
  · rw [if_neg c_1] at hF
    refine lv_iload_n hx hb dX10_isBlank_6 rfl (lv_at hl 0 rfl) ?_
    refine lv_bipush (v := 10) hx hb dX10_isBlank_7 (by decide) ?_
    refine lv_icmp_ne (tgt := 16) hx hb dX10_isBlank_9 (by decide) (fun c_2 => ?_) (fun c_2 => ?_)
    · rw [if_neg c_2] at hF
      refine lv_iconst (v := 0) hx hb dX10_isBlank_16 (by decide) ?_
      exact cr_z hC hH hr rfl (nrt_eq hF) dX10_isBlank_17 hlocks
    · rw [if_pos c_2] at hF
      refine lv_iconst (v := 1) hx hb dX10_isBlank_12 (by decide) ?_
      refine lv_goto (tgt := 17) hx hb dX10_isBlank_13 (by decide) ?_
      exact cr_z hC hH hr rfl (nrt_eq hF) dX10_isBlank_17 hlocks
def x_X10_isLetter (a0 : Int32) : NG Int32 := (if a0 < 97 then nrt 0 else (if 122 < a0 then nrt 0 else nrt 1))
set_option maxHeartbeats 4000000 in
set_option maxRecDepth 100000 in
theorem n_X10_isLetter (l : Launch) (G : gG) (Z : gC) (Q : Nat → Nat) (D : Nat × Nat) (T : va_W) (u u1 : MS) (r : Int32) (a0 : Int32) (sz : Nat) (hF : x_X10_isLetter a0 u = some (r, u1)) : Met l yX10_isLetter (Cond.code yX10_isLetter cX10_isLetter 1 (some .boolean) :: wK) { frames := 0, cells := 0, slots := 0, locals := 0 } (va_Pc [.int a0] (cPM G Z Q D T u sz)) (cQi G Q T u1 r (va_A (cW G Q D T u) sz)) 0 0 (va_A (cW G Q D T u) sz) := by
  refine Met.ofW (cc := cX10_isLetter) (maxL := 1) (ret := (some .boolean)) (by decide) rfl ?_
  intro p e s m args below meth c s₁ B hml hv
  obtain ⟨rfl, rfl, hP, hB, hD0, hE⟩ := hv
  have hr := B.returns
  have hlocks := B.notSynchronized
  have hts := atoms_spec (ws := Cond.code yX10_isLetter cX10_isLetter 1 (some .boolean) :: wK) B.pre
  have hD := hD0.self (sz := s.heap.size)
  have hA : ∀ q : Nat, s.heap.size ≤ q → va_A (cW G Q D T u) s.heap.size q := fun q h => Or.inr h
  generalize va_A (cW G Q D T u) s.heap.size = A at hD hA hE ⊢
  have hC : cX p c cX10_isLetter 1 s m _ RX10 G Z A := ⟨B.exec, B.bytes, hml, findClass_of_methodNamed B.named, fun w h => hts w (List.mem_cons_of_mem _ h), hB, hE, hA⟩
  have hx := hC.1
  have hb := hC.2.1
  have hH : cH G Q D T A u s s.heap [] := ⟨hP, hD, va_S.rf⟩
  have hl := lv_entry ([.int a0]) (n := 1) (Nat.le_of_ble_eq_true rfl)
  rw [lg_entry_eq]
  generalize (lg_sl ([.int a0]) ++ List.replicate (1 - (lg_sl ([.int a0])).length) Slot.unset).toArray = ls at hl ⊢
  have hl : lv_has ls 1 [(0, .int a0)] := hl
  unfold x_X10_isLetter at hF
  refine lv_iload_n hx hb dX10_isLetter_0 rfl (lv_at hl 0 rfl) ?_
  refine lv_bipush (v := 97) hx hb dX10_isLetter_1 (by decide) ?_
  refine lv_icmp_lt (tgt := 16) hx hb dX10_isLetter_3 (by decide) (fun c_1 => ?_) (fun c_1 => ?_)
  · rw [if_pos c_1] at hF
    refine lv_iconst (v := 0) hx hb dX10_isLetter_16 (by decide) ?_
    exact cr_z hC hH hr rfl (nrt_eq hF) dX10_isLetter_17 hlocks
  · rw [if_neg c_1] at hF
    refine lv_iload_n hx hb dX10_isLetter_6 rfl (lv_at hl 0 rfl) ?_
    refine lv_bipush (v := 122) hx hb dX10_isLetter_7 (by decide) ?_
    refine lv_icmp_gt (tgt := 16) hx hb dX10_isLetter_9 (by decide) (fun c_2 => ?_) (fun c_2 => ?_)
    · rw [if_pos c_2] at hF
      refine lv_iconst (v := 0) hx hb dX10_isLetter_16 (by decide) ?_
      exact cr_z hC hH hr rfl (nrt_eq hF) dX10_isLetter_17 hlocks
    · rw [if_neg c_2] at hF
      refine lv_iconst (v := 1) hx hb dX10_isLetter_12 (by decide) ?_
      refine lv_goto (tgt := 17) hx hb dX10_isLetter_13 (by decide) ?_
      exact cr_z hC hH hr rfl (nrt_eq hF) dX10_isLetter_17 hlocks
def x_X10_isDigit (a0 : Int32) : NG Int32 := (if a0 < 48 then nrt 0 else (if 57 < a0 then nrt 0 else nrt 1))
set_option maxHeartbeats 4000000 in
set_option maxRecDepth 100000 in
theorem n_X10_isDigit (l : Launch) (G : gG) (Z : gC) (Q : Nat → Nat) (D : Nat × Nat) (T : va_W) (u u1 : MS) (r : Int32) (a0 : Int32) (sz : Nat) (hF : x_X10_isDigit a0 u = some (r, u1)) : Met l yX10_isDigit (Cond.code yX10_isDigit cX10_isDigit 1 (some .boolean) :: wK) { frames := 0, cells := 0, slots := 0, locals := 0 } (va_Pc [.int a0] (cPM G Z Q D T u sz)) (cQi G Q T u1 r (va_A (cW G Q D T u) sz)) 0 0 (va_A (cW G Q D T u) sz) := by
  refine Met.ofW (cc := cX10_isDigit) (maxL := 1) (ret := (some .boolean)) (by decide) rfl ?_
  intro p e s m args below meth c s₁ B hml hv
  obtain ⟨rfl, rfl, hP, hB, hD0, hE⟩ := hv
  have hr := B.returns
  have hlocks := B.notSynchronized
  have hts := atoms_spec (ws := Cond.code yX10_isDigit cX10_isDigit 1 (some .boolean) :: wK) B.pre
  have hD := hD0.self (sz := s.heap.size)
  have hA : ∀ q : Nat, s.heap.size ≤ q → va_A (cW G Q D T u) s.heap.size q := fun q h => Or.inr h
  generalize va_A (cW G Q D T u) s.heap.size = A at hD hA hE ⊢
  have hC : cX p c cX10_isDigit 1 s m _ RX10 G Z A := ⟨B.exec, B.bytes, hml, findClass_of_methodNamed B.named, fun w h => hts w (List.mem_cons_of_mem _ h), hB, hE, hA⟩
  have hx := hC.1
  have hb := hC.2.1
  have hH : cH G Q D T A u s s.heap [] := ⟨hP, hD, va_S.rf⟩
  have hl := lv_entry ([.int a0]) (n := 1) (Nat.le_of_ble_eq_true rfl)
  rw [lg_entry_eq]
  generalize (lg_sl ([.int a0]) ++ List.replicate (1 - (lg_sl ([.int a0])).length) Slot.unset).toArray = ls at hl ⊢
  have hl : lv_has ls 1 [(0, .int a0)] := hl
  unfold x_X10_isDigit at hF
  refine lv_iload_n hx hb dX10_isDigit_0 rfl (lv_at hl 0 rfl) ?_
  refine lv_bipush (v := 48) hx hb dX10_isDigit_1 (by decide) ?_
  refine lv_icmp_lt (tgt := 16) hx hb dX10_isDigit_3 (by decide) (fun c_1 => ?_) (fun c_1 => ?_)
  · rw [if_pos c_1] at hF
    refine lv_iconst (v := 0) hx hb dX10_isDigit_16 (by decide) ?_
    exact cr_z hC hH hr rfl (nrt_eq hF) dX10_isDigit_17 hlocks
  · rw [if_neg c_1] at hF
    refine lv_iload_n hx hb dX10_isDigit_6 rfl (lv_at hl 0 rfl) ?_
    refine lv_bipush (v := 57) hx hb dX10_isDigit_7 (by decide) ?_
    refine lv_icmp_gt (tgt := 16) hx hb dX10_isDigit_9 (by decide) (fun c_2 => ?_) (fun c_2 => ?_)
    · rw [if_pos c_2] at hF
      refine lv_iconst (v := 0) hx hb dX10_isDigit_16 (by decide) ?_
      exact cr_z hC hH hr rfl (nrt_eq hF) dX10_isDigit_17 hlocks
    · rw [if_neg c_2] at hF
      refine lv_iconst (v := 1) hx hb dX10_isDigit_12 (by decide) ?_
      refine lv_goto (tgt := 17) hx hb dX10_isDigit_13 (by decide) ?_
      exact cr_z hC hH hr rfl (nrt_eq hF) dX10_isDigit_17 hlocks
def x_X10_takeEqual : NG Int32 := ncl (nRF 3) (fun x_1 => ncl (nRF 2) (fun x_5 => (if x_5 ≤ x_1 then (if (0 : Int32) = 0 then nrt 0 else ncl (nRF 3) (fun x_11 => ncl (nWF 3 (x_11 + 1)) (fun _ => nrt 0))) else ncl (nRF 3) (fun x_19 => ncl (nGT 4 3000 x_19) (fun x_23 => (if x_23 = 61 then (if (1 : Int32) = 0 then nrt 1 else ncl (nRF 3) (fun x_38 => ncl (nWF 3 (x_38 + 1)) (fun _ => nrt 1))) else (if (0 : Int32) = 0 then nrt 0 else ncl (nRF 3) (fun x_29 => ncl (nWF 3 (x_29 + 1)) (fun _ => nrt 0)))))))))
set_option maxHeartbeats 4000000 in
set_option maxRecDepth 100000 in
theorem n_X10_takeEqual (l : Launch) (G : gG) (Z : gC) (Q : Nat → Nat) (D : Nat × Nat) (T : va_W) (u u1 : MS) (r : Int32) (sz : Nat) (hF : x_X10_takeEqual u = some (r, u1)) : Met l yX10_takeEqual (Cond.code yX10_takeEqual cX10_takeEqual 2 (some .boolean) :: wK) { frames := 1, cells := 0, slots := 0, locals := 22 } (va_Pc [.ref (Q 2)] (cPM G Z Q D T u sz)) (cQi G Q T u1 r (va_A (cW G Q D T u) sz)) 0 0 (va_A (cW G Q D T u) sz) := by
  refine Met.ofW (cc := cX10_takeEqual) (maxL := 2) (ret := (some .boolean)) (by decide) rfl ?_
  intro p e s m args below meth c s₁ B hml hv
  obtain ⟨rfl, rfl, hP, hB, hD0, hE⟩ := hv
  have hr := B.returns
  have hlocks := B.notSynchronized
  have hts := atoms_spec (ws := Cond.code yX10_takeEqual cX10_takeEqual 2 (some .boolean) :: wK) B.pre
  have hD := hD0.self (sz := s.heap.size)
  have hA : ∀ q : Nat, s.heap.size ≤ q → va_A (cW G Q D T u) s.heap.size q := fun q h => Or.inr h
  generalize va_A (cW G Q D T u) s.heap.size = A at hD hA hE ⊢
  have hC : cX p c cX10_takeEqual 2 s m _ RX10 G Z A := ⟨B.exec, B.bytes, hml, findClass_of_methodNamed B.named, fun w h => hts w (List.mem_cons_of_mem _ h), hB, hE, hA⟩
  have hx := hC.1
  have hb := hC.2.1
  have hH : cH G Q D T A u s s.heap [] := ⟨hP, hD, va_S.rf⟩
  have hl := lv_entry ([.ref (Q 2)]) (n := 2) (Nat.le_of_ble_eq_true rfl)
  rw [lg_entry_eq]
  generalize (lg_sl ([.ref (Q 2)]) ++ List.replicate (2 - (lg_sl ([.ref (Q 2)])).length) Slot.unset).toArray = ls at hl ⊢
  have hl : lv_has ls 2 [(0, .ref (Q 2))] := hl
  unfold x_X10_takeEqual at hF
  refine lv_aload_n hx hb dX10_takeEqual_0 rfl (lv_at hl 0 rfl) ?_
  refine cg_X10_25 hC hH dX10_takeEqual_1 ?_
  obtain ⟨x_1, u_2, h_3, hF⟩ := ncl_some hF
  obtain ⟨e_4, rfl⟩ := nRF_eq h_3
  refine gx_ti e_4 ?_
  refine lv_aload_n hx hb dX10_takeEqual_4 rfl (lv_at hl 0 rfl) ?_
  refine cg_X10_18 hC hH dX10_takeEqual_5 ?_
  obtain ⟨x_5, u_6, h_7, hF⟩ := ncl_some hF
  obtain ⟨e_8, rfl⟩ := nRF_eq h_7
  refine gx_ti e_8 ?_
  refine lv_icmp_ge (tgt := 31) hx hb dX10_takeEqual_8 (by decide) (fun c_9 => ?_) (fun c_9 => ?_)
  · rw [if_pos c_9] at hF
    refine lv_iconst (v := 0) hx hb dX10_takeEqual_31 (by decide) ?_
    refine lv_istore_n (lv' := [(1, .int 0), (0, .ref (Q 2))]) hx hb dX10_takeEqual_32 rfl hl (by decide) rfl (fun ls hl => ?_)
    refine lv_iload_n hx hb dX10_takeEqual_33 rfl (lv_at hl 0 rfl) ?_
    refine lv_if_eq (tgt := 47) hx hb dX10_takeEqual_34 (by decide) (fun c_10 => ?_) (fun c_10 => ?_)
    · rw [if_pos c_10] at hF
      refine lv_iload_n hx hb dX10_takeEqual_47 rfl (lv_at hl 0 rfl) ?_
      exact cr_z hC hH hr rfl (nrt_eq hF) dX10_takeEqual_48 hlocks
    · rw [if_neg c_10] at hF
      refine lv_aload_n hx hb dX10_takeEqual_37 rfl (lv_at hl 1 rfl) ?_
      refine lv_dup hx hb dX10_takeEqual_38 rfl ?_
      refine cg_X10_25 hC hH dX10_takeEqual_39 ?_
      obtain ⟨x_11, u_12, h_13, hF⟩ := ncl_some hF
      obtain ⟨e_14, rfl⟩ := nRF_eq h_13
      refine gx_ti e_14 ?_
      refine lv_iconst (v := 1) hx hb dX10_takeEqual_42 (by decide) ?_
      refine lv_iadd hx hb dX10_takeEqual_43 ?_
      obtain ⟨y_18, u_15, h_17, hF⟩ := ncl_some hF
      have e_16 := nWF_eq h_17
      refine cp_X10_25 hC hH e_16 dX10_takeEqual_44 (fun H locs hH => ?_)
      refine lv_iload_n hx hb dX10_takeEqual_47 rfl (lv_at hl 0 rfl) ?_
      exact cr_z hC hH hr rfl (nrt_eq hF) dX10_takeEqual_48 hlocks
  · rw [if_neg c_9] at hF
    refine lv_aload_n hx hb dX10_takeEqual_11 rfl (lv_at hl 0 rfl) ?_
    refine cg_X10_14 hC hH dX10_takeEqual_12 ?_
    refine lv_aload_n hx hb dX10_takeEqual_15 rfl (lv_at hl 0 rfl) ?_
    refine cg_X10_25 hC hH dX10_takeEqual_16 ?_
    obtain ⟨x_19, u_20, h_21, hF⟩ := ncl_some hF
    obtain ⟨e_22, rfl⟩ := nRF_eq h_21
    refine gx_ti e_22 ?_
    refine rg_3 hC hH wka150 ⟨Nat.le_of_ble_eq_true rfl, Nat.le_of_ble_eq_true rfl⟩ hl.1 (Nat.le_of_ble_eq_true rfl) ⟨Nat.zero_le _, Nat.zero_le _⟩ dX10_takeEqual_19 ?_
    obtain ⟨x_23, u_24, h_25, hF⟩ := ncl_some hF
    obtain ⟨e_26, rfl⟩ := nGT_eq h_25
    refine gx_ti e_26 ?_
    refine lv_bipush (v := 61) hx hb dX10_takeEqual_22 (by decide) ?_
    refine lv_icmp_ne (tgt := 31) hx hb dX10_takeEqual_24 (by decide) (fun c_27 => ?_) (fun c_27 => ?_)
    · rw [if_neg c_27] at hF
      refine lv_iconst (v := 0) hx hb dX10_takeEqual_31 (by decide) ?_
      refine lv_istore_n (lv' := [(1, .int 0), (0, .ref (Q 2))]) hx hb dX10_takeEqual_32 rfl hl (by decide) rfl (fun ls hl => ?_)
      refine lv_iload_n hx hb dX10_takeEqual_33 rfl (lv_at hl 0 rfl) ?_
      refine lv_if_eq (tgt := 47) hx hb dX10_takeEqual_34 (by decide) (fun c_28 => ?_) (fun c_28 => ?_)
      · rw [if_pos c_28] at hF
        refine lv_iload_n hx hb dX10_takeEqual_47 rfl (lv_at hl 0 rfl) ?_
        exact cr_z hC hH hr rfl (nrt_eq hF) dX10_takeEqual_48 hlocks
      · rw [if_neg c_28] at hF
        refine lv_aload_n hx hb dX10_takeEqual_37 rfl (lv_at hl 1 rfl) ?_
        refine lv_dup hx hb dX10_takeEqual_38 rfl ?_
        refine cg_X10_25 hC hH dX10_takeEqual_39 ?_
        obtain ⟨x_29, u_30, h_31, hF⟩ := ncl_some hF
        obtain ⟨e_32, rfl⟩ := nRF_eq h_31
        refine gx_ti e_32 ?_
        refine lv_iconst (v := 1) hx hb dX10_takeEqual_42 (by decide) ?_
        refine lv_iadd hx hb dX10_takeEqual_43 ?_
        obtain ⟨y_36, u_33, h_35, hF⟩ := ncl_some hF
        have e_34 := nWF_eq h_35
        refine cp_X10_25 hC hH e_34 dX10_takeEqual_44 (fun H locs hH => ?_)
        refine lv_iload_n hx hb dX10_takeEqual_47 rfl (lv_at hl 0 rfl) ?_
        exact cr_z hC hH hr rfl (nrt_eq hF) dX10_takeEqual_48 hlocks
    · rw [if_pos c_27] at hF
      refine lv_iconst (v := 1) hx hb dX10_takeEqual_27 (by decide) ?_
      refine lv_goto (tgt := 32) hx hb dX10_takeEqual_28 (by decide) ?_
      refine lv_istore_n (lv' := [(1, .int 1), (0, .ref (Q 2))]) hx hb dX10_takeEqual_32 rfl hl (by decide) rfl (fun ls hl => ?_)
      refine lv_iload_n hx hb dX10_takeEqual_33 rfl (lv_at hl 0 rfl) ?_
      refine lv_if_eq (tgt := 47) hx hb dX10_takeEqual_34 (by decide) (fun c_37 => ?_) (fun c_37 => ?_)
      · rw [if_pos c_37] at hF
        refine lv_iload_n hx hb dX10_takeEqual_47 rfl (lv_at hl 0 rfl) ?_
        exact cr_z hC hH hr rfl (nrt_eq hF) dX10_takeEqual_48 hlocks
      · rw [if_neg c_37] at hF
        refine lv_aload_n hx hb dX10_takeEqual_37 rfl (lv_at hl 1 rfl) ?_
        refine lv_dup hx hb dX10_takeEqual_38 rfl ?_
        refine cg_X10_25 hC hH dX10_takeEqual_39 ?_
        obtain ⟨x_38, u_39, h_40, hF⟩ := ncl_some hF
        obtain ⟨e_41, rfl⟩ := nRF_eq h_40
        refine gx_ti e_41 ?_
        refine lv_iconst (v := 1) hx hb dX10_takeEqual_42 (by decide) ?_
        refine lv_iadd hx hb dX10_takeEqual_43 ?_
        obtain ⟨y_45, u_42, h_44, hF⟩ := ncl_some hF
        have e_43 := nWF_eq h_44
        refine cp_X10_25 hC hH e_43 dX10_takeEqual_44 (fun H locs hH => ?_)
        refine lv_iload_n hx hb dX10_takeEqual_47 rfl (lv_at hl 0 rfl) ?_
        exact cr_z hC hH hr rfl (nrt_eq hF) dX10_takeEqual_48 hlocks
def x_X10_markOf (a0 : Int32) : NG Int32 := (if a0 = 33 then ncl (x_X10_takeEqual) (fun r_2 => (if r_2 = 0 then nrt 1 else nrt 27)) else if a0 = 34 then nrt 1 else if a0 = 35 then nrt 1 else if a0 = 36 then nrt 1 else if a0 = 37 then nrt 1 else if a0 = 38 then nrt 1 else if a0 = 39 then nrt 1 else if a0 = 40 then nrt 17 else if a0 = 41 then nrt 18 else if a0 = 42 then nrt 1 else if a0 = 43 then nrt 20 else if a0 = 44 then nrt 1 else if a0 = 45 then nrt 21 else if a0 = 46 then nrt 1 else if a0 = 47 then nrt 1 else if a0 = 48 then nrt 1 else if a0 = 49 then nrt 1 else if a0 = 50 then nrt 1 else if a0 = 51 then nrt 1 else if a0 = 52 then nrt 1 else if a0 = 53 then nrt 1 else if a0 = 54 then nrt 1 else if a0 = 55 then nrt 1 else if a0 = 56 then nrt 1 else if a0 = 57 then nrt 1 else if a0 = 58 then nrt 1 else if a0 = 59 then nrt 19 else if a0 = 60 then ncl (x_X10_takeEqual) (fun r_33 => (if r_33 = 0 then nrt 22 else nrt 23)) else if a0 = 61 then nrt 26 else if a0 = 62 then ncl (x_X10_takeEqual) (fun r_39 => (if r_39 = 0 then nrt 24 else nrt 25)) else nrt 1)
set_option maxHeartbeats 4000000 in
set_option maxRecDepth 100000 in
theorem n_X10_markOf (l : Launch) (G : gG) (Z : gC) (Q : Nat → Nat) (D : Nat × Nat) (T : va_W) (u u1 : MS) (r : Int32) (a0 : Int32) (sz : Nat) (hF : x_X10_markOf a0 u = some (r, u1)) : Met l yX10_markOf (Cond.code yX10_markOf cX10_markOf 2 (some .int) :: wK) { frames := 2, cells := 0, slots := 0, locals := 43 } (va_Pc [.ref (Q 2), .int a0] (cPM G Z Q D T u sz)) (cQi G Q T u1 r (va_A (cW G Q D T u) sz)) 0 0 (va_A (cW G Q D T u) sz) := by
  refine Met.ofW (cc := cX10_markOf) (maxL := 2) (ret := (some .int)) (by decide) rfl ?_
  intro p e s m args below meth c s₁ B hml hv
  obtain ⟨rfl, rfl, hP, hB, hD0, hE⟩ := hv
  have hr := B.returns
  have hlocks := B.notSynchronized
  have hts := atoms_spec (ws := Cond.code yX10_markOf cX10_markOf 2 (some .int) :: wK) B.pre
  have hD := hD0.self (sz := s.heap.size)
  have hA : ∀ q : Nat, s.heap.size ≤ q → va_A (cW G Q D T u) s.heap.size q := fun q h => Or.inr h
  generalize va_A (cW G Q D T u) s.heap.size = A at hD hA hE ⊢
  have hC : cX p c cX10_markOf 2 s m _ RX10 G Z A := ⟨B.exec, B.bytes, hml, findClass_of_methodNamed B.named, fun w h => hts w (List.mem_cons_of_mem _ h), hB, hE, hA⟩
  have hx := hC.1
  have hb := hC.2.1
  have hH : cH G Q D T A u s s.heap [] := ⟨hP, hD, va_S.rf⟩
  have hl := lv_entry ([.ref (Q 2), .int a0]) (n := 2) (Nat.le_of_ble_eq_true rfl)
  rw [lg_entry_eq]
  generalize (lg_sl ([.ref (Q 2), .int a0]) ++ List.replicate (2 - (lg_sl ([.ref (Q 2), .int a0])).length) Slot.unset).toArray = ls at hl ⊢
  have hl : lv_has ls 2 [(0, .ref (Q 2)), (1, .int a0)] := hl
  unfold x_X10_markOf at hF
  refine lv_iload_n hx hb dX10_markOf_0 rfl (lv_at hl 1 rfl) ?_
  by_cases c_1 : a0 = 33
  · rw [if_pos c_1] at hF
    refine gx_ti (y := 33) c_1 ?_
    refine lv_tableIn (off := 183) (tgt := 184) hx hb dX10_markOf_1 (by decide) (by decide) rfl (by decide) ?_
    refine lv_aload_n hx hb dX10_markOf_184 rfl (lv_at hl 0 rfl) ?_
    obtain ⟨r_2, u_3, h_4, hF⟩ := ncl_some hF
    refine ccV_i (q0 := 2) (As := []) (rest := []) hC hH (n_X10_takeEqual l G Z Q _ T u u_3 r_2 _ h_4) rfl rfl ⟨wkc_X10_takeEqual, wka161, wka659, wka660, wka754⟩ kVX10_takeEqual ⟨Nat.le_of_ble_eq_true rfl, Nat.le_of_ble_eq_true rfl⟩ rfl hl.1 rfl (Nat.le_of_ble_eq_true rfl) dX10_markOf_185 (fun D H locs hH => ?_)
    refine lv_if_eq (tgt := 196) hx hb dX10_markOf_188 (by decide) (fun c_5 => ?_) (fun c_5 => ?_)
    · rw [if_pos c_5] at hF
      refine lv_iconst (v := 1) hx hb dX10_markOf_196 (by decide) ?_
      exact cr_i hC hH hr (nrt_eq hF) dX10_markOf_197 hlocks
    · rw [if_neg c_5] at hF
      refine lv_bipush (v := 27) hx hb dX10_markOf_191 (by decide) ?_
      refine lv_goto (tgt := 197) hx hb dX10_markOf_193 (by decide) ?_
      exact cr_i hC hH hr (nrt_eq hF) dX10_markOf_197 hlocks
  rw [if_neg c_1] at hF
  by_cases c_6 : a0 = 34
  · rw [if_pos c_6] at hF
    refine gx_ti (y := 34) c_6 ?_
    refine lv_tableIn (off := 197) (tgt := 198) hx hb dX10_markOf_1 (by decide) (by decide) rfl (by decide) ?_
    refine lv_iconst (v := 1) hx hb dX10_markOf_198 (by decide) ?_
    exact cr_i hC hH hr (nrt_eq hF) dX10_markOf_199 hlocks
  rw [if_neg c_6] at hF
  by_cases c_7 : a0 = 35
  · rw [if_pos c_7] at hF
    refine gx_ti (y := 35) c_7 ?_
    refine lv_tableIn (off := 197) (tgt := 198) hx hb dX10_markOf_1 (by decide) (by decide) rfl (by decide) ?_
    refine lv_iconst (v := 1) hx hb dX10_markOf_198 (by decide) ?_
    exact cr_i hC hH hr (nrt_eq hF) dX10_markOf_199 hlocks
  rw [if_neg c_7] at hF
  by_cases c_8 : a0 = 36
  · rw [if_pos c_8] at hF
    refine gx_ti (y := 36) c_8 ?_
    refine lv_tableIn (off := 197) (tgt := 198) hx hb dX10_markOf_1 (by decide) (by decide) rfl (by decide) ?_
    refine lv_iconst (v := 1) hx hb dX10_markOf_198 (by decide) ?_
    exact cr_i hC hH hr (nrt_eq hF) dX10_markOf_199 hlocks
  rw [if_neg c_8] at hF
  by_cases c_9 : a0 = 37
  · rw [if_pos c_9] at hF
    refine gx_ti (y := 37) c_9 ?_
    refine lv_tableIn (off := 197) (tgt := 198) hx hb dX10_markOf_1 (by decide) (by decide) rfl (by decide) ?_
    refine lv_iconst (v := 1) hx hb dX10_markOf_198 (by decide) ?_
    exact cr_i hC hH hr (nrt_eq hF) dX10_markOf_199 hlocks
  rw [if_neg c_9] at hF
  by_cases c_10 : a0 = 38
  · rw [if_pos c_10] at hF
    refine gx_ti (y := 38) c_10 ?_
    refine lv_tableIn (off := 197) (tgt := 198) hx hb dX10_markOf_1 (by decide) (by decide) rfl (by decide) ?_
    refine lv_iconst (v := 1) hx hb dX10_markOf_198 (by decide) ?_
    exact cr_i hC hH hr (nrt_eq hF) dX10_markOf_199 hlocks
  rw [if_neg c_10] at hF
  by_cases c_11 : a0 = 39
  · rw [if_pos c_11] at hF
    refine gx_ti (y := 39) c_11 ?_
    refine lv_tableIn (off := 197) (tgt := 198) hx hb dX10_markOf_1 (by decide) (by decide) rfl (by decide) ?_
    refine lv_iconst (v := 1) hx hb dX10_markOf_198 (by decide) ?_
    exact cr_i hC hH hr (nrt_eq hF) dX10_markOf_199 hlocks
  rw [if_neg c_11] at hF
  by_cases c_12 : a0 = 40
  · rw [if_pos c_12] at hF
    refine gx_ti (y := 40) c_12 ?_
    refine lv_tableIn (off := 135) (tgt := 136) hx hb dX10_markOf_1 (by decide) (by decide) rfl (by decide) ?_
    refine lv_bipush (v := 17) hx hb dX10_markOf_136 (by decide) ?_
    exact cr_i hC hH hr (nrt_eq hF) dX10_markOf_138 hlocks
  rw [if_neg c_12] at hF
  by_cases c_13 : a0 = 41
  · rw [if_pos c_13] at hF
    refine gx_ti (y := 41) c_13 ?_
    refine lv_tableIn (off := 138) (tgt := 139) hx hb dX10_markOf_1 (by decide) (by decide) rfl (by decide) ?_
    refine lv_bipush (v := 18) hx hb dX10_markOf_139 (by decide) ?_
    exact cr_i hC hH hr (nrt_eq hF) dX10_markOf_141 hlocks
  rw [if_neg c_13] at hF
  by_cases c_14 : a0 = 42
  · rw [if_pos c_14] at hF
    refine gx_ti (y := 42) c_14 ?_
    refine lv_tableIn (off := 197) (tgt := 198) hx hb dX10_markOf_1 (by decide) (by decide) rfl (by decide) ?_
    refine lv_iconst (v := 1) hx hb dX10_markOf_198 (by decide) ?_
    exact cr_i hC hH hr (nrt_eq hF) dX10_markOf_199 hlocks
  rw [if_neg c_14] at hF
  by_cases c_15 : a0 = 43
  · rw [if_pos c_15] at hF
    refine gx_ti (y := 43) c_15 ?_
    refine lv_tableIn (off := 144) (tgt := 145) hx hb dX10_markOf_1 (by decide) (by decide) rfl (by decide) ?_
    refine lv_bipush (v := 20) hx hb dX10_markOf_145 (by decide) ?_
    exact cr_i hC hH hr (nrt_eq hF) dX10_markOf_147 hlocks
  rw [if_neg c_15] at hF
  by_cases c_16 : a0 = 44
  · rw [if_pos c_16] at hF
    refine gx_ti (y := 44) c_16 ?_
    refine lv_tableIn (off := 197) (tgt := 198) hx hb dX10_markOf_1 (by decide) (by decide) rfl (by decide) ?_
    refine lv_iconst (v := 1) hx hb dX10_markOf_198 (by decide) ?_
    exact cr_i hC hH hr (nrt_eq hF) dX10_markOf_199 hlocks
  rw [if_neg c_16] at hF
  by_cases c_17 : a0 = 45
  · rw [if_pos c_17] at hF
    refine gx_ti (y := 45) c_17 ?_
    refine lv_tableIn (off := 147) (tgt := 148) hx hb dX10_markOf_1 (by decide) (by decide) rfl (by decide) ?_
    refine lv_bipush (v := 21) hx hb dX10_markOf_148 (by decide) ?_
    exact cr_i hC hH hr (nrt_eq hF) dX10_markOf_150 hlocks
  rw [if_neg c_17] at hF
  by_cases c_18 : a0 = 46
  · rw [if_pos c_18] at hF
    refine gx_ti (y := 46) c_18 ?_
    refine lv_tableIn (off := 197) (tgt := 198) hx hb dX10_markOf_1 (by decide) (by decide) rfl (by decide) ?_
    refine lv_iconst (v := 1) hx hb dX10_markOf_198 (by decide) ?_
    exact cr_i hC hH hr (nrt_eq hF) dX10_markOf_199 hlocks
  rw [if_neg c_18] at hF
  by_cases c_19 : a0 = 47
  · rw [if_pos c_19] at hF
    refine gx_ti (y := 47) c_19 ?_
    refine lv_tableIn (off := 197) (tgt := 198) hx hb dX10_markOf_1 (by decide) (by decide) rfl (by decide) ?_
    refine lv_iconst (v := 1) hx hb dX10_markOf_198 (by decide) ?_
    exact cr_i hC hH hr (nrt_eq hF) dX10_markOf_199 hlocks
  rw [if_neg c_19] at hF
  by_cases c_20 : a0 = 48
  · rw [if_pos c_20] at hF
    refine gx_ti (y := 48) c_20 ?_
    refine lv_tableIn (off := 197) (tgt := 198) hx hb dX10_markOf_1 (by decide) (by decide) rfl (by decide) ?_
    refine lv_iconst (v := 1) hx hb dX10_markOf_198 (by decide) ?_
    exact cr_i hC hH hr (nrt_eq hF) dX10_markOf_199 hlocks
  rw [if_neg c_20] at hF
  by_cases c_21 : a0 = 49
  · rw [if_pos c_21] at hF
    refine gx_ti (y := 49) c_21 ?_
    refine lv_tableIn (off := 197) (tgt := 198) hx hb dX10_markOf_1 (by decide) (by decide) rfl (by decide) ?_
    refine lv_iconst (v := 1) hx hb dX10_markOf_198 (by decide) ?_
    exact cr_i hC hH hr (nrt_eq hF) dX10_markOf_199 hlocks
  rw [if_neg c_21] at hF
  by_cases c_22 : a0 = 50
  · rw [if_pos c_22] at hF
    refine gx_ti (y := 50) c_22 ?_
    refine lv_tableIn (off := 197) (tgt := 198) hx hb dX10_markOf_1 (by decide) (by decide) rfl (by decide) ?_
    refine lv_iconst (v := 1) hx hb dX10_markOf_198 (by decide) ?_
    exact cr_i hC hH hr (nrt_eq hF) dX10_markOf_199 hlocks
  rw [if_neg c_22] at hF
  by_cases c_23 : a0 = 51
  · rw [if_pos c_23] at hF
    refine gx_ti (y := 51) c_23 ?_
    refine lv_tableIn (off := 197) (tgt := 198) hx hb dX10_markOf_1 (by decide) (by decide) rfl (by decide) ?_
    refine lv_iconst (v := 1) hx hb dX10_markOf_198 (by decide) ?_
    exact cr_i hC hH hr (nrt_eq hF) dX10_markOf_199 hlocks
  rw [if_neg c_23] at hF
  by_cases c_24 : a0 = 52
  · rw [if_pos c_24] at hF
    refine gx_ti (y := 52) c_24 ?_
    refine lv_tableIn (off := 197) (tgt := 198) hx hb dX10_markOf_1 (by decide) (by decide) rfl (by decide) ?_
    refine lv_iconst (v := 1) hx hb dX10_markOf_198 (by decide) ?_
    exact cr_i hC hH hr (nrt_eq hF) dX10_markOf_199 hlocks
  rw [if_neg c_24] at hF
  by_cases c_25 : a0 = 53
  · rw [if_pos c_25] at hF
    refine gx_ti (y := 53) c_25 ?_
    refine lv_tableIn (off := 197) (tgt := 198) hx hb dX10_markOf_1 (by decide) (by decide) rfl (by decide) ?_
    refine lv_iconst (v := 1) hx hb dX10_markOf_198 (by decide) ?_
    exact cr_i hC hH hr (nrt_eq hF) dX10_markOf_199 hlocks
  rw [if_neg c_25] at hF
  by_cases c_26 : a0 = 54
  · rw [if_pos c_26] at hF
    refine gx_ti (y := 54) c_26 ?_
    refine lv_tableIn (off := 197) (tgt := 198) hx hb dX10_markOf_1 (by decide) (by decide) rfl (by decide) ?_
    refine lv_iconst (v := 1) hx hb dX10_markOf_198 (by decide) ?_
    exact cr_i hC hH hr (nrt_eq hF) dX10_markOf_199 hlocks
  rw [if_neg c_26] at hF
  by_cases c_27 : a0 = 55
  · rw [if_pos c_27] at hF
    refine gx_ti (y := 55) c_27 ?_
    refine lv_tableIn (off := 197) (tgt := 198) hx hb dX10_markOf_1 (by decide) (by decide) rfl (by decide) ?_
    refine lv_iconst (v := 1) hx hb dX10_markOf_198 (by decide) ?_
    exact cr_i hC hH hr (nrt_eq hF) dX10_markOf_199 hlocks
  rw [if_neg c_27] at hF
  by_cases c_28 : a0 = 56
  · rw [if_pos c_28] at hF
    refine gx_ti (y := 56) c_28 ?_
    refine lv_tableIn (off := 197) (tgt := 198) hx hb dX10_markOf_1 (by decide) (by decide) rfl (by decide) ?_
    refine lv_iconst (v := 1) hx hb dX10_markOf_198 (by decide) ?_
    exact cr_i hC hH hr (nrt_eq hF) dX10_markOf_199 hlocks
  rw [if_neg c_28] at hF
  by_cases c_29 : a0 = 57
  · rw [if_pos c_29] at hF
    refine gx_ti (y := 57) c_29 ?_
    refine lv_tableIn (off := 197) (tgt := 198) hx hb dX10_markOf_1 (by decide) (by decide) rfl (by decide) ?_
    refine lv_iconst (v := 1) hx hb dX10_markOf_198 (by decide) ?_
    exact cr_i hC hH hr (nrt_eq hF) dX10_markOf_199 hlocks
  rw [if_neg c_29] at hF
  by_cases c_30 : a0 = 58
  · rw [if_pos c_30] at hF
    refine gx_ti (y := 58) c_30 ?_
    refine lv_tableIn (off := 197) (tgt := 198) hx hb dX10_markOf_1 (by decide) (by decide) rfl (by decide) ?_
    refine lv_iconst (v := 1) hx hb dX10_markOf_198 (by decide) ?_
    exact cr_i hC hH hr (nrt_eq hF) dX10_markOf_199 hlocks
  rw [if_neg c_30] at hF
  by_cases c_31 : a0 = 59
  · rw [if_pos c_31] at hF
    refine gx_ti (y := 59) c_31 ?_
    refine lv_tableIn (off := 141) (tgt := 142) hx hb dX10_markOf_1 (by decide) (by decide) rfl (by decide) ?_
    refine lv_bipush (v := 19) hx hb dX10_markOf_142 (by decide) ?_
    exact cr_i hC hH hr (nrt_eq hF) dX10_markOf_144 hlocks
  rw [if_neg c_31] at hF
  by_cases c_32 : a0 = 60
  · rw [if_pos c_32] at hF
    refine gx_ti (y := 60) c_32 ?_
    refine lv_tableIn (off := 153) (tgt := 154) hx hb dX10_markOf_1 (by decide) (by decide) rfl (by decide) ?_
    refine lv_aload_n hx hb dX10_markOf_154 rfl (lv_at hl 0 rfl) ?_
    obtain ⟨r_33, u_34, h_35, hF⟩ := ncl_some hF
    refine ccV_i (q0 := 2) (As := []) (rest := []) hC hH (n_X10_takeEqual l G Z Q _ T u u_34 r_33 _ h_35) rfl rfl ⟨wkc_X10_takeEqual, wka161, wka659, wka660, wka754⟩ kVX10_takeEqual ⟨Nat.le_of_ble_eq_true rfl, Nat.le_of_ble_eq_true rfl⟩ rfl hl.1 rfl (Nat.le_of_ble_eq_true rfl) dX10_markOf_155 (fun D H locs hH => ?_)
    refine lv_if_eq (tgt := 166) hx hb dX10_markOf_158 (by decide) (fun c_36 => ?_) (fun c_36 => ?_)
    · rw [if_pos c_36] at hF
      refine lv_bipush (v := 22) hx hb dX10_markOf_166 (by decide) ?_
      exact cr_i hC hH hr (nrt_eq hF) dX10_markOf_168 hlocks
    · rw [if_neg c_36] at hF
      refine lv_bipush (v := 23) hx hb dX10_markOf_161 (by decide) ?_
      refine lv_goto (tgt := 168) hx hb dX10_markOf_163 (by decide) ?_
      exact cr_i hC hH hr (nrt_eq hF) dX10_markOf_168 hlocks
  rw [if_neg c_32] at hF
  by_cases c_37 : a0 = 61
  · rw [if_pos c_37] at hF
    refine gx_ti (y := 61) c_37 ?_
    refine lv_tableIn (off := 150) (tgt := 151) hx hb dX10_markOf_1 (by decide) (by decide) rfl (by decide) ?_
    refine lv_bipush (v := 26) hx hb dX10_markOf_151 (by decide) ?_
    exact cr_i hC hH hr (nrt_eq hF) dX10_markOf_153 hlocks
  rw [if_neg c_37] at hF
  by_cases c_38 : a0 = 62
  · rw [if_pos c_38] at hF
    refine gx_ti (y := 62) c_38 ?_
    refine lv_tableIn (off := 168) (tgt := 169) hx hb dX10_markOf_1 (by decide) (by decide) rfl (by decide) ?_
    refine lv_aload_n hx hb dX10_markOf_169 rfl (lv_at hl 0 rfl) ?_
    obtain ⟨r_39, u_40, h_41, hF⟩ := ncl_some hF
    refine ccV_i (q0 := 2) (As := []) (rest := []) hC hH (n_X10_takeEqual l G Z Q _ T u u_40 r_39 _ h_41) rfl rfl ⟨wkc_X10_takeEqual, wka161, wka659, wka660, wka754⟩ kVX10_takeEqual ⟨Nat.le_of_ble_eq_true rfl, Nat.le_of_ble_eq_true rfl⟩ rfl hl.1 rfl (Nat.le_of_ble_eq_true rfl) dX10_markOf_170 (fun D H locs hH => ?_)
    refine lv_if_eq (tgt := 181) hx hb dX10_markOf_173 (by decide) (fun c_42 => ?_) (fun c_42 => ?_)
    · rw [if_pos c_42] at hF
      refine lv_bipush (v := 24) hx hb dX10_markOf_181 (by decide) ?_
      exact cr_i hC hH hr (nrt_eq hF) dX10_markOf_183 hlocks
    · rw [if_neg c_42] at hF
      refine lv_bipush (v := 25) hx hb dX10_markOf_176 (by decide) ?_
      refine lv_goto (tgt := 183) hx hb dX10_markOf_178 (by decide) ?_
      exact cr_i hC hH hr (nrt_eq hF) dX10_markOf_183 hlocks
  rw [if_neg c_38] at hF
  refine lv_tableOut (tgt := 198) hx hb dX10_markOf_1 (by have q0 := gl_ne c_1 (a := 33) (by decide); have q1 := gl_ne c_6 (a := 34) (by decide); have q2 := gl_ne c_7 (a := 35) (by decide); have q3 := gl_ne c_8 (a := 36) (by decide); have q4 := gl_ne c_9 (a := 37) (by decide); have q5 := gl_ne c_10 (a := 38) (by decide); have q6 := gl_ne c_11 (a := 39) (by decide); have q7 := gl_ne c_12 (a := 40) (by decide); have q8 := gl_ne c_13 (a := 41) (by decide); have q9 := gl_ne c_14 (a := 42) (by decide); have q10 := gl_ne c_15 (a := 43) (by decide); have q11 := gl_ne c_16 (a := 44) (by decide); have q12 := gl_ne c_17 (a := 45) (by decide); have q13 := gl_ne c_18 (a := 46) (by decide); have q14 := gl_ne c_19 (a := 47) (by decide); have q15 := gl_ne c_20 (a := 48) (by decide); have q16 := gl_ne c_21 (a := 49) (by decide); have q17 := gl_ne c_22 (a := 50) (by decide); have q18 := gl_ne c_23 (a := 51) (by decide); have q19 := gl_ne c_24 (a := 52) (by decide); have q20 := gl_ne c_25 (a := 53) (by decide); have q21 := gl_ne c_26 (a := 54) (by decide); have q22 := gl_ne c_27 (a := 55) (by decide); have q23 := gl_ne c_28 (a := 56) (by decide); have q24 := gl_ne c_29 (a := 57) (by decide); have q25 := gl_ne c_30 (a := 58) (by decide); have q26 := gl_ne c_31 (a := 59) (by decide); have q27 := gl_ne c_32 (a := 60) (by decide); have q28 := gl_ne c_37 (a := 61) (by decide); have q29 := gl_ne c_38 (a := 62) (by decide); omega) (by decide) ?_
  refine lv_iconst (v := 1) hx hb dX10_markOf_198 (by decide) ?_
  exact cr_i hC hH hr (nrt_eq hF) dX10_markOf_199 hlocks
def xl_X10_readNumber_5 : Nat → (NG Int32) → NG Int32
  | 0, _ => fun _ => none
  | n5 + 1, K5_85 => ncl (nRF 3) (fun x_5 => ncl (nRF 2) (fun x_9 => (if x_9 ≤ x_5 then K5_85  else ncl (nRF 3) (fun x_14 => ncl (nGT 4 3000 x_14) (fun x_18 => ncl (x_X10_isDigit x_18) (fun r_22 => (if r_22 = 0 then K5_85  else ncl (nRF 3) (fun x_26 => ncl (nRF 5) (fun x_30 => (if 4 ≤ (x_26 - x_30) then ncl (nRF 3) (fun x_35 => ncl (nWF 3 (x_35 + 1)) (fun _ => xl_X10_readNumber_5 n5  K5_85)) else ncl (nRF 6) (fun x_43 => ncl (nRF 3) (fun x_47 => ncl (nGT 4 3000 x_47) (fun x_51 => ncl (nWF 6 (((10 * x_43) + x_51) - 48)) (fun _ => ncl (nRF 3) (fun x_59 => ncl (nWF 3 (x_59 + 1)) (fun _ => xl_X10_readNumber_5 n5  K5_85))))))))))))))))
def x_X10_readNumber : NG Int32 := ncl (nWF 6 0) (fun _ => xl_X10_readNumber_5 fuel  (ncl (nRF 3) (fun x_67 => ncl (nRF 5) (fun x_71 => (if (x_67 - x_71) ≤ 4 then ncl (nWF 4 3) (fun _ => nrt 0) else ncl (nWF 4 1) (fun _ => nrt 0))))))
set_option maxHeartbeats 4000000 in
set_option maxRecDepth 100000 in
theorem n_X10_readNumber (l : Launch) (G : gG) (Z : gC) (Q : Nat → Nat) (D : Nat × Nat) (T : va_W) (u u1 : MS) (r : Int32) (sz : Nat) (hF : x_X10_readNumber u = some (r, u1)) : Met l yX10_readNumber (Cond.code yX10_readNumber cX10_readNumber 1 none :: wK) { frames := 1, cells := 0, slots := 0, locals := 22 } (va_Pc [.ref (Q 2)] (cPM G Z Q D T u sz)) (cQv G Q T u1 (va_A (cW G Q D T u) sz)) 0 0 (va_A (cW G Q D T u) sz) := by
  refine Met.ofW (cc := cX10_readNumber) (maxL := 1) (ret := none) (by decide) rfl ?_
  intro p e s m args below meth c s₁ B hml hv
  obtain ⟨rfl, rfl, hP, hB, hD0, hE⟩ := hv
  have hr := B.returns
  have hlocks := B.notSynchronized
  have hts := atoms_spec (ws := Cond.code yX10_readNumber cX10_readNumber 1 none :: wK) B.pre
  have hD := hD0.self (sz := s.heap.size)
  have hA : ∀ q : Nat, s.heap.size ≤ q → va_A (cW G Q D T u) s.heap.size q := fun q h => Or.inr h
  generalize va_A (cW G Q D T u) s.heap.size = A at hD hA hE ⊢
  have hC : cX p c cX10_readNumber 1 s m _ RX10 G Z A := ⟨B.exec, B.bytes, hml, findClass_of_methodNamed B.named, fun w h => hts w (List.mem_cons_of_mem _ h), hB, hE, hA⟩
  have hx := hC.1
  have hb := hC.2.1
  have hH : cH G Q D T A u s s.heap [] := ⟨hP, hD, va_S.rf⟩
  have hl := lv_entry ([.ref (Q 2)]) (n := 1) (Nat.le_of_ble_eq_true rfl)
  rw [lg_entry_eq]
  generalize (lg_sl ([.ref (Q 2)]) ++ List.replicate (1 - (lg_sl ([.ref (Q 2)])).length) Slot.unset).toArray = ls at hl ⊢
  have hl : lv_has ls 1 [(0, .ref (Q 2))] := hl
  unfold x_X10_readNumber at hF
  refine lv_aload_n hx hb dX10_readNumber_0 rfl (lv_at hl 0 rfl) ?_
  refine lv_iconst (v := 0) hx hb dX10_readNumber_1 (by decide) ?_
  obtain ⟨y_4, u_1, h_3, hF⟩ := ncl_some hF
  have e_2 := nWF_eq h_3
  refine cp_X10_61 hC hH e_2 dX10_readNumber_2 (fun H locs hH => ?_)
  have hL5 : ∀ (K5_85 : NG Int32), (∀ (u : MS) (D : Nat × Nat) (H : Heap) (locs : List Loc) (ls : Array Slot), lv_has ls 1 [(0, .ref (Q 2))] → cH G Q D T A u s H locs → K5_85  u = some (r, u1) → W p l e (headSpec (Cond.code yX10_readNumber cX10_readNumber 1 none :: wK) { frames := 1, cells := 0, slots := 0, locals := 22 }).room s m [.ref (Q 2)].toArray below meth c H locs 0 0 (MQ below (cQv G Q T u1 A) [.ref (Q 2)].toArray s 0 0 A) (F0 m 85 ls [])) → ∀ (n5 : Nat) (u : MS) (D : Nat × Nat) (H : Heap) (locs : List Loc) (ls : Array Slot), lv_has ls 1 [(0, .ref (Q 2))] → cH G Q D T A u s H locs → xl_X10_readNumber_5 n5  K5_85 u = some (r, u1) → W p l e (headSpec (Cond.code yX10_readNumber cX10_readNumber 1 none :: wK) { frames := 1, cells := 0, slots := 0, locals := 22 }).room s m [.ref (Q 2)].toArray below meth c H locs 0 0 (MQ below (cQv G Q T u1 A) [.ref (Q 2)].toArray s 0 0 A) (F0 m 5 ls []) := by
    intro K5_85 hK5_85 n5
    induction n5 with
    | zero => intro  u D H locs ls hl hH hF; cases hF
    | succ n5 ih5 =>
      intro  u D H locs ls hl hH hF
      unfold xl_X10_readNumber_5 at hF
      refine lv_aload_n hx hb dX10_readNumber_5 rfl (lv_at hl 0 rfl) ?_
      refine cg_X10_25 hC hH dX10_readNumber_6 ?_
      obtain ⟨x_5, u_6, h_7, hF⟩ := ncl_some hF
      obtain ⟨e_8, rfl⟩ := nRF_eq h_7
      refine gx_ti e_8 ?_
      refine lv_aload_n hx hb dX10_readNumber_9 rfl (lv_at hl 0 rfl) ?_
      refine cg_X10_18 hC hH dX10_readNumber_10 ?_
      obtain ⟨x_9, u_10, h_11, hF⟩ := ncl_some hF
      obtain ⟨e_12, rfl⟩ := nRF_eq h_11
      refine gx_ti e_12 ?_
      refine lv_icmp_ge (tgt := 85) hx hb dX10_readNumber_13 (by decide) (fun c_13 => ?_) (fun c_13 => ?_)
      · rw [if_pos c_13] at hF
        exact hK5_85  u _ _ _ _ (lv_sub hl [0] rfl) hH hF
      · rw [if_neg c_13] at hF
        refine lv_aload_n hx hb dX10_readNumber_16 rfl (lv_at hl 0 rfl) ?_
        refine cg_X10_14 hC hH dX10_readNumber_17 ?_
        refine lv_aload_n hx hb dX10_readNumber_20 rfl (lv_at hl 0 rfl) ?_
        refine cg_X10_25 hC hH dX10_readNumber_21 ?_
        obtain ⟨x_14, u_15, h_16, hF⟩ := ncl_some hF
        obtain ⟨e_17, rfl⟩ := nRF_eq h_16
        refine gx_ti e_17 ?_
        refine rg_3 hC hH wka150 ⟨Nat.le_of_ble_eq_true rfl, Nat.le_of_ble_eq_true rfl⟩ hl.1 (Nat.le_of_ble_eq_true rfl) ⟨Nat.zero_le _, Nat.zero_le _⟩ dX10_readNumber_24 ?_
        obtain ⟨x_18, u_19, h_20, hF⟩ := ncl_some hF
        obtain ⟨e_21, rfl⟩ := nGT_eq h_20
        refine gx_ti e_21 ?_
        obtain ⟨r_22, u_23, h_24, hF⟩ := ncl_some hF
        refine ccS_i (As := [.int x_18]) (rest := []) hC hH (n_X10_isDigit l G Z Q _ T u u_23 r_22 x_18 _ h_24) ⟨wkc_X10_isDigit, wka158, wka671, wka754⟩ kSX10_isDigit ⟨Nat.le_of_ble_eq_true rfl, Nat.le_of_ble_eq_true rfl⟩ rfl hl.1 rfl (Nat.le_of_ble_eq_true rfl) dX10_readNumber_27 (fun D H locs hH => ?_)
        refine lv_if_eq (tgt := 85) hx hb dX10_readNumber_30 (by decide) (fun c_25 => ?_) (fun c_25 => ?_)
        · rw [if_pos c_25] at hF
          exact hK5_85  u_23 _ _ _ _ (lv_sub hl [0] rfl) hH hF
        · rw [if_neg c_25] at hF
          refine lv_aload_n hx hb dX10_readNumber_33 rfl (lv_at hl 0 rfl) ?_
          refine cg_X10_25 hC hH dX10_readNumber_34 ?_
          obtain ⟨x_26, u_27, h_28, hF⟩ := ncl_some hF
          obtain ⟨e_29, rfl⟩ := nRF_eq h_28
          refine gx_ti e_29 ?_
          refine lv_aload_n hx hb dX10_readNumber_37 rfl (lv_at hl 0 rfl) ?_
          refine cg_X10_36 hC hH dX10_readNumber_38 ?_
          obtain ⟨x_30, u_31, h_32, hF⟩ := ncl_some hF
          obtain ⟨e_33, rfl⟩ := nRF_eq h_32
          refine gx_ti e_33 ?_
          refine lv_isub hx hb dX10_readNumber_41 ?_
          refine lv_iconst (v := 4) hx hb dX10_readNumber_42 (by decide) ?_
          refine lv_icmp_ge (tgt := 72) hx hb dX10_readNumber_43 (by decide) (fun c_34 => ?_) (fun c_34 => ?_)
          · rw [if_pos c_34] at hF
            refine lv_aload_n hx hb dX10_readNumber_72 rfl (lv_at hl 0 rfl) ?_
            refine lv_dup hx hb dX10_readNumber_73 rfl ?_
            refine cg_X10_25 hC hH dX10_readNumber_74 ?_
            obtain ⟨x_35, u_36, h_37, hF⟩ := ncl_some hF
            obtain ⟨e_38, rfl⟩ := nRF_eq h_37
            refine gx_ti e_38 ?_
            refine lv_iconst (v := 1) hx hb dX10_readNumber_77 (by decide) ?_
            refine lv_iadd hx hb dX10_readNumber_78 ?_
            obtain ⟨y_42, u_39, h_41, hF⟩ := ncl_some hF
            have e_40 := nWF_eq h_41
            refine cp_X10_25 hC hH e_40 dX10_readNumber_79 (fun H locs hH => ?_)
            refine lv_goto (tgt := 5) hx hb dX10_readNumber_82 (by decide) ?_
            exact ih5  u_39 _ _ _ _ (lv_sub hl [0] rfl) hH hF
          · rw [if_neg c_34] at hF
            refine lv_aload_n hx hb dX10_readNumber_46 rfl (lv_at hl 0 rfl) ?_
            refine lv_bipush (v := 10) hx hb dX10_readNumber_47 (by decide) ?_
            refine lv_aload_n hx hb dX10_readNumber_49 rfl (lv_at hl 0 rfl) ?_
            refine cg_X10_61 hC hH dX10_readNumber_50 ?_
            obtain ⟨x_43, u_44, h_45, hF⟩ := ncl_some hF
            obtain ⟨e_46, rfl⟩ := nRF_eq h_45
            refine gx_ti e_46 ?_
            refine lv_imul hx hb dX10_readNumber_53 ?_
            refine lv_aload_n hx hb dX10_readNumber_54 rfl (lv_at hl 0 rfl) ?_
            refine cg_X10_14 hC hH dX10_readNumber_55 ?_
            refine lv_aload_n hx hb dX10_readNumber_58 rfl (lv_at hl 0 rfl) ?_
            refine cg_X10_25 hC hH dX10_readNumber_59 ?_
            obtain ⟨x_47, u_48, h_49, hF⟩ := ncl_some hF
            obtain ⟨e_50, rfl⟩ := nRF_eq h_49
            refine gx_ti e_50 ?_
            refine rg_3 hC hH wka150 ⟨Nat.le_of_ble_eq_true rfl, Nat.le_of_ble_eq_true rfl⟩ hl.1 (Nat.le_of_ble_eq_true rfl) ⟨Nat.zero_le _, Nat.zero_le _⟩ dX10_readNumber_62 ?_
            obtain ⟨x_51, u_52, h_53, hF⟩ := ncl_some hF
            obtain ⟨e_54, rfl⟩ := nGT_eq h_53
            refine gx_ti e_54 ?_
            refine lv_iadd hx hb dX10_readNumber_65 ?_
            refine lv_bipush (v := 48) hx hb dX10_readNumber_66 (by decide) ?_
            refine lv_isub hx hb dX10_readNumber_68 ?_
            obtain ⟨y_58, u_55, h_57, hF⟩ := ncl_some hF
            have e_56 := nWF_eq h_57
            refine cp_X10_61 hC hH e_56 dX10_readNumber_69 (fun H locs hH => ?_)
            refine lv_aload_n hx hb dX10_readNumber_72 rfl (lv_at hl 0 rfl) ?_
            refine lv_dup hx hb dX10_readNumber_73 rfl ?_
            refine cg_X10_25 hC hH dX10_readNumber_74 ?_
            obtain ⟨x_59, u_60, h_61, hF⟩ := ncl_some hF
            obtain ⟨e_62, rfl⟩ := nRF_eq h_61
            refine gx_ti e_62 ?_
            refine lv_iconst (v := 1) hx hb dX10_readNumber_77 (by decide) ?_
            refine lv_iadd hx hb dX10_readNumber_78 ?_
            obtain ⟨y_66, u_63, h_65, hF⟩ := ncl_some hF
            have e_64 := nWF_eq h_65
            refine cp_X10_25 hC hH e_64 dX10_readNumber_79 (fun H locs hH => ?_)
            refine lv_goto (tgt := 5) hx hb dX10_readNumber_82 (by decide) ?_
            exact ih5  u_63 _ _ _ _ (lv_sub hl [0] rfl) hH hF
  refine hL5 _ (fun  u D H locs ls hl hH hF => ?_) fuel  u_1 _ _ _ _ (lv_sub hl [0] rfl) hH hF
  refine lv_aload_n hx hb dX10_readNumber_85 rfl (lv_at hl 0 rfl) ?_
  refine lv_aload_n hx hb dX10_readNumber_86 rfl (lv_at hl 0 rfl) ?_
  refine cg_X10_25 hC hH dX10_readNumber_87 ?_
  obtain ⟨x_67, u_68, h_69, hF⟩ := ncl_some hF
  obtain ⟨e_70, rfl⟩ := nRF_eq h_69
  refine gx_ti e_70 ?_
  refine lv_aload_n hx hb dX10_readNumber_90 rfl (lv_at hl 0 rfl) ?_
  refine cg_X10_36 hC hH dX10_readNumber_91 ?_
  obtain ⟨x_71, u_72, h_73, hF⟩ := ncl_some hF
  obtain ⟨e_74, rfl⟩ := nRF_eq h_73
  refine gx_ti e_74 ?_
  refine lv_isub hx hb dX10_readNumber_94 ?_
  refine lv_iconst (v := 4) hx hb dX10_readNumber_95 (by decide) ?_
  refine lv_icmp_le (tgt := 103) hx hb dX10_readNumber_96 (by decide) (fun c_75 => ?_) (fun c_75 => ?_)
  · rw [if_pos c_75] at hF
    refine lv_iconst (v := 3) hx hb dX10_readNumber_103 (by decide) ?_
    obtain ⟨y_79, u_76, h_78, hF⟩ := ncl_some hF
    have e_77 := nWF_eq h_78
    refine cp_X10_39 hC hH e_77 dX10_readNumber_104 (fun H locs hH => ?_)
    exact cr_v hC hH hr (nrt_eq hF) dX10_readNumber_107 hlocks
  · rw [if_neg c_75] at hF
    refine lv_iconst (v := 1) hx hb dX10_readNumber_99 (by decide) ?_
    refine lv_goto (tgt := 104) hx hb dX10_readNumber_100 (by decide) ?_
    obtain ⟨y_83, u_80, h_82, hF⟩ := ncl_some hF
    have e_81 := nWF_eq h_82
    refine cp_X10_39 hC hH e_81 dX10_readNumber_104 (fun H locs hH => ?_)
    exact cr_v hC hH hr (nrt_eq hF) dX10_readNumber_107 hlocks
def xl_X10_spells_20 (a0 : Nat) : Nat → Int32 → (Int32 → NG Int32) → NG Int32
  | 0, _, _ => fun _ => none
  | n20 + 1, v2, K20_57 => noi (fj_len a0) (fun r_12 => (if r_12 ≤ v2 then K20_57 v2 else ncl (nRF 5) (fun x_15 => ncl (nGT 4 3000 (x_15 + v2)) (fun x_19 => noi (fj_charAt a0 v2) (fun r_23 => (if x_19 = r_23 then nli (v2 + 1) (fun x_26 => xl_X10_spells_20 a0 n20 x_26 K20_57) else nrt 0))))))
def x_X10_spells (a0 : Nat) : NG Int32 := ncl (nRF 3) (fun x_1 => ncl (nRF 5) (fun x_5 => noi (fj_len a0) (fun r_9 => (if (x_1 - x_5) = r_9 then xl_X10_spells_20 a0 fuel 0 (fun v2 => nrt 1) else nrt 0))))
set_option maxHeartbeats 4000000 in
set_option maxRecDepth 100000 in
theorem n_X10_spells (l : Launch) (G : gG) (Z : gC) (Q : Nat → Nat) (D : Nat × Nat) (T : va_W) (u u1 : MS) (r : Int32) (a0 : Nat) (sz : Nat) (hs_a0 : a0 < 38) (hF : x_X10_spells a0 u = some (r, u1)) : Met l yX10_spells (Cond.code yX10_spells cX10_spells 3 (some .boolean) :: wK) { frames := 4, cells := 0, slots := 0, locals := 85 } (va_Pc [.ref (Q 2), .ref (Z.1.1 a0)] (cPM G Z Q D T u sz)) (cQi G Q T u1 r (va_A (cW G Q D T u) sz)) 0 0 (va_A (cW G Q D T u) sz) := by
  refine Met.ofW (cc := cX10_spells) (maxL := 3) (ret := (some .boolean)) (by decide) rfl ?_
  intro p e s m args below meth c s₁ B hml hv
  obtain ⟨rfl, rfl, hP, hB, hD0, hE⟩ := hv
  have hr := B.returns
  have hlocks := B.notSynchronized
  have hts := atoms_spec (ws := Cond.code yX10_spells cX10_spells 3 (some .boolean) :: wK) B.pre
  have hD := hD0.self (sz := s.heap.size)
  have hA : ∀ q : Nat, s.heap.size ≤ q → va_A (cW G Q D T u) s.heap.size q := fun q h => Or.inr h
  generalize va_A (cW G Q D T u) s.heap.size = A at hD hA hE ⊢
  have hC : cX p c cX10_spells 3 s m _ RX10 G Z A := ⟨B.exec, B.bytes, hml, findClass_of_methodNamed B.named, fun w h => hts w (List.mem_cons_of_mem _ h), hB, hE, hA⟩
  have hx := hC.1
  have hb := hC.2.1
  have hH : cH G Q D T A u s s.heap [] := ⟨hP, hD, va_S.rf⟩
  have hl := lv_entry ([.ref (Q 2), .ref (Z.1.1 a0)]) (n := 3) (Nat.le_of_ble_eq_true rfl)
  rw [lg_entry_eq]
  generalize (lg_sl ([.ref (Q 2), .ref (Z.1.1 a0)]) ++ List.replicate (3 - (lg_sl ([.ref (Q 2), .ref (Z.1.1 a0)])).length) Slot.unset).toArray = ls at hl ⊢
  have hl : lv_has ls 3 [(0, .ref (Q 2)), (1, .ref (Z.1.1 a0))] := hl
  unfold x_X10_spells at hF
  refine lv_aload_n hx hb dX10_spells_0 rfl (lv_at hl 0 rfl) ?_
  refine cg_X10_25 hC hH dX10_spells_1 ?_
  obtain ⟨x_1, u_2, h_3, hF⟩ := ncl_some hF
  obtain ⟨e_4, rfl⟩ := nRF_eq h_3
  refine gx_ti e_4 ?_
  refine lv_aload_n hx hb dX10_spells_4 rfl (lv_at hl 0 rfl) ?_
  refine cg_X10_36 hC hH dX10_spells_5 ?_
  obtain ⟨x_5, u_6, h_7, hF⟩ := ncl_some hF
  obtain ⟨e_8, rfl⟩ := nRF_eq h_7
  refine gx_ti e_8 ?_
  refine lv_isub hx hb dX10_spells_8 ?_
  refine lv_aload_n hx hb dX10_spells_9 rfl (lv_at hl 1 rfl) ?_
  obtain ⟨r_9, h_10, hF⟩ := noi_some hF
  refine ccJ (As := []) (rest := [.int (x_1 - x_5)]) hC hH hs_a0 (j_len l Z.1 A a0 r_9 hs_a0 h_10) ⟨wj37, wka156, wj39, wj40, wj7⟩ kVJ0_length_8abf5 ⟨Nat.le_of_ble_eq_true rfl, Nat.le_of_ble_eq_true rfl⟩ rfl hl.1 rfl (Nat.le_of_ble_eq_true rfl) dX10_spells_10 ?_
  refine lv_icmp_eq (tgt := 18) hx hb dX10_spells_13 (by decide) (fun c_11 => ?_) (fun c_11 => ?_)
  · rw [if_pos c_11] at hF
    refine lv_iconst (v := 0) hx hb dX10_spells_18 (by decide) ?_
    refine lv_istore_n (lv' := [(2, .int 0), (0, .ref (Q 2)), (1, .ref (Z.1.1 a0))]) hx hb dX10_spells_19 rfl hl (by decide) rfl (fun ls hl => ?_)
    have hL20 : ∀ (K20_57 : Int32 → NG Int32), (∀ (v2 : Int32) (u : MS) (D : Nat × Nat) (H : Heap) (locs : List Loc) (ls : Array Slot), lv_has ls 3 [(0, .ref (Q 2)), (1, .ref (Z.1.1 a0)), (2, .int v2)] → cH G Q D T A u s H locs → K20_57 v2 u = some (r, u1) → W p l e (headSpec (Cond.code yX10_spells cX10_spells 3 (some .boolean) :: wK) { frames := 4, cells := 0, slots := 0, locals := 85 }).room s m [.ref (Q 2), .ref (Z.1.1 a0)].toArray below meth c H locs 0 0 (MQ below (cQi G Q T u1 r A) [.ref (Q 2), .ref (Z.1.1 a0)].toArray s 0 0 A) (F0 m 57 ls [])) → ∀ (n20 : Nat) (v2 : Int32) (u : MS) (D : Nat × Nat) (H : Heap) (locs : List Loc) (ls : Array Slot), lv_has ls 3 [(0, .ref (Q 2)), (1, .ref (Z.1.1 a0)), (2, .int v2)] → cH G Q D T A u s H locs → xl_X10_spells_20 a0 n20 v2 K20_57 u = some (r, u1) → W p l e (headSpec (Cond.code yX10_spells cX10_spells 3 (some .boolean) :: wK) { frames := 4, cells := 0, slots := 0, locals := 85 }).room s m [.ref (Q 2), .ref (Z.1.1 a0)].toArray below meth c H locs 0 0 (MQ below (cQi G Q T u1 r A) [.ref (Q 2), .ref (Z.1.1 a0)].toArray s 0 0 A) (F0 m 20 ls []) := by
      intro K20_57 hK20_57 n20
      induction n20 with
      | zero => intro v2 u D H locs ls hl hH hF; cases hF
      | succ n20 ih20 =>
        intro v2 u D H locs ls hl hH hF
        unfold xl_X10_spells_20 at hF
        refine lv_iload_n hx hb dX10_spells_20 rfl (lv_at hl 2 rfl) ?_
        refine lv_aload_n hx hb dX10_spells_21 rfl (lv_at hl 1 rfl) ?_
        obtain ⟨r_12, h_13, hF⟩ := noi_some hF
        refine ccJ (As := []) (rest := [.int v2]) hC hH hs_a0 (j_len l Z.1 A a0 r_12 hs_a0 h_13) ⟨wj37, wka156, wj39, wj40, wj7⟩ kVJ0_length_8abf5 ⟨Nat.le_of_ble_eq_true rfl, Nat.le_of_ble_eq_true rfl⟩ rfl hl.1 rfl (Nat.le_of_ble_eq_true rfl) dX10_spells_22 ?_
        refine lv_icmp_ge (tgt := 57) hx hb dX10_spells_25 (by decide) (fun c_14 => ?_) (fun c_14 => ?_)
        · rw [if_pos c_14] at hF
          exact hK20_57 v2 u _ _ _ _ (lv_sub hl [0, 1, 2] rfl) hH hF
        · rw [if_neg c_14] at hF
          refine lv_aload_n hx hb dX10_spells_28 rfl (lv_at hl 0 rfl) ?_
          refine cg_X10_14 hC hH dX10_spells_29 ?_
          refine lv_aload_n hx hb dX10_spells_32 rfl (lv_at hl 0 rfl) ?_
          refine cg_X10_36 hC hH dX10_spells_33 ?_
          obtain ⟨x_15, u_16, h_17, hF⟩ := ncl_some hF
          obtain ⟨e_18, rfl⟩ := nRF_eq h_17
          refine gx_ti e_18 ?_
          refine lv_iload_n hx hb dX10_spells_36 rfl (lv_at hl 2 rfl) ?_
          refine lv_iadd hx hb dX10_spells_37 ?_
          refine rg_3 hC hH wka150 ⟨Nat.le_of_ble_eq_true rfl, Nat.le_of_ble_eq_true rfl⟩ hl.1 (Nat.le_of_ble_eq_true rfl) ⟨Nat.zero_le _, Nat.zero_le _⟩ dX10_spells_38 ?_
          obtain ⟨x_19, u_20, h_21, hF⟩ := ncl_some hF
          obtain ⟨e_22, rfl⟩ := nGT_eq h_21
          refine gx_ti e_22 ?_
          refine lv_aload_n hx hb dX10_spells_41 rfl (lv_at hl 1 rfl) ?_
          refine lv_iload_n hx hb dX10_spells_42 rfl (lv_at hl 2 rfl) ?_
          obtain ⟨r_23, h_24, hF⟩ := noi_some hF
          refine ccJ (As := [.int v2]) (rest := [.int x_19]) hC hH hs_a0 (j_charAt l Z.1 A a0 v2 r_23 hs_a0 h_24) ⟨wj48, wka157, wj50, wj51, wj7⟩ kVJ0_charAt_5068e ⟨Nat.le_of_ble_eq_true rfl, Nat.le_of_ble_eq_true rfl⟩ rfl hl.1 rfl (Nat.le_of_ble_eq_true rfl) dX10_spells_43 ?_
          refine lv_icmp_eq (tgt := 51) hx hb dX10_spells_46 (by decide) (fun c_25 => ?_) (fun c_25 => ?_)
          · rw [if_pos c_25] at hF
            obtain ⟨x_26, e_27, hF⟩ := nli_some hF
            refine lv_iinc (v := x_26) (lv' := [(2, .int x_26), (0, .ref (Q 2)), (1, .ref (Z.1.1 a0))]) hx hb dX10_spells_51 hl (k := 2) rfl e_27 (by decide) rfl (fun ls hl => ?_)
            refine lv_goto (tgt := 20) hx hb dX10_spells_54 (by decide) ?_
            exact ih20 x_26 u _ _ _ _ (lv_sub hl [1, 2, 0] rfl) hH hF
          · rw [if_neg c_25] at hF
            refine lv_iconst (v := 0) hx hb dX10_spells_49 (by decide) ?_
            exact cr_z hC hH hr rfl (nrt_eq hF) dX10_spells_50 hlocks
    refine hL20 _ (fun v2 u D H locs ls hl hH hF => ?_) fuel 0 u _ _ _ _ (lv_sub hl [1, 2, 0] rfl) hH hF
    refine lv_iconst (v := 1) hx hb dX10_spells_57 (by decide) ?_
    exact cr_z hC hH hr rfl (nrt_eq hF) dX10_spells_58 hlocks
  · rw [if_neg c_11] at hF
    refine lv_iconst (v := 0) hx hb dX10_spells_16 (by decide) ?_
    exact cr_z hC hH hr rfl (nrt_eq hF) dX10_spells_17 hlocks
def x_X10_wordKind : NG Int32 := ncl (x_X10_spells 25) (fun r_1 => (if r_1 = 0 then ncl (x_X10_spells 26) (fun r_5 => (if r_5 = 0 then ncl (x_X10_spells 27) (fun r_9 => (if r_9 = 0 then ncl (x_X10_spells 28) (fun r_13 => (if r_13 = 0 then ncl (x_X10_spells 29) (fun r_17 => (if r_17 = 0 then ncl (x_X10_spells 30) (fun r_21 => (if r_21 = 0 then ncl (x_X10_spells 31) (fun r_25 => (if r_25 = 0 then ncl (x_X10_spells 32) (fun r_29 => (if r_29 = 0 then ncl (x_X10_spells 33) (fun r_33 => (if r_33 = 0 then ncl (x_X10_spells 34) (fun r_37 => (if r_37 = 0 then ncl (x_X10_spells 35) (fun r_41 => (if r_41 = 0 then ncl (x_X10_spells 36) (fun r_45 => (if r_45 = 0 then ncl (x_X10_spells 37) (fun r_49 => (if r_49 = 0 then nrt 2 else nrt 16)) else nrt 15)) else nrt 14)) else nrt 13)) else nrt 12)) else nrt 11)) else nrt 10)) else nrt 9)) else nrt 8)) else nrt 7)) else nrt 6)) else nrt 5)) else nrt 4))
set_option maxHeartbeats 4000000 in
set_option maxRecDepth 100000 in
theorem n_X10_wordKind (l : Launch) (G : gG) (Z : gC) (Q : Nat → Nat) (D : Nat × Nat) (T : va_W) (u u1 : MS) (r : Int32) (sz : Nat) (hF : x_X10_wordKind u = some (r, u1)) : Met l yX10_wordKind (Cond.code yX10_wordKind cX10_wordKind 1 (some .int) :: wK) { frames := 5, cells := 0, slots := 0, locals := 107 } (va_Pc [.ref (Q 2)] (cPM G Z Q D T u sz)) (cQi G Q T u1 r (va_A (cW G Q D T u) sz)) 0 0 (va_A (cW G Q D T u) sz) := by
  refine Met.ofW (cc := cX10_wordKind) (maxL := 1) (ret := (some .int)) (by decide) rfl ?_
  intro p e s m args below meth c s₁ B hml hv
  obtain ⟨rfl, rfl, hP, hB, hD0, hE⟩ := hv
  have hr := B.returns
  have hlocks := B.notSynchronized
  have hts := atoms_spec (ws := Cond.code yX10_wordKind cX10_wordKind 1 (some .int) :: wK) B.pre
  have hD := hD0.self (sz := s.heap.size)
  have hA : ∀ q : Nat, s.heap.size ≤ q → va_A (cW G Q D T u) s.heap.size q := fun q h => Or.inr h
  generalize va_A (cW G Q D T u) s.heap.size = A at hD hA hE ⊢
  have hC : cX p c cX10_wordKind 1 s m _ RX10 G Z A := ⟨B.exec, B.bytes, hml, findClass_of_methodNamed B.named, fun w h => hts w (List.mem_cons_of_mem _ h), hB, hE, hA⟩
  have hx := hC.1
  have hb := hC.2.1
  have hH : cH G Q D T A u s s.heap [] := ⟨hP, hD, va_S.rf⟩
  have hl := lv_entry ([.ref (Q 2)]) (n := 1) (Nat.le_of_ble_eq_true rfl)
  rw [lg_entry_eq]
  generalize (lg_sl ([.ref (Q 2)]) ++ List.replicate (1 - (lg_sl ([.ref (Q 2)])).length) Slot.unset).toArray = ls at hl ⊢
  have hl : lv_has ls 1 [(0, .ref (Q 2))] := hl
  unfold x_X10_wordKind at hF
  refine lv_aload_n hx hb dX10_wordKind_0 rfl (lv_at hl 0 rfl) ?_
  refine va_ldcS (tx := sTx 25) hx hb hC.2.2.2.1 (hC.2.2.2.2.2.2.1.1.2.2.1 25 (by decide)) dX10_wordKind_1 ?_
  obtain ⟨r_1, u_2, h_3, hF⟩ := ncl_some hF
  refine ccV_i (q0 := 2) (As := [.ref (Z.1.1 25)]) (rest := []) hC hH (n_X10_spells l G Z Q _ T u u_2 r_1 25 _ (by decide) h_3) rfl rfl ⟨wkc_X10_spells, wka155, wka663, wka664, wka754⟩ kVX10_spells ⟨Nat.le_of_ble_eq_true rfl, Nat.le_of_ble_eq_true rfl⟩ rfl hl.1 rfl (Nat.le_of_ble_eq_true rfl) dX10_wordKind_3 (fun D H locs hH => ?_)
  refine lv_if_eq (tgt := 11) hx hb dX10_wordKind_6 (by decide) (fun c_4 => ?_) (fun c_4 => ?_)
  · rw [if_pos c_4] at hF
    refine lv_aload_n hx hb dX10_wordKind_11 rfl (lv_at hl 0 rfl) ?_
    refine va_ldcS (tx := sTx 26) hx hb hC.2.2.2.1 (hC.2.2.2.2.2.2.1.1.2.2.1 26 (by decide)) dX10_wordKind_12 ?_
    obtain ⟨r_5, u_6, h_7, hF⟩ := ncl_some hF
    refine ccV_i (q0 := 2) (As := [.ref (Z.1.1 26)]) (rest := []) hC hH (n_X10_spells l G Z Q _ T u_2 u_6 r_5 26 _ (by decide) h_7) rfl rfl ⟨wkc_X10_spells, wka155, wka663, wka664, wka754⟩ kVX10_spells ⟨Nat.le_of_ble_eq_true rfl, Nat.le_of_ble_eq_true rfl⟩ rfl hl.1 rfl (Nat.le_of_ble_eq_true rfl) dX10_wordKind_14 (fun D H locs hH => ?_)
    refine lv_if_eq (tgt := 22) hx hb dX10_wordKind_17 (by decide) (fun c_8 => ?_) (fun c_8 => ?_)
    · rw [if_pos c_8] at hF
      refine lv_aload_n hx hb dX10_wordKind_22 rfl (lv_at hl 0 rfl) ?_
      refine va_ldcS (tx := sTx 27) hx hb hC.2.2.2.1 (hC.2.2.2.2.2.2.1.1.2.2.1 27 (by decide)) dX10_wordKind_23 ?_
      obtain ⟨r_9, u_10, h_11, hF⟩ := ncl_some hF
      refine ccV_i (q0 := 2) (As := [.ref (Z.1.1 27)]) (rest := []) hC hH (n_X10_spells l G Z Q _ T u_6 u_10 r_9 27 _ (by decide) h_11) rfl rfl ⟨wkc_X10_spells, wka155, wka663, wka664, wka754⟩ kVX10_spells ⟨Nat.le_of_ble_eq_true rfl, Nat.le_of_ble_eq_true rfl⟩ rfl hl.1 rfl (Nat.le_of_ble_eq_true rfl) dX10_wordKind_25 (fun D H locs hH => ?_)
      refine lv_if_eq (tgt := 34) hx hb dX10_wordKind_28 (by decide) (fun c_12 => ?_) (fun c_12 => ?_)
      · rw [if_pos c_12] at hF
        refine lv_aload_n hx hb dX10_wordKind_34 rfl (lv_at hl 0 rfl) ?_
        refine va_ldcS (tx := sTx 28) hx hb hC.2.2.2.1 (hC.2.2.2.2.2.2.1.1.2.2.1 28 (by decide)) dX10_wordKind_35 ?_
        obtain ⟨r_13, u_14, h_15, hF⟩ := ncl_some hF
        refine ccV_i (q0 := 2) (As := [.ref (Z.1.1 28)]) (rest := []) hC hH (n_X10_spells l G Z Q _ T u_10 u_14 r_13 28 _ (by decide) h_15) rfl rfl ⟨wkc_X10_spells, wka155, wka663, wka664, wka754⟩ kVX10_spells ⟨Nat.le_of_ble_eq_true rfl, Nat.le_of_ble_eq_true rfl⟩ rfl hl.1 rfl (Nat.le_of_ble_eq_true rfl) dX10_wordKind_37 (fun D H locs hH => ?_)
        refine lv_if_eq (tgt := 46) hx hb dX10_wordKind_40 (by decide) (fun c_16 => ?_) (fun c_16 => ?_)
        · rw [if_pos c_16] at hF
          refine lv_aload_n hx hb dX10_wordKind_46 rfl (lv_at hl 0 rfl) ?_
          refine va_ldcS (tx := sTx 29) hx hb hC.2.2.2.1 (hC.2.2.2.2.2.2.1.1.2.2.1 29 (by decide)) dX10_wordKind_47 ?_
          obtain ⟨r_17, u_18, h_19, hF⟩ := ncl_some hF
          refine ccV_i (q0 := 2) (As := [.ref (Z.1.1 29)]) (rest := []) hC hH (n_X10_spells l G Z Q _ T u_14 u_18 r_17 29 _ (by decide) h_19) rfl rfl ⟨wkc_X10_spells, wka155, wka663, wka664, wka754⟩ kVX10_spells ⟨Nat.le_of_ble_eq_true rfl, Nat.le_of_ble_eq_true rfl⟩ rfl hl.1 rfl (Nat.le_of_ble_eq_true rfl) dX10_wordKind_49 (fun D H locs hH => ?_)
          refine lv_if_eq (tgt := 58) hx hb dX10_wordKind_52 (by decide) (fun c_20 => ?_) (fun c_20 => ?_)
          · rw [if_pos c_20] at hF
            refine lv_aload_n hx hb dX10_wordKind_58 rfl (lv_at hl 0 rfl) ?_
            refine va_ldcS (tx := sTx 30) hx hb hC.2.2.2.1 (hC.2.2.2.2.2.2.1.1.2.2.1 30 (by decide)) dX10_wordKind_59 ?_
            obtain ⟨r_21, u_22, h_23, hF⟩ := ncl_some hF
            refine ccV_i (q0 := 2) (As := [.ref (Z.1.1 30)]) (rest := []) hC hH (n_X10_spells l G Z Q _ T u_18 u_22 r_21 30 _ (by decide) h_23) rfl rfl ⟨wkc_X10_spells, wka155, wka663, wka664, wka754⟩ kVX10_spells ⟨Nat.le_of_ble_eq_true rfl, Nat.le_of_ble_eq_true rfl⟩ rfl hl.1 rfl (Nat.le_of_ble_eq_true rfl) dX10_wordKind_61 (fun D H locs hH => ?_)
            refine lv_if_eq (tgt := 70) hx hb dX10_wordKind_64 (by decide) (fun c_24 => ?_) (fun c_24 => ?_)
            · rw [if_pos c_24] at hF
              refine lv_aload_n hx hb dX10_wordKind_70 rfl (lv_at hl 0 rfl) ?_
              refine va_ldcS (tx := sTx 31) hx hb hC.2.2.2.1 (hC.2.2.2.2.2.2.1.1.2.2.1 31 (by decide)) dX10_wordKind_71 ?_
              obtain ⟨r_25, u_26, h_27, hF⟩ := ncl_some hF
              refine ccV_i (q0 := 2) (As := [.ref (Z.1.1 31)]) (rest := []) hC hH (n_X10_spells l G Z Q _ T u_22 u_26 r_25 31 _ (by decide) h_27) rfl rfl ⟨wkc_X10_spells, wka155, wka663, wka664, wka754⟩ kVX10_spells ⟨Nat.le_of_ble_eq_true rfl, Nat.le_of_ble_eq_true rfl⟩ rfl hl.1 rfl (Nat.le_of_ble_eq_true rfl) dX10_wordKind_73 (fun D H locs hH => ?_)
              refine lv_if_eq (tgt := 82) hx hb dX10_wordKind_76 (by decide) (fun c_28 => ?_) (fun c_28 => ?_)
              · rw [if_pos c_28] at hF
                refine lv_aload_n hx hb dX10_wordKind_82 rfl (lv_at hl 0 rfl) ?_
                refine va_ldcS (tx := sTx 32) hx hb hC.2.2.2.1 (hC.2.2.2.2.2.2.1.1.2.2.1 32 (by decide)) dX10_wordKind_83 ?_
                obtain ⟨r_29, u_30, h_31, hF⟩ := ncl_some hF
                refine ccV_i (q0 := 2) (As := [.ref (Z.1.1 32)]) (rest := []) hC hH (n_X10_spells l G Z Q _ T u_26 u_30 r_29 32 _ (by decide) h_31) rfl rfl ⟨wkc_X10_spells, wka155, wka663, wka664, wka754⟩ kVX10_spells ⟨Nat.le_of_ble_eq_true rfl, Nat.le_of_ble_eq_true rfl⟩ rfl hl.1 rfl (Nat.le_of_ble_eq_true rfl) dX10_wordKind_85 (fun D H locs hH => ?_)
                refine lv_if_eq (tgt := 94) hx hb dX10_wordKind_88 (by decide) (fun c_32 => ?_) (fun c_32 => ?_)
                · rw [if_pos c_32] at hF
                  refine lv_aload_n hx hb dX10_wordKind_94 rfl (lv_at hl 0 rfl) ?_
                  refine va_ldcS (tx := sTx 33) hx hb hC.2.2.2.1 (hC.2.2.2.2.2.2.1.1.2.2.1 33 (by decide)) dX10_wordKind_95 ?_
                  obtain ⟨r_33, u_34, h_35, hF⟩ := ncl_some hF
                  refine ccV_i (q0 := 2) (As := [.ref (Z.1.1 33)]) (rest := []) hC hH (n_X10_spells l G Z Q _ T u_30 u_34 r_33 33 _ (by decide) h_35) rfl rfl ⟨wkc_X10_spells, wka155, wka663, wka664, wka754⟩ kVX10_spells ⟨Nat.le_of_ble_eq_true rfl, Nat.le_of_ble_eq_true rfl⟩ rfl hl.1 rfl (Nat.le_of_ble_eq_true rfl) dX10_wordKind_97 (fun D H locs hH => ?_)
                  refine lv_if_eq (tgt := 106) hx hb dX10_wordKind_100 (by decide) (fun c_36 => ?_) (fun c_36 => ?_)
                  · rw [if_pos c_36] at hF
                    refine lv_aload_n hx hb dX10_wordKind_106 rfl (lv_at hl 0 rfl) ?_
                    refine va_ldcS (tx := sTx 34) hx hb hC.2.2.2.1 (hC.2.2.2.2.2.2.1.1.2.2.1 34 (by decide)) dX10_wordKind_107 ?_
                    obtain ⟨r_37, u_38, h_39, hF⟩ := ncl_some hF
                    refine ccV_i (q0 := 2) (As := [.ref (Z.1.1 34)]) (rest := []) hC hH (n_X10_spells l G Z Q _ T u_34 u_38 r_37 34 _ (by decide) h_39) rfl rfl ⟨wkc_X10_spells, wka155, wka663, wka664, wka754⟩ kVX10_spells ⟨Nat.le_of_ble_eq_true rfl, Nat.le_of_ble_eq_true rfl⟩ rfl hl.1 rfl (Nat.le_of_ble_eq_true rfl) dX10_wordKind_109 (fun D H locs hH => ?_)
                    refine lv_if_eq (tgt := 118) hx hb dX10_wordKind_112 (by decide) (fun c_40 => ?_) (fun c_40 => ?_)
                    · rw [if_pos c_40] at hF
                      refine lv_aload_n hx hb dX10_wordKind_118 rfl (lv_at hl 0 rfl) ?_
                      refine va_ldcS (tx := sTx 35) hx hb hC.2.2.2.1 (hC.2.2.2.2.2.2.1.1.2.2.1 35 (by decide)) dX10_wordKind_119 ?_
                      obtain ⟨r_41, u_42, h_43, hF⟩ := ncl_some hF
                      refine ccV_i (q0 := 2) (As := [.ref (Z.1.1 35)]) (rest := []) hC hH (n_X10_spells l G Z Q _ T u_38 u_42 r_41 35 _ (by decide) h_43) rfl rfl ⟨wkc_X10_spells, wka155, wka663, wka664, wka754⟩ kVX10_spells ⟨Nat.le_of_ble_eq_true rfl, Nat.le_of_ble_eq_true rfl⟩ rfl hl.1 rfl (Nat.le_of_ble_eq_true rfl) dX10_wordKind_121 (fun D H locs hH => ?_)
                      refine lv_if_eq (tgt := 130) hx hb dX10_wordKind_124 (by decide) (fun c_44 => ?_) (fun c_44 => ?_)
                      · rw [if_pos c_44] at hF
                        refine lv_aload_n hx hb dX10_wordKind_130 rfl (lv_at hl 0 rfl) ?_
                        refine va_ldcS (tx := sTx 36) hx hb hC.2.2.2.1 (hC.2.2.2.2.2.2.1.1.2.2.1 36 (by decide)) dX10_wordKind_131 ?_
                        obtain ⟨r_45, u_46, h_47, hF⟩ := ncl_some hF
                        refine ccV_i (q0 := 2) (As := [.ref (Z.1.1 36)]) (rest := []) hC hH (n_X10_spells l G Z Q _ T u_42 u_46 r_45 36 _ (by decide) h_47) rfl rfl ⟨wkc_X10_spells, wka155, wka663, wka664, wka754⟩ kVX10_spells ⟨Nat.le_of_ble_eq_true rfl, Nat.le_of_ble_eq_true rfl⟩ rfl hl.1 rfl (Nat.le_of_ble_eq_true rfl) dX10_wordKind_133 (fun D H locs hH => ?_)
                        refine lv_if_eq (tgt := 142) hx hb dX10_wordKind_136 (by decide) (fun c_48 => ?_) (fun c_48 => ?_)
                        · rw [if_pos c_48] at hF
                          refine lv_aload_n hx hb dX10_wordKind_142 rfl (lv_at hl 0 rfl) ?_
                          refine va_ldcS (tx := sTx 37) hx hb hC.2.2.2.1 (hC.2.2.2.2.2.2.1.1.2.2.1 37 (by decide)) dX10_wordKind_143 ?_
                          obtain ⟨r_49, u_50, h_51, hF⟩ := ncl_some hF
                          refine ccV_i (q0 := 2) (As := [.ref (Z.1.1 37)]) (rest := []) hC hH (n_X10_spells l G Z Q _ T u_46 u_50 r_49 37 _ (by decide) h_51) rfl rfl ⟨wkc_X10_spells, wka155, wka663, wka664, wka754⟩ kVX10_spells ⟨Nat.le_of_ble_eq_true rfl, Nat.le_of_ble_eq_true rfl⟩ rfl hl.1 rfl (Nat.le_of_ble_eq_true rfl) dX10_wordKind_145 (fun D H locs hH => ?_)
                          refine lv_if_eq (tgt := 156) hx hb dX10_wordKind_148 (by decide) (fun c_52 => ?_) (fun c_52 => ?_)
                          · rw [if_pos c_52] at hF
                            refine lv_iconst (v := 2) hx hb dX10_wordKind_156 (by decide) ?_
                            exact cr_i hC hH hr (nrt_eq hF) dX10_wordKind_157 hlocks
                          · rw [if_neg c_52] at hF
                            refine lv_bipush (v := 16) hx hb dX10_wordKind_151 (by decide) ?_
                            refine lv_goto (tgt := 157) hx hb dX10_wordKind_153 (by decide) ?_
                            exact cr_i hC hH hr (nrt_eq hF) dX10_wordKind_157 hlocks
                        · rw [if_neg c_48] at hF
                          refine lv_bipush (v := 15) hx hb dX10_wordKind_139 (by decide) ?_
                          exact cr_i hC hH hr (nrt_eq hF) dX10_wordKind_141 hlocks
                      · rw [if_neg c_44] at hF
                        refine lv_bipush (v := 14) hx hb dX10_wordKind_127 (by decide) ?_
                        exact cr_i hC hH hr (nrt_eq hF) dX10_wordKind_129 hlocks
                    · rw [if_neg c_40] at hF
                      refine lv_bipush (v := 13) hx hb dX10_wordKind_115 (by decide) ?_
                      exact cr_i hC hH hr (nrt_eq hF) dX10_wordKind_117 hlocks
                  · rw [if_neg c_36] at hF
                    refine lv_bipush (v := 12) hx hb dX10_wordKind_103 (by decide) ?_
                    exact cr_i hC hH hr (nrt_eq hF) dX10_wordKind_105 hlocks
                · rw [if_neg c_32] at hF
                  refine lv_bipush (v := 11) hx hb dX10_wordKind_91 (by decide) ?_
                  exact cr_i hC hH hr (nrt_eq hF) dX10_wordKind_93 hlocks
              · rw [if_neg c_28] at hF
                refine lv_bipush (v := 10) hx hb dX10_wordKind_79 (by decide) ?_
                exact cr_i hC hH hr (nrt_eq hF) dX10_wordKind_81 hlocks
            · rw [if_neg c_24] at hF
              refine lv_bipush (v := 9) hx hb dX10_wordKind_67 (by decide) ?_
              exact cr_i hC hH hr (nrt_eq hF) dX10_wordKind_69 hlocks
          · rw [if_neg c_20] at hF
            refine lv_bipush (v := 8) hx hb dX10_wordKind_55 (by decide) ?_
            exact cr_i hC hH hr (nrt_eq hF) dX10_wordKind_57 hlocks
        · rw [if_neg c_16] at hF
          refine lv_bipush (v := 7) hx hb dX10_wordKind_43 (by decide) ?_
          exact cr_i hC hH hr (nrt_eq hF) dX10_wordKind_45 hlocks
      · rw [if_neg c_12] at hF
        refine lv_bipush (v := 6) hx hb dX10_wordKind_31 (by decide) ?_
        exact cr_i hC hH hr (nrt_eq hF) dX10_wordKind_33 hlocks
    · rw [if_neg c_8] at hF
      refine lv_iconst (v := 5) hx hb dX10_wordKind_20 (by decide) ?_
      exact cr_i hC hH hr (nrt_eq hF) dX10_wordKind_21 hlocks
  · rw [if_neg c_4] at hF
    refine lv_iconst (v := 4) hx hb dX10_wordKind_9 (by decide) ?_
    exact cr_i hC hH hr (nrt_eq hF) dX10_wordKind_10 hlocks
def xl_X10_readWord_0 : Nat → (NG Int32) → NG Int32
  | 0, _ => fun _ => none
  | n0 + 1, K0_41 => ncl (nRF 3) (fun x_1 => ncl (nRF 2) (fun x_5 => (if x_5 ≤ x_1 then K0_41  else ncl (nRF 3) (fun x_10 => ncl (nGT 4 3000 x_10) (fun x_14 => ncl (x_X10_isLetter x_14) (fun r_18 => (if r_18 = 0 then K0_41  else ncl (nRF 3) (fun x_22 => ncl (nWF 3 (x_22 + 1)) (fun _ => xl_X10_readWord_0 n0  K0_41)))))))))
def x_X10_readWord : NG Int32 := xl_X10_readWord_0 fuel  (ncl (nRF 3) (fun x_30 => ncl (nRF 5) (fun x_34 => (if (x_30 - x_34) ≤ 10 then ncl (x_X10_wordKind) (fun r_39 => ncl (nWF 4 r_39) (fun _ => nrt 0)) else ncl (nWF 4 1) (fun _ => nrt 0)))))
set_option maxHeartbeats 4000000 in
set_option maxRecDepth 100000 in
theorem n_X10_readWord (l : Launch) (G : gG) (Z : gC) (Q : Nat → Nat) (D : Nat × Nat) (T : va_W) (u u1 : MS) (r : Int32) (sz : Nat) (hF : x_X10_readWord u = some (r, u1)) : Met l yX10_readWord (Cond.code yX10_readWord cX10_readWord 1 none :: wK) { frames := 6, cells := 0, slots := 0, locals := 127 } (va_Pc [.ref (Q 2)] (cPM G Z Q D T u sz)) (cQv G Q T u1 (va_A (cW G Q D T u) sz)) 0 0 (va_A (cW G Q D T u) sz) := by
  refine Met.ofW (cc := cX10_readWord) (maxL := 1) (ret := none) (by decide) rfl ?_
  intro p e s m args below meth c s₁ B hml hv
  obtain ⟨rfl, rfl, hP, hB, hD0, hE⟩ := hv
  have hr := B.returns
  have hlocks := B.notSynchronized
  have hts := atoms_spec (ws := Cond.code yX10_readWord cX10_readWord 1 none :: wK) B.pre
  have hD := hD0.self (sz := s.heap.size)
  have hA : ∀ q : Nat, s.heap.size ≤ q → va_A (cW G Q D T u) s.heap.size q := fun q h => Or.inr h
  generalize va_A (cW G Q D T u) s.heap.size = A at hD hA hE ⊢
  have hC : cX p c cX10_readWord 1 s m _ RX10 G Z A := ⟨B.exec, B.bytes, hml, findClass_of_methodNamed B.named, fun w h => hts w (List.mem_cons_of_mem _ h), hB, hE, hA⟩
  have hx := hC.1
  have hb := hC.2.1
  have hH : cH G Q D T A u s s.heap [] := ⟨hP, hD, va_S.rf⟩
  have hl := lv_entry ([.ref (Q 2)]) (n := 1) (Nat.le_of_ble_eq_true rfl)
  rw [lg_entry_eq]
  generalize (lg_sl ([.ref (Q 2)]) ++ List.replicate (1 - (lg_sl ([.ref (Q 2)])).length) Slot.unset).toArray = ls at hl ⊢
  have hl : lv_has ls 1 [(0, .ref (Q 2))] := hl
  unfold x_X10_readWord at hF
  have hL0 : ∀ (K0_41 : NG Int32), (∀ (u : MS) (D : Nat × Nat) (H : Heap) (locs : List Loc) (ls : Array Slot), lv_has ls 1 [(0, .ref (Q 2))] → cH G Q D T A u s H locs → K0_41  u = some (r, u1) → W p l e (headSpec (Cond.code yX10_readWord cX10_readWord 1 none :: wK) { frames := 6, cells := 0, slots := 0, locals := 127 }).room s m [.ref (Q 2)].toArray below meth c H locs 0 0 (MQ below (cQv G Q T u1 A) [.ref (Q 2)].toArray s 0 0 A) (F0 m 41 ls [])) → ∀ (n0 : Nat) (u : MS) (D : Nat × Nat) (H : Heap) (locs : List Loc) (ls : Array Slot), lv_has ls 1 [(0, .ref (Q 2))] → cH G Q D T A u s H locs → xl_X10_readWord_0 n0  K0_41 u = some (r, u1) → W p l e (headSpec (Cond.code yX10_readWord cX10_readWord 1 none :: wK) { frames := 6, cells := 0, slots := 0, locals := 127 }).room s m [.ref (Q 2)].toArray below meth c H locs 0 0 (MQ below (cQv G Q T u1 A) [.ref (Q 2)].toArray s 0 0 A) (F0 m 0 ls []) := by
    intro K0_41 hK0_41 n0
    induction n0 with
    | zero => intro  u D H locs ls hl hH hF; cases hF
    | succ n0 ih0 =>
      intro  u D H locs ls hl hH hF
      unfold xl_X10_readWord_0 at hF
      refine lv_aload_n hx hb dX10_readWord_0 rfl (lv_at hl 0 rfl) ?_
      refine cg_X10_25 hC hH dX10_readWord_1 ?_
      obtain ⟨x_1, u_2, h_3, hF⟩ := ncl_some hF
      obtain ⟨e_4, rfl⟩ := nRF_eq h_3
      refine gx_ti e_4 ?_
      refine lv_aload_n hx hb dX10_readWord_4 rfl (lv_at hl 0 rfl) ?_
      refine cg_X10_18 hC hH dX10_readWord_5 ?_
      obtain ⟨x_5, u_6, h_7, hF⟩ := ncl_some hF
      obtain ⟨e_8, rfl⟩ := nRF_eq h_7
      refine gx_ti e_8 ?_
      refine lv_icmp_ge (tgt := 41) hx hb dX10_readWord_8 (by decide) (fun c_9 => ?_) (fun c_9 => ?_)
      · rw [if_pos c_9] at hF
        exact hK0_41  u _ _ _ _ (lv_sub hl [0] rfl) hH hF
      · rw [if_neg c_9] at hF
        refine lv_aload_n hx hb dX10_readWord_11 rfl (lv_at hl 0 rfl) ?_
        refine cg_X10_14 hC hH dX10_readWord_12 ?_
        refine lv_aload_n hx hb dX10_readWord_15 rfl (lv_at hl 0 rfl) ?_
        refine cg_X10_25 hC hH dX10_readWord_16 ?_
        obtain ⟨x_10, u_11, h_12, hF⟩ := ncl_some hF
        obtain ⟨e_13, rfl⟩ := nRF_eq h_12
        refine gx_ti e_13 ?_
        refine rg_3 hC hH wka150 ⟨Nat.le_of_ble_eq_true rfl, Nat.le_of_ble_eq_true rfl⟩ hl.1 (Nat.le_of_ble_eq_true rfl) ⟨Nat.zero_le _, Nat.zero_le _⟩ dX10_readWord_19 ?_
        obtain ⟨x_14, u_15, h_16, hF⟩ := ncl_some hF
        obtain ⟨e_17, rfl⟩ := nGT_eq h_16
        refine gx_ti e_17 ?_
        obtain ⟨r_18, u_19, h_20, hF⟩ := ncl_some hF
        refine ccS_i (As := [.int x_14]) (rest := []) hC hH (n_X10_isLetter l G Z Q _ T u u_19 r_18 x_14 _ h_20) ⟨wkc_X10_isLetter, wka152, wka670, wka754⟩ kSX10_isLetter ⟨Nat.le_of_ble_eq_true rfl, Nat.le_of_ble_eq_true rfl⟩ rfl hl.1 rfl (Nat.le_of_ble_eq_true rfl) dX10_readWord_22 (fun D H locs hH => ?_)
        refine lv_if_eq (tgt := 41) hx hb dX10_readWord_25 (by decide) (fun c_21 => ?_) (fun c_21 => ?_)
        · rw [if_pos c_21] at hF
          exact hK0_41  u_19 _ _ _ _ (lv_sub hl [0] rfl) hH hF
        · rw [if_neg c_21] at hF
          refine lv_aload_n hx hb dX10_readWord_28 rfl (lv_at hl 0 rfl) ?_
          refine lv_dup hx hb dX10_readWord_29 rfl ?_
          refine cg_X10_25 hC hH dX10_readWord_30 ?_
          obtain ⟨x_22, u_23, h_24, hF⟩ := ncl_some hF
          obtain ⟨e_25, rfl⟩ := nRF_eq h_24
          refine gx_ti e_25 ?_
          refine lv_iconst (v := 1) hx hb dX10_readWord_33 (by decide) ?_
          refine lv_iadd hx hb dX10_readWord_34 ?_
          obtain ⟨y_29, u_26, h_28, hF⟩ := ncl_some hF
          have e_27 := nWF_eq h_28
          refine cp_X10_25 hC hH e_27 dX10_readWord_35 (fun H locs hH => ?_)
          refine lv_goto (tgt := 0) hx hb dX10_readWord_38 (by decide) ?_
          exact ih0  u_26 _ _ _ _ (lv_sub hl [0] rfl) hH hF
  refine hL0 _ (fun  u D H locs ls hl hH hF => ?_) fuel  u _ _ _ _ (lv_sub hl [0] rfl) hH hF
  refine lv_aload_n hx hb dX10_readWord_41 rfl (lv_at hl 0 rfl) ?_
  refine lv_aload_n hx hb dX10_readWord_42 rfl (lv_at hl 0 rfl) ?_
  refine cg_X10_25 hC hH dX10_readWord_43 ?_
  obtain ⟨x_30, u_31, h_32, hF⟩ := ncl_some hF
  obtain ⟨e_33, rfl⟩ := nRF_eq h_32
  refine gx_ti e_33 ?_
  refine lv_aload_n hx hb dX10_readWord_46 rfl (lv_at hl 0 rfl) ?_
  refine cg_X10_36 hC hH dX10_readWord_47 ?_
  obtain ⟨x_34, u_35, h_36, hF⟩ := ncl_some hF
  obtain ⟨e_37, rfl⟩ := nRF_eq h_36
  refine gx_ti e_37 ?_
  refine lv_isub hx hb dX10_readWord_50 ?_
  refine lv_bipush (v := 10) hx hb dX10_readWord_51 (by decide) ?_
  refine lv_icmp_le (tgt := 60) hx hb dX10_readWord_53 (by decide) (fun c_38 => ?_) (fun c_38 => ?_)
  · rw [if_pos c_38] at hF
    refine lv_aload_n hx hb dX10_readWord_60 rfl (lv_at hl 0 rfl) ?_
    obtain ⟨r_39, u_40, h_41, hF⟩ := ncl_some hF
    refine ccV_i (q0 := 2) (As := []) (rest := [.ref (Q 2)]) hC hH (n_X10_wordKind l G Z Q _ T u u_40 r_39 _ h_41) rfl rfl ⟨wkc_X10_wordKind, wka154, wka661, wka662, wka754⟩ kVX10_wordKind ⟨Nat.le_of_ble_eq_true rfl, Nat.le_of_ble_eq_true rfl⟩ rfl hl.1 rfl (Nat.le_of_ble_eq_true rfl) dX10_readWord_61 (fun D H locs hH => ?_)
    obtain ⟨y_45, u_42, h_44, hF⟩ := ncl_some hF
    have e_43 := nWF_eq h_44
    refine cp_X10_39 hC hH e_43 dX10_readWord_64 (fun H locs hH => ?_)
    exact cr_v hC hH hr (nrt_eq hF) dX10_readWord_67 hlocks
  · rw [if_neg c_38] at hF
    refine lv_iconst (v := 1) hx hb dX10_readWord_56 (by decide) ?_
    refine lv_goto (tgt := 64) hx hb dX10_readWord_57 (by decide) ?_
    obtain ⟨y_49, u_46, h_48, hF⟩ := ncl_some hF
    have e_47 := nWF_eq h_48
    refine cp_X10_39 hC hH e_47 dX10_readWord_64 (fun H locs hH => ?_)
    exact cr_v hC hH hr (nrt_eq hF) dX10_readWord_67 hlocks
def xl_X10_readToken_0 : Nat → (NG Int32) → NG Int32
  | 0, _ => fun _ => none
  | n0 + 1, K0_41 => ncl (nRF 3) (fun x_1 => ncl (nRF 2) (fun x_5 => (if x_5 ≤ x_1 then K0_41  else ncl (nRF 3) (fun x_10 => ncl (nGT 4 3000 x_10) (fun x_14 => ncl (x_X10_isBlank x_14) (fun r_18 => (if r_18 = 0 then K0_41  else ncl (nRF 3) (fun x_22 => ncl (nWF 3 (x_22 + 1)) (fun _ => xl_X10_readToken_0 n0  K0_41)))))))))
def x_X10_readToken : NG Int32 := xl_X10_readToken_0 fuel  (ncl (nRF 3) (fun x_30 => ncl (nWF 5 x_30) (fun _ => ncl (nRF 3) (fun x_38 => ncl (nRF 2) (fun x_42 => (if x_38 < x_42 then ncl (nRF 3) (fun x_47 => ncl (nGT 4 3000 x_47) (fun x_51 => ncl (x_X10_isLetter x_51) (fun r_55 => (if r_55 = 0 then ncl (x_X10_isDigit x_51) (fun r_59 => (if r_59 = 0 then ncl (nRF 3) (fun x_63 => ncl (nWF 3 (x_63 + 1)) (fun _ => ncl (x_X10_markOf x_51) (fun r_71 => ncl (nWF 4 r_71) (fun _ => nrt 0)))) else ncl (x_X10_readNumber) (fun r_78 => nrt 0))) else ncl (x_X10_readWord) (fun r_81 => nrt 0))))) else ncl (nWF 4 0) (fun _ => nrt 0)))))))
set_option maxHeartbeats 4000000 in
set_option maxRecDepth 100000 in
theorem n_X10_readToken (l : Launch) (G : gG) (Z : gC) (Q : Nat → Nat) (D : Nat × Nat) (T : va_W) (u u1 : MS) (r : Int32) (sz : Nat) (hF : x_X10_readToken u = some (r, u1)) : Met l yX10_readToken (Cond.code yX10_readToken cX10_readToken 2 none :: wK) { frames := 7, cells := 0, slots := 0, locals := 147 } (va_Pc [.ref (Q 2)] (cPM G Z Q D T u sz)) (cQv G Q T u1 (va_A (cW G Q D T u) sz)) 0 0 (va_A (cW G Q D T u) sz) := by
  refine Met.ofW (cc := cX10_readToken) (maxL := 2) (ret := none) (by decide) rfl ?_
  intro p e s m args below meth c s₁ B hml hv
  obtain ⟨rfl, rfl, hP, hB, hD0, hE⟩ := hv
  have hr := B.returns
  have hlocks := B.notSynchronized
  have hts := atoms_spec (ws := Cond.code yX10_readToken cX10_readToken 2 none :: wK) B.pre
  have hD := hD0.self (sz := s.heap.size)
  have hA : ∀ q : Nat, s.heap.size ≤ q → va_A (cW G Q D T u) s.heap.size q := fun q h => Or.inr h
  generalize va_A (cW G Q D T u) s.heap.size = A at hD hA hE ⊢
  have hC : cX p c cX10_readToken 2 s m _ RX10 G Z A := ⟨B.exec, B.bytes, hml, findClass_of_methodNamed B.named, fun w h => hts w (List.mem_cons_of_mem _ h), hB, hE, hA⟩
  have hx := hC.1
  have hb := hC.2.1
  have hH : cH G Q D T A u s s.heap [] := ⟨hP, hD, va_S.rf⟩
  have hl := lv_entry ([.ref (Q 2)]) (n := 2) (Nat.le_of_ble_eq_true rfl)
  rw [lg_entry_eq]
  generalize (lg_sl ([.ref (Q 2)]) ++ List.replicate (2 - (lg_sl ([.ref (Q 2)])).length) Slot.unset).toArray = ls at hl ⊢
  have hl : lv_has ls 2 [(0, .ref (Q 2))] := hl
  unfold x_X10_readToken at hF
  have hL0 : ∀ (K0_41 : NG Int32), (∀ (u : MS) (D : Nat × Nat) (H : Heap) (locs : List Loc) (ls : Array Slot), lv_has ls 2 [(0, .ref (Q 2))] → cH G Q D T A u s H locs → K0_41  u = some (r, u1) → W p l e (headSpec (Cond.code yX10_readToken cX10_readToken 2 none :: wK) { frames := 7, cells := 0, slots := 0, locals := 147 }).room s m [.ref (Q 2)].toArray below meth c H locs 0 0 (MQ below (cQv G Q T u1 A) [.ref (Q 2)].toArray s 0 0 A) (F0 m 41 ls [])) → ∀ (n0 : Nat) (u : MS) (D : Nat × Nat) (H : Heap) (locs : List Loc) (ls : Array Slot), lv_has ls 2 [(0, .ref (Q 2))] → cH G Q D T A u s H locs → xl_X10_readToken_0 n0  K0_41 u = some (r, u1) → W p l e (headSpec (Cond.code yX10_readToken cX10_readToken 2 none :: wK) { frames := 7, cells := 0, slots := 0, locals := 147 }).room s m [.ref (Q 2)].toArray below meth c H locs 0 0 (MQ below (cQv G Q T u1 A) [.ref (Q 2)].toArray s 0 0 A) (F0 m 0 ls []) := by
    intro K0_41 hK0_41 n0
    induction n0 with
    | zero => intro  u D H locs ls hl hH hF; cases hF
    | succ n0 ih0 =>
      intro  u D H locs ls hl hH hF
      unfold xl_X10_readToken_0 at hF
      refine lv_aload_n hx hb dX10_readToken_0 rfl (lv_at hl 0 rfl) ?_
      refine cg_X10_25 hC hH dX10_readToken_1 ?_
      obtain ⟨x_1, u_2, h_3, hF⟩ := ncl_some hF
      obtain ⟨e_4, rfl⟩ := nRF_eq h_3
      refine gx_ti e_4 ?_
      refine lv_aload_n hx hb dX10_readToken_4 rfl (lv_at hl 0 rfl) ?_
      refine cg_X10_18 hC hH dX10_readToken_5 ?_
      obtain ⟨x_5, u_6, h_7, hF⟩ := ncl_some hF
      obtain ⟨e_8, rfl⟩ := nRF_eq h_7
      refine gx_ti e_8 ?_
      refine lv_icmp_ge (tgt := 41) hx hb dX10_readToken_8 (by decide) (fun c_9 => ?_) (fun c_9 => ?_)
      · rw [if_pos c_9] at hF
        exact hK0_41  u _ _ _ _ (lv_sub hl [0] rfl) hH hF
      · rw [if_neg c_9] at hF
        refine lv_aload_n hx hb dX10_readToken_11 rfl (lv_at hl 0 rfl) ?_
        refine cg_X10_14 hC hH dX10_readToken_12 ?_
        refine lv_aload_n hx hb dX10_readToken_15 rfl (lv_at hl 0 rfl) ?_
        refine cg_X10_25 hC hH dX10_readToken_16 ?_
        obtain ⟨x_10, u_11, h_12, hF⟩ := ncl_some hF
        obtain ⟨e_13, rfl⟩ := nRF_eq h_12
        refine gx_ti e_13 ?_
        refine rg_3 hC hH wka150 ⟨Nat.le_of_ble_eq_true rfl, Nat.le_of_ble_eq_true rfl⟩ hl.1 (Nat.le_of_ble_eq_true rfl) ⟨Nat.zero_le _, Nat.zero_le _⟩ dX10_readToken_19 ?_
        obtain ⟨x_14, u_15, h_16, hF⟩ := ncl_some hF
        obtain ⟨e_17, rfl⟩ := nGT_eq h_16
        refine gx_ti e_17 ?_
        obtain ⟨r_18, u_19, h_20, hF⟩ := ncl_some hF
        refine ccS_i (As := [.int x_14]) (rest := []) hC hH (n_X10_isBlank l G Z Q _ T u u_19 r_18 x_14 _ h_20) ⟨wkc_X10_isBlank, wka151, wka669, wka754⟩ kSX10_isBlank ⟨Nat.le_of_ble_eq_true rfl, Nat.le_of_ble_eq_true rfl⟩ rfl hl.1 rfl (Nat.le_of_ble_eq_true rfl) dX10_readToken_22 (fun D H locs hH => ?_)
        refine lv_if_eq (tgt := 41) hx hb dX10_readToken_25 (by decide) (fun c_21 => ?_) (fun c_21 => ?_)
        · rw [if_pos c_21] at hF
          exact hK0_41  u_19 _ _ _ _ (lv_sub hl [0] rfl) hH hF
        · rw [if_neg c_21] at hF
          refine lv_aload_n hx hb dX10_readToken_28 rfl (lv_at hl 0 rfl) ?_
          refine lv_dup hx hb dX10_readToken_29 rfl ?_
          refine cg_X10_25 hC hH dX10_readToken_30 ?_
          obtain ⟨x_22, u_23, h_24, hF⟩ := ncl_some hF
          obtain ⟨e_25, rfl⟩ := nRF_eq h_24
          refine gx_ti e_25 ?_
          refine lv_iconst (v := 1) hx hb dX10_readToken_33 (by decide) ?_
          refine lv_iadd hx hb dX10_readToken_34 ?_
          obtain ⟨y_29, u_26, h_28, hF⟩ := ncl_some hF
          have e_27 := nWF_eq h_28
          refine cp_X10_25 hC hH e_27 dX10_readToken_35 (fun H locs hH => ?_)
          refine lv_goto (tgt := 0) hx hb dX10_readToken_38 (by decide) ?_
          exact ih0  u_26 _ _ _ _ (lv_sub hl [0] rfl) hH hF
  refine hL0 _ (fun  u D H locs ls hl hH hF => ?_) fuel  u _ _ _ _ (lv_sub hl [0] rfl) hH hF
  refine lv_aload_n hx hb dX10_readToken_41 rfl (lv_at hl 0 rfl) ?_
  refine lv_aload_n hx hb dX10_readToken_42 rfl (lv_at hl 0 rfl) ?_
  refine cg_X10_25 hC hH dX10_readToken_43 ?_
  obtain ⟨x_30, u_31, h_32, hF⟩ := ncl_some hF
  obtain ⟨e_33, rfl⟩ := nRF_eq h_32
  refine gx_ti e_33 ?_
  obtain ⟨y_37, u_34, h_36, hF⟩ := ncl_some hF
  have e_35 := nWF_eq h_36
  refine cp_X10_36 hC hH e_35 dX10_readToken_46 (fun H locs hH => ?_)
  refine lv_aload_n hx hb dX10_readToken_49 rfl (lv_at hl 0 rfl) ?_
  refine cg_X10_25 hC hH dX10_readToken_50 ?_
  obtain ⟨x_38, u_39, h_40, hF⟩ := ncl_some hF
  obtain ⟨e_41, rfl⟩ := nRF_eq h_40
  refine gx_ti e_41 ?_
  refine lv_aload_n hx hb dX10_readToken_53 rfl (lv_at hl 0 rfl) ?_
  refine cg_X10_18 hC hH dX10_readToken_54 ?_
  obtain ⟨x_42, u_43, h_44, hF⟩ := ncl_some hF
  obtain ⟨e_45, rfl⟩ := nRF_eq h_44
  refine gx_ti e_45 ?_
  refine lv_icmp_lt (tgt := 66) hx hb dX10_readToken_57 (by decide) (fun c_46 => ?_) (fun c_46 => ?_)
  · rw [if_pos c_46] at hF
    refine lv_aload_n hx hb dX10_readToken_66 rfl (lv_at hl 0 rfl) ?_
    refine cg_X10_14 hC hH dX10_readToken_67 ?_
    refine lv_aload_n hx hb dX10_readToken_70 rfl (lv_at hl 0 rfl) ?_
    refine cg_X10_25 hC hH dX10_readToken_71 ?_
    obtain ⟨x_47, u_48, h_49, hF⟩ := ncl_some hF
    obtain ⟨e_50, rfl⟩ := nRF_eq h_49
    refine gx_ti e_50 ?_
    refine rg_3 hC hH wka150 ⟨Nat.le_of_ble_eq_true rfl, Nat.le_of_ble_eq_true rfl⟩ hl.1 (Nat.le_of_ble_eq_true rfl) ⟨Nat.zero_le _, Nat.zero_le _⟩ dX10_readToken_74 ?_
    obtain ⟨x_51, u_52, h_53, hF⟩ := ncl_some hF
    obtain ⟨e_54, rfl⟩ := nGT_eq h_53
    refine gx_ti e_54 ?_
    refine lv_istore_n (lv' := [(1, .int x_51), (0, .ref (Q 2))]) hx hb dX10_readToken_77 rfl hl (by decide) rfl (fun ls hl => ?_)
    refine lv_iload_n hx hb dX10_readToken_78 rfl (lv_at hl 0 rfl) ?_
    obtain ⟨r_55, u_56, h_57, hF⟩ := ncl_some hF
    refine ccS_i (As := [.int x_51]) (rest := []) hC hH (n_X10_isLetter l G Z Q _ T u_34 u_56 r_55 x_51 _ h_57) ⟨wkc_X10_isLetter, wka152, wka670, wka754⟩ kSX10_isLetter ⟨Nat.le_of_ble_eq_true rfl, Nat.le_of_ble_eq_true rfl⟩ rfl hl.1 rfl (Nat.le_of_ble_eq_true rfl) dX10_readToken_79 (fun D H locs hH => ?_)
    refine lv_if_eq (tgt := 92) hx hb dX10_readToken_82 (by decide) (fun c_58 => ?_) (fun c_58 => ?_)
    · rw [if_pos c_58] at hF
      refine lv_iload_n hx hb dX10_readToken_92 rfl (lv_at hl 0 rfl) ?_
      obtain ⟨r_59, u_60, h_61, hF⟩ := ncl_some hF
      refine ccS_i (As := [.int x_51]) (rest := []) hC hH (n_X10_isDigit l G Z Q _ T u_56 u_60 r_59 x_51 _ h_61) ⟨wkc_X10_isDigit, wka158, wka671, wka754⟩ kSX10_isDigit ⟨Nat.le_of_ble_eq_true rfl, Nat.le_of_ble_eq_true rfl⟩ rfl hl.1 rfl (Nat.le_of_ble_eq_true rfl) dX10_readToken_93 (fun D H locs hH => ?_)
      refine lv_if_eq (tgt := 106) hx hb dX10_readToken_96 (by decide) (fun c_62 => ?_) (fun c_62 => ?_)
      · rw [if_pos c_62] at hF
        refine lv_aload_n hx hb dX10_readToken_106 rfl (lv_at hl 1 rfl) ?_
        refine lv_dup hx hb dX10_readToken_107 rfl ?_
        refine cg_X10_25 hC hH dX10_readToken_108 ?_
        obtain ⟨x_63, u_64, h_65, hF⟩ := ncl_some hF
        obtain ⟨e_66, rfl⟩ := nRF_eq h_65
        refine gx_ti e_66 ?_
        refine lv_iconst (v := 1) hx hb dX10_readToken_111 (by decide) ?_
        refine lv_iadd hx hb dX10_readToken_112 ?_
        obtain ⟨y_70, u_67, h_69, hF⟩ := ncl_some hF
        have e_68 := nWF_eq h_69
        refine cp_X10_25 hC hH e_68 dX10_readToken_113 (fun H locs hH => ?_)
        refine lv_aload_n hx hb dX10_readToken_116 rfl (lv_at hl 1 rfl) ?_
        refine lv_aload_n hx hb dX10_readToken_117 rfl (lv_at hl 1 rfl) ?_
        refine lv_iload_n hx hb dX10_readToken_118 rfl (lv_at hl 0 rfl) ?_
        obtain ⟨r_71, u_72, h_73, hF⟩ := ncl_some hF
        refine ccV_i (q0 := 2) (As := [.int x_51]) (rest := [.ref (Q 2)]) hC hH (n_X10_markOf l G Z Q _ T u_67 u_72 r_71 x_51 _ h_73) rfl rfl ⟨wkc_X10_markOf, wka160, wka657, wka658, wka754⟩ kVX10_markOf ⟨Nat.le_of_ble_eq_true rfl, Nat.le_of_ble_eq_true rfl⟩ rfl hl.1 rfl (Nat.le_of_ble_eq_true rfl) dX10_readToken_119 (fun D H locs hH => ?_)
        obtain ⟨y_77, u_74, h_76, hF⟩ := ncl_some hF
        have e_75 := nWF_eq h_76
        refine cp_X10_39 hC hH e_75 dX10_readToken_122 (fun H locs hH => ?_)
        exact cr_v hC hH hr (nrt_eq hF) dX10_readToken_125 hlocks
      · rw [if_neg c_62] at hF
        refine lv_aload_n hx hb dX10_readToken_99 rfl (lv_at hl 1 rfl) ?_
        obtain ⟨r_78, u_79, h_80, hF⟩ := ncl_some hF
        refine ccV_v (q0 := 2) (As := []) (rest := []) hC hH (n_X10_readNumber l G Z Q _ T u_60 u_79 r_78 _ h_80) rfl rfl ⟨wkc_X10_readNumber, wka159, wka655, wka656, wka754⟩ kVX10_readNumber ⟨Nat.le_of_ble_eq_true rfl, Nat.le_of_ble_eq_true rfl⟩ rfl hl.1 rfl (Nat.le_of_ble_eq_true rfl) dX10_readToken_100 (fun D H locs hH => ?_)
        refine lv_goto (tgt := 125) hx hb dX10_readToken_103 (by decide) ?_
        exact cr_v hC hH hr (nrt_eq hF) dX10_readToken_125 hlocks
    · rw [if_neg c_58] at hF
      refine lv_aload_n hx hb dX10_readToken_85 rfl (lv_at hl 1 rfl) ?_
      obtain ⟨r_81, u_82, h_83, hF⟩ := ncl_some hF
      refine ccV_v (q0 := 2) (As := []) (rest := []) hC hH (n_X10_readWord l G Z Q _ T u_56 u_82 r_81 _ h_83) rfl rfl ⟨wkc_X10_readWord, wka153, wka653, wka654, wka754⟩ kVX10_readWord ⟨Nat.le_of_ble_eq_true rfl, Nat.le_of_ble_eq_true rfl⟩ rfl hl.1 rfl (Nat.le_of_ble_eq_true rfl) dX10_readToken_86 (fun D H locs hH => ?_)
      refine lv_goto (tgt := 125) hx hb dX10_readToken_89 (by decide) ?_
      exact cr_v hC hH hr (nrt_eq hF) dX10_readToken_125 hlocks
  · rw [if_neg c_46] at hF
    refine lv_aload_n hx hb dX10_readToken_60 rfl (lv_at hl 0 rfl) ?_
    refine lv_iconst (v := 0) hx hb dX10_readToken_61 (by decide) ?_
    obtain ⟨y_87, u_84, h_86, hF⟩ := ncl_some hF
    have e_85 := nWF_eq h_86
    refine cp_X10_39 hC hH e_85 dX10_readToken_62 (fun H locs hH => ?_)
    exact cr_v hC hH hr (nrt_eq hF) dX10_readToken_65 hlocks
def x_X5_fail (a0 : Int32) : NG Int32 := ncl (nWF 11 a0) (fun _ => ncl (nRF 5) (fun x_5 => ncl (nWF 10 x_5) (fun _ => nrt 0)))
set_option maxHeartbeats 4000000 in
set_option maxRecDepth 100000 in
theorem n_X5_fail (l : Launch) (G : gG) (Z : gC) (Q : Nat → Nat) (D : Nat × Nat) (T : va_W) (u u1 : MS) (r : Int32) (a0 : Int32) (sz : Nat) (hF : x_X5_fail a0 u = some (r, u1)) : Met l yX5_fail (Cond.code yX5_fail cX5_fail 2 none :: wK) { frames := 0, cells := 0, slots := 0, locals := 0 } (va_Pc [.ref (Q 3), .int a0] (cPM G Z Q D T u sz)) (cQv G Q T u1 (va_A (cW G Q D T u) sz)) 0 0 (va_A (cW G Q D T u) sz) := by
  refine Met.ofW (cc := cX5_fail) (maxL := 2) (ret := none) (by decide) rfl ?_
  intro p e s m args below meth c s₁ B hml hv
  obtain ⟨rfl, rfl, hP, hB, hD0, hE⟩ := hv
  have hr := B.returns
  have hlocks := B.notSynchronized
  have hts := atoms_spec (ws := Cond.code yX5_fail cX5_fail 2 none :: wK) B.pre
  have hD := hD0.self (sz := s.heap.size)
  have hA : ∀ q : Nat, s.heap.size ≤ q → va_A (cW G Q D T u) s.heap.size q := fun q h => Or.inr h
  generalize va_A (cW G Q D T u) s.heap.size = A at hD hA hE ⊢
  have hC : cX p c cX5_fail 2 s m _ RX5 G Z A := ⟨B.exec, B.bytes, hml, findClass_of_methodNamed B.named, fun w h => hts w (List.mem_cons_of_mem _ h), hB, hE, hA⟩
  have hx := hC.1
  have hb := hC.2.1
  have hH : cH G Q D T A u s s.heap [] := ⟨hP, hD, va_S.rf⟩
  have hl := lv_entry ([.ref (Q 3), .int a0]) (n := 2) (Nat.le_of_ble_eq_true rfl)
  rw [lg_entry_eq]
  generalize (lg_sl ([.ref (Q 3), .int a0]) ++ List.replicate (2 - (lg_sl ([.ref (Q 3), .int a0])).length) Slot.unset).toArray = ls at hl ⊢
  have hl : lv_has ls 2 [(0, .ref (Q 3)), (1, .int a0)] := hl
  unfold x_X5_fail at hF
  refine lv_aload_n hx hb dX5_fail_0 rfl (lv_at hl 0 rfl) ?_
  refine lv_iload_n hx hb dX5_fail_1 rfl (lv_at hl 1 rfl) ?_
  obtain ⟨y_4, u_1, h_3, hF⟩ := ncl_some hF
  have e_2 := nWF_eq h_3
  refine cp_X5_49 hC hH e_2 dX5_fail_2 (fun H locs hH => ?_)
  refine lv_aload_n hx hb dX5_fail_5 rfl (lv_at hl 0 rfl) ?_
  refine lv_aload_n hx hb dX5_fail_6 rfl (lv_at hl 0 rfl) ?_
  refine cg_X5_9 hC hH dX5_fail_7 ?_
  refine cg_X5_74 hC hH dX5_fail_10 ?_
  obtain ⟨x_5, u_6, h_7, hF⟩ := ncl_some hF
  obtain ⟨e_8, rfl⟩ := nRF_eq h_7
  refine gx_ti e_8 ?_
  obtain ⟨y_12, u_9, h_11, hF⟩ := ncl_some hF
  have e_10 := nWF_eq h_11
  refine cp_X5_37 hC hH e_10 dX5_fail_13 (fun H locs hH => ?_)
  exact cr_v hC hH hr (nrt_eq hF) dX5_fail_16 hlocks
def x_X5_goIfRoom (a0 : Int32) (a1 : Int32) : NG Int32 := (if a0 = 0 then ncl (x_X5_fail 3) (fun r_2 => nrt 0) else ncl (nWF 12 a1) (fun _ => nrt 0))
set_option maxHeartbeats 4000000 in
set_option maxRecDepth 100000 in
theorem n_X5_goIfRoom (l : Launch) (G : gG) (Z : gC) (Q : Nat → Nat) (D : Nat × Nat) (T : va_W) (u u1 : MS) (r : Int32) (a0 : Int32) (a1 : Int32) (sz : Nat) (hF : x_X5_goIfRoom a0 a1 u = some (r, u1)) : Met l yX5_goIfRoom (Cond.code yX5_goIfRoom cX5_goIfRoom 3 none :: wK) { frames := 1, cells := 0, slots := 0, locals := 21 } (va_Pc [.ref (Q 3), .int a0, .int a1] (cPM G Z Q D T u sz)) (cQv G Q T u1 (va_A (cW G Q D T u) sz)) 0 0 (va_A (cW G Q D T u) sz) := by
  refine Met.ofW (cc := cX5_goIfRoom) (maxL := 3) (ret := none) (by decide) rfl ?_
  intro p e s m args below meth c s₁ B hml hv
  obtain ⟨rfl, rfl, hP, hB, hD0, hE⟩ := hv
  have hr := B.returns
  have hlocks := B.notSynchronized
  have hts := atoms_spec (ws := Cond.code yX5_goIfRoom cX5_goIfRoom 3 none :: wK) B.pre
  have hD := hD0.self (sz := s.heap.size)
  have hA : ∀ q : Nat, s.heap.size ≤ q → va_A (cW G Q D T u) s.heap.size q := fun q h => Or.inr h
  generalize va_A (cW G Q D T u) s.heap.size = A at hD hA hE ⊢
  have hC : cX p c cX5_goIfRoom 3 s m _ RX5 G Z A := ⟨B.exec, B.bytes, hml, findClass_of_methodNamed B.named, fun w h => hts w (List.mem_cons_of_mem _ h), hB, hE, hA⟩
  have hx := hC.1
  have hb := hC.2.1
  have hH : cH G Q D T A u s s.heap [] := ⟨hP, hD, va_S.rf⟩
  have hl := lv_entry ([.ref (Q 3), .int a0, .int a1]) (n := 3) (Nat.le_of_ble_eq_true rfl)
  rw [lg_entry_eq]
  generalize (lg_sl ([.ref (Q 3), .int a0, .int a1]) ++ List.replicate (3 - (lg_sl ([.ref (Q 3), .int a0, .int a1])).length) Slot.unset).toArray = ls at hl ⊢
  have hl : lv_has ls 3 [(0, .ref (Q 3)), (1, .int a0), (2, .int a1)] := hl
  unfold x_X5_goIfRoom at hF
  refine lv_iload_n hx hb dX5_goIfRoom_0 rfl (lv_at hl 1 rfl) ?_
  refine lv_if_eq (tgt := 12) hx hb dX5_goIfRoom_1 (by decide) (fun c_1 => ?_) (fun c_1 => ?_)
  · rw [if_pos c_1] at hF
    refine lv_aload_n hx hb dX5_goIfRoom_12 rfl (lv_at hl 0 rfl) ?_
    refine lv_iconst (v := 3) hx hb dX5_goIfRoom_13 (by decide) ?_
    obtain ⟨r_2, u_3, h_4, hF⟩ := ncl_some hF
    refine ccV_v (q0 := 3) (As := [.int 3]) (rest := []) hC hH (n_X5_fail l G Z Q _ T u u_3 r_2 3 _ h_4) rfl rfl ⟨wkc_X5_fail, wka166, wka532, wka533, wka749⟩ kVX5_fail ⟨Nat.le_of_ble_eq_true rfl, Nat.le_of_ble_eq_true rfl⟩ rfl hl.1 rfl (Nat.le_of_ble_eq_true rfl) dX5_goIfRoom_14 (fun D H locs hH => ?_)
    exact cr_v hC hH hr (nrt_eq hF) dX5_goIfRoom_17 hlocks
  · rw [if_neg c_1] at hF
    refine lv_aload_n hx hb dX5_goIfRoom_4 rfl (lv_at hl 0 rfl) ?_
    refine lv_iload_n hx hb dX5_goIfRoom_5 rfl (lv_at hl 2 rfl) ?_
    obtain ⟨y_8, u_5, h_7, hF⟩ := ncl_some hF
    have e_6 := nWF_eq h_7
    refine cp_X5_52 hC hH e_6 dX5_goIfRoom_6 (fun H locs hH => ?_)
    refine lv_goto (tgt := 17) hx hb dX5_goIfRoom_9 (by decide) ?_
    exact cr_v hC hH hr (nrt_eq hF) dX5_goIfRoom_17 hlocks
def x_X5_takeSignOrLine (a0 : Int32) : NG Int32 := (if a0 = 0 then ncl (nWF 12 17) (fun _ => nrt 0) else (if a0 = 6 then ncl (nRF 12) (fun x_26 => (if x_26 = 6 then ncl (nRF 22) (fun x_54 => (if 8 ≤ x_54 then ncl (x_X5_goIfRoom 0 7) (fun r_59 => nrt 0) else ncl (x_X5_goIfRoom 1 7) (fun r_62 => nrt 0))) else (if a0 = 7 then ncl (nRF 23) (fun x_35 => ncl (nST 10 20 x_35 1) (fun _ => ncl (nRF 23) (fun x_43 => (if 20 ≤ x_43 then ncl (x_X5_goIfRoom 0 10) (fun r_48 => nrt 0) else ncl (x_X5_goIfRoom 1 10) (fun r_51 => nrt 0))))) else ncl (x_X5_fail 1) (fun r_32 => nrt 0)))) else (if a0 = 7 then ncl (nRF 23) (fun x_7 => ncl (nST 10 20 x_7 1) (fun _ => ncl (nRF 23) (fun x_15 => (if 20 ≤ x_15 then ncl (x_X5_goIfRoom 0 10) (fun r_20 => nrt 0) else ncl (x_X5_goIfRoom 1 10) (fun r_23 => nrt 0))))) else ncl (x_X5_fail 1) (fun r_4 => nrt 0))))
set_option maxHeartbeats 4000000 in
set_option maxRecDepth 100000 in
theorem n_X5_takeSignOrLine (l : Launch) (G : gG) (Z : gC) (Q : Nat → Nat) (D : Nat × Nat) (T : va_W) (u u1 : MS) (r : Int32) (a0 : Int32) (sz : Nat) (hF : x_X5_takeSignOrLine a0 u = some (r, u1)) : Met l yX5_takeSignOrLine (Cond.code yX5_takeSignOrLine cX5_takeSignOrLine 2 none :: wK) { frames := 2, cells := 0, slots := 0, locals := 43 } (va_Pc [.ref (Q 3), .int a0] (cPM G Z Q D T u sz)) (cQv G Q T u1 (va_A (cW G Q D T u) sz)) 0 0 (va_A (cW G Q D T u) sz) := by
  refine Met.ofW (cc := cX5_takeSignOrLine) (maxL := 2) (ret := none) (by decide) rfl ?_
  intro p e s m args below meth c s₁ B hml hv
  obtain ⟨rfl, rfl, hP, hB, hD0, hE⟩ := hv
  have hr := B.returns
  have hlocks := B.notSynchronized
  have hts := atoms_spec (ws := Cond.code yX5_takeSignOrLine cX5_takeSignOrLine 2 none :: wK) B.pre
  have hD := hD0.self (sz := s.heap.size)
  have hA : ∀ q : Nat, s.heap.size ≤ q → va_A (cW G Q D T u) s.heap.size q := fun q h => Or.inr h
  generalize va_A (cW G Q D T u) s.heap.size = A at hD hA hE ⊢
  have hC : cX p c cX5_takeSignOrLine 2 s m _ RX5 G Z A := ⟨B.exec, B.bytes, hml, findClass_of_methodNamed B.named, fun w h => hts w (List.mem_cons_of_mem _ h), hB, hE, hA⟩
  have hx := hC.1
  have hb := hC.2.1
  have hH : cH G Q D T A u s s.heap [] := ⟨hP, hD, va_S.rf⟩
  have hl := lv_entry ([.ref (Q 3), .int a0]) (n := 2) (Nat.le_of_ble_eq_true rfl)
  rw [lg_entry_eq]
  generalize (lg_sl ([.ref (Q 3), .int a0]) ++ List.replicate (2 - (lg_sl ([.ref (Q 3), .int a0])).length) Slot.unset).toArray = ls at hl ⊢
  have hl : lv_has ls 2 [(0, .ref (Q 3)), (1, .int a0)] := hl
  unfold x_X5_takeSignOrLine at hF
  refine lv_iload_n hx hb dX5_takeSignOrLine_0 rfl (lv_at hl 1 rfl) ?_
  refine lv_if_ne (tgt := 13) hx hb dX5_takeSignOrLine_1 (by decide) (fun c_1 => ?_) (fun c_1 => ?_)
  · rw [if_neg c_1] at hF
    refine lv_iload_n hx hb dX5_takeSignOrLine_13 rfl (lv_at hl 1 rfl) ?_
    refine lv_bipush (v := 6) hx hb dX5_takeSignOrLine_14 (by decide) ?_
    refine lv_icmp_ne (tgt := 54) hx hb dX5_takeSignOrLine_16 (by decide) (fun c_2 => ?_) (fun c_2 => ?_)
    · rw [if_neg c_2] at hF
      refine lv_iload_n hx hb dX5_takeSignOrLine_54 rfl (lv_at hl 1 rfl) ?_
      refine lv_bipush (v := 7) hx hb dX5_takeSignOrLine_55 (by decide) ?_
      refine lv_icmp_ne (tgt := 104) hx hb dX5_takeSignOrLine_57 (by decide) (fun c_3 => ?_) (fun c_3 => ?_)
      · rw [if_neg c_3] at hF
        refine lv_aload_n hx hb dX5_takeSignOrLine_104 rfl (lv_at hl 0 rfl) ?_
        refine lv_iconst (v := 1) hx hb dX5_takeSignOrLine_105 (by decide) ?_
        obtain ⟨r_4, u_5, h_6, hF⟩ := ncl_some hF
        refine ccV_v (q0 := 3) (As := [.int 1]) (rest := []) hC hH (n_X5_fail l G Z Q _ T u u_5 r_4 1 _ h_6) rfl rfl ⟨wkc_X5_fail, wka166, wka532, wka533, wka749⟩ kVX5_fail ⟨Nat.le_of_ble_eq_true rfl, Nat.le_of_ble_eq_true rfl⟩ rfl hl.1 rfl (Nat.le_of_ble_eq_true rfl) dX5_takeSignOrLine_106 (fun D H locs hH => ?_)
        exact cr_v hC hH hr (nrt_eq hF) dX5_takeSignOrLine_109 hlocks
      · rw [if_pos c_3] at hF
        refine lv_aload_n hx hb dX5_takeSignOrLine_60 rfl (lv_at hl 0 rfl) ?_
        refine cg_X5_33 hC hH dX5_takeSignOrLine_61 ?_
        refine cg_X5_136 hC hH dX5_takeSignOrLine_64 ?_
        refine lv_aload_n hx hb dX5_takeSignOrLine_67 rfl (lv_at hl 0 rfl) ?_
        refine cg_X5_33 hC hH dX5_takeSignOrLine_68 ?_
        refine cg_X5_139 hC hH dX5_takeSignOrLine_71 ?_
        obtain ⟨x_7, u_8, h_9, hF⟩ := ncl_some hF
        obtain ⟨e_10, rfl⟩ := nRF_eq h_9
        refine gx_ti e_10 ?_
        refine lv_iconst (v := 1) hx hb dX5_takeSignOrLine_74 (by decide) ?_
        obtain ⟨y_14, u_11, h_13, hF⟩ := ncl_some hF
        have e_12 := nST_eq h_13
        refine rs_9 hC hH e_12 wka174 ⟨Nat.le_of_ble_eq_true rfl, Nat.le_of_ble_eq_true rfl⟩ hl.1 (Nat.le_of_ble_eq_true rfl) ⟨Nat.zero_le _, Nat.zero_le _⟩ dX5_takeSignOrLine_75 (fun H locs hH => ?_)
        refine lv_aload_n hx hb dX5_takeSignOrLine_78 rfl (lv_at hl 0 rfl) ?_
        refine lv_aload_n hx hb dX5_takeSignOrLine_79 rfl (lv_at hl 0 rfl) ?_
        refine cg_X5_33 hC hH dX5_takeSignOrLine_80 ?_
        refine cg_X5_139 hC hH dX5_takeSignOrLine_83 ?_
        obtain ⟨x_15, u_16, h_17, hF⟩ := ncl_some hF
        obtain ⟨e_18, rfl⟩ := nRF_eq h_17
        refine gx_ti e_18 ?_
        refine lv_bipush (v := 20) hx hb dX5_takeSignOrLine_86 (by decide) ?_
        refine lv_icmp_ge (tgt := 95) hx hb dX5_takeSignOrLine_88 (by decide) (fun c_19 => ?_) (fun c_19 => ?_)
        · rw [if_pos c_19] at hF
          refine lv_iconst (v := 0) hx hb dX5_takeSignOrLine_95 (by decide) ?_
          refine lv_bipush (v := 10) hx hb dX5_takeSignOrLine_96 (by decide) ?_
          obtain ⟨r_20, u_21, h_22, hF⟩ := ncl_some hF
          refine ccV_v (q0 := 3) (As := [.int 0, .int 10]) (rest := []) hC hH (n_X5_goIfRoom l G Z Q _ T u_11 u_21 r_20 0 10 _ h_22) rfl rfl ⟨wkc_X5_goIfRoom, wka173, wka542, wka543, wka749⟩ kVX5_goIfRoom ⟨Nat.le_of_ble_eq_true rfl, Nat.le_of_ble_eq_true rfl⟩ rfl hl.1 rfl (Nat.le_of_ble_eq_true rfl) dX5_takeSignOrLine_98 (fun D H locs hH => ?_)
          refine lv_goto (tgt := 109) hx hb dX5_takeSignOrLine_101 (by decide) ?_
          exact cr_v hC hH hr (nrt_eq hF) dX5_takeSignOrLine_109 hlocks
        · rw [if_neg c_19] at hF
          refine lv_iconst (v := 1) hx hb dX5_takeSignOrLine_91 (by decide) ?_
          refine lv_goto (tgt := 96) hx hb dX5_takeSignOrLine_92 (by decide) ?_
          refine lv_bipush (v := 10) hx hb dX5_takeSignOrLine_96 (by decide) ?_
          obtain ⟨r_23, u_24, h_25, hF⟩ := ncl_some hF
          refine ccV_v (q0 := 3) (As := [.int 1, .int 10]) (rest := []) hC hH (n_X5_goIfRoom l G Z Q _ T u_11 u_24 r_23 1 10 _ h_25) rfl rfl ⟨wkc_X5_goIfRoom, wka173, wka542, wka543, wka749⟩ kVX5_goIfRoom ⟨Nat.le_of_ble_eq_true rfl, Nat.le_of_ble_eq_true rfl⟩ rfl hl.1 rfl (Nat.le_of_ble_eq_true rfl) dX5_takeSignOrLine_98 (fun D H locs hH => ?_)
          refine lv_goto (tgt := 109) hx hb dX5_takeSignOrLine_101 (by decide) ?_
          exact cr_v hC hH hr (nrt_eq hF) dX5_takeSignOrLine_109 hlocks
    · rw [if_pos c_2] at hF
      refine lv_aload_n hx hb dX5_takeSignOrLine_19 rfl (lv_at hl 0 rfl) ?_
      refine cg_X5_52 hC hH dX5_takeSignOrLine_20 ?_
      obtain ⟨x_26, u_27, h_28, hF⟩ := ncl_some hF
      obtain ⟨e_29, rfl⟩ := nRF_eq h_28
      refine gx_ti e_29 ?_
      refine lv_bipush (v := 6) hx hb dX5_takeSignOrLine_23 (by decide) ?_
      refine lv_icmp_ne (tgt := 54) hx hb dX5_takeSignOrLine_25 (by decide) (fun c_30 => ?_) (fun c_30 => ?_)
      · rw [if_neg c_30] at hF
        refine lv_iload_n hx hb dX5_takeSignOrLine_54 rfl (lv_at hl 1 rfl) ?_
        refine lv_bipush (v := 7) hx hb dX5_takeSignOrLine_55 (by decide) ?_
        refine lv_icmp_ne (tgt := 104) hx hb dX5_takeSignOrLine_57 (by decide) (fun c_31 => ?_) (fun c_31 => ?_)
        · rw [if_neg c_31] at hF
          refine lv_aload_n hx hb dX5_takeSignOrLine_104 rfl (lv_at hl 0 rfl) ?_
          refine lv_iconst (v := 1) hx hb dX5_takeSignOrLine_105 (by decide) ?_
          obtain ⟨r_32, u_33, h_34, hF⟩ := ncl_some hF
          refine ccV_v (q0 := 3) (As := [.int 1]) (rest := []) hC hH (n_X5_fail l G Z Q _ T u u_33 r_32 1 _ h_34) rfl rfl ⟨wkc_X5_fail, wka166, wka532, wka533, wka749⟩ kVX5_fail ⟨Nat.le_of_ble_eq_true rfl, Nat.le_of_ble_eq_true rfl⟩ rfl hl.1 rfl (Nat.le_of_ble_eq_true rfl) dX5_takeSignOrLine_106 (fun D H locs hH => ?_)
          exact cr_v hC hH hr (nrt_eq hF) dX5_takeSignOrLine_109 hlocks
        · rw [if_pos c_31] at hF
          refine lv_aload_n hx hb dX5_takeSignOrLine_60 rfl (lv_at hl 0 rfl) ?_
          refine cg_X5_33 hC hH dX5_takeSignOrLine_61 ?_
          refine cg_X5_136 hC hH dX5_takeSignOrLine_64 ?_
          refine lv_aload_n hx hb dX5_takeSignOrLine_67 rfl (lv_at hl 0 rfl) ?_
          refine cg_X5_33 hC hH dX5_takeSignOrLine_68 ?_
          refine cg_X5_139 hC hH dX5_takeSignOrLine_71 ?_
          obtain ⟨x_35, u_36, h_37, hF⟩ := ncl_some hF
          obtain ⟨e_38, rfl⟩ := nRF_eq h_37
          refine gx_ti e_38 ?_
          refine lv_iconst (v := 1) hx hb dX5_takeSignOrLine_74 (by decide) ?_
          obtain ⟨y_42, u_39, h_41, hF⟩ := ncl_some hF
          have e_40 := nST_eq h_41
          refine rs_9 hC hH e_40 wka174 ⟨Nat.le_of_ble_eq_true rfl, Nat.le_of_ble_eq_true rfl⟩ hl.1 (Nat.le_of_ble_eq_true rfl) ⟨Nat.zero_le _, Nat.zero_le _⟩ dX5_takeSignOrLine_75 (fun H locs hH => ?_)
          refine lv_aload_n hx hb dX5_takeSignOrLine_78 rfl (lv_at hl 0 rfl) ?_
          refine lv_aload_n hx hb dX5_takeSignOrLine_79 rfl (lv_at hl 0 rfl) ?_
          refine cg_X5_33 hC hH dX5_takeSignOrLine_80 ?_
          refine cg_X5_139 hC hH dX5_takeSignOrLine_83 ?_
          obtain ⟨x_43, u_44, h_45, hF⟩ := ncl_some hF
          obtain ⟨e_46, rfl⟩ := nRF_eq h_45
          refine gx_ti e_46 ?_
          refine lv_bipush (v := 20) hx hb dX5_takeSignOrLine_86 (by decide) ?_
          refine lv_icmp_ge (tgt := 95) hx hb dX5_takeSignOrLine_88 (by decide) (fun c_47 => ?_) (fun c_47 => ?_)
          · rw [if_pos c_47] at hF
            refine lv_iconst (v := 0) hx hb dX5_takeSignOrLine_95 (by decide) ?_
            refine lv_bipush (v := 10) hx hb dX5_takeSignOrLine_96 (by decide) ?_
            obtain ⟨r_48, u_49, h_50, hF⟩ := ncl_some hF
            refine ccV_v (q0 := 3) (As := [.int 0, .int 10]) (rest := []) hC hH (n_X5_goIfRoom l G Z Q _ T u_39 u_49 r_48 0 10 _ h_50) rfl rfl ⟨wkc_X5_goIfRoom, wka173, wka542, wka543, wka749⟩ kVX5_goIfRoom ⟨Nat.le_of_ble_eq_true rfl, Nat.le_of_ble_eq_true rfl⟩ rfl hl.1 rfl (Nat.le_of_ble_eq_true rfl) dX5_takeSignOrLine_98 (fun D H locs hH => ?_)
            refine lv_goto (tgt := 109) hx hb dX5_takeSignOrLine_101 (by decide) ?_
            exact cr_v hC hH hr (nrt_eq hF) dX5_takeSignOrLine_109 hlocks
          · rw [if_neg c_47] at hF
            refine lv_iconst (v := 1) hx hb dX5_takeSignOrLine_91 (by decide) ?_
            refine lv_goto (tgt := 96) hx hb dX5_takeSignOrLine_92 (by decide) ?_
            refine lv_bipush (v := 10) hx hb dX5_takeSignOrLine_96 (by decide) ?_
            obtain ⟨r_51, u_52, h_53, hF⟩ := ncl_some hF
            refine ccV_v (q0 := 3) (As := [.int 1, .int 10]) (rest := []) hC hH (n_X5_goIfRoom l G Z Q _ T u_39 u_52 r_51 1 10 _ h_53) rfl rfl ⟨wkc_X5_goIfRoom, wka173, wka542, wka543, wka749⟩ kVX5_goIfRoom ⟨Nat.le_of_ble_eq_true rfl, Nat.le_of_ble_eq_true rfl⟩ rfl hl.1 rfl (Nat.le_of_ble_eq_true rfl) dX5_takeSignOrLine_98 (fun D H locs hH => ?_)
            refine lv_goto (tgt := 109) hx hb dX5_takeSignOrLine_101 (by decide) ?_
            exact cr_v hC hH hr (nrt_eq hF) dX5_takeSignOrLine_109 hlocks
      · rw [if_pos c_30] at hF
        refine lv_aload_n hx hb dX5_takeSignOrLine_28 rfl (lv_at hl 0 rfl) ?_
        refine lv_aload_n hx hb dX5_takeSignOrLine_29 rfl (lv_at hl 0 rfl) ?_
        refine cg_X5_33 hC hH dX5_takeSignOrLine_30 ?_
        refine cg_X5_130 hC hH dX5_takeSignOrLine_33 ?_
        obtain ⟨x_54, u_55, h_56, hF⟩ := ncl_some hF
        obtain ⟨e_57, rfl⟩ := nRF_eq h_56
        refine gx_ti e_57 ?_
        refine lv_bipush (v := 8) hx hb dX5_takeSignOrLine_36 (by decide) ?_
        refine lv_icmp_ge (tgt := 45) hx hb dX5_takeSignOrLine_38 (by decide) (fun c_58 => ?_) (fun c_58 => ?_)
        · rw [if_pos c_58] at hF
          refine lv_iconst (v := 0) hx hb dX5_takeSignOrLine_45 (by decide) ?_
          refine lv_bipush (v := 7) hx hb dX5_takeSignOrLine_46 (by decide) ?_
          obtain ⟨r_59, u_60, h_61, hF⟩ := ncl_some hF
          refine ccV_v (q0 := 3) (As := [.int 0, .int 7]) (rest := []) hC hH (n_X5_goIfRoom l G Z Q _ T u u_60 r_59 0 7 _ h_61) rfl rfl ⟨wkc_X5_goIfRoom, wka173, wka542, wka543, wka749⟩ kVX5_goIfRoom ⟨Nat.le_of_ble_eq_true rfl, Nat.le_of_ble_eq_true rfl⟩ rfl hl.1 rfl (Nat.le_of_ble_eq_true rfl) dX5_takeSignOrLine_48 (fun D H locs hH => ?_)
          refine lv_goto (tgt := 109) hx hb dX5_takeSignOrLine_51 (by decide) ?_
          exact cr_v hC hH hr (nrt_eq hF) dX5_takeSignOrLine_109 hlocks
        · rw [if_neg c_58] at hF
          refine lv_iconst (v := 1) hx hb dX5_takeSignOrLine_41 (by decide) ?_
          refine lv_goto (tgt := 46) hx hb dX5_takeSignOrLine_42 (by decide) ?_
          refine lv_bipush (v := 7) hx hb dX5_takeSignOrLine_46 (by decide) ?_
          obtain ⟨r_62, u_63, h_64, hF⟩ := ncl_some hF
          refine ccV_v (q0 := 3) (As := [.int 1, .int 7]) (rest := []) hC hH (n_X5_goIfRoom l G Z Q _ T u u_63 r_62 1 7 _ h_64) rfl rfl ⟨wkc_X5_goIfRoom, wka173, wka542, wka543, wka749⟩ kVX5_goIfRoom ⟨Nat.le_of_ble_eq_true rfl, Nat.le_of_ble_eq_true rfl⟩ rfl hl.1 rfl (Nat.le_of_ble_eq_true rfl) dX5_takeSignOrLine_48 (fun D H locs hH => ?_)
          refine lv_goto (tgt := 109) hx hb dX5_takeSignOrLine_51 (by decide) ?_
          exact cr_v hC hH hr (nrt_eq hF) dX5_takeSignOrLine_109 hlocks
  · rw [if_pos c_1] at hF
    refine lv_aload_n hx hb dX5_takeSignOrLine_4 rfl (lv_at hl 0 rfl) ?_
    refine lv_bipush (v := 17) hx hb dX5_takeSignOrLine_5 (by decide) ?_
    obtain ⟨y_68, u_65, h_67, hF⟩ := ncl_some hF
    have e_66 := nWF_eq h_67
    refine cp_X5_52 hC hH e_66 dX5_takeSignOrLine_7 (fun H locs hH => ?_)
    refine lv_goto (tgt := 109) hx hb dX5_takeSignOrLine_10 (by decide) ?_
    exact cr_v hC hH hr (nrt_eq hF) dX5_takeSignOrLine_109 hlocks
def xl_X10_isWordAt_17 : Nat → Int32 → Int32 → Int32 → (Int32 → Int32 → Int32 → NG Int32) → NG Int32
  | 0, _, _, _, _ => fun _ => none
  | n17 + 1, v1, v2, v3, K17_56 => (if v2 ≤ v3 then K17_56 v1 v2 v3 else ncl (nRF 5) (fun x_11 => ncl (nGT 4 3000 (x_11 + v3)) (fun x_15 => ncl (nGT 4 3000 (v1 + v3)) (fun x_19 => (if x_15 = x_19 then nli (v3 + 1) (fun x_24 => xl_X10_isWordAt_17 n17 v1 v2 x_24 K17_56) else nrt 0)))))
def x_X10_isWordAt (a0 : Int32) (a1 : Int32) : NG Int32 := ncl (nRF 3) (fun x_1 => ncl (nRF 5) (fun x_5 => (if (x_1 - x_5) = a1 then xl_X10_isWordAt_17 fuel a0 a1 0 (fun v1 v2 v3 => nrt 1) else nrt 0)))
set_option maxHeartbeats 4000000 in
set_option maxRecDepth 100000 in
theorem n_X10_isWordAt (l : Launch) (G : gG) (Z : gC) (Q : Nat → Nat) (D : Nat × Nat) (T : va_W) (u u1 : MS) (r : Int32) (a0 : Int32) (a1 : Int32) (sz : Nat) (hF : x_X10_isWordAt a0 a1 u = some (r, u1)) : Met l yX10_isWordAt (Cond.code yX10_isWordAt cX10_isWordAt 4 (some .boolean) :: wK) { frames := 1, cells := 0, slots := 0, locals := 22 } (va_Pc [.ref (Q 2), .int a0, .int a1] (cPM G Z Q D T u sz)) (cQi G Q T u1 r (va_A (cW G Q D T u) sz)) 0 0 (va_A (cW G Q D T u) sz) := by
  refine Met.ofW (cc := cX10_isWordAt) (maxL := 4) (ret := (some .boolean)) (by decide) rfl ?_
  intro p e s m args below meth c s₁ B hml hv
  obtain ⟨rfl, rfl, hP, hB, hD0, hE⟩ := hv
  have hr := B.returns
  have hlocks := B.notSynchronized
  have hts := atoms_spec (ws := Cond.code yX10_isWordAt cX10_isWordAt 4 (some .boolean) :: wK) B.pre
  have hD := hD0.self (sz := s.heap.size)
  have hA : ∀ q : Nat, s.heap.size ≤ q → va_A (cW G Q D T u) s.heap.size q := fun q h => Or.inr h
  generalize va_A (cW G Q D T u) s.heap.size = A at hD hA hE ⊢
  have hC : cX p c cX10_isWordAt 4 s m _ RX10 G Z A := ⟨B.exec, B.bytes, hml, findClass_of_methodNamed B.named, fun w h => hts w (List.mem_cons_of_mem _ h), hB, hE, hA⟩
  have hx := hC.1
  have hb := hC.2.1
  have hH : cH G Q D T A u s s.heap [] := ⟨hP, hD, va_S.rf⟩
  have hl := lv_entry ([.ref (Q 2), .int a0, .int a1]) (n := 4) (Nat.le_of_ble_eq_true rfl)
  rw [lg_entry_eq]
  generalize (lg_sl ([.ref (Q 2), .int a0, .int a1]) ++ List.replicate (4 - (lg_sl ([.ref (Q 2), .int a0, .int a1])).length) Slot.unset).toArray = ls at hl ⊢
  have hl : lv_has ls 4 [(0, .ref (Q 2)), (1, .int a0), (2, .int a1)] := hl
  unfold x_X10_isWordAt at hF
  refine lv_aload_n hx hb dX10_isWordAt_0 rfl (lv_at hl 0 rfl) ?_
  refine cg_X10_25 hC hH dX10_isWordAt_1 ?_
  obtain ⟨x_1, u_2, h_3, hF⟩ := ncl_some hF
  obtain ⟨e_4, rfl⟩ := nRF_eq h_3
  refine gx_ti e_4 ?_
  refine lv_aload_n hx hb dX10_isWordAt_4 rfl (lv_at hl 0 rfl) ?_
  refine cg_X10_36 hC hH dX10_isWordAt_5 ?_
  obtain ⟨x_5, u_6, h_7, hF⟩ := ncl_some hF
  obtain ⟨e_8, rfl⟩ := nRF_eq h_7
  refine gx_ti e_8 ?_
  refine lv_isub hx hb dX10_isWordAt_8 ?_
  refine lv_iload_n hx hb dX10_isWordAt_9 rfl (lv_at hl 2 rfl) ?_
  refine lv_icmp_eq (tgt := 15) hx hb dX10_isWordAt_10 (by decide) (fun c_9 => ?_) (fun c_9 => ?_)
  · rw [if_pos c_9] at hF
    refine lv_iconst (v := 0) hx hb dX10_isWordAt_15 (by decide) ?_
    refine lv_istore_n (lv' := [(3, .int 0), (0, .ref (Q 2)), (1, .int a0), (2, .int a1)]) hx hb dX10_isWordAt_16 rfl hl (by decide) rfl (fun ls hl => ?_)
    have hL17 : ∀ (K17_56 : Int32 → Int32 → Int32 → NG Int32), (∀ (v1 v2 v3 : Int32) (u : MS) (D : Nat × Nat) (H : Heap) (locs : List Loc) (ls : Array Slot), lv_has ls 4 [(0, .ref (Q 2)), (1, .int v1), (2, .int v2), (3, .int v3)] → cH G Q D T A u s H locs → K17_56 v1 v2 v3 u = some (r, u1) → W p l e (headSpec (Cond.code yX10_isWordAt cX10_isWordAt 4 (some .boolean) :: wK) { frames := 1, cells := 0, slots := 0, locals := 22 }).room s m [.ref (Q 2), .int a0, .int a1].toArray below meth c H locs 0 0 (MQ below (cQi G Q T u1 r A) [.ref (Q 2), .int a0, .int a1].toArray s 0 0 A) (F0 m 56 ls [])) → ∀ (n17 : Nat) (v1 v2 v3 : Int32) (u : MS) (D : Nat × Nat) (H : Heap) (locs : List Loc) (ls : Array Slot), lv_has ls 4 [(0, .ref (Q 2)), (1, .int v1), (2, .int v2), (3, .int v3)] → cH G Q D T A u s H locs → xl_X10_isWordAt_17 n17 v1 v2 v3 K17_56 u = some (r, u1) → W p l e (headSpec (Cond.code yX10_isWordAt cX10_isWordAt 4 (some .boolean) :: wK) { frames := 1, cells := 0, slots := 0, locals := 22 }).room s m [.ref (Q 2), .int a0, .int a1].toArray below meth c H locs 0 0 (MQ below (cQi G Q T u1 r A) [.ref (Q 2), .int a0, .int a1].toArray s 0 0 A) (F0 m 17 ls []) := by
      intro K17_56 hK17_56 n17
      induction n17 with
      | zero => intro v1 v2 v3 u D H locs ls hl hH hF; cases hF
      | succ n17 ih17 =>
        intro v1 v2 v3 u D H locs ls hl hH hF
        unfold xl_X10_isWordAt_17 at hF
        refine lv_iload_n hx hb dX10_isWordAt_17 rfl (lv_at hl 3 rfl) ?_
        refine lv_iload_n hx hb dX10_isWordAt_18 rfl (lv_at hl 2 rfl) ?_
        refine lv_icmp_ge (tgt := 56) hx hb dX10_isWordAt_19 (by decide) (fun c_10 => ?_) (fun c_10 => ?_)
        · rw [if_pos c_10] at hF
          exact hK17_56 v1 v2 v3 u _ _ _ _ (lv_sub hl [0, 1, 2, 3] rfl) hH hF
        · rw [if_neg c_10] at hF
          refine lv_aload_n hx hb dX10_isWordAt_22 rfl (lv_at hl 0 rfl) ?_
          refine cg_X10_14 hC hH dX10_isWordAt_23 ?_
          refine lv_aload_n hx hb dX10_isWordAt_26 rfl (lv_at hl 0 rfl) ?_
          refine cg_X10_36 hC hH dX10_isWordAt_27 ?_
          obtain ⟨x_11, u_12, h_13, hF⟩ := ncl_some hF
          obtain ⟨e_14, rfl⟩ := nRF_eq h_13
          refine gx_ti e_14 ?_
          refine lv_iload_n hx hb dX10_isWordAt_30 rfl (lv_at hl 3 rfl) ?_
          refine lv_iadd hx hb dX10_isWordAt_31 ?_
          refine rg_3 hC hH wka150 ⟨Nat.le_of_ble_eq_true rfl, Nat.le_of_ble_eq_true rfl⟩ hl.1 (Nat.le_of_ble_eq_true rfl) ⟨Nat.zero_le _, Nat.zero_le _⟩ dX10_isWordAt_32 ?_
          obtain ⟨x_15, u_16, h_17, hF⟩ := ncl_some hF
          obtain ⟨e_18, rfl⟩ := nGT_eq h_17
          refine gx_ti e_18 ?_
          refine lv_aload_n hx hb dX10_isWordAt_35 rfl (lv_at hl 0 rfl) ?_
          refine cg_X10_14 hC hH dX10_isWordAt_36 ?_
          refine lv_iload_n hx hb dX10_isWordAt_39 rfl (lv_at hl 1 rfl) ?_
          refine lv_iload_n hx hb dX10_isWordAt_40 rfl (lv_at hl 3 rfl) ?_
          refine lv_iadd hx hb dX10_isWordAt_41 ?_
          refine rg_3 hC hH wka150 ⟨Nat.le_of_ble_eq_true rfl, Nat.le_of_ble_eq_true rfl⟩ hl.1 (Nat.le_of_ble_eq_true rfl) ⟨Nat.zero_le _, Nat.zero_le _⟩ dX10_isWordAt_42 ?_
          obtain ⟨x_19, u_20, h_21, hF⟩ := ncl_some hF
          obtain ⟨e_22, rfl⟩ := nGT_eq h_21
          refine gx_ti e_22 ?_
          refine lv_icmp_eq (tgt := 50) hx hb dX10_isWordAt_45 (by decide) (fun c_23 => ?_) (fun c_23 => ?_)
          · rw [if_pos c_23] at hF
            obtain ⟨x_24, e_25, hF⟩ := nli_some hF
            refine lv_iinc (v := x_24) (lv' := [(3, .int x_24), (0, .ref (Q 2)), (1, .int v1), (2, .int v2)]) hx hb dX10_isWordAt_50 hl (k := 3) rfl e_25 (by decide) rfl (fun ls hl => ?_)
            refine lv_goto (tgt := 17) hx hb dX10_isWordAt_53 (by decide) ?_
            exact ih17 v1 v2 x_24 u _ _ _ _ (lv_sub hl [1, 2, 3, 0] rfl) hH hF
          · rw [if_neg c_23] at hF
            refine lv_iconst (v := 0) hx hb dX10_isWordAt_48 (by decide) ?_
            exact cr_z hC hH hr rfl (nrt_eq hF) dX10_isWordAt_49 hlocks
    refine hL17 _ (fun v1 v2 v3 u D H locs ls hl hH hF => ?_) fuel a0 a1 0 u _ _ _ _ (lv_sub hl [1, 2, 3, 0] rfl) hH hF
    refine lv_iconst (v := 1) hx hb dX10_isWordAt_56 (by decide) ?_
    exact cr_z hC hH hr rfl (nrt_eq hF) dX10_isWordAt_57 hlocks
  · rw [if_neg c_9] at hF
    refine lv_iconst (v := 0) hx hb dX10_isWordAt_13 (by decide) ?_
    exact cr_z hC hH hr rfl (nrt_eq hF) dX10_isWordAt_14 hlocks
def xl_X5_signOfToken_2 : Nat → Int32 → (Int32 → NG Int32) → NG Int32
  | 0, _, _ => fun _ => none
  | n2 + 1, v1, K2_47 => ncl (nRF 22) (fun x_1 => (if x_1 ≤ v1 then K2_47 v1 else ncl (nGT 5 8 v1) (fun x_6 => ncl (nGT 6 8 v1) (fun x_10 => ncl (x_X10_isWordAt x_6 x_10) (fun r_14 => (if r_14 = 0 then nli (v1 + 1) (fun x_18 => xl_X5_signOfToken_2 n2 x_18 K2_47) else nrt v1))))))
def x_X5_signOfToken : NG Int32 := xl_X5_signOfToken_2 fuel 0 (fun v1 => nrt (-1))
set_option maxHeartbeats 4000000 in
set_option maxRecDepth 100000 in
theorem n_X5_signOfToken (l : Launch) (G : gG) (Z : gC) (Q : Nat → Nat) (D : Nat × Nat) (T : va_W) (u u1 : MS) (r : Int32) (sz : Nat) (hF : x_X5_signOfToken u = some (r, u1)) : Met l yX5_signOfToken (Cond.code yX5_signOfToken cX5_signOfToken 2 (some .int) :: wK) { frames := 2, cells := 0, slots := 0, locals := 45 } (va_Pc [.ref (Q 3)] (cPM G Z Q D T u sz)) (cQi G Q T u1 r (va_A (cW G Q D T u) sz)) 0 0 (va_A (cW G Q D T u) sz) := by
  refine Met.ofW (cc := cX5_signOfToken) (maxL := 2) (ret := (some .int)) (by decide) rfl ?_
  intro p e s m args below meth c s₁ B hml hv
  obtain ⟨rfl, rfl, hP, hB, hD0, hE⟩ := hv
  have hr := B.returns
  have hlocks := B.notSynchronized
  have hts := atoms_spec (ws := Cond.code yX5_signOfToken cX5_signOfToken 2 (some .int) :: wK) B.pre
  have hD := hD0.self (sz := s.heap.size)
  have hA : ∀ q : Nat, s.heap.size ≤ q → va_A (cW G Q D T u) s.heap.size q := fun q h => Or.inr h
  generalize va_A (cW G Q D T u) s.heap.size = A at hD hA hE ⊢
  have hC : cX p c cX5_signOfToken 2 s m _ RX5 G Z A := ⟨B.exec, B.bytes, hml, findClass_of_methodNamed B.named, fun w h => hts w (List.mem_cons_of_mem _ h), hB, hE, hA⟩
  have hx := hC.1
  have hb := hC.2.1
  have hH : cH G Q D T A u s s.heap [] := ⟨hP, hD, va_S.rf⟩
  have hl := lv_entry ([.ref (Q 3)]) (n := 2) (Nat.le_of_ble_eq_true rfl)
  rw [lg_entry_eq]
  generalize (lg_sl ([.ref (Q 3)]) ++ List.replicate (2 - (lg_sl ([.ref (Q 3)])).length) Slot.unset).toArray = ls at hl ⊢
  have hl : lv_has ls 2 [(0, .ref (Q 3))] := hl
  unfold x_X5_signOfToken at hF
  refine lv_iconst (v := 0) hx hb dX5_signOfToken_0 (by decide) ?_
  refine lv_istore_n (lv' := [(1, .int 0), (0, .ref (Q 3))]) hx hb dX5_signOfToken_1 rfl hl (by decide) rfl (fun ls hl => ?_)
  have hL2 : ∀ (K2_47 : Int32 → NG Int32), (∀ (v1 : Int32) (u : MS) (D : Nat × Nat) (H : Heap) (locs : List Loc) (ls : Array Slot), lv_has ls 2 [(0, .ref (Q 3)), (1, .int v1)] → cH G Q D T A u s H locs → K2_47 v1 u = some (r, u1) → W p l e (headSpec (Cond.code yX5_signOfToken cX5_signOfToken 2 (some .int) :: wK) { frames := 2, cells := 0, slots := 0, locals := 45 }).room s m [.ref (Q 3)].toArray below meth c H locs 0 0 (MQ below (cQi G Q T u1 r A) [.ref (Q 3)].toArray s 0 0 A) (F0 m 47 ls [])) → ∀ (n2 : Nat) (v1 : Int32) (u : MS) (D : Nat × Nat) (H : Heap) (locs : List Loc) (ls : Array Slot), lv_has ls 2 [(0, .ref (Q 3)), (1, .int v1)] → cH G Q D T A u s H locs → xl_X5_signOfToken_2 n2 v1 K2_47 u = some (r, u1) → W p l e (headSpec (Cond.code yX5_signOfToken cX5_signOfToken 2 (some .int) :: wK) { frames := 2, cells := 0, slots := 0, locals := 45 }).room s m [.ref (Q 3)].toArray below meth c H locs 0 0 (MQ below (cQi G Q T u1 r A) [.ref (Q 3)].toArray s 0 0 A) (F0 m 2 ls []) := by
    intro K2_47 hK2_47 n2
    induction n2 with
    | zero => intro v1 u D H locs ls hl hH hF; cases hF
    | succ n2 ih2 =>
      intro v1 u D H locs ls hl hH hF
      unfold xl_X5_signOfToken_2 at hF
      refine lv_iload_n hx hb dX5_signOfToken_2 rfl (lv_at hl 1 rfl) ?_
      refine lv_aload_n hx hb dX5_signOfToken_3 rfl (lv_at hl 0 rfl) ?_
      refine cg_X5_33 hC hH dX5_signOfToken_4 ?_
      refine cg_X5_130 hC hH dX5_signOfToken_7 ?_
      obtain ⟨x_1, u_2, h_3, hF⟩ := ncl_some hF
      obtain ⟨e_4, rfl⟩ := nRF_eq h_3
      refine gx_ti e_4 ?_
      refine lv_icmp_ge (tgt := 47) hx hb dX5_signOfToken_10 (by decide) (fun c_5 => ?_) (fun c_5 => ?_)
      · rw [if_pos c_5] at hF
        exact hK2_47 v1 u _ _ _ _ (lv_sub hl [0, 1] rfl) hH hF
      · rw [if_neg c_5] at hF
        refine lv_aload_n hx hb dX5_signOfToken_13 rfl (lv_at hl 0 rfl) ?_
        refine cg_X5_9 hC hH dX5_signOfToken_14 ?_
        refine lv_aload_n hx hb dX5_signOfToken_17 rfl (lv_at hl 0 rfl) ?_
        refine cg_X5_22 hC hH dX5_signOfToken_18 ?_
        refine lv_iload_n hx hb dX5_signOfToken_21 rfl (lv_at hl 1 rfl) ?_
        refine rg_4 hC hH wka171 ⟨Nat.le_of_ble_eq_true rfl, Nat.le_of_ble_eq_true rfl⟩ hl.1 (Nat.le_of_ble_eq_true rfl) ⟨Nat.zero_le _, Nat.zero_le _⟩ dX5_signOfToken_22 ?_
        obtain ⟨x_6, u_7, h_8, hF⟩ := ncl_some hF
        obtain ⟨e_9, rfl⟩ := nGT_eq h_8
        refine gx_ti e_9 ?_
        refine lv_aload_n hx hb dX5_signOfToken_25 rfl (lv_at hl 0 rfl) ?_
        refine cg_X5_26 hC hH dX5_signOfToken_26 ?_
        refine lv_iload_n hx hb dX5_signOfToken_29 rfl (lv_at hl 1 rfl) ?_
        refine rg_5 hC hH wka171 ⟨Nat.le_of_ble_eq_true rfl, Nat.le_of_ble_eq_true rfl⟩ hl.1 (Nat.le_of_ble_eq_true rfl) ⟨Nat.zero_le _, Nat.zero_le _⟩ dX5_signOfToken_30 ?_
        obtain ⟨x_10, u_11, h_12, hF⟩ := ncl_some hF
        obtain ⟨e_13, rfl⟩ := nGT_eq h_12
        refine gx_ti e_13 ?_
        obtain ⟨r_14, u_15, h_16, hF⟩ := ncl_some hF
        refine ccV_i (q0 := 2) (As := [.int x_6, .int x_10]) (rest := []) hC hH (n_X10_isWordAt l G Z Q _ T u u_15 r_14 x_6 x_10 _ h_16) rfl rfl ⟨wkc_X10_isWordAt, wka177, wka665, wka666, wka754⟩ kVX10_isWordAt ⟨Nat.le_of_ble_eq_true rfl, Nat.le_of_ble_eq_true rfl⟩ rfl hl.1 rfl (Nat.le_of_ble_eq_true rfl) dX5_signOfToken_33 (fun D H locs hH => ?_)
        refine lv_if_eq (tgt := 41) hx hb dX5_signOfToken_36 (by decide) (fun c_17 => ?_) (fun c_17 => ?_)
        · rw [if_pos c_17] at hF
          obtain ⟨x_18, e_19, hF⟩ := nli_some hF
          refine lv_iinc (v := x_18) (lv' := [(1, .int x_18), (0, .ref (Q 3))]) hx hb dX5_signOfToken_41 hl (k := 1) rfl e_19 (by decide) rfl (fun ls hl => ?_)
          refine lv_goto (tgt := 2) hx hb dX5_signOfToken_44 (by decide) ?_
          exact ih2 x_18 u_15 _ _ _ _ (lv_sub hl [1, 0] rfl) hH hF
        · rw [if_neg c_17] at hF
          refine lv_iload_n hx hb dX5_signOfToken_39 rfl (lv_at hl 1 rfl) ?_
          exact cr_i hC hH hr (nrt_eq hF) dX5_signOfToken_40 hlocks
  refine hL2 _ (fun v1 u D H locs ls hl hH hF => ?_) fuel 0 u _ _ _ _ (lv_sub hl [1, 0] rfl) hH hF
  refine lv_iconst (v := (-1)) hx hb dX5_signOfToken_47 (by decide) ?_
  exact cr_i hC hH hr (nrt_eq hF) dX5_signOfToken_48 hlocks
def x_X10_tokenSize : NG Int32 := ncl (nRF 3) (fun x_1 => ncl (nRF 5) (fun x_5 => nrt (x_1 - x_5)))
set_option maxHeartbeats 4000000 in
set_option maxRecDepth 100000 in
theorem n_X10_tokenSize (l : Launch) (G : gG) (Z : gC) (Q : Nat → Nat) (D : Nat × Nat) (T : va_W) (u u1 : MS) (r : Int32) (sz : Nat) (hF : x_X10_tokenSize u = some (r, u1)) : Met l yX10_tokenSize (Cond.code yX10_tokenSize cX10_tokenSize 1 (some .int) :: wK) { frames := 0, cells := 0, slots := 0, locals := 0 } (va_Pc [.ref (Q 2)] (cPM G Z Q D T u sz)) (cQi G Q T u1 r (va_A (cW G Q D T u) sz)) 0 0 (va_A (cW G Q D T u) sz) := by
  refine Met.ofW (cc := cX10_tokenSize) (maxL := 1) (ret := (some .int)) (by decide) rfl ?_
  intro p e s m args below meth c s₁ B hml hv
  obtain ⟨rfl, rfl, hP, hB, hD0, hE⟩ := hv
  have hr := B.returns
  have hlocks := B.notSynchronized
  have hts := atoms_spec (ws := Cond.code yX10_tokenSize cX10_tokenSize 1 (some .int) :: wK) B.pre
  have hD := hD0.self (sz := s.heap.size)
  have hA : ∀ q : Nat, s.heap.size ≤ q → va_A (cW G Q D T u) s.heap.size q := fun q h => Or.inr h
  generalize va_A (cW G Q D T u) s.heap.size = A at hD hA hE ⊢
  have hC : cX p c cX10_tokenSize 1 s m _ RX10 G Z A := ⟨B.exec, B.bytes, hml, findClass_of_methodNamed B.named, fun w h => hts w (List.mem_cons_of_mem _ h), hB, hE, hA⟩
  have hx := hC.1
  have hb := hC.2.1
  have hH : cH G Q D T A u s s.heap [] := ⟨hP, hD, va_S.rf⟩
  have hl := lv_entry ([.ref (Q 2)]) (n := 1) (Nat.le_of_ble_eq_true rfl)
  rw [lg_entry_eq]
  generalize (lg_sl ([.ref (Q 2)]) ++ List.replicate (1 - (lg_sl ([.ref (Q 2)])).length) Slot.unset).toArray = ls at hl ⊢
  have hl : lv_has ls 1 [(0, .ref (Q 2))] := hl
  unfold x_X10_tokenSize at hF
  refine lv_aload_n hx hb dX10_tokenSize_0 rfl (lv_at hl 0 rfl) ?_
  refine cg_X10_25 hC hH dX10_tokenSize_1 ?_
  obtain ⟨x_1, u_2, h_3, hF⟩ := ncl_some hF
  obtain ⟨e_4, rfl⟩ := nRF_eq h_3
  refine gx_ti e_4 ?_
  refine lv_aload_n hx hb dX10_tokenSize_4 rfl (lv_at hl 0 rfl) ?_
  refine cg_X10_36 hC hH dX10_tokenSize_5 ?_
  obtain ⟨x_5, u_6, h_7, hF⟩ := ncl_some hF
  obtain ⟨e_8, rfl⟩ := nRF_eq h_7
  refine gx_ti e_8 ?_
  refine lv_isub hx hb dX10_tokenSize_8 ?_
  exact cr_i hC hH hr (nrt_eq hF) dX10_tokenSize_9 hlocks
def x_X5_takeSignName (a0 : Int32) : NG Int32 := (if a0 = 2 then ncl (x_X5_signOfToken) (fun r_2 => (if r_2 = (-1) then ncl (nRF 22) (fun x_6 => ncl (nRF 5) (fun x_10 => ncl (nST 5 8 x_6 x_10) (fun _ => ncl (nRF 22) (fun x_18 => ncl (x_X10_tokenSize) (fun r_22 => ncl (nST 6 8 x_18 r_22) (fun _ => ncl (nRF 22) (fun x_29 => ncl (nWF 22 (x_29 + 1)) (fun _ => ncl (nWF 12 8) (fun _ => nrt 0))))))))) else ncl (x_X5_fail 2) (fun r_41 => nrt 0))) else ncl (x_X5_fail 1) (fun r_44 => nrt 0))
set_option maxHeartbeats 4000000 in
set_option maxRecDepth 100000 in
theorem n_X5_takeSignName (l : Launch) (G : gG) (Z : gC) (Q : Nat → Nat) (D : Nat × Nat) (T : va_W) (u u1 : MS) (r : Int32) (a0 : Int32) (sz : Nat) (hF : x_X5_takeSignName a0 u = some (r, u1)) : Met l yX5_takeSignName (Cond.code yX5_takeSignName cX5_takeSignName 2 none :: wK) { frames := 3, cells := 0, slots := 0, locals := 66 } (va_Pc [.ref (Q 3), .int a0] (cPM G Z Q D T u sz)) (cQv G Q T u1 (va_A (cW G Q D T u) sz)) 0 0 (va_A (cW G Q D T u) sz) := by
  refine Met.ofW (cc := cX5_takeSignName) (maxL := 2) (ret := none) (by decide) rfl ?_
  intro p e s m args below meth c s₁ B hml hv
  obtain ⟨rfl, rfl, hP, hB, hD0, hE⟩ := hv
  have hr := B.returns
  have hlocks := B.notSynchronized
  have hts := atoms_spec (ws := Cond.code yX5_takeSignName cX5_takeSignName 2 none :: wK) B.pre
  have hD := hD0.self (sz := s.heap.size)
  have hA : ∀ q : Nat, s.heap.size ≤ q → va_A (cW G Q D T u) s.heap.size q := fun q h => Or.inr h
  generalize va_A (cW G Q D T u) s.heap.size = A at hD hA hE ⊢
  have hC : cX p c cX5_takeSignName 2 s m _ RX5 G Z A := ⟨B.exec, B.bytes, hml, findClass_of_methodNamed B.named, fun w h => hts w (List.mem_cons_of_mem _ h), hB, hE, hA⟩
  have hx := hC.1
  have hb := hC.2.1
  have hH : cH G Q D T A u s s.heap [] := ⟨hP, hD, va_S.rf⟩
  have hl := lv_entry ([.ref (Q 3), .int a0]) (n := 2) (Nat.le_of_ble_eq_true rfl)
  rw [lg_entry_eq]
  generalize (lg_sl ([.ref (Q 3), .int a0]) ++ List.replicate (2 - (lg_sl ([.ref (Q 3), .int a0])).length) Slot.unset).toArray = ls at hl ⊢
  have hl : lv_has ls 2 [(0, .ref (Q 3)), (1, .int a0)] := hl
  unfold x_X5_takeSignName at hF
  refine lv_iload_n hx hb dX5_takeSignName_0 rfl (lv_at hl 1 rfl) ?_
  refine lv_iconst (v := 2) hx hb dX5_takeSignName_1 (by decide) ?_
  refine lv_icmp_eq (tgt := 13) hx hb dX5_takeSignName_2 (by decide) (fun c_1 => ?_) (fun c_1 => ?_)
  · rw [if_pos c_1] at hF
    refine lv_aload_n hx hb dX5_takeSignName_13 rfl (lv_at hl 0 rfl) ?_
    obtain ⟨r_2, u_3, h_4, hF⟩ := ncl_some hF
    refine ccV_i (q0 := 3) (As := []) (rest := []) hC hH (n_X5_signOfToken l G Z Q _ T u u_3 r_2 _ h_4) rfl rfl ⟨wkc_X5_signOfToken, wka176, wka546, wka547, wka749⟩ kVX5_signOfToken ⟨Nat.le_of_ble_eq_true rfl, Nat.le_of_ble_eq_true rfl⟩ rfl hl.1 rfl (Nat.le_of_ble_eq_true rfl) dX5_takeSignName_14 (fun D H locs hH => ?_)
    refine lv_iconst (v := (-1)) hx hb dX5_takeSignName_17 (by decide) ?_
    refine lv_icmp_eq (tgt := 29) hx hb dX5_takeSignName_18 (by decide) (fun c_5 => ?_) (fun c_5 => ?_)
    · rw [if_pos c_5] at hF
      refine lv_aload_n hx hb dX5_takeSignName_29 rfl (lv_at hl 0 rfl) ?_
      refine cg_X5_22 hC hH dX5_takeSignName_30 ?_
      refine lv_aload_n hx hb dX5_takeSignName_33 rfl (lv_at hl 0 rfl) ?_
      refine cg_X5_33 hC hH dX5_takeSignName_34 ?_
      refine cg_X5_130 hC hH dX5_takeSignName_37 ?_
      obtain ⟨x_6, u_7, h_8, hF⟩ := ncl_some hF
      obtain ⟨e_9, rfl⟩ := nRF_eq h_8
      refine gx_ti e_9 ?_
      refine lv_aload_n hx hb dX5_takeSignName_40 rfl (lv_at hl 0 rfl) ?_
      refine cg_X5_9 hC hH dX5_takeSignName_41 ?_
      refine cg_X5_74 hC hH dX5_takeSignName_44 ?_
      obtain ⟨x_10, u_11, h_12, hF⟩ := ncl_some hF
      obtain ⟨e_13, rfl⟩ := nRF_eq h_12
      refine gx_ti e_13 ?_
      obtain ⟨y_17, u_14, h_16, hF⟩ := ncl_some hF
      have e_15 := nST_eq h_16
      refine rs_4 hC hH e_15 wka174 ⟨Nat.le_of_ble_eq_true rfl, Nat.le_of_ble_eq_true rfl⟩ hl.1 (Nat.le_of_ble_eq_true rfl) ⟨Nat.zero_le _, Nat.zero_le _⟩ dX5_takeSignName_47 (fun H locs hH => ?_)
      refine lv_aload_n hx hb dX5_takeSignName_50 rfl (lv_at hl 0 rfl) ?_
      refine cg_X5_26 hC hH dX5_takeSignName_51 ?_
      refine lv_aload_n hx hb dX5_takeSignName_54 rfl (lv_at hl 0 rfl) ?_
      refine cg_X5_33 hC hH dX5_takeSignName_55 ?_
      refine cg_X5_130 hC hH dX5_takeSignName_58 ?_
      obtain ⟨x_18, u_19, h_20, hF⟩ := ncl_some hF
      obtain ⟨e_21, rfl⟩ := nRF_eq h_20
      refine gx_ti e_21 ?_
      refine lv_aload_n hx hb dX5_takeSignName_61 rfl (lv_at hl 0 rfl) ?_
      refine cg_X5_9 hC hH dX5_takeSignName_62 ?_
      obtain ⟨r_22, u_23, h_24, hF⟩ := ncl_some hF
      refine ccV_i (q0 := 2) (As := []) (rest := [.int x_18, .ref (Q 30)]) hC hH (n_X10_tokenSize l G Z Q _ T u_14 u_23 r_22 _ h_24) rfl rfl ⟨wkc_X10_tokenSize, wka178, wka667, wka668, wka754⟩ kVX10_tokenSize ⟨Nat.le_of_ble_eq_true rfl, Nat.le_of_ble_eq_true rfl⟩ rfl hl.1 rfl (Nat.le_of_ble_eq_true rfl) dX5_takeSignName_65 (fun D H locs hH => ?_)
      obtain ⟨y_28, u_25, h_27, hF⟩ := ncl_some hF
      have e_26 := nST_eq h_27
      refine rs_5 hC hH e_26 wka174 ⟨Nat.le_of_ble_eq_true rfl, Nat.le_of_ble_eq_true rfl⟩ hl.1 (Nat.le_of_ble_eq_true rfl) ⟨Nat.zero_le _, Nat.zero_le _⟩ dX5_takeSignName_68 (fun H locs hH => ?_)
      refine lv_aload_n hx hb dX5_takeSignName_71 rfl (lv_at hl 0 rfl) ?_
      refine cg_X5_33 hC hH dX5_takeSignName_72 ?_
      refine lv_dup hx hb dX5_takeSignName_75 rfl ?_
      refine cg_X5_130 hC hH dX5_takeSignName_76 ?_
      obtain ⟨x_29, u_30, h_31, hF⟩ := ncl_some hF
      obtain ⟨e_32, rfl⟩ := nRF_eq h_31
      refine gx_ti e_32 ?_
      refine lv_iconst (v := 1) hx hb dX5_takeSignName_79 (by decide) ?_
      refine lv_iadd hx hb dX5_takeSignName_80 ?_
      obtain ⟨y_36, u_33, h_35, hF⟩ := ncl_some hF
      have e_34 := nWF_eq h_35
      refine cp_X5_130 hC hH e_34 dX5_takeSignName_81 (fun H locs hH => ?_)
      refine lv_aload_n hx hb dX5_takeSignName_84 rfl (lv_at hl 0 rfl) ?_
      refine lv_bipush (v := 8) hx hb dX5_takeSignName_85 (by decide) ?_
      obtain ⟨y_40, u_37, h_39, hF⟩ := ncl_some hF
      have e_38 := nWF_eq h_39
      refine cp_X5_52 hC hH e_38 dX5_takeSignName_87 (fun H locs hH => ?_)
      exact cr_v hC hH hr (nrt_eq hF) dX5_takeSignName_90 hlocks
    · rw [if_neg c_5] at hF
      refine lv_aload_n hx hb dX5_takeSignName_21 rfl (lv_at hl 0 rfl) ?_
      refine lv_iconst (v := 2) hx hb dX5_takeSignName_22 (by decide) ?_
      obtain ⟨r_41, u_42, h_43, hF⟩ := ncl_some hF
      refine ccV_v (q0 := 3) (As := [.int 2]) (rest := []) hC hH (n_X5_fail l G Z Q _ T u_3 u_42 r_41 2 _ h_43) rfl rfl ⟨wkc_X5_fail, wka166, wka532, wka533, wka749⟩ kVX5_fail ⟨Nat.le_of_ble_eq_true rfl, Nat.le_of_ble_eq_true rfl⟩ rfl hl.1 rfl (Nat.le_of_ble_eq_true rfl) dX5_takeSignName_23 (fun D H locs hH => ?_)
      refine lv_goto (tgt := 90) hx hb dX5_takeSignName_26 (by decide) ?_
      exact cr_v hC hH hr (nrt_eq hF) dX5_takeSignName_90 hlocks
  · rw [if_neg c_1] at hF
    refine lv_aload_n hx hb dX5_takeSignName_5 rfl (lv_at hl 0 rfl) ?_
    refine lv_iconst (v := 1) hx hb dX5_takeSignName_6 (by decide) ?_
    obtain ⟨r_44, u_45, h_46, hF⟩ := ncl_some hF
    refine ccV_v (q0 := 3) (As := [.int 1]) (rest := []) hC hH (n_X5_fail l G Z Q _ T u u_45 r_44 1 _ h_46) rfl rfl ⟨wkc_X5_fail, wka166, wka532, wka533, wka749⟩ kVX5_fail ⟨Nat.le_of_ble_eq_true rfl, Nat.le_of_ble_eq_true rfl⟩ rfl hl.1 rfl (Nat.le_of_ble_eq_true rfl) dX5_takeSignName_7 (fun D H locs hH => ?_)
    refine lv_goto (tgt := 90) hx hb dX5_takeSignName_10 (by decide) ?_
    exact cr_v hC hH hr (nrt_eq hF) dX5_takeSignName_90 hlocks
def x_X5_goIf (a0 : Int32) (a1 : Int32) : NG Int32 := (if a0 = 0 then ncl (x_X5_fail 1) (fun r_2 => nrt 0) else ncl (nWF 12 a1) (fun _ => nrt 0))
set_option maxHeartbeats 4000000 in
set_option maxRecDepth 100000 in
theorem n_X5_goIf (l : Launch) (G : gG) (Z : gC) (Q : Nat → Nat) (D : Nat × Nat) (T : va_W) (u u1 : MS) (r : Int32) (a0 : Int32) (a1 : Int32) (sz : Nat) (hF : x_X5_goIf a0 a1 u = some (r, u1)) : Met l yX5_goIf (Cond.code yX5_goIf cX5_goIf 3 none :: wK) { frames := 1, cells := 0, slots := 0, locals := 21 } (va_Pc [.ref (Q 3), .int a0, .int a1] (cPM G Z Q D T u sz)) (cQv G Q T u1 (va_A (cW G Q D T u) sz)) 0 0 (va_A (cW G Q D T u) sz) := by
  refine Met.ofW (cc := cX5_goIf) (maxL := 3) (ret := none) (by decide) rfl ?_
  intro p e s m args below meth c s₁ B hml hv
  obtain ⟨rfl, rfl, hP, hB, hD0, hE⟩ := hv
  have hr := B.returns
  have hlocks := B.notSynchronized
  have hts := atoms_spec (ws := Cond.code yX5_goIf cX5_goIf 3 none :: wK) B.pre
  have hD := hD0.self (sz := s.heap.size)
  have hA : ∀ q : Nat, s.heap.size ≤ q → va_A (cW G Q D T u) s.heap.size q := fun q h => Or.inr h
  generalize va_A (cW G Q D T u) s.heap.size = A at hD hA hE ⊢
  have hC : cX p c cX5_goIf 3 s m _ RX5 G Z A := ⟨B.exec, B.bytes, hml, findClass_of_methodNamed B.named, fun w h => hts w (List.mem_cons_of_mem _ h), hB, hE, hA⟩
  have hx := hC.1
  have hb := hC.2.1
  have hH : cH G Q D T A u s s.heap [] := ⟨hP, hD, va_S.rf⟩
  have hl := lv_entry ([.ref (Q 3), .int a0, .int a1]) (n := 3) (Nat.le_of_ble_eq_true rfl)
  rw [lg_entry_eq]
  generalize (lg_sl ([.ref (Q 3), .int a0, .int a1]) ++ List.replicate (3 - (lg_sl ([.ref (Q 3), .int a0, .int a1])).length) Slot.unset).toArray = ls at hl ⊢
  have hl : lv_has ls 3 [(0, .ref (Q 3)), (1, .int a0), (2, .int a1)] := hl
  unfold x_X5_goIf at hF
  refine lv_iload_n hx hb dX5_goIf_0 rfl (lv_at hl 1 rfl) ?_
  refine lv_if_eq (tgt := 12) hx hb dX5_goIf_1 (by decide) (fun c_1 => ?_) (fun c_1 => ?_)
  · rw [if_pos c_1] at hF
    refine lv_aload_n hx hb dX5_goIf_12 rfl (lv_at hl 0 rfl) ?_
    refine lv_iconst (v := 1) hx hb dX5_goIf_13 (by decide) ?_
    obtain ⟨r_2, u_3, h_4, hF⟩ := ncl_some hF
    refine ccV_v (q0 := 3) (As := [.int 1]) (rest := []) hC hH (n_X5_fail l G Z Q _ T u u_3 r_2 1 _ h_4) rfl rfl ⟨wkc_X5_fail, wka166, wka532, wka533, wka749⟩ kVX5_fail ⟨Nat.le_of_ble_eq_true rfl, Nat.le_of_ble_eq_true rfl⟩ rfl hl.1 rfl (Nat.le_of_ble_eq_true rfl) dX5_goIf_14 (fun D H locs hH => ?_)
    exact cr_v hC hH hr (nrt_eq hF) dX5_goIf_17 hlocks
  · rw [if_neg c_1] at hF
    refine lv_aload_n hx hb dX5_goIf_4 rfl (lv_at hl 0 rfl) ?_
    refine lv_iload_n hx hb dX5_goIf_5 rfl (lv_at hl 2 rfl) ?_
    obtain ⟨y_8, u_5, h_7, hF⟩ := ncl_some hF
    have e_6 := nWF_eq h_7
    refine cp_X5_52 hC hH e_6 dX5_goIf_6 (fun H locs hH => ?_)
    refine lv_goto (tgt := 17) hx hb dX5_goIf_9 (by decide) ?_
    exact cr_v hC hH hr (nrt_eq hF) dX5_goIf_17 hlocks
def x_X5_takePoints (a0 : Int32) : NG Int32 := (if a0 = 3 then ncl (nRF 23) (fun x_9 => ncl (nRF 6) (fun x_13 => ncl (nST 10 20 x_9 x_13) (fun _ => ncl (nWF 12 11) (fun _ => nrt 0)))) else (if a0 = 8 then ncl (x_X5_goIf 1 12) (fun r_6 => nrt 0) else ncl (x_X5_goIf 0 12) (fun r_3 => nrt 0)))
set_option maxHeartbeats 4000000 in
set_option maxRecDepth 100000 in
theorem n_X5_takePoints (l : Launch) (G : gG) (Z : gC) (Q : Nat → Nat) (D : Nat × Nat) (T : va_W) (u u1 : MS) (r : Int32) (a0 : Int32) (sz : Nat) (hF : x_X5_takePoints a0 u = some (r, u1)) : Met l yX5_takePoints (Cond.code yX5_takePoints cX5_takePoints 2 none :: wK) { frames := 2, cells := 0, slots := 0, locals := 43 } (va_Pc [.ref (Q 3), .int a0] (cPM G Z Q D T u sz)) (cQv G Q T u1 (va_A (cW G Q D T u) sz)) 0 0 (va_A (cW G Q D T u) sz) := by
  refine Met.ofW (cc := cX5_takePoints) (maxL := 2) (ret := none) (by decide) rfl ?_
  intro p e s m args below meth c s₁ B hml hv
  obtain ⟨rfl, rfl, hP, hB, hD0, hE⟩ := hv
  have hr := B.returns
  have hlocks := B.notSynchronized
  have hts := atoms_spec (ws := Cond.code yX5_takePoints cX5_takePoints 2 none :: wK) B.pre
  have hD := hD0.self (sz := s.heap.size)
  have hA : ∀ q : Nat, s.heap.size ≤ q → va_A (cW G Q D T u) s.heap.size q := fun q h => Or.inr h
  generalize va_A (cW G Q D T u) s.heap.size = A at hD hA hE ⊢
  have hC : cX p c cX5_takePoints 2 s m _ RX5 G Z A := ⟨B.exec, B.bytes, hml, findClass_of_methodNamed B.named, fun w h => hts w (List.mem_cons_of_mem _ h), hB, hE, hA⟩
  have hx := hC.1
  have hb := hC.2.1
  have hH : cH G Q D T A u s s.heap [] := ⟨hP, hD, va_S.rf⟩
  have hl := lv_entry ([.ref (Q 3), .int a0]) (n := 2) (Nat.le_of_ble_eq_true rfl)
  rw [lg_entry_eq]
  generalize (lg_sl ([.ref (Q 3), .int a0]) ++ List.replicate (2 - (lg_sl ([.ref (Q 3), .int a0])).length) Slot.unset).toArray = ls at hl ⊢
  have hl : lv_has ls 2 [(0, .ref (Q 3)), (1, .int a0)] := hl
  unfold x_X5_takePoints at hF
  refine lv_iload_n hx hb dX5_takePoints_0 rfl (lv_at hl 1 rfl) ?_
  refine lv_iconst (v := 3) hx hb dX5_takePoints_1 (by decide) ?_
  refine lv_icmp_ne (tgt := 38) hx hb dX5_takePoints_2 (by decide) (fun c_1 => ?_) (fun c_1 => ?_)
  · rw [if_neg c_1] at hF
    refine lv_aload_n hx hb dX5_takePoints_38 rfl (lv_at hl 0 rfl) ?_
    refine lv_iload_n hx hb dX5_takePoints_39 rfl (lv_at hl 1 rfl) ?_
    refine lv_bipush (v := 8) hx hb dX5_takePoints_40 (by decide) ?_
    refine lv_icmp_ne (tgt := 49) hx hb dX5_takePoints_42 (by decide) (fun c_2 => ?_) (fun c_2 => ?_)
    · rw [if_neg c_2] at hF
      refine lv_iconst (v := 0) hx hb dX5_takePoints_49 (by decide) ?_
      refine lv_bipush (v := 12) hx hb dX5_takePoints_50 (by decide) ?_
      obtain ⟨r_3, u_4, h_5, hF⟩ := ncl_some hF
      refine ccV_v (q0 := 3) (As := [.int 0, .int 12]) (rest := []) hC hH (n_X5_goIf l G Z Q _ T u u_4 r_3 0 12 _ h_5) rfl rfl ⟨wkc_X5_goIf, wka165, wka536, wka537, wka749⟩ kVX5_goIf ⟨Nat.le_of_ble_eq_true rfl, Nat.le_of_ble_eq_true rfl⟩ rfl hl.1 rfl (Nat.le_of_ble_eq_true rfl) dX5_takePoints_52 (fun D H locs hH => ?_)
      exact cr_v hC hH hr (nrt_eq hF) dX5_takePoints_55 hlocks
    · rw [if_pos c_2] at hF
      refine lv_iconst (v := 1) hx hb dX5_takePoints_45 (by decide) ?_
      refine lv_goto (tgt := 50) hx hb dX5_takePoints_46 (by decide) ?_
      refine lv_bipush (v := 12) hx hb dX5_takePoints_50 (by decide) ?_
      obtain ⟨r_6, u_7, h_8, hF⟩ := ncl_some hF
      refine ccV_v (q0 := 3) (As := [.int 1, .int 12]) (rest := []) hC hH (n_X5_goIf l G Z Q _ T u u_7 r_6 1 12 _ h_8) rfl rfl ⟨wkc_X5_goIf, wka165, wka536, wka537, wka749⟩ kVX5_goIf ⟨Nat.le_of_ble_eq_true rfl, Nat.le_of_ble_eq_true rfl⟩ rfl hl.1 rfl (Nat.le_of_ble_eq_true rfl) dX5_takePoints_52 (fun D H locs hH => ?_)
      exact cr_v hC hH hr (nrt_eq hF) dX5_takePoints_55 hlocks
  · rw [if_pos c_1] at hF
    refine lv_aload_n hx hb dX5_takePoints_5 rfl (lv_at hl 0 rfl) ?_
    refine cg_X5_33 hC hH dX5_takePoints_6 ?_
    refine cg_X5_136 hC hH dX5_takePoints_9 ?_
    refine lv_aload_n hx hb dX5_takePoints_12 rfl (lv_at hl 0 rfl) ?_
    refine cg_X5_33 hC hH dX5_takePoints_13 ?_
    refine cg_X5_139 hC hH dX5_takePoints_16 ?_
    obtain ⟨x_9, u_10, h_11, hF⟩ := ncl_some hF
    obtain ⟨e_12, rfl⟩ := nRF_eq h_11
    refine gx_ti e_12 ?_
    refine lv_aload_n hx hb dX5_takePoints_19 rfl (lv_at hl 0 rfl) ?_
    refine cg_X5_9 hC hH dX5_takePoints_20 ?_
    refine cg_X5_121 hC hH dX5_takePoints_23 ?_
    obtain ⟨x_13, u_14, h_15, hF⟩ := ncl_some hF
    obtain ⟨e_16, rfl⟩ := nRF_eq h_15
    refine gx_ti e_16 ?_
    obtain ⟨y_20, u_17, h_19, hF⟩ := ncl_some hF
    have e_18 := nST_eq h_19
    refine rs_9 hC hH e_18 wka174 ⟨Nat.le_of_ble_eq_true rfl, Nat.le_of_ble_eq_true rfl⟩ hl.1 (Nat.le_of_ble_eq_true rfl) ⟨Nat.zero_le _, Nat.zero_le _⟩ dX5_takePoints_26 (fun H locs hH => ?_)
    refine lv_aload_n hx hb dX5_takePoints_29 rfl (lv_at hl 0 rfl) ?_
    refine lv_bipush (v := 11) hx hb dX5_takePoints_30 (by decide) ?_
    obtain ⟨y_24, u_21, h_23, hF⟩ := ncl_some hF
    have e_22 := nWF_eq h_23
    refine cp_X5_52 hC hH e_22 dX5_takePoints_32 (fun H locs hH => ?_)
    refine lv_goto (tgt := 55) hx hb dX5_takePoints_35 (by decide) ?_
    exact cr_v hC hH hr (nrt_eq hF) dX5_takePoints_55 hlocks
def x_X5_takePart (a0 : Int32) : NG Int32 := ncl (nRF 24) (fun x_1 => (if 300 ≤ x_1 then ncl (x_X5_goIfRoom 0 a0) (fun r_6 => ncl (nRF 11) (fun x_9 => (if x_9 = 0 then ncl (nRF 24) (fun x_14 => ncl (nWF 24 (x_14 + 1)) (fun _ => nrt 0)) else nrt 0))) else ncl (x_X5_goIfRoom 1 a0) (fun r_22 => ncl (nRF 11) (fun x_25 => (if x_25 = 0 then ncl (nRF 24) (fun x_30 => ncl (nWF 24 (x_30 + 1)) (fun _ => nrt 0)) else nrt 0)))))
set_option maxHeartbeats 4000000 in
set_option maxRecDepth 100000 in
theorem n_X5_takePart (l : Launch) (G : gG) (Z : gC) (Q : Nat → Nat) (D : Nat × Nat) (T : va_W) (u u1 : MS) (r : Int32) (a0 : Int32) (sz : Nat) (hF : x_X5_takePart a0 u = some (r, u1)) : Met l yX5_takePart (Cond.code yX5_takePart cX5_takePart 2 none :: wK) { frames := 2, cells := 0, slots := 0, locals := 43 } (va_Pc [.ref (Q 3), .int a0] (cPM G Z Q D T u sz)) (cQv G Q T u1 (va_A (cW G Q D T u) sz)) 0 0 (va_A (cW G Q D T u) sz) := by
  refine Met.ofW (cc := cX5_takePart) (maxL := 2) (ret := none) (by decide) rfl ?_
  intro p e s m args below meth c s₁ B hml hv
  obtain ⟨rfl, rfl, hP, hB, hD0, hE⟩ := hv
  have hr := B.returns
  have hlocks := B.notSynchronized
  have hts := atoms_spec (ws := Cond.code yX5_takePart cX5_takePart 2 none :: wK) B.pre
  have hD := hD0.self (sz := s.heap.size)
  have hA : ∀ q : Nat, s.heap.size ≤ q → va_A (cW G Q D T u) s.heap.size q := fun q h => Or.inr h
  generalize va_A (cW G Q D T u) s.heap.size = A at hD hA hE ⊢
  have hC : cX p c cX5_takePart 2 s m _ RX5 G Z A := ⟨B.exec, B.bytes, hml, findClass_of_methodNamed B.named, fun w h => hts w (List.mem_cons_of_mem _ h), hB, hE, hA⟩
  have hx := hC.1
  have hb := hC.2.1
  have hH : cH G Q D T A u s s.heap [] := ⟨hP, hD, va_S.rf⟩
  have hl := lv_entry ([.ref (Q 3), .int a0]) (n := 2) (Nat.le_of_ble_eq_true rfl)
  rw [lg_entry_eq]
  generalize (lg_sl ([.ref (Q 3), .int a0]) ++ List.replicate (2 - (lg_sl ([.ref (Q 3), .int a0])).length) Slot.unset).toArray = ls at hl ⊢
  have hl : lv_has ls 2 [(0, .ref (Q 3)), (1, .int a0)] := hl
  unfold x_X5_takePart at hF
  refine lv_aload_n hx hb dX5_takePart_0 rfl (lv_at hl 0 rfl) ?_
  refine lv_aload_n hx hb dX5_takePart_1 rfl (lv_at hl 0 rfl) ?_
  refine cg_X5_33 hC hH dX5_takePart_2 ?_
  refine cg_X5_175 hC hH dX5_takePart_5 ?_
  obtain ⟨x_1, u_2, h_3, hF⟩ := ncl_some hF
  obtain ⟨e_4, rfl⟩ := nRF_eq h_3
  refine gx_ti e_4 ?_
  refine lv_sipush (v := 300) hx hb dX5_takePart_8 (by decide) ?_
  refine lv_icmp_ge (tgt := 18) hx hb dX5_takePart_11 (by decide) (fun c_5 => ?_) (fun c_5 => ?_)
  · rw [if_pos c_5] at hF
    refine lv_iconst (v := 0) hx hb dX5_takePart_18 (by decide) ?_
    refine lv_iload_n hx hb dX5_takePart_19 rfl (lv_at hl 1 rfl) ?_
    obtain ⟨r_6, u_7, h_8, hF⟩ := ncl_some hF
    refine ccV_v (q0 := 3) (As := [.int 0, .int a0]) (rest := []) hC hH (n_X5_goIfRoom l G Z Q _ T u u_7 r_6 0 a0 _ h_8) rfl rfl ⟨wkc_X5_goIfRoom, wka173, wka542, wka543, wka749⟩ kVX5_goIfRoom ⟨Nat.le_of_ble_eq_true rfl, Nat.le_of_ble_eq_true rfl⟩ rfl hl.1 rfl (Nat.le_of_ble_eq_true rfl) dX5_takePart_20 (fun D H locs hH => ?_)
    refine lv_aload_n hx hb dX5_takePart_23 rfl (lv_at hl 0 rfl) ?_
    refine cg_X5_49 hC hH dX5_takePart_24 ?_
    obtain ⟨x_9, u_10, h_11, hF⟩ := ncl_some hF
    obtain ⟨e_12, rfl⟩ := nRF_eq h_11
    refine gx_ti e_12 ?_
    refine lv_if_ne (tgt := 43) hx hb dX5_takePart_27 (by decide) (fun c_13 => ?_) (fun c_13 => ?_)
    · rw [if_neg c_13] at hF
      exact cr_v hC hH hr (nrt_eq hF) dX5_takePart_43 hlocks
    · rw [if_pos c_13] at hF
      refine lv_aload_n hx hb dX5_takePart_30 rfl (lv_at hl 0 rfl) ?_
      refine cg_X5_33 hC hH dX5_takePart_31 ?_
      refine lv_dup hx hb dX5_takePart_34 rfl ?_
      refine cg_X5_175 hC hH dX5_takePart_35 ?_
      obtain ⟨x_14, u_15, h_16, hF⟩ := ncl_some hF
      obtain ⟨e_17, rfl⟩ := nRF_eq h_16
      refine gx_ti e_17 ?_
      refine lv_iconst (v := 1) hx hb dX5_takePart_38 (by decide) ?_
      refine lv_iadd hx hb dX5_takePart_39 ?_
      obtain ⟨y_21, u_18, h_20, hF⟩ := ncl_some hF
      have e_19 := nWF_eq h_20
      refine cp_X5_175 hC hH e_19 dX5_takePart_40 (fun H locs hH => ?_)
      exact cr_v hC hH hr (nrt_eq hF) dX5_takePart_43 hlocks
  · rw [if_neg c_5] at hF
    refine lv_iconst (v := 1) hx hb dX5_takePart_14 (by decide) ?_
    refine lv_goto (tgt := 19) hx hb dX5_takePart_15 (by decide) ?_
    refine lv_iload_n hx hb dX5_takePart_19 rfl (lv_at hl 1 rfl) ?_
    obtain ⟨r_22, u_23, h_24, hF⟩ := ncl_some hF
    refine ccV_v (q0 := 3) (As := [.int 1, .int a0]) (rest := []) hC hH (n_X5_goIfRoom l G Z Q _ T u u_23 r_22 1 a0 _ h_24) rfl rfl ⟨wkc_X5_goIfRoom, wka173, wka542, wka543, wka749⟩ kVX5_goIfRoom ⟨Nat.le_of_ble_eq_true rfl, Nat.le_of_ble_eq_true rfl⟩ rfl hl.1 rfl (Nat.le_of_ble_eq_true rfl) dX5_takePart_20 (fun D H locs hH => ?_)
    refine lv_aload_n hx hb dX5_takePart_23 rfl (lv_at hl 0 rfl) ?_
    refine cg_X5_49 hC hH dX5_takePart_24 ?_
    obtain ⟨x_25, u_26, h_27, hF⟩ := ncl_some hF
    obtain ⟨e_28, rfl⟩ := nRF_eq h_27
    refine gx_ti e_28 ?_
    refine lv_if_ne (tgt := 43) hx hb dX5_takePart_27 (by decide) (fun c_29 => ?_) (fun c_29 => ?_)
    · rw [if_neg c_29] at hF
      exact cr_v hC hH hr (nrt_eq hF) dX5_takePart_43 hlocks
    · rw [if_pos c_29] at hF
      refine lv_aload_n hx hb dX5_takePart_30 rfl (lv_at hl 0 rfl) ?_
      refine cg_X5_33 hC hH dX5_takePart_31 ?_
      refine lv_dup hx hb dX5_takePart_34 rfl ?_
      refine cg_X5_175 hC hH dX5_takePart_35 ?_
      obtain ⟨x_30, u_31, h_32, hF⟩ := ncl_some hF
      obtain ⟨e_33, rfl⟩ := nRF_eq h_32
      refine gx_ti e_33 ?_
      refine lv_iconst (v := 1) hx hb dX5_takePart_38 (by decide) ?_
      refine lv_iadd hx hb dX5_takePart_39 ?_
      obtain ⟨y_37, u_34, h_36, hF⟩ := ncl_some hF
      have e_35 := nWF_eq h_36
      refine cp_X5_175 hC hH e_35 dX5_takePart_40 (fun H locs hH => ?_)
      exact cr_v hC hH hr (nrt_eq hF) dX5_takePart_43 hlocks
def xl_X5_closeNots_0 : Nat → (NG Int32) → NG Int32
  | 0, _ => fun _ => none
  | n0 + 1, K0_58 => ncl (nRF 7) (fun x_1 => (if x_1 ≤ 0 then K0_58  else ncl (nRF 7) (fun x_6 => ncl (nGT 7 64 (x_6 - 1)) (fun x_10 => (if x_10 = 11 then ncl (nRF 7) (fun x_15 => ncl (nWF 7 (x_15 - 1)) (fun _ => ncl (nRF 8) (fun x_23 => ncl (nWF 8 (x_23 - 1)) (fun _ => ncl (x_X4_emit 11 0) (fun r_31 => xl_X5_closeNots_0 n0  K0_58))))) else K0_58 )))))
def x_X5_closeNots : NG Int32 := xl_X5_closeNots_0 fuel  (nrt 0)
set_option maxHeartbeats 4000000 in
set_option maxRecDepth 100000 in
theorem n_X5_closeNots (l : Launch) (G : gG) (Z : gC) (Q : Nat → Nat) (D : Nat × Nat) (T : va_W) (u u1 : MS) (r : Int32) (sz : Nat) (hF : x_X5_closeNots u = some (r, u1)) : Met l yX5_closeNots (Cond.code yX5_closeNots cX5_closeNots 1 none :: wK) { frames := 2, cells := 0, slots := 0, locals := 44 } (va_Pc [.ref (Q 3)] (cPM G Z Q D T u sz)) (cQv G Q T u1 (va_A (cW G Q D T u) sz)) 0 0 (va_A (cW G Q D T u) sz) := by
  refine Met.ofW (cc := cX5_closeNots) (maxL := 1) (ret := none) (by decide) rfl ?_
  intro p e s m args below meth c s₁ B hml hv
  obtain ⟨rfl, rfl, hP, hB, hD0, hE⟩ := hv
  have hr := B.returns
  have hlocks := B.notSynchronized
  have hts := atoms_spec (ws := Cond.code yX5_closeNots cX5_closeNots 1 none :: wK) B.pre
  have hD := hD0.self (sz := s.heap.size)
  have hA : ∀ q : Nat, s.heap.size ≤ q → va_A (cW G Q D T u) s.heap.size q := fun q h => Or.inr h
  generalize va_A (cW G Q D T u) s.heap.size = A at hD hA hE ⊢
  have hC : cX p c cX5_closeNots 1 s m _ RX5 G Z A := ⟨B.exec, B.bytes, hml, findClass_of_methodNamed B.named, fun w h => hts w (List.mem_cons_of_mem _ h), hB, hE, hA⟩
  have hx := hC.1
  have hb := hC.2.1
  have hH : cH G Q D T A u s s.heap [] := ⟨hP, hD, va_S.rf⟩
  have hl := lv_entry ([.ref (Q 3)]) (n := 1) (Nat.le_of_ble_eq_true rfl)
  rw [lg_entry_eq]
  generalize (lg_sl ([.ref (Q 3)]) ++ List.replicate (1 - (lg_sl ([.ref (Q 3)])).length) Slot.unset).toArray = ls at hl ⊢
  have hl : lv_has ls 1 [(0, .ref (Q 3))] := hl
  unfold x_X5_closeNots at hF
  have hL0 : ∀ (K0_58 : NG Int32), (∀ (u : MS) (D : Nat × Nat) (H : Heap) (locs : List Loc) (ls : Array Slot), lv_has ls 1 [(0, .ref (Q 3))] → cH G Q D T A u s H locs → K0_58  u = some (r, u1) → W p l e (headSpec (Cond.code yX5_closeNots cX5_closeNots 1 none :: wK) { frames := 2, cells := 0, slots := 0, locals := 44 }).room s m [.ref (Q 3)].toArray below meth c H locs 0 0 (MQ below (cQv G Q T u1 A) [.ref (Q 3)].toArray s 0 0 A) (F0 m 58 ls [])) → ∀ (n0 : Nat) (u : MS) (D : Nat × Nat) (H : Heap) (locs : List Loc) (ls : Array Slot), lv_has ls 1 [(0, .ref (Q 3))] → cH G Q D T A u s H locs → xl_X5_closeNots_0 n0  K0_58 u = some (r, u1) → W p l e (headSpec (Cond.code yX5_closeNots cX5_closeNots 1 none :: wK) { frames := 2, cells := 0, slots := 0, locals := 44 }).room s m [.ref (Q 3)].toArray below meth c H locs 0 0 (MQ below (cQv G Q T u1 A) [.ref (Q 3)].toArray s 0 0 A) (F0 m 0 ls []) := by
    intro K0_58 hK0_58 n0
    induction n0 with
    | zero => intro  u D H locs ls hl hH hF; cases hF
    | succ n0 ih0 =>
      intro  u D H locs ls hl hH hF
      unfold xl_X5_closeNots_0 at hF
      refine lv_aload_n hx hb dX5_closeNots_0 rfl (lv_at hl 0 rfl) ?_
      refine cg_X5_55 hC hH dX5_closeNots_1 ?_
      obtain ⟨x_1, u_2, h_3, hF⟩ := ncl_some hF
      obtain ⟨e_4, rfl⟩ := nRF_eq h_3
      refine gx_ti e_4 ?_
      refine lv_if_le (tgt := 58) hx hb dX5_closeNots_4 (by decide) (fun c_5 => ?_) (fun c_5 => ?_)
      · rw [if_pos c_5] at hF
        exact hK0_58  u _ _ _ _ (lv_sub hl [0] rfl) hH hF
      · rw [if_neg c_5] at hF
        refine lv_aload_n hx hb dX5_closeNots_7 rfl (lv_at hl 0 rfl) ?_
        refine cg_X5_29 hC hH dX5_closeNots_8 ?_
        refine lv_aload_n hx hb dX5_closeNots_11 rfl (lv_at hl 0 rfl) ?_
        refine cg_X5_55 hC hH dX5_closeNots_12 ?_
        obtain ⟨x_6, u_7, h_8, hF⟩ := ncl_some hF
        obtain ⟨e_9, rfl⟩ := nRF_eq h_8
        refine gx_ti e_9 ?_
        refine lv_iconst (v := 1) hx hb dX5_closeNots_15 (by decide) ?_
        refine lv_isub hx hb dX5_closeNots_16 ?_
        refine rg_6 hC hH wka171 ⟨Nat.le_of_ble_eq_true rfl, Nat.le_of_ble_eq_true rfl⟩ hl.1 (Nat.le_of_ble_eq_true rfl) ⟨Nat.zero_le _, Nat.zero_le _⟩ dX5_closeNots_17 ?_
        obtain ⟨x_10, u_11, h_12, hF⟩ := ncl_some hF
        obtain ⟨e_13, rfl⟩ := nGT_eq h_12
        refine gx_ti e_13 ?_
        refine lv_bipush (v := 11) hx hb dX5_closeNots_20 (by decide) ?_
        refine lv_icmp_ne (tgt := 58) hx hb dX5_closeNots_22 (by decide) (fun c_14 => ?_) (fun c_14 => ?_)
        · rw [if_neg c_14] at hF
          exact hK0_58  u _ _ _ _ (lv_sub hl [0] rfl) hH hF
        · rw [if_pos c_14] at hF
          refine lv_aload_n hx hb dX5_closeNots_25 rfl (lv_at hl 0 rfl) ?_
          refine lv_dup hx hb dX5_closeNots_26 rfl ?_
          refine cg_X5_55 hC hH dX5_closeNots_27 ?_
          obtain ⟨x_15, u_16, h_17, hF⟩ := ncl_some hF
          obtain ⟨e_18, rfl⟩ := nRF_eq h_17
          refine gx_ti e_18 ?_
          refine lv_iconst (v := 1) hx hb dX5_closeNots_30 (by decide) ?_
          refine lv_isub hx hb dX5_closeNots_31 ?_
          obtain ⟨y_22, u_19, h_21, hF⟩ := ncl_some hF
          have e_20 := nWF_eq h_21
          refine cp_X5_55 hC hH e_20 dX5_closeNots_32 (fun H locs hH => ?_)
          refine lv_aload_n hx hb dX5_closeNots_35 rfl (lv_at hl 0 rfl) ?_
          refine lv_dup hx hb dX5_closeNots_36 rfl ?_
          refine cg_X5_58 hC hH dX5_closeNots_37 ?_
          obtain ⟨x_23, u_24, h_25, hF⟩ := ncl_some hF
          obtain ⟨e_26, rfl⟩ := nRF_eq h_25
          refine gx_ti e_26 ?_
          refine lv_iconst (v := 1) hx hb dX5_closeNots_40 (by decide) ?_
          refine lv_isub hx hb dX5_closeNots_41 ?_
          obtain ⟨y_30, u_27, h_29, hF⟩ := ncl_some hF
          have e_28 := nWF_eq h_29
          refine cp_X5_58 hC hH e_28 dX5_closeNots_42 (fun H locs hH => ?_)
          refine lv_aload_n hx hb dX5_closeNots_45 rfl (lv_at hl 0 rfl) ?_
          refine cg_X5_33 hC hH dX5_closeNots_46 ?_
          refine lv_bipush (v := 11) hx hb dX5_closeNots_49 (by decide) ?_
          refine lv_iconst (v := 0) hx hb dX5_closeNots_51 (by decide) ?_
          obtain ⟨r_31, u_32, h_33, hF⟩ := ncl_some hF
          refine ccV_v (q0 := 10) (As := [.int 11, .int 0]) (rest := []) hC hH (n_X4_emit l G Z Q _ T u_27 u_32 r_31 11 0 _ h_33) rfl rfl ⟨wkc_X4_emit, wka168, wka518, wka519, wka748⟩ kVX4_emit ⟨Nat.le_of_ble_eq_true rfl, Nat.le_of_ble_eq_true rfl⟩ rfl hl.1 rfl (Nat.le_of_ble_eq_true rfl) dX5_closeNots_52 (fun D H locs hH => ?_)
          refine lv_goto (tgt := 0) hx hb dX5_closeNots_55 (by decide) ?_
          exact ih0  u_32 _ _ _ _ (lv_sub hl [0] rfl) hH hF
  refine hL0 _ (fun  u D H locs ls hl hH hF => ?_) fuel  u _ _ _ _ (lv_sub hl [0] rfl) hH hF
  exact cr_v hC hH hr (nrt_eq hF) dX5_closeNots_58 hlocks
def x_X5_emitTerm (a0 : Int32) (a1 : Int32) : NG Int32 := ncl (x_X4_emit a0 a1) (fun r_1 => ncl (nRF 14) (fun x_4 => (if x_4 = 0 then ncl (nWF 14 0) (fun _ => nrt 0) else ncl (nRF 14) (fun x_13 => ncl (x_X4_emit x_13 0) (fun r_17 => ncl (nWF 14 0) (fun _ => nrt 0))))))
set_option maxHeartbeats 4000000 in
set_option maxRecDepth 100000 in
theorem n_X5_emitTerm (l : Launch) (G : gG) (Z : gC) (Q : Nat → Nat) (D : Nat × Nat) (T : va_W) (u u1 : MS) (r : Int32) (a0 : Int32) (a1 : Int32) (sz : Nat) (hF : x_X5_emitTerm a0 a1 u = some (r, u1)) : Met l yX5_emitTerm (Cond.code yX5_emitTerm cX5_emitTerm 3 none :: wK) { frames := 2, cells := 0, slots := 0, locals := 44 } (va_Pc [.ref (Q 3), .int a0, .int a1] (cPM G Z Q D T u sz)) (cQv G Q T u1 (va_A (cW G Q D T u) sz)) 0 0 (va_A (cW G Q D T u) sz) := by
  refine Met.ofW (cc := cX5_emitTerm) (maxL := 3) (ret := none) (by decide) rfl ?_
  intro p e s m args below meth c s₁ B hml hv
  obtain ⟨rfl, rfl, hP, hB, hD0, hE⟩ := hv
  have hr := B.returns
  have hlocks := B.notSynchronized
  have hts := atoms_spec (ws := Cond.code yX5_emitTerm cX5_emitTerm 3 none :: wK) B.pre
  have hD := hD0.self (sz := s.heap.size)
  have hA : ∀ q : Nat, s.heap.size ≤ q → va_A (cW G Q D T u) s.heap.size q := fun q h => Or.inr h
  generalize va_A (cW G Q D T u) s.heap.size = A at hD hA hE ⊢
  have hC : cX p c cX5_emitTerm 3 s m _ RX5 G Z A := ⟨B.exec, B.bytes, hml, findClass_of_methodNamed B.named, fun w h => hts w (List.mem_cons_of_mem _ h), hB, hE, hA⟩
  have hx := hC.1
  have hb := hC.2.1
  have hH : cH G Q D T A u s s.heap [] := ⟨hP, hD, va_S.rf⟩
  have hl := lv_entry ([.ref (Q 3), .int a0, .int a1]) (n := 3) (Nat.le_of_ble_eq_true rfl)
  rw [lg_entry_eq]
  generalize (lg_sl ([.ref (Q 3), .int a0, .int a1]) ++ List.replicate (3 - (lg_sl ([.ref (Q 3), .int a0, .int a1])).length) Slot.unset).toArray = ls at hl ⊢
  have hl : lv_has ls 3 [(0, .ref (Q 3)), (1, .int a0), (2, .int a1)] := hl
  unfold x_X5_emitTerm at hF
  refine lv_aload_n hx hb dX5_emitTerm_0 rfl (lv_at hl 0 rfl) ?_
  refine cg_X5_33 hC hH dX5_emitTerm_1 ?_
  refine lv_iload_n hx hb dX5_emitTerm_4 rfl (lv_at hl 1 rfl) ?_
  refine lv_iload_n hx hb dX5_emitTerm_5 rfl (lv_at hl 2 rfl) ?_
  obtain ⟨r_1, u_2, h_3, hF⟩ := ncl_some hF
  refine ccV_v (q0 := 10) (As := [.int a0, .int a1]) (rest := []) hC hH (n_X4_emit l G Z Q _ T u u_2 r_1 a0 a1 _ h_3) rfl rfl ⟨wkc_X4_emit, wka168, wka518, wka519, wka748⟩ kVX4_emit ⟨Nat.le_of_ble_eq_true rfl, Nat.le_of_ble_eq_true rfl⟩ rfl hl.1 rfl (Nat.le_of_ble_eq_true rfl) dX5_emitTerm_6 (fun D H locs hH => ?_)
  refine lv_aload_n hx hb dX5_emitTerm_9 rfl (lv_at hl 0 rfl) ?_
  refine cg_X5_160 hC hH dX5_emitTerm_10 ?_
  obtain ⟨x_4, u_5, h_6, hF⟩ := ncl_some hF
  obtain ⟨e_7, rfl⟩ := nRF_eq h_6
  refine gx_ti e_7 ?_
  refine lv_if_eq (tgt := 28) hx hb dX5_emitTerm_13 (by decide) (fun c_8 => ?_) (fun c_8 => ?_)
  · rw [if_pos c_8] at hF
    refine lv_aload_n hx hb dX5_emitTerm_28 rfl (lv_at hl 0 rfl) ?_
    refine lv_iconst (v := 0) hx hb dX5_emitTerm_29 (by decide) ?_
    obtain ⟨y_12, u_9, h_11, hF⟩ := ncl_some hF
    have e_10 := nWF_eq h_11
    refine cp_X5_160 hC hH e_10 dX5_emitTerm_30 (fun H locs hH => ?_)
    exact cr_v hC hH hr (nrt_eq hF) dX5_emitTerm_33 hlocks
  · rw [if_neg c_8] at hF
    refine lv_aload_n hx hb dX5_emitTerm_16 rfl (lv_at hl 0 rfl) ?_
    refine cg_X5_33 hC hH dX5_emitTerm_17 ?_
    refine lv_aload_n hx hb dX5_emitTerm_20 rfl (lv_at hl 0 rfl) ?_
    refine cg_X5_160 hC hH dX5_emitTerm_21 ?_
    obtain ⟨x_13, u_14, h_15, hF⟩ := ncl_some hF
    obtain ⟨e_16, rfl⟩ := nRF_eq h_15
    refine gx_ti e_16 ?_
    refine lv_iconst (v := 0) hx hb dX5_emitTerm_24 (by decide) ?_
    obtain ⟨r_17, u_18, h_19, hF⟩ := ncl_some hF
    refine ccV_v (q0 := 10) (As := [.int x_13, .int 0]) (rest := []) hC hH (n_X4_emit l G Z Q _ T u_2 u_18 r_17 x_13 0 _ h_19) rfl rfl ⟨wkc_X4_emit, wka168, wka518, wka519, wka748⟩ kVX4_emit ⟨Nat.le_of_ble_eq_true rfl, Nat.le_of_ble_eq_true rfl⟩ rfl hl.1 rfl (Nat.le_of_ble_eq_true rfl) dX5_emitTerm_25 (fun D H locs hH => ?_)
    refine lv_aload_n hx hb dX5_emitTerm_28 rfl (lv_at hl 0 rfl) ?_
    refine lv_iconst (v := 0) hx hb dX5_emitTerm_29 (by decide) ?_
    obtain ⟨y_23, u_20, h_22, hF⟩ := ncl_some hF
    have e_21 := nWF_eq h_22
    refine cp_X5_160 hC hH e_21 dX5_emitTerm_30 (fun H locs hH => ?_)
    exact cr_v hC hH hr (nrt_eq hF) dX5_emitTerm_33 hlocks
def x_X5_takeTerm (a0 : Int32) : NG Int32 := (if a0 = 14 then ncl (x_X5_takePart 14) (fun r_2 => ncl (nWF 13 a0) (fun _ => nrt 0)) else (if a0 = 15 then ncl (x_X5_takePart 14) (fun r_43 => ncl (nWF 13 a0) (fun _ => nrt 0)) else (if a0 = 16 then ncl (x_X5_takePart 15) (fun r_11 => (if a0 = 3 then ncl (nRF 6) (fun x_18 => ncl (x_X5_emitTerm a0 x_18) (fun r_22 => nrt 0)) else ncl (x_X5_emitTerm a0 0) (fun r_15 => nrt 0))) else (if a0 = 3 then ncl (x_X5_takePart 15) (fun r_29 => (if a0 = 3 then ncl (nRF 6) (fun x_36 => ncl (x_X5_emitTerm a0 x_36) (fun r_40 => nrt 0)) else ncl (x_X5_emitTerm a0 0) (fun r_33 => nrt 0))) else ncl (x_X5_fail 1) (fun r_26 => nrt 0)))))
set_option maxHeartbeats 4000000 in
set_option maxRecDepth 100000 in
theorem n_X5_takeTerm (l : Launch) (G : gG) (Z : gC) (Q : Nat → Nat) (D : Nat × Nat) (T : va_W) (u u1 : MS) (r : Int32) (a0 : Int32) (sz : Nat) (hF : x_X5_takeTerm a0 u = some (r, u1)) : Met l yX5_takeTerm (Cond.code yX5_takeTerm cX5_takeTerm 2 none :: wK) { frames := 3, cells := 0, slots := 0, locals := 66 } (va_Pc [.ref (Q 3), .int a0] (cPM G Z Q D T u sz)) (cQv G Q T u1 (va_A (cW G Q D T u) sz)) 0 0 (va_A (cW G Q D T u) sz) := by
  refine Met.ofW (cc := cX5_takeTerm) (maxL := 2) (ret := none) (by decide) rfl ?_
  intro p e s m args below meth c s₁ B hml hv
  obtain ⟨rfl, rfl, hP, hB, hD0, hE⟩ := hv
  have hr := B.returns
  have hlocks := B.notSynchronized
  have hts := atoms_spec (ws := Cond.code yX5_takeTerm cX5_takeTerm 2 none :: wK) B.pre
  have hD := hD0.self (sz := s.heap.size)
  have hA : ∀ q : Nat, s.heap.size ≤ q → va_A (cW G Q D T u) s.heap.size q := fun q h => Or.inr h
  generalize va_A (cW G Q D T u) s.heap.size = A at hD hA hE ⊢
  have hC : cX p c cX5_takeTerm 2 s m _ RX5 G Z A := ⟨B.exec, B.bytes, hml, findClass_of_methodNamed B.named, fun w h => hts w (List.mem_cons_of_mem _ h), hB, hE, hA⟩
  have hx := hC.1
  have hb := hC.2.1
  have hH : cH G Q D T A u s s.heap [] := ⟨hP, hD, va_S.rf⟩
  have hl := lv_entry ([.ref (Q 3), .int a0]) (n := 2) (Nat.le_of_ble_eq_true rfl)
  rw [lg_entry_eq]
  generalize (lg_sl ([.ref (Q 3), .int a0]) ++ List.replicate (2 - (lg_sl ([.ref (Q 3), .int a0])).length) Slot.unset).toArray = ls at hl ⊢
  have hl : lv_has ls 2 [(0, .ref (Q 3)), (1, .int a0)] := hl
  unfold x_X5_takeTerm at hF
  refine lv_iload_n hx hb dX5_takeTerm_0 rfl (lv_at hl 1 rfl) ?_
  refine lv_bipush (v := 14) hx hb dX5_takeTerm_1 (by decide) ?_
  refine lv_icmp_eq (tgt := 12) hx hb dX5_takeTerm_3 (by decide) (fun c_1 => ?_) (fun c_1 => ?_)
  · rw [if_pos c_1] at hF
    refine lv_aload_n hx hb dX5_takeTerm_12 rfl (lv_at hl 0 rfl) ?_
    refine lv_bipush (v := 14) hx hb dX5_takeTerm_13 (by decide) ?_
    obtain ⟨r_2, u_3, h_4, hF⟩ := ncl_some hF
    refine ccV_v (q0 := 3) (As := [.int 14]) (rest := []) hC hH (n_X5_takePart l G Z Q _ T u u_3 r_2 14 _ h_4) rfl rfl ⟨wkc_X5_takePart, wka181, wka552, wka553, wka749⟩ kVX5_takePart ⟨Nat.le_of_ble_eq_true rfl, Nat.le_of_ble_eq_true rfl⟩ rfl hl.1 rfl (Nat.le_of_ble_eq_true rfl) dX5_takeTerm_15 (fun D H locs hH => ?_)
    refine lv_aload_n hx hb dX5_takeTerm_18 rfl (lv_at hl 0 rfl) ?_
    refine lv_iload_n hx hb dX5_takeTerm_19 rfl (lv_at hl 1 rfl) ?_
    obtain ⟨y_8, u_5, h_7, hF⟩ := ncl_some hF
    have e_6 := nWF_eq h_7
    refine cp_X5_181 hC hH e_6 dX5_takeTerm_20 (fun H locs hH => ?_)
    refine lv_goto (tgt := 72) hx hb dX5_takeTerm_23 (by decide) ?_
    exact cr_v hC hH hr (nrt_eq hF) dX5_takeTerm_72 hlocks
  · rw [if_neg c_1] at hF
    refine lv_iload_n hx hb dX5_takeTerm_6 rfl (lv_at hl 1 rfl) ?_
    refine lv_bipush (v := 15) hx hb dX5_takeTerm_7 (by decide) ?_
    refine lv_icmp_ne (tgt := 26) hx hb dX5_takeTerm_9 (by decide) (fun c_9 => ?_) (fun c_9 => ?_)
    · rw [if_neg c_9] at hF
      refine lv_iload_n hx hb dX5_takeTerm_26 rfl (lv_at hl 1 rfl) ?_
      refine lv_bipush (v := 16) hx hb dX5_takeTerm_27 (by decide) ?_
      refine lv_icmp_eq (tgt := 37) hx hb dX5_takeTerm_29 (by decide) (fun c_10 => ?_) (fun c_10 => ?_)
      · rw [if_pos c_10] at hF
        refine lv_aload_n hx hb dX5_takeTerm_37 rfl (lv_at hl 0 rfl) ?_
        refine lv_bipush (v := 15) hx hb dX5_takeTerm_38 (by decide) ?_
        obtain ⟨r_11, u_12, h_13, hF⟩ := ncl_some hF
        refine ccV_v (q0 := 3) (As := [.int 15]) (rest := []) hC hH (n_X5_takePart l G Z Q _ T u u_12 r_11 15 _ h_13) rfl rfl ⟨wkc_X5_takePart, wka181, wka552, wka553, wka749⟩ kVX5_takePart ⟨Nat.le_of_ble_eq_true rfl, Nat.le_of_ble_eq_true rfl⟩ rfl hl.1 rfl (Nat.le_of_ble_eq_true rfl) dX5_takeTerm_40 (fun D H locs hH => ?_)
        refine lv_aload_n hx hb dX5_takeTerm_43 rfl (lv_at hl 0 rfl) ?_
        refine lv_iload_n hx hb dX5_takeTerm_44 rfl (lv_at hl 1 rfl) ?_
        refine lv_iload_n hx hb dX5_takeTerm_45 rfl (lv_at hl 1 rfl) ?_
        refine lv_iconst (v := 3) hx hb dX5_takeTerm_46 (by decide) ?_
        refine lv_icmp_ne (tgt := 60) hx hb dX5_takeTerm_47 (by decide) (fun c_14 => ?_) (fun c_14 => ?_)
        · rw [if_neg c_14] at hF
          refine lv_iconst (v := 0) hx hb dX5_takeTerm_60 (by decide) ?_
          obtain ⟨r_15, u_16, h_17, hF⟩ := ncl_some hF
          refine ccV_v (q0 := 3) (As := [.int a0, .int 0]) (rest := []) hC hH (n_X5_emitTerm l G Z Q _ T u_12 u_16 r_15 a0 0 _ h_17) rfl rfl ⟨wkc_X5_emitTerm, wka185, wka560, wka561, wka749⟩ kVX5_emitTerm ⟨Nat.le_of_ble_eq_true rfl, Nat.le_of_ble_eq_true rfl⟩ rfl hl.1 rfl (Nat.le_of_ble_eq_true rfl) dX5_takeTerm_61 (fun D H locs hH => ?_)
          refine lv_goto (tgt := 72) hx hb dX5_takeTerm_64 (by decide) ?_
          exact cr_v hC hH hr (nrt_eq hF) dX5_takeTerm_72 hlocks
        · rw [if_pos c_14] at hF
          refine lv_aload_n hx hb dX5_takeTerm_50 rfl (lv_at hl 0 rfl) ?_
          refine cg_X5_9 hC hH dX5_takeTerm_51 ?_
          refine cg_X5_121 hC hH dX5_takeTerm_54 ?_
          obtain ⟨x_18, u_19, h_20, hF⟩ := ncl_some hF
          obtain ⟨e_21, rfl⟩ := nRF_eq h_20
          refine gx_ti e_21 ?_
          refine lv_goto (tgt := 61) hx hb dX5_takeTerm_57 (by decide) ?_
          obtain ⟨r_22, u_23, h_24, hF⟩ := ncl_some hF
          refine ccV_v (q0 := 3) (As := [.int a0, .int x_18]) (rest := []) hC hH (n_X5_emitTerm l G Z Q _ T u_12 u_23 r_22 a0 x_18 _ h_24) rfl rfl ⟨wkc_X5_emitTerm, wka185, wka560, wka561, wka749⟩ kVX5_emitTerm ⟨Nat.le_of_ble_eq_true rfl, Nat.le_of_ble_eq_true rfl⟩ rfl hl.1 rfl (Nat.le_of_ble_eq_true rfl) dX5_takeTerm_61 (fun D H locs hH => ?_)
          refine lv_goto (tgt := 72) hx hb dX5_takeTerm_64 (by decide) ?_
          exact cr_v hC hH hr (nrt_eq hF) dX5_takeTerm_72 hlocks
      · rw [if_neg c_10] at hF
        refine lv_iload_n hx hb dX5_takeTerm_32 rfl (lv_at hl 1 rfl) ?_
        refine lv_iconst (v := 3) hx hb dX5_takeTerm_33 (by decide) ?_
        refine lv_icmp_ne (tgt := 67) hx hb dX5_takeTerm_34 (by decide) (fun c_25 => ?_) (fun c_25 => ?_)
        · rw [if_neg c_25] at hF
          refine lv_aload_n hx hb dX5_takeTerm_67 rfl (lv_at hl 0 rfl) ?_
          refine lv_iconst (v := 1) hx hb dX5_takeTerm_68 (by decide) ?_
          obtain ⟨r_26, u_27, h_28, hF⟩ := ncl_some hF
          refine ccV_v (q0 := 3) (As := [.int 1]) (rest := []) hC hH (n_X5_fail l G Z Q _ T u u_27 r_26 1 _ h_28) rfl rfl ⟨wkc_X5_fail, wka166, wka532, wka533, wka749⟩ kVX5_fail ⟨Nat.le_of_ble_eq_true rfl, Nat.le_of_ble_eq_true rfl⟩ rfl hl.1 rfl (Nat.le_of_ble_eq_true rfl) dX5_takeTerm_69 (fun D H locs hH => ?_)
          exact cr_v hC hH hr (nrt_eq hF) dX5_takeTerm_72 hlocks
        · rw [if_pos c_25] at hF
          refine lv_aload_n hx hb dX5_takeTerm_37 rfl (lv_at hl 0 rfl) ?_
          refine lv_bipush (v := 15) hx hb dX5_takeTerm_38 (by decide) ?_
          obtain ⟨r_29, u_30, h_31, hF⟩ := ncl_some hF
          refine ccV_v (q0 := 3) (As := [.int 15]) (rest := []) hC hH (n_X5_takePart l G Z Q _ T u u_30 r_29 15 _ h_31) rfl rfl ⟨wkc_X5_takePart, wka181, wka552, wka553, wka749⟩ kVX5_takePart ⟨Nat.le_of_ble_eq_true rfl, Nat.le_of_ble_eq_true rfl⟩ rfl hl.1 rfl (Nat.le_of_ble_eq_true rfl) dX5_takeTerm_40 (fun D H locs hH => ?_)
          refine lv_aload_n hx hb dX5_takeTerm_43 rfl (lv_at hl 0 rfl) ?_
          refine lv_iload_n hx hb dX5_takeTerm_44 rfl (lv_at hl 1 rfl) ?_
          refine lv_iload_n hx hb dX5_takeTerm_45 rfl (lv_at hl 1 rfl) ?_
          refine lv_iconst (v := 3) hx hb dX5_takeTerm_46 (by decide) ?_
          refine lv_icmp_ne (tgt := 60) hx hb dX5_takeTerm_47 (by decide) (fun c_32 => ?_) (fun c_32 => ?_)
          · rw [if_neg c_32] at hF
            refine lv_iconst (v := 0) hx hb dX5_takeTerm_60 (by decide) ?_
            obtain ⟨r_33, u_34, h_35, hF⟩ := ncl_some hF
            refine ccV_v (q0 := 3) (As := [.int a0, .int 0]) (rest := []) hC hH (n_X5_emitTerm l G Z Q _ T u_30 u_34 r_33 a0 0 _ h_35) rfl rfl ⟨wkc_X5_emitTerm, wka185, wka560, wka561, wka749⟩ kVX5_emitTerm ⟨Nat.le_of_ble_eq_true rfl, Nat.le_of_ble_eq_true rfl⟩ rfl hl.1 rfl (Nat.le_of_ble_eq_true rfl) dX5_takeTerm_61 (fun D H locs hH => ?_)
            refine lv_goto (tgt := 72) hx hb dX5_takeTerm_64 (by decide) ?_
            exact cr_v hC hH hr (nrt_eq hF) dX5_takeTerm_72 hlocks
          · rw [if_pos c_32] at hF
            refine lv_aload_n hx hb dX5_takeTerm_50 rfl (lv_at hl 0 rfl) ?_
            refine cg_X5_9 hC hH dX5_takeTerm_51 ?_
            refine cg_X5_121 hC hH dX5_takeTerm_54 ?_
            obtain ⟨x_36, u_37, h_38, hF⟩ := ncl_some hF
            obtain ⟨e_39, rfl⟩ := nRF_eq h_38
            refine gx_ti e_39 ?_
            refine lv_goto (tgt := 61) hx hb dX5_takeTerm_57 (by decide) ?_
            obtain ⟨r_40, u_41, h_42, hF⟩ := ncl_some hF
            refine ccV_v (q0 := 3) (As := [.int a0, .int x_36]) (rest := []) hC hH (n_X5_emitTerm l G Z Q _ T u_30 u_41 r_40 a0 x_36 _ h_42) rfl rfl ⟨wkc_X5_emitTerm, wka185, wka560, wka561, wka749⟩ kVX5_emitTerm ⟨Nat.le_of_ble_eq_true rfl, Nat.le_of_ble_eq_true rfl⟩ rfl hl.1 rfl (Nat.le_of_ble_eq_true rfl) dX5_takeTerm_61 (fun D H locs hH => ?_)
            refine lv_goto (tgt := 72) hx hb dX5_takeTerm_64 (by decide) ?_
            exact cr_v hC hH hr (nrt_eq hF) dX5_takeTerm_72 hlocks
    · rw [if_pos c_9] at hF
      refine lv_aload_n hx hb dX5_takeTerm_12 rfl (lv_at hl 0 rfl) ?_
      refine lv_bipush (v := 14) hx hb dX5_takeTerm_13 (by decide) ?_
      obtain ⟨r_43, u_44, h_45, hF⟩ := ncl_some hF
      refine ccV_v (q0 := 3) (As := [.int 14]) (rest := []) hC hH (n_X5_takePart l G Z Q _ T u u_44 r_43 14 _ h_45) rfl rfl ⟨wkc_X5_takePart, wka181, wka552, wka553, wka749⟩ kVX5_takePart ⟨Nat.le_of_ble_eq_true rfl, Nat.le_of_ble_eq_true rfl⟩ rfl hl.1 rfl (Nat.le_of_ble_eq_true rfl) dX5_takeTerm_15 (fun D H locs hH => ?_)
      refine lv_aload_n hx hb dX5_takeTerm_18 rfl (lv_at hl 0 rfl) ?_
      refine lv_iload_n hx hb dX5_takeTerm_19 rfl (lv_at hl 1 rfl) ?_
      obtain ⟨y_49, u_46, h_48, hF⟩ := ncl_some hF
      have e_47 := nWF_eq h_48
      refine cp_X5_181 hC hH e_47 dX5_takeTerm_20 (fun H locs hH => ?_)
      refine lv_goto (tgt := 72) hx hb dX5_takeTerm_23 (by decide) ?_
      exact cr_v hC hH hr (nrt_eq hF) dX5_takeTerm_72 hlocks
def x_X5_hold (a0 : Int32) : NG Int32 := ncl (nRF 7) (fun x_1 => ncl (nST 7 64 x_1 a0) (fun _ => ncl (nRF 7) (fun x_9 => ncl (nWF 7 (x_9 + 1)) (fun _ => nrt 0))))
set_option maxHeartbeats 4000000 in
set_option maxRecDepth 100000 in
theorem n_X5_hold (l : Launch) (G : gG) (Z : gC) (Q : Nat → Nat) (D : Nat × Nat) (T : va_W) (u u1 : MS) (r : Int32) (a0 : Int32) (sz : Nat) (hF : x_X5_hold a0 u = some (r, u1)) : Met l yX5_hold (Cond.code yX5_hold cX5_hold 2 none :: wK) { frames := 1, cells := 0, slots := 0, locals := 22 } (va_Pc [.ref (Q 3), .int a0] (cPM G Z Q D T u sz)) (cQv G Q T u1 (va_A (cW G Q D T u) sz)) 0 0 (va_A (cW G Q D T u) sz) := by
  refine Met.ofW (cc := cX5_hold) (maxL := 2) (ret := none) (by decide) rfl ?_
  intro p e s m args below meth c s₁ B hml hv
  obtain ⟨rfl, rfl, hP, hB, hD0, hE⟩ := hv
  have hr := B.returns
  have hlocks := B.notSynchronized
  have hts := atoms_spec (ws := Cond.code yX5_hold cX5_hold 2 none :: wK) B.pre
  have hD := hD0.self (sz := s.heap.size)
  have hA : ∀ q : Nat, s.heap.size ≤ q → va_A (cW G Q D T u) s.heap.size q := fun q h => Or.inr h
  generalize va_A (cW G Q D T u) s.heap.size = A at hD hA hE ⊢
  have hC : cX p c cX5_hold 2 s m _ RX5 G Z A := ⟨B.exec, B.bytes, hml, findClass_of_methodNamed B.named, fun w h => hts w (List.mem_cons_of_mem _ h), hB, hE, hA⟩
  have hx := hC.1
  have hb := hC.2.1
  have hH : cH G Q D T A u s s.heap [] := ⟨hP, hD, va_S.rf⟩
  have hl := lv_entry ([.ref (Q 3), .int a0]) (n := 2) (Nat.le_of_ble_eq_true rfl)
  rw [lg_entry_eq]
  generalize (lg_sl ([.ref (Q 3), .int a0]) ++ List.replicate (2 - (lg_sl ([.ref (Q 3), .int a0])).length) Slot.unset).toArray = ls at hl ⊢
  have hl : lv_has ls 2 [(0, .ref (Q 3)), (1, .int a0)] := hl
  unfold x_X5_hold at hF
  refine lv_aload_n hx hb dX5_hold_0 rfl (lv_at hl 0 rfl) ?_
  refine cg_X5_29 hC hH dX5_hold_1 ?_
  refine lv_aload_n hx hb dX5_hold_4 rfl (lv_at hl 0 rfl) ?_
  refine cg_X5_55 hC hH dX5_hold_5 ?_
  obtain ⟨x_1, u_2, h_3, hF⟩ := ncl_some hF
  obtain ⟨e_4, rfl⟩ := nRF_eq h_3
  refine gx_ti e_4 ?_
  refine lv_iload_n hx hb dX5_hold_8 rfl (lv_at hl 1 rfl) ?_
  obtain ⟨y_8, u_5, h_7, hF⟩ := ncl_some hF
  have e_6 := nST_eq h_7
  refine rs_6 hC hH e_6 wka174 ⟨Nat.le_of_ble_eq_true rfl, Nat.le_of_ble_eq_true rfl⟩ hl.1 (Nat.le_of_ble_eq_true rfl) ⟨Nat.zero_le _, Nat.zero_le _⟩ dX5_hold_9 (fun H locs hH => ?_)
  refine lv_aload_n hx hb dX5_hold_12 rfl (lv_at hl 0 rfl) ?_
  refine lv_dup hx hb dX5_hold_13 rfl ?_
  refine cg_X5_55 hC hH dX5_hold_14 ?_
  obtain ⟨x_9, u_10, h_11, hF⟩ := ncl_some hF
  obtain ⟨e_12, rfl⟩ := nRF_eq h_11
  refine gx_ti e_12 ?_
  refine lv_iconst (v := 1) hx hb dX5_hold_17 (by decide) ?_
  refine lv_iadd hx hb dX5_hold_18 ?_
  obtain ⟨y_16, u_13, h_15, hF⟩ := ncl_some hF
  have e_14 := nWF_eq h_15
  refine cp_X5_55 hC hH e_14 dX5_hold_19 (fun H locs hH => ?_)
  exact cr_v hC hH hr (nrt_eq hF) dX5_hold_22 hlocks
def x_X5_openThing (a0 : Int32) : NG Int32 := ncl (nRF 8) (fun x_1 => (if x_1 < 8 then ncl (nRF 8) (fun x_6 => ncl (nWF 8 (x_6 + 1)) (fun _ => ncl (x_X5_hold a0) (fun r_14 => nrt 0))) else ncl (x_X5_fail 3) (fun r_17 => nrt 0)))
set_option maxHeartbeats 4000000 in
set_option maxRecDepth 100000 in
theorem n_X5_openThing (l : Launch) (G : gG) (Z : gC) (Q : Nat → Nat) (D : Nat × Nat) (T : va_W) (u u1 : MS) (r : Int32) (a0 : Int32) (sz : Nat) (hF : x_X5_openThing a0 u = some (r, u1)) : Met l yX5_openThing (Cond.code yX5_openThing cX5_openThing 2 none :: wK) { frames := 2, cells := 0, slots := 0, locals := 43 } (va_Pc [.ref (Q 3), .int a0] (cPM G Z Q D T u sz)) (cQv G Q T u1 (va_A (cW G Q D T u) sz)) 0 0 (va_A (cW G Q D T u) sz) := by
  refine Met.ofW (cc := cX5_openThing) (maxL := 2) (ret := none) (by decide) rfl ?_
  intro p e s m args below meth c s₁ B hml hv
  obtain ⟨rfl, rfl, hP, hB, hD0, hE⟩ := hv
  have hr := B.returns
  have hlocks := B.notSynchronized
  have hts := atoms_spec (ws := Cond.code yX5_openThing cX5_openThing 2 none :: wK) B.pre
  have hD := hD0.self (sz := s.heap.size)
  have hA : ∀ q : Nat, s.heap.size ≤ q → va_A (cW G Q D T u) s.heap.size q := fun q h => Or.inr h
  generalize va_A (cW G Q D T u) s.heap.size = A at hD hA hE ⊢
  have hC : cX p c cX5_openThing 2 s m _ RX5 G Z A := ⟨B.exec, B.bytes, hml, findClass_of_methodNamed B.named, fun w h => hts w (List.mem_cons_of_mem _ h), hB, hE, hA⟩
  have hx := hC.1
  have hb := hC.2.1
  have hH : cH G Q D T A u s s.heap [] := ⟨hP, hD, va_S.rf⟩
  have hl := lv_entry ([.ref (Q 3), .int a0]) (n := 2) (Nat.le_of_ble_eq_true rfl)
  rw [lg_entry_eq]
  generalize (lg_sl ([.ref (Q 3), .int a0]) ++ List.replicate (2 - (lg_sl ([.ref (Q 3), .int a0])).length) Slot.unset).toArray = ls at hl ⊢
  have hl : lv_has ls 2 [(0, .ref (Q 3)), (1, .int a0)] := hl
  unfold x_X5_openThing at hF
  refine lv_aload_n hx hb dX5_openThing_0 rfl (lv_at hl 0 rfl) ?_
  refine cg_X5_58 hC hH dX5_openThing_1 ?_
  obtain ⟨x_1, u_2, h_3, hF⟩ := ncl_some hF
  obtain ⟨e_4, rfl⟩ := nRF_eq h_3
  refine gx_ti e_4 ?_
  refine lv_bipush (v := 8) hx hb dX5_openThing_4 (by decide) ?_
  refine lv_icmp_lt (tgt := 17) hx hb dX5_openThing_6 (by decide) (fun c_5 => ?_) (fun c_5 => ?_)
  · rw [if_pos c_5] at hF
    refine lv_aload_n hx hb dX5_openThing_17 rfl (lv_at hl 0 rfl) ?_
    refine lv_dup hx hb dX5_openThing_18 rfl ?_
    refine cg_X5_58 hC hH dX5_openThing_19 ?_
    obtain ⟨x_6, u_7, h_8, hF⟩ := ncl_some hF
    obtain ⟨e_9, rfl⟩ := nRF_eq h_8
    refine gx_ti e_9 ?_
    refine lv_iconst (v := 1) hx hb dX5_openThing_22 (by decide) ?_
    refine lv_iadd hx hb dX5_openThing_23 ?_
    obtain ⟨y_13, u_10, h_12, hF⟩ := ncl_some hF
    have e_11 := nWF_eq h_12
    refine cp_X5_58 hC hH e_11 dX5_openThing_24 (fun H locs hH => ?_)
    refine lv_aload_n hx hb dX5_openThing_27 rfl (lv_at hl 0 rfl) ?_
    refine lv_iload_n hx hb dX5_openThing_28 rfl (lv_at hl 1 rfl) ?_
    obtain ⟨r_14, u_15, h_16, hF⟩ := ncl_some hF
    refine ccV_v (q0 := 3) (As := [.int a0]) (rest := []) hC hH (n_X5_hold l G Z Q _ T u_10 u_15 r_14 a0 _ h_16) rfl rfl ⟨wkc_X5_hold, wka183, wka568, wka569, wka749⟩ kVX5_hold ⟨Nat.le_of_ble_eq_true rfl, Nat.le_of_ble_eq_true rfl⟩ rfl hl.1 rfl (Nat.le_of_ble_eq_true rfl) dX5_openThing_29 (fun D H locs hH => ?_)
    exact cr_v hC hH hr (nrt_eq hF) dX5_openThing_32 hlocks
  · rw [if_neg c_5] at hF
    refine lv_aload_n hx hb dX5_openThing_9 rfl (lv_at hl 0 rfl) ?_
    refine lv_iconst (v := 3) hx hb dX5_openThing_10 (by decide) ?_
    obtain ⟨r_17, u_18, h_19, hF⟩ := ncl_some hF
    refine ccV_v (q0 := 3) (As := [.int 3]) (rest := []) hC hH (n_X5_fail l G Z Q _ T u u_18 r_17 3 _ h_19) rfl rfl ⟨wkc_X5_fail, wka166, wka532, wka533, wka749⟩ kVX5_fail ⟨Nat.le_of_ble_eq_true rfl, Nat.le_of_ble_eq_true rfl⟩ rfl hl.1 rfl (Nat.le_of_ble_eq_true rfl) dX5_openThing_11 (fun D H locs hH => ?_)
    refine lv_goto (tgt := 32) hx hb dX5_openThing_14 (by decide) ?_
    exact cr_v hC hH hr (nrt_eq hF) dX5_openThing_32 hlocks
def x_X5_takeCond (a0 : Int32) : NG Int32 := ncl (nWF 15 0) (fun _ => ncl (nWF 14 0) (fun _ => (if a0 = 11 then ncl (x_X5_takePart 12) (fun r_45 => ncl (x_X5_openThing a0) (fun r_48 => nrt 0)) else (if a0 = 17 then ncl (x_X5_openThing a0) (fun r_34 => ncl (nRF 9) (fun x_37 => ncl (nWF 9 (x_37 + 1)) (fun _ => nrt 0))) else (if a0 = 12 then ncl (x_X5_takePart 16) (fun r_12 => ncl (x_X4_emit a0 0) (fun r_15 => ncl (x_X5_closeNots) (fun r_18 => nrt 0))) else (if a0 = 13 then ncl (x_X5_takePart 16) (fun r_25 => ncl (x_X4_emit a0 0) (fun r_28 => ncl (x_X5_closeNots) (fun r_31 => nrt 0))) else ncl (x_X5_takeTerm a0) (fun r_22 => nrt 0)))))))
set_option maxHeartbeats 4000000 in
set_option maxRecDepth 100000 in
theorem n_X5_takeCond (l : Launch) (G : gG) (Z : gC) (Q : Nat → Nat) (D : Nat × Nat) (T : va_W) (u u1 : MS) (r : Int32) (a0 : Int32) (sz : Nat) (hF : x_X5_takeCond a0 u = some (r, u1)) : Met l yX5_takeCond (Cond.code yX5_takeCond cX5_takeCond 2 none :: wK) { frames := 4, cells := 0, slots := 0, locals := 87 } (va_Pc [.ref (Q 3), .int a0] (cPM G Z Q D T u sz)) (cQv G Q T u1 (va_A (cW G Q D T u) sz)) 0 0 (va_A (cW G Q D T u) sz) := by
  refine Met.ofW (cc := cX5_takeCond) (maxL := 2) (ret := none) (by decide) rfl ?_
  intro p e s m args below meth c s₁ B hml hv
  obtain ⟨rfl, rfl, hP, hB, hD0, hE⟩ := hv
  have hr := B.returns
  have hlocks := B.notSynchronized
  have hts := atoms_spec (ws := Cond.code yX5_takeCond cX5_takeCond 2 none :: wK) B.pre
  have hD := hD0.self (sz := s.heap.size)
  have hA : ∀ q : Nat, s.heap.size ≤ q → va_A (cW G Q D T u) s.heap.size q := fun q h => Or.inr h
  generalize va_A (cW G Q D T u) s.heap.size = A at hD hA hE ⊢
  have hC : cX p c cX5_takeCond 2 s m _ RX5 G Z A := ⟨B.exec, B.bytes, hml, findClass_of_methodNamed B.named, fun w h => hts w (List.mem_cons_of_mem _ h), hB, hE, hA⟩
  have hx := hC.1
  have hb := hC.2.1
  have hH : cH G Q D T A u s s.heap [] := ⟨hP, hD, va_S.rf⟩
  have hl := lv_entry ([.ref (Q 3), .int a0]) (n := 2) (Nat.le_of_ble_eq_true rfl)
  rw [lg_entry_eq]
  generalize (lg_sl ([.ref (Q 3), .int a0]) ++ List.replicate (2 - (lg_sl ([.ref (Q 3), .int a0])).length) Slot.unset).toArray = ls at hl ⊢
  have hl : lv_has ls 2 [(0, .ref (Q 3)), (1, .int a0)] := hl
  unfold x_X5_takeCond at hF
  refine lv_aload_n hx hb dX5_takeCond_0 rfl (lv_at hl 0 rfl) ?_
  refine lv_iconst (v := 0) hx hb dX5_takeCond_1 (by decide) ?_
  obtain ⟨y_4, u_1, h_3, hF⟩ := ncl_some hF
  have e_2 := nWF_eq h_3
  refine cp_X5_84 hC hH e_2 dX5_takeCond_2 (fun H locs hH => ?_)
  refine lv_aload_n hx hb dX5_takeCond_5 rfl (lv_at hl 0 rfl) ?_
  refine lv_iconst (v := 0) hx hb dX5_takeCond_6 (by decide) ?_
  obtain ⟨y_8, u_5, h_7, hF⟩ := ncl_some hF
  have e_6 := nWF_eq h_7
  refine cp_X5_160 hC hH e_6 dX5_takeCond_7 (fun H locs hH => ?_)
  refine lv_iload_n hx hb dX5_takeCond_10 rfl (lv_at hl 1 rfl) ?_
  refine lv_bipush (v := 11) hx hb dX5_takeCond_11 (by decide) ?_
  refine lv_icmp_ne (tgt := 30) hx hb dX5_takeCond_13 (by decide) (fun c_9 => ?_) (fun c_9 => ?_)
  · rw [if_neg c_9] at hF
    refine lv_iload_n hx hb dX5_takeCond_30 rfl (lv_at hl 1 rfl) ?_
    refine lv_bipush (v := 17) hx hb dX5_takeCond_31 (by decide) ?_
    refine lv_icmp_ne (tgt := 54) hx hb dX5_takeCond_33 (by decide) (fun c_10 => ?_) (fun c_10 => ?_)
    · rw [if_neg c_10] at hF
      refine lv_iload_n hx hb dX5_takeCond_54 rfl (lv_at hl 1 rfl) ?_
      refine lv_bipush (v := 12) hx hb dX5_takeCond_55 (by decide) ?_
      refine lv_icmp_eq (tgt := 66) hx hb dX5_takeCond_57 (by decide) (fun c_11 => ?_) (fun c_11 => ?_)
      · rw [if_pos c_11] at hF
        refine lv_aload_n hx hb dX5_takeCond_66 rfl (lv_at hl 0 rfl) ?_
        refine lv_bipush (v := 16) hx hb dX5_takeCond_67 (by decide) ?_
        obtain ⟨r_12, u_13, h_14, hF⟩ := ncl_some hF
        refine ccV_v (q0 := 3) (As := [.int 16]) (rest := []) hC hH (n_X5_takePart l G Z Q _ T u_5 u_13 r_12 16 _ h_14) rfl rfl ⟨wkc_X5_takePart, wka181, wka552, wka553, wka749⟩ kVX5_takePart ⟨Nat.le_of_ble_eq_true rfl, Nat.le_of_ble_eq_true rfl⟩ rfl hl.1 rfl (Nat.le_of_ble_eq_true rfl) dX5_takeCond_69 (fun D H locs hH => ?_)
        refine lv_aload_n hx hb dX5_takeCond_72 rfl (lv_at hl 0 rfl) ?_
        refine cg_X5_33 hC hH dX5_takeCond_73 ?_
        refine lv_iload_n hx hb dX5_takeCond_76 rfl (lv_at hl 1 rfl) ?_
        refine lv_iconst (v := 0) hx hb dX5_takeCond_77 (by decide) ?_
        obtain ⟨r_15, u_16, h_17, hF⟩ := ncl_some hF
        refine ccV_v (q0 := 10) (As := [.int a0, .int 0]) (rest := []) hC hH (n_X4_emit l G Z Q _ T u_13 u_16 r_15 a0 0 _ h_17) rfl rfl ⟨wkc_X4_emit, wka168, wka518, wka519, wka748⟩ kVX4_emit ⟨Nat.le_of_ble_eq_true rfl, Nat.le_of_ble_eq_true rfl⟩ rfl hl.1 rfl (Nat.le_of_ble_eq_true rfl) dX5_takeCond_78 (fun D H locs hH => ?_)
        refine lv_aload_n hx hb dX5_takeCond_81 rfl (lv_at hl 0 rfl) ?_
        obtain ⟨r_18, u_19, h_20, hF⟩ := ncl_some hF
        refine ccV_v (q0 := 3) (As := []) (rest := []) hC hH (n_X5_closeNots l G Z Q _ T u_16 u_19 r_18 _ h_20) rfl rfl ⟨wkc_X5_closeNots, wka170, wka572, wka573, wka749⟩ kVX5_closeNots ⟨Nat.le_of_ble_eq_true rfl, Nat.le_of_ble_eq_true rfl⟩ rfl hl.1 rfl (Nat.le_of_ble_eq_true rfl) dX5_takeCond_82 (fun D H locs hH => ?_)
        refine lv_goto (tgt := 93) hx hb dX5_takeCond_85 (by decide) ?_
        exact cr_v hC hH hr (nrt_eq hF) dX5_takeCond_93 hlocks
      · rw [if_neg c_11] at hF
        refine lv_iload_n hx hb dX5_takeCond_60 rfl (lv_at hl 1 rfl) ?_
        refine lv_bipush (v := 13) hx hb dX5_takeCond_61 (by decide) ?_
        refine lv_icmp_ne (tgt := 88) hx hb dX5_takeCond_63 (by decide) (fun c_21 => ?_) (fun c_21 => ?_)
        · rw [if_neg c_21] at hF
          refine lv_aload_n hx hb dX5_takeCond_88 rfl (lv_at hl 0 rfl) ?_
          refine lv_iload_n hx hb dX5_takeCond_89 rfl (lv_at hl 1 rfl) ?_
          obtain ⟨r_22, u_23, h_24, hF⟩ := ncl_some hF
          refine ccV_v (q0 := 3) (As := [.int a0]) (rest := []) hC hH (n_X5_takeTerm l G Z Q _ T u_5 u_23 r_22 a0 _ h_24) rfl rfl ⟨wkc_X5_takeTerm, wka184, wka556, wka557, wka749⟩ kVX5_takeTerm ⟨Nat.le_of_ble_eq_true rfl, Nat.le_of_ble_eq_true rfl⟩ rfl hl.1 rfl (Nat.le_of_ble_eq_true rfl) dX5_takeCond_90 (fun D H locs hH => ?_)
          exact cr_v hC hH hr (nrt_eq hF) dX5_takeCond_93 hlocks
        · rw [if_pos c_21] at hF
          refine lv_aload_n hx hb dX5_takeCond_66 rfl (lv_at hl 0 rfl) ?_
          refine lv_bipush (v := 16) hx hb dX5_takeCond_67 (by decide) ?_
          obtain ⟨r_25, u_26, h_27, hF⟩ := ncl_some hF
          refine ccV_v (q0 := 3) (As := [.int 16]) (rest := []) hC hH (n_X5_takePart l G Z Q _ T u_5 u_26 r_25 16 _ h_27) rfl rfl ⟨wkc_X5_takePart, wka181, wka552, wka553, wka749⟩ kVX5_takePart ⟨Nat.le_of_ble_eq_true rfl, Nat.le_of_ble_eq_true rfl⟩ rfl hl.1 rfl (Nat.le_of_ble_eq_true rfl) dX5_takeCond_69 (fun D H locs hH => ?_)
          refine lv_aload_n hx hb dX5_takeCond_72 rfl (lv_at hl 0 rfl) ?_
          refine cg_X5_33 hC hH dX5_takeCond_73 ?_
          refine lv_iload_n hx hb dX5_takeCond_76 rfl (lv_at hl 1 rfl) ?_
          refine lv_iconst (v := 0) hx hb dX5_takeCond_77 (by decide) ?_
          obtain ⟨r_28, u_29, h_30, hF⟩ := ncl_some hF
          refine ccV_v (q0 := 10) (As := [.int a0, .int 0]) (rest := []) hC hH (n_X4_emit l G Z Q _ T u_26 u_29 r_28 a0 0 _ h_30) rfl rfl ⟨wkc_X4_emit, wka168, wka518, wka519, wka748⟩ kVX4_emit ⟨Nat.le_of_ble_eq_true rfl, Nat.le_of_ble_eq_true rfl⟩ rfl hl.1 rfl (Nat.le_of_ble_eq_true rfl) dX5_takeCond_78 (fun D H locs hH => ?_)
          refine lv_aload_n hx hb dX5_takeCond_81 rfl (lv_at hl 0 rfl) ?_
          obtain ⟨r_31, u_32, h_33, hF⟩ := ncl_some hF
          refine ccV_v (q0 := 3) (As := []) (rest := []) hC hH (n_X5_closeNots l G Z Q _ T u_29 u_32 r_31 _ h_33) rfl rfl ⟨wkc_X5_closeNots, wka170, wka572, wka573, wka749⟩ kVX5_closeNots ⟨Nat.le_of_ble_eq_true rfl, Nat.le_of_ble_eq_true rfl⟩ rfl hl.1 rfl (Nat.le_of_ble_eq_true rfl) dX5_takeCond_82 (fun D H locs hH => ?_)
          refine lv_goto (tgt := 93) hx hb dX5_takeCond_85 (by decide) ?_
          exact cr_v hC hH hr (nrt_eq hF) dX5_takeCond_93 hlocks
    · rw [if_pos c_10] at hF
      refine lv_aload_n hx hb dX5_takeCond_36 rfl (lv_at hl 0 rfl) ?_
      refine lv_iload_n hx hb dX5_takeCond_37 rfl (lv_at hl 1 rfl) ?_
      obtain ⟨r_34, u_35, h_36, hF⟩ := ncl_some hF
      refine ccV_v (q0 := 3) (As := [.int a0]) (rest := []) hC hH (n_X5_openThing l G Z Q _ T u_5 u_35 r_34 a0 _ h_36) rfl rfl ⟨wkc_X5_openThing, wka182, wka554, wka555, wka749⟩ kVX5_openThing ⟨Nat.le_of_ble_eq_true rfl, Nat.le_of_ble_eq_true rfl⟩ rfl hl.1 rfl (Nat.le_of_ble_eq_true rfl) dX5_takeCond_38 (fun D H locs hH => ?_)
      refine lv_aload_n hx hb dX5_takeCond_41 rfl (lv_at hl 0 rfl) ?_
      refine lv_dup hx hb dX5_takeCond_42 rfl ?_
      refine cg_X5_61 hC hH dX5_takeCond_43 ?_
      obtain ⟨x_37, u_38, h_39, hF⟩ := ncl_some hF
      obtain ⟨e_40, rfl⟩ := nRF_eq h_39
      refine gx_ti e_40 ?_
      refine lv_iconst (v := 1) hx hb dX5_takeCond_46 (by decide) ?_
      refine lv_iadd hx hb dX5_takeCond_47 ?_
      obtain ⟨y_44, u_41, h_43, hF⟩ := ncl_some hF
      have e_42 := nWF_eq h_43
      refine cp_X5_61 hC hH e_42 dX5_takeCond_48 (fun H locs hH => ?_)
      refine lv_goto (tgt := 93) hx hb dX5_takeCond_51 (by decide) ?_
      exact cr_v hC hH hr (nrt_eq hF) dX5_takeCond_93 hlocks
  · rw [if_pos c_9] at hF
    refine lv_aload_n hx hb dX5_takeCond_16 rfl (lv_at hl 0 rfl) ?_
    refine lv_bipush (v := 12) hx hb dX5_takeCond_17 (by decide) ?_
    obtain ⟨r_45, u_46, h_47, hF⟩ := ncl_some hF
    refine ccV_v (q0 := 3) (As := [.int 12]) (rest := []) hC hH (n_X5_takePart l G Z Q _ T u_5 u_46 r_45 12 _ h_47) rfl rfl ⟨wkc_X5_takePart, wka181, wka552, wka553, wka749⟩ kVX5_takePart ⟨Nat.le_of_ble_eq_true rfl, Nat.le_of_ble_eq_true rfl⟩ rfl hl.1 rfl (Nat.le_of_ble_eq_true rfl) dX5_takeCond_19 (fun D H locs hH => ?_)
    refine lv_aload_n hx hb dX5_takeCond_22 rfl (lv_at hl 0 rfl) ?_
    refine lv_iload_n hx hb dX5_takeCond_23 rfl (lv_at hl 1 rfl) ?_
    obtain ⟨r_48, u_49, h_50, hF⟩ := ncl_some hF
    refine ccV_v (q0 := 3) (As := [.int a0]) (rest := []) hC hH (n_X5_openThing l G Z Q _ T u_46 u_49 r_48 a0 _ h_50) rfl rfl ⟨wkc_X5_openThing, wka182, wka554, wka555, wka749⟩ kVX5_openThing ⟨Nat.le_of_ble_eq_true rfl, Nat.le_of_ble_eq_true rfl⟩ rfl hl.1 rfl (Nat.le_of_ble_eq_true rfl) dX5_takeCond_24 (fun D H locs hH => ?_)
    refine lv_goto (tgt := 93) hx hb dX5_takeCond_27 (by decide) ?_
    exact cr_v hC hH hr (nrt_eq hF) dX5_takeCond_93 hlocks
def x_X5_takeTermName (a0 : Int32) : NG Int32 := (if a0 = 2 then ncl (x_X5_signOfToken) (fun r_2 => (if r_2 = (-1) then ncl (x_X5_fail 2) (fun r_20 => nrt 0) else ncl (nRF 13) (fun x_6 => ncl (x_X5_signOfToken) (fun r_10 => ncl (x_X5_emitTerm x_6 r_10) (fun r_13 => ncl (nWF 12 15) (fun _ => nrt 0)))))) else ncl (x_X5_fail 1) (fun r_23 => nrt 0))
set_option maxHeartbeats 4000000 in
set_option maxRecDepth 100000 in
theorem n_X5_takeTermName (l : Launch) (G : gG) (Z : gC) (Q : Nat → Nat) (D : Nat × Nat) (T : va_W) (u u1 : MS) (r : Int32) (a0 : Int32) (sz : Nat) (hF : x_X5_takeTermName a0 u = some (r, u1)) : Met l yX5_takeTermName (Cond.code yX5_takeTermName cX5_takeTermName 2 none :: wK) { frames := 3, cells := 0, slots := 0, locals := 66 } (va_Pc [.ref (Q 3), .int a0] (cPM G Z Q D T u sz)) (cQv G Q T u1 (va_A (cW G Q D T u) sz)) 0 0 (va_A (cW G Q D T u) sz) := by
  refine Met.ofW (cc := cX5_takeTermName) (maxL := 2) (ret := none) (by decide) rfl ?_
  intro p e s m args below meth c s₁ B hml hv
  obtain ⟨rfl, rfl, hP, hB, hD0, hE⟩ := hv
  have hr := B.returns
  have hlocks := B.notSynchronized
  have hts := atoms_spec (ws := Cond.code yX5_takeTermName cX5_takeTermName 2 none :: wK) B.pre
  have hD := hD0.self (sz := s.heap.size)
  have hA : ∀ q : Nat, s.heap.size ≤ q → va_A (cW G Q D T u) s.heap.size q := fun q h => Or.inr h
  generalize va_A (cW G Q D T u) s.heap.size = A at hD hA hE ⊢
  have hC : cX p c cX5_takeTermName 2 s m _ RX5 G Z A := ⟨B.exec, B.bytes, hml, findClass_of_methodNamed B.named, fun w h => hts w (List.mem_cons_of_mem _ h), hB, hE, hA⟩
  have hx := hC.1
  have hb := hC.2.1
  have hH : cH G Q D T A u s s.heap [] := ⟨hP, hD, va_S.rf⟩
  have hl := lv_entry ([.ref (Q 3), .int a0]) (n := 2) (Nat.le_of_ble_eq_true rfl)
  rw [lg_entry_eq]
  generalize (lg_sl ([.ref (Q 3), .int a0]) ++ List.replicate (2 - (lg_sl ([.ref (Q 3), .int a0])).length) Slot.unset).toArray = ls at hl ⊢
  have hl : lv_has ls 2 [(0, .ref (Q 3)), (1, .int a0)] := hl
  unfold x_X5_takeTermName at hF
  refine lv_iload_n hx hb dX5_takeTermName_0 rfl (lv_at hl 1 rfl) ?_
  refine lv_iconst (v := 2) hx hb dX5_takeTermName_1 (by decide) ?_
  refine lv_icmp_eq (tgt := 13) hx hb dX5_takeTermName_2 (by decide) (fun c_1 => ?_) (fun c_1 => ?_)
  · rw [if_pos c_1] at hF
    refine lv_aload_n hx hb dX5_takeTermName_13 rfl (lv_at hl 0 rfl) ?_
    obtain ⟨r_2, u_3, h_4, hF⟩ := ncl_some hF
    refine ccV_i (q0 := 3) (As := []) (rest := []) hC hH (n_X5_signOfToken l G Z Q _ T u u_3 r_2 _ h_4) rfl rfl ⟨wkc_X5_signOfToken, wka176, wka546, wka547, wka749⟩ kVX5_signOfToken ⟨Nat.le_of_ble_eq_true rfl, Nat.le_of_ble_eq_true rfl⟩ rfl hl.1 rfl (Nat.le_of_ble_eq_true rfl) dX5_takeTermName_14 (fun D H locs hH => ?_)
    refine lv_iconst (v := (-1)) hx hb dX5_takeTermName_17 (by decide) ?_
    refine lv_icmp_ne (tgt := 29) hx hb dX5_takeTermName_18 (by decide) (fun c_5 => ?_) (fun c_5 => ?_)
    · rw [if_neg c_5] at hF
      refine lv_aload_n hx hb dX5_takeTermName_29 rfl (lv_at hl 0 rfl) ?_
      refine lv_aload_n hx hb dX5_takeTermName_30 rfl (lv_at hl 0 rfl) ?_
      refine cg_X5_181 hC hH dX5_takeTermName_31 ?_
      obtain ⟨x_6, u_7, h_8, hF⟩ := ncl_some hF
      obtain ⟨e_9, rfl⟩ := nRF_eq h_8
      refine gx_ti e_9 ?_
      refine lv_aload_n hx hb dX5_takeTermName_34 rfl (lv_at hl 0 rfl) ?_
      obtain ⟨r_10, u_11, h_12, hF⟩ := ncl_some hF
      refine ccV_i (q0 := 3) (As := []) (rest := [.int x_6, .ref (Q 3)]) hC hH (n_X5_signOfToken l G Z Q _ T u_3 u_11 r_10 _ h_12) rfl rfl ⟨wkc_X5_signOfToken, wka176, wka546, wka547, wka749⟩ kVX5_signOfToken ⟨Nat.le_of_ble_eq_true rfl, Nat.le_of_ble_eq_true rfl⟩ rfl hl.1 rfl (Nat.le_of_ble_eq_true rfl) dX5_takeTermName_35 (fun D H locs hH => ?_)
      obtain ⟨r_13, u_14, h_15, hF⟩ := ncl_some hF
      refine ccV_v (q0 := 3) (As := [.int x_6, .int r_10]) (rest := []) hC hH (n_X5_emitTerm l G Z Q _ T u_11 u_14 r_13 x_6 r_10 _ h_15) rfl rfl ⟨wkc_X5_emitTerm, wka185, wka560, wka561, wka749⟩ kVX5_emitTerm ⟨Nat.le_of_ble_eq_true rfl, Nat.le_of_ble_eq_true rfl⟩ rfl hl.1 rfl (Nat.le_of_ble_eq_true rfl) dX5_takeTermName_38 (fun D H locs hH => ?_)
      refine lv_aload_n hx hb dX5_takeTermName_41 rfl (lv_at hl 0 rfl) ?_
      refine lv_bipush (v := 15) hx hb dX5_takeTermName_42 (by decide) ?_
      obtain ⟨y_19, u_16, h_18, hF⟩ := ncl_some hF
      have e_17 := nWF_eq h_18
      refine cp_X5_52 hC hH e_17 dX5_takeTermName_44 (fun H locs hH => ?_)
      exact cr_v hC hH hr (nrt_eq hF) dX5_takeTermName_47 hlocks
    · rw [if_pos c_5] at hF
      refine lv_aload_n hx hb dX5_takeTermName_21 rfl (lv_at hl 0 rfl) ?_
      refine lv_iconst (v := 2) hx hb dX5_takeTermName_22 (by decide) ?_
      obtain ⟨r_20, u_21, h_22, hF⟩ := ncl_some hF
      refine ccV_v (q0 := 3) (As := [.int 2]) (rest := []) hC hH (n_X5_fail l G Z Q _ T u_3 u_21 r_20 2 _ h_22) rfl rfl ⟨wkc_X5_fail, wka166, wka532, wka533, wka749⟩ kVX5_fail ⟨Nat.le_of_ble_eq_true rfl, Nat.le_of_ble_eq_true rfl⟩ rfl hl.1 rfl (Nat.le_of_ble_eq_true rfl) dX5_takeTermName_23 (fun D H locs hH => ?_)
      refine lv_goto (tgt := 47) hx hb dX5_takeTermName_26 (by decide) ?_
      exact cr_v hC hH hr (nrt_eq hF) dX5_takeTermName_47 hlocks
  · rw [if_neg c_1] at hF
    refine lv_aload_n hx hb dX5_takeTermName_5 rfl (lv_at hl 0 rfl) ?_
    refine lv_iconst (v := 1) hx hb dX5_takeTermName_6 (by decide) ?_
    obtain ⟨r_23, u_24, h_25, hF⟩ := ncl_some hF
    refine ccV_v (q0 := 3) (As := [.int 1]) (rest := []) hC hH (n_X5_fail l G Z Q _ T u u_24 r_23 1 _ h_25) rfl rfl ⟨wkc_X5_fail, wka166, wka532, wka533, wka749⟩ kVX5_fail ⟨Nat.le_of_ble_eq_true rfl, Nat.le_of_ble_eq_true rfl⟩ rfl hl.1 rfl (Nat.le_of_ble_eq_true rfl) dX5_takeTermName_7 (fun D H locs hH => ?_)
    refine lv_goto (tgt := 47) hx hb dX5_takeTermName_10 (by decide) ?_
    exact cr_v hC hH hr (nrt_eq hF) dX5_takeTermName_47 hlocks
def x_X5_takeBehindTerm (a0 : Int32) : NG Int32 := (if a0 = 20 then ncl (x_X5_takePart 13) (fun r_2 => ncl (nWF 14 a0) (fun _ => nrt 0)) else (if a0 = 21 then ncl (x_X5_takePart 13) (fun r_25 => ncl (nWF 14 a0) (fun _ => nrt 0)) else (if a0 < 22 then ncl (x_X5_fail 1) (fun r_11 => nrt 0) else (if 27 < a0 then ncl (x_X5_fail 1) (fun r_15 => nrt 0) else ncl (x_X5_takePart 13) (fun r_18 => ncl (nWF 15 a0) (fun _ => nrt 0))))))
set_option maxHeartbeats 4000000 in
set_option maxRecDepth 100000 in
theorem n_X5_takeBehindTerm (l : Launch) (G : gG) (Z : gC) (Q : Nat → Nat) (D : Nat × Nat) (T : va_W) (u u1 : MS) (r : Int32) (a0 : Int32) (sz : Nat) (hF : x_X5_takeBehindTerm a0 u = some (r, u1)) : Met l yX5_takeBehindTerm (Cond.code yX5_takeBehindTerm cX5_takeBehindTerm 2 none :: wK) { frames := 3, cells := 0, slots := 0, locals := 64 } (va_Pc [.ref (Q 3), .int a0] (cPM G Z Q D T u sz)) (cQv G Q T u1 (va_A (cW G Q D T u) sz)) 0 0 (va_A (cW G Q D T u) sz) := by
  refine Met.ofW (cc := cX5_takeBehindTerm) (maxL := 2) (ret := none) (by decide) rfl ?_
  intro p e s m args below meth c s₁ B hml hv
  obtain ⟨rfl, rfl, hP, hB, hD0, hE⟩ := hv
  have hr := B.returns
  have hlocks := B.notSynchronized
  have hts := atoms_spec (ws := Cond.code yX5_takeBehindTerm cX5_takeBehindTerm 2 none :: wK) B.pre
  have hD := hD0.self (sz := s.heap.size)
  have hA : ∀ q : Nat, s.heap.size ≤ q → va_A (cW G Q D T u) s.heap.size q := fun q h => Or.inr h
  generalize va_A (cW G Q D T u) s.heap.size = A at hD hA hE ⊢
  have hC : cX p c cX5_takeBehindTerm 2 s m _ RX5 G Z A := ⟨B.exec, B.bytes, hml, findClass_of_methodNamed B.named, fun w h => hts w (List.mem_cons_of_mem _ h), hB, hE, hA⟩
  have hx := hC.1
  have hb := hC.2.1
  have hH : cH G Q D T A u s s.heap [] := ⟨hP, hD, va_S.rf⟩
  have hl := lv_entry ([.ref (Q 3), .int a0]) (n := 2) (Nat.le_of_ble_eq_true rfl)
  rw [lg_entry_eq]
  generalize (lg_sl ([.ref (Q 3), .int a0]) ++ List.replicate (2 - (lg_sl ([.ref (Q 3), .int a0])).length) Slot.unset).toArray = ls at hl ⊢
  have hl : lv_has ls 2 [(0, .ref (Q 3)), (1, .int a0)] := hl
  unfold x_X5_takeBehindTerm at hF
  refine lv_iload_n hx hb dX5_takeBehindTerm_0 rfl (lv_at hl 1 rfl) ?_
  refine lv_bipush (v := 20) hx hb dX5_takeBehindTerm_1 (by decide) ?_
  refine lv_icmp_eq (tgt := 12) hx hb dX5_takeBehindTerm_3 (by decide) (fun c_1 => ?_) (fun c_1 => ?_)
  · rw [if_pos c_1] at hF
    refine lv_aload_n hx hb dX5_takeBehindTerm_12 rfl (lv_at hl 0 rfl) ?_
    refine lv_bipush (v := 13) hx hb dX5_takeBehindTerm_13 (by decide) ?_
    obtain ⟨r_2, u_3, h_4, hF⟩ := ncl_some hF
    refine ccV_v (q0 := 3) (As := [.int 13]) (rest := []) hC hH (n_X5_takePart l G Z Q _ T u u_3 r_2 13 _ h_4) rfl rfl ⟨wkc_X5_takePart, wka181, wka552, wka553, wka749⟩ kVX5_takePart ⟨Nat.le_of_ble_eq_true rfl, Nat.le_of_ble_eq_true rfl⟩ rfl hl.1 rfl (Nat.le_of_ble_eq_true rfl) dX5_takeBehindTerm_15 (fun D H locs hH => ?_)
    refine lv_aload_n hx hb dX5_takeBehindTerm_18 rfl (lv_at hl 0 rfl) ?_
    refine lv_iload_n hx hb dX5_takeBehindTerm_19 rfl (lv_at hl 1 rfl) ?_
    obtain ⟨y_8, u_5, h_7, hF⟩ := ncl_some hF
    have e_6 := nWF_eq h_7
    refine cp_X5_160 hC hH e_6 dX5_takeBehindTerm_20 (fun H locs hH => ?_)
    refine lv_goto (tgt := 57) hx hb dX5_takeBehindTerm_23 (by decide) ?_
    exact cr_v hC hH hr (nrt_eq hF) dX5_takeBehindTerm_57 hlocks
  · rw [if_neg c_1] at hF
    refine lv_iload_n hx hb dX5_takeBehindTerm_6 rfl (lv_at hl 1 rfl) ?_
    refine lv_bipush (v := 21) hx hb dX5_takeBehindTerm_7 (by decide) ?_
    refine lv_icmp_ne (tgt := 26) hx hb dX5_takeBehindTerm_9 (by decide) (fun c_9 => ?_) (fun c_9 => ?_)
    · rw [if_neg c_9] at hF
      refine lv_iload_n hx hb dX5_takeBehindTerm_26 rfl (lv_at hl 1 rfl) ?_
      refine lv_bipush (v := 22) hx hb dX5_takeBehindTerm_27 (by decide) ?_
      refine lv_icmp_lt (tgt := 52) hx hb dX5_takeBehindTerm_29 (by decide) (fun c_10 => ?_) (fun c_10 => ?_)
      · rw [if_pos c_10] at hF
        refine lv_aload_n hx hb dX5_takeBehindTerm_52 rfl (lv_at hl 0 rfl) ?_
        refine lv_iconst (v := 1) hx hb dX5_takeBehindTerm_53 (by decide) ?_
        obtain ⟨r_11, u_12, h_13, hF⟩ := ncl_some hF
        refine ccV_v (q0 := 3) (As := [.int 1]) (rest := []) hC hH (n_X5_fail l G Z Q _ T u u_12 r_11 1 _ h_13) rfl rfl ⟨wkc_X5_fail, wka166, wka532, wka533, wka749⟩ kVX5_fail ⟨Nat.le_of_ble_eq_true rfl, Nat.le_of_ble_eq_true rfl⟩ rfl hl.1 rfl (Nat.le_of_ble_eq_true rfl) dX5_takeBehindTerm_54 (fun D H locs hH => ?_)
        exact cr_v hC hH hr (nrt_eq hF) dX5_takeBehindTerm_57 hlocks
      · rw [if_neg c_10] at hF
        refine lv_iload_n hx hb dX5_takeBehindTerm_32 rfl (lv_at hl 1 rfl) ?_
        refine lv_bipush (v := 27) hx hb dX5_takeBehindTerm_33 (by decide) ?_
        refine lv_icmp_gt (tgt := 52) hx hb dX5_takeBehindTerm_35 (by decide) (fun c_14 => ?_) (fun c_14 => ?_)
        · rw [if_pos c_14] at hF
          refine lv_aload_n hx hb dX5_takeBehindTerm_52 rfl (lv_at hl 0 rfl) ?_
          refine lv_iconst (v := 1) hx hb dX5_takeBehindTerm_53 (by decide) ?_
          obtain ⟨r_15, u_16, h_17, hF⟩ := ncl_some hF
          refine ccV_v (q0 := 3) (As := [.int 1]) (rest := []) hC hH (n_X5_fail l G Z Q _ T u u_16 r_15 1 _ h_17) rfl rfl ⟨wkc_X5_fail, wka166, wka532, wka533, wka749⟩ kVX5_fail ⟨Nat.le_of_ble_eq_true rfl, Nat.le_of_ble_eq_true rfl⟩ rfl hl.1 rfl (Nat.le_of_ble_eq_true rfl) dX5_takeBehindTerm_54 (fun D H locs hH => ?_)
          exact cr_v hC hH hr (nrt_eq hF) dX5_takeBehindTerm_57 hlocks
        · rw [if_neg c_14] at hF
          refine lv_aload_n hx hb dX5_takeBehindTerm_38 rfl (lv_at hl 0 rfl) ?_
          refine lv_bipush (v := 13) hx hb dX5_takeBehindTerm_39 (by decide) ?_
          obtain ⟨r_18, u_19, h_20, hF⟩ := ncl_some hF
          refine ccV_v (q0 := 3) (As := [.int 13]) (rest := []) hC hH (n_X5_takePart l G Z Q _ T u u_19 r_18 13 _ h_20) rfl rfl ⟨wkc_X5_takePart, wka181, wka552, wka553, wka749⟩ kVX5_takePart ⟨Nat.le_of_ble_eq_true rfl, Nat.le_of_ble_eq_true rfl⟩ rfl hl.1 rfl (Nat.le_of_ble_eq_true rfl) dX5_takeBehindTerm_41 (fun D H locs hH => ?_)
          refine lv_aload_n hx hb dX5_takeBehindTerm_44 rfl (lv_at hl 0 rfl) ?_
          refine lv_iload_n hx hb dX5_takeBehindTerm_45 rfl (lv_at hl 1 rfl) ?_
          obtain ⟨y_24, u_21, h_23, hF⟩ := ncl_some hF
          have e_22 := nWF_eq h_23
          refine cp_X5_84 hC hH e_22 dX5_takeBehindTerm_46 (fun H locs hH => ?_)
          refine lv_goto (tgt := 57) hx hb dX5_takeBehindTerm_49 (by decide) ?_
          exact cr_v hC hH hr (nrt_eq hF) dX5_takeBehindTerm_57 hlocks
    · rw [if_pos c_9] at hF
      refine lv_aload_n hx hb dX5_takeBehindTerm_12 rfl (lv_at hl 0 rfl) ?_
      refine lv_bipush (v := 13) hx hb dX5_takeBehindTerm_13 (by decide) ?_
      obtain ⟨r_25, u_26, h_27, hF⟩ := ncl_some hF
      refine ccV_v (q0 := 3) (As := [.int 13]) (rest := []) hC hH (n_X5_takePart l G Z Q _ T u u_26 r_25 13 _ h_27) rfl rfl ⟨wkc_X5_takePart, wka181, wka552, wka553, wka749⟩ kVX5_takePart ⟨Nat.le_of_ble_eq_true rfl, Nat.le_of_ble_eq_true rfl⟩ rfl hl.1 rfl (Nat.le_of_ble_eq_true rfl) dX5_takeBehindTerm_15 (fun D H locs hH => ?_)
      refine lv_aload_n hx hb dX5_takeBehindTerm_18 rfl (lv_at hl 0 rfl) ?_
      refine lv_iload_n hx hb dX5_takeBehindTerm_19 rfl (lv_at hl 1 rfl) ?_
      obtain ⟨y_31, u_28, h_30, hF⟩ := ncl_some hF
      have e_29 := nWF_eq h_30
      refine cp_X5_160 hC hH e_29 dX5_takeBehindTerm_20 (fun H locs hH => ?_)
      refine lv_goto (tgt := 57) hx hb dX5_takeBehindTerm_23 (by decide) ?_
      exact cr_v hC hH hr (nrt_eq hF) dX5_takeBehindTerm_57 hlocks
def xl_X5_emitBinders_14 : Nat → Int32 → Int32 → (Int32 → Int32 → NG Int32) → NG Int32
  | 0, _, _, _ => fun _ => none
  | n14 + 1, v1, v2, K14_88 => ncl (nRF 7) (fun x_2 => (if x_2 ≤ 0 then K14_88 v1 v2 else ncl (nRF 7) (fun x_7 => ncl (nGT 7 64 (x_7 - 1)) (fun x_11 => (if x_11 = 10 then ncl (nRF 7) (fun x_16 => ncl (nWF 7 (x_16 - 1)) (fun _ => ncl (nRF 7) (fun x_24 => ncl (nGT 7 64 x_24) (fun x_28 => ncl (x_X4_emit x_28 0) (fun r_32 => xl_X5_emitBinders_14 n14 v1 v2 K14_88))))) else ncl (nRF 7) (fun x_35 => ncl (nGT 7 64 (x_35 - 1)) (fun x_39 => (if x_39 = v2 then ncl (nRF 7) (fun x_44 => ncl (nWF 7 (x_44 - 1)) (fun _ => ncl (nRF 7) (fun x_52 => ncl (nGT 7 64 x_52) (fun x_56 => ncl (x_X4_emit x_56 0) (fun r_60 => xl_X5_emitBinders_14 n14 v1 v2 K14_88))))) else K14_88 v1 v2))))))))
def x_X5_emitBinders (a0 : Int32) : NG Int32 := (if a0 = 9 then xl_X5_emitBinders_14 fuel a0 9 (fun v1 v2 => nrt 0) else xl_X5_emitBinders_14 fuel a0 10 (fun v1 v2 => nrt 0))
set_option maxHeartbeats 4000000 in
set_option maxRecDepth 100000 in
theorem n_X5_emitBinders (l : Launch) (G : gG) (Z : gC) (Q : Nat → Nat) (D : Nat × Nat) (T : va_W) (u u1 : MS) (r : Int32) (a0 : Int32) (sz : Nat) (hF : x_X5_emitBinders a0 u = some (r, u1)) : Met l yX5_emitBinders (Cond.code yX5_emitBinders cX5_emitBinders 3 none :: wK) { frames := 2, cells := 0, slots := 0, locals := 44 } (va_Pc [.ref (Q 3), .int a0] (cPM G Z Q D T u sz)) (cQv G Q T u1 (va_A (cW G Q D T u) sz)) 0 0 (va_A (cW G Q D T u) sz) := by
  refine Met.ofW (cc := cX5_emitBinders) (maxL := 3) (ret := none) (by decide) rfl ?_
  intro p e s m args below meth c s₁ B hml hv
  obtain ⟨rfl, rfl, hP, hB, hD0, hE⟩ := hv
  have hr := B.returns
  have hlocks := B.notSynchronized
  have hts := atoms_spec (ws := Cond.code yX5_emitBinders cX5_emitBinders 3 none :: wK) B.pre
  have hD := hD0.self (sz := s.heap.size)
  have hA : ∀ q : Nat, s.heap.size ≤ q → va_A (cW G Q D T u) s.heap.size q := fun q h => Or.inr h
  generalize va_A (cW G Q D T u) s.heap.size = A at hD hA hE ⊢
  have hC : cX p c cX5_emitBinders 3 s m _ RX5 G Z A := ⟨B.exec, B.bytes, hml, findClass_of_methodNamed B.named, fun w h => hts w (List.mem_cons_of_mem _ h), hB, hE, hA⟩
  have hx := hC.1
  have hb := hC.2.1
  have hH : cH G Q D T A u s s.heap [] := ⟨hP, hD, va_S.rf⟩
  have hl := lv_entry ([.ref (Q 3), .int a0]) (n := 3) (Nat.le_of_ble_eq_true rfl)
  rw [lg_entry_eq]
  generalize (lg_sl ([.ref (Q 3), .int a0]) ++ List.replicate (3 - (lg_sl ([.ref (Q 3), .int a0])).length) Slot.unset).toArray = ls at hl ⊢
  have hl : lv_has ls 3 [(0, .ref (Q 3)), (1, .int a0)] := hl
  unfold x_X5_emitBinders at hF
  refine lv_iload_n hx hb dX5_emitBinders_0 rfl (lv_at hl 1 rfl) ?_
  refine lv_bipush (v := 9) hx hb dX5_emitBinders_1 (by decide) ?_
  refine lv_icmp_ne (tgt := 11) hx hb dX5_emitBinders_3 (by decide) (fun c_1 => ?_) (fun c_1 => ?_)
  · rw [if_neg c_1] at hF
    refine lv_bipush (v := 10) hx hb dX5_emitBinders_11 (by decide) ?_
    refine lv_istore_n (lv' := [(2, .int 10), (0, .ref (Q 3)), (1, .int a0)]) hx hb dX5_emitBinders_13 rfl hl (by decide) rfl (fun ls hl => ?_)
    have hL14 : ∀ (K14_88 : Int32 → Int32 → NG Int32), (∀ (v1 v2 : Int32) (u : MS) (D : Nat × Nat) (H : Heap) (locs : List Loc) (ls : Array Slot), lv_has ls 3 [(0, .ref (Q 3)), (1, .int v1), (2, .int v2)] → cH G Q D T A u s H locs → K14_88 v1 v2 u = some (r, u1) → W p l e (headSpec (Cond.code yX5_emitBinders cX5_emitBinders 3 none :: wK) { frames := 2, cells := 0, slots := 0, locals := 44 }).room s m [.ref (Q 3), .int a0].toArray below meth c H locs 0 0 (MQ below (cQv G Q T u1 A) [.ref (Q 3), .int a0].toArray s 0 0 A) (F0 m 88 ls [])) → ∀ (n14 : Nat) (v1 v2 : Int32) (u : MS) (D : Nat × Nat) (H : Heap) (locs : List Loc) (ls : Array Slot), lv_has ls 3 [(0, .ref (Q 3)), (1, .int v1), (2, .int v2)] → cH G Q D T A u s H locs → xl_X5_emitBinders_14 n14 v1 v2 K14_88 u = some (r, u1) → W p l e (headSpec (Cond.code yX5_emitBinders cX5_emitBinders 3 none :: wK) { frames := 2, cells := 0, slots := 0, locals := 44 }).room s m [.ref (Q 3), .int a0].toArray below meth c H locs 0 0 (MQ below (cQv G Q T u1 A) [.ref (Q 3), .int a0].toArray s 0 0 A) (F0 m 14 ls []) := by
      intro K14_88 hK14_88 n14
      induction n14 with
      | zero => intro v1 v2 u D H locs ls hl hH hF; cases hF
      | succ n14 ih14 =>
        intro v1 v2 u D H locs ls hl hH hF
        unfold xl_X5_emitBinders_14 at hF
        refine lv_aload_n hx hb dX5_emitBinders_14 rfl (lv_at hl 0 rfl) ?_
        refine cg_X5_55 hC hH dX5_emitBinders_15 ?_
        obtain ⟨x_2, u_3, h_4, hF⟩ := ncl_some hF
        obtain ⟨e_5, rfl⟩ := nRF_eq h_4
        refine gx_ti e_5 ?_
        refine lv_if_le (tgt := 88) hx hb dX5_emitBinders_18 (by decide) (fun c_6 => ?_) (fun c_6 => ?_)
        · rw [if_pos c_6] at hF
          exact hK14_88 v1 v2 u _ _ _ _ (lv_sub hl [0, 1, 2] rfl) hH hF
        · rw [if_neg c_6] at hF
          refine lv_aload_n hx hb dX5_emitBinders_21 rfl (lv_at hl 0 rfl) ?_
          refine cg_X5_29 hC hH dX5_emitBinders_22 ?_
          refine lv_aload_n hx hb dX5_emitBinders_25 rfl (lv_at hl 0 rfl) ?_
          refine cg_X5_55 hC hH dX5_emitBinders_26 ?_
          obtain ⟨x_7, u_8, h_9, hF⟩ := ncl_some hF
          obtain ⟨e_10, rfl⟩ := nRF_eq h_9
          refine gx_ti e_10 ?_
          refine lv_iconst (v := 1) hx hb dX5_emitBinders_29 (by decide) ?_
          refine lv_isub hx hb dX5_emitBinders_30 ?_
          refine rg_6 hC hH wka171 ⟨Nat.le_of_ble_eq_true rfl, Nat.le_of_ble_eq_true rfl⟩ hl.1 (Nat.le_of_ble_eq_true rfl) ⟨Nat.zero_le _, Nat.zero_le _⟩ dX5_emitBinders_31 ?_
          obtain ⟨x_11, u_12, h_13, hF⟩ := ncl_some hF
          obtain ⟨e_14, rfl⟩ := nGT_eq h_13
          refine gx_ti e_14 ?_
          refine lv_bipush (v := 10) hx hb dX5_emitBinders_34 (by decide) ?_
          refine lv_icmp_eq (tgt := 56) hx hb dX5_emitBinders_36 (by decide) (fun c_15 => ?_) (fun c_15 => ?_)
          · rw [if_pos c_15] at hF
            refine lv_aload_n hx hb dX5_emitBinders_56 rfl (lv_at hl 0 rfl) ?_
            refine lv_dup hx hb dX5_emitBinders_57 rfl ?_
            refine cg_X5_55 hC hH dX5_emitBinders_58 ?_
            obtain ⟨x_16, u_17, h_18, hF⟩ := ncl_some hF
            obtain ⟨e_19, rfl⟩ := nRF_eq h_18
            refine gx_ti e_19 ?_
            refine lv_iconst (v := 1) hx hb dX5_emitBinders_61 (by decide) ?_
            refine lv_isub hx hb dX5_emitBinders_62 ?_
            obtain ⟨y_23, u_20, h_22, hF⟩ := ncl_some hF
            have e_21 := nWF_eq h_22
            refine cp_X5_55 hC hH e_21 dX5_emitBinders_63 (fun H locs hH => ?_)
            refine lv_aload_n hx hb dX5_emitBinders_66 rfl (lv_at hl 0 rfl) ?_
            refine cg_X5_33 hC hH dX5_emitBinders_67 ?_
            refine lv_aload_n hx hb dX5_emitBinders_70 rfl (lv_at hl 0 rfl) ?_
            refine cg_X5_29 hC hH dX5_emitBinders_71 ?_
            refine lv_aload_n hx hb dX5_emitBinders_74 rfl (lv_at hl 0 rfl) ?_
            refine cg_X5_55 hC hH dX5_emitBinders_75 ?_
            obtain ⟨x_24, u_25, h_26, hF⟩ := ncl_some hF
            obtain ⟨e_27, rfl⟩ := nRF_eq h_26
            refine gx_ti e_27 ?_
            refine rg_6 hC hH wka171 ⟨Nat.le_of_ble_eq_true rfl, Nat.le_of_ble_eq_true rfl⟩ hl.1 (Nat.le_of_ble_eq_true rfl) ⟨Nat.zero_le _, Nat.zero_le _⟩ dX5_emitBinders_78 ?_
            obtain ⟨x_28, u_29, h_30, hF⟩ := ncl_some hF
            obtain ⟨e_31, rfl⟩ := nGT_eq h_30
            refine gx_ti e_31 ?_
            refine lv_iconst (v := 0) hx hb dX5_emitBinders_81 (by decide) ?_
            obtain ⟨r_32, u_33, h_34, hF⟩ := ncl_some hF
            refine ccV_v (q0 := 10) (As := [.int x_28, .int 0]) (rest := []) hC hH (n_X4_emit l G Z Q _ T u_20 u_33 r_32 x_28 0 _ h_34) rfl rfl ⟨wkc_X4_emit, wka168, wka518, wka519, wka748⟩ kVX4_emit ⟨Nat.le_of_ble_eq_true rfl, Nat.le_of_ble_eq_true rfl⟩ rfl hl.1 rfl (Nat.le_of_ble_eq_true rfl) dX5_emitBinders_82 (fun D H locs hH => ?_)
            refine lv_goto (tgt := 14) hx hb dX5_emitBinders_85 (by decide) ?_
            exact ih14 v1 v2 u_33 _ _ _ _ (lv_sub hl [0, 1, 2] rfl) hH hF
          · rw [if_neg c_15] at hF
            refine lv_aload_n hx hb dX5_emitBinders_39 rfl (lv_at hl 0 rfl) ?_
            refine cg_X5_29 hC hH dX5_emitBinders_40 ?_
            refine lv_aload_n hx hb dX5_emitBinders_43 rfl (lv_at hl 0 rfl) ?_
            refine cg_X5_55 hC hH dX5_emitBinders_44 ?_
            obtain ⟨x_35, u_36, h_37, hF⟩ := ncl_some hF
            obtain ⟨e_38, rfl⟩ := nRF_eq h_37
            refine gx_ti e_38 ?_
            refine lv_iconst (v := 1) hx hb dX5_emitBinders_47 (by decide) ?_
            refine lv_isub hx hb dX5_emitBinders_48 ?_
            refine rg_6 hC hH wka171 ⟨Nat.le_of_ble_eq_true rfl, Nat.le_of_ble_eq_true rfl⟩ hl.1 (Nat.le_of_ble_eq_true rfl) ⟨Nat.zero_le _, Nat.zero_le _⟩ dX5_emitBinders_49 ?_
            obtain ⟨x_39, u_40, h_41, hF⟩ := ncl_some hF
            obtain ⟨e_42, rfl⟩ := nGT_eq h_41
            refine gx_ti e_42 ?_
            refine lv_iload_n hx hb dX5_emitBinders_52 rfl (lv_at hl 2 rfl) ?_
            refine lv_icmp_ne (tgt := 88) hx hb dX5_emitBinders_53 (by decide) (fun c_43 => ?_) (fun c_43 => ?_)
            · rw [if_neg c_43] at hF
              exact hK14_88 v1 v2 u _ _ _ _ (lv_sub hl [0, 1, 2] rfl) hH hF
            · rw [if_pos c_43] at hF
              refine lv_aload_n hx hb dX5_emitBinders_56 rfl (lv_at hl 0 rfl) ?_
              refine lv_dup hx hb dX5_emitBinders_57 rfl ?_
              refine cg_X5_55 hC hH dX5_emitBinders_58 ?_
              obtain ⟨x_44, u_45, h_46, hF⟩ := ncl_some hF
              obtain ⟨e_47, rfl⟩ := nRF_eq h_46
              refine gx_ti e_47 ?_
              refine lv_iconst (v := 1) hx hb dX5_emitBinders_61 (by decide) ?_
              refine lv_isub hx hb dX5_emitBinders_62 ?_
              obtain ⟨y_51, u_48, h_50, hF⟩ := ncl_some hF
              have e_49 := nWF_eq h_50
              refine cp_X5_55 hC hH e_49 dX5_emitBinders_63 (fun H locs hH => ?_)
              refine lv_aload_n hx hb dX5_emitBinders_66 rfl (lv_at hl 0 rfl) ?_
              refine cg_X5_33 hC hH dX5_emitBinders_67 ?_
              refine lv_aload_n hx hb dX5_emitBinders_70 rfl (lv_at hl 0 rfl) ?_
              refine cg_X5_29 hC hH dX5_emitBinders_71 ?_
              refine lv_aload_n hx hb dX5_emitBinders_74 rfl (lv_at hl 0 rfl) ?_
              refine cg_X5_55 hC hH dX5_emitBinders_75 ?_
              obtain ⟨x_52, u_53, h_54, hF⟩ := ncl_some hF
              obtain ⟨e_55, rfl⟩ := nRF_eq h_54
              refine gx_ti e_55 ?_
              refine rg_6 hC hH wka171 ⟨Nat.le_of_ble_eq_true rfl, Nat.le_of_ble_eq_true rfl⟩ hl.1 (Nat.le_of_ble_eq_true rfl) ⟨Nat.zero_le _, Nat.zero_le _⟩ dX5_emitBinders_78 ?_
              obtain ⟨x_56, u_57, h_58, hF⟩ := ncl_some hF
              obtain ⟨e_59, rfl⟩ := nGT_eq h_58
              refine gx_ti e_59 ?_
              refine lv_iconst (v := 0) hx hb dX5_emitBinders_81 (by decide) ?_
              obtain ⟨r_60, u_61, h_62, hF⟩ := ncl_some hF
              refine ccV_v (q0 := 10) (As := [.int x_56, .int 0]) (rest := []) hC hH (n_X4_emit l G Z Q _ T u_48 u_61 r_60 x_56 0 _ h_62) rfl rfl ⟨wkc_X4_emit, wka168, wka518, wka519, wka748⟩ kVX4_emit ⟨Nat.le_of_ble_eq_true rfl, Nat.le_of_ble_eq_true rfl⟩ rfl hl.1 rfl (Nat.le_of_ble_eq_true rfl) dX5_emitBinders_82 (fun D H locs hH => ?_)
              refine lv_goto (tgt := 14) hx hb dX5_emitBinders_85 (by decide) ?_
              exact ih14 v1 v2 u_61 _ _ _ _ (lv_sub hl [0, 1, 2] rfl) hH hF
    refine hL14 _ (fun v1 v2 u D H locs ls hl hH hF => ?_) fuel a0 10 u _ _ _ _ (lv_sub hl [1, 2, 0] rfl) hH hF
    exact cr_v hC hH hr (nrt_eq hF) dX5_emitBinders_88 hlocks
  · rw [if_pos c_1] at hF
    refine lv_bipush (v := 9) hx hb dX5_emitBinders_6 (by decide) ?_
    refine lv_goto (tgt := 13) hx hb dX5_emitBinders_8 (by decide) ?_
    refine lv_istore_n (lv' := [(2, .int 9), (0, .ref (Q 3)), (1, .int a0)]) hx hb dX5_emitBinders_13 rfl hl (by decide) rfl (fun ls hl => ?_)
    have hL14 : ∀ (K14_88 : Int32 → Int32 → NG Int32), (∀ (v1 v2 : Int32) (u : MS) (D : Nat × Nat) (H : Heap) (locs : List Loc) (ls : Array Slot), lv_has ls 3 [(0, .ref (Q 3)), (1, .int v1), (2, .int v2)] → cH G Q D T A u s H locs → K14_88 v1 v2 u = some (r, u1) → W p l e (headSpec (Cond.code yX5_emitBinders cX5_emitBinders 3 none :: wK) { frames := 2, cells := 0, slots := 0, locals := 44 }).room s m [.ref (Q 3), .int a0].toArray below meth c H locs 0 0 (MQ below (cQv G Q T u1 A) [.ref (Q 3), .int a0].toArray s 0 0 A) (F0 m 88 ls [])) → ∀ (n14 : Nat) (v1 v2 : Int32) (u : MS) (D : Nat × Nat) (H : Heap) (locs : List Loc) (ls : Array Slot), lv_has ls 3 [(0, .ref (Q 3)), (1, .int v1), (2, .int v2)] → cH G Q D T A u s H locs → xl_X5_emitBinders_14 n14 v1 v2 K14_88 u = some (r, u1) → W p l e (headSpec (Cond.code yX5_emitBinders cX5_emitBinders 3 none :: wK) { frames := 2, cells := 0, slots := 0, locals := 44 }).room s m [.ref (Q 3), .int a0].toArray below meth c H locs 0 0 (MQ below (cQv G Q T u1 A) [.ref (Q 3), .int a0].toArray s 0 0 A) (F0 m 14 ls []) := by
      intro K14_88 hK14_88 n14
      induction n14 with
      | zero => intro v1 v2 u D H locs ls hl hH hF; cases hF
      | succ n14 ih14 =>
        intro v1 v2 u D H locs ls hl hH hF
        unfold xl_X5_emitBinders_14 at hF
        refine lv_aload_n hx hb dX5_emitBinders_14 rfl (lv_at hl 0 rfl) ?_
        refine cg_X5_55 hC hH dX5_emitBinders_15 ?_
        obtain ⟨x_63, u_64, h_65, hF⟩ := ncl_some hF
        obtain ⟨e_66, rfl⟩ := nRF_eq h_65
        refine gx_ti e_66 ?_
        refine lv_if_le (tgt := 88) hx hb dX5_emitBinders_18 (by decide) (fun c_67 => ?_) (fun c_67 => ?_)
        · rw [if_pos c_67] at hF
          exact hK14_88 v1 v2 u _ _ _ _ (lv_sub hl [0, 1, 2] rfl) hH hF
        · rw [if_neg c_67] at hF
          refine lv_aload_n hx hb dX5_emitBinders_21 rfl (lv_at hl 0 rfl) ?_
          refine cg_X5_29 hC hH dX5_emitBinders_22 ?_
          refine lv_aload_n hx hb dX5_emitBinders_25 rfl (lv_at hl 0 rfl) ?_
          refine cg_X5_55 hC hH dX5_emitBinders_26 ?_
          obtain ⟨x_68, u_69, h_70, hF⟩ := ncl_some hF
          obtain ⟨e_71, rfl⟩ := nRF_eq h_70
          refine gx_ti e_71 ?_
          refine lv_iconst (v := 1) hx hb dX5_emitBinders_29 (by decide) ?_
          refine lv_isub hx hb dX5_emitBinders_30 ?_
          refine rg_6 hC hH wka171 ⟨Nat.le_of_ble_eq_true rfl, Nat.le_of_ble_eq_true rfl⟩ hl.1 (Nat.le_of_ble_eq_true rfl) ⟨Nat.zero_le _, Nat.zero_le _⟩ dX5_emitBinders_31 ?_
          obtain ⟨x_72, u_73, h_74, hF⟩ := ncl_some hF
          obtain ⟨e_75, rfl⟩ := nGT_eq h_74
          refine gx_ti e_75 ?_
          refine lv_bipush (v := 10) hx hb dX5_emitBinders_34 (by decide) ?_
          refine lv_icmp_eq (tgt := 56) hx hb dX5_emitBinders_36 (by decide) (fun c_76 => ?_) (fun c_76 => ?_)
          · rw [if_pos c_76] at hF
            refine lv_aload_n hx hb dX5_emitBinders_56 rfl (lv_at hl 0 rfl) ?_
            refine lv_dup hx hb dX5_emitBinders_57 rfl ?_
            refine cg_X5_55 hC hH dX5_emitBinders_58 ?_
            obtain ⟨x_77, u_78, h_79, hF⟩ := ncl_some hF
            obtain ⟨e_80, rfl⟩ := nRF_eq h_79
            refine gx_ti e_80 ?_
            refine lv_iconst (v := 1) hx hb dX5_emitBinders_61 (by decide) ?_
            refine lv_isub hx hb dX5_emitBinders_62 ?_
            obtain ⟨y_84, u_81, h_83, hF⟩ := ncl_some hF
            have e_82 := nWF_eq h_83
            refine cp_X5_55 hC hH e_82 dX5_emitBinders_63 (fun H locs hH => ?_)
            refine lv_aload_n hx hb dX5_emitBinders_66 rfl (lv_at hl 0 rfl) ?_
            refine cg_X5_33 hC hH dX5_emitBinders_67 ?_
            refine lv_aload_n hx hb dX5_emitBinders_70 rfl (lv_at hl 0 rfl) ?_
            refine cg_X5_29 hC hH dX5_emitBinders_71 ?_
            refine lv_aload_n hx hb dX5_emitBinders_74 rfl (lv_at hl 0 rfl) ?_
            refine cg_X5_55 hC hH dX5_emitBinders_75 ?_
            obtain ⟨x_85, u_86, h_87, hF⟩ := ncl_some hF
            obtain ⟨e_88, rfl⟩ := nRF_eq h_87
            refine gx_ti e_88 ?_
            refine rg_6 hC hH wka171 ⟨Nat.le_of_ble_eq_true rfl, Nat.le_of_ble_eq_true rfl⟩ hl.1 (Nat.le_of_ble_eq_true rfl) ⟨Nat.zero_le _, Nat.zero_le _⟩ dX5_emitBinders_78 ?_
            obtain ⟨x_89, u_90, h_91, hF⟩ := ncl_some hF
            obtain ⟨e_92, rfl⟩ := nGT_eq h_91
            refine gx_ti e_92 ?_
            refine lv_iconst (v := 0) hx hb dX5_emitBinders_81 (by decide) ?_
            obtain ⟨r_93, u_94, h_95, hF⟩ := ncl_some hF
            refine ccV_v (q0 := 10) (As := [.int x_89, .int 0]) (rest := []) hC hH (n_X4_emit l G Z Q _ T u_81 u_94 r_93 x_89 0 _ h_95) rfl rfl ⟨wkc_X4_emit, wka168, wka518, wka519, wka748⟩ kVX4_emit ⟨Nat.le_of_ble_eq_true rfl, Nat.le_of_ble_eq_true rfl⟩ rfl hl.1 rfl (Nat.le_of_ble_eq_true rfl) dX5_emitBinders_82 (fun D H locs hH => ?_)
            refine lv_goto (tgt := 14) hx hb dX5_emitBinders_85 (by decide) ?_
            exact ih14 v1 v2 u_94 _ _ _ _ (lv_sub hl [0, 1, 2] rfl) hH hF
          · rw [if_neg c_76] at hF
            refine lv_aload_n hx hb dX5_emitBinders_39 rfl (lv_at hl 0 rfl) ?_
            refine cg_X5_29 hC hH dX5_emitBinders_40 ?_
            refine lv_aload_n hx hb dX5_emitBinders_43 rfl (lv_at hl 0 rfl) ?_
            refine cg_X5_55 hC hH dX5_emitBinders_44 ?_
            obtain ⟨x_96, u_97, h_98, hF⟩ := ncl_some hF
            obtain ⟨e_99, rfl⟩ := nRF_eq h_98
            refine gx_ti e_99 ?_
            refine lv_iconst (v := 1) hx hb dX5_emitBinders_47 (by decide) ?_
            refine lv_isub hx hb dX5_emitBinders_48 ?_
            refine rg_6 hC hH wka171 ⟨Nat.le_of_ble_eq_true rfl, Nat.le_of_ble_eq_true rfl⟩ hl.1 (Nat.le_of_ble_eq_true rfl) ⟨Nat.zero_le _, Nat.zero_le _⟩ dX5_emitBinders_49 ?_
            obtain ⟨x_100, u_101, h_102, hF⟩ := ncl_some hF
            obtain ⟨e_103, rfl⟩ := nGT_eq h_102
            refine gx_ti e_103 ?_
            refine lv_iload_n hx hb dX5_emitBinders_52 rfl (lv_at hl 2 rfl) ?_
            refine lv_icmp_ne (tgt := 88) hx hb dX5_emitBinders_53 (by decide) (fun c_104 => ?_) (fun c_104 => ?_)
            · rw [if_neg c_104] at hF
              exact hK14_88 v1 v2 u _ _ _ _ (lv_sub hl [0, 1, 2] rfl) hH hF
            · rw [if_pos c_104] at hF
              refine lv_aload_n hx hb dX5_emitBinders_56 rfl (lv_at hl 0 rfl) ?_
              refine lv_dup hx hb dX5_emitBinders_57 rfl ?_
              refine cg_X5_55 hC hH dX5_emitBinders_58 ?_
              obtain ⟨x_105, u_106, h_107, hF⟩ := ncl_some hF
              obtain ⟨e_108, rfl⟩ := nRF_eq h_107
              refine gx_ti e_108 ?_
              refine lv_iconst (v := 1) hx hb dX5_emitBinders_61 (by decide) ?_
              refine lv_isub hx hb dX5_emitBinders_62 ?_
              obtain ⟨y_112, u_109, h_111, hF⟩ := ncl_some hF
              have e_110 := nWF_eq h_111
              refine cp_X5_55 hC hH e_110 dX5_emitBinders_63 (fun H locs hH => ?_)
              refine lv_aload_n hx hb dX5_emitBinders_66 rfl (lv_at hl 0 rfl) ?_
              refine cg_X5_33 hC hH dX5_emitBinders_67 ?_
              refine lv_aload_n hx hb dX5_emitBinders_70 rfl (lv_at hl 0 rfl) ?_
              refine cg_X5_29 hC hH dX5_emitBinders_71 ?_
              refine lv_aload_n hx hb dX5_emitBinders_74 rfl (lv_at hl 0 rfl) ?_
              refine cg_X5_55 hC hH dX5_emitBinders_75 ?_
              obtain ⟨x_113, u_114, h_115, hF⟩ := ncl_some hF
              obtain ⟨e_116, rfl⟩ := nRF_eq h_115
              refine gx_ti e_116 ?_
              refine rg_6 hC hH wka171 ⟨Nat.le_of_ble_eq_true rfl, Nat.le_of_ble_eq_true rfl⟩ hl.1 (Nat.le_of_ble_eq_true rfl) ⟨Nat.zero_le _, Nat.zero_le _⟩ dX5_emitBinders_78 ?_
              obtain ⟨x_117, u_118, h_119, hF⟩ := ncl_some hF
              obtain ⟨e_120, rfl⟩ := nGT_eq h_119
              refine gx_ti e_120 ?_
              refine lv_iconst (v := 0) hx hb dX5_emitBinders_81 (by decide) ?_
              obtain ⟨r_121, u_122, h_123, hF⟩ := ncl_some hF
              refine ccV_v (q0 := 10) (As := [.int x_117, .int 0]) (rest := []) hC hH (n_X4_emit l G Z Q _ T u_109 u_122 r_121 x_117 0 _ h_123) rfl rfl ⟨wkc_X4_emit, wka168, wka518, wka519, wka748⟩ kVX4_emit ⟨Nat.le_of_ble_eq_true rfl, Nat.le_of_ble_eq_true rfl⟩ rfl hl.1 rfl (Nat.le_of_ble_eq_true rfl) dX5_emitBinders_82 (fun D H locs hH => ?_)
              refine lv_goto (tgt := 14) hx hb dX5_emitBinders_85 (by decide) ?_
              exact ih14 v1 v2 u_122 _ _ _ _ (lv_sub hl [0, 1, 2] rfl) hH hF
    refine hL14 _ (fun v1 v2 u D H locs ls hl hH hF => ?_) fuel a0 9 u _ _ _ _ (lv_sub hl [1, 2, 0] rfl) hH hF
    exact cr_v hC hH hr (nrt_eq hF) dX5_emitBinders_88 hlocks
def x_X5_closeBracket : NG Int32 := ncl (x_X5_emitBinders 9) (fun r_1 => ncl (nRF 7) (fun x_4 => ncl (nWF 7 (x_4 - 1)) (fun _ => ncl (nRF 8) (fun x_12 => ncl (nWF 8 (x_12 - 1)) (fun _ => ncl (nRF 9) (fun x_20 => ncl (nWF 9 (x_20 - 1)) (fun _ => ncl (x_X5_closeNots) (fun r_28 => nrt 0))))))))
set_option maxHeartbeats 4000000 in
set_option maxRecDepth 100000 in
theorem n_X5_closeBracket (l : Launch) (G : gG) (Z : gC) (Q : Nat → Nat) (D : Nat × Nat) (T : va_W) (u u1 : MS) (r : Int32) (sz : Nat) (hF : x_X5_closeBracket u = some (r, u1)) : Met l yX5_closeBracket (Cond.code yX5_closeBracket cX5_closeBracket 1 none :: wK) { frames := 3, cells := 0, slots := 0, locals := 66 } (va_Pc [.ref (Q 3)] (cPM G Z Q D T u sz)) (cQv G Q T u1 (va_A (cW G Q D T u) sz)) 0 0 (va_A (cW G Q D T u) sz) := by
  refine Met.ofW (cc := cX5_closeBracket) (maxL := 1) (ret := none) (by decide) rfl ?_
  intro p e s m args below meth c s₁ B hml hv
  obtain ⟨rfl, rfl, hP, hB, hD0, hE⟩ := hv
  have hr := B.returns
  have hlocks := B.notSynchronized
  have hts := atoms_spec (ws := Cond.code yX5_closeBracket cX5_closeBracket 1 none :: wK) B.pre
  have hD := hD0.self (sz := s.heap.size)
  have hA : ∀ q : Nat, s.heap.size ≤ q → va_A (cW G Q D T u) s.heap.size q := fun q h => Or.inr h
  generalize va_A (cW G Q D T u) s.heap.size = A at hD hA hE ⊢
  have hC : cX p c cX5_closeBracket 1 s m _ RX5 G Z A := ⟨B.exec, B.bytes, hml, findClass_of_methodNamed B.named, fun w h => hts w (List.mem_cons_of_mem _ h), hB, hE, hA⟩
  have hx := hC.1
  have hb := hC.2.1
  have hH : cH G Q D T A u s s.heap [] := ⟨hP, hD, va_S.rf⟩
  have hl := lv_entry ([.ref (Q 3)]) (n := 1) (Nat.le_of_ble_eq_true rfl)
  rw [lg_entry_eq]
  generalize (lg_sl ([.ref (Q 3)]) ++ List.replicate (1 - (lg_sl ([.ref (Q 3)])).length) Slot.unset).toArray = ls at hl ⊢
  have hl : lv_has ls 1 [(0, .ref (Q 3))] := hl
  unfold x_X5_closeBracket at hF
  refine lv_aload_n hx hb dX5_closeBracket_0 rfl (lv_at hl 0 rfl) ?_
  refine lv_bipush (v := 9) hx hb dX5_closeBracket_1 (by decide) ?_
  obtain ⟨r_1, u_2, h_3, hF⟩ := ncl_some hF
  refine ccV_v (q0 := 3) (As := [.int 9]) (rest := []) hC hH (n_X5_emitBinders l G Z Q _ T u u_2 r_1 9 _ h_3) rfl rfl ⟨wkc_X5_emitBinders, wka189, wka570, wka571, wka749⟩ kVX5_emitBinders ⟨Nat.le_of_ble_eq_true rfl, Nat.le_of_ble_eq_true rfl⟩ rfl hl.1 rfl (Nat.le_of_ble_eq_true rfl) dX5_closeBracket_3 (fun D H locs hH => ?_)
  refine lv_aload_n hx hb dX5_closeBracket_6 rfl (lv_at hl 0 rfl) ?_
  refine lv_dup hx hb dX5_closeBracket_7 rfl ?_
  refine cg_X5_55 hC hH dX5_closeBracket_8 ?_
  obtain ⟨x_4, u_5, h_6, hF⟩ := ncl_some hF
  obtain ⟨e_7, rfl⟩ := nRF_eq h_6
  refine gx_ti e_7 ?_
  refine lv_iconst (v := 1) hx hb dX5_closeBracket_11 (by decide) ?_
  refine lv_isub hx hb dX5_closeBracket_12 ?_
  obtain ⟨y_11, u_8, h_10, hF⟩ := ncl_some hF
  have e_9 := nWF_eq h_10
  refine cp_X5_55 hC hH e_9 dX5_closeBracket_13 (fun H locs hH => ?_)
  refine lv_aload_n hx hb dX5_closeBracket_16 rfl (lv_at hl 0 rfl) ?_
  refine lv_dup hx hb dX5_closeBracket_17 rfl ?_
  refine cg_X5_58 hC hH dX5_closeBracket_18 ?_
  obtain ⟨x_12, u_13, h_14, hF⟩ := ncl_some hF
  obtain ⟨e_15, rfl⟩ := nRF_eq h_14
  refine gx_ti e_15 ?_
  refine lv_iconst (v := 1) hx hb dX5_closeBracket_21 (by decide) ?_
  refine lv_isub hx hb dX5_closeBracket_22 ?_
  obtain ⟨y_19, u_16, h_18, hF⟩ := ncl_some hF
  have e_17 := nWF_eq h_18
  refine cp_X5_58 hC hH e_17 dX5_closeBracket_23 (fun H locs hH => ?_)
  refine lv_aload_n hx hb dX5_closeBracket_26 rfl (lv_at hl 0 rfl) ?_
  refine lv_dup hx hb dX5_closeBracket_27 rfl ?_
  refine cg_X5_61 hC hH dX5_closeBracket_28 ?_
  obtain ⟨x_20, u_21, h_22, hF⟩ := ncl_some hF
  obtain ⟨e_23, rfl⟩ := nRF_eq h_22
  refine gx_ti e_23 ?_
  refine lv_iconst (v := 1) hx hb dX5_closeBracket_31 (by decide) ?_
  refine lv_isub hx hb dX5_closeBracket_32 ?_
  obtain ⟨y_27, u_24, h_26, hF⟩ := ncl_some hF
  have e_25 := nWF_eq h_26
  refine cp_X5_61 hC hH e_25 dX5_closeBracket_33 (fun H locs hH => ?_)
  refine lv_aload_n hx hb dX5_closeBracket_36 rfl (lv_at hl 0 rfl) ?_
  obtain ⟨r_28, u_29, h_30, hF⟩ := ncl_some hF
  refine ccV_v (q0 := 3) (As := []) (rest := []) hC hH (n_X5_closeNots l G Z Q _ T u_24 u_29 r_28 _ h_30) rfl rfl ⟨wkc_X5_closeNots, wka170, wka572, wka573, wka749⟩ kVX5_closeNots ⟨Nat.le_of_ble_eq_true rfl, Nat.le_of_ble_eq_true rfl⟩ rfl hl.1 rfl (Nat.le_of_ble_eq_true rfl) dX5_closeBracket_37 (fun D H locs hH => ?_)
  exact cr_v hC hH hr (nrt_eq hF) dX5_closeBracket_40 hlocks
def x_X5_takeBehindCond (a0 : Int32) : NG Int32 := (if a0 = 10 then ncl (x_X5_takePart 12) (fun r_2 => ncl (x_X5_emitBinders a0) (fun r_5 => ncl (x_X5_hold a0) (fun r_8 => nrt 0))) else (if a0 = 9 then ncl (x_X5_takePart 12) (fun r_69 => ncl (x_X5_emitBinders a0) (fun r_72 => ncl (x_X5_hold a0) (fun r_75 => nrt 0))) else (if a0 = 18 then ncl (nRF 9) (fun x_35 => (if x_35 ≤ 0 then (if a0 = 19 then ncl (nRF 9) (fun x_44 => (if x_44 = 0 then ncl (x_X5_emitBinders 9) (fun r_52 => ncl (x_X4_endLine) (fun r_55 => ncl (nWF 12 9) (fun _ => nrt 0))) else ncl (x_X5_fail 1) (fun r_49 => nrt 0))) else ncl (x_X5_fail 1) (fun r_41 => nrt 0)) else ncl (x_X5_closeBracket) (fun r_62 => ncl (nWF 12 16) (fun _ => nrt 0)))) else (if a0 = 19 then ncl (nRF 9) (fun x_17 => (if x_17 = 0 then ncl (x_X5_emitBinders 9) (fun r_25 => ncl (x_X4_endLine) (fun r_28 => ncl (nWF 12 9) (fun _ => nrt 0))) else ncl (x_X5_fail 1) (fun r_22 => nrt 0))) else ncl (x_X5_fail 1) (fun r_14 => nrt 0)))))
set_option maxHeartbeats 4000000 in
set_option maxRecDepth 100000 in
theorem n_X5_takeBehindCond (l : Launch) (G : gG) (Z : gC) (Q : Nat → Nat) (D : Nat × Nat) (T : va_W) (u u1 : MS) (r : Int32) (a0 : Int32) (sz : Nat) (hF : x_X5_takeBehindCond a0 u = some (r, u1)) : Met l yX5_takeBehindCond (Cond.code yX5_takeBehindCond cX5_takeBehindCond 2 none :: wK) { frames := 4, cells := 0, slots := 0, locals := 86 } (va_Pc [.ref (Q 3), .int a0] (cPM G Z Q D T u sz)) (cQv G Q T u1 (va_A (cW G Q D T u) sz)) 0 0 (va_A (cW G Q D T u) sz) := by
  refine Met.ofW (cc := cX5_takeBehindCond) (maxL := 2) (ret := none) (by decide) rfl ?_
  intro p e s m args below meth c s₁ B hml hv
  obtain ⟨rfl, rfl, hP, hB, hD0, hE⟩ := hv
  have hr := B.returns
  have hlocks := B.notSynchronized
  have hts := atoms_spec (ws := Cond.code yX5_takeBehindCond cX5_takeBehindCond 2 none :: wK) B.pre
  have hD := hD0.self (sz := s.heap.size)
  have hA : ∀ q : Nat, s.heap.size ≤ q → va_A (cW G Q D T u) s.heap.size q := fun q h => Or.inr h
  generalize va_A (cW G Q D T u) s.heap.size = A at hD hA hE ⊢
  have hC : cX p c cX5_takeBehindCond 2 s m _ RX5 G Z A := ⟨B.exec, B.bytes, hml, findClass_of_methodNamed B.named, fun w h => hts w (List.mem_cons_of_mem _ h), hB, hE, hA⟩
  have hx := hC.1
  have hb := hC.2.1
  have hH : cH G Q D T A u s s.heap [] := ⟨hP, hD, va_S.rf⟩
  have hl := lv_entry ([.ref (Q 3), .int a0]) (n := 2) (Nat.le_of_ble_eq_true rfl)
  rw [lg_entry_eq]
  generalize (lg_sl ([.ref (Q 3), .int a0]) ++ List.replicate (2 - (lg_sl ([.ref (Q 3), .int a0])).length) Slot.unset).toArray = ls at hl ⊢
  have hl : lv_has ls 2 [(0, .ref (Q 3)), (1, .int a0)] := hl
  unfold x_X5_takeBehindCond at hF
  refine lv_iload_n hx hb dX5_takeBehindCond_0 rfl (lv_at hl 1 rfl) ?_
  refine lv_bipush (v := 10) hx hb dX5_takeBehindCond_1 (by decide) ?_
  refine lv_icmp_eq (tgt := 12) hx hb dX5_takeBehindCond_3 (by decide) (fun c_1 => ?_) (fun c_1 => ?_)
  · rw [if_pos c_1] at hF
    refine lv_aload_n hx hb dX5_takeBehindCond_12 rfl (lv_at hl 0 rfl) ?_
    refine lv_bipush (v := 12) hx hb dX5_takeBehindCond_13 (by decide) ?_
    obtain ⟨r_2, u_3, h_4, hF⟩ := ncl_some hF
    refine ccV_v (q0 := 3) (As := [.int 12]) (rest := []) hC hH (n_X5_takePart l G Z Q _ T u u_3 r_2 12 _ h_4) rfl rfl ⟨wkc_X5_takePart, wka181, wka552, wka553, wka749⟩ kVX5_takePart ⟨Nat.le_of_ble_eq_true rfl, Nat.le_of_ble_eq_true rfl⟩ rfl hl.1 rfl (Nat.le_of_ble_eq_true rfl) dX5_takeBehindCond_15 (fun D H locs hH => ?_)
    refine lv_aload_n hx hb dX5_takeBehindCond_18 rfl (lv_at hl 0 rfl) ?_
    refine lv_iload_n hx hb dX5_takeBehindCond_19 rfl (lv_at hl 1 rfl) ?_
    obtain ⟨r_5, u_6, h_7, hF⟩ := ncl_some hF
    refine ccV_v (q0 := 3) (As := [.int a0]) (rest := []) hC hH (n_X5_emitBinders l G Z Q _ T u_3 u_6 r_5 a0 _ h_7) rfl rfl ⟨wkc_X5_emitBinders, wka189, wka570, wka571, wka749⟩ kVX5_emitBinders ⟨Nat.le_of_ble_eq_true rfl, Nat.le_of_ble_eq_true rfl⟩ rfl hl.1 rfl (Nat.le_of_ble_eq_true rfl) dX5_takeBehindCond_20 (fun D H locs hH => ?_)
    refine lv_aload_n hx hb dX5_takeBehindCond_23 rfl (lv_at hl 0 rfl) ?_
    refine lv_iload_n hx hb dX5_takeBehindCond_24 rfl (lv_at hl 1 rfl) ?_
    obtain ⟨r_8, u_9, h_10, hF⟩ := ncl_some hF
    refine ccV_v (q0 := 3) (As := [.int a0]) (rest := []) hC hH (n_X5_hold l G Z Q _ T u_6 u_9 r_8 a0 _ h_10) rfl rfl ⟨wkc_X5_hold, wka183, wka568, wka569, wka749⟩ kVX5_hold ⟨Nat.le_of_ble_eq_true rfl, Nat.le_of_ble_eq_true rfl⟩ rfl hl.1 rfl (Nat.le_of_ble_eq_true rfl) dX5_takeBehindCond_25 (fun D H locs hH => ?_)
    refine lv_goto (tgt := 97) hx hb dX5_takeBehindCond_28 (by decide) ?_
    exact cr_v hC hH hr (nrt_eq hF) dX5_takeBehindCond_97 hlocks
  · rw [if_neg c_1] at hF
    refine lv_iload_n hx hb dX5_takeBehindCond_6 rfl (lv_at hl 1 rfl) ?_
    refine lv_bipush (v := 9) hx hb dX5_takeBehindCond_7 (by decide) ?_
    refine lv_icmp_ne (tgt := 31) hx hb dX5_takeBehindCond_9 (by decide) (fun c_11 => ?_) (fun c_11 => ?_)
    · rw [if_neg c_11] at hF
      refine lv_iload_n hx hb dX5_takeBehindCond_31 rfl (lv_at hl 1 rfl) ?_
      refine lv_bipush (v := 18) hx hb dX5_takeBehindCond_32 (by decide) ?_
      refine lv_icmp_ne (tgt := 57) hx hb dX5_takeBehindCond_34 (by decide) (fun c_12 => ?_) (fun c_12 => ?_)
      · rw [if_neg c_12] at hF
        refine lv_iload_n hx hb dX5_takeBehindCond_57 rfl (lv_at hl 1 rfl) ?_
        refine lv_bipush (v := 19) hx hb dX5_takeBehindCond_58 (by decide) ?_
        refine lv_icmp_ne (tgt := 92) hx hb dX5_takeBehindCond_60 (by decide) (fun c_13 => ?_) (fun c_13 => ?_)
        · rw [if_neg c_13] at hF
          refine lv_aload_n hx hb dX5_takeBehindCond_92 rfl (lv_at hl 0 rfl) ?_
          refine lv_iconst (v := 1) hx hb dX5_takeBehindCond_93 (by decide) ?_
          obtain ⟨r_14, u_15, h_16, hF⟩ := ncl_some hF
          refine ccV_v (q0 := 3) (As := [.int 1]) (rest := []) hC hH (n_X5_fail l G Z Q _ T u u_15 r_14 1 _ h_16) rfl rfl ⟨wkc_X5_fail, wka166, wka532, wka533, wka749⟩ kVX5_fail ⟨Nat.le_of_ble_eq_true rfl, Nat.le_of_ble_eq_true rfl⟩ rfl hl.1 rfl (Nat.le_of_ble_eq_true rfl) dX5_takeBehindCond_94 (fun D H locs hH => ?_)
          exact cr_v hC hH hr (nrt_eq hF) dX5_takeBehindCond_97 hlocks
        · rw [if_pos c_13] at hF
          refine lv_aload_n hx hb dX5_takeBehindCond_63 rfl (lv_at hl 0 rfl) ?_
          refine cg_X5_61 hC hH dX5_takeBehindCond_64 ?_
          obtain ⟨x_17, u_18, h_19, hF⟩ := ncl_some hF
          obtain ⟨e_20, rfl⟩ := nRF_eq h_19
          refine gx_ti e_20 ?_
          refine lv_if_ne (tgt := 92) hx hb dX5_takeBehindCond_67 (by decide) (fun c_21 => ?_) (fun c_21 => ?_)
          · rw [if_neg c_21] at hF
            refine lv_aload_n hx hb dX5_takeBehindCond_92 rfl (lv_at hl 0 rfl) ?_
            refine lv_iconst (v := 1) hx hb dX5_takeBehindCond_93 (by decide) ?_
            obtain ⟨r_22, u_23, h_24, hF⟩ := ncl_some hF
            refine ccV_v (q0 := 3) (As := [.int 1]) (rest := []) hC hH (n_X5_fail l G Z Q _ T u u_23 r_22 1 _ h_24) rfl rfl ⟨wkc_X5_fail, wka166, wka532, wka533, wka749⟩ kVX5_fail ⟨Nat.le_of_ble_eq_true rfl, Nat.le_of_ble_eq_true rfl⟩ rfl hl.1 rfl (Nat.le_of_ble_eq_true rfl) dX5_takeBehindCond_94 (fun D H locs hH => ?_)
            exact cr_v hC hH hr (nrt_eq hF) dX5_takeBehindCond_97 hlocks
          · rw [if_pos c_21] at hF
            refine lv_aload_n hx hb dX5_takeBehindCond_70 rfl (lv_at hl 0 rfl) ?_
            refine lv_bipush (v := 9) hx hb dX5_takeBehindCond_71 (by decide) ?_
            obtain ⟨r_25, u_26, h_27, hF⟩ := ncl_some hF
            refine ccV_v (q0 := 3) (As := [.int 9]) (rest := []) hC hH (n_X5_emitBinders l G Z Q _ T u u_26 r_25 9 _ h_27) rfl rfl ⟨wkc_X5_emitBinders, wka189, wka570, wka571, wka749⟩ kVX5_emitBinders ⟨Nat.le_of_ble_eq_true rfl, Nat.le_of_ble_eq_true rfl⟩ rfl hl.1 rfl (Nat.le_of_ble_eq_true rfl) dX5_takeBehindCond_73 (fun D H locs hH => ?_)
            refine lv_aload_n hx hb dX5_takeBehindCond_76 rfl (lv_at hl 0 rfl) ?_
            refine cg_X5_33 hC hH dX5_takeBehindCond_77 ?_
            obtain ⟨r_28, u_29, h_30, hF⟩ := ncl_some hF
            refine ccV_v (q0 := 10) (As := []) (rest := []) hC hH (n_X4_endLine l G Z Q _ T u_26 u_29 r_28 _ h_30) rfl rfl ⟨wkc_X4_endLine, wka191, wka520, wka521, wka748⟩ kVX4_endLine ⟨Nat.le_of_ble_eq_true rfl, Nat.le_of_ble_eq_true rfl⟩ rfl hl.1 rfl (Nat.le_of_ble_eq_true rfl) dX5_takeBehindCond_80 (fun D H locs hH => ?_)
            refine lv_aload_n hx hb dX5_takeBehindCond_83 rfl (lv_at hl 0 rfl) ?_
            refine lv_bipush (v := 9) hx hb dX5_takeBehindCond_84 (by decide) ?_
            obtain ⟨y_34, u_31, h_33, hF⟩ := ncl_some hF
            have e_32 := nWF_eq h_33
            refine cp_X5_52 hC hH e_32 dX5_takeBehindCond_86 (fun H locs hH => ?_)
            refine lv_goto (tgt := 97) hx hb dX5_takeBehindCond_89 (by decide) ?_
            exact cr_v hC hH hr (nrt_eq hF) dX5_takeBehindCond_97 hlocks
      · rw [if_pos c_12] at hF
        refine lv_aload_n hx hb dX5_takeBehindCond_37 rfl (lv_at hl 0 rfl) ?_
        refine cg_X5_61 hC hH dX5_takeBehindCond_38 ?_
        obtain ⟨x_35, u_36, h_37, hF⟩ := ncl_some hF
        obtain ⟨e_38, rfl⟩ := nRF_eq h_37
        refine gx_ti e_38 ?_
        refine lv_if_le (tgt := 57) hx hb dX5_takeBehindCond_41 (by decide) (fun c_39 => ?_) (fun c_39 => ?_)
        · rw [if_pos c_39] at hF
          refine lv_iload_n hx hb dX5_takeBehindCond_57 rfl (lv_at hl 1 rfl) ?_
          refine lv_bipush (v := 19) hx hb dX5_takeBehindCond_58 (by decide) ?_
          refine lv_icmp_ne (tgt := 92) hx hb dX5_takeBehindCond_60 (by decide) (fun c_40 => ?_) (fun c_40 => ?_)
          · rw [if_neg c_40] at hF
            refine lv_aload_n hx hb dX5_takeBehindCond_92 rfl (lv_at hl 0 rfl) ?_
            refine lv_iconst (v := 1) hx hb dX5_takeBehindCond_93 (by decide) ?_
            obtain ⟨r_41, u_42, h_43, hF⟩ := ncl_some hF
            refine ccV_v (q0 := 3) (As := [.int 1]) (rest := []) hC hH (n_X5_fail l G Z Q _ T u u_42 r_41 1 _ h_43) rfl rfl ⟨wkc_X5_fail, wka166, wka532, wka533, wka749⟩ kVX5_fail ⟨Nat.le_of_ble_eq_true rfl, Nat.le_of_ble_eq_true rfl⟩ rfl hl.1 rfl (Nat.le_of_ble_eq_true rfl) dX5_takeBehindCond_94 (fun D H locs hH => ?_)
            exact cr_v hC hH hr (nrt_eq hF) dX5_takeBehindCond_97 hlocks
          · rw [if_pos c_40] at hF
            refine lv_aload_n hx hb dX5_takeBehindCond_63 rfl (lv_at hl 0 rfl) ?_
            refine cg_X5_61 hC hH dX5_takeBehindCond_64 ?_
            obtain ⟨x_44, u_45, h_46, hF⟩ := ncl_some hF
            obtain ⟨e_47, rfl⟩ := nRF_eq h_46
            refine gx_ti e_47 ?_
            refine lv_if_ne (tgt := 92) hx hb dX5_takeBehindCond_67 (by decide) (fun c_48 => ?_) (fun c_48 => ?_)
            · rw [if_neg c_48] at hF
              refine lv_aload_n hx hb dX5_takeBehindCond_92 rfl (lv_at hl 0 rfl) ?_
              refine lv_iconst (v := 1) hx hb dX5_takeBehindCond_93 (by decide) ?_
              obtain ⟨r_49, u_50, h_51, hF⟩ := ncl_some hF
              refine ccV_v (q0 := 3) (As := [.int 1]) (rest := []) hC hH (n_X5_fail l G Z Q _ T u u_50 r_49 1 _ h_51) rfl rfl ⟨wkc_X5_fail, wka166, wka532, wka533, wka749⟩ kVX5_fail ⟨Nat.le_of_ble_eq_true rfl, Nat.le_of_ble_eq_true rfl⟩ rfl hl.1 rfl (Nat.le_of_ble_eq_true rfl) dX5_takeBehindCond_94 (fun D H locs hH => ?_)
              exact cr_v hC hH hr (nrt_eq hF) dX5_takeBehindCond_97 hlocks
            · rw [if_pos c_48] at hF
              refine lv_aload_n hx hb dX5_takeBehindCond_70 rfl (lv_at hl 0 rfl) ?_
              refine lv_bipush (v := 9) hx hb dX5_takeBehindCond_71 (by decide) ?_
              obtain ⟨r_52, u_53, h_54, hF⟩ := ncl_some hF
              refine ccV_v (q0 := 3) (As := [.int 9]) (rest := []) hC hH (n_X5_emitBinders l G Z Q _ T u u_53 r_52 9 _ h_54) rfl rfl ⟨wkc_X5_emitBinders, wka189, wka570, wka571, wka749⟩ kVX5_emitBinders ⟨Nat.le_of_ble_eq_true rfl, Nat.le_of_ble_eq_true rfl⟩ rfl hl.1 rfl (Nat.le_of_ble_eq_true rfl) dX5_takeBehindCond_73 (fun D H locs hH => ?_)
              refine lv_aload_n hx hb dX5_takeBehindCond_76 rfl (lv_at hl 0 rfl) ?_
              refine cg_X5_33 hC hH dX5_takeBehindCond_77 ?_
              obtain ⟨r_55, u_56, h_57, hF⟩ := ncl_some hF
              refine ccV_v (q0 := 10) (As := []) (rest := []) hC hH (n_X4_endLine l G Z Q _ T u_53 u_56 r_55 _ h_57) rfl rfl ⟨wkc_X4_endLine, wka191, wka520, wka521, wka748⟩ kVX4_endLine ⟨Nat.le_of_ble_eq_true rfl, Nat.le_of_ble_eq_true rfl⟩ rfl hl.1 rfl (Nat.le_of_ble_eq_true rfl) dX5_takeBehindCond_80 (fun D H locs hH => ?_)
              refine lv_aload_n hx hb dX5_takeBehindCond_83 rfl (lv_at hl 0 rfl) ?_
              refine lv_bipush (v := 9) hx hb dX5_takeBehindCond_84 (by decide) ?_
              obtain ⟨y_61, u_58, h_60, hF⟩ := ncl_some hF
              have e_59 := nWF_eq h_60
              refine cp_X5_52 hC hH e_59 dX5_takeBehindCond_86 (fun H locs hH => ?_)
              refine lv_goto (tgt := 97) hx hb dX5_takeBehindCond_89 (by decide) ?_
              exact cr_v hC hH hr (nrt_eq hF) dX5_takeBehindCond_97 hlocks
        · rw [if_neg c_39] at hF
          refine lv_aload_n hx hb dX5_takeBehindCond_44 rfl (lv_at hl 0 rfl) ?_
          obtain ⟨r_62, u_63, h_64, hF⟩ := ncl_some hF
          refine ccV_v (q0 := 3) (As := []) (rest := []) hC hH (n_X5_closeBracket l G Z Q _ T u u_63 r_62 _ h_64) rfl rfl ⟨wkc_X5_closeBracket, wka190, wka574, wka575, wka749⟩ kVX5_closeBracket ⟨Nat.le_of_ble_eq_true rfl, Nat.le_of_ble_eq_true rfl⟩ rfl hl.1 rfl (Nat.le_of_ble_eq_true rfl) dX5_takeBehindCond_45 (fun D H locs hH => ?_)
          refine lv_aload_n hx hb dX5_takeBehindCond_48 rfl (lv_at hl 0 rfl) ?_
          refine lv_bipush (v := 16) hx hb dX5_takeBehindCond_49 (by decide) ?_
          obtain ⟨y_68, u_65, h_67, hF⟩ := ncl_some hF
          have e_66 := nWF_eq h_67
          refine cp_X5_52 hC hH e_66 dX5_takeBehindCond_51 (fun H locs hH => ?_)
          refine lv_goto (tgt := 97) hx hb dX5_takeBehindCond_54 (by decide) ?_
          exact cr_v hC hH hr (nrt_eq hF) dX5_takeBehindCond_97 hlocks
    · rw [if_pos c_11] at hF
      refine lv_aload_n hx hb dX5_takeBehindCond_12 rfl (lv_at hl 0 rfl) ?_
      refine lv_bipush (v := 12) hx hb dX5_takeBehindCond_13 (by decide) ?_
      obtain ⟨r_69, u_70, h_71, hF⟩ := ncl_some hF
      refine ccV_v (q0 := 3) (As := [.int 12]) (rest := []) hC hH (n_X5_takePart l G Z Q _ T u u_70 r_69 12 _ h_71) rfl rfl ⟨wkc_X5_takePart, wka181, wka552, wka553, wka749⟩ kVX5_takePart ⟨Nat.le_of_ble_eq_true rfl, Nat.le_of_ble_eq_true rfl⟩ rfl hl.1 rfl (Nat.le_of_ble_eq_true rfl) dX5_takeBehindCond_15 (fun D H locs hH => ?_)
      refine lv_aload_n hx hb dX5_takeBehindCond_18 rfl (lv_at hl 0 rfl) ?_
      refine lv_iload_n hx hb dX5_takeBehindCond_19 rfl (lv_at hl 1 rfl) ?_
      obtain ⟨r_72, u_73, h_74, hF⟩ := ncl_some hF
      refine ccV_v (q0 := 3) (As := [.int a0]) (rest := []) hC hH (n_X5_emitBinders l G Z Q _ T u_70 u_73 r_72 a0 _ h_74) rfl rfl ⟨wkc_X5_emitBinders, wka189, wka570, wka571, wka749⟩ kVX5_emitBinders ⟨Nat.le_of_ble_eq_true rfl, Nat.le_of_ble_eq_true rfl⟩ rfl hl.1 rfl (Nat.le_of_ble_eq_true rfl) dX5_takeBehindCond_20 (fun D H locs hH => ?_)
      refine lv_aload_n hx hb dX5_takeBehindCond_23 rfl (lv_at hl 0 rfl) ?_
      refine lv_iload_n hx hb dX5_takeBehindCond_24 rfl (lv_at hl 1 rfl) ?_
      obtain ⟨r_75, u_76, h_77, hF⟩ := ncl_some hF
      refine ccV_v (q0 := 3) (As := [.int a0]) (rest := []) hC hH (n_X5_hold l G Z Q _ T u_73 u_76 r_75 a0 _ h_77) rfl rfl ⟨wkc_X5_hold, wka183, wka568, wka569, wka749⟩ kVX5_hold ⟨Nat.le_of_ble_eq_true rfl, Nat.le_of_ble_eq_true rfl⟩ rfl hl.1 rfl (Nat.le_of_ble_eq_true rfl) dX5_takeBehindCond_25 (fun D H locs hH => ?_)
      refine lv_goto (tgt := 97) hx hb dX5_takeBehindCond_28 (by decide) ?_
      exact cr_v hC hH hr (nrt_eq hF) dX5_takeBehindCond_97 hlocks
def x_X5_endComparison : NG Int32 := ncl (nRF 15) (fun x_1 => ncl (x_X4_emit x_1 0) (fun r_5 => ncl (x_X5_closeNots) (fun r_8 => ncl (nWF 12 16) (fun _ => nrt 0))))
set_option maxHeartbeats 4000000 in
set_option maxRecDepth 100000 in
theorem n_X5_endComparison (l : Launch) (G : gG) (Z : gC) (Q : Nat → Nat) (D : Nat × Nat) (T : va_W) (u u1 : MS) (r : Int32) (sz : Nat) (hF : x_X5_endComparison u = some (r, u1)) : Met l yX5_endComparison (Cond.code yX5_endComparison cX5_endComparison 1 none :: wK) { frames := 3, cells := 0, slots := 0, locals := 64 } (va_Pc [.ref (Q 3)] (cPM G Z Q D T u sz)) (cQv G Q T u1 (va_A (cW G Q D T u) sz)) 0 0 (va_A (cW G Q D T u) sz) := by
  refine Met.ofW (cc := cX5_endComparison) (maxL := 1) (ret := none) (by decide) rfl ?_
  intro p e s m args below meth c s₁ B hml hv
  obtain ⟨rfl, rfl, hP, hB, hD0, hE⟩ := hv
  have hr := B.returns
  have hlocks := B.notSynchronized
  have hts := atoms_spec (ws := Cond.code yX5_endComparison cX5_endComparison 1 none :: wK) B.pre
  have hD := hD0.self (sz := s.heap.size)
  have hA : ∀ q : Nat, s.heap.size ≤ q → va_A (cW G Q D T u) s.heap.size q := fun q h => Or.inr h
  generalize va_A (cW G Q D T u) s.heap.size = A at hD hA hE ⊢
  have hC : cX p c cX5_endComparison 1 s m _ RX5 G Z A := ⟨B.exec, B.bytes, hml, findClass_of_methodNamed B.named, fun w h => hts w (List.mem_cons_of_mem _ h), hB, hE, hA⟩
  have hx := hC.1
  have hb := hC.2.1
  have hH : cH G Q D T A u s s.heap [] := ⟨hP, hD, va_S.rf⟩
  have hl := lv_entry ([.ref (Q 3)]) (n := 1) (Nat.le_of_ble_eq_true rfl)
  rw [lg_entry_eq]
  generalize (lg_sl ([.ref (Q 3)]) ++ List.replicate (1 - (lg_sl ([.ref (Q 3)])).length) Slot.unset).toArray = ls at hl ⊢
  have hl : lv_has ls 1 [(0, .ref (Q 3))] := hl
  unfold x_X5_endComparison at hF
  refine lv_aload_n hx hb dX5_endComparison_0 rfl (lv_at hl 0 rfl) ?_
  refine cg_X5_33 hC hH dX5_endComparison_1 ?_
  refine lv_aload_n hx hb dX5_endComparison_4 rfl (lv_at hl 0 rfl) ?_
  refine cg_X5_84 hC hH dX5_endComparison_5 ?_
  obtain ⟨x_1, u_2, h_3, hF⟩ := ncl_some hF
  obtain ⟨e_4, rfl⟩ := nRF_eq h_3
  refine gx_ti e_4 ?_
  refine lv_iconst (v := 0) hx hb dX5_endComparison_8 (by decide) ?_
  obtain ⟨r_5, u_6, h_7, hF⟩ := ncl_some hF
  refine ccV_v (q0 := 10) (As := [.int x_1, .int 0]) (rest := []) hC hH (n_X4_emit l G Z Q _ T u u_6 r_5 x_1 0 _ h_7) rfl rfl ⟨wkc_X4_emit, wka168, wka518, wka519, wka748⟩ kVX4_emit ⟨Nat.le_of_ble_eq_true rfl, Nat.le_of_ble_eq_true rfl⟩ rfl hl.1 rfl (Nat.le_of_ble_eq_true rfl) dX5_endComparison_9 (fun D H locs hH => ?_)
  refine lv_aload_n hx hb dX5_endComparison_12 rfl (lv_at hl 0 rfl) ?_
  obtain ⟨r_8, u_9, h_10, hF⟩ := ncl_some hF
  refine ccV_v (q0 := 3) (As := []) (rest := []) hC hH (n_X5_closeNots l G Z Q _ T u_6 u_9 r_8 _ h_10) rfl rfl ⟨wkc_X5_closeNots, wka170, wka572, wka573, wka749⟩ kVX5_closeNots ⟨Nat.le_of_ble_eq_true rfl, Nat.le_of_ble_eq_true rfl⟩ rfl hl.1 rfl (Nat.le_of_ble_eq_true rfl) dX5_endComparison_13 (fun D H locs hH => ?_)
  refine lv_aload_n hx hb dX5_endComparison_16 rfl (lv_at hl 0 rfl) ?_
  refine lv_bipush (v := 16) hx hb dX5_endComparison_17 (by decide) ?_
  obtain ⟨y_14, u_11, h_13, hF⟩ := ncl_some hF
  have e_12 := nWF_eq h_13
  refine cp_X5_52 hC hH e_12 dX5_endComparison_19 (fun H locs hH => ?_)
  exact cr_v hC hH hr (nrt_eq hF) dX5_endComparison_22 hlocks
def x_X5_takeHead (a0 : Int32) : NG Int32 := ncl (nRF 12) (fun x_1 => (if x_1 < 0 then (if (0 : Int32) = 0 then (if (0 : Int32) = 0 then ncl (nRF 12) (fun x_8 => ncl (x_X5_goIf 0 (x_8 + 1)) (fun r_12 => nrt 0)) else ncl (nRF 12) (fun x_15 => (if x_15 = 4 then ncl (nRF 6) (fun x_27 => ncl (nWF 21 x_27) (fun _ => ncl (nRF 12) (fun x_35 => ncl (x_X5_goIf 0 (x_35 + 1)) (fun r_39 => nrt 0)))) else ncl (nRF 12) (fun x_20 => ncl (x_X5_goIf 0 (x_20 + 1)) (fun r_24 => nrt 0))))) else ncl (nRF 12) (fun x_42 => (if x_42 = 1 then ncl (nRF 6) (fun x_82 => ncl (nWF 20 x_82) (fun _ => (if (0 : Int32) = 0 then ncl (nRF 12) (fun x_91 => ncl (x_X5_goIf 0 (x_91 + 1)) (fun r_95 => nrt 0)) else ncl (nRF 12) (fun x_98 => (if x_98 = 4 then ncl (nRF 6) (fun x_110 => ncl (nWF 21 x_110) (fun _ => ncl (nRF 12) (fun x_118 => ncl (x_X5_goIf 0 (x_118 + 1)) (fun r_122 => nrt 0)))) else ncl (nRF 12) (fun x_103 => ncl (x_X5_goIf 0 (x_103 + 1)) (fun r_107 => nrt 0))))))) else (if (0 : Int32) = 0 then ncl (nRF 12) (fun x_48 => ncl (x_X5_goIf 0 (x_48 + 1)) (fun r_52 => nrt 0)) else ncl (nRF 12) (fun x_55 => (if x_55 = 4 then ncl (nRF 6) (fun x_67 => ncl (nWF 21 x_67) (fun _ => ncl (nRF 12) (fun x_75 => ncl (x_X5_goIf 0 (x_75 + 1)) (fun r_79 => nrt 0)))) else ncl (nRF 12) (fun x_60 => ncl (x_X5_goIf 0 (x_60 + 1)) (fun r_64 => nrt 0)))))))) else ncl (nRF 12) (fun x_125 => (if 6 ≤ x_125 then (if (0 : Int32) = 0 then (if (0 : Int32) = 0 then ncl (nRF 12) (fun x_132 => ncl (x_X5_goIf 0 (x_132 + 1)) (fun r_136 => nrt 0)) else ncl (nRF 12) (fun x_139 => (if x_139 = 4 then ncl (nRF 6) (fun x_151 => ncl (nWF 21 x_151) (fun _ => ncl (nRF 12) (fun x_159 => ncl (x_X5_goIf 0 (x_159 + 1)) (fun r_163 => nrt 0)))) else ncl (nRF 12) (fun x_144 => ncl (x_X5_goIf 0 (x_144 + 1)) (fun r_148 => nrt 0))))) else ncl (nRF 12) (fun x_166 => (if x_166 = 1 then ncl (nRF 6) (fun x_206 => ncl (nWF 20 x_206) (fun _ => (if (0 : Int32) = 0 then ncl (nRF 12) (fun x_215 => ncl (x_X5_goIf 0 (x_215 + 1)) (fun r_219 => nrt 0)) else ncl (nRF 12) (fun x_222 => (if x_222 = 4 then ncl (nRF 6) (fun x_234 => ncl (nWF 21 x_234) (fun _ => ncl (nRF 12) (fun x_242 => ncl (x_X5_goIf 0 (x_242 + 1)) (fun r_246 => nrt 0)))) else ncl (nRF 12) (fun x_227 => ncl (x_X5_goIf 0 (x_227 + 1)) (fun r_231 => nrt 0))))))) else (if (0 : Int32) = 0 then ncl (nRF 12) (fun x_172 => ncl (x_X5_goIf 0 (x_172 + 1)) (fun r_176 => nrt 0)) else ncl (nRF 12) (fun x_179 => (if x_179 = 4 then ncl (nRF 6) (fun x_191 => ncl (nWF 21 x_191) (fun _ => ncl (nRF 12) (fun x_199 => ncl (x_X5_goIf 0 (x_199 + 1)) (fun r_203 => nrt 0)))) else ncl (nRF 12) (fun x_184 => ncl (x_X5_goIf 0 (x_184 + 1)) (fun r_188 => nrt 0)))))))) else ncl (nRF 12) (fun x_249 => nog (gi x_249 6) ((if a0 = (hd6 x_249.toNatClampNeg) then (if (1 : Int32) = 0 then (if (1 : Int32) = 0 then ncl (nRF 12) (fun x_376 => ncl (x_X5_goIf 1 (x_376 + 1)) (fun r_380 => nrt 0)) else ncl (nRF 12) (fun x_383 => (if x_383 = 4 then ncl (nRF 6) (fun x_395 => ncl (nWF 21 x_395) (fun _ => ncl (nRF 12) (fun x_403 => ncl (x_X5_goIf 1 (x_403 + 1)) (fun r_407 => nrt 0)))) else ncl (nRF 12) (fun x_388 => ncl (x_X5_goIf 1 (x_388 + 1)) (fun r_392 => nrt 0))))) else ncl (nRF 12) (fun x_410 => (if x_410 = 1 then ncl (nRF 6) (fun x_450 => ncl (nWF 20 x_450) (fun _ => (if (1 : Int32) = 0 then ncl (nRF 12) (fun x_459 => ncl (x_X5_goIf 1 (x_459 + 1)) (fun r_463 => nrt 0)) else ncl (nRF 12) (fun x_466 => (if x_466 = 4 then ncl (nRF 6) (fun x_478 => ncl (nWF 21 x_478) (fun _ => ncl (nRF 12) (fun x_486 => ncl (x_X5_goIf 1 (x_486 + 1)) (fun r_490 => nrt 0)))) else ncl (nRF 12) (fun x_471 => ncl (x_X5_goIf 1 (x_471 + 1)) (fun r_475 => nrt 0))))))) else (if (1 : Int32) = 0 then ncl (nRF 12) (fun x_416 => ncl (x_X5_goIf 1 (x_416 + 1)) (fun r_420 => nrt 0)) else ncl (nRF 12) (fun x_423 => (if x_423 = 4 then ncl (nRF 6) (fun x_435 => ncl (nWF 21 x_435) (fun _ => ncl (nRF 12) (fun x_443 => ncl (x_X5_goIf 1 (x_443 + 1)) (fun r_447 => nrt 0)))) else ncl (nRF 12) (fun x_428 => ncl (x_X5_goIf 1 (x_428 + 1)) (fun r_432 => nrt 0)))))))) else (if (0 : Int32) = 0 then (if (0 : Int32) = 0 then ncl (nRF 12) (fun x_257 => ncl (x_X5_goIf 0 (x_257 + 1)) (fun r_261 => nrt 0)) else ncl (nRF 12) (fun x_264 => (if x_264 = 4 then ncl (nRF 6) (fun x_276 => ncl (nWF 21 x_276) (fun _ => ncl (nRF 12) (fun x_284 => ncl (x_X5_goIf 0 (x_284 + 1)) (fun r_288 => nrt 0)))) else ncl (nRF 12) (fun x_269 => ncl (x_X5_goIf 0 (x_269 + 1)) (fun r_273 => nrt 0))))) else ncl (nRF 12) (fun x_291 => (if x_291 = 1 then ncl (nRF 6) (fun x_331 => ncl (nWF 20 x_331) (fun _ => (if (0 : Int32) = 0 then ncl (nRF 12) (fun x_340 => ncl (x_X5_goIf 0 (x_340 + 1)) (fun r_344 => nrt 0)) else ncl (nRF 12) (fun x_347 => (if x_347 = 4 then ncl (nRF 6) (fun x_359 => ncl (nWF 21 x_359) (fun _ => ncl (nRF 12) (fun x_367 => ncl (x_X5_goIf 0 (x_367 + 1)) (fun r_371 => nrt 0)))) else ncl (nRF 12) (fun x_352 => ncl (x_X5_goIf 0 (x_352 + 1)) (fun r_356 => nrt 0))))))) else (if (0 : Int32) = 0 then ncl (nRF 12) (fun x_297 => ncl (x_X5_goIf 0 (x_297 + 1)) (fun r_301 => nrt 0)) else ncl (nRF 12) (fun x_304 => (if x_304 = 4 then ncl (nRF 6) (fun x_316 => ncl (nWF 21 x_316) (fun _ => ncl (nRF 12) (fun x_324 => ncl (x_X5_goIf 0 (x_324 + 1)) (fun r_328 => nrt 0)))) else ncl (nRF 12) (fun x_309 => ncl (x_X5_goIf 0 (x_309 + 1)) (fun r_313 => nrt 0)))))))))))))))
set_option maxHeartbeats 4000000 in
set_option maxRecDepth 100000 in
theorem n_X5_takeHead (l : Launch) (G : gG) (Z : gC) (Q : Nat → Nat) (D : Nat × Nat) (T : va_W) (u u1 : MS) (r : Int32) (a0 : Int32) (sz : Nat) (hF : x_X5_takeHead a0 u = some (r, u1)) : Met l yX5_takeHead (Cond.code yX5_takeHead cX5_takeHead 3 none :: wK) { frames := 2, cells := 0, slots := 0, locals := 43 } (va_Pc [.ref (Q 3), .int a0] (cPM G Z Q D T u sz)) (cQv G Q T u1 (va_A (cW G Q D T u) sz)) 0 0 (va_A (cW G Q D T u) sz) := by
  refine Met.ofW (cc := cX5_takeHead) (maxL := 3) (ret := none) (by decide) rfl ?_
  intro p e s m args below meth c s₁ B hml hv
  obtain ⟨rfl, rfl, hP, hB, hD0, hE⟩ := hv
  have hr := B.returns
  have hlocks := B.notSynchronized
  have hts := atoms_spec (ws := Cond.code yX5_takeHead cX5_takeHead 3 none :: wK) B.pre
  have hD := hD0.self (sz := s.heap.size)
  have hA : ∀ q : Nat, s.heap.size ≤ q → va_A (cW G Q D T u) s.heap.size q := fun q h => Or.inr h
  generalize va_A (cW G Q D T u) s.heap.size = A at hD hA hE ⊢
  have hC : cX p c cX5_takeHead 3 s m _ RX5 G Z A := ⟨B.exec, B.bytes, hml, findClass_of_methodNamed B.named, fun w h => hts w (List.mem_cons_of_mem _ h), hB, hE, hA⟩
  have hx := hC.1
  have hb := hC.2.1
  have hH : cH G Q D T A u s s.heap [] := ⟨hP, hD, va_S.rf⟩
  have hl := lv_entry ([.ref (Q 3), .int a0]) (n := 3) (Nat.le_of_ble_eq_true rfl)
  rw [lg_entry_eq]
  generalize (lg_sl ([.ref (Q 3), .int a0]) ++ List.replicate (3 - (lg_sl ([.ref (Q 3), .int a0])).length) Slot.unset).toArray = ls at hl ⊢
  have hl : lv_has ls 3 [(0, .ref (Q 3)), (1, .int a0)] := hl
  unfold x_X5_takeHead at hF
  refine lv_aload_n hx hb dX5_takeHead_0 rfl (lv_at hl 0 rfl) ?_
  refine cg_X5_52 hC hH dX5_takeHead_1 ?_
  obtain ⟨x_1, u_2, h_3, hF⟩ := ncl_some hF
  obtain ⟨e_4, rfl⟩ := nRF_eq h_3
  refine gx_ti e_4 ?_
  refine lv_if_lt (tgt := 34) hx hb dX5_takeHead_4 (by decide) (fun c_5 => ?_) (fun c_5 => ?_)
  · rw [if_pos c_5] at hF
    refine lv_iconst (v := 0) hx hb dX5_takeHead_34 (by decide) ?_
    refine lv_istore_n (lv' := [(2, .int 0), (0, .ref (Q 3)), (1, .int a0)]) hx hb dX5_takeHead_35 rfl hl (by decide) rfl (fun ls hl => ?_)
    refine lv_iload_n hx hb dX5_takeHead_36 rfl (lv_at hl 0 rfl) ?_
    refine lv_if_eq (tgt := 62) hx hb dX5_takeHead_37 (by decide) (fun c_6 => ?_) (fun c_6 => ?_)
    · rw [if_pos c_6] at hF
      refine lv_iload_n hx hb dX5_takeHead_62 rfl (lv_at hl 0 rfl) ?_
      refine lv_if_eq (tgt := 88) hx hb dX5_takeHead_63 (by decide) (fun c_7 => ?_) (fun c_7 => ?_)
      · rw [if_pos c_7] at hF
        refine lv_aload_n hx hb dX5_takeHead_88 rfl (lv_at hl 1 rfl) ?_
        refine lv_iload_n hx hb dX5_takeHead_89 rfl (lv_at hl 0 rfl) ?_
        refine lv_aload_n hx hb dX5_takeHead_90 rfl (lv_at hl 1 rfl) ?_
        refine cg_X5_52 hC hH dX5_takeHead_91 ?_
        obtain ⟨x_8, u_9, h_10, hF⟩ := ncl_some hF
        obtain ⟨e_11, rfl⟩ := nRF_eq h_10
        refine gx_ti e_11 ?_
        refine lv_iconst (v := 1) hx hb dX5_takeHead_94 (by decide) ?_
        refine lv_iadd hx hb dX5_takeHead_95 ?_
        obtain ⟨r_12, u_13, h_14, hF⟩ := ncl_some hF
        refine ccV_v (q0 := 3) (As := [.int 0, .int (x_8 + 1)]) (rest := []) hC hH (n_X5_goIf l G Z Q _ T u u_13 r_12 0 (x_8 + 1) _ h_14) rfl rfl ⟨wkc_X5_goIf, wka165, wka536, wka537, wka749⟩ kVX5_goIf ⟨Nat.le_of_ble_eq_true rfl, Nat.le_of_ble_eq_true rfl⟩ rfl hl.1 rfl (Nat.le_of_ble_eq_true rfl) dX5_takeHead_96 (fun D H locs hH => ?_)
        exact cr_v hC hH hr (nrt_eq hF) dX5_takeHead_99 hlocks
      · rw [if_neg c_7] at hF
        refine lv_aload_n hx hb dX5_takeHead_66 rfl (lv_at hl 1 rfl) ?_
        refine cg_X5_52 hC hH dX5_takeHead_67 ?_
        obtain ⟨x_15, u_16, h_17, hF⟩ := ncl_some hF
        obtain ⟨e_18, rfl⟩ := nRF_eq h_17
        refine gx_ti e_18 ?_
        refine lv_iconst (v := 4) hx hb dX5_takeHead_70 (by decide) ?_
        refine lv_icmp_ne (tgt := 88) hx hb dX5_takeHead_71 (by decide) (fun c_19 => ?_) (fun c_19 => ?_)
        · rw [if_neg c_19] at hF
          refine lv_aload_n hx hb dX5_takeHead_88 rfl (lv_at hl 1 rfl) ?_
          refine lv_iload_n hx hb dX5_takeHead_89 rfl (lv_at hl 0 rfl) ?_
          refine lv_aload_n hx hb dX5_takeHead_90 rfl (lv_at hl 1 rfl) ?_
          refine cg_X5_52 hC hH dX5_takeHead_91 ?_
          obtain ⟨x_20, u_21, h_22, hF⟩ := ncl_some hF
          obtain ⟨e_23, rfl⟩ := nRF_eq h_22
          refine gx_ti e_23 ?_
          refine lv_iconst (v := 1) hx hb dX5_takeHead_94 (by decide) ?_
          refine lv_iadd hx hb dX5_takeHead_95 ?_
          obtain ⟨r_24, u_25, h_26, hF⟩ := ncl_some hF
          refine ccV_v (q0 := 3) (As := [.int 0, .int (x_20 + 1)]) (rest := []) hC hH (n_X5_goIf l G Z Q _ T u u_25 r_24 0 (x_20 + 1) _ h_26) rfl rfl ⟨wkc_X5_goIf, wka165, wka536, wka537, wka749⟩ kVX5_goIf ⟨Nat.le_of_ble_eq_true rfl, Nat.le_of_ble_eq_true rfl⟩ rfl hl.1 rfl (Nat.le_of_ble_eq_true rfl) dX5_takeHead_96 (fun D H locs hH => ?_)
          exact cr_v hC hH hr (nrt_eq hF) dX5_takeHead_99 hlocks
        · rw [if_pos c_19] at hF
          refine lv_aload_n hx hb dX5_takeHead_74 rfl (lv_at hl 1 rfl) ?_
          refine cg_X5_33 hC hH dX5_takeHead_75 ?_
          refine lv_aload_n hx hb dX5_takeHead_78 rfl (lv_at hl 1 rfl) ?_
          refine cg_X5_9 hC hH dX5_takeHead_79 ?_
          refine cg_X5_121 hC hH dX5_takeHead_82 ?_
          obtain ⟨x_27, u_28, h_29, hF⟩ := ncl_some hF
          obtain ⟨e_30, rfl⟩ := nRF_eq h_29
          refine gx_ti e_30 ?_
          obtain ⟨y_34, u_31, h_33, hF⟩ := ncl_some hF
          have e_32 := nWF_eq h_33
          refine cp_X5_127 hC hH e_32 dX5_takeHead_85 (fun H locs hH => ?_)
          refine lv_aload_n hx hb dX5_takeHead_88 rfl (lv_at hl 1 rfl) ?_
          refine lv_iload_n hx hb dX5_takeHead_89 rfl (lv_at hl 0 rfl) ?_
          refine lv_aload_n hx hb dX5_takeHead_90 rfl (lv_at hl 1 rfl) ?_
          refine cg_X5_52 hC hH dX5_takeHead_91 ?_
          obtain ⟨x_35, u_36, h_37, hF⟩ := ncl_some hF
          obtain ⟨e_38, rfl⟩ := nRF_eq h_37
          refine gx_ti e_38 ?_
          refine lv_iconst (v := 1) hx hb dX5_takeHead_94 (by decide) ?_
          refine lv_iadd hx hb dX5_takeHead_95 ?_
          obtain ⟨r_39, u_40, h_41, hF⟩ := ncl_some hF
          refine ccV_v (q0 := 3) (As := [.int 0, .int (x_35 + 1)]) (rest := []) hC hH (n_X5_goIf l G Z Q _ T u_31 u_40 r_39 0 (x_35 + 1) _ h_41) rfl rfl ⟨wkc_X5_goIf, wka165, wka536, wka537, wka749⟩ kVX5_goIf ⟨Nat.le_of_ble_eq_true rfl, Nat.le_of_ble_eq_true rfl⟩ rfl hl.1 rfl (Nat.le_of_ble_eq_true rfl) dX5_takeHead_96 (fun D H locs hH => ?_)
          exact cr_v hC hH hr (nrt_eq hF) dX5_takeHead_99 hlocks
    · rw [if_neg c_6] at hF
      refine lv_aload_n hx hb dX5_takeHead_40 rfl (lv_at hl 1 rfl) ?_
      refine cg_X5_52 hC hH dX5_takeHead_41 ?_
      obtain ⟨x_42, u_43, h_44, hF⟩ := ncl_some hF
      obtain ⟨e_45, rfl⟩ := nRF_eq h_44
      refine gx_ti e_45 ?_
      refine lv_iconst (v := 1) hx hb dX5_takeHead_44 (by decide) ?_
      refine lv_icmp_ne (tgt := 62) hx hb dX5_takeHead_45 (by decide) (fun c_46 => ?_) (fun c_46 => ?_)
      · rw [if_neg c_46] at hF
        refine lv_iload_n hx hb dX5_takeHead_62 rfl (lv_at hl 0 rfl) ?_
        refine lv_if_eq (tgt := 88) hx hb dX5_takeHead_63 (by decide) (fun c_47 => ?_) (fun c_47 => ?_)
        · rw [if_pos c_47] at hF
          refine lv_aload_n hx hb dX5_takeHead_88 rfl (lv_at hl 1 rfl) ?_
          refine lv_iload_n hx hb dX5_takeHead_89 rfl (lv_at hl 0 rfl) ?_
          refine lv_aload_n hx hb dX5_takeHead_90 rfl (lv_at hl 1 rfl) ?_
          refine cg_X5_52 hC hH dX5_takeHead_91 ?_
          obtain ⟨x_48, u_49, h_50, hF⟩ := ncl_some hF
          obtain ⟨e_51, rfl⟩ := nRF_eq h_50
          refine gx_ti e_51 ?_
          refine lv_iconst (v := 1) hx hb dX5_takeHead_94 (by decide) ?_
          refine lv_iadd hx hb dX5_takeHead_95 ?_
          obtain ⟨r_52, u_53, h_54, hF⟩ := ncl_some hF
          refine ccV_v (q0 := 3) (As := [.int 0, .int (x_48 + 1)]) (rest := []) hC hH (n_X5_goIf l G Z Q _ T u u_53 r_52 0 (x_48 + 1) _ h_54) rfl rfl ⟨wkc_X5_goIf, wka165, wka536, wka537, wka749⟩ kVX5_goIf ⟨Nat.le_of_ble_eq_true rfl, Nat.le_of_ble_eq_true rfl⟩ rfl hl.1 rfl (Nat.le_of_ble_eq_true rfl) dX5_takeHead_96 (fun D H locs hH => ?_)
          exact cr_v hC hH hr (nrt_eq hF) dX5_takeHead_99 hlocks
        · rw [if_neg c_47] at hF
          refine lv_aload_n hx hb dX5_takeHead_66 rfl (lv_at hl 1 rfl) ?_
          refine cg_X5_52 hC hH dX5_takeHead_67 ?_
          obtain ⟨x_55, u_56, h_57, hF⟩ := ncl_some hF
          obtain ⟨e_58, rfl⟩ := nRF_eq h_57
          refine gx_ti e_58 ?_
          refine lv_iconst (v := 4) hx hb dX5_takeHead_70 (by decide) ?_
          refine lv_icmp_ne (tgt := 88) hx hb dX5_takeHead_71 (by decide) (fun c_59 => ?_) (fun c_59 => ?_)
          · rw [if_neg c_59] at hF
            refine lv_aload_n hx hb dX5_takeHead_88 rfl (lv_at hl 1 rfl) ?_
            refine lv_iload_n hx hb dX5_takeHead_89 rfl (lv_at hl 0 rfl) ?_
            refine lv_aload_n hx hb dX5_takeHead_90 rfl (lv_at hl 1 rfl) ?_
            refine cg_X5_52 hC hH dX5_takeHead_91 ?_
            obtain ⟨x_60, u_61, h_62, hF⟩ := ncl_some hF
            obtain ⟨e_63, rfl⟩ := nRF_eq h_62
            refine gx_ti e_63 ?_
            refine lv_iconst (v := 1) hx hb dX5_takeHead_94 (by decide) ?_
            refine lv_iadd hx hb dX5_takeHead_95 ?_
            obtain ⟨r_64, u_65, h_66, hF⟩ := ncl_some hF
            refine ccV_v (q0 := 3) (As := [.int 0, .int (x_60 + 1)]) (rest := []) hC hH (n_X5_goIf l G Z Q _ T u u_65 r_64 0 (x_60 + 1) _ h_66) rfl rfl ⟨wkc_X5_goIf, wka165, wka536, wka537, wka749⟩ kVX5_goIf ⟨Nat.le_of_ble_eq_true rfl, Nat.le_of_ble_eq_true rfl⟩ rfl hl.1 rfl (Nat.le_of_ble_eq_true rfl) dX5_takeHead_96 (fun D H locs hH => ?_)
            exact cr_v hC hH hr (nrt_eq hF) dX5_takeHead_99 hlocks
          · rw [if_pos c_59] at hF
            refine lv_aload_n hx hb dX5_takeHead_74 rfl (lv_at hl 1 rfl) ?_
            refine cg_X5_33 hC hH dX5_takeHead_75 ?_
            refine lv_aload_n hx hb dX5_takeHead_78 rfl (lv_at hl 1 rfl) ?_
            refine cg_X5_9 hC hH dX5_takeHead_79 ?_
            refine cg_X5_121 hC hH dX5_takeHead_82 ?_
            obtain ⟨x_67, u_68, h_69, hF⟩ := ncl_some hF
            obtain ⟨e_70, rfl⟩ := nRF_eq h_69
            refine gx_ti e_70 ?_
            obtain ⟨y_74, u_71, h_73, hF⟩ := ncl_some hF
            have e_72 := nWF_eq h_73
            refine cp_X5_127 hC hH e_72 dX5_takeHead_85 (fun H locs hH => ?_)
            refine lv_aload_n hx hb dX5_takeHead_88 rfl (lv_at hl 1 rfl) ?_
            refine lv_iload_n hx hb dX5_takeHead_89 rfl (lv_at hl 0 rfl) ?_
            refine lv_aload_n hx hb dX5_takeHead_90 rfl (lv_at hl 1 rfl) ?_
            refine cg_X5_52 hC hH dX5_takeHead_91 ?_
            obtain ⟨x_75, u_76, h_77, hF⟩ := ncl_some hF
            obtain ⟨e_78, rfl⟩ := nRF_eq h_77
            refine gx_ti e_78 ?_
            refine lv_iconst (v := 1) hx hb dX5_takeHead_94 (by decide) ?_
            refine lv_iadd hx hb dX5_takeHead_95 ?_
            obtain ⟨r_79, u_80, h_81, hF⟩ := ncl_some hF
            refine ccV_v (q0 := 3) (As := [.int 0, .int (x_75 + 1)]) (rest := []) hC hH (n_X5_goIf l G Z Q _ T u_71 u_80 r_79 0 (x_75 + 1) _ h_81) rfl rfl ⟨wkc_X5_goIf, wka165, wka536, wka537, wka749⟩ kVX5_goIf ⟨Nat.le_of_ble_eq_true rfl, Nat.le_of_ble_eq_true rfl⟩ rfl hl.1 rfl (Nat.le_of_ble_eq_true rfl) dX5_takeHead_96 (fun D H locs hH => ?_)
            exact cr_v hC hH hr (nrt_eq hF) dX5_takeHead_99 hlocks
      · rw [if_pos c_46] at hF
        refine lv_aload_n hx hb dX5_takeHead_48 rfl (lv_at hl 1 rfl) ?_
        refine cg_X5_33 hC hH dX5_takeHead_49 ?_
        refine lv_aload_n hx hb dX5_takeHead_52 rfl (lv_at hl 1 rfl) ?_
        refine cg_X5_9 hC hH dX5_takeHead_53 ?_
        refine cg_X5_121 hC hH dX5_takeHead_56 ?_
        obtain ⟨x_82, u_83, h_84, hF⟩ := ncl_some hF
        obtain ⟨e_85, rfl⟩ := nRF_eq h_84
        refine gx_ti e_85 ?_
        obtain ⟨y_89, u_86, h_88, hF⟩ := ncl_some hF
        have e_87 := nWF_eq h_88
        refine cp_X5_124 hC hH e_87 dX5_takeHead_59 (fun H locs hH => ?_)
        refine lv_iload_n hx hb dX5_takeHead_62 rfl (lv_at hl 0 rfl) ?_
        refine lv_if_eq (tgt := 88) hx hb dX5_takeHead_63 (by decide) (fun c_90 => ?_) (fun c_90 => ?_)
        · rw [if_pos c_90] at hF
          refine lv_aload_n hx hb dX5_takeHead_88 rfl (lv_at hl 1 rfl) ?_
          refine lv_iload_n hx hb dX5_takeHead_89 rfl (lv_at hl 0 rfl) ?_
          refine lv_aload_n hx hb dX5_takeHead_90 rfl (lv_at hl 1 rfl) ?_
          refine cg_X5_52 hC hH dX5_takeHead_91 ?_
          obtain ⟨x_91, u_92, h_93, hF⟩ := ncl_some hF
          obtain ⟨e_94, rfl⟩ := nRF_eq h_93
          refine gx_ti e_94 ?_
          refine lv_iconst (v := 1) hx hb dX5_takeHead_94 (by decide) ?_
          refine lv_iadd hx hb dX5_takeHead_95 ?_
          obtain ⟨r_95, u_96, h_97, hF⟩ := ncl_some hF
          refine ccV_v (q0 := 3) (As := [.int 0, .int (x_91 + 1)]) (rest := []) hC hH (n_X5_goIf l G Z Q _ T u_86 u_96 r_95 0 (x_91 + 1) _ h_97) rfl rfl ⟨wkc_X5_goIf, wka165, wka536, wka537, wka749⟩ kVX5_goIf ⟨Nat.le_of_ble_eq_true rfl, Nat.le_of_ble_eq_true rfl⟩ rfl hl.1 rfl (Nat.le_of_ble_eq_true rfl) dX5_takeHead_96 (fun D H locs hH => ?_)
          exact cr_v hC hH hr (nrt_eq hF) dX5_takeHead_99 hlocks
        · rw [if_neg c_90] at hF
          refine lv_aload_n hx hb dX5_takeHead_66 rfl (lv_at hl 1 rfl) ?_
          refine cg_X5_52 hC hH dX5_takeHead_67 ?_
          obtain ⟨x_98, u_99, h_100, hF⟩ := ncl_some hF
          obtain ⟨e_101, rfl⟩ := nRF_eq h_100
          refine gx_ti e_101 ?_
          refine lv_iconst (v := 4) hx hb dX5_takeHead_70 (by decide) ?_
          refine lv_icmp_ne (tgt := 88) hx hb dX5_takeHead_71 (by decide) (fun c_102 => ?_) (fun c_102 => ?_)
          · rw [if_neg c_102] at hF
            refine lv_aload_n hx hb dX5_takeHead_88 rfl (lv_at hl 1 rfl) ?_
            refine lv_iload_n hx hb dX5_takeHead_89 rfl (lv_at hl 0 rfl) ?_
            refine lv_aload_n hx hb dX5_takeHead_90 rfl (lv_at hl 1 rfl) ?_
            refine cg_X5_52 hC hH dX5_takeHead_91 ?_
            obtain ⟨x_103, u_104, h_105, hF⟩ := ncl_some hF
            obtain ⟨e_106, rfl⟩ := nRF_eq h_105
            refine gx_ti e_106 ?_
            refine lv_iconst (v := 1) hx hb dX5_takeHead_94 (by decide) ?_
            refine lv_iadd hx hb dX5_takeHead_95 ?_
            obtain ⟨r_107, u_108, h_109, hF⟩ := ncl_some hF
            refine ccV_v (q0 := 3) (As := [.int 0, .int (x_103 + 1)]) (rest := []) hC hH (n_X5_goIf l G Z Q _ T u_86 u_108 r_107 0 (x_103 + 1) _ h_109) rfl rfl ⟨wkc_X5_goIf, wka165, wka536, wka537, wka749⟩ kVX5_goIf ⟨Nat.le_of_ble_eq_true rfl, Nat.le_of_ble_eq_true rfl⟩ rfl hl.1 rfl (Nat.le_of_ble_eq_true rfl) dX5_takeHead_96 (fun D H locs hH => ?_)
            exact cr_v hC hH hr (nrt_eq hF) dX5_takeHead_99 hlocks
          · rw [if_pos c_102] at hF
            refine lv_aload_n hx hb dX5_takeHead_74 rfl (lv_at hl 1 rfl) ?_
            refine cg_X5_33 hC hH dX5_takeHead_75 ?_
            refine lv_aload_n hx hb dX5_takeHead_78 rfl (lv_at hl 1 rfl) ?_
            refine cg_X5_9 hC hH dX5_takeHead_79 ?_
            refine cg_X5_121 hC hH dX5_takeHead_82 ?_
            obtain ⟨x_110, u_111, h_112, hF⟩ := ncl_some hF
            obtain ⟨e_113, rfl⟩ := nRF_eq h_112
            refine gx_ti e_113 ?_
            obtain ⟨y_117, u_114, h_116, hF⟩ := ncl_some hF
            have e_115 := nWF_eq h_116
            refine cp_X5_127 hC hH e_115 dX5_takeHead_85 (fun H locs hH => ?_)
            refine lv_aload_n hx hb dX5_takeHead_88 rfl (lv_at hl 1 rfl) ?_
            refine lv_iload_n hx hb dX5_takeHead_89 rfl (lv_at hl 0 rfl) ?_
            refine lv_aload_n hx hb dX5_takeHead_90 rfl (lv_at hl 1 rfl) ?_
            refine cg_X5_52 hC hH dX5_takeHead_91 ?_
            obtain ⟨x_118, u_119, h_120, hF⟩ := ncl_some hF
            obtain ⟨e_121, rfl⟩ := nRF_eq h_120
            refine gx_ti e_121 ?_
            refine lv_iconst (v := 1) hx hb dX5_takeHead_94 (by decide) ?_
            refine lv_iadd hx hb dX5_takeHead_95 ?_
            obtain ⟨r_122, u_123, h_124, hF⟩ := ncl_some hF
            refine ccV_v (q0 := 3) (As := [.int 0, .int (x_118 + 1)]) (rest := []) hC hH (n_X5_goIf l G Z Q _ T u_114 u_123 r_122 0 (x_118 + 1) _ h_124) rfl rfl ⟨wkc_X5_goIf, wka165, wka536, wka537, wka749⟩ kVX5_goIf ⟨Nat.le_of_ble_eq_true rfl, Nat.le_of_ble_eq_true rfl⟩ rfl hl.1 rfl (Nat.le_of_ble_eq_true rfl) dX5_takeHead_96 (fun D H locs hH => ?_)
            exact cr_v hC hH hr (nrt_eq hF) dX5_takeHead_99 hlocks
  · rw [if_neg c_5] at hF
    refine lv_aload_n hx hb dX5_takeHead_7 rfl (lv_at hl 0 rfl) ?_
    refine cg_X5_52 hC hH dX5_takeHead_8 ?_
    obtain ⟨x_125, u_126, h_127, hF⟩ := ncl_some hF
    obtain ⟨e_128, rfl⟩ := nRF_eq h_127
    refine gx_ti e_128 ?_
    refine va_gets hx hb hC.2.2.2.2.2.2.1.2.1.2.2.2.1 hH.2.2 hC.2.2.2.1 (hC.2.2.2.2.1 _ wka163) (fun _ h9 => h9) dX5_takeHead_11 ?_
    refine va_tlen (v := 6) hx hb hC.2.2.2.2.2.2.1.2.1.2.2.2.2.1 hH.2.2 (by decide) dX5_takeHead_14 ?_
    refine lv_icmp_ge (tgt := 34) hx hb dX5_takeHead_15 (by decide) (fun c_129 => ?_) (fun c_129 => ?_)
    · rw [if_pos c_129] at hF
      refine lv_iconst (v := 0) hx hb dX5_takeHead_34 (by decide) ?_
      refine lv_istore_n (lv' := [(2, .int 0), (0, .ref (Q 3)), (1, .int a0)]) hx hb dX5_takeHead_35 rfl hl (by decide) rfl (fun ls hl => ?_)
      refine lv_iload_n hx hb dX5_takeHead_36 rfl (lv_at hl 0 rfl) ?_
      refine lv_if_eq (tgt := 62) hx hb dX5_takeHead_37 (by decide) (fun c_130 => ?_) (fun c_130 => ?_)
      · rw [if_pos c_130] at hF
        refine lv_iload_n hx hb dX5_takeHead_62 rfl (lv_at hl 0 rfl) ?_
        refine lv_if_eq (tgt := 88) hx hb dX5_takeHead_63 (by decide) (fun c_131 => ?_) (fun c_131 => ?_)
        · rw [if_pos c_131] at hF
          refine lv_aload_n hx hb dX5_takeHead_88 rfl (lv_at hl 1 rfl) ?_
          refine lv_iload_n hx hb dX5_takeHead_89 rfl (lv_at hl 0 rfl) ?_
          refine lv_aload_n hx hb dX5_takeHead_90 rfl (lv_at hl 1 rfl) ?_
          refine cg_X5_52 hC hH dX5_takeHead_91 ?_
          obtain ⟨x_132, u_133, h_134, hF⟩ := ncl_some hF
          obtain ⟨e_135, rfl⟩ := nRF_eq h_134
          refine gx_ti e_135 ?_
          refine lv_iconst (v := 1) hx hb dX5_takeHead_94 (by decide) ?_
          refine lv_iadd hx hb dX5_takeHead_95 ?_
          obtain ⟨r_136, u_137, h_138, hF⟩ := ncl_some hF
          refine ccV_v (q0 := 3) (As := [.int 0, .int (x_132 + 1)]) (rest := []) hC hH (n_X5_goIf l G Z Q _ T u u_137 r_136 0 (x_132 + 1) _ h_138) rfl rfl ⟨wkc_X5_goIf, wka165, wka536, wka537, wka749⟩ kVX5_goIf ⟨Nat.le_of_ble_eq_true rfl, Nat.le_of_ble_eq_true rfl⟩ rfl hl.1 rfl (Nat.le_of_ble_eq_true rfl) dX5_takeHead_96 (fun D H locs hH => ?_)
          exact cr_v hC hH hr (nrt_eq hF) dX5_takeHead_99 hlocks
        · rw [if_neg c_131] at hF
          refine lv_aload_n hx hb dX5_takeHead_66 rfl (lv_at hl 1 rfl) ?_
          refine cg_X5_52 hC hH dX5_takeHead_67 ?_
          obtain ⟨x_139, u_140, h_141, hF⟩ := ncl_some hF
          obtain ⟨e_142, rfl⟩ := nRF_eq h_141
          refine gx_ti e_142 ?_
          refine lv_iconst (v := 4) hx hb dX5_takeHead_70 (by decide) ?_
          refine lv_icmp_ne (tgt := 88) hx hb dX5_takeHead_71 (by decide) (fun c_143 => ?_) (fun c_143 => ?_)
          · rw [if_neg c_143] at hF
            refine lv_aload_n hx hb dX5_takeHead_88 rfl (lv_at hl 1 rfl) ?_
            refine lv_iload_n hx hb dX5_takeHead_89 rfl (lv_at hl 0 rfl) ?_
            refine lv_aload_n hx hb dX5_takeHead_90 rfl (lv_at hl 1 rfl) ?_
            refine cg_X5_52 hC hH dX5_takeHead_91 ?_
            obtain ⟨x_144, u_145, h_146, hF⟩ := ncl_some hF
            obtain ⟨e_147, rfl⟩ := nRF_eq h_146
            refine gx_ti e_147 ?_
            refine lv_iconst (v := 1) hx hb dX5_takeHead_94 (by decide) ?_
            refine lv_iadd hx hb dX5_takeHead_95 ?_
            obtain ⟨r_148, u_149, h_150, hF⟩ := ncl_some hF
            refine ccV_v (q0 := 3) (As := [.int 0, .int (x_144 + 1)]) (rest := []) hC hH (n_X5_goIf l G Z Q _ T u u_149 r_148 0 (x_144 + 1) _ h_150) rfl rfl ⟨wkc_X5_goIf, wka165, wka536, wka537, wka749⟩ kVX5_goIf ⟨Nat.le_of_ble_eq_true rfl, Nat.le_of_ble_eq_true rfl⟩ rfl hl.1 rfl (Nat.le_of_ble_eq_true rfl) dX5_takeHead_96 (fun D H locs hH => ?_)
            exact cr_v hC hH hr (nrt_eq hF) dX5_takeHead_99 hlocks
          · rw [if_pos c_143] at hF
            refine lv_aload_n hx hb dX5_takeHead_74 rfl (lv_at hl 1 rfl) ?_
            refine cg_X5_33 hC hH dX5_takeHead_75 ?_
            refine lv_aload_n hx hb dX5_takeHead_78 rfl (lv_at hl 1 rfl) ?_
            refine cg_X5_9 hC hH dX5_takeHead_79 ?_
            refine cg_X5_121 hC hH dX5_takeHead_82 ?_
            obtain ⟨x_151, u_152, h_153, hF⟩ := ncl_some hF
            obtain ⟨e_154, rfl⟩ := nRF_eq h_153
            refine gx_ti e_154 ?_
            obtain ⟨y_158, u_155, h_157, hF⟩ := ncl_some hF
            have e_156 := nWF_eq h_157
            refine cp_X5_127 hC hH e_156 dX5_takeHead_85 (fun H locs hH => ?_)
            refine lv_aload_n hx hb dX5_takeHead_88 rfl (lv_at hl 1 rfl) ?_
            refine lv_iload_n hx hb dX5_takeHead_89 rfl (lv_at hl 0 rfl) ?_
            refine lv_aload_n hx hb dX5_takeHead_90 rfl (lv_at hl 1 rfl) ?_
            refine cg_X5_52 hC hH dX5_takeHead_91 ?_
            obtain ⟨x_159, u_160, h_161, hF⟩ := ncl_some hF
            obtain ⟨e_162, rfl⟩ := nRF_eq h_161
            refine gx_ti e_162 ?_
            refine lv_iconst (v := 1) hx hb dX5_takeHead_94 (by decide) ?_
            refine lv_iadd hx hb dX5_takeHead_95 ?_
            obtain ⟨r_163, u_164, h_165, hF⟩ := ncl_some hF
            refine ccV_v (q0 := 3) (As := [.int 0, .int (x_159 + 1)]) (rest := []) hC hH (n_X5_goIf l G Z Q _ T u_155 u_164 r_163 0 (x_159 + 1) _ h_165) rfl rfl ⟨wkc_X5_goIf, wka165, wka536, wka537, wka749⟩ kVX5_goIf ⟨Nat.le_of_ble_eq_true rfl, Nat.le_of_ble_eq_true rfl⟩ rfl hl.1 rfl (Nat.le_of_ble_eq_true rfl) dX5_takeHead_96 (fun D H locs hH => ?_)
            exact cr_v hC hH hr (nrt_eq hF) dX5_takeHead_99 hlocks
      · rw [if_neg c_130] at hF
        refine lv_aload_n hx hb dX5_takeHead_40 rfl (lv_at hl 1 rfl) ?_
        refine cg_X5_52 hC hH dX5_takeHead_41 ?_
        obtain ⟨x_166, u_167, h_168, hF⟩ := ncl_some hF
        obtain ⟨e_169, rfl⟩ := nRF_eq h_168
        refine gx_ti e_169 ?_
        refine lv_iconst (v := 1) hx hb dX5_takeHead_44 (by decide) ?_
        refine lv_icmp_ne (tgt := 62) hx hb dX5_takeHead_45 (by decide) (fun c_170 => ?_) (fun c_170 => ?_)
        · rw [if_neg c_170] at hF
          refine lv_iload_n hx hb dX5_takeHead_62 rfl (lv_at hl 0 rfl) ?_
          refine lv_if_eq (tgt := 88) hx hb dX5_takeHead_63 (by decide) (fun c_171 => ?_) (fun c_171 => ?_)
          · rw [if_pos c_171] at hF
            refine lv_aload_n hx hb dX5_takeHead_88 rfl (lv_at hl 1 rfl) ?_
            refine lv_iload_n hx hb dX5_takeHead_89 rfl (lv_at hl 0 rfl) ?_
            refine lv_aload_n hx hb dX5_takeHead_90 rfl (lv_at hl 1 rfl) ?_
            refine cg_X5_52 hC hH dX5_takeHead_91 ?_
            obtain ⟨x_172, u_173, h_174, hF⟩ := ncl_some hF
            obtain ⟨e_175, rfl⟩ := nRF_eq h_174
            refine gx_ti e_175 ?_
            refine lv_iconst (v := 1) hx hb dX5_takeHead_94 (by decide) ?_
            refine lv_iadd hx hb dX5_takeHead_95 ?_
            obtain ⟨r_176, u_177, h_178, hF⟩ := ncl_some hF
            refine ccV_v (q0 := 3) (As := [.int 0, .int (x_172 + 1)]) (rest := []) hC hH (n_X5_goIf l G Z Q _ T u u_177 r_176 0 (x_172 + 1) _ h_178) rfl rfl ⟨wkc_X5_goIf, wka165, wka536, wka537, wka749⟩ kVX5_goIf ⟨Nat.le_of_ble_eq_true rfl, Nat.le_of_ble_eq_true rfl⟩ rfl hl.1 rfl (Nat.le_of_ble_eq_true rfl) dX5_takeHead_96 (fun D H locs hH => ?_)
            exact cr_v hC hH hr (nrt_eq hF) dX5_takeHead_99 hlocks
          · rw [if_neg c_171] at hF
            refine lv_aload_n hx hb dX5_takeHead_66 rfl (lv_at hl 1 rfl) ?_
            refine cg_X5_52 hC hH dX5_takeHead_67 ?_
            obtain ⟨x_179, u_180, h_181, hF⟩ := ncl_some hF
            obtain ⟨e_182, rfl⟩ := nRF_eq h_181
            refine gx_ti e_182 ?_
            refine lv_iconst (v := 4) hx hb dX5_takeHead_70 (by decide) ?_
            refine lv_icmp_ne (tgt := 88) hx hb dX5_takeHead_71 (by decide) (fun c_183 => ?_) (fun c_183 => ?_)
            · rw [if_neg c_183] at hF
              refine lv_aload_n hx hb dX5_takeHead_88 rfl (lv_at hl 1 rfl) ?_
              refine lv_iload_n hx hb dX5_takeHead_89 rfl (lv_at hl 0 rfl) ?_
              refine lv_aload_n hx hb dX5_takeHead_90 rfl (lv_at hl 1 rfl) ?_
              refine cg_X5_52 hC hH dX5_takeHead_91 ?_
              obtain ⟨x_184, u_185, h_186, hF⟩ := ncl_some hF
              obtain ⟨e_187, rfl⟩ := nRF_eq h_186
              refine gx_ti e_187 ?_
              refine lv_iconst (v := 1) hx hb dX5_takeHead_94 (by decide) ?_
              refine lv_iadd hx hb dX5_takeHead_95 ?_
              obtain ⟨r_188, u_189, h_190, hF⟩ := ncl_some hF
              refine ccV_v (q0 := 3) (As := [.int 0, .int (x_184 + 1)]) (rest := []) hC hH (n_X5_goIf l G Z Q _ T u u_189 r_188 0 (x_184 + 1) _ h_190) rfl rfl ⟨wkc_X5_goIf, wka165, wka536, wka537, wka749⟩ kVX5_goIf ⟨Nat.le_of_ble_eq_true rfl, Nat.le_of_ble_eq_true rfl⟩ rfl hl.1 rfl (Nat.le_of_ble_eq_true rfl) dX5_takeHead_96 (fun D H locs hH => ?_)
              exact cr_v hC hH hr (nrt_eq hF) dX5_takeHead_99 hlocks
            · rw [if_pos c_183] at hF
              refine lv_aload_n hx hb dX5_takeHead_74 rfl (lv_at hl 1 rfl) ?_
              refine cg_X5_33 hC hH dX5_takeHead_75 ?_
              refine lv_aload_n hx hb dX5_takeHead_78 rfl (lv_at hl 1 rfl) ?_
              refine cg_X5_9 hC hH dX5_takeHead_79 ?_
              refine cg_X5_121 hC hH dX5_takeHead_82 ?_
              obtain ⟨x_191, u_192, h_193, hF⟩ := ncl_some hF
              obtain ⟨e_194, rfl⟩ := nRF_eq h_193
              refine gx_ti e_194 ?_
              obtain ⟨y_198, u_195, h_197, hF⟩ := ncl_some hF
              have e_196 := nWF_eq h_197
              refine cp_X5_127 hC hH e_196 dX5_takeHead_85 (fun H locs hH => ?_)
              refine lv_aload_n hx hb dX5_takeHead_88 rfl (lv_at hl 1 rfl) ?_
              refine lv_iload_n hx hb dX5_takeHead_89 rfl (lv_at hl 0 rfl) ?_
              refine lv_aload_n hx hb dX5_takeHead_90 rfl (lv_at hl 1 rfl) ?_
              refine cg_X5_52 hC hH dX5_takeHead_91 ?_
              obtain ⟨x_199, u_200, h_201, hF⟩ := ncl_some hF
              obtain ⟨e_202, rfl⟩ := nRF_eq h_201
              refine gx_ti e_202 ?_
              refine lv_iconst (v := 1) hx hb dX5_takeHead_94 (by decide) ?_
              refine lv_iadd hx hb dX5_takeHead_95 ?_
              obtain ⟨r_203, u_204, h_205, hF⟩ := ncl_some hF
              refine ccV_v (q0 := 3) (As := [.int 0, .int (x_199 + 1)]) (rest := []) hC hH (n_X5_goIf l G Z Q _ T u_195 u_204 r_203 0 (x_199 + 1) _ h_205) rfl rfl ⟨wkc_X5_goIf, wka165, wka536, wka537, wka749⟩ kVX5_goIf ⟨Nat.le_of_ble_eq_true rfl, Nat.le_of_ble_eq_true rfl⟩ rfl hl.1 rfl (Nat.le_of_ble_eq_true rfl) dX5_takeHead_96 (fun D H locs hH => ?_)
              exact cr_v hC hH hr (nrt_eq hF) dX5_takeHead_99 hlocks
        · rw [if_pos c_170] at hF
          refine lv_aload_n hx hb dX5_takeHead_48 rfl (lv_at hl 1 rfl) ?_
          refine cg_X5_33 hC hH dX5_takeHead_49 ?_
          refine lv_aload_n hx hb dX5_takeHead_52 rfl (lv_at hl 1 rfl) ?_
          refine cg_X5_9 hC hH dX5_takeHead_53 ?_
          refine cg_X5_121 hC hH dX5_takeHead_56 ?_
          obtain ⟨x_206, u_207, h_208, hF⟩ := ncl_some hF
          obtain ⟨e_209, rfl⟩ := nRF_eq h_208
          refine gx_ti e_209 ?_
          obtain ⟨y_213, u_210, h_212, hF⟩ := ncl_some hF
          have e_211 := nWF_eq h_212
          refine cp_X5_124 hC hH e_211 dX5_takeHead_59 (fun H locs hH => ?_)
          refine lv_iload_n hx hb dX5_takeHead_62 rfl (lv_at hl 0 rfl) ?_
          refine lv_if_eq (tgt := 88) hx hb dX5_takeHead_63 (by decide) (fun c_214 => ?_) (fun c_214 => ?_)
          · rw [if_pos c_214] at hF
            refine lv_aload_n hx hb dX5_takeHead_88 rfl (lv_at hl 1 rfl) ?_
            refine lv_iload_n hx hb dX5_takeHead_89 rfl (lv_at hl 0 rfl) ?_
            refine lv_aload_n hx hb dX5_takeHead_90 rfl (lv_at hl 1 rfl) ?_
            refine cg_X5_52 hC hH dX5_takeHead_91 ?_
            obtain ⟨x_215, u_216, h_217, hF⟩ := ncl_some hF
            obtain ⟨e_218, rfl⟩ := nRF_eq h_217
            refine gx_ti e_218 ?_
            refine lv_iconst (v := 1) hx hb dX5_takeHead_94 (by decide) ?_
            refine lv_iadd hx hb dX5_takeHead_95 ?_
            obtain ⟨r_219, u_220, h_221, hF⟩ := ncl_some hF
            refine ccV_v (q0 := 3) (As := [.int 0, .int (x_215 + 1)]) (rest := []) hC hH (n_X5_goIf l G Z Q _ T u_210 u_220 r_219 0 (x_215 + 1) _ h_221) rfl rfl ⟨wkc_X5_goIf, wka165, wka536, wka537, wka749⟩ kVX5_goIf ⟨Nat.le_of_ble_eq_true rfl, Nat.le_of_ble_eq_true rfl⟩ rfl hl.1 rfl (Nat.le_of_ble_eq_true rfl) dX5_takeHead_96 (fun D H locs hH => ?_)
            exact cr_v hC hH hr (nrt_eq hF) dX5_takeHead_99 hlocks
          · rw [if_neg c_214] at hF
            refine lv_aload_n hx hb dX5_takeHead_66 rfl (lv_at hl 1 rfl) ?_
            refine cg_X5_52 hC hH dX5_takeHead_67 ?_
            obtain ⟨x_222, u_223, h_224, hF⟩ := ncl_some hF
            obtain ⟨e_225, rfl⟩ := nRF_eq h_224
            refine gx_ti e_225 ?_
            refine lv_iconst (v := 4) hx hb dX5_takeHead_70 (by decide) ?_
            refine lv_icmp_ne (tgt := 88) hx hb dX5_takeHead_71 (by decide) (fun c_226 => ?_) (fun c_226 => ?_)
            · rw [if_neg c_226] at hF
              refine lv_aload_n hx hb dX5_takeHead_88 rfl (lv_at hl 1 rfl) ?_
              refine lv_iload_n hx hb dX5_takeHead_89 rfl (lv_at hl 0 rfl) ?_
              refine lv_aload_n hx hb dX5_takeHead_90 rfl (lv_at hl 1 rfl) ?_
              refine cg_X5_52 hC hH dX5_takeHead_91 ?_
              obtain ⟨x_227, u_228, h_229, hF⟩ := ncl_some hF
              obtain ⟨e_230, rfl⟩ := nRF_eq h_229
              refine gx_ti e_230 ?_
              refine lv_iconst (v := 1) hx hb dX5_takeHead_94 (by decide) ?_
              refine lv_iadd hx hb dX5_takeHead_95 ?_
              obtain ⟨r_231, u_232, h_233, hF⟩ := ncl_some hF
              refine ccV_v (q0 := 3) (As := [.int 0, .int (x_227 + 1)]) (rest := []) hC hH (n_X5_goIf l G Z Q _ T u_210 u_232 r_231 0 (x_227 + 1) _ h_233) rfl rfl ⟨wkc_X5_goIf, wka165, wka536, wka537, wka749⟩ kVX5_goIf ⟨Nat.le_of_ble_eq_true rfl, Nat.le_of_ble_eq_true rfl⟩ rfl hl.1 rfl (Nat.le_of_ble_eq_true rfl) dX5_takeHead_96 (fun D H locs hH => ?_)
              exact cr_v hC hH hr (nrt_eq hF) dX5_takeHead_99 hlocks
            · rw [if_pos c_226] at hF
              refine lv_aload_n hx hb dX5_takeHead_74 rfl (lv_at hl 1 rfl) ?_
              refine cg_X5_33 hC hH dX5_takeHead_75 ?_
              refine lv_aload_n hx hb dX5_takeHead_78 rfl (lv_at hl 1 rfl) ?_
              refine cg_X5_9 hC hH dX5_takeHead_79 ?_
              refine cg_X5_121 hC hH dX5_takeHead_82 ?_
              obtain ⟨x_234, u_235, h_236, hF⟩ := ncl_some hF
              obtain ⟨e_237, rfl⟩ := nRF_eq h_236
              refine gx_ti e_237 ?_
              obtain ⟨y_241, u_238, h_240, hF⟩ := ncl_some hF
              have e_239 := nWF_eq h_240
              refine cp_X5_127 hC hH e_239 dX5_takeHead_85 (fun H locs hH => ?_)
              refine lv_aload_n hx hb dX5_takeHead_88 rfl (lv_at hl 1 rfl) ?_
              refine lv_iload_n hx hb dX5_takeHead_89 rfl (lv_at hl 0 rfl) ?_
              refine lv_aload_n hx hb dX5_takeHead_90 rfl (lv_at hl 1 rfl) ?_
              refine cg_X5_52 hC hH dX5_takeHead_91 ?_
              obtain ⟨x_242, u_243, h_244, hF⟩ := ncl_some hF
              obtain ⟨e_245, rfl⟩ := nRF_eq h_244
              refine gx_ti e_245 ?_
              refine lv_iconst (v := 1) hx hb dX5_takeHead_94 (by decide) ?_
              refine lv_iadd hx hb dX5_takeHead_95 ?_
              obtain ⟨r_246, u_247, h_248, hF⟩ := ncl_some hF
              refine ccV_v (q0 := 3) (As := [.int 0, .int (x_242 + 1)]) (rest := []) hC hH (n_X5_goIf l G Z Q _ T u_238 u_247 r_246 0 (x_242 + 1) _ h_248) rfl rfl ⟨wkc_X5_goIf, wka165, wka536, wka537, wka749⟩ kVX5_goIf ⟨Nat.le_of_ble_eq_true rfl, Nat.le_of_ble_eq_true rfl⟩ rfl hl.1 rfl (Nat.le_of_ble_eq_true rfl) dX5_takeHead_96 (fun D H locs hH => ?_)
              exact cr_v hC hH hr (nrt_eq hF) dX5_takeHead_99 hlocks
    · rw [if_neg c_129] at hF
      refine lv_iload_n hx hb dX5_takeHead_18 rfl (lv_at hl 1 rfl) ?_
      refine va_gets hx hb hC.2.2.2.2.2.2.1.2.1.2.2.2.1 hH.2.2 hC.2.2.2.1 (hC.2.2.2.2.1 _ wka163) (fun _ h9 => h9) dX5_takeHead_19 ?_
      refine lv_aload_n hx hb dX5_takeHead_22 rfl (lv_at hl 0 rfl) ?_
      refine cg_X5_52 hC hH dX5_takeHead_23 ?_
      obtain ⟨x_249, u_250, h_251, hF⟩ := ncl_some hF
      obtain ⟨e_252, rfl⟩ := nRF_eq h_251
      refine gx_ti e_252 ?_
      obtain ⟨g_253, hF⟩ := nog_some hF
      refine va_ti hx hb hC.2.2.2.2.2.2.1.2.1.2.2.2.2.1 hH.2.2 (gi_in g_253) (hdF_int _) dX5_takeHead_26 ?_
      refine lv_icmp_ne (tgt := 34) hx hb dX5_takeHead_27 (by decide) (fun c_254 => ?_) (fun c_254 => ?_)
      · rw [if_neg c_254] at hF
        refine lv_iconst (v := 0) hx hb dX5_takeHead_34 (by decide) ?_
        refine lv_istore_n (lv' := [(2, .int 0), (0, .ref (Q 3)), (1, .int a0)]) hx hb dX5_takeHead_35 rfl hl (by decide) rfl (fun ls hl => ?_)
        refine lv_iload_n hx hb dX5_takeHead_36 rfl (lv_at hl 0 rfl) ?_
        refine lv_if_eq (tgt := 62) hx hb dX5_takeHead_37 (by decide) (fun c_255 => ?_) (fun c_255 => ?_)
        · rw [if_pos c_255] at hF
          refine lv_iload_n hx hb dX5_takeHead_62 rfl (lv_at hl 0 rfl) ?_
          refine lv_if_eq (tgt := 88) hx hb dX5_takeHead_63 (by decide) (fun c_256 => ?_) (fun c_256 => ?_)
          · rw [if_pos c_256] at hF
            refine lv_aload_n hx hb dX5_takeHead_88 rfl (lv_at hl 1 rfl) ?_
            refine lv_iload_n hx hb dX5_takeHead_89 rfl (lv_at hl 0 rfl) ?_
            refine lv_aload_n hx hb dX5_takeHead_90 rfl (lv_at hl 1 rfl) ?_
            refine cg_X5_52 hC hH dX5_takeHead_91 ?_
            obtain ⟨x_257, u_258, h_259, hF⟩ := ncl_some hF
            obtain ⟨e_260, rfl⟩ := nRF_eq h_259
            refine gx_ti e_260 ?_
            refine lv_iconst (v := 1) hx hb dX5_takeHead_94 (by decide) ?_
            refine lv_iadd hx hb dX5_takeHead_95 ?_
            obtain ⟨r_261, u_262, h_263, hF⟩ := ncl_some hF
            refine ccV_v (q0 := 3) (As := [.int 0, .int (x_257 + 1)]) (rest := []) hC hH (n_X5_goIf l G Z Q _ T u u_262 r_261 0 (x_257 + 1) _ h_263) rfl rfl ⟨wkc_X5_goIf, wka165, wka536, wka537, wka749⟩ kVX5_goIf ⟨Nat.le_of_ble_eq_true rfl, Nat.le_of_ble_eq_true rfl⟩ rfl hl.1 rfl (Nat.le_of_ble_eq_true rfl) dX5_takeHead_96 (fun D H locs hH => ?_)
            exact cr_v hC hH hr (nrt_eq hF) dX5_takeHead_99 hlocks
          · rw [if_neg c_256] at hF
            refine lv_aload_n hx hb dX5_takeHead_66 rfl (lv_at hl 1 rfl) ?_
            refine cg_X5_52 hC hH dX5_takeHead_67 ?_
            obtain ⟨x_264, u_265, h_266, hF⟩ := ncl_some hF
            obtain ⟨e_267, rfl⟩ := nRF_eq h_266
            refine gx_ti e_267 ?_
            refine lv_iconst (v := 4) hx hb dX5_takeHead_70 (by decide) ?_
            refine lv_icmp_ne (tgt := 88) hx hb dX5_takeHead_71 (by decide) (fun c_268 => ?_) (fun c_268 => ?_)
            · rw [if_neg c_268] at hF
              refine lv_aload_n hx hb dX5_takeHead_88 rfl (lv_at hl 1 rfl) ?_
              refine lv_iload_n hx hb dX5_takeHead_89 rfl (lv_at hl 0 rfl) ?_
              refine lv_aload_n hx hb dX5_takeHead_90 rfl (lv_at hl 1 rfl) ?_
              refine cg_X5_52 hC hH dX5_takeHead_91 ?_
              obtain ⟨x_269, u_270, h_271, hF⟩ := ncl_some hF
              obtain ⟨e_272, rfl⟩ := nRF_eq h_271
              refine gx_ti e_272 ?_
              refine lv_iconst (v := 1) hx hb dX5_takeHead_94 (by decide) ?_
              refine lv_iadd hx hb dX5_takeHead_95 ?_
              obtain ⟨r_273, u_274, h_275, hF⟩ := ncl_some hF
              refine ccV_v (q0 := 3) (As := [.int 0, .int (x_269 + 1)]) (rest := []) hC hH (n_X5_goIf l G Z Q _ T u u_274 r_273 0 (x_269 + 1) _ h_275) rfl rfl ⟨wkc_X5_goIf, wka165, wka536, wka537, wka749⟩ kVX5_goIf ⟨Nat.le_of_ble_eq_true rfl, Nat.le_of_ble_eq_true rfl⟩ rfl hl.1 rfl (Nat.le_of_ble_eq_true rfl) dX5_takeHead_96 (fun D H locs hH => ?_)
              exact cr_v hC hH hr (nrt_eq hF) dX5_takeHead_99 hlocks
            · rw [if_pos c_268] at hF
              refine lv_aload_n hx hb dX5_takeHead_74 rfl (lv_at hl 1 rfl) ?_
              refine cg_X5_33 hC hH dX5_takeHead_75 ?_
              refine lv_aload_n hx hb dX5_takeHead_78 rfl (lv_at hl 1 rfl) ?_
              refine cg_X5_9 hC hH dX5_takeHead_79 ?_
              refine cg_X5_121 hC hH dX5_takeHead_82 ?_
              obtain ⟨x_276, u_277, h_278, hF⟩ := ncl_some hF
              obtain ⟨e_279, rfl⟩ := nRF_eq h_278
              refine gx_ti e_279 ?_
              obtain ⟨y_283, u_280, h_282, hF⟩ := ncl_some hF
              have e_281 := nWF_eq h_282
              refine cp_X5_127 hC hH e_281 dX5_takeHead_85 (fun H locs hH => ?_)
              refine lv_aload_n hx hb dX5_takeHead_88 rfl (lv_at hl 1 rfl) ?_
              refine lv_iload_n hx hb dX5_takeHead_89 rfl (lv_at hl 0 rfl) ?_
              refine lv_aload_n hx hb dX5_takeHead_90 rfl (lv_at hl 1 rfl) ?_
              refine cg_X5_52 hC hH dX5_takeHead_91 ?_
              obtain ⟨x_284, u_285, h_286, hF⟩ := ncl_some hF
              obtain ⟨e_287, rfl⟩ := nRF_eq h_286
              refine gx_ti e_287 ?_
              refine lv_iconst (v := 1) hx hb dX5_takeHead_94 (by decide) ?_
              refine lv_iadd hx hb dX5_takeHead_95 ?_
              obtain ⟨r_288, u_289, h_290, hF⟩ := ncl_some hF
              refine ccV_v (q0 := 3) (As := [.int 0, .int (x_284 + 1)]) (rest := []) hC hH (n_X5_goIf l G Z Q _ T u_280 u_289 r_288 0 (x_284 + 1) _ h_290) rfl rfl ⟨wkc_X5_goIf, wka165, wka536, wka537, wka749⟩ kVX5_goIf ⟨Nat.le_of_ble_eq_true rfl, Nat.le_of_ble_eq_true rfl⟩ rfl hl.1 rfl (Nat.le_of_ble_eq_true rfl) dX5_takeHead_96 (fun D H locs hH => ?_)
              exact cr_v hC hH hr (nrt_eq hF) dX5_takeHead_99 hlocks
        · rw [if_neg c_255] at hF
          refine lv_aload_n hx hb dX5_takeHead_40 rfl (lv_at hl 1 rfl) ?_
          refine cg_X5_52 hC hH dX5_takeHead_41 ?_
          obtain ⟨x_291, u_292, h_293, hF⟩ := ncl_some hF
          obtain ⟨e_294, rfl⟩ := nRF_eq h_293
          refine gx_ti e_294 ?_
          refine lv_iconst (v := 1) hx hb dX5_takeHead_44 (by decide) ?_
          refine lv_icmp_ne (tgt := 62) hx hb dX5_takeHead_45 (by decide) (fun c_295 => ?_) (fun c_295 => ?_)
          · rw [if_neg c_295] at hF
            refine lv_iload_n hx hb dX5_takeHead_62 rfl (lv_at hl 0 rfl) ?_
            refine lv_if_eq (tgt := 88) hx hb dX5_takeHead_63 (by decide) (fun c_296 => ?_) (fun c_296 => ?_)
            · rw [if_pos c_296] at hF
              refine lv_aload_n hx hb dX5_takeHead_88 rfl (lv_at hl 1 rfl) ?_
              refine lv_iload_n hx hb dX5_takeHead_89 rfl (lv_at hl 0 rfl) ?_
              refine lv_aload_n hx hb dX5_takeHead_90 rfl (lv_at hl 1 rfl) ?_
              refine cg_X5_52 hC hH dX5_takeHead_91 ?_
              obtain ⟨x_297, u_298, h_299, hF⟩ := ncl_some hF
              obtain ⟨e_300, rfl⟩ := nRF_eq h_299
              refine gx_ti e_300 ?_
              refine lv_iconst (v := 1) hx hb dX5_takeHead_94 (by decide) ?_
              refine lv_iadd hx hb dX5_takeHead_95 ?_
              obtain ⟨r_301, u_302, h_303, hF⟩ := ncl_some hF
              refine ccV_v (q0 := 3) (As := [.int 0, .int (x_297 + 1)]) (rest := []) hC hH (n_X5_goIf l G Z Q _ T u u_302 r_301 0 (x_297 + 1) _ h_303) rfl rfl ⟨wkc_X5_goIf, wka165, wka536, wka537, wka749⟩ kVX5_goIf ⟨Nat.le_of_ble_eq_true rfl, Nat.le_of_ble_eq_true rfl⟩ rfl hl.1 rfl (Nat.le_of_ble_eq_true rfl) dX5_takeHead_96 (fun D H locs hH => ?_)
              exact cr_v hC hH hr (nrt_eq hF) dX5_takeHead_99 hlocks
            · rw [if_neg c_296] at hF
              refine lv_aload_n hx hb dX5_takeHead_66 rfl (lv_at hl 1 rfl) ?_
              refine cg_X5_52 hC hH dX5_takeHead_67 ?_
              obtain ⟨x_304, u_305, h_306, hF⟩ := ncl_some hF
              obtain ⟨e_307, rfl⟩ := nRF_eq h_306
              refine gx_ti e_307 ?_
              refine lv_iconst (v := 4) hx hb dX5_takeHead_70 (by decide) ?_
              refine lv_icmp_ne (tgt := 88) hx hb dX5_takeHead_71 (by decide) (fun c_308 => ?_) (fun c_308 => ?_)
              · rw [if_neg c_308] at hF
                refine lv_aload_n hx hb dX5_takeHead_88 rfl (lv_at hl 1 rfl) ?_
                refine lv_iload_n hx hb dX5_takeHead_89 rfl (lv_at hl 0 rfl) ?_
                refine lv_aload_n hx hb dX5_takeHead_90 rfl (lv_at hl 1 rfl) ?_
                refine cg_X5_52 hC hH dX5_takeHead_91 ?_
                obtain ⟨x_309, u_310, h_311, hF⟩ := ncl_some hF
                obtain ⟨e_312, rfl⟩ := nRF_eq h_311
                refine gx_ti e_312 ?_
                refine lv_iconst (v := 1) hx hb dX5_takeHead_94 (by decide) ?_
                refine lv_iadd hx hb dX5_takeHead_95 ?_
                obtain ⟨r_313, u_314, h_315, hF⟩ := ncl_some hF
                refine ccV_v (q0 := 3) (As := [.int 0, .int (x_309 + 1)]) (rest := []) hC hH (n_X5_goIf l G Z Q _ T u u_314 r_313 0 (x_309 + 1) _ h_315) rfl rfl ⟨wkc_X5_goIf, wka165, wka536, wka537, wka749⟩ kVX5_goIf ⟨Nat.le_of_ble_eq_true rfl, Nat.le_of_ble_eq_true rfl⟩ rfl hl.1 rfl (Nat.le_of_ble_eq_true rfl) dX5_takeHead_96 (fun D H locs hH => ?_)
                exact cr_v hC hH hr (nrt_eq hF) dX5_takeHead_99 hlocks
              · rw [if_pos c_308] at hF
                refine lv_aload_n hx hb dX5_takeHead_74 rfl (lv_at hl 1 rfl) ?_
                refine cg_X5_33 hC hH dX5_takeHead_75 ?_
                refine lv_aload_n hx hb dX5_takeHead_78 rfl (lv_at hl 1 rfl) ?_
                refine cg_X5_9 hC hH dX5_takeHead_79 ?_
                refine cg_X5_121 hC hH dX5_takeHead_82 ?_
                obtain ⟨x_316, u_317, h_318, hF⟩ := ncl_some hF
                obtain ⟨e_319, rfl⟩ := nRF_eq h_318
                refine gx_ti e_319 ?_
                obtain ⟨y_323, u_320, h_322, hF⟩ := ncl_some hF
                have e_321 := nWF_eq h_322
                refine cp_X5_127 hC hH e_321 dX5_takeHead_85 (fun H locs hH => ?_)
                refine lv_aload_n hx hb dX5_takeHead_88 rfl (lv_at hl 1 rfl) ?_
                refine lv_iload_n hx hb dX5_takeHead_89 rfl (lv_at hl 0 rfl) ?_
                refine lv_aload_n hx hb dX5_takeHead_90 rfl (lv_at hl 1 rfl) ?_
                refine cg_X5_52 hC hH dX5_takeHead_91 ?_
                obtain ⟨x_324, u_325, h_326, hF⟩ := ncl_some hF
                obtain ⟨e_327, rfl⟩ := nRF_eq h_326
                refine gx_ti e_327 ?_
                refine lv_iconst (v := 1) hx hb dX5_takeHead_94 (by decide) ?_
                refine lv_iadd hx hb dX5_takeHead_95 ?_
                obtain ⟨r_328, u_329, h_330, hF⟩ := ncl_some hF
                refine ccV_v (q0 := 3) (As := [.int 0, .int (x_324 + 1)]) (rest := []) hC hH (n_X5_goIf l G Z Q _ T u_320 u_329 r_328 0 (x_324 + 1) _ h_330) rfl rfl ⟨wkc_X5_goIf, wka165, wka536, wka537, wka749⟩ kVX5_goIf ⟨Nat.le_of_ble_eq_true rfl, Nat.le_of_ble_eq_true rfl⟩ rfl hl.1 rfl (Nat.le_of_ble_eq_true rfl) dX5_takeHead_96 (fun D H locs hH => ?_)
                exact cr_v hC hH hr (nrt_eq hF) dX5_takeHead_99 hlocks
          · rw [if_pos c_295] at hF
            refine lv_aload_n hx hb dX5_takeHead_48 rfl (lv_at hl 1 rfl) ?_
            refine cg_X5_33 hC hH dX5_takeHead_49 ?_
            refine lv_aload_n hx hb dX5_takeHead_52 rfl (lv_at hl 1 rfl) ?_
            refine cg_X5_9 hC hH dX5_takeHead_53 ?_
            refine cg_X5_121 hC hH dX5_takeHead_56 ?_
            obtain ⟨x_331, u_332, h_333, hF⟩ := ncl_some hF
            obtain ⟨e_334, rfl⟩ := nRF_eq h_333
            refine gx_ti e_334 ?_
            obtain ⟨y_338, u_335, h_337, hF⟩ := ncl_some hF
            have e_336 := nWF_eq h_337
            refine cp_X5_124 hC hH e_336 dX5_takeHead_59 (fun H locs hH => ?_)
            refine lv_iload_n hx hb dX5_takeHead_62 rfl (lv_at hl 0 rfl) ?_
            refine lv_if_eq (tgt := 88) hx hb dX5_takeHead_63 (by decide) (fun c_339 => ?_) (fun c_339 => ?_)
            · rw [if_pos c_339] at hF
              refine lv_aload_n hx hb dX5_takeHead_88 rfl (lv_at hl 1 rfl) ?_
              refine lv_iload_n hx hb dX5_takeHead_89 rfl (lv_at hl 0 rfl) ?_
              refine lv_aload_n hx hb dX5_takeHead_90 rfl (lv_at hl 1 rfl) ?_
              refine cg_X5_52 hC hH dX5_takeHead_91 ?_
              obtain ⟨x_340, u_341, h_342, hF⟩ := ncl_some hF
              obtain ⟨e_343, rfl⟩ := nRF_eq h_342
              refine gx_ti e_343 ?_
              refine lv_iconst (v := 1) hx hb dX5_takeHead_94 (by decide) ?_
              refine lv_iadd hx hb dX5_takeHead_95 ?_
              obtain ⟨r_344, u_345, h_346, hF⟩ := ncl_some hF
              refine ccV_v (q0 := 3) (As := [.int 0, .int (x_340 + 1)]) (rest := []) hC hH (n_X5_goIf l G Z Q _ T u_335 u_345 r_344 0 (x_340 + 1) _ h_346) rfl rfl ⟨wkc_X5_goIf, wka165, wka536, wka537, wka749⟩ kVX5_goIf ⟨Nat.le_of_ble_eq_true rfl, Nat.le_of_ble_eq_true rfl⟩ rfl hl.1 rfl (Nat.le_of_ble_eq_true rfl) dX5_takeHead_96 (fun D H locs hH => ?_)
              exact cr_v hC hH hr (nrt_eq hF) dX5_takeHead_99 hlocks
            · rw [if_neg c_339] at hF
              refine lv_aload_n hx hb dX5_takeHead_66 rfl (lv_at hl 1 rfl) ?_
              refine cg_X5_52 hC hH dX5_takeHead_67 ?_
              obtain ⟨x_347, u_348, h_349, hF⟩ := ncl_some hF
              obtain ⟨e_350, rfl⟩ := nRF_eq h_349
              refine gx_ti e_350 ?_
              refine lv_iconst (v := 4) hx hb dX5_takeHead_70 (by decide) ?_
              refine lv_icmp_ne (tgt := 88) hx hb dX5_takeHead_71 (by decide) (fun c_351 => ?_) (fun c_351 => ?_)
              · rw [if_neg c_351] at hF
                refine lv_aload_n hx hb dX5_takeHead_88 rfl (lv_at hl 1 rfl) ?_
                refine lv_iload_n hx hb dX5_takeHead_89 rfl (lv_at hl 0 rfl) ?_
                refine lv_aload_n hx hb dX5_takeHead_90 rfl (lv_at hl 1 rfl) ?_
                refine cg_X5_52 hC hH dX5_takeHead_91 ?_
                obtain ⟨x_352, u_353, h_354, hF⟩ := ncl_some hF
                obtain ⟨e_355, rfl⟩ := nRF_eq h_354
                refine gx_ti e_355 ?_
                refine lv_iconst (v := 1) hx hb dX5_takeHead_94 (by decide) ?_
                refine lv_iadd hx hb dX5_takeHead_95 ?_
                obtain ⟨r_356, u_357, h_358, hF⟩ := ncl_some hF
                refine ccV_v (q0 := 3) (As := [.int 0, .int (x_352 + 1)]) (rest := []) hC hH (n_X5_goIf l G Z Q _ T u_335 u_357 r_356 0 (x_352 + 1) _ h_358) rfl rfl ⟨wkc_X5_goIf, wka165, wka536, wka537, wka749⟩ kVX5_goIf ⟨Nat.le_of_ble_eq_true rfl, Nat.le_of_ble_eq_true rfl⟩ rfl hl.1 rfl (Nat.le_of_ble_eq_true rfl) dX5_takeHead_96 (fun D H locs hH => ?_)
                exact cr_v hC hH hr (nrt_eq hF) dX5_takeHead_99 hlocks
              · rw [if_pos c_351] at hF
                refine lv_aload_n hx hb dX5_takeHead_74 rfl (lv_at hl 1 rfl) ?_
                refine cg_X5_33 hC hH dX5_takeHead_75 ?_
                refine lv_aload_n hx hb dX5_takeHead_78 rfl (lv_at hl 1 rfl) ?_
                refine cg_X5_9 hC hH dX5_takeHead_79 ?_
                refine cg_X5_121 hC hH dX5_takeHead_82 ?_
                obtain ⟨x_359, u_360, h_361, hF⟩ := ncl_some hF
                obtain ⟨e_362, rfl⟩ := nRF_eq h_361
                refine gx_ti e_362 ?_
                obtain ⟨y_366, u_363, h_365, hF⟩ := ncl_some hF
                have e_364 := nWF_eq h_365
                refine cp_X5_127 hC hH e_364 dX5_takeHead_85 (fun H locs hH => ?_)
                refine lv_aload_n hx hb dX5_takeHead_88 rfl (lv_at hl 1 rfl) ?_
                refine lv_iload_n hx hb dX5_takeHead_89 rfl (lv_at hl 0 rfl) ?_
                refine lv_aload_n hx hb dX5_takeHead_90 rfl (lv_at hl 1 rfl) ?_
                refine cg_X5_52 hC hH dX5_takeHead_91 ?_
                obtain ⟨x_367, u_368, h_369, hF⟩ := ncl_some hF
                obtain ⟨e_370, rfl⟩ := nRF_eq h_369
                refine gx_ti e_370 ?_
                refine lv_iconst (v := 1) hx hb dX5_takeHead_94 (by decide) ?_
                refine lv_iadd hx hb dX5_takeHead_95 ?_
                obtain ⟨r_371, u_372, h_373, hF⟩ := ncl_some hF
                refine ccV_v (q0 := 3) (As := [.int 0, .int (x_367 + 1)]) (rest := []) hC hH (n_X5_goIf l G Z Q _ T u_363 u_372 r_371 0 (x_367 + 1) _ h_373) rfl rfl ⟨wkc_X5_goIf, wka165, wka536, wka537, wka749⟩ kVX5_goIf ⟨Nat.le_of_ble_eq_true rfl, Nat.le_of_ble_eq_true rfl⟩ rfl hl.1 rfl (Nat.le_of_ble_eq_true rfl) dX5_takeHead_96 (fun D H locs hH => ?_)
                exact cr_v hC hH hr (nrt_eq hF) dX5_takeHead_99 hlocks
      · rw [if_pos c_254] at hF
        refine lv_iconst (v := 1) hx hb dX5_takeHead_30 (by decide) ?_
        refine lv_goto (tgt := 35) hx hb dX5_takeHead_31 (by decide) ?_
        refine lv_istore_n (lv' := [(2, .int 1), (0, .ref (Q 3)), (1, .int a0)]) hx hb dX5_takeHead_35 rfl hl (by decide) rfl (fun ls hl => ?_)
        refine lv_iload_n hx hb dX5_takeHead_36 rfl (lv_at hl 0 rfl) ?_
        refine lv_if_eq (tgt := 62) hx hb dX5_takeHead_37 (by decide) (fun c_374 => ?_) (fun c_374 => ?_)
        · rw [if_pos c_374] at hF
          refine lv_iload_n hx hb dX5_takeHead_62 rfl (lv_at hl 0 rfl) ?_
          refine lv_if_eq (tgt := 88) hx hb dX5_takeHead_63 (by decide) (fun c_375 => ?_) (fun c_375 => ?_)
          · rw [if_pos c_375] at hF
            refine lv_aload_n hx hb dX5_takeHead_88 rfl (lv_at hl 1 rfl) ?_
            refine lv_iload_n hx hb dX5_takeHead_89 rfl (lv_at hl 0 rfl) ?_
            refine lv_aload_n hx hb dX5_takeHead_90 rfl (lv_at hl 1 rfl) ?_
            refine cg_X5_52 hC hH dX5_takeHead_91 ?_
            obtain ⟨x_376, u_377, h_378, hF⟩ := ncl_some hF
            obtain ⟨e_379, rfl⟩ := nRF_eq h_378
            refine gx_ti e_379 ?_
            refine lv_iconst (v := 1) hx hb dX5_takeHead_94 (by decide) ?_
            refine lv_iadd hx hb dX5_takeHead_95 ?_
            obtain ⟨r_380, u_381, h_382, hF⟩ := ncl_some hF
            refine ccV_v (q0 := 3) (As := [.int 1, .int (x_376 + 1)]) (rest := []) hC hH (n_X5_goIf l G Z Q _ T u u_381 r_380 1 (x_376 + 1) _ h_382) rfl rfl ⟨wkc_X5_goIf, wka165, wka536, wka537, wka749⟩ kVX5_goIf ⟨Nat.le_of_ble_eq_true rfl, Nat.le_of_ble_eq_true rfl⟩ rfl hl.1 rfl (Nat.le_of_ble_eq_true rfl) dX5_takeHead_96 (fun D H locs hH => ?_)
            exact cr_v hC hH hr (nrt_eq hF) dX5_takeHead_99 hlocks
          · rw [if_neg c_375] at hF
            refine lv_aload_n hx hb dX5_takeHead_66 rfl (lv_at hl 1 rfl) ?_
            refine cg_X5_52 hC hH dX5_takeHead_67 ?_
            obtain ⟨x_383, u_384, h_385, hF⟩ := ncl_some hF
            obtain ⟨e_386, rfl⟩ := nRF_eq h_385
            refine gx_ti e_386 ?_
            refine lv_iconst (v := 4) hx hb dX5_takeHead_70 (by decide) ?_
            refine lv_icmp_ne (tgt := 88) hx hb dX5_takeHead_71 (by decide) (fun c_387 => ?_) (fun c_387 => ?_)
            · rw [if_neg c_387] at hF
              refine lv_aload_n hx hb dX5_takeHead_88 rfl (lv_at hl 1 rfl) ?_
              refine lv_iload_n hx hb dX5_takeHead_89 rfl (lv_at hl 0 rfl) ?_
              refine lv_aload_n hx hb dX5_takeHead_90 rfl (lv_at hl 1 rfl) ?_
              refine cg_X5_52 hC hH dX5_takeHead_91 ?_
              obtain ⟨x_388, u_389, h_390, hF⟩ := ncl_some hF
              obtain ⟨e_391, rfl⟩ := nRF_eq h_390
              refine gx_ti e_391 ?_
              refine lv_iconst (v := 1) hx hb dX5_takeHead_94 (by decide) ?_
              refine lv_iadd hx hb dX5_takeHead_95 ?_
              obtain ⟨r_392, u_393, h_394, hF⟩ := ncl_some hF
              refine ccV_v (q0 := 3) (As := [.int 1, .int (x_388 + 1)]) (rest := []) hC hH (n_X5_goIf l G Z Q _ T u u_393 r_392 1 (x_388 + 1) _ h_394) rfl rfl ⟨wkc_X5_goIf, wka165, wka536, wka537, wka749⟩ kVX5_goIf ⟨Nat.le_of_ble_eq_true rfl, Nat.le_of_ble_eq_true rfl⟩ rfl hl.1 rfl (Nat.le_of_ble_eq_true rfl) dX5_takeHead_96 (fun D H locs hH => ?_)
              exact cr_v hC hH hr (nrt_eq hF) dX5_takeHead_99 hlocks
            · rw [if_pos c_387] at hF
              refine lv_aload_n hx hb dX5_takeHead_74 rfl (lv_at hl 1 rfl) ?_
              refine cg_X5_33 hC hH dX5_takeHead_75 ?_
              refine lv_aload_n hx hb dX5_takeHead_78 rfl (lv_at hl 1 rfl) ?_
              refine cg_X5_9 hC hH dX5_takeHead_79 ?_
              refine cg_X5_121 hC hH dX5_takeHead_82 ?_
              obtain ⟨x_395, u_396, h_397, hF⟩ := ncl_some hF
              obtain ⟨e_398, rfl⟩ := nRF_eq h_397
              refine gx_ti e_398 ?_
              obtain ⟨y_402, u_399, h_401, hF⟩ := ncl_some hF
              have e_400 := nWF_eq h_401
              refine cp_X5_127 hC hH e_400 dX5_takeHead_85 (fun H locs hH => ?_)
              refine lv_aload_n hx hb dX5_takeHead_88 rfl (lv_at hl 1 rfl) ?_
              refine lv_iload_n hx hb dX5_takeHead_89 rfl (lv_at hl 0 rfl) ?_
              refine lv_aload_n hx hb dX5_takeHead_90 rfl (lv_at hl 1 rfl) ?_
              refine cg_X5_52 hC hH dX5_takeHead_91 ?_
              obtain ⟨x_403, u_404, h_405, hF⟩ := ncl_some hF
              obtain ⟨e_406, rfl⟩ := nRF_eq h_405
              refine gx_ti e_406 ?_
              refine lv_iconst (v := 1) hx hb dX5_takeHead_94 (by decide) ?_
              refine lv_iadd hx hb dX5_takeHead_95 ?_
              obtain ⟨r_407, u_408, h_409, hF⟩ := ncl_some hF
              refine ccV_v (q0 := 3) (As := [.int 1, .int (x_403 + 1)]) (rest := []) hC hH (n_X5_goIf l G Z Q _ T u_399 u_408 r_407 1 (x_403 + 1) _ h_409) rfl rfl ⟨wkc_X5_goIf, wka165, wka536, wka537, wka749⟩ kVX5_goIf ⟨Nat.le_of_ble_eq_true rfl, Nat.le_of_ble_eq_true rfl⟩ rfl hl.1 rfl (Nat.le_of_ble_eq_true rfl) dX5_takeHead_96 (fun D H locs hH => ?_)
              exact cr_v hC hH hr (nrt_eq hF) dX5_takeHead_99 hlocks
        · rw [if_neg c_374] at hF
          refine lv_aload_n hx hb dX5_takeHead_40 rfl (lv_at hl 1 rfl) ?_
          refine cg_X5_52 hC hH dX5_takeHead_41 ?_
          obtain ⟨x_410, u_411, h_412, hF⟩ := ncl_some hF
          obtain ⟨e_413, rfl⟩ := nRF_eq h_412
          refine gx_ti e_413 ?_
          refine lv_iconst (v := 1) hx hb dX5_takeHead_44 (by decide) ?_
          refine lv_icmp_ne (tgt := 62) hx hb dX5_takeHead_45 (by decide) (fun c_414 => ?_) (fun c_414 => ?_)
          · rw [if_neg c_414] at hF
            refine lv_iload_n hx hb dX5_takeHead_62 rfl (lv_at hl 0 rfl) ?_
            refine lv_if_eq (tgt := 88) hx hb dX5_takeHead_63 (by decide) (fun c_415 => ?_) (fun c_415 => ?_)
            · rw [if_pos c_415] at hF
              refine lv_aload_n hx hb dX5_takeHead_88 rfl (lv_at hl 1 rfl) ?_
              refine lv_iload_n hx hb dX5_takeHead_89 rfl (lv_at hl 0 rfl) ?_
              refine lv_aload_n hx hb dX5_takeHead_90 rfl (lv_at hl 1 rfl) ?_
              refine cg_X5_52 hC hH dX5_takeHead_91 ?_
              obtain ⟨x_416, u_417, h_418, hF⟩ := ncl_some hF
              obtain ⟨e_419, rfl⟩ := nRF_eq h_418
              refine gx_ti e_419 ?_
              refine lv_iconst (v := 1) hx hb dX5_takeHead_94 (by decide) ?_
              refine lv_iadd hx hb dX5_takeHead_95 ?_
              obtain ⟨r_420, u_421, h_422, hF⟩ := ncl_some hF
              refine ccV_v (q0 := 3) (As := [.int 1, .int (x_416 + 1)]) (rest := []) hC hH (n_X5_goIf l G Z Q _ T u u_421 r_420 1 (x_416 + 1) _ h_422) rfl rfl ⟨wkc_X5_goIf, wka165, wka536, wka537, wka749⟩ kVX5_goIf ⟨Nat.le_of_ble_eq_true rfl, Nat.le_of_ble_eq_true rfl⟩ rfl hl.1 rfl (Nat.le_of_ble_eq_true rfl) dX5_takeHead_96 (fun D H locs hH => ?_)
              exact cr_v hC hH hr (nrt_eq hF) dX5_takeHead_99 hlocks
            · rw [if_neg c_415] at hF
              refine lv_aload_n hx hb dX5_takeHead_66 rfl (lv_at hl 1 rfl) ?_
              refine cg_X5_52 hC hH dX5_takeHead_67 ?_
              obtain ⟨x_423, u_424, h_425, hF⟩ := ncl_some hF
              obtain ⟨e_426, rfl⟩ := nRF_eq h_425
              refine gx_ti e_426 ?_
              refine lv_iconst (v := 4) hx hb dX5_takeHead_70 (by decide) ?_
              refine lv_icmp_ne (tgt := 88) hx hb dX5_takeHead_71 (by decide) (fun c_427 => ?_) (fun c_427 => ?_)
              · rw [if_neg c_427] at hF
                refine lv_aload_n hx hb dX5_takeHead_88 rfl (lv_at hl 1 rfl) ?_
                refine lv_iload_n hx hb dX5_takeHead_89 rfl (lv_at hl 0 rfl) ?_
                refine lv_aload_n hx hb dX5_takeHead_90 rfl (lv_at hl 1 rfl) ?_
                refine cg_X5_52 hC hH dX5_takeHead_91 ?_
                obtain ⟨x_428, u_429, h_430, hF⟩ := ncl_some hF
                obtain ⟨e_431, rfl⟩ := nRF_eq h_430
                refine gx_ti e_431 ?_
                refine lv_iconst (v := 1) hx hb dX5_takeHead_94 (by decide) ?_
                refine lv_iadd hx hb dX5_takeHead_95 ?_
                obtain ⟨r_432, u_433, h_434, hF⟩ := ncl_some hF
                refine ccV_v (q0 := 3) (As := [.int 1, .int (x_428 + 1)]) (rest := []) hC hH (n_X5_goIf l G Z Q _ T u u_433 r_432 1 (x_428 + 1) _ h_434) rfl rfl ⟨wkc_X5_goIf, wka165, wka536, wka537, wka749⟩ kVX5_goIf ⟨Nat.le_of_ble_eq_true rfl, Nat.le_of_ble_eq_true rfl⟩ rfl hl.1 rfl (Nat.le_of_ble_eq_true rfl) dX5_takeHead_96 (fun D H locs hH => ?_)
                exact cr_v hC hH hr (nrt_eq hF) dX5_takeHead_99 hlocks
              · rw [if_pos c_427] at hF
                refine lv_aload_n hx hb dX5_takeHead_74 rfl (lv_at hl 1 rfl) ?_
                refine cg_X5_33 hC hH dX5_takeHead_75 ?_
                refine lv_aload_n hx hb dX5_takeHead_78 rfl (lv_at hl 1 rfl) ?_
                refine cg_X5_9 hC hH dX5_takeHead_79 ?_
                refine cg_X5_121 hC hH dX5_takeHead_82 ?_
                obtain ⟨x_435, u_436, h_437, hF⟩ := ncl_some hF
                obtain ⟨e_438, rfl⟩ := nRF_eq h_437
                refine gx_ti e_438 ?_
                obtain ⟨y_442, u_439, h_441, hF⟩ := ncl_some hF
                have e_440 := nWF_eq h_441
                refine cp_X5_127 hC hH e_440 dX5_takeHead_85 (fun H locs hH => ?_)
                refine lv_aload_n hx hb dX5_takeHead_88 rfl (lv_at hl 1 rfl) ?_
                refine lv_iload_n hx hb dX5_takeHead_89 rfl (lv_at hl 0 rfl) ?_
                refine lv_aload_n hx hb dX5_takeHead_90 rfl (lv_at hl 1 rfl) ?_
                refine cg_X5_52 hC hH dX5_takeHead_91 ?_
                obtain ⟨x_443, u_444, h_445, hF⟩ := ncl_some hF
                obtain ⟨e_446, rfl⟩ := nRF_eq h_445
                refine gx_ti e_446 ?_
                refine lv_iconst (v := 1) hx hb dX5_takeHead_94 (by decide) ?_
                refine lv_iadd hx hb dX5_takeHead_95 ?_
                obtain ⟨r_447, u_448, h_449, hF⟩ := ncl_some hF
                refine ccV_v (q0 := 3) (As := [.int 1, .int (x_443 + 1)]) (rest := []) hC hH (n_X5_goIf l G Z Q _ T u_439 u_448 r_447 1 (x_443 + 1) _ h_449) rfl rfl ⟨wkc_X5_goIf, wka165, wka536, wka537, wka749⟩ kVX5_goIf ⟨Nat.le_of_ble_eq_true rfl, Nat.le_of_ble_eq_true rfl⟩ rfl hl.1 rfl (Nat.le_of_ble_eq_true rfl) dX5_takeHead_96 (fun D H locs hH => ?_)
                exact cr_v hC hH hr (nrt_eq hF) dX5_takeHead_99 hlocks
          · rw [if_pos c_414] at hF
            refine lv_aload_n hx hb dX5_takeHead_48 rfl (lv_at hl 1 rfl) ?_
            refine cg_X5_33 hC hH dX5_takeHead_49 ?_
            refine lv_aload_n hx hb dX5_takeHead_52 rfl (lv_at hl 1 rfl) ?_
            refine cg_X5_9 hC hH dX5_takeHead_53 ?_
            refine cg_X5_121 hC hH dX5_takeHead_56 ?_
            obtain ⟨x_450, u_451, h_452, hF⟩ := ncl_some hF
            obtain ⟨e_453, rfl⟩ := nRF_eq h_452
            refine gx_ti e_453 ?_
            obtain ⟨y_457, u_454, h_456, hF⟩ := ncl_some hF
            have e_455 := nWF_eq h_456
            refine cp_X5_124 hC hH e_455 dX5_takeHead_59 (fun H locs hH => ?_)
            refine lv_iload_n hx hb dX5_takeHead_62 rfl (lv_at hl 0 rfl) ?_
            refine lv_if_eq (tgt := 88) hx hb dX5_takeHead_63 (by decide) (fun c_458 => ?_) (fun c_458 => ?_)
            · rw [if_pos c_458] at hF
              refine lv_aload_n hx hb dX5_takeHead_88 rfl (lv_at hl 1 rfl) ?_
              refine lv_iload_n hx hb dX5_takeHead_89 rfl (lv_at hl 0 rfl) ?_
              refine lv_aload_n hx hb dX5_takeHead_90 rfl (lv_at hl 1 rfl) ?_
              refine cg_X5_52 hC hH dX5_takeHead_91 ?_
              obtain ⟨x_459, u_460, h_461, hF⟩ := ncl_some hF
              obtain ⟨e_462, rfl⟩ := nRF_eq h_461
              refine gx_ti e_462 ?_
              refine lv_iconst (v := 1) hx hb dX5_takeHead_94 (by decide) ?_
              refine lv_iadd hx hb dX5_takeHead_95 ?_
              obtain ⟨r_463, u_464, h_465, hF⟩ := ncl_some hF
              refine ccV_v (q0 := 3) (As := [.int 1, .int (x_459 + 1)]) (rest := []) hC hH (n_X5_goIf l G Z Q _ T u_454 u_464 r_463 1 (x_459 + 1) _ h_465) rfl rfl ⟨wkc_X5_goIf, wka165, wka536, wka537, wka749⟩ kVX5_goIf ⟨Nat.le_of_ble_eq_true rfl, Nat.le_of_ble_eq_true rfl⟩ rfl hl.1 rfl (Nat.le_of_ble_eq_true rfl) dX5_takeHead_96 (fun D H locs hH => ?_)
              exact cr_v hC hH hr (nrt_eq hF) dX5_takeHead_99 hlocks
            · rw [if_neg c_458] at hF
              refine lv_aload_n hx hb dX5_takeHead_66 rfl (lv_at hl 1 rfl) ?_
              refine cg_X5_52 hC hH dX5_takeHead_67 ?_
              obtain ⟨x_466, u_467, h_468, hF⟩ := ncl_some hF
              obtain ⟨e_469, rfl⟩ := nRF_eq h_468
              refine gx_ti e_469 ?_
              refine lv_iconst (v := 4) hx hb dX5_takeHead_70 (by decide) ?_
              refine lv_icmp_ne (tgt := 88) hx hb dX5_takeHead_71 (by decide) (fun c_470 => ?_) (fun c_470 => ?_)
              · rw [if_neg c_470] at hF
                refine lv_aload_n hx hb dX5_takeHead_88 rfl (lv_at hl 1 rfl) ?_
                refine lv_iload_n hx hb dX5_takeHead_89 rfl (lv_at hl 0 rfl) ?_
                refine lv_aload_n hx hb dX5_takeHead_90 rfl (lv_at hl 1 rfl) ?_
                refine cg_X5_52 hC hH dX5_takeHead_91 ?_
                obtain ⟨x_471, u_472, h_473, hF⟩ := ncl_some hF
                obtain ⟨e_474, rfl⟩ := nRF_eq h_473
                refine gx_ti e_474 ?_
                refine lv_iconst (v := 1) hx hb dX5_takeHead_94 (by decide) ?_
                refine lv_iadd hx hb dX5_takeHead_95 ?_
                obtain ⟨r_475, u_476, h_477, hF⟩ := ncl_some hF
                refine ccV_v (q0 := 3) (As := [.int 1, .int (x_471 + 1)]) (rest := []) hC hH (n_X5_goIf l G Z Q _ T u_454 u_476 r_475 1 (x_471 + 1) _ h_477) rfl rfl ⟨wkc_X5_goIf, wka165, wka536, wka537, wka749⟩ kVX5_goIf ⟨Nat.le_of_ble_eq_true rfl, Nat.le_of_ble_eq_true rfl⟩ rfl hl.1 rfl (Nat.le_of_ble_eq_true rfl) dX5_takeHead_96 (fun D H locs hH => ?_)
                exact cr_v hC hH hr (nrt_eq hF) dX5_takeHead_99 hlocks
              · rw [if_pos c_470] at hF
                refine lv_aload_n hx hb dX5_takeHead_74 rfl (lv_at hl 1 rfl) ?_
                refine cg_X5_33 hC hH dX5_takeHead_75 ?_
                refine lv_aload_n hx hb dX5_takeHead_78 rfl (lv_at hl 1 rfl) ?_
                refine cg_X5_9 hC hH dX5_takeHead_79 ?_
                refine cg_X5_121 hC hH dX5_takeHead_82 ?_
                obtain ⟨x_478, u_479, h_480, hF⟩ := ncl_some hF
                obtain ⟨e_481, rfl⟩ := nRF_eq h_480
                refine gx_ti e_481 ?_
                obtain ⟨y_485, u_482, h_484, hF⟩ := ncl_some hF
                have e_483 := nWF_eq h_484
                refine cp_X5_127 hC hH e_483 dX5_takeHead_85 (fun H locs hH => ?_)
                refine lv_aload_n hx hb dX5_takeHead_88 rfl (lv_at hl 1 rfl) ?_
                refine lv_iload_n hx hb dX5_takeHead_89 rfl (lv_at hl 0 rfl) ?_
                refine lv_aload_n hx hb dX5_takeHead_90 rfl (lv_at hl 1 rfl) ?_
                refine cg_X5_52 hC hH dX5_takeHead_91 ?_
                obtain ⟨x_486, u_487, h_488, hF⟩ := ncl_some hF
                obtain ⟨e_489, rfl⟩ := nRF_eq h_488
                refine gx_ti e_489 ?_
                refine lv_iconst (v := 1) hx hb dX5_takeHead_94 (by decide) ?_
                refine lv_iadd hx hb dX5_takeHead_95 ?_
                obtain ⟨r_490, u_491, h_492, hF⟩ := ncl_some hF
                refine ccV_v (q0 := 3) (As := [.int 1, .int (x_486 + 1)]) (rest := []) hC hH (n_X5_goIf l G Z Q _ T u_482 u_491 r_490 1 (x_486 + 1) _ h_492) rfl rfl ⟨wkc_X5_goIf, wka165, wka536, wka537, wka749⟩ kVX5_goIf ⟨Nat.le_of_ble_eq_true rfl, Nat.le_of_ble_eq_true rfl⟩ rfl hl.1 rfl (Nat.le_of_ble_eq_true rfl) dX5_takeHead_96 (fun D H locs hH => ?_)
                exact cr_v hC hH hr (nrt_eq hF) dX5_takeHead_99 hlocks

