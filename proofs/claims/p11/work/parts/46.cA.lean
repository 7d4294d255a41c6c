def x_X1_put (a0 : Int32) (a1 : Int32) : AG Int32 := anl (nGT 0 2088 a0) (fun x_1 => (if x_1 = a1 then art 0 else anl (nRF 0) (fun x_6 => acl (x_room 60 1 x_6) (fun r_10 => anl (nRF 0) (fun x_19 => acl (x_room 65 2 x_19) (fun r_23 => anl (nRF 0) (fun x_32 => anl (nSD 1 60 x_32 a0) (fun _ => anl (nRF 0) (fun x_40 => anl (nSD 2 65 x_40 x_1) (fun _ => anl (nRF 0) (fun x_48 => anl (nWF 0 (x_48 + 1)) (fun _ => anl (nST 0 2088 a0 a1) (fun _ => art 0)))))))))))))
set_option maxHeartbeats 4000000 in
set_option maxRecDepth 100000 in
theorem n_X1_put (l : Launch) (G : gG) (Z : gC) (Q : Nat → Nat) (D : Nat × Nat) (T : va_W) (u u1 : MS) (r : Int32) (C1 C2 : Nat) (a0 : Int32) (a1 : Int32) (sz : Nat) (hF : x_X1_put a0 a1 u = some (r, u1, C1, C2)) : Met l yX1_put (Cond.code yX1_put cX1_put 4 none :: wK) { frames := 3, cells := C1, slots := C2, locals := 85 } (va_Pc [.ref (Q 1), .int a0, .int a1] (cPM G Z Q D T u sz)) (cQv G Q T u1 (va_A (cW G Q D T u) sz)) C1 C2 (va_A (cW G Q D T u) sz) := by
  refine Met.ofW (cc := cX1_put) (maxL := 4) (ret := none) (by decide) rfl ?_
  intro p e s m args below meth c s₁ B hml hv
  obtain ⟨rfl, rfl, hP, hB, hD0, hE⟩ := hv
  have hr := B.returns
  have hlocks := B.notSynchronized
  have hts := atoms_spec (ws := Cond.code yX1_put cX1_put 4 none :: wK) B.pre
  have hD := hD0.self (sz := s.heap.size)
  have hA : ∀ q : Nat, s.heap.size ≤ q → va_A (cW G Q D T u) s.heap.size q := fun q h => Or.inr h
  generalize va_A (cW G Q D T u) s.heap.size = A at hD hA hE ⊢
  have hC : cX p c cX1_put 4 s m _ RX1 G Z A := ⟨B.exec, B.bytes, hml, findClass_of_methodNamed B.named, fun w h => hts w (List.mem_cons_of_mem _ h), hB, hE, hA⟩
  have hx := hC.1
  have hb := hC.2.1
  have hH : cH G Q D T A u s s.heap [] := ⟨hP, hD, va_S.rf⟩
  generalize hK1 : C1 = K1
  generalize hK2 : C2 = K2
  have hk1 : K1 = 0 + C1 := by omega
  have hk2 : K2 = 0 + C2 := by omega
  have hl := lv_entry ([.ref (Q 1), .int a0, .int a1]) (n := 4) (Nat.le_of_ble_eq_true rfl)
  rw [lg_entry_eq]
  generalize (lg_sl ([.ref (Q 1), .int a0, .int a1]) ++ List.replicate (4 - (lg_sl ([.ref (Q 1), .int a0, .int a1])).length) Slot.unset).toArray = ls at hl ⊢
  have hl : lv_has ls 4 [(0, .ref (Q 1)), (1, .int a0), (2, .int a1)] := hl
  unfold x_X1_put at hF
  refine lv_aload_n hx hb dX1_put_0 rfl (lv_at hl 0 rfl) ?_
  refine lv_iload_n hx hb dX1_put_1 rfl (lv_at hl 1 rfl) ?_
  refine bat (i := 1) (j := 11) hC hH rfl rfl (by decide) wka202 ⟨Nat.le_of_ble_eq_true rfl, Nat.le_of_ble_eq_true rfl⟩ hl.1 (Nat.le_of_ble_eq_true rfl) ⟨by show _ ≤ K1; omega, by show _ ≤ K2; omega⟩ dX1_put_2 ?_
  obtain ⟨x_1, u_2, h_3, hF⟩ := anl_some hF
  obtain ⟨e_4, rfl⟩ := nGT_eq h_3
  refine gx_ti e_4 ?_
  refine lv_istore_n (lv' := [(3, .int x_1), (0, .ref (Q 1)), (1, .int a0), (2, .int a1)]) hx hb dX1_put_5 rfl hl (by decide) rfl (fun ls hl => ?_)
  refine lv_iload_n hx hb dX1_put_6 rfl (lv_at hl 0 rfl) ?_
  refine lv_iload_n hx hb dX1_put_7 rfl (lv_at hl 3 rfl) ?_
  refine lv_icmp_ne (tgt := 12) hx hb dX1_put_8 (by decide) (fun c_5 => ?_) (fun c_5 => ?_)
  · rw [if_neg c_5] at hF
    refine lv_aload_n hx hb dX1_put_12 rfl (lv_at hl 1 rfl) ?_
    refine cg_X1_22 hC hH dX1_put_13 ?_
    refine lv_aload_n hx hb dX1_put_16 rfl (lv_at hl 1 rfl) ?_
    refine cg_X1_50 hC hH dX1_put_17 ?_
    obtain ⟨x_6, u_7, h_8, hF⟩ := anl_some hF
    obtain ⟨e_9, rfl⟩ := nRF_eq h_8
    refine gx_ti e_9 ?_
    obtain ⟨r_10, u_11, k_13, k_14, k_15, k_16, h_12, hF, e_17, e_18⟩ := acl_some hF
    refine mroom_0 (rest := []) hC hH h_12 wka203 ⟨Nat.le_of_ble_eq_true rfl, Nat.le_of_ble_eq_true rfl⟩ hl.1 (Nat.le_of_ble_eq_true rfl) ⟨by show _ ≤ K1; omega, by show _ ≤ K2; omega⟩ dX1_put_20 (fun D H locs hH => ?_)
    have hk1 := (hk1.trans (congrArg (_ + ·) e_17)).trans (Nat.add_assoc _ _ _).symm
    have hk2 := (hk2.trans (congrArg (_ + ·) e_18)).trans (Nat.add_assoc _ _ _).symm
    refine lv_aload_n hx hb dX1_put_23 rfl (lv_at hl 1 rfl) ?_
    refine cg_X1_26 hC hH dX1_put_24 ?_
    refine lv_aload_n hx hb dX1_put_27 rfl (lv_at hl 1 rfl) ?_
    refine cg_X1_50 hC hH dX1_put_28 ?_
    obtain ⟨x_19, u_20, h_21, hF⟩ := anl_some hF
    obtain ⟨e_22, rfl⟩ := nRF_eq h_21
    refine gx_ti e_22 ?_
    obtain ⟨r_23, u_24, k_26, k_27, k_28, k_29, h_25, hF, e_30, e_31⟩ := acl_some hF
    refine mroom_1 (rest := []) hC hH h_25 wka203 ⟨Nat.le_of_ble_eq_true rfl, Nat.le_of_ble_eq_true rfl⟩ hl.1 (Nat.le_of_ble_eq_true rfl) ⟨by show _ ≤ K1; omega, by show _ ≤ K2; omega⟩ dX1_put_31 (fun D H locs hH => ?_)
    have hk1 := (hk1.trans (congrArg (_ + ·) e_30)).trans (Nat.add_assoc _ _ _).symm
    have hk2 := (hk2.trans (congrArg (_ + ·) e_31)).trans (Nat.add_assoc _ _ _).symm
    refine lv_aload_n hx hb dX1_put_34 rfl (lv_at hl 1 rfl) ?_
    refine cg_X1_22 hC hH dX1_put_35 ?_
    refine lv_aload_n hx hb dX1_put_38 rfl (lv_at hl 1 rfl) ?_
    refine cg_X1_50 hC hH dX1_put_39 ?_
    obtain ⟨x_32, u_33, h_34, hF⟩ := anl_some hF
    obtain ⟨e_35, rfl⟩ := nRF_eq h_34
    refine gx_ti e_35 ?_
    refine lv_iload_n hx hb dX1_put_42 rfl (lv_at hl 2 rfl) ?_
    obtain ⟨y_39, u_36, h_38, hF⟩ := anl_some hF
    have e_37 := nSD_eq h_38
    refine rs_0 hC hH e_37 wka194 ⟨Nat.le_of_ble_eq_true rfl, Nat.le_of_ble_eq_true rfl⟩ hl.1 (Nat.le_of_ble_eq_true rfl) ⟨by show _ ≤ K1; omega, by show _ ≤ K2; omega⟩ dX1_put_43 (fun H locs hH => ?_)
    refine lv_aload_n hx hb dX1_put_46 rfl (lv_at hl 1 rfl) ?_
    refine cg_X1_26 hC hH dX1_put_47 ?_
    refine lv_aload_n hx hb dX1_put_50 rfl (lv_at hl 1 rfl) ?_
    refine cg_X1_50 hC hH dX1_put_51 ?_
    obtain ⟨x_40, u_41, h_42, hF⟩ := anl_some hF
    obtain ⟨e_43, rfl⟩ := nRF_eq h_42
    refine gx_ti e_43 ?_
    refine lv_iload_n hx hb dX1_put_54 rfl (lv_at hl 0 rfl) ?_
    obtain ⟨y_47, u_44, h_46, hF⟩ := anl_some hF
    have e_45 := nSD_eq h_46
    refine rs_1 hC hH e_45 wka194 ⟨Nat.le_of_ble_eq_true rfl, Nat.le_of_ble_eq_true rfl⟩ hl.1 (Nat.le_of_ble_eq_true rfl) ⟨by show _ ≤ K1; omega, by show _ ≤ K2; omega⟩ dX1_put_55 (fun H locs hH => ?_)
    refine lv_aload_n hx hb dX1_put_58 rfl (lv_at hl 1 rfl) ?_
    refine lv_dup hx hb dX1_put_59 rfl ?_
    refine cg_X1_50 hC hH dX1_put_60 ?_
    obtain ⟨x_48, u_49, h_50, hF⟩ := anl_some hF
    obtain ⟨e_51, rfl⟩ := nRF_eq h_50
    refine gx_ti e_51 ?_
    refine lv_iconst (v := 1) hx hb dX1_put_63 (by decide) ?_
    refine lv_iadd hx hb dX1_put_64 ?_
    obtain ⟨y_55, u_52, h_54, hF⟩ := anl_some hF
    have e_53 := nWF_eq h_54
    refine cp_X1_50 hC hH e_53 dX1_put_65 (fun H locs hH => ?_)
    refine lv_aload_n hx hb dX1_put_68 rfl (lv_at hl 1 rfl) ?_
    refine lv_iload_n hx hb dX1_put_69 rfl (lv_at hl 2 rfl) ?_
    refine lv_iload_n hx hb dX1_put_70 rfl (lv_at hl 3 rfl) ?_
    obtain ⟨y_59, u_56, h_58, hF⟩ := anl_some hF
    have e_57 := nST_eq h_58
    refine blay (u1 := u_56) (i := 1) (j := 11) hC hH rfl rfl (by decide) (by rw [← e_57]; rfl) wka10 ⟨Nat.le_of_ble_eq_true rfl, Nat.le_of_ble_eq_true rfl⟩ hl.1 (Nat.le_of_ble_eq_true rfl) ⟨by show _ ≤ K1; omega, by show _ ≤ K2; omega⟩ dX1_put_71 (fun H locs hH => ?_)
    exact cr_vA hC hH hr (art_eq hF) (by omega) (by omega) dX1_put_74 hlocks
  · rw [if_pos c_5] at hF
    exact cr_vA hC hH hr (art_eq hF) (by omega) (by omega) dX1_put_11 hlocks
def x_X2_placeOne (a0 : Int32) (a1 : Int32) (a2 : Int32) : AG Int32 := anl (x_X1_ofClass a0 (4 + a2)) (fun r_1 => acl (x_X1_put r_1 a1) (fun r_4 => anl (x_X1_ofFighter a1 5) (fun r_13 => acl (x_X1_put r_13 a2) (fun r_16 => art 0))))
set_option maxHeartbeats 4000000 in
set_option maxRecDepth 100000 in
theorem n_X2_placeOne (l : Launch) (G : gG) (Z : gC) (Q : Nat → Nat) (D : Nat × Nat) (T : va_W) (u u1 : MS) (r : Int32) (C1 C2 : Nat) (a0 : Int32) (a1 : Int32) (a2 : Int32) (sz : Nat) (hF : x_X2_placeOne a0 a1 a2 u = some (r, u1, C1, C2)) : Met l yX2_placeOne (Cond.code yX2_placeOne cX2_placeOne 4 none :: wK) { frames := 4, cells := C1, slots := C2, locals := 108 } (va_Pc [.ref (Q 5), .int a0, .int a1, .int a2] (cPM G Z Q D T u sz)) (cQv G Q T u1 (va_A (cW G Q D T u) sz)) C1 C2 (va_A (cW G Q D T u) sz) := by
  refine Met.ofW (cc := cX2_placeOne) (maxL := 4) (ret := none) (by decide) rfl ?_
  intro p e s m args below meth c s₁ B hml hv
  obtain ⟨rfl, rfl, hP, hB, hD0, hE⟩ := hv
  have hr := B.returns
  have hlocks := B.notSynchronized
  have hts := atoms_spec (ws := Cond.code yX2_placeOne cX2_placeOne 4 none :: wK) B.pre
  have hD := hD0.self (sz := s.heap.size)
  have hA : ∀ q : Nat, s.heap.size ≤ q → va_A (cW G Q D T u) s.heap.size q := fun q h => Or.inr h
  generalize va_A (cW G Q D T u) s.heap.size = A at hD hA hE ⊢
  have hC : cX p c cX2_placeOne 4 s m _ RX2 G Z A := ⟨B.exec, B.bytes, hml, findClass_of_methodNamed B.named, fun w h => hts w (List.mem_cons_of_mem _ h), hB, hE, hA⟩
  have hx := hC.1
  have hb := hC.2.1
  have hH : cH G Q D T A u s s.heap [] := ⟨hP, hD, va_S.rf⟩
  generalize hK1 : C1 = K1
  generalize hK2 : C2 = K2
  have hk1 : K1 = 0 + C1 := by omega
  have hk2 : K2 = 0 + C2 := by omega
  have hl := lv_entry ([.ref (Q 5), .int a0, .int a1, .int a2]) (n := 4) (Nat.le_of_ble_eq_true rfl)
  rw [lg_entry_eq]
  generalize (lg_sl ([.ref (Q 5), .int a0, .int a1, .int a2]) ++ List.replicate (4 - (lg_sl ([.ref (Q 5), .int a0, .int a1, .int a2])).length) Slot.unset).toArray = ls at hl ⊢
  have hl : lv_has ls 4 [(0, .ref (Q 5)), (1, .int a0), (2, .int a1), (3, .int a2)] := hl
  unfold x_X2_placeOne at hF
  refine lv_aload_n hx hb dX2_placeOne_0 rfl (lv_at hl 0 rfl) ?_
  refine cg_X2_9 hC hH dX2_placeOne_1 ?_
  refine lv_iload_n hx hb dX2_placeOne_4 rfl (lv_at hl 1 rfl) ?_
  refine lv_iconst (v := 4) hx hb dX2_placeOne_5 (by decide) ?_
  refine lv_iload_n hx hb dX2_placeOne_6 rfl (lv_at hl 3 rfl) ?_
  refine lv_iadd hx hb dX2_placeOne_7 ?_
  obtain ⟨r_1, u_2, h_3, hF⟩ := anl_some hF
  refine ccS_iB (As := [.int a0, .int (4 + a2)]) (rest := [.ref (Q 1)]) hC hH (n_X1_ofClass l G Z Q _ T u u_2 r_1 a0 (4 + a2) _ h_3) ⟨wkc_X1_ofClass, wka233, wka435, wka745⟩ kSX1_ofClass ⟨Nat.le_of_ble_eq_true rfl, Nat.le_of_ble_eq_true rfl⟩ ⟨by show _ ≤ K1; omega, by show _ ≤ K2; omega⟩ rfl hl.1 rfl (Nat.le_of_ble_eq_true rfl) dX2_placeOne_8 (fun D H locs hH => ?_)
  refine lv_iload_n hx hb dX2_placeOne_11 rfl (lv_at hl 2 rfl) ?_
  obtain ⟨r_4, u_5, k_7, k_8, k_9, k_10, h_6, hF, e_11, e_12⟩ := acl_some hF
  refine ccV_vA (q0 := 1) (As := [.int r_1, .int a1]) (rest := []) hC hH (n_X1_put l G Z Q _ T u_2 u_5 r_4 k_7 k_8 r_1 a1 _ h_6) rfl rfl ⟨wkc_X1_put, wka234, wka439, wka440, wka745⟩ kVX1_put ⟨Nat.le_of_ble_eq_true rfl, Nat.le_of_ble_eq_true rfl⟩ ⟨by show _ ≤ K1; omega, by show _ ≤ K2; omega⟩ rfl hl.1 rfl (Nat.le_of_ble_eq_true rfl) dX2_placeOne_12 (fun D H locs hH => ?_)
  have hk1 := (hk1.trans (congrArg (_ + ·) e_11)).trans (Nat.add_assoc _ _ _).symm
  have hk2 := (hk2.trans (congrArg (_ + ·) e_12)).trans (Nat.add_assoc _ _ _).symm
  refine lv_aload_n hx hb dX2_placeOne_15 rfl (lv_at hl 0 rfl) ?_
  refine cg_X2_9 hC hH dX2_placeOne_16 ?_
  refine lv_iload_n hx hb dX2_placeOne_19 rfl (lv_at hl 2 rfl) ?_
  refine lv_iconst (v := 5) hx hb dX2_placeOne_20 (by decide) ?_
  obtain ⟨r_13, u_14, h_15, hF⟩ := anl_some hF
  refine ccS_iB (As := [.int a1, .int 5]) (rest := [.ref (Q 1)]) hC hH (n_X1_ofFighter l G Z Q _ T u_5 u_14 r_13 a1 5 _ h_15) ⟨wkc_X1_ofFighter, wka239, wka436, wka745⟩ kSX1_ofFighter ⟨Nat.le_of_ble_eq_true rfl, Nat.le_of_ble_eq_true rfl⟩ ⟨by show _ ≤ K1; omega, by show _ ≤ K2; omega⟩ rfl hl.1 rfl (Nat.le_of_ble_eq_true rfl) dX2_placeOne_21 (fun D H locs hH => ?_)
  refine lv_iload_n hx hb dX2_placeOne_24 rfl (lv_at hl 3 rfl) ?_
  obtain ⟨r_16, u_17, k_19, k_20, k_21, k_22, h_18, hF, e_23, e_24⟩ := acl_some hF
  refine ccV_vA (q0 := 1) (As := [.int r_13, .int a2]) (rest := []) hC hH (n_X1_put l G Z Q _ T u_14 u_17 r_16 k_19 k_20 r_13 a2 _ h_18) rfl rfl ⟨wkc_X1_put, wka234, wka439, wka440, wka745⟩ kVX1_put ⟨Nat.le_of_ble_eq_true rfl, Nat.le_of_ble_eq_true rfl⟩ ⟨by show _ ≤ K1; omega, by show _ ≤ K2; omega⟩ rfl hl.1 rfl (Nat.le_of_ble_eq_true rfl) dX2_placeOne_25 (fun D H locs hH => ?_)
  have hk1 := (hk1.trans (congrArg (_ + ·) e_23)).trans (Nat.add_assoc _ _ _).symm
  have hk2 := (hk2.trans (congrArg (_ + ·) e_24)).trans (Nat.add_assoc _ _ _).symm
  exact cr_vA hC hH hr (art_eq hF) (by omega) (by omega) dX2_placeOne_28 hlocks
def xl_X2_placeSeeds_13 : Nat → Int32 → Int32 → Int32 → Int32 → (Int32 → Int32 → Int32 → Int32 → AG Int32) → AG Int32
  | 0, _, _, _, _, _ => fun _ => none
  | n13 + 1, v1, v2, v3, v4, K13_80 => anl (nGT 0 2088 2) (fun x_2 => (if x_2 ≤ v4 then K13_80 v1 v2 v3 v4 else anl (x_X8_isWeighed v4 v1) (fun r_7 => (if r_7 = 0 then ali (v4 + 1) (fun x_11 => xl_X2_placeSeeds_13 n13 v1 v2 v3 x_11 K13_80) else anl (x_X1_ofFighter v4 4) (fun r_13 => anl (nGT 0 2088 r_13) (fun x_16 => (if x_16 = v3 then anl (nGT 11 32 v2) (fun x_23 => acl (x_X2_placeOne v1 v4 x_23) (fun r_27 => ali (v2 + 1) (fun x_36 => ali (v4 + 1) (fun x_38 => xl_X2_placeSeeds_13 n13 v1 x_36 v3 x_38 K13_80)))) else ali (v4 + 1) (fun x_21 => xl_X2_placeSeeds_13 n13 v1 v2 v3 x_21 K13_80))))))))
def xl_X2_placeSeeds_4 : Nat → Int32 → Int32 → Int32 → (Int32 → Int32 → Int32 → AG Int32) → AG Int32
  | 0, _, _, _, _ => fun _ => none
  | n4 + 1, v1, v2, v3, K4_86 => (if 8 < v3 then K4_86 v1 v2 v3 else xl_X2_placeSeeds_13 fuel v1 v2 v3 0 (fun v1 v2 v3 v4 => ali (v3 + 1) (fun x_40 => xl_X2_placeSeeds_4 n4 v1 v2 x_40 K4_86)))
def x_X2_placeSeeds (a0 : Int32) : AG Int32 := xl_X2_placeSeeds_4 fuel a0 0 1 (fun v1 v2 v3 => art 0)
set_option maxHeartbeats 4000000 in
set_option maxRecDepth 100000 in
theorem n_X2_placeSeeds (l : Launch) (G : gG) (Z : gC) (Q : Nat → Nat) (D : Nat × Nat) (T : va_W) (u u1 : MS) (r : Int32) (C1 C2 : Nat) (a0 : Int32) (sz : Nat) (hF : x_X2_placeSeeds a0 u = some (r, u1, C1, C2)) : Met l yX2_placeSeeds (Cond.code yX2_placeSeeds cX2_placeSeeds 5 none :: wK) { frames := 5, cells := C1, slots := C2, locals := 131 } (va_Pc [.ref (Q 5), .int a0] (cPM G Z Q D T u sz)) (cQv G Q T u1 (va_A (cW G Q D T u) sz)) C1 C2 (va_A (cW G Q D T u) sz) := by
  refine Met.ofW (cc := cX2_placeSeeds) (maxL := 5) (ret := none) (by decide) rfl ?_
  intro p e s m args below meth c s₁ B hml hv
  obtain ⟨rfl, rfl, hP, hB, hD0, hE⟩ := hv
  have hr := B.returns
  have hlocks := B.notSynchronized
  have hts := atoms_spec (ws := Cond.code yX2_placeSeeds cX2_placeSeeds 5 none :: wK) B.pre
  have hD := hD0.self (sz := s.heap.size)
  have hA : ∀ q : Nat, s.heap.size ≤ q → va_A (cW G Q D T u) s.heap.size q := fun q h => Or.inr h
  generalize va_A (cW G Q D T u) s.heap.size = A at hD hA hE ⊢
  have hC : cX p c cX2_placeSeeds 5 s m _ RX2 G Z A := ⟨B.exec, B.bytes, hml, findClass_of_methodNamed B.named, fun w h => hts w (List.mem_cons_of_mem _ h), hB, hE, hA⟩
  have hx := hC.1
  have hb := hC.2.1
  have hH : cH G Q D T A u s s.heap [] := ⟨hP, hD, va_S.rf⟩
  generalize hK1 : C1 = K1
  generalize hK2 : C2 = K2
  have hk1 : K1 = 0 + C1 := by omega
  have hk2 : K2 = 0 + C2 := by omega
  have hl := lv_entry ([.ref (Q 5), .int a0]) (n := 5) (Nat.le_of_ble_eq_true rfl)
  rw [lg_entry_eq]
  generalize (lg_sl ([.ref (Q 5), .int a0]) ++ List.replicate (5 - (lg_sl ([.ref (Q 5), .int a0])).length) Slot.unset).toArray = ls at hl ⊢
  have hl : lv_has ls 5 [(0, .ref (Q 5)), (1, .int a0)] := hl
  unfold x_X2_placeSeeds at hF
  refine lv_iconst (v := 0) hx hb dX2_placeSeeds_0 (by decide) ?_
  refine lv_istore_n (lv' := [(2, .int 0), (0, .ref (Q 5)), (1, .int a0)]) hx hb dX2_placeSeeds_1 rfl hl (by decide) rfl (fun ls hl => ?_)
  refine lv_iconst (v := 1) hx hb dX2_placeSeeds_2 (by decide) ?_
  refine lv_istore_n (lv' := [(3, .int 1), (2, .int 0), (0, .ref (Q 5)), (1, .int a0)]) hx hb dX2_placeSeeds_3 rfl hl (by decide) rfl (fun ls hl => ?_)
  have hL4 : ∀ (K4_86 : Int32 → Int32 → Int32 → AG Int32), (∀ (v1 v2 v3 : Int32) (u : MS) (D : Nat × Nat) (H : Heap) (locs : List Loc) (ls : Array Slot) (cells slots C1 C2 : Nat), lv_has ls 5 [(0, .ref (Q 5)), (1, .int v1), (2, .int v2), (3, .int v3)] → cH G Q D T A u s H locs → K4_86 v1 v2 v3 u = some (r, u1, C1, C2) → K1 = cells + C1 → K2 = slots + C2 → W p l e (headSpec (Cond.code yX2_placeSeeds cX2_placeSeeds 5 none :: wK) { frames := 5, cells := K1, slots := K2, locals := 131 }).room s m [.ref (Q 5), .int a0].toArray below meth c H locs cells slots (MQ below (cQv G Q T u1 A) [.ref (Q 5), .int a0].toArray s K1 K2 A) (F0 m 86 ls [])) → ∀ (n4 : Nat) (v1 v2 v3 : Int32) (u : MS) (D : Nat × Nat) (H : Heap) (locs : List Loc) (ls : Array Slot) (cells slots C1 C2 : Nat), lv_has ls 5 [(0, .ref (Q 5)), (1, .int v1), (2, .int v2), (3, .int v3)] → cH G Q D T A u s H locs → xl_X2_placeSeeds_4 n4 v1 v2 v3 K4_86 u = some (r, u1, C1, C2) → K1 = cells + C1 → K2 = slots + C2 → W p l e (headSpec (Cond.code yX2_placeSeeds cX2_placeSeeds 5 none :: wK) { frames := 5, cells := K1, slots := K2, locals := 131 }).room s m [.ref (Q 5), .int a0].toArray below meth c H locs cells slots (MQ below (cQv G Q T u1 A) [.ref (Q 5), .int a0].toArray s K1 K2 A) (F0 m 4 ls []) := by
    intro K4_86 hK4_86 n4
    induction n4 with
    | zero => intro v1 v2 v3 u D H locs ls cells slots C1 C2 hl hH hF; cases hF
    | succ n4 ih4 =>
      intro v1 v2 v3 u D H locs ls cells slots C1 C2 hl hH hF hk1 hk2
      unfold xl_X2_placeSeeds_4 at hF
      refine lv_iload_n hx hb dX2_placeSeeds_4 rfl (lv_at hl 3 rfl) ?_
      refine lv_bipush (v := 8) hx hb dX2_placeSeeds_5 (by decide) ?_
      refine lv_icmp_gt (tgt := 86) hx hb dX2_placeSeeds_7 (by decide) (fun c_1 => ?_) (fun c_1 => ?_)
      · rw [if_pos c_1] at hF
        exact hK4_86 v1 v2 v3 u _ _ _ _ _ _ _ _ (lv_sub hl [0, 1, 2, 3] rfl) hH hF hk1 hk2
      · rw [if_neg c_1] at hF
        refine lv_iconst (v := 0) hx hb dX2_placeSeeds_10 (by decide) ?_
        refine lv_istore (lv' := [(4, .int 0), (0, .ref (Q 5)), (1, .int v1), (2, .int v2), (3, .int v3)]) hx hb dX2_placeSeeds_11 hl (by decide) rfl (fun ls hl => ?_)
        have hL13 : ∀ (K13_80 : Int32 → Int32 → Int32 → Int32 → AG Int32), (∀ (v1 v2 v3 v4 : Int32) (u : MS) (D : Nat × Nat) (H : Heap) (locs : List Loc) (ls : Array Slot) (cells slots C1 C2 : Nat), lv_has ls 5 [(0, .ref (Q 5)), (1, .int v1), (2, .int v2), (3, .int v3), (4, .int v4)] → cH G Q D T A u s H locs → K13_80 v1 v2 v3 v4 u = some (r, u1, C1, C2) → K1 = cells + C1 → K2 = slots + C2 → W p l e (headSpec (Cond.code yX2_placeSeeds cX2_placeSeeds 5 none :: wK) { frames := 5, cells := K1, slots := K2, locals := 131 }).room s m [.ref (Q 5), .int a0].toArray below meth c H locs cells slots (MQ below (cQv G Q T u1 A) [.ref (Q 5), .int a0].toArray s K1 K2 A) (F0 m 80 ls [])) → ∀ (n13 : Nat) (v1 v2 v3 v4 : Int32) (u : MS) (D : Nat × Nat) (H : Heap) (locs : List Loc) (ls : Array Slot) (cells slots C1 C2 : Nat), lv_has ls 5 [(0, .ref (Q 5)), (1, .int v1), (2, .int v2), (3, .int v3), (4, .int v4)] → cH G Q D T A u s H locs → xl_X2_placeSeeds_13 n13 v1 v2 v3 v4 K13_80 u = some (r, u1, C1, C2) → K1 = cells + C1 → K2 = slots + C2 → W p l e (headSpec (Cond.code yX2_placeSeeds cX2_placeSeeds 5 none :: wK) { frames := 5, cells := K1, slots := K2, locals := 131 }).room s m [.ref (Q 5), .int a0].toArray below meth c H locs cells slots (MQ below (cQv G Q T u1 A) [.ref (Q 5), .int a0].toArray s K1 K2 A) (F0 m 13 ls []) := by
          intro K13_80 hK13_80 n13
          induction n13 with
          | zero => intro v1 v2 v3 v4 u D H locs ls cells slots C1 C2 hl hH hF; cases hF
          | succ n13 ih13 =>
            intro v1 v2 v3 v4 u D H locs ls cells slots C1 C2 hl hH hF hk1 hk2
            unfold xl_X2_placeSeeds_13 at hF
            refine lv_iload hx hb dX2_placeSeeds_13 (lv_at hl 4 rfl) ?_
            refine lv_aload_n hx hb dX2_placeSeeds_15 rfl (lv_at hl 0 rfl) ?_
            refine cg_X2_9 hC hH dX2_placeSeeds_16 ?_
            refine lv_iconst (v := 2) hx hb dX2_placeSeeds_19 (by decide) ?_
            refine bat (i := 1) (j := 11) hC hH rfl rfl (by decide) wka236 ⟨Nat.le_of_ble_eq_true rfl, Nat.le_of_ble_eq_true rfl⟩ hl.1 (Nat.le_of_ble_eq_true rfl) ⟨by show _ ≤ K1; omega, by show _ ≤ K2; omega⟩ dX2_placeSeeds_20 ?_
            obtain ⟨x_2, u_3, h_4, hF⟩ := anl_some hF
            obtain ⟨e_5, rfl⟩ := nGT_eq h_4
            refine gx_ti e_5 ?_
            refine lv_icmp_ge (tgt := 80) hx hb dX2_placeSeeds_23 (by decide) (fun c_6 => ?_) (fun c_6 => ?_)
            · rw [if_pos c_6] at hF
              exact hK13_80 v1 v2 v3 v4 u _ _ _ _ _ _ _ _ (lv_sub hl [0, 1, 2, 3, 4] rfl) hH hF hk1 hk2
            · rw [if_neg c_6] at hF
              refine lv_aload_n hx hb dX2_placeSeeds_26 rfl (lv_at hl 0 rfl) ?_
              refine cg_X2_9 hC hH dX2_placeSeeds_27 ?_
              refine lv_iload hx hb dX2_placeSeeds_30 (lv_at hl 4 rfl) ?_
              refine lv_iload_n hx hb dX2_placeSeeds_32 rfl (lv_at hl 1 rfl) ?_
              obtain ⟨r_7, u_8, h_9, hF⟩ := anl_some hF
              refine ccS_iB (As := [.ref (Q 1), .int v4, .int v1]) (rest := []) hC hH (n_X8_isWeighed l G Z Q _ T u u_8 r_7 v4 v1 _ h_9) ⟨wkc_X8_isWeighed, wka237, wka646, wka752⟩ kSX8_isWeighed ⟨Nat.le_of_ble_eq_true rfl, Nat.le_of_ble_eq_true rfl⟩ ⟨by show _ ≤ K1; omega, by show _ ≤ K2; omega⟩ rfl hl.1 rfl (Nat.le_of_ble_eq_true rfl) dX2_placeSeeds_33 (fun D H locs hH => ?_)
              refine lv_if_eq (tgt := 74) hx hb dX2_placeSeeds_36 (by decide) (fun c_10 => ?_) (fun c_10 => ?_)
              · rw [if_pos c_10] at hF
                obtain ⟨x_11, e_12, hF⟩ := ali_some hF
                refine lv_iinc (v := x_11) (lv' := [(4, .int x_11), (0, .ref (Q 5)), (1, .int v1), (2, .int v2), (3, .int v3)]) hx hb dX2_placeSeeds_74 hl (k := 4) rfl e_12 (by decide) rfl (fun ls hl => ?_)
                refine lv_goto (tgt := 13) hx hb dX2_placeSeeds_77 (by decide) ?_
                exact ih13 v1 v2 v3 x_11 u_8 _ _ _ _ _ _ _ _ (lv_sub hl [1, 2, 3, 4, 0] rfl) hH hF hk1 hk2
              · rw [if_neg c_10] at hF
                refine lv_aload_n hx hb dX2_placeSeeds_39 rfl (lv_at hl 0 rfl) ?_
                refine cg_X2_9 hC hH dX2_placeSeeds_40 ?_
                refine lv_iload hx hb dX2_placeSeeds_43 (lv_at hl 4 rfl) ?_
                refine lv_iconst (v := 4) hx hb dX2_placeSeeds_45 (by decide) ?_
                obtain ⟨r_13, u_14, h_15, hF⟩ := anl_some hF
                refine ccS_iB (As := [.int v4, .int 4]) (rest := [.ref (Q 1)]) hC hH (n_X1_ofFighter l G Z Q _ T u_8 u_14 r_13 v4 4 _ h_15) ⟨wkc_X1_ofFighter, wka239, wka436, wka745⟩ kSX1_ofFighter ⟨Nat.le_of_ble_eq_true rfl, Nat.le_of_ble_eq_true rfl⟩ ⟨by show _ ≤ K1; omega, by show _ ≤ K2; omega⟩ rfl hl.1 rfl (Nat.le_of_ble_eq_true rfl) dX2_placeSeeds_46 (fun D H locs hH => ?_)
                refine bat (i := 1) (j := 11) hC hH rfl rfl (by decide) wka236 ⟨Nat.le_of_ble_eq_true rfl, Nat.le_of_ble_eq_true rfl⟩ hl.1 (Nat.le_of_ble_eq_true rfl) ⟨by show _ ≤ K1; omega, by show _ ≤ K2; omega⟩ dX2_placeSeeds_49 ?_
                obtain ⟨x_16, u_17, h_18, hF⟩ := anl_some hF
                obtain ⟨e_19, rfl⟩ := nGT_eq h_18
                refine gx_ti e_19 ?_
                refine lv_iload_n hx hb dX2_placeSeeds_52 rfl (lv_at hl 3 rfl) ?_
                refine lv_icmp_ne (tgt := 74) hx hb dX2_placeSeeds_53 (by decide) (fun c_20 => ?_) (fun c_20 => ?_)
                · rw [if_neg c_20] at hF
                  obtain ⟨x_21, e_22, hF⟩ := ali_some hF
                  refine lv_iinc (v := x_21) (lv' := [(4, .int x_21), (0, .ref (Q 5)), (1, .int v1), (2, .int v2), (3, .int v3)]) hx hb dX2_placeSeeds_74 hl (k := 4) rfl e_22 (by decide) rfl (fun ls hl => ?_)
                  refine lv_goto (tgt := 13) hx hb dX2_placeSeeds_77 (by decide) ?_
                  exact ih13 v1 v2 v3 x_21 u_14 _ _ _ _ _ _ _ _ (lv_sub hl [1, 2, 3, 4, 0] rfl) hH hF hk1 hk2
                · rw [if_pos c_20] at hF
                  refine lv_aload_n hx hb dX2_placeSeeds_56 rfl (lv_at hl 0 rfl) ?_
                  refine lv_iload_n hx hb dX2_placeSeeds_57 rfl (lv_at hl 1 rfl) ?_
                  refine lv_iload hx hb dX2_placeSeeds_58 (lv_at hl 4 rfl) ?_
                  refine lv_aload_n hx hb dX2_placeSeeds_60 rfl (lv_at hl 0 rfl) ?_
                  refine cg_X2_20 hC hH dX2_placeSeeds_61 ?_
                  refine lv_iload_n hx hb dX2_placeSeeds_64 rfl (lv_at hl 2 rfl) ?_
                  refine rg_10 hC hH wka242 ⟨Nat.le_of_ble_eq_true rfl, Nat.le_of_ble_eq_true rfl⟩ hl.1 (Nat.le_of_ble_eq_true rfl) ⟨by show _ ≤ K1; omega, by show _ ≤ K2; omega⟩ dX2_placeSeeds_65 ?_
                  obtain ⟨x_23, u_24, h_25, hF⟩ := anl_some hF
                  obtain ⟨e_26, rfl⟩ := nGT_eq h_25
                  refine gx_ti e_26 ?_
                  obtain ⟨r_27, u_28, k_30, k_31, k_32, k_33, h_29, hF, e_34, e_35⟩ := acl_some hF
                  refine ccV_vA (q0 := 5) (As := [.int v1, .int v4, .int x_23]) (rest := []) hC hH (n_X2_placeOne l G Z Q _ T u_14 u_28 r_27 k_30 k_31 v1 v4 x_23 _ h_29) rfl rfl ⟨wkc_X2_placeOne, wka238, wka452, wka453, wka746⟩ kVX2_placeOne ⟨Nat.le_of_ble_eq_true rfl, Nat.le_of_ble_eq_true rfl⟩ ⟨by show _ ≤ K1; omega, by show _ ≤ K2; omega⟩ rfl hl.1 rfl (Nat.le_of_ble_eq_true rfl) dX2_placeSeeds_68 (fun D H locs hH => ?_)
                  have hk1 := (hk1.trans (congrArg (_ + ·) e_34)).trans (Nat.add_assoc _ _ _).symm
                  have hk2 := (hk2.trans (congrArg (_ + ·) e_35)).trans (Nat.add_assoc _ _ _).symm
                  obtain ⟨x_36, e_37, hF⟩ := ali_some hF
                  refine lv_iinc (v := x_36) (lv' := [(2, .int x_36), (0, .ref (Q 5)), (1, .int v1), (3, .int v3), (4, .int v4)]) hx hb dX2_placeSeeds_71 hl (k := 2) rfl e_37 (by decide) rfl (fun ls hl => ?_)
                  obtain ⟨x_38, e_39, hF⟩ := ali_some hF
                  refine lv_iinc (v := x_38) (lv' := [(4, .int x_38), (2, .int x_36), (0, .ref (Q 5)), (1, .int v1), (3, .int v3)]) hx hb dX2_placeSeeds_74 hl (k := 4) rfl e_39 (by decide) rfl (fun ls hl => ?_)
                  refine lv_goto (tgt := 13) hx hb dX2_placeSeeds_77 (by decide) ?_
                  exact ih13 v1 x_36 v3 x_38 u_28 _ _ _ _ _ _ _ _ (lv_sub hl [2, 3, 1, 4, 0] rfl) hH hF hk1 hk2
        refine hL13 _ (fun v1 v2 v3 v4 u D H locs ls cells slots C1 C2 hl hH hF hk1 hk2 => ?_) fuel v1 v2 v3 0 u _ _ _ _ _ _ _ _ (lv_sub hl [1, 2, 3, 4, 0] rfl) hH hF hk1 hk2
        obtain ⟨x_40, e_41, hF⟩ := ali_some hF
        refine lv_iinc (v := x_40) (lv' := [(3, .int x_40), (0, .ref (Q 5)), (1, .int v1), (2, .int v2), (4, .int v4)]) hx hb dX2_placeSeeds_80 hl (k := 3) rfl e_41 (by decide) rfl (fun ls hl => ?_)
        refine lv_goto (tgt := 4) hx hb dX2_placeSeeds_83 (by decide) ?_
        exact ih4 v1 v2 x_40 u _ _ _ _ _ _ _ _ (lv_sub hl [1, 2, 3, 0] rfl) hH hF hk1 hk2
  refine hL4 _ (fun v1 v2 v3 u D H locs ls cells slots C1 C2 hl hH hF hk1 hk2 => ?_) fuel a0 0 1 u _ _ _ _ _ _ _ _ (lv_sub hl [2, 3, 1, 0] rfl) hH hF hk1 hk2
  exact cr_vA hC hH hr (art_eq hF) (by omega) (by omega) dX2_placeSeeds_86 hlocks
def xl_X2_placeClub_3 : Nat → Int32 → Int32 → Int32 → Int32 → (Int32 → Int32 → Int32 → Int32 → AG Int32) → AG Int32
  | 0, _, _, _, _, _ => fun _ => none
  | n3 + 1, v1, v2, v3, v4, K3_98 => anl (nGT 0 2088 2) (fun x_1 => (if x_1 ≤ v4 then K3_98 v1 v2 v3 v4 else anl (nGT 12 16 v2) (fun x_6 => (if x_6 ≤ 0 then K3_98 v1 v2 v3 v4 else anl (x_X1_ofFighter v4 1) (fun r_11 => anl (nGT 0 2088 r_11) (fun x_14 => (if x_14 = v2 then (if (1 : Int32) = 0 then ali (v4 + 1) (fun x_49 => xl_X2_placeClub_3 n3 v1 v2 v3 x_49 K3_98) else anl (x_X8_isWeighed v4 v1) (fun r_51 => (if r_51 = 0 then ali (v4 + 1) (fun x_55 => xl_X2_placeClub_3 n3 v1 v2 v3 x_55 K3_98) else anl (x_X2_isSeed v4) (fun r_57 => (if r_57 = 0 then anl (x_X2_bestPlace v1 v2 v3) (fun r_63 => acl (x_X2_placeOne v1 v4 r_63) (fun r_66 => ali (v4 + 1) (fun x_75 => xl_X2_placeClub_3 n3 v1 v2 v3 x_75 K3_98))) else ali (v4 + 1) (fun x_61 => xl_X2_placeClub_3 n3 v1 v2 v3 x_61 K3_98)))))) else (if (0 : Int32) = 0 then ali (v4 + 1) (fun x_20 => xl_X2_placeClub_3 n3 v1 v2 v3 x_20 K3_98) else anl (x_X8_isWeighed v4 v1) (fun r_22 => (if r_22 = 0 then ali (v4 + 1) (fun x_26 => xl_X2_placeClub_3 n3 v1 v2 v3 x_26 K3_98) else anl (x_X2_isSeed v4) (fun r_28 => (if r_28 = 0 then anl (x_X2_bestPlace v1 v2 v3) (fun r_34 => acl (x_X2_placeOne v1 v4 r_34) (fun r_37 => ali (v4 + 1) (fun x_46 => xl_X2_placeClub_3 n3 v1 v2 v3 x_46 K3_98))) else ali (v4 + 1) (fun x_32 => xl_X2_placeClub_3 n3 v1 v2 v3 x_32 K3_98)))))))))))))
def x_X2_placeClub (a0 : Int32) (a1 : Int32) (a2 : Int32) : AG Int32 := xl_X2_placeClub_3 fuel a0 a1 a2 0 (fun v1 v2 v3 v4 => art 0)
set_option maxHeartbeats 4000000 in
set_option maxRecDepth 100000 in
theorem n_X2_placeClub (l : Launch) (G : gG) (Z : gC) (Q : Nat → Nat) (D : Nat × Nat) (T : va_W) (u u1 : MS) (r : Int32) (C1 C2 : Nat) (a0 : Int32) (a1 : Int32) (a2 : Int32) (sz : Nat) (hF : x_X2_placeClub a0 a1 a2 u = some (r, u1, C1, C2)) : Met l yX2_placeClub (Cond.code yX2_placeClub cX2_placeClub 6 none :: wK) { frames := 5, cells := C1, slots := C2, locals := 131 } (va_Pc [.ref (Q 5), .int a0, .int a1, .int a2] (cPM G Z Q D T u sz)) (cQv G Q T u1 (va_A (cW G Q D T u) sz)) C1 C2 (va_A (cW G Q D T u) sz) := by
  refine Met.ofW (cc := cX2_placeClub) (maxL := 6) (ret := none) (by decide) rfl ?_
  intro p e s m args below meth c s₁ B hml hv
  obtain ⟨rfl, rfl, hP, hB, hD0, hE⟩ := hv
  have hr := B.returns
  have hlocks := B.notSynchronized
  have hts := atoms_spec (ws := Cond.code yX2_placeClub cX2_placeClub 6 none :: wK) B.pre
  have hD := hD0.self (sz := s.heap.size)
  have hA : ∀ q : Nat, s.heap.size ≤ q → va_A (cW G Q D T u) s.heap.size q := fun q h => Or.inr h
  generalize va_A (cW G Q D T u) s.heap.size = A at hD hA hE ⊢
  have hC : cX p c cX2_placeClub 6 s m _ RX2 G Z A := ⟨B.exec, B.bytes, hml, findClass_of_methodNamed B.named, fun w h => hts w (List.mem_cons_of_mem _ h), hB, hE, hA⟩
  have hx := hC.1
  have hb := hC.2.1
  have hH : cH G Q D T A u s s.heap [] := ⟨hP, hD, va_S.rf⟩
  generalize hK1 : C1 = K1
  generalize hK2 : C2 = K2
  have hk1 : K1 = 0 + C1 := by omega
  have hk2 : K2 = 0 + C2 := by omega
  have hl := lv_entry ([.ref (Q 5), .int a0, .int a1, .int a2]) (n := 6) (Nat.le_of_ble_eq_true rfl)
  rw [lg_entry_eq]
  generalize (lg_sl ([.ref (Q 5), .int a0, .int a1, .int a2]) ++ List.replicate (6 - (lg_sl ([.ref (Q 5), .int a0, .int a1, .int a2])).length) Slot.unset).toArray = ls at hl ⊢
  have hl : lv_has ls 6 [(0, .ref (Q 5)), (1, .int a0), (2, .int a1), (3, .int a2)] := hl
  unfold x_X2_placeClub at hF
  refine lv_iconst (v := 0) hx hb dX2_placeClub_0 (by decide) ?_
  refine lv_istore (lv' := [(4, .int 0), (0, .ref (Q 5)), (1, .int a0), (2, .int a1), (3, .int a2)]) hx hb dX2_placeClub_1 hl (by decide) rfl (fun ls hl => ?_)
  have hL3 : ∀ (K3_98 : Int32 → Int32 → Int32 → Int32 → AG Int32), (∀ (v1 v2 v3 v4 : Int32) (u : MS) (D : Nat × Nat) (H : Heap) (locs : List Loc) (ls : Array Slot) (cells slots C1 C2 : Nat), lv_has ls 6 [(0, .ref (Q 5)), (1, .int v1), (2, .int v2), (3, .int v3), (4, .int v4)] → cH G Q D T A u s H locs → K3_98 v1 v2 v3 v4 u = some (r, u1, C1, C2) → K1 = cells + C1 → K2 = slots + C2 → W p l e (headSpec (Cond.code yX2_placeClub cX2_placeClub 6 none :: wK) { frames := 5, cells := K1, slots := K2, locals := 131 }).room s m [.ref (Q 5), .int a0, .int a1, .int a2].toArray below meth c H locs cells slots (MQ below (cQv G Q T u1 A) [.ref (Q 5), .int a0, .int a1, .int a2].toArray s K1 K2 A) (F0 m 98 ls [])) → ∀ (n3 : Nat) (v1 v2 v3 v4 : Int32) (u : MS) (D : Nat × Nat) (H : Heap) (locs : List Loc) (ls : Array Slot) (cells slots C1 C2 : Nat), lv_has ls 6 [(0, .ref (Q 5)), (1, .int v1), (2, .int v2), (3, .int v3), (4, .int v4)] → cH G Q D T A u s H locs → xl_X2_placeClub_3 n3 v1 v2 v3 v4 K3_98 u = some (r, u1, C1, C2) → K1 = cells + C1 → K2 = slots + C2 → W p l e (headSpec (Cond.code yX2_placeClub cX2_placeClub 6 none :: wK) { frames := 5, cells := K1, slots := K2, locals := 131 }).room s m [.ref (Q 5), .int a0, .int a1, .int a2].toArray below meth c H locs cells slots (MQ below (cQv G Q T u1 A) [.ref (Q 5), .int a0, .int a1, .int a2].toArray s K1 K2 A) (F0 m 3 ls []) := by
    intro K3_98 hK3_98 n3
    induction n3 with
    | zero => intro v1 v2 v3 v4 u D H locs ls cells slots C1 C2 hl hH hF; cases hF
    | succ n3 ih3 =>
      intro v1 v2 v3 v4 u D H locs ls cells slots C1 C2 hl hH hF hk1 hk2
      unfold xl_X2_placeClub_3 at hF
      refine lv_iload hx hb dX2_placeClub_3 (lv_at hl 4 rfl) ?_
      refine lv_aload_n hx hb dX2_placeClub_5 rfl (lv_at hl 0 rfl) ?_
      refine cg_X2_9 hC hH dX2_placeClub_6 ?_
      refine lv_iconst (v := 2) hx hb dX2_placeClub_9 (by decide) ?_
      refine bat (i := 1) (j := 11) hC hH rfl rfl (by decide) wka236 ⟨Nat.le_of_ble_eq_true rfl, Nat.le_of_ble_eq_true rfl⟩ hl.1 (Nat.le_of_ble_eq_true rfl) ⟨by show _ ≤ K1; omega, by show _ ≤ K2; omega⟩ dX2_placeClub_10 ?_
      obtain ⟨x_1, u_2, h_3, hF⟩ := anl_some hF
      obtain ⟨e_4, rfl⟩ := nGT_eq h_3
      refine gx_ti e_4 ?_
      refine lv_icmp_ge (tgt := 98) hx hb dX2_placeClub_13 (by decide) (fun c_5 => ?_) (fun c_5 => ?_)
      · rw [if_pos c_5] at hF
        exact hK3_98 v1 v2 v3 v4 u _ _ _ _ _ _ _ _ (lv_sub hl [0, 1, 2, 3, 4] rfl) hH hF hk1 hk2
      · rw [if_neg c_5] at hF
        refine lv_aload_n hx hb dX2_placeClub_16 rfl (lv_at hl 0 rfl) ?_
        refine cg_X2_24 hC hH dX2_placeClub_17 ?_
        refine lv_iload_n hx hb dX2_placeClub_20 rfl (lv_at hl 2 rfl) ?_
        refine rg_11 hC hH wka242 ⟨Nat.le_of_ble_eq_true rfl, Nat.le_of_ble_eq_true rfl⟩ hl.1 (Nat.le_of_ble_eq_true rfl) ⟨by show _ ≤ K1; omega, by show _ ≤ K2; omega⟩ dX2_placeClub_21 ?_
        obtain ⟨x_6, u_7, h_8, hF⟩ := anl_some hF
        obtain ⟨e_9, rfl⟩ := nGT_eq h_8
        refine gx_ti e_9 ?_
        refine lv_if_le (tgt := 98) hx hb dX2_placeClub_24 (by decide) (fun c_10 => ?_) (fun c_10 => ?_)
        · rw [if_pos c_10] at hF
          exact hK3_98 v1 v2 v3 v4 u _ _ _ _ _ _ _ _ (lv_sub hl [0, 1, 2, 3, 4] rfl) hH hF hk1 hk2
        · rw [if_neg c_10] at hF
          refine lv_aload_n hx hb dX2_placeClub_27 rfl (lv_at hl 0 rfl) ?_
          refine cg_X2_9 hC hH dX2_placeClub_28 ?_
          refine lv_iload hx hb dX2_placeClub_31 (lv_at hl 4 rfl) ?_
          refine lv_iconst (v := 1) hx hb dX2_placeClub_33 (by decide) ?_
          obtain ⟨r_11, u_12, h_13, hF⟩ := anl_some hF
          refine ccS_iB (As := [.int v4, .int 1]) (rest := [.ref (Q 1)]) hC hH (n_X1_ofFighter l G Z Q _ T u u_12 r_11 v4 1 _ h_13) ⟨wkc_X1_ofFighter, wka239, wka436, wka745⟩ kSX1_ofFighter ⟨Nat.le_of_ble_eq_true rfl, Nat.le_of_ble_eq_true rfl⟩ ⟨by show _ ≤ K1; omega, by show _ ≤ K2; omega⟩ rfl hl.1 rfl (Nat.le_of_ble_eq_true rfl) dX2_placeClub_34 (fun D H locs hH => ?_)
          refine bat (i := 1) (j := 11) hC hH rfl rfl (by decide) wka236 ⟨Nat.le_of_ble_eq_true rfl, Nat.le_of_ble_eq_true rfl⟩ hl.1 (Nat.le_of_ble_eq_true rfl) ⟨by show _ ≤ K1; omega, by show _ ≤ K2; omega⟩ dX2_placeClub_37 ?_
          obtain ⟨x_14, u_15, h_16, hF⟩ := anl_some hF
          obtain ⟨e_17, rfl⟩ := nGT_eq h_16
          refine gx_ti e_17 ?_
          refine lv_iload_n hx hb dX2_placeClub_40 rfl (lv_at hl 2 rfl) ?_
          refine lv_icmp_ne (tgt := 48) hx hb dX2_placeClub_41 (by decide) (fun c_18 => ?_) (fun c_18 => ?_)
          · rw [if_neg c_18] at hF
            refine lv_iconst (v := 0) hx hb dX2_placeClub_48 (by decide) ?_
            refine lv_istore (lv' := [(5, .int 0), (0, .ref (Q 5)), (1, .int v1), (2, .int v2), (3, .int v3), (4, .int v4)]) hx hb dX2_placeClub_49 hl (by decide) rfl (fun ls hl => ?_)
            refine lv_iload hx hb dX2_placeClub_51 (lv_at hl 0 rfl) ?_
            refine lv_if_eq (tgt := 92) hx hb dX2_placeClub_53 (by decide) (fun c_19 => ?_) (fun c_19 => ?_)
            · rw [if_pos c_19] at hF
              obtain ⟨x_20, e_21, hF⟩ := ali_some hF
              refine lv_iinc (v := x_20) (lv' := [(4, .int x_20), (5, .int 0), (0, .ref (Q 5)), (1, .int v1), (2, .int v2), (3, .int v3)]) hx hb dX2_placeClub_92 hl (k := 5) rfl e_21 (by decide) rfl (fun ls hl => ?_)
              refine lv_goto (tgt := 3) hx hb dX2_placeClub_95 (by decide) ?_
              exact ih3 v1 v2 v3 x_20 u_12 _ _ _ _ _ _ _ _ (lv_sub hl [2, 3, 4, 5, 0] rfl) hH hF hk1 hk2
            · rw [if_neg c_19] at hF
              refine lv_aload_n hx hb dX2_placeClub_56 rfl (lv_at hl 1 rfl) ?_
              refine cg_X2_9 hC hH dX2_placeClub_57 ?_
              refine lv_iload hx hb dX2_placeClub_60 (lv_at hl 5 rfl) ?_
              refine lv_iload_n hx hb dX2_placeClub_62 rfl (lv_at hl 2 rfl) ?_
              obtain ⟨r_22, u_23, h_24, hF⟩ := anl_some hF
              refine ccS_iB (As := [.ref (Q 1), .int v4, .int v1]) (rest := []) hC hH (n_X8_isWeighed l G Z Q _ T u_12 u_23 r_22 v4 v1 _ h_24) ⟨wkc_X8_isWeighed, wka237, wka646, wka752⟩ kSX8_isWeighed ⟨Nat.le_of_ble_eq_true rfl, Nat.le_of_ble_eq_true rfl⟩ ⟨by show _ ≤ K1; omega, by show _ ≤ K2; omega⟩ rfl hl.1 rfl (Nat.le_of_ble_eq_true rfl) dX2_placeClub_63 (fun D H locs hH => ?_)
              refine lv_if_eq (tgt := 92) hx hb dX2_placeClub_66 (by decide) (fun c_25 => ?_) (fun c_25 => ?_)
              · rw [if_pos c_25] at hF
                obtain ⟨x_26, e_27, hF⟩ := ali_some hF
                refine lv_iinc (v := x_26) (lv' := [(4, .int x_26), (5, .int 0), (0, .ref (Q 5)), (1, .int v1), (2, .int v2), (3, .int v3)]) hx hb dX2_placeClub_92 hl (k := 5) rfl e_27 (by decide) rfl (fun ls hl => ?_)
                refine lv_goto (tgt := 3) hx hb dX2_placeClub_95 (by decide) ?_
                exact ih3 v1 v2 v3 x_26 u_23 _ _ _ _ _ _ _ _ (lv_sub hl [2, 3, 4, 5, 0] rfl) hH hF hk1 hk2
              · rw [if_neg c_25] at hF
                refine lv_aload_n hx hb dX2_placeClub_69 rfl (lv_at hl 1 rfl) ?_
                refine lv_iload hx hb dX2_placeClub_70 (lv_at hl 5 rfl) ?_
                obtain ⟨r_28, u_29, h_30, hF⟩ := anl_some hF
                refine ccV_iB (q0 := 5) (As := [.int v4]) (rest := []) hC hH (n_X2_isSeed l G Z Q _ T u_23 u_29 r_28 v4 _ h_30) rfl rfl ⟨wkc_X2_isSeed, wka246, wka456, wka457, wka746⟩ kVX2_isSeed ⟨Nat.le_of_ble_eq_true rfl, Nat.le_of_ble_eq_true rfl⟩ ⟨by show _ ≤ K1; omega, by show _ ≤ K2; omega⟩ rfl hl.1 rfl (Nat.le_of_ble_eq_true rfl) dX2_placeClub_72 (fun D H locs hH => ?_)
                refine lv_if_ne (tgt := 92) hx hb dX2_placeClub_75 (by decide) (fun c_31 => ?_) (fun c_31 => ?_)
                · rw [if_neg c_31] at hF
                  obtain ⟨x_32, e_33, hF⟩ := ali_some hF
                  refine lv_iinc (v := x_32) (lv' := [(4, .int x_32), (5, .int 0), (0, .ref (Q 5)), (1, .int v1), (2, .int v2), (3, .int v3)]) hx hb dX2_placeClub_92 hl (k := 5) rfl e_33 (by decide) rfl (fun ls hl => ?_)
                  refine lv_goto (tgt := 3) hx hb dX2_placeClub_95 (by decide) ?_
                  exact ih3 v1 v2 v3 x_32 u_29 _ _ _ _ _ _ _ _ (lv_sub hl [2, 3, 4, 5, 0] rfl) hH hF hk1 hk2
                · rw [if_pos c_31] at hF
                  refine lv_aload_n hx hb dX2_placeClub_78 rfl (lv_at hl 1 rfl) ?_
                  refine lv_iload_n hx hb dX2_placeClub_79 rfl (lv_at hl 2 rfl) ?_
                  refine lv_iload hx hb dX2_placeClub_80 (lv_at hl 5 rfl) ?_
                  refine lv_aload_n hx hb dX2_placeClub_82 rfl (lv_at hl 1 rfl) ?_
                  refine lv_iload_n hx hb dX2_placeClub_83 rfl (lv_at hl 2 rfl) ?_
                  refine lv_iload_n hx hb dX2_placeClub_84 rfl (lv_at hl 3 rfl) ?_
                  refine lv_iload_n hx hb dX2_placeClub_85 rfl (lv_at hl 4 rfl) ?_
                  obtain ⟨r_34, u_35, h_36, hF⟩ := anl_some hF
                  refine ccV_iB (q0 := 5) (As := [.int v1, .int v2, .int v3]) (rest := [.int v4, .int v1, .ref (Q 5)]) hC hH (n_X2_bestPlace l G Z Q _ T u_29 u_35 r_34 v1 v2 v3 _ h_36) rfl rfl ⟨wkc_X2_bestPlace, wka249, wka466, wka467, wka746⟩ kVX2_bestPlace ⟨Nat.le_of_ble_eq_true rfl, Nat.le_of_ble_eq_true rfl⟩ ⟨by show _ ≤ K1; omega, by show _ ≤ K2; omega⟩ rfl hl.1 rfl (Nat.le_of_ble_eq_true rfl) dX2_placeClub_86 (fun D H locs hH => ?_)
                  obtain ⟨r_37, u_38, k_40, k_41, k_42, k_43, h_39, hF, e_44, e_45⟩ := acl_some hF
                  refine ccV_vA (q0 := 5) (As := [.int v1, .int v4, .int r_34]) (rest := []) hC hH (n_X2_placeOne l G Z Q _ T u_35 u_38 r_37 k_40 k_41 v1 v4 r_34 _ h_39) rfl rfl ⟨wkc_X2_placeOne, wka238, wka452, wka453, wka746⟩ kVX2_placeOne ⟨Nat.le_of_ble_eq_true rfl, Nat.le_of_ble_eq_true rfl⟩ ⟨by show _ ≤ K1; omega, by show _ ≤ K2; omega⟩ rfl hl.1 rfl (Nat.le_of_ble_eq_true rfl) dX2_placeClub_89 (fun D H locs hH => ?_)
                  have hk1 := (hk1.trans (congrArg (_ + ·) e_44)).trans (Nat.add_assoc _ _ _).symm
                  have hk2 := (hk2.trans (congrArg (_ + ·) e_45)).trans (Nat.add_assoc _ _ _).symm
                  obtain ⟨x_46, e_47, hF⟩ := ali_some hF
                  refine lv_iinc (v := x_46) (lv' := [(4, .int x_46), (5, .int 0), (0, .ref (Q 5)), (1, .int v1), (2, .int v2), (3, .int v3)]) hx hb dX2_placeClub_92 hl (k := 5) rfl e_47 (by decide) rfl (fun ls hl => ?_)
                  refine lv_goto (tgt := 3) hx hb dX2_placeClub_95 (by decide) ?_
                  exact ih3 v1 v2 v3 x_46 u_38 _ _ _ _ _ _ _ _ (lv_sub hl [2, 3, 4, 5, 0] rfl) hH hF hk1 hk2
          · rw [if_pos c_18] at hF
            refine lv_iconst (v := 1) hx hb dX2_placeClub_44 (by decide) ?_
            refine lv_goto (tgt := 49) hx hb dX2_placeClub_45 (by decide) ?_
            refine lv_istore (lv' := [(5, .int 1), (0, .ref (Q 5)), (1, .int v1), (2, .int v2), (3, .int v3), (4, .int v4)]) hx hb dX2_placeClub_49 hl (by decide) rfl (fun ls hl => ?_)
            refine lv_iload hx hb dX2_placeClub_51 (lv_at hl 0 rfl) ?_
            refine lv_if_eq (tgt := 92) hx hb dX2_placeClub_53 (by decide) (fun c_48 => ?_) (fun c_48 => ?_)
            · rw [if_pos c_48] at hF
              obtain ⟨x_49, e_50, hF⟩ := ali_some hF
              refine lv_iinc (v := x_49) (lv' := [(4, .int x_49), (5, .int 1), (0, .ref (Q 5)), (1, .int v1), (2, .int v2), (3, .int v3)]) hx hb dX2_placeClub_92 hl (k := 5) rfl e_50 (by decide) rfl (fun ls hl => ?_)
              refine lv_goto (tgt := 3) hx hb dX2_placeClub_95 (by decide) ?_
              exact ih3 v1 v2 v3 x_49 u_12 _ _ _ _ _ _ _ _ (lv_sub hl [2, 3, 4, 5, 0] rfl) hH hF hk1 hk2
            · rw [if_neg c_48] at hF
              refine lv_aload_n hx hb dX2_placeClub_56 rfl (lv_at hl 1 rfl) ?_
              refine cg_X2_9 hC hH dX2_placeClub_57 ?_
              refine lv_iload hx hb dX2_placeClub_60 (lv_at hl 5 rfl) ?_
              refine lv_iload_n hx hb dX2_placeClub_62 rfl (lv_at hl 2 rfl) ?_
              obtain ⟨r_51, u_52, h_53, hF⟩ := anl_some hF
              refine ccS_iB (As := [.ref (Q 1), .int v4, .int v1]) (rest := []) hC hH (n_X8_isWeighed l G Z Q _ T u_12 u_52 r_51 v4 v1 _ h_53) ⟨wkc_X8_isWeighed, wka237, wka646, wka752⟩ kSX8_isWeighed ⟨Nat.le_of_ble_eq_true rfl, Nat.le_of_ble_eq_true rfl⟩ ⟨by show _ ≤ K1; omega, by show _ ≤ K2; omega⟩ rfl hl.1 rfl (Nat.le_of_ble_eq_true rfl) dX2_placeClub_63 (fun D H locs hH => ?_)
              refine lv_if_eq (tgt := 92) hx hb dX2_placeClub_66 (by decide) (fun c_54 => ?_) (fun c_54 => ?_)
              · rw [if_pos c_54] at hF
                obtain ⟨x_55, e_56, hF⟩ := ali_some hF
                refine lv_iinc (v := x_55) (lv' := [(4, .int x_55), (5, .int 1), (0, .ref (Q 5)), (1, .int v1), (2, .int v2), (3, .int v3)]) hx hb dX2_placeClub_92 hl (k := 5) rfl e_56 (by decide) rfl (fun ls hl => ?_)
                refine lv_goto (tgt := 3) hx hb dX2_placeClub_95 (by decide) ?_
                exact ih3 v1 v2 v3 x_55 u_52 _ _ _ _ _ _ _ _ (lv_sub hl [2, 3, 4, 5, 0] rfl) hH hF hk1 hk2
              · rw [if_neg c_54] at hF
                refine lv_aload_n hx hb dX2_placeClub_69 rfl (lv_at hl 1 rfl) ?_
                refine lv_iload hx hb dX2_placeClub_70 (lv_at hl 5 rfl) ?_
                obtain ⟨r_57, u_58, h_59, hF⟩ := anl_some hF
                refine ccV_iB (q0 := 5) (As := [.int v4]) (rest := []) hC hH (n_X2_isSeed l G Z Q _ T u_52 u_58 r_57 v4 _ h_59) rfl rfl ⟨wkc_X2_isSeed, wka246, wka456, wka457, wka746⟩ kVX2_isSeed ⟨Nat.le_of_ble_eq_true rfl, Nat.le_of_ble_eq_true rfl⟩ ⟨by show _ ≤ K1; omega, by show _ ≤ K2; omega⟩ rfl hl.1 rfl (Nat.le_of_ble_eq_true rfl) dX2_placeClub_72 (fun D H locs hH => ?_)
                refine lv_if_ne (tgt := 92) hx hb dX2_placeClub_75 (by decide) (fun c_60 => ?_) (fun c_60 => ?_)
                · rw [if_neg c_60] at hF
                  obtain ⟨x_61, e_62, hF⟩ := ali_some hF
                  refine lv_iinc (v := x_61) (lv' := [(4, .int x_61), (5, .int 1), (0, .ref (Q 5)), (1, .int v1), (2, .int v2), (3, .int v3)]) hx hb dX2_placeClub_92 hl (k := 5) rfl e_62 (by decide) rfl (fun ls hl => ?_)
                  refine lv_goto (tgt := 3) hx hb dX2_placeClub_95 (by decide) ?_
                  exact ih3 v1 v2 v3 x_61 u_58 _ _ _ _ _ _ _ _ (lv_sub hl [2, 3, 4, 5, 0] rfl) hH hF hk1 hk2
                · rw [if_pos c_60] at hF
                  refine lv_aload_n hx hb dX2_placeClub_78 rfl (lv_at hl 1 rfl) ?_
                  refine lv_iload_n hx hb dX2_placeClub_79 rfl (lv_at hl 2 rfl) ?_
                  refine lv_iload hx hb dX2_placeClub_80 (lv_at hl 5 rfl) ?_
                  refine lv_aload_n hx hb dX2_placeClub_82 rfl (lv_at hl 1 rfl) ?_
                  refine lv_iload_n hx hb dX2_placeClub_83 rfl (lv_at hl 2 rfl) ?_
                  refine lv_iload_n hx hb dX2_placeClub_84 rfl (lv_at hl 3 rfl) ?_
                  refine lv_iload_n hx hb dX2_placeClub_85 rfl (lv_at hl 4 rfl) ?_
                  obtain ⟨r_63, u_64, h_65, hF⟩ := anl_some hF
                  refine ccV_iB (q0 := 5) (As := [.int v1, .int v2, .int v3]) (rest := [.int v4, .int v1, .ref (Q 5)]) hC hH (n_X2_bestPlace l G Z Q _ T u_58 u_64 r_63 v1 v2 v3 _ h_65) rfl rfl ⟨wkc_X2_bestPlace, wka249, wka466, wka467, wka746⟩ kVX2_bestPlace ⟨Nat.le_of_ble_eq_true rfl, Nat.le_of_ble_eq_true rfl⟩ ⟨by show _ ≤ K1; omega, by show _ ≤ K2; omega⟩ rfl hl.1 rfl (Nat.le_of_ble_eq_true rfl) dX2_placeClub_86 (fun D H locs hH => ?_)
                  obtain ⟨r_66, u_67, k_69, k_70, k_71, k_72, h_68, hF, e_73, e_74⟩ := acl_some hF
                  refine ccV_vA (q0 := 5) (As := [.int v1, .int v4, .int r_63]) (rest := []) hC hH (n_X2_placeOne l G Z Q _ T u_64 u_67 r_66 k_69 k_70 v1 v4 r_63 _ h_68) rfl rfl ⟨wkc_X2_placeOne, wka238, wka452, wka453, wka746⟩ kVX2_placeOne ⟨Nat.le_of_ble_eq_true rfl, Nat.le_of_ble_eq_true rfl⟩ ⟨by show _ ≤ K1; omega, by show _ ≤ K2; omega⟩ rfl hl.1 rfl (Nat.le_of_ble_eq_true rfl) dX2_placeClub_89 (fun D H locs hH => ?_)
                  have hk1 := (hk1.trans (congrArg (_ + ·) e_73)).trans (Nat.add_assoc _ _ _).symm
                  have hk2 := (hk2.trans (congrArg (_ + ·) e_74)).trans (Nat.add_assoc _ _ _).symm
                  obtain ⟨x_75, e_76, hF⟩ := ali_some hF
                  refine lv_iinc (v := x_75) (lv' := [(4, .int x_75), (5, .int 1), (0, .ref (Q 5)), (1, .int v1), (2, .int v2), (3, .int v3)]) hx hb dX2_placeClub_92 hl (k := 5) rfl e_76 (by decide) rfl (fun ls hl => ?_)
                  refine lv_goto (tgt := 3) hx hb dX2_placeClub_95 (by decide) ?_
                  exact ih3 v1 v2 v3 x_75 u_67 _ _ _ _ _ _ _ _ (lv_sub hl [2, 3, 4, 5, 0] rfl) hH hF hk1 hk2
  refine hL3 _ (fun v1 v2 v3 v4 u D H locs ls cells slots C1 C2 hl hH hF hk1 hk2 => ?_) fuel a0 a1 a2 0 u _ _ _ _ _ _ _ _ (lv_sub hl [1, 2, 3, 4, 0] rfl) hH hF hk1 hk2
  exact cr_vA hC hH hr (art_eq hF) (by omega) (by omega) dX2_placeClub_98 hlocks
def xl_X2_placeOthers_10 : Nat → Int32 → Int32 → Int32 → (Int32 → Int32 → Int32 → AG Int32) → AG Int32
  | 0, _, _, _, _ => fun _ => none
  | n10 + 1, v1, v2, v3, K10_82 => anl (nGT 0 2088 2) (fun x_5 => (if x_5 ≤ v3 then K10_82 v1 v2 v3 else anl (x_X8_isWeighed v3 v1) (fun r_10 => (if r_10 = 0 then ali (v3 + 1) (fun x_14 => xl_X2_placeOthers_10 n10 v1 v2 x_14 K10_82) else anl (x_X2_isSeed v3) (fun r_16 => (if r_16 = 0 then anl (x_X1_ofFighter v3 1) (fun r_22 => anl (nGT 0 2088 r_22) (fun x_25 => anl (nGT 12 16 x_25) (fun x_29 => anl (nST 12 16 x_25 (x_29 + 1)) (fun _ => ali (v3 + 1) (fun x_37 => xl_X2_placeOthers_10 n10 v1 v2 x_37 K10_82))))) else ali (v3 + 1) (fun x_20 => xl_X2_placeOthers_10 n10 v1 v2 x_20 K10_82)))))))
def xl_X2_placeOthers_84 : Nat → Int32 → Int32 → Int32 → (Int32 → Int32 → Int32 → AG Int32) → AG Int32
  | 0, _, _, _, _ => fun _ => none
  | n84 + 1, v1, v2, v3, K84_120 => (if 16 ≤ v3 then K84_120 v1 v2 v3 else anl (x_X2_largestClub) (fun r_40 => acl (x_X2_placeClub v1 r_40 v2) (fun r_43 => anl (nST 12 16 r_40 0) (fun _ => ali (v3 + 1) (fun x_56 => xl_X2_placeOthers_84 n84 v1 v2 x_56 K84_120)))))
def x_X2_placeOthers (a0 : Int32) (a1 : Int32) : AG Int32 := anl (nFL 12 16 0) (fun _ => xl_X2_placeOthers_10 fuel a0 a1 0 (fun v1 v2 v3 => xl_X2_placeOthers_84 fuel v1 v2 0 (fun v1 v2 v3 => art 0)))
set_option maxHeartbeats 4000000 in
set_option maxRecDepth 100000 in
theorem n_X2_placeOthers (l : Launch) (G : gG) (Z : gC) (Q : Nat → Nat) (D : Nat × Nat) (T : va_W) (u u1 : MS) (r : Int32) (C1 C2 : Nat) (a0 : Int32) (a1 : Int32) (sz : Nat) (hF : x_X2_placeOthers a0 a1 u = some (r, u1, C1, C2)) : Met l yX2_placeOthers (Cond.code yX2_placeOthers cX2_placeOthers 5 none :: wK) { frames := 6, cells := C1, slots := C2, locals := 156 } (va_Pc [.ref (Q 5), .int a0, .int a1] (cPM G Z Q D T u sz)) (cQv G Q T u1 (va_A (cW G Q D T u) sz)) C1 C2 (va_A (cW G Q D T u) sz) := by
  refine Met.ofW (cc := cX2_placeOthers) (maxL := 5) (ret := none) (by decide) rfl ?_
  intro p e s m args below meth c s₁ B hml hv
  obtain ⟨rfl, rfl, hP, hB, hD0, hE⟩ := hv
  have hr := B.returns
  have hlocks := B.notSynchronized
  have hts := atoms_spec (ws := Cond.code yX2_placeOthers cX2_placeOthers 5 none :: wK) B.pre
  have hD := hD0.self (sz := s.heap.size)
  have hA : ∀ q : Nat, s.heap.size ≤ q → va_A (cW G Q D T u) s.heap.size q := fun q h => Or.inr h
  generalize va_A (cW G Q D T u) s.heap.size = A at hD hA hE ⊢
  have hC : cX p c cX2_placeOthers 5 s m _ RX2 G Z A := ⟨B.exec, B.bytes, hml, findClass_of_methodNamed B.named, fun w h => hts w (List.mem_cons_of_mem _ h), hB, hE, hA⟩
  have hx := hC.1
  have hb := hC.2.1
  have hH : cH G Q D T A u s s.heap [] := ⟨hP, hD, va_S.rf⟩
  generalize hK1 : C1 = K1
  generalize hK2 : C2 = K2
  have hk1 : K1 = 0 + C1 := by omega
  have hk2 : K2 = 0 + C2 := by omega
  have hl := lv_entry ([.ref (Q 5), .int a0, .int a1]) (n := 5) (Nat.le_of_ble_eq_true rfl)
  rw [lg_entry_eq]
  generalize (lg_sl ([.ref (Q 5), .int a0, .int a1]) ++ List.replicate (5 - (lg_sl ([.ref (Q 5), .int a0, .int a1])).length) Slot.unset).toArray = ls at hl ⊢
  have hl : lv_has ls 5 [(0, .ref (Q 5)), (1, .int a0), (2, .int a1)] := hl
  unfold x_X2_placeOthers at hF
  refine lv_aload_n hx hb dX2_placeOthers_0 rfl (lv_at hl 0 rfl) ?_
  refine cg_X2_24 hC hH dX2_placeOthers_1 ?_
  refine lv_iconst (v := 0) hx hb dX2_placeOthers_4 (by decide) ?_
  obtain ⟨y_4, u_1, h_3, hF⟩ := anl_some hF
  have e_2 := nFL_eq h_3
  refine rf_11 hC hH e_2 wka245 ⟨Nat.le_of_ble_eq_true rfl, Nat.le_of_ble_eq_true rfl⟩ hl.1 (Nat.le_of_ble_eq_true rfl) ⟨by show _ ≤ K1; omega, by show _ ≤ K2; omega⟩ dX2_placeOthers_5 (fun H locs hH => ?_)
  refine lv_iconst (v := 0) hx hb dX2_placeOthers_8 (by decide) ?_
  refine lv_istore_n (lv' := [(3, .int 0), (0, .ref (Q 5)), (1, .int a0), (2, .int a1)]) hx hb dX2_placeOthers_9 rfl hl (by decide) rfl (fun ls hl => ?_)
  have hL10 : ∀ (K10_82 : Int32 → Int32 → Int32 → AG Int32), (∀ (v1 v2 v3 : Int32) (u : MS) (D : Nat × Nat) (H : Heap) (locs : List Loc) (ls : Array Slot) (cells slots C1 C2 : Nat), lv_has ls 5 [(0, .ref (Q 5)), (1, .int v1), (2, .int v2), (3, .int v3)] → cH G Q D T A u s H locs → K10_82 v1 v2 v3 u = some (r, u1, C1, C2) → K1 = cells + C1 → K2 = slots + C2 → W p l e (headSpec (Cond.code yX2_placeOthers cX2_placeOthers 5 none :: wK) { frames := 6, cells := K1, slots := K2, locals := 156 }).room s m [.ref (Q 5), .int a0, .int a1].toArray below meth c H locs cells slots (MQ below (cQv G Q T u1 A) [.ref (Q 5), .int a0, .int a1].toArray s K1 K2 A) (F0 m 82 ls [])) → ∀ (n10 : Nat) (v1 v2 v3 : Int32) (u : MS) (D : Nat × Nat) (H : Heap) (locs : List Loc) (ls : Array Slot) (cells slots C1 C2 : Nat), lv_has ls 5 [(0, .ref (Q 5)), (1, .int v1), (2, .int v2), (3, .int v3)] → cH G Q D T A u s H locs → xl_X2_placeOthers_10 n10 v1 v2 v3 K10_82 u = some (r, u1, C1, C2) → K1 = cells + C1 → K2 = slots + C2 → W p l e (headSpec (Cond.code yX2_placeOthers cX2_placeOthers 5 none :: wK) { frames := 6, cells := K1, slots := K2, locals := 156 }).room s m [.ref (Q 5), .int a0, .int a1].toArray below meth c H locs cells slots (MQ below (cQv G Q T u1 A) [.ref (Q 5), .int a0, .int a1].toArray s K1 K2 A) (F0 m 10 ls []) := by
    intro K10_82 hK10_82 n10
    induction n10 with
    | zero => intro v1 v2 v3 u D H locs ls cells slots C1 C2 hl hH hF; cases hF
    | succ n10 ih10 =>
      intro v1 v2 v3 u D H locs ls cells slots C1 C2 hl hH hF hk1 hk2
      unfold xl_X2_placeOthers_10 at hF
      refine lv_iload_n hx hb dX2_placeOthers_10 rfl (lv_at hl 3 rfl) ?_
      refine lv_aload_n hx hb dX2_placeOthers_11 rfl (lv_at hl 0 rfl) ?_
      refine cg_X2_9 hC hH dX2_placeOthers_12 ?_
      refine lv_iconst (v := 2) hx hb dX2_placeOthers_15 (by decide) ?_
      refine bat (i := 1) (j := 11) hC hH rfl rfl (by decide) wka236 ⟨Nat.le_of_ble_eq_true rfl, Nat.le_of_ble_eq_true rfl⟩ hl.1 (Nat.le_of_ble_eq_true rfl) ⟨by show _ ≤ K1; omega, by show _ ≤ K2; omega⟩ dX2_placeOthers_16 ?_
      obtain ⟨x_5, u_6, h_7, hF⟩ := anl_some hF
      obtain ⟨e_8, rfl⟩ := nGT_eq h_7
      refine gx_ti e_8 ?_
      refine lv_icmp_ge (tgt := 82) hx hb dX2_placeOthers_19 (by decide) (fun c_9 => ?_) (fun c_9 => ?_)
      · rw [if_pos c_9] at hF
        exact hK10_82 v1 v2 v3 u _ _ _ _ _ _ _ _ (lv_sub hl [0, 1, 2, 3] rfl) hH hF hk1 hk2
      · rw [if_neg c_9] at hF
        refine lv_aload_n hx hb dX2_placeOthers_22 rfl (lv_at hl 0 rfl) ?_
        refine cg_X2_9 hC hH dX2_placeOthers_23 ?_
        refine lv_iload_n hx hb dX2_placeOthers_26 rfl (lv_at hl 3 rfl) ?_
        refine lv_iload_n hx hb dX2_placeOthers_27 rfl (lv_at hl 1 rfl) ?_
        obtain ⟨r_10, u_11, h_12, hF⟩ := anl_some hF
        refine ccS_iB (As := [.ref (Q 1), .int v3, .int v1]) (rest := []) hC hH (n_X8_isWeighed l G Z Q _ T u u_11 r_10 v3 v1 _ h_12) ⟨wkc_X8_isWeighed, wka237, wka646, wka752⟩ kSX8_isWeighed ⟨Nat.le_of_ble_eq_true rfl, Nat.le_of_ble_eq_true rfl⟩ ⟨by show _ ≤ K1; omega, by show _ ≤ K2; omega⟩ rfl hl.1 rfl (Nat.le_of_ble_eq_true rfl) dX2_placeOthers_28 (fun D H locs hH => ?_)
        refine lv_if_eq (tgt := 76) hx hb dX2_placeOthers_31 (by decide) (fun c_13 => ?_) (fun c_13 => ?_)
        · rw [if_pos c_13] at hF
          obtain ⟨x_14, e_15, hF⟩ := ali_some hF
          refine lv_iinc (v := x_14) (lv' := [(3, .int x_14), (0, .ref (Q 5)), (1, .int v1), (2, .int v2)]) hx hb dX2_placeOthers_76 hl (k := 3) rfl e_15 (by decide) rfl (fun ls hl => ?_)
          refine lv_goto (tgt := 10) hx hb dX2_placeOthers_79 (by decide) ?_
          exact ih10 v1 v2 x_14 u_11 _ _ _ _ _ _ _ _ (lv_sub hl [1, 2, 3, 0] rfl) hH hF hk1 hk2
        · rw [if_neg c_13] at hF
          refine lv_aload_n hx hb dX2_placeOthers_34 rfl (lv_at hl 0 rfl) ?_
          refine lv_iload_n hx hb dX2_placeOthers_35 rfl (lv_at hl 3 rfl) ?_
          obtain ⟨r_16, u_17, h_18, hF⟩ := anl_some hF
          refine ccV_iB (q0 := 5) (As := [.int v3]) (rest := []) hC hH (n_X2_isSeed l G Z Q _ T u_11 u_17 r_16 v3 _ h_18) rfl rfl ⟨wkc_X2_isSeed, wka246, wka456, wka457, wka746⟩ kVX2_isSeed ⟨Nat.le_of_ble_eq_true rfl, Nat.le_of_ble_eq_true rfl⟩ ⟨by show _ ≤ K1; omega, by show _ ≤ K2; omega⟩ rfl hl.1 rfl (Nat.le_of_ble_eq_true rfl) dX2_placeOthers_36 (fun D H locs hH => ?_)
          refine lv_if_ne (tgt := 76) hx hb dX2_placeOthers_39 (by decide) (fun c_19 => ?_) (fun c_19 => ?_)
          · rw [if_neg c_19] at hF
            obtain ⟨x_20, e_21, hF⟩ := ali_some hF
            refine lv_iinc (v := x_20) (lv' := [(3, .int x_20), (0, .ref (Q 5)), (1, .int v1), (2, .int v2)]) hx hb dX2_placeOthers_76 hl (k := 3) rfl e_21 (by decide) rfl (fun ls hl => ?_)
            refine lv_goto (tgt := 10) hx hb dX2_placeOthers_79 (by decide) ?_
            exact ih10 v1 v2 x_20 u_17 _ _ _ _ _ _ _ _ (lv_sub hl [1, 2, 3, 0] rfl) hH hF hk1 hk2
          · rw [if_pos c_19] at hF
            refine lv_aload_n hx hb dX2_placeOthers_42 rfl (lv_at hl 0 rfl) ?_
            refine cg_X2_9 hC hH dX2_placeOthers_43 ?_
            refine lv_iload_n hx hb dX2_placeOthers_46 rfl (lv_at hl 3 rfl) ?_
            refine lv_iconst (v := 1) hx hb dX2_placeOthers_47 (by decide) ?_
            obtain ⟨r_22, u_23, h_24, hF⟩ := anl_some hF
            refine ccS_iB (As := [.int v3, .int 1]) (rest := [.ref (Q 1)]) hC hH (n_X1_ofFighter l G Z Q _ T u_17 u_23 r_22 v3 1 _ h_24) ⟨wkc_X1_ofFighter, wka239, wka436, wka745⟩ kSX1_ofFighter ⟨Nat.le_of_ble_eq_true rfl, Nat.le_of_ble_eq_true rfl⟩ ⟨by show _ ≤ K1; omega, by show _ ≤ K2; omega⟩ rfl hl.1 rfl (Nat.le_of_ble_eq_true rfl) dX2_placeOthers_48 (fun D H locs hH => ?_)
            refine bat (i := 1) (j := 11) hC hH rfl rfl (by decide) wka236 ⟨Nat.le_of_ble_eq_true rfl, Nat.le_of_ble_eq_true rfl⟩ hl.1 (Nat.le_of_ble_eq_true rfl) ⟨by show _ ≤ K1; omega, by show _ ≤ K2; omega⟩ dX2_placeOthers_51 ?_
            obtain ⟨x_25, u_26, h_27, hF⟩ := anl_some hF
            obtain ⟨e_28, rfl⟩ := nGT_eq h_27
            refine gx_ti e_28 ?_
            refine lv_istore (lv' := [(4, .int x_25), (0, .ref (Q 5)), (1, .int v1), (2, .int v2), (3, .int v3)]) hx hb dX2_placeOthers_54 hl (by decide) rfl (fun ls hl => ?_)
            refine lv_aload_n hx hb dX2_placeOthers_56 rfl (lv_at hl 1 rfl) ?_
            refine cg_X2_24 hC hH dX2_placeOthers_57 ?_
            refine lv_iload hx hb dX2_placeOthers_60 (lv_at hl 0 rfl) ?_
            refine lv_aload_n hx hb dX2_placeOthers_62 rfl (lv_at hl 1 rfl) ?_
            refine cg_X2_24 hC hH dX2_placeOthers_63 ?_
            refine lv_iload hx hb dX2_placeOthers_66 (lv_at hl 0 rfl) ?_
            refine rg_11 hC hH wka242 ⟨Nat.le_of_ble_eq_true rfl, Nat.le_of_ble_eq_true rfl⟩ hl.1 (Nat.le_of_ble_eq_true rfl) ⟨by show _ ≤ K1; omega, by show _ ≤ K2; omega⟩ dX2_placeOthers_68 ?_
            obtain ⟨x_29, u_30, h_31, hF⟩ := anl_some hF
            obtain ⟨e_32, rfl⟩ := nGT_eq h_31
            refine gx_ti e_32 ?_
            refine lv_iconst (v := 1) hx hb dX2_placeOthers_71 (by decide) ?_
            refine lv_iadd hx hb dX2_placeOthers_72 ?_
            obtain ⟨y_36, u_33, h_35, hF⟩ := anl_some hF
            have e_34 := nST_eq h_35
            refine rs_11 hC hH e_34 wka241 ⟨Nat.le_of_ble_eq_true rfl, Nat.le_of_ble_eq_true rfl⟩ hl.1 (Nat.le_of_ble_eq_true rfl) ⟨by show _ ≤ K1; omega, by show _ ≤ K2; omega⟩ dX2_placeOthers_73 (fun H locs hH => ?_)
            obtain ⟨x_37, e_38, hF⟩ := ali_some hF
            refine lv_iinc (v := x_37) (lv' := [(3, .int x_37), (4, .int x_25), (0, .ref (Q 5)), (1, .int v1), (2, .int v2)]) hx hb dX2_placeOthers_76 hl (k := 4) rfl e_38 (by decide) rfl (fun ls hl => ?_)
            refine lv_goto (tgt := 10) hx hb dX2_placeOthers_79 (by decide) ?_
            exact ih10 v1 v2 x_37 u_33 _ _ _ _ _ _ _ _ (lv_sub hl [2, 3, 4, 0] rfl) hH hF hk1 hk2
  refine hL10 _ (fun v1 v2 v3 u D H locs ls cells slots C1 C2 hl hH hF hk1 hk2 => ?_) fuel a0 a1 0 u_1 _ _ _ _ _ _ _ _ (lv_sub hl [1, 2, 3, 0] rfl) hH hF hk1 hk2
  refine lv_iconst (v := 0) hx hb dX2_placeOthers_82 (by decide) ?_
  refine lv_istore_n (lv' := [(3, .int 0), (0, .ref (Q 5)), (1, .int v1), (2, .int v2)]) hx hb dX2_placeOthers_83 rfl hl (by decide) rfl (fun ls hl => ?_)
  have hL84 : ∀ (K84_120 : Int32 → Int32 → Int32 → AG Int32), (∀ (v1 v2 v3 : Int32) (u : MS) (D : Nat × Nat) (H : Heap) (locs : List Loc) (ls : Array Slot) (cells slots C1 C2 : Nat), lv_has ls 5 [(0, .ref (Q 5)), (1, .int v1), (2, .int v2), (3, .int v3)] → cH G Q D T A u s H locs → K84_120 v1 v2 v3 u = some (r, u1, C1, C2) → K1 = cells + C1 → K2 = slots + C2 → W p l e (headSpec (Cond.code yX2_placeOthers cX2_placeOthers 5 none :: wK) { frames := 6, cells := K1, slots := K2, locals := 156 }).room s m [.ref (Q 5), .int a0, .int a1].toArray below meth c H locs cells slots (MQ below (cQv G Q T u1 A) [.ref (Q 5), .int a0, .int a1].toArray s K1 K2 A) (F0 m 120 ls [])) → ∀ (n84 : Nat) (v1 v2 v3 : Int32) (u : MS) (D : Nat × Nat) (H : Heap) (locs : List Loc) (ls : Array Slot) (cells slots C1 C2 : Nat), lv_has ls 5 [(0, .ref (Q 5)), (1, .int v1), (2, .int v2), (3, .int v3)] → cH G Q D T A u s H locs → xl_X2_placeOthers_84 n84 v1 v2 v3 K84_120 u = some (r, u1, C1, C2) → K1 = cells + C1 → K2 = slots + C2 → W p l e (headSpec (Cond.code yX2_placeOthers cX2_placeOthers 5 none :: wK) { frames := 6, cells := K1, slots := K2, locals := 156 }).room s m [.ref (Q 5), .int a0, .int a1].toArray below meth c H locs cells slots (MQ below (cQv G Q T u1 A) [.ref (Q 5), .int a0, .int a1].toArray s K1 K2 A) (F0 m 84 ls []) := by
    intro K84_120 hK84_120 n84
    induction n84 with
    | zero => intro v1 v2 v3 u D H locs ls cells slots C1 C2 hl hH hF; cases hF
    | succ n84 ih84 =>
      intro v1 v2 v3 u D H locs ls cells slots C1 C2 hl hH hF hk1 hk2
      unfold xl_X2_placeOthers_84 at hF
      refine lv_iload_n hx hb dX2_placeOthers_84 rfl (lv_at hl 3 rfl) ?_
      refine lv_bipush (v := 16) hx hb dX2_placeOthers_85 (by decide) ?_
      refine lv_icmp_ge (tgt := 120) hx hb dX2_placeOthers_87 (by decide) (fun c_39 => ?_) (fun c_39 => ?_)
      · rw [if_pos c_39] at hF
        exact hK84_120 v1 v2 v3 u _ _ _ _ _ _ _ _ (lv_sub hl [0, 1, 2, 3] rfl) hH hF hk1 hk2
      · rw [if_neg c_39] at hF
        refine lv_aload_n hx hb dX2_placeOthers_90 rfl (lv_at hl 0 rfl) ?_
        obtain ⟨r_40, u_41, h_42, hF⟩ := anl_some hF
        refine ccV_iB (q0 := 5) (As := []) (rest := []) hC hH (n_X2_largestClub l G Z Q _ T u u_41 r_40 _ h_42) rfl rfl ⟨wkc_X2_largestClub, wka247, wka462, wka463, wka746⟩ kVX2_largestClub ⟨Nat.le_of_ble_eq_true rfl, Nat.le_of_ble_eq_true rfl⟩ ⟨by show _ ≤ K1; omega, by show _ ≤ K2; omega⟩ rfl hl.1 rfl (Nat.le_of_ble_eq_true rfl) dX2_placeOthers_91 (fun D H locs hH => ?_)
        refine lv_istore (lv' := [(4, .int r_40), (0, .ref (Q 5)), (1, .int v1), (2, .int v2), (3, .int v3)]) hx hb dX2_placeOthers_94 hl (by decide) rfl (fun ls hl => ?_)
        refine lv_aload_n hx hb dX2_placeOthers_96 rfl (lv_at hl 1 rfl) ?_
        refine lv_iload_n hx hb dX2_placeOthers_97 rfl (lv_at hl 2 rfl) ?_
        refine lv_iload hx hb dX2_placeOthers_98 (lv_at hl 0 rfl) ?_
        refine lv_iload_n hx hb dX2_placeOthers_100 rfl (lv_at hl 3 rfl) ?_
        obtain ⟨r_43, u_44, k_46, k_47, k_48, k_49, h_45, hF, e_50, e_51⟩ := acl_some hF
        refine ccV_vA (q0 := 5) (As := [.int v1, .int r_40, .int v2]) (rest := []) hC hH (n_X2_placeClub l G Z Q _ T u_41 u_44 r_43 k_46 k_47 v1 r_40 v2 _ h_45) rfl rfl ⟨wkc_X2_placeClub, wka248, wka464, wka465, wka746⟩ kVX2_placeClub ⟨Nat.le_of_ble_eq_true rfl, Nat.le_of_ble_eq_true rfl⟩ ⟨by show _ ≤ K1; omega, by show _ ≤ K2; omega⟩ rfl hl.1 rfl (Nat.le_of_ble_eq_true rfl) dX2_placeOthers_101 (fun D H locs hH => ?_)
        have hk1 := (hk1.trans (congrArg (_ + ·) e_50)).trans (Nat.add_assoc _ _ _).symm
        have hk2 := (hk2.trans (congrArg (_ + ·) e_51)).trans (Nat.add_assoc _ _ _).symm
        refine lv_aload_n hx hb dX2_placeOthers_104 rfl (lv_at hl 1 rfl) ?_
        refine cg_X2_24 hC hH dX2_placeOthers_105 ?_
        refine lv_iload hx hb dX2_placeOthers_108 (lv_at hl 0 rfl) ?_
        refine lv_iconst (v := 0) hx hb dX2_placeOthers_110 (by decide) ?_
        obtain ⟨y_55, u_52, h_54, hF⟩ := anl_some hF
        have e_53 := nST_eq h_54
        refine rs_11 hC hH e_53 wka241 ⟨Nat.le_of_ble_eq_true rfl, Nat.le_of_ble_eq_true rfl⟩ hl.1 (Nat.le_of_ble_eq_true rfl) ⟨by show _ ≤ K1; omega, by show _ ≤ K2; omega⟩ dX2_placeOthers_111 (fun H locs hH => ?_)
        obtain ⟨x_56, e_57, hF⟩ := ali_some hF
        refine lv_iinc (v := x_56) (lv' := [(3, .int x_56), (4, .int r_40), (0, .ref (Q 5)), (1, .int v1), (2, .int v2)]) hx hb dX2_placeOthers_114 hl (k := 4) rfl e_57 (by decide) rfl (fun ls hl => ?_)
        refine lv_goto (tgt := 84) hx hb dX2_placeOthers_117 (by decide) ?_
        exact ih84 v1 v2 x_56 u_52 _ _ _ _ _ _ _ _ (lv_sub hl [2, 3, 4, 0] rfl) hH hF hk1 hk2
  refine hL84 _ (fun v1 v2 v3 u D H locs ls cells slots C1 C2 hl hH hF hk1 hk2 => ?_) fuel v1 v2 0 u _ _ _ _ _ _ _ _ (lv_sub hl [1, 2, 3, 0] rfl) hH hF hk1 hk2
  exact cr_vA hC hH hr (art_eq hF) (by omega) (by omega) dX2_placeOthers_120 hlocks
def xl_X2_placePool_4 : Nat → Int32 → Int32 → Int32 → (Int32 → Int32 → Int32 → AG Int32) → AG Int32
  | 0, _, _, _, _ => fun _ => none
  | n4 + 1, v1, v2, v3, K4_44 => anl (nGT 0 2088 2) (fun x_1 => (if x_1 ≤ v3 then K4_44 v1 v2 v3 else anl (x_X8_isWeighed v3 v1) (fun r_6 => (if r_6 = 0 then ali (v3 + 1) (fun x_10 => xl_X2_placePool_4 n4 v1 v2 x_10 K4_44) else acl (x_X2_placeOne v1 v3 v2) (fun r_12 => ali (v2 + 1) (fun x_21 => ali (v3 + 1) (fun x_23 => xl_X2_placePool_4 n4 v1 x_21 x_23 K4_44)))))))
def x_X2_placePool (a0 : Int32) : AG Int32 := xl_X2_placePool_4 fuel a0 0 0 (fun v1 v2 v3 => art 0)
set_option maxHeartbeats 4000000 in
set_option maxRecDepth 100000 in
theorem n_X2_placePool (l : Launch) (G : gG) (Z : gC) (Q : Nat → Nat) (D : Nat × Nat) (T : va_W) (u u1 : MS) (r : Int32) (C1 C2 : Nat) (a0 : Int32) (sz : Nat) (hF : x_X2_placePool a0 u = some (r, u1, C1, C2)) : Met l yX2_placePool (Cond.code yX2_placePool cX2_placePool 4 none :: wK) { frames := 5, cells := C1, slots := C2, locals := 131 } (va_Pc [.ref (Q 5), .int a0] (cPM G Z Q D T u sz)) (cQv G Q T u1 (va_A (cW G Q D T u) sz)) C1 C2 (va_A (cW G Q D T u) sz) := by
  refine Met.ofW (cc := cX2_placePool) (maxL := 4) (ret := none) (by decide) rfl ?_
  intro p e s m args below meth c s₁ B hml hv
  obtain ⟨rfl, rfl, hP, hB, hD0, hE⟩ := hv
  have hr := B.returns
  have hlocks := B.notSynchronized
  have hts := atoms_spec (ws := Cond.code yX2_placePool cX2_placePool 4 none :: wK) B.pre
  have hD := hD0.self (sz := s.heap.size)
  have hA : ∀ q : Nat, s.heap.size ≤ q → va_A (cW G Q D T u) s.heap.size q := fun q h => Or.inr h
  generalize va_A (cW G Q D T u) s.heap.size = A at hD hA hE ⊢
  have hC : cX p c cX2_placePool 4 s m _ RX2 G Z A := ⟨B.exec, B.bytes, hml, findClass_of_methodNamed B.named, fun w h => hts w (List.mem_cons_of_mem _ h), hB, hE, hA⟩
  have hx := hC.1
  have hb := hC.2.1
  have hH : cH G Q D T A u s s.heap [] := ⟨hP, hD, va_S.rf⟩
  generalize hK1 : C1 = K1
  generalize hK2 : C2 = K2
  have hk1 : K1 = 0 + C1 := by omega
  have hk2 : K2 = 0 + C2 := by omega
  have hl := lv_entry ([.ref (Q 5), .int a0]) (n := 4) (Nat.le_of_ble_eq_true rfl)
  rw [lg_entry_eq]
  generalize (lg_sl ([.ref (Q 5), .int a0]) ++ List.replicate (4 - (lg_sl ([.ref (Q 5), .int a0])).length) Slot.unset).toArray = ls at hl ⊢
  have hl : lv_has ls 4 [(0, .ref (Q 5)), (1, .int a0)] := hl
  unfold x_X2_placePool at hF
  refine lv_iconst (v := 0) hx hb dX2_placePool_0 (by decide) ?_
  refine lv_istore_n (lv' := [(2, .int 0), (0, .ref (Q 5)), (1, .int a0)]) hx hb dX2_placePool_1 rfl hl (by decide) rfl (fun ls hl => ?_)
  refine lv_iconst (v := 0) hx hb dX2_placePool_2 (by decide) ?_
  refine lv_istore_n (lv' := [(3, .int 0), (2, .int 0), (0, .ref (Q 5)), (1, .int a0)]) hx hb dX2_placePool_3 rfl hl (by decide) rfl (fun ls hl => ?_)
  have hL4 : ∀ (K4_44 : Int32 → Int32 → Int32 → AG Int32), (∀ (v1 v2 v3 : Int32) (u : MS) (D : Nat × Nat) (H : Heap) (locs : List Loc) (ls : Array Slot) (cells slots C1 C2 : Nat), lv_has ls 4 [(0, .ref (Q 5)), (1, .int v1), (2, .int v2), (3, .int v3)] → cH G Q D T A u s H locs → K4_44 v1 v2 v3 u = some (r, u1, C1, C2) → K1 = cells + C1 → K2 = slots + C2 → W p l e (headSpec (Cond.code yX2_placePool cX2_placePool 4 none :: wK) { frames := 5, cells := K1, slots := K2, locals := 131 }).room s m [.ref (Q 5), .int a0].toArray below meth c H locs cells slots (MQ below (cQv G Q T u1 A) [.ref (Q 5), .int a0].toArray s K1 K2 A) (F0 m 44 ls [])) → ∀ (n4 : Nat) (v1 v2 v3 : Int32) (u : MS) (D : Nat × Nat) (H : Heap) (locs : List Loc) (ls : Array Slot) (cells slots C1 C2 : Nat), lv_has ls 4 [(0, .ref (Q 5)), (1, .int v1), (2, .int v2), (3, .int v3)] → cH G Q D T A u s H locs → xl_X2_placePool_4 n4 v1 v2 v3 K4_44 u = some (r, u1, C1, C2) → K1 = cells + C1 → K2 = slots + C2 → W p l e (headSpec (Cond.code yX2_placePool cX2_placePool 4 none :: wK) { frames := 5, cells := K1, slots := K2, locals := 131 }).room s m [.ref (Q 5), .int a0].toArray below meth c H locs cells slots (MQ below (cQv G Q T u1 A) [.ref (Q 5), .int a0].toArray s K1 K2 A) (F0 m 4 ls []) := by
    intro K4_44 hK4_44 n4
    induction n4 with
    | zero => intro v1 v2 v3 u D H locs ls cells slots C1 C2 hl hH hF; cases hF
    | succ n4 ih4 =>
      intro v1 v2 v3 u D H locs ls cells slots C1 C2 hl hH hF hk1 hk2
      unfold xl_X2_placePool_4 at hF
      refine lv_iload_n hx hb dX2_placePool_4 rfl (lv_at hl 3 rfl) ?_
      refine lv_aload_n hx hb dX2_placePool_5 rfl (lv_at hl 0 rfl) ?_
      refine cg_X2_9 hC hH dX2_placePool_6 ?_
      refine lv_iconst (v := 2) hx hb dX2_placePool_9 (by decide) ?_
      refine bat (i := 1) (j := 11) hC hH rfl rfl (by decide) wka236 ⟨Nat.le_of_ble_eq_true rfl, Nat.le_of_ble_eq_true rfl⟩ hl.1 (Nat.le_of_ble_eq_true rfl) ⟨by show _ ≤ K1; omega, by show _ ≤ K2; omega⟩ dX2_placePool_10 ?_
      obtain ⟨x_1, u_2, h_3, hF⟩ := anl_some hF
      obtain ⟨e_4, rfl⟩ := nGT_eq h_3
      refine gx_ti e_4 ?_
      refine lv_icmp_ge (tgt := 44) hx hb dX2_placePool_13 (by decide) (fun c_5 => ?_) (fun c_5 => ?_)
      · rw [if_pos c_5] at hF
        exact hK4_44 v1 v2 v3 u _ _ _ _ _ _ _ _ (lv_sub hl [0, 1, 2, 3] rfl) hH hF hk1 hk2
      · rw [if_neg c_5] at hF
        refine lv_aload_n hx hb dX2_placePool_16 rfl (lv_at hl 0 rfl) ?_
        refine cg_X2_9 hC hH dX2_placePool_17 ?_
        refine lv_iload_n hx hb dX2_placePool_20 rfl (lv_at hl 3 rfl) ?_
        refine lv_iload_n hx hb dX2_placePool_21 rfl (lv_at hl 1 rfl) ?_
        obtain ⟨r_6, u_7, h_8, hF⟩ := anl_some hF
        refine ccS_iB (As := [.ref (Q 1), .int v3, .int v1]) (rest := []) hC hH (n_X8_isWeighed l G Z Q _ T u u_7 r_6 v3 v1 _ h_8) ⟨wkc_X8_isWeighed, wka237, wka646, wka752⟩ kSX8_isWeighed ⟨Nat.le_of_ble_eq_true rfl, Nat.le_of_ble_eq_true rfl⟩ ⟨by show _ ≤ K1; omega, by show _ ≤ K2; omega⟩ rfl hl.1 rfl (Nat.le_of_ble_eq_true rfl) dX2_placePool_22 (fun D H locs hH => ?_)
        refine lv_if_eq (tgt := 38) hx hb dX2_placePool_25 (by decide) (fun c_9 => ?_) (fun c_9 => ?_)
        · rw [if_pos c_9] at hF
          obtain ⟨x_10, e_11, hF⟩ := ali_some hF
          refine lv_iinc (v := x_10) (lv' := [(3, .int x_10), (0, .ref (Q 5)), (1, .int v1), (2, .int v2)]) hx hb dX2_placePool_38 hl (k := 3) rfl e_11 (by decide) rfl (fun ls hl => ?_)
          refine lv_goto (tgt := 4) hx hb dX2_placePool_41 (by decide) ?_
          exact ih4 v1 v2 x_10 u_7 _ _ _ _ _ _ _ _ (lv_sub hl [1, 2, 3, 0] rfl) hH hF hk1 hk2
        · rw [if_neg c_9] at hF
          refine lv_aload_n hx hb dX2_placePool_28 rfl (lv_at hl 0 rfl) ?_
          refine lv_iload_n hx hb dX2_placePool_29 rfl (lv_at hl 1 rfl) ?_
          refine lv_iload_n hx hb dX2_placePool_30 rfl (lv_at hl 3 rfl) ?_
          refine lv_iload_n hx hb dX2_placePool_31 rfl (lv_at hl 2 rfl) ?_
          obtain ⟨r_12, u_13, k_15, k_16, k_17, k_18, h_14, hF, e_19, e_20⟩ := acl_some hF
          refine ccV_vA (q0 := 5) (As := [.int v1, .int v3, .int v2]) (rest := []) hC hH (n_X2_placeOne l G Z Q _ T u_7 u_13 r_12 k_15 k_16 v1 v3 v2 _ h_14) rfl rfl ⟨wkc_X2_placeOne, wka238, wka452, wka453, wka746⟩ kVX2_placeOne ⟨Nat.le_of_ble_eq_true rfl, Nat.le_of_ble_eq_true rfl⟩ ⟨by show _ ≤ K1; omega, by show _ ≤ K2; omega⟩ rfl hl.1 rfl (Nat.le_of_ble_eq_true rfl) dX2_placePool_32 (fun D H locs hH => ?_)
          have hk1 := (hk1.trans (congrArg (_ + ·) e_19)).trans (Nat.add_assoc _ _ _).symm
          have hk2 := (hk2.trans (congrArg (_ + ·) e_20)).trans (Nat.add_assoc _ _ _).symm
          obtain ⟨x_21, e_22, hF⟩ := ali_some hF
          refine lv_iinc (v := x_21) (lv' := [(2, .int x_21), (0, .ref (Q 5)), (1, .int v1), (3, .int v3)]) hx hb dX2_placePool_35 hl (k := 2) rfl e_22 (by decide) rfl (fun ls hl => ?_)
          obtain ⟨x_23, e_24, hF⟩ := ali_some hF
          refine lv_iinc (v := x_23) (lv' := [(3, .int x_23), (2, .int x_21), (0, .ref (Q 5)), (1, .int v1)]) hx hb dX2_placePool_38 hl (k := 3) rfl e_24 (by decide) rfl (fun ls hl => ?_)
          refine lv_goto (tgt := 4) hx hb dX2_placePool_41 (by decide) ?_
          exact ih4 v1 x_21 x_23 u_13 _ _ _ _ _ _ _ _ (lv_sub hl [2, 3, 1, 0] rfl) hH hF hk1 hk2
  refine hL4 _ (fun v1 v2 v3 u D H locs ls cells slots C1 C2 hl hH hF hk1 hk2 => ?_) fuel a0 0 0 u _ _ _ _ _ _ _ _ (lv_sub hl [2, 3, 1, 0] rfl) hH hF hk1 hk2
  exact cr_vA hC hH hr (art_eq hF) (by omega) (by omega) dX2_placePool_44 hlocks
def xl_X2_placeAll_63 : Nat → Int32 → Int32 → Int32 → Int32 → Int32 → (Int32 → Int32 → Int32 → Int32 → Int32 → AG Int32) → AG Int32
  | 0, _, _, _, _, _, _ => fun _ => none
  | n63 + 1, v1, v2, v3, v4, v5, K63_92 => (if v4 ≤ v5 then K63_92 v1 v2 v3 v4 v5 else anl (x_X1_ofClass v1 (4 + v5)) (fun r_32 => acl (x_X1_put r_32 (-1)) (fun r_35 => ali (v5 + 1) (fun x_44 => xl_X2_placeAll_63 n63 v1 v2 v3 v4 x_44 K63_92))))
def x_X2_placeAll (a0 : Int32) (a1 : Int32) : AG Int32 := (if 5 < a1 then (if (0 : Int32) = 0 then anl (x_X2_placesFor a1) (fun r_3 => anl (x_X1_ofClass a0 2) (fun r_6 => (if (0 : Int32) = 0 then acl (x_X1_put r_6 2) (fun r_10 => anl (x_X1_ofClass a0 3) (fun r_19 => acl (x_X1_put r_19 r_3) (fun r_22 => xl_X2_placeAll_63 fuel a0 a1 0 r_3 0 (fun v1 v2 v3 v4 v5 => (if v3 = 0 then anl (x_X2_makeRow v4) (fun r_47 => acl (x_X2_placeSeeds v1) (fun r_50 => acl (x_X2_placeOthers v1 v2) (fun r_59 => art 0))) else acl (x_X2_placePool v1) (fun r_68 => art 0)))))) else acl (x_X1_put r_6 1) (fun r_77 => anl (x_X1_ofClass a0 3) (fun r_86 => acl (x_X1_put r_86 r_3) (fun r_89 => xl_X2_placeAll_63 fuel a0 a1 0 r_3 0 (fun v1 v2 v3 v4 v5 => (if v3 = 0 then anl (x_X2_makeRow v4) (fun r_114 => acl (x_X2_placeSeeds v1) (fun r_117 => acl (x_X2_placeOthers v1 v2) (fun r_126 => art 0))) else acl (x_X2_placePool v1) (fun r_135 => art 0))))))))) else anl (x_X1_ofClass a0 2) (fun r_144 => (if (0 : Int32) = 0 then acl (x_X1_put r_144 2) (fun r_148 => anl (x_X1_ofClass a0 3) (fun r_157 => acl (x_X1_put r_157 a1) (fun r_160 => xl_X2_placeAll_63 fuel a0 a1 0 a1 0 (fun v1 v2 v3 v4 v5 => (if v3 = 0 then anl (x_X2_makeRow v4) (fun r_185 => acl (x_X2_placeSeeds v1) (fun r_188 => acl (x_X2_placeOthers v1 v2) (fun r_197 => art 0))) else acl (x_X2_placePool v1) (fun r_206 => art 0)))))) else acl (x_X1_put r_144 1) (fun r_215 => anl (x_X1_ofClass a0 3) (fun r_224 => acl (x_X1_put r_224 a1) (fun r_227 => xl_X2_placeAll_63 fuel a0 a1 0 a1 0 (fun v1 v2 v3 v4 v5 => (if v3 = 0 then anl (x_X2_makeRow v4) (fun r_252 => acl (x_X2_placeSeeds v1) (fun r_255 => acl (x_X2_placeOthers v1 v2) (fun r_264 => art 0))) else acl (x_X2_placePool v1) (fun r_273 => art 0))))))))) else (if (1 : Int32) = 0 then anl (x_X2_placesFor a1) (fun r_283 => anl (x_X1_ofClass a0 2) (fun r_286 => (if (1 : Int32) = 0 then acl (x_X1_put r_286 2) (fun r_290 => anl (x_X1_ofClass a0 3) (fun r_299 => acl (x_X1_put r_299 r_283) (fun r_302 => xl_X2_placeAll_63 fuel a0 a1 1 r_283 0 (fun v1 v2 v3 v4 v5 => (if v3 = 0 then anl (x_X2_makeRow v4) (fun r_327 => acl (x_X2_placeSeeds v1) (fun r_330 => acl (x_X2_placeOthers v1 v2) (fun r_339 => art 0))) else acl (x_X2_placePool v1) (fun r_348 => art 0)))))) else acl (x_X1_put r_286 1) (fun r_357 => anl (x_X1_ofClass a0 3) (fun r_366 => acl (x_X1_put r_366 r_283) (fun r_369 => xl_X2_placeAll_63 fuel a0 a1 1 r_283 0 (fun v1 v2 v3 v4 v5 => (if v3 = 0 then anl (x_X2_makeRow v4) (fun r_394 => acl (x_X2_placeSeeds v1) (fun r_397 => acl (x_X2_placeOthers v1 v2) (fun r_406 => art 0))) else acl (x_X2_placePool v1) (fun r_415 => art 0))))))))) else anl (x_X1_ofClass a0 2) (fun r_424 => (if (1 : Int32) = 0 then acl (x_X1_put r_424 2) (fun r_428 => anl (x_X1_ofClass a0 3) (fun r_437 => acl (x_X1_put r_437 a1) (fun r_440 => xl_X2_placeAll_63 fuel a0 a1 1 a1 0 (fun v1 v2 v3 v4 v5 => (if v3 = 0 then anl (x_X2_makeRow v4) (fun r_465 => acl (x_X2_placeSeeds v1) (fun r_468 => acl (x_X2_placeOthers v1 v2) (fun r_477 => art 0))) else acl (x_X2_placePool v1) (fun r_486 => art 0)))))) else acl (x_X1_put r_424 1) (fun r_495 => anl (x_X1_ofClass a0 3) (fun r_504 => acl (x_X1_put r_504 a1) (fun r_507 => xl_X2_placeAll_63 fuel a0 a1 1 a1 0 (fun v1 v2 v3 v4 v5 => (if v3 = 0 then anl (x_X2_makeRow v4) (fun r_532 => acl (x_X2_placeSeeds v1) (fun r_535 => acl (x_X2_placeOthers v1 v2) (fun r_544 => art 0))) else acl (x_X2_placePool v1) (fun r_553 => art 0))))))))))
set_option maxHeartbeats 4000000 in
set_option maxRecDepth 100000 in
theorem n_X2_placeAll (l : Launch) (G : gG) (Z : gC) (Q : Nat → Nat) (D : Nat × Nat) (T : va_W) (u u1 : MS) (r : Int32) (C1 C2 : Nat) (a0 : Int32) (a1 : Int32) (sz : Nat) (hF : x_X2_placeAll a0 a1 u = some (r, u1, C1, C2)) : Met l yX2_placeAll (Cond.code yX2_placeAll cX2_placeAll 6 none :: wK) { frames := 7, cells := C1, slots := C2, locals := 180 } (va_Pc [.ref (Q 5), .int a0, .int a1] (cPM G Z Q D T u sz)) (cQv G Q T u1 (va_A (cW G Q D T u) sz)) C1 C2 (va_A (cW G Q D T u) sz) := by
  refine Met.ofW (cc := cX2_placeAll) (maxL := 6) (ret := none) (by decide) rfl ?_
  intro p e s m args below meth c s₁ B hml hv
  obtain ⟨rfl, rfl, hP, hB, hD0, hE⟩ := hv
  have hr := B.returns
  have hlocks := B.notSynchronized
  have hts := atoms_spec (ws := Cond.code yX2_placeAll cX2_placeAll 6 none :: wK) B.pre
  have hD := hD0.self (sz := s.heap.size)
  have hA : ∀ q : Nat, s.heap.size ≤ q → va_A (cW G Q D T u) s.heap.size q := fun q h => Or.inr h
  generalize va_A (cW G Q D T u) s.heap.size = A at hD hA hE ⊢
  have hC : cX p c cX2_placeAll 6 s m _ RX2 G Z A := ⟨B.exec, B.bytes, hml, findClass_of_methodNamed B.named, fun w h => hts w (List.mem_cons_of_mem _ h), hB, hE, hA⟩
  have hx := hC.1
  have hb := hC.2.1
  have hH : cH G Q D T A u s s.heap [] := ⟨hP, hD, va_S.rf⟩
  generalize hK1 : C1 = K1
  generalize hK2 : C2 = K2
  have hk1 : K1 = 0 + C1 := by omega
  have hk2 : K2 = 0 + C2 := by omega
  have hl := lv_entry ([.ref (Q 5), .int a0, .int a1]) (n := 6) (Nat.le_of_ble_eq_true rfl)
  rw [lg_entry_eq]
  generalize (lg_sl ([.ref (Q 5), .int a0, .int a1]) ++ List.replicate (6 - (lg_sl ([.ref (Q 5), .int a0, .int a1])).length) Slot.unset).toArray = ls at hl ⊢
  have hl : lv_has ls 6 [(0, .ref (Q 5)), (1, .int a0), (2, .int a1)] := hl
  unfold x_X2_placeAll at hF
  refine lv_iload_n hx hb dX2_placeAll_0 rfl (lv_at hl 2 rfl) ?_
  refine lv_iconst (v := 5) hx hb dX2_placeAll_1 (by decide) ?_
  refine lv_icmp_gt (tgt := 9) hx hb dX2_placeAll_2 (by decide) (fun c_1 => ?_) (fun c_1 => ?_)
  · rw [if_pos c_1] at hF
    refine lv_iconst (v := 0) hx hb dX2_placeAll_9 (by decide) ?_
    refine lv_istore_n (lv' := [(3, .int 0), (0, .ref (Q 5)), (1, .int a0), (2, .int a1)]) hx hb dX2_placeAll_10 rfl hl (by decide) rfl (fun ls hl => ?_)
    refine lv_iload_n hx hb dX2_placeAll_11 rfl (lv_at hl 0 rfl) ?_
    refine lv_if_eq (tgt := 19) hx hb dX2_placeAll_12 (by decide) (fun c_2 => ?_) (fun c_2 => ?_)
    · rw [if_pos c_2] at hF
      refine lv_iload_n hx hb dX2_placeAll_19 rfl (lv_at hl 3 rfl) ?_
      obtain ⟨r_3, u_4, h_5, hF⟩ := anl_some hF
      refine ccS_iB (As := [.int a1]) (rest := []) hC hH (n_X2_placesFor l G Z Q _ T u u_4 r_3 a1 _ h_5) ⟨wkc_X2_placesFor, wka232, wka449, wka746⟩ kSX2_placesFor ⟨Nat.le_of_ble_eq_true rfl, Nat.le_of_ble_eq_true rfl⟩ ⟨by show _ ≤ K1; omega, by show _ ≤ K2; omega⟩ rfl hl.1 rfl (Nat.le_of_ble_eq_true rfl) dX2_placeAll_20 (fun D H locs hH => ?_)
      refine lv_istore (lv' := [(4, .int r_3), (3, .int 0), (0, .ref (Q 5)), (1, .int a0), (2, .int a1)]) hx hb dX2_placeAll_23 hl (by decide) rfl (fun ls hl => ?_)
      refine lv_aload_n hx hb dX2_placeAll_25 rfl (lv_at hl 2 rfl) ?_
      refine cg_X2_9 hC hH dX2_placeAll_26 ?_
      refine lv_iload_n hx hb dX2_placeAll_29 rfl (lv_at hl 3 rfl) ?_
      refine lv_iconst (v := 2) hx hb dX2_placeAll_30 (by decide) ?_
      obtain ⟨r_6, u_7, h_8, hF⟩ := anl_some hF
      refine ccS_iB (As := [.int a0, .int 2]) (rest := [.ref (Q 1)]) hC hH (n_X1_ofClass l G Z Q _ T u_4 u_7 r_6 a0 2 _ h_8) ⟨wkc_X1_ofClass, wka233, wka435, wka745⟩ kSX1_ofClass ⟨Nat.le_of_ble_eq_true rfl, Nat.le_of_ble_eq_true rfl⟩ ⟨by show _ ≤ K1; omega, by show _ ≤ K2; omega⟩ rfl hl.1 rfl (Nat.le_of_ble_eq_true rfl) dX2_placeAll_31 (fun D H locs hH => ?_)
      refine lv_iload_n hx hb dX2_placeAll_34 rfl (lv_at hl 1 rfl) ?_
      refine lv_if_eq (tgt := 42) hx hb dX2_placeAll_35 (by decide) (fun c_9 => ?_) (fun c_9 => ?_)
      · rw [if_pos c_9] at hF
        refine lv_iconst (v := 2) hx hb dX2_placeAll_42 (by decide) ?_
        obtain ⟨r_10, u_11, k_13, k_14, k_15, k_16, h_12, hF, e_17, e_18⟩ := acl_some hF
        refine ccV_vA (q0 := 1) (As := [.int r_6, .int 2]) (rest := []) hC hH (n_X1_put l G Z Q _ T u_7 u_11 r_10 k_13 k_14 r_6 2 _ h_12) rfl rfl ⟨wkc_X1_put, wka234, wka439, wka440, wka745⟩ kVX1_put ⟨Nat.le_of_ble_eq_true rfl, Nat.le_of_ble_eq_true rfl⟩ ⟨by show _ ≤ K1; omega, by show _ ≤ K2; omega⟩ rfl hl.1 rfl (Nat.le_of_ble_eq_true rfl) dX2_placeAll_43 (fun D H locs hH => ?_)
        have hk1 := (hk1.trans (congrArg (_ + ·) e_17)).trans (Nat.add_assoc _ _ _).symm
        have hk2 := (hk2.trans (congrArg (_ + ·) e_18)).trans (Nat.add_assoc _ _ _).symm
        refine lv_aload_n hx hb dX2_placeAll_46 rfl (lv_at hl 2 rfl) ?_
        refine cg_X2_9 hC hH dX2_placeAll_47 ?_
        refine lv_iload_n hx hb dX2_placeAll_50 rfl (lv_at hl 3 rfl) ?_
        refine lv_iconst (v := 3) hx hb dX2_placeAll_51 (by decide) ?_
        obtain ⟨r_19, u_20, h_21, hF⟩ := anl_some hF
        refine ccS_iB (As := [.int a0, .int 3]) (rest := [.ref (Q 1)]) hC hH (n_X1_ofClass l G Z Q _ T u_11 u_20 r_19 a0 3 _ h_21) ⟨wkc_X1_ofClass, wka233, wka435, wka745⟩ kSX1_ofClass ⟨Nat.le_of_ble_eq_true rfl, Nat.le_of_ble_eq_true rfl⟩ ⟨by show _ ≤ K1; omega, by show _ ≤ K2; omega⟩ rfl hl.1 rfl (Nat.le_of_ble_eq_true rfl) dX2_placeAll_52 (fun D H locs hH => ?_)
        refine lv_iload hx hb dX2_placeAll_55 (lv_at hl 0 rfl) ?_
        obtain ⟨r_22, u_23, k_25, k_26, k_27, k_28, h_24, hF, e_29, e_30⟩ := acl_some hF
        refine ccV_vA (q0 := 1) (As := [.int r_19, .int r_3]) (rest := []) hC hH (n_X1_put l G Z Q _ T u_20 u_23 r_22 k_25 k_26 r_19 r_3 _ h_24) rfl rfl ⟨wkc_X1_put, wka234, wka439, wka440, wka745⟩ kVX1_put ⟨Nat.le_of_ble_eq_true rfl, Nat.le_of_ble_eq_true rfl⟩ ⟨by show _ ≤ K1; omega, by show _ ≤ K2; omega⟩ rfl hl.1 rfl (Nat.le_of_ble_eq_true rfl) dX2_placeAll_57 (fun D H locs hH => ?_)
        have hk1 := (hk1.trans (congrArg (_ + ·) e_29)).trans (Nat.add_assoc _ _ _).symm
        have hk2 := (hk2.trans (congrArg (_ + ·) e_30)).trans (Nat.add_assoc _ _ _).symm
        refine lv_iconst (v := 0) hx hb dX2_placeAll_60 (by decide) ?_
        refine lv_istore (lv' := [(5, .int 0), (4, .int r_3), (3, .int 0), (0, .ref (Q 5)), (1, .int a0), (2, .int a1)]) hx hb dX2_placeAll_61 hl (by decide) rfl (fun ls hl => ?_)
        have hL63 : ∀ (K63_92 : Int32 → Int32 → Int32 → Int32 → Int32 → AG Int32), (∀ (v1 v2 v3 v4 v5 : Int32) (u : MS) (D : Nat × Nat) (H : Heap) (locs : List Loc) (ls : Array Slot) (cells slots C1 C2 : Nat), lv_has ls 6 [(0, .ref (Q 5)), (1, .int v1), (2, .int v2), (3, .int v3), (4, .int v4), (5, .int v5)] → cH G Q D T A u s H locs → K63_92 v1 v2 v3 v4 v5 u = some (r, u1, C1, C2) → K1 = cells + C1 → K2 = slots + C2 → W p l e (headSpec (Cond.code yX2_placeAll cX2_placeAll 6 none :: wK) { frames := 7, cells := K1, slots := K2, locals := 180 }).room s m [.ref (Q 5), .int a0, .int a1].toArray below meth c H locs cells slots (MQ below (cQv G Q T u1 A) [.ref (Q 5), .int a0, .int a1].toArray s K1 K2 A) (F0 m 92 ls [])) → ∀ (n63 : Nat) (v1 v2 v3 v4 v5 : Int32) (u : MS) (D : Nat × Nat) (H : Heap) (locs : List Loc) (ls : Array Slot) (cells slots C1 C2 : Nat), lv_has ls 6 [(0, .ref (Q 5)), (1, .int v1), (2, .int v2), (3, .int v3), (4, .int v4), (5, .int v5)] → cH G Q D T A u s H locs → xl_X2_placeAll_63 n63 v1 v2 v3 v4 v5 K63_92 u = some (r, u1, C1, C2) → K1 = cells + C1 → K2 = slots + C2 → W p l e (headSpec (Cond.code yX2_placeAll cX2_placeAll 6 none :: wK) { frames := 7, cells := K1, slots := K2, locals := 180 }).room s m [.ref (Q 5), .int a0, .int a1].toArray below meth c H locs cells slots (MQ below (cQv G Q T u1 A) [.ref (Q 5), .int a0, .int a1].toArray s K1 K2 A) (F0 m 63 ls []) := by
          intro K63_92 hK63_92 n63
          induction n63 with
          | zero => intro v1 v2 v3 v4 v5 u D H locs ls cells slots C1 C2 hl hH hF; cases hF
          | succ n63 ih63 =>
            intro v1 v2 v3 v4 v5 u D H locs ls cells slots C1 C2 hl hH hF hk1 hk2
            unfold xl_X2_placeAll_63 at hF
            refine lv_iload hx hb dX2_placeAll_63 (lv_at hl 5 rfl) ?_
            refine lv_iload hx hb dX2_placeAll_65 (lv_at hl 4 rfl) ?_
            refine lv_icmp_ge (tgt := 92) hx hb dX2_placeAll_67 (by decide) (fun c_31 => ?_) (fun c_31 => ?_)
            · rw [if_pos c_31] at hF
              exact hK63_92 v1 v2 v3 v4 v5 u _ _ _ _ _ _ _ _ (lv_sub hl [0, 1, 2, 3, 4, 5] rfl) hH hF hk1 hk2
            · rw [if_neg c_31] at hF
              refine lv_aload_n hx hb dX2_placeAll_70 rfl (lv_at hl 0 rfl) ?_
              refine cg_X2_9 hC hH dX2_placeAll_71 ?_
              refine lv_iload_n hx hb dX2_placeAll_74 rfl (lv_at hl 1 rfl) ?_
              refine lv_iconst (v := 4) hx hb dX2_placeAll_75 (by decide) ?_
              refine lv_iload hx hb dX2_placeAll_76 (lv_at hl 5 rfl) ?_
              refine lv_iadd hx hb dX2_placeAll_78 ?_
              obtain ⟨r_32, u_33, h_34, hF⟩ := anl_some hF
              refine ccS_iB (As := [.int v1, .int (4 + v5)]) (rest := [.ref (Q 1)]) hC hH (n_X1_ofClass l G Z Q _ T u u_33 r_32 v1 (4 + v5) _ h_34) ⟨wkc_X1_ofClass, wka233, wka435, wka745⟩ kSX1_ofClass ⟨Nat.le_of_ble_eq_true rfl, Nat.le_of_ble_eq_true rfl⟩ ⟨by show _ ≤ K1; omega, by show _ ≤ K2; omega⟩ rfl hl.1 rfl (Nat.le_of_ble_eq_true rfl) dX2_placeAll_79 (fun D H locs hH => ?_)
              refine lv_iconst (v := (-1)) hx hb dX2_placeAll_82 (by decide) ?_
              obtain ⟨r_35, u_36, k_38, k_39, k_40, k_41, h_37, hF, e_42, e_43⟩ := acl_some hF
              refine ccV_vA (q0 := 1) (As := [.int r_32, .int (-1)]) (rest := []) hC hH (n_X1_put l G Z Q _ T u_33 u_36 r_35 k_38 k_39 r_32 (-1) _ h_37) rfl rfl ⟨wkc_X1_put, wka234, wka439, wka440, wka745⟩ kVX1_put ⟨Nat.le_of_ble_eq_true rfl, Nat.le_of_ble_eq_true rfl⟩ ⟨by show _ ≤ K1; omega, by show _ ≤ K2; omega⟩ rfl hl.1 rfl (Nat.le_of_ble_eq_true rfl) dX2_placeAll_83 (fun D H locs hH => ?_)
              have hk1 := (hk1.trans (congrArg (_ + ·) e_42)).trans (Nat.add_assoc _ _ _).symm
              have hk2 := (hk2.trans (congrArg (_ + ·) e_43)).trans (Nat.add_assoc _ _ _).symm
              obtain ⟨x_44, e_45, hF⟩ := ali_some hF
              refine lv_iinc (v := x_44) (lv' := [(5, .int x_44), (0, .ref (Q 5)), (1, .int v1), (2, .int v2), (3, .int v3), (4, .int v4)]) hx hb dX2_placeAll_86 hl (k := 5) rfl e_45 (by decide) rfl (fun ls hl => ?_)
              refine lv_goto (tgt := 63) hx hb dX2_placeAll_89 (by decide) ?_
              exact ih63 v1 v2 v3 v4 x_44 u_36 _ _ _ _ _ _ _ _ (lv_sub hl [1, 2, 3, 4, 5, 0] rfl) hH hF hk1 hk2
        refine hL63 _ (fun v1 v2 v3 v4 v5 u D H locs ls cells slots C1 C2 hl hH hF hk1 hk2 => ?_) fuel a0 a1 0 r_3 0 u_23 _ _ _ _ _ _ _ _ (lv_sub hl [3, 4, 5, 2, 1, 0] rfl) hH hF hk1 hk2
        refine lv_iload_n hx hb dX2_placeAll_92 rfl (lv_at hl 3 rfl) ?_
        refine lv_if_eq (tgt := 104) hx hb dX2_placeAll_93 (by decide) (fun c_46 => ?_) (fun c_46 => ?_)
        · rw [if_pos c_46] at hF
          refine lv_aload_n hx hb dX2_placeAll_104 rfl (lv_at hl 0 rfl) ?_
          refine lv_iload hx hb dX2_placeAll_105 (lv_at hl 4 rfl) ?_
          obtain ⟨r_47, u_48, h_49, hF⟩ := anl_some hF
          refine ccV_vB (q0 := 5) (As := [.int v4]) (rest := []) hC hH (n_X2_makeRow l G Z Q _ T u u_48 r_47 v4 _ h_49) rfl rfl ⟨wkc_X2_makeRow, wka240, wka454, wka455, wka746⟩ kVX2_makeRow ⟨Nat.le_of_ble_eq_true rfl, Nat.le_of_ble_eq_true rfl⟩ ⟨by show _ ≤ K1; omega, by show _ ≤ K2; omega⟩ rfl hl.1 rfl (Nat.le_of_ble_eq_true rfl) dX2_placeAll_107 (fun D H locs hH => ?_)
          refine lv_aload_n hx hb dX2_placeAll_110 rfl (lv_at hl 0 rfl) ?_
          refine lv_iload_n hx hb dX2_placeAll_111 rfl (lv_at hl 1 rfl) ?_
          obtain ⟨r_50, u_51, k_53, k_54, k_55, k_56, h_52, hF, e_57, e_58⟩ := acl_some hF
          refine ccV_vA (q0 := 5) (As := [.int v1]) (rest := []) hC hH (n_X2_placeSeeds l G Z Q _ T u_48 u_51 r_50 k_53 k_54 v1 _ h_52) rfl rfl ⟨wkc_X2_placeSeeds, wka243, wka458, wka459, wka746⟩ kVX2_placeSeeds ⟨Nat.le_of_ble_eq_true rfl, Nat.le_of_ble_eq_true rfl⟩ ⟨by show _ ≤ K1; omega, by show _ ≤ K2; omega⟩ rfl hl.1 rfl (Nat.le_of_ble_eq_true rfl) dX2_placeAll_112 (fun D H locs hH => ?_)
          have hk1 := (hk1.trans (congrArg (_ + ·) e_57)).trans (Nat.add_assoc _ _ _).symm
          have hk2 := (hk2.trans (congrArg (_ + ·) e_58)).trans (Nat.add_assoc _ _ _).symm
          refine lv_aload_n hx hb dX2_placeAll_115 rfl (lv_at hl 0 rfl) ?_
          refine lv_iload_n hx hb dX2_placeAll_116 rfl (lv_at hl 1 rfl) ?_
          refine lv_iload_n hx hb dX2_placeAll_117 rfl (lv_at hl 2 rfl) ?_
          obtain ⟨r_59, u_60, k_62, k_63, k_64, k_65, h_61, hF, e_66, e_67⟩ := acl_some hF
          refine ccV_vA (q0 := 5) (As := [.int v1, .int v2]) (rest := []) hC hH (n_X2_placeOthers l G Z Q _ T u_51 u_60 r_59 k_62 k_63 v1 v2 _ h_61) rfl rfl ⟨wkc_X2_placeOthers, wka244, wka460, wka461, wka746⟩ kVX2_placeOthers ⟨Nat.le_of_ble_eq_true rfl, Nat.le_of_ble_eq_true rfl⟩ ⟨by show _ ≤ K1; omega, by show _ ≤ K2; omega⟩ rfl hl.1 rfl (Nat.le_of_ble_eq_true rfl) dX2_placeAll_118 (fun D H locs hH => ?_)
          have hk1 := (hk1.trans (congrArg (_ + ·) e_66)).trans (Nat.add_assoc _ _ _).symm
          have hk2 := (hk2.trans (congrArg (_ + ·) e_67)).trans (Nat.add_assoc _ _ _).symm
          exact cr_vA hC hH hr (art_eq hF) (by omega) (by omega) dX2_placeAll_121 hlocks
        · rw [if_neg c_46] at hF
          refine lv_aload_n hx hb dX2_placeAll_96 rfl (lv_at hl 0 rfl) ?_
          refine lv_iload_n hx hb dX2_placeAll_97 rfl (lv_at hl 1 rfl) ?_
          obtain ⟨r_68, u_69, k_71, k_72, k_73, k_74, h_70, hF, e_75, e_76⟩ := acl_some hF
          refine ccV_vA (q0 := 5) (As := [.int v1]) (rest := []) hC hH (n_X2_placePool l G Z Q _ T u u_69 r_68 k_71 k_72 v1 _ h_70) rfl rfl ⟨wkc_X2_placePool, wka235, wka450, wka451, wka746⟩ kVX2_placePool ⟨Nat.le_of_ble_eq_true rfl, Nat.le_of_ble_eq_true rfl⟩ ⟨by show _ ≤ K1; omega, by show _ ≤ K2; omega⟩ rfl hl.1 rfl (Nat.le_of_ble_eq_true rfl) dX2_placeAll_98 (fun D H locs hH => ?_)
          have hk1 := (hk1.trans (congrArg (_ + ·) e_75)).trans (Nat.add_assoc _ _ _).symm
          have hk2 := (hk2.trans (congrArg (_ + ·) e_76)).trans (Nat.add_assoc _ _ _).symm
          refine lv_goto (tgt := 121) hx hb dX2_placeAll_101 (by decide) ?_
          exact cr_vA hC hH hr (art_eq hF) (by omega) (by omega) dX2_placeAll_121 hlocks
      · rw [if_neg c_9] at hF
        refine lv_iconst (v := 1) hx hb dX2_placeAll_38 (by decide) ?_
        refine lv_goto (tgt := 43) hx hb dX2_placeAll_39 (by decide) ?_
        obtain ⟨r_77, u_78, k_80, k_81, k_82, k_83, h_79, hF, e_84, e_85⟩ := acl_some hF
        refine ccV_vA (q0 := 1) (As := [.int r_6, .int 1]) (rest := []) hC hH (n_X1_put l G Z Q _ T u_7 u_78 r_77 k_80 k_81 r_6 1 _ h_79) rfl rfl ⟨wkc_X1_put, wka234, wka439, wka440, wka745⟩ kVX1_put ⟨Nat.le_of_ble_eq_true rfl, Nat.le_of_ble_eq_true rfl⟩ ⟨by show _ ≤ K1; omega, by show _ ≤ K2; omega⟩ rfl hl.1 rfl (Nat.le_of_ble_eq_true rfl) dX2_placeAll_43 (fun D H locs hH => ?_)
        have hk1 := (hk1.trans (congrArg (_ + ·) e_84)).trans (Nat.add_assoc _ _ _).symm
        have hk2 := (hk2.trans (congrArg (_ + ·) e_85)).trans (Nat.add_assoc _ _ _).symm
        refine lv_aload_n hx hb dX2_placeAll_46 rfl (lv_at hl 2 rfl) ?_
        refine cg_X2_9 hC hH dX2_placeAll_47 ?_
        refine lv_iload_n hx hb dX2_placeAll_50 rfl (lv_at hl 3 rfl) ?_
        refine lv_iconst (v := 3) hx hb dX2_placeAll_51 (by decide) ?_
        obtain ⟨r_86, u_87, h_88, hF⟩ := anl_some hF
        refine ccS_iB (As := [.int a0, .int 3]) (rest := [.ref (Q 1)]) hC hH (n_X1_ofClass l G Z Q _ T u_78 u_87 r_86 a0 3 _ h_88) ⟨wkc_X1_ofClass, wka233, wka435, wka745⟩ kSX1_ofClass ⟨Nat.le_of_ble_eq_true rfl, Nat.le_of_ble_eq_true rfl⟩ ⟨by show _ ≤ K1; omega, by show _ ≤ K2; omega⟩ rfl hl.1 rfl (Nat.le_of_ble_eq_true rfl) dX2_placeAll_52 (fun D H locs hH => ?_)
        refine lv_iload hx hb dX2_placeAll_55 (lv_at hl 0 rfl) ?_
        obtain ⟨r_89, u_90, k_92, k_93, k_94, k_95, h_91, hF, e_96, e_97⟩ := acl_some hF
        refine ccV_vA (q0 := 1) (As := [.int r_86, .int r_3]) (rest := []) hC hH (n_X1_put l G Z Q _ T u_87 u_90 r_89 k_92 k_93 r_86 r_3 _ h_91) rfl rfl ⟨wkc_X1_put, wka234, wka439, wka440, wka745⟩ kVX1_put ⟨Nat.le_of_ble_eq_true rfl, Nat.le_of_ble_eq_true rfl⟩ ⟨by show _ ≤ K1; omega, by show _ ≤ K2; omega⟩ rfl hl.1 rfl (Nat.le_of_ble_eq_true rfl) dX2_placeAll_57 (fun D H locs hH => ?_)
        have hk1 := (hk1.trans (congrArg (_ + ·) e_96)).trans (Nat.add_assoc _ _ _).symm
        have hk2 := (hk2.trans (congrArg (_ + ·) e_97)).trans (Nat.add_assoc _ _ _).symm
        refine lv_iconst (v := 0) hx hb dX2_placeAll_60 (by decide) ?_
        refine lv_istore (lv' := [(5, .int 0), (4, .int r_3), (3, .int 0), (0, .ref (Q 5)), (1, .int a0), (2, .int a1)]) hx hb dX2_placeAll_61 hl (by decide) rfl (fun ls hl => ?_)
        have hL63 : ∀ (K63_92 : Int32 → Int32 → Int32 → Int32 → Int32 → AG Int32), (∀ (v1 v2 v3 v4 v5 : Int32) (u : MS) (D : Nat × Nat) (H : Heap) (locs : List Loc) (ls : Array Slot) (cells slots C1 C2 : Nat), lv_has ls 6 [(0, .ref (Q 5)), (1, .int v1), (2, .int v2), (3, .int v3), (4, .int v4), (5, .int v5)] → cH G Q D T A u s H locs → K63_92 v1 v2 v3 v4 v5 u = some (r, u1, C1, C2) → K1 = cells + C1 → K2 = slots + C2 → W p l e (headSpec (Cond.code yX2_placeAll cX2_placeAll 6 none :: wK) { frames := 7, cells := K1, slots := K2, locals := 180 }).room s m [.ref (Q 5), .int a0, .int a1].toArray below meth c H locs cells slots (MQ below (cQv G Q T u1 A) [.ref (Q 5), .int a0, .int a1].toArray s K1 K2 A) (F0 m 92 ls [])) → ∀ (n63 : Nat) (v1 v2 v3 v4 v5 : Int32) (u : MS) (D : Nat × Nat) (H : Heap) (locs : List Loc) (ls : Array Slot) (cells slots C1 C2 : Nat), lv_has ls 6 [(0, .ref (Q 5)), (1, .int v1), (2, .int v2), (3, .int v3), (4, .int v4), (5, .int v5)] → cH G Q D T A u s H locs → xl_X2_placeAll_63 n63 v1 v2 v3 v4 v5 K63_92 u = some (r, u1, C1, C2) → K1 = cells + C1 → K2 = slots + C2 → W p l e (headSpec (Cond.code yX2_placeAll cX2_placeAll 6 none :: wK) { frames := 7, cells := K1, slots := K2, locals := 180 }).room s m [.ref (Q 5), .int a0, .int a1].toArray below meth c H locs cells slots (MQ below (cQv G Q T u1 A) [.ref (Q 5), .int a0, .int a1].toArray s K1 K2 A) (F0 m 63 ls []) := by
          intro K63_92 hK63_92 n63
          induction n63 with
          | zero => intro v1 v2 v3 v4 v5 u D H locs ls cells slots C1 C2 hl hH hF; cases hF
          | succ n63 ih63 =>
            intro v1 v2 v3 v4 v5 u D H locs ls cells slots C1 C2 hl hH hF hk1 hk2
            unfold xl_X2_placeAll_63 at hF
            refine lv_iload hx hb dX2_placeAll_63 (lv_at hl 5 rfl) ?_
            refine lv_iload hx hb dX2_placeAll_65 (lv_at hl 4 rfl) ?_
            refine lv_icmp_ge (tgt := 92) hx hb dX2_placeAll_67 (by decide) (fun c_98 => ?_) (fun c_98 => ?_)
            · rw [if_pos c_98] at hF
              exact hK63_92 v1 v2 v3 v4 v5 u _ _ _ _ _ _ _ _ (lv_sub hl [0, 1, 2, 3, 4, 5] rfl) hH hF hk1 hk2
            · rw [if_neg c_98] at hF
              refine lv_aload_n hx hb dX2_placeAll_70 rfl (lv_at hl 0 rfl) ?_
              refine cg_X2_9 hC hH dX2_placeAll_71 ?_
              refine lv_iload_n hx hb dX2_placeAll_74 rfl (lv_at hl 1 rfl) ?_
              refine lv_iconst (v := 4) hx hb dX2_placeAll_75 (by decide) ?_
              refine lv_iload hx hb dX2_placeAll_76 (lv_at hl 5 rfl) ?_
              refine lv_iadd hx hb dX2_placeAll_78 ?_
              obtain ⟨r_99, u_100, h_101, hF⟩ := anl_some hF
              refine ccS_iB (As := [.int v1, .int (4 + v5)]) (rest := [.ref (Q 1)]) hC hH (n_X1_ofClass l G Z Q _ T u u_100 r_99 v1 (4 + v5) _ h_101) ⟨wkc_X1_ofClass, wka233, wka435, wka745⟩ kSX1_ofClass ⟨Nat.le_of_ble_eq_true rfl, Nat.le_of_ble_eq_true rfl⟩ ⟨by show _ ≤ K1; omega, by show _ ≤ K2; omega⟩ rfl hl.1 rfl (Nat.le_of_ble_eq_true rfl) dX2_placeAll_79 (fun D H locs hH => ?_)
              refine lv_iconst (v := (-1)) hx hb dX2_placeAll_82 (by decide) ?_
              obtain ⟨r_102, u_103, k_105, k_106, k_107, k_108, h_104, hF, e_109, e_110⟩ := acl_some hF
              refine ccV_vA (q0 := 1) (As := [.int r_99, .int (-1)]) (rest := []) hC hH (n_X1_put l G Z Q _ T u_100 u_103 r_102 k_105 k_106 r_99 (-1) _ h_104) rfl rfl ⟨wkc_X1_put, wka234, wka439, wka440, wka745⟩ kVX1_put ⟨Nat.le_of_ble_eq_true rfl, Nat.le_of_ble_eq_true rfl⟩ ⟨by show _ ≤ K1; omega, by show _ ≤ K2; omega⟩ rfl hl.1 rfl (Nat.le_of_ble_eq_true rfl) dX2_placeAll_83 (fun D H locs hH => ?_)
              have hk1 := (hk1.trans (congrArg (_ + ·) e_109)).trans (Nat.add_assoc _ _ _).symm
              have hk2 := (hk2.trans (congrArg (_ + ·) e_110)).trans (Nat.add_assoc _ _ _).symm
              obtain ⟨x_111, e_112, hF⟩ := ali_some hF
              refine lv_iinc (v := x_111) (lv' := [(5, .int x_111), (0, .ref (Q 5)), (1, .int v1), (2, .int v2), (3, .int v3), (4, .int v4)]) hx hb dX2_placeAll_86 hl (k := 5) rfl e_112 (by decide) rfl (fun ls hl => ?_)
              refine lv_goto (tgt := 63) hx hb dX2_placeAll_89 (by decide) ?_
              exact ih63 v1 v2 v3 v4 x_111 u_103 _ _ _ _ _ _ _ _ (lv_sub hl [1, 2, 3, 4, 5, 0] rfl) hH hF hk1 hk2
        refine hL63 _ (fun v1 v2 v3 v4 v5 u D H locs ls cells slots C1 C2 hl hH hF hk1 hk2 => ?_) fuel a0 a1 0 r_3 0 u_90 _ _ _ _ _ _ _ _ (lv_sub hl [3, 4, 5, 2, 1, 0] rfl) hH hF hk1 hk2
        refine lv_iload_n hx hb dX2_placeAll_92 rfl (lv_at hl 3 rfl) ?_
        refine lv_if_eq (tgt := 104) hx hb dX2_placeAll_93 (by decide) (fun c_113 => ?_) (fun c_113 => ?_)
        · rw [if_pos c_113] at hF
          refine lv_aload_n hx hb dX2_placeAll_104 rfl (lv_at hl 0 rfl) ?_
          refine lv_iload hx hb dX2_placeAll_105 (lv_at hl 4 rfl) ?_
          obtain ⟨r_114, u_115, h_116, hF⟩ := anl_some hF
          refine ccV_vB (q0 := 5) (As := [.int v4]) (rest := []) hC hH (n_X2_makeRow l G Z Q _ T u u_115 r_114 v4 _ h_116) rfl rfl ⟨wkc_X2_makeRow, wka240, wka454, wka455, wka746⟩ kVX2_makeRow ⟨Nat.le_of_ble_eq_true rfl, Nat.le_of_ble_eq_true rfl⟩ ⟨by show _ ≤ K1; omega, by show _ ≤ K2; omega⟩ rfl hl.1 rfl (Nat.le_of_ble_eq_true rfl) dX2_placeAll_107 (fun D H locs hH => ?_)
          refine lv_aload_n hx hb dX2_placeAll_110 rfl (lv_at hl 0 rfl) ?_
          refine lv_iload_n hx hb dX2_placeAll_111 rfl (lv_at hl 1 rfl) ?_
          obtain ⟨r_117, u_118, k_120, k_121, k_122, k_123, h_119, hF, e_124, e_125⟩ := acl_some hF
          refine ccV_vA (q0 := 5) (As := [.int v1]) (rest := []) hC hH (n_X2_placeSeeds l G Z Q _ T u_115 u_118 r_117 k_120 k_121 v1 _ h_119) rfl rfl ⟨wkc_X2_placeSeeds, wka243, wka458, wka459, wka746⟩ kVX2_placeSeeds ⟨Nat.le_of_ble_eq_true rfl, Nat.le_of_ble_eq_true rfl⟩ ⟨by show _ ≤ K1; omega, by show _ ≤ K2; omega⟩ rfl hl.1 rfl (Nat.le_of_ble_eq_true rfl) dX2_placeAll_112 (fun D H locs hH => ?_)
          have hk1 := (hk1.trans (congrArg (_ + ·) e_124)).trans (Nat.add_assoc _ _ _).symm
          have hk2 := (hk2.trans (congrArg (_ + ·) e_125)).trans (Nat.add_assoc _ _ _).symm
          refine lv_aload_n hx hb dX2_placeAll_115 rfl (lv_at hl 0 rfl) ?_
          refine lv_iload_n hx hb dX2_placeAll_116 rfl (lv_at hl 1 rfl) ?_
          refine lv_iload_n hx hb dX2_placeAll_117 rfl (lv_at hl 2 rfl) ?_
          obtain ⟨r_126, u_127, k_129, k_130, k_131, k_132, h_128, hF, e_133, e_134⟩ := acl_some hF
          refine ccV_vA (q0 := 5) (As := [.int v1, .int v2]) (rest := []) hC hH (n_X2_placeOthers l G Z Q _ T u_118 u_127 r_126 k_129 k_130 v1 v2 _ h_128) rfl rfl ⟨wkc_X2_placeOthers, wka244, wka460, wka461, wka746⟩ kVX2_placeOthers ⟨Nat.le_of_ble_eq_true rfl, Nat.le_of_ble_eq_true rfl⟩ ⟨by show _ ≤ K1; omega, by show _ ≤ K2; omega⟩ rfl hl.1 rfl (Nat.le_of_ble_eq_true rfl) dX2_placeAll_118 (fun D H locs hH => ?_)
          have hk1 := (hk1.trans (congrArg (_ + ·) e_133)).trans (Nat.add_assoc _ _ _).symm
          have hk2 := (hk2.trans (congrArg (_ + ·) e_134)).trans (Nat.add_assoc _ _ _).symm
          exact cr_vA hC hH hr (art_eq hF) (by omega) (by omega) dX2_placeAll_121 hlocks
        · rw [if_neg c_113] at hF
          refine lv_aload_n hx hb dX2_placeAll_96 rfl (lv_at hl 0 rfl) ?_
          refine lv_iload_n hx hb dX2_placeAll_97 rfl (lv_at hl 1 rfl) ?_
          obtain ⟨r_135, u_136, k_138, k_139, k_140, k_141, h_137, hF, e_142, e_143⟩ := acl_some hF
          refine ccV_vA (q0 := 5) (As := [.int v1]) (rest := []) hC hH (n_X2_placePool l G Z Q _ T u u_136 r_135 k_138 k_139 v1 _ h_137) rfl rfl ⟨wkc_X2_placePool, wka235, wka450, wka451, wka746⟩ kVX2_placePool ⟨Nat.le_of_ble_eq_true rfl, Nat.le_of_ble_eq_true rfl⟩ ⟨by show _ ≤ K1; omega, by show _ ≤ K2; omega⟩ rfl hl.1 rfl (Nat.le_of_ble_eq_true rfl) dX2_placeAll_98 (fun D H locs hH => ?_)
          have hk1 := (hk1.trans (congrArg (_ + ·) e_142)).trans (Nat.add_assoc _ _ _).symm
          have hk2 := (hk2.trans (congrArg (_ + ·) e_143)).trans (Nat.add_assoc _ _ _).symm
          refine lv_goto (tgt := 121) hx hb dX2_placeAll_101 (by decide) ?_
          exact cr_vA hC hH hr (art_eq hF) (by omega) (by omega) dX2_placeAll_121 hlocks
    · rw [if_neg c_2] at hF
      refine lv_iload_n hx hb dX2_placeAll_15 rfl (lv_at hl 3 rfl) ?_
      refine lv_goto (tgt := 23) hx hb dX2_placeAll_16 (by decide) ?_
      refine lv_istore (lv' := [(4, .int a1), (3, .int 0), (0, .ref (Q 5)), (1, .int a0), (2, .int a1)]) hx hb dX2_placeAll_23 hl (by decide) rfl (fun ls hl => ?_)
      refine lv_aload_n hx hb dX2_placeAll_25 rfl (lv_at hl 2 rfl) ?_
      refine cg_X2_9 hC hH dX2_placeAll_26 ?_
      refine lv_iload_n hx hb dX2_placeAll_29 rfl (lv_at hl 3 rfl) ?_
      refine lv_iconst (v := 2) hx hb dX2_placeAll_30 (by decide) ?_
      obtain ⟨r_144, u_145, h_146, hF⟩ := anl_some hF
      refine ccS_iB (As := [.int a0, .int 2]) (rest := [.ref (Q 1)]) hC hH (n_X1_ofClass l G Z Q _ T u u_145 r_144 a0 2 _ h_146) ⟨wkc_X1_ofClass, wka233, wka435, wka745⟩ kSX1_ofClass ⟨Nat.le_of_ble_eq_true rfl, Nat.le_of_ble_eq_true rfl⟩ ⟨by show _ ≤ K1; omega, by show _ ≤ K2; omega⟩ rfl hl.1 rfl (Nat.le_of_ble_eq_true rfl) dX2_placeAll_31 (fun D H locs hH => ?_)
      refine lv_iload_n hx hb dX2_placeAll_34 rfl (lv_at hl 1 rfl) ?_
      refine lv_if_eq (tgt := 42) hx hb dX2_placeAll_35 (by decide) (fun c_147 => ?_) (fun c_147 => ?_)
      · rw [if_pos c_147] at hF
        refine lv_iconst (v := 2) hx hb dX2_placeAll_42 (by decide) ?_
        obtain ⟨r_148, u_149, k_151, k_152, k_153, k_154, h_150, hF, e_155, e_156⟩ := acl_some hF
        refine ccV_vA (q0 := 1) (As := [.int r_144, .int 2]) (rest := []) hC hH (n_X1_put l G Z Q _ T u_145 u_149 r_148 k_151 k_152 r_144 2 _ h_150) rfl rfl ⟨wkc_X1_put, wka234, wka439, wka440, wka745⟩ kVX1_put ⟨Nat.le_of_ble_eq_true rfl, Nat.le_of_ble_eq_true rfl⟩ ⟨by show _ ≤ K1; omega, by show _ ≤ K2; omega⟩ rfl hl.1 rfl (Nat.le_of_ble_eq_true rfl) dX2_placeAll_43 (fun D H locs hH => ?_)
        have hk1 := (hk1.trans (congrArg (_ + ·) e_155)).trans (Nat.add_assoc _ _ _).symm
        have hk2 := (hk2.trans (congrArg (_ + ·) e_156)).trans (Nat.add_assoc _ _ _).symm
        refine lv_aload_n hx hb dX2_placeAll_46 rfl (lv_at hl 2 rfl) ?_
        refine cg_X2_9 hC hH dX2_placeAll_47 ?_
        refine lv_iload_n hx hb dX2_placeAll_50 rfl (lv_at hl 3 rfl) ?_
        refine lv_iconst (v := 3) hx hb dX2_placeAll_51 (by decide) ?_
        obtain ⟨r_157, u_158, h_159, hF⟩ := anl_some hF
        refine ccS_iB (As := [.int a0, .int 3]) (rest := [.ref (Q 1)]) hC hH (n_X1_ofClass l G Z Q _ T u_149 u_158 r_157 a0 3 _ h_159) ⟨wkc_X1_ofClass, wka233, wka435, wka745⟩ kSX1_ofClass ⟨Nat.le_of_ble_eq_true rfl, Nat.le_of_ble_eq_true rfl⟩ ⟨by show _ ≤ K1; omega, by show _ ≤ K2; omega⟩ rfl hl.1 rfl (Nat.le_of_ble_eq_true rfl) dX2_placeAll_52 (fun D H locs hH => ?_)
        refine lv_iload hx hb dX2_placeAll_55 (lv_at hl 0 rfl) ?_
        obtain ⟨r_160, u_161, k_163, k_164, k_165, k_166, h_162, hF, e_167, e_168⟩ := acl_some hF
        refine ccV_vA (q0 := 1) (As := [.int r_157, .int a1]) (rest := []) hC hH (n_X1_put l G Z Q _ T u_158 u_161 r_160 k_163 k_164 r_157 a1 _ h_162) rfl rfl ⟨wkc_X1_put, wka234, wka439, wka440, wka745⟩ kVX1_put ⟨Nat.le_of_ble_eq_true rfl, Nat.le_of_ble_eq_true rfl⟩ ⟨by show _ ≤ K1; omega, by show _ ≤ K2; omega⟩ rfl hl.1 rfl (Nat.le_of_ble_eq_true rfl) dX2_placeAll_57 (fun D H locs hH => ?_)
        have hk1 := (hk1.trans (congrArg (_ + ·) e_167)).trans (Nat.add_assoc _ _ _).symm
        have hk2 := (hk2.trans (congrArg (_ + ·) e_168)).trans (Nat.add_assoc _ _ _).symm
        refine lv_iconst (v := 0) hx hb dX2_placeAll_60 (by decide) ?_
        refine lv_istore (lv' := [(5, .int 0), (4, .int a1), (3, .int 0), (0, .ref (Q 5)), (1, .int a0), (2, .int a1)]) hx hb dX2_placeAll_61 hl (by decide) rfl (fun ls hl => ?_)
        have hL63 : ∀ (K63_92 : Int32 → Int32 → Int32 → Int32 → Int32 → AG Int32), (∀ (v1 v2 v3 v4 v5 : Int32) (u : MS) (D : Nat × Nat) (H : Heap) (locs : List Loc) (ls : Array Slot) (cells slots C1 C2 : Nat), lv_has ls 6 [(0, .ref (Q 5)), (1, .int v1), (2, .int v2), (3, .int v3), (4, .int v4), (5, .int v5)] → cH G Q D T A u s H locs → K63_92 v1 v2 v3 v4 v5 u = some (r, u1, C1, C2) → K1 = cells + C1 → K2 = slots + C2 → W p l e (headSpec (Cond.code yX2_placeAll cX2_placeAll 6 none :: wK) { frames := 7, cells := K1, slots := K2, locals := 180 }).room s m [.ref (Q 5), .int a0, .int a1].toArray below meth c H locs cells slots (MQ below (cQv G Q T u1 A) [.ref (Q 5), .int a0, .int a1].toArray s K1 K2 A) (F0 m 92 ls [])) → ∀ (n63 : Nat) (v1 v2 v3 v4 v5 : Int32) (u : MS) (D : Nat × Nat) (H : Heap) (locs : List Loc) (ls : Array Slot) (cells slots C1 C2 : Nat), lv_has ls 6 [(0, .ref (Q 5)), (1, .int v1), (2, .int v2), (3, .int v3), (4, .int v4), (5, .int v5)] → cH G Q D T A u s H locs → xl_X2_placeAll_63 n63 v1 v2 v3 v4 v5 K63_92 u = some (r, u1, C1, C2) → K1 = cells + C1 → K2 = slots + C2 → W p l e (headSpec (Cond.code yX2_placeAll cX2_placeAll 6 none :: wK) { frames := 7, cells := K1, slots := K2, locals := 180 }).room s m [.ref (Q 5), .int a0, .int a1].toArray below meth c H locs cells slots (MQ below (cQv G Q T u1 A) [.ref (Q 5), .int a0, .int a1].toArray s K1 K2 A) (F0 m 63 ls []) := by
          intro K63_92 hK63_92 n63
          induction n63 with
          | zero => intro v1 v2 v3 v4 v5 u D H locs ls cells slots C1 C2 hl hH hF; cases hF
          | succ n63 ih63 =>
            intro v1 v2 v3 v4 v5 u D H locs ls cells slots C1 C2 hl hH hF hk1 hk2
            unfold xl_X2_placeAll_63 at hF
            refine lv_iload hx hb dX2_placeAll_63 (lv_at hl 5 rfl) ?_
            refine lv_iload hx hb dX2_placeAll_65 (lv_at hl 4 rfl) ?_
            refine lv_icmp_ge (tgt := 92) hx hb dX2_placeAll_67 (by decide) (fun c_169 => ?_) (fun c_169 => ?_)
            · rw [if_pos c_169] at hF
              exact hK63_92 v1 v2 v3 v4 v5 u _ _ _ _ _ _ _ _ (lv_sub hl [0, 1, 2, 3, 4, 5] rfl) hH hF hk1 hk2
            · rw [if_neg c_169] at hF
              refine lv_aload_n hx hb dX2_placeAll_70 rfl (lv_at hl 0 rfl) ?_
              refine cg_X2_9 hC hH dX2_placeAll_71 ?_
              refine lv_iload_n hx hb dX2_placeAll_74 rfl (lv_at hl 1 rfl) ?_
              refine lv_iconst (v := 4) hx hb dX2_placeAll_75 (by decide) ?_
              refine lv_iload hx hb dX2_placeAll_76 (lv_at hl 5 rfl) ?_
              refine lv_iadd hx hb dX2_placeAll_78 ?_
              obtain ⟨r_170, u_171, h_172, hF⟩ := anl_some hF
              refine ccS_iB (As := [.int v1, .int (4 + v5)]) (rest := [.ref (Q 1)]) hC hH (n_X1_ofClass l G Z Q _ T u u_171 r_170 v1 (4 + v5) _ h_172) ⟨wkc_X1_ofClass, wka233, wka435, wka745⟩ kSX1_ofClass ⟨Nat.le_of_ble_eq_true rfl, Nat.le_of_ble_eq_true rfl⟩ ⟨by show _ ≤ K1; omega, by show _ ≤ K2; omega⟩ rfl hl.1 rfl (Nat.le_of_ble_eq_true rfl) dX2_placeAll_79 (fun D H locs hH => ?_)
              refine lv_iconst (v := (-1)) hx hb dX2_placeAll_82 (by decide) ?_
              obtain ⟨r_173, u_174, k_176, k_177, k_178, k_179, h_175, hF, e_180, e_181⟩ := acl_some hF
              refine ccV_vA (q0 := 1) (As := [.int r_170, .int (-1)]) (rest := []) hC hH (n_X1_put l G Z Q _ T u_171 u_174 r_173 k_176 k_177 r_170 (-1) _ h_175) rfl rfl ⟨wkc_X1_put, wka234, wka439, wka440, wka745⟩ kVX1_put ⟨Nat.le_of_ble_eq_true rfl, Nat.le_of_ble_eq_true rfl⟩ ⟨by show _ ≤ K1; omega, by show _ ≤ K2; omega⟩ rfl hl.1 rfl (Nat.le_of_ble_eq_true rfl) dX2_placeAll_83 (fun D H locs hH => ?_)
              have hk1 := (hk1.trans (congrArg (_ + ·) e_180)).trans (Nat.add_assoc _ _ _).symm
              have hk2 := (hk2.trans (congrArg (_ + ·) e_181)).trans (Nat.add_assoc _ _ _).symm
              obtain ⟨x_182, e_183, hF⟩ := ali_some hF
              refine lv_iinc (v := x_182) (lv' := [(5, .int x_182), (0, .ref (Q 5)), (1, .int v1), (2, .int v2), (3, .int v3), (4, .int v4)]) hx hb dX2_placeAll_86 hl (k := 5) rfl e_183 (by decide) rfl (fun ls hl => ?_)
              refine lv_goto (tgt := 63) hx hb dX2_placeAll_89 (by decide) ?_
              exact ih63 v1 v2 v3 v4 x_182 u_174 _ _ _ _ _ _ _ _ (lv_sub hl [1, 2, 3, 4, 5, 0] rfl) hH hF hk1 hk2
        refine hL63 _ (fun v1 v2 v3 v4 v5 u D H locs ls cells slots C1 C2 hl hH hF hk1 hk2 => ?_) fuel a0 a1 0 a1 0 u_161 _ _ _ _ _ _ _ _ (lv_sub hl [3, 4, 5, 2, 1, 0] rfl) hH hF hk1 hk2
        refine lv_iload_n hx hb dX2_placeAll_92 rfl (lv_at hl 3 rfl) ?_
        refine lv_if_eq (tgt := 104) hx hb dX2_placeAll_93 (by decide) (fun c_184 => ?_) (fun c_184 => ?_)
        · rw [if_pos c_184] at hF
          refine lv_aload_n hx hb dX2_placeAll_104 rfl (lv_at hl 0 rfl) ?_
          refine lv_iload hx hb dX2_placeAll_105 (lv_at hl 4 rfl) ?_
          obtain ⟨r_185, u_186, h_187, hF⟩ := anl_some hF
          refine ccV_vB (q0 := 5) (As := [.int v4]) (rest := []) hC hH (n_X2_makeRow l G Z Q _ T u u_186 r_185 v4 _ h_187) rfl rfl ⟨wkc_X2_makeRow, wka240, wka454, wka455, wka746⟩ kVX2_makeRow ⟨Nat.le_of_ble_eq_true rfl, Nat.le_of_ble_eq_true rfl⟩ ⟨by show _ ≤ K1; omega, by show _ ≤ K2; omega⟩ rfl hl.1 rfl (Nat.le_of_ble_eq_true rfl) dX2_placeAll_107 (fun D H locs hH => ?_)
          refine lv_aload_n hx hb dX2_placeAll_110 rfl (lv_at hl 0 rfl) ?_
          refine lv_iload_n hx hb dX2_placeAll_111 rfl (lv_at hl 1 rfl) ?_
          obtain ⟨r_188, u_189, k_191, k_192, k_193, k_194, h_190, hF, e_195, e_196⟩ := acl_some hF
          refine ccV_vA (q0 := 5) (As := [.int v1]) (rest := []) hC hH (n_X2_placeSeeds l G Z Q _ T u_186 u_189 r_188 k_191 k_192 v1 _ h_190) rfl rfl ⟨wkc_X2_placeSeeds, wka243, wka458, wka459, wka746⟩ kVX2_placeSeeds ⟨Nat.le_of_ble_eq_true rfl, Nat.le_of_ble_eq_true rfl⟩ ⟨by show _ ≤ K1; omega, by show _ ≤ K2; omega⟩ rfl hl.1 rfl (Nat.le_of_ble_eq_true rfl) dX2_placeAll_112 (fun D H locs hH => ?_)
          have hk1 := (hk1.trans (congrArg (_ + ·) e_195)).trans (Nat.add_assoc _ _ _).symm
          have hk2 := (hk2.trans (congrArg (_ + ·) e_196)).trans (Nat.add_assoc _ _ _).symm
          refine lv_aload_n hx hb dX2_placeAll_115 rfl (lv_at hl 0 rfl) ?_
          refine lv_iload_n hx hb dX2_placeAll_116 rfl (lv_at hl 1 rfl) ?_
          refine lv_iload_n hx hb dX2_placeAll_117 rfl (lv_at hl 2 rfl) ?_
          obtain ⟨r_197, u_198, k_200, k_201, k_202, k_203, h_199, hF, e_204, e_205⟩ := acl_some hF
          refine ccV_vA (q0 := 5) (As := [.int v1, .int v2]) (rest := []) hC hH (n_X2_placeOthers l G Z Q _ T u_189 u_198 r_197 k_200 k_201 v1 v2 _ h_199) rfl rfl ⟨wkc_X2_placeOthers, wka244, wka460, wka461, wka746⟩ kVX2_placeOthers ⟨Nat.le_of_ble_eq_true rfl, Nat.le_of_ble_eq_true rfl⟩ ⟨by show _ ≤ K1; omega, by show _ ≤ K2; omega⟩ rfl hl.1 rfl (Nat.le_of_ble_eq_true rfl) dX2_placeAll_118 (fun D H locs hH => ?_)
          have hk1 := (hk1.trans (congrArg (_ + ·) e_204)).trans (Nat.add_assoc _ _ _).symm
          have hk2 := (hk2.trans (congrArg (_ + ·) e_205)).trans (Nat.add_assoc _ _ _).symm
          exact cr_vA hC hH hr (art_eq hF) (by omega) (by omega) dX2_placeAll_121 hlocks
        · rw [if_neg c_184] at hF
          refine lv_aload_n hx hb dX2_placeAll_96 rfl (lv_at hl 0 rfl) ?_
          refine lv_iload_n hx hb dX2_placeAll_97 rfl (lv_at hl 1 rfl) ?_
          obtain ⟨r_206, u_207, k_209, k_210, k_211, k_212, h_208, hF, e_213, e_214⟩ := acl_some hF
          refine ccV_vA (q0 := 5) (As := [.int v1]) (rest := []) hC hH (n_X2_placePool l G Z Q _ T u u_207 r_206 k_209 k_210 v1 _ h_208) rfl rfl ⟨wkc_X2_placePool, wka235, wka450, wka451, wka746⟩ kVX2_placePool ⟨Nat.le_of_ble_eq_true rfl, Nat.le_of_ble_eq_true rfl⟩ ⟨by show _ ≤ K1; omega, by show _ ≤ K2; omega⟩ rfl hl.1 rfl (Nat.le_of_ble_eq_true rfl) dX2_placeAll_98 (fun D H locs hH => ?_)
          have hk1 := (hk1.trans (congrArg (_ + ·) e_213)).trans (Nat.add_assoc _ _ _).symm
          have hk2 := (hk2.trans (congrArg (_ + ·) e_214)).trans (Nat.add_assoc _ _ _).symm
          refine lv_goto (tgt := 121) hx hb dX2_placeAll_101 (by decide) ?_
          exact cr_vA hC hH hr (art_eq hF) (by omega) (by omega) dX2_placeAll_121 hlocks
      · rw [if_neg c_147] at hF
        refine lv_iconst (v := 1) hx hb dX2_placeAll_38 (by decide) ?_
        refine lv_goto (tgt := 43) hx hb dX2_placeAll_39 (by decide) ?_
        obtain ⟨r_215, u_216, k_218, k_219, k_220, k_221, h_217, hF, e_222, e_223⟩ := acl_some hF
        refine ccV_vA (q0 := 1) (As := [.int r_144, .int 1]) (rest := []) hC hH (n_X1_put l G Z Q _ T u_145 u_216 r_215 k_218 k_219 r_144 1 _ h_217) rfl rfl ⟨wkc_X1_put, wka234, wka439, wka440, wka745⟩ kVX1_put ⟨Nat.le_of_ble_eq_true rfl, Nat.le_of_ble_eq_true rfl⟩ ⟨by show _ ≤ K1; omega, by show _ ≤ K2; omega⟩ rfl hl.1 rfl (Nat.le_of_ble_eq_true rfl) dX2_placeAll_43 (fun D H locs hH => ?_)
        have hk1 := (hk1.trans (congrArg (_ + ·) e_222)).trans (Nat.add_assoc _ _ _).symm
        have hk2 := (hk2.trans (congrArg (_ + ·) e_223)).trans (Nat.add_assoc _ _ _).symm
        refine lv_aload_n hx hb dX2_placeAll_46 rfl (lv_at hl 2 rfl) ?_
        refine cg_X2_9 hC hH dX2_placeAll_47 ?_
        refine lv_iload_n hx hb dX2_placeAll_50 rfl (lv_at hl 3 rfl) ?_
        refine lv_iconst (v := 3) hx hb dX2_placeAll_51 (by decide) ?_
        obtain ⟨r_224, u_225, h_226, hF⟩ := anl_some hF
        refine ccS_iB (As := [.int a0, .int 3]) (rest := [.ref (Q 1)]) hC hH (n_X1_ofClass l G Z Q _ T u_216 u_225 r_224 a0 3 _ h_226) ⟨wkc_X1_ofClass, wka233, wka435, wka745⟩ kSX1_ofClass ⟨Nat.le_of_ble_eq_true rfl, Nat.le_of_ble_eq_true rfl⟩ ⟨by show _ ≤ K1; omega, by show _ ≤ K2; omega⟩ rfl hl.1 rfl (Nat.le_of_ble_eq_true rfl) dX2_placeAll_52 (fun D H locs hH => ?_)
        refine lv_iload hx hb dX2_placeAll_55 (lv_at hl 0 rfl) ?_
        obtain ⟨r_227, u_228, k_230, k_231, k_232, k_233, h_229, hF, e_234, e_235⟩ := acl_some hF
        refine ccV_vA (q0 := 1) (As := [.int r_224, .int a1]) (rest := []) hC hH (n_X1_put l G Z Q _ T u_225 u_228 r_227 k_230 k_231 r_224 a1 _ h_229) rfl rfl ⟨wkc_X1_put, wka234, wka439, wka440, wka745⟩ kVX1_put ⟨Nat.le_of_ble_eq_true rfl, Nat.le_of_ble_eq_true rfl⟩ ⟨by show _ ≤ K1; omega, by show _ ≤ K2; omega⟩ rfl hl.1 rfl (Nat.le_of_ble_eq_true rfl) dX2_placeAll_57 (fun D H locs hH => ?_)
        have hk1 := (hk1.trans (congrArg (_ + ·) e_234)).trans (Nat.add_assoc _ _ _).symm
        have hk2 := (hk2.trans (congrArg (_ + ·) e_235)).trans (Nat.add_assoc _ _ _).symm
        refine lv_iconst (v := 0) hx hb dX2_placeAll_60 (by decide) ?_
        refine lv_istore (lv' := [(5, .int 0), (4, .int a1), (3, .int 0), (0, .ref (Q 5)), (1, .int a0), (2, .int a1)]) hx hb dX2_placeAll_61 hl (by decide) rfl (fun ls hl => ?_)
        have hL63 : ∀ (K63_92 : Int32 → Int32 → Int32 → Int32 → Int32 → AG Int32), (∀ (v1 v2 v3 v4 v5 : Int32) (u : MS) (D : Nat × Nat) (H : Heap) (locs : List Loc) (ls : Array Slot) (cells slots C1 C2 : Nat), lv_has ls 6 [(0, .ref (Q 5)), (1, .int v1), (2, .int v2), (3, .int v3), (4, .int v4), (5, .int v5)] → cH G Q D T A u s H locs → K63_92 v1 v2 v3 v4 v5 u = some (r, u1, C1, C2) → K1 = cells + C1 → K2 = slots + C2 → W p l e (headSpec (Cond.code yX2_placeAll cX2_placeAll 6 none :: wK) { frames := 7, cells := K1, slots := K2, locals := 180 }).room s m [.ref (Q 5), .int a0, .int a1].toArray below meth c H locs cells slots (MQ below (cQv G Q T u1 A) [.ref (Q 5), .int a0, .int a1].toArray s K1 K2 A) (F0 m 92 ls [])) → ∀ (n63 : Nat) (v1 v2 v3 v4 v5 : Int32) (u : MS) (D : Nat × Nat) (H : Heap) (locs : List Loc) (ls : Array Slot) (cells slots C1 C2 : Nat), lv_has ls 6 [(0, .ref (Q 5)), (1, .int v1), (2, .int v2), (3, .int v3), (4, .int v4), (5, .int v5)] → cH G Q D T A u s H locs → xl_X2_placeAll_63 n63 v1 v2 v3 v4 v5 K63_92 u = some (r, u1, C1, C2) → K1 = cells + C1 → K2 = slots + C2 → W p l e (headSpec (Cond.code yX2_placeAll cX2_placeAll 6 none :: wK) { frames := 7, cells := K1, slots := K2, locals := 180 }).room s m [.ref (Q 5), .int a0, .int a1].toArray below meth c H locs cells slots (MQ below (cQv G Q T u1 A) [.ref (Q 5), .int a0, .int a1].toArray s K1 K2 A) (F0 m 63 ls []) := by
          intro K63_92 hK63_92 n63
          induction n63 with
          | zero => intro v1 v2 v3 v4 v5 u D H locs ls cells slots C1 C2 hl hH hF; cases hF
          | succ n63 ih63 =>
            intro v1 v2 v3 v4 v5 u D H locs ls cells slots C1 C2 hl hH hF hk1 hk2
            unfold xl_X2_placeAll_63 at hF
            refine lv_iload hx hb dX2_placeAll_63 (lv_at hl 5 rfl) ?_
            refine lv_iload hx hb dX2_placeAll_65 (lv_at hl 4 rfl) ?_
            refine lv_icmp_ge (tgt := 92) hx hb dX2_placeAll_67 (by decide) (fun c_236 => ?_) (fun c_236 => ?_)
            · rw [if_pos c_236] at hF
              exact hK63_92 v1 v2 v3 v4 v5 u _ _ _ _ _ _ _ _ (lv_sub hl [0, 1, 2, 3, 4, 5] rfl) hH hF hk1 hk2
            · rw [if_neg c_236] at hF
              refine lv_aload_n hx hb dX2_placeAll_70 rfl (lv_at hl 0 rfl) ?_
              refine cg_X2_9 hC hH dX2_placeAll_71 ?_
              refine lv_iload_n hx hb dX2_placeAll_74 rfl (lv_at hl 1 rfl) ?_
              refine lv_iconst (v := 4) hx hb dX2_placeAll_75 (by decide) ?_
              refine lv_iload hx hb dX2_placeAll_76 (lv_at hl 5 rfl) ?_
              refine lv_iadd hx hb dX2_placeAll_78 ?_
              obtain ⟨r_237, u_238, h_239, hF⟩ := anl_some hF
              refine ccS_iB (As := [.int v1, .int (4 + v5)]) (rest := [.ref (Q 1)]) hC hH (n_X1_ofClass l G Z Q _ T u u_238 r_237 v1 (4 + v5) _ h_239) ⟨wkc_X1_ofClass, wka233, wka435, wka745⟩ kSX1_ofClass ⟨Nat.le_of_ble_eq_true rfl, Nat.le_of_ble_eq_true rfl⟩ ⟨by show _ ≤ K1; omega, by show _ ≤ K2; omega⟩ rfl hl.1 rfl (Nat.le_of_ble_eq_true rfl) dX2_placeAll_79 (fun D H locs hH => ?_)
              refine lv_iconst (v := (-1)) hx hb dX2_placeAll_82 (by decide) ?_
              obtain ⟨r_240, u_241, k_243, k_244, k_245, k_246, h_242, hF, e_247, e_248⟩ := acl_some hF
              refine ccV_vA (q0 := 1) (As := [.int r_237, .int (-1)]) (rest := []) hC hH (n_X1_put l G Z Q _ T u_238 u_241 r_240 k_243 k_244 r_237 (-1) _ h_242) rfl rfl ⟨wkc_X1_put, wka234, wka439, wka440, wka745⟩ kVX1_put ⟨Nat.le_of_ble_eq_true rfl, Nat.le_of_ble_eq_true rfl⟩ ⟨by show _ ≤ K1; omega, by show _ ≤ K2; omega⟩ rfl hl.1 rfl (Nat.le_of_ble_eq_true rfl) dX2_placeAll_83 (fun D H locs hH => ?_)
              have hk1 := (hk1.trans (congrArg (_ + ·) e_247)).trans (Nat.add_assoc _ _ _).symm
              have hk2 := (hk2.trans (congrArg (_ + ·) e_248)).trans (Nat.add_assoc _ _ _).symm
              obtain ⟨x_249, e_250, hF⟩ := ali_some hF
              refine lv_iinc (v := x_249) (lv' := [(5, .int x_249), (0, .ref (Q 5)), (1, .int v1), (2, .int v2), (3, .int v3), (4, .int v4)]) hx hb dX2_placeAll_86 hl (k := 5) rfl e_250 (by decide) rfl (fun ls hl => ?_)
              refine lv_goto (tgt := 63) hx hb dX2_placeAll_89 (by decide) ?_
              exact ih63 v1 v2 v3 v4 x_249 u_241 _ _ _ _ _ _ _ _ (lv_sub hl [1, 2, 3, 4, 5, 0] rfl) hH hF hk1 hk2
        refine hL63 _ (fun v1 v2 v3 v4 v5 u D H locs ls cells slots C1 C2 hl hH hF hk1 hk2 => ?_) fuel a0 a1 0 a1 0 u_228 _ _ _ _ _ _ _ _ (lv_sub hl [3, 4, 5, 2, 1, 0] rfl) hH hF hk1 hk2
        refine lv_iload_n hx hb dX2_placeAll_92 rfl (lv_at hl 3 rfl) ?_
        refine lv_if_eq (tgt := 104) hx hb dX2_placeAll_93 (by decide) (fun c_251 => ?_) (fun c_251 => ?_)
        · rw [if_pos c_251] at hF
          refine lv_aload_n hx hb dX2_placeAll_104 rfl (lv_at hl 0 rfl) ?_
          refine lv_iload hx hb dX2_placeAll_105 (lv_at hl 4 rfl) ?_
          obtain ⟨r_252, u_253, h_254, hF⟩ := anl_some hF
          refine ccV_vB (q0 := 5) (As := [.int v4]) (rest := []) hC hH (n_X2_makeRow l G Z Q _ T u u_253 r_252 v4 _ h_254) rfl rfl ⟨wkc_X2_makeRow, wka240, wka454, wka455, wka746⟩ kVX2_makeRow ⟨Nat.le_of_ble_eq_true rfl, Nat.le_of_ble_eq_true rfl⟩ ⟨by show _ ≤ K1; omega, by show _ ≤ K2; omega⟩ rfl hl.1 rfl (Nat.le_of_ble_eq_true rfl) dX2_placeAll_107 (fun D H locs hH => ?_)
          refine lv_aload_n hx hb dX2_placeAll_110 rfl (lv_at hl 0 rfl) ?_
          refine lv_iload_n hx hb dX2_placeAll_111 rfl (lv_at hl 1 rfl) ?_
          obtain ⟨r_255, u_256, k_258, k_259, k_260, k_261, h_257, hF, e_262, e_263⟩ := acl_some hF
          refine ccV_vA (q0 := 5) (As := [.int v1]) (rest := []) hC hH (n_X2_placeSeeds l G Z Q _ T u_253 u_256 r_255 k_258 k_259 v1 _ h_257) rfl rfl ⟨wkc_X2_placeSeeds, wka243, wka458, wka459, wka746⟩ kVX2_placeSeeds ⟨Nat.le_of_ble_eq_true rfl, Nat.le_of_ble_eq_true rfl⟩ ⟨by show _ ≤ K1; omega, by show _ ≤ K2; omega⟩ rfl hl.1 rfl (Nat.le_of_ble_eq_true rfl) dX2_placeAll_112 (fun D H locs hH => ?_)
          have hk1 := (hk1.trans (congrArg (_ + ·) e_262)).trans (Nat.add_assoc _ _ _).symm
          have hk2 := (hk2.trans (congrArg (_ + ·) e_263)).trans (Nat.add_assoc _ _ _).symm
          refine lv_aload_n hx hb dX2_placeAll_115 rfl (lv_at hl 0 rfl) ?_
          refine lv_iload_n hx hb dX2_placeAll_116 rfl (lv_at hl 1 rfl) ?_
          refine lv_iload_n hx hb dX2_placeAll_117 rfl (lv_at hl 2 rfl) ?_
          obtain ⟨r_264, u_265, k_267, k_268, k_269, k_270, h_266, hF, e_271, e_272⟩ := acl_some hF
          refine ccV_vA (q0 := 5) (As := [.int v1, .int v2]) (rest := []) hC hH (n_X2_placeOthers l G Z Q _ T u_256 u_265 r_264 k_267 k_268 v1 v2 _ h_266) rfl rfl ⟨wkc_X2_placeOthers, wka244, wka460, wka461, wka746⟩ kVX2_placeOthers ⟨Nat.le_of_ble_eq_true rfl, Nat.le_of_ble_eq_true rfl⟩ ⟨by show _ ≤ K1; omega, by show _ ≤ K2; omega⟩ rfl hl.1 rfl (Nat.le_of_ble_eq_true rfl) dX2_placeAll_118 (fun D H locs hH => ?_)
          have hk1 := (hk1.trans (congrArg (_ + ·) e_271)).trans (Nat.add_assoc _ _ _).symm
          have hk2 := (hk2.trans (congrArg (_ + ·) e_272)).trans (Nat.add_assoc _ _ _).symm
          exact cr_vA hC hH hr (art_eq hF) (by omega) (by omega) dX2_placeAll_121 hlocks
        · rw [if_neg c_251] at hF
          refine lv_aload_n hx hb dX2_placeAll_96 rfl (lv_at hl 0 rfl) ?_
          refine lv_iload_n hx hb dX2_placeAll_97 rfl (lv_at hl 1 rfl) ?_
          obtain ⟨r_273, u_274, k_276, k_277, k_278, k_279, h_275, hF, e_280, e_281⟩ := acl_some hF
          refine ccV_vA (q0 := 5) (As := [.int v1]) (rest := []) hC hH (n_X2_placePool l G Z Q _ T u u_274 r_273 k_276 k_277 v1 _ h_275) rfl rfl ⟨wkc_X2_placePool, wka235, wka450, wka451, wka746⟩ kVX2_placePool ⟨Nat.le_of_ble_eq_true rfl, Nat.le_of_ble_eq_true rfl⟩ ⟨by show _ ≤ K1; omega, by show _ ≤ K2; omega⟩ rfl hl.1 rfl (Nat.le_of_ble_eq_true rfl) dX2_placeAll_98 (fun D H locs hH => ?_)
          have hk1 := (hk1.trans (congrArg (_ + ·) e_280)).trans (Nat.add_assoc _ _ _).symm
          have hk2 := (hk2.trans (congrArg (_ + ·) e_281)).trans (Nat.add_assoc _ _ _).symm
          refine lv_goto (tgt := 121) hx hb dX2_placeAll_101 (by decide) ?_
          exact cr_vA hC hH hr (art_eq hF) (by omega) (by omega) dX2_placeAll_121 hlocks
  · rw [if_neg c_1] at hF
    refine lv_iconst (v := 1) hx hb dX2_placeAll_5 (by decide) ?_
    refine lv_goto (tgt := 10) hx hb dX2_placeAll_6 (by decide) ?_
    refine lv_istore_n (lv' := [(3, .int 1), (0, .ref (Q 5)), (1, .int a0), (2, .int a1)]) hx hb dX2_placeAll_10 rfl hl (by decide) rfl (fun ls hl => ?_)
    refine lv_iload_n hx hb dX2_placeAll_11 rfl (lv_at hl 0 rfl) ?_
    refine lv_if_eq (tgt := 19) hx hb dX2_placeAll_12 (by decide) (fun c_282 => ?_) (fun c_282 => ?_)
    · rw [if_pos c_282] at hF
      refine lv_iload_n hx hb dX2_placeAll_19 rfl (lv_at hl 3 rfl) ?_
      obtain ⟨r_283, u_284, h_285, hF⟩ := anl_some hF
      refine ccS_iB (As := [.int a1]) (rest := []) hC hH (n_X2_placesFor l G Z Q _ T u u_284 r_283 a1 _ h_285) ⟨wkc_X2_placesFor, wka232, wka449, wka746⟩ kSX2_placesFor ⟨Nat.le_of_ble_eq_true rfl, Nat.le_of_ble_eq_true rfl⟩ ⟨by show _ ≤ K1; omega, by show _ ≤ K2; omega⟩ rfl hl.1 rfl (Nat.le_of_ble_eq_true rfl) dX2_placeAll_20 (fun D H locs hH => ?_)
      refine lv_istore (lv' := [(4, .int r_283), (3, .int 1), (0, .ref (Q 5)), (1, .int a0), (2, .int a1)]) hx hb dX2_placeAll_23 hl (by decide) rfl (fun ls hl => ?_)
      refine lv_aload_n hx hb dX2_placeAll_25 rfl (lv_at hl 2 rfl) ?_
      refine cg_X2_9 hC hH dX2_placeAll_26 ?_
      refine lv_iload_n hx hb dX2_placeAll_29 rfl (lv_at hl 3 rfl) ?_
      refine lv_iconst (v := 2) hx hb dX2_placeAll_30 (by decide) ?_
      obtain ⟨r_286, u_287, h_288, hF⟩ := anl_some hF
      refine ccS_iB (As := [.int a0, .int 2]) (rest := [.ref (Q 1)]) hC hH (n_X1_ofClass l G Z Q _ T u_284 u_287 r_286 a0 2 _ h_288) ⟨wkc_X1_ofClass, wka233, wka435, wka745⟩ kSX1_ofClass ⟨Nat.le_of_ble_eq_true rfl, Nat.le_of_ble_eq_true rfl⟩ ⟨by show _ ≤ K1; omega, by show _ ≤ K2; omega⟩ rfl hl.1 rfl (Nat.le_of_ble_eq_true rfl) dX2_placeAll_31 (fun D H locs hH => ?_)
      refine lv_iload_n hx hb dX2_placeAll_34 rfl (lv_at hl 1 rfl) ?_
      refine lv_if_eq (tgt := 42) hx hb dX2_placeAll_35 (by decide) (fun c_289 => ?_) (fun c_289 => ?_)
      · rw [if_pos c_289] at hF
        refine lv_iconst (v := 2) hx hb dX2_placeAll_42 (by decide) ?_
        obtain ⟨r_290, u_291, k_293, k_294, k_295, k_296, h_292, hF, e_297, e_298⟩ := acl_some hF
        refine ccV_vA (q0 := 1) (As := [.int r_286, .int 2]) (rest := []) hC hH (n_X1_put l G Z Q _ T u_287 u_291 r_290 k_293 k_294 r_286 2 _ h_292) rfl rfl ⟨wkc_X1_put, wka234, wka439, wka440, wka745⟩ kVX1_put ⟨Nat.le_of_ble_eq_true rfl, Nat.le_of_ble_eq_true rfl⟩ ⟨by show _ ≤ K1; omega, by show _ ≤ K2; omega⟩ rfl hl.1 rfl (Nat.le_of_ble_eq_true rfl) dX2_placeAll_43 (fun D H locs hH => ?_)
        have hk1 := (hk1.trans (congrArg (_ + ·) e_297)).trans (Nat.add_assoc _ _ _).symm
        have hk2 := (hk2.trans (congrArg (_ + ·) e_298)).trans (Nat.add_assoc _ _ _).symm
        refine lv_aload_n hx hb dX2_placeAll_46 rfl (lv_at hl 2 rfl) ?_
        refine cg_X2_9 hC hH dX2_placeAll_47 ?_
        refine lv_iload_n hx hb dX2_placeAll_50 rfl (lv_at hl 3 rfl) ?_
        refine lv_iconst (v := 3) hx hb dX2_placeAll_51 (by decide) ?_
        obtain ⟨r_299, u_300, h_301, hF⟩ := anl_some hF
        refine ccS_iB (As := [.int a0, .int 3]) (rest := [.ref (Q 1)]) hC hH (n_X1_ofClass l G Z Q _ T u_291 u_300 r_299 a0 3 _ h_301) ⟨wkc_X1_ofClass, wka233, wka435, wka745⟩ kSX1_ofClass ⟨Nat.le_of_ble_eq_true rfl, Nat.le_of_ble_eq_true rfl⟩ ⟨by show _ ≤ K1; omega, by show _ ≤ K2; omega⟩ rfl hl.1 rfl (Nat.le_of_ble_eq_true rfl) dX2_placeAll_52 (fun D H locs hH => ?_)
        refine lv_iload hx hb dX2_placeAll_55 (lv_at hl 0 rfl) ?_
        obtain ⟨r_302, u_303, k_305, k_306, k_307, k_308, h_304, hF, e_309, e_310⟩ := acl_some hF
        refine ccV_vA (q0 := 1) (As := [.int r_299, .int r_283]) (rest := []) hC hH (n_X1_put l G Z Q _ T u_300 u_303 r_302 k_305 k_306 r_299 r_283 _ h_304) rfl rfl ⟨wkc_X1_put, wka234, wka439, wka440, wka745⟩ kVX1_put ⟨Nat.le_of_ble_eq_true rfl, Nat.le_of_ble_eq_true rfl⟩ ⟨by show _ ≤ K1; omega, by show _ ≤ K2; omega⟩ rfl hl.1 rfl (Nat.le_of_ble_eq_true rfl) dX2_placeAll_57 (fun D H locs hH => ?_)
        have hk1 := (hk1.trans (congrArg (_ + ·) e_309)).trans (Nat.add_assoc _ _ _).symm
        have hk2 := (hk2.trans (congrArg (_ + ·) e_310)).trans (Nat.add_assoc _ _ _).symm
        refine lv_iconst (v := 0) hx hb dX2_placeAll_60 (by decide) ?_
        refine lv_istore (lv' := [(5, .int 0), (4, .int r_283), (3, .int 1), (0, .ref (Q 5)), (1, .int a0), (2, .int a1)]) hx hb dX2_placeAll_61 hl (by decide) rfl (fun ls hl => ?_)
        have hL63 : ∀ (K63_92 : Int32 → Int32 → Int32 → Int32 → Int32 → AG Int32), (∀ (v1 v2 v3 v4 v5 : Int32) (u : MS) (D : Nat × Nat) (H : Heap) (locs : List Loc) (ls : Array Slot) (cells slots C1 C2 : Nat), lv_has ls 6 [(0, .ref (Q 5)), (1, .int v1), (2, .int v2), (3, .int v3), (4, .int v4), (5, .int v5)] → cH G Q D T A u s H locs → K63_92 v1 v2 v3 v4 v5 u = some (r, u1, C1, C2) → K1 = cells + C1 → K2 = slots + C2 → W p l e (headSpec (Cond.code yX2_placeAll cX2_placeAll 6 none :: wK) { frames := 7, cells := K1, slots := K2, locals := 180 }).room s m [.ref (Q 5), .int a0, .int a1].toArray below meth c H locs cells slots (MQ below (cQv G Q T u1 A) [.ref (Q 5), .int a0, .int a1].toArray s K1 K2 A) (F0 m 92 ls [])) → ∀ (n63 : Nat) (v1 v2 v3 v4 v5 : Int32) (u : MS) (D : Nat × Nat) (H : Heap) (locs : List Loc) (ls : Array Slot) (cells slots C1 C2 : Nat), lv_has ls 6 [(0, .ref (Q 5)), (1, .int v1), (2, .int v2), (3, .int v3), (4, .int v4), (5, .int v5)] → cH G Q D T A u s H locs → xl_X2_placeAll_63 n63 v1 v2 v3 v4 v5 K63_92 u = some (r, u1, C1, C2) → K1 = cells + C1 → K2 = slots + C2 → W p l e (headSpec (Cond.code yX2_placeAll cX2_placeAll 6 none :: wK) { frames := 7, cells := K1, slots := K2, locals := 180 }).room s m [.ref (Q 5), .int a0, .int a1].toArray below meth c H locs cells slots (MQ below (cQv G Q T u1 A) [.ref (Q 5), .int a0, .int a1].toArray s K1 K2 A) (F0 m 63 ls []) := by
          intro K63_92 hK63_92 n63
          induction n63 with
          | zero => intro v1 v2 v3 v4 v5 u D H locs ls cells slots C1 C2 hl hH hF; cases hF
          | succ n63 ih63 =>
            intro v1 v2 v3 v4 v5 u D H locs ls cells slots C1 C2 hl hH hF hk1 hk2
            unfold xl_X2_placeAll_63 at hF
            refine lv_iload hx hb dX2_placeAll_63 (lv_at hl 5 rfl) ?_
            refine lv_iload hx hb dX2_placeAll_65 (lv_at hl 4 rfl) ?_
            refine lv_icmp_ge (tgt := 92) hx hb dX2_placeAll_67 (by decide) (fun c_311 => ?_) (fun c_311 => ?_)
            · rw [if_pos c_311] at hF
              exact hK63_92 v1 v2 v3 v4 v5 u _ _ _ _ _ _ _ _ (lv_sub hl [0, 1, 2, 3, 4, 5] rfl) hH hF hk1 hk2
            · rw [if_neg c_311] at hF
              refine lv_aload_n hx hb dX2_placeAll_70 rfl (lv_at hl 0 rfl) ?_
              refine cg_X2_9 hC hH dX2_placeAll_71 ?_
              refine lv_iload_n hx hb dX2_placeAll_74 rfl (lv_at hl 1 rfl) ?_
              refine lv_iconst (v := 4) hx hb dX2_placeAll_75 (by decide) ?_
              refine lv_iload hx hb dX2_placeAll_76 (lv_at hl 5 rfl) ?_
              refine lv_iadd hx hb dX2_placeAll_78 ?_
              obtain ⟨r_312, u_313, h_314, hF⟩ := anl_some hF
              refine ccS_iB (As := [.int v1, .int (4 + v5)]) (rest := [.ref (Q 1)]) hC hH (n_X1_ofClass l G Z Q _ T u u_313 r_312 v1 (4 + v5) _ h_314) ⟨wkc_X1_ofClass, wka233, wka435, wka745⟩ kSX1_ofClass ⟨Nat.le_of_ble_eq_true rfl, Nat.le_of_ble_eq_true rfl⟩ ⟨by show _ ≤ K1; omega, by show _ ≤ K2; omega⟩ rfl hl.1 rfl (Nat.le_of_ble_eq_true rfl) dX2_placeAll_79 (fun D H locs hH => ?_)
              refine lv_iconst (v := (-1)) hx hb dX2_placeAll_82 (by decide) ?_
              obtain ⟨r_315, u_316, k_318, k_319, k_320, k_321, h_317, hF, e_322, e_323⟩ := acl_some hF
              refine ccV_vA (q0 := 1) (As := [.int r_312, .int (-1)]) (rest := []) hC hH (n_X1_put l G Z Q _ T u_313 u_316 r_315 k_318 k_319 r_312 (-1) _ h_317) rfl rfl ⟨wkc_X1_put, wka234, wka439, wka440, wka745⟩ kVX1_put ⟨Nat.le_of_ble_eq_true rfl, Nat.le_of_ble_eq_true rfl⟩ ⟨by show _ ≤ K1; omega, by show _ ≤ K2; omega⟩ rfl hl.1 rfl (Nat.le_of_ble_eq_true rfl) dX2_placeAll_83 (fun D H locs hH => ?_)
              have hk1 := (hk1.trans (congrArg (_ + ·) e_322)).trans (Nat.add_assoc _ _ _).symm
              have hk2 := (hk2.trans (congrArg (_ + ·) e_323)).trans (Nat.add_assoc _ _ _).symm
              obtain ⟨x_324, e_325, hF⟩ := ali_some hF
              refine lv_iinc (v := x_324) (lv' := [(5, .int x_324), (0, .ref (Q 5)), (1, .int v1), (2, .int v2), (3, .int v3), (4, .int v4)]) hx hb dX2_placeAll_86 hl (k := 5) rfl e_325 (by decide) rfl (fun ls hl => ?_)
              refine lv_goto (tgt := 63) hx hb dX2_placeAll_89 (by decide) ?_
              exact ih63 v1 v2 v3 v4 x_324 u_316 _ _ _ _ _ _ _ _ (lv_sub hl [1, 2, 3, 4, 5, 0] rfl) hH hF hk1 hk2
        refine hL63 _ (fun v1 v2 v3 v4 v5 u D H locs ls cells slots C1 C2 hl hH hF hk1 hk2 => ?_) fuel a0 a1 1 r_283 0 u_303 _ _ _ _ _ _ _ _ (lv_sub hl [3, 4, 5, 2, 1, 0] rfl) hH hF hk1 hk2
        refine lv_iload_n hx hb dX2_placeAll_92 rfl (lv_at hl 3 rfl) ?_
        refine lv_if_eq (tgt := 104) hx hb dX2_placeAll_93 (by decide) (fun c_326 => ?_) (fun c_326 => ?_)
        · rw [if_pos c_326] at hF
          refine lv_aload_n hx hb dX2_placeAll_104 rfl (lv_at hl 0 rfl) ?_
          refine lv_iload hx hb dX2_placeAll_105 (lv_at hl 4 rfl) ?_
          obtain ⟨r_327, u_328, h_329, hF⟩ := anl_some hF
          refine ccV_vB (q0 := 5) (As := [.int v4]) (rest := []) hC hH (n_X2_makeRow l G Z Q _ T u u_328 r_327 v4 _ h_329) rfl rfl ⟨wkc_X2_makeRow, wka240, wka454, wka455, wka746⟩ kVX2_makeRow ⟨Nat.le_of_ble_eq_true rfl, Nat.le_of_ble_eq_true rfl⟩ ⟨by show _ ≤ K1; omega, by show _ ≤ K2; omega⟩ rfl hl.1 rfl (Nat.le_of_ble_eq_true rfl) dX2_placeAll_107 (fun D H locs hH => ?_)
          refine lv_aload_n hx hb dX2_placeAll_110 rfl (lv_at hl 0 rfl) ?_
          refine lv_iload_n hx hb dX2_placeAll_111 rfl (lv_at hl 1 rfl) ?_
          obtain ⟨r_330, u_331, k_333, k_334, k_335, k_336, h_332, hF, e_337, e_338⟩ := acl_some hF
          refine ccV_vA (q0 := 5) (As := [.int v1]) (rest := []) hC hH (n_X2_placeSeeds l G Z Q _ T u_328 u_331 r_330 k_333 k_334 v1 _ h_332) rfl rfl ⟨wkc_X2_placeSeeds, wka243, wka458, wka459, wka746⟩ kVX2_placeSeeds ⟨Nat.le_of_ble_eq_true rfl, Nat.le_of_ble_eq_true rfl⟩ ⟨by show _ ≤ K1; omega, by show _ ≤ K2; omega⟩ rfl hl.1 rfl (Nat.le_of_ble_eq_true rfl) dX2_placeAll_112 (fun D H locs hH => ?_)
          have hk1 := (hk1.trans (congrArg (_ + ·) e_337)).trans (Nat.add_assoc _ _ _).symm
          have hk2 := (hk2.trans (congrArg (_ + ·) e_338)).trans (Nat.add_assoc _ _ _).symm
          refine lv_aload_n hx hb dX2_placeAll_115 rfl (lv_at hl 0 rfl) ?_
          refine lv_iload_n hx hb dX2_placeAll_116 rfl (lv_at hl 1 rfl) ?_
          refine lv_iload_n hx hb dX2_placeAll_117 rfl (lv_at hl 2 rfl) ?_
          obtain ⟨r_339, u_340, k_342, k_343, k_344, k_345, h_341, hF, e_346, e_347⟩ := acl_some hF
          refine ccV_vA (q0 := 5) (As := [.int v1, .int v2]) (rest := []) hC hH (n_X2_placeOthers l G Z Q _ T u_331 u_340 r_339 k_342 k_343 v1 v2 _ h_341) rfl rfl ⟨wkc_X2_placeOthers, wka244, wka460, wka461, wka746⟩ kVX2_placeOthers ⟨Nat.le_of_ble_eq_true rfl, Nat.le_of_ble_eq_true rfl⟩ ⟨by show _ ≤ K1; omega, by show _ ≤ K2; omega⟩ rfl hl.1 rfl (Nat.le_of_ble_eq_true rfl) dX2_placeAll_118 (fun D H locs hH => ?_)
          have hk1 := (hk1.trans (congrArg (_ + ·) e_346)).trans (Nat.add_assoc _ _ _).symm
          have hk2 := (hk2.trans (congrArg (_ + ·) e_347)).trans (Nat.add_assoc _ _ _).symm
          exact cr_vA hC hH hr (art_eq hF) (by omega) (by omega) dX2_placeAll_121 hlocks
        · rw [if_neg c_326] at hF
          refine lv_aload_n hx hb dX2_placeAll_96 rfl (lv_at hl 0 rfl) ?_
          refine lv_iload_n hx hb dX2_placeAll_97 rfl (lv_at hl 1 rfl) ?_
          obtain ⟨r_348, u_349, k_351, k_352, k_353, k_354, h_350, hF, e_355, e_356⟩ := acl_some hF
          refine ccV_vA (q0 := 5) (As := [.int v1]) (rest := []) hC hH (n_X2_placePool l G Z Q _ T u u_349 r_348 k_351 k_352 v1 _ h_350) rfl rfl ⟨wkc_X2_placePool, wka235, wka450, wka451, wka746⟩ kVX2_placePool ⟨Nat.le_of_ble_eq_true rfl, Nat.le_of_ble_eq_true rfl⟩ ⟨by show _ ≤ K1; omega, by show _ ≤ K2; omega⟩ rfl hl.1 rfl (Nat.le_of_ble_eq_true rfl) dX2_placeAll_98 (fun D H locs hH => ?_)
          have hk1 := (hk1.trans (congrArg (_ + ·) e_355)).trans (Nat.add_assoc _ _ _).symm
          have hk2 := (hk2.trans (congrArg (_ + ·) e_356)).trans (Nat.add_assoc _ _ _).symm
          refine lv_goto (tgt := 121) hx hb dX2_placeAll_101 (by decide) ?_
          exact cr_vA hC hH hr (art_eq hF) (by omega) (by omega) dX2_placeAll_121 hlocks
      · rw [if_neg c_289] at hF
        refine lv_iconst (v := 1) hx hb dX2_placeAll_38 (by decide) ?_
        refine lv_goto (tgt := 43) hx hb dX2_placeAll_39 (by decide) ?_
        obtain ⟨r_357, u_358, k_360, k_361, k_362, k_363, h_359, hF, e_364, e_365⟩ := acl_some hF
        refine ccV_vA (q0 := 1) (As := [.int r_286, .int 1]) (rest := []) hC hH (n_X1_put l G Z Q _ T u_287 u_358 r_357 k_360 k_361 r_286 1 _ h_359) rfl rfl ⟨wkc_X1_put, wka234, wka439, wka440, wka745⟩ kVX1_put ⟨Nat.le_of_ble_eq_true rfl, Nat.le_of_ble_eq_true rfl⟩ ⟨by show _ ≤ K1; omega, by show _ ≤ K2; omega⟩ rfl hl.1 rfl (Nat.le_of_ble_eq_true rfl) dX2_placeAll_43 (fun D H locs hH => ?_)
        have hk1 := (hk1.trans (congrArg (_ + ·) e_364)).trans (Nat.add_assoc _ _ _).symm
        have hk2 := (hk2.trans (congrArg (_ + ·) e_365)).trans (Nat.add_assoc _ _ _).symm
        refine lv_aload_n hx hb dX2_placeAll_46 rfl (lv_at hl 2 rfl) ?_
        refine cg_X2_9 hC hH dX2_placeAll_47 ?_
        refine lv_iload_n hx hb dX2_placeAll_50 rfl (lv_at hl 3 rfl) ?_
        refine lv_iconst (v := 3) hx hb dX2_placeAll_51 (by decide) ?_
        obtain ⟨r_366, u_367, h_368, hF⟩ := anl_some hF
        refine ccS_iB (As := [.int a0, .int 3]) (rest := [.ref (Q 1)]) hC hH (n_X1_ofClass l G Z Q _ T u_358 u_367 r_366 a0 3 _ h_368) ⟨wkc_X1_ofClass, wka233, wka435, wka745⟩ kSX1_ofClass ⟨Nat.le_of_ble_eq_true rfl, Nat.le_of_ble_eq_true rfl⟩ ⟨by show _ ≤ K1; omega, by show _ ≤ K2; omega⟩ rfl hl.1 rfl (Nat.le_of_ble_eq_true rfl) dX2_placeAll_52 (fun D H locs hH => ?_)
        refine lv_iload hx hb dX2_placeAll_55 (lv_at hl 0 rfl) ?_
        obtain ⟨r_369, u_370, k_372, k_373, k_374, k_375, h_371, hF, e_376, e_377⟩ := acl_some hF
        refine ccV_vA (q0 := 1) (As := [.int r_366, .int r_283]) (rest := []) hC hH (n_X1_put l G Z Q _ T u_367 u_370 r_369 k_372 k_373 r_366 r_283 _ h_371) rfl rfl ⟨wkc_X1_put, wka234, wka439, wka440, wka745⟩ kVX1_put ⟨Nat.le_of_ble_eq_true rfl, Nat.le_of_ble_eq_true rfl⟩ ⟨by show _ ≤ K1; omega, by show _ ≤ K2; omega⟩ rfl hl.1 rfl (Nat.le_of_ble_eq_true rfl) dX2_placeAll_57 (fun D H locs hH => ?_)
        have hk1 := (hk1.trans (congrArg (_ + ·) e_376)).trans (Nat.add_assoc _ _ _).symm
        have hk2 := (hk2.trans (congrArg (_ + ·) e_377)).trans (Nat.add_assoc _ _ _).symm
        refine lv_iconst (v := 0) hx hb dX2_placeAll_60 (by decide) ?_
        refine lv_istore (lv' := [(5, .int 0), (4, .int r_283), (3, .int 1), (0, .ref (Q 5)), (1, .int a0), (2, .int a1)]) hx hb dX2_placeAll_61 hl (by decide) rfl (fun ls hl => ?_)
        have hL63 : ∀ (K63_92 : Int32 → Int32 → Int32 → Int32 → Int32 → AG Int32), (∀ (v1 v2 v3 v4 v5 : Int32) (u : MS) (D : Nat × Nat) (H : Heap) (locs : List Loc) (ls : Array Slot) (cells slots C1 C2 : Nat), lv_has ls 6 [(0, .ref (Q 5)), (1, .int v1), (2, .int v2), (3, .int v3), (4, .int v4), (5, .int v5)] → cH G Q D T A u s H locs → K63_92 v1 v2 v3 v4 v5 u = some (r, u1, C1, C2) → K1 = cells + C1 → K2 = slots + C2 → W p l e (headSpec (Cond.code yX2_placeAll cX2_placeAll 6 none :: wK) { frames := 7, cells := K1, slots := K2, locals := 180 }).room s m [.ref (Q 5), .int a0, .int a1].toArray below meth c H locs cells slots (MQ below (cQv G Q T u1 A) [.ref (Q 5), .int a0, .int a1].toArray s K1 K2 A) (F0 m 92 ls [])) → ∀ (n63 : Nat) (v1 v2 v3 v4 v5 : Int32) (u : MS) (D : Nat × Nat) (H : Heap) (locs : List Loc) (ls : Array Slot) (cells slots C1 C2 : Nat), lv_has ls 6 [(0, .ref (Q 5)), (1, .int v1), (2, .int v2), (3, .int v3), (4, .int v4), (5, .int v5)] → cH G Q D T A u s H locs → xl_X2_placeAll_63 n63 v1 v2 v3 v4 v5 K63_92 u = some (r, u1, C1, C2) → K1 = cells + C1 → K2 = slots + C2 → W p l e (headSpec (Cond.code yX2_placeAll cX2_placeAll 6 none :: wK) { frames := 7, cells := K1, slots := K2, locals := 180 }).room s m [.ref (Q 5), .int a0, .int a1].toArray below meth c H locs cells slots (MQ below (cQv G Q T u1 A) [.ref (Q 5), .int a0, .int a1].toArray s K1 K2 A) (F0 m 63 ls []) := by
          intro K63_92 hK63_92 n63
          induction n63 with
          | zero => intro v1 v2 v3 v4 v5 u D H locs ls cells slots C1 C2 hl hH hF; cases hF
          | succ n63 ih63 =>
            intro v1 v2 v3 v4 v5 u D H locs ls cells slots C1 C2 hl hH hF hk1 hk2
            unfold xl_X2_placeAll_63 at hF
            refine lv_iload hx hb dX2_placeAll_63 (lv_at hl 5 rfl) ?_
            refine lv_iload hx hb dX2_placeAll_65 (lv_at hl 4 rfl) ?_
            refine lv_icmp_ge (tgt := 92) hx hb dX2_placeAll_67 (by decide) (fun c_378 => ?_) (fun c_378 => ?_)
            · rw [if_pos c_378] at hF
              exact hK63_92 v1 v2 v3 v4 v5 u _ _ _ _ _ _ _ _ (lv_sub hl [0, 1, 2, 3, 4, 5] rfl) hH hF hk1 hk2
            · rw [if_neg c_378] at hF
              refine lv_aload_n hx hb dX2_placeAll_70 rfl (lv_at hl 0 rfl) ?_
              refine cg_X2_9 hC hH dX2_placeAll_71 ?_
              refine lv_iload_n hx hb dX2_placeAll_74 rfl (lv_at hl 1 rfl) ?_
              refine lv_iconst (v := 4) hx hb dX2_placeAll_75 (by decide) ?_
              refine lv_iload hx hb dX2_placeAll_76 (lv_at hl 5 rfl) ?_
              refine lv_iadd hx hb dX2_placeAll_78 ?_
              obtain ⟨r_379, u_380, h_381, hF⟩ := anl_some hF
              refine ccS_iB (As := [.int v1, .int (4 + v5)]) (rest := [.ref (Q 1)]) hC hH (n_X1_ofClass l G Z Q _ T u u_380 r_379 v1 (4 + v5) _ h_381) ⟨wkc_X1_ofClass, wka233, wka435, wka745⟩ kSX1_ofClass ⟨Nat.le_of_ble_eq_true rfl, Nat.le_of_ble_eq_true rfl⟩ ⟨by show _ ≤ K1; omega, by show _ ≤ K2; omega⟩ rfl hl.1 rfl (Nat.le_of_ble_eq_true rfl) dX2_placeAll_79 (fun D H locs hH => ?_)
              refine lv_iconst (v := (-1)) hx hb dX2_placeAll_82 (by decide) ?_
              obtain ⟨r_382, u_383, k_385, k_386, k_387, k_388, h_384, hF, e_389, e_390⟩ := acl_some hF
              refine ccV_vA (q0 := 1) (As := [.int r_379, .int (-1)]) (rest := []) hC hH (n_X1_put l G Z Q _ T u_380 u_383 r_382 k_385 k_386 r_379 (-1) _ h_384) rfl rfl ⟨wkc_X1_put, wka234, wka439, wka440, wka745⟩ kVX1_put ⟨Nat.le_of_ble_eq_true rfl, Nat.le_of_ble_eq_true rfl⟩ ⟨by show _ ≤ K1; omega, by show _ ≤ K2; omega⟩ rfl hl.1 rfl (Nat.le_of_ble_eq_true rfl) dX2_placeAll_83 (fun D H locs hH => ?_)
              have hk1 := (hk1.trans (congrArg (_ + ·) e_389)).trans (Nat.add_assoc _ _ _).symm
              have hk2 := (hk2.trans (congrArg (_ + ·) e_390)).trans (Nat.add_assoc _ _ _).symm
              obtain ⟨x_391, e_392, hF⟩ := ali_some hF
              refine lv_iinc (v := x_391) (lv' := [(5, .int x_391), (0, .ref (Q 5)), (1, .int v1), (2, .int v2), (3, .int v3), (4, .int v4)]) hx hb dX2_placeAll_86 hl (k := 5) rfl e_392 (by decide) rfl (fun ls hl => ?_)
              refine lv_goto (tgt := 63) hx hb dX2_placeAll_89 (by decide) ?_
              exact ih63 v1 v2 v3 v4 x_391 u_383 _ _ _ _ _ _ _ _ (lv_sub hl [1, 2, 3, 4, 5, 0] rfl) hH hF hk1 hk2
        refine hL63 _ (fun v1 v2 v3 v4 v5 u D H locs ls cells slots C1 C2 hl hH hF hk1 hk2 => ?_) fuel a0 a1 1 r_283 0 u_370 _ _ _ _ _ _ _ _ (lv_sub hl [3, 4, 5, 2, 1, 0] rfl) hH hF hk1 hk2
        refine lv_iload_n hx hb dX2_placeAll_92 rfl (lv_at hl 3 rfl) ?_
        refine lv_if_eq (tgt := 104) hx hb dX2_placeAll_93 (by decide) (fun c_393 => ?_) (fun c_393 => ?_)
        · rw [if_pos c_393] at hF
          refine lv_aload_n hx hb dX2_placeAll_104 rfl (lv_at hl 0 rfl) ?_
          refine lv_iload hx hb dX2_placeAll_105 (lv_at hl 4 rfl) ?_
          obtain ⟨r_394, u_395, h_396, hF⟩ := anl_some hF
          refine ccV_vB (q0 := 5) (As := [.int v4]) (rest := []) hC hH (n_X2_makeRow l G Z Q _ T u u_395 r_394 v4 _ h_396) rfl rfl ⟨wkc_X2_makeRow, wka240, wka454, wka455, wka746⟩ kVX2_makeRow ⟨Nat.le_of_ble_eq_true rfl, Nat.le_of_ble_eq_true rfl⟩ ⟨by show _ ≤ K1; omega, by show _ ≤ K2; omega⟩ rfl hl.1 rfl (Nat.le_of_ble_eq_true rfl) dX2_placeAll_107 (fun D H locs hH => ?_)
          refine lv_aload_n hx hb dX2_placeAll_110 rfl (lv_at hl 0 rfl) ?_
          refine lv_iload_n hx hb dX2_placeAll_111 rfl (lv_at hl 1 rfl) ?_
          obtain ⟨r_397, u_398, k_400, k_401, k_402, k_403, h_399, hF, e_404, e_405⟩ := acl_some hF
          refine ccV_vA (q0 := 5) (As := [.int v1]) (rest := []) hC hH (n_X2_placeSeeds l G Z Q _ T u_395 u_398 r_397 k_400 k_401 v1 _ h_399) rfl rfl ⟨wkc_X2_placeSeeds, wka243, wka458, wka459, wka746⟩ kVX2_placeSeeds ⟨Nat.le_of_ble_eq_true rfl, Nat.le_of_ble_eq_true rfl⟩ ⟨by show _ ≤ K1; omega, by show _ ≤ K2; omega⟩ rfl hl.1 rfl (Nat.le_of_ble_eq_true rfl) dX2_placeAll_112 (fun D H locs hH => ?_)
          have hk1 := (hk1.trans (congrArg (_ + ·) e_404)).trans (Nat.add_assoc _ _ _).symm
          have hk2 := (hk2.trans (congrArg (_ + ·) e_405)).trans (Nat.add_assoc _ _ _).symm
          refine lv_aload_n hx hb dX2_placeAll_115 rfl (lv_at hl 0 rfl) ?_
          refine lv_iload_n hx hb dX2_placeAll_116 rfl (lv_at hl 1 rfl) ?_
          refine lv_iload_n hx hb dX2_placeAll_117 rfl (lv_at hl 2 rfl) ?_
          obtain ⟨r_406, u_407, k_409, k_410, k_411, k_412, h_408, hF, e_413, e_414⟩ := acl_some hF
          refine ccV_vA (q0 := 5) (As := [.int v1, .int v2]) (rest := []) hC hH (n_X2_placeOthers l G Z Q _ T u_398 u_407 r_406 k_409 k_410 v1 v2 _ h_408) rfl rfl ⟨wkc_X2_placeOthers, wka244, wka460, wka461, wka746⟩ kVX2_placeOthers ⟨Nat.le_of_ble_eq_true rfl, Nat.le_of_ble_eq_true rfl⟩ ⟨by show _ ≤ K1; omega, by show _ ≤ K2; omega⟩ rfl hl.1 rfl (Nat.le_of_ble_eq_true rfl) dX2_placeAll_118 (fun D H locs hH => ?_)
          have hk1 := (hk1.trans (congrArg (_ + ·) e_413)).trans (Nat.add_assoc _ _ _).symm
          have hk2 := (hk2.trans (congrArg (_ + ·) e_414)).trans (Nat.add_assoc _ _ _).symm
          exact cr_vA hC hH hr (art_eq hF) (by omega) (by omega) dX2_placeAll_121 hlocks
        · rw [if_neg c_393] at hF
          refine lv_aload_n hx hb dX2_placeAll_96 rfl (lv_at hl 0 rfl) ?_
          refine lv_iload_n hx hb dX2_placeAll_97 rfl (lv_at hl 1 rfl) ?_
          obtain ⟨r_415, u_416, k_418, k_419, k_420, k_421, h_417, hF, e_422, e_423⟩ := acl_some hF
          refine ccV_vA (q0 := 5) (As := [.int v1]) (rest := []) hC hH (n_X2_placePool l G Z Q _ T u u_416 r_415 k_418 k_419 v1 _ h_417) rfl rfl ⟨wkc_X2_placePool, wka235, wka450, wka451, wka746⟩ kVX2_placePool ⟨Nat.le_of_ble_eq_true rfl, Nat.le_of_ble_eq_true rfl⟩ ⟨by show _ ≤ K1; omega, by show _ ≤ K2; omega⟩ rfl hl.1 rfl (Nat.le_of_ble_eq_true rfl) dX2_placeAll_98 (fun D H locs hH => ?_)
          have hk1 := (hk1.trans (congrArg (_ + ·) e_422)).trans (Nat.add_assoc _ _ _).symm
          have hk2 := (hk2.trans (congrArg (_ + ·) e_423)).trans (Nat.add_assoc _ _ _).symm
          refine lv_goto (tgt := 121) hx hb dX2_placeAll_101 (by decide) ?_
          exact cr_vA hC hH hr (art_eq hF) (by omega) (by omega) dX2_placeAll_121 hlocks
    · rw [if_neg c_282] at hF
      refine lv_iload_n hx hb dX2_placeAll_15 rfl (lv_at hl 3 rfl) ?_
      refine lv_goto (tgt := 23) hx hb dX2_placeAll_16 (by decide) ?_
      refine lv_istore (lv' := [(4, .int a1), (3, .int 1), (0, .ref (Q 5)), (1, .int a0), (2, .int a1)]) hx hb dX2_placeAll_23 hl (by decide) rfl (fun ls hl => ?_)
      refine lv_aload_n hx hb dX2_placeAll_25 rfl (lv_at hl 2 rfl) ?_
      refine cg_X2_9 hC hH dX2_placeAll_26 ?_
      refine lv_iload_n hx hb dX2_placeAll_29 rfl (lv_at hl 3 rfl) ?_
      refine lv_iconst (v := 2) hx hb dX2_placeAll_30 (by decide) ?_
      obtain ⟨r_424, u_425, h_426, hF⟩ := anl_some hF
      refine ccS_iB (As := [.int a0, .int 2]) (rest := [.ref (Q 1)]) hC hH (n_X1_ofClass l G Z Q _ T u u_425 r_424 a0 2 _ h_426) ⟨wkc_X1_ofClass, wka233, wka435, wka745⟩ kSX1_ofClass ⟨Nat.le_of_ble_eq_true rfl, Nat.le_of_ble_eq_true rfl⟩ ⟨by show _ ≤ K1; omega, by show _ ≤ K2; omega⟩ rfl hl.1 rfl (Nat.le_of_ble_eq_true rfl) dX2_placeAll_31 (fun D H locs hH => ?_)
      refine lv_iload_n hx hb dX2_placeAll_34 rfl (lv_at hl 1 rfl) ?_
      refine lv_if_eq (tgt := 42) hx hb dX2_placeAll_35 (by decide) (fun c_427 => ?_) (fun c_427 => ?_)
      · rw [if_pos c_427] at hF
        refine lv_iconst (v := 2) hx hb dX2_placeAll_42 (by decide) ?_
        obtain ⟨r_428, u_429, k_431, k_432, k_433, k_434, h_430, hF, e_435, e_436⟩ := acl_some hF
        refine ccV_vA (q0 := 1) (As := [.int r_424, .int 2]) (rest := []) hC hH (n_X1_put l G Z Q _ T u_425 u_429 r_428 k_431 k_432 r_424 2 _ h_430) rfl rfl ⟨wkc_X1_put, wka234, wka439, wka440, wka745⟩ kVX1_put ⟨Nat.le_of_ble_eq_true rfl, Nat.le_of_ble_eq_true rfl⟩ ⟨by show _ ≤ K1; omega, by show _ ≤ K2; omega⟩ rfl hl.1 rfl (Nat.le_of_ble_eq_true rfl) dX2_placeAll_43 (fun D H locs hH => ?_)
        have hk1 := (hk1.trans (congrArg (_ + ·) e_435)).trans (Nat.add_assoc _ _ _).symm
        have hk2 := (hk2.trans (congrArg (_ + ·) e_436)).trans (Nat.add_assoc _ _ _).symm
        refine lv_aload_n hx hb dX2_placeAll_46 rfl (lv_at hl 2 rfl) ?_
        refine cg_X2_9 hC hH dX2_placeAll_47 ?_
        refine lv_iload_n hx hb dX2_placeAll_50 rfl (lv_at hl 3 rfl) ?_
        refine lv_iconst (v := 3) hx hb dX2_placeAll_51 (by decide) ?_
        obtain ⟨r_437, u_438, h_439, hF⟩ := anl_some hF
        refine ccS_iB (As := [.int a0, .int 3]) (rest := [.ref (Q 1)]) hC hH (n_X1_ofClass l G Z Q _ T u_429 u_438 r_437 a0 3 _ h_439) ⟨wkc_X1_ofClass, wka233, wka435, wka745⟩ kSX1_ofClass ⟨Nat.le_of_ble_eq_true rfl, Nat.le_of_ble_eq_true rfl⟩ ⟨by show _ ≤ K1; omega, by show _ ≤ K2; omega⟩ rfl hl.1 rfl (Nat.le_of_ble_eq_true rfl) dX2_placeAll_52 (fun D H locs hH => ?_)
        refine lv_iload hx hb dX2_placeAll_55 (lv_at hl 0 rfl) ?_
        obtain ⟨r_440, u_441, k_443, k_444, k_445, k_446, h_442, hF, e_447, e_448⟩ := acl_some hF
        refine ccV_vA (q0 := 1) (As := [.int r_437, .int a1]) (rest := []) hC hH (n_X1_put l G Z Q _ T u_438 u_441 r_440 k_443 k_444 r_437 a1 _ h_442) rfl rfl ⟨wkc_X1_put, wka234, wka439, wka440, wka745⟩ kVX1_put ⟨Nat.le_of_ble_eq_true rfl, Nat.le_of_ble_eq_true rfl⟩ ⟨by show _ ≤ K1; omega, by show _ ≤ K2; omega⟩ rfl hl.1 rfl (Nat.le_of_ble_eq_true rfl) dX2_placeAll_57 (fun D H locs hH => ?_)
        have hk1 := (hk1.trans (congrArg (_ + ·) e_447)).trans (Nat.add_assoc _ _ _).symm
        have hk2 := (hk2.trans (congrArg (_ + ·) e_448)).trans (Nat.add_assoc _ _ _).symm
        refine lv_iconst (v := 0) hx hb dX2_placeAll_60 (by decide) ?_
        refine lv_istore (lv' := [(5, .int 0), (4, .int a1), (3, .int 1), (0, .ref (Q 5)), (1, .int a0), (2, .int a1)]) hx hb dX2_placeAll_61 hl (by decide) rfl (fun ls hl => ?_)
        have hL63 : ∀ (K63_92 : Int32 → Int32 → Int32 → Int32 → Int32 → AG Int32), (∀ (v1 v2 v3 v4 v5 : Int32) (u : MS) (D : Nat × Nat) (H : Heap) (locs : List Loc) (ls : Array Slot) (cells slots C1 C2 : Nat), lv_has ls 6 [(0, .ref (Q 5)), (1, .int v1), (2, .int v2), (3, .int v3), (4, .int v4), (5, .int v5)] → cH G Q D T A u s H locs → K63_92 v1 v2 v3 v4 v5 u = some (r, u1, C1, C2) → K1 = cells + C1 → K2 = slots + C2 → W p l e (headSpec (Cond.code yX2_placeAll cX2_placeAll 6 none :: wK) { frames := 7, cells := K1, slots := K2, locals := 180 }).room s m [.ref (Q 5), .int a0, .int a1].toArray below meth c H locs cells slots (MQ below (cQv G Q T u1 A) [.ref (Q 5), .int a0, .int a1].toArray s K1 K2 A) (F0 m 92 ls [])) → ∀ (n63 : Nat) (v1 v2 v3 v4 v5 : Int32) (u : MS) (D : Nat × Nat) (H : Heap) (locs : List Loc) (ls : Array Slot) (cells slots C1 C2 : Nat), lv_has ls 6 [(0, .ref (Q 5)), (1, .int v1), (2, .int v2), (3, .int v3), (4, .int v4), (5, .int v5)] → cH G Q D T A u s H locs → xl_X2_placeAll_63 n63 v1 v2 v3 v4 v5 K63_92 u = some (r, u1, C1, C2) → K1 = cells + C1 → K2 = slots + C2 → W p l e (headSpec (Cond.code yX2_placeAll cX2_placeAll 6 none :: wK) { frames := 7, cells := K1, slots := K2, locals := 180 }).room s m [.ref (Q 5), .int a0, .int a1].toArray below meth c H locs cells slots (MQ below (cQv G Q T u1 A) [.ref (Q 5), .int a0, .int a1].toArray s K1 K2 A) (F0 m 63 ls []) := by
          intro K63_92 hK63_92 n63
          induction n63 with
          | zero => intro v1 v2 v3 v4 v5 u D H locs ls cells slots C1 C2 hl hH hF; cases hF
          | succ n63 ih63 =>
            intro v1 v2 v3 v4 v5 u D H locs ls cells slots C1 C2 hl hH hF hk1 hk2
            unfold xl_X2_placeAll_63 at hF
            refine lv_iload hx hb dX2_placeAll_63 (lv_at hl 5 rfl) ?_
            refine lv_iload hx hb dX2_placeAll_65 (lv_at hl 4 rfl) ?_
            refine lv_icmp_ge (tgt := 92) hx hb dX2_placeAll_67 (by decide) (fun c_449 => ?_) (fun c_449 => ?_)
            · rw [if_pos c_449] at hF
              exact hK63_92 v1 v2 v3 v4 v5 u _ _ _ _ _ _ _ _ (lv_sub hl [0, 1, 2, 3, 4, 5] rfl) hH hF hk1 hk2
            · rw [if_neg c_449] at hF
              refine lv_aload_n hx hb dX2_placeAll_70 rfl (lv_at hl 0 rfl) ?_
              refine cg_X2_9 hC hH dX2_placeAll_71 ?_
              refine lv_iload_n hx hb dX2_placeAll_74 rfl (lv_at hl 1 rfl) ?_
              refine lv_iconst (v := 4) hx hb dX2_placeAll_75 (by decide) ?_
              refine lv_iload hx hb dX2_placeAll_76 (lv_at hl 5 rfl) ?_
              refine lv_iadd hx hb dX2_placeAll_78 ?_
              obtain ⟨r_450, u_451, h_452, hF⟩ := anl_some hF
              refine ccS_iB (As := [.int v1, .int (4 + v5)]) (rest := [.ref (Q 1)]) hC hH (n_X1_ofClass l G Z Q _ T u u_451 r_450 v1 (4 + v5) _ h_452) ⟨wkc_X1_ofClass, wka233, wka435, wka745⟩ kSX1_ofClass ⟨Nat.le_of_ble_eq_true rfl, Nat.le_of_ble_eq_true rfl⟩ ⟨by show _ ≤ K1; omega, by show _ ≤ K2; omega⟩ rfl hl.1 rfl (Nat.le_of_ble_eq_true rfl) dX2_placeAll_79 (fun D H locs hH => ?_)
              refine lv_iconst (v := (-1)) hx hb dX2_placeAll_82 (by decide) ?_
              obtain ⟨r_453, u_454, k_456, k_457, k_458, k_459, h_455, hF, e_460, e_461⟩ := acl_some hF
              refine ccV_vA (q0 := 1) (As := [.int r_450, .int (-1)]) (rest := []) hC hH (n_X1_put l G Z Q _ T u_451 u_454 r_453 k_456 k_457 r_450 (-1) _ h_455) rfl rfl ⟨wkc_X1_put, wka234, wka439, wka440, wka745⟩ kVX1_put ⟨Nat.le_of_ble_eq_true rfl, Nat.le_of_ble_eq_true rfl⟩ ⟨by show _ ≤ K1; omega, by show _ ≤ K2; omega⟩ rfl hl.1 rfl (Nat.le_of_ble_eq_true rfl) dX2_placeAll_83 (fun D H locs hH => ?_)
              have hk1 := (hk1.trans (congrArg (_ + ·) e_460)).trans (Nat.add_assoc _ _ _).symm
              have hk2 := (hk2.trans (congrArg (_ + ·) e_461)).trans (Nat.add_assoc _ _ _).symm
              obtain ⟨x_462, e_463, hF⟩ := ali_some hF
              refine lv_iinc (v := x_462) (lv' := [(5, .int x_462), (0, .ref (Q 5)), (1, .int v1), (2, .int v2), (3, .int v3), (4, .int v4)]) hx hb dX2_placeAll_86 hl (k := 5) rfl e_463 (by decide) rfl (fun ls hl => ?_)
              refine lv_goto (tgt := 63) hx hb dX2_placeAll_89 (by decide) ?_
              exact ih63 v1 v2 v3 v4 x_462 u_454 _ _ _ _ _ _ _ _ (lv_sub hl [1, 2, 3, 4, 5, 0] rfl) hH hF hk1 hk2
        refine hL63 _ (fun v1 v2 v3 v4 v5 u D H locs ls cells slots C1 C2 hl hH hF hk1 hk2 => ?_) fuel a0 a1 1 a1 0 u_441 _ _ _ _ _ _ _ _ (lv_sub hl [3, 4, 5, 2, 1, 0] rfl) hH hF hk1 hk2
        refine lv_iload_n hx hb dX2_placeAll_92 rfl (lv_at hl 3 rfl) ?_
        refine lv_if_eq (tgt := 104) hx hb dX2_placeAll_93 (by decide) (fun c_464 => ?_) (fun c_464 => ?_)
        · rw [if_pos c_464] at hF
          refine lv_aload_n hx hb dX2_placeAll_104 rfl (lv_at hl 0 rfl) ?_
          refine lv_iload hx hb dX2_placeAll_105 (lv_at hl 4 rfl) ?_
          obtain ⟨r_465, u_466, h_467, hF⟩ := anl_some hF
          refine ccV_vB (q0 := 5) (As := [.int v4]) (rest := []) hC hH (n_X2_makeRow l G Z Q _ T u u_466 r_465 v4 _ h_467) rfl rfl ⟨wkc_X2_makeRow, wka240, wka454, wka455, wka746⟩ kVX2_makeRow ⟨Nat.le_of_ble_eq_true rfl, Nat.le_of_ble_eq_true rfl⟩ ⟨by show _ ≤ K1; omega, by show _ ≤ K2; omega⟩ rfl hl.1 rfl (Nat.le_of_ble_eq_true rfl) dX2_placeAll_107 (fun D H locs hH => ?_)
          refine lv_aload_n hx hb dX2_placeAll_110 rfl (lv_at hl 0 rfl) ?_
          refine lv_iload_n hx hb dX2_placeAll_111 rfl (lv_at hl 1 rfl) ?_
          obtain ⟨r_468, u_469, k_471, k_472, k_473, k_474, h_470, hF, e_475, e_476⟩ := acl_some hF
          refine ccV_vA (q0 := 5) (As := [.int v1]) (rest := []) hC hH (n_X2_placeSeeds l G Z Q _ T u_466 u_469 r_468 k_471 k_472 v1 _ h_470) rfl rfl ⟨wkc_X2_placeSeeds, wka243, wka458, wka459, wka746⟩ kVX2_placeSeeds ⟨Nat.le_of_ble_eq_true rfl, Nat.le_of_ble_eq_true rfl⟩ ⟨by show _ ≤ K1; omega, by show _ ≤ K2; omega⟩ rfl hl.1 rfl (Nat.le_of_ble_eq_true rfl) dX2_placeAll_112 (fun D H locs hH => ?_)
          have hk1 := (hk1.trans (congrArg (_ + ·) e_475)).trans (Nat.add_assoc _ _ _).symm
          have hk2 := (hk2.trans (congrArg (_ + ·) e_476)).trans (Nat.add_assoc _ _ _).symm
          refine lv_aload_n hx hb dX2_placeAll_115 rfl (lv_at hl 0 rfl) ?_
          refine lv_iload_n hx hb dX2_placeAll_116 rfl (lv_at hl 1 rfl) ?_
          refine lv_iload_n hx hb dX2_placeAll_117 rfl (lv_at hl 2 rfl) ?_
          obtain ⟨r_477, u_478, k_480, k_481, k_482, k_483, h_479, hF, e_484, e_485⟩ := acl_some hF
          refine ccV_vA (q0 := 5) (As := [.int v1, .int v2]) (rest := []) hC hH (n_X2_placeOthers l G Z Q _ T u_469 u_478 r_477 k_480 k_481 v1 v2 _ h_479) rfl rfl ⟨wkc_X2_placeOthers, wka244, wka460, wka461, wka746⟩ kVX2_placeOthers ⟨Nat.le_of_ble_eq_true rfl, Nat.le_of_ble_eq_true rfl⟩ ⟨by show _ ≤ K1; omega, by show _ ≤ K2; omega⟩ rfl hl.1 rfl (Nat.le_of_ble_eq_true rfl) dX2_placeAll_118 (fun D H locs hH => ?_)
          have hk1 := (hk1.trans (congrArg (_ + ·) e_484)).trans (Nat.add_assoc _ _ _).symm
          have hk2 := (hk2.trans (congrArg (_ + ·) e_485)).trans (Nat.add_assoc _ _ _).symm
          exact cr_vA hC hH hr (art_eq hF) (by omega) (by omega) dX2_placeAll_121 hlocks
        · rw [if_neg c_464] at hF
          refine lv_aload_n hx hb dX2_placeAll_96 rfl (lv_at hl 0 rfl) ?_
          refine lv_iload_n hx hb dX2_placeAll_97 rfl (lv_at hl 1 rfl) ?_
          obtain ⟨r_486, u_487, k_489, k_490, k_491, k_492, h_488, hF, e_493, e_494⟩ := acl_some hF
          refine ccV_vA (q0 := 5) (As := [.int v1]) (rest := []) hC hH (n_X2_placePool l G Z Q _ T u u_487 r_486 k_489 k_490 v1 _ h_488) rfl rfl ⟨wkc_X2_placePool, wka235, wka450, wka451, wka746⟩ kVX2_placePool ⟨Nat.le_of_ble_eq_true rfl, Nat.le_of_ble_eq_true rfl⟩ ⟨by show _ ≤ K1; omega, by show _ ≤ K2; omega⟩ rfl hl.1 rfl (Nat.le_of_ble_eq_true rfl) dX2_placeAll_98 (fun D H locs hH => ?_)
          have hk1 := (hk1.trans (congrArg (_ + ·) e_493)).trans (Nat.add_assoc _ _ _).symm
          have hk2 := (hk2.trans (congrArg (_ + ·) e_494)).trans (Nat.add_assoc _ _ _).symm
          refine lv_goto (tgt := 121) hx hb dX2_placeAll_101 (by decide) ?_
          exact cr_vA hC hH hr (art_eq hF) (by omega) (by omega) dX2_placeAll_121 hlocks
      · rw [if_neg c_427] at hF
        refine lv_iconst (v := 1) hx hb dX2_placeAll_38 (by decide) ?_
        refine lv_goto (tgt := 43) hx hb dX2_placeAll_39 (by decide) ?_
        obtain ⟨r_495, u_496, k_498, k_499, k_500, k_501, h_497, hF, e_502, e_503⟩ := acl_some hF
        refine ccV_vA (q0 := 1) (As := [.int r_424, .int 1]) (rest := []) hC hH (n_X1_put l G Z Q _ T u_425 u_496 r_495 k_498 k_499 r_424 1 _ h_497) rfl rfl ⟨wkc_X1_put, wka234, wka439, wka440, wka745⟩ kVX1_put ⟨Nat.le_of_ble_eq_true rfl, Nat.le_of_ble_eq_true rfl⟩ ⟨by show _ ≤ K1; omega, by show _ ≤ K2; omega⟩ rfl hl.1 rfl (Nat.le_of_ble_eq_true rfl) dX2_placeAll_43 (fun D H locs hH => ?_)
        have hk1 := (hk1.trans (congrArg (_ + ·) e_502)).trans (Nat.add_assoc _ _ _).symm
        have hk2 := (hk2.trans (congrArg (_ + ·) e_503)).trans (Nat.add_assoc _ _ _).symm
        refine lv_aload_n hx hb dX2_placeAll_46 rfl (lv_at hl 2 rfl) ?_
        refine cg_X2_9 hC hH dX2_placeAll_47 ?_
        refine lv_iload_n hx hb dX2_placeAll_50 rfl (lv_at hl 3 rfl) ?_
        refine lv_iconst (v := 3) hx hb dX2_placeAll_51 (by decide) ?_
        obtain ⟨r_504, u_505, h_506, hF⟩ := anl_some hF
        refine ccS_iB (As := [.int a0, .int 3]) (rest := [.ref (Q 1)]) hC hH (n_X1_ofClass l G Z Q _ T u_496 u_505 r_504 a0 3 _ h_506) ⟨wkc_X1_ofClass, wka233, wka435, wka745⟩ kSX1_ofClass ⟨Nat.le_of_ble_eq_true rfl, Nat.le_of_ble_eq_true rfl⟩ ⟨by show _ ≤ K1; omega, by show _ ≤ K2; omega⟩ rfl hl.1 rfl (Nat.le_of_ble_eq_true rfl) dX2_placeAll_52 (fun D H locs hH => ?_)
        refine lv_iload hx hb dX2_placeAll_55 (lv_at hl 0 rfl) ?_
        obtain ⟨r_507, u_508, k_510, k_511, k_512, k_513, h_509, hF, e_514, e_515⟩ := acl_some hF
        refine ccV_vA (q0 := 1) (As := [.int r_504, .int a1]) (rest := []) hC hH (n_X1_put l G Z Q _ T u_505 u_508 r_507 k_510 k_511 r_504 a1 _ h_509) rfl rfl ⟨wkc_X1_put, wka234, wka439, wka440, wka745⟩ kVX1_put ⟨Nat.le_of_ble_eq_true rfl, Nat.le_of_ble_eq_true rfl⟩ ⟨by show _ ≤ K1; omega, by show _ ≤ K2; omega⟩ rfl hl.1 rfl (Nat.le_of_ble_eq_true rfl) dX2_placeAll_57 (fun D H locs hH => ?_)
        have hk1 := (hk1.trans (congrArg (_ + ·) e_514)).trans (Nat.add_assoc _ _ _).symm
        have hk2 := (hk2.trans (congrArg (_ + ·) e_515)).trans (Nat.add_assoc _ _ _).symm
        refine lv_iconst (v := 0) hx hb dX2_placeAll_60 (by decide) ?_
        refine lv_istore (lv' := [(5, .int 0), (4, .int a1), (3, .int 1), (0, .ref (Q 5)), (1, .int a0), (2, .int a1)]) hx hb dX2_placeAll_61 hl (by decide) rfl (fun ls hl => ?_)
        have hL63 : ∀ (K63_92 : Int32 → Int32 → Int32 → Int32 → Int32 → AG Int32), (∀ (v1 v2 v3 v4 v5 : Int32) (u : MS) (D : Nat × Nat) (H : Heap) (locs : List Loc) (ls : Array Slot) (cells slots C1 C2 : Nat), lv_has ls 6 [(0, .ref (Q 5)), (1, .int v1), (2, .int v2), (3, .int v3), (4, .int v4), (5, .int v5)] → cH G Q D T A u s H locs → K63_92 v1 v2 v3 v4 v5 u = some (r, u1, C1, C2) → K1 = cells + C1 → K2 = slots + C2 → W p l e (headSpec (Cond.code yX2_placeAll cX2_placeAll 6 none :: wK) { frames := 7, cells := K1, slots := K2, locals := 180 }).room s m [.ref (Q 5), .int a0, .int a1].toArray below meth c H locs cells slots (MQ below (cQv G Q T u1 A) [.ref (Q 5), .int a0, .int a1].toArray s K1 K2 A) (F0 m 92 ls [])) → ∀ (n63 : Nat) (v1 v2 v3 v4 v5 : Int32) (u : MS) (D : Nat × Nat) (H : Heap) (locs : List Loc) (ls : Array Slot) (cells slots C1 C2 : Nat), lv_has ls 6 [(0, .ref (Q 5)), (1, .int v1), (2, .int v2), (3, .int v3), (4, .int v4), (5, .int v5)] → cH G Q D T A u s H locs → xl_X2_placeAll_63 n63 v1 v2 v3 v4 v5 K63_92 u = some (r, u1, C1, C2) → K1 = cells + C1 → K2 = slots + C2 → W p l e (headSpec (Cond.code yX2_placeAll cX2_placeAll 6 none :: wK) { frames := 7, cells := K1, slots := K2, locals := 180 }).room s m [.ref (Q 5), .int a0, .int a1].toArray below meth c H locs cells slots (MQ below (cQv G Q T u1 A) [.ref (Q 5), .int a0, .int a1].toArray s K1 K2 A) (F0 m 63 ls []) := by
          intro K63_92 hK63_92 n63
          induction n63 with
          | zero => intro v1 v2 v3 v4 v5 u D H locs ls cells slots C1 C2 hl hH hF; cases hF
          | succ n63 ih63 =>
            intro v1 v2 v3 v4 v5 u D H locs ls cells slots C1 C2 hl hH hF hk1 hk2
            unfold xl_X2_placeAll_63 at hF
            refine lv_iload hx hb dX2_placeAll_63 (lv_at hl 5 rfl) ?_
            refine lv_iload hx hb dX2_placeAll_65 (lv_at hl 4 rfl) ?_
            refine lv_icmp_ge (tgt := 92) hx hb dX2_placeAll_67 (by decide) (fun c_516 => ?_) (fun c_516 => ?_)
            · rw [if_pos c_516] at hF
              exact hK63_92 v1 v2 v3 v4 v5 u _ _ _ _ _ _ _ _ (lv_sub hl [0, 1, 2, 3, 4, 5] rfl) hH hF hk1 hk2
            · rw [if_neg c_516] at hF
              refine lv_aload_n hx hb dX2_placeAll_70 rfl (lv_at hl 0 rfl) ?_
              refine cg_X2_9 hC hH dX2_placeAll_71 ?_
              refine lv_iload_n hx hb dX2_placeAll_74 rfl (lv_at hl 1 rfl) ?_
              refine lv_iconst (v := 4) hx hb dX2_placeAll_75 (by decide) ?_
              refine lv_iload hx hb dX2_placeAll_76 (lv_at hl 5 rfl) ?_
              refine lv_iadd hx hb dX2_placeAll_78 ?_
              obtain ⟨r_517, u_518, h_519, hF⟩ := anl_some hF
              refine ccS_iB (As := [.int v1, .int (4 + v5)]) (rest := [.ref (Q 1)]) hC hH (n_X1_ofClass l G Z Q _ T u u_518 r_517 v1 (4 + v5) _ h_519) ⟨wkc_X1_ofClass, wka233, wka435, wka745⟩ kSX1_ofClass ⟨Nat.le_of_ble_eq_true rfl, Nat.le_of_ble_eq_true rfl⟩ ⟨by show _ ≤ K1; omega, by show _ ≤ K2; omega⟩ rfl hl.1 rfl (Nat.le_of_ble_eq_true rfl) dX2_placeAll_79 (fun D H locs hH => ?_)
              refine lv_iconst (v := (-1)) hx hb dX2_placeAll_82 (by decide) ?_
              obtain ⟨r_520, u_521, k_523, k_524, k_525, k_526, h_522, hF, e_527, e_528⟩ := acl_some hF
              refine ccV_vA (q0 := 1) (As := [.int r_517, .int (-1)]) (rest := []) hC hH (n_X1_put l G Z Q _ T u_518 u_521 r_520 k_523 k_524 r_517 (-1) _ h_522) rfl rfl ⟨wkc_X1_put, wka234, wka439, wka440, wka745⟩ kVX1_put ⟨Nat.le_of_ble_eq_true rfl, Nat.le_of_ble_eq_true rfl⟩ ⟨by show _ ≤ K1; omega, by show _ ≤ K2; omega⟩ rfl hl.1 rfl (Nat.le_of_ble_eq_true rfl) dX2_placeAll_83 (fun D H locs hH => ?_)
              have hk1 := (hk1.trans (congrArg (_ + ·) e_527)).trans (Nat.add_assoc _ _ _).symm
              have hk2 := (hk2.trans (congrArg (_ + ·) e_528)).trans (Nat.add_assoc _ _ _).symm
              obtain ⟨x_529, e_530, hF⟩ := ali_some hF
              refine lv_iinc (v := x_529) (lv' := [(5, .int x_529), (0, .ref (Q 5)), (1, .int v1), (2, .int v2), (3, .int v3), (4, .int v4)]) hx hb dX2_placeAll_86 hl (k := 5) rfl e_530 (by decide) rfl (fun ls hl => ?_)
              refine lv_goto (tgt := 63) hx hb dX2_placeAll_89 (by decide) ?_
              exact ih63 v1 v2 v3 v4 x_529 u_521 _ _ _ _ _ _ _ _ (lv_sub hl [1, 2, 3, 4, 5, 0] rfl) hH hF hk1 hk2
        refine hL63 _ (fun v1 v2 v3 v4 v5 u D H locs ls cells slots C1 C2 hl hH hF hk1 hk2 => ?_) fuel a0 a1 1 a1 0 u_508 _ _ _ _ _ _ _ _ (lv_sub hl [3, 4, 5, 2, 1, 0] rfl) hH hF hk1 hk2
        refine lv_iload_n hx hb dX2_placeAll_92 rfl (lv_at hl 3 rfl) ?_
        refine lv_if_eq (tgt := 104) hx hb dX2_placeAll_93 (by decide) (fun c_531 => ?_) (fun c_531 => ?_)
        · rw [if_pos c_531] at hF
          refine lv_aload_n hx hb dX2_placeAll_104 rfl (lv_at hl 0 rfl) ?_
          refine lv_iload hx hb dX2_placeAll_105 (lv_at hl 4 rfl) ?_
          obtain ⟨r_532, u_533, h_534, hF⟩ := anl_some hF
          refine ccV_vB (q0 := 5) (As := [.int v4]) (rest := []) hC hH (n_X2_makeRow l G Z Q _ T u u_533 r_532 v4 _ h_534) rfl rfl ⟨wkc_X2_makeRow, wka240, wka454, wka455, wka746⟩ kVX2_makeRow ⟨Nat.le_of_ble_eq_true rfl, Nat.le_of_ble_eq_true rfl⟩ ⟨by show _ ≤ K1; omega, by show _ ≤ K2; omega⟩ rfl hl.1 rfl (Nat.le_of_ble_eq_true rfl) dX2_placeAll_107 (fun D H locs hH => ?_)
          refine lv_aload_n hx hb dX2_placeAll_110 rfl (lv_at hl 0 rfl) ?_
          refine lv_iload_n hx hb dX2_placeAll_111 rfl (lv_at hl 1 rfl) ?_
          obtain ⟨r_535, u_536, k_538, k_539, k_540, k_541, h_537, hF, e_542, e_543⟩ := acl_some hF
          refine ccV_vA (q0 := 5) (As := [.int v1]) (rest := []) hC hH (n_X2_placeSeeds l G Z Q _ T u_533 u_536 r_535 k_538 k_539 v1 _ h_537) rfl rfl ⟨wkc_X2_placeSeeds, wka243, wka458, wka459, wka746⟩ kVX2_placeSeeds ⟨Nat.le_of_ble_eq_true rfl, Nat.le_of_ble_eq_true rfl⟩ ⟨by show _ ≤ K1; omega, by show _ ≤ K2; omega⟩ rfl hl.1 rfl (Nat.le_of_ble_eq_true rfl) dX2_placeAll_112 (fun D H locs hH => ?_)
          have hk1 := (hk1.trans (congrArg (_ + ·) e_542)).trans (Nat.add_assoc _ _ _).symm
          have hk2 := (hk2.trans (congrArg (_ + ·) e_543)).trans (Nat.add_assoc _ _ _).symm
          refine lv_aload_n hx hb dX2_placeAll_115 rfl (lv_at hl 0 rfl) ?_
          refine lv_iload_n hx hb dX2_placeAll_116 rfl (lv_at hl 1 rfl) ?_
          refine lv_iload_n hx hb dX2_placeAll_117 rfl (lv_at hl 2 rfl) ?_
          obtain ⟨r_544, u_545, k_547, k_548, k_549, k_550, h_546, hF, e_551, e_552⟩ := acl_some hF
          refine ccV_vA (q0 := 5) (As := [.int v1, .int v2]) (rest := []) hC hH (n_X2_placeOthers l G Z Q _ T u_536 u_545 r_544 k_547 k_548 v1 v2 _ h_546) rfl rfl ⟨wkc_X2_placeOthers, wka244, wka460, wka461, wka746⟩ kVX2_placeOthers ⟨Nat.le_of_ble_eq_true rfl, Nat.le_of_ble_eq_true rfl⟩ ⟨by show _ ≤ K1; omega, by show _ ≤ K2; omega⟩ rfl hl.1 rfl (Nat.le_of_ble_eq_true rfl) dX2_placeAll_118 (fun D H locs hH => ?_)
          have hk1 := (hk1.trans (congrArg (_ + ·) e_551)).trans (Nat.add_assoc _ _ _).symm
          have hk2 := (hk2.trans (congrArg (_ + ·) e_552)).trans (Nat.add_assoc _ _ _).symm
          exact cr_vA hC hH hr (art_eq hF) (by omega) (by omega) dX2_placeAll_121 hlocks
        · rw [if_neg c_531] at hF
          refine lv_aload_n hx hb dX2_placeAll_96 rfl (lv_at hl 0 rfl) ?_
          refine lv_iload_n hx hb dX2_placeAll_97 rfl (lv_at hl 1 rfl) ?_
          obtain ⟨r_553, u_554, k_556, k_557, k_558, k_559, h_555, hF, e_560, e_561⟩ := acl_some hF
          refine ccV_vA (q0 := 5) (As := [.int v1]) (rest := []) hC hH (n_X2_placePool l G Z Q _ T u u_554 r_553 k_556 k_557 v1 _ h_555) rfl rfl ⟨wkc_X2_placePool, wka235, wka450, wka451, wka746⟩ kVX2_placePool ⟨Nat.le_of_ble_eq_true rfl, Nat.le_of_ble_eq_true rfl⟩ ⟨by show _ ≤ K1; omega, by show _ ≤ K2; omega⟩ rfl hl.1 rfl (Nat.le_of_ble_eq_true rfl) dX2_placeAll_98 (fun D H locs hH => ?_)
          have hk1 := (hk1.trans (congrArg (_ + ·) e_560)).trans (Nat.add_assoc _ _ _).symm
          have hk2 := (hk2.trans (congrArg (_ + ·) e_561)).trans (Nat.add_assoc _ _ _).symm
          refine lv_goto (tgt := 121) hx hb dX2_placeAll_101 (by decide) ?_
          exact cr_vA hC hH hr (art_eq hF) (by omega) (by omega) dX2_placeAll_121 hlocks
def xl_X3_start_147 : Nat → Int32 → Int32 → Int32 → Int32 → Int32 → (Int32 → Int32 → Int32 → Int32 → Int32 → AG Int32) → AG Int32
  | 0, _, _, _, _, _, _ => fun _ => none
  | n147 + 1, v1, v2, v3, v4, v5, K147_177 => (if 16 ≤ v5 then K147_177 v1 v2 v3 v4 v5 else anl (x_X1_ofMat v4 (5 + v5)) (fun r_116 => acl (x_X1_put r_116 0) (fun r_119 => ali (v5 + 1) (fun x_128 => xl_X3_start_147 n147 v1 v2 v3 v4 x_128 K147_177))))
def x_X3_start (a0 : Int32) (a1 : Int32) (a2 : Int32) (a3 : Int32) : AG Int32 := anl (x_X1_ofFight a1 a2 0) (fun r_1 => acl (x_X1_put r_1 2) (fun r_4 => anl (x_X1_ofFight a1 a2 1) (fun r_13 => anl (x_X0_whiteOf a1 a2) (fun r_16 => acl (x_X1_put r_13 r_16) (fun r_19 => anl (x_X1_ofFight a1 a2 2) (fun r_28 => anl (x_X0_blueOf a1 a2) (fun r_31 => acl (x_X1_put r_28 r_31) (fun r_34 => anl (x_X1_ofFight a1 a2 7) (fun r_43 => acl (x_X1_put r_43 a3) (fun r_46 => anl (x_X1_ofMat a3 0) (fun r_55 => acl (x_X1_put r_55 a1) (fun r_58 => anl (x_X1_ofMat a3 1) (fun r_67 => acl (x_X1_put r_67 a2) (fun r_70 => anl (x_X1_ofMat a3 2) (fun r_79 => acl (x_X1_put r_79 a0) (fun r_82 => anl (x_X1_ofMat a3 3) (fun r_91 => acl (x_X1_put r_91 0) (fun r_94 => anl (x_X1_ofMat a3 4) (fun r_103 => acl (x_X1_put r_103 0) (fun r_106 => xl_X3_start_147 fuel a0 a1 a2 a3 0 (fun v1 v2 v3 v4 v5 => art 0)))))))))))))))))))))
set_option maxHeartbeats 4000000 in
set_option maxRecDepth 100000 in
theorem n_X3_start (l : Launch) (G : gG) (Z : gC) (Q : Nat → Nat) (D : Nat × Nat) (T : va_W) (u u1 : MS) (r : Int32) (C1 C2 : Nat) (a0 : Int32) (a1 : Int32) (a2 : Int32) (a3 : Int32) (sz : Nat) (hF : x_X3_start a0 a1 a2 a3 u = some (r, u1, C1, C2)) : Met l yX3_start (Cond.code yX3_start cX3_start 6 none :: wK) { frames := 4, cells := C1, slots := C2, locals := 108 } (va_Pc [.ref (Q 7), .int a0, .int a1, .int a2, .int a3] (cPM G Z Q D T u sz)) (cQv G Q T u1 (va_A (cW G Q D T u) sz)) C1 C2 (va_A (cW G Q D T u) sz) := by
  refine Met.ofW (cc := cX3_start) (maxL := 6) (ret := none) (by decide) rfl ?_
  intro p e s m args below meth c s₁ B hml hv
  obtain ⟨rfl, rfl, hP, hB, hD0, hE⟩ := hv
  have hr := B.returns
  have hlocks := B.notSynchronized
  have hts := atoms_spec (ws := Cond.code yX3_start cX3_start 6 none :: wK) B.pre
  have hD := hD0.self (sz := s.heap.size)
  have hA : ∀ q : Nat, s.heap.size ≤ q → va_A (cW G Q D T u) s.heap.size q := fun q h => Or.inr h
  generalize va_A (cW G Q D T u) s.heap.size = A at hD hA hE ⊢
  have hC : cX p c cX3_start 6 s m _ RX3 G Z A := ⟨B.exec, B.bytes, hml, findClass_of_methodNamed B.named, fun w h => hts w (List.mem_cons_of_mem _ h), hB, hE, hA⟩
  have hx := hC.1
  have hb := hC.2.1
  have hH : cH G Q D T A u s s.heap [] := ⟨hP, hD, va_S.rf⟩
  generalize hK1 : C1 = K1
  generalize hK2 : C2 = K2
  have hk1 : K1 = 0 + C1 := by omega
  have hk2 : K2 = 0 + C2 := by omega
  have hl := lv_entry ([.ref (Q 7), .int a0, .int a1, .int a2, .int a3]) (n := 6) (Nat.le_of_ble_eq_true rfl)
  rw [lg_entry_eq]
  generalize (lg_sl ([.ref (Q 7), .int a0, .int a1, .int a2, .int a3]) ++ List.replicate (6 - (lg_sl ([.ref (Q 7), .int a0, .int a1, .int a2, .int a3])).length) Slot.unset).toArray = ls at hl ⊢
  have hl : lv_has ls 6 [(0, .ref (Q 7)), (1, .int a0), (2, .int a1), (3, .int a2), (4, .int a3)] := hl
  unfold x_X3_start at hF
  refine lv_aload_n hx hb dX3_start_0 rfl (lv_at hl 0 rfl) ?_
  refine cg_X3_9 hC hH dX3_start_1 ?_
  refine lv_iload_n hx hb dX3_start_4 rfl (lv_at hl 2 rfl) ?_
  refine lv_iload_n hx hb dX3_start_5 rfl (lv_at hl 3 rfl) ?_
  refine lv_iconst (v := 0) hx hb dX3_start_6 (by decide) ?_
  obtain ⟨r_1, u_2, h_3, hF⟩ := anl_some hF
  refine ccS_iB (As := [.int a1, .int a2, .int 0]) (rest := [.ref (Q 1)]) hC hH (n_X1_ofFight l G Z Q _ T u u_2 r_1 a1 a2 0 _ h_3) ⟨wkc_X1_ofFight, wka290, wka437, wka745⟩ kSX1_ofFight ⟨Nat.le_of_ble_eq_true rfl, Nat.le_of_ble_eq_true rfl⟩ ⟨by show _ ≤ K1; omega, by show _ ≤ K2; omega⟩ rfl hl.1 rfl (Nat.le_of_ble_eq_true rfl) dX3_start_7 (fun D H locs hH => ?_)
  refine lv_iconst (v := 2) hx hb dX3_start_10 (by decide) ?_
  obtain ⟨r_4, u_5, k_7, k_8, k_9, k_10, h_6, hF, e_11, e_12⟩ := acl_some hF
  refine ccV_vA (q0 := 1) (As := [.int r_1, .int 2]) (rest := []) hC hH (n_X1_put l G Z Q _ T u_2 u_5 r_4 k_7 k_8 r_1 2 _ h_6) rfl rfl ⟨wkc_X1_put, wka293, wka439, wka440, wka745⟩ kVX1_put ⟨Nat.le_of_ble_eq_true rfl, Nat.le_of_ble_eq_true rfl⟩ ⟨by show _ ≤ K1; omega, by show _ ≤ K2; omega⟩ rfl hl.1 rfl (Nat.le_of_ble_eq_true rfl) dX3_start_11 (fun D H locs hH => ?_)
  have hk1 := (hk1.trans (congrArg (_ + ·) e_11)).trans (Nat.add_assoc _ _ _).symm
  have hk2 := (hk2.trans (congrArg (_ + ·) e_12)).trans (Nat.add_assoc _ _ _).symm
  refine lv_aload_n hx hb dX3_start_14 rfl (lv_at hl 0 rfl) ?_
  refine cg_X3_9 hC hH dX3_start_15 ?_
  refine lv_iload_n hx hb dX3_start_18 rfl (lv_at hl 2 rfl) ?_
  refine lv_iload_n hx hb dX3_start_19 rfl (lv_at hl 3 rfl) ?_
  refine lv_iconst (v := 1) hx hb dX3_start_20 (by decide) ?_
  obtain ⟨r_13, u_14, h_15, hF⟩ := anl_some hF
  refine ccS_iB (As := [.int a1, .int a2, .int 1]) (rest := [.ref (Q 1)]) hC hH (n_X1_ofFight l G Z Q _ T u_5 u_14 r_13 a1 a2 1 _ h_15) ⟨wkc_X1_ofFight, wka290, wka437, wka745⟩ kSX1_ofFight ⟨Nat.le_of_ble_eq_true rfl, Nat.le_of_ble_eq_true rfl⟩ ⟨by show _ ≤ K1; omega, by show _ ≤ K2; omega⟩ rfl hl.1 rfl (Nat.le_of_ble_eq_true rfl) dX3_start_21 (fun D H locs hH => ?_)
  refine lv_aload_n hx hb dX3_start_24 rfl (lv_at hl 0 rfl) ?_
  refine cg_X3_15 hC hH dX3_start_25 ?_
  refine lv_iload_n hx hb dX3_start_28 rfl (lv_at hl 2 rfl) ?_
  refine lv_iload_n hx hb dX3_start_29 rfl (lv_at hl 3 rfl) ?_
  obtain ⟨r_16, u_17, h_18, hF⟩ := anl_some hF
  refine ccV_iB (q0 := 6) (As := [.int a1, .int a2]) (rest := [.int r_13, .ref (Q 1)]) hC hH (n_X0_whiteOf l G Z Q _ T u_14 u_17 r_16 a1 a2 _ h_18) rfl rfl ⟨wkc_X0_whiteOf, wka294, wka401, wka402, wka744⟩ kVX0_whiteOf ⟨Nat.le_of_ble_eq_true rfl, Nat.le_of_ble_eq_true rfl⟩ ⟨by show _ ≤ K1; omega, by show _ ≤ K2; omega⟩ rfl hl.1 rfl (Nat.le_of_ble_eq_true rfl) dX3_start_30 (fun D H locs hH => ?_)
  obtain ⟨r_19, u_20, k_22, k_23, k_24, k_25, h_21, hF, e_26, e_27⟩ := acl_some hF
  refine ccV_vA (q0 := 1) (As := [.int r_13, .int r_16]) (rest := []) hC hH (n_X1_put l G Z Q _ T u_17 u_20 r_19 k_22 k_23 r_13 r_16 _ h_21) rfl rfl ⟨wkc_X1_put, wka293, wka439, wka440, wka745⟩ kVX1_put ⟨Nat.le_of_ble_eq_true rfl, Nat.le_of_ble_eq_true rfl⟩ ⟨by show _ ≤ K1; omega, by show _ ≤ K2; omega⟩ rfl hl.1 rfl (Nat.le_of_ble_eq_true rfl) dX3_start_33 (fun D H locs hH => ?_)
  have hk1 := (hk1.trans (congrArg (_ + ·) e_26)).trans (Nat.add_assoc _ _ _).symm
  have hk2 := (hk2.trans (congrArg (_ + ·) e_27)).trans (Nat.add_assoc _ _ _).symm
  refine lv_aload_n hx hb dX3_start_36 rfl (lv_at hl 0 rfl) ?_
  refine cg_X3_9 hC hH dX3_start_37 ?_
  refine lv_iload_n hx hb dX3_start_40 rfl (lv_at hl 2 rfl) ?_
  refine lv_iload_n hx hb dX3_start_41 rfl (lv_at hl 3 rfl) ?_
  refine lv_iconst (v := 2) hx hb dX3_start_42 (by decide) ?_
  obtain ⟨r_28, u_29, h_30, hF⟩ := anl_some hF
  refine ccS_iB (As := [.int a1, .int a2, .int 2]) (rest := [.ref (Q 1)]) hC hH (n_X1_ofFight l G Z Q _ T u_20 u_29 r_28 a1 a2 2 _ h_30) ⟨wkc_X1_ofFight, wka290, wka437, wka745⟩ kSX1_ofFight ⟨Nat.le_of_ble_eq_true rfl, Nat.le_of_ble_eq_true rfl⟩ ⟨by show _ ≤ K1; omega, by show _ ≤ K2; omega⟩ rfl hl.1 rfl (Nat.le_of_ble_eq_true rfl) dX3_start_43 (fun D H locs hH => ?_)
  refine lv_aload_n hx hb dX3_start_46 rfl (lv_at hl 0 rfl) ?_
  refine cg_X3_15 hC hH dX3_start_47 ?_
  refine lv_iload_n hx hb dX3_start_50 rfl (lv_at hl 2 rfl) ?_
  refine lv_iload_n hx hb dX3_start_51 rfl (lv_at hl 3 rfl) ?_
  obtain ⟨r_31, u_32, h_33, hF⟩ := anl_some hF
  refine ccV_iB (q0 := 6) (As := [.int a1, .int a2]) (rest := [.int r_28, .ref (Q 1)]) hC hH (n_X0_blueOf l G Z Q _ T u_29 u_32 r_31 a1 a2 _ h_33) rfl rfl ⟨wkc_X0_blueOf, wka295, wka403, wka404, wka744⟩ kVX0_blueOf ⟨Nat.le_of_ble_eq_true rfl, Nat.le_of_ble_eq_true rfl⟩ ⟨by show _ ≤ K1; omega, by show _ ≤ K2; omega⟩ rfl hl.1 rfl (Nat.le_of_ble_eq_true rfl) dX3_start_52 (fun D H locs hH => ?_)
  obtain ⟨r_34, u_35, k_37, k_38, k_39, k_40, h_36, hF, e_41, e_42⟩ := acl_some hF
  refine ccV_vA (q0 := 1) (As := [.int r_28, .int r_31]) (rest := []) hC hH (n_X1_put l G Z Q _ T u_32 u_35 r_34 k_37 k_38 r_28 r_31 _ h_36) rfl rfl ⟨wkc_X1_put, wka293, wka439, wka440, wka745⟩ kVX1_put ⟨Nat.le_of_ble_eq_true rfl, Nat.le_of_ble_eq_true rfl⟩ ⟨by show _ ≤ K1; omega, by show _ ≤ K2; omega⟩ rfl hl.1 rfl (Nat.le_of_ble_eq_true rfl) dX3_start_55 (fun D H locs hH => ?_)
  have hk1 := (hk1.trans (congrArg (_ + ·) e_41)).trans (Nat.add_assoc _ _ _).symm
  have hk2 := (hk2.trans (congrArg (_ + ·) e_42)).trans (Nat.add_assoc _ _ _).symm
  refine lv_aload_n hx hb dX3_start_58 rfl (lv_at hl 0 rfl) ?_
  refine cg_X3_9 hC hH dX3_start_59 ?_
  refine lv_iload_n hx hb dX3_start_62 rfl (lv_at hl 2 rfl) ?_
  refine lv_iload_n hx hb dX3_start_63 rfl (lv_at hl 3 rfl) ?_
  refine lv_bipush (v := 7) hx hb dX3_start_64 (by decide) ?_
  obtain ⟨r_43, u_44, h_45, hF⟩ := anl_some hF
  refine ccS_iB (As := [.int a1, .int a2, .int 7]) (rest := [.ref (Q 1)]) hC hH (n_X1_ofFight l G Z Q _ T u_35 u_44 r_43 a1 a2 7 _ h_45) ⟨wkc_X1_ofFight, wka290, wka437, wka745⟩ kSX1_ofFight ⟨Nat.le_of_ble_eq_true rfl, Nat.le_of_ble_eq_true rfl⟩ ⟨by show _ ≤ K1; omega, by show _ ≤ K2; omega⟩ rfl hl.1 rfl (Nat.le_of_ble_eq_true rfl) dX3_start_66 (fun D H locs hH => ?_)
  refine lv_iload hx hb dX3_start_69 (lv_at hl 4 rfl) ?_
  obtain ⟨r_46, u_47, k_49, k_50, k_51, k_52, h_48, hF, e_53, e_54⟩ := acl_some hF
  refine ccV_vA (q0 := 1) (As := [.int r_43, .int a3]) (rest := []) hC hH (n_X1_put l G Z Q _ T u_44 u_47 r_46 k_49 k_50 r_43 a3 _ h_48) rfl rfl ⟨wkc_X1_put, wka293, wka439, wka440, wka745⟩ kVX1_put ⟨Nat.le_of_ble_eq_true rfl, Nat.le_of_ble_eq_true rfl⟩ ⟨by show _ ≤ K1; omega, by show _ ≤ K2; omega⟩ rfl hl.1 rfl (Nat.le_of_ble_eq_true rfl) dX3_start_71 (fun D H locs hH => ?_)
  have hk1 := (hk1.trans (congrArg (_ + ·) e_53)).trans (Nat.add_assoc _ _ _).symm
  have hk2 := (hk2.trans (congrArg (_ + ·) e_54)).trans (Nat.add_assoc _ _ _).symm
  refine lv_aload_n hx hb dX3_start_74 rfl (lv_at hl 0 rfl) ?_
  refine cg_X3_9 hC hH dX3_start_75 ?_
  refine lv_iload hx hb dX3_start_78 (lv_at hl 4 rfl) ?_
  refine lv_iconst (v := 0) hx hb dX3_start_80 (by decide) ?_
  obtain ⟨r_55, u_56, h_57, hF⟩ := anl_some hF
  refine ccS_iB (As := [.int a3, .int 0]) (rest := [.ref (Q 1)]) hC hH (n_X1_ofMat l G Z Q _ T u_47 u_56 r_55 a3 0 _ h_57) ⟨wkc_X1_ofMat, wka144, wka438, wka745⟩ kSX1_ofMat ⟨Nat.le_of_ble_eq_true rfl, Nat.le_of_ble_eq_true rfl⟩ ⟨by show _ ≤ K1; omega, by show _ ≤ K2; omega⟩ rfl hl.1 rfl (Nat.le_of_ble_eq_true rfl) dX3_start_81 (fun D H locs hH => ?_)
  refine lv_iload_n hx hb dX3_start_84 rfl (lv_at hl 2 rfl) ?_
  obtain ⟨r_58, u_59, k_61, k_62, k_63, k_64, h_60, hF, e_65, e_66⟩ := acl_some hF
  refine ccV_vA (q0 := 1) (As := [.int r_55, .int a1]) (rest := []) hC hH (n_X1_put l G Z Q _ T u_56 u_59 r_58 k_61 k_62 r_55 a1 _ h_60) rfl rfl ⟨wkc_X1_put, wka293, wka439, wka440, wka745⟩ kVX1_put ⟨Nat.le_of_ble_eq_true rfl, Nat.le_of_ble_eq_true rfl⟩ ⟨by show _ ≤ K1; omega, by show _ ≤ K2; omega⟩ rfl hl.1 rfl (Nat.le_of_ble_eq_true rfl) dX3_start_85 (fun D H locs hH => ?_)
  have hk1 := (hk1.trans (congrArg (_ + ·) e_65)).trans (Nat.add_assoc _ _ _).symm
  have hk2 := (hk2.trans (congrArg (_ + ·) e_66)).trans (Nat.add_assoc _ _ _).symm
  refine lv_aload_n hx hb dX3_start_88 rfl (lv_at hl 0 rfl) ?_
  refine cg_X3_9 hC hH dX3_start_89 ?_
  refine lv_iload hx hb dX3_start_92 (lv_at hl 4 rfl) ?_
  refine lv_iconst (v := 1) hx hb dX3_start_94 (by decide) ?_
  obtain ⟨r_67, u_68, h_69, hF⟩ := anl_some hF
  refine ccS_iB (As := [.int a3, .int 1]) (rest := [.ref (Q 1)]) hC hH (n_X1_ofMat l G Z Q _ T u_59 u_68 r_67 a3 1 _ h_69) ⟨wkc_X1_ofMat, wka144, wka438, wka745⟩ kSX1_ofMat ⟨Nat.le_of_ble_eq_true rfl, Nat.le_of_ble_eq_true rfl⟩ ⟨by show _ ≤ K1; omega, by show _ ≤ K2; omega⟩ rfl hl.1 rfl (Nat.le_of_ble_eq_true rfl) dX3_start_95 (fun D H locs hH => ?_)
  refine lv_iload_n hx hb dX3_start_98 rfl (lv_at hl 3 rfl) ?_
  obtain ⟨r_70, u_71, k_73, k_74, k_75, k_76, h_72, hF, e_77, e_78⟩ := acl_some hF
  refine ccV_vA (q0 := 1) (As := [.int r_67, .int a2]) (rest := []) hC hH (n_X1_put l G Z Q _ T u_68 u_71 r_70 k_73 k_74 r_67 a2 _ h_72) rfl rfl ⟨wkc_X1_put, wka293, wka439, wka440, wka745⟩ kVX1_put ⟨Nat.le_of_ble_eq_true rfl, Nat.le_of_ble_eq_true rfl⟩ ⟨by show _ ≤ K1; omega, by show _ ≤ K2; omega⟩ rfl hl.1 rfl (Nat.le_of_ble_eq_true rfl) dX3_start_99 (fun D H locs hH => ?_)
  have hk1 := (hk1.trans (congrArg (_ + ·) e_77)).trans (Nat.add_assoc _ _ _).symm
  have hk2 := (hk2.trans (congrArg (_ + ·) e_78)).trans (Nat.add_assoc _ _ _).symm
  refine lv_aload_n hx hb dX3_start_102 rfl (lv_at hl 0 rfl) ?_
  refine cg_X3_9 hC hH dX3_start_103 ?_
  refine lv_iload hx hb dX3_start_106 (lv_at hl 4 rfl) ?_
  refine lv_iconst (v := 2) hx hb dX3_start_108 (by decide) ?_
  obtain ⟨r_79, u_80, h_81, hF⟩ := anl_some hF
  refine ccS_iB (As := [.int a3, .int 2]) (rest := [.ref (Q 1)]) hC hH (n_X1_ofMat l G Z Q _ T u_71 u_80 r_79 a3 2 _ h_81) ⟨wkc_X1_ofMat, wka144, wka438, wka745⟩ kSX1_ofMat ⟨Nat.le_of_ble_eq_true rfl, Nat.le_of_ble_eq_true rfl⟩ ⟨by show _ ≤ K1; omega, by show _ ≤ K2; omega⟩ rfl hl.1 rfl (Nat.le_of_ble_eq_true rfl) dX3_start_109 (fun D H locs hH => ?_)
  refine lv_iload_n hx hb dX3_start_112 rfl (lv_at hl 1 rfl) ?_
  obtain ⟨r_82, u_83, k_85, k_86, k_87, k_88, h_84, hF, e_89, e_90⟩ := acl_some hF
  refine ccV_vA (q0 := 1) (As := [.int r_79, .int a0]) (rest := []) hC hH (n_X1_put l G Z Q _ T u_80 u_83 r_82 k_85 k_86 r_79 a0 _ h_84) rfl rfl ⟨wkc_X1_put, wka293, wka439, wka440, wka745⟩ kVX1_put ⟨Nat.le_of_ble_eq_true rfl, Nat.le_of_ble_eq_true rfl⟩ ⟨by show _ ≤ K1; omega, by show _ ≤ K2; omega⟩ rfl hl.1 rfl (Nat.le_of_ble_eq_true rfl) dX3_start_113 (fun D H locs hH => ?_)
  have hk1 := (hk1.trans (congrArg (_ + ·) e_89)).trans (Nat.add_assoc _ _ _).symm
  have hk2 := (hk2.trans (congrArg (_ + ·) e_90)).trans (Nat.add_assoc _ _ _).symm
  refine lv_aload_n hx hb dX3_start_116 rfl (lv_at hl 0 rfl) ?_
  refine cg_X3_9 hC hH dX3_start_117 ?_
  refine lv_iload hx hb dX3_start_120 (lv_at hl 4 rfl) ?_
  refine lv_iconst (v := 3) hx hb dX3_start_122 (by decide) ?_
  obtain ⟨r_91, u_92, h_93, hF⟩ := anl_some hF
  refine ccS_iB (As := [.int a3, .int 3]) (rest := [.ref (Q 1)]) hC hH (n_X1_ofMat l G Z Q _ T u_83 u_92 r_91 a3 3 _ h_93) ⟨wkc_X1_ofMat, wka144, wka438, wka745⟩ kSX1_ofMat ⟨Nat.le_of_ble_eq_true rfl, Nat.le_of_ble_eq_true rfl⟩ ⟨by show _ ≤ K1; omega, by show _ ≤ K2; omega⟩ rfl hl.1 rfl (Nat.le_of_ble_eq_true rfl) dX3_start_123 (fun D H locs hH => ?_)
  refine lv_iconst (v := 0) hx hb dX3_start_126 (by decide) ?_
  obtain ⟨r_94, u_95, k_97, k_98, k_99, k_100, h_96, hF, e_101, e_102⟩ := acl_some hF
  refine ccV_vA (q0 := 1) (As := [.int r_91, .int 0]) (rest := []) hC hH (n_X1_put l G Z Q _ T u_92 u_95 r_94 k_97 k_98 r_91 0 _ h_96) rfl rfl ⟨wkc_X1_put, wka293, wka439, wka440, wka745⟩ kVX1_put ⟨Nat.le_of_ble_eq_true rfl, Nat.le_of_ble_eq_true rfl⟩ ⟨by show _ ≤ K1; omega, by show _ ≤ K2; omega⟩ rfl hl.1 rfl (Nat.le_of_ble_eq_true rfl) dX3_start_127 (fun D H locs hH => ?_)
  have hk1 := (hk1.trans (congrArg (_ + ·) e_101)).trans (Nat.add_assoc _ _ _).symm
  have hk2 := (hk2.trans (congrArg (_ + ·) e_102)).trans (Nat.add_assoc _ _ _).symm
  refine lv_aload_n hx hb dX3_start_130 rfl (lv_at hl 0 rfl) ?_
  refine cg_X3_9 hC hH dX3_start_131 ?_
  refine lv_iload hx hb dX3_start_134 (lv_at hl 4 rfl) ?_
  refine lv_iconst (v := 4) hx hb dX3_start_136 (by decide) ?_
  obtain ⟨r_103, u_104, h_105, hF⟩ := anl_some hF
  refine ccS_iB (As := [.int a3, .int 4]) (rest := [.ref (Q 1)]) hC hH (n_X1_ofMat l G Z Q _ T u_95 u_104 r_103 a3 4 _ h_105) ⟨wkc_X1_ofMat, wka144, wka438, wka745⟩ kSX1_ofMat ⟨Nat.le_of_ble_eq_true rfl, Nat.le_of_ble_eq_true rfl⟩ ⟨by show _ ≤ K1; omega, by show _ ≤ K2; omega⟩ rfl hl.1 rfl (Nat.le_of_ble_eq_true rfl) dX3_start_137 (fun D H locs hH => ?_)
  refine lv_iconst (v := 0) hx hb dX3_start_140 (by decide) ?_
  obtain ⟨r_106, u_107, k_109, k_110, k_111, k_112, h_108, hF, e_113, e_114⟩ := acl_some hF
  refine ccV_vA (q0 := 1) (As := [.int r_103, .int 0]) (rest := []) hC hH (n_X1_put l G Z Q _ T u_104 u_107 r_106 k_109 k_110 r_103 0 _ h_108) rfl rfl ⟨wkc_X1_put, wka293, wka439, wka440, wka745⟩ kVX1_put ⟨Nat.le_of_ble_eq_true rfl, Nat.le_of_ble_eq_true rfl⟩ ⟨by show _ ≤ K1; omega, by show _ ≤ K2; omega⟩ rfl hl.1 rfl (Nat.le_of_ble_eq_true rfl) dX3_start_141 (fun D H locs hH => ?_)
  have hk1 := (hk1.trans (congrArg (_ + ·) e_113)).trans (Nat.add_assoc _ _ _).symm
  have hk2 := (hk2.trans (congrArg (_ + ·) e_114)).trans (Nat.add_assoc _ _ _).symm
  refine lv_iconst (v := 0) hx hb dX3_start_144 (by decide) ?_
  refine lv_istore (lv' := [(5, .int 0), (0, .ref (Q 7)), (1, .int a0), (2, .int a1), (3, .int a2), (4, .int a3)]) hx hb dX3_start_145 hl (by decide) rfl (fun ls hl => ?_)
  have hL147 : ∀ (K147_177 : Int32 → Int32 → Int32 → Int32 → Int32 → AG Int32), (∀ (v1 v2 v3 v4 v5 : Int32) (u : MS) (D : Nat × Nat) (H : Heap) (locs : List Loc) (ls : Array Slot) (cells slots C1 C2 : Nat), lv_has ls 6 [(0, .ref (Q 7)), (1, .int v1), (2, .int v2), (3, .int v3), (4, .int v4), (5, .int v5)] → cH G Q D T A u s H locs → K147_177 v1 v2 v3 v4 v5 u = some (r, u1, C1, C2) → K1 = cells + C1 → K2 = slots + C2 → W p l e (headSpec (Cond.code yX3_start cX3_start 6 none :: wK) { frames := 4, cells := K1, slots := K2, locals := 108 }).room s m [.ref (Q 7), .int a0, .int a1, .int a2, .int a3].toArray below meth c H locs cells slots (MQ below (cQv G Q T u1 A) [.ref (Q 7), .int a0, .int a1, .int a2, .int a3].toArray s K1 K2 A) (F0 m 177 ls [])) → ∀ (n147 : Nat) (v1 v2 v3 v4 v5 : Int32) (u : MS) (D : Nat × Nat) (H : Heap) (locs : List Loc) (ls : Array Slot) (cells slots C1 C2 : Nat), lv_has ls 6 [(0, .ref (Q 7)), (1, .int v1), (2, .int v2), (3, .int v3), (4, .int v4), (5, .int v5)] → cH G Q D T A u s H locs → xl_X3_start_147 n147 v1 v2 v3 v4 v5 K147_177 u = some (r, u1, C1, C2) → K1 = cells + C1 → K2 = slots + C2 → W p l e (headSpec (Cond.code yX3_start cX3_start 6 none :: wK) { frames := 4, cells := K1, slots := K2, locals := 108 }).room s m [.ref (Q 7), .int a0, .int a1, .int a2, .int a3].toArray below meth c H locs cells slots (MQ below (cQv G Q T u1 A) [.ref (Q 7), .int a0, .int a1, .int a2, .int a3].toArray s K1 K2 A) (F0 m 147 ls []) := by
    intro K147_177 hK147_177 n147
    induction n147 with
    | zero => intro v1 v2 v3 v4 v5 u D H locs ls cells slots C1 C2 hl hH hF; cases hF
    | succ n147 ih147 =>
      intro v1 v2 v3 v4 v5 u D H locs ls cells slots C1 C2 hl hH hF hk1 hk2
      unfold xl_X3_start_147 at hF
      refine lv_iload hx hb dX3_start_147 (lv_at hl 5 rfl) ?_
      refine lv_bipush (v := 16) hx hb dX3_start_149 (by decide) ?_
      refine lv_icmp_ge (tgt := 177) hx hb dX3_start_151 (by decide) (fun c_115 => ?_) (fun c_115 => ?_)
      · rw [if_pos c_115] at hF
        exact hK147_177 v1 v2 v3 v4 v5 u _ _ _ _ _ _ _ _ (lv_sub hl [0, 1, 2, 3, 4, 5] rfl) hH hF hk1 hk2
      · rw [if_neg c_115] at hF
        refine lv_aload_n hx hb dX3_start_154 rfl (lv_at hl 0 rfl) ?_
        refine cg_X3_9 hC hH dX3_start_155 ?_
        refine lv_iload hx hb dX3_start_158 (lv_at hl 4 rfl) ?_
        refine lv_iconst (v := 5) hx hb dX3_start_160 (by decide) ?_
        refine lv_iload hx hb dX3_start_161 (lv_at hl 5 rfl) ?_
        refine lv_iadd hx hb dX3_start_163 ?_
        obtain ⟨r_116, u_117, h_118, hF⟩ := anl_some hF
        refine ccS_iB (As := [.int v4, .int (5 + v5)]) (rest := [.ref (Q 1)]) hC hH (n_X1_ofMat l G Z Q _ T u u_117 r_116 v4 (5 + v5) _ h_118) ⟨wkc_X1_ofMat, wka144, wka438, wka745⟩ kSX1_ofMat ⟨Nat.le_of_ble_eq_true rfl, Nat.le_of_ble_eq_true rfl⟩ ⟨by show _ ≤ K1; omega, by show _ ≤ K2; omega⟩ rfl hl.1 rfl (Nat.le_of_ble_eq_true rfl) dX3_start_164 (fun D H locs hH => ?_)
        refine lv_iconst (v := 0) hx hb dX3_start_167 (by decide) ?_
        obtain ⟨r_119, u_120, k_122, k_123, k_124, k_125, h_121, hF, e_126, e_127⟩ := acl_some hF
        refine ccV_vA (q0 := 1) (As := [.int r_116, .int 0]) (rest := []) hC hH (n_X1_put l G Z Q _ T u_117 u_120 r_119 k_122 k_123 r_116 0 _ h_121) rfl rfl ⟨wkc_X1_put, wka293, wka439, wka440, wka745⟩ kVX1_put ⟨Nat.le_of_ble_eq_true rfl, Nat.le_of_ble_eq_true rfl⟩ ⟨by show _ ≤ K1; omega, by show _ ≤ K2; omega⟩ rfl hl.1 rfl (Nat.le_of_ble_eq_true rfl) dX3_start_168 (fun D H locs hH => ?_)
        have hk1 := (hk1.trans (congrArg (_ + ·) e_126)).trans (Nat.add_assoc _ _ _).symm
        have hk2 := (hk2.trans (congrArg (_ + ·) e_127)).trans (Nat.add_assoc _ _ _).symm
        obtain ⟨x_128, e_129, hF⟩ := ali_some hF
        refine lv_iinc (v := x_128) (lv' := [(5, .int x_128), (0, .ref (Q 7)), (1, .int v1), (2, .int v2), (3, .int v3), (4, .int v4)]) hx hb dX3_start_171 hl (k := 5) rfl e_129 (by decide) rfl (fun ls hl => ?_)
        refine lv_goto (tgt := 147) hx hb dX3_start_174 (by decide) ?_
        exact ih147 v1 v2 v3 v4 x_128 u_120 _ _ _ _ _ _ _ _ (lv_sub hl [1, 2, 3, 4, 5, 0] rfl) hH hF hk1 hk2
  refine hL147 _ (fun v1 v2 v3 v4 v5 u D H locs ls cells slots C1 C2 hl hH hF hk1 hk2 => ?_) fuel a0 a1 a2 a3 0 u_107 _ _ _ _ _ _ _ _ (lv_sub hl [1, 2, 3, 4, 5, 0] rfl) hH hF hk1 hk2
  exact cr_vA hC hH hr (art_eq hF) (by omega) (by omega) dX3_start_177 hlocks
def x_X3_turnOver (L : MS) (a1 : Int32) : AG Int32 := anl (x_X3_isFree a1) (fun r_1 => (if r_1 = 0 then anl (x_X3_on a1 2) (fun r_5 => (if r_5 ≤ 0 then anl (x_X3_on a1 3) (fun r_9 => (if r_9 = 0 then (if (L.1 1) ≤ 0 then anl (x_X1_ofMat a1 4) (fun r_26 => acl (x_X1_put r_26 1) (fun r_29 => art 0)) else anl (x_X1_ofMat a1 3) (fun r_38 => acl (x_X1_put r_38 1) (fun r_41 => anl (x_X1_ofMat a1 2) (fun r_50 => acl (x_X1_put r_50 (L.1 1)) (fun r_53 => art 0))))) else anl (x_X1_ofMat a1 4) (fun r_13 => acl (x_X1_put r_13 1) (fun r_16 => art 0)))) else art 0)) else art 0))
set_option maxHeartbeats 4000000 in
set_option maxRecDepth 100000 in
theorem n_X3_turnOver (l : Launch) (G : gG) (Z : gC) (Q : Nat → Nat) (D : Nat × Nat) (T : va_W) (la : Nat) (lq : Nat → Nat) (L : MS) (hL : lawAt G T la lq L) (u u1 : MS) (r : Int32) (C1 C2 : Nat) (a1 : Int32) (sz : Nat) (hF : x_X3_turnOver L a1 u = some (r, u1, C1, C2)) : Met l yX3_turnOver (Cond.code yX3_turnOver cX3_turnOver 3 none :: wK) { frames := 4, cells := C1, slots := C2, locals := 108 } (va_Pc [.ref (Q 7), .ref la, .int a1] (cPM G Z Q D T u sz)) (cQv G Q T u1 (va_A (cW G Q D T u) sz)) C1 C2 (va_A (cW G Q D T u) sz) := by
  refine Met.ofW (cc := cX3_turnOver) (maxL := 3) (ret := none) (by decide) rfl ?_
  intro p e s m args below meth c s₁ B hml hv
  obtain ⟨rfl, rfl, hP, hB, hD0, hE⟩ := hv
  have hr := B.returns
  have hlocks := B.notSynchronized
  have hts := atoms_spec (ws := Cond.code yX3_turnOver cX3_turnOver 3 none :: wK) B.pre
  have hD := hD0.self (sz := s.heap.size)
  have hA : ∀ q : Nat, s.heap.size ≤ q → va_A (cW G Q D T u) s.heap.size q := fun q h => Or.inr h
  generalize va_A (cW G Q D T u) s.heap.size = A at hD hA hE ⊢
  have hC : cX p c cX3_turnOver 3 s m _ RX3 G Z A := ⟨B.exec, B.bytes, hml, findClass_of_methodNamed B.named, fun w h => hts w (List.mem_cons_of_mem _ h), hB, hE, hA⟩
  have hx := hC.1
  have hb := hC.2.1
  have hH : cH G Q D T A u s s.heap [] := ⟨hP, hD, va_S.rf⟩
  generalize hK1 : C1 = K1
  generalize hK2 : C2 = K2
  have hk1 : K1 = 0 + C1 := by omega
  have hk2 : K2 = 0 + C2 := by omega
  have hl := lv_entry ([.ref (Q 7), .ref la, .int a1]) (n := 3) (Nat.le_of_ble_eq_true rfl)
  rw [lg_entry_eq]
  generalize (lg_sl ([.ref (Q 7), .ref la, .int a1]) ++ List.replicate (3 - (lg_sl ([.ref (Q 7), .ref la, .int a1])).length) Slot.unset).toArray = ls at hl ⊢
  have hl : lv_has ls 3 [(0, .ref (Q 7)), (1, .ref la), (2, .int a1)] := hl
  unfold x_X3_turnOver at hF
  refine lv_aload_n hx hb dX3_turnOver_0 rfl (lv_at hl 0 rfl) ?_
  refine lv_iload_n hx hb dX3_turnOver_1 rfl (lv_at hl 2 rfl) ?_
  obtain ⟨r_1, u_2, h_3, hF⟩ := anl_some hF
  refine ccV_iB (q0 := 7) (As := [.int a1]) (rest := []) hC hH (n_X3_isFree l G Z Q _ T u u_2 r_1 a1 _ h_3) rfl rfl ⟨wkc_X3_isFree, wka142, wka473, wka474, wka747⟩ kVX3_isFree ⟨Nat.le_of_ble_eq_true rfl, Nat.le_of_ble_eq_true rfl⟩ ⟨by show _ ≤ K1; omega, by show _ ≤ K2; omega⟩ rfl hl.1 rfl (Nat.le_of_ble_eq_true rfl) dX3_turnOver_2 (fun D H locs hH => ?_)
  refine lv_if_ne (tgt := 17) hx hb dX3_turnOver_5 (by decide) (fun c_4 => ?_) (fun c_4 => ?_)
  · rw [if_neg c_4] at hF
    exact cr_vA hC hH hr (art_eq hF) (by omega) (by omega) dX3_turnOver_17 hlocks
  · rw [if_pos c_4] at hF
    refine lv_aload_n hx hb dX3_turnOver_8 rfl (lv_at hl 0 rfl) ?_
    refine lv_iload_n hx hb dX3_turnOver_9 rfl (lv_at hl 2 rfl) ?_
    refine lv_iconst (v := 2) hx hb dX3_turnOver_10 (by decide) ?_
    obtain ⟨r_5, u_6, h_7, hF⟩ := anl_some hF
    refine ccV_iB (q0 := 7) (As := [.int a1, .int 2]) (rest := []) hC hH (n_X3_on l G Z Q _ T u_2 u_6 r_5 a1 2 _ h_7) rfl rfl ⟨wkc_X3_on, wka143, wka471, wka472, wka747⟩ kVX3_on ⟨Nat.le_of_ble_eq_true rfl, Nat.le_of_ble_eq_true rfl⟩ ⟨by show _ ≤ K1; omega, by show _ ≤ K2; omega⟩ rfl hl.1 rfl (Nat.le_of_ble_eq_true rfl) dX3_turnOver_11 (fun D H locs hH => ?_)
    refine lv_if_le (tgt := 18) hx hb dX3_turnOver_14 (by decide) (fun c_8 => ?_) (fun c_8 => ?_)
    · rw [if_pos c_8] at hF
      refine lv_aload_n hx hb dX3_turnOver_18 rfl (lv_at hl 0 rfl) ?_
      refine lv_iload_n hx hb dX3_turnOver_19 rfl (lv_at hl 2 rfl) ?_
      refine lv_iconst (v := 3) hx hb dX3_turnOver_20 (by decide) ?_
      obtain ⟨r_9, u_10, h_11, hF⟩ := anl_some hF
      refine ccV_iB (q0 := 7) (As := [.int a1, .int 3]) (rest := []) hC hH (n_X3_on l G Z Q _ T u_6 u_10 r_9 a1 3 _ h_11) rfl rfl ⟨wkc_X3_on, wka143, wka471, wka472, wka747⟩ kVX3_on ⟨Nat.le_of_ble_eq_true rfl, Nat.le_of_ble_eq_true rfl⟩ ⟨by show _ ≤ K1; omega, by show _ ≤ K2; omega⟩ rfl hl.1 rfl (Nat.le_of_ble_eq_true rfl) dX3_turnOver_21 (fun D H locs hH => ?_)
      refine lv_if_ne (tgt := 66) hx hb dX3_turnOver_24 (by decide) (fun c_12 => ?_) (fun c_12 => ?_)
      · rw [if_neg c_12] at hF
        refine lv_aload_n hx hb dX3_turnOver_66 rfl (lv_at hl 0 rfl) ?_
        refine cg_X3_9 hC hH dX3_turnOver_67 ?_
        refine lv_iload_n hx hb dX3_turnOver_70 rfl (lv_at hl 2 rfl) ?_
        refine lv_iconst (v := 4) hx hb dX3_turnOver_71 (by decide) ?_
        obtain ⟨r_13, u_14, h_15, hF⟩ := anl_some hF
        refine ccS_iB (As := [.int a1, .int 4]) (rest := [.ref (Q 1)]) hC hH (n_X1_ofMat l G Z Q _ T u_10 u_14 r_13 a1 4 _ h_15) ⟨wkc_X1_ofMat, wka144, wka438, wka745⟩ kSX1_ofMat ⟨Nat.le_of_ble_eq_true rfl, Nat.le_of_ble_eq_true rfl⟩ ⟨by show _ ≤ K1; omega, by show _ ≤ K2; omega⟩ rfl hl.1 rfl (Nat.le_of_ble_eq_true rfl) dX3_turnOver_72 (fun D H locs hH => ?_)
        refine lv_iconst (v := 1) hx hb dX3_turnOver_75 (by decide) ?_
        obtain ⟨r_16, u_17, k_19, k_20, k_21, k_22, h_18, hF, e_23, e_24⟩ := acl_some hF
        refine ccV_vA (q0 := 1) (As := [.int r_13, .int 1]) (rest := []) hC hH (n_X1_put l G Z Q _ T u_14 u_17 r_16 k_19 k_20 r_13 1 _ h_18) rfl rfl ⟨wkc_X1_put, wka293, wka439, wka440, wka745⟩ kVX1_put ⟨Nat.le_of_ble_eq_true rfl, Nat.le_of_ble_eq_true rfl⟩ ⟨by show _ ≤ K1; omega, by show _ ≤ K2; omega⟩ rfl hl.1 rfl (Nat.le_of_ble_eq_true rfl) dX3_turnOver_76 (fun D H locs hH => ?_)
        have hk1 := (hk1.trans (congrArg (_ + ·) e_23)).trans (Nat.add_assoc _ _ _).symm
        have hk2 := (hk2.trans (congrArg (_ + ·) e_24)).trans (Nat.add_assoc _ _ _).symm
        exact cr_vA hC hH hr (art_eq hF) (by omega) (by omega) dX3_turnOver_79 hlocks
      · rw [if_pos c_12] at hF
        refine lv_aload_n hx hb dX3_turnOver_27 rfl (lv_at hl 1 rfl) ?_
        refine lg_X3_68 hC hH hL dX3_turnOver_28 ?_
        refine lv_if_le (tgt := 66) hx hb dX3_turnOver_31 (by decide) (fun c_25 => ?_) (fun c_25 => ?_)
        · rw [if_pos c_25] at hF
          refine lv_aload_n hx hb dX3_turnOver_66 rfl (lv_at hl 0 rfl) ?_
          refine cg_X3_9 hC hH dX3_turnOver_67 ?_
          refine lv_iload_n hx hb dX3_turnOver_70 rfl (lv_at hl 2 rfl) ?_
          refine lv_iconst (v := 4) hx hb dX3_turnOver_71 (by decide) ?_
          obtain ⟨r_26, u_27, h_28, hF⟩ := anl_some hF
          refine ccS_iB (As := [.int a1, .int 4]) (rest := [.ref (Q 1)]) hC hH (n_X1_ofMat l G Z Q _ T u_10 u_27 r_26 a1 4 _ h_28) ⟨wkc_X1_ofMat, wka144, wka438, wka745⟩ kSX1_ofMat ⟨Nat.le_of_ble_eq_true rfl, Nat.le_of_ble_eq_true rfl⟩ ⟨by show _ ≤ K1; omega, by show _ ≤ K2; omega⟩ rfl hl.1 rfl (Nat.le_of_ble_eq_true rfl) dX3_turnOver_72 (fun D H locs hH => ?_)
          refine lv_iconst (v := 1) hx hb dX3_turnOver_75 (by decide) ?_
          obtain ⟨r_29, u_30, k_32, k_33, k_34, k_35, h_31, hF, e_36, e_37⟩ := acl_some hF
          refine ccV_vA (q0 := 1) (As := [.int r_26, .int 1]) (rest := []) hC hH (n_X1_put l G Z Q _ T u_27 u_30 r_29 k_32 k_33 r_26 1 _ h_31) rfl rfl ⟨wkc_X1_put, wka293, wka439, wka440, wka745⟩ kVX1_put ⟨Nat.le_of_ble_eq_true rfl, Nat.le_of_ble_eq_true rfl⟩ ⟨by show _ ≤ K1; omega, by show _ ≤ K2; omega⟩ rfl hl.1 rfl (Nat.le_of_ble_eq_true rfl) dX3_turnOver_76 (fun D H locs hH => ?_)
          have hk1 := (hk1.trans (congrArg (_ + ·) e_36)).trans (Nat.add_assoc _ _ _).symm
          have hk2 := (hk2.trans (congrArg (_ + ·) e_37)).trans (Nat.add_assoc _ _ _).symm
          exact cr_vA hC hH hr (art_eq hF) (by omega) (by omega) dX3_turnOver_79 hlocks
        · rw [if_neg c_25] at hF
          refine lv_aload_n hx hb dX3_turnOver_34 rfl (lv_at hl 0 rfl) ?_
          refine cg_X3_9 hC hH dX3_turnOver_35 ?_
          refine lv_iload_n hx hb dX3_turnOver_38 rfl (lv_at hl 2 rfl) ?_
          refine lv_iconst (v := 3) hx hb dX3_turnOver_39 (by decide) ?_
          obtain ⟨r_38, u_39, h_40, hF⟩ := anl_some hF
          refine ccS_iB (As := [.int a1, .int 3]) (rest := [.ref (Q 1)]) hC hH (n_X1_ofMat l G Z Q _ T u_10 u_39 r_38 a1 3 _ h_40) ⟨wkc_X1_ofMat, wka144, wka438, wka745⟩ kSX1_ofMat ⟨Nat.le_of_ble_eq_true rfl, Nat.le_of_ble_eq_true rfl⟩ ⟨by show _ ≤ K1; omega, by show _ ≤ K2; omega⟩ rfl hl.1 rfl (Nat.le_of_ble_eq_true rfl) dX3_turnOver_40 (fun D H locs hH => ?_)
          refine lv_iconst (v := 1) hx hb dX3_turnOver_43 (by decide) ?_
          obtain ⟨r_41, u_42, k_44, k_45, k_46, k_47, h_43, hF, e_48, e_49⟩ := acl_some hF
          refine ccV_vA (q0 := 1) (As := [.int r_38, .int 1]) (rest := []) hC hH (n_X1_put l G Z Q _ T u_39 u_42 r_41 k_44 k_45 r_38 1 _ h_43) rfl rfl ⟨wkc_X1_put, wka293, wka439, wka440, wka745⟩ kVX1_put ⟨Nat.le_of_ble_eq_true rfl, Nat.le_of_ble_eq_true rfl⟩ ⟨by show _ ≤ K1; omega, by show _ ≤ K2; omega⟩ rfl hl.1 rfl (Nat.le_of_ble_eq_true rfl) dX3_turnOver_44 (fun D H locs hH => ?_)
          have hk1 := (hk1.trans (congrArg (_ + ·) e_48)).trans (Nat.add_assoc _ _ _).symm
          have hk2 := (hk2.trans (congrArg (_ + ·) e_49)).trans (Nat.add_assoc _ _ _).symm
          refine lv_aload_n hx hb dX3_turnOver_47 rfl (lv_at hl 0 rfl) ?_
          refine cg_X3_9 hC hH dX3_turnOver_48 ?_
          refine lv_iload_n hx hb dX3_turnOver_51 rfl (lv_at hl 2 rfl) ?_
          refine lv_iconst (v := 2) hx hb dX3_turnOver_52 (by decide) ?_
          obtain ⟨r_50, u_51, h_52, hF⟩ := anl_some hF
          refine ccS_iB (As := [.int a1, .int 2]) (rest := [.ref (Q 1)]) hC hH (n_X1_ofMat l G Z Q _ T u_42 u_51 r_50 a1 2 _ h_52) ⟨wkc_X1_ofMat, wka144, wka438, wka745⟩ kSX1_ofMat ⟨Nat.le_of_ble_eq_true rfl, Nat.le_of_ble_eq_true rfl⟩ ⟨by show _ ≤ K1; omega, by show _ ≤ K2; omega⟩ rfl hl.1 rfl (Nat.le_of_ble_eq_true rfl) dX3_turnOver_53 (fun D H locs hH => ?_)
          refine lv_aload_n hx hb dX3_turnOver_56 rfl (lv_at hl 1 rfl) ?_
          refine lg_X3_68 hC hH hL dX3_turnOver_57 ?_
          obtain ⟨r_53, u_54, k_56, k_57, k_58, k_59, h_55, hF, e_60, e_61⟩ := acl_some hF
          refine ccV_vA (q0 := 1) (As := [.int r_50, .int (L.1 1)]) (rest := []) hC hH (n_X1_put l G Z Q _ T u_51 u_54 r_53 k_56 k_57 r_50 (L.1 1) _ h_55) rfl rfl ⟨wkc_X1_put, wka293, wka439, wka440, wka745⟩ kVX1_put ⟨Nat.le_of_ble_eq_true rfl, Nat.le_of_ble_eq_true rfl⟩ ⟨by show _ ≤ K1; omega, by show _ ≤ K2; omega⟩ rfl hl.1 rfl (Nat.le_of_ble_eq_true rfl) dX3_turnOver_60 (fun D H locs hH => ?_)
          have hk1 := (hk1.trans (congrArg (_ + ·) e_60)).trans (Nat.add_assoc _ _ _).symm
          have hk2 := (hk2.trans (congrArg (_ + ·) e_61)).trans (Nat.add_assoc _ _ _).symm
          refine lv_goto (tgt := 79) hx hb dX3_turnOver_63 (by decide) ?_
          exact cr_vA hC hH hr (art_eq hF) (by omega) (by omega) dX3_turnOver_79 hlocks
    · rw [if_neg c_8] at hF
      exact cr_vA hC hH hr (art_eq hF) (by omega) (by omega) dX3_turnOver_17 hlocks
def x_X3_giveSign (a0 : Int32) (a1 : Int32) (a2 : Int32) : AG Int32 := anl (x_X3_signsOf a0 a1 a2) (fun r_1 => anl (x_X1_ofMat a0 ((5 + (a1 * 8)) + a2)) (fun r_4 => acl (x_X1_put r_4 (if 99 < (r_1 + 1) then 99 else (r_1 + 1))) (fun r_7 => art 0)))
set_option maxHeartbeats 4000000 in
set_option maxRecDepth 100000 in
theorem n_X3_giveSign (l : Launch) (G : gG) (Z : gC) (Q : Nat → Nat) (D : Nat × Nat) (T : va_W) (u u1 : MS) (r : Int32) (C1 C2 : Nat) (a0 : Int32) (a1 : Int32) (a2 : Int32) (sz : Nat) (hF : x_X3_giveSign a0 a1 a2 u = some (r, u1, C1, C2)) : Met l yX3_giveSign (Cond.code yX3_giveSign cX3_giveSign 6 none :: wK) { frames := 4, cells := C1, slots := C2, locals := 108 } (va_Pc [.ref (Q 7), .int a0, .int a1, .int a2] (cPM G Z Q D T u sz)) (cQv G Q T u1 (va_A (cW G Q D T u) sz)) C1 C2 (va_A (cW G Q D T u) sz) := by
  refine Met.ofW (cc := cX3_giveSign) (maxL := 6) (ret := none) (by decide) rfl ?_
  intro p e s m args below meth c s₁ B hml hv
  obtain ⟨rfl, rfl, hP, hB, hD0, hE⟩ := hv
  have hr := B.returns
  have hlocks := B.notSynchronized
  have hts := atoms_spec (ws := Cond.code yX3_giveSign cX3_giveSign 6 none :: wK) B.pre
  have hD := hD0.self (sz := s.heap.size)
  have hA : ∀ q : Nat, s.heap.size ≤ q → va_A (cW G Q D T u) s.heap.size q := fun q h => Or.inr h
  generalize va_A (cW G Q D T u) s.heap.size = A at hD hA hE ⊢
  have hC : cX p c cX3_giveSign 6 s m _ RX3 G Z A := ⟨B.exec, B.bytes, hml, findClass_of_methodNamed B.named, fun w h => hts w (List.mem_cons_of_mem _ h), hB, hE, hA⟩
  have hx := hC.1
  have hb := hC.2.1
  have hH : cH G Q D T A u s s.heap [] := ⟨hP, hD, va_S.rf⟩
  generalize hK1 : C1 = K1
  generalize hK2 : C2 = K2
  have hk1 : K1 = 0 + C1 := by omega
  have hk2 : K2 = 0 + C2 := by omega
  have hl := lv_entry ([.ref (Q 7), .int a0, .int a1, .int a2]) (n := 6) (Nat.le_of_ble_eq_true rfl)
  rw [lg_entry_eq]
  generalize (lg_sl ([.ref (Q 7), .int a0, .int a1, .int a2]) ++ List.replicate (6 - (lg_sl ([.ref (Q 7), .int a0, .int a1, .int a2])).length) Slot.unset).toArray = ls at hl ⊢
  have hl : lv_has ls 6 [(0, .ref (Q 7)), (1, .int a0), (2, .int a1), (3, .int a2)] := hl
  unfold x_X3_giveSign at hF
  refine lv_aload_n hx hb dX3_giveSign_0 rfl (lv_at hl 0 rfl) ?_
  refine lv_iload_n hx hb dX3_giveSign_1 rfl (lv_at hl 1 rfl) ?_
  refine lv_iload_n hx hb dX3_giveSign_2 rfl (lv_at hl 2 rfl) ?_
  refine lv_iload_n hx hb dX3_giveSign_3 rfl (lv_at hl 3 rfl) ?_
  obtain ⟨r_1, u_2, h_3, hF⟩ := anl_some hF
  refine ccV_iB (q0 := 7) (As := [.int a0, .int a1, .int a2]) (rest := []) hC hH (n_X3_signsOf l G Z Q _ T u u_2 r_1 a0 a1 a2 _ h_3) rfl rfl ⟨wkc_X3_signsOf, wka300, wka481, wka482, wka747⟩ kVX3_signsOf ⟨Nat.le_of_ble_eq_true rfl, Nat.le_of_ble_eq_true rfl⟩ ⟨by show _ ≤ K1; omega, by show _ ≤ K2; omega⟩ rfl hl.1 rfl (Nat.le_of_ble_eq_true rfl) dX3_giveSign_4 (fun D H locs hH => ?_)
  refine lv_istore (lv' := [(4, .int r_1), (0, .ref (Q 7)), (1, .int a0), (2, .int a1), (3, .int a2)]) hx hb dX3_giveSign_7 hl (by decide) rfl (fun ls hl => ?_)
  refine lv_iload_n hx hb dX3_giveSign_9 rfl (lv_at hl 2 rfl) ?_
  refine lv_iconst (v := 5) hx hb dX3_giveSign_10 (by decide) ?_
  refine lv_iload_n hx hb dX3_giveSign_11 rfl (lv_at hl 3 rfl) ?_
  refine lv_bipush (v := 8) hx hb dX3_giveSign_12 (by decide) ?_
  refine lv_imul hx hb dX3_giveSign_14 ?_
  refine lv_iadd hx hb dX3_giveSign_15 ?_
  refine lv_iload_n hx hb dX3_giveSign_16 rfl (lv_at hl 4 rfl) ?_
  refine lv_iadd hx hb dX3_giveSign_17 ?_
  obtain ⟨r_4, u_5, h_6, hF⟩ := anl_some hF
  refine ccS_iB (As := [.int a0, .int ((5 + (a1 * 8)) + a2)]) (rest := []) hC hH (n_X1_ofMat l G Z Q _ T u_2 u_5 r_4 a0 ((5 + (a1 * 8)) + a2) _ h_6) ⟨wkc_X1_ofMat, wka144, wka438, wka745⟩ kSX1_ofMat ⟨Nat.le_of_ble_eq_true rfl, Nat.le_of_ble_eq_true rfl⟩ ⟨by show _ ≤ K1; omega, by show _ ≤ K2; omega⟩ rfl hl.1 rfl (Nat.le_of_ble_eq_true rfl) dX3_giveSign_18 (fun D H locs hH => ?_)
  refine lv_istore (lv' := [(5, .int r_4), (4, .int r_1), (0, .ref (Q 7)), (1, .int a0), (2, .int a1), (3, .int a2)]) hx hb dX3_giveSign_21 hl (by decide) rfl (fun ls hl => ?_)
  refine lv_aload_n hx hb dX3_giveSign_23 rfl (lv_at hl 2 rfl) ?_
  refine cg_X3_9 hC hH dX3_giveSign_24 ?_
  refine lv_iload hx hb dX3_giveSign_27 (lv_at hl 0 rfl) ?_
  refine lv_iload hx hb dX3_giveSign_29 (lv_at hl 1 rfl) ?_
  refine lv_iconst (v := 1) hx hb dX3_giveSign_31 (by decide) ?_
  refine lv_iadd hx hb dX3_giveSign_32 ?_
  refine lv_bipush (v := 99) hx hb dX3_giveSign_33 (by decide) ?_
  refine va_mmin hx hb (hC.2.2.1.trans hl.1.symm) hC.2.2.2.1 (hC.2.2.2.2.1 _ wka301) (hC.2.2.2.2.1 _ wka758) (hC.2.2.2.2.1 _ wka760) (hC.2.2.2.2.1 _ wka759) (Nat.le_of_ble_eq_true rfl) (Nat.le_of_ble_eq_true rfl) (Nat.le_of_ble_eq_true rfl) (Nat.le_of_ble_eq_true rfl) dX3_giveSign_35 ?_
  obtain ⟨r_7, u_8, k_10, k_11, k_12, k_13, h_9, hF, e_14, e_15⟩ := acl_some hF
  refine ccV_vA (q0 := 1) (As := [.int r_4, .int (if 99 < (r_1 + 1) then 99 else (r_1 + 1))]) (rest := []) hC hH (n_X1_put l G Z Q _ T u_5 u_8 r_7 k_10 k_11 r_4 (if 99 < (r_1 + 1) then 99 else (r_1 + 1)) _ h_9) rfl rfl ⟨wkc_X1_put, wka293, wka439, wka440, wka745⟩ kVX1_put ⟨Nat.le_of_ble_eq_true rfl, Nat.le_of_ble_eq_true rfl⟩ ⟨by show _ ≤ K1; omega, by show _ ≤ K2; omega⟩ rfl hl.1 rfl (Nat.le_of_ble_eq_true rfl) dX3_giveSign_38 (fun D H locs hH => ?_)
  have hk1 := (hk1.trans (congrArg (_ + ·) e_14)).trans (Nat.add_assoc _ _ _).symm
  have hk2 := (hk2.trans (congrArg (_ + ·) e_15)).trans (Nat.add_assoc _ _ _).symm
  exact cr_vA hC hH hr (art_eq hF) (by omega) (by omega) dX3_giveSign_41 hlocks
def x_X3_letPass (a0 : Int32) (a1 : Int32) : AG Int32 := anl (x_X1_ofMat a0 2) (fun r_1 => anl (x_X3_on a0 2) (fun r_4 => acl (x_X1_put r_1 (r_4 - a1)) (fun r_7 => art 0)))
set_option maxHeartbeats 4000000 in
set_option maxRecDepth 100000 in
theorem n_X3_letPass (l : Launch) (G : gG) (Z : gC) (Q : Nat → Nat) (D : Nat × Nat) (T : va_W) (u u1 : MS) (r : Int32) (C1 C2 : Nat) (a0 : Int32) (a1 : Int32) (sz : Nat) (hF : x_X3_letPass a0 a1 u = some (r, u1, C1, C2)) : Met l yX3_letPass (Cond.code yX3_letPass cX3_letPass 3 none :: wK) { frames := 4, cells := C1, slots := C2, locals := 108 } (va_Pc [.ref (Q 7), .int a0, .int a1] (cPM G Z Q D T u sz)) (cQv G Q T u1 (va_A (cW G Q D T u) sz)) C1 C2 (va_A (cW G Q D T u) sz) := by
  refine Met.ofW (cc := cX3_letPass) (maxL := 3) (ret := none) (by decide) rfl ?_
  intro p e s m args below meth c s₁ B hml hv
  obtain ⟨rfl, rfl, hP, hB, hD0, hE⟩ := hv
  have hr := B.returns
  have hlocks := B.notSynchronized
  have hts := atoms_spec (ws := Cond.code yX3_letPass cX3_letPass 3 none :: wK) B.pre
  have hD := hD0.self (sz := s.heap.size)
  have hA : ∀ q : Nat, s.heap.size ≤ q → va_A (cW G Q D T u) s.heap.size q := fun q h => Or.inr h
  generalize va_A (cW G Q D T u) s.heap.size = A at hD hA hE ⊢
  have hC : cX p c cX3_letPass 3 s m _ RX3 G Z A := ⟨B.exec, B.bytes, hml, findClass_of_methodNamed B.named, fun w h => hts w (List.mem_cons_of_mem _ h), hB, hE, hA⟩
  have hx := hC.1
  have hb := hC.2.1
  have hH : cH G Q D T A u s s.heap [] := ⟨hP, hD, va_S.rf⟩
  generalize hK1 : C1 = K1
  generalize hK2 : C2 = K2
  have hk1 : K1 = 0 + C1 := by omega
  have hk2 : K2 = 0 + C2 := by omega
  have hl := lv_entry ([.ref (Q 7), .int a0, .int a1]) (n := 3) (Nat.le_of_ble_eq_true rfl)
  rw [lg_entry_eq]
  generalize (lg_sl ([.ref (Q 7), .int a0, .int a1]) ++ List.replicate (3 - (lg_sl ([.ref (Q 7), .int a0, .int a1])).length) Slot.unset).toArray = ls at hl ⊢
  have hl : lv_has ls 3 [(0, .ref (Q 7)), (1, .int a0), (2, .int a1)] := hl
  unfold x_X3_letPass at hF
  refine lv_aload_n hx hb dX3_letPass_0 rfl (lv_at hl 0 rfl) ?_
  refine cg_X3_9 hC hH dX3_letPass_1 ?_
  refine lv_iload_n hx hb dX3_letPass_4 rfl (lv_at hl 1 rfl) ?_
  refine lv_iconst (v := 2) hx hb dX3_letPass_5 (by decide) ?_
  obtain ⟨r_1, u_2, h_3, hF⟩ := anl_some hF
  refine ccS_iB (As := [.int a0, .int 2]) (rest := [.ref (Q 1)]) hC hH (n_X1_ofMat l G Z Q _ T u u_2 r_1 a0 2 _ h_3) ⟨wkc_X1_ofMat, wka144, wka438, wka745⟩ kSX1_ofMat ⟨Nat.le_of_ble_eq_true rfl, Nat.le_of_ble_eq_true rfl⟩ ⟨by show _ ≤ K1; omega, by show _ ≤ K2; omega⟩ rfl hl.1 rfl (Nat.le_of_ble_eq_true rfl) dX3_letPass_6 (fun D H locs hH => ?_)
  refine lv_aload_n hx hb dX3_letPass_9 rfl (lv_at hl 0 rfl) ?_
  refine lv_iload_n hx hb dX3_letPass_10 rfl (lv_at hl 1 rfl) ?_
  refine lv_iconst (v := 2) hx hb dX3_letPass_11 (by decide) ?_
  obtain ⟨r_4, u_5, h_6, hF⟩ := anl_some hF
  refine ccV_iB (q0 := 7) (As := [.int a0, .int 2]) (rest := [.int r_1, .ref (Q 1)]) hC hH (n_X3_on l G Z Q _ T u_2 u_5 r_4 a0 2 _ h_6) rfl rfl ⟨wkc_X3_on, wka143, wka471, wka472, wka747⟩ kVX3_on ⟨Nat.le_of_ble_eq_true rfl, Nat.le_of_ble_eq_true rfl⟩ ⟨by show _ ≤ K1; omega, by show _ ≤ K2; omega⟩ rfl hl.1 rfl (Nat.le_of_ble_eq_true rfl) dX3_letPass_12 (fun D H locs hH => ?_)
  refine lv_iload_n hx hb dX3_letPass_15 rfl (lv_at hl 2 rfl) ?_
  refine lv_isub hx hb dX3_letPass_16 ?_
  obtain ⟨r_7, u_8, k_10, k_11, k_12, k_13, h_9, hF, e_14, e_15⟩ := acl_some hF
  refine ccV_vA (q0 := 1) (As := [.int r_1, .int (r_4 - a1)]) (rest := []) hC hH (n_X1_put l G Z Q _ T u_5 u_8 r_7 k_10 k_11 r_1 (r_4 - a1) _ h_9) rfl rfl ⟨wkc_X1_put, wka293, wka439, wka440, wka745⟩ kVX1_put ⟨Nat.le_of_ble_eq_true rfl, Nat.le_of_ble_eq_true rfl⟩ ⟨by show _ ≤ K1; omega, by show _ ≤ K2; omega⟩ rfl hl.1 rfl (Nat.le_of_ble_eq_true rfl) dX3_letPass_17 (fun D H locs hH => ?_)
  have hk1 := (hk1.trans (congrArg (_ + ·) e_14)).trans (Nat.add_assoc _ _ _).symm
  have hk2 := (hk2.trans (congrArg (_ + ·) e_15)).trans (Nat.add_assoc _ _ _).symm
  exact cr_vA hC hH hr (art_eq hF) (by omega) (by omega) dX3_letPass_20 hlocks
def x_X3_leave (a0 : Int32) : AG Int32 := anl (x_X3_fighterOn a0 0) (fun r_1 => anl (x_X1_ofFighter r_1 6) (fun r_4 => anl (nGT 0 2088 0) (fun x_7 => acl (x_X1_put r_4 x_7) (fun r_11 => anl (x_X3_fighterOn a0 1) (fun r_20 => anl (x_X1_ofFighter r_20 6) (fun r_23 => anl (nGT 0 2088 0) (fun x_26 => acl (x_X1_put r_23 x_26) (fun r_30 => anl (x_X1_ofMat a0 1) (fun r_39 => acl (x_X1_put r_39 (-1)) (fun r_42 => art 0))))))))))
set_option maxHeartbeats 4000000 in
set_option maxRecDepth 100000 in
theorem n_X3_leave (l : Launch) (G : gG) (Z : gC) (Q : Nat → Nat) (D : Nat × Nat) (T : va_W) (u u1 : MS) (r : Int32) (C1 C2 : Nat) (a0 : Int32) (sz : Nat) (hF : x_X3_leave a0 u = some (r, u1, C1, C2)) : Met l yX3_leave (Cond.code yX3_leave cX3_leave 2 none :: wK) { frames := 4, cells := C1, slots := C2, locals := 108 } (va_Pc [.ref (Q 7), .int a0] (cPM G Z Q D T u sz)) (cQv G Q T u1 (va_A (cW G Q D T u) sz)) C1 C2 (va_A (cW G Q D T u) sz) := by
  refine Met.ofW (cc := cX3_leave) (maxL := 2) (ret := none) (by decide) rfl ?_
  intro p e s m args below meth c s₁ B hml hv
  obtain ⟨rfl, rfl, hP, hB, hD0, hE⟩ := hv
  have hr := B.returns
  have hlocks := B.notSynchronized
  have hts := atoms_spec (ws := Cond.code yX3_leave cX3_leave 2 none :: wK) B.pre
  have hD := hD0.self (sz := s.heap.size)
  have hA : ∀ q : Nat, s.heap.size ≤ q → va_A (cW G Q D T u) s.heap.size q := fun q h => Or.inr h
  generalize va_A (cW G Q D T u) s.heap.size = A at hD hA hE ⊢
  have hC : cX p c cX3_leave 2 s m _ RX3 G Z A := ⟨B.exec, B.bytes, hml, findClass_of_methodNamed B.named, fun w h => hts w (List.mem_cons_of_mem _ h), hB, hE, hA⟩
  have hx := hC.1
  have hb := hC.2.1
  have hH : cH G Q D T A u s s.heap [] := ⟨hP, hD, va_S.rf⟩
  generalize hK1 : C1 = K1
  generalize hK2 : C2 = K2
  have hk1 : K1 = 0 + C1 := by omega
  have hk2 : K2 = 0 + C2 := by omega
  have hl := lv_entry ([.ref (Q 7), .int a0]) (n := 2) (Nat.le_of_ble_eq_true rfl)
  rw [lg_entry_eq]
  generalize (lg_sl ([.ref (Q 7), .int a0]) ++ List.replicate (2 - (lg_sl ([.ref (Q 7), .int a0])).length) Slot.unset).toArray = ls at hl ⊢
  have hl : lv_has ls 2 [(0, .ref (Q 7)), (1, .int a0)] := hl
  unfold x_X3_leave at hF
  refine lv_aload_n hx hb dX3_leave_0 rfl (lv_at hl 0 rfl) ?_
  refine cg_X3_9 hC hH dX3_leave_1 ?_
  refine lv_aload_n hx hb dX3_leave_4 rfl (lv_at hl 0 rfl) ?_
  refine lv_iload_n hx hb dX3_leave_5 rfl (lv_at hl 1 rfl) ?_
  refine lv_iconst (v := 0) hx hb dX3_leave_6 (by decide) ?_
  obtain ⟨r_1, u_2, h_3, hF⟩ := anl_some hF
  refine ccV_iB (q0 := 7) (As := [.int a0, .int 0]) (rest := [.ref (Q 1)]) hC hH (n_X3_fighterOn l G Z Q _ T u u_2 r_1 a0 0 _ h_3) rfl rfl ⟨wkc_X3_fighterOn, wka289, wka485, wka486, wka747⟩ kVX3_fighterOn ⟨Nat.le_of_ble_eq_true rfl, Nat.le_of_ble_eq_true rfl⟩ ⟨by show _ ≤ K1; omega, by show _ ≤ K2; omega⟩ rfl hl.1 rfl (Nat.le_of_ble_eq_true rfl) dX3_leave_7 (fun D H locs hH => ?_)
  refine lv_bipush (v := 6) hx hb dX3_leave_10 (by decide) ?_
  obtain ⟨r_4, u_5, h_6, hF⟩ := anl_some hF
  refine ccS_iB (As := [.int r_1, .int 6]) (rest := [.ref (Q 1)]) hC hH (n_X1_ofFighter l G Z Q _ T u_2 u_5 r_4 r_1 6 _ h_6) ⟨wkc_X1_ofFighter, wka291, wka436, wka745⟩ kSX1_ofFighter ⟨Nat.le_of_ble_eq_true rfl, Nat.le_of_ble_eq_true rfl⟩ ⟨by show _ ≤ K1; omega, by show _ ≤ K2; omega⟩ rfl hl.1 rfl (Nat.le_of_ble_eq_true rfl) dX3_leave_12 (fun D H locs hH => ?_)
  refine lv_aload_n hx hb dX3_leave_15 rfl (lv_at hl 0 rfl) ?_
  refine cg_X3_9 hC hH dX3_leave_16 ?_
  refine lv_iconst (v := 0) hx hb dX3_leave_19 (by decide) ?_
  refine bat (i := 1) (j := 11) hC hH rfl rfl (by decide) wka145 ⟨Nat.le_of_ble_eq_true rfl, Nat.le_of_ble_eq_true rfl⟩ hl.1 (Nat.le_of_ble_eq_true rfl) ⟨by show _ ≤ K1; omega, by show _ ≤ K2; omega⟩ dX3_leave_20 ?_
  obtain ⟨x_7, u_8, h_9, hF⟩ := anl_some hF
  obtain ⟨e_10, rfl⟩ := nGT_eq h_9
  refine gx_ti e_10 ?_
  obtain ⟨r_11, u_12, k_14, k_15, k_16, k_17, h_13, hF, e_18, e_19⟩ := acl_some hF
  refine ccV_vA (q0 := 1) (As := [.int r_4, .int x_7]) (rest := []) hC hH (n_X1_put l G Z Q _ T u_5 u_12 r_11 k_14 k_15 r_4 x_7 _ h_13) rfl rfl ⟨wkc_X1_put, wka293, wka439, wka440, wka745⟩ kVX1_put ⟨Nat.le_of_ble_eq_true rfl, Nat.le_of_ble_eq_true rfl⟩ ⟨by show _ ≤ K1; omega, by show _ ≤ K2; omega⟩ rfl hl.1 rfl (Nat.le_of_ble_eq_true rfl) dX3_leave_23 (fun D H locs hH => ?_)
  have hk1 := (hk1.trans (congrArg (_ + ·) e_18)).trans (Nat.add_assoc _ _ _).symm
  have hk2 := (hk2.trans (congrArg (_ + ·) e_19)).trans (Nat.add_assoc _ _ _).symm
  refine lv_aload_n hx hb dX3_leave_26 rfl (lv_at hl 0 rfl) ?_
  refine cg_X3_9 hC hH dX3_leave_27 ?_
  refine lv_aload_n hx hb dX3_leave_30 rfl (lv_at hl 0 rfl) ?_
  refine lv_iload_n hx hb dX3_leave_31 rfl (lv_at hl 1 rfl) ?_
  refine lv_iconst (v := 1) hx hb dX3_leave_32 (by decide) ?_
  obtain ⟨r_20, u_21, h_22, hF⟩ := anl_some hF
  refine ccV_iB (q0 := 7) (As := [.int a0, .int 1]) (rest := [.ref (Q 1)]) hC hH (n_X3_fighterOn l G Z Q _ T u_12 u_21 r_20 a0 1 _ h_22) rfl rfl ⟨wkc_X3_fighterOn, wka289, wka485, wka486, wka747⟩ kVX3_fighterOn ⟨Nat.le_of_ble_eq_true rfl, Nat.le_of_ble_eq_true rfl⟩ ⟨by show _ ≤ K1; omega, by show _ ≤ K2; omega⟩ rfl hl.1 rfl (Nat.le_of_ble_eq_true rfl) dX3_leave_33 (fun D H locs hH => ?_)
  refine lv_bipush (v := 6) hx hb dX3_leave_36 (by decide) ?_
  obtain ⟨r_23, u_24, h_25, hF⟩ := anl_some hF
  refine ccS_iB (As := [.int r_20, .int 6]) (rest := [.ref (Q 1)]) hC hH (n_X1_ofFighter l G Z Q _ T u_21 u_24 r_23 r_20 6 _ h_25) ⟨wkc_X1_ofFighter, wka291, wka436, wka745⟩ kSX1_ofFighter ⟨Nat.le_of_ble_eq_true rfl, Nat.le_of_ble_eq_true rfl⟩ ⟨by show _ ≤ K1; omega, by show _ ≤ K2; omega⟩ rfl hl.1 rfl (Nat.le_of_ble_eq_true rfl) dX3_leave_38 (fun D H locs hH => ?_)
  refine lv_aload_n hx hb dX3_leave_41 rfl (lv_at hl 0 rfl) ?_
  refine cg_X3_9 hC hH dX3_leave_42 ?_
  refine lv_iconst (v := 0) hx hb dX3_leave_45 (by decide) ?_
  refine bat (i := 1) (j := 11) hC hH rfl rfl (by decide) wka145 ⟨Nat.le_of_ble_eq_true rfl, Nat.le_of_ble_eq_true rfl⟩ hl.1 (Nat.le_of_ble_eq_true rfl) ⟨by show _ ≤ K1; omega, by show _ ≤ K2; omega⟩ dX3_leave_46 ?_
  obtain ⟨x_26, u_27, h_28, hF⟩ := anl_some hF
  obtain ⟨e_29, rfl⟩ := nGT_eq h_28
  refine gx_ti e_29 ?_
  obtain ⟨r_30, u_31, k_33, k_34, k_35, k_36, h_32, hF, e_37, e_38⟩ := acl_some hF
  refine ccV_vA (q0 := 1) (As := [.int r_23, .int x_26]) (rest := []) hC hH (n_X1_put l G Z Q _ T u_24 u_31 r_30 k_33 k_34 r_23 x_26 _ h_32) rfl rfl ⟨wkc_X1_put, wka293, wka439, wka440, wka745⟩ kVX1_put ⟨Nat.le_of_ble_eq_true rfl, Nat.le_of_ble_eq_true rfl⟩ ⟨by show _ ≤ K1; omega, by show _ ≤ K2; omega⟩ rfl hl.1 rfl (Nat.le_of_ble_eq_true rfl) dX3_leave_49 (fun D H locs hH => ?_)
  have hk1 := (hk1.trans (congrArg (_ + ·) e_37)).trans (Nat.add_assoc _ _ _).symm
  have hk2 := (hk2.trans (congrArg (_ + ·) e_38)).trans (Nat.add_assoc _ _ _).symm
  refine lv_aload_n hx hb dX3_leave_52 rfl (lv_at hl 0 rfl) ?_
  refine cg_X3_9 hC hH dX3_leave_53 ?_
  refine lv_iload_n hx hb dX3_leave_56 rfl (lv_at hl 1 rfl) ?_
  refine lv_iconst (v := 1) hx hb dX3_leave_57 (by decide) ?_
  obtain ⟨r_39, u_40, h_41, hF⟩ := anl_some hF
  refine ccS_iB (As := [.int a0, .int 1]) (rest := [.ref (Q 1)]) hC hH (n_X1_ofMat l G Z Q _ T u_31 u_40 r_39 a0 1 _ h_41) ⟨wkc_X1_ofMat, wka144, wka438, wka745⟩ kSX1_ofMat ⟨Nat.le_of_ble_eq_true rfl, Nat.le_of_ble_eq_true rfl⟩ ⟨by show _ ≤ K1; omega, by show _ ≤ K2; omega⟩ rfl hl.1 rfl (Nat.le_of_ble_eq_true rfl) dX3_leave_58 (fun D H locs hH => ?_)
  refine lv_iconst (v := (-1)) hx hb dX3_leave_61 (by decide) ?_
  obtain ⟨r_42, u_43, k_45, k_46, k_47, k_48, h_44, hF, e_49, e_50⟩ := acl_some hF
  refine ccV_vA (q0 := 1) (As := [.int r_39, .int (-1)]) (rest := []) hC hH (n_X1_put l G Z Q _ T u_40 u_43 r_42 k_45 k_46 r_39 (-1) _ h_44) rfl rfl ⟨wkc_X1_put, wka293, wka439, wka440, wka745⟩ kVX1_put ⟨Nat.le_of_ble_eq_true rfl, Nat.le_of_ble_eq_true rfl⟩ ⟨by show _ ≤ K1; omega, by show _ ≤ K2; omega⟩ rfl hl.1 rfl (Nat.le_of_ble_eq_true rfl) dX3_leave_62 (fun D H locs hH => ?_)
  have hk1 := (hk1.trans (congrArg (_ + ·) e_49)).trans (Nat.add_assoc _ _ _).symm
  have hk2 := (hk2.trans (congrArg (_ + ·) e_50)).trans (Nat.add_assoc _ _ _).symm
  exact cr_vA hC hH hr (art_eq hF) (by omega) (by omega) dX3_leave_65 hlocks
def x_X3_finish (a0 : Int32) (a1 : Int32) (a2 : Int32) (a3 : Int32) : AG Int32 := anl (x_X3_on a0 0) (fun r_1 => anl (x_X3_on a0 1) (fun r_4 => anl (x_X3_fighterOn a0 a1) (fun r_7 => anl (x_X1_ofFight r_1 r_4 0) (fun r_10 => acl (x_X1_put r_10 3) (fun r_13 => anl (x_X1_ofFight r_1 r_4 3) (fun r_22 => acl (x_X1_put r_22 r_7) (fun r_25 => anl (x_X1_ofFight r_1 r_4 4) (fun r_34 => acl (x_X1_put r_34 a2) (fun r_37 => anl (x_X1_ofFight r_1 r_4 5) (fun r_46 => acl (x_X1_put r_46 a3) (fun r_49 => anl (x_X1_ofFight r_1 r_4 6) (fun r_58 => anl (nGT 0 2088 0) (fun x_61 => acl (x_X1_put r_58 x_61) (fun r_65 => acl (x_X3_leave a0) (fun r_74 => art r_7)))))))))))))))
set_option maxHeartbeats 4000000 in
set_option maxRecDepth 100000 in
theorem n_X3_finish (l : Launch) (G : gG) (Z : gC) (Q : Nat → Nat) (D : Nat × Nat) (T : va_W) (u u1 : MS) (r : Int32) (C1 C2 : Nat) (a0 : Int32) (a1 : Int32) (a2 : Int32) (a3 : Int32) (sz : Nat) (hF : x_X3_finish a0 a1 a2 a3 u = some (r, u1, C1, C2)) : Met l yX3_finish (Cond.code yX3_finish cX3_finish 8 (some .int) :: wK) { frames := 5, cells := C1, slots := C2, locals := 129 } (va_Pc [.ref (Q 7), .int a0, .int a1, .int a2, .int a3] (cPM G Z Q D T u sz)) (cQi G Q T u1 r (va_A (cW G Q D T u) sz)) C1 C2 (va_A (cW G Q D T u) sz) := by
  refine Met.ofW (cc := cX3_finish) (maxL := 8) (ret := (some .int)) (by decide) rfl ?_
  intro p e s m args below meth c s₁ B hml hv
  obtain ⟨rfl, rfl, hP, hB, hD0, hE⟩ := hv
  have hr := B.returns
  have hlocks := B.notSynchronized
  have hts := atoms_spec (ws := Cond.code yX3_finish cX3_finish 8 (some .int) :: wK) B.pre
  have hD := hD0.self (sz := s.heap.size)
  have hA : ∀ q : Nat, s.heap.size ≤ q → va_A (cW G Q D T u) s.heap.size q := fun q h => Or.inr h
  generalize va_A (cW G Q D T u) s.heap.size = A at hD hA hE ⊢
  have hC : cX p c cX3_finish 8 s m _ RX3 G Z A := ⟨B.exec, B.bytes, hml, findClass_of_methodNamed B.named, fun w h => hts w (List.mem_cons_of_mem _ h), hB, hE, hA⟩
  have hx := hC.1
  have hb := hC.2.1
  have hH : cH G Q D T A u s s.heap [] := ⟨hP, hD, va_S.rf⟩
  generalize hK1 : C1 = K1
  generalize hK2 : C2 = K2
  have hk1 : K1 = 0 + C1 := by omega
  have hk2 : K2 = 0 + C2 := by omega
  have hl := lv_entry ([.ref (Q 7), .int a0, .int a1, .int a2, .int a3]) (n := 8) (Nat.le_of_ble_eq_true rfl)
  rw [lg_entry_eq]
  generalize (lg_sl ([.ref (Q 7), .int a0, .int a1, .int a2, .int a3]) ++ List.replicate (8 - (lg_sl ([.ref (Q 7), .int a0, .int a1, .int a2, .int a3])).length) Slot.unset).toArray = ls at hl ⊢
  have hl : lv_has ls 8 [(0, .ref (Q 7)), (1, .int a0), (2, .int a1), (3, .int a2), (4, .int a3)] := hl
  unfold x_X3_finish at hF
  refine lv_aload_n hx hb dX3_finish_0 rfl (lv_at hl 0 rfl) ?_
  refine lv_iload_n hx hb dX3_finish_1 rfl (lv_at hl 1 rfl) ?_
  refine lv_iconst (v := 0) hx hb dX3_finish_2 (by decide) ?_
  obtain ⟨r_1, u_2, h_3, hF⟩ := anl_some hF
  refine ccV_iB (q0 := 7) (As := [.int a0, .int 0]) (rest := []) hC hH (n_X3_on l G Z Q _ T u u_2 r_1 a0 0 _ h_3) rfl rfl ⟨wkc_X3_on, wka143, wka471, wka472, wka747⟩ kVX3_on ⟨Nat.le_of_ble_eq_true rfl, Nat.le_of_ble_eq_true rfl⟩ ⟨by show _ ≤ K1; omega, by show _ ≤ K2; omega⟩ rfl hl.1 rfl (Nat.le_of_ble_eq_true rfl) dX3_finish_3 (fun D H locs hH => ?_)
  refine lv_istore (lv' := [(5, .int r_1), (0, .ref (Q 7)), (1, .int a0), (2, .int a1), (3, .int a2), (4, .int a3)]) hx hb dX3_finish_6 hl (by decide) rfl (fun ls hl => ?_)
  refine lv_aload_n hx hb dX3_finish_8 rfl (lv_at hl 1 rfl) ?_
  refine lv_iload_n hx hb dX3_finish_9 rfl (lv_at hl 2 rfl) ?_
  refine lv_iconst (v := 1) hx hb dX3_finish_10 (by decide) ?_
  obtain ⟨r_4, u_5, h_6, hF⟩ := anl_some hF
  refine ccV_iB (q0 := 7) (As := [.int a0, .int 1]) (rest := []) hC hH (n_X3_on l G Z Q _ T u_2 u_5 r_4 a0 1 _ h_6) rfl rfl ⟨wkc_X3_on, wka143, wka471, wka472, wka747⟩ kVX3_on ⟨Nat.le_of_ble_eq_true rfl, Nat.le_of_ble_eq_true rfl⟩ ⟨by show _ ≤ K1; omega, by show _ ≤ K2; omega⟩ rfl hl.1 rfl (Nat.le_of_ble_eq_true rfl) dX3_finish_11 (fun D H locs hH => ?_)
  refine lv_istore (lv' := [(6, .int r_4), (5, .int r_1), (0, .ref (Q 7)), (1, .int a0), (2, .int a1), (3, .int a2), (4, .int a3)]) hx hb dX3_finish_14 hl (by decide) rfl (fun ls hl => ?_)
  refine lv_aload_n hx hb dX3_finish_16 rfl (lv_at hl 2 rfl) ?_
  refine lv_iload_n hx hb dX3_finish_17 rfl (lv_at hl 3 rfl) ?_
  refine lv_iload_n hx hb dX3_finish_18 rfl (lv_at hl 4 rfl) ?_
  obtain ⟨r_7, u_8, h_9, hF⟩ := anl_some hF
  refine ccV_iB (q0 := 7) (As := [.int a0, .int a1]) (rest := []) hC hH (n_X3_fighterOn l G Z Q _ T u_5 u_8 r_7 a0 a1 _ h_9) rfl rfl ⟨wkc_X3_fighterOn, wka289, wka485, wka486, wka747⟩ kVX3_fighterOn ⟨Nat.le_of_ble_eq_true rfl, Nat.le_of_ble_eq_true rfl⟩ ⟨by show _ ≤ K1; omega, by show _ ≤ K2; omega⟩ rfl hl.1 rfl (Nat.le_of_ble_eq_true rfl) dX3_finish_19 (fun D H locs hH => ?_)
  refine lv_istore (lv' := [(7, .int r_7), (6, .int r_4), (5, .int r_1), (0, .ref (Q 7)), (1, .int a0), (2, .int a1), (3, .int a2), (4, .int a3)]) hx hb dX3_finish_22 hl (by decide) rfl (fun ls hl => ?_)
  refine lv_aload_n hx hb dX3_finish_24 rfl (lv_at hl 3 rfl) ?_
  refine cg_X3_9 hC hH dX3_finish_25 ?_
  refine lv_iload hx hb dX3_finish_28 (lv_at hl 2 rfl) ?_
  refine lv_iload hx hb dX3_finish_30 (lv_at hl 1 rfl) ?_
  refine lv_iconst (v := 0) hx hb dX3_finish_32 (by decide) ?_
  obtain ⟨r_10, u_11, h_12, hF⟩ := anl_some hF
  refine ccS_iB (As := [.int r_1, .int r_4, .int 0]) (rest := [.ref (Q 1)]) hC hH (n_X1_ofFight l G Z Q _ T u_8 u_11 r_10 r_1 r_4 0 _ h_12) ⟨wkc_X1_ofFight, wka290, wka437, wka745⟩ kSX1_ofFight ⟨Nat.le_of_ble_eq_true rfl, Nat.le_of_ble_eq_true rfl⟩ ⟨by show _ ≤ K1; omega, by show _ ≤ K2; omega⟩ rfl hl.1 rfl (Nat.le_of_ble_eq_true rfl) dX3_finish_33 (fun D H locs hH => ?_)
  refine lv_iconst (v := 3) hx hb dX3_finish_36 (by decide) ?_
  obtain ⟨r_13, u_14, k_16, k_17, k_18, k_19, h_15, hF, e_20, e_21⟩ := acl_some hF
  refine ccV_vA (q0 := 1) (As := [.int r_10, .int 3]) (rest := []) hC hH (n_X1_put l G Z Q _ T u_11 u_14 r_13 k_16 k_17 r_10 3 _ h_15) rfl rfl ⟨wkc_X1_put, wka293, wka439, wka440, wka745⟩ kVX1_put ⟨Nat.le_of_ble_eq_true rfl, Nat.le_of_ble_eq_true rfl⟩ ⟨by show _ ≤ K1; omega, by show _ ≤ K2; omega⟩ rfl hl.1 rfl (Nat.le_of_ble_eq_true rfl) dX3_finish_37 (fun D H locs hH => ?_)
  have hk1 := (hk1.trans (congrArg (_ + ·) e_20)).trans (Nat.add_assoc _ _ _).symm
  have hk2 := (hk2.trans (congrArg (_ + ·) e_21)).trans (Nat.add_assoc _ _ _).symm
  refine lv_aload_n hx hb dX3_finish_40 rfl (lv_at hl 3 rfl) ?_
  refine cg_X3_9 hC hH dX3_finish_41 ?_
  refine lv_iload hx hb dX3_finish_44 (lv_at hl 2 rfl) ?_
  refine lv_iload hx hb dX3_finish_46 (lv_at hl 1 rfl) ?_
  refine lv_iconst (v := 3) hx hb dX3_finish_48 (by decide) ?_
  obtain ⟨r_22, u_23, h_24, hF⟩ := anl_some hF
  refine ccS_iB (As := [.int r_1, .int r_4, .int 3]) (rest := [.ref (Q 1)]) hC hH (n_X1_ofFight l G Z Q _ T u_14 u_23 r_22 r_1 r_4 3 _ h_24) ⟨wkc_X1_ofFight, wka290, wka437, wka745⟩ kSX1_ofFight ⟨Nat.le_of_ble_eq_true rfl, Nat.le_of_ble_eq_true rfl⟩ ⟨by show _ ≤ K1; omega, by show _ ≤ K2; omega⟩ rfl hl.1 rfl (Nat.le_of_ble_eq_true rfl) dX3_finish_49 (fun D H locs hH => ?_)
  refine lv_iload hx hb dX3_finish_52 (lv_at hl 0 rfl) ?_
  obtain ⟨r_25, u_26, k_28, k_29, k_30, k_31, h_27, hF, e_32, e_33⟩ := acl_some hF
  refine ccV_vA (q0 := 1) (As := [.int r_22, .int r_7]) (rest := []) hC hH (n_X1_put l G Z Q _ T u_23 u_26 r_25 k_28 k_29 r_22 r_7 _ h_27) rfl rfl ⟨wkc_X1_put, wka293, wka439, wka440, wka745⟩ kVX1_put ⟨Nat.le_of_ble_eq_true rfl, Nat.le_of_ble_eq_true rfl⟩ ⟨by show _ ≤ K1; omega, by show _ ≤ K2; omega⟩ rfl hl.1 rfl (Nat.le_of_ble_eq_true rfl) dX3_finish_54 (fun D H locs hH => ?_)
  have hk1 := (hk1.trans (congrArg (_ + ·) e_32)).trans (Nat.add_assoc _ _ _).symm
  have hk2 := (hk2.trans (congrArg (_ + ·) e_33)).trans (Nat.add_assoc _ _ _).symm
  refine lv_aload_n hx hb dX3_finish_57 rfl (lv_at hl 3 rfl) ?_
  refine cg_X3_9 hC hH dX3_finish_58 ?_
  refine lv_iload hx hb dX3_finish_61 (lv_at hl 2 rfl) ?_
  refine lv_iload hx hb dX3_finish_63 (lv_at hl 1 rfl) ?_
  refine lv_iconst (v := 4) hx hb dX3_finish_65 (by decide) ?_
  obtain ⟨r_34, u_35, h_36, hF⟩ := anl_some hF
  refine ccS_iB (As := [.int r_1, .int r_4, .int 4]) (rest := [.ref (Q 1)]) hC hH (n_X1_ofFight l G Z Q _ T u_26 u_35 r_34 r_1 r_4 4 _ h_36) ⟨wkc_X1_ofFight, wka290, wka437, wka745⟩ kSX1_ofFight ⟨Nat.le_of_ble_eq_true rfl, Nat.le_of_ble_eq_true rfl⟩ ⟨by show _ ≤ K1; omega, by show _ ≤ K2; omega⟩ rfl hl.1 rfl (Nat.le_of_ble_eq_true rfl) dX3_finish_66 (fun D H locs hH => ?_)
  refine lv_iload_n hx hb dX3_finish_69 rfl (lv_at hl 6 rfl) ?_
  obtain ⟨r_37, u_38, k_40, k_41, k_42, k_43, h_39, hF, e_44, e_45⟩ := acl_some hF
  refine ccV_vA (q0 := 1) (As := [.int r_34, .int a2]) (rest := []) hC hH (n_X1_put l G Z Q _ T u_35 u_38 r_37 k_40 k_41 r_34 a2 _ h_39) rfl rfl ⟨wkc_X1_put, wka293, wka439, wka440, wka745⟩ kVX1_put ⟨Nat.le_of_ble_eq_true rfl, Nat.le_of_ble_eq_true rfl⟩ ⟨by show _ ≤ K1; omega, by show _ ≤ K2; omega⟩ rfl hl.1 rfl (Nat.le_of_ble_eq_true rfl) dX3_finish_70 (fun D H locs hH => ?_)
  have hk1 := (hk1.trans (congrArg (_ + ·) e_44)).trans (Nat.add_assoc _ _ _).symm
  have hk2 := (hk2.trans (congrArg (_ + ·) e_45)).trans (Nat.add_assoc _ _ _).symm
  refine lv_aload_n hx hb dX3_finish_73 rfl (lv_at hl 3 rfl) ?_
  refine cg_X3_9 hC hH dX3_finish_74 ?_
  refine lv_iload hx hb dX3_finish_77 (lv_at hl 2 rfl) ?_
  refine lv_iload hx hb dX3_finish_79 (lv_at hl 1 rfl) ?_
  refine lv_iconst (v := 5) hx hb dX3_finish_81 (by decide) ?_
  obtain ⟨r_46, u_47, h_48, hF⟩ := anl_some hF
  refine ccS_iB (As := [.int r_1, .int r_4, .int 5]) (rest := [.ref (Q 1)]) hC hH (n_X1_ofFight l G Z Q _ T u_38 u_47 r_46 r_1 r_4 5 _ h_48) ⟨wkc_X1_ofFight, wka290, wka437, wka745⟩ kSX1_ofFight ⟨Nat.le_of_ble_eq_true rfl, Nat.le_of_ble_eq_true rfl⟩ ⟨by show _ ≤ K1; omega, by show _ ≤ K2; omega⟩ rfl hl.1 rfl (Nat.le_of_ble_eq_true rfl) dX3_finish_82 (fun D H locs hH => ?_)
  refine lv_iload hx hb dX3_finish_85 (lv_at hl 7 rfl) ?_
  obtain ⟨r_49, u_50, k_52, k_53, k_54, k_55, h_51, hF, e_56, e_57⟩ := acl_some hF
  refine ccV_vA (q0 := 1) (As := [.int r_46, .int a3]) (rest := []) hC hH (n_X1_put l G Z Q _ T u_47 u_50 r_49 k_52 k_53 r_46 a3 _ h_51) rfl rfl ⟨wkc_X1_put, wka293, wka439, wka440, wka745⟩ kVX1_put ⟨Nat.le_of_ble_eq_true rfl, Nat.le_of_ble_eq_true rfl⟩ ⟨by show _ ≤ K1; omega, by show _ ≤ K2; omega⟩ rfl hl.1 rfl (Nat.le_of_ble_eq_true rfl) dX3_finish_87 (fun D H locs hH => ?_)
  have hk1 := (hk1.trans (congrArg (_ + ·) e_56)).trans (Nat.add_assoc _ _ _).symm
  have hk2 := (hk2.trans (congrArg (_ + ·) e_57)).trans (Nat.add_assoc _ _ _).symm
  refine lv_aload_n hx hb dX3_finish_90 rfl (lv_at hl 3 rfl) ?_
  refine cg_X3_9 hC hH dX3_finish_91 ?_
  refine lv_iload hx hb dX3_finish_94 (lv_at hl 2 rfl) ?_
  refine lv_iload hx hb dX3_finish_96 (lv_at hl 1 rfl) ?_
  refine lv_bipush (v := 6) hx hb dX3_finish_98 (by decide) ?_
  obtain ⟨r_58, u_59, h_60, hF⟩ := anl_some hF
  refine ccS_iB (As := [.int r_1, .int r_4, .int 6]) (rest := [.ref (Q 1)]) hC hH (n_X1_ofFight l G Z Q _ T u_50 u_59 r_58 r_1 r_4 6 _ h_60) ⟨wkc_X1_ofFight, wka290, wka437, wka745⟩ kSX1_ofFight ⟨Nat.le_of_ble_eq_true rfl, Nat.le_of_ble_eq_true rfl⟩ ⟨by show _ ≤ K1; omega, by show _ ≤ K2; omega⟩ rfl hl.1 rfl (Nat.le_of_ble_eq_true rfl) dX3_finish_100 (fun D H locs hH => ?_)
  refine lv_aload_n hx hb dX3_finish_103 rfl (lv_at hl 3 rfl) ?_
  refine cg_X3_9 hC hH dX3_finish_104 ?_
  refine lv_iconst (v := 0) hx hb dX3_finish_107 (by decide) ?_
  refine bat (i := 1) (j := 11) hC hH rfl rfl (by decide) wka145 ⟨Nat.le_of_ble_eq_true rfl, Nat.le_of_ble_eq_true rfl⟩ hl.1 (Nat.le_of_ble_eq_true rfl) ⟨by show _ ≤ K1; omega, by show _ ≤ K2; omega⟩ dX3_finish_108 ?_
  obtain ⟨x_61, u_62, h_63, hF⟩ := anl_some hF
  obtain ⟨e_64, rfl⟩ := nGT_eq h_63
  refine gx_ti e_64 ?_
  obtain ⟨r_65, u_66, k_68, k_69, k_70, k_71, h_67, hF, e_72, e_73⟩ := acl_some hF
  refine ccV_vA (q0 := 1) (As := [.int r_58, .int x_61]) (rest := []) hC hH (n_X1_put l G Z Q _ T u_59 u_66 r_65 k_68 k_69 r_58 x_61 _ h_67) rfl rfl ⟨wkc_X1_put, wka293, wka439, wka440, wka745⟩ kVX1_put ⟨Nat.le_of_ble_eq_true rfl, Nat.le_of_ble_eq_true rfl⟩ ⟨by show _ ≤ K1; omega, by show _ ≤ K2; omega⟩ rfl hl.1 rfl (Nat.le_of_ble_eq_true rfl) dX3_finish_111 (fun D H locs hH => ?_)
  have hk1 := (hk1.trans (congrArg (_ + ·) e_72)).trans (Nat.add_assoc _ _ _).symm
  have hk2 := (hk2.trans (congrArg (_ + ·) e_73)).trans (Nat.add_assoc _ _ _).symm
  refine lv_aload_n hx hb dX3_finish_114 rfl (lv_at hl 3 rfl) ?_
  refine lv_iload_n hx hb dX3_finish_115 rfl (lv_at hl 4 rfl) ?_
  obtain ⟨r_74, u_75, k_77, k_78, k_79, k_80, h_76, hF, e_81, e_82⟩ := acl_some hF
  refine ccV_vA (q0 := 7) (As := [.int a0]) (rest := []) hC hH (n_X3_leave l G Z Q _ T u_66 u_75 r_74 k_77 k_78 a0 _ h_76) rfl rfl ⟨wkc_X3_leave, wka316, wka510, wka511, wka747⟩ kVX3_leave ⟨Nat.le_of_ble_eq_true rfl, Nat.le_of_ble_eq_true rfl⟩ ⟨by show _ ≤ K1; omega, by show _ ≤ K2; omega⟩ rfl hl.1 rfl (Nat.le_of_ble_eq_true rfl) dX3_finish_116 (fun D H locs hH => ?_)
  have hk1 := (hk1.trans (congrArg (_ + ·) e_81)).trans (Nat.add_assoc _ _ _).symm
  have hk2 := (hk2.trans (congrArg (_ + ·) e_82)).trans (Nat.add_assoc _ _ _).symm
  refine lv_iload hx hb dX3_finish_119 (lv_at hl 0 rfl) ?_
  exact cr_iA hC hH hr (art_eq hF) (by omega) (by omega) dX3_finish_121 hlocks
def xl_X3_ask_13 (L : MS) : Nat → Int32 → Int32 → Int32 → (Int32 → Int32 → Int32 → AG Int32) → AG Int32
  | 0, _, _, _, _ => fun _ => none
  | n13 + 1, v2, v3, v4, K13_56 => (if 2 ≤ v4 then K13_56 v2 v3 v4 else anl (x_X3_holds L v3 v2 v4) (fun r_3 => (if r_3 = 0 then ali (v4 + 1) (fun x_7 => xl_X3_ask_13 L n13 v2 v3 x_7 K13_56) else acl (x_X3_finish v2 v4 v3 (rg (L.2 2) 20 v3)) (fun r_9 => art v3))))
def xl_X3_ask_2 (L : MS) : Nat → Int32 → Int32 → (Int32 → Int32 → AG Int32) → AG Int32
  | 0, _, _, _ => fun _ => none
  | n2 + 1, v2, v3, K2_62 => (if (L.1 3) ≤ v3 then K2_62 v2 v3 else xl_X3_ask_13 L fuel v2 v3 0 (fun v2 v3 v4 => ali (v3 + 1) (fun x_18 => xl_X3_ask_2 L n2 v2 x_18 K2_62)))
def x_X3_ask (L : MS) (a1 : Int32) : AG Int32 := xl_X3_ask_2 L fuel a1 0 (fun v2 v3 => art (-1))
set_option maxHeartbeats 4000000 in
set_option maxRecDepth 100000 in
theorem n_X3_ask (l : Launch) (G : gG) (Z : gC) (Q : Nat → Nat) (D : Nat × Nat) (T : va_W) (la : Nat) (lq : Nat → Nat) (L : MS) (hL : lawAt G T la lq L) (u u1 : MS) (r : Int32) (C1 C2 : Nat) (a1 : Int32) (sz : Nat) (hF : x_X3_ask L a1 u = some (r, u1, C1, C2)) : Met l yX3_ask (Cond.code yX3_ask cX3_ask 5 (some .int) :: wK) { frames := 6, cells := C1, slots := C2, locals := 156 } (va_Pc [.ref (Q 7), .ref la, .int a1] (cPM G Z Q D T u sz)) (cQi G Q T u1 r (va_A (cW G Q D T u) sz)) C1 C2 (va_A (cW G Q D T u) sz) := by
  refine Met.ofW (cc := cX3_ask) (maxL := 5) (ret := (some .int)) (by decide) rfl ?_
  intro p e s m args below meth c s₁ B hml hv
  obtain ⟨rfl, rfl, hP, hB, hD0, hE⟩ := hv
  have hr := B.returns
  have hlocks := B.notSynchronized
  have hts := atoms_spec (ws := Cond.code yX3_ask cX3_ask 5 (some .int) :: wK) B.pre
  have hD := hD0.self (sz := s.heap.size)
  have hA : ∀ q : Nat, s.heap.size ≤ q → va_A (cW G Q D T u) s.heap.size q := fun q h => Or.inr h
  generalize va_A (cW G Q D T u) s.heap.size = A at hD hA hE ⊢
  have hC : cX p c cX3_ask 5 s m _ RX3 G Z A := ⟨B.exec, B.bytes, hml, findClass_of_methodNamed B.named, fun w h => hts w (List.mem_cons_of_mem _ h), hB, hE, hA⟩
  have hx := hC.1
  have hb := hC.2.1
  have hH : cH G Q D T A u s s.heap [] := ⟨hP, hD, va_S.rf⟩
  generalize hK1 : C1 = K1
  generalize hK2 : C2 = K2
  have hk1 : K1 = 0 + C1 := by omega
  have hk2 : K2 = 0 + C2 := by omega
  have hl := lv_entry ([.ref (Q 7), .ref la, .int a1]) (n := 5) (Nat.le_of_ble_eq_true rfl)
  rw [lg_entry_eq]
  generalize (lg_sl ([.ref (Q 7), .ref la, .int a1]) ++ List.replicate (5 - (lg_sl ([.ref (Q 7), .ref la, .int a1])).length) Slot.unset).toArray = ls at hl ⊢
  have hl : lv_has ls 5 [(0, .ref (Q 7)), (1, .ref la), (2, .int a1)] := hl
  unfold x_X3_ask at hF
  refine lv_iconst (v := 0) hx hb dX3_ask_0 (by decide) ?_
  refine lv_istore_n (lv' := [(3, .int 0), (0, .ref (Q 7)), (1, .ref la), (2, .int a1)]) hx hb dX3_ask_1 rfl hl (by decide) rfl (fun ls hl => ?_)
  have hL2 : ∀ (K2_62 : Int32 → Int32 → AG Int32), (∀ (v2 v3 : Int32) (u : MS) (D : Nat × Nat) (H : Heap) (locs : List Loc) (ls : Array Slot) (cells slots C1 C2 : Nat), lv_has ls 5 [(0, .ref (Q 7)), (1, .ref la), (2, .int v2), (3, .int v3)] → cH G Q D T A u s H locs → K2_62 v2 v3 u = some (r, u1, C1, C2) → K1 = cells + C1 → K2 = slots + C2 → W p l e (headSpec (Cond.code yX3_ask cX3_ask 5 (some .int) :: wK) { frames := 6, cells := K1, slots := K2, locals := 156 }).room s m [.ref (Q 7), .ref la, .int a1].toArray below meth c H locs cells slots (MQ below (cQi G Q T u1 r A) [.ref (Q 7), .ref la, .int a1].toArray s K1 K2 A) (F0 m 62 ls [])) → ∀ (n2 : Nat) (v2 v3 : Int32) (u : MS) (D : Nat × Nat) (H : Heap) (locs : List Loc) (ls : Array Slot) (cells slots C1 C2 : Nat), lv_has ls 5 [(0, .ref (Q 7)), (1, .ref la), (2, .int v2), (3, .int v3)] → cH G Q D T A u s H locs → xl_X3_ask_2 L n2 v2 v3 K2_62 u = some (r, u1, C1, C2) → K1 = cells + C1 → K2 = slots + C2 → W p l e (headSpec (Cond.code yX3_ask cX3_ask 5 (some .int) :: wK) { frames := 6, cells := K1, slots := K2, locals := 156 }).room s m [.ref (Q 7), .ref la, .int a1].toArray below meth c H locs cells slots (MQ below (cQi G Q T u1 r A) [.ref (Q 7), .ref la, .int a1].toArray s K1 K2 A) (F0 m 2 ls []) := by
    intro K2_62 hK2_62 n2
    induction n2 with
    | zero => intro v2 v3 u D H locs ls cells slots C1 C2 hl hH hF; cases hF
    | succ n2 ih2 =>
      intro v2 v3 u D H locs ls cells slots C1 C2 hl hH hF hk1 hk2
      unfold xl_X3_ask_2 at hF
      refine lv_iload_n hx hb dX3_ask_2 rfl (lv_at hl 3 rfl) ?_
      refine lv_aload_n hx hb dX3_ask_3 rfl (lv_at hl 1 rfl) ?_
      refine lg_X3_80 hC hH hL dX3_ask_4 ?_
      refine lv_icmp_ge (tgt := 62) hx hb dX3_ask_7 (by decide) (fun c_1 => ?_) (fun c_1 => ?_)
      · rw [if_pos c_1] at hF
        exact hK2_62 v2 v3 u _ _ _ _ _ _ _ _ (lv_sub hl [0, 1, 2, 3] rfl) hH hF hk1 hk2
      · rw [if_neg c_1] at hF
        refine lv_iconst (v := 0) hx hb dX3_ask_10 (by decide) ?_
        refine lv_istore (lv' := [(4, .int 0), (0, .ref (Q 7)), (1, .ref la), (2, .int v2), (3, .int v3)]) hx hb dX3_ask_11 hl (by decide) rfl (fun ls hl => ?_)
        have hL13 : ∀ (K13_56 : Int32 → Int32 → Int32 → AG Int32), (∀ (v2 v3 v4 : Int32) (u : MS) (D : Nat × Nat) (H : Heap) (locs : List Loc) (ls : Array Slot) (cells slots C1 C2 : Nat), lv_has ls 5 [(0, .ref (Q 7)), (1, .ref la), (2, .int v2), (3, .int v3), (4, .int v4)] → cH G Q D T A u s H locs → K13_56 v2 v3 v4 u = some (r, u1, C1, C2) → K1 = cells + C1 → K2 = slots + C2 → W p l e (headSpec (Cond.code yX3_ask cX3_ask 5 (some .int) :: wK) { frames := 6, cells := K1, slots := K2, locals := 156 }).room s m [.ref (Q 7), .ref la, .int a1].toArray below meth c H locs cells slots (MQ below (cQi G Q T u1 r A) [.ref (Q 7), .ref la, .int a1].toArray s K1 K2 A) (F0 m 56 ls [])) → ∀ (n13 : Nat) (v2 v3 v4 : Int32) (u : MS) (D : Nat × Nat) (H : Heap) (locs : List Loc) (ls : Array Slot) (cells slots C1 C2 : Nat), lv_has ls 5 [(0, .ref (Q 7)), (1, .ref la), (2, .int v2), (3, .int v3), (4, .int v4)] → cH G Q D T A u s H locs → xl_X3_ask_13 L n13 v2 v3 v4 K13_56 u = some (r, u1, C1, C2) → K1 = cells + C1 → K2 = slots + C2 → W p l e (headSpec (Cond.code yX3_ask cX3_ask 5 (some .int) :: wK) { frames := 6, cells := K1, slots := K2, locals := 156 }).room s m [.ref (Q 7), .ref la, .int a1].toArray below meth c H locs cells slots (MQ below (cQi G Q T u1 r A) [.ref (Q 7), .ref la, .int a1].toArray s K1 K2 A) (F0 m 13 ls []) := by
          intro K13_56 hK13_56 n13
          induction n13 with
          | zero => intro v2 v3 v4 u D H locs ls cells slots C1 C2 hl hH hF; cases hF
          | succ n13 ih13 =>
            intro v2 v3 v4 u D H locs ls cells slots C1 C2 hl hH hF hk1 hk2
            unfold xl_X3_ask_13 at hF
            refine lv_iload hx hb dX3_ask_13 (lv_at hl 4 rfl) ?_
            refine lv_iconst (v := 2) hx hb dX3_ask_15 (by decide) ?_
            refine lv_icmp_ge (tgt := 56) hx hb dX3_ask_16 (by decide) (fun c_2 => ?_) (fun c_2 => ?_)
            · rw [if_pos c_2] at hF
              exact hK13_56 v2 v3 v4 u _ _ _ _ _ _ _ _ (lv_sub hl [0, 1, 2, 3, 4] rfl) hH hF hk1 hk2
            · rw [if_neg c_2] at hF
              refine lv_aload_n hx hb dX3_ask_19 rfl (lv_at hl 0 rfl) ?_
              refine lv_aload_n hx hb dX3_ask_20 rfl (lv_at hl 1 rfl) ?_
              refine lv_iload_n hx hb dX3_ask_21 rfl (lv_at hl 3 rfl) ?_
              refine lv_iload_n hx hb dX3_ask_22 rfl (lv_at hl 2 rfl) ?_
              refine lv_iload hx hb dX3_ask_23 (lv_at hl 4 rfl) ?_
              obtain ⟨r_3, u_4, h_5, hF⟩ := anl_some hF
              refine ccV_iB (q0 := 7) (As := [.ref la, .int v3, .int v2, .int v4]) (rest := []) hC hH (n_X3_holds l G Z Q _ T la lq L hL u u_4 r_3 v3 v2 v4 _ h_5) rfl rfl ⟨wkc_X3_holds, wka303, wka499, wka500, wka747⟩ kVX3_holds ⟨Nat.le_of_ble_eq_true rfl, Nat.le_of_ble_eq_true rfl⟩ ⟨by show _ ≤ K1; omega, by show _ ≤ K2; omega⟩ rfl hl.1 rfl (Nat.le_of_ble_eq_true rfl) dX3_ask_25 (fun D H locs hH => ?_)
              refine lv_if_eq (tgt := 50) hx hb dX3_ask_28 (by decide) (fun c_6 => ?_) (fun c_6 => ?_)
              · rw [if_pos c_6] at hF
                obtain ⟨x_7, e_8, hF⟩ := ali_some hF
                refine lv_iinc (v := x_7) (lv' := [(4, .int x_7), (0, .ref (Q 7)), (1, .ref la), (2, .int v2), (3, .int v3)]) hx hb dX3_ask_50 hl (k := 4) rfl e_8 (by decide) rfl (fun ls hl => ?_)
                refine lv_goto (tgt := 13) hx hb dX3_ask_53 (by decide) ?_
                exact ih13 v2 v3 x_7 u_4 _ _ _ _ _ _ _ _ (lv_sub hl [1, 2, 3, 4, 0] rfl) hH hF hk1 hk2
              · rw [if_neg c_6] at hF
                refine lv_aload_n hx hb dX3_ask_31 rfl (lv_at hl 0 rfl) ?_
                refine lv_iload_n hx hb dX3_ask_32 rfl (lv_at hl 2 rfl) ?_
                refine lv_iload hx hb dX3_ask_33 (lv_at hl 4 rfl) ?_
                refine lv_iload_n hx hb dX3_ask_35 rfl (lv_at hl 3 rfl) ?_
                refine lv_aload_n hx hb dX3_ask_36 rfl (lv_at hl 1 rfl) ?_
                refine lg_X3_87 hC hH hL dX3_ask_37 ?_
                refine lv_iload_n hx hb dX3_ask_40 rfl (lv_at hl 3 rfl) ?_
                refine lr_2 hC hH hL wka306 ⟨Nat.le_of_ble_eq_true rfl, Nat.le_of_ble_eq_true rfl⟩ hl.1 (Nat.le_of_ble_eq_true rfl) ⟨by show _ ≤ K1; omega, by show _ ≤ K2; omega⟩ dX3_ask_41 ?_
                obtain ⟨r_9, u_10, k_12, k_13, k_14, k_15, h_11, hF, e_16, e_17⟩ := acl_some hF
                refine ccV_iA (q0 := 7) (As := [.int v2, .int v4, .int v3, .int (rg (L.2 2) 20 v3)]) (rest := []) hC hH (n_X3_finish l G Z Q _ T u_4 u_10 r_9 k_12 k_13 v2 v4 v3 (rg (L.2 2) 20 v3) _ h_11) rfl rfl ⟨wkc_X3_finish, wka315, wka508, wka509, wka747⟩ kVX3_finish ⟨Nat.le_of_ble_eq_true rfl, Nat.le_of_ble_eq_true rfl⟩ ⟨by show _ ≤ K1; omega, by show _ ≤ K2; omega⟩ rfl hl.1 rfl (Nat.le_of_ble_eq_true rfl) dX3_ask_44 (fun D H locs hH => ?_)
                have hk1 := (hk1.trans (congrArg (_ + ·) e_16)).trans (Nat.add_assoc _ _ _).symm
                have hk2 := (hk2.trans (congrArg (_ + ·) e_17)).trans (Nat.add_assoc _ _ _).symm
                refine lv_pop hx hb dX3_ask_47 rfl ?_
                refine lv_iload_n hx hb dX3_ask_48 rfl (lv_at hl 3 rfl) ?_
                exact cr_iA hC hH hr (art_eq hF) (by omega) (by omega) dX3_ask_49 hlocks
        refine hL13 _ (fun v2 v3 v4 u D H locs ls cells slots C1 C2 hl hH hF hk1 hk2 => ?_) fuel v2 v3 0 u _ _ _ _ _ _ _ _ (lv_sub hl [1, 2, 3, 4, 0] rfl) hH hF hk1 hk2
        obtain ⟨x_18, e_19, hF⟩ := ali_some hF
        refine lv_iinc (v := x_18) (lv' := [(3, .int x_18), (0, .ref (Q 7)), (1, .ref la), (2, .int v2), (4, .int v4)]) hx hb dX3_ask_56 hl (k := 3) rfl e_19 (by decide) rfl (fun ls hl => ?_)
        refine lv_goto (tgt := 2) hx hb dX3_ask_59 (by decide) ?_
        exact ih2 v2 x_18 u _ _ _ _ _ _ _ _ (lv_sub hl [1, 2, 3, 0] rfl) hH hF hk1 hk2
  refine hL2 _ (fun v2 v3 u D H locs ls cells slots C1 C2 hl hH hF hk1 hk2 => ?_) fuel a1 0 u _ _ _ _ _ _ _ _ (lv_sub hl [1, 2, 3, 0] rfl) hH hF hk1 hk2
  refine lv_iconst (v := (-1)) hx hb dX3_ask_62 (by decide) ?_
  exact cr_iA hC hH hr (art_eq hF) (by omega) (by omega) dX3_ask_63 hlocks
def x_X3_drop (a0 : Int32) (a1 : Int32) : AG Int32 := anl (x_X1_ofFight a0 a1 0) (fun r_1 => anl (nGT 0 2088 r_1) (fun x_4 => (if x_4 = 2 then anl (x_X1_ofFight a0 a1 7) (fun r_21 => anl (nGT 0 2088 r_21) (fun x_24 => acl (x_X3_leave x_24) (fun r_28 => anl (x_X1_ofFight a0 a1 0) (fun r_37 => acl (x_X1_put r_37 0) (fun r_40 => art 0))))) else anl (x_X1_ofFight a0 a1 0) (fun r_9 => acl (x_X1_put r_9 0) (fun r_12 => art 0)))))
set_option maxHeartbeats 4000000 in
set_option maxRecDepth 100000 in
theorem n_X3_drop (l : Launch) (G : gG) (Z : gC) (Q : Nat → Nat) (D : Nat × Nat) (T : va_W) (u u1 : MS) (r : Int32) (C1 C2 : Nat) (a0 : Int32) (a1 : Int32) (sz : Nat) (hF : x_X3_drop a0 a1 u = some (r, u1, C1, C2)) : Met l yX3_drop (Cond.code yX3_drop cX3_drop 3 none :: wK) { frames := 5, cells := C1, slots := C2, locals := 129 } (va_Pc [.ref (Q 7), .int a0, .int a1] (cPM G Z Q D T u sz)) (cQv G Q T u1 (va_A (cW G Q D T u) sz)) C1 C2 (va_A (cW G Q D T u) sz) := by
  refine Met.ofW (cc := cX3_drop) (maxL := 3) (ret := none) (by decide) rfl ?_
  intro p e s m args below meth c s₁ B hml hv
  obtain ⟨rfl, rfl, hP, hB, hD0, hE⟩ := hv
  have hr := B.returns
  have hlocks := B.notSynchronized
  have hts := atoms_spec (ws := Cond.code yX3_drop cX3_drop 3 none :: wK) B.pre
  have hD := hD0.self (sz := s.heap.size)
  have hA : ∀ q : Nat, s.heap.size ≤ q → va_A (cW G Q D T u) s.heap.size q := fun q h => Or.inr h
  generalize va_A (cW G Q D T u) s.heap.size = A at hD hA hE ⊢
  have hC : cX p c cX3_drop 3 s m _ RX3 G Z A := ⟨B.exec, B.bytes, hml, findClass_of_methodNamed B.named, fun w h => hts w (List.mem_cons_of_mem _ h), hB, hE, hA⟩
  have hx := hC.1
  have hb := hC.2.1
  have hH : cH G Q D T A u s s.heap [] := ⟨hP, hD, va_S.rf⟩
  generalize hK1 : C1 = K1
  generalize hK2 : C2 = K2
  have hk1 : K1 = 0 + C1 := by omega
  have hk2 : K2 = 0 + C2 := by omega
  have hl := lv_entry ([.ref (Q 7), .int a0, .int a1]) (n := 3) (Nat.le_of_ble_eq_true rfl)
  rw [lg_entry_eq]
  generalize (lg_sl ([.ref (Q 7), .int a0, .int a1]) ++ List.replicate (3 - (lg_sl ([.ref (Q 7), .int a0, .int a1])).length) Slot.unset).toArray = ls at hl ⊢
  have hl : lv_has ls 3 [(0, .ref (Q 7)), (1, .int a0), (2, .int a1)] := hl
  unfold x_X3_drop at hF
  refine lv_aload_n hx hb dX3_drop_0 rfl (lv_at hl 0 rfl) ?_
  refine cg_X3_9 hC hH dX3_drop_1 ?_
  refine lv_iload_n hx hb dX3_drop_4 rfl (lv_at hl 1 rfl) ?_
  refine lv_iload_n hx hb dX3_drop_5 rfl (lv_at hl 2 rfl) ?_
  refine lv_iconst (v := 0) hx hb dX3_drop_6 (by decide) ?_
  obtain ⟨r_1, u_2, h_3, hF⟩ := anl_some hF
  refine ccS_iB (As := [.int a0, .int a1, .int 0]) (rest := [.ref (Q 1)]) hC hH (n_X1_ofFight l G Z Q _ T u u_2 r_1 a0 a1 0 _ h_3) ⟨wkc_X1_ofFight, wka290, wka437, wka745⟩ kSX1_ofFight ⟨Nat.le_of_ble_eq_true rfl, Nat.le_of_ble_eq_true rfl⟩ ⟨by show _ ≤ K1; omega, by show _ ≤ K2; omega⟩ rfl hl.1 rfl (Nat.le_of_ble_eq_true rfl) dX3_drop_7 (fun D H locs hH => ?_)
  refine bat (i := 1) (j := 11) hC hH rfl rfl (by decide) wka145 ⟨Nat.le_of_ble_eq_true rfl, Nat.le_of_ble_eq_true rfl⟩ hl.1 (Nat.le_of_ble_eq_true rfl) ⟨by show _ ≤ K1; omega, by show _ ≤ K2; omega⟩ dX3_drop_10 ?_
  obtain ⟨x_4, u_5, h_6, hF⟩ := anl_some hF
  obtain ⟨e_7, rfl⟩ := nGT_eq h_6
  refine gx_ti e_7 ?_
  refine lv_iconst (v := 2) hx hb dX3_drop_13 (by decide) ?_
  refine lv_icmp_ne (tgt := 35) hx hb dX3_drop_14 (by decide) (fun c_8 => ?_) (fun c_8 => ?_)
  · rw [if_neg c_8] at hF
    refine lv_aload_n hx hb dX3_drop_35 rfl (lv_at hl 0 rfl) ?_
    refine cg_X3_9 hC hH dX3_drop_36 ?_
    refine lv_iload_n hx hb dX3_drop_39 rfl (lv_at hl 1 rfl) ?_
    refine lv_iload_n hx hb dX3_drop_40 rfl (lv_at hl 2 rfl) ?_
    refine lv_iconst (v := 0) hx hb dX3_drop_41 (by decide) ?_
    obtain ⟨r_9, u_10, h_11, hF⟩ := anl_some hF
    refine ccS_iB (As := [.int a0, .int a1, .int 0]) (rest := [.ref (Q 1)]) hC hH (n_X1_ofFight l G Z Q _ T u_2 u_10 r_9 a0 a1 0 _ h_11) ⟨wkc_X1_ofFight, wka290, wka437, wka745⟩ kSX1_ofFight ⟨Nat.le_of_ble_eq_true rfl, Nat.le_of_ble_eq_true rfl⟩ ⟨by show _ ≤ K1; omega, by show _ ≤ K2; omega⟩ rfl hl.1 rfl (Nat.le_of_ble_eq_true rfl) dX3_drop_42 (fun D H locs hH => ?_)
    refine lv_iconst (v := 0) hx hb dX3_drop_45 (by decide) ?_
    obtain ⟨r_12, u_13, k_15, k_16, k_17, k_18, h_14, hF, e_19, e_20⟩ := acl_some hF
    refine ccV_vA (q0 := 1) (As := [.int r_9, .int 0]) (rest := []) hC hH (n_X1_put l G Z Q _ T u_10 u_13 r_12 k_15 k_16 r_9 0 _ h_14) rfl rfl ⟨wkc_X1_put, wka293, wka439, wka440, wka745⟩ kVX1_put ⟨Nat.le_of_ble_eq_true rfl, Nat.le_of_ble_eq_true rfl⟩ ⟨by show _ ≤ K1; omega, by show _ ≤ K2; omega⟩ rfl hl.1 rfl (Nat.le_of_ble_eq_true rfl) dX3_drop_46 (fun D H locs hH => ?_)
    have hk1 := (hk1.trans (congrArg (_ + ·) e_19)).trans (Nat.add_assoc _ _ _).symm
    have hk2 := (hk2.trans (congrArg (_ + ·) e_20)).trans (Nat.add_assoc _ _ _).symm
    exact cr_vA hC hH hr (art_eq hF) (by omega) (by omega) dX3_drop_49 hlocks
  · rw [if_pos c_8] at hF
    refine lv_aload_n hx hb dX3_drop_17 rfl (lv_at hl 0 rfl) ?_
    refine lv_aload_n hx hb dX3_drop_18 rfl (lv_at hl 0 rfl) ?_
    refine cg_X3_9 hC hH dX3_drop_19 ?_
    refine lv_iload_n hx hb dX3_drop_22 rfl (lv_at hl 1 rfl) ?_
    refine lv_iload_n hx hb dX3_drop_23 rfl (lv_at hl 2 rfl) ?_
    refine lv_bipush (v := 7) hx hb dX3_drop_24 (by decide) ?_
    obtain ⟨r_21, u_22, h_23, hF⟩ := anl_some hF
    refine ccS_iB (As := [.int a0, .int a1, .int 7]) (rest := [.ref (Q 1), .ref (Q 7)]) hC hH (n_X1_ofFight l G Z Q _ T u_2 u_22 r_21 a0 a1 7 _ h_23) ⟨wkc_X1_ofFight, wka290, wka437, wka745⟩ kSX1_ofFight ⟨Nat.le_of_ble_eq_true rfl, Nat.le_of_ble_eq_true rfl⟩ ⟨by show _ ≤ K1; omega, by show _ ≤ K2; omega⟩ rfl hl.1 rfl (Nat.le_of_ble_eq_true rfl) dX3_drop_26 (fun D H locs hH => ?_)
    refine bat (i := 1) (j := 11) hC hH rfl rfl (by decide) wka145 ⟨Nat.le_of_ble_eq_true rfl, Nat.le_of_ble_eq_true rfl⟩ hl.1 (Nat.le_of_ble_eq_true rfl) ⟨by show _ ≤ K1; omega, by show _ ≤ K2; omega⟩ dX3_drop_29 ?_
    obtain ⟨x_24, u_25, h_26, hF⟩ := anl_some hF
    obtain ⟨e_27, rfl⟩ := nGT_eq h_26
    refine gx_ti e_27 ?_
    obtain ⟨r_28, u_29, k_31, k_32, k_33, k_34, h_30, hF, e_35, e_36⟩ := acl_some hF
    refine ccV_vA (q0 := 7) (As := [.int x_24]) (rest := []) hC hH (n_X3_leave l G Z Q _ T u_22 u_29 r_28 k_31 k_32 x_24 _ h_30) rfl rfl ⟨wkc_X3_leave, wka316, wka510, wka511, wka747⟩ kVX3_leave ⟨Nat.le_of_ble_eq_true rfl, Nat.le_of_ble_eq_true rfl⟩ ⟨by show _ ≤ K1; omega, by show _ ≤ K2; omega⟩ rfl hl.1 rfl (Nat.le_of_ble_eq_true rfl) dX3_drop_32 (fun D H locs hH => ?_)
    have hk1 := (hk1.trans (congrArg (_ + ·) e_35)).trans (Nat.add_assoc _ _ _).symm
    have hk2 := (hk2.trans (congrArg (_ + ·) e_36)).trans (Nat.add_assoc _ _ _).symm
    refine lv_aload_n hx hb dX3_drop_35 rfl (lv_at hl 0 rfl) ?_
    refine cg_X3_9 hC hH dX3_drop_36 ?_
    refine lv_iload_n hx hb dX3_drop_39 rfl (lv_at hl 1 rfl) ?_
    refine lv_iload_n hx hb dX3_drop_40 rfl (lv_at hl 2 rfl) ?_
    refine lv_iconst (v := 0) hx hb dX3_drop_41 (by decide) ?_
    obtain ⟨r_37, u_38, h_39, hF⟩ := anl_some hF
    refine ccS_iB (As := [.int a0, .int a1, .int 0]) (rest := [.ref (Q 1)]) hC hH (n_X1_ofFight l G Z Q _ T u_29 u_38 r_37 a0 a1 0 _ h_39) ⟨wkc_X1_ofFight, wka290, wka437, wka745⟩ kSX1_ofFight ⟨Nat.le_of_ble_eq_true rfl, Nat.le_of_ble_eq_true rfl⟩ ⟨by show _ ≤ K1; omega, by show _ ≤ K2; omega⟩ rfl hl.1 rfl (Nat.le_of_ble_eq_true rfl) dX3_drop_42 (fun D H locs hH => ?_)
    refine lv_iconst (v := 0) hx hb dX3_drop_45 (by decide) ?_
    obtain ⟨r_40, u_41, k_43, k_44, k_45, k_46, h_42, hF, e_47, e_48⟩ := acl_some hF
    refine ccV_vA (q0 := 1) (As := [.int r_37, .int 0]) (rest := []) hC hH (n_X1_put l G Z Q _ T u_38 u_41 r_40 k_43 k_44 r_37 0 _ h_42) rfl rfl ⟨wkc_X1_put, wka293, wka439, wka440, wka745⟩ kVX1_put ⟨Nat.le_of_ble_eq_true rfl, Nat.le_of_ble_eq_true rfl⟩ ⟨by show _ ≤ K1; omega, by show _ ≤ K2; omega⟩ rfl hl.1 rfl (Nat.le_of_ble_eq_true rfl) dX3_drop_46 (fun D H locs hH => ?_)
    have hk1 := (hk1.trans (congrArg (_ + ·) e_47)).trans (Nat.add_assoc _ _ _).symm
    have hk2 := (hk2.trans (congrArg (_ + ·) e_48)).trans (Nat.add_assoc _ _ _).symm
    exact cr_vA hC hH hr (art_eq hF) (by omega) (by omega) dX3_drop_49 hlocks
def xl_X3_strikeFrom_8 : Nat → Int32 → Int32 → Int32 → Int32 → Int32 → (Int32 → Int32 → Int32 → Int32 → Int32 → AG Int32) → AG Int32
  | 0, _, _, _, _, _, _ => fun _ => none
  | n8 + 1, v1, v2, v3, v4, v5, K8_55 => (if 37 ≤ v5 then K8_55 v1 v2 v3 v4 v5 else (if v4 = (-1) then K8_55 v1 v2 v3 v4 v5 else acl (x_X3_drop v1 v4) (fun r_3 => ali (v3 + 1) (fun x_12 => anl (x_X0_settle v1) (fun r_14 => anl (x_X0_firstStale v1) (fun r_17 => ali (v5 + 1) (fun x_20 => xl_X3_strikeFrom_8 n8 v1 v2 x_12 r_17 x_20 K8_55)))))))
def x_X3_strikeFrom (a0 : Int32) (a1 : Int32) : AG Int32 := xl_X3_strikeFrom_8 fuel a0 a1 0 a1 0 (fun v1 v2 v3 v4 v5 => art v3)
set_option maxHeartbeats 4000000 in
set_option maxRecDepth 100000 in
theorem n_X3_strikeFrom (l : Launch) (G : gG) (Z : gC) (Q : Nat → Nat) (D : Nat × Nat) (T : va_W) (u u1 : MS) (r : Int32) (C1 C2 : Nat) (a0 : Int32) (a1 : Int32) (sz : Nat) (hF : x_X3_strikeFrom a0 a1 u = some (r, u1, C1, C2)) : Met l yX3_strikeFrom (Cond.code yX3_strikeFrom cX3_strikeFrom 6 (some .int) :: wK) { frames := 6, cells := C1, slots := C2, locals := 151 } (va_Pc [.ref (Q 7), .int a0, .int a1] (cPM G Z Q D T u sz)) (cQi G Q T u1 r (va_A (cW G Q D T u) sz)) C1 C2 (va_A (cW G Q D T u) sz) := by
  refine Met.ofW (cc := cX3_strikeFrom) (maxL := 6) (ret := (some .int)) (by decide) rfl ?_
  intro p e s m args below meth c s₁ B hml hv
  obtain ⟨rfl, rfl, hP, hB, hD0, hE⟩ := hv
  have hr := B.returns
  have hlocks := B.notSynchronized
  have hts := atoms_spec (ws := Cond.code yX3_strikeFrom cX3_strikeFrom 6 (some .int) :: wK) B.pre
  have hD := hD0.self (sz := s.heap.size)
  have hA : ∀ q : Nat, s.heap.size ≤ q → va_A (cW G Q D T u) s.heap.size q := fun q h => Or.inr h
  generalize va_A (cW G Q D T u) s.heap.size = A at hD hA hE ⊢
  have hC : cX p c cX3_strikeFrom 6 s m _ RX3 G Z A := ⟨B.exec, B.bytes, hml, findClass_of_methodNamed B.named, fun w h => hts w (List.mem_cons_of_mem _ h), hB, hE, hA⟩
  have hx := hC.1
  have hb := hC.2.1
  have hH : cH G Q D T A u s s.heap [] := ⟨hP, hD, va_S.rf⟩
  generalize hK1 : C1 = K1
  generalize hK2 : C2 = K2
  have hk1 : K1 = 0 + C1 := by omega
  have hk2 : K2 = 0 + C2 := by omega
  have hl := lv_entry ([.ref (Q 7), .int a0, .int a1]) (n := 6) (Nat.le_of_ble_eq_true rfl)
  rw [lg_entry_eq]
  generalize (lg_sl ([.ref (Q 7), .int a0, .int a1]) ++ List.replicate (6 - (lg_sl ([.ref (Q 7), .int a0, .int a1])).length) Slot.unset).toArray = ls at hl ⊢
  have hl : lv_has ls 6 [(0, .ref (Q 7)), (1, .int a0), (2, .int a1)] := hl
  unfold x_X3_strikeFrom at hF
  refine lv_iconst (v := 0) hx hb dX3_strikeFrom_0 (by decide) ?_
  refine lv_istore_n (lv' := [(3, .int 0), (0, .ref (Q 7)), (1, .int a0), (2, .int a1)]) hx hb dX3_strikeFrom_1 rfl hl (by decide) rfl (fun ls hl => ?_)
  refine lv_iload_n hx hb dX3_strikeFrom_2 rfl (lv_at hl 3 rfl) ?_
  refine lv_istore (lv' := [(4, .int a1), (3, .int 0), (0, .ref (Q 7)), (1, .int a0), (2, .int a1)]) hx hb dX3_strikeFrom_3 hl (by decide) rfl (fun ls hl => ?_)
  refine lv_iconst (v := 0) hx hb dX3_strikeFrom_5 (by decide) ?_
  refine lv_istore (lv' := [(5, .int 0), (4, .int a1), (3, .int 0), (0, .ref (Q 7)), (1, .int a0), (2, .int a1)]) hx hb dX3_strikeFrom_6 hl (by decide) rfl (fun ls hl => ?_)
  have hL8 : ∀ (K8_55 : Int32 → Int32 → Int32 → Int32 → Int32 → AG Int32), (∀ (v1 v2 v3 v4 v5 : Int32) (u : MS) (D : Nat × Nat) (H : Heap) (locs : List Loc) (ls : Array Slot) (cells slots C1 C2 : Nat), lv_has ls 6 [(0, .ref (Q 7)), (1, .int v1), (2, .int v2), (3, .int v3), (4, .int v4), (5, .int v5)] → cH G Q D T A u s H locs → K8_55 v1 v2 v3 v4 v5 u = some (r, u1, C1, C2) → K1 = cells + C1 → K2 = slots + C2 → W p l e (headSpec (Cond.code yX3_strikeFrom cX3_strikeFrom 6 (some .int) :: wK) { frames := 6, cells := K1, slots := K2, locals := 151 }).room s m [.ref (Q 7), .int a0, .int a1].toArray below meth c H locs cells slots (MQ below (cQi G Q T u1 r A) [.ref (Q 7), .int a0, .int a1].toArray s K1 K2 A) (F0 m 55 ls [])) → ∀ (n8 : Nat) (v1 v2 v3 v4 v5 : Int32) (u : MS) (D : Nat × Nat) (H : Heap) (locs : List Loc) (ls : Array Slot) (cells slots C1 C2 : Nat), lv_has ls 6 [(0, .ref (Q 7)), (1, .int v1), (2, .int v2), (3, .int v3), (4, .int v4), (5, .int v5)] → cH G Q D T A u s H locs → xl_X3_strikeFrom_8 n8 v1 v2 v3 v4 v5 K8_55 u = some (r, u1, C1, C2) → K1 = cells + C1 → K2 = slots + C2 → W p l e (headSpec (Cond.code yX3_strikeFrom cX3_strikeFrom 6 (some .int) :: wK) { frames := 6, cells := K1, slots := K2, locals := 151 }).room s m [.ref (Q 7), .int a0, .int a1].toArray below meth c H locs cells slots (MQ below (cQi G Q T u1 r A) [.ref (Q 7), .int a0, .int a1].toArray s K1 K2 A) (F0 m 8 ls []) := by
    intro K8_55 hK8_55 n8
    induction n8 with
    | zero => intro v1 v2 v3 v4 v5 u D H locs ls cells slots C1 C2 hl hH hF; cases hF
    | succ n8 ih8 =>
      intro v1 v2 v3 v4 v5 u D H locs ls cells slots C1 C2 hl hH hF hk1 hk2
      unfold xl_X3_strikeFrom_8 at hF
      refine lv_iload hx hb dX3_strikeFrom_8 (lv_at hl 5 rfl) ?_
      refine lv_bipush (v := 37) hx hb dX3_strikeFrom_10 (by decide) ?_
      refine lv_icmp_ge (tgt := 55) hx hb dX3_strikeFrom_12 (by decide) (fun c_1 => ?_) (fun c_1 => ?_)
      · rw [if_pos c_1] at hF
        exact hK8_55 v1 v2 v3 v4 v5 u _ _ _ _ _ _ _ _ (lv_sub hl [0, 1, 2, 3, 4, 5] rfl) hH hF hk1 hk2
      · rw [if_neg c_1] at hF
        refine lv_iload hx hb dX3_strikeFrom_15 (lv_at hl 4 rfl) ?_
        refine lv_iconst (v := (-1)) hx hb dX3_strikeFrom_17 (by decide) ?_
        refine lv_icmp_eq (tgt := 55) hx hb dX3_strikeFrom_18 (by decide) (fun c_2 => ?_) (fun c_2 => ?_)
        · rw [if_pos c_2] at hF
          exact hK8_55 v1 v2 v3 v4 v5 u _ _ _ _ _ _ _ _ (lv_sub hl [0, 1, 2, 3, 4, 5] rfl) hH hF hk1 hk2
        · rw [if_neg c_2] at hF
          refine lv_aload_n hx hb dX3_strikeFrom_21 rfl (lv_at hl 0 rfl) ?_
          refine lv_iload_n hx hb dX3_strikeFrom_22 rfl (lv_at hl 1 rfl) ?_
          refine lv_iload hx hb dX3_strikeFrom_23 (lv_at hl 4 rfl) ?_
          obtain ⟨r_3, u_4, k_6, k_7, k_8, k_9, h_5, hF, e_10, e_11⟩ := acl_some hF
          refine ccV_vA (q0 := 7) (As := [.int v1, .int v4]) (rest := []) hC hH (n_X3_drop l G Z Q _ T u u_4 r_3 k_6 k_7 v1 v4 _ h_5) rfl rfl ⟨wkc_X3_drop, wka325, wka514, wka515, wka747⟩ kVX3_drop ⟨Nat.le_of_ble_eq_true rfl, Nat.le_of_ble_eq_true rfl⟩ ⟨by show _ ≤ K1; omega, by show _ ≤ K2; omega⟩ rfl hl.1 rfl (Nat.le_of_ble_eq_true rfl) dX3_strikeFrom_25 (fun D H locs hH => ?_)
          have hk1 := (hk1.trans (congrArg (_ + ·) e_10)).trans (Nat.add_assoc _ _ _).symm
          have hk2 := (hk2.trans (congrArg (_ + ·) e_11)).trans (Nat.add_assoc _ _ _).symm
          obtain ⟨x_12, e_13, hF⟩ := ali_some hF
          refine lv_iinc (v := x_12) (lv' := [(3, .int x_12), (0, .ref (Q 7)), (1, .int v1), (2, .int v2), (4, .int v4), (5, .int v5)]) hx hb dX3_strikeFrom_28 hl (k := 3) rfl e_13 (by decide) rfl (fun ls hl => ?_)
          refine lv_aload_n hx hb dX3_strikeFrom_31 rfl (lv_at hl 1 rfl) ?_
          refine cg_X3_15 hC hH dX3_strikeFrom_32 ?_
          refine lv_iload_n hx hb dX3_strikeFrom_35 rfl (lv_at hl 2 rfl) ?_
          obtain ⟨r_14, u_15, h_16, hF⟩ := anl_some hF
          refine ccV_vB (q0 := 6) (As := [.int v1]) (rest := []) hC hH (n_X0_settle l G Z Q _ T u_4 u_15 r_14 v1 _ h_16) rfl rfl ⟨wkc_X0_settle, wka326, wka413, wka414, wka744⟩ kVX0_settle ⟨Nat.le_of_ble_eq_true rfl, Nat.le_of_ble_eq_true rfl⟩ ⟨by show _ ≤ K1; omega, by show _ ≤ K2; omega⟩ rfl hl.1 rfl (Nat.le_of_ble_eq_true rfl) dX3_strikeFrom_36 (fun D H locs hH => ?_)
          refine lv_aload_n hx hb dX3_strikeFrom_39 rfl (lv_at hl 1 rfl) ?_
          refine cg_X3_15 hC hH dX3_strikeFrom_40 ?_
          refine lv_iload_n hx hb dX3_strikeFrom_43 rfl (lv_at hl 2 rfl) ?_
          obtain ⟨r_17, u_18, h_19, hF⟩ := anl_some hF
          refine ccV_iB (q0 := 6) (As := [.int v1]) (rest := []) hC hH (n_X0_firstStale l G Z Q _ T u_15 u_18 r_17 v1 _ h_19) rfl rfl ⟨wkc_X0_firstStale, wka327, wka428, wka429, wka744⟩ kVX0_firstStale ⟨Nat.le_of_ble_eq_true rfl, Nat.le_of_ble_eq_true rfl⟩ ⟨by show _ ≤ K1; omega, by show _ ≤ K2; omega⟩ rfl hl.1 rfl (Nat.le_of_ble_eq_true rfl) dX3_strikeFrom_44 (fun D H locs hH => ?_)
          refine lv_istore (lv' := [(4, .int r_17), (3, .int x_12), (0, .ref (Q 7)), (1, .int v1), (2, .int v2), (5, .int v5)]) hx hb dX3_strikeFrom_47 hl (by decide) rfl (fun ls hl => ?_)
          obtain ⟨x_20, e_21, hF⟩ := ali_some hF
          refine lv_iinc (v := x_20) (lv' := [(5, .int x_20), (4, .int r_17), (3, .int x_12), (0, .ref (Q 7)), (1, .int v1), (2, .int v2)]) hx hb dX3_strikeFrom_49 hl (k := 5) rfl e_21 (by decide) rfl (fun ls hl => ?_)
          refine lv_goto (tgt := 8) hx hb dX3_strikeFrom_52 (by decide) ?_
          exact ih8 v1 v2 x_12 r_17 x_20 u_18 _ _ _ _ _ _ _ _ (lv_sub hl [3, 4, 5, 2, 1, 0] rfl) hH hF hk1 hk2
  refine hL8 _ (fun v1 v2 v3 v4 v5 u D H locs ls cells slots C1 C2 hl hH hF hk1 hk2 => ?_) fuel a0 a1 0 a1 0 u _ _ _ _ _ _ _ _ (lv_sub hl [3, 4, 5, 2, 1, 0] rfl) hH hF hk1 hk2
  refine lv_iload_n hx hb dX3_strikeFrom_55 rfl (lv_at hl 3 rfl) ?_
  exact cr_iA hC hH hr (art_eq hF) (by omega) (by omega) dX3_strikeFrom_56 hlocks
def x_X8_add (a0 : Int32) (a1 : Int32) : AG Int32 := anl (x_X8_people) (fun r_1 => acl (x_X1_put 2 (r_1 + 1)) (fun r_4 => anl (x_X1_ofFighter r_1 0) (fun r_13 => acl (x_X1_put r_13 a1) (fun r_16 => anl (x_X1_ofFighter r_1 1) (fun r_25 => acl (x_X1_put r_25 a0) (fun r_28 => anl (x_X1_ofFighter r_1 2) (fun r_37 => acl (x_X1_put r_37 (-1)) (fun r_40 => anl (x_X1_ofFighter r_1 5) (fun r_49 => acl (x_X1_put r_49 (-1)) (fun r_52 => anl (x_X1_ofFighter r_1 6) (fun r_61 => acl (x_X1_put r_61 (-1)) (fun r_64 => art r_1))))))))))))
set_option maxHeartbeats 4000000 in
set_option maxRecDepth 100000 in
theorem n_X8_add (l : Launch) (G : gG) (Z : gC) (Q : Nat → Nat) (D : Nat × Nat) (T : va_W) (u u1 : MS) (r : Int32) (C1 C2 : Nat) (a0 : Int32) (a1 : Int32) (sz : Nat) (hF : x_X8_add a0 a1 u = some (r, u1, C1, C2)) : Met l yX8_add (Cond.code yX8_add cX8_add 4 (some .int) :: wK) { frames := 4, cells := C1, slots := C2, locals := 108 } (va_Pc [.ref (Q 4), .int a0, .int a1] (cPM G Z Q D T u sz)) (cQi G Q T u1 r (va_A (cW G Q D T u) sz)) C1 C2 (va_A (cW G Q D T u) sz) := by
  refine Met.ofW (cc := cX8_add) (maxL := 4) (ret := (some .int)) (by decide) rfl ?_
  intro p e s m args below meth c s₁ B hml hv
  obtain ⟨rfl, rfl, hP, hB, hD0, hE⟩ := hv
  have hr := B.returns
  have hlocks := B.notSynchronized
  have hts := atoms_spec (ws := Cond.code yX8_add cX8_add 4 (some .int) :: wK) B.pre
  have hD := hD0.self (sz := s.heap.size)
  have hA : ∀ q : Nat, s.heap.size ≤ q → va_A (cW G Q D T u) s.heap.size q := fun q h => Or.inr h
  generalize va_A (cW G Q D T u) s.heap.size = A at hD hA hE ⊢
  have hC : cX p c cX8_add 4 s m _ RX8 G Z A := ⟨B.exec, B.bytes, hml, findClass_of_methodNamed B.named, fun w h => hts w (List.mem_cons_of_mem _ h), hB, hE, hA⟩
  have hx := hC.1
  have hb := hC.2.1
  have hH : cH G Q D T A u s s.heap [] := ⟨hP, hD, va_S.rf⟩
  generalize hK1 : C1 = K1
  generalize hK2 : C2 = K2
  have hk1 : K1 = 0 + C1 := by omega
  have hk2 : K2 = 0 + C2 := by omega
  have hl := lv_entry ([.ref (Q 4), .int a0, .int a1]) (n := 4) (Nat.le_of_ble_eq_true rfl)
  rw [lg_entry_eq]
  generalize (lg_sl ([.ref (Q 4), .int a0, .int a1]) ++ List.replicate (4 - (lg_sl ([.ref (Q 4), .int a0, .int a1])).length) Slot.unset).toArray = ls at hl ⊢
  have hl : lv_has ls 4 [(0, .ref (Q 4)), (1, .int a0), (2, .int a1)] := hl
  unfold x_X8_add at hF
  refine lv_aload_n hx hb dX8_add_0 rfl (lv_at hl 0 rfl) ?_
  obtain ⟨r_1, u_2, h_3, hF⟩ := anl_some hF
  refine ccV_iB (q0 := 4) (As := []) (rest := []) hC hH (n_X8_people l G Z Q _ T u u_2 r_1 _ h_3) rfl rfl ⟨wkc_X8_people, wka215, wka628, wka629, wka752⟩ kVX8_people ⟨Nat.le_of_ble_eq_true rfl, Nat.le_of_ble_eq_true rfl⟩ ⟨by show _ ≤ K1; omega, by show _ ≤ K2; omega⟩ rfl hl.1 rfl (Nat.le_of_ble_eq_true rfl) dX8_add_1 (fun D H locs hH => ?_)
  refine lv_istore_n (lv' := [(3, .int r_1), (0, .ref (Q 4)), (1, .int a0), (2, .int a1)]) hx hb dX8_add_4 rfl hl (by decide) rfl (fun ls hl => ?_)
  refine lv_aload_n hx hb dX8_add_5 rfl (lv_at hl 1 rfl) ?_
  refine cg_X8_9 hC hH dX8_add_6 ?_
  refine lv_iconst (v := 2) hx hb dX8_add_9 (by decide) ?_
  refine lv_iload_n hx hb dX8_add_10 rfl (lv_at hl 0 rfl) ?_
  refine lv_iconst (v := 1) hx hb dX8_add_11 (by decide) ?_
  refine lv_iadd hx hb dX8_add_12 ?_
  obtain ⟨r_4, u_5, k_7, k_8, k_9, k_10, h_6, hF, e_11, e_12⟩ := acl_some hF
  refine ccV_vA (q0 := 1) (As := [.int 2, .int (r_1 + 1)]) (rest := []) hC hH (n_X1_put l G Z Q _ T u_2 u_5 r_4 k_7 k_8 2 (r_1 + 1) _ h_6) rfl rfl ⟨wkc_X1_put, wka222, wka439, wka440, wka745⟩ kVX1_put ⟨Nat.le_of_ble_eq_true rfl, Nat.le_of_ble_eq_true rfl⟩ ⟨by show _ ≤ K1; omega, by show _ ≤ K2; omega⟩ rfl hl.1 rfl (Nat.le_of_ble_eq_true rfl) dX8_add_13 (fun D H locs hH => ?_)
  have hk1 := (hk1.trans (congrArg (_ + ·) e_11)).trans (Nat.add_assoc _ _ _).symm
  have hk2 := (hk2.trans (congrArg (_ + ·) e_12)).trans (Nat.add_assoc _ _ _).symm
  refine lv_aload_n hx hb dX8_add_16 rfl (lv_at hl 1 rfl) ?_
  refine cg_X8_9 hC hH dX8_add_17 ?_
  refine lv_iload_n hx hb dX8_add_20 rfl (lv_at hl 0 rfl) ?_
  refine lv_iconst (v := 0) hx hb dX8_add_21 (by decide) ?_
  obtain ⟨r_13, u_14, h_15, hF⟩ := anl_some hF
  refine ccS_iB (As := [.int r_1, .int 0]) (rest := [.ref (Q 1)]) hC hH (n_X1_ofFighter l G Z Q _ T u_5 u_14 r_13 r_1 0 _ h_15) ⟨wkc_X1_ofFighter, wka218, wka436, wka745⟩ kSX1_ofFighter ⟨Nat.le_of_ble_eq_true rfl, Nat.le_of_ble_eq_true rfl⟩ ⟨by show _ ≤ K1; omega, by show _ ≤ K2; omega⟩ rfl hl.1 rfl (Nat.le_of_ble_eq_true rfl) dX8_add_22 (fun D H locs hH => ?_)
  refine lv_iload_n hx hb dX8_add_25 rfl (lv_at hl 3 rfl) ?_
  obtain ⟨r_16, u_17, k_19, k_20, k_21, k_22, h_18, hF, e_23, e_24⟩ := acl_some hF
  refine ccV_vA (q0 := 1) (As := [.int r_13, .int a1]) (rest := []) hC hH (n_X1_put l G Z Q _ T u_14 u_17 r_16 k_19 k_20 r_13 a1 _ h_18) rfl rfl ⟨wkc_X1_put, wka222, wka439, wka440, wka745⟩ kVX1_put ⟨Nat.le_of_ble_eq_true rfl, Nat.le_of_ble_eq_true rfl⟩ ⟨by show _ ≤ K1; omega, by show _ ≤ K2; omega⟩ rfl hl.1 rfl (Nat.le_of_ble_eq_true rfl) dX8_add_26 (fun D H locs hH => ?_)
  have hk1 := (hk1.trans (congrArg (_ + ·) e_23)).trans (Nat.add_assoc _ _ _).symm
  have hk2 := (hk2.trans (congrArg (_ + ·) e_24)).trans (Nat.add_assoc _ _ _).symm
  refine lv_aload_n hx hb dX8_add_29 rfl (lv_at hl 1 rfl) ?_
  refine cg_X8_9 hC hH dX8_add_30 ?_
  refine lv_iload_n hx hb dX8_add_33 rfl (lv_at hl 0 rfl) ?_
  refine lv_iconst (v := 1) hx hb dX8_add_34 (by decide) ?_
  obtain ⟨r_25, u_26, h_27, hF⟩ := anl_some hF
  refine ccS_iB (As := [.int r_1, .int 1]) (rest := [.ref (Q 1)]) hC hH (n_X1_ofFighter l G Z Q _ T u_17 u_26 r_25 r_1 1 _ h_27) ⟨wkc_X1_ofFighter, wka218, wka436, wka745⟩ kSX1_ofFighter ⟨Nat.le_of_ble_eq_true rfl, Nat.le_of_ble_eq_true rfl⟩ ⟨by show _ ≤ K1; omega, by show _ ≤ K2; omega⟩ rfl hl.1 rfl (Nat.le_of_ble_eq_true rfl) dX8_add_35 (fun D H locs hH => ?_)
  refine lv_iload_n hx hb dX8_add_38 rfl (lv_at hl 2 rfl) ?_
  obtain ⟨r_28, u_29, k_31, k_32, k_33, k_34, h_30, hF, e_35, e_36⟩ := acl_some hF
  refine ccV_vA (q0 := 1) (As := [.int r_25, .int a0]) (rest := []) hC hH (n_X1_put l G Z Q _ T u_26 u_29 r_28 k_31 k_32 r_25 a0 _ h_30) rfl rfl ⟨wkc_X1_put, wka222, wka439, wka440, wka745⟩ kVX1_put ⟨Nat.le_of_ble_eq_true rfl, Nat.le_of_ble_eq_true rfl⟩ ⟨by show _ ≤ K1; omega, by show _ ≤ K2; omega⟩ rfl hl.1 rfl (Nat.le_of_ble_eq_true rfl) dX8_add_39 (fun D H locs hH => ?_)
  have hk1 := (hk1.trans (congrArg (_ + ·) e_35)).trans (Nat.add_assoc _ _ _).symm
  have hk2 := (hk2.trans (congrArg (_ + ·) e_36)).trans (Nat.add_assoc _ _ _).symm
  refine lv_aload_n hx hb dX8_add_42 rfl (lv_at hl 1 rfl) ?_
  refine cg_X8_9 hC hH dX8_add_43 ?_
  refine lv_iload_n hx hb dX8_add_46 rfl (lv_at hl 0 rfl) ?_
  refine lv_iconst (v := 2) hx hb dX8_add_47 (by decide) ?_
  obtain ⟨r_37, u_38, h_39, hF⟩ := anl_some hF
  refine ccS_iB (As := [.int r_1, .int 2]) (rest := [.ref (Q 1)]) hC hH (n_X1_ofFighter l G Z Q _ T u_29 u_38 r_37 r_1 2 _ h_39) ⟨wkc_X1_ofFighter, wka218, wka436, wka745⟩ kSX1_ofFighter ⟨Nat.le_of_ble_eq_true rfl, Nat.le_of_ble_eq_true rfl⟩ ⟨by show _ ≤ K1; omega, by show _ ≤ K2; omega⟩ rfl hl.1 rfl (Nat.le_of_ble_eq_true rfl) dX8_add_48 (fun D H locs hH => ?_)
  refine lv_iconst (v := (-1)) hx hb dX8_add_51 (by decide) ?_
  obtain ⟨r_40, u_41, k_43, k_44, k_45, k_46, h_42, hF, e_47, e_48⟩ := acl_some hF
  refine ccV_vA (q0 := 1) (As := [.int r_37, .int (-1)]) (rest := []) hC hH (n_X1_put l G Z Q _ T u_38 u_41 r_40 k_43 k_44 r_37 (-1) _ h_42) rfl rfl ⟨wkc_X1_put, wka222, wka439, wka440, wka745⟩ kVX1_put ⟨Nat.le_of_ble_eq_true rfl, Nat.le_of_ble_eq_true rfl⟩ ⟨by show _ ≤ K1; omega, by show _ ≤ K2; omega⟩ rfl hl.1 rfl (Nat.le_of_ble_eq_true rfl) dX8_add_52 (fun D H locs hH => ?_)
  have hk1 := (hk1.trans (congrArg (_ + ·) e_47)).trans (Nat.add_assoc _ _ _).symm
  have hk2 := (hk2.trans (congrArg (_ + ·) e_48)).trans (Nat.add_assoc _ _ _).symm
  refine lv_aload_n hx hb dX8_add_55 rfl (lv_at hl 1 rfl) ?_
  refine cg_X8_9 hC hH dX8_add_56 ?_
  refine lv_iload_n hx hb dX8_add_59 rfl (lv_at hl 0 rfl) ?_
  refine lv_iconst (v := 5) hx hb dX8_add_60 (by decide) ?_
  obtain ⟨r_49, u_50, h_51, hF⟩ := anl_some hF
  refine ccS_iB (As := [.int r_1, .int 5]) (rest := [.ref (Q 1)]) hC hH (n_X1_ofFighter l G Z Q _ T u_41 u_50 r_49 r_1 5 _ h_51) ⟨wkc_X1_ofFighter, wka218, wka436, wka745⟩ kSX1_ofFighter ⟨Nat.le_of_ble_eq_true rfl, Nat.le_of_ble_eq_true rfl⟩ ⟨by show _ ≤ K1; omega, by show _ ≤ K2; omega⟩ rfl hl.1 rfl (Nat.le_of_ble_eq_true rfl) dX8_add_61 (fun D H locs hH => ?_)
  refine lv_iconst (v := (-1)) hx hb dX8_add_64 (by decide) ?_
  obtain ⟨r_52, u_53, k_55, k_56, k_57, k_58, h_54, hF, e_59, e_60⟩ := acl_some hF
  refine ccV_vA (q0 := 1) (As := [.int r_49, .int (-1)]) (rest := []) hC hH (n_X1_put l G Z Q _ T u_50 u_53 r_52 k_55 k_56 r_49 (-1) _ h_54) rfl rfl ⟨wkc_X1_put, wka222, wka439, wka440, wka745⟩ kVX1_put ⟨Nat.le_of_ble_eq_true rfl, Nat.le_of_ble_eq_true rfl⟩ ⟨by show _ ≤ K1; omega, by show _ ≤ K2; omega⟩ rfl hl.1 rfl (Nat.le_of_ble_eq_true rfl) dX8_add_65 (fun D H locs hH => ?_)
  have hk1 := (hk1.trans (congrArg (_ + ·) e_59)).trans (Nat.add_assoc _ _ _).symm
  have hk2 := (hk2.trans (congrArg (_ + ·) e_60)).trans (Nat.add_assoc _ _ _).symm
  refine lv_aload_n hx hb dX8_add_68 rfl (lv_at hl 1 rfl) ?_
  refine cg_X8_9 hC hH dX8_add_69 ?_
  refine lv_iload_n hx hb dX8_add_72 rfl (lv_at hl 0 rfl) ?_
  refine lv_bipush (v := 6) hx hb dX8_add_73 (by decide) ?_
  obtain ⟨r_61, u_62, h_63, hF⟩ := anl_some hF
  refine ccS_iB (As := [.int r_1, .int 6]) (rest := [.ref (Q 1)]) hC hH (n_X1_ofFighter l G Z Q _ T u_53 u_62 r_61 r_1 6 _ h_63) ⟨wkc_X1_ofFighter, wka218, wka436, wka745⟩ kSX1_ofFighter ⟨Nat.le_of_ble_eq_true rfl, Nat.le_of_ble_eq_true rfl⟩ ⟨by show _ ≤ K1; omega, by show _ ≤ K2; omega⟩ rfl hl.1 rfl (Nat.le_of_ble_eq_true rfl) dX8_add_75 (fun D H locs hH => ?_)
  refine lv_iconst (v := (-1)) hx hb dX8_add_78 (by decide) ?_
  obtain ⟨r_64, u_65, k_67, k_68, k_69, k_70, h_66, hF, e_71, e_72⟩ := acl_some hF
  refine ccV_vA (q0 := 1) (As := [.int r_61, .int (-1)]) (rest := []) hC hH (n_X1_put l G Z Q _ T u_62 u_65 r_64 k_67 k_68 r_61 (-1) _ h_66) rfl rfl ⟨wkc_X1_put, wka222, wka439, wka440, wka745⟩ kVX1_put ⟨Nat.le_of_ble_eq_true rfl, Nat.le_of_ble_eq_true rfl⟩ ⟨by show _ ≤ K1; omega, by show _ ≤ K2; omega⟩ rfl hl.1 rfl (Nat.le_of_ble_eq_true rfl) dX8_add_79 (fun D H locs hH => ?_)
  have hk1 := (hk1.trans (congrArg (_ + ·) e_71)).trans (Nat.add_assoc _ _ _).symm
  have hk2 := (hk2.trans (congrArg (_ + ·) e_72)).trans (Nat.add_assoc _ _ _).symm
  refine lv_iload_n hx hb dX8_add_82 rfl (lv_at hl 0 rfl) ?_
  exact cr_iA hC hH hr (art_eq hF) (by omega) (by omega) dX8_add_83 hlocks
def x_X8_putOnScales (a0 : Int32) (a1 : Int32) : AG Int32 := anl (x_X8_classOf a0) (fun r_1 => anl (x_X1_ofClass r_1 0) (fun r_4 => anl (nGT 0 2088 r_4) (fun x_7 => (if a1 < x_7 then anl (x_X1_ofFighter a0 2) (fun r_12 => acl (x_X1_put r_12 a1) (fun r_15 => anl (x_X1_ofFighter a0 3) (fun r_24 => (if (0 : Int32) = 0 then acl (x_X1_put r_24 2) (fun r_28 => art 0) else acl (x_X1_put r_24 1) (fun r_37 => art 0))))) else anl (x_X1_ofClass r_1 1) (fun r_46 => anl (nGT 0 2088 r_46) (fun x_49 => (if x_49 < a1 then anl (x_X1_ofFighter a0 2) (fun r_54 => acl (x_X1_put r_54 a1) (fun r_57 => anl (x_X1_ofFighter a0 3) (fun r_66 => (if (0 : Int32) = 0 then acl (x_X1_put r_66 2) (fun r_70 => art 0) else acl (x_X1_put r_66 1) (fun r_79 => art 0))))) else anl (x_X1_ofFighter a0 2) (fun r_88 => acl (x_X1_put r_88 a1) (fun r_91 => anl (x_X1_ofFighter a0 3) (fun r_100 => (if (1 : Int32) = 0 then acl (x_X1_put r_100 2) (fun r_104 => art 1) else acl (x_X1_put r_100 1) (fun r_113 => art 1))))))))))))
set_option maxHeartbeats 4000000 in
set_option maxRecDepth 100000 in
theorem n_X8_putOnScales (l : Launch) (G : gG) (Z : gC) (Q : Nat → Nat) (D : Nat × Nat) (T : va_W) (u u1 : MS) (r : Int32) (C1 C2 : Nat) (a0 : Int32) (a1 : Int32) (sz : Nat) (hF : x_X8_putOnScales a0 a1 u = some (r, u1, C1, C2)) : Met l yX8_putOnScales (Cond.code yX8_putOnScales cX8_putOnScales 5 (some .boolean) :: wK) { frames := 4, cells := C1, slots := C2, locals := 108 } (va_Pc [.ref (Q 4), .int a0, .int a1] (cPM G Z Q D T u sz)) (cQi G Q T u1 r (va_A (cW G Q D T u) sz)) C1 C2 (va_A (cW G Q D T u) sz) := by
  refine Met.ofW (cc := cX8_putOnScales) (maxL := 5) (ret := (some .boolean)) (by decide) rfl ?_
  intro p e s m args below meth c s₁ B hml hv
  obtain ⟨rfl, rfl, hP, hB, hD0, hE⟩ := hv
  have hr := B.returns
  have hlocks := B.notSynchronized
  have hts := atoms_spec (ws := Cond.code yX8_putOnScales cX8_putOnScales 5 (some .boolean) :: wK) B.pre
  have hD := hD0.self (sz := s.heap.size)
  have hA : ∀ q : Nat, s.heap.size ≤ q → va_A (cW G Q D T u) s.heap.size q := fun q h => Or.inr h
  generalize va_A (cW G Q D T u) s.heap.size = A at hD hA hE ⊢
  have hC : cX p c cX8_putOnScales 5 s m _ RX8 G Z A := ⟨B.exec, B.bytes, hml, findClass_of_methodNamed B.named, fun w h => hts w (List.mem_cons_of_mem _ h), hB, hE, hA⟩
  have hx := hC.1
  have hb := hC.2.1
  have hH : cH G Q D T A u s s.heap [] := ⟨hP, hD, va_S.rf⟩
  generalize hK1 : C1 = K1
  generalize hK2 : C2 = K2
  have hk1 : K1 = 0 + C1 := by omega
  have hk2 : K2 = 0 + C2 := by omega
  have hl := lv_entry ([.ref (Q 4), .int a0, .int a1]) (n := 5) (Nat.le_of_ble_eq_true rfl)
  rw [lg_entry_eq]
  generalize (lg_sl ([.ref (Q 4), .int a0, .int a1]) ++ List.replicate (5 - (lg_sl ([.ref (Q 4), .int a0, .int a1])).length) Slot.unset).toArray = ls at hl ⊢
  have hl : lv_has ls 5 [(0, .ref (Q 4)), (1, .int a0), (2, .int a1)] := hl
  unfold x_X8_putOnScales at hF
  refine lv_aload_n hx hb dX8_putOnScales_0 rfl (lv_at hl 0 rfl) ?_
  refine lv_iload_n hx hb dX8_putOnScales_1 rfl (lv_at hl 1 rfl) ?_
  obtain ⟨r_1, u_2, h_3, hF⟩ := anl_some hF
  refine ccV_iB (q0 := 4) (As := [.int a0]) (rest := []) hC hH (n_X8_classOf l G Z Q _ T u u_2 r_1 a0 _ h_3) rfl rfl ⟨wkc_X8_classOf, wka217, wka632, wka633, wka752⟩ kVX8_classOf ⟨Nat.le_of_ble_eq_true rfl, Nat.le_of_ble_eq_true rfl⟩ ⟨by show _ ≤ K1; omega, by show _ ≤ K2; omega⟩ rfl hl.1 rfl (Nat.le_of_ble_eq_true rfl) dX8_putOnScales_2 (fun D H locs hH => ?_)
  refine lv_istore_n (lv' := [(3, .int r_1), (0, .ref (Q 4)), (1, .int a0), (2, .int a1)]) hx hb dX8_putOnScales_5 rfl hl (by decide) rfl (fun ls hl => ?_)
  refine lv_iload_n hx hb dX8_putOnScales_6 rfl (lv_at hl 3 rfl) ?_
  refine lv_aload_n hx hb dX8_putOnScales_7 rfl (lv_at hl 1 rfl) ?_
  refine cg_X8_9 hC hH dX8_putOnScales_8 ?_
  refine lv_iload_n hx hb dX8_putOnScales_11 rfl (lv_at hl 0 rfl) ?_
  refine lv_iconst (v := 0) hx hb dX8_putOnScales_12 (by decide) ?_
  obtain ⟨r_4, u_5, h_6, hF⟩ := anl_some hF
  refine ccS_iB (As := [.int r_1, .int 0]) (rest := [.ref (Q 1), .int a1]) hC hH (n_X1_ofClass l G Z Q _ T u_2 u_5 r_4 r_1 0 _ h_6) ⟨wkc_X1_ofClass, wka226, wka435, wka745⟩ kSX1_ofClass ⟨Nat.le_of_ble_eq_true rfl, Nat.le_of_ble_eq_true rfl⟩ ⟨by show _ ≤ K1; omega, by show _ ≤ K2; omega⟩ rfl hl.1 rfl (Nat.le_of_ble_eq_true rfl) dX8_putOnScales_13 (fun D H locs hH => ?_)
  refine bat (i := 1) (j := 11) hC hH rfl rfl (by decide) wka216 ⟨Nat.le_of_ble_eq_true rfl, Nat.le_of_ble_eq_true rfl⟩ hl.1 (Nat.le_of_ble_eq_true rfl) ⟨by show _ ≤ K1; omega, by show _ ≤ K2; omega⟩ dX8_putOnScales_16 ?_
  obtain ⟨x_7, u_8, h_9, hF⟩ := anl_some hF
  obtain ⟨e_10, rfl⟩ := nGT_eq h_9
  refine gx_ti e_10 ?_
  refine lv_icmp_lt (tgt := 42) hx hb dX8_putOnScales_19 (by decide) (fun c_11 => ?_) (fun c_11 => ?_)
  · rw [if_pos c_11] at hF
    refine lv_iconst (v := 0) hx hb dX8_putOnScales_42 (by decide) ?_
    refine lv_istore (lv' := [(4, .int 0), (3, .int r_1), (0, .ref (Q 4)), (1, .int a0), (2, .int a1)]) hx hb dX8_putOnScales_43 hl (by decide) rfl (fun ls hl => ?_)
    refine lv_aload_n hx hb dX8_putOnScales_45 rfl (lv_at hl 2 rfl) ?_
    refine cg_X8_9 hC hH dX8_putOnScales_46 ?_
    refine lv_iload_n hx hb dX8_putOnScales_49 rfl (lv_at hl 3 rfl) ?_
    refine lv_iconst (v := 2) hx hb dX8_putOnScales_50 (by decide) ?_
    obtain ⟨r_12, u_13, h_14, hF⟩ := anl_some hF
    refine ccS_iB (As := [.int a0, .int 2]) (rest := [.ref (Q 1)]) hC hH (n_X1_ofFighter l G Z Q _ T u_5 u_13 r_12 a0 2 _ h_14) ⟨wkc_X1_ofFighter, wka218, wka436, wka745⟩ kSX1_ofFighter ⟨Nat.le_of_ble_eq_true rfl, Nat.le_of_ble_eq_true rfl⟩ ⟨by show _ ≤ K1; omega, by show _ ≤ K2; omega⟩ rfl hl.1 rfl (Nat.le_of_ble_eq_true rfl) dX8_putOnScales_51 (fun D H locs hH => ?_)
    refine lv_iload_n hx hb dX8_putOnScales_54 rfl (lv_at hl 4 rfl) ?_
    obtain ⟨r_15, u_16, k_18, k_19, k_20, k_21, h_17, hF, e_22, e_23⟩ := acl_some hF
    refine ccV_vA (q0 := 1) (As := [.int r_12, .int a1]) (rest := []) hC hH (n_X1_put l G Z Q _ T u_13 u_16 r_15 k_18 k_19 r_12 a1 _ h_17) rfl rfl ⟨wkc_X1_put, wka222, wka439, wka440, wka745⟩ kVX1_put ⟨Nat.le_of_ble_eq_true rfl, Nat.le_of_ble_eq_true rfl⟩ ⟨by show _ ≤ K1; omega, by show _ ≤ K2; omega⟩ rfl hl.1 rfl (Nat.le_of_ble_eq_true rfl) dX8_putOnScales_55 (fun D H locs hH => ?_)
    have hk1 := (hk1.trans (congrArg (_ + ·) e_22)).trans (Nat.add_assoc _ _ _).symm
    have hk2 := (hk2.trans (congrArg (_ + ·) e_23)).trans (Nat.add_assoc _ _ _).symm
    refine lv_aload_n hx hb dX8_putOnScales_58 rfl (lv_at hl 2 rfl) ?_
    refine cg_X8_9 hC hH dX8_putOnScales_59 ?_
    refine lv_iload_n hx hb dX8_putOnScales_62 rfl (lv_at hl 3 rfl) ?_
    refine lv_iconst (v := 3) hx hb dX8_putOnScales_63 (by decide) ?_
    obtain ⟨r_24, u_25, h_26, hF⟩ := anl_some hF
    refine ccS_iB (As := [.int a0, .int 3]) (rest := [.ref (Q 1)]) hC hH (n_X1_ofFighter l G Z Q _ T u_16 u_25 r_24 a0 3 _ h_26) ⟨wkc_X1_ofFighter, wka218, wka436, wka745⟩ kSX1_ofFighter ⟨Nat.le_of_ble_eq_true rfl, Nat.le_of_ble_eq_true rfl⟩ ⟨by show _ ≤ K1; omega, by show _ ≤ K2; omega⟩ rfl hl.1 rfl (Nat.le_of_ble_eq_true rfl) dX8_putOnScales_64 (fun D H locs hH => ?_)
    refine lv_iload hx hb dX8_putOnScales_67 (lv_at hl 0 rfl) ?_
    refine lv_if_eq (tgt := 76) hx hb dX8_putOnScales_69 (by decide) (fun c_27 => ?_) (fun c_27 => ?_)
    · rw [if_pos c_27] at hF
      refine lv_iconst (v := 2) hx hb dX8_putOnScales_76 (by decide) ?_
      obtain ⟨r_28, u_29, k_31, k_32, k_33, k_34, h_30, hF, e_35, e_36⟩ := acl_some hF
      refine ccV_vA (q0 := 1) (As := [.int r_24, .int 2]) (rest := []) hC hH (n_X1_put l G Z Q _ T u_25 u_29 r_28 k_31 k_32 r_24 2 _ h_30) rfl rfl ⟨wkc_X1_put, wka222, wka439, wka440, wka745⟩ kVX1_put ⟨Nat.le_of_ble_eq_true rfl, Nat.le_of_ble_eq_true rfl⟩ ⟨by show _ ≤ K1; omega, by show _ ≤ K2; omega⟩ rfl hl.1 rfl (Nat.le_of_ble_eq_true rfl) dX8_putOnScales_77 (fun D H locs hH => ?_)
      have hk1 := (hk1.trans (congrArg (_ + ·) e_35)).trans (Nat.add_assoc _ _ _).symm
      have hk2 := (hk2.trans (congrArg (_ + ·) e_36)).trans (Nat.add_assoc _ _ _).symm
      refine lv_iload hx hb dX8_putOnScales_80 (lv_at hl 0 rfl) ?_
      exact cr_zA hC hH hr rfl (art_eq hF) (by omega) (by omega) dX8_putOnScales_82 hlocks
    · rw [if_neg c_27] at hF
      refine lv_iconst (v := 1) hx hb dX8_putOnScales_72 (by decide) ?_
      refine lv_goto (tgt := 77) hx hb dX8_putOnScales_73 (by decide) ?_
      obtain ⟨r_37, u_38, k_40, k_41, k_42, k_43, h_39, hF, e_44, e_45⟩ := acl_some hF
      refine ccV_vA (q0 := 1) (As := [.int r_24, .int 1]) (rest := []) hC hH (n_X1_put l G Z Q _ T u_25 u_38 r_37 k_40 k_41 r_24 1 _ h_39) rfl rfl ⟨wkc_X1_put, wka222, wka439, wka440, wka745⟩ kVX1_put ⟨Nat.le_of_ble_eq_true rfl, Nat.le_of_ble_eq_true rfl⟩ ⟨by show _ ≤ K1; omega, by show _ ≤ K2; omega⟩ rfl hl.1 rfl (Nat.le_of_ble_eq_true rfl) dX8_putOnScales_77 (fun D H locs hH => ?_)
      have hk1 := (hk1.trans (congrArg (_ + ·) e_44)).trans (Nat.add_assoc _ _ _).symm
      have hk2 := (hk2.trans (congrArg (_ + ·) e_45)).trans (Nat.add_assoc _ _ _).symm
      refine lv_iload hx hb dX8_putOnScales_80 (lv_at hl 0 rfl) ?_
      exact cr_zA hC hH hr rfl (art_eq hF) (by omega) (by omega) dX8_putOnScales_82 hlocks
  · rw [if_neg c_11] at hF
    refine lv_iload_n hx hb dX8_putOnScales_22 rfl (lv_at hl 3 rfl) ?_
    refine lv_aload_n hx hb dX8_putOnScales_23 rfl (lv_at hl 1 rfl) ?_
    refine cg_X8_9 hC hH dX8_putOnScales_24 ?_
    refine lv_iload_n hx hb dX8_putOnScales_27 rfl (lv_at hl 0 rfl) ?_
    refine lv_iconst (v := 1) hx hb dX8_putOnScales_28 (by decide) ?_
    obtain ⟨r_46, u_47, h_48, hF⟩ := anl_some hF
    refine ccS_iB (As := [.int r_1, .int 1]) (rest := [.ref (Q 1), .int a1]) hC hH (n_X1_ofClass l G Z Q _ T u_5 u_47 r_46 r_1 1 _ h_48) ⟨wkc_X1_ofClass, wka226, wka435, wka745⟩ kSX1_ofClass ⟨Nat.le_of_ble_eq_true rfl, Nat.le_of_ble_eq_true rfl⟩ ⟨by show _ ≤ K1; omega, by show _ ≤ K2; omega⟩ rfl hl.1 rfl (Nat.le_of_ble_eq_true rfl) dX8_putOnScales_29 (fun D H locs hH => ?_)
    refine bat (i := 1) (j := 11) hC hH rfl rfl (by decide) wka216 ⟨Nat.le_of_ble_eq_true rfl, Nat.le_of_ble_eq_true rfl⟩ hl.1 (Nat.le_of_ble_eq_true rfl) ⟨by show _ ≤ K1; omega, by show _ ≤ K2; omega⟩ dX8_putOnScales_32 ?_
    obtain ⟨x_49, u_50, h_51, hF⟩ := anl_some hF
    obtain ⟨e_52, rfl⟩ := nGT_eq h_51
    refine gx_ti e_52 ?_
    refine lv_icmp_gt (tgt := 42) hx hb dX8_putOnScales_35 (by decide) (fun c_53 => ?_) (fun c_53 => ?_)
    · rw [if_pos c_53] at hF
      refine lv_iconst (v := 0) hx hb dX8_putOnScales_42 (by decide) ?_
      refine lv_istore (lv' := [(4, .int 0), (3, .int r_1), (0, .ref (Q 4)), (1, .int a0), (2, .int a1)]) hx hb dX8_putOnScales_43 hl (by decide) rfl (fun ls hl => ?_)
      refine lv_aload_n hx hb dX8_putOnScales_45 rfl (lv_at hl 2 rfl) ?_
      refine cg_X8_9 hC hH dX8_putOnScales_46 ?_
      refine lv_iload_n hx hb dX8_putOnScales_49 rfl (lv_at hl 3 rfl) ?_
      refine lv_iconst (v := 2) hx hb dX8_putOnScales_50 (by decide) ?_
      obtain ⟨r_54, u_55, h_56, hF⟩ := anl_some hF
      refine ccS_iB (As := [.int a0, .int 2]) (rest := [.ref (Q 1)]) hC hH (n_X1_ofFighter l G Z Q _ T u_47 u_55 r_54 a0 2 _ h_56) ⟨wkc_X1_ofFighter, wka218, wka436, wka745⟩ kSX1_ofFighter ⟨Nat.le_of_ble_eq_true rfl, Nat.le_of_ble_eq_true rfl⟩ ⟨by show _ ≤ K1; omega, by show _ ≤ K2; omega⟩ rfl hl.1 rfl (Nat.le_of_ble_eq_true rfl) dX8_putOnScales_51 (fun D H locs hH => ?_)
      refine lv_iload_n hx hb dX8_putOnScales_54 rfl (lv_at hl 4 rfl) ?_
      obtain ⟨r_57, u_58, k_60, k_61, k_62, k_63, h_59, hF, e_64, e_65⟩ := acl_some hF
      refine ccV_vA (q0 := 1) (As := [.int r_54, .int a1]) (rest := []) hC hH (n_X1_put l G Z Q _ T u_55 u_58 r_57 k_60 k_61 r_54 a1 _ h_59) rfl rfl ⟨wkc_X1_put, wka222, wka439, wka440, wka745⟩ kVX1_put ⟨Nat.le_of_ble_eq_true rfl, Nat.le_of_ble_eq_true rfl⟩ ⟨by show _ ≤ K1; omega, by show _ ≤ K2; omega⟩ rfl hl.1 rfl (Nat.le_of_ble_eq_true rfl) dX8_putOnScales_55 (fun D H locs hH => ?_)
      have hk1 := (hk1.trans (congrArg (_ + ·) e_64)).trans (Nat.add_assoc _ _ _).symm
      have hk2 := (hk2.trans (congrArg (_ + ·) e_65)).trans (Nat.add_assoc _ _ _).symm
      refine lv_aload_n hx hb dX8_putOnScales_58 rfl (lv_at hl 2 rfl) ?_
      refine cg_X8_9 hC hH dX8_putOnScales_59 ?_
      refine lv_iload_n hx hb dX8_putOnScales_62 rfl (lv_at hl 3 rfl) ?_
      refine lv_iconst (v := 3) hx hb dX8_putOnScales_63 (by decide) ?_
      obtain ⟨r_66, u_67, h_68, hF⟩ := anl_some hF
      refine ccS_iB (As := [.int a0, .int 3]) (rest := [.ref (Q 1)]) hC hH (n_X1_ofFighter l G Z Q _ T u_58 u_67 r_66 a0 3 _ h_68) ⟨wkc_X1_ofFighter, wka218, wka436, wka745⟩ kSX1_ofFighter ⟨Nat.le_of_ble_eq_true rfl, Nat.le_of_ble_eq_true rfl⟩ ⟨by show _ ≤ K1; omega, by show _ ≤ K2; omega⟩ rfl hl.1 rfl (Nat.le_of_ble_eq_true rfl) dX8_putOnScales_64 (fun D H locs hH => ?_)
      refine lv_iload hx hb dX8_putOnScales_67 (lv_at hl 0 rfl) ?_
      refine lv_if_eq (tgt := 76) hx hb dX8_putOnScales_69 (by decide) (fun c_69 => ?_) (fun c_69 => ?_)
      · rw [if_pos c_69] at hF
        refine lv_iconst (v := 2) hx hb dX8_putOnScales_76 (by decide) ?_
        obtain ⟨r_70, u_71, k_73, k_74, k_75, k_76, h_72, hF, e_77, e_78⟩ := acl_some hF
        refine ccV_vA (q0 := 1) (As := [.int r_66, .int 2]) (rest := []) hC hH (n_X1_put l G Z Q _ T u_67 u_71 r_70 k_73 k_74 r_66 2 _ h_72) rfl rfl ⟨wkc_X1_put, wka222, wka439, wka440, wka745⟩ kVX1_put ⟨Nat.le_of_ble_eq_true rfl, Nat.le_of_ble_eq_true rfl⟩ ⟨by show _ ≤ K1; omega, by show _ ≤ K2; omega⟩ rfl hl.1 rfl (Nat.le_of_ble_eq_true rfl) dX8_putOnScales_77 (fun D H locs hH => ?_)
        have hk1 := (hk1.trans (congrArg (_ + ·) e_77)).trans (Nat.add_assoc _ _ _).symm
        have hk2 := (hk2.trans (congrArg (_ + ·) e_78)).trans (Nat.add_assoc _ _ _).symm
        refine lv_iload hx hb dX8_putOnScales_80 (lv_at hl 0 rfl) ?_
        exact cr_zA hC hH hr rfl (art_eq hF) (by omega) (by omega) dX8_putOnScales_82 hlocks
      · rw [if_neg c_69] at hF
        refine lv_iconst (v := 1) hx hb dX8_putOnScales_72 (by decide) ?_
        refine lv_goto (tgt := 77) hx hb dX8_putOnScales_73 (by decide) ?_
        obtain ⟨r_79, u_80, k_82, k_83, k_84, k_85, h_81, hF, e_86, e_87⟩ := acl_some hF
        refine ccV_vA (q0 := 1) (As := [.int r_66, .int 1]) (rest := []) hC hH (n_X1_put l G Z Q _ T u_67 u_80 r_79 k_82 k_83 r_66 1 _ h_81) rfl rfl ⟨wkc_X1_put, wka222, wka439, wka440, wka745⟩ kVX1_put ⟨Nat.le_of_ble_eq_true rfl, Nat.le_of_ble_eq_true rfl⟩ ⟨by show _ ≤ K1; omega, by show _ ≤ K2; omega⟩ rfl hl.1 rfl (Nat.le_of_ble_eq_true rfl) dX8_putOnScales_77 (fun D H locs hH => ?_)
        have hk1 := (hk1.trans (congrArg (_ + ·) e_86)).trans (Nat.add_assoc _ _ _).symm
        have hk2 := (hk2.trans (congrArg (_ + ·) e_87)).trans (Nat.add_assoc _ _ _).symm
        refine lv_iload hx hb dX8_putOnScales_80 (lv_at hl 0 rfl) ?_
        exact cr_zA hC hH hr rfl (art_eq hF) (by omega) (by omega) dX8_putOnScales_82 hlocks
    · rw [if_neg c_53] at hF
      refine lv_iconst (v := 1) hx hb dX8_putOnScales_38 (by decide) ?_
      refine lv_goto (tgt := 43) hx hb dX8_putOnScales_39 (by decide) ?_
      refine lv_istore (lv' := [(4, .int 1), (3, .int r_1), (0, .ref (Q 4)), (1, .int a0), (2, .int a1)]) hx hb dX8_putOnScales_43 hl (by decide) rfl (fun ls hl => ?_)
      refine lv_aload_n hx hb dX8_putOnScales_45 rfl (lv_at hl 2 rfl) ?_
      refine cg_X8_9 hC hH dX8_putOnScales_46 ?_
      refine lv_iload_n hx hb dX8_putOnScales_49 rfl (lv_at hl 3 rfl) ?_
      refine lv_iconst (v := 2) hx hb dX8_putOnScales_50 (by decide) ?_
      obtain ⟨r_88, u_89, h_90, hF⟩ := anl_some hF
      refine ccS_iB (As := [.int a0, .int 2]) (rest := [.ref (Q 1)]) hC hH (n_X1_ofFighter l G Z Q _ T u_47 u_89 r_88 a0 2 _ h_90) ⟨wkc_X1_ofFighter, wka218, wka436, wka745⟩ kSX1_ofFighter ⟨Nat.le_of_ble_eq_true rfl, Nat.le_of_ble_eq_true rfl⟩ ⟨by show _ ≤ K1; omega, by show _ ≤ K2; omega⟩ rfl hl.1 rfl (Nat.le_of_ble_eq_true rfl) dX8_putOnScales_51 (fun D H locs hH => ?_)
      refine lv_iload_n hx hb dX8_putOnScales_54 rfl (lv_at hl 4 rfl) ?_
      obtain ⟨r_91, u_92, k_94, k_95, k_96, k_97, h_93, hF, e_98, e_99⟩ := acl_some hF
      refine ccV_vA (q0 := 1) (As := [.int r_88, .int a1]) (rest := []) hC hH (n_X1_put l G Z Q _ T u_89 u_92 r_91 k_94 k_95 r_88 a1 _ h_93) rfl rfl ⟨wkc_X1_put, wka222, wka439, wka440, wka745⟩ kVX1_put ⟨Nat.le_of_ble_eq_true rfl, Nat.le_of_ble_eq_true rfl⟩ ⟨by show _ ≤ K1; omega, by show _ ≤ K2; omega⟩ rfl hl.1 rfl (Nat.le_of_ble_eq_true rfl) dX8_putOnScales_55 (fun D H locs hH => ?_)
      have hk1 := (hk1.trans (congrArg (_ + ·) e_98)).trans (Nat.add_assoc _ _ _).symm
      have hk2 := (hk2.trans (congrArg (_ + ·) e_99)).trans (Nat.add_assoc _ _ _).symm
      refine lv_aload_n hx hb dX8_putOnScales_58 rfl (lv_at hl 2 rfl) ?_
      refine cg_X8_9 hC hH dX8_putOnScales_59 ?_
      refine lv_iload_n hx hb dX8_putOnScales_62 rfl (lv_at hl 3 rfl) ?_
      refine lv_iconst (v := 3) hx hb dX8_putOnScales_63 (by decide) ?_
      obtain ⟨r_100, u_101, h_102, hF⟩ := anl_some hF
      refine ccS_iB (As := [.int a0, .int 3]) (rest := [.ref (Q 1)]) hC hH (n_X1_ofFighter l G Z Q _ T u_92 u_101 r_100 a0 3 _ h_102) ⟨wkc_X1_ofFighter, wka218, wka436, wka745⟩ kSX1_ofFighter ⟨Nat.le_of_ble_eq_true rfl, Nat.le_of_ble_eq_true rfl⟩ ⟨by show _ ≤ K1; omega, by show _ ≤ K2; omega⟩ rfl hl.1 rfl (Nat.le_of_ble_eq_true rfl) dX8_putOnScales_64 (fun D H locs hH => ?_)
      refine lv_iload hx hb dX8_putOnScales_67 (lv_at hl 0 rfl) ?_
      refine lv_if_eq (tgt := 76) hx hb dX8_putOnScales_69 (by decide) (fun c_103 => ?_) (fun c_103 => ?_)
      · rw [if_pos c_103] at hF
        refine lv_iconst (v := 2) hx hb dX8_putOnScales_76 (by decide) ?_
        obtain ⟨r_104, u_105, k_107, k_108, k_109, k_110, h_106, hF, e_111, e_112⟩ := acl_some hF
        refine ccV_vA (q0 := 1) (As := [.int r_100, .int 2]) (rest := []) hC hH (n_X1_put l G Z Q _ T u_101 u_105 r_104 k_107 k_108 r_100 2 _ h_106) rfl rfl ⟨wkc_X1_put, wka222, wka439, wka440, wka745⟩ kVX1_put ⟨Nat.le_of_ble_eq_true rfl, Nat.le_of_ble_eq_true rfl⟩ ⟨by show _ ≤ K1; omega, by show _ ≤ K2; omega⟩ rfl hl.1 rfl (Nat.le_of_ble_eq_true rfl) dX8_putOnScales_77 (fun D H locs hH => ?_)
        have hk1 := (hk1.trans (congrArg (_ + ·) e_111)).trans (Nat.add_assoc _ _ _).symm
        have hk2 := (hk2.trans (congrArg (_ + ·) e_112)).trans (Nat.add_assoc _ _ _).symm
        refine lv_iload hx hb dX8_putOnScales_80 (lv_at hl 0 rfl) ?_
        exact cr_zA hC hH hr rfl (art_eq hF) (by omega) (by omega) dX8_putOnScales_82 hlocks
      · rw [if_neg c_103] at hF
        refine lv_iconst (v := 1) hx hb dX8_putOnScales_72 (by decide) ?_
        refine lv_goto (tgt := 77) hx hb dX8_putOnScales_73 (by decide) ?_
        obtain ⟨r_113, u_114, k_116, k_117, k_118, k_119, h_115, hF, e_120, e_121⟩ := acl_some hF
        refine ccV_vA (q0 := 1) (As := [.int r_100, .int 1]) (rest := []) hC hH (n_X1_put l G Z Q _ T u_101 u_114 r_113 k_116 k_117 r_100 1 _ h_115) rfl rfl ⟨wkc_X1_put, wka222, wka439, wka440, wka745⟩ kVX1_put ⟨Nat.le_of_ble_eq_true rfl, Nat.le_of_ble_eq_true rfl⟩ ⟨by show _ ≤ K1; omega, by show _ ≤ K2; omega⟩ rfl hl.1 rfl (Nat.le_of_ble_eq_true rfl) dX8_putOnScales_77 (fun D H locs hH => ?_)
        have hk1 := (hk1.trans (congrArg (_ + ·) e_120)).trans (Nat.add_assoc _ _ _).symm
        have hk2 := (hk2.trans (congrArg (_ + ·) e_121)).trans (Nat.add_assoc _ _ _).symm
        refine lv_iload hx hb dX8_putOnScales_80 (lv_at hl 0 rfl) ?_
        exact cr_zA hC hH hr rfl (art_eq hF) (by omega) (by omega) dX8_putOnScales_82 hlocks
def x_X11_limit (a0 : Int32) (a1 : Int32) (a2 : Int32) : AG Int32 := anl (x_X11_isClass a0) (fun r_1 => (if r_1 = 0 then art (-2) else anl (x_X11_isGrams a1) (fun r_5 => (if r_5 = 0 then art (-2) else anl (x_X11_isGrams a2) (fun r_9 => (if r_9 = 0 then art (-2) else (if a1 ≤ a2 then anl (x_X0_isDrawn a0) (fun r_14 => (if r_14 = 0 then anl (x_X8_wasAnyAtScales a0) (fun r_18 => (if r_18 = 0 then anl (x_X1_isFull) (fun r_22 => (if r_22 = 0 then anl (x_X1_openEntry) (fun r_26 => anl (x_X1_ofClass a0 0) (fun r_29 => acl (x_X1_put r_29 a1) (fun r_32 => anl (x_X1_ofClass a0 1) (fun r_41 => acl (x_X1_put r_41 a2) (fun r_44 => art 1))))) else art (-4))) else art (-3))) else art (-3))) else art (-2))))))))
set_option maxHeartbeats 4000000 in
set_option maxRecDepth 100000 in
theorem n_X11_limit (l : Launch) (G : gG) (Z : gC) (Q : Nat → Nat) (D : Nat × Nat) (T : va_W) (u u1 : MS) (r : Int32) (C1 C2 : Nat) (a0 : Int32) (a1 : Int32) (a2 : Int32) (sz : Nat) (hF : x_X11_limit a0 a1 a2 u = some (r, u1, C1, C2)) : Met l yX11_limit (Cond.code yX11_limit cX11_limit 4 (some .int) :: wK) { frames := 4, cells := C1, slots := C2, locals := 108 } (va_Pc [.ref (Q 0), .int a0, .int a1, .int a2] (cPM G Z Q D T u sz)) (cQi G Q T u1 r (va_A (cW G Q D T u) sz)) C1 C2 (va_A (cW G Q D T u) sz) := by
  refine Met.ofW (cc := cX11_limit) (maxL := 4) (ret := (some .int)) (by decide) rfl ?_
  intro p e s m args below meth c s₁ B hml hv
  obtain ⟨rfl, rfl, hP, hB, hD0, hE⟩ := hv
  have hr := B.returns
  have hlocks := B.notSynchronized
  have hts := atoms_spec (ws := Cond.code yX11_limit cX11_limit 4 (some .int) :: wK) B.pre
  have hD := hD0.self (sz := s.heap.size)
  have hA : ∀ q : Nat, s.heap.size ≤ q → va_A (cW G Q D T u) s.heap.size q := fun q h => Or.inr h
  generalize va_A (cW G Q D T u) s.heap.size = A at hD hA hE ⊢
  have hC : cX p c cX11_limit 4 s m _ RX11 G Z A := ⟨B.exec, B.bytes, hml, findClass_of_methodNamed B.named, fun w h => hts w (List.mem_cons_of_mem _ h), hB, hE, hA⟩
  have hx := hC.1
  have hb := hC.2.1
  have hH : cH G Q D T A u s s.heap [] := ⟨hP, hD, va_S.rf⟩
  generalize hK1 : C1 = K1
  generalize hK2 : C2 = K2
  have hk1 : K1 = 0 + C1 := by omega
  have hk2 : K2 = 0 + C2 := by omega
  have hl := lv_entry ([.ref (Q 0), .int a0, .int a1, .int a2]) (n := 4) (Nat.le_of_ble_eq_true rfl)
  rw [lg_entry_eq]
  generalize (lg_sl ([.ref (Q 0), .int a0, .int a1, .int a2]) ++ List.replicate (4 - (lg_sl ([.ref (Q 0), .int a0, .int a1, .int a2])).length) Slot.unset).toArray = ls at hl ⊢
  have hl : lv_has ls 4 [(0, .ref (Q 0)), (1, .int a0), (2, .int a1), (3, .int a2)] := hl
  unfold x_X11_limit at hF
  refine lv_iload_n hx hb dX11_limit_0 rfl (lv_at hl 1 rfl) ?_
  obtain ⟨r_1, u_2, h_3, hF⟩ := anl_some hF
  refine ccS_iB (As := [.int a0]) (rest := []) hC hH (n_X11_isClass l G Z Q _ T u u_2 r_1 a0 _ h_3) ⟨wkc_X11_isClass, wka207, wka728, wka755⟩ kSX11_isClass ⟨Nat.le_of_ble_eq_true rfl, Nat.le_of_ble_eq_true rfl⟩ ⟨by show _ ≤ K1; omega, by show _ ≤ K2; omega⟩ rfl hl.1 rfl (Nat.le_of_ble_eq_true rfl) dX11_limit_1 (fun D H locs hH => ?_)
  refine lv_if_eq (tgt := 26) hx hb dX11_limit_4 (by decide) (fun c_4 => ?_) (fun c_4 => ?_)
  · rw [if_pos c_4] at hF
    refine lv_bipush (v := (-2)) hx hb dX11_limit_26 (by decide) ?_
    exact cr_iA hC hH hr (art_eq hF) (by omega) (by omega) dX11_limit_28 hlocks
  · rw [if_neg c_4] at hF
    refine lv_iload_n hx hb dX11_limit_7 rfl (lv_at hl 2 rfl) ?_
    obtain ⟨r_5, u_6, h_7, hF⟩ := anl_some hF
    refine ccS_iB (As := [.int a1]) (rest := []) hC hH (n_X11_isGrams l G Z Q _ T u_2 u_6 r_5 a1 _ h_7) ⟨wkc_X11_isGrams, wka208, wka731, wka755⟩ kSX11_isGrams ⟨Nat.le_of_ble_eq_true rfl, Nat.le_of_ble_eq_true rfl⟩ ⟨by show _ ≤ K1; omega, by show _ ≤ K2; omega⟩ rfl hl.1 rfl (Nat.le_of_ble_eq_true rfl) dX11_limit_8 (fun D H locs hH => ?_)
    refine lv_if_eq (tgt := 26) hx hb dX11_limit_11 (by decide) (fun c_8 => ?_) (fun c_8 => ?_)
    · rw [if_pos c_8] at hF
      refine lv_bipush (v := (-2)) hx hb dX11_limit_26 (by decide) ?_
      exact cr_iA hC hH hr (art_eq hF) (by omega) (by omega) dX11_limit_28 hlocks
    · rw [if_neg c_8] at hF
      refine lv_iload_n hx hb dX11_limit_14 rfl (lv_at hl 3 rfl) ?_
      obtain ⟨r_9, u_10, h_11, hF⟩ := anl_some hF
      refine ccS_iB (As := [.int a2]) (rest := []) hC hH (n_X11_isGrams l G Z Q _ T u_6 u_10 r_9 a2 _ h_11) ⟨wkc_X11_isGrams, wka208, wka731, wka755⟩ kSX11_isGrams ⟨Nat.le_of_ble_eq_true rfl, Nat.le_of_ble_eq_true rfl⟩ ⟨by show _ ≤ K1; omega, by show _ ≤ K2; omega⟩ rfl hl.1 rfl (Nat.le_of_ble_eq_true rfl) dX11_limit_15 (fun D H locs hH => ?_)
      refine lv_if_eq (tgt := 26) hx hb dX11_limit_18 (by decide) (fun c_12 => ?_) (fun c_12 => ?_)
      · rw [if_pos c_12] at hF
        refine lv_bipush (v := (-2)) hx hb dX11_limit_26 (by decide) ?_
        exact cr_iA hC hH hr (art_eq hF) (by omega) (by omega) dX11_limit_28 hlocks
      · rw [if_neg c_12] at hF
        refine lv_iload_n hx hb dX11_limit_21 rfl (lv_at hl 2 rfl) ?_
        refine lv_iload_n hx hb dX11_limit_22 rfl (lv_at hl 3 rfl) ?_
        refine lv_icmp_le (tgt := 29) hx hb dX11_limit_23 (by decide) (fun c_13 => ?_) (fun c_13 => ?_)
        · rw [if_pos c_13] at hF
          refine lv_aload_n hx hb dX11_limit_29 rfl (lv_at hl 0 rfl) ?_
          refine cg_X11_51 hC hH dX11_limit_30 ?_
          refine lv_iload_n hx hb dX11_limit_33 rfl (lv_at hl 1 rfl) ?_
          obtain ⟨r_14, u_15, h_16, hF⟩ := anl_some hF
          refine ccV_iB (q0 := 6) (As := [.int a0]) (rest := []) hC hH (n_X0_isDrawn l G Z Q _ T u_10 u_15 r_14 a0 _ h_16) rfl rfl ⟨wkc_X0_isDrawn, wka210, wka392, wka393, wka744⟩ kVX0_isDrawn ⟨Nat.le_of_ble_eq_true rfl, Nat.le_of_ble_eq_true rfl⟩ ⟨by show _ ≤ K1; omega, by show _ ≤ K2; omega⟩ rfl hl.1 rfl (Nat.le_of_ble_eq_true rfl) dX11_limit_34 (fun D H locs hH => ?_)
          refine lv_if_ne (tgt := 51) hx hb dX11_limit_37 (by decide) (fun c_17 => ?_) (fun c_17 => ?_)
          · rw [if_neg c_17] at hF
            refine lv_bipush (v := (-3)) hx hb dX11_limit_51 (by decide) ?_
            exact cr_iA hC hH hr (art_eq hF) (by omega) (by omega) dX11_limit_53 hlocks
          · rw [if_pos c_17] at hF
            refine lv_aload_n hx hb dX11_limit_40 rfl (lv_at hl 0 rfl) ?_
            refine cg_X11_37 hC hH dX11_limit_41 ?_
            refine lv_iload_n hx hb dX11_limit_44 rfl (lv_at hl 1 rfl) ?_
            obtain ⟨r_18, u_19, h_20, hF⟩ := anl_some hF
            refine ccV_iB (q0 := 4) (As := [.int a0]) (rest := []) hC hH (n_X8_wasAnyAtScales l G Z Q _ T u_15 u_19 r_18 a0 _ h_20) rfl rfl ⟨wkc_X8_wasAnyAtScales, wka214, wka638, wka639, wka752⟩ kVX8_wasAnyAtScales ⟨Nat.le_of_ble_eq_true rfl, Nat.le_of_ble_eq_true rfl⟩ ⟨by show _ ≤ K1; omega, by show _ ≤ K2; omega⟩ rfl hl.1 rfl (Nat.le_of_ble_eq_true rfl) dX11_limit_45 (fun D H locs hH => ?_)
            refine lv_if_eq (tgt := 54) hx hb dX11_limit_48 (by decide) (fun c_21 => ?_) (fun c_21 => ?_)
            · rw [if_pos c_21] at hF
              refine lv_aload_n hx hb dX11_limit_54 rfl (lv_at hl 0 rfl) ?_
              refine cg_X11_10 hC hH dX11_limit_55 ?_
              obtain ⟨r_22, u_23, h_24, hF⟩ := anl_some hF
              refine ccV_iB (q0 := 1) (As := []) (rest := []) hC hH (n_X1_isFull l G Z Q _ T u_19 u_23 r_22 _ h_24) rfl rfl ⟨wkc_X1_isFull, wka192, wka441, wka442, wka745⟩ kVX1_isFull ⟨Nat.le_of_ble_eq_true rfl, Nat.le_of_ble_eq_true rfl⟩ ⟨by show _ ≤ K1; omega, by show _ ≤ K2; omega⟩ rfl hl.1 rfl (Nat.le_of_ble_eq_true rfl) dX11_limit_58 (fun D H locs hH => ?_)
              refine lv_if_eq (tgt := 67) hx hb dX11_limit_61 (by decide) (fun c_25 => ?_) (fun c_25 => ?_)
              · rw [if_pos c_25] at hF
                refine lv_aload_n hx hb dX11_limit_67 rfl (lv_at hl 0 rfl) ?_
                refine cg_X11_10 hC hH dX11_limit_68 ?_
                obtain ⟨r_26, u_27, h_28, hF⟩ := anl_some hF
                refine ccV_vB (q0 := 1) (As := []) (rest := []) hC hH (n_X1_openEntry l G Z Q _ T u_23 u_27 r_26 _ h_28) rfl rfl ⟨wkc_X1_openEntry, wka193, wka443, wka444, wka745⟩ kVX1_openEntry ⟨Nat.le_of_ble_eq_true rfl, Nat.le_of_ble_eq_true rfl⟩ ⟨by show _ ≤ K1; omega, by show _ ≤ K2; omega⟩ rfl hl.1 rfl (Nat.le_of_ble_eq_true rfl) dX11_limit_71 (fun D H locs hH => ?_)
                refine lv_aload_n hx hb dX11_limit_74 rfl (lv_at hl 0 rfl) ?_
                refine cg_X11_10 hC hH dX11_limit_75 ?_
                refine lv_iload_n hx hb dX11_limit_78 rfl (lv_at hl 1 rfl) ?_
                refine lv_iconst (v := 0) hx hb dX11_limit_79 (by decide) ?_
                obtain ⟨r_29, u_30, h_31, hF⟩ := anl_some hF
                refine ccS_iB (As := [.int a0, .int 0]) (rest := [.ref (Q 1)]) hC hH (n_X1_ofClass l G Z Q _ T u_27 u_30 r_29 a0 0 _ h_31) ⟨wkc_X1_ofClass, wka219, wka435, wka745⟩ kSX1_ofClass ⟨Nat.le_of_ble_eq_true rfl, Nat.le_of_ble_eq_true rfl⟩ ⟨by show _ ≤ K1; omega, by show _ ≤ K2; omega⟩ rfl hl.1 rfl (Nat.le_of_ble_eq_true rfl) dX11_limit_80 (fun D H locs hH => ?_)
                refine lv_iload_n hx hb dX11_limit_83 rfl (lv_at hl 2 rfl) ?_
                obtain ⟨r_32, u_33, k_35, k_36, k_37, k_38, h_34, hF, e_39, e_40⟩ := acl_some hF
                refine ccV_vA (q0 := 1) (As := [.int r_29, .int a1]) (rest := []) hC hH (n_X1_put l G Z Q _ T u_30 u_33 r_32 k_35 k_36 r_29 a1 _ h_34) rfl rfl ⟨wkc_X1_put, wka201, wka439, wka440, wka745⟩ kVX1_put ⟨Nat.le_of_ble_eq_true rfl, Nat.le_of_ble_eq_true rfl⟩ ⟨by show _ ≤ K1; omega, by show _ ≤ K2; omega⟩ rfl hl.1 rfl (Nat.le_of_ble_eq_true rfl) dX11_limit_84 (fun D H locs hH => ?_)
                have hk1 := (hk1.trans (congrArg (_ + ·) e_39)).trans (Nat.add_assoc _ _ _).symm
                have hk2 := (hk2.trans (congrArg (_ + ·) e_40)).trans (Nat.add_assoc _ _ _).symm
                refine lv_aload_n hx hb dX11_limit_87 rfl (lv_at hl 0 rfl) ?_
                refine cg_X11_10 hC hH dX11_limit_88 ?_
                refine lv_iload_n hx hb dX11_limit_91 rfl (lv_at hl 1 rfl) ?_
                refine lv_iconst (v := 1) hx hb dX11_limit_92 (by decide) ?_
                obtain ⟨r_41, u_42, h_43, hF⟩ := anl_some hF
                refine ccS_iB (As := [.int a0, .int 1]) (rest := [.ref (Q 1)]) hC hH (n_X1_ofClass l G Z Q _ T u_33 u_42 r_41 a0 1 _ h_43) ⟨wkc_X1_ofClass, wka219, wka435, wka745⟩ kSX1_ofClass ⟨Nat.le_of_ble_eq_true rfl, Nat.le_of_ble_eq_true rfl⟩ ⟨by show _ ≤ K1; omega, by show _ ≤ K2; omega⟩ rfl hl.1 rfl (Nat.le_of_ble_eq_true rfl) dX11_limit_93 (fun D H locs hH => ?_)
                refine lv_iload_n hx hb dX11_limit_96 rfl (lv_at hl 3 rfl) ?_
                obtain ⟨r_44, u_45, k_47, k_48, k_49, k_50, h_46, hF, e_51, e_52⟩ := acl_some hF
                refine ccV_vA (q0 := 1) (As := [.int r_41, .int a2]) (rest := []) hC hH (n_X1_put l G Z Q _ T u_42 u_45 r_44 k_47 k_48 r_41 a2 _ h_46) rfl rfl ⟨wkc_X1_put, wka201, wka439, wka440, wka745⟩ kVX1_put ⟨Nat.le_of_ble_eq_true rfl, Nat.le_of_ble_eq_true rfl⟩ ⟨by show _ ≤ K1; omega, by show _ ≤ K2; omega⟩ rfl hl.1 rfl (Nat.le_of_ble_eq_true rfl) dX11_limit_97 (fun D H locs hH => ?_)
                have hk1 := (hk1.trans (congrArg (_ + ·) e_51)).trans (Nat.add_assoc _ _ _).symm
                have hk2 := (hk2.trans (congrArg (_ + ·) e_52)).trans (Nat.add_assoc _ _ _).symm
                refine lv_iconst (v := 1) hx hb dX11_limit_100 (by decide) ?_
                exact cr_iA hC hH hr (art_eq hF) (by omega) (by omega) dX11_limit_101 hlocks
              · rw [if_neg c_25] at hF
                refine lv_bipush (v := (-4)) hx hb dX11_limit_64 (by decide) ?_
                exact cr_iA hC hH hr (art_eq hF) (by omega) (by omega) dX11_limit_66 hlocks
            · rw [if_neg c_21] at hF
              refine lv_bipush (v := (-3)) hx hb dX11_limit_51 (by decide) ?_
              exact cr_iA hC hH hr (art_eq hF) (by omega) (by omega) dX11_limit_53 hlocks
        · rw [if_neg c_13] at hF
          refine lv_bipush (v := (-2)) hx hb dX11_limit_26 (by decide) ?_
          exact cr_iA hC hH hr (art_eq hF) (by omega) (by omega) dX11_limit_28 hlocks
def x_X11_enter (a0 : Int32) (a1 : Int32) : AG Int32 := (if a0 < 0 then art (-2) else (if 16 ≤ a0 then art (-2) else anl (x_X11_isClass a1) (fun r_3 => (if r_3 = 0 then art (-2) else anl (x_X0_isDrawn a1) (fun r_7 => (if r_7 = 0 then anl (x_X8_people) (fun r_11 => (if 96 ≤ r_11 then art (-4) else anl (x_X1_isFull) (fun r_15 => (if r_15 = 0 then anl (x_X1_openEntry) (fun r_19 => acl (x_X8_add a0 a1) (fun r_22 => art r_22)) else art (-4))))) else art (-3)))))))
set_option maxHeartbeats 4000000 in
set_option maxRecDepth 100000 in
theorem n_X11_enter (l : Launch) (G : gG) (Z : gC) (Q : Nat → Nat) (D : Nat × Nat) (T : va_W) (u u1 : MS) (r : Int32) (C1 C2 : Nat) (a0 : Int32) (a1 : Int32) (sz : Nat) (hF : x_X11_enter a0 a1 u = some (r, u1, C1, C2)) : Met l yX11_enter (Cond.code yX11_enter cX11_enter 3 (some .int) :: wK) { frames := 5, cells := C1, slots := C2, locals := 131 } (va_Pc [.ref (Q 0), .int a0, .int a1] (cPM G Z Q D T u sz)) (cQi G Q T u1 r (va_A (cW G Q D T u) sz)) C1 C2 (va_A (cW G Q D T u) sz) := by
  refine Met.ofW (cc := cX11_enter) (maxL := 3) (ret := (some .int)) (by decide) rfl ?_
  intro p e s m args below meth c s₁ B hml hv
  obtain ⟨rfl, rfl, hP, hB, hD0, hE⟩ := hv
  have hr := B.returns
  have hlocks := B.notSynchronized
  have hts := atoms_spec (ws := Cond.code yX11_enter cX11_enter 3 (some .int) :: wK) B.pre
  have hD := hD0.self (sz := s.heap.size)
  have hA : ∀ q : Nat, s.heap.size ≤ q → va_A (cW G Q D T u) s.heap.size q := fun q h => Or.inr h
  generalize va_A (cW G Q D T u) s.heap.size = A at hD hA hE ⊢
  have hC : cX p c cX11_enter 3 s m _ RX11 G Z A := ⟨B.exec, B.bytes, hml, findClass_of_methodNamed B.named, fun w h => hts w (List.mem_cons_of_mem _ h), hB, hE, hA⟩
  have hx := hC.1
  have hb := hC.2.1
  have hH : cH G Q D T A u s s.heap [] := ⟨hP, hD, va_S.rf⟩
  generalize hK1 : C1 = K1
  generalize hK2 : C2 = K2
  have hk1 : K1 = 0 + C1 := by omega
  have hk2 : K2 = 0 + C2 := by omega
  have hl := lv_entry ([.ref (Q 0), .int a0, .int a1]) (n := 3) (Nat.le_of_ble_eq_true rfl)
  rw [lg_entry_eq]
  generalize (lg_sl ([.ref (Q 0), .int a0, .int a1]) ++ List.replicate (3 - (lg_sl ([.ref (Q 0), .int a0, .int a1])).length) Slot.unset).toArray = ls at hl ⊢
  have hl : lv_has ls 3 [(0, .ref (Q 0)), (1, .int a0), (2, .int a1)] := hl
  unfold x_X11_enter at hF
  refine lv_iload_n hx hb dX11_enter_0 rfl (lv_at hl 1 rfl) ?_
  refine lv_if_lt (tgt := 17) hx hb dX11_enter_1 (by decide) (fun c_1 => ?_) (fun c_1 => ?_)
  · rw [if_pos c_1] at hF
    refine lv_bipush (v := (-2)) hx hb dX11_enter_17 (by decide) ?_
    exact cr_iA hC hH hr (art_eq hF) (by omega) (by omega) dX11_enter_19 hlocks
  · rw [if_neg c_1] at hF
    refine lv_iload_n hx hb dX11_enter_4 rfl (lv_at hl 1 rfl) ?_
    refine lv_bipush (v := 16) hx hb dX11_enter_5 (by decide) ?_
    refine lv_icmp_ge (tgt := 17) hx hb dX11_enter_7 (by decide) (fun c_2 => ?_) (fun c_2 => ?_)
    · rw [if_pos c_2] at hF
      refine lv_bipush (v := (-2)) hx hb dX11_enter_17 (by decide) ?_
      exact cr_iA hC hH hr (art_eq hF) (by omega) (by omega) dX11_enter_19 hlocks
    · rw [if_neg c_2] at hF
      refine lv_iload_n hx hb dX11_enter_10 rfl (lv_at hl 2 rfl) ?_
      obtain ⟨r_3, u_4, h_5, hF⟩ := anl_some hF
      refine ccS_iB (As := [.int a1]) (rest := []) hC hH (n_X11_isClass l G Z Q _ T u u_4 r_3 a1 _ h_5) ⟨wkc_X11_isClass, wka207, wka728, wka755⟩ kSX11_isClass ⟨Nat.le_of_ble_eq_true rfl, Nat.le_of_ble_eq_true rfl⟩ ⟨by show _ ≤ K1; omega, by show _ ≤ K2; omega⟩ rfl hl.1 rfl (Nat.le_of_ble_eq_true rfl) dX11_enter_11 (fun D H locs hH => ?_)
      refine lv_if_ne (tgt := 20) hx hb dX11_enter_14 (by decide) (fun c_6 => ?_) (fun c_6 => ?_)
      · rw [if_neg c_6] at hF
        refine lv_aload_n hx hb dX11_enter_20 rfl (lv_at hl 0 rfl) ?_
        refine cg_X11_51 hC hH dX11_enter_21 ?_
        refine lv_iload_n hx hb dX11_enter_24 rfl (lv_at hl 2 rfl) ?_
        obtain ⟨r_7, u_8, h_9, hF⟩ := anl_some hF
        refine ccV_iB (q0 := 6) (As := [.int a1]) (rest := []) hC hH (n_X0_isDrawn l G Z Q _ T u_4 u_8 r_7 a1 _ h_9) rfl rfl ⟨wkc_X0_isDrawn, wka210, wka392, wka393, wka744⟩ kVX0_isDrawn ⟨Nat.le_of_ble_eq_true rfl, Nat.le_of_ble_eq_true rfl⟩ ⟨by show _ ≤ K1; omega, by show _ ≤ K2; omega⟩ rfl hl.1 rfl (Nat.le_of_ble_eq_true rfl) dX11_enter_25 (fun D H locs hH => ?_)
        refine lv_if_eq (tgt := 34) hx hb dX11_enter_28 (by decide) (fun c_10 => ?_) (fun c_10 => ?_)
        · rw [if_pos c_10] at hF
          refine lv_aload_n hx hb dX11_enter_34 rfl (lv_at hl 0 rfl) ?_
          refine cg_X11_37 hC hH dX11_enter_35 ?_
          obtain ⟨r_11, u_12, h_13, hF⟩ := anl_some hF
          refine ccV_iB (q0 := 4) (As := []) (rest := []) hC hH (n_X8_people l G Z Q _ T u_8 u_12 r_11 _ h_13) rfl rfl ⟨wkc_X8_people, wka220, wka628, wka629, wka752⟩ kVX8_people ⟨Nat.le_of_ble_eq_true rfl, Nat.le_of_ble_eq_true rfl⟩ ⟨by show _ ≤ K1; omega, by show _ ≤ K2; omega⟩ rfl hl.1 rfl (Nat.le_of_ble_eq_true rfl) dX11_enter_38 (fun D H locs hH => ?_)
          refine lv_bipush (v := 96) hx hb dX11_enter_41 (by decide) ?_
          refine lv_icmp_ge (tgt := 56) hx hb dX11_enter_43 (by decide) (fun c_14 => ?_) (fun c_14 => ?_)
          · rw [if_pos c_14] at hF
            refine lv_bipush (v := (-4)) hx hb dX11_enter_56 (by decide) ?_
            exact cr_iA hC hH hr (art_eq hF) (by omega) (by omega) dX11_enter_58 hlocks
          · rw [if_neg c_14] at hF
            refine lv_aload_n hx hb dX11_enter_46 rfl (lv_at hl 0 rfl) ?_
            refine cg_X11_10 hC hH dX11_enter_47 ?_
            obtain ⟨r_15, u_16, h_17, hF⟩ := anl_some hF
            refine ccV_iB (q0 := 1) (As := []) (rest := []) hC hH (n_X1_isFull l G Z Q _ T u_12 u_16 r_15 _ h_17) rfl rfl ⟨wkc_X1_isFull, wka192, wka441, wka442, wka745⟩ kVX1_isFull ⟨Nat.le_of_ble_eq_true rfl, Nat.le_of_ble_eq_true rfl⟩ ⟨by show _ ≤ K1; omega, by show _ ≤ K2; omega⟩ rfl hl.1 rfl (Nat.le_of_ble_eq_true rfl) dX11_enter_50 (fun D H locs hH => ?_)
            refine lv_if_eq (tgt := 59) hx hb dX11_enter_53 (by decide) (fun c_18 => ?_) (fun c_18 => ?_)
            · rw [if_pos c_18] at hF
              refine lv_aload_n hx hb dX11_enter_59 rfl (lv_at hl 0 rfl) ?_
              refine cg_X11_10 hC hH dX11_enter_60 ?_
              obtain ⟨r_19, u_20, h_21, hF⟩ := anl_some hF
              refine ccV_vB (q0 := 1) (As := []) (rest := []) hC hH (n_X1_openEntry l G Z Q _ T u_16 u_20 r_19 _ h_21) rfl rfl ⟨wkc_X1_openEntry, wka193, wka443, wka444, wka745⟩ kVX1_openEntry ⟨Nat.le_of_ble_eq_true rfl, Nat.le_of_ble_eq_true rfl⟩ ⟨by show _ ≤ K1; omega, by show _ ≤ K2; omega⟩ rfl hl.1 rfl (Nat.le_of_ble_eq_true rfl) dX11_enter_63 (fun D H locs hH => ?_)
              refine lv_aload_n hx hb dX11_enter_66 rfl (lv_at hl 0 rfl) ?_
              refine cg_X11_37 hC hH dX11_enter_67 ?_
              refine lv_iload_n hx hb dX11_enter_70 rfl (lv_at hl 1 rfl) ?_
              refine lv_iload_n hx hb dX11_enter_71 rfl (lv_at hl 2 rfl) ?_
              obtain ⟨r_22, u_23, k_25, k_26, k_27, k_28, h_24, hF, e_29, e_30⟩ := acl_some hF
              refine ccV_iA (q0 := 4) (As := [.int a0, .int a1]) (rest := []) hC hH (n_X8_add l G Z Q _ T u_20 u_23 r_22 k_25 k_26 a0 a1 _ h_24) rfl rfl ⟨wkc_X8_add, wka221, wka634, wka635, wka752⟩ kVX8_add ⟨Nat.le_of_ble_eq_true rfl, Nat.le_of_ble_eq_true rfl⟩ ⟨by show _ ≤ K1; omega, by show _ ≤ K2; omega⟩ rfl hl.1 rfl (Nat.le_of_ble_eq_true rfl) dX11_enter_72 (fun D H locs hH => ?_)
              have hk1 := (hk1.trans (congrArg (_ + ·) e_29)).trans (Nat.add_assoc _ _ _).symm
              have hk2 := (hk2.trans (congrArg (_ + ·) e_30)).trans (Nat.add_assoc _ _ _).symm
              exact cr_iA hC hH hr (art_eq hF) (by omega) (by omega) dX11_enter_75 hlocks
            · rw [if_neg c_18] at hF
              refine lv_bipush (v := (-4)) hx hb dX11_enter_56 (by decide) ?_
              exact cr_iA hC hH hr (art_eq hF) (by omega) (by omega) dX11_enter_58 hlocks
        · rw [if_neg c_10] at hF
          refine lv_bipush (v := (-3)) hx hb dX11_enter_31 (by decide) ?_
          exact cr_iA hC hH hr (art_eq hF) (by omega) (by omega) dX11_enter_33 hlocks
      · rw [if_pos c_6] at hF
        refine lv_bipush (v := (-2)) hx hb dX11_enter_17 (by decide) ?_
        exact cr_iA hC hH hr (art_eq hF) (by omega) (by omega) dX11_enter_19 hlocks
def x_X11_weigh (a0 : Int32) (a1 : Int32) : AG Int32 := anl (x_X8_has a0) (fun r_1 => (if r_1 = 0 then art (-2) else anl (x_X11_isGrams a1) (fun r_5 => (if r_5 = 0 then art (-2) else anl (x_X8_classOf a0) (fun r_9 => anl (x_X0_isDrawn r_9) (fun r_12 => (if r_12 = 0 then anl (x_X1_isFull) (fun r_16 => (if r_16 = 0 then anl (x_X1_openEntry) (fun r_20 => acl (x_X8_putOnScales a0 a1) (fun r_23 => (if r_23 = 0 then art 0 else art 1))) else art (-4))) else art (-3))))))))
set_option maxHeartbeats 4000000 in
set_option maxRecDepth 100000 in
theorem n_X11_weigh (l : Launch) (G : gG) (Z : gC) (Q : Nat → Nat) (D : Nat × Nat) (T : va_W) (u u1 : MS) (r : Int32) (C1 C2 : Nat) (a0 : Int32) (a1 : Int32) (sz : Nat) (hF : x_X11_weigh a0 a1 u = some (r, u1, C1, C2)) : Met l yX11_weigh (Cond.code yX11_weigh cX11_weigh 3 (some .int) :: wK) { frames := 5, cells := C1, slots := C2, locals := 132 } (va_Pc [.ref (Q 0), .int a0, .int a1] (cPM G Z Q D T u sz)) (cQi G Q T u1 r (va_A (cW G Q D T u) sz)) C1 C2 (va_A (cW G Q D T u) sz) := by
  refine Met.ofW (cc := cX11_weigh) (maxL := 3) (ret := (some .int)) (by decide) rfl ?_
  intro p e s m args below meth c s₁ B hml hv
  obtain ⟨rfl, rfl, hP, hB, hD0, hE⟩ := hv
  have hr := B.returns
  have hlocks := B.notSynchronized
  have hts := atoms_spec (ws := Cond.code yX11_weigh cX11_weigh 3 (some .int) :: wK) B.pre
  have hD := hD0.self (sz := s.heap.size)
  have hA : ∀ q : Nat, s.heap.size ≤ q → va_A (cW G Q D T u) s.heap.size q := fun q h => Or.inr h
  generalize va_A (cW G Q D T u) s.heap.size = A at hD hA hE ⊢
  have hC : cX p c cX11_weigh 3 s m _ RX11 G Z A := ⟨B.exec, B.bytes, hml, findClass_of_methodNamed B.named, fun w h => hts w (List.mem_cons_of_mem _ h), hB, hE, hA⟩
  have hx := hC.1
  have hb := hC.2.1
  have hH : cH G Q D T A u s s.heap [] := ⟨hP, hD, va_S.rf⟩
  generalize hK1 : C1 = K1
  generalize hK2 : C2 = K2
  have hk1 : K1 = 0 + C1 := by omega
  have hk2 : K2 = 0 + C2 := by omega
  have hl := lv_entry ([.ref (Q 0), .int a0, .int a1]) (n := 3) (Nat.le_of_ble_eq_true rfl)
  rw [lg_entry_eq]
  generalize (lg_sl ([.ref (Q 0), .int a0, .int a1]) ++ List.replicate (3 - (lg_sl ([.ref (Q 0), .int a0, .int a1])).length) Slot.unset).toArray = ls at hl ⊢
  have hl : lv_has ls 3 [(0, .ref (Q 0)), (1, .int a0), (2, .int a1)] := hl
  unfold x_X11_weigh at hF
  refine lv_aload_n hx hb dX11_weigh_0 rfl (lv_at hl 0 rfl) ?_
  refine cg_X11_37 hC hH dX11_weigh_1 ?_
  refine lv_iload_n hx hb dX11_weigh_4 rfl (lv_at hl 1 rfl) ?_
  obtain ⟨r_1, u_2, h_3, hF⟩ := anl_some hF
  refine ccV_iB (q0 := 4) (As := [.int a0]) (rest := []) hC hH (n_X8_has l G Z Q _ T u u_2 r_1 a0 _ h_3) rfl rfl ⟨wkc_X8_has, wka223, wka630, wka631, wka752⟩ kVX8_has ⟨Nat.le_of_ble_eq_true rfl, Nat.le_of_ble_eq_true rfl⟩ ⟨by show _ ≤ K1; omega, by show _ ≤ K2; omega⟩ rfl hl.1 rfl (Nat.le_of_ble_eq_true rfl) dX11_weigh_5 (fun D H locs hH => ?_)
  refine lv_if_eq (tgt := 18) hx hb dX11_weigh_8 (by decide) (fun c_4 => ?_) (fun c_4 => ?_)
  · rw [if_pos c_4] at hF
    refine lv_bipush (v := (-2)) hx hb dX11_weigh_18 (by decide) ?_
    exact cr_iA hC hH hr (art_eq hF) (by omega) (by omega) dX11_weigh_20 hlocks
  · rw [if_neg c_4] at hF
    refine lv_iload_n hx hb dX11_weigh_11 rfl (lv_at hl 2 rfl) ?_
    obtain ⟨r_5, u_6, h_7, hF⟩ := anl_some hF
    refine ccS_iB (As := [.int a1]) (rest := []) hC hH (n_X11_isGrams l G Z Q _ T u_2 u_6 r_5 a1 _ h_7) ⟨wkc_X11_isGrams, wka208, wka731, wka755⟩ kSX11_isGrams ⟨Nat.le_of_ble_eq_true rfl, Nat.le_of_ble_eq_true rfl⟩ ⟨by show _ ≤ K1; omega, by show _ ≤ K2; omega⟩ rfl hl.1 rfl (Nat.le_of_ble_eq_true rfl) dX11_weigh_12 (fun D H locs hH => ?_)
    refine lv_if_ne (tgt := 21) hx hb dX11_weigh_15 (by decide) (fun c_8 => ?_) (fun c_8 => ?_)
    · rw [if_neg c_8] at hF
      refine lv_aload_n hx hb dX11_weigh_21 rfl (lv_at hl 0 rfl) ?_
      refine cg_X11_51 hC hH dX11_weigh_22 ?_
      refine lv_aload_n hx hb dX11_weigh_25 rfl (lv_at hl 0 rfl) ?_
      refine cg_X11_37 hC hH dX11_weigh_26 ?_
      refine lv_iload_n hx hb dX11_weigh_29 rfl (lv_at hl 1 rfl) ?_
      obtain ⟨r_9, u_10, h_11, hF⟩ := anl_some hF
      refine ccV_iB (q0 := 4) (As := [.int a0]) (rest := [.ref (Q 6)]) hC hH (n_X8_classOf l G Z Q _ T u_6 u_10 r_9 a0 _ h_11) rfl rfl ⟨wkc_X8_classOf, wka224, wka632, wka633, wka752⟩ kVX8_classOf ⟨Nat.le_of_ble_eq_true rfl, Nat.le_of_ble_eq_true rfl⟩ ⟨by show _ ≤ K1; omega, by show _ ≤ K2; omega⟩ rfl hl.1 rfl (Nat.le_of_ble_eq_true rfl) dX11_weigh_30 (fun D H locs hH => ?_)
      obtain ⟨r_12, u_13, h_14, hF⟩ := anl_some hF
      refine ccV_iB (q0 := 6) (As := [.int r_9]) (rest := []) hC hH (n_X0_isDrawn l G Z Q _ T u_10 u_13 r_12 r_9 _ h_14) rfl rfl ⟨wkc_X0_isDrawn, wka210, wka392, wka393, wka744⟩ kVX0_isDrawn ⟨Nat.le_of_ble_eq_true rfl, Nat.le_of_ble_eq_true rfl⟩ ⟨by show _ ≤ K1; omega, by show _ ≤ K2; omega⟩ rfl hl.1 rfl (Nat.le_of_ble_eq_true rfl) dX11_weigh_33 (fun D H locs hH => ?_)
      refine lv_if_eq (tgt := 42) hx hb dX11_weigh_36 (by decide) (fun c_15 => ?_) (fun c_15 => ?_)
      · rw [if_pos c_15] at hF
        refine lv_aload_n hx hb dX11_weigh_42 rfl (lv_at hl 0 rfl) ?_
        refine cg_X11_10 hC hH dX11_weigh_43 ?_
        obtain ⟨r_16, u_17, h_18, hF⟩ := anl_some hF
        refine ccV_iB (q0 := 1) (As := []) (rest := []) hC hH (n_X1_isFull l G Z Q _ T u_13 u_17 r_16 _ h_18) rfl rfl ⟨wkc_X1_isFull, wka192, wka441, wka442, wka745⟩ kVX1_isFull ⟨Nat.le_of_ble_eq_true rfl, Nat.le_of_ble_eq_true rfl⟩ ⟨by show _ ≤ K1; omega, by show _ ≤ K2; omega⟩ rfl hl.1 rfl (Nat.le_of_ble_eq_true rfl) dX11_weigh_46 (fun D H locs hH => ?_)
        refine lv_if_eq (tgt := 55) hx hb dX11_weigh_49 (by decide) (fun c_19 => ?_) (fun c_19 => ?_)
        · rw [if_pos c_19] at hF
          refine lv_aload_n hx hb dX11_weigh_55 rfl (lv_at hl 0 rfl) ?_
          refine cg_X11_10 hC hH dX11_weigh_56 ?_
          obtain ⟨r_20, u_21, h_22, hF⟩ := anl_some hF
          refine ccV_vB (q0 := 1) (As := []) (rest := []) hC hH (n_X1_openEntry l G Z Q _ T u_17 u_21 r_20 _ h_22) rfl rfl ⟨wkc_X1_openEntry, wka193, wka443, wka444, wka745⟩ kVX1_openEntry ⟨Nat.le_of_ble_eq_true rfl, Nat.le_of_ble_eq_true rfl⟩ ⟨by show _ ≤ K1; omega, by show _ ≤ K2; omega⟩ rfl hl.1 rfl (Nat.le_of_ble_eq_true rfl) dX11_weigh_59 (fun D H locs hH => ?_)
          refine lv_aload_n hx hb dX11_weigh_62 rfl (lv_at hl 0 rfl) ?_
          refine cg_X11_37 hC hH dX11_weigh_63 ?_
          refine lv_iload_n hx hb dX11_weigh_66 rfl (lv_at hl 1 rfl) ?_
          refine lv_iload_n hx hb dX11_weigh_67 rfl (lv_at hl 2 rfl) ?_
          obtain ⟨r_23, u_24, k_26, k_27, k_28, k_29, h_25, hF, e_30, e_31⟩ := acl_some hF
          refine ccV_iA (q0 := 4) (As := [.int a0, .int a1]) (rest := []) hC hH (n_X8_putOnScales l G Z Q _ T u_21 u_24 r_23 k_26 k_27 a0 a1 _ h_25) rfl rfl ⟨wkc_X8_putOnScales, wka225, wka636, wka637, wka752⟩ kVX8_putOnScales ⟨Nat.le_of_ble_eq_true rfl, Nat.le_of_ble_eq_true rfl⟩ ⟨by show _ ≤ K1; omega, by show _ ≤ K2; omega⟩ rfl hl.1 rfl (Nat.le_of_ble_eq_true rfl) dX11_weigh_68 (fun D H locs hH => ?_)
          have hk1 := (hk1.trans (congrArg (_ + ·) e_30)).trans (Nat.add_assoc _ _ _).symm
          have hk2 := (hk2.trans (congrArg (_ + ·) e_31)).trans (Nat.add_assoc _ _ _).symm
          refine lv_if_eq (tgt := 78) hx hb dX11_weigh_71 (by decide) (fun c_32 => ?_) (fun c_32 => ?_)
          · rw [if_pos c_32] at hF
            refine lv_iconst (v := 0) hx hb dX11_weigh_78 (by decide) ?_
            exact cr_iA hC hH hr (art_eq hF) (by omega) (by omega) dX11_weigh_79 hlocks
          · rw [if_neg c_32] at hF
            refine lv_iconst (v := 1) hx hb dX11_weigh_74 (by decide) ?_
            refine lv_goto (tgt := 79) hx hb dX11_weigh_75 (by decide) ?_
            exact cr_iA hC hH hr (art_eq hF) (by omega) (by omega) dX11_weigh_79 hlocks
        · rw [if_neg c_19] at hF
          refine lv_bipush (v := (-4)) hx hb dX11_weigh_52 (by decide) ?_
          exact cr_iA hC hH hr (art_eq hF) (by omega) (by omega) dX11_weigh_54 hlocks
      · rw [if_neg c_15] at hF
        refine lv_bipush (v := (-3)) hx hb dX11_weigh_39 (by decide) ?_
        exact cr_iA hC hH hr (art_eq hF) (by omega) (by omega) dX11_weigh_41 hlocks
    · rw [if_pos c_8] at hF
      refine lv_bipush (v := (-2)) hx hb dX11_weigh_18 (by decide) ?_
      exact cr_iA hC hH hr (art_eq hF) (by omega) (by omega) dX11_weigh_20 hlocks
def x_X11_seed (a0 : Int32) (a1 : Int32) : AG Int32 := anl (x_X8_has a0) (fun r_1 => (if r_1 = 0 then art (-2) else (if a1 < 0 then art (-2) else (if a1 ≤ 8 then anl (x_X8_classOf a0) (fun r_7 => anl (x_X0_isDrawn r_7) (fun r_10 => (if r_10 = 0 then anl (x_X8_isSeedOfAnother a0 a1) (fun r_14 => (if r_14 = 0 then anl (x_X1_isFull) (fun r_18 => (if r_18 = 0 then anl (x_X1_openEntry) (fun r_22 => anl (x_X1_ofFighter a0 4) (fun r_25 => anl (nGT 0 2088 r_25) (fun x_28 => anl (x_X1_ofFighter a0 4) (fun r_32 => acl (x_X1_put r_32 a1) (fun r_35 => art x_28))))) else art (-4))) else art (-3))) else art (-3)))) else art (-2)))))
set_option maxHeartbeats 4000000 in
set_option maxRecDepth 100000 in
theorem n_X11_seed (l : Launch) (G : gG) (Z : gC) (Q : Nat → Nat) (D : Nat × Nat) (T : va_W) (u u1 : MS) (r : Int32) (C1 C2 : Nat) (a0 : Int32) (a1 : Int32) (sz : Nat) (hF : x_X11_seed a0 a1 u = some (r, u1, C1, C2)) : Met l yX11_seed (Cond.code yX11_seed cX11_seed 4 (some .int) :: wK) { frames := 4, cells := C1, slots := C2, locals := 108 } (va_Pc [.ref (Q 0), .int a0, .int a1] (cPM G Z Q D T u sz)) (cQi G Q T u1 r (va_A (cW G Q D T u) sz)) C1 C2 (va_A (cW G Q D T u) sz) := by
  refine Met.ofW (cc := cX11_seed) (maxL := 4) (ret := (some .int)) (by decide) rfl ?_
  intro p e s m args below meth c s₁ B hml hv
  obtain ⟨rfl, rfl, hP, hB, hD0, hE⟩ := hv
  have hr := B.returns
  have hlocks := B.notSynchronized
  have hts := atoms_spec (ws := Cond.code yX11_seed cX11_seed 4 (some .int) :: wK) B.pre
  have hD := hD0.self (sz := s.heap.size)
  have hA : ∀ q : Nat, s.heap.size ≤ q → va_A (cW G Q D T u) s.heap.size q := fun q h => Or.inr h
  generalize va_A (cW G Q D T u) s.heap.size = A at hD hA hE ⊢
  have hC : cX p c cX11_seed 4 s m _ RX11 G Z A := ⟨B.exec, B.bytes, hml, findClass_of_methodNamed B.named, fun w h => hts w (List.mem_cons_of_mem _ h), hB, hE, hA⟩
  have hx := hC.1
  have hb := hC.2.1
  have hH : cH G Q D T A u s s.heap [] := ⟨hP, hD, va_S.rf⟩
  generalize hK1 : C1 = K1
  generalize hK2 : C2 = K2
  have hk1 : K1 = 0 + C1 := by omega
  have hk2 : K2 = 0 + C2 := by omega
  have hl := lv_entry ([.ref (Q 0), .int a0, .int a1]) (n := 4) (Nat.le_of_ble_eq_true rfl)
  rw [lg_entry_eq]
  generalize (lg_sl ([.ref (Q 0), .int a0, .int a1]) ++ List.replicate (4 - (lg_sl ([.ref (Q 0), .int a0, .int a1])).length) Slot.unset).toArray = ls at hl ⊢
  have hl : lv_has ls 4 [(0, .ref (Q 0)), (1, .int a0), (2, .int a1)] := hl
  unfold x_X11_seed at hF
  refine lv_aload_n hx hb dX11_seed_0 rfl (lv_at hl 0 rfl) ?_
  refine cg_X11_37 hC hH dX11_seed_1 ?_
  refine lv_iload_n hx hb dX11_seed_4 rfl (lv_at hl 1 rfl) ?_
  obtain ⟨r_1, u_2, h_3, hF⟩ := anl_some hF
  refine ccV_iB (q0 := 4) (As := [.int a0]) (rest := []) hC hH (n_X8_has l G Z Q _ T u u_2 r_1 a0 _ h_3) rfl rfl ⟨wkc_X8_has, wka223, wka630, wka631, wka752⟩ kVX8_has ⟨Nat.le_of_ble_eq_true rfl, Nat.le_of_ble_eq_true rfl⟩ ⟨by show _ ≤ K1; omega, by show _ ≤ K2; omega⟩ rfl hl.1 rfl (Nat.le_of_ble_eq_true rfl) dX11_seed_5 (fun D H locs hH => ?_)
  refine lv_if_eq (tgt := 21) hx hb dX11_seed_8 (by decide) (fun c_4 => ?_) (fun c_4 => ?_)
  · rw [if_pos c_4] at hF
    refine lv_bipush (v := (-2)) hx hb dX11_seed_21 (by decide) ?_
    exact cr_iA hC hH hr (art_eq hF) (by omega) (by omega) dX11_seed_23 hlocks
  · rw [if_neg c_4] at hF
    refine lv_iload_n hx hb dX11_seed_11 rfl (lv_at hl 2 rfl) ?_
    refine lv_if_lt (tgt := 21) hx hb dX11_seed_12 (by decide) (fun c_5 => ?_) (fun c_5 => ?_)
    · rw [if_pos c_5] at hF
      refine lv_bipush (v := (-2)) hx hb dX11_seed_21 (by decide) ?_
      exact cr_iA hC hH hr (art_eq hF) (by omega) (by omega) dX11_seed_23 hlocks
    · rw [if_neg c_5] at hF
      refine lv_iload_n hx hb dX11_seed_15 rfl (lv_at hl 2 rfl) ?_
      refine lv_bipush (v := 8) hx hb dX11_seed_16 (by decide) ?_
      refine lv_icmp_le (tgt := 24) hx hb dX11_seed_18 (by decide) (fun c_6 => ?_) (fun c_6 => ?_)
      · rw [if_pos c_6] at hF
        refine lv_aload_n hx hb dX11_seed_24 rfl (lv_at hl 0 rfl) ?_
        refine cg_X11_51 hC hH dX11_seed_25 ?_
        refine lv_aload_n hx hb dX11_seed_28 rfl (lv_at hl 0 rfl) ?_
        refine cg_X11_37 hC hH dX11_seed_29 ?_
        refine lv_iload_n hx hb dX11_seed_32 rfl (lv_at hl 1 rfl) ?_
        obtain ⟨r_7, u_8, h_9, hF⟩ := anl_some hF
        refine ccV_iB (q0 := 4) (As := [.int a0]) (rest := [.ref (Q 6)]) hC hH (n_X8_classOf l G Z Q _ T u_2 u_8 r_7 a0 _ h_9) rfl rfl ⟨wkc_X8_classOf, wka224, wka632, wka633, wka752⟩ kVX8_classOf ⟨Nat.le_of_ble_eq_true rfl, Nat.le_of_ble_eq_true rfl⟩ ⟨by show _ ≤ K1; omega, by show _ ≤ K2; omega⟩ rfl hl.1 rfl (Nat.le_of_ble_eq_true rfl) dX11_seed_33 (fun D H locs hH => ?_)
        obtain ⟨r_10, u_11, h_12, hF⟩ := anl_some hF
        refine ccV_iB (q0 := 6) (As := [.int r_7]) (rest := []) hC hH (n_X0_isDrawn l G Z Q _ T u_8 u_11 r_10 r_7 _ h_12) rfl rfl ⟨wkc_X0_isDrawn, wka210, wka392, wka393, wka744⟩ kVX0_isDrawn ⟨Nat.le_of_ble_eq_true rfl, Nat.le_of_ble_eq_true rfl⟩ ⟨by show _ ≤ K1; omega, by show _ ≤ K2; omega⟩ rfl hl.1 rfl (Nat.le_of_ble_eq_true rfl) dX11_seed_36 (fun D H locs hH => ?_)
        refine lv_if_ne (tgt := 54) hx hb dX11_seed_39 (by decide) (fun c_13 => ?_) (fun c_13 => ?_)
        · rw [if_neg c_13] at hF
          refine lv_bipush (v := (-3)) hx hb dX11_seed_54 (by decide) ?_
          exact cr_iA hC hH hr (art_eq hF) (by omega) (by omega) dX11_seed_56 hlocks
        · rw [if_pos c_13] at hF
          refine lv_aload_n hx hb dX11_seed_42 rfl (lv_at hl 0 rfl) ?_
          refine cg_X11_37 hC hH dX11_seed_43 ?_
          refine lv_iload_n hx hb dX11_seed_46 rfl (lv_at hl 1 rfl) ?_
          refine lv_iload_n hx hb dX11_seed_47 rfl (lv_at hl 2 rfl) ?_
          obtain ⟨r_14, u_15, h_16, hF⟩ := anl_some hF
          refine ccV_iB (q0 := 4) (As := [.int a0, .int a1]) (rest := []) hC hH (n_X8_isSeedOfAnother l G Z Q _ T u_11 u_15 r_14 a0 a1 _ h_16) rfl rfl ⟨wkc_X8_isSeedOfAnother, wka227, wka640, wka641, wka752⟩ kVX8_isSeedOfAnother ⟨Nat.le_of_ble_eq_true rfl, Nat.le_of_ble_eq_true rfl⟩ ⟨by show _ ≤ K1; omega, by show _ ≤ K2; omega⟩ rfl hl.1 rfl (Nat.le_of_ble_eq_true rfl) dX11_seed_48 (fun D H locs hH => ?_)
          refine lv_if_eq (tgt := 57) hx hb dX11_seed_51 (by decide) (fun c_17 => ?_) (fun c_17 => ?_)
          · rw [if_pos c_17] at hF
            refine lv_aload_n hx hb dX11_seed_57 rfl (lv_at hl 0 rfl) ?_
            refine cg_X11_10 hC hH dX11_seed_58 ?_
            obtain ⟨r_18, u_19, h_20, hF⟩ := anl_some hF
            refine ccV_iB (q0 := 1) (As := []) (rest := []) hC hH (n_X1_isFull l G Z Q _ T u_15 u_19 r_18 _ h_20) rfl rfl ⟨wkc_X1_isFull, wka192, wka441, wka442, wka745⟩ kVX1_isFull ⟨Nat.le_of_ble_eq_true rfl, Nat.le_of_ble_eq_true rfl⟩ ⟨by show _ ≤ K1; omega, by show _ ≤ K2; omega⟩ rfl hl.1 rfl (Nat.le_of_ble_eq_true rfl) dX11_seed_61 (fun D H locs hH => ?_)
            refine lv_if_eq (tgt := 70) hx hb dX11_seed_64 (by decide) (fun c_21 => ?_) (fun c_21 => ?_)
            · rw [if_pos c_21] at hF
              refine lv_aload_n hx hb dX11_seed_70 rfl (lv_at hl 0 rfl) ?_
              refine cg_X11_10 hC hH dX11_seed_71 ?_
              obtain ⟨r_22, u_23, h_24, hF⟩ := anl_some hF
              refine ccV_vB (q0 := 1) (As := []) (rest := []) hC hH (n_X1_openEntry l G Z Q _ T u_19 u_23 r_22 _ h_24) rfl rfl ⟨wkc_X1_openEntry, wka193, wka443, wka444, wka745⟩ kVX1_openEntry ⟨Nat.le_of_ble_eq_true rfl, Nat.le_of_ble_eq_true rfl⟩ ⟨by show _ ≤ K1; omega, by show _ ≤ K2; omega⟩ rfl hl.1 rfl (Nat.le_of_ble_eq_true rfl) dX11_seed_74 (fun D H locs hH => ?_)
              refine lv_aload_n hx hb dX11_seed_77 rfl (lv_at hl 0 rfl) ?_
              refine cg_X11_10 hC hH dX11_seed_78 ?_
              refine lv_iload_n hx hb dX11_seed_81 rfl (lv_at hl 1 rfl) ?_
              refine lv_iconst (v := 4) hx hb dX11_seed_82 (by decide) ?_
              obtain ⟨r_25, u_26, h_27, hF⟩ := anl_some hF
              refine ccS_iB (As := [.int a0, .int 4]) (rest := [.ref (Q 1)]) hC hH (n_X1_ofFighter l G Z Q _ T u_23 u_26 r_25 a0 4 _ h_27) ⟨wkc_X1_ofFighter, wka228, wka436, wka745⟩ kSX1_ofFighter ⟨Nat.le_of_ble_eq_true rfl, Nat.le_of_ble_eq_true rfl⟩ ⟨by show _ ≤ K1; omega, by show _ ≤ K2; omega⟩ rfl hl.1 rfl (Nat.le_of_ble_eq_true rfl) dX11_seed_83 (fun D H locs hH => ?_)
              refine bat (i := 1) (j := 11) hC hH rfl rfl (by decide) wka197 ⟨Nat.le_of_ble_eq_true rfl, Nat.le_of_ble_eq_true rfl⟩ hl.1 (Nat.le_of_ble_eq_true rfl) ⟨by show _ ≤ K1; omega, by show _ ≤ K2; omega⟩ dX11_seed_86 ?_
              obtain ⟨x_28, u_29, h_30, hF⟩ := anl_some hF
              obtain ⟨e_31, rfl⟩ := nGT_eq h_30
              refine gx_ti e_31 ?_
              refine lv_istore_n (lv' := [(3, .int x_28), (0, .ref (Q 0)), (1, .int a0), (2, .int a1)]) hx hb dX11_seed_89 rfl hl (by decide) rfl (fun ls hl => ?_)
              refine lv_aload_n hx hb dX11_seed_90 rfl (lv_at hl 1 rfl) ?_
              refine cg_X11_10 hC hH dX11_seed_91 ?_
              refine lv_iload_n hx hb dX11_seed_94 rfl (lv_at hl 2 rfl) ?_
              refine lv_iconst (v := 4) hx hb dX11_seed_95 (by decide) ?_
              obtain ⟨r_32, u_33, h_34, hF⟩ := anl_some hF
              refine ccS_iB (As := [.int a0, .int 4]) (rest := [.ref (Q 1)]) hC hH (n_X1_ofFighter l G Z Q _ T u_26 u_33 r_32 a0 4 _ h_34) ⟨wkc_X1_ofFighter, wka228, wka436, wka745⟩ kSX1_ofFighter ⟨Nat.le_of_ble_eq_true rfl, Nat.le_of_ble_eq_true rfl⟩ ⟨by show _ ≤ K1; omega, by show _ ≤ K2; omega⟩ rfl hl.1 rfl (Nat.le_of_ble_eq_true rfl) dX11_seed_96 (fun D H locs hH => ?_)
              refine lv_iload_n hx hb dX11_seed_99 rfl (lv_at hl 3 rfl) ?_
              obtain ⟨r_35, u_36, k_38, k_39, k_40, k_41, h_37, hF, e_42, e_43⟩ := acl_some hF
              refine ccV_vA (q0 := 1) (As := [.int r_32, .int a1]) (rest := []) hC hH (n_X1_put l G Z Q _ T u_33 u_36 r_35 k_38 k_39 r_32 a1 _ h_37) rfl rfl ⟨wkc_X1_put, wka201, wka439, wka440, wka745⟩ kVX1_put ⟨Nat.le_of_ble_eq_true rfl, Nat.le_of_ble_eq_true rfl⟩ ⟨by show _ ≤ K1; omega, by show _ ≤ K2; omega⟩ rfl hl.1 rfl (Nat.le_of_ble_eq_true rfl) dX11_seed_100 (fun D H locs hH => ?_)
              have hk1 := (hk1.trans (congrArg (_ + ·) e_42)).trans (Nat.add_assoc _ _ _).symm
              have hk2 := (hk2.trans (congrArg (_ + ·) e_43)).trans (Nat.add_assoc _ _ _).symm
              refine lv_iload_n hx hb dX11_seed_103 rfl (lv_at hl 0 rfl) ?_
              exact cr_iA hC hH hr (art_eq hF) (by omega) (by omega) dX11_seed_104 hlocks
            · rw [if_neg c_21] at hF
              refine lv_bipush (v := (-4)) hx hb dX11_seed_67 (by decide) ?_
              exact cr_iA hC hH hr (art_eq hF) (by omega) (by omega) dX11_seed_69 hlocks
          · rw [if_neg c_17] at hF
            refine lv_bipush (v := (-3)) hx hb dX11_seed_54 (by decide) ?_
            exact cr_iA hC hH hr (art_eq hF) (by omega) (by omega) dX11_seed_56 hlocks
      · rw [if_neg c_6] at hF
        refine lv_bipush (v := (-2)) hx hb dX11_seed_21 (by decide) ?_
        exact cr_iA hC hH hr (art_eq hF) (by omega) (by omega) dX11_seed_23 hlocks
def x_X11_draw (a0 : Int32) : AG Int32 := anl (x_X11_isClass a0) (fun r_1 => (if r_1 = 0 then art (-2) else anl (x_X0_isDrawn a0) (fun r_5 => (if r_5 = 0 then anl (x_X8_weighedOf a0) (fun r_9 => (if r_9 < 2 then art (-1) else (if r_9 ≤ 32 then anl (x_X1_isFull) (fun r_14 => (if r_14 = 0 then anl (x_X1_openEntry) (fun r_18 => acl (x_X2_placeAll a0 r_9) (fun r_21 => anl (x_X0_settle a0) (fun r_30 => anl (x_X0_fightsOf a0) (fun r_33 => art r_33)))) else art (-4))) else art (-1)))) else art (-3)))))
set_option maxHeartbeats 4000000 in
set_option maxRecDepth 100000 in
theorem n_X11_draw (l : Launch) (G : gG) (Z : gC) (Q : Nat → Nat) (D : Nat × Nat) (T : va_W) (u u1 : MS) (r : Int32) (C1 C2 : Nat) (a0 : Int32) (sz : Nat) (hF : x_X11_draw a0 u = some (r, u1, C1, C2)) : Met l yX11_draw (Cond.code yX11_draw cX11_draw 3 (some .int) :: wK) { frames := 8, cells := C1, slots := C2, locals := 205 } (va_Pc [.ref (Q 0), .int a0] (cPM G Z Q D T u sz)) (cQi G Q T u1 r (va_A (cW G Q D T u) sz)) C1 C2 (va_A (cW G Q D T u) sz) := by
  refine Met.ofW (cc := cX11_draw) (maxL := 3) (ret := (some .int)) (by decide) rfl ?_
  intro p e s m args below meth c s₁ B hml hv
  obtain ⟨rfl, rfl, hP, hB, hD0, hE⟩ := hv
  have hr := B.returns
  have hlocks := B.notSynchronized
  have hts := atoms_spec (ws := Cond.code yX11_draw cX11_draw 3 (some .int) :: wK) B.pre
  have hD := hD0.self (sz := s.heap.size)
  have hA : ∀ q : Nat, s.heap.size ≤ q → va_A (cW G Q D T u) s.heap.size q := fun q h => Or.inr h
  generalize va_A (cW G Q D T u) s.heap.size = A at hD hA hE ⊢
  have hC : cX p c cX11_draw 3 s m _ RX11 G Z A := ⟨B.exec, B.bytes, hml, findClass_of_methodNamed B.named, fun w h => hts w (List.mem_cons_of_mem _ h), hB, hE, hA⟩
  have hx := hC.1
  have hb := hC.2.1
  have hH : cH G Q D T A u s s.heap [] := ⟨hP, hD, va_S.rf⟩
  generalize hK1 : C1 = K1
  generalize hK2 : C2 = K2
  have hk1 : K1 = 0 + C1 := by omega
  have hk2 : K2 = 0 + C2 := by omega
  have hl := lv_entry ([.ref (Q 0), .int a0]) (n := 3) (Nat.le_of_ble_eq_true rfl)
  rw [lg_entry_eq]
  generalize (lg_sl ([.ref (Q 0), .int a0]) ++ List.replicate (3 - (lg_sl ([.ref (Q 0), .int a0])).length) Slot.unset).toArray = ls at hl ⊢
  have hl : lv_has ls 3 [(0, .ref (Q 0)), (1, .int a0)] := hl
  unfold x_X11_draw at hF
  refine lv_iload_n hx hb dX11_draw_0 rfl (lv_at hl 1 rfl) ?_
  obtain ⟨r_1, u_2, h_3, hF⟩ := anl_some hF
  refine ccS_iB (As := [.int a0]) (rest := []) hC hH (n_X11_isClass l G Z Q _ T u u_2 r_1 a0 _ h_3) ⟨wkc_X11_isClass, wka207, wka728, wka755⟩ kSX11_isClass ⟨Nat.le_of_ble_eq_true rfl, Nat.le_of_ble_eq_true rfl⟩ ⟨by show _ ≤ K1; omega, by show _ ≤ K2; omega⟩ rfl hl.1 rfl (Nat.le_of_ble_eq_true rfl) dX11_draw_1 (fun D H locs hH => ?_)
  refine lv_if_ne (tgt := 10) hx hb dX11_draw_4 (by decide) (fun c_4 => ?_) (fun c_4 => ?_)
  · rw [if_neg c_4] at hF
    refine lv_aload_n hx hb dX11_draw_10 rfl (lv_at hl 0 rfl) ?_
    refine cg_X11_51 hC hH dX11_draw_11 ?_
    refine lv_iload_n hx hb dX11_draw_14 rfl (lv_at hl 1 rfl) ?_
    obtain ⟨r_5, u_6, h_7, hF⟩ := anl_some hF
    refine ccV_iB (q0 := 6) (As := [.int a0]) (rest := []) hC hH (n_X0_isDrawn l G Z Q _ T u_2 u_6 r_5 a0 _ h_7) rfl rfl ⟨wkc_X0_isDrawn, wka210, wka392, wka393, wka744⟩ kVX0_isDrawn ⟨Nat.le_of_ble_eq_true rfl, Nat.le_of_ble_eq_true rfl⟩ ⟨by show _ ≤ K1; omega, by show _ ≤ K2; omega⟩ rfl hl.1 rfl (Nat.le_of_ble_eq_true rfl) dX11_draw_15 (fun D H locs hH => ?_)
    refine lv_if_eq (tgt := 24) hx hb dX11_draw_18 (by decide) (fun c_8 => ?_) (fun c_8 => ?_)
    · rw [if_pos c_8] at hF
      refine lv_aload_n hx hb dX11_draw_24 rfl (lv_at hl 0 rfl) ?_
      refine cg_X11_37 hC hH dX11_draw_25 ?_
      refine lv_iload_n hx hb dX11_draw_28 rfl (lv_at hl 1 rfl) ?_
      obtain ⟨r_9, u_10, h_11, hF⟩ := anl_some hF
      refine ccV_iB (q0 := 4) (As := [.int a0]) (rest := []) hC hH (n_X8_weighedOf l G Z Q _ T u_6 u_10 r_9 a0 _ h_11) rfl rfl ⟨wkc_X8_weighedOf, wka229, wka644, wka645, wka752⟩ kVX8_weighedOf ⟨Nat.le_of_ble_eq_true rfl, Nat.le_of_ble_eq_true rfl⟩ ⟨by show _ ≤ K1; omega, by show _ ≤ K2; omega⟩ rfl hl.1 rfl (Nat.le_of_ble_eq_true rfl) dX11_draw_29 (fun D H locs hH => ?_)
      refine lv_istore_n (lv' := [(2, .int r_9), (0, .ref (Q 0)), (1, .int a0)]) hx hb dX11_draw_32 rfl hl (by decide) rfl (fun ls hl => ?_)
      refine lv_iload_n hx hb dX11_draw_33 rfl (lv_at hl 0 rfl) ?_
      refine lv_iconst (v := 2) hx hb dX11_draw_34 (by decide) ?_
      refine lv_icmp_lt (tgt := 44) hx hb dX11_draw_35 (by decide) (fun c_12 => ?_) (fun c_12 => ?_)
      · rw [if_pos c_12] at hF
        refine lv_iconst (v := (-1)) hx hb dX11_draw_44 (by decide) ?_
        exact cr_iA hC hH hr (art_eq hF) (by omega) (by omega) dX11_draw_45 hlocks
      · rw [if_neg c_12] at hF
        refine lv_iload_n hx hb dX11_draw_38 rfl (lv_at hl 0 rfl) ?_
        refine lv_bipush (v := 32) hx hb dX11_draw_39 (by decide) ?_
        refine lv_icmp_le (tgt := 46) hx hb dX11_draw_41 (by decide) (fun c_13 => ?_) (fun c_13 => ?_)
        · rw [if_pos c_13] at hF
          refine lv_aload_n hx hb dX11_draw_46 rfl (lv_at hl 1 rfl) ?_
          refine cg_X11_10 hC hH dX11_draw_47 ?_
          obtain ⟨r_14, u_15, h_16, hF⟩ := anl_some hF
          refine ccV_iB (q0 := 1) (As := []) (rest := []) hC hH (n_X1_isFull l G Z Q _ T u_10 u_15 r_14 _ h_16) rfl rfl ⟨wkc_X1_isFull, wka192, wka441, wka442, wka745⟩ kVX1_isFull ⟨Nat.le_of_ble_eq_true rfl, Nat.le_of_ble_eq_true rfl⟩ ⟨by show _ ≤ K1; omega, by show _ ≤ K2; omega⟩ rfl hl.1 rfl (Nat.le_of_ble_eq_true rfl) dX11_draw_50 (fun D H locs hH => ?_)
          refine lv_if_eq (tgt := 59) hx hb dX11_draw_53 (by decide) (fun c_17 => ?_) (fun c_17 => ?_)
          · rw [if_pos c_17] at hF
            refine lv_aload_n hx hb dX11_draw_59 rfl (lv_at hl 1 rfl) ?_
            refine cg_X11_10 hC hH dX11_draw_60 ?_
            obtain ⟨r_18, u_19, h_20, hF⟩ := anl_some hF
            refine ccV_vB (q0 := 1) (As := []) (rest := []) hC hH (n_X1_openEntry l G Z Q _ T u_15 u_19 r_18 _ h_20) rfl rfl ⟨wkc_X1_openEntry, wka193, wka443, wka444, wka745⟩ kVX1_openEntry ⟨Nat.le_of_ble_eq_true rfl, Nat.le_of_ble_eq_true rfl⟩ ⟨by show _ ≤ K1; omega, by show _ ≤ K2; omega⟩ rfl hl.1 rfl (Nat.le_of_ble_eq_true rfl) dX11_draw_63 (fun D H locs hH => ?_)
            refine lv_aload_n hx hb dX11_draw_66 rfl (lv_at hl 1 rfl) ?_
            refine cg_X11_44 hC hH dX11_draw_67 ?_
            refine lv_iload_n hx hb dX11_draw_70 rfl (lv_at hl 2 rfl) ?_
            refine lv_iload_n hx hb dX11_draw_71 rfl (lv_at hl 0 rfl) ?_
            obtain ⟨r_21, u_22, k_24, k_25, k_26, k_27, h_23, hF, e_28, e_29⟩ := acl_some hF
            refine ccV_vA (q0 := 5) (As := [.int a0, .int r_9]) (rest := []) hC hH (n_X2_placeAll l G Z Q _ T u_19 u_22 r_21 k_24 k_25 a0 r_9 _ h_23) rfl rfl ⟨wkc_X2_placeAll, wka231, wka447, wka448, wka746⟩ kVX2_placeAll ⟨Nat.le_of_ble_eq_true rfl, Nat.le_of_ble_eq_true rfl⟩ ⟨by show _ ≤ K1; omega, by show _ ≤ K2; omega⟩ rfl hl.1 rfl (Nat.le_of_ble_eq_true rfl) dX11_draw_72 (fun D H locs hH => ?_)
            have hk1 := (hk1.trans (congrArg (_ + ·) e_28)).trans (Nat.add_assoc _ _ _).symm
            have hk2 := (hk2.trans (congrArg (_ + ·) e_29)).trans (Nat.add_assoc _ _ _).symm
            refine lv_aload_n hx hb dX11_draw_75 rfl (lv_at hl 1 rfl) ?_
            refine cg_X11_51 hC hH dX11_draw_76 ?_
            refine lv_iload_n hx hb dX11_draw_79 rfl (lv_at hl 2 rfl) ?_
            obtain ⟨r_30, u_31, h_32, hF⟩ := anl_some hF
            refine ccV_vB (q0 := 6) (As := [.int a0]) (rest := []) hC hH (n_X0_settle l G Z Q _ T u_22 u_31 r_30 a0 _ h_32) rfl rfl ⟨wkc_X0_settle, wka253, wka413, wka414, wka744⟩ kVX0_settle ⟨Nat.le_of_ble_eq_true rfl, Nat.le_of_ble_eq_true rfl⟩ ⟨by show _ ≤ K1; omega, by show _ ≤ K2; omega⟩ rfl hl.1 rfl (Nat.le_of_ble_eq_true rfl) dX11_draw_80 (fun D H locs hH => ?_)
            refine lv_aload_n hx hb dX11_draw_83 rfl (lv_at hl 1 rfl) ?_
            refine cg_X11_51 hC hH dX11_draw_84 ?_
            refine lv_iload_n hx hb dX11_draw_87 rfl (lv_at hl 2 rfl) ?_
            obtain ⟨r_33, u_34, h_35, hF⟩ := anl_some hF
            refine ccV_iB (q0 := 6) (As := [.int a0]) (rest := []) hC hH (n_X0_fightsOf l G Z Q _ T u_31 u_34 r_33 a0 _ h_35) rfl rfl ⟨wkc_X0_fightsOf, wka272, wka396, wka397, wka744⟩ kVX0_fightsOf ⟨Nat.le_of_ble_eq_true rfl, Nat.le_of_ble_eq_true rfl⟩ ⟨by show _ ≤ K1; omega, by show _ ≤ K2; omega⟩ rfl hl.1 rfl (Nat.le_of_ble_eq_true rfl) dX11_draw_88 (fun D H locs hH => ?_)
            exact cr_iA hC hH hr (art_eq hF) (by omega) (by omega) dX11_draw_91 hlocks
          · rw [if_neg c_17] at hF
            refine lv_bipush (v := (-4)) hx hb dX11_draw_56 (by decide) ?_
            exact cr_iA hC hH hr (art_eq hF) (by omega) (by omega) dX11_draw_58 hlocks
        · rw [if_neg c_13] at hF
          refine lv_iconst (v := (-1)) hx hb dX11_draw_44 (by decide) ?_
          exact cr_iA hC hH hr (art_eq hF) (by omega) (by omega) dX11_draw_45 hlocks
    · rw [if_neg c_8] at hF
      refine lv_bipush (v := (-3)) hx hb dX11_draw_21 (by decide) ?_
      exact cr_iA hC hH hr (art_eq hF) (by omega) (by omega) dX11_draw_23 hlocks
  · rw [if_pos c_4] at hF
    refine lv_bipush (v := (-2)) hx hb dX11_draw_7 (by decide) ?_
    exact cr_iA hC hH hr (art_eq hF) (by omega) (by omega) dX11_draw_9 hlocks
def x_X11_now (a0 : Int32) : AG Int32 := anl (nGT 0 2088 0) (fun x_1 => (if a0 < x_1 then art (-2) else (if a0 ≤ 1440 then anl (x_X1_isFull) (fun r_7 => (if r_7 = 0 then anl (x_X1_openEntry) (fun r_11 => acl (x_X1_put 0 a0) (fun r_14 => art a0)) else art (-4))) else art (-2))))
set_option maxHeartbeats 4000000 in
set_option maxRecDepth 100000 in
theorem n_X11_now (l : Launch) (G : gG) (Z : gC) (Q : Nat → Nat) (D : Nat × Nat) (T : va_W) (u u1 : MS) (r : Int32) (C1 C2 : Nat) (a0 : Int32) (sz : Nat) (hF : x_X11_now a0 u = some (r, u1, C1, C2)) : Met l yX11_now (Cond.code yX11_now cX11_now 2 (some .int) :: wK) { frames := 4, cells := C1, slots := C2, locals := 108 } (va_Pc [.ref (Q 0), .int a0] (cPM G Z Q D T u sz)) (cQi G Q T u1 r (va_A (cW G Q D T u) sz)) C1 C2 (va_A (cW G Q D T u) sz) := by
  refine Met.ofW (cc := cX11_now) (maxL := 2) (ret := (some .int)) (by decide) rfl ?_
  intro p e s m args below meth c s₁ B hml hv
  obtain ⟨rfl, rfl, hP, hB, hD0, hE⟩ := hv
  have hr := B.returns
  have hlocks := B.notSynchronized
  have hts := atoms_spec (ws := Cond.code yX11_now cX11_now 2 (some .int) :: wK) B.pre
  have hD := hD0.self (sz := s.heap.size)
  have hA : ∀ q : Nat, s.heap.size ≤ q → va_A (cW G Q D T u) s.heap.size q := fun q h => Or.inr h
  generalize va_A (cW G Q D T u) s.heap.size = A at hD hA hE ⊢
  have hC : cX p c cX11_now 2 s m _ RX11 G Z A := ⟨B.exec, B.bytes, hml, findClass_of_methodNamed B.named, fun w h => hts w (List.mem_cons_of_mem _ h), hB, hE, hA⟩
  have hx := hC.1
  have hb := hC.2.1
  have hH : cH G Q D T A u s s.heap [] := ⟨hP, hD, va_S.rf⟩
  generalize hK1 : C1 = K1
  generalize hK2 : C2 = K2
  have hk1 : K1 = 0 + C1 := by omega
  have hk2 : K2 = 0 + C2 := by omega
  have hl := lv_entry ([.ref (Q 0), .int a0]) (n := 2) (Nat.le_of_ble_eq_true rfl)
  rw [lg_entry_eq]
  generalize (lg_sl ([.ref (Q 0), .int a0]) ++ List.replicate (2 - (lg_sl ([.ref (Q 0), .int a0])).length) Slot.unset).toArray = ls at hl ⊢
  have hl : lv_has ls 2 [(0, .ref (Q 0)), (1, .int a0)] := hl
  unfold x_X11_now at hF
  refine lv_iload_n hx hb dX11_now_0 rfl (lv_at hl 1 rfl) ?_
  refine lv_aload_n hx hb dX11_now_1 rfl (lv_at hl 0 rfl) ?_
  refine cg_X11_10 hC hH dX11_now_2 ?_
  refine lv_iconst (v := 0) hx hb dX11_now_5 (by decide) ?_
  refine bat (i := 1) (j := 11) hC hH rfl rfl (by decide) wka197 ⟨Nat.le_of_ble_eq_true rfl, Nat.le_of_ble_eq_true rfl⟩ hl.1 (Nat.le_of_ble_eq_true rfl) ⟨by show _ ≤ K1; omega, by show _ ≤ K2; omega⟩ dX11_now_6 ?_
  obtain ⟨x_1, u_2, h_3, hF⟩ := anl_some hF
  obtain ⟨e_4, rfl⟩ := nGT_eq h_3
  refine gx_ti e_4 ?_
  refine lv_icmp_lt (tgt := 19) hx hb dX11_now_9 (by decide) (fun c_5 => ?_) (fun c_5 => ?_)
  · rw [if_pos c_5] at hF
    refine lv_bipush (v := (-2)) hx hb dX11_now_19 (by decide) ?_
    exact cr_iA hC hH hr (art_eq hF) (by omega) (by omega) dX11_now_21 hlocks
  · rw [if_neg c_5] at hF
    refine lv_iload_n hx hb dX11_now_12 rfl (lv_at hl 1 rfl) ?_
    refine lv_sipush (v := 1440) hx hb dX11_now_13 (by decide) ?_
    refine lv_icmp_le (tgt := 22) hx hb dX11_now_16 (by decide) (fun c_6 => ?_) (fun c_6 => ?_)
    · rw [if_pos c_6] at hF
      refine lv_aload_n hx hb dX11_now_22 rfl (lv_at hl 0 rfl) ?_
      refine cg_X11_10 hC hH dX11_now_23 ?_
      obtain ⟨r_7, u_8, h_9, hF⟩ := anl_some hF
      refine ccV_iB (q0 := 1) (As := []) (rest := []) hC hH (n_X1_isFull l G Z Q _ T u u_8 r_7 _ h_9) rfl rfl ⟨wkc_X1_isFull, wka192, wka441, wka442, wka745⟩ kVX1_isFull ⟨Nat.le_of_ble_eq_true rfl, Nat.le_of_ble_eq_true rfl⟩ ⟨by show _ ≤ K1; omega, by show _ ≤ K2; omega⟩ rfl hl.1 rfl (Nat.le_of_ble_eq_true rfl) dX11_now_26 (fun D H locs hH => ?_)
      refine lv_if_eq (tgt := 35) hx hb dX11_now_29 (by decide) (fun c_10 => ?_) (fun c_10 => ?_)
      · rw [if_pos c_10] at hF
        refine lv_aload_n hx hb dX11_now_35 rfl (lv_at hl 0 rfl) ?_
        refine cg_X11_10 hC hH dX11_now_36 ?_
        obtain ⟨r_11, u_12, h_13, hF⟩ := anl_some hF
        refine ccV_vB (q0 := 1) (As := []) (rest := []) hC hH (n_X1_openEntry l G Z Q _ T u_8 u_12 r_11 _ h_13) rfl rfl ⟨wkc_X1_openEntry, wka193, wka443, wka444, wka745⟩ kVX1_openEntry ⟨Nat.le_of_ble_eq_true rfl, Nat.le_of_ble_eq_true rfl⟩ ⟨by show _ ≤ K1; omega, by show _ ≤ K2; omega⟩ rfl hl.1 rfl (Nat.le_of_ble_eq_true rfl) dX11_now_39 (fun D H locs hH => ?_)
        refine lv_aload_n hx hb dX11_now_42 rfl (lv_at hl 0 rfl) ?_
        refine cg_X11_10 hC hH dX11_now_43 ?_
        refine lv_iconst (v := 0) hx hb dX11_now_46 (by decide) ?_
        refine lv_iload_n hx hb dX11_now_47 rfl (lv_at hl 1 rfl) ?_
        obtain ⟨r_14, u_15, k_17, k_18, k_19, k_20, h_16, hF, e_21, e_22⟩ := acl_some hF
        refine ccV_vA (q0 := 1) (As := [.int 0, .int a0]) (rest := []) hC hH (n_X1_put l G Z Q _ T u_12 u_15 r_14 k_17 k_18 0 a0 _ h_16) rfl rfl ⟨wkc_X1_put, wka201, wka439, wka440, wka745⟩ kVX1_put ⟨Nat.le_of_ble_eq_true rfl, Nat.le_of_ble_eq_true rfl⟩ ⟨by show _ ≤ K1; omega, by show _ ≤ K2; omega⟩ rfl hl.1 rfl (Nat.le_of_ble_eq_true rfl) dX11_now_48 (fun D H locs hH => ?_)
        have hk1 := (hk1.trans (congrArg (_ + ·) e_21)).trans (Nat.add_assoc _ _ _).symm
        have hk2 := (hk2.trans (congrArg (_ + ·) e_22)).trans (Nat.add_assoc _ _ _).symm
        refine lv_iload_n hx hb dX11_now_51 rfl (lv_at hl 1 rfl) ?_
        exact cr_iA hC hH hr (art_eq hF) (by omega) (by omega) dX11_now_52 hlocks
      · rw [if_neg c_10] at hF
        refine lv_bipush (v := (-4)) hx hb dX11_now_32 (by decide) ?_
        exact cr_iA hC hH hr (art_eq hF) (by omega) (by omega) dX11_now_34 hlocks
    · rw [if_neg c_6] at hF
      refine lv_bipush (v := (-2)) hx hb dX11_now_19 (by decide) ?_
      exact cr_iA hC hH hr (art_eq hF) (by omega) (by omega) dX11_now_21 hlocks
def x_X11_rest (a0 : Int32) : AG Int32 := (if a0 < 0 then art (-2) else (if a0 ≤ 120 then anl (x_X1_isFull) (fun r_3 => (if r_3 = 0 then anl (x_X1_openEntry) (fun r_7 => anl (nGT 0 2088 1) (fun x_10 => acl (x_X1_put 1 a0) (fun r_14 => art x_10))) else art (-4))) else art (-2)))
set_option maxHeartbeats 4000000 in
set_option maxRecDepth 100000 in
theorem n_X11_rest (l : Launch) (G : gG) (Z : gC) (Q : Nat → Nat) (D : Nat × Nat) (T : va_W) (u u1 : MS) (r : Int32) (C1 C2 : Nat) (a0 : Int32) (sz : Nat) (hF : x_X11_rest a0 u = some (r, u1, C1, C2)) : Met l yX11_rest (Cond.code yX11_rest cX11_rest 3 (some .int) :: wK) { frames := 4, cells := C1, slots := C2, locals := 108 } (va_Pc [.ref (Q 0), .int a0] (cPM G Z Q D T u sz)) (cQi G Q T u1 r (va_A (cW G Q D T u) sz)) C1 C2 (va_A (cW G Q D T u) sz) := by
  refine Met.ofW (cc := cX11_rest) (maxL := 3) (ret := (some .int)) (by decide) rfl ?_
  intro p e s m args below meth c s₁ B hml hv
  obtain ⟨rfl, rfl, hP, hB, hD0, hE⟩ := hv
  have hr := B.returns
  have hlocks := B.notSynchronized
  have hts := atoms_spec (ws := Cond.code yX11_rest cX11_rest 3 (some .int) :: wK) B.pre
  have hD := hD0.self (sz := s.heap.size)
  have hA : ∀ q : Nat, s.heap.size ≤ q → va_A (cW G Q D T u) s.heap.size q := fun q h => Or.inr h
  generalize va_A (cW G Q D T u) s.heap.size = A at hD hA hE ⊢
  have hC : cX p c cX11_rest 3 s m _ RX11 G Z A := ⟨B.exec, B.bytes, hml, findClass_of_methodNamed B.named, fun w h => hts w (List.mem_cons_of_mem _ h), hB, hE, hA⟩
  have hx := hC.1
  have hb := hC.2.1
  have hH : cH G Q D T A u s s.heap [] := ⟨hP, hD, va_S.rf⟩
  generalize hK1 : C1 = K1
  generalize hK2 : C2 = K2
  have hk1 : K1 = 0 + C1 := by omega
  have hk2 : K2 = 0 + C2 := by omega
  have hl := lv_entry ([.ref (Q 0), .int a0]) (n := 3) (Nat.le_of_ble_eq_true rfl)
  rw [lg_entry_eq]
  generalize (lg_sl ([.ref (Q 0), .int a0]) ++ List.replicate (3 - (lg_sl ([.ref (Q 0), .int a0])).length) Slot.unset).toArray = ls at hl ⊢
  have hl : lv_has ls 3 [(0, .ref (Q 0)), (1, .int a0)] := hl
  unfold x_X11_rest at hF
  refine lv_iload_n hx hb dX11_rest_0 rfl (lv_at hl 1 rfl) ?_
  refine lv_if_lt (tgt := 10) hx hb dX11_rest_1 (by decide) (fun c_1 => ?_) (fun c_1 => ?_)
  · rw [if_pos c_1] at hF
    refine lv_bipush (v := (-2)) hx hb dX11_rest_10 (by decide) ?_
    exact cr_iA hC hH hr (art_eq hF) (by omega) (by omega) dX11_rest_12 hlocks
  · rw [if_neg c_1] at hF
    refine lv_iload_n hx hb dX11_rest_4 rfl (lv_at hl 1 rfl) ?_
    refine lv_bipush (v := 120) hx hb dX11_rest_5 (by decide) ?_
    refine lv_icmp_le (tgt := 13) hx hb dX11_rest_7 (by decide) (fun c_2 => ?_) (fun c_2 => ?_)
    · rw [if_pos c_2] at hF
      refine lv_aload_n hx hb dX11_rest_13 rfl (lv_at hl 0 rfl) ?_
      refine cg_X11_10 hC hH dX11_rest_14 ?_
      obtain ⟨r_3, u_4, h_5, hF⟩ := anl_some hF
      refine ccV_iB (q0 := 1) (As := []) (rest := []) hC hH (n_X1_isFull l G Z Q _ T u u_4 r_3 _ h_5) rfl rfl ⟨wkc_X1_isFull, wka192, wka441, wka442, wka745⟩ kVX1_isFull ⟨Nat.le_of_ble_eq_true rfl, Nat.le_of_ble_eq_true rfl⟩ ⟨by show _ ≤ K1; omega, by show _ ≤ K2; omega⟩ rfl hl.1 rfl (Nat.le_of_ble_eq_true rfl) dX11_rest_17 (fun D H locs hH => ?_)
      refine lv_if_eq (tgt := 26) hx hb dX11_rest_20 (by decide) (fun c_6 => ?_) (fun c_6 => ?_)
      · rw [if_pos c_6] at hF
        refine lv_aload_n hx hb dX11_rest_26 rfl (lv_at hl 0 rfl) ?_
        refine cg_X11_10 hC hH dX11_rest_27 ?_
        obtain ⟨r_7, u_8, h_9, hF⟩ := anl_some hF
        refine ccV_vB (q0 := 1) (As := []) (rest := []) hC hH (n_X1_openEntry l G Z Q _ T u_4 u_8 r_7 _ h_9) rfl rfl ⟨wkc_X1_openEntry, wka193, wka443, wka444, wka745⟩ kVX1_openEntry ⟨Nat.le_of_ble_eq_true rfl, Nat.le_of_ble_eq_true rfl⟩ ⟨by show _ ≤ K1; omega, by show _ ≤ K2; omega⟩ rfl hl.1 rfl (Nat.le_of_ble_eq_true rfl) dX11_rest_30 (fun D H locs hH => ?_)
        refine lv_aload_n hx hb dX11_rest_33 rfl (lv_at hl 0 rfl) ?_
        refine cg_X11_10 hC hH dX11_rest_34 ?_
        refine lv_iconst (v := 1) hx hb dX11_rest_37 (by decide) ?_
        refine bat (i := 1) (j := 11) hC hH rfl rfl (by decide) wka197 ⟨Nat.le_of_ble_eq_true rfl, Nat.le_of_ble_eq_true rfl⟩ hl.1 (Nat.le_of_ble_eq_true rfl) ⟨by show _ ≤ K1; omega, by show _ ≤ K2; omega⟩ dX11_rest_38 ?_
        obtain ⟨x_10, u_11, h_12, hF⟩ := anl_some hF
        obtain ⟨e_13, rfl⟩ := nGT_eq h_12
        refine gx_ti e_13 ?_
        refine lv_istore_n (lv' := [(2, .int x_10), (0, .ref (Q 0)), (1, .int a0)]) hx hb dX11_rest_41 rfl hl (by decide) rfl (fun ls hl => ?_)
        refine lv_aload_n hx hb dX11_rest_42 rfl (lv_at hl 1 rfl) ?_
        refine cg_X11_10 hC hH dX11_rest_43 ?_
        refine lv_iconst (v := 1) hx hb dX11_rest_46 (by decide) ?_
        refine lv_iload_n hx hb dX11_rest_47 rfl (lv_at hl 2 rfl) ?_
        obtain ⟨r_14, u_15, k_17, k_18, k_19, k_20, h_16, hF, e_21, e_22⟩ := acl_some hF
        refine ccV_vA (q0 := 1) (As := [.int 1, .int a0]) (rest := []) hC hH (n_X1_put l G Z Q _ T u_8 u_15 r_14 k_17 k_18 1 a0 _ h_16) rfl rfl ⟨wkc_X1_put, wka201, wka439, wka440, wka745⟩ kVX1_put ⟨Nat.le_of_ble_eq_true rfl, Nat.le_of_ble_eq_true rfl⟩ ⟨by show _ ≤ K1; omega, by show _ ≤ K2; omega⟩ rfl hl.1 rfl (Nat.le_of_ble_eq_true rfl) dX11_rest_48 (fun D H locs hH => ?_)
        have hk1 := (hk1.trans (congrArg (_ + ·) e_21)).trans (Nat.add_assoc _ _ _).symm
        have hk2 := (hk2.trans (congrArg (_ + ·) e_22)).trans (Nat.add_assoc _ _ _).symm
        refine lv_iload_n hx hb dX11_rest_51 rfl (lv_at hl 0 rfl) ?_
        exact cr_iA hC hH hr (art_eq hF) (by omega) (by omega) dX11_rest_52 hlocks
      · rw [if_neg c_6] at hF
        refine lv_bipush (v := (-4)) hx hb dX11_rest_23 (by decide) ?_
        exact cr_iA hC hH hr (art_eq hF) (by omega) (by omega) dX11_rest_25 hlocks
    · rw [if_neg c_2] at hF
      refine lv_bipush (v := (-2)) hx hb dX11_rest_10 (by decide) ?_
      exact cr_iA hC hH hr (art_eq hF) (by omega) (by omega) dX11_rest_12 hlocks
def x_X11_decide (a0 : Int32) (a1 : Int32) : AG Int32 := anl (x_X11_isMat a0) (fun r_1 => (if r_1 = 0 then art (-2) else anl (x_X11_isSide a1) (fun r_5 => (if r_5 = 0 then art (-2) else anl (x_X3_waits a0) (fun r_9 => (if r_9 = 0 then art (-3) else anl (x_X1_isFull) (fun r_13 => (if r_13 = 0 then anl (x_X1_openEntry) (fun r_17 => acl (x_X3_finish a0 a1 (-1) 0) (fun r_20 => anl (x_X3_classOn a0) (fun r_29 => anl (x_X0_settle r_29) (fun r_32 => art r_20)))) else art (-4)))))))))
set_option maxHeartbeats 4000000 in
set_option maxRecDepth 100000 in
theorem n_X11_decide (l : Launch) (G : gG) (Z : gC) (Q : Nat → Nat) (D : Nat × Nat) (T : va_W) (u u1 : MS) (r : Int32) (C1 C2 : Nat) (a0 : Int32) (a1 : Int32) (sz : Nat) (hF : x_X11_decide a0 a1 u = some (r, u1, C1, C2)) : Met l yX11_decide (Cond.code yX11_decide cX11_decide 4 (some .int) :: wK) { frames := 6, cells := C1, slots := C2, locals := 156 } (va_Pc [.ref (Q 0), .int a0, .int a1] (cPM G Z Q D T u sz)) (cQi G Q T u1 r (va_A (cW G Q D T u) sz)) C1 C2 (va_A (cW G Q D T u) sz) := by
  refine Met.ofW (cc := cX11_decide) (maxL := 4) (ret := (some .int)) (by decide) rfl ?_
  intro p e s m args below meth c s₁ B hml hv
  obtain ⟨rfl, rfl, hP, hB, hD0, hE⟩ := hv
  have hr := B.returns
  have hlocks := B.notSynchronized
  have hts := atoms_spec (ws := Cond.code yX11_decide cX11_decide 4 (some .int) :: wK) B.pre
  have hD := hD0.self (sz := s.heap.size)
  have hA : ∀ q : Nat, s.heap.size ≤ q → va_A (cW G Q D T u) s.heap.size q := fun q h => Or.inr h
  generalize va_A (cW G Q D T u) s.heap.size = A at hD hA hE ⊢
  have hC : cX p c cX11_decide 4 s m _ RX11 G Z A := ⟨B.exec, B.bytes, hml, findClass_of_methodNamed B.named, fun w h => hts w (List.mem_cons_of_mem _ h), hB, hE, hA⟩
  have hx := hC.1
  have hb := hC.2.1
  have hH : cH G Q D T A u s s.heap [] := ⟨hP, hD, va_S.rf⟩
  generalize hK1 : C1 = K1
  generalize hK2 : C2 = K2
  have hk1 : K1 = 0 + C1 := by omega
  have hk2 : K2 = 0 + C2 := by omega
  have hl := lv_entry ([.ref (Q 0), .int a0, .int a1]) (n := 4) (Nat.le_of_ble_eq_true rfl)
  rw [lg_entry_eq]
  generalize (lg_sl ([.ref (Q 0), .int a0, .int a1]) ++ List.replicate (4 - (lg_sl ([.ref (Q 0), .int a0, .int a1])).length) Slot.unset).toArray = ls at hl ⊢
  have hl : lv_has ls 4 [(0, .ref (Q 0)), (1, .int a0), (2, .int a1)] := hl
  unfold x_X11_decide at hF
  refine lv_iload_n hx hb dX11_decide_0 rfl (lv_at hl 1 rfl) ?_
  obtain ⟨r_1, u_2, h_3, hF⟩ := anl_some hF
  refine ccS_iB (As := [.int a0]) (rest := []) hC hH (n_X11_isMat l G Z Q _ T u u_2 r_1 a0 _ h_3) ⟨wkc_X11_isMat, wka286, wka729, wka755⟩ kSX11_isMat ⟨Nat.le_of_ble_eq_true rfl, Nat.le_of_ble_eq_true rfl⟩ ⟨by show _ ≤ K1; omega, by show _ ≤ K2; omega⟩ rfl hl.1 rfl (Nat.le_of_ble_eq_true rfl) dX11_decide_1 (fun D H locs hH => ?_)
  refine lv_if_eq (tgt := 14) hx hb dX11_decide_4 (by decide) (fun c_4 => ?_) (fun c_4 => ?_)
  · rw [if_pos c_4] at hF
    refine lv_bipush (v := (-2)) hx hb dX11_decide_14 (by decide) ?_
    exact cr_iA hC hH hr (art_eq hF) (by omega) (by omega) dX11_decide_16 hlocks
  · rw [if_neg c_4] at hF
    refine lv_iload_n hx hb dX11_decide_7 rfl (lv_at hl 2 rfl) ?_
    obtain ⟨r_5, u_6, h_7, hF⟩ := anl_some hF
    refine ccS_iB (As := [.int a1]) (rest := []) hC hH (n_X11_isSide l G Z Q _ T u_2 u_6 r_5 a1 _ h_7) ⟨wkc_X11_isSide, wka297, wka730, wka755⟩ kSX11_isSide ⟨Nat.le_of_ble_eq_true rfl, Nat.le_of_ble_eq_true rfl⟩ ⟨by show _ ≤ K1; omega, by show _ ≤ K2; omega⟩ rfl hl.1 rfl (Nat.le_of_ble_eq_true rfl) dX11_decide_8 (fun D H locs hH => ?_)
    refine lv_if_ne (tgt := 17) hx hb dX11_decide_11 (by decide) (fun c_8 => ?_) (fun c_8 => ?_)
    · rw [if_neg c_8] at hF
      refine lv_aload_n hx hb dX11_decide_17 rfl (lv_at hl 0 rfl) ?_
      refine cg_X11_60 hC hH dX11_decide_18 ?_
      refine lv_iload_n hx hb dX11_decide_21 rfl (lv_at hl 1 rfl) ?_
      obtain ⟨r_9, u_10, h_11, hF⟩ := anl_some hF
      refine ccV_iB (q0 := 7) (As := [.int a0]) (rest := []) hC hH (n_X3_waits l G Z Q _ T u_6 u_10 r_9 a0 _ h_11) rfl rfl ⟨wkc_X3_waits, wka320, wka477, wka478, wka747⟩ kVX3_waits ⟨Nat.le_of_ble_eq_true rfl, Nat.le_of_ble_eq_true rfl⟩ ⟨by show _ ≤ K1; omega, by show _ ≤ K2; omega⟩ rfl hl.1 rfl (Nat.le_of_ble_eq_true rfl) dX11_decide_22 (fun D H locs hH => ?_)
      refine lv_if_ne (tgt := 31) hx hb dX11_decide_25 (by decide) (fun c_12 => ?_) (fun c_12 => ?_)
      · rw [if_neg c_12] at hF
        refine lv_aload_n hx hb dX11_decide_31 rfl (lv_at hl 0 rfl) ?_
        refine cg_X11_10 hC hH dX11_decide_32 ?_
        obtain ⟨r_13, u_14, h_15, hF⟩ := anl_some hF
        refine ccV_iB (q0 := 1) (As := []) (rest := []) hC hH (n_X1_isFull l G Z Q _ T u_10 u_14 r_13 _ h_15) rfl rfl ⟨wkc_X1_isFull, wka192, wka441, wka442, wka745⟩ kVX1_isFull ⟨Nat.le_of_ble_eq_true rfl, Nat.le_of_ble_eq_true rfl⟩ ⟨by show _ ≤ K1; omega, by show _ ≤ K2; omega⟩ rfl hl.1 rfl (Nat.le_of_ble_eq_true rfl) dX11_decide_35 (fun D H locs hH => ?_)
        refine lv_if_eq (tgt := 44) hx hb dX11_decide_38 (by decide) (fun c_16 => ?_) (fun c_16 => ?_)
        · rw [if_pos c_16] at hF
          refine lv_aload_n hx hb dX11_decide_44 rfl (lv_at hl 0 rfl) ?_
          refine cg_X11_10 hC hH dX11_decide_45 ?_
          obtain ⟨r_17, u_18, h_19, hF⟩ := anl_some hF
          refine ccV_vB (q0 := 1) (As := []) (rest := []) hC hH (n_X1_openEntry l G Z Q _ T u_14 u_18 r_17 _ h_19) rfl rfl ⟨wkc_X1_openEntry, wka193, wka443, wka444, wka745⟩ kVX1_openEntry ⟨Nat.le_of_ble_eq_true rfl, Nat.le_of_ble_eq_true rfl⟩ ⟨by show _ ≤ K1; omega, by show _ ≤ K2; omega⟩ rfl hl.1 rfl (Nat.le_of_ble_eq_true rfl) dX11_decide_48 (fun D H locs hH => ?_)
          refine lv_aload_n hx hb dX11_decide_51 rfl (lv_at hl 0 rfl) ?_
          refine cg_X11_60 hC hH dX11_decide_52 ?_
          refine lv_iload_n hx hb dX11_decide_55 rfl (lv_at hl 1 rfl) ?_
          refine lv_iload_n hx hb dX11_decide_56 rfl (lv_at hl 2 rfl) ?_
          refine lv_iconst (v := (-1)) hx hb dX11_decide_57 (by decide) ?_
          refine lv_iconst (v := 0) hx hb dX11_decide_58 (by decide) ?_
          obtain ⟨r_20, u_21, k_23, k_24, k_25, k_26, h_22, hF, e_27, e_28⟩ := acl_some hF
          refine ccV_iA (q0 := 7) (As := [.int a0, .int a1, .int (-1), .int 0]) (rest := []) hC hH (n_X3_finish l G Z Q _ T u_18 u_21 r_20 k_23 k_24 a0 a1 (-1) 0 _ h_22) rfl rfl ⟨wkc_X3_finish, wka321, wka508, wka509, wka747⟩ kVX3_finish ⟨Nat.le_of_ble_eq_true rfl, Nat.le_of_ble_eq_true rfl⟩ ⟨by show _ ≤ K1; omega, by show _ ≤ K2; omega⟩ rfl hl.1 rfl (Nat.le_of_ble_eq_true rfl) dX11_decide_59 (fun D H locs hH => ?_)
          have hk1 := (hk1.trans (congrArg (_ + ·) e_27)).trans (Nat.add_assoc _ _ _).symm
          have hk2 := (hk2.trans (congrArg (_ + ·) e_28)).trans (Nat.add_assoc _ _ _).symm
          refine lv_istore_n (lv' := [(3, .int r_20), (0, .ref (Q 0)), (1, .int a0), (2, .int a1)]) hx hb dX11_decide_62 rfl hl (by decide) rfl (fun ls hl => ?_)
          refine lv_aload_n hx hb dX11_decide_63 rfl (lv_at hl 1 rfl) ?_
          refine cg_X11_51 hC hH dX11_decide_64 ?_
          refine lv_aload_n hx hb dX11_decide_67 rfl (lv_at hl 1 rfl) ?_
          refine cg_X11_60 hC hH dX11_decide_68 ?_
          refine lv_iload_n hx hb dX11_decide_71 rfl (lv_at hl 2 rfl) ?_
          obtain ⟨r_29, u_30, h_31, hF⟩ := anl_some hF
          refine ccV_iB (q0 := 7) (As := [.int a0]) (rest := [.ref (Q 6)]) hC hH (n_X3_classOn l G Z Q _ T u_21 u_30 r_29 a0 _ h_31) rfl rfl ⟨wkc_X3_classOn, wka317, wka475, wka476, wka747⟩ kVX3_classOn ⟨Nat.le_of_ble_eq_true rfl, Nat.le_of_ble_eq_true rfl⟩ ⟨by show _ ≤ K1; omega, by show _ ≤ K2; omega⟩ rfl hl.1 rfl (Nat.le_of_ble_eq_true rfl) dX11_decide_72 (fun D H locs hH => ?_)
          obtain ⟨r_32, u_33, h_34, hF⟩ := anl_some hF
          refine ccV_vB (q0 := 6) (As := [.int r_29]) (rest := []) hC hH (n_X0_settle l G Z Q _ T u_30 u_33 r_32 r_29 _ h_34) rfl rfl ⟨wkc_X0_settle, wka253, wka413, wka414, wka744⟩ kVX0_settle ⟨Nat.le_of_ble_eq_true rfl, Nat.le_of_ble_eq_true rfl⟩ ⟨by show _ ≤ K1; omega, by show _ ≤ K2; omega⟩ rfl hl.1 rfl (Nat.le_of_ble_eq_true rfl) dX11_decide_75 (fun D H locs hH => ?_)
          refine lv_iload_n hx hb dX11_decide_78 rfl (lv_at hl 0 rfl) ?_
          exact cr_iA hC hH hr (art_eq hF) (by omega) (by omega) dX11_decide_79 hlocks
        · rw [if_neg c_16] at hF
          refine lv_bipush (v := (-4)) hx hb dX11_decide_41 (by decide) ?_
          exact cr_iA hC hH hr (art_eq hF) (by omega) (by omega) dX11_decide_43 hlocks
      · rw [if_pos c_12] at hF
        refine lv_bipush (v := (-3)) hx hb dX11_decide_28 (by decide) ?_
        exact cr_iA hC hH hr (art_eq hF) (by omega) (by omega) dX11_decide_30 hlocks
    · rw [if_pos c_8] at hF
      refine lv_bipush (v := (-2)) hx hb dX11_decide_14 (by decide) ?_
      exact cr_iA hC hH hr (art_eq hF) (by omega) (by omega) dX11_decide_16 hlocks
def x_X11_strike (a0 : Int32) (a1 : Int32) : AG Int32 := anl (x_X0_has a0 a1) (fun r_1 => (if r_1 = 0 then art (-2) else anl (x_X0_stateOf a0 a1) (fun r_5 => (if r_5 = 3 then anl (x_X1_isFull) (fun r_9 => (if r_9 = 0 then anl (x_X1_openEntry) (fun r_13 => acl (x_X3_strikeFrom a0 a1) (fun r_16 => art r_16)) else art (-4))) else art (-3)))))
set_option maxHeartbeats 4000000 in
set_option maxRecDepth 100000 in
theorem n_X11_strike (l : Launch) (G : gG) (Z : gC) (Q : Nat → Nat) (D : Nat × Nat) (T : va_W) (u u1 : MS) (r : Int32) (C1 C2 : Nat) (a0 : Int32) (a1 : Int32) (sz : Nat) (hF : x_X11_strike a0 a1 u = some (r, u1, C1, C2)) : Met l yX11_strike (Cond.code yX11_strike cX11_strike 3 (some .int) :: wK) { frames := 7, cells := C1, slots := C2, locals := 176 } (va_Pc [.ref (Q 0), .int a0, .int a1] (cPM G Z Q D T u sz)) (cQi G Q T u1 r (va_A (cW G Q D T u) sz)) C1 C2 (va_A (cW G Q D T u) sz) := by
  refine Met.ofW (cc := cX11_strike) (maxL := 3) (ret := (some .int)) (by decide) rfl ?_
  intro p e s m args below meth c s₁ B hml hv
  obtain ⟨rfl, rfl, hP, hB, hD0, hE⟩ := hv
  have hr := B.returns
  have hlocks := B.notSynchronized
  have hts := atoms_spec (ws := Cond.code yX11_strike cX11_strike 3 (some .int) :: wK) B.pre
  have hD := hD0.self (sz := s.heap.size)
  have hA : ∀ q : Nat, s.heap.size ≤ q → va_A (cW G Q D T u) s.heap.size q := fun q h => Or.inr h
  generalize va_A (cW G Q D T u) s.heap.size = A at hD hA hE ⊢
  have hC : cX p c cX11_strike 3 s m _ RX11 G Z A := ⟨B.exec, B.bytes, hml, findClass_of_methodNamed B.named, fun w h => hts w (List.mem_cons_of_mem _ h), hB, hE, hA⟩
  have hx := hC.1
  have hb := hC.2.1
  have hH : cH G Q D T A u s s.heap [] := ⟨hP, hD, va_S.rf⟩
  generalize hK1 : C1 = K1
  generalize hK2 : C2 = K2
  have hk1 : K1 = 0 + C1 := by omega
  have hk2 : K2 = 0 + C2 := by omega
  have hl := lv_entry ([.ref (Q 0), .int a0, .int a1]) (n := 3) (Nat.le_of_ble_eq_true rfl)
  rw [lg_entry_eq]
  generalize (lg_sl ([.ref (Q 0), .int a0, .int a1]) ++ List.replicate (3 - (lg_sl ([.ref (Q 0), .int a0, .int a1])).length) Slot.unset).toArray = ls at hl ⊢
  have hl : lv_has ls 3 [(0, .ref (Q 0)), (1, .int a0), (2, .int a1)] := hl
  unfold x_X11_strike at hF
  refine lv_aload_n hx hb dX11_strike_0 rfl (lv_at hl 0 rfl) ?_
  refine cg_X11_51 hC hH dX11_strike_1 ?_
  refine lv_iload_n hx hb dX11_strike_4 rfl (lv_at hl 1 rfl) ?_
  refine lv_iload_n hx hb dX11_strike_5 rfl (lv_at hl 2 rfl) ?_
  obtain ⟨r_1, u_2, h_3, hF⟩ := anl_some hF
  refine ccV_iB (q0 := 6) (As := [.int a0, .int a1]) (rest := []) hC hH (n_X0_has l G Z Q _ T u u_2 r_1 a0 a1 _ h_3) rfl rfl ⟨wkc_X0_has, wka280, wka399, wka400, wka744⟩ kVX0_has ⟨Nat.le_of_ble_eq_true rfl, Nat.le_of_ble_eq_true rfl⟩ ⟨by show _ ≤ K1; omega, by show _ ≤ K2; omega⟩ rfl hl.1 rfl (Nat.le_of_ble_eq_true rfl) dX11_strike_6 (fun D H locs hH => ?_)
  refine lv_if_ne (tgt := 15) hx hb dX11_strike_9 (by decide) (fun c_4 => ?_) (fun c_4 => ?_)
  · rw [if_neg c_4] at hF
    refine lv_aload_n hx hb dX11_strike_15 rfl (lv_at hl 0 rfl) ?_
    refine cg_X11_51 hC hH dX11_strike_16 ?_
    refine lv_iload_n hx hb dX11_strike_19 rfl (lv_at hl 1 rfl) ?_
    refine lv_iload_n hx hb dX11_strike_20 rfl (lv_at hl 2 rfl) ?_
    obtain ⟨r_5, u_6, h_7, hF⟩ := anl_some hF
    refine ccV_iB (q0 := 6) (As := [.int a0, .int a1]) (rest := []) hC hH (n_X0_stateOf l G Z Q _ T u_2 u_6 r_5 a0 a1 _ h_7) rfl rfl ⟨wkc_X0_stateOf, wka281, wka407, wka408, wka744⟩ kVX0_stateOf ⟨Nat.le_of_ble_eq_true rfl, Nat.le_of_ble_eq_true rfl⟩ ⟨by show _ ≤ K1; omega, by show _ ≤ K2; omega⟩ rfl hl.1 rfl (Nat.le_of_ble_eq_true rfl) dX11_strike_21 (fun D H locs hH => ?_)
    refine lv_iconst (v := 3) hx hb dX11_strike_24 (by decide) ?_
    refine lv_icmp_eq (tgt := 31) hx hb dX11_strike_25 (by decide) (fun c_8 => ?_) (fun c_8 => ?_)
    · rw [if_pos c_8] at hF
      refine lv_aload_n hx hb dX11_strike_31 rfl (lv_at hl 0 rfl) ?_
      refine cg_X11_10 hC hH dX11_strike_32 ?_
      obtain ⟨r_9, u_10, h_11, hF⟩ := anl_some hF
      refine ccV_iB (q0 := 1) (As := []) (rest := []) hC hH (n_X1_isFull l G Z Q _ T u_6 u_10 r_9 _ h_11) rfl rfl ⟨wkc_X1_isFull, wka192, wka441, wka442, wka745⟩ kVX1_isFull ⟨Nat.le_of_ble_eq_true rfl, Nat.le_of_ble_eq_true rfl⟩ ⟨by show _ ≤ K1; omega, by show _ ≤ K2; omega⟩ rfl hl.1 rfl (Nat.le_of_ble_eq_true rfl) dX11_strike_35 (fun D H locs hH => ?_)
      refine lv_if_eq (tgt := 44) hx hb dX11_strike_38 (by decide) (fun c_12 => ?_) (fun c_12 => ?_)
      · rw [if_pos c_12] at hF
        refine lv_aload_n hx hb dX11_strike_44 rfl (lv_at hl 0 rfl) ?_
        refine cg_X11_10 hC hH dX11_strike_45 ?_
        obtain ⟨r_13, u_14, h_15, hF⟩ := anl_some hF
        refine ccV_vB (q0 := 1) (As := []) (rest := []) hC hH (n_X1_openEntry l G Z Q _ T u_10 u_14 r_13 _ h_15) rfl rfl ⟨wkc_X1_openEntry, wka193, wka443, wka444, wka745⟩ kVX1_openEntry ⟨Nat.le_of_ble_eq_true rfl, Nat.le_of_ble_eq_true rfl⟩ ⟨by show _ ≤ K1; omega, by show _ ≤ K2; omega⟩ rfl hl.1 rfl (Nat.le_of_ble_eq_true rfl) dX11_strike_48 (fun D H locs hH => ?_)
        refine lv_aload_n hx hb dX11_strike_51 rfl (lv_at hl 0 rfl) ?_
        refine cg_X11_60 hC hH dX11_strike_52 ?_
        refine lv_iload_n hx hb dX11_strike_55 rfl (lv_at hl 1 rfl) ?_
        refine lv_iload_n hx hb dX11_strike_56 rfl (lv_at hl 2 rfl) ?_
        obtain ⟨r_16, u_17, k_19, k_20, k_21, k_22, h_18, hF, e_23, e_24⟩ := acl_some hF
        refine ccV_iA (q0 := 7) (As := [.int a0, .int a1]) (rest := []) hC hH (n_X3_strikeFrom l G Z Q _ T u_14 u_17 r_16 k_19 k_20 a0 a1 _ h_18) rfl rfl ⟨wkc_X3_strikeFrom, wka324, wka512, wka513, wka747⟩ kVX3_strikeFrom ⟨Nat.le_of_ble_eq_true rfl, Nat.le_of_ble_eq_true rfl⟩ ⟨by show _ ≤ K1; omega, by show _ ≤ K2; omega⟩ rfl hl.1 rfl (Nat.le_of_ble_eq_true rfl) dX11_strike_57 (fun D H locs hH => ?_)
        have hk1 := (hk1.trans (congrArg (_ + ·) e_23)).trans (Nat.add_assoc _ _ _).symm
        have hk2 := (hk2.trans (congrArg (_ + ·) e_24)).trans (Nat.add_assoc _ _ _).symm
        exact cr_iA hC hH hr (art_eq hF) (by omega) (by omega) dX11_strike_60 hlocks
      · rw [if_neg c_12] at hF
        refine lv_bipush (v := (-4)) hx hb dX11_strike_41 (by decide) ?_
        exact cr_iA hC hH hr (art_eq hF) (by omega) (by omega) dX11_strike_43 hlocks
    · rw [if_neg c_8] at hF
      refine lv_bipush (v := (-3)) hx hb dX11_strike_28 (by decide) ?_
      exact cr_iA hC hH hr (art_eq hF) (by omega) (by omega) dX11_strike_30 hlocks
  · rw [if_pos c_4] at hF
    refine lv_bipush (v := (-2)) hx hb dX11_strike_12 (by decide) ?_
    exact cr_iA hC hH hr (art_eq hF) (by omega) (by omega) dX11_strike_14 hlocks

