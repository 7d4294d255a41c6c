section
def lp_readLaws_148 : Nat → Int32 → (Int32 → PG (Option Int32)) → PG (Option Int32)
  | 0, _, _ => fun _ => none
  | n148 + 1, v1, K148_192 => prf 29 (fun x_69 => prd 33 8 x_69 (fun x_71 => (if x_71 ≤ v1 then K148_192 v1 else prf 29 (fun x_75 => prf 44 (fun x_77 => psr (x_77 + v1) (fun x_79 => pwd 32 80 ((10 * x_75) + v1) (vp_nar .byte x_79) (pli (v1 + 1) (fun x_85 => lp_readLaws_148 n148 x_85 K148_192))))))))
def lp_readLaws_73 : Nat → (PG (Option Int32)) → PG (Option Int32)
  | 0, _ => fun _ => none
  | n73 + 1, K73_216 => pcl (f_is 3) (fun r_42 => (if r_42 = 0 then K73_216  else prf 29 (fun x_46 => (if x_46 = 8 then prf 44 (fun x_103 => pcl (f_wrong 3 x_103) (fun r_105 => prt none)) else pcl (f_scan) (fun r_49 => pcl (f_name) (fun r_52 => pot r_52 (prt none) (fun r_55 => pcl (f_findSign) (fun r_56 => (if r_56 = (-1) then prf 29 (fun x_60 => prf 45 (fun x_62 => prf 44 (fun x_64 => pwd 33 8 x_60 (x_62 - x_64) (lp_readLaws_148 fuel 0 (fun v1 => prf 29 (fun x_87 => pwf 29 (x_87 + 1) (pcl (f_scan) (fun r_91 => pcl (f_need 14) (fun r_94 => pot r_94 (prt none) (fun r_97 => lp_readLaws_73 n73  K73_216)))))))))) else prf 44 (fun x_98 => pcl (f_wrong 2 x_98) (fun r_100 => prt none)))))))))))
def lp_readLaws_223 : Nat → (PG (Option Int32)) → PG (Option Int32)
  | 0, _ => fun _ => none
  | n223 + 1, K223_336 => pcl (f_is 4) (fun r_111 => (if r_111 = 0 then K223_336  else prf 30 (fun x_115 => (if x_115 = 20 then prf 44 (fun x_188 => pcl (f_wrong 3 x_188) (fun r_190 => prt none)) else pcl (f_scan) (fun r_118 => prf 30 (fun x_121 => pwd 35 20 x_121 1 (prf 46 (fun x_126 => (if x_126 = 2 then prf 30 (fun x_154 => pcl (f_number) (fun r_156 => pot r_156 (prt none) (fun r_159 => pwd 35 20 x_154 r_159 (pcl (f_need 5) (fun r_163 => pot r_163 (prt none) (fun r_166 => pwf 48 0 (pcl (fP 32 0 0 0 0 0) (fun r_169 => pot r_169 (prt none) (fun r_172 => pcl (f_need 14) (fun r_173 => pot r_173 (prt none) (fun r_176 => prf 30 (fun x_177 => pwf 30 (x_177 + 1) (prf 30 (fun x_181 => prf 31 (fun x_183 => pwd 34 21 x_181 x_183 (lp_readLaws_223 n223  K223_336)))))))))))))))) else pcl (f_need 5) (fun r_129 => pot r_129 (prt none) (fun r_132 => pwf 48 0 (pcl (fP 32 0 0 0 0 0) (fun r_135 => pot r_135 (prt none) (fun r_138 => pcl (f_need 14) (fun r_139 => pot r_139 (prt none) (fun r_142 => prf 30 (fun x_143 => pwf 30 (x_143 + 1) (prf 30 (fun x_147 => prf 31 (fun x_149 => pwd 34 21 x_147 x_149 (lp_readLaws_223 n223  K223_336)))))))))))))))))))))
def f_readLaws  : PG (Option Int32) := pclL (pwf 29 0 (pwf 30 0 (pwf 31 0 (pwf 51 0 (pwf 45 0 (pcl (f_scan) (fun r_11 => pcl (f_need 1) (fun r_14 => pot r_14 (prt none) (fun r_17 => pcl (f_number) (fun r_18 => pot r_18 (prt none) (fun r_21 => pwf 27 r_21 (pcl (f_need 14) (fun r_24 => pot r_24 (prt none) (fun r_27 => pcl (f_need 2) (fun r_28 => pot r_28 (prt none) (fun r_31 => pcl (f_number) (fun r_32 => pot r_32 (prt none) (fun r_35 => pwf 28 r_35 (pcl (f_need 14) (fun r_38 => pot r_38 (prt none) (fun r_41 => lp_readLaws_73 fuel  (pwd 34 21 0 0 (lp_readLaws_223 fuel  (prf 46 (fun x_193 => (if x_193 = 0 then prt (some 0) else prf 44 (fun x_196 => pcl (f_wrong 1 x_196) (fun r_198 => prt none))))))))))))))))))))))))))))
set_option maxHeartbeats 4000000 in
set_option maxRecDepth 100000 in
theorem m_readLaws (l : Launch) (G : gG) (Z : gM) (Q : Nat → Nat) (u u1 : GS) (r : Int32)  (sz : Nat) (hF : f_readLaws u = some (some r, u1)) : Met l yX13_readLaws (Cond.code yX13_readLaws cX13_readLaws 2 none :: wM) { frames := 405, cells := 0, slots := 0, locals := 4900 } (va_Pc [.ref (Q 72)] (mPM G Z Q u.1 sz)) (mQv G Q u1.1 sz) 0 0 (mA Q sz) := by
  refine Met.ofW (cc := cX13_readLaws) (maxL := 2) (ret := none) (by decide) rfl ?_
  intro p e s m args below meth c s₁ B hml hv
  obtain ⟨rfl, rfl, hP, hB, hD, hE⟩ := hv
  have hr := B.returns
  have hlocks := B.notSynchronized
  have hts := atoms_spec (ws := Cond.code yX13_readLaws cX13_readLaws 2 none :: wM) B.pre
  have hC : mX p c cX13_readLaws 2 s m _ G Z Q := ⟨B.exec, B.bytes, hml, findClass_of_methodNamed B.named, fun w h => hts w (List.mem_cons_of_mem _ h), hB, hE⟩
  have hx := hC.1
  have hb := hC.2.1
  have hH : mH G Q u.1 s s.heap [] := ⟨hP, hD, va_S.rf⟩
  have hl := lv_entry ([.ref (Q 72)]) (n := 2) (Nat.le_of_ble_eq_true rfl)
  rw [lg_entry_eq]
  generalize (lg_sl ([.ref (Q 72)]) ++ List.replicate (2 - (lg_sl ([.ref (Q 72)])).length) Slot.unset).toArray = ls at hl ⊢
  have hl : lv_has ls 2 [(0, .ref (Q 72))] := hl
  unfold f_readLaws at hF
  obtain ⟨u0, e0, hF⟩ := pclL_some hF
  rw [e0] at hH
  refine lv_aload_n hx hb dX13_readLaws_0 rfl (lv_at hl 0 rfl) ?_
  refine lv_iconst (v := 0) hx hb dX13_readLaws_1 (by decide) ?_
  obtain ⟨u_1, e_2, hF⟩ := pwf_some hF
  refine mp_29 hC hH e_2 dX13_readLaws_2 (fun H locs hH => ?_)
  refine lv_aload_n hx hb dX13_readLaws_5 rfl (lv_at hl 0 rfl) ?_
  refine lv_iconst (v := 0) hx hb dX13_readLaws_6 (by decide) ?_
  obtain ⟨u_3, e_4, hF⟩ := pwf_some hF
  refine mp_30 hC hH e_4 dX13_readLaws_7 (fun H locs hH => ?_)
  refine lv_aload_n hx hb dX13_readLaws_10 rfl (lv_at hl 0 rfl) ?_
  refine lv_iconst (v := 0) hx hb dX13_readLaws_11 (by decide) ?_
  obtain ⟨u_5, e_6, hF⟩ := pwf_some hF
  refine mp_31 hC hH e_6 dX13_readLaws_12 (fun H locs hH => ?_)
  refine lv_aload_n hx hb dX13_readLaws_15 rfl (lv_at hl 0 rfl) ?_
  refine lv_iconst (v := 0) hx hb dX13_readLaws_16 (by decide) ?_
  obtain ⟨u_7, e_8, hF⟩ := pwf_some hF
  refine mp_51 hC hH e_8 dX13_readLaws_17 (fun H locs hH => ?_)
  refine lv_aload_n hx hb dX13_readLaws_20 rfl (lv_at hl 0 rfl) ?_
  refine lv_iconst (v := 0) hx hb dX13_readLaws_21 (by decide) ?_
  obtain ⟨u_9, e_10, hF⟩ := pwf_some hF
  refine mp_45 hC hH e_10 dX13_readLaws_22 (fun H locs hH => ?_)
  refine lv_aload_n hx hb dX13_readLaws_25 rfl (lv_at hl 0 rfl) ?_
  obtain ⟨r_11, u_12, h_13, hF⟩ := pcl_some hF
  refine mcV_v (As := []) (rest := []) hC hH (m_scan l G Z Q u_9 u_12 r_11  _ h_13) kwX13_scan kVX13_scan ⟨Nat.le_of_ble_eq_true rfl, Nat.le_of_ble_eq_true rfl⟩ rfl hl.1 rfl (Nat.le_of_ble_eq_true rfl) dX13_readLaws_26 (fun H locs hH => ?_)
  refine lv_aload_n hx hb dX13_readLaws_29 rfl (lv_at hl 0 rfl) ?_
  refine th_ldcw (tx := sTx 1) hx hb hC.2.2.2.1 (hC.2.2.2.2.2.2.2.2.1 1 (by decide)) dX13_readLaws_30 ?_
  obtain ⟨r_14, u_15, h_16, hF⟩ := pcl_some hF
  cases r_14 with
  | none =>
    have hF := pot_none hF
    exact (prt_no hF).elim
  | some r_17 =>
    have hF := pot_some hF
    refine mcV_v (As := [.ref (Z.1 1)]) (rest := []) hC hH (m_need l G Z Q u_12 u_15 r_17 1 _ h_16 (by decide)) kwX13_need kVX13_need ⟨Nat.le_of_ble_eq_true rfl, Nat.le_of_ble_eq_true rfl⟩ rfl hl.1 rfl (Nat.le_of_ble_eq_true rfl) dX13_readLaws_33 (fun H locs hH => ?_)
    refine lv_aload_n hx hb dX13_readLaws_36 rfl (lv_at hl 0 rfl) ?_
    refine lv_aload_n hx hb dX13_readLaws_37 rfl (lv_at hl 0 rfl) ?_
    obtain ⟨r_18, u_19, h_20, hF⟩ := pcl_some hF
    cases r_18 with
    | none =>
      have hF := pot_none hF
      exact (prt_no hF).elim
    | some r_21 =>
      have hF := pot_some hF
      refine mcV_i (As := []) (rest := [.ref (Q 72)]) hC hH (m_number l G Z Q u_15 u_19 r_21  _ h_20) kwX13_number kVX13_number ⟨Nat.le_of_ble_eq_true rfl, Nat.le_of_ble_eq_true rfl⟩ rfl hl.1 rfl (Nat.le_of_ble_eq_true rfl) dX13_readLaws_38 (fun H locs hH => ?_)
      obtain ⟨u_22, e_23, hF⟩ := pwf_some hF
      refine mp_27 hC hH e_23 dX13_readLaws_41 (fun H locs hH => ?_)
      refine lv_aload_n hx hb dX13_readLaws_44 rfl (lv_at hl 0 rfl) ?_
      refine th_ldcw (tx := sTx 14) hx hb hC.2.2.2.1 (hC.2.2.2.2.2.2.2.2.1 14 (by decide)) dX13_readLaws_45 ?_
      obtain ⟨r_24, u_25, h_26, hF⟩ := pcl_some hF
      cases r_24 with
      | none =>
        have hF := pot_none hF
        exact (prt_no hF).elim
      | some r_27 =>
        have hF := pot_some hF
        refine mcV_v (As := [.ref (Z.1 14)]) (rest := []) hC hH (m_need l G Z Q u_22 u_25 r_27 14 _ h_26 (by decide)) kwX13_need kVX13_need ⟨Nat.le_of_ble_eq_true rfl, Nat.le_of_ble_eq_true rfl⟩ rfl hl.1 rfl (Nat.le_of_ble_eq_true rfl) dX13_readLaws_48 (fun H locs hH => ?_)
        refine lv_aload_n hx hb dX13_readLaws_51 rfl (lv_at hl 0 rfl) ?_
        refine th_ldcw (tx := sTx 2) hx hb hC.2.2.2.1 (hC.2.2.2.2.2.2.2.2.1 2 (by decide)) dX13_readLaws_52 ?_
        obtain ⟨r_28, u_29, h_30, hF⟩ := pcl_some hF
        cases r_28 with
        | none =>
          have hF := pot_none hF
          exact (prt_no hF).elim
        | some r_31 =>
          have hF := pot_some hF
          refine mcV_v (As := [.ref (Z.1 2)]) (rest := []) hC hH (m_need l G Z Q u_25 u_29 r_31 2 _ h_30 (by decide)) kwX13_need kVX13_need ⟨Nat.le_of_ble_eq_true rfl, Nat.le_of_ble_eq_true rfl⟩ rfl hl.1 rfl (Nat.le_of_ble_eq_true rfl) dX13_readLaws_55 (fun H locs hH => ?_)
          refine lv_aload_n hx hb dX13_readLaws_58 rfl (lv_at hl 0 rfl) ?_
          refine lv_aload_n hx hb dX13_readLaws_59 rfl (lv_at hl 0 rfl) ?_
          obtain ⟨r_32, u_33, h_34, hF⟩ := pcl_some hF
          cases r_32 with
          | none =>
            have hF := pot_none hF
            exact (prt_no hF).elim
          | some r_35 =>
            have hF := pot_some hF
            refine mcV_i (As := []) (rest := [.ref (Q 72)]) hC hH (m_number l G Z Q u_29 u_33 r_35  _ h_34) kwX13_number kVX13_number ⟨Nat.le_of_ble_eq_true rfl, Nat.le_of_ble_eq_true rfl⟩ rfl hl.1 rfl (Nat.le_of_ble_eq_true rfl) dX13_readLaws_60 (fun H locs hH => ?_)
            obtain ⟨u_36, e_37, hF⟩ := pwf_some hF
            refine mp_28 hC hH e_37 dX13_readLaws_63 (fun H locs hH => ?_)
            refine lv_aload_n hx hb dX13_readLaws_66 rfl (lv_at hl 0 rfl) ?_
            refine th_ldcw (tx := sTx 14) hx hb hC.2.2.2.1 (hC.2.2.2.2.2.2.2.2.1 14 (by decide)) dX13_readLaws_67 ?_
            obtain ⟨r_38, u_39, h_40, hF⟩ := pcl_some hF
            cases r_38 with
            | none =>
              have hF := pot_none hF
              exact (prt_no hF).elim
            | some r_41 =>
              have hF := pot_some hF
              refine mcV_v (As := [.ref (Z.1 14)]) (rest := []) hC hH (m_need l G Z Q u_36 u_39 r_41 14 _ h_40 (by decide)) kwX13_need kVX13_need ⟨Nat.le_of_ble_eq_true rfl, Nat.le_of_ble_eq_true rfl⟩ rfl hl.1 rfl (Nat.le_of_ble_eq_true rfl) dX13_readLaws_70 (fun H locs hH => ?_)
              have hL73 : ∀ (K73_216 : PG (Option Int32)), (∀ (u : GS) (H : Heap) (locs : List Loc) (ls : Array Slot), lv_has ls 2 [(0, .ref (Q 72))] → mH G Q u.1 s H locs → K73_216  u = some ((some r, u1)) → W p l e (headSpec (Cond.code yX13_readLaws cX13_readLaws 2 none :: wM) { frames := 405, cells := 0, slots := 0, locals := 4900 }).room s m [.ref (Q 72)].toArray below meth c H locs 0 0 (MQ below (mQv G Q u1.1 s.heap.size) [.ref (Q 72)].toArray s 0 0 (mA Q s.heap.size)) (F0 m 216 ls [])) → ∀ (n73 : Nat) (u : GS) (H : Heap) (locs : List Loc) (ls : Array Slot), lv_has ls 2 [(0, .ref (Q 72))] → mH G Q u.1 s H locs → lp_readLaws_73 n73  K73_216 u = some ((some r, u1)) → W p l e (headSpec (Cond.code yX13_readLaws cX13_readLaws 2 none :: wM) { frames := 405, cells := 0, slots := 0, locals := 4900 }).room s m [.ref (Q 72)].toArray below meth c H locs 0 0 (MQ below (mQv G Q u1.1 s.heap.size) [.ref (Q 72)].toArray s 0 0 (mA Q s.heap.size)) (F0 m 73 ls []) := by
                intro K73_216 hK73_216 n73
                induction n73 with
                | zero => intro  u H locs ls hl hH hF; cases hF
                | succ n73 ih73 =>
                  intro  u H locs ls hl hH hF
                  unfold lp_readLaws_73 at hF
                  refine lv_aload_n hx hb dX13_readLaws_73 rfl (lv_at hl 0 rfl) ?_
                  refine th_ldcw (tx := sTx 3) hx hb hC.2.2.2.1 (hC.2.2.2.2.2.2.2.2.1 3 (by decide)) dX13_readLaws_74 ?_
                  obtain ⟨r_42, u_43, h_44, hF⟩ := pcl_some hF
                  refine mcV_i (As := [.ref (Z.1 3)]) (rest := []) hC hH (m_is l G Z Q u u_43 r_42 3 _ h_44 (by decide)) kwX13_is kVX13_is ⟨Nat.le_of_ble_eq_true rfl, Nat.le_of_ble_eq_true rfl⟩ rfl hl.1 rfl (Nat.le_of_ble_eq_true rfl) dX13_readLaws_77 (fun H locs hH => ?_)
                  refine lv_if_eq (tgt := 216) hx hb dX13_readLaws_80 (by decide) (fun c_45 => ?_) (fun c_45 => ?_)
                  · rw [if_pos c_45] at hF
                    exact hK73_216  u_43 _ _ _ (lv_sub hl [0] rfl) hH hF
                  · rw [if_neg c_45] at hF
                    refine lv_aload_n hx hb dX13_readLaws_83 rfl (lv_at hl 0 rfl) ?_
                    refine mg_29 hC hH dX13_readLaws_84 ?_
                    obtain ⟨x_46, e_47, hF⟩ := prf_some hF
                    refine gx_ti e_47 ?_
                    refine lv_bipush (v := 8) hx hb dX13_readLaws_87 (by decide) ?_
                    refine lv_icmp_ne (tgt := 102) hx hb dX13_readLaws_89 (by decide) (fun c_48 => ?_) (fun c_48 => ?_)
                    · rw [if_neg c_48] at hF
                      refine lv_aload_n hx hb dX13_readLaws_102 rfl (lv_at hl 0 rfl) ?_
                      obtain ⟨r_49, u_50, h_51, hF⟩ := pcl_some hF
                      refine mcV_v (As := []) (rest := []) hC hH (m_scan l G Z Q u_43 u_50 r_49  _ h_51) kwX13_scan kVX13_scan ⟨Nat.le_of_ble_eq_true rfl, Nat.le_of_ble_eq_true rfl⟩ rfl hl.1 rfl (Nat.le_of_ble_eq_true rfl) dX13_readLaws_103 (fun H locs hH => ?_)
                      refine lv_aload_n hx hb dX13_readLaws_106 rfl (lv_at hl 0 rfl) ?_
                      obtain ⟨r_52, u_53, h_54, hF⟩ := pcl_some hF
                      cases r_52 with
                      | none =>
                        have hF := pot_none hF
                        exact (prt_no hF).elim
                      | some r_55 =>
                        have hF := pot_some hF
                        refine mcV_v (As := []) (rest := []) hC hH (m_name l G Z Q u_50 u_53 r_55  _ h_54) kwX13_name kVX13_name ⟨Nat.le_of_ble_eq_true rfl, Nat.le_of_ble_eq_true rfl⟩ rfl hl.1 rfl (Nat.le_of_ble_eq_true rfl) dX13_readLaws_107 (fun H locs hH => ?_)
                        refine lv_aload_n hx hb dX13_readLaws_110 rfl (lv_at hl 0 rfl) ?_
                        obtain ⟨r_56, u_57, h_58, hF⟩ := pcl_some hF
                        refine mcV_i (As := []) (rest := []) hC hH (m_findSign l G Z Q u_53 u_57 r_56  _ h_58) kwX13_findSign kVX13_findSign ⟨Nat.le_of_ble_eq_true rfl, Nat.le_of_ble_eq_true rfl⟩ rfl hl.1 rfl (Nat.le_of_ble_eq_true rfl) dX13_readLaws_111 (fun H locs hH => ?_)
                        refine lv_iconst (v := (-1)) hx hb dX13_readLaws_114 (by decide) ?_
                        refine lv_icmp_eq (tgt := 128) hx hb dX13_readLaws_115 (by decide) (fun c_59 => ?_) (fun c_59 => ?_)
                        · rw [if_pos c_59] at hF
                          refine lv_aload_n hx hb dX13_readLaws_128 rfl (lv_at hl 0 rfl) ?_
                          refine mg_33 hC hH dX13_readLaws_129 ?_
                          refine lv_aload_n hx hb dX13_readLaws_132 rfl (lv_at hl 0 rfl) ?_
                          refine mg_29 hC hH dX13_readLaws_133 ?_
                          obtain ⟨x_60, e_61, hF⟩ := prf_some hF
                          refine gx_ti e_61 ?_
                          refine lv_aload_n hx hb dX13_readLaws_136 rfl (lv_at hl 0 rfl) ?_
                          refine mg_45 hC hH dX13_readLaws_137 ?_
                          obtain ⟨x_62, e_63, hF⟩ := prf_some hF
                          refine gx_ti e_63 ?_
                          refine lv_aload_n hx hb dX13_readLaws_140 rfl (lv_at hl 0 rfl) ?_
                          refine mg_44 hC hH dX13_readLaws_141 ?_
                          obtain ⟨x_64, e_65, hF⟩ := prf_some hF
                          refine gx_ti e_65 ?_
                          refine lv_isub hx hb dX13_readLaws_144 ?_
                          obtain ⟨u_67, g_66, e_68, hF⟩ := pwd_some hF
                          refine ms_33 hC hH e_68 g_66 dX13_readLaws_145 (fun H locs hH => ?_)
                          refine lv_iconst (v := 0) hx hb dX13_readLaws_146 (by decide) ?_
                          refine lv_istore_n (lv' := [(1, .int 0), (0, .ref (Q 72))]) hx hb dX13_readLaws_147 rfl hl (by decide) rfl (fun ls hl => ?_)
                          have hL148 : ∀ (K148_192 : Int32 → PG (Option Int32)), (∀ (v1 : Int32) (u : GS) (H : Heap) (locs : List Loc) (ls : Array Slot), lv_has ls 2 [(0, .ref (Q 72)), (1, .int v1)] → mH G Q u.1 s H locs → K148_192 v1 u = some ((some r, u1)) → W p l e (headSpec (Cond.code yX13_readLaws cX13_readLaws 2 none :: wM) { frames := 405, cells := 0, slots := 0, locals := 4900 }).room s m [.ref (Q 72)].toArray below meth c H locs 0 0 (MQ below (mQv G Q u1.1 s.heap.size) [.ref (Q 72)].toArray s 0 0 (mA Q s.heap.size)) (F0 m 192 ls [])) → ∀ (n148 : Nat) (v1 : Int32) (u : GS) (H : Heap) (locs : List Loc) (ls : Array Slot), lv_has ls 2 [(0, .ref (Q 72)), (1, .int v1)] → mH G Q u.1 s H locs → lp_readLaws_148 n148 v1 K148_192 u = some ((some r, u1)) → W p l e (headSpec (Cond.code yX13_readLaws cX13_readLaws 2 none :: wM) { frames := 405, cells := 0, slots := 0, locals := 4900 }).room s m [.ref (Q 72)].toArray below meth c H locs 0 0 (MQ below (mQv G Q u1.1 s.heap.size) [.ref (Q 72)].toArray s 0 0 (mA Q s.heap.size)) (F0 m 148 ls []) := by
                            intro K148_192 hK148_192 n148
                            induction n148 with
                            | zero => intro v1 u H locs ls hl hH hF; cases hF
                            | succ n148 ih148 =>
                              intro v1 u H locs ls hl hH hF
                              unfold lp_readLaws_148 at hF
                              refine lv_iload_n hx hb dX13_readLaws_148 rfl (lv_at hl 1 rfl) ?_
                              refine lv_aload_n hx hb dX13_readLaws_149 rfl (lv_at hl 0 rfl) ?_
                              refine mg_33 hC hH dX13_readLaws_150 ?_
                              refine lv_aload_n hx hb dX13_readLaws_153 rfl (lv_at hl 0 rfl) ?_
                              refine mg_29 hC hH dX13_readLaws_154 ?_
                              obtain ⟨x_69, e_70, hF⟩ := prf_some hF
                              refine gx_ti e_70 ?_
                              obtain ⟨x_71, g_72, e_73, hF⟩ := prd_some hF
                              refine ml_33 hC hH g_72 dX13_readLaws_157 ?_
                              refine gx_ti e_73 ?_
                              refine lv_icmp_ge (tgt := 192) hx hb dX13_readLaws_158 (by decide) (fun c_74 => ?_) (fun c_74 => ?_)
                              · rw [if_pos c_74] at hF
                                exact hK148_192 v1 u _ _ _ (lv_sub hl [0, 1] rfl) hH hF
                              · rw [if_neg c_74] at hF
                                refine lv_aload_n hx hb dX13_readLaws_161 rfl (lv_at hl 0 rfl) ?_
                                refine mg_32 hC hH dX13_readLaws_162 ?_
                                refine lv_bipush (v := 10) hx hb dX13_readLaws_165 (by decide) ?_
                                refine lv_aload_n hx hb dX13_readLaws_167 rfl (lv_at hl 0 rfl) ?_
                                refine mg_29 hC hH dX13_readLaws_168 ?_
                                obtain ⟨x_75, e_76, hF⟩ := prf_some hF
                                refine gx_ti e_76 ?_
                                refine lv_imul hx hb dX13_readLaws_171 ?_
                                refine lv_iload_n hx hb dX13_readLaws_172 rfl (lv_at hl 1 rfl) ?_
                                refine lv_iadd hx hb dX13_readLaws_173 ?_
                                refine lv_aload_n hx hb dX13_readLaws_174 rfl (lv_at hl 0 rfl) ?_
                                refine mg_41 hC hH dX13_readLaws_175 ?_
                                refine lv_aload_n hx hb dX13_readLaws_178 rfl (lv_at hl 0 rfl) ?_
                                refine mg_44 hC hH dX13_readLaws_179 ?_
                                obtain ⟨x_77, e_78, hF⟩ := prf_some hF
                                refine gx_ti e_78 ?_
                                refine lv_iload_n hx hb dX13_readLaws_182 rfl (lv_at hl 1 rfl) ?_
                                refine lv_iadd hx hb dX13_readLaws_183 ?_
                                obtain ⟨x_79, g_80, e_81, hF⟩ := psr_some hF
                                refine ml_src hC hH g_80 dX13_readLaws_184 ?_
                                refine gx_ti e_81 ?_
                                obtain ⟨u_83, g_82, e_84, hF⟩ := pwd_some hF
                                refine ms_32 hC hH e_84 g_82 dX13_readLaws_185 (fun H locs hH => ?_)
                                obtain ⟨x_85, e_86, hF⟩ := pli_some hF
                                refine lv_iinc (v := x_85) (lv' := [(1, .int x_85), (0, .ref (Q 72))]) hx hb dX13_readLaws_186 hl (k := 1) rfl e_86 (by decide) rfl (fun ls hl => ?_)
                                refine lv_goto (tgt := 148) hx hb dX13_readLaws_189 (by decide) ?_
                                exact ih148 x_85 u_83 _ _ _ (lv_sub hl [1, 0] rfl) hH hF
                          refine hL148 _ (fun v1 u H locs ls hl hH hF => ?_) fuel 0 u_67 _ _ _ (lv_sub hl [1, 0] rfl) hH hF
                          refine lv_aload_n hx hb dX13_readLaws_192 rfl (lv_at hl 0 rfl) ?_
                          refine lv_dup hx hb dX13_readLaws_193 rfl ?_
                          refine mg_29 hC hH dX13_readLaws_194 ?_
                          obtain ⟨x_87, e_88, hF⟩ := prf_some hF
                          refine gx_ti e_88 ?_
                          refine lv_iconst (v := 1) hx hb dX13_readLaws_197 (by decide) ?_
                          refine lv_iadd hx hb dX13_readLaws_198 ?_
                          obtain ⟨u_89, e_90, hF⟩ := pwf_some hF
                          refine mp_29 hC hH e_90 dX13_readLaws_199 (fun H locs hH => ?_)
                          refine lv_aload_n hx hb dX13_readLaws_202 rfl (lv_at hl 0 rfl) ?_
                          obtain ⟨r_91, u_92, h_93, hF⟩ := pcl_some hF
                          refine mcV_v (As := []) (rest := []) hC hH (m_scan l G Z Q u_89 u_92 r_91  _ h_93) kwX13_scan kVX13_scan ⟨Nat.le_of_ble_eq_true rfl, Nat.le_of_ble_eq_true rfl⟩ rfl hl.1 rfl (Nat.le_of_ble_eq_true rfl) dX13_readLaws_203 (fun H locs hH => ?_)
                          refine lv_aload_n hx hb dX13_readLaws_206 rfl (lv_at hl 0 rfl) ?_
                          refine th_ldcw (tx := sTx 14) hx hb hC.2.2.2.1 (hC.2.2.2.2.2.2.2.2.1 14 (by decide)) dX13_readLaws_207 ?_
                          obtain ⟨r_94, u_95, h_96, hF⟩ := pcl_some hF
                          cases r_94 with
                          | none =>
                            have hF := pot_none hF
                            exact (prt_no hF).elim
                          | some r_97 =>
                            have hF := pot_some hF
                            refine mcV_v (As := [.ref (Z.1 14)]) (rest := []) hC hH (m_need l G Z Q u_92 u_95 r_97 14 _ h_96 (by decide)) kwX13_need kVX13_need ⟨Nat.le_of_ble_eq_true rfl, Nat.le_of_ble_eq_true rfl⟩ rfl hl.1 rfl (Nat.le_of_ble_eq_true rfl) dX13_readLaws_210 (fun H locs hH => ?_)
                            refine lv_goto (tgt := 73) hx hb dX13_readLaws_213 (by decide) ?_
                            exact ih73  u_95 _ _ _ (lv_sub hl [0] rfl) hH hF
                        · rw [if_neg c_59] at hF
                          refine lv_aload_n hx hb dX13_readLaws_118 rfl (lv_at hl 0 rfl) ?_
                          refine lv_iconst (v := 2) hx hb dX13_readLaws_119 (by decide) ?_
                          refine lv_aload_n hx hb dX13_readLaws_120 rfl (lv_at hl 0 rfl) ?_
                          refine mg_44 hC hH dX13_readLaws_121 ?_
                          obtain ⟨x_98, e_99, hF⟩ := prf_some hF
                          refine gx_ti e_99 ?_
                          obtain ⟨r_100, u_101, h_102, hF⟩ := pcl_some hF
                          refine mcV_r (As := [.int 2, .int x_98]) (rest := []) hC hH (m_wrong l G Z Q u_57 u_101 r_100 2 x_98 _ h_102) kwX13_wrong kVX13_wrong ⟨Nat.le_of_ble_eq_true rfl, Nat.le_of_ble_eq_true rfl⟩ rfl hl.1 rfl (Nat.le_of_ble_eq_true rfl) dX13_readLaws_124 (fun H locs hH => ?_)
                          exact (prt_no hF).elim
                    · rw [if_pos c_48] at hF
                      refine lv_aload_n hx hb dX13_readLaws_92 rfl (lv_at hl 0 rfl) ?_
                      refine lv_iconst (v := 3) hx hb dX13_readLaws_93 (by decide) ?_
                      refine lv_aload_n hx hb dX13_readLaws_94 rfl (lv_at hl 0 rfl) ?_
                      refine mg_44 hC hH dX13_readLaws_95 ?_
                      obtain ⟨x_103, e_104, hF⟩ := prf_some hF
                      refine gx_ti e_104 ?_
                      obtain ⟨r_105, u_106, h_107, hF⟩ := pcl_some hF
                      refine mcV_r (As := [.int 3, .int x_103]) (rest := []) hC hH (m_wrong l G Z Q u_43 u_106 r_105 3 x_103 _ h_107) kwX13_wrong kVX13_wrong ⟨Nat.le_of_ble_eq_true rfl, Nat.le_of_ble_eq_true rfl⟩ rfl hl.1 rfl (Nat.le_of_ble_eq_true rfl) dX13_readLaws_98 (fun H locs hH => ?_)
                      exact (prt_no hF).elim
              refine hL73 _ (fun  u H locs ls hl hH hF => ?_) fuel  u_39 _ _ _ (lv_sub hl [0] rfl) hH hF
              refine lv_aload_n hx hb dX13_readLaws_216 rfl (lv_at hl 0 rfl) ?_
              refine mg_34 hC hH dX13_readLaws_217 ?_
              refine lv_iconst (v := 0) hx hb dX13_readLaws_220 (by decide) ?_
              refine lv_iconst (v := 0) hx hb dX13_readLaws_221 (by decide) ?_
              obtain ⟨u_109, g_108, e_110, hF⟩ := pwd_some hF
              refine ms_34 hC hH e_110 g_108 dX13_readLaws_222 (fun H locs hH => ?_)
              have hL223 : ∀ (K223_336 : PG (Option Int32)), (∀ (u : GS) (H : Heap) (locs : List Loc) (ls : Array Slot), lv_has ls 2 [(0, .ref (Q 72))] → mH G Q u.1 s H locs → K223_336  u = some ((some r, u1)) → W p l e (headSpec (Cond.code yX13_readLaws cX13_readLaws 2 none :: wM) { frames := 405, cells := 0, slots := 0, locals := 4900 }).room s m [.ref (Q 72)].toArray below meth c H locs 0 0 (MQ below (mQv G Q u1.1 s.heap.size) [.ref (Q 72)].toArray s 0 0 (mA Q s.heap.size)) (F0 m 336 ls [])) → ∀ (n223 : Nat) (u : GS) (H : Heap) (locs : List Loc) (ls : Array Slot), lv_has ls 2 [(0, .ref (Q 72))] → mH G Q u.1 s H locs → lp_readLaws_223 n223  K223_336 u = some ((some r, u1)) → W p l e (headSpec (Cond.code yX13_readLaws cX13_readLaws 2 none :: wM) { frames := 405, cells := 0, slots := 0, locals := 4900 }).room s m [.ref (Q 72)].toArray below meth c H locs 0 0 (MQ below (mQv G Q u1.1 s.heap.size) [.ref (Q 72)].toArray s 0 0 (mA Q s.heap.size)) (F0 m 223 ls []) := by
                intro K223_336 hK223_336 n223
                induction n223 with
                | zero => intro  u H locs ls hl hH hF; cases hF
                | succ n223 ih223 =>
                  intro  u H locs ls hl hH hF
                  unfold lp_readLaws_223 at hF
                  refine lv_aload_n hx hb dX13_readLaws_223 rfl (lv_at hl 0 rfl) ?_
                  refine th_ldcw (tx := sTx 4) hx hb hC.2.2.2.1 (hC.2.2.2.2.2.2.2.2.1 4 (by decide)) dX13_readLaws_224 ?_
                  obtain ⟨r_111, u_112, h_113, hF⟩ := pcl_some hF
                  refine mcV_i (As := [.ref (Z.1 4)]) (rest := []) hC hH (m_is l G Z Q u u_112 r_111 4 _ h_113 (by decide)) kwX13_is kVX13_is ⟨Nat.le_of_ble_eq_true rfl, Nat.le_of_ble_eq_true rfl⟩ rfl hl.1 rfl (Nat.le_of_ble_eq_true rfl) dX13_readLaws_227 (fun H locs hH => ?_)
                  refine lv_if_eq (tgt := 336) hx hb dX13_readLaws_230 (by decide) (fun c_114 => ?_) (fun c_114 => ?_)
                  · rw [if_pos c_114] at hF
                    exact hK223_336  u_112 _ _ _ (lv_sub hl [0] rfl) hH hF
                  · rw [if_neg c_114] at hF
                    refine lv_aload_n hx hb dX13_readLaws_233 rfl (lv_at hl 0 rfl) ?_
                    refine mg_30 hC hH dX13_readLaws_234 ?_
                    obtain ⟨x_115, e_116, hF⟩ := prf_some hF
                    refine gx_ti e_116 ?_
                    refine lv_bipush (v := 20) hx hb dX13_readLaws_237 (by decide) ?_
                    refine lv_icmp_ne (tgt := 252) hx hb dX13_readLaws_239 (by decide) (fun c_117 => ?_) (fun c_117 => ?_)
                    · rw [if_neg c_117] at hF
                      refine lv_aload_n hx hb dX13_readLaws_252 rfl (lv_at hl 0 rfl) ?_
                      obtain ⟨r_118, u_119, h_120, hF⟩ := pcl_some hF
                      refine mcV_v (As := []) (rest := []) hC hH (m_scan l G Z Q u_112 u_119 r_118  _ h_120) kwX13_scan kVX13_scan ⟨Nat.le_of_ble_eq_true rfl, Nat.le_of_ble_eq_true rfl⟩ rfl hl.1 rfl (Nat.le_of_ble_eq_true rfl) dX13_readLaws_253 (fun H locs hH => ?_)
                      refine lv_aload_n hx hb dX13_readLaws_256 rfl (lv_at hl 0 rfl) ?_
                      refine mg_35 hC hH dX13_readLaws_257 ?_
                      refine lv_aload_n hx hb dX13_readLaws_260 rfl (lv_at hl 0 rfl) ?_
                      refine mg_30 hC hH dX13_readLaws_261 ?_
                      obtain ⟨x_121, e_122, hF⟩ := prf_some hF
                      refine gx_ti e_122 ?_
                      refine lv_iconst (v := 1) hx hb dX13_readLaws_264 (by decide) ?_
                      obtain ⟨u_124, g_123, e_125, hF⟩ := pwd_some hF
                      refine ms_35 hC hH e_125 g_123 dX13_readLaws_265 (fun H locs hH => ?_)
                      refine lv_aload_n hx hb dX13_readLaws_266 rfl (lv_at hl 0 rfl) ?_
                      refine mg_46 hC hH dX13_readLaws_267 ?_
                      obtain ⟨x_126, e_127, hF⟩ := prf_some hF
                      refine gx_ti e_127 ?_
                      refine lv_iconst (v := 2) hx hb dX13_readLaws_270 (by decide) ?_
                      refine lv_icmp_ne (tgt := 287) hx hb dX13_readLaws_271 (by decide) (fun c_128 => ?_) (fun c_128 => ?_)
                      · rw [if_neg c_128] at hF
                        refine lv_aload_n hx hb dX13_readLaws_287 rfl (lv_at hl 0 rfl) ?_
                        refine th_ldcw (tx := sTx 5) hx hb hC.2.2.2.1 (hC.2.2.2.2.2.2.2.2.1 5 (by decide)) dX13_readLaws_288 ?_
                        obtain ⟨r_129, u_130, h_131, hF⟩ := pcl_some hF
                        cases r_129 with
                        | none =>
                          have hF := pot_none hF
                          exact (prt_no hF).elim
                        | some r_132 =>
                          have hF := pot_some hF
                          refine mcV_v (As := [.ref (Z.1 5)]) (rest := []) hC hH (m_need l G Z Q u_124 u_130 r_132 5 _ h_131 (by decide)) kwX13_need kVX13_need ⟨Nat.le_of_ble_eq_true rfl, Nat.le_of_ble_eq_true rfl⟩ rfl hl.1 rfl (Nat.le_of_ble_eq_true rfl) dX13_readLaws_291 (fun H locs hH => ?_)
                          refine lv_aload_n hx hb dX13_readLaws_294 rfl (lv_at hl 0 rfl) ?_
                          refine lv_iconst (v := 0) hx hb dX13_readLaws_295 (by decide) ?_
                          obtain ⟨u_133, e_134, hF⟩ := pwf_some hF
                          refine mp_48 hC hH e_134 dX13_readLaws_296 (fun H locs hH => ?_)
                          refine lv_aload_n hx hb dX13_readLaws_299 rfl (lv_at hl 0 rfl) ?_
                          obtain ⟨r_135, u_136, h_137, hF⟩ := pcl_some hF
                          cases r_135 with
                          | none =>
                            have hF := pot_none hF
                            exact (prt_no hF).elim
                          | some r_138 =>
                            have hF := pot_some hF
                            refine mcV_v (As := []) (rest := []) hC hH (m_readOr l G Z Q u_133 u_136 r_138  _ h_137) kwX13_readOr kVX13_readOr ⟨Nat.le_of_ble_eq_true rfl, Nat.le_of_ble_eq_true rfl⟩ rfl hl.1 rfl (Nat.le_of_ble_eq_true rfl) dX13_readLaws_300 (fun H locs hH => ?_)
                            refine lv_aload_n hx hb dX13_readLaws_303 rfl (lv_at hl 0 rfl) ?_
                            refine th_ldcw (tx := sTx 14) hx hb hC.2.2.2.1 (hC.2.2.2.2.2.2.2.2.1 14 (by decide)) dX13_readLaws_304 ?_
                            obtain ⟨r_139, u_140, h_141, hF⟩ := pcl_some hF
                            cases r_139 with
                            | none =>
                              have hF := pot_none hF
                              exact (prt_no hF).elim
                            | some r_142 =>
                              have hF := pot_some hF
                              refine mcV_v (As := [.ref (Z.1 14)]) (rest := []) hC hH (m_need l G Z Q u_136 u_140 r_142 14 _ h_141 (by decide)) kwX13_need kVX13_need ⟨Nat.le_of_ble_eq_true rfl, Nat.le_of_ble_eq_true rfl⟩ rfl hl.1 rfl (Nat.le_of_ble_eq_true rfl) dX13_readLaws_307 (fun H locs hH => ?_)
                              refine lv_aload_n hx hb dX13_readLaws_310 rfl (lv_at hl 0 rfl) ?_
                              refine lv_dup hx hb dX13_readLaws_311 rfl ?_
                              refine mg_30 hC hH dX13_readLaws_312 ?_
                              obtain ⟨x_143, e_144, hF⟩ := prf_some hF
                              refine gx_ti e_144 ?_
                              refine lv_iconst (v := 1) hx hb dX13_readLaws_315 (by decide) ?_
                              refine lv_iadd hx hb dX13_readLaws_316 ?_
                              obtain ⟨u_145, e_146, hF⟩ := pwf_some hF
                              refine mp_30 hC hH e_146 dX13_readLaws_317 (fun H locs hH => ?_)
                              refine lv_aload_n hx hb dX13_readLaws_320 rfl (lv_at hl 0 rfl) ?_
                              refine mg_34 hC hH dX13_readLaws_321 ?_
                              refine lv_aload_n hx hb dX13_readLaws_324 rfl (lv_at hl 0 rfl) ?_
                              refine mg_30 hC hH dX13_readLaws_325 ?_
                              obtain ⟨x_147, e_148, hF⟩ := prf_some hF
                              refine gx_ti e_148 ?_
                              refine lv_aload_n hx hb dX13_readLaws_328 rfl (lv_at hl 0 rfl) ?_
                              refine mg_31 hC hH dX13_readLaws_329 ?_
                              obtain ⟨x_149, e_150, hF⟩ := prf_some hF
                              refine gx_ti e_150 ?_
                              obtain ⟨u_152, g_151, e_153, hF⟩ := pwd_some hF
                              refine ms_34 hC hH e_153 g_151 dX13_readLaws_332 (fun H locs hH => ?_)
                              refine lv_goto (tgt := 223) hx hb dX13_readLaws_333 (by decide) ?_
                              exact ih223  u_152 _ _ _ (lv_sub hl [0] rfl) hH hF
                      · rw [if_pos c_128] at hF
                        refine lv_aload_n hx hb dX13_readLaws_274 rfl (lv_at hl 0 rfl) ?_
                        refine mg_35 hC hH dX13_readLaws_275 ?_
                        refine lv_aload_n hx hb dX13_readLaws_278 rfl (lv_at hl 0 rfl) ?_
                        refine mg_30 hC hH dX13_readLaws_279 ?_
                        obtain ⟨x_154, e_155, hF⟩ := prf_some hF
                        refine gx_ti e_155 ?_
                        refine lv_aload_n hx hb dX13_readLaws_282 rfl (lv_at hl 0 rfl) ?_
                        obtain ⟨r_156, u_157, h_158, hF⟩ := pcl_some hF
                        cases r_156 with
                        | none =>
                          have hF := pot_none hF
                          exact (prt_no hF).elim
                        | some r_159 =>
                          have hF := pot_some hF
                          refine mcV_i (As := []) (rest := [.int x_154, .ref (Q 35)]) hC hH (m_number l G Z Q u_124 u_157 r_159  _ h_158) kwX13_number kVX13_number ⟨Nat.le_of_ble_eq_true rfl, Nat.le_of_ble_eq_true rfl⟩ rfl hl.1 rfl (Nat.le_of_ble_eq_true rfl) dX13_readLaws_283 (fun H locs hH => ?_)
                          obtain ⟨u_161, g_160, e_162, hF⟩ := pwd_some hF
                          refine ms_35 hC hH e_162 g_160 dX13_readLaws_286 (fun H locs hH => ?_)
                          refine lv_aload_n hx hb dX13_readLaws_287 rfl (lv_at hl 0 rfl) ?_
                          refine th_ldcw (tx := sTx 5) hx hb hC.2.2.2.1 (hC.2.2.2.2.2.2.2.2.1 5 (by decide)) dX13_readLaws_288 ?_
                          obtain ⟨r_163, u_164, h_165, hF⟩ := pcl_some hF
                          cases r_163 with
                          | none =>
                            have hF := pot_none hF
                            exact (prt_no hF).elim
                          | some r_166 =>
                            have hF := pot_some hF
                            refine mcV_v (As := [.ref (Z.1 5)]) (rest := []) hC hH (m_need l G Z Q u_161 u_164 r_166 5 _ h_165 (by decide)) kwX13_need kVX13_need ⟨Nat.le_of_ble_eq_true rfl, Nat.le_of_ble_eq_true rfl⟩ rfl hl.1 rfl (Nat.le_of_ble_eq_true rfl) dX13_readLaws_291 (fun H locs hH => ?_)
                            refine lv_aload_n hx hb dX13_readLaws_294 rfl (lv_at hl 0 rfl) ?_
                            refine lv_iconst (v := 0) hx hb dX13_readLaws_295 (by decide) ?_
                            obtain ⟨u_167, e_168, hF⟩ := pwf_some hF
                            refine mp_48 hC hH e_168 dX13_readLaws_296 (fun H locs hH => ?_)
                            refine lv_aload_n hx hb dX13_readLaws_299 rfl (lv_at hl 0 rfl) ?_
                            obtain ⟨r_169, u_170, h_171, hF⟩ := pcl_some hF
                            cases r_169 with
                            | none =>
                              have hF := pot_none hF
                              exact (prt_no hF).elim
                            | some r_172 =>
                              have hF := pot_some hF
                              refine mcV_v (As := []) (rest := []) hC hH (m_readOr l G Z Q u_167 u_170 r_172  _ h_171) kwX13_readOr kVX13_readOr ⟨Nat.le_of_ble_eq_true rfl, Nat.le_of_ble_eq_true rfl⟩ rfl hl.1 rfl (Nat.le_of_ble_eq_true rfl) dX13_readLaws_300 (fun H locs hH => ?_)
                              refine lv_aload_n hx hb dX13_readLaws_303 rfl (lv_at hl 0 rfl) ?_
                              refine th_ldcw (tx := sTx 14) hx hb hC.2.2.2.1 (hC.2.2.2.2.2.2.2.2.1 14 (by decide)) dX13_readLaws_304 ?_
                              obtain ⟨r_173, u_174, h_175, hF⟩ := pcl_some hF
                              cases r_173 with
                              | none =>
                                have hF := pot_none hF
                                exact (prt_no hF).elim
                              | some r_176 =>
                                have hF := pot_some hF
                                refine mcV_v (As := [.ref (Z.1 14)]) (rest := []) hC hH (m_need l G Z Q u_170 u_174 r_176 14 _ h_175 (by decide)) kwX13_need kVX13_need ⟨Nat.le_of_ble_eq_true rfl, Nat.le_of_ble_eq_true rfl⟩ rfl hl.1 rfl (Nat.le_of_ble_eq_true rfl) dX13_readLaws_307 (fun H locs hH => ?_)
                                refine lv_aload_n hx hb dX13_readLaws_310 rfl (lv_at hl 0 rfl) ?_
                                refine lv_dup hx hb dX13_readLaws_311 rfl ?_
                                refine mg_30 hC hH dX13_readLaws_312 ?_
                                obtain ⟨x_177, e_178, hF⟩ := prf_some hF
                                refine gx_ti e_178 ?_
                                refine lv_iconst (v := 1) hx hb dX13_readLaws_315 (by decide) ?_
                                refine lv_iadd hx hb dX13_readLaws_316 ?_
                                obtain ⟨u_179, e_180, hF⟩ := pwf_some hF
                                refine mp_30 hC hH e_180 dX13_readLaws_317 (fun H locs hH => ?_)
                                refine lv_aload_n hx hb dX13_readLaws_320 rfl (lv_at hl 0 rfl) ?_
                                refine mg_34 hC hH dX13_readLaws_321 ?_
                                refine lv_aload_n hx hb dX13_readLaws_324 rfl (lv_at hl 0 rfl) ?_
                                refine mg_30 hC hH dX13_readLaws_325 ?_
                                obtain ⟨x_181, e_182, hF⟩ := prf_some hF
                                refine gx_ti e_182 ?_
                                refine lv_aload_n hx hb dX13_readLaws_328 rfl (lv_at hl 0 rfl) ?_
                                refine mg_31 hC hH dX13_readLaws_329 ?_
                                obtain ⟨x_183, e_184, hF⟩ := prf_some hF
                                refine gx_ti e_184 ?_
                                obtain ⟨u_186, g_185, e_187, hF⟩ := pwd_some hF
                                refine ms_34 hC hH e_187 g_185 dX13_readLaws_332 (fun H locs hH => ?_)
                                refine lv_goto (tgt := 223) hx hb dX13_readLaws_333 (by decide) ?_
                                exact ih223  u_186 _ _ _ (lv_sub hl [0] rfl) hH hF
                    · rw [if_pos c_117] at hF
                      refine lv_aload_n hx hb dX13_readLaws_242 rfl (lv_at hl 0 rfl) ?_
                      refine lv_iconst (v := 3) hx hb dX13_readLaws_243 (by decide) ?_
                      refine lv_aload_n hx hb dX13_readLaws_244 rfl (lv_at hl 0 rfl) ?_
                      refine mg_44 hC hH dX13_readLaws_245 ?_
                      obtain ⟨x_188, e_189, hF⟩ := prf_some hF
                      refine gx_ti e_189 ?_
                      obtain ⟨r_190, u_191, h_192, hF⟩ := pcl_some hF
                      refine mcV_r (As := [.int 3, .int x_188]) (rest := []) hC hH (m_wrong l G Z Q u_112 u_191 r_190 3 x_188 _ h_192) kwX13_wrong kVX13_wrong ⟨Nat.le_of_ble_eq_true rfl, Nat.le_of_ble_eq_true rfl⟩ rfl hl.1 rfl (Nat.le_of_ble_eq_true rfl) dX13_readLaws_248 (fun H locs hH => ?_)
                      exact (prt_no hF).elim
              refine hL223 _ (fun  u H locs ls hl hH hF => ?_) fuel  u_109 _ _ _ (lv_sub hl [0] rfl) hH hF
              refine lv_aload_n hx hb dX13_readLaws_336 rfl (lv_at hl 0 rfl) ?_
              refine mg_46 hC hH dX13_readLaws_337 ?_
              obtain ⟨x_193, e_194, hF⟩ := prf_some hF
              refine gx_ti e_194 ?_
              refine lv_if_eq (tgt := 353) hx hb dX13_readLaws_340 (by decide) (fun c_195 => ?_) (fun c_195 => ?_)
              · rw [if_pos c_195] at hF
                have hF := prt_eqS hF
                exact mr_v hC hH hr hF dX13_readLaws_353 hlocks
              · rw [if_neg c_195] at hF
                refine lv_aload_n hx hb dX13_readLaws_343 rfl (lv_at hl 0 rfl) ?_
                refine lv_iconst (v := 1) hx hb dX13_readLaws_344 (by decide) ?_
                refine lv_aload_n hx hb dX13_readLaws_345 rfl (lv_at hl 0 rfl) ?_
                refine mg_44 hC hH dX13_readLaws_346 ?_
                obtain ⟨x_196, e_197, hF⟩ := prf_some hF
                refine gx_ti e_197 ?_
                obtain ⟨r_198, u_199, h_200, hF⟩ := pcl_some hF
                refine mcV_r (As := [.int 1, .int x_196]) (rest := []) hC hH (m_wrong l G Z Q u u_199 r_198 1 x_196 _ h_200) kwX13_wrong kVX13_wrong ⟨Nat.le_of_ble_eq_true rfl, Nat.le_of_ble_eq_true rfl⟩ rfl hl.1 rfl (Nat.le_of_ble_eq_true rfl) dX13_readLaws_349 (fun H locs hH => ?_)
                exact (prt_no hF).elim
set_option maxHeartbeats 4000000 in
set_option maxRecDepth 100000 in
theorem t_readLaws (l : Launch) (G : gG) (Z : gM) (Q : Nat → Nat) (u u1 : GS)  (sz : Nat) (hF : f_readLaws u = some (none, u1)) : MetT l yX13_readLaws (Cond.code yX13_readLaws cX13_readLaws 2 none :: wM) { frames := 405, cells := 0, slots := 0, locals := 4900 } (va_Pc [.ref (Q 72)] (mPM G Z Q u.1 sz)) (mQt G Q u1.1 sz) 0 0 (mA Q sz) := by
  refine MetT.ofW (cc := cX13_readLaws) (maxL := 2) (ret := none) (by decide) rfl ?_
  intro p e s m args below meth c s₁ B hml hv
  obtain ⟨rfl, rfl, hP, hB, hD, hE⟩ := hv
  have hr := B.returns
  have hlocks := B.notSynchronized
  have hts := atoms_spec (ws := Cond.code yX13_readLaws cX13_readLaws 2 none :: wM) B.pre
  have hC : mX p c cX13_readLaws 2 s m _ G Z Q := ⟨B.exec, B.bytes, hml, findClass_of_methodNamed B.named, fun w h => hts w (List.mem_cons_of_mem _ h), hB, hE⟩
  have hx := hC.1
  have hb := hC.2.1
  have hH : mH G Q u.1 s s.heap [] := ⟨hP, hD, va_S.rf⟩
  have hno : c.exceptionTable.isEmpty = true := BodyLoose.noHandlers B (hts _ List.mem_cons_self)
  have hl := lv_entry ([.ref (Q 72)]) (n := 2) (Nat.le_of_ble_eq_true rfl)
  rw [lg_entry_eq]
  generalize (lg_sl ([.ref (Q 72)]) ++ List.replicate (2 - (lg_sl ([.ref (Q 72)])).length) Slot.unset).toArray = ls at hl ⊢
  have hl : lv_has ls 2 [(0, .ref (Q 72))] := hl
  unfold f_readLaws at hF
  obtain ⟨u0, e0, hF⟩ := pclL_some hF
  rw [e0] at hH
  refine lv_aload_n hx hb dX13_readLaws_0 rfl (lv_at hl 0 rfl) ?_
  refine lv_iconst (v := 0) hx hb dX13_readLaws_1 (by decide) ?_
  obtain ⟨u_1, e_2, hF⟩ := pwf_some hF
  refine mp_29 hC hH e_2 dX13_readLaws_2 (fun H locs hH => ?_)
  refine lv_aload_n hx hb dX13_readLaws_5 rfl (lv_at hl 0 rfl) ?_
  refine lv_iconst (v := 0) hx hb dX13_readLaws_6 (by decide) ?_
  obtain ⟨u_3, e_4, hF⟩ := pwf_some hF
  refine mp_30 hC hH e_4 dX13_readLaws_7 (fun H locs hH => ?_)
  refine lv_aload_n hx hb dX13_readLaws_10 rfl (lv_at hl 0 rfl) ?_
  refine lv_iconst (v := 0) hx hb dX13_readLaws_11 (by decide) ?_
  obtain ⟨u_5, e_6, hF⟩ := pwf_some hF
  refine mp_31 hC hH e_6 dX13_readLaws_12 (fun H locs hH => ?_)
  refine lv_aload_n hx hb dX13_readLaws_15 rfl (lv_at hl 0 rfl) ?_
  refine lv_iconst (v := 0) hx hb dX13_readLaws_16 (by decide) ?_
  obtain ⟨u_7, e_8, hF⟩ := pwf_some hF
  refine mp_51 hC hH e_8 dX13_readLaws_17 (fun H locs hH => ?_)
  refine lv_aload_n hx hb dX13_readLaws_20 rfl (lv_at hl 0 rfl) ?_
  refine lv_iconst (v := 0) hx hb dX13_readLaws_21 (by decide) ?_
  obtain ⟨u_9, e_10, hF⟩ := pwf_some hF
  refine mp_45 hC hH e_10 dX13_readLaws_22 (fun H locs hH => ?_)
  refine lv_aload_n hx hb dX13_readLaws_25 rfl (lv_at hl 0 rfl) ?_
  obtain ⟨r_11, u_12, h_13, hF⟩ := pcl_some hF
  refine mcV_v (As := []) (rest := []) hC hH (m_scan l G Z Q u_9 u_12 r_11  _ h_13) kwX13_scan kVX13_scan ⟨Nat.le_of_ble_eq_true rfl, Nat.le_of_ble_eq_true rfl⟩ rfl hl.1 rfl (Nat.le_of_ble_eq_true rfl) dX13_readLaws_26 (fun H locs hH => ?_)
  refine lv_aload_n hx hb dX13_readLaws_29 rfl (lv_at hl 0 rfl) ?_
  refine th_ldcw (tx := sTx 1) hx hb hC.2.2.2.1 (hC.2.2.2.2.2.2.2.2.1 1 (by decide)) dX13_readLaws_30 ?_
  obtain ⟨r_14, u_15, h_16, hF⟩ := pcl_some hF
  cases r_14 with
  | none =>
    have hF := pot_none hF
    exact mt_pass hH (mt_run (As := [.ref (Z.1 1)]) (rest := []) hC hH (t_need l G Z Q u_12 u_15 1 _ h_16 (by decide)) kwX13_need kVX13_need ⟨Nat.le_of_ble_eq_true rfl, Nat.le_of_ble_eq_true rfl⟩ rfl hl.1 rfl (Nat.le_of_ble_eq_true rfl) dX13_readLaws_33) hno hlocks (prt_eqT hF)
  | some r_17 =>
    have hF := pot_some hF
    refine mcV_v (As := [.ref (Z.1 1)]) (rest := []) hC hH (m_need l G Z Q u_12 u_15 r_17 1 _ h_16 (by decide)) kwX13_need kVX13_need ⟨Nat.le_of_ble_eq_true rfl, Nat.le_of_ble_eq_true rfl⟩ rfl hl.1 rfl (Nat.le_of_ble_eq_true rfl) dX13_readLaws_33 (fun H locs hH => ?_)
    refine lv_aload_n hx hb dX13_readLaws_36 rfl (lv_at hl 0 rfl) ?_
    refine lv_aload_n hx hb dX13_readLaws_37 rfl (lv_at hl 0 rfl) ?_
    obtain ⟨r_18, u_19, h_20, hF⟩ := pcl_some hF
    cases r_18 with
    | none =>
      have hF := pot_none hF
      exact mt_pass hH (mt_run (As := []) (rest := [.ref (Q 72)]) hC hH (t_number l G Z Q u_15 u_19  _ h_20) kwX13_number kVX13_number ⟨Nat.le_of_ble_eq_true rfl, Nat.le_of_ble_eq_true rfl⟩ rfl hl.1 rfl (Nat.le_of_ble_eq_true rfl) dX13_readLaws_38) hno hlocks (prt_eqT hF)
    | some r_21 =>
      have hF := pot_some hF
      refine mcV_i (As := []) (rest := [.ref (Q 72)]) hC hH (m_number l G Z Q u_15 u_19 r_21  _ h_20) kwX13_number kVX13_number ⟨Nat.le_of_ble_eq_true rfl, Nat.le_of_ble_eq_true rfl⟩ rfl hl.1 rfl (Nat.le_of_ble_eq_true rfl) dX13_readLaws_38 (fun H locs hH => ?_)
      obtain ⟨u_22, e_23, hF⟩ := pwf_some hF
      refine mp_27 hC hH e_23 dX13_readLaws_41 (fun H locs hH => ?_)
      refine lv_aload_n hx hb dX13_readLaws_44 rfl (lv_at hl 0 rfl) ?_
      refine th_ldcw (tx := sTx 14) hx hb hC.2.2.2.1 (hC.2.2.2.2.2.2.2.2.1 14 (by decide)) dX13_readLaws_45 ?_
      obtain ⟨r_24, u_25, h_26, hF⟩ := pcl_some hF
      cases r_24 with
      | none =>
        have hF := pot_none hF
        exact mt_pass hH (mt_run (As := [.ref (Z.1 14)]) (rest := []) hC hH (t_need l G Z Q u_22 u_25 14 _ h_26 (by decide)) kwX13_need kVX13_need ⟨Nat.le_of_ble_eq_true rfl, Nat.le_of_ble_eq_true rfl⟩ rfl hl.1 rfl (Nat.le_of_ble_eq_true rfl) dX13_readLaws_48) hno hlocks (prt_eqT hF)
      | some r_27 =>
        have hF := pot_some hF
        refine mcV_v (As := [.ref (Z.1 14)]) (rest := []) hC hH (m_need l G Z Q u_22 u_25 r_27 14 _ h_26 (by decide)) kwX13_need kVX13_need ⟨Nat.le_of_ble_eq_true rfl, Nat.le_of_ble_eq_true rfl⟩ rfl hl.1 rfl (Nat.le_of_ble_eq_true rfl) dX13_readLaws_48 (fun H locs hH => ?_)
        refine lv_aload_n hx hb dX13_readLaws_51 rfl (lv_at hl 0 rfl) ?_
        refine th_ldcw (tx := sTx 2) hx hb hC.2.2.2.1 (hC.2.2.2.2.2.2.2.2.1 2 (by decide)) dX13_readLaws_52 ?_
        obtain ⟨r_28, u_29, h_30, hF⟩ := pcl_some hF
        cases r_28 with
        | none =>
          have hF := pot_none hF
          exact mt_pass hH (mt_run (As := [.ref (Z.1 2)]) (rest := []) hC hH (t_need l G Z Q u_25 u_29 2 _ h_30 (by decide)) kwX13_need kVX13_need ⟨Nat.le_of_ble_eq_true rfl, Nat.le_of_ble_eq_true rfl⟩ rfl hl.1 rfl (Nat.le_of_ble_eq_true rfl) dX13_readLaws_55) hno hlocks (prt_eqT hF)
        | some r_31 =>
          have hF := pot_some hF
          refine mcV_v (As := [.ref (Z.1 2)]) (rest := []) hC hH (m_need l G Z Q u_25 u_29 r_31 2 _ h_30 (by decide)) kwX13_need kVX13_need ⟨Nat.le_of_ble_eq_true rfl, Nat.le_of_ble_eq_true rfl⟩ rfl hl.1 rfl (Nat.le_of_ble_eq_true rfl) dX13_readLaws_55 (fun H locs hH => ?_)
          refine lv_aload_n hx hb dX13_readLaws_58 rfl (lv_at hl 0 rfl) ?_
          refine lv_aload_n hx hb dX13_readLaws_59 rfl (lv_at hl 0 rfl) ?_
          obtain ⟨r_32, u_33, h_34, hF⟩ := pcl_some hF
          cases r_32 with
          | none =>
            have hF := pot_none hF
            exact mt_pass hH (mt_run (As := []) (rest := [.ref (Q 72)]) hC hH (t_number l G Z Q u_29 u_33  _ h_34) kwX13_number kVX13_number ⟨Nat.le_of_ble_eq_true rfl, Nat.le_of_ble_eq_true rfl⟩ rfl hl.1 rfl (Nat.le_of_ble_eq_true rfl) dX13_readLaws_60) hno hlocks (prt_eqT hF)
          | some r_35 =>
            have hF := pot_some hF
            refine mcV_i (As := []) (rest := [.ref (Q 72)]) hC hH (m_number l G Z Q u_29 u_33 r_35  _ h_34) kwX13_number kVX13_number ⟨Nat.le_of_ble_eq_true rfl, Nat.le_of_ble_eq_true rfl⟩ rfl hl.1 rfl (Nat.le_of_ble_eq_true rfl) dX13_readLaws_60 (fun H locs hH => ?_)
            obtain ⟨u_36, e_37, hF⟩ := pwf_some hF
            refine mp_28 hC hH e_37 dX13_readLaws_63 (fun H locs hH => ?_)
            refine lv_aload_n hx hb dX13_readLaws_66 rfl (lv_at hl 0 rfl) ?_
            refine th_ldcw (tx := sTx 14) hx hb hC.2.2.2.1 (hC.2.2.2.2.2.2.2.2.1 14 (by decide)) dX13_readLaws_67 ?_
            obtain ⟨r_38, u_39, h_40, hF⟩ := pcl_some hF
            cases r_38 with
            | none =>
              have hF := pot_none hF
              exact mt_pass hH (mt_run (As := [.ref (Z.1 14)]) (rest := []) hC hH (t_need l G Z Q u_36 u_39 14 _ h_40 (by decide)) kwX13_need kVX13_need ⟨Nat.le_of_ble_eq_true rfl, Nat.le_of_ble_eq_true rfl⟩ rfl hl.1 rfl (Nat.le_of_ble_eq_true rfl) dX13_readLaws_70) hno hlocks (prt_eqT hF)
            | some r_41 =>
              have hF := pot_some hF
              refine mcV_v (As := [.ref (Z.1 14)]) (rest := []) hC hH (m_need l G Z Q u_36 u_39 r_41 14 _ h_40 (by decide)) kwX13_need kVX13_need ⟨Nat.le_of_ble_eq_true rfl, Nat.le_of_ble_eq_true rfl⟩ rfl hl.1 rfl (Nat.le_of_ble_eq_true rfl) dX13_readLaws_70 (fun H locs hH => ?_)
              have hL73 : ∀ (K73_216 : PG (Option Int32)), (∀ (u : GS) (H : Heap) (locs : List Loc) (ls : Array Slot), lv_has ls 2 [(0, .ref (Q 72))] → mH G Q u.1 s H locs → K73_216  u = some ((none, u1)) → W p l e (headSpec (Cond.code yX13_readLaws cX13_readLaws 2 none :: wM) { frames := 405, cells := 0, slots := 0, locals := 4900 }).room s m [.ref (Q 72)].toArray below meth c H locs 0 0 (MQT below (mQt G Q u1.1 s.heap.size) [.ref (Q 72)].toArray s 0 0 (mA Q s.heap.size)) (F0 m 216 ls [])) → ∀ (n73 : Nat) (u : GS) (H : Heap) (locs : List Loc) (ls : Array Slot), lv_has ls 2 [(0, .ref (Q 72))] → mH G Q u.1 s H locs → lp_readLaws_73 n73  K73_216 u = some ((none, u1)) → W p l e (headSpec (Cond.code yX13_readLaws cX13_readLaws 2 none :: wM) { frames := 405, cells := 0, slots := 0, locals := 4900 }).room s m [.ref (Q 72)].toArray below meth c H locs 0 0 (MQT below (mQt G Q u1.1 s.heap.size) [.ref (Q 72)].toArray s 0 0 (mA Q s.heap.size)) (F0 m 73 ls []) := by
                intro K73_216 hK73_216 n73
                induction n73 with
                | zero => intro  u H locs ls hl hH hF; cases hF
                | succ n73 ih73 =>
                  intro  u H locs ls hl hH hF
                  unfold lp_readLaws_73 at hF
                  refine lv_aload_n hx hb dX13_readLaws_73 rfl (lv_at hl 0 rfl) ?_
                  refine th_ldcw (tx := sTx 3) hx hb hC.2.2.2.1 (hC.2.2.2.2.2.2.2.2.1 3 (by decide)) dX13_readLaws_74 ?_
                  obtain ⟨r_42, u_43, h_44, hF⟩ := pcl_some hF
                  refine mcV_i (As := [.ref (Z.1 3)]) (rest := []) hC hH (m_is l G Z Q u u_43 r_42 3 _ h_44 (by decide)) kwX13_is kVX13_is ⟨Nat.le_of_ble_eq_true rfl, Nat.le_of_ble_eq_true rfl⟩ rfl hl.1 rfl (Nat.le_of_ble_eq_true rfl) dX13_readLaws_77 (fun H locs hH => ?_)
                  refine lv_if_eq (tgt := 216) hx hb dX13_readLaws_80 (by decide) (fun c_45 => ?_) (fun c_45 => ?_)
                  · rw [if_pos c_45] at hF
                    exact hK73_216  u_43 _ _ _ (lv_sub hl [0] rfl) hH hF
                  · rw [if_neg c_45] at hF
                    refine lv_aload_n hx hb dX13_readLaws_83 rfl (lv_at hl 0 rfl) ?_
                    refine mg_29 hC hH dX13_readLaws_84 ?_
                    obtain ⟨x_46, e_47, hF⟩ := prf_some hF
                    refine gx_ti e_47 ?_
                    refine lv_bipush (v := 8) hx hb dX13_readLaws_87 (by decide) ?_
                    refine lv_icmp_ne (tgt := 102) hx hb dX13_readLaws_89 (by decide) (fun c_48 => ?_) (fun c_48 => ?_)
                    · rw [if_neg c_48] at hF
                      refine lv_aload_n hx hb dX13_readLaws_102 rfl (lv_at hl 0 rfl) ?_
                      obtain ⟨r_49, u_50, h_51, hF⟩ := pcl_some hF
                      refine mcV_v (As := []) (rest := []) hC hH (m_scan l G Z Q u_43 u_50 r_49  _ h_51) kwX13_scan kVX13_scan ⟨Nat.le_of_ble_eq_true rfl, Nat.le_of_ble_eq_true rfl⟩ rfl hl.1 rfl (Nat.le_of_ble_eq_true rfl) dX13_readLaws_103 (fun H locs hH => ?_)
                      refine lv_aload_n hx hb dX13_readLaws_106 rfl (lv_at hl 0 rfl) ?_
                      obtain ⟨r_52, u_53, h_54, hF⟩ := pcl_some hF
                      cases r_52 with
                      | none =>
                        have hF := pot_none hF
                        exact mt_pass hH (mt_run (As := []) (rest := []) hC hH (t_name l G Z Q u_50 u_53  _ h_54) kwX13_name kVX13_name ⟨Nat.le_of_ble_eq_true rfl, Nat.le_of_ble_eq_true rfl⟩ rfl hl.1 rfl (Nat.le_of_ble_eq_true rfl) dX13_readLaws_107) hno hlocks (prt_eqT hF)
                      | some r_55 =>
                        have hF := pot_some hF
                        refine mcV_v (As := []) (rest := []) hC hH (m_name l G Z Q u_50 u_53 r_55  _ h_54) kwX13_name kVX13_name ⟨Nat.le_of_ble_eq_true rfl, Nat.le_of_ble_eq_true rfl⟩ rfl hl.1 rfl (Nat.le_of_ble_eq_true rfl) dX13_readLaws_107 (fun H locs hH => ?_)
                        refine lv_aload_n hx hb dX13_readLaws_110 rfl (lv_at hl 0 rfl) ?_
                        obtain ⟨r_56, u_57, h_58, hF⟩ := pcl_some hF
                        refine mcV_i (As := []) (rest := []) hC hH (m_findSign l G Z Q u_53 u_57 r_56  _ h_58) kwX13_findSign kVX13_findSign ⟨Nat.le_of_ble_eq_true rfl, Nat.le_of_ble_eq_true rfl⟩ rfl hl.1 rfl (Nat.le_of_ble_eq_true rfl) dX13_readLaws_111 (fun H locs hH => ?_)
                        refine lv_iconst (v := (-1)) hx hb dX13_readLaws_114 (by decide) ?_
                        refine lv_icmp_eq (tgt := 128) hx hb dX13_readLaws_115 (by decide) (fun c_59 => ?_) (fun c_59 => ?_)
                        · rw [if_pos c_59] at hF
                          refine lv_aload_n hx hb dX13_readLaws_128 rfl (lv_at hl 0 rfl) ?_
                          refine mg_33 hC hH dX13_readLaws_129 ?_
                          refine lv_aload_n hx hb dX13_readLaws_132 rfl (lv_at hl 0 rfl) ?_
                          refine mg_29 hC hH dX13_readLaws_133 ?_
                          obtain ⟨x_60, e_61, hF⟩ := prf_some hF
                          refine gx_ti e_61 ?_
                          refine lv_aload_n hx hb dX13_readLaws_136 rfl (lv_at hl 0 rfl) ?_
                          refine mg_45 hC hH dX13_readLaws_137 ?_
                          obtain ⟨x_62, e_63, hF⟩ := prf_some hF
                          refine gx_ti e_63 ?_
                          refine lv_aload_n hx hb dX13_readLaws_140 rfl (lv_at hl 0 rfl) ?_
                          refine mg_44 hC hH dX13_readLaws_141 ?_
                          obtain ⟨x_64, e_65, hF⟩ := prf_some hF
                          refine gx_ti e_65 ?_
                          refine lv_isub hx hb dX13_readLaws_144 ?_
                          obtain ⟨u_67, g_66, e_68, hF⟩ := pwd_some hF
                          refine ms_33 hC hH e_68 g_66 dX13_readLaws_145 (fun H locs hH => ?_)
                          refine lv_iconst (v := 0) hx hb dX13_readLaws_146 (by decide) ?_
                          refine lv_istore_n (lv' := [(1, .int 0), (0, .ref (Q 72))]) hx hb dX13_readLaws_147 rfl hl (by decide) rfl (fun ls hl => ?_)
                          have hL148 : ∀ (K148_192 : Int32 → PG (Option Int32)), (∀ (v1 : Int32) (u : GS) (H : Heap) (locs : List Loc) (ls : Array Slot), lv_has ls 2 [(0, .ref (Q 72)), (1, .int v1)] → mH G Q u.1 s H locs → K148_192 v1 u = some ((none, u1)) → W p l e (headSpec (Cond.code yX13_readLaws cX13_readLaws 2 none :: wM) { frames := 405, cells := 0, slots := 0, locals := 4900 }).room s m [.ref (Q 72)].toArray below meth c H locs 0 0 (MQT below (mQt G Q u1.1 s.heap.size) [.ref (Q 72)].toArray s 0 0 (mA Q s.heap.size)) (F0 m 192 ls [])) → ∀ (n148 : Nat) (v1 : Int32) (u : GS) (H : Heap) (locs : List Loc) (ls : Array Slot), lv_has ls 2 [(0, .ref (Q 72)), (1, .int v1)] → mH G Q u.1 s H locs → lp_readLaws_148 n148 v1 K148_192 u = some ((none, u1)) → W p l e (headSpec (Cond.code yX13_readLaws cX13_readLaws 2 none :: wM) { frames := 405, cells := 0, slots := 0, locals := 4900 }).room s m [.ref (Q 72)].toArray below meth c H locs 0 0 (MQT below (mQt G Q u1.1 s.heap.size) [.ref (Q 72)].toArray s 0 0 (mA Q s.heap.size)) (F0 m 148 ls []) := by
                            intro K148_192 hK148_192 n148
                            induction n148 with
                            | zero => intro v1 u H locs ls hl hH hF; cases hF
                            | succ n148 ih148 =>
                              intro v1 u H locs ls hl hH hF
                              unfold lp_readLaws_148 at hF
                              refine lv_iload_n hx hb dX13_readLaws_148 rfl (lv_at hl 1 rfl) ?_
                              refine lv_aload_n hx hb dX13_readLaws_149 rfl (lv_at hl 0 rfl) ?_
                              refine mg_33 hC hH dX13_readLaws_150 ?_
                              refine lv_aload_n hx hb dX13_readLaws_153 rfl (lv_at hl 0 rfl) ?_
                              refine mg_29 hC hH dX13_readLaws_154 ?_
                              obtain ⟨x_69, e_70, hF⟩ := prf_some hF
                              refine gx_ti e_70 ?_
                              obtain ⟨x_71, g_72, e_73, hF⟩ := prd_some hF
                              refine ml_33 hC hH g_72 dX13_readLaws_157 ?_
                              refine gx_ti e_73 ?_
                              refine lv_icmp_ge (tgt := 192) hx hb dX13_readLaws_158 (by decide) (fun c_74 => ?_) (fun c_74 => ?_)
                              · rw [if_pos c_74] at hF
                                exact hK148_192 v1 u _ _ _ (lv_sub hl [0, 1] rfl) hH hF
                              · rw [if_neg c_74] at hF
                                refine lv_aload_n hx hb dX13_readLaws_161 rfl (lv_at hl 0 rfl) ?_
                                refine mg_32 hC hH dX13_readLaws_162 ?_
                                refine lv_bipush (v := 10) hx hb dX13_readLaws_165 (by decide) ?_
                                refine lv_aload_n hx hb dX13_readLaws_167 rfl (lv_at hl 0 rfl) ?_
                                refine mg_29 hC hH dX13_readLaws_168 ?_
                                obtain ⟨x_75, e_76, hF⟩ := prf_some hF
                                refine gx_ti e_76 ?_
                                refine lv_imul hx hb dX13_readLaws_171 ?_
                                refine lv_iload_n hx hb dX13_readLaws_172 rfl (lv_at hl 1 rfl) ?_
                                refine lv_iadd hx hb dX13_readLaws_173 ?_
                                refine lv_aload_n hx hb dX13_readLaws_174 rfl (lv_at hl 0 rfl) ?_
                                refine mg_41 hC hH dX13_readLaws_175 ?_
                                refine lv_aload_n hx hb dX13_readLaws_178 rfl (lv_at hl 0 rfl) ?_
                                refine mg_44 hC hH dX13_readLaws_179 ?_
                                obtain ⟨x_77, e_78, hF⟩ := prf_some hF
                                refine gx_ti e_78 ?_
                                refine lv_iload_n hx hb dX13_readLaws_182 rfl (lv_at hl 1 rfl) ?_
                                refine lv_iadd hx hb dX13_readLaws_183 ?_
                                obtain ⟨x_79, g_80, e_81, hF⟩ := psr_some hF
                                refine ml_src hC hH g_80 dX13_readLaws_184 ?_
                                refine gx_ti e_81 ?_
                                obtain ⟨u_83, g_82, e_84, hF⟩ := pwd_some hF
                                refine ms_32 hC hH e_84 g_82 dX13_readLaws_185 (fun H locs hH => ?_)
                                obtain ⟨x_85, e_86, hF⟩ := pli_some hF
                                refine lv_iinc (v := x_85) (lv' := [(1, .int x_85), (0, .ref (Q 72))]) hx hb dX13_readLaws_186 hl (k := 1) rfl e_86 (by decide) rfl (fun ls hl => ?_)
                                refine lv_goto (tgt := 148) hx hb dX13_readLaws_189 (by decide) ?_
                                exact ih148 x_85 u_83 _ _ _ (lv_sub hl [1, 0] rfl) hH hF
                          refine hL148 _ (fun v1 u H locs ls hl hH hF => ?_) fuel 0 u_67 _ _ _ (lv_sub hl [1, 0] rfl) hH hF
                          refine lv_aload_n hx hb dX13_readLaws_192 rfl (lv_at hl 0 rfl) ?_
                          refine lv_dup hx hb dX13_readLaws_193 rfl ?_
                          refine mg_29 hC hH dX13_readLaws_194 ?_
                          obtain ⟨x_87, e_88, hF⟩ := prf_some hF
                          refine gx_ti e_88 ?_
                          refine lv_iconst (v := 1) hx hb dX13_readLaws_197 (by decide) ?_
                          refine lv_iadd hx hb dX13_readLaws_198 ?_
                          obtain ⟨u_89, e_90, hF⟩ := pwf_some hF
                          refine mp_29 hC hH e_90 dX13_readLaws_199 (fun H locs hH => ?_)
                          refine lv_aload_n hx hb dX13_readLaws_202 rfl (lv_at hl 0 rfl) ?_
                          obtain ⟨r_91, u_92, h_93, hF⟩ := pcl_some hF
                          refine mcV_v (As := []) (rest := []) hC hH (m_scan l G Z Q u_89 u_92 r_91  _ h_93) kwX13_scan kVX13_scan ⟨Nat.le_of_ble_eq_true rfl, Nat.le_of_ble_eq_true rfl⟩ rfl hl.1 rfl (Nat.le_of_ble_eq_true rfl) dX13_readLaws_203 (fun H locs hH => ?_)
                          refine lv_aload_n hx hb dX13_readLaws_206 rfl (lv_at hl 0 rfl) ?_
                          refine th_ldcw (tx := sTx 14) hx hb hC.2.2.2.1 (hC.2.2.2.2.2.2.2.2.1 14 (by decide)) dX13_readLaws_207 ?_
                          obtain ⟨r_94, u_95, h_96, hF⟩ := pcl_some hF
                          cases r_94 with
                          | none =>
                            have hF := pot_none hF
                            exact mt_pass hH (mt_run (As := [.ref (Z.1 14)]) (rest := []) hC hH (t_need l G Z Q u_92 u_95 14 _ h_96 (by decide)) kwX13_need kVX13_need ⟨Nat.le_of_ble_eq_true rfl, Nat.le_of_ble_eq_true rfl⟩ rfl hl.1 rfl (Nat.le_of_ble_eq_true rfl) dX13_readLaws_210) hno hlocks (prt_eqT hF)
                          | some r_97 =>
                            have hF := pot_some hF
                            refine mcV_v (As := [.ref (Z.1 14)]) (rest := []) hC hH (m_need l G Z Q u_92 u_95 r_97 14 _ h_96 (by decide)) kwX13_need kVX13_need ⟨Nat.le_of_ble_eq_true rfl, Nat.le_of_ble_eq_true rfl⟩ rfl hl.1 rfl (Nat.le_of_ble_eq_true rfl) dX13_readLaws_210 (fun H locs hH => ?_)
                            refine lv_goto (tgt := 73) hx hb dX13_readLaws_213 (by decide) ?_
                            exact ih73  u_95 _ _ _ (lv_sub hl [0] rfl) hH hF
                        · rw [if_neg c_59] at hF
                          refine lv_aload_n hx hb dX13_readLaws_118 rfl (lv_at hl 0 rfl) ?_
                          refine lv_iconst (v := 2) hx hb dX13_readLaws_119 (by decide) ?_
                          refine lv_aload_n hx hb dX13_readLaws_120 rfl (lv_at hl 0 rfl) ?_
                          refine mg_44 hC hH dX13_readLaws_121 ?_
                          obtain ⟨x_98, e_99, hF⟩ := prf_some hF
                          refine gx_ti e_99 ?_
                          obtain ⟨r_100, u_101, h_102, hF⟩ := pcl_some hF
                          refine mcV_r (As := [.int 2, .int x_98]) (rest := []) hC hH (m_wrong l G Z Q u_57 u_101 r_100 2 x_98 _ h_102) kwX13_wrong kVX13_wrong ⟨Nat.le_of_ble_eq_true rfl, Nat.le_of_ble_eq_true rfl⟩ rfl hl.1 rfl (Nat.le_of_ble_eq_true rfl) dX13_readLaws_124 (fun H locs hH => ?_)
                          exact mt_throw hC hH hno (prt_eqT hF) dX13_readLaws_127 hlocks
                    · rw [if_pos c_48] at hF
                      refine lv_aload_n hx hb dX13_readLaws_92 rfl (lv_at hl 0 rfl) ?_
                      refine lv_iconst (v := 3) hx hb dX13_readLaws_93 (by decide) ?_
                      refine lv_aload_n hx hb dX13_readLaws_94 rfl (lv_at hl 0 rfl) ?_
                      refine mg_44 hC hH dX13_readLaws_95 ?_
                      obtain ⟨x_103, e_104, hF⟩ := prf_some hF
                      refine gx_ti e_104 ?_
                      obtain ⟨r_105, u_106, h_107, hF⟩ := pcl_some hF
                      refine mcV_r (As := [.int 3, .int x_103]) (rest := []) hC hH (m_wrong l G Z Q u_43 u_106 r_105 3 x_103 _ h_107) kwX13_wrong kVX13_wrong ⟨Nat.le_of_ble_eq_true rfl, Nat.le_of_ble_eq_true rfl⟩ rfl hl.1 rfl (Nat.le_of_ble_eq_true rfl) dX13_readLaws_98 (fun H locs hH => ?_)
                      exact mt_throw hC hH hno (prt_eqT hF) dX13_readLaws_101 hlocks
              refine hL73 _ (fun  u H locs ls hl hH hF => ?_) fuel  u_39 _ _ _ (lv_sub hl [0] rfl) hH hF
              refine lv_aload_n hx hb dX13_readLaws_216 rfl (lv_at hl 0 rfl) ?_
              refine mg_34 hC hH dX13_readLaws_217 ?_
              refine lv_iconst (v := 0) hx hb dX13_readLaws_220 (by decide) ?_
              refine lv_iconst (v := 0) hx hb dX13_readLaws_221 (by decide) ?_
              obtain ⟨u_109, g_108, e_110, hF⟩ := pwd_some hF
              refine ms_34 hC hH e_110 g_108 dX13_readLaws_222 (fun H locs hH => ?_)
              have hL223 : ∀ (K223_336 : PG (Option Int32)), (∀ (u : GS) (H : Heap) (locs : List Loc) (ls : Array Slot), lv_has ls 2 [(0, .ref (Q 72))] → mH G Q u.1 s H locs → K223_336  u = some ((none, u1)) → W p l e (headSpec (Cond.code yX13_readLaws cX13_readLaws 2 none :: wM) { frames := 405, cells := 0, slots := 0, locals := 4900 }).room s m [.ref (Q 72)].toArray below meth c H locs 0 0 (MQT below (mQt G Q u1.1 s.heap.size) [.ref (Q 72)].toArray s 0 0 (mA Q s.heap.size)) (F0 m 336 ls [])) → ∀ (n223 : Nat) (u : GS) (H : Heap) (locs : List Loc) (ls : Array Slot), lv_has ls 2 [(0, .ref (Q 72))] → mH G Q u.1 s H locs → lp_readLaws_223 n223  K223_336 u = some ((none, u1)) → W p l e (headSpec (Cond.code yX13_readLaws cX13_readLaws 2 none :: wM) { frames := 405, cells := 0, slots := 0, locals := 4900 }).room s m [.ref (Q 72)].toArray below meth c H locs 0 0 (MQT below (mQt G Q u1.1 s.heap.size) [.ref (Q 72)].toArray s 0 0 (mA Q s.heap.size)) (F0 m 223 ls []) := by
                intro K223_336 hK223_336 n223
                induction n223 with
                | zero => intro  u H locs ls hl hH hF; cases hF
                | succ n223 ih223 =>
                  intro  u H locs ls hl hH hF
                  unfold lp_readLaws_223 at hF
                  refine lv_aload_n hx hb dX13_readLaws_223 rfl (lv_at hl 0 rfl) ?_
                  refine th_ldcw (tx := sTx 4) hx hb hC.2.2.2.1 (hC.2.2.2.2.2.2.2.2.1 4 (by decide)) dX13_readLaws_224 ?_
                  obtain ⟨r_111, u_112, h_113, hF⟩ := pcl_some hF
                  refine mcV_i (As := [.ref (Z.1 4)]) (rest := []) hC hH (m_is l G Z Q u u_112 r_111 4 _ h_113 (by decide)) kwX13_is kVX13_is ⟨Nat.le_of_ble_eq_true rfl, Nat.le_of_ble_eq_true rfl⟩ rfl hl.1 rfl (Nat.le_of_ble_eq_true rfl) dX13_readLaws_227 (fun H locs hH => ?_)
                  refine lv_if_eq (tgt := 336) hx hb dX13_readLaws_230 (by decide) (fun c_114 => ?_) (fun c_114 => ?_)
                  · rw [if_pos c_114] at hF
                    exact hK223_336  u_112 _ _ _ (lv_sub hl [0] rfl) hH hF
                  · rw [if_neg c_114] at hF
                    refine lv_aload_n hx hb dX13_readLaws_233 rfl (lv_at hl 0 rfl) ?_
                    refine mg_30 hC hH dX13_readLaws_234 ?_
                    obtain ⟨x_115, e_116, hF⟩ := prf_some hF
                    refine gx_ti e_116 ?_
                    refine lv_bipush (v := 20) hx hb dX13_readLaws_237 (by decide) ?_
                    refine lv_icmp_ne (tgt := 252) hx hb dX13_readLaws_239 (by decide) (fun c_117 => ?_) (fun c_117 => ?_)
                    · rw [if_neg c_117] at hF
                      refine lv_aload_n hx hb dX13_readLaws_252 rfl (lv_at hl 0 rfl) ?_
                      obtain ⟨r_118, u_119, h_120, hF⟩ := pcl_some hF
                      refine mcV_v (As := []) (rest := []) hC hH (m_scan l G Z Q u_112 u_119 r_118  _ h_120) kwX13_scan kVX13_scan ⟨Nat.le_of_ble_eq_true rfl, Nat.le_of_ble_eq_true rfl⟩ rfl hl.1 rfl (Nat.le_of_ble_eq_true rfl) dX13_readLaws_253 (fun H locs hH => ?_)
                      refine lv_aload_n hx hb dX13_readLaws_256 rfl (lv_at hl 0 rfl) ?_
                      refine mg_35 hC hH dX13_readLaws_257 ?_
                      refine lv_aload_n hx hb dX13_readLaws_260 rfl (lv_at hl 0 rfl) ?_
                      refine mg_30 hC hH dX13_readLaws_261 ?_
                      obtain ⟨x_121, e_122, hF⟩ := prf_some hF
                      refine gx_ti e_122 ?_
                      refine lv_iconst (v := 1) hx hb dX13_readLaws_264 (by decide) ?_
                      obtain ⟨u_124, g_123, e_125, hF⟩ := pwd_some hF
                      refine ms_35 hC hH e_125 g_123 dX13_readLaws_265 (fun H locs hH => ?_)
                      refine lv_aload_n hx hb dX13_readLaws_266 rfl (lv_at hl 0 rfl) ?_
                      refine mg_46 hC hH dX13_readLaws_267 ?_
                      obtain ⟨x_126, e_127, hF⟩ := prf_some hF
                      refine gx_ti e_127 ?_
                      refine lv_iconst (v := 2) hx hb dX13_readLaws_270 (by decide) ?_
                      refine lv_icmp_ne (tgt := 287) hx hb dX13_readLaws_271 (by decide) (fun c_128 => ?_) (fun c_128 => ?_)
                      · rw [if_neg c_128] at hF
                        refine lv_aload_n hx hb dX13_readLaws_287 rfl (lv_at hl 0 rfl) ?_
                        refine th_ldcw (tx := sTx 5) hx hb hC.2.2.2.1 (hC.2.2.2.2.2.2.2.2.1 5 (by decide)) dX13_readLaws_288 ?_
                        obtain ⟨r_129, u_130, h_131, hF⟩ := pcl_some hF
                        cases r_129 with
                        | none =>
                          have hF := pot_none hF
                          exact mt_pass hH (mt_run (As := [.ref (Z.1 5)]) (rest := []) hC hH (t_need l G Z Q u_124 u_130 5 _ h_131 (by decide)) kwX13_need kVX13_need ⟨Nat.le_of_ble_eq_true rfl, Nat.le_of_ble_eq_true rfl⟩ rfl hl.1 rfl (Nat.le_of_ble_eq_true rfl) dX13_readLaws_291) hno hlocks (prt_eqT hF)
                        | some r_132 =>
                          have hF := pot_some hF
                          refine mcV_v (As := [.ref (Z.1 5)]) (rest := []) hC hH (m_need l G Z Q u_124 u_130 r_132 5 _ h_131 (by decide)) kwX13_need kVX13_need ⟨Nat.le_of_ble_eq_true rfl, Nat.le_of_ble_eq_true rfl⟩ rfl hl.1 rfl (Nat.le_of_ble_eq_true rfl) dX13_readLaws_291 (fun H locs hH => ?_)
                          refine lv_aload_n hx hb dX13_readLaws_294 rfl (lv_at hl 0 rfl) ?_
                          refine lv_iconst (v := 0) hx hb dX13_readLaws_295 (by decide) ?_
                          obtain ⟨u_133, e_134, hF⟩ := pwf_some hF
                          refine mp_48 hC hH e_134 dX13_readLaws_296 (fun H locs hH => ?_)
                          refine lv_aload_n hx hb dX13_readLaws_299 rfl (lv_at hl 0 rfl) ?_
                          obtain ⟨r_135, u_136, h_137, hF⟩ := pcl_some hF
                          cases r_135 with
                          | none =>
                            have hF := pot_none hF
                            exact mt_pass hH (mt_run (As := []) (rest := []) hC hH (t_readOr l G Z Q u_133 u_136  _ h_137) kwX13_readOr kVX13_readOr ⟨Nat.le_of_ble_eq_true rfl, Nat.le_of_ble_eq_true rfl⟩ rfl hl.1 rfl (Nat.le_of_ble_eq_true rfl) dX13_readLaws_300) hno hlocks (prt_eqT hF)
                          | some r_138 =>
                            have hF := pot_some hF
                            refine mcV_v (As := []) (rest := []) hC hH (m_readOr l G Z Q u_133 u_136 r_138  _ h_137) kwX13_readOr kVX13_readOr ⟨Nat.le_of_ble_eq_true rfl, Nat.le_of_ble_eq_true rfl⟩ rfl hl.1 rfl (Nat.le_of_ble_eq_true rfl) dX13_readLaws_300 (fun H locs hH => ?_)
                            refine lv_aload_n hx hb dX13_readLaws_303 rfl (lv_at hl 0 rfl) ?_
                            refine th_ldcw (tx := sTx 14) hx hb hC.2.2.2.1 (hC.2.2.2.2.2.2.2.2.1 14 (by decide)) dX13_readLaws_304 ?_
                            obtain ⟨r_139, u_140, h_141, hF⟩ := pcl_some hF
                            cases r_139 with
                            | none =>
                              have hF := pot_none hF
                              exact mt_pass hH (mt_run (As := [.ref (Z.1 14)]) (rest := []) hC hH (t_need l G Z Q u_136 u_140 14 _ h_141 (by decide)) kwX13_need kVX13_need ⟨Nat.le_of_ble_eq_true rfl, Nat.le_of_ble_eq_true rfl⟩ rfl hl.1 rfl (Nat.le_of_ble_eq_true rfl) dX13_readLaws_307) hno hlocks (prt_eqT hF)
                            | some r_142 =>
                              have hF := pot_some hF
                              refine mcV_v (As := [.ref (Z.1 14)]) (rest := []) hC hH (m_need l G Z Q u_136 u_140 r_142 14 _ h_141 (by decide)) kwX13_need kVX13_need ⟨Nat.le_of_ble_eq_true rfl, Nat.le_of_ble_eq_true rfl⟩ rfl hl.1 rfl (Nat.le_of_ble_eq_true rfl) dX13_readLaws_307 (fun H locs hH => ?_)
                              refine lv_aload_n hx hb dX13_readLaws_310 rfl (lv_at hl 0 rfl) ?_
                              refine lv_dup hx hb dX13_readLaws_311 rfl ?_
                              refine mg_30 hC hH dX13_readLaws_312 ?_
                              obtain ⟨x_143, e_144, hF⟩ := prf_some hF
                              refine gx_ti e_144 ?_
                              refine lv_iconst (v := 1) hx hb dX13_readLaws_315 (by decide) ?_
                              refine lv_iadd hx hb dX13_readLaws_316 ?_
                              obtain ⟨u_145, e_146, hF⟩ := pwf_some hF
                              refine mp_30 hC hH e_146 dX13_readLaws_317 (fun H locs hH => ?_)
                              refine lv_aload_n hx hb dX13_readLaws_320 rfl (lv_at hl 0 rfl) ?_
                              refine mg_34 hC hH dX13_readLaws_321 ?_
                              refine lv_aload_n hx hb dX13_readLaws_324 rfl (lv_at hl 0 rfl) ?_
                              refine mg_30 hC hH dX13_readLaws_325 ?_
                              obtain ⟨x_147, e_148, hF⟩ := prf_some hF
                              refine gx_ti e_148 ?_
                              refine lv_aload_n hx hb dX13_readLaws_328 rfl (lv_at hl 0 rfl) ?_
                              refine mg_31 hC hH dX13_readLaws_329 ?_
                              obtain ⟨x_149, e_150, hF⟩ := prf_some hF
                              refine gx_ti e_150 ?_
                              obtain ⟨u_152, g_151, e_153, hF⟩ := pwd_some hF
                              refine ms_34 hC hH e_153 g_151 dX13_readLaws_332 (fun H locs hH => ?_)
                              refine lv_goto (tgt := 223) hx hb dX13_readLaws_333 (by decide) ?_
                              exact ih223  u_152 _ _ _ (lv_sub hl [0] rfl) hH hF
                      · rw [if_pos c_128] at hF
                        refine lv_aload_n hx hb dX13_readLaws_274 rfl (lv_at hl 0 rfl) ?_
                        refine mg_35 hC hH dX13_readLaws_275 ?_
                        refine lv_aload_n hx hb dX13_readLaws_278 rfl (lv_at hl 0 rfl) ?_
                        refine mg_30 hC hH dX13_readLaws_279 ?_
                        obtain ⟨x_154, e_155, hF⟩ := prf_some hF
                        refine gx_ti e_155 ?_
                        refine lv_aload_n hx hb dX13_readLaws_282 rfl (lv_at hl 0 rfl) ?_
                        obtain ⟨r_156, u_157, h_158, hF⟩ := pcl_some hF
                        cases r_156 with
                        | none =>
                          have hF := pot_none hF
                          exact mt_pass hH (mt_run (As := []) (rest := [.int x_154, .ref (Q 35)]) hC hH (t_number l G Z Q u_124 u_157  _ h_158) kwX13_number kVX13_number ⟨Nat.le_of_ble_eq_true rfl, Nat.le_of_ble_eq_true rfl⟩ rfl hl.1 rfl (Nat.le_of_ble_eq_true rfl) dX13_readLaws_283) hno hlocks (prt_eqT hF)
                        | some r_159 =>
                          have hF := pot_some hF
                          refine mcV_i (As := []) (rest := [.int x_154, .ref (Q 35)]) hC hH (m_number l G Z Q u_124 u_157 r_159  _ h_158) kwX13_number kVX13_number ⟨Nat.le_of_ble_eq_true rfl, Nat.le_of_ble_eq_true rfl⟩ rfl hl.1 rfl (Nat.le_of_ble_eq_true rfl) dX13_readLaws_283 (fun H locs hH => ?_)
                          obtain ⟨u_161, g_160, e_162, hF⟩ := pwd_some hF
                          refine ms_35 hC hH e_162 g_160 dX13_readLaws_286 (fun H locs hH => ?_)
                          refine lv_aload_n hx hb dX13_readLaws_287 rfl (lv_at hl 0 rfl) ?_
                          refine th_ldcw (tx := sTx 5) hx hb hC.2.2.2.1 (hC.2.2.2.2.2.2.2.2.1 5 (by decide)) dX13_readLaws_288 ?_
                          obtain ⟨r_163, u_164, h_165, hF⟩ := pcl_some hF
                          cases r_163 with
                          | none =>
                            have hF := pot_none hF
                            exact mt_pass hH (mt_run (As := [.ref (Z.1 5)]) (rest := []) hC hH (t_need l G Z Q u_161 u_164 5 _ h_165 (by decide)) kwX13_need kVX13_need ⟨Nat.le_of_ble_eq_true rfl, Nat.le_of_ble_eq_true rfl⟩ rfl hl.1 rfl (Nat.le_of_ble_eq_true rfl) dX13_readLaws_291) hno hlocks (prt_eqT hF)
                          | some r_166 =>
                            have hF := pot_some hF
                            refine mcV_v (As := [.ref (Z.1 5)]) (rest := []) hC hH (m_need l G Z Q u_161 u_164 r_166 5 _ h_165 (by decide)) kwX13_need kVX13_need ⟨Nat.le_of_ble_eq_true rfl, Nat.le_of_ble_eq_true rfl⟩ rfl hl.1 rfl (Nat.le_of_ble_eq_true rfl) dX13_readLaws_291 (fun H locs hH => ?_)
                            refine lv_aload_n hx hb dX13_readLaws_294 rfl (lv_at hl 0 rfl) ?_
                            refine lv_iconst (v := 0) hx hb dX13_readLaws_295 (by decide) ?_
                            obtain ⟨u_167, e_168, hF⟩ := pwf_some hF
                            refine mp_48 hC hH e_168 dX13_readLaws_296 (fun H locs hH => ?_)
                            refine lv_aload_n hx hb dX13_readLaws_299 rfl (lv_at hl 0 rfl) ?_
                            obtain ⟨r_169, u_170, h_171, hF⟩ := pcl_some hF
                            cases r_169 with
                            | none =>
                              have hF := pot_none hF
                              exact mt_pass hH (mt_run (As := []) (rest := []) hC hH (t_readOr l G Z Q u_167 u_170  _ h_171) kwX13_readOr kVX13_readOr ⟨Nat.le_of_ble_eq_true rfl, Nat.le_of_ble_eq_true rfl⟩ rfl hl.1 rfl (Nat.le_of_ble_eq_true rfl) dX13_readLaws_300) hno hlocks (prt_eqT hF)
                            | some r_172 =>
                              have hF := pot_some hF
                              refine mcV_v (As := []) (rest := []) hC hH (m_readOr l G Z Q u_167 u_170 r_172  _ h_171) kwX13_readOr kVX13_readOr ⟨Nat.le_of_ble_eq_true rfl, Nat.le_of_ble_eq_true rfl⟩ rfl hl.1 rfl (Nat.le_of_ble_eq_true rfl) dX13_readLaws_300 (fun H locs hH => ?_)
                              refine lv_aload_n hx hb dX13_readLaws_303 rfl (lv_at hl 0 rfl) ?_
                              refine th_ldcw (tx := sTx 14) hx hb hC.2.2.2.1 (hC.2.2.2.2.2.2.2.2.1 14 (by decide)) dX13_readLaws_304 ?_
                              obtain ⟨r_173, u_174, h_175, hF⟩ := pcl_some hF
                              cases r_173 with
                              | none =>
                                have hF := pot_none hF
                                exact mt_pass hH (mt_run (As := [.ref (Z.1 14)]) (rest := []) hC hH (t_need l G Z Q u_170 u_174 14 _ h_175 (by decide)) kwX13_need kVX13_need ⟨Nat.le_of_ble_eq_true rfl, Nat.le_of_ble_eq_true rfl⟩ rfl hl.1 rfl (Nat.le_of_ble_eq_true rfl) dX13_readLaws_307) hno hlocks (prt_eqT hF)
                              | some r_176 =>
                                have hF := pot_some hF
                                refine mcV_v (As := [.ref (Z.1 14)]) (rest := []) hC hH (m_need l G Z Q u_170 u_174 r_176 14 _ h_175 (by decide)) kwX13_need kVX13_need ⟨Nat.le_of_ble_eq_true rfl, Nat.le_of_ble_eq_true rfl⟩ rfl hl.1 rfl (Nat.le_of_ble_eq_true rfl) dX13_readLaws_307 (fun H locs hH => ?_)
                                refine lv_aload_n hx hb dX13_readLaws_310 rfl (lv_at hl 0 rfl) ?_
                                refine lv_dup hx hb dX13_readLaws_311 rfl ?_
                                refine mg_30 hC hH dX13_readLaws_312 ?_
                                obtain ⟨x_177, e_178, hF⟩ := prf_some hF
                                refine gx_ti e_178 ?_
                                refine lv_iconst (v := 1) hx hb dX13_readLaws_315 (by decide) ?_
                                refine lv_iadd hx hb dX13_readLaws_316 ?_
                                obtain ⟨u_179, e_180, hF⟩ := pwf_some hF
                                refine mp_30 hC hH e_180 dX13_readLaws_317 (fun H locs hH => ?_)
                                refine lv_aload_n hx hb dX13_readLaws_320 rfl (lv_at hl 0 rfl) ?_
                                refine mg_34 hC hH dX13_readLaws_321 ?_
                                refine lv_aload_n hx hb dX13_readLaws_324 rfl (lv_at hl 0 rfl) ?_
                                refine mg_30 hC hH dX13_readLaws_325 ?_
                                obtain ⟨x_181, e_182, hF⟩ := prf_some hF
                                refine gx_ti e_182 ?_
                                refine lv_aload_n hx hb dX13_readLaws_328 rfl (lv_at hl 0 rfl) ?_
                                refine mg_31 hC hH dX13_readLaws_329 ?_
                                obtain ⟨x_183, e_184, hF⟩ := prf_some hF
                                refine gx_ti e_184 ?_
                                obtain ⟨u_186, g_185, e_187, hF⟩ := pwd_some hF
                                refine ms_34 hC hH e_187 g_185 dX13_readLaws_332 (fun H locs hH => ?_)
                                refine lv_goto (tgt := 223) hx hb dX13_readLaws_333 (by decide) ?_
                                exact ih223  u_186 _ _ _ (lv_sub hl [0] rfl) hH hF
                    · rw [if_pos c_117] at hF
                      refine lv_aload_n hx hb dX13_readLaws_242 rfl (lv_at hl 0 rfl) ?_
                      refine lv_iconst (v := 3) hx hb dX13_readLaws_243 (by decide) ?_
                      refine lv_aload_n hx hb dX13_readLaws_244 rfl (lv_at hl 0 rfl) ?_
                      refine mg_44 hC hH dX13_readLaws_245 ?_
                      obtain ⟨x_188, e_189, hF⟩ := prf_some hF
                      refine gx_ti e_189 ?_
                      obtain ⟨r_190, u_191, h_192, hF⟩ := pcl_some hF
                      refine mcV_r (As := [.int 3, .int x_188]) (rest := []) hC hH (m_wrong l G Z Q u_112 u_191 r_190 3 x_188 _ h_192) kwX13_wrong kVX13_wrong ⟨Nat.le_of_ble_eq_true rfl, Nat.le_of_ble_eq_true rfl⟩ rfl hl.1 rfl (Nat.le_of_ble_eq_true rfl) dX13_readLaws_248 (fun H locs hH => ?_)
                      exact mt_throw hC hH hno (prt_eqT hF) dX13_readLaws_251 hlocks
              refine hL223 _ (fun  u H locs ls hl hH hF => ?_) fuel  u_109 _ _ _ (lv_sub hl [0] rfl) hH hF
              refine lv_aload_n hx hb dX13_readLaws_336 rfl (lv_at hl 0 rfl) ?_
              refine mg_46 hC hH dX13_readLaws_337 ?_
              obtain ⟨x_193, e_194, hF⟩ := prf_some hF
              refine gx_ti e_194 ?_
              refine lv_if_eq (tgt := 353) hx hb dX13_readLaws_340 (by decide) (fun c_195 => ?_) (fun c_195 => ?_)
              · rw [if_pos c_195] at hF
                exact (prt_no2 hF).elim
              · rw [if_neg c_195] at hF
                refine lv_aload_n hx hb dX13_readLaws_343 rfl (lv_at hl 0 rfl) ?_
                refine lv_iconst (v := 1) hx hb dX13_readLaws_344 (by decide) ?_
                refine lv_aload_n hx hb dX13_readLaws_345 rfl (lv_at hl 0 rfl) ?_
                refine mg_44 hC hH dX13_readLaws_346 ?_
                obtain ⟨x_196, e_197, hF⟩ := prf_some hF
                refine gx_ti e_197 ?_
                obtain ⟨r_198, u_199, h_200, hF⟩ := pcl_some hF
                refine mcV_r (As := [.int 1, .int x_196]) (rest := []) hC hH (m_wrong l G Z Q u u_199 r_198 1 x_196 _ h_200) kwX13_wrong kVX13_wrong ⟨Nat.le_of_ble_eq_true rfl, Nat.le_of_ble_eq_true rfl⟩ rfl hl.1 rfl (Nat.le_of_ble_eq_true rfl) dX13_readLaws_349 (fun H locs hH => ?_)
                exact mt_throw hC hH hno (prt_eqT hF) dX13_readLaws_352 hlocks
def lp_takeLaws_2 : Nat → Int32 → Int32 → Int32 → (Int32 → Int32 → Int32 → PG (Int32)) → PG (Int32)
  | 0, _, _, _, _ => fun _ => none
  | n2 + 1, v1, v2, v3, K2_27 => (if v2 ≤ v3 then K2_27 v1 v2 v3 else prd 54 24000 (v1 + v3) (fun x_2 => pwd 56 3000 v3 (vp_nar .byte x_2) (pli (v3 + 1) (fun x_8 => lp_takeLaws_2 n2 v1 v2 x_8 K2_27))))
def f_takeLaws (a0 : Int32) (a1 : Int32) : PG (Int32) := lp_takeLaws_2 fuel a0 a1 0 (fun v1 v2 v3 => pwf 41 1 (pwf 43 v2 (puf 49 (fun x_14 => puf 50 (fun x_16 => pcl (f_readLaws) (fun r_18 => pot r_18 (pwf 30 0 (pwf 49 x_14 (pwf 50 x_16 (prf 30 (fun x_28 => prt x_28))))) (fun r_21 => pwf 49 x_14 (pwf 50 x_16 (prf 30 (fun x_34 => prt x_34))))))))))
set_option maxHeartbeats 4000000 in
set_option maxRecDepth 100000 in
theorem m_takeLaws (l : Launch) (G : gG) (Z : gM) (Q : Nat → Nat) (u u1 : GS) (r : Int32) (a0 : Int32) (a1 : Int32) (sz : Nat) (hF : f_takeLaws a0 a1 u = some (r, u1)) : Met l yX13_takeLaws (Cond.codeWith yX13_takeLaws cX13_takeLaws 6 (some .int) [(51, 55, 58, 105)] :: wM) { frames := 406, cells := 0, slots := 0, locals := 4921 } (va_Pc [.ref (Q 72), .int a0, .int a1] (mPM G Z Q u.1 sz)) (mQi G Q u1.1 r sz) 0 0 (mA Q sz) := by
  refine va_MetW (cc := cX13_takeLaws) (maxL := 6) (ret := (some .int)) (by decide) rfl ?_
  intro p e s m args below meth c s₁ B hml hv
  obtain ⟨rfl, rfl, hP, hB, hD, hE⟩ := hv
  have hr := B.returns
  have hlocks := B.notSynchronized
  have hts := atoms_spec (ws := Cond.codeWith yX13_takeLaws cX13_takeLaws 6 (some .int) [(51, 55, 58, 105)] :: wM) B.pre
  have hC : mX p c cX13_takeLaws 6 s m _ G Z Q := ⟨B.exec, B.bytes, hml, findClass_of_methodNamed B.named, fun w h => hts w (List.mem_cons_of_mem _ h), hB, hE⟩
  have hx := hC.1
  have hb := hC.2.1
  have hH : mH G Q u.1 s s.heap [] := ⟨hP, hD, va_S.rf⟩
  have hl := lv_entry ([.ref (Q 72), .int a0, .int a1]) (n := 6) (Nat.le_of_ble_eq_true rfl)
  rw [lg_entry_eq]
  generalize (lg_sl ([.ref (Q 72), .int a0, .int a1]) ++ List.replicate (6 - (lg_sl ([.ref (Q 72), .int a0, .int a1])).length) Slot.unset).toArray = ls at hl ⊢
  have hl : lv_has ls 6 [(0, .ref (Q 72)), (1, .int a0), (2, .int a1)] := hl
  obtain ⟨m9, meth9, c9, hn9, hm9, hc9, -, -, htab9, -⟩ := Cond.codeWith_spec (hts _ List.mem_cons_self)
  cases B.named.symm.trans hn9
  cases B.method.symm.trans hm9
  cases (Stand.of_body B).code.symm.trans hc9
  obtain ⟨x9, htab, ex9⟩ : ∃ x9 : ExceptionTableEntry, c.exceptionTable.toList = [x9] ∧ (x9.startPc, x9.endPc, x9.handlerPc, x9.catchType) = (51, 55, 58, 105) := by
    cases hz : c.exceptionTable.toList with
    | nil => rw [hz] at htab9; cases htab9
    | cons y ys =>
      rw [hz] at htab9
      cases ys with
      | nil => exact ⟨y, rfl, (List.cons.inj htab9).1⟩
      | cons z zs => exact absurd (List.cons.inj htab9).2 (by intro h; cases h)
  obtain ⟨x1, x2, x3, x4⟩ := x9
  cases ex9
  unfold f_takeLaws at hF
  refine lv_iconst (v := 0) hx hb dX13_takeLaws_0 (by decide) ?_
  refine lv_istore_n (lv' := [(3, .int 0), (0, .ref (Q 72)), (1, .int a0), (2, .int a1)]) hx hb dX13_takeLaws_1 rfl hl (by decide) rfl (fun ls hl => ?_)
  have hL2 : ∀ (K2_27 : Int32 → Int32 → Int32 → PG (Int32)), (∀ (v1 v2 v3 : Int32) (u : GS) (H : Heap) (locs : List Loc) (ls : Array Slot), lv_has ls 6 [(0, .ref (Q 72)), (1, .int v1), (2, .int v2), (3, .int v3)] → mH G Q u.1 s H locs → K2_27 v1 v2 v3 u = some ((r, u1)) → W p l e (headSpec (Cond.codeWith yX13_takeLaws cX13_takeLaws 6 (some .int) [(51, 55, 58, 105)] :: wM) { frames := 406, cells := 0, slots := 0, locals := 4921 }).room s m [.ref (Q 72), .int a0, .int a1].toArray below meth c H locs 0 0 (MQ below (mQi G Q u1.1 r s.heap.size) [.ref (Q 72), .int a0, .int a1].toArray s 0 0 (mA Q s.heap.size)) (F0 m 27 ls [])) → ∀ (n2 : Nat) (v1 v2 v3 : Int32) (u : GS) (H : Heap) (locs : List Loc) (ls : Array Slot), lv_has ls 6 [(0, .ref (Q 72)), (1, .int v1), (2, .int v2), (3, .int v3)] → mH G Q u.1 s H locs → lp_takeLaws_2 n2 v1 v2 v3 K2_27 u = some ((r, u1)) → W p l e (headSpec (Cond.codeWith yX13_takeLaws cX13_takeLaws 6 (some .int) [(51, 55, 58, 105)] :: wM) { frames := 406, cells := 0, slots := 0, locals := 4921 }).room s m [.ref (Q 72), .int a0, .int a1].toArray below meth c H locs 0 0 (MQ below (mQi G Q u1.1 r s.heap.size) [.ref (Q 72), .int a0, .int a1].toArray s 0 0 (mA Q s.heap.size)) (F0 m 2 ls []) := by
    intro K2_27 hK2_27 n2
    induction n2 with
    | zero => intro v1 v2 v3 u H locs ls hl hH hF; cases hF
    | succ n2 ih2 =>
      intro v1 v2 v3 u H locs ls hl hH hF
      unfold lp_takeLaws_2 at hF
      refine lv_iload_n hx hb dX13_takeLaws_2 rfl (lv_at hl 3 rfl) ?_
      refine lv_iload_n hx hb dX13_takeLaws_3 rfl (lv_at hl 2 rfl) ?_
      refine lv_icmp_ge (tgt := 27) hx hb dX13_takeLaws_4 (by decide) (fun c_1 => ?_) (fun c_1 => ?_)
      · rw [if_pos c_1] at hF
        exact hK2_27 v1 v2 v3 u _ _ _ (lv_sub hl [0, 1, 2, 3] rfl) hH hF
      · rw [if_neg c_1] at hF
        refine lv_aload_n hx hb dX13_takeLaws_7 rfl (lv_at hl 0 rfl) ?_
        refine mg_56 hC hH dX13_takeLaws_8 ?_
        refine lv_iload_n hx hb dX13_takeLaws_11 rfl (lv_at hl 3 rfl) ?_
        refine lv_aload_n hx hb dX13_takeLaws_12 rfl (lv_at hl 0 rfl) ?_
        refine mg_54 hC hH dX13_takeLaws_13 ?_
        refine lv_iload_n hx hb dX13_takeLaws_16 rfl (lv_at hl 1 rfl) ?_
        refine lv_iload_n hx hb dX13_takeLaws_17 rfl (lv_at hl 3 rfl) ?_
        refine lv_iadd hx hb dX13_takeLaws_18 ?_
        obtain ⟨x_2, g_3, e_4, hF⟩ := prd_some hF
        refine ml_54 hC hH g_3 dX13_takeLaws_19 ?_
        refine gx_ti e_4 ?_
        obtain ⟨u_6, g_5, e_7, hF⟩ := pwd_some hF
        refine ms_56 hC hH e_7 g_5 dX13_takeLaws_20 (fun H locs hH => ?_)
        obtain ⟨x_8, e_9, hF⟩ := pli_some hF
        refine lv_iinc (v := x_8) (lv' := [(3, .int x_8), (0, .ref (Q 72)), (1, .int v1), (2, .int v2)]) hx hb dX13_takeLaws_21 hl (k := 3) rfl e_9 (by decide) rfl (fun ls hl => ?_)
        refine lv_goto (tgt := 2) hx hb dX13_takeLaws_24 (by decide) ?_
        exact ih2 v1 v2 x_8 u_6 _ _ _ (lv_sub hl [1, 2, 3, 0] rfl) hH hF
  refine hL2 _ (fun v1 v2 v3 u H locs ls hl hH hF => ?_) fuel a0 a1 0 u _ _ _ (lv_sub hl [1, 2, 3, 0] rfl) hH hF
  refine lv_aload_n hx hb dX13_takeLaws_27 rfl (lv_at hl 0 rfl) ?_
  refine lv_aload_n hx hb dX13_takeLaws_28 rfl (lv_at hl 0 rfl) ?_
  refine mg_56 hC hH dX13_takeLaws_29 ?_
  obtain ⟨u_10, e_11, hF⟩ := pwf_some hF
  refine mp_41_1 hC hH e_11 dX13_takeLaws_32 (fun H locs hH => ?_)
  refine lv_aload_n hx hb dX13_takeLaws_35 rfl (lv_at hl 0 rfl) ?_
  refine lv_iload_n hx hb dX13_takeLaws_36 rfl (lv_at hl 2 rfl) ?_
  obtain ⟨u_12, e_13, hF⟩ := pwf_some hF
  refine mp_43 hC hH e_13 dX13_takeLaws_37 (fun H locs hH => ?_)
  refine lv_aload_n hx hb dX13_takeLaws_40 rfl (lv_at hl 0 rfl) ?_
  refine mg_49 hC hH dX13_takeLaws_41 ?_
  obtain ⟨x_14, e_15, hF⟩ := puf_some hF
  refine gx_ti e_15 ?_
  refine lv_istore_n (lv' := [(3, .int x_14), (0, .ref (Q 72)), (1, .int v1), (2, .int v2)]) hx hb dX13_takeLaws_44 rfl hl (by decide) rfl (fun ls hl => ?_)
  refine lv_aload_n hx hb dX13_takeLaws_45 rfl (lv_at hl 1 rfl) ?_
  refine mg_50 hC hH dX13_takeLaws_46 ?_
  obtain ⟨x_16, e_17, hF⟩ := puf_some hF
  refine gx_ti e_17 ?_
  refine lv_istore (lv' := [(4, .int x_16), (3, .int x_14), (0, .ref (Q 72)), (1, .int v1), (2, .int v2)]) hx hb dX13_takeLaws_49 hl (by decide) rfl (fun ls hl => ?_)
  refine lv_aload_n hx hb dX13_takeLaws_51 rfl (lv_at hl 2 rfl) ?_
  obtain ⟨r_18, u_19, h_20, hF⟩ := pcl_some hF
  cases r_18 with
  | none =>
    have hF := pot_none hF
    refine mt_catch (hpc := 58) hC hH (mt_run (As := []) (rest := []) hC hH (t_readLaws l G Z Q u_12 u_19  _ h_20) kwX13_readLaws kVX13_readLaws ⟨Nat.le_of_ble_eq_true rfl, Nat.le_of_ble_eq_true rfl⟩ rfl hl.1 rfl (Nat.le_of_ble_eq_true rfl) dX13_takeLaws_52) htab (by decide) (by decide) wma1 rfl (fun H locs hH => ?_)
    refine lv_astore (lv' := [(5, .ref (Q 39)), (4, .int x_16), (3, .int x_14), (0, .ref (Q 72)), (1, .int v1), (2, .int v2)]) hx hb dX13_takeLaws_58 hl (by decide) rfl (fun ls hl => ?_)
    refine lv_aload_n hx hb dX13_takeLaws_60 rfl (lv_at hl 3 rfl) ?_
    refine lv_iconst (v := 0) hx hb dX13_takeLaws_61 (by decide) ?_
    obtain ⟨u_22, e_23, hF⟩ := pwf_some hF
    refine mp_30 hC hH e_23 dX13_takeLaws_62 (fun H locs hH => ?_)
    refine lv_aload_n hx hb dX13_takeLaws_65 rfl (lv_at hl 3 rfl) ?_
    refine lv_iload_n hx hb dX13_takeLaws_66 rfl (lv_at hl 2 rfl) ?_
    obtain ⟨u_24, e_25, hF⟩ := pwf_some hF
    refine mp_49 hC hH e_25 dX13_takeLaws_67 (fun H locs hH => ?_)
    refine lv_aload_n hx hb dX13_takeLaws_70 rfl (lv_at hl 3 rfl) ?_
    refine lv_iload hx hb dX13_takeLaws_71 (lv_at hl 1 rfl) ?_
    obtain ⟨u_26, e_27, hF⟩ := pwf_some hF
    refine mp_50 hC hH e_27 dX13_takeLaws_73 (fun H locs hH => ?_)
    refine lv_aload_n hx hb dX13_takeLaws_76 rfl (lv_at hl 3 rfl) ?_
    refine mg_30 hC hH dX13_takeLaws_77 ?_
    obtain ⟨x_28, e_29, hF⟩ := prf_some hF
    refine gx_ti e_29 ?_
    have hF := prt_eq hF
    exact mr_i hC hH hr hF dX13_takeLaws_80 hlocks
  | some r_21 =>
    have hF := pot_some hF
    refine mcV_v (As := []) (rest := []) hC hH (m_readLaws l G Z Q u_12 u_19 r_21  _ h_20) kwX13_readLaws kVX13_readLaws ⟨Nat.le_of_ble_eq_true rfl, Nat.le_of_ble_eq_true rfl⟩ rfl hl.1 rfl (Nat.le_of_ble_eq_true rfl) dX13_takeLaws_52 (fun H locs hH => ?_)
    refine lv_goto (tgt := 65) hx hb dX13_takeLaws_55 (by decide) ?_
    refine lv_aload_n hx hb dX13_takeLaws_65 rfl (lv_at hl 2 rfl) ?_
    refine lv_iload_n hx hb dX13_takeLaws_66 rfl (lv_at hl 1 rfl) ?_
    obtain ⟨u_30, e_31, hF⟩ := pwf_some hF
    refine mp_49 hC hH e_31 dX13_takeLaws_67 (fun H locs hH => ?_)
    refine lv_aload_n hx hb dX13_takeLaws_70 rfl (lv_at hl 2 rfl) ?_
    refine lv_iload hx hb dX13_takeLaws_71 (lv_at hl 0 rfl) ?_
    obtain ⟨u_32, e_33, hF⟩ := pwf_some hF
    refine mp_50 hC hH e_33 dX13_takeLaws_73 (fun H locs hH => ?_)
    refine lv_aload_n hx hb dX13_takeLaws_76 rfl (lv_at hl 2 rfl) ?_
    refine mg_30 hC hH dX13_takeLaws_77 ?_
    obtain ⟨x_34, e_35, hF⟩ := prf_some hF
    refine gx_ti e_35 ?_
    have hF := prt_eq hF
    exact mr_i hC hH hr hF dX13_takeLaws_80 hlocks
def lp_lawsAgain_32 : Nat → Int32 → (Int32 → PG (Int32)) → PG (Int32)
  | 0, _, _ => fun _ => none
  | n32 + 1, v1, K32_82 => (if v1 < 0 then K32_82 v1 else pud 52 2000 (4 * v1) (fun x_16 => (if x_16 = 0 then pud 52 2000 ((4 * v1) + 1) (fun x_20 => pud 52 2000 ((4 * v1) + 2) (fun x_23 => pcl (f_takeLaws x_20 x_23) (fun r_26 => prt 0))) else pli (v1 + (-1)) (fun x_29 => lp_lawsAgain_32 n32 x_29 K32_82))))
def f_lawsAgain  : PG (Int32) := pwf 29 0 (pwf 30 0 (pwf 31 0 (pwf 27 0 (pwf 28 0 (puf 53 (fun x_11 => pli (x_11 - 1) (fun x_13 => lp_lawsAgain_32 fuel x_13 (fun v1 => prt 0))))))))
set_option maxHeartbeats 4000000 in
set_option maxRecDepth 100000 in
theorem m_lawsAgain (l : Launch) (G : gG) (Z : gM) (Q : Nat → Nat) (u u1 : GS) (r : Int32)  (sz : Nat) (hF : f_lawsAgain u = some (r, u1)) : Met l yX13_lawsAgain (Cond.code yX13_lawsAgain cX13_lawsAgain 3 none :: wM) { frames := 407, cells := 0, slots := 0, locals := 4946 } (va_Pc [.ref (Q 72)] (mPM G Z Q u.1 sz)) (mQv G Q u1.1 sz) 0 0 (mA Q sz) := by
  refine Met.ofW (cc := cX13_lawsAgain) (maxL := 3) (ret := none) (by decide) rfl ?_
  intro p e s m args below meth c s₁ B hml hv
  obtain ⟨rfl, rfl, hP, hB, hD, hE⟩ := hv
  have hr := B.returns
  have hlocks := B.notSynchronized
  have hts := atoms_spec (ws := Cond.code yX13_lawsAgain cX13_lawsAgain 3 none :: wM) B.pre
  have hC : mX p c cX13_lawsAgain 3 s m _ G Z Q := ⟨B.exec, B.bytes, hml, findClass_of_methodNamed B.named, fun w h => hts w (List.mem_cons_of_mem _ h), hB, hE⟩
  have hx := hC.1
  have hb := hC.2.1
  have hH : mH G Q u.1 s s.heap [] := ⟨hP, hD, va_S.rf⟩
  have hl := lv_entry ([.ref (Q 72)]) (n := 3) (Nat.le_of_ble_eq_true rfl)
  rw [lg_entry_eq]
  generalize (lg_sl ([.ref (Q 72)]) ++ List.replicate (3 - (lg_sl ([.ref (Q 72)])).length) Slot.unset).toArray = ls at hl ⊢
  have hl : lv_has ls 3 [(0, .ref (Q 72))] := hl
  unfold f_lawsAgain at hF
  refine lv_aload_n hx hb dX13_lawsAgain_0 rfl (lv_at hl 0 rfl) ?_
  refine lv_iconst (v := 0) hx hb dX13_lawsAgain_1 (by decide) ?_
  obtain ⟨u_1, e_2, hF⟩ := pwf_some hF
  refine mp_29 hC hH e_2 dX13_lawsAgain_2 (fun H locs hH => ?_)
  refine lv_aload_n hx hb dX13_lawsAgain_5 rfl (lv_at hl 0 rfl) ?_
  refine lv_iconst (v := 0) hx hb dX13_lawsAgain_6 (by decide) ?_
  obtain ⟨u_3, e_4, hF⟩ := pwf_some hF
  refine mp_30 hC hH e_4 dX13_lawsAgain_7 (fun H locs hH => ?_)
  refine lv_aload_n hx hb dX13_lawsAgain_10 rfl (lv_at hl 0 rfl) ?_
  refine lv_iconst (v := 0) hx hb dX13_lawsAgain_11 (by decide) ?_
  obtain ⟨u_5, e_6, hF⟩ := pwf_some hF
  refine mp_31 hC hH e_6 dX13_lawsAgain_12 (fun H locs hH => ?_)
  refine lv_aload_n hx hb dX13_lawsAgain_15 rfl (lv_at hl 0 rfl) ?_
  refine lv_iconst (v := 0) hx hb dX13_lawsAgain_16 (by decide) ?_
  obtain ⟨u_7, e_8, hF⟩ := pwf_some hF
  refine mp_27 hC hH e_8 dX13_lawsAgain_17 (fun H locs hH => ?_)
  refine lv_aload_n hx hb dX13_lawsAgain_20 rfl (lv_at hl 0 rfl) ?_
  refine lv_iconst (v := 0) hx hb dX13_lawsAgain_21 (by decide) ?_
  obtain ⟨u_9, e_10, hF⟩ := pwf_some hF
  refine mp_28 hC hH e_10 dX13_lawsAgain_22 (fun H locs hH => ?_)
  refine lv_aload_n hx hb dX13_lawsAgain_25 rfl (lv_at hl 0 rfl) ?_
  refine mg_53 hC hH dX13_lawsAgain_26 ?_
  obtain ⟨x_11, e_12, hF⟩ := puf_some hF
  refine gx_ti e_12 ?_
  refine lv_iconst (v := 1) hx hb dX13_lawsAgain_29 (by decide) ?_
  refine lv_isub hx hb dX13_lawsAgain_30 ?_
  obtain ⟨x_13, e_14, hF⟩ := pli_some hF
  refine gx_ti e_14 ?_
  refine lv_istore_n (lv' := [(1, .int x_13), (0, .ref (Q 72))]) hx hb dX13_lawsAgain_31 rfl hl (by decide) rfl (fun ls hl => ?_)
  have hL32 : ∀ (K32_82 : Int32 → PG (Int32)), (∀ (v1 : Int32) (u : GS) (H : Heap) (locs : List Loc) (ls : Array Slot), lv_has ls 3 [(0, .ref (Q 72)), (1, .int v1)] → mH G Q u.1 s H locs → K32_82 v1 u = some ((r, u1)) → W p l e (headSpec (Cond.code yX13_lawsAgain cX13_lawsAgain 3 none :: wM) { frames := 407, cells := 0, slots := 0, locals := 4946 }).room s m [.ref (Q 72)].toArray below meth c H locs 0 0 (MQ below (mQv G Q u1.1 s.heap.size) [.ref (Q 72)].toArray s 0 0 (mA Q s.heap.size)) (F0 m 82 ls [])) → ∀ (n32 : Nat) (v1 : Int32) (u : GS) (H : Heap) (locs : List Loc) (ls : Array Slot), lv_has ls 3 [(0, .ref (Q 72)), (1, .int v1)] → mH G Q u.1 s H locs → lp_lawsAgain_32 n32 v1 K32_82 u = some ((r, u1)) → W p l e (headSpec (Cond.code yX13_lawsAgain cX13_lawsAgain 3 none :: wM) { frames := 407, cells := 0, slots := 0, locals := 4946 }).room s m [.ref (Q 72)].toArray below meth c H locs 0 0 (MQ below (mQv G Q u1.1 s.heap.size) [.ref (Q 72)].toArray s 0 0 (mA Q s.heap.size)) (F0 m 32 ls []) := by
    intro K32_82 hK32_82 n32
    induction n32 with
    | zero => intro v1 u H locs ls hl hH hF; cases hF
    | succ n32 ih32 =>
      intro v1 u H locs ls hl hH hF
      unfold lp_lawsAgain_32 at hF
      refine lv_iload_n hx hb dX13_lawsAgain_32 rfl (lv_at hl 1 rfl) ?_
      refine lv_if_lt (tgt := 82) hx hb dX13_lawsAgain_33 (by decide) (fun c_15 => ?_) (fun c_15 => ?_)
      · rw [if_pos c_15] at hF
        exact hK32_82 v1 u _ _ _ (lv_sub hl [0, 1] rfl) hH hF
      · rw [if_neg c_15] at hF
        refine lv_aload_n hx hb dX13_lawsAgain_36 rfl (lv_at hl 0 rfl) ?_
        refine mg_52 hC hH dX13_lawsAgain_37 ?_
        refine lv_iconst (v := 4) hx hb dX13_lawsAgain_40 (by decide) ?_
        refine lv_iload_n hx hb dX13_lawsAgain_41 rfl (lv_at hl 1 rfl) ?_
        refine lv_imul hx hb dX13_lawsAgain_42 ?_
        obtain ⟨x_16, g_17, e_18, hF⟩ := pud_some hF
        refine ml_52 hC hH g_17 dX13_lawsAgain_43 ?_
        refine gx_ti e_18 ?_
        refine lv_if_eq (tgt := 50) hx hb dX13_lawsAgain_44 (by decide) (fun c_19 => ?_) (fun c_19 => ?_)
        · rw [if_pos c_19] at hF
          refine lv_aload_n hx hb dX13_lawsAgain_50 rfl (lv_at hl 0 rfl) ?_
          refine lv_aload_n hx hb dX13_lawsAgain_51 rfl (lv_at hl 0 rfl) ?_
          refine mg_52 hC hH dX13_lawsAgain_52 ?_
          refine lv_iconst (v := 4) hx hb dX13_lawsAgain_55 (by decide) ?_
          refine lv_iload_n hx hb dX13_lawsAgain_56 rfl (lv_at hl 1 rfl) ?_
          refine lv_imul hx hb dX13_lawsAgain_57 ?_
          refine lv_iconst (v := 1) hx hb dX13_lawsAgain_58 (by decide) ?_
          refine lv_iadd hx hb dX13_lawsAgain_59 ?_
          obtain ⟨x_20, g_21, e_22, hF⟩ := pud_some hF
          refine ml_52 hC hH g_21 dX13_lawsAgain_60 ?_
          refine gx_ti e_22 ?_
          refine lv_aload_n hx hb dX13_lawsAgain_61 rfl (lv_at hl 0 rfl) ?_
          refine mg_52 hC hH dX13_lawsAgain_62 ?_
          refine lv_iconst (v := 4) hx hb dX13_lawsAgain_65 (by decide) ?_
          refine lv_iload_n hx hb dX13_lawsAgain_66 rfl (lv_at hl 1 rfl) ?_
          refine lv_imul hx hb dX13_lawsAgain_67 ?_
          refine lv_iconst (v := 2) hx hb dX13_lawsAgain_68 (by decide) ?_
          refine lv_iadd hx hb dX13_lawsAgain_69 ?_
          obtain ⟨x_23, g_24, e_25, hF⟩ := pud_some hF
          refine ml_52 hC hH g_24 dX13_lawsAgain_70 ?_
          refine gx_ti e_25 ?_
          obtain ⟨r_26, u_27, h_28, hF⟩ := pcl_some hF
          refine mcW_i (As := [.int x_20, .int x_23]) (rest := []) hC hH (m_takeLaws l G Z Q u u_27 r_26 x_20 x_23 _ h_28) kwX13_takeLaws kVX13_takeLaws ⟨Nat.le_of_ble_eq_true rfl, Nat.le_of_ble_eq_true rfl⟩ rfl hl.1 rfl (Nat.le_of_ble_eq_true rfl) dX13_lawsAgain_71 (fun H locs hH => ?_)
          refine lv_istore_n (lv' := [(2, .int r_26), (0, .ref (Q 72)), (1, .int v1)]) hx hb dX13_lawsAgain_74 rfl hl (by decide) rfl (fun ls hl => ?_)
          have hF := prt_eq hF
          exact mr_v hC hH hr hF dX13_lawsAgain_75 hlocks
        · rw [if_neg c_19] at hF
          refine lv_goto (tgt := 76) hx hb dX13_lawsAgain_47 (by decide) ?_
          obtain ⟨x_29, e_30, hF⟩ := pli_some hF
          refine lv_iinc (v := x_29) (lv' := [(1, .int x_29), (0, .ref (Q 72))]) hx hb dX13_lawsAgain_76 hl (k := 1) rfl e_30 (by decide) rfl (fun ls hl => ?_)
          refine lv_goto (tgt := 32) hx hb dX13_lawsAgain_79 (by decide) ?_
          exact ih32 x_29 u _ _ _ (lv_sub hl [1, 0] rfl) hH hF
  refine hL32 _ (fun v1 u H locs ls hl hH hF => ?_) fuel x_13 u_9 _ _ _ (lv_sub hl [1, 0] rfl) hH hF
  have hF := prt_eq hF
  exact mr_v hC hH hr hF dX13_lawsAgain_82 hlocks
end
section
def f_does (a0 : Int32) (a1 : Int32) (a2 : Int32) (a3 : Int32) : PG (Int32) := (if a0 = 0 then pcl (f_takeLaws a1 a2) (fun r_2 => prt r_2) else if a0 = 1 then pwd 0 4 a1 a2 (pwd 1 4 a1 a3 (prt 1)) else if a0 = 2 then pcl (f_comes a1 a2) (fun r_13 => prt r_13) else if a0 = 3 then pwd 7 96 a1 a2 (prd 5 96 a1 (fun x_20 => prd 0 4 x_20 (fun x_23 => prd 5 96 a1 (fun x_26 => prd 1 4 x_26 (fun x_29 => pcl (f_in a2.toInt64 x_23.toInt64 x_29.toInt64) (fun r_32 => (if r_32 = 0 then pwd 8 96 a1 2 (prd 8 96 a1 (fun x_39 => (if x_39 = 1 then prt 1 else prt 0))) else pwd 8 96 a1 1 (prd 8 96 a1 (fun x_46 => (if x_46 = 1 then prt 1 else prt 0)))))))))) else if a0 = 4 then prd 9 96 a1 (fun x_51 => pwd 9 96 a1 a2 (prt x_51)) else if a0 = 5 then pcl (f_draws a1) (fun r_58 => prt r_58) else if a0 = 6 then pwf 3 a1 (prt a1) else if a0 = 7 then prf 4 (fun x_65 => pwf 4 a1 (prt x_65)) else if a0 = 8 then pcl (f_begins a1 a2 a3) (fun r_70 => prt r_70) else if a0 = 9 then pli ((((2 * a1) + a2) * 8) + a3) (fun x_74 => prd 24 64 x_74 (fun x_76 => pwd 24 64 x_74 (if (x_76 + 1) < 99 then (x_76 + 1) else 99) (prd 25 4 a1 (fun x_82 => pcl (f_asked a1 x_82) (fun r_85 => prt r_85))))) else if a0 = 10 then pcl (f_passes a1 a2) (fun r_89 => prt r_89) else if a0 = 11 then pcl (f_ends a1 a2 (-1) 0) (fun r_93 => prt r_93) else pcl (f_struck a1 a2) (fun r_96 => prt r_96))
set_option maxHeartbeats 4000000 in
set_option maxRecDepth 100000 in
theorem m_does (l : Launch) (G : gG) (Z : gM) (Q : Nat → Nat) (u u1 : GS) (r : Int32) (a0 : Int32) (a1 : Int32) (a2 : Int32) (a3 : Int32) (sz : Nat) (hF : f_does a0 a1 a2 a3 u = some (r, u1)) : Met l yX13_does (Cond.code yX13_does cX13_does 7 (some .int) :: wM) { frames := 407, cells := 0, slots := 0, locals := 4946 } (va_Pc [.ref (Q 72), .int a0, .int a1, .int a2, .int a3] (mPM G Z Q u.1 sz)) (mQi G Q u1.1 r sz) 0 0 (mA Q sz) := by
  refine Met.ofW (cc := cX13_does) (maxL := 7) (ret := (some .int)) (by decide) rfl ?_
  intro p e s m args below meth c s₁ B hml hv
  obtain ⟨rfl, rfl, hP, hB, hD, hE⟩ := hv
  have hr := B.returns
  have hlocks := B.notSynchronized
  have hts := atoms_spec (ws := Cond.code yX13_does cX13_does 7 (some .int) :: wM) B.pre
  have hC : mX p c cX13_does 7 s m _ G Z Q := ⟨B.exec, B.bytes, hml, findClass_of_methodNamed B.named, fun w h => hts w (List.mem_cons_of_mem _ h), hB, hE⟩
  have hx := hC.1
  have hb := hC.2.1
  have hH : mH G Q u.1 s s.heap [] := ⟨hP, hD, va_S.rf⟩
  have hl := lv_entry ([.ref (Q 72), .int a0, .int a1, .int a2, .int a3]) (n := 7) (Nat.le_of_ble_eq_true rfl)
  rw [lg_entry_eq]
  generalize (lg_sl ([.ref (Q 72), .int a0, .int a1, .int a2, .int a3]) ++ List.replicate (7 - (lg_sl ([.ref (Q 72), .int a0, .int a1, .int a2, .int a3])).length) Slot.unset).toArray = ls at hl ⊢
  have hl : lv_has ls 7 [(0, .ref (Q 72)), (1, .int a0), (2, .int a1), (3, .int a2), (4, .int a3)] := hl
  unfold f_does at hF
  refine lv_iload_n hx hb dX13_does_0 rfl (lv_at hl 1 rfl) ?_
  by_cases c_1 : a0 = 0
  · rw [if_pos c_1] at hF
    refine gx_ti (y := 0) c_1 ?_
    refine lv_tableIn (off := 63) (tgt := 64) hx hb dX13_does_1 (by decide) (by decide) rfl (by decide) ?_
    refine lv_aload_n hx hb dX13_does_64 rfl (lv_at hl 0 rfl) ?_
    refine lv_iload_n hx hb dX13_does_65 rfl (lv_at hl 2 rfl) ?_
    refine lv_iload_n hx hb dX13_does_66 rfl (lv_at hl 3 rfl) ?_
    obtain ⟨r_2, u_3, h_4, hF⟩ := pcl_some hF
    refine mcW_i (As := [.int a1, .int a2]) (rest := []) hC hH (m_takeLaws l G Z Q u u_3 r_2 a1 a2 _ h_4) kwX13_takeLaws kVX13_takeLaws ⟨Nat.le_of_ble_eq_true rfl, Nat.le_of_ble_eq_true rfl⟩ rfl hl.1 rfl (Nat.le_of_ble_eq_true rfl) dX13_does_67 (fun H locs hH => ?_)
    have hF := prt_eq hF
    exact mr_i hC hH hr hF dX13_does_70 hlocks
  rw [if_neg c_1] at hF
  by_cases c_5 : a0 = 1
  · rw [if_pos c_5] at hF
    refine gx_ti (y := 1) c_5 ?_
    refine lv_tableIn (off := 70) (tgt := 71) hx hb dX13_does_1 (by decide) (by decide) rfl (by decide) ?_
    refine lv_aload_n hx hb dX13_does_71 rfl (lv_at hl 0 rfl) ?_
    refine mg_0 hC hH dX13_does_72 ?_
    refine lv_iload_n hx hb dX13_does_75 rfl (lv_at hl 2 rfl) ?_
    refine lv_iload_n hx hb dX13_does_76 rfl (lv_at hl 3 rfl) ?_
    obtain ⟨u_7, g_6, e_8, hF⟩ := pwd_some hF
    refine ms_0 hC hH e_8 g_6 dX13_does_77 (fun H locs hH => ?_)
    refine lv_aload_n hx hb dX13_does_78 rfl (lv_at hl 0 rfl) ?_
    refine mg_1 hC hH dX13_does_79 ?_
    refine lv_iload_n hx hb dX13_does_82 rfl (lv_at hl 2 rfl) ?_
    refine lv_iload hx hb dX13_does_83 (lv_at hl 4 rfl) ?_
    obtain ⟨u_10, g_9, e_11, hF⟩ := pwd_some hF
    refine ms_1 hC hH e_11 g_9 dX13_does_85 (fun H locs hH => ?_)
    refine lv_iconst (v := 1) hx hb dX13_does_86 (by decide) ?_
    have hF := prt_eq hF
    exact mr_i hC hH hr hF dX13_does_87 hlocks
  rw [if_neg c_5] at hF
  by_cases c_12 : a0 = 2
  · rw [if_pos c_12] at hF
    refine gx_ti (y := 2) c_12 ?_
    refine lv_tableIn (off := 87) (tgt := 88) hx hb dX13_does_1 (by decide) (by decide) rfl (by decide) ?_
    refine lv_aload_n hx hb dX13_does_88 rfl (lv_at hl 0 rfl) ?_
    refine lv_iload_n hx hb dX13_does_89 rfl (lv_at hl 2 rfl) ?_
    refine lv_iload_n hx hb dX13_does_90 rfl (lv_at hl 3 rfl) ?_
    obtain ⟨r_13, u_14, h_15, hF⟩ := pcl_some hF
    refine mcV_i (As := [.int a1, .int a2]) (rest := []) hC hH (m_comes l G Z Q u u_14 r_13 a1 a2 _ h_15) kwX13_comes kVX13_comes ⟨Nat.le_of_ble_eq_true rfl, Nat.le_of_ble_eq_true rfl⟩ rfl hl.1 rfl (Nat.le_of_ble_eq_true rfl) dX13_does_91 (fun H locs hH => ?_)
    have hF := prt_eq hF
    exact mr_i hC hH hr hF dX13_does_94 hlocks
  rw [if_neg c_12] at hF
  by_cases c_16 : a0 = 3
  · rw [if_pos c_16] at hF
    refine gx_ti (y := 3) c_16 ?_
    refine lv_tableIn (off := 94) (tgt := 95) hx hb dX13_does_1 (by decide) (by decide) rfl (by decide) ?_
    refine lv_aload_n hx hb dX13_does_95 rfl (lv_at hl 0 rfl) ?_
    refine mg_7 hC hH dX13_does_96 ?_
    refine lv_iload_n hx hb dX13_does_99 rfl (lv_at hl 2 rfl) ?_
    refine lv_iload_n hx hb dX13_does_100 rfl (lv_at hl 3 rfl) ?_
    obtain ⟨u_18, g_17, e_19, hF⟩ := pwd_some hF
    refine ms_7 hC hH e_19 g_17 dX13_does_101 (fun H locs hH => ?_)
    refine lv_aload_n hx hb dX13_does_102 rfl (lv_at hl 0 rfl) ?_
    refine mg_8 hC hH dX13_does_103 ?_
    refine lv_iload_n hx hb dX13_does_106 rfl (lv_at hl 2 rfl) ?_
    refine lv_iload_n hx hb dX13_does_107 rfl (lv_at hl 3 rfl) ?_
    refine lv_i2l (v := a2.toInt64) hx hb dX13_does_108 rfl ?_
    refine lv_aload_n hx hb dX13_does_109 rfl (lv_at hl 0 rfl) ?_
    refine mg_0 hC hH dX13_does_110 ?_
    refine lv_aload_n hx hb dX13_does_113 rfl (lv_at hl 0 rfl) ?_
    refine mg_5 hC hH dX13_does_114 ?_
    refine lv_iload_n hx hb dX13_does_117 rfl (lv_at hl 2 rfl) ?_
    obtain ⟨x_20, g_21, e_22, hF⟩ := prd_some hF
    refine ml_5 hC hH g_21 dX13_does_118 ?_
    refine gx_ti e_22 ?_
    obtain ⟨x_23, g_24, e_25, hF⟩ := prd_some hF
    refine ml_0 hC hH g_24 dX13_does_119 ?_
    refine gx_ti e_25 ?_
    refine lv_i2l (v := x_23.toInt64) hx hb dX13_does_120 rfl ?_
    refine lv_aload_n hx hb dX13_does_121 rfl (lv_at hl 0 rfl) ?_
    refine mg_1 hC hH dX13_does_122 ?_
    refine lv_aload_n hx hb dX13_does_125 rfl (lv_at hl 0 rfl) ?_
    refine mg_5 hC hH dX13_does_126 ?_
    refine lv_iload_n hx hb dX13_does_129 rfl (lv_at hl 2 rfl) ?_
    obtain ⟨x_26, g_27, e_28, hF⟩ := prd_some hF
    refine ml_5 hC hH g_27 dX13_does_130 ?_
    refine gx_ti e_28 ?_
    obtain ⟨x_29, g_30, e_31, hF⟩ := prd_some hF
    refine ml_1 hC hH g_30 dX13_does_131 ?_
    refine gx_ti e_31 ?_
    refine lv_i2l (v := x_29.toInt64) hx hb dX13_does_132 rfl ?_
    obtain ⟨r_32, u_33, h_34, hF⟩ := pcl_some hF
    refine mcS_i (As := [.long a2.toInt64, .long x_23.toInt64, .long x_29.toInt64]) (rest := [.int a1, .ref (Q 8)]) hC hH (m_in l G Z Q u_18 u_33 r_32 a2.toInt64 x_23.toInt64 x_29.toInt64 _ h_34) kwX13_in kVX13_in ⟨Nat.le_of_ble_eq_true rfl, Nat.le_of_ble_eq_true rfl⟩ rfl hl.1 rfl (Nat.le_of_ble_eq_true rfl) dX13_does_133 (fun H locs hH => ?_)
    refine lv_if_eq (tgt := 143) hx hb dX13_does_136 (by decide) (fun c_35 => ?_) (fun c_35 => ?_)
    · rw [if_pos c_35] at hF
      refine lv_iconst (v := 2) hx hb dX13_does_143 (by decide) ?_
      obtain ⟨u_37, g_36, e_38, hF⟩ := pwd_some hF
      refine ms_8 hC hH e_38 g_36 dX13_does_144 (fun H locs hH => ?_)
      refine lv_aload_n hx hb dX13_does_145 rfl (lv_at hl 0 rfl) ?_
      refine mg_8 hC hH dX13_does_146 ?_
      refine lv_iload_n hx hb dX13_does_149 rfl (lv_at hl 2 rfl) ?_
      obtain ⟨x_39, g_40, e_41, hF⟩ := prd_some hF
      refine ml_8 hC hH g_40 dX13_does_150 ?_
      refine gx_ti e_41 ?_
      refine lv_iconst (v := 1) hx hb dX13_does_151 (by decide) ?_
      refine lv_icmp_ne (tgt := 159) hx hb dX13_does_152 (by decide) (fun c_42 => ?_) (fun c_42 => ?_)
      · rw [if_neg c_42] at hF
        refine lv_iconst (v := 0) hx hb dX13_does_159 (by decide) ?_
        have hF := prt_eq hF
        exact mr_i hC hH hr hF dX13_does_160 hlocks
      · rw [if_pos c_42] at hF
        refine lv_iconst (v := 1) hx hb dX13_does_155 (by decide) ?_
        refine lv_goto (tgt := 160) hx hb dX13_does_156 (by decide) ?_
        have hF := prt_eq hF
        exact mr_i hC hH hr hF dX13_does_160 hlocks
    · rw [if_neg c_35] at hF
      refine lv_iconst (v := 1) hx hb dX13_does_139 (by decide) ?_
      refine lv_goto (tgt := 144) hx hb dX13_does_140 (by decide) ?_
      obtain ⟨u_44, g_43, e_45, hF⟩ := pwd_some hF
      refine ms_8 hC hH e_45 g_43 dX13_does_144 (fun H locs hH => ?_)
      refine lv_aload_n hx hb dX13_does_145 rfl (lv_at hl 0 rfl) ?_
      refine mg_8 hC hH dX13_does_146 ?_
      refine lv_iload_n hx hb dX13_does_149 rfl (lv_at hl 2 rfl) ?_
      obtain ⟨x_46, g_47, e_48, hF⟩ := prd_some hF
      refine ml_8 hC hH g_47 dX13_does_150 ?_
      refine gx_ti e_48 ?_
      refine lv_iconst (v := 1) hx hb dX13_does_151 (by decide) ?_
      refine lv_icmp_ne (tgt := 159) hx hb dX13_does_152 (by decide) (fun c_49 => ?_) (fun c_49 => ?_)
      · rw [if_neg c_49] at hF
        refine lv_iconst (v := 0) hx hb dX13_does_159 (by decide) ?_
        have hF := prt_eq hF
        exact mr_i hC hH hr hF dX13_does_160 hlocks
      · rw [if_pos c_49] at hF
        refine lv_iconst (v := 1) hx hb dX13_does_155 (by decide) ?_
        refine lv_goto (tgt := 160) hx hb dX13_does_156 (by decide) ?_
        have hF := prt_eq hF
        exact mr_i hC hH hr hF dX13_does_160 hlocks
  rw [if_neg c_16] at hF
  by_cases c_50 : a0 = 4
  · rw [if_pos c_50] at hF
    refine gx_ti (y := 4) c_50 ?_
    refine lv_tableIn (off := 160) (tgt := 161) hx hb dX13_does_1 (by decide) (by decide) rfl (by decide) ?_
    refine lv_aload_n hx hb dX13_does_161 rfl (lv_at hl 0 rfl) ?_
    refine mg_9 hC hH dX13_does_162 ?_
    refine lv_iload_n hx hb dX13_does_165 rfl (lv_at hl 2 rfl) ?_
    obtain ⟨x_51, g_52, e_53, hF⟩ := prd_some hF
    refine ml_9 hC hH g_52 dX13_does_166 ?_
    refine gx_ti e_53 ?_
    refine lv_istore (lv' := [(5, .int x_51), (0, .ref (Q 72)), (1, .int a0), (2, .int a1), (3, .int a2), (4, .int a3)]) hx hb dX13_does_167 hl (by decide) rfl (fun ls hl => ?_)
    refine lv_aload_n hx hb dX13_does_169 rfl (lv_at hl 1 rfl) ?_
    refine mg_9 hC hH dX13_does_170 ?_
    refine lv_iload_n hx hb dX13_does_173 rfl (lv_at hl 3 rfl) ?_
    refine lv_iload_n hx hb dX13_does_174 rfl (lv_at hl 4 rfl) ?_
    obtain ⟨u_55, g_54, e_56, hF⟩ := pwd_some hF
    refine ms_9 hC hH e_56 g_54 dX13_does_175 (fun H locs hH => ?_)
    refine lv_iload hx hb dX13_does_176 (lv_at hl 0 rfl) ?_
    have hF := prt_eq hF
    exact mr_i hC hH hr hF dX13_does_178 hlocks
  rw [if_neg c_50] at hF
  by_cases c_57 : a0 = 5
  · rw [if_pos c_57] at hF
    refine gx_ti (y := 5) c_57 ?_
    refine lv_tableIn (off := 178) (tgt := 179) hx hb dX13_does_1 (by decide) (by decide) rfl (by decide) ?_
    refine lv_aload_n hx hb dX13_does_179 rfl (lv_at hl 0 rfl) ?_
    refine lv_iload_n hx hb dX13_does_180 rfl (lv_at hl 2 rfl) ?_
    obtain ⟨r_58, u_59, h_60, hF⟩ := pcl_some hF
    refine mcV_i (As := [.int a1]) (rest := []) hC hH (m_draws l G Z Q u u_59 r_58 a1 _ h_60) kwX13_draws kVX13_draws ⟨Nat.le_of_ble_eq_true rfl, Nat.le_of_ble_eq_true rfl⟩ rfl hl.1 rfl (Nat.le_of_ble_eq_true rfl) dX13_does_181 (fun H locs hH => ?_)
    have hF := prt_eq hF
    exact mr_i hC hH hr hF dX13_does_184 hlocks
  rw [if_neg c_57] at hF
  by_cases c_61 : a0 = 6
  · rw [if_pos c_61] at hF
    refine gx_ti (y := 6) c_61 ?_
    refine lv_tableIn (off := 184) (tgt := 185) hx hb dX13_does_1 (by decide) (by decide) rfl (by decide) ?_
    refine lv_aload_n hx hb dX13_does_185 rfl (lv_at hl 0 rfl) ?_
    refine lv_iload_n hx hb dX13_does_186 rfl (lv_at hl 2 rfl) ?_
    obtain ⟨u_62, e_63, hF⟩ := pwf_some hF
    refine mp_3 hC hH e_63 dX13_does_187 (fun H locs hH => ?_)
    refine lv_iload_n hx hb dX13_does_190 rfl (lv_at hl 2 rfl) ?_
    have hF := prt_eq hF
    exact mr_i hC hH hr hF dX13_does_191 hlocks
  rw [if_neg c_61] at hF
  by_cases c_64 : a0 = 7
  · rw [if_pos c_64] at hF
    refine gx_ti (y := 7) c_64 ?_
    refine lv_tableIn (off := 191) (tgt := 192) hx hb dX13_does_1 (by decide) (by decide) rfl (by decide) ?_
    refine lv_aload_n hx hb dX13_does_192 rfl (lv_at hl 0 rfl) ?_
    refine mg_4 hC hH dX13_does_193 ?_
    obtain ⟨x_65, e_66, hF⟩ := prf_some hF
    refine gx_ti e_66 ?_
    refine lv_istore (lv' := [(5, .int x_65), (0, .ref (Q 72)), (1, .int a0), (2, .int a1), (3, .int a2), (4, .int a3)]) hx hb dX13_does_196 hl (by decide) rfl (fun ls hl => ?_)
    refine lv_aload_n hx hb dX13_does_198 rfl (lv_at hl 1 rfl) ?_
    refine lv_iload_n hx hb dX13_does_199 rfl (lv_at hl 3 rfl) ?_
    obtain ⟨u_67, e_68, hF⟩ := pwf_some hF
    refine mp_4 hC hH e_68 dX13_does_200 (fun H locs hH => ?_)
    refine lv_iload hx hb dX13_does_203 (lv_at hl 0 rfl) ?_
    have hF := prt_eq hF
    exact mr_i hC hH hr hF dX13_does_205 hlocks
  rw [if_neg c_64] at hF
  by_cases c_69 : a0 = 8
  · rw [if_pos c_69] at hF
    refine gx_ti (y := 8) c_69 ?_
    refine lv_tableIn (off := 205) (tgt := 206) hx hb dX13_does_1 (by decide) (by decide) rfl (by decide) ?_
    refine lv_aload_n hx hb dX13_does_206 rfl (lv_at hl 0 rfl) ?_
    refine lv_iload_n hx hb dX13_does_207 rfl (lv_at hl 2 rfl) ?_
    refine lv_iload_n hx hb dX13_does_208 rfl (lv_at hl 3 rfl) ?_
    refine lv_iload hx hb dX13_does_209 (lv_at hl 4 rfl) ?_
    obtain ⟨r_70, u_71, h_72, hF⟩ := pcl_some hF
    refine mcV_i (As := [.int a1, .int a2, .int a3]) (rest := []) hC hH (m_begins l G Z Q u u_71 r_70 a1 a2 a3 _ h_72) kwX13_begins kVX13_begins ⟨Nat.le_of_ble_eq_true rfl, Nat.le_of_ble_eq_true rfl⟩ rfl hl.1 rfl (Nat.le_of_ble_eq_true rfl) dX13_does_211 (fun H locs hH => ?_)
    have hF := prt_eq hF
    exact mr_i hC hH hr hF dX13_does_214 hlocks
  rw [if_neg c_69] at hF
  by_cases c_73 : a0 = 9
  · rw [if_pos c_73] at hF
    refine gx_ti (y := 9) c_73 ?_
    refine lv_tableIn (off := 214) (tgt := 215) hx hb dX13_does_1 (by decide) (by decide) rfl (by decide) ?_
    refine lv_iconst (v := 2) hx hb dX13_does_215 (by decide) ?_
    refine lv_iload_n hx hb dX13_does_216 rfl (lv_at hl 2 rfl) ?_
    refine lv_imul hx hb dX13_does_217 ?_
    refine lv_iload_n hx hb dX13_does_218 rfl (lv_at hl 3 rfl) ?_
    refine lv_iadd hx hb dX13_does_219 ?_
    refine lv_bipush (v := 8) hx hb dX13_does_220 (by decide) ?_
    refine lv_imul hx hb dX13_does_222 ?_
    refine lv_iload hx hb dX13_does_223 (lv_at hl 4 rfl) ?_
    refine lv_iadd hx hb dX13_does_225 ?_
    obtain ⟨x_74, e_75, hF⟩ := pli_some hF
    refine gx_ti e_75 ?_
    refine lv_istore (lv' := [(6, .int x_74), (0, .ref (Q 72)), (1, .int a0), (2, .int a1), (3, .int a2), (4, .int a3)]) hx hb dX13_does_226 hl (by decide) rfl (fun ls hl => ?_)
    refine lv_aload_n hx hb dX13_does_228 rfl (lv_at hl 1 rfl) ?_
    refine mg_24 hC hH dX13_does_229 ?_
    refine lv_iload hx hb dX13_does_232 (lv_at hl 0 rfl) ?_
    refine lv_bipush (v := 99) hx hb dX13_does_234 (by decide) ?_
    refine lv_aload_n hx hb dX13_does_236 rfl (lv_at hl 1 rfl) ?_
    refine mg_24 hC hH dX13_does_237 ?_
    refine lv_iload hx hb dX13_does_240 (lv_at hl 0 rfl) ?_
    obtain ⟨x_76, g_77, e_78, hF⟩ := prd_some hF
    refine ml_24 hC hH g_77 dX13_does_242 ?_
    refine gx_ti e_78 ?_
    refine lv_iconst (v := 1) hx hb dX13_does_243 (by decide) ?_
    refine lv_iadd hx hb dX13_does_244 ?_
    refine va_mmin hx hb (hC.2.2.1.trans hl.1.symm) hC.2.2.2.1 (hC.2.2.2.2.1 _ wma116) (hC.2.2.2.2.1 _ wma377) (hC.2.2.2.2.1 _ wma378) (hC.2.2.2.2.1 _ wma380) (Nat.le_of_ble_eq_true rfl) (Nat.le_of_ble_eq_true rfl) (Nat.le_of_ble_eq_true rfl) (Nat.le_of_ble_eq_true rfl) dX13_does_245 ?_
    obtain ⟨u_80, g_79, e_81, hF⟩ := pwd_some hF
    refine ms_24 hC hH e_81 g_79 dX13_does_248 (fun H locs hH => ?_)
    refine lv_aload_n hx hb dX13_does_249 rfl (lv_at hl 1 rfl) ?_
    refine lv_iload_n hx hb dX13_does_250 rfl (lv_at hl 3 rfl) ?_
    refine lv_aload_n hx hb dX13_does_251 rfl (lv_at hl 1 rfl) ?_
    refine mg_25 hC hH dX13_does_252 ?_
    refine lv_iload_n hx hb dX13_does_255 rfl (lv_at hl 3 rfl) ?_
    obtain ⟨x_82, g_83, e_84, hF⟩ := prd_some hF
    refine ml_25 hC hH g_83 dX13_does_256 ?_
    refine gx_ti e_84 ?_
    obtain ⟨r_85, u_86, h_87, hF⟩ := pcl_some hF
    refine mcV_i (As := [.int a1, .int x_82]) (rest := []) hC hH (m_asked l G Z Q u_80 u_86 r_85 a1 x_82 _ h_87) kwX13_asked kVX13_asked ⟨Nat.le_of_ble_eq_true rfl, Nat.le_of_ble_eq_true rfl⟩ rfl hl.1 rfl (Nat.le_of_ble_eq_true rfl) dX13_does_257 (fun H locs hH => ?_)
    have hF := prt_eq hF
    exact mr_i hC hH hr hF dX13_does_260 hlocks
  rw [if_neg c_73] at hF
  by_cases c_88 : a0 = 10
  · rw [if_pos c_88] at hF
    refine gx_ti (y := 10) c_88 ?_
    refine lv_tableIn (off := 260) (tgt := 261) hx hb dX13_does_1 (by decide) (by decide) rfl (by decide) ?_
    refine lv_aload_n hx hb dX13_does_261 rfl (lv_at hl 0 rfl) ?_
    refine lv_iload_n hx hb dX13_does_262 rfl (lv_at hl 2 rfl) ?_
    refine lv_iload_n hx hb dX13_does_263 rfl (lv_at hl 3 rfl) ?_
    obtain ⟨r_89, u_90, h_91, hF⟩ := pcl_some hF
    refine mcV_i (As := [.int a1, .int a2]) (rest := []) hC hH (m_passes l G Z Q u u_90 r_89 a1 a2 _ h_91) kwX13_passes kVX13_passes ⟨Nat.le_of_ble_eq_true rfl, Nat.le_of_ble_eq_true rfl⟩ rfl hl.1 rfl (Nat.le_of_ble_eq_true rfl) dX13_does_264 (fun H locs hH => ?_)
    have hF := prt_eq hF
    exact mr_i hC hH hr hF dX13_does_267 hlocks
  rw [if_neg c_88] at hF
  by_cases c_92 : a0 = 11
  · rw [if_pos c_92] at hF
    refine gx_ti (y := 11) c_92 ?_
    refine lv_tableIn (off := 267) (tgt := 268) hx hb dX13_does_1 (by decide) (by decide) rfl (by decide) ?_
    refine lv_aload_n hx hb dX13_does_268 rfl (lv_at hl 0 rfl) ?_
    refine lv_iload_n hx hb dX13_does_269 rfl (lv_at hl 2 rfl) ?_
    refine lv_iload_n hx hb dX13_does_270 rfl (lv_at hl 3 rfl) ?_
    refine lv_iconst (v := (-1)) hx hb dX13_does_271 (by decide) ?_
    refine lv_iconst (v := 0) hx hb dX13_does_272 (by decide) ?_
    obtain ⟨r_93, u_94, h_95, hF⟩ := pcl_some hF
    refine mcV_i (As := [.int a1, .int a2, .int (-1), .int 0]) (rest := []) hC hH (m_ends l G Z Q u u_94 r_93 a1 a2 (-1) 0 _ h_95) kwX13_ends kVX13_ends ⟨Nat.le_of_ble_eq_true rfl, Nat.le_of_ble_eq_true rfl⟩ rfl hl.1 rfl (Nat.le_of_ble_eq_true rfl) dX13_does_273 (fun H locs hH => ?_)
    have hF := prt_eq hF
    exact mr_i hC hH hr hF dX13_does_276 hlocks
  rw [if_neg c_92] at hF
  refine lv_tableOut (tgt := 277) hx hb dX13_does_1 (by have q0 := gl_ne c_1 (a := 0) (by decide); have q1 := gl_ne c_5 (a := 1) (by decide); have q2 := gl_ne c_12 (a := 2) (by decide); have q3 := gl_ne c_16 (a := 3) (by decide); have q4 := gl_ne c_50 (a := 4) (by decide); have q5 := gl_ne c_57 (a := 5) (by decide); have q6 := gl_ne c_61 (a := 6) (by decide); have q7 := gl_ne c_64 (a := 7) (by decide); have q8 := gl_ne c_69 (a := 8) (by decide); have q9 := gl_ne c_73 (a := 9) (by decide); have q10 := gl_ne c_88 (a := 10) (by decide); have q11 := gl_ne c_92 (a := 11) (by decide); omega) (by decide) ?_
  refine lv_aload_n hx hb dX13_does_277 rfl (lv_at hl 0 rfl) ?_
  refine lv_iload_n hx hb dX13_does_278 rfl (lv_at hl 2 rfl) ?_
  refine lv_iload_n hx hb dX13_does_279 rfl (lv_at hl 3 rfl) ?_
  obtain ⟨r_96, u_97, h_98, hF⟩ := pcl_some hF
  refine mcV_i (As := [.int a1, .int a2]) (rest := []) hC hH (m_struck l G Z Q u u_97 r_96 a1 a2 _ h_98) kwX13_struck kVX13_struck ⟨Nat.le_of_ble_eq_true rfl, Nat.le_of_ble_eq_true rfl⟩ rfl hl.1 rfl (Nat.le_of_ble_eq_true rfl) dX13_does_280 (fun H locs hH => ?_)
  have hF := prt_eq hF
  exact mr_i hC hH hr hF dX13_does_283 hlocks
def f_act (a0 : Int32) (a1 : Int32) (a2 : Int32) (a3 : Int32) : PG (Int32) := puf 53 (fun x_1 => (if x_1 = 500 then prt (-4) else puf 53 (fun x_4 => pwd 52 2000 (4 * x_4) a0 (puf 53 (fun x_9 => pwd 52 2000 ((4 * x_9) + 1) a1 (puf 53 (fun x_14 => pwd 52 2000 ((4 * x_14) + 2) a2 (puf 53 (fun x_19 => pwd 52 2000 ((4 * x_19) + 3) a3 (puf 53 (fun x_24 => pwf 53 (x_24 + 1) (pcl (f_does a0 a1 a2 a3) (fun r_28 => prt r_28)))))))))))))
set_option maxHeartbeats 4000000 in
set_option maxRecDepth 100000 in
theorem m_act (l : Launch) (G : gG) (Z : gM) (Q : Nat → Nat) (u u1 : GS) (r : Int32) (a0 : Int32) (a1 : Int32) (a2 : Int32) (a3 : Int32) (sz : Nat) (hF : f_act a0 a1 a2 a3 u = some (r, u1)) : Met l yX13_act (Cond.code yX13_act cX13_act 5 (some .int) :: wM) { frames := 408, cells := 0, slots := 0, locals := 4972 } (va_Pc [.ref (Q 72), .int a0, .int a1, .int a2, .int a3] (mPM G Z Q u.1 sz)) (mQi G Q u1.1 r sz) 0 0 (mA Q sz) := by
  refine Met.ofW (cc := cX13_act) (maxL := 5) (ret := (some .int)) (by decide) rfl ?_
  intro p e s m args below meth c s₁ B hml hv
  obtain ⟨rfl, rfl, hP, hB, hD, hE⟩ := hv
  have hr := B.returns
  have hlocks := B.notSynchronized
  have hts := atoms_spec (ws := Cond.code yX13_act cX13_act 5 (some .int) :: wM) B.pre
  have hC : mX p c cX13_act 5 s m _ G Z Q := ⟨B.exec, B.bytes, hml, findClass_of_methodNamed B.named, fun w h => hts w (List.mem_cons_of_mem _ h), hB, hE⟩
  have hx := hC.1
  have hb := hC.2.1
  have hH : mH G Q u.1 s s.heap [] := ⟨hP, hD, va_S.rf⟩
  have hl := lv_entry ([.ref (Q 72), .int a0, .int a1, .int a2, .int a3]) (n := 5) (Nat.le_of_ble_eq_true rfl)
  rw [lg_entry_eq]
  generalize (lg_sl ([.ref (Q 72), .int a0, .int a1, .int a2, .int a3]) ++ List.replicate (5 - (lg_sl ([.ref (Q 72), .int a0, .int a1, .int a2, .int a3])).length) Slot.unset).toArray = ls at hl ⊢
  have hl : lv_has ls 5 [(0, .ref (Q 72)), (1, .int a0), (2, .int a1), (3, .int a2), (4, .int a3)] := hl
  unfold f_act at hF
  refine lv_aload_n hx hb dX13_act_0 rfl (lv_at hl 0 rfl) ?_
  refine mg_53 hC hH dX13_act_1 ?_
  obtain ⟨x_1, e_2, hF⟩ := puf_some hF
  refine gx_ti e_2 ?_
  refine lv_sipush (v := 500) hx hb dX13_act_4 (by decide) ?_
  refine lv_icmp_ne (tgt := 13) hx hb dX13_act_7 (by decide) (fun c_3 => ?_) (fun c_3 => ?_)
  · rw [if_neg c_3] at hF
    refine lv_aload_n hx hb dX13_act_13 rfl (lv_at hl 0 rfl) ?_
    refine mg_52 hC hH dX13_act_14 ?_
    refine lv_iconst (v := 4) hx hb dX13_act_17 (by decide) ?_
    refine lv_aload_n hx hb dX13_act_18 rfl (lv_at hl 0 rfl) ?_
    refine mg_53 hC hH dX13_act_19 ?_
    obtain ⟨x_4, e_5, hF⟩ := puf_some hF
    refine gx_ti e_5 ?_
    refine lv_imul hx hb dX13_act_22 ?_
    refine lv_iload_n hx hb dX13_act_23 rfl (lv_at hl 1 rfl) ?_
    obtain ⟨u_7, g_6, e_8, hF⟩ := pwd_some hF
    refine ms_52 hC hH e_8 g_6 dX13_act_24 (fun H locs hH => ?_)
    refine lv_aload_n hx hb dX13_act_25 rfl (lv_at hl 0 rfl) ?_
    refine mg_52 hC hH dX13_act_26 ?_
    refine lv_iconst (v := 4) hx hb dX13_act_29 (by decide) ?_
    refine lv_aload_n hx hb dX13_act_30 rfl (lv_at hl 0 rfl) ?_
    refine mg_53 hC hH dX13_act_31 ?_
    obtain ⟨x_9, e_10, hF⟩ := puf_some hF
    refine gx_ti e_10 ?_
    refine lv_imul hx hb dX13_act_34 ?_
    refine lv_iconst (v := 1) hx hb dX13_act_35 (by decide) ?_
    refine lv_iadd hx hb dX13_act_36 ?_
    refine lv_iload_n hx hb dX13_act_37 rfl (lv_at hl 2 rfl) ?_
    obtain ⟨u_12, g_11, e_13, hF⟩ := pwd_some hF
    refine ms_52 hC hH e_13 g_11 dX13_act_38 (fun H locs hH => ?_)
    refine lv_aload_n hx hb dX13_act_39 rfl (lv_at hl 0 rfl) ?_
    refine mg_52 hC hH dX13_act_40 ?_
    refine lv_iconst (v := 4) hx hb dX13_act_43 (by decide) ?_
    refine lv_aload_n hx hb dX13_act_44 rfl (lv_at hl 0 rfl) ?_
    refine mg_53 hC hH dX13_act_45 ?_
    obtain ⟨x_14, e_15, hF⟩ := puf_some hF
    refine gx_ti e_15 ?_
    refine lv_imul hx hb dX13_act_48 ?_
    refine lv_iconst (v := 2) hx hb dX13_act_49 (by decide) ?_
    refine lv_iadd hx hb dX13_act_50 ?_
    refine lv_iload_n hx hb dX13_act_51 rfl (lv_at hl 3 rfl) ?_
    obtain ⟨u_17, g_16, e_18, hF⟩ := pwd_some hF
    refine ms_52 hC hH e_18 g_16 dX13_act_52 (fun H locs hH => ?_)
    refine lv_aload_n hx hb dX13_act_53 rfl (lv_at hl 0 rfl) ?_
    refine mg_52 hC hH dX13_act_54 ?_
    refine lv_iconst (v := 4) hx hb dX13_act_57 (by decide) ?_
    refine lv_aload_n hx hb dX13_act_58 rfl (lv_at hl 0 rfl) ?_
    refine mg_53 hC hH dX13_act_59 ?_
    obtain ⟨x_19, e_20, hF⟩ := puf_some hF
    refine gx_ti e_20 ?_
    refine lv_imul hx hb dX13_act_62 ?_
    refine lv_iconst (v := 3) hx hb dX13_act_63 (by decide) ?_
    refine lv_iadd hx hb dX13_act_64 ?_
    refine lv_iload hx hb dX13_act_65 (lv_at hl 4 rfl) ?_
    obtain ⟨u_22, g_21, e_23, hF⟩ := pwd_some hF
    refine ms_52 hC hH e_23 g_21 dX13_act_67 (fun H locs hH => ?_)
    refine lv_aload_n hx hb dX13_act_68 rfl (lv_at hl 0 rfl) ?_
    refine lv_dup hx hb dX13_act_69 rfl ?_
    refine mg_53 hC hH dX13_act_70 ?_
    obtain ⟨x_24, e_25, hF⟩ := puf_some hF
    refine gx_ti e_25 ?_
    refine lv_iconst (v := 1) hx hb dX13_act_73 (by decide) ?_
    refine lv_iadd hx hb dX13_act_74 ?_
    obtain ⟨u_26, e_27, hF⟩ := pwf_some hF
    refine mp_53 hC hH e_27 dX13_act_75 (fun H locs hH => ?_)
    refine lv_aload_n hx hb dX13_act_78 rfl (lv_at hl 0 rfl) ?_
    refine lv_iload_n hx hb dX13_act_79 rfl (lv_at hl 1 rfl) ?_
    refine lv_iload_n hx hb dX13_act_80 rfl (lv_at hl 2 rfl) ?_
    refine lv_iload_n hx hb dX13_act_81 rfl (lv_at hl 3 rfl) ?_
    refine lv_iload hx hb dX13_act_82 (lv_at hl 4 rfl) ?_
    obtain ⟨r_28, u_29, h_30, hF⟩ := pcl_some hF
    refine mcV_i (As := [.int a0, .int a1, .int a2, .int a3]) (rest := []) hC hH (m_does l G Z Q u_26 u_29 r_28 a0 a1 a2 a3 _ h_30) kwX13_does kVX13_does ⟨Nat.le_of_ble_eq_true rfl, Nat.le_of_ble_eq_true rfl⟩ rfl hl.1 rfl (Nat.le_of_ble_eq_true rfl) dX13_act_84 (fun H locs hH => ?_)
    have hF := prt_eq hF
    exact mr_i hC hH hr hF dX13_act_87 hlocks
  · rw [if_pos c_3] at hF
    refine lv_bipush (v := (-4)) hx hb dX13_act_10 (by decide) ?_
    have hF := prt_eq hF
    exact mr_i hC hH hr hF dX13_act_12 hlocks
def lp_undo_25 : Nat → Int32 → (Int32 → PG (Int32)) → PG (Int32)
  | 0, _, _ => fun _ => none
  | n25 + 1, v1, K25_82 => puf 53 (fun x_11 => (if x_11 ≤ v1 then K25_82 v1 else pud 52 2000 (4 * v1) (fun x_14 => pud 52 2000 ((4 * v1) + 1) (fun x_17 => pud 52 2000 ((4 * v1) + 2) (fun x_20 => pud 52 2000 ((4 * v1) + 3) (fun x_23 => pcl (f_does x_14 x_17 x_20 x_23) (fun r_26 => pli (v1 + 1) (fun x_29 => lp_undo_25 n25 x_29 K25_82))))))))
def f_undo  : PG (Int32) := puf 53 (fun x_1 => (if x_1 = 0 then prt (-1) else puf 53 (fun x_4 => pwf 53 (x_4 - 1) (pcl (f_anew) (fun r_8 => lp_undo_25 fuel 0 (fun v1 => puf 53 (fun x_31 => prt x_31)))))))
set_option maxHeartbeats 4000000 in
set_option maxRecDepth 100000 in
theorem m_undo (l : Launch) (G : gG) (Z : gM) (Q : Nat → Nat) (u u1 : GS) (r : Int32)  (sz : Nat) (hF : f_undo u = some (r, u1)) : Met l yX13_undo (Cond.code yX13_undo cX13_undo 3 (some .int) :: wM) { frames := 408, cells := 0, slots := 0, locals := 4972 } (va_Pc [.ref (Q 72)] (mPM G Z Q u.1 sz)) (mQi G Q u1.1 r sz) 0 0 (mA Q sz) := by
  refine Met.ofW (cc := cX13_undo) (maxL := 3) (ret := (some .int)) (by decide) rfl ?_
  intro p e s m args below meth c s₁ B hml hv
  obtain ⟨rfl, rfl, hP, hB, hD, hE⟩ := hv
  have hr := B.returns
  have hlocks := B.notSynchronized
  have hts := atoms_spec (ws := Cond.code yX13_undo cX13_undo 3 (some .int) :: wM) B.pre
  have hC : mX p c cX13_undo 3 s m _ G Z Q := ⟨B.exec, B.bytes, hml, findClass_of_methodNamed B.named, fun w h => hts w (List.mem_cons_of_mem _ h), hB, hE⟩
  have hx := hC.1
  have hb := hC.2.1
  have hH : mH G Q u.1 s s.heap [] := ⟨hP, hD, va_S.rf⟩
  have hl := lv_entry ([.ref (Q 72)]) (n := 3) (Nat.le_of_ble_eq_true rfl)
  rw [lg_entry_eq]
  generalize (lg_sl ([.ref (Q 72)]) ++ List.replicate (3 - (lg_sl ([.ref (Q 72)])).length) Slot.unset).toArray = ls at hl ⊢
  have hl : lv_has ls 3 [(0, .ref (Q 72))] := hl
  unfold f_undo at hF
  refine lv_aload_n hx hb dX13_undo_0 rfl (lv_at hl 0 rfl) ?_
  refine mg_53 hC hH dX13_undo_1 ?_
  obtain ⟨x_1, e_2, hF⟩ := puf_some hF
  refine gx_ti e_2 ?_
  refine lv_if_ne (tgt := 9) hx hb dX13_undo_4 (by decide) (fun c_3 => ?_) (fun c_3 => ?_)
  · rw [if_neg c_3] at hF
    refine lv_aload_n hx hb dX13_undo_9 rfl (lv_at hl 0 rfl) ?_
    refine lv_dup hx hb dX13_undo_10 rfl ?_
    refine mg_53 hC hH dX13_undo_11 ?_
    obtain ⟨x_4, e_5, hF⟩ := puf_some hF
    refine gx_ti e_5 ?_
    refine lv_iconst (v := 1) hx hb dX13_undo_14 (by decide) ?_
    refine lv_isub hx hb dX13_undo_15 ?_
    obtain ⟨u_6, e_7, hF⟩ := pwf_some hF
    refine mp_53 hC hH e_7 dX13_undo_16 (fun H locs hH => ?_)
    refine lv_aload_n hx hb dX13_undo_19 rfl (lv_at hl 0 rfl) ?_
    obtain ⟨r_8, u_9, h_10, hF⟩ := pcl_some hF
    refine mcV_v (As := []) (rest := []) hC hH (m_anew l G Z Q u_6 u_9 r_8  _ h_10) kwX13_anew kVX13_anew ⟨Nat.le_of_ble_eq_true rfl, Nat.le_of_ble_eq_true rfl⟩ rfl hl.1 rfl (Nat.le_of_ble_eq_true rfl) dX13_undo_20 (fun H locs hH => ?_)
    refine lv_iconst (v := 0) hx hb dX13_undo_23 (by decide) ?_
    refine lv_istore_n (lv' := [(1, .int 0), (0, .ref (Q 72))]) hx hb dX13_undo_24 rfl hl (by decide) rfl (fun ls hl => ?_)
    have hL25 : ∀ (K25_82 : Int32 → PG (Int32)), (∀ (v1 : Int32) (u : GS) (H : Heap) (locs : List Loc) (ls : Array Slot), lv_has ls 3 [(0, .ref (Q 72)), (1, .int v1)] → mH G Q u.1 s H locs → K25_82 v1 u = some ((r, u1)) → W p l e (headSpec (Cond.code yX13_undo cX13_undo 3 (some .int) :: wM) { frames := 408, cells := 0, slots := 0, locals := 4972 }).room s m [.ref (Q 72)].toArray below meth c H locs 0 0 (MQ below (mQi G Q u1.1 r s.heap.size) [.ref (Q 72)].toArray s 0 0 (mA Q s.heap.size)) (F0 m 82 ls [])) → ∀ (n25 : Nat) (v1 : Int32) (u : GS) (H : Heap) (locs : List Loc) (ls : Array Slot), lv_has ls 3 [(0, .ref (Q 72)), (1, .int v1)] → mH G Q u.1 s H locs → lp_undo_25 n25 v1 K25_82 u = some ((r, u1)) → W p l e (headSpec (Cond.code yX13_undo cX13_undo 3 (some .int) :: wM) { frames := 408, cells := 0, slots := 0, locals := 4972 }).room s m [.ref (Q 72)].toArray below meth c H locs 0 0 (MQ below (mQi G Q u1.1 r s.heap.size) [.ref (Q 72)].toArray s 0 0 (mA Q s.heap.size)) (F0 m 25 ls []) := by
      intro K25_82 hK25_82 n25
      induction n25 with
      | zero => intro v1 u H locs ls hl hH hF; cases hF
      | succ n25 ih25 =>
        intro v1 u H locs ls hl hH hF
        unfold lp_undo_25 at hF
        refine lv_iload_n hx hb dX13_undo_25 rfl (lv_at hl 1 rfl) ?_
        refine lv_aload_n hx hb dX13_undo_26 rfl (lv_at hl 0 rfl) ?_
        refine mg_53 hC hH dX13_undo_27 ?_
        obtain ⟨x_11, e_12, hF⟩ := puf_some hF
        refine gx_ti e_12 ?_
        refine lv_icmp_ge (tgt := 82) hx hb dX13_undo_30 (by decide) (fun c_13 => ?_) (fun c_13 => ?_)
        · rw [if_pos c_13] at hF
          exact hK25_82 v1 u _ _ _ (lv_sub hl [0, 1] rfl) hH hF
        · rw [if_neg c_13] at hF
          refine lv_aload_n hx hb dX13_undo_33 rfl (lv_at hl 0 rfl) ?_
          refine lv_aload_n hx hb dX13_undo_34 rfl (lv_at hl 0 rfl) ?_
          refine mg_52 hC hH dX13_undo_35 ?_
          refine lv_iconst (v := 4) hx hb dX13_undo_38 (by decide) ?_
          refine lv_iload_n hx hb dX13_undo_39 rfl (lv_at hl 1 rfl) ?_
          refine lv_imul hx hb dX13_undo_40 ?_
          obtain ⟨x_14, g_15, e_16, hF⟩ := pud_some hF
          refine ml_52 hC hH g_15 dX13_undo_41 ?_
          refine gx_ti e_16 ?_
          refine lv_aload_n hx hb dX13_undo_42 rfl (lv_at hl 0 rfl) ?_
          refine mg_52 hC hH dX13_undo_43 ?_
          refine lv_iconst (v := 4) hx hb dX13_undo_46 (by decide) ?_
          refine lv_iload_n hx hb dX13_undo_47 rfl (lv_at hl 1 rfl) ?_
          refine lv_imul hx hb dX13_undo_48 ?_
          refine lv_iconst (v := 1) hx hb dX13_undo_49 (by decide) ?_
          refine lv_iadd hx hb dX13_undo_50 ?_
          obtain ⟨x_17, g_18, e_19, hF⟩ := pud_some hF
          refine ml_52 hC hH g_18 dX13_undo_51 ?_
          refine gx_ti e_19 ?_
          refine lv_aload_n hx hb dX13_undo_52 rfl (lv_at hl 0 rfl) ?_
          refine mg_52 hC hH dX13_undo_53 ?_
          refine lv_iconst (v := 4) hx hb dX13_undo_56 (by decide) ?_
          refine lv_iload_n hx hb dX13_undo_57 rfl (lv_at hl 1 rfl) ?_
          refine lv_imul hx hb dX13_undo_58 ?_
          refine lv_iconst (v := 2) hx hb dX13_undo_59 (by decide) ?_
          refine lv_iadd hx hb dX13_undo_60 ?_
          obtain ⟨x_20, g_21, e_22, hF⟩ := pud_some hF
          refine ml_52 hC hH g_21 dX13_undo_61 ?_
          refine gx_ti e_22 ?_
          refine lv_aload_n hx hb dX13_undo_62 rfl (lv_at hl 0 rfl) ?_
          refine mg_52 hC hH dX13_undo_63 ?_
          refine lv_iconst (v := 4) hx hb dX13_undo_66 (by decide) ?_
          refine lv_iload_n hx hb dX13_undo_67 rfl (lv_at hl 1 rfl) ?_
          refine lv_imul hx hb dX13_undo_68 ?_
          refine lv_iconst (v := 3) hx hb dX13_undo_69 (by decide) ?_
          refine lv_iadd hx hb dX13_undo_70 ?_
          obtain ⟨x_23, g_24, e_25, hF⟩ := pud_some hF
          refine ml_52 hC hH g_24 dX13_undo_71 ?_
          refine gx_ti e_25 ?_
          obtain ⟨r_26, u_27, h_28, hF⟩ := pcl_some hF
          refine mcV_i (As := [.int x_14, .int x_17, .int x_20, .int x_23]) (rest := []) hC hH (m_does l G Z Q u u_27 r_26 x_14 x_17 x_20 x_23 _ h_28) kwX13_does kVX13_does ⟨Nat.le_of_ble_eq_true rfl, Nat.le_of_ble_eq_true rfl⟩ rfl hl.1 rfl (Nat.le_of_ble_eq_true rfl) dX13_undo_72 (fun H locs hH => ?_)
          refine lv_istore_n (lv' := [(2, .int r_26), (0, .ref (Q 72)), (1, .int v1)]) hx hb dX13_undo_75 rfl hl (by decide) rfl (fun ls hl => ?_)
          obtain ⟨x_29, e_30, hF⟩ := pli_some hF
          refine lv_iinc (v := x_29) (lv' := [(1, .int x_29), (2, .int r_26), (0, .ref (Q 72))]) hx hb dX13_undo_76 hl (k := 2) rfl e_30 (by decide) rfl (fun ls hl => ?_)
          refine lv_goto (tgt := 25) hx hb dX13_undo_79 (by decide) ?_
          exact ih25 x_29 u_27 _ _ _ (lv_sub hl [2, 0] rfl) hH hF
    refine hL25 _ (fun v1 u H locs ls hl hH hF => ?_) fuel 0 u_9 _ _ _ (lv_sub hl [1, 0] rfl) hH hF
    refine lv_aload_n hx hb dX13_undo_82 rfl (lv_at hl 0 rfl) ?_
    refine mg_53 hC hH dX13_undo_83 ?_
    obtain ⟨x_31, e_32, hF⟩ := puf_some hF
    refine gx_ti e_32 ?_
    have hF := prt_eq hF
    exact mr_i hC hH hr hF dX13_undo_86 hlocks
  · rw [if_pos c_3] at hF
    refine lv_iconst (v := (-1)) hx hb dX13_undo_7 (by decide) ?_
    have hF := prt_eq hF
    exact mr_i hC hH hr hF dX13_undo_8 hlocks
def lp_laws_4 : Nat → Int32 → Int32 → (Int32 → Int32 → PG (Int32)) → PG (Int32)
  | 0, _, _, _ => fun _ => none
  | n4 + 1, v1, v2, K4_35 => (if 4 ≤ v2 then K4_35 v1 v2 else (if v1 = 0 then prd 22 4 v2 (fun x_5 => (if x_5 = (-1) then pli (v2 + 1) (fun x_9 => lp_laws_4 n4 0 x_9 K4_35) else pli (v2 + 1) (fun x_11 => lp_laws_4 n4 1 x_11 K4_35))) else pli (v2 + 1) (fun x_3 => lp_laws_4 n4 1 x_3 K4_35)))
def lp_laws_99 : Nat → Int32 → Int32 → Int32 → Int32 → Int32 → (Int32 → Int32 → Int32 → Int32 → Int32 → PG (Int32)) → PG (Int32)
  | 0, _, _, _, _, _, _ => fun _ => none
  | n99 + 1, v1, v2, v3, v4, v5, K99_132 => (if v3 ≤ v5 then K99_132 v1 v2 v3 v4 v5 else (if v2 = 0 then K99_132 v1 v2 v3 v4 v5 else pud 40 3000 v5 (fun x_36 => pwd 54 24000 (v4 + v5) (vp_nar .byte x_36) (pli (v5 + 1) (fun x_42 => lp_laws_99 n99 v1 v2 v3 v4 x_42 K99_132)))))
def f_laws  : PG (Int32) := lp_laws_4 fuel 0 0 (fun v1 v2 => pwf 41 0 (puf 42 (fun x_15 => pwf 43 x_15 (pwf 42 0 ((if v1 = 0 then pwf 49 0 (pwf 50 (-1) (pcl (f_readLaws) (fun r_26 => pot r_26 (prf 43 (fun x_30 => puf 55 (fun x_32 => lp_laws_99 fuel v1 0 x_30 x_32 0 (fun v1 v2 v3 v4 v5 => pcl (f_lawsAgain) (fun r_44 => (if v2 = 0 then prt (-1) else puf 53 (fun x_48 => (if x_48 = 500 then prt (-4) else puf 55 (fun x_51 => pwf 55 (x_51 + v3) (pcl (f_act 0 v4 v3 0) (fun r_55 => prt r_55))))))))))) (fun r_29 => prf 43 (fun x_58 => puf 55 (fun x_60 => lp_laws_99 fuel v1 1 x_58 x_60 0 (fun v1 v2 v3 v4 v5 => pcl (f_lawsAgain) (fun r_72 => (if v2 = 0 then prt (-1) else puf 53 (fun x_76 => (if x_76 = 500 then prt (-4) else puf 55 (fun x_79 => pwf 55 (x_79 + v3) (pcl (f_act 0 v4 v3 0) (fun r_83 => prt r_83)))))))))))))) else prt (-3)))))))
set_option maxHeartbeats 4000000 in
set_option maxRecDepth 100000 in
theorem m_laws (l : Launch) (G : gG) (Z : gM) (Q : Nat → Nat) (u u1 : GS) (r : Int32)  (sz : Nat) (hF : f_laws u = some (r, u1)) : Met l yX13_laws (Cond.codeWith yX13_laws cX13_laws 6 (some .int) [(75, 79, 82, 105)] :: wM) { frames := 409, cells := 0, slots := 0, locals := 4996 } (va_Pc [.ref (Q 72)] (mPM G Z Q u.1 sz)) (mQi G Q u1.1 r sz) 0 0 (mA Q sz) := by
  refine va_MetW (cc := cX13_laws) (maxL := 6) (ret := (some .int)) (by decide) rfl ?_
  intro p e s m args below meth c s₁ B hml hv
  obtain ⟨rfl, rfl, hP, hB, hD, hE⟩ := hv
  have hr := B.returns
  have hlocks := B.notSynchronized
  have hts := atoms_spec (ws := Cond.codeWith yX13_laws cX13_laws 6 (some .int) [(75, 79, 82, 105)] :: wM) B.pre
  have hC : mX p c cX13_laws 6 s m _ G Z Q := ⟨B.exec, B.bytes, hml, findClass_of_methodNamed B.named, fun w h => hts w (List.mem_cons_of_mem _ h), hB, hE⟩
  have hx := hC.1
  have hb := hC.2.1
  have hH : mH G Q u.1 s s.heap [] := ⟨hP, hD, va_S.rf⟩
  have hl := lv_entry ([.ref (Q 72)]) (n := 6) (Nat.le_of_ble_eq_true rfl)
  rw [lg_entry_eq]
  generalize (lg_sl ([.ref (Q 72)]) ++ List.replicate (6 - (lg_sl ([.ref (Q 72)])).length) Slot.unset).toArray = ls at hl ⊢
  have hl : lv_has ls 6 [(0, .ref (Q 72))] := hl
  obtain ⟨m9, meth9, c9, hn9, hm9, hc9, -, -, htab9, -⟩ := Cond.codeWith_spec (hts _ List.mem_cons_self)
  cases B.named.symm.trans hn9
  cases B.method.symm.trans hm9
  cases (Stand.of_body B).code.symm.trans hc9
  obtain ⟨x9, htab, ex9⟩ : ∃ x9 : ExceptionTableEntry, c.exceptionTable.toList = [x9] ∧ (x9.startPc, x9.endPc, x9.handlerPc, x9.catchType) = (75, 79, 82, 105) := by
    cases hz : c.exceptionTable.toList with
    | nil => rw [hz] at htab9; cases htab9
    | cons y ys =>
      rw [hz] at htab9
      cases ys with
      | nil => exact ⟨y, rfl, (List.cons.inj htab9).1⟩
      | cons z zs => exact absurd (List.cons.inj htab9).2 (by intro h; cases h)
  obtain ⟨x1, x2, x3, x4⟩ := x9
  cases ex9
  unfold f_laws at hF
  refine lv_iconst (v := 0) hx hb dX13_laws_0 (by decide) ?_
  refine lv_istore_n (lv' := [(1, .int 0), (0, .ref (Q 72))]) hx hb dX13_laws_1 rfl hl (by decide) rfl (fun ls hl => ?_)
  refine lv_iconst (v := 0) hx hb dX13_laws_2 (by decide) ?_
  refine lv_istore_n (lv' := [(2, .int 0), (1, .int 0), (0, .ref (Q 72))]) hx hb dX13_laws_3 rfl hl (by decide) rfl (fun ls hl => ?_)
  have hL4 : ∀ (K4_35 : Int32 → Int32 → PG (Int32)), (∀ (v1 v2 : Int32) (u : GS) (H : Heap) (locs : List Loc) (ls : Array Slot), lv_has ls 6 [(0, .ref (Q 72)), (1, .int v1), (2, .int v2)] → mH G Q u.1 s H locs → K4_35 v1 v2 u = some ((r, u1)) → W p l e (headSpec (Cond.codeWith yX13_laws cX13_laws 6 (some .int) [(75, 79, 82, 105)] :: wM) { frames := 409, cells := 0, slots := 0, locals := 4996 }).room s m [.ref (Q 72)].toArray below meth c H locs 0 0 (MQ below (mQi G Q u1.1 r s.heap.size) [.ref (Q 72)].toArray s 0 0 (mA Q s.heap.size)) (F0 m 35 ls [])) → ∀ (n4 : Nat) (v1 v2 : Int32) (u : GS) (H : Heap) (locs : List Loc) (ls : Array Slot), lv_has ls 6 [(0, .ref (Q 72)), (1, .int v1), (2, .int v2)] → mH G Q u.1 s H locs → lp_laws_4 n4 v1 v2 K4_35 u = some ((r, u1)) → W p l e (headSpec (Cond.codeWith yX13_laws cX13_laws 6 (some .int) [(75, 79, 82, 105)] :: wM) { frames := 409, cells := 0, slots := 0, locals := 4996 }).room s m [.ref (Q 72)].toArray below meth c H locs 0 0 (MQ below (mQi G Q u1.1 r s.heap.size) [.ref (Q 72)].toArray s 0 0 (mA Q s.heap.size)) (F0 m 4 ls []) := by
    intro K4_35 hK4_35 n4
    induction n4 with
    | zero => intro v1 v2 u H locs ls hl hH hF; cases hF
    | succ n4 ih4 =>
      intro v1 v2 u H locs ls hl hH hF
      unfold lp_laws_4 at hF
      refine lv_iload_n hx hb dX13_laws_4 rfl (lv_at hl 2 rfl) ?_
      refine lv_iconst (v := 4) hx hb dX13_laws_5 (by decide) ?_
      refine lv_icmp_ge (tgt := 35) hx hb dX13_laws_6 (by decide) (fun c_1 => ?_) (fun c_1 => ?_)
      · rw [if_pos c_1] at hF
        exact hK4_35 v1 v2 u _ _ _ (lv_sub hl [0, 1, 2] rfl) hH hF
      · rw [if_neg c_1] at hF
        refine lv_iload_n hx hb dX13_laws_9 rfl (lv_at hl 1 rfl) ?_
        refine lv_if_ne (tgt := 23) hx hb dX13_laws_10 (by decide) (fun c_2 => ?_) (fun c_2 => ?_)
        · rw [if_neg c_2] at hF
          refine lv_iconst (v := 1) hx hb dX13_laws_23 (by decide) ?_
          refine lv_goto (tgt := 28) hx hb dX13_laws_24 (by decide) ?_
          refine lv_istore_n (lv' := [(1, .int 1), (0, .ref (Q 72)), (2, .int v2)]) hx hb dX13_laws_28 rfl hl (by decide) rfl (fun ls hl => ?_)
          obtain ⟨x_3, e_4, hF⟩ := pli_some hF
          refine lv_iinc (v := x_3) (lv' := [(2, .int x_3), (1, .int 1), (0, .ref (Q 72))]) hx hb dX13_laws_29 hl (k := 2) rfl e_4 (by decide) rfl (fun ls hl => ?_)
          refine lv_goto (tgt := 4) hx hb dX13_laws_32 (by decide) ?_
          exact ih4 1 x_3 u _ _ _ (lv_sub hl [2, 1, 0] rfl) hH hF
        · rw [if_pos c_2] at hF
          refine lv_aload_n hx hb dX13_laws_13 rfl (lv_at hl 0 rfl) ?_
          refine mg_22 hC hH dX13_laws_14 ?_
          refine lv_iload_n hx hb dX13_laws_17 rfl (lv_at hl 2 rfl) ?_
          obtain ⟨x_5, g_6, e_7, hF⟩ := prd_some hF
          refine ml_22 hC hH g_6 dX13_laws_18 ?_
          refine gx_ti e_7 ?_
          refine lv_iconst (v := (-1)) hx hb dX13_laws_19 (by decide) ?_
          refine lv_icmp_eq (tgt := 27) hx hb dX13_laws_20 (by decide) (fun c_8 => ?_) (fun c_8 => ?_)
          · rw [if_pos c_8] at hF
            refine lv_iconst (v := 0) hx hb dX13_laws_27 (by decide) ?_
            refine lv_istore_n (lv' := [(1, .int 0), (0, .ref (Q 72)), (2, .int v2)]) hx hb dX13_laws_28 rfl hl (by decide) rfl (fun ls hl => ?_)
            obtain ⟨x_9, e_10, hF⟩ := pli_some hF
            refine lv_iinc (v := x_9) (lv' := [(2, .int x_9), (1, .int 0), (0, .ref (Q 72))]) hx hb dX13_laws_29 hl (k := 2) rfl e_10 (by decide) rfl (fun ls hl => ?_)
            refine lv_goto (tgt := 4) hx hb dX13_laws_32 (by decide) ?_
            exact ih4 0 x_9 u _ _ _ (lv_sub hl [2, 1, 0] rfl) hH hF
          · rw [if_neg c_8] at hF
            refine lv_iconst (v := 1) hx hb dX13_laws_23 (by decide) ?_
            refine lv_goto (tgt := 28) hx hb dX13_laws_24 (by decide) ?_
            refine lv_istore_n (lv' := [(1, .int 1), (0, .ref (Q 72)), (2, .int v2)]) hx hb dX13_laws_28 rfl hl (by decide) rfl (fun ls hl => ?_)
            obtain ⟨x_11, e_12, hF⟩ := pli_some hF
            refine lv_iinc (v := x_11) (lv' := [(2, .int x_11), (1, .int 1), (0, .ref (Q 72))]) hx hb dX13_laws_29 hl (k := 2) rfl e_12 (by decide) rfl (fun ls hl => ?_)
            refine lv_goto (tgt := 4) hx hb dX13_laws_32 (by decide) ?_
            exact ih4 1 x_11 u _ _ _ (lv_sub hl [2, 1, 0] rfl) hH hF
  refine hL4 _ (fun v1 v2 u H locs ls hl hH hF => ?_) fuel 0 0 u _ _ _ (lv_sub hl [2, 1, 0] rfl) hH hF
  refine lv_aload_n hx hb dX13_laws_35 rfl (lv_at hl 0 rfl) ?_
  refine lv_aload_n hx hb dX13_laws_36 rfl (lv_at hl 0 rfl) ?_
  refine mg_40 hC hH dX13_laws_37 ?_
  obtain ⟨u_13, e_14, hF⟩ := pwf_some hF
  refine mp_41_0 hC hH e_14 dX13_laws_40 (fun H locs hH => ?_)
  refine lv_aload_n hx hb dX13_laws_43 rfl (lv_at hl 0 rfl) ?_
  refine lv_aload_n hx hb dX13_laws_44 rfl (lv_at hl 0 rfl) ?_
  refine mg_42 hC hH dX13_laws_45 ?_
  obtain ⟨x_15, e_16, hF⟩ := puf_some hF
  refine gx_ti e_16 ?_
  obtain ⟨u_17, e_18, hF⟩ := pwf_some hF
  refine mp_43 hC hH e_18 dX13_laws_48 (fun H locs hH => ?_)
  refine lv_aload_n hx hb dX13_laws_51 rfl (lv_at hl 0 rfl) ?_
  refine lv_iconst (v := 0) hx hb dX13_laws_52 (by decide) ?_
  obtain ⟨u_19, e_20, hF⟩ := pwf_some hF
  refine mp_42 hC hH e_20 dX13_laws_53 (fun H locs hH => ?_)
  refine lv_iload_n hx hb dX13_laws_56 rfl (lv_at hl 1 rfl) ?_
  refine lv_if_eq (tgt := 63) hx hb dX13_laws_57 (by decide) (fun c_21 => ?_) (fun c_21 => ?_)
  · rw [if_pos c_21] at hF
    refine lv_aload_n hx hb dX13_laws_63 rfl (lv_at hl 0 rfl) ?_
    refine lv_iconst (v := 0) hx hb dX13_laws_64 (by decide) ?_
    obtain ⟨u_22, e_23, hF⟩ := pwf_some hF
    refine mp_49 hC hH e_23 dX13_laws_65 (fun H locs hH => ?_)
    refine lv_aload_n hx hb dX13_laws_68 rfl (lv_at hl 0 rfl) ?_
    refine lv_iconst (v := (-1)) hx hb dX13_laws_69 (by decide) ?_
    obtain ⟨u_24, e_25, hF⟩ := pwf_some hF
    refine mp_50 hC hH e_25 dX13_laws_70 (fun H locs hH => ?_)
    refine lv_iconst (v := 1) hx hb dX13_laws_73 (by decide) ?_
    refine lv_istore_n (lv' := [(2, .int 1), (0, .ref (Q 72)), (1, .int v1)]) hx hb dX13_laws_74 rfl hl (by decide) rfl (fun ls hl => ?_)
    refine lv_aload_n hx hb dX13_laws_75 rfl (lv_at hl 1 rfl) ?_
    obtain ⟨r_26, u_27, h_28, hF⟩ := pcl_some hF
    cases r_26 with
    | none =>
      have hF := pot_none hF
      refine mt_catch (hpc := 82) hC hH (mt_run (As := []) (rest := []) hC hH (t_readLaws l G Z Q u_24 u_27  _ h_28) kwX13_readLaws kVX13_readLaws ⟨Nat.le_of_ble_eq_true rfl, Nat.le_of_ble_eq_true rfl⟩ rfl hl.1 rfl (Nat.le_of_ble_eq_true rfl) dX13_laws_76) htab (by decide) (by decide) wma1 rfl (fun H locs hH => ?_)
      refine lv_astore_n (lv' := [(3, .ref (Q 39)), (2, .int 1), (0, .ref (Q 72)), (1, .int v1)]) hx hb dX13_laws_82 rfl hl (by decide) rfl (fun ls hl => ?_)
      refine lv_iconst (v := 0) hx hb dX13_laws_83 (by decide) ?_
      refine lv_istore_n (lv' := [(2, .int 0), (3, .ref (Q 39)), (0, .ref (Q 72)), (1, .int v1)]) hx hb dX13_laws_84 rfl hl (by decide) rfl (fun ls hl => ?_)
      refine lv_aload_n hx hb dX13_laws_85 rfl (lv_at hl 2 rfl) ?_
      refine mg_43 hC hH dX13_laws_86 ?_
      obtain ⟨x_30, e_31, hF⟩ := prf_some hF
      refine gx_ti e_31 ?_
      refine lv_istore_n (lv' := [(3, .int x_30), (2, .int 0), (0, .ref (Q 72)), (1, .int v1)]) hx hb dX13_laws_89 rfl hl (by decide) rfl (fun ls hl => ?_)
      refine lv_aload_n hx hb dX13_laws_90 rfl (lv_at hl 2 rfl) ?_
      refine mg_55 hC hH dX13_laws_91 ?_
      obtain ⟨x_32, e_33, hF⟩ := puf_some hF
      refine gx_ti e_33 ?_
      refine lv_istore (lv' := [(4, .int x_32), (3, .int x_30), (2, .int 0), (0, .ref (Q 72)), (1, .int v1)]) hx hb dX13_laws_94 hl (by decide) rfl (fun ls hl => ?_)
      refine lv_iconst (v := 0) hx hb dX13_laws_96 (by decide) ?_
      refine lv_istore (lv' := [(5, .int 0), (4, .int x_32), (3, .int x_30), (2, .int 0), (0, .ref (Q 72)), (1, .int v1)]) hx hb dX13_laws_97 hl (by decide) rfl (fun ls hl => ?_)
      have hL99 : ∀ (K99_132 : Int32 → Int32 → Int32 → Int32 → Int32 → PG (Int32)), (∀ (v1 v2 v3 v4 v5 : Int32) (u : GS) (H : Heap) (locs : List Loc) (ls : Array Slot), lv_has ls 6 [(0, .ref (Q 72)), (1, .int v1), (2, .int v2), (3, .int v3), (4, .int v4), (5, .int v5)] → mH G Q u.1 s H locs → K99_132 v1 v2 v3 v4 v5 u = some ((r, u1)) → W p l e (headSpec (Cond.codeWith yX13_laws cX13_laws 6 (some .int) [(75, 79, 82, 105)] :: wM) { frames := 409, cells := 0, slots := 0, locals := 4996 }).room s m [.ref (Q 72)].toArray below meth c H locs 0 0 (MQ below (mQi G Q u1.1 r s.heap.size) [.ref (Q 72)].toArray s 0 0 (mA Q s.heap.size)) (F0 m 132 ls [])) → ∀ (n99 : Nat) (v1 v2 v3 v4 v5 : Int32) (u : GS) (H : Heap) (locs : List Loc) (ls : Array Slot), lv_has ls 6 [(0, .ref (Q 72)), (1, .int v1), (2, .int v2), (3, .int v3), (4, .int v4), (5, .int v5)] → mH G Q u.1 s H locs → lp_laws_99 n99 v1 v2 v3 v4 v5 K99_132 u = some ((r, u1)) → W p l e (headSpec (Cond.codeWith yX13_laws cX13_laws 6 (some .int) [(75, 79, 82, 105)] :: wM) { frames := 409, cells := 0, slots := 0, locals := 4996 }).room s m [.ref (Q 72)].toArray below meth c H locs 0 0 (MQ below (mQi G Q u1.1 r s.heap.size) [.ref (Q 72)].toArray s 0 0 (mA Q s.heap.size)) (F0 m 99 ls []) := by
        intro K99_132 hK99_132 n99
        induction n99 with
        | zero => intro v1 v2 v3 v4 v5 u H locs ls hl hH hF; cases hF
        | succ n99 ih99 =>
          intro v1 v2 v3 v4 v5 u H locs ls hl hH hF
          unfold lp_laws_99 at hF
          refine lv_iload hx hb dX13_laws_99 (lv_at hl 5 rfl) ?_
          refine lv_iload_n hx hb dX13_laws_101 rfl (lv_at hl 3 rfl) ?_
          refine lv_icmp_ge (tgt := 132) hx hb dX13_laws_102 (by decide) (fun c_34 => ?_) (fun c_34 => ?_)
          · rw [if_pos c_34] at hF
            exact hK99_132 v1 v2 v3 v4 v5 u _ _ _ (lv_sub hl [0, 1, 2, 3, 4, 5] rfl) hH hF
          · rw [if_neg c_34] at hF
            refine lv_iload_n hx hb dX13_laws_105 rfl (lv_at hl 2 rfl) ?_
            refine lv_if_eq (tgt := 132) hx hb dX13_laws_106 (by decide) (fun c_35 => ?_) (fun c_35 => ?_)
            · rw [if_pos c_35] at hF
              exact hK99_132 v1 v2 v3 v4 v5 u _ _ _ (lv_sub hl [0, 1, 2, 3, 4, 5] rfl) hH hF
            · rw [if_neg c_35] at hF
              refine lv_aload_n hx hb dX13_laws_109 rfl (lv_at hl 0 rfl) ?_
              refine mg_54 hC hH dX13_laws_110 ?_
              refine lv_iload hx hb dX13_laws_113 (lv_at hl 4 rfl) ?_
              refine lv_iload hx hb dX13_laws_115 (lv_at hl 5 rfl) ?_
              refine lv_iadd hx hb dX13_laws_117 ?_
              refine lv_aload_n hx hb dX13_laws_118 rfl (lv_at hl 0 rfl) ?_
              refine mg_40 hC hH dX13_laws_119 ?_
              refine lv_iload hx hb dX13_laws_122 (lv_at hl 5 rfl) ?_
              obtain ⟨x_36, g_37, e_38, hF⟩ := pud_some hF
              refine ml_40 hC hH g_37 dX13_laws_124 ?_
              refine gx_ti e_38 ?_
              obtain ⟨u_40, g_39, e_41, hF⟩ := pwd_some hF
              refine ms_54 hC hH e_41 g_39 dX13_laws_125 (fun H locs hH => ?_)
              obtain ⟨x_42, e_43, hF⟩ := pli_some hF
              refine lv_iinc (v := x_42) (lv' := [(5, .int x_42), (0, .ref (Q 72)), (1, .int v1), (2, .int v2), (3, .int v3), (4, .int v4)]) hx hb dX13_laws_126 hl (k := 5) rfl e_43 (by decide) rfl (fun ls hl => ?_)
              refine lv_goto (tgt := 99) hx hb dX13_laws_129 (by decide) ?_
              exact ih99 v1 v2 v3 v4 x_42 u_40 _ _ _ (lv_sub hl [1, 2, 3, 4, 5, 0] rfl) hH hF
      refine hL99 _ (fun v1 v2 v3 v4 v5 u H locs ls hl hH hF => ?_) fuel v1 0 x_30 x_32 0 u_27 _ _ _ (lv_sub hl [4, 5, 3, 2, 1, 0] rfl) hH hF
      refine lv_aload_n hx hb dX13_laws_132 rfl (lv_at hl 0 rfl) ?_
      obtain ⟨r_44, u_45, h_46, hF⟩ := pcl_some hF
      refine mcV_v (As := []) (rest := []) hC hH (m_lawsAgain l G Z Q u u_45 r_44  _ h_46) kwX13_lawsAgain kVX13_lawsAgain ⟨Nat.le_of_ble_eq_true rfl, Nat.le_of_ble_eq_true rfl⟩ rfl hl.1 rfl (Nat.le_of_ble_eq_true rfl) dX13_laws_133 (fun H locs hH => ?_)
      refine lv_iload_n hx hb dX13_laws_136 rfl (lv_at hl 2 rfl) ?_
      refine lv_if_ne (tgt := 142) hx hb dX13_laws_137 (by decide) (fun c_47 => ?_) (fun c_47 => ?_)
      · rw [if_neg c_47] at hF
        refine lv_aload_n hx hb dX13_laws_142 rfl (lv_at hl 0 rfl) ?_
        refine mg_53 hC hH dX13_laws_143 ?_
        obtain ⟨x_48, e_49, hF⟩ := puf_some hF
        refine gx_ti e_49 ?_
        refine lv_sipush (v := 500) hx hb dX13_laws_146 (by decide) ?_
        refine lv_icmp_ne (tgt := 155) hx hb dX13_laws_149 (by decide) (fun c_50 => ?_) (fun c_50 => ?_)
        · rw [if_neg c_50] at hF
          refine lv_aload_n hx hb dX13_laws_155 rfl (lv_at hl 0 rfl) ?_
          refine lv_dup hx hb dX13_laws_156 rfl ?_
          refine mg_55 hC hH dX13_laws_157 ?_
          obtain ⟨x_51, e_52, hF⟩ := puf_some hF
          refine gx_ti e_52 ?_
          refine lv_iload_n hx hb dX13_laws_160 rfl (lv_at hl 3 rfl) ?_
          refine lv_iadd hx hb dX13_laws_161 ?_
          obtain ⟨u_53, e_54, hF⟩ := pwf_some hF
          refine mp_55 hC hH e_54 dX13_laws_162 (fun H locs hH => ?_)
          refine lv_aload_n hx hb dX13_laws_165 rfl (lv_at hl 0 rfl) ?_
          refine lv_iconst (v := 0) hx hb dX13_laws_166 (by decide) ?_
          refine lv_iload hx hb dX13_laws_167 (lv_at hl 4 rfl) ?_
          refine lv_iload_n hx hb dX13_laws_169 rfl (lv_at hl 3 rfl) ?_
          refine lv_iconst (v := 0) hx hb dX13_laws_170 (by decide) ?_
          obtain ⟨r_55, u_56, h_57, hF⟩ := pcl_some hF
          refine mcV_i (As := [.int 0, .int v4, .int v3, .int 0]) (rest := []) hC hH (m_act l G Z Q u_53 u_56 r_55 0 v4 v3 0 _ h_57) kwX13_act kVX13_act ⟨Nat.le_of_ble_eq_true rfl, Nat.le_of_ble_eq_true rfl⟩ rfl hl.1 rfl (Nat.le_of_ble_eq_true rfl) dX13_laws_171 (fun H locs hH => ?_)
          have hF := prt_eq hF
          exact mr_i hC hH hr hF dX13_laws_174 hlocks
        · rw [if_pos c_50] at hF
          refine lv_bipush (v := (-4)) hx hb dX13_laws_152 (by decide) ?_
          have hF := prt_eq hF
          exact mr_i hC hH hr hF dX13_laws_154 hlocks
      · rw [if_pos c_47] at hF
        refine lv_iconst (v := (-1)) hx hb dX13_laws_140 (by decide) ?_
        have hF := prt_eq hF
        exact mr_i hC hH hr hF dX13_laws_141 hlocks
    | some r_29 =>
      have hF := pot_some hF
      refine mcV_v (As := []) (rest := []) hC hH (m_readLaws l G Z Q u_24 u_27 r_29  _ h_28) kwX13_readLaws kVX13_readLaws ⟨Nat.le_of_ble_eq_true rfl, Nat.le_of_ble_eq_true rfl⟩ rfl hl.1 rfl (Nat.le_of_ble_eq_true rfl) dX13_laws_76 (fun H locs hH => ?_)
      refine lv_goto (tgt := 85) hx hb dX13_laws_79 (by decide) ?_
      refine lv_aload_n hx hb dX13_laws_85 rfl (lv_at hl 1 rfl) ?_
      refine mg_43 hC hH dX13_laws_86 ?_
      obtain ⟨x_58, e_59, hF⟩ := prf_some hF
      refine gx_ti e_59 ?_
      refine lv_istore_n (lv' := [(3, .int x_58), (2, .int 1), (0, .ref (Q 72)), (1, .int v1)]) hx hb dX13_laws_89 rfl hl (by decide) rfl (fun ls hl => ?_)
      refine lv_aload_n hx hb dX13_laws_90 rfl (lv_at hl 2 rfl) ?_
      refine mg_55 hC hH dX13_laws_91 ?_
      obtain ⟨x_60, e_61, hF⟩ := puf_some hF
      refine gx_ti e_61 ?_
      refine lv_istore (lv' := [(4, .int x_60), (3, .int x_58), (2, .int 1), (0, .ref (Q 72)), (1, .int v1)]) hx hb dX13_laws_94 hl (by decide) rfl (fun ls hl => ?_)
      refine lv_iconst (v := 0) hx hb dX13_laws_96 (by decide) ?_
      refine lv_istore (lv' := [(5, .int 0), (4, .int x_60), (3, .int x_58), (2, .int 1), (0, .ref (Q 72)), (1, .int v1)]) hx hb dX13_laws_97 hl (by decide) rfl (fun ls hl => ?_)
      have hL99 : ∀ (K99_132 : Int32 → Int32 → Int32 → Int32 → Int32 → PG (Int32)), (∀ (v1 v2 v3 v4 v5 : Int32) (u : GS) (H : Heap) (locs : List Loc) (ls : Array Slot), lv_has ls 6 [(0, .ref (Q 72)), (1, .int v1), (2, .int v2), (3, .int v3), (4, .int v4), (5, .int v5)] → mH G Q u.1 s H locs → K99_132 v1 v2 v3 v4 v5 u = some ((r, u1)) → W p l e (headSpec (Cond.codeWith yX13_laws cX13_laws 6 (some .int) [(75, 79, 82, 105)] :: wM) { frames := 409, cells := 0, slots := 0, locals := 4996 }).room s m [.ref (Q 72)].toArray below meth c H locs 0 0 (MQ below (mQi G Q u1.1 r s.heap.size) [.ref (Q 72)].toArray s 0 0 (mA Q s.heap.size)) (F0 m 132 ls [])) → ∀ (n99 : Nat) (v1 v2 v3 v4 v5 : Int32) (u : GS) (H : Heap) (locs : List Loc) (ls : Array Slot), lv_has ls 6 [(0, .ref (Q 72)), (1, .int v1), (2, .int v2), (3, .int v3), (4, .int v4), (5, .int v5)] → mH G Q u.1 s H locs → lp_laws_99 n99 v1 v2 v3 v4 v5 K99_132 u = some ((r, u1)) → W p l e (headSpec (Cond.codeWith yX13_laws cX13_laws 6 (some .int) [(75, 79, 82, 105)] :: wM) { frames := 409, cells := 0, slots := 0, locals := 4996 }).room s m [.ref (Q 72)].toArray below meth c H locs 0 0 (MQ below (mQi G Q u1.1 r s.heap.size) [.ref (Q 72)].toArray s 0 0 (mA Q s.heap.size)) (F0 m 99 ls []) := by
        intro K99_132 hK99_132 n99
        induction n99 with
        | zero => intro v1 v2 v3 v4 v5 u H locs ls hl hH hF; cases hF
        | succ n99 ih99 =>
          intro v1 v2 v3 v4 v5 u H locs ls hl hH hF
          unfold lp_laws_99 at hF
          refine lv_iload hx hb dX13_laws_99 (lv_at hl 5 rfl) ?_
          refine lv_iload_n hx hb dX13_laws_101 rfl (lv_at hl 3 rfl) ?_
          refine lv_icmp_ge (tgt := 132) hx hb dX13_laws_102 (by decide) (fun c_62 => ?_) (fun c_62 => ?_)
          · rw [if_pos c_62] at hF
            exact hK99_132 v1 v2 v3 v4 v5 u _ _ _ (lv_sub hl [0, 1, 2, 3, 4, 5] rfl) hH hF
          · rw [if_neg c_62] at hF
            refine lv_iload_n hx hb dX13_laws_105 rfl (lv_at hl 2 rfl) ?_
            refine lv_if_eq (tgt := 132) hx hb dX13_laws_106 (by decide) (fun c_63 => ?_) (fun c_63 => ?_)
            · rw [if_pos c_63] at hF
              exact hK99_132 v1 v2 v3 v4 v5 u _ _ _ (lv_sub hl [0, 1, 2, 3, 4, 5] rfl) hH hF
            · rw [if_neg c_63] at hF
              refine lv_aload_n hx hb dX13_laws_109 rfl (lv_at hl 0 rfl) ?_
              refine mg_54 hC hH dX13_laws_110 ?_
              refine lv_iload hx hb dX13_laws_113 (lv_at hl 4 rfl) ?_
              refine lv_iload hx hb dX13_laws_115 (lv_at hl 5 rfl) ?_
              refine lv_iadd hx hb dX13_laws_117 ?_
              refine lv_aload_n hx hb dX13_laws_118 rfl (lv_at hl 0 rfl) ?_
              refine mg_40 hC hH dX13_laws_119 ?_
              refine lv_iload hx hb dX13_laws_122 (lv_at hl 5 rfl) ?_
              obtain ⟨x_64, g_65, e_66, hF⟩ := pud_some hF
              refine ml_40 hC hH g_65 dX13_laws_124 ?_
              refine gx_ti e_66 ?_
              obtain ⟨u_68, g_67, e_69, hF⟩ := pwd_some hF
              refine ms_54 hC hH e_69 g_67 dX13_laws_125 (fun H locs hH => ?_)
              obtain ⟨x_70, e_71, hF⟩ := pli_some hF
              refine lv_iinc (v := x_70) (lv' := [(5, .int x_70), (0, .ref (Q 72)), (1, .int v1), (2, .int v2), (3, .int v3), (4, .int v4)]) hx hb dX13_laws_126 hl (k := 5) rfl e_71 (by decide) rfl (fun ls hl => ?_)
              refine lv_goto (tgt := 99) hx hb dX13_laws_129 (by decide) ?_
              exact ih99 v1 v2 v3 v4 x_70 u_68 _ _ _ (lv_sub hl [1, 2, 3, 4, 5, 0] rfl) hH hF
      refine hL99 _ (fun v1 v2 v3 v4 v5 u H locs ls hl hH hF => ?_) fuel v1 1 x_58 x_60 0 u_27 _ _ _ (lv_sub hl [4, 5, 3, 2, 1, 0] rfl) hH hF
      refine lv_aload_n hx hb dX13_laws_132 rfl (lv_at hl 0 rfl) ?_
      obtain ⟨r_72, u_73, h_74, hF⟩ := pcl_some hF
      refine mcV_v (As := []) (rest := []) hC hH (m_lawsAgain l G Z Q u u_73 r_72  _ h_74) kwX13_lawsAgain kVX13_lawsAgain ⟨Nat.le_of_ble_eq_true rfl, Nat.le_of_ble_eq_true rfl⟩ rfl hl.1 rfl (Nat.le_of_ble_eq_true rfl) dX13_laws_133 (fun H locs hH => ?_)
      refine lv_iload_n hx hb dX13_laws_136 rfl (lv_at hl 2 rfl) ?_
      refine lv_if_ne (tgt := 142) hx hb dX13_laws_137 (by decide) (fun c_75 => ?_) (fun c_75 => ?_)
      · rw [if_neg c_75] at hF
        refine lv_aload_n hx hb dX13_laws_142 rfl (lv_at hl 0 rfl) ?_
        refine mg_53 hC hH dX13_laws_143 ?_
        obtain ⟨x_76, e_77, hF⟩ := puf_some hF
        refine gx_ti e_77 ?_
        refine lv_sipush (v := 500) hx hb dX13_laws_146 (by decide) ?_
        refine lv_icmp_ne (tgt := 155) hx hb dX13_laws_149 (by decide) (fun c_78 => ?_) (fun c_78 => ?_)
        · rw [if_neg c_78] at hF
          refine lv_aload_n hx hb dX13_laws_155 rfl (lv_at hl 0 rfl) ?_
          refine lv_dup hx hb dX13_laws_156 rfl ?_
          refine mg_55 hC hH dX13_laws_157 ?_
          obtain ⟨x_79, e_80, hF⟩ := puf_some hF
          refine gx_ti e_80 ?_
          refine lv_iload_n hx hb dX13_laws_160 rfl (lv_at hl 3 rfl) ?_
          refine lv_iadd hx hb dX13_laws_161 ?_
          obtain ⟨u_81, e_82, hF⟩ := pwf_some hF
          refine mp_55 hC hH e_82 dX13_laws_162 (fun H locs hH => ?_)
          refine lv_aload_n hx hb dX13_laws_165 rfl (lv_at hl 0 rfl) ?_
          refine lv_iconst (v := 0) hx hb dX13_laws_166 (by decide) ?_
          refine lv_iload hx hb dX13_laws_167 (lv_at hl 4 rfl) ?_
          refine lv_iload_n hx hb dX13_laws_169 rfl (lv_at hl 3 rfl) ?_
          refine lv_iconst (v := 0) hx hb dX13_laws_170 (by decide) ?_
          obtain ⟨r_83, u_84, h_85, hF⟩ := pcl_some hF
          refine mcV_i (As := [.int 0, .int v4, .int v3, .int 0]) (rest := []) hC hH (m_act l G Z Q u_81 u_84 r_83 0 v4 v3 0 _ h_85) kwX13_act kVX13_act ⟨Nat.le_of_ble_eq_true rfl, Nat.le_of_ble_eq_true rfl⟩ rfl hl.1 rfl (Nat.le_of_ble_eq_true rfl) dX13_laws_171 (fun H locs hH => ?_)
          have hF := prt_eq hF
          exact mr_i hC hH hr hF dX13_laws_174 hlocks
        · rw [if_pos c_78] at hF
          refine lv_bipush (v := (-4)) hx hb dX13_laws_152 (by decide) ?_
          have hF := prt_eq hF
          exact mr_i hC hH hr hF dX13_laws_154 hlocks
      · rw [if_pos c_75] at hF
        refine lv_iconst (v := (-1)) hx hb dX13_laws_140 (by decide) ?_
        have hF := prt_eq hF
        exact mr_i hC hH hr hF dX13_laws_141 hlocks
  · rw [if_neg c_21] at hF
    refine lv_bipush (v := (-3)) hx hb dX13_laws_60 (by decide) ?_
    have hF := prt_eq hF
    exact mr_i hC hH hr hF dX13_laws_62 hlocks
def lp_limit_54 : Nat → Int32 → Int32 → Int32 → Int32 → Int32 → (Int32 → Int32 → Int32 → Int32 → Int32 → PG (Int32)) → PG (Int32)
  | 0, _, _, _, _, _, _ => fun _ => none
  | n54 + 1, v1, v2, v3, v4, v5, K54_102 => prf 2 (fun x_17 => (if x_17 ≤ v5 then K54_102 v1 v2 v3 v4 v5 else (if v4 = 0 then prd 5 96 v5 (fun x_23 => (if x_23 = v1 then prd 8 96 v5 (fun x_29 => (if x_29 = 0 then pli (v5 + 1) (fun x_33 => lp_limit_54 n54 v1 v2 v3 0 x_33 K54_102) else pli (v5 + 1) (fun x_35 => lp_limit_54 n54 v1 v2 v3 1 x_35 K54_102))) else pli (v5 + 1) (fun x_27 => lp_limit_54 n54 v1 v2 v3 0 x_27 K54_102))) else pli (v5 + 1) (fun x_21 => lp_limit_54 n54 v1 v2 v3 1 x_21 K54_102))))
def f_limit (a0 : Int32) (a1 : Int32) (a2 : Int32) : PG (Int32) := pcl (f_isClass a0) (fun r_1 => (if r_1 = 0 then prt (-2) else pcl (f_in a1.toInt64 0 200000) (fun r_5 => (if r_5 = 0 then prt (-2) else pcl (f_in a2.toInt64 a1.toInt64 200000) (fun r_9 => (if r_9 = 0 then prt (-2) else prd 12 4 a0 (fun x_13 => (if x_13 = 0 then lp_limit_54 fuel a0 a1 a2 0 0 (fun v1 v2 v3 v4 v5 => (if v4 = 0 then pcl (f_act 1 v1 v2 v3) (fun r_38 => prt r_38) else prt (-3))) else lp_limit_54 fuel a0 a1 a2 1 0 (fun v1 v2 v3 v4 v5 => (if v4 = 0 then pcl (f_act 1 v1 v2 v3) (fun r_62 => prt r_62) else prt (-3)))))))))))
set_option maxHeartbeats 4000000 in
set_option maxRecDepth 100000 in
theorem m_limit (l : Launch) (G : gG) (Z : gM) (Q : Nat → Nat) (u u1 : GS) (r : Int32) (a0 : Int32) (a1 : Int32) (a2 : Int32) (sz : Nat) (hF : f_limit a0 a1 a2 u = some (r, u1)) : Met l yX13_limit (Cond.code yX13_limit cX13_limit 6 (some .int) :: wM) { frames := 409, cells := 0, slots := 0, locals := 4996 } (va_Pc [.ref (Q 72), .int a0, .int a1, .int a2] (mPM G Z Q u.1 sz)) (mQi G Q u1.1 r sz) 0 0 (mA Q sz) := by
  refine Met.ofW (cc := cX13_limit) (maxL := 6) (ret := (some .int)) (by decide) rfl ?_
  intro p e s m args below meth c s₁ B hml hv
  obtain ⟨rfl, rfl, hP, hB, hD, hE⟩ := hv
  have hr := B.returns
  have hlocks := B.notSynchronized
  have hts := atoms_spec (ws := Cond.code yX13_limit cX13_limit 6 (some .int) :: wM) B.pre
  have hC : mX p c cX13_limit 6 s m _ G Z Q := ⟨B.exec, B.bytes, hml, findClass_of_methodNamed B.named, fun w h => hts w (List.mem_cons_of_mem _ h), hB, hE⟩
  have hx := hC.1
  have hb := hC.2.1
  have hH : mH G Q u.1 s s.heap [] := ⟨hP, hD, va_S.rf⟩
  have hl := lv_entry ([.ref (Q 72), .int a0, .int a1, .int a2]) (n := 6) (Nat.le_of_ble_eq_true rfl)
  rw [lg_entry_eq]
  generalize (lg_sl ([.ref (Q 72), .int a0, .int a1, .int a2]) ++ List.replicate (6 - (lg_sl ([.ref (Q 72), .int a0, .int a1, .int a2])).length) Slot.unset).toArray = ls at hl ⊢
  have hl : lv_has ls 6 [(0, .ref (Q 72)), (1, .int a0), (2, .int a1), (3, .int a2)] := hl
  unfold f_limit at hF
  refine lv_iload_n hx hb dX13_limit_0 rfl (lv_at hl 1 rfl) ?_
  obtain ⟨r_1, u_2, h_3, hF⟩ := pcl_some hF
  refine mcS_i (As := [.int a0]) (rest := []) hC hH (m_isClass l G Z Q u u_2 r_1 a0 _ h_3) kwX13_isClass kVX13_isClass ⟨Nat.le_of_ble_eq_true rfl, Nat.le_of_ble_eq_true rfl⟩ rfl hl.1 rfl (Nat.le_of_ble_eq_true rfl) dX13_limit_1 (fun H locs hH => ?_)
  refine lv_if_eq (tgt := 32) hx hb dX13_limit_4 (by decide) (fun c_4 => ?_) (fun c_4 => ?_)
  · rw [if_pos c_4] at hF
    refine lv_bipush (v := (-2)) hx hb dX13_limit_32 (by decide) ?_
    have hF := prt_eq hF
    exact mr_i hC hH hr hF dX13_limit_34 hlocks
  · rw [if_neg c_4] at hF
    refine lv_iload_n hx hb dX13_limit_7 rfl (lv_at hl 2 rfl) ?_
    refine lv_i2l (v := a1.toInt64) hx hb dX13_limit_8 rfl ?_
    refine lv_lconst (v := 0) hx hb dX13_limit_9 (by decide) ?_
    refine lv_ldc2 (v := 200000) hx hb hC.2.2.2.1 (hC.2.2.2.2.1 _ wma142) dX13_limit_10 ?_
    obtain ⟨r_5, u_6, h_7, hF⟩ := pcl_some hF
    refine mcS_i (As := [.long a1.toInt64, .long 0, .long 200000]) (rest := []) hC hH (m_in l G Z Q u_2 u_6 r_5 a1.toInt64 0 200000 _ h_7) kwX13_in kVX13_in ⟨Nat.le_of_ble_eq_true rfl, Nat.le_of_ble_eq_true rfl⟩ rfl hl.1 rfl (Nat.le_of_ble_eq_true rfl) dX13_limit_13 (fun H locs hH => ?_)
    refine lv_if_eq (tgt := 32) hx hb dX13_limit_16 (by decide) (fun c_8 => ?_) (fun c_8 => ?_)
    · rw [if_pos c_8] at hF
      refine lv_bipush (v := (-2)) hx hb dX13_limit_32 (by decide) ?_
      have hF := prt_eq hF
      exact mr_i hC hH hr hF dX13_limit_34 hlocks
    · rw [if_neg c_8] at hF
      refine lv_iload_n hx hb dX13_limit_19 rfl (lv_at hl 3 rfl) ?_
      refine lv_i2l (v := a2.toInt64) hx hb dX13_limit_20 rfl ?_
      refine lv_iload_n hx hb dX13_limit_21 rfl (lv_at hl 2 rfl) ?_
      refine lv_i2l (v := a1.toInt64) hx hb dX13_limit_22 rfl ?_
      refine lv_ldc2 (v := 200000) hx hb hC.2.2.2.1 (hC.2.2.2.2.1 _ wma142) dX13_limit_23 ?_
      obtain ⟨r_9, u_10, h_11, hF⟩ := pcl_some hF
      refine mcS_i (As := [.long a2.toInt64, .long a1.toInt64, .long 200000]) (rest := []) hC hH (m_in l G Z Q u_6 u_10 r_9 a2.toInt64 a1.toInt64 200000 _ h_11) kwX13_in kVX13_in ⟨Nat.le_of_ble_eq_true rfl, Nat.le_of_ble_eq_true rfl⟩ rfl hl.1 rfl (Nat.le_of_ble_eq_true rfl) dX13_limit_26 (fun H locs hH => ?_)
      refine lv_if_ne (tgt := 35) hx hb dX13_limit_29 (by decide) (fun c_12 => ?_) (fun c_12 => ?_)
      · rw [if_neg c_12] at hF
        refine lv_aload_n hx hb dX13_limit_35 rfl (lv_at hl 0 rfl) ?_
        refine mg_12 hC hH dX13_limit_36 ?_
        refine lv_iload_n hx hb dX13_limit_39 rfl (lv_at hl 1 rfl) ?_
        obtain ⟨x_13, g_14, e_15, hF⟩ := prd_some hF
        refine ml_12 hC hH g_14 dX13_limit_40 ?_
        refine gx_ti e_15 ?_
        refine lv_if_eq (tgt := 48) hx hb dX13_limit_41 (by decide) (fun c_16 => ?_) (fun c_16 => ?_)
        · rw [if_pos c_16] at hF
          refine lv_iconst (v := 0) hx hb dX13_limit_48 (by decide) ?_
          refine lv_istore (lv' := [(4, .int 0), (0, .ref (Q 72)), (1, .int a0), (2, .int a1), (3, .int a2)]) hx hb dX13_limit_49 hl (by decide) rfl (fun ls hl => ?_)
          refine lv_iconst (v := 0) hx hb dX13_limit_51 (by decide) ?_
          refine lv_istore (lv' := [(5, .int 0), (4, .int 0), (0, .ref (Q 72)), (1, .int a0), (2, .int a1), (3, .int a2)]) hx hb dX13_limit_52 hl (by decide) rfl (fun ls hl => ?_)
          have hL54 : ∀ (K54_102 : Int32 → Int32 → Int32 → Int32 → Int32 → PG (Int32)), (∀ (v1 v2 v3 v4 v5 : Int32) (u : GS) (H : Heap) (locs : List Loc) (ls : Array Slot), lv_has ls 6 [(0, .ref (Q 72)), (1, .int v1), (2, .int v2), (3, .int v3), (4, .int v4), (5, .int v5)] → mH G Q u.1 s H locs → K54_102 v1 v2 v3 v4 v5 u = some ((r, u1)) → W p l e (headSpec (Cond.code yX13_limit cX13_limit 6 (some .int) :: wM) { frames := 409, cells := 0, slots := 0, locals := 4996 }).room s m [.ref (Q 72), .int a0, .int a1, .int a2].toArray below meth c H locs 0 0 (MQ below (mQi G Q u1.1 r s.heap.size) [.ref (Q 72), .int a0, .int a1, .int a2].toArray s 0 0 (mA Q s.heap.size)) (F0 m 102 ls [])) → ∀ (n54 : Nat) (v1 v2 v3 v4 v5 : Int32) (u : GS) (H : Heap) (locs : List Loc) (ls : Array Slot), lv_has ls 6 [(0, .ref (Q 72)), (1, .int v1), (2, .int v2), (3, .int v3), (4, .int v4), (5, .int v5)] → mH G Q u.1 s H locs → lp_limit_54 n54 v1 v2 v3 v4 v5 K54_102 u = some ((r, u1)) → W p l e (headSpec (Cond.code yX13_limit cX13_limit 6 (some .int) :: wM) { frames := 409, cells := 0, slots := 0, locals := 4996 }).room s m [.ref (Q 72), .int a0, .int a1, .int a2].toArray below meth c H locs 0 0 (MQ below (mQi G Q u1.1 r s.heap.size) [.ref (Q 72), .int a0, .int a1, .int a2].toArray s 0 0 (mA Q s.heap.size)) (F0 m 54 ls []) := by
            intro K54_102 hK54_102 n54
            induction n54 with
            | zero => intro v1 v2 v3 v4 v5 u H locs ls hl hH hF; cases hF
            | succ n54 ih54 =>
              intro v1 v2 v3 v4 v5 u H locs ls hl hH hF
              unfold lp_limit_54 at hF
              refine lv_iload hx hb dX13_limit_54 (lv_at hl 5 rfl) ?_
              refine lv_aload_n hx hb dX13_limit_56 rfl (lv_at hl 0 rfl) ?_
              refine mg_2 hC hH dX13_limit_57 ?_
              obtain ⟨x_17, e_18, hF⟩ := prf_some hF
              refine gx_ti e_18 ?_
              refine lv_icmp_ge (tgt := 102) hx hb dX13_limit_60 (by decide) (fun c_19 => ?_) (fun c_19 => ?_)
              · rw [if_pos c_19] at hF
                exact hK54_102 v1 v2 v3 v4 v5 u _ _ _ (lv_sub hl [0, 1, 2, 3, 4, 5] rfl) hH hF
              · rw [if_neg c_19] at hF
                refine lv_iload hx hb dX13_limit_63 (lv_at hl 4 rfl) ?_
                refine lv_if_ne (tgt := 89) hx hb dX13_limit_65 (by decide) (fun c_20 => ?_) (fun c_20 => ?_)
                · rw [if_neg c_20] at hF
                  refine lv_iconst (v := 1) hx hb dX13_limit_89 (by decide) ?_
                  refine lv_goto (tgt := 94) hx hb dX13_limit_90 (by decide) ?_
                  refine lv_istore (lv' := [(4, .int 1), (0, .ref (Q 72)), (1, .int v1), (2, .int v2), (3, .int v3), (5, .int v5)]) hx hb dX13_limit_94 hl (by decide) rfl (fun ls hl => ?_)
                  obtain ⟨x_21, e_22, hF⟩ := pli_some hF
                  refine lv_iinc (v := x_21) (lv' := [(5, .int x_21), (4, .int 1), (0, .ref (Q 72)), (1, .int v1), (2, .int v2), (3, .int v3)]) hx hb dX13_limit_96 hl (k := 5) rfl e_22 (by decide) rfl (fun ls hl => ?_)
                  refine lv_goto (tgt := 54) hx hb dX13_limit_99 (by decide) ?_
                  exact ih54 v1 v2 v3 1 x_21 u _ _ _ (lv_sub hl [2, 3, 4, 5, 1, 0] rfl) hH hF
                · rw [if_pos c_20] at hF
                  refine lv_aload_n hx hb dX13_limit_68 rfl (lv_at hl 0 rfl) ?_
                  refine mg_5 hC hH dX13_limit_69 ?_
                  refine lv_iload hx hb dX13_limit_72 (lv_at hl 5 rfl) ?_
                  obtain ⟨x_23, g_24, e_25, hF⟩ := prd_some hF
                  refine ml_5 hC hH g_24 dX13_limit_74 ?_
                  refine gx_ti e_25 ?_
                  refine lv_iload_n hx hb dX13_limit_75 rfl (lv_at hl 1 rfl) ?_
                  refine lv_icmp_ne (tgt := 93) hx hb dX13_limit_76 (by decide) (fun c_26 => ?_) (fun c_26 => ?_)
                  · rw [if_neg c_26] at hF
                    refine lv_iconst (v := 0) hx hb dX13_limit_93 (by decide) ?_
                    refine lv_istore (lv' := [(4, .int 0), (0, .ref (Q 72)), (1, .int v1), (2, .int v2), (3, .int v3), (5, .int v5)]) hx hb dX13_limit_94 hl (by decide) rfl (fun ls hl => ?_)
                    obtain ⟨x_27, e_28, hF⟩ := pli_some hF
                    refine lv_iinc (v := x_27) (lv' := [(5, .int x_27), (4, .int 0), (0, .ref (Q 72)), (1, .int v1), (2, .int v2), (3, .int v3)]) hx hb dX13_limit_96 hl (k := 5) rfl e_28 (by decide) rfl (fun ls hl => ?_)
                    refine lv_goto (tgt := 54) hx hb dX13_limit_99 (by decide) ?_
                    exact ih54 v1 v2 v3 0 x_27 u _ _ _ (lv_sub hl [2, 3, 4, 5, 1, 0] rfl) hH hF
                  · rw [if_pos c_26] at hF
                    refine lv_aload_n hx hb dX13_limit_79 rfl (lv_at hl 0 rfl) ?_
                    refine mg_8 hC hH dX13_limit_80 ?_
                    refine lv_iload hx hb dX13_limit_83 (lv_at hl 5 rfl) ?_
                    obtain ⟨x_29, g_30, e_31, hF⟩ := prd_some hF
                    refine ml_8 hC hH g_30 dX13_limit_85 ?_
                    refine gx_ti e_31 ?_
                    refine lv_if_eq (tgt := 93) hx hb dX13_limit_86 (by decide) (fun c_32 => ?_) (fun c_32 => ?_)
                    · rw [if_pos c_32] at hF
                      refine lv_iconst (v := 0) hx hb dX13_limit_93 (by decide) ?_
                      refine lv_istore (lv' := [(4, .int 0), (0, .ref (Q 72)), (1, .int v1), (2, .int v2), (3, .int v3), (5, .int v5)]) hx hb dX13_limit_94 hl (by decide) rfl (fun ls hl => ?_)
                      obtain ⟨x_33, e_34, hF⟩ := pli_some hF
                      refine lv_iinc (v := x_33) (lv' := [(5, .int x_33), (4, .int 0), (0, .ref (Q 72)), (1, .int v1), (2, .int v2), (3, .int v3)]) hx hb dX13_limit_96 hl (k := 5) rfl e_34 (by decide) rfl (fun ls hl => ?_)
                      refine lv_goto (tgt := 54) hx hb dX13_limit_99 (by decide) ?_
                      exact ih54 v1 v2 v3 0 x_33 u _ _ _ (lv_sub hl [2, 3, 4, 5, 1, 0] rfl) hH hF
                    · rw [if_neg c_32] at hF
                      refine lv_iconst (v := 1) hx hb dX13_limit_89 (by decide) ?_
                      refine lv_goto (tgt := 94) hx hb dX13_limit_90 (by decide) ?_
                      refine lv_istore (lv' := [(4, .int 1), (0, .ref (Q 72)), (1, .int v1), (2, .int v2), (3, .int v3), (5, .int v5)]) hx hb dX13_limit_94 hl (by decide) rfl (fun ls hl => ?_)
                      obtain ⟨x_35, e_36, hF⟩ := pli_some hF
                      refine lv_iinc (v := x_35) (lv' := [(5, .int x_35), (4, .int 1), (0, .ref (Q 72)), (1, .int v1), (2, .int v2), (3, .int v3)]) hx hb dX13_limit_96 hl (k := 5) rfl e_36 (by decide) rfl (fun ls hl => ?_)
                      refine lv_goto (tgt := 54) hx hb dX13_limit_99 (by decide) ?_
                      exact ih54 v1 v2 v3 1 x_35 u _ _ _ (lv_sub hl [2, 3, 4, 5, 1, 0] rfl) hH hF
          refine hL54 _ (fun v1 v2 v3 v4 v5 u H locs ls hl hH hF => ?_) fuel a0 a1 a2 0 0 u_10 _ _ _ (lv_sub hl [2, 3, 4, 5, 1, 0] rfl) hH hF
          refine lv_iload hx hb dX13_limit_102 (lv_at hl 4 rfl) ?_
          refine lv_if_eq (tgt := 112) hx hb dX13_limit_104 (by decide) (fun c_37 => ?_) (fun c_37 => ?_)
          · rw [if_pos c_37] at hF
            refine lv_aload_n hx hb dX13_limit_112 rfl (lv_at hl 0 rfl) ?_
            refine lv_iconst (v := 1) hx hb dX13_limit_113 (by decide) ?_
            refine lv_iload_n hx hb dX13_limit_114 rfl (lv_at hl 1 rfl) ?_
            refine lv_iload_n hx hb dX13_limit_115 rfl (lv_at hl 2 rfl) ?_
            refine lv_iload_n hx hb dX13_limit_116 rfl (lv_at hl 3 rfl) ?_
            obtain ⟨r_38, u_39, h_40, hF⟩ := pcl_some hF
            refine mcV_i (As := [.int 1, .int v1, .int v2, .int v3]) (rest := []) hC hH (m_act l G Z Q u u_39 r_38 1 v1 v2 v3 _ h_40) kwX13_act kVX13_act ⟨Nat.le_of_ble_eq_true rfl, Nat.le_of_ble_eq_true rfl⟩ rfl hl.1 rfl (Nat.le_of_ble_eq_true rfl) dX13_limit_117 (fun H locs hH => ?_)
            have hF := prt_eq hF
            exact mr_i hC hH hr hF dX13_limit_120 hlocks
          · rw [if_neg c_37] at hF
            refine lv_bipush (v := (-3)) hx hb dX13_limit_107 (by decide) ?_
            refine lv_goto (tgt := 120) hx hb dX13_limit_109 (by decide) ?_
            have hF := prt_eq hF
            exact mr_i hC hH hr hF dX13_limit_120 hlocks
        · rw [if_neg c_16] at hF
          refine lv_iconst (v := 1) hx hb dX13_limit_44 (by decide) ?_
          refine lv_goto (tgt := 49) hx hb dX13_limit_45 (by decide) ?_
          refine lv_istore (lv' := [(4, .int 1), (0, .ref (Q 72)), (1, .int a0), (2, .int a1), (3, .int a2)]) hx hb dX13_limit_49 hl (by decide) rfl (fun ls hl => ?_)
          refine lv_iconst (v := 0) hx hb dX13_limit_51 (by decide) ?_
          refine lv_istore (lv' := [(5, .int 0), (4, .int 1), (0, .ref (Q 72)), (1, .int a0), (2, .int a1), (3, .int a2)]) hx hb dX13_limit_52 hl (by decide) rfl (fun ls hl => ?_)
          have hL54 : ∀ (K54_102 : Int32 → Int32 → Int32 → Int32 → Int32 → PG (Int32)), (∀ (v1 v2 v3 v4 v5 : Int32) (u : GS) (H : Heap) (locs : List Loc) (ls : Array Slot), lv_has ls 6 [(0, .ref (Q 72)), (1, .int v1), (2, .int v2), (3, .int v3), (4, .int v4), (5, .int v5)] → mH G Q u.1 s H locs → K54_102 v1 v2 v3 v4 v5 u = some ((r, u1)) → W p l e (headSpec (Cond.code yX13_limit cX13_limit 6 (some .int) :: wM) { frames := 409, cells := 0, slots := 0, locals := 4996 }).room s m [.ref (Q 72), .int a0, .int a1, .int a2].toArray below meth c H locs 0 0 (MQ below (mQi G Q u1.1 r s.heap.size) [.ref (Q 72), .int a0, .int a1, .int a2].toArray s 0 0 (mA Q s.heap.size)) (F0 m 102 ls [])) → ∀ (n54 : Nat) (v1 v2 v3 v4 v5 : Int32) (u : GS) (H : Heap) (locs : List Loc) (ls : Array Slot), lv_has ls 6 [(0, .ref (Q 72)), (1, .int v1), (2, .int v2), (3, .int v3), (4, .int v4), (5, .int v5)] → mH G Q u.1 s H locs → lp_limit_54 n54 v1 v2 v3 v4 v5 K54_102 u = some ((r, u1)) → W p l e (headSpec (Cond.code yX13_limit cX13_limit 6 (some .int) :: wM) { frames := 409, cells := 0, slots := 0, locals := 4996 }).room s m [.ref (Q 72), .int a0, .int a1, .int a2].toArray below meth c H locs 0 0 (MQ below (mQi G Q u1.1 r s.heap.size) [.ref (Q 72), .int a0, .int a1, .int a2].toArray s 0 0 (mA Q s.heap.size)) (F0 m 54 ls []) := by
            intro K54_102 hK54_102 n54
            induction n54 with
            | zero => intro v1 v2 v3 v4 v5 u H locs ls hl hH hF; cases hF
            | succ n54 ih54 =>
              intro v1 v2 v3 v4 v5 u H locs ls hl hH hF
              unfold lp_limit_54 at hF
              refine lv_iload hx hb dX13_limit_54 (lv_at hl 5 rfl) ?_
              refine lv_aload_n hx hb dX13_limit_56 rfl (lv_at hl 0 rfl) ?_
              refine mg_2 hC hH dX13_limit_57 ?_
              obtain ⟨x_41, e_42, hF⟩ := prf_some hF
              refine gx_ti e_42 ?_
              refine lv_icmp_ge (tgt := 102) hx hb dX13_limit_60 (by decide) (fun c_43 => ?_) (fun c_43 => ?_)
              · rw [if_pos c_43] at hF
                exact hK54_102 v1 v2 v3 v4 v5 u _ _ _ (lv_sub hl [0, 1, 2, 3, 4, 5] rfl) hH hF
              · rw [if_neg c_43] at hF
                refine lv_iload hx hb dX13_limit_63 (lv_at hl 4 rfl) ?_
                refine lv_if_ne (tgt := 89) hx hb dX13_limit_65 (by decide) (fun c_44 => ?_) (fun c_44 => ?_)
                · rw [if_neg c_44] at hF
                  refine lv_iconst (v := 1) hx hb dX13_limit_89 (by decide) ?_
                  refine lv_goto (tgt := 94) hx hb dX13_limit_90 (by decide) ?_
                  refine lv_istore (lv' := [(4, .int 1), (0, .ref (Q 72)), (1, .int v1), (2, .int v2), (3, .int v3), (5, .int v5)]) hx hb dX13_limit_94 hl (by decide) rfl (fun ls hl => ?_)
                  obtain ⟨x_45, e_46, hF⟩ := pli_some hF
                  refine lv_iinc (v := x_45) (lv' := [(5, .int x_45), (4, .int 1), (0, .ref (Q 72)), (1, .int v1), (2, .int v2), (3, .int v3)]) hx hb dX13_limit_96 hl (k := 5) rfl e_46 (by decide) rfl (fun ls hl => ?_)
                  refine lv_goto (tgt := 54) hx hb dX13_limit_99 (by decide) ?_
                  exact ih54 v1 v2 v3 1 x_45 u _ _ _ (lv_sub hl [2, 3, 4, 5, 1, 0] rfl) hH hF
                · rw [if_pos c_44] at hF
                  refine lv_aload_n hx hb dX13_limit_68 rfl (lv_at hl 0 rfl) ?_
                  refine mg_5 hC hH dX13_limit_69 ?_
                  refine lv_iload hx hb dX13_limit_72 (lv_at hl 5 rfl) ?_
                  obtain ⟨x_47, g_48, e_49, hF⟩ := prd_some hF
                  refine ml_5 hC hH g_48 dX13_limit_74 ?_
                  refine gx_ti e_49 ?_
                  refine lv_iload_n hx hb dX13_limit_75 rfl (lv_at hl 1 rfl) ?_
                  refine lv_icmp_ne (tgt := 93) hx hb dX13_limit_76 (by decide) (fun c_50 => ?_) (fun c_50 => ?_)
                  · rw [if_neg c_50] at hF
                    refine lv_iconst (v := 0) hx hb dX13_limit_93 (by decide) ?_
                    refine lv_istore (lv' := [(4, .int 0), (0, .ref (Q 72)), (1, .int v1), (2, .int v2), (3, .int v3), (5, .int v5)]) hx hb dX13_limit_94 hl (by decide) rfl (fun ls hl => ?_)
                    obtain ⟨x_51, e_52, hF⟩ := pli_some hF
                    refine lv_iinc (v := x_51) (lv' := [(5, .int x_51), (4, .int 0), (0, .ref (Q 72)), (1, .int v1), (2, .int v2), (3, .int v3)]) hx hb dX13_limit_96 hl (k := 5) rfl e_52 (by decide) rfl (fun ls hl => ?_)
                    refine lv_goto (tgt := 54) hx hb dX13_limit_99 (by decide) ?_
                    exact ih54 v1 v2 v3 0 x_51 u _ _ _ (lv_sub hl [2, 3, 4, 5, 1, 0] rfl) hH hF
                  · rw [if_pos c_50] at hF
                    refine lv_aload_n hx hb dX13_limit_79 rfl (lv_at hl 0 rfl) ?_
                    refine mg_8 hC hH dX13_limit_80 ?_
                    refine lv_iload hx hb dX13_limit_83 (lv_at hl 5 rfl) ?_
                    obtain ⟨x_53, g_54, e_55, hF⟩ := prd_some hF
                    refine ml_8 hC hH g_54 dX13_limit_85 ?_
                    refine gx_ti e_55 ?_
                    refine lv_if_eq (tgt := 93) hx hb dX13_limit_86 (by decide) (fun c_56 => ?_) (fun c_56 => ?_)
                    · rw [if_pos c_56] at hF
                      refine lv_iconst (v := 0) hx hb dX13_limit_93 (by decide) ?_
                      refine lv_istore (lv' := [(4, .int 0), (0, .ref (Q 72)), (1, .int v1), (2, .int v2), (3, .int v3), (5, .int v5)]) hx hb dX13_limit_94 hl (by decide) rfl (fun ls hl => ?_)
                      obtain ⟨x_57, e_58, hF⟩ := pli_some hF
                      refine lv_iinc (v := x_57) (lv' := [(5, .int x_57), (4, .int 0), (0, .ref (Q 72)), (1, .int v1), (2, .int v2), (3, .int v3)]) hx hb dX13_limit_96 hl (k := 5) rfl e_58 (by decide) rfl (fun ls hl => ?_)
                      refine lv_goto (tgt := 54) hx hb dX13_limit_99 (by decide) ?_
                      exact ih54 v1 v2 v3 0 x_57 u _ _ _ (lv_sub hl [2, 3, 4, 5, 1, 0] rfl) hH hF
                    · rw [if_neg c_56] at hF
                      refine lv_iconst (v := 1) hx hb dX13_limit_89 (by decide) ?_
                      refine lv_goto (tgt := 94) hx hb dX13_limit_90 (by decide) ?_
                      refine lv_istore (lv' := [(4, .int 1), (0, .ref (Q 72)), (1, .int v1), (2, .int v2), (3, .int v3), (5, .int v5)]) hx hb dX13_limit_94 hl (by decide) rfl (fun ls hl => ?_)
                      obtain ⟨x_59, e_60, hF⟩ := pli_some hF
                      refine lv_iinc (v := x_59) (lv' := [(5, .int x_59), (4, .int 1), (0, .ref (Q 72)), (1, .int v1), (2, .int v2), (3, .int v3)]) hx hb dX13_limit_96 hl (k := 5) rfl e_60 (by decide) rfl (fun ls hl => ?_)
                      refine lv_goto (tgt := 54) hx hb dX13_limit_99 (by decide) ?_
                      exact ih54 v1 v2 v3 1 x_59 u _ _ _ (lv_sub hl [2, 3, 4, 5, 1, 0] rfl) hH hF
          refine hL54 _ (fun v1 v2 v3 v4 v5 u H locs ls hl hH hF => ?_) fuel a0 a1 a2 1 0 u_10 _ _ _ (lv_sub hl [2, 3, 4, 5, 1, 0] rfl) hH hF
          refine lv_iload hx hb dX13_limit_102 (lv_at hl 4 rfl) ?_
          refine lv_if_eq (tgt := 112) hx hb dX13_limit_104 (by decide) (fun c_61 => ?_) (fun c_61 => ?_)
          · rw [if_pos c_61] at hF
            refine lv_aload_n hx hb dX13_limit_112 rfl (lv_at hl 0 rfl) ?_
            refine lv_iconst (v := 1) hx hb dX13_limit_113 (by decide) ?_
            refine lv_iload_n hx hb dX13_limit_114 rfl (lv_at hl 1 rfl) ?_
            refine lv_iload_n hx hb dX13_limit_115 rfl (lv_at hl 2 rfl) ?_
            refine lv_iload_n hx hb dX13_limit_116 rfl (lv_at hl 3 rfl) ?_
            obtain ⟨r_62, u_63, h_64, hF⟩ := pcl_some hF
            refine mcV_i (As := [.int 1, .int v1, .int v2, .int v3]) (rest := []) hC hH (m_act l G Z Q u u_63 r_62 1 v1 v2 v3 _ h_64) kwX13_act kVX13_act ⟨Nat.le_of_ble_eq_true rfl, Nat.le_of_ble_eq_true rfl⟩ rfl hl.1 rfl (Nat.le_of_ble_eq_true rfl) dX13_limit_117 (fun H locs hH => ?_)
            have hF := prt_eq hF
            exact mr_i hC hH hr hF dX13_limit_120 hlocks
          · rw [if_neg c_61] at hF
            refine lv_bipush (v := (-3)) hx hb dX13_limit_107 (by decide) ?_
            refine lv_goto (tgt := 120) hx hb dX13_limit_109 (by decide) ?_
            have hF := prt_eq hF
            exact mr_i hC hH hr hF dX13_limit_120 hlocks
      · rw [if_pos c_12] at hF
        refine lv_bipush (v := (-2)) hx hb dX13_limit_32 (by decide) ?_
        have hF := prt_eq hF
        exact mr_i hC hH hr hF dX13_limit_34 hlocks
def f_enter (a0 : Int32) (a1 : Int32) : PG (Int32) := pcl (f_in a0.toInt64 0 15) (fun r_1 => (if r_1 = 0 then prt (-2) else pcl (f_isClass a1) (fun r_5 => (if r_5 = 0 then prt (-2) else prd 12 4 a1 (fun x_9 => (if x_9 = 0 then prf 2 (fun x_13 => (if x_13 = 96 then prt (-4) else pcl (f_act 2 a0 a1 0) (fun r_16 => prt r_16))) else prt (-3)))))))
set_option maxHeartbeats 4000000 in
set_option maxRecDepth 100000 in
theorem m_enter (l : Launch) (G : gG) (Z : gM) (Q : Nat → Nat) (u u1 : GS) (r : Int32) (a0 : Int32) (a1 : Int32) (sz : Nat) (hF : f_enter a0 a1 u = some (r, u1)) : Met l yX13_enter (Cond.code yX13_enter cX13_enter 3 (some .int) :: wM) { frames := 409, cells := 0, slots := 0, locals := 4996 } (va_Pc [.ref (Q 72), .int a0, .int a1] (mPM G Z Q u.1 sz)) (mQi G Q u1.1 r sz) 0 0 (mA Q sz) := by
  refine Met.ofW (cc := cX13_enter) (maxL := 3) (ret := (some .int)) (by decide) rfl ?_
  intro p e s m args below meth c s₁ B hml hv
  obtain ⟨rfl, rfl, hP, hB, hD, hE⟩ := hv
  have hr := B.returns
  have hlocks := B.notSynchronized
  have hts := atoms_spec (ws := Cond.code yX13_enter cX13_enter 3 (some .int) :: wM) B.pre
  have hC : mX p c cX13_enter 3 s m _ G Z Q := ⟨B.exec, B.bytes, hml, findClass_of_methodNamed B.named, fun w h => hts w (List.mem_cons_of_mem _ h), hB, hE⟩
  have hx := hC.1
  have hb := hC.2.1
  have hH : mH G Q u.1 s s.heap [] := ⟨hP, hD, va_S.rf⟩
  have hl := lv_entry ([.ref (Q 72), .int a0, .int a1]) (n := 3) (Nat.le_of_ble_eq_true rfl)
  rw [lg_entry_eq]
  generalize (lg_sl ([.ref (Q 72), .int a0, .int a1]) ++ List.replicate (3 - (lg_sl ([.ref (Q 72), .int a0, .int a1])).length) Slot.unset).toArray = ls at hl ⊢
  have hl : lv_has ls 3 [(0, .ref (Q 72)), (1, .int a0), (2, .int a1)] := hl
  unfold f_enter at hF
  refine lv_iload_n hx hb dX13_enter_0 rfl (lv_at hl 1 rfl) ?_
  refine lv_i2l (v := a0.toInt64) hx hb dX13_enter_1 rfl ?_
  refine lv_lconst (v := 0) hx hb dX13_enter_2 (by decide) ?_
  refine lv_ldc2 (v := 15) hx hb hC.2.2.2.1 (hC.2.2.2.2.1 _ wma143) dX13_enter_3 ?_
  obtain ⟨r_1, u_2, h_3, hF⟩ := pcl_some hF
  refine mcS_i (As := [.long a0.toInt64, .long 0, .long 15]) (rest := []) hC hH (m_in l G Z Q u u_2 r_1 a0.toInt64 0 15 _ h_3) kwX13_in kVX13_in ⟨Nat.le_of_ble_eq_true rfl, Nat.le_of_ble_eq_true rfl⟩ rfl hl.1 rfl (Nat.le_of_ble_eq_true rfl) dX13_enter_6 (fun H locs hH => ?_)
  refine lv_if_eq (tgt := 19) hx hb dX13_enter_9 (by decide) (fun c_4 => ?_) (fun c_4 => ?_)
  · rw [if_pos c_4] at hF
    refine lv_bipush (v := (-2)) hx hb dX13_enter_19 (by decide) ?_
    have hF := prt_eq hF
    exact mr_i hC hH hr hF dX13_enter_21 hlocks
  · rw [if_neg c_4] at hF
    refine lv_iload_n hx hb dX13_enter_12 rfl (lv_at hl 2 rfl) ?_
    obtain ⟨r_5, u_6, h_7, hF⟩ := pcl_some hF
    refine mcS_i (As := [.int a1]) (rest := []) hC hH (m_isClass l G Z Q u_2 u_6 r_5 a1 _ h_7) kwX13_isClass kVX13_isClass ⟨Nat.le_of_ble_eq_true rfl, Nat.le_of_ble_eq_true rfl⟩ rfl hl.1 rfl (Nat.le_of_ble_eq_true rfl) dX13_enter_13 (fun H locs hH => ?_)
    refine lv_if_ne (tgt := 22) hx hb dX13_enter_16 (by decide) (fun c_8 => ?_) (fun c_8 => ?_)
    · rw [if_neg c_8] at hF
      refine lv_aload_n hx hb dX13_enter_22 rfl (lv_at hl 0 rfl) ?_
      refine mg_12 hC hH dX13_enter_23 ?_
      refine lv_iload_n hx hb dX13_enter_26 rfl (lv_at hl 2 rfl) ?_
      obtain ⟨x_9, g_10, e_11, hF⟩ := prd_some hF
      refine ml_12 hC hH g_10 dX13_enter_27 ?_
      refine gx_ti e_11 ?_
      refine lv_if_eq (tgt := 36) hx hb dX13_enter_28 (by decide) (fun c_12 => ?_) (fun c_12 => ?_)
      · rw [if_pos c_12] at hF
        refine lv_aload_n hx hb dX13_enter_36 rfl (lv_at hl 0 rfl) ?_
        refine mg_2 hC hH dX13_enter_37 ?_
        obtain ⟨x_13, e_14, hF⟩ := prf_some hF
        refine gx_ti e_14 ?_
        refine lv_bipush (v := 96) hx hb dX13_enter_40 (by decide) ?_
        refine lv_icmp_ne (tgt := 50) hx hb dX13_enter_42 (by decide) (fun c_15 => ?_) (fun c_15 => ?_)
        · rw [if_neg c_15] at hF
          refine lv_aload_n hx hb dX13_enter_50 rfl (lv_at hl 0 rfl) ?_
          refine lv_iconst (v := 2) hx hb dX13_enter_51 (by decide) ?_
          refine lv_iload_n hx hb dX13_enter_52 rfl (lv_at hl 1 rfl) ?_
          refine lv_iload_n hx hb dX13_enter_53 rfl (lv_at hl 2 rfl) ?_
          refine lv_iconst (v := 0) hx hb dX13_enter_54 (by decide) ?_
          obtain ⟨r_16, u_17, h_18, hF⟩ := pcl_some hF
          refine mcV_i (As := [.int 2, .int a0, .int a1, .int 0]) (rest := []) hC hH (m_act l G Z Q u_6 u_17 r_16 2 a0 a1 0 _ h_18) kwX13_act kVX13_act ⟨Nat.le_of_ble_eq_true rfl, Nat.le_of_ble_eq_true rfl⟩ rfl hl.1 rfl (Nat.le_of_ble_eq_true rfl) dX13_enter_55 (fun H locs hH => ?_)
          have hF := prt_eq hF
          exact mr_i hC hH hr hF dX13_enter_58 hlocks
        · rw [if_pos c_15] at hF
          refine lv_bipush (v := (-4)) hx hb dX13_enter_45 (by decide) ?_
          refine lv_goto (tgt := 58) hx hb dX13_enter_47 (by decide) ?_
          have hF := prt_eq hF
          exact mr_i hC hH hr hF dX13_enter_58 hlocks
      · rw [if_neg c_12] at hF
        refine lv_bipush (v := (-3)) hx hb dX13_enter_31 (by decide) ?_
        refine lv_goto (tgt := 58) hx hb dX13_enter_33 (by decide) ?_
        have hF := prt_eq hF
        exact mr_i hC hH hr hF dX13_enter_58 hlocks
    · rw [if_pos c_8] at hF
      refine lv_bipush (v := (-2)) hx hb dX13_enter_19 (by decide) ?_
      have hF := prt_eq hF
      exact mr_i hC hH hr hF dX13_enter_21 hlocks
def f_weigh (a0 : Int32) (a1 : Int32) : PG (Int32) := pcl (f_isFighter a0) (fun r_1 => (if r_1 = 0 then prt (-2) else pcl (f_in a1.toInt64 0 200000) (fun r_5 => (if r_5 = 0 then prt (-2) else prd 5 96 a0 (fun x_9 => prd 12 4 x_9 (fun x_12 => (if x_12 = 0 then pcl (f_act 3 a0 a1 0) (fun r_16 => prt r_16) else prt (-3))))))))
set_option maxHeartbeats 4000000 in
set_option maxRecDepth 100000 in
theorem m_weigh (l : Launch) (G : gG) (Z : gM) (Q : Nat → Nat) (u u1 : GS) (r : Int32) (a0 : Int32) (a1 : Int32) (sz : Nat) (hF : f_weigh a0 a1 u = some (r, u1)) : Met l yX13_weigh (Cond.code yX13_weigh cX13_weigh 3 (some .int) :: wM) { frames := 409, cells := 0, slots := 0, locals := 4996 } (va_Pc [.ref (Q 72), .int a0, .int a1] (mPM G Z Q u.1 sz)) (mQi G Q u1.1 r sz) 0 0 (mA Q sz) := by
  refine Met.ofW (cc := cX13_weigh) (maxL := 3) (ret := (some .int)) (by decide) rfl ?_
  intro p e s m args below meth c s₁ B hml hv
  obtain ⟨rfl, rfl, hP, hB, hD, hE⟩ := hv
  have hr := B.returns
  have hlocks := B.notSynchronized
  have hts := atoms_spec (ws := Cond.code yX13_weigh cX13_weigh 3 (some .int) :: wM) B.pre
  have hC : mX p c cX13_weigh 3 s m _ G Z Q := ⟨B.exec, B.bytes, hml, findClass_of_methodNamed B.named, fun w h => hts w (List.mem_cons_of_mem _ h), hB, hE⟩
  have hx := hC.1
  have hb := hC.2.1
  have hH : mH G Q u.1 s s.heap [] := ⟨hP, hD, va_S.rf⟩
  have hl := lv_entry ([.ref (Q 72), .int a0, .int a1]) (n := 3) (Nat.le_of_ble_eq_true rfl)
  rw [lg_entry_eq]
  generalize (lg_sl ([.ref (Q 72), .int a0, .int a1]) ++ List.replicate (3 - (lg_sl ([.ref (Q 72), .int a0, .int a1])).length) Slot.unset).toArray = ls at hl ⊢
  have hl : lv_has ls 3 [(0, .ref (Q 72)), (1, .int a0), (2, .int a1)] := hl
  unfold f_weigh at hF
  refine lv_aload_n hx hb dX13_weigh_0 rfl (lv_at hl 0 rfl) ?_
  refine lv_iload_n hx hb dX13_weigh_1 rfl (lv_at hl 1 rfl) ?_
  obtain ⟨r_1, u_2, h_3, hF⟩ := pcl_some hF
  refine mcV_i (As := [.int a0]) (rest := []) hC hH (m_isFighter l G Z Q u u_2 r_1 a0 _ h_3) kwX13_isFighter kVX13_isFighter ⟨Nat.le_of_ble_eq_true rfl, Nat.le_of_ble_eq_true rfl⟩ rfl hl.1 rfl (Nat.le_of_ble_eq_true rfl) dX13_weigh_2 (fun H locs hH => ?_)
  refine lv_if_eq (tgt := 20) hx hb dX13_weigh_5 (by decide) (fun c_4 => ?_) (fun c_4 => ?_)
  · rw [if_pos c_4] at hF
    refine lv_bipush (v := (-2)) hx hb dX13_weigh_20 (by decide) ?_
    refine lv_goto (tgt := 52) hx hb dX13_weigh_22 (by decide) ?_
    have hF := prt_eq hF
    exact mr_i hC hH hr hF dX13_weigh_52 hlocks
  · rw [if_neg c_4] at hF
    refine lv_iload_n hx hb dX13_weigh_8 rfl (lv_at hl 2 rfl) ?_
    refine lv_i2l (v := a1.toInt64) hx hb dX13_weigh_9 rfl ?_
    refine lv_lconst (v := 0) hx hb dX13_weigh_10 (by decide) ?_
    refine lv_ldc2 (v := 200000) hx hb hC.2.2.2.1 (hC.2.2.2.2.1 _ wma142) dX13_weigh_11 ?_
    obtain ⟨r_5, u_6, h_7, hF⟩ := pcl_some hF
    refine mcS_i (As := [.long a1.toInt64, .long 0, .long 200000]) (rest := []) hC hH (m_in l G Z Q u_2 u_6 r_5 a1.toInt64 0 200000 _ h_7) kwX13_in kVX13_in ⟨Nat.le_of_ble_eq_true rfl, Nat.le_of_ble_eq_true rfl⟩ rfl hl.1 rfl (Nat.le_of_ble_eq_true rfl) dX13_weigh_14 (fun H locs hH => ?_)
    refine lv_if_ne (tgt := 25) hx hb dX13_weigh_17 (by decide) (fun c_8 => ?_) (fun c_8 => ?_)
    · rw [if_neg c_8] at hF
      refine lv_aload_n hx hb dX13_weigh_25 rfl (lv_at hl 0 rfl) ?_
      refine mg_12 hC hH dX13_weigh_26 ?_
      refine lv_aload_n hx hb dX13_weigh_29 rfl (lv_at hl 0 rfl) ?_
      refine mg_5 hC hH dX13_weigh_30 ?_
      refine lv_iload_n hx hb dX13_weigh_33 rfl (lv_at hl 1 rfl) ?_
      obtain ⟨x_9, g_10, e_11, hF⟩ := prd_some hF
      refine ml_5 hC hH g_10 dX13_weigh_34 ?_
      refine gx_ti e_11 ?_
      obtain ⟨x_12, g_13, e_14, hF⟩ := prd_some hF
      refine ml_12 hC hH g_13 dX13_weigh_35 ?_
      refine gx_ti e_14 ?_
      refine lv_if_eq (tgt := 44) hx hb dX13_weigh_36 (by decide) (fun c_15 => ?_) (fun c_15 => ?_)
      · rw [if_pos c_15] at hF
        refine lv_aload_n hx hb dX13_weigh_44 rfl (lv_at hl 0 rfl) ?_
        refine lv_iconst (v := 3) hx hb dX13_weigh_45 (by decide) ?_
        refine lv_iload_n hx hb dX13_weigh_46 rfl (lv_at hl 1 rfl) ?_
        refine lv_iload_n hx hb dX13_weigh_47 rfl (lv_at hl 2 rfl) ?_
        refine lv_iconst (v := 0) hx hb dX13_weigh_48 (by decide) ?_
        obtain ⟨r_16, u_17, h_18, hF⟩ := pcl_some hF
        refine mcV_i (As := [.int 3, .int a0, .int a1, .int 0]) (rest := []) hC hH (m_act l G Z Q u_6 u_17 r_16 3 a0 a1 0 _ h_18) kwX13_act kVX13_act ⟨Nat.le_of_ble_eq_true rfl, Nat.le_of_ble_eq_true rfl⟩ rfl hl.1 rfl (Nat.le_of_ble_eq_true rfl) dX13_weigh_49 (fun H locs hH => ?_)
        have hF := prt_eq hF
        exact mr_i hC hH hr hF dX13_weigh_52 hlocks
      · rw [if_neg c_15] at hF
        refine lv_bipush (v := (-3)) hx hb dX13_weigh_39 (by decide) ?_
        refine lv_goto (tgt := 52) hx hb dX13_weigh_41 (by decide) ?_
        have hF := prt_eq hF
        exact mr_i hC hH hr hF dX13_weigh_52 hlocks
    · rw [if_pos c_8] at hF
      refine lv_bipush (v := (-2)) hx hb dX13_weigh_20 (by decide) ?_
      refine lv_goto (tgt := 52) hx hb dX13_weigh_22 (by decide) ?_
      have hF := prt_eq hF
      exact mr_i hC hH hr hF dX13_weigh_52 hlocks
def lp_seed_46 : Nat → Int32 → Int32 → Int32 → Int32 → (Int32 → Int32 → Int32 → Int32 → PG (Int32)) → PG (Int32)
  | 0, _, _, _, _, _ => fun _ => none
  | n46 + 1, v1, v2, v3, v4, K46_108 => prf 2 (fun x_16 => (if x_16 ≤ v4 then K46_108 v1 v2 v3 v4 else (if v2 ≤ 0 then K46_108 v1 v2 v3 v4 else (if v3 = 0 then (if v4 = v1 then pli (v4 + 1) (fun x_24 => lp_seed_46 n46 v1 v2 0 x_24 K46_108) else prd 5 96 v4 (fun x_26 => prd 5 96 v1 (fun x_29 => (if x_26 = x_29 then prd 9 96 v4 (fun x_35 => (if x_35 = v2 then pli (v4 + 1) (fun x_41 => lp_seed_46 n46 v1 v2 1 x_41 K46_108) else pli (v4 + 1) (fun x_39 => lp_seed_46 n46 v1 v2 0 x_39 K46_108))) else pli (v4 + 1) (fun x_33 => lp_seed_46 n46 v1 v2 0 x_33 K46_108))))) else pli (v4 + 1) (fun x_21 => lp_seed_46 n46 v1 v2 1 x_21 K46_108)))))
def f_seed (a0 : Int32) (a1 : Int32) : PG (Int32) := pcl (f_isFighter a0) (fun r_1 => (if r_1 = 0 then prt (-2) else pcl (f_in a1.toInt64 0 8) (fun r_5 => (if r_5 = 0 then prt (-2) else prd 5 96 a0 (fun x_9 => prd 12 4 x_9 (fun x_12 => (if x_12 = 0 then lp_seed_46 fuel a0 a1 0 0 (fun v1 v2 v3 v4 => (if v3 = 0 then pcl (f_act 4 v1 v2 0) (fun r_44 => prt r_44) else prt (-3))) else lp_seed_46 fuel a0 a1 1 0 (fun v1 v2 v3 v4 => (if v3 = 0 then pcl (f_act 4 v1 v2 0) (fun r_75 => prt r_75) else prt (-3))))))))))
set_option maxHeartbeats 4000000 in
set_option maxRecDepth 100000 in
theorem m_seed (l : Launch) (G : gG) (Z : gM) (Q : Nat → Nat) (u u1 : GS) (r : Int32) (a0 : Int32) (a1 : Int32) (sz : Nat) (hF : f_seed a0 a1 u = some (r, u1)) : Met l yX13_seed (Cond.code yX13_seed cX13_seed 5 (some .int) :: wM) { frames := 409, cells := 0, slots := 0, locals := 4996 } (va_Pc [.ref (Q 72), .int a0, .int a1] (mPM G Z Q u.1 sz)) (mQi G Q u1.1 r sz) 0 0 (mA Q sz) := by
  refine Met.ofW (cc := cX13_seed) (maxL := 5) (ret := (some .int)) (by decide) rfl ?_
  intro p e s m args below meth c s₁ B hml hv
  obtain ⟨rfl, rfl, hP, hB, hD, hE⟩ := hv
  have hr := B.returns
  have hlocks := B.notSynchronized
  have hts := atoms_spec (ws := Cond.code yX13_seed cX13_seed 5 (some .int) :: wM) B.pre
  have hC : mX p c cX13_seed 5 s m _ G Z Q := ⟨B.exec, B.bytes, hml, findClass_of_methodNamed B.named, fun w h => hts w (List.mem_cons_of_mem _ h), hB, hE⟩
  have hx := hC.1
  have hb := hC.2.1
  have hH : mH G Q u.1 s s.heap [] := ⟨hP, hD, va_S.rf⟩
  have hl := lv_entry ([.ref (Q 72), .int a0, .int a1]) (n := 5) (Nat.le_of_ble_eq_true rfl)
  rw [lg_entry_eq]
  generalize (lg_sl ([.ref (Q 72), .int a0, .int a1]) ++ List.replicate (5 - (lg_sl ([.ref (Q 72), .int a0, .int a1])).length) Slot.unset).toArray = ls at hl ⊢
  have hl : lv_has ls 5 [(0, .ref (Q 72)), (1, .int a0), (2, .int a1)] := hl
  unfold f_seed at hF
  refine lv_aload_n hx hb dX13_seed_0 rfl (lv_at hl 0 rfl) ?_
  refine lv_iload_n hx hb dX13_seed_1 rfl (lv_at hl 1 rfl) ?_
  obtain ⟨r_1, u_2, h_3, hF⟩ := pcl_some hF
  refine mcV_i (As := [.int a0]) (rest := []) hC hH (m_isFighter l G Z Q u u_2 r_1 a0 _ h_3) kwX13_isFighter kVX13_isFighter ⟨Nat.le_of_ble_eq_true rfl, Nat.le_of_ble_eq_true rfl⟩ rfl hl.1 rfl (Nat.le_of_ble_eq_true rfl) dX13_seed_2 (fun H locs hH => ?_)
  refine lv_if_eq (tgt := 20) hx hb dX13_seed_5 (by decide) (fun c_4 => ?_) (fun c_4 => ?_)
  · rw [if_pos c_4] at hF
    refine lv_bipush (v := (-2)) hx hb dX13_seed_20 (by decide) ?_
    have hF := prt_eq hF
    exact mr_i hC hH hr hF dX13_seed_22 hlocks
  · rw [if_neg c_4] at hF
    refine lv_iload_n hx hb dX13_seed_8 rfl (lv_at hl 2 rfl) ?_
    refine lv_i2l (v := a1.toInt64) hx hb dX13_seed_9 rfl ?_
    refine lv_lconst (v := 0) hx hb dX13_seed_10 (by decide) ?_
    refine lv_ldc2 (v := 8) hx hb hC.2.2.2.1 (hC.2.2.2.2.1 _ wma145) dX13_seed_11 ?_
    obtain ⟨r_5, u_6, h_7, hF⟩ := pcl_some hF
    refine mcS_i (As := [.long a1.toInt64, .long 0, .long 8]) (rest := []) hC hH (m_in l G Z Q u_2 u_6 r_5 a1.toInt64 0 8 _ h_7) kwX13_in kVX13_in ⟨Nat.le_of_ble_eq_true rfl, Nat.le_of_ble_eq_true rfl⟩ rfl hl.1 rfl (Nat.le_of_ble_eq_true rfl) dX13_seed_14 (fun H locs hH => ?_)
    refine lv_if_ne (tgt := 23) hx hb dX13_seed_17 (by decide) (fun c_8 => ?_) (fun c_8 => ?_)
    · rw [if_neg c_8] at hF
      refine lv_aload_n hx hb dX13_seed_23 rfl (lv_at hl 0 rfl) ?_
      refine mg_12 hC hH dX13_seed_24 ?_
      refine lv_aload_n hx hb dX13_seed_27 rfl (lv_at hl 0 rfl) ?_
      refine mg_5 hC hH dX13_seed_28 ?_
      refine lv_iload_n hx hb dX13_seed_31 rfl (lv_at hl 1 rfl) ?_
      obtain ⟨x_9, g_10, e_11, hF⟩ := prd_some hF
      refine ml_5 hC hH g_10 dX13_seed_32 ?_
      refine gx_ti e_11 ?_
      obtain ⟨x_12, g_13, e_14, hF⟩ := prd_some hF
      refine ml_12 hC hH g_13 dX13_seed_33 ?_
      refine gx_ti e_14 ?_
      refine lv_if_eq (tgt := 41) hx hb dX13_seed_34 (by decide) (fun c_15 => ?_) (fun c_15 => ?_)
      · rw [if_pos c_15] at hF
        refine lv_iconst (v := 0) hx hb dX13_seed_41 (by decide) ?_
        refine lv_istore_n (lv' := [(3, .int 0), (0, .ref (Q 72)), (1, .int a0), (2, .int a1)]) hx hb dX13_seed_42 rfl hl (by decide) rfl (fun ls hl => ?_)
        refine lv_iconst (v := 0) hx hb dX13_seed_43 (by decide) ?_
        refine lv_istore (lv' := [(4, .int 0), (3, .int 0), (0, .ref (Q 72)), (1, .int a0), (2, .int a1)]) hx hb dX13_seed_44 hl (by decide) rfl (fun ls hl => ?_)
        have hL46 : ∀ (K46_108 : Int32 → Int32 → Int32 → Int32 → PG (Int32)), (∀ (v1 v2 v3 v4 : Int32) (u : GS) (H : Heap) (locs : List Loc) (ls : Array Slot), lv_has ls 5 [(0, .ref (Q 72)), (1, .int v1), (2, .int v2), (3, .int v3), (4, .int v4)] → mH G Q u.1 s H locs → K46_108 v1 v2 v3 v4 u = some ((r, u1)) → W p l e (headSpec (Cond.code yX13_seed cX13_seed 5 (some .int) :: wM) { frames := 409, cells := 0, slots := 0, locals := 4996 }).room s m [.ref (Q 72), .int a0, .int a1].toArray below meth c H locs 0 0 (MQ below (mQi G Q u1.1 r s.heap.size) [.ref (Q 72), .int a0, .int a1].toArray s 0 0 (mA Q s.heap.size)) (F0 m 108 ls [])) → ∀ (n46 : Nat) (v1 v2 v3 v4 : Int32) (u : GS) (H : Heap) (locs : List Loc) (ls : Array Slot), lv_has ls 5 [(0, .ref (Q 72)), (1, .int v1), (2, .int v2), (3, .int v3), (4, .int v4)] → mH G Q u.1 s H locs → lp_seed_46 n46 v1 v2 v3 v4 K46_108 u = some ((r, u1)) → W p l e (headSpec (Cond.code yX13_seed cX13_seed 5 (some .int) :: wM) { frames := 409, cells := 0, slots := 0, locals := 4996 }).room s m [.ref (Q 72), .int a0, .int a1].toArray below meth c H locs 0 0 (MQ below (mQi G Q u1.1 r s.heap.size) [.ref (Q 72), .int a0, .int a1].toArray s 0 0 (mA Q s.heap.size)) (F0 m 46 ls []) := by
          intro K46_108 hK46_108 n46
          induction n46 with
          | zero => intro v1 v2 v3 v4 u H locs ls hl hH hF; cases hF
          | succ n46 ih46 =>
            intro v1 v2 v3 v4 u H locs ls hl hH hF
            unfold lp_seed_46 at hF
            refine lv_iload hx hb dX13_seed_46 (lv_at hl 4 rfl) ?_
            refine lv_aload_n hx hb dX13_seed_48 rfl (lv_at hl 0 rfl) ?_
            refine mg_2 hC hH dX13_seed_49 ?_
            obtain ⟨x_16, e_17, hF⟩ := prf_some hF
            refine gx_ti e_17 ?_
            refine lv_icmp_ge (tgt := 108) hx hb dX13_seed_52 (by decide) (fun c_18 => ?_) (fun c_18 => ?_)
            · rw [if_pos c_18] at hF
              exact hK46_108 v1 v2 v3 v4 u _ _ _ (lv_sub hl [0, 1, 2, 3, 4] rfl) hH hF
            · rw [if_neg c_18] at hF
              refine lv_iload_n hx hb dX13_seed_55 rfl (lv_at hl 2 rfl) ?_
              refine lv_if_le (tgt := 108) hx hb dX13_seed_56 (by decide) (fun c_19 => ?_) (fun c_19 => ?_)
              · rw [if_pos c_19] at hF
                exact hK46_108 v1 v2 v3 v4 u _ _ _ (lv_sub hl [0, 1, 2, 3, 4] rfl) hH hF
              · rw [if_neg c_19] at hF
                refine lv_iload_n hx hb dX13_seed_59 rfl (lv_at hl 3 rfl) ?_
                refine lv_if_ne (tgt := 96) hx hb dX13_seed_60 (by decide) (fun c_20 => ?_) (fun c_20 => ?_)
                · rw [if_neg c_20] at hF
                  refine lv_iconst (v := 1) hx hb dX13_seed_96 (by decide) ?_
                  refine lv_goto (tgt := 101) hx hb dX13_seed_97 (by decide) ?_
                  refine lv_istore_n (lv' := [(3, .int 1), (0, .ref (Q 72)), (1, .int v1), (2, .int v2), (4, .int v4)]) hx hb dX13_seed_101 rfl hl (by decide) rfl (fun ls hl => ?_)
                  obtain ⟨x_21, e_22, hF⟩ := pli_some hF
                  refine lv_iinc (v := x_21) (lv' := [(4, .int x_21), (3, .int 1), (0, .ref (Q 72)), (1, .int v1), (2, .int v2)]) hx hb dX13_seed_102 hl (k := 4) rfl e_22 (by decide) rfl (fun ls hl => ?_)
                  refine lv_goto (tgt := 46) hx hb dX13_seed_105 (by decide) ?_
                  exact ih46 v1 v2 1 x_21 u _ _ _ (lv_sub hl [2, 3, 4, 1, 0] rfl) hH hF
                · rw [if_pos c_20] at hF
                  refine lv_iload hx hb dX13_seed_63 (lv_at hl 4 rfl) ?_
                  refine lv_iload_n hx hb dX13_seed_65 rfl (lv_at hl 1 rfl) ?_
                  refine lv_icmp_eq (tgt := 100) hx hb dX13_seed_66 (by decide) (fun c_23 => ?_) (fun c_23 => ?_)
                  · rw [if_pos c_23] at hF
                    refine lv_iconst (v := 0) hx hb dX13_seed_100 (by decide) ?_
                    refine lv_istore_n (lv' := [(3, .int 0), (0, .ref (Q 72)), (1, .int v1), (2, .int v2), (4, .int v4)]) hx hb dX13_seed_101 rfl hl (by decide) rfl (fun ls hl => ?_)
                    obtain ⟨x_24, e_25, hF⟩ := pli_some hF
                    refine lv_iinc (v := x_24) (lv' := [(4, .int x_24), (3, .int 0), (0, .ref (Q 72)), (1, .int v1), (2, .int v2)]) hx hb dX13_seed_102 hl (k := 4) rfl e_25 (by decide) rfl (fun ls hl => ?_)
                    refine lv_goto (tgt := 46) hx hb dX13_seed_105 (by decide) ?_
                    exact ih46 v1 v2 0 x_24 u _ _ _ (lv_sub hl [2, 3, 4, 1, 0] rfl) hH hF
                  · rw [if_neg c_23] at hF
                    refine lv_aload_n hx hb dX13_seed_69 rfl (lv_at hl 0 rfl) ?_
                    refine mg_5 hC hH dX13_seed_70 ?_
                    refine lv_iload hx hb dX13_seed_73 (lv_at hl 4 rfl) ?_
                    obtain ⟨x_26, g_27, e_28, hF⟩ := prd_some hF
                    refine ml_5 hC hH g_27 dX13_seed_75 ?_
                    refine gx_ti e_28 ?_
                    refine lv_aload_n hx hb dX13_seed_76 rfl (lv_at hl 0 rfl) ?_
                    refine mg_5 hC hH dX13_seed_77 ?_
                    refine lv_iload_n hx hb dX13_seed_80 rfl (lv_at hl 1 rfl) ?_
                    obtain ⟨x_29, g_30, e_31, hF⟩ := prd_some hF
                    refine ml_5 hC hH g_30 dX13_seed_81 ?_
                    refine gx_ti e_31 ?_
                    refine lv_icmp_ne (tgt := 100) hx hb dX13_seed_82 (by decide) (fun c_32 => ?_) (fun c_32 => ?_)
                    · rw [if_neg c_32] at hF
                      refine lv_iconst (v := 0) hx hb dX13_seed_100 (by decide) ?_
                      refine lv_istore_n (lv' := [(3, .int 0), (0, .ref (Q 72)), (1, .int v1), (2, .int v2), (4, .int v4)]) hx hb dX13_seed_101 rfl hl (by decide) rfl (fun ls hl => ?_)
                      obtain ⟨x_33, e_34, hF⟩ := pli_some hF
                      refine lv_iinc (v := x_33) (lv' := [(4, .int x_33), (3, .int 0), (0, .ref (Q 72)), (1, .int v1), (2, .int v2)]) hx hb dX13_seed_102 hl (k := 4) rfl e_34 (by decide) rfl (fun ls hl => ?_)
                      refine lv_goto (tgt := 46) hx hb dX13_seed_105 (by decide) ?_
                      exact ih46 v1 v2 0 x_33 u _ _ _ (lv_sub hl [2, 3, 4, 1, 0] rfl) hH hF
                    · rw [if_pos c_32] at hF
                      refine lv_aload_n hx hb dX13_seed_85 rfl (lv_at hl 0 rfl) ?_
                      refine mg_9 hC hH dX13_seed_86 ?_
                      refine lv_iload hx hb dX13_seed_89 (lv_at hl 4 rfl) ?_
                      obtain ⟨x_35, g_36, e_37, hF⟩ := prd_some hF
                      refine ml_9 hC hH g_36 dX13_seed_91 ?_
                      refine gx_ti e_37 ?_
                      refine lv_iload_n hx hb dX13_seed_92 rfl (lv_at hl 2 rfl) ?_
                      refine lv_icmp_ne (tgt := 100) hx hb dX13_seed_93 (by decide) (fun c_38 => ?_) (fun c_38 => ?_)
                      · rw [if_neg c_38] at hF
                        refine lv_iconst (v := 0) hx hb dX13_seed_100 (by decide) ?_
                        refine lv_istore_n (lv' := [(3, .int 0), (0, .ref (Q 72)), (1, .int v1), (2, .int v2), (4, .int v4)]) hx hb dX13_seed_101 rfl hl (by decide) rfl (fun ls hl => ?_)
                        obtain ⟨x_39, e_40, hF⟩ := pli_some hF
                        refine lv_iinc (v := x_39) (lv' := [(4, .int x_39), (3, .int 0), (0, .ref (Q 72)), (1, .int v1), (2, .int v2)]) hx hb dX13_seed_102 hl (k := 4) rfl e_40 (by decide) rfl (fun ls hl => ?_)
                        refine lv_goto (tgt := 46) hx hb dX13_seed_105 (by decide) ?_
                        exact ih46 v1 v2 0 x_39 u _ _ _ (lv_sub hl [2, 3, 4, 1, 0] rfl) hH hF
                      · rw [if_pos c_38] at hF
                        refine lv_iconst (v := 1) hx hb dX13_seed_96 (by decide) ?_
                        refine lv_goto (tgt := 101) hx hb dX13_seed_97 (by decide) ?_
                        refine lv_istore_n (lv' := [(3, .int 1), (0, .ref (Q 72)), (1, .int v1), (2, .int v2), (4, .int v4)]) hx hb dX13_seed_101 rfl hl (by decide) rfl (fun ls hl => ?_)
                        obtain ⟨x_41, e_42, hF⟩ := pli_some hF
                        refine lv_iinc (v := x_41) (lv' := [(4, .int x_41), (3, .int 1), (0, .ref (Q 72)), (1, .int v1), (2, .int v2)]) hx hb dX13_seed_102 hl (k := 4) rfl e_42 (by decide) rfl (fun ls hl => ?_)
                        refine lv_goto (tgt := 46) hx hb dX13_seed_105 (by decide) ?_
                        exact ih46 v1 v2 1 x_41 u _ _ _ (lv_sub hl [2, 3, 4, 1, 0] rfl) hH hF
        refine hL46 _ (fun v1 v2 v3 v4 u H locs ls hl hH hF => ?_) fuel a0 a1 0 0 u_6 _ _ _ (lv_sub hl [2, 3, 4, 1, 0] rfl) hH hF
        refine lv_iload_n hx hb dX13_seed_108 rfl (lv_at hl 3 rfl) ?_
        refine lv_if_eq (tgt := 117) hx hb dX13_seed_109 (by decide) (fun c_43 => ?_) (fun c_43 => ?_)
        · rw [if_pos c_43] at hF
          refine lv_aload_n hx hb dX13_seed_117 rfl (lv_at hl 0 rfl) ?_
          refine lv_iconst (v := 4) hx hb dX13_seed_118 (by decide) ?_
          refine lv_iload_n hx hb dX13_seed_119 rfl (lv_at hl 1 rfl) ?_
          refine lv_iload_n hx hb dX13_seed_120 rfl (lv_at hl 2 rfl) ?_
          refine lv_iconst (v := 0) hx hb dX13_seed_121 (by decide) ?_
          obtain ⟨r_44, u_45, h_46, hF⟩ := pcl_some hF
          refine mcV_i (As := [.int 4, .int v1, .int v2, .int 0]) (rest := []) hC hH (m_act l G Z Q u u_45 r_44 4 v1 v2 0 _ h_46) kwX13_act kVX13_act ⟨Nat.le_of_ble_eq_true rfl, Nat.le_of_ble_eq_true rfl⟩ rfl hl.1 rfl (Nat.le_of_ble_eq_true rfl) dX13_seed_122 (fun H locs hH => ?_)
          have hF := prt_eq hF
          exact mr_i hC hH hr hF dX13_seed_125 hlocks
        · rw [if_neg c_43] at hF
          refine lv_bipush (v := (-3)) hx hb dX13_seed_112 (by decide) ?_
          refine lv_goto (tgt := 125) hx hb dX13_seed_114 (by decide) ?_
          have hF := prt_eq hF
          exact mr_i hC hH hr hF dX13_seed_125 hlocks
      · rw [if_neg c_15] at hF
        refine lv_iconst (v := 1) hx hb dX13_seed_37 (by decide) ?_
        refine lv_goto (tgt := 42) hx hb dX13_seed_38 (by decide) ?_
        refine lv_istore_n (lv' := [(3, .int 1), (0, .ref (Q 72)), (1, .int a0), (2, .int a1)]) hx hb dX13_seed_42 rfl hl (by decide) rfl (fun ls hl => ?_)
        refine lv_iconst (v := 0) hx hb dX13_seed_43 (by decide) ?_
        refine lv_istore (lv' := [(4, .int 0), (3, .int 1), (0, .ref (Q 72)), (1, .int a0), (2, .int a1)]) hx hb dX13_seed_44 hl (by decide) rfl (fun ls hl => ?_)
        have hL46 : ∀ (K46_108 : Int32 → Int32 → Int32 → Int32 → PG (Int32)), (∀ (v1 v2 v3 v4 : Int32) (u : GS) (H : Heap) (locs : List Loc) (ls : Array Slot), lv_has ls 5 [(0, .ref (Q 72)), (1, .int v1), (2, .int v2), (3, .int v3), (4, .int v4)] → mH G Q u.1 s H locs → K46_108 v1 v2 v3 v4 u = some ((r, u1)) → W p l e (headSpec (Cond.code yX13_seed cX13_seed 5 (some .int) :: wM) { frames := 409, cells := 0, slots := 0, locals := 4996 }).room s m [.ref (Q 72), .int a0, .int a1].toArray below meth c H locs 0 0 (MQ below (mQi G Q u1.1 r s.heap.size) [.ref (Q 72), .int a0, .int a1].toArray s 0 0 (mA Q s.heap.size)) (F0 m 108 ls [])) → ∀ (n46 : Nat) (v1 v2 v3 v4 : Int32) (u : GS) (H : Heap) (locs : List Loc) (ls : Array Slot), lv_has ls 5 [(0, .ref (Q 72)), (1, .int v1), (2, .int v2), (3, .int v3), (4, .int v4)] → mH G Q u.1 s H locs → lp_seed_46 n46 v1 v2 v3 v4 K46_108 u = some ((r, u1)) → W p l e (headSpec (Cond.code yX13_seed cX13_seed 5 (some .int) :: wM) { frames := 409, cells := 0, slots := 0, locals := 4996 }).room s m [.ref (Q 72), .int a0, .int a1].toArray below meth c H locs 0 0 (MQ below (mQi G Q u1.1 r s.heap.size) [.ref (Q 72), .int a0, .int a1].toArray s 0 0 (mA Q s.heap.size)) (F0 m 46 ls []) := by
          intro K46_108 hK46_108 n46
          induction n46 with
          | zero => intro v1 v2 v3 v4 u H locs ls hl hH hF; cases hF
          | succ n46 ih46 =>
            intro v1 v2 v3 v4 u H locs ls hl hH hF
            unfold lp_seed_46 at hF
            refine lv_iload hx hb dX13_seed_46 (lv_at hl 4 rfl) ?_
            refine lv_aload_n hx hb dX13_seed_48 rfl (lv_at hl 0 rfl) ?_
            refine mg_2 hC hH dX13_seed_49 ?_
            obtain ⟨x_47, e_48, hF⟩ := prf_some hF
            refine gx_ti e_48 ?_
            refine lv_icmp_ge (tgt := 108) hx hb dX13_seed_52 (by decide) (fun c_49 => ?_) (fun c_49 => ?_)
            · rw [if_pos c_49] at hF
              exact hK46_108 v1 v2 v3 v4 u _ _ _ (lv_sub hl [0, 1, 2, 3, 4] rfl) hH hF
            · rw [if_neg c_49] at hF
              refine lv_iload_n hx hb dX13_seed_55 rfl (lv_at hl 2 rfl) ?_
              refine lv_if_le (tgt := 108) hx hb dX13_seed_56 (by decide) (fun c_50 => ?_) (fun c_50 => ?_)
              · rw [if_pos c_50] at hF
                exact hK46_108 v1 v2 v3 v4 u _ _ _ (lv_sub hl [0, 1, 2, 3, 4] rfl) hH hF
              · rw [if_neg c_50] at hF
                refine lv_iload_n hx hb dX13_seed_59 rfl (lv_at hl 3 rfl) ?_
                refine lv_if_ne (tgt := 96) hx hb dX13_seed_60 (by decide) (fun c_51 => ?_) (fun c_51 => ?_)
                · rw [if_neg c_51] at hF
                  refine lv_iconst (v := 1) hx hb dX13_seed_96 (by decide) ?_
                  refine lv_goto (tgt := 101) hx hb dX13_seed_97 (by decide) ?_
                  refine lv_istore_n (lv' := [(3, .int 1), (0, .ref (Q 72)), (1, .int v1), (2, .int v2), (4, .int v4)]) hx hb dX13_seed_101 rfl hl (by decide) rfl (fun ls hl => ?_)
                  obtain ⟨x_52, e_53, hF⟩ := pli_some hF
                  refine lv_iinc (v := x_52) (lv' := [(4, .int x_52), (3, .int 1), (0, .ref (Q 72)), (1, .int v1), (2, .int v2)]) hx hb dX13_seed_102 hl (k := 4) rfl e_53 (by decide) rfl (fun ls hl => ?_)
                  refine lv_goto (tgt := 46) hx hb dX13_seed_105 (by decide) ?_
                  exact ih46 v1 v2 1 x_52 u _ _ _ (lv_sub hl [2, 3, 4, 1, 0] rfl) hH hF
                · rw [if_pos c_51] at hF
                  refine lv_iload hx hb dX13_seed_63 (lv_at hl 4 rfl) ?_
                  refine lv_iload_n hx hb dX13_seed_65 rfl (lv_at hl 1 rfl) ?_
                  refine lv_icmp_eq (tgt := 100) hx hb dX13_seed_66 (by decide) (fun c_54 => ?_) (fun c_54 => ?_)
                  · rw [if_pos c_54] at hF
                    refine lv_iconst (v := 0) hx hb dX13_seed_100 (by decide) ?_
                    refine lv_istore_n (lv' := [(3, .int 0), (0, .ref (Q 72)), (1, .int v1), (2, .int v2), (4, .int v4)]) hx hb dX13_seed_101 rfl hl (by decide) rfl (fun ls hl => ?_)
                    obtain ⟨x_55, e_56, hF⟩ := pli_some hF
                    refine lv_iinc (v := x_55) (lv' := [(4, .int x_55), (3, .int 0), (0, .ref (Q 72)), (1, .int v1), (2, .int v2)]) hx hb dX13_seed_102 hl (k := 4) rfl e_56 (by decide) rfl (fun ls hl => ?_)
                    refine lv_goto (tgt := 46) hx hb dX13_seed_105 (by decide) ?_
                    exact ih46 v1 v2 0 x_55 u _ _ _ (lv_sub hl [2, 3, 4, 1, 0] rfl) hH hF
                  · rw [if_neg c_54] at hF
                    refine lv_aload_n hx hb dX13_seed_69 rfl (lv_at hl 0 rfl) ?_
                    refine mg_5 hC hH dX13_seed_70 ?_
                    refine lv_iload hx hb dX13_seed_73 (lv_at hl 4 rfl) ?_
                    obtain ⟨x_57, g_58, e_59, hF⟩ := prd_some hF
                    refine ml_5 hC hH g_58 dX13_seed_75 ?_
                    refine gx_ti e_59 ?_
                    refine lv_aload_n hx hb dX13_seed_76 rfl (lv_at hl 0 rfl) ?_
                    refine mg_5 hC hH dX13_seed_77 ?_
                    refine lv_iload_n hx hb dX13_seed_80 rfl (lv_at hl 1 rfl) ?_
                    obtain ⟨x_60, g_61, e_62, hF⟩ := prd_some hF
                    refine ml_5 hC hH g_61 dX13_seed_81 ?_
                    refine gx_ti e_62 ?_
                    refine lv_icmp_ne (tgt := 100) hx hb dX13_seed_82 (by decide) (fun c_63 => ?_) (fun c_63 => ?_)
                    · rw [if_neg c_63] at hF
                      refine lv_iconst (v := 0) hx hb dX13_seed_100 (by decide) ?_
                      refine lv_istore_n (lv' := [(3, .int 0), (0, .ref (Q 72)), (1, .int v1), (2, .int v2), (4, .int v4)]) hx hb dX13_seed_101 rfl hl (by decide) rfl (fun ls hl => ?_)
                      obtain ⟨x_64, e_65, hF⟩ := pli_some hF
                      refine lv_iinc (v := x_64) (lv' := [(4, .int x_64), (3, .int 0), (0, .ref (Q 72)), (1, .int v1), (2, .int v2)]) hx hb dX13_seed_102 hl (k := 4) rfl e_65 (by decide) rfl (fun ls hl => ?_)
                      refine lv_goto (tgt := 46) hx hb dX13_seed_105 (by decide) ?_
                      exact ih46 v1 v2 0 x_64 u _ _ _ (lv_sub hl [2, 3, 4, 1, 0] rfl) hH hF
                    · rw [if_pos c_63] at hF
                      refine lv_aload_n hx hb dX13_seed_85 rfl (lv_at hl 0 rfl) ?_
                      refine mg_9 hC hH dX13_seed_86 ?_
                      refine lv_iload hx hb dX13_seed_89 (lv_at hl 4 rfl) ?_
                      obtain ⟨x_66, g_67, e_68, hF⟩ := prd_some hF
                      refine ml_9 hC hH g_67 dX13_seed_91 ?_
                      refine gx_ti e_68 ?_
                      refine lv_iload_n hx hb dX13_seed_92 rfl (lv_at hl 2 rfl) ?_
                      refine lv_icmp_ne (tgt := 100) hx hb dX13_seed_93 (by decide) (fun c_69 => ?_) (fun c_69 => ?_)
                      · rw [if_neg c_69] at hF
                        refine lv_iconst (v := 0) hx hb dX13_seed_100 (by decide) ?_
                        refine lv_istore_n (lv' := [(3, .int 0), (0, .ref (Q 72)), (1, .int v1), (2, .int v2), (4, .int v4)]) hx hb dX13_seed_101 rfl hl (by decide) rfl (fun ls hl => ?_)
                        obtain ⟨x_70, e_71, hF⟩ := pli_some hF
                        refine lv_iinc (v := x_70) (lv' := [(4, .int x_70), (3, .int 0), (0, .ref (Q 72)), (1, .int v1), (2, .int v2)]) hx hb dX13_seed_102 hl (k := 4) rfl e_71 (by decide) rfl (fun ls hl => ?_)
                        refine lv_goto (tgt := 46) hx hb dX13_seed_105 (by decide) ?_
                        exact ih46 v1 v2 0 x_70 u _ _ _ (lv_sub hl [2, 3, 4, 1, 0] rfl) hH hF
                      · rw [if_pos c_69] at hF
                        refine lv_iconst (v := 1) hx hb dX13_seed_96 (by decide) ?_
                        refine lv_goto (tgt := 101) hx hb dX13_seed_97 (by decide) ?_
                        refine lv_istore_n (lv' := [(3, .int 1), (0, .ref (Q 72)), (1, .int v1), (2, .int v2), (4, .int v4)]) hx hb dX13_seed_101 rfl hl (by decide) rfl (fun ls hl => ?_)
                        obtain ⟨x_72, e_73, hF⟩ := pli_some hF
                        refine lv_iinc (v := x_72) (lv' := [(4, .int x_72), (3, .int 1), (0, .ref (Q 72)), (1, .int v1), (2, .int v2)]) hx hb dX13_seed_102 hl (k := 4) rfl e_73 (by decide) rfl (fun ls hl => ?_)
                        refine lv_goto (tgt := 46) hx hb dX13_seed_105 (by decide) ?_
                        exact ih46 v1 v2 1 x_72 u _ _ _ (lv_sub hl [2, 3, 4, 1, 0] rfl) hH hF
        refine hL46 _ (fun v1 v2 v3 v4 u H locs ls hl hH hF => ?_) fuel a0 a1 1 0 u_6 _ _ _ (lv_sub hl [2, 3, 4, 1, 0] rfl) hH hF
        refine lv_iload_n hx hb dX13_seed_108 rfl (lv_at hl 3 rfl) ?_
        refine lv_if_eq (tgt := 117) hx hb dX13_seed_109 (by decide) (fun c_74 => ?_) (fun c_74 => ?_)
        · rw [if_pos c_74] at hF
          refine lv_aload_n hx hb dX13_seed_117 rfl (lv_at hl 0 rfl) ?_
          refine lv_iconst (v := 4) hx hb dX13_seed_118 (by decide) ?_
          refine lv_iload_n hx hb dX13_seed_119 rfl (lv_at hl 1 rfl) ?_
          refine lv_iload_n hx hb dX13_seed_120 rfl (lv_at hl 2 rfl) ?_
          refine lv_iconst (v := 0) hx hb dX13_seed_121 (by decide) ?_
          obtain ⟨r_75, u_76, h_77, hF⟩ := pcl_some hF
          refine mcV_i (As := [.int 4, .int v1, .int v2, .int 0]) (rest := []) hC hH (m_act l G Z Q u u_76 r_75 4 v1 v2 0 _ h_77) kwX13_act kVX13_act ⟨Nat.le_of_ble_eq_true rfl, Nat.le_of_ble_eq_true rfl⟩ rfl hl.1 rfl (Nat.le_of_ble_eq_true rfl) dX13_seed_122 (fun H locs hH => ?_)
          have hF := prt_eq hF
          exact mr_i hC hH hr hF dX13_seed_125 hlocks
        · rw [if_neg c_74] at hF
          refine lv_bipush (v := (-3)) hx hb dX13_seed_112 (by decide) ?_
          refine lv_goto (tgt := 125) hx hb dX13_seed_114 (by decide) ?_
          have hF := prt_eq hF
          exact mr_i hC hH hr hF dX13_seed_125 hlocks
    · rw [if_pos c_8] at hF
      refine lv_bipush (v := (-2)) hx hb dX13_seed_20 (by decide) ?_
      have hF := prt_eq hF
      exact mr_i hC hH hr hF dX13_seed_22 hlocks
def f_draw (a0 : Int32) : PG (Int32) := pcl (f_isClass a0) (fun r_1 => (if r_1 = 0 then prt (-2) else prd 12 4 a0 (fun x_5 => (if x_5 = 0 then pcl (f_weighed a0) (fun r_9 => pcl (f_in r_9.toInt64 2 32) (fun r_12 => (if r_12 = 0 then prt (-1) else pcl (f_act 5 a0 0 0) (fun r_16 => prt r_16)))) else prt (-3)))))
set_option maxHeartbeats 4000000 in
set_option maxRecDepth 100000 in
theorem m_draw (l : Launch) (G : gG) (Z : gM) (Q : Nat → Nat) (u u1 : GS) (r : Int32) (a0 : Int32) (sz : Nat) (hF : f_draw a0 u = some (r, u1)) : Met l yX13_draw (Cond.code yX13_draw cX13_draw 2 (some .int) :: wM) { frames := 409, cells := 0, slots := 0, locals := 4996 } (va_Pc [.ref (Q 72), .int a0] (mPM G Z Q u.1 sz)) (mQi G Q u1.1 r sz) 0 0 (mA Q sz) := by
  refine Met.ofW (cc := cX13_draw) (maxL := 2) (ret := (some .int)) (by decide) rfl ?_
  intro p e s m args below meth c s₁ B hml hv
  obtain ⟨rfl, rfl, hP, hB, hD, hE⟩ := hv
  have hr := B.returns
  have hlocks := B.notSynchronized
  have hts := atoms_spec (ws := Cond.code yX13_draw cX13_draw 2 (some .int) :: wM) B.pre
  have hC : mX p c cX13_draw 2 s m _ G Z Q := ⟨B.exec, B.bytes, hml, findClass_of_methodNamed B.named, fun w h => hts w (List.mem_cons_of_mem _ h), hB, hE⟩
  have hx := hC.1
  have hb := hC.2.1
  have hH : mH G Q u.1 s s.heap [] := ⟨hP, hD, va_S.rf⟩
  have hl := lv_entry ([.ref (Q 72), .int a0]) (n := 2) (Nat.le_of_ble_eq_true rfl)
  rw [lg_entry_eq]
  generalize (lg_sl ([.ref (Q 72), .int a0]) ++ List.replicate (2 - (lg_sl ([.ref (Q 72), .int a0])).length) Slot.unset).toArray = ls at hl ⊢
  have hl : lv_has ls 2 [(0, .ref (Q 72)), (1, .int a0)] := hl
  unfold f_draw at hF
  refine lv_iload_n hx hb dX13_draw_0 rfl (lv_at hl 1 rfl) ?_
  obtain ⟨r_1, u_2, h_3, hF⟩ := pcl_some hF
  refine mcS_i (As := [.int a0]) (rest := []) hC hH (m_isClass l G Z Q u u_2 r_1 a0 _ h_3) kwX13_isClass kVX13_isClass ⟨Nat.le_of_ble_eq_true rfl, Nat.le_of_ble_eq_true rfl⟩ rfl hl.1 rfl (Nat.le_of_ble_eq_true rfl) dX13_draw_1 (fun H locs hH => ?_)
  refine lv_if_ne (tgt := 10) hx hb dX13_draw_4 (by decide) (fun c_4 => ?_) (fun c_4 => ?_)
  · rw [if_neg c_4] at hF
    refine lv_aload_n hx hb dX13_draw_10 rfl (lv_at hl 0 rfl) ?_
    refine mg_12 hC hH dX13_draw_11 ?_
    refine lv_iload_n hx hb dX13_draw_14 rfl (lv_at hl 1 rfl) ?_
    obtain ⟨x_5, g_6, e_7, hF⟩ := prd_some hF
    refine ml_12 hC hH g_6 dX13_draw_15 ?_
    refine gx_ti e_7 ?_
    refine lv_if_eq (tgt := 24) hx hb dX13_draw_16 (by decide) (fun c_8 => ?_) (fun c_8 => ?_)
    · rw [if_pos c_8] at hF
      refine lv_aload_n hx hb dX13_draw_24 rfl (lv_at hl 0 rfl) ?_
      refine lv_iload_n hx hb dX13_draw_25 rfl (lv_at hl 1 rfl) ?_
      obtain ⟨r_9, u_10, h_11, hF⟩ := pcl_some hF
      refine mcV_i (As := [.int a0]) (rest := []) hC hH (m_weighed l G Z Q u_2 u_10 r_9 a0 _ h_11) kwX13_weighed kVX13_weighed ⟨Nat.le_of_ble_eq_true rfl, Nat.le_of_ble_eq_true rfl⟩ rfl hl.1 rfl (Nat.le_of_ble_eq_true rfl) dX13_draw_26 (fun H locs hH => ?_)
      refine lv_i2l (v := r_9.toInt64) hx hb dX13_draw_29 rfl ?_
      refine lv_ldc2 (v := 2) hx hb hC.2.2.2.1 (hC.2.2.2.2.1 _ wma146) dX13_draw_30 ?_
      refine lv_ldc2 (v := 32) hx hb hC.2.2.2.1 (hC.2.2.2.2.1 _ wma147) dX13_draw_33 ?_
      obtain ⟨r_12, u_13, h_14, hF⟩ := pcl_some hF
      refine mcS_i (As := [.long r_9.toInt64, .long 2, .long 32]) (rest := []) hC hH (m_in l G Z Q u_10 u_13 r_12 r_9.toInt64 2 32 _ h_14) kwX13_in kVX13_in ⟨Nat.le_of_ble_eq_true rfl, Nat.le_of_ble_eq_true rfl⟩ rfl hl.1 rfl (Nat.le_of_ble_eq_true rfl) dX13_draw_36 (fun H locs hH => ?_)
      refine lv_if_ne (tgt := 46) hx hb dX13_draw_39 (by decide) (fun c_15 => ?_) (fun c_15 => ?_)
      · rw [if_neg c_15] at hF
        refine lv_aload_n hx hb dX13_draw_46 rfl (lv_at hl 0 rfl) ?_
        refine lv_iconst (v := 5) hx hb dX13_draw_47 (by decide) ?_
        refine lv_iload_n hx hb dX13_draw_48 rfl (lv_at hl 1 rfl) ?_
        refine lv_iconst (v := 0) hx hb dX13_draw_49 (by decide) ?_
        refine lv_iconst (v := 0) hx hb dX13_draw_50 (by decide) ?_
        obtain ⟨r_16, u_17, h_18, hF⟩ := pcl_some hF
        refine mcV_i (As := [.int 5, .int a0, .int 0, .int 0]) (rest := []) hC hH (m_act l G Z Q u_13 u_17 r_16 5 a0 0 0 _ h_18) kwX13_act kVX13_act ⟨Nat.le_of_ble_eq_true rfl, Nat.le_of_ble_eq_true rfl⟩ rfl hl.1 rfl (Nat.le_of_ble_eq_true rfl) dX13_draw_51 (fun H locs hH => ?_)
        have hF := prt_eq hF
        exact mr_i hC hH hr hF dX13_draw_54 hlocks
      · rw [if_pos c_15] at hF
        refine lv_iconst (v := (-1)) hx hb dX13_draw_42 (by decide) ?_
        refine lv_goto (tgt := 54) hx hb dX13_draw_43 (by decide) ?_
        have hF := prt_eq hF
        exact mr_i hC hH hr hF dX13_draw_54 hlocks
    · rw [if_neg c_8] at hF
      refine lv_bipush (v := (-3)) hx hb dX13_draw_19 (by decide) ?_
      refine lv_goto (tgt := 54) hx hb dX13_draw_21 (by decide) ?_
      have hF := prt_eq hF
      exact mr_i hC hH hr hF dX13_draw_54 hlocks
  · rw [if_pos c_4] at hF
    refine lv_bipush (v := (-2)) hx hb dX13_draw_7 (by decide) ?_
    have hF := prt_eq hF
    exact mr_i hC hH hr hF dX13_draw_9 hlocks
def f_now (a0 : Int32) : PG (Int32) := prf 3 (fun x_1 => pcl (f_in a0.toInt64 x_1.toInt64 1440) (fun r_3 => (if r_3 = 0 then prt (-2) else pcl (f_act 6 a0 0 0) (fun r_7 => prt r_7))))
set_option maxHeartbeats 4000000 in
set_option maxRecDepth 100000 in
theorem m_now (l : Launch) (G : gG) (Z : gM) (Q : Nat → Nat) (u u1 : GS) (r : Int32) (a0 : Int32) (sz : Nat) (hF : f_now a0 u = some (r, u1)) : Met l yX13_now (Cond.code yX13_now cX13_now 2 (some .int) :: wM) { frames := 409, cells := 0, slots := 0, locals := 4996 } (va_Pc [.ref (Q 72), .int a0] (mPM G Z Q u.1 sz)) (mQi G Q u1.1 r sz) 0 0 (mA Q sz) := by
  refine Met.ofW (cc := cX13_now) (maxL := 2) (ret := (some .int)) (by decide) rfl ?_
  intro p e s m args below meth c s₁ B hml hv
  obtain ⟨rfl, rfl, hP, hB, hD, hE⟩ := hv
  have hr := B.returns
  have hlocks := B.notSynchronized
  have hts := atoms_spec (ws := Cond.code yX13_now cX13_now 2 (some .int) :: wM) B.pre
  have hC : mX p c cX13_now 2 s m _ G Z Q := ⟨B.exec, B.bytes, hml, findClass_of_methodNamed B.named, fun w h => hts w (List.mem_cons_of_mem _ h), hB, hE⟩
  have hx := hC.1
  have hb := hC.2.1
  have hH : mH G Q u.1 s s.heap [] := ⟨hP, hD, va_S.rf⟩
  have hl := lv_entry ([.ref (Q 72), .int a0]) (n := 2) (Nat.le_of_ble_eq_true rfl)
  rw [lg_entry_eq]
  generalize (lg_sl ([.ref (Q 72), .int a0]) ++ List.replicate (2 - (lg_sl ([.ref (Q 72), .int a0])).length) Slot.unset).toArray = ls at hl ⊢
  have hl : lv_has ls 2 [(0, .ref (Q 72)), (1, .int a0)] := hl
  unfold f_now at hF
  refine lv_iload_n hx hb dX13_now_0 rfl (lv_at hl 1 rfl) ?_
  refine lv_i2l (v := a0.toInt64) hx hb dX13_now_1 rfl ?_
  refine lv_aload_n hx hb dX13_now_2 rfl (lv_at hl 0 rfl) ?_
  refine mg_3 hC hH dX13_now_3 ?_
  obtain ⟨x_1, e_2, hF⟩ := prf_some hF
  refine gx_ti e_2 ?_
  refine lv_i2l (v := x_1.toInt64) hx hb dX13_now_6 rfl ?_
  refine lv_ldc2 (v := 1440) hx hb hC.2.2.2.1 (hC.2.2.2.2.1 _ wma154) dX13_now_7 ?_
  obtain ⟨r_3, u_4, h_5, hF⟩ := pcl_some hF
  refine mcS_i (As := [.long a0.toInt64, .long x_1.toInt64, .long 1440]) (rest := []) hC hH (m_in l G Z Q u u_4 r_3 a0.toInt64 x_1.toInt64 1440 _ h_5) kwX13_in kVX13_in ⟨Nat.le_of_ble_eq_true rfl, Nat.le_of_ble_eq_true rfl⟩ rfl hl.1 rfl (Nat.le_of_ble_eq_true rfl) dX13_now_10 (fun H locs hH => ?_)
  refine lv_if_eq (tgt := 28) hx hb dX13_now_13 (by decide) (fun c_6 => ?_) (fun c_6 => ?_)
  · rw [if_pos c_6] at hF
    refine lv_bipush (v := (-2)) hx hb dX13_now_28 (by decide) ?_
    have hF := prt_eq hF
    exact mr_i hC hH hr hF dX13_now_30 hlocks
  · rw [if_neg c_6] at hF
    refine lv_aload_n hx hb dX13_now_16 rfl (lv_at hl 0 rfl) ?_
    refine lv_bipush (v := 6) hx hb dX13_now_17 (by decide) ?_
    refine lv_iload_n hx hb dX13_now_19 rfl (lv_at hl 1 rfl) ?_
    refine lv_iconst (v := 0) hx hb dX13_now_20 (by decide) ?_
    refine lv_iconst (v := 0) hx hb dX13_now_21 (by decide) ?_
    obtain ⟨r_7, u_8, h_9, hF⟩ := pcl_some hF
    refine mcV_i (As := [.int 6, .int a0, .int 0, .int 0]) (rest := []) hC hH (m_act l G Z Q u_4 u_8 r_7 6 a0 0 0 _ h_9) kwX13_act kVX13_act ⟨Nat.le_of_ble_eq_true rfl, Nat.le_of_ble_eq_true rfl⟩ rfl hl.1 rfl (Nat.le_of_ble_eq_true rfl) dX13_now_22 (fun H locs hH => ?_)
    refine lv_goto (tgt := 30) hx hb dX13_now_25 (by decide) ?_
    have hF := prt_eq hF
    exact mr_i hC hH hr hF dX13_now_30 hlocks
def f_rest (a0 : Int32) : PG (Int32) := pcl (f_in a0.toInt64 0 120) (fun r_1 => (if r_1 = 0 then prt (-2) else pcl (f_act 7 a0 0 0) (fun r_5 => prt r_5)))
set_option maxHeartbeats 4000000 in
set_option maxRecDepth 100000 in
theorem m_rest (l : Launch) (G : gG) (Z : gM) (Q : Nat → Nat) (u u1 : GS) (r : Int32) (a0 : Int32) (sz : Nat) (hF : f_rest a0 u = some (r, u1)) : Met l yX13_rest (Cond.code yX13_rest cX13_rest 2 (some .int) :: wM) { frames := 409, cells := 0, slots := 0, locals := 4996 } (va_Pc [.ref (Q 72), .int a0] (mPM G Z Q u.1 sz)) (mQi G Q u1.1 r sz) 0 0 (mA Q sz) := by
  refine Met.ofW (cc := cX13_rest) (maxL := 2) (ret := (some .int)) (by decide) rfl ?_
  intro p e s m args below meth c s₁ B hml hv
  obtain ⟨rfl, rfl, hP, hB, hD, hE⟩ := hv
  have hr := B.returns
  have hlocks := B.notSynchronized
  have hts := atoms_spec (ws := Cond.code yX13_rest cX13_rest 2 (some .int) :: wM) B.pre
  have hC : mX p c cX13_rest 2 s m _ G Z Q := ⟨B.exec, B.bytes, hml, findClass_of_methodNamed B.named, fun w h => hts w (List.mem_cons_of_mem _ h), hB, hE⟩
  have hx := hC.1
  have hb := hC.2.1
  have hH : mH G Q u.1 s s.heap [] := ⟨hP, hD, va_S.rf⟩
  have hl := lv_entry ([.ref (Q 72), .int a0]) (n := 2) (Nat.le_of_ble_eq_true rfl)
  rw [lg_entry_eq]
  generalize (lg_sl ([.ref (Q 72), .int a0]) ++ List.replicate (2 - (lg_sl ([.ref (Q 72), .int a0])).length) Slot.unset).toArray = ls at hl ⊢
  have hl : lv_has ls 2 [(0, .ref (Q 72)), (1, .int a0)] := hl
  unfold f_rest at hF
  refine lv_iload_n hx hb dX13_rest_0 rfl (lv_at hl 1 rfl) ?_
  refine lv_i2l (v := a0.toInt64) hx hb dX13_rest_1 rfl ?_
  refine lv_lconst (v := 0) hx hb dX13_rest_2 (by decide) ?_
  refine lv_ldc2 (v := 120) hx hb hC.2.2.2.1 (hC.2.2.2.2.1 _ wma155) dX13_rest_3 ?_
  obtain ⟨r_1, u_2, h_3, hF⟩ := pcl_some hF
  refine mcS_i (As := [.long a0.toInt64, .long 0, .long 120]) (rest := []) hC hH (m_in l G Z Q u u_2 r_1 a0.toInt64 0 120 _ h_3) kwX13_in kVX13_in ⟨Nat.le_of_ble_eq_true rfl, Nat.le_of_ble_eq_true rfl⟩ rfl hl.1 rfl (Nat.le_of_ble_eq_true rfl) dX13_rest_6 (fun H locs hH => ?_)
  refine lv_if_eq (tgt := 24) hx hb dX13_rest_9 (by decide) (fun c_4 => ?_) (fun c_4 => ?_)
  · rw [if_pos c_4] at hF
    refine lv_bipush (v := (-2)) hx hb dX13_rest_24 (by decide) ?_
    have hF := prt_eq hF
    exact mr_i hC hH hr hF dX13_rest_26 hlocks
  · rw [if_neg c_4] at hF
    refine lv_aload_n hx hb dX13_rest_12 rfl (lv_at hl 0 rfl) ?_
    refine lv_bipush (v := 7) hx hb dX13_rest_13 (by decide) ?_
    refine lv_iload_n hx hb dX13_rest_15 rfl (lv_at hl 1 rfl) ?_
    refine lv_iconst (v := 0) hx hb dX13_rest_16 (by decide) ?_
    refine lv_iconst (v := 0) hx hb dX13_rest_17 (by decide) ?_
    obtain ⟨r_5, u_6, h_7, hF⟩ := pcl_some hF
    refine mcV_i (As := [.int 7, .int a0, .int 0, .int 0]) (rest := []) hC hH (m_act l G Z Q u_2 u_6 r_5 7 a0 0 0 _ h_7) kwX13_act kVX13_act ⟨Nat.le_of_ble_eq_true rfl, Nat.le_of_ble_eq_true rfl⟩ rfl hl.1 rfl (Nat.le_of_ble_eq_true rfl) dX13_rest_18 (fun H locs hH => ?_)
    refine lv_goto (tgt := 26) hx hb dX13_rest_21 (by decide) ?_
    have hF := prt_eq hF
    exact mr_i hC hH hr hF dX13_rest_26 hlocks
def f_begin (a0 : Int32) (a1 : Int32) (a2 : Int32) : PG (Int32) := pcl (f_isFight a0 a1) (fun r_1 => (if r_1 = 0 then prt (-2) else pcl (f_isMat a2) (fun r_5 => (if r_5 = 0 then prt (-2) else prf 30 (fun x_9 => (if x_9 = 0 then prt (-3) else pcl (f_isReady a0 a1) (fun r_12 => (if r_12 = 0 then prt (-3) else prd 22 4 a2 (fun x_16 => (if x_16 = (-1) then pcl (fS 24 0 a0 a1 0 0) (fun r_20 => pcl (f_rests r_20) (fun r_23 => (if r_23 = 0 then pcl (fS 24 0 a0 a1 1 0) (fun r_27 => pcl (f_rests r_27) (fun r_30 => (if r_30 = 0 then pcl (f_act 8 a0 a1 a2) (fun r_34 => prt r_34) else prt (-5)))) else prt (-5)))) else prt (-3)))))))))))
set_option maxHeartbeats 4000000 in
set_option maxRecDepth 100000 in
theorem m_begin (l : Launch) (G : gG) (Z : gM) (Q : Nat → Nat) (u u1 : GS) (r : Int32) (a0 : Int32) (a1 : Int32) (a2 : Int32) (sz : Nat) (hF : f_begin a0 a1 a2 u = some (r, u1)) : Met l yX13_begin (Cond.code yX13_begin cX13_begin 4 (some .int) :: wM) { frames := 409, cells := 0, slots := 0, locals := 4996 } (va_Pc [.ref (Q 72), .int a0, .int a1, .int a2] (mPM G Z Q u.1 sz)) (mQi G Q u1.1 r sz) 0 0 (mA Q sz) := by
  refine Met.ofW (cc := cX13_begin) (maxL := 4) (ret := (some .int)) (by decide) rfl ?_
  intro p e s m args below meth c s₁ B hml hv
  obtain ⟨rfl, rfl, hP, hB, hD, hE⟩ := hv
  have hr := B.returns
  have hlocks := B.notSynchronized
  have hts := atoms_spec (ws := Cond.code yX13_begin cX13_begin 4 (some .int) :: wM) B.pre
  have hC : mX p c cX13_begin 4 s m _ G Z Q := ⟨B.exec, B.bytes, hml, findClass_of_methodNamed B.named, fun w h => hts w (List.mem_cons_of_mem _ h), hB, hE⟩
  have hx := hC.1
  have hb := hC.2.1
  have hH : mH G Q u.1 s s.heap [] := ⟨hP, hD, va_S.rf⟩
  have hl := lv_entry ([.ref (Q 72), .int a0, .int a1, .int a2]) (n := 4) (Nat.le_of_ble_eq_true rfl)
  rw [lg_entry_eq]
  generalize (lg_sl ([.ref (Q 72), .int a0, .int a1, .int a2]) ++ List.replicate (4 - (lg_sl ([.ref (Q 72), .int a0, .int a1, .int a2])).length) Slot.unset).toArray = ls at hl ⊢
  have hl : lv_has ls 4 [(0, .ref (Q 72)), (1, .int a0), (2, .int a1), (3, .int a2)] := hl
  unfold f_begin at hF
  refine lv_aload_n hx hb dX13_begin_0 rfl (lv_at hl 0 rfl) ?_
  refine lv_iload_n hx hb dX13_begin_1 rfl (lv_at hl 1 rfl) ?_
  refine lv_iload_n hx hb dX13_begin_2 rfl (lv_at hl 2 rfl) ?_
  obtain ⟨r_1, u_2, h_3, hF⟩ := pcl_some hF
  refine mcV_i (As := [.int a0, .int a1]) (rest := []) hC hH (m_isFight l G Z Q u u_2 r_1 a0 a1 _ h_3) kwX13_isFight kVX13_isFight ⟨Nat.le_of_ble_eq_true rfl, Nat.le_of_ble_eq_true rfl⟩ rfl hl.1 rfl (Nat.le_of_ble_eq_true rfl) dX13_begin_3 (fun H locs hH => ?_)
  refine lv_if_eq (tgt := 16) hx hb dX13_begin_6 (by decide) (fun c_4 => ?_) (fun c_4 => ?_)
  · rw [if_pos c_4] at hF
    refine lv_bipush (v := (-2)) hx hb dX13_begin_16 (by decide) ?_
    have hF := prt_eq hF
    exact mr_i hC hH hr hF dX13_begin_18 hlocks
  · rw [if_neg c_4] at hF
    refine lv_iload_n hx hb dX13_begin_9 rfl (lv_at hl 3 rfl) ?_
    obtain ⟨r_5, u_6, h_7, hF⟩ := pcl_some hF
    refine mcS_i (As := [.int a2]) (rest := []) hC hH (m_isMat l G Z Q u_2 u_6 r_5 a2 _ h_7) kwX13_isMat kVX13_isMat ⟨Nat.le_of_ble_eq_true rfl, Nat.le_of_ble_eq_true rfl⟩ rfl hl.1 rfl (Nat.le_of_ble_eq_true rfl) dX13_begin_10 (fun H locs hH => ?_)
    refine lv_if_ne (tgt := 19) hx hb dX13_begin_13 (by decide) (fun c_8 => ?_) (fun c_8 => ?_)
    · rw [if_neg c_8] at hF
      refine lv_aload_n hx hb dX13_begin_19 rfl (lv_at hl 0 rfl) ?_
      refine mg_30 hC hH dX13_begin_20 ?_
      obtain ⟨x_9, e_10, hF⟩ := prf_some hF
      refine gx_ti e_10 ?_
      refine lv_if_eq (tgt := 45) hx hb dX13_begin_23 (by decide) (fun c_11 => ?_) (fun c_11 => ?_)
      · rw [if_pos c_11] at hF
        refine lv_bipush (v := (-3)) hx hb dX13_begin_45 (by decide) ?_
        have hF := prt_eq hF
        exact mr_i hC hH hr hF dX13_begin_47 hlocks
      · rw [if_neg c_11] at hF
        refine lv_aload_n hx hb dX13_begin_26 rfl (lv_at hl 0 rfl) ?_
        refine lv_iload_n hx hb dX13_begin_27 rfl (lv_at hl 1 rfl) ?_
        refine lv_iload_n hx hb dX13_begin_28 rfl (lv_at hl 2 rfl) ?_
        obtain ⟨r_12, u_13, h_14, hF⟩ := pcl_some hF
        refine mcV_i (As := [.int a0, .int a1]) (rest := []) hC hH (m_isReady l G Z Q u_6 u_13 r_12 a0 a1 _ h_14) kwX13_isReady kVX13_isReady ⟨Nat.le_of_ble_eq_true rfl, Nat.le_of_ble_eq_true rfl⟩ rfl hl.1 rfl (Nat.le_of_ble_eq_true rfl) dX13_begin_29 (fun H locs hH => ?_)
        refine lv_if_eq (tgt := 45) hx hb dX13_begin_32 (by decide) (fun c_15 => ?_) (fun c_15 => ?_)
        · rw [if_pos c_15] at hF
          refine lv_bipush (v := (-3)) hx hb dX13_begin_45 (by decide) ?_
          have hF := prt_eq hF
          exact mr_i hC hH hr hF dX13_begin_47 hlocks
        · rw [if_neg c_15] at hF
          refine lv_aload_n hx hb dX13_begin_35 rfl (lv_at hl 0 rfl) ?_
          refine mg_22 hC hH dX13_begin_36 ?_
          refine lv_iload_n hx hb dX13_begin_39 rfl (lv_at hl 3 rfl) ?_
          obtain ⟨x_16, g_17, e_18, hF⟩ := prd_some hF
          refine ml_22 hC hH g_17 dX13_begin_40 ?_
          refine gx_ti e_18 ?_
          refine lv_iconst (v := (-1)) hx hb dX13_begin_41 (by decide) ?_
          refine lv_icmp_eq (tgt := 48) hx hb dX13_begin_42 (by decide) (fun c_19 => ?_) (fun c_19 => ?_)
          · rw [if_pos c_19] at hF
            refine lv_aload_n hx hb dX13_begin_48 rfl (lv_at hl 0 rfl) ?_
            refine lv_aload_n hx hb dX13_begin_49 rfl (lv_at hl 0 rfl) ?_
            refine lv_iload_n hx hb dX13_begin_50 rfl (lv_at hl 1 rfl) ?_
            refine lv_iload_n hx hb dX13_begin_51 rfl (lv_at hl 2 rfl) ?_
            refine lv_iconst (v := 0) hx hb dX13_begin_52 (by decide) ?_
            obtain ⟨r_20, u_21, h_22, hF⟩ := pcl_some hF
            refine mcV_i (As := [.int a0, .int a1, .int 0]) (rest := [.ref (Q 72)]) hC hH (m_sideOf l G Z Q u_13 u_21 r_20 a0 a1 0 _ h_22) kwX13_sideOf kVX13_sideOf ⟨Nat.le_of_ble_eq_true rfl, Nat.le_of_ble_eq_true rfl⟩ rfl hl.1 rfl (Nat.le_of_ble_eq_true rfl) dX13_begin_53 (fun H locs hH => ?_)
            obtain ⟨r_23, u_24, h_25, hF⟩ := pcl_some hF
            refine mcV_i (As := [.int r_20]) (rest := []) hC hH (m_rests l G Z Q u_21 u_24 r_23 r_20 _ h_25) kwX13_rests kVX13_rests ⟨Nat.le_of_ble_eq_true rfl, Nat.le_of_ble_eq_true rfl⟩ rfl hl.1 rfl (Nat.le_of_ble_eq_true rfl) dX13_begin_56 (fun H locs hH => ?_)
            refine lv_if_ne (tgt := 76) hx hb dX13_begin_59 (by decide) (fun c_26 => ?_) (fun c_26 => ?_)
            · rw [if_neg c_26] at hF
              refine lv_bipush (v := (-5)) hx hb dX13_begin_76 (by decide) ?_
              refine lv_goto (tgt := 90) hx hb dX13_begin_78 (by decide) ?_
              have hF := prt_eq hF
              exact mr_i hC hH hr hF dX13_begin_90 hlocks
            · rw [if_pos c_26] at hF
              refine lv_aload_n hx hb dX13_begin_62 rfl (lv_at hl 0 rfl) ?_
              refine lv_aload_n hx hb dX13_begin_63 rfl (lv_at hl 0 rfl) ?_
              refine lv_iload_n hx hb dX13_begin_64 rfl (lv_at hl 1 rfl) ?_
              refine lv_iload_n hx hb dX13_begin_65 rfl (lv_at hl 2 rfl) ?_
              refine lv_iconst (v := 1) hx hb dX13_begin_66 (by decide) ?_
              obtain ⟨r_27, u_28, h_29, hF⟩ := pcl_some hF
              refine mcV_i (As := [.int a0, .int a1, .int 1]) (rest := [.ref (Q 72)]) hC hH (m_sideOf l G Z Q u_24 u_28 r_27 a0 a1 1 _ h_29) kwX13_sideOf kVX13_sideOf ⟨Nat.le_of_ble_eq_true rfl, Nat.le_of_ble_eq_true rfl⟩ rfl hl.1 rfl (Nat.le_of_ble_eq_true rfl) dX13_begin_67 (fun H locs hH => ?_)
              obtain ⟨r_30, u_31, h_32, hF⟩ := pcl_some hF
              refine mcV_i (As := [.int r_27]) (rest := []) hC hH (m_rests l G Z Q u_28 u_31 r_30 r_27 _ h_32) kwX13_rests kVX13_rests ⟨Nat.le_of_ble_eq_true rfl, Nat.le_of_ble_eq_true rfl⟩ rfl hl.1 rfl (Nat.le_of_ble_eq_true rfl) dX13_begin_70 (fun H locs hH => ?_)
              refine lv_if_eq (tgt := 81) hx hb dX13_begin_73 (by decide) (fun c_33 => ?_) (fun c_33 => ?_)
              · rw [if_pos c_33] at hF
                refine lv_aload_n hx hb dX13_begin_81 rfl (lv_at hl 0 rfl) ?_
                refine lv_bipush (v := 8) hx hb dX13_begin_82 (by decide) ?_
                refine lv_iload_n hx hb dX13_begin_84 rfl (lv_at hl 1 rfl) ?_
                refine lv_iload_n hx hb dX13_begin_85 rfl (lv_at hl 2 rfl) ?_
                refine lv_iload_n hx hb dX13_begin_86 rfl (lv_at hl 3 rfl) ?_
                obtain ⟨r_34, u_35, h_36, hF⟩ := pcl_some hF
                refine mcV_i (As := [.int 8, .int a0, .int a1, .int a2]) (rest := []) hC hH (m_act l G Z Q u_31 u_35 r_34 8 a0 a1 a2 _ h_36) kwX13_act kVX13_act ⟨Nat.le_of_ble_eq_true rfl, Nat.le_of_ble_eq_true rfl⟩ rfl hl.1 rfl (Nat.le_of_ble_eq_true rfl) dX13_begin_87 (fun H locs hH => ?_)
                have hF := prt_eq hF
                exact mr_i hC hH hr hF dX13_begin_90 hlocks
              · rw [if_neg c_33] at hF
                refine lv_bipush (v := (-5)) hx hb dX13_begin_76 (by decide) ?_
                refine lv_goto (tgt := 90) hx hb dX13_begin_78 (by decide) ?_
                have hF := prt_eq hF
                exact mr_i hC hH hr hF dX13_begin_90 hlocks
          · rw [if_neg c_19] at hF
            refine lv_bipush (v := (-3)) hx hb dX13_begin_45 (by decide) ?_
            have hF := prt_eq hF
            exact mr_i hC hH hr hF dX13_begin_47 hlocks
    · rw [if_pos c_8] at hF
      refine lv_bipush (v := (-2)) hx hb dX13_begin_16 (by decide) ?_
      have hF := prt_eq hF
      exact mr_i hC hH hr hF dX13_begin_18 hlocks
def f_event (a0 : Int32) (a1 : Int32) (a2 : Int32) : PG (Int32) := pcl (f_isMat a0) (fun r_1 => (if r_1 = 0 then prt (-2) else pcl (f_in a1.toInt64 0 1) (fun r_5 => (if r_5 = 0 then prt (-2) else prf 29 (fun x_9 => pcl (f_in a2.toInt64 0 ((x_9.toInt64 : Int64) - (1 : Int64))) (fun r_11 => (if r_11 = 0 then prt (-2) else prd 22 4 a0 (fun x_15 => (if x_15 = (-1) then prt (-3) else prd 26 4 a0 (fun x_19 => (if x_19 = 0 then pcl (f_act 9 a0 a1 a2) (fun r_23 => prt r_23) else prt (-3))))))))))))
set_option maxHeartbeats 4000000 in
set_option maxRecDepth 100000 in
theorem m_event (l : Launch) (G : gG) (Z : gM) (Q : Nat → Nat) (u u1 : GS) (r : Int32) (a0 : Int32) (a1 : Int32) (a2 : Int32) (sz : Nat) (hF : f_event a0 a1 a2 u = some (r, u1)) : Met l yX13_event (Cond.code yX13_event cX13_event 4 (some .int) :: wM) { frames := 409, cells := 0, slots := 0, locals := 4996 } (va_Pc [.ref (Q 72), .int a0, .int a1, .int a2] (mPM G Z Q u.1 sz)) (mQi G Q u1.1 r sz) 0 0 (mA Q sz) := by
  refine Met.ofW (cc := cX13_event) (maxL := 4) (ret := (some .int)) (by decide) rfl ?_
  intro p e s m args below meth c s₁ B hml hv
  obtain ⟨rfl, rfl, hP, hB, hD, hE⟩ := hv
  have hr := B.returns
  have hlocks := B.notSynchronized
  have hts := atoms_spec (ws := Cond.code yX13_event cX13_event 4 (some .int) :: wM) B.pre
  have hC : mX p c cX13_event 4 s m _ G Z Q := ⟨B.exec, B.bytes, hml, findClass_of_methodNamed B.named, fun w h => hts w (List.mem_cons_of_mem _ h), hB, hE⟩
  have hx := hC.1
  have hb := hC.2.1
  have hH : mH G Q u.1 s s.heap [] := ⟨hP, hD, va_S.rf⟩
  have hl := lv_entry ([.ref (Q 72), .int a0, .int a1, .int a2]) (n := 4) (Nat.le_of_ble_eq_true rfl)
  rw [lg_entry_eq]
  generalize (lg_sl ([.ref (Q 72), .int a0, .int a1, .int a2]) ++ List.replicate (4 - (lg_sl ([.ref (Q 72), .int a0, .int a1, .int a2])).length) Slot.unset).toArray = ls at hl ⊢
  have hl : lv_has ls 4 [(0, .ref (Q 72)), (1, .int a0), (2, .int a1), (3, .int a2)] := hl
  unfold f_event at hF
  refine lv_iload_n hx hb dX13_event_0 rfl (lv_at hl 1 rfl) ?_
  obtain ⟨r_1, u_2, h_3, hF⟩ := pcl_some hF
  refine mcS_i (As := [.int a0]) (rest := []) hC hH (m_isMat l G Z Q u u_2 r_1 a0 _ h_3) kwX13_isMat kVX13_isMat ⟨Nat.le_of_ble_eq_true rfl, Nat.le_of_ble_eq_true rfl⟩ rfl hl.1 rfl (Nat.le_of_ble_eq_true rfl) dX13_event_1 (fun H locs hH => ?_)
  refine lv_if_eq (tgt := 33) hx hb dX13_event_4 (by decide) (fun c_4 => ?_) (fun c_4 => ?_)
  · rw [if_pos c_4] at hF
    refine lv_bipush (v := (-2)) hx hb dX13_event_33 (by decide) ?_
    have hF := prt_eq hF
    exact mr_i hC hH hr hF dX13_event_35 hlocks
  · rw [if_neg c_4] at hF
    refine lv_iload_n hx hb dX13_event_7 rfl (lv_at hl 2 rfl) ?_
    refine lv_i2l (v := a1.toInt64) hx hb dX13_event_8 rfl ?_
    refine lv_lconst (v := 0) hx hb dX13_event_9 (by decide) ?_
    refine lv_lconst (v := 1) hx hb dX13_event_10 (by decide) ?_
    obtain ⟨r_5, u_6, h_7, hF⟩ := pcl_some hF
    refine mcS_i (As := [.long a1.toInt64, .long 0, .long 1]) (rest := []) hC hH (m_in l G Z Q u_2 u_6 r_5 a1.toInt64 0 1 _ h_7) kwX13_in kVX13_in ⟨Nat.le_of_ble_eq_true rfl, Nat.le_of_ble_eq_true rfl⟩ rfl hl.1 rfl (Nat.le_of_ble_eq_true rfl) dX13_event_11 (fun H locs hH => ?_)
    refine lv_if_eq (tgt := 33) hx hb dX13_event_14 (by decide) (fun c_8 => ?_) (fun c_8 => ?_)
    · rw [if_pos c_8] at hF
      refine lv_bipush (v := (-2)) hx hb dX13_event_33 (by decide) ?_
      have hF := prt_eq hF
      exact mr_i hC hH hr hF dX13_event_35 hlocks
    · rw [if_neg c_8] at hF
      refine lv_iload_n hx hb dX13_event_17 rfl (lv_at hl 3 rfl) ?_
      refine lv_i2l (v := a2.toInt64) hx hb dX13_event_18 rfl ?_
      refine lv_lconst (v := 0) hx hb dX13_event_19 (by decide) ?_
      refine lv_aload_n hx hb dX13_event_20 rfl (lv_at hl 0 rfl) ?_
      refine mg_29 hC hH dX13_event_21 ?_
      obtain ⟨x_9, e_10, hF⟩ := prf_some hF
      refine gx_ti e_10 ?_
      refine lv_i2l (v := x_9.toInt64) hx hb dX13_event_24 rfl ?_
      refine lv_lconst (v := 1) hx hb dX13_event_25 (by decide) ?_
      refine lv_lsub hx hb dX13_event_26 ?_
      obtain ⟨r_11, u_12, h_13, hF⟩ := pcl_some hF
      refine mcS_i (As := [.long a2.toInt64, .long 0, .long ((x_9.toInt64 : Int64) - (1 : Int64))]) (rest := []) hC hH (m_in l G Z Q u_6 u_12 r_11 a2.toInt64 0 ((x_9.toInt64 : Int64) - (1 : Int64)) _ h_13) kwX13_in kVX13_in ⟨Nat.le_of_ble_eq_true rfl, Nat.le_of_ble_eq_true rfl⟩ rfl hl.1 rfl (Nat.le_of_ble_eq_true rfl) dX13_event_27 (fun H locs hH => ?_)
      refine lv_if_ne (tgt := 36) hx hb dX13_event_30 (by decide) (fun c_14 => ?_) (fun c_14 => ?_)
      · rw [if_neg c_14] at hF
        refine lv_aload_n hx hb dX13_event_36 rfl (lv_at hl 0 rfl) ?_
        refine mg_22 hC hH dX13_event_37 ?_
        refine lv_iload_n hx hb dX13_event_40 rfl (lv_at hl 1 rfl) ?_
        obtain ⟨x_15, g_16, e_17, hF⟩ := prd_some hF
        refine ml_22 hC hH g_16 dX13_event_41 ?_
        refine gx_ti e_17 ?_
        refine lv_iconst (v := (-1)) hx hb dX13_event_42 (by decide) ?_
        refine lv_icmp_eq (tgt := 55) hx hb dX13_event_43 (by decide) (fun c_18 => ?_) (fun c_18 => ?_)
        · rw [if_pos c_18] at hF
          refine lv_bipush (v := (-3)) hx hb dX13_event_55 (by decide) ?_
          refine lv_goto (tgt := 69) hx hb dX13_event_57 (by decide) ?_
          have hF := prt_eq hF
          exact mr_i hC hH hr hF dX13_event_69 hlocks
        · rw [if_neg c_18] at hF
          refine lv_aload_n hx hb dX13_event_46 rfl (lv_at hl 0 rfl) ?_
          refine mg_26 hC hH dX13_event_47 ?_
          refine lv_iload_n hx hb dX13_event_50 rfl (lv_at hl 1 rfl) ?_
          obtain ⟨x_19, g_20, e_21, hF⟩ := prd_some hF
          refine ml_26 hC hH g_20 dX13_event_51 ?_
          refine gx_ti e_21 ?_
          refine lv_if_eq (tgt := 60) hx hb dX13_event_52 (by decide) (fun c_22 => ?_) (fun c_22 => ?_)
          · rw [if_pos c_22] at hF
            refine lv_aload_n hx hb dX13_event_60 rfl (lv_at hl 0 rfl) ?_
            refine lv_bipush (v := 9) hx hb dX13_event_61 (by decide) ?_
            refine lv_iload_n hx hb dX13_event_63 rfl (lv_at hl 1 rfl) ?_
            refine lv_iload_n hx hb dX13_event_64 rfl (lv_at hl 2 rfl) ?_
            refine lv_iload_n hx hb dX13_event_65 rfl (lv_at hl 3 rfl) ?_
            obtain ⟨r_23, u_24, h_25, hF⟩ := pcl_some hF
            refine mcV_i (As := [.int 9, .int a0, .int a1, .int a2]) (rest := []) hC hH (m_act l G Z Q u_12 u_24 r_23 9 a0 a1 a2 _ h_25) kwX13_act kVX13_act ⟨Nat.le_of_ble_eq_true rfl, Nat.le_of_ble_eq_true rfl⟩ rfl hl.1 rfl (Nat.le_of_ble_eq_true rfl) dX13_event_66 (fun H locs hH => ?_)
            have hF := prt_eq hF
            exact mr_i hC hH hr hF dX13_event_69 hlocks
          · rw [if_neg c_22] at hF
            refine lv_bipush (v := (-3)) hx hb dX13_event_55 (by decide) ?_
            refine lv_goto (tgt := 69) hx hb dX13_event_57 (by decide) ?_
            have hF := prt_eq hF
            exact mr_i hC hH hr hF dX13_event_69 hlocks
      · rw [if_pos c_14] at hF
        refine lv_bipush (v := (-2)) hx hb dX13_event_33 (by decide) ?_
        have hF := prt_eq hF
        exact mr_i hC hH hr hF dX13_event_35 hlocks
def f_tick (a0 : Int32) (a1 : Int32) : PG (Int32) := pcl (f_isMat a0) (fun r_1 => (if r_1 = 0 then prt (-2) else pcl (f_in a1.toInt64 1 9999) (fun r_5 => (if r_5 = 0 then prt (-2) else prd 22 4 a0 (fun x_9 => (if x_9 = (-1) then prt (-3) else prd 26 4 a0 (fun x_13 => (if x_13 = 0 then prd 23 4 a0 (fun x_17 => (if a1 ≤ x_17 then pcl (f_act 10 a0 a1 0) (fun r_21 => prt r_21) else prt (-2))) else prt (-3)))))))))
set_option maxHeartbeats 4000000 in
set_option maxRecDepth 100000 in
theorem m_tick (l : Launch) (G : gG) (Z : gM) (Q : Nat → Nat) (u u1 : GS) (r : Int32) (a0 : Int32) (a1 : Int32) (sz : Nat) (hF : f_tick a0 a1 u = some (r, u1)) : Met l yX13_tick (Cond.code yX13_tick cX13_tick 3 (some .int) :: wM) { frames := 409, cells := 0, slots := 0, locals := 4996 } (va_Pc [.ref (Q 72), .int a0, .int a1] (mPM G Z Q u.1 sz)) (mQi G Q u1.1 r sz) 0 0 (mA Q sz) := by
  refine Met.ofW (cc := cX13_tick) (maxL := 3) (ret := (some .int)) (by decide) rfl ?_
  intro p e s m args below meth c s₁ B hml hv
  obtain ⟨rfl, rfl, hP, hB, hD, hE⟩ := hv
  have hr := B.returns
  have hlocks := B.notSynchronized
  have hts := atoms_spec (ws := Cond.code yX13_tick cX13_tick 3 (some .int) :: wM) B.pre
  have hC : mX p c cX13_tick 3 s m _ G Z Q := ⟨B.exec, B.bytes, hml, findClass_of_methodNamed B.named, fun w h => hts w (List.mem_cons_of_mem _ h), hB, hE⟩
  have hx := hC.1
  have hb := hC.2.1
  have hH : mH G Q u.1 s s.heap [] := ⟨hP, hD, va_S.rf⟩
  have hl := lv_entry ([.ref (Q 72), .int a0, .int a1]) (n := 3) (Nat.le_of_ble_eq_true rfl)
  rw [lg_entry_eq]
  generalize (lg_sl ([.ref (Q 72), .int a0, .int a1]) ++ List.replicate (3 - (lg_sl ([.ref (Q 72), .int a0, .int a1])).length) Slot.unset).toArray = ls at hl ⊢
  have hl : lv_has ls 3 [(0, .ref (Q 72)), (1, .int a0), (2, .int a1)] := hl
  unfold f_tick at hF
  refine lv_iload_n hx hb dX13_tick_0 rfl (lv_at hl 1 rfl) ?_
  obtain ⟨r_1, u_2, h_3, hF⟩ := pcl_some hF
  refine mcS_i (As := [.int a0]) (rest := []) hC hH (m_isMat l G Z Q u u_2 r_1 a0 _ h_3) kwX13_isMat kVX13_isMat ⟨Nat.le_of_ble_eq_true rfl, Nat.le_of_ble_eq_true rfl⟩ rfl hl.1 rfl (Nat.le_of_ble_eq_true rfl) dX13_tick_1 (fun H locs hH => ?_)
  refine lv_if_eq (tgt := 19) hx hb dX13_tick_4 (by decide) (fun c_4 => ?_) (fun c_4 => ?_)
  · rw [if_pos c_4] at hF
    refine lv_bipush (v := (-2)) hx hb dX13_tick_19 (by decide) ?_
    have hF := prt_eq hF
    exact mr_i hC hH hr hF dX13_tick_21 hlocks
  · rw [if_neg c_4] at hF
    refine lv_iload_n hx hb dX13_tick_7 rfl (lv_at hl 2 rfl) ?_
    refine lv_i2l (v := a1.toInt64) hx hb dX13_tick_8 rfl ?_
    refine lv_lconst (v := 1) hx hb dX13_tick_9 (by decide) ?_
    refine lv_ldc2 (v := 9999) hx hb hC.2.2.2.1 (hC.2.2.2.2.1 _ wma158) dX13_tick_10 ?_
    obtain ⟨r_5, u_6, h_7, hF⟩ := pcl_some hF
    refine mcS_i (As := [.long a1.toInt64, .long 1, .long 9999]) (rest := []) hC hH (m_in l G Z Q u_2 u_6 r_5 a1.toInt64 1 9999 _ h_7) kwX13_in kVX13_in ⟨Nat.le_of_ble_eq_true rfl, Nat.le_of_ble_eq_true rfl⟩ rfl hl.1 rfl (Nat.le_of_ble_eq_true rfl) dX13_tick_13 (fun H locs hH => ?_)
    refine lv_if_ne (tgt := 22) hx hb dX13_tick_16 (by decide) (fun c_8 => ?_) (fun c_8 => ?_)
    · rw [if_neg c_8] at hF
      refine lv_aload_n hx hb dX13_tick_22 rfl (lv_at hl 0 rfl) ?_
      refine mg_22 hC hH dX13_tick_23 ?_
      refine lv_iload_n hx hb dX13_tick_26 rfl (lv_at hl 1 rfl) ?_
      obtain ⟨x_9, g_10, e_11, hF⟩ := prd_some hF
      refine ml_22 hC hH g_10 dX13_tick_27 ?_
      refine gx_ti e_11 ?_
      refine lv_iconst (v := (-1)) hx hb dX13_tick_28 (by decide) ?_
      refine lv_icmp_eq (tgt := 41) hx hb dX13_tick_29 (by decide) (fun c_12 => ?_) (fun c_12 => ?_)
      · rw [if_pos c_12] at hF
        refine lv_bipush (v := (-3)) hx hb dX13_tick_41 (by decide) ?_
        have hF := prt_eq hF
        exact mr_i hC hH hr hF dX13_tick_43 hlocks
      · rw [if_neg c_12] at hF
        refine lv_aload_n hx hb dX13_tick_32 rfl (lv_at hl 0 rfl) ?_
        refine mg_26 hC hH dX13_tick_33 ?_
        refine lv_iload_n hx hb dX13_tick_36 rfl (lv_at hl 1 rfl) ?_
        obtain ⟨x_13, g_14, e_15, hF⟩ := prd_some hF
        refine ml_26 hC hH g_14 dX13_tick_37 ?_
        refine gx_ti e_15 ?_
        refine lv_if_eq (tgt := 44) hx hb dX13_tick_38 (by decide) (fun c_16 => ?_) (fun c_16 => ?_)
        · rw [if_pos c_16] at hF
          refine lv_iload_n hx hb dX13_tick_44 rfl (lv_at hl 2 rfl) ?_
          refine lv_aload_n hx hb dX13_tick_45 rfl (lv_at hl 0 rfl) ?_
          refine mg_23 hC hH dX13_tick_46 ?_
          refine lv_iload_n hx hb dX13_tick_49 rfl (lv_at hl 1 rfl) ?_
          obtain ⟨x_17, g_18, e_19, hF⟩ := prd_some hF
          refine ml_23 hC hH g_18 dX13_tick_50 ?_
          refine gx_ti e_19 ?_
          refine lv_icmp_le (tgt := 59) hx hb dX13_tick_51 (by decide) (fun c_20 => ?_) (fun c_20 => ?_)
          · rw [if_pos c_20] at hF
            refine lv_aload_n hx hb dX13_tick_59 rfl (lv_at hl 0 rfl) ?_
            refine lv_bipush (v := 10) hx hb dX13_tick_60 (by decide) ?_
            refine lv_iload_n hx hb dX13_tick_62 rfl (lv_at hl 1 rfl) ?_
            refine lv_iload_n hx hb dX13_tick_63 rfl (lv_at hl 2 rfl) ?_
            refine lv_iconst (v := 0) hx hb dX13_tick_64 (by decide) ?_
            obtain ⟨r_21, u_22, h_23, hF⟩ := pcl_some hF
            refine mcV_i (As := [.int 10, .int a0, .int a1, .int 0]) (rest := []) hC hH (m_act l G Z Q u_6 u_22 r_21 10 a0 a1 0 _ h_23) kwX13_act kVX13_act ⟨Nat.le_of_ble_eq_true rfl, Nat.le_of_ble_eq_true rfl⟩ rfl hl.1 rfl (Nat.le_of_ble_eq_true rfl) dX13_tick_65 (fun H locs hH => ?_)
            have hF := prt_eq hF
            exact mr_i hC hH hr hF dX13_tick_68 hlocks
          · rw [if_neg c_20] at hF
            refine lv_bipush (v := (-2)) hx hb dX13_tick_54 (by decide) ?_
            refine lv_goto (tgt := 68) hx hb dX13_tick_56 (by decide) ?_
            have hF := prt_eq hF
            exact mr_i hC hH hr hF dX13_tick_68 hlocks
        · rw [if_neg c_16] at hF
          refine lv_bipush (v := (-3)) hx hb dX13_tick_41 (by decide) ?_
          have hF := prt_eq hF
          exact mr_i hC hH hr hF dX13_tick_43 hlocks
    · rw [if_pos c_8] at hF
      refine lv_bipush (v := (-2)) hx hb dX13_tick_19 (by decide) ?_
      have hF := prt_eq hF
      exact mr_i hC hH hr hF dX13_tick_21 hlocks
def f_decide (a0 : Int32) (a1 : Int32) : PG (Int32) := pcl (f_isMat a0) (fun r_1 => (if r_1 = 0 then prt (-2) else pcl (f_in a1.toInt64 0 1) (fun r_5 => (if r_5 = 0 then prt (-2) else prd 22 4 a0 (fun x_9 => (if x_9 = (-1) then prt (-3) else prd 26 4 a0 (fun x_13 => (if x_13 = 0 then prt (-3) else pcl (f_act 11 a0 a1 0) (fun r_17 => prt r_17)))))))))
set_option maxHeartbeats 4000000 in
set_option maxRecDepth 100000 in
theorem m_decide (l : Launch) (G : gG) (Z : gM) (Q : Nat → Nat) (u u1 : GS) (r : Int32) (a0 : Int32) (a1 : Int32) (sz : Nat) (hF : f_decide a0 a1 u = some (r, u1)) : Met l yX13_decide (Cond.code yX13_decide cX13_decide 3 (some .int) :: wM) { frames := 409, cells := 0, slots := 0, locals := 4996 } (va_Pc [.ref (Q 72), .int a0, .int a1] (mPM G Z Q u.1 sz)) (mQi G Q u1.1 r sz) 0 0 (mA Q sz) := by
  refine Met.ofW (cc := cX13_decide) (maxL := 3) (ret := (some .int)) (by decide) rfl ?_
  intro p e s m args below meth c s₁ B hml hv
  obtain ⟨rfl, rfl, hP, hB, hD, hE⟩ := hv
  have hr := B.returns
  have hlocks := B.notSynchronized
  have hts := atoms_spec (ws := Cond.code yX13_decide cX13_decide 3 (some .int) :: wM) B.pre
  have hC : mX p c cX13_decide 3 s m _ G Z Q := ⟨B.exec, B.bytes, hml, findClass_of_methodNamed B.named, fun w h => hts w (List.mem_cons_of_mem _ h), hB, hE⟩
  have hx := hC.1
  have hb := hC.2.1
  have hH : mH G Q u.1 s s.heap [] := ⟨hP, hD, va_S.rf⟩
  have hl := lv_entry ([.ref (Q 72), .int a0, .int a1]) (n := 3) (Nat.le_of_ble_eq_true rfl)
  rw [lg_entry_eq]
  generalize (lg_sl ([.ref (Q 72), .int a0, .int a1]) ++ List.replicate (3 - (lg_sl ([.ref (Q 72), .int a0, .int a1])).length) Slot.unset).toArray = ls at hl ⊢
  have hl : lv_has ls 3 [(0, .ref (Q 72)), (1, .int a0), (2, .int a1)] := hl
  unfold f_decide at hF
  refine lv_iload_n hx hb dX13_decide_0 rfl (lv_at hl 1 rfl) ?_
  obtain ⟨r_1, u_2, h_3, hF⟩ := pcl_some hF
  refine mcS_i (As := [.int a0]) (rest := []) hC hH (m_isMat l G Z Q u u_2 r_1 a0 _ h_3) kwX13_isMat kVX13_isMat ⟨Nat.le_of_ble_eq_true rfl, Nat.le_of_ble_eq_true rfl⟩ rfl hl.1 rfl (Nat.le_of_ble_eq_true rfl) dX13_decide_1 (fun H locs hH => ?_)
  refine lv_if_eq (tgt := 17) hx hb dX13_decide_4 (by decide) (fun c_4 => ?_) (fun c_4 => ?_)
  · rw [if_pos c_4] at hF
    refine lv_bipush (v := (-2)) hx hb dX13_decide_17 (by decide) ?_
    have hF := prt_eq hF
    exact mr_i hC hH hr hF dX13_decide_19 hlocks
  · rw [if_neg c_4] at hF
    refine lv_iload_n hx hb dX13_decide_7 rfl (lv_at hl 2 rfl) ?_
    refine lv_i2l (v := a1.toInt64) hx hb dX13_decide_8 rfl ?_
    refine lv_lconst (v := 0) hx hb dX13_decide_9 (by decide) ?_
    refine lv_lconst (v := 1) hx hb dX13_decide_10 (by decide) ?_
    obtain ⟨r_5, u_6, h_7, hF⟩ := pcl_some hF
    refine mcS_i (As := [.long a1.toInt64, .long 0, .long 1]) (rest := []) hC hH (m_in l G Z Q u_2 u_6 r_5 a1.toInt64 0 1 _ h_7) kwX13_in kVX13_in ⟨Nat.le_of_ble_eq_true rfl, Nat.le_of_ble_eq_true rfl⟩ rfl hl.1 rfl (Nat.le_of_ble_eq_true rfl) dX13_decide_11 (fun H locs hH => ?_)
    refine lv_if_ne (tgt := 20) hx hb dX13_decide_14 (by decide) (fun c_8 => ?_) (fun c_8 => ?_)
    · rw [if_neg c_8] at hF
      refine lv_aload_n hx hb dX13_decide_20 rfl (lv_at hl 0 rfl) ?_
      refine mg_22 hC hH dX13_decide_21 ?_
      refine lv_iload_n hx hb dX13_decide_24 rfl (lv_at hl 1 rfl) ?_
      obtain ⟨x_9, g_10, e_11, hF⟩ := prd_some hF
      refine ml_22 hC hH g_10 dX13_decide_25 ?_
      refine gx_ti e_11 ?_
      refine lv_iconst (v := (-1)) hx hb dX13_decide_26 (by decide) ?_
      refine lv_icmp_eq (tgt := 39) hx hb dX13_decide_27 (by decide) (fun c_12 => ?_) (fun c_12 => ?_)
      · rw [if_pos c_12] at hF
        refine lv_bipush (v := (-3)) hx hb dX13_decide_39 (by decide) ?_
        refine lv_goto (tgt := 53) hx hb dX13_decide_41 (by decide) ?_
        have hF := prt_eq hF
        exact mr_i hC hH hr hF dX13_decide_53 hlocks
      · rw [if_neg c_12] at hF
        refine lv_aload_n hx hb dX13_decide_30 rfl (lv_at hl 0 rfl) ?_
        refine mg_26 hC hH dX13_decide_31 ?_
        refine lv_iload_n hx hb dX13_decide_34 rfl (lv_at hl 1 rfl) ?_
        obtain ⟨x_13, g_14, e_15, hF⟩ := prd_some hF
        refine ml_26 hC hH g_14 dX13_decide_35 ?_
        refine gx_ti e_15 ?_
        refine lv_if_ne (tgt := 44) hx hb dX13_decide_36 (by decide) (fun c_16 => ?_) (fun c_16 => ?_)
        · rw [if_neg c_16] at hF
          refine lv_aload_n hx hb dX13_decide_44 rfl (lv_at hl 0 rfl) ?_
          refine lv_bipush (v := 11) hx hb dX13_decide_45 (by decide) ?_
          refine lv_iload_n hx hb dX13_decide_47 rfl (lv_at hl 1 rfl) ?_
          refine lv_iload_n hx hb dX13_decide_48 rfl (lv_at hl 2 rfl) ?_
          refine lv_iconst (v := 0) hx hb dX13_decide_49 (by decide) ?_
          obtain ⟨r_17, u_18, h_19, hF⟩ := pcl_some hF
          refine mcV_i (As := [.int 11, .int a0, .int a1, .int 0]) (rest := []) hC hH (m_act l G Z Q u_6 u_18 r_17 11 a0 a1 0 _ h_19) kwX13_act kVX13_act ⟨Nat.le_of_ble_eq_true rfl, Nat.le_of_ble_eq_true rfl⟩ rfl hl.1 rfl (Nat.le_of_ble_eq_true rfl) dX13_decide_50 (fun H locs hH => ?_)
          have hF := prt_eq hF
          exact mr_i hC hH hr hF dX13_decide_53 hlocks
        · rw [if_pos c_16] at hF
          refine lv_bipush (v := (-3)) hx hb dX13_decide_39 (by decide) ?_
          refine lv_goto (tgt := 53) hx hb dX13_decide_41 (by decide) ?_
          have hF := prt_eq hF
          exact mr_i hC hH hr hF dX13_decide_53 hlocks
    · rw [if_pos c_8] at hF
      refine lv_bipush (v := (-2)) hx hb dX13_decide_17 (by decide) ?_
      have hF := prt_eq hF
      exact mr_i hC hH hr hF dX13_decide_19 hlocks
def f_strike (a0 : Int32) (a1 : Int32) : PG (Int32) := pcl (f_isFight a0 a1) (fun r_1 => (if r_1 = 0 then prt (-2) else prd 15 160 ((40 * a0) + a1) (fun x_5 => (if x_5 = 2 then pcl (f_act 12 a0 a1 0) (fun r_9 => prt r_9) else prt (-3)))))
set_option maxHeartbeats 4000000 in
set_option maxRecDepth 100000 in
theorem m_strike (l : Launch) (G : gG) (Z : gM) (Q : Nat → Nat) (u u1 : GS) (r : Int32) (a0 : Int32) (a1 : Int32) (sz : Nat) (hF : f_strike a0 a1 u = some (r, u1)) : Met l yX13_strike (Cond.code yX13_strike cX13_strike 3 (some .int) :: wM) { frames := 409, cells := 0, slots := 0, locals := 4996 } (va_Pc [.ref (Q 72), .int a0, .int a1] (mPM G Z Q u.1 sz)) (mQi G Q u1.1 r sz) 0 0 (mA Q sz) := by
  refine Met.ofW (cc := cX13_strike) (maxL := 3) (ret := (some .int)) (by decide) rfl ?_
  intro p e s m args below meth c s₁ B hml hv
  obtain ⟨rfl, rfl, hP, hB, hD, hE⟩ := hv
  have hr := B.returns
  have hlocks := B.notSynchronized
  have hts := atoms_spec (ws := Cond.code yX13_strike cX13_strike 3 (some .int) :: wM) B.pre
  have hC : mX p c cX13_strike 3 s m _ G Z Q := ⟨B.exec, B.bytes, hml, findClass_of_methodNamed B.named, fun w h => hts w (List.mem_cons_of_mem _ h), hB, hE⟩
  have hx := hC.1
  have hb := hC.2.1
  have hH : mH G Q u.1 s s.heap [] := ⟨hP, hD, va_S.rf⟩
  have hl := lv_entry ([.ref (Q 72), .int a0, .int a1]) (n := 3) (Nat.le_of_ble_eq_true rfl)
  rw [lg_entry_eq]
  generalize (lg_sl ([.ref (Q 72), .int a0, .int a1]) ++ List.replicate (3 - (lg_sl ([.ref (Q 72), .int a0, .int a1])).length) Slot.unset).toArray = ls at hl ⊢
  have hl : lv_has ls 3 [(0, .ref (Q 72)), (1, .int a0), (2, .int a1)] := hl
  unfold f_strike at hF
  refine lv_aload_n hx hb dX13_strike_0 rfl (lv_at hl 0 rfl) ?_
  refine lv_iload_n hx hb dX13_strike_1 rfl (lv_at hl 1 rfl) ?_
  refine lv_iload_n hx hb dX13_strike_2 rfl (lv_at hl 2 rfl) ?_
  obtain ⟨r_1, u_2, h_3, hF⟩ := pcl_some hF
  refine mcV_i (As := [.int a0, .int a1]) (rest := []) hC hH (m_isFight l G Z Q u u_2 r_1 a0 a1 _ h_3) kwX13_isFight kVX13_isFight ⟨Nat.le_of_ble_eq_true rfl, Nat.le_of_ble_eq_true rfl⟩ rfl hl.1 rfl (Nat.le_of_ble_eq_true rfl) dX13_strike_3 (fun H locs hH => ?_)
  refine lv_if_ne (tgt := 14) hx hb dX13_strike_6 (by decide) (fun c_4 => ?_) (fun c_4 => ?_)
  · rw [if_neg c_4] at hF
    refine lv_aload_n hx hb dX13_strike_14 rfl (lv_at hl 0 rfl) ?_
    refine mg_15 hC hH dX13_strike_15 ?_
    refine lv_bipush (v := 40) hx hb dX13_strike_18 (by decide) ?_
    refine lv_iload_n hx hb dX13_strike_20 rfl (lv_at hl 1 rfl) ?_
    refine lv_imul hx hb dX13_strike_21 ?_
    refine lv_iload_n hx hb dX13_strike_22 rfl (lv_at hl 2 rfl) ?_
    refine lv_iadd hx hb dX13_strike_23 ?_
    obtain ⟨x_5, g_6, e_7, hF⟩ := prd_some hF
    refine ml_15 hC hH g_6 dX13_strike_24 ?_
    refine gx_ti e_7 ?_
    refine lv_iconst (v := 2) hx hb dX13_strike_25 (by decide) ?_
    refine lv_icmp_eq (tgt := 34) hx hb dX13_strike_26 (by decide) (fun c_8 => ?_) (fun c_8 => ?_)
    · rw [if_pos c_8] at hF
      refine lv_aload_n hx hb dX13_strike_34 rfl (lv_at hl 0 rfl) ?_
      refine lv_bipush (v := 12) hx hb dX13_strike_35 (by decide) ?_
      refine lv_iload_n hx hb dX13_strike_37 rfl (lv_at hl 1 rfl) ?_
      refine lv_iload_n hx hb dX13_strike_38 rfl (lv_at hl 2 rfl) ?_
      refine lv_iconst (v := 0) hx hb dX13_strike_39 (by decide) ?_
      obtain ⟨r_9, u_10, h_11, hF⟩ := pcl_some hF
      refine mcV_i (As := [.int 12, .int a0, .int a1, .int 0]) (rest := []) hC hH (m_act l G Z Q u_2 u_10 r_9 12 a0 a1 0 _ h_11) kwX13_act kVX13_act ⟨Nat.le_of_ble_eq_true rfl, Nat.le_of_ble_eq_true rfl⟩ rfl hl.1 rfl (Nat.le_of_ble_eq_true rfl) dX13_strike_40 (fun H locs hH => ?_)
      have hF := prt_eq hF
      exact mr_i hC hH hr hF dX13_strike_43 hlocks
    · rw [if_neg c_8] at hF
      refine lv_bipush (v := (-3)) hx hb dX13_strike_29 (by decide) ?_
      refine lv_goto (tgt := 43) hx hb dX13_strike_31 (by decide) ?_
      have hF := prt_eq hF
      exact mr_i hC hH hr hF dX13_strike_43 hlocks
  · rw [if_pos c_4] at hF
    refine lv_bipush (v := (-2)) hx hb dX13_strike_9 (by decide) ?_
    refine lv_goto (tgt := 43) hx hb dX13_strike_11 (by decide) ?_
    have hF := prt_eq hF
    exact mr_i hC hH hr hF dX13_strike_43 hlocks
end
section
def D2 {β : Type} (c : Bool) (p p2 : PG β) : Prop := ∀ u v : GS, Ag u v → Sk c u → ∀ (r : β) (u1 : GS), p u = some (r, u1) → ∃ v1 : GS, p2 v = some (r, v1) ∧ Ag u1 v1 ∧ Sk c u1
theorem Det2_cl {α β : Type} {c : Bool} {p : PG α} {q q2 : α → PG β} (hp : Det c p) (hq : ∀ a, D2 c (q a) (q2 a)) : D2 c (pcl p q) (pcl p q2) := fun u v h hs r u1 e => by
  obtain ⟨a, w1, e1, e2⟩ := pcl_some e
  obtain ⟨v1, f1, g1, s1⟩ := hp u v h hs a w1 e1
  obtain ⟨v2, f2, g2, s2⟩ := hq a w1 v1 g1 s1 r u1 e2
  exact ⟨v2, by unfold pcl; rw [f1]; exact f2, g2, s2⟩
theorem D2_ot {β : Type} {c : Bool} {x : Option Int32} {n n2 : PG β} {q q2 : Int32 → PG β} (hn : D2 c n n2) (hq : ∀ x, D2 c (q x) (q2 x)) : D2 c (pot x n q) (pot x n2 q2) := by
  cases x with
  | none => exact hn
  | some a => exact hq a
theorem D2_wu {β : Type} {c : Bool} {k : Nat} {x y : Int32} {p p2 : PG β} (hk : trk k = false) (hs9 : ¬ k = 41) (hp : D2 c p p2) : D2 c (pwf k x p) (pwf k y p2) := fun u v h hs r u1 e => by
  refine hp (swf k x u) (swf k y v) ⟨fun j ht hj => ?_, h.2⟩ (fun hc => ?_) r u1 e
  · have hjk : ¬ j = k := fun z => by rw [z, hk] at ht; cases ht
    have hj' : u.2.1 j = true := by
      have hj2 : (if j = k then true else u.2.1 j) = true := hj
      rw [if_neg hjk] at hj2
      exact hj2
    refine ⟨(if_neg hjk).trans (h.1 j ht hj').1, ?_⟩
    show (if j = k then y else v.1.1 j) = (if j = k then x else u.1.1 j)
    rw [if_neg hjk, if_neg hjk]
    exact (h.1 j ht hj').2
  · refine ⟨(if_neg (fun z => hs9 z.symm)).trans (hs hc).1, ?_⟩
    show (if 41 = k then x else u.1.1 41) = 1
    rw [if_neg (fun z => hs9 z.symm)]
    exact (hs hc).2
theorem D2_wt {β : Type} {c : Bool} {k : Nat} {x : Int32} {p p2 : PG β} (hs9 : ¬ k = 41) (hp : D2 c p p2) : D2 c (pwf k x p) (pwf k x p2) := fun u v h hs r u1 e => by
  have hd : Det c (pwf k x (fun w => some ((), w))) := Det_wf hs9 (Det_rt ())
  obtain ⟨v1, f1, g1, s1⟩ := hd u v h hs () _ rfl
  cases f1
  exact hp _ _ g1 s1 r u1 e
theorem D2_of {β : Type} {c : Bool} {p : PG β} (h : Det c p) : D2 c p p := h
theorem Det_u2 {β : Type} {c : Bool} {a b : Nat} {q : Int32 → Int32 → PG β} (h : ∀ x y x2 y2, D2 c (q x y) (q x2 y2)) : Det c (puf a (fun x => puf b (fun y => q x y))) := fun u v ha hs r u1 e => h _ _ _ _ u v ha hs r u1 e
theorem Det_src {β : Type} {p : PG β} (hp : Det true p) : Det false (pwf 41 1 p) := fun u v h _ r u1 e => by
  have hag : Ag (swf 41 1 u) (swf 41 1 v) := by
    refine ⟨fun j ht hj => ?_, h.2⟩
    by_cases hjk : j = 41
    · refine ⟨if_pos hjk, ?_⟩
      show (if j = 41 then (1 : Int32) else v.1.1 j) = (if j = 41 then (1 : Int32) else u.1.1 j)
      rw [if_pos hjk, if_pos hjk]
    · have hj' : u.2.1 j = true := by
        have hj2 : (if j = 41 then true else u.2.1 j) = true := hj
        rw [if_neg hjk] at hj2
        exact hj2
      refine ⟨(if_neg hjk).trans (h.1 j ht hj').1, ?_⟩
      show (if j = 41 then (1 : Int32) else v.1.1 j) = (if j = 41 then (1 : Int32) else u.1.1 j)
      rw [if_neg hjk, if_neg hjk]
      exact (h.1 j ht hj').2
  obtain ⟨v1, f1, g1, s1⟩ := hp (swf 41 1 u) (swf 41 1 v) hag (fun _ => ⟨rfl, rfl⟩) r u1 e
  exact ⟨v1, f1, g1, fun z => by cases z⟩

theorem det_in (c : Bool) (a0 : Int64) (a1 : Int64) (a2 : Int64) : Det c (f_in a0 a1 a2) := by
  unfold f_in
  repeat (first | (with_reducible exact Det_rt _) | (with_reducible intro _) | (with_reducible refine Det_clL ?_) | (with_reducible refine Det_clr ?_) | (with_reducible refine Det_li (fun _ => ?_)) | (with_reducible refine Det_rf rfl (fun _ => ?_)) | (with_reducible refine Det_rd rfl (fun _ => ?_)) | (with_reducible refine Det_wf (by decide) ?_) | (with_reducible refine Det_wd ?_) | (with_reducible refine Det_sr (fun _ => ?_)) | (with_reducible refine Det_og ?_) | (with_reducible refine Det_ite ?_ ?_) | (with_reducible refine Det_oi (fun _ => ?_)) | (with_reducible refine Det_ot ?_ (fun _ => ?_)) | (with_reducible refine Det_cl ?_ (fun _ => ?_)))

theorem det_lp_halving_2 (c : Bool) : ∀ (n : Nat) (v1 v2 : Int32) (K0 : Int32 → Int32 → PG (Int32)), (∀ (v1 v2 : Int32), Det c (K0 v1 v2)) → Det c (lp_halving_2 n v1 v2 K0) := by
  intro n
  induction n with
  | zero => intro v1 v2 K0 hK0; exact Det_no
  | succ n ih =>
    intro v1 v2 K0 hK0
    unfold lp_halving_2
    repeat (first | (with_reducible exact Det_rt _) | (with_reducible intro _) | (with_reducible exact hK0 _ _) | (with_reducible exact ih _ _ _ hK0) | (with_reducible refine Det_clL ?_) | (with_reducible refine Det_clr ?_) | (with_reducible refine Det_li (fun _ => ?_)) | (with_reducible refine Det_rf rfl (fun _ => ?_)) | (with_reducible refine Det_rd rfl (fun _ => ?_)) | (with_reducible refine Det_wf (by decide) ?_) | (with_reducible refine Det_wd ?_) | (with_reducible refine Det_sr (fun _ => ?_)) | (with_reducible refine Det_og ?_) | (with_reducible refine Det_ite ?_ ?_) | (with_reducible refine Det_oi (fun _ => ?_)) | (with_reducible refine Det_ot ?_ (fun _ => ?_)) | (with_reducible refine Det_cl ?_ (fun _ => ?_)))

theorem det_halving (c : Bool) (a0 : Int32) : Det c (f_halving a0) := by
  unfold f_halving
  repeat (first | (with_reducible exact Det_rt _) | (with_reducible intro _) | (with_reducible refine det_lp_halving_2 _ _ _ _ _ ?_) | (with_reducible refine Det_clL ?_) | (with_reducible refine Det_clr ?_) | (with_reducible refine Det_li (fun _ => ?_)) | (with_reducible refine Det_rf rfl (fun _ => ?_)) | (with_reducible refine Det_rd rfl (fun _ => ?_)) | (with_reducible refine Det_wf (by decide) ?_) | (with_reducible refine Det_wd ?_) | (with_reducible refine Det_sr (fun _ => ?_)) | (with_reducible refine Det_og ?_) | (with_reducible refine Det_ite ?_ ?_) | (with_reducible refine Det_oi (fun _ => ?_)) | (with_reducible refine Det_ot ?_ (fun _ => ?_)) | (with_reducible refine Det_cl ?_ (fun _ => ?_)))

theorem det_rounds (c : Bool) (a0 : Int32) : Det c (f_rounds a0) := by
  unfold f_rounds
  repeat (first | (with_reducible exact Det_rt _) | (with_reducible intro _) | (with_reducible exact det_halving _ _) | (with_reducible refine Det_clL ?_) | (with_reducible refine Det_clr ?_) | (with_reducible refine Det_li (fun _ => ?_)) | (with_reducible refine Det_rf rfl (fun _ => ?_)) | (with_reducible refine Det_rd rfl (fun _ => ?_)) | (with_reducible refine Det_wf (by decide) ?_) | (with_reducible refine Det_wd ?_) | (with_reducible refine Det_sr (fun _ => ?_)) | (with_reducible refine Det_og ?_) | (with_reducible refine Det_ite ?_ ?_) | (with_reducible refine Det_oi (fun _ => ?_)) | (with_reducible refine Det_ot ?_ (fun _ => ?_)) | (with_reducible refine Det_cl ?_ (fun _ => ?_)))

theorem det_fights (c : Bool) (a0 : Int32) : Det c (f_fights a0) := by
  unfold f_fights
  repeat (first | (with_reducible exact Det_rt _) | (with_reducible intro _) | (with_reducible exact det_rounds _ _) | (with_reducible refine Det_clL ?_) | (with_reducible refine Det_clr ?_) | (with_reducible refine Det_li (fun _ => ?_)) | (with_reducible refine Det_rf rfl (fun _ => ?_)) | (with_reducible refine Det_rd rfl (fun _ => ?_)) | (with_reducible refine Det_wf (by decide) ?_) | (with_reducible refine Det_wd ?_) | (with_reducible refine Det_sr (fun _ => ?_)) | (with_reducible refine Det_og ?_) | (with_reducible refine Det_ite ?_ ?_) | (with_reducible refine Det_oi (fun _ => ?_)) | (with_reducible refine Det_ot ?_ (fun _ => ?_)) | (with_reducible refine Det_cl ?_ (fun _ => ?_)))

theorem det_base (c : Bool) (a0 : Int32) (a1 : Int32) : Det c (f_base a0 a1) := by
  unfold f_base
  repeat (first | (with_reducible exact Det_rt _) | (with_reducible intro _) | (with_reducible refine Det_clL ?_) | (with_reducible refine Det_clr ?_) | (with_reducible refine Det_li (fun _ => ?_)) | (with_reducible refine Det_rf rfl (fun _ => ?_)) | (with_reducible refine Det_rd rfl (fun _ => ?_)) | (with_reducible refine Det_wf (by decide) ?_) | (with_reducible refine Det_wd ?_) | (with_reducible refine Det_sr (fun _ => ?_)) | (with_reducible refine Det_og ?_) | (with_reducible refine Det_ite ?_ ?_) | (with_reducible refine Det_oi (fun _ => ?_)) | (with_reducible refine Det_ot ?_ (fun _ => ?_)) | (with_reducible refine Det_cl ?_ (fun _ => ?_)))

theorem det_isSecond (c : Bool) (a0 : Int32) (a1 : Int32) : Det c (f_isSecond a0 a1) := by
  unfold f_isSecond
  repeat (first | (with_reducible exact Det_rt _) | (with_reducible intro _) | (with_reducible refine Det_clL ?_) | (with_reducible refine Det_clr ?_) | (with_reducible refine Det_li (fun _ => ?_)) | (with_reducible refine Det_rf rfl (fun _ => ?_)) | (with_reducible refine Det_rd rfl (fun _ => ?_)) | (with_reducible refine Det_wf (by decide) ?_) | (with_reducible refine Det_wd ?_) | (with_reducible refine Det_sr (fun _ => ?_)) | (with_reducible refine Det_og ?_) | (with_reducible refine Det_ite ?_ ?_) | (with_reducible refine Det_oi (fun _ => ?_)) | (with_reducible refine Det_ot ?_ (fun _ => ?_)) | (with_reducible refine Det_cl ?_ (fun _ => ?_)))

theorem det_lp_roundOf_2 (c : Bool) : ∀ (n : Nat) (v1 v2 v3 : Int32) (K0 : Int32 → Int32 → Int32 → PG (Int32)), (∀ (v1 v2 v3 : Int32), Det c (K0 v1 v2 v3)) → Det c (lp_roundOf_2 n v1 v2 v3 K0) := by
  intro n
  induction n with
  | zero => intro v1 v2 v3 K0 hK0; exact Det_no
  | succ n ih =>
    intro v1 v2 v3 K0 hK0
    unfold lp_roundOf_2
    repeat (first | (with_reducible exact Det_rt _) | (with_reducible intro _) | (with_reducible exact hK0 _ _ _) | (with_reducible exact ih _ _ _ _ hK0) | (with_reducible exact det_base _ _ _) | (with_reducible refine Det_clL ?_) | (with_reducible refine Det_clr ?_) | (with_reducible refine Det_li (fun _ => ?_)) | (with_reducible refine Det_rf rfl (fun _ => ?_)) | (with_reducible refine Det_rd rfl (fun _ => ?_)) | (with_reducible refine Det_wf (by decide) ?_) | (with_reducible refine Det_wd ?_) | (with_reducible refine Det_sr (fun _ => ?_)) | (with_reducible refine Det_og ?_) | (with_reducible refine Det_ite ?_ ?_) | (with_reducible refine Det_oi (fun _ => ?_)) | (with_reducible refine Det_ot ?_ (fun _ => ?_)) | (with_reducible refine Det_cl ?_ (fun _ => ?_)))

theorem det_roundOf (c : Bool) (a0 : Int32) (a1 : Int32) : Det c (f_roundOf a0 a1) := by
  unfold f_roundOf
  repeat (first | (with_reducible exact Det_rt _) | (with_reducible intro _) | (with_reducible refine det_lp_roundOf_2 _ _ _ _ _ _ ?_) | (with_reducible exact det_base _ _ _) | (with_reducible refine Det_clL ?_) | (with_reducible refine Det_clr ?_) | (with_reducible refine Det_li (fun _ => ?_)) | (with_reducible refine Det_rf rfl (fun _ => ?_)) | (with_reducible refine Det_rd rfl (fun _ => ?_)) | (with_reducible refine Det_wf (by decide) ?_) | (with_reducible refine Det_wd ?_) | (with_reducible refine Det_sr (fun _ => ?_)) | (with_reducible refine Det_og ?_) | (with_reducible refine Det_ite ?_ ?_) | (with_reducible refine Det_oi (fun _ => ?_)) | (with_reducible refine Det_ot ?_ (fun _ => ?_)) | (with_reducible refine Det_cl ?_ (fun _ => ?_)))

theorem det_halfOf (c : Bool) (a0 : Int32) (a1 : Int32) : Det c (f_halfOf a0 a1) := by
  unfold f_halfOf
  repeat (first | (with_reducible exact Det_rt _) | (with_reducible intro _) | (with_reducible exact det_rounds _ _) | (with_reducible refine Det_clL ?_) | (with_reducible refine Det_clr ?_) | (with_reducible refine Det_li (fun _ => ?_)) | (with_reducible refine Det_rf rfl (fun _ => ?_)) | (with_reducible refine Det_rd rfl (fun _ => ?_)) | (with_reducible refine Det_wf (by decide) ?_) | (with_reducible refine Det_wd ?_) | (with_reducible refine Det_sr (fun _ => ?_)) | (with_reducible refine Det_og ?_) | (with_reducible refine Det_ite ?_ ?_) | (with_reducible refine Det_oi (fun _ => ?_)) | (with_reducible refine Det_ot ?_ (fun _ => ?_)) | (with_reducible refine Det_cl ?_ (fun _ => ?_)))

theorem det_stepOf (c : Bool) (a0 : Int32) (a1 : Int32) : Det c (f_stepOf a0 a1) := by
  unfold f_stepOf
  repeat (first | (with_reducible exact Det_rt _) | (with_reducible intro _) | (with_reducible exact det_rounds _ _) | (with_reducible refine Det_clL ?_) | (with_reducible refine Det_clr ?_) | (with_reducible refine Det_li (fun _ => ?_)) | (with_reducible refine Det_rf rfl (fun _ => ?_)) | (with_reducible refine Det_rd rfl (fun _ => ?_)) | (with_reducible refine Det_wf (by decide) ?_) | (with_reducible refine Det_wd ?_) | (with_reducible refine Det_sr (fun _ => ?_)) | (with_reducible refine Det_og ?_) | (with_reducible refine Det_ite ?_ ?_) | (with_reducible refine Det_oi (fun _ => ?_)) | (with_reducible refine Det_ot ?_ (fun _ => ?_)) | (with_reducible refine Det_cl ?_ (fun _ => ?_)))

theorem det_lp_pair_6 (c : Bool) : ∀ (n : Nat) (v1 v2 v3 v4 v5 : Int32) (K0 : Int32 → Int32 → Int32 → Int32 → Int32 → PG (Int32)), (∀ (v1 v2 v3 v4 v5 : Int32), Det c (K0 v1 v2 v3 v4 v5)) → Det c (lp_pair_6 n v1 v2 v3 v4 v5 K0) := by
  intro n
  induction n with
  | zero => intro v1 v2 v3 v4 v5 K0 hK0; exact Det_no
  | succ n ih =>
    intro v1 v2 v3 v4 v5 K0 hK0
    unfold lp_pair_6
    repeat (first | (with_reducible exact Det_rt _) | (with_reducible intro _) | (with_reducible exact hK0 _ _ _ _ _) | (with_reducible exact ih _ _ _ _ _ _ hK0) | (with_reducible refine Det_clL ?_) | (with_reducible refine Det_clr ?_) | (with_reducible refine Det_li (fun _ => ?_)) | (with_reducible refine Det_rf rfl (fun _ => ?_)) | (with_reducible refine Det_rd rfl (fun _ => ?_)) | (with_reducible refine Det_wf (by decide) ?_) | (with_reducible refine Det_wd ?_) | (with_reducible refine Det_sr (fun _ => ?_)) | (with_reducible refine Det_og ?_) | (with_reducible refine Det_ite ?_ ?_) | (with_reducible refine Det_oi (fun _ => ?_)) | (with_reducible refine Det_ot ?_ (fun _ => ?_)) | (with_reducible refine Det_cl ?_ (fun _ => ?_)))

theorem det_pair (c : Bool) (a0 : Int32) (a1 : Int32) (a2 : Int32) : Det c (f_pair a0 a1 a2) := by
  unfold f_pair
  repeat (first | (with_reducible exact Det_rt _) | (with_reducible intro _) | (with_reducible refine det_lp_pair_6 _ _ _ _ _ _ _ _ ?_) | (with_reducible refine Det_clL ?_) | (with_reducible refine Det_clr ?_) | (with_reducible refine Det_li (fun _ => ?_)) | (with_reducible refine Det_rf rfl (fun _ => ?_)) | (with_reducible refine Det_rd rfl (fun _ => ?_)) | (with_reducible refine Det_wf (by decide) ?_) | (with_reducible refine Det_wd ?_) | (with_reducible refine Det_sr (fun _ => ?_)) | (with_reducible refine Det_og ?_) | (with_reducible refine Det_ite ?_ ?_) | (with_reducible refine Det_oi (fun _ => ?_)) | (with_reducible refine Det_ot ?_ (fun _ => ?_)) | (with_reducible refine Det_cl ?_ (fun _ => ?_)))

theorem det_bd_sideOf (c : Bool) (F : Nat → Int32 → Int32 → Int32 → Int32 → PG (Int32)) (hFd : ∀ w a b d e, Det c (F w a b d e)) (a0 : Int32) (a1 : Int32) (a2 : Int32) : Det c (bd_sideOf F a0 a1 a2) := by
  unfold bd_sideOf
  repeat (first | (with_reducible exact Det_rt _) | (with_reducible intro _) | (with_reducible exact det_base _ _ _) | (with_reducible exact det_halfOf _ _ _) | (with_reducible exact det_isSecond _ _ _) | (with_reducible exact det_pair _ _ _ _) | (with_reducible exact det_roundOf _ _ _) | (with_reducible exact det_stepOf _ _ _) | (with_reducible exact hFd _ _ _ _ _) | (with_reducible refine Det_clL ?_) | (with_reducible refine Det_clr ?_) | (with_reducible refine Det_li (fun _ => ?_)) | (with_reducible refine Det_rf rfl (fun _ => ?_)) | (with_reducible refine Det_rd rfl (fun _ => ?_)) | (with_reducible refine Det_wf (by decide) ?_) | (with_reducible refine Det_wd ?_) | (with_reducible refine Det_sr (fun _ => ?_)) | (with_reducible refine Det_og ?_) | (with_reducible refine Det_ite ?_ ?_) | (with_reducible refine Det_oi (fun _ => ?_)) | (with_reducible refine Det_ot ?_ (fun _ => ?_)) | (with_reducible refine Det_cl ?_ (fun _ => ?_)))

theorem det_bd_second (c : Bool) (F : Nat → Int32 → Int32 → Int32 → Int32 → PG (Int32)) (hFd : ∀ w a b d e, Det c (F w a b d e)) (a0 : Int32) (a1 : Int32) (a2 : Int32) (a3 : Int32) : Det c (bd_second F a0 a1 a2 a3) := by
  unfold bd_second
  repeat (first | (with_reducible exact Det_rt _) | (with_reducible intro _) | (with_reducible exact det_rounds _ _) | (with_reducible exact hFd _ _ _ _ _) | (with_reducible refine Det_clL ?_) | (with_reducible refine Det_clr ?_) | (with_reducible refine Det_li (fun _ => ?_)) | (with_reducible refine Det_rf rfl (fun _ => ?_)) | (with_reducible refine Det_rd rfl (fun _ => ?_)) | (with_reducible refine Det_wf (by decide) ?_) | (with_reducible refine Det_wd ?_) | (with_reducible refine Det_sr (fun _ => ?_)) | (with_reducible refine Det_og ?_) | (with_reducible refine Det_ite ?_ ?_) | (with_reducible refine Det_oi (fun _ => ?_)) | (with_reducible refine Det_ot ?_ (fun _ => ?_)) | (with_reducible refine Det_cl ?_ (fun _ => ?_)))

theorem det_bd_loserTo (c : Bool) (F : Nat → Int32 → Int32 → Int32 → Int32 → PG (Int32)) (hFd : ∀ w a b d e, Det c (F w a b d e)) (a0 : Int32) (a1 : Int32) (a2 : Int32) : Det c (bd_loserTo F a0 a1 a2) := by
  unfold bd_loserTo
  repeat (first | (with_reducible exact Det_rt _) | (with_reducible intro _) | (with_reducible exact det_base _ _ _) | (with_reducible exact det_rounds _ _) | (with_reducible exact hFd _ _ _ _ _) | (with_reducible refine Det_clL ?_) | (with_reducible refine Det_clr ?_) | (with_reducible refine Det_li (fun _ => ?_)) | (with_reducible refine Det_rf rfl (fun _ => ?_)) | (with_reducible refine Det_rd rfl (fun _ => ?_)) | (with_reducible refine Det_wf (by decide) ?_) | (with_reducible refine Det_wd ?_) | (with_reducible refine Det_sr (fun _ => ?_)) | (with_reducible refine Det_og ?_) | (with_reducible refine Det_ite ?_ ?_) | (with_reducible refine Det_oi (fun _ => ?_)) | (with_reducible refine Det_ot ?_ (fun _ => ?_)) | (with_reducible refine Det_cl ?_ (fun _ => ?_)))

theorem det_bd_winnerOf (c : Bool) (F : Nat → Int32 → Int32 → Int32 → Int32 → PG (Int32)) (hFd : ∀ w a b d e, Det c (F w a b d e)) (a0 : Int32) (a1 : Int32) : Det c (bd_winnerOf F a0 a1) := by
  unfold bd_winnerOf
  repeat (first | (with_reducible exact Det_rt _) | (with_reducible intro _) | (with_reducible exact hFd _ _ _ _ _) | (with_reducible refine Det_clL ?_) | (with_reducible refine Det_clr ?_) | (with_reducible refine Det_li (fun _ => ?_)) | (with_reducible refine Det_rf rfl (fun _ => ?_)) | (with_reducible refine Det_rd rfl (fun _ => ?_)) | (with_reducible refine Det_wf (by decide) ?_) | (with_reducible refine Det_wd ?_) | (with_reducible refine Det_sr (fun _ => ?_)) | (with_reducible refine Det_og ?_) | (with_reducible refine Det_ite ?_ ?_) | (with_reducible refine Det_oi (fun _ => ?_)) | (with_reducible refine Det_ot ?_ (fun _ => ?_)) | (with_reducible refine Det_cl ?_ (fun _ => ?_)))

theorem det_fS (c : Bool) : ∀ (d w : Nat) (a0 a1 a2 a3 : Int32), Det c (fS d w a0 a1 a2 a3) := by
  intro d
  induction d with
  | zero => intro w a0 a1 a2 a3; exact Det_no
  | succ d ih =>
    intro w a0 a1 a2 a3
    unfold fS
    repeat (first | (with_reducible refine Det_ite ?_ ?_) | (with_reducible exact det_bd_sideOf _ _ ih _ _ _) | (with_reducible exact det_bd_second _ _ ih _ _ _ _) | (with_reducible exact det_bd_loserTo _ _ ih _ _ _) | (with_reducible exact det_bd_winnerOf _ _ ih _ _))

theorem det_joined (c : Bool) (a0 : Int32) (a1 : Int32) (a2 : Int32) : Det c (f_joined a0 a1 a2) := by
  unfold f_joined
  repeat (first | (with_reducible exact Det_rt _) | (with_reducible intro _) | (with_reducible refine Det_clL ?_) | (with_reducible refine Det_clr ?_) | (with_reducible refine Det_li (fun _ => ?_)) | (with_reducible refine Det_rf rfl (fun _ => ?_)) | (with_reducible refine Det_rd rfl (fun _ => ?_)) | (with_reducible refine Det_wf (by decide) ?_) | (with_reducible refine Det_wd ?_) | (with_reducible refine Det_sr (fun _ => ?_)) | (with_reducible refine Det_og ?_) | (with_reducible refine Det_ite ?_ ?_) | (with_reducible refine Det_oi (fun _ => ?_)) | (with_reducible refine Det_ot ?_ (fun _ => ?_)) | (with_reducible refine Det_cl ?_ (fun _ => ?_)))

theorem det_termOf (c : Bool) (a0 : Int32) (a1 : Int32) (a2 : Int32) (a3 : Int32) : Det c (f_termOf a0 a1 a2 a3) := by
  unfold f_termOf
  repeat (first | (with_reducible exact Det_rt _) | (with_reducible intro _) | (with_reducible refine Det_clL ?_) | (with_reducible refine Det_clr ?_) | (with_reducible refine Det_li (fun _ => ?_)) | (with_reducible refine Det_rf rfl (fun _ => ?_)) | (with_reducible refine Det_rd rfl (fun _ => ?_)) | (with_reducible refine Det_wf (by decide) ?_) | (with_reducible refine Det_wd ?_) | (with_reducible refine Det_sr (fun _ => ?_)) | (with_reducible refine Det_og ?_) | (with_reducible refine Det_ite ?_ ?_) | (with_reducible refine Det_oi (fun _ => ?_)) | (with_reducible refine Det_ot ?_ (fun _ => ?_)) | (with_reducible refine Det_cl ?_ (fun _ => ?_)))

theorem det_lp_holds_11 (c : Bool) : ∀ (n : Nat) (v1 v2 v3 v4 v5 v6 : Int32) (K0 : Int32 → Int32 → Int32 → Int32 → Int32 → Int32 → PG (Int32)), (∀ (v1 v2 v3 v4 v5 v6 : Int32), Det c (K0 v1 v2 v3 v4 v5 v6)) → Det c (lp_holds_11 n v1 v2 v3 v4 v5 v6 K0) := by
  intro n
  induction n with
  | zero => intro v1 v2 v3 v4 v5 v6 K0 hK0; exact Det_no
  | succ n ih =>
    intro v1 v2 v3 v4 v5 v6 K0 hK0
    unfold lp_holds_11
    repeat (first | (with_reducible exact Det_rt _) | (with_reducible intro _) | (with_reducible exact hK0 _ _ _ _ _ _) | (with_reducible exact ih _ _ _ _ _ _ _ hK0) | (with_reducible exact det_joined _ _ _ _) | (with_reducible exact det_termOf _ _ _ _ _) | (with_reducible refine Det_clL ?_) | (with_reducible refine Det_clr ?_) | (with_reducible refine Det_li (fun _ => ?_)) | (with_reducible refine Det_rf rfl (fun _ => ?_)) | (with_reducible refine Det_rd rfl (fun _ => ?_)) | (with_reducible refine Det_wf (by decide) ?_) | (with_reducible refine Det_wd ?_) | (with_reducible refine Det_sr (fun _ => ?_)) | (with_reducible refine Det_og ?_) | (with_reducible refine Det_ite ?_ ?_) | (with_reducible refine Det_oi (fun _ => ?_)) | (with_reducible refine Det_ot ?_ (fun _ => ?_)) | (with_reducible refine Det_cl ?_ (fun _ => ?_)))

theorem det_holds (c : Bool) (a0 : Int32) (a1 : Int32) (a2 : Int32) (a3 : Int32) : Det c (f_holds a0 a1 a2 a3) := by
  unfold f_holds
  repeat (first | (with_reducible exact Det_rt _) | (with_reducible intro _) | (with_reducible refine det_lp_holds_11 _ _ _ _ _ _ _ _ _ ?_) | (with_reducible exact det_joined _ _ _ _) | (with_reducible exact det_termOf _ _ _ _ _) | (with_reducible refine Det_clL ?_) | (with_reducible refine Det_clr ?_) | (with_reducible refine Det_li (fun _ => ?_)) | (with_reducible refine Det_rf rfl (fun _ => ?_)) | (with_reducible refine Det_rd rfl (fun _ => ?_)) | (with_reducible refine Det_wf (by decide) ?_) | (with_reducible refine Det_wd ?_) | (with_reducible refine Det_sr (fun _ => ?_)) | (with_reducible refine Det_og ?_) | (with_reducible refine Det_ite ?_ ?_) | (with_reducible refine Det_oi (fun _ => ?_)) | (with_reducible refine Det_ot ?_ (fun _ => ?_)) | (with_reducible refine Det_cl ?_ (fun _ => ?_)))

theorem det_byteAt (a0 : Int32) : Det true (f_byteAt a0) := by
  unfold f_byteAt
  repeat (first | (with_reducible exact Det_rt _) | (with_reducible intro _) | (with_reducible refine Det_clL ?_) | (with_reducible refine Det_clr ?_) | (with_reducible refine Det_li (fun _ => ?_)) | (with_reducible refine Det_rf rfl (fun _ => ?_)) | (with_reducible refine Det_rd rfl (fun _ => ?_)) | (with_reducible refine Det_wf (by decide) ?_) | (with_reducible refine Det_wd ?_) | (with_reducible refine Det_sr (fun _ => ?_)) | (with_reducible refine Det_og ?_) | (with_reducible refine Det_ite ?_ ?_) | (with_reducible refine Det_oi (fun _ => ?_)) | (with_reducible refine Det_ot ?_ (fun _ => ?_)) | (with_reducible refine Det_cl ?_ (fun _ => ?_)))

theorem det_isLetter (c : Bool) (a0 : Int32) : Det c (f_isLetter a0) := by
  unfold f_isLetter
  repeat (first | (with_reducible exact Det_rt _) | (with_reducible intro _) | (with_reducible refine Det_clL ?_) | (with_reducible refine Det_clr ?_) | (with_reducible refine Det_li (fun _ => ?_)) | (with_reducible refine Det_rf rfl (fun _ => ?_)) | (with_reducible refine Det_rd rfl (fun _ => ?_)) | (with_reducible refine Det_wf (by decide) ?_) | (with_reducible refine Det_wd ?_) | (with_reducible refine Det_sr (fun _ => ?_)) | (with_reducible refine Det_og ?_) | (with_reducible refine Det_ite ?_ ?_) | (with_reducible refine Det_oi (fun _ => ?_)) | (with_reducible refine Det_ot ?_ (fun _ => ?_)) | (with_reducible refine Det_cl ?_ (fun _ => ?_)))

theorem det_isDigit (c : Bool) (a0 : Int32) : Det c (f_isDigit a0) := by
  unfold f_isDigit
  repeat (first | (with_reducible exact Det_rt _) | (with_reducible intro _) | (with_reducible refine Det_clL ?_) | (with_reducible refine Det_clr ?_) | (with_reducible refine Det_li (fun _ => ?_)) | (with_reducible refine Det_rf rfl (fun _ => ?_)) | (with_reducible refine Det_rd rfl (fun _ => ?_)) | (with_reducible refine Det_wf (by decide) ?_) | (with_reducible refine Det_wd ?_) | (with_reducible refine Det_sr (fun _ => ?_)) | (with_reducible refine Det_og ?_) | (with_reducible refine Det_ite ?_ ?_) | (with_reducible refine Det_oi (fun _ => ?_)) | (with_reducible refine Det_ot ?_ (fun _ => ?_)) | (with_reducible refine Det_cl ?_ (fun _ => ?_)))

theorem det_put (c : Bool) (a0 : Int32) (a1 : Int32) : Det c (f_put a0 a1) := by
  unfold f_put
  repeat (first | (with_reducible exact Det_rt _) | (with_reducible intro _) | (with_reducible refine Det_clL ?_) | (with_reducible refine Det_clr ?_) | (with_reducible refine Det_li (fun _ => ?_)) | (with_reducible refine Det_rf rfl (fun _ => ?_)) | (with_reducible refine Det_rd rfl (fun _ => ?_)) | (with_reducible refine Det_wf (by decide) ?_) | (with_reducible refine Det_wd ?_) | (with_reducible refine Det_sr (fun _ => ?_)) | (with_reducible refine Det_og ?_) | (with_reducible refine Det_ite ?_ ?_) | (with_reducible refine Det_oi (fun _ => ?_)) | (with_reducible refine Det_ot ?_ (fun _ => ?_)) | (with_reducible refine Det_cl ?_ (fun _ => ?_)))

theorem det_release (c : Bool) (a0 : Int32) : Det c (f_release a0) := by
  unfold f_release
  repeat (first | (with_reducible exact Det_rt _) | (with_reducible intro _) | (with_reducible exact det_put _ _ _) | (with_reducible refine Det_clL ?_) | (with_reducible refine Det_clr ?_) | (with_reducible refine Det_li (fun _ => ?_)) | (with_reducible refine Det_rf rfl (fun _ => ?_)) | (with_reducible refine Det_rd rfl (fun _ => ?_)) | (with_reducible refine Det_wf (by decide) ?_) | (with_reducible refine Det_wd ?_) | (with_reducible refine Det_sr (fun _ => ?_)) | (with_reducible refine Det_og ?_) | (with_reducible refine Det_ite ?_ ?_) | (with_reducible refine Det_oi (fun _ => ?_)) | (with_reducible refine Det_ot ?_ (fun _ => ?_)) | (with_reducible refine Det_cl ?_ (fun _ => ?_)))

theorem det_lp_anew_47 (c : Bool) : ∀ (n : Nat) (v1 v2 : Int32) (K0 : Int32 → Int32 → PG (Int32)), (∀ (v1 v2 : Int32), Det c (K0 v1 v2)) → Det c (lp_anew_47 n v1 v2 K0) := by
  intro n
  induction n with
  | zero => intro v1 v2 K0 hK0; exact Det_no
  | succ n ih =>
    intro v1 v2 K0 hK0
    unfold lp_anew_47
    repeat (first | (with_reducible exact Det_rt _) | (with_reducible intro _) | (with_reducible exact hK0 _ _) | (with_reducible exact ih _ _ _ hK0) | (with_reducible refine Det_clL ?_) | (with_reducible refine Det_clr ?_) | (with_reducible refine Det_li (fun _ => ?_)) | (with_reducible refine Det_rf rfl (fun _ => ?_)) | (with_reducible refine Det_rd rfl (fun _ => ?_)) | (with_reducible refine Det_wf (by decide) ?_) | (with_reducible refine Det_wd ?_) | (with_reducible refine Det_sr (fun _ => ?_)) | (with_reducible refine Det_og ?_) | (with_reducible refine Det_ite ?_ ?_) | (with_reducible refine Det_oi (fun _ => ?_)) | (with_reducible refine Det_ot ?_ (fun _ => ?_)) | (with_reducible refine Det_cl ?_ (fun _ => ?_)))

theorem det_lp_anew_18 (c : Bool) : ∀ (n : Nat) (v1 : Int32) (K0 : Int32 → PG (Int32)), (∀ (v1 : Int32), Det c (K0 v1)) → Det c (lp_anew_18 n v1 K0) := by
  intro n
  induction n with
  | zero => intro v1 K0 hK0; exact Det_no
  | succ n ih =>
    intro v1 K0 hK0
    unfold lp_anew_18
    repeat (first | (with_reducible exact Det_rt _) | (with_reducible intro _) | (with_reducible exact hK0 _) | (with_reducible exact ih _ _ hK0) | (with_reducible refine det_lp_anew_47 _ _ _ _ _ ?_) | (with_reducible refine Det_clL ?_) | (with_reducible refine Det_clr ?_) | (with_reducible refine Det_li (fun _ => ?_)) | (with_reducible refine Det_rf rfl (fun _ => ?_)) | (with_reducible refine Det_rd rfl (fun _ => ?_)) | (with_reducible refine Det_wf (by decide) ?_) | (with_reducible refine Det_wd ?_) | (with_reducible refine Det_sr (fun _ => ?_)) | (with_reducible refine Det_og ?_) | (with_reducible refine Det_ite ?_ ?_) | (with_reducible refine Det_oi (fun _ => ?_)) | (with_reducible refine Det_ot ?_ (fun _ => ?_)) | (with_reducible refine Det_cl ?_ (fun _ => ?_)))

theorem det_lp_anew_79 (c : Bool) : ∀ (n : Nat) (v1 : Int32) (K0 : Int32 → PG (Int32)), (∀ (v1 : Int32), Det c (K0 v1)) → Det c (lp_anew_79 n v1 K0) := by
  intro n
  induction n with
  | zero => intro v1 K0 hK0; exact Det_no
  | succ n ih =>
    intro v1 K0 hK0
    unfold lp_anew_79
    repeat (first | (with_reducible exact Det_rt _) | (with_reducible intro _) | (with_reducible exact hK0 _) | (with_reducible exact ih _ _ hK0) | (with_reducible refine det_lp_anew_47 _ _ _ _ _ ?_) | (with_reducible refine det_lp_anew_18 _ _ _ _ ?_) | (with_reducible refine Det_clL ?_) | (with_reducible refine Det_clr ?_) | (with_reducible refine Det_li (fun _ => ?_)) | (with_reducible refine Det_rf rfl (fun _ => ?_)) | (with_reducible refine Det_rd rfl (fun _ => ?_)) | (with_reducible refine Det_wf (by decide) ?_) | (with_reducible refine Det_wd ?_) | (with_reducible refine Det_sr (fun _ => ?_)) | (with_reducible refine Det_og ?_) | (with_reducible refine Det_ite ?_ ?_) | (with_reducible refine Det_oi (fun _ => ?_)) | (with_reducible refine Det_ot ?_ (fun _ => ?_)) | (with_reducible refine Det_cl ?_ (fun _ => ?_)))

theorem det_anew : Det false (f_anew) := by
  unfold f_anew
  repeat (first | (with_reducible exact Det_rt _) | (with_reducible intro _) | (with_reducible refine det_lp_anew_47 _ _ _ _ _ ?_) | (with_reducible refine det_lp_anew_18 _ _ _ _ ?_) | (with_reducible refine det_lp_anew_79 _ _ _ _ ?_) | (with_reducible refine Det_clL ?_) | (with_reducible refine Det_clr ?_) | (with_reducible refine Det_li (fun _ => ?_)) | (with_reducible refine Det_rf rfl (fun _ => ?_)) | (with_reducible refine Det_rd rfl (fun _ => ?_)) | (with_reducible refine Det_wf (by decide) ?_) | (with_reducible refine Det_wd ?_) | (with_reducible refine Det_sr (fun _ => ?_)) | (with_reducible refine Det_og ?_) | (with_reducible refine Det_ite ?_ ?_) | (with_reducible refine Det_oi (fun _ => ?_)) | (with_reducible refine Det_ot ?_ (fun _ => ?_)) | (with_reducible refine Det_cl ?_ (fun _ => ?_)))

theorem det_comes (c : Bool) (a0 : Int32) (a1 : Int32) : Det c (f_comes a0 a1) := by
  unfold f_comes
  repeat (first | (with_reducible exact Det_rt _) | (with_reducible intro _) | (with_reducible refine Det_clL ?_) | (with_reducible refine Det_clr ?_) | (with_reducible refine Det_li (fun _ => ?_)) | (with_reducible refine Det_rf rfl (fun _ => ?_)) | (with_reducible refine Det_rd rfl (fun _ => ?_)) | (with_reducible refine Det_wf (by decide) ?_) | (with_reducible refine Det_wd ?_) | (with_reducible refine Det_sr (fun _ => ?_)) | (with_reducible refine Det_og ?_) | (with_reducible refine Det_ite ?_ ?_) | (with_reducible refine Det_oi (fun _ => ?_)) | (with_reducible refine Det_ot ?_ (fun _ => ?_)) | (with_reducible refine Det_cl ?_ (fun _ => ?_)))

theorem det_lp_weighed_4 (c : Bool) : ∀ (n : Nat) (v1 v2 v3 : Int32) (K0 : Int32 → Int32 → Int32 → PG (Int32)), (∀ (v1 v2 v3 : Int32), Det c (K0 v1 v2 v3)) → Det c (lp_weighed_4 n v1 v2 v3 K0) := by
  intro n
  induction n with
  | zero => intro v1 v2 v3 K0 hK0; exact Det_no
  | succ n ih =>
    intro v1 v2 v3 K0 hK0
    unfold lp_weighed_4
    repeat (first | (with_reducible exact Det_rt _) | (with_reducible intro _) | (with_reducible exact hK0 _ _ _) | (with_reducible exact ih _ _ _ _ hK0) | (with_reducible refine Det_clL ?_) | (with_reducible refine Det_clr ?_) | (with_reducible refine Det_li (fun _ => ?_)) | (with_reducible refine Det_rf rfl (fun _ => ?_)) | (with_reducible refine Det_rd rfl (fun _ => ?_)) | (with_reducible refine Det_wf (by decide) ?_) | (with_reducible refine Det_wd ?_) | (with_reducible refine Det_sr (fun _ => ?_)) | (with_reducible refine Det_og ?_) | (with_reducible refine Det_ite ?_ ?_) | (with_reducible refine Det_oi (fun _ => ?_)) | (with_reducible refine Det_ot ?_ (fun _ => ?_)) | (with_reducible refine Det_cl ?_ (fun _ => ?_)))

theorem det_weighed (c : Bool) (a0 : Int32) : Det c (f_weighed a0) := by
  unfold f_weighed
  repeat (first | (with_reducible exact Det_rt _) | (with_reducible intro _) | (with_reducible refine det_lp_weighed_4 _ _ _ _ _ _ ?_) | (with_reducible refine Det_clL ?_) | (with_reducible refine Det_clr ?_) | (with_reducible refine Det_li (fun _ => ?_)) | (with_reducible refine Det_rf rfl (fun _ => ?_)) | (with_reducible refine Det_rd rfl (fun _ => ?_)) | (with_reducible refine Det_wf (by decide) ?_) | (with_reducible refine Det_wd ?_) | (with_reducible refine Det_sr (fun _ => ?_)) | (with_reducible refine Det_og ?_) | (with_reducible refine Det_ite ?_ ?_) | (with_reducible refine Det_oi (fun _ => ?_)) | (with_reducible refine Det_ot ?_ (fun _ => ?_)) | (with_reducible refine Det_cl ?_ (fun _ => ?_)))

theorem det_lp_makeRow_16 (c : Bool) : ∀ (n : Nat) (v1 v2 v3 : Int32) (K0 : Int32 → Int32 → Int32 → PG (Int32)), (∀ (v1 v2 v3 : Int32), Det c (K0 v1 v2 v3)) → Det c (lp_makeRow_16 n v1 v2 v3 K0) := by
  intro n
  induction n with
  | zero => intro v1 v2 v3 K0 hK0; exact Det_no
  | succ n ih =>
    intro v1 v2 v3 K0 hK0
    unfold lp_makeRow_16
    repeat (first | (with_reducible exact Det_rt _) | (with_reducible intro _) | (with_reducible exact hK0 _ _ _) | (with_reducible exact ih _ _ _ _ hK0) | (with_reducible refine Det_clL ?_) | (with_reducible refine Det_clr ?_) | (with_reducible refine Det_li (fun _ => ?_)) | (with_reducible refine Det_rf rfl (fun _ => ?_)) | (with_reducible refine Det_rd rfl (fun _ => ?_)) | (with_reducible refine Det_wf (by decide) ?_) | (with_reducible refine Det_wd ?_) | (with_reducible refine Det_sr (fun _ => ?_)) | (with_reducible refine Det_og ?_) | (with_reducible refine Det_ite ?_ ?_) | (with_reducible refine Det_oi (fun _ => ?_)) | (with_reducible refine Det_ot ?_ (fun _ => ?_)) | (with_reducible refine Det_cl ?_ (fun _ => ?_)))

theorem det_lp_makeRow_41 (c : Bool) : ∀ (n : Nat) (v1 v2 v3 : Int32) (K0 : Int32 → Int32 → Int32 → PG (Int32)), (∀ (v1 v2 v3 : Int32), Det c (K0 v1 v2 v3)) → Det c (lp_makeRow_41 n v1 v2 v3 K0) := by
  intro n
  induction n with
  | zero => intro v1 v2 v3 K0 hK0; exact Det_no
  | succ n ih =>
    intro v1 v2 v3 K0 hK0
    unfold lp_makeRow_41
    repeat (first | (with_reducible exact Det_rt _) | (with_reducible intro _) | (with_reducible exact hK0 _ _ _) | (with_reducible exact ih _ _ _ _ hK0) | (with_reducible refine det_lp_makeRow_16 _ _ _ _ _ _ ?_) | (with_reducible refine Det_clL ?_) | (with_reducible refine Det_clr ?_) | (with_reducible refine Det_li (fun _ => ?_)) | (with_reducible refine Det_rf rfl (fun _ => ?_)) | (with_reducible refine Det_rd rfl (fun _ => ?_)) | (with_reducible refine Det_wf (by decide) ?_) | (with_reducible refine Det_wd ?_) | (with_reducible refine Det_sr (fun _ => ?_)) | (with_reducible refine Det_og ?_) | (with_reducible refine Det_ite ?_ ?_) | (with_reducible refine Det_oi (fun _ => ?_)) | (with_reducible refine Det_ot ?_ (fun _ => ?_)) | (with_reducible refine Det_cl ?_ (fun _ => ?_)))

theorem det_lp_makeRow_9 (c : Bool) : ∀ (n : Nat) (v1 v2 : Int32) (K0 : Int32 → Int32 → PG (Int32)), (∀ (v1 v2 : Int32), Det c (K0 v1 v2)) → Det c (lp_makeRow_9 n v1 v2 K0) := by
  intro n
  induction n with
  | zero => intro v1 v2 K0 hK0; exact Det_no
  | succ n ih =>
    intro v1 v2 K0 hK0
    unfold lp_makeRow_9
    repeat (first | (with_reducible exact Det_rt _) | (with_reducible intro _) | (with_reducible exact hK0 _ _) | (with_reducible exact ih _ _ _ hK0) | (with_reducible refine det_lp_makeRow_16 _ _ _ _ _ _ ?_) | (with_reducible refine det_lp_makeRow_41 _ _ _ _ _ _ ?_) | (with_reducible refine Det_clL ?_) | (with_reducible refine Det_clr ?_) | (with_reducible refine Det_li (fun _ => ?_)) | (with_reducible refine Det_rf rfl (fun _ => ?_)) | (with_reducible refine Det_rd rfl (fun _ => ?_)) | (with_reducible refine Det_wf (by decide) ?_) | (with_reducible refine Det_wd ?_) | (with_reducible refine Det_sr (fun _ => ?_)) | (with_reducible refine Det_og ?_) | (with_reducible refine Det_ite ?_ ?_) | (with_reducible refine Det_oi (fun _ => ?_)) | (with_reducible refine Det_ot ?_ (fun _ => ?_)) | (with_reducible refine Det_cl ?_ (fun _ => ?_)))

theorem det_makeRow (c : Bool) (a0 : Int32) : Det c (f_makeRow a0) := by
  unfold f_makeRow
  repeat (first | (with_reducible exact Det_rt _) | (with_reducible intro _) | (with_reducible refine det_lp_makeRow_16 _ _ _ _ _ _ ?_) | (with_reducible refine det_lp_makeRow_41 _ _ _ _ _ _ ?_) | (with_reducible refine det_lp_makeRow_9 _ _ _ _ _ ?_) | (with_reducible refine Det_clL ?_) | (with_reducible refine Det_clr ?_) | (with_reducible refine Det_li (fun _ => ?_)) | (with_reducible refine Det_rf rfl (fun _ => ?_)) | (with_reducible refine Det_rd rfl (fun _ => ?_)) | (with_reducible refine Det_wf (by decide) ?_) | (with_reducible refine Det_wd ?_) | (with_reducible refine Det_sr (fun _ => ?_)) | (with_reducible refine Det_og ?_) | (with_reducible refine Det_ite ?_ ?_) | (with_reducible refine Det_oi (fun _ => ?_)) | (with_reducible refine Det_ot ?_ (fun _ => ?_)) | (with_reducible refine Det_cl ?_ (fun _ => ?_)))

theorem det_isOther (c : Bool) (a0 : Int32) (a1 : Int32) : Det c (f_isOther a0 a1) := by
  unfold f_isOther
  repeat (first | (with_reducible exact Det_rt _) | (with_reducible intro _) | (with_reducible refine Det_clL ?_) | (with_reducible refine Det_clr ?_) | (with_reducible refine Det_li (fun _ => ?_)) | (with_reducible refine Det_rf rfl (fun _ => ?_)) | (with_reducible refine Det_rd rfl (fun _ => ?_)) | (with_reducible refine Det_wf (by decide) ?_) | (with_reducible refine Det_wd ?_) | (with_reducible refine Det_sr (fun _ => ?_)) | (with_reducible refine Det_og ?_) | (with_reducible refine Det_ite ?_ ?_) | (with_reducible refine Det_oi (fun _ => ?_)) | (with_reducible refine Det_ot ?_ (fun _ => ?_)) | (with_reducible refine Det_cl ?_ (fun _ => ?_)))

theorem det_settle (c : Bool) (a0 : Int32) (a1 : Int32) (a2 : Int32) : Det c (f_settle a0 a1 a2) := by
  unfold f_settle
  repeat (first | (with_reducible exact Det_rt _) | (with_reducible intro _) | (with_reducible refine Det_clL ?_) | (with_reducible refine Det_clr ?_) | (with_reducible refine Det_li (fun _ => ?_)) | (with_reducible refine Det_rf rfl (fun _ => ?_)) | (with_reducible refine Det_rd rfl (fun _ => ?_)) | (with_reducible refine Det_wf (by decide) ?_) | (with_reducible refine Det_wd ?_) | (with_reducible refine Det_sr (fun _ => ?_)) | (with_reducible refine Det_og ?_) | (with_reducible refine Det_ite ?_ ?_) | (with_reducible refine Det_oi (fun _ => ?_)) | (with_reducible refine Det_ot ?_ (fun _ => ?_)) | (with_reducible refine Det_cl ?_ (fun _ => ?_)))

theorem det_lp_bestPlace_87 (c : Bool) : ∀ (n : Nat) (v1 v2 v3 v4 v5 v6 v7 v8 v9 v10 v11 : Int32) (K0 : Int32 → Int32 → Int32 → Int32 → Int32 → Int32 → Int32 → Int32 → Int32 → Int32 → Int32 → PG (Int32)), (∀ (v1 v2 v3 v4 v5 v6 v7 v8 v9 v10 v11 : Int32), Det c (K0 v1 v2 v3 v4 v5 v6 v7 v8 v9 v10 v11)) → Det c (lp_bestPlace_87 n v1 v2 v3 v4 v5 v6 v7 v8 v9 v10 v11 K0) := by
  intro n
  induction n with
  | zero => intro v1 v2 v3 v4 v5 v6 v7 v8 v9 v10 v11 K0 hK0; exact Det_no
  | succ n ih =>
    intro v1 v2 v3 v4 v5 v6 v7 v8 v9 v10 v11 K0 hK0
    unfold lp_bestPlace_87
    repeat (first | (with_reducible exact Det_rt _) | (with_reducible intro _) | (with_reducible exact hK0 _ _ _ _ _ _ _ _ _ _ _) | (with_reducible exact ih _ _ _ _ _ _ _ _ _ _ _ _ hK0) | (with_reducible refine Det_clL ?_) | (with_reducible refine Det_clr ?_) | (with_reducible refine Det_li (fun _ => ?_)) | (with_reducible refine Det_rf rfl (fun _ => ?_)) | (with_reducible refine Det_rd rfl (fun _ => ?_)) | (with_reducible refine Det_wf (by decide) ?_) | (with_reducible refine Det_wd ?_) | (with_reducible refine Det_sr (fun _ => ?_)) | (with_reducible refine Det_og ?_) | (with_reducible refine Det_ite ?_ ?_) | (with_reducible refine Det_oi (fun _ => ?_)) | (with_reducible refine Det_ot ?_ (fun _ => ?_)) | (with_reducible refine Det_cl ?_ (fun _ => ?_)))

theorem det_lp_bestPlace_44 (c : Bool) : ∀ (n : Nat) (v1 v2 v3 v4 v5 v6 v7 v8 v9 : Int32) (K0 : Int32 → Int32 → Int32 → Int32 → Int32 → Int32 → Int32 → Int32 → Int32 → PG (Int32)), (∀ (v1 v2 v3 v4 v5 v6 v7 v8 v9 : Int32), Det c (K0 v1 v2 v3 v4 v5 v6 v7 v8 v9)) → Det c (lp_bestPlace_44 n v1 v2 v3 v4 v5 v6 v7 v8 v9 K0) := by
  intro n
  induction n with
  | zero => intro v1 v2 v3 v4 v5 v6 v7 v8 v9 K0 hK0; exact Det_no
  | succ n ih =>
    intro v1 v2 v3 v4 v5 v6 v7 v8 v9 K0 hK0
    unfold lp_bestPlace_44
    repeat (first | (with_reducible exact Det_rt _) | (with_reducible intro _) | (with_reducible exact hK0 _ _ _ _ _ _ _ _ _) | (with_reducible exact ih _ _ _ _ _ _ _ _ _ _ hK0) | (with_reducible refine det_lp_bestPlace_87 _ _ _ _ _ _ _ _ _ _ _ _ _ _ ?_) | (with_reducible refine Det_clL ?_) | (with_reducible refine Det_clr ?_) | (with_reducible refine Det_li (fun _ => ?_)) | (with_reducible refine Det_rf rfl (fun _ => ?_)) | (with_reducible refine Det_rd rfl (fun _ => ?_)) | (with_reducible refine Det_wf (by decide) ?_) | (with_reducible refine Det_wd ?_) | (with_reducible refine Det_sr (fun _ => ?_)) | (with_reducible refine Det_og ?_) | (with_reducible refine Det_ite ?_ ?_) | (with_reducible refine Det_oi (fun _ => ?_)) | (with_reducible refine Det_ot ?_ (fun _ => ?_)) | (with_reducible refine Det_cl ?_ (fun _ => ?_)))

theorem det_lp_bestPlace_9 (c : Bool) : ∀ (n : Nat) (v1 v2 v3 v4 v5 v6 : Int32) (K0 : Int32 → Int32 → Int32 → Int32 → Int32 → Int32 → PG (Int32)), (∀ (v1 v2 v3 v4 v5 v6 : Int32), Det c (K0 v1 v2 v3 v4 v5 v6)) → Det c (lp_bestPlace_9 n v1 v2 v3 v4 v5 v6 K0) := by
  intro n
  induction n with
  | zero => intro v1 v2 v3 v4 v5 v6 K0 hK0; exact Det_no
  | succ n ih =>
    intro v1 v2 v3 v4 v5 v6 K0 hK0
    unfold lp_bestPlace_9
    repeat (first | (with_reducible exact Det_rt _) | (with_reducible intro _) | (with_reducible exact hK0 _ _ _ _ _ _) | (with_reducible exact ih _ _ _ _ _ _ _ hK0) | (with_reducible refine det_lp_bestPlace_87 _ _ _ _ _ _ _ _ _ _ _ _ _ _ ?_) | (with_reducible refine det_lp_bestPlace_44 _ _ _ _ _ _ _ _ _ _ _ _ ?_) | (with_reducible refine Det_clL ?_) | (with_reducible refine Det_clr ?_) | (with_reducible refine Det_li (fun _ => ?_)) | (with_reducible refine Det_rf rfl (fun _ => ?_)) | (with_reducible refine Det_rd rfl (fun _ => ?_)) | (with_reducible refine Det_wf (by decide) ?_) | (with_reducible refine Det_wd ?_) | (with_reducible refine Det_sr (fun _ => ?_)) | (with_reducible refine Det_og ?_) | (with_reducible refine Det_ite ?_ ?_) | (with_reducible refine Det_oi (fun _ => ?_)) | (with_reducible refine Det_ot ?_ (fun _ => ?_)) | (with_reducible refine Det_cl ?_ (fun _ => ?_)))

theorem det_bestPlace (c : Bool) (a0 : Int32) (a1 : Int32) (a2 : Int32) : Det c (f_bestPlace a0 a1 a2) := by
  unfold f_bestPlace
  repeat (first | (with_reducible exact Det_rt _) | (with_reducible intro _) | (with_reducible refine det_lp_bestPlace_87 _ _ _ _ _ _ _ _ _ _ _ _ _ _ ?_) | (with_reducible refine det_lp_bestPlace_44 _ _ _ _ _ _ _ _ _ _ _ _ ?_) | (with_reducible refine det_lp_bestPlace_9 _ _ _ _ _ _ _ _ _ ?_) | (with_reducible refine Det_clL ?_) | (with_reducible refine Det_clr ?_) | (with_reducible refine Det_li (fun _ => ?_)) | (with_reducible refine Det_rf rfl (fun _ => ?_)) | (with_reducible refine Det_rd rfl (fun _ => ?_)) | (with_reducible refine Det_wf (by decide) ?_) | (with_reducible refine Det_wd ?_) | (with_reducible refine Det_sr (fun _ => ?_)) | (with_reducible refine Det_og ?_) | (with_reducible refine Det_ite ?_ ?_) | (with_reducible refine Det_oi (fun _ => ?_)) | (with_reducible refine Det_ot ?_ (fun _ => ?_)) | (with_reducible refine Det_cl ?_ (fun _ => ?_)))

theorem det_lp_draws_150 (c : Bool) : ∀ (n : Nat) (v1 v2 v3 : Int32) (K0 : Int32 → Int32 → Int32 → PG (Int32)), (∀ (v1 v2 v3 : Int32), Det c (K0 v1 v2 v3)) → Det c (lp_draws_150 n v1 v2 v3 K0) := by
  intro n
  induction n with
  | zero => intro v1 v2 v3 K0 hK0; exact Det_no
  | succ n ih =>
    intro v1 v2 v3 K0 hK0
    unfold lp_draws_150
    repeat (first | (with_reducible exact Det_rt _) | (with_reducible intro _) | (with_reducible exact hK0 _ _ _) | (with_reducible exact ih _ _ _ _ hK0) | (with_reducible exact det_bestPlace _ _ _ _) | (with_reducible exact det_fights _ _) | (with_reducible exact det_isOther _ _ _) | (with_reducible exact det_makeRow _ _) | (with_reducible exact det_settle _ _ _ _) | (with_reducible exact det_weighed _ _) | (with_reducible refine Det_clL ?_) | (with_reducible refine Det_clr ?_) | (with_reducible refine Det_li (fun _ => ?_)) | (with_reducible refine Det_rf rfl (fun _ => ?_)) | (with_reducible refine Det_rd rfl (fun _ => ?_)) | (with_reducible refine Det_wf (by decide) ?_) | (with_reducible refine Det_wd ?_) | (with_reducible refine Det_sr (fun _ => ?_)) | (with_reducible refine Det_og ?_) | (with_reducible refine Det_ite ?_ ?_) | (with_reducible refine Det_oi (fun _ => ?_)) | (with_reducible refine Det_ot ?_ (fun _ => ?_)) | (with_reducible refine Det_cl ?_ (fun _ => ?_)))

theorem det_lp_draws_187 (c : Bool) : ∀ (n : Nat) (v1 v2 v3 : Int32) (K0 : Int32 → Int32 → Int32 → PG (Int32)), (∀ (v1 v2 v3 : Int32), Det c (K0 v1 v2 v3)) → Det c (lp_draws_187 n v1 v2 v3 K0) := by
  intro n
  induction n with
  | zero => intro v1 v2 v3 K0 hK0; exact Det_no
  | succ n ih =>
    intro v1 v2 v3 K0 hK0
    unfold lp_draws_187
    repeat (first | (with_reducible exact Det_rt _) | (with_reducible intro _) | (with_reducible exact hK0 _ _ _) | (with_reducible exact ih _ _ _ _ hK0) | (with_reducible refine det_lp_draws_150 _ _ _ _ _ _ ?_) | (with_reducible exact det_bestPlace _ _ _ _) | (with_reducible exact det_fights _ _) | (with_reducible exact det_isOther _ _ _) | (with_reducible exact det_makeRow _ _) | (with_reducible exact det_settle _ _ _ _) | (with_reducible exact det_weighed _ _) | (with_reducible refine Det_clL ?_) | (with_reducible refine Det_clr ?_) | (with_reducible refine Det_li (fun _ => ?_)) | (with_reducible refine Det_rf rfl (fun _ => ?_)) | (with_reducible refine Det_rd rfl (fun _ => ?_)) | (with_reducible refine Det_wf (by decide) ?_) | (with_reducible refine Det_wd ?_) | (with_reducible refine Det_sr (fun _ => ?_)) | (with_reducible refine Det_og ?_) | (with_reducible refine Det_ite ?_ ?_) | (with_reducible refine Det_oi (fun _ => ?_)) | (with_reducible refine Det_ot ?_ (fun _ => ?_)) | (with_reducible refine Det_cl ?_ (fun _ => ?_)))

theorem det_lp_draws_230 (c : Bool) : ∀ (n : Nat) (v1 v2 v3 v4 v5 : Int32) (K0 : Int32 → Int32 → Int32 → Int32 → Int32 → PG (Int32)), (∀ (v1 v2 v3 v4 v5 : Int32), Det c (K0 v1 v2 v3 v4 v5)) → Det c (lp_draws_230 n v1 v2 v3 v4 v5 K0) := by
  intro n
  induction n with
  | zero => intro v1 v2 v3 v4 v5 K0 hK0; exact Det_no
  | succ n ih =>
    intro v1 v2 v3 v4 v5 K0 hK0
    unfold lp_draws_230
    repeat (first | (with_reducible exact Det_rt _) | (with_reducible intro _) | (with_reducible exact hK0 _ _ _ _ _) | (with_reducible exact ih _ _ _ _ _ _ hK0) | (with_reducible refine det_lp_draws_150 _ _ _ _ _ _ ?_) | (with_reducible refine det_lp_draws_187 _ _ _ _ _ _ ?_) | (with_reducible exact det_bestPlace _ _ _ _) | (with_reducible exact det_fights _ _) | (with_reducible exact det_isOther _ _ _) | (with_reducible exact det_makeRow _ _) | (with_reducible exact det_settle _ _ _ _) | (with_reducible exact det_weighed _ _) | (with_reducible refine Det_clL ?_) | (with_reducible refine Det_clr ?_) | (with_reducible refine Det_li (fun _ => ?_)) | (with_reducible refine Det_rf rfl (fun _ => ?_)) | (with_reducible refine Det_rd rfl (fun _ => ?_)) | (with_reducible refine Det_wf (by decide) ?_) | (with_reducible refine Det_wd ?_) | (with_reducible refine Det_sr (fun _ => ?_)) | (with_reducible refine Det_og ?_) | (with_reducible refine Det_ite ?_ ?_) | (with_reducible refine Det_oi (fun _ => ?_)) | (with_reducible refine Det_ot ?_ (fun _ => ?_)) | (with_reducible refine Det_cl ?_ (fun _ => ?_)))

theorem det_lp_draws_220 (c : Bool) : ∀ (n : Nat) (v1 v2 v3 v4 : Int32) (K0 : Int32 → Int32 → Int32 → Int32 → PG (Int32)), (∀ (v1 v2 v3 v4 : Int32), Det c (K0 v1 v2 v3 v4)) → Det c (lp_draws_220 n v1 v2 v3 v4 K0) := by
  intro n
  induction n with
  | zero => intro v1 v2 v3 v4 K0 hK0; exact Det_no
  | succ n ih =>
    intro v1 v2 v3 v4 K0 hK0
    unfold lp_draws_220
    repeat (first | (with_reducible exact Det_rt _) | (with_reducible intro _) | (with_reducible exact hK0 _ _ _ _) | (with_reducible exact ih _ _ _ _ _ hK0) | (with_reducible refine det_lp_draws_150 _ _ _ _ _ _ ?_) | (with_reducible refine det_lp_draws_187 _ _ _ _ _ _ ?_) | (with_reducible refine det_lp_draws_230 _ _ _ _ _ _ _ _ ?_) | (with_reducible exact det_bestPlace _ _ _ _) | (with_reducible exact det_fights _ _) | (with_reducible exact det_isOther _ _ _) | (with_reducible exact det_makeRow _ _) | (with_reducible exact det_settle _ _ _ _) | (with_reducible exact det_weighed _ _) | (with_reducible refine Det_clL ?_) | (with_reducible refine Det_clr ?_) | (with_reducible refine Det_li (fun _ => ?_)) | (with_reducible refine Det_rf rfl (fun _ => ?_)) | (with_reducible refine Det_rd rfl (fun _ => ?_)) | (with_reducible refine Det_wf (by decide) ?_) | (with_reducible refine Det_wd ?_) | (with_reducible refine Det_sr (fun _ => ?_)) | (with_reducible refine Det_og ?_) | (with_reducible refine Det_ite ?_ ?_) | (with_reducible refine Det_oi (fun _ => ?_)) | (with_reducible refine Det_ot ?_ (fun _ => ?_)) | (with_reducible refine Det_cl ?_ (fun _ => ?_)))

theorem det_lp_draws_307 (c : Bool) : ∀ (n : Nat) (v1 v2 v3 v4 : Int32) (K0 : Int32 → Int32 → Int32 → Int32 → PG (Int32)), (∀ (v1 v2 v3 v4 : Int32), Det c (K0 v1 v2 v3 v4)) → Det c (lp_draws_307 n v1 v2 v3 v4 K0) := by
  intro n
  induction n with
  | zero => intro v1 v2 v3 v4 K0 hK0; exact Det_no
  | succ n ih =>
    intro v1 v2 v3 v4 K0 hK0
    unfold lp_draws_307
    repeat (first | (with_reducible exact Det_rt _) | (with_reducible intro _) | (with_reducible exact hK0 _ _ _ _) | (with_reducible exact ih _ _ _ _ _ hK0) | (with_reducible refine det_lp_draws_150 _ _ _ _ _ _ ?_) | (with_reducible refine det_lp_draws_187 _ _ _ _ _ _ ?_) | (with_reducible refine det_lp_draws_230 _ _ _ _ _ _ _ _ ?_) | (with_reducible refine det_lp_draws_220 _ _ _ _ _ _ _ ?_) | (with_reducible exact det_bestPlace _ _ _ _) | (with_reducible exact det_fights _ _) | (with_reducible exact det_isOther _ _ _) | (with_reducible exact det_makeRow _ _) | (with_reducible exact det_settle _ _ _ _) | (with_reducible exact det_weighed _ _) | (with_reducible refine Det_clL ?_) | (with_reducible refine Det_clr ?_) | (with_reducible refine Det_li (fun _ => ?_)) | (with_reducible refine Det_rf rfl (fun _ => ?_)) | (with_reducible refine Det_rd rfl (fun _ => ?_)) | (with_reducible refine Det_wf (by decide) ?_) | (with_reducible refine Det_wd ?_) | (with_reducible refine Det_sr (fun _ => ?_)) | (with_reducible refine Det_og ?_) | (with_reducible refine Det_ite ?_ ?_) | (with_reducible refine Det_oi (fun _ => ?_)) | (with_reducible refine Det_ot ?_ (fun _ => ?_)) | (with_reducible refine Det_cl ?_ (fun _ => ?_)))

theorem det_lp_draws_331 (c : Bool) : ∀ (n : Nat) (v1 v2 v3 v4 : Int32) (K0 : Int32 → Int32 → Int32 → Int32 → PG (Int32)), (∀ (v1 v2 v3 v4 : Int32), Det c (K0 v1 v2 v3 v4)) → Det c (lp_draws_331 n v1 v2 v3 v4 K0) := by
  intro n
  induction n with
  | zero => intro v1 v2 v3 v4 K0 hK0; exact Det_no
  | succ n ih =>
    intro v1 v2 v3 v4 K0 hK0
    unfold lp_draws_331
    repeat (first | (with_reducible exact Det_rt _) | (with_reducible intro _) | (with_reducible exact hK0 _ _ _ _) | (with_reducible exact ih _ _ _ _ _ hK0) | (with_reducible refine det_lp_draws_150 _ _ _ _ _ _ ?_) | (with_reducible refine det_lp_draws_187 _ _ _ _ _ _ ?_) | (with_reducible refine det_lp_draws_230 _ _ _ _ _ _ _ _ ?_) | (with_reducible refine det_lp_draws_220 _ _ _ _ _ _ _ ?_) | (with_reducible refine det_lp_draws_307 _ _ _ _ _ _ _ ?_) | (with_reducible exact det_bestPlace _ _ _ _) | (with_reducible exact det_fights _ _) | (with_reducible exact det_isOther _ _ _) | (with_reducible exact det_makeRow _ _) | (with_reducible exact det_settle _ _ _ _) | (with_reducible exact det_weighed _ _) | (with_reducible refine Det_clL ?_) | (with_reducible refine Det_clr ?_) | (with_reducible refine Det_li (fun _ => ?_)) | (with_reducible refine Det_rf rfl (fun _ => ?_)) | (with_reducible refine Det_rd rfl (fun _ => ?_)) | (with_reducible refine Det_wf (by decide) ?_) | (with_reducible refine Det_wd ?_) | (with_reducible refine Det_sr (fun _ => ?_)) | (with_reducible refine Det_og ?_) | (with_reducible refine Det_ite ?_ ?_) | (with_reducible refine Det_oi (fun _ => ?_)) | (with_reducible refine Det_ot ?_ (fun _ => ?_)) | (with_reducible refine Det_cl ?_ (fun _ => ?_)))

theorem det_lp_draws_388 (c : Bool) : ∀ (n : Nat) (v1 v2 v3 v4 v5 v6 : Int32) (K0 : Int32 → Int32 → Int32 → Int32 → Int32 → Int32 → PG (Int32)), (∀ (v1 v2 v3 v4 v5 v6 : Int32), Det c (K0 v1 v2 v3 v4 v5 v6)) → Det c (lp_draws_388 n v1 v2 v3 v4 v5 v6 K0) := by
  intro n
  induction n with
  | zero => intro v1 v2 v3 v4 v5 v6 K0 hK0; exact Det_no
  | succ n ih =>
    intro v1 v2 v3 v4 v5 v6 K0 hK0
    unfold lp_draws_388
    repeat (first | (with_reducible exact Det_rt _) | (with_reducible intro _) | (with_reducible exact hK0 _ _ _ _ _ _) | (with_reducible exact ih _ _ _ _ _ _ _ hK0) | (with_reducible refine det_lp_draws_150 _ _ _ _ _ _ ?_) | (with_reducible refine det_lp_draws_187 _ _ _ _ _ _ ?_) | (with_reducible refine det_lp_draws_230 _ _ _ _ _ _ _ _ ?_) | (with_reducible refine det_lp_draws_220 _ _ _ _ _ _ _ ?_) | (with_reducible refine det_lp_draws_307 _ _ _ _ _ _ _ ?_) | (with_reducible refine det_lp_draws_331 _ _ _ _ _ _ _ ?_) | (with_reducible exact det_bestPlace _ _ _ _) | (with_reducible exact det_fights _ _) | (with_reducible exact det_isOther _ _ _) | (with_reducible exact det_makeRow _ _) | (with_reducible exact det_settle _ _ _ _) | (with_reducible exact det_weighed _ _) | (with_reducible refine Det_clL ?_) | (with_reducible refine Det_clr ?_) | (with_reducible refine Det_li (fun _ => ?_)) | (with_reducible refine Det_rf rfl (fun _ => ?_)) | (with_reducible refine Det_rd rfl (fun _ => ?_)) | (with_reducible refine Det_wf (by decide) ?_) | (with_reducible refine Det_wd ?_) | (with_reducible refine Det_sr (fun _ => ?_)) | (with_reducible refine Det_og ?_) | (with_reducible refine Det_ite ?_ ?_) | (with_reducible refine Det_oi (fun _ => ?_)) | (with_reducible refine Det_ot ?_ (fun _ => ?_)) | (with_reducible refine Det_cl ?_ (fun _ => ?_)))

theorem det_lp_draws_425 (c : Bool) : ∀ (n : Nat) (v1 v2 v3 v4 v5 v6 : Int32) (K0 : Int32 → Int32 → Int32 → Int32 → Int32 → Int32 → PG (Int32)), (∀ (v1 v2 v3 v4 v5 v6 : Int32), Det c (K0 v1 v2 v3 v4 v5 v6)) → Det c (lp_draws_425 n v1 v2 v3 v4 v5 v6 K0) := by
  intro n
  induction n with
  | zero => intro v1 v2 v3 v4 v5 v6 K0 hK0; exact Det_no
  | succ n ih =>
    intro v1 v2 v3 v4 v5 v6 K0 hK0
    unfold lp_draws_425
    repeat (first | (with_reducible exact Det_rt _) | (with_reducible intro _) | (with_reducible exact hK0 _ _ _ _ _ _) | (with_reducible exact ih _ _ _ _ _ _ _ hK0) | (with_reducible refine det_lp_draws_150 _ _ _ _ _ _ ?_) | (with_reducible refine det_lp_draws_187 _ _ _ _ _ _ ?_) | (with_reducible refine det_lp_draws_230 _ _ _ _ _ _ _ _ ?_) | (with_reducible refine det_lp_draws_220 _ _ _ _ _ _ _ ?_) | (with_reducible refine det_lp_draws_307 _ _ _ _ _ _ _ ?_) | (with_reducible refine det_lp_draws_331 _ _ _ _ _ _ _ ?_) | (with_reducible refine det_lp_draws_388 _ _ _ _ _ _ _ _ _ ?_) | (with_reducible exact det_bestPlace _ _ _ _) | (with_reducible exact det_fights _ _) | (with_reducible exact det_isOther _ _ _) | (with_reducible exact det_makeRow _ _) | (with_reducible exact det_settle _ _ _ _) | (with_reducible exact det_weighed _ _) | (with_reducible refine Det_clL ?_) | (with_reducible refine Det_clr ?_) | (with_reducible refine Det_li (fun _ => ?_)) | (with_reducible refine Det_rf rfl (fun _ => ?_)) | (with_reducible refine Det_rd rfl (fun _ => ?_)) | (with_reducible refine Det_wf (by decide) ?_) | (with_reducible refine Det_wd ?_) | (with_reducible refine Det_sr (fun _ => ?_)) | (with_reducible refine Det_og ?_) | (with_reducible refine Det_ite ?_ ?_) | (with_reducible refine Det_oi (fun _ => ?_)) | (with_reducible refine Det_ot ?_ (fun _ => ?_)) | (with_reducible refine Det_cl ?_ (fun _ => ?_)))

theorem det_lp_draws_375 (c : Bool) : ∀ (n : Nat) (v1 v2 v3 v4 : Int32) (K0 : Int32 → Int32 → Int32 → Int32 → PG (Int32)), (∀ (v1 v2 v3 v4 : Int32), Det c (K0 v1 v2 v3 v4)) → Det c (lp_draws_375 n v1 v2 v3 v4 K0) := by
  intro n
  induction n with
  | zero => intro v1 v2 v3 v4 K0 hK0; exact Det_no
  | succ n ih =>
    intro v1 v2 v3 v4 K0 hK0
    unfold lp_draws_375
    repeat (first | (with_reducible exact Det_rt _) | (with_reducible intro _) | (with_reducible exact hK0 _ _ _ _) | (with_reducible exact ih _ _ _ _ _ hK0) | (with_reducible refine det_lp_draws_150 _ _ _ _ _ _ ?_) | (with_reducible refine det_lp_draws_187 _ _ _ _ _ _ ?_) | (with_reducible refine det_lp_draws_230 _ _ _ _ _ _ _ _ ?_) | (with_reducible refine det_lp_draws_220 _ _ _ _ _ _ _ ?_) | (with_reducible refine det_lp_draws_307 _ _ _ _ _ _ _ ?_) | (with_reducible refine det_lp_draws_331 _ _ _ _ _ _ _ ?_) | (with_reducible refine det_lp_draws_388 _ _ _ _ _ _ _ _ _ ?_) | (with_reducible refine det_lp_draws_425 _ _ _ _ _ _ _ _ _ ?_) | (with_reducible exact det_bestPlace _ _ _ _) | (with_reducible exact det_fights _ _) | (with_reducible exact det_isOther _ _ _) | (with_reducible exact det_makeRow _ _) | (with_reducible exact det_settle _ _ _ _) | (with_reducible exact det_weighed _ _) | (with_reducible refine Det_clL ?_) | (with_reducible refine Det_clr ?_) | (with_reducible refine Det_li (fun _ => ?_)) | (with_reducible refine Det_rf rfl (fun _ => ?_)) | (with_reducible refine Det_rd rfl (fun _ => ?_)) | (with_reducible refine Det_wf (by decide) ?_) | (with_reducible refine Det_wd ?_) | (with_reducible refine Det_sr (fun _ => ?_)) | (with_reducible refine Det_og ?_) | (with_reducible refine Det_ite ?_ ?_) | (with_reducible refine Det_oi (fun _ => ?_)) | (with_reducible refine Det_ot ?_ (fun _ => ?_)) | (with_reducible refine Det_cl ?_ (fun _ => ?_)))

theorem det_lp_draws_31 (c : Bool) : ∀ (n : Nat) (v1 v2 v3 v4 : Int32) (K0 : Int32 → Int32 → Int32 → Int32 → PG (Int32)), (∀ (v1 v2 v3 v4 : Int32), Det c (K0 v1 v2 v3 v4)) → Det c (lp_draws_31 n v1 v2 v3 v4 K0) := by
  intro n
  induction n with
  | zero => intro v1 v2 v3 v4 K0 hK0; exact Det_no
  | succ n ih =>
    intro v1 v2 v3 v4 K0 hK0
    unfold lp_draws_31
    repeat (first | (with_reducible exact Det_rt _) | (with_reducible intro _) | (with_reducible exact hK0 _ _ _ _) | (with_reducible exact ih _ _ _ _ _ hK0) | (with_reducible refine det_lp_draws_150 _ _ _ _ _ _ ?_) | (with_reducible refine det_lp_draws_187 _ _ _ _ _ _ ?_) | (with_reducible refine det_lp_draws_230 _ _ _ _ _ _ _ _ ?_) | (with_reducible refine det_lp_draws_220 _ _ _ _ _ _ _ ?_) | (with_reducible refine det_lp_draws_307 _ _ _ _ _ _ _ ?_) | (with_reducible refine det_lp_draws_331 _ _ _ _ _ _ _ ?_) | (with_reducible refine det_lp_draws_388 _ _ _ _ _ _ _ _ _ ?_) | (with_reducible refine det_lp_draws_425 _ _ _ _ _ _ _ _ _ ?_) | (with_reducible refine det_lp_draws_375 _ _ _ _ _ _ _ ?_) | (with_reducible exact det_bestPlace _ _ _ _) | (with_reducible exact det_fights _ _) | (with_reducible exact det_isOther _ _ _) | (with_reducible exact det_makeRow _ _) | (with_reducible exact det_settle _ _ _ _) | (with_reducible exact det_weighed _ _) | (with_reducible refine Det_clL ?_) | (with_reducible refine Det_clr ?_) | (with_reducible refine Det_li (fun _ => ?_)) | (with_reducible refine Det_rf rfl (fun _ => ?_)) | (with_reducible refine Det_rd rfl (fun _ => ?_)) | (with_reducible refine Det_wf (by decide) ?_) | (with_reducible refine Det_wd ?_) | (with_reducible refine Det_sr (fun _ => ?_)) | (with_reducible refine Det_og ?_) | (with_reducible refine Det_ite ?_ ?_) | (with_reducible refine Det_oi (fun _ => ?_)) | (with_reducible refine Det_ot ?_ (fun _ => ?_)) | (with_reducible refine Det_cl ?_ (fun _ => ?_)))

theorem det_draws (c : Bool) (a0 : Int32) : Det c (f_draws a0) := by
  unfold f_draws
  repeat (first | (with_reducible exact Det_rt _) | (with_reducible intro _) | (with_reducible refine det_lp_draws_150 _ _ _ _ _ _ ?_) | (with_reducible refine det_lp_draws_187 _ _ _ _ _ _ ?_) | (with_reducible refine det_lp_draws_230 _ _ _ _ _ _ _ _ ?_) | (with_reducible refine det_lp_draws_220 _ _ _ _ _ _ _ ?_) | (with_reducible refine det_lp_draws_307 _ _ _ _ _ _ _ ?_) | (with_reducible refine det_lp_draws_331 _ _ _ _ _ _ _ ?_) | (with_reducible refine det_lp_draws_388 _ _ _ _ _ _ _ _ _ ?_) | (with_reducible refine det_lp_draws_425 _ _ _ _ _ _ _ _ _ ?_) | (with_reducible refine det_lp_draws_375 _ _ _ _ _ _ _ ?_) | (with_reducible refine det_lp_draws_31 _ _ _ _ _ _ _ ?_) | (with_reducible exact det_bestPlace _ _ _ _) | (with_reducible exact det_fights _ _) | (with_reducible exact det_isOther _ _ _) | (with_reducible exact det_makeRow _ _) | (with_reducible exact det_settle _ _ _ _) | (with_reducible exact det_weighed _ _) | (with_reducible refine Det_clL ?_) | (with_reducible refine Det_clr ?_) | (with_reducible refine Det_li (fun _ => ?_)) | (with_reducible refine Det_rf rfl (fun _ => ?_)) | (with_reducible refine Det_rd rfl (fun _ => ?_)) | (with_reducible refine Det_wf (by decide) ?_) | (with_reducible refine Det_wd ?_) | (with_reducible refine Det_sr (fun _ => ?_)) | (with_reducible refine Det_og ?_) | (with_reducible refine Det_ite ?_ ?_) | (with_reducible refine Det_oi (fun _ => ?_)) | (with_reducible refine Det_ot ?_ (fun _ => ?_)) | (with_reducible refine Det_cl ?_ (fun _ => ?_)))

theorem det_lp_matOf_2 (c : Bool) : ∀ (n : Nat) (v1 v2 v3 : Int32) (K0 : Int32 → Int32 → Int32 → PG (Int32)), (∀ (v1 v2 v3 : Int32), Det c (K0 v1 v2 v3)) → Det c (lp_matOf_2 n v1 v2 v3 K0) := by
  intro n
  induction n with
  | zero => intro v1 v2 v3 K0 hK0; exact Det_no
  | succ n ih =>
    intro v1 v2 v3 K0 hK0
    unfold lp_matOf_2
    repeat (first | (with_reducible exact Det_rt _) | (with_reducible intro _) | (with_reducible exact hK0 _ _ _) | (with_reducible exact ih _ _ _ _ hK0) | (with_reducible refine Det_clL ?_) | (with_reducible refine Det_clr ?_) | (with_reducible refine Det_li (fun _ => ?_)) | (with_reducible refine Det_rf rfl (fun _ => ?_)) | (with_reducible refine Det_rd rfl (fun _ => ?_)) | (with_reducible refine Det_wf (by decide) ?_) | (with_reducible refine Det_wd ?_) | (with_reducible refine Det_sr (fun _ => ?_)) | (with_reducible refine Det_og ?_) | (with_reducible refine Det_ite ?_ ?_) | (with_reducible refine Det_oi (fun _ => ?_)) | (with_reducible refine Det_ot ?_ (fun _ => ?_)) | (with_reducible refine Det_cl ?_ (fun _ => ?_)))

theorem det_matOf (c : Bool) (a0 : Int32) (a1 : Int32) : Det c (f_matOf a0 a1) := by
  unfold f_matOf
  repeat (first | (with_reducible exact Det_rt _) | (with_reducible intro _) | (with_reducible refine det_lp_matOf_2 _ _ _ _ _ _ ?_) | (with_reducible refine Det_clL ?_) | (with_reducible refine Det_clr ?_) | (with_reducible refine Det_li (fun _ => ?_)) | (with_reducible refine Det_rf rfl (fun _ => ?_)) | (with_reducible refine Det_rd rfl (fun _ => ?_)) | (with_reducible refine Det_wf (by decide) ?_) | (with_reducible refine Det_wd ?_) | (with_reducible refine Det_sr (fun _ => ?_)) | (with_reducible refine Det_og ?_) | (with_reducible refine Det_ite ?_ ?_) | (with_reducible refine Det_oi (fun _ => ?_)) | (with_reducible refine Det_ot ?_ (fun _ => ?_)) | (with_reducible refine Det_cl ?_ (fun _ => ?_)))

theorem det_goesOver (c : Bool) (a0 : Int32) : Det c (f_goesOver a0) := by
  unfold f_goesOver
  repeat (first | (with_reducible exact Det_rt _) | (with_reducible intro _) | (with_reducible refine Det_clL ?_) | (with_reducible refine Det_clr ?_) | (with_reducible refine Det_li (fun _ => ?_)) | (with_reducible refine Det_rf rfl (fun _ => ?_)) | (with_reducible refine Det_rd rfl (fun _ => ?_)) | (with_reducible refine Det_wf (by decide) ?_) | (with_reducible refine Det_wd ?_) | (with_reducible refine Det_sr (fun _ => ?_)) | (with_reducible refine Det_og ?_) | (with_reducible refine Det_ite ?_ ?_) | (with_reducible refine Det_oi (fun _ => ?_)) | (with_reducible refine Det_ot ?_ (fun _ => ?_)) | (with_reducible refine Det_cl ?_ (fun _ => ?_)))

theorem det_lp_begins_79 (c : Bool) : ∀ (n : Nat) (v1 v2 v3 v4 v5 : Int32) (K0 : Int32 → Int32 → Int32 → Int32 → Int32 → PG (Int32)), (∀ (v1 v2 v3 v4 v5 : Int32), Det c (K0 v1 v2 v3 v4 v5)) → Det c (lp_begins_79 n v1 v2 v3 v4 v5 K0) := by
  intro n
  induction n with
  | zero => intro v1 v2 v3 v4 v5 K0 hK0; exact Det_no
  | succ n ih =>
    intro v1 v2 v3 v4 v5 K0 hK0
    unfold lp_begins_79
    repeat (first | (with_reducible exact Det_rt _) | (with_reducible intro _) | (with_reducible exact hK0 _ _ _ _ _) | (with_reducible exact ih _ _ _ _ _ _ hK0) | (with_reducible exact det_fS _ _ _ _ _ _ _) | (with_reducible exact det_goesOver _ _) | (with_reducible refine Det_clL ?_) | (with_reducible refine Det_clr ?_) | (with_reducible refine Det_li (fun _ => ?_)) | (with_reducible refine Det_rf rfl (fun _ => ?_)) | (with_reducible refine Det_rd rfl (fun _ => ?_)) | (with_reducible refine Det_wf (by decide) ?_) | (with_reducible refine Det_wd ?_) | (with_reducible refine Det_sr (fun _ => ?_)) | (with_reducible refine Det_og ?_) | (with_reducible refine Det_ite ?_ ?_) | (with_reducible refine Det_oi (fun _ => ?_)) | (with_reducible refine Det_ot ?_ (fun _ => ?_)) | (with_reducible refine Det_cl ?_ (fun _ => ?_)))

theorem det_begins (c : Bool) (a0 : Int32) (a1 : Int32) (a2 : Int32) : Det c (f_begins a0 a1 a2) := by
  unfold f_begins
  repeat (first | (with_reducible exact Det_rt _) | (with_reducible intro _) | (with_reducible refine det_lp_begins_79 _ _ _ _ _ _ _ _ ?_) | (with_reducible exact det_fS _ _ _ _ _ _ _) | (with_reducible exact det_goesOver _ _) | (with_reducible refine Det_clL ?_) | (with_reducible refine Det_clr ?_) | (with_reducible refine Det_li (fun _ => ?_)) | (with_reducible refine Det_rf rfl (fun _ => ?_)) | (with_reducible refine Det_rd rfl (fun _ => ?_)) | (with_reducible refine Det_wf (by decide) ?_) | (with_reducible refine Det_wd ?_) | (with_reducible refine Det_sr (fun _ => ?_)) | (with_reducible refine Det_og ?_) | (with_reducible refine Det_ite ?_ ?_) | (with_reducible refine Det_oi (fun _ => ?_)) | (with_reducible refine Det_ot ?_ (fun _ => ?_)) | (with_reducible refine Det_cl ?_ (fun _ => ?_)))

theorem det_ends (c : Bool) (a0 : Int32) (a1 : Int32) (a2 : Int32) (a3 : Int32) : Det c (f_ends a0 a1 a2 a3) := by
  unfold f_ends
  repeat (first | (with_reducible exact Det_rt _) | (with_reducible intro _) | (with_reducible refine Det_clL ?_) | (with_reducible refine Det_clr ?_) | (with_reducible refine Det_li (fun _ => ?_)) | (with_reducible refine Det_rf rfl (fun _ => ?_)) | (with_reducible refine Det_rd rfl (fun _ => ?_)) | (with_reducible refine Det_wf (by decide) ?_) | (with_reducible refine Det_wd ?_) | (with_reducible refine Det_sr (fun _ => ?_)) | (with_reducible refine Det_og ?_) | (with_reducible refine Det_ite ?_ ?_) | (with_reducible refine Det_oi (fun _ => ?_)) | (with_reducible refine Det_ot ?_ (fun _ => ?_)) | (with_reducible refine Det_cl ?_ (fun _ => ?_)))

theorem det_lp_asked_13 (c : Bool) : ∀ (n : Nat) (v1 v2 v3 v4 : Int32) (K0 : Int32 → Int32 → Int32 → Int32 → PG (Int32)), (∀ (v1 v2 v3 v4 : Int32), Det c (K0 v1 v2 v3 v4)) → Det c (lp_asked_13 n v1 v2 v3 v4 K0) := by
  intro n
  induction n with
  | zero => intro v1 v2 v3 v4 K0 hK0; exact Det_no
  | succ n ih =>
    intro v1 v2 v3 v4 K0 hK0
    unfold lp_asked_13
    repeat (first | (with_reducible exact Det_rt _) | (with_reducible intro _) | (with_reducible exact hK0 _ _ _ _) | (with_reducible exact ih _ _ _ _ _ hK0) | (with_reducible exact det_ends _ _ _ _ _) | (with_reducible exact det_holds _ _ _ _ _) | (with_reducible refine Det_clL ?_) | (with_reducible refine Det_clr ?_) | (with_reducible refine Det_li (fun _ => ?_)) | (with_reducible refine Det_rf rfl (fun _ => ?_)) | (with_reducible refine Det_rd rfl (fun _ => ?_)) | (with_reducible refine Det_wf (by decide) ?_) | (with_reducible refine Det_wd ?_) | (with_reducible refine Det_sr (fun _ => ?_)) | (with_reducible refine Det_og ?_) | (with_reducible refine Det_ite ?_ ?_) | (with_reducible refine Det_oi (fun _ => ?_)) | (with_reducible refine Det_ot ?_ (fun _ => ?_)) | (with_reducible refine Det_cl ?_ (fun _ => ?_)))

theorem det_lp_asked_2 (c : Bool) : ∀ (n : Nat) (v1 v2 v3 : Int32) (K0 : Int32 → Int32 → Int32 → PG (Int32)), (∀ (v1 v2 v3 : Int32), Det c (K0 v1 v2 v3)) → Det c (lp_asked_2 n v1 v2 v3 K0) := by
  intro n
  induction n with
  | zero => intro v1 v2 v3 K0 hK0; exact Det_no
  | succ n ih =>
    intro v1 v2 v3 K0 hK0
    unfold lp_asked_2
    repeat (first | (with_reducible exact Det_rt _) | (with_reducible intro _) | (with_reducible exact hK0 _ _ _) | (with_reducible exact ih _ _ _ _ hK0) | (with_reducible refine det_lp_asked_13 _ _ _ _ _ _ _ ?_) | (with_reducible exact det_ends _ _ _ _ _) | (with_reducible exact det_holds _ _ _ _ _) | (with_reducible refine Det_clL ?_) | (with_reducible refine Det_clr ?_) | (with_reducible refine Det_li (fun _ => ?_)) | (with_reducible refine Det_rf rfl (fun _ => ?_)) | (with_reducible refine Det_rd rfl (fun _ => ?_)) | (with_reducible refine Det_wf (by decide) ?_) | (with_reducible refine Det_wd ?_) | (with_reducible refine Det_sr (fun _ => ?_)) | (with_reducible refine Det_og ?_) | (with_reducible refine Det_ite ?_ ?_) | (with_reducible refine Det_oi (fun _ => ?_)) | (with_reducible refine Det_ot ?_ (fun _ => ?_)) | (with_reducible refine Det_cl ?_ (fun _ => ?_)))

theorem det_asked (c : Bool) (a0 : Int32) (a1 : Int32) : Det c (f_asked a0 a1) := by
  unfold f_asked
  repeat (first | (with_reducible exact Det_rt _) | (with_reducible intro _) | (with_reducible refine det_lp_asked_13 _ _ _ _ _ _ _ ?_) | (with_reducible refine det_lp_asked_2 _ _ _ _ _ _ ?_) | (with_reducible exact det_ends _ _ _ _ _) | (with_reducible exact det_holds _ _ _ _ _) | (with_reducible refine Det_clL ?_) | (with_reducible refine Det_clr ?_) | (with_reducible refine Det_li (fun _ => ?_)) | (with_reducible refine Det_rf rfl (fun _ => ?_)) | (with_reducible refine Det_rd rfl (fun _ => ?_)) | (with_reducible refine Det_wf (by decide) ?_) | (with_reducible refine Det_wd ?_) | (with_reducible refine Det_sr (fun _ => ?_)) | (with_reducible refine Det_og ?_) | (with_reducible refine Det_ite ?_ ?_) | (with_reducible refine Det_oi (fun _ => ?_)) | (with_reducible refine Det_ot ?_ (fun _ => ?_)) | (with_reducible refine Det_cl ?_ (fun _ => ?_)))

theorem det_passes (c : Bool) (a0 : Int32) (a1 : Int32) : Det c (f_passes a0 a1) := by
  unfold f_passes
  repeat (first | (with_reducible exact Det_rt _) | (with_reducible intro _) | (with_reducible exact det_asked _ _ _) | (with_reducible exact det_goesOver _ _) | (with_reducible refine Det_clL ?_) | (with_reducible refine Det_clr ?_) | (with_reducible refine Det_li (fun _ => ?_)) | (with_reducible refine Det_rf rfl (fun _ => ?_)) | (with_reducible refine Det_rd rfl (fun _ => ?_)) | (with_reducible refine Det_wf (by decide) ?_) | (with_reducible refine Det_wd ?_) | (with_reducible refine Det_sr (fun _ => ?_)) | (with_reducible refine Det_og ?_) | (with_reducible refine Det_ite ?_ ?_) | (with_reducible refine Det_oi (fun _ => ?_)) | (with_reducible refine Det_ot ?_ (fun _ => ?_)) | (with_reducible refine Det_cl ?_ (fun _ => ?_)))

theorem det_lp_struck_28 (c : Bool) : ∀ (n : Nat) (v1 v2 v3 v4 v5 : Int32) (K0 : Int32 → Int32 → Int32 → Int32 → Int32 → PG (Int32)), (∀ (v1 v2 v3 v4 v5 : Int32), Det c (K0 v1 v2 v3 v4 v5)) → Det c (lp_struck_28 n v1 v2 v3 v4 v5 K0) := by
  intro n
  induction n with
  | zero => intro v1 v2 v3 v4 v5 K0 hK0; exact Det_no
  | succ n ih =>
    intro v1 v2 v3 v4 v5 K0 hK0
    unfold lp_struck_28
    repeat (first | (with_reducible exact Det_rt _) | (with_reducible intro _) | (with_reducible exact hK0 _ _ _ _ _) | (with_reducible exact ih _ _ _ _ _ _ hK0) | (with_reducible exact det_fS _ _ _ _ _ _ _) | (with_reducible exact det_fights _ _) | (with_reducible exact det_matOf _ _ _) | (with_reducible refine Det_clL ?_) | (with_reducible refine Det_clr ?_) | (with_reducible refine Det_li (fun _ => ?_)) | (with_reducible refine Det_rf rfl (fun _ => ?_)) | (with_reducible refine Det_rd rfl (fun _ => ?_)) | (with_reducible refine Det_wf (by decide) ?_) | (with_reducible refine Det_wd ?_) | (with_reducible refine Det_sr (fun _ => ?_)) | (with_reducible refine Det_og ?_) | (with_reducible refine Det_ite ?_ ?_) | (with_reducible refine Det_oi (fun _ => ?_)) | (with_reducible refine Det_ot ?_ (fun _ => ?_)) | (with_reducible refine Det_cl ?_ (fun _ => ?_)))

theorem det_lp_struck_17 (c : Bool) : ∀ (n : Nat) (v1 v2 v3 v4 : Int32) (K0 : Int32 → Int32 → Int32 → Int32 → PG (Int32)), (∀ (v1 v2 v3 v4 : Int32), Det c (K0 v1 v2 v3 v4)) → Det c (lp_struck_17 n v1 v2 v3 v4 K0) := by
  intro n
  induction n with
  | zero => intro v1 v2 v3 v4 K0 hK0; exact Det_no
  | succ n ih =>
    intro v1 v2 v3 v4 K0 hK0
    unfold lp_struck_17
    repeat (first | (with_reducible exact Det_rt _) | (with_reducible intro _) | (with_reducible exact hK0 _ _ _ _) | (with_reducible exact ih _ _ _ _ _ hK0) | (with_reducible refine det_lp_struck_28 _ _ _ _ _ _ _ _ ?_) | (with_reducible exact det_fS _ _ _ _ _ _ _) | (with_reducible exact det_fights _ _) | (with_reducible exact det_matOf _ _ _) | (with_reducible refine Det_clL ?_) | (with_reducible refine Det_clr ?_) | (with_reducible refine Det_li (fun _ => ?_)) | (with_reducible refine Det_rf rfl (fun _ => ?_)) | (with_reducible refine Det_rd rfl (fun _ => ?_)) | (with_reducible refine Det_wf (by decide) ?_) | (with_reducible refine Det_wd ?_) | (with_reducible refine Det_sr (fun _ => ?_)) | (with_reducible refine Det_og ?_) | (with_reducible refine Det_ite ?_ ?_) | (with_reducible refine Det_oi (fun _ => ?_)) | (with_reducible refine Det_ot ?_ (fun _ => ?_)) | (with_reducible refine Det_cl ?_ (fun _ => ?_)))

theorem det_struck (c : Bool) (a0 : Int32) (a1 : Int32) : Det c (f_struck a0 a1) := by
  unfold f_struck
  repeat (first | (with_reducible exact Det_rt _) | (with_reducible intro _) | (with_reducible refine det_lp_struck_28 _ _ _ _ _ _ _ _ ?_) | (with_reducible refine det_lp_struck_17 _ _ _ _ _ _ _ ?_) | (with_reducible exact det_fS _ _ _ _ _ _ _) | (with_reducible exact det_fights _ _) | (with_reducible exact det_matOf _ _ _) | (with_reducible refine Det_clL ?_) | (with_reducible refine Det_clr ?_) | (with_reducible refine Det_li (fun _ => ?_)) | (with_reducible refine Det_rf rfl (fun _ => ?_)) | (with_reducible refine Det_rd rfl (fun _ => ?_)) | (with_reducible refine Det_wf (by decide) ?_) | (with_reducible refine Det_wd ?_) | (with_reducible refine Det_sr (fun _ => ?_)) | (with_reducible refine Det_og ?_) | (with_reducible refine Det_ite ?_ ?_) | (with_reducible refine Det_oi (fun _ => ?_)) | (with_reducible refine Det_ot ?_ (fun _ => ?_)) | (with_reducible refine Det_cl ?_ (fun _ => ?_)))

theorem det_wrong (c : Bool) (a0 : Int32) (a1 : Int32) : Det c (f_wrong a0 a1) := by
  unfold f_wrong
  repeat (first | (with_reducible exact Det_rt _) | (with_reducible intro _) | (with_reducible refine Det_clL ?_) | (with_reducible refine Det_clr ?_) | (with_reducible refine Det_li (fun _ => ?_)) | (with_reducible refine Det_rf rfl (fun _ => ?_)) | (with_reducible refine Det_rd rfl (fun _ => ?_)) | (with_reducible refine Det_wf (by decide) ?_) | (with_reducible refine Det_wd ?_) | (with_reducible refine Det_sr (fun _ => ?_)) | (with_reducible refine Det_og ?_) | (with_reducible refine Det_ite ?_ ?_) | (with_reducible refine Det_oi (fun _ => ?_)) | (with_reducible refine Det_ot ?_ (fun _ => ?_)) | (with_reducible refine Det_cl ?_ (fun _ => ?_)))

theorem det_lp_scan_0 : ∀ (n : Nat) (K0 : PG (Int32)), (∀ (_ : Unit), Det true (K0 )) → Det true (lp_scan_0 n  K0) := by
  intro n
  induction n with
  | zero => intro  K0 hK0; exact Det_no
  | succ n ih =>
    intro  K0 hK0
    unfold lp_scan_0
    repeat (first | (with_reducible exact Det_rt _) | (with_reducible intro _) | (with_reducible exact hK0 ()) | (with_reducible exact ih _ hK0) | (with_reducible exact det_byteAt _) | (with_reducible exact det_isDigit _ _) | (with_reducible exact det_isLetter _ _) | (with_reducible refine Det_clL ?_) | (with_reducible refine Det_clr ?_) | (with_reducible refine Det_li (fun _ => ?_)) | (with_reducible refine Det_rf rfl (fun _ => ?_)) | (with_reducible refine Det_rd rfl (fun _ => ?_)) | (with_reducible refine Det_wf (by decide) ?_) | (with_reducible refine Det_wd ?_) | (with_reducible refine Det_sr (fun _ => ?_)) | (with_reducible refine Det_og ?_) | (with_reducible refine Det_ite ?_ ?_) | (with_reducible refine Det_oi (fun _ => ?_)) | (with_reducible refine Det_ot ?_ (fun _ => ?_)) | (with_reducible refine Det_cl ?_ (fun _ => ?_)))

theorem det_lp_scan_160 : ∀ (n : Nat) (v1 : Int32) (K0 : Int32 → PG (Int32)), (∀ (v1 : Int32), Det true (K0 v1)) → Det true (lp_scan_160 n v1 K0) := by
  intro n
  induction n with
  | zero => intro v1 K0 hK0; exact Det_no
  | succ n ih =>
    intro v1 K0 hK0
    unfold lp_scan_160
    repeat (first | (with_reducible exact Det_rt _) | (with_reducible intro _) | (with_reducible exact hK0 _) | (with_reducible exact ih _ _ hK0) | (with_reducible refine det_lp_scan_0 _ _ ?_) | (with_reducible exact det_byteAt _) | (with_reducible exact det_isDigit _ _) | (with_reducible exact det_isLetter _ _) | (with_reducible refine Det_clL ?_) | (with_reducible refine Det_clr ?_) | (with_reducible refine Det_li (fun _ => ?_)) | (with_reducible refine Det_rf rfl (fun _ => ?_)) | (with_reducible refine Det_rd rfl (fun _ => ?_)) | (with_reducible refine Det_wf (by decide) ?_) | (with_reducible refine Det_wd ?_) | (with_reducible refine Det_sr (fun _ => ?_)) | (with_reducible refine Det_og ?_) | (with_reducible refine Det_ite ?_ ?_) | (with_reducible refine Det_oi (fun _ => ?_)) | (with_reducible refine Det_ot ?_ (fun _ => ?_)) | (with_reducible refine Det_cl ?_ (fun _ => ?_)))

theorem det_lp_scan_95 : ∀ (n : Nat) (v1 : Int32) (K0 : Int32 → PG (Int32)), (∀ (v1 : Int32), Det true (K0 v1)) → Det true (lp_scan_95 n v1 K0) := by
  intro n
  induction n with
  | zero => intro v1 K0 hK0; exact Det_no
  | succ n ih =>
    intro v1 K0 hK0
    unfold lp_scan_95
    repeat (first | (with_reducible exact Det_rt _) | (with_reducible intro _) | (with_reducible exact hK0 _) | (with_reducible exact ih _ _ hK0) | (with_reducible refine det_lp_scan_0 _ _ ?_) | (with_reducible refine det_lp_scan_160 _ _ _ ?_) | (with_reducible exact det_byteAt _) | (with_reducible exact det_isDigit _ _) | (with_reducible exact det_isLetter _ _) | (with_reducible refine Det_clL ?_) | (with_reducible refine Det_clr ?_) | (with_reducible refine Det_li (fun _ => ?_)) | (with_reducible refine Det_rf rfl (fun _ => ?_)) | (with_reducible refine Det_rd rfl (fun _ => ?_)) | (with_reducible refine Det_wf (by decide) ?_) | (with_reducible refine Det_wd ?_) | (with_reducible refine Det_sr (fun _ => ?_)) | (with_reducible refine Det_og ?_) | (with_reducible refine Det_ite ?_ ?_) | (with_reducible refine Det_oi (fun _ => ?_)) | (with_reducible refine Det_ot ?_ (fun _ => ?_)) | (with_reducible refine Det_cl ?_ (fun _ => ?_)))

theorem det_scan : Det true (f_scan) := by
  unfold f_scan
  repeat (first | (with_reducible exact Det_rt _) | (with_reducible intro _) | (with_reducible refine det_lp_scan_0 _ _ ?_) | (with_reducible refine det_lp_scan_160 _ _ _ ?_) | (with_reducible refine det_lp_scan_95 _ _ _ ?_) | (with_reducible exact det_byteAt _) | (with_reducible exact det_isDigit _ _) | (with_reducible exact det_isLetter _ _) | (with_reducible refine Det_clL ?_) | (with_reducible refine Det_clr ?_) | (with_reducible refine Det_li (fun _ => ?_)) | (with_reducible refine Det_rf rfl (fun _ => ?_)) | (with_reducible refine Det_rd rfl (fun _ => ?_)) | (with_reducible refine Det_wf (by decide) ?_) | (with_reducible refine Det_wd ?_) | (with_reducible refine Det_sr (fun _ => ?_)) | (with_reducible refine Det_og ?_) | (with_reducible refine Det_ite ?_ ?_) | (with_reducible refine Det_oi (fun _ => ?_)) | (with_reducible refine Det_ot ?_ (fun _ => ?_)) | (with_reducible refine Det_cl ?_ (fun _ => ?_)))

theorem det_lp_isText_24 (a0 : Nat) : ∀ (n : Nat) (v2 v3 : Int32) (K0 : Int32 → Int32 → PG (Int32)), (∀ (v2 v3 : Int32), Det true (K0 v2 v3)) → Det true (lp_isText_24 a0 n v2 v3 K0) := by
  intro n
  induction n with
  | zero => intro v2 v3 K0 hK0; exact Det_no
  | succ n ih =>
    intro v2 v3 K0 hK0
    unfold lp_isText_24
    repeat (first | (with_reducible exact Det_rt _) | (with_reducible intro _) | (with_reducible exact hK0 _ _) | (with_reducible exact ih _ _ _ hK0) | (with_reducible refine Det_clL ?_) | (with_reducible refine Det_clr ?_) | (with_reducible refine Det_li (fun _ => ?_)) | (with_reducible refine Det_rf rfl (fun _ => ?_)) | (with_reducible refine Det_rd rfl (fun _ => ?_)) | (with_reducible refine Det_wf (by decide) ?_) | (with_reducible refine Det_wd ?_) | (with_reducible refine Det_sr (fun _ => ?_)) | (with_reducible refine Det_og ?_) | (with_reducible refine Det_ite ?_ ?_) | (with_reducible refine Det_oi (fun _ => ?_)) | (with_reducible refine Det_ot ?_ (fun _ => ?_)) | (with_reducible refine Det_cl ?_ (fun _ => ?_)))

theorem det_isText (a0 : Nat) : Det true (f_isText a0) := by
  unfold f_isText
  repeat (first | (with_reducible exact Det_rt _) | (with_reducible intro _) | (with_reducible refine det_lp_isText_24 _ _ _ _ _ ?_) | (with_reducible refine Det_clL ?_) | (with_reducible refine Det_clr ?_) | (with_reducible refine Det_li (fun _ => ?_)) | (with_reducible refine Det_rf rfl (fun _ => ?_)) | (with_reducible refine Det_rd rfl (fun _ => ?_)) | (with_reducible refine Det_wf (by decide) ?_) | (with_reducible refine Det_wd ?_) | (with_reducible refine Det_sr (fun _ => ?_)) | (with_reducible refine Det_og ?_) | (with_reducible refine Det_ite ?_ ?_) | (with_reducible refine Det_oi (fun _ => ?_)) | (with_reducible refine Det_ot ?_ (fun _ => ?_)) | (with_reducible refine Det_cl ?_ (fun _ => ?_)))

theorem det_is (a0 : Nat) : Det true (f_is a0) := by
  unfold f_is
  repeat (first | (with_reducible exact Det_rt _) | (with_reducible intro _) | (with_reducible exact det_isText _) | (with_reducible refine Det_clL ?_) | (with_reducible refine Det_clr ?_) | (with_reducible refine Det_li (fun _ => ?_)) | (with_reducible refine Det_rf rfl (fun _ => ?_)) | (with_reducible refine Det_rd rfl (fun _ => ?_)) | (with_reducible refine Det_wf (by decide) ?_) | (with_reducible refine Det_wd ?_) | (with_reducible refine Det_sr (fun _ => ?_)) | (with_reducible refine Det_og ?_) | (with_reducible refine Det_ite ?_ ?_) | (with_reducible refine Det_oi (fun _ => ?_)) | (with_reducible refine Det_ot ?_ (fun _ => ?_)) | (with_reducible refine Det_cl ?_ (fun _ => ?_)))

theorem det_need (a0 : Nat) : Det true (f_need a0) := by
  unfold f_need
  repeat (first | (with_reducible exact Det_rt _) | (with_reducible intro _) | (with_reducible exact det_is _) | (with_reducible exact det_scan) | (with_reducible exact det_wrong _ _ _) | (with_reducible refine Det_clL ?_) | (with_reducible refine Det_clr ?_) | (with_reducible refine Det_li (fun _ => ?_)) | (with_reducible refine Det_rf rfl (fun _ => ?_)) | (with_reducible refine Det_rd rfl (fun _ => ?_)) | (with_reducible refine Det_wf (by decide) ?_) | (with_reducible refine Det_wd ?_) | (with_reducible refine Det_sr (fun _ => ?_)) | (with_reducible refine Det_og ?_) | (with_reducible refine Det_ite ?_ ?_) | (with_reducible refine Det_oi (fun _ => ?_)) | (with_reducible refine Det_ot ?_ (fun _ => ?_)) | (with_reducible refine Det_cl ?_ (fun _ => ?_)))

theorem det_number : Det true (f_number) := by
  unfold f_number
  repeat (first | (with_reducible exact Det_rt _) | (with_reducible intro _) | (with_reducible exact det_scan) | (with_reducible exact det_wrong _ _ _) | (with_reducible refine Det_clL ?_) | (with_reducible refine Det_clr ?_) | (with_reducible refine Det_li (fun _ => ?_)) | (with_reducible refine Det_rf rfl (fun _ => ?_)) | (with_reducible refine Det_rd rfl (fun _ => ?_)) | (with_reducible refine Det_wf (by decide) ?_) | (with_reducible refine Det_wd ?_) | (with_reducible refine Det_sr (fun _ => ?_)) | (with_reducible refine Det_og ?_) | (with_reducible refine Det_ite ?_ ?_) | (with_reducible refine Det_oi (fun _ => ?_)) | (with_reducible refine Det_ot ?_ (fun _ => ?_)) | (with_reducible refine Det_cl ?_ (fun _ => ?_)))

theorem det_isQuoted : Det true (f_isQuoted) := by
  unfold f_isQuoted
  repeat (first | (with_reducible exact Det_rt _) | (with_reducible intro _) | (with_reducible exact det_is _) | (with_reducible refine Det_clL ?_) | (with_reducible refine Det_clr ?_) | (with_reducible refine Det_li (fun _ => ?_)) | (with_reducible refine Det_rf rfl (fun _ => ?_)) | (with_reducible refine Det_rd rfl (fun _ => ?_)) | (with_reducible refine Det_wf (by decide) ?_) | (with_reducible refine Det_wd ?_) | (with_reducible refine Det_sr (fun _ => ?_)) | (with_reducible refine Det_og ?_) | (with_reducible refine Det_ite ?_ ?_) | (with_reducible refine Det_oi (fun _ => ?_)) | (with_reducible refine Det_ot ?_ (fun _ => ?_)) | (with_reducible refine Det_cl ?_ (fun _ => ?_)))

theorem det_lp_findSign_36 : ∀ (n : Nat) (v1 v2 v3 : Int32) (K0 : Int32 → Int32 → Int32 → PG (Int32)), (∀ (v1 v2 v3 : Int32), Det true (K0 v1 v2 v3)) → Det true (lp_findSign_36 n v1 v2 v3 K0) := by
  intro n
  induction n with
  | zero => intro v1 v2 v3 K0 hK0; exact Det_no
  | succ n ih =>
    intro v1 v2 v3 K0 hK0
    unfold lp_findSign_36
    repeat (first | (with_reducible exact Det_rt _) | (with_reducible intro _) | (with_reducible exact hK0 _ _ _) | (with_reducible exact ih _ _ _ _ hK0) | (with_reducible refine Det_clL ?_) | (with_reducible refine Det_clr ?_) | (with_reducible refine Det_li (fun _ => ?_)) | (with_reducible refine Det_rf rfl (fun _ => ?_)) | (with_reducible refine Det_rd rfl (fun _ => ?_)) | (with_reducible refine Det_wf (by decide) ?_) | (with_reducible refine Det_wd ?_) | (with_reducible refine Det_sr (fun _ => ?_)) | (with_reducible refine Det_og ?_) | (with_reducible refine Det_ite ?_ ?_) | (with_reducible refine Det_oi (fun _ => ?_)) | (with_reducible refine Det_ot ?_ (fun _ => ?_)) | (with_reducible refine Det_cl ?_ (fun _ => ?_)))

theorem det_lp_findSign_2 : ∀ (n : Nat) (v1 : Int32) (K0 : Int32 → PG (Int32)), (∀ (v1 : Int32), Det true (K0 v1)) → Det true (lp_findSign_2 n v1 K0) := by
  intro n
  induction n with
  | zero => intro v1 K0 hK0; exact Det_no
  | succ n ih =>
    intro v1 K0 hK0
    unfold lp_findSign_2
    repeat (first | (with_reducible exact Det_rt _) | (with_reducible intro _) | (with_reducible exact hK0 _) | (with_reducible exact ih _ _ hK0) | (with_reducible refine det_lp_findSign_36 _ _ _ _ _ ?_) | (with_reducible refine Det_clL ?_) | (with_reducible refine Det_clr ?_) | (with_reducible refine Det_li (fun _ => ?_)) | (with_reducible refine Det_rf rfl (fun _ => ?_)) | (with_reducible refine Det_rd rfl (fun _ => ?_)) | (with_reducible refine Det_wf (by decide) ?_) | (with_reducible refine Det_wd ?_) | (with_reducible refine Det_sr (fun _ => ?_)) | (with_reducible refine Det_og ?_) | (with_reducible refine Det_ite ?_ ?_) | (with_reducible refine Det_oi (fun _ => ?_)) | (with_reducible refine Det_ot ?_ (fun _ => ?_)) | (with_reducible refine Det_cl ?_ (fun _ => ?_)))

theorem det_findSign : Det true (f_findSign) := by
  unfold f_findSign
  repeat (first | (with_reducible exact Det_rt _) | (with_reducible intro _) | (with_reducible refine det_lp_findSign_36 _ _ _ _ _ ?_) | (with_reducible refine det_lp_findSign_2 _ _ _ ?_) | (with_reducible refine Det_clL ?_) | (with_reducible refine Det_clr ?_) | (with_reducible refine Det_li (fun _ => ?_)) | (with_reducible refine Det_rf rfl (fun _ => ?_)) | (with_reducible refine Det_rd rfl (fun _ => ?_)) | (with_reducible refine Det_wf (by decide) ?_) | (with_reducible refine Det_wd ?_) | (with_reducible refine Det_sr (fun _ => ?_)) | (with_reducible refine Det_og ?_) | (with_reducible refine Det_ite ?_ ?_) | (with_reducible refine Det_oi (fun _ => ?_)) | (with_reducible refine Det_ot ?_ (fun _ => ?_)) | (with_reducible refine Det_cl ?_ (fun _ => ?_)))

theorem det_name : Det true (f_name) := by
  unfold f_name
  repeat (first | (with_reducible exact Det_rt _) | (with_reducible intro _) | (with_reducible exact det_isQuoted) | (with_reducible exact det_wrong _ _ _) | (with_reducible refine Det_clL ?_) | (with_reducible refine Det_clr ?_) | (with_reducible refine Det_li (fun _ => ?_)) | (with_reducible refine Det_rf rfl (fun _ => ?_)) | (with_reducible refine Det_rd rfl (fun _ => ?_)) | (with_reducible refine Det_wf (by decide) ?_) | (with_reducible refine Det_wd ?_) | (with_reducible refine Det_sr (fun _ => ?_)) | (with_reducible refine Det_og ?_) | (with_reducible refine Det_ite ?_ ?_) | (with_reducible refine Det_oi (fun _ => ?_)) | (with_reducible refine Det_ot ?_ (fun _ => ?_)) | (with_reducible refine Det_cl ?_ (fun _ => ?_)))

theorem det_counts (c : Bool) : Det c (f_counts) := by
  unfold f_counts
  repeat (first | (with_reducible exact Det_rt _) | (with_reducible intro _) | (with_reducible exact det_wrong _ _ _) | (with_reducible refine Det_clL ?_) | (with_reducible refine Det_clr ?_) | (with_reducible refine Det_li (fun _ => ?_)) | (with_reducible refine Det_rf rfl (fun _ => ?_)) | (with_reducible refine Det_rd rfl (fun _ => ?_)) | (with_reducible refine Det_wf (by decide) ?_) | (with_reducible refine Det_wd ?_) | (with_reducible refine Det_sr (fun _ => ?_)) | (with_reducible refine Det_og ?_) | (with_reducible refine Det_ite ?_ ?_) | (with_reducible refine Det_oi (fun _ => ?_)) | (with_reducible refine Det_ot ?_ (fun _ => ?_)) | (with_reducible refine Det_cl ?_ (fun _ => ?_)))

theorem det_hold (c : Bool) : Det c (f_hold) := by
  unfold f_hold
  repeat (first | (with_reducible exact Det_rt _) | (with_reducible intro _) | (with_reducible exact det_counts _) | (with_reducible refine Det_clL ?_) | (with_reducible refine Det_clr ?_) | (with_reducible refine Det_li (fun _ => ?_)) | (with_reducible refine Det_rf rfl (fun _ => ?_)) | (with_reducible refine Det_rd rfl (fun _ => ?_)) | (with_reducible refine Det_wf (by decide) ?_) | (with_reducible refine Det_wd ?_) | (with_reducible refine Det_sr (fun _ => ?_)) | (with_reducible refine Det_og ?_) | (with_reducible refine Det_ite ?_ ?_) | (with_reducible refine Det_oi (fun _ => ?_)) | (with_reducible refine Det_ot ?_ (fun _ => ?_)) | (with_reducible refine Det_cl ?_ (fun _ => ?_)))

theorem det_opens : Det true (f_opens) := by
  unfold f_opens
  repeat (first | (with_reducible exact Det_rt _) | (with_reducible intro _) | (with_reducible exact det_scan) | (with_reducible exact det_wrong _ _ _) | (with_reducible refine Det_clL ?_) | (with_reducible refine Det_clr ?_) | (with_reducible refine Det_li (fun _ => ?_)) | (with_reducible refine Det_rf rfl (fun _ => ?_)) | (with_reducible refine Det_rd rfl (fun _ => ?_)) | (with_reducible refine Det_wf (by decide) ?_) | (with_reducible refine Det_wd ?_) | (with_reducible refine Det_sr (fun _ => ?_)) | (with_reducible refine Det_og ?_) | (with_reducible refine Det_ite ?_ ?_) | (with_reducible refine Det_oi (fun _ => ?_)) | (with_reducible refine Det_ot ?_ (fun _ => ?_)) | (with_reducible refine Det_cl ?_ (fun _ => ?_)))

theorem det_readTerm : Det true (f_readTerm) := by
  unfold f_readTerm
  repeat (first | (with_reducible exact Det_rt _) | (with_reducible intro _) | (with_reducible exact det_counts _) | (with_reducible exact det_findSign) | (with_reducible exact det_is _) | (with_reducible exact det_name) | (with_reducible exact det_put _ _ _) | (with_reducible exact det_scan) | (with_reducible exact det_wrong _ _ _) | (with_reducible refine Det_clL ?_) | (with_reducible refine Det_clr ?_) | (with_reducible refine Det_li (fun _ => ?_)) | (with_reducible refine Det_rf rfl (fun _ => ?_)) | (with_reducible refine Det_rd rfl (fun _ => ?_)) | (with_reducible refine Det_wf (by decide) ?_) | (with_reducible refine Det_wd ?_) | (with_reducible refine Det_sr (fun _ => ?_)) | (with_reducible refine Det_og ?_) | (with_reducible refine Det_ite ?_ ?_) | (with_reducible refine Det_oi (fun _ => ?_)) | (with_reducible refine Det_ot ?_ (fun _ => ?_)) | (with_reducible refine Det_cl ?_ (fun _ => ?_)))

theorem det_lp_readSum_4 : ∀ (n : Nat) (K0 : PG (Option Int32)), (∀ (_ : Unit), Det true (K0 )) → Det true (lp_readSum_4 n  K0) := by
  intro n
  induction n with
  | zero => intro  K0 hK0; exact Det_no
  | succ n ih =>
    intro  K0 hK0
    unfold lp_readSum_4
    repeat (first | (with_reducible exact Det_rt _) | (with_reducible intro _) | (with_reducible exact hK0 ()) | (with_reducible exact ih _ hK0) | (with_reducible exact det_hold _) | (with_reducible exact det_is _) | (with_reducible exact det_readTerm) | (with_reducible exact det_release _ _) | (with_reducible exact det_scan) | (with_reducible refine Det_clL ?_) | (with_reducible refine Det_clr ?_) | (with_reducible refine Det_li (fun _ => ?_)) | (with_reducible refine Det_rf rfl (fun _ => ?_)) | (with_reducible refine Det_rd rfl (fun _ => ?_)) | (with_reducible refine Det_wf (by decide) ?_) | (with_reducible refine Det_wd ?_) | (with_reducible refine Det_sr (fun _ => ?_)) | (with_reducible refine Det_og ?_) | (with_reducible refine Det_ite ?_ ?_) | (with_reducible refine Det_oi (fun _ => ?_)) | (with_reducible refine Det_ot ?_ (fun _ => ?_)) | (with_reducible refine Det_cl ?_ (fun _ => ?_)))

theorem det_readSum : Det true (f_readSum) := by
  unfold f_readSum
  repeat (first | (with_reducible exact Det_rt _) | (with_reducible intro _) | (with_reducible refine det_lp_readSum_4 _ _ ?_) | (with_reducible exact det_hold _) | (with_reducible exact det_is _) | (with_reducible exact det_readTerm) | (with_reducible exact det_release _ _) | (with_reducible exact det_scan) | (with_reducible refine Det_clL ?_) | (with_reducible refine Det_clr ?_) | (with_reducible refine Det_li (fun _ => ?_)) | (with_reducible refine Det_rf rfl (fun _ => ?_)) | (with_reducible refine Det_rd rfl (fun _ => ?_)) | (with_reducible refine Det_wf (by decide) ?_) | (with_reducible refine Det_wd ?_) | (with_reducible refine Det_sr (fun _ => ?_)) | (with_reducible refine Det_og ?_) | (with_reducible refine Det_ite ?_ ?_) | (with_reducible refine Det_oi (fun _ => ?_)) | (with_reducible refine Det_ot ?_ (fun _ => ?_)) | (with_reducible refine Det_cl ?_ (fun _ => ?_)))

theorem det_lp_readOr_4 (F : Nat → Int32 → Int32 → Int32 → Int32 → PG (Option Int32)) (hFd : ∀ w a b d e, Det true (F w a b d e)) : ∀ (n : Nat) (K0 : PG (Option Int32)), (∀ (_ : Unit), Det true (K0 )) → Det true (lp_readOr_4 F n  K0) := by
  intro n
  induction n with
  | zero => intro  K0 hK0; exact Det_no
  | succ n ih =>
    intro  K0 hK0
    unfold lp_readOr_4
    repeat (first | (with_reducible exact Det_rt _) | (with_reducible intro _) | (with_reducible exact hK0 ()) | (with_reducible exact ih _ hK0) | (with_reducible exact det_hold _) | (with_reducible exact det_is _) | (with_reducible exact det_release _ _) | (with_reducible exact det_scan) | (with_reducible exact hFd _ _ _ _ _) | (with_reducible refine Det_clL ?_) | (with_reducible refine Det_clr ?_) | (with_reducible refine Det_li (fun _ => ?_)) | (with_reducible refine Det_rf rfl (fun _ => ?_)) | (with_reducible refine Det_rd rfl (fun _ => ?_)) | (with_reducible refine Det_wf (by decide) ?_) | (with_reducible refine Det_wd ?_) | (with_reducible refine Det_sr (fun _ => ?_)) | (with_reducible refine Det_og ?_) | (with_reducible refine Det_ite ?_ ?_) | (with_reducible refine Det_oi (fun _ => ?_)) | (with_reducible refine Det_ot ?_ (fun _ => ?_)) | (with_reducible refine Det_cl ?_ (fun _ => ?_)))

theorem det_bd_readOr (F : Nat → Int32 → Int32 → Int32 → Int32 → PG (Option Int32)) (hFd : ∀ w a b d e, Det true (F w a b d e)) : Det true (bd_readOr F) := by
  unfold bd_readOr
  repeat (first | (with_reducible exact Det_rt _) | (with_reducible intro _) | (with_reducible refine det_lp_readOr_4 F hFd _ _ ?_) | (with_reducible exact det_hold _) | (with_reducible exact det_is _) | (with_reducible exact det_release _ _) | (with_reducible exact det_scan) | (with_reducible exact hFd _ _ _ _ _) | (with_reducible refine Det_clL ?_) | (with_reducible refine Det_clr ?_) | (with_reducible refine Det_li (fun _ => ?_)) | (with_reducible refine Det_rf rfl (fun _ => ?_)) | (with_reducible refine Det_rd rfl (fun _ => ?_)) | (with_reducible refine Det_wf (by decide) ?_) | (with_reducible refine Det_wd ?_) | (with_reducible refine Det_sr (fun _ => ?_)) | (with_reducible refine Det_og ?_) | (with_reducible refine Det_ite ?_ ?_) | (with_reducible refine Det_oi (fun _ => ?_)) | (with_reducible refine Det_ot ?_ (fun _ => ?_)) | (with_reducible refine Det_cl ?_ (fun _ => ?_)))

theorem det_lp_readAnd_4 (F : Nat → Int32 → Int32 → Int32 → Int32 → PG (Option Int32)) (hFd : ∀ w a b d e, Det true (F w a b d e)) : ∀ (n : Nat) (K0 : PG (Option Int32)), (∀ (_ : Unit), Det true (K0 )) → Det true (lp_readAnd_4 F n  K0) := by
  intro n
  induction n with
  | zero => intro  K0 hK0; exact Det_no
  | succ n ih =>
    intro  K0 hK0
    unfold lp_readAnd_4
    repeat (first | (with_reducible exact Det_rt _) | (with_reducible intro _) | (with_reducible exact hK0 ()) | (with_reducible exact ih _ hK0) | (with_reducible exact det_hold _) | (with_reducible exact det_is _) | (with_reducible exact det_release _ _) | (with_reducible exact det_scan) | (with_reducible exact hFd _ _ _ _ _) | (with_reducible refine Det_clL ?_) | (with_reducible refine Det_clr ?_) | (with_reducible refine Det_li (fun _ => ?_)) | (with_reducible refine Det_rf rfl (fun _ => ?_)) | (with_reducible refine Det_rd rfl (fun _ => ?_)) | (with_reducible refine Det_wf (by decide) ?_) | (with_reducible refine Det_wd ?_) | (with_reducible refine Det_sr (fun _ => ?_)) | (with_reducible refine Det_og ?_) | (with_reducible refine Det_ite ?_ ?_) | (with_reducible refine Det_oi (fun _ => ?_)) | (with_reducible refine Det_ot ?_ (fun _ => ?_)) | (with_reducible refine Det_cl ?_ (fun _ => ?_)))

theorem det_bd_readAnd (F : Nat → Int32 → Int32 → Int32 → Int32 → PG (Option Int32)) (hFd : ∀ w a b d e, Det true (F w a b d e)) : Det true (bd_readAnd F) := by
  unfold bd_readAnd
  repeat (first | (with_reducible exact Det_rt _) | (with_reducible intro _) | (with_reducible refine det_lp_readAnd_4 F hFd _ _ ?_) | (with_reducible exact det_hold _) | (with_reducible exact det_is _) | (with_reducible exact det_release _ _) | (with_reducible exact det_scan) | (with_reducible exact hFd _ _ _ _ _) | (with_reducible refine Det_clL ?_) | (with_reducible refine Det_clr ?_) | (with_reducible refine Det_li (fun _ => ?_)) | (with_reducible refine Det_rf rfl (fun _ => ?_)) | (with_reducible refine Det_rd rfl (fun _ => ?_)) | (with_reducible refine Det_wf (by decide) ?_) | (with_reducible refine Det_wd ?_) | (with_reducible refine Det_sr (fun _ => ?_)) | (with_reducible refine Det_og ?_) | (with_reducible refine Det_ite ?_ ?_) | (with_reducible refine Det_oi (fun _ => ?_)) | (with_reducible refine Det_ot ?_ (fun _ => ?_)) | (with_reducible refine Det_cl ?_ (fun _ => ?_)))

theorem det_bd_readNot (F : Nat → Int32 → Int32 → Int32 → Int32 → PG (Option Int32)) (hFd : ∀ w a b d e, Det true (F w a b d e)) : Det true (bd_readNot F) := by
  unfold bd_readNot
  repeat (first | (with_reducible exact Det_rt _) | (with_reducible intro _) | (with_reducible exact det_counts _) | (with_reducible exact det_hold _) | (with_reducible exact det_is _) | (with_reducible exact det_need _) | (with_reducible exact det_opens) | (with_reducible exact det_put _ _ _) | (with_reducible exact det_readSum) | (with_reducible exact det_release _ _) | (with_reducible exact det_scan) | (with_reducible exact det_wrong _ _ _) | (with_reducible exact hFd _ _ _ _ _) | (with_reducible refine Det_clL ?_) | (with_reducible refine Det_clr ?_) | (with_reducible refine Det_li (fun _ => ?_)) | (with_reducible refine Det_rf rfl (fun _ => ?_)) | (with_reducible refine Det_rd rfl (fun _ => ?_)) | (with_reducible refine Det_wf (by decide) ?_) | (with_reducible refine Det_wd ?_) | (with_reducible refine Det_sr (fun _ => ?_)) | (with_reducible refine Det_og ?_) | (with_reducible refine Det_ite ?_ ?_) | (with_reducible refine Det_oi (fun _ => ?_)) | (with_reducible refine Det_ot ?_ (fun _ => ?_)) | (with_reducible refine Det_cl ?_ (fun _ => ?_)))

theorem det_fP : ∀ (d w : Nat) (a0 a1 a2 a3 : Int32), Det true (fP d w a0 a1 a2 a3) := by
  intro d
  induction d with
  | zero => intro w a0 a1 a2 a3; exact Det_no
  | succ d ih =>
    intro w a0 a1 a2 a3
    unfold fP
    repeat (first | (with_reducible refine Det_ite ?_ ?_) | (with_reducible exact det_bd_readOr _ ih) | (with_reducible exact det_bd_readAnd _ ih) | (with_reducible exact det_bd_readNot _ ih))

theorem det_lp_readLaws_148 : ∀ (n : Nat) (v1 : Int32) (K0 : Int32 → PG (Option Int32)), (∀ (v1 : Int32), Det true (K0 v1)) → Det true (lp_readLaws_148 n v1 K0) := by
  intro n
  induction n with
  | zero => intro v1 K0 hK0; exact Det_no
  | succ n ih =>
    intro v1 K0 hK0
    unfold lp_readLaws_148
    repeat (first | (with_reducible exact Det_rt _) | (with_reducible intro _) | (with_reducible exact hK0 _) | (with_reducible exact ih _ _ hK0) | (with_reducible exact det_fP _ _ _ _ _ _) | (with_reducible exact det_findSign) | (with_reducible exact det_is _) | (with_reducible exact det_name) | (with_reducible exact det_need _) | (with_reducible exact det_number) | (with_reducible exact det_scan) | (with_reducible exact det_wrong _ _ _) | (with_reducible refine Det_clL ?_) | (with_reducible refine Det_clr ?_) | (with_reducible refine Det_li (fun _ => ?_)) | (with_reducible refine Det_rf rfl (fun _ => ?_)) | (with_reducible refine Det_rd rfl (fun _ => ?_)) | (with_reducible refine Det_wf (by decide) ?_) | (with_reducible refine Det_wd ?_) | (with_reducible refine Det_sr (fun _ => ?_)) | (with_reducible refine Det_og ?_) | (with_reducible refine Det_ite ?_ ?_) | (with_reducible refine Det_oi (fun _ => ?_)) | (with_reducible refine Det_ot ?_ (fun _ => ?_)) | (with_reducible refine Det_cl ?_ (fun _ => ?_)))

theorem det_lp_readLaws_73 : ∀ (n : Nat) (K0 : PG (Option Int32)), (∀ (_ : Unit), Det true (K0 )) → Det true (lp_readLaws_73 n  K0) := by
  intro n
  induction n with
  | zero => intro  K0 hK0; exact Det_no
  | succ n ih =>
    intro  K0 hK0
    unfold lp_readLaws_73
    repeat (first | (with_reducible exact Det_rt _) | (with_reducible intro _) | (with_reducible exact hK0 ()) | (with_reducible exact ih _ hK0) | (with_reducible refine det_lp_readLaws_148 _ _ _ ?_) | (with_reducible exact det_fP _ _ _ _ _ _) | (with_reducible exact det_findSign) | (with_reducible exact det_is _) | (with_reducible exact det_name) | (with_reducible exact det_need _) | (with_reducible exact det_number) | (with_reducible exact det_scan) | (with_reducible exact det_wrong _ _ _) | (with_reducible refine Det_clL ?_) | (with_reducible refine Det_clr ?_) | (with_reducible refine Det_li (fun _ => ?_)) | (with_reducible refine Det_rf rfl (fun _ => ?_)) | (with_reducible refine Det_rd rfl (fun _ => ?_)) | (with_reducible refine Det_wf (by decide) ?_) | (with_reducible refine Det_wd ?_) | (with_reducible refine Det_sr (fun _ => ?_)) | (with_reducible refine Det_og ?_) | (with_reducible refine Det_ite ?_ ?_) | (with_reducible refine Det_oi (fun _ => ?_)) | (with_reducible refine Det_ot ?_ (fun _ => ?_)) | (with_reducible refine Det_cl ?_ (fun _ => ?_)))

theorem det_lp_readLaws_223 : ∀ (n : Nat) (K0 : PG (Option Int32)), (∀ (_ : Unit), Det true (K0 )) → Det true (lp_readLaws_223 n  K0) := by
  intro n
  induction n with
  | zero => intro  K0 hK0; exact Det_no
  | succ n ih =>
    intro  K0 hK0
    unfold lp_readLaws_223
    repeat (first | (with_reducible exact Det_rt _) | (with_reducible intro _) | (with_reducible exact hK0 ()) | (with_reducible exact ih _ hK0) | (with_reducible refine det_lp_readLaws_148 _ _ _ ?_) | (with_reducible refine det_lp_readLaws_73 _ _ ?_) | (with_reducible exact det_fP _ _ _ _ _ _) | (with_reducible exact det_findSign) | (with_reducible exact det_is _) | (with_reducible exact det_name) | (with_reducible exact det_need _) | (with_reducible exact det_number) | (with_reducible exact det_scan) | (with_reducible exact det_wrong _ _ _) | (with_reducible refine Det_clL ?_) | (with_reducible refine Det_clr ?_) | (with_reducible refine Det_li (fun _ => ?_)) | (with_reducible refine Det_rf rfl (fun _ => ?_)) | (with_reducible refine Det_rd rfl (fun _ => ?_)) | (with_reducible refine Det_wf (by decide) ?_) | (with_reducible refine Det_wd ?_) | (with_reducible refine Det_sr (fun _ => ?_)) | (with_reducible refine Det_og ?_) | (with_reducible refine Det_ite ?_ ?_) | (with_reducible refine Det_oi (fun _ => ?_)) | (with_reducible refine Det_ot ?_ (fun _ => ?_)) | (with_reducible refine Det_cl ?_ (fun _ => ?_)))

theorem det_readLaws : Det true (f_readLaws) := by
  unfold f_readLaws
  repeat (first | (with_reducible exact Det_rt _) | (with_reducible intro _) | (with_reducible refine det_lp_readLaws_148 _ _ _ ?_) | (with_reducible refine det_lp_readLaws_73 _ _ ?_) | (with_reducible refine det_lp_readLaws_223 _ _ ?_) | (with_reducible exact det_fP _ _ _ _ _ _) | (with_reducible exact det_findSign) | (with_reducible exact det_is _) | (with_reducible exact det_name) | (with_reducible exact det_need _) | (with_reducible exact det_number) | (with_reducible exact det_scan) | (with_reducible exact det_wrong _ _ _) | (with_reducible refine Det_clL ?_) | (with_reducible refine Det_clr ?_) | (with_reducible refine Det_li (fun _ => ?_)) | (with_reducible refine Det_rf rfl (fun _ => ?_)) | (with_reducible refine Det_rd rfl (fun _ => ?_)) | (with_reducible refine Det_wf (by decide) ?_) | (with_reducible refine Det_wd ?_) | (with_reducible refine Det_sr (fun _ => ?_)) | (with_reducible refine Det_og ?_) | (with_reducible refine Det_ite ?_ ?_) | (with_reducible refine Det_oi (fun _ => ?_)) | (with_reducible refine Det_ot ?_ (fun _ => ?_)) | (with_reducible refine Det_cl ?_ (fun _ => ?_)))

theorem det_lp_takeLaws_2 (c : Bool) : ∀ (n : Nat) (v1 v2 v3 : Int32) (K0 : Int32 → Int32 → Int32 → PG (Int32)), (∀ (v1 v2 v3 : Int32), Det c (K0 v1 v2 v3)) → Det c (lp_takeLaws_2 n v1 v2 v3 K0) := by
  intro n
  induction n with
  | zero => intro v1 v2 v3 K0 hK0; exact Det_no
  | succ n ih =>
    intro v1 v2 v3 K0 hK0
    unfold lp_takeLaws_2
    repeat (first | (with_reducible exact Det_rt _) | (with_reducible intro _) | (with_reducible exact hK0 _ _ _) | (with_reducible exact ih _ _ _ _ hK0) | (with_reducible exact det_readLaws) | (with_reducible refine Det_clL ?_) | (with_reducible refine Det_clr ?_) | (with_reducible refine Det_li (fun _ => ?_)) | (with_reducible refine Det_rf rfl (fun _ => ?_)) | (with_reducible refine Det_rd rfl (fun _ => ?_)) | (with_reducible refine Det_wf (by decide) ?_) | (with_reducible refine Det_wd ?_) | (with_reducible refine Det_sr (fun _ => ?_)) | (with_reducible refine Det_og ?_) | (with_reducible refine Det_ite ?_ ?_) | (with_reducible refine Det_oi (fun _ => ?_)) | (with_reducible refine Det_ot ?_ (fun _ => ?_)) | (with_reducible refine Det_cl ?_ (fun _ => ?_)))

theorem det_takeLaws (a0 a1 : Int32) : Det false (f_takeLaws a0 a1) := by
  unfold f_takeLaws
  refine det_lp_takeLaws_2 false _ _ _ _ _ (fun _ _ _ => ?_)
  refine Det_src ?_
  refine Det_wf (by decide) ?_
  refine Det_u2 (fun x y x2 y2 => ?_)
  refine Det2_cl det_readLaws (fun o => ?_)
  refine D2_ot ?_ (fun _ => ?_)
  · refine D2_wt (by decide) (D2_wu (by decide) (by decide) (D2_wu (by decide) (by decide) (D2_of ?_)))
    exact Det_rf rfl (fun _ => Det_rt _)
  · refine D2_wu (by decide) (by decide) (D2_wu (by decide) (by decide) (D2_of ?_))
    exact Det_rf rfl (fun _ => Det_rt _)

theorem det_does (a0 : Int32) (a1 : Int32) (a2 : Int32) (a3 : Int32) : Det false (f_does a0 a1 a2 a3) := by
  unfold f_does
  repeat (first | (with_reducible exact Det_rt _) | (with_reducible intro _) | (with_reducible exact det_asked _ _ _) | (with_reducible exact det_begins _ _ _ _) | (with_reducible exact det_comes _ _ _) | (with_reducible exact det_draws _ _) | (with_reducible exact det_ends _ _ _ _ _) | (with_reducible exact det_in _ _ _ _) | (with_reducible exact det_passes _ _ _) | (with_reducible exact det_struck _ _ _) | (with_reducible exact det_takeLaws _ _) | (with_reducible refine Det_clL ?_) | (with_reducible refine Det_clr ?_) | (with_reducible refine Det_li (fun _ => ?_)) | (with_reducible refine Det_rf rfl (fun _ => ?_)) | (with_reducible refine Det_rd rfl (fun _ => ?_)) | (with_reducible refine Det_wf (by decide) ?_) | (with_reducible refine Det_wd ?_) | (with_reducible refine Det_sr (fun _ => ?_)) | (with_reducible refine Det_og ?_) | (with_reducible refine Det_ite ?_ ?_) | (with_reducible refine Det_oi (fun _ => ?_)) | (with_reducible refine Det_ot ?_ (fun _ => ?_)) | (with_reducible refine Det_cl ?_ (fun _ => ?_)))
end
