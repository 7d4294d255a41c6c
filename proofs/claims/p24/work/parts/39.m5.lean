def lp_readLaws_148 : Nat → Int32 → (Int32 → PG (Option Int32)) → PG (Option Int32)
  | 0, _, _ => fun _ => none
  | n148 + 1, v1, K148_192 => prf 29 (fun x_69 => prd 33 8 x_69 (fun x_71 => (if x_71 ≤ v1 then K148_192 v1 else prf 29 (fun x_75 => prf 44 (fun x_77 => psr (x_77 + v1) (fun x_79 => pwd 32 80 ((10 * x_75) + v1) (vp_nar .byte x_79) (pli (v1 + 1) (fun x_85 => lp_readLaws_148 n148 x_85 K148_192))))))))
def lp_readLaws_73 : Nat → (PG (Option Int32)) → PG (Option Int32)
  | 0, _ => fun _ => none
  | n73 + 1, K73_216 => pcl (f_is 3) (fun r_42 => (if r_42 = 0 then K73_216  else prf 29 (fun x_46 => (if x_46 = 8 then prf 44 (fun x_103 => pcl (f_wrong 3 x_103) (fun r_105 => prt none)) else pcl (f_scan) (fun r_49 => pcl (f_name) (fun r_52 => pot r_52 (prt none) (fun r_55 => pcl (f_findSign) (fun r_56 => (if r_56 = (-1) then prf 29 (fun x_60 => prf 45 (fun x_62 => prf 44 (fun x_64 => pwd 33 8 x_60 (x_62 - x_64) (lp_readLaws_148 fuel 0 (fun v1 => prf 29 (fun x_87 => pwf 29 (x_87 + 1) (pcl (f_scan) (fun r_91 => pcl (f_need 14) (fun r_94 => pot r_94 (prt none) (fun r_97 => lp_readLaws_73 n73  K73_216)))))))))) else prf 44 (fun x_98 => pcl (f_wrong 2 x_98) (fun r_100 => prt none)))))))))))
def lp_readLaws_223 : Nat → (PG (Option Int32)) → PG (Option Int32)
  | 0, _ => fun _ => none
  | n223 + 1, K223_336 => pcl (f_is 4) (fun r_111 => (if r_111 = 0 then K223_336  else prf 30 (fun x_115 => (if x_115 = 20 then prf 44 (fun x_188 => pcl (f_wrong 3 x_188) (fun r_190 => prt none)) else pcl (f_scan) (fun r_118 => prf 30 (fun x_121 => pwd 35 20 x_121 1 (prf 46 (fun x_126 => (if x_126 = 2 then prf 30 (fun x_154 => pcl (f_number) (fun r_156 => pot r_156 (prt none) (fun r_159 => pwd 35 20 x_154 r_159 (pcl (f_need 5) (fun r_163 => pot r_163 (prt none) (fun r_166 => pwf 48 0 (pcl (fP 32 0 0 0 0 0) (fun r_169 => pot r_169 (prt none) (fun r_172 => pcl (f_need 14) (fun r_173 => pot r_173 (prt none) (fun r_176 => prf 30 (fun x_177 => pwf 30 (x_177 + 1) (prf 30 (fun x_181 => prf 31 (fun x_183 => pwd 34 21 x_181 x_183 (lp_readLaws_223 n223  K223_336)))))))))))))))) else pcl (f_need 5) (fun r_129 => pot r_129 (prt none) (fun r_132 => pwf 48 0 (pcl (fP 32 0 0 0 0 0) (fun r_135 => pot r_135 (prt none) (fun r_138 => pcl (f_need 14) (fun r_139 => pot r_139 (prt none) (fun r_142 => prf 30 (fun x_143 => pwf 30 (x_143 + 1) (prf 30 (fun x_147 => prf 31 (fun x_149 => pwd 34 21 x_147 x_149 (lp_readLaws_223 n223  K223_336)))))))))))))))))))))
def f_readLaws  : PG (Option Int32) := pclL (pwf 29 0 (pwf 30 0 (pwf 31 0 (pwf 51 0 (pwf 45 0 (pcl (f_scan) (fun r_11 => pcl (f_need 1) (fun r_14 => pot r_14 (prt none) (fun r_17 => pcl (f_number) (fun r_18 => pot r_18 (prt none) (fun r_21 => pwf 27 r_21 (pcl (f_need 14) (fun r_24 => pot r_24 (prt none) (fun r_27 => pcl (f_need 2) (fun r_28 => pot r_28 (prt none) (fun r_31 => pcl (f_number) (fun r_32 => pot r_32 (prt none) (fun r_35 => pwf 28 r_35 (pcl (f_need 14) (fun r_38 => pot r_38 (prt none) (fun r_41 => lp_readLaws_73 fuel  (pwd 34 21 0 0 (lp_readLaws_223 fuel  (prf 46 (fun x_193 => (if x_193 = 0 then prt (some 0) else prf 44 (fun x_196 => pcl (f_wrong 1 x_196) (fun r_198 => prt none))))))))))))))))))))))))))))
set_option maxHeartbeats 4000000 in
set_option maxRecDepth 100000 in
theorem m_readLaws (l : Launch) (G : gG) (Z : gM) (Q : Nat → Nat) (u u1 : GS) (r : Int32)  (sz : Nat) (hF : f_readLaws u = some (some r, u1)) : Met l yX13_readLaws (Cond.code yX13_readLaws cX13_readLaws 2 none :: wM) { frames := 405, cells := 0, slots := 0, locals := 4900 } (va_Pc [.ref (Q 72)] (mPM G Z Q u.1 sz)) (mQv G Q u1.1 sz) 0 0 (mA Q sz) := by
  refine Met.ofW (cc := cX13_readLaws) (maxL := 2) (ret := none) (by decide) rfl ?_
  intro p e s m args below meth c s₁ B hml hv
  obtain ⟨rfl, rfl, hP, hB, hD, hE⟩ := hv
  have hr := B.returns
  have hlocks := B.notSynchronized
  have hts := atoms_spec (ws := Cond.code yX13_readLaws cX13_readLaws 2 none :: wM) B.pre
  have hC : mX p c cX13_readLaws 2 s m _ G Z Q := ⟨B.exec, B.bytes, hml, findClass_of_methodNamed B.named, fun w h => hts w (List.mem_cons_of_mem _ h), hB, hE⟩
  have hx := hC.1
  have hb := hC.2.1
  have hH : mH G Q u.1 s s.heap [] := ⟨hP, hD, va_S.rf⟩
  have hl := lv_entry ([.ref (Q 72)]) (n := 2) (Nat.le_of_ble_eq_true rfl)
  rw [lg_entry_eq]
  generalize (lg_sl ([.ref (Q 72)]) ++ List.replicate (2 - (lg_sl ([.ref (Q 72)])).length) Slot.unset).toArray = ls at hl ⊢
  have hl : lv_has ls 2 [(0, .ref (Q 72))] := hl
  unfold f_readLaws at hF
  obtain ⟨u0, e0, hF⟩ := pclL_some hF
  rw [e0] at hH
  refine lv_aload_n hx hb dX13_readLaws_0 rfl (lv_at hl 0 rfl) ?_
  refine lv_iconst (v := 0) hx hb dX13_readLaws_1 (by decide) ?_
  obtain ⟨u_1, e_2, hF⟩ := pwf_some hF
  refine mp_29 hC hH e_2 dX13_readLaws_2 (fun H locs hH => ?_)
  refine lv_aload_n hx hb dX13_readLaws_5 rfl (lv_at hl 0 rfl) ?_
  refine lv_iconst (v := 0) hx hb dX13_readLaws_6 (by decide) ?_
  obtain ⟨u_3, e_4, hF⟩ := pwf_some hF
  refine mp_30 hC hH e_4 dX13_readLaws_7 (fun H locs hH => ?_)
  refine lv_aload_n hx hb dX13_readLaws_10 rfl (lv_at hl 0 rfl) ?_
  refine lv_iconst (v := 0) hx hb dX13_readLaws_11 (by decide) ?_
  obtain ⟨u_5, e_6, hF⟩ := pwf_some hF
  refine mp_31 hC hH e_6 dX13_readLaws_12 (fun H locs hH => ?_)
  refine lv_aload_n hx hb dX13_readLaws_15 rfl (lv_at hl 0 rfl) ?_
  refine lv_iconst (v := 0) hx hb dX13_readLaws_16 (by decide) ?_
  obtain ⟨u_7, e_8, hF⟩ := pwf_some hF
  refine mp_51 hC hH e_8 dX13_readLaws_17 (fun H locs hH => ?_)
  refine lv_aload_n hx hb dX13_readLaws_20 rfl (lv_at hl 0 rfl) ?_
  refine lv_iconst (v := 0) hx hb dX13_readLaws_21 (by decide) ?_
  obtain ⟨u_9, e_10, hF⟩ := pwf_some hF
  refine mp_45 hC hH e_10 dX13_readLaws_22 (fun H locs hH => ?_)
  refine lv_aload_n hx hb dX13_readLaws_25 rfl (lv_at hl 0 rfl) ?_
  obtain ⟨r_11, u_12, h_13, hF⟩ := pcl_some hF
  refine mcV_v (As := []) (rest := []) hC hH (m_scan l G Z Q u_9 u_12 r_11  _ h_13) kwX13_scan kVX13_scan ⟨Nat.le_of_ble_eq_true rfl, Nat.le_of_ble_eq_true rfl⟩ rfl hl.1 rfl (Nat.le_of_ble_eq_true rfl) dX13_readLaws_26 (fun H locs hH => ?_)
  refine lv_aload_n hx hb dX13_readLaws_29 rfl (lv_at hl 0 rfl) ?_
  refine th_ldcw (tx := sTx 1) hx hb hC.2.2.2.1 (hC.2.2.2.2.2.2.2.2.1 1 (by decide)) dX13_readLaws_30 ?_
  obtain ⟨r_14, u_15, h_16, hF⟩ := pcl_some hF
  cases r_14 with
  | none =>
    have hF := pot_none hF
    exact (prt_no hF).elim
  | some r_17 =>
    have hF := pot_some hF
    refine mcV_v (As := [.ref (Z.1 1)]) (rest := []) hC hH (m_need l G Z Q u_12 u_15 r_17 1 _ h_16 (by decide)) kwX13_need kVX13_need ⟨Nat.le_of_ble_eq_true rfl, Nat.le_of_ble_eq_true rfl⟩ rfl hl.1 rfl (Nat.le_of_ble_eq_true rfl) dX13_readLaws_33 (fun H locs hH => ?_)
    refine lv_aload_n hx hb dX13_readLaws_36 rfl (lv_at hl 0 rfl) ?_
    refine lv_aload_n hx hb dX13_readLaws_37 rfl (lv_at hl 0 rfl) ?_
    obtain ⟨r_18, u_19, h_20, hF⟩ := pcl_some hF
    cases r_18 with
    | none =>
      have hF := pot_none hF
      exact (prt_no hF).elim
    | some r_21 =>
      have hF := pot_some hF
      refine mcV_i (As := []) (rest := [.ref (Q 72)]) hC hH (m_number l G Z Q u_15 u_19 r_21  _ h_20) kwX13_number kVX13_number ⟨Nat.le_of_ble_eq_true rfl, Nat.le_of_ble_eq_true rfl⟩ rfl hl.1 rfl (Nat.le_of_ble_eq_true rfl) dX13_readLaws_38 (fun H locs hH => ?_)
      obtain ⟨u_22, e_23, hF⟩ := pwf_some hF
      refine mp_27 hC hH e_23 dX13_readLaws_41 (fun H locs hH => ?_)
      refine lv_aload_n hx hb dX13_readLaws_44 rfl (lv_at hl 0 rfl) ?_
      refine th_ldcw (tx := sTx 14) hx hb hC.2.2.2.1 (hC.2.2.2.2.2.2.2.2.1 14 (by decide)) dX13_readLaws_45 ?_
      obtain ⟨r_24, u_25, h_26, hF⟩ := pcl_some hF
      cases r_24 with
      | none =>
        have hF := pot_none hF
        exact (prt_no hF).elim
      | some r_27 =>
        have hF := pot_some hF
        refine mcV_v (As := [.ref (Z.1 14)]) (rest := []) hC hH (m_need l G Z Q u_22 u_25 r_27 14 _ h_26 (by decide)) kwX13_need kVX13_need ⟨Nat.le_of_ble_eq_true rfl, Nat.le_of_ble_eq_true rfl⟩ rfl hl.1 rfl (Nat.le_of_ble_eq_true rfl) dX13_readLaws_48 (fun H locs hH => ?_)
        refine lv_aload_n hx hb dX13_readLaws_51 rfl (lv_at hl 0 rfl) ?_
        refine th_ldcw (tx := sTx 2) hx hb hC.2.2.2.1 (hC.2.2.2.2.2.2.2.2.1 2 (by decide)) dX13_readLaws_52 ?_
        obtain ⟨r_28, u_29, h_30, hF⟩ := pcl_some hF
        cases r_28 with
        | none =>
          have hF := pot_none hF
          exact (prt_no hF).elim
        | some r_31 =>
          have hF := pot_some hF
          refine mcV_v (As := [.ref (Z.1 2)]) (rest := []) hC hH (m_need l G Z Q u_25 u_29 r_31 2 _ h_30 (by decide)) kwX13_need kVX13_need ⟨Nat.le_of_ble_eq_true rfl, Nat.le_of_ble_eq_true rfl⟩ rfl hl.1 rfl (Nat.le_of_ble_eq_true rfl) dX13_readLaws_55 (fun H locs hH => ?_)
          refine lv_aload_n hx hb dX13_readLaws_58 rfl (lv_at hl 0 rfl) ?_
          refine lv_aload_n hx hb dX13_readLaws_59 rfl (lv_at hl 0 rfl) ?_
          obtain ⟨r_32, u_33, h_34, hF⟩ := pcl_some hF
          cases r_32 with
          | none =>
            have hF := pot_none hF
            exact (prt_no hF).elim
          | some r_35 =>
            have hF := pot_some hF
            refine mcV_i (As := []) (rest := [.ref (Q 72)]) hC hH (m_number l G Z Q u_29 u_33 r_35  _ h_34) kwX13_number kVX13_number ⟨Nat.le_of_ble_eq_true rfl, Nat.le_of_ble_eq_true rfl⟩ rfl hl.1 rfl (Nat.le_of_ble_eq_true rfl) dX13_readLaws_60 (fun H locs hH => ?_)
            obtain ⟨u_36, e_37, hF⟩ := pwf_some hF
            refine mp_28 hC hH e_37 dX13_readLaws_63 (fun H locs hH => ?_)
            refine lv_aload_n hx hb dX13_readLaws_66 rfl (lv_at hl 0 rfl) ?_
            refine th_ldcw (tx := sTx 14) hx hb hC.2.2.2.1 (hC.2.2.2.2.2.2.2.2.1 14 (by decide)) dX13_readLaws_67 ?_
            obtain ⟨r_38, u_39, h_40, hF⟩ := pcl_some hF
            cases r_38 with
            | none =>
              have hF := pot_none hF
              exact (prt_no hF).elim
            | some r_41 =>
              have hF := pot_some hF
              refine mcV_v (As := [.ref (Z.1 14)]) (rest := []) hC hH (m_need l G Z Q u_36 u_39 r_41 14 _ h_40 (by decide)) kwX13_need kVX13_need ⟨Nat.le_of_ble_eq_true rfl, Nat.le_of_ble_eq_true rfl⟩ rfl hl.1 rfl (Nat.le_of_ble_eq_true rfl) dX13_readLaws_70 (fun H locs hH => ?_)
              have hL73 : ∀ (K73_216 : PG (Option Int32)), (∀ (u : GS) (H : Heap) (locs : List Loc) (ls : Array Slot), lv_has ls 2 [(0, .ref (Q 72))] → mH G Q u.1 s H locs → K73_216  u = some ((some r, u1)) → W p l e (headSpec (Cond.code yX13_readLaws cX13_readLaws 2 none :: wM) { frames := 405, cells := 0, slots := 0, locals := 4900 }).room s m [.ref (Q 72)].toArray below meth c H locs 0 0 (MQ below (mQv G Q u1.1 s.heap.size) [.ref (Q 72)].toArray s 0 0 (mA Q s.heap.size)) (F0 m 216 ls [])) → ∀ (n73 : Nat) (u : GS) (H : Heap) (locs : List Loc) (ls : Array Slot), lv_has ls 2 [(0, .ref (Q 72))] → mH G Q u.1 s H locs → lp_readLaws_73 n73  K73_216 u = some ((some r, u1)) → W p l e (headSpec (Cond.code yX13_readLaws cX13_readLaws 2 none :: wM) { frames := 405, cells := 0, slots := 0, locals := 4900 }).room s m [.ref (Q 72)].toArray below meth c H locs 0 0 (MQ below (mQv G Q u1.1 s.heap.size) [.ref (Q 72)].toArray s 0 0 (mA Q s.heap.size)) (F0 m 73 ls []) := by
                intro K73_216 hK73_216 n73
                induction n73 with
                | zero => intro  u H locs ls hl hH hF; cases hF
                | succ n73 ih73 =>
                  intro  u H locs ls hl hH hF
                  unfold lp_readLaws_73 at hF
                  refine lv_aload_n hx hb dX13_readLaws_73 rfl (lv_at hl 0 rfl) ?_
                  refine th_ldcw (tx := sTx 3) hx hb hC.2.2.2.1 (hC.2.2.2.2.2.2.2.2.1 3 (by decide)) dX13_readLaws_74 ?_
                  obtain ⟨r_42, u_43, h_44, hF⟩ := pcl_some hF
                  refine mcV_i (As := [.ref (Z.1 3)]) (rest := []) hC hH (m_is l G Z Q u u_43 r_42 3 _ h_44 (by decide)) kwX13_is kVX13_is ⟨Nat.le_of_ble_eq_true rfl, Nat.le_of_ble_eq_true rfl⟩ rfl hl.1 rfl (Nat.le_of_ble_eq_true rfl) dX13_readLaws_77 (fun H locs hH => ?_)
                  refine lv_if_eq (tgt := 216) hx hb dX13_readLaws_80 (by decide) (fun c_45 => ?_) (fun c_45 => ?_)
                  · rw [if_pos c_45] at hF
                    exact hK73_216  u_43 _ _ _ (lv_sub hl [0] rfl) hH hF
                  · rw [if_neg c_45] at hF
                    refine lv_aload_n hx hb dX13_readLaws_83 rfl (lv_at hl 0 rfl) ?_
                    refine mg_29 hC hH dX13_readLaws_84 ?_
                    obtain ⟨x_46, e_47, hF⟩ := prf_some hF
                    refine gx_ti e_47 ?_
                    refine lv_bipush (v := 8) hx hb dX13_readLaws_87 (by decide) ?_
                    refine lv_icmp_ne (tgt := 102) hx hb dX13_readLaws_89 (by decide) (fun c_48 => ?_) (fun c_48 => ?_)
                    · rw [if_neg c_48] at hF
                      refine lv_aload_n hx hb dX13_readLaws_102 rfl (lv_at hl 0 rfl) ?_
                      obtain ⟨r_49, u_50, h_51, hF⟩ := pcl_some hF
                      refine mcV_v (As := []) (rest := []) hC hH (m_scan l G Z Q u_43 u_50 r_49  _ h_51) kwX13_scan kVX13_scan ⟨Nat.le_of_ble_eq_true rfl, Nat.le_of_ble_eq_true rfl⟩ rfl hl.1 rfl (Nat.le_of_ble_eq_true rfl) dX13_readLaws_103 (fun H locs hH => ?_)
                      refine lv_aload_n hx hb dX13_readLaws_106 rfl (lv_at hl 0 rfl) ?_
                      obtain ⟨r_52, u_53, h_54, hF⟩ := pcl_some hF
                      cases r_52 with
                      | none =>
                        have hF := pot_none hF
                        exact (prt_no hF).elim
                      | some r_55 =>
                        have hF := pot_some hF
                        refine mcV_v (As := []) (rest := []) hC hH (m_name l G Z Q u_50 u_53 r_55  _ h_54) kwX13_name kVX13_name ⟨Nat.le_of_ble_eq_true rfl, Nat.le_of_ble_eq_true rfl⟩ rfl hl.1 rfl (Nat.le_of_ble_eq_true rfl) dX13_readLaws_107 (fun H locs hH => ?_)
                        refine lv_aload_n hx hb dX13_readLaws_110 rfl (lv_at hl 0 rfl) ?_
                        obtain ⟨r_56, u_57, h_58, hF⟩ := pcl_some hF
                        refine mcV_i (As := []) (rest := []) hC hH (m_findSign l G Z Q u_53 u_57 r_56  _ h_58) kwX13_findSign kVX13_findSign ⟨Nat.le_of_ble_eq_true rfl, Nat.le_of_ble_eq_true rfl⟩ rfl hl.1 rfl (Nat.le_of_ble_eq_true rfl) dX13_readLaws_111 (fun H locs hH => ?_)
                        refine lv_iconst (v := (-1)) hx hb dX13_readLaws_114 (by decide) ?_
                        refine lv_icmp_eq (tgt := 128) hx hb dX13_readLaws_115 (by decide) (fun c_59 => ?_) (fun c_59 => ?_)
                        · rw [if_pos c_59] at hF
                          refine lv_aload_n hx hb dX13_readLaws_128 rfl (lv_at hl 0 rfl) ?_
                          refine mg_33 hC hH dX13_readLaws_129 ?_
                          refine lv_aload_n hx hb dX13_readLaws_132 rfl (lv_at hl 0 rfl) ?_
                          refine mg_29 hC hH dX13_readLaws_133 ?_
                          obtain ⟨x_60, e_61, hF⟩ := prf_some hF
                          refine gx_ti e_61 ?_
                          refine lv_aload_n hx hb dX13_readLaws_136 rfl (lv_at hl 0 rfl) ?_
                          refine mg_45 hC hH dX13_readLaws_137 ?_
                          obtain ⟨x_62, e_63, hF⟩ := prf_some hF
                          refine gx_ti e_63 ?_
                          refine lv_aload_n hx hb dX13_readLaws_140 rfl (lv_at hl 0 rfl) ?_
                          refine mg_44 hC hH dX13_readLaws_141 ?_
                          obtain ⟨x_64, e_65, hF⟩ := prf_some hF
                          refine gx_ti e_65 ?_
                          refine lv_isub hx hb dX13_readLaws_144 ?_
                          obtain ⟨u_67, g_66, e_68, hF⟩ := pwd_some hF
                          refine ms_33 hC hH e_68 g_66 dX13_readLaws_145 (fun H locs hH => ?_)
                          refine lv_iconst (v := 0) hx hb dX13_readLaws_146 (by decide) ?_
                          refine lv_istore_n (lv' := [(1, .int 0), (0, .ref (Q 72))]) hx hb dX13_readLaws_147 rfl hl (by decide) rfl (fun ls hl => ?_)
                          have hL148 : ∀ (K148_192 : Int32 → PG (Option Int32)), (∀ (v1 : Int32) (u : GS) (H : Heap) (locs : List Loc) (ls : Array Slot), lv_has ls 2 [(0, .ref (Q 72)), (1, .int v1)] → mH G Q u.1 s H locs → K148_192 v1 u = some ((some r, u1)) → W p l e (headSpec (Cond.code yX13_readLaws cX13_readLaws 2 none :: wM) { frames := 405, cells := 0, slots := 0, locals := 4900 }).room s m [.ref (Q 72)].toArray below meth c H locs 0 0 (MQ below (mQv G Q u1.1 s.heap.size) [.ref (Q 72)].toArray s 0 0 (mA Q s.heap.size)) (F0 m 192 ls [])) → ∀ (n148 : Nat) (v1 : Int32) (u : GS) (H : Heap) (locs : List Loc) (ls : Array Slot), lv_has ls 2 [(0, .ref (Q 72)), (1, .int v1)] → mH G Q u.1 s H locs → lp_readLaws_148 n148 v1 K148_192 u = some ((some r, u1)) → W p l e (headSpec (Cond.code yX13_readLaws cX13_readLaws 2 none :: wM) { frames := 405, cells := 0, slots := 0, locals := 4900 }).room s m [.ref (Q 72)].toArray below meth c H locs 0 0 (MQ below (mQv G Q u1.1 s.heap.size) [.ref (Q 72)].toArray s 0 0 (mA Q s.heap.size)) (F0 m 148 ls []) := by
                            intro K148_192 hK148_192 n148
                            induction n148 with
                            | zero => intro v1 u H locs ls hl hH hF; cases hF
                            | succ n148 ih148 =>
                              intro v1 u H locs ls hl hH hF
                              unfold lp_readLaws_148 at hF
                              refine lv_iload_n hx hb dX13_readLaws_148 rfl (lv_at hl 1 rfl) ?_
                              refine lv_aload_n hx hb dX13_readLaws_149 rfl (lv_at hl 0 rfl) ?_
                              refine mg_33 hC hH dX13_readLaws_150 ?_
                              refine lv_aload_n hx hb dX13_readLaws_153 rfl (lv_at hl 0 rfl) ?_
                              refine mg_29 hC hH dX13_readLaws_154 ?_
                              obtain ⟨x_69, e_70, hF⟩ := prf_some hF
                              refine gx_ti e_70 ?_
                              obtain ⟨x_71, g_72, e_73, hF⟩ := prd_some hF
                              refine ml_33 hC hH g_72 dX13_readLaws_157 ?_
                              refine gx_ti e_73 ?_
                              refine lv_icmp_ge (tgt := 192) hx hb dX13_readLaws_158 (by decide) (fun c_74 => ?_) (fun c_74 => ?_)
                              · rw [if_pos c_74] at hF
                                exact hK148_192 v1 u _ _ _ (lv_sub hl [0, 1] rfl) hH hF
                              · rw [if_neg c_74] at hF
                                refine lv_aload_n hx hb dX13_readLaws_161 rfl (lv_at hl 0 rfl) ?_
                                refine mg_32 hC hH dX13_readLaws_162 ?_
                                refine lv_bipush (v := 10) hx hb dX13_readLaws_165 (by decide) ?_
                                refine lv_aload_n hx hb dX13_readLaws_167 rfl (lv_at hl 0 rfl) ?_
                                refine mg_29 hC hH dX13_readLaws_168 ?_
                                obtain ⟨x_75, e_76, hF⟩ := prf_some hF
                                refine gx_ti e_76 ?_
                                refine lv_imul hx hb dX13_readLaws_171 ?_
                                refine lv_iload_n hx hb dX13_readLaws_172 rfl (lv_at hl 1 rfl) ?_
                                refine lv_iadd hx hb dX13_readLaws_173 ?_
                                refine lv_aload_n hx hb dX13_readLaws_174 rfl (lv_at hl 0 rfl) ?_
                                refine mg_41 hC hH dX13_readLaws_175 ?_
                                refine lv_aload_n hx hb dX13_readLaws_178 rfl (lv_at hl 0 rfl) ?_
                                refine mg_44 hC hH dX13_readLaws_179 ?_
                                obtain ⟨x_77, e_78, hF⟩ := prf_some hF
                                refine gx_ti e_78 ?_
                                refine lv_iload_n hx hb dX13_readLaws_182 rfl (lv_at hl 1 rfl) ?_
                                refine lv_iadd hx hb dX13_readLaws_183 ?_
                                obtain ⟨x_79, g_80, e_81, hF⟩ := psr_some hF
                                refine ml_src hC hH g_80 dX13_readLaws_184 ?_
                                refine gx_ti e_81 ?_
                                obtain ⟨u_83, g_82, e_84, hF⟩ := pwd_some hF
                                refine ms_32 hC hH e_84 g_82 dX13_readLaws_185 (fun H locs hH => ?_)
                                obtain ⟨x_85, e_86, hF⟩ := pli_some hF
                                refine lv_iinc (v := x_85) (lv' := [(1, .int x_85), (0, .ref (Q 72))]) hx hb dX13_readLaws_186 hl (k := 1) rfl e_86 (by decide) rfl (fun ls hl => ?_)
                                refine lv_goto (tgt := 148) hx hb dX13_readLaws_189 (by decide) ?_
                                exact ih148 x_85 u_83 _ _ _ (lv_sub hl [1, 0] rfl) hH hF
                          refine hL148 _ (fun v1 u H locs ls hl hH hF => ?_) fuel 0 u_67 _ _ _ (lv_sub hl [1, 0] rfl) hH hF
                          refine lv_aload_n hx hb dX13_readLaws_192 rfl (lv_at hl 0 rfl) ?_
                          refine lv_dup hx hb dX13_readLaws_193 rfl ?_
                          refine mg_29 hC hH dX13_readLaws_194 ?_
                          obtain ⟨x_87, e_88, hF⟩ := prf_some hF
                          refine gx_ti e_88 ?_
                          refine lv_iconst (v := 1) hx hb dX13_readLaws_197 (by decide) ?_
                          refine lv_iadd hx hb dX13_readLaws_198 ?_
                          obtain ⟨u_89, e_90, hF⟩ := pwf_some hF
                          refine mp_29 hC hH e_90 dX13_readLaws_199 (fun H locs hH => ?_)
                          refine lv_aload_n hx hb dX13_readLaws_202 rfl (lv_at hl 0 rfl) ?_
                          obtain ⟨r_91, u_92, h_93, hF⟩ := pcl_some hF
                          refine mcV_v (As := []) (rest := []) hC hH (m_scan l G Z Q u_89 u_92 r_91  _ h_93) kwX13_scan kVX13_scan ⟨Nat.le_of_ble_eq_true rfl, Nat.le_of_ble_eq_true rfl⟩ rfl hl.1 rfl (Nat.le_of_ble_eq_true rfl) dX13_readLaws_203 (fun H locs hH => ?_)
                          refine lv_aload_n hx hb dX13_readLaws_206 rfl (lv_at hl 0 rfl) ?_
                          refine th_ldcw (tx := sTx 14) hx hb hC.2.2.2.1 (hC.2.2.2.2.2.2.2.2.1 14 (by decide)) dX13_readLaws_207 ?_
                          obtain ⟨r_94, u_95, h_96, hF⟩ := pcl_some hF
                          cases r_94 with
                          | none =>
                            have hF := pot_none hF
                            exact (prt_no hF).elim
                          | some r_97 =>
                            have hF := pot_some hF
                            refine mcV_v (As := [.ref (Z.1 14)]) (rest := []) hC hH (m_need l G Z Q u_92 u_95 r_97 14 _ h_96 (by decide)) kwX13_need kVX13_need ⟨Nat.le_of_ble_eq_true rfl, Nat.le_of_ble_eq_true rfl⟩ rfl hl.1 rfl (Nat.le_of_ble_eq_true rfl) dX13_readLaws_210 (fun H locs hH => ?_)
                            refine lv_goto (tgt := 73) hx hb dX13_readLaws_213 (by decide) ?_
                            exact ih73  u_95 _ _ _ (lv_sub hl [0] rfl) hH hF
                        · rw [if_neg c_59] at hF
                          refine lv_aload_n hx hb dX13_readLaws_118 rfl (lv_at hl 0 rfl) ?_
                          refine lv_iconst (v := 2) hx hb dX13_readLaws_119 (by decide) ?_
                          refine lv_aload_n hx hb dX13_readLaws_120 rfl (lv_at hl 0 rfl) ?_
                          refine mg_44 hC hH dX13_readLaws_121 ?_
                          obtain ⟨x_98, e_99, hF⟩ := prf_some hF
                          refine gx_ti e_99 ?_
                          obtain ⟨r_100, u_101, h_102, hF⟩ := pcl_some hF
                          refine mcV_r (As := [.int 2, .int x_98]) (rest := []) hC hH (m_wrong l G Z Q u_57 u_101 r_100 2 x_98 _ h_102) kwX13_wrong kVX13_wrong ⟨Nat.le_of_ble_eq_true rfl, Nat.le_of_ble_eq_true rfl⟩ rfl hl.1 rfl (Nat.le_of_ble_eq_true rfl) dX13_readLaws_124 (fun H locs hH => ?_)
                          exact (prt_no hF).elim
                    · rw [if_pos c_48] at hF
                      refine lv_aload_n hx hb dX13_readLaws_92 rfl (lv_at hl 0 rfl) ?_
                      refine lv_iconst (v := 3) hx hb dX13_readLaws_93 (by decide) ?_
                      refine lv_aload_n hx hb dX13_readLaws_94 rfl (lv_at hl 0 rfl) ?_
                      refine mg_44 hC hH dX13_readLaws_95 ?_
                      obtain ⟨x_103, e_104, hF⟩ := prf_some hF
                      refine gx_ti e_104 ?_
                      obtain ⟨r_105, u_106, h_107, hF⟩ := pcl_some hF
                      refine mcV_r (As := [.int 3, .int x_103]) (rest := []) hC hH (m_wrong l G Z Q u_43 u_106 r_105 3 x_103 _ h_107) kwX13_wrong kVX13_wrong ⟨Nat.le_of_ble_eq_true rfl, Nat.le_of_ble_eq_true rfl⟩ rfl hl.1 rfl (Nat.le_of_ble_eq_true rfl) dX13_readLaws_98 (fun H locs hH => ?_)
                      exact (prt_no hF).elim
              refine hL73 _ (fun  u H locs ls hl hH hF => ?_) fuel  u_39 _ _ _ (lv_sub hl [0] rfl) hH hF
              refine lv_aload_n hx hb dX13_readLaws_216 rfl (lv_at hl 0 rfl) ?_
              refine mg_34 hC hH dX13_readLaws_217 ?_
              refine lv_iconst (v := 0) hx hb dX13_readLaws_220 (by decide) ?_
              refine lv_iconst (v := 0) hx hb dX13_readLaws_221 (by decide) ?_
              obtain ⟨u_109, g_108, e_110, hF⟩ := pwd_some hF
              refine ms_34 hC hH e_110 g_108 dX13_readLaws_222 (fun H locs hH => ?_)
              have hL223 : ∀ (K223_336 : PG (Option Int32)), (∀ (u : GS) (H : Heap) (locs : List Loc) (ls : Array Slot), lv_has ls 2 [(0, .ref (Q 72))] → mH G Q u.1 s H locs → K223_336  u = some ((some r, u1)) → W p l e (headSpec (Cond.code yX13_readLaws cX13_readLaws 2 none :: wM) { frames := 405, cells := 0, slots := 0, locals := 4900 }).room s m [.ref (Q 72)].toArray below meth c H locs 0 0 (MQ below (mQv G Q u1.1 s.heap.size) [.ref (Q 72)].toArray s 0 0 (mA Q s.heap.size)) (F0 m 336 ls [])) → ∀ (n223 : Nat) (u : GS) (H : Heap) (locs : List Loc) (ls : Array Slot), lv_has ls 2 [(0, .ref (Q 72))] → mH G Q u.1 s H locs → lp_readLaws_223 n223  K223_336 u = some ((some r, u1)) → W p l e (headSpec (Cond.code yX13_readLaws cX13_readLaws 2 none :: wM) { frames := 405, cells := 0, slots := 0, locals := 4900 }).room s m [.ref (Q 72)].toArray below meth c H locs 0 0 (MQ below (mQv G Q u1.1 s.heap.size) [.ref (Q 72)].toArray s 0 0 (mA Q s.heap.size)) (F0 m 223 ls []) := by
                intro K223_336 hK223_336 n223
                induction n223 with
                | zero => intro  u H locs ls hl hH hF; cases hF
                | succ n223 ih223 =>
                  intro  u H locs ls hl hH hF
                  unfold lp_readLaws_223 at hF
                  refine lv_aload_n hx hb dX13_readLaws_223 rfl (lv_at hl 0 rfl) ?_
                  refine th_ldcw (tx := sTx 4) hx hb hC.2.2.2.1 (hC.2.2.2.2.2.2.2.2.1 4 (by decide)) dX13_readLaws_224 ?_
                  obtain ⟨r_111, u_112, h_113, hF⟩ := pcl_some hF
                  refine mcV_i (As := [.ref (Z.1 4)]) (rest := []) hC hH (m_is l G Z Q u u_112 r_111 4 _ h_113 (by decide)) kwX13_is kVX13_is ⟨Nat.le_of_ble_eq_true rfl, Nat.le_of_ble_eq_true rfl⟩ rfl hl.1 rfl (Nat.le_of_ble_eq_true rfl) dX13_readLaws_227 (fun H locs hH => ?_)
                  refine lv_if_eq (tgt := 336) hx hb dX13_readLaws_230 (by decide) (fun c_114 => ?_) (fun c_114 => ?_)
                  · rw [if_pos c_114] at hF
                    exact hK223_336  u_112 _ _ _ (lv_sub hl [0] rfl) hH hF
                  · rw [if_neg c_114] at hF
                    refine lv_aload_n hx hb dX13_readLaws_233 rfl (lv_at hl 0 rfl) ?_
                    refine mg_30 hC hH dX13_readLaws_234 ?_
                    obtain ⟨x_115, e_116, hF⟩ := prf_some hF
                    refine gx_ti e_116 ?_
                    refine lv_bipush (v := 20) hx hb dX13_readLaws_237 (by decide) ?_
                    refine lv_icmp_ne (tgt := 252) hx hb dX13_readLaws_239 (by decide) (fun c_117 => ?_) (fun c_117 => ?_)
                    · rw [if_neg c_117] at hF
                      refine lv_aload_n hx hb dX13_readLaws_252 rfl (lv_at hl 0 rfl) ?_
                      obtain ⟨r_118, u_119, h_120, hF⟩ := pcl_some hF
                      refine mcV_v (As := []) (rest := []) hC hH (m_scan l G Z Q u_112 u_119 r_118  _ h_120) kwX13_scan kVX13_scan ⟨Nat.le_of_ble_eq_true rfl, Nat.le_of_ble_eq_true rfl⟩ rfl hl.1 rfl (Nat.le_of_ble_eq_true rfl) dX13_readLaws_253 (fun H locs hH => ?_)
                      refine lv_aload_n hx hb dX13_readLaws_256 rfl (lv_at hl 0 rfl) ?_
                      refine mg_35 hC hH dX13_readLaws_257 ?_
                      refine lv_aload_n hx hb dX13_readLaws_260 rfl (lv_at hl 0 rfl) ?_
                      refine mg_30 hC hH dX13_readLaws_261 ?_
                      obtain ⟨x_121, e_122, hF⟩ := prf_some hF
                      refine gx_ti e_122 ?_
                      refine lv_iconst (v := 1) hx hb dX13_readLaws_264 (by decide) ?_
                      obtain ⟨u_124, g_123, e_125, hF⟩ := pwd_some hF
                      refine ms_35 hC hH e_125 g_123 dX13_readLaws_265 (fun H locs hH => ?_)
                      refine lv_aload_n hx hb dX13_readLaws_266 rfl (lv_at hl 0 rfl) ?_
                      refine mg_46 hC hH dX13_readLaws_267 ?_
                      obtain ⟨x_126, e_127, hF⟩ := prf_some hF
                      refine gx_ti e_127 ?_
                      refine lv_iconst (v := 2) hx hb dX13_readLaws_270 (by decide) ?_
                      refine lv_icmp_ne (tgt := 287) hx hb dX13_readLaws_271 (by decide) (fun c_128 => ?_) (fun c_128 => ?_)
                      · rw [if_neg c_128] at hF
                        refine lv_aload_n hx hb dX13_readLaws_287 rfl (lv_at hl 0 rfl) ?_
                        refine th_ldcw (tx := sTx 5) hx hb hC.2.2.2.1 (hC.2.2.2.2.2.2.2.2.1 5 (by decide)) dX13_readLaws_288 ?_
                        obtain ⟨r_129, u_130, h_131, hF⟩ := pcl_some hF
                        cases r_129 with
                        | none =>
                          have hF := pot_none hF
                          exact (prt_no hF).elim
                        | some r_132 =>
                          have hF := pot_some hF
                          refine mcV_v (As := [.ref (Z.1 5)]) (rest := []) hC hH (m_need l G Z Q u_124 u_130 r_132 5 _ h_131 (by decide)) kwX13_need kVX13_need ⟨Nat.le_of_ble_eq_true rfl, Nat.le_of_ble_eq_true rfl⟩ rfl hl.1 rfl (Nat.le_of_ble_eq_true rfl) dX13_readLaws_291 (fun H locs hH => ?_)
                          refine lv_aload_n hx hb dX13_readLaws_294 rfl (lv_at hl 0 rfl) ?_
                          refine lv_iconst (v := 0) hx hb dX13_readLaws_295 (by decide) ?_
                          obtain ⟨u_133, e_134, hF⟩ := pwf_some hF
                          refine mp_48 hC hH e_134 dX13_readLaws_296 (fun H locs hH => ?_)
                          refine lv_aload_n hx hb dX13_readLaws_299 rfl (lv_at hl 0 rfl) ?_
                          obtain ⟨r_135, u_136, h_137, hF⟩ := pcl_some hF
                          cases r_135 with
                          | none =>
                            have hF := pot_none hF
                            exact (prt_no hF).elim
                          | some r_138 =>
                            have hF := pot_some hF
                            refine mcV_v (As := []) (rest := []) hC hH (m_readOr l G Z Q u_133 u_136 r_138  _ h_137) kwX13_readOr kVX13_readOr ⟨Nat.le_of_ble_eq_true rfl, Nat.le_of_ble_eq_true rfl⟩ rfl hl.1 rfl (Nat.le_of_ble_eq_true rfl) dX13_readLaws_300 (fun H locs hH => ?_)
                            refine lv_aload_n hx hb dX13_readLaws_303 rfl (lv_at hl 0 rfl) ?_
                            refine th_ldcw (tx := sTx 14) hx hb hC.2.2.2.1 (hC.2.2.2.2.2.2.2.2.1 14 (by decide)) dX13_readLaws_304 ?_
                            obtain ⟨r_139, u_140, h_141, hF⟩ := pcl_some hF
                            cases r_139 with
                            | none =>
                              have hF := pot_none hF
                              exact (prt_no hF).elim
                            | some r_142 =>
                              have hF := pot_some hF
                              refine mcV_v (As := [.ref (Z.1 14)]) (rest := []) hC hH (m_need l G Z Q u_136 u_140 r_142 14 _ h_141 (by decide)) kwX13_need kVX13_need ⟨Nat.le_of_ble_eq_true rfl, Nat.le_of_ble_eq_true rfl⟩ rfl hl.1 rfl (Nat.le_of_ble_eq_true rfl) dX13_readLaws_307 (fun H locs hH => ?_)
                              refine lv_aload_n hx hb dX13_readLaws_310 rfl (lv_at hl 0 rfl) ?_
                              refine lv_dup hx hb dX13_readLaws_311 rfl ?_
                              refine mg_30 hC hH dX13_readLaws_312 ?_
                              obtain ⟨x_143, e_144, hF⟩ := prf_some hF
                              refine gx_ti e_144 ?_
                              refine lv_iconst (v := 1) hx hb dX13_readLaws_315 (by decide) ?_
                              refine lv_iadd hx hb dX13_readLaws_316 ?_
                              obtain ⟨u_145, e_146, hF⟩ := pwf_some hF
                              refine mp_30 hC hH e_146 dX13_readLaws_317 (fun H locs hH => ?_)
                              refine lv_aload_n hx hb dX13_readLaws_320 rfl (lv_at hl 0 rfl) ?_
                              refine mg_34 hC hH dX13_readLaws_321 ?_
                              refine lv_aload_n hx hb dX13_readLaws_324 rfl (lv_at hl 0 rfl) ?_
                              refine mg_30 hC hH dX13_readLaws_325 ?_
                              obtain ⟨x_147, e_148, hF⟩ := prf_some hF
                              refine gx_ti e_148 ?_
                              refine lv_aload_n hx hb dX13_readLaws_328 rfl (lv_at hl 0 rfl) ?_
                              refine mg_31 hC hH dX13_readLaws_329 ?_
                              obtain ⟨x_149, e_150, hF⟩ := prf_some hF
                              refine gx_ti e_150 ?_
                              obtain ⟨u_152, g_151, e_153, hF⟩ := pwd_some hF
                              refine ms_34 hC hH e_153 g_151 dX13_readLaws_332 (fun H locs hH => ?_)
                              refine lv_goto (tgt := 223) hx hb dX13_readLaws_333 (by decide) ?_
                              exact ih223  u_152 _ _ _ (lv_sub hl [0] rfl) hH hF
                      · rw [if_pos c_128] at hF
                        refine lv_aload_n hx hb dX13_readLaws_274 rfl (lv_at hl 0 rfl) ?_
                        refine mg_35 hC hH dX13_readLaws_275 ?_
                        refine lv_aload_n hx hb dX13_readLaws_278 rfl (lv_at hl 0 rfl) ?_
                        refine mg_30 hC hH dX13_readLaws_279 ?_
                        obtain ⟨x_154, e_155, hF⟩ := prf_some hF
                        refine gx_ti e_155 ?_
                        refine lv_aload_n hx hb dX13_readLaws_282 rfl (lv_at hl 0 rfl) ?_
                        obtain ⟨r_156, u_157, h_158, hF⟩ := pcl_some hF
                        cases r_156 with
                        | none =>
                          have hF := pot_none hF
                          exact (prt_no hF).elim
                        | some r_159 =>
                          have hF := pot_some hF
                          refine mcV_i (As := []) (rest := [.int x_154, .ref (Q 35)]) hC hH (m_number l G Z Q u_124 u_157 r_159  _ h_158) kwX13_number kVX13_number ⟨Nat.le_of_ble_eq_true rfl, Nat.le_of_ble_eq_true rfl⟩ rfl hl.1 rfl (Nat.le_of_ble_eq_true rfl) dX13_readLaws_283 (fun H locs hH => ?_)
                          obtain ⟨u_161, g_160, e_162, hF⟩ := pwd_some hF
                          refine ms_35 hC hH e_162 g_160 dX13_readLaws_286 (fun H locs hH => ?_)
                          refine lv_aload_n hx hb dX13_readLaws_287 rfl (lv_at hl 0 rfl) ?_
                          refine th_ldcw (tx := sTx 5) hx hb hC.2.2.2.1 (hC.2.2.2.2.2.2.2.2.1 5 (by decide)) dX13_readLaws_288 ?_
                          obtain ⟨r_163, u_164, h_165, hF⟩ := pcl_some hF
                          cases r_163 with
                          | none =>
                            have hF := pot_none hF
                            exact (prt_no hF).elim
                          | some r_166 =>
                            have hF := pot_some hF
                            refine mcV_v (As := [.ref (Z.1 5)]) (rest := []) hC hH (m_need l G Z Q u_161 u_164 r_166 5 _ h_165 (by decide)) kwX13_need kVX13_need ⟨Nat.le_of_ble_eq_true rfl, Nat.le_of_ble_eq_true rfl⟩ rfl hl.1 rfl (Nat.le_of_ble_eq_true rfl) dX13_readLaws_291 (fun H locs hH => ?_)
                            refine lv_aload_n hx hb dX13_readLaws_294 rfl (lv_at hl 0 rfl) ?_
                            refine lv_iconst (v := 0) hx hb dX13_readLaws_295 (by decide) ?_
                            obtain ⟨u_167, e_168, hF⟩ := pwf_some hF
                            refine mp_48 hC hH e_168 dX13_readLaws_296 (fun H locs hH => ?_)
                            refine lv_aload_n hx hb dX13_readLaws_299 rfl (lv_at hl 0 rfl) ?_
                            obtain ⟨r_169, u_170, h_171, hF⟩ := pcl_some hF
                            cases r_169 with
                            | none =>
                              have hF := pot_none hF
                              exact (prt_no hF).elim
                            | some r_172 =>
                              have hF := pot_some hF
                              refine mcV_v (As := []) (rest := []) hC hH (m_readOr l G Z Q u_167 u_170 r_172  _ h_171) kwX13_readOr kVX13_readOr ⟨Nat.le_of_ble_eq_true rfl, Nat.le_of_ble_eq_true rfl⟩ rfl hl.1 rfl (Nat.le_of_ble_eq_true rfl) dX13_readLaws_300 (fun H locs hH => ?_)
                              refine lv_aload_n hx hb dX13_readLaws_303 rfl (lv_at hl 0 rfl) ?_
                              refine th_ldcw (tx := sTx 14) hx hb hC.2.2.2.1 (hC.2.2.2.2.2.2.2.2.1 14 (by decide)) dX13_readLaws_304 ?_
                              obtain ⟨r_173, u_174, h_175, hF⟩ := pcl_some hF
                              cases r_173 with
                              | none =>
                                have hF := pot_none hF
                                exact (prt_no hF).elim
                              | some r_176 =>
                                have hF := pot_some hF
                                refine mcV_v (As := [.ref (Z.1 14)]) (rest := []) hC hH (m_need l G Z Q u_170 u_174 r_176 14 _ h_175 (by decide)) kwX13_need kVX13_need ⟨Nat.le_of_ble_eq_true rfl, Nat.le_of_ble_eq_true rfl⟩ rfl hl.1 rfl (Nat.le_of_ble_eq_true rfl) dX13_readLaws_307 (fun H locs hH => ?_)
                                refine lv_aload_n hx hb dX13_readLaws_310 rfl (lv_at hl 0 rfl) ?_
                                refine lv_dup hx hb dX13_readLaws_311 rfl ?_
                                refine mg_30 hC hH dX13_readLaws_312 ?_
                                obtain ⟨x_177, e_178, hF⟩ := prf_some hF
                                refine gx_ti e_178 ?_
                                refine lv_iconst (v := 1) hx hb dX13_readLaws_315 (by decide) ?_
                                refine lv_iadd hx hb dX13_readLaws_316 ?_
                                obtain ⟨u_179, e_180, hF⟩ := pwf_some hF
                                refine mp_30 hC hH e_180 dX13_readLaws_317 (fun H locs hH => ?_)
                                refine lv_aload_n hx hb dX13_readLaws_320 rfl (lv_at hl 0 rfl) ?_
                                refine mg_34 hC hH dX13_readLaws_321 ?_
                                refine lv_aload_n hx hb dX13_readLaws_324 rfl (lv_at hl 0 rfl) ?_
                                refine mg_30 hC hH dX13_readLaws_325 ?_
                                obtain ⟨x_181, e_182, hF⟩ := prf_some hF
                                refine gx_ti e_182 ?_
                                refine lv_aload_n hx hb dX13_readLaws_328 rfl (lv_at hl 0 rfl) ?_
                                refine mg_31 hC hH dX13_readLaws_329 ?_
                                obtain ⟨x_183, e_184, hF⟩ := prf_some hF
                                refine gx_ti e_184 ?_
                                obtain ⟨u_186, g_185, e_187, hF⟩ := pwd_some hF
                                refine ms_34 hC hH e_187 g_185 dX13_readLaws_332 (fun H locs hH => ?_)
                                refine lv_goto (tgt := 223) hx hb dX13_readLaws_333 (by decide) ?_
                                exact ih223  u_186 _ _ _ (lv_sub hl [0] rfl) hH hF
                    · rw [if_pos c_117] at hF
                      refine lv_aload_n hx hb dX13_readLaws_242 rfl (lv_at hl 0 rfl) ?_
                      refine lv_iconst (v := 3) hx hb dX13_readLaws_243 (by decide) ?_
                      refine lv_aload_n hx hb dX13_readLaws_244 rfl (lv_at hl 0 rfl) ?_
                      refine mg_44 hC hH dX13_readLaws_245 ?_
                      obtain ⟨x_188, e_189, hF⟩ := prf_some hF
                      refine gx_ti e_189 ?_
                      obtain ⟨r_190, u_191, h_192, hF⟩ := pcl_some hF
                      refine mcV_r (As := [.int 3, .int x_188]) (rest := []) hC hH (m_wrong l G Z Q u_112 u_191 r_190 3 x_188 _ h_192) kwX13_wrong kVX13_wrong ⟨Nat.le_of_ble_eq_true rfl, Nat.le_of_ble_eq_true rfl⟩ rfl hl.1 rfl (Nat.le_of_ble_eq_true rfl) dX13_readLaws_248 (fun H locs hH => ?_)
                      exact (prt_no hF).elim
              refine hL223 _ (fun  u H locs ls hl hH hF => ?_) fuel  u_109 _ _ _ (lv_sub hl [0] rfl) hH hF
              refine lv_aload_n hx hb dX13_readLaws_336 rfl (lv_at hl 0 rfl) ?_
              refine mg_46 hC hH dX13_readLaws_337 ?_
              obtain ⟨x_193, e_194, hF⟩ := prf_some hF
              refine gx_ti e_194 ?_
              refine lv_if_eq (tgt := 353) hx hb dX13_readLaws_340 (by decide) (fun c_195 => ?_) (fun c_195 => ?_)
              · rw [if_pos c_195] at hF
                have hF := prt_eqS hF
                exact mr_v hC hH hr hF dX13_readLaws_353 hlocks
              · rw [if_neg c_195] at hF
                refine lv_aload_n hx hb dX13_readLaws_343 rfl (lv_at hl 0 rfl) ?_
                refine lv_iconst (v := 1) hx hb dX13_readLaws_344 (by decide) ?_
                refine lv_aload_n hx hb dX13_readLaws_345 rfl (lv_at hl 0 rfl) ?_
                refine mg_44 hC hH dX13_readLaws_346 ?_
                obtain ⟨x_196, e_197, hF⟩ := prf_some hF
                refine gx_ti e_197 ?_
                obtain ⟨r_198, u_199, h_200, hF⟩ := pcl_some hF
                refine mcV_r (As := [.int 1, .int x_196]) (rest := []) hC hH (m_wrong l G Z Q u u_199 r_198 1 x_196 _ h_200) kwX13_wrong kVX13_wrong ⟨Nat.le_of_ble_eq_true rfl, Nat.le_of_ble_eq_true rfl⟩ rfl hl.1 rfl (Nat.le_of_ble_eq_true rfl) dX13_readLaws_349 (fun H locs hH => ?_)
                exact (prt_no hF).elim
set_option maxHeartbeats 4000000 in
set_option maxRecDepth 100000 in
theorem t_readLaws (l : Launch) (G : gG) (Z : gM) (Q : Nat → Nat) (u u1 : GS)  (sz : Nat) (hF : f_readLaws u = some (none, u1)) : MetT l yX13_readLaws (Cond.code yX13_readLaws cX13_readLaws 2 none :: wM) { frames := 405, cells := 0, slots := 0, locals := 4900 } (va_Pc [.ref (Q 72)] (mPM G Z Q u.1 sz)) (mQt G Q u1.1 sz) 0 0 (mA Q sz) := by
  refine MetT.ofW (cc := cX13_readLaws) (maxL := 2) (ret := none) (by decide) rfl ?_
  intro p e s m args below meth c s₁ B hml hv
  obtain ⟨rfl, rfl, hP, hB, hD, hE⟩ := hv
  have hr := B.returns
  have hlocks := B.notSynchronized
  have hts := atoms_spec (ws := Cond.code yX13_readLaws cX13_readLaws 2 none :: wM) B.pre
  have hC : mX p c cX13_readLaws 2 s m _ G Z Q := ⟨B.exec, B.bytes, hml, findClass_of_methodNamed B.named, fun w h => hts w (List.mem_cons_of_mem _ h), hB, hE⟩
  have hx := hC.1
  have hb := hC.2.1
  have hH : mH G Q u.1 s s.heap [] := ⟨hP, hD, va_S.rf⟩
  have hno : c.exceptionTable.isEmpty = true := BodyLoose.noHandlers B (hts _ List.mem_cons_self)
  have hl := lv_entry ([.ref (Q 72)]) (n := 2) (Nat.le_of_ble_eq_true rfl)
  rw [lg_entry_eq]
  generalize (lg_sl ([.ref (Q 72)]) ++ List.replicate (2 - (lg_sl ([.ref (Q 72)])).length) Slot.unset).toArray = ls at hl ⊢
  have hl : lv_has ls 2 [(0, .ref (Q 72))] := hl
  unfold f_readLaws at hF
  obtain ⟨u0, e0, hF⟩ := pclL_some hF
  rw [e0] at hH
  refine lv_aload_n hx hb dX13_readLaws_0 rfl (lv_at hl 0 rfl) ?_
  refine lv_iconst (v := 0) hx hb dX13_readLaws_1 (by decide) ?_
  obtain ⟨u_1, e_2, hF⟩ := pwf_some hF
  refine mp_29 hC hH e_2 dX13_readLaws_2 (fun H locs hH => ?_)
  refine lv_aload_n hx hb dX13_readLaws_5 rfl (lv_at hl 0 rfl) ?_
  refine lv_iconst (v := 0) hx hb dX13_readLaws_6 (by decide) ?_
  obtain ⟨u_3, e_4, hF⟩ := pwf_some hF
  refine mp_30 hC hH e_4 dX13_readLaws_7 (fun H locs hH => ?_)
  refine lv_aload_n hx hb dX13_readLaws_10 rfl (lv_at hl 0 rfl) ?_
  refine lv_iconst (v := 0) hx hb dX13_readLaws_11 (by decide) ?_
  obtain ⟨u_5, e_6, hF⟩ := pwf_some hF
  refine mp_31 hC hH e_6 dX13_readLaws_12 (fun H locs hH => ?_)
  refine lv_aload_n hx hb dX13_readLaws_15 rfl (lv_at hl 0 rfl) ?_
  refine lv_iconst (v := 0) hx hb dX13_readLaws_16 (by decide) ?_
  obtain ⟨u_7, e_8, hF⟩ := pwf_some hF
  refine mp_51 hC hH e_8 dX13_readLaws_17 (fun H locs hH => ?_)
  refine lv_aload_n hx hb dX13_readLaws_20 rfl (lv_at hl 0 rfl) ?_
  refine lv_iconst (v := 0) hx hb dX13_readLaws_21 (by decide) ?_
  obtain ⟨u_9, e_10, hF⟩ := pwf_some hF
  refine mp_45 hC hH e_10 dX13_readLaws_22 (fun H locs hH => ?_)
  refine lv_aload_n hx hb dX13_readLaws_25 rfl (lv_at hl 0 rfl) ?_
  obtain ⟨r_11, u_12, h_13, hF⟩ := pcl_some hF
  refine mcV_v (As := []) (rest := []) hC hH (m_scan l G Z Q u_9 u_12 r_11  _ h_13) kwX13_scan kVX13_scan ⟨Nat.le_of_ble_eq_true rfl, Nat.le_of_ble_eq_true rfl⟩ rfl hl.1 rfl (Nat.le_of_ble_eq_true rfl) dX13_readLaws_26 (fun H locs hH => ?_)
  refine lv_aload_n hx hb dX13_readLaws_29 rfl (lv_at hl 0 rfl) ?_
  refine th_ldcw (tx := sTx 1) hx hb hC.2.2.2.1 (hC.2.2.2.2.2.2.2.2.1 1 (by decide)) dX13_readLaws_30 ?_
  obtain ⟨r_14, u_15, h_16, hF⟩ := pcl_some hF
  cases r_14 with
  | none =>
    have hF := pot_none hF
    exact mt_pass hH (mt_run (As := [.ref (Z.1 1)]) (rest := []) hC hH (t_need l G Z Q u_12 u_15 1 _ h_16 (by decide)) kwX13_need kVX13_need ⟨Nat.le_of_ble_eq_true rfl, Nat.le_of_ble_eq_true rfl⟩ rfl hl.1 rfl (Nat.le_of_ble_eq_true rfl) dX13_readLaws_33) hno hlocks (prt_eqT hF)
  | some r_17 =>
    have hF := pot_some hF
    refine mcV_v (As := [.ref (Z.1 1)]) (rest := []) hC hH (m_need l G Z Q u_12 u_15 r_17 1 _ h_16 (by decide)) kwX13_need kVX13_need ⟨Nat.le_of_ble_eq_true rfl, Nat.le_of_ble_eq_true rfl⟩ rfl hl.1 rfl (Nat.le_of_ble_eq_true rfl) dX13_readLaws_33 (fun H locs hH => ?_)
    refine lv_aload_n hx hb dX13_readLaws_36 rfl (lv_at hl 0 rfl) ?_
    refine lv_aload_n hx hb dX13_readLaws_37 rfl (lv_at hl 0 rfl) ?_
    obtain ⟨r_18, u_19, h_20, hF⟩ := pcl_some hF
    cases r_18 with
    | none =>
      have hF := pot_none hF
      exact mt_pass hH (mt_run (As := []) (rest := [.ref (Q 72)]) hC hH (t_number l G Z Q u_15 u_19  _ h_20) kwX13_number kVX13_number ⟨Nat.le_of_ble_eq_true rfl, Nat.le_of_ble_eq_true rfl⟩ rfl hl.1 rfl (Nat.le_of_ble_eq_true rfl) dX13_readLaws_38) hno hlocks (prt_eqT hF)
    | some r_21 =>
      have hF := pot_some hF
      refine mcV_i (As := []) (rest := [.ref (Q 72)]) hC hH (m_number l G Z Q u_15 u_19 r_21  _ h_20) kwX13_number kVX13_number ⟨Nat.le_of_ble_eq_true rfl, Nat.le_of_ble_eq_true rfl⟩ rfl hl.1 rfl (Nat.le_of_ble_eq_true rfl) dX13_readLaws_38 (fun H locs hH => ?_)
      obtain ⟨u_22, e_23, hF⟩ := pwf_some hF
      refine mp_27 hC hH e_23 dX13_readLaws_41 (fun H locs hH => ?_)
      refine lv_aload_n hx hb dX13_readLaws_44 rfl (lv_at hl 0 rfl) ?_
      refine th_ldcw (tx := sTx 14) hx hb hC.2.2.2.1 (hC.2.2.2.2.2.2.2.2.1 14 (by decide)) dX13_readLaws_45 ?_
      obtain ⟨r_24, u_25, h_26, hF⟩ := pcl_some hF
      cases r_24 with
      | none =>
        have hF := pot_none hF
        exact mt_pass hH (mt_run (As := [.ref (Z.1 14)]) (rest := []) hC hH (t_need l G Z Q u_22 u_25 14 _ h_26 (by decide)) kwX13_need kVX13_need ⟨Nat.le_of_ble_eq_true rfl, Nat.le_of_ble_eq_true rfl⟩ rfl hl.1 rfl (Nat.le_of_ble_eq_true rfl) dX13_readLaws_48) hno hlocks (prt_eqT hF)
      | some r_27 =>
        have hF := pot_some hF
        refine mcV_v (As := [.ref (Z.1 14)]) (rest := []) hC hH (m_need l G Z Q u_22 u_25 r_27 14 _ h_26 (by decide)) kwX13_need kVX13_need ⟨Nat.le_of_ble_eq_true rfl, Nat.le_of_ble_eq_true rfl⟩ rfl hl.1 rfl (Nat.le_of_ble_eq_true rfl) dX13_readLaws_48 (fun H locs hH => ?_)
        refine lv_aload_n hx hb dX13_readLaws_51 rfl (lv_at hl 0 rfl) ?_
        refine th_ldcw (tx := sTx 2) hx hb hC.2.2.2.1 (hC.2.2.2.2.2.2.2.2.1 2 (by decide)) dX13_readLaws_52 ?_
        obtain ⟨r_28, u_29, h_30, hF⟩ := pcl_some hF
        cases r_28 with
        | none =>
          have hF := pot_none hF
          exact mt_pass hH (mt_run (As := [.ref (Z.1 2)]) (rest := []) hC hH (t_need l G Z Q u_25 u_29 2 _ h_30 (by decide)) kwX13_need kVX13_need ⟨Nat.le_of_ble_eq_true rfl, Nat.le_of_ble_eq_true rfl⟩ rfl hl.1 rfl (Nat.le_of_ble_eq_true rfl) dX13_readLaws_55) hno hlocks (prt_eqT hF)
        | some r_31 =>
          have hF := pot_some hF
          refine mcV_v (As := [.ref (Z.1 2)]) (rest := []) hC hH (m_need l G Z Q u_25 u_29 r_31 2 _ h_30 (by decide)) kwX13_need kVX13_need ⟨Nat.le_of_ble_eq_true rfl, Nat.le_of_ble_eq_true rfl⟩ rfl hl.1 rfl (Nat.le_of_ble_eq_true rfl) dX13_readLaws_55 (fun H locs hH => ?_)
          refine lv_aload_n hx hb dX13_readLaws_58 rfl (lv_at hl 0 rfl) ?_
          refine lv_aload_n hx hb dX13_readLaws_59 rfl (lv_at hl 0 rfl) ?_
          obtain ⟨r_32, u_33, h_34, hF⟩ := pcl_some hF
          cases r_32 with
          | none =>
            have hF := pot_none hF
            exact mt_pass hH (mt_run (As := []) (rest := [.ref (Q 72)]) hC hH (t_number l G Z Q u_29 u_33  _ h_34) kwX13_number kVX13_number ⟨Nat.le_of_ble_eq_true rfl, Nat.le_of_ble_eq_true rfl⟩ rfl hl.1 rfl (Nat.le_of_ble_eq_true rfl) dX13_readLaws_60) hno hlocks (prt_eqT hF)
          | some r_35 =>
            have hF := pot_some hF
            refine mcV_i (As := []) (rest := [.ref (Q 72)]) hC hH (m_number l G Z Q u_29 u_33 r_35  _ h_34) kwX13_number kVX13_number ⟨Nat.le_of_ble_eq_true rfl, Nat.le_of_ble_eq_true rfl⟩ rfl hl.1 rfl (Nat.le_of_ble_eq_true rfl) dX13_readLaws_60 (fun H locs hH => ?_)
            obtain ⟨u_36, e_37, hF⟩ := pwf_some hF
            refine mp_28 hC hH e_37 dX13_readLaws_63 (fun H locs hH => ?_)
            refine lv_aload_n hx hb dX13_readLaws_66 rfl (lv_at hl 0 rfl) ?_
            refine th_ldcw (tx := sTx 14) hx hb hC.2.2.2.1 (hC.2.2.2.2.2.2.2.2.1 14 (by decide)) dX13_readLaws_67 ?_
            obtain ⟨r_38, u_39, h_40, hF⟩ := pcl_some hF
            cases r_38 with
            | none =>
              have hF := pot_none hF
              exact mt_pass hH (mt_run (As := [.ref (Z.1 14)]) (rest := []) hC hH (t_need l G Z Q u_36 u_39 14 _ h_40 (by decide)) kwX13_need kVX13_need ⟨Nat.le_of_ble_eq_true rfl, Nat.le_of_ble_eq_true rfl⟩ rfl hl.1 rfl (Nat.le_of_ble_eq_true rfl) dX13_readLaws_70) hno hlocks (prt_eqT hF)
            | some r_41 =>
              have hF := pot_some hF
              refine mcV_v (As := [.ref (Z.1 14)]) (rest := []) hC hH (m_need l G Z Q u_36 u_39 r_41 14 _ h_40 (by decide)) kwX13_need kVX13_need ⟨Nat.le_of_ble_eq_true rfl, Nat.le_of_ble_eq_true rfl⟩ rfl hl.1 rfl (Nat.le_of_ble_eq_true rfl) dX13_readLaws_70 (fun H locs hH => ?_)
              have hL73 : ∀ (K73_216 : PG (Option Int32)), (∀ (u : GS) (H : Heap) (locs : List Loc) (ls : Array Slot), lv_has ls 2 [(0, .ref (Q 72))] → mH G Q u.1 s H locs → K73_216  u = some ((none, u1)) → W p l e (headSpec (Cond.code yX13_readLaws cX13_readLaws 2 none :: wM) { frames := 405, cells := 0, slots := 0, locals := 4900 }).room s m [.ref (Q 72)].toArray below meth c H locs 0 0 (MQT below (mQt G Q u1.1 s.heap.size) [.ref (Q 72)].toArray s 0 0 (mA Q s.heap.size)) (F0 m 216 ls [])) → ∀ (n73 : Nat) (u : GS) (H : Heap) (locs : List Loc) (ls : Array Slot), lv_has ls 2 [(0, .ref (Q 72))] → mH G Q u.1 s H locs → lp_readLaws_73 n73  K73_216 u = some ((none, u1)) → W p l e (headSpec (Cond.code yX13_readLaws cX13_readLaws 2 none :: wM) { frames := 405, cells := 0, slots := 0, locals := 4900 }).room s m [.ref (Q 72)].toArray below meth c H locs 0 0 (MQT below (mQt G Q u1.1 s.heap.size) [.ref (Q 72)].toArray s 0 0 (mA Q s.heap.size)) (F0 m 73 ls []) := by
                intro K73_216 hK73_216 n73
                induction n73 with
                | zero => intro  u H locs ls hl hH hF; cases hF
                | succ n73 ih73 =>
                  intro  u H locs ls hl hH hF
                  unfold lp_readLaws_73 at hF
                  refine lv_aload_n hx hb dX13_readLaws_73 rfl (lv_at hl 0 rfl) ?_
                  refine th_ldcw (tx := sTx 3) hx hb hC.2.2.2.1 (hC.2.2.2.2.2.2.2.2.1 3 (by decide)) dX13_readLaws_74 ?_
                  obtain ⟨r_42, u_43, h_44, hF⟩ := pcl_some hF
                  refine mcV_i (As := [.ref (Z.1 3)]) (rest := []) hC hH (m_is l G Z Q u u_43 r_42 3 _ h_44 (by decide)) kwX13_is kVX13_is ⟨Nat.le_of_ble_eq_true rfl, Nat.le_of_ble_eq_true rfl⟩ rfl hl.1 rfl (Nat.le_of_ble_eq_true rfl) dX13_readLaws_77 (fun H locs hH => ?_)
                  refine lv_if_eq (tgt := 216) hx hb dX13_readLaws_80 (by decide) (fun c_45 => ?_) (fun c_45 => ?_)
                  · rw [if_pos c_45] at hF
                    exact hK73_216  u_43 _ _ _ (lv_sub hl [0] rfl) hH hF
                  · rw [if_neg c_45] at hF
                    refine lv_aload_n hx hb dX13_readLaws_83 rfl (lv_at hl 0 rfl) ?_
                    refine mg_29 hC hH dX13_readLaws_84 ?_
                    obtain ⟨x_46, e_47, hF⟩ := prf_some hF
                    refine gx_ti e_47 ?_
                    refine lv_bipush (v := 8) hx hb dX13_readLaws_87 (by decide) ?_
                    refine lv_icmp_ne (tgt := 102) hx hb dX13_readLaws_89 (by decide) (fun c_48 => ?_) (fun c_48 => ?_)
                    · rw [if_neg c_48] at hF
                      refine lv_aload_n hx hb dX13_readLaws_102 rfl (lv_at hl 0 rfl) ?_
                      obtain ⟨r_49, u_50, h_51, hF⟩ := pcl_some hF
                      refine mcV_v (As := []) (rest := []) hC hH (m_scan l G Z Q u_43 u_50 r_49  _ h_51) kwX13_scan kVX13_scan ⟨Nat.le_of_ble_eq_true rfl, Nat.le_of_ble_eq_true rfl⟩ rfl hl.1 rfl (Nat.le_of_ble_eq_true rfl) dX13_readLaws_103 (fun H locs hH => ?_)
                      refine lv_aload_n hx hb dX13_readLaws_106 rfl (lv_at hl 0 rfl) ?_
                      obtain ⟨r_52, u_53, h_54, hF⟩ := pcl_some hF
                      cases r_52 with
                      | none =>
                        have hF := pot_none hF
                        exact mt_pass hH (mt_run (As := []) (rest := []) hC hH (t_name l G Z Q u_50 u_53  _ h_54) kwX13_name kVX13_name ⟨Nat.le_of_ble_eq_true rfl, Nat.le_of_ble_eq_true rfl⟩ rfl hl.1 rfl (Nat.le_of_ble_eq_true rfl) dX13_readLaws_107) hno hlocks (prt_eqT hF)
                      | some r_55 =>
                        have hF := pot_some hF
                        refine mcV_v (As := []) (rest := []) hC hH (m_name l G Z Q u_50 u_53 r_55  _ h_54) kwX13_name kVX13_name ⟨Nat.le_of_ble_eq_true rfl, Nat.le_of_ble_eq_true rfl⟩ rfl hl.1 rfl (Nat.le_of_ble_eq_true rfl) dX13_readLaws_107 (fun H locs hH => ?_)
                        refine lv_aload_n hx hb dX13_readLaws_110 rfl (lv_at hl 0 rfl) ?_
                        obtain ⟨r_56, u_57, h_58, hF⟩ := pcl_some hF
                        refine mcV_i (As := []) (rest := []) hC hH (m_findSign l G Z Q u_53 u_57 r_56  _ h_58) kwX13_findSign kVX13_findSign ⟨Nat.le_of_ble_eq_true rfl, Nat.le_of_ble_eq_true rfl⟩ rfl hl.1 rfl (Nat.le_of_ble_eq_true rfl) dX13_readLaws_111 (fun H locs hH => ?_)
                        refine lv_iconst (v := (-1)) hx hb dX13_readLaws_114 (by decide) ?_
                        refine lv_icmp_eq (tgt := 128) hx hb dX13_readLaws_115 (by decide) (fun c_59 => ?_) (fun c_59 => ?_)
                        · rw [if_pos c_59] at hF
                          refine lv_aload_n hx hb dX13_readLaws_128 rfl (lv_at hl 0 rfl) ?_
                          refine mg_33 hC hH dX13_readLaws_129 ?_
                          refine lv_aload_n hx hb dX13_readLaws_132 rfl (lv_at hl 0 rfl) ?_
                          refine mg_29 hC hH dX13_readLaws_133 ?_
                          obtain ⟨x_60, e_61, hF⟩ := prf_some hF
                          refine gx_ti e_61 ?_
                          refine lv_aload_n hx hb dX13_readLaws_136 rfl (lv_at hl 0 rfl) ?_
                          refine mg_45 hC hH dX13_readLaws_137 ?_
                          obtain ⟨x_62, e_63, hF⟩ := prf_some hF
                          refine gx_ti e_63 ?_
                          refine lv_aload_n hx hb dX13_readLaws_140 rfl (lv_at hl 0 rfl) ?_
                          refine mg_44 hC hH dX13_readLaws_141 ?_
                          obtain ⟨x_64, e_65, hF⟩ := prf_some hF
                          refine gx_ti e_65 ?_
                          refine lv_isub hx hb dX13_readLaws_144 ?_
                          obtain ⟨u_67, g_66, e_68, hF⟩ := pwd_some hF
                          refine ms_33 hC hH e_68 g_66 dX13_readLaws_145 (fun H locs hH => ?_)
                          refine lv_iconst (v := 0) hx hb dX13_readLaws_146 (by decide) ?_
                          refine lv_istore_n (lv' := [(1, .int 0), (0, .ref (Q 72))]) hx hb dX13_readLaws_147 rfl hl (by decide) rfl (fun ls hl => ?_)
                          have hL148 : ∀ (K148_192 : Int32 → PG (Option Int32)), (∀ (v1 : Int32) (u : GS) (H : Heap) (locs : List Loc) (ls : Array Slot), lv_has ls 2 [(0, .ref (Q 72)), (1, .int v1)] → mH G Q u.1 s H locs → K148_192 v1 u = some ((none, u1)) → W p l e (headSpec (Cond.code yX13_readLaws cX13_readLaws 2 none :: wM) { frames := 405, cells := 0, slots := 0, locals := 4900 }).room s m [.ref (Q 72)].toArray below meth c H locs 0 0 (MQT below (mQt G Q u1.1 s.heap.size) [.ref (Q 72)].toArray s 0 0 (mA Q s.heap.size)) (F0 m 192 ls [])) → ∀ (n148 : Nat) (v1 : Int32) (u : GS) (H : Heap) (locs : List Loc) (ls : Array Slot), lv_has ls 2 [(0, .ref (Q 72)), (1, .int v1)] → mH G Q u.1 s H locs → lp_readLaws_148 n148 v1 K148_192 u = some ((none, u1)) → W p l e (headSpec (Cond.code yX13_readLaws cX13_readLaws 2 none :: wM) { frames := 405, cells := 0, slots := 0, locals := 4900 }).room s m [.ref (Q 72)].toArray below meth c H locs 0 0 (MQT below (mQt G Q u1.1 s.heap.size) [.ref (Q 72)].toArray s 0 0 (mA Q s.heap.size)) (F0 m 148 ls []) := by
                            intro K148_192 hK148_192 n148
                            induction n148 with
                            | zero => intro v1 u H locs ls hl hH hF; cases hF
                            | succ n148 ih148 =>
                              intro v1 u H locs ls hl hH hF
                              unfold lp_readLaws_148 at hF
                              refine lv_iload_n hx hb dX13_readLaws_148 rfl (lv_at hl 1 rfl) ?_
                              refine lv_aload_n hx hb dX13_readLaws_149 rfl (lv_at hl 0 rfl) ?_
                              refine mg_33 hC hH dX13_readLaws_150 ?_
                              refine lv_aload_n hx hb dX13_readLaws_153 rfl (lv_at hl 0 rfl) ?_
                              refine mg_29 hC hH dX13_readLaws_154 ?_
                              obtain ⟨x_69, e_70, hF⟩ := prf_some hF
                              refine gx_ti e_70 ?_
                              obtain ⟨x_71, g_72, e_73, hF⟩ := prd_some hF
                              refine ml_33 hC hH g_72 dX13_readLaws_157 ?_
                              refine gx_ti e_73 ?_
                              refine lv_icmp_ge (tgt := 192) hx hb dX13_readLaws_158 (by decide) (fun c_74 => ?_) (fun c_74 => ?_)
                              · rw [if_pos c_74] at hF
                                exact hK148_192 v1 u _ _ _ (lv_sub hl [0, 1] rfl) hH hF
                              · rw [if_neg c_74] at hF
                                refine lv_aload_n hx hb dX13_readLaws_161 rfl (lv_at hl 0 rfl) ?_
                                refine mg_32 hC hH dX13_readLaws_162 ?_
                                refine lv_bipush (v := 10) hx hb dX13_readLaws_165 (by decide) ?_
                                refine lv_aload_n hx hb dX13_readLaws_167 rfl (lv_at hl 0 rfl) ?_
                                refine mg_29 hC hH dX13_readLaws_168 ?_
                                obtain ⟨x_75, e_76, hF⟩ := prf_some hF
                                refine gx_ti e_76 ?_
                                refine lv_imul hx hb dX13_readLaws_171 ?_
                                refine lv_iload_n hx hb dX13_readLaws_172 rfl (lv_at hl 1 rfl) ?_
                                refine lv_iadd hx hb dX13_readLaws_173 ?_
                                refine lv_aload_n hx hb dX13_readLaws_174 rfl (lv_at hl 0 rfl) ?_
                                refine mg_41 hC hH dX13_readLaws_175 ?_
                                refine lv_aload_n hx hb dX13_readLaws_178 rfl (lv_at hl 0 rfl) ?_
                                refine mg_44 hC hH dX13_readLaws_179 ?_
                                obtain ⟨x_77, e_78, hF⟩ := prf_some hF
                                refine gx_ti e_78 ?_
                                refine lv_iload_n hx hb dX13_readLaws_182 rfl (lv_at hl 1 rfl) ?_
                                refine lv_iadd hx hb dX13_readLaws_183 ?_
                                obtain ⟨x_79, g_80, e_81, hF⟩ := psr_some hF
                                refine ml_src hC hH g_80 dX13_readLaws_184 ?_
                                refine gx_ti e_81 ?_
                                obtain ⟨u_83, g_82, e_84, hF⟩ := pwd_some hF
                                refine ms_32 hC hH e_84 g_82 dX13_readLaws_185 (fun H locs hH => ?_)
                                obtain ⟨x_85, e_86, hF⟩ := pli_some hF
                                refine lv_iinc (v := x_85) (lv' := [(1, .int x_85), (0, .ref (Q 72))]) hx hb dX13_readLaws_186 hl (k := 1) rfl e_86 (by decide) rfl (fun ls hl => ?_)
                                refine lv_goto (tgt := 148) hx hb dX13_readLaws_189 (by decide) ?_
                                exact ih148 x_85 u_83 _ _ _ (lv_sub hl [1, 0] rfl) hH hF
                          refine hL148 _ (fun v1 u H locs ls hl hH hF => ?_) fuel 0 u_67 _ _ _ (lv_sub hl [1, 0] rfl) hH hF
                          refine lv_aload_n hx hb dX13_readLaws_192 rfl (lv_at hl 0 rfl) ?_
                          refine lv_dup hx hb dX13_readLaws_193 rfl ?_
                          refine mg_29 hC hH dX13_readLaws_194 ?_
                          obtain ⟨x_87, e_88, hF⟩ := prf_some hF
                          refine gx_ti e_88 ?_
                          refine lv_iconst (v := 1) hx hb dX13_readLaws_197 (by decide) ?_
                          refine lv_iadd hx hb dX13_readLaws_198 ?_
                          obtain ⟨u_89, e_90, hF⟩ := pwf_some hF
                          refine mp_29 hC hH e_90 dX13_readLaws_199 (fun H locs hH => ?_)
                          refine lv_aload_n hx hb dX13_readLaws_202 rfl (lv_at hl 0 rfl) ?_
                          obtain ⟨r_91, u_92, h_93, hF⟩ := pcl_some hF
                          refine mcV_v (As := []) (rest := []) hC hH (m_scan l G Z Q u_89 u_92 r_91  _ h_93) kwX13_scan kVX13_scan ⟨Nat.le_of_ble_eq_true rfl, Nat.le_of_ble_eq_true rfl⟩ rfl hl.1 rfl (Nat.le_of_ble_eq_true rfl) dX13_readLaws_203 (fun H locs hH => ?_)
                          refine lv_aload_n hx hb dX13_readLaws_206 rfl (lv_at hl 0 rfl) ?_
                          refine th_ldcw (tx := sTx 14) hx hb hC.2.2.2.1 (hC.2.2.2.2.2.2.2.2.1 14 (by decide)) dX13_readLaws_207 ?_
                          obtain ⟨r_94, u_95, h_96, hF⟩ := pcl_some hF
                          cases r_94 with
                          | none =>
                            have hF := pot_none hF
                            exact mt_pass hH (mt_run (As := [.ref (Z.1 14)]) (rest := []) hC hH (t_need l G Z Q u_92 u_95 14 _ h_96 (by decide)) kwX13_need kVX13_need ⟨Nat.le_of_ble_eq_true rfl, Nat.le_of_ble_eq_true rfl⟩ rfl hl.1 rfl (Nat.le_of_ble_eq_true rfl) dX13_readLaws_210) hno hlocks (prt_eqT hF)
                          | some r_97 =>
                            have hF := pot_some hF
                            refine mcV_v (As := [.ref (Z.1 14)]) (rest := []) hC hH (m_need l G Z Q u_92 u_95 r_97 14 _ h_96 (by decide)) kwX13_need kVX13_need ⟨Nat.le_of_ble_eq_true rfl, Nat.le_of_ble_eq_true rfl⟩ rfl hl.1 rfl (Nat.le_of_ble_eq_true rfl) dX13_readLaws_210 (fun H locs hH => ?_)
                            refine lv_goto (tgt := 73) hx hb dX13_readLaws_213 (by decide) ?_
                            exact ih73  u_95 _ _ _ (lv_sub hl [0] rfl) hH hF
                        · rw [if_neg c_59] at hF
                          refine lv_aload_n hx hb dX13_readLaws_118 rfl (lv_at hl 0 rfl) ?_
                          refine lv_iconst (v := 2) hx hb dX13_readLaws_119 (by decide) ?_
                          refine lv_aload_n hx hb dX13_readLaws_120 rfl (lv_at hl 0 rfl) ?_
                          refine mg_44 hC hH dX13_readLaws_121 ?_
                          obtain ⟨x_98, e_99, hF⟩ := prf_some hF
                          refine gx_ti e_99 ?_
                          obtain ⟨r_100, u_101, h_102, hF⟩ := pcl_some hF
                          refine mcV_r (As := [.int 2, .int x_98]) (rest := []) hC hH (m_wrong l G Z Q u_57 u_101 r_100 2 x_98 _ h_102) kwX13_wrong kVX13_wrong ⟨Nat.le_of_ble_eq_true rfl, Nat.le_of_ble_eq_true rfl⟩ rfl hl.1 rfl (Nat.le_of_ble_eq_true rfl) dX13_readLaws_124 (fun H locs hH => ?_)
                          exact mt_throw hC hH hno (prt_eqT hF) dX13_readLaws_127 hlocks
                    · rw [if_pos c_48] at hF
                      refine lv_aload_n hx hb dX13_readLaws_92 rfl (lv_at hl 0 rfl) ?_
                      refine lv_iconst (v := 3) hx hb dX13_readLaws_93 (by decide) ?_
                      refine lv_aload_n hx hb dX13_readLaws_94 rfl (lv_at hl 0 rfl) ?_
                      refine mg_44 hC hH dX13_readLaws_95 ?_
                      obtain ⟨x_103, e_104, hF⟩ := prf_some hF
                      refine gx_ti e_104 ?_
                      obtain ⟨r_105, u_106, h_107, hF⟩ := pcl_some hF
                      refine mcV_r (As := [.int 3, .int x_103]) (rest := []) hC hH (m_wrong l G Z Q u_43 u_106 r_105 3 x_103 _ h_107) kwX13_wrong kVX13_wrong ⟨Nat.le_of_ble_eq_true rfl, Nat.le_of_ble_eq_true rfl⟩ rfl hl.1 rfl (Nat.le_of_ble_eq_true rfl) dX13_readLaws_98 (fun H locs hH => ?_)
                      exact mt_throw hC hH hno (prt_eqT hF) dX13_readLaws_101 hlocks
              refine hL73 _ (fun  u H locs ls hl hH hF => ?_) fuel  u_39 _ _ _ (lv_sub hl [0] rfl) hH hF
              refine lv_aload_n hx hb dX13_readLaws_216 rfl (lv_at hl 0 rfl) ?_
              refine mg_34 hC hH dX13_readLaws_217 ?_
              refine lv_iconst (v := 0) hx hb dX13_readLaws_220 (by decide) ?_
              refine lv_iconst (v := 0) hx hb dX13_readLaws_221 (by decide) ?_
              obtain ⟨u_109, g_108, e_110, hF⟩ := pwd_some hF
              refine ms_34 hC hH e_110 g_108 dX13_readLaws_222 (fun H locs hH => ?_)
              have hL223 : ∀ (K223_336 : PG (Option Int32)), (∀ (u : GS) (H : Heap) (locs : List Loc) (ls : Array Slot), lv_has ls 2 [(0, .ref (Q 72))] → mH G Q u.1 s H locs → K223_336  u = some ((none, u1)) → W p l e (headSpec (Cond.code yX13_readLaws cX13_readLaws 2 none :: wM) { frames := 405, cells := 0, slots := 0, locals := 4900 }).room s m [.ref (Q 72)].toArray below meth c H locs 0 0 (MQT below (mQt G Q u1.1 s.heap.size) [.ref (Q 72)].toArray s 0 0 (mA Q s.heap.size)) (F0 m 336 ls [])) → ∀ (n223 : Nat) (u : GS) (H : Heap) (locs : List Loc) (ls : Array Slot), lv_has ls 2 [(0, .ref (Q 72))] → mH G Q u.1 s H locs → lp_readLaws_223 n223  K223_336 u = some ((none, u1)) → W p l e (headSpec (Cond.code yX13_readLaws cX13_readLaws 2 none :: wM) { frames := 405, cells := 0, slots := 0, locals := 4900 }).room s m [.ref (Q 72)].toArray below meth c H locs 0 0 (MQT below (mQt G Q u1.1 s.heap.size) [.ref (Q 72)].toArray s 0 0 (mA Q s.heap.size)) (F0 m 223 ls []) := by
                intro K223_336 hK223_336 n223
                induction n223 with
                | zero => intro  u H locs ls hl hH hF; cases hF
                | succ n223 ih223 =>
                  intro  u H locs ls hl hH hF
                  unfold lp_readLaws_223 at hF
                  refine lv_aload_n hx hb dX13_readLaws_223 rfl (lv_at hl 0 rfl) ?_
                  refine th_ldcw (tx := sTx 4) hx hb hC.2.2.2.1 (hC.2.2.2.2.2.2.2.2.1 4 (by decide)) dX13_readLaws_224 ?_
                  obtain ⟨r_111, u_112, h_113, hF⟩ := pcl_some hF
                  refine mcV_i (As := [.ref (Z.1 4)]) (rest := []) hC hH (m_is l G Z Q u u_112 r_111 4 _ h_113 (by decide)) kwX13_is kVX13_is ⟨Nat.le_of_ble_eq_true rfl, Nat.le_of_ble_eq_true rfl⟩ rfl hl.1 rfl (Nat.le_of_ble_eq_true rfl) dX13_readLaws_227 (fun H locs hH => ?_)
                  refine lv_if_eq (tgt := 336) hx hb dX13_readLaws_230 (by decide) (fun c_114 => ?_) (fun c_114 => ?_)
                  · rw [if_pos c_114] at hF
                    exact hK223_336  u_112 _ _ _ (lv_sub hl [0] rfl) hH hF
                  · rw [if_neg c_114] at hF
                    refine lv_aload_n hx hb dX13_readLaws_233 rfl (lv_at hl 0 rfl) ?_
                    refine mg_30 hC hH dX13_readLaws_234 ?_
                    obtain ⟨x_115, e_116, hF⟩ := prf_some hF
                    refine gx_ti e_116 ?_
                    refine lv_bipush (v := 20) hx hb dX13_readLaws_237 (by decide) ?_
                    refine lv_icmp_ne (tgt := 252) hx hb dX13_readLaws_239 (by decide) (fun c_117 => ?_) (fun c_117 => ?_)
                    · rw [if_neg c_117] at hF
                      refine lv_aload_n hx hb dX13_readLaws_252 rfl (lv_at hl 0 rfl) ?_
                      obtain ⟨r_118, u_119, h_120, hF⟩ := pcl_some hF
                      refine mcV_v (As := []) (rest := []) hC hH (m_scan l G Z Q u_112 u_119 r_118  _ h_120) kwX13_scan kVX13_scan ⟨Nat.le_of_ble_eq_true rfl, Nat.le_of_ble_eq_true rfl⟩ rfl hl.1 rfl (Nat.le_of_ble_eq_true rfl) dX13_readLaws_253 (fun H locs hH => ?_)
                      refine lv_aload_n hx hb dX13_readLaws_256 rfl (lv_at hl 0 rfl) ?_
                      refine mg_35 hC hH dX13_readLaws_257 ?_
                      refine lv_aload_n hx hb dX13_readLaws_260 rfl (lv_at hl 0 rfl) ?_
                      refine mg_30 hC hH dX13_readLaws_261 ?_
                      obtain ⟨x_121, e_122, hF⟩ := prf_some hF
                      refine gx_ti e_122 ?_
                      refine lv_iconst (v := 1) hx hb dX13_readLaws_264 (by decide) ?_
                      obtain ⟨u_124, g_123, e_125, hF⟩ := pwd_some hF
                      refine ms_35 hC hH e_125 g_123 dX13_readLaws_265 (fun H locs hH => ?_)
                      refine lv_aload_n hx hb dX13_readLaws_266 rfl (lv_at hl 0 rfl) ?_
                      refine mg_46 hC hH dX13_readLaws_267 ?_
                      obtain ⟨x_126, e_127, hF⟩ := prf_some hF
                      refine gx_ti e_127 ?_
                      refine lv_iconst (v := 2) hx hb dX13_readLaws_270 (by decide) ?_
                      refine lv_icmp_ne (tgt := 287) hx hb dX13_readLaws_271 (by decide) (fun c_128 => ?_) (fun c_128 => ?_)
                      · rw [if_neg c_128] at hF
                        refine lv_aload_n hx hb dX13_readLaws_287 rfl (lv_at hl 0 rfl) ?_
                        refine th_ldcw (tx := sTx 5) hx hb hC.2.2.2.1 (hC.2.2.2.2.2.2.2.2.1 5 (by decide)) dX13_readLaws_288 ?_
                        obtain ⟨r_129, u_130, h_131, hF⟩ := pcl_some hF
                        cases r_129 with
                        | none =>
                          have hF := pot_none hF
                          exact mt_pass hH (mt_run (As := [.ref (Z.1 5)]) (rest := []) hC hH (t_need l G Z Q u_124 u_130 5 _ h_131 (by decide)) kwX13_need kVX13_need ⟨Nat.le_of_ble_eq_true rfl, Nat.le_of_ble_eq_true rfl⟩ rfl hl.1 rfl (Nat.le_of_ble_eq_true rfl) dX13_readLaws_291) hno hlocks (prt_eqT hF)
                        | some r_132 =>
                          have hF := pot_some hF
                          refine mcV_v (As := [.ref (Z.1 5)]) (rest := []) hC hH (m_need l G Z Q u_124 u_130 r_132 5 _ h_131 (by decide)) kwX13_need kVX13_need ⟨Nat.le_of_ble_eq_true rfl, Nat.le_of_ble_eq_true rfl⟩ rfl hl.1 rfl (Nat.le_of_ble_eq_true rfl) dX13_readLaws_291 (fun H locs hH => ?_)
                          refine lv_aload_n hx hb dX13_readLaws_294 rfl (lv_at hl 0 rfl) ?_
                          refine lv_iconst (v := 0) hx hb dX13_readLaws_295 (by decide) ?_
                          obtain ⟨u_133, e_134, hF⟩ := pwf_some hF
                          refine mp_48 hC hH e_134 dX13_readLaws_296 (fun H locs hH => ?_)
                          refine lv_aload_n hx hb dX13_readLaws_299 rfl (lv_at hl 0 rfl) ?_
                          obtain ⟨r_135, u_136, h_137, hF⟩ := pcl_some hF
                          cases r_135 with
                          | none =>
                            have hF := pot_none hF
                            exact mt_pass hH (mt_run (As := []) (rest := []) hC hH (t_readOr l G Z Q u_133 u_136  _ h_137) kwX13_readOr kVX13_readOr ⟨Nat.le_of_ble_eq_true rfl, Nat.le_of_ble_eq_true rfl⟩ rfl hl.1 rfl (Nat.le_of_ble_eq_true rfl) dX13_readLaws_300) hno hlocks (prt_eqT hF)
                          | some r_138 =>
                            have hF := pot_some hF
                            refine mcV_v (As := []) (rest := []) hC hH (m_readOr l G Z Q u_133 u_136 r_138  _ h_137) kwX13_readOr kVX13_readOr ⟨Nat.le_of_ble_eq_true rfl, Nat.le_of_ble_eq_true rfl⟩ rfl hl.1 rfl (Nat.le_of_ble_eq_true rfl) dX13_readLaws_300 (fun H locs hH => ?_)
                            refine lv_aload_n hx hb dX13_readLaws_303 rfl (lv_at hl 0 rfl) ?_
                            refine th_ldcw (tx := sTx 14) hx hb hC.2.2.2.1 (hC.2.2.2.2.2.2.2.2.1 14 (by decide)) dX13_readLaws_304 ?_
                            obtain ⟨r_139, u_140, h_141, hF⟩ := pcl_some hF
                            cases r_139 with
                            | none =>
                              have hF := pot_none hF
                              exact mt_pass hH (mt_run (As := [.ref (Z.1 14)]) (rest := []) hC hH (t_need l G Z Q u_136 u_140 14 _ h_141 (by decide)) kwX13_need kVX13_need ⟨Nat.le_of_ble_eq_true rfl, Nat.le_of_ble_eq_true rfl⟩ rfl hl.1 rfl (Nat.le_of_ble_eq_true rfl) dX13_readLaws_307) hno hlocks (prt_eqT hF)
                            | some r_142 =>
                              have hF := pot_some hF
                              refine mcV_v (As := [.ref (Z.1 14)]) (rest := []) hC hH (m_need l G Z Q u_136 u_140 r_142 14 _ h_141 (by decide)) kwX13_need kVX13_need ⟨Nat.le_of_ble_eq_true rfl, Nat.le_of_ble_eq_true rfl⟩ rfl hl.1 rfl (Nat.le_of_ble_eq_true rfl) dX13_readLaws_307 (fun H locs hH => ?_)
                              refine lv_aload_n hx hb dX13_readLaws_310 rfl (lv_at hl 0 rfl) ?_
                              refine lv_dup hx hb dX13_readLaws_311 rfl ?_
                              refine mg_30 hC hH dX13_readLaws_312 ?_
                              obtain ⟨x_143, e_144, hF⟩ := prf_some hF
                              refine gx_ti e_144 ?_
                              refine lv_iconst (v := 1) hx hb dX13_readLaws_315 (by decide) ?_
                              refine lv_iadd hx hb dX13_readLaws_316 ?_
                              obtain ⟨u_145, e_146, hF⟩ := pwf_some hF
                              refine mp_30 hC hH e_146 dX13_readLaws_317 (fun H locs hH => ?_)
                              refine lv_aload_n hx hb dX13_readLaws_320 rfl (lv_at hl 0 rfl) ?_
                              refine mg_34 hC hH dX13_readLaws_321 ?_
                              refine lv_aload_n hx hb dX13_readLaws_324 rfl (lv_at hl 0 rfl) ?_
                              refine mg_30 hC hH dX13_readLaws_325 ?_
                              obtain ⟨x_147, e_148, hF⟩ := prf_some hF
                              refine gx_ti e_148 ?_
                              refine lv_aload_n hx hb dX13_readLaws_328 rfl (lv_at hl 0 rfl) ?_
                              refine mg_31 hC hH dX13_readLaws_329 ?_
                              obtain ⟨x_149, e_150, hF⟩ := prf_some hF
                              refine gx_ti e_150 ?_
                              obtain ⟨u_152, g_151, e_153, hF⟩ := pwd_some hF
                              refine ms_34 hC hH e_153 g_151 dX13_readLaws_332 (fun H locs hH => ?_)
                              refine lv_goto (tgt := 223) hx hb dX13_readLaws_333 (by decide) ?_
                              exact ih223  u_152 _ _ _ (lv_sub hl [0] rfl) hH hF
                      · rw [if_pos c_128] at hF
                        refine lv_aload_n hx hb dX13_readLaws_274 rfl (lv_at hl 0 rfl) ?_
                        refine mg_35 hC hH dX13_readLaws_275 ?_
                        refine lv_aload_n hx hb dX13_readLaws_278 rfl (lv_at hl 0 rfl) ?_
                        refine mg_30 hC hH dX13_readLaws_279 ?_
                        obtain ⟨x_154, e_155, hF⟩ := prf_some hF
                        refine gx_ti e_155 ?_
                        refine lv_aload_n hx hb dX13_readLaws_282 rfl (lv_at hl 0 rfl) ?_
                        obtain ⟨r_156, u_157, h_158, hF⟩ := pcl_some hF
                        cases r_156 with
                        | none =>
                          have hF := pot_none hF
                          exact mt_pass hH (mt_run (As := []) (rest := [.int x_154, .ref (Q 35)]) hC hH (t_number l G Z Q u_124 u_157  _ h_158) kwX13_number kVX13_number ⟨Nat.le_of_ble_eq_true rfl, Nat.le_of_ble_eq_true rfl⟩ rfl hl.1 rfl (Nat.le_of_ble_eq_true rfl) dX13_readLaws_283) hno hlocks (prt_eqT hF)
                        | some r_159 =>
                          have hF := pot_some hF
                          refine mcV_i (As := []) (rest := [.int x_154, .ref (Q 35)]) hC hH (m_number l G Z Q u_124 u_157 r_159  _ h_158) kwX13_number kVX13_number ⟨Nat.le_of_ble_eq_true rfl, Nat.le_of_ble_eq_true rfl⟩ rfl hl.1 rfl (Nat.le_of_ble_eq_true rfl) dX13_readLaws_283 (fun H locs hH => ?_)
                          obtain ⟨u_161, g_160, e_162, hF⟩ := pwd_some hF
                          refine ms_35 hC hH e_162 g_160 dX13_readLaws_286 (fun H locs hH => ?_)
                          refine lv_aload_n hx hb dX13_readLaws_287 rfl (lv_at hl 0 rfl) ?_
                          refine th_ldcw (tx := sTx 5) hx hb hC.2.2.2.1 (hC.2.2.2.2.2.2.2.2.1 5 (by decide)) dX13_readLaws_288 ?_
                          obtain ⟨r_163, u_164, h_165, hF⟩ := pcl_some hF
                          cases r_163 with
                          | none =>
                            have hF := pot_none hF
                            exact mt_pass hH (mt_run (As := [.ref (Z.1 5)]) (rest := []) hC hH (t_need l G Z Q u_161 u_164 5 _ h_165 (by decide)) kwX13_need kVX13_need ⟨Nat.le_of_ble_eq_true rfl, Nat.le_of_ble_eq_true rfl⟩ rfl hl.1 rfl (Nat.le_of_ble_eq_true rfl) dX13_readLaws_291) hno hlocks (prt_eqT hF)
                          | some r_166 =>
                            have hF := pot_some hF
                            refine mcV_v (As := [.ref (Z.1 5)]) (rest := []) hC hH (m_need l G Z Q u_161 u_164 r_166 5 _ h_165 (by decide)) kwX13_need kVX13_need ⟨Nat.le_of_ble_eq_true rfl, Nat.le_of_ble_eq_true rfl⟩ rfl hl.1 rfl (Nat.le_of_ble_eq_true rfl) dX13_readLaws_291 (fun H locs hH => ?_)
                            refine lv_aload_n hx hb dX13_readLaws_294 rfl (lv_at hl 0 rfl) ?_
                            refine lv_iconst (v := 0) hx hb dX13_readLaws_295 (by decide) ?_
                            obtain ⟨u_167, e_168, hF⟩ := pwf_some hF
                            refine mp_48 hC hH e_168 dX13_readLaws_296 (fun H locs hH => ?_)
                            refine lv_aload_n hx hb dX13_readLaws_299 rfl (lv_at hl 0 rfl) ?_
                            obtain ⟨r_169, u_170, h_171, hF⟩ := pcl_some hF
                            cases r_169 with
                            | none =>
                              have hF := pot_none hF
                              exact mt_pass hH (mt_run (As := []) (rest := []) hC hH (t_readOr l G Z Q u_167 u_170  _ h_171) kwX13_readOr kVX13_readOr ⟨Nat.le_of_ble_eq_true rfl, Nat.le_of_ble_eq_true rfl⟩ rfl hl.1 rfl (Nat.le_of_ble_eq_true rfl) dX13_readLaws_300) hno hlocks (prt_eqT hF)
                            | some r_172 =>
                              have hF := pot_some hF
                              refine mcV_v (As := []) (rest := []) hC hH (m_readOr l G Z Q u_167 u_170 r_172  _ h_171) kwX13_readOr kVX13_readOr ⟨Nat.le_of_ble_eq_true rfl, Nat.le_of_ble_eq_true rfl⟩ rfl hl.1 rfl (Nat.le_of_ble_eq_true rfl) dX13_readLaws_300 (fun H locs hH => ?_)
                              refine lv_aload_n hx hb dX13_readLaws_303 rfl (lv_at hl 0 rfl) ?_
                              refine th_ldcw (tx := sTx 14) hx hb hC.2.2.2.1 (hC.2.2.2.2.2.2.2.2.1 14 (by decide)) dX13_readLaws_304 ?_
                              obtain ⟨r_173, u_174, h_175, hF⟩ := pcl_some hF
                              cases r_173 with
                              | none =>
                                have hF := pot_none hF
                                exact mt_pass hH (mt_run (As := [.ref (Z.1 14)]) (rest := []) hC hH (t_need l G Z Q u_170 u_174 14 _ h_175 (by decide)) kwX13_need kVX13_need ⟨Nat.le_of_ble_eq_true rfl, Nat.le_of_ble_eq_true rfl⟩ rfl hl.1 rfl (Nat.le_of_ble_eq_true rfl) dX13_readLaws_307) hno hlocks (prt_eqT hF)
                              | some r_176 =>
                                have hF := pot_some hF
                                refine mcV_v (As := [.ref (Z.1 14)]) (rest := []) hC hH (m_need l G Z Q u_170 u_174 r_176 14 _ h_175 (by decide)) kwX13_need kVX13_need ⟨Nat.le_of_ble_eq_true rfl, Nat.le_of_ble_eq_true rfl⟩ rfl hl.1 rfl (Nat.le_of_ble_eq_true rfl) dX13_readLaws_307 (fun H locs hH => ?_)
                                refine lv_aload_n hx hb dX13_readLaws_310 rfl (lv_at hl 0 rfl) ?_
                                refine lv_dup hx hb dX13_readLaws_311 rfl ?_
                                refine mg_30 hC hH dX13_readLaws_312 ?_
                                obtain ⟨x_177, e_178, hF⟩ := prf_some hF
                                refine gx_ti e_178 ?_
                                refine lv_iconst (v := 1) hx hb dX13_readLaws_315 (by decide) ?_
                                refine lv_iadd hx hb dX13_readLaws_316 ?_
                                obtain ⟨u_179, e_180, hF⟩ := pwf_some hF
                                refine mp_30 hC hH e_180 dX13_readLaws_317 (fun H locs hH => ?_)
                                refine lv_aload_n hx hb dX13_readLaws_320 rfl (lv_at hl 0 rfl) ?_
                                refine mg_34 hC hH dX13_readLaws_321 ?_
                                refine lv_aload_n hx hb dX13_readLaws_324 rfl (lv_at hl 0 rfl) ?_
                                refine mg_30 hC hH dX13_readLaws_325 ?_
                                obtain ⟨x_181, e_182, hF⟩ := prf_some hF
                                refine gx_ti e_182 ?_
                                refine lv_aload_n hx hb dX13_readLaws_328 rfl (lv_at hl 0 rfl) ?_
                                refine mg_31 hC hH dX13_readLaws_329 ?_
                                obtain ⟨x_183, e_184, hF⟩ := prf_some hF
                                refine gx_ti e_184 ?_
                                obtain ⟨u_186, g_185, e_187, hF⟩ := pwd_some hF
                                refine ms_34 hC hH e_187 g_185 dX13_readLaws_332 (fun H locs hH => ?_)
                                refine lv_goto (tgt := 223) hx hb dX13_readLaws_333 (by decide) ?_
                                exact ih223  u_186 _ _ _ (lv_sub hl [0] rfl) hH hF
                    · rw [if_pos c_117] at hF
                      refine lv_aload_n hx hb dX13_readLaws_242 rfl (lv_at hl 0 rfl) ?_
                      refine lv_iconst (v := 3) hx hb dX13_readLaws_243 (by decide) ?_
                      refine lv_aload_n hx hb dX13_readLaws_244 rfl (lv_at hl 0 rfl) ?_
                      refine mg_44 hC hH dX13_readLaws_245 ?_
                      obtain ⟨x_188, e_189, hF⟩ := prf_some hF
                      refine gx_ti e_189 ?_
                      obtain ⟨r_190, u_191, h_192, hF⟩ := pcl_some hF
                      refine mcV_r (As := [.int 3, .int x_188]) (rest := []) hC hH (m_wrong l G Z Q u_112 u_191 r_190 3 x_188 _ h_192) kwX13_wrong kVX13_wrong ⟨Nat.le_of_ble_eq_true rfl, Nat.le_of_ble_eq_true rfl⟩ rfl hl.1 rfl (Nat.le_of_ble_eq_true rfl) dX13_readLaws_248 (fun H locs hH => ?_)
                      exact mt_throw hC hH hno (prt_eqT hF) dX13_readLaws_251 hlocks
              refine hL223 _ (fun  u H locs ls hl hH hF => ?_) fuel  u_109 _ _ _ (lv_sub hl [0] rfl) hH hF
              refine lv_aload_n hx hb dX13_readLaws_336 rfl (lv_at hl 0 rfl) ?_
              refine mg_46 hC hH dX13_readLaws_337 ?_
              obtain ⟨x_193, e_194, hF⟩ := prf_some hF
              refine gx_ti e_194 ?_
              refine lv_if_eq (tgt := 353) hx hb dX13_readLaws_340 (by decide) (fun c_195 => ?_) (fun c_195 => ?_)
              · rw [if_pos c_195] at hF
                exact (prt_no2 hF).elim
              · rw [if_neg c_195] at hF
                refine lv_aload_n hx hb dX13_readLaws_343 rfl (lv_at hl 0 rfl) ?_
                refine lv_iconst (v := 1) hx hb dX13_readLaws_344 (by decide) ?_
                refine lv_aload_n hx hb dX13_readLaws_345 rfl (lv_at hl 0 rfl) ?_
                refine mg_44 hC hH dX13_readLaws_346 ?_
                obtain ⟨x_196, e_197, hF⟩ := prf_some hF
                refine gx_ti e_197 ?_
                obtain ⟨r_198, u_199, h_200, hF⟩ := pcl_some hF
                refine mcV_r (As := [.int 1, .int x_196]) (rest := []) hC hH (m_wrong l G Z Q u u_199 r_198 1 x_196 _ h_200) kwX13_wrong kVX13_wrong ⟨Nat.le_of_ble_eq_true rfl, Nat.le_of_ble_eq_true rfl⟩ rfl hl.1 rfl (Nat.le_of_ble_eq_true rfl) dX13_readLaws_349 (fun H locs hH => ?_)
                exact mt_throw hC hH hno (prt_eqT hF) dX13_readLaws_352 hlocks
def lp_takeLaws_2 : Nat → Int32 → Int32 → Int32 → (Int32 → Int32 → Int32 → PG (Int32)) → PG (Int32)
  | 0, _, _, _, _ => fun _ => none
  | n2 + 1, v1, v2, v3, K2_27 => (if v2 ≤ v3 then K2_27 v1 v2 v3 else prd 54 24000 (v1 + v3) (fun x_2 => pwd 56 3000 v3 (vp_nar .byte x_2) (pli (v3 + 1) (fun x_8 => lp_takeLaws_2 n2 v1 v2 x_8 K2_27))))
def f_takeLaws (a0 : Int32) (a1 : Int32) : PG (Int32) := lp_takeLaws_2 fuel a0 a1 0 (fun v1 v2 v3 => pwf 41 1 (pwf 43 v2 (puf 49 (fun x_14 => puf 50 (fun x_16 => pcl (f_readLaws) (fun r_18 => pot r_18 (pwf 30 0 (pwf 49 x_14 (pwf 50 x_16 (prf 30 (fun x_28 => prt x_28))))) (fun r_21 => pwf 49 x_14 (pwf 50 x_16 (prf 30 (fun x_34 => prt x_34))))))))))
set_option maxHeartbeats 4000000 in
set_option maxRecDepth 100000 in
theorem m_takeLaws (l : Launch) (G : gG) (Z : gM) (Q : Nat → Nat) (u u1 : GS) (r : Int32) (a0 : Int32) (a1 : Int32) (sz : Nat) (hF : f_takeLaws a0 a1 u = some (r, u1)) : Met l yX13_takeLaws (Cond.codeWith yX13_takeLaws cX13_takeLaws 6 (some .int) [(51, 55, 58, 105)] :: wM) { frames := 406, cells := 0, slots := 0, locals := 4921 } (va_Pc [.ref (Q 72), .int a0, .int a1] (mPM G Z Q u.1 sz)) (mQi G Q u1.1 r sz) 0 0 (mA Q sz) := by
  refine va_MetW (cc := cX13_takeLaws) (maxL := 6) (ret := (some .int)) (by decide) rfl ?_
  intro p e s m args below meth c s₁ B hml hv
  obtain ⟨rfl, rfl, hP, hB, hD, hE⟩ := hv
  have hr := B.returns
  have hlocks := B.notSynchronized
  have hts := atoms_spec (ws := Cond.codeWith yX13_takeLaws cX13_takeLaws 6 (some .int) [(51, 55, 58, 105)] :: wM) B.pre
  have hC : mX p c cX13_takeLaws 6 s m _ G Z Q := ⟨B.exec, B.bytes, hml, findClass_of_methodNamed B.named, fun w h => hts w (List.mem_cons_of_mem _ h), hB, hE⟩
  have hx := hC.1
  have hb := hC.2.1
  have hH : mH G Q u.1 s s.heap [] := ⟨hP, hD, va_S.rf⟩
  have hl := lv_entry ([.ref (Q 72), .int a0, .int a1]) (n := 6) (Nat.le_of_ble_eq_true rfl)
  rw [lg_entry_eq]
  generalize (lg_sl ([.ref (Q 72), .int a0, .int a1]) ++ List.replicate (6 - (lg_sl ([.ref (Q 72), .int a0, .int a1])).length) Slot.unset).toArray = ls at hl ⊢
  have hl : lv_has ls 6 [(0, .ref (Q 72)), (1, .int a0), (2, .int a1)] := hl
  obtain ⟨m9, meth9, c9, hn9, hm9, hc9, -, -, htab9, -⟩ := Cond.codeWith_spec (hts _ List.mem_cons_self)
  cases B.named.symm.trans hn9
  cases B.method.symm.trans hm9
  cases (Stand.of_body B).code.symm.trans hc9
  obtain ⟨x9, htab, ex9⟩ : ∃ x9 : ExceptionTableEntry, c.exceptionTable.toList = [x9] ∧ (x9.startPc, x9.endPc, x9.handlerPc, x9.catchType) = (51, 55, 58, 105) := by
    cases hz : c.exceptionTable.toList with
    | nil => rw [hz] at htab9; cases htab9
    | cons y ys =>
      rw [hz] at htab9
      cases ys with
      | nil => exact ⟨y, rfl, (List.cons.inj htab9).1⟩
      | cons z zs => exact absurd (List.cons.inj htab9).2 (by intro h; cases h)
  obtain ⟨x1, x2, x3, x4⟩ := x9
  cases ex9
  unfold f_takeLaws at hF
  refine lv_iconst (v := 0) hx hb dX13_takeLaws_0 (by decide) ?_
  refine lv_istore_n (lv' := [(3, .int 0), (0, .ref (Q 72)), (1, .int a0), (2, .int a1)]) hx hb dX13_takeLaws_1 rfl hl (by decide) rfl (fun ls hl => ?_)
  have hL2 : ∀ (K2_27 : Int32 → Int32 → Int32 → PG (Int32)), (∀ (v1 v2 v3 : Int32) (u : GS) (H : Heap) (locs : List Loc) (ls : Array Slot), lv_has ls 6 [(0, .ref (Q 72)), (1, .int v1), (2, .int v2), (3, .int v3)] → mH G Q u.1 s H locs → K2_27 v1 v2 v3 u = some ((r, u1)) → W p l e (headSpec (Cond.codeWith yX13_takeLaws cX13_takeLaws 6 (some .int) [(51, 55, 58, 105)] :: wM) { frames := 406, cells := 0, slots := 0, locals := 4921 }).room s m [.ref (Q 72), .int a0, .int a1].toArray below meth c H locs 0 0 (MQ below (mQi G Q u1.1 r s.heap.size) [.ref (Q 72), .int a0, .int a1].toArray s 0 0 (mA Q s.heap.size)) (F0 m 27 ls [])) → ∀ (n2 : Nat) (v1 v2 v3 : Int32) (u : GS) (H : Heap) (locs : List Loc) (ls : Array Slot), lv_has ls 6 [(0, .ref (Q 72)), (1, .int v1), (2, .int v2), (3, .int v3)] → mH G Q u.1 s H locs → lp_takeLaws_2 n2 v1 v2 v3 K2_27 u = some ((r, u1)) → W p l e (headSpec (Cond.codeWith yX13_takeLaws cX13_takeLaws 6 (some .int) [(51, 55, 58, 105)] :: wM) { frames := 406, cells := 0, slots := 0, locals := 4921 }).room s m [.ref (Q 72), .int a0, .int a1].toArray below meth c H locs 0 0 (MQ below (mQi G Q u1.1 r s.heap.size) [.ref (Q 72), .int a0, .int a1].toArray s 0 0 (mA Q s.heap.size)) (F0 m 2 ls []) := by
    intro K2_27 hK2_27 n2
    induction n2 with
    | zero => intro v1 v2 v3 u H locs ls hl hH hF; cases hF
    | succ n2 ih2 =>
      intro v1 v2 v3 u H locs ls hl hH hF
      unfold lp_takeLaws_2 at hF
      refine lv_iload_n hx hb dX13_takeLaws_2 rfl (lv_at hl 3 rfl) ?_
      refine lv_iload_n hx hb dX13_takeLaws_3 rfl (lv_at hl 2 rfl) ?_
      refine lv_icmp_ge (tgt := 27) hx hb dX13_takeLaws_4 (by decide) (fun c_1 => ?_) (fun c_1 => ?_)
      · rw [if_pos c_1] at hF
        exact hK2_27 v1 v2 v3 u _ _ _ (lv_sub hl [0, 1, 2, 3] rfl) hH hF
      · rw [if_neg c_1] at hF
        refine lv_aload_n hx hb dX13_takeLaws_7 rfl (lv_at hl 0 rfl) ?_
        refine mg_56 hC hH dX13_takeLaws_8 ?_
        refine lv_iload_n hx hb dX13_takeLaws_11 rfl (lv_at hl 3 rfl) ?_
        refine lv_aload_n hx hb dX13_takeLaws_12 rfl (lv_at hl 0 rfl) ?_
        refine mg_54 hC hH dX13_takeLaws_13 ?_
        refine lv_iload_n hx hb dX13_takeLaws_16 rfl (lv_at hl 1 rfl) ?_
        refine lv_iload_n hx hb dX13_takeLaws_17 rfl (lv_at hl 3 rfl) ?_
        refine lv_iadd hx hb dX13_takeLaws_18 ?_
        obtain ⟨x_2, g_3, e_4, hF⟩ := prd_some hF
        refine ml_54 hC hH g_3 dX13_takeLaws_19 ?_
        refine gx_ti e_4 ?_
        obtain ⟨u_6, g_5, e_7, hF⟩ := pwd_some hF
        refine ms_56 hC hH e_7 g_5 dX13_takeLaws_20 (fun H locs hH => ?_)
        obtain ⟨x_8, e_9, hF⟩ := pli_some hF
        refine lv_iinc (v := x_8) (lv' := [(3, .int x_8), (0, .ref (Q 72)), (1, .int v1), (2, .int v2)]) hx hb dX13_takeLaws_21 hl (k := 3) rfl e_9 (by decide) rfl (fun ls hl => ?_)
        refine lv_goto (tgt := 2) hx hb dX13_takeLaws_24 (by decide) ?_
        exact ih2 v1 v2 x_8 u_6 _ _ _ (lv_sub hl [1, 2, 3, 0] rfl) hH hF
  refine hL2 _ (fun v1 v2 v3 u H locs ls hl hH hF => ?_) fuel a0 a1 0 u _ _ _ (lv_sub hl [1, 2, 3, 0] rfl) hH hF
  refine lv_aload_n hx hb dX13_takeLaws_27 rfl (lv_at hl 0 rfl) ?_
  refine lv_aload_n hx hb dX13_takeLaws_28 rfl (lv_at hl 0 rfl) ?_
  refine mg_56 hC hH dX13_takeLaws_29 ?_
  obtain ⟨u_10, e_11, hF⟩ := pwf_some hF
  refine mp_41_1 hC hH e_11 dX13_takeLaws_32 (fun H locs hH => ?_)
  refine lv_aload_n hx hb dX13_takeLaws_35 rfl (lv_at hl 0 rfl) ?_
  refine lv_iload_n hx hb dX13_takeLaws_36 rfl (lv_at hl 2 rfl) ?_
  obtain ⟨u_12, e_13, hF⟩ := pwf_some hF
  refine mp_43 hC hH e_13 dX13_takeLaws_37 (fun H locs hH => ?_)
  refine lv_aload_n hx hb dX13_takeLaws_40 rfl (lv_at hl 0 rfl) ?_
  refine mg_49 hC hH dX13_takeLaws_41 ?_
  obtain ⟨x_14, e_15, hF⟩ := puf_some hF
  refine gx_ti e_15 ?_
  refine lv_istore_n (lv' := [(3, .int x_14), (0, .ref (Q 72)), (1, .int v1), (2, .int v2)]) hx hb dX13_takeLaws_44 rfl hl (by decide) rfl (fun ls hl => ?_)
  refine lv_aload_n hx hb dX13_takeLaws_45 rfl (lv_at hl 1 rfl) ?_
  refine mg_50 hC hH dX13_takeLaws_46 ?_
  obtain ⟨x_16, e_17, hF⟩ := puf_some hF
  refine gx_ti e_17 ?_
  refine lv_istore (lv' := [(4, .int x_16), (3, .int x_14), (0, .ref (Q 72)), (1, .int v1), (2, .int v2)]) hx hb dX13_takeLaws_49 hl (by decide) rfl (fun ls hl => ?_)
  refine lv_aload_n hx hb dX13_takeLaws_51 rfl (lv_at hl 2 rfl) ?_
  obtain ⟨r_18, u_19, h_20, hF⟩ := pcl_some hF
  cases r_18 with
  | none =>
    have hF := pot_none hF
    refine mt_catch (hpc := 58) hC hH (mt_run (As := []) (rest := []) hC hH (t_readLaws l G Z Q u_12 u_19  _ h_20) kwX13_readLaws kVX13_readLaws ⟨Nat.le_of_ble_eq_true rfl, Nat.le_of_ble_eq_true rfl⟩ rfl hl.1 rfl (Nat.le_of_ble_eq_true rfl) dX13_takeLaws_52) htab (by decide) (by decide) wma1 rfl (fun H locs hH => ?_)
    refine lv_astore (lv' := [(5, .ref (Q 39)), (4, .int x_16), (3, .int x_14), (0, .ref (Q 72)), (1, .int v1), (2, .int v2)]) hx hb dX13_takeLaws_58 hl (by decide) rfl (fun ls hl => ?_)
    refine lv_aload_n hx hb dX13_takeLaws_60 rfl (lv_at hl 3 rfl) ?_
    refine lv_iconst (v := 0) hx hb dX13_takeLaws_61 (by decide) ?_
    obtain ⟨u_22, e_23, hF⟩ := pwf_some hF
    refine mp_30 hC hH e_23 dX13_takeLaws_62 (fun H locs hH => ?_)
    refine lv_aload_n hx hb dX13_takeLaws_65 rfl (lv_at hl 3 rfl) ?_
    refine lv_iload_n hx hb dX13_takeLaws_66 rfl (lv_at hl 2 rfl) ?_
    obtain ⟨u_24, e_25, hF⟩ := pwf_some hF
    refine mp_49 hC hH e_25 dX13_takeLaws_67 (fun H locs hH => ?_)
    refine lv_aload_n hx hb dX13_takeLaws_70 rfl (lv_at hl 3 rfl) ?_
    refine lv_iload hx hb dX13_takeLaws_71 (lv_at hl 1 rfl) ?_
    obtain ⟨u_26, e_27, hF⟩ := pwf_some hF
    refine mp_50 hC hH e_27 dX13_takeLaws_73 (fun H locs hH => ?_)
    refine lv_aload_n hx hb dX13_takeLaws_76 rfl (lv_at hl 3 rfl) ?_
    refine mg_30 hC hH dX13_takeLaws_77 ?_
    obtain ⟨x_28, e_29, hF⟩ := prf_some hF
    refine gx_ti e_29 ?_
    have hF := prt_eq hF
    exact mr_i hC hH hr hF dX13_takeLaws_80 hlocks
  | some r_21 =>
    have hF := pot_some hF
    refine mcV_v (As := []) (rest := []) hC hH (m_readLaws l G Z Q u_12 u_19 r_21  _ h_20) kwX13_readLaws kVX13_readLaws ⟨Nat.le_of_ble_eq_true rfl, Nat.le_of_ble_eq_true rfl⟩ rfl hl.1 rfl (Nat.le_of_ble_eq_true rfl) dX13_takeLaws_52 (fun H locs hH => ?_)
    refine lv_goto (tgt := 65) hx hb dX13_takeLaws_55 (by decide) ?_
    refine lv_aload_n hx hb dX13_takeLaws_65 rfl (lv_at hl 2 rfl) ?_
    refine lv_iload_n hx hb dX13_takeLaws_66 rfl (lv_at hl 1 rfl) ?_
    obtain ⟨u_30, e_31, hF⟩ := pwf_some hF
    refine mp_49 hC hH e_31 dX13_takeLaws_67 (fun H locs hH => ?_)
    refine lv_aload_n hx hb dX13_takeLaws_70 rfl (lv_at hl 2 rfl) ?_
    refine lv_iload hx hb dX13_takeLaws_71 (lv_at hl 0 rfl) ?_
    obtain ⟨u_32, e_33, hF⟩ := pwf_some hF
    refine mp_50 hC hH e_33 dX13_takeLaws_73 (fun H locs hH => ?_)
    refine lv_aload_n hx hb dX13_takeLaws_76 rfl (lv_at hl 2 rfl) ?_
    refine mg_30 hC hH dX13_takeLaws_77 ?_
    obtain ⟨x_34, e_35, hF⟩ := prf_some hF
    refine gx_ti e_35 ?_
    have hF := prt_eq hF
    exact mr_i hC hH hr hF dX13_takeLaws_80 hlocks
def lp_lawsAgain_32 : Nat → Int32 → (Int32 → PG (Int32)) → PG (Int32)
  | 0, _, _ => fun _ => none
  | n32 + 1, v1, K32_82 => (if v1 < 0 then K32_82 v1 else pud 52 2000 (4 * v1) (fun x_16 => (if x_16 = 0 then pud 52 2000 ((4 * v1) + 1) (fun x_20 => pud 52 2000 ((4 * v1) + 2) (fun x_23 => pcl (f_takeLaws x_20 x_23) (fun r_26 => prt 0))) else pli (v1 + (-1)) (fun x_29 => lp_lawsAgain_32 n32 x_29 K32_82))))
def f_lawsAgain  : PG (Int32) := pwf 29 0 (pwf 30 0 (pwf 31 0 (pwf 27 0 (pwf 28 0 (puf 53 (fun x_11 => pli (x_11 - 1) (fun x_13 => lp_lawsAgain_32 fuel x_13 (fun v1 => prt 0))))))))
set_option maxHeartbeats 4000000 in
set_option maxRecDepth 100000 in
theorem m_lawsAgain (l : Launch) (G : gG) (Z : gM) (Q : Nat → Nat) (u u1 : GS) (r : Int32)  (sz : Nat) (hF : f_lawsAgain u = some (r, u1)) : Met l yX13_lawsAgain (Cond.code yX13_lawsAgain cX13_lawsAgain 3 none :: wM) { frames := 407, cells := 0, slots := 0, locals := 4946 } (va_Pc [.ref (Q 72)] (mPM G Z Q u.1 sz)) (mQv G Q u1.1 sz) 0 0 (mA Q sz) := by
  refine Met.ofW (cc := cX13_lawsAgain) (maxL := 3) (ret := none) (by decide) rfl ?_
  intro p e s m args below meth c s₁ B hml hv
  obtain ⟨rfl, rfl, hP, hB, hD, hE⟩ := hv
  have hr := B.returns
  have hlocks := B.notSynchronized
  have hts := atoms_spec (ws := Cond.code yX13_lawsAgain cX13_lawsAgain 3 none :: wM) B.pre
  have hC : mX p c cX13_lawsAgain 3 s m _ G Z Q := ⟨B.exec, B.bytes, hml, findClass_of_methodNamed B.named, fun w h => hts w (List.mem_cons_of_mem _ h), hB, hE⟩
  have hx := hC.1
  have hb := hC.2.1
  have hH : mH G Q u.1 s s.heap [] := ⟨hP, hD, va_S.rf⟩
  have hl := lv_entry ([.ref (Q 72)]) (n := 3) (Nat.le_of_ble_eq_true rfl)
  rw [lg_entry_eq]
  generalize (lg_sl ([.ref (Q 72)]) ++ List.replicate (3 - (lg_sl ([.ref (Q 72)])).length) Slot.unset).toArray = ls at hl ⊢
  have hl : lv_has ls 3 [(0, .ref (Q 72))] := hl
  unfold f_lawsAgain at hF
  refine lv_aload_n hx hb dX13_lawsAgain_0 rfl (lv_at hl 0 rfl) ?_
  refine lv_iconst (v := 0) hx hb dX13_lawsAgain_1 (by decide) ?_
  obtain ⟨u_1, e_2, hF⟩ := pwf_some hF
  refine mp_29 hC hH e_2 dX13_lawsAgain_2 (fun H locs hH => ?_)
  refine lv_aload_n hx hb dX13_lawsAgain_5 rfl (lv_at hl 0 rfl) ?_
  refine lv_iconst (v := 0) hx hb dX13_lawsAgain_6 (by decide) ?_
  obtain ⟨u_3, e_4, hF⟩ := pwf_some hF
  refine mp_30 hC hH e_4 dX13_lawsAgain_7 (fun H locs hH => ?_)
  refine lv_aload_n hx hb dX13_lawsAgain_10 rfl (lv_at hl 0 rfl) ?_
  refine lv_iconst (v := 0) hx hb dX13_lawsAgain_11 (by decide) ?_
  obtain ⟨u_5, e_6, hF⟩ := pwf_some hF
  refine mp_31 hC hH e_6 dX13_lawsAgain_12 (fun H locs hH => ?_)
  refine lv_aload_n hx hb dX13_lawsAgain_15 rfl (lv_at hl 0 rfl) ?_
  refine lv_iconst (v := 0) hx hb dX13_lawsAgain_16 (by decide) ?_
  obtain ⟨u_7, e_8, hF⟩ := pwf_some hF
  refine mp_27 hC hH e_8 dX13_lawsAgain_17 (fun H locs hH => ?_)
  refine lv_aload_n hx hb dX13_lawsAgain_20 rfl (lv_at hl 0 rfl) ?_
  refine lv_iconst (v := 0) hx hb dX13_lawsAgain_21 (by decide) ?_
  obtain ⟨u_9, e_10, hF⟩ := pwf_some hF
  refine mp_28 hC hH e_10 dX13_lawsAgain_22 (fun H locs hH => ?_)
  refine lv_aload_n hx hb dX13_lawsAgain_25 rfl (lv_at hl 0 rfl) ?_
  refine mg_53 hC hH dX13_lawsAgain_26 ?_
  obtain ⟨x_11, e_12, hF⟩ := puf_some hF
  refine gx_ti e_12 ?_
  refine lv_iconst (v := 1) hx hb dX13_lawsAgain_29 (by decide) ?_
  refine lv_isub hx hb dX13_lawsAgain_30 ?_
  obtain ⟨x_13, e_14, hF⟩ := pli_some hF
  refine gx_ti e_14 ?_
  refine lv_istore_n (lv' := [(1, .int x_13), (0, .ref (Q 72))]) hx hb dX13_lawsAgain_31 rfl hl (by decide) rfl (fun ls hl => ?_)
  have hL32 : ∀ (K32_82 : Int32 → PG (Int32)), (∀ (v1 : Int32) (u : GS) (H : Heap) (locs : List Loc) (ls : Array Slot), lv_has ls 3 [(0, .ref (Q 72)), (1, .int v1)] → mH G Q u.1 s H locs → K32_82 v1 u = some ((r, u1)) → W p l e (headSpec (Cond.code yX13_lawsAgain cX13_lawsAgain 3 none :: wM) { frames := 407, cells := 0, slots := 0, locals := 4946 }).room s m [.ref (Q 72)].toArray below meth c H locs 0 0 (MQ below (mQv G Q u1.1 s.heap.size) [.ref (Q 72)].toArray s 0 0 (mA Q s.heap.size)) (F0 m 82 ls [])) → ∀ (n32 : Nat) (v1 : Int32) (u : GS) (H : Heap) (locs : List Loc) (ls : Array Slot), lv_has ls 3 [(0, .ref (Q 72)), (1, .int v1)] → mH G Q u.1 s H locs → lp_lawsAgain_32 n32 v1 K32_82 u = some ((r, u1)) → W p l e (headSpec (Cond.code yX13_lawsAgain cX13_lawsAgain 3 none :: wM) { frames := 407, cells := 0, slots := 0, locals := 4946 }).room s m [.ref (Q 72)].toArray below meth c H locs 0 0 (MQ below (mQv G Q u1.1 s.heap.size) [.ref (Q 72)].toArray s 0 0 (mA Q s.heap.size)) (F0 m 32 ls []) := by
    intro K32_82 hK32_82 n32
    induction n32 with
    | zero => intro v1 u H locs ls hl hH hF; cases hF
    | succ n32 ih32 =>
      intro v1 u H locs ls hl hH hF
      unfold lp_lawsAgain_32 at hF
      refine lv_iload_n hx hb dX13_lawsAgain_32 rfl (lv_at hl 1 rfl) ?_
      refine lv_if_lt (tgt := 82) hx hb dX13_lawsAgain_33 (by decide) (fun c_15 => ?_) (fun c_15 => ?_)
      · rw [if_pos c_15] at hF
        exact hK32_82 v1 u _ _ _ (lv_sub hl [0, 1] rfl) hH hF
      · rw [if_neg c_15] at hF
        refine lv_aload_n hx hb dX13_lawsAgain_36 rfl (lv_at hl 0 rfl) ?_
        refine mg_52 hC hH dX13_lawsAgain_37 ?_
        refine lv_iconst (v := 4) hx hb dX13_lawsAgain_40 (by decide) ?_
        refine lv_iload_n hx hb dX13_lawsAgain_41 rfl (lv_at hl 1 rfl) ?_
        refine lv_imul hx hb dX13_lawsAgain_42 ?_
        obtain ⟨x_16, g_17, e_18, hF⟩ := pud_some hF
        refine ml_52 hC hH g_17 dX13_lawsAgain_43 ?_
        refine gx_ti e_18 ?_
        refine lv_if_eq (tgt := 50) hx hb dX13_lawsAgain_44 (by decide) (fun c_19 => ?_) (fun c_19 => ?_)
        · rw [if_pos c_19] at hF
          refine lv_aload_n hx hb dX13_lawsAgain_50 rfl (lv_at hl 0 rfl) ?_
          refine lv_aload_n hx hb dX13_lawsAgain_51 rfl (lv_at hl 0 rfl) ?_
          refine mg_52 hC hH dX13_lawsAgain_52 ?_
          refine lv_iconst (v := 4) hx hb dX13_lawsAgain_55 (by decide) ?_
          refine lv_iload_n hx hb dX13_lawsAgain_56 rfl (lv_at hl 1 rfl) ?_
          refine lv_imul hx hb dX13_lawsAgain_57 ?_
          refine lv_iconst (v := 1) hx hb dX13_lawsAgain_58 (by decide) ?_
          refine lv_iadd hx hb dX13_lawsAgain_59 ?_
          obtain ⟨x_20, g_21, e_22, hF⟩ := pud_some hF
          refine ml_52 hC hH g_21 dX13_lawsAgain_60 ?_
          refine gx_ti e_22 ?_
          refine lv_aload_n hx hb dX13_lawsAgain_61 rfl (lv_at hl 0 rfl) ?_
          refine mg_52 hC hH dX13_lawsAgain_62 ?_
          refine lv_iconst (v := 4) hx hb dX13_lawsAgain_65 (by decide) ?_
          refine lv_iload_n hx hb dX13_lawsAgain_66 rfl (lv_at hl 1 rfl) ?_
          refine lv_imul hx hb dX13_lawsAgain_67 ?_
          refine lv_iconst (v := 2) hx hb dX13_lawsAgain_68 (by decide) ?_
          refine lv_iadd hx hb dX13_lawsAgain_69 ?_
          obtain ⟨x_23, g_24, e_25, hF⟩ := pud_some hF
          refine ml_52 hC hH g_24 dX13_lawsAgain_70 ?_
          refine gx_ti e_25 ?_
          obtain ⟨r_26, u_27, h_28, hF⟩ := pcl_some hF
          refine mcW_i (As := [.int x_20, .int x_23]) (rest := []) hC hH (m_takeLaws l G Z Q u u_27 r_26 x_20 x_23 _ h_28) kwX13_takeLaws kVX13_takeLaws ⟨Nat.le_of_ble_eq_true rfl, Nat.le_of_ble_eq_true rfl⟩ rfl hl.1 rfl (Nat.le_of_ble_eq_true rfl) dX13_lawsAgain_71 (fun H locs hH => ?_)
          refine lv_istore_n (lv' := [(2, .int r_26), (0, .ref (Q 72)), (1, .int v1)]) hx hb dX13_lawsAgain_74 rfl hl (by decide) rfl (fun ls hl => ?_)
          have hF := prt_eq hF
          exact mr_v hC hH hr hF dX13_lawsAgain_75 hlocks
        · rw [if_neg c_19] at hF
          refine lv_goto (tgt := 76) hx hb dX13_lawsAgain_47 (by decide) ?_
          obtain ⟨x_29, e_30, hF⟩ := pli_some hF
          refine lv_iinc (v := x_29) (lv' := [(1, .int x_29), (0, .ref (Q 72))]) hx hb dX13_lawsAgain_76 hl (k := 1) rfl e_30 (by decide) rfl (fun ls hl => ?_)
          refine lv_goto (tgt := 32) hx hb dX13_lawsAgain_79 (by decide) ?_
          exact ih32 x_29 u _ _ _ (lv_sub hl [1, 0] rfl) hH hF
  refine hL32 _ (fun v1 u H locs ls hl hH hF => ?_) fuel x_13 u_9 _ _ _ (lv_sub hl [1, 0] rfl) hH hF
  have hF := prt_eq hF
  exact mr_v hC hH hr hF dX13_lawsAgain_82 hlocks

