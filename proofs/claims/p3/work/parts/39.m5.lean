def lp_readLaws_148 : Nat → Int32 → MS → (Int32 → MS → Option (Option Int32 × MS)) → Option (Option Int32 × MS)
  | 0, _, _, _ => none
  | n148 + 1, v1, u, K148_192 => og (gi (u.1 29) 8) ((if (ra u 33 (u.1 29)) ≤ v1 then K148_192 v1 u else og (gi ((u.1 44) + v1) 3000) (og (gi ((10 * (u.1 29)) + v1) 80) (lu (wa u 32 ((10 * (u.1 29)) + v1) (vp_nar .byte (rz u ((u.1 44) + v1)))) (fun u_65 => li (v1 + 1) (fun x_67 => lp_readLaws_148 n148 x_67 u_65 K148_192))))))
def lp_readLaws_73 : Nat → MS → (MS → Option (Option Int32 × MS)) → Option (Option Int32 × MS)
  | 0, _, _ => none
  | n73 + 1, u, K73_216 => ob (f_is 3 u) (fun r_42 u_43 => (if r_42 = 0 then K73_216  u_43 else (if (u_43.1 29) = 8 then ob (f_wrong 3 (u_43.1 44) u_43) (fun r_81 u_82 => some (none, u_82)) else ob (f_scan u_43) (fun r_47 u_48 => ob (f_name u_48) (fun r_50 u_51 => ot r_50 (some (none, u_51)) (fun r_53 => ob (f_findSign u_51) (fun r_54 u_55 => (if r_54 = (-1) then og (gi (u_55.1 29) 8) (lu (wa u_55 33 (u_55.1 29) ((u_55.1 45) - (u_55.1 44))) (fun u_59 => lp_readLaws_148 fuel 0 u_59 (fun v1 u => lu (si u 29 ((u.1 29) + 1)) (fun u_69 => ob (f_scan u_69) (fun r_71 u_72 => ob (f_need 14 u_72) (fun r_74 u_75 => ot r_74 (some (none, u_75)) (fun r_77 => lp_readLaws_73 n73  u_75 K73_216))))))) else ob (f_wrong 2 (u_55.1 44) u_55) (fun r_78 u_79 => some (none, u_79))))))))))
def lp_readLaws_223 : Nat → MS → (MS → Option (Option Int32 × MS)) → Option (Option Int32 × MS)
  | 0, _, _ => none
  | n223 + 1, u, K223_336 => ob (f_is 4 u) (fun r_87 u_88 => (if r_87 = 0 then K223_336  u_88 else (if (u_88.1 30) = 20 then ob (f_wrong 3 (u_88.1 44) u_88) (fun r_144 u_145 => some (none, u_145)) else ob (f_scan u_88) (fun r_92 u_93 => og (gi (u_93.1 30) 20) (lu (wa u_93 35 (u_93.1 30) 1) (fun u_96 => (if (u_96.1 46) = 2 then ob (f_number u_96) (fun r_118 u_119 => ot r_118 (some (none, u_119)) (fun r_121 => og (gi (u_96.1 30) 20) (lu (wa u_119 35 (u_96.1 30) r_121) (fun u_123 => ob (f_need 5 u_123) (fun r_125 u_126 => ot r_125 (some (none, u_126)) (fun r_128 => lu (si u_126 48 0) (fun u_129 => ob (fP 32 0 0 0 0 0 u_129) (fun r_131 u_132 => ot r_131 (some (none, u_132)) (fun r_134 => ob (f_need 14 u_132) (fun r_135 u_136 => ot r_135 (some (none, u_136)) (fun r_138 => lu (si u_136 30 ((u_136.1 30) + 1)) (fun u_139 => og (gi (u_139.1 30) 21) (lu (wa u_139 34 (u_139.1 30) (u_139.1 31)) (fun u_142 => lp_readLaws_223 n223  u_142 K223_336)))))))))))))) else ob (f_need 5 u_96) (fun r_99 u_100 => ot r_99 (some (none, u_100)) (fun r_102 => lu (si u_100 48 0) (fun u_103 => ob (fP 32 0 0 0 0 0 u_103) (fun r_105 u_106 => ot r_105 (some (none, u_106)) (fun r_108 => ob (f_need 14 u_106) (fun r_109 u_110 => ot r_109 (some (none, u_110)) (fun r_112 => lu (si u_110 30 ((u_110.1 30) + 1)) (fun u_113 => og (gi (u_113.1 30) 21) (lu (wa u_113 34 (u_113.1 30) (u_113.1 31)) (fun u_116 => lp_readLaws_223 n223  u_116 K223_336)))))))))))))))))
def f_readLaws  (u : MS) : Option (Option Int32 × MS) := lu (si u 29 0) (fun u_1 => lu (si u_1 30 0) (fun u_3 => lu (si u_3 31 0) (fun u_5 => lu (si u_5 51 0) (fun u_7 => lu (si u_7 45 0) (fun u_9 => ob (f_scan u_9) (fun r_11 u_12 => ob (f_need 1 u_12) (fun r_14 u_15 => ot r_14 (some (none, u_15)) (fun r_17 => ob (f_number u_15) (fun r_18 u_19 => ot r_18 (some (none, u_19)) (fun r_21 => lu (si u_19 27 r_21) (fun u_22 => ob (f_need 14 u_22) (fun r_24 u_25 => ot r_24 (some (none, u_25)) (fun r_27 => ob (f_need 2 u_25) (fun r_28 u_29 => ot r_28 (some (none, u_29)) (fun r_31 => ob (f_number u_29) (fun r_32 u_33 => ot r_32 (some (none, u_33)) (fun r_35 => lu (si u_33 28 r_35) (fun u_36 => ob (f_need 14 u_36) (fun r_38 u_39 => ot r_38 (some (none, u_39)) (fun r_41 => lp_readLaws_73 fuel  u_39 (fun  u => og (gi 0 21) (lu (wa u 34 0 0) (fun u_85 => lp_readLaws_223 fuel  u_85 (fun  u => (if (u.1 46) = 0 then some (some 0, u) else ob (f_wrong 1 (u.1 44) u) (fun r_148 u_149 => some (none, u_149)))))))))))))))))))))))))))
set_option maxHeartbeats 4000000 in
set_option maxRecDepth 100000 in
theorem m_readLaws (l : Launch) (G : gG) (Z : gM) (Q : Nat → Nat) (u u1 : MS) (r : Int32)  (sz : Nat) (hF : f_readLaws u = some (some r, u1)) : Met l yX13_readLaws (Cond.code yX13_readLaws cX13_readLaws 2 none :: wM) { frames := 405, cells := 0, slots := 0, locals := 4900 } (va_Pc [.ref (Q 72)] (mPM G Z Q u sz)) (mQv G Q u1 sz) 0 0 (mA Q sz) := by
  refine Met.ofW (cc := cX13_readLaws) (maxL := 2) (ret := none) (by decide) rfl ?_
  intro p e s m args below meth c s₁ B hml hv
  obtain ⟨rfl, rfl, hP, hB, hD, hE⟩ := hv
  have hr := B.returns
  have hlocks := B.notSynchronized
  have hts := atoms_spec (ws := Cond.code yX13_readLaws cX13_readLaws 2 none :: wM) B.pre
  have hC : mX p c cX13_readLaws 2 s m _ G Z Q := ⟨B.exec, B.bytes, hml, findClass_of_methodNamed B.named, fun w h => hts w (List.mem_cons_of_mem _ h), hB, hE⟩
  have hx := hC.1
  have hb := hC.2.1
  have hH : mH G Q u s s.heap [] := ⟨hP, hD, va_S.rf⟩
  have hl := lv_entry ([.ref (Q 72)]) (n := 2) (Nat.le_of_ble_eq_true rfl)
  rw [lg_entry_eq]
  generalize (lg_sl ([.ref (Q 72)]) ++ List.replicate (2 - (lg_sl ([.ref (Q 72)])).length) Slot.unset).toArray = ls at hl ⊢
  have hl : lv_has ls 2 [(0, .ref (Q 72))] := hl
  unfold f_readLaws at hF
  refine lv_aload_n hx hb dX13_readLaws_0 rfl (lv_at hl 0 rfl) ?_
  refine lv_iconst (v := 0) hx hb dX13_readLaws_1 (by decide) ?_
  obtain ⟨u_1, e_2, hF⟩ := lu_some hF
  refine mp_29 hC hH e_2 dX13_readLaws_2 (fun H locs hH => ?_)
  refine lv_aload_n hx hb dX13_readLaws_5 rfl (lv_at hl 0 rfl) ?_
  refine lv_iconst (v := 0) hx hb dX13_readLaws_6 (by decide) ?_
  obtain ⟨u_3, e_4, hF⟩ := lu_some hF
  refine mp_30 hC hH e_4 dX13_readLaws_7 (fun H locs hH => ?_)
  refine lv_aload_n hx hb dX13_readLaws_10 rfl (lv_at hl 0 rfl) ?_
  refine lv_iconst (v := 0) hx hb dX13_readLaws_11 (by decide) ?_
  obtain ⟨u_5, e_6, hF⟩ := lu_some hF
  refine mp_31 hC hH e_6 dX13_readLaws_12 (fun H locs hH => ?_)
  refine lv_aload_n hx hb dX13_readLaws_15 rfl (lv_at hl 0 rfl) ?_
  refine lv_iconst (v := 0) hx hb dX13_readLaws_16 (by decide) ?_
  obtain ⟨u_7, e_8, hF⟩ := lu_some hF
  refine mp_51 hC hH e_8 dX13_readLaws_17 (fun H locs hH => ?_)
  refine lv_aload_n hx hb dX13_readLaws_20 rfl (lv_at hl 0 rfl) ?_
  refine lv_iconst (v := 0) hx hb dX13_readLaws_21 (by decide) ?_
  obtain ⟨u_9, e_10, hF⟩ := lu_some hF
  refine mp_45 hC hH e_10 dX13_readLaws_22 (fun H locs hH => ?_)
  refine lv_aload_n hx hb dX13_readLaws_25 rfl (lv_at hl 0 rfl) ?_
  obtain ⟨r_11, u_12, h_13, hF⟩ := ob_some hF
  refine mcV_v (As := []) (rest := []) hC hH (m_scan l G Z Q u_9 u_12 r_11  _ h_13) kwX13_scan kVX13_scan ⟨Nat.le_of_ble_eq_true rfl, Nat.le_of_ble_eq_true rfl⟩ rfl hl.1 rfl (Nat.le_of_ble_eq_true rfl) dX13_readLaws_26 (fun H locs hH => ?_)
  refine lv_aload_n hx hb dX13_readLaws_29 rfl (lv_at hl 0 rfl) ?_
  refine th_ldcw (tx := sTx 1) hx hb hC.2.2.2.1 (hC.2.2.2.2.2.2.2.2.1 1 (by decide)) dX13_readLaws_30 ?_
  obtain ⟨r_14, u_15, h_16, hF⟩ := ob_some hF
  cases r_14 with
  | none =>
    have hF := ot_none hF
    cases hF
  | some r_17 =>
    have hF := ot_some hF
    refine mcV_v (As := [.ref (Z.1 1)]) (rest := []) hC hH (m_need l G Z Q u_12 u_15 r_17 1 _ h_16 (by decide)) kwX13_need kVX13_need ⟨Nat.le_of_ble_eq_true rfl, Nat.le_of_ble_eq_true rfl⟩ rfl hl.1 rfl (Nat.le_of_ble_eq_true rfl) dX13_readLaws_33 (fun H locs hH => ?_)
    refine lv_aload_n hx hb dX13_readLaws_36 rfl (lv_at hl 0 rfl) ?_
    refine lv_aload_n hx hb dX13_readLaws_37 rfl (lv_at hl 0 rfl) ?_
    obtain ⟨r_18, u_19, h_20, hF⟩ := ob_some hF
    cases r_18 with
    | none =>
      have hF := ot_none hF
      cases hF
    | some r_21 =>
      have hF := ot_some hF
      refine mcV_i (As := []) (rest := [.ref (Q 72)]) hC hH (m_number l G Z Q u_15 u_19 r_21  _ h_20) kwX13_number kVX13_number ⟨Nat.le_of_ble_eq_true rfl, Nat.le_of_ble_eq_true rfl⟩ rfl hl.1 rfl (Nat.le_of_ble_eq_true rfl) dX13_readLaws_38 (fun H locs hH => ?_)
      obtain ⟨u_22, e_23, hF⟩ := lu_some hF
      refine mp_27 hC hH e_23 dX13_readLaws_41 (fun H locs hH => ?_)
      refine lv_aload_n hx hb dX13_readLaws_44 rfl (lv_at hl 0 rfl) ?_
      refine th_ldcw (tx := sTx 14) hx hb hC.2.2.2.1 (hC.2.2.2.2.2.2.2.2.1 14 (by decide)) dX13_readLaws_45 ?_
      obtain ⟨r_24, u_25, h_26, hF⟩ := ob_some hF
      cases r_24 with
      | none =>
        have hF := ot_none hF
        cases hF
      | some r_27 =>
        have hF := ot_some hF
        refine mcV_v (As := [.ref (Z.1 14)]) (rest := []) hC hH (m_need l G Z Q u_22 u_25 r_27 14 _ h_26 (by decide)) kwX13_need kVX13_need ⟨Nat.le_of_ble_eq_true rfl, Nat.le_of_ble_eq_true rfl⟩ rfl hl.1 rfl (Nat.le_of_ble_eq_true rfl) dX13_readLaws_48 (fun H locs hH => ?_)
        refine lv_aload_n hx hb dX13_readLaws_51 rfl (lv_at hl 0 rfl) ?_
        refine th_ldcw (tx := sTx 2) hx hb hC.2.2.2.1 (hC.2.2.2.2.2.2.2.2.1 2 (by decide)) dX13_readLaws_52 ?_
        obtain ⟨r_28, u_29, h_30, hF⟩ := ob_some hF
        cases r_28 with
        | none =>
          have hF := ot_none hF
          cases hF
        | some r_31 =>
          have hF := ot_some hF
          refine mcV_v (As := [.ref (Z.1 2)]) (rest := []) hC hH (m_need l G Z Q u_25 u_29 r_31 2 _ h_30 (by decide)) kwX13_need kVX13_need ⟨Nat.le_of_ble_eq_true rfl, Nat.le_of_ble_eq_true rfl⟩ rfl hl.1 rfl (Nat.le_of_ble_eq_true rfl) dX13_readLaws_55 (fun H locs hH => ?_)
          refine lv_aload_n hx hb dX13_readLaws_58 rfl (lv_at hl 0 rfl) ?_
          refine lv_aload_n hx hb dX13_readLaws_59 rfl (lv_at hl 0 rfl) ?_
          obtain ⟨r_32, u_33, h_34, hF⟩ := ob_some hF
          cases r_32 with
          | none =>
            have hF := ot_none hF
            cases hF
          | some r_35 =>
            have hF := ot_some hF
            refine mcV_i (As := []) (rest := [.ref (Q 72)]) hC hH (m_number l G Z Q u_29 u_33 r_35  _ h_34) kwX13_number kVX13_number ⟨Nat.le_of_ble_eq_true rfl, Nat.le_of_ble_eq_true rfl⟩ rfl hl.1 rfl (Nat.le_of_ble_eq_true rfl) dX13_readLaws_60 (fun H locs hH => ?_)
            obtain ⟨u_36, e_37, hF⟩ := lu_some hF
            refine mp_28 hC hH e_37 dX13_readLaws_63 (fun H locs hH => ?_)
            refine lv_aload_n hx hb dX13_readLaws_66 rfl (lv_at hl 0 rfl) ?_
            refine th_ldcw (tx := sTx 14) hx hb hC.2.2.2.1 (hC.2.2.2.2.2.2.2.2.1 14 (by decide)) dX13_readLaws_67 ?_
            obtain ⟨r_38, u_39, h_40, hF⟩ := ob_some hF
            cases r_38 with
            | none =>
              have hF := ot_none hF
              cases hF
            | some r_41 =>
              have hF := ot_some hF
              refine mcV_v (As := [.ref (Z.1 14)]) (rest := []) hC hH (m_need l G Z Q u_36 u_39 r_41 14 _ h_40 (by decide)) kwX13_need kVX13_need ⟨Nat.le_of_ble_eq_true rfl, Nat.le_of_ble_eq_true rfl⟩ rfl hl.1 rfl (Nat.le_of_ble_eq_true rfl) dX13_readLaws_70 (fun H locs hH => ?_)
              have hL73 : ∀ (K73_216 : MS → Option (Option Int32 × MS)), (∀ (u : MS) (H : Heap) (locs : List Loc) (ls : Array Slot), lv_has ls 2 [(0, .ref (Q 72))] → mH G Q u s H locs → K73_216  u = some ((some r, u1)) → W p l e (headSpec (Cond.code yX13_readLaws cX13_readLaws 2 none :: wM) { frames := 405, cells := 0, slots := 0, locals := 4900 }).room s m [.ref (Q 72)].toArray below meth c H locs 0 0 (MQ below (mQv G Q u1 s.heap.size) [.ref (Q 72)].toArray s 0 0 (mA Q s.heap.size)) (F0 m 216 ls [])) → ∀ (n73 : Nat) (u : MS) (H : Heap) (locs : List Loc) (ls : Array Slot), lv_has ls 2 [(0, .ref (Q 72))] → mH G Q u s H locs → lp_readLaws_73 n73  u K73_216 = some ((some r, u1)) → W p l e (headSpec (Cond.code yX13_readLaws cX13_readLaws 2 none :: wM) { frames := 405, cells := 0, slots := 0, locals := 4900 }).room s m [.ref (Q 72)].toArray below meth c H locs 0 0 (MQ below (mQv G Q u1 s.heap.size) [.ref (Q 72)].toArray s 0 0 (mA Q s.heap.size)) (F0 m 73 ls []) := by
                intro K73_216 hK73_216 n73
                induction n73 with
                | zero => intro  u H locs ls hl hH hF; cases hF
                | succ n73 ih73 =>
                  intro  u H locs ls hl hH hF
                  unfold lp_readLaws_73 at hF
                  refine lv_aload_n hx hb dX13_readLaws_73 rfl (lv_at hl 0 rfl) ?_
                  refine th_ldcw (tx := sTx 3) hx hb hC.2.2.2.1 (hC.2.2.2.2.2.2.2.2.1 3 (by decide)) dX13_readLaws_74 ?_
                  obtain ⟨r_42, u_43, h_44, hF⟩ := ob_some hF
                  refine mcV_i (As := [.ref (Z.1 3)]) (rest := []) hC hH (m_is l G Z Q u u_43 r_42 3 _ h_44 (by decide)) kwX13_is kVX13_is ⟨Nat.le_of_ble_eq_true rfl, Nat.le_of_ble_eq_true rfl⟩ rfl hl.1 rfl (Nat.le_of_ble_eq_true rfl) dX13_readLaws_77 (fun H locs hH => ?_)
                  refine lv_if_eq (tgt := 216) hx hb dX13_readLaws_80 (by decide) (fun c_45 => ?_) (fun c_45 => ?_)
                  · rw [if_pos c_45] at hF
                    exact hK73_216  u_43 _ _ _ (lv_sub hl [0] rfl) hH hF
                  · rw [if_neg c_45] at hF
                    refine lv_aload_n hx hb dX13_readLaws_83 rfl (lv_at hl 0 rfl) ?_
                    refine mg_29 hC hH dX13_readLaws_84 ?_
                    refine lv_bipush (v := 8) hx hb dX13_readLaws_87 (by decide) ?_
                    refine lv_icmp_ne (tgt := 102) hx hb dX13_readLaws_89 (by decide) (fun c_46 => ?_) (fun c_46 => ?_)
                    · rw [if_neg c_46] at hF
                      refine lv_aload_n hx hb dX13_readLaws_102 rfl (lv_at hl 0 rfl) ?_
                      obtain ⟨r_47, u_48, h_49, hF⟩ := ob_some hF
                      refine mcV_v (As := []) (rest := []) hC hH (m_scan l G Z Q u_43 u_48 r_47  _ h_49) kwX13_scan kVX13_scan ⟨Nat.le_of_ble_eq_true rfl, Nat.le_of_ble_eq_true rfl⟩ rfl hl.1 rfl (Nat.le_of_ble_eq_true rfl) dX13_readLaws_103 (fun H locs hH => ?_)
                      refine lv_aload_n hx hb dX13_readLaws_106 rfl (lv_at hl 0 rfl) ?_
                      obtain ⟨r_50, u_51, h_52, hF⟩ := ob_some hF
                      cases r_50 with
                      | none =>
                        have hF := ot_none hF
                        cases hF
                      | some r_53 =>
                        have hF := ot_some hF
                        refine mcV_v (As := []) (rest := []) hC hH (m_name l G Z Q u_48 u_51 r_53  _ h_52) kwX13_name kVX13_name ⟨Nat.le_of_ble_eq_true rfl, Nat.le_of_ble_eq_true rfl⟩ rfl hl.1 rfl (Nat.le_of_ble_eq_true rfl) dX13_readLaws_107 (fun H locs hH => ?_)
                        refine lv_aload_n hx hb dX13_readLaws_110 rfl (lv_at hl 0 rfl) ?_
                        obtain ⟨r_54, u_55, h_56, hF⟩ := ob_some hF
                        refine mcV_i (As := []) (rest := []) hC hH (m_findSign l G Z Q u_51 u_55 r_54  _ h_56) kwX13_findSign kVX13_findSign ⟨Nat.le_of_ble_eq_true rfl, Nat.le_of_ble_eq_true rfl⟩ rfl hl.1 rfl (Nat.le_of_ble_eq_true rfl) dX13_readLaws_111 (fun H locs hH => ?_)
                        refine lv_iconst (v := (-1)) hx hb dX13_readLaws_114 (by decide) ?_
                        refine lv_icmp_eq (tgt := 128) hx hb dX13_readLaws_115 (by decide) (fun c_57 => ?_) (fun c_57 => ?_)
                        · rw [if_pos c_57] at hF
                          refine lv_aload_n hx hb dX13_readLaws_128 rfl (lv_at hl 0 rfl) ?_
                          refine mg_33 hC hH dX13_readLaws_129 ?_
                          refine lv_aload_n hx hb dX13_readLaws_132 rfl (lv_at hl 0 rfl) ?_
                          refine mg_29 hC hH dX13_readLaws_133 ?_
                          refine lv_aload_n hx hb dX13_readLaws_136 rfl (lv_at hl 0 rfl) ?_
                          refine mg_45 hC hH dX13_readLaws_137 ?_
                          refine lv_aload_n hx hb dX13_readLaws_140 rfl (lv_at hl 0 rfl) ?_
                          refine mg_44 hC hH dX13_readLaws_141 ?_
                          refine lv_isub hx hb dX13_readLaws_144 ?_
                          obtain ⟨g_58, hF⟩ := og_some hF
                          obtain ⟨u_59, e_60, hF⟩ := lu_some hF
                          refine ms_33 hC hH e_60 g_58 dX13_readLaws_145 (fun H locs hH => ?_)
                          refine lv_iconst (v := 0) hx hb dX13_readLaws_146 (by decide) ?_
                          refine lv_istore_n (lv' := [(1, .int 0), (0, .ref (Q 72))]) hx hb dX13_readLaws_147 rfl hl (by decide) rfl (fun ls hl => ?_)
                          have hL148 : ∀ (K148_192 : Int32 → MS → Option (Option Int32 × MS)), (∀ (v1 : Int32) (u : MS) (H : Heap) (locs : List Loc) (ls : Array Slot), lv_has ls 2 [(0, .ref (Q 72)), (1, .int v1)] → mH G Q u s H locs → K148_192 v1 u = some ((some r, u1)) → W p l e (headSpec (Cond.code yX13_readLaws cX13_readLaws 2 none :: wM) { frames := 405, cells := 0, slots := 0, locals := 4900 }).room s m [.ref (Q 72)].toArray below meth c H locs 0 0 (MQ below (mQv G Q u1 s.heap.size) [.ref (Q 72)].toArray s 0 0 (mA Q s.heap.size)) (F0 m 192 ls [])) → ∀ (n148 : Nat) (v1 : Int32) (u : MS) (H : Heap) (locs : List Loc) (ls : Array Slot), lv_has ls 2 [(0, .ref (Q 72)), (1, .int v1)] → mH G Q u s H locs → lp_readLaws_148 n148 v1 u K148_192 = some ((some r, u1)) → W p l e (headSpec (Cond.code yX13_readLaws cX13_readLaws 2 none :: wM) { frames := 405, cells := 0, slots := 0, locals := 4900 }).room s m [.ref (Q 72)].toArray below meth c H locs 0 0 (MQ below (mQv G Q u1 s.heap.size) [.ref (Q 72)].toArray s 0 0 (mA Q s.heap.size)) (F0 m 148 ls []) := by
                            intro K148_192 hK148_192 n148
                            induction n148 with
                            | zero => intro v1 u H locs ls hl hH hF; cases hF
                            | succ n148 ih148 =>
                              intro v1 u H locs ls hl hH hF
                              unfold lp_readLaws_148 at hF
                              refine lv_iload_n hx hb dX13_readLaws_148 rfl (lv_at hl 1 rfl) ?_
                              refine lv_aload_n hx hb dX13_readLaws_149 rfl (lv_at hl 0 rfl) ?_
                              refine mg_33 hC hH dX13_readLaws_150 ?_
                              refine lv_aload_n hx hb dX13_readLaws_153 rfl (lv_at hl 0 rfl) ?_
                              refine mg_29 hC hH dX13_readLaws_154 ?_
                              obtain ⟨g_61, hF⟩ := og_some hF
                              refine ml_33 hC hH g_61 dX13_readLaws_157 ?_
                              refine lv_icmp_ge (tgt := 192) hx hb dX13_readLaws_158 (by decide) (fun c_62 => ?_) (fun c_62 => ?_)
                              · rw [if_pos c_62] at hF
                                exact hK148_192 v1 u _ _ _ (lv_sub hl [0, 1] rfl) hH hF
                              · rw [if_neg c_62] at hF
                                refine lv_aload_n hx hb dX13_readLaws_161 rfl (lv_at hl 0 rfl) ?_
                                refine mg_32 hC hH dX13_readLaws_162 ?_
                                refine lv_bipush (v := 10) hx hb dX13_readLaws_165 (by decide) ?_
                                refine lv_aload_n hx hb dX13_readLaws_167 rfl (lv_at hl 0 rfl) ?_
                                refine mg_29 hC hH dX13_readLaws_168 ?_
                                refine lv_imul hx hb dX13_readLaws_171 ?_
                                refine lv_iload_n hx hb dX13_readLaws_172 rfl (lv_at hl 1 rfl) ?_
                                refine lv_iadd hx hb dX13_readLaws_173 ?_
                                refine lv_aload_n hx hb dX13_readLaws_174 rfl (lv_at hl 0 rfl) ?_
                                refine mg_41 hC hH dX13_readLaws_175 ?_
                                refine lv_aload_n hx hb dX13_readLaws_178 rfl (lv_at hl 0 rfl) ?_
                                refine mg_44 hC hH dX13_readLaws_179 ?_
                                refine lv_iload_n hx hb dX13_readLaws_182 rfl (lv_at hl 1 rfl) ?_
                                refine lv_iadd hx hb dX13_readLaws_183 ?_
                                obtain ⟨g_63, hF⟩ := og_some hF
                                refine ml_src hC hH g_63 dX13_readLaws_184 ?_
                                obtain ⟨g_64, hF⟩ := og_some hF
                                obtain ⟨u_65, e_66, hF⟩ := lu_some hF
                                refine ms_32 hC hH e_66 g_64 dX13_readLaws_185 (fun H locs hH => ?_)
                                obtain ⟨x_67, e_68, hF⟩ := li_some hF
                                refine lv_iinc (v := x_67) (lv' := [(1, .int x_67), (0, .ref (Q 72))]) hx hb dX13_readLaws_186 hl (k := 1) rfl e_68 (by decide) rfl (fun ls hl => ?_)
                                refine lv_goto (tgt := 148) hx hb dX13_readLaws_189 (by decide) ?_
                                exact ih148 x_67 u_65 _ _ _ (lv_sub hl [1, 0] rfl) hH hF
                          refine hL148 _ (fun v1 u H locs ls hl hH hF => ?_) fuel 0 u_59 _ _ _ (lv_sub hl [1, 0] rfl) hH hF
                          refine lv_aload_n hx hb dX13_readLaws_192 rfl (lv_at hl 0 rfl) ?_
                          refine lv_dup hx hb dX13_readLaws_193 rfl ?_
                          refine mg_29 hC hH dX13_readLaws_194 ?_
                          refine lv_iconst (v := 1) hx hb dX13_readLaws_197 (by decide) ?_
                          refine lv_iadd hx hb dX13_readLaws_198 ?_
                          obtain ⟨u_69, e_70, hF⟩ := lu_some hF
                          refine mp_29 hC hH e_70 dX13_readLaws_199 (fun H locs hH => ?_)
                          refine lv_aload_n hx hb dX13_readLaws_202 rfl (lv_at hl 0 rfl) ?_
                          obtain ⟨r_71, u_72, h_73, hF⟩ := ob_some hF
                          refine mcV_v (As := []) (rest := []) hC hH (m_scan l G Z Q u_69 u_72 r_71  _ h_73) kwX13_scan kVX13_scan ⟨Nat.le_of_ble_eq_true rfl, Nat.le_of_ble_eq_true rfl⟩ rfl hl.1 rfl (Nat.le_of_ble_eq_true rfl) dX13_readLaws_203 (fun H locs hH => ?_)
                          refine lv_aload_n hx hb dX13_readLaws_206 rfl (lv_at hl 0 rfl) ?_
                          refine th_ldcw (tx := sTx 14) hx hb hC.2.2.2.1 (hC.2.2.2.2.2.2.2.2.1 14 (by decide)) dX13_readLaws_207 ?_
                          obtain ⟨r_74, u_75, h_76, hF⟩ := ob_some hF
                          cases r_74 with
                          | none =>
                            have hF := ot_none hF
                            cases hF
                          | some r_77 =>
                            have hF := ot_some hF
                            refine mcV_v (As := [.ref (Z.1 14)]) (rest := []) hC hH (m_need l G Z Q u_72 u_75 r_77 14 _ h_76 (by decide)) kwX13_need kVX13_need ⟨Nat.le_of_ble_eq_true rfl, Nat.le_of_ble_eq_true rfl⟩ rfl hl.1 rfl (Nat.le_of_ble_eq_true rfl) dX13_readLaws_210 (fun H locs hH => ?_)
                            refine lv_goto (tgt := 73) hx hb dX13_readLaws_213 (by decide) ?_
                            exact ih73  u_75 _ _ _ (lv_sub hl [0] rfl) hH hF
                        · rw [if_neg c_57] at hF
                          refine lv_aload_n hx hb dX13_readLaws_118 rfl (lv_at hl 0 rfl) ?_
                          refine lv_iconst (v := 2) hx hb dX13_readLaws_119 (by decide) ?_
                          refine lv_aload_n hx hb dX13_readLaws_120 rfl (lv_at hl 0 rfl) ?_
                          refine mg_44 hC hH dX13_readLaws_121 ?_
                          obtain ⟨r_78, u_79, h_80, hF⟩ := ob_some hF
                          refine mcV_r (As := [.int 2, .int (u_55.1 44)]) (rest := []) hC hH (m_wrong l G Z Q u_55 u_79 r_78 2 (u_55.1 44) _ h_80) kwX13_wrong kVX13_wrong ⟨Nat.le_of_ble_eq_true rfl, Nat.le_of_ble_eq_true rfl⟩ rfl hl.1 rfl (Nat.le_of_ble_eq_true rfl) dX13_readLaws_124 (fun H locs hH => ?_)
                          cases hF
                    · rw [if_pos c_46] at hF
                      refine lv_aload_n hx hb dX13_readLaws_92 rfl (lv_at hl 0 rfl) ?_
                      refine lv_iconst (v := 3) hx hb dX13_readLaws_93 (by decide) ?_
                      refine lv_aload_n hx hb dX13_readLaws_94 rfl (lv_at hl 0 rfl) ?_
                      refine mg_44 hC hH dX13_readLaws_95 ?_
                      obtain ⟨r_81, u_82, h_83, hF⟩ := ob_some hF
                      refine mcV_r (As := [.int 3, .int (u_43.1 44)]) (rest := []) hC hH (m_wrong l G Z Q u_43 u_82 r_81 3 (u_43.1 44) _ h_83) kwX13_wrong kVX13_wrong ⟨Nat.le_of_ble_eq_true rfl, Nat.le_of_ble_eq_true rfl⟩ rfl hl.1 rfl (Nat.le_of_ble_eq_true rfl) dX13_readLaws_98 (fun H locs hH => ?_)
                      cases hF
              refine hL73 _ (fun  u H locs ls hl hH hF => ?_) fuel  u_39 _ _ _ (lv_sub hl [0] rfl) hH hF
              refine lv_aload_n hx hb dX13_readLaws_216 rfl (lv_at hl 0 rfl) ?_
              refine mg_34 hC hH dX13_readLaws_217 ?_
              refine lv_iconst (v := 0) hx hb dX13_readLaws_220 (by decide) ?_
              refine lv_iconst (v := 0) hx hb dX13_readLaws_221 (by decide) ?_
              obtain ⟨g_84, hF⟩ := og_some hF
              obtain ⟨u_85, e_86, hF⟩ := lu_some hF
              refine ms_34 hC hH e_86 g_84 dX13_readLaws_222 (fun H locs hH => ?_)
              have hL223 : ∀ (K223_336 : MS → Option (Option Int32 × MS)), (∀ (u : MS) (H : Heap) (locs : List Loc) (ls : Array Slot), lv_has ls 2 [(0, .ref (Q 72))] → mH G Q u s H locs → K223_336  u = some ((some r, u1)) → W p l e (headSpec (Cond.code yX13_readLaws cX13_readLaws 2 none :: wM) { frames := 405, cells := 0, slots := 0, locals := 4900 }).room s m [.ref (Q 72)].toArray below meth c H locs 0 0 (MQ below (mQv G Q u1 s.heap.size) [.ref (Q 72)].toArray s 0 0 (mA Q s.heap.size)) (F0 m 336 ls [])) → ∀ (n223 : Nat) (u : MS) (H : Heap) (locs : List Loc) (ls : Array Slot), lv_has ls 2 [(0, .ref (Q 72))] → mH G Q u s H locs → lp_readLaws_223 n223  u K223_336 = some ((some r, u1)) → W p l e (headSpec (Cond.code yX13_readLaws cX13_readLaws 2 none :: wM) { frames := 405, cells := 0, slots := 0, locals := 4900 }).room s m [.ref (Q 72)].toArray below meth c H locs 0 0 (MQ below (mQv G Q u1 s.heap.size) [.ref (Q 72)].toArray s 0 0 (mA Q s.heap.size)) (F0 m 223 ls []) := by
                intro K223_336 hK223_336 n223
                induction n223 with
                | zero => intro  u H locs ls hl hH hF; cases hF
                | succ n223 ih223 =>
                  intro  u H locs ls hl hH hF
                  unfold lp_readLaws_223 at hF
                  refine lv_aload_n hx hb dX13_readLaws_223 rfl (lv_at hl 0 rfl) ?_
                  refine th_ldcw (tx := sTx 4) hx hb hC.2.2.2.1 (hC.2.2.2.2.2.2.2.2.1 4 (by decide)) dX13_readLaws_224 ?_
                  obtain ⟨r_87, u_88, h_89, hF⟩ := ob_some hF
                  refine mcV_i (As := [.ref (Z.1 4)]) (rest := []) hC hH (m_is l G Z Q u u_88 r_87 4 _ h_89 (by decide)) kwX13_is kVX13_is ⟨Nat.le_of_ble_eq_true rfl, Nat.le_of_ble_eq_true rfl⟩ rfl hl.1 rfl (Nat.le_of_ble_eq_true rfl) dX13_readLaws_227 (fun H locs hH => ?_)
                  refine lv_if_eq (tgt := 336) hx hb dX13_readLaws_230 (by decide) (fun c_90 => ?_) (fun c_90 => ?_)
                  · rw [if_pos c_90] at hF
                    exact hK223_336  u_88 _ _ _ (lv_sub hl [0] rfl) hH hF
                  · rw [if_neg c_90] at hF
                    refine lv_aload_n hx hb dX13_readLaws_233 rfl (lv_at hl 0 rfl) ?_
                    refine mg_30 hC hH dX13_readLaws_234 ?_
                    refine lv_bipush (v := 20) hx hb dX13_readLaws_237 (by decide) ?_
                    refine lv_icmp_ne (tgt := 252) hx hb dX13_readLaws_239 (by decide) (fun c_91 => ?_) (fun c_91 => ?_)
                    · rw [if_neg c_91] at hF
                      refine lv_aload_n hx hb dX13_readLaws_252 rfl (lv_at hl 0 rfl) ?_
                      obtain ⟨r_92, u_93, h_94, hF⟩ := ob_some hF
                      refine mcV_v (As := []) (rest := []) hC hH (m_scan l G Z Q u_88 u_93 r_92  _ h_94) kwX13_scan kVX13_scan ⟨Nat.le_of_ble_eq_true rfl, Nat.le_of_ble_eq_true rfl⟩ rfl hl.1 rfl (Nat.le_of_ble_eq_true rfl) dX13_readLaws_253 (fun H locs hH => ?_)
                      refine lv_aload_n hx hb dX13_readLaws_256 rfl (lv_at hl 0 rfl) ?_
                      refine mg_35 hC hH dX13_readLaws_257 ?_
                      refine lv_aload_n hx hb dX13_readLaws_260 rfl (lv_at hl 0 rfl) ?_
                      refine mg_30 hC hH dX13_readLaws_261 ?_
                      refine lv_iconst (v := 1) hx hb dX13_readLaws_264 (by decide) ?_
                      obtain ⟨g_95, hF⟩ := og_some hF
                      obtain ⟨u_96, e_97, hF⟩ := lu_some hF
                      refine ms_35 hC hH e_97 g_95 dX13_readLaws_265 (fun H locs hH => ?_)
                      refine lv_aload_n hx hb dX13_readLaws_266 rfl (lv_at hl 0 rfl) ?_
                      refine mg_46 hC hH dX13_readLaws_267 ?_
                      refine lv_iconst (v := 2) hx hb dX13_readLaws_270 (by decide) ?_
                      refine lv_icmp_ne (tgt := 287) hx hb dX13_readLaws_271 (by decide) (fun c_98 => ?_) (fun c_98 => ?_)
                      · rw [if_neg c_98] at hF
                        refine lv_aload_n hx hb dX13_readLaws_287 rfl (lv_at hl 0 rfl) ?_
                        refine th_ldcw (tx := sTx 5) hx hb hC.2.2.2.1 (hC.2.2.2.2.2.2.2.2.1 5 (by decide)) dX13_readLaws_288 ?_
                        obtain ⟨r_99, u_100, h_101, hF⟩ := ob_some hF
                        cases r_99 with
                        | none =>
                          have hF := ot_none hF
                          cases hF
                        | some r_102 =>
                          have hF := ot_some hF
                          refine mcV_v (As := [.ref (Z.1 5)]) (rest := []) hC hH (m_need l G Z Q u_96 u_100 r_102 5 _ h_101 (by decide)) kwX13_need kVX13_need ⟨Nat.le_of_ble_eq_true rfl, Nat.le_of_ble_eq_true rfl⟩ rfl hl.1 rfl (Nat.le_of_ble_eq_true rfl) dX13_readLaws_291 (fun H locs hH => ?_)
                          refine lv_aload_n hx hb dX13_readLaws_294 rfl (lv_at hl 0 rfl) ?_
                          refine lv_iconst (v := 0) hx hb dX13_readLaws_295 (by decide) ?_
                          obtain ⟨u_103, e_104, hF⟩ := lu_some hF
                          refine mp_48 hC hH e_104 dX13_readLaws_296 (fun H locs hH => ?_)
                          refine lv_aload_n hx hb dX13_readLaws_299 rfl (lv_at hl 0 rfl) ?_
                          obtain ⟨r_105, u_106, h_107, hF⟩ := ob_some hF
                          cases r_105 with
                          | none =>
                            have hF := ot_none hF
                            cases hF
                          | some r_108 =>
                            have hF := ot_some hF
                            refine mcV_v (As := []) (rest := []) hC hH (m_readOr l G Z Q u_103 u_106 r_108  _ h_107) kwX13_readOr kVX13_readOr ⟨Nat.le_of_ble_eq_true rfl, Nat.le_of_ble_eq_true rfl⟩ rfl hl.1 rfl (Nat.le_of_ble_eq_true rfl) dX13_readLaws_300 (fun H locs hH => ?_)
                            refine lv_aload_n hx hb dX13_readLaws_303 rfl (lv_at hl 0 rfl) ?_
                            refine th_ldcw (tx := sTx 14) hx hb hC.2.2.2.1 (hC.2.2.2.2.2.2.2.2.1 14 (by decide)) dX13_readLaws_304 ?_
                            obtain ⟨r_109, u_110, h_111, hF⟩ := ob_some hF
                            cases r_109 with
                            | none =>
                              have hF := ot_none hF
                              cases hF
                            | some r_112 =>
                              have hF := ot_some hF
                              refine mcV_v (As := [.ref (Z.1 14)]) (rest := []) hC hH (m_need l G Z Q u_106 u_110 r_112 14 _ h_111 (by decide)) kwX13_need kVX13_need ⟨Nat.le_of_ble_eq_true rfl, Nat.le_of_ble_eq_true rfl⟩ rfl hl.1 rfl (Nat.le_of_ble_eq_true rfl) dX13_readLaws_307 (fun H locs hH => ?_)
                              refine lv_aload_n hx hb dX13_readLaws_310 rfl (lv_at hl 0 rfl) ?_
                              refine lv_dup hx hb dX13_readLaws_311 rfl ?_
                              refine mg_30 hC hH dX13_readLaws_312 ?_
                              refine lv_iconst (v := 1) hx hb dX13_readLaws_315 (by decide) ?_
                              refine lv_iadd hx hb dX13_readLaws_316 ?_
                              obtain ⟨u_113, e_114, hF⟩ := lu_some hF
                              refine mp_30 hC hH e_114 dX13_readLaws_317 (fun H locs hH => ?_)
                              refine lv_aload_n hx hb dX13_readLaws_320 rfl (lv_at hl 0 rfl) ?_
                              refine mg_34 hC hH dX13_readLaws_321 ?_
                              refine lv_aload_n hx hb dX13_readLaws_324 rfl (lv_at hl 0 rfl) ?_
                              refine mg_30 hC hH dX13_readLaws_325 ?_
                              refine lv_aload_n hx hb dX13_readLaws_328 rfl (lv_at hl 0 rfl) ?_
                              refine mg_31 hC hH dX13_readLaws_329 ?_
                              obtain ⟨g_115, hF⟩ := og_some hF
                              obtain ⟨u_116, e_117, hF⟩ := lu_some hF
                              refine ms_34 hC hH e_117 g_115 dX13_readLaws_332 (fun H locs hH => ?_)
                              refine lv_goto (tgt := 223) hx hb dX13_readLaws_333 (by decide) ?_
                              exact ih223  u_116 _ _ _ (lv_sub hl [0] rfl) hH hF
                      · rw [if_pos c_98] at hF
                        refine lv_aload_n hx hb dX13_readLaws_274 rfl (lv_at hl 0 rfl) ?_
                        refine mg_35 hC hH dX13_readLaws_275 ?_
                        refine lv_aload_n hx hb dX13_readLaws_278 rfl (lv_at hl 0 rfl) ?_
                        refine mg_30 hC hH dX13_readLaws_279 ?_
                        refine lv_aload_n hx hb dX13_readLaws_282 rfl (lv_at hl 0 rfl) ?_
                        obtain ⟨r_118, u_119, h_120, hF⟩ := ob_some hF
                        cases r_118 with
                        | none =>
                          have hF := ot_none hF
                          cases hF
                        | some r_121 =>
                          have hF := ot_some hF
                          refine mcV_i (As := []) (rest := [.int (u_96.1 30), .ref (Q 35)]) hC hH (m_number l G Z Q u_96 u_119 r_121  _ h_120) kwX13_number kVX13_number ⟨Nat.le_of_ble_eq_true rfl, Nat.le_of_ble_eq_true rfl⟩ rfl hl.1 rfl (Nat.le_of_ble_eq_true rfl) dX13_readLaws_283 (fun H locs hH => ?_)
                          obtain ⟨g_122, hF⟩ := og_some hF
                          obtain ⟨u_123, e_124, hF⟩ := lu_some hF
                          refine ms_35 hC hH e_124 g_122 dX13_readLaws_286 (fun H locs hH => ?_)
                          refine lv_aload_n hx hb dX13_readLaws_287 rfl (lv_at hl 0 rfl) ?_
                          refine th_ldcw (tx := sTx 5) hx hb hC.2.2.2.1 (hC.2.2.2.2.2.2.2.2.1 5 (by decide)) dX13_readLaws_288 ?_
                          obtain ⟨r_125, u_126, h_127, hF⟩ := ob_some hF
                          cases r_125 with
                          | none =>
                            have hF := ot_none hF
                            cases hF
                          | some r_128 =>
                            have hF := ot_some hF
                            refine mcV_v (As := [.ref (Z.1 5)]) (rest := []) hC hH (m_need l G Z Q u_123 u_126 r_128 5 _ h_127 (by decide)) kwX13_need kVX13_need ⟨Nat.le_of_ble_eq_true rfl, Nat.le_of_ble_eq_true rfl⟩ rfl hl.1 rfl (Nat.le_of_ble_eq_true rfl) dX13_readLaws_291 (fun H locs hH => ?_)
                            refine lv_aload_n hx hb dX13_readLaws_294 rfl (lv_at hl 0 rfl) ?_
                            refine lv_iconst (v := 0) hx hb dX13_readLaws_295 (by decide) ?_
                            obtain ⟨u_129, e_130, hF⟩ := lu_some hF
                            refine mp_48 hC hH e_130 dX13_readLaws_296 (fun H locs hH => ?_)
                            refine lv_aload_n hx hb dX13_readLaws_299 rfl (lv_at hl 0 rfl) ?_
                            obtain ⟨r_131, u_132, h_133, hF⟩ := ob_some hF
                            cases r_131 with
                            | none =>
                              have hF := ot_none hF
                              cases hF
                            | some r_134 =>
                              have hF := ot_some hF
                              refine mcV_v (As := []) (rest := []) hC hH (m_readOr l G Z Q u_129 u_132 r_134  _ h_133) kwX13_readOr kVX13_readOr ⟨Nat.le_of_ble_eq_true rfl, Nat.le_of_ble_eq_true rfl⟩ rfl hl.1 rfl (Nat.le_of_ble_eq_true rfl) dX13_readLaws_300 (fun H locs hH => ?_)
                              refine lv_aload_n hx hb dX13_readLaws_303 rfl (lv_at hl 0 rfl) ?_
                              refine th_ldcw (tx := sTx 14) hx hb hC.2.2.2.1 (hC.2.2.2.2.2.2.2.2.1 14 (by decide)) dX13_readLaws_304 ?_
                              obtain ⟨r_135, u_136, h_137, hF⟩ := ob_some hF
                              cases r_135 with
                              | none =>
                                have hF := ot_none hF
                                cases hF
                              | some r_138 =>
                                have hF := ot_some hF
                                refine mcV_v (As := [.ref (Z.1 14)]) (rest := []) hC hH (m_need l G Z Q u_132 u_136 r_138 14 _ h_137 (by decide)) kwX13_need kVX13_need ⟨Nat.le_of_ble_eq_true rfl, Nat.le_of_ble_eq_true rfl⟩ rfl hl.1 rfl (Nat.le_of_ble_eq_true rfl) dX13_readLaws_307 (fun H locs hH => ?_)
                                refine lv_aload_n hx hb dX13_readLaws_310 rfl (lv_at hl 0 rfl) ?_
                                refine lv_dup hx hb dX13_readLaws_311 rfl ?_
                                refine mg_30 hC hH dX13_readLaws_312 ?_
                                refine lv_iconst (v := 1) hx hb dX13_readLaws_315 (by decide) ?_
                                refine lv_iadd hx hb dX13_readLaws_316 ?_
                                obtain ⟨u_139, e_140, hF⟩ := lu_some hF
                                refine mp_30 hC hH e_140 dX13_readLaws_317 (fun H locs hH => ?_)
                                refine lv_aload_n hx hb dX13_readLaws_320 rfl (lv_at hl 0 rfl) ?_
                                refine mg_34 hC hH dX13_readLaws_321 ?_
                                refine lv_aload_n hx hb dX13_readLaws_324 rfl (lv_at hl 0 rfl) ?_
                                refine mg_30 hC hH dX13_readLaws_325 ?_
                                refine lv_aload_n hx hb dX13_readLaws_328 rfl (lv_at hl 0 rfl) ?_
                                refine mg_31 hC hH dX13_readLaws_329 ?_
                                obtain ⟨g_141, hF⟩ := og_some hF
                                obtain ⟨u_142, e_143, hF⟩ := lu_some hF
                                refine ms_34 hC hH e_143 g_141 dX13_readLaws_332 (fun H locs hH => ?_)
                                refine lv_goto (tgt := 223) hx hb dX13_readLaws_333 (by decide) ?_
                                exact ih223  u_142 _ _ _ (lv_sub hl [0] rfl) hH hF
                    · rw [if_pos c_91] at hF
                      refine lv_aload_n hx hb dX13_readLaws_242 rfl (lv_at hl 0 rfl) ?_
                      refine lv_iconst (v := 3) hx hb dX13_readLaws_243 (by decide) ?_
                      refine lv_aload_n hx hb dX13_readLaws_244 rfl (lv_at hl 0 rfl) ?_
                      refine mg_44 hC hH dX13_readLaws_245 ?_
                      obtain ⟨r_144, u_145, h_146, hF⟩ := ob_some hF
                      refine mcV_r (As := [.int 3, .int (u_88.1 44)]) (rest := []) hC hH (m_wrong l G Z Q u_88 u_145 r_144 3 (u_88.1 44) _ h_146) kwX13_wrong kVX13_wrong ⟨Nat.le_of_ble_eq_true rfl, Nat.le_of_ble_eq_true rfl⟩ rfl hl.1 rfl (Nat.le_of_ble_eq_true rfl) dX13_readLaws_248 (fun H locs hH => ?_)
                      cases hF
              refine hL223 _ (fun  u H locs ls hl hH hF => ?_) fuel  u_85 _ _ _ (lv_sub hl [0] rfl) hH hF
              refine lv_aload_n hx hb dX13_readLaws_336 rfl (lv_at hl 0 rfl) ?_
              refine mg_46 hC hH dX13_readLaws_337 ?_
              refine lv_if_eq (tgt := 353) hx hb dX13_readLaws_340 (by decide) (fun c_147 => ?_) (fun c_147 => ?_)
              · rw [if_pos c_147] at hF
                have hF := mthr_eq hF
                exact mr_v hC hH hr hF dX13_readLaws_353 hlocks
              · rw [if_neg c_147] at hF
                refine lv_aload_n hx hb dX13_readLaws_343 rfl (lv_at hl 0 rfl) ?_
                refine lv_iconst (v := 1) hx hb dX13_readLaws_344 (by decide) ?_
                refine lv_aload_n hx hb dX13_readLaws_345 rfl (lv_at hl 0 rfl) ?_
                refine mg_44 hC hH dX13_readLaws_346 ?_
                obtain ⟨r_148, u_149, h_150, hF⟩ := ob_some hF
                refine mcV_r (As := [.int 1, .int (u.1 44)]) (rest := []) hC hH (m_wrong l G Z Q u u_149 r_148 1 (u.1 44) _ h_150) kwX13_wrong kVX13_wrong ⟨Nat.le_of_ble_eq_true rfl, Nat.le_of_ble_eq_true rfl⟩ rfl hl.1 rfl (Nat.le_of_ble_eq_true rfl) dX13_readLaws_349 (fun H locs hH => ?_)
                cases hF
set_option maxHeartbeats 4000000 in
set_option maxRecDepth 100000 in
theorem t_readLaws (l : Launch) (G : gG) (Z : gM) (Q : Nat → Nat) (u u1 : MS)  (sz : Nat) (hF : f_readLaws u = some (none, u1)) : MetT l yX13_readLaws (Cond.code yX13_readLaws cX13_readLaws 2 none :: wM) { frames := 405, cells := 0, slots := 0, locals := 4900 } (va_Pc [.ref (Q 72)] (mPM G Z Q u sz)) (mQt G Q u1 sz) 0 0 (mA Q sz) := by
  refine MetT.ofW (cc := cX13_readLaws) (maxL := 2) (ret := none) (by decide) rfl ?_
  intro p e s m args below meth c s₁ B hml hv
  obtain ⟨rfl, rfl, hP, hB, hD, hE⟩ := hv
  have hr := B.returns
  have hlocks := B.notSynchronized
  have hts := atoms_spec (ws := Cond.code yX13_readLaws cX13_readLaws 2 none :: wM) B.pre
  have hC : mX p c cX13_readLaws 2 s m _ G Z Q := ⟨B.exec, B.bytes, hml, findClass_of_methodNamed B.named, fun w h => hts w (List.mem_cons_of_mem _ h), hB, hE⟩
  have hx := hC.1
  have hb := hC.2.1
  have hH : mH G Q u s s.heap [] := ⟨hP, hD, va_S.rf⟩
  have hno : c.exceptionTable.isEmpty = true := BodyLoose.noHandlers B (hts _ List.mem_cons_self)
  have hl := lv_entry ([.ref (Q 72)]) (n := 2) (Nat.le_of_ble_eq_true rfl)
  rw [lg_entry_eq]
  generalize (lg_sl ([.ref (Q 72)]) ++ List.replicate (2 - (lg_sl ([.ref (Q 72)])).length) Slot.unset).toArray = ls at hl ⊢
  have hl : lv_has ls 2 [(0, .ref (Q 72))] := hl
  unfold f_readLaws at hF
  refine lv_aload_n hx hb dX13_readLaws_0 rfl (lv_at hl 0 rfl) ?_
  refine lv_iconst (v := 0) hx hb dX13_readLaws_1 (by decide) ?_
  obtain ⟨u_1, e_2, hF⟩ := lu_some hF
  refine mp_29 hC hH e_2 dX13_readLaws_2 (fun H locs hH => ?_)
  refine lv_aload_n hx hb dX13_readLaws_5 rfl (lv_at hl 0 rfl) ?_
  refine lv_iconst (v := 0) hx hb dX13_readLaws_6 (by decide) ?_
  obtain ⟨u_3, e_4, hF⟩ := lu_some hF
  refine mp_30 hC hH e_4 dX13_readLaws_7 (fun H locs hH => ?_)
  refine lv_aload_n hx hb dX13_readLaws_10 rfl (lv_at hl 0 rfl) ?_
  refine lv_iconst (v := 0) hx hb dX13_readLaws_11 (by decide) ?_
  obtain ⟨u_5, e_6, hF⟩ := lu_some hF
  refine mp_31 hC hH e_6 dX13_readLaws_12 (fun H locs hH => ?_)
  refine lv_aload_n hx hb dX13_readLaws_15 rfl (lv_at hl 0 rfl) ?_
  refine lv_iconst (v := 0) hx hb dX13_readLaws_16 (by decide) ?_
  obtain ⟨u_7, e_8, hF⟩ := lu_some hF
  refine mp_51 hC hH e_8 dX13_readLaws_17 (fun H locs hH => ?_)
  refine lv_aload_n hx hb dX13_readLaws_20 rfl (lv_at hl 0 rfl) ?_
  refine lv_iconst (v := 0) hx hb dX13_readLaws_21 (by decide) ?_
  obtain ⟨u_9, e_10, hF⟩ := lu_some hF
  refine mp_45 hC hH e_10 dX13_readLaws_22 (fun H locs hH => ?_)
  refine lv_aload_n hx hb dX13_readLaws_25 rfl (lv_at hl 0 rfl) ?_
  obtain ⟨r_11, u_12, h_13, hF⟩ := ob_some hF
  refine mcV_v (As := []) (rest := []) hC hH (m_scan l G Z Q u_9 u_12 r_11  _ h_13) kwX13_scan kVX13_scan ⟨Nat.le_of_ble_eq_true rfl, Nat.le_of_ble_eq_true rfl⟩ rfl hl.1 rfl (Nat.le_of_ble_eq_true rfl) dX13_readLaws_26 (fun H locs hH => ?_)
  refine lv_aload_n hx hb dX13_readLaws_29 rfl (lv_at hl 0 rfl) ?_
  refine th_ldcw (tx := sTx 1) hx hb hC.2.2.2.1 (hC.2.2.2.2.2.2.2.2.1 1 (by decide)) dX13_readLaws_30 ?_
  obtain ⟨r_14, u_15, h_16, hF⟩ := ob_some hF
  cases r_14 with
  | none =>
    have hF := ot_none hF
    exact mt_pass hH (mt_run (As := [.ref (Z.1 1)]) (rest := []) hC hH (t_need l G Z Q u_12 u_15 1 _ h_16 (by decide)) kwX13_need kVX13_need ⟨Nat.le_of_ble_eq_true rfl, Nat.le_of_ble_eq_true rfl⟩ rfl hl.1 rfl (Nat.le_of_ble_eq_true rfl) dX13_readLaws_33) hno hlocks hF
  | some r_17 =>
    have hF := ot_some hF
    refine mcV_v (As := [.ref (Z.1 1)]) (rest := []) hC hH (m_need l G Z Q u_12 u_15 r_17 1 _ h_16 (by decide)) kwX13_need kVX13_need ⟨Nat.le_of_ble_eq_true rfl, Nat.le_of_ble_eq_true rfl⟩ rfl hl.1 rfl (Nat.le_of_ble_eq_true rfl) dX13_readLaws_33 (fun H locs hH => ?_)
    refine lv_aload_n hx hb dX13_readLaws_36 rfl (lv_at hl 0 rfl) ?_
    refine lv_aload_n hx hb dX13_readLaws_37 rfl (lv_at hl 0 rfl) ?_
    obtain ⟨r_18, u_19, h_20, hF⟩ := ob_some hF
    cases r_18 with
    | none =>
      have hF := ot_none hF
      exact mt_pass hH (mt_run (As := []) (rest := [.ref (Q 72)]) hC hH (t_number l G Z Q u_15 u_19  _ h_20) kwX13_number kVX13_number ⟨Nat.le_of_ble_eq_true rfl, Nat.le_of_ble_eq_true rfl⟩ rfl hl.1 rfl (Nat.le_of_ble_eq_true rfl) dX13_readLaws_38) hno hlocks hF
    | some r_21 =>
      have hF := ot_some hF
      refine mcV_i (As := []) (rest := [.ref (Q 72)]) hC hH (m_number l G Z Q u_15 u_19 r_21  _ h_20) kwX13_number kVX13_number ⟨Nat.le_of_ble_eq_true rfl, Nat.le_of_ble_eq_true rfl⟩ rfl hl.1 rfl (Nat.le_of_ble_eq_true rfl) dX13_readLaws_38 (fun H locs hH => ?_)
      obtain ⟨u_22, e_23, hF⟩ := lu_some hF
      refine mp_27 hC hH e_23 dX13_readLaws_41 (fun H locs hH => ?_)
      refine lv_aload_n hx hb dX13_readLaws_44 rfl (lv_at hl 0 rfl) ?_
      refine th_ldcw (tx := sTx 14) hx hb hC.2.2.2.1 (hC.2.2.2.2.2.2.2.2.1 14 (by decide)) dX13_readLaws_45 ?_
      obtain ⟨r_24, u_25, h_26, hF⟩ := ob_some hF
      cases r_24 with
      | none =>
        have hF := ot_none hF
        exact mt_pass hH (mt_run (As := [.ref (Z.1 14)]) (rest := []) hC hH (t_need l G Z Q u_22 u_25 14 _ h_26 (by decide)) kwX13_need kVX13_need ⟨Nat.le_of_ble_eq_true rfl, Nat.le_of_ble_eq_true rfl⟩ rfl hl.1 rfl (Nat.le_of_ble_eq_true rfl) dX13_readLaws_48) hno hlocks hF
      | some r_27 =>
        have hF := ot_some hF
        refine mcV_v (As := [.ref (Z.1 14)]) (rest := []) hC hH (m_need l G Z Q u_22 u_25 r_27 14 _ h_26 (by decide)) kwX13_need kVX13_need ⟨Nat.le_of_ble_eq_true rfl, Nat.le_of_ble_eq_true rfl⟩ rfl hl.1 rfl (Nat.le_of_ble_eq_true rfl) dX13_readLaws_48 (fun H locs hH => ?_)
        refine lv_aload_n hx hb dX13_readLaws_51 rfl (lv_at hl 0 rfl) ?_
        refine th_ldcw (tx := sTx 2) hx hb hC.2.2.2.1 (hC.2.2.2.2.2.2.2.2.1 2 (by decide)) dX13_readLaws_52 ?_
        obtain ⟨r_28, u_29, h_30, hF⟩ := ob_some hF
        cases r_28 with
        | none =>
          have hF := ot_none hF
          exact mt_pass hH (mt_run (As := [.ref (Z.1 2)]) (rest := []) hC hH (t_need l G Z Q u_25 u_29 2 _ h_30 (by decide)) kwX13_need kVX13_need ⟨Nat.le_of_ble_eq_true rfl, Nat.le_of_ble_eq_true rfl⟩ rfl hl.1 rfl (Nat.le_of_ble_eq_true rfl) dX13_readLaws_55) hno hlocks hF
        | some r_31 =>
          have hF := ot_some hF
          refine mcV_v (As := [.ref (Z.1 2)]) (rest := []) hC hH (m_need l G Z Q u_25 u_29 r_31 2 _ h_30 (by decide)) kwX13_need kVX13_need ⟨Nat.le_of_ble_eq_true rfl, Nat.le_of_ble_eq_true rfl⟩ rfl hl.1 rfl (Nat.le_of_ble_eq_true rfl) dX13_readLaws_55 (fun H locs hH => ?_)
          refine lv_aload_n hx hb dX13_readLaws_58 rfl (lv_at hl 0 rfl) ?_
          refine lv_aload_n hx hb dX13_readLaws_59 rfl (lv_at hl 0 rfl) ?_
          obtain ⟨r_32, u_33, h_34, hF⟩ := ob_some hF
          cases r_32 with
          | none =>
            have hF := ot_none hF
            exact mt_pass hH (mt_run (As := []) (rest := [.ref (Q 72)]) hC hH (t_number l G Z Q u_29 u_33  _ h_34) kwX13_number kVX13_number ⟨Nat.le_of_ble_eq_true rfl, Nat.le_of_ble_eq_true rfl⟩ rfl hl.1 rfl (Nat.le_of_ble_eq_true rfl) dX13_readLaws_60) hno hlocks hF
          | some r_35 =>
            have hF := ot_some hF
            refine mcV_i (As := []) (rest := [.ref (Q 72)]) hC hH (m_number l G Z Q u_29 u_33 r_35  _ h_34) kwX13_number kVX13_number ⟨Nat.le_of_ble_eq_true rfl, Nat.le_of_ble_eq_true rfl⟩ rfl hl.1 rfl (Nat.le_of_ble_eq_true rfl) dX13_readLaws_60 (fun H locs hH => ?_)
            obtain ⟨u_36, e_37, hF⟩ := lu_some hF
            refine mp_28 hC hH e_37 dX13_readLaws_63 (fun H locs hH => ?_)
            refine lv_aload_n hx hb dX13_readLaws_66 rfl (lv_at hl 0 rfl) ?_
            refine th_ldcw (tx := sTx 14) hx hb hC.2.2.2.1 (hC.2.2.2.2.2.2.2.2.1 14 (by decide)) dX13_readLaws_67 ?_
            obtain ⟨r_38, u_39, h_40, hF⟩ := ob_some hF
            cases r_38 with
            | none =>
              have hF := ot_none hF
              exact mt_pass hH (mt_run (As := [.ref (Z.1 14)]) (rest := []) hC hH (t_need l G Z Q u_36 u_39 14 _ h_40 (by decide)) kwX13_need kVX13_need ⟨Nat.le_of_ble_eq_true rfl, Nat.le_of_ble_eq_true rfl⟩ rfl hl.1 rfl (Nat.le_of_ble_eq_true rfl) dX13_readLaws_70) hno hlocks hF
            | some r_41 =>
              have hF := ot_some hF
              refine mcV_v (As := [.ref (Z.1 14)]) (rest := []) hC hH (m_need l G Z Q u_36 u_39 r_41 14 _ h_40 (by decide)) kwX13_need kVX13_need ⟨Nat.le_of_ble_eq_true rfl, Nat.le_of_ble_eq_true rfl⟩ rfl hl.1 rfl (Nat.le_of_ble_eq_true rfl) dX13_readLaws_70 (fun H locs hH => ?_)
              have hL73 : ∀ (K73_216 : MS → Option (Option Int32 × MS)), (∀ (u : MS) (H : Heap) (locs : List Loc) (ls : Array Slot), lv_has ls 2 [(0, .ref (Q 72))] → mH G Q u s H locs → K73_216  u = some ((none, u1)) → W p l e (headSpec (Cond.code yX13_readLaws cX13_readLaws 2 none :: wM) { frames := 405, cells := 0, slots := 0, locals := 4900 }).room s m [.ref (Q 72)].toArray below meth c H locs 0 0 (MQT below (mQt G Q u1 s.heap.size) [.ref (Q 72)].toArray s 0 0 (mA Q s.heap.size)) (F0 m 216 ls [])) → ∀ (n73 : Nat) (u : MS) (H : Heap) (locs : List Loc) (ls : Array Slot), lv_has ls 2 [(0, .ref (Q 72))] → mH G Q u s H locs → lp_readLaws_73 n73  u K73_216 = some ((none, u1)) → W p l e (headSpec (Cond.code yX13_readLaws cX13_readLaws 2 none :: wM) { frames := 405, cells := 0, slots := 0, locals := 4900 }).room s m [.ref (Q 72)].toArray below meth c H locs 0 0 (MQT below (mQt G Q u1 s.heap.size) [.ref (Q 72)].toArray s 0 0 (mA Q s.heap.size)) (F0 m 73 ls []) := by
                intro K73_216 hK73_216 n73
                induction n73 with
                | zero => intro  u H locs ls hl hH hF; cases hF
                | succ n73 ih73 =>
                  intro  u H locs ls hl hH hF
                  unfold lp_readLaws_73 at hF
                  refine lv_aload_n hx hb dX13_readLaws_73 rfl (lv_at hl 0 rfl) ?_
                  refine th_ldcw (tx := sTx 3) hx hb hC.2.2.2.1 (hC.2.2.2.2.2.2.2.2.1 3 (by decide)) dX13_readLaws_74 ?_
                  obtain ⟨r_42, u_43, h_44, hF⟩ := ob_some hF
                  refine mcV_i (As := [.ref (Z.1 3)]) (rest := []) hC hH (m_is l G Z Q u u_43 r_42 3 _ h_44 (by decide)) kwX13_is kVX13_is ⟨Nat.le_of_ble_eq_true rfl, Nat.le_of_ble_eq_true rfl⟩ rfl hl.1 rfl (Nat.le_of_ble_eq_true rfl) dX13_readLaws_77 (fun H locs hH => ?_)
                  refine lv_if_eq (tgt := 216) hx hb dX13_readLaws_80 (by decide) (fun c_45 => ?_) (fun c_45 => ?_)
                  · rw [if_pos c_45] at hF
                    exact hK73_216  u_43 _ _ _ (lv_sub hl [0] rfl) hH hF
                  · rw [if_neg c_45] at hF
                    refine lv_aload_n hx hb dX13_readLaws_83 rfl (lv_at hl 0 rfl) ?_
                    refine mg_29 hC hH dX13_readLaws_84 ?_
                    refine lv_bipush (v := 8) hx hb dX13_readLaws_87 (by decide) ?_
                    refine lv_icmp_ne (tgt := 102) hx hb dX13_readLaws_89 (by decide) (fun c_46 => ?_) (fun c_46 => ?_)
                    · rw [if_neg c_46] at hF
                      refine lv_aload_n hx hb dX13_readLaws_102 rfl (lv_at hl 0 rfl) ?_
                      obtain ⟨r_47, u_48, h_49, hF⟩ := ob_some hF
                      refine mcV_v (As := []) (rest := []) hC hH (m_scan l G Z Q u_43 u_48 r_47  _ h_49) kwX13_scan kVX13_scan ⟨Nat.le_of_ble_eq_true rfl, Nat.le_of_ble_eq_true rfl⟩ rfl hl.1 rfl (Nat.le_of_ble_eq_true rfl) dX13_readLaws_103 (fun H locs hH => ?_)
                      refine lv_aload_n hx hb dX13_readLaws_106 rfl (lv_at hl 0 rfl) ?_
                      obtain ⟨r_50, u_51, h_52, hF⟩ := ob_some hF
                      cases r_50 with
                      | none =>
                        have hF := ot_none hF
                        exact mt_pass hH (mt_run (As := []) (rest := []) hC hH (t_name l G Z Q u_48 u_51  _ h_52) kwX13_name kVX13_name ⟨Nat.le_of_ble_eq_true rfl, Nat.le_of_ble_eq_true rfl⟩ rfl hl.1 rfl (Nat.le_of_ble_eq_true rfl) dX13_readLaws_107) hno hlocks hF
                      | some r_53 =>
                        have hF := ot_some hF
                        refine mcV_v (As := []) (rest := []) hC hH (m_name l G Z Q u_48 u_51 r_53  _ h_52) kwX13_name kVX13_name ⟨Nat.le_of_ble_eq_true rfl, Nat.le_of_ble_eq_true rfl⟩ rfl hl.1 rfl (Nat.le_of_ble_eq_true rfl) dX13_readLaws_107 (fun H locs hH => ?_)
                        refine lv_aload_n hx hb dX13_readLaws_110 rfl (lv_at hl 0 rfl) ?_
                        obtain ⟨r_54, u_55, h_56, hF⟩ := ob_some hF
                        refine mcV_i (As := []) (rest := []) hC hH (m_findSign l G Z Q u_51 u_55 r_54  _ h_56) kwX13_findSign kVX13_findSign ⟨Nat.le_of_ble_eq_true rfl, Nat.le_of_ble_eq_true rfl⟩ rfl hl.1 rfl (Nat.le_of_ble_eq_true rfl) dX13_readLaws_111 (fun H locs hH => ?_)
                        refine lv_iconst (v := (-1)) hx hb dX13_readLaws_114 (by decide) ?_
                        refine lv_icmp_eq (tgt := 128) hx hb dX13_readLaws_115 (by decide) (fun c_57 => ?_) (fun c_57 => ?_)
                        · rw [if_pos c_57] at hF
                          refine lv_aload_n hx hb dX13_readLaws_128 rfl (lv_at hl 0 rfl) ?_
                          refine mg_33 hC hH dX13_readLaws_129 ?_
                          refine lv_aload_n hx hb dX13_readLaws_132 rfl (lv_at hl 0 rfl) ?_
                          refine mg_29 hC hH dX13_readLaws_133 ?_
                          refine lv_aload_n hx hb dX13_readLaws_136 rfl (lv_at hl 0 rfl) ?_
                          refine mg_45 hC hH dX13_readLaws_137 ?_
                          refine lv_aload_n hx hb dX13_readLaws_140 rfl (lv_at hl 0 rfl) ?_
                          refine mg_44 hC hH dX13_readLaws_141 ?_
                          refine lv_isub hx hb dX13_readLaws_144 ?_
                          obtain ⟨g_58, hF⟩ := og_some hF
                          obtain ⟨u_59, e_60, hF⟩ := lu_some hF
                          refine ms_33 hC hH e_60 g_58 dX13_readLaws_145 (fun H locs hH => ?_)
                          refine lv_iconst (v := 0) hx hb dX13_readLaws_146 (by decide) ?_
                          refine lv_istore_n (lv' := [(1, .int 0), (0, .ref (Q 72))]) hx hb dX13_readLaws_147 rfl hl (by decide) rfl (fun ls hl => ?_)
                          have hL148 : ∀ (K148_192 : Int32 → MS → Option (Option Int32 × MS)), (∀ (v1 : Int32) (u : MS) (H : Heap) (locs : List Loc) (ls : Array Slot), lv_has ls 2 [(0, .ref (Q 72)), (1, .int v1)] → mH G Q u s H locs → K148_192 v1 u = some ((none, u1)) → W p l e (headSpec (Cond.code yX13_readLaws cX13_readLaws 2 none :: wM) { frames := 405, cells := 0, slots := 0, locals := 4900 }).room s m [.ref (Q 72)].toArray below meth c H locs 0 0 (MQT below (mQt G Q u1 s.heap.size) [.ref (Q 72)].toArray s 0 0 (mA Q s.heap.size)) (F0 m 192 ls [])) → ∀ (n148 : Nat) (v1 : Int32) (u : MS) (H : Heap) (locs : List Loc) (ls : Array Slot), lv_has ls 2 [(0, .ref (Q 72)), (1, .int v1)] → mH G Q u s H locs → lp_readLaws_148 n148 v1 u K148_192 = some ((none, u1)) → W p l e (headSpec (Cond.code yX13_readLaws cX13_readLaws 2 none :: wM) { frames := 405, cells := 0, slots := 0, locals := 4900 }).room s m [.ref (Q 72)].toArray below meth c H locs 0 0 (MQT below (mQt G Q u1 s.heap.size) [.ref (Q 72)].toArray s 0 0 (mA Q s.heap.size)) (F0 m 148 ls []) := by
                            intro K148_192 hK148_192 n148
                            induction n148 with
                            | zero => intro v1 u H locs ls hl hH hF; cases hF
                            | succ n148 ih148 =>
                              intro v1 u H locs ls hl hH hF
                              unfold lp_readLaws_148 at hF
                              refine lv_iload_n hx hb dX13_readLaws_148 rfl (lv_at hl 1 rfl) ?_
                              refine lv_aload_n hx hb dX13_readLaws_149 rfl (lv_at hl 0 rfl) ?_
                              refine mg_33 hC hH dX13_readLaws_150 ?_
                              refine lv_aload_n hx hb dX13_readLaws_153 rfl (lv_at hl 0 rfl) ?_
                              refine mg_29 hC hH dX13_readLaws_154 ?_
                              obtain ⟨g_61, hF⟩ := og_some hF
                              refine ml_33 hC hH g_61 dX13_readLaws_157 ?_
                              refine lv_icmp_ge (tgt := 192) hx hb dX13_readLaws_158 (by decide) (fun c_62 => ?_) (fun c_62 => ?_)
                              · rw [if_pos c_62] at hF
                                exact hK148_192 v1 u _ _ _ (lv_sub hl [0, 1] rfl) hH hF
                              · rw [if_neg c_62] at hF
                                refine lv_aload_n hx hb dX13_readLaws_161 rfl (lv_at hl 0 rfl) ?_
                                refine mg_32 hC hH dX13_readLaws_162 ?_
                                refine lv_bipush (v := 10) hx hb dX13_readLaws_165 (by decide) ?_
                                refine lv_aload_n hx hb dX13_readLaws_167 rfl (lv_at hl 0 rfl) ?_
                                refine mg_29 hC hH dX13_readLaws_168 ?_
                                refine lv_imul hx hb dX13_readLaws_171 ?_
                                refine lv_iload_n hx hb dX13_readLaws_172 rfl (lv_at hl 1 rfl) ?_
                                refine lv_iadd hx hb dX13_readLaws_173 ?_
                                refine lv_aload_n hx hb dX13_readLaws_174 rfl (lv_at hl 0 rfl) ?_
                                refine mg_41 hC hH dX13_readLaws_175 ?_
                                refine lv_aload_n hx hb dX13_readLaws_178 rfl (lv_at hl 0 rfl) ?_
                                refine mg_44 hC hH dX13_readLaws_179 ?_
                                refine lv_iload_n hx hb dX13_readLaws_182 rfl (lv_at hl 1 rfl) ?_
                                refine lv_iadd hx hb dX13_readLaws_183 ?_
                                obtain ⟨g_63, hF⟩ := og_some hF
                                refine ml_src hC hH g_63 dX13_readLaws_184 ?_
                                obtain ⟨g_64, hF⟩ := og_some hF
                                obtain ⟨u_65, e_66, hF⟩ := lu_some hF
                                refine ms_32 hC hH e_66 g_64 dX13_readLaws_185 (fun H locs hH => ?_)
                                obtain ⟨x_67, e_68, hF⟩ := li_some hF
                                refine lv_iinc (v := x_67) (lv' := [(1, .int x_67), (0, .ref (Q 72))]) hx hb dX13_readLaws_186 hl (k := 1) rfl e_68 (by decide) rfl (fun ls hl => ?_)
                                refine lv_goto (tgt := 148) hx hb dX13_readLaws_189 (by decide) ?_
                                exact ih148 x_67 u_65 _ _ _ (lv_sub hl [1, 0] rfl) hH hF
                          refine hL148 _ (fun v1 u H locs ls hl hH hF => ?_) fuel 0 u_59 _ _ _ (lv_sub hl [1, 0] rfl) hH hF
                          refine lv_aload_n hx hb dX13_readLaws_192 rfl (lv_at hl 0 rfl) ?_
                          refine lv_dup hx hb dX13_readLaws_193 rfl ?_
                          refine mg_29 hC hH dX13_readLaws_194 ?_
                          refine lv_iconst (v := 1) hx hb dX13_readLaws_197 (by decide) ?_
                          refine lv_iadd hx hb dX13_readLaws_198 ?_
                          obtain ⟨u_69, e_70, hF⟩ := lu_some hF
                          refine mp_29 hC hH e_70 dX13_readLaws_199 (fun H locs hH => ?_)
                          refine lv_aload_n hx hb dX13_readLaws_202 rfl (lv_at hl 0 rfl) ?_
                          obtain ⟨r_71, u_72, h_73, hF⟩ := ob_some hF
                          refine mcV_v (As := []) (rest := []) hC hH (m_scan l G Z Q u_69 u_72 r_71  _ h_73) kwX13_scan kVX13_scan ⟨Nat.le_of_ble_eq_true rfl, Nat.le_of_ble_eq_true rfl⟩ rfl hl.1 rfl (Nat.le_of_ble_eq_true rfl) dX13_readLaws_203 (fun H locs hH => ?_)
                          refine lv_aload_n hx hb dX13_readLaws_206 rfl (lv_at hl 0 rfl) ?_
                          refine th_ldcw (tx := sTx 14) hx hb hC.2.2.2.1 (hC.2.2.2.2.2.2.2.2.1 14 (by decide)) dX13_readLaws_207 ?_
                          obtain ⟨r_74, u_75, h_76, hF⟩ := ob_some hF
                          cases r_74 with
                          | none =>
                            have hF := ot_none hF
                            exact mt_pass hH (mt_run (As := [.ref (Z.1 14)]) (rest := []) hC hH (t_need l G Z Q u_72 u_75 14 _ h_76 (by decide)) kwX13_need kVX13_need ⟨Nat.le_of_ble_eq_true rfl, Nat.le_of_ble_eq_true rfl⟩ rfl hl.1 rfl (Nat.le_of_ble_eq_true rfl) dX13_readLaws_210) hno hlocks hF
                          | some r_77 =>
                            have hF := ot_some hF
                            refine mcV_v (As := [.ref (Z.1 14)]) (rest := []) hC hH (m_need l G Z Q u_72 u_75 r_77 14 _ h_76 (by decide)) kwX13_need kVX13_need ⟨Nat.le_of_ble_eq_true rfl, Nat.le_of_ble_eq_true rfl⟩ rfl hl.1 rfl (Nat.le_of_ble_eq_true rfl) dX13_readLaws_210 (fun H locs hH => ?_)
                            refine lv_goto (tgt := 73) hx hb dX13_readLaws_213 (by decide) ?_
                            exact ih73  u_75 _ _ _ (lv_sub hl [0] rfl) hH hF
                        · rw [if_neg c_57] at hF
                          refine lv_aload_n hx hb dX13_readLaws_118 rfl (lv_at hl 0 rfl) ?_
                          refine lv_iconst (v := 2) hx hb dX13_readLaws_119 (by decide) ?_
                          refine lv_aload_n hx hb dX13_readLaws_120 rfl (lv_at hl 0 rfl) ?_
                          refine mg_44 hC hH dX13_readLaws_121 ?_
                          obtain ⟨r_78, u_79, h_80, hF⟩ := ob_some hF
                          refine mcV_r (As := [.int 2, .int (u_55.1 44)]) (rest := []) hC hH (m_wrong l G Z Q u_55 u_79 r_78 2 (u_55.1 44) _ h_80) kwX13_wrong kVX13_wrong ⟨Nat.le_of_ble_eq_true rfl, Nat.le_of_ble_eq_true rfl⟩ rfl hl.1 rfl (Nat.le_of_ble_eq_true rfl) dX13_readLaws_124 (fun H locs hH => ?_)
                          exact mt_throw hC hH hno hF dX13_readLaws_127 hlocks
                    · rw [if_pos c_46] at hF
                      refine lv_aload_n hx hb dX13_readLaws_92 rfl (lv_at hl 0 rfl) ?_
                      refine lv_iconst (v := 3) hx hb dX13_readLaws_93 (by decide) ?_
                      refine lv_aload_n hx hb dX13_readLaws_94 rfl (lv_at hl 0 rfl) ?_
                      refine mg_44 hC hH dX13_readLaws_95 ?_
                      obtain ⟨r_81, u_82, h_83, hF⟩ := ob_some hF
                      refine mcV_r (As := [.int 3, .int (u_43.1 44)]) (rest := []) hC hH (m_wrong l G Z Q u_43 u_82 r_81 3 (u_43.1 44) _ h_83) kwX13_wrong kVX13_wrong ⟨Nat.le_of_ble_eq_true rfl, Nat.le_of_ble_eq_true rfl⟩ rfl hl.1 rfl (Nat.le_of_ble_eq_true rfl) dX13_readLaws_98 (fun H locs hH => ?_)
                      exact mt_throw hC hH hno hF dX13_readLaws_101 hlocks
              refine hL73 _ (fun  u H locs ls hl hH hF => ?_) fuel  u_39 _ _ _ (lv_sub hl [0] rfl) hH hF
              refine lv_aload_n hx hb dX13_readLaws_216 rfl (lv_at hl 0 rfl) ?_
              refine mg_34 hC hH dX13_readLaws_217 ?_
              refine lv_iconst (v := 0) hx hb dX13_readLaws_220 (by decide) ?_
              refine lv_iconst (v := 0) hx hb dX13_readLaws_221 (by decide) ?_
              obtain ⟨g_84, hF⟩ := og_some hF
              obtain ⟨u_85, e_86, hF⟩ := lu_some hF
              refine ms_34 hC hH e_86 g_84 dX13_readLaws_222 (fun H locs hH => ?_)
              have hL223 : ∀ (K223_336 : MS → Option (Option Int32 × MS)), (∀ (u : MS) (H : Heap) (locs : List Loc) (ls : Array Slot), lv_has ls 2 [(0, .ref (Q 72))] → mH G Q u s H locs → K223_336  u = some ((none, u1)) → W p l e (headSpec (Cond.code yX13_readLaws cX13_readLaws 2 none :: wM) { frames := 405, cells := 0, slots := 0, locals := 4900 }).room s m [.ref (Q 72)].toArray below meth c H locs 0 0 (MQT below (mQt G Q u1 s.heap.size) [.ref (Q 72)].toArray s 0 0 (mA Q s.heap.size)) (F0 m 336 ls [])) → ∀ (n223 : Nat) (u : MS) (H : Heap) (locs : List Loc) (ls : Array Slot), lv_has ls 2 [(0, .ref (Q 72))] → mH G Q u s H locs → lp_readLaws_223 n223  u K223_336 = some ((none, u1)) → W p l e (headSpec (Cond.code yX13_readLaws cX13_readLaws 2 none :: wM) { frames := 405, cells := 0, slots := 0, locals := 4900 }).room s m [.ref (Q 72)].toArray below meth c H locs 0 0 (MQT below (mQt G Q u1 s.heap.size) [.ref (Q 72)].toArray s 0 0 (mA Q s.heap.size)) (F0 m 223 ls []) := by
                intro K223_336 hK223_336 n223
                induction n223 with
                | zero => intro  u H locs ls hl hH hF; cases hF
                | succ n223 ih223 =>
                  intro  u H locs ls hl hH hF
                  unfold lp_readLaws_223 at hF
                  refine lv_aload_n hx hb dX13_readLaws_223 rfl (lv_at hl 0 rfl) ?_
                  refine th_ldcw (tx := sTx 4) hx hb hC.2.2.2.1 (hC.2.2.2.2.2.2.2.2.1 4 (by decide)) dX13_readLaws_224 ?_
                  obtain ⟨r_87, u_88, h_89, hF⟩ := ob_some hF
                  refine mcV_i (As := [.ref (Z.1 4)]) (rest := []) hC hH (m_is l G Z Q u u_88 r_87 4 _ h_89 (by decide)) kwX13_is kVX13_is ⟨Nat.le_of_ble_eq_true rfl, Nat.le_of_ble_eq_true rfl⟩ rfl hl.1 rfl (Nat.le_of_ble_eq_true rfl) dX13_readLaws_227 (fun H locs hH => ?_)
                  refine lv_if_eq (tgt := 336) hx hb dX13_readLaws_230 (by decide) (fun c_90 => ?_) (fun c_90 => ?_)
                  · rw [if_pos c_90] at hF
                    exact hK223_336  u_88 _ _ _ (lv_sub hl [0] rfl) hH hF
                  · rw [if_neg c_90] at hF
                    refine lv_aload_n hx hb dX13_readLaws_233 rfl (lv_at hl 0 rfl) ?_
                    refine mg_30 hC hH dX13_readLaws_234 ?_
                    refine lv_bipush (v := 20) hx hb dX13_readLaws_237 (by decide) ?_
                    refine lv_icmp_ne (tgt := 252) hx hb dX13_readLaws_239 (by decide) (fun c_91 => ?_) (fun c_91 => ?_)
                    · rw [if_neg c_91] at hF
                      refine lv_aload_n hx hb dX13_readLaws_252 rfl (lv_at hl 0 rfl) ?_
                      obtain ⟨r_92, u_93, h_94, hF⟩ := ob_some hF
                      refine mcV_v (As := []) (rest := []) hC hH (m_scan l G Z Q u_88 u_93 r_92  _ h_94) kwX13_scan kVX13_scan ⟨Nat.le_of_ble_eq_true rfl, Nat.le_of_ble_eq_true rfl⟩ rfl hl.1 rfl (Nat.le_of_ble_eq_true rfl) dX13_readLaws_253 (fun H locs hH => ?_)
                      refine lv_aload_n hx hb dX13_readLaws_256 rfl (lv_at hl 0 rfl) ?_
                      refine mg_35 hC hH dX13_readLaws_257 ?_
                      refine lv_aload_n hx hb dX13_readLaws_260 rfl (lv_at hl 0 rfl) ?_
                      refine mg_30 hC hH dX13_readLaws_261 ?_
                      refine lv_iconst (v := 1) hx hb dX13_readLaws_264 (by decide) ?_
                      obtain ⟨g_95, hF⟩ := og_some hF
                      obtain ⟨u_96, e_97, hF⟩ := lu_some hF
                      refine ms_35 hC hH e_97 g_95 dX13_readLaws_265 (fun H locs hH => ?_)
                      refine lv_aload_n hx hb dX13_readLaws_266 rfl (lv_at hl 0 rfl) ?_
                      refine mg_46 hC hH dX13_readLaws_267 ?_
                      refine lv_iconst (v := 2) hx hb dX13_readLaws_270 (by decide) ?_
                      refine lv_icmp_ne (tgt := 287) hx hb dX13_readLaws_271 (by decide) (fun c_98 => ?_) (fun c_98 => ?_)
                      · rw [if_neg c_98] at hF
                        refine lv_aload_n hx hb dX13_readLaws_287 rfl (lv_at hl 0 rfl) ?_
                        refine th_ldcw (tx := sTx 5) hx hb hC.2.2.2.1 (hC.2.2.2.2.2.2.2.2.1 5 (by decide)) dX13_readLaws_288 ?_
                        obtain ⟨r_99, u_100, h_101, hF⟩ := ob_some hF
                        cases r_99 with
                        | none =>
                          have hF := ot_none hF
                          exact mt_pass hH (mt_run (As := [.ref (Z.1 5)]) (rest := []) hC hH (t_need l G Z Q u_96 u_100 5 _ h_101 (by decide)) kwX13_need kVX13_need ⟨Nat.le_of_ble_eq_true rfl, Nat.le_of_ble_eq_true rfl⟩ rfl hl.1 rfl (Nat.le_of_ble_eq_true rfl) dX13_readLaws_291) hno hlocks hF
                        | some r_102 =>
                          have hF := ot_some hF
                          refine mcV_v (As := [.ref (Z.1 5)]) (rest := []) hC hH (m_need l G Z Q u_96 u_100 r_102 5 _ h_101 (by decide)) kwX13_need kVX13_need ⟨Nat.le_of_ble_eq_true rfl, Nat.le_of_ble_eq_true rfl⟩ rfl hl.1 rfl (Nat.le_of_ble_eq_true rfl) dX13_readLaws_291 (fun H locs hH => ?_)
                          refine lv_aload_n hx hb dX13_readLaws_294 rfl (lv_at hl 0 rfl) ?_
                          refine lv_iconst (v := 0) hx hb dX13_readLaws_295 (by decide) ?_
                          obtain ⟨u_103, e_104, hF⟩ := lu_some hF
                          refine mp_48 hC hH e_104 dX13_readLaws_296 (fun H locs hH => ?_)
                          refine lv_aload_n hx hb dX13_readLaws_299 rfl (lv_at hl 0 rfl) ?_
                          obtain ⟨r_105, u_106, h_107, hF⟩ := ob_some hF
                          cases r_105 with
                          | none =>
                            have hF := ot_none hF
                            exact mt_pass hH (mt_run (As := []) (rest := []) hC hH (t_readOr l G Z Q u_103 u_106  _ h_107) kwX13_readOr kVX13_readOr ⟨Nat.le_of_ble_eq_true rfl, Nat.le_of_ble_eq_true rfl⟩ rfl hl.1 rfl (Nat.le_of_ble_eq_true rfl) dX13_readLaws_300) hno hlocks hF
                          | some r_108 =>
                            have hF := ot_some hF
                            refine mcV_v (As := []) (rest := []) hC hH (m_readOr l G Z Q u_103 u_106 r_108  _ h_107) kwX13_readOr kVX13_readOr ⟨Nat.le_of_ble_eq_true rfl, Nat.le_of_ble_eq_true rfl⟩ rfl hl.1 rfl (Nat.le_of_ble_eq_true rfl) dX13_readLaws_300 (fun H locs hH => ?_)
                            refine lv_aload_n hx hb dX13_readLaws_303 rfl (lv_at hl 0 rfl) ?_
                            refine th_ldcw (tx := sTx 14) hx hb hC.2.2.2.1 (hC.2.2.2.2.2.2.2.2.1 14 (by decide)) dX13_readLaws_304 ?_
                            obtain ⟨r_109, u_110, h_111, hF⟩ := ob_some hF
                            cases r_109 with
                            | none =>
                              have hF := ot_none hF
                              exact mt_pass hH (mt_run (As := [.ref (Z.1 14)]) (rest := []) hC hH (t_need l G Z Q u_106 u_110 14 _ h_111 (by decide)) kwX13_need kVX13_need ⟨Nat.le_of_ble_eq_true rfl, Nat.le_of_ble_eq_true rfl⟩ rfl hl.1 rfl (Nat.le_of_ble_eq_true rfl) dX13_readLaws_307) hno hlocks hF
                            | some r_112 =>
                              have hF := ot_some hF
                              refine mcV_v (As := [.ref (Z.1 14)]) (rest := []) hC hH (m_need l G Z Q u_106 u_110 r_112 14 _ h_111 (by decide)) kwX13_need kVX13_need ⟨Nat.le_of_ble_eq_true rfl, Nat.le_of_ble_eq_true rfl⟩ rfl hl.1 rfl (Nat.le_of_ble_eq_true rfl) dX13_readLaws_307 (fun H locs hH => ?_)
                              refine lv_aload_n hx hb dX13_readLaws_310 rfl (lv_at hl 0 rfl) ?_
                              refine lv_dup hx hb dX13_readLaws_311 rfl ?_
                              refine mg_30 hC hH dX13_readLaws_312 ?_
                              refine lv_iconst (v := 1) hx hb dX13_readLaws_315 (by decide) ?_
                              refine lv_iadd hx hb dX13_readLaws_316 ?_
                              obtain ⟨u_113, e_114, hF⟩ := lu_some hF
                              refine mp_30 hC hH e_114 dX13_readLaws_317 (fun H locs hH => ?_)
                              refine lv_aload_n hx hb dX13_readLaws_320 rfl (lv_at hl 0 rfl) ?_
                              refine mg_34 hC hH dX13_readLaws_321 ?_
                              refine lv_aload_n hx hb dX13_readLaws_324 rfl (lv_at hl 0 rfl) ?_
                              refine mg_30 hC hH dX13_readLaws_325 ?_
                              refine lv_aload_n hx hb dX13_readLaws_328 rfl (lv_at hl 0 rfl) ?_
                              refine mg_31 hC hH dX13_readLaws_329 ?_
                              obtain ⟨g_115, hF⟩ := og_some hF
                              obtain ⟨u_116, e_117, hF⟩ := lu_some hF
                              refine ms_34 hC hH e_117 g_115 dX13_readLaws_332 (fun H locs hH => ?_)
                              refine lv_goto (tgt := 223) hx hb dX13_readLaws_333 (by decide) ?_
                              exact ih223  u_116 _ _ _ (lv_sub hl [0] rfl) hH hF
                      · rw [if_pos c_98] at hF
                        refine lv_aload_n hx hb dX13_readLaws_274 rfl (lv_at hl 0 rfl) ?_
                        refine mg_35 hC hH dX13_readLaws_275 ?_
                        refine lv_aload_n hx hb dX13_readLaws_278 rfl (lv_at hl 0 rfl) ?_
                        refine mg_30 hC hH dX13_readLaws_279 ?_
                        refine lv_aload_n hx hb dX13_readLaws_282 rfl (lv_at hl 0 rfl) ?_
                        obtain ⟨r_118, u_119, h_120, hF⟩ := ob_some hF
                        cases r_118 with
                        | none =>
                          have hF := ot_none hF
                          exact mt_pass hH (mt_run (As := []) (rest := [.int (u_96.1 30), .ref (Q 35)]) hC hH (t_number l G Z Q u_96 u_119  _ h_120) kwX13_number kVX13_number ⟨Nat.le_of_ble_eq_true rfl, Nat.le_of_ble_eq_true rfl⟩ rfl hl.1 rfl (Nat.le_of_ble_eq_true rfl) dX13_readLaws_283) hno hlocks hF
                        | some r_121 =>
                          have hF := ot_some hF
                          refine mcV_i (As := []) (rest := [.int (u_96.1 30), .ref (Q 35)]) hC hH (m_number l G Z Q u_96 u_119 r_121  _ h_120) kwX13_number kVX13_number ⟨Nat.le_of_ble_eq_true rfl, Nat.le_of_ble_eq_true rfl⟩ rfl hl.1 rfl (Nat.le_of_ble_eq_true rfl) dX13_readLaws_283 (fun H locs hH => ?_)
                          obtain ⟨g_122, hF⟩ := og_some hF
                          obtain ⟨u_123, e_124, hF⟩ := lu_some hF
                          refine ms_35 hC hH e_124 g_122 dX13_readLaws_286 (fun H locs hH => ?_)
                          refine lv_aload_n hx hb dX13_readLaws_287 rfl (lv_at hl 0 rfl) ?_
                          refine th_ldcw (tx := sTx 5) hx hb hC.2.2.2.1 (hC.2.2.2.2.2.2.2.2.1 5 (by decide)) dX13_readLaws_288 ?_
                          obtain ⟨r_125, u_126, h_127, hF⟩ := ob_some hF
                          cases r_125 with
                          | none =>
                            have hF := ot_none hF
                            exact mt_pass hH (mt_run (As := [.ref (Z.1 5)]) (rest := []) hC hH (t_need l G Z Q u_123 u_126 5 _ h_127 (by decide)) kwX13_need kVX13_need ⟨Nat.le_of_ble_eq_true rfl, Nat.le_of_ble_eq_true rfl⟩ rfl hl.1 rfl (Nat.le_of_ble_eq_true rfl) dX13_readLaws_291) hno hlocks hF
                          | some r_128 =>
                            have hF := ot_some hF
                            refine mcV_v (As := [.ref (Z.1 5)]) (rest := []) hC hH (m_need l G Z Q u_123 u_126 r_128 5 _ h_127 (by decide)) kwX13_need kVX13_need ⟨Nat.le_of_ble_eq_true rfl, Nat.le_of_ble_eq_true rfl⟩ rfl hl.1 rfl (Nat.le_of_ble_eq_true rfl) dX13_readLaws_291 (fun H locs hH => ?_)
                            refine lv_aload_n hx hb dX13_readLaws_294 rfl (lv_at hl 0 rfl) ?_
                            refine lv_iconst (v := 0) hx hb dX13_readLaws_295 (by decide) ?_
                            obtain ⟨u_129, e_130, hF⟩ := lu_some hF
                            refine mp_48 hC hH e_130 dX13_readLaws_296 (fun H locs hH => ?_)
                            refine lv_aload_n hx hb dX13_readLaws_299 rfl (lv_at hl 0 rfl) ?_
                            obtain ⟨r_131, u_132, h_133, hF⟩ := ob_some hF
                            cases r_131 with
                            | none =>
                              have hF := ot_none hF
                              exact mt_pass hH (mt_run (As := []) (rest := []) hC hH (t_readOr l G Z Q u_129 u_132  _ h_133) kwX13_readOr kVX13_readOr ⟨Nat.le_of_ble_eq_true rfl, Nat.le_of_ble_eq_true rfl⟩ rfl hl.1 rfl (Nat.le_of_ble_eq_true rfl) dX13_readLaws_300) hno hlocks hF
                            | some r_134 =>
                              have hF := ot_some hF
                              refine mcV_v (As := []) (rest := []) hC hH (m_readOr l G Z Q u_129 u_132 r_134  _ h_133) kwX13_readOr kVX13_readOr ⟨Nat.le_of_ble_eq_true rfl, Nat.le_of_ble_eq_true rfl⟩ rfl hl.1 rfl (Nat.le_of_ble_eq_true rfl) dX13_readLaws_300 (fun H locs hH => ?_)
                              refine lv_aload_n hx hb dX13_readLaws_303 rfl (lv_at hl 0 rfl) ?_
                              refine th_ldcw (tx := sTx 14) hx hb hC.2.2.2.1 (hC.2.2.2.2.2.2.2.2.1 14 (by decide)) dX13_readLaws_304 ?_
                              obtain ⟨r_135, u_136, h_137, hF⟩ := ob_some hF
                              cases r_135 with
                              | none =>
                                have hF := ot_none hF
                                exact mt_pass hH (mt_run (As := [.ref (Z.1 14)]) (rest := []) hC hH (t_need l G Z Q u_132 u_136 14 _ h_137 (by decide)) kwX13_need kVX13_need ⟨Nat.le_of_ble_eq_true rfl, Nat.le_of_ble_eq_true rfl⟩ rfl hl.1 rfl (Nat.le_of_ble_eq_true rfl) dX13_readLaws_307) hno hlocks hF
                              | some r_138 =>
                                have hF := ot_some hF
                                refine mcV_v (As := [.ref (Z.1 14)]) (rest := []) hC hH (m_need l G Z Q u_132 u_136 r_138 14 _ h_137 (by decide)) kwX13_need kVX13_need ⟨Nat.le_of_ble_eq_true rfl, Nat.le_of_ble_eq_true rfl⟩ rfl hl.1 rfl (Nat.le_of_ble_eq_true rfl) dX13_readLaws_307 (fun H locs hH => ?_)
                                refine lv_aload_n hx hb dX13_readLaws_310 rfl (lv_at hl 0 rfl) ?_
                                refine lv_dup hx hb dX13_readLaws_311 rfl ?_
                                refine mg_30 hC hH dX13_readLaws_312 ?_
                                refine lv_iconst (v := 1) hx hb dX13_readLaws_315 (by decide) ?_
                                refine lv_iadd hx hb dX13_readLaws_316 ?_
                                obtain ⟨u_139, e_140, hF⟩ := lu_some hF
                                refine mp_30 hC hH e_140 dX13_readLaws_317 (fun H locs hH => ?_)
                                refine lv_aload_n hx hb dX13_readLaws_320 rfl (lv_at hl 0 rfl) ?_
                                refine mg_34 hC hH dX13_readLaws_321 ?_
                                refine lv_aload_n hx hb dX13_readLaws_324 rfl (lv_at hl 0 rfl) ?_
                                refine mg_30 hC hH dX13_readLaws_325 ?_
                                refine lv_aload_n hx hb dX13_readLaws_328 rfl (lv_at hl 0 rfl) ?_
                                refine mg_31 hC hH dX13_readLaws_329 ?_
                                obtain ⟨g_141, hF⟩ := og_some hF
                                obtain ⟨u_142, e_143, hF⟩ := lu_some hF
                                refine ms_34 hC hH e_143 g_141 dX13_readLaws_332 (fun H locs hH => ?_)
                                refine lv_goto (tgt := 223) hx hb dX13_readLaws_333 (by decide) ?_
                                exact ih223  u_142 _ _ _ (lv_sub hl [0] rfl) hH hF
                    · rw [if_pos c_91] at hF
                      refine lv_aload_n hx hb dX13_readLaws_242 rfl (lv_at hl 0 rfl) ?_
                      refine lv_iconst (v := 3) hx hb dX13_readLaws_243 (by decide) ?_
                      refine lv_aload_n hx hb dX13_readLaws_244 rfl (lv_at hl 0 rfl) ?_
                      refine mg_44 hC hH dX13_readLaws_245 ?_
                      obtain ⟨r_144, u_145, h_146, hF⟩ := ob_some hF
                      refine mcV_r (As := [.int 3, .int (u_88.1 44)]) (rest := []) hC hH (m_wrong l G Z Q u_88 u_145 r_144 3 (u_88.1 44) _ h_146) kwX13_wrong kVX13_wrong ⟨Nat.le_of_ble_eq_true rfl, Nat.le_of_ble_eq_true rfl⟩ rfl hl.1 rfl (Nat.le_of_ble_eq_true rfl) dX13_readLaws_248 (fun H locs hH => ?_)
                      exact mt_throw hC hH hno hF dX13_readLaws_251 hlocks
              refine hL223 _ (fun  u H locs ls hl hH hF => ?_) fuel  u_85 _ _ _ (lv_sub hl [0] rfl) hH hF
              refine lv_aload_n hx hb dX13_readLaws_336 rfl (lv_at hl 0 rfl) ?_
              refine mg_46 hC hH dX13_readLaws_337 ?_
              refine lv_if_eq (tgt := 353) hx hb dX13_readLaws_340 (by decide) (fun c_147 => ?_) (fun c_147 => ?_)
              · rw [if_pos c_147] at hF
                cases hF
              · rw [if_neg c_147] at hF
                refine lv_aload_n hx hb dX13_readLaws_343 rfl (lv_at hl 0 rfl) ?_
                refine lv_iconst (v := 1) hx hb dX13_readLaws_344 (by decide) ?_
                refine lv_aload_n hx hb dX13_readLaws_345 rfl (lv_at hl 0 rfl) ?_
                refine mg_44 hC hH dX13_readLaws_346 ?_
                obtain ⟨r_148, u_149, h_150, hF⟩ := ob_some hF
                refine mcV_r (As := [.int 1, .int (u.1 44)]) (rest := []) hC hH (m_wrong l G Z Q u u_149 r_148 1 (u.1 44) _ h_150) kwX13_wrong kVX13_wrong ⟨Nat.le_of_ble_eq_true rfl, Nat.le_of_ble_eq_true rfl⟩ rfl hl.1 rfl (Nat.le_of_ble_eq_true rfl) dX13_readLaws_349 (fun H locs hH => ?_)
                exact mt_throw hC hH hno hF dX13_readLaws_352 hlocks
def lp_takeLaws_2 : Nat → Int32 → Int32 → Int32 → MS → (Int32 → Int32 → Int32 → MS → Option (Int32 × MS)) → Option (Int32 × MS)
  | 0, _, _, _, _, _ => none
  | n2 + 1, v1, v2, v3, u, K2_27 => (if v2 ≤ v3 then K2_27 v1 v2 v3 u else og (gi (v1 + v3) 24000) (og (gi v3 3000) (lu (wa u 56 v3 (vp_nar .byte (ra u 54 (v1 + v3)))) (fun u_4 => li (v3 + 1) (fun x_6 => lp_takeLaws_2 n2 v1 v2 x_6 u_4 K2_27)))))
def f_takeLaws (a0 : Int32) (a1 : Int32) (u : MS) : Option (Int32 × MS) := lp_takeLaws_2 fuel a0 a1 0 u (fun v1 v2 v3 u => lu (si u 41 1) (fun u_8 => lu (si u_8 43 v2) (fun u_10 => li (u_10.1 49) (fun x_12 => li (u_10.1 50) (fun x_14 => ob (f_readLaws u_10) (fun r_16 u_17 => ot r_16 (lu (si u_17 30 0) (fun u_20 => lu (si u_20 49 x_12) (fun u_22 => lu (si u_22 50 x_14) (fun u_24 => some (u_24.1 30, u_24))))) (fun r_19 => lu (si u_17 49 x_12) (fun u_26 => lu (si u_26 50 x_14) (fun u_28 => some (u_28.1 30, u_28))))))))))
set_option maxHeartbeats 4000000 in
set_option maxRecDepth 100000 in
theorem m_takeLaws (l : Launch) (G : gG) (Z : gM) (Q : Nat → Nat) (u u1 : MS) (r : Int32) (a0 : Int32) (a1 : Int32) (sz : Nat) (hF : f_takeLaws a0 a1 u = some (r, u1)) : Met l yX13_takeLaws (Cond.codeWith yX13_takeLaws cX13_takeLaws 6 (some .int) [(51, 55, 58, 105)] :: wM) { frames := 406, cells := 0, slots := 0, locals := 4921 } (va_Pc [.ref (Q 72), .int a0, .int a1] (mPM G Z Q u sz)) (mQi G Q u1 r sz) 0 0 (mA Q sz) := by
  refine va_MetW (cc := cX13_takeLaws) (maxL := 6) (ret := (some .int)) (by decide) rfl ?_
  intro p e s m args below meth c s₁ B hml hv
  obtain ⟨rfl, rfl, hP, hB, hD, hE⟩ := hv
  have hr := B.returns
  have hlocks := B.notSynchronized
  have hts := atoms_spec (ws := Cond.codeWith yX13_takeLaws cX13_takeLaws 6 (some .int) [(51, 55, 58, 105)] :: wM) B.pre
  have hC : mX p c cX13_takeLaws 6 s m _ G Z Q := ⟨B.exec, B.bytes, hml, findClass_of_methodNamed B.named, fun w h => hts w (List.mem_cons_of_mem _ h), hB, hE⟩
  have hx := hC.1
  have hb := hC.2.1
  have hH : mH G Q u s s.heap [] := ⟨hP, hD, va_S.rf⟩
  have hl := lv_entry ([.ref (Q 72), .int a0, .int a1]) (n := 6) (Nat.le_of_ble_eq_true rfl)
  rw [lg_entry_eq]
  generalize (lg_sl ([.ref (Q 72), .int a0, .int a1]) ++ List.replicate (6 - (lg_sl ([.ref (Q 72), .int a0, .int a1])).length) Slot.unset).toArray = ls at hl ⊢
  have hl : lv_has ls 6 [(0, .ref (Q 72)), (1, .int a0), (2, .int a1)] := hl
  obtain ⟨m9, meth9, c9, hn9, hm9, hc9, -, -, htab9, -⟩ := Cond.codeWith_spec (hts _ List.mem_cons_self)
  cases B.named.symm.trans hn9
  cases B.method.symm.trans hm9
  cases (Stand.of_body B).code.symm.trans hc9
  obtain ⟨x9, htab, ex9⟩ : ∃ x9 : ExceptionTableEntry, c.exceptionTable.toList = [x9] ∧ (x9.startPc, x9.endPc, x9.handlerPc, x9.catchType) = (51, 55, 58, 105) := by
    cases hz : c.exceptionTable.toList with
    | nil => rw [hz] at htab9; cases htab9
    | cons y ys =>
      rw [hz] at htab9
      cases ys with
      | nil => exact ⟨y, rfl, (List.cons.inj htab9).1⟩
      | cons z zs => exact absurd (List.cons.inj htab9).2 (by intro h; cases h)
  obtain ⟨x1, x2, x3, x4⟩ := x9
  cases ex9
  unfold f_takeLaws at hF
  refine lv_iconst (v := 0) hx hb dX13_takeLaws_0 (by decide) ?_
  refine lv_istore_n (lv' := [(3, .int 0), (0, .ref (Q 72)), (1, .int a0), (2, .int a1)]) hx hb dX13_takeLaws_1 rfl hl (by decide) rfl (fun ls hl => ?_)
  have hL2 : ∀ (K2_27 : Int32 → Int32 → Int32 → MS → Option (Int32 × MS)), (∀ (v1 v2 v3 : Int32) (u : MS) (H : Heap) (locs : List Loc) (ls : Array Slot), lv_has ls 6 [(0, .ref (Q 72)), (1, .int v1), (2, .int v2), (3, .int v3)] → mH G Q u s H locs → K2_27 v1 v2 v3 u = some ((r, u1)) → W p l e (headSpec (Cond.codeWith yX13_takeLaws cX13_takeLaws 6 (some .int) [(51, 55, 58, 105)] :: wM) { frames := 406, cells := 0, slots := 0, locals := 4921 }).room s m [.ref (Q 72), .int a0, .int a1].toArray below meth c H locs 0 0 (MQ below (mQi G Q u1 r s.heap.size) [.ref (Q 72), .int a0, .int a1].toArray s 0 0 (mA Q s.heap.size)) (F0 m 27 ls [])) → ∀ (n2 : Nat) (v1 v2 v3 : Int32) (u : MS) (H : Heap) (locs : List Loc) (ls : Array Slot), lv_has ls 6 [(0, .ref (Q 72)), (1, .int v1), (2, .int v2), (3, .int v3)] → mH G Q u s H locs → lp_takeLaws_2 n2 v1 v2 v3 u K2_27 = some ((r, u1)) → W p l e (headSpec (Cond.codeWith yX13_takeLaws cX13_takeLaws 6 (some .int) [(51, 55, 58, 105)] :: wM) { frames := 406, cells := 0, slots := 0, locals := 4921 }).room s m [.ref (Q 72), .int a0, .int a1].toArray below meth c H locs 0 0 (MQ below (mQi G Q u1 r s.heap.size) [.ref (Q 72), .int a0, .int a1].toArray s 0 0 (mA Q s.heap.size)) (F0 m 2 ls []) := by
    intro K2_27 hK2_27 n2
    induction n2 with
    | zero => intro v1 v2 v3 u H locs ls hl hH hF; cases hF
    | succ n2 ih2 =>
      intro v1 v2 v3 u H locs ls hl hH hF
      unfold lp_takeLaws_2 at hF
      refine lv_iload_n hx hb dX13_takeLaws_2 rfl (lv_at hl 3 rfl) ?_
      refine lv_iload_n hx hb dX13_takeLaws_3 rfl (lv_at hl 2 rfl) ?_
      refine lv_icmp_ge (tgt := 27) hx hb dX13_takeLaws_4 (by decide) (fun c_1 => ?_) (fun c_1 => ?_)
      · rw [if_pos c_1] at hF
        exact hK2_27 v1 v2 v3 u _ _ _ (lv_sub hl [0, 1, 2, 3] rfl) hH hF
      · rw [if_neg c_1] at hF
        refine lv_aload_n hx hb dX13_takeLaws_7 rfl (lv_at hl 0 rfl) ?_
        refine mg_56 hC hH dX13_takeLaws_8 ?_
        refine lv_iload_n hx hb dX13_takeLaws_11 rfl (lv_at hl 3 rfl) ?_
        refine lv_aload_n hx hb dX13_takeLaws_12 rfl (lv_at hl 0 rfl) ?_
        refine mg_54 hC hH dX13_takeLaws_13 ?_
        refine lv_iload_n hx hb dX13_takeLaws_16 rfl (lv_at hl 1 rfl) ?_
        refine lv_iload_n hx hb dX13_takeLaws_17 rfl (lv_at hl 3 rfl) ?_
        refine lv_iadd hx hb dX13_takeLaws_18 ?_
        obtain ⟨g_2, hF⟩ := og_some hF
        refine ml_54 hC hH g_2 dX13_takeLaws_19 ?_
        obtain ⟨g_3, hF⟩ := og_some hF
        obtain ⟨u_4, e_5, hF⟩ := lu_some hF
        refine ms_56 hC hH e_5 g_3 dX13_takeLaws_20 (fun H locs hH => ?_)
        obtain ⟨x_6, e_7, hF⟩ := li_some hF
        refine lv_iinc (v := x_6) (lv' := [(3, .int x_6), (0, .ref (Q 72)), (1, .int v1), (2, .int v2)]) hx hb dX13_takeLaws_21 hl (k := 3) rfl e_7 (by decide) rfl (fun ls hl => ?_)
        refine lv_goto (tgt := 2) hx hb dX13_takeLaws_24 (by decide) ?_
        exact ih2 v1 v2 x_6 u_4 _ _ _ (lv_sub hl [1, 2, 3, 0] rfl) hH hF
  refine hL2 _ (fun v1 v2 v3 u H locs ls hl hH hF => ?_) fuel a0 a1 0 u _ _ _ (lv_sub hl [1, 2, 3, 0] rfl) hH hF
  refine lv_aload_n hx hb dX13_takeLaws_27 rfl (lv_at hl 0 rfl) ?_
  refine lv_aload_n hx hb dX13_takeLaws_28 rfl (lv_at hl 0 rfl) ?_
  refine mg_56 hC hH dX13_takeLaws_29 ?_
  obtain ⟨u_8, e_9, hF⟩ := lu_some hF
  refine mp_41_1 hC hH e_9 dX13_takeLaws_32 (fun H locs hH => ?_)
  refine lv_aload_n hx hb dX13_takeLaws_35 rfl (lv_at hl 0 rfl) ?_
  refine lv_iload_n hx hb dX13_takeLaws_36 rfl (lv_at hl 2 rfl) ?_
  obtain ⟨u_10, e_11, hF⟩ := lu_some hF
  refine mp_43 hC hH e_11 dX13_takeLaws_37 (fun H locs hH => ?_)
  refine lv_aload_n hx hb dX13_takeLaws_40 rfl (lv_at hl 0 rfl) ?_
  refine mg_49 hC hH dX13_takeLaws_41 ?_
  obtain ⟨x_12, e_13, hF⟩ := li_some hF
  refine gx_ti e_13 ?_
  refine lv_istore_n (lv' := [(3, .int x_12), (0, .ref (Q 72)), (1, .int v1), (2, .int v2)]) hx hb dX13_takeLaws_44 rfl hl (by decide) rfl (fun ls hl => ?_)
  refine lv_aload_n hx hb dX13_takeLaws_45 rfl (lv_at hl 1 rfl) ?_
  refine mg_50 hC hH dX13_takeLaws_46 ?_
  obtain ⟨x_14, e_15, hF⟩ := li_some hF
  refine gx_ti e_15 ?_
  refine lv_istore (lv' := [(4, .int x_14), (3, .int x_12), (0, .ref (Q 72)), (1, .int v1), (2, .int v2)]) hx hb dX13_takeLaws_49 hl (by decide) rfl (fun ls hl => ?_)
  refine lv_aload_n hx hb dX13_takeLaws_51 rfl (lv_at hl 2 rfl) ?_
  obtain ⟨r_16, u_17, h_18, hF⟩ := ob_some hF
  cases r_16 with
  | none =>
    have hF := ot_none hF
    refine mt_catch (hpc := 58) hC hH (mt_run (As := []) (rest := []) hC hH (t_readLaws l G Z Q u_10 u_17  _ h_18) kwX13_readLaws kVX13_readLaws ⟨Nat.le_of_ble_eq_true rfl, Nat.le_of_ble_eq_true rfl⟩ rfl hl.1 rfl (Nat.le_of_ble_eq_true rfl) dX13_takeLaws_52) htab (by decide) (by decide) wma1 rfl (fun H locs hH => ?_)
    refine lv_astore (lv' := [(5, .ref (Q 39)), (4, .int x_14), (3, .int x_12), (0, .ref (Q 72)), (1, .int v1), (2, .int v2)]) hx hb dX13_takeLaws_58 hl (by decide) rfl (fun ls hl => ?_)
    refine lv_aload_n hx hb dX13_takeLaws_60 rfl (lv_at hl 3 rfl) ?_
    refine lv_iconst (v := 0) hx hb dX13_takeLaws_61 (by decide) ?_
    obtain ⟨u_20, e_21, hF⟩ := lu_some hF
    refine mp_30 hC hH e_21 dX13_takeLaws_62 (fun H locs hH => ?_)
    refine lv_aload_n hx hb dX13_takeLaws_65 rfl (lv_at hl 3 rfl) ?_
    refine lv_iload_n hx hb dX13_takeLaws_66 rfl (lv_at hl 2 rfl) ?_
    obtain ⟨u_22, e_23, hF⟩ := lu_some hF
    refine mp_49 hC hH e_23 dX13_takeLaws_67 (fun H locs hH => ?_)
    refine lv_aload_n hx hb dX13_takeLaws_70 rfl (lv_at hl 3 rfl) ?_
    refine lv_iload hx hb dX13_takeLaws_71 (lv_at hl 1 rfl) ?_
    obtain ⟨u_24, e_25, hF⟩ := lu_some hF
    refine mp_50 hC hH e_25 dX13_takeLaws_73 (fun H locs hH => ?_)
    refine lv_aload_n hx hb dX13_takeLaws_76 rfl (lv_at hl 3 rfl) ?_
    refine mg_30 hC hH dX13_takeLaws_77 ?_
    exact mr_i hC hH hr hF dX13_takeLaws_80 hlocks
  | some r_19 =>
    have hF := ot_some hF
    refine mcV_v (As := []) (rest := []) hC hH (m_readLaws l G Z Q u_10 u_17 r_19  _ h_18) kwX13_readLaws kVX13_readLaws ⟨Nat.le_of_ble_eq_true rfl, Nat.le_of_ble_eq_true rfl⟩ rfl hl.1 rfl (Nat.le_of_ble_eq_true rfl) dX13_takeLaws_52 (fun H locs hH => ?_)
    refine lv_goto (tgt := 65) hx hb dX13_takeLaws_55 (by decide) ?_
    refine lv_aload_n hx hb dX13_takeLaws_65 rfl (lv_at hl 2 rfl) ?_
    refine lv_iload_n hx hb dX13_takeLaws_66 rfl (lv_at hl 1 rfl) ?_
    obtain ⟨u_26, e_27, hF⟩ := lu_some hF
    refine mp_49 hC hH e_27 dX13_takeLaws_67 (fun H locs hH => ?_)
    refine lv_aload_n hx hb dX13_takeLaws_70 rfl (lv_at hl 2 rfl) ?_
    refine lv_iload hx hb dX13_takeLaws_71 (lv_at hl 0 rfl) ?_
    obtain ⟨u_28, e_29, hF⟩ := lu_some hF
    refine mp_50 hC hH e_29 dX13_takeLaws_73 (fun H locs hH => ?_)
    refine lv_aload_n hx hb dX13_takeLaws_76 rfl (lv_at hl 2 rfl) ?_
    refine mg_30 hC hH dX13_takeLaws_77 ?_
    exact mr_i hC hH hr hF dX13_takeLaws_80 hlocks
def lp_lawsAgain_32 : Nat → Int32 → MS → (Int32 → MS → Option (Int32 × MS)) → Option (Int32 × MS)
  | 0, _, _, _ => none
  | n32 + 1, v1, u, K32_82 => (if v1 < 0 then K32_82 v1 u else og (gi (4 * v1) 2000) ((if (ra u 52 (4 * v1)) = 0 then og (gi ((4 * v1) + 1) 2000) (og (gi ((4 * v1) + 2) 2000) (ob (f_takeLaws (ra u 52 ((4 * v1) + 1)) (ra u 52 ((4 * v1) + 2)) u) (fun r_18 u_19 => some (0, u_19)))) else li (v1 + (-1)) (fun x_21 => lp_lawsAgain_32 n32 x_21 u K32_82))))
def f_lawsAgain  (u : MS) : Option (Int32 × MS) := lu (si u 29 0) (fun u_1 => lu (si u_1 30 0) (fun u_3 => lu (si u_3 31 0) (fun u_5 => lu (si u_5 27 0) (fun u_7 => lu (si u_7 28 0) (fun u_9 => li ((u_9.1 53) - 1) (fun x_11 => lp_lawsAgain_32 fuel x_11 u_9 (fun v1 u => some (0, u))))))))
set_option maxHeartbeats 4000000 in
set_option maxRecDepth 100000 in
theorem m_lawsAgain (l : Launch) (G : gG) (Z : gM) (Q : Nat → Nat) (u u1 : MS) (r : Int32)  (sz : Nat) (hF : f_lawsAgain u = some (r, u1)) : Met l yX13_lawsAgain (Cond.code yX13_lawsAgain cX13_lawsAgain 3 none :: wM) { frames := 407, cells := 0, slots := 0, locals := 4946 } (va_Pc [.ref (Q 72)] (mPM G Z Q u sz)) (mQv G Q u1 sz) 0 0 (mA Q sz) := by
  refine Met.ofW (cc := cX13_lawsAgain) (maxL := 3) (ret := none) (by decide) rfl ?_
  intro p e s m args below meth c s₁ B hml hv
  obtain ⟨rfl, rfl, hP, hB, hD, hE⟩ := hv
  have hr := B.returns
  have hlocks := B.notSynchronized
  have hts := atoms_spec (ws := Cond.code yX13_lawsAgain cX13_lawsAgain 3 none :: wM) B.pre
  have hC : mX p c cX13_lawsAgain 3 s m _ G Z Q := ⟨B.exec, B.bytes, hml, findClass_of_methodNamed B.named, fun w h => hts w (List.mem_cons_of_mem _ h), hB, hE⟩
  have hx := hC.1
  have hb := hC.2.1
  have hH : mH G Q u s s.heap [] := ⟨hP, hD, va_S.rf⟩
  have hl := lv_entry ([.ref (Q 72)]) (n := 3) (Nat.le_of_ble_eq_true rfl)
  rw [lg_entry_eq]
  generalize (lg_sl ([.ref (Q 72)]) ++ List.replicate (3 - (lg_sl ([.ref (Q 72)])).length) Slot.unset).toArray = ls at hl ⊢
  have hl : lv_has ls 3 [(0, .ref (Q 72))] := hl
  unfold f_lawsAgain at hF
  refine lv_aload_n hx hb dX13_lawsAgain_0 rfl (lv_at hl 0 rfl) ?_
  refine lv_iconst (v := 0) hx hb dX13_lawsAgain_1 (by decide) ?_
  obtain ⟨u_1, e_2, hF⟩ := lu_some hF
  refine mp_29 hC hH e_2 dX13_lawsAgain_2 (fun H locs hH => ?_)
  refine lv_aload_n hx hb dX13_lawsAgain_5 rfl (lv_at hl 0 rfl) ?_
  refine lv_iconst (v := 0) hx hb dX13_lawsAgain_6 (by decide) ?_
  obtain ⟨u_3, e_4, hF⟩ := lu_some hF
  refine mp_30 hC hH e_4 dX13_lawsAgain_7 (fun H locs hH => ?_)
  refine lv_aload_n hx hb dX13_lawsAgain_10 rfl (lv_at hl 0 rfl) ?_
  refine lv_iconst (v := 0) hx hb dX13_lawsAgain_11 (by decide) ?_
  obtain ⟨u_5, e_6, hF⟩ := lu_some hF
  refine mp_31 hC hH e_6 dX13_lawsAgain_12 (fun H locs hH => ?_)
  refine lv_aload_n hx hb dX13_lawsAgain_15 rfl (lv_at hl 0 rfl) ?_
  refine lv_iconst (v := 0) hx hb dX13_lawsAgain_16 (by decide) ?_
  obtain ⟨u_7, e_8, hF⟩ := lu_some hF
  refine mp_27 hC hH e_8 dX13_lawsAgain_17 (fun H locs hH => ?_)
  refine lv_aload_n hx hb dX13_lawsAgain_20 rfl (lv_at hl 0 rfl) ?_
  refine lv_iconst (v := 0) hx hb dX13_lawsAgain_21 (by decide) ?_
  obtain ⟨u_9, e_10, hF⟩ := lu_some hF
  refine mp_28 hC hH e_10 dX13_lawsAgain_22 (fun H locs hH => ?_)
  refine lv_aload_n hx hb dX13_lawsAgain_25 rfl (lv_at hl 0 rfl) ?_
  refine mg_53 hC hH dX13_lawsAgain_26 ?_
  refine lv_iconst (v := 1) hx hb dX13_lawsAgain_29 (by decide) ?_
  refine lv_isub hx hb dX13_lawsAgain_30 ?_
  obtain ⟨x_11, e_12, hF⟩ := li_some hF
  refine gx_ti e_12 ?_
  refine lv_istore_n (lv' := [(1, .int x_11), (0, .ref (Q 72))]) hx hb dX13_lawsAgain_31 rfl hl (by decide) rfl (fun ls hl => ?_)
  have hL32 : ∀ (K32_82 : Int32 → MS → Option (Int32 × MS)), (∀ (v1 : Int32) (u : MS) (H : Heap) (locs : List Loc) (ls : Array Slot), lv_has ls 3 [(0, .ref (Q 72)), (1, .int v1)] → mH G Q u s H locs → K32_82 v1 u = some ((r, u1)) → W p l e (headSpec (Cond.code yX13_lawsAgain cX13_lawsAgain 3 none :: wM) { frames := 407, cells := 0, slots := 0, locals := 4946 }).room s m [.ref (Q 72)].toArray below meth c H locs 0 0 (MQ below (mQv G Q u1 s.heap.size) [.ref (Q 72)].toArray s 0 0 (mA Q s.heap.size)) (F0 m 82 ls [])) → ∀ (n32 : Nat) (v1 : Int32) (u : MS) (H : Heap) (locs : List Loc) (ls : Array Slot), lv_has ls 3 [(0, .ref (Q 72)), (1, .int v1)] → mH G Q u s H locs → lp_lawsAgain_32 n32 v1 u K32_82 = some ((r, u1)) → W p l e (headSpec (Cond.code yX13_lawsAgain cX13_lawsAgain 3 none :: wM) { frames := 407, cells := 0, slots := 0, locals := 4946 }).room s m [.ref (Q 72)].toArray below meth c H locs 0 0 (MQ below (mQv G Q u1 s.heap.size) [.ref (Q 72)].toArray s 0 0 (mA Q s.heap.size)) (F0 m 32 ls []) := by
    intro K32_82 hK32_82 n32
    induction n32 with
    | zero => intro v1 u H locs ls hl hH hF; cases hF
    | succ n32 ih32 =>
      intro v1 u H locs ls hl hH hF
      unfold lp_lawsAgain_32 at hF
      refine lv_iload_n hx hb dX13_lawsAgain_32 rfl (lv_at hl 1 rfl) ?_
      refine lv_if_lt (tgt := 82) hx hb dX13_lawsAgain_33 (by decide) (fun c_13 => ?_) (fun c_13 => ?_)
      · rw [if_pos c_13] at hF
        exact hK32_82 v1 u _ _ _ (lv_sub hl [0, 1] rfl) hH hF
      · rw [if_neg c_13] at hF
        refine lv_aload_n hx hb dX13_lawsAgain_36 rfl (lv_at hl 0 rfl) ?_
        refine mg_52 hC hH dX13_lawsAgain_37 ?_
        refine lv_iconst (v := 4) hx hb dX13_lawsAgain_40 (by decide) ?_
        refine lv_iload_n hx hb dX13_lawsAgain_41 rfl (lv_at hl 1 rfl) ?_
        refine lv_imul hx hb dX13_lawsAgain_42 ?_
        obtain ⟨g_14, hF⟩ := og_some hF
        refine ml_52 hC hH g_14 dX13_lawsAgain_43 ?_
        refine lv_if_eq (tgt := 50) hx hb dX13_lawsAgain_44 (by decide) (fun c_15 => ?_) (fun c_15 => ?_)
        · rw [if_pos c_15] at hF
          refine lv_aload_n hx hb dX13_lawsAgain_50 rfl (lv_at hl 0 rfl) ?_
          refine lv_aload_n hx hb dX13_lawsAgain_51 rfl (lv_at hl 0 rfl) ?_
          refine mg_52 hC hH dX13_lawsAgain_52 ?_
          refine lv_iconst (v := 4) hx hb dX13_lawsAgain_55 (by decide) ?_
          refine lv_iload_n hx hb dX13_lawsAgain_56 rfl (lv_at hl 1 rfl) ?_
          refine lv_imul hx hb dX13_lawsAgain_57 ?_
          refine lv_iconst (v := 1) hx hb dX13_lawsAgain_58 (by decide) ?_
          refine lv_iadd hx hb dX13_lawsAgain_59 ?_
          obtain ⟨g_16, hF⟩ := og_some hF
          refine ml_52 hC hH g_16 dX13_lawsAgain_60 ?_
          refine lv_aload_n hx hb dX13_lawsAgain_61 rfl (lv_at hl 0 rfl) ?_
          refine mg_52 hC hH dX13_lawsAgain_62 ?_
          refine lv_iconst (v := 4) hx hb dX13_lawsAgain_65 (by decide) ?_
          refine lv_iload_n hx hb dX13_lawsAgain_66 rfl (lv_at hl 1 rfl) ?_
          refine lv_imul hx hb dX13_lawsAgain_67 ?_
          refine lv_iconst (v := 2) hx hb dX13_lawsAgain_68 (by decide) ?_
          refine lv_iadd hx hb dX13_lawsAgain_69 ?_
          obtain ⟨g_17, hF⟩ := og_some hF
          refine ml_52 hC hH g_17 dX13_lawsAgain_70 ?_
          obtain ⟨r_18, u_19, h_20, hF⟩ := ob_some hF
          refine mcW_i (As := [.int (ra u 52 ((4 * v1) + 1)), .int (ra u 52 ((4 * v1) + 2))]) (rest := []) hC hH (m_takeLaws l G Z Q u u_19 r_18 (ra u 52 ((4 * v1) + 1)) (ra u 52 ((4 * v1) + 2)) _ h_20) kwX13_takeLaws kVX13_takeLaws ⟨Nat.le_of_ble_eq_true rfl, Nat.le_of_ble_eq_true rfl⟩ rfl hl.1 rfl (Nat.le_of_ble_eq_true rfl) dX13_lawsAgain_71 (fun H locs hH => ?_)
          refine lv_istore_n (lv' := [(2, .int r_18), (0, .ref (Q 72)), (1, .int v1)]) hx hb dX13_lawsAgain_74 rfl hl (by decide) rfl (fun ls hl => ?_)
          exact mr_v hC hH hr hF dX13_lawsAgain_75 hlocks
        · rw [if_neg c_15] at hF
          refine lv_goto (tgt := 76) hx hb dX13_lawsAgain_47 (by decide) ?_
          obtain ⟨x_21, e_22, hF⟩ := li_some hF
          refine lv_iinc (v := x_21) (lv' := [(1, .int x_21), (0, .ref (Q 72))]) hx hb dX13_lawsAgain_76 hl (k := 1) rfl e_22 (by decide) rfl (fun ls hl => ?_)
          refine lv_goto (tgt := 32) hx hb dX13_lawsAgain_79 (by decide) ?_
          exact ih32 x_21 u _ _ _ (lv_sub hl [1, 0] rfl) hH hF
  refine hL32 _ (fun v1 u H locs ls hl hH hF => ?_) fuel x_11 u_9 _ _ _ (lv_sub hl [1, 0] rfl) hH hF
  exact mr_v hC hH hr hF dX13_lawsAgain_82 hlocks
