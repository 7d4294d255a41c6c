def lp_readOr_4 (F : Nat → Int32 → Int32 → Int32 → Int32 → MS → Option (Option Int32 × MS)) : Nat → MS → (MS → Option (Option Int32 × MS)) → Option (Option Int32 × MS)
  | 0, _, _ => none
  | n4 + 1, u, K4_35 => ob (f_is 6 u) (fun r_5 u_6 => (if r_5 = 0 then K4_35  u_6 else ob (f_hold u_6) (fun r_9 u_10 => ot r_9 (some (none, u_10)) (fun r_12 => ob (f_scan u_10) (fun r_13 u_14 => ob (F 1 0 0 0 0 u_14) (fun r_16 u_17 => ot r_16 (some (none, u_17)) (fun r_19 => ob (f_release 16 u_17) (fun r_20 u_21 => lp_readOr_4 F n4  u_21 K4_35))))))))
def bd_readOr (F : Nat → Int32 → Int32 → Int32 → Int32 → MS → Option (Option Int32 × MS))  (u : MS) : Option (Option Int32 × MS) := ob (F 1 0 0 0 0 u) (fun r_1 u_2 => ot r_1 (some (none, u_2)) (fun r_4 => lp_readOr_4 F fuel  u_2 (fun  u => some (some 0, u))))
def lp_readAnd_4 (F : Nat → Int32 → Int32 → Int32 → Int32 → MS → Option (Option Int32 × MS)) : Nat → MS → (MS → Option (Option Int32 × MS)) → Option (Option Int32 × MS)
  | 0, _, _ => none
  | n4 + 1, u, K4_35 => ob (f_is 7 u) (fun r_5 u_6 => (if r_5 = 0 then K4_35  u_6 else ob (f_hold u_6) (fun r_9 u_10 => ot r_9 (some (none, u_10)) (fun r_12 => ob (f_scan u_10) (fun r_13 u_14 => ob (F 2 0 0 0 0 u_14) (fun r_16 u_17 => ot r_16 (some (none, u_17)) (fun r_19 => ob (f_release 15 u_17) (fun r_20 u_21 => lp_readAnd_4 F n4  u_21 K4_35))))))))
def bd_readAnd (F : Nat → Int32 → Int32 → Int32 → Int32 → MS → Option (Option Int32 × MS))  (u : MS) : Option (Option Int32 × MS) := ob (F 2 0 0 0 0 u) (fun r_1 u_2 => ot r_1 (some (none, u_2)) (fun r_4 => lp_readAnd_4 F fuel  u_2 (fun  u => some (some 0, u))))
def bd_readNot (F : Nat → Int32 → Int32 → Int32 → Int32 → MS → Option (Option Int32 × MS))  (u : MS) : Option (Option Int32 × MS) := ob (f_is 8 u) (fun r_1 u_2 => (if r_1 = 0 then ob (f_is 15 u_2) (fun r_5 u_6 => (if r_5 = 0 then ob (f_is 9 u_6) (fun r_9 u_10 => (if r_9 = 0 then ob (f_is 10 u_10) (fun r_33 u_34 => (if r_33 = 0 then ob (f_readSum u_34) (fun r_37 u_38 => ot r_37 (some (none, u_38)) (fun r_40 => ob (f_is 17 u_38) (fun r_41 u_42 => (if r_41 = 0 then ob (f_is 18 u_42) (fun r_45 u_46 => (if r_45 = 0 then ob (f_is 19 u_46) (fun r_49 u_50 => (if r_49 = 0 then ob (f_is 20 u_50) (fun r_53 u_54 => (if r_53 = 0 then ob (f_is 21 u_54) (fun r_57 u_58 => (if r_57 = 0 then ob (f_is 22 u_58) (fun r_61 u_62 => (if r_61 = 0 then (if (-1 : Int32) = (-1) then ob (f_wrong 1 (u_62.1 44) u_62) (fun r_80 u_81 => some (none, u_81)) else ob (f_hold u_62) (fun r_66 u_67 => ot r_66 (some (none, u_67)) (fun r_69 => ob (f_scan u_67) (fun r_70 u_71 => ob (f_readSum u_71) (fun r_73 u_74 => ot r_73 (some (none, u_74)) (fun r_76 => ob (f_release (-1) u_74) (fun r_77 u_78 => some (some 0, u_78)))))))) else (if (14 : Int32) = (-1) then ob (f_wrong 1 (u_62.1 44) u_62) (fun r_98 u_99 => some (none, u_99)) else ob (f_hold u_62) (fun r_84 u_85 => ot r_84 (some (none, u_85)) (fun r_87 => ob (f_scan u_85) (fun r_88 u_89 => ob (f_readSum u_89) (fun r_91 u_92 => ot r_91 (some (none, u_92)) (fun r_94 => ob (f_release 14 u_92) (fun r_95 u_96 => some (some 0, u_96)))))))))) else (if (13 : Int32) = (-1) then ob (f_wrong 1 (u_58.1 44) u_58) (fun r_116 u_117 => some (none, u_117)) else ob (f_hold u_58) (fun r_102 u_103 => ot r_102 (some (none, u_103)) (fun r_105 => ob (f_scan u_103) (fun r_106 u_107 => ob (f_readSum u_107) (fun r_109 u_110 => ot r_109 (some (none, u_110)) (fun r_112 => ob (f_release 13 u_110) (fun r_113 u_114 => some (some 0, u_114)))))))))) else (if (12 : Int32) = (-1) then ob (f_wrong 1 (u_54.1 44) u_54) (fun r_134 u_135 => some (none, u_135)) else ob (f_hold u_54) (fun r_120 u_121 => ot r_120 (some (none, u_121)) (fun r_123 => ob (f_scan u_121) (fun r_124 u_125 => ob (f_readSum u_125) (fun r_127 u_128 => ot r_127 (some (none, u_128)) (fun r_130 => ob (f_release 12 u_128) (fun r_131 u_132 => some (some 0, u_132)))))))))) else (if (11 : Int32) = (-1) then ob (f_wrong 1 (u_50.1 44) u_50) (fun r_152 u_153 => some (none, u_153)) else ob (f_hold u_50) (fun r_138 u_139 => ot r_138 (some (none, u_139)) (fun r_141 => ob (f_scan u_139) (fun r_142 u_143 => ob (f_readSum u_143) (fun r_145 u_146 => ot r_145 (some (none, u_146)) (fun r_148 => ob (f_release 11 u_146) (fun r_149 u_150 => some (some 0, u_150)))))))))) else (if (10 : Int32) = (-1) then ob (f_wrong 1 (u_46.1 44) u_46) (fun r_170 u_171 => some (none, u_171)) else ob (f_hold u_46) (fun r_156 u_157 => ot r_156 (some (none, u_157)) (fun r_159 => ob (f_scan u_157) (fun r_160 u_161 => ob (f_readSum u_161) (fun r_163 u_164 => ot r_163 (some (none, u_164)) (fun r_166 => ob (f_release 10 u_164) (fun r_167 u_168 => some (some 0, u_168)))))))))) else (if (9 : Int32) = (-1) then ob (f_wrong 1 (u_42.1 44) u_42) (fun r_188 u_189 => some (none, u_189)) else ob (f_hold u_42) (fun r_174 u_175 => ot r_174 (some (none, u_175)) (fun r_177 => ob (f_scan u_175) (fun r_178 u_179 => ob (f_readSum u_179) (fun r_181 u_182 => ot r_181 (some (none, u_182)) (fun r_184 => ob (f_release 9 u_182) (fun r_185 u_186 => some (some 0, u_186)))))))))))) else ob (f_counts u_34) (fun r_191 u_192 => ot r_191 (some (none, u_192)) (fun r_194 => ob (f_is 9 u_192) (fun r_195 u_196 => (if r_195 = 0 then ob (f_put 5 0 u_196) (fun r_199 u_200 => ob (f_scan u_200) (fun r_202 u_203 => some (some 0, u_203))) else ob (f_put 4 0 u_196) (fun r_205 u_206 => ob (f_scan u_206) (fun r_208 u_209 => some (some 0, u_209))))))))) else ob (f_counts u_10) (fun r_13 u_14 => ot r_13 (some (none, u_14)) (fun r_16 => ob (f_is 9 u_14) (fun r_17 u_18 => (if r_17 = 0 then ob (f_put 5 0 u_18) (fun r_21 u_22 => ob (f_scan u_22) (fun r_24 u_25 => some (some 0, u_25))) else ob (f_put 4 0 u_18) (fun r_27 u_28 => ob (f_scan u_28) (fun r_30 u_31 => some (some 0, u_31))))))))) else ob (f_opens u_6) (fun r_211 u_212 => ot r_211 (some (none, u_212)) (fun r_214 => ob (F 0 0 0 0 0 u_212) (fun r_215 u_216 => ot r_215 (some (none, u_216)) (fun r_218 => ob (f_need 16 u_216) (fun r_219 u_220 => ot r_219 (some (none, u_220)) (fun r_222 => lu (si u_220 48 ((u_220.1 48) - 1)) (fun u_223 => some (some 0, u_223)))))))))) else ob (f_counts u_2) (fun r_225 u_226 => ot r_225 (some (none, u_226)) (fun r_228 => lu (si u_226 51 ((u_226.1 51) + 1)) (fun u_229 => ob (f_opens u_229) (fun r_231 u_232 => ot r_231 (some (none, u_232)) (fun r_234 => ob (F 2 0 0 0 0 u_232) (fun r_235 u_236 => ot r_235 (some (none, u_236)) (fun r_238 => lu (si u_236 48 ((u_236.1 48) - 1)) (fun u_239 => ob (f_release 6 u_239) (fun r_241 u_242 => some (some 0, u_242))))))))))))
set_option maxHeartbeats 4000000 in
set_option maxRecDepth 100000 in
theorem bm_readOr (l : Launch) (G : gG) (Z : gM) (Q : Nat → Nat) (d : Nat) (F : Nat → Int32 → Int32 → Int32 → Int32 → MS → Option (Option Int32 × MS)) (hr_readOr : ∀ (u u1 : MS) (r : Int32) (sz : Nat), F 0 0 0 0 0 u = some (some r, u1) → Met l yX13_readOr (Cond.code yX13_readOr cX13_readOr 1 none :: wM) { frames := 12 * d + 20, cells := 0, slots := 0, locals := 140 * d + 400 } (va_Pc [.ref (Q 72)] (mPM G Z Q u sz)) (mQv G Q u1 sz) 0 0 (mA Q sz)) (ht_readOr : ∀ (u u1 : MS) (sz : Nat), F 0 0 0 0 0 u = some (none, u1) → MetT l yX13_readOr (Cond.code yX13_readOr cX13_readOr 1 none :: wM) { frames := 12 * d + 20, cells := 0, slots := 0, locals := 140 * d + 400 } (va_Pc [.ref (Q 72)] (mPM G Z Q u sz)) (mQt G Q u1 sz) 0 0 (mA Q sz)) (hr_readAnd : ∀ (u u1 : MS) (r : Int32) (sz : Nat), F 1 0 0 0 0 u = some (some r, u1) → Met l yX13_readAnd (Cond.code yX13_readAnd cX13_readAnd 1 none :: wM) { frames := 12 * d + 20, cells := 0, slots := 0, locals := 140 * d + 400 } (va_Pc [.ref (Q 72)] (mPM G Z Q u sz)) (mQv G Q u1 sz) 0 0 (mA Q sz)) (ht_readAnd : ∀ (u u1 : MS) (sz : Nat), F 1 0 0 0 0 u = some (none, u1) → MetT l yX13_readAnd (Cond.code yX13_readAnd cX13_readAnd 1 none :: wM) { frames := 12 * d + 20, cells := 0, slots := 0, locals := 140 * d + 400 } (va_Pc [.ref (Q 72)] (mPM G Z Q u sz)) (mQt G Q u1 sz) 0 0 (mA Q sz)) (hr_readNot : ∀ (u u1 : MS) (r : Int32) (sz : Nat), F 2 0 0 0 0 u = some (some r, u1) → Met l yX13_readNot (Cond.code yX13_readNot cX13_readNot 2 none :: wM) { frames := 12 * d + 20, cells := 0, slots := 0, locals := 140 * d + 400 } (va_Pc [.ref (Q 72)] (mPM G Z Q u sz)) (mQv G Q u1 sz) 0 0 (mA Q sz)) (ht_readNot : ∀ (u u1 : MS) (sz : Nat), F 2 0 0 0 0 u = some (none, u1) → MetT l yX13_readNot (Cond.code yX13_readNot cX13_readNot 2 none :: wM) { frames := 12 * d + 20, cells := 0, slots := 0, locals := 140 * d + 400 } (va_Pc [.ref (Q 72)] (mPM G Z Q u sz)) (mQt G Q u1 sz) 0 0 (mA Q sz)) (u u1 : MS) (r : Int32)  (sz : Nat) (hF : bd_readOr F u = some (some r, u1)) : Met l yX13_readOr (Cond.code yX13_readOr cX13_readOr 1 none :: wM) { frames := 12 * (d + 1) + 20, cells := 0, slots := 0, locals := 140 * (d + 1) + 400 } (va_Pc [.ref (Q 72)] (mPM G Z Q u sz)) (mQv G Q u1 sz) 0 0 (mA Q sz) := by
  refine Met.ofW (cc := cX13_readOr) (maxL := 1) (ret := none) (by decide) rfl ?_
  intro p e s m args below meth c s₁ B hml hv
  obtain ⟨rfl, rfl, hP, hB, hD, hE⟩ := hv
  have hr := B.returns
  have hlocks := B.notSynchronized
  have hts := atoms_spec (ws := Cond.code yX13_readOr cX13_readOr 1 none :: wM) B.pre
  have hC : mX p c cX13_readOr 1 s m _ G Z Q := ⟨B.exec, B.bytes, hml, findClass_of_methodNamed B.named, fun w h => hts w (List.mem_cons_of_mem _ h), hB, hE⟩
  have hx := hC.1
  have hb := hC.2.1
  have hH : mH G Q u s s.heap [] := ⟨hP, hD, va_S.rf⟩
  have hl := lv_entry ([.ref (Q 72)]) (n := 1) (Nat.le_of_ble_eq_true rfl)
  rw [lg_entry_eq]
  generalize (lg_sl ([.ref (Q 72)]) ++ List.replicate (1 - (lg_sl ([.ref (Q 72)])).length) Slot.unset).toArray = ls at hl ⊢
  have hl : lv_has ls 1 [(0, .ref (Q 72))] := hl
  unfold bd_readOr at hF
  refine lv_aload_n hx hb dX13_readOr_0 rfl (lv_at hl 0 rfl) ?_
  obtain ⟨r_1, u_2, h_3, hF⟩ := ob_some hF
  cases r_1 with
  | none =>
    have hF := ot_none hF
    cases hF
  | some r_4 =>
    have hF := ot_some hF
    refine mcV_v (As := []) (rest := []) hC hH (hr_readAnd u u_2 r_4  _ h_3) kwX13_readAnd kVX13_readAnd ⟨by show _ ≤ 12 * (d + 1) + 20; omega, by show _ ≤ 140 * (d + 1) + 400; omega⟩ rfl hl.1 rfl (Nat.le_of_ble_eq_true rfl) dX13_readOr_1 (fun H locs hH => ?_)
    have hL4 : ∀ (K4_35 : MS → Option (Option Int32 × MS)), (∀ (u : MS) (H : Heap) (locs : List Loc) (ls : Array Slot), lv_has ls 1 [(0, .ref (Q 72))] → mH G Q u s H locs → K4_35  u = some ((some r, u1)) → W p l e (headSpec (Cond.code yX13_readOr cX13_readOr 1 none :: wM) { frames := 12 * (d + 1) + 20, cells := 0, slots := 0, locals := 140 * (d + 1) + 400 }).room s m [.ref (Q 72)].toArray below meth c H locs 0 0 (MQ below (mQv G Q u1 s.heap.size) [.ref (Q 72)].toArray s 0 0 (mA Q s.heap.size)) (F0 m 35 ls [])) → ∀ (n4 : Nat) (u : MS) (H : Heap) (locs : List Loc) (ls : Array Slot), lv_has ls 1 [(0, .ref (Q 72))] → mH G Q u s H locs → lp_readOr_4 F n4  u K4_35 = some ((some r, u1)) → W p l e (headSpec (Cond.code yX13_readOr cX13_readOr 1 none :: wM) { frames := 12 * (d + 1) + 20, cells := 0, slots := 0, locals := 140 * (d + 1) + 400 }).room s m [.ref (Q 72)].toArray below meth c H locs 0 0 (MQ below (mQv G Q u1 s.heap.size) [.ref (Q 72)].toArray s 0 0 (mA Q s.heap.size)) (F0 m 4 ls []) := by
      intro K4_35 hK4_35 n4
      induction n4 with
      | zero => intro  u H locs ls hl hH hF; cases hF
      | succ n4 ih4 =>
        intro  u H locs ls hl hH hF
        unfold lp_readOr_4 at hF
        refine lv_aload_n hx hb dX13_readOr_4 rfl (lv_at hl 0 rfl) ?_
        refine th_ldcw (tx := sTx 6) hx hb hC.2.2.2.1 (hC.2.2.2.2.2.2.2.2.1 6 (by decide)) dX13_readOr_5 ?_
        obtain ⟨r_5, u_6, h_7, hF⟩ := ob_some hF
        refine mcV_i (As := [.ref (Z.1 6)]) (rest := []) hC hH (m_is l G Z Q u u_6 r_5 6 _ h_7 (by decide)) kwX13_is kVX13_is ⟨by show _ ≤ 12 * (d + 1) + 20; omega, by show _ ≤ 140 * (d + 1) + 400; omega⟩ rfl hl.1 rfl (Nat.le_of_ble_eq_true rfl) dX13_readOr_8 (fun H locs hH => ?_)
        refine lv_if_eq (tgt := 35) hx hb dX13_readOr_11 (by decide) (fun c_8 => ?_) (fun c_8 => ?_)
        · rw [if_pos c_8] at hF
          exact hK4_35  u_6 _ _ _ (lv_sub hl [0] rfl) hH hF
        · rw [if_neg c_8] at hF
          refine lv_aload_n hx hb dX13_readOr_14 rfl (lv_at hl 0 rfl) ?_
          obtain ⟨r_9, u_10, h_11, hF⟩ := ob_some hF
          cases r_9 with
          | none =>
            have hF := ot_none hF
            cases hF
          | some r_12 =>
            have hF := ot_some hF
            refine mcV_v (As := []) (rest := []) hC hH (m_hold l G Z Q u_6 u_10 r_12  _ h_11) kwX13_hold kVX13_hold ⟨by show _ ≤ 12 * (d + 1) + 20; omega, by show _ ≤ 140 * (d + 1) + 400; omega⟩ rfl hl.1 rfl (Nat.le_of_ble_eq_true rfl) dX13_readOr_15 (fun H locs hH => ?_)
            refine lv_aload_n hx hb dX13_readOr_18 rfl (lv_at hl 0 rfl) ?_
            obtain ⟨r_13, u_14, h_15, hF⟩ := ob_some hF
            refine mcV_v (As := []) (rest := []) hC hH (m_scan l G Z Q u_10 u_14 r_13  _ h_15) kwX13_scan kVX13_scan ⟨by show _ ≤ 12 * (d + 1) + 20; omega, by show _ ≤ 140 * (d + 1) + 400; omega⟩ rfl hl.1 rfl (Nat.le_of_ble_eq_true rfl) dX13_readOr_19 (fun H locs hH => ?_)
            refine lv_aload_n hx hb dX13_readOr_22 rfl (lv_at hl 0 rfl) ?_
            obtain ⟨r_16, u_17, h_18, hF⟩ := ob_some hF
            cases r_16 with
            | none =>
              have hF := ot_none hF
              cases hF
            | some r_19 =>
              have hF := ot_some hF
              refine mcV_v (As := []) (rest := []) hC hH (hr_readAnd u_14 u_17 r_19  _ h_18) kwX13_readAnd kVX13_readAnd ⟨by show _ ≤ 12 * (d + 1) + 20; omega, by show _ ≤ 140 * (d + 1) + 400; omega⟩ rfl hl.1 rfl (Nat.le_of_ble_eq_true rfl) dX13_readOr_23 (fun H locs hH => ?_)
              refine lv_aload_n hx hb dX13_readOr_26 rfl (lv_at hl 0 rfl) ?_
              refine lv_bipush (v := 16) hx hb dX13_readOr_27 (by decide) ?_
              obtain ⟨r_20, u_21, h_22, hF⟩ := ob_some hF
              refine mcV_v (As := [.int 16]) (rest := []) hC hH (m_release l G Z Q u_17 u_21 r_20 16 _ h_22) kwX13_release kVX13_release ⟨by show _ ≤ 12 * (d + 1) + 20; omega, by show _ ≤ 140 * (d + 1) + 400; omega⟩ rfl hl.1 rfl (Nat.le_of_ble_eq_true rfl) dX13_readOr_29 (fun H locs hH => ?_)
              refine lv_goto (tgt := 4) hx hb dX13_readOr_32 (by decide) ?_
              exact ih4  u_21 _ _ _ (lv_sub hl [0] rfl) hH hF
    refine hL4 _ (fun  u H locs ls hl hH hF => ?_) fuel  u_2 _ _ _ (lv_sub hl [0] rfl) hH hF
    have hF := mthr_eq hF
    exact mr_v hC hH hr hF dX13_readOr_35 hlocks
set_option maxHeartbeats 4000000 in
set_option maxRecDepth 100000 in
theorem bt_readOr (l : Launch) (G : gG) (Z : gM) (Q : Nat → Nat) (d : Nat) (F : Nat → Int32 → Int32 → Int32 → Int32 → MS → Option (Option Int32 × MS)) (hr_readOr : ∀ (u u1 : MS) (r : Int32) (sz : Nat), F 0 0 0 0 0 u = some (some r, u1) → Met l yX13_readOr (Cond.code yX13_readOr cX13_readOr 1 none :: wM) { frames := 12 * d + 20, cells := 0, slots := 0, locals := 140 * d + 400 } (va_Pc [.ref (Q 72)] (mPM G Z Q u sz)) (mQv G Q u1 sz) 0 0 (mA Q sz)) (ht_readOr : ∀ (u u1 : MS) (sz : Nat), F 0 0 0 0 0 u = some (none, u1) → MetT l yX13_readOr (Cond.code yX13_readOr cX13_readOr 1 none :: wM) { frames := 12 * d + 20, cells := 0, slots := 0, locals := 140 * d + 400 } (va_Pc [.ref (Q 72)] (mPM G Z Q u sz)) (mQt G Q u1 sz) 0 0 (mA Q sz)) (hr_readAnd : ∀ (u u1 : MS) (r : Int32) (sz : Nat), F 1 0 0 0 0 u = some (some r, u1) → Met l yX13_readAnd (Cond.code yX13_readAnd cX13_readAnd 1 none :: wM) { frames := 12 * d + 20, cells := 0, slots := 0, locals := 140 * d + 400 } (va_Pc [.ref (Q 72)] (mPM G Z Q u sz)) (mQv G Q u1 sz) 0 0 (mA Q sz)) (ht_readAnd : ∀ (u u1 : MS) (sz : Nat), F 1 0 0 0 0 u = some (none, u1) → MetT l yX13_readAnd (Cond.code yX13_readAnd cX13_readAnd 1 none :: wM) { frames := 12 * d + 20, cells := 0, slots := 0, locals := 140 * d + 400 } (va_Pc [.ref (Q 72)] (mPM G Z Q u sz)) (mQt G Q u1 sz) 0 0 (mA Q sz)) (hr_readNot : ∀ (u u1 : MS) (r : Int32) (sz : Nat), F 2 0 0 0 0 u = some (some r, u1) → Met l yX13_readNot (Cond.code yX13_readNot cX13_readNot 2 none :: wM) { frames := 12 * d + 20, cells := 0, slots := 0, locals := 140 * d + 400 } (va_Pc [.ref (Q 72)] (mPM G Z Q u sz)) (mQv G Q u1 sz) 0 0 (mA Q sz)) (ht_readNot : ∀ (u u1 : MS) (sz : Nat), F 2 0 0 0 0 u = some (none, u1) → MetT l yX13_readNot (Cond.code yX13_readNot cX13_readNot 2 none :: wM) { frames := 12 * d + 20, cells := 0, slots := 0, locals := 140 * d + 400 } (va_Pc [.ref (Q 72)] (mPM G Z Q u sz)) (mQt G Q u1 sz) 0 0 (mA Q sz)) (u u1 : MS)  (sz : Nat) (hF : bd_readOr F u = some (none, u1)) : MetT l yX13_readOr (Cond.code yX13_readOr cX13_readOr 1 none :: wM) { frames := 12 * (d + 1) + 20, cells := 0, slots := 0, locals := 140 * (d + 1) + 400 } (va_Pc [.ref (Q 72)] (mPM G Z Q u sz)) (mQt G Q u1 sz) 0 0 (mA Q sz) := by
  refine MetT.ofW (cc := cX13_readOr) (maxL := 1) (ret := none) (by decide) rfl ?_
  intro p e s m args below meth c s₁ B hml hv
  obtain ⟨rfl, rfl, hP, hB, hD, hE⟩ := hv
  have hr := B.returns
  have hlocks := B.notSynchronized
  have hts := atoms_spec (ws := Cond.code yX13_readOr cX13_readOr 1 none :: wM) B.pre
  have hC : mX p c cX13_readOr 1 s m _ G Z Q := ⟨B.exec, B.bytes, hml, findClass_of_methodNamed B.named, fun w h => hts w (List.mem_cons_of_mem _ h), hB, hE⟩
  have hx := hC.1
  have hb := hC.2.1
  have hH : mH G Q u s s.heap [] := ⟨hP, hD, va_S.rf⟩
  have hno : c.exceptionTable.isEmpty = true := BodyLoose.noHandlers B (hts _ List.mem_cons_self)
  have hl := lv_entry ([.ref (Q 72)]) (n := 1) (Nat.le_of_ble_eq_true rfl)
  rw [lg_entry_eq]
  generalize (lg_sl ([.ref (Q 72)]) ++ List.replicate (1 - (lg_sl ([.ref (Q 72)])).length) Slot.unset).toArray = ls at hl ⊢
  have hl : lv_has ls 1 [(0, .ref (Q 72))] := hl
  unfold bd_readOr at hF
  refine lv_aload_n hx hb dX13_readOr_0 rfl (lv_at hl 0 rfl) ?_
  obtain ⟨r_1, u_2, h_3, hF⟩ := ob_some hF
  cases r_1 with
  | none =>
    have hF := ot_none hF
    exact mt_pass hH (mt_run (As := []) (rest := []) hC hH (ht_readAnd u u_2  _ h_3) kwX13_readAnd kVX13_readAnd ⟨by show _ ≤ 12 * (d + 1) + 20; omega, by show _ ≤ 140 * (d + 1) + 400; omega⟩ rfl hl.1 rfl (Nat.le_of_ble_eq_true rfl) dX13_readOr_1) hno hlocks hF
  | some r_4 =>
    have hF := ot_some hF
    refine mcV_v (As := []) (rest := []) hC hH (hr_readAnd u u_2 r_4  _ h_3) kwX13_readAnd kVX13_readAnd ⟨by show _ ≤ 12 * (d + 1) + 20; omega, by show _ ≤ 140 * (d + 1) + 400; omega⟩ rfl hl.1 rfl (Nat.le_of_ble_eq_true rfl) dX13_readOr_1 (fun H locs hH => ?_)
    have hL4 : ∀ (K4_35 : MS → Option (Option Int32 × MS)), (∀ (u : MS) (H : Heap) (locs : List Loc) (ls : Array Slot), lv_has ls 1 [(0, .ref (Q 72))] → mH G Q u s H locs → K4_35  u = some ((none, u1)) → W p l e (headSpec (Cond.code yX13_readOr cX13_readOr 1 none :: wM) { frames := 12 * (d + 1) + 20, cells := 0, slots := 0, locals := 140 * (d + 1) + 400 }).room s m [.ref (Q 72)].toArray below meth c H locs 0 0 (MQT below (mQt G Q u1 s.heap.size) [.ref (Q 72)].toArray s 0 0 (mA Q s.heap.size)) (F0 m 35 ls [])) → ∀ (n4 : Nat) (u : MS) (H : Heap) (locs : List Loc) (ls : Array Slot), lv_has ls 1 [(0, .ref (Q 72))] → mH G Q u s H locs → lp_readOr_4 F n4  u K4_35 = some ((none, u1)) → W p l e (headSpec (Cond.code yX13_readOr cX13_readOr 1 none :: wM) { frames := 12 * (d + 1) + 20, cells := 0, slots := 0, locals := 140 * (d + 1) + 400 }).room s m [.ref (Q 72)].toArray below meth c H locs 0 0 (MQT below (mQt G Q u1 s.heap.size) [.ref (Q 72)].toArray s 0 0 (mA Q s.heap.size)) (F0 m 4 ls []) := by
      intro K4_35 hK4_35 n4
      induction n4 with
      | zero => intro  u H locs ls hl hH hF; cases hF
      | succ n4 ih4 =>
        intro  u H locs ls hl hH hF
        unfold lp_readOr_4 at hF
        refine lv_aload_n hx hb dX13_readOr_4 rfl (lv_at hl 0 rfl) ?_
        refine th_ldcw (tx := sTx 6) hx hb hC.2.2.2.1 (hC.2.2.2.2.2.2.2.2.1 6 (by decide)) dX13_readOr_5 ?_
        obtain ⟨r_5, u_6, h_7, hF⟩ := ob_some hF
        refine mcV_i (As := [.ref (Z.1 6)]) (rest := []) hC hH (m_is l G Z Q u u_6 r_5 6 _ h_7 (by decide)) kwX13_is kVX13_is ⟨by show _ ≤ 12 * (d + 1) + 20; omega, by show _ ≤ 140 * (d + 1) + 400; omega⟩ rfl hl.1 rfl (Nat.le_of_ble_eq_true rfl) dX13_readOr_8 (fun H locs hH => ?_)
        refine lv_if_eq (tgt := 35) hx hb dX13_readOr_11 (by decide) (fun c_8 => ?_) (fun c_8 => ?_)
        · rw [if_pos c_8] at hF
          exact hK4_35  u_6 _ _ _ (lv_sub hl [0] rfl) hH hF
        · rw [if_neg c_8] at hF
          refine lv_aload_n hx hb dX13_readOr_14 rfl (lv_at hl 0 rfl) ?_
          obtain ⟨r_9, u_10, h_11, hF⟩ := ob_some hF
          cases r_9 with
          | none =>
            have hF := ot_none hF
            exact mt_pass hH (mt_run (As := []) (rest := []) hC hH (t_hold l G Z Q u_6 u_10  _ h_11) kwX13_hold kVX13_hold ⟨by show _ ≤ 12 * (d + 1) + 20; omega, by show _ ≤ 140 * (d + 1) + 400; omega⟩ rfl hl.1 rfl (Nat.le_of_ble_eq_true rfl) dX13_readOr_15) hno hlocks hF
          | some r_12 =>
            have hF := ot_some hF
            refine mcV_v (As := []) (rest := []) hC hH (m_hold l G Z Q u_6 u_10 r_12  _ h_11) kwX13_hold kVX13_hold ⟨by show _ ≤ 12 * (d + 1) + 20; omega, by show _ ≤ 140 * (d + 1) + 400; omega⟩ rfl hl.1 rfl (Nat.le_of_ble_eq_true rfl) dX13_readOr_15 (fun H locs hH => ?_)
            refine lv_aload_n hx hb dX13_readOr_18 rfl (lv_at hl 0 rfl) ?_
            obtain ⟨r_13, u_14, h_15, hF⟩ := ob_some hF
            refine mcV_v (As := []) (rest := []) hC hH (m_scan l G Z Q u_10 u_14 r_13  _ h_15) kwX13_scan kVX13_scan ⟨by show _ ≤ 12 * (d + 1) + 20; omega, by show _ ≤ 140 * (d + 1) + 400; omega⟩ rfl hl.1 rfl (Nat.le_of_ble_eq_true rfl) dX13_readOr_19 (fun H locs hH => ?_)
            refine lv_aload_n hx hb dX13_readOr_22 rfl (lv_at hl 0 rfl) ?_
            obtain ⟨r_16, u_17, h_18, hF⟩ := ob_some hF
            cases r_16 with
            | none =>
              have hF := ot_none hF
              exact mt_pass hH (mt_run (As := []) (rest := []) hC hH (ht_readAnd u_14 u_17  _ h_18) kwX13_readAnd kVX13_readAnd ⟨by show _ ≤ 12 * (d + 1) + 20; omega, by show _ ≤ 140 * (d + 1) + 400; omega⟩ rfl hl.1 rfl (Nat.le_of_ble_eq_true rfl) dX13_readOr_23) hno hlocks hF
            | some r_19 =>
              have hF := ot_some hF
              refine mcV_v (As := []) (rest := []) hC hH (hr_readAnd u_14 u_17 r_19  _ h_18) kwX13_readAnd kVX13_readAnd ⟨by show _ ≤ 12 * (d + 1) + 20; omega, by show _ ≤ 140 * (d + 1) + 400; omega⟩ rfl hl.1 rfl (Nat.le_of_ble_eq_true rfl) dX13_readOr_23 (fun H locs hH => ?_)
              refine lv_aload_n hx hb dX13_readOr_26 rfl (lv_at hl 0 rfl) ?_
              refine lv_bipush (v := 16) hx hb dX13_readOr_27 (by decide) ?_
              obtain ⟨r_20, u_21, h_22, hF⟩ := ob_some hF
              refine mcV_v (As := [.int 16]) (rest := []) hC hH (m_release l G Z Q u_17 u_21 r_20 16 _ h_22) kwX13_release kVX13_release ⟨by show _ ≤ 12 * (d + 1) + 20; omega, by show _ ≤ 140 * (d + 1) + 400; omega⟩ rfl hl.1 rfl (Nat.le_of_ble_eq_true rfl) dX13_readOr_29 (fun H locs hH => ?_)
              refine lv_goto (tgt := 4) hx hb dX13_readOr_32 (by decide) ?_
              exact ih4  u_21 _ _ _ (lv_sub hl [0] rfl) hH hF
    refine hL4 _ (fun  u H locs ls hl hH hF => ?_) fuel  u_2 _ _ _ (lv_sub hl [0] rfl) hH hF
    cases hF
set_option maxHeartbeats 4000000 in
set_option maxRecDepth 100000 in
theorem bm_readAnd (l : Launch) (G : gG) (Z : gM) (Q : Nat → Nat) (d : Nat) (F : Nat → Int32 → Int32 → Int32 → Int32 → MS → Option (Option Int32 × MS)) (hr_readOr : ∀ (u u1 : MS) (r : Int32) (sz : Nat), F 0 0 0 0 0 u = some (some r, u1) → Met l yX13_readOr (Cond.code yX13_readOr cX13_readOr 1 none :: wM) { frames := 12 * d + 20, cells := 0, slots := 0, locals := 140 * d + 400 } (va_Pc [.ref (Q 72)] (mPM G Z Q u sz)) (mQv G Q u1 sz) 0 0 (mA Q sz)) (ht_readOr : ∀ (u u1 : MS) (sz : Nat), F 0 0 0 0 0 u = some (none, u1) → MetT l yX13_readOr (Cond.code yX13_readOr cX13_readOr 1 none :: wM) { frames := 12 * d + 20, cells := 0, slots := 0, locals := 140 * d + 400 } (va_Pc [.ref (Q 72)] (mPM G Z Q u sz)) (mQt G Q u1 sz) 0 0 (mA Q sz)) (hr_readAnd : ∀ (u u1 : MS) (r : Int32) (sz : Nat), F 1 0 0 0 0 u = some (some r, u1) → Met l yX13_readAnd (Cond.code yX13_readAnd cX13_readAnd 1 none :: wM) { frames := 12 * d + 20, cells := 0, slots := 0, locals := 140 * d + 400 } (va_Pc [.ref (Q 72)] (mPM G Z Q u sz)) (mQv G Q u1 sz) 0 0 (mA Q sz)) (ht_readAnd : ∀ (u u1 : MS) (sz : Nat), F 1 0 0 0 0 u = some (none, u1) → MetT l yX13_readAnd (Cond.code yX13_readAnd cX13_readAnd 1 none :: wM) { frames := 12 * d + 20, cells := 0, slots := 0, locals := 140 * d + 400 } (va_Pc [.ref (Q 72)] (mPM G Z Q u sz)) (mQt G Q u1 sz) 0 0 (mA Q sz)) (hr_readNot : ∀ (u u1 : MS) (r : Int32) (sz : Nat), F 2 0 0 0 0 u = some (some r, u1) → Met l yX13_readNot (Cond.code yX13_readNot cX13_readNot 2 none :: wM) { frames := 12 * d + 20, cells := 0, slots := 0, locals := 140 * d + 400 } (va_Pc [.ref (Q 72)] (mPM G Z Q u sz)) (mQv G Q u1 sz) 0 0 (mA Q sz)) (ht_readNot : ∀ (u u1 : MS) (sz : Nat), F 2 0 0 0 0 u = some (none, u1) → MetT l yX13_readNot (Cond.code yX13_readNot cX13_readNot 2 none :: wM) { frames := 12 * d + 20, cells := 0, slots := 0, locals := 140 * d + 400 } (va_Pc [.ref (Q 72)] (mPM G Z Q u sz)) (mQt G Q u1 sz) 0 0 (mA Q sz)) (u u1 : MS) (r : Int32)  (sz : Nat) (hF : bd_readAnd F u = some (some r, u1)) : Met l yX13_readAnd (Cond.code yX13_readAnd cX13_readAnd 1 none :: wM) { frames := 12 * (d + 1) + 20, cells := 0, slots := 0, locals := 140 * (d + 1) + 400 } (va_Pc [.ref (Q 72)] (mPM G Z Q u sz)) (mQv G Q u1 sz) 0 0 (mA Q sz) := by
  refine Met.ofW (cc := cX13_readAnd) (maxL := 1) (ret := none) (by decide) rfl ?_
  intro p e s m args below meth c s₁ B hml hv
  obtain ⟨rfl, rfl, hP, hB, hD, hE⟩ := hv
  have hr := B.returns
  have hlocks := B.notSynchronized
  have hts := atoms_spec (ws := Cond.code yX13_readAnd cX13_readAnd 1 none :: wM) B.pre
  have hC : mX p c cX13_readAnd 1 s m _ G Z Q := ⟨B.exec, B.bytes, hml, findClass_of_methodNamed B.named, fun w h => hts w (List.mem_cons_of_mem _ h), hB, hE⟩
  have hx := hC.1
  have hb := hC.2.1
  have hH : mH G Q u s s.heap [] := ⟨hP, hD, va_S.rf⟩
  have hl := lv_entry ([.ref (Q 72)]) (n := 1) (Nat.le_of_ble_eq_true rfl)
  rw [lg_entry_eq]
  generalize (lg_sl ([.ref (Q 72)]) ++ List.replicate (1 - (lg_sl ([.ref (Q 72)])).length) Slot.unset).toArray = ls at hl ⊢
  have hl : lv_has ls 1 [(0, .ref (Q 72))] := hl
  unfold bd_readAnd at hF
  refine lv_aload_n hx hb dX13_readAnd_0 rfl (lv_at hl 0 rfl) ?_
  obtain ⟨r_1, u_2, h_3, hF⟩ := ob_some hF
  cases r_1 with
  | none =>
    have hF := ot_none hF
    cases hF
  | some r_4 =>
    have hF := ot_some hF
    refine mcV_v (As := []) (rest := []) hC hH (hr_readNot u u_2 r_4  _ h_3) kwX13_readNot kVX13_readNot ⟨by show _ ≤ 12 * (d + 1) + 20; omega, by show _ ≤ 140 * (d + 1) + 400; omega⟩ rfl hl.1 rfl (Nat.le_of_ble_eq_true rfl) dX13_readAnd_1 (fun H locs hH => ?_)
    have hL4 : ∀ (K4_35 : MS → Option (Option Int32 × MS)), (∀ (u : MS) (H : Heap) (locs : List Loc) (ls : Array Slot), lv_has ls 1 [(0, .ref (Q 72))] → mH G Q u s H locs → K4_35  u = some ((some r, u1)) → W p l e (headSpec (Cond.code yX13_readAnd cX13_readAnd 1 none :: wM) { frames := 12 * (d + 1) + 20, cells := 0, slots := 0, locals := 140 * (d + 1) + 400 }).room s m [.ref (Q 72)].toArray below meth c H locs 0 0 (MQ below (mQv G Q u1 s.heap.size) [.ref (Q 72)].toArray s 0 0 (mA Q s.heap.size)) (F0 m 35 ls [])) → ∀ (n4 : Nat) (u : MS) (H : Heap) (locs : List Loc) (ls : Array Slot), lv_has ls 1 [(0, .ref (Q 72))] → mH G Q u s H locs → lp_readAnd_4 F n4  u K4_35 = some ((some r, u1)) → W p l e (headSpec (Cond.code yX13_readAnd cX13_readAnd 1 none :: wM) { frames := 12 * (d + 1) + 20, cells := 0, slots := 0, locals := 140 * (d + 1) + 400 }).room s m [.ref (Q 72)].toArray below meth c H locs 0 0 (MQ below (mQv G Q u1 s.heap.size) [.ref (Q 72)].toArray s 0 0 (mA Q s.heap.size)) (F0 m 4 ls []) := by
      intro K4_35 hK4_35 n4
      induction n4 with
      | zero => intro  u H locs ls hl hH hF; cases hF
      | succ n4 ih4 =>
        intro  u H locs ls hl hH hF
        unfold lp_readAnd_4 at hF
        refine lv_aload_n hx hb dX13_readAnd_4 rfl (lv_at hl 0 rfl) ?_
        refine th_ldcw (tx := sTx 7) hx hb hC.2.2.2.1 (hC.2.2.2.2.2.2.2.2.1 7 (by decide)) dX13_readAnd_5 ?_
        obtain ⟨r_5, u_6, h_7, hF⟩ := ob_some hF
        refine mcV_i (As := [.ref (Z.1 7)]) (rest := []) hC hH (m_is l G Z Q u u_6 r_5 7 _ h_7 (by decide)) kwX13_is kVX13_is ⟨by show _ ≤ 12 * (d + 1) + 20; omega, by show _ ≤ 140 * (d + 1) + 400; omega⟩ rfl hl.1 rfl (Nat.le_of_ble_eq_true rfl) dX13_readAnd_8 (fun H locs hH => ?_)
        refine lv_if_eq (tgt := 35) hx hb dX13_readAnd_11 (by decide) (fun c_8 => ?_) (fun c_8 => ?_)
        · rw [if_pos c_8] at hF
          exact hK4_35  u_6 _ _ _ (lv_sub hl [0] rfl) hH hF
        · rw [if_neg c_8] at hF
          refine lv_aload_n hx hb dX13_readAnd_14 rfl (lv_at hl 0 rfl) ?_
          obtain ⟨r_9, u_10, h_11, hF⟩ := ob_some hF
          cases r_9 with
          | none =>
            have hF := ot_none hF
            cases hF
          | some r_12 =>
            have hF := ot_some hF
            refine mcV_v (As := []) (rest := []) hC hH (m_hold l G Z Q u_6 u_10 r_12  _ h_11) kwX13_hold kVX13_hold ⟨by show _ ≤ 12 * (d + 1) + 20; omega, by show _ ≤ 140 * (d + 1) + 400; omega⟩ rfl hl.1 rfl (Nat.le_of_ble_eq_true rfl) dX13_readAnd_15 (fun H locs hH => ?_)
            refine lv_aload_n hx hb dX13_readAnd_18 rfl (lv_at hl 0 rfl) ?_
            obtain ⟨r_13, u_14, h_15, hF⟩ := ob_some hF
            refine mcV_v (As := []) (rest := []) hC hH (m_scan l G Z Q u_10 u_14 r_13  _ h_15) kwX13_scan kVX13_scan ⟨by show _ ≤ 12 * (d + 1) + 20; omega, by show _ ≤ 140 * (d + 1) + 400; omega⟩ rfl hl.1 rfl (Nat.le_of_ble_eq_true rfl) dX13_readAnd_19 (fun H locs hH => ?_)
            refine lv_aload_n hx hb dX13_readAnd_22 rfl (lv_at hl 0 rfl) ?_
            obtain ⟨r_16, u_17, h_18, hF⟩ := ob_some hF
            cases r_16 with
            | none =>
              have hF := ot_none hF
              cases hF
            | some r_19 =>
              have hF := ot_some hF
              refine mcV_v (As := []) (rest := []) hC hH (hr_readNot u_14 u_17 r_19  _ h_18) kwX13_readNot kVX13_readNot ⟨by show _ ≤ 12 * (d + 1) + 20; omega, by show _ ≤ 140 * (d + 1) + 400; omega⟩ rfl hl.1 rfl (Nat.le_of_ble_eq_true rfl) dX13_readAnd_23 (fun H locs hH => ?_)
              refine lv_aload_n hx hb dX13_readAnd_26 rfl (lv_at hl 0 rfl) ?_
              refine lv_bipush (v := 15) hx hb dX13_readAnd_27 (by decide) ?_
              obtain ⟨r_20, u_21, h_22, hF⟩ := ob_some hF
              refine mcV_v (As := [.int 15]) (rest := []) hC hH (m_release l G Z Q u_17 u_21 r_20 15 _ h_22) kwX13_release kVX13_release ⟨by show _ ≤ 12 * (d + 1) + 20; omega, by show _ ≤ 140 * (d + 1) + 400; omega⟩ rfl hl.1 rfl (Nat.le_of_ble_eq_true rfl) dX13_readAnd_29 (fun H locs hH => ?_)
              refine lv_goto (tgt := 4) hx hb dX13_readAnd_32 (by decide) ?_
              exact ih4  u_21 _ _ _ (lv_sub hl [0] rfl) hH hF
    refine hL4 _ (fun  u H locs ls hl hH hF => ?_) fuel  u_2 _ _ _ (lv_sub hl [0] rfl) hH hF
    have hF := mthr_eq hF
    exact mr_v hC hH hr hF dX13_readAnd_35 hlocks
set_option maxHeartbeats 4000000 in
set_option maxRecDepth 100000 in
theorem bt_readAnd (l : Launch) (G : gG) (Z : gM) (Q : Nat → Nat) (d : Nat) (F : Nat → Int32 → Int32 → Int32 → Int32 → MS → Option (Option Int32 × MS)) (hr_readOr : ∀ (u u1 : MS) (r : Int32) (sz : Nat), F 0 0 0 0 0 u = some (some r, u1) → Met l yX13_readOr (Cond.code yX13_readOr cX13_readOr 1 none :: wM) { frames := 12 * d + 20, cells := 0, slots := 0, locals := 140 * d + 400 } (va_Pc [.ref (Q 72)] (mPM G Z Q u sz)) (mQv G Q u1 sz) 0 0 (mA Q sz)) (ht_readOr : ∀ (u u1 : MS) (sz : Nat), F 0 0 0 0 0 u = some (none, u1) → MetT l yX13_readOr (Cond.code yX13_readOr cX13_readOr 1 none :: wM) { frames := 12 * d + 20, cells := 0, slots := 0, locals := 140 * d + 400 } (va_Pc [.ref (Q 72)] (mPM G Z Q u sz)) (mQt G Q u1 sz) 0 0 (mA Q sz)) (hr_readAnd : ∀ (u u1 : MS) (r : Int32) (sz : Nat), F 1 0 0 0 0 u = some (some r, u1) → Met l yX13_readAnd (Cond.code yX13_readAnd cX13_readAnd 1 none :: wM) { frames := 12 * d + 20, cells := 0, slots := 0, locals := 140 * d + 400 } (va_Pc [.ref (Q 72)] (mPM G Z Q u sz)) (mQv G Q u1 sz) 0 0 (mA Q sz)) (ht_readAnd : ∀ (u u1 : MS) (sz : Nat), F 1 0 0 0 0 u = some (none, u1) → MetT l yX13_readAnd (Cond.code yX13_readAnd cX13_readAnd 1 none :: wM) { frames := 12 * d + 20, cells := 0, slots := 0, locals := 140 * d + 400 } (va_Pc [.ref (Q 72)] (mPM G Z Q u sz)) (mQt G Q u1 sz) 0 0 (mA Q sz)) (hr_readNot : ∀ (u u1 : MS) (r : Int32) (sz : Nat), F 2 0 0 0 0 u = some (some r, u1) → Met l yX13_readNot (Cond.code yX13_readNot cX13_readNot 2 none :: wM) { frames := 12 * d + 20, cells := 0, slots := 0, locals := 140 * d + 400 } (va_Pc [.ref (Q 72)] (mPM G Z Q u sz)) (mQv G Q u1 sz) 0 0 (mA Q sz)) (ht_readNot : ∀ (u u1 : MS) (sz : Nat), F 2 0 0 0 0 u = some (none, u1) → MetT l yX13_readNot (Cond.code yX13_readNot cX13_readNot 2 none :: wM) { frames := 12 * d + 20, cells := 0, slots := 0, locals := 140 * d + 400 } (va_Pc [.ref (Q 72)] (mPM G Z Q u sz)) (mQt G Q u1 sz) 0 0 (mA Q sz)) (u u1 : MS)  (sz : Nat) (hF : bd_readAnd F u = some (none, u1)) : MetT l yX13_readAnd (Cond.code yX13_readAnd cX13_readAnd 1 none :: wM) { frames := 12 * (d + 1) + 20, cells := 0, slots := 0, locals := 140 * (d + 1) + 400 } (va_Pc [.ref (Q 72)] (mPM G Z Q u sz)) (mQt G Q u1 sz) 0 0 (mA Q sz) := by
  refine MetT.ofW (cc := cX13_readAnd) (maxL := 1) (ret := none) (by decide) rfl ?_
  intro p e s m args below meth c s₁ B hml hv
  obtain ⟨rfl, rfl, hP, hB, hD, hE⟩ := hv
  have hr := B.returns
  have hlocks := B.notSynchronized
  have hts := atoms_spec (ws := Cond.code yX13_readAnd cX13_readAnd 1 none :: wM) B.pre
  have hC : mX p c cX13_readAnd 1 s m _ G Z Q := ⟨B.exec, B.bytes, hml, findClass_of_methodNamed B.named, fun w h => hts w (List.mem_cons_of_mem _ h), hB, hE⟩
  have hx := hC.1
  have hb := hC.2.1
  have hH : mH G Q u s s.heap [] := ⟨hP, hD, va_S.rf⟩
  have hno : c.exceptionTable.isEmpty = true := BodyLoose.noHandlers B (hts _ List.mem_cons_self)
  have hl := lv_entry ([.ref (Q 72)]) (n := 1) (Nat.le_of_ble_eq_true rfl)
  rw [lg_entry_eq]
  generalize (lg_sl ([.ref (Q 72)]) ++ List.replicate (1 - (lg_sl ([.ref (Q 72)])).length) Slot.unset).toArray = ls at hl ⊢
  have hl : lv_has ls 1 [(0, .ref (Q 72))] := hl
  unfold bd_readAnd at hF
  refine lv_aload_n hx hb dX13_readAnd_0 rfl (lv_at hl 0 rfl) ?_
  obtain ⟨r_1, u_2, h_3, hF⟩ := ob_some hF
  cases r_1 with
  | none =>
    have hF := ot_none hF
    exact mt_pass hH (mt_run (As := []) (rest := []) hC hH (ht_readNot u u_2  _ h_3) kwX13_readNot kVX13_readNot ⟨by show _ ≤ 12 * (d + 1) + 20; omega, by show _ ≤ 140 * (d + 1) + 400; omega⟩ rfl hl.1 rfl (Nat.le_of_ble_eq_true rfl) dX13_readAnd_1) hno hlocks hF
  | some r_4 =>
    have hF := ot_some hF
    refine mcV_v (As := []) (rest := []) hC hH (hr_readNot u u_2 r_4  _ h_3) kwX13_readNot kVX13_readNot ⟨by show _ ≤ 12 * (d + 1) + 20; omega, by show _ ≤ 140 * (d + 1) + 400; omega⟩ rfl hl.1 rfl (Nat.le_of_ble_eq_true rfl) dX13_readAnd_1 (fun H locs hH => ?_)
    have hL4 : ∀ (K4_35 : MS → Option (Option Int32 × MS)), (∀ (u : MS) (H : Heap) (locs : List Loc) (ls : Array Slot), lv_has ls 1 [(0, .ref (Q 72))] → mH G Q u s H locs → K4_35  u = some ((none, u1)) → W p l e (headSpec (Cond.code yX13_readAnd cX13_readAnd 1 none :: wM) { frames := 12 * (d + 1) + 20, cells := 0, slots := 0, locals := 140 * (d + 1) + 400 }).room s m [.ref (Q 72)].toArray below meth c H locs 0 0 (MQT below (mQt G Q u1 s.heap.size) [.ref (Q 72)].toArray s 0 0 (mA Q s.heap.size)) (F0 m 35 ls [])) → ∀ (n4 : Nat) (u : MS) (H : Heap) (locs : List Loc) (ls : Array Slot), lv_has ls 1 [(0, .ref (Q 72))] → mH G Q u s H locs → lp_readAnd_4 F n4  u K4_35 = some ((none, u1)) → W p l e (headSpec (Cond.code yX13_readAnd cX13_readAnd 1 none :: wM) { frames := 12 * (d + 1) + 20, cells := 0, slots := 0, locals := 140 * (d + 1) + 400 }).room s m [.ref (Q 72)].toArray below meth c H locs 0 0 (MQT below (mQt G Q u1 s.heap.size) [.ref (Q 72)].toArray s 0 0 (mA Q s.heap.size)) (F0 m 4 ls []) := by
      intro K4_35 hK4_35 n4
      induction n4 with
      | zero => intro  u H locs ls hl hH hF; cases hF
      | succ n4 ih4 =>
        intro  u H locs ls hl hH hF
        unfold lp_readAnd_4 at hF
        refine lv_aload_n hx hb dX13_readAnd_4 rfl (lv_at hl 0 rfl) ?_
        refine th_ldcw (tx := sTx 7) hx hb hC.2.2.2.1 (hC.2.2.2.2.2.2.2.2.1 7 (by decide)) dX13_readAnd_5 ?_
        obtain ⟨r_5, u_6, h_7, hF⟩ := ob_some hF
        refine mcV_i (As := [.ref (Z.1 7)]) (rest := []) hC hH (m_is l G Z Q u u_6 r_5 7 _ h_7 (by decide)) kwX13_is kVX13_is ⟨by show _ ≤ 12 * (d + 1) + 20; omega, by show _ ≤ 140 * (d + 1) + 400; omega⟩ rfl hl.1 rfl (Nat.le_of_ble_eq_true rfl) dX13_readAnd_8 (fun H locs hH => ?_)
        refine lv_if_eq (tgt := 35) hx hb dX13_readAnd_11 (by decide) (fun c_8 => ?_) (fun c_8 => ?_)
        · rw [if_pos c_8] at hF
          exact hK4_35  u_6 _ _ _ (lv_sub hl [0] rfl) hH hF
        · rw [if_neg c_8] at hF
          refine lv_aload_n hx hb dX13_readAnd_14 rfl (lv_at hl 0 rfl) ?_
          obtain ⟨r_9, u_10, h_11, hF⟩ := ob_some hF
          cases r_9 with
          | none =>
            have hF := ot_none hF
            exact mt_pass hH (mt_run (As := []) (rest := []) hC hH (t_hold l G Z Q u_6 u_10  _ h_11) kwX13_hold kVX13_hold ⟨by show _ ≤ 12 * (d + 1) + 20; omega, by show _ ≤ 140 * (d + 1) + 400; omega⟩ rfl hl.1 rfl (Nat.le_of_ble_eq_true rfl) dX13_readAnd_15) hno hlocks hF
          | some r_12 =>
            have hF := ot_some hF
            refine mcV_v (As := []) (rest := []) hC hH (m_hold l G Z Q u_6 u_10 r_12  _ h_11) kwX13_hold kVX13_hold ⟨by show _ ≤ 12 * (d + 1) + 20; omega, by show _ ≤ 140 * (d + 1) + 400; omega⟩ rfl hl.1 rfl (Nat.le_of_ble_eq_true rfl) dX13_readAnd_15 (fun H locs hH => ?_)
            refine lv_aload_n hx hb dX13_readAnd_18 rfl (lv_at hl 0 rfl) ?_
            obtain ⟨r_13, u_14, h_15, hF⟩ := ob_some hF
            refine mcV_v (As := []) (rest := []) hC hH (m_scan l G Z Q u_10 u_14 r_13  _ h_15) kwX13_scan kVX13_scan ⟨by show _ ≤ 12 * (d + 1) + 20; omega, by show _ ≤ 140 * (d + 1) + 400; omega⟩ rfl hl.1 rfl (Nat.le_of_ble_eq_true rfl) dX13_readAnd_19 (fun H locs hH => ?_)
            refine lv_aload_n hx hb dX13_readAnd_22 rfl (lv_at hl 0 rfl) ?_
            obtain ⟨r_16, u_17, h_18, hF⟩ := ob_some hF
            cases r_16 with
            | none =>
              have hF := ot_none hF
              exact mt_pass hH (mt_run (As := []) (rest := []) hC hH (ht_readNot u_14 u_17  _ h_18) kwX13_readNot kVX13_readNot ⟨by show _ ≤ 12 * (d + 1) + 20; omega, by show _ ≤ 140 * (d + 1) + 400; omega⟩ rfl hl.1 rfl (Nat.le_of_ble_eq_true rfl) dX13_readAnd_23) hno hlocks hF
            | some r_19 =>
              have hF := ot_some hF
              refine mcV_v (As := []) (rest := []) hC hH (hr_readNot u_14 u_17 r_19  _ h_18) kwX13_readNot kVX13_readNot ⟨by show _ ≤ 12 * (d + 1) + 20; omega, by show _ ≤ 140 * (d + 1) + 400; omega⟩ rfl hl.1 rfl (Nat.le_of_ble_eq_true rfl) dX13_readAnd_23 (fun H locs hH => ?_)
              refine lv_aload_n hx hb dX13_readAnd_26 rfl (lv_at hl 0 rfl) ?_
              refine lv_bipush (v := 15) hx hb dX13_readAnd_27 (by decide) ?_
              obtain ⟨r_20, u_21, h_22, hF⟩ := ob_some hF
              refine mcV_v (As := [.int 15]) (rest := []) hC hH (m_release l G Z Q u_17 u_21 r_20 15 _ h_22) kwX13_release kVX13_release ⟨by show _ ≤ 12 * (d + 1) + 20; omega, by show _ ≤ 140 * (d + 1) + 400; omega⟩ rfl hl.1 rfl (Nat.le_of_ble_eq_true rfl) dX13_readAnd_29 (fun H locs hH => ?_)
              refine lv_goto (tgt := 4) hx hb dX13_readAnd_32 (by decide) ?_
              exact ih4  u_21 _ _ _ (lv_sub hl [0] rfl) hH hF
    refine hL4 _ (fun  u H locs ls hl hH hF => ?_) fuel  u_2 _ _ _ (lv_sub hl [0] rfl) hH hF
    cases hF
set_option maxHeartbeats 4000000 in
set_option maxRecDepth 100000 in
theorem bm_readNot (l : Launch) (G : gG) (Z : gM) (Q : Nat → Nat) (d : Nat) (F : Nat → Int32 → Int32 → Int32 → Int32 → MS → Option (Option Int32 × MS)) (hr_readOr : ∀ (u u1 : MS) (r : Int32) (sz : Nat), F 0 0 0 0 0 u = some (some r, u1) → Met l yX13_readOr (Cond.code yX13_readOr cX13_readOr 1 none :: wM) { frames := 12 * d + 20, cells := 0, slots := 0, locals := 140 * d + 400 } (va_Pc [.ref (Q 72)] (mPM G Z Q u sz)) (mQv G Q u1 sz) 0 0 (mA Q sz)) (ht_readOr : ∀ (u u1 : MS) (sz : Nat), F 0 0 0 0 0 u = some (none, u1) → MetT l yX13_readOr (Cond.code yX13_readOr cX13_readOr 1 none :: wM) { frames := 12 * d + 20, cells := 0, slots := 0, locals := 140 * d + 400 } (va_Pc [.ref (Q 72)] (mPM G Z Q u sz)) (mQt G Q u1 sz) 0 0 (mA Q sz)) (hr_readAnd : ∀ (u u1 : MS) (r : Int32) (sz : Nat), F 1 0 0 0 0 u = some (some r, u1) → Met l yX13_readAnd (Cond.code yX13_readAnd cX13_readAnd 1 none :: wM) { frames := 12 * d + 20, cells := 0, slots := 0, locals := 140 * d + 400 } (va_Pc [.ref (Q 72)] (mPM G Z Q u sz)) (mQv G Q u1 sz) 0 0 (mA Q sz)) (ht_readAnd : ∀ (u u1 : MS) (sz : Nat), F 1 0 0 0 0 u = some (none, u1) → MetT l yX13_readAnd (Cond.code yX13_readAnd cX13_readAnd 1 none :: wM) { frames := 12 * d + 20, cells := 0, slots := 0, locals := 140 * d + 400 } (va_Pc [.ref (Q 72)] (mPM G Z Q u sz)) (mQt G Q u1 sz) 0 0 (mA Q sz)) (hr_readNot : ∀ (u u1 : MS) (r : Int32) (sz : Nat), F 2 0 0 0 0 u = some (some r, u1) → Met l yX13_readNot (Cond.code yX13_readNot cX13_readNot 2 none :: wM) { frames := 12 * d + 20, cells := 0, slots := 0, locals := 140 * d + 400 } (va_Pc [.ref (Q 72)] (mPM G Z Q u sz)) (mQv G Q u1 sz) 0 0 (mA Q sz)) (ht_readNot : ∀ (u u1 : MS) (sz : Nat), F 2 0 0 0 0 u = some (none, u1) → MetT l yX13_readNot (Cond.code yX13_readNot cX13_readNot 2 none :: wM) { frames := 12 * d + 20, cells := 0, slots := 0, locals := 140 * d + 400 } (va_Pc [.ref (Q 72)] (mPM G Z Q u sz)) (mQt G Q u1 sz) 0 0 (mA Q sz)) (u u1 : MS) (r : Int32)  (sz : Nat) (hF : bd_readNot F u = some (some r, u1)) : Met l yX13_readNot (Cond.code yX13_readNot cX13_readNot 2 none :: wM) { frames := 12 * (d + 1) + 20, cells := 0, slots := 0, locals := 140 * (d + 1) + 400 } (va_Pc [.ref (Q 72)] (mPM G Z Q u sz)) (mQv G Q u1 sz) 0 0 (mA Q sz) := by
  refine Met.ofW (cc := cX13_readNot) (maxL := 2) (ret := none) (by decide) rfl ?_
  intro p e s m args below meth c s₁ B hml hv
  obtain ⟨rfl, rfl, hP, hB, hD, hE⟩ := hv
  have hr := B.returns
  have hlocks := B.notSynchronized
  have hts := atoms_spec (ws := Cond.code yX13_readNot cX13_readNot 2 none :: wM) B.pre
  have hC : mX p c cX13_readNot 2 s m _ G Z Q := ⟨B.exec, B.bytes, hml, findClass_of_methodNamed B.named, fun w h => hts w (List.mem_cons_of_mem _ h), hB, hE⟩
  have hx := hC.1
  have hb := hC.2.1
  have hH : mH G Q u s s.heap [] := ⟨hP, hD, va_S.rf⟩
  have hl := lv_entry ([.ref (Q 72)]) (n := 2) (Nat.le_of_ble_eq_true rfl)
  rw [lg_entry_eq]
  generalize (lg_sl ([.ref (Q 72)]) ++ List.replicate (2 - (lg_sl ([.ref (Q 72)])).length) Slot.unset).toArray = ls at hl ⊢
  have hl : lv_has ls 2 [(0, .ref (Q 72))] := hl
  unfold bd_readNot at hF
  refine lv_aload_n hx hb dX13_readNot_0 rfl (lv_at hl 0 rfl) ?_
  refine th_ldcw (tx := sTx 8) hx hb hC.2.2.2.1 (hC.2.2.2.2.2.2.2.2.1 8 (by decide)) dX13_readNot_1 ?_
  obtain ⟨r_1, u_2, h_3, hF⟩ := ob_some hF
  refine mcV_i (As := [.ref (Z.1 8)]) (rest := []) hC hH (m_is l G Z Q u u_2 r_1 8 _ h_3 (by decide)) kwX13_is kVX13_is ⟨by show _ ≤ 12 * (d + 1) + 20; omega, by show _ ≤ 140 * (d + 1) + 400; omega⟩ rfl hl.1 rfl (Nat.le_of_ble_eq_true rfl) dX13_readNot_4 (fun H locs hH => ?_)
  refine lv_if_eq (tgt := 49) hx hb dX13_readNot_7 (by decide) (fun c_4 => ?_) (fun c_4 => ?_)
  · rw [if_pos c_4] at hF
    refine lv_aload_n hx hb dX13_readNot_49 rfl (lv_at hl 0 rfl) ?_
    refine th_ldcw (tx := sTx 15) hx hb hC.2.2.2.1 (hC.2.2.2.2.2.2.2.2.1 15 (by decide)) dX13_readNot_50 ?_
    obtain ⟨r_5, u_6, h_7, hF⟩ := ob_some hF
    refine mcV_i (As := [.ref (Z.1 15)]) (rest := []) hC hH (m_is l G Z Q u_2 u_6 r_5 15 _ h_7 (by decide)) kwX13_is kVX13_is ⟨by show _ ≤ 12 * (d + 1) + 20; omega, by show _ ≤ 140 * (d + 1) + 400; omega⟩ rfl hl.1 rfl (Nat.le_of_ble_eq_true rfl) dX13_readNot_53 (fun H locs hH => ?_)
    refine lv_if_eq (tgt := 85) hx hb dX13_readNot_56 (by decide) (fun c_8 => ?_) (fun c_8 => ?_)
    · rw [if_pos c_8] at hF
      refine lv_aload_n hx hb dX13_readNot_85 rfl (lv_at hl 0 rfl) ?_
      refine th_ldcw (tx := sTx 9) hx hb hC.2.2.2.1 (hC.2.2.2.2.2.2.2.2.1 9 (by decide)) dX13_readNot_86 ?_
      obtain ⟨r_9, u_10, h_11, hF⟩ := ob_some hF
      refine mcV_i (As := [.ref (Z.1 9)]) (rest := []) hC hH (m_is l G Z Q u_6 u_10 r_9 9 _ h_11 (by decide)) kwX13_is kVX13_is ⟨by show _ ≤ 12 * (d + 1) + 20; omega, by show _ ≤ 140 * (d + 1) + 400; omega⟩ rfl hl.1 rfl (Nat.le_of_ble_eq_true rfl) dX13_readNot_89 (fun H locs hH => ?_)
      refine lv_if_ne (tgt := 105) hx hb dX13_readNot_92 (by decide) (fun c_12 => ?_) (fun c_12 => ?_)
      · rw [if_neg c_12] at hF
        refine lv_aload_n hx hb dX13_readNot_105 rfl (lv_at hl 0 rfl) ?_
        obtain ⟨r_13, u_14, h_15, hF⟩ := ob_some hF
        cases r_13 with
        | none =>
          have hF := ot_none hF
          cases hF
        | some r_16 =>
          have hF := ot_some hF
          refine mcV_v (As := []) (rest := []) hC hH (m_counts l G Z Q u_10 u_14 r_16  _ h_15) kwX13_counts kVX13_counts ⟨by show _ ≤ 12 * (d + 1) + 20; omega, by show _ ≤ 140 * (d + 1) + 400; omega⟩ rfl hl.1 rfl (Nat.le_of_ble_eq_true rfl) dX13_readNot_106 (fun H locs hH => ?_)
          refine lv_aload_n hx hb dX13_readNot_109 rfl (lv_at hl 0 rfl) ?_
          refine lv_aload_n hx hb dX13_readNot_110 rfl (lv_at hl 0 rfl) ?_
          refine th_ldcw (tx := sTx 9) hx hb hC.2.2.2.1 (hC.2.2.2.2.2.2.2.2.1 9 (by decide)) dX13_readNot_111 ?_
          obtain ⟨r_17, u_18, h_19, hF⟩ := ob_some hF
          refine mcV_i (As := [.ref (Z.1 9)]) (rest := [.ref (Q 72)]) hC hH (m_is l G Z Q u_14 u_18 r_17 9 _ h_19 (by decide)) kwX13_is kVX13_is ⟨by show _ ≤ 12 * (d + 1) + 20; omega, by show _ ≤ 140 * (d + 1) + 400; omega⟩ rfl hl.1 rfl (Nat.le_of_ble_eq_true rfl) dX13_readNot_114 (fun H locs hH => ?_)
          refine lv_if_eq (tgt := 124) hx hb dX13_readNot_117 (by decide) (fun c_20 => ?_) (fun c_20 => ?_)
          · rw [if_pos c_20] at hF
            refine lv_iconst (v := 5) hx hb dX13_readNot_124 (by decide) ?_
            refine lv_iconst (v := 0) hx hb dX13_readNot_125 (by decide) ?_
            obtain ⟨r_21, u_22, h_23, hF⟩ := ob_some hF
            refine mcV_v (As := [.int 5, .int 0]) (rest := []) hC hH (m_put l G Z Q u_18 u_22 r_21 5 0 _ h_23) kwX13_put kVX13_put ⟨by show _ ≤ 12 * (d + 1) + 20; omega, by show _ ≤ 140 * (d + 1) + 400; omega⟩ rfl hl.1 rfl (Nat.le_of_ble_eq_true rfl) dX13_readNot_126 (fun H locs hH => ?_)
            refine lv_aload_n hx hb dX13_readNot_129 rfl (lv_at hl 0 rfl) ?_
            obtain ⟨r_24, u_25, h_26, hF⟩ := ob_some hF
            refine mcV_v (As := []) (rest := []) hC hH (m_scan l G Z Q u_22 u_25 r_24  _ h_26) kwX13_scan kVX13_scan ⟨by show _ ≤ 12 * (d + 1) + 20; omega, by show _ ≤ 140 * (d + 1) + 400; omega⟩ rfl hl.1 rfl (Nat.le_of_ble_eq_true rfl) dX13_readNot_130 (fun H locs hH => ?_)
            have hF := mthr_eq hF
            exact mr_v hC hH hr hF dX13_readNot_133 hlocks
          · rw [if_neg c_20] at hF
            refine lv_iconst (v := 4) hx hb dX13_readNot_120 (by decide) ?_
            refine lv_goto (tgt := 125) hx hb dX13_readNot_121 (by decide) ?_
            refine lv_iconst (v := 0) hx hb dX13_readNot_125 (by decide) ?_
            obtain ⟨r_27, u_28, h_29, hF⟩ := ob_some hF
            refine mcV_v (As := [.int 4, .int 0]) (rest := []) hC hH (m_put l G Z Q u_18 u_28 r_27 4 0 _ h_29) kwX13_put kVX13_put ⟨by show _ ≤ 12 * (d + 1) + 20; omega, by show _ ≤ 140 * (d + 1) + 400; omega⟩ rfl hl.1 rfl (Nat.le_of_ble_eq_true rfl) dX13_readNot_126 (fun H locs hH => ?_)
            refine lv_aload_n hx hb dX13_readNot_129 rfl (lv_at hl 0 rfl) ?_
            obtain ⟨r_30, u_31, h_32, hF⟩ := ob_some hF
            refine mcV_v (As := []) (rest := []) hC hH (m_scan l G Z Q u_28 u_31 r_30  _ h_32) kwX13_scan kVX13_scan ⟨by show _ ≤ 12 * (d + 1) + 20; omega, by show _ ≤ 140 * (d + 1) + 400; omega⟩ rfl hl.1 rfl (Nat.le_of_ble_eq_true rfl) dX13_readNot_130 (fun H locs hH => ?_)
            have hF := mthr_eq hF
            exact mr_v hC hH hr hF dX13_readNot_133 hlocks
      · rw [if_pos c_12] at hF
        refine lv_aload_n hx hb dX13_readNot_95 rfl (lv_at hl 0 rfl) ?_
        refine th_ldcw (tx := sTx 10) hx hb hC.2.2.2.1 (hC.2.2.2.2.2.2.2.2.1 10 (by decide)) dX13_readNot_96 ?_
        obtain ⟨r_33, u_34, h_35, hF⟩ := ob_some hF
        refine mcV_i (As := [.ref (Z.1 10)]) (rest := []) hC hH (m_is l G Z Q u_10 u_34 r_33 10 _ h_35 (by decide)) kwX13_is kVX13_is ⟨by show _ ≤ 12 * (d + 1) + 20; omega, by show _ ≤ 140 * (d + 1) + 400; omega⟩ rfl hl.1 rfl (Nat.le_of_ble_eq_true rfl) dX13_readNot_99 (fun H locs hH => ?_)
        refine lv_if_eq (tgt := 134) hx hb dX13_readNot_102 (by decide) (fun c_36 => ?_) (fun c_36 => ?_)
        · rw [if_pos c_36] at hF
          refine lv_aload_n hx hb dX13_readNot_134 rfl (lv_at hl 0 rfl) ?_
          obtain ⟨r_37, u_38, h_39, hF⟩ := ob_some hF
          cases r_37 with
          | none =>
            have hF := ot_none hF
            cases hF
          | some r_40 =>
            have hF := ot_some hF
            refine mcV_v (As := []) (rest := []) hC hH (m_readSum l G Z Q u_34 u_38 r_40  _ h_39) kwX13_readSum kVX13_readSum ⟨by show _ ≤ 12 * (d + 1) + 20; omega, by show _ ≤ 140 * (d + 1) + 400; omega⟩ rfl hl.1 rfl (Nat.le_of_ble_eq_true rfl) dX13_readNot_135 (fun H locs hH => ?_)
            refine lv_aload_n hx hb dX13_readNot_138 rfl (lv_at hl 0 rfl) ?_
            refine th_ldcw (tx := sTx 17) hx hb hC.2.2.2.1 (hC.2.2.2.2.2.2.2.2.1 17 (by decide)) dX13_readNot_139 ?_
            obtain ⟨r_41, u_42, h_43, hF⟩ := ob_some hF
            refine mcV_i (As := [.ref (Z.1 17)]) (rest := []) hC hH (m_is l G Z Q u_38 u_42 r_41 17 _ h_43 (by decide)) kwX13_is kVX13_is ⟨by show _ ≤ 12 * (d + 1) + 20; omega, by show _ ≤ 140 * (d + 1) + 400; omega⟩ rfl hl.1 rfl (Nat.le_of_ble_eq_true rfl) dX13_readNot_142 (fun H locs hH => ?_)
            refine lv_if_eq (tgt := 153) hx hb dX13_readNot_145 (by decide) (fun c_44 => ?_) (fun c_44 => ?_)
            · rw [if_pos c_44] at hF
              refine lv_aload_n hx hb dX13_readNot_153 rfl (lv_at hl 0 rfl) ?_
              refine th_ldcw (tx := sTx 18) hx hb hC.2.2.2.1 (hC.2.2.2.2.2.2.2.2.1 18 (by decide)) dX13_readNot_154 ?_
              obtain ⟨r_45, u_46, h_47, hF⟩ := ob_some hF
              refine mcV_i (As := [.ref (Z.1 18)]) (rest := []) hC hH (m_is l G Z Q u_42 u_46 r_45 18 _ h_47 (by decide)) kwX13_is kVX13_is ⟨by show _ ≤ 12 * (d + 1) + 20; omega, by show _ ≤ 140 * (d + 1) + 400; omega⟩ rfl hl.1 rfl (Nat.le_of_ble_eq_true rfl) dX13_readNot_157 (fun H locs hH => ?_)
              refine lv_if_eq (tgt := 168) hx hb dX13_readNot_160 (by decide) (fun c_48 => ?_) (fun c_48 => ?_)
              · rw [if_pos c_48] at hF
                refine lv_aload_n hx hb dX13_readNot_168 rfl (lv_at hl 0 rfl) ?_
                refine th_ldcw (tx := sTx 19) hx hb hC.2.2.2.1 (hC.2.2.2.2.2.2.2.2.1 19 (by decide)) dX13_readNot_169 ?_
                obtain ⟨r_49, u_50, h_51, hF⟩ := ob_some hF
                refine mcV_i (As := [.ref (Z.1 19)]) (rest := []) hC hH (m_is l G Z Q u_46 u_50 r_49 19 _ h_51 (by decide)) kwX13_is kVX13_is ⟨by show _ ≤ 12 * (d + 1) + 20; omega, by show _ ≤ 140 * (d + 1) + 400; omega⟩ rfl hl.1 rfl (Nat.le_of_ble_eq_true rfl) dX13_readNot_172 (fun H locs hH => ?_)
                refine lv_if_eq (tgt := 183) hx hb dX13_readNot_175 (by decide) (fun c_52 => ?_) (fun c_52 => ?_)
                · rw [if_pos c_52] at hF
                  refine lv_aload_n hx hb dX13_readNot_183 rfl (lv_at hl 0 rfl) ?_
                  refine th_ldcw (tx := sTx 20) hx hb hC.2.2.2.1 (hC.2.2.2.2.2.2.2.2.1 20 (by decide)) dX13_readNot_184 ?_
                  obtain ⟨r_53, u_54, h_55, hF⟩ := ob_some hF
                  refine mcV_i (As := [.ref (Z.1 20)]) (rest := []) hC hH (m_is l G Z Q u_50 u_54 r_53 20 _ h_55 (by decide)) kwX13_is kVX13_is ⟨by show _ ≤ 12 * (d + 1) + 20; omega, by show _ ≤ 140 * (d + 1) + 400; omega⟩ rfl hl.1 rfl (Nat.le_of_ble_eq_true rfl) dX13_readNot_187 (fun H locs hH => ?_)
                  refine lv_if_eq (tgt := 198) hx hb dX13_readNot_190 (by decide) (fun c_56 => ?_) (fun c_56 => ?_)
                  · rw [if_pos c_56] at hF
                    refine lv_aload_n hx hb dX13_readNot_198 rfl (lv_at hl 0 rfl) ?_
                    refine th_ldcw (tx := sTx 21) hx hb hC.2.2.2.1 (hC.2.2.2.2.2.2.2.2.1 21 (by decide)) dX13_readNot_199 ?_
                    obtain ⟨r_57, u_58, h_59, hF⟩ := ob_some hF
                    refine mcV_i (As := [.ref (Z.1 21)]) (rest := []) hC hH (m_is l G Z Q u_54 u_58 r_57 21 _ h_59 (by decide)) kwX13_is kVX13_is ⟨by show _ ≤ 12 * (d + 1) + 20; omega, by show _ ≤ 140 * (d + 1) + 400; omega⟩ rfl hl.1 rfl (Nat.le_of_ble_eq_true rfl) dX13_readNot_202 (fun H locs hH => ?_)
                    refine lv_if_eq (tgt := 213) hx hb dX13_readNot_205 (by decide) (fun c_60 => ?_) (fun c_60 => ?_)
                    · rw [if_pos c_60] at hF
                      refine lv_aload_n hx hb dX13_readNot_213 rfl (lv_at hl 0 rfl) ?_
                      refine th_ldcw (tx := sTx 22) hx hb hC.2.2.2.1 (hC.2.2.2.2.2.2.2.2.1 22 (by decide)) dX13_readNot_214 ?_
                      obtain ⟨r_61, u_62, h_63, hF⟩ := ob_some hF
                      refine mcV_i (As := [.ref (Z.1 22)]) (rest := []) hC hH (m_is l G Z Q u_58 u_62 r_61 22 _ h_63 (by decide)) kwX13_is kVX13_is ⟨by show _ ≤ 12 * (d + 1) + 20; omega, by show _ ≤ 140 * (d + 1) + 400; omega⟩ rfl hl.1 rfl (Nat.le_of_ble_eq_true rfl) dX13_readNot_217 (fun H locs hH => ?_)
                      refine lv_if_eq (tgt := 228) hx hb dX13_readNot_220 (by decide) (fun c_64 => ?_) (fun c_64 => ?_)
                      · rw [if_pos c_64] at hF
                        refine lv_iconst (v := (-1)) hx hb dX13_readNot_228 (by decide) ?_
                        refine lv_istore_n (lv' := [(1, .int (-1)), (0, .ref (Q 72))]) hx hb dX13_readNot_229 rfl hl (by decide) rfl (fun ls hl => ?_)
                        refine lv_iload_n hx hb dX13_readNot_230 rfl (lv_at hl 0 rfl) ?_
                        refine lv_iconst (v := (-1)) hx hb dX13_readNot_231 (by decide) ?_
                        refine lv_icmp_ne (tgt := 245) hx hb dX13_readNot_232 (by decide) (fun c_65 => ?_) (fun c_65 => ?_)
                        · rw [if_neg c_65] at hF
                          refine lv_aload_n hx hb dX13_readNot_245 rfl (lv_at hl 1 rfl) ?_
                          obtain ⟨r_66, u_67, h_68, hF⟩ := ob_some hF
                          cases r_66 with
                          | none =>
                            have hF := ot_none hF
                            cases hF
                          | some r_69 =>
                            have hF := ot_some hF
                            refine mcV_v (As := []) (rest := []) hC hH (m_hold l G Z Q u_62 u_67 r_69  _ h_68) kwX13_hold kVX13_hold ⟨by show _ ≤ 12 * (d + 1) + 20; omega, by show _ ≤ 140 * (d + 1) + 400; omega⟩ rfl hl.1 rfl (Nat.le_of_ble_eq_true rfl) dX13_readNot_246 (fun H locs hH => ?_)
                            refine lv_aload_n hx hb dX13_readNot_249 rfl (lv_at hl 1 rfl) ?_
                            obtain ⟨r_70, u_71, h_72, hF⟩ := ob_some hF
                            refine mcV_v (As := []) (rest := []) hC hH (m_scan l G Z Q u_67 u_71 r_70  _ h_72) kwX13_scan kVX13_scan ⟨by show _ ≤ 12 * (d + 1) + 20; omega, by show _ ≤ 140 * (d + 1) + 400; omega⟩ rfl hl.1 rfl (Nat.le_of_ble_eq_true rfl) dX13_readNot_250 (fun H locs hH => ?_)
                            refine lv_aload_n hx hb dX13_readNot_253 rfl (lv_at hl 1 rfl) ?_
                            obtain ⟨r_73, u_74, h_75, hF⟩ := ob_some hF
                            cases r_73 with
                            | none =>
                              have hF := ot_none hF
                              cases hF
                            | some r_76 =>
                              have hF := ot_some hF
                              refine mcV_v (As := []) (rest := []) hC hH (m_readSum l G Z Q u_71 u_74 r_76  _ h_75) kwX13_readSum kVX13_readSum ⟨by show _ ≤ 12 * (d + 1) + 20; omega, by show _ ≤ 140 * (d + 1) + 400; omega⟩ rfl hl.1 rfl (Nat.le_of_ble_eq_true rfl) dX13_readNot_254 (fun H locs hH => ?_)
                              refine lv_aload_n hx hb dX13_readNot_257 rfl (lv_at hl 1 rfl) ?_
                              refine lv_iload_n hx hb dX13_readNot_258 rfl (lv_at hl 0 rfl) ?_
                              obtain ⟨r_77, u_78, h_79, hF⟩ := ob_some hF
                              refine mcV_v (As := [.int (-1)]) (rest := []) hC hH (m_release l G Z Q u_74 u_78 r_77 (-1) _ h_79) kwX13_release kVX13_release ⟨by show _ ≤ 12 * (d + 1) + 20; omega, by show _ ≤ 140 * (d + 1) + 400; omega⟩ rfl hl.1 rfl (Nat.le_of_ble_eq_true rfl) dX13_readNot_259 (fun H locs hH => ?_)
                              have hF := mthr_eq hF
                              exact mr_v hC hH hr hF dX13_readNot_262 hlocks
                        · rw [if_pos c_65] at hF
                          refine lv_aload_n hx hb dX13_readNot_235 rfl (lv_at hl 1 rfl) ?_
                          refine lv_iconst (v := 1) hx hb dX13_readNot_236 (by decide) ?_
                          refine lv_aload_n hx hb dX13_readNot_237 rfl (lv_at hl 1 rfl) ?_
                          refine mg_44 hC hH dX13_readNot_238 ?_
                          obtain ⟨r_80, u_81, h_82, hF⟩ := ob_some hF
                          refine mcV_r (As := [.int 1, .int (u_62.1 44)]) (rest := []) hC hH (m_wrong l G Z Q u_62 u_81 r_80 1 (u_62.1 44) _ h_82) kwX13_wrong kVX13_wrong ⟨by show _ ≤ 12 * (d + 1) + 20; omega, by show _ ≤ 140 * (d + 1) + 400; omega⟩ rfl hl.1 rfl (Nat.le_of_ble_eq_true rfl) dX13_readNot_241 (fun H locs hH => ?_)
                          cases hF
                      · rw [if_neg c_64] at hF
                        refine lv_bipush (v := 14) hx hb dX13_readNot_223 (by decide) ?_
                        refine lv_goto (tgt := 229) hx hb dX13_readNot_225 (by decide) ?_
                        refine lv_istore_n (lv' := [(1, .int 14), (0, .ref (Q 72))]) hx hb dX13_readNot_229 rfl hl (by decide) rfl (fun ls hl => ?_)
                        refine lv_iload_n hx hb dX13_readNot_230 rfl (lv_at hl 0 rfl) ?_
                        refine lv_iconst (v := (-1)) hx hb dX13_readNot_231 (by decide) ?_
                        refine lv_icmp_ne (tgt := 245) hx hb dX13_readNot_232 (by decide) (fun c_83 => ?_) (fun c_83 => ?_)
                        · rw [if_neg c_83] at hF
                          refine lv_aload_n hx hb dX13_readNot_245 rfl (lv_at hl 1 rfl) ?_
                          obtain ⟨r_84, u_85, h_86, hF⟩ := ob_some hF
                          cases r_84 with
                          | none =>
                            have hF := ot_none hF
                            cases hF
                          | some r_87 =>
                            have hF := ot_some hF
                            refine mcV_v (As := []) (rest := []) hC hH (m_hold l G Z Q u_62 u_85 r_87  _ h_86) kwX13_hold kVX13_hold ⟨by show _ ≤ 12 * (d + 1) + 20; omega, by show _ ≤ 140 * (d + 1) + 400; omega⟩ rfl hl.1 rfl (Nat.le_of_ble_eq_true rfl) dX13_readNot_246 (fun H locs hH => ?_)
                            refine lv_aload_n hx hb dX13_readNot_249 rfl (lv_at hl 1 rfl) ?_
                            obtain ⟨r_88, u_89, h_90, hF⟩ := ob_some hF
                            refine mcV_v (As := []) (rest := []) hC hH (m_scan l G Z Q u_85 u_89 r_88  _ h_90) kwX13_scan kVX13_scan ⟨by show _ ≤ 12 * (d + 1) + 20; omega, by show _ ≤ 140 * (d + 1) + 400; omega⟩ rfl hl.1 rfl (Nat.le_of_ble_eq_true rfl) dX13_readNot_250 (fun H locs hH => ?_)
                            refine lv_aload_n hx hb dX13_readNot_253 rfl (lv_at hl 1 rfl) ?_
                            obtain ⟨r_91, u_92, h_93, hF⟩ := ob_some hF
                            cases r_91 with
                            | none =>
                              have hF := ot_none hF
                              cases hF
                            | some r_94 =>
                              have hF := ot_some hF
                              refine mcV_v (As := []) (rest := []) hC hH (m_readSum l G Z Q u_89 u_92 r_94  _ h_93) kwX13_readSum kVX13_readSum ⟨by show _ ≤ 12 * (d + 1) + 20; omega, by show _ ≤ 140 * (d + 1) + 400; omega⟩ rfl hl.1 rfl (Nat.le_of_ble_eq_true rfl) dX13_readNot_254 (fun H locs hH => ?_)
                              refine lv_aload_n hx hb dX13_readNot_257 rfl (lv_at hl 1 rfl) ?_
                              refine lv_iload_n hx hb dX13_readNot_258 rfl (lv_at hl 0 rfl) ?_
                              obtain ⟨r_95, u_96, h_97, hF⟩ := ob_some hF
                              refine mcV_v (As := [.int 14]) (rest := []) hC hH (m_release l G Z Q u_92 u_96 r_95 14 _ h_97) kwX13_release kVX13_release ⟨by show _ ≤ 12 * (d + 1) + 20; omega, by show _ ≤ 140 * (d + 1) + 400; omega⟩ rfl hl.1 rfl (Nat.le_of_ble_eq_true rfl) dX13_readNot_259 (fun H locs hH => ?_)
                              have hF := mthr_eq hF
                              exact mr_v hC hH hr hF dX13_readNot_262 hlocks
                        · rw [if_pos c_83] at hF
                          refine lv_aload_n hx hb dX13_readNot_235 rfl (lv_at hl 1 rfl) ?_
                          refine lv_iconst (v := 1) hx hb dX13_readNot_236 (by decide) ?_
                          refine lv_aload_n hx hb dX13_readNot_237 rfl (lv_at hl 1 rfl) ?_
                          refine mg_44 hC hH dX13_readNot_238 ?_
                          obtain ⟨r_98, u_99, h_100, hF⟩ := ob_some hF
                          refine mcV_r (As := [.int 1, .int (u_62.1 44)]) (rest := []) hC hH (m_wrong l G Z Q u_62 u_99 r_98 1 (u_62.1 44) _ h_100) kwX13_wrong kVX13_wrong ⟨by show _ ≤ 12 * (d + 1) + 20; omega, by show _ ≤ 140 * (d + 1) + 400; omega⟩ rfl hl.1 rfl (Nat.le_of_ble_eq_true rfl) dX13_readNot_241 (fun H locs hH => ?_)
                          cases hF
                    · rw [if_neg c_60] at hF
                      refine lv_bipush (v := 13) hx hb dX13_readNot_208 (by decide) ?_
                      refine lv_goto (tgt := 229) hx hb dX13_readNot_210 (by decide) ?_
                      refine lv_istore_n (lv' := [(1, .int 13), (0, .ref (Q 72))]) hx hb dX13_readNot_229 rfl hl (by decide) rfl (fun ls hl => ?_)
                      refine lv_iload_n hx hb dX13_readNot_230 rfl (lv_at hl 0 rfl) ?_
                      refine lv_iconst (v := (-1)) hx hb dX13_readNot_231 (by decide) ?_
                      refine lv_icmp_ne (tgt := 245) hx hb dX13_readNot_232 (by decide) (fun c_101 => ?_) (fun c_101 => ?_)
                      · rw [if_neg c_101] at hF
                        refine lv_aload_n hx hb dX13_readNot_245 rfl (lv_at hl 1 rfl) ?_
                        obtain ⟨r_102, u_103, h_104, hF⟩ := ob_some hF
                        cases r_102 with
                        | none =>
                          have hF := ot_none hF
                          cases hF
                        | some r_105 =>
                          have hF := ot_some hF
                          refine mcV_v (As := []) (rest := []) hC hH (m_hold l G Z Q u_58 u_103 r_105  _ h_104) kwX13_hold kVX13_hold ⟨by show _ ≤ 12 * (d + 1) + 20; omega, by show _ ≤ 140 * (d + 1) + 400; omega⟩ rfl hl.1 rfl (Nat.le_of_ble_eq_true rfl) dX13_readNot_246 (fun H locs hH => ?_)
                          refine lv_aload_n hx hb dX13_readNot_249 rfl (lv_at hl 1 rfl) ?_
                          obtain ⟨r_106, u_107, h_108, hF⟩ := ob_some hF
                          refine mcV_v (As := []) (rest := []) hC hH (m_scan l G Z Q u_103 u_107 r_106  _ h_108) kwX13_scan kVX13_scan ⟨by show _ ≤ 12 * (d + 1) + 20; omega, by show _ ≤ 140 * (d + 1) + 400; omega⟩ rfl hl.1 rfl (Nat.le_of_ble_eq_true rfl) dX13_readNot_250 (fun H locs hH => ?_)
                          refine lv_aload_n hx hb dX13_readNot_253 rfl (lv_at hl 1 rfl) ?_
                          obtain ⟨r_109, u_110, h_111, hF⟩ := ob_some hF
                          cases r_109 with
                          | none =>
                            have hF := ot_none hF
                            cases hF
                          | some r_112 =>
                            have hF := ot_some hF
                            refine mcV_v (As := []) (rest := []) hC hH (m_readSum l G Z Q u_107 u_110 r_112  _ h_111) kwX13_readSum kVX13_readSum ⟨by show _ ≤ 12 * (d + 1) + 20; omega, by show _ ≤ 140 * (d + 1) + 400; omega⟩ rfl hl.1 rfl (Nat.le_of_ble_eq_true rfl) dX13_readNot_254 (fun H locs hH => ?_)
                            refine lv_aload_n hx hb dX13_readNot_257 rfl (lv_at hl 1 rfl) ?_
                            refine lv_iload_n hx hb dX13_readNot_258 rfl (lv_at hl 0 rfl) ?_
                            obtain ⟨r_113, u_114, h_115, hF⟩ := ob_some hF
                            refine mcV_v (As := [.int 13]) (rest := []) hC hH (m_release l G Z Q u_110 u_114 r_113 13 _ h_115) kwX13_release kVX13_release ⟨by show _ ≤ 12 * (d + 1) + 20; omega, by show _ ≤ 140 * (d + 1) + 400; omega⟩ rfl hl.1 rfl (Nat.le_of_ble_eq_true rfl) dX13_readNot_259 (fun H locs hH => ?_)
                            have hF := mthr_eq hF
                            exact mr_v hC hH hr hF dX13_readNot_262 hlocks
                      · rw [if_pos c_101] at hF
                        refine lv_aload_n hx hb dX13_readNot_235 rfl (lv_at hl 1 rfl) ?_
                        refine lv_iconst (v := 1) hx hb dX13_readNot_236 (by decide) ?_
                        refine lv_aload_n hx hb dX13_readNot_237 rfl (lv_at hl 1 rfl) ?_
                        refine mg_44 hC hH dX13_readNot_238 ?_
                        obtain ⟨r_116, u_117, h_118, hF⟩ := ob_some hF
                        refine mcV_r (As := [.int 1, .int (u_58.1 44)]) (rest := []) hC hH (m_wrong l G Z Q u_58 u_117 r_116 1 (u_58.1 44) _ h_118) kwX13_wrong kVX13_wrong ⟨by show _ ≤ 12 * (d + 1) + 20; omega, by show _ ≤ 140 * (d + 1) + 400; omega⟩ rfl hl.1 rfl (Nat.le_of_ble_eq_true rfl) dX13_readNot_241 (fun H locs hH => ?_)
                        cases hF
                  · rw [if_neg c_56] at hF
                    refine lv_bipush (v := 12) hx hb dX13_readNot_193 (by decide) ?_
                    refine lv_goto (tgt := 229) hx hb dX13_readNot_195 (by decide) ?_
                    refine lv_istore_n (lv' := [(1, .int 12), (0, .ref (Q 72))]) hx hb dX13_readNot_229 rfl hl (by decide) rfl (fun ls hl => ?_)
                    refine lv_iload_n hx hb dX13_readNot_230 rfl (lv_at hl 0 rfl) ?_
                    refine lv_iconst (v := (-1)) hx hb dX13_readNot_231 (by decide) ?_
                    refine lv_icmp_ne (tgt := 245) hx hb dX13_readNot_232 (by decide) (fun c_119 => ?_) (fun c_119 => ?_)
                    · rw [if_neg c_119] at hF
                      refine lv_aload_n hx hb dX13_readNot_245 rfl (lv_at hl 1 rfl) ?_
                      obtain ⟨r_120, u_121, h_122, hF⟩ := ob_some hF
                      cases r_120 with
                      | none =>
                        have hF := ot_none hF
                        cases hF
                      | some r_123 =>
                        have hF := ot_some hF
                        refine mcV_v (As := []) (rest := []) hC hH (m_hold l G Z Q u_54 u_121 r_123  _ h_122) kwX13_hold kVX13_hold ⟨by show _ ≤ 12 * (d + 1) + 20; omega, by show _ ≤ 140 * (d + 1) + 400; omega⟩ rfl hl.1 rfl (Nat.le_of_ble_eq_true rfl) dX13_readNot_246 (fun H locs hH => ?_)
                        refine lv_aload_n hx hb dX13_readNot_249 rfl (lv_at hl 1 rfl) ?_
                        obtain ⟨r_124, u_125, h_126, hF⟩ := ob_some hF
                        refine mcV_v (As := []) (rest := []) hC hH (m_scan l G Z Q u_121 u_125 r_124  _ h_126) kwX13_scan kVX13_scan ⟨by show _ ≤ 12 * (d + 1) + 20; omega, by show _ ≤ 140 * (d + 1) + 400; omega⟩ rfl hl.1 rfl (Nat.le_of_ble_eq_true rfl) dX13_readNot_250 (fun H locs hH => ?_)
                        refine lv_aload_n hx hb dX13_readNot_253 rfl (lv_at hl 1 rfl) ?_
                        obtain ⟨r_127, u_128, h_129, hF⟩ := ob_some hF
                        cases r_127 with
                        | none =>
                          have hF := ot_none hF
                          cases hF
                        | some r_130 =>
                          have hF := ot_some hF
                          refine mcV_v (As := []) (rest := []) hC hH (m_readSum l G Z Q u_125 u_128 r_130  _ h_129) kwX13_readSum kVX13_readSum ⟨by show _ ≤ 12 * (d + 1) + 20; omega, by show _ ≤ 140 * (d + 1) + 400; omega⟩ rfl hl.1 rfl (Nat.le_of_ble_eq_true rfl) dX13_readNot_254 (fun H locs hH => ?_)
                          refine lv_aload_n hx hb dX13_readNot_257 rfl (lv_at hl 1 rfl) ?_
                          refine lv_iload_n hx hb dX13_readNot_258 rfl (lv_at hl 0 rfl) ?_
                          obtain ⟨r_131, u_132, h_133, hF⟩ := ob_some hF
                          refine mcV_v (As := [.int 12]) (rest := []) hC hH (m_release l G Z Q u_128 u_132 r_131 12 _ h_133) kwX13_release kVX13_release ⟨by show _ ≤ 12 * (d + 1) + 20; omega, by show _ ≤ 140 * (d + 1) + 400; omega⟩ rfl hl.1 rfl (Nat.le_of_ble_eq_true rfl) dX13_readNot_259 (fun H locs hH => ?_)
                          have hF := mthr_eq hF
                          exact mr_v hC hH hr hF dX13_readNot_262 hlocks
                    · rw [if_pos c_119] at hF
                      refine lv_aload_n hx hb dX13_readNot_235 rfl (lv_at hl 1 rfl) ?_
                      refine lv_iconst (v := 1) hx hb dX13_readNot_236 (by decide) ?_
                      refine lv_aload_n hx hb dX13_readNot_237 rfl (lv_at hl 1 rfl) ?_
                      refine mg_44 hC hH dX13_readNot_238 ?_
                      obtain ⟨r_134, u_135, h_136, hF⟩ := ob_some hF
                      refine mcV_r (As := [.int 1, .int (u_54.1 44)]) (rest := []) hC hH (m_wrong l G Z Q u_54 u_135 r_134 1 (u_54.1 44) _ h_136) kwX13_wrong kVX13_wrong ⟨by show _ ≤ 12 * (d + 1) + 20; omega, by show _ ≤ 140 * (d + 1) + 400; omega⟩ rfl hl.1 rfl (Nat.le_of_ble_eq_true rfl) dX13_readNot_241 (fun H locs hH => ?_)
                      cases hF
                · rw [if_neg c_52] at hF
                  refine lv_bipush (v := 11) hx hb dX13_readNot_178 (by decide) ?_
                  refine lv_goto (tgt := 229) hx hb dX13_readNot_180 (by decide) ?_
                  refine lv_istore_n (lv' := [(1, .int 11), (0, .ref (Q 72))]) hx hb dX13_readNot_229 rfl hl (by decide) rfl (fun ls hl => ?_)
                  refine lv_iload_n hx hb dX13_readNot_230 rfl (lv_at hl 0 rfl) ?_
                  refine lv_iconst (v := (-1)) hx hb dX13_readNot_231 (by decide) ?_
                  refine lv_icmp_ne (tgt := 245) hx hb dX13_readNot_232 (by decide) (fun c_137 => ?_) (fun c_137 => ?_)
                  · rw [if_neg c_137] at hF
                    refine lv_aload_n hx hb dX13_readNot_245 rfl (lv_at hl 1 rfl) ?_
                    obtain ⟨r_138, u_139, h_140, hF⟩ := ob_some hF
                    cases r_138 with
                    | none =>
                      have hF := ot_none hF
                      cases hF
                    | some r_141 =>
                      have hF := ot_some hF
                      refine mcV_v (As := []) (rest := []) hC hH (m_hold l G Z Q u_50 u_139 r_141  _ h_140) kwX13_hold kVX13_hold ⟨by show _ ≤ 12 * (d + 1) + 20; omega, by show _ ≤ 140 * (d + 1) + 400; omega⟩ rfl hl.1 rfl (Nat.le_of_ble_eq_true rfl) dX13_readNot_246 (fun H locs hH => ?_)
                      refine lv_aload_n hx hb dX13_readNot_249 rfl (lv_at hl 1 rfl) ?_
                      obtain ⟨r_142, u_143, h_144, hF⟩ := ob_some hF
                      refine mcV_v (As := []) (rest := []) hC hH (m_scan l G Z Q u_139 u_143 r_142  _ h_144) kwX13_scan kVX13_scan ⟨by show _ ≤ 12 * (d + 1) + 20; omega, by show _ ≤ 140 * (d + 1) + 400; omega⟩ rfl hl.1 rfl (Nat.le_of_ble_eq_true rfl) dX13_readNot_250 (fun H locs hH => ?_)
                      refine lv_aload_n hx hb dX13_readNot_253 rfl (lv_at hl 1 rfl) ?_
                      obtain ⟨r_145, u_146, h_147, hF⟩ := ob_some hF
                      cases r_145 with
                      | none =>
                        have hF := ot_none hF
                        cases hF
                      | some r_148 =>
                        have hF := ot_some hF
                        refine mcV_v (As := []) (rest := []) hC hH (m_readSum l G Z Q u_143 u_146 r_148  _ h_147) kwX13_readSum kVX13_readSum ⟨by show _ ≤ 12 * (d + 1) + 20; omega, by show _ ≤ 140 * (d + 1) + 400; omega⟩ rfl hl.1 rfl (Nat.le_of_ble_eq_true rfl) dX13_readNot_254 (fun H locs hH => ?_)
                        refine lv_aload_n hx hb dX13_readNot_257 rfl (lv_at hl 1 rfl) ?_
                        refine lv_iload_n hx hb dX13_readNot_258 rfl (lv_at hl 0 rfl) ?_
                        obtain ⟨r_149, u_150, h_151, hF⟩ := ob_some hF
                        refine mcV_v (As := [.int 11]) (rest := []) hC hH (m_release l G Z Q u_146 u_150 r_149 11 _ h_151) kwX13_release kVX13_release ⟨by show _ ≤ 12 * (d + 1) + 20; omega, by show _ ≤ 140 * (d + 1) + 400; omega⟩ rfl hl.1 rfl (Nat.le_of_ble_eq_true rfl) dX13_readNot_259 (fun H locs hH => ?_)
                        have hF := mthr_eq hF
                        exact mr_v hC hH hr hF dX13_readNot_262 hlocks
                  · rw [if_pos c_137] at hF
                    refine lv_aload_n hx hb dX13_readNot_235 rfl (lv_at hl 1 rfl) ?_
                    refine lv_iconst (v := 1) hx hb dX13_readNot_236 (by decide) ?_
                    refine lv_aload_n hx hb dX13_readNot_237 rfl (lv_at hl 1 rfl) ?_
                    refine mg_44 hC hH dX13_readNot_238 ?_
                    obtain ⟨r_152, u_153, h_154, hF⟩ := ob_some hF
                    refine mcV_r (As := [.int 1, .int (u_50.1 44)]) (rest := []) hC hH (m_wrong l G Z Q u_50 u_153 r_152 1 (u_50.1 44) _ h_154) kwX13_wrong kVX13_wrong ⟨by show _ ≤ 12 * (d + 1) + 20; omega, by show _ ≤ 140 * (d + 1) + 400; omega⟩ rfl hl.1 rfl (Nat.le_of_ble_eq_true rfl) dX13_readNot_241 (fun H locs hH => ?_)
                    cases hF
              · rw [if_neg c_48] at hF
                refine lv_bipush (v := 10) hx hb dX13_readNot_163 (by decide) ?_
                refine lv_goto (tgt := 229) hx hb dX13_readNot_165 (by decide) ?_
                refine lv_istore_n (lv' := [(1, .int 10), (0, .ref (Q 72))]) hx hb dX13_readNot_229 rfl hl (by decide) rfl (fun ls hl => ?_)
                refine lv_iload_n hx hb dX13_readNot_230 rfl (lv_at hl 0 rfl) ?_
                refine lv_iconst (v := (-1)) hx hb dX13_readNot_231 (by decide) ?_
                refine lv_icmp_ne (tgt := 245) hx hb dX13_readNot_232 (by decide) (fun c_155 => ?_) (fun c_155 => ?_)
                · rw [if_neg c_155] at hF
                  refine lv_aload_n hx hb dX13_readNot_245 rfl (lv_at hl 1 rfl) ?_
                  obtain ⟨r_156, u_157, h_158, hF⟩ := ob_some hF
                  cases r_156 with
                  | none =>
                    have hF := ot_none hF
                    cases hF
                  | some r_159 =>
                    have hF := ot_some hF
                    refine mcV_v (As := []) (rest := []) hC hH (m_hold l G Z Q u_46 u_157 r_159  _ h_158) kwX13_hold kVX13_hold ⟨by show _ ≤ 12 * (d + 1) + 20; omega, by show _ ≤ 140 * (d + 1) + 400; omega⟩ rfl hl.1 rfl (Nat.le_of_ble_eq_true rfl) dX13_readNot_246 (fun H locs hH => ?_)
                    refine lv_aload_n hx hb dX13_readNot_249 rfl (lv_at hl 1 rfl) ?_
                    obtain ⟨r_160, u_161, h_162, hF⟩ := ob_some hF
                    refine mcV_v (As := []) (rest := []) hC hH (m_scan l G Z Q u_157 u_161 r_160  _ h_162) kwX13_scan kVX13_scan ⟨by show _ ≤ 12 * (d + 1) + 20; omega, by show _ ≤ 140 * (d + 1) + 400; omega⟩ rfl hl.1 rfl (Nat.le_of_ble_eq_true rfl) dX13_readNot_250 (fun H locs hH => ?_)
                    refine lv_aload_n hx hb dX13_readNot_253 rfl (lv_at hl 1 rfl) ?_
                    obtain ⟨r_163, u_164, h_165, hF⟩ := ob_some hF
                    cases r_163 with
                    | none =>
                      have hF := ot_none hF
                      cases hF
                    | some r_166 =>
                      have hF := ot_some hF
                      refine mcV_v (As := []) (rest := []) hC hH (m_readSum l G Z Q u_161 u_164 r_166  _ h_165) kwX13_readSum kVX13_readSum ⟨by show _ ≤ 12 * (d + 1) + 20; omega, by show _ ≤ 140 * (d + 1) + 400; omega⟩ rfl hl.1 rfl (Nat.le_of_ble_eq_true rfl) dX13_readNot_254 (fun H locs hH => ?_)
                      refine lv_aload_n hx hb dX13_readNot_257 rfl (lv_at hl 1 rfl) ?_
                      refine lv_iload_n hx hb dX13_readNot_258 rfl (lv_at hl 0 rfl) ?_
                      obtain ⟨r_167, u_168, h_169, hF⟩ := ob_some hF
                      refine mcV_v (As := [.int 10]) (rest := []) hC hH (m_release l G Z Q u_164 u_168 r_167 10 _ h_169) kwX13_release kVX13_release ⟨by show _ ≤ 12 * (d + 1) + 20; omega, by show _ ≤ 140 * (d + 1) + 400; omega⟩ rfl hl.1 rfl (Nat.le_of_ble_eq_true rfl) dX13_readNot_259 (fun H locs hH => ?_)
                      have hF := mthr_eq hF
                      exact mr_v hC hH hr hF dX13_readNot_262 hlocks
                · rw [if_pos c_155] at hF
                  refine lv_aload_n hx hb dX13_readNot_235 rfl (lv_at hl 1 rfl) ?_
                  refine lv_iconst (v := 1) hx hb dX13_readNot_236 (by decide) ?_
                  refine lv_aload_n hx hb dX13_readNot_237 rfl (lv_at hl 1 rfl) ?_
                  refine mg_44 hC hH dX13_readNot_238 ?_
                  obtain ⟨r_170, u_171, h_172, hF⟩ := ob_some hF
                  refine mcV_r (As := [.int 1, .int (u_46.1 44)]) (rest := []) hC hH (m_wrong l G Z Q u_46 u_171 r_170 1 (u_46.1 44) _ h_172) kwX13_wrong kVX13_wrong ⟨by show _ ≤ 12 * (d + 1) + 20; omega, by show _ ≤ 140 * (d + 1) + 400; omega⟩ rfl hl.1 rfl (Nat.le_of_ble_eq_true rfl) dX13_readNot_241 (fun H locs hH => ?_)
                  cases hF
            · rw [if_neg c_44] at hF
              refine lv_bipush (v := 9) hx hb dX13_readNot_148 (by decide) ?_
              refine lv_goto (tgt := 229) hx hb dX13_readNot_150 (by decide) ?_
              refine lv_istore_n (lv' := [(1, .int 9), (0, .ref (Q 72))]) hx hb dX13_readNot_229 rfl hl (by decide) rfl (fun ls hl => ?_)
              refine lv_iload_n hx hb dX13_readNot_230 rfl (lv_at hl 0 rfl) ?_
              refine lv_iconst (v := (-1)) hx hb dX13_readNot_231 (by decide) ?_
              refine lv_icmp_ne (tgt := 245) hx hb dX13_readNot_232 (by decide) (fun c_173 => ?_) (fun c_173 => ?_)
              · rw [if_neg c_173] at hF
                refine lv_aload_n hx hb dX13_readNot_245 rfl (lv_at hl 1 rfl) ?_
                obtain ⟨r_174, u_175, h_176, hF⟩ := ob_some hF
                cases r_174 with
                | none =>
                  have hF := ot_none hF
                  cases hF
                | some r_177 =>
                  have hF := ot_some hF
                  refine mcV_v (As := []) (rest := []) hC hH (m_hold l G Z Q u_42 u_175 r_177  _ h_176) kwX13_hold kVX13_hold ⟨by show _ ≤ 12 * (d + 1) + 20; omega, by show _ ≤ 140 * (d + 1) + 400; omega⟩ rfl hl.1 rfl (Nat.le_of_ble_eq_true rfl) dX13_readNot_246 (fun H locs hH => ?_)
                  refine lv_aload_n hx hb dX13_readNot_249 rfl (lv_at hl 1 rfl) ?_
                  obtain ⟨r_178, u_179, h_180, hF⟩ := ob_some hF
                  refine mcV_v (As := []) (rest := []) hC hH (m_scan l G Z Q u_175 u_179 r_178  _ h_180) kwX13_scan kVX13_scan ⟨by show _ ≤ 12 * (d + 1) + 20; omega, by show _ ≤ 140 * (d + 1) + 400; omega⟩ rfl hl.1 rfl (Nat.le_of_ble_eq_true rfl) dX13_readNot_250 (fun H locs hH => ?_)
                  refine lv_aload_n hx hb dX13_readNot_253 rfl (lv_at hl 1 rfl) ?_
                  obtain ⟨r_181, u_182, h_183, hF⟩ := ob_some hF
                  cases r_181 with
                  | none =>
                    have hF := ot_none hF
                    cases hF
                  | some r_184 =>
                    have hF := ot_some hF
                    refine mcV_v (As := []) (rest := []) hC hH (m_readSum l G Z Q u_179 u_182 r_184  _ h_183) kwX13_readSum kVX13_readSum ⟨by show _ ≤ 12 * (d + 1) + 20; omega, by show _ ≤ 140 * (d + 1) + 400; omega⟩ rfl hl.1 rfl (Nat.le_of_ble_eq_true rfl) dX13_readNot_254 (fun H locs hH => ?_)
                    refine lv_aload_n hx hb dX13_readNot_257 rfl (lv_at hl 1 rfl) ?_
                    refine lv_iload_n hx hb dX13_readNot_258 rfl (lv_at hl 0 rfl) ?_
                    obtain ⟨r_185, u_186, h_187, hF⟩ := ob_some hF
                    refine mcV_v (As := [.int 9]) (rest := []) hC hH (m_release l G Z Q u_182 u_186 r_185 9 _ h_187) kwX13_release kVX13_release ⟨by show _ ≤ 12 * (d + 1) + 20; omega, by show _ ≤ 140 * (d + 1) + 400; omega⟩ rfl hl.1 rfl (Nat.le_of_ble_eq_true rfl) dX13_readNot_259 (fun H locs hH => ?_)
                    have hF := mthr_eq hF
                    exact mr_v hC hH hr hF dX13_readNot_262 hlocks
              · rw [if_pos c_173] at hF
                refine lv_aload_n hx hb dX13_readNot_235 rfl (lv_at hl 1 rfl) ?_
                refine lv_iconst (v := 1) hx hb dX13_readNot_236 (by decide) ?_
                refine lv_aload_n hx hb dX13_readNot_237 rfl (lv_at hl 1 rfl) ?_
                refine mg_44 hC hH dX13_readNot_238 ?_
                obtain ⟨r_188, u_189, h_190, hF⟩ := ob_some hF
                refine mcV_r (As := [.int 1, .int (u_42.1 44)]) (rest := []) hC hH (m_wrong l G Z Q u_42 u_189 r_188 1 (u_42.1 44) _ h_190) kwX13_wrong kVX13_wrong ⟨by show _ ≤ 12 * (d + 1) + 20; omega, by show _ ≤ 140 * (d + 1) + 400; omega⟩ rfl hl.1 rfl (Nat.le_of_ble_eq_true rfl) dX13_readNot_241 (fun H locs hH => ?_)
                cases hF
        · rw [if_neg c_36] at hF
          refine lv_aload_n hx hb dX13_readNot_105 rfl (lv_at hl 0 rfl) ?_
          obtain ⟨r_191, u_192, h_193, hF⟩ := ob_some hF
          cases r_191 with
          | none =>
            have hF := ot_none hF
            cases hF
          | some r_194 =>
            have hF := ot_some hF
            refine mcV_v (As := []) (rest := []) hC hH (m_counts l G Z Q u_34 u_192 r_194  _ h_193) kwX13_counts kVX13_counts ⟨by show _ ≤ 12 * (d + 1) + 20; omega, by show _ ≤ 140 * (d + 1) + 400; omega⟩ rfl hl.1 rfl (Nat.le_of_ble_eq_true rfl) dX13_readNot_106 (fun H locs hH => ?_)
            refine lv_aload_n hx hb dX13_readNot_109 rfl (lv_at hl 0 rfl) ?_
            refine lv_aload_n hx hb dX13_readNot_110 rfl (lv_at hl 0 rfl) ?_
            refine th_ldcw (tx := sTx 9) hx hb hC.2.2.2.1 (hC.2.2.2.2.2.2.2.2.1 9 (by decide)) dX13_readNot_111 ?_
            obtain ⟨r_195, u_196, h_197, hF⟩ := ob_some hF
            refine mcV_i (As := [.ref (Z.1 9)]) (rest := [.ref (Q 72)]) hC hH (m_is l G Z Q u_192 u_196 r_195 9 _ h_197 (by decide)) kwX13_is kVX13_is ⟨by show _ ≤ 12 * (d + 1) + 20; omega, by show _ ≤ 140 * (d + 1) + 400; omega⟩ rfl hl.1 rfl (Nat.le_of_ble_eq_true rfl) dX13_readNot_114 (fun H locs hH => ?_)
            refine lv_if_eq (tgt := 124) hx hb dX13_readNot_117 (by decide) (fun c_198 => ?_) (fun c_198 => ?_)
            · rw [if_pos c_198] at hF
              refine lv_iconst (v := 5) hx hb dX13_readNot_124 (by decide) ?_
              refine lv_iconst (v := 0) hx hb dX13_readNot_125 (by decide) ?_
              obtain ⟨r_199, u_200, h_201, hF⟩ := ob_some hF
              refine mcV_v (As := [.int 5, .int 0]) (rest := []) hC hH (m_put l G Z Q u_196 u_200 r_199 5 0 _ h_201) kwX13_put kVX13_put ⟨by show _ ≤ 12 * (d + 1) + 20; omega, by show _ ≤ 140 * (d + 1) + 400; omega⟩ rfl hl.1 rfl (Nat.le_of_ble_eq_true rfl) dX13_readNot_126 (fun H locs hH => ?_)
              refine lv_aload_n hx hb dX13_readNot_129 rfl (lv_at hl 0 rfl) ?_
              obtain ⟨r_202, u_203, h_204, hF⟩ := ob_some hF
              refine mcV_v (As := []) (rest := []) hC hH (m_scan l G Z Q u_200 u_203 r_202  _ h_204) kwX13_scan kVX13_scan ⟨by show _ ≤ 12 * (d + 1) + 20; omega, by show _ ≤ 140 * (d + 1) + 400; omega⟩ rfl hl.1 rfl (Nat.le_of_ble_eq_true rfl) dX13_readNot_130 (fun H locs hH => ?_)
              have hF := mthr_eq hF
              exact mr_v hC hH hr hF dX13_readNot_133 hlocks
            · rw [if_neg c_198] at hF
              refine lv_iconst (v := 4) hx hb dX13_readNot_120 (by decide) ?_
              refine lv_goto (tgt := 125) hx hb dX13_readNot_121 (by decide) ?_
              refine lv_iconst (v := 0) hx hb dX13_readNot_125 (by decide) ?_
              obtain ⟨r_205, u_206, h_207, hF⟩ := ob_some hF
              refine mcV_v (As := [.int 4, .int 0]) (rest := []) hC hH (m_put l G Z Q u_196 u_206 r_205 4 0 _ h_207) kwX13_put kVX13_put ⟨by show _ ≤ 12 * (d + 1) + 20; omega, by show _ ≤ 140 * (d + 1) + 400; omega⟩ rfl hl.1 rfl (Nat.le_of_ble_eq_true rfl) dX13_readNot_126 (fun H locs hH => ?_)
              refine lv_aload_n hx hb dX13_readNot_129 rfl (lv_at hl 0 rfl) ?_
              obtain ⟨r_208, u_209, h_210, hF⟩ := ob_some hF
              refine mcV_v (As := []) (rest := []) hC hH (m_scan l G Z Q u_206 u_209 r_208  _ h_210) kwX13_scan kVX13_scan ⟨by show _ ≤ 12 * (d + 1) + 20; omega, by show _ ≤ 140 * (d + 1) + 400; omega⟩ rfl hl.1 rfl (Nat.le_of_ble_eq_true rfl) dX13_readNot_130 (fun H locs hH => ?_)
              have hF := mthr_eq hF
              exact mr_v hC hH hr hF dX13_readNot_133 hlocks
    · rw [if_neg c_8] at hF
      refine lv_aload_n hx hb dX13_readNot_59 rfl (lv_at hl 0 rfl) ?_
      obtain ⟨r_211, u_212, h_213, hF⟩ := ob_some hF
      cases r_211 with
      | none =>
        have hF := ot_none hF
        cases hF
      | some r_214 =>
        have hF := ot_some hF
        refine mcV_v (As := []) (rest := []) hC hH (m_opens l G Z Q u_6 u_212 r_214  _ h_213) kwX13_opens kVX13_opens ⟨by show _ ≤ 12 * (d + 1) + 20; omega, by show _ ≤ 140 * (d + 1) + 400; omega⟩ rfl hl.1 rfl (Nat.le_of_ble_eq_true rfl) dX13_readNot_60 (fun H locs hH => ?_)
        refine lv_aload_n hx hb dX13_readNot_63 rfl (lv_at hl 0 rfl) ?_
        obtain ⟨r_215, u_216, h_217, hF⟩ := ob_some hF
        cases r_215 with
        | none =>
          have hF := ot_none hF
          cases hF
        | some r_218 =>
          have hF := ot_some hF
          refine mcV_v (As := []) (rest := []) hC hH (hr_readOr u_212 u_216 r_218  _ h_217) kwX13_readOr kVX13_readOr ⟨by show _ ≤ 12 * (d + 1) + 20; omega, by show _ ≤ 140 * (d + 1) + 400; omega⟩ rfl hl.1 rfl (Nat.le_of_ble_eq_true rfl) dX13_readNot_64 (fun H locs hH => ?_)
          refine lv_aload_n hx hb dX13_readNot_67 rfl (lv_at hl 0 rfl) ?_
          refine th_ldcw (tx := sTx 16) hx hb hC.2.2.2.1 (hC.2.2.2.2.2.2.2.2.1 16 (by decide)) dX13_readNot_68 ?_
          obtain ⟨r_219, u_220, h_221, hF⟩ := ob_some hF
          cases r_219 with
          | none =>
            have hF := ot_none hF
            cases hF
          | some r_222 =>
            have hF := ot_some hF
            refine mcV_v (As := [.ref (Z.1 16)]) (rest := []) hC hH (m_need l G Z Q u_216 u_220 r_222 16 _ h_221 (by decide)) kwX13_need kVX13_need ⟨by show _ ≤ 12 * (d + 1) + 20; omega, by show _ ≤ 140 * (d + 1) + 400; omega⟩ rfl hl.1 rfl (Nat.le_of_ble_eq_true rfl) dX13_readNot_71 (fun H locs hH => ?_)
            refine lv_aload_n hx hb dX13_readNot_74 rfl (lv_at hl 0 rfl) ?_
            refine lv_dup hx hb dX13_readNot_75 rfl ?_
            refine mg_48 hC hH dX13_readNot_76 ?_
            refine lv_iconst (v := 1) hx hb dX13_readNot_79 (by decide) ?_
            refine lv_isub hx hb dX13_readNot_80 ?_
            obtain ⟨u_223, e_224, hF⟩ := lu_some hF
            refine mp_48 hC hH e_224 dX13_readNot_81 (fun H locs hH => ?_)
            have hF := mthr_eq hF
            exact mr_v hC hH hr hF dX13_readNot_84 hlocks
  · rw [if_neg c_4] at hF
    refine lv_aload_n hx hb dX13_readNot_10 rfl (lv_at hl 0 rfl) ?_
    obtain ⟨r_225, u_226, h_227, hF⟩ := ob_some hF
    cases r_225 with
    | none =>
      have hF := ot_none hF
      cases hF
    | some r_228 =>
      have hF := ot_some hF
      refine mcV_v (As := []) (rest := []) hC hH (m_counts l G Z Q u_2 u_226 r_228  _ h_227) kwX13_counts kVX13_counts ⟨by show _ ≤ 12 * (d + 1) + 20; omega, by show _ ≤ 140 * (d + 1) + 400; omega⟩ rfl hl.1 rfl (Nat.le_of_ble_eq_true rfl) dX13_readNot_11 (fun H locs hH => ?_)
      refine lv_aload_n hx hb dX13_readNot_14 rfl (lv_at hl 0 rfl) ?_
      refine lv_dup hx hb dX13_readNot_15 rfl ?_
      refine mg_51 hC hH dX13_readNot_16 ?_
      refine lv_iconst (v := 1) hx hb dX13_readNot_19 (by decide) ?_
      refine lv_iadd hx hb dX13_readNot_20 ?_
      obtain ⟨u_229, e_230, hF⟩ := lu_some hF
      refine mp_51 hC hH e_230 dX13_readNot_21 (fun H locs hH => ?_)
      refine lv_aload_n hx hb dX13_readNot_24 rfl (lv_at hl 0 rfl) ?_
      obtain ⟨r_231, u_232, h_233, hF⟩ := ob_some hF
      cases r_231 with
      | none =>
        have hF := ot_none hF
        cases hF
      | some r_234 =>
        have hF := ot_some hF
        refine mcV_v (As := []) (rest := []) hC hH (m_opens l G Z Q u_229 u_232 r_234  _ h_233) kwX13_opens kVX13_opens ⟨by show _ ≤ 12 * (d + 1) + 20; omega, by show _ ≤ 140 * (d + 1) + 400; omega⟩ rfl hl.1 rfl (Nat.le_of_ble_eq_true rfl) dX13_readNot_25 (fun H locs hH => ?_)
        refine lv_aload_n hx hb dX13_readNot_28 rfl (lv_at hl 0 rfl) ?_
        obtain ⟨r_235, u_236, h_237, hF⟩ := ob_some hF
        cases r_235 with
        | none =>
          have hF := ot_none hF
          cases hF
        | some r_238 =>
          have hF := ot_some hF
          refine mcV_v (As := []) (rest := []) hC hH (hr_readNot u_232 u_236 r_238  _ h_237) kwX13_readNot kVX13_readNot ⟨by show _ ≤ 12 * (d + 1) + 20; omega, by show _ ≤ 140 * (d + 1) + 400; omega⟩ rfl hl.1 rfl (Nat.le_of_ble_eq_true rfl) dX13_readNot_29 (fun H locs hH => ?_)
          refine lv_aload_n hx hb dX13_readNot_32 rfl (lv_at hl 0 rfl) ?_
          refine lv_dup hx hb dX13_readNot_33 rfl ?_
          refine mg_48 hC hH dX13_readNot_34 ?_
          refine lv_iconst (v := 1) hx hb dX13_readNot_37 (by decide) ?_
          refine lv_isub hx hb dX13_readNot_38 ?_
          obtain ⟨u_239, e_240, hF⟩ := lu_some hF
          refine mp_48 hC hH e_240 dX13_readNot_39 (fun H locs hH => ?_)
          refine lv_aload_n hx hb dX13_readNot_42 rfl (lv_at hl 0 rfl) ?_
          refine lv_bipush (v := 6) hx hb dX13_readNot_43 (by decide) ?_
          obtain ⟨r_241, u_242, h_243, hF⟩ := ob_some hF
          refine mcV_v (As := [.int 6]) (rest := []) hC hH (m_release l G Z Q u_239 u_242 r_241 6 _ h_243) kwX13_release kVX13_release ⟨by show _ ≤ 12 * (d + 1) + 20; omega, by show _ ≤ 140 * (d + 1) + 400; omega⟩ rfl hl.1 rfl (Nat.le_of_ble_eq_true rfl) dX13_readNot_45 (fun H locs hH => ?_)
          have hF := mthr_eq hF
          exact mr_v hC hH hr hF dX13_readNot_48 hlocks
set_option maxHeartbeats 4000000 in
set_option maxRecDepth 100000 in
theorem bt_readNot (l : Launch) (G : gG) (Z : gM) (Q : Nat → Nat) (d : Nat) (F : Nat → Int32 → Int32 → Int32 → Int32 → MS → Option (Option Int32 × MS)) (hr_readOr : ∀ (u u1 : MS) (r : Int32) (sz : Nat), F 0 0 0 0 0 u = some (some r, u1) → Met l yX13_readOr (Cond.code yX13_readOr cX13_readOr 1 none :: wM) { frames := 12 * d + 20, cells := 0, slots := 0, locals := 140 * d + 400 } (va_Pc [.ref (Q 72)] (mPM G Z Q u sz)) (mQv G Q u1 sz) 0 0 (mA Q sz)) (ht_readOr : ∀ (u u1 : MS) (sz : Nat), F 0 0 0 0 0 u = some (none, u1) → MetT l yX13_readOr (Cond.code yX13_readOr cX13_readOr 1 none :: wM) { frames := 12 * d + 20, cells := 0, slots := 0, locals := 140 * d + 400 } (va_Pc [.ref (Q 72)] (mPM G Z Q u sz)) (mQt G Q u1 sz) 0 0 (mA Q sz)) (hr_readAnd : ∀ (u u1 : MS) (r : Int32) (sz : Nat), F 1 0 0 0 0 u = some (some r, u1) → Met l yX13_readAnd (Cond.code yX13_readAnd cX13_readAnd 1 none :: wM) { frames := 12 * d + 20, cells := 0, slots := 0, locals := 140 * d + 400 } (va_Pc [.ref (Q 72)] (mPM G Z Q u sz)) (mQv G Q u1 sz) 0 0 (mA Q sz)) (ht_readAnd : ∀ (u u1 : MS) (sz : Nat), F 1 0 0 0 0 u = some (none, u1) → MetT l yX13_readAnd (Cond.code yX13_readAnd cX13_readAnd 1 none :: wM) { frames := 12 * d + 20, cells := 0, slots := 0, locals := 140 * d + 400 } (va_Pc [.ref (Q 72)] (mPM G Z Q u sz)) (mQt G Q u1 sz) 0 0 (mA Q sz)) (hr_readNot : ∀ (u u1 : MS) (r : Int32) (sz : Nat), F 2 0 0 0 0 u = some (some r, u1) → Met l yX13_readNot (Cond.code yX13_readNot cX13_readNot 2 none :: wM) { frames := 12 * d + 20, cells := 0, slots := 0, locals := 140 * d + 400 } (va_Pc [.ref (Q 72)] (mPM G Z Q u sz)) (mQv G Q u1 sz) 0 0 (mA Q sz)) (ht_readNot : ∀ (u u1 : MS) (sz : Nat), F 2 0 0 0 0 u = some (none, u1) → MetT l yX13_readNot (Cond.code yX13_readNot cX13_readNot 2 none :: wM) { frames := 12 * d + 20, cells := 0, slots := 0, locals := 140 * d + 400 } (va_Pc [.ref (Q 72)] (mPM G Z Q u sz)) (mQt G Q u1 sz) 0 0 (mA Q sz)) (u u1 : MS)  (sz : Nat) (hF : bd_readNot F u = some (none, u1)) : MetT l yX13_readNot (Cond.code yX13_readNot cX13_readNot 2 none :: wM) { frames := 12 * (d + 1) + 20, cells := 0, slots := 0, locals := 140 * (d + 1) + 400 } (va_Pc [.ref (Q 72)] (mPM G Z Q u sz)) (mQt G Q u1 sz) 0 0 (mA Q sz) := by
  refine MetT.ofW (cc := cX13_readNot) (maxL := 2) (ret := none) (by decide) rfl ?_
  intro p e s m args below meth c s₁ B hml hv
  obtain ⟨rfl, rfl, hP, hB, hD, hE⟩ := hv
  have hr := B.returns
  have hlocks := B.notSynchronized
  have hts := atoms_spec (ws := Cond.code yX13_readNot cX13_readNot 2 none :: wM) B.pre
  have hC : mX p c cX13_readNot 2 s m _ G Z Q := ⟨B.exec, B.bytes, hml, findClass_of_methodNamed B.named, fun w h => hts w (List.mem_cons_of_mem _ h), hB, hE⟩
  have hx := hC.1
  have hb := hC.2.1
  have hH : mH G Q u s s.heap [] := ⟨hP, hD, va_S.rf⟩
  have hno : c.exceptionTable.isEmpty = true := BodyLoose.noHandlers B (hts _ List.mem_cons_self)
  have hl := lv_entry ([.ref (Q 72)]) (n := 2) (Nat.le_of_ble_eq_true rfl)
  rw [lg_entry_eq]
  generalize (lg_sl ([.ref (Q 72)]) ++ List.replicate (2 - (lg_sl ([.ref (Q 72)])).length) Slot.unset).toArray = ls at hl ⊢
  have hl : lv_has ls 2 [(0, .ref (Q 72))] := hl
  unfold bd_readNot at hF
  refine lv_aload_n hx hb dX13_readNot_0 rfl (lv_at hl 0 rfl) ?_
  refine th_ldcw (tx := sTx 8) hx hb hC.2.2.2.1 (hC.2.2.2.2.2.2.2.2.1 8 (by decide)) dX13_readNot_1 ?_
  obtain ⟨r_1, u_2, h_3, hF⟩ := ob_some hF
  refine mcV_i (As := [.ref (Z.1 8)]) (rest := []) hC hH (m_is l G Z Q u u_2 r_1 8 _ h_3 (by decide)) kwX13_is kVX13_is ⟨by show _ ≤ 12 * (d + 1) + 20; omega, by show _ ≤ 140 * (d + 1) + 400; omega⟩ rfl hl.1 rfl (Nat.le_of_ble_eq_true rfl) dX13_readNot_4 (fun H locs hH => ?_)
  refine lv_if_eq (tgt := 49) hx hb dX13_readNot_7 (by decide) (fun c_4 => ?_) (fun c_4 => ?_)
  · rw [if_pos c_4] at hF
    refine lv_aload_n hx hb dX13_readNot_49 rfl (lv_at hl 0 rfl) ?_
    refine th_ldcw (tx := sTx 15) hx hb hC.2.2.2.1 (hC.2.2.2.2.2.2.2.2.1 15 (by decide)) dX13_readNot_50 ?_
    obtain ⟨r_5, u_6, h_7, hF⟩ := ob_some hF
    refine mcV_i (As := [.ref (Z.1 15)]) (rest := []) hC hH (m_is l G Z Q u_2 u_6 r_5 15 _ h_7 (by decide)) kwX13_is kVX13_is ⟨by show _ ≤ 12 * (d + 1) + 20; omega, by show _ ≤ 140 * (d + 1) + 400; omega⟩ rfl hl.1 rfl (Nat.le_of_ble_eq_true rfl) dX13_readNot_53 (fun H locs hH => ?_)
    refine lv_if_eq (tgt := 85) hx hb dX13_readNot_56 (by decide) (fun c_8 => ?_) (fun c_8 => ?_)
    · rw [if_pos c_8] at hF
      refine lv_aload_n hx hb dX13_readNot_85 rfl (lv_at hl 0 rfl) ?_
      refine th_ldcw (tx := sTx 9) hx hb hC.2.2.2.1 (hC.2.2.2.2.2.2.2.2.1 9 (by decide)) dX13_readNot_86 ?_
      obtain ⟨r_9, u_10, h_11, hF⟩ := ob_some hF
      refine mcV_i (As := [.ref (Z.1 9)]) (rest := []) hC hH (m_is l G Z Q u_6 u_10 r_9 9 _ h_11 (by decide)) kwX13_is kVX13_is ⟨by show _ ≤ 12 * (d + 1) + 20; omega, by show _ ≤ 140 * (d + 1) + 400; omega⟩ rfl hl.1 rfl (Nat.le_of_ble_eq_true rfl) dX13_readNot_89 (fun H locs hH => ?_)
      refine lv_if_ne (tgt := 105) hx hb dX13_readNot_92 (by decide) (fun c_12 => ?_) (fun c_12 => ?_)
      · rw [if_neg c_12] at hF
        refine lv_aload_n hx hb dX13_readNot_105 rfl (lv_at hl 0 rfl) ?_
        obtain ⟨r_13, u_14, h_15, hF⟩ := ob_some hF
        cases r_13 with
        | none =>
          have hF := ot_none hF
          exact mt_pass hH (mt_run (As := []) (rest := []) hC hH (t_counts l G Z Q u_10 u_14  _ h_15) kwX13_counts kVX13_counts ⟨by show _ ≤ 12 * (d + 1) + 20; omega, by show _ ≤ 140 * (d + 1) + 400; omega⟩ rfl hl.1 rfl (Nat.le_of_ble_eq_true rfl) dX13_readNot_106) hno hlocks hF
        | some r_16 =>
          have hF := ot_some hF
          refine mcV_v (As := []) (rest := []) hC hH (m_counts l G Z Q u_10 u_14 r_16  _ h_15) kwX13_counts kVX13_counts ⟨by show _ ≤ 12 * (d + 1) + 20; omega, by show _ ≤ 140 * (d + 1) + 400; omega⟩ rfl hl.1 rfl (Nat.le_of_ble_eq_true rfl) dX13_readNot_106 (fun H locs hH => ?_)
          refine lv_aload_n hx hb dX13_readNot_109 rfl (lv_at hl 0 rfl) ?_
          refine lv_aload_n hx hb dX13_readNot_110 rfl (lv_at hl 0 rfl) ?_
          refine th_ldcw (tx := sTx 9) hx hb hC.2.2.2.1 (hC.2.2.2.2.2.2.2.2.1 9 (by decide)) dX13_readNot_111 ?_
          obtain ⟨r_17, u_18, h_19, hF⟩ := ob_some hF
          refine mcV_i (As := [.ref (Z.1 9)]) (rest := [.ref (Q 72)]) hC hH (m_is l G Z Q u_14 u_18 r_17 9 _ h_19 (by decide)) kwX13_is kVX13_is ⟨by show _ ≤ 12 * (d + 1) + 20; omega, by show _ ≤ 140 * (d + 1) + 400; omega⟩ rfl hl.1 rfl (Nat.le_of_ble_eq_true rfl) dX13_readNot_114 (fun H locs hH => ?_)
          refine lv_if_eq (tgt := 124) hx hb dX13_readNot_117 (by decide) (fun c_20 => ?_) (fun c_20 => ?_)
          · rw [if_pos c_20] at hF
            refine lv_iconst (v := 5) hx hb dX13_readNot_124 (by decide) ?_
            refine lv_iconst (v := 0) hx hb dX13_readNot_125 (by decide) ?_
            obtain ⟨r_21, u_22, h_23, hF⟩ := ob_some hF
            refine mcV_v (As := [.int 5, .int 0]) (rest := []) hC hH (m_put l G Z Q u_18 u_22 r_21 5 0 _ h_23) kwX13_put kVX13_put ⟨by show _ ≤ 12 * (d + 1) + 20; omega, by show _ ≤ 140 * (d + 1) + 400; omega⟩ rfl hl.1 rfl (Nat.le_of_ble_eq_true rfl) dX13_readNot_126 (fun H locs hH => ?_)
            refine lv_aload_n hx hb dX13_readNot_129 rfl (lv_at hl 0 rfl) ?_
            obtain ⟨r_24, u_25, h_26, hF⟩ := ob_some hF
            refine mcV_v (As := []) (rest := []) hC hH (m_scan l G Z Q u_22 u_25 r_24  _ h_26) kwX13_scan kVX13_scan ⟨by show _ ≤ 12 * (d + 1) + 20; omega, by show _ ≤ 140 * (d + 1) + 400; omega⟩ rfl hl.1 rfl (Nat.le_of_ble_eq_true rfl) dX13_readNot_130 (fun H locs hH => ?_)
            cases hF
          · rw [if_neg c_20] at hF
            refine lv_iconst (v := 4) hx hb dX13_readNot_120 (by decide) ?_
            refine lv_goto (tgt := 125) hx hb dX13_readNot_121 (by decide) ?_
            refine lv_iconst (v := 0) hx hb dX13_readNot_125 (by decide) ?_
            obtain ⟨r_27, u_28, h_29, hF⟩ := ob_some hF
            refine mcV_v (As := [.int 4, .int 0]) (rest := []) hC hH (m_put l G Z Q u_18 u_28 r_27 4 0 _ h_29) kwX13_put kVX13_put ⟨by show _ ≤ 12 * (d + 1) + 20; omega, by show _ ≤ 140 * (d + 1) + 400; omega⟩ rfl hl.1 rfl (Nat.le_of_ble_eq_true rfl) dX13_readNot_126 (fun H locs hH => ?_)
            refine lv_aload_n hx hb dX13_readNot_129 rfl (lv_at hl 0 rfl) ?_
            obtain ⟨r_30, u_31, h_32, hF⟩ := ob_some hF
            refine mcV_v (As := []) (rest := []) hC hH (m_scan l G Z Q u_28 u_31 r_30  _ h_32) kwX13_scan kVX13_scan ⟨by show _ ≤ 12 * (d + 1) + 20; omega, by show _ ≤ 140 * (d + 1) + 400; omega⟩ rfl hl.1 rfl (Nat.le_of_ble_eq_true rfl) dX13_readNot_130 (fun H locs hH => ?_)
            cases hF
      · rw [if_pos c_12] at hF
        refine lv_aload_n hx hb dX13_readNot_95 rfl (lv_at hl 0 rfl) ?_
        refine th_ldcw (tx := sTx 10) hx hb hC.2.2.2.1 (hC.2.2.2.2.2.2.2.2.1 10 (by decide)) dX13_readNot_96 ?_
        obtain ⟨r_33, u_34, h_35, hF⟩ := ob_some hF
        refine mcV_i (As := [.ref (Z.1 10)]) (rest := []) hC hH (m_is l G Z Q u_10 u_34 r_33 10 _ h_35 (by decide)) kwX13_is kVX13_is ⟨by show _ ≤ 12 * (d + 1) + 20; omega, by show _ ≤ 140 * (d + 1) + 400; omega⟩ rfl hl.1 rfl (Nat.le_of_ble_eq_true rfl) dX13_readNot_99 (fun H locs hH => ?_)
        refine lv_if_eq (tgt := 134) hx hb dX13_readNot_102 (by decide) (fun c_36 => ?_) (fun c_36 => ?_)
        · rw [if_pos c_36] at hF
          refine lv_aload_n hx hb dX13_readNot_134 rfl (lv_at hl 0 rfl) ?_
          obtain ⟨r_37, u_38, h_39, hF⟩ := ob_some hF
          cases r_37 with
          | none =>
            have hF := ot_none hF
            exact mt_pass hH (mt_run (As := []) (rest := []) hC hH (t_readSum l G Z Q u_34 u_38  _ h_39) kwX13_readSum kVX13_readSum ⟨by show _ ≤ 12 * (d + 1) + 20; omega, by show _ ≤ 140 * (d + 1) + 400; omega⟩ rfl hl.1 rfl (Nat.le_of_ble_eq_true rfl) dX13_readNot_135) hno hlocks hF
          | some r_40 =>
            have hF := ot_some hF
            refine mcV_v (As := []) (rest := []) hC hH (m_readSum l G Z Q u_34 u_38 r_40  _ h_39) kwX13_readSum kVX13_readSum ⟨by show _ ≤ 12 * (d + 1) + 20; omega, by show _ ≤ 140 * (d + 1) + 400; omega⟩ rfl hl.1 rfl (Nat.le_of_ble_eq_true rfl) dX13_readNot_135 (fun H locs hH => ?_)
            refine lv_aload_n hx hb dX13_readNot_138 rfl (lv_at hl 0 rfl) ?_
            refine th_ldcw (tx := sTx 17) hx hb hC.2.2.2.1 (hC.2.2.2.2.2.2.2.2.1 17 (by decide)) dX13_readNot_139 ?_
            obtain ⟨r_41, u_42, h_43, hF⟩ := ob_some hF
            refine mcV_i (As := [.ref (Z.1 17)]) (rest := []) hC hH (m_is l G Z Q u_38 u_42 r_41 17 _ h_43 (by decide)) kwX13_is kVX13_is ⟨by show _ ≤ 12 * (d + 1) + 20; omega, by show _ ≤ 140 * (d + 1) + 400; omega⟩ rfl hl.1 rfl (Nat.le_of_ble_eq_true rfl) dX13_readNot_142 (fun H locs hH => ?_)
            refine lv_if_eq (tgt := 153) hx hb dX13_readNot_145 (by decide) (fun c_44 => ?_) (fun c_44 => ?_)
            · rw [if_pos c_44] at hF
              refine lv_aload_n hx hb dX13_readNot_153 rfl (lv_at hl 0 rfl) ?_
              refine th_ldcw (tx := sTx 18) hx hb hC.2.2.2.1 (hC.2.2.2.2.2.2.2.2.1 18 (by decide)) dX13_readNot_154 ?_
              obtain ⟨r_45, u_46, h_47, hF⟩ := ob_some hF
              refine mcV_i (As := [.ref (Z.1 18)]) (rest := []) hC hH (m_is l G Z Q u_42 u_46 r_45 18 _ h_47 (by decide)) kwX13_is kVX13_is ⟨by show _ ≤ 12 * (d + 1) + 20; omega, by show _ ≤ 140 * (d + 1) + 400; omega⟩ rfl hl.1 rfl (Nat.le_of_ble_eq_true rfl) dX13_readNot_157 (fun H locs hH => ?_)
              refine lv_if_eq (tgt := 168) hx hb dX13_readNot_160 (by decide) (fun c_48 => ?_) (fun c_48 => ?_)
              · rw [if_pos c_48] at hF
                refine lv_aload_n hx hb dX13_readNot_168 rfl (lv_at hl 0 rfl) ?_
                refine th_ldcw (tx := sTx 19) hx hb hC.2.2.2.1 (hC.2.2.2.2.2.2.2.2.1 19 (by decide)) dX13_readNot_169 ?_
                obtain ⟨r_49, u_50, h_51, hF⟩ := ob_some hF
                refine mcV_i (As := [.ref (Z.1 19)]) (rest := []) hC hH (m_is l G Z Q u_46 u_50 r_49 19 _ h_51 (by decide)) kwX13_is kVX13_is ⟨by show _ ≤ 12 * (d + 1) + 20; omega, by show _ ≤ 140 * (d + 1) + 400; omega⟩ rfl hl.1 rfl (Nat.le_of_ble_eq_true rfl) dX13_readNot_172 (fun H locs hH => ?_)
                refine lv_if_eq (tgt := 183) hx hb dX13_readNot_175 (by decide) (fun c_52 => ?_) (fun c_52 => ?_)
                · rw [if_pos c_52] at hF
                  refine lv_aload_n hx hb dX13_readNot_183 rfl (lv_at hl 0 rfl) ?_
                  refine th_ldcw (tx := sTx 20) hx hb hC.2.2.2.1 (hC.2.2.2.2.2.2.2.2.1 20 (by decide)) dX13_readNot_184 ?_
                  obtain ⟨r_53, u_54, h_55, hF⟩ := ob_some hF
                  refine mcV_i (As := [.ref (Z.1 20)]) (rest := []) hC hH (m_is l G Z Q u_50 u_54 r_53 20 _ h_55 (by decide)) kwX13_is kVX13_is ⟨by show _ ≤ 12 * (d + 1) + 20; omega, by show _ ≤ 140 * (d + 1) + 400; omega⟩ rfl hl.1 rfl (Nat.le_of_ble_eq_true rfl) dX13_readNot_187 (fun H locs hH => ?_)
                  refine lv_if_eq (tgt := 198) hx hb dX13_readNot_190 (by decide) (fun c_56 => ?_) (fun c_56 => ?_)
                  · rw [if_pos c_56] at hF
                    refine lv_aload_n hx hb dX13_readNot_198 rfl (lv_at hl 0 rfl) ?_
                    refine th_ldcw (tx := sTx 21) hx hb hC.2.2.2.1 (hC.2.2.2.2.2.2.2.2.1 21 (by decide)) dX13_readNot_199 ?_
                    obtain ⟨r_57, u_58, h_59, hF⟩ := ob_some hF
                    refine mcV_i (As := [.ref (Z.1 21)]) (rest := []) hC hH (m_is l G Z Q u_54 u_58 r_57 21 _ h_59 (by decide)) kwX13_is kVX13_is ⟨by show _ ≤ 12 * (d + 1) + 20; omega, by show _ ≤ 140 * (d + 1) + 400; omega⟩ rfl hl.1 rfl (Nat.le_of_ble_eq_true rfl) dX13_readNot_202 (fun H locs hH => ?_)
                    refine lv_if_eq (tgt := 213) hx hb dX13_readNot_205 (by decide) (fun c_60 => ?_) (fun c_60 => ?_)
                    · rw [if_pos c_60] at hF
                      refine lv_aload_n hx hb dX13_readNot_213 rfl (lv_at hl 0 rfl) ?_
                      refine th_ldcw (tx := sTx 22) hx hb hC.2.2.2.1 (hC.2.2.2.2.2.2.2.2.1 22 (by decide)) dX13_readNot_214 ?_
                      obtain ⟨r_61, u_62, h_63, hF⟩ := ob_some hF
                      refine mcV_i (As := [.ref (Z.1 22)]) (rest := []) hC hH (m_is l G Z Q u_58 u_62 r_61 22 _ h_63 (by decide)) kwX13_is kVX13_is ⟨by show _ ≤ 12 * (d + 1) + 20; omega, by show _ ≤ 140 * (d + 1) + 400; omega⟩ rfl hl.1 rfl (Nat.le_of_ble_eq_true rfl) dX13_readNot_217 (fun H locs hH => ?_)
                      refine lv_if_eq (tgt := 228) hx hb dX13_readNot_220 (by decide) (fun c_64 => ?_) (fun c_64 => ?_)
                      · rw [if_pos c_64] at hF
                        refine lv_iconst (v := (-1)) hx hb dX13_readNot_228 (by decide) ?_
                        refine lv_istore_n (lv' := [(1, .int (-1)), (0, .ref (Q 72))]) hx hb dX13_readNot_229 rfl hl (by decide) rfl (fun ls hl => ?_)
                        refine lv_iload_n hx hb dX13_readNot_230 rfl (lv_at hl 0 rfl) ?_
                        refine lv_iconst (v := (-1)) hx hb dX13_readNot_231 (by decide) ?_
                        refine lv_icmp_ne (tgt := 245) hx hb dX13_readNot_232 (by decide) (fun c_65 => ?_) (fun c_65 => ?_)
                        · rw [if_neg c_65] at hF
                          refine lv_aload_n hx hb dX13_readNot_245 rfl (lv_at hl 1 rfl) ?_
                          obtain ⟨r_66, u_67, h_68, hF⟩ := ob_some hF
                          cases r_66 with
                          | none =>
                            have hF := ot_none hF
                            exact mt_pass hH (mt_run (As := []) (rest := []) hC hH (t_hold l G Z Q u_62 u_67  _ h_68) kwX13_hold kVX13_hold ⟨by show _ ≤ 12 * (d + 1) + 20; omega, by show _ ≤ 140 * (d + 1) + 400; omega⟩ rfl hl.1 rfl (Nat.le_of_ble_eq_true rfl) dX13_readNot_246) hno hlocks hF
                          | some r_69 =>
                            have hF := ot_some hF
                            refine mcV_v (As := []) (rest := []) hC hH (m_hold l G Z Q u_62 u_67 r_69  _ h_68) kwX13_hold kVX13_hold ⟨by show _ ≤ 12 * (d + 1) + 20; omega, by show _ ≤ 140 * (d + 1) + 400; omega⟩ rfl hl.1 rfl (Nat.le_of_ble_eq_true rfl) dX13_readNot_246 (fun H locs hH => ?_)
                            refine lv_aload_n hx hb dX13_readNot_249 rfl (lv_at hl 1 rfl) ?_
                            obtain ⟨r_70, u_71, h_72, hF⟩ := ob_some hF
                            refine mcV_v (As := []) (rest := []) hC hH (m_scan l G Z Q u_67 u_71 r_70  _ h_72) kwX13_scan kVX13_scan ⟨by show _ ≤ 12 * (d + 1) + 20; omega, by show _ ≤ 140 * (d + 1) + 400; omega⟩ rfl hl.1 rfl (Nat.le_of_ble_eq_true rfl) dX13_readNot_250 (fun H locs hH => ?_)
                            refine lv_aload_n hx hb dX13_readNot_253 rfl (lv_at hl 1 rfl) ?_
                            obtain ⟨r_73, u_74, h_75, hF⟩ := ob_some hF
                            cases r_73 with
                            | none =>
                              have hF := ot_none hF
                              exact mt_pass hH (mt_run (As := []) (rest := []) hC hH (t_readSum l G Z Q u_71 u_74  _ h_75) kwX13_readSum kVX13_readSum ⟨by show _ ≤ 12 * (d + 1) + 20; omega, by show _ ≤ 140 * (d + 1) + 400; omega⟩ rfl hl.1 rfl (Nat.le_of_ble_eq_true rfl) dX13_readNot_254) hno hlocks hF
                            | some r_76 =>
                              have hF := ot_some hF
                              refine mcV_v (As := []) (rest := []) hC hH (m_readSum l G Z Q u_71 u_74 r_76  _ h_75) kwX13_readSum kVX13_readSum ⟨by show _ ≤ 12 * (d + 1) + 20; omega, by show _ ≤ 140 * (d + 1) + 400; omega⟩ rfl hl.1 rfl (Nat.le_of_ble_eq_true rfl) dX13_readNot_254 (fun H locs hH => ?_)
                              refine lv_aload_n hx hb dX13_readNot_257 rfl (lv_at hl 1 rfl) ?_
                              refine lv_iload_n hx hb dX13_readNot_258 rfl (lv_at hl 0 rfl) ?_
                              obtain ⟨r_77, u_78, h_79, hF⟩ := ob_some hF
                              refine mcV_v (As := [.int (-1)]) (rest := []) hC hH (m_release l G Z Q u_74 u_78 r_77 (-1) _ h_79) kwX13_release kVX13_release ⟨by show _ ≤ 12 * (d + 1) + 20; omega, by show _ ≤ 140 * (d + 1) + 400; omega⟩ rfl hl.1 rfl (Nat.le_of_ble_eq_true rfl) dX13_readNot_259 (fun H locs hH => ?_)
                              cases hF
                        · rw [if_pos c_65] at hF
                          refine lv_aload_n hx hb dX13_readNot_235 rfl (lv_at hl 1 rfl) ?_
                          refine lv_iconst (v := 1) hx hb dX13_readNot_236 (by decide) ?_
                          refine lv_aload_n hx hb dX13_readNot_237 rfl (lv_at hl 1 rfl) ?_
                          refine mg_44 hC hH dX13_readNot_238 ?_
                          obtain ⟨r_80, u_81, h_82, hF⟩ := ob_some hF
                          refine mcV_r (As := [.int 1, .int (u_62.1 44)]) (rest := []) hC hH (m_wrong l G Z Q u_62 u_81 r_80 1 (u_62.1 44) _ h_82) kwX13_wrong kVX13_wrong ⟨by show _ ≤ 12 * (d + 1) + 20; omega, by show _ ≤ 140 * (d + 1) + 400; omega⟩ rfl hl.1 rfl (Nat.le_of_ble_eq_true rfl) dX13_readNot_241 (fun H locs hH => ?_)
                          exact mt_throw hC hH hno hF dX13_readNot_244 hlocks
                      · rw [if_neg c_64] at hF
                        refine lv_bipush (v := 14) hx hb dX13_readNot_223 (by decide) ?_
                        refine lv_goto (tgt := 229) hx hb dX13_readNot_225 (by decide) ?_
                        refine lv_istore_n (lv' := [(1, .int 14), (0, .ref (Q 72))]) hx hb dX13_readNot_229 rfl hl (by decide) rfl (fun ls hl => ?_)
                        refine lv_iload_n hx hb dX13_readNot_230 rfl (lv_at hl 0 rfl) ?_
                        refine lv_iconst (v := (-1)) hx hb dX13_readNot_231 (by decide) ?_
                        refine lv_icmp_ne (tgt := 245) hx hb dX13_readNot_232 (by decide) (fun c_83 => ?_) (fun c_83 => ?_)
                        · rw [if_neg c_83] at hF
                          refine lv_aload_n hx hb dX13_readNot_245 rfl (lv_at hl 1 rfl) ?_
                          obtain ⟨r_84, u_85, h_86, hF⟩ := ob_some hF
                          cases r_84 with
                          | none =>
                            have hF := ot_none hF
                            exact mt_pass hH (mt_run (As := []) (rest := []) hC hH (t_hold l G Z Q u_62 u_85  _ h_86) kwX13_hold kVX13_hold ⟨by show _ ≤ 12 * (d + 1) + 20; omega, by show _ ≤ 140 * (d + 1) + 400; omega⟩ rfl hl.1 rfl (Nat.le_of_ble_eq_true rfl) dX13_readNot_246) hno hlocks hF
                          | some r_87 =>
                            have hF := ot_some hF
                            refine mcV_v (As := []) (rest := []) hC hH (m_hold l G Z Q u_62 u_85 r_87  _ h_86) kwX13_hold kVX13_hold ⟨by show _ ≤ 12 * (d + 1) + 20; omega, by show _ ≤ 140 * (d + 1) + 400; omega⟩ rfl hl.1 rfl (Nat.le_of_ble_eq_true rfl) dX13_readNot_246 (fun H locs hH => ?_)
                            refine lv_aload_n hx hb dX13_readNot_249 rfl (lv_at hl 1 rfl) ?_
                            obtain ⟨r_88, u_89, h_90, hF⟩ := ob_some hF
                            refine mcV_v (As := []) (rest := []) hC hH (m_scan l G Z Q u_85 u_89 r_88  _ h_90) kwX13_scan kVX13_scan ⟨by show _ ≤ 12 * (d + 1) + 20; omega, by show _ ≤ 140 * (d + 1) + 400; omega⟩ rfl hl.1 rfl (Nat.le_of_ble_eq_true rfl) dX13_readNot_250 (fun H locs hH => ?_)
                            refine lv_aload_n hx hb dX13_readNot_253 rfl (lv_at hl 1 rfl) ?_
                            obtain ⟨r_91, u_92, h_93, hF⟩ := ob_some hF
                            cases r_91 with
                            | none =>
                              have hF := ot_none hF
                              exact mt_pass hH (mt_run (As := []) (rest := []) hC hH (t_readSum l G Z Q u_89 u_92  _ h_93) kwX13_readSum kVX13_readSum ⟨by show _ ≤ 12 * (d + 1) + 20; omega, by show _ ≤ 140 * (d + 1) + 400; omega⟩ rfl hl.1 rfl (Nat.le_of_ble_eq_true rfl) dX13_readNot_254) hno hlocks hF
                            | some r_94 =>
                              have hF := ot_some hF
                              refine mcV_v (As := []) (rest := []) hC hH (m_readSum l G Z Q u_89 u_92 r_94  _ h_93) kwX13_readSum kVX13_readSum ⟨by show _ ≤ 12 * (d + 1) + 20; omega, by show _ ≤ 140 * (d + 1) + 400; omega⟩ rfl hl.1 rfl (Nat.le_of_ble_eq_true rfl) dX13_readNot_254 (fun H locs hH => ?_)
                              refine lv_aload_n hx hb dX13_readNot_257 rfl (lv_at hl 1 rfl) ?_
                              refine lv_iload_n hx hb dX13_readNot_258 rfl (lv_at hl 0 rfl) ?_
                              obtain ⟨r_95, u_96, h_97, hF⟩ := ob_some hF
                              refine mcV_v (As := [.int 14]) (rest := []) hC hH (m_release l G Z Q u_92 u_96 r_95 14 _ h_97) kwX13_release kVX13_release ⟨by show _ ≤ 12 * (d + 1) + 20; omega, by show _ ≤ 140 * (d + 1) + 400; omega⟩ rfl hl.1 rfl (Nat.le_of_ble_eq_true rfl) dX13_readNot_259 (fun H locs hH => ?_)
                              cases hF
                        · rw [if_pos c_83] at hF
                          refine lv_aload_n hx hb dX13_readNot_235 rfl (lv_at hl 1 rfl) ?_
                          refine lv_iconst (v := 1) hx hb dX13_readNot_236 (by decide) ?_
                          refine lv_aload_n hx hb dX13_readNot_237 rfl (lv_at hl 1 rfl) ?_
                          refine mg_44 hC hH dX13_readNot_238 ?_
                          obtain ⟨r_98, u_99, h_100, hF⟩ := ob_some hF
                          refine mcV_r (As := [.int 1, .int (u_62.1 44)]) (rest := []) hC hH (m_wrong l G Z Q u_62 u_99 r_98 1 (u_62.1 44) _ h_100) kwX13_wrong kVX13_wrong ⟨by show _ ≤ 12 * (d + 1) + 20; omega, by show _ ≤ 140 * (d + 1) + 400; omega⟩ rfl hl.1 rfl (Nat.le_of_ble_eq_true rfl) dX13_readNot_241 (fun H locs hH => ?_)
                          exact mt_throw hC hH hno hF dX13_readNot_244 hlocks
                    · rw [if_neg c_60] at hF
                      refine lv_bipush (v := 13) hx hb dX13_readNot_208 (by decide) ?_
                      refine lv_goto (tgt := 229) hx hb dX13_readNot_210 (by decide) ?_
                      refine lv_istore_n (lv' := [(1, .int 13), (0, .ref (Q 72))]) hx hb dX13_readNot_229 rfl hl (by decide) rfl (fun ls hl => ?_)
                      refine lv_iload_n hx hb dX13_readNot_230 rfl (lv_at hl 0 rfl) ?_
                      refine lv_iconst (v := (-1)) hx hb dX13_readNot_231 (by decide) ?_
                      refine lv_icmp_ne (tgt := 245) hx hb dX13_readNot_232 (by decide) (fun c_101 => ?_) (fun c_101 => ?_)
                      · rw [if_neg c_101] at hF
                        refine lv_aload_n hx hb dX13_readNot_245 rfl (lv_at hl 1 rfl) ?_
                        obtain ⟨r_102, u_103, h_104, hF⟩ := ob_some hF
                        cases r_102 with
                        | none =>
                          have hF := ot_none hF
                          exact mt_pass hH (mt_run (As := []) (rest := []) hC hH (t_hold l G Z Q u_58 u_103  _ h_104) kwX13_hold kVX13_hold ⟨by show _ ≤ 12 * (d + 1) + 20; omega, by show _ ≤ 140 * (d + 1) + 400; omega⟩ rfl hl.1 rfl (Nat.le_of_ble_eq_true rfl) dX13_readNot_246) hno hlocks hF
                        | some r_105 =>
                          have hF := ot_some hF
                          refine mcV_v (As := []) (rest := []) hC hH (m_hold l G Z Q u_58 u_103 r_105  _ h_104) kwX13_hold kVX13_hold ⟨by show _ ≤ 12 * (d + 1) + 20; omega, by show _ ≤ 140 * (d + 1) + 400; omega⟩ rfl hl.1 rfl (Nat.le_of_ble_eq_true rfl) dX13_readNot_246 (fun H locs hH => ?_)
                          refine lv_aload_n hx hb dX13_readNot_249 rfl (lv_at hl 1 rfl) ?_
                          obtain ⟨r_106, u_107, h_108, hF⟩ := ob_some hF
                          refine mcV_v (As := []) (rest := []) hC hH (m_scan l G Z Q u_103 u_107 r_106  _ h_108) kwX13_scan kVX13_scan ⟨by show _ ≤ 12 * (d + 1) + 20; omega, by show _ ≤ 140 * (d + 1) + 400; omega⟩ rfl hl.1 rfl (Nat.le_of_ble_eq_true rfl) dX13_readNot_250 (fun H locs hH => ?_)
                          refine lv_aload_n hx hb dX13_readNot_253 rfl (lv_at hl 1 rfl) ?_
                          obtain ⟨r_109, u_110, h_111, hF⟩ := ob_some hF
                          cases r_109 with
                          | none =>
                            have hF := ot_none hF
                            exact mt_pass hH (mt_run (As := []) (rest := []) hC hH (t_readSum l G Z Q u_107 u_110  _ h_111) kwX13_readSum kVX13_readSum ⟨by show _ ≤ 12 * (d + 1) + 20; omega, by show _ ≤ 140 * (d + 1) + 400; omega⟩ rfl hl.1 rfl (Nat.le_of_ble_eq_true rfl) dX13_readNot_254) hno hlocks hF
                          | some r_112 =>
                            have hF := ot_some hF
                            refine mcV_v (As := []) (rest := []) hC hH (m_readSum l G Z Q u_107 u_110 r_112  _ h_111) kwX13_readSum kVX13_readSum ⟨by show _ ≤ 12 * (d + 1) + 20; omega, by show _ ≤ 140 * (d + 1) + 400; omega⟩ rfl hl.1 rfl (Nat.le_of_ble_eq_true rfl) dX13_readNot_254 (fun H locs hH => ?_)
                            refine lv_aload_n hx hb dX13_readNot_257 rfl (lv_at hl 1 rfl) ?_
                            refine lv_iload_n hx hb dX13_readNot_258 rfl (lv_at hl 0 rfl) ?_
                            obtain ⟨r_113, u_114, h_115, hF⟩ := ob_some hF
                            refine mcV_v (As := [.int 13]) (rest := []) hC hH (m_release l G Z Q u_110 u_114 r_113 13 _ h_115) kwX13_release kVX13_release ⟨by show _ ≤ 12 * (d + 1) + 20; omega, by show _ ≤ 140 * (d + 1) + 400; omega⟩ rfl hl.1 rfl (Nat.le_of_ble_eq_true rfl) dX13_readNot_259 (fun H locs hH => ?_)
                            cases hF
                      · rw [if_pos c_101] at hF
                        refine lv_aload_n hx hb dX13_readNot_235 rfl (lv_at hl 1 rfl) ?_
                        refine lv_iconst (v := 1) hx hb dX13_readNot_236 (by decide) ?_
                        refine lv_aload_n hx hb dX13_readNot_237 rfl (lv_at hl 1 rfl) ?_
                        refine mg_44 hC hH dX13_readNot_238 ?_
                        obtain ⟨r_116, u_117, h_118, hF⟩ := ob_some hF
                        refine mcV_r (As := [.int 1, .int (u_58.1 44)]) (rest := []) hC hH (m_wrong l G Z Q u_58 u_117 r_116 1 (u_58.1 44) _ h_118) kwX13_wrong kVX13_wrong ⟨by show _ ≤ 12 * (d + 1) + 20; omega, by show _ ≤ 140 * (d + 1) + 400; omega⟩ rfl hl.1 rfl (Nat.le_of_ble_eq_true rfl) dX13_readNot_241 (fun H locs hH => ?_)
                        exact mt_throw hC hH hno hF dX13_readNot_244 hlocks
                  · rw [if_neg c_56] at hF
                    refine lv_bipush (v := 12) hx hb dX13_readNot_193 (by decide) ?_
                    refine lv_goto (tgt := 229) hx hb dX13_readNot_195 (by decide) ?_
                    refine lv_istore_n (lv' := [(1, .int 12), (0, .ref (Q 72))]) hx hb dX13_readNot_229 rfl hl (by decide) rfl (fun ls hl => ?_)
                    refine lv_iload_n hx hb dX13_readNot_230 rfl (lv_at hl 0 rfl) ?_
                    refine lv_iconst (v := (-1)) hx hb dX13_readNot_231 (by decide) ?_
                    refine lv_icmp_ne (tgt := 245) hx hb dX13_readNot_232 (by decide) (fun c_119 => ?_) (fun c_119 => ?_)
                    · rw [if_neg c_119] at hF
                      refine lv_aload_n hx hb dX13_readNot_245 rfl (lv_at hl 1 rfl) ?_
                      obtain ⟨r_120, u_121, h_122, hF⟩ := ob_some hF
                      cases r_120 with
                      | none =>
                        have hF := ot_none hF
                        exact mt_pass hH (mt_run (As := []) (rest := []) hC hH (t_hold l G Z Q u_54 u_121  _ h_122) kwX13_hold kVX13_hold ⟨by show _ ≤ 12 * (d + 1) + 20; omega, by show _ ≤ 140 * (d + 1) + 400; omega⟩ rfl hl.1 rfl (Nat.le_of_ble_eq_true rfl) dX13_readNot_246) hno hlocks hF
                      | some r_123 =>
                        have hF := ot_some hF
                        refine mcV_v (As := []) (rest := []) hC hH (m_hold l G Z Q u_54 u_121 r_123  _ h_122) kwX13_hold kVX13_hold ⟨by show _ ≤ 12 * (d + 1) + 20; omega, by show _ ≤ 140 * (d + 1) + 400; omega⟩ rfl hl.1 rfl (Nat.le_of_ble_eq_true rfl) dX13_readNot_246 (fun H locs hH => ?_)
                        refine lv_aload_n hx hb dX13_readNot_249 rfl (lv_at hl 1 rfl) ?_
                        obtain ⟨r_124, u_125, h_126, hF⟩ := ob_some hF
                        refine mcV_v (As := []) (rest := []) hC hH (m_scan l G Z Q u_121 u_125 r_124  _ h_126) kwX13_scan kVX13_scan ⟨by show _ ≤ 12 * (d + 1) + 20; omega, by show _ ≤ 140 * (d + 1) + 400; omega⟩ rfl hl.1 rfl (Nat.le_of_ble_eq_true rfl) dX13_readNot_250 (fun H locs hH => ?_)
                        refine lv_aload_n hx hb dX13_readNot_253 rfl (lv_at hl 1 rfl) ?_
                        obtain ⟨r_127, u_128, h_129, hF⟩ := ob_some hF
                        cases r_127 with
                        | none =>
                          have hF := ot_none hF
                          exact mt_pass hH (mt_run (As := []) (rest := []) hC hH (t_readSum l G Z Q u_125 u_128  _ h_129) kwX13_readSum kVX13_readSum ⟨by show _ ≤ 12 * (d + 1) + 20; omega, by show _ ≤ 140 * (d + 1) + 400; omega⟩ rfl hl.1 rfl (Nat.le_of_ble_eq_true rfl) dX13_readNot_254) hno hlocks hF
                        | some r_130 =>
                          have hF := ot_some hF
                          refine mcV_v (As := []) (rest := []) hC hH (m_readSum l G Z Q u_125 u_128 r_130  _ h_129) kwX13_readSum kVX13_readSum ⟨by show _ ≤ 12 * (d + 1) + 20; omega, by show _ ≤ 140 * (d + 1) + 400; omega⟩ rfl hl.1 rfl (Nat.le_of_ble_eq_true rfl) dX13_readNot_254 (fun H locs hH => ?_)
                          refine lv_aload_n hx hb dX13_readNot_257 rfl (lv_at hl 1 rfl) ?_
                          refine lv_iload_n hx hb dX13_readNot_258 rfl (lv_at hl 0 rfl) ?_
                          obtain ⟨r_131, u_132, h_133, hF⟩ := ob_some hF
                          refine mcV_v (As := [.int 12]) (rest := []) hC hH (m_release l G Z Q u_128 u_132 r_131 12 _ h_133) kwX13_release kVX13_release ⟨by show _ ≤ 12 * (d + 1) + 20; omega, by show _ ≤ 140 * (d + 1) + 400; omega⟩ rfl hl.1 rfl (Nat.le_of_ble_eq_true rfl) dX13_readNot_259 (fun H locs hH => ?_)
                          cases hF
                    · rw [if_pos c_119] at hF
                      refine lv_aload_n hx hb dX13_readNot_235 rfl (lv_at hl 1 rfl) ?_
                      refine lv_iconst (v := 1) hx hb dX13_readNot_236 (by decide) ?_
                      refine lv_aload_n hx hb dX13_readNot_237 rfl (lv_at hl 1 rfl) ?_
                      refine mg_44 hC hH dX13_readNot_238 ?_
                      obtain ⟨r_134, u_135, h_136, hF⟩ := ob_some hF
                      refine mcV_r (As := [.int 1, .int (u_54.1 44)]) (rest := []) hC hH (m_wrong l G Z Q u_54 u_135 r_134 1 (u_54.1 44) _ h_136) kwX13_wrong kVX13_wrong ⟨by show _ ≤ 12 * (d + 1) + 20; omega, by show _ ≤ 140 * (d + 1) + 400; omega⟩ rfl hl.1 rfl (Nat.le_of_ble_eq_true rfl) dX13_readNot_241 (fun H locs hH => ?_)
                      exact mt_throw hC hH hno hF dX13_readNot_244 hlocks
                · rw [if_neg c_52] at hF
                  refine lv_bipush (v := 11) hx hb dX13_readNot_178 (by decide) ?_
                  refine lv_goto (tgt := 229) hx hb dX13_readNot_180 (by decide) ?_
                  refine lv_istore_n (lv' := [(1, .int 11), (0, .ref (Q 72))]) hx hb dX13_readNot_229 rfl hl (by decide) rfl (fun ls hl => ?_)
                  refine lv_iload_n hx hb dX13_readNot_230 rfl (lv_at hl 0 rfl) ?_
                  refine lv_iconst (v := (-1)) hx hb dX13_readNot_231 (by decide) ?_
                  refine lv_icmp_ne (tgt := 245) hx hb dX13_readNot_232 (by decide) (fun c_137 => ?_) (fun c_137 => ?_)
                  · rw [if_neg c_137] at hF
                    refine lv_aload_n hx hb dX13_readNot_245 rfl (lv_at hl 1 rfl) ?_
                    obtain ⟨r_138, u_139, h_140, hF⟩ := ob_some hF
                    cases r_138 with
                    | none =>
                      have hF := ot_none hF
                      exact mt_pass hH (mt_run (As := []) (rest := []) hC hH (t_hold l G Z Q u_50 u_139  _ h_140) kwX13_hold kVX13_hold ⟨by show _ ≤ 12 * (d + 1) + 20; omega, by show _ ≤ 140 * (d + 1) + 400; omega⟩ rfl hl.1 rfl (Nat.le_of_ble_eq_true rfl) dX13_readNot_246) hno hlocks hF
                    | some r_141 =>
                      have hF := ot_some hF
                      refine mcV_v (As := []) (rest := []) hC hH (m_hold l G Z Q u_50 u_139 r_141  _ h_140) kwX13_hold kVX13_hold ⟨by show _ ≤ 12 * (d + 1) + 20; omega, by show _ ≤ 140 * (d + 1) + 400; omega⟩ rfl hl.1 rfl (Nat.le_of_ble_eq_true rfl) dX13_readNot_246 (fun H locs hH => ?_)
                      refine lv_aload_n hx hb dX13_readNot_249 rfl (lv_at hl 1 rfl) ?_
                      obtain ⟨r_142, u_143, h_144, hF⟩ := ob_some hF
                      refine mcV_v (As := []) (rest := []) hC hH (m_scan l G Z Q u_139 u_143 r_142  _ h_144) kwX13_scan kVX13_scan ⟨by show _ ≤ 12 * (d + 1) + 20; omega, by show _ ≤ 140 * (d + 1) + 400; omega⟩ rfl hl.1 rfl (Nat.le_of_ble_eq_true rfl) dX13_readNot_250 (fun H locs hH => ?_)
                      refine lv_aload_n hx hb dX13_readNot_253 rfl (lv_at hl 1 rfl) ?_
                      obtain ⟨r_145, u_146, h_147, hF⟩ := ob_some hF
                      cases r_145 with
                      | none =>
                        have hF := ot_none hF
                        exact mt_pass hH (mt_run (As := []) (rest := []) hC hH (t_readSum l G Z Q u_143 u_146  _ h_147) kwX13_readSum kVX13_readSum ⟨by show _ ≤ 12 * (d + 1) + 20; omega, by show _ ≤ 140 * (d + 1) + 400; omega⟩ rfl hl.1 rfl (Nat.le_of_ble_eq_true rfl) dX13_readNot_254) hno hlocks hF
                      | some r_148 =>
                        have hF := ot_some hF
                        refine mcV_v (As := []) (rest := []) hC hH (m_readSum l G Z Q u_143 u_146 r_148  _ h_147) kwX13_readSum kVX13_readSum ⟨by show _ ≤ 12 * (d + 1) + 20; omega, by show _ ≤ 140 * (d + 1) + 400; omega⟩ rfl hl.1 rfl (Nat.le_of_ble_eq_true rfl) dX13_readNot_254 (fun H locs hH => ?_)
                        refine lv_aload_n hx hb dX13_readNot_257 rfl (lv_at hl 1 rfl) ?_
                        refine lv_iload_n hx hb dX13_readNot_258 rfl (lv_at hl 0 rfl) ?_
                        obtain ⟨r_149, u_150, h_151, hF⟩ := ob_some hF
                        refine mcV_v (As := [.int 11]) (rest := []) hC hH (m_release l G Z Q u_146 u_150 r_149 11 _ h_151) kwX13_release kVX13_release ⟨by show _ ≤ 12 * (d + 1) + 20; omega, by show _ ≤ 140 * (d + 1) + 400; omega⟩ rfl hl.1 rfl (Nat.le_of_ble_eq_true rfl) dX13_readNot_259 (fun H locs hH => ?_)
                        cases hF
                  · rw [if_pos c_137] at hF
                    refine lv_aload_n hx hb dX13_readNot_235 rfl (lv_at hl 1 rfl) ?_
                    refine lv_iconst (v := 1) hx hb dX13_readNot_236 (by decide) ?_
                    refine lv_aload_n hx hb dX13_readNot_237 rfl (lv_at hl 1 rfl) ?_
                    refine mg_44 hC hH dX13_readNot_238 ?_
                    obtain ⟨r_152, u_153, h_154, hF⟩ := ob_some hF
                    refine mcV_r (As := [.int 1, .int (u_50.1 44)]) (rest := []) hC hH (m_wrong l G Z Q u_50 u_153 r_152 1 (u_50.1 44) _ h_154) kwX13_wrong kVX13_wrong ⟨by show _ ≤ 12 * (d + 1) + 20; omega, by show _ ≤ 140 * (d + 1) + 400; omega⟩ rfl hl.1 rfl (Nat.le_of_ble_eq_true rfl) dX13_readNot_241 (fun H locs hH => ?_)
                    exact mt_throw hC hH hno hF dX13_readNot_244 hlocks
              · rw [if_neg c_48] at hF
                refine lv_bipush (v := 10) hx hb dX13_readNot_163 (by decide) ?_
                refine lv_goto (tgt := 229) hx hb dX13_readNot_165 (by decide) ?_
                refine lv_istore_n (lv' := [(1, .int 10), (0, .ref (Q 72))]) hx hb dX13_readNot_229 rfl hl (by decide) rfl (fun ls hl => ?_)
                refine lv_iload_n hx hb dX13_readNot_230 rfl (lv_at hl 0 rfl) ?_
                refine lv_iconst (v := (-1)) hx hb dX13_readNot_231 (by decide) ?_
                refine lv_icmp_ne (tgt := 245) hx hb dX13_readNot_232 (by decide) (fun c_155 => ?_) (fun c_155 => ?_)
                · rw [if_neg c_155] at hF
                  refine lv_aload_n hx hb dX13_readNot_245 rfl (lv_at hl 1 rfl) ?_
                  obtain ⟨r_156, u_157, h_158, hF⟩ := ob_some hF
                  cases r_156 with
                  | none =>
                    have hF := ot_none hF
                    exact mt_pass hH (mt_run (As := []) (rest := []) hC hH (t_hold l G Z Q u_46 u_157  _ h_158) kwX13_hold kVX13_hold ⟨by show _ ≤ 12 * (d + 1) + 20; omega, by show _ ≤ 140 * (d + 1) + 400; omega⟩ rfl hl.1 rfl (Nat.le_of_ble_eq_true rfl) dX13_readNot_246) hno hlocks hF
                  | some r_159 =>
                    have hF := ot_some hF
                    refine mcV_v (As := []) (rest := []) hC hH (m_hold l G Z Q u_46 u_157 r_159  _ h_158) kwX13_hold kVX13_hold ⟨by show _ ≤ 12 * (d + 1) + 20; omega, by show _ ≤ 140 * (d + 1) + 400; omega⟩ rfl hl.1 rfl (Nat.le_of_ble_eq_true rfl) dX13_readNot_246 (fun H locs hH => ?_)
                    refine lv_aload_n hx hb dX13_readNot_249 rfl (lv_at hl 1 rfl) ?_
                    obtain ⟨r_160, u_161, h_162, hF⟩ := ob_some hF
                    refine mcV_v (As := []) (rest := []) hC hH (m_scan l G Z Q u_157 u_161 r_160  _ h_162) kwX13_scan kVX13_scan ⟨by show _ ≤ 12 * (d + 1) + 20; omega, by show _ ≤ 140 * (d + 1) + 400; omega⟩ rfl hl.1 rfl (Nat.le_of_ble_eq_true rfl) dX13_readNot_250 (fun H locs hH => ?_)
                    refine lv_aload_n hx hb dX13_readNot_253 rfl (lv_at hl 1 rfl) ?_
                    obtain ⟨r_163, u_164, h_165, hF⟩ := ob_some hF
                    cases r_163 with
                    | none =>
                      have hF := ot_none hF
                      exact mt_pass hH (mt_run (As := []) (rest := []) hC hH (t_readSum l G Z Q u_161 u_164  _ h_165) kwX13_readSum kVX13_readSum ⟨by show _ ≤ 12 * (d + 1) + 20; omega, by show _ ≤ 140 * (d + 1) + 400; omega⟩ rfl hl.1 rfl (Nat.le_of_ble_eq_true rfl) dX13_readNot_254) hno hlocks hF
                    | some r_166 =>
                      have hF := ot_some hF
                      refine mcV_v (As := []) (rest := []) hC hH (m_readSum l G Z Q u_161 u_164 r_166  _ h_165) kwX13_readSum kVX13_readSum ⟨by show _ ≤ 12 * (d + 1) + 20; omega, by show _ ≤ 140 * (d + 1) + 400; omega⟩ rfl hl.1 rfl (Nat.le_of_ble_eq_true rfl) dX13_readNot_254 (fun H locs hH => ?_)
                      refine lv_aload_n hx hb dX13_readNot_257 rfl (lv_at hl 1 rfl) ?_
                      refine lv_iload_n hx hb dX13_readNot_258 rfl (lv_at hl 0 rfl) ?_
                      obtain ⟨r_167, u_168, h_169, hF⟩ := ob_some hF
                      refine mcV_v (As := [.int 10]) (rest := []) hC hH (m_release l G Z Q u_164 u_168 r_167 10 _ h_169) kwX13_release kVX13_release ⟨by show _ ≤ 12 * (d + 1) + 20; omega, by show _ ≤ 140 * (d + 1) + 400; omega⟩ rfl hl.1 rfl (Nat.le_of_ble_eq_true rfl) dX13_readNot_259 (fun H locs hH => ?_)
                      cases hF
                · rw [if_pos c_155] at hF
                  refine lv_aload_n hx hb dX13_readNot_235 rfl (lv_at hl 1 rfl) ?_
                  refine lv_iconst (v := 1) hx hb dX13_readNot_236 (by decide) ?_
                  refine lv_aload_n hx hb dX13_readNot_237 rfl (lv_at hl 1 rfl) ?_
                  refine mg_44 hC hH dX13_readNot_238 ?_
                  obtain ⟨r_170, u_171, h_172, hF⟩ := ob_some hF
                  refine mcV_r (As := [.int 1, .int (u_46.1 44)]) (rest := []) hC hH (m_wrong l G Z Q u_46 u_171 r_170 1 (u_46.1 44) _ h_172) kwX13_wrong kVX13_wrong ⟨by show _ ≤ 12 * (d + 1) + 20; omega, by show _ ≤ 140 * (d + 1) + 400; omega⟩ rfl hl.1 rfl (Nat.le_of_ble_eq_true rfl) dX13_readNot_241 (fun H locs hH => ?_)
                  exact mt_throw hC hH hno hF dX13_readNot_244 hlocks
            · rw [if_neg c_44] at hF
              refine lv_bipush (v := 9) hx hb dX13_readNot_148 (by decide) ?_
              refine lv_goto (tgt := 229) hx hb dX13_readNot_150 (by decide) ?_
              refine lv_istore_n (lv' := [(1, .int 9), (0, .ref (Q 72))]) hx hb dX13_readNot_229 rfl hl (by decide) rfl (fun ls hl => ?_)
              refine lv_iload_n hx hb dX13_readNot_230 rfl (lv_at hl 0 rfl) ?_
              refine lv_iconst (v := (-1)) hx hb dX13_readNot_231 (by decide) ?_
              refine lv_icmp_ne (tgt := 245) hx hb dX13_readNot_232 (by decide) (fun c_173 => ?_) (fun c_173 => ?_)
              · rw [if_neg c_173] at hF
                refine lv_aload_n hx hb dX13_readNot_245 rfl (lv_at hl 1 rfl) ?_
                obtain ⟨r_174, u_175, h_176, hF⟩ := ob_some hF
                cases r_174 with
                | none =>
                  have hF := ot_none hF
                  exact mt_pass hH (mt_run (As := []) (rest := []) hC hH (t_hold l G Z Q u_42 u_175  _ h_176) kwX13_hold kVX13_hold ⟨by show _ ≤ 12 * (d + 1) + 20; omega, by show _ ≤ 140 * (d + 1) + 400; omega⟩ rfl hl.1 rfl (Nat.le_of_ble_eq_true rfl) dX13_readNot_246) hno hlocks hF
                | some r_177 =>
                  have hF := ot_some hF
                  refine mcV_v (As := []) (rest := []) hC hH (m_hold l G Z Q u_42 u_175 r_177  _ h_176) kwX13_hold kVX13_hold ⟨by show _ ≤ 12 * (d + 1) + 20; omega, by show _ ≤ 140 * (d + 1) + 400; omega⟩ rfl hl.1 rfl (Nat.le_of_ble_eq_true rfl) dX13_readNot_246 (fun H locs hH => ?_)
                  refine lv_aload_n hx hb dX13_readNot_249 rfl (lv_at hl 1 rfl) ?_
                  obtain ⟨r_178, u_179, h_180, hF⟩ := ob_some hF
                  refine mcV_v (As := []) (rest := []) hC hH (m_scan l G Z Q u_175 u_179 r_178  _ h_180) kwX13_scan kVX13_scan ⟨by show _ ≤ 12 * (d + 1) + 20; omega, by show _ ≤ 140 * (d + 1) + 400; omega⟩ rfl hl.1 rfl (Nat.le_of_ble_eq_true rfl) dX13_readNot_250 (fun H locs hH => ?_)
                  refine lv_aload_n hx hb dX13_readNot_253 rfl (lv_at hl 1 rfl) ?_
                  obtain ⟨r_181, u_182, h_183, hF⟩ := ob_some hF
                  cases r_181 with
                  | none =>
                    have hF := ot_none hF
                    exact mt_pass hH (mt_run (As := []) (rest := []) hC hH (t_readSum l G Z Q u_179 u_182  _ h_183) kwX13_readSum kVX13_readSum ⟨by show _ ≤ 12 * (d + 1) + 20; omega, by show _ ≤ 140 * (d + 1) + 400; omega⟩ rfl hl.1 rfl (Nat.le_of_ble_eq_true rfl) dX13_readNot_254) hno hlocks hF
                  | some r_184 =>
                    have hF := ot_some hF
                    refine mcV_v (As := []) (rest := []) hC hH (m_readSum l G Z Q u_179 u_182 r_184  _ h_183) kwX13_readSum kVX13_readSum ⟨by show _ ≤ 12 * (d + 1) + 20; omega, by show _ ≤ 140 * (d + 1) + 400; omega⟩ rfl hl.1 rfl (Nat.le_of_ble_eq_true rfl) dX13_readNot_254 (fun H locs hH => ?_)
                    refine lv_aload_n hx hb dX13_readNot_257 rfl (lv_at hl 1 rfl) ?_
                    refine lv_iload_n hx hb dX13_readNot_258 rfl (lv_at hl 0 rfl) ?_
                    obtain ⟨r_185, u_186, h_187, hF⟩ := ob_some hF
                    refine mcV_v (As := [.int 9]) (rest := []) hC hH (m_release l G Z Q u_182 u_186 r_185 9 _ h_187) kwX13_release kVX13_release ⟨by show _ ≤ 12 * (d + 1) + 20; omega, by show _ ≤ 140 * (d + 1) + 400; omega⟩ rfl hl.1 rfl (Nat.le_of_ble_eq_true rfl) dX13_readNot_259 (fun H locs hH => ?_)
                    cases hF
              · rw [if_pos c_173] at hF
                refine lv_aload_n hx hb dX13_readNot_235 rfl (lv_at hl 1 rfl) ?_
                refine lv_iconst (v := 1) hx hb dX13_readNot_236 (by decide) ?_
                refine lv_aload_n hx hb dX13_readNot_237 rfl (lv_at hl 1 rfl) ?_
                refine mg_44 hC hH dX13_readNot_238 ?_
                obtain ⟨r_188, u_189, h_190, hF⟩ := ob_some hF
                refine mcV_r (As := [.int 1, .int (u_42.1 44)]) (rest := []) hC hH (m_wrong l G Z Q u_42 u_189 r_188 1 (u_42.1 44) _ h_190) kwX13_wrong kVX13_wrong ⟨by show _ ≤ 12 * (d + 1) + 20; omega, by show _ ≤ 140 * (d + 1) + 400; omega⟩ rfl hl.1 rfl (Nat.le_of_ble_eq_true rfl) dX13_readNot_241 (fun H locs hH => ?_)
                exact mt_throw hC hH hno hF dX13_readNot_244 hlocks
        · rw [if_neg c_36] at hF
          refine lv_aload_n hx hb dX13_readNot_105 rfl (lv_at hl 0 rfl) ?_
          obtain ⟨r_191, u_192, h_193, hF⟩ := ob_some hF
          cases r_191 with
          | none =>
            have hF := ot_none hF
            exact mt_pass hH (mt_run (As := []) (rest := []) hC hH (t_counts l G Z Q u_34 u_192  _ h_193) kwX13_counts kVX13_counts ⟨by show _ ≤ 12 * (d + 1) + 20; omega, by show _ ≤ 140 * (d + 1) + 400; omega⟩ rfl hl.1 rfl (Nat.le_of_ble_eq_true rfl) dX13_readNot_106) hno hlocks hF
          | some r_194 =>
            have hF := ot_some hF
            refine mcV_v (As := []) (rest := []) hC hH (m_counts l G Z Q u_34 u_192 r_194  _ h_193) kwX13_counts kVX13_counts ⟨by show _ ≤ 12 * (d + 1) + 20; omega, by show _ ≤ 140 * (d + 1) + 400; omega⟩ rfl hl.1 rfl (Nat.le_of_ble_eq_true rfl) dX13_readNot_106 (fun H locs hH => ?_)
            refine lv_aload_n hx hb dX13_readNot_109 rfl (lv_at hl 0 rfl) ?_
            refine lv_aload_n hx hb dX13_readNot_110 rfl (lv_at hl 0 rfl) ?_
            refine th_ldcw (tx := sTx 9) hx hb hC.2.2.2.1 (hC.2.2.2.2.2.2.2.2.1 9 (by decide)) dX13_readNot_111 ?_
            obtain ⟨r_195, u_196, h_197, hF⟩ := ob_some hF
            refine mcV_i (As := [.ref (Z.1 9)]) (rest := [.ref (Q 72)]) hC hH (m_is l G Z Q u_192 u_196 r_195 9 _ h_197 (by decide)) kwX13_is kVX13_is ⟨by show _ ≤ 12 * (d + 1) + 20; omega, by show _ ≤ 140 * (d + 1) + 400; omega⟩ rfl hl.1 rfl (Nat.le_of_ble_eq_true rfl) dX13_readNot_114 (fun H locs hH => ?_)
            refine lv_if_eq (tgt := 124) hx hb dX13_readNot_117 (by decide) (fun c_198 => ?_) (fun c_198 => ?_)
            · rw [if_pos c_198] at hF
              refine lv_iconst (v := 5) hx hb dX13_readNot_124 (by decide) ?_
              refine lv_iconst (v := 0) hx hb dX13_readNot_125 (by decide) ?_
              obtain ⟨r_199, u_200, h_201, hF⟩ := ob_some hF
              refine mcV_v (As := [.int 5, .int 0]) (rest := []) hC hH (m_put l G Z Q u_196 u_200 r_199 5 0 _ h_201) kwX13_put kVX13_put ⟨by show _ ≤ 12 * (d + 1) + 20; omega, by show _ ≤ 140 * (d + 1) + 400; omega⟩ rfl hl.1 rfl (Nat.le_of_ble_eq_true rfl) dX13_readNot_126 (fun H locs hH => ?_)
              refine lv_aload_n hx hb dX13_readNot_129 rfl (lv_at hl 0 rfl) ?_
              obtain ⟨r_202, u_203, h_204, hF⟩ := ob_some hF
              refine mcV_v (As := []) (rest := []) hC hH (m_scan l G Z Q u_200 u_203 r_202  _ h_204) kwX13_scan kVX13_scan ⟨by show _ ≤ 12 * (d + 1) + 20; omega, by show _ ≤ 140 * (d + 1) + 400; omega⟩ rfl hl.1 rfl (Nat.le_of_ble_eq_true rfl) dX13_readNot_130 (fun H locs hH => ?_)
              cases hF
            · rw [if_neg c_198] at hF
              refine lv_iconst (v := 4) hx hb dX13_readNot_120 (by decide) ?_
              refine lv_goto (tgt := 125) hx hb dX13_readNot_121 (by decide) ?_
              refine lv_iconst (v := 0) hx hb dX13_readNot_125 (by decide) ?_
              obtain ⟨r_205, u_206, h_207, hF⟩ := ob_some hF
              refine mcV_v (As := [.int 4, .int 0]) (rest := []) hC hH (m_put l G Z Q u_196 u_206 r_205 4 0 _ h_207) kwX13_put kVX13_put ⟨by show _ ≤ 12 * (d + 1) + 20; omega, by show _ ≤ 140 * (d + 1) + 400; omega⟩ rfl hl.1 rfl (Nat.le_of_ble_eq_true rfl) dX13_readNot_126 (fun H locs hH => ?_)
              refine lv_aload_n hx hb dX13_readNot_129 rfl (lv_at hl 0 rfl) ?_
              obtain ⟨r_208, u_209, h_210, hF⟩ := ob_some hF
              refine mcV_v (As := []) (rest := []) hC hH (m_scan l G Z Q u_206 u_209 r_208  _ h_210) kwX13_scan kVX13_scan ⟨by show _ ≤ 12 * (d + 1) + 20; omega, by show _ ≤ 140 * (d + 1) + 400; omega⟩ rfl hl.1 rfl (Nat.le_of_ble_eq_true rfl) dX13_readNot_130 (fun H locs hH => ?_)
              cases hF
    · rw [if_neg c_8] at hF
      refine lv_aload_n hx hb dX13_readNot_59 rfl (lv_at hl 0 rfl) ?_
      obtain ⟨r_211, u_212, h_213, hF⟩ := ob_some hF
      cases r_211 with
      | none =>
        have hF := ot_none hF
        exact mt_pass hH (mt_run (As := []) (rest := []) hC hH (t_opens l G Z Q u_6 u_212  _ h_213) kwX13_opens kVX13_opens ⟨by show _ ≤ 12 * (d + 1) + 20; omega, by show _ ≤ 140 * (d + 1) + 400; omega⟩ rfl hl.1 rfl (Nat.le_of_ble_eq_true rfl) dX13_readNot_60) hno hlocks hF
      | some r_214 =>
        have hF := ot_some hF
        refine mcV_v (As := []) (rest := []) hC hH (m_opens l G Z Q u_6 u_212 r_214  _ h_213) kwX13_opens kVX13_opens ⟨by show _ ≤ 12 * (d + 1) + 20; omega, by show _ ≤ 140 * (d + 1) + 400; omega⟩ rfl hl.1 rfl (Nat.le_of_ble_eq_true rfl) dX13_readNot_60 (fun H locs hH => ?_)
        refine lv_aload_n hx hb dX13_readNot_63 rfl (lv_at hl 0 rfl) ?_
        obtain ⟨r_215, u_216, h_217, hF⟩ := ob_some hF
        cases r_215 with
        | none =>
          have hF := ot_none hF
          exact mt_pass hH (mt_run (As := []) (rest := []) hC hH (ht_readOr u_212 u_216  _ h_217) kwX13_readOr kVX13_readOr ⟨by show _ ≤ 12 * (d + 1) + 20; omega, by show _ ≤ 140 * (d + 1) + 400; omega⟩ rfl hl.1 rfl (Nat.le_of_ble_eq_true rfl) dX13_readNot_64) hno hlocks hF
        | some r_218 =>
          have hF := ot_some hF
          refine mcV_v (As := []) (rest := []) hC hH (hr_readOr u_212 u_216 r_218  _ h_217) kwX13_readOr kVX13_readOr ⟨by show _ ≤ 12 * (d + 1) + 20; omega, by show _ ≤ 140 * (d + 1) + 400; omega⟩ rfl hl.1 rfl (Nat.le_of_ble_eq_true rfl) dX13_readNot_64 (fun H locs hH => ?_)
          refine lv_aload_n hx hb dX13_readNot_67 rfl (lv_at hl 0 rfl) ?_
          refine th_ldcw (tx := sTx 16) hx hb hC.2.2.2.1 (hC.2.2.2.2.2.2.2.2.1 16 (by decide)) dX13_readNot_68 ?_
          obtain ⟨r_219, u_220, h_221, hF⟩ := ob_some hF
          cases r_219 with
          | none =>
            have hF := ot_none hF
            exact mt_pass hH (mt_run (As := [.ref (Z.1 16)]) (rest := []) hC hH (t_need l G Z Q u_216 u_220 16 _ h_221 (by decide)) kwX13_need kVX13_need ⟨by show _ ≤ 12 * (d + 1) + 20; omega, by show _ ≤ 140 * (d + 1) + 400; omega⟩ rfl hl.1 rfl (Nat.le_of_ble_eq_true rfl) dX13_readNot_71) hno hlocks hF
          | some r_222 =>
            have hF := ot_some hF
            refine mcV_v (As := [.ref (Z.1 16)]) (rest := []) hC hH (m_need l G Z Q u_216 u_220 r_222 16 _ h_221 (by decide)) kwX13_need kVX13_need ⟨by show _ ≤ 12 * (d + 1) + 20; omega, by show _ ≤ 140 * (d + 1) + 400; omega⟩ rfl hl.1 rfl (Nat.le_of_ble_eq_true rfl) dX13_readNot_71 (fun H locs hH => ?_)
            refine lv_aload_n hx hb dX13_readNot_74 rfl (lv_at hl 0 rfl) ?_
            refine lv_dup hx hb dX13_readNot_75 rfl ?_
            refine mg_48 hC hH dX13_readNot_76 ?_
            refine lv_iconst (v := 1) hx hb dX13_readNot_79 (by decide) ?_
            refine lv_isub hx hb dX13_readNot_80 ?_
            obtain ⟨u_223, e_224, hF⟩ := lu_some hF
            refine mp_48 hC hH e_224 dX13_readNot_81 (fun H locs hH => ?_)
            cases hF
  · rw [if_neg c_4] at hF
    refine lv_aload_n hx hb dX13_readNot_10 rfl (lv_at hl 0 rfl) ?_
    obtain ⟨r_225, u_226, h_227, hF⟩ := ob_some hF
    cases r_225 with
    | none =>
      have hF := ot_none hF
      exact mt_pass hH (mt_run (As := []) (rest := []) hC hH (t_counts l G Z Q u_2 u_226  _ h_227) kwX13_counts kVX13_counts ⟨by show _ ≤ 12 * (d + 1) + 20; omega, by show _ ≤ 140 * (d + 1) + 400; omega⟩ rfl hl.1 rfl (Nat.le_of_ble_eq_true rfl) dX13_readNot_11) hno hlocks hF
    | some r_228 =>
      have hF := ot_some hF
      refine mcV_v (As := []) (rest := []) hC hH (m_counts l G Z Q u_2 u_226 r_228  _ h_227) kwX13_counts kVX13_counts ⟨by show _ ≤ 12 * (d + 1) + 20; omega, by show _ ≤ 140 * (d + 1) + 400; omega⟩ rfl hl.1 rfl (Nat.le_of_ble_eq_true rfl) dX13_readNot_11 (fun H locs hH => ?_)
      refine lv_aload_n hx hb dX13_readNot_14 rfl (lv_at hl 0 rfl) ?_
      refine lv_dup hx hb dX13_readNot_15 rfl ?_
      refine mg_51 hC hH dX13_readNot_16 ?_
      refine lv_iconst (v := 1) hx hb dX13_readNot_19 (by decide) ?_
      refine lv_iadd hx hb dX13_readNot_20 ?_
      obtain ⟨u_229, e_230, hF⟩ := lu_some hF
      refine mp_51 hC hH e_230 dX13_readNot_21 (fun H locs hH => ?_)
      refine lv_aload_n hx hb dX13_readNot_24 rfl (lv_at hl 0 rfl) ?_
      obtain ⟨r_231, u_232, h_233, hF⟩ := ob_some hF
      cases r_231 with
      | none =>
        have hF := ot_none hF
        exact mt_pass hH (mt_run (As := []) (rest := []) hC hH (t_opens l G Z Q u_229 u_232  _ h_233) kwX13_opens kVX13_opens ⟨by show _ ≤ 12 * (d + 1) + 20; omega, by show _ ≤ 140 * (d + 1) + 400; omega⟩ rfl hl.1 rfl (Nat.le_of_ble_eq_true rfl) dX13_readNot_25) hno hlocks hF
      | some r_234 =>
        have hF := ot_some hF
        refine mcV_v (As := []) (rest := []) hC hH (m_opens l G Z Q u_229 u_232 r_234  _ h_233) kwX13_opens kVX13_opens ⟨by show _ ≤ 12 * (d + 1) + 20; omega, by show _ ≤ 140 * (d + 1) + 400; omega⟩ rfl hl.1 rfl (Nat.le_of_ble_eq_true rfl) dX13_readNot_25 (fun H locs hH => ?_)
        refine lv_aload_n hx hb dX13_readNot_28 rfl (lv_at hl 0 rfl) ?_
        obtain ⟨r_235, u_236, h_237, hF⟩ := ob_some hF
        cases r_235 with
        | none =>
          have hF := ot_none hF
          exact mt_pass hH (mt_run (As := []) (rest := []) hC hH (ht_readNot u_232 u_236  _ h_237) kwX13_readNot kVX13_readNot ⟨by show _ ≤ 12 * (d + 1) + 20; omega, by show _ ≤ 140 * (d + 1) + 400; omega⟩ rfl hl.1 rfl (Nat.le_of_ble_eq_true rfl) dX13_readNot_29) hno hlocks hF
        | some r_238 =>
          have hF := ot_some hF
          refine mcV_v (As := []) (rest := []) hC hH (hr_readNot u_232 u_236 r_238  _ h_237) kwX13_readNot kVX13_readNot ⟨by show _ ≤ 12 * (d + 1) + 20; omega, by show _ ≤ 140 * (d + 1) + 400; omega⟩ rfl hl.1 rfl (Nat.le_of_ble_eq_true rfl) dX13_readNot_29 (fun H locs hH => ?_)
          refine lv_aload_n hx hb dX13_readNot_32 rfl (lv_at hl 0 rfl) ?_
          refine lv_dup hx hb dX13_readNot_33 rfl ?_
          refine mg_48 hC hH dX13_readNot_34 ?_
          refine lv_iconst (v := 1) hx hb dX13_readNot_37 (by decide) ?_
          refine lv_isub hx hb dX13_readNot_38 ?_
          obtain ⟨u_239, e_240, hF⟩ := lu_some hF
          refine mp_48 hC hH e_240 dX13_readNot_39 (fun H locs hH => ?_)
          refine lv_aload_n hx hb dX13_readNot_42 rfl (lv_at hl 0 rfl) ?_
          refine lv_bipush (v := 6) hx hb dX13_readNot_43 (by decide) ?_
          obtain ⟨r_241, u_242, h_243, hF⟩ := ob_some hF
          refine mcV_v (As := [.int 6]) (rest := []) hC hH (m_release l G Z Q u_239 u_242 r_241 6 _ h_243) kwX13_release kVX13_release ⟨by show _ ≤ 12 * (d + 1) + 20; omega, by show _ ≤ 140 * (d + 1) + 400; omega⟩ rfl hl.1 rfl (Nat.le_of_ble_eq_true rfl) dX13_readNot_45 (fun H locs hH => ?_)
          cases hF
def fP : Nat → Nat → Int32 → Int32 → Int32 → Int32 → MS → Option (Option Int32 × MS)
  | 0, _, _, _, _, _, _ => none
  | d + 1, w, a0, a1, a2, a3, u => if w = 0 then bd_readOr (fP d) u else if w = 1 then bd_readAnd (fP d) u else bd_readNot (fP d) u
theorem grpP (l : Launch) (G : gG) (Z : gM) (Q : Nat → Nat) : ∀ d : Nat, (∀ (u u1 : MS) (r : Int32) (sz : Nat), fP d 0 0 0 0 0 u = some (some r, u1) → Met l yX13_readOr (Cond.code yX13_readOr cX13_readOr 1 none :: wM) { frames := 12 * d + 20, cells := 0, slots := 0, locals := 140 * d + 400 } (va_Pc [.ref (Q 72)] (mPM G Z Q u sz)) (mQv G Q u1 sz) 0 0 (mA Q sz)) ∧ (∀ (u u1 : MS) (sz : Nat), fP d 0 0 0 0 0 u = some (none, u1) → MetT l yX13_readOr (Cond.code yX13_readOr cX13_readOr 1 none :: wM) { frames := 12 * d + 20, cells := 0, slots := 0, locals := 140 * d + 400 } (va_Pc [.ref (Q 72)] (mPM G Z Q u sz)) (mQt G Q u1 sz) 0 0 (mA Q sz)) ∧ (∀ (u u1 : MS) (r : Int32) (sz : Nat), fP d 1 0 0 0 0 u = some (some r, u1) → Met l yX13_readAnd (Cond.code yX13_readAnd cX13_readAnd 1 none :: wM) { frames := 12 * d + 20, cells := 0, slots := 0, locals := 140 * d + 400 } (va_Pc [.ref (Q 72)] (mPM G Z Q u sz)) (mQv G Q u1 sz) 0 0 (mA Q sz)) ∧ (∀ (u u1 : MS) (sz : Nat), fP d 1 0 0 0 0 u = some (none, u1) → MetT l yX13_readAnd (Cond.code yX13_readAnd cX13_readAnd 1 none :: wM) { frames := 12 * d + 20, cells := 0, slots := 0, locals := 140 * d + 400 } (va_Pc [.ref (Q 72)] (mPM G Z Q u sz)) (mQt G Q u1 sz) 0 0 (mA Q sz)) ∧ (∀ (u u1 : MS) (r : Int32) (sz : Nat), fP d 2 0 0 0 0 u = some (some r, u1) → Met l yX13_readNot (Cond.code yX13_readNot cX13_readNot 2 none :: wM) { frames := 12 * d + 20, cells := 0, slots := 0, locals := 140 * d + 400 } (va_Pc [.ref (Q 72)] (mPM G Z Q u sz)) (mQv G Q u1 sz) 0 0 (mA Q sz)) ∧ (∀ (u u1 : MS) (sz : Nat), fP d 2 0 0 0 0 u = some (none, u1) → MetT l yX13_readNot (Cond.code yX13_readNot cX13_readNot 2 none :: wM) { frames := 12 * d + 20, cells := 0, slots := 0, locals := 140 * d + 400 } (va_Pc [.ref (Q 72)] (mPM G Z Q u sz)) (mQt G Q u1 sz) 0 0 (mA Q sz)) := by
  intro d
  induction d with
  | zero => exact ⟨(fun u u1 r sz hF => by cases hF), (fun u u1 sz hF => by cases hF), (fun u u1 r sz hF => by cases hF), (fun u u1 sz hF => by cases hF), (fun u u1 r sz hF => by cases hF), (fun u u1 sz hF => by cases hF)⟩
  | succ d ih =>
    obtain ⟨i0, i1, i2, i3, i4, i5⟩ := ih
    exact ⟨(fun u u1 r sz hF => bm_readOr l G Z Q d (fP d) i0 i1 i2 i3 i4 i5 u u1 r  sz hF), (fun u u1 sz hF => bt_readOr l G Z Q d (fP d) i0 i1 i2 i3 i4 i5 u u1  sz hF), (fun u u1 r sz hF => bm_readAnd l G Z Q d (fP d) i0 i1 i2 i3 i4 i5 u u1 r  sz hF), (fun u u1 sz hF => bt_readAnd l G Z Q d (fP d) i0 i1 i2 i3 i4 i5 u u1  sz hF), (fun u u1 r sz hF => bm_readNot l G Z Q d (fP d) i0 i1 i2 i3 i4 i5 u u1 r  sz hF), (fun u u1 sz hF => bt_readNot l G Z Q d (fP d) i0 i1 i2 i3 i4 i5 u u1  sz hF)⟩
theorem m_readOr (l : Launch) (G : gG) (Z : gM) (Q : Nat → Nat) (u u1 : MS) (r : Int32) (sz : Nat) (hF : fP 32 0 0 0 0 0 u = some (some r, u1)) : Met l yX13_readOr (Cond.code yX13_readOr cX13_readOr 1 none :: wM) { frames := 404, cells := 0, slots := 0, locals := 4880 } (va_Pc [.ref (Q 72)] (mPM G Z Q u sz)) (mQv G Q u1 sz) 0 0 (mA Q sz) := (grpP l G Z Q 32).1 u u1 r sz hF
theorem t_readOr (l : Launch) (G : gG) (Z : gM) (Q : Nat → Nat) (u u1 : MS) (sz : Nat) (hF : fP 32 0 0 0 0 0 u = some (none, u1)) : MetT l yX13_readOr (Cond.code yX13_readOr cX13_readOr 1 none :: wM) { frames := 404, cells := 0, slots := 0, locals := 4880 } (va_Pc [.ref (Q 72)] (mPM G Z Q u sz)) (mQt G Q u1 sz) 0 0 (mA Q sz) := (grpP l G Z Q 32).2.1 u u1 sz hF
theorem m_readAnd (l : Launch) (G : gG) (Z : gM) (Q : Nat → Nat) (u u1 : MS) (r : Int32) (sz : Nat) (hF : fP 32 1 0 0 0 0 u = some (some r, u1)) : Met l yX13_readAnd (Cond.code yX13_readAnd cX13_readAnd 1 none :: wM) { frames := 404, cells := 0, slots := 0, locals := 4880 } (va_Pc [.ref (Q 72)] (mPM G Z Q u sz)) (mQv G Q u1 sz) 0 0 (mA Q sz) := (grpP l G Z Q 32).2.2.1 u u1 r sz hF
theorem t_readAnd (l : Launch) (G : gG) (Z : gM) (Q : Nat → Nat) (u u1 : MS) (sz : Nat) (hF : fP 32 1 0 0 0 0 u = some (none, u1)) : MetT l yX13_readAnd (Cond.code yX13_readAnd cX13_readAnd 1 none :: wM) { frames := 404, cells := 0, slots := 0, locals := 4880 } (va_Pc [.ref (Q 72)] (mPM G Z Q u sz)) (mQt G Q u1 sz) 0 0 (mA Q sz) := (grpP l G Z Q 32).2.2.2.1 u u1 sz hF
theorem m_readNot (l : Launch) (G : gG) (Z : gM) (Q : Nat → Nat) (u u1 : MS) (r : Int32) (sz : Nat) (hF : fP 32 2 0 0 0 0 u = some (some r, u1)) : Met l yX13_readNot (Cond.code yX13_readNot cX13_readNot 2 none :: wM) { frames := 404, cells := 0, slots := 0, locals := 4880 } (va_Pc [.ref (Q 72)] (mPM G Z Q u sz)) (mQv G Q u1 sz) 0 0 (mA Q sz) := (grpP l G Z Q 32).2.2.2.2.1 u u1 r sz hF
theorem t_readNot (l : Launch) (G : gG) (Z : gM) (Q : Nat → Nat) (u u1 : MS) (sz : Nat) (hF : fP 32 2 0 0 0 0 u = some (none, u1)) : MetT l yX13_readNot (Cond.code yX13_readNot cX13_readNot 2 none :: wM) { frames := 404, cells := 0, slots := 0, locals := 4880 } (va_Pc [.ref (Q 72)] (mPM G Z Q u sz)) (mQt G Q u1 sz) 0 0 (mA Q sz) := (grpP l G Z Q 32).2.2.2.2.2 u u1 sz hF
