def lp_readOr_4 (F : Nat → Int32 → Int32 → Int32 → Int32 → PG (Option Int32)) : Nat → (PG (Option Int32)) → PG (Option Int32)
  | 0, _ => fun _ => none
  | n4 + 1, K4_35 => pcl (f_is 6) (fun r_5 => (if r_5 = 0 then K4_35  else pcl (f_hold) (fun r_9 => pot r_9 (prt none) (fun r_12 => pcl (f_scan) (fun r_13 => pcl (F 1 0 0 0 0) (fun r_16 => pot r_16 (prt none) (fun r_19 => pcl (f_release 16) (fun r_20 => lp_readOr_4 F n4  K4_35))))))))
def bd_readOr (F : Nat → Int32 → Int32 → Int32 → Int32 → PG (Option Int32))  : PG (Option Int32) := pcl (F 1 0 0 0 0) (fun r_1 => pot r_1 (prt none) (fun r_4 => lp_readOr_4 F fuel  (prt (some 0))))
def lp_readAnd_4 (F : Nat → Int32 → Int32 → Int32 → Int32 → PG (Option Int32)) : Nat → (PG (Option Int32)) → PG (Option Int32)
  | 0, _ => fun _ => none
  | n4 + 1, K4_35 => pcl (f_is 7) (fun r_5 => (if r_5 = 0 then K4_35  else pcl (f_hold) (fun r_9 => pot r_9 (prt none) (fun r_12 => pcl (f_scan) (fun r_13 => pcl (F 2 0 0 0 0) (fun r_16 => pot r_16 (prt none) (fun r_19 => pcl (f_release 15) (fun r_20 => lp_readAnd_4 F n4  K4_35))))))))
def bd_readAnd (F : Nat → Int32 → Int32 → Int32 → Int32 → PG (Option Int32))  : PG (Option Int32) := pcl (F 2 0 0 0 0) (fun r_1 => pot r_1 (prt none) (fun r_4 => lp_readAnd_4 F fuel  (prt (some 0))))
def bd_readNot (F : Nat → Int32 → Int32 → Int32 → Int32 → PG (Option Int32))  : PG (Option Int32) := pcl (f_is 8) (fun r_1 => (if r_1 = 0 then pcl (f_is 15) (fun r_5 => (if r_5 = 0 then pcl (f_is 9) (fun r_9 => (if r_9 = 0 then pcl (f_is 10) (fun r_33 => (if r_33 = 0 then pcl (f_readSum) (fun r_37 => pot r_37 (prt none) (fun r_40 => pcl (f_is 17) (fun r_41 => (if r_41 = 0 then pcl (f_is 18) (fun r_45 => (if r_45 = 0 then pcl (f_is 19) (fun r_49 => (if r_49 = 0 then pcl (f_is 20) (fun r_53 => (if r_53 = 0 then pcl (f_is 21) (fun r_57 => (if r_57 = 0 then pcl (f_is 22) (fun r_61 => (if r_61 = 0 then (if (-1 : Int32) = (-1) then prf 44 (fun x_80 => pcl (f_wrong 1 x_80) (fun r_82 => prt none)) else pcl (f_hold) (fun r_66 => pot r_66 (prt none) (fun r_69 => pcl (f_scan) (fun r_70 => pcl (f_readSum) (fun r_73 => pot r_73 (prt none) (fun r_76 => pcl (f_release (-1)) (fun r_77 => prt (some 0)))))))) else (if (14 : Int32) = (-1) then prf 44 (fun x_100 => pcl (f_wrong 1 x_100) (fun r_102 => prt none)) else pcl (f_hold) (fun r_86 => pot r_86 (prt none) (fun r_89 => pcl (f_scan) (fun r_90 => pcl (f_readSum) (fun r_93 => pot r_93 (prt none) (fun r_96 => pcl (f_release 14) (fun r_97 => prt (some 0)))))))))) else (if (13 : Int32) = (-1) then prf 44 (fun x_120 => pcl (f_wrong 1 x_120) (fun r_122 => prt none)) else pcl (f_hold) (fun r_106 => pot r_106 (prt none) (fun r_109 => pcl (f_scan) (fun r_110 => pcl (f_readSum) (fun r_113 => pot r_113 (prt none) (fun r_116 => pcl (f_release 13) (fun r_117 => prt (some 0)))))))))) else (if (12 : Int32) = (-1) then prf 44 (fun x_140 => pcl (f_wrong 1 x_140) (fun r_142 => prt none)) else pcl (f_hold) (fun r_126 => pot r_126 (prt none) (fun r_129 => pcl (f_scan) (fun r_130 => pcl (f_readSum) (fun r_133 => pot r_133 (prt none) (fun r_136 => pcl (f_release 12) (fun r_137 => prt (some 0)))))))))) else (if (11 : Int32) = (-1) then prf 44 (fun x_160 => pcl (f_wrong 1 x_160) (fun r_162 => prt none)) else pcl (f_hold) (fun r_146 => pot r_146 (prt none) (fun r_149 => pcl (f_scan) (fun r_150 => pcl (f_readSum) (fun r_153 => pot r_153 (prt none) (fun r_156 => pcl (f_release 11) (fun r_157 => prt (some 0)))))))))) else (if (10 : Int32) = (-1) then prf 44 (fun x_180 => pcl (f_wrong 1 x_180) (fun r_182 => prt none)) else pcl (f_hold) (fun r_166 => pot r_166 (prt none) (fun r_169 => pcl (f_scan) (fun r_170 => pcl (f_readSum) (fun r_173 => pot r_173 (prt none) (fun r_176 => pcl (f_release 10) (fun r_177 => prt (some 0)))))))))) else (if (9 : Int32) = (-1) then prf 44 (fun x_200 => pcl (f_wrong 1 x_200) (fun r_202 => prt none)) else pcl (f_hold) (fun r_186 => pot r_186 (prt none) (fun r_189 => pcl (f_scan) (fun r_190 => pcl (f_readSum) (fun r_193 => pot r_193 (prt none) (fun r_196 => pcl (f_release 9) (fun r_197 => prt (some 0)))))))))))) else pcl (f_counts) (fun r_205 => pot r_205 (prt none) (fun r_208 => pcl (f_is 9) (fun r_209 => (if r_209 = 0 then pcl (f_put 5 0) (fun r_213 => pcl (f_scan) (fun r_216 => prt (some 0))) else pcl (f_put 4 0) (fun r_219 => pcl (f_scan) (fun r_222 => prt (some 0))))))))) else pcl (f_counts) (fun r_13 => pot r_13 (prt none) (fun r_16 => pcl (f_is 9) (fun r_17 => (if r_17 = 0 then pcl (f_put 5 0) (fun r_21 => pcl (f_scan) (fun r_24 => prt (some 0))) else pcl (f_put 4 0) (fun r_27 => pcl (f_scan) (fun r_30 => prt (some 0))))))))) else pcl (f_opens) (fun r_225 => pot r_225 (prt none) (fun r_228 => pcl (F 0 0 0 0 0) (fun r_229 => pot r_229 (prt none) (fun r_232 => pcl (f_need 16) (fun r_233 => pot r_233 (prt none) (fun r_236 => prf 48 (fun x_237 => pwf 48 (x_237 - 1) (prt (some 0))))))))))) else pcl (f_counts) (fun r_241 => pot r_241 (prt none) (fun r_244 => prf 51 (fun x_245 => pwf 51 (x_245 + 1) (pcl (f_opens) (fun r_249 => pot r_249 (prt none) (fun r_252 => pcl (F 2 0 0 0 0) (fun r_253 => pot r_253 (prt none) (fun r_256 => prf 48 (fun x_257 => pwf 48 (x_257 - 1) (pcl (f_release 6) (fun r_261 => prt (some 0))))))))))))))
set_option maxHeartbeats 4000000 in
set_option maxRecDepth 100000 in
theorem bm_readOr (l : Launch) (G : gG) (Z : gM) (Q : Nat → Nat) (d : Nat) (F : Nat → Int32 → Int32 → Int32 → Int32 → PG (Option Int32)) (hr_readOr : ∀ (u u1 : GS) (r : Int32) (sz : Nat), F 0 0 0 0 0 u = some (some r, u1) → Met l yX13_readOr (Cond.code yX13_readOr cX13_readOr 1 none :: wM) { frames := 12 * d + 20, cells := 0, slots := 0, locals := 140 * d + 400 } (va_Pc [.ref (Q 72)] (mPM G Z Q u.1 sz)) (mQv G Q u1.1 sz) 0 0 (mA Q sz)) (ht_readOr : ∀ (u u1 : GS) (sz : Nat), F 0 0 0 0 0 u = some (none, u1) → MetT l yX13_readOr (Cond.code yX13_readOr cX13_readOr 1 none :: wM) { frames := 12 * d + 20, cells := 0, slots := 0, locals := 140 * d + 400 } (va_Pc [.ref (Q 72)] (mPM G Z Q u.1 sz)) (mQt G Q u1.1 sz) 0 0 (mA Q sz)) (hr_readAnd : ∀ (u u1 : GS) (r : Int32) (sz : Nat), F 1 0 0 0 0 u = some (some r, u1) → Met l yX13_readAnd (Cond.code yX13_readAnd cX13_readAnd 1 none :: wM) { frames := 12 * d + 20, cells := 0, slots := 0, locals := 140 * d + 400 } (va_Pc [.ref (Q 72)] (mPM G Z Q u.1 sz)) (mQv G Q u1.1 sz) 0 0 (mA Q sz)) (ht_readAnd : ∀ (u u1 : GS) (sz : Nat), F 1 0 0 0 0 u = some (none, u1) → MetT l yX13_readAnd (Cond.code yX13_readAnd cX13_readAnd 1 none :: wM) { frames := 12 * d + 20, cells := 0, slots := 0, locals := 140 * d + 400 } (va_Pc [.ref (Q 72)] (mPM G Z Q u.1 sz)) (mQt G Q u1.1 sz) 0 0 (mA Q sz)) (hr_readNot : ∀ (u u1 : GS) (r : Int32) (sz : Nat), F 2 0 0 0 0 u = some (some r, u1) → Met l yX13_readNot (Cond.code yX13_readNot cX13_readNot 2 none :: wM) { frames := 12 * d + 20, cells := 0, slots := 0, locals := 140 * d + 400 } (va_Pc [.ref (Q 72)] (mPM G Z Q u.1 sz)) (mQv G Q u1.1 sz) 0 0 (mA Q sz)) (ht_readNot : ∀ (u u1 : GS) (sz : Nat), F 2 0 0 0 0 u = some (none, u1) → MetT l yX13_readNot (Cond.code yX13_readNot cX13_readNot 2 none :: wM) { frames := 12 * d + 20, cells := 0, slots := 0, locals := 140 * d + 400 } (va_Pc [.ref (Q 72)] (mPM G Z Q u.1 sz)) (mQt G Q u1.1 sz) 0 0 (mA Q sz)) (u u1 : GS) (r : Int32)  (sz : Nat) (hF : bd_readOr F u = some (some r, u1)) : Met l yX13_readOr (Cond.code yX13_readOr cX13_readOr 1 none :: wM) { frames := 12 * (d + 1) + 20, cells := 0, slots := 0, locals := 140 * (d + 1) + 400 } (va_Pc [.ref (Q 72)] (mPM G Z Q u.1 sz)) (mQv G Q u1.1 sz) 0 0 (mA Q sz) := by
  refine Met.ofW (cc := cX13_readOr) (maxL := 1) (ret := none) (by decide) rfl ?_
  intro p e s m args below meth c s₁ B hml hv
  obtain ⟨rfl, rfl, hP, hB, hD, hE⟩ := hv
  have hr := B.returns
  have hlocks := B.notSynchronized
  have hts := atoms_spec (ws := Cond.code yX13_readOr cX13_readOr 1 none :: wM) B.pre
  have hC : mX p c cX13_readOr 1 s m _ G Z Q := ⟨B.exec, B.bytes, hml, findClass_of_methodNamed B.named, fun w h => hts w (List.mem_cons_of_mem _ h), hB, hE⟩
  have hx := hC.1
  have hb := hC.2.1
  have hH : mH G Q u.1 s s.heap [] := ⟨hP, hD, va_S.rf⟩
  have hl := lv_entry ([.ref (Q 72)]) (n := 1) (Nat.le_of_ble_eq_true rfl)
  rw [lg_entry_eq]
  generalize (lg_sl ([.ref (Q 72)]) ++ List.replicate (1 - (lg_sl ([.ref (Q 72)])).length) Slot.unset).toArray = ls at hl ⊢
  have hl : lv_has ls 1 [(0, .ref (Q 72))] := hl
  unfold bd_readOr at hF
  refine lv_aload_n hx hb dX13_readOr_0 rfl (lv_at hl 0 rfl) ?_
  obtain ⟨r_1, u_2, h_3, hF⟩ := pcl_some hF
  cases r_1 with
  | none =>
    have hF := pot_none hF
    exact (prt_no hF).elim
  | some r_4 =>
    have hF := pot_some hF
    refine mcV_v (As := []) (rest := []) hC hH (hr_readAnd u u_2 r_4  _ h_3) kwX13_readAnd kVX13_readAnd ⟨by show _ ≤ 12 * (d + 1) + 20; omega, by show _ ≤ 140 * (d + 1) + 400; omega⟩ rfl hl.1 rfl (Nat.le_of_ble_eq_true rfl) dX13_readOr_1 (fun H locs hH => ?_)
    have hL4 : ∀ (K4_35 : PG (Option Int32)), (∀ (u : GS) (H : Heap) (locs : List Loc) (ls : Array Slot), lv_has ls 1 [(0, .ref (Q 72))] → mH G Q u.1 s H locs → K4_35  u = some ((some r, u1)) → W p l e (headSpec (Cond.code yX13_readOr cX13_readOr 1 none :: wM) { frames := 12 * (d + 1) + 20, cells := 0, slots := 0, locals := 140 * (d + 1) + 400 }).room s m [.ref (Q 72)].toArray below meth c H locs 0 0 (MQ below (mQv G Q u1.1 s.heap.size) [.ref (Q 72)].toArray s 0 0 (mA Q s.heap.size)) (F0 m 35 ls [])) → ∀ (n4 : Nat) (u : GS) (H : Heap) (locs : List Loc) (ls : Array Slot), lv_has ls 1 [(0, .ref (Q 72))] → mH G Q u.1 s H locs → lp_readOr_4 F n4  K4_35 u = some ((some r, u1)) → W p l e (headSpec (Cond.code yX13_readOr cX13_readOr 1 none :: wM) { frames := 12 * (d + 1) + 20, cells := 0, slots := 0, locals := 140 * (d + 1) + 400 }).room s m [.ref (Q 72)].toArray below meth c H locs 0 0 (MQ below (mQv G Q u1.1 s.heap.size) [.ref (Q 72)].toArray s 0 0 (mA Q s.heap.size)) (F0 m 4 ls []) := by
      intro K4_35 hK4_35 n4
      induction n4 with
      | zero => intro  u H locs ls hl hH hF; cases hF
      | succ n4 ih4 =>
        intro  u H locs ls hl hH hF
        unfold lp_readOr_4 at hF
        refine lv_aload_n hx hb dX13_readOr_4 rfl (lv_at hl 0 rfl) ?_
        refine th_ldcw (tx := sTx 6) hx hb hC.2.2.2.1 (hC.2.2.2.2.2.2.2.2.1 6 (by decide)) dX13_readOr_5 ?_
        obtain ⟨r_5, u_6, h_7, hF⟩ := pcl_some hF
        refine mcV_i (As := [.ref (Z.1 6)]) (rest := []) hC hH (m_is l G Z Q u u_6 r_5 6 _ h_7 (by decide)) kwX13_is kVX13_is ⟨by show _ ≤ 12 * (d + 1) + 20; omega, by show _ ≤ 140 * (d + 1) + 400; omega⟩ rfl hl.1 rfl (Nat.le_of_ble_eq_true rfl) dX13_readOr_8 (fun H locs hH => ?_)
        refine lv_if_eq (tgt := 35) hx hb dX13_readOr_11 (by decide) (fun c_8 => ?_) (fun c_8 => ?_)
        · rw [if_pos c_8] at hF
          exact hK4_35  u_6 _ _ _ (lv_sub hl [0] rfl) hH hF
        · rw [if_neg c_8] at hF
          refine lv_aload_n hx hb dX13_readOr_14 rfl (lv_at hl 0 rfl) ?_
          obtain ⟨r_9, u_10, h_11, hF⟩ := pcl_some hF
          cases r_9 with
          | none =>
            have hF := pot_none hF
            exact (prt_no hF).elim
          | some r_12 =>
            have hF := pot_some hF
            refine mcV_v (As := []) (rest := []) hC hH (m_hold l G Z Q u_6 u_10 r_12  _ h_11) kwX13_hold kVX13_hold ⟨by show _ ≤ 12 * (d + 1) + 20; omega, by show _ ≤ 140 * (d + 1) + 400; omega⟩ rfl hl.1 rfl (Nat.le_of_ble_eq_true rfl) dX13_readOr_15 (fun H locs hH => ?_)
            refine lv_aload_n hx hb dX13_readOr_18 rfl (lv_at hl 0 rfl) ?_
            obtain ⟨r_13, u_14, h_15, hF⟩ := pcl_some hF
            refine mcV_v (As := []) (rest := []) hC hH (m_scan l G Z Q u_10 u_14 r_13  _ h_15) kwX13_scan kVX13_scan ⟨by show _ ≤ 12 * (d + 1) + 20; omega, by show _ ≤ 140 * (d + 1) + 400; omega⟩ rfl hl.1 rfl (Nat.le_of_ble_eq_true rfl) dX13_readOr_19 (fun H locs hH => ?_)
            refine lv_aload_n hx hb dX13_readOr_22 rfl (lv_at hl 0 rfl) ?_
            obtain ⟨r_16, u_17, h_18, hF⟩ := pcl_some hF
            cases r_16 with
            | none =>
              have hF := pot_none hF
              exact (prt_no hF).elim
            | some r_19 =>
              have hF := pot_some hF
              refine mcV_v (As := []) (rest := []) hC hH (hr_readAnd u_14 u_17 r_19  _ h_18) kwX13_readAnd kVX13_readAnd ⟨by show _ ≤ 12 * (d + 1) + 20; omega, by show _ ≤ 140 * (d + 1) + 400; omega⟩ rfl hl.1 rfl (Nat.le_of_ble_eq_true rfl) dX13_readOr_23 (fun H locs hH => ?_)
              refine lv_aload_n hx hb dX13_readOr_26 rfl (lv_at hl 0 rfl) ?_
              refine lv_bipush (v := 16) hx hb dX13_readOr_27 (by decide) ?_
              obtain ⟨r_20, u_21, h_22, hF⟩ := pcl_some hF
              refine mcV_v (As := [.int 16]) (rest := []) hC hH (m_release l G Z Q u_17 u_21 r_20 16 _ h_22) kwX13_release kVX13_release ⟨by show _ ≤ 12 * (d + 1) + 20; omega, by show _ ≤ 140 * (d + 1) + 400; omega⟩ rfl hl.1 rfl (Nat.le_of_ble_eq_true rfl) dX13_readOr_29 (fun H locs hH => ?_)
              refine lv_goto (tgt := 4) hx hb dX13_readOr_32 (by decide) ?_
              exact ih4  u_21 _ _ _ (lv_sub hl [0] rfl) hH hF
    refine hL4 _ (fun  u H locs ls hl hH hF => ?_) fuel  u_2 _ _ _ (lv_sub hl [0] rfl) hH hF
    have hF := prt_eqS hF
    exact mr_v hC hH hr hF dX13_readOr_35 hlocks
set_option maxHeartbeats 4000000 in
set_option maxRecDepth 100000 in
theorem bt_readOr (l : Launch) (G : gG) (Z : gM) (Q : Nat → Nat) (d : Nat) (F : Nat → Int32 → Int32 → Int32 → Int32 → PG (Option Int32)) (hr_readOr : ∀ (u u1 : GS) (r : Int32) (sz : Nat), F 0 0 0 0 0 u = some (some r, u1) → Met l yX13_readOr (Cond.code yX13_readOr cX13_readOr 1 none :: wM) { frames := 12 * d + 20, cells := 0, slots := 0, locals := 140 * d + 400 } (va_Pc [.ref (Q 72)] (mPM G Z Q u.1 sz)) (mQv G Q u1.1 sz) 0 0 (mA Q sz)) (ht_readOr : ∀ (u u1 : GS) (sz : Nat), F 0 0 0 0 0 u = some (none, u1) → MetT l yX13_readOr (Cond.code yX13_readOr cX13_readOr 1 none :: wM) { frames := 12 * d + 20, cells := 0, slots := 0, locals := 140 * d + 400 } (va_Pc [.ref (Q 72)] (mPM G Z Q u.1 sz)) (mQt G Q u1.1 sz) 0 0 (mA Q sz)) (hr_readAnd : ∀ (u u1 : GS) (r : Int32) (sz : Nat), F 1 0 0 0 0 u = some (some r, u1) → Met l yX13_readAnd (Cond.code yX13_readAnd cX13_readAnd 1 none :: wM) { frames := 12 * d + 20, cells := 0, slots := 0, locals := 140 * d + 400 } (va_Pc [.ref (Q 72)] (mPM G Z Q u.1 sz)) (mQv G Q u1.1 sz) 0 0 (mA Q sz)) (ht_readAnd : ∀ (u u1 : GS) (sz : Nat), F 1 0 0 0 0 u = some (none, u1) → MetT l yX13_readAnd (Cond.code yX13_readAnd cX13_readAnd 1 none :: wM) { frames := 12 * d + 20, cells := 0, slots := 0, locals := 140 * d + 400 } (va_Pc [.ref (Q 72)] (mPM G Z Q u.1 sz)) (mQt G Q u1.1 sz) 0 0 (mA Q sz)) (hr_readNot : ∀ (u u1 : GS) (r : Int32) (sz : Nat), F 2 0 0 0 0 u = some (some r, u1) → Met l yX13_readNot (Cond.code yX13_readNot cX13_readNot 2 none :: wM) { frames := 12 * d + 20, cells := 0, slots := 0, locals := 140 * d + 400 } (va_Pc [.ref (Q 72)] (mPM G Z Q u.1 sz)) (mQv G Q u1.1 sz) 0 0 (mA Q sz)) (ht_readNot : ∀ (u u1 : GS) (sz : Nat), F 2 0 0 0 0 u = some (none, u1) → MetT l yX13_readNot (Cond.code yX13_readNot cX13_readNot 2 none :: wM) { frames := 12 * d + 20, cells := 0, slots := 0, locals := 140 * d + 400 } (va_Pc [.ref (Q 72)] (mPM G Z Q u.1 sz)) (mQt G Q u1.1 sz) 0 0 (mA Q sz)) (u u1 : GS)  (sz : Nat) (hF : bd_readOr F u = some (none, u1)) : MetT l yX13_readOr (Cond.code yX13_readOr cX13_readOr 1 none :: wM) { frames := 12 * (d + 1) + 20, cells := 0, slots := 0, locals := 140 * (d + 1) + 400 } (va_Pc [.ref (Q 72)] (mPM G Z Q u.1 sz)) (mQt G Q u1.1 sz) 0 0 (mA Q sz) := by
  refine MetT.ofW (cc := cX13_readOr) (maxL := 1) (ret := none) (by decide) rfl ?_
  intro p e s m args below meth c s₁ B hml hv
  obtain ⟨rfl, rfl, hP, hB, hD, hE⟩ := hv
  have hr := B.returns
  have hlocks := B.notSynchronized
  have hts := atoms_spec (ws := Cond.code yX13_readOr cX13_readOr 1 none :: wM) B.pre
  have hC : mX p c cX13_readOr 1 s m _ G Z Q := ⟨B.exec, B.bytes, hml, findClass_of_methodNamed B.named, fun w h => hts w (List.mem_cons_of_mem _ h), hB, hE⟩
  have hx := hC.1
  have hb := hC.2.1
  have hH : mH G Q u.1 s s.heap [] := ⟨hP, hD, va_S.rf⟩
  have hno : c.exceptionTable.isEmpty = true := BodyLoose.noHandlers B (hts _ List.mem_cons_self)
  have hl := lv_entry ([.ref (Q 72)]) (n := 1) (Nat.le_of_ble_eq_true rfl)
  rw [lg_entry_eq]
  generalize (lg_sl ([.ref (Q 72)]) ++ List.replicate (1 - (lg_sl ([.ref (Q 72)])).length) Slot.unset).toArray = ls at hl ⊢
  have hl : lv_has ls 1 [(0, .ref (Q 72))] := hl
  unfold bd_readOr at hF
  refine lv_aload_n hx hb dX13_readOr_0 rfl (lv_at hl 0 rfl) ?_
  obtain ⟨r_1, u_2, h_3, hF⟩ := pcl_some hF
  cases r_1 with
  | none =>
    have hF := pot_none hF
    exact mt_pass hH (mt_run (As := []) (rest := []) hC hH (ht_readAnd u u_2  _ h_3) kwX13_readAnd kVX13_readAnd ⟨by show _ ≤ 12 * (d + 1) + 20; omega, by show _ ≤ 140 * (d + 1) + 400; omega⟩ rfl hl.1 rfl (Nat.le_of_ble_eq_true rfl) dX13_readOr_1) hno hlocks (prt_eqT hF)
  | some r_4 =>
    have hF := pot_some hF
    refine mcV_v (As := []) (rest := []) hC hH (hr_readAnd u u_2 r_4  _ h_3) kwX13_readAnd kVX13_readAnd ⟨by show _ ≤ 12 * (d + 1) + 20; omega, by show _ ≤ 140 * (d + 1) + 400; omega⟩ rfl hl.1 rfl (Nat.le_of_ble_eq_true rfl) dX13_readOr_1 (fun H locs hH => ?_)
    have hL4 : ∀ (K4_35 : PG (Option Int32)), (∀ (u : GS) (H : Heap) (locs : List Loc) (ls : Array Slot), lv_has ls 1 [(0, .ref (Q 72))] → mH G Q u.1 s H locs → K4_35  u = some ((none, u1)) → W p l e (headSpec (Cond.code yX13_readOr cX13_readOr 1 none :: wM) { frames := 12 * (d + 1) + 20, cells := 0, slots := 0, locals := 140 * (d + 1) + 400 }).room s m [.ref (Q 72)].toArray below meth c H locs 0 0 (MQT below (mQt G Q u1.1 s.heap.size) [.ref (Q 72)].toArray s 0 0 (mA Q s.heap.size)) (F0 m 35 ls [])) → ∀ (n4 : Nat) (u : GS) (H : Heap) (locs : List Loc) (ls : Array Slot), lv_has ls 1 [(0, .ref (Q 72))] → mH G Q u.1 s H locs → lp_readOr_4 F n4  K4_35 u = some ((none, u1)) → W p l e (headSpec (Cond.code yX13_readOr cX13_readOr 1 none :: wM) { frames := 12 * (d + 1) + 20, cells := 0, slots := 0, locals := 140 * (d + 1) + 400 }).room s m [.ref (Q 72)].toArray below meth c H locs 0 0 (MQT below (mQt G Q u1.1 s.heap.size) [.ref (Q 72)].toArray s 0 0 (mA Q s.heap.size)) (F0 m 4 ls []) := by
      intro K4_35 hK4_35 n4
      induction n4 with
      | zero => intro  u H locs ls hl hH hF; cases hF
      | succ n4 ih4 =>
        intro  u H locs ls hl hH hF
        unfold lp_readOr_4 at hF
        refine lv_aload_n hx hb dX13_readOr_4 rfl (lv_at hl 0 rfl) ?_
        refine th_ldcw (tx := sTx 6) hx hb hC.2.2.2.1 (hC.2.2.2.2.2.2.2.2.1 6 (by decide)) dX13_readOr_5 ?_
        obtain ⟨r_5, u_6, h_7, hF⟩ := pcl_some hF
        refine mcV_i (As := [.ref (Z.1 6)]) (rest := []) hC hH (m_is l G Z Q u u_6 r_5 6 _ h_7 (by decide)) kwX13_is kVX13_is ⟨by show _ ≤ 12 * (d + 1) + 20; omega, by show _ ≤ 140 * (d + 1) + 400; omega⟩ rfl hl.1 rfl (Nat.le_of_ble_eq_true rfl) dX13_readOr_8 (fun H locs hH => ?_)
        refine lv_if_eq (tgt := 35) hx hb dX13_readOr_11 (by decide) (fun c_8 => ?_) (fun c_8 => ?_)
        · rw [if_pos c_8] at hF
          exact hK4_35  u_6 _ _ _ (lv_sub hl [0] rfl) hH hF
        · rw [if_neg c_8] at hF
          refine lv_aload_n hx hb dX13_readOr_14 rfl (lv_at hl 0 rfl) ?_
          obtain ⟨r_9, u_10, h_11, hF⟩ := pcl_some hF
          cases r_9 with
          | none =>
            have hF := pot_none hF
            exact mt_pass hH (mt_run (As := []) (rest := []) hC hH (t_hold l G Z Q u_6 u_10  _ h_11) kwX13_hold kVX13_hold ⟨by show _ ≤ 12 * (d + 1) + 20; omega, by show _ ≤ 140 * (d + 1) + 400; omega⟩ rfl hl.1 rfl (Nat.le_of_ble_eq_true rfl) dX13_readOr_15) hno hlocks (prt_eqT hF)
          | some r_12 =>
            have hF := pot_some hF
            refine mcV_v (As := []) (rest := []) hC hH (m_hold l G Z Q u_6 u_10 r_12  _ h_11) kwX13_hold kVX13_hold ⟨by show _ ≤ 12 * (d + 1) + 20; omega, by show _ ≤ 140 * (d + 1) + 400; omega⟩ rfl hl.1 rfl (Nat.le_of_ble_eq_true rfl) dX13_readOr_15 (fun H locs hH => ?_)
            refine lv_aload_n hx hb dX13_readOr_18 rfl (lv_at hl 0 rfl) ?_
            obtain ⟨r_13, u_14, h_15, hF⟩ := pcl_some hF
            refine mcV_v (As := []) (rest := []) hC hH (m_scan l G Z Q u_10 u_14 r_13  _ h_15) kwX13_scan kVX13_scan ⟨by show _ ≤ 12 * (d + 1) + 20; omega, by show _ ≤ 140 * (d + 1) + 400; omega⟩ rfl hl.1 rfl (Nat.le_of_ble_eq_true rfl) dX13_readOr_19 (fun H locs hH => ?_)
            refine lv_aload_n hx hb dX13_readOr_22 rfl (lv_at hl 0 rfl) ?_
            obtain ⟨r_16, u_17, h_18, hF⟩ := pcl_some hF
            cases r_16 with
            | none =>
              have hF := pot_none hF
              exact mt_pass hH (mt_run (As := []) (rest := []) hC hH (ht_readAnd u_14 u_17  _ h_18) kwX13_readAnd kVX13_readAnd ⟨by show _ ≤ 12 * (d + 1) + 20; omega, by show _ ≤ 140 * (d + 1) + 400; omega⟩ rfl hl.1 rfl (Nat.le_of_ble_eq_true rfl) dX13_readOr_23) hno hlocks (prt_eqT hF)
            | some r_19 =>
              have hF := pot_some hF
              refine mcV_v (As := []) (rest := []) hC hH (hr_readAnd u_14 u_17 r_19  _ h_18) kwX13_readAnd kVX13_readAnd ⟨by show _ ≤ 12 * (d + 1) + 20; omega, by show _ ≤ 140 * (d + 1) + 400; omega⟩ rfl hl.1 rfl (Nat.le_of_ble_eq_true rfl) dX13_readOr_23 (fun H locs hH => ?_)
              refine lv_aload_n hx hb dX13_readOr_26 rfl (lv_at hl 0 rfl) ?_
              refine lv_bipush (v := 16) hx hb dX13_readOr_27 (by decide) ?_
              obtain ⟨r_20, u_21, h_22, hF⟩ := pcl_some hF
              refine mcV_v (As := [.int 16]) (rest := []) hC hH (m_release l G Z Q u_17 u_21 r_20 16 _ h_22) kwX13_release kVX13_release ⟨by show _ ≤ 12 * (d + 1) + 20; omega, by show _ ≤ 140 * (d + 1) + 400; omega⟩ rfl hl.1 rfl (Nat.le_of_ble_eq_true rfl) dX13_readOr_29 (fun H locs hH => ?_)
              refine lv_goto (tgt := 4) hx hb dX13_readOr_32 (by decide) ?_
              exact ih4  u_21 _ _ _ (lv_sub hl [0] rfl) hH hF
    refine hL4 _ (fun  u H locs ls hl hH hF => ?_) fuel  u_2 _ _ _ (lv_sub hl [0] rfl) hH hF
    exact (prt_no2 hF).elim
set_option maxHeartbeats 4000000 in
set_option maxRecDepth 100000 in
theorem bm_readAnd (l : Launch) (G : gG) (Z : gM) (Q : Nat → Nat) (d : Nat) (F : Nat → Int32 → Int32 → Int32 → Int32 → PG (Option Int32)) (hr_readOr : ∀ (u u1 : GS) (r : Int32) (sz : Nat), F 0 0 0 0 0 u = some (some r, u1) → Met l yX13_readOr (Cond.code yX13_readOr cX13_readOr 1 none :: wM) { frames := 12 * d + 20, cells := 0, slots := 0, locals := 140 * d + 400 } (va_Pc [.ref (Q 72)] (mPM G Z Q u.1 sz)) (mQv G Q u1.1 sz) 0 0 (mA Q sz)) (ht_readOr : ∀ (u u1 : GS) (sz : Nat), F 0 0 0 0 0 u = some (none, u1) → MetT l yX13_readOr (Cond.code yX13_readOr cX13_readOr 1 none :: wM) { frames := 12 * d + 20, cells := 0, slots := 0, locals := 140 * d + 400 } (va_Pc [.ref (Q 72)] (mPM G Z Q u.1 sz)) (mQt G Q u1.1 sz) 0 0 (mA Q sz)) (hr_readAnd : ∀ (u u1 : GS) (r : Int32) (sz : Nat), F 1 0 0 0 0 u = some (some r, u1) → Met l yX13_readAnd (Cond.code yX13_readAnd cX13_readAnd 1 none :: wM) { frames := 12 * d + 20, cells := 0, slots := 0, locals := 140 * d + 400 } (va_Pc [.ref (Q 72)] (mPM G Z Q u.1 sz)) (mQv G Q u1.1 sz) 0 0 (mA Q sz)) (ht_readAnd : ∀ (u u1 : GS) (sz : Nat), F 1 0 0 0 0 u = some (none, u1) → MetT l yX13_readAnd (Cond.code yX13_readAnd cX13_readAnd 1 none :: wM) { frames := 12 * d + 20, cells := 0, slots := 0, locals := 140 * d + 400 } (va_Pc [.ref (Q 72)] (mPM G Z Q u.1 sz)) (mQt G Q u1.1 sz) 0 0 (mA Q sz)) (hr_readNot : ∀ (u u1 : GS) (r : Int32) (sz : Nat), F 2 0 0 0 0 u = some (some r, u1) → Met l yX13_readNot (Cond.code yX13_readNot cX13_readNot 2 none :: wM) { frames := 12 * d + 20, cells := 0, slots := 0, locals := 140 * d + 400 } (va_Pc [.ref (Q 72)] (mPM G Z Q u.1 sz)) (mQv G Q u1.1 sz) 0 0 (mA Q sz)) (ht_readNot : ∀ (u u1 : GS) (sz : Nat), F 2 0 0 0 0 u = some (none, u1) → MetT l yX13_readNot (Cond.code yX13_readNot cX13_readNot 2 none :: wM) { frames := 12 * d + 20, cells := 0, slots := 0, locals := 140 * d + 400 } (va_Pc [.ref (Q 72)] (mPM G Z Q u.1 sz)) (mQt G Q u1.1 sz) 0 0 (mA Q sz)) (u u1 : GS) (r : Int32)  (sz : Nat) (hF : bd_readAnd F u = some (some r, u1)) : Met l yX13_readAnd (Cond.code yX13_readAnd cX13_readAnd 1 none :: wM) { frames := 12 * (d + 1) + 20, cells := 0, slots := 0, locals := 140 * (d + 1) + 400 } (va_Pc [.ref (Q 72)] (mPM G Z Q u.1 sz)) (mQv G Q u1.1 sz) 0 0 (mA Q sz) := by
  refine Met.ofW (cc := cX13_readAnd) (maxL := 1) (ret := none) (by decide) rfl ?_
  intro p e s m args below meth c s₁ B hml hv
  obtain ⟨rfl, rfl, hP, hB, hD, hE⟩ := hv
  have hr := B.returns
  have hlocks := B.notSynchronized
  have hts := atoms_spec (ws := Cond.code yX13_readAnd cX13_readAnd 1 none :: wM) B.pre
  have hC : mX p c cX13_readAnd 1 s m _ G Z Q := ⟨B.exec, B.bytes, hml, findClass_of_methodNamed B.named, fun w h => hts w (List.mem_cons_of_mem _ h), hB, hE⟩
  have hx := hC.1
  have hb := hC.2.1
  have hH : mH G Q u.1 s s.heap [] := ⟨hP, hD, va_S.rf⟩
  have hl := lv_entry ([.ref (Q 72)]) (n := 1) (Nat.le_of_ble_eq_true rfl)
  rw [lg_entry_eq]
  generalize (lg_sl ([.ref (Q 72)]) ++ List.replicate (1 - (lg_sl ([.ref (Q 72)])).length) Slot.unset).toArray = ls at hl ⊢
  have hl : lv_has ls 1 [(0, .ref (Q 72))] := hl
  unfold bd_readAnd at hF
  refine lv_aload_n hx hb dX13_readAnd_0 rfl (lv_at hl 0 rfl) ?_
  obtain ⟨r_1, u_2, h_3, hF⟩ := pcl_some hF
  cases r_1 with
  | none =>
    have hF := pot_none hF
    exact (prt_no hF).elim
  | some r_4 =>
    have hF := pot_some hF
    refine mcV_v (As := []) (rest := []) hC hH (hr_readNot u u_2 r_4  _ h_3) kwX13_readNot kVX13_readNot ⟨by show _ ≤ 12 * (d + 1) + 20; omega, by show _ ≤ 140 * (d + 1) + 400; omega⟩ rfl hl.1 rfl (Nat.le_of_ble_eq_true rfl) dX13_readAnd_1 (fun H locs hH => ?_)
    have hL4 : ∀ (K4_35 : PG (Option Int32)), (∀ (u : GS) (H : Heap) (locs : List Loc) (ls : Array Slot), lv_has ls 1 [(0, .ref (Q 72))] → mH G Q u.1 s H locs → K4_35  u = some ((some r, u1)) → W p l e (headSpec (Cond.code yX13_readAnd cX13_readAnd 1 none :: wM) { frames := 12 * (d + 1) + 20, cells := 0, slots := 0, locals := 140 * (d + 1) + 400 }).room s m [.ref (Q 72)].toArray below meth c H locs 0 0 (MQ below (mQv G Q u1.1 s.heap.size) [.ref (Q 72)].toArray s 0 0 (mA Q s.heap.size)) (F0 m 35 ls [])) → ∀ (n4 : Nat) (u : GS) (H : Heap) (locs : List Loc) (ls : Array Slot), lv_has ls 1 [(0, .ref (Q 72))] → mH G Q u.1 s H locs → lp_readAnd_4 F n4  K4_35 u = some ((some r, u1)) → W p l e (headSpec (Cond.code yX13_readAnd cX13_readAnd 1 none :: wM) { frames := 12 * (d + 1) + 20, cells := 0, slots := 0, locals := 140 * (d + 1) + 400 }).room s m [.ref (Q 72)].toArray below meth c H locs 0 0 (MQ below (mQv G Q u1.1 s.heap.size) [.ref (Q 72)].toArray s 0 0 (mA Q s.heap.size)) (F0 m 4 ls []) := by
      intro K4_35 hK4_35 n4
      induction n4 with
      | zero => intro  u H locs ls hl hH hF; cases hF
      | succ n4 ih4 =>
        intro  u H locs ls hl hH hF
        unfold lp_readAnd_4 at hF
        refine lv_aload_n hx hb dX13_readAnd_4 rfl (lv_at hl 0 rfl) ?_
        refine th_ldcw (tx := sTx 7) hx hb hC.2.2.2.1 (hC.2.2.2.2.2.2.2.2.1 7 (by decide)) dX13_readAnd_5 ?_
        obtain ⟨r_5, u_6, h_7, hF⟩ := pcl_some hF
        refine mcV_i (As := [.ref (Z.1 7)]) (rest := []) hC hH (m_is l G Z Q u u_6 r_5 7 _ h_7 (by decide)) kwX13_is kVX13_is ⟨by show _ ≤ 12 * (d + 1) + 20; omega, by show _ ≤ 140 * (d + 1) + 400; omega⟩ rfl hl.1 rfl (Nat.le_of_ble_eq_true rfl) dX13_readAnd_8 (fun H locs hH => ?_)
        refine lv_if_eq (tgt := 35) hx hb dX13_readAnd_11 (by decide) (fun c_8 => ?_) (fun c_8 => ?_)
        · rw [if_pos c_8] at hF
          exact hK4_35  u_6 _ _ _ (lv_sub hl [0] rfl) hH hF
        · rw [if_neg c_8] at hF
          refine lv_aload_n hx hb dX13_readAnd_14 rfl (lv_at hl 0 rfl) ?_
          obtain ⟨r_9, u_10, h_11, hF⟩ := pcl_some hF
          cases r_9 with
          | none =>
            have hF := pot_none hF
            exact (prt_no hF).elim
          | some r_12 =>
            have hF := pot_some hF
            refine mcV_v (As := []) (rest := []) hC hH (m_hold l G Z Q u_6 u_10 r_12  _ h_11) kwX13_hold kVX13_hold ⟨by show _ ≤ 12 * (d + 1) + 20; omega, by show _ ≤ 140 * (d + 1) + 400; omega⟩ rfl hl.1 rfl (Nat.le_of_ble_eq_true rfl) dX13_readAnd_15 (fun H locs hH => ?_)
            refine lv_aload_n hx hb dX13_readAnd_18 rfl (lv_at hl 0 rfl) ?_
            obtain ⟨r_13, u_14, h_15, hF⟩ := pcl_some hF
            refine mcV_v (As := []) (rest := []) hC hH (m_scan l G Z Q u_10 u_14 r_13  _ h_15) kwX13_scan kVX13_scan ⟨by show _ ≤ 12 * (d + 1) + 20; omega, by show _ ≤ 140 * (d + 1) + 400; omega⟩ rfl hl.1 rfl (Nat.le_of_ble_eq_true rfl) dX13_readAnd_19 (fun H locs hH => ?_)
            refine lv_aload_n hx hb dX13_readAnd_22 rfl (lv_at hl 0 rfl) ?_
            obtain ⟨r_16, u_17, h_18, hF⟩ := pcl_some hF
            cases r_16 with
            | none =>
              have hF := pot_none hF
              exact (prt_no hF).elim
            | some r_19 =>
              have hF := pot_some hF
              refine mcV_v (As := []) (rest := []) hC hH (hr_readNot u_14 u_17 r_19  _ h_18) kwX13_readNot kVX13_readNot ⟨by show _ ≤ 12 * (d + 1) + 20; omega, by show _ ≤ 140 * (d + 1) + 400; omega⟩ rfl hl.1 rfl (Nat.le_of_ble_eq_true rfl) dX13_readAnd_23 (fun H locs hH => ?_)
              refine lv_aload_n hx hb dX13_readAnd_26 rfl (lv_at hl 0 rfl) ?_
              refine lv_bipush (v := 15) hx hb dX13_readAnd_27 (by decide) ?_
              obtain ⟨r_20, u_21, h_22, hF⟩ := pcl_some hF
              refine mcV_v (As := [.int 15]) (rest := []) hC hH (m_release l G Z Q u_17 u_21 r_20 15 _ h_22) kwX13_release kVX13_release ⟨by show _ ≤ 12 * (d + 1) + 20; omega, by show _ ≤ 140 * (d + 1) + 400; omega⟩ rfl hl.1 rfl (Nat.le_of_ble_eq_true rfl) dX13_readAnd_29 (fun H locs hH => ?_)
              refine lv_goto (tgt := 4) hx hb dX13_readAnd_32 (by decide) ?_
              exact ih4  u_21 _ _ _ (lv_sub hl [0] rfl) hH hF
    refine hL4 _ (fun  u H locs ls hl hH hF => ?_) fuel  u_2 _ _ _ (lv_sub hl [0] rfl) hH hF
    have hF := prt_eqS hF
    exact mr_v hC hH hr hF dX13_readAnd_35 hlocks
set_option maxHeartbeats 4000000 in
set_option maxRecDepth 100000 in
theorem bt_readAnd (l : Launch) (G : gG) (Z : gM) (Q : Nat → Nat) (d : Nat) (F : Nat → Int32 → Int32 → Int32 → Int32 → PG (Option Int32)) (hr_readOr : ∀ (u u1 : GS) (r : Int32) (sz : Nat), F 0 0 0 0 0 u = some (some r, u1) → Met l yX13_readOr (Cond.code yX13_readOr cX13_readOr 1 none :: wM) { frames := 12 * d + 20, cells := 0, slots := 0, locals := 140 * d + 400 } (va_Pc [.ref (Q 72)] (mPM G Z Q u.1 sz)) (mQv G Q u1.1 sz) 0 0 (mA Q sz)) (ht_readOr : ∀ (u u1 : GS) (sz : Nat), F 0 0 0 0 0 u = some (none, u1) → MetT l yX13_readOr (Cond.code yX13_readOr cX13_readOr 1 none :: wM) { frames := 12 * d + 20, cells := 0, slots := 0, locals := 140 * d + 400 } (va_Pc [.ref (Q 72)] (mPM G Z Q u.1 sz)) (mQt G Q u1.1 sz) 0 0 (mA Q sz)) (hr_readAnd : ∀ (u u1 : GS) (r : Int32) (sz : Nat), F 1 0 0 0 0 u = some (some r, u1) → Met l yX13_readAnd (Cond.code yX13_readAnd cX13_readAnd 1 none :: wM) { frames := 12 * d + 20, cells := 0, slots := 0, locals := 140 * d + 400 } (va_Pc [.ref (Q 72)] (mPM G Z Q u.1 sz)) (mQv G Q u1.1 sz) 0 0 (mA Q sz)) (ht_readAnd : ∀ (u u1 : GS) (sz : Nat), F 1 0 0 0 0 u = some (none, u1) → MetT l yX13_readAnd (Cond.code yX13_readAnd cX13_readAnd 1 none :: wM) { frames := 12 * d + 20, cells := 0, slots := 0, locals := 140 * d + 400 } (va_Pc [.ref (Q 72)] (mPM G Z Q u.1 sz)) (mQt G Q u1.1 sz) 0 0 (mA Q sz)) (hr_readNot : ∀ (u u1 : GS) (r : Int32) (sz : Nat), F 2 0 0 0 0 u = some (some r, u1) → Met l yX13_readNot (Cond.code yX13_readNot cX13_readNot 2 none :: wM) { frames := 12 * d + 20, cells := 0, slots := 0, locals := 140 * d + 400 } (va_Pc [.ref (Q 72)] (mPM G Z Q u.1 sz)) (mQv G Q u1.1 sz) 0 0 (mA Q sz)) (ht_readNot : ∀ (u u1 : GS) (sz : Nat), F 2 0 0 0 0 u = some (none, u1) → MetT l yX13_readNot (Cond.code yX13_readNot cX13_readNot 2 none :: wM) { frames := 12 * d + 20, cells := 0, slots := 0, locals := 140 * d + 400 } (va_Pc [.ref (Q 72)] (mPM G Z Q u.1 sz)) (mQt G Q u1.1 sz) 0 0 (mA Q sz)) (u u1 : GS)  (sz : Nat) (hF : bd_readAnd F u = some (none, u1)) : MetT l yX13_readAnd (Cond.code yX13_readAnd cX13_readAnd 1 none :: wM) { frames := 12 * (d + 1) + 20, cells := 0, slots := 0, locals := 140 * (d + 1) + 400 } (va_Pc [.ref (Q 72)] (mPM G Z Q u.1 sz)) (mQt G Q u1.1 sz) 0 0 (mA Q sz) := by
  refine MetT.ofW (cc := cX13_readAnd) (maxL := 1) (ret := none) (by decide) rfl ?_
  intro p e s m args below meth c s₁ B hml hv
  obtain ⟨rfl, rfl, hP, hB, hD, hE⟩ := hv
  have hr := B.returns
  have hlocks := B.notSynchronized
  have hts := atoms_spec (ws := Cond.code yX13_readAnd cX13_readAnd 1 none :: wM) B.pre
  have hC : mX p c cX13_readAnd 1 s m _ G Z Q := ⟨B.exec, B.bytes, hml, findClass_of_methodNamed B.named, fun w h => hts w (List.mem_cons_of_mem _ h), hB, hE⟩
  have hx := hC.1
  have hb := hC.2.1
  have hH : mH G Q u.1 s s.heap [] := ⟨hP, hD, va_S.rf⟩
  have hno : c.exceptionTable.isEmpty = true := BodyLoose.noHandlers B (hts _ List.mem_cons_self)
  have hl := lv_entry ([.ref (Q 72)]) (n := 1) (Nat.le_of_ble_eq_true rfl)
  rw [lg_entry_eq]
  generalize (lg_sl ([.ref (Q 72)]) ++ List.replicate (1 - (lg_sl ([.ref (Q 72)])).length) Slot.unset).toArray = ls at hl ⊢
  have hl : lv_has ls 1 [(0, .ref (Q 72))] := hl
  unfold bd_readAnd at hF
  refine lv_aload_n hx hb dX13_readAnd_0 rfl (lv_at hl 0 rfl) ?_
  obtain ⟨r_1, u_2, h_3, hF⟩ := pcl_some hF
  cases r_1 with
  | none =>
    have hF := pot_none hF
    exact mt_pass hH (mt_run (As := []) (rest := []) hC hH (ht_readNot u u_2  _ h_3) kwX13_readNot kVX13_readNot ⟨by show _ ≤ 12 * (d + 1) + 20; omega, by show _ ≤ 140 * (d + 1) + 400; omega⟩ rfl hl.1 rfl (Nat.le_of_ble_eq_true rfl) dX13_readAnd_1) hno hlocks (prt_eqT hF)
  | some r_4 =>
    have hF := pot_some hF
    refine mcV_v (As := []) (rest := []) hC hH (hr_readNot u u_2 r_4  _ h_3) kwX13_readNot kVX13_readNot ⟨by show _ ≤ 12 * (d + 1) + 20; omega, by show _ ≤ 140 * (d + 1) + 400; omega⟩ rfl hl.1 rfl (Nat.le_of_ble_eq_true rfl) dX13_readAnd_1 (fun H locs hH => ?_)
    have hL4 : ∀ (K4_35 : PG (Option Int32)), (∀ (u : GS) (H : Heap) (locs : List Loc) (ls : Array Slot), lv_has ls 1 [(0, .ref (Q 72))] → mH G Q u.1 s H locs → K4_35  u = some ((none, u1)) → W p l e (headSpec (Cond.code yX13_readAnd cX13_readAnd 1 none :: wM) { frames := 12 * (d + 1) + 20, cells := 0, slots := 0, locals := 140 * (d + 1) + 400 }).room s m [.ref (Q 72)].toArray below meth c H locs 0 0 (MQT below (mQt G Q u1.1 s.heap.size) [.ref (Q 72)].toArray s 0 0 (mA Q s.heap.size)) (F0 m 35 ls [])) → ∀ (n4 : Nat) (u : GS) (H : Heap) (locs : List Loc) (ls : Array Slot), lv_has ls 1 [(0, .ref (Q 72))] → mH G Q u.1 s H locs → lp_readAnd_4 F n4  K4_35 u = some ((none, u1)) → W p l e (headSpec (Cond.code yX13_readAnd cX13_readAnd 1 none :: wM) { frames := 12 * (d + 1) + 20, cells := 0, slots := 0, locals := 140 * (d + 1) + 400 }).room s m [.ref (Q 72)].toArray below meth c H locs 0 0 (MQT below (mQt G Q u1.1 s.heap.size) [.ref (Q 72)].toArray s 0 0 (mA Q s.heap.size)) (F0 m 4 ls []) := by
      intro K4_35 hK4_35 n4
      induction n4 with
      | zero => intro  u H locs ls hl hH hF; cases hF
      | succ n4 ih4 =>
        intro  u H locs ls hl hH hF
        unfold lp_readAnd_4 at hF
        refine lv_aload_n hx hb dX13_readAnd_4 rfl (lv_at hl 0 rfl) ?_
        refine th_ldcw (tx := sTx 7) hx hb hC.2.2.2.1 (hC.2.2.2.2.2.2.2.2.1 7 (by decide)) dX13_readAnd_5 ?_
        obtain ⟨r_5, u_6, h_7, hF⟩ := pcl_some hF
        refine mcV_i (As := [.ref (Z.1 7)]) (rest := []) hC hH (m_is l G Z Q u u_6 r_5 7 _ h_7 (by decide)) kwX13_is kVX13_is ⟨by show _ ≤ 12 * (d + 1) + 20; omega, by show _ ≤ 140 * (d + 1) + 400; omega⟩ rfl hl.1 rfl (Nat.le_of_ble_eq_true rfl) dX13_readAnd_8 (fun H locs hH => ?_)
        refine lv_if_eq (tgt := 35) hx hb dX13_readAnd_11 (by decide) (fun c_8 => ?_) (fun c_8 => ?_)
        · rw [if_pos c_8] at hF
          exact hK4_35  u_6 _ _ _ (lv_sub hl [0] rfl) hH hF
        · rw [if_neg c_8] at hF
          refine lv_aload_n hx hb dX13_readAnd_14 rfl (lv_at hl 0 rfl) ?_
          obtain ⟨r_9, u_10, h_11, hF⟩ := pcl_some hF
          cases r_9 with
          | none =>
            have hF := pot_none hF
            exact mt_pass hH (mt_run (As := []) (rest := []) hC hH (t_hold l G Z Q u_6 u_10  _ h_11) kwX13_hold kVX13_hold ⟨by show _ ≤ 12 * (d + 1) + 20; omega, by show _ ≤ 140 * (d + 1) + 400; omega⟩ rfl hl.1 rfl (Nat.le_of_ble_eq_true rfl) dX13_readAnd_15) hno hlocks (prt_eqT hF)
          | some r_12 =>
            have hF := pot_some hF
            refine mcV_v (As := []) (rest := []) hC hH (m_hold l G Z Q u_6 u_10 r_12  _ h_11) kwX13_hold kVX13_hold ⟨by show _ ≤ 12 * (d + 1) + 20; omega, by show _ ≤ 140 * (d + 1) + 400; omega⟩ rfl hl.1 rfl (Nat.le_of_ble_eq_true rfl) dX13_readAnd_15 (fun H locs hH => ?_)
            refine lv_aload_n hx hb dX13_readAnd_18 rfl (lv_at hl 0 rfl) ?_
            obtain ⟨r_13, u_14, h_15, hF⟩ := pcl_some hF
            refine mcV_v (As := []) (rest := []) hC hH (m_scan l G Z Q u_10 u_14 r_13  _ h_15) kwX13_scan kVX13_scan ⟨by show _ ≤ 12 * (d + 1) + 20; omega, by show _ ≤ 140 * (d + 1) + 400; omega⟩ rfl hl.1 rfl (Nat.le_of_ble_eq_true rfl) dX13_readAnd_19 (fun H locs hH => ?_)
            refine lv_aload_n hx hb dX13_readAnd_22 rfl (lv_at hl 0 rfl) ?_
            obtain ⟨r_16, u_17, h_18, hF⟩ := pcl_some hF
            cases r_16 with
            | none =>
              have hF := pot_none hF
              exact mt_pass hH (mt_run (As := []) (rest := []) hC hH (ht_readNot u_14 u_17  _ h_18) kwX13_readNot kVX13_readNot ⟨by show _ ≤ 12 * (d + 1) + 20; omega, by show _ ≤ 140 * (d + 1) + 400; omega⟩ rfl hl.1 rfl (Nat.le_of_ble_eq_true rfl) dX13_readAnd_23) hno hlocks (prt_eqT hF)
            | some r_19 =>
              have hF := pot_some hF
              refine mcV_v (As := []) (rest := []) hC hH (hr_readNot u_14 u_17 r_19  _ h_18) kwX13_readNot kVX13_readNot ⟨by show _ ≤ 12 * (d + 1) + 20; omega, by show _ ≤ 140 * (d + 1) + 400; omega⟩ rfl hl.1 rfl (Nat.le_of_ble_eq_true rfl) dX13_readAnd_23 (fun H locs hH => ?_)
              refine lv_aload_n hx hb dX13_readAnd_26 rfl (lv_at hl 0 rfl) ?_
              refine lv_bipush (v := 15) hx hb dX13_readAnd_27 (by decide) ?_
              obtain ⟨r_20, u_21, h_22, hF⟩ := pcl_some hF
              refine mcV_v (As := [.int 15]) (rest := []) hC hH (m_release l G Z Q u_17 u_21 r_20 15 _ h_22) kwX13_release kVX13_release ⟨by show _ ≤ 12 * (d + 1) + 20; omega, by show _ ≤ 140 * (d + 1) + 400; omega⟩ rfl hl.1 rfl (Nat.le_of_ble_eq_true rfl) dX13_readAnd_29 (fun H locs hH => ?_)
              refine lv_goto (tgt := 4) hx hb dX13_readAnd_32 (by decide) ?_
              exact ih4  u_21 _ _ _ (lv_sub hl [0] rfl) hH hF
    refine hL4 _ (fun  u H locs ls hl hH hF => ?_) fuel  u_2 _ _ _ (lv_sub hl [0] rfl) hH hF
    exact (prt_no2 hF).elim
set_option maxHeartbeats 4000000 in
set_option maxRecDepth 100000 in
theorem bm_readNot (l : Launch) (G : gG) (Z : gM) (Q : Nat → Nat) (d : Nat) (F : Nat → Int32 → Int32 → Int32 → Int32 → PG (Option Int32)) (hr_readOr : ∀ (u u1 : GS) (r : Int32) (sz : Nat), F 0 0 0 0 0 u = some (some r, u1) → Met l yX13_readOr (Cond.code yX13_readOr cX13_readOr 1 none :: wM) { frames := 12 * d + 20, cells := 0, slots := 0, locals := 140 * d + 400 } (va_Pc [.ref (Q 72)] (mPM G Z Q u.1 sz)) (mQv G Q u1.1 sz) 0 0 (mA Q sz)) (ht_readOr : ∀ (u u1 : GS) (sz : Nat), F 0 0 0 0 0 u = some (none, u1) → MetT l yX13_readOr (Cond.code yX13_readOr cX13_readOr 1 none :: wM) { frames := 12 * d + 20, cells := 0, slots := 0, locals := 140 * d + 400 } (va_Pc [.ref (Q 72)] (mPM G Z Q u.1 sz)) (mQt G Q u1.1 sz) 0 0 (mA Q sz)) (hr_readAnd : ∀ (u u1 : GS) (r : Int32) (sz : Nat), F 1 0 0 0 0 u = some (some r, u1) → Met l yX13_readAnd (Cond.code yX13_readAnd cX13_readAnd 1 none :: wM) { frames := 12 * d + 20, cells := 0, slots := 0, locals := 140 * d + 400 } (va_Pc [.ref (Q 72)] (mPM G Z Q u.1 sz)) (mQv G Q u1.1 sz) 0 0 (mA Q sz)) (ht_readAnd : ∀ (u u1 : GS) (sz : Nat), F 1 0 0 0 0 u = some (none, u1) → MetT l yX13_readAnd (Cond.code yX13_readAnd cX13_readAnd 1 none :: wM) { frames := 12 * d + 20, cells := 0, slots := 0, locals := 140 * d + 400 } (va_Pc [.ref (Q 72)] (mPM G Z Q u.1 sz)) (mQt G Q u1.1 sz) 0 0 (mA Q sz)) (hr_readNot : ∀ (u u1 : GS) (r : Int32) (sz : Nat), F 2 0 0 0 0 u = some (some r, u1) → Met l yX13_readNot (Cond.code yX13_readNot cX13_readNot 2 none :: wM) { frames := 12 * d + 20, cells := 0, slots := 0, locals := 140 * d + 400 } (va_Pc [.ref (Q 72)] (mPM G Z Q u.1 sz)) (mQv G Q u1.1 sz) 0 0 (mA Q sz)) (ht_readNot : ∀ (u u1 : GS) (sz : Nat), F 2 0 0 0 0 u = some (none, u1) → MetT l yX13_readNot (Cond.code yX13_readNot cX13_readNot 2 none :: wM) { frames := 12 * d + 20, cells := 0, slots := 0, locals := 140 * d + 400 } (va_Pc [.ref (Q 72)] (mPM G Z Q u.1 sz)) (mQt G Q u1.1 sz) 0 0 (mA Q sz)) (u u1 : GS) (r : Int32)  (sz : Nat) (hF : bd_readNot F u = some (some r, u1)) : Met l yX13_readNot (Cond.code yX13_readNot cX13_readNot 2 none :: wM) { frames := 12 * (d + 1) + 20, cells := 0, slots := 0, locals := 140 * (d + 1) + 400 } (va_Pc [.ref (Q 72)] (mPM G Z Q u.1 sz)) (mQv G Q u1.1 sz) 0 0 (mA Q sz) := by
  refine Met.ofW (cc := cX13_readNot) (maxL := 2) (ret := none) (by decide) rfl ?_
  intro p e s m args below meth c s₁ B hml hv
  obtain ⟨rfl, rfl, hP, hB, hD, hE⟩ := hv
  have hr := B.returns
  have hlocks := B.notSynchronized
  have hts := atoms_spec (ws := Cond.code yX13_readNot cX13_readNot 2 none :: wM) B.pre
  have hC : mX p c cX13_readNot 2 s m _ G Z Q := ⟨B.exec, B.bytes, hml, findClass_of_methodNamed B.named, fun w h => hts w (List.mem_cons_of_mem _ h), hB, hE⟩
  have hx := hC.1
  have hb := hC.2.1
  have hH : mH G Q u.1 s s.heap [] := ⟨hP, hD, va_S.rf⟩
  have hl := lv_entry ([.ref (Q 72)]) (n := 2) (Nat.le_of_ble_eq_true rfl)
  rw [lg_entry_eq]
  generalize (lg_sl ([.ref (Q 72)]) ++ List.replicate (2 - (lg_sl ([.ref (Q 72)])).length) Slot.unset).toArray = ls at hl ⊢
  have hl : lv_has ls 2 [(0, .ref (Q 72))] := hl
  unfold bd_readNot at hF
  refine lv_aload_n hx hb dX13_readNot_0 rfl (lv_at hl 0 rfl) ?_
  refine th_ldcw (tx := sTx 8) hx hb hC.2.2.2.1 (hC.2.2.2.2.2.2.2.2.1 8 (by decide)) dX13_readNot_1 ?_
  obtain ⟨r_1, u_2, h_3, hF⟩ := pcl_some hF
  refine mcV_i (As := [.ref (Z.1 8)]) (rest := []) hC hH (m_is l G Z Q u u_2 r_1 8 _ h_3 (by decide)) kwX13_is kVX13_is ⟨by show _ ≤ 12 * (d + 1) + 20; omega, by show _ ≤ 140 * (d + 1) + 400; omega⟩ rfl hl.1 rfl (Nat.le_of_ble_eq_true rfl) dX13_readNot_4 (fun H locs hH => ?_)
  refine lv_if_eq (tgt := 49) hx hb dX13_readNot_7 (by decide) (fun c_4 => ?_) (fun c_4 => ?_)
  · rw [if_pos c_4] at hF
    refine lv_aload_n hx hb dX13_readNot_49 rfl (lv_at hl 0 rfl) ?_
    refine th_ldcw (tx := sTx 15) hx hb hC.2.2.2.1 (hC.2.2.2.2.2.2.2.2.1 15 (by decide)) dX13_readNot_50 ?_
    obtain ⟨r_5, u_6, h_7, hF⟩ := pcl_some hF
    refine mcV_i (As := [.ref (Z.1 15)]) (rest := []) hC hH (m_is l G Z Q u_2 u_6 r_5 15 _ h_7 (by decide)) kwX13_is kVX13_is ⟨by show _ ≤ 12 * (d + 1) + 20; omega, by show _ ≤ 140 * (d + 1) + 400; omega⟩ rfl hl.1 rfl (Nat.le_of_ble_eq_true rfl) dX13_readNot_53 (fun H locs hH => ?_)
    refine lv_if_eq (tgt := 85) hx hb dX13_readNot_56 (by decide) (fun c_8 => ?_) (fun c_8 => ?_)
    · rw [if_pos c_8] at hF
      refine lv_aload_n hx hb dX13_readNot_85 rfl (lv_at hl 0 rfl) ?_
      refine th_ldcw (tx := sTx 9) hx hb hC.2.2.2.1 (hC.2.2.2.2.2.2.2.2.1 9 (by decide)) dX13_readNot_86 ?_
      obtain ⟨r_9, u_10, h_11, hF⟩ := pcl_some hF
      refine mcV_i (As := [.ref (Z.1 9)]) (rest := []) hC hH (m_is l G Z Q u_6 u_10 r_9 9 _ h_11 (by decide)) kwX13_is kVX13_is ⟨by show _ ≤ 12 * (d + 1) + 20; omega, by show _ ≤ 140 * (d + 1) + 400; omega⟩ rfl hl.1 rfl (Nat.le_of_ble_eq_true rfl) dX13_readNot_89 (fun H locs hH => ?_)
      refine lv_if_ne (tgt := 105) hx hb dX13_readNot_92 (by decide) (fun c_12 => ?_) (fun c_12 => ?_)
      · rw [if_neg c_12] at hF
        refine lv_aload_n hx hb dX13_readNot_105 rfl (lv_at hl 0 rfl) ?_
        obtain ⟨r_13, u_14, h_15, hF⟩ := pcl_some hF
        cases r_13 with
        | none =>
          have hF := pot_none hF
          exact (prt_no hF).elim
        | some r_16 =>
          have hF := pot_some hF
          refine mcV_v (As := []) (rest := []) hC hH (m_counts l G Z Q u_10 u_14 r_16  _ h_15) kwX13_counts kVX13_counts ⟨by show _ ≤ 12 * (d + 1) + 20; omega, by show _ ≤ 140 * (d + 1) + 400; omega⟩ rfl hl.1 rfl (Nat.le_of_ble_eq_true rfl) dX13_readNot_106 (fun H locs hH => ?_)
          refine lv_aload_n hx hb dX13_readNot_109 rfl (lv_at hl 0 rfl) ?_
          refine lv_aload_n hx hb dX13_readNot_110 rfl (lv_at hl 0 rfl) ?_
          refine th_ldcw (tx := sTx 9) hx hb hC.2.2.2.1 (hC.2.2.2.2.2.2.2.2.1 9 (by decide)) dX13_readNot_111 ?_
          obtain ⟨r_17, u_18, h_19, hF⟩ := pcl_some hF
          refine mcV_i (As := [.ref (Z.1 9)]) (rest := [.ref (Q 72)]) hC hH (m_is l G Z Q u_14 u_18 r_17 9 _ h_19 (by decide)) kwX13_is kVX13_is ⟨by show _ ≤ 12 * (d + 1) + 20; omega, by show _ ≤ 140 * (d + 1) + 400; omega⟩ rfl hl.1 rfl (Nat.le_of_ble_eq_true rfl) dX13_readNot_114 (fun H locs hH => ?_)
          refine lv_if_eq (tgt := 124) hx hb dX13_readNot_117 (by decide) (fun c_20 => ?_) (fun c_20 => ?_)
          · rw [if_pos c_20] at hF
            refine lv_iconst (v := 5) hx hb dX13_readNot_124 (by decide) ?_
            refine lv_iconst (v := 0) hx hb dX13_readNot_125 (by decide) ?_
            obtain ⟨r_21, u_22, h_23, hF⟩ := pcl_some hF
            refine mcV_v (As := [.int 5, .int 0]) (rest := []) hC hH (m_put l G Z Q u_18 u_22 r_21 5 0 _ h_23) kwX13_put kVX13_put ⟨by show _ ≤ 12 * (d + 1) + 20; omega, by show _ ≤ 140 * (d + 1) + 400; omega⟩ rfl hl.1 rfl (Nat.le_of_ble_eq_true rfl) dX13_readNot_126 (fun H locs hH => ?_)
            refine lv_aload_n hx hb dX13_readNot_129 rfl (lv_at hl 0 rfl) ?_
            obtain ⟨r_24, u_25, h_26, hF⟩ := pcl_some hF
            refine mcV_v (As := []) (rest := []) hC hH (m_scan l G Z Q u_22 u_25 r_24  _ h_26) kwX13_scan kVX13_scan ⟨by show _ ≤ 12 * (d + 1) + 20; omega, by show _ ≤ 140 * (d + 1) + 400; omega⟩ rfl hl.1 rfl (Nat.le_of_ble_eq_true rfl) dX13_readNot_130 (fun H locs hH => ?_)
            have hF := prt_eqS hF
            exact mr_v hC hH hr hF dX13_readNot_133 hlocks
          · rw [if_neg c_20] at hF
            refine lv_iconst (v := 4) hx hb dX13_readNot_120 (by decide) ?_
            refine lv_goto (tgt := 125) hx hb dX13_readNot_121 (by decide) ?_
            refine lv_iconst (v := 0) hx hb dX13_readNot_125 (by decide) ?_
            obtain ⟨r_27, u_28, h_29, hF⟩ := pcl_some hF
            refine mcV_v (As := [.int 4, .int 0]) (rest := []) hC hH (m_put l G Z Q u_18 u_28 r_27 4 0 _ h_29) kwX13_put kVX13_put ⟨by show _ ≤ 12 * (d + 1) + 20; omega, by show _ ≤ 140 * (d + 1) + 400; omega⟩ rfl hl.1 rfl (Nat.le_of_ble_eq_true rfl) dX13_readNot_126 (fun H locs hH => ?_)
            refine lv_aload_n hx hb dX13_readNot_129 rfl (lv_at hl 0 rfl) ?_
            obtain ⟨r_30, u_31, h_32, hF⟩ := pcl_some hF
            refine mcV_v (As := []) (rest := []) hC hH (m_scan l G Z Q u_28 u_31 r_30  _ h_32) kwX13_scan kVX13_scan ⟨by show _ ≤ 12 * (d + 1) + 20; omega, by show _ ≤ 140 * (d + 1) + 400; omega⟩ rfl hl.1 rfl (Nat.le_of_ble_eq_true rfl) dX13_readNot_130 (fun H locs hH => ?_)
            have hF := prt_eqS hF
            exact mr_v hC hH hr hF dX13_readNot_133 hlocks
      · rw [if_pos c_12] at hF
        refine lv_aload_n hx hb dX13_readNot_95 rfl (lv_at hl 0 rfl) ?_
        refine th_ldcw (tx := sTx 10) hx hb hC.2.2.2.1 (hC.2.2.2.2.2.2.2.2.1 10 (by decide)) dX13_readNot_96 ?_
        obtain ⟨r_33, u_34, h_35, hF⟩ := pcl_some hF
        refine mcV_i (As := [.ref (Z.1 10)]) (rest := []) hC hH (m_is l G Z Q u_10 u_34 r_33 10 _ h_35 (by decide)) kwX13_is kVX13_is ⟨by show _ ≤ 12 * (d + 1) + 20; omega, by show _ ≤ 140 * (d + 1) + 400; omega⟩ rfl hl.1 rfl (Nat.le_of_ble_eq_true rfl) dX13_readNot_99 (fun H locs hH => ?_)
        refine lv_if_eq (tgt := 134) hx hb dX13_readNot_102 (by decide) (fun c_36 => ?_) (fun c_36 => ?_)
        · rw [if_pos c_36] at hF
          refine lv_aload_n hx hb dX13_readNot_134 rfl (lv_at hl 0 rfl) ?_
          obtain ⟨r_37, u_38, h_39, hF⟩ := pcl_some hF
          cases r_37 with
          | none =>
            have hF := pot_none hF
            exact (prt_no hF).elim
          | some r_40 =>
            have hF := pot_some hF
            refine mcV_v (As := []) (rest := []) hC hH (m_readSum l G Z Q u_34 u_38 r_40  _ h_39) kwX13_readSum kVX13_readSum ⟨by show _ ≤ 12 * (d + 1) + 20; omega, by show _ ≤ 140 * (d + 1) + 400; omega⟩ rfl hl.1 rfl (Nat.le_of_ble_eq_true rfl) dX13_readNot_135 (fun H locs hH => ?_)
            refine lv_aload_n hx hb dX13_readNot_138 rfl (lv_at hl 0 rfl) ?_
            refine th_ldcw (tx := sTx 17) hx hb hC.2.2.2.1 (hC.2.2.2.2.2.2.2.2.1 17 (by decide)) dX13_readNot_139 ?_
            obtain ⟨r_41, u_42, h_43, hF⟩ := pcl_some hF
            refine mcV_i (As := [.ref (Z.1 17)]) (rest := []) hC hH (m_is l G Z Q u_38 u_42 r_41 17 _ h_43 (by decide)) kwX13_is kVX13_is ⟨by show _ ≤ 12 * (d + 1) + 20; omega, by show _ ≤ 140 * (d + 1) + 400; omega⟩ rfl hl.1 rfl (Nat.le_of_ble_eq_true rfl) dX13_readNot_142 (fun H locs hH => ?_)
            refine lv_if_eq (tgt := 153) hx hb dX13_readNot_145 (by decide) (fun c_44 => ?_) (fun c_44 => ?_)
            · rw [if_pos c_44] at hF
              refine lv_aload_n hx hb dX13_readNot_153 rfl (lv_at hl 0 rfl) ?_
              refine th_ldcw (tx := sTx 18) hx hb hC.2.2.2.1 (hC.2.2.2.2.2.2.2.2.1 18 (by decide)) dX13_readNot_154 ?_
              obtain ⟨r_45, u_46, h_47, hF⟩ := pcl_some hF
              refine mcV_i (As := [.ref (Z.1 18)]) (rest := []) hC hH (m_is l G Z Q u_42 u_46 r_45 18 _ h_47 (by decide)) kwX13_is kVX13_is ⟨by show _ ≤ 12 * (d + 1) + 20; omega, by show _ ≤ 140 * (d + 1) + 400; omega⟩ rfl hl.1 rfl (Nat.le_of_ble_eq_true rfl) dX13_readNot_157 (fun H locs hH => ?_)
              refine lv_if_eq (tgt := 168) hx hb dX13_readNot_160 (by decide) (fun c_48 => ?_) (fun c_48 => ?_)
              · rw [if_pos c_48] at hF
                refine lv_aload_n hx hb dX13_readNot_168 rfl (lv_at hl 0 rfl) ?_
                refine th_ldcw (tx := sTx 19) hx hb hC.2.2.2.1 (hC.2.2.2.2.2.2.2.2.1 19 (by decide)) dX13_readNot_169 ?_
                obtain ⟨r_49, u_50, h_51, hF⟩ := pcl_some hF
                refine mcV_i (As := [.ref (Z.1 19)]) (rest := []) hC hH (m_is l G Z Q u_46 u_50 r_49 19 _ h_51 (by decide)) kwX13_is kVX13_is ⟨by show _ ≤ 12 * (d + 1) + 20; omega, by show _ ≤ 140 * (d + 1) + 400; omega⟩ rfl hl.1 rfl (Nat.le_of_ble_eq_true rfl) dX13_readNot_172 (fun H locs hH => ?_)
                refine lv_if_eq (tgt := 183) hx hb dX13_readNot_175 (by decide) (fun c_52 => ?_) (fun c_52 => ?_)
                · rw [if_pos c_52] at hF
                  refine lv_aload_n hx hb dX13_readNot_183 rfl (lv_at hl 0 rfl) ?_
                  refine th_ldcw (tx := sTx 20) hx hb hC.2.2.2.1 (hC.2.2.2.2.2.2.2.2.1 20 (by decide)) dX13_readNot_184 ?_
                  obtain ⟨r_53, u_54, h_55, hF⟩ := pcl_some hF
                  refine mcV_i (As := [.ref (Z.1 20)]) (rest := []) hC hH (m_is l G Z Q u_50 u_54 r_53 20 _ h_55 (by decide)) kwX13_is kVX13_is ⟨by show _ ≤ 12 * (d + 1) + 20; omega, by show _ ≤ 140 * (d + 1) + 400; omega⟩ rfl hl.1 rfl (Nat.le_of_ble_eq_true rfl) dX13_readNot_187 (fun H locs hH => ?_)
                  refine lv_if_eq (tgt := 198) hx hb dX13_readNot_190 (by decide) (fun c_56 => ?_) (fun c_56 => ?_)
                  · rw [if_pos c_56] at hF
                    refine lv_aload_n hx hb dX13_readNot_198 rfl (lv_at hl 0 rfl) ?_
                    refine th_ldcw (tx := sTx 21) hx hb hC.2.2.2.1 (hC.2.2.2.2.2.2.2.2.1 21 (by decide)) dX13_readNot_199 ?_
                    obtain ⟨r_57, u_58, h_59, hF⟩ := pcl_some hF
                    refine mcV_i (As := [.ref (Z.1 21)]) (rest := []) hC hH (m_is l G Z Q u_54 u_58 r_57 21 _ h_59 (by decide)) kwX13_is kVX13_is ⟨by show _ ≤ 12 * (d + 1) + 20; omega, by show _ ≤ 140 * (d + 1) + 400; omega⟩ rfl hl.1 rfl (Nat.le_of_ble_eq_true rfl) dX13_readNot_202 (fun H locs hH => ?_)
                    refine lv_if_eq (tgt := 213) hx hb dX13_readNot_205 (by decide) (fun c_60 => ?_) (fun c_60 => ?_)
                    · rw [if_pos c_60] at hF
                      refine lv_aload_n hx hb dX13_readNot_213 rfl (lv_at hl 0 rfl) ?_
                      refine th_ldcw (tx := sTx 22) hx hb hC.2.2.2.1 (hC.2.2.2.2.2.2.2.2.1 22 (by decide)) dX13_readNot_214 ?_
                      obtain ⟨r_61, u_62, h_63, hF⟩ := pcl_some hF
                      refine mcV_i (As := [.ref (Z.1 22)]) (rest := []) hC hH (m_is l G Z Q u_58 u_62 r_61 22 _ h_63 (by decide)) kwX13_is kVX13_is ⟨by show _ ≤ 12 * (d + 1) + 20; omega, by show _ ≤ 140 * (d + 1) + 400; omega⟩ rfl hl.1 rfl (Nat.le_of_ble_eq_true rfl) dX13_readNot_217 (fun H locs hH => ?_)
                      refine lv_if_eq (tgt := 228) hx hb dX13_readNot_220 (by decide) (fun c_64 => ?_) (fun c_64 => ?_)
                      · rw [if_pos c_64] at hF
                        refine lv_iconst (v := (-1)) hx hb dX13_readNot_228 (by decide) ?_
                        refine lv_istore_n (lv' := [(1, .int (-1)), (0, .ref (Q 72))]) hx hb dX13_readNot_229 rfl hl (by decide) rfl (fun ls hl => ?_)
                        refine lv_iload_n hx hb dX13_readNot_230 rfl (lv_at hl 0 rfl) ?_
                        refine lv_iconst (v := (-1)) hx hb dX13_readNot_231 (by decide) ?_
                        refine lv_icmp_ne (tgt := 245) hx hb dX13_readNot_232 (by decide) (fun c_65 => ?_) (fun c_65 => ?_)
                        · rw [if_neg c_65] at hF
                          refine lv_aload_n hx hb dX13_readNot_245 rfl (lv_at hl 1 rfl) ?_
                          obtain ⟨r_66, u_67, h_68, hF⟩ := pcl_some hF
                          cases r_66 with
                          | none =>
                            have hF := pot_none hF
                            exact (prt_no hF).elim
                          | some r_69 =>
                            have hF := pot_some hF
                            refine mcV_v (As := []) (rest := []) hC hH (m_hold l G Z Q u_62 u_67 r_69  _ h_68) kwX13_hold kVX13_hold ⟨by show _ ≤ 12 * (d + 1) + 20; omega, by show _ ≤ 140 * (d + 1) + 400; omega⟩ rfl hl.1 rfl (Nat.le_of_ble_eq_true rfl) dX13_readNot_246 (fun H locs hH => ?_)
                            refine lv_aload_n hx hb dX13_readNot_249 rfl (lv_at hl 1 rfl) ?_
                            obtain ⟨r_70, u_71, h_72, hF⟩ := pcl_some hF
                            refine mcV_v (As := []) (rest := []) hC hH (m_scan l G Z Q u_67 u_71 r_70  _ h_72) kwX13_scan kVX13_scan ⟨by show _ ≤ 12 * (d + 1) + 20; omega, by show _ ≤ 140 * (d + 1) + 400; omega⟩ rfl hl.1 rfl (Nat.le_of_ble_eq_true rfl) dX13_readNot_250 (fun H locs hH => ?_)
                            refine lv_aload_n hx hb dX13_readNot_253 rfl (lv_at hl 1 rfl) ?_
                            obtain ⟨r_73, u_74, h_75, hF⟩ := pcl_some hF
                            cases r_73 with
                            | none =>
                              have hF := pot_none hF
                              exact (prt_no hF).elim
                            | some r_76 =>
                              have hF := pot_some hF
                              refine mcV_v (As := []) (rest := []) hC hH (m_readSum l G Z Q u_71 u_74 r_76  _ h_75) kwX13_readSum kVX13_readSum ⟨by show _ ≤ 12 * (d + 1) + 20; omega, by show _ ≤ 140 * (d + 1) + 400; omega⟩ rfl hl.1 rfl (Nat.le_of_ble_eq_true rfl) dX13_readNot_254 (fun H locs hH => ?_)
                              refine lv_aload_n hx hb dX13_readNot_257 rfl (lv_at hl 1 rfl) ?_
                              refine lv_iload_n hx hb dX13_readNot_258 rfl (lv_at hl 0 rfl) ?_
                              obtain ⟨r_77, u_78, h_79, hF⟩ := pcl_some hF
                              refine mcV_v (As := [.int (-1)]) (rest := []) hC hH (m_release l G Z Q u_74 u_78 r_77 (-1) _ h_79) kwX13_release kVX13_release ⟨by show _ ≤ 12 * (d + 1) + 20; omega, by show _ ≤ 140 * (d + 1) + 400; omega⟩ rfl hl.1 rfl (Nat.le_of_ble_eq_true rfl) dX13_readNot_259 (fun H locs hH => ?_)
                              have hF := prt_eqS hF
                              exact mr_v hC hH hr hF dX13_readNot_262 hlocks
                        · rw [if_pos c_65] at hF
                          refine lv_aload_n hx hb dX13_readNot_235 rfl (lv_at hl 1 rfl) ?_
                          refine lv_iconst (v := 1) hx hb dX13_readNot_236 (by decide) ?_
                          refine lv_aload_n hx hb dX13_readNot_237 rfl (lv_at hl 1 rfl) ?_
                          refine mg_44 hC hH dX13_readNot_238 ?_
                          obtain ⟨x_80, e_81, hF⟩ := prf_some hF
                          refine gx_ti e_81 ?_
                          obtain ⟨r_82, u_83, h_84, hF⟩ := pcl_some hF
                          refine mcV_r (As := [.int 1, .int x_80]) (rest := []) hC hH (m_wrong l G Z Q u_62 u_83 r_82 1 x_80 _ h_84) kwX13_wrong kVX13_wrong ⟨by show _ ≤ 12 * (d + 1) + 20; omega, by show _ ≤ 140 * (d + 1) + 400; omega⟩ rfl hl.1 rfl (Nat.le_of_ble_eq_true rfl) dX13_readNot_241 (fun H locs hH => ?_)
                          exact (prt_no hF).elim
                      · rw [if_neg c_64] at hF
                        refine lv_bipush (v := 14) hx hb dX13_readNot_223 (by decide) ?_
                        refine lv_goto (tgt := 229) hx hb dX13_readNot_225 (by decide) ?_
                        refine lv_istore_n (lv' := [(1, .int 14), (0, .ref (Q 72))]) hx hb dX13_readNot_229 rfl hl (by decide) rfl (fun ls hl => ?_)
                        refine lv_iload_n hx hb dX13_readNot_230 rfl (lv_at hl 0 rfl) ?_
                        refine lv_iconst (v := (-1)) hx hb dX13_readNot_231 (by decide) ?_
                        refine lv_icmp_ne (tgt := 245) hx hb dX13_readNot_232 (by decide) (fun c_85 => ?_) (fun c_85 => ?_)
                        · rw [if_neg c_85] at hF
                          refine lv_aload_n hx hb dX13_readNot_245 rfl (lv_at hl 1 rfl) ?_
                          obtain ⟨r_86, u_87, h_88, hF⟩ := pcl_some hF
                          cases r_86 with
                          | none =>
                            have hF := pot_none hF
                            exact (prt_no hF).elim
                          | some r_89 =>
                            have hF := pot_some hF
                            refine mcV_v (As := []) (rest := []) hC hH (m_hold l G Z Q u_62 u_87 r_89  _ h_88) kwX13_hold kVX13_hold ⟨by show _ ≤ 12 * (d + 1) + 20; omega, by show _ ≤ 140 * (d + 1) + 400; omega⟩ rfl hl.1 rfl (Nat.le_of_ble_eq_true rfl) dX13_readNot_246 (fun H locs hH => ?_)
                            refine lv_aload_n hx hb dX13_readNot_249 rfl (lv_at hl 1 rfl) ?_
                            obtain ⟨r_90, u_91, h_92, hF⟩ := pcl_some hF
                            refine mcV_v (As := []) (rest := []) hC hH (m_scan l G Z Q u_87 u_91 r_90  _ h_92) kwX13_scan kVX13_scan ⟨by show _ ≤ 12 * (d + 1) + 20; omega, by show _ ≤ 140 * (d + 1) + 400; omega⟩ rfl hl.1 rfl (Nat.le_of_ble_eq_true rfl) dX13_readNot_250 (fun H locs hH => ?_)
                            refine lv_aload_n hx hb dX13_readNot_253 rfl (lv_at hl 1 rfl) ?_
                            obtain ⟨r_93, u_94, h_95, hF⟩ := pcl_some hF
                            cases r_93 with
                            | none =>
                              have hF := pot_none hF
                              exact (prt_no hF).elim
                            | some r_96 =>
                              have hF := pot_some hF
                              refine mcV_v (As := []) (rest := []) hC hH (m_readSum l G Z Q u_91 u_94 r_96  _ h_95) kwX13_readSum kVX13_readSum ⟨by show _ ≤ 12 * (d + 1) + 20; omega, by show _ ≤ 140 * (d + 1) + 400; omega⟩ rfl hl.1 rfl (Nat.le_of_ble_eq_true rfl) dX13_readNot_254 (fun H locs hH => ?_)
                              refine lv_aload_n hx hb dX13_readNot_257 rfl (lv_at hl 1 rfl) ?_
                              refine lv_iload_n hx hb dX13_readNot_258 rfl (lv_at hl 0 rfl) ?_
                              obtain ⟨r_97, u_98, h_99, hF⟩ := pcl_some hF
                              refine mcV_v (As := [.int 14]) (rest := []) hC hH (m_release l G Z Q u_94 u_98 r_97 14 _ h_99) kwX13_release kVX13_release ⟨by show _ ≤ 12 * (d + 1) + 20; omega, by show _ ≤ 140 * (d + 1) + 400; omega⟩ rfl hl.1 rfl (Nat.le_of_ble_eq_true rfl) dX13_readNot_259 (fun H locs hH => ?_)
                              have hF := prt_eqS hF
                              exact mr_v hC hH hr hF dX13_readNot_262 hlocks
                        · rw [if_pos c_85] at hF
                          refine lv_aload_n hx hb dX13_readNot_235 rfl (lv_at hl 1 rfl) ?_
                          refine lv_iconst (v := 1) hx hb dX13_readNot_236 (by decide) ?_
                          refine lv_aload_n hx hb dX13_readNot_237 rfl (lv_at hl 1 rfl) ?_
                          refine mg_44 hC hH dX13_readNot_238 ?_
                          obtain ⟨x_100, e_101, hF⟩ := prf_some hF
                          refine gx_ti e_101 ?_
                          obtain ⟨r_102, u_103, h_104, hF⟩ := pcl_some hF
                          refine mcV_r (As := [.int 1, .int x_100]) (rest := []) hC hH (m_wrong l G Z Q u_62 u_103 r_102 1 x_100 _ h_104) kwX13_wrong kVX13_wrong ⟨by show _ ≤ 12 * (d + 1) + 20; omega, by show _ ≤ 140 * (d + 1) + 400; omega⟩ rfl hl.1 rfl (Nat.le_of_ble_eq_true rfl) dX13_readNot_241 (fun H locs hH => ?_)
                          exact (prt_no hF).elim
                    · rw [if_neg c_60] at hF
                      refine lv_bipush (v := 13) hx hb dX13_readNot_208 (by decide) ?_
                      refine lv_goto (tgt := 229) hx hb dX13_readNot_210 (by decide) ?_
                      refine lv_istore_n (lv' := [(1, .int 13), (0, .ref (Q 72))]) hx hb dX13_readNot_229 rfl hl (by decide) rfl (fun ls hl => ?_)
                      refine lv_iload_n hx hb dX13_readNot_230 rfl (lv_at hl 0 rfl) ?_
                      refine lv_iconst (v := (-1)) hx hb dX13_readNot_231 (by decide) ?_
                      refine lv_icmp_ne (tgt := 245) hx hb dX13_readNot_232 (by decide) (fun c_105 => ?_) (fun c_105 => ?_)
                      · rw [if_neg c_105] at hF
                        refine lv_aload_n hx hb dX13_readNot_245 rfl (lv_at hl 1 rfl) ?_
                        obtain ⟨r_106, u_107, h_108, hF⟩ := pcl_some hF
                        cases r_106 with
                        | none =>
                          have hF := pot_none hF
                          exact (prt_no hF).elim
                        | some r_109 =>
                          have hF := pot_some hF
                          refine mcV_v (As := []) (rest := []) hC hH (m_hold l G Z Q u_58 u_107 r_109  _ h_108) kwX13_hold kVX13_hold ⟨by show _ ≤ 12 * (d + 1) + 20; omega, by show _ ≤ 140 * (d + 1) + 400; omega⟩ rfl hl.1 rfl (Nat.le_of_ble_eq_true rfl) dX13_readNot_246 (fun H locs hH => ?_)
                          refine lv_aload_n hx hb dX13_readNot_249 rfl (lv_at hl 1 rfl) ?_
                          obtain ⟨r_110, u_111, h_112, hF⟩ := pcl_some hF
                          refine mcV_v (As := []) (rest := []) hC hH (m_scan l G Z Q u_107 u_111 r_110  _ h_112) kwX13_scan kVX13_scan ⟨by show _ ≤ 12 * (d + 1) + 20; omega, by show _ ≤ 140 * (d + 1) + 400; omega⟩ rfl hl.1 rfl (Nat.le_of_ble_eq_true rfl) dX13_readNot_250 (fun H locs hH => ?_)
                          refine lv_aload_n hx hb dX13_readNot_253 rfl (lv_at hl 1 rfl) ?_
                          obtain ⟨r_113, u_114, h_115, hF⟩ := pcl_some hF
                          cases r_113 with
                          | none =>
                            have hF := pot_none hF
                            exact (prt_no hF).elim
                          | some r_116 =>
                            have hF := pot_some hF
                            refine mcV_v (As := []) (rest := []) hC hH (m_readSum l G Z Q u_111 u_114 r_116  _ h_115) kwX13_readSum kVX13_readSum ⟨by show _ ≤ 12 * (d + 1) + 20; omega, by show _ ≤ 140 * (d + 1) + 400; omega⟩ rfl hl.1 rfl (Nat.le_of_ble_eq_true rfl) dX13_readNot_254 (fun H locs hH => ?_)
                            refine lv_aload_n hx hb dX13_readNot_257 rfl (lv_at hl 1 rfl) ?_
                            refine lv_iload_n hx hb dX13_readNot_258 rfl (lv_at hl 0 rfl) ?_
                            obtain ⟨r_117, u_118, h_119, hF⟩ := pcl_some hF
                            refine mcV_v (As := [.int 13]) (rest := []) hC hH (m_release l G Z Q u_114 u_118 r_117 13 _ h_119) kwX13_release kVX13_release ⟨by show _ ≤ 12 * (d + 1) + 20; omega, by show _ ≤ 140 * (d + 1) + 400; omega⟩ rfl hl.1 rfl (Nat.le_of_ble_eq_true rfl) dX13_readNot_259 (fun H locs hH => ?_)
                            have hF := prt_eqS hF
                            exact mr_v hC hH hr hF dX13_readNot_262 hlocks
                      · rw [if_pos c_105] at hF
                        refine lv_aload_n hx hb dX13_readNot_235 rfl (lv_at hl 1 rfl) ?_
                        refine lv_iconst (v := 1) hx hb dX13_readNot_236 (by decide) ?_
                        refine lv_aload_n hx hb dX13_readNot_237 rfl (lv_at hl 1 rfl) ?_
                        refine mg_44 hC hH dX13_readNot_238 ?_
                        obtain ⟨x_120, e_121, hF⟩ := prf_some hF
                        refine gx_ti e_121 ?_
                        obtain ⟨r_122, u_123, h_124, hF⟩ := pcl_some hF
                        refine mcV_r (As := [.int 1, .int x_120]) (rest := []) hC hH (m_wrong l G Z Q u_58 u_123 r_122 1 x_120 _ h_124) kwX13_wrong kVX13_wrong ⟨by show _ ≤ 12 * (d + 1) + 20; omega, by show _ ≤ 140 * (d + 1) + 400; omega⟩ rfl hl.1 rfl (Nat.le_of_ble_eq_true rfl) dX13_readNot_241 (fun H locs hH => ?_)
                        exact (prt_no hF).elim
                  · rw [if_neg c_56] at hF
                    refine lv_bipush (v := 12) hx hb dX13_readNot_193 (by decide) ?_
                    refine lv_goto (tgt := 229) hx hb dX13_readNot_195 (by decide) ?_
                    refine lv_istore_n (lv' := [(1, .int 12), (0, .ref (Q 72))]) hx hb dX13_readNot_229 rfl hl (by decide) rfl (fun ls hl => ?_)
                    refine lv_iload_n hx hb dX13_readNot_230 rfl (lv_at hl 0 rfl) ?_
                    refine lv_iconst (v := (-1)) hx hb dX13_readNot_231 (by decide) ?_
                    refine lv_icmp_ne (tgt := 245) hx hb dX13_readNot_232 (by decide) (fun c_125 => ?_) (fun c_125 => ?_)
                    · rw [if_neg c_125] at hF
                      refine lv_aload_n hx hb dX13_readNot_245 rfl (lv_at hl 1 rfl) ?_
                      obtain ⟨r_126, u_127, h_128, hF⟩ := pcl_some hF
                      cases r_126 with
                      | none =>
                        have hF := pot_none hF
                        exact (prt_no hF).elim
                      | some r_129 =>
                        have hF := pot_some hF
                        refine mcV_v (As := []) (rest := []) hC hH (m_hold l G Z Q u_54 u_127 r_129  _ h_128) kwX13_hold kVX13_hold ⟨by show _ ≤ 12 * (d + 1) + 20; omega, by show _ ≤ 140 * (d + 1) + 400; omega⟩ rfl hl.1 rfl (Nat.le_of_ble_eq_true rfl) dX13_readNot_246 (fun H locs hH => ?_)
                        refine lv_aload_n hx hb dX13_readNot_249 rfl (lv_at hl 1 rfl) ?_
                        obtain ⟨r_130, u_131, h_132, hF⟩ := pcl_some hF
                        refine mcV_v (As := []) (rest := []) hC hH (m_scan l G Z Q u_127 u_131 r_130  _ h_132) kwX13_scan kVX13_scan ⟨by show _ ≤ 12 * (d + 1) + 20; omega, by show _ ≤ 140 * (d + 1) + 400; omega⟩ rfl hl.1 rfl (Nat.le_of_ble_eq_true rfl) dX13_readNot_250 (fun H locs hH => ?_)
                        refine lv_aload_n hx hb dX13_readNot_253 rfl (lv_at hl 1 rfl) ?_
                        obtain ⟨r_133, u_134, h_135, hF⟩ := pcl_some hF
                        cases r_133 with
                        | none =>
                          have hF := pot_none hF
                          exact (prt_no hF).elim
                        | some r_136 =>
                          have hF := pot_some hF
                          refine mcV_v (As := []) (rest := []) hC hH (m_readSum l G Z Q u_131 u_134 r_136  _ h_135) kwX13_readSum kVX13_readSum ⟨by show _ ≤ 12 * (d + 1) + 20; omega, by show _ ≤ 140 * (d + 1) + 400; omega⟩ rfl hl.1 rfl (Nat.le_of_ble_eq_true rfl) dX13_readNot_254 (fun H locs hH => ?_)
                          refine lv_aload_n hx hb dX13_readNot_257 rfl (lv_at hl 1 rfl) ?_
                          refine lv_iload_n hx hb dX13_readNot_258 rfl (lv_at hl 0 rfl) ?_
                          obtain ⟨r_137, u_138, h_139, hF⟩ := pcl_some hF
                          refine mcV_v (As := [.int 12]) (rest := []) hC hH (m_release l G Z Q u_134 u_138 r_137 12 _ h_139) kwX13_release kVX13_release ⟨by show _ ≤ 12 * (d + 1) + 20; omega, by show _ ≤ 140 * (d + 1) + 400; omega⟩ rfl hl.1 rfl (Nat.le_of_ble_eq_true rfl) dX13_readNot_259 (fun H locs hH => ?_)
                          have hF := prt_eqS hF
                          exact mr_v hC hH hr hF dX13_readNot_262 hlocks
                    · rw [if_pos c_125] at hF
                      refine lv_aload_n hx hb dX13_readNot_235 rfl (lv_at hl 1 rfl) ?_
                      refine lv_iconst (v := 1) hx hb dX13_readNot_236 (by decide) ?_
                      refine lv_aload_n hx hb dX13_readNot_237 rfl (lv_at hl 1 rfl) ?_
                      refine mg_44 hC hH dX13_readNot_238 ?_
                      obtain ⟨x_140, e_141, hF⟩ := prf_some hF
                      refine gx_ti e_141 ?_
                      obtain ⟨r_142, u_143, h_144, hF⟩ := pcl_some hF
                      refine mcV_r (As := [.int 1, .int x_140]) (rest := []) hC hH (m_wrong l G Z Q u_54 u_143 r_142 1 x_140 _ h_144) kwX13_wrong kVX13_wrong ⟨by show _ ≤ 12 * (d + 1) + 20; omega, by show _ ≤ 140 * (d + 1) + 400; omega⟩ rfl hl.1 rfl (Nat.le_of_ble_eq_true rfl) dX13_readNot_241 (fun H locs hH => ?_)
                      exact (prt_no hF).elim
                · rw [if_neg c_52] at hF
                  refine lv_bipush (v := 11) hx hb dX13_readNot_178 (by decide) ?_
                  refine lv_goto (tgt := 229) hx hb dX13_readNot_180 (by decide) ?_
                  refine lv_istore_n (lv' := [(1, .int 11), (0, .ref (Q 72))]) hx hb dX13_readNot_229 rfl hl (by decide) rfl (fun ls hl => ?_)
                  refine lv_iload_n hx hb dX13_readNot_230 rfl (lv_at hl 0 rfl) ?_
                  refine lv_iconst (v := (-1)) hx hb dX13_readNot_231 (by decide) ?_
                  refine lv_icmp_ne (tgt := 245) hx hb dX13_readNot_232 (by decide) (fun c_145 => ?_) (fun c_145 => ?_)
                  · rw [if_neg c_145] at hF
                    refine lv_aload_n hx hb dX13_readNot_245 rfl (lv_at hl 1 rfl) ?_
                    obtain ⟨r_146, u_147, h_148, hF⟩ := pcl_some hF
                    cases r_146 with
                    | none =>
                      have hF := pot_none hF
                      exact (prt_no hF).elim
                    | some r_149 =>
                      have hF := pot_some hF
                      refine mcV_v (As := []) (rest := []) hC hH (m_hold l G Z Q u_50 u_147 r_149  _ h_148) kwX13_hold kVX13_hold ⟨by show _ ≤ 12 * (d + 1) + 20; omega, by show _ ≤ 140 * (d + 1) + 400; omega⟩ rfl hl.1 rfl (Nat.le_of_ble_eq_true rfl) dX13_readNot_246 (fun H locs hH => ?_)
                      refine lv_aload_n hx hb dX13_readNot_249 rfl (lv_at hl 1 rfl) ?_
                      obtain ⟨r_150, u_151, h_152, hF⟩ := pcl_some hF
                      refine mcV_v (As := []) (rest := []) hC hH (m_scan l G Z Q u_147 u_151 r_150  _ h_152) kwX13_scan kVX13_scan ⟨by show _ ≤ 12 * (d + 1) + 20; omega, by show _ ≤ 140 * (d + 1) + 400; omega⟩ rfl hl.1 rfl (Nat.le_of_ble_eq_true rfl) dX13_readNot_250 (fun H locs hH => ?_)
                      refine lv_aload_n hx hb dX13_readNot_253 rfl (lv_at hl 1 rfl) ?_
                      obtain ⟨r_153, u_154, h_155, hF⟩ := pcl_some hF
                      cases r_153 with
                      | none =>
                        have hF := pot_none hF
                        exact (prt_no hF).elim
                      | some r_156 =>
                        have hF := pot_some hF
                        refine mcV_v (As := []) (rest := []) hC hH (m_readSum l G Z Q u_151 u_154 r_156  _ h_155) kwX13_readSum kVX13_readSum ⟨by show _ ≤ 12 * (d + 1) + 20; omega, by show _ ≤ 140 * (d + 1) + 400; omega⟩ rfl hl.1 rfl (Nat.le_of_ble_eq_true rfl) dX13_readNot_254 (fun H locs hH => ?_)
                        refine lv_aload_n hx hb dX13_readNot_257 rfl (lv_at hl 1 rfl) ?_
                        refine lv_iload_n hx hb dX13_readNot_258 rfl (lv_at hl 0 rfl) ?_
                        obtain ⟨r_157, u_158, h_159, hF⟩ := pcl_some hF
                        refine mcV_v (As := [.int 11]) (rest := []) hC hH (m_release l G Z Q u_154 u_158 r_157 11 _ h_159) kwX13_release kVX13_release ⟨by show _ ≤ 12 * (d + 1) + 20; omega, by show _ ≤ 140 * (d + 1) + 400; omega⟩ rfl hl.1 rfl (Nat.le_of_ble_eq_true rfl) dX13_readNot_259 (fun H locs hH => ?_)
                        have hF := prt_eqS hF
                        exact mr_v hC hH hr hF dX13_readNot_262 hlocks
                  · rw [if_pos c_145] at hF
                    refine lv_aload_n hx hb dX13_readNot_235 rfl (lv_at hl 1 rfl) ?_
                    refine lv_iconst (v := 1) hx hb dX13_readNot_236 (by decide) ?_
                    refine lv_aload_n hx hb dX13_readNot_237 rfl (lv_at hl 1 rfl) ?_
                    refine mg_44 hC hH dX13_readNot_238 ?_
                    obtain ⟨x_160, e_161, hF⟩ := prf_some hF
                    refine gx_ti e_161 ?_
                    obtain ⟨r_162, u_163, h_164, hF⟩ := pcl_some hF
                    refine mcV_r (As := [.int 1, .int x_160]) (rest := []) hC hH (m_wrong l G Z Q u_50 u_163 r_162 1 x_160 _ h_164) kwX13_wrong kVX13_wrong ⟨by show _ ≤ 12 * (d + 1) + 20; omega, by show _ ≤ 140 * (d + 1) + 400; omega⟩ rfl hl.1 rfl (Nat.le_of_ble_eq_true rfl) dX13_readNot_241 (fun H locs hH => ?_)
                    exact (prt_no hF).elim
              · rw [if_neg c_48] at hF
                refine lv_bipush (v := 10) hx hb dX13_readNot_163 (by decide) ?_
                refine lv_goto (tgt := 229) hx hb dX13_readNot_165 (by decide) ?_
                refine lv_istore_n (lv' := [(1, .int 10), (0, .ref (Q 72))]) hx hb dX13_readNot_229 rfl hl (by decide) rfl (fun ls hl => ?_)
                refine lv_iload_n hx hb dX13_readNot_230 rfl (lv_at hl 0 rfl) ?_
                refine lv_iconst (v := (-1)) hx hb dX13_readNot_231 (by decide) ?_
                refine lv_icmp_ne (tgt := 245) hx hb dX13_readNot_232 (by decide) (fun c_165 => ?_) (fun c_165 => ?_)
                · rw [if_neg c_165] at hF
                  refine lv_aload_n hx hb dX13_readNot_245 rfl (lv_at hl 1 rfl) ?_
                  obtain ⟨r_166, u_167, h_168, hF⟩ := pcl_some hF
                  cases r_166 with
                  | none =>
                    have hF := pot_none hF
                    exact (prt_no hF).elim
                  | some r_169 =>
                    have hF := pot_some hF
                    refine mcV_v (As := []) (rest := []) hC hH (m_hold l G Z Q u_46 u_167 r_169  _ h_168) kwX13_hold kVX13_hold ⟨by show _ ≤ 12 * (d + 1) + 20; omega, by show _ ≤ 140 * (d + 1) + 400; omega⟩ rfl hl.1 rfl (Nat.le_of_ble_eq_true rfl) dX13_readNot_246 (fun H locs hH => ?_)
                    refine lv_aload_n hx hb dX13_readNot_249 rfl (lv_at hl 1 rfl) ?_
                    obtain ⟨r_170, u_171, h_172, hF⟩ := pcl_some hF
                    refine mcV_v (As := []) (rest := []) hC hH (m_scan l G Z Q u_167 u_171 r_170  _ h_172) kwX13_scan kVX13_scan ⟨by show _ ≤ 12 * (d + 1) + 20; omega, by show _ ≤ 140 * (d + 1) + 400; omega⟩ rfl hl.1 rfl (Nat.le_of_ble_eq_true rfl) dX13_readNot_250 (fun H locs hH => ?_)
                    refine lv_aload_n hx hb dX13_readNot_253 rfl (lv_at hl 1 rfl) ?_
                    obtain ⟨r_173, u_174, h_175, hF⟩ := pcl_some hF
                    cases r_173 with
                    | none =>
                      have hF := pot_none hF
                      exact (prt_no hF).elim
                    | some r_176 =>
                      have hF := pot_some hF
                      refine mcV_v (As := []) (rest := []) hC hH (m_readSum l G Z Q u_171 u_174 r_176  _ h_175) kwX13_readSum kVX13_readSum ⟨by show _ ≤ 12 * (d + 1) + 20; omega, by show _ ≤ 140 * (d + 1) + 400; omega⟩ rfl hl.1 rfl (Nat.le_of_ble_eq_true rfl) dX13_readNot_254 (fun H locs hH => ?_)
                      refine lv_aload_n hx hb dX13_readNot_257 rfl (lv_at hl 1 rfl) ?_
                      refine lv_iload_n hx hb dX13_readNot_258 rfl (lv_at hl 0 rfl) ?_
                      obtain ⟨r_177, u_178, h_179, hF⟩ := pcl_some hF
                      refine mcV_v (As := [.int 10]) (rest := []) hC hH (m_release l G Z Q u_174 u_178 r_177 10 _ h_179) kwX13_release kVX13_release ⟨by show _ ≤ 12 * (d + 1) + 20; omega, by show _ ≤ 140 * (d + 1) + 400; omega⟩ rfl hl.1 rfl (Nat.le_of_ble_eq_true rfl) dX13_readNot_259 (fun H locs hH => ?_)
                      have hF := prt_eqS hF
                      exact mr_v hC hH hr hF dX13_readNot_262 hlocks
                · rw [if_pos c_165] at hF
                  refine lv_aload_n hx hb dX13_readNot_235 rfl (lv_at hl 1 rfl) ?_
                  refine lv_iconst (v := 1) hx hb dX13_readNot_236 (by decide) ?_
                  refine lv_aload_n hx hb dX13_readNot_237 rfl (lv_at hl 1 rfl) ?_
                  refine mg_44 hC hH dX13_readNot_238 ?_
                  obtain ⟨x_180, e_181, hF⟩ := prf_some hF
                  refine gx_ti e_181 ?_
                  obtain ⟨r_182, u_183, h_184, hF⟩ := pcl_some hF
                  refine mcV_r (As := [.int 1, .int x_180]) (rest := []) hC hH (m_wrong l G Z Q u_46 u_183 r_182 1 x_180 _ h_184) kwX13_wrong kVX13_wrong ⟨by show _ ≤ 12 * (d + 1) + 20; omega, by show _ ≤ 140 * (d + 1) + 400; omega⟩ rfl hl.1 rfl (Nat.le_of_ble_eq_true rfl) dX13_readNot_241 (fun H locs hH => ?_)
                  exact (prt_no hF).elim
            · rw [if_neg c_44] at hF
              refine lv_bipush (v := 9) hx hb dX13_readNot_148 (by decide) ?_
              refine lv_goto (tgt := 229) hx hb dX13_readNot_150 (by decide) ?_
              refine lv_istore_n (lv' := [(1, .int 9), (0, .ref (Q 72))]) hx hb dX13_readNot_229 rfl hl (by decide) rfl (fun ls hl => ?_)
              refine lv_iload_n hx hb dX13_readNot_230 rfl (lv_at hl 0 rfl) ?_
              refine lv_iconst (v := (-1)) hx hb dX13_readNot_231 (by decide) ?_
              refine lv_icmp_ne (tgt := 245) hx hb dX13_readNot_232 (by decide) (fun c_185 => ?_) (fun c_185 => ?_)
              · rw [if_neg c_185] at hF
                refine lv_aload_n hx hb dX13_readNot_245 rfl (lv_at hl 1 rfl) ?_
                obtain ⟨r_186, u_187, h_188, hF⟩ := pcl_some hF
                cases r_186 with
                | none =>
                  have hF := pot_none hF
                  exact (prt_no hF).elim
                | some r_189 =>
                  have hF := pot_some hF
                  refine mcV_v (As := []) (rest := []) hC hH (m_hold l G Z Q u_42 u_187 r_189  _ h_188) kwX13_hold kVX13_hold ⟨by show _ ≤ 12 * (d + 1) + 20; omega, by show _ ≤ 140 * (d + 1) + 400; omega⟩ rfl hl.1 rfl (Nat.le_of_ble_eq_true rfl) dX13_readNot_246 (fun H locs hH => ?_)
                  refine lv_aload_n hx hb dX13_readNot_249 rfl (lv_at hl 1 rfl) ?_
                  obtain ⟨r_190, u_191, h_192, hF⟩ := pcl_some hF
                  refine mcV_v (As := []) (rest := []) hC hH (m_scan l G Z Q u_187 u_191 r_190  _ h_192) kwX13_scan kVX13_scan ⟨by show _ ≤ 12 * (d + 1) + 20; omega, by show _ ≤ 140 * (d + 1) + 400; omega⟩ rfl hl.1 rfl (Nat.le_of_ble_eq_true rfl) dX13_readNot_250 (fun H locs hH => ?_)
                  refine lv_aload_n hx hb dX13_readNot_253 rfl (lv_at hl 1 rfl) ?_
                  obtain ⟨r_193, u_194, h_195, hF⟩ := pcl_some hF
                  cases r_193 with
                  | none =>
                    have hF := pot_none hF
                    exact (prt_no hF).elim
                  | some r_196 =>
                    have hF := pot_some hF
                    refine mcV_v (As := []) (rest := []) hC hH (m_readSum l G Z Q u_191 u_194 r_196  _ h_195) kwX13_readSum kVX13_readSum ⟨by show _ ≤ 12 * (d + 1) + 20; omega, by show _ ≤ 140 * (d + 1) + 400; omega⟩ rfl hl.1 rfl (Nat.le_of_ble_eq_true rfl) dX13_readNot_254 (fun H locs hH => ?_)
                    refine lv_aload_n hx hb dX13_readNot_257 rfl (lv_at hl 1 rfl) ?_
                    refine lv_iload_n hx hb dX13_readNot_258 rfl (lv_at hl 0 rfl) ?_
                    obtain ⟨r_197, u_198, h_199, hF⟩ := pcl_some hF
                    refine mcV_v (As := [.int 9]) (rest := []) hC hH (m_release l G Z Q u_194 u_198 r_197 9 _ h_199) kwX13_release kVX13_release ⟨by show _ ≤ 12 * (d + 1) + 20; omega, by show _ ≤ 140 * (d + 1) + 400; omega⟩ rfl hl.1 rfl (Nat.le_of_ble_eq_true rfl) dX13_readNot_259 (fun H locs hH => ?_)
                    have hF := prt_eqS hF
                    exact mr_v hC hH hr hF dX13_readNot_262 hlocks
              · rw [if_pos c_185] at hF
                refine lv_aload_n hx hb dX13_readNot_235 rfl (lv_at hl 1 rfl) ?_
                refine lv_iconst (v := 1) hx hb dX13_readNot_236 (by decide) ?_
                refine lv_aload_n hx hb dX13_readNot_237 rfl (lv_at hl 1 rfl) ?_
                refine mg_44 hC hH dX13_readNot_238 ?_
                obtain ⟨x_200, e_201, hF⟩ := prf_some hF
                refine gx_ti e_201 ?_
                obtain ⟨r_202, u_203, h_204, hF⟩ := pcl_some hF
                refine mcV_r (As := [.int 1, .int x_200]) (rest := []) hC hH (m_wrong l G Z Q u_42 u_203 r_202 1 x_200 _ h_204) kwX13_wrong kVX13_wrong ⟨by show _ ≤ 12 * (d + 1) + 20; omega, by show _ ≤ 140 * (d + 1) + 400; omega⟩ rfl hl.1 rfl (Nat.le_of_ble_eq_true rfl) dX13_readNot_241 (fun H locs hH => ?_)
                exact (prt_no hF).elim
        · rw [if_neg c_36] at hF
          refine lv_aload_n hx hb dX13_readNot_105 rfl (lv_at hl 0 rfl) ?_
          obtain ⟨r_205, u_206, h_207, hF⟩ := pcl_some hF
          cases r_205 with
          | none =>
            have hF := pot_none hF
            exact (prt_no hF).elim
          | some r_208 =>
            have hF := pot_some hF
            refine mcV_v (As := []) (rest := []) hC hH (m_counts l G Z Q u_34 u_206 r_208  _ h_207) kwX13_counts kVX13_counts ⟨by show _ ≤ 12 * (d + 1) + 20; omega, by show _ ≤ 140 * (d + 1) + 400; omega⟩ rfl hl.1 rfl (Nat.le_of_ble_eq_true rfl) dX13_readNot_106 (fun H locs hH => ?_)
            refine lv_aload_n hx hb dX13_readNot_109 rfl (lv_at hl 0 rfl) ?_
            refine lv_aload_n hx hb dX13_readNot_110 rfl (lv_at hl 0 rfl) ?_
            refine th_ldcw (tx := sTx 9) hx hb hC.2.2.2.1 (hC.2.2.2.2.2.2.2.2.1 9 (by decide)) dX13_readNot_111 ?_
            obtain ⟨r_209, u_210, h_211, hF⟩ := pcl_some hF
            refine mcV_i (As := [.ref (Z.1 9)]) (rest := [.ref (Q 72)]) hC hH (m_is l G Z Q u_206 u_210 r_209 9 _ h_211 (by decide)) kwX13_is kVX13_is ⟨by show _ ≤ 12 * (d + 1) + 20; omega, by show _ ≤ 140 * (d + 1) + 400; omega⟩ rfl hl.1 rfl (Nat.le_of_ble_eq_true rfl) dX13_readNot_114 (fun H locs hH => ?_)
            refine lv_if_eq (tgt := 124) hx hb dX13_readNot_117 (by decide) (fun c_212 => ?_) (fun c_212 => ?_)
            · rw [if_pos c_212] at hF
              refine lv_iconst (v := 5) hx hb dX13_readNot_124 (by decide) ?_
              refine lv_iconst (v := 0) hx hb dX13_readNot_125 (by decide) ?_
              obtain ⟨r_213, u_214, h_215, hF⟩ := pcl_some hF
              refine mcV_v (As := [.int 5, .int 0]) (rest := []) hC hH (m_put l G Z Q u_210 u_214 r_213 5 0 _ h_215) kwX13_put kVX13_put ⟨by show _ ≤ 12 * (d + 1) + 20; omega, by show _ ≤ 140 * (d + 1) + 400; omega⟩ rfl hl.1 rfl (Nat.le_of_ble_eq_true rfl) dX13_readNot_126 (fun H locs hH => ?_)
              refine lv_aload_n hx hb dX13_readNot_129 rfl (lv_at hl 0 rfl) ?_
              obtain ⟨r_216, u_217, h_218, hF⟩ := pcl_some hF
              refine mcV_v (As := []) (rest := []) hC hH (m_scan l G Z Q u_214 u_217 r_216  _ h_218) kwX13_scan kVX13_scan ⟨by show _ ≤ 12 * (d + 1) + 20; omega, by show _ ≤ 140 * (d + 1) + 400; omega⟩ rfl hl.1 rfl (Nat.le_of_ble_eq_true rfl) dX13_readNot_130 (fun H locs hH => ?_)
              have hF := prt_eqS hF
              exact mr_v hC hH hr hF dX13_readNot_133 hlocks
            · rw [if_neg c_212] at hF
              refine lv_iconst (v := 4) hx hb dX13_readNot_120 (by decide) ?_
              refine lv_goto (tgt := 125) hx hb dX13_readNot_121 (by decide) ?_
              refine lv_iconst (v := 0) hx hb dX13_readNot_125 (by decide) ?_
              obtain ⟨r_219, u_220, h_221, hF⟩ := pcl_some hF
              refine mcV_v (As := [.int 4, .int 0]) (rest := []) hC hH (m_put l G Z Q u_210 u_220 r_219 4 0 _ h_221) kwX13_put kVX13_put ⟨by show _ ≤ 12 * (d + 1) + 20; omega, by show _ ≤ 140 * (d + 1) + 400; omega⟩ rfl hl.1 rfl (Nat.le_of_ble_eq_true rfl) dX13_readNot_126 (fun H locs hH => ?_)
              refine lv_aload_n hx hb dX13_readNot_129 rfl (lv_at hl 0 rfl) ?_
              obtain ⟨r_222, u_223, h_224, hF⟩ := pcl_some hF
              refine mcV_v (As := []) (rest := []) hC hH (m_scan l G Z Q u_220 u_223 r_222  _ h_224) kwX13_scan kVX13_scan ⟨by show _ ≤ 12 * (d + 1) + 20; omega, by show _ ≤ 140 * (d + 1) + 400; omega⟩ rfl hl.1 rfl (Nat.le_of_ble_eq_true rfl) dX13_readNot_130 (fun H locs hH => ?_)
              have hF := prt_eqS hF
              exact mr_v hC hH hr hF dX13_readNot_133 hlocks
    · rw [if_neg c_8] at hF
      refine lv_aload_n hx hb dX13_readNot_59 rfl (lv_at hl 0 rfl) ?_
      obtain ⟨r_225, u_226, h_227, hF⟩ := pcl_some hF
      cases r_225 with
      | none =>
        have hF := pot_none hF
        exact (prt_no hF).elim
      | some r_228 =>
        have hF := pot_some hF
        refine mcV_v (As := []) (rest := []) hC hH (m_opens l G Z Q u_6 u_226 r_228  _ h_227) kwX13_opens kVX13_opens ⟨by show _ ≤ 12 * (d + 1) + 20; omega, by show _ ≤ 140 * (d + 1) + 400; omega⟩ rfl hl.1 rfl (Nat.le_of_ble_eq_true rfl) dX13_readNot_60 (fun H locs hH => ?_)
        refine lv_aload_n hx hb dX13_readNot_63 rfl (lv_at hl 0 rfl) ?_
        obtain ⟨r_229, u_230, h_231, hF⟩ := pcl_some hF
        cases r_229 with
        | none =>
          have hF := pot_none hF
          exact (prt_no hF).elim
        | some r_232 =>
          have hF := pot_some hF
          refine mcV_v (As := []) (rest := []) hC hH (hr_readOr u_226 u_230 r_232  _ h_231) kwX13_readOr kVX13_readOr ⟨by show _ ≤ 12 * (d + 1) + 20; omega, by show _ ≤ 140 * (d + 1) + 400; omega⟩ rfl hl.1 rfl (Nat.le_of_ble_eq_true rfl) dX13_readNot_64 (fun H locs hH => ?_)
          refine lv_aload_n hx hb dX13_readNot_67 rfl (lv_at hl 0 rfl) ?_
          refine th_ldcw (tx := sTx 16) hx hb hC.2.2.2.1 (hC.2.2.2.2.2.2.2.2.1 16 (by decide)) dX13_readNot_68 ?_
          obtain ⟨r_233, u_234, h_235, hF⟩ := pcl_some hF
          cases r_233 with
          | none =>
            have hF := pot_none hF
            exact (prt_no hF).elim
          | some r_236 =>
            have hF := pot_some hF
            refine mcV_v (As := [.ref (Z.1 16)]) (rest := []) hC hH (m_need l G Z Q u_230 u_234 r_236 16 _ h_235 (by decide)) kwX13_need kVX13_need ⟨by show _ ≤ 12 * (d + 1) + 20; omega, by show _ ≤ 140 * (d + 1) + 400; omega⟩ rfl hl.1 rfl (Nat.le_of_ble_eq_true rfl) dX13_readNot_71 (fun H locs hH => ?_)
            refine lv_aload_n hx hb dX13_readNot_74 rfl (lv_at hl 0 rfl) ?_
            refine lv_dup hx hb dX13_readNot_75 rfl ?_
            refine mg_48 hC hH dX13_readNot_76 ?_
            obtain ⟨x_237, e_238, hF⟩ := prf_some hF
            refine gx_ti e_238 ?_
            refine lv_iconst (v := 1) hx hb dX13_readNot_79 (by decide) ?_
            refine lv_isub hx hb dX13_readNot_80 ?_
            obtain ⟨u_239, e_240, hF⟩ := pwf_some hF
            refine mp_48 hC hH e_240 dX13_readNot_81 (fun H locs hH => ?_)
            have hF := prt_eqS hF
            exact mr_v hC hH hr hF dX13_readNot_84 hlocks
  · rw [if_neg c_4] at hF
    refine lv_aload_n hx hb dX13_readNot_10 rfl (lv_at hl 0 rfl) ?_
    obtain ⟨r_241, u_242, h_243, hF⟩ := pcl_some hF
    cases r_241 with
    | none =>
      have hF := pot_none hF
      exact (prt_no hF).elim
    | some r_244 =>
      have hF := pot_some hF
      refine mcV_v (As := []) (rest := []) hC hH (m_counts l G Z Q u_2 u_242 r_244  _ h_243) kwX13_counts kVX13_counts ⟨by show _ ≤ 12 * (d + 1) + 20; omega, by show _ ≤ 140 * (d + 1) + 400; omega⟩ rfl hl.1 rfl (Nat.le_of_ble_eq_true rfl) dX13_readNot_11 (fun H locs hH => ?_)
      refine lv_aload_n hx hb dX13_readNot_14 rfl (lv_at hl 0 rfl) ?_
      refine lv_dup hx hb dX13_readNot_15 rfl ?_
      refine mg_51 hC hH dX13_readNot_16 ?_
      obtain ⟨x_245, e_246, hF⟩ := prf_some hF
      refine gx_ti e_246 ?_
      refine lv_iconst (v := 1) hx hb dX13_readNot_19 (by decide) ?_
      refine lv_iadd hx hb dX13_readNot_20 ?_
      obtain ⟨u_247, e_248, hF⟩ := pwf_some hF
      refine mp_51 hC hH e_248 dX13_readNot_21 (fun H locs hH => ?_)
      refine lv_aload_n hx hb dX13_readNot_24 rfl (lv_at hl 0 rfl) ?_
      obtain ⟨r_249, u_250, h_251, hF⟩ := pcl_some hF
      cases r_249 with
      | none =>
        have hF := pot_none hF
        exact (prt_no hF).elim
      | some r_252 =>
        have hF := pot_some hF
        refine mcV_v (As := []) (rest := []) hC hH (m_opens l G Z Q u_247 u_250 r_252  _ h_251) kwX13_opens kVX13_opens ⟨by show _ ≤ 12 * (d + 1) + 20; omega, by show _ ≤ 140 * (d + 1) + 400; omega⟩ rfl hl.1 rfl (Nat.le_of_ble_eq_true rfl) dX13_readNot_25 (fun H locs hH => ?_)
        refine lv_aload_n hx hb dX13_readNot_28 rfl (lv_at hl 0 rfl) ?_
        obtain ⟨r_253, u_254, h_255, hF⟩ := pcl_some hF
        cases r_253 with
        | none =>
          have hF := pot_none hF
          exact (prt_no hF).elim
        | some r_256 =>
          have hF := pot_some hF
          refine mcV_v (As := []) (rest := []) hC hH (hr_readNot u_250 u_254 r_256  _ h_255) kwX13_readNot kVX13_readNot ⟨by show _ ≤ 12 * (d + 1) + 20; omega, by show _ ≤ 140 * (d + 1) + 400; omega⟩ rfl hl.1 rfl (Nat.le_of_ble_eq_true rfl) dX13_readNot_29 (fun H locs hH => ?_)
          refine lv_aload_n hx hb dX13_readNot_32 rfl (lv_at hl 0 rfl) ?_
          refine lv_dup hx hb dX13_readNot_33 rfl ?_
          refine mg_48 hC hH dX13_readNot_34 ?_
          obtain ⟨x_257, e_258, hF⟩ := prf_some hF
          refine gx_ti e_258 ?_
          refine lv_iconst (v := 1) hx hb dX13_readNot_37 (by decide) ?_
          refine lv_isub hx hb dX13_readNot_38 ?_
          obtain ⟨u_259, e_260, hF⟩ := pwf_some hF
          refine mp_48 hC hH e_260 dX13_readNot_39 (fun H locs hH => ?_)
          refine lv_aload_n hx hb dX13_readNot_42 rfl (lv_at hl 0 rfl) ?_
          refine lv_bipush (v := 6) hx hb dX13_readNot_43 (by decide) ?_
          obtain ⟨r_261, u_262, h_263, hF⟩ := pcl_some hF
          refine mcV_v (As := [.int 6]) (rest := []) hC hH (m_release l G Z Q u_259 u_262 r_261 6 _ h_263) kwX13_release kVX13_release ⟨by show _ ≤ 12 * (d + 1) + 20; omega, by show _ ≤ 140 * (d + 1) + 400; omega⟩ rfl hl.1 rfl (Nat.le_of_ble_eq_true rfl) dX13_readNot_45 (fun H locs hH => ?_)
          have hF := prt_eqS hF
          exact mr_v hC hH hr hF dX13_readNot_48 hlocks
set_option maxHeartbeats 4000000 in
set_option maxRecDepth 100000 in
theorem bt_readNot (l : Launch) (G : gG) (Z : gM) (Q : Nat → Nat) (d : Nat) (F : Nat → Int32 → Int32 → Int32 → Int32 → PG (Option Int32)) (hr_readOr : ∀ (u u1 : GS) (r : Int32) (sz : Nat), F 0 0 0 0 0 u = some (some r, u1) → Met l yX13_readOr (Cond.code yX13_readOr cX13_readOr 1 none :: wM) { frames := 12 * d + 20, cells := 0, slots := 0, locals := 140 * d + 400 } (va_Pc [.ref (Q 72)] (mPM G Z Q u.1 sz)) (mQv G Q u1.1 sz) 0 0 (mA Q sz)) (ht_readOr : ∀ (u u1 : GS) (sz : Nat), F 0 0 0 0 0 u = some (none, u1) → MetT l yX13_readOr (Cond.code yX13_readOr cX13_readOr 1 none :: wM) { frames := 12 * d + 20, cells := 0, slots := 0, locals := 140 * d + 400 } (va_Pc [.ref (Q 72)] (mPM G Z Q u.1 sz)) (mQt G Q u1.1 sz) 0 0 (mA Q sz)) (hr_readAnd : ∀ (u u1 : GS) (r : Int32) (sz : Nat), F 1 0 0 0 0 u = some (some r, u1) → Met l yX13_readAnd (Cond.code yX13_readAnd cX13_readAnd 1 none :: wM) { frames := 12 * d + 20, cells := 0, slots := 0, locals := 140 * d + 400 } (va_Pc [.ref (Q 72)] (mPM G Z Q u.1 sz)) (mQv G Q u1.1 sz) 0 0 (mA Q sz)) (ht_readAnd : ∀ (u u1 : GS) (sz : Nat), F 1 0 0 0 0 u = some (none, u1) → MetT l yX13_readAnd (Cond.code yX13_readAnd cX13_readAnd 1 none :: wM) { frames := 12 * d + 20, cells := 0, slots := 0, locals := 140 * d + 400 } (va_Pc [.ref (Q 72)] (mPM G Z Q u.1 sz)) (mQt G Q u1.1 sz) 0 0 (mA Q sz)) (hr_readNot : ∀ (u u1 : GS) (r : Int32) (sz : Nat), F 2 0 0 0 0 u = some (some r, u1) → Met l yX13_readNot (Cond.code yX13_readNot cX13_readNot 2 none :: wM) { frames := 12 * d + 20, cells := 0, slots := 0, locals := 140 * d + 400 } (va_Pc [.ref (Q 72)] (mPM G Z Q u.1 sz)) (mQv G Q u1.1 sz) 0 0 (mA Q sz)) (ht_readNot : ∀ (u u1 : GS) (sz : Nat), F 2 0 0 0 0 u = some (none, u1) → MetT l yX13_readNot (Cond.code yX13_readNot cX13_readNot 2 none :: wM) { frames := 12 * d + 20, cells := 0, slots := 0, locals := 140 * d + 400 } (va_Pc [.ref (Q 72)] (mPM G Z Q u.1 sz)) (mQt G Q u1.1 sz) 0 0 (mA Q sz)) (u u1 : GS)  (sz : Nat) (hF : bd_readNot F u = some (none, u1)) : MetT l yX13_readNot (Cond.code yX13_readNot cX13_readNot 2 none :: wM) { frames := 12 * (d + 1) + 20, cells := 0, slots := 0, locals := 140 * (d + 1) + 400 } (va_Pc [.ref (Q 72)] (mPM G Z Q u.1 sz)) (mQt G Q u1.1 sz) 0 0 (mA Q sz) := by
  refine MetT.ofW (cc := cX13_readNot) (maxL := 2) (ret := none) (by decide) rfl ?_
  intro p e s m args below meth c s₁ B hml hv
  obtain ⟨rfl, rfl, hP, hB, hD, hE⟩ := hv
  have hr := B.returns
  have hlocks := B.notSynchronized
  have hts := atoms_spec (ws := Cond.code yX13_readNot cX13_readNot 2 none :: wM) B.pre
  have hC : mX p c cX13_readNot 2 s m _ G Z Q := ⟨B.exec, B.bytes, hml, findClass_of_methodNamed B.named, fun w h => hts w (List.mem_cons_of_mem _ h), hB, hE⟩
  have hx := hC.1
  have hb := hC.2.1
  have hH : mH G Q u.1 s s.heap [] := ⟨hP, hD, va_S.rf⟩
  have hno : c.exceptionTable.isEmpty = true := BodyLoose.noHandlers B (hts _ List.mem_cons_self)
  have hl := lv_entry ([.ref (Q 72)]) (n := 2) (Nat.le_of_ble_eq_true rfl)
  rw [lg_entry_eq]
  generalize (lg_sl ([.ref (Q 72)]) ++ List.replicate (2 - (lg_sl ([.ref (Q 72)])).length) Slot.unset).toArray = ls at hl ⊢
  have hl : lv_has ls 2 [(0, .ref (Q 72))] := hl
  unfold bd_readNot at hF
  refine lv_aload_n hx hb dX13_readNot_0 rfl (lv_at hl 0 rfl) ?_
  refine th_ldcw (tx := sTx 8) hx hb hC.2.2.2.1 (hC.2.2.2.2.2.2.2.2.1 8 (by decide)) dX13_readNot_1 ?_
  obtain ⟨r_1, u_2, h_3, hF⟩ := pcl_some hF
  refine mcV_i (As := [.ref (Z.1 8)]) (rest := []) hC hH (m_is l G Z Q u u_2 r_1 8 _ h_3 (by decide)) kwX13_is kVX13_is ⟨by show _ ≤ 12 * (d + 1) + 20; omega, by show _ ≤ 140 * (d + 1) + 400; omega⟩ rfl hl.1 rfl (Nat.le_of_ble_eq_true rfl) dX13_readNot_4 (fun H locs hH => ?_)
  refine lv_if_eq (tgt := 49) hx hb dX13_readNot_7 (by decide) (fun c_4 => ?_) (fun c_4 => ?_)
  · rw [if_pos c_4] at hF
    refine lv_aload_n hx hb dX13_readNot_49 rfl (lv_at hl 0 rfl) ?_
    refine th_ldcw (tx := sTx 15) hx hb hC.2.2.2.1 (hC.2.2.2.2.2.2.2.2.1 15 (by decide)) dX13_readNot_50 ?_
    obtain ⟨r_5, u_6, h_7, hF⟩ := pcl_some hF
    refine mcV_i (As := [.ref (Z.1 15)]) (rest := []) hC hH (m_is l G Z Q u_2 u_6 r_5 15 _ h_7 (by decide)) kwX13_is kVX13_is ⟨by show _ ≤ 12 * (d + 1) + 20; omega, by show _ ≤ 140 * (d + 1) + 400; omega⟩ rfl hl.1 rfl (Nat.le_of_ble_eq_true rfl) dX13_readNot_53 (fun H locs hH => ?_)
    refine lv_if_eq (tgt := 85) hx hb dX13_readNot_56 (by decide) (fun c_8 => ?_) (fun c_8 => ?_)
    · rw [if_pos c_8] at hF
      refine lv_aload_n hx hb dX13_readNot_85 rfl (lv_at hl 0 rfl) ?_
      refine th_ldcw (tx := sTx 9) hx hb hC.2.2.2.1 (hC.2.2.2.2.2.2.2.2.1 9 (by decide)) dX13_readNot_86 ?_
      obtain ⟨r_9, u_10, h_11, hF⟩ := pcl_some hF
      refine mcV_i (As := [.ref (Z.1 9)]) (rest := []) hC hH (m_is l G Z Q u_6 u_10 r_9 9 _ h_11 (by decide)) kwX13_is kVX13_is ⟨by show _ ≤ 12 * (d + 1) + 20; omega, by show _ ≤ 140 * (d + 1) + 400; omega⟩ rfl hl.1 rfl (Nat.le_of_ble_eq_true rfl) dX13_readNot_89 (fun H locs hH => ?_)
      refine lv_if_ne (tgt := 105) hx hb dX13_readNot_92 (by decide) (fun c_12 => ?_) (fun c_12 => ?_)
      · rw [if_neg c_12] at hF
        refine lv_aload_n hx hb dX13_readNot_105 rfl (lv_at hl 0 rfl) ?_
        obtain ⟨r_13, u_14, h_15, hF⟩ := pcl_some hF
        cases r_13 with
        | none =>
          have hF := pot_none hF
          exact mt_pass hH (mt_run (As := []) (rest := []) hC hH (t_counts l G Z Q u_10 u_14  _ h_15) kwX13_counts kVX13_counts ⟨by show _ ≤ 12 * (d + 1) + 20; omega, by show _ ≤ 140 * (d + 1) + 400; omega⟩ rfl hl.1 rfl (Nat.le_of_ble_eq_true rfl) dX13_readNot_106) hno hlocks (prt_eqT hF)
        | some r_16 =>
          have hF := pot_some hF
          refine mcV_v (As := []) (rest := []) hC hH (m_counts l G Z Q u_10 u_14 r_16  _ h_15) kwX13_counts kVX13_counts ⟨by show _ ≤ 12 * (d + 1) + 20; omega, by show _ ≤ 140 * (d + 1) + 400; omega⟩ rfl hl.1 rfl (Nat.le_of_ble_eq_true rfl) dX13_readNot_106 (fun H locs hH => ?_)
          refine lv_aload_n hx hb dX13_readNot_109 rfl (lv_at hl 0 rfl) ?_
          refine lv_aload_n hx hb dX13_readNot_110 rfl (lv_at hl 0 rfl) ?_
          refine th_ldcw (tx := sTx 9) hx hb hC.2.2.2.1 (hC.2.2.2.2.2.2.2.2.1 9 (by decide)) dX13_readNot_111 ?_
          obtain ⟨r_17, u_18, h_19, hF⟩ := pcl_some hF
          refine mcV_i (As := [.ref (Z.1 9)]) (rest := [.ref (Q 72)]) hC hH (m_is l G Z Q u_14 u_18 r_17 9 _ h_19 (by decide)) kwX13_is kVX13_is ⟨by show _ ≤ 12 * (d + 1) + 20; omega, by show _ ≤ 140 * (d + 1) + 400; omega⟩ rfl hl.1 rfl (Nat.le_of_ble_eq_true rfl) dX13_readNot_114 (fun H locs hH => ?_)
          refine lv_if_eq (tgt := 124) hx hb dX13_readNot_117 (by decide) (fun c_20 => ?_) (fun c_20 => ?_)
          · rw [if_pos c_20] at hF
            refine lv_iconst (v := 5) hx hb dX13_readNot_124 (by decide) ?_
            refine lv_iconst (v := 0) hx hb dX13_readNot_125 (by decide) ?_
            obtain ⟨r_21, u_22, h_23, hF⟩ := pcl_some hF
            refine mcV_v (As := [.int 5, .int 0]) (rest := []) hC hH (m_put l G Z Q u_18 u_22 r_21 5 0 _ h_23) kwX13_put kVX13_put ⟨by show _ ≤ 12 * (d + 1) + 20; omega, by show _ ≤ 140 * (d + 1) + 400; omega⟩ rfl hl.1 rfl (Nat.le_of_ble_eq_true rfl) dX13_readNot_126 (fun H locs hH => ?_)
            refine lv_aload_n hx hb dX13_readNot_129 rfl (lv_at hl 0 rfl) ?_
            obtain ⟨r_24, u_25, h_26, hF⟩ := pcl_some hF
            refine mcV_v (As := []) (rest := []) hC hH (m_scan l G Z Q u_22 u_25 r_24  _ h_26) kwX13_scan kVX13_scan ⟨by show _ ≤ 12 * (d + 1) + 20; omega, by show _ ≤ 140 * (d + 1) + 400; omega⟩ rfl hl.1 rfl (Nat.le_of_ble_eq_true rfl) dX13_readNot_130 (fun H locs hH => ?_)
            exact (prt_no2 hF).elim
          · rw [if_neg c_20] at hF
            refine lv_iconst (v := 4) hx hb dX13_readNot_120 (by decide) ?_
            refine lv_goto (tgt := 125) hx hb dX13_readNot_121 (by decide) ?_
            refine lv_iconst (v := 0) hx hb dX13_readNot_125 (by decide) ?_
            obtain ⟨r_27, u_28, h_29, hF⟩ := pcl_some hF
            refine mcV_v (As := [.int 4, .int 0]) (rest := []) hC hH (m_put l G Z Q u_18 u_28 r_27 4 0 _ h_29) kwX13_put kVX13_put ⟨by show _ ≤ 12 * (d + 1) + 20; omega, by show _ ≤ 140 * (d + 1) + 400; omega⟩ rfl hl.1 rfl (Nat.le_of_ble_eq_true rfl) dX13_readNot_126 (fun H locs hH => ?_)
            refine lv_aload_n hx hb dX13_readNot_129 rfl (lv_at hl 0 rfl) ?_
            obtain ⟨r_30, u_31, h_32, hF⟩ := pcl_some hF
            refine mcV_v (As := []) (rest := []) hC hH (m_scan l G Z Q u_28 u_31 r_30  _ h_32) kwX13_scan kVX13_scan ⟨by show _ ≤ 12 * (d + 1) + 20; omega, by show _ ≤ 140 * (d + 1) + 400; omega⟩ rfl hl.1 rfl (Nat.le_of_ble_eq_true rfl) dX13_readNot_130 (fun H locs hH => ?_)
            exact (prt_no2 hF).elim
      · rw [if_pos c_12] at hF
        refine lv_aload_n hx hb dX13_readNot_95 rfl (lv_at hl 0 rfl) ?_
        refine th_ldcw (tx := sTx 10) hx hb hC.2.2.2.1 (hC.2.2.2.2.2.2.2.2.1 10 (by decide)) dX13_readNot_96 ?_
        obtain ⟨r_33, u_34, h_35, hF⟩ := pcl_some hF
        refine mcV_i (As := [.ref (Z.1 10)]) (rest := []) hC hH (m_is l G Z Q u_10 u_34 r_33 10 _ h_35 (by decide)) kwX13_is kVX13_is ⟨by show _ ≤ 12 * (d + 1) + 20; omega, by show _ ≤ 140 * (d + 1) + 400; omega⟩ rfl hl.1 rfl (Nat.le_of_ble_eq_true rfl) dX13_readNot_99 (fun H locs hH => ?_)
        refine lv_if_eq (tgt := 134) hx hb dX13_readNot_102 (by decide) (fun c_36 => ?_) (fun c_36 => ?_)
        · rw [if_pos c_36] at hF
          refine lv_aload_n hx hb dX13_readNot_134 rfl (lv_at hl 0 rfl) ?_
          obtain ⟨r_37, u_38, h_39, hF⟩ := pcl_some hF
          cases r_37 with
          | none =>
            have hF := pot_none hF
            exact mt_pass hH (mt_run (As := []) (rest := []) hC hH (t_readSum l G Z Q u_34 u_38  _ h_39) kwX13_readSum kVX13_readSum ⟨by show _ ≤ 12 * (d + 1) + 20; omega, by show _ ≤ 140 * (d + 1) + 400; omega⟩ rfl hl.1 rfl (Nat.le_of_ble_eq_true rfl) dX13_readNot_135) hno hlocks (prt_eqT hF)
          | some r_40 =>
            have hF := pot_some hF
            refine mcV_v (As := []) (rest := []) hC hH (m_readSum l G Z Q u_34 u_38 r_40  _ h_39) kwX13_readSum kVX13_readSum ⟨by show _ ≤ 12 * (d + 1) + 20; omega, by show _ ≤ 140 * (d + 1) + 400; omega⟩ rfl hl.1 rfl (Nat.le_of_ble_eq_true rfl) dX13_readNot_135 (fun H locs hH => ?_)
            refine lv_aload_n hx hb dX13_readNot_138 rfl (lv_at hl 0 rfl) ?_
            refine th_ldcw (tx := sTx 17) hx hb hC.2.2.2.1 (hC.2.2.2.2.2.2.2.2.1 17 (by decide)) dX13_readNot_139 ?_
            obtain ⟨r_41, u_42, h_43, hF⟩ := pcl_some hF
            refine mcV_i (As := [.ref (Z.1 17)]) (rest := []) hC hH (m_is l G Z Q u_38 u_42 r_41 17 _ h_43 (by decide)) kwX13_is kVX13_is ⟨by show _ ≤ 12 * (d + 1) + 20; omega, by show _ ≤ 140 * (d + 1) + 400; omega⟩ rfl hl.1 rfl (Nat.le_of_ble_eq_true rfl) dX13_readNot_142 (fun H locs hH => ?_)
            refine lv_if_eq (tgt := 153) hx hb dX13_readNot_145 (by decide) (fun c_44 => ?_) (fun c_44 => ?_)
            · rw [if_pos c_44] at hF
              refine lv_aload_n hx hb dX13_readNot_153 rfl (lv_at hl 0 rfl) ?_
              refine th_ldcw (tx := sTx 18) hx hb hC.2.2.2.1 (hC.2.2.2.2.2.2.2.2.1 18 (by decide)) dX13_readNot_154 ?_
              obtain ⟨r_45, u_46, h_47, hF⟩ := pcl_some hF
              refine mcV_i (As := [.ref (Z.1 18)]) (rest := []) hC hH (m_is l G Z Q u_42 u_46 r_45 18 _ h_47 (by decide)) kwX13_is kVX13_is ⟨by show _ ≤ 12 * (d + 1) + 20; omega, by show _ ≤ 140 * (d + 1) + 400; omega⟩ rfl hl.1 rfl (Nat.le_of_ble_eq_true rfl) dX13_readNot_157 (fun H locs hH => ?_)
              refine lv_if_eq (tgt := 168) hx hb dX13_readNot_160 (by decide) (fun c_48 => ?_) (fun c_48 => ?_)
              · rw [if_pos c_48] at hF
                refine lv_aload_n hx hb dX13_readNot_168 rfl (lv_at hl 0 rfl) ?_
                refine th_ldcw (tx := sTx 19) hx hb hC.2.2.2.1 (hC.2.2.2.2.2.2.2.2.1 19 (by decide)) dX13_readNot_169 ?_
                obtain ⟨r_49, u_50, h_51, hF⟩ := pcl_some hF
                refine mcV_i (As := [.ref (Z.1 19)]) (rest := []) hC hH (m_is l G Z Q u_46 u_50 r_49 19 _ h_51 (by decide)) kwX13_is kVX13_is ⟨by show _ ≤ 12 * (d + 1) + 20; omega, by show _ ≤ 140 * (d + 1) + 400; omega⟩ rfl hl.1 rfl (Nat.le_of_ble_eq_true rfl) dX13_readNot_172 (fun H locs hH => ?_)
                refine lv_if_eq (tgt := 183) hx hb dX13_readNot_175 (by decide) (fun c_52 => ?_) (fun c_52 => ?_)
                · rw [if_pos c_52] at hF
                  refine lv_aload_n hx hb dX13_readNot_183 rfl (lv_at hl 0 rfl) ?_
                  refine th_ldcw (tx := sTx 20) hx hb hC.2.2.2.1 (hC.2.2.2.2.2.2.2.2.1 20 (by decide)) dX13_readNot_184 ?_
                  obtain ⟨r_53, u_54, h_55, hF⟩ := pcl_some hF
                  refine mcV_i (As := [.ref (Z.1 20)]) (rest := []) hC hH (m_is l G Z Q u_50 u_54 r_53 20 _ h_55 (by decide)) kwX13_is kVX13_is ⟨by show _ ≤ 12 * (d + 1) + 20; omega, by show _ ≤ 140 * (d + 1) + 400; omega⟩ rfl hl.1 rfl (Nat.le_of_ble_eq_true rfl) dX13_readNot_187 (fun H locs hH => ?_)
                  refine lv_if_eq (tgt := 198) hx hb dX13_readNot_190 (by decide) (fun c_56 => ?_) (fun c_56 => ?_)
                  · rw [if_pos c_56] at hF
                    refine lv_aload_n hx hb dX13_readNot_198 rfl (lv_at hl 0 rfl) ?_
                    refine th_ldcw (tx := sTx 21) hx hb hC.2.2.2.1 (hC.2.2.2.2.2.2.2.2.1 21 (by decide)) dX13_readNot_199 ?_
                    obtain ⟨r_57, u_58, h_59, hF⟩ := pcl_some hF
                    refine mcV_i (As := [.ref (Z.1 21)]) (rest := []) hC hH (m_is l G Z Q u_54 u_58 r_57 21 _ h_59 (by decide)) kwX13_is kVX13_is ⟨by show _ ≤ 12 * (d + 1) + 20; omega, by show _ ≤ 140 * (d + 1) + 400; omega⟩ rfl hl.1 rfl (Nat.le_of_ble_eq_true rfl) dX13_readNot_202 (fun H locs hH => ?_)
                    refine lv_if_eq (tgt := 213) hx hb dX13_readNot_205 (by decide) (fun c_60 => ?_) (fun c_60 => ?_)
                    · rw [if_pos c_60] at hF
                      refine lv_aload_n hx hb dX13_readNot_213 rfl (lv_at hl 0 rfl) ?_
                      refine th_ldcw (tx := sTx 22) hx hb hC.2.2.2.1 (hC.2.2.2.2.2.2.2.2.1 22 (by decide)) dX13_readNot_214 ?_
                      obtain ⟨r_61, u_62, h_63, hF⟩ := pcl_some hF
                      refine mcV_i (As := [.ref (Z.1 22)]) (rest := []) hC hH (m_is l G Z Q u_58 u_62 r_61 22 _ h_63 (by decide)) kwX13_is kVX13_is ⟨by show _ ≤ 12 * (d + 1) + 20; omega, by show _ ≤ 140 * (d + 1) + 400; omega⟩ rfl hl.1 rfl (Nat.le_of_ble_eq_true rfl) dX13_readNot_217 (fun H locs hH => ?_)
                      refine lv_if_eq (tgt := 228) hx hb dX13_readNot_220 (by decide) (fun c_64 => ?_) (fun c_64 => ?_)
                      · rw [if_pos c_64] at hF
                        refine lv_iconst (v := (-1)) hx hb dX13_readNot_228 (by decide) ?_
                        refine lv_istore_n (lv' := [(1, .int (-1)), (0, .ref (Q 72))]) hx hb dX13_readNot_229 rfl hl (by decide) rfl (fun ls hl => ?_)
                        refine lv_iload_n hx hb dX13_readNot_230 rfl (lv_at hl 0 rfl) ?_
                        refine lv_iconst (v := (-1)) hx hb dX13_readNot_231 (by decide) ?_
                        refine lv_icmp_ne (tgt := 245) hx hb dX13_readNot_232 (by decide) (fun c_65 => ?_) (fun c_65 => ?_)
                        · rw [if_neg c_65] at hF
                          refine lv_aload_n hx hb dX13_readNot_245 rfl (lv_at hl 1 rfl) ?_
                          obtain ⟨r_66, u_67, h_68, hF⟩ := pcl_some hF
                          cases r_66 with
                          | none =>
                            have hF := pot_none hF
                            exact mt_pass hH (mt_run (As := []) (rest := []) hC hH (t_hold l G Z Q u_62 u_67  _ h_68) kwX13_hold kVX13_hold ⟨by show _ ≤ 12 * (d + 1) + 20; omega, by show _ ≤ 140 * (d + 1) + 400; omega⟩ rfl hl.1 rfl (Nat.le_of_ble_eq_true rfl) dX13_readNot_246) hno hlocks (prt_eqT hF)
                          | some r_69 =>
                            have hF := pot_some hF
                            refine mcV_v (As := []) (rest := []) hC hH (m_hold l G Z Q u_62 u_67 r_69  _ h_68) kwX13_hold kVX13_hold ⟨by show _ ≤ 12 * (d + 1) + 20; omega, by show _ ≤ 140 * (d + 1) + 400; omega⟩ rfl hl.1 rfl (Nat.le_of_ble_eq_true rfl) dX13_readNot_246 (fun H locs hH => ?_)
                            refine lv_aload_n hx hb dX13_readNot_249 rfl (lv_at hl 1 rfl) ?_
                            obtain ⟨r_70, u_71, h_72, hF⟩ := pcl_some hF
                            refine mcV_v (As := []) (rest := []) hC hH (m_scan l G Z Q u_67 u_71 r_70  _ h_72) kwX13_scan kVX13_scan ⟨by show _ ≤ 12 * (d + 1) + 20; omega, by show _ ≤ 140 * (d + 1) + 400; omega⟩ rfl hl.1 rfl (Nat.le_of_ble_eq_true rfl) dX13_readNot_250 (fun H locs hH => ?_)
                            refine lv_aload_n hx hb dX13_readNot_253 rfl (lv_at hl 1 rfl) ?_
                            obtain ⟨r_73, u_74, h_75, hF⟩ := pcl_some hF
                            cases r_73 with
                            | none =>
                              have hF := pot_none hF
                              exact mt_pass hH (mt_run (As := []) (rest := []) hC hH (t_readSum l G Z Q u_71 u_74  _ h_75) kwX13_readSum kVX13_readSum ⟨by show _ ≤ 12 * (d + 1) + 20; omega, by show _ ≤ 140 * (d + 1) + 400; omega⟩ rfl hl.1 rfl (Nat.le_of_ble_eq_true rfl) dX13_readNot_254) hno hlocks (prt_eqT hF)
                            | some r_76 =>
                              have hF := pot_some hF
                              refine mcV_v (As := []) (rest := []) hC hH (m_readSum l G Z Q u_71 u_74 r_76  _ h_75) kwX13_readSum kVX13_readSum ⟨by show _ ≤ 12 * (d + 1) + 20; omega, by show _ ≤ 140 * (d + 1) + 400; omega⟩ rfl hl.1 rfl (Nat.le_of_ble_eq_true rfl) dX13_readNot_254 (fun H locs hH => ?_)
                              refine lv_aload_n hx hb dX13_readNot_257 rfl (lv_at hl 1 rfl) ?_
                              refine lv_iload_n hx hb dX13_readNot_258 rfl (lv_at hl 0 rfl) ?_
                              obtain ⟨r_77, u_78, h_79, hF⟩ := pcl_some hF
                              refine mcV_v (As := [.int (-1)]) (rest := []) hC hH (m_release l G Z Q u_74 u_78 r_77 (-1) _ h_79) kwX13_release kVX13_release ⟨by show _ ≤ 12 * (d + 1) + 20; omega, by show _ ≤ 140 * (d + 1) + 400; omega⟩ rfl hl.1 rfl (Nat.le_of_ble_eq_true rfl) dX13_readNot_259 (fun H locs hH => ?_)
                              exact (prt_no2 hF).elim
                        · rw [if_pos c_65] at hF
                          refine lv_aload_n hx hb dX13_readNot_235 rfl (lv_at hl 1 rfl) ?_
                          refine lv_iconst (v := 1) hx hb dX13_readNot_236 (by decide) ?_
                          refine lv_aload_n hx hb dX13_readNot_237 rfl (lv_at hl 1 rfl) ?_
                          refine mg_44 hC hH dX13_readNot_238 ?_
                          obtain ⟨x_80, e_81, hF⟩ := prf_some hF
                          refine gx_ti e_81 ?_
                          obtain ⟨r_82, u_83, h_84, hF⟩ := pcl_some hF
                          refine mcV_r (As := [.int 1, .int x_80]) (rest := []) hC hH (m_wrong l G Z Q u_62 u_83 r_82 1 x_80 _ h_84) kwX13_wrong kVX13_wrong ⟨by show _ ≤ 12 * (d + 1) + 20; omega, by show _ ≤ 140 * (d + 1) + 400; omega⟩ rfl hl.1 rfl (Nat.le_of_ble_eq_true rfl) dX13_readNot_241 (fun H locs hH => ?_)
                          exact mt_throw hC hH hno (prt_eqT hF) dX13_readNot_244 hlocks
                      · rw [if_neg c_64] at hF
                        refine lv_bipush (v := 14) hx hb dX13_readNot_223 (by decide) ?_
                        refine lv_goto (tgt := 229) hx hb dX13_readNot_225 (by decide) ?_
                        refine lv_istore_n (lv' := [(1, .int 14), (0, .ref (Q 72))]) hx hb dX13_readNot_229 rfl hl (by decide) rfl (fun ls hl => ?_)
                        refine lv_iload_n hx hb dX13_readNot_230 rfl (lv_at hl 0 rfl) ?_
                        refine lv_iconst (v := (-1)) hx hb dX13_readNot_231 (by decide) ?_
                        refine lv_icmp_ne (tgt := 245) hx hb dX13_readNot_232 (by decide) (fun c_85 => ?_) (fun c_85 => ?_)
                        · rw [if_neg c_85] at hF
                          refine lv_aload_n hx hb dX13_readNot_245 rfl (lv_at hl 1 rfl) ?_
                          obtain ⟨r_86, u_87, h_88, hF⟩ := pcl_some hF
                          cases r_86 with
                          | none =>
                            have hF := pot_none hF
                            exact mt_pass hH (mt_run (As := []) (rest := []) hC hH (t_hold l G Z Q u_62 u_87  _ h_88) kwX13_hold kVX13_hold ⟨by show _ ≤ 12 * (d + 1) + 20; omega, by show _ ≤ 140 * (d + 1) + 400; omega⟩ rfl hl.1 rfl (Nat.le_of_ble_eq_true rfl) dX13_readNot_246) hno hlocks (prt_eqT hF)
                          | some r_89 =>
                            have hF := pot_some hF
                            refine mcV_v (As := []) (rest := []) hC hH (m_hold l G Z Q u_62 u_87 r_89  _ h_88) kwX13_hold kVX13_hold ⟨by show _ ≤ 12 * (d + 1) + 20; omega, by show _ ≤ 140 * (d + 1) + 400; omega⟩ rfl hl.1 rfl (Nat.le_of_ble_eq_true rfl) dX13_readNot_246 (fun H locs hH => ?_)
                            refine lv_aload_n hx hb dX13_readNot_249 rfl (lv_at hl 1 rfl) ?_
                            obtain ⟨r_90, u_91, h_92, hF⟩ := pcl_some hF
                            refine mcV_v (As := []) (rest := []) hC hH (m_scan l G Z Q u_87 u_91 r_90  _ h_92) kwX13_scan kVX13_scan ⟨by show _ ≤ 12 * (d + 1) + 20; omega, by show _ ≤ 140 * (d + 1) + 400; omega⟩ rfl hl.1 rfl (Nat.le_of_ble_eq_true rfl) dX13_readNot_250 (fun H locs hH => ?_)
                            refine lv_aload_n hx hb dX13_readNot_253 rfl (lv_at hl 1 rfl) ?_
                            obtain ⟨r_93, u_94, h_95, hF⟩ := pcl_some hF
                            cases r_93 with
                            | none =>
                              have hF := pot_none hF
                              exact mt_pass hH (mt_run (As := []) (rest := []) hC hH (t_readSum l G Z Q u_91 u_94  _ h_95) kwX13_readSum kVX13_readSum ⟨by show _ ≤ 12 * (d + 1) + 20; omega, by show _ ≤ 140 * (d + 1) + 400; omega⟩ rfl hl.1 rfl (Nat.le_of_ble_eq_true rfl) dX13_readNot_254) hno hlocks (prt_eqT hF)
                            | some r_96 =>
                              have hF := pot_some hF
                              refine mcV_v (As := []) (rest := []) hC hH (m_readSum l G Z Q u_91 u_94 r_96  _ h_95) kwX13_readSum kVX13_readSum ⟨by show _ ≤ 12 * (d + 1) + 20; omega, by show _ ≤ 140 * (d + 1) + 400; omega⟩ rfl hl.1 rfl (Nat.le_of_ble_eq_true rfl) dX13_readNot_254 (fun H locs hH => ?_)
                              refine lv_aload_n hx hb dX13_readNot_257 rfl (lv_at hl 1 rfl) ?_
                              refine lv_iload_n hx hb dX13_readNot_258 rfl (lv_at hl 0 rfl) ?_
                              obtain ⟨r_97, u_98, h_99, hF⟩ := pcl_some hF
                              refine mcV_v (As := [.int 14]) (rest := []) hC hH (m_release l G Z Q u_94 u_98 r_97 14 _ h_99) kwX13_release kVX13_release ⟨by show _ ≤ 12 * (d + 1) + 20; omega, by show _ ≤ 140 * (d + 1) + 400; omega⟩ rfl hl.1 rfl (Nat.le_of_ble_eq_true rfl) dX13_readNot_259 (fun H locs hH => ?_)
                              exact (prt_no2 hF).elim
                        · rw [if_pos c_85] at hF
                          refine lv_aload_n hx hb dX13_readNot_235 rfl (lv_at hl 1 rfl) ?_
                          refine lv_iconst (v := 1) hx hb dX13_readNot_236 (by decide) ?_
                          refine lv_aload_n hx hb dX13_readNot_237 rfl (lv_at hl 1 rfl) ?_
                          refine mg_44 hC hH dX13_readNot_238 ?_
                          obtain ⟨x_100, e_101, hF⟩ := prf_some hF
                          refine gx_ti e_101 ?_
                          obtain ⟨r_102, u_103, h_104, hF⟩ := pcl_some hF
                          refine mcV_r (As := [.int 1, .int x_100]) (rest := []) hC hH (m_wrong l G Z Q u_62 u_103 r_102 1 x_100 _ h_104) kwX13_wrong kVX13_wrong ⟨by show _ ≤ 12 * (d + 1) + 20; omega, by show _ ≤ 140 * (d + 1) + 400; omega⟩ rfl hl.1 rfl (Nat.le_of_ble_eq_true rfl) dX13_readNot_241 (fun H locs hH => ?_)
                          exact mt_throw hC hH hno (prt_eqT hF) dX13_readNot_244 hlocks
                    · rw [if_neg c_60] at hF
                      refine lv_bipush (v := 13) hx hb dX13_readNot_208 (by decide) ?_
                      refine lv_goto (tgt := 229) hx hb dX13_readNot_210 (by decide) ?_
                      refine lv_istore_n (lv' := [(1, .int 13), (0, .ref (Q 72))]) hx hb dX13_readNot_229 rfl hl (by decide) rfl (fun ls hl => ?_)
                      refine lv_iload_n hx hb dX13_readNot_230 rfl (lv_at hl 0 rfl) ?_
                      refine lv_iconst (v := (-1)) hx hb dX13_readNot_231 (by decide) ?_
                      refine lv_icmp_ne (tgt := 245) hx hb dX13_readNot_232 (by decide) (fun c_105 => ?_) (fun c_105 => ?_)
                      · rw [if_neg c_105] at hF
                        refine lv_aload_n hx hb dX13_readNot_245 rfl (lv_at hl 1 rfl) ?_
                        obtain ⟨r_106, u_107, h_108, hF⟩ := pcl_some hF
                        cases r_106 with
                        | none =>
                          have hF := pot_none hF
                          exact mt_pass hH (mt_run (As := []) (rest := []) hC hH (t_hold l G Z Q u_58 u_107  _ h_108) kwX13_hold kVX13_hold ⟨by show _ ≤ 12 * (d + 1) + 20; omega, by show _ ≤ 140 * (d + 1) + 400; omega⟩ rfl hl.1 rfl (Nat.le_of_ble_eq_true rfl) dX13_readNot_246) hno hlocks (prt_eqT hF)
                        | some r_109 =>
                          have hF := pot_some hF
                          refine mcV_v (As := []) (rest := []) hC hH (m_hold l G Z Q u_58 u_107 r_109  _ h_108) kwX13_hold kVX13_hold ⟨by show _ ≤ 12 * (d + 1) + 20; omega, by show _ ≤ 140 * (d + 1) + 400; omega⟩ rfl hl.1 rfl (Nat.le_of_ble_eq_true rfl) dX13_readNot_246 (fun H locs hH => ?_)
                          refine lv_aload_n hx hb dX13_readNot_249 rfl (lv_at hl 1 rfl) ?_
                          obtain ⟨r_110, u_111, h_112, hF⟩ := pcl_some hF
                          refine mcV_v (As := []) (rest := []) hC hH (m_scan l G Z Q u_107 u_111 r_110  _ h_112) kwX13_scan kVX13_scan ⟨by show _ ≤ 12 * (d + 1) + 20; omega, by show _ ≤ 140 * (d + 1) + 400; omega⟩ rfl hl.1 rfl (Nat.le_of_ble_eq_true rfl) dX13_readNot_250 (fun H locs hH => ?_)
                          refine lv_aload_n hx hb dX13_readNot_253 rfl (lv_at hl 1 rfl) ?_
                          obtain ⟨r_113, u_114, h_115, hF⟩ := pcl_some hF
                          cases r_113 with
                          | none =>
                            have hF := pot_none hF
                            exact mt_pass hH (mt_run (As := []) (rest := []) hC hH (t_readSum l G Z Q u_111 u_114  _ h_115) kwX13_readSum kVX13_readSum ⟨by show _ ≤ 12 * (d + 1) + 20; omega, by show _ ≤ 140 * (d + 1) + 400; omega⟩ rfl hl.1 rfl (Nat.le_of_ble_eq_true rfl) dX13_readNot_254) hno hlocks (prt_eqT hF)
                          | some r_116 =>
                            have hF := pot_some hF
                            refine mcV_v (As := []) (rest := []) hC hH (m_readSum l G Z Q u_111 u_114 r_116  _ h_115) kwX13_readSum kVX13_readSum ⟨by show _ ≤ 12 * (d + 1) + 20; omega, by show _ ≤ 140 * (d + 1) + 400; omega⟩ rfl hl.1 rfl (Nat.le_of_ble_eq_true rfl) dX13_readNot_254 (fun H locs hH => ?_)
                            refine lv_aload_n hx hb dX13_readNot_257 rfl (lv_at hl 1 rfl) ?_
                            refine lv_iload_n hx hb dX13_readNot_258 rfl (lv_at hl 0 rfl) ?_
                            obtain ⟨r_117, u_118, h_119, hF⟩ := pcl_some hF
                            refine mcV_v (As := [.int 13]) (rest := []) hC hH (m_release l G Z Q u_114 u_118 r_117 13 _ h_119) kwX13_release kVX13_release ⟨by show _ ≤ 12 * (d + 1) + 20; omega, by show _ ≤ 140 * (d + 1) + 400; omega⟩ rfl hl.1 rfl (Nat.le_of_ble_eq_true rfl) dX13_readNot_259 (fun H locs hH => ?_)
                            exact (prt_no2 hF).elim
                      · rw [if_pos c_105] at hF
                        refine lv_aload_n hx hb dX13_readNot_235 rfl (lv_at hl 1 rfl) ?_
                        refine lv_iconst (v := 1) hx hb dX13_readNot_236 (by decide) ?_
                        refine lv_aload_n hx hb dX13_readNot_237 rfl (lv_at hl 1 rfl) ?_
                        refine mg_44 hC hH dX13_readNot_238 ?_
                        obtain ⟨x_120, e_121, hF⟩ := prf_some hF
                        refine gx_ti e_121 ?_
                        obtain ⟨r_122, u_123, h_124, hF⟩ := pcl_some hF
                        refine mcV_r (As := [.int 1, .int x_120]) (rest := []) hC hH (m_wrong l G Z Q u_58 u_123 r_122 1 x_120 _ h_124) kwX13_wrong kVX13_wrong ⟨by show _ ≤ 12 * (d + 1) + 20; omega, by show _ ≤ 140 * (d + 1) + 400; omega⟩ rfl hl.1 rfl (Nat.le_of_ble_eq_true rfl) dX13_readNot_241 (fun H locs hH => ?_)
                        exact mt_throw hC hH hno (prt_eqT hF) dX13_readNot_244 hlocks
                  · rw [if_neg c_56] at hF
                    refine lv_bipush (v := 12) hx hb dX13_readNot_193 (by decide) ?_
                    refine lv_goto (tgt := 229) hx hb dX13_readNot_195 (by decide) ?_
                    refine lv_istore_n (lv' := [(1, .int 12), (0, .ref (Q 72))]) hx hb dX13_readNot_229 rfl hl (by decide) rfl (fun ls hl => ?_)
                    refine lv_iload_n hx hb dX13_readNot_230 rfl (lv_at hl 0 rfl) ?_
                    refine lv_iconst (v := (-1)) hx hb dX13_readNot_231 (by decide) ?_
                    refine lv_icmp_ne (tgt := 245) hx hb dX13_readNot_232 (by decide) (fun c_125 => ?_) (fun c_125 => ?_)
                    · rw [if_neg c_125] at hF
                      refine lv_aload_n hx hb dX13_readNot_245 rfl (lv_at hl 1 rfl) ?_
                      obtain ⟨r_126, u_127, h_128, hF⟩ := pcl_some hF
                      cases r_126 with
                      | none =>
                        have hF := pot_none hF
                        exact mt_pass hH (mt_run (As := []) (rest := []) hC hH (t_hold l G Z Q u_54 u_127  _ h_128) kwX13_hold kVX13_hold ⟨by show _ ≤ 12 * (d + 1) + 20; omega, by show _ ≤ 140 * (d + 1) + 400; omega⟩ rfl hl.1 rfl (Nat.le_of_ble_eq_true rfl) dX13_readNot_246) hno hlocks (prt_eqT hF)
                      | some r_129 =>
                        have hF := pot_some hF
                        refine mcV_v (As := []) (rest := []) hC hH (m_hold l G Z Q u_54 u_127 r_129  _ h_128) kwX13_hold kVX13_hold ⟨by show _ ≤ 12 * (d + 1) + 20; omega, by show _ ≤ 140 * (d + 1) + 400; omega⟩ rfl hl.1 rfl (Nat.le_of_ble_eq_true rfl) dX13_readNot_246 (fun H locs hH => ?_)
                        refine lv_aload_n hx hb dX13_readNot_249 rfl (lv_at hl 1 rfl) ?_
                        obtain ⟨r_130, u_131, h_132, hF⟩ := pcl_some hF
                        refine mcV_v (As := []) (rest := []) hC hH (m_scan l G Z Q u_127 u_131 r_130  _ h_132) kwX13_scan kVX13_scan ⟨by show _ ≤ 12 * (d + 1) + 20; omega, by show _ ≤ 140 * (d + 1) + 400; omega⟩ rfl hl.1 rfl (Nat.le_of_ble_eq_true rfl) dX13_readNot_250 (fun H locs hH => ?_)
                        refine lv_aload_n hx hb dX13_readNot_253 rfl (lv_at hl 1 rfl) ?_
                        obtain ⟨r_133, u_134, h_135, hF⟩ := pcl_some hF
                        cases r_133 with
                        | none =>
                          have hF := pot_none hF
                          exact mt_pass hH (mt_run (As := []) (rest := []) hC hH (t_readSum l G Z Q u_131 u_134  _ h_135) kwX13_readSum kVX13_readSum ⟨by show _ ≤ 12 * (d + 1) + 20; omega, by show _ ≤ 140 * (d + 1) + 400; omega⟩ rfl hl.1 rfl (Nat.le_of_ble_eq_true rfl) dX13_readNot_254) hno hlocks (prt_eqT hF)
                        | some r_136 =>
                          have hF := pot_some hF
                          refine mcV_v (As := []) (rest := []) hC hH (m_readSum l G Z Q u_131 u_134 r_136  _ h_135) kwX13_readSum kVX13_readSum ⟨by show _ ≤ 12 * (d + 1) + 20; omega, by show _ ≤ 140 * (d + 1) + 400; omega⟩ rfl hl.1 rfl (Nat.le_of_ble_eq_true rfl) dX13_readNot_254 (fun H locs hH => ?_)
                          refine lv_aload_n hx hb dX13_readNot_257 rfl (lv_at hl 1 rfl) ?_
                          refine lv_iload_n hx hb dX13_readNot_258 rfl (lv_at hl 0 rfl) ?_
                          obtain ⟨r_137, u_138, h_139, hF⟩ := pcl_some hF
                          refine mcV_v (As := [.int 12]) (rest := []) hC hH (m_release l G Z Q u_134 u_138 r_137 12 _ h_139) kwX13_release kVX13_release ⟨by show _ ≤ 12 * (d + 1) + 20; omega, by show _ ≤ 140 * (d + 1) + 400; omega⟩ rfl hl.1 rfl (Nat.le_of_ble_eq_true rfl) dX13_readNot_259 (fun H locs hH => ?_)
                          exact (prt_no2 hF).elim
                    · rw [if_pos c_125] at hF
                      refine lv_aload_n hx hb dX13_readNot_235 rfl (lv_at hl 1 rfl) ?_
                      refine lv_iconst (v := 1) hx hb dX13_readNot_236 (by decide) ?_
                      refine lv_aload_n hx hb dX13_readNot_237 rfl (lv_at hl 1 rfl) ?_
                      refine mg_44 hC hH dX13_readNot_238 ?_
                      obtain ⟨x_140, e_141, hF⟩ := prf_some hF
                      refine gx_ti e_141 ?_
                      obtain ⟨r_142, u_143, h_144, hF⟩ := pcl_some hF
                      refine mcV_r (As := [.int 1, .int x_140]) (rest := []) hC hH (m_wrong l G Z Q u_54 u_143 r_142 1 x_140 _ h_144) kwX13_wrong kVX13_wrong ⟨by show _ ≤ 12 * (d + 1) + 20; omega, by show _ ≤ 140 * (d + 1) + 400; omega⟩ rfl hl.1 rfl (Nat.le_of_ble_eq_true rfl) dX13_readNot_241 (fun H locs hH => ?_)
                      exact mt_throw hC hH hno (prt_eqT hF) dX13_readNot_244 hlocks
                · rw [if_neg c_52] at hF
                  refine lv_bipush (v := 11) hx hb dX13_readNot_178 (by decide) ?_
                  refine lv_goto (tgt := 229) hx hb dX13_readNot_180 (by decide) ?_
                  refine lv_istore_n (lv' := [(1, .int 11), (0, .ref (Q 72))]) hx hb dX13_readNot_229 rfl hl (by decide) rfl (fun ls hl => ?_)
                  refine lv_iload_n hx hb dX13_readNot_230 rfl (lv_at hl 0 rfl) ?_
                  refine lv_iconst (v := (-1)) hx hb dX13_readNot_231 (by decide) ?_
                  refine lv_icmp_ne (tgt := 245) hx hb dX13_readNot_232 (by decide) (fun c_145 => ?_) (fun c_145 => ?_)
                  · rw [if_neg c_145] at hF
                    refine lv_aload_n hx hb dX13_readNot_245 rfl (lv_at hl 1 rfl) ?_
                    obtain ⟨r_146, u_147, h_148, hF⟩ := pcl_some hF
                    cases r_146 with
                    | none =>
                      have hF := pot_none hF
                      exact mt_pass hH (mt_run (As := []) (rest := []) hC hH (t_hold l G Z Q u_50 u_147  _ h_148) kwX13_hold kVX13_hold ⟨by show _ ≤ 12 * (d + 1) + 20; omega, by show _ ≤ 140 * (d + 1) + 400; omega⟩ rfl hl.1 rfl (Nat.le_of_ble_eq_true rfl) dX13_readNot_246) hno hlocks (prt_eqT hF)
                    | some r_149 =>
                      have hF := pot_some hF
                      refine mcV_v (As := []) (rest := []) hC hH (m_hold l G Z Q u_50 u_147 r_149  _ h_148) kwX13_hold kVX13_hold ⟨by show _ ≤ 12 * (d + 1) + 20; omega, by show _ ≤ 140 * (d + 1) + 400; omega⟩ rfl hl.1 rfl (Nat.le_of_ble_eq_true rfl) dX13_readNot_246 (fun H locs hH => ?_)
                      refine lv_aload_n hx hb dX13_readNot_249 rfl (lv_at hl 1 rfl) ?_
                      obtain ⟨r_150, u_151, h_152, hF⟩ := pcl_some hF
                      refine mcV_v (As := []) (rest := []) hC hH (m_scan l G Z Q u_147 u_151 r_150  _ h_152) kwX13_scan kVX13_scan ⟨by show _ ≤ 12 * (d + 1) + 20; omega, by show _ ≤ 140 * (d + 1) + 400; omega⟩ rfl hl.1 rfl (Nat.le_of_ble_eq_true rfl) dX13_readNot_250 (fun H locs hH => ?_)
                      refine lv_aload_n hx hb dX13_readNot_253 rfl (lv_at hl 1 rfl) ?_
                      obtain ⟨r_153, u_154, h_155, hF⟩ := pcl_some hF
                      cases r_153 with
                      | none =>
                        have hF := pot_none hF
                        exact mt_pass hH (mt_run (As := []) (rest := []) hC hH (t_readSum l G Z Q u_151 u_154  _ h_155) kwX13_readSum kVX13_readSum ⟨by show _ ≤ 12 * (d + 1) + 20; omega, by show _ ≤ 140 * (d + 1) + 400; omega⟩ rfl hl.1 rfl (Nat.le_of_ble_eq_true rfl) dX13_readNot_254) hno hlocks (prt_eqT hF)
                      | some r_156 =>
                        have hF := pot_some hF
                        refine mcV_v (As := []) (rest := []) hC hH (m_readSum l G Z Q u_151 u_154 r_156  _ h_155) kwX13_readSum kVX13_readSum ⟨by show _ ≤ 12 * (d + 1) + 20; omega, by show _ ≤ 140 * (d + 1) + 400; omega⟩ rfl hl.1 rfl (Nat.le_of_ble_eq_true rfl) dX13_readNot_254 (fun H locs hH => ?_)
                        refine lv_aload_n hx hb dX13_readNot_257 rfl (lv_at hl 1 rfl) ?_
                        refine lv_iload_n hx hb dX13_readNot_258 rfl (lv_at hl 0 rfl) ?_
                        obtain ⟨r_157, u_158, h_159, hF⟩ := pcl_some hF
                        refine mcV_v (As := [.int 11]) (rest := []) hC hH (m_release l G Z Q u_154 u_158 r_157 11 _ h_159) kwX13_release kVX13_release ⟨by show _ ≤ 12 * (d + 1) + 20; omega, by show _ ≤ 140 * (d + 1) + 400; omega⟩ rfl hl.1 rfl (Nat.le_of_ble_eq_true rfl) dX13_readNot_259 (fun H locs hH => ?_)
                        exact (prt_no2 hF).elim
                  · rw [if_pos c_145] at hF
                    refine lv_aload_n hx hb dX13_readNot_235 rfl (lv_at hl 1 rfl) ?_
                    refine lv_iconst (v := 1) hx hb dX13_readNot_236 (by decide) ?_
                    refine lv_aload_n hx hb dX13_readNot_237 rfl (lv_at hl 1 rfl) ?_
                    refine mg_44 hC hH dX13_readNot_238 ?_
                    obtain ⟨x_160, e_161, hF⟩ := prf_some hF
                    refine gx_ti e_161 ?_
                    obtain ⟨r_162, u_163, h_164, hF⟩ := pcl_some hF
                    refine mcV_r (As := [.int 1, .int x_160]) (rest := []) hC hH (m_wrong l G Z Q u_50 u_163 r_162 1 x_160 _ h_164) kwX13_wrong kVX13_wrong ⟨by show _ ≤ 12 * (d + 1) + 20; omega, by show _ ≤ 140 * (d + 1) + 400; omega⟩ rfl hl.1 rfl (Nat.le_of_ble_eq_true rfl) dX13_readNot_241 (fun H locs hH => ?_)
                    exact mt_throw hC hH hno (prt_eqT hF) dX13_readNot_244 hlocks
              · rw [if_neg c_48] at hF
                refine lv_bipush (v := 10) hx hb dX13_readNot_163 (by decide) ?_
                refine lv_goto (tgt := 229) hx hb dX13_readNot_165 (by decide) ?_
                refine lv_istore_n (lv' := [(1, .int 10), (0, .ref (Q 72))]) hx hb dX13_readNot_229 rfl hl (by decide) rfl (fun ls hl => ?_)
                refine lv_iload_n hx hb dX13_readNot_230 rfl (lv_at hl 0 rfl) ?_
                refine lv_iconst (v := (-1)) hx hb dX13_readNot_231 (by decide) ?_
                refine lv_icmp_ne (tgt := 245) hx hb dX13_readNot_232 (by decide) (fun c_165 => ?_) (fun c_165 => ?_)
                · rw [if_neg c_165] at hF
                  refine lv_aload_n hx hb dX13_readNot_245 rfl (lv_at hl 1 rfl) ?_
                  obtain ⟨r_166, u_167, h_168, hF⟩ := pcl_some hF
                  cases r_166 with
                  | none =>
                    have hF := pot_none hF
                    exact mt_pass hH (mt_run (As := []) (rest := []) hC hH (t_hold l G Z Q u_46 u_167  _ h_168) kwX13_hold kVX13_hold ⟨by show _ ≤ 12 * (d + 1) + 20; omega, by show _ ≤ 140 * (d + 1) + 400; omega⟩ rfl hl.1 rfl (Nat.le_of_ble_eq_true rfl) dX13_readNot_246) hno hlocks (prt_eqT hF)
                  | some r_169 =>
                    have hF := pot_some hF
                    refine mcV_v (As := []) (rest := []) hC hH (m_hold l G Z Q u_46 u_167 r_169  _ h_168) kwX13_hold kVX13_hold ⟨by show _ ≤ 12 * (d + 1) + 20; omega, by show _ ≤ 140 * (d + 1) + 400; omega⟩ rfl hl.1 rfl (Nat.le_of_ble_eq_true rfl) dX13_readNot_246 (fun H locs hH => ?_)
                    refine lv_aload_n hx hb dX13_readNot_249 rfl (lv_at hl 1 rfl) ?_
                    obtain ⟨r_170, u_171, h_172, hF⟩ := pcl_some hF
                    refine mcV_v (As := []) (rest := []) hC hH (m_scan l G Z Q u_167 u_171 r_170  _ h_172) kwX13_scan kVX13_scan ⟨by show _ ≤ 12 * (d + 1) + 20; omega, by show _ ≤ 140 * (d + 1) + 400; omega⟩ rfl hl.1 rfl (Nat.le_of_ble_eq_true rfl) dX13_readNot_250 (fun H locs hH => ?_)
                    refine lv_aload_n hx hb dX13_readNot_253 rfl (lv_at hl 1 rfl) ?_
                    obtain ⟨r_173, u_174, h_175, hF⟩ := pcl_some hF
                    cases r_173 with
                    | none =>
                      have hF := pot_none hF
                      exact mt_pass hH (mt_run (As := []) (rest := []) hC hH (t_readSum l G Z Q u_171 u_174  _ h_175) kwX13_readSum kVX13_readSum ⟨by show _ ≤ 12 * (d + 1) + 20; omega, by show _ ≤ 140 * (d + 1) + 400; omega⟩ rfl hl.1 rfl (Nat.le_of_ble_eq_true rfl) dX13_readNot_254) hno hlocks (prt_eqT hF)
                    | some r_176 =>
                      have hF := pot_some hF
                      refine mcV_v (As := []) (rest := []) hC hH (m_readSum l G Z Q u_171 u_174 r_176  _ h_175) kwX13_readSum kVX13_readSum ⟨by show _ ≤ 12 * (d + 1) + 20; omega, by show _ ≤ 140 * (d + 1) + 400; omega⟩ rfl hl.1 rfl (Nat.le_of_ble_eq_true rfl) dX13_readNot_254 (fun H locs hH => ?_)
                      refine lv_aload_n hx hb dX13_readNot_257 rfl (lv_at hl 1 rfl) ?_
                      refine lv_iload_n hx hb dX13_readNot_258 rfl (lv_at hl 0 rfl) ?_
                      obtain ⟨r_177, u_178, h_179, hF⟩ := pcl_some hF
                      refine mcV_v (As := [.int 10]) (rest := []) hC hH (m_release l G Z Q u_174 u_178 r_177 10 _ h_179) kwX13_release kVX13_release ⟨by show _ ≤ 12 * (d + 1) + 20; omega, by show _ ≤ 140 * (d + 1) + 400; omega⟩ rfl hl.1 rfl (Nat.le_of_ble_eq_true rfl) dX13_readNot_259 (fun H locs hH => ?_)
                      exact (prt_no2 hF).elim
                · rw [if_pos c_165] at hF
                  refine lv_aload_n hx hb dX13_readNot_235 rfl (lv_at hl 1 rfl) ?_
                  refine lv_iconst (v := 1) hx hb dX13_readNot_236 (by decide) ?_
                  refine lv_aload_n hx hb dX13_readNot_237 rfl (lv_at hl 1 rfl) ?_
                  refine mg_44 hC hH dX13_readNot_238 ?_
                  obtain ⟨x_180, e_181, hF⟩ := prf_some hF
                  refine gx_ti e_181 ?_
                  obtain ⟨r_182, u_183, h_184, hF⟩ := pcl_some hF
                  refine mcV_r (As := [.int 1, .int x_180]) (rest := []) hC hH (m_wrong l G Z Q u_46 u_183 r_182 1 x_180 _ h_184) kwX13_wrong kVX13_wrong ⟨by show _ ≤ 12 * (d + 1) + 20; omega, by show _ ≤ 140 * (d + 1) + 400; omega⟩ rfl hl.1 rfl (Nat.le_of_ble_eq_true rfl) dX13_readNot_241 (fun H locs hH => ?_)
                  exact mt_throw hC hH hno (prt_eqT hF) dX13_readNot_244 hlocks
            · rw [if_neg c_44] at hF
              refine lv_bipush (v := 9) hx hb dX13_readNot_148 (by decide) ?_
              refine lv_goto (tgt := 229) hx hb dX13_readNot_150 (by decide) ?_
              refine lv_istore_n (lv' := [(1, .int 9), (0, .ref (Q 72))]) hx hb dX13_readNot_229 rfl hl (by decide) rfl (fun ls hl => ?_)
              refine lv_iload_n hx hb dX13_readNot_230 rfl (lv_at hl 0 rfl) ?_
              refine lv_iconst (v := (-1)) hx hb dX13_readNot_231 (by decide) ?_
              refine lv_icmp_ne (tgt := 245) hx hb dX13_readNot_232 (by decide) (fun c_185 => ?_) (fun c_185 => ?_)
              · rw [if_neg c_185] at hF
                refine lv_aload_n hx hb dX13_readNot_245 rfl (lv_at hl 1 rfl) ?_
                obtain ⟨r_186, u_187, h_188, hF⟩ := pcl_some hF
                cases r_186 with
                | none =>
                  have hF := pot_none hF
                  exact mt_pass hH (mt_run (As := []) (rest := []) hC hH (t_hold l G Z Q u_42 u_187  _ h_188) kwX13_hold kVX13_hold ⟨by show _ ≤ 12 * (d + 1) + 20; omega, by show _ ≤ 140 * (d + 1) + 400; omega⟩ rfl hl.1 rfl (Nat.le_of_ble_eq_true rfl) dX13_readNot_246) hno hlocks (prt_eqT hF)
                | some r_189 =>
                  have hF := pot_some hF
                  refine mcV_v (As := []) (rest := []) hC hH (m_hold l G Z Q u_42 u_187 r_189  _ h_188) kwX13_hold kVX13_hold ⟨by show _ ≤ 12 * (d + 1) + 20; omega, by show _ ≤ 140 * (d + 1) + 400; omega⟩ rfl hl.1 rfl (Nat.le_of_ble_eq_true rfl) dX13_readNot_246 (fun H locs hH => ?_)
                  refine lv_aload_n hx hb dX13_readNot_249 rfl (lv_at hl 1 rfl) ?_
                  obtain ⟨r_190, u_191, h_192, hF⟩ := pcl_some hF
                  refine mcV_v (As := []) (rest := []) hC hH (m_scan l G Z Q u_187 u_191 r_190  _ h_192) kwX13_scan kVX13_scan ⟨by show _ ≤ 12 * (d + 1) + 20; omega, by show _ ≤ 140 * (d + 1) + 400; omega⟩ rfl hl.1 rfl (Nat.le_of_ble_eq_true rfl) dX13_readNot_250 (fun H locs hH => ?_)
                  refine lv_aload_n hx hb dX13_readNot_253 rfl (lv_at hl 1 rfl) ?_
                  obtain ⟨r_193, u_194, h_195, hF⟩ := pcl_some hF
                  cases r_193 with
                  | none =>
                    have hF := pot_none hF
                    exact mt_pass hH (mt_run (As := []) (rest := []) hC hH (t_readSum l G Z Q u_191 u_194  _ h_195) kwX13_readSum kVX13_readSum ⟨by show _ ≤ 12 * (d + 1) + 20; omega, by show _ ≤ 140 * (d + 1) + 400; omega⟩ rfl hl.1 rfl (Nat.le_of_ble_eq_true rfl) dX13_readNot_254) hno hlocks (prt_eqT hF)
                  | some r_196 =>
                    have hF := pot_some hF
                    refine mcV_v (As := []) (rest := []) hC hH (m_readSum l G Z Q u_191 u_194 r_196  _ h_195) kwX13_readSum kVX13_readSum ⟨by show _ ≤ 12 * (d + 1) + 20; omega, by show _ ≤ 140 * (d + 1) + 400; omega⟩ rfl hl.1 rfl (Nat.le_of_ble_eq_true rfl) dX13_readNot_254 (fun H locs hH => ?_)
                    refine lv_aload_n hx hb dX13_readNot_257 rfl (lv_at hl 1 rfl) ?_
                    refine lv_iload_n hx hb dX13_readNot_258 rfl (lv_at hl 0 rfl) ?_
                    obtain ⟨r_197, u_198, h_199, hF⟩ := pcl_some hF
                    refine mcV_v (As := [.int 9]) (rest := []) hC hH (m_release l G Z Q u_194 u_198 r_197 9 _ h_199) kwX13_release kVX13_release ⟨by show _ ≤ 12 * (d + 1) + 20; omega, by show _ ≤ 140 * (d + 1) + 400; omega⟩ rfl hl.1 rfl (Nat.le_of_ble_eq_true rfl) dX13_readNot_259 (fun H locs hH => ?_)
                    exact (prt_no2 hF).elim
              · rw [if_pos c_185] at hF
                refine lv_aload_n hx hb dX13_readNot_235 rfl (lv_at hl 1 rfl) ?_
                refine lv_iconst (v := 1) hx hb dX13_readNot_236 (by decide) ?_
                refine lv_aload_n hx hb dX13_readNot_237 rfl (lv_at hl 1 rfl) ?_
                refine mg_44 hC hH dX13_readNot_238 ?_
                obtain ⟨x_200, e_201, hF⟩ := prf_some hF
                refine gx_ti e_201 ?_
                obtain ⟨r_202, u_203, h_204, hF⟩ := pcl_some hF
                refine mcV_r (As := [.int 1, .int x_200]) (rest := []) hC hH (m_wrong l G Z Q u_42 u_203 r_202 1 x_200 _ h_204) kwX13_wrong kVX13_wrong ⟨by show _ ≤ 12 * (d + 1) + 20; omega, by show _ ≤ 140 * (d + 1) + 400; omega⟩ rfl hl.1 rfl (Nat.le_of_ble_eq_true rfl) dX13_readNot_241 (fun H locs hH => ?_)
                exact mt_throw hC hH hno (prt_eqT hF) dX13_readNot_244 hlocks
        · rw [if_neg c_36] at hF
          refine lv_aload_n hx hb dX13_readNot_105 rfl (lv_at hl 0 rfl) ?_
          obtain ⟨r_205, u_206, h_207, hF⟩ := pcl_some hF
          cases r_205 with
          | none =>
            have hF := pot_none hF
            exact mt_pass hH (mt_run (As := []) (rest := []) hC hH (t_counts l G Z Q u_34 u_206  _ h_207) kwX13_counts kVX13_counts ⟨by show _ ≤ 12 * (d + 1) + 20; omega, by show _ ≤ 140 * (d + 1) + 400; omega⟩ rfl hl.1 rfl (Nat.le_of_ble_eq_true rfl) dX13_readNot_106) hno hlocks (prt_eqT hF)
          | some r_208 =>
            have hF := pot_some hF
            refine mcV_v (As := []) (rest := []) hC hH (m_counts l G Z Q u_34 u_206 r_208  _ h_207) kwX13_counts kVX13_counts ⟨by show _ ≤ 12 * (d + 1) + 20; omega, by show _ ≤ 140 * (d + 1) + 400; omega⟩ rfl hl.1 rfl (Nat.le_of_ble_eq_true rfl) dX13_readNot_106 (fun H locs hH => ?_)
            refine lv_aload_n hx hb dX13_readNot_109 rfl (lv_at hl 0 rfl) ?_
            refine lv_aload_n hx hb dX13_readNot_110 rfl (lv_at hl 0 rfl) ?_
            refine th_ldcw (tx := sTx 9) hx hb hC.2.2.2.1 (hC.2.2.2.2.2.2.2.2.1 9 (by decide)) dX13_readNot_111 ?_
            obtain ⟨r_209, u_210, h_211, hF⟩ := pcl_some hF
            refine mcV_i (As := [.ref (Z.1 9)]) (rest := [.ref (Q 72)]) hC hH (m_is l G Z Q u_206 u_210 r_209 9 _ h_211 (by decide)) kwX13_is kVX13_is ⟨by show _ ≤ 12 * (d + 1) + 20; omega, by show _ ≤ 140 * (d + 1) + 400; omega⟩ rfl hl.1 rfl (Nat.le_of_ble_eq_true rfl) dX13_readNot_114 (fun H locs hH => ?_)
            refine lv_if_eq (tgt := 124) hx hb dX13_readNot_117 (by decide) (fun c_212 => ?_) (fun c_212 => ?_)
            · rw [if_pos c_212] at hF
              refine lv_iconst (v := 5) hx hb dX13_readNot_124 (by decide) ?_
              refine lv_iconst (v := 0) hx hb dX13_readNot_125 (by decide) ?_
              obtain ⟨r_213, u_214, h_215, hF⟩ := pcl_some hF
              refine mcV_v (As := [.int 5, .int 0]) (rest := []) hC hH (m_put l G Z Q u_210 u_214 r_213 5 0 _ h_215) kwX13_put kVX13_put ⟨by show _ ≤ 12 * (d + 1) + 20; omega, by show _ ≤ 140 * (d + 1) + 400; omega⟩ rfl hl.1 rfl (Nat.le_of_ble_eq_true rfl) dX13_readNot_126 (fun H locs hH => ?_)
              refine lv_aload_n hx hb dX13_readNot_129 rfl (lv_at hl 0 rfl) ?_
              obtain ⟨r_216, u_217, h_218, hF⟩ := pcl_some hF
              refine mcV_v (As := []) (rest := []) hC hH (m_scan l G Z Q u_214 u_217 r_216  _ h_218) kwX13_scan kVX13_scan ⟨by show _ ≤ 12 * (d + 1) + 20; omega, by show _ ≤ 140 * (d + 1) + 400; omega⟩ rfl hl.1 rfl (Nat.le_of_ble_eq_true rfl) dX13_readNot_130 (fun H locs hH => ?_)
              exact (prt_no2 hF).elim
            · rw [if_neg c_212] at hF
              refine lv_iconst (v := 4) hx hb dX13_readNot_120 (by decide) ?_
              refine lv_goto (tgt := 125) hx hb dX13_readNot_121 (by decide) ?_
              refine lv_iconst (v := 0) hx hb dX13_readNot_125 (by decide) ?_
              obtain ⟨r_219, u_220, h_221, hF⟩ := pcl_some hF
              refine mcV_v (As := [.int 4, .int 0]) (rest := []) hC hH (m_put l G Z Q u_210 u_220 r_219 4 0 _ h_221) kwX13_put kVX13_put ⟨by show _ ≤ 12 * (d + 1) + 20; omega, by show _ ≤ 140 * (d + 1) + 400; omega⟩ rfl hl.1 rfl (Nat.le_of_ble_eq_true rfl) dX13_readNot_126 (fun H locs hH => ?_)
              refine lv_aload_n hx hb dX13_readNot_129 rfl (lv_at hl 0 rfl) ?_
              obtain ⟨r_222, u_223, h_224, hF⟩ := pcl_some hF
              refine mcV_v (As := []) (rest := []) hC hH (m_scan l G Z Q u_220 u_223 r_222  _ h_224) kwX13_scan kVX13_scan ⟨by show _ ≤ 12 * (d + 1) + 20; omega, by show _ ≤ 140 * (d + 1) + 400; omega⟩ rfl hl.1 rfl (Nat.le_of_ble_eq_true rfl) dX13_readNot_130 (fun H locs hH => ?_)
              exact (prt_no2 hF).elim
    · rw [if_neg c_8] at hF
      refine lv_aload_n hx hb dX13_readNot_59 rfl (lv_at hl 0 rfl) ?_
      obtain ⟨r_225, u_226, h_227, hF⟩ := pcl_some hF
      cases r_225 with
      | none =>
        have hF := pot_none hF
        exact mt_pass hH (mt_run (As := []) (rest := []) hC hH (t_opens l G Z Q u_6 u_226  _ h_227) kwX13_opens kVX13_opens ⟨by show _ ≤ 12 * (d + 1) + 20; omega, by show _ ≤ 140 * (d + 1) + 400; omega⟩ rfl hl.1 rfl (Nat.le_of_ble_eq_true rfl) dX13_readNot_60) hno hlocks (prt_eqT hF)
      | some r_228 =>
        have hF := pot_some hF
        refine mcV_v (As := []) (rest := []) hC hH (m_opens l G Z Q u_6 u_226 r_228  _ h_227) kwX13_opens kVX13_opens ⟨by show _ ≤ 12 * (d + 1) + 20; omega, by show _ ≤ 140 * (d + 1) + 400; omega⟩ rfl hl.1 rfl (Nat.le_of_ble_eq_true rfl) dX13_readNot_60 (fun H locs hH => ?_)
        refine lv_aload_n hx hb dX13_readNot_63 rfl (lv_at hl 0 rfl) ?_
        obtain ⟨r_229, u_230, h_231, hF⟩ := pcl_some hF
        cases r_229 with
        | none =>
          have hF := pot_none hF
          exact mt_pass hH (mt_run (As := []) (rest := []) hC hH (ht_readOr u_226 u_230  _ h_231) kwX13_readOr kVX13_readOr ⟨by show _ ≤ 12 * (d + 1) + 20; omega, by show _ ≤ 140 * (d + 1) + 400; omega⟩ rfl hl.1 rfl (Nat.le_of_ble_eq_true rfl) dX13_readNot_64) hno hlocks (prt_eqT hF)
        | some r_232 =>
          have hF := pot_some hF
          refine mcV_v (As := []) (rest := []) hC hH (hr_readOr u_226 u_230 r_232  _ h_231) kwX13_readOr kVX13_readOr ⟨by show _ ≤ 12 * (d + 1) + 20; omega, by show _ ≤ 140 * (d + 1) + 400; omega⟩ rfl hl.1 rfl (Nat.le_of_ble_eq_true rfl) dX13_readNot_64 (fun H locs hH => ?_)
          refine lv_aload_n hx hb dX13_readNot_67 rfl (lv_at hl 0 rfl) ?_
          refine th_ldcw (tx := sTx 16) hx hb hC.2.2.2.1 (hC.2.2.2.2.2.2.2.2.1 16 (by decide)) dX13_readNot_68 ?_
          obtain ⟨r_233, u_234, h_235, hF⟩ := pcl_some hF
          cases r_233 with
          | none =>
            have hF := pot_none hF
            exact mt_pass hH (mt_run (As := [.ref (Z.1 16)]) (rest := []) hC hH (t_need l G Z Q u_230 u_234 16 _ h_235 (by decide)) kwX13_need kVX13_need ⟨by show _ ≤ 12 * (d + 1) + 20; omega, by show _ ≤ 140 * (d + 1) + 400; omega⟩ rfl hl.1 rfl (Nat.le_of_ble_eq_true rfl) dX13_readNot_71) hno hlocks (prt_eqT hF)
          | some r_236 =>
            have hF := pot_some hF
            refine mcV_v (As := [.ref (Z.1 16)]) (rest := []) hC hH (m_need l G Z Q u_230 u_234 r_236 16 _ h_235 (by decide)) kwX13_need kVX13_need ⟨by show _ ≤ 12 * (d + 1) + 20; omega, by show _ ≤ 140 * (d + 1) + 400; omega⟩ rfl hl.1 rfl (Nat.le_of_ble_eq_true rfl) dX13_readNot_71 (fun H locs hH => ?_)
            refine lv_aload_n hx hb dX13_readNot_74 rfl (lv_at hl 0 rfl) ?_
            refine lv_dup hx hb dX13_readNot_75 rfl ?_
            refine mg_48 hC hH dX13_readNot_76 ?_
            obtain ⟨x_237, e_238, hF⟩ := prf_some hF
            refine gx_ti e_238 ?_
            refine lv_iconst (v := 1) hx hb dX13_readNot_79 (by decide) ?_
            refine lv_isub hx hb dX13_readNot_80 ?_
            obtain ⟨u_239, e_240, hF⟩ := pwf_some hF
            refine mp_48 hC hH e_240 dX13_readNot_81 (fun H locs hH => ?_)
            exact (prt_no2 hF).elim
  · rw [if_neg c_4] at hF
    refine lv_aload_n hx hb dX13_readNot_10 rfl (lv_at hl 0 rfl) ?_
    obtain ⟨r_241, u_242, h_243, hF⟩ := pcl_some hF
    cases r_241 with
    | none =>
      have hF := pot_none hF
      exact mt_pass hH (mt_run (As := []) (rest := []) hC hH (t_counts l G Z Q u_2 u_242  _ h_243) kwX13_counts kVX13_counts ⟨by show _ ≤ 12 * (d + 1) + 20; omega, by show _ ≤ 140 * (d + 1) + 400; omega⟩ rfl hl.1 rfl (Nat.le_of_ble_eq_true rfl) dX13_readNot_11) hno hlocks (prt_eqT hF)
    | some r_244 =>
      have hF := pot_some hF
      refine mcV_v (As := []) (rest := []) hC hH (m_counts l G Z Q u_2 u_242 r_244  _ h_243) kwX13_counts kVX13_counts ⟨by show _ ≤ 12 * (d + 1) + 20; omega, by show _ ≤ 140 * (d + 1) + 400; omega⟩ rfl hl.1 rfl (Nat.le_of_ble_eq_true rfl) dX13_readNot_11 (fun H locs hH => ?_)
      refine lv_aload_n hx hb dX13_readNot_14 rfl (lv_at hl 0 rfl) ?_
      refine lv_dup hx hb dX13_readNot_15 rfl ?_
      refine mg_51 hC hH dX13_readNot_16 ?_
      obtain ⟨x_245, e_246, hF⟩ := prf_some hF
      refine gx_ti e_246 ?_
      refine lv_iconst (v := 1) hx hb dX13_readNot_19 (by decide) ?_
      refine lv_iadd hx hb dX13_readNot_20 ?_
      obtain ⟨u_247, e_248, hF⟩ := pwf_some hF
      refine mp_51 hC hH e_248 dX13_readNot_21 (fun H locs hH => ?_)
      refine lv_aload_n hx hb dX13_readNot_24 rfl (lv_at hl 0 rfl) ?_
      obtain ⟨r_249, u_250, h_251, hF⟩ := pcl_some hF
      cases r_249 with
      | none =>
        have hF := pot_none hF
        exact mt_pass hH (mt_run (As := []) (rest := []) hC hH (t_opens l G Z Q u_247 u_250  _ h_251) kwX13_opens kVX13_opens ⟨by show _ ≤ 12 * (d + 1) + 20; omega, by show _ ≤ 140 * (d + 1) + 400; omega⟩ rfl hl.1 rfl (Nat.le_of_ble_eq_true rfl) dX13_readNot_25) hno hlocks (prt_eqT hF)
      | some r_252 =>
        have hF := pot_some hF
        refine mcV_v (As := []) (rest := []) hC hH (m_opens l G Z Q u_247 u_250 r_252  _ h_251) kwX13_opens kVX13_opens ⟨by show _ ≤ 12 * (d + 1) + 20; omega, by show _ ≤ 140 * (d + 1) + 400; omega⟩ rfl hl.1 rfl (Nat.le_of_ble_eq_true rfl) dX13_readNot_25 (fun H locs hH => ?_)
        refine lv_aload_n hx hb dX13_readNot_28 rfl (lv_at hl 0 rfl) ?_
        obtain ⟨r_253, u_254, h_255, hF⟩ := pcl_some hF
        cases r_253 with
        | none =>
          have hF := pot_none hF
          exact mt_pass hH (mt_run (As := []) (rest := []) hC hH (ht_readNot u_250 u_254  _ h_255) kwX13_readNot kVX13_readNot ⟨by show _ ≤ 12 * (d + 1) + 20; omega, by show _ ≤ 140 * (d + 1) + 400; omega⟩ rfl hl.1 rfl (Nat.le_of_ble_eq_true rfl) dX13_readNot_29) hno hlocks (prt_eqT hF)
        | some r_256 =>
          have hF := pot_some hF
          refine mcV_v (As := []) (rest := []) hC hH (hr_readNot u_250 u_254 r_256  _ h_255) kwX13_readNot kVX13_readNot ⟨by show _ ≤ 12 * (d + 1) + 20; omega, by show _ ≤ 140 * (d + 1) + 400; omega⟩ rfl hl.1 rfl (Nat.le_of_ble_eq_true rfl) dX13_readNot_29 (fun H locs hH => ?_)
          refine lv_aload_n hx hb dX13_readNot_32 rfl (lv_at hl 0 rfl) ?_
          refine lv_dup hx hb dX13_readNot_33 rfl ?_
          refine mg_48 hC hH dX13_readNot_34 ?_
          obtain ⟨x_257, e_258, hF⟩ := prf_some hF
          refine gx_ti e_258 ?_
          refine lv_iconst (v := 1) hx hb dX13_readNot_37 (by decide) ?_
          refine lv_isub hx hb dX13_readNot_38 ?_
          obtain ⟨u_259, e_260, hF⟩ := pwf_some hF
          refine mp_48 hC hH e_260 dX13_readNot_39 (fun H locs hH => ?_)
          refine lv_aload_n hx hb dX13_readNot_42 rfl (lv_at hl 0 rfl) ?_
          refine lv_bipush (v := 6) hx hb dX13_readNot_43 (by decide) ?_
          obtain ⟨r_261, u_262, h_263, hF⟩ := pcl_some hF
          refine mcV_v (As := [.int 6]) (rest := []) hC hH (m_release l G Z Q u_259 u_262 r_261 6 _ h_263) kwX13_release kVX13_release ⟨by show _ ≤ 12 * (d + 1) + 20; omega, by show _ ≤ 140 * (d + 1) + 400; omega⟩ rfl hl.1 rfl (Nat.le_of_ble_eq_true rfl) dX13_readNot_45 (fun H locs hH => ?_)
          exact (prt_no2 hF).elim
def fP : Nat → Nat → Int32 → Int32 → Int32 → Int32 → PG (Option Int32)
  | 0, _, _, _, _, _ => fun _ => none
  | d + 1, w, a0, a1, a2, a3 => if w = 0 then bd_readOr (fP d) else if w = 1 then bd_readAnd (fP d) else bd_readNot (fP d)
theorem grpP (l : Launch) (G : gG) (Z : gM) (Q : Nat → Nat) : ∀ d : Nat, (∀ (u u1 : GS) (r : Int32) (sz : Nat), fP d 0 0 0 0 0 u = some (some r, u1) → Met l yX13_readOr (Cond.code yX13_readOr cX13_readOr 1 none :: wM) { frames := 12 * d + 20, cells := 0, slots := 0, locals := 140 * d + 400 } (va_Pc [.ref (Q 72)] (mPM G Z Q u.1 sz)) (mQv G Q u1.1 sz) 0 0 (mA Q sz)) ∧ (∀ (u u1 : GS) (sz : Nat), fP d 0 0 0 0 0 u = some (none, u1) → MetT l yX13_readOr (Cond.code yX13_readOr cX13_readOr 1 none :: wM) { frames := 12 * d + 20, cells := 0, slots := 0, locals := 140 * d + 400 } (va_Pc [.ref (Q 72)] (mPM G Z Q u.1 sz)) (mQt G Q u1.1 sz) 0 0 (mA Q sz)) ∧ (∀ (u u1 : GS) (r : Int32) (sz : Nat), fP d 1 0 0 0 0 u = some (some r, u1) → Met l yX13_readAnd (Cond.code yX13_readAnd cX13_readAnd 1 none :: wM) { frames := 12 * d + 20, cells := 0, slots := 0, locals := 140 * d + 400 } (va_Pc [.ref (Q 72)] (mPM G Z Q u.1 sz)) (mQv G Q u1.1 sz) 0 0 (mA Q sz)) ∧ (∀ (u u1 : GS) (sz : Nat), fP d 1 0 0 0 0 u = some (none, u1) → MetT l yX13_readAnd (Cond.code yX13_readAnd cX13_readAnd 1 none :: wM) { frames := 12 * d + 20, cells := 0, slots := 0, locals := 140 * d + 400 } (va_Pc [.ref (Q 72)] (mPM G Z Q u.1 sz)) (mQt G Q u1.1 sz) 0 0 (mA Q sz)) ∧ (∀ (u u1 : GS) (r : Int32) (sz : Nat), fP d 2 0 0 0 0 u = some (some r, u1) → Met l yX13_readNot (Cond.code yX13_readNot cX13_readNot 2 none :: wM) { frames := 12 * d + 20, cells := 0, slots := 0, locals := 140 * d + 400 } (va_Pc [.ref (Q 72)] (mPM G Z Q u.1 sz)) (mQv G Q u1.1 sz) 0 0 (mA Q sz)) ∧ (∀ (u u1 : GS) (sz : Nat), fP d 2 0 0 0 0 u = some (none, u1) → MetT l yX13_readNot (Cond.code yX13_readNot cX13_readNot 2 none :: wM) { frames := 12 * d + 20, cells := 0, slots := 0, locals := 140 * d + 400 } (va_Pc [.ref (Q 72)] (mPM G Z Q u.1 sz)) (mQt G Q u1.1 sz) 0 0 (mA Q sz)) := by
  intro d
  induction d with
  | zero => exact ⟨(fun u u1 r sz hF => by cases hF), (fun u u1 sz hF => by cases hF), (fun u u1 r sz hF => by cases hF), (fun u u1 sz hF => by cases hF), (fun u u1 r sz hF => by cases hF), (fun u u1 sz hF => by cases hF)⟩
  | succ d ih =>
    obtain ⟨i0, i1, i2, i3, i4, i5⟩ := ih
    exact ⟨(fun u u1 r sz hF => bm_readOr l G Z Q d (fP d) i0 i1 i2 i3 i4 i5 u u1 r  sz hF), (fun u u1 sz hF => bt_readOr l G Z Q d (fP d) i0 i1 i2 i3 i4 i5 u u1  sz hF), (fun u u1 r sz hF => bm_readAnd l G Z Q d (fP d) i0 i1 i2 i3 i4 i5 u u1 r  sz hF), (fun u u1 sz hF => bt_readAnd l G Z Q d (fP d) i0 i1 i2 i3 i4 i5 u u1  sz hF), (fun u u1 r sz hF => bm_readNot l G Z Q d (fP d) i0 i1 i2 i3 i4 i5 u u1 r  sz hF), (fun u u1 sz hF => bt_readNot l G Z Q d (fP d) i0 i1 i2 i3 i4 i5 u u1  sz hF)⟩
theorem m_readOr (l : Launch) (G : gG) (Z : gM) (Q : Nat → Nat) (u u1 : GS) (r : Int32) (sz : Nat) (hF : fP 32 0 0 0 0 0 u = some (some r, u1)) : Met l yX13_readOr (Cond.code yX13_readOr cX13_readOr 1 none :: wM) { frames := 404, cells := 0, slots := 0, locals := 4880 } (va_Pc [.ref (Q 72)] (mPM G Z Q u.1 sz)) (mQv G Q u1.1 sz) 0 0 (mA Q sz) := (grpP l G Z Q 32).1 u u1 r sz hF
theorem t_readOr (l : Launch) (G : gG) (Z : gM) (Q : Nat → Nat) (u u1 : GS) (sz : Nat) (hF : fP 32 0 0 0 0 0 u = some (none, u1)) : MetT l yX13_readOr (Cond.code yX13_readOr cX13_readOr 1 none :: wM) { frames := 404, cells := 0, slots := 0, locals := 4880 } (va_Pc [.ref (Q 72)] (mPM G Z Q u.1 sz)) (mQt G Q u1.1 sz) 0 0 (mA Q sz) := (grpP l G Z Q 32).2.1 u u1 sz hF
