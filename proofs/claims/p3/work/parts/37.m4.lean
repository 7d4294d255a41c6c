def f_wrong (a0 : Int32) (a1 : Int32) (u : MS) : Option (Int32 × MS) := lu (si u 49 a0) (fun u_1 => lu (si u_1 50 a1) (fun u_3 => some (0, u_3)))
set_option maxHeartbeats 4000000 in
set_option maxRecDepth 100000 in
theorem m_wrong (l : Launch) (G : gG) (Z : gM) (Q : Nat → Nat) (u u1 : MS) (r : Int32) (a0 : Int32) (a1 : Int32) (sz : Nat) (hF : f_wrong a0 a1 u = some (r, u1)) : Met l yX13_wrong (Cond.code yX13_wrong cX13_wrong 3 (some (.object "JudoHallModel$Stop")) :: wM) { frames := 0, cells := 0, slots := 0, locals := 0 } (va_Pc [.ref (Q 72), .int a0, .int a1] (mPM G Z Q u sz)) (mQr G Q u1 sz) 0 0 (mA Q sz) := by
  refine Met.ofW (cc := cX13_wrong) (maxL := 3) (ret := (some (.object "JudoHallModel$Stop"))) (by decide) rfl ?_
  intro p e s m args below meth c s₁ B hml hv
  obtain ⟨rfl, rfl, hP, hB, hD, hE⟩ := hv
  have hr := B.returns
  have hlocks := B.notSynchronized
  have hts := atoms_spec (ws := Cond.code yX13_wrong cX13_wrong 3 (some (.object "JudoHallModel$Stop")) :: wM) B.pre
  have hC : mX p c cX13_wrong 3 s m _ G Z Q := ⟨B.exec, B.bytes, hml, findClass_of_methodNamed B.named, fun w h => hts w (List.mem_cons_of_mem _ h), hB, hE⟩
  have hx := hC.1
  have hb := hC.2.1
  have hH : mH G Q u s s.heap [] := ⟨hP, hD, va_S.rf⟩
  have hl := lv_entry ([.ref (Q 72), .int a0, .int a1]) (n := 3) (Nat.le_of_ble_eq_true rfl)
  rw [lg_entry_eq]
  generalize (lg_sl ([.ref (Q 72), .int a0, .int a1]) ++ List.replicate (3 - (lg_sl ([.ref (Q 72), .int a0, .int a1])).length) Slot.unset).toArray = ls at hl ⊢
  have hl : lv_has ls 3 [(0, .ref (Q 72)), (1, .int a0), (2, .int a1)] := hl
  unfold f_wrong at hF
  refine lv_aload_n hx hb dX13_wrong_0 rfl (lv_at hl 0 rfl) ?_
  refine lv_iload_n hx hb dX13_wrong_1 rfl (lv_at hl 1 rfl) ?_
  obtain ⟨u_1, e_2, hF⟩ := lu_some hF
  refine mp_49 hC hH e_2 dX13_wrong_2 (fun H locs hH => ?_)
  refine lv_aload_n hx hb dX13_wrong_5 rfl (lv_at hl 0 rfl) ?_
  refine lv_iload_n hx hb dX13_wrong_6 rfl (lv_at hl 2 rfl) ?_
  obtain ⟨u_3, e_4, hF⟩ := lu_some hF
  refine mp_50 hC hH e_4 dX13_wrong_7 (fun H locs hH => ?_)
  refine lv_aload_n hx hb dX13_wrong_10 rfl (lv_at hl 0 rfl) ?_
  refine mg_39 hC hH dX13_wrong_11 ?_
  exact mr_r hC hH hr ⟨_, rfl⟩ hF dX13_wrong_14 hlocks
def lp_scan_0 : Nat → MS → (MS → Option (Int32 × MS)) → Option (Int32 × MS)
  | 0, _, _ => none
  | n0 + 1, u, K0_52 => (if (u.1 43) ≤ (u.1 45) then K0_52  u else og (gi (u.1 45) 3000) ((if (rz u (u.1 45)) = 32 then lu (si u 45 ((u.1 45) + 1)) (fun u_4 => lp_scan_0 n0  u_4 K0_52) else og (gi (u.1 45) 3000) ((if (rz u (u.1 45)) = 10 then lu (si u 45 ((u.1 45) + 1)) (fun u_8 => lp_scan_0 n0  u_8 K0_52) else K0_52  u)))))
def lp_scan_160 : Nat → Int32 → MS → (Int32 → MS → Option (Int32 × MS)) → Option (Int32 × MS)
  | 0, _, _, _ => none
  | n160 + 1, v1, u, K160_223 => ob (f_byteAt (u.1 45) u) (fun r_158 u_159 => ob (f_isDigit r_158 u_159) (fun r_161 u_162 => (if r_161 = 0 then K160_223 v1 u_162 else (if 4 ≤ ((u_162.1 45) - (u_162.1 44)) then lu (si u_162 45 ((u_162.1 45) + 1)) (fun u_166 => lp_scan_160 n160 v1 u_166 K160_223) else ob (f_byteAt (u_162.1 45) u_162) (fun r_168 u_169 => lu (si u_169 47 (((10 * (u_162.1 47)) + r_168) - 48)) (fun u_171 => lu (si u_171 45 ((u_171.1 45) + 1)) (fun u_173 => lp_scan_160 n160 v1 u_173 K160_223)))))))
def lp_scan_95 : Nat → Int32 → MS → (Int32 → MS → Option (Int32 × MS)) → Option (Int32 × MS)
  | 0, _, _, _ => none
  | n95 + 1, v1, u, K95_122 => ob (f_byteAt (u.1 45) u) (fun r_180 u_181 => ob (f_isLetter r_180 u_181) (fun r_183 u_184 => (if r_183 = 0 then K95_122 v1 u_184 else lu (si u_184 45 ((u_184.1 45) + 1)) (fun u_187 => lp_scan_95 n95 v1 u_187 K95_122))))
def f_scan  (u : MS) : Option (Int32 × MS) := lp_scan_0 fuel  u (fun  u => lu (si u 44 (u.1 45)) (fun u_10 => ob (f_byteAt (u_10.1 44) u_10) (fun r_12 u_13 => (if (u_13.1 44) = (u_13.1 43) then lu (si u_13 46 0) (fun u_194 => some (0, u_194)) else ob (f_isLetter r_12 u_13) (fun r_16 u_17 => (if r_16 = 0 then ob (f_isDigit r_12 u_17) (fun r_20 u_21 => (if r_20 = 0 then ob (f_byteAt ((u_21.1 44) + 1) u_21) (fun r_24 u_25 => (if r_24 = 61 then (if r_12 = 60 then (if (1 : Int32) = 0 then oi (fj_indexOf 0 ((r_12.toUInt32 % 65536).toInt32)) (fun r_62 => (if r_62 < 0 then lu (si u_25 46 4) (fun u_65 => (if (1 : Int32) = 0 then lu (si u_65 45 ((u_65.1 45) + 1)) (fun u_68 => some (0, u_68)) else lu (si u_65 45 ((u_65.1 45) + 2)) (fun u_70 => some (0, u_70)))) else lu (si u_25 46 3) (fun u_72 => (if (1 : Int32) = 0 then lu (si u_72 45 ((u_72.1 45) + 1)) (fun u_75 => some (0, u_75)) else lu (si u_72 45 ((u_72.1 45) + 2)) (fun u_77 => some (0, u_77)))))) else lu (si u_25 46 3) (fun u_55 => (if (1 : Int32) = 0 then lu (si u_55 45 ((u_55.1 45) + 1)) (fun u_58 => some (0, u_58)) else lu (si u_55 45 ((u_55.1 45) + 2)) (fun u_60 => some (0, u_60))))) else (if r_12 = 62 then (if (1 : Int32) = 0 then oi (fj_indexOf 0 ((r_12.toUInt32 % 65536).toInt32)) (fun r_88 => (if r_88 < 0 then lu (si u_25 46 4) (fun u_91 => (if (1 : Int32) = 0 then lu (si u_91 45 ((u_91.1 45) + 1)) (fun u_94 => some (0, u_94)) else lu (si u_91 45 ((u_91.1 45) + 2)) (fun u_96 => some (0, u_96)))) else lu (si u_25 46 3) (fun u_98 => (if (1 : Int32) = 0 then lu (si u_98 45 ((u_98.1 45) + 1)) (fun u_101 => some (0, u_101)) else lu (si u_98 45 ((u_98.1 45) + 2)) (fun u_103 => some (0, u_103)))))) else lu (si u_25 46 3) (fun u_81 => (if (1 : Int32) = 0 then lu (si u_81 45 ((u_81.1 45) + 1)) (fun u_84 => some (0, u_84)) else lu (si u_81 45 ((u_81.1 45) + 2)) (fun u_86 => some (0, u_86))))) else (if r_12 = 33 then (if (1 : Int32) = 0 then oi (fj_indexOf 0 ((r_12.toUInt32 % 65536).toInt32)) (fun r_139 => (if r_139 < 0 then lu (si u_25 46 4) (fun u_142 => (if (1 : Int32) = 0 then lu (si u_142 45 ((u_142.1 45) + 1)) (fun u_145 => some (0, u_145)) else lu (si u_142 45 ((u_142.1 45) + 2)) (fun u_147 => some (0, u_147)))) else lu (si u_25 46 3) (fun u_149 => (if (1 : Int32) = 0 then lu (si u_149 45 ((u_149.1 45) + 1)) (fun u_152 => some (0, u_152)) else lu (si u_149 45 ((u_149.1 45) + 2)) (fun u_154 => some (0, u_154)))))) else lu (si u_25 46 3) (fun u_132 => (if (1 : Int32) = 0 then lu (si u_132 45 ((u_132.1 45) + 1)) (fun u_135 => some (0, u_135)) else lu (si u_132 45 ((u_132.1 45) + 2)) (fun u_137 => some (0, u_137))))) else (if (0 : Int32) = 0 then oi (fj_indexOf 0 ((r_12.toUInt32 % 65536).toInt32)) (fun r_114 => (if r_114 < 0 then lu (si u_25 46 4) (fun u_117 => (if (0 : Int32) = 0 then lu (si u_117 45 ((u_117.1 45) + 1)) (fun u_120 => some (0, u_120)) else lu (si u_117 45 ((u_117.1 45) + 2)) (fun u_122 => some (0, u_122)))) else lu (si u_25 46 3) (fun u_124 => (if (0 : Int32) = 0 then lu (si u_124 45 ((u_124.1 45) + 1)) (fun u_127 => some (0, u_127)) else lu (si u_124 45 ((u_124.1 45) + 2)) (fun u_129 => some (0, u_129)))))) else lu (si u_25 46 3) (fun u_107 => (if (0 : Int32) = 0 then lu (si u_107 45 ((u_107.1 45) + 1)) (fun u_110 => some (0, u_110)) else lu (si u_107 45 ((u_107.1 45) + 2)) (fun u_112 => some (0, u_112)))))))) else (if (0 : Int32) = 0 then oi (fj_indexOf 0 ((r_12.toUInt32 % 65536).toInt32)) (fun r_36 => (if r_36 < 0 then lu (si u_25 46 4) (fun u_39 => (if (0 : Int32) = 0 then lu (si u_39 45 ((u_39.1 45) + 1)) (fun u_42 => some (0, u_42)) else lu (si u_39 45 ((u_39.1 45) + 2)) (fun u_44 => some (0, u_44)))) else lu (si u_25 46 3) (fun u_46 => (if (0 : Int32) = 0 then lu (si u_46 45 ((u_46.1 45) + 1)) (fun u_49 => some (0, u_49)) else lu (si u_46 45 ((u_46.1 45) + 2)) (fun u_51 => some (0, u_51)))))) else lu (si u_25 46 3) (fun u_29 => (if (0 : Int32) = 0 then lu (si u_29 45 ((u_29.1 45) + 1)) (fun u_32 => some (0, u_32)) else lu (si u_29 45 ((u_29.1 45) + 2)) (fun u_34 => some (0, u_34))))))) else lu (si u_21 47 0) (fun u_156 => lp_scan_160 fuel r_12 u_156 (fun v1 u => (if ((u.1 45) - (u.1 44)) ≤ 4 then lu (si u 46 2) (fun u_176 => some (0, u_176)) else lu (si u 46 4) (fun u_178 => some (0, u_178))))))) else lp_scan_95 fuel r_12 u_17 (fun v1 u => (if ((u.1 45) - (u.1 44)) ≤ 10 then lu (si u 46 1) (fun u_190 => some (0, u_190)) else lu (si u 46 4) (fun u_192 => some (0, u_192))))))))))
set_option maxHeartbeats 4000000 in
set_option maxRecDepth 100000 in
theorem m_scan (l : Launch) (G : gG) (Z : gM) (Q : Nat → Nat) (u u1 : MS) (r : Int32)  (sz : Nat) (hF : f_scan u = some (r, u1)) : Met l yX13_scan (Cond.code yX13_scan cX13_scan 3 none :: wM) { frames := 4, cells := 0, slots := 0, locals := 91 } (va_Pc [.ref (Q 72)] (mPM G Z Q u sz)) (mQv G Q u1 sz) 0 0 (mA Q sz) := by
  refine Met.ofW (cc := cX13_scan) (maxL := 3) (ret := none) (by decide) rfl ?_
  intro p e s m args below meth c s₁ B hml hv
  obtain ⟨rfl, rfl, hP, hB, hD, hE⟩ := hv
  have hr := B.returns
  have hlocks := B.notSynchronized
  have hts := atoms_spec (ws := Cond.code yX13_scan cX13_scan 3 none :: wM) B.pre
  have hC : mX p c cX13_scan 3 s m _ G Z Q := ⟨B.exec, B.bytes, hml, findClass_of_methodNamed B.named, fun w h => hts w (List.mem_cons_of_mem _ h), hB, hE⟩
  have hx := hC.1
  have hb := hC.2.1
  have hH : mH G Q u s s.heap [] := ⟨hP, hD, va_S.rf⟩
  have hl := lv_entry ([.ref (Q 72)]) (n := 3) (Nat.le_of_ble_eq_true rfl)
  rw [lg_entry_eq]
  generalize (lg_sl ([.ref (Q 72)]) ++ List.replicate (3 - (lg_sl ([.ref (Q 72)])).length) Slot.unset).toArray = ls at hl ⊢
  have hl : lv_has ls 3 [(0, .ref (Q 72))] := hl
  unfold f_scan at hF
  have hL0 : ∀ (K0_52 : MS → Option (Int32 × MS)), (∀ (u : MS) (H : Heap) (locs : List Loc) (ls : Array Slot), lv_has ls 3 [(0, .ref (Q 72))] → mH G Q u s H locs → K0_52  u = some ((r, u1)) → W p l e (headSpec (Cond.code yX13_scan cX13_scan 3 none :: wM) { frames := 4, cells := 0, slots := 0, locals := 91 }).room s m [.ref (Q 72)].toArray below meth c H locs 0 0 (MQ below (mQv G Q u1 s.heap.size) [.ref (Q 72)].toArray s 0 0 (mA Q s.heap.size)) (F0 m 52 ls [])) → ∀ (n0 : Nat) (u : MS) (H : Heap) (locs : List Loc) (ls : Array Slot), lv_has ls 3 [(0, .ref (Q 72))] → mH G Q u s H locs → lp_scan_0 n0  u K0_52 = some ((r, u1)) → W p l e (headSpec (Cond.code yX13_scan cX13_scan 3 none :: wM) { frames := 4, cells := 0, slots := 0, locals := 91 }).room s m [.ref (Q 72)].toArray below meth c H locs 0 0 (MQ below (mQv G Q u1 s.heap.size) [.ref (Q 72)].toArray s 0 0 (mA Q s.heap.size)) (F0 m 0 ls []) := by
    intro K0_52 hK0_52 n0
    induction n0 with
    | zero => intro  u H locs ls hl hH hF; cases hF
    | succ n0 ih0 =>
      intro  u H locs ls hl hH hF
      unfold lp_scan_0 at hF
      refine lv_aload_n hx hb dX13_scan_0 rfl (lv_at hl 0 rfl) ?_
      refine mg_45 hC hH dX13_scan_1 ?_
      refine lv_aload_n hx hb dX13_scan_4 rfl (lv_at hl 0 rfl) ?_
      refine mg_43 hC hH dX13_scan_5 ?_
      refine lv_icmp_ge (tgt := 52) hx hb dX13_scan_8 (by decide) (fun c_1 => ?_) (fun c_1 => ?_)
      · rw [if_pos c_1] at hF
        exact hK0_52  u _ _ _ (lv_sub hl [0] rfl) hH hF
      · rw [if_neg c_1] at hF
        refine lv_aload_n hx hb dX13_scan_11 rfl (lv_at hl 0 rfl) ?_
        refine mg_41 hC hH dX13_scan_12 ?_
        refine lv_aload_n hx hb dX13_scan_15 rfl (lv_at hl 0 rfl) ?_
        refine mg_45 hC hH dX13_scan_16 ?_
        obtain ⟨g_2, hF⟩ := og_some hF
        refine ml_src hC hH g_2 dX13_scan_19 ?_
        refine lv_bipush (v := 32) hx hb dX13_scan_20 (by decide) ?_
        refine lv_icmp_eq (tgt := 39) hx hb dX13_scan_22 (by decide) (fun c_3 => ?_) (fun c_3 => ?_)
        · rw [if_pos c_3] at hF
          refine lv_aload_n hx hb dX13_scan_39 rfl (lv_at hl 0 rfl) ?_
          refine lv_dup hx hb dX13_scan_40 rfl ?_
          refine mg_45 hC hH dX13_scan_41 ?_
          refine lv_iconst (v := 1) hx hb dX13_scan_44 (by decide) ?_
          refine lv_iadd hx hb dX13_scan_45 ?_
          obtain ⟨u_4, e_5, hF⟩ := lu_some hF
          refine mp_45 hC hH e_5 dX13_scan_46 (fun H locs hH => ?_)
          refine lv_goto (tgt := 0) hx hb dX13_scan_49 (by decide) ?_
          exact ih0  u_4 _ _ _ (lv_sub hl [0] rfl) hH hF
        · rw [if_neg c_3] at hF
          refine lv_aload_n hx hb dX13_scan_25 rfl (lv_at hl 0 rfl) ?_
          refine mg_41 hC hH dX13_scan_26 ?_
          refine lv_aload_n hx hb dX13_scan_29 rfl (lv_at hl 0 rfl) ?_
          refine mg_45 hC hH dX13_scan_30 ?_
          obtain ⟨g_6, hF⟩ := og_some hF
          refine ml_src hC hH g_6 dX13_scan_33 ?_
          refine lv_bipush (v := 10) hx hb dX13_scan_34 (by decide) ?_
          refine lv_icmp_ne (tgt := 52) hx hb dX13_scan_36 (by decide) (fun c_7 => ?_) (fun c_7 => ?_)
          · rw [if_neg c_7] at hF
            exact hK0_52  u _ _ _ (lv_sub hl [0] rfl) hH hF
          · rw [if_pos c_7] at hF
            refine lv_aload_n hx hb dX13_scan_39 rfl (lv_at hl 0 rfl) ?_
            refine lv_dup hx hb dX13_scan_40 rfl ?_
            refine mg_45 hC hH dX13_scan_41 ?_
            refine lv_iconst (v := 1) hx hb dX13_scan_44 (by decide) ?_
            refine lv_iadd hx hb dX13_scan_45 ?_
            obtain ⟨u_8, e_9, hF⟩ := lu_some hF
            refine mp_45 hC hH e_9 dX13_scan_46 (fun H locs hH => ?_)
            refine lv_goto (tgt := 0) hx hb dX13_scan_49 (by decide) ?_
            exact ih0  u_8 _ _ _ (lv_sub hl [0] rfl) hH hF
  refine hL0 _ (fun  u H locs ls hl hH hF => ?_) fuel  u _ _ _ (lv_sub hl [0] rfl) hH hF
  refine lv_aload_n hx hb dX13_scan_52 rfl (lv_at hl 0 rfl) ?_
  refine lv_aload_n hx hb dX13_scan_53 rfl (lv_at hl 0 rfl) ?_
  refine mg_45 hC hH dX13_scan_54 ?_
  obtain ⟨u_10, e_11, hF⟩ := lu_some hF
  refine mp_44 hC hH e_11 dX13_scan_57 (fun H locs hH => ?_)
  refine lv_aload_n hx hb dX13_scan_60 rfl (lv_at hl 0 rfl) ?_
  refine lv_aload_n hx hb dX13_scan_61 rfl (lv_at hl 0 rfl) ?_
  refine mg_44 hC hH dX13_scan_62 ?_
  obtain ⟨r_12, u_13, h_14, hF⟩ := ob_some hF
  refine mcV_i (As := [.int (u_10.1 44)]) (rest := []) hC hH (m_byteAt l G Z Q u_10 u_13 r_12 (u_10.1 44) _ h_14) kwX13_byteAt kVX13_byteAt ⟨Nat.le_of_ble_eq_true rfl, Nat.le_of_ble_eq_true rfl⟩ rfl hl.1 rfl (Nat.le_of_ble_eq_true rfl) dX13_scan_65 (fun H locs hH => ?_)
  refine lv_istore_n (lv' := [(1, .int r_12), (0, .ref (Q 72))]) hx hb dX13_scan_68 rfl hl (by decide) rfl (fun ls hl => ?_)
  refine lv_aload_n hx hb dX13_scan_69 rfl (lv_at hl 1 rfl) ?_
  refine mg_44 hC hH dX13_scan_70 ?_
  refine lv_aload_n hx hb dX13_scan_73 rfl (lv_at hl 1 rfl) ?_
  refine mg_43 hC hH dX13_scan_74 ?_
  refine lv_icmp_ne (tgt := 88) hx hb dX13_scan_77 (by decide) (fun c_15 => ?_) (fun c_15 => ?_)
  · rw [if_neg c_15] at hF
    refine lv_iload_n hx hb dX13_scan_88 rfl (lv_at hl 0 rfl) ?_
    obtain ⟨r_16, u_17, h_18, hF⟩ := ob_some hF
    refine mcS_i (As := [.int r_12]) (rest := []) hC hH (m_isLetter l G Z Q u_13 u_17 r_16 r_12 _ h_18) kwX13_isLetter kVX13_isLetter ⟨Nat.le_of_ble_eq_true rfl, Nat.le_of_ble_eq_true rfl⟩ rfl hl.1 rfl (Nat.le_of_ble_eq_true rfl) dX13_scan_89 (fun H locs hH => ?_)
    refine lv_if_eq (tgt := 148) hx hb dX13_scan_92 (by decide) (fun c_19 => ?_) (fun c_19 => ?_)
    · rw [if_pos c_19] at hF
      refine lv_iload_n hx hb dX13_scan_148 rfl (lv_at hl 0 rfl) ?_
      obtain ⟨r_20, u_21, h_22, hF⟩ := ob_some hF
      refine mcS_i (As := [.int r_12]) (rest := []) hC hH (m_isDigit l G Z Q u_17 u_21 r_20 r_12 _ h_22) kwX13_isDigit kVX13_isDigit ⟨Nat.le_of_ble_eq_true rfl, Nat.le_of_ble_eq_true rfl⟩ rfl hl.1 rfl (Nat.le_of_ble_eq_true rfl) dX13_scan_149 (fun H locs hH => ?_)
      refine lv_if_eq (tgt := 248) hx hb dX13_scan_152 (by decide) (fun c_23 => ?_) (fun c_23 => ?_)
      · rw [if_pos c_23] at hF
        refine lv_aload_n hx hb dX13_scan_248 rfl (lv_at hl 1 rfl) ?_
        refine lv_aload_n hx hb dX13_scan_249 rfl (lv_at hl 1 rfl) ?_
        refine mg_44 hC hH dX13_scan_250 ?_
        refine lv_iconst (v := 1) hx hb dX13_scan_253 (by decide) ?_
        refine lv_iadd hx hb dX13_scan_254 ?_
        obtain ⟨r_24, u_25, h_26, hF⟩ := ob_some hF
        refine mcV_i (As := [.int ((u_21.1 44) + 1)]) (rest := []) hC hH (m_byteAt l G Z Q u_21 u_25 r_24 ((u_21.1 44) + 1) _ h_26) kwX13_byteAt kVX13_byteAt ⟨Nat.le_of_ble_eq_true rfl, Nat.le_of_ble_eq_true rfl⟩ rfl hl.1 rfl (Nat.le_of_ble_eq_true rfl) dX13_scan_255 (fun H locs hH => ?_)
        refine lv_bipush (v := 61) hx hb dX13_scan_258 (by decide) ?_
        refine lv_icmp_ne (tgt := 285) hx hb dX13_scan_260 (by decide) (fun c_27 => ?_) (fun c_27 => ?_)
        · rw [if_neg c_27] at hF
          refine lv_iconst (v := 0) hx hb dX13_scan_285 (by decide) ?_
          refine lv_istore_n (lv' := [(2, .int 0), (1, .int r_12), (0, .ref (Q 72))]) hx hb dX13_scan_286 rfl hl (by decide) rfl (fun ls hl => ?_)
          refine lv_aload_n hx hb dX13_scan_287 rfl (lv_at hl 2 rfl) ?_
          refine lv_iload_n hx hb dX13_scan_288 rfl (lv_at hl 0 rfl) ?_
          refine lv_if_ne (tgt := 303) hx hb dX13_scan_289 (by decide) (fun c_28 => ?_) (fun c_28 => ?_)
          · rw [if_neg c_28] at hF
            refine lv_iconst (v := 3) hx hb dX13_scan_303 (by decide) ?_
            refine lv_goto (tgt := 308) hx hb dX13_scan_304 (by decide) ?_
            obtain ⟨u_29, e_30, hF⟩ := lu_some hF
            refine mp_46 hC hH e_30 dX13_scan_308 (fun H locs hH => ?_)
            refine lv_aload_n hx hb dX13_scan_311 rfl (lv_at hl 2 rfl) ?_
            refine lv_dup hx hb dX13_scan_312 rfl ?_
            refine mg_45 hC hH dX13_scan_313 ?_
            refine lv_iload_n hx hb dX13_scan_316 rfl (lv_at hl 0 rfl) ?_
            refine lv_if_eq (tgt := 324) hx hb dX13_scan_317 (by decide) (fun c_31 => ?_) (fun c_31 => ?_)
            · rw [if_pos c_31] at hF
              refine lv_iconst (v := 1) hx hb dX13_scan_324 (by decide) ?_
              refine lv_iadd hx hb dX13_scan_325 ?_
              obtain ⟨u_32, e_33, hF⟩ := lu_some hF
              refine mp_45 hC hH e_33 dX13_scan_326 (fun H locs hH => ?_)
              exact mr_v hC hH hr hF dX13_scan_329 hlocks
            · rw [if_neg c_31] at hF
              refine lv_iconst (v := 2) hx hb dX13_scan_320 (by decide) ?_
              refine lv_goto (tgt := 325) hx hb dX13_scan_321 (by decide) ?_
              refine lv_iadd hx hb dX13_scan_325 ?_
              obtain ⟨u_34, e_35, hF⟩ := lu_some hF
              refine mp_45 hC hH e_35 dX13_scan_326 (fun H locs hH => ?_)
              exact mr_v hC hH hr hF dX13_scan_329 hlocks
          · rw [if_pos c_28] at hF
            refine th_ldcw (tx := sTx 0) hx hb hC.2.2.2.1 (hC.2.2.2.2.2.2.2.2.1 0 (by decide)) dX13_scan_292 ?_
            refine lv_iload_n hx hb dX13_scan_295 rfl (lv_at hl 1 rfl) ?_
            refine lv_i2c (v := (r_12.toUInt32 % 65536).toInt32) hx hb dX13_scan_296 rfl ?_
            obtain ⟨r_36, h_37, hF⟩ := oi_some hF
            refine mcJ (As := [.int ((r_12.toUInt32 % 65536).toInt32)]) (rest := [.ref (Q 72)]) hC hH (by decide) (j_indexOf l Z (mA Q s.heap.size) 0 ((r_12.toUInt32 % 65536).toInt32) r_36 (by decide) h_37) ⟨wj49, wma84, wj52, wj53, wj7⟩ kVJ0_indexOf_0f7a4 ⟨Nat.le_of_ble_eq_true rfl, Nat.le_of_ble_eq_true rfl⟩ rfl hl.1 rfl (Nat.le_of_ble_eq_true rfl) dX13_scan_297 ?_
            refine lv_if_lt (tgt := 307) hx hb dX13_scan_300 (by decide) (fun c_38 => ?_) (fun c_38 => ?_)
            · rw [if_pos c_38] at hF
              refine lv_iconst (v := 4) hx hb dX13_scan_307 (by decide) ?_
              obtain ⟨u_39, e_40, hF⟩ := lu_some hF
              refine mp_46 hC hH e_40 dX13_scan_308 (fun H locs hH => ?_)
              refine lv_aload_n hx hb dX13_scan_311 rfl (lv_at hl 2 rfl) ?_
              refine lv_dup hx hb dX13_scan_312 rfl ?_
              refine mg_45 hC hH dX13_scan_313 ?_
              refine lv_iload_n hx hb dX13_scan_316 rfl (lv_at hl 0 rfl) ?_
              refine lv_if_eq (tgt := 324) hx hb dX13_scan_317 (by decide) (fun c_41 => ?_) (fun c_41 => ?_)
              · rw [if_pos c_41] at hF
                refine lv_iconst (v := 1) hx hb dX13_scan_324 (by decide) ?_
                refine lv_iadd hx hb dX13_scan_325 ?_
                obtain ⟨u_42, e_43, hF⟩ := lu_some hF
                refine mp_45 hC hH e_43 dX13_scan_326 (fun H locs hH => ?_)
                exact mr_v hC hH hr hF dX13_scan_329 hlocks
              · rw [if_neg c_41] at hF
                refine lv_iconst (v := 2) hx hb dX13_scan_320 (by decide) ?_
                refine lv_goto (tgt := 325) hx hb dX13_scan_321 (by decide) ?_
                refine lv_iadd hx hb dX13_scan_325 ?_
                obtain ⟨u_44, e_45, hF⟩ := lu_some hF
                refine mp_45 hC hH e_45 dX13_scan_326 (fun H locs hH => ?_)
                exact mr_v hC hH hr hF dX13_scan_329 hlocks
            · rw [if_neg c_38] at hF
              refine lv_iconst (v := 3) hx hb dX13_scan_303 (by decide) ?_
              refine lv_goto (tgt := 308) hx hb dX13_scan_304 (by decide) ?_
              obtain ⟨u_46, e_47, hF⟩ := lu_some hF
              refine mp_46 hC hH e_47 dX13_scan_308 (fun H locs hH => ?_)
              refine lv_aload_n hx hb dX13_scan_311 rfl (lv_at hl 2 rfl) ?_
              refine lv_dup hx hb dX13_scan_312 rfl ?_
              refine mg_45 hC hH dX13_scan_313 ?_
              refine lv_iload_n hx hb dX13_scan_316 rfl (lv_at hl 0 rfl) ?_
              refine lv_if_eq (tgt := 324) hx hb dX13_scan_317 (by decide) (fun c_48 => ?_) (fun c_48 => ?_)
              · rw [if_pos c_48] at hF
                refine lv_iconst (v := 1) hx hb dX13_scan_324 (by decide) ?_
                refine lv_iadd hx hb dX13_scan_325 ?_
                obtain ⟨u_49, e_50, hF⟩ := lu_some hF
                refine mp_45 hC hH e_50 dX13_scan_326 (fun H locs hH => ?_)
                exact mr_v hC hH hr hF dX13_scan_329 hlocks
              · rw [if_neg c_48] at hF
                refine lv_iconst (v := 2) hx hb dX13_scan_320 (by decide) ?_
                refine lv_goto (tgt := 325) hx hb dX13_scan_321 (by decide) ?_
                refine lv_iadd hx hb dX13_scan_325 ?_
                obtain ⟨u_51, e_52, hF⟩ := lu_some hF
                refine mp_45 hC hH e_52 dX13_scan_326 (fun H locs hH => ?_)
                exact mr_v hC hH hr hF dX13_scan_329 hlocks
        · rw [if_pos c_27] at hF
          refine lv_iload_n hx hb dX13_scan_263 rfl (lv_at hl 0 rfl) ?_
          refine lv_bipush (v := 60) hx hb dX13_scan_264 (by decide) ?_
          refine lv_icmp_eq (tgt := 281) hx hb dX13_scan_266 (by decide) (fun c_53 => ?_) (fun c_53 => ?_)
          · rw [if_pos c_53] at hF
            refine lv_iconst (v := 1) hx hb dX13_scan_281 (by decide) ?_
            refine lv_goto (tgt := 286) hx hb dX13_scan_282 (by decide) ?_
            refine lv_istore_n (lv' := [(2, .int 1), (1, .int r_12), (0, .ref (Q 72))]) hx hb dX13_scan_286 rfl hl (by decide) rfl (fun ls hl => ?_)
            refine lv_aload_n hx hb dX13_scan_287 rfl (lv_at hl 2 rfl) ?_
            refine lv_iload_n hx hb dX13_scan_288 rfl (lv_at hl 0 rfl) ?_
            refine lv_if_ne (tgt := 303) hx hb dX13_scan_289 (by decide) (fun c_54 => ?_) (fun c_54 => ?_)
            · rw [if_neg c_54] at hF
              refine lv_iconst (v := 3) hx hb dX13_scan_303 (by decide) ?_
              refine lv_goto (tgt := 308) hx hb dX13_scan_304 (by decide) ?_
              obtain ⟨u_55, e_56, hF⟩ := lu_some hF
              refine mp_46 hC hH e_56 dX13_scan_308 (fun H locs hH => ?_)
              refine lv_aload_n hx hb dX13_scan_311 rfl (lv_at hl 2 rfl) ?_
              refine lv_dup hx hb dX13_scan_312 rfl ?_
              refine mg_45 hC hH dX13_scan_313 ?_
              refine lv_iload_n hx hb dX13_scan_316 rfl (lv_at hl 0 rfl) ?_
              refine lv_if_eq (tgt := 324) hx hb dX13_scan_317 (by decide) (fun c_57 => ?_) (fun c_57 => ?_)
              · rw [if_pos c_57] at hF
                refine lv_iconst (v := 1) hx hb dX13_scan_324 (by decide) ?_
                refine lv_iadd hx hb dX13_scan_325 ?_
                obtain ⟨u_58, e_59, hF⟩ := lu_some hF
                refine mp_45 hC hH e_59 dX13_scan_326 (fun H locs hH => ?_)
                exact mr_v hC hH hr hF dX13_scan_329 hlocks
              · rw [if_neg c_57] at hF
                refine lv_iconst (v := 2) hx hb dX13_scan_320 (by decide) ?_
                refine lv_goto (tgt := 325) hx hb dX13_scan_321 (by decide) ?_
                refine lv_iadd hx hb dX13_scan_325 ?_
                obtain ⟨u_60, e_61, hF⟩ := lu_some hF
                refine mp_45 hC hH e_61 dX13_scan_326 (fun H locs hH => ?_)
                exact mr_v hC hH hr hF dX13_scan_329 hlocks
            · rw [if_pos c_54] at hF
              refine th_ldcw (tx := sTx 0) hx hb hC.2.2.2.1 (hC.2.2.2.2.2.2.2.2.1 0 (by decide)) dX13_scan_292 ?_
              refine lv_iload_n hx hb dX13_scan_295 rfl (lv_at hl 1 rfl) ?_
              refine lv_i2c (v := (r_12.toUInt32 % 65536).toInt32) hx hb dX13_scan_296 rfl ?_
              obtain ⟨r_62, h_63, hF⟩ := oi_some hF
              refine mcJ (As := [.int ((r_12.toUInt32 % 65536).toInt32)]) (rest := [.ref (Q 72)]) hC hH (by decide) (j_indexOf l Z (mA Q s.heap.size) 0 ((r_12.toUInt32 % 65536).toInt32) r_62 (by decide) h_63) ⟨wj49, wma84, wj52, wj53, wj7⟩ kVJ0_indexOf_0f7a4 ⟨Nat.le_of_ble_eq_true rfl, Nat.le_of_ble_eq_true rfl⟩ rfl hl.1 rfl (Nat.le_of_ble_eq_true rfl) dX13_scan_297 ?_
              refine lv_if_lt (tgt := 307) hx hb dX13_scan_300 (by decide) (fun c_64 => ?_) (fun c_64 => ?_)
              · rw [if_pos c_64] at hF
                refine lv_iconst (v := 4) hx hb dX13_scan_307 (by decide) ?_
                obtain ⟨u_65, e_66, hF⟩ := lu_some hF
                refine mp_46 hC hH e_66 dX13_scan_308 (fun H locs hH => ?_)
                refine lv_aload_n hx hb dX13_scan_311 rfl (lv_at hl 2 rfl) ?_
                refine lv_dup hx hb dX13_scan_312 rfl ?_
                refine mg_45 hC hH dX13_scan_313 ?_
                refine lv_iload_n hx hb dX13_scan_316 rfl (lv_at hl 0 rfl) ?_
                refine lv_if_eq (tgt := 324) hx hb dX13_scan_317 (by decide) (fun c_67 => ?_) (fun c_67 => ?_)
                · rw [if_pos c_67] at hF
                  refine lv_iconst (v := 1) hx hb dX13_scan_324 (by decide) ?_
                  refine lv_iadd hx hb dX13_scan_325 ?_
                  obtain ⟨u_68, e_69, hF⟩ := lu_some hF
                  refine mp_45 hC hH e_69 dX13_scan_326 (fun H locs hH => ?_)
                  exact mr_v hC hH hr hF dX13_scan_329 hlocks
                · rw [if_neg c_67] at hF
                  refine lv_iconst (v := 2) hx hb dX13_scan_320 (by decide) ?_
                  refine lv_goto (tgt := 325) hx hb dX13_scan_321 (by decide) ?_
                  refine lv_iadd hx hb dX13_scan_325 ?_
                  obtain ⟨u_70, e_71, hF⟩ := lu_some hF
                  refine mp_45 hC hH e_71 dX13_scan_326 (fun H locs hH => ?_)
                  exact mr_v hC hH hr hF dX13_scan_329 hlocks
              · rw [if_neg c_64] at hF
                refine lv_iconst (v := 3) hx hb dX13_scan_303 (by decide) ?_
                refine lv_goto (tgt := 308) hx hb dX13_scan_304 (by decide) ?_
                obtain ⟨u_72, e_73, hF⟩ := lu_some hF
                refine mp_46 hC hH e_73 dX13_scan_308 (fun H locs hH => ?_)
                refine lv_aload_n hx hb dX13_scan_311 rfl (lv_at hl 2 rfl) ?_
                refine lv_dup hx hb dX13_scan_312 rfl ?_
                refine mg_45 hC hH dX13_scan_313 ?_
                refine lv_iload_n hx hb dX13_scan_316 rfl (lv_at hl 0 rfl) ?_
                refine lv_if_eq (tgt := 324) hx hb dX13_scan_317 (by decide) (fun c_74 => ?_) (fun c_74 => ?_)
                · rw [if_pos c_74] at hF
                  refine lv_iconst (v := 1) hx hb dX13_scan_324 (by decide) ?_
                  refine lv_iadd hx hb dX13_scan_325 ?_
                  obtain ⟨u_75, e_76, hF⟩ := lu_some hF
                  refine mp_45 hC hH e_76 dX13_scan_326 (fun H locs hH => ?_)
                  exact mr_v hC hH hr hF dX13_scan_329 hlocks
                · rw [if_neg c_74] at hF
                  refine lv_iconst (v := 2) hx hb dX13_scan_320 (by decide) ?_
                  refine lv_goto (tgt := 325) hx hb dX13_scan_321 (by decide) ?_
                  refine lv_iadd hx hb dX13_scan_325 ?_
                  obtain ⟨u_77, e_78, hF⟩ := lu_some hF
                  refine mp_45 hC hH e_78 dX13_scan_326 (fun H locs hH => ?_)
                  exact mr_v hC hH hr hF dX13_scan_329 hlocks
          · rw [if_neg c_53] at hF
            refine lv_iload_n hx hb dX13_scan_269 rfl (lv_at hl 0 rfl) ?_
            refine lv_bipush (v := 62) hx hb dX13_scan_270 (by decide) ?_
            refine lv_icmp_eq (tgt := 281) hx hb dX13_scan_272 (by decide) (fun c_79 => ?_) (fun c_79 => ?_)
            · rw [if_pos c_79] at hF
              refine lv_iconst (v := 1) hx hb dX13_scan_281 (by decide) ?_
              refine lv_goto (tgt := 286) hx hb dX13_scan_282 (by decide) ?_
              refine lv_istore_n (lv' := [(2, .int 1), (1, .int r_12), (0, .ref (Q 72))]) hx hb dX13_scan_286 rfl hl (by decide) rfl (fun ls hl => ?_)
              refine lv_aload_n hx hb dX13_scan_287 rfl (lv_at hl 2 rfl) ?_
              refine lv_iload_n hx hb dX13_scan_288 rfl (lv_at hl 0 rfl) ?_
              refine lv_if_ne (tgt := 303) hx hb dX13_scan_289 (by decide) (fun c_80 => ?_) (fun c_80 => ?_)
              · rw [if_neg c_80] at hF
                refine lv_iconst (v := 3) hx hb dX13_scan_303 (by decide) ?_
                refine lv_goto (tgt := 308) hx hb dX13_scan_304 (by decide) ?_
                obtain ⟨u_81, e_82, hF⟩ := lu_some hF
                refine mp_46 hC hH e_82 dX13_scan_308 (fun H locs hH => ?_)
                refine lv_aload_n hx hb dX13_scan_311 rfl (lv_at hl 2 rfl) ?_
                refine lv_dup hx hb dX13_scan_312 rfl ?_
                refine mg_45 hC hH dX13_scan_313 ?_
                refine lv_iload_n hx hb dX13_scan_316 rfl (lv_at hl 0 rfl) ?_
                refine lv_if_eq (tgt := 324) hx hb dX13_scan_317 (by decide) (fun c_83 => ?_) (fun c_83 => ?_)
                · rw [if_pos c_83] at hF
                  refine lv_iconst (v := 1) hx hb dX13_scan_324 (by decide) ?_
                  refine lv_iadd hx hb dX13_scan_325 ?_
                  obtain ⟨u_84, e_85, hF⟩ := lu_some hF
                  refine mp_45 hC hH e_85 dX13_scan_326 (fun H locs hH => ?_)
                  exact mr_v hC hH hr hF dX13_scan_329 hlocks
                · rw [if_neg c_83] at hF
                  refine lv_iconst (v := 2) hx hb dX13_scan_320 (by decide) ?_
                  refine lv_goto (tgt := 325) hx hb dX13_scan_321 (by decide) ?_
                  refine lv_iadd hx hb dX13_scan_325 ?_
                  obtain ⟨u_86, e_87, hF⟩ := lu_some hF
                  refine mp_45 hC hH e_87 dX13_scan_326 (fun H locs hH => ?_)
                  exact mr_v hC hH hr hF dX13_scan_329 hlocks
              · rw [if_pos c_80] at hF
                refine th_ldcw (tx := sTx 0) hx hb hC.2.2.2.1 (hC.2.2.2.2.2.2.2.2.1 0 (by decide)) dX13_scan_292 ?_
                refine lv_iload_n hx hb dX13_scan_295 rfl (lv_at hl 1 rfl) ?_
                refine lv_i2c (v := (r_12.toUInt32 % 65536).toInt32) hx hb dX13_scan_296 rfl ?_
                obtain ⟨r_88, h_89, hF⟩ := oi_some hF
                refine mcJ (As := [.int ((r_12.toUInt32 % 65536).toInt32)]) (rest := [.ref (Q 72)]) hC hH (by decide) (j_indexOf l Z (mA Q s.heap.size) 0 ((r_12.toUInt32 % 65536).toInt32) r_88 (by decide) h_89) ⟨wj49, wma84, wj52, wj53, wj7⟩ kVJ0_indexOf_0f7a4 ⟨Nat.le_of_ble_eq_true rfl, Nat.le_of_ble_eq_true rfl⟩ rfl hl.1 rfl (Nat.le_of_ble_eq_true rfl) dX13_scan_297 ?_
                refine lv_if_lt (tgt := 307) hx hb dX13_scan_300 (by decide) (fun c_90 => ?_) (fun c_90 => ?_)
                · rw [if_pos c_90] at hF
                  refine lv_iconst (v := 4) hx hb dX13_scan_307 (by decide) ?_
                  obtain ⟨u_91, e_92, hF⟩ := lu_some hF
                  refine mp_46 hC hH e_92 dX13_scan_308 (fun H locs hH => ?_)
                  refine lv_aload_n hx hb dX13_scan_311 rfl (lv_at hl 2 rfl) ?_
                  refine lv_dup hx hb dX13_scan_312 rfl ?_
                  refine mg_45 hC hH dX13_scan_313 ?_
                  refine lv_iload_n hx hb dX13_scan_316 rfl (lv_at hl 0 rfl) ?_
                  refine lv_if_eq (tgt := 324) hx hb dX13_scan_317 (by decide) (fun c_93 => ?_) (fun c_93 => ?_)
                  · rw [if_pos c_93] at hF
                    refine lv_iconst (v := 1) hx hb dX13_scan_324 (by decide) ?_
                    refine lv_iadd hx hb dX13_scan_325 ?_
                    obtain ⟨u_94, e_95, hF⟩ := lu_some hF
                    refine mp_45 hC hH e_95 dX13_scan_326 (fun H locs hH => ?_)
                    exact mr_v hC hH hr hF dX13_scan_329 hlocks
                  · rw [if_neg c_93] at hF
                    refine lv_iconst (v := 2) hx hb dX13_scan_320 (by decide) ?_
                    refine lv_goto (tgt := 325) hx hb dX13_scan_321 (by decide) ?_
                    refine lv_iadd hx hb dX13_scan_325 ?_
                    obtain ⟨u_96, e_97, hF⟩ := lu_some hF
                    refine mp_45 hC hH e_97 dX13_scan_326 (fun H locs hH => ?_)
                    exact mr_v hC hH hr hF dX13_scan_329 hlocks
                · rw [if_neg c_90] at hF
                  refine lv_iconst (v := 3) hx hb dX13_scan_303 (by decide) ?_
                  refine lv_goto (tgt := 308) hx hb dX13_scan_304 (by decide) ?_
                  obtain ⟨u_98, e_99, hF⟩ := lu_some hF
                  refine mp_46 hC hH e_99 dX13_scan_308 (fun H locs hH => ?_)
                  refine lv_aload_n hx hb dX13_scan_311 rfl (lv_at hl 2 rfl) ?_
                  refine lv_dup hx hb dX13_scan_312 rfl ?_
                  refine mg_45 hC hH dX13_scan_313 ?_
                  refine lv_iload_n hx hb dX13_scan_316 rfl (lv_at hl 0 rfl) ?_
                  refine lv_if_eq (tgt := 324) hx hb dX13_scan_317 (by decide) (fun c_100 => ?_) (fun c_100 => ?_)
                  · rw [if_pos c_100] at hF
                    refine lv_iconst (v := 1) hx hb dX13_scan_324 (by decide) ?_
                    refine lv_iadd hx hb dX13_scan_325 ?_
                    obtain ⟨u_101, e_102, hF⟩ := lu_some hF
                    refine mp_45 hC hH e_102 dX13_scan_326 (fun H locs hH => ?_)
                    exact mr_v hC hH hr hF dX13_scan_329 hlocks
                  · rw [if_neg c_100] at hF
                    refine lv_iconst (v := 2) hx hb dX13_scan_320 (by decide) ?_
                    refine lv_goto (tgt := 325) hx hb dX13_scan_321 (by decide) ?_
                    refine lv_iadd hx hb dX13_scan_325 ?_
                    obtain ⟨u_103, e_104, hF⟩ := lu_some hF
                    refine mp_45 hC hH e_104 dX13_scan_326 (fun H locs hH => ?_)
                    exact mr_v hC hH hr hF dX13_scan_329 hlocks
            · rw [if_neg c_79] at hF
              refine lv_iload_n hx hb dX13_scan_275 rfl (lv_at hl 0 rfl) ?_
              refine lv_bipush (v := 33) hx hb dX13_scan_276 (by decide) ?_
              refine lv_icmp_ne (tgt := 285) hx hb dX13_scan_278 (by decide) (fun c_105 => ?_) (fun c_105 => ?_)
              · rw [if_neg c_105] at hF
                refine lv_iconst (v := 0) hx hb dX13_scan_285 (by decide) ?_
                refine lv_istore_n (lv' := [(2, .int 0), (1, .int r_12), (0, .ref (Q 72))]) hx hb dX13_scan_286 rfl hl (by decide) rfl (fun ls hl => ?_)
                refine lv_aload_n hx hb dX13_scan_287 rfl (lv_at hl 2 rfl) ?_
                refine lv_iload_n hx hb dX13_scan_288 rfl (lv_at hl 0 rfl) ?_
                refine lv_if_ne (tgt := 303) hx hb dX13_scan_289 (by decide) (fun c_106 => ?_) (fun c_106 => ?_)
                · rw [if_neg c_106] at hF
                  refine lv_iconst (v := 3) hx hb dX13_scan_303 (by decide) ?_
                  refine lv_goto (tgt := 308) hx hb dX13_scan_304 (by decide) ?_
                  obtain ⟨u_107, e_108, hF⟩ := lu_some hF
                  refine mp_46 hC hH e_108 dX13_scan_308 (fun H locs hH => ?_)
                  refine lv_aload_n hx hb dX13_scan_311 rfl (lv_at hl 2 rfl) ?_
                  refine lv_dup hx hb dX13_scan_312 rfl ?_
                  refine mg_45 hC hH dX13_scan_313 ?_
                  refine lv_iload_n hx hb dX13_scan_316 rfl (lv_at hl 0 rfl) ?_
                  refine lv_if_eq (tgt := 324) hx hb dX13_scan_317 (by decide) (fun c_109 => ?_) (fun c_109 => ?_)
                  · rw [if_pos c_109] at hF
                    refine lv_iconst (v := 1) hx hb dX13_scan_324 (by decide) ?_
                    refine lv_iadd hx hb dX13_scan_325 ?_
                    obtain ⟨u_110, e_111, hF⟩ := lu_some hF
                    refine mp_45 hC hH e_111 dX13_scan_326 (fun H locs hH => ?_)
                    exact mr_v hC hH hr hF dX13_scan_329 hlocks
                  · rw [if_neg c_109] at hF
                    refine lv_iconst (v := 2) hx hb dX13_scan_320 (by decide) ?_
                    refine lv_goto (tgt := 325) hx hb dX13_scan_321 (by decide) ?_
                    refine lv_iadd hx hb dX13_scan_325 ?_
                    obtain ⟨u_112, e_113, hF⟩ := lu_some hF
                    refine mp_45 hC hH e_113 dX13_scan_326 (fun H locs hH => ?_)
                    exact mr_v hC hH hr hF dX13_scan_329 hlocks
                · rw [if_pos c_106] at hF
                  refine th_ldcw (tx := sTx 0) hx hb hC.2.2.2.1 (hC.2.2.2.2.2.2.2.2.1 0 (by decide)) dX13_scan_292 ?_
                  refine lv_iload_n hx hb dX13_scan_295 rfl (lv_at hl 1 rfl) ?_
                  refine lv_i2c (v := (r_12.toUInt32 % 65536).toInt32) hx hb dX13_scan_296 rfl ?_
                  obtain ⟨r_114, h_115, hF⟩ := oi_some hF
                  refine mcJ (As := [.int ((r_12.toUInt32 % 65536).toInt32)]) (rest := [.ref (Q 72)]) hC hH (by decide) (j_indexOf l Z (mA Q s.heap.size) 0 ((r_12.toUInt32 % 65536).toInt32) r_114 (by decide) h_115) ⟨wj49, wma84, wj52, wj53, wj7⟩ kVJ0_indexOf_0f7a4 ⟨Nat.le_of_ble_eq_true rfl, Nat.le_of_ble_eq_true rfl⟩ rfl hl.1 rfl (Nat.le_of_ble_eq_true rfl) dX13_scan_297 ?_
                  refine lv_if_lt (tgt := 307) hx hb dX13_scan_300 (by decide) (fun c_116 => ?_) (fun c_116 => ?_)
                  · rw [if_pos c_116] at hF
                    refine lv_iconst (v := 4) hx hb dX13_scan_307 (by decide) ?_
                    obtain ⟨u_117, e_118, hF⟩ := lu_some hF
                    refine mp_46 hC hH e_118 dX13_scan_308 (fun H locs hH => ?_)
                    refine lv_aload_n hx hb dX13_scan_311 rfl (lv_at hl 2 rfl) ?_
                    refine lv_dup hx hb dX13_scan_312 rfl ?_
                    refine mg_45 hC hH dX13_scan_313 ?_
                    refine lv_iload_n hx hb dX13_scan_316 rfl (lv_at hl 0 rfl) ?_
                    refine lv_if_eq (tgt := 324) hx hb dX13_scan_317 (by decide) (fun c_119 => ?_) (fun c_119 => ?_)
                    · rw [if_pos c_119] at hF
                      refine lv_iconst (v := 1) hx hb dX13_scan_324 (by decide) ?_
                      refine lv_iadd hx hb dX13_scan_325 ?_
                      obtain ⟨u_120, e_121, hF⟩ := lu_some hF
                      refine mp_45 hC hH e_121 dX13_scan_326 (fun H locs hH => ?_)
                      exact mr_v hC hH hr hF dX13_scan_329 hlocks
                    · rw [if_neg c_119] at hF
                      refine lv_iconst (v := 2) hx hb dX13_scan_320 (by decide) ?_
                      refine lv_goto (tgt := 325) hx hb dX13_scan_321 (by decide) ?_
                      refine lv_iadd hx hb dX13_scan_325 ?_
                      obtain ⟨u_122, e_123, hF⟩ := lu_some hF
                      refine mp_45 hC hH e_123 dX13_scan_326 (fun H locs hH => ?_)
                      exact mr_v hC hH hr hF dX13_scan_329 hlocks
                  · rw [if_neg c_116] at hF
                    refine lv_iconst (v := 3) hx hb dX13_scan_303 (by decide) ?_
                    refine lv_goto (tgt := 308) hx hb dX13_scan_304 (by decide) ?_
                    obtain ⟨u_124, e_125, hF⟩ := lu_some hF
                    refine mp_46 hC hH e_125 dX13_scan_308 (fun H locs hH => ?_)
                    refine lv_aload_n hx hb dX13_scan_311 rfl (lv_at hl 2 rfl) ?_
                    refine lv_dup hx hb dX13_scan_312 rfl ?_
                    refine mg_45 hC hH dX13_scan_313 ?_
                    refine lv_iload_n hx hb dX13_scan_316 rfl (lv_at hl 0 rfl) ?_
                    refine lv_if_eq (tgt := 324) hx hb dX13_scan_317 (by decide) (fun c_126 => ?_) (fun c_126 => ?_)
                    · rw [if_pos c_126] at hF
                      refine lv_iconst (v := 1) hx hb dX13_scan_324 (by decide) ?_
                      refine lv_iadd hx hb dX13_scan_325 ?_
                      obtain ⟨u_127, e_128, hF⟩ := lu_some hF
                      refine mp_45 hC hH e_128 dX13_scan_326 (fun H locs hH => ?_)
                      exact mr_v hC hH hr hF dX13_scan_329 hlocks
                    · rw [if_neg c_126] at hF
                      refine lv_iconst (v := 2) hx hb dX13_scan_320 (by decide) ?_
                      refine lv_goto (tgt := 325) hx hb dX13_scan_321 (by decide) ?_
                      refine lv_iadd hx hb dX13_scan_325 ?_
                      obtain ⟨u_129, e_130, hF⟩ := lu_some hF
                      refine mp_45 hC hH e_130 dX13_scan_326 (fun H locs hH => ?_)
                      exact mr_v hC hH hr hF dX13_scan_329 hlocks
              · rw [if_pos c_105] at hF
                refine lv_iconst (v := 1) hx hb dX13_scan_281 (by decide) ?_
                refine lv_goto (tgt := 286) hx hb dX13_scan_282 (by decide) ?_
                refine lv_istore_n (lv' := [(2, .int 1), (1, .int r_12), (0, .ref (Q 72))]) hx hb dX13_scan_286 rfl hl (by decide) rfl (fun ls hl => ?_)
                refine lv_aload_n hx hb dX13_scan_287 rfl (lv_at hl 2 rfl) ?_
                refine lv_iload_n hx hb dX13_scan_288 rfl (lv_at hl 0 rfl) ?_
                refine lv_if_ne (tgt := 303) hx hb dX13_scan_289 (by decide) (fun c_131 => ?_) (fun c_131 => ?_)
                · rw [if_neg c_131] at hF
                  refine lv_iconst (v := 3) hx hb dX13_scan_303 (by decide) ?_
                  refine lv_goto (tgt := 308) hx hb dX13_scan_304 (by decide) ?_
                  obtain ⟨u_132, e_133, hF⟩ := lu_some hF
                  refine mp_46 hC hH e_133 dX13_scan_308 (fun H locs hH => ?_)
                  refine lv_aload_n hx hb dX13_scan_311 rfl (lv_at hl 2 rfl) ?_
                  refine lv_dup hx hb dX13_scan_312 rfl ?_
                  refine mg_45 hC hH dX13_scan_313 ?_
                  refine lv_iload_n hx hb dX13_scan_316 rfl (lv_at hl 0 rfl) ?_
                  refine lv_if_eq (tgt := 324) hx hb dX13_scan_317 (by decide) (fun c_134 => ?_) (fun c_134 => ?_)
                  · rw [if_pos c_134] at hF
                    refine lv_iconst (v := 1) hx hb dX13_scan_324 (by decide) ?_
                    refine lv_iadd hx hb dX13_scan_325 ?_
                    obtain ⟨u_135, e_136, hF⟩ := lu_some hF
                    refine mp_45 hC hH e_136 dX13_scan_326 (fun H locs hH => ?_)
                    exact mr_v hC hH hr hF dX13_scan_329 hlocks
                  · rw [if_neg c_134] at hF
                    refine lv_iconst (v := 2) hx hb dX13_scan_320 (by decide) ?_
                    refine lv_goto (tgt := 325) hx hb dX13_scan_321 (by decide) ?_
                    refine lv_iadd hx hb dX13_scan_325 ?_
                    obtain ⟨u_137, e_138, hF⟩ := lu_some hF
                    refine mp_45 hC hH e_138 dX13_scan_326 (fun H locs hH => ?_)
                    exact mr_v hC hH hr hF dX13_scan_329 hlocks
                · rw [if_pos c_131] at hF
                  refine th_ldcw (tx := sTx 0) hx hb hC.2.2.2.1 (hC.2.2.2.2.2.2.2.2.1 0 (by decide)) dX13_scan_292 ?_
                  refine lv_iload_n hx hb dX13_scan_295 rfl (lv_at hl 1 rfl) ?_
                  refine lv_i2c (v := (r_12.toUInt32 % 65536).toInt32) hx hb dX13_scan_296 rfl ?_
                  obtain ⟨r_139, h_140, hF⟩ := oi_some hF
                  refine mcJ (As := [.int ((r_12.toUInt32 % 65536).toInt32)]) (rest := [.ref (Q 72)]) hC hH (by decide) (j_indexOf l Z (mA Q s.heap.size) 0 ((r_12.toUInt32 % 65536).toInt32) r_139 (by decide) h_140) ⟨wj49, wma84, wj52, wj53, wj7⟩ kVJ0_indexOf_0f7a4 ⟨Nat.le_of_ble_eq_true rfl, Nat.le_of_ble_eq_true rfl⟩ rfl hl.1 rfl (Nat.le_of_ble_eq_true rfl) dX13_scan_297 ?_
                  refine lv_if_lt (tgt := 307) hx hb dX13_scan_300 (by decide) (fun c_141 => ?_) (fun c_141 => ?_)
                  · rw [if_pos c_141] at hF
                    refine lv_iconst (v := 4) hx hb dX13_scan_307 (by decide) ?_
                    obtain ⟨u_142, e_143, hF⟩ := lu_some hF
                    refine mp_46 hC hH e_143 dX13_scan_308 (fun H locs hH => ?_)
                    refine lv_aload_n hx hb dX13_scan_311 rfl (lv_at hl 2 rfl) ?_
                    refine lv_dup hx hb dX13_scan_312 rfl ?_
                    refine mg_45 hC hH dX13_scan_313 ?_
                    refine lv_iload_n hx hb dX13_scan_316 rfl (lv_at hl 0 rfl) ?_
                    refine lv_if_eq (tgt := 324) hx hb dX13_scan_317 (by decide) (fun c_144 => ?_) (fun c_144 => ?_)
                    · rw [if_pos c_144] at hF
                      refine lv_iconst (v := 1) hx hb dX13_scan_324 (by decide) ?_
                      refine lv_iadd hx hb dX13_scan_325 ?_
                      obtain ⟨u_145, e_146, hF⟩ := lu_some hF
                      refine mp_45 hC hH e_146 dX13_scan_326 (fun H locs hH => ?_)
                      exact mr_v hC hH hr hF dX13_scan_329 hlocks
                    · rw [if_neg c_144] at hF
                      refine lv_iconst (v := 2) hx hb dX13_scan_320 (by decide) ?_
                      refine lv_goto (tgt := 325) hx hb dX13_scan_321 (by decide) ?_
                      refine lv_iadd hx hb dX13_scan_325 ?_
                      obtain ⟨u_147, e_148, hF⟩ := lu_some hF
                      refine mp_45 hC hH e_148 dX13_scan_326 (fun H locs hH => ?_)
                      exact mr_v hC hH hr hF dX13_scan_329 hlocks
                  · rw [if_neg c_141] at hF
                    refine lv_iconst (v := 3) hx hb dX13_scan_303 (by decide) ?_
                    refine lv_goto (tgt := 308) hx hb dX13_scan_304 (by decide) ?_
                    obtain ⟨u_149, e_150, hF⟩ := lu_some hF
                    refine mp_46 hC hH e_150 dX13_scan_308 (fun H locs hH => ?_)
                    refine lv_aload_n hx hb dX13_scan_311 rfl (lv_at hl 2 rfl) ?_
                    refine lv_dup hx hb dX13_scan_312 rfl ?_
                    refine mg_45 hC hH dX13_scan_313 ?_
                    refine lv_iload_n hx hb dX13_scan_316 rfl (lv_at hl 0 rfl) ?_
                    refine lv_if_eq (tgt := 324) hx hb dX13_scan_317 (by decide) (fun c_151 => ?_) (fun c_151 => ?_)
                    · rw [if_pos c_151] at hF
                      refine lv_iconst (v := 1) hx hb dX13_scan_324 (by decide) ?_
                      refine lv_iadd hx hb dX13_scan_325 ?_
                      obtain ⟨u_152, e_153, hF⟩ := lu_some hF
                      refine mp_45 hC hH e_153 dX13_scan_326 (fun H locs hH => ?_)
                      exact mr_v hC hH hr hF dX13_scan_329 hlocks
                    · rw [if_neg c_151] at hF
                      refine lv_iconst (v := 2) hx hb dX13_scan_320 (by decide) ?_
                      refine lv_goto (tgt := 325) hx hb dX13_scan_321 (by decide) ?_
                      refine lv_iadd hx hb dX13_scan_325 ?_
                      obtain ⟨u_154, e_155, hF⟩ := lu_some hF
                      refine mp_45 hC hH e_155 dX13_scan_326 (fun H locs hH => ?_)
                      exact mr_v hC hH hr hF dX13_scan_329 hlocks
      · rw [if_neg c_23] at hF
        refine lv_aload_n hx hb dX13_scan_155 rfl (lv_at hl 1 rfl) ?_
        refine lv_iconst (v := 0) hx hb dX13_scan_156 (by decide) ?_
        obtain ⟨u_156, e_157, hF⟩ := lu_some hF
        refine mp_47 hC hH e_157 dX13_scan_157 (fun H locs hH => ?_)
        have hL160 : ∀ (K160_223 : Int32 → MS → Option (Int32 × MS)), (∀ (v1 : Int32) (u : MS) (H : Heap) (locs : List Loc) (ls : Array Slot), lv_has ls 3 [(0, .ref (Q 72)), (1, .int v1)] → mH G Q u s H locs → K160_223 v1 u = some ((r, u1)) → W p l e (headSpec (Cond.code yX13_scan cX13_scan 3 none :: wM) { frames := 4, cells := 0, slots := 0, locals := 91 }).room s m [.ref (Q 72)].toArray below meth c H locs 0 0 (MQ below (mQv G Q u1 s.heap.size) [.ref (Q 72)].toArray s 0 0 (mA Q s.heap.size)) (F0 m 223 ls [])) → ∀ (n160 : Nat) (v1 : Int32) (u : MS) (H : Heap) (locs : List Loc) (ls : Array Slot), lv_has ls 3 [(0, .ref (Q 72)), (1, .int v1)] → mH G Q u s H locs → lp_scan_160 n160 v1 u K160_223 = some ((r, u1)) → W p l e (headSpec (Cond.code yX13_scan cX13_scan 3 none :: wM) { frames := 4, cells := 0, slots := 0, locals := 91 }).room s m [.ref (Q 72)].toArray below meth c H locs 0 0 (MQ below (mQv G Q u1 s.heap.size) [.ref (Q 72)].toArray s 0 0 (mA Q s.heap.size)) (F0 m 160 ls []) := by
          intro K160_223 hK160_223 n160
          induction n160 with
          | zero => intro v1 u H locs ls hl hH hF; cases hF
          | succ n160 ih160 =>
            intro v1 u H locs ls hl hH hF
            unfold lp_scan_160 at hF
            refine lv_aload_n hx hb dX13_scan_160 rfl (lv_at hl 0 rfl) ?_
            refine lv_aload_n hx hb dX13_scan_161 rfl (lv_at hl 0 rfl) ?_
            refine mg_45 hC hH dX13_scan_162 ?_
            obtain ⟨r_158, u_159, h_160, hF⟩ := ob_some hF
            refine mcV_i (As := [.int (u.1 45)]) (rest := []) hC hH (m_byteAt l G Z Q u u_159 r_158 (u.1 45) _ h_160) kwX13_byteAt kVX13_byteAt ⟨Nat.le_of_ble_eq_true rfl, Nat.le_of_ble_eq_true rfl⟩ rfl hl.1 rfl (Nat.le_of_ble_eq_true rfl) dX13_scan_165 (fun H locs hH => ?_)
            obtain ⟨r_161, u_162, h_163, hF⟩ := ob_some hF
            refine mcS_i (As := [.int r_158]) (rest := []) hC hH (m_isDigit l G Z Q u_159 u_162 r_161 r_158 _ h_163) kwX13_isDigit kVX13_isDigit ⟨Nat.le_of_ble_eq_true rfl, Nat.le_of_ble_eq_true rfl⟩ rfl hl.1 rfl (Nat.le_of_ble_eq_true rfl) dX13_scan_168 (fun H locs hH => ?_)
            refine lv_if_eq (tgt := 223) hx hb dX13_scan_171 (by decide) (fun c_164 => ?_) (fun c_164 => ?_)
            · rw [if_pos c_164] at hF
              exact hK160_223 v1 u_162 _ _ _ (lv_sub hl [0, 1] rfl) hH hF
            · rw [if_neg c_164] at hF
              refine lv_aload_n hx hb dX13_scan_174 rfl (lv_at hl 0 rfl) ?_
              refine mg_45 hC hH dX13_scan_175 ?_
              refine lv_aload_n hx hb dX13_scan_178 rfl (lv_at hl 0 rfl) ?_
              refine mg_44 hC hH dX13_scan_179 ?_
              refine lv_isub hx hb dX13_scan_182 ?_
              refine lv_iconst (v := 4) hx hb dX13_scan_183 (by decide) ?_
              refine lv_icmp_ge (tgt := 210) hx hb dX13_scan_184 (by decide) (fun c_165 => ?_) (fun c_165 => ?_)
              · rw [if_pos c_165] at hF
                refine lv_aload_n hx hb dX13_scan_210 rfl (lv_at hl 0 rfl) ?_
                refine lv_dup hx hb dX13_scan_211 rfl ?_
                refine mg_45 hC hH dX13_scan_212 ?_
                refine lv_iconst (v := 1) hx hb dX13_scan_215 (by decide) ?_
                refine lv_iadd hx hb dX13_scan_216 ?_
                obtain ⟨u_166, e_167, hF⟩ := lu_some hF
                refine mp_45 hC hH e_167 dX13_scan_217 (fun H locs hH => ?_)
                refine lv_goto (tgt := 160) hx hb dX13_scan_220 (by decide) ?_
                exact ih160 v1 u_166 _ _ _ (lv_sub hl [0, 1] rfl) hH hF
              · rw [if_neg c_165] at hF
                refine lv_aload_n hx hb dX13_scan_187 rfl (lv_at hl 0 rfl) ?_
                refine lv_bipush (v := 10) hx hb dX13_scan_188 (by decide) ?_
                refine lv_aload_n hx hb dX13_scan_190 rfl (lv_at hl 0 rfl) ?_
                refine mg_47 hC hH dX13_scan_191 ?_
                refine lv_imul hx hb dX13_scan_194 ?_
                refine lv_aload_n hx hb dX13_scan_195 rfl (lv_at hl 0 rfl) ?_
                refine lv_aload_n hx hb dX13_scan_196 rfl (lv_at hl 0 rfl) ?_
                refine mg_45 hC hH dX13_scan_197 ?_
                obtain ⟨r_168, u_169, h_170, hF⟩ := ob_some hF
                refine mcV_i (As := [.int (u_162.1 45)]) (rest := [.int (10 * (u_162.1 47)), .ref (Q 72)]) hC hH (m_byteAt l G Z Q u_162 u_169 r_168 (u_162.1 45) _ h_170) kwX13_byteAt kVX13_byteAt ⟨Nat.le_of_ble_eq_true rfl, Nat.le_of_ble_eq_true rfl⟩ rfl hl.1 rfl (Nat.le_of_ble_eq_true rfl) dX13_scan_200 (fun H locs hH => ?_)
                refine lv_iadd hx hb dX13_scan_203 ?_
                refine lv_bipush (v := 48) hx hb dX13_scan_204 (by decide) ?_
                refine lv_isub hx hb dX13_scan_206 ?_
                obtain ⟨u_171, e_172, hF⟩ := lu_some hF
                refine mp_47 hC hH e_172 dX13_scan_207 (fun H locs hH => ?_)
                refine lv_aload_n hx hb dX13_scan_210 rfl (lv_at hl 0 rfl) ?_
                refine lv_dup hx hb dX13_scan_211 rfl ?_
                refine mg_45 hC hH dX13_scan_212 ?_
                refine lv_iconst (v := 1) hx hb dX13_scan_215 (by decide) ?_
                refine lv_iadd hx hb dX13_scan_216 ?_
                obtain ⟨u_173, e_174, hF⟩ := lu_some hF
                refine mp_45 hC hH e_174 dX13_scan_217 (fun H locs hH => ?_)
                refine lv_goto (tgt := 160) hx hb dX13_scan_220 (by decide) ?_
                exact ih160 v1 u_173 _ _ _ (lv_sub hl [0, 1] rfl) hH hF
        refine hL160 _ (fun v1 u H locs ls hl hH hF => ?_) fuel r_12 u_156 _ _ _ (lv_sub hl [1, 0] rfl) hH hF
        refine lv_aload_n hx hb dX13_scan_223 rfl (lv_at hl 0 rfl) ?_
        refine lv_aload_n hx hb dX13_scan_224 rfl (lv_at hl 0 rfl) ?_
        refine mg_45 hC hH dX13_scan_225 ?_
        refine lv_aload_n hx hb dX13_scan_228 rfl (lv_at hl 0 rfl) ?_
        refine mg_44 hC hH dX13_scan_229 ?_
        refine lv_isub hx hb dX13_scan_232 ?_
        refine lv_iconst (v := 4) hx hb dX13_scan_233 (by decide) ?_
        refine lv_icmp_le (tgt := 241) hx hb dX13_scan_234 (by decide) (fun c_175 => ?_) (fun c_175 => ?_)
        · rw [if_pos c_175] at hF
          refine lv_iconst (v := 2) hx hb dX13_scan_241 (by decide) ?_
          obtain ⟨u_176, e_177, hF⟩ := lu_some hF
          refine mp_46 hC hH e_177 dX13_scan_242 (fun H locs hH => ?_)
          refine lv_goto (tgt := 329) hx hb dX13_scan_245 (by decide) ?_
          exact mr_v hC hH hr hF dX13_scan_329 hlocks
        · rw [if_neg c_175] at hF
          refine lv_iconst (v := 4) hx hb dX13_scan_237 (by decide) ?_
          refine lv_goto (tgt := 242) hx hb dX13_scan_238 (by decide) ?_
          obtain ⟨u_178, e_179, hF⟩ := lu_some hF
          refine mp_46 hC hH e_179 dX13_scan_242 (fun H locs hH => ?_)
          refine lv_goto (tgt := 329) hx hb dX13_scan_245 (by decide) ?_
          exact mr_v hC hH hr hF dX13_scan_329 hlocks
    · rw [if_neg c_19] at hF
      have hL95 : ∀ (K95_122 : Int32 → MS → Option (Int32 × MS)), (∀ (v1 : Int32) (u : MS) (H : Heap) (locs : List Loc) (ls : Array Slot), lv_has ls 3 [(0, .ref (Q 72)), (1, .int v1)] → mH G Q u s H locs → K95_122 v1 u = some ((r, u1)) → W p l e (headSpec (Cond.code yX13_scan cX13_scan 3 none :: wM) { frames := 4, cells := 0, slots := 0, locals := 91 }).room s m [.ref (Q 72)].toArray below meth c H locs 0 0 (MQ below (mQv G Q u1 s.heap.size) [.ref (Q 72)].toArray s 0 0 (mA Q s.heap.size)) (F0 m 122 ls [])) → ∀ (n95 : Nat) (v1 : Int32) (u : MS) (H : Heap) (locs : List Loc) (ls : Array Slot), lv_has ls 3 [(0, .ref (Q 72)), (1, .int v1)] → mH G Q u s H locs → lp_scan_95 n95 v1 u K95_122 = some ((r, u1)) → W p l e (headSpec (Cond.code yX13_scan cX13_scan 3 none :: wM) { frames := 4, cells := 0, slots := 0, locals := 91 }).room s m [.ref (Q 72)].toArray below meth c H locs 0 0 (MQ below (mQv G Q u1 s.heap.size) [.ref (Q 72)].toArray s 0 0 (mA Q s.heap.size)) (F0 m 95 ls []) := by
        intro K95_122 hK95_122 n95
        induction n95 with
        | zero => intro v1 u H locs ls hl hH hF; cases hF
        | succ n95 ih95 =>
          intro v1 u H locs ls hl hH hF
          unfold lp_scan_95 at hF
          refine lv_aload_n hx hb dX13_scan_95 rfl (lv_at hl 0 rfl) ?_
          refine lv_aload_n hx hb dX13_scan_96 rfl (lv_at hl 0 rfl) ?_
          refine mg_45 hC hH dX13_scan_97 ?_
          obtain ⟨r_180, u_181, h_182, hF⟩ := ob_some hF
          refine mcV_i (As := [.int (u.1 45)]) (rest := []) hC hH (m_byteAt l G Z Q u u_181 r_180 (u.1 45) _ h_182) kwX13_byteAt kVX13_byteAt ⟨Nat.le_of_ble_eq_true rfl, Nat.le_of_ble_eq_true rfl⟩ rfl hl.1 rfl (Nat.le_of_ble_eq_true rfl) dX13_scan_100 (fun H locs hH => ?_)
          obtain ⟨r_183, u_184, h_185, hF⟩ := ob_some hF
          refine mcS_i (As := [.int r_180]) (rest := []) hC hH (m_isLetter l G Z Q u_181 u_184 r_183 r_180 _ h_185) kwX13_isLetter kVX13_isLetter ⟨Nat.le_of_ble_eq_true rfl, Nat.le_of_ble_eq_true rfl⟩ rfl hl.1 rfl (Nat.le_of_ble_eq_true rfl) dX13_scan_103 (fun H locs hH => ?_)
          refine lv_if_eq (tgt := 122) hx hb dX13_scan_106 (by decide) (fun c_186 => ?_) (fun c_186 => ?_)
          · rw [if_pos c_186] at hF
            exact hK95_122 v1 u_184 _ _ _ (lv_sub hl [0, 1] rfl) hH hF
          · rw [if_neg c_186] at hF
            refine lv_aload_n hx hb dX13_scan_109 rfl (lv_at hl 0 rfl) ?_
            refine lv_dup hx hb dX13_scan_110 rfl ?_
            refine mg_45 hC hH dX13_scan_111 ?_
            refine lv_iconst (v := 1) hx hb dX13_scan_114 (by decide) ?_
            refine lv_iadd hx hb dX13_scan_115 ?_
            obtain ⟨u_187, e_188, hF⟩ := lu_some hF
            refine mp_45 hC hH e_188 dX13_scan_116 (fun H locs hH => ?_)
            refine lv_goto (tgt := 95) hx hb dX13_scan_119 (by decide) ?_
            exact ih95 v1 u_187 _ _ _ (lv_sub hl [0, 1] rfl) hH hF
      refine hL95 _ (fun v1 u H locs ls hl hH hF => ?_) fuel r_12 u_17 _ _ _ (lv_sub hl [1, 0] rfl) hH hF
      refine lv_aload_n hx hb dX13_scan_122 rfl (lv_at hl 0 rfl) ?_
      refine lv_aload_n hx hb dX13_scan_123 rfl (lv_at hl 0 rfl) ?_
      refine mg_45 hC hH dX13_scan_124 ?_
      refine lv_aload_n hx hb dX13_scan_127 rfl (lv_at hl 0 rfl) ?_
      refine mg_44 hC hH dX13_scan_128 ?_
      refine lv_isub hx hb dX13_scan_131 ?_
      refine lv_bipush (v := 10) hx hb dX13_scan_132 (by decide) ?_
      refine lv_icmp_le (tgt := 141) hx hb dX13_scan_134 (by decide) (fun c_189 => ?_) (fun c_189 => ?_)
      · rw [if_pos c_189] at hF
        refine lv_iconst (v := 1) hx hb dX13_scan_141 (by decide) ?_
        obtain ⟨u_190, e_191, hF⟩ := lu_some hF
        refine mp_46 hC hH e_191 dX13_scan_142 (fun H locs hH => ?_)
        refine lv_goto (tgt := 329) hx hb dX13_scan_145 (by decide) ?_
        exact mr_v hC hH hr hF dX13_scan_329 hlocks
      · rw [if_neg c_189] at hF
        refine lv_iconst (v := 4) hx hb dX13_scan_137 (by decide) ?_
        refine lv_goto (tgt := 142) hx hb dX13_scan_138 (by decide) ?_
        obtain ⟨u_192, e_193, hF⟩ := lu_some hF
        refine mp_46 hC hH e_193 dX13_scan_142 (fun H locs hH => ?_)
        refine lv_goto (tgt := 329) hx hb dX13_scan_145 (by decide) ?_
        exact mr_v hC hH hr hF dX13_scan_329 hlocks
  · rw [if_pos c_15] at hF
    refine lv_aload_n hx hb dX13_scan_80 rfl (lv_at hl 1 rfl) ?_
    refine lv_iconst (v := 0) hx hb dX13_scan_81 (by decide) ?_
    obtain ⟨u_194, e_195, hF⟩ := lu_some hF
    refine mp_46 hC hH e_195 dX13_scan_82 (fun H locs hH => ?_)
    refine lv_goto (tgt := 329) hx hb dX13_scan_85 (by decide) ?_
    exact mr_v hC hH hr hF dX13_scan_329 hlocks
def lp_isText_24 (a0 : Nat) : Nat → Int32 → Int32 → MS → (Int32 → Int32 → MS → Option (Int32 × MS)) → Option (Int32 × MS)
  | 0, _, _, _, _ => none
  | n24 + 1, v2, v3, u, K24_67 => oi (fj_len a0) (fun r_4 => (if r_4 ≤ v3 then K24_67 v2 v3 u else (if v2 = 0 then K24_67 v2 v3 u else og (gi ((u.1 44) + v3) 3000) (oi (fj_charAt a0 v3) (fun r_9 => (if (rz u ((u.1 44) + v3)) = r_9 then li (v3 + 1) (fun x_14 => lp_isText_24 a0 n24 1 x_14 u K24_67) else li (v3 + 1) (fun x_12 => lp_isText_24 a0 n24 0 x_12 u K24_67)))))))
def f_isText (a0 : Nat) (u : MS) : Option (Int32 × MS) := oi (fj_len a0) (fun r_1 => (if ((u.1 45) - (u.1 44)) = r_1 then lp_isText_24 a0 fuel 1 0 u (fun v2 v3 u => og (gb v2) (some (v2, u))) else lp_isText_24 a0 fuel 0 0 u (fun v2 v3 u => og (gb v2) (some (v2, u)))))
set_option maxHeartbeats 4000000 in
set_option maxRecDepth 100000 in
theorem m_isText (l : Launch) (G : gG) (Z : gM) (Q : Nat → Nat) (u u1 : MS) (r : Int32) (a0 : Nat) (sz : Nat) (hF : f_isText a0 u = some (r, u1)) (hs_a0 : a0 < 38) : Met l yX13_isText (Cond.code yX13_isText cX13_isText 4 (some .boolean) :: wM) { frames := 4, cells := 0, slots := 0, locals := 85 } (va_Pc [.ref (Q 72), .ref (Z.1 a0)] (mPM G Z Q u sz)) (mQi G Q u1 r sz) 0 0 (mA Q sz) := by
  refine Met.ofW (cc := cX13_isText) (maxL := 4) (ret := (some .boolean)) (by decide) rfl ?_
  intro p e s m args below meth c s₁ B hml hv
  obtain ⟨rfl, rfl, hP, hB, hD, hE⟩ := hv
  have hr := B.returns
  have hlocks := B.notSynchronized
  have hts := atoms_spec (ws := Cond.code yX13_isText cX13_isText 4 (some .boolean) :: wM) B.pre
  have hC : mX p c cX13_isText 4 s m _ G Z Q := ⟨B.exec, B.bytes, hml, findClass_of_methodNamed B.named, fun w h => hts w (List.mem_cons_of_mem _ h), hB, hE⟩
  have hx := hC.1
  have hb := hC.2.1
  have hH : mH G Q u s s.heap [] := ⟨hP, hD, va_S.rf⟩
  have hl := lv_entry ([.ref (Q 72), .ref (Z.1 a0)]) (n := 4) (Nat.le_of_ble_eq_true rfl)
  rw [lg_entry_eq]
  generalize (lg_sl ([.ref (Q 72), .ref (Z.1 a0)]) ++ List.replicate (4 - (lg_sl ([.ref (Q 72), .ref (Z.1 a0)])).length) Slot.unset).toArray = ls at hl ⊢
  have hl : lv_has ls 4 [(0, .ref (Q 72)), (1, .ref (Z.1 a0))] := hl
  unfold f_isText at hF
  refine lv_aload_n hx hb dX13_isText_0 rfl (lv_at hl 0 rfl) ?_
  refine mg_45 hC hH dX13_isText_1 ?_
  refine lv_aload_n hx hb dX13_isText_4 rfl (lv_at hl 0 rfl) ?_
  refine mg_44 hC hH dX13_isText_5 ?_
  refine lv_isub hx hb dX13_isText_8 ?_
  refine lv_aload_n hx hb dX13_isText_9 rfl (lv_at hl 1 rfl) ?_
  obtain ⟨r_1, h_2, hF⟩ := oi_some hF
  refine mcJ (As := []) (rest := [.int ((u.1 45) - (u.1 44))]) hC hH hs_a0 (j_len l Z (mA Q s.heap.size) a0 r_1 hs_a0 h_2) ⟨wj37, wma88, wj39, wj40, wj7⟩ kVJ0_length_8abf5 ⟨Nat.le_of_ble_eq_true rfl, Nat.le_of_ble_eq_true rfl⟩ rfl hl.1 rfl (Nat.le_of_ble_eq_true rfl) dX13_isText_10 ?_
  refine lv_icmp_ne (tgt := 20) hx hb dX13_isText_13 (by decide) (fun c_3 => ?_) (fun c_3 => ?_)
  · rw [if_neg c_3] at hF
    refine lv_iconst (v := 0) hx hb dX13_isText_20 (by decide) ?_
    refine lv_istore_n (lv' := [(2, .int 0), (0, .ref (Q 72)), (1, .ref (Z.1 a0))]) hx hb dX13_isText_21 rfl hl (by decide) rfl (fun ls hl => ?_)
    refine lv_iconst (v := 0) hx hb dX13_isText_22 (by decide) ?_
    refine lv_istore_n (lv' := [(3, .int 0), (2, .int 0), (0, .ref (Q 72)), (1, .ref (Z.1 a0))]) hx hb dX13_isText_23 rfl hl (by decide) rfl (fun ls hl => ?_)
    have hL24 : ∀ (K24_67 : Int32 → Int32 → MS → Option (Int32 × MS)), (∀ (v2 v3 : Int32) (u : MS) (H : Heap) (locs : List Loc) (ls : Array Slot), lv_has ls 4 [(0, .ref (Q 72)), (1, .ref (Z.1 a0)), (2, .int v2), (3, .int v3)] → mH G Q u s H locs → K24_67 v2 v3 u = some ((r, u1)) → W p l e (headSpec (Cond.code yX13_isText cX13_isText 4 (some .boolean) :: wM) { frames := 4, cells := 0, slots := 0, locals := 85 }).room s m [.ref (Q 72), .ref (Z.1 a0)].toArray below meth c H locs 0 0 (MQ below (mQi G Q u1 r s.heap.size) [.ref (Q 72), .ref (Z.1 a0)].toArray s 0 0 (mA Q s.heap.size)) (F0 m 67 ls [])) → ∀ (n24 : Nat) (v2 v3 : Int32) (u : MS) (H : Heap) (locs : List Loc) (ls : Array Slot), lv_has ls 4 [(0, .ref (Q 72)), (1, .ref (Z.1 a0)), (2, .int v2), (3, .int v3)] → mH G Q u s H locs → lp_isText_24 a0 n24 v2 v3 u K24_67 = some ((r, u1)) → W p l e (headSpec (Cond.code yX13_isText cX13_isText 4 (some .boolean) :: wM) { frames := 4, cells := 0, slots := 0, locals := 85 }).room s m [.ref (Q 72), .ref (Z.1 a0)].toArray below meth c H locs 0 0 (MQ below (mQi G Q u1 r s.heap.size) [.ref (Q 72), .ref (Z.1 a0)].toArray s 0 0 (mA Q s.heap.size)) (F0 m 24 ls []) := by
      intro K24_67 hK24_67 n24
      induction n24 with
      | zero => intro v2 v3 u H locs ls hl hH hF; cases hF
      | succ n24 ih24 =>
        intro v2 v3 u H locs ls hl hH hF
        unfold lp_isText_24 at hF
        refine lv_iload_n hx hb dX13_isText_24 rfl (lv_at hl 3 rfl) ?_
        refine lv_aload_n hx hb dX13_isText_25 rfl (lv_at hl 1 rfl) ?_
        obtain ⟨r_4, h_5, hF⟩ := oi_some hF
        refine mcJ (As := []) (rest := [.int v3]) hC hH hs_a0 (j_len l Z (mA Q s.heap.size) a0 r_4 hs_a0 h_5) ⟨wj37, wma88, wj39, wj40, wj7⟩ kVJ0_length_8abf5 ⟨Nat.le_of_ble_eq_true rfl, Nat.le_of_ble_eq_true rfl⟩ rfl hl.1 rfl (Nat.le_of_ble_eq_true rfl) dX13_isText_26 ?_
        refine lv_icmp_ge (tgt := 67) hx hb dX13_isText_29 (by decide) (fun c_6 => ?_) (fun c_6 => ?_)
        · rw [if_pos c_6] at hF
          exact hK24_67 v2 v3 u _ _ _ (lv_sub hl [0, 1, 2, 3] rfl) hH hF
        · rw [if_neg c_6] at hF
          refine lv_iload_n hx hb dX13_isText_32 rfl (lv_at hl 2 rfl) ?_
          refine lv_if_eq (tgt := 67) hx hb dX13_isText_33 (by decide) (fun c_7 => ?_) (fun c_7 => ?_)
          · rw [if_pos c_7] at hF
            exact hK24_67 v2 v3 u _ _ _ (lv_sub hl [0, 1, 2, 3] rfl) hH hF
          · rw [if_neg c_7] at hF
            refine lv_aload_n hx hb dX13_isText_36 rfl (lv_at hl 0 rfl) ?_
            refine mg_41 hC hH dX13_isText_37 ?_
            refine lv_aload_n hx hb dX13_isText_40 rfl (lv_at hl 0 rfl) ?_
            refine mg_44 hC hH dX13_isText_41 ?_
            refine lv_iload_n hx hb dX13_isText_44 rfl (lv_at hl 3 rfl) ?_
            refine lv_iadd hx hb dX13_isText_45 ?_
            obtain ⟨g_8, hF⟩ := og_some hF
            refine ml_src hC hH g_8 dX13_isText_46 ?_
            refine lv_aload_n hx hb dX13_isText_47 rfl (lv_at hl 1 rfl) ?_
            refine lv_iload_n hx hb dX13_isText_48 rfl (lv_at hl 3 rfl) ?_
            obtain ⟨r_9, h_10, hF⟩ := oi_some hF
            refine mcJ (As := [.int v3]) (rest := [.int (rz u ((u.1 44) + v3))]) hC hH hs_a0 (j_charAt l Z (mA Q s.heap.size) a0 v3 r_9 hs_a0 h_10) ⟨wj48, wma89, wj50, wj51, wj7⟩ kVJ0_charAt_5068e ⟨Nat.le_of_ble_eq_true rfl, Nat.le_of_ble_eq_true rfl⟩ rfl hl.1 rfl (Nat.le_of_ble_eq_true rfl) dX13_isText_49 ?_
            refine lv_icmp_ne (tgt := 59) hx hb dX13_isText_52 (by decide) (fun c_11 => ?_) (fun c_11 => ?_)
            · rw [if_neg c_11] at hF
              refine lv_iconst (v := 0) hx hb dX13_isText_59 (by decide) ?_
              refine lv_istore_n (lv' := [(2, .int 0), (0, .ref (Q 72)), (1, .ref (Z.1 a0)), (3, .int v3)]) hx hb dX13_isText_60 rfl hl (by decide) rfl (fun ls hl => ?_)
              obtain ⟨x_12, e_13, hF⟩ := li_some hF
              refine lv_iinc (v := x_12) (lv' := [(3, .int x_12), (2, .int 0), (0, .ref (Q 72)), (1, .ref (Z.1 a0))]) hx hb dX13_isText_61 hl (k := 3) rfl e_13 (by decide) rfl (fun ls hl => ?_)
              refine lv_goto (tgt := 24) hx hb dX13_isText_64 (by decide) ?_
              exact ih24 0 x_12 u _ _ _ (lv_sub hl [2, 3, 1, 0] rfl) hH hF
            · rw [if_pos c_11] at hF
              refine lv_iconst (v := 1) hx hb dX13_isText_55 (by decide) ?_
              refine lv_goto (tgt := 60) hx hb dX13_isText_56 (by decide) ?_
              refine lv_istore_n (lv' := [(2, .int 1), (0, .ref (Q 72)), (1, .ref (Z.1 a0)), (3, .int v3)]) hx hb dX13_isText_60 rfl hl (by decide) rfl (fun ls hl => ?_)
              obtain ⟨x_14, e_15, hF⟩ := li_some hF
              refine lv_iinc (v := x_14) (lv' := [(3, .int x_14), (2, .int 1), (0, .ref (Q 72)), (1, .ref (Z.1 a0))]) hx hb dX13_isText_61 hl (k := 3) rfl e_15 (by decide) rfl (fun ls hl => ?_)
              refine lv_goto (tgt := 24) hx hb dX13_isText_64 (by decide) ?_
              exact ih24 1 x_14 u _ _ _ (lv_sub hl [2, 3, 1, 0] rfl) hH hF
    refine hL24 _ (fun v2 v3 u H locs ls hl hH hF => ?_) fuel 0 0 u _ _ _ (lv_sub hl [2, 3, 1, 0] rfl) hH hF
    refine lv_iload_n hx hb dX13_isText_67 rfl (lv_at hl 2 rfl) ?_
    obtain ⟨g_16, hF⟩ := og_some hF
    exact mr_z hC hH hr g_16 hF dX13_isText_68 hlocks
  · rw [if_pos c_3] at hF
    refine lv_iconst (v := 1) hx hb dX13_isText_16 (by decide) ?_
    refine lv_goto (tgt := 21) hx hb dX13_isText_17 (by decide) ?_
    refine lv_istore_n (lv' := [(2, .int 1), (0, .ref (Q 72)), (1, .ref (Z.1 a0))]) hx hb dX13_isText_21 rfl hl (by decide) rfl (fun ls hl => ?_)
    refine lv_iconst (v := 0) hx hb dX13_isText_22 (by decide) ?_
    refine lv_istore_n (lv' := [(3, .int 0), (2, .int 1), (0, .ref (Q 72)), (1, .ref (Z.1 a0))]) hx hb dX13_isText_23 rfl hl (by decide) rfl (fun ls hl => ?_)
    have hL24 : ∀ (K24_67 : Int32 → Int32 → MS → Option (Int32 × MS)), (∀ (v2 v3 : Int32) (u : MS) (H : Heap) (locs : List Loc) (ls : Array Slot), lv_has ls 4 [(0, .ref (Q 72)), (1, .ref (Z.1 a0)), (2, .int v2), (3, .int v3)] → mH G Q u s H locs → K24_67 v2 v3 u = some ((r, u1)) → W p l e (headSpec (Cond.code yX13_isText cX13_isText 4 (some .boolean) :: wM) { frames := 4, cells := 0, slots := 0, locals := 85 }).room s m [.ref (Q 72), .ref (Z.1 a0)].toArray below meth c H locs 0 0 (MQ below (mQi G Q u1 r s.heap.size) [.ref (Q 72), .ref (Z.1 a0)].toArray s 0 0 (mA Q s.heap.size)) (F0 m 67 ls [])) → ∀ (n24 : Nat) (v2 v3 : Int32) (u : MS) (H : Heap) (locs : List Loc) (ls : Array Slot), lv_has ls 4 [(0, .ref (Q 72)), (1, .ref (Z.1 a0)), (2, .int v2), (3, .int v3)] → mH G Q u s H locs → lp_isText_24 a0 n24 v2 v3 u K24_67 = some ((r, u1)) → W p l e (headSpec (Cond.code yX13_isText cX13_isText 4 (some .boolean) :: wM) { frames := 4, cells := 0, slots := 0, locals := 85 }).room s m [.ref (Q 72), .ref (Z.1 a0)].toArray below meth c H locs 0 0 (MQ below (mQi G Q u1 r s.heap.size) [.ref (Q 72), .ref (Z.1 a0)].toArray s 0 0 (mA Q s.heap.size)) (F0 m 24 ls []) := by
      intro K24_67 hK24_67 n24
      induction n24 with
      | zero => intro v2 v3 u H locs ls hl hH hF; cases hF
      | succ n24 ih24 =>
        intro v2 v3 u H locs ls hl hH hF
        unfold lp_isText_24 at hF
        refine lv_iload_n hx hb dX13_isText_24 rfl (lv_at hl 3 rfl) ?_
        refine lv_aload_n hx hb dX13_isText_25 rfl (lv_at hl 1 rfl) ?_
        obtain ⟨r_17, h_18, hF⟩ := oi_some hF
        refine mcJ (As := []) (rest := [.int v3]) hC hH hs_a0 (j_len l Z (mA Q s.heap.size) a0 r_17 hs_a0 h_18) ⟨wj37, wma88, wj39, wj40, wj7⟩ kVJ0_length_8abf5 ⟨Nat.le_of_ble_eq_true rfl, Nat.le_of_ble_eq_true rfl⟩ rfl hl.1 rfl (Nat.le_of_ble_eq_true rfl) dX13_isText_26 ?_
        refine lv_icmp_ge (tgt := 67) hx hb dX13_isText_29 (by decide) (fun c_19 => ?_) (fun c_19 => ?_)
        · rw [if_pos c_19] at hF
          exact hK24_67 v2 v3 u _ _ _ (lv_sub hl [0, 1, 2, 3] rfl) hH hF
        · rw [if_neg c_19] at hF
          refine lv_iload_n hx hb dX13_isText_32 rfl (lv_at hl 2 rfl) ?_
          refine lv_if_eq (tgt := 67) hx hb dX13_isText_33 (by decide) (fun c_20 => ?_) (fun c_20 => ?_)
          · rw [if_pos c_20] at hF
            exact hK24_67 v2 v3 u _ _ _ (lv_sub hl [0, 1, 2, 3] rfl) hH hF
          · rw [if_neg c_20] at hF
            refine lv_aload_n hx hb dX13_isText_36 rfl (lv_at hl 0 rfl) ?_
            refine mg_41 hC hH dX13_isText_37 ?_
            refine lv_aload_n hx hb dX13_isText_40 rfl (lv_at hl 0 rfl) ?_
            refine mg_44 hC hH dX13_isText_41 ?_
            refine lv_iload_n hx hb dX13_isText_44 rfl (lv_at hl 3 rfl) ?_
            refine lv_iadd hx hb dX13_isText_45 ?_
            obtain ⟨g_21, hF⟩ := og_some hF
            refine ml_src hC hH g_21 dX13_isText_46 ?_
            refine lv_aload_n hx hb dX13_isText_47 rfl (lv_at hl 1 rfl) ?_
            refine lv_iload_n hx hb dX13_isText_48 rfl (lv_at hl 3 rfl) ?_
            obtain ⟨r_22, h_23, hF⟩ := oi_some hF
            refine mcJ (As := [.int v3]) (rest := [.int (rz u ((u.1 44) + v3))]) hC hH hs_a0 (j_charAt l Z (mA Q s.heap.size) a0 v3 r_22 hs_a0 h_23) ⟨wj48, wma89, wj50, wj51, wj7⟩ kVJ0_charAt_5068e ⟨Nat.le_of_ble_eq_true rfl, Nat.le_of_ble_eq_true rfl⟩ rfl hl.1 rfl (Nat.le_of_ble_eq_true rfl) dX13_isText_49 ?_
            refine lv_icmp_ne (tgt := 59) hx hb dX13_isText_52 (by decide) (fun c_24 => ?_) (fun c_24 => ?_)
            · rw [if_neg c_24] at hF
              refine lv_iconst (v := 0) hx hb dX13_isText_59 (by decide) ?_
              refine lv_istore_n (lv' := [(2, .int 0), (0, .ref (Q 72)), (1, .ref (Z.1 a0)), (3, .int v3)]) hx hb dX13_isText_60 rfl hl (by decide) rfl (fun ls hl => ?_)
              obtain ⟨x_25, e_26, hF⟩ := li_some hF
              refine lv_iinc (v := x_25) (lv' := [(3, .int x_25), (2, .int 0), (0, .ref (Q 72)), (1, .ref (Z.1 a0))]) hx hb dX13_isText_61 hl (k := 3) rfl e_26 (by decide) rfl (fun ls hl => ?_)
              refine lv_goto (tgt := 24) hx hb dX13_isText_64 (by decide) ?_
              exact ih24 0 x_25 u _ _ _ (lv_sub hl [2, 3, 1, 0] rfl) hH hF
            · rw [if_pos c_24] at hF
              refine lv_iconst (v := 1) hx hb dX13_isText_55 (by decide) ?_
              refine lv_goto (tgt := 60) hx hb dX13_isText_56 (by decide) ?_
              refine lv_istore_n (lv' := [(2, .int 1), (0, .ref (Q 72)), (1, .ref (Z.1 a0)), (3, .int v3)]) hx hb dX13_isText_60 rfl hl (by decide) rfl (fun ls hl => ?_)
              obtain ⟨x_27, e_28, hF⟩ := li_some hF
              refine lv_iinc (v := x_27) (lv' := [(3, .int x_27), (2, .int 1), (0, .ref (Q 72)), (1, .ref (Z.1 a0))]) hx hb dX13_isText_61 hl (k := 3) rfl e_28 (by decide) rfl (fun ls hl => ?_)
              refine lv_goto (tgt := 24) hx hb dX13_isText_64 (by decide) ?_
              exact ih24 1 x_27 u _ _ _ (lv_sub hl [2, 3, 1, 0] rfl) hH hF
    refine hL24 _ (fun v2 v3 u H locs ls hl hH hF => ?_) fuel 1 0 u _ _ _ (lv_sub hl [2, 3, 1, 0] rfl) hH hF
    refine lv_iload_n hx hb dX13_isText_67 rfl (lv_at hl 2 rfl) ?_
    obtain ⟨g_29, hF⟩ := og_some hF
    exact mr_z hC hH hr g_29 hF dX13_isText_68 hlocks
def f_is (a0 : Nat) (u : MS) : Option (Int32 × MS) := (if (u.1 46) = 1 then ob (f_isText a0 u) (fun r_2 u_3 => (if r_2 = 0 then some (0, u_3) else some (1, u_3))) else (if (u.1 46) = 3 then ob (f_isText a0 u) (fun r_7 u_8 => (if r_7 = 0 then some (0, u_8) else some (1, u_8))) else some (0, u)))
set_option maxHeartbeats 4000000 in
set_option maxRecDepth 100000 in
theorem m_is (l : Launch) (G : gG) (Z : gM) (Q : Nat → Nat) (u u1 : MS) (r : Int32) (a0 : Nat) (sz : Nat) (hF : f_is a0 u = some (r, u1)) (hs_a0 : a0 < 38) : Met l yX13_is (Cond.code yX13_is cX13_is 2 (some .boolean) :: wM) { frames := 5, cells := 0, slots := 0, locals := 108 } (va_Pc [.ref (Q 72), .ref (Z.1 a0)] (mPM G Z Q u sz)) (mQi G Q u1 r sz) 0 0 (mA Q sz) := by
  refine Met.ofW (cc := cX13_is) (maxL := 2) (ret := (some .boolean)) (by decide) rfl ?_
  intro p e s m args below meth c s₁ B hml hv
  obtain ⟨rfl, rfl, hP, hB, hD, hE⟩ := hv
  have hr := B.returns
  have hlocks := B.notSynchronized
  have hts := atoms_spec (ws := Cond.code yX13_is cX13_is 2 (some .boolean) :: wM) B.pre
  have hC : mX p c cX13_is 2 s m _ G Z Q := ⟨B.exec, B.bytes, hml, findClass_of_methodNamed B.named, fun w h => hts w (List.mem_cons_of_mem _ h), hB, hE⟩
  have hx := hC.1
  have hb := hC.2.1
  have hH : mH G Q u s s.heap [] := ⟨hP, hD, va_S.rf⟩
  have hl := lv_entry ([.ref (Q 72), .ref (Z.1 a0)]) (n := 2) (Nat.le_of_ble_eq_true rfl)
  rw [lg_entry_eq]
  generalize (lg_sl ([.ref (Q 72), .ref (Z.1 a0)]) ++ List.replicate (2 - (lg_sl ([.ref (Q 72), .ref (Z.1 a0)])).length) Slot.unset).toArray = ls at hl ⊢
  have hl : lv_has ls 2 [(0, .ref (Q 72)), (1, .ref (Z.1 a0))] := hl
  unfold f_is at hF
  refine lv_aload_n hx hb dX13_is_0 rfl (lv_at hl 0 rfl) ?_
  refine mg_46 hC hH dX13_is_1 ?_
  refine lv_iconst (v := 1) hx hb dX13_is_4 (by decide) ?_
  refine lv_icmp_eq (tgt := 16) hx hb dX13_is_5 (by decide) (fun c_1 => ?_) (fun c_1 => ?_)
  · rw [if_pos c_1] at hF
    refine lv_aload_n hx hb dX13_is_16 rfl (lv_at hl 0 rfl) ?_
    refine lv_aload_n hx hb dX13_is_17 rfl (lv_at hl 1 rfl) ?_
    obtain ⟨r_2, u_3, h_4, hF⟩ := ob_some hF
    refine mcV_i (As := [.ref (Z.1 a0)]) (rest := []) hC hH (m_isText l G Z Q u u_3 r_2 a0 _ h_4 (by exact hs_a0)) kwX13_isText kVX13_isText ⟨Nat.le_of_ble_eq_true rfl, Nat.le_of_ble_eq_true rfl⟩ rfl hl.1 rfl (Nat.le_of_ble_eq_true rfl) dX13_is_18 (fun H locs hH => ?_)
    refine lv_if_eq (tgt := 28) hx hb dX13_is_21 (by decide) (fun c_5 => ?_) (fun c_5 => ?_)
    · rw [if_pos c_5] at hF
      refine lv_iconst (v := 0) hx hb dX13_is_28 (by decide) ?_
      exact mr_z hC hH hr rfl hF dX13_is_29 hlocks
    · rw [if_neg c_5] at hF
      refine lv_iconst (v := 1) hx hb dX13_is_24 (by decide) ?_
      refine lv_goto (tgt := 29) hx hb dX13_is_25 (by decide) ?_
      exact mr_z hC hH hr rfl hF dX13_is_29 hlocks
  · rw [if_neg c_1] at hF
    refine lv_aload_n hx hb dX13_is_8 rfl (lv_at hl 0 rfl) ?_
    refine mg_46 hC hH dX13_is_9 ?_
    refine lv_iconst (v := 3) hx hb dX13_is_12 (by decide) ?_
    refine lv_icmp_ne (tgt := 28) hx hb dX13_is_13 (by decide) (fun c_6 => ?_) (fun c_6 => ?_)
    · rw [if_neg c_6] at hF
      refine lv_iconst (v := 0) hx hb dX13_is_28 (by decide) ?_
      exact mr_z hC hH hr rfl hF dX13_is_29 hlocks
    · rw [if_pos c_6] at hF
      refine lv_aload_n hx hb dX13_is_16 rfl (lv_at hl 0 rfl) ?_
      refine lv_aload_n hx hb dX13_is_17 rfl (lv_at hl 1 rfl) ?_
      obtain ⟨r_7, u_8, h_9, hF⟩ := ob_some hF
      refine mcV_i (As := [.ref (Z.1 a0)]) (rest := []) hC hH (m_isText l G Z Q u u_8 r_7 a0 _ h_9 (by exact hs_a0)) kwX13_isText kVX13_isText ⟨Nat.le_of_ble_eq_true rfl, Nat.le_of_ble_eq_true rfl⟩ rfl hl.1 rfl (Nat.le_of_ble_eq_true rfl) dX13_is_18 (fun H locs hH => ?_)
      refine lv_if_eq (tgt := 28) hx hb dX13_is_21 (by decide) (fun c_10 => ?_) (fun c_10 => ?_)
      · rw [if_pos c_10] at hF
        refine lv_iconst (v := 0) hx hb dX13_is_28 (by decide) ?_
        exact mr_z hC hH hr rfl hF dX13_is_29 hlocks
      · rw [if_neg c_10] at hF
        refine lv_iconst (v := 1) hx hb dX13_is_24 (by decide) ?_
        refine lv_goto (tgt := 29) hx hb dX13_is_25 (by decide) ?_
        exact mr_z hC hH hr rfl hF dX13_is_29 hlocks
def f_need (a0 : Nat) (u : MS) : Option (Option Int32 × MS) := ob (f_is a0 u) (fun r_1 u_2 => (if r_1 = 0 then ob (f_wrong 1 (u_2.1 44) u_2) (fun r_8 u_9 => some (none, u_9)) else ob (f_scan u_2) (fun r_5 u_6 => some (some 0, u_6))))
set_option maxHeartbeats 4000000 in
set_option maxRecDepth 100000 in
theorem m_need (l : Launch) (G : gG) (Z : gM) (Q : Nat → Nat) (u u1 : MS) (r : Int32) (a0 : Nat) (sz : Nat) (hF : f_need a0 u = some (some r, u1)) (hs_a0 : a0 < 38) : Met l yX13_need (Cond.code yX13_need cX13_need 2 none :: wM) { frames := 6, cells := 0, slots := 0, locals := 129 } (va_Pc [.ref (Q 72), .ref (Z.1 a0)] (mPM G Z Q u sz)) (mQv G Q u1 sz) 0 0 (mA Q sz) := by
  refine Met.ofW (cc := cX13_need) (maxL := 2) (ret := none) (by decide) rfl ?_
  intro p e s m args below meth c s₁ B hml hv
  obtain ⟨rfl, rfl, hP, hB, hD, hE⟩ := hv
  have hr := B.returns
  have hlocks := B.notSynchronized
  have hts := atoms_spec (ws := Cond.code yX13_need cX13_need 2 none :: wM) B.pre
  have hC : mX p c cX13_need 2 s m _ G Z Q := ⟨B.exec, B.bytes, hml, findClass_of_methodNamed B.named, fun w h => hts w (List.mem_cons_of_mem _ h), hB, hE⟩
  have hx := hC.1
  have hb := hC.2.1
  have hH : mH G Q u s s.heap [] := ⟨hP, hD, va_S.rf⟩
  have hl := lv_entry ([.ref (Q 72), .ref (Z.1 a0)]) (n := 2) (Nat.le_of_ble_eq_true rfl)
  rw [lg_entry_eq]
  generalize (lg_sl ([.ref (Q 72), .ref (Z.1 a0)]) ++ List.replicate (2 - (lg_sl ([.ref (Q 72), .ref (Z.1 a0)])).length) Slot.unset).toArray = ls at hl ⊢
  have hl : lv_has ls 2 [(0, .ref (Q 72)), (1, .ref (Z.1 a0))] := hl
  unfold f_need at hF
  refine lv_aload_n hx hb dX13_need_0 rfl (lv_at hl 0 rfl) ?_
  refine lv_aload_n hx hb dX13_need_1 rfl (lv_at hl 1 rfl) ?_
  obtain ⟨r_1, u_2, h_3, hF⟩ := ob_some hF
  refine mcV_i (As := [.ref (Z.1 a0)]) (rest := []) hC hH (m_is l G Z Q u u_2 r_1 a0 _ h_3 (by exact hs_a0)) kwX13_is kVX13_is ⟨Nat.le_of_ble_eq_true rfl, Nat.le_of_ble_eq_true rfl⟩ rfl hl.1 rfl (Nat.le_of_ble_eq_true rfl) dX13_need_2 (fun H locs hH => ?_)
  refine lv_if_ne (tgt := 18) hx hb dX13_need_5 (by decide) (fun c_4 => ?_) (fun c_4 => ?_)
  · rw [if_neg c_4] at hF
    refine lv_aload_n hx hb dX13_need_18 rfl (lv_at hl 0 rfl) ?_
    obtain ⟨r_5, u_6, h_7, hF⟩ := ob_some hF
    refine mcV_v (As := []) (rest := []) hC hH (m_scan l G Z Q u_2 u_6 r_5  _ h_7) kwX13_scan kVX13_scan ⟨Nat.le_of_ble_eq_true rfl, Nat.le_of_ble_eq_true rfl⟩ rfl hl.1 rfl (Nat.le_of_ble_eq_true rfl) dX13_need_19 (fun H locs hH => ?_)
    have hF := mthr_eq hF
    exact mr_v hC hH hr hF dX13_need_22 hlocks
  · rw [if_pos c_4] at hF
    refine lv_aload_n hx hb dX13_need_8 rfl (lv_at hl 0 rfl) ?_
    refine lv_iconst (v := 1) hx hb dX13_need_9 (by decide) ?_
    refine lv_aload_n hx hb dX13_need_10 rfl (lv_at hl 0 rfl) ?_
    refine mg_44 hC hH dX13_need_11 ?_
    obtain ⟨r_8, u_9, h_10, hF⟩ := ob_some hF
    refine mcV_r (As := [.int 1, .int (u_2.1 44)]) (rest := []) hC hH (m_wrong l G Z Q u_2 u_9 r_8 1 (u_2.1 44) _ h_10) kwX13_wrong kVX13_wrong ⟨Nat.le_of_ble_eq_true rfl, Nat.le_of_ble_eq_true rfl⟩ rfl hl.1 rfl (Nat.le_of_ble_eq_true rfl) dX13_need_14 (fun H locs hH => ?_)
    cases hF
set_option maxHeartbeats 4000000 in
set_option maxRecDepth 100000 in
theorem t_need (l : Launch) (G : gG) (Z : gM) (Q : Nat → Nat) (u u1 : MS) (a0 : Nat) (sz : Nat) (hF : f_need a0 u = some (none, u1)) (hs_a0 : a0 < 38) : MetT l yX13_need (Cond.code yX13_need cX13_need 2 none :: wM) { frames := 6, cells := 0, slots := 0, locals := 129 } (va_Pc [.ref (Q 72), .ref (Z.1 a0)] (mPM G Z Q u sz)) (mQt G Q u1 sz) 0 0 (mA Q sz) := by
  refine MetT.ofW (cc := cX13_need) (maxL := 2) (ret := none) (by decide) rfl ?_
  intro p e s m args below meth c s₁ B hml hv
  obtain ⟨rfl, rfl, hP, hB, hD, hE⟩ := hv
  have hr := B.returns
  have hlocks := B.notSynchronized
  have hts := atoms_spec (ws := Cond.code yX13_need cX13_need 2 none :: wM) B.pre
  have hC : mX p c cX13_need 2 s m _ G Z Q := ⟨B.exec, B.bytes, hml, findClass_of_methodNamed B.named, fun w h => hts w (List.mem_cons_of_mem _ h), hB, hE⟩
  have hx := hC.1
  have hb := hC.2.1
  have hH : mH G Q u s s.heap [] := ⟨hP, hD, va_S.rf⟩
  have hno : c.exceptionTable.isEmpty = true := BodyLoose.noHandlers B (hts _ List.mem_cons_self)
  have hl := lv_entry ([.ref (Q 72), .ref (Z.1 a0)]) (n := 2) (Nat.le_of_ble_eq_true rfl)
  rw [lg_entry_eq]
  generalize (lg_sl ([.ref (Q 72), .ref (Z.1 a0)]) ++ List.replicate (2 - (lg_sl ([.ref (Q 72), .ref (Z.1 a0)])).length) Slot.unset).toArray = ls at hl ⊢
  have hl : lv_has ls 2 [(0, .ref (Q 72)), (1, .ref (Z.1 a0))] := hl
  unfold f_need at hF
  refine lv_aload_n hx hb dX13_need_0 rfl (lv_at hl 0 rfl) ?_
  refine lv_aload_n hx hb dX13_need_1 rfl (lv_at hl 1 rfl) ?_
  obtain ⟨r_1, u_2, h_3, hF⟩ := ob_some hF
  refine mcV_i (As := [.ref (Z.1 a0)]) (rest := []) hC hH (m_is l G Z Q u u_2 r_1 a0 _ h_3 (by exact hs_a0)) kwX13_is kVX13_is ⟨Nat.le_of_ble_eq_true rfl, Nat.le_of_ble_eq_true rfl⟩ rfl hl.1 rfl (Nat.le_of_ble_eq_true rfl) dX13_need_2 (fun H locs hH => ?_)
  refine lv_if_ne (tgt := 18) hx hb dX13_need_5 (by decide) (fun c_4 => ?_) (fun c_4 => ?_)
  · rw [if_neg c_4] at hF
    refine lv_aload_n hx hb dX13_need_18 rfl (lv_at hl 0 rfl) ?_
    obtain ⟨r_5, u_6, h_7, hF⟩ := ob_some hF
    refine mcV_v (As := []) (rest := []) hC hH (m_scan l G Z Q u_2 u_6 r_5  _ h_7) kwX13_scan kVX13_scan ⟨Nat.le_of_ble_eq_true rfl, Nat.le_of_ble_eq_true rfl⟩ rfl hl.1 rfl (Nat.le_of_ble_eq_true rfl) dX13_need_19 (fun H locs hH => ?_)
    cases hF
  · rw [if_pos c_4] at hF
    refine lv_aload_n hx hb dX13_need_8 rfl (lv_at hl 0 rfl) ?_
    refine lv_iconst (v := 1) hx hb dX13_need_9 (by decide) ?_
    refine lv_aload_n hx hb dX13_need_10 rfl (lv_at hl 0 rfl) ?_
    refine mg_44 hC hH dX13_need_11 ?_
    obtain ⟨r_8, u_9, h_10, hF⟩ := ob_some hF
    refine mcV_r (As := [.int 1, .int (u_2.1 44)]) (rest := []) hC hH (m_wrong l G Z Q u_2 u_9 r_8 1 (u_2.1 44) _ h_10) kwX13_wrong kVX13_wrong ⟨Nat.le_of_ble_eq_true rfl, Nat.le_of_ble_eq_true rfl⟩ rfl hl.1 rfl (Nat.le_of_ble_eq_true rfl) dX13_need_14 (fun H locs hH => ?_)
    exact mt_throw hC hH hno hF dX13_need_17 hlocks
def f_number  (u : MS) : Option (Option Int32 × MS) := (if (u.1 46) = 2 then li (u.1 47) (fun x_2 => ob (f_scan u) (fun r_4 u_5 => some (some x_2, u_5))) else ob (f_wrong 1 (u.1 44) u) (fun r_7 u_8 => some (none, u_8)))
set_option maxHeartbeats 4000000 in
set_option maxRecDepth 100000 in
theorem m_number (l : Launch) (G : gG) (Z : gM) (Q : Nat → Nat) (u u1 : MS) (r : Int32)  (sz : Nat) (hF : f_number u = some (some r, u1)) : Met l yX13_number (Cond.code yX13_number cX13_number 2 (some .int) :: wM) { frames := 5, cells := 0, slots := 0, locals := 113 } (va_Pc [.ref (Q 72)] (mPM G Z Q u sz)) (mQi G Q u1 r sz) 0 0 (mA Q sz) := by
  refine Met.ofW (cc := cX13_number) (maxL := 2) (ret := (some .int)) (by decide) rfl ?_
  intro p e s m args below meth c s₁ B hml hv
  obtain ⟨rfl, rfl, hP, hB, hD, hE⟩ := hv
  have hr := B.returns
  have hlocks := B.notSynchronized
  have hts := atoms_spec (ws := Cond.code yX13_number cX13_number 2 (some .int) :: wM) B.pre
  have hC : mX p c cX13_number 2 s m _ G Z Q := ⟨B.exec, B.bytes, hml, findClass_of_methodNamed B.named, fun w h => hts w (List.mem_cons_of_mem _ h), hB, hE⟩
  have hx := hC.1
  have hb := hC.2.1
  have hH : mH G Q u s s.heap [] := ⟨hP, hD, va_S.rf⟩
  have hl := lv_entry ([.ref (Q 72)]) (n := 2) (Nat.le_of_ble_eq_true rfl)
  rw [lg_entry_eq]
  generalize (lg_sl ([.ref (Q 72)]) ++ List.replicate (2 - (lg_sl ([.ref (Q 72)])).length) Slot.unset).toArray = ls at hl ⊢
  have hl : lv_has ls 2 [(0, .ref (Q 72))] := hl
  unfold f_number at hF
  refine lv_aload_n hx hb dX13_number_0 rfl (lv_at hl 0 rfl) ?_
  refine mg_46 hC hH dX13_number_1 ?_
  refine lv_iconst (v := 2) hx hb dX13_number_4 (by decide) ?_
  refine lv_icmp_eq (tgt := 18) hx hb dX13_number_5 (by decide) (fun c_1 => ?_) (fun c_1 => ?_)
  · rw [if_pos c_1] at hF
    refine lv_aload_n hx hb dX13_number_18 rfl (lv_at hl 0 rfl) ?_
    refine mg_47 hC hH dX13_number_19 ?_
    obtain ⟨x_2, e_3, hF⟩ := li_some hF
    refine gx_ti e_3 ?_
    refine lv_istore_n (lv' := [(1, .int x_2), (0, .ref (Q 72))]) hx hb dX13_number_22 rfl hl (by decide) rfl (fun ls hl => ?_)
    refine lv_aload_n hx hb dX13_number_23 rfl (lv_at hl 1 rfl) ?_
    obtain ⟨r_4, u_5, h_6, hF⟩ := ob_some hF
    refine mcV_v (As := []) (rest := []) hC hH (m_scan l G Z Q u u_5 r_4  _ h_6) kwX13_scan kVX13_scan ⟨Nat.le_of_ble_eq_true rfl, Nat.le_of_ble_eq_true rfl⟩ rfl hl.1 rfl (Nat.le_of_ble_eq_true rfl) dX13_number_24 (fun H locs hH => ?_)
    refine lv_iload_n hx hb dX13_number_27 rfl (lv_at hl 0 rfl) ?_
    have hF := mthr_eq hF
    exact mr_i hC hH hr hF dX13_number_28 hlocks
  · rw [if_neg c_1] at hF
    refine lv_aload_n hx hb dX13_number_8 rfl (lv_at hl 0 rfl) ?_
    refine lv_iconst (v := 1) hx hb dX13_number_9 (by decide) ?_
    refine lv_aload_n hx hb dX13_number_10 rfl (lv_at hl 0 rfl) ?_
    refine mg_44 hC hH dX13_number_11 ?_
    obtain ⟨r_7, u_8, h_9, hF⟩ := ob_some hF
    refine mcV_r (As := [.int 1, .int (u.1 44)]) (rest := []) hC hH (m_wrong l G Z Q u u_8 r_7 1 (u.1 44) _ h_9) kwX13_wrong kVX13_wrong ⟨Nat.le_of_ble_eq_true rfl, Nat.le_of_ble_eq_true rfl⟩ rfl hl.1 rfl (Nat.le_of_ble_eq_true rfl) dX13_number_14 (fun H locs hH => ?_)
    cases hF
set_option maxHeartbeats 4000000 in
set_option maxRecDepth 100000 in
theorem t_number (l : Launch) (G : gG) (Z : gM) (Q : Nat → Nat) (u u1 : MS)  (sz : Nat) (hF : f_number u = some (none, u1)) : MetT l yX13_number (Cond.code yX13_number cX13_number 2 (some .int) :: wM) { frames := 5, cells := 0, slots := 0, locals := 113 } (va_Pc [.ref (Q 72)] (mPM G Z Q u sz)) (mQt G Q u1 sz) 0 0 (mA Q sz) := by
  refine MetT.ofW (cc := cX13_number) (maxL := 2) (ret := (some .int)) (by decide) rfl ?_
  intro p e s m args below meth c s₁ B hml hv
  obtain ⟨rfl, rfl, hP, hB, hD, hE⟩ := hv
  have hr := B.returns
  have hlocks := B.notSynchronized
  have hts := atoms_spec (ws := Cond.code yX13_number cX13_number 2 (some .int) :: wM) B.pre
  have hC : mX p c cX13_number 2 s m _ G Z Q := ⟨B.exec, B.bytes, hml, findClass_of_methodNamed B.named, fun w h => hts w (List.mem_cons_of_mem _ h), hB, hE⟩
  have hx := hC.1
  have hb := hC.2.1
  have hH : mH G Q u s s.heap [] := ⟨hP, hD, va_S.rf⟩
  have hno : c.exceptionTable.isEmpty = true := BodyLoose.noHandlers B (hts _ List.mem_cons_self)
  have hl := lv_entry ([.ref (Q 72)]) (n := 2) (Nat.le_of_ble_eq_true rfl)
  rw [lg_entry_eq]
  generalize (lg_sl ([.ref (Q 72)]) ++ List.replicate (2 - (lg_sl ([.ref (Q 72)])).length) Slot.unset).toArray = ls at hl ⊢
  have hl : lv_has ls 2 [(0, .ref (Q 72))] := hl
  unfold f_number at hF
  refine lv_aload_n hx hb dX13_number_0 rfl (lv_at hl 0 rfl) ?_
  refine mg_46 hC hH dX13_number_1 ?_
  refine lv_iconst (v := 2) hx hb dX13_number_4 (by decide) ?_
  refine lv_icmp_eq (tgt := 18) hx hb dX13_number_5 (by decide) (fun c_1 => ?_) (fun c_1 => ?_)
  · rw [if_pos c_1] at hF
    refine lv_aload_n hx hb dX13_number_18 rfl (lv_at hl 0 rfl) ?_
    refine mg_47 hC hH dX13_number_19 ?_
    obtain ⟨x_2, e_3, hF⟩ := li_some hF
    refine gx_ti e_3 ?_
    refine lv_istore_n (lv' := [(1, .int x_2), (0, .ref (Q 72))]) hx hb dX13_number_22 rfl hl (by decide) rfl (fun ls hl => ?_)
    refine lv_aload_n hx hb dX13_number_23 rfl (lv_at hl 1 rfl) ?_
    obtain ⟨r_4, u_5, h_6, hF⟩ := ob_some hF
    refine mcV_v (As := []) (rest := []) hC hH (m_scan l G Z Q u u_5 r_4  _ h_6) kwX13_scan kVX13_scan ⟨Nat.le_of_ble_eq_true rfl, Nat.le_of_ble_eq_true rfl⟩ rfl hl.1 rfl (Nat.le_of_ble_eq_true rfl) dX13_number_24 (fun H locs hH => ?_)
    refine lv_iload_n hx hb dX13_number_27 rfl (lv_at hl 0 rfl) ?_
    cases hF
  · rw [if_neg c_1] at hF
    refine lv_aload_n hx hb dX13_number_8 rfl (lv_at hl 0 rfl) ?_
    refine lv_iconst (v := 1) hx hb dX13_number_9 (by decide) ?_
    refine lv_aload_n hx hb dX13_number_10 rfl (lv_at hl 0 rfl) ?_
    refine mg_44 hC hH dX13_number_11 ?_
    obtain ⟨r_7, u_8, h_9, hF⟩ := ob_some hF
    refine mcV_r (As := [.int 1, .int (u.1 44)]) (rest := []) hC hH (m_wrong l G Z Q u u_8 r_7 1 (u.1 44) _ h_9) kwX13_wrong kVX13_wrong ⟨Nat.le_of_ble_eq_true rfl, Nat.le_of_ble_eq_true rfl⟩ rfl hl.1 rfl (Nat.le_of_ble_eq_true rfl) dX13_number_14 (fun H locs hH => ?_)
    exact mt_throw hC hH hno hF dX13_number_17 hlocks
def f_isQuoted  (u : MS) : Option (Int32 × MS) := ob (f_is 1 u) (fun r_1 u_2 => (if r_1 = 0 then ob (f_is 2 u_2) (fun r_5 u_6 => (if r_5 = 0 then ob (f_is 3 u_6) (fun r_9 u_10 => (if r_9 = 0 then ob (f_is 4 u_10) (fun r_13 u_14 => (if r_13 = 0 then ob (f_is 5 u_14) (fun r_17 u_18 => (if r_17 = 0 then ob (f_is 6 u_18) (fun r_21 u_22 => (if r_21 = 0 then ob (f_is 7 u_22) (fun r_25 u_26 => (if r_25 = 0 then ob (f_is 8 u_26) (fun r_29 u_30 => (if r_29 = 0 then ob (f_is 9 u_30) (fun r_33 u_34 => (if r_33 = 0 then ob (f_is 10 u_34) (fun r_37 u_38 => (if r_37 = 0 then ob (f_is 11 u_38) (fun r_41 u_42 => (if r_41 = 0 then ob (f_is 12 u_42) (fun r_45 u_46 => (if r_45 = 0 then ob (f_is 13 u_46) (fun r_49 u_50 => (if r_49 = 0 then some (0, u_50) else some (1, u_50))) else some (1, u_46))) else some (1, u_42))) else some (1, u_38))) else some (1, u_34))) else some (1, u_30))) else some (1, u_26))) else some (1, u_22))) else some (1, u_18))) else some (1, u_14))) else some (1, u_10))) else some (1, u_6))) else some (1, u_2)))
set_option maxHeartbeats 4000000 in
set_option maxRecDepth 100000 in
theorem m_isQuoted (l : Launch) (G : gG) (Z : gM) (Q : Nat → Nat) (u u1 : MS) (r : Int32)  (sz : Nat) (hF : f_isQuoted u = some (r, u1)) : Met l yX13_isQuoted (Cond.code yX13_isQuoted cX13_isQuoted 1 (some .boolean) :: wM) { frames := 6, cells := 0, slots := 0, locals := 129 } (va_Pc [.ref (Q 72)] (mPM G Z Q u sz)) (mQi G Q u1 r sz) 0 0 (mA Q sz) := by
  refine Met.ofW (cc := cX13_isQuoted) (maxL := 1) (ret := (some .boolean)) (by decide) rfl ?_
  intro p e s m args below meth c s₁ B hml hv
  obtain ⟨rfl, rfl, hP, hB, hD, hE⟩ := hv
  have hr := B.returns
  have hlocks := B.notSynchronized
  have hts := atoms_spec (ws := Cond.code yX13_isQuoted cX13_isQuoted 1 (some .boolean) :: wM) B.pre
  have hC : mX p c cX13_isQuoted 1 s m _ G Z Q := ⟨B.exec, B.bytes, hml, findClass_of_methodNamed B.named, fun w h => hts w (List.mem_cons_of_mem _ h), hB, hE⟩
  have hx := hC.1
  have hb := hC.2.1
  have hH : mH G Q u s s.heap [] := ⟨hP, hD, va_S.rf⟩
  have hl := lv_entry ([.ref (Q 72)]) (n := 1) (Nat.le_of_ble_eq_true rfl)
  rw [lg_entry_eq]
  generalize (lg_sl ([.ref (Q 72)]) ++ List.replicate (1 - (lg_sl ([.ref (Q 72)])).length) Slot.unset).toArray = ls at hl ⊢
  have hl : lv_has ls 1 [(0, .ref (Q 72))] := hl
  unfold f_isQuoted at hF
  refine lv_aload_n hx hb dX13_isQuoted_0 rfl (lv_at hl 0 rfl) ?_
  refine th_ldcw (tx := sTx 1) hx hb hC.2.2.2.1 (hC.2.2.2.2.2.2.2.2.1 1 (by decide)) dX13_isQuoted_1 ?_
  obtain ⟨r_1, u_2, h_3, hF⟩ := ob_some hF
  refine mcV_i (As := [.ref (Z.1 1)]) (rest := []) hC hH (m_is l G Z Q u u_2 r_1 1 _ h_3 (by decide)) kwX13_is kVX13_is ⟨Nat.le_of_ble_eq_true rfl, Nat.le_of_ble_eq_true rfl⟩ rfl hl.1 rfl (Nat.le_of_ble_eq_true rfl) dX13_isQuoted_4 (fun H locs hH => ?_)
  refine lv_if_ne (tgt := 130) hx hb dX13_isQuoted_7 (by decide) (fun c_4 => ?_) (fun c_4 => ?_)
  · rw [if_neg c_4] at hF
    refine lv_iconst (v := 1) hx hb dX13_isQuoted_130 (by decide) ?_
    refine lv_goto (tgt := 135) hx hb dX13_isQuoted_131 (by decide) ?_
    exact mr_z hC hH hr rfl hF dX13_isQuoted_135 hlocks
  · rw [if_pos c_4] at hF
    refine lv_aload_n hx hb dX13_isQuoted_10 rfl (lv_at hl 0 rfl) ?_
    refine th_ldcw (tx := sTx 2) hx hb hC.2.2.2.1 (hC.2.2.2.2.2.2.2.2.1 2 (by decide)) dX13_isQuoted_11 ?_
    obtain ⟨r_5, u_6, h_7, hF⟩ := ob_some hF
    refine mcV_i (As := [.ref (Z.1 2)]) (rest := []) hC hH (m_is l G Z Q u_2 u_6 r_5 2 _ h_7 (by decide)) kwX13_is kVX13_is ⟨Nat.le_of_ble_eq_true rfl, Nat.le_of_ble_eq_true rfl⟩ rfl hl.1 rfl (Nat.le_of_ble_eq_true rfl) dX13_isQuoted_14 (fun H locs hH => ?_)
    refine lv_if_ne (tgt := 130) hx hb dX13_isQuoted_17 (by decide) (fun c_8 => ?_) (fun c_8 => ?_)
    · rw [if_neg c_8] at hF
      refine lv_iconst (v := 1) hx hb dX13_isQuoted_130 (by decide) ?_
      refine lv_goto (tgt := 135) hx hb dX13_isQuoted_131 (by decide) ?_
      exact mr_z hC hH hr rfl hF dX13_isQuoted_135 hlocks
    · rw [if_pos c_8] at hF
      refine lv_aload_n hx hb dX13_isQuoted_20 rfl (lv_at hl 0 rfl) ?_
      refine th_ldcw (tx := sTx 3) hx hb hC.2.2.2.1 (hC.2.2.2.2.2.2.2.2.1 3 (by decide)) dX13_isQuoted_21 ?_
      obtain ⟨r_9, u_10, h_11, hF⟩ := ob_some hF
      refine mcV_i (As := [.ref (Z.1 3)]) (rest := []) hC hH (m_is l G Z Q u_6 u_10 r_9 3 _ h_11 (by decide)) kwX13_is kVX13_is ⟨Nat.le_of_ble_eq_true rfl, Nat.le_of_ble_eq_true rfl⟩ rfl hl.1 rfl (Nat.le_of_ble_eq_true rfl) dX13_isQuoted_24 (fun H locs hH => ?_)
      refine lv_if_ne (tgt := 130) hx hb dX13_isQuoted_27 (by decide) (fun c_12 => ?_) (fun c_12 => ?_)
      · rw [if_neg c_12] at hF
        refine lv_iconst (v := 1) hx hb dX13_isQuoted_130 (by decide) ?_
        refine lv_goto (tgt := 135) hx hb dX13_isQuoted_131 (by decide) ?_
        exact mr_z hC hH hr rfl hF dX13_isQuoted_135 hlocks
      · rw [if_pos c_12] at hF
        refine lv_aload_n hx hb dX13_isQuoted_30 rfl (lv_at hl 0 rfl) ?_
        refine th_ldcw (tx := sTx 4) hx hb hC.2.2.2.1 (hC.2.2.2.2.2.2.2.2.1 4 (by decide)) dX13_isQuoted_31 ?_
        obtain ⟨r_13, u_14, h_15, hF⟩ := ob_some hF
        refine mcV_i (As := [.ref (Z.1 4)]) (rest := []) hC hH (m_is l G Z Q u_10 u_14 r_13 4 _ h_15 (by decide)) kwX13_is kVX13_is ⟨Nat.le_of_ble_eq_true rfl, Nat.le_of_ble_eq_true rfl⟩ rfl hl.1 rfl (Nat.le_of_ble_eq_true rfl) dX13_isQuoted_34 (fun H locs hH => ?_)
        refine lv_if_ne (tgt := 130) hx hb dX13_isQuoted_37 (by decide) (fun c_16 => ?_) (fun c_16 => ?_)
        · rw [if_neg c_16] at hF
          refine lv_iconst (v := 1) hx hb dX13_isQuoted_130 (by decide) ?_
          refine lv_goto (tgt := 135) hx hb dX13_isQuoted_131 (by decide) ?_
          exact mr_z hC hH hr rfl hF dX13_isQuoted_135 hlocks
        · rw [if_pos c_16] at hF
          refine lv_aload_n hx hb dX13_isQuoted_40 rfl (lv_at hl 0 rfl) ?_
          refine th_ldcw (tx := sTx 5) hx hb hC.2.2.2.1 (hC.2.2.2.2.2.2.2.2.1 5 (by decide)) dX13_isQuoted_41 ?_
          obtain ⟨r_17, u_18, h_19, hF⟩ := ob_some hF
          refine mcV_i (As := [.ref (Z.1 5)]) (rest := []) hC hH (m_is l G Z Q u_14 u_18 r_17 5 _ h_19 (by decide)) kwX13_is kVX13_is ⟨Nat.le_of_ble_eq_true rfl, Nat.le_of_ble_eq_true rfl⟩ rfl hl.1 rfl (Nat.le_of_ble_eq_true rfl) dX13_isQuoted_44 (fun H locs hH => ?_)
          refine lv_if_ne (tgt := 130) hx hb dX13_isQuoted_47 (by decide) (fun c_20 => ?_) (fun c_20 => ?_)
          · rw [if_neg c_20] at hF
            refine lv_iconst (v := 1) hx hb dX13_isQuoted_130 (by decide) ?_
            refine lv_goto (tgt := 135) hx hb dX13_isQuoted_131 (by decide) ?_
            exact mr_z hC hH hr rfl hF dX13_isQuoted_135 hlocks
          · rw [if_pos c_20] at hF
            refine lv_aload_n hx hb dX13_isQuoted_50 rfl (lv_at hl 0 rfl) ?_
            refine th_ldcw (tx := sTx 6) hx hb hC.2.2.2.1 (hC.2.2.2.2.2.2.2.2.1 6 (by decide)) dX13_isQuoted_51 ?_
            obtain ⟨r_21, u_22, h_23, hF⟩ := ob_some hF
            refine mcV_i (As := [.ref (Z.1 6)]) (rest := []) hC hH (m_is l G Z Q u_18 u_22 r_21 6 _ h_23 (by decide)) kwX13_is kVX13_is ⟨Nat.le_of_ble_eq_true rfl, Nat.le_of_ble_eq_true rfl⟩ rfl hl.1 rfl (Nat.le_of_ble_eq_true rfl) dX13_isQuoted_54 (fun H locs hH => ?_)
            refine lv_if_ne (tgt := 130) hx hb dX13_isQuoted_57 (by decide) (fun c_24 => ?_) (fun c_24 => ?_)
            · rw [if_neg c_24] at hF
              refine lv_iconst (v := 1) hx hb dX13_isQuoted_130 (by decide) ?_
              refine lv_goto (tgt := 135) hx hb dX13_isQuoted_131 (by decide) ?_
              exact mr_z hC hH hr rfl hF dX13_isQuoted_135 hlocks
            · rw [if_pos c_24] at hF
              refine lv_aload_n hx hb dX13_isQuoted_60 rfl (lv_at hl 0 rfl) ?_
              refine th_ldcw (tx := sTx 7) hx hb hC.2.2.2.1 (hC.2.2.2.2.2.2.2.2.1 7 (by decide)) dX13_isQuoted_61 ?_
              obtain ⟨r_25, u_26, h_27, hF⟩ := ob_some hF
              refine mcV_i (As := [.ref (Z.1 7)]) (rest := []) hC hH (m_is l G Z Q u_22 u_26 r_25 7 _ h_27 (by decide)) kwX13_is kVX13_is ⟨Nat.le_of_ble_eq_true rfl, Nat.le_of_ble_eq_true rfl⟩ rfl hl.1 rfl (Nat.le_of_ble_eq_true rfl) dX13_isQuoted_64 (fun H locs hH => ?_)
              refine lv_if_ne (tgt := 130) hx hb dX13_isQuoted_67 (by decide) (fun c_28 => ?_) (fun c_28 => ?_)
              · rw [if_neg c_28] at hF
                refine lv_iconst (v := 1) hx hb dX13_isQuoted_130 (by decide) ?_
                refine lv_goto (tgt := 135) hx hb dX13_isQuoted_131 (by decide) ?_
                exact mr_z hC hH hr rfl hF dX13_isQuoted_135 hlocks
              · rw [if_pos c_28] at hF
                refine lv_aload_n hx hb dX13_isQuoted_70 rfl (lv_at hl 0 rfl) ?_
                refine th_ldcw (tx := sTx 8) hx hb hC.2.2.2.1 (hC.2.2.2.2.2.2.2.2.1 8 (by decide)) dX13_isQuoted_71 ?_
                obtain ⟨r_29, u_30, h_31, hF⟩ := ob_some hF
                refine mcV_i (As := [.ref (Z.1 8)]) (rest := []) hC hH (m_is l G Z Q u_26 u_30 r_29 8 _ h_31 (by decide)) kwX13_is kVX13_is ⟨Nat.le_of_ble_eq_true rfl, Nat.le_of_ble_eq_true rfl⟩ rfl hl.1 rfl (Nat.le_of_ble_eq_true rfl) dX13_isQuoted_74 (fun H locs hH => ?_)
                refine lv_if_ne (tgt := 130) hx hb dX13_isQuoted_77 (by decide) (fun c_32 => ?_) (fun c_32 => ?_)
                · rw [if_neg c_32] at hF
                  refine lv_iconst (v := 1) hx hb dX13_isQuoted_130 (by decide) ?_
                  refine lv_goto (tgt := 135) hx hb dX13_isQuoted_131 (by decide) ?_
                  exact mr_z hC hH hr rfl hF dX13_isQuoted_135 hlocks
                · rw [if_pos c_32] at hF
                  refine lv_aload_n hx hb dX13_isQuoted_80 rfl (lv_at hl 0 rfl) ?_
                  refine th_ldcw (tx := sTx 9) hx hb hC.2.2.2.1 (hC.2.2.2.2.2.2.2.2.1 9 (by decide)) dX13_isQuoted_81 ?_
                  obtain ⟨r_33, u_34, h_35, hF⟩ := ob_some hF
                  refine mcV_i (As := [.ref (Z.1 9)]) (rest := []) hC hH (m_is l G Z Q u_30 u_34 r_33 9 _ h_35 (by decide)) kwX13_is kVX13_is ⟨Nat.le_of_ble_eq_true rfl, Nat.le_of_ble_eq_true rfl⟩ rfl hl.1 rfl (Nat.le_of_ble_eq_true rfl) dX13_isQuoted_84 (fun H locs hH => ?_)
                  refine lv_if_ne (tgt := 130) hx hb dX13_isQuoted_87 (by decide) (fun c_36 => ?_) (fun c_36 => ?_)
                  · rw [if_neg c_36] at hF
                    refine lv_iconst (v := 1) hx hb dX13_isQuoted_130 (by decide) ?_
                    refine lv_goto (tgt := 135) hx hb dX13_isQuoted_131 (by decide) ?_
                    exact mr_z hC hH hr rfl hF dX13_isQuoted_135 hlocks
                  · rw [if_pos c_36] at hF
                    refine lv_aload_n hx hb dX13_isQuoted_90 rfl (lv_at hl 0 rfl) ?_
                    refine th_ldcw (tx := sTx 10) hx hb hC.2.2.2.1 (hC.2.2.2.2.2.2.2.2.1 10 (by decide)) dX13_isQuoted_91 ?_
                    obtain ⟨r_37, u_38, h_39, hF⟩ := ob_some hF
                    refine mcV_i (As := [.ref (Z.1 10)]) (rest := []) hC hH (m_is l G Z Q u_34 u_38 r_37 10 _ h_39 (by decide)) kwX13_is kVX13_is ⟨Nat.le_of_ble_eq_true rfl, Nat.le_of_ble_eq_true rfl⟩ rfl hl.1 rfl (Nat.le_of_ble_eq_true rfl) dX13_isQuoted_94 (fun H locs hH => ?_)
                    refine lv_if_ne (tgt := 130) hx hb dX13_isQuoted_97 (by decide) (fun c_40 => ?_) (fun c_40 => ?_)
                    · rw [if_neg c_40] at hF
                      refine lv_iconst (v := 1) hx hb dX13_isQuoted_130 (by decide) ?_
                      refine lv_goto (tgt := 135) hx hb dX13_isQuoted_131 (by decide) ?_
                      exact mr_z hC hH hr rfl hF dX13_isQuoted_135 hlocks
                    · rw [if_pos c_40] at hF
                      refine lv_aload_n hx hb dX13_isQuoted_100 rfl (lv_at hl 0 rfl) ?_
                      refine th_ldcw (tx := sTx 11) hx hb hC.2.2.2.1 (hC.2.2.2.2.2.2.2.2.1 11 (by decide)) dX13_isQuoted_101 ?_
                      obtain ⟨r_41, u_42, h_43, hF⟩ := ob_some hF
                      refine mcV_i (As := [.ref (Z.1 11)]) (rest := []) hC hH (m_is l G Z Q u_38 u_42 r_41 11 _ h_43 (by decide)) kwX13_is kVX13_is ⟨Nat.le_of_ble_eq_true rfl, Nat.le_of_ble_eq_true rfl⟩ rfl hl.1 rfl (Nat.le_of_ble_eq_true rfl) dX13_isQuoted_104 (fun H locs hH => ?_)
                      refine lv_if_ne (tgt := 130) hx hb dX13_isQuoted_107 (by decide) (fun c_44 => ?_) (fun c_44 => ?_)
                      · rw [if_neg c_44] at hF
                        refine lv_iconst (v := 1) hx hb dX13_isQuoted_130 (by decide) ?_
                        refine lv_goto (tgt := 135) hx hb dX13_isQuoted_131 (by decide) ?_
                        exact mr_z hC hH hr rfl hF dX13_isQuoted_135 hlocks
                      · rw [if_pos c_44] at hF
                        refine lv_aload_n hx hb dX13_isQuoted_110 rfl (lv_at hl 0 rfl) ?_
                        refine th_ldcw (tx := sTx 12) hx hb hC.2.2.2.1 (hC.2.2.2.2.2.2.2.2.1 12 (by decide)) dX13_isQuoted_111 ?_
                        obtain ⟨r_45, u_46, h_47, hF⟩ := ob_some hF
                        refine mcV_i (As := [.ref (Z.1 12)]) (rest := []) hC hH (m_is l G Z Q u_42 u_46 r_45 12 _ h_47 (by decide)) kwX13_is kVX13_is ⟨Nat.le_of_ble_eq_true rfl, Nat.le_of_ble_eq_true rfl⟩ rfl hl.1 rfl (Nat.le_of_ble_eq_true rfl) dX13_isQuoted_114 (fun H locs hH => ?_)
                        refine lv_if_ne (tgt := 130) hx hb dX13_isQuoted_117 (by decide) (fun c_48 => ?_) (fun c_48 => ?_)
                        · rw [if_neg c_48] at hF
                          refine lv_iconst (v := 1) hx hb dX13_isQuoted_130 (by decide) ?_
                          refine lv_goto (tgt := 135) hx hb dX13_isQuoted_131 (by decide) ?_
                          exact mr_z hC hH hr rfl hF dX13_isQuoted_135 hlocks
                        · rw [if_pos c_48] at hF
                          refine lv_aload_n hx hb dX13_isQuoted_120 rfl (lv_at hl 0 rfl) ?_
                          refine th_ldcw (tx := sTx 13) hx hb hC.2.2.2.1 (hC.2.2.2.2.2.2.2.2.1 13 (by decide)) dX13_isQuoted_121 ?_
                          obtain ⟨r_49, u_50, h_51, hF⟩ := ob_some hF
                          refine mcV_i (As := [.ref (Z.1 13)]) (rest := []) hC hH (m_is l G Z Q u_46 u_50 r_49 13 _ h_51 (by decide)) kwX13_is kVX13_is ⟨Nat.le_of_ble_eq_true rfl, Nat.le_of_ble_eq_true rfl⟩ rfl hl.1 rfl (Nat.le_of_ble_eq_true rfl) dX13_isQuoted_124 (fun H locs hH => ?_)
                          refine lv_if_eq (tgt := 134) hx hb dX13_isQuoted_127 (by decide) (fun c_52 => ?_) (fun c_52 => ?_)
                          · rw [if_pos c_52] at hF
                            refine lv_iconst (v := 0) hx hb dX13_isQuoted_134 (by decide) ?_
                            exact mr_z hC hH hr rfl hF dX13_isQuoted_135 hlocks
                          · rw [if_neg c_52] at hF
                            refine lv_iconst (v := 1) hx hb dX13_isQuoted_130 (by decide) ?_
                            refine lv_goto (tgt := 135) hx hb dX13_isQuoted_131 (by decide) ?_
                            exact mr_z hC hH hr rfl hF dX13_isQuoted_135 hlocks
def lp_findSign_36 : Nat → Int32 → Int32 → Int32 → MS → (Int32 → Int32 → Int32 → MS → Option (Int32 × MS)) → Option (Int32 × MS)
  | 0, _, _, _, _, _ => none
  | n36 + 1, v1, v2, v3, u, K36_87 => og (gi v1 8) ((if (ra u 33 v1) ≤ v3 then K36_87 v1 v2 v3 u else (if v2 = 0 then K36_87 v1 v2 v3 u else og (gi ((10 * v1) + v3) 80) (og (gi ((u.1 44) + v3) 3000) ((if (ra u 32 ((10 * v1) + v3)) = (rz u ((u.1 44) + v3)) then li (v3 + 1) (fun x_12 => lp_findSign_36 n36 v1 1 x_12 u K36_87) else li (v3 + 1) (fun x_10 => lp_findSign_36 n36 v1 0 x_10 u K36_87)))))))
def lp_findSign_2 : Nat → Int32 → MS → (Int32 → MS → Option (Int32 × MS)) → Option (Int32 × MS)
  | 0, _, _, _ => none
  | n2 + 1, v1, u, K2_99 => (if (u.1 29) ≤ v1 then K2_99 v1 u else og (gi v1 8) ((if (ra u 33 v1) = ((u.1 45) - (u.1 44)) then lp_findSign_36 fuel v1 1 0 u (fun v1 v2 v3 u => (if v2 = 0 then li (v1 + 1) (fun x_28 => lp_findSign_2 n2 x_28 u K2_99) else some (v1, u))) else lp_findSign_36 fuel v1 0 0 u (fun v1 v2 v3 u => (if v2 = 0 then li (v1 + 1) (fun x_15 => lp_findSign_2 n2 x_15 u K2_99) else some (v1, u))))))
def f_findSign  (u : MS) : Option (Int32 × MS) := lp_findSign_2 fuel 0 u (fun v1 u => some (-1, u))
set_option maxHeartbeats 4000000 in
set_option maxRecDepth 100000 in
theorem m_findSign (l : Launch) (G : gG) (Z : gM) (Q : Nat → Nat) (u u1 : MS) (r : Int32)  (sz : Nat) (hF : f_findSign u = some (r, u1)) : Met l yX13_findSign (Cond.code yX13_findSign cX13_findSign 4 (some .int) :: wM) { frames := 0, cells := 0, slots := 0, locals := 0 } (va_Pc [.ref (Q 72)] (mPM G Z Q u sz)) (mQi G Q u1 r sz) 0 0 (mA Q sz) := by
  refine Met.ofW (cc := cX13_findSign) (maxL := 4) (ret := (some .int)) (by decide) rfl ?_
  intro p e s m args below meth c s₁ B hml hv
  obtain ⟨rfl, rfl, hP, hB, hD, hE⟩ := hv
  have hr := B.returns
  have hlocks := B.notSynchronized
  have hts := atoms_spec (ws := Cond.code yX13_findSign cX13_findSign 4 (some .int) :: wM) B.pre
  have hC : mX p c cX13_findSign 4 s m _ G Z Q := ⟨B.exec, B.bytes, hml, findClass_of_methodNamed B.named, fun w h => hts w (List.mem_cons_of_mem _ h), hB, hE⟩
  have hx := hC.1
  have hb := hC.2.1
  have hH : mH G Q u s s.heap [] := ⟨hP, hD, va_S.rf⟩
  have hl := lv_entry ([.ref (Q 72)]) (n := 4) (Nat.le_of_ble_eq_true rfl)
  rw [lg_entry_eq]
  generalize (lg_sl ([.ref (Q 72)]) ++ List.replicate (4 - (lg_sl ([.ref (Q 72)])).length) Slot.unset).toArray = ls at hl ⊢
  have hl : lv_has ls 4 [(0, .ref (Q 72))] := hl
  unfold f_findSign at hF
  refine lv_iconst (v := 0) hx hb dX13_findSign_0 (by decide) ?_
  refine lv_istore_n (lv' := [(1, .int 0), (0, .ref (Q 72))]) hx hb dX13_findSign_1 rfl hl (by decide) rfl (fun ls hl => ?_)
  have hL2 : ∀ (K2_99 : Int32 → MS → Option (Int32 × MS)), (∀ (v1 : Int32) (u : MS) (H : Heap) (locs : List Loc) (ls : Array Slot), lv_has ls 4 [(0, .ref (Q 72)), (1, .int v1)] → mH G Q u s H locs → K2_99 v1 u = some ((r, u1)) → W p l e (headSpec (Cond.code yX13_findSign cX13_findSign 4 (some .int) :: wM) { frames := 0, cells := 0, slots := 0, locals := 0 }).room s m [.ref (Q 72)].toArray below meth c H locs 0 0 (MQ below (mQi G Q u1 r s.heap.size) [.ref (Q 72)].toArray s 0 0 (mA Q s.heap.size)) (F0 m 99 ls [])) → ∀ (n2 : Nat) (v1 : Int32) (u : MS) (H : Heap) (locs : List Loc) (ls : Array Slot), lv_has ls 4 [(0, .ref (Q 72)), (1, .int v1)] → mH G Q u s H locs → lp_findSign_2 n2 v1 u K2_99 = some ((r, u1)) → W p l e (headSpec (Cond.code yX13_findSign cX13_findSign 4 (some .int) :: wM) { frames := 0, cells := 0, slots := 0, locals := 0 }).room s m [.ref (Q 72)].toArray below meth c H locs 0 0 (MQ below (mQi G Q u1 r s.heap.size) [.ref (Q 72)].toArray s 0 0 (mA Q s.heap.size)) (F0 m 2 ls []) := by
    intro K2_99 hK2_99 n2
    induction n2 with
    | zero => intro v1 u H locs ls hl hH hF; cases hF
    | succ n2 ih2 =>
      intro v1 u H locs ls hl hH hF
      unfold lp_findSign_2 at hF
      refine lv_iload_n hx hb dX13_findSign_2 rfl (lv_at hl 1 rfl) ?_
      refine lv_aload_n hx hb dX13_findSign_3 rfl (lv_at hl 0 rfl) ?_
      refine mg_29 hC hH dX13_findSign_4 ?_
      refine lv_icmp_ge (tgt := 99) hx hb dX13_findSign_7 (by decide) (fun c_1 => ?_) (fun c_1 => ?_)
      · rw [if_pos c_1] at hF
        exact hK2_99 v1 u _ _ _ (lv_sub hl [0, 1] rfl) hH hF
      · rw [if_neg c_1] at hF
        refine lv_aload_n hx hb dX13_findSign_10 rfl (lv_at hl 0 rfl) ?_
        refine mg_33 hC hH dX13_findSign_11 ?_
        refine lv_iload_n hx hb dX13_findSign_14 rfl (lv_at hl 1 rfl) ?_
        obtain ⟨g_2, hF⟩ := og_some hF
        refine ml_33 hC hH g_2 dX13_findSign_15 ?_
        refine lv_aload_n hx hb dX13_findSign_16 rfl (lv_at hl 0 rfl) ?_
        refine mg_45 hC hH dX13_findSign_17 ?_
        refine lv_aload_n hx hb dX13_findSign_20 rfl (lv_at hl 0 rfl) ?_
        refine mg_44 hC hH dX13_findSign_21 ?_
        refine lv_isub hx hb dX13_findSign_24 ?_
        refine lv_icmp_ne (tgt := 32) hx hb dX13_findSign_25 (by decide) (fun c_3 => ?_) (fun c_3 => ?_)
        · rw [if_neg c_3] at hF
          refine lv_iconst (v := 0) hx hb dX13_findSign_32 (by decide) ?_
          refine lv_istore_n (lv' := [(2, .int 0), (0, .ref (Q 72)), (1, .int v1)]) hx hb dX13_findSign_33 rfl hl (by decide) rfl (fun ls hl => ?_)
          refine lv_iconst (v := 0) hx hb dX13_findSign_34 (by decide) ?_
          refine lv_istore_n (lv' := [(3, .int 0), (2, .int 0), (0, .ref (Q 72)), (1, .int v1)]) hx hb dX13_findSign_35 rfl hl (by decide) rfl (fun ls hl => ?_)
          have hL36 : ∀ (K36_87 : Int32 → Int32 → Int32 → MS → Option (Int32 × MS)), (∀ (v1 v2 v3 : Int32) (u : MS) (H : Heap) (locs : List Loc) (ls : Array Slot), lv_has ls 4 [(0, .ref (Q 72)), (1, .int v1), (2, .int v2), (3, .int v3)] → mH G Q u s H locs → K36_87 v1 v2 v3 u = some ((r, u1)) → W p l e (headSpec (Cond.code yX13_findSign cX13_findSign 4 (some .int) :: wM) { frames := 0, cells := 0, slots := 0, locals := 0 }).room s m [.ref (Q 72)].toArray below meth c H locs 0 0 (MQ below (mQi G Q u1 r s.heap.size) [.ref (Q 72)].toArray s 0 0 (mA Q s.heap.size)) (F0 m 87 ls [])) → ∀ (n36 : Nat) (v1 v2 v3 : Int32) (u : MS) (H : Heap) (locs : List Loc) (ls : Array Slot), lv_has ls 4 [(0, .ref (Q 72)), (1, .int v1), (2, .int v2), (3, .int v3)] → mH G Q u s H locs → lp_findSign_36 n36 v1 v2 v3 u K36_87 = some ((r, u1)) → W p l e (headSpec (Cond.code yX13_findSign cX13_findSign 4 (some .int) :: wM) { frames := 0, cells := 0, slots := 0, locals := 0 }).room s m [.ref (Q 72)].toArray below meth c H locs 0 0 (MQ below (mQi G Q u1 r s.heap.size) [.ref (Q 72)].toArray s 0 0 (mA Q s.heap.size)) (F0 m 36 ls []) := by
            intro K36_87 hK36_87 n36
            induction n36 with
            | zero => intro v1 v2 v3 u H locs ls hl hH hF; cases hF
            | succ n36 ih36 =>
              intro v1 v2 v3 u H locs ls hl hH hF
              unfold lp_findSign_36 at hF
              refine lv_iload_n hx hb dX13_findSign_36 rfl (lv_at hl 3 rfl) ?_
              refine lv_aload_n hx hb dX13_findSign_37 rfl (lv_at hl 0 rfl) ?_
              refine mg_33 hC hH dX13_findSign_38 ?_
              refine lv_iload_n hx hb dX13_findSign_41 rfl (lv_at hl 1 rfl) ?_
              obtain ⟨g_4, hF⟩ := og_some hF
              refine ml_33 hC hH g_4 dX13_findSign_42 ?_
              refine lv_icmp_ge (tgt := 87) hx hb dX13_findSign_43 (by decide) (fun c_5 => ?_) (fun c_5 => ?_)
              · rw [if_pos c_5] at hF
                exact hK36_87 v1 v2 v3 u _ _ _ (lv_sub hl [0, 1, 2, 3] rfl) hH hF
              · rw [if_neg c_5] at hF
                refine lv_iload_n hx hb dX13_findSign_46 rfl (lv_at hl 2 rfl) ?_
                refine lv_if_eq (tgt := 87) hx hb dX13_findSign_47 (by decide) (fun c_6 => ?_) (fun c_6 => ?_)
                · rw [if_pos c_6] at hF
                  exact hK36_87 v1 v2 v3 u _ _ _ (lv_sub hl [0, 1, 2, 3] rfl) hH hF
                · rw [if_neg c_6] at hF
                  refine lv_aload_n hx hb dX13_findSign_50 rfl (lv_at hl 0 rfl) ?_
                  refine mg_32 hC hH dX13_findSign_51 ?_
                  refine lv_bipush (v := 10) hx hb dX13_findSign_54 (by decide) ?_
                  refine lv_iload_n hx hb dX13_findSign_56 rfl (lv_at hl 1 rfl) ?_
                  refine lv_imul hx hb dX13_findSign_57 ?_
                  refine lv_iload_n hx hb dX13_findSign_58 rfl (lv_at hl 3 rfl) ?_
                  refine lv_iadd hx hb dX13_findSign_59 ?_
                  obtain ⟨g_7, hF⟩ := og_some hF
                  refine ml_32 hC hH g_7 dX13_findSign_60 ?_
                  refine lv_aload_n hx hb dX13_findSign_61 rfl (lv_at hl 0 rfl) ?_
                  refine mg_41 hC hH dX13_findSign_62 ?_
                  refine lv_aload_n hx hb dX13_findSign_65 rfl (lv_at hl 0 rfl) ?_
                  refine mg_44 hC hH dX13_findSign_66 ?_
                  refine lv_iload_n hx hb dX13_findSign_69 rfl (lv_at hl 3 rfl) ?_
                  refine lv_iadd hx hb dX13_findSign_70 ?_
                  obtain ⟨g_8, hF⟩ := og_some hF
                  refine ml_src hC hH g_8 dX13_findSign_71 ?_
                  refine lv_icmp_ne (tgt := 79) hx hb dX13_findSign_72 (by decide) (fun c_9 => ?_) (fun c_9 => ?_)
                  · rw [if_neg c_9] at hF
                    refine lv_iconst (v := 0) hx hb dX13_findSign_79 (by decide) ?_
                    refine lv_istore_n (lv' := [(2, .int 0), (0, .ref (Q 72)), (1, .int v1), (3, .int v3)]) hx hb dX13_findSign_80 rfl hl (by decide) rfl (fun ls hl => ?_)
                    obtain ⟨x_10, e_11, hF⟩ := li_some hF
                    refine lv_iinc (v := x_10) (lv' := [(3, .int x_10), (2, .int 0), (0, .ref (Q 72)), (1, .int v1)]) hx hb dX13_findSign_81 hl (k := 3) rfl e_11 (by decide) rfl (fun ls hl => ?_)
                    refine lv_goto (tgt := 36) hx hb dX13_findSign_84 (by decide) ?_
                    exact ih36 v1 0 x_10 u _ _ _ (lv_sub hl [2, 3, 1, 0] rfl) hH hF
                  · rw [if_pos c_9] at hF
                    refine lv_iconst (v := 1) hx hb dX13_findSign_75 (by decide) ?_
                    refine lv_goto (tgt := 80) hx hb dX13_findSign_76 (by decide) ?_
                    refine lv_istore_n (lv' := [(2, .int 1), (0, .ref (Q 72)), (1, .int v1), (3, .int v3)]) hx hb dX13_findSign_80 rfl hl (by decide) rfl (fun ls hl => ?_)
                    obtain ⟨x_12, e_13, hF⟩ := li_some hF
                    refine lv_iinc (v := x_12) (lv' := [(3, .int x_12), (2, .int 1), (0, .ref (Q 72)), (1, .int v1)]) hx hb dX13_findSign_81 hl (k := 3) rfl e_13 (by decide) rfl (fun ls hl => ?_)
                    refine lv_goto (tgt := 36) hx hb dX13_findSign_84 (by decide) ?_
                    exact ih36 v1 1 x_12 u _ _ _ (lv_sub hl [2, 3, 1, 0] rfl) hH hF
          refine hL36 _ (fun v1 v2 v3 u H locs ls hl hH hF => ?_) fuel v1 0 0 u _ _ _ (lv_sub hl [2, 3, 1, 0] rfl) hH hF
          refine lv_iload_n hx hb dX13_findSign_87 rfl (lv_at hl 2 rfl) ?_
          refine lv_if_eq (tgt := 93) hx hb dX13_findSign_88 (by decide) (fun c_14 => ?_) (fun c_14 => ?_)
          · rw [if_pos c_14] at hF
            obtain ⟨x_15, e_16, hF⟩ := li_some hF
            refine lv_iinc (v := x_15) (lv' := [(1, .int x_15), (0, .ref (Q 72)), (2, .int v2), (3, .int v3)]) hx hb dX13_findSign_93 hl (k := 1) rfl e_16 (by decide) rfl (fun ls hl => ?_)
            refine lv_goto (tgt := 2) hx hb dX13_findSign_96 (by decide) ?_
            exact ih2 x_15 u _ _ _ (lv_sub hl [1, 0] rfl) hH hF
          · rw [if_neg c_14] at hF
            refine lv_iload_n hx hb dX13_findSign_91 rfl (lv_at hl 1 rfl) ?_
            exact mr_i hC hH hr hF dX13_findSign_92 hlocks
        · rw [if_pos c_3] at hF
          refine lv_iconst (v := 1) hx hb dX13_findSign_28 (by decide) ?_
          refine lv_goto (tgt := 33) hx hb dX13_findSign_29 (by decide) ?_
          refine lv_istore_n (lv' := [(2, .int 1), (0, .ref (Q 72)), (1, .int v1)]) hx hb dX13_findSign_33 rfl hl (by decide) rfl (fun ls hl => ?_)
          refine lv_iconst (v := 0) hx hb dX13_findSign_34 (by decide) ?_
          refine lv_istore_n (lv' := [(3, .int 0), (2, .int 1), (0, .ref (Q 72)), (1, .int v1)]) hx hb dX13_findSign_35 rfl hl (by decide) rfl (fun ls hl => ?_)
          have hL36 : ∀ (K36_87 : Int32 → Int32 → Int32 → MS → Option (Int32 × MS)), (∀ (v1 v2 v3 : Int32) (u : MS) (H : Heap) (locs : List Loc) (ls : Array Slot), lv_has ls 4 [(0, .ref (Q 72)), (1, .int v1), (2, .int v2), (3, .int v3)] → mH G Q u s H locs → K36_87 v1 v2 v3 u = some ((r, u1)) → W p l e (headSpec (Cond.code yX13_findSign cX13_findSign 4 (some .int) :: wM) { frames := 0, cells := 0, slots := 0, locals := 0 }).room s m [.ref (Q 72)].toArray below meth c H locs 0 0 (MQ below (mQi G Q u1 r s.heap.size) [.ref (Q 72)].toArray s 0 0 (mA Q s.heap.size)) (F0 m 87 ls [])) → ∀ (n36 : Nat) (v1 v2 v3 : Int32) (u : MS) (H : Heap) (locs : List Loc) (ls : Array Slot), lv_has ls 4 [(0, .ref (Q 72)), (1, .int v1), (2, .int v2), (3, .int v3)] → mH G Q u s H locs → lp_findSign_36 n36 v1 v2 v3 u K36_87 = some ((r, u1)) → W p l e (headSpec (Cond.code yX13_findSign cX13_findSign 4 (some .int) :: wM) { frames := 0, cells := 0, slots := 0, locals := 0 }).room s m [.ref (Q 72)].toArray below meth c H locs 0 0 (MQ below (mQi G Q u1 r s.heap.size) [.ref (Q 72)].toArray s 0 0 (mA Q s.heap.size)) (F0 m 36 ls []) := by
            intro K36_87 hK36_87 n36
            induction n36 with
            | zero => intro v1 v2 v3 u H locs ls hl hH hF; cases hF
            | succ n36 ih36 =>
              intro v1 v2 v3 u H locs ls hl hH hF
              unfold lp_findSign_36 at hF
              refine lv_iload_n hx hb dX13_findSign_36 rfl (lv_at hl 3 rfl) ?_
              refine lv_aload_n hx hb dX13_findSign_37 rfl (lv_at hl 0 rfl) ?_
              refine mg_33 hC hH dX13_findSign_38 ?_
              refine lv_iload_n hx hb dX13_findSign_41 rfl (lv_at hl 1 rfl) ?_
              obtain ⟨g_17, hF⟩ := og_some hF
              refine ml_33 hC hH g_17 dX13_findSign_42 ?_
              refine lv_icmp_ge (tgt := 87) hx hb dX13_findSign_43 (by decide) (fun c_18 => ?_) (fun c_18 => ?_)
              · rw [if_pos c_18] at hF
                exact hK36_87 v1 v2 v3 u _ _ _ (lv_sub hl [0, 1, 2, 3] rfl) hH hF
              · rw [if_neg c_18] at hF
                refine lv_iload_n hx hb dX13_findSign_46 rfl (lv_at hl 2 rfl) ?_
                refine lv_if_eq (tgt := 87) hx hb dX13_findSign_47 (by decide) (fun c_19 => ?_) (fun c_19 => ?_)
                · rw [if_pos c_19] at hF
                  exact hK36_87 v1 v2 v3 u _ _ _ (lv_sub hl [0, 1, 2, 3] rfl) hH hF
                · rw [if_neg c_19] at hF
                  refine lv_aload_n hx hb dX13_findSign_50 rfl (lv_at hl 0 rfl) ?_
                  refine mg_32 hC hH dX13_findSign_51 ?_
                  refine lv_bipush (v := 10) hx hb dX13_findSign_54 (by decide) ?_
                  refine lv_iload_n hx hb dX13_findSign_56 rfl (lv_at hl 1 rfl) ?_
                  refine lv_imul hx hb dX13_findSign_57 ?_
                  refine lv_iload_n hx hb dX13_findSign_58 rfl (lv_at hl 3 rfl) ?_
                  refine lv_iadd hx hb dX13_findSign_59 ?_
                  obtain ⟨g_20, hF⟩ := og_some hF
                  refine ml_32 hC hH g_20 dX13_findSign_60 ?_
                  refine lv_aload_n hx hb dX13_findSign_61 rfl (lv_at hl 0 rfl) ?_
                  refine mg_41 hC hH dX13_findSign_62 ?_
                  refine lv_aload_n hx hb dX13_findSign_65 rfl (lv_at hl 0 rfl) ?_
                  refine mg_44 hC hH dX13_findSign_66 ?_
                  refine lv_iload_n hx hb dX13_findSign_69 rfl (lv_at hl 3 rfl) ?_
                  refine lv_iadd hx hb dX13_findSign_70 ?_
                  obtain ⟨g_21, hF⟩ := og_some hF
                  refine ml_src hC hH g_21 dX13_findSign_71 ?_
                  refine lv_icmp_ne (tgt := 79) hx hb dX13_findSign_72 (by decide) (fun c_22 => ?_) (fun c_22 => ?_)
                  · rw [if_neg c_22] at hF
                    refine lv_iconst (v := 0) hx hb dX13_findSign_79 (by decide) ?_
                    refine lv_istore_n (lv' := [(2, .int 0), (0, .ref (Q 72)), (1, .int v1), (3, .int v3)]) hx hb dX13_findSign_80 rfl hl (by decide) rfl (fun ls hl => ?_)
                    obtain ⟨x_23, e_24, hF⟩ := li_some hF
                    refine lv_iinc (v := x_23) (lv' := [(3, .int x_23), (2, .int 0), (0, .ref (Q 72)), (1, .int v1)]) hx hb dX13_findSign_81 hl (k := 3) rfl e_24 (by decide) rfl (fun ls hl => ?_)
                    refine lv_goto (tgt := 36) hx hb dX13_findSign_84 (by decide) ?_
                    exact ih36 v1 0 x_23 u _ _ _ (lv_sub hl [2, 3, 1, 0] rfl) hH hF
                  · rw [if_pos c_22] at hF
                    refine lv_iconst (v := 1) hx hb dX13_findSign_75 (by decide) ?_
                    refine lv_goto (tgt := 80) hx hb dX13_findSign_76 (by decide) ?_
                    refine lv_istore_n (lv' := [(2, .int 1), (0, .ref (Q 72)), (1, .int v1), (3, .int v3)]) hx hb dX13_findSign_80 rfl hl (by decide) rfl (fun ls hl => ?_)
                    obtain ⟨x_25, e_26, hF⟩ := li_some hF
                    refine lv_iinc (v := x_25) (lv' := [(3, .int x_25), (2, .int 1), (0, .ref (Q 72)), (1, .int v1)]) hx hb dX13_findSign_81 hl (k := 3) rfl e_26 (by decide) rfl (fun ls hl => ?_)
                    refine lv_goto (tgt := 36) hx hb dX13_findSign_84 (by decide) ?_
                    exact ih36 v1 1 x_25 u _ _ _ (lv_sub hl [2, 3, 1, 0] rfl) hH hF
          refine hL36 _ (fun v1 v2 v3 u H locs ls hl hH hF => ?_) fuel v1 1 0 u _ _ _ (lv_sub hl [2, 3, 1, 0] rfl) hH hF
          refine lv_iload_n hx hb dX13_findSign_87 rfl (lv_at hl 2 rfl) ?_
          refine lv_if_eq (tgt := 93) hx hb dX13_findSign_88 (by decide) (fun c_27 => ?_) (fun c_27 => ?_)
          · rw [if_pos c_27] at hF
            obtain ⟨x_28, e_29, hF⟩ := li_some hF
            refine lv_iinc (v := x_28) (lv' := [(1, .int x_28), (0, .ref (Q 72)), (2, .int v2), (3, .int v3)]) hx hb dX13_findSign_93 hl (k := 1) rfl e_29 (by decide) rfl (fun ls hl => ?_)
            refine lv_goto (tgt := 2) hx hb dX13_findSign_96 (by decide) ?_
            exact ih2 x_28 u _ _ _ (lv_sub hl [1, 0] rfl) hH hF
          · rw [if_neg c_27] at hF
            refine lv_iload_n hx hb dX13_findSign_91 rfl (lv_at hl 1 rfl) ?_
            exact mr_i hC hH hr hF dX13_findSign_92 hlocks
  refine hL2 _ (fun v1 u H locs ls hl hH hF => ?_) fuel 0 u _ _ _ (lv_sub hl [1, 0] rfl) hH hF
  refine lv_iconst (v := (-1)) hx hb dX13_findSign_99 (by decide) ?_
  exact mr_i hC hH hr hF dX13_findSign_100 hlocks
def f_name  (u : MS) : Option (Option Int32 × MS) := (if (u.1 46) = 1 then ob (f_isQuoted u) (fun r_5 u_6 => (if r_5 = 0 then some (some 0, u_6) else ob (f_wrong 1 (u_6.1 44) u_6) (fun r_9 u_10 => some (none, u_10)))) else ob (f_wrong 1 (u.1 44) u) (fun r_2 u_3 => some (none, u_3)))
set_option maxHeartbeats 4000000 in
set_option maxRecDepth 100000 in
theorem m_name (l : Launch) (G : gG) (Z : gM) (Q : Nat → Nat) (u u1 : MS) (r : Int32)  (sz : Nat) (hF : f_name u = some (some r, u1)) : Met l yX13_name (Cond.code yX13_name cX13_name 1 none :: wM) { frames := 7, cells := 0, slots := 0, locals := 149 } (va_Pc [.ref (Q 72)] (mPM G Z Q u sz)) (mQv G Q u1 sz) 0 0 (mA Q sz) := by
  refine Met.ofW (cc := cX13_name) (maxL := 1) (ret := none) (by decide) rfl ?_
  intro p e s m args below meth c s₁ B hml hv
  obtain ⟨rfl, rfl, hP, hB, hD, hE⟩ := hv
  have hr := B.returns
  have hlocks := B.notSynchronized
  have hts := atoms_spec (ws := Cond.code yX13_name cX13_name 1 none :: wM) B.pre
  have hC : mX p c cX13_name 1 s m _ G Z Q := ⟨B.exec, B.bytes, hml, findClass_of_methodNamed B.named, fun w h => hts w (List.mem_cons_of_mem _ h), hB, hE⟩
  have hx := hC.1
  have hb := hC.2.1
  have hH : mH G Q u s s.heap [] := ⟨hP, hD, va_S.rf⟩
  have hl := lv_entry ([.ref (Q 72)]) (n := 1) (Nat.le_of_ble_eq_true rfl)
  rw [lg_entry_eq]
  generalize (lg_sl ([.ref (Q 72)]) ++ List.replicate (1 - (lg_sl ([.ref (Q 72)])).length) Slot.unset).toArray = ls at hl ⊢
  have hl : lv_has ls 1 [(0, .ref (Q 72))] := hl
  unfold f_name at hF
  refine lv_aload_n hx hb dX13_name_0 rfl (lv_at hl 0 rfl) ?_
  refine mg_46 hC hH dX13_name_1 ?_
  refine lv_iconst (v := 1) hx hb dX13_name_4 (by decide) ?_
  refine lv_icmp_ne (tgt := 15) hx hb dX13_name_5 (by decide) (fun c_1 => ?_) (fun c_1 => ?_)
  · rw [if_neg c_1] at hF
    refine lv_aload_n hx hb dX13_name_15 rfl (lv_at hl 0 rfl) ?_
    refine lv_iconst (v := 1) hx hb dX13_name_16 (by decide) ?_
    refine lv_aload_n hx hb dX13_name_17 rfl (lv_at hl 0 rfl) ?_
    refine mg_44 hC hH dX13_name_18 ?_
    obtain ⟨r_2, u_3, h_4, hF⟩ := ob_some hF
    refine mcV_r (As := [.int 1, .int (u.1 44)]) (rest := []) hC hH (m_wrong l G Z Q u u_3 r_2 1 (u.1 44) _ h_4) kwX13_wrong kVX13_wrong ⟨Nat.le_of_ble_eq_true rfl, Nat.le_of_ble_eq_true rfl⟩ rfl hl.1 rfl (Nat.le_of_ble_eq_true rfl) dX13_name_21 (fun H locs hH => ?_)
    cases hF
  · rw [if_pos c_1] at hF
    refine lv_aload_n hx hb dX13_name_8 rfl (lv_at hl 0 rfl) ?_
    obtain ⟨r_5, u_6, h_7, hF⟩ := ob_some hF
    refine mcV_i (As := []) (rest := []) hC hH (m_isQuoted l G Z Q u u_6 r_5  _ h_7) kwX13_isQuoted kVX13_isQuoted ⟨Nat.le_of_ble_eq_true rfl, Nat.le_of_ble_eq_true rfl⟩ rfl hl.1 rfl (Nat.le_of_ble_eq_true rfl) dX13_name_9 (fun H locs hH => ?_)
    refine lv_if_eq (tgt := 25) hx hb dX13_name_12 (by decide) (fun c_8 => ?_) (fun c_8 => ?_)
    · rw [if_pos c_8] at hF
      have hF := mthr_eq hF
      exact mr_v hC hH hr hF dX13_name_25 hlocks
    · rw [if_neg c_8] at hF
      refine lv_aload_n hx hb dX13_name_15 rfl (lv_at hl 0 rfl) ?_
      refine lv_iconst (v := 1) hx hb dX13_name_16 (by decide) ?_
      refine lv_aload_n hx hb dX13_name_17 rfl (lv_at hl 0 rfl) ?_
      refine mg_44 hC hH dX13_name_18 ?_
      obtain ⟨r_9, u_10, h_11, hF⟩ := ob_some hF
      refine mcV_r (As := [.int 1, .int (u_6.1 44)]) (rest := []) hC hH (m_wrong l G Z Q u_6 u_10 r_9 1 (u_6.1 44) _ h_11) kwX13_wrong kVX13_wrong ⟨Nat.le_of_ble_eq_true rfl, Nat.le_of_ble_eq_true rfl⟩ rfl hl.1 rfl (Nat.le_of_ble_eq_true rfl) dX13_name_21 (fun H locs hH => ?_)
      cases hF
set_option maxHeartbeats 4000000 in
set_option maxRecDepth 100000 in
theorem t_name (l : Launch) (G : gG) (Z : gM) (Q : Nat → Nat) (u u1 : MS)  (sz : Nat) (hF : f_name u = some (none, u1)) : MetT l yX13_name (Cond.code yX13_name cX13_name 1 none :: wM) { frames := 7, cells := 0, slots := 0, locals := 149 } (va_Pc [.ref (Q 72)] (mPM G Z Q u sz)) (mQt G Q u1 sz) 0 0 (mA Q sz) := by
  refine MetT.ofW (cc := cX13_name) (maxL := 1) (ret := none) (by decide) rfl ?_
  intro p e s m args below meth c s₁ B hml hv
  obtain ⟨rfl, rfl, hP, hB, hD, hE⟩ := hv
  have hr := B.returns
  have hlocks := B.notSynchronized
  have hts := atoms_spec (ws := Cond.code yX13_name cX13_name 1 none :: wM) B.pre
  have hC : mX p c cX13_name 1 s m _ G Z Q := ⟨B.exec, B.bytes, hml, findClass_of_methodNamed B.named, fun w h => hts w (List.mem_cons_of_mem _ h), hB, hE⟩
  have hx := hC.1
  have hb := hC.2.1
  have hH : mH G Q u s s.heap [] := ⟨hP, hD, va_S.rf⟩
  have hno : c.exceptionTable.isEmpty = true := BodyLoose.noHandlers B (hts _ List.mem_cons_self)
  have hl := lv_entry ([.ref (Q 72)]) (n := 1) (Nat.le_of_ble_eq_true rfl)
  rw [lg_entry_eq]
  generalize (lg_sl ([.ref (Q 72)]) ++ List.replicate (1 - (lg_sl ([.ref (Q 72)])).length) Slot.unset).toArray = ls at hl ⊢
  have hl : lv_has ls 1 [(0, .ref (Q 72))] := hl
  unfold f_name at hF
  refine lv_aload_n hx hb dX13_name_0 rfl (lv_at hl 0 rfl) ?_
  refine mg_46 hC hH dX13_name_1 ?_
  refine lv_iconst (v := 1) hx hb dX13_name_4 (by decide) ?_
  refine lv_icmp_ne (tgt := 15) hx hb dX13_name_5 (by decide) (fun c_1 => ?_) (fun c_1 => ?_)
  · rw [if_neg c_1] at hF
    refine lv_aload_n hx hb dX13_name_15 rfl (lv_at hl 0 rfl) ?_
    refine lv_iconst (v := 1) hx hb dX13_name_16 (by decide) ?_
    refine lv_aload_n hx hb dX13_name_17 rfl (lv_at hl 0 rfl) ?_
    refine mg_44 hC hH dX13_name_18 ?_
    obtain ⟨r_2, u_3, h_4, hF⟩ := ob_some hF
    refine mcV_r (As := [.int 1, .int (u.1 44)]) (rest := []) hC hH (m_wrong l G Z Q u u_3 r_2 1 (u.1 44) _ h_4) kwX13_wrong kVX13_wrong ⟨Nat.le_of_ble_eq_true rfl, Nat.le_of_ble_eq_true rfl⟩ rfl hl.1 rfl (Nat.le_of_ble_eq_true rfl) dX13_name_21 (fun H locs hH => ?_)
    exact mt_throw hC hH hno hF dX13_name_24 hlocks
  · rw [if_pos c_1] at hF
    refine lv_aload_n hx hb dX13_name_8 rfl (lv_at hl 0 rfl) ?_
    obtain ⟨r_5, u_6, h_7, hF⟩ := ob_some hF
    refine mcV_i (As := []) (rest := []) hC hH (m_isQuoted l G Z Q u u_6 r_5  _ h_7) kwX13_isQuoted kVX13_isQuoted ⟨Nat.le_of_ble_eq_true rfl, Nat.le_of_ble_eq_true rfl⟩ rfl hl.1 rfl (Nat.le_of_ble_eq_true rfl) dX13_name_9 (fun H locs hH => ?_)
    refine lv_if_eq (tgt := 25) hx hb dX13_name_12 (by decide) (fun c_8 => ?_) (fun c_8 => ?_)
    · rw [if_pos c_8] at hF
      cases hF
    · rw [if_neg c_8] at hF
      refine lv_aload_n hx hb dX13_name_15 rfl (lv_at hl 0 rfl) ?_
      refine lv_iconst (v := 1) hx hb dX13_name_16 (by decide) ?_
      refine lv_aload_n hx hb dX13_name_17 rfl (lv_at hl 0 rfl) ?_
      refine mg_44 hC hH dX13_name_18 ?_
      obtain ⟨r_9, u_10, h_11, hF⟩ := ob_some hF
      refine mcV_r (As := [.int 1, .int (u_6.1 44)]) (rest := []) hC hH (m_wrong l G Z Q u_6 u_10 r_9 1 (u_6.1 44) _ h_11) kwX13_wrong kVX13_wrong ⟨Nat.le_of_ble_eq_true rfl, Nat.le_of_ble_eq_true rfl⟩ rfl hl.1 rfl (Nat.le_of_ble_eq_true rfl) dX13_name_21 (fun H locs hH => ?_)
      exact mt_throw hC hH hno hF dX13_name_24 hlocks
def f_counts  (u : MS) : Option (Option Int32 × MS) := (if ((u.1 31) + (u.1 51)) = 300 then ob (f_wrong 3 (u.1 44) u) (fun r_2 u_3 => some (none, u_3)) else some (some 0, u))
set_option maxHeartbeats 4000000 in
set_option maxRecDepth 100000 in
theorem m_counts (l : Launch) (G : gG) (Z : gM) (Q : Nat → Nat) (u u1 : MS) (r : Int32)  (sz : Nat) (hF : f_counts u = some (some r, u1)) : Met l yX13_counts (Cond.code yX13_counts cX13_counts 1 none :: wM) { frames := 1, cells := 0, slots := 0, locals := 22 } (va_Pc [.ref (Q 72)] (mPM G Z Q u sz)) (mQv G Q u1 sz) 0 0 (mA Q sz) := by
  refine Met.ofW (cc := cX13_counts) (maxL := 1) (ret := none) (by decide) rfl ?_
  intro p e s m args below meth c s₁ B hml hv
  obtain ⟨rfl, rfl, hP, hB, hD, hE⟩ := hv
  have hr := B.returns
  have hlocks := B.notSynchronized
  have hts := atoms_spec (ws := Cond.code yX13_counts cX13_counts 1 none :: wM) B.pre
  have hC : mX p c cX13_counts 1 s m _ G Z Q := ⟨B.exec, B.bytes, hml, findClass_of_methodNamed B.named, fun w h => hts w (List.mem_cons_of_mem _ h), hB, hE⟩
  have hx := hC.1
  have hb := hC.2.1
  have hH : mH G Q u s s.heap [] := ⟨hP, hD, va_S.rf⟩
  have hl := lv_entry ([.ref (Q 72)]) (n := 1) (Nat.le_of_ble_eq_true rfl)
  rw [lg_entry_eq]
  generalize (lg_sl ([.ref (Q 72)]) ++ List.replicate (1 - (lg_sl ([.ref (Q 72)])).length) Slot.unset).toArray = ls at hl ⊢
  have hl : lv_has ls 1 [(0, .ref (Q 72))] := hl
  unfold f_counts at hF
  refine lv_aload_n hx hb dX13_counts_0 rfl (lv_at hl 0 rfl) ?_
  refine mg_31 hC hH dX13_counts_1 ?_
  refine lv_aload_n hx hb dX13_counts_4 rfl (lv_at hl 0 rfl) ?_
  refine mg_51 hC hH dX13_counts_5 ?_
  refine lv_iadd hx hb dX13_counts_8 ?_
  refine lv_sipush (v := 300) hx hb dX13_counts_9 (by decide) ?_
  refine lv_icmp_ne (tgt := 25) hx hb dX13_counts_12 (by decide) (fun c_1 => ?_) (fun c_1 => ?_)
  · rw [if_neg c_1] at hF
    have hF := mthr_eq hF
    exact mr_v hC hH hr hF dX13_counts_25 hlocks
  · rw [if_pos c_1] at hF
    refine lv_aload_n hx hb dX13_counts_15 rfl (lv_at hl 0 rfl) ?_
    refine lv_iconst (v := 3) hx hb dX13_counts_16 (by decide) ?_
    refine lv_aload_n hx hb dX13_counts_17 rfl (lv_at hl 0 rfl) ?_
    refine mg_44 hC hH dX13_counts_18 ?_
    obtain ⟨r_2, u_3, h_4, hF⟩ := ob_some hF
    refine mcV_r (As := [.int 3, .int (u.1 44)]) (rest := []) hC hH (m_wrong l G Z Q u u_3 r_2 3 (u.1 44) _ h_4) kwX13_wrong kVX13_wrong ⟨Nat.le_of_ble_eq_true rfl, Nat.le_of_ble_eq_true rfl⟩ rfl hl.1 rfl (Nat.le_of_ble_eq_true rfl) dX13_counts_21 (fun H locs hH => ?_)
    cases hF
set_option maxHeartbeats 4000000 in
set_option maxRecDepth 100000 in
theorem t_counts (l : Launch) (G : gG) (Z : gM) (Q : Nat → Nat) (u u1 : MS)  (sz : Nat) (hF : f_counts u = some (none, u1)) : MetT l yX13_counts (Cond.code yX13_counts cX13_counts 1 none :: wM) { frames := 1, cells := 0, slots := 0, locals := 22 } (va_Pc [.ref (Q 72)] (mPM G Z Q u sz)) (mQt G Q u1 sz) 0 0 (mA Q sz) := by
  refine MetT.ofW (cc := cX13_counts) (maxL := 1) (ret := none) (by decide) rfl ?_
  intro p e s m args below meth c s₁ B hml hv
  obtain ⟨rfl, rfl, hP, hB, hD, hE⟩ := hv
  have hr := B.returns
  have hlocks := B.notSynchronized
  have hts := atoms_spec (ws := Cond.code yX13_counts cX13_counts 1 none :: wM) B.pre
  have hC : mX p c cX13_counts 1 s m _ G Z Q := ⟨B.exec, B.bytes, hml, findClass_of_methodNamed B.named, fun w h => hts w (List.mem_cons_of_mem _ h), hB, hE⟩
  have hx := hC.1
  have hb := hC.2.1
  have hH : mH G Q u s s.heap [] := ⟨hP, hD, va_S.rf⟩
  have hno : c.exceptionTable.isEmpty = true := BodyLoose.noHandlers B (hts _ List.mem_cons_self)
  have hl := lv_entry ([.ref (Q 72)]) (n := 1) (Nat.le_of_ble_eq_true rfl)
  rw [lg_entry_eq]
  generalize (lg_sl ([.ref (Q 72)]) ++ List.replicate (1 - (lg_sl ([.ref (Q 72)])).length) Slot.unset).toArray = ls at hl ⊢
  have hl : lv_has ls 1 [(0, .ref (Q 72))] := hl
  unfold f_counts at hF
  refine lv_aload_n hx hb dX13_counts_0 rfl (lv_at hl 0 rfl) ?_
  refine mg_31 hC hH dX13_counts_1 ?_
  refine lv_aload_n hx hb dX13_counts_4 rfl (lv_at hl 0 rfl) ?_
  refine mg_51 hC hH dX13_counts_5 ?_
  refine lv_iadd hx hb dX13_counts_8 ?_
  refine lv_sipush (v := 300) hx hb dX13_counts_9 (by decide) ?_
  refine lv_icmp_ne (tgt := 25) hx hb dX13_counts_12 (by decide) (fun c_1 => ?_) (fun c_1 => ?_)
  · rw [if_neg c_1] at hF
    cases hF
  · rw [if_pos c_1] at hF
    refine lv_aload_n hx hb dX13_counts_15 rfl (lv_at hl 0 rfl) ?_
    refine lv_iconst (v := 3) hx hb dX13_counts_16 (by decide) ?_
    refine lv_aload_n hx hb dX13_counts_17 rfl (lv_at hl 0 rfl) ?_
    refine mg_44 hC hH dX13_counts_18 ?_
    obtain ⟨r_2, u_3, h_4, hF⟩ := ob_some hF
    refine mcV_r (As := [.int 3, .int (u.1 44)]) (rest := []) hC hH (m_wrong l G Z Q u u_3 r_2 3 (u.1 44) _ h_4) kwX13_wrong kVX13_wrong ⟨Nat.le_of_ble_eq_true rfl, Nat.le_of_ble_eq_true rfl⟩ rfl hl.1 rfl (Nat.le_of_ble_eq_true rfl) dX13_counts_21 (fun H locs hH => ?_)
    exact mt_throw hC hH hno hF dX13_counts_24 hlocks
def f_hold  (u : MS) : Option (Option Int32 × MS) := ob (f_counts u) (fun r_1 u_2 => ot r_1 (some (none, u_2)) (fun r_4 => lu (si u_2 51 ((u_2.1 51) + 1)) (fun u_5 => some (some 0, u_5))))
set_option maxHeartbeats 4000000 in
set_option maxRecDepth 100000 in
theorem m_hold (l : Launch) (G : gG) (Z : gM) (Q : Nat → Nat) (u u1 : MS) (r : Int32)  (sz : Nat) (hF : f_hold u = some (some r, u1)) : Met l yX13_hold (Cond.code yX13_hold cX13_hold 1 none :: wM) { frames := 2, cells := 0, slots := 0, locals := 42 } (va_Pc [.ref (Q 72)] (mPM G Z Q u sz)) (mQv G Q u1 sz) 0 0 (mA Q sz) := by
  refine Met.ofW (cc := cX13_hold) (maxL := 1) (ret := none) (by decide) rfl ?_
  intro p e s m args below meth c s₁ B hml hv
  obtain ⟨rfl, rfl, hP, hB, hD, hE⟩ := hv
  have hr := B.returns
  have hlocks := B.notSynchronized
  have hts := atoms_spec (ws := Cond.code yX13_hold cX13_hold 1 none :: wM) B.pre
  have hC : mX p c cX13_hold 1 s m _ G Z Q := ⟨B.exec, B.bytes, hml, findClass_of_methodNamed B.named, fun w h => hts w (List.mem_cons_of_mem _ h), hB, hE⟩
  have hx := hC.1
  have hb := hC.2.1
  have hH : mH G Q u s s.heap [] := ⟨hP, hD, va_S.rf⟩
  have hl := lv_entry ([.ref (Q 72)]) (n := 1) (Nat.le_of_ble_eq_true rfl)
  rw [lg_entry_eq]
  generalize (lg_sl ([.ref (Q 72)]) ++ List.replicate (1 - (lg_sl ([.ref (Q 72)])).length) Slot.unset).toArray = ls at hl ⊢
  have hl : lv_has ls 1 [(0, .ref (Q 72))] := hl
  unfold f_hold at hF
  refine lv_aload_n hx hb dX13_hold_0 rfl (lv_at hl 0 rfl) ?_
  obtain ⟨r_1, u_2, h_3, hF⟩ := ob_some hF
  cases r_1 with
  | none =>
    have hF := ot_none hF
    cases hF
  | some r_4 =>
    have hF := ot_some hF
    refine mcV_v (As := []) (rest := []) hC hH (m_counts l G Z Q u u_2 r_4  _ h_3) kwX13_counts kVX13_counts ⟨Nat.le_of_ble_eq_true rfl, Nat.le_of_ble_eq_true rfl⟩ rfl hl.1 rfl (Nat.le_of_ble_eq_true rfl) dX13_hold_1 (fun H locs hH => ?_)
    refine lv_aload_n hx hb dX13_hold_4 rfl (lv_at hl 0 rfl) ?_
    refine lv_dup hx hb dX13_hold_5 rfl ?_
    refine mg_51 hC hH dX13_hold_6 ?_
    refine lv_iconst (v := 1) hx hb dX13_hold_9 (by decide) ?_
    refine lv_iadd hx hb dX13_hold_10 ?_
    obtain ⟨u_5, e_6, hF⟩ := lu_some hF
    refine mp_51 hC hH e_6 dX13_hold_11 (fun H locs hH => ?_)
    have hF := mthr_eq hF
    exact mr_v hC hH hr hF dX13_hold_14 hlocks
set_option maxHeartbeats 4000000 in
set_option maxRecDepth 100000 in
theorem t_hold (l : Launch) (G : gG) (Z : gM) (Q : Nat → Nat) (u u1 : MS)  (sz : Nat) (hF : f_hold u = some (none, u1)) : MetT l yX13_hold (Cond.code yX13_hold cX13_hold 1 none :: wM) { frames := 2, cells := 0, slots := 0, locals := 42 } (va_Pc [.ref (Q 72)] (mPM G Z Q u sz)) (mQt G Q u1 sz) 0 0 (mA Q sz) := by
  refine MetT.ofW (cc := cX13_hold) (maxL := 1) (ret := none) (by decide) rfl ?_
  intro p e s m args below meth c s₁ B hml hv
  obtain ⟨rfl, rfl, hP, hB, hD, hE⟩ := hv
  have hr := B.returns
  have hlocks := B.notSynchronized
  have hts := atoms_spec (ws := Cond.code yX13_hold cX13_hold 1 none :: wM) B.pre
  have hC : mX p c cX13_hold 1 s m _ G Z Q := ⟨B.exec, B.bytes, hml, findClass_of_methodNamed B.named, fun w h => hts w (List.mem_cons_of_mem _ h), hB, hE⟩
  have hx := hC.1
  have hb := hC.2.1
  have hH : mH G Q u s s.heap [] := ⟨hP, hD, va_S.rf⟩
  have hno : c.exceptionTable.isEmpty = true := BodyLoose.noHandlers B (hts _ List.mem_cons_self)
  have hl := lv_entry ([.ref (Q 72)]) (n := 1) (Nat.le_of_ble_eq_true rfl)
  rw [lg_entry_eq]
  generalize (lg_sl ([.ref (Q 72)]) ++ List.replicate (1 - (lg_sl ([.ref (Q 72)])).length) Slot.unset).toArray = ls at hl ⊢
  have hl : lv_has ls 1 [(0, .ref (Q 72))] := hl
  unfold f_hold at hF
  refine lv_aload_n hx hb dX13_hold_0 rfl (lv_at hl 0 rfl) ?_
  obtain ⟨r_1, u_2, h_3, hF⟩ := ob_some hF
  cases r_1 with
  | none =>
    have hF := ot_none hF
    exact mt_pass hH (mt_run (As := []) (rest := []) hC hH (t_counts l G Z Q u u_2  _ h_3) kwX13_counts kVX13_counts ⟨Nat.le_of_ble_eq_true rfl, Nat.le_of_ble_eq_true rfl⟩ rfl hl.1 rfl (Nat.le_of_ble_eq_true rfl) dX13_hold_1) hno hlocks hF
  | some r_4 =>
    have hF := ot_some hF
    refine mcV_v (As := []) (rest := []) hC hH (m_counts l G Z Q u u_2 r_4  _ h_3) kwX13_counts kVX13_counts ⟨Nat.le_of_ble_eq_true rfl, Nat.le_of_ble_eq_true rfl⟩ rfl hl.1 rfl (Nat.le_of_ble_eq_true rfl) dX13_hold_1 (fun H locs hH => ?_)
    refine lv_aload_n hx hb dX13_hold_4 rfl (lv_at hl 0 rfl) ?_
    refine lv_dup hx hb dX13_hold_5 rfl ?_
    refine mg_51 hC hH dX13_hold_6 ?_
    refine lv_iconst (v := 1) hx hb dX13_hold_9 (by decide) ?_
    refine lv_iadd hx hb dX13_hold_10 ?_
    obtain ⟨u_5, e_6, hF⟩ := lu_some hF
    refine mp_51 hC hH e_6 dX13_hold_11 (fun H locs hH => ?_)
    cases hF
def f_opens  (u : MS) : Option (Option Int32 × MS) := (if (u.1 48) = 8 then ob (f_wrong 3 (u.1 44) u) (fun r_7 u_8 => some (none, u_8)) else lu (si u 48 ((u.1 48) + 1)) (fun u_2 => ob (f_scan u_2) (fun r_4 u_5 => some (some 0, u_5))))
set_option maxHeartbeats 4000000 in
set_option maxRecDepth 100000 in
theorem m_opens (l : Launch) (G : gG) (Z : gM) (Q : Nat → Nat) (u u1 : MS) (r : Int32)  (sz : Nat) (hF : f_opens u = some (some r, u1)) : Met l yX13_opens (Cond.code yX13_opens cX13_opens 1 none :: wM) { frames := 5, cells := 0, slots := 0, locals := 113 } (va_Pc [.ref (Q 72)] (mPM G Z Q u sz)) (mQv G Q u1 sz) 0 0 (mA Q sz) := by
  refine Met.ofW (cc := cX13_opens) (maxL := 1) (ret := none) (by decide) rfl ?_
  intro p e s m args below meth c s₁ B hml hv
  obtain ⟨rfl, rfl, hP, hB, hD, hE⟩ := hv
  have hr := B.returns
  have hlocks := B.notSynchronized
  have hts := atoms_spec (ws := Cond.code yX13_opens cX13_opens 1 none :: wM) B.pre
  have hC : mX p c cX13_opens 1 s m _ G Z Q := ⟨B.exec, B.bytes, hml, findClass_of_methodNamed B.named, fun w h => hts w (List.mem_cons_of_mem _ h), hB, hE⟩
  have hx := hC.1
  have hb := hC.2.1
  have hH : mH G Q u s s.heap [] := ⟨hP, hD, va_S.rf⟩
  have hl := lv_entry ([.ref (Q 72)]) (n := 1) (Nat.le_of_ble_eq_true rfl)
  rw [lg_entry_eq]
  generalize (lg_sl ([.ref (Q 72)]) ++ List.replicate (1 - (lg_sl ([.ref (Q 72)])).length) Slot.unset).toArray = ls at hl ⊢
  have hl : lv_has ls 1 [(0, .ref (Q 72))] := hl
  unfold f_opens at hF
  refine lv_aload_n hx hb dX13_opens_0 rfl (lv_at hl 0 rfl) ?_
  refine mg_48 hC hH dX13_opens_1 ?_
  refine lv_bipush (v := 8) hx hb dX13_opens_4 (by decide) ?_
  refine lv_icmp_ne (tgt := 19) hx hb dX13_opens_6 (by decide) (fun c_1 => ?_) (fun c_1 => ?_)
  · rw [if_neg c_1] at hF
    refine lv_aload_n hx hb dX13_opens_19 rfl (lv_at hl 0 rfl) ?_
    refine lv_dup hx hb dX13_opens_20 rfl ?_
    refine mg_48 hC hH dX13_opens_21 ?_
    refine lv_iconst (v := 1) hx hb dX13_opens_24 (by decide) ?_
    refine lv_iadd hx hb dX13_opens_25 ?_
    obtain ⟨u_2, e_3, hF⟩ := lu_some hF
    refine mp_48 hC hH e_3 dX13_opens_26 (fun H locs hH => ?_)
    refine lv_aload_n hx hb dX13_opens_29 rfl (lv_at hl 0 rfl) ?_
    obtain ⟨r_4, u_5, h_6, hF⟩ := ob_some hF
    refine mcV_v (As := []) (rest := []) hC hH (m_scan l G Z Q u_2 u_5 r_4  _ h_6) kwX13_scan kVX13_scan ⟨Nat.le_of_ble_eq_true rfl, Nat.le_of_ble_eq_true rfl⟩ rfl hl.1 rfl (Nat.le_of_ble_eq_true rfl) dX13_opens_30 (fun H locs hH => ?_)
    have hF := mthr_eq hF
    exact mr_v hC hH hr hF dX13_opens_33 hlocks
  · rw [if_pos c_1] at hF
    refine lv_aload_n hx hb dX13_opens_9 rfl (lv_at hl 0 rfl) ?_
    refine lv_iconst (v := 3) hx hb dX13_opens_10 (by decide) ?_
    refine lv_aload_n hx hb dX13_opens_11 rfl (lv_at hl 0 rfl) ?_
    refine mg_44 hC hH dX13_opens_12 ?_
    obtain ⟨r_7, u_8, h_9, hF⟩ := ob_some hF
    refine mcV_r (As := [.int 3, .int (u.1 44)]) (rest := []) hC hH (m_wrong l G Z Q u u_8 r_7 3 (u.1 44) _ h_9) kwX13_wrong kVX13_wrong ⟨Nat.le_of_ble_eq_true rfl, Nat.le_of_ble_eq_true rfl⟩ rfl hl.1 rfl (Nat.le_of_ble_eq_true rfl) dX13_opens_15 (fun H locs hH => ?_)
    cases hF
set_option maxHeartbeats 4000000 in
set_option maxRecDepth 100000 in
theorem t_opens (l : Launch) (G : gG) (Z : gM) (Q : Nat → Nat) (u u1 : MS)  (sz : Nat) (hF : f_opens u = some (none, u1)) : MetT l yX13_opens (Cond.code yX13_opens cX13_opens 1 none :: wM) { frames := 5, cells := 0, slots := 0, locals := 113 } (va_Pc [.ref (Q 72)] (mPM G Z Q u sz)) (mQt G Q u1 sz) 0 0 (mA Q sz) := by
  refine MetT.ofW (cc := cX13_opens) (maxL := 1) (ret := none) (by decide) rfl ?_
  intro p e s m args below meth c s₁ B hml hv
  obtain ⟨rfl, rfl, hP, hB, hD, hE⟩ := hv
  have hr := B.returns
  have hlocks := B.notSynchronized
  have hts := atoms_spec (ws := Cond.code yX13_opens cX13_opens 1 none :: wM) B.pre
  have hC : mX p c cX13_opens 1 s m _ G Z Q := ⟨B.exec, B.bytes, hml, findClass_of_methodNamed B.named, fun w h => hts w (List.mem_cons_of_mem _ h), hB, hE⟩
  have hx := hC.1
  have hb := hC.2.1
  have hH : mH G Q u s s.heap [] := ⟨hP, hD, va_S.rf⟩
  have hno : c.exceptionTable.isEmpty = true := BodyLoose.noHandlers B (hts _ List.mem_cons_self)
  have hl := lv_entry ([.ref (Q 72)]) (n := 1) (Nat.le_of_ble_eq_true rfl)
  rw [lg_entry_eq]
  generalize (lg_sl ([.ref (Q 72)]) ++ List.replicate (1 - (lg_sl ([.ref (Q 72)])).length) Slot.unset).toArray = ls at hl ⊢
  have hl : lv_has ls 1 [(0, .ref (Q 72))] := hl
  unfold f_opens at hF
  refine lv_aload_n hx hb dX13_opens_0 rfl (lv_at hl 0 rfl) ?_
  refine mg_48 hC hH dX13_opens_1 ?_
  refine lv_bipush (v := 8) hx hb dX13_opens_4 (by decide) ?_
  refine lv_icmp_ne (tgt := 19) hx hb dX13_opens_6 (by decide) (fun c_1 => ?_) (fun c_1 => ?_)
  · rw [if_neg c_1] at hF
    refine lv_aload_n hx hb dX13_opens_19 rfl (lv_at hl 0 rfl) ?_
    refine lv_dup hx hb dX13_opens_20 rfl ?_
    refine mg_48 hC hH dX13_opens_21 ?_
    refine lv_iconst (v := 1) hx hb dX13_opens_24 (by decide) ?_
    refine lv_iadd hx hb dX13_opens_25 ?_
    obtain ⟨u_2, e_3, hF⟩ := lu_some hF
    refine mp_48 hC hH e_3 dX13_opens_26 (fun H locs hH => ?_)
    refine lv_aload_n hx hb dX13_opens_29 rfl (lv_at hl 0 rfl) ?_
    obtain ⟨r_4, u_5, h_6, hF⟩ := ob_some hF
    refine mcV_v (As := []) (rest := []) hC hH (m_scan l G Z Q u_2 u_5 r_4  _ h_6) kwX13_scan kVX13_scan ⟨Nat.le_of_ble_eq_true rfl, Nat.le_of_ble_eq_true rfl⟩ rfl hl.1 rfl (Nat.le_of_ble_eq_true rfl) dX13_opens_30 (fun H locs hH => ?_)
    cases hF
  · rw [if_pos c_1] at hF
    refine lv_aload_n hx hb dX13_opens_9 rfl (lv_at hl 0 rfl) ?_
    refine lv_iconst (v := 3) hx hb dX13_opens_10 (by decide) ?_
    refine lv_aload_n hx hb dX13_opens_11 rfl (lv_at hl 0 rfl) ?_
    refine mg_44 hC hH dX13_opens_12 ?_
    obtain ⟨r_7, u_8, h_9, hF⟩ := ob_some hF
    refine mcV_r (As := [.int 3, .int (u.1 44)]) (rest := []) hC hH (m_wrong l G Z Q u u_8 r_7 3 (u.1 44) _ h_9) kwX13_wrong kVX13_wrong ⟨Nat.le_of_ble_eq_true rfl, Nat.le_of_ble_eq_true rfl⟩ rfl hl.1 rfl (Nat.le_of_ble_eq_true rfl) dX13_opens_15 (fun H locs hH => ?_)
    exact mt_throw hC hH hno hF dX13_opens_18 hlocks
def f_readTerm  (u : MS) : Option (Option Int32 × MS) := (if (u.1 46) = 2 then ob (f_counts u) (fun r_131 u_132 => ot r_131 (some (none, u_132)) (fun r_134 => ob (f_put 0 (u_132.1 47) u_132) (fun r_135 u_136 => ob (f_scan u_136) (fun r_138 u_139 => some (some 0, u_139))))) else ob (f_is 13 u) (fun r_2 u_3 => (if r_2 = 0 then ob (f_is 11 u_3) (fun r_6 u_7 => (if r_6 = 0 then ob (f_is 12 u_7) (fun r_62 u_63 => (if r_62 = 0 then ob (f_wrong 1 (u_63.1 44) u_63) (fun r_118 u_119 => some (none, u_119)) else ob (f_is 11 u_63) (fun r_66 u_67 => (if r_66 = 0 then ob (f_counts u_67) (fun r_70 u_71 => ot r_70 (some (none, u_71)) (fun r_73 => ob (f_scan u_71) (fun r_74 u_75 => ob (f_name u_75) (fun r_77 u_78 => ot r_77 (some (none, u_78)) (fun r_80 => ob (f_findSign u_78) (fun r_81 u_82 => (if r_81 = (-1) then ob (f_wrong 2 (u_82.1 44) u_82) (fun r_91 u_92 => some (none, u_92)) else ob (f_put 2 r_81 u_82) (fun r_85 u_86 => ob (f_scan u_86) (fun r_88 u_89 => some (some 0, u_89)))))))))) else ob (f_counts u_67) (fun r_94 u_95 => ot r_94 (some (none, u_95)) (fun r_97 => ob (f_scan u_95) (fun r_98 u_99 => ob (f_name u_99) (fun r_101 u_102 => ot r_101 (some (none, u_102)) (fun r_104 => ob (f_findSign u_102) (fun r_105 u_106 => (if r_105 = (-1) then ob (f_wrong 2 (u_106.1 44) u_106) (fun r_115 u_116 => some (none, u_116)) else ob (f_put 1 r_105 u_106) (fun r_109 u_110 => ob (f_scan u_110) (fun r_112 u_113 => some (some 0, u_113)))))))))))))) else ob (f_is 11 u_7) (fun r_10 u_11 => (if r_10 = 0 then ob (f_counts u_11) (fun r_14 u_15 => ot r_14 (some (none, u_15)) (fun r_17 => ob (f_scan u_15) (fun r_18 u_19 => ob (f_name u_19) (fun r_21 u_22 => ot r_21 (some (none, u_22)) (fun r_24 => ob (f_findSign u_22) (fun r_25 u_26 => (if r_25 = (-1) then ob (f_wrong 2 (u_26.1 44) u_26) (fun r_35 u_36 => some (none, u_36)) else ob (f_put 2 r_25 u_26) (fun r_29 u_30 => ob (f_scan u_30) (fun r_32 u_33 => some (some 0, u_33)))))))))) else ob (f_counts u_11) (fun r_38 u_39 => ot r_38 (some (none, u_39)) (fun r_41 => ob (f_scan u_39) (fun r_42 u_43 => ob (f_name u_43) (fun r_45 u_46 => ot r_45 (some (none, u_46)) (fun r_48 => ob (f_findSign u_46) (fun r_49 u_50 => (if r_49 = (-1) then ob (f_wrong 2 (u_50.1 44) u_50) (fun r_59 u_60 => some (none, u_60)) else ob (f_put 1 r_49 u_50) (fun r_53 u_54 => ob (f_scan u_54) (fun r_56 u_57 => some (some 0, u_57)))))))))))))) else ob (f_counts u_3) (fun r_121 u_122 => ot r_121 (some (none, u_122)) (fun r_124 => ob (f_put 3 0 u_122) (fun r_125 u_126 => ob (f_scan u_126) (fun r_128 u_129 => some (some 0, u_129))))))))
set_option maxHeartbeats 4000000 in
set_option maxRecDepth 100000 in
theorem m_readTerm (l : Launch) (G : gG) (Z : gM) (Q : Nat → Nat) (u u1 : MS) (r : Int32)  (sz : Nat) (hF : f_readTerm u = some (some r, u1)) : Met l yX13_readTerm (Cond.code yX13_readTerm cX13_readTerm 3 none :: wM) { frames := 8, cells := 0, slots := 0, locals := 169 } (va_Pc [.ref (Q 72)] (mPM G Z Q u sz)) (mQv G Q u1 sz) 0 0 (mA Q sz) := by
  refine Met.ofW (cc := cX13_readTerm) (maxL := 3) (ret := none) (by decide) rfl ?_
  intro p e s m args below meth c s₁ B hml hv
  obtain ⟨rfl, rfl, hP, hB, hD, hE⟩ := hv
  have hr := B.returns
  have hlocks := B.notSynchronized
  have hts := atoms_spec (ws := Cond.code yX13_readTerm cX13_readTerm 3 none :: wM) B.pre
  have hC : mX p c cX13_readTerm 3 s m _ G Z Q := ⟨B.exec, B.bytes, hml, findClass_of_methodNamed B.named, fun w h => hts w (List.mem_cons_of_mem _ h), hB, hE⟩
  have hx := hC.1
  have hb := hC.2.1
  have hH : mH G Q u s s.heap [] := ⟨hP, hD, va_S.rf⟩
  have hl := lv_entry ([.ref (Q 72)]) (n := 3) (Nat.le_of_ble_eq_true rfl)
  rw [lg_entry_eq]
  generalize (lg_sl ([.ref (Q 72)]) ++ List.replicate (3 - (lg_sl ([.ref (Q 72)])).length) Slot.unset).toArray = ls at hl ⊢
  have hl : lv_has ls 3 [(0, .ref (Q 72))] := hl
  unfold f_readTerm at hF
  refine lv_aload_n hx hb dX13_readTerm_0 rfl (lv_at hl 0 rfl) ?_
  refine mg_46 hC hH dX13_readTerm_1 ?_
  refine lv_iconst (v := 2) hx hb dX13_readTerm_4 (by decide) ?_
  refine lv_icmp_ne (tgt := 26) hx hb dX13_readTerm_5 (by decide) (fun c_1 => ?_) (fun c_1 => ?_)
  · rw [if_neg c_1] at hF
    refine lv_aload_n hx hb dX13_readTerm_26 rfl (lv_at hl 0 rfl) ?_
    refine th_ldcw (tx := sTx 13) hx hb hC.2.2.2.1 (hC.2.2.2.2.2.2.2.2.1 13 (by decide)) dX13_readTerm_27 ?_
    obtain ⟨r_2, u_3, h_4, hF⟩ := ob_some hF
    refine mcV_i (As := [.ref (Z.1 13)]) (rest := []) hC hH (m_is l G Z Q u u_3 r_2 13 _ h_4 (by decide)) kwX13_is kVX13_is ⟨Nat.le_of_ble_eq_true rfl, Nat.le_of_ble_eq_true rfl⟩ rfl hl.1 rfl (Nat.le_of_ble_eq_true rfl) dX13_readTerm_30 (fun H locs hH => ?_)
    refine lv_if_eq (tgt := 51) hx hb dX13_readTerm_33 (by decide) (fun c_5 => ?_) (fun c_5 => ?_)
    · rw [if_pos c_5] at hF
      refine lv_aload_n hx hb dX13_readTerm_51 rfl (lv_at hl 0 rfl) ?_
      refine th_ldcw (tx := sTx 11) hx hb hC.2.2.2.1 (hC.2.2.2.2.2.2.2.2.1 11 (by decide)) dX13_readTerm_52 ?_
      obtain ⟨r_6, u_7, h_8, hF⟩ := ob_some hF
      refine mcV_i (As := [.ref (Z.1 11)]) (rest := []) hC hH (m_is l G Z Q u_3 u_7 r_6 11 _ h_8 (by decide)) kwX13_is kVX13_is ⟨Nat.le_of_ble_eq_true rfl, Nat.le_of_ble_eq_true rfl⟩ rfl hl.1 rfl (Nat.le_of_ble_eq_true rfl) dX13_readTerm_55 (fun H locs hH => ?_)
      refine lv_if_ne (tgt := 81) hx hb dX13_readTerm_58 (by decide) (fun c_9 => ?_) (fun c_9 => ?_)
      · rw [if_neg c_9] at hF
        refine lv_aload_n hx hb dX13_readTerm_81 rfl (lv_at hl 0 rfl) ?_
        refine th_ldcw (tx := sTx 11) hx hb hC.2.2.2.1 (hC.2.2.2.2.2.2.2.2.1 11 (by decide)) dX13_readTerm_82 ?_
        obtain ⟨r_10, u_11, h_12, hF⟩ := ob_some hF
        refine mcV_i (As := [.ref (Z.1 11)]) (rest := []) hC hH (m_is l G Z Q u_7 u_11 r_10 11 _ h_12 (by decide)) kwX13_is kVX13_is ⟨Nat.le_of_ble_eq_true rfl, Nat.le_of_ble_eq_true rfl⟩ rfl hl.1 rfl (Nat.le_of_ble_eq_true rfl) dX13_readTerm_85 (fun H locs hH => ?_)
        refine lv_if_eq (tgt := 95) hx hb dX13_readTerm_88 (by decide) (fun c_13 => ?_) (fun c_13 => ?_)
        · rw [if_pos c_13] at hF
          refine lv_iconst (v := 2) hx hb dX13_readTerm_95 (by decide) ?_
          refine lv_istore_n (lv' := [(1, .int 2), (0, .ref (Q 72))]) hx hb dX13_readTerm_96 rfl hl (by decide) rfl (fun ls hl => ?_)
          refine lv_aload_n hx hb dX13_readTerm_97 rfl (lv_at hl 1 rfl) ?_
          obtain ⟨r_14, u_15, h_16, hF⟩ := ob_some hF
          cases r_14 with
          | none =>
            have hF := ot_none hF
            cases hF
          | some r_17 =>
            have hF := ot_some hF
            refine mcV_v (As := []) (rest := []) hC hH (m_counts l G Z Q u_11 u_15 r_17  _ h_16) kwX13_counts kVX13_counts ⟨Nat.le_of_ble_eq_true rfl, Nat.le_of_ble_eq_true rfl⟩ rfl hl.1 rfl (Nat.le_of_ble_eq_true rfl) dX13_readTerm_98 (fun H locs hH => ?_)
            refine lv_aload_n hx hb dX13_readTerm_101 rfl (lv_at hl 1 rfl) ?_
            obtain ⟨r_18, u_19, h_20, hF⟩ := ob_some hF
            refine mcV_v (As := []) (rest := []) hC hH (m_scan l G Z Q u_15 u_19 r_18  _ h_20) kwX13_scan kVX13_scan ⟨Nat.le_of_ble_eq_true rfl, Nat.le_of_ble_eq_true rfl⟩ rfl hl.1 rfl (Nat.le_of_ble_eq_true rfl) dX13_readTerm_102 (fun H locs hH => ?_)
            refine lv_aload_n hx hb dX13_readTerm_105 rfl (lv_at hl 1 rfl) ?_
            obtain ⟨r_21, u_22, h_23, hF⟩ := ob_some hF
            cases r_21 with
            | none =>
              have hF := ot_none hF
              cases hF
            | some r_24 =>
              have hF := ot_some hF
              refine mcV_v (As := []) (rest := []) hC hH (m_name l G Z Q u_19 u_22 r_24  _ h_23) kwX13_name kVX13_name ⟨Nat.le_of_ble_eq_true rfl, Nat.le_of_ble_eq_true rfl⟩ rfl hl.1 rfl (Nat.le_of_ble_eq_true rfl) dX13_readTerm_106 (fun H locs hH => ?_)
              refine lv_aload_n hx hb dX13_readTerm_109 rfl (lv_at hl 1 rfl) ?_
              obtain ⟨r_25, u_26, h_27, hF⟩ := ob_some hF
              refine mcV_i (As := []) (rest := []) hC hH (m_findSign l G Z Q u_22 u_26 r_25  _ h_27) kwX13_findSign kVX13_findSign ⟨Nat.le_of_ble_eq_true rfl, Nat.le_of_ble_eq_true rfl⟩ rfl hl.1 rfl (Nat.le_of_ble_eq_true rfl) dX13_readTerm_110 (fun H locs hH => ?_)
              refine lv_istore_n (lv' := [(2, .int r_25), (1, .int 2), (0, .ref (Q 72))]) hx hb dX13_readTerm_113 rfl hl (by decide) rfl (fun ls hl => ?_)
              refine lv_iload_n hx hb dX13_readTerm_114 rfl (lv_at hl 0 rfl) ?_
              refine lv_iconst (v := (-1)) hx hb dX13_readTerm_115 (by decide) ?_
              refine lv_icmp_ne (tgt := 129) hx hb dX13_readTerm_116 (by decide) (fun c_28 => ?_) (fun c_28 => ?_)
              · rw [if_neg c_28] at hF
                refine lv_aload_n hx hb dX13_readTerm_129 rfl (lv_at hl 2 rfl) ?_
                refine lv_iload_n hx hb dX13_readTerm_130 rfl (lv_at hl 1 rfl) ?_
                refine lv_iload_n hx hb dX13_readTerm_131 rfl (lv_at hl 0 rfl) ?_
                obtain ⟨r_29, u_30, h_31, hF⟩ := ob_some hF
                refine mcV_v (As := [.int 2, .int r_25]) (rest := []) hC hH (m_put l G Z Q u_26 u_30 r_29 2 r_25 _ h_31) kwX13_put kVX13_put ⟨Nat.le_of_ble_eq_true rfl, Nat.le_of_ble_eq_true rfl⟩ rfl hl.1 rfl (Nat.le_of_ble_eq_true rfl) dX13_readTerm_132 (fun H locs hH => ?_)
                refine lv_aload_n hx hb dX13_readTerm_135 rfl (lv_at hl 2 rfl) ?_
                obtain ⟨r_32, u_33, h_34, hF⟩ := ob_some hF
                refine mcV_v (As := []) (rest := []) hC hH (m_scan l G Z Q u_30 u_33 r_32  _ h_34) kwX13_scan kVX13_scan ⟨Nat.le_of_ble_eq_true rfl, Nat.le_of_ble_eq_true rfl⟩ rfl hl.1 rfl (Nat.le_of_ble_eq_true rfl) dX13_readTerm_136 (fun H locs hH => ?_)
                have hF := mthr_eq hF
                exact mr_v hC hH hr hF dX13_readTerm_139 hlocks
              · rw [if_pos c_28] at hF
                refine lv_aload_n hx hb dX13_readTerm_119 rfl (lv_at hl 2 rfl) ?_
                refine lv_iconst (v := 2) hx hb dX13_readTerm_120 (by decide) ?_
                refine lv_aload_n hx hb dX13_readTerm_121 rfl (lv_at hl 2 rfl) ?_
                refine mg_44 hC hH dX13_readTerm_122 ?_
                obtain ⟨r_35, u_36, h_37, hF⟩ := ob_some hF
                refine mcV_r (As := [.int 2, .int (u_26.1 44)]) (rest := []) hC hH (m_wrong l G Z Q u_26 u_36 r_35 2 (u_26.1 44) _ h_37) kwX13_wrong kVX13_wrong ⟨Nat.le_of_ble_eq_true rfl, Nat.le_of_ble_eq_true rfl⟩ rfl hl.1 rfl (Nat.le_of_ble_eq_true rfl) dX13_readTerm_125 (fun H locs hH => ?_)
                cases hF
        · rw [if_neg c_13] at hF
          refine lv_iconst (v := 1) hx hb dX13_readTerm_91 (by decide) ?_
          refine lv_goto (tgt := 96) hx hb dX13_readTerm_92 (by decide) ?_
          refine lv_istore_n (lv' := [(1, .int 1), (0, .ref (Q 72))]) hx hb dX13_readTerm_96 rfl hl (by decide) rfl (fun ls hl => ?_)
          refine lv_aload_n hx hb dX13_readTerm_97 rfl (lv_at hl 1 rfl) ?_
          obtain ⟨r_38, u_39, h_40, hF⟩ := ob_some hF
          cases r_38 with
          | none =>
            have hF := ot_none hF
            cases hF
          | some r_41 =>
            have hF := ot_some hF
            refine mcV_v (As := []) (rest := []) hC hH (m_counts l G Z Q u_11 u_39 r_41  _ h_40) kwX13_counts kVX13_counts ⟨Nat.le_of_ble_eq_true rfl, Nat.le_of_ble_eq_true rfl⟩ rfl hl.1 rfl (Nat.le_of_ble_eq_true rfl) dX13_readTerm_98 (fun H locs hH => ?_)
            refine lv_aload_n hx hb dX13_readTerm_101 rfl (lv_at hl 1 rfl) ?_
            obtain ⟨r_42, u_43, h_44, hF⟩ := ob_some hF
            refine mcV_v (As := []) (rest := []) hC hH (m_scan l G Z Q u_39 u_43 r_42  _ h_44) kwX13_scan kVX13_scan ⟨Nat.le_of_ble_eq_true rfl, Nat.le_of_ble_eq_true rfl⟩ rfl hl.1 rfl (Nat.le_of_ble_eq_true rfl) dX13_readTerm_102 (fun H locs hH => ?_)
            refine lv_aload_n hx hb dX13_readTerm_105 rfl (lv_at hl 1 rfl) ?_
            obtain ⟨r_45, u_46, h_47, hF⟩ := ob_some hF
            cases r_45 with
            | none =>
              have hF := ot_none hF
              cases hF
            | some r_48 =>
              have hF := ot_some hF
              refine mcV_v (As := []) (rest := []) hC hH (m_name l G Z Q u_43 u_46 r_48  _ h_47) kwX13_name kVX13_name ⟨Nat.le_of_ble_eq_true rfl, Nat.le_of_ble_eq_true rfl⟩ rfl hl.1 rfl (Nat.le_of_ble_eq_true rfl) dX13_readTerm_106 (fun H locs hH => ?_)
              refine lv_aload_n hx hb dX13_readTerm_109 rfl (lv_at hl 1 rfl) ?_
              obtain ⟨r_49, u_50, h_51, hF⟩ := ob_some hF
              refine mcV_i (As := []) (rest := []) hC hH (m_findSign l G Z Q u_46 u_50 r_49  _ h_51) kwX13_findSign kVX13_findSign ⟨Nat.le_of_ble_eq_true rfl, Nat.le_of_ble_eq_true rfl⟩ rfl hl.1 rfl (Nat.le_of_ble_eq_true rfl) dX13_readTerm_110 (fun H locs hH => ?_)
              refine lv_istore_n (lv' := [(2, .int r_49), (1, .int 1), (0, .ref (Q 72))]) hx hb dX13_readTerm_113 rfl hl (by decide) rfl (fun ls hl => ?_)
              refine lv_iload_n hx hb dX13_readTerm_114 rfl (lv_at hl 0 rfl) ?_
              refine lv_iconst (v := (-1)) hx hb dX13_readTerm_115 (by decide) ?_
              refine lv_icmp_ne (tgt := 129) hx hb dX13_readTerm_116 (by decide) (fun c_52 => ?_) (fun c_52 => ?_)
              · rw [if_neg c_52] at hF
                refine lv_aload_n hx hb dX13_readTerm_129 rfl (lv_at hl 2 rfl) ?_
                refine lv_iload_n hx hb dX13_readTerm_130 rfl (lv_at hl 1 rfl) ?_
                refine lv_iload_n hx hb dX13_readTerm_131 rfl (lv_at hl 0 rfl) ?_
                obtain ⟨r_53, u_54, h_55, hF⟩ := ob_some hF
                refine mcV_v (As := [.int 1, .int r_49]) (rest := []) hC hH (m_put l G Z Q u_50 u_54 r_53 1 r_49 _ h_55) kwX13_put kVX13_put ⟨Nat.le_of_ble_eq_true rfl, Nat.le_of_ble_eq_true rfl⟩ rfl hl.1 rfl (Nat.le_of_ble_eq_true rfl) dX13_readTerm_132 (fun H locs hH => ?_)
                refine lv_aload_n hx hb dX13_readTerm_135 rfl (lv_at hl 2 rfl) ?_
                obtain ⟨r_56, u_57, h_58, hF⟩ := ob_some hF
                refine mcV_v (As := []) (rest := []) hC hH (m_scan l G Z Q u_54 u_57 r_56  _ h_58) kwX13_scan kVX13_scan ⟨Nat.le_of_ble_eq_true rfl, Nat.le_of_ble_eq_true rfl⟩ rfl hl.1 rfl (Nat.le_of_ble_eq_true rfl) dX13_readTerm_136 (fun H locs hH => ?_)
                have hF := mthr_eq hF
                exact mr_v hC hH hr hF dX13_readTerm_139 hlocks
              · rw [if_pos c_52] at hF
                refine lv_aload_n hx hb dX13_readTerm_119 rfl (lv_at hl 2 rfl) ?_
                refine lv_iconst (v := 2) hx hb dX13_readTerm_120 (by decide) ?_
                refine lv_aload_n hx hb dX13_readTerm_121 rfl (lv_at hl 2 rfl) ?_
                refine mg_44 hC hH dX13_readTerm_122 ?_
                obtain ⟨r_59, u_60, h_61, hF⟩ := ob_some hF
                refine mcV_r (As := [.int 2, .int (u_50.1 44)]) (rest := []) hC hH (m_wrong l G Z Q u_50 u_60 r_59 2 (u_50.1 44) _ h_61) kwX13_wrong kVX13_wrong ⟨Nat.le_of_ble_eq_true rfl, Nat.le_of_ble_eq_true rfl⟩ rfl hl.1 rfl (Nat.le_of_ble_eq_true rfl) dX13_readTerm_125 (fun H locs hH => ?_)
                cases hF
      · rw [if_pos c_9] at hF
        refine lv_aload_n hx hb dX13_readTerm_61 rfl (lv_at hl 0 rfl) ?_
        refine th_ldcw (tx := sTx 12) hx hb hC.2.2.2.1 (hC.2.2.2.2.2.2.2.2.1 12 (by decide)) dX13_readTerm_62 ?_
        obtain ⟨r_62, u_63, h_64, hF⟩ := ob_some hF
        refine mcV_i (As := [.ref (Z.1 12)]) (rest := []) hC hH (m_is l G Z Q u_7 u_63 r_62 12 _ h_64 (by decide)) kwX13_is kVX13_is ⟨Nat.le_of_ble_eq_true rfl, Nat.le_of_ble_eq_true rfl⟩ rfl hl.1 rfl (Nat.le_of_ble_eq_true rfl) dX13_readTerm_65 (fun H locs hH => ?_)
        refine lv_if_ne (tgt := 81) hx hb dX13_readTerm_68 (by decide) (fun c_65 => ?_) (fun c_65 => ?_)
        · rw [if_neg c_65] at hF
          refine lv_aload_n hx hb dX13_readTerm_81 rfl (lv_at hl 0 rfl) ?_
          refine th_ldcw (tx := sTx 11) hx hb hC.2.2.2.1 (hC.2.2.2.2.2.2.2.2.1 11 (by decide)) dX13_readTerm_82 ?_
          obtain ⟨r_66, u_67, h_68, hF⟩ := ob_some hF
          refine mcV_i (As := [.ref (Z.1 11)]) (rest := []) hC hH (m_is l G Z Q u_63 u_67 r_66 11 _ h_68 (by decide)) kwX13_is kVX13_is ⟨Nat.le_of_ble_eq_true rfl, Nat.le_of_ble_eq_true rfl⟩ rfl hl.1 rfl (Nat.le_of_ble_eq_true rfl) dX13_readTerm_85 (fun H locs hH => ?_)
          refine lv_if_eq (tgt := 95) hx hb dX13_readTerm_88 (by decide) (fun c_69 => ?_) (fun c_69 => ?_)
          · rw [if_pos c_69] at hF
            refine lv_iconst (v := 2) hx hb dX13_readTerm_95 (by decide) ?_
            refine lv_istore_n (lv' := [(1, .int 2), (0, .ref (Q 72))]) hx hb dX13_readTerm_96 rfl hl (by decide) rfl (fun ls hl => ?_)
            refine lv_aload_n hx hb dX13_readTerm_97 rfl (lv_at hl 1 rfl) ?_
            obtain ⟨r_70, u_71, h_72, hF⟩ := ob_some hF
            cases r_70 with
            | none =>
              have hF := ot_none hF
              cases hF
            | some r_73 =>
              have hF := ot_some hF
              refine mcV_v (As := []) (rest := []) hC hH (m_counts l G Z Q u_67 u_71 r_73  _ h_72) kwX13_counts kVX13_counts ⟨Nat.le_of_ble_eq_true rfl, Nat.le_of_ble_eq_true rfl⟩ rfl hl.1 rfl (Nat.le_of_ble_eq_true rfl) dX13_readTerm_98 (fun H locs hH => ?_)
              refine lv_aload_n hx hb dX13_readTerm_101 rfl (lv_at hl 1 rfl) ?_
              obtain ⟨r_74, u_75, h_76, hF⟩ := ob_some hF
              refine mcV_v (As := []) (rest := []) hC hH (m_scan l G Z Q u_71 u_75 r_74  _ h_76) kwX13_scan kVX13_scan ⟨Nat.le_of_ble_eq_true rfl, Nat.le_of_ble_eq_true rfl⟩ rfl hl.1 rfl (Nat.le_of_ble_eq_true rfl) dX13_readTerm_102 (fun H locs hH => ?_)
              refine lv_aload_n hx hb dX13_readTerm_105 rfl (lv_at hl 1 rfl) ?_
              obtain ⟨r_77, u_78, h_79, hF⟩ := ob_some hF
              cases r_77 with
              | none =>
                have hF := ot_none hF
                cases hF
              | some r_80 =>
                have hF := ot_some hF
                refine mcV_v (As := []) (rest := []) hC hH (m_name l G Z Q u_75 u_78 r_80  _ h_79) kwX13_name kVX13_name ⟨Nat.le_of_ble_eq_true rfl, Nat.le_of_ble_eq_true rfl⟩ rfl hl.1 rfl (Nat.le_of_ble_eq_true rfl) dX13_readTerm_106 (fun H locs hH => ?_)
                refine lv_aload_n hx hb dX13_readTerm_109 rfl (lv_at hl 1 rfl) ?_
                obtain ⟨r_81, u_82, h_83, hF⟩ := ob_some hF
                refine mcV_i (As := []) (rest := []) hC hH (m_findSign l G Z Q u_78 u_82 r_81  _ h_83) kwX13_findSign kVX13_findSign ⟨Nat.le_of_ble_eq_true rfl, Nat.le_of_ble_eq_true rfl⟩ rfl hl.1 rfl (Nat.le_of_ble_eq_true rfl) dX13_readTerm_110 (fun H locs hH => ?_)
                refine lv_istore_n (lv' := [(2, .int r_81), (1, .int 2), (0, .ref (Q 72))]) hx hb dX13_readTerm_113 rfl hl (by decide) rfl (fun ls hl => ?_)
                refine lv_iload_n hx hb dX13_readTerm_114 rfl (lv_at hl 0 rfl) ?_
                refine lv_iconst (v := (-1)) hx hb dX13_readTerm_115 (by decide) ?_
                refine lv_icmp_ne (tgt := 129) hx hb dX13_readTerm_116 (by decide) (fun c_84 => ?_) (fun c_84 => ?_)
                · rw [if_neg c_84] at hF
                  refine lv_aload_n hx hb dX13_readTerm_129 rfl (lv_at hl 2 rfl) ?_
                  refine lv_iload_n hx hb dX13_readTerm_130 rfl (lv_at hl 1 rfl) ?_
                  refine lv_iload_n hx hb dX13_readTerm_131 rfl (lv_at hl 0 rfl) ?_
                  obtain ⟨r_85, u_86, h_87, hF⟩ := ob_some hF
                  refine mcV_v (As := [.int 2, .int r_81]) (rest := []) hC hH (m_put l G Z Q u_82 u_86 r_85 2 r_81 _ h_87) kwX13_put kVX13_put ⟨Nat.le_of_ble_eq_true rfl, Nat.le_of_ble_eq_true rfl⟩ rfl hl.1 rfl (Nat.le_of_ble_eq_true rfl) dX13_readTerm_132 (fun H locs hH => ?_)
                  refine lv_aload_n hx hb dX13_readTerm_135 rfl (lv_at hl 2 rfl) ?_
                  obtain ⟨r_88, u_89, h_90, hF⟩ := ob_some hF
                  refine mcV_v (As := []) (rest := []) hC hH (m_scan l G Z Q u_86 u_89 r_88  _ h_90) kwX13_scan kVX13_scan ⟨Nat.le_of_ble_eq_true rfl, Nat.le_of_ble_eq_true rfl⟩ rfl hl.1 rfl (Nat.le_of_ble_eq_true rfl) dX13_readTerm_136 (fun H locs hH => ?_)
                  have hF := mthr_eq hF
                  exact mr_v hC hH hr hF dX13_readTerm_139 hlocks
                · rw [if_pos c_84] at hF
                  refine lv_aload_n hx hb dX13_readTerm_119 rfl (lv_at hl 2 rfl) ?_
                  refine lv_iconst (v := 2) hx hb dX13_readTerm_120 (by decide) ?_
                  refine lv_aload_n hx hb dX13_readTerm_121 rfl (lv_at hl 2 rfl) ?_
                  refine mg_44 hC hH dX13_readTerm_122 ?_
                  obtain ⟨r_91, u_92, h_93, hF⟩ := ob_some hF
                  refine mcV_r (As := [.int 2, .int (u_82.1 44)]) (rest := []) hC hH (m_wrong l G Z Q u_82 u_92 r_91 2 (u_82.1 44) _ h_93) kwX13_wrong kVX13_wrong ⟨Nat.le_of_ble_eq_true rfl, Nat.le_of_ble_eq_true rfl⟩ rfl hl.1 rfl (Nat.le_of_ble_eq_true rfl) dX13_readTerm_125 (fun H locs hH => ?_)
                  cases hF
          · rw [if_neg c_69] at hF
            refine lv_iconst (v := 1) hx hb dX13_readTerm_91 (by decide) ?_
            refine lv_goto (tgt := 96) hx hb dX13_readTerm_92 (by decide) ?_
            refine lv_istore_n (lv' := [(1, .int 1), (0, .ref (Q 72))]) hx hb dX13_readTerm_96 rfl hl (by decide) rfl (fun ls hl => ?_)
            refine lv_aload_n hx hb dX13_readTerm_97 rfl (lv_at hl 1 rfl) ?_
            obtain ⟨r_94, u_95, h_96, hF⟩ := ob_some hF
            cases r_94 with
            | none =>
              have hF := ot_none hF
              cases hF
            | some r_97 =>
              have hF := ot_some hF
              refine mcV_v (As := []) (rest := []) hC hH (m_counts l G Z Q u_67 u_95 r_97  _ h_96) kwX13_counts kVX13_counts ⟨Nat.le_of_ble_eq_true rfl, Nat.le_of_ble_eq_true rfl⟩ rfl hl.1 rfl (Nat.le_of_ble_eq_true rfl) dX13_readTerm_98 (fun H locs hH => ?_)
              refine lv_aload_n hx hb dX13_readTerm_101 rfl (lv_at hl 1 rfl) ?_
              obtain ⟨r_98, u_99, h_100, hF⟩ := ob_some hF
              refine mcV_v (As := []) (rest := []) hC hH (m_scan l G Z Q u_95 u_99 r_98  _ h_100) kwX13_scan kVX13_scan ⟨Nat.le_of_ble_eq_true rfl, Nat.le_of_ble_eq_true rfl⟩ rfl hl.1 rfl (Nat.le_of_ble_eq_true rfl) dX13_readTerm_102 (fun H locs hH => ?_)
              refine lv_aload_n hx hb dX13_readTerm_105 rfl (lv_at hl 1 rfl) ?_
              obtain ⟨r_101, u_102, h_103, hF⟩ := ob_some hF
              cases r_101 with
              | none =>
                have hF := ot_none hF
                cases hF
              | some r_104 =>
                have hF := ot_some hF
                refine mcV_v (As := []) (rest := []) hC hH (m_name l G Z Q u_99 u_102 r_104  _ h_103) kwX13_name kVX13_name ⟨Nat.le_of_ble_eq_true rfl, Nat.le_of_ble_eq_true rfl⟩ rfl hl.1 rfl (Nat.le_of_ble_eq_true rfl) dX13_readTerm_106 (fun H locs hH => ?_)
                refine lv_aload_n hx hb dX13_readTerm_109 rfl (lv_at hl 1 rfl) ?_
                obtain ⟨r_105, u_106, h_107, hF⟩ := ob_some hF
                refine mcV_i (As := []) (rest := []) hC hH (m_findSign l G Z Q u_102 u_106 r_105  _ h_107) kwX13_findSign kVX13_findSign ⟨Nat.le_of_ble_eq_true rfl, Nat.le_of_ble_eq_true rfl⟩ rfl hl.1 rfl (Nat.le_of_ble_eq_true rfl) dX13_readTerm_110 (fun H locs hH => ?_)
                refine lv_istore_n (lv' := [(2, .int r_105), (1, .int 1), (0, .ref (Q 72))]) hx hb dX13_readTerm_113 rfl hl (by decide) rfl (fun ls hl => ?_)
                refine lv_iload_n hx hb dX13_readTerm_114 rfl (lv_at hl 0 rfl) ?_
                refine lv_iconst (v := (-1)) hx hb dX13_readTerm_115 (by decide) ?_
                refine lv_icmp_ne (tgt := 129) hx hb dX13_readTerm_116 (by decide) (fun c_108 => ?_) (fun c_108 => ?_)
                · rw [if_neg c_108] at hF
                  refine lv_aload_n hx hb dX13_readTerm_129 rfl (lv_at hl 2 rfl) ?_
                  refine lv_iload_n hx hb dX13_readTerm_130 rfl (lv_at hl 1 rfl) ?_
                  refine lv_iload_n hx hb dX13_readTerm_131 rfl (lv_at hl 0 rfl) ?_
                  obtain ⟨r_109, u_110, h_111, hF⟩ := ob_some hF
                  refine mcV_v (As := [.int 1, .int r_105]) (rest := []) hC hH (m_put l G Z Q u_106 u_110 r_109 1 r_105 _ h_111) kwX13_put kVX13_put ⟨Nat.le_of_ble_eq_true rfl, Nat.le_of_ble_eq_true rfl⟩ rfl hl.1 rfl (Nat.le_of_ble_eq_true rfl) dX13_readTerm_132 (fun H locs hH => ?_)
                  refine lv_aload_n hx hb dX13_readTerm_135 rfl (lv_at hl 2 rfl) ?_
                  obtain ⟨r_112, u_113, h_114, hF⟩ := ob_some hF
                  refine mcV_v (As := []) (rest := []) hC hH (m_scan l G Z Q u_110 u_113 r_112  _ h_114) kwX13_scan kVX13_scan ⟨Nat.le_of_ble_eq_true rfl, Nat.le_of_ble_eq_true rfl⟩ rfl hl.1 rfl (Nat.le_of_ble_eq_true rfl) dX13_readTerm_136 (fun H locs hH => ?_)
                  have hF := mthr_eq hF
                  exact mr_v hC hH hr hF dX13_readTerm_139 hlocks
                · rw [if_pos c_108] at hF
                  refine lv_aload_n hx hb dX13_readTerm_119 rfl (lv_at hl 2 rfl) ?_
                  refine lv_iconst (v := 2) hx hb dX13_readTerm_120 (by decide) ?_
                  refine lv_aload_n hx hb dX13_readTerm_121 rfl (lv_at hl 2 rfl) ?_
                  refine mg_44 hC hH dX13_readTerm_122 ?_
                  obtain ⟨r_115, u_116, h_117, hF⟩ := ob_some hF
                  refine mcV_r (As := [.int 2, .int (u_106.1 44)]) (rest := []) hC hH (m_wrong l G Z Q u_106 u_116 r_115 2 (u_106.1 44) _ h_117) kwX13_wrong kVX13_wrong ⟨Nat.le_of_ble_eq_true rfl, Nat.le_of_ble_eq_true rfl⟩ rfl hl.1 rfl (Nat.le_of_ble_eq_true rfl) dX13_readTerm_125 (fun H locs hH => ?_)
                  cases hF
        · rw [if_pos c_65] at hF
          refine lv_aload_n hx hb dX13_readTerm_71 rfl (lv_at hl 0 rfl) ?_
          refine lv_iconst (v := 1) hx hb dX13_readTerm_72 (by decide) ?_
          refine lv_aload_n hx hb dX13_readTerm_73 rfl (lv_at hl 0 rfl) ?_
          refine mg_44 hC hH dX13_readTerm_74 ?_
          obtain ⟨r_118, u_119, h_120, hF⟩ := ob_some hF
          refine mcV_r (As := [.int 1, .int (u_63.1 44)]) (rest := []) hC hH (m_wrong l G Z Q u_63 u_119 r_118 1 (u_63.1 44) _ h_120) kwX13_wrong kVX13_wrong ⟨Nat.le_of_ble_eq_true rfl, Nat.le_of_ble_eq_true rfl⟩ rfl hl.1 rfl (Nat.le_of_ble_eq_true rfl) dX13_readTerm_77 (fun H locs hH => ?_)
          cases hF
    · rw [if_neg c_5] at hF
      refine lv_aload_n hx hb dX13_readTerm_36 rfl (lv_at hl 0 rfl) ?_
      obtain ⟨r_121, u_122, h_123, hF⟩ := ob_some hF
      cases r_121 with
      | none =>
        have hF := ot_none hF
        cases hF
      | some r_124 =>
        have hF := ot_some hF
        refine mcV_v (As := []) (rest := []) hC hH (m_counts l G Z Q u_3 u_122 r_124  _ h_123) kwX13_counts kVX13_counts ⟨Nat.le_of_ble_eq_true rfl, Nat.le_of_ble_eq_true rfl⟩ rfl hl.1 rfl (Nat.le_of_ble_eq_true rfl) dX13_readTerm_37 (fun H locs hH => ?_)
        refine lv_aload_n hx hb dX13_readTerm_40 rfl (lv_at hl 0 rfl) ?_
        refine lv_iconst (v := 3) hx hb dX13_readTerm_41 (by decide) ?_
        refine lv_iconst (v := 0) hx hb dX13_readTerm_42 (by decide) ?_
        obtain ⟨r_125, u_126, h_127, hF⟩ := ob_some hF
        refine mcV_v (As := [.int 3, .int 0]) (rest := []) hC hH (m_put l G Z Q u_122 u_126 r_125 3 0 _ h_127) kwX13_put kVX13_put ⟨Nat.le_of_ble_eq_true rfl, Nat.le_of_ble_eq_true rfl⟩ rfl hl.1 rfl (Nat.le_of_ble_eq_true rfl) dX13_readTerm_43 (fun H locs hH => ?_)
        refine lv_aload_n hx hb dX13_readTerm_46 rfl (lv_at hl 0 rfl) ?_
        obtain ⟨r_128, u_129, h_130, hF⟩ := ob_some hF
        refine mcV_v (As := []) (rest := []) hC hH (m_scan l G Z Q u_126 u_129 r_128  _ h_130) kwX13_scan kVX13_scan ⟨Nat.le_of_ble_eq_true rfl, Nat.le_of_ble_eq_true rfl⟩ rfl hl.1 rfl (Nat.le_of_ble_eq_true rfl) dX13_readTerm_47 (fun H locs hH => ?_)
        have hF := mthr_eq hF
        exact mr_v hC hH hr hF dX13_readTerm_50 hlocks
  · rw [if_pos c_1] at hF
    refine lv_aload_n hx hb dX13_readTerm_8 rfl (lv_at hl 0 rfl) ?_
    obtain ⟨r_131, u_132, h_133, hF⟩ := ob_some hF
    cases r_131 with
    | none =>
      have hF := ot_none hF
      cases hF
    | some r_134 =>
      have hF := ot_some hF
      refine mcV_v (As := []) (rest := []) hC hH (m_counts l G Z Q u u_132 r_134  _ h_133) kwX13_counts kVX13_counts ⟨Nat.le_of_ble_eq_true rfl, Nat.le_of_ble_eq_true rfl⟩ rfl hl.1 rfl (Nat.le_of_ble_eq_true rfl) dX13_readTerm_9 (fun H locs hH => ?_)
      refine lv_aload_n hx hb dX13_readTerm_12 rfl (lv_at hl 0 rfl) ?_
      refine lv_iconst (v := 0) hx hb dX13_readTerm_13 (by decide) ?_
      refine lv_aload_n hx hb dX13_readTerm_14 rfl (lv_at hl 0 rfl) ?_
      refine mg_47 hC hH dX13_readTerm_15 ?_
      obtain ⟨r_135, u_136, h_137, hF⟩ := ob_some hF
      refine mcV_v (As := [.int 0, .int (u_132.1 47)]) (rest := []) hC hH (m_put l G Z Q u_132 u_136 r_135 0 (u_132.1 47) _ h_137) kwX13_put kVX13_put ⟨Nat.le_of_ble_eq_true rfl, Nat.le_of_ble_eq_true rfl⟩ rfl hl.1 rfl (Nat.le_of_ble_eq_true rfl) dX13_readTerm_18 (fun H locs hH => ?_)
      refine lv_aload_n hx hb dX13_readTerm_21 rfl (lv_at hl 0 rfl) ?_
      obtain ⟨r_138, u_139, h_140, hF⟩ := ob_some hF
      refine mcV_v (As := []) (rest := []) hC hH (m_scan l G Z Q u_136 u_139 r_138  _ h_140) kwX13_scan kVX13_scan ⟨Nat.le_of_ble_eq_true rfl, Nat.le_of_ble_eq_true rfl⟩ rfl hl.1 rfl (Nat.le_of_ble_eq_true rfl) dX13_readTerm_22 (fun H locs hH => ?_)
      have hF := mthr_eq hF
      exact mr_v hC hH hr hF dX13_readTerm_25 hlocks
set_option maxHeartbeats 4000000 in
set_option maxRecDepth 100000 in
theorem t_readTerm (l : Launch) (G : gG) (Z : gM) (Q : Nat → Nat) (u u1 : MS)  (sz : Nat) (hF : f_readTerm u = some (none, u1)) : MetT l yX13_readTerm (Cond.code yX13_readTerm cX13_readTerm 3 none :: wM) { frames := 8, cells := 0, slots := 0, locals := 169 } (va_Pc [.ref (Q 72)] (mPM G Z Q u sz)) (mQt G Q u1 sz) 0 0 (mA Q sz) := by
  refine MetT.ofW (cc := cX13_readTerm) (maxL := 3) (ret := none) (by decide) rfl ?_
  intro p e s m args below meth c s₁ B hml hv
  obtain ⟨rfl, rfl, hP, hB, hD, hE⟩ := hv
  have hr := B.returns
  have hlocks := B.notSynchronized
  have hts := atoms_spec (ws := Cond.code yX13_readTerm cX13_readTerm 3 none :: wM) B.pre
  have hC : mX p c cX13_readTerm 3 s m _ G Z Q := ⟨B.exec, B.bytes, hml, findClass_of_methodNamed B.named, fun w h => hts w (List.mem_cons_of_mem _ h), hB, hE⟩
  have hx := hC.1
  have hb := hC.2.1
  have hH : mH G Q u s s.heap [] := ⟨hP, hD, va_S.rf⟩
  have hno : c.exceptionTable.isEmpty = true := BodyLoose.noHandlers B (hts _ List.mem_cons_self)
  have hl := lv_entry ([.ref (Q 72)]) (n := 3) (Nat.le_of_ble_eq_true rfl)
  rw [lg_entry_eq]
  generalize (lg_sl ([.ref (Q 72)]) ++ List.replicate (3 - (lg_sl ([.ref (Q 72)])).length) Slot.unset).toArray = ls at hl ⊢
  have hl : lv_has ls 3 [(0, .ref (Q 72))] := hl
  unfold f_readTerm at hF
  refine lv_aload_n hx hb dX13_readTerm_0 rfl (lv_at hl 0 rfl) ?_
  refine mg_46 hC hH dX13_readTerm_1 ?_
  refine lv_iconst (v := 2) hx hb dX13_readTerm_4 (by decide) ?_
  refine lv_icmp_ne (tgt := 26) hx hb dX13_readTerm_5 (by decide) (fun c_1 => ?_) (fun c_1 => ?_)
  · rw [if_neg c_1] at hF
    refine lv_aload_n hx hb dX13_readTerm_26 rfl (lv_at hl 0 rfl) ?_
    refine th_ldcw (tx := sTx 13) hx hb hC.2.2.2.1 (hC.2.2.2.2.2.2.2.2.1 13 (by decide)) dX13_readTerm_27 ?_
    obtain ⟨r_2, u_3, h_4, hF⟩ := ob_some hF
    refine mcV_i (As := [.ref (Z.1 13)]) (rest := []) hC hH (m_is l G Z Q u u_3 r_2 13 _ h_4 (by decide)) kwX13_is kVX13_is ⟨Nat.le_of_ble_eq_true rfl, Nat.le_of_ble_eq_true rfl⟩ rfl hl.1 rfl (Nat.le_of_ble_eq_true rfl) dX13_readTerm_30 (fun H locs hH => ?_)
    refine lv_if_eq (tgt := 51) hx hb dX13_readTerm_33 (by decide) (fun c_5 => ?_) (fun c_5 => ?_)
    · rw [if_pos c_5] at hF
      refine lv_aload_n hx hb dX13_readTerm_51 rfl (lv_at hl 0 rfl) ?_
      refine th_ldcw (tx := sTx 11) hx hb hC.2.2.2.1 (hC.2.2.2.2.2.2.2.2.1 11 (by decide)) dX13_readTerm_52 ?_
      obtain ⟨r_6, u_7, h_8, hF⟩ := ob_some hF
      refine mcV_i (As := [.ref (Z.1 11)]) (rest := []) hC hH (m_is l G Z Q u_3 u_7 r_6 11 _ h_8 (by decide)) kwX13_is kVX13_is ⟨Nat.le_of_ble_eq_true rfl, Nat.le_of_ble_eq_true rfl⟩ rfl hl.1 rfl (Nat.le_of_ble_eq_true rfl) dX13_readTerm_55 (fun H locs hH => ?_)
      refine lv_if_ne (tgt := 81) hx hb dX13_readTerm_58 (by decide) (fun c_9 => ?_) (fun c_9 => ?_)
      · rw [if_neg c_9] at hF
        refine lv_aload_n hx hb dX13_readTerm_81 rfl (lv_at hl 0 rfl) ?_
        refine th_ldcw (tx := sTx 11) hx hb hC.2.2.2.1 (hC.2.2.2.2.2.2.2.2.1 11 (by decide)) dX13_readTerm_82 ?_
        obtain ⟨r_10, u_11, h_12, hF⟩ := ob_some hF
        refine mcV_i (As := [.ref (Z.1 11)]) (rest := []) hC hH (m_is l G Z Q u_7 u_11 r_10 11 _ h_12 (by decide)) kwX13_is kVX13_is ⟨Nat.le_of_ble_eq_true rfl, Nat.le_of_ble_eq_true rfl⟩ rfl hl.1 rfl (Nat.le_of_ble_eq_true rfl) dX13_readTerm_85 (fun H locs hH => ?_)
        refine lv_if_eq (tgt := 95) hx hb dX13_readTerm_88 (by decide) (fun c_13 => ?_) (fun c_13 => ?_)
        · rw [if_pos c_13] at hF
          refine lv_iconst (v := 2) hx hb dX13_readTerm_95 (by decide) ?_
          refine lv_istore_n (lv' := [(1, .int 2), (0, .ref (Q 72))]) hx hb dX13_readTerm_96 rfl hl (by decide) rfl (fun ls hl => ?_)
          refine lv_aload_n hx hb dX13_readTerm_97 rfl (lv_at hl 1 rfl) ?_
          obtain ⟨r_14, u_15, h_16, hF⟩ := ob_some hF
          cases r_14 with
          | none =>
            have hF := ot_none hF
            exact mt_pass hH (mt_run (As := []) (rest := []) hC hH (t_counts l G Z Q u_11 u_15  _ h_16) kwX13_counts kVX13_counts ⟨Nat.le_of_ble_eq_true rfl, Nat.le_of_ble_eq_true rfl⟩ rfl hl.1 rfl (Nat.le_of_ble_eq_true rfl) dX13_readTerm_98) hno hlocks hF
          | some r_17 =>
            have hF := ot_some hF
            refine mcV_v (As := []) (rest := []) hC hH (m_counts l G Z Q u_11 u_15 r_17  _ h_16) kwX13_counts kVX13_counts ⟨Nat.le_of_ble_eq_true rfl, Nat.le_of_ble_eq_true rfl⟩ rfl hl.1 rfl (Nat.le_of_ble_eq_true rfl) dX13_readTerm_98 (fun H locs hH => ?_)
            refine lv_aload_n hx hb dX13_readTerm_101 rfl (lv_at hl 1 rfl) ?_
            obtain ⟨r_18, u_19, h_20, hF⟩ := ob_some hF
            refine mcV_v (As := []) (rest := []) hC hH (m_scan l G Z Q u_15 u_19 r_18  _ h_20) kwX13_scan kVX13_scan ⟨Nat.le_of_ble_eq_true rfl, Nat.le_of_ble_eq_true rfl⟩ rfl hl.1 rfl (Nat.le_of_ble_eq_true rfl) dX13_readTerm_102 (fun H locs hH => ?_)
            refine lv_aload_n hx hb dX13_readTerm_105 rfl (lv_at hl 1 rfl) ?_
            obtain ⟨r_21, u_22, h_23, hF⟩ := ob_some hF
            cases r_21 with
            | none =>
              have hF := ot_none hF
              exact mt_pass hH (mt_run (As := []) (rest := []) hC hH (t_name l G Z Q u_19 u_22  _ h_23) kwX13_name kVX13_name ⟨Nat.le_of_ble_eq_true rfl, Nat.le_of_ble_eq_true rfl⟩ rfl hl.1 rfl (Nat.le_of_ble_eq_true rfl) dX13_readTerm_106) hno hlocks hF
            | some r_24 =>
              have hF := ot_some hF
              refine mcV_v (As := []) (rest := []) hC hH (m_name l G Z Q u_19 u_22 r_24  _ h_23) kwX13_name kVX13_name ⟨Nat.le_of_ble_eq_true rfl, Nat.le_of_ble_eq_true rfl⟩ rfl hl.1 rfl (Nat.le_of_ble_eq_true rfl) dX13_readTerm_106 (fun H locs hH => ?_)
              refine lv_aload_n hx hb dX13_readTerm_109 rfl (lv_at hl 1 rfl) ?_
              obtain ⟨r_25, u_26, h_27, hF⟩ := ob_some hF
              refine mcV_i (As := []) (rest := []) hC hH (m_findSign l G Z Q u_22 u_26 r_25  _ h_27) kwX13_findSign kVX13_findSign ⟨Nat.le_of_ble_eq_true rfl, Nat.le_of_ble_eq_true rfl⟩ rfl hl.1 rfl (Nat.le_of_ble_eq_true rfl) dX13_readTerm_110 (fun H locs hH => ?_)
              refine lv_istore_n (lv' := [(2, .int r_25), (1, .int 2), (0, .ref (Q 72))]) hx hb dX13_readTerm_113 rfl hl (by decide) rfl (fun ls hl => ?_)
              refine lv_iload_n hx hb dX13_readTerm_114 rfl (lv_at hl 0 rfl) ?_
              refine lv_iconst (v := (-1)) hx hb dX13_readTerm_115 (by decide) ?_
              refine lv_icmp_ne (tgt := 129) hx hb dX13_readTerm_116 (by decide) (fun c_28 => ?_) (fun c_28 => ?_)
              · rw [if_neg c_28] at hF
                refine lv_aload_n hx hb dX13_readTerm_129 rfl (lv_at hl 2 rfl) ?_
                refine lv_iload_n hx hb dX13_readTerm_130 rfl (lv_at hl 1 rfl) ?_
                refine lv_iload_n hx hb dX13_readTerm_131 rfl (lv_at hl 0 rfl) ?_
                obtain ⟨r_29, u_30, h_31, hF⟩ := ob_some hF
                refine mcV_v (As := [.int 2, .int r_25]) (rest := []) hC hH (m_put l G Z Q u_26 u_30 r_29 2 r_25 _ h_31) kwX13_put kVX13_put ⟨Nat.le_of_ble_eq_true rfl, Nat.le_of_ble_eq_true rfl⟩ rfl hl.1 rfl (Nat.le_of_ble_eq_true rfl) dX13_readTerm_132 (fun H locs hH => ?_)
                refine lv_aload_n hx hb dX13_readTerm_135 rfl (lv_at hl 2 rfl) ?_
                obtain ⟨r_32, u_33, h_34, hF⟩ := ob_some hF
                refine mcV_v (As := []) (rest := []) hC hH (m_scan l G Z Q u_30 u_33 r_32  _ h_34) kwX13_scan kVX13_scan ⟨Nat.le_of_ble_eq_true rfl, Nat.le_of_ble_eq_true rfl⟩ rfl hl.1 rfl (Nat.le_of_ble_eq_true rfl) dX13_readTerm_136 (fun H locs hH => ?_)
                cases hF
              · rw [if_pos c_28] at hF
                refine lv_aload_n hx hb dX13_readTerm_119 rfl (lv_at hl 2 rfl) ?_
                refine lv_iconst (v := 2) hx hb dX13_readTerm_120 (by decide) ?_
                refine lv_aload_n hx hb dX13_readTerm_121 rfl (lv_at hl 2 rfl) ?_
                refine mg_44 hC hH dX13_readTerm_122 ?_
                obtain ⟨r_35, u_36, h_37, hF⟩ := ob_some hF
                refine mcV_r (As := [.int 2, .int (u_26.1 44)]) (rest := []) hC hH (m_wrong l G Z Q u_26 u_36 r_35 2 (u_26.1 44) _ h_37) kwX13_wrong kVX13_wrong ⟨Nat.le_of_ble_eq_true rfl, Nat.le_of_ble_eq_true rfl⟩ rfl hl.1 rfl (Nat.le_of_ble_eq_true rfl) dX13_readTerm_125 (fun H locs hH => ?_)
                exact mt_throw hC hH hno hF dX13_readTerm_128 hlocks
        · rw [if_neg c_13] at hF
          refine lv_iconst (v := 1) hx hb dX13_readTerm_91 (by decide) ?_
          refine lv_goto (tgt := 96) hx hb dX13_readTerm_92 (by decide) ?_
          refine lv_istore_n (lv' := [(1, .int 1), (0, .ref (Q 72))]) hx hb dX13_readTerm_96 rfl hl (by decide) rfl (fun ls hl => ?_)
          refine lv_aload_n hx hb dX13_readTerm_97 rfl (lv_at hl 1 rfl) ?_
          obtain ⟨r_38, u_39, h_40, hF⟩ := ob_some hF
          cases r_38 with
          | none =>
            have hF := ot_none hF
            exact mt_pass hH (mt_run (As := []) (rest := []) hC hH (t_counts l G Z Q u_11 u_39  _ h_40) kwX13_counts kVX13_counts ⟨Nat.le_of_ble_eq_true rfl, Nat.le_of_ble_eq_true rfl⟩ rfl hl.1 rfl (Nat.le_of_ble_eq_true rfl) dX13_readTerm_98) hno hlocks hF
          | some r_41 =>
            have hF := ot_some hF
            refine mcV_v (As := []) (rest := []) hC hH (m_counts l G Z Q u_11 u_39 r_41  _ h_40) kwX13_counts kVX13_counts ⟨Nat.le_of_ble_eq_true rfl, Nat.le_of_ble_eq_true rfl⟩ rfl hl.1 rfl (Nat.le_of_ble_eq_true rfl) dX13_readTerm_98 (fun H locs hH => ?_)
            refine lv_aload_n hx hb dX13_readTerm_101 rfl (lv_at hl 1 rfl) ?_
            obtain ⟨r_42, u_43, h_44, hF⟩ := ob_some hF
            refine mcV_v (As := []) (rest := []) hC hH (m_scan l G Z Q u_39 u_43 r_42  _ h_44) kwX13_scan kVX13_scan ⟨Nat.le_of_ble_eq_true rfl, Nat.le_of_ble_eq_true rfl⟩ rfl hl.1 rfl (Nat.le_of_ble_eq_true rfl) dX13_readTerm_102 (fun H locs hH => ?_)
            refine lv_aload_n hx hb dX13_readTerm_105 rfl (lv_at hl 1 rfl) ?_
            obtain ⟨r_45, u_46, h_47, hF⟩ := ob_some hF
            cases r_45 with
            | none =>
              have hF := ot_none hF
              exact mt_pass hH (mt_run (As := []) (rest := []) hC hH (t_name l G Z Q u_43 u_46  _ h_47) kwX13_name kVX13_name ⟨Nat.le_of_ble_eq_true rfl, Nat.le_of_ble_eq_true rfl⟩ rfl hl.1 rfl (Nat.le_of_ble_eq_true rfl) dX13_readTerm_106) hno hlocks hF
            | some r_48 =>
              have hF := ot_some hF
              refine mcV_v (As := []) (rest := []) hC hH (m_name l G Z Q u_43 u_46 r_48  _ h_47) kwX13_name kVX13_name ⟨Nat.le_of_ble_eq_true rfl, Nat.le_of_ble_eq_true rfl⟩ rfl hl.1 rfl (Nat.le_of_ble_eq_true rfl) dX13_readTerm_106 (fun H locs hH => ?_)
              refine lv_aload_n hx hb dX13_readTerm_109 rfl (lv_at hl 1 rfl) ?_
              obtain ⟨r_49, u_50, h_51, hF⟩ := ob_some hF
              refine mcV_i (As := []) (rest := []) hC hH (m_findSign l G Z Q u_46 u_50 r_49  _ h_51) kwX13_findSign kVX13_findSign ⟨Nat.le_of_ble_eq_true rfl, Nat.le_of_ble_eq_true rfl⟩ rfl hl.1 rfl (Nat.le_of_ble_eq_true rfl) dX13_readTerm_110 (fun H locs hH => ?_)
              refine lv_istore_n (lv' := [(2, .int r_49), (1, .int 1), (0, .ref (Q 72))]) hx hb dX13_readTerm_113 rfl hl (by decide) rfl (fun ls hl => ?_)
              refine lv_iload_n hx hb dX13_readTerm_114 rfl (lv_at hl 0 rfl) ?_
              refine lv_iconst (v := (-1)) hx hb dX13_readTerm_115 (by decide) ?_
              refine lv_icmp_ne (tgt := 129) hx hb dX13_readTerm_116 (by decide) (fun c_52 => ?_) (fun c_52 => ?_)
              · rw [if_neg c_52] at hF
                refine lv_aload_n hx hb dX13_readTerm_129 rfl (lv_at hl 2 rfl) ?_
                refine lv_iload_n hx hb dX13_readTerm_130 rfl (lv_at hl 1 rfl) ?_
                refine lv_iload_n hx hb dX13_readTerm_131 rfl (lv_at hl 0 rfl) ?_
                obtain ⟨r_53, u_54, h_55, hF⟩ := ob_some hF
                refine mcV_v (As := [.int 1, .int r_49]) (rest := []) hC hH (m_put l G Z Q u_50 u_54 r_53 1 r_49 _ h_55) kwX13_put kVX13_put ⟨Nat.le_of_ble_eq_true rfl, Nat.le_of_ble_eq_true rfl⟩ rfl hl.1 rfl (Nat.le_of_ble_eq_true rfl) dX13_readTerm_132 (fun H locs hH => ?_)
                refine lv_aload_n hx hb dX13_readTerm_135 rfl (lv_at hl 2 rfl) ?_
                obtain ⟨r_56, u_57, h_58, hF⟩ := ob_some hF
                refine mcV_v (As := []) (rest := []) hC hH (m_scan l G Z Q u_54 u_57 r_56  _ h_58) kwX13_scan kVX13_scan ⟨Nat.le_of_ble_eq_true rfl, Nat.le_of_ble_eq_true rfl⟩ rfl hl.1 rfl (Nat.le_of_ble_eq_true rfl) dX13_readTerm_136 (fun H locs hH => ?_)
                cases hF
              · rw [if_pos c_52] at hF
                refine lv_aload_n hx hb dX13_readTerm_119 rfl (lv_at hl 2 rfl) ?_
                refine lv_iconst (v := 2) hx hb dX13_readTerm_120 (by decide) ?_
                refine lv_aload_n hx hb dX13_readTerm_121 rfl (lv_at hl 2 rfl) ?_
                refine mg_44 hC hH dX13_readTerm_122 ?_
                obtain ⟨r_59, u_60, h_61, hF⟩ := ob_some hF
                refine mcV_r (As := [.int 2, .int (u_50.1 44)]) (rest := []) hC hH (m_wrong l G Z Q u_50 u_60 r_59 2 (u_50.1 44) _ h_61) kwX13_wrong kVX13_wrong ⟨Nat.le_of_ble_eq_true rfl, Nat.le_of_ble_eq_true rfl⟩ rfl hl.1 rfl (Nat.le_of_ble_eq_true rfl) dX13_readTerm_125 (fun H locs hH => ?_)
                exact mt_throw hC hH hno hF dX13_readTerm_128 hlocks
      · rw [if_pos c_9] at hF
        refine lv_aload_n hx hb dX13_readTerm_61 rfl (lv_at hl 0 rfl) ?_
        refine th_ldcw (tx := sTx 12) hx hb hC.2.2.2.1 (hC.2.2.2.2.2.2.2.2.1 12 (by decide)) dX13_readTerm_62 ?_
        obtain ⟨r_62, u_63, h_64, hF⟩ := ob_some hF
        refine mcV_i (As := [.ref (Z.1 12)]) (rest := []) hC hH (m_is l G Z Q u_7 u_63 r_62 12 _ h_64 (by decide)) kwX13_is kVX13_is ⟨Nat.le_of_ble_eq_true rfl, Nat.le_of_ble_eq_true rfl⟩ rfl hl.1 rfl (Nat.le_of_ble_eq_true rfl) dX13_readTerm_65 (fun H locs hH => ?_)
        refine lv_if_ne (tgt := 81) hx hb dX13_readTerm_68 (by decide) (fun c_65 => ?_) (fun c_65 => ?_)
        · rw [if_neg c_65] at hF
          refine lv_aload_n hx hb dX13_readTerm_81 rfl (lv_at hl 0 rfl) ?_
          refine th_ldcw (tx := sTx 11) hx hb hC.2.2.2.1 (hC.2.2.2.2.2.2.2.2.1 11 (by decide)) dX13_readTerm_82 ?_
          obtain ⟨r_66, u_67, h_68, hF⟩ := ob_some hF
          refine mcV_i (As := [.ref (Z.1 11)]) (rest := []) hC hH (m_is l G Z Q u_63 u_67 r_66 11 _ h_68 (by decide)) kwX13_is kVX13_is ⟨Nat.le_of_ble_eq_true rfl, Nat.le_of_ble_eq_true rfl⟩ rfl hl.1 rfl (Nat.le_of_ble_eq_true rfl) dX13_readTerm_85 (fun H locs hH => ?_)
          refine lv_if_eq (tgt := 95) hx hb dX13_readTerm_88 (by decide) (fun c_69 => ?_) (fun c_69 => ?_)
          · rw [if_pos c_69] at hF
            refine lv_iconst (v := 2) hx hb dX13_readTerm_95 (by decide) ?_
            refine lv_istore_n (lv' := [(1, .int 2), (0, .ref (Q 72))]) hx hb dX13_readTerm_96 rfl hl (by decide) rfl (fun ls hl => ?_)
            refine lv_aload_n hx hb dX13_readTerm_97 rfl (lv_at hl 1 rfl) ?_
            obtain ⟨r_70, u_71, h_72, hF⟩ := ob_some hF
            cases r_70 with
            | none =>
              have hF := ot_none hF
              exact mt_pass hH (mt_run (As := []) (rest := []) hC hH (t_counts l G Z Q u_67 u_71  _ h_72) kwX13_counts kVX13_counts ⟨Nat.le_of_ble_eq_true rfl, Nat.le_of_ble_eq_true rfl⟩ rfl hl.1 rfl (Nat.le_of_ble_eq_true rfl) dX13_readTerm_98) hno hlocks hF
            | some r_73 =>
              have hF := ot_some hF
              refine mcV_v (As := []) (rest := []) hC hH (m_counts l G Z Q u_67 u_71 r_73  _ h_72) kwX13_counts kVX13_counts ⟨Nat.le_of_ble_eq_true rfl, Nat.le_of_ble_eq_true rfl⟩ rfl hl.1 rfl (Nat.le_of_ble_eq_true rfl) dX13_readTerm_98 (fun H locs hH => ?_)
              refine lv_aload_n hx hb dX13_readTerm_101 rfl (lv_at hl 1 rfl) ?_
              obtain ⟨r_74, u_75, h_76, hF⟩ := ob_some hF
              refine mcV_v (As := []) (rest := []) hC hH (m_scan l G Z Q u_71 u_75 r_74  _ h_76) kwX13_scan kVX13_scan ⟨Nat.le_of_ble_eq_true rfl, Nat.le_of_ble_eq_true rfl⟩ rfl hl.1 rfl (Nat.le_of_ble_eq_true rfl) dX13_readTerm_102 (fun H locs hH => ?_)
              refine lv_aload_n hx hb dX13_readTerm_105 rfl (lv_at hl 1 rfl) ?_
              obtain ⟨r_77, u_78, h_79, hF⟩ := ob_some hF
              cases r_77 with
              | none =>
                have hF := ot_none hF
                exact mt_pass hH (mt_run (As := []) (rest := []) hC hH (t_name l G Z Q u_75 u_78  _ h_79) kwX13_name kVX13_name ⟨Nat.le_of_ble_eq_true rfl, Nat.le_of_ble_eq_true rfl⟩ rfl hl.1 rfl (Nat.le_of_ble_eq_true rfl) dX13_readTerm_106) hno hlocks hF
              | some r_80 =>
                have hF := ot_some hF
                refine mcV_v (As := []) (rest := []) hC hH (m_name l G Z Q u_75 u_78 r_80  _ h_79) kwX13_name kVX13_name ⟨Nat.le_of_ble_eq_true rfl, Nat.le_of_ble_eq_true rfl⟩ rfl hl.1 rfl (Nat.le_of_ble_eq_true rfl) dX13_readTerm_106 (fun H locs hH => ?_)
                refine lv_aload_n hx hb dX13_readTerm_109 rfl (lv_at hl 1 rfl) ?_
                obtain ⟨r_81, u_82, h_83, hF⟩ := ob_some hF
                refine mcV_i (As := []) (rest := []) hC hH (m_findSign l G Z Q u_78 u_82 r_81  _ h_83) kwX13_findSign kVX13_findSign ⟨Nat.le_of_ble_eq_true rfl, Nat.le_of_ble_eq_true rfl⟩ rfl hl.1 rfl (Nat.le_of_ble_eq_true rfl) dX13_readTerm_110 (fun H locs hH => ?_)
                refine lv_istore_n (lv' := [(2, .int r_81), (1, .int 2), (0, .ref (Q 72))]) hx hb dX13_readTerm_113 rfl hl (by decide) rfl (fun ls hl => ?_)
                refine lv_iload_n hx hb dX13_readTerm_114 rfl (lv_at hl 0 rfl) ?_
                refine lv_iconst (v := (-1)) hx hb dX13_readTerm_115 (by decide) ?_
                refine lv_icmp_ne (tgt := 129) hx hb dX13_readTerm_116 (by decide) (fun c_84 => ?_) (fun c_84 => ?_)
                · rw [if_neg c_84] at hF
                  refine lv_aload_n hx hb dX13_readTerm_129 rfl (lv_at hl 2 rfl) ?_
                  refine lv_iload_n hx hb dX13_readTerm_130 rfl (lv_at hl 1 rfl) ?_
                  refine lv_iload_n hx hb dX13_readTerm_131 rfl (lv_at hl 0 rfl) ?_
                  obtain ⟨r_85, u_86, h_87, hF⟩ := ob_some hF
                  refine mcV_v (As := [.int 2, .int r_81]) (rest := []) hC hH (m_put l G Z Q u_82 u_86 r_85 2 r_81 _ h_87) kwX13_put kVX13_put ⟨Nat.le_of_ble_eq_true rfl, Nat.le_of_ble_eq_true rfl⟩ rfl hl.1 rfl (Nat.le_of_ble_eq_true rfl) dX13_readTerm_132 (fun H locs hH => ?_)
                  refine lv_aload_n hx hb dX13_readTerm_135 rfl (lv_at hl 2 rfl) ?_
                  obtain ⟨r_88, u_89, h_90, hF⟩ := ob_some hF
                  refine mcV_v (As := []) (rest := []) hC hH (m_scan l G Z Q u_86 u_89 r_88  _ h_90) kwX13_scan kVX13_scan ⟨Nat.le_of_ble_eq_true rfl, Nat.le_of_ble_eq_true rfl⟩ rfl hl.1 rfl (Nat.le_of_ble_eq_true rfl) dX13_readTerm_136 (fun H locs hH => ?_)
                  cases hF
                · rw [if_pos c_84] at hF
                  refine lv_aload_n hx hb dX13_readTerm_119 rfl (lv_at hl 2 rfl) ?_
                  refine lv_iconst (v := 2) hx hb dX13_readTerm_120 (by decide) ?_
                  refine lv_aload_n hx hb dX13_readTerm_121 rfl (lv_at hl 2 rfl) ?_
                  refine mg_44 hC hH dX13_readTerm_122 ?_
                  obtain ⟨r_91, u_92, h_93, hF⟩ := ob_some hF
                  refine mcV_r (As := [.int 2, .int (u_82.1 44)]) (rest := []) hC hH (m_wrong l G Z Q u_82 u_92 r_91 2 (u_82.1 44) _ h_93) kwX13_wrong kVX13_wrong ⟨Nat.le_of_ble_eq_true rfl, Nat.le_of_ble_eq_true rfl⟩ rfl hl.1 rfl (Nat.le_of_ble_eq_true rfl) dX13_readTerm_125 (fun H locs hH => ?_)
                  exact mt_throw hC hH hno hF dX13_readTerm_128 hlocks
          · rw [if_neg c_69] at hF
            refine lv_iconst (v := 1) hx hb dX13_readTerm_91 (by decide) ?_
            refine lv_goto (tgt := 96) hx hb dX13_readTerm_92 (by decide) ?_
            refine lv_istore_n (lv' := [(1, .int 1), (0, .ref (Q 72))]) hx hb dX13_readTerm_96 rfl hl (by decide) rfl (fun ls hl => ?_)
            refine lv_aload_n hx hb dX13_readTerm_97 rfl (lv_at hl 1 rfl) ?_
            obtain ⟨r_94, u_95, h_96, hF⟩ := ob_some hF
            cases r_94 with
            | none =>
              have hF := ot_none hF
              exact mt_pass hH (mt_run (As := []) (rest := []) hC hH (t_counts l G Z Q u_67 u_95  _ h_96) kwX13_counts kVX13_counts ⟨Nat.le_of_ble_eq_true rfl, Nat.le_of_ble_eq_true rfl⟩ rfl hl.1 rfl (Nat.le_of_ble_eq_true rfl) dX13_readTerm_98) hno hlocks hF
            | some r_97 =>
              have hF := ot_some hF
              refine mcV_v (As := []) (rest := []) hC hH (m_counts l G Z Q u_67 u_95 r_97  _ h_96) kwX13_counts kVX13_counts ⟨Nat.le_of_ble_eq_true rfl, Nat.le_of_ble_eq_true rfl⟩ rfl hl.1 rfl (Nat.le_of_ble_eq_true rfl) dX13_readTerm_98 (fun H locs hH => ?_)
              refine lv_aload_n hx hb dX13_readTerm_101 rfl (lv_at hl 1 rfl) ?_
              obtain ⟨r_98, u_99, h_100, hF⟩ := ob_some hF
              refine mcV_v (As := []) (rest := []) hC hH (m_scan l G Z Q u_95 u_99 r_98  _ h_100) kwX13_scan kVX13_scan ⟨Nat.le_of_ble_eq_true rfl, Nat.le_of_ble_eq_true rfl⟩ rfl hl.1 rfl (Nat.le_of_ble_eq_true rfl) dX13_readTerm_102 (fun H locs hH => ?_)
              refine lv_aload_n hx hb dX13_readTerm_105 rfl (lv_at hl 1 rfl) ?_
              obtain ⟨r_101, u_102, h_103, hF⟩ := ob_some hF
              cases r_101 with
              | none =>
                have hF := ot_none hF
                exact mt_pass hH (mt_run (As := []) (rest := []) hC hH (t_name l G Z Q u_99 u_102  _ h_103) kwX13_name kVX13_name ⟨Nat.le_of_ble_eq_true rfl, Nat.le_of_ble_eq_true rfl⟩ rfl hl.1 rfl (Nat.le_of_ble_eq_true rfl) dX13_readTerm_106) hno hlocks hF
              | some r_104 =>
                have hF := ot_some hF
                refine mcV_v (As := []) (rest := []) hC hH (m_name l G Z Q u_99 u_102 r_104  _ h_103) kwX13_name kVX13_name ⟨Nat.le_of_ble_eq_true rfl, Nat.le_of_ble_eq_true rfl⟩ rfl hl.1 rfl (Nat.le_of_ble_eq_true rfl) dX13_readTerm_106 (fun H locs hH => ?_)
                refine lv_aload_n hx hb dX13_readTerm_109 rfl (lv_at hl 1 rfl) ?_
                obtain ⟨r_105, u_106, h_107, hF⟩ := ob_some hF
                refine mcV_i (As := []) (rest := []) hC hH (m_findSign l G Z Q u_102 u_106 r_105  _ h_107) kwX13_findSign kVX13_findSign ⟨Nat.le_of_ble_eq_true rfl, Nat.le_of_ble_eq_true rfl⟩ rfl hl.1 rfl (Nat.le_of_ble_eq_true rfl) dX13_readTerm_110 (fun H locs hH => ?_)
                refine lv_istore_n (lv' := [(2, .int r_105), (1, .int 1), (0, .ref (Q 72))]) hx hb dX13_readTerm_113 rfl hl (by decide) rfl (fun ls hl => ?_)
                refine lv_iload_n hx hb dX13_readTerm_114 rfl (lv_at hl 0 rfl) ?_
                refine lv_iconst (v := (-1)) hx hb dX13_readTerm_115 (by decide) ?_
                refine lv_icmp_ne (tgt := 129) hx hb dX13_readTerm_116 (by decide) (fun c_108 => ?_) (fun c_108 => ?_)
                · rw [if_neg c_108] at hF
                  refine lv_aload_n hx hb dX13_readTerm_129 rfl (lv_at hl 2 rfl) ?_
                  refine lv_iload_n hx hb dX13_readTerm_130 rfl (lv_at hl 1 rfl) ?_
                  refine lv_iload_n hx hb dX13_readTerm_131 rfl (lv_at hl 0 rfl) ?_
                  obtain ⟨r_109, u_110, h_111, hF⟩ := ob_some hF
                  refine mcV_v (As := [.int 1, .int r_105]) (rest := []) hC hH (m_put l G Z Q u_106 u_110 r_109 1 r_105 _ h_111) kwX13_put kVX13_put ⟨Nat.le_of_ble_eq_true rfl, Nat.le_of_ble_eq_true rfl⟩ rfl hl.1 rfl (Nat.le_of_ble_eq_true rfl) dX13_readTerm_132 (fun H locs hH => ?_)
                  refine lv_aload_n hx hb dX13_readTerm_135 rfl (lv_at hl 2 rfl) ?_
                  obtain ⟨r_112, u_113, h_114, hF⟩ := ob_some hF
                  refine mcV_v (As := []) (rest := []) hC hH (m_scan l G Z Q u_110 u_113 r_112  _ h_114) kwX13_scan kVX13_scan ⟨Nat.le_of_ble_eq_true rfl, Nat.le_of_ble_eq_true rfl⟩ rfl hl.1 rfl (Nat.le_of_ble_eq_true rfl) dX13_readTerm_136 (fun H locs hH => ?_)
                  cases hF
                · rw [if_pos c_108] at hF
                  refine lv_aload_n hx hb dX13_readTerm_119 rfl (lv_at hl 2 rfl) ?_
                  refine lv_iconst (v := 2) hx hb dX13_readTerm_120 (by decide) ?_
                  refine lv_aload_n hx hb dX13_readTerm_121 rfl (lv_at hl 2 rfl) ?_
                  refine mg_44 hC hH dX13_readTerm_122 ?_
                  obtain ⟨r_115, u_116, h_117, hF⟩ := ob_some hF
                  refine mcV_r (As := [.int 2, .int (u_106.1 44)]) (rest := []) hC hH (m_wrong l G Z Q u_106 u_116 r_115 2 (u_106.1 44) _ h_117) kwX13_wrong kVX13_wrong ⟨Nat.le_of_ble_eq_true rfl, Nat.le_of_ble_eq_true rfl⟩ rfl hl.1 rfl (Nat.le_of_ble_eq_true rfl) dX13_readTerm_125 (fun H locs hH => ?_)
                  exact mt_throw hC hH hno hF dX13_readTerm_128 hlocks
        · rw [if_pos c_65] at hF
          refine lv_aload_n hx hb dX13_readTerm_71 rfl (lv_at hl 0 rfl) ?_
          refine lv_iconst (v := 1) hx hb dX13_readTerm_72 (by decide) ?_
          refine lv_aload_n hx hb dX13_readTerm_73 rfl (lv_at hl 0 rfl) ?_
          refine mg_44 hC hH dX13_readTerm_74 ?_
          obtain ⟨r_118, u_119, h_120, hF⟩ := ob_some hF
          refine mcV_r (As := [.int 1, .int (u_63.1 44)]) (rest := []) hC hH (m_wrong l G Z Q u_63 u_119 r_118 1 (u_63.1 44) _ h_120) kwX13_wrong kVX13_wrong ⟨Nat.le_of_ble_eq_true rfl, Nat.le_of_ble_eq_true rfl⟩ rfl hl.1 rfl (Nat.le_of_ble_eq_true rfl) dX13_readTerm_77 (fun H locs hH => ?_)
          exact mt_throw hC hH hno hF dX13_readTerm_80 hlocks
    · rw [if_neg c_5] at hF
      refine lv_aload_n hx hb dX13_readTerm_36 rfl (lv_at hl 0 rfl) ?_
      obtain ⟨r_121, u_122, h_123, hF⟩ := ob_some hF
      cases r_121 with
      | none =>
        have hF := ot_none hF
        exact mt_pass hH (mt_run (As := []) (rest := []) hC hH (t_counts l G Z Q u_3 u_122  _ h_123) kwX13_counts kVX13_counts ⟨Nat.le_of_ble_eq_true rfl, Nat.le_of_ble_eq_true rfl⟩ rfl hl.1 rfl (Nat.le_of_ble_eq_true rfl) dX13_readTerm_37) hno hlocks hF
      | some r_124 =>
        have hF := ot_some hF
        refine mcV_v (As := []) (rest := []) hC hH (m_counts l G Z Q u_3 u_122 r_124  _ h_123) kwX13_counts kVX13_counts ⟨Nat.le_of_ble_eq_true rfl, Nat.le_of_ble_eq_true rfl⟩ rfl hl.1 rfl (Nat.le_of_ble_eq_true rfl) dX13_readTerm_37 (fun H locs hH => ?_)
        refine lv_aload_n hx hb dX13_readTerm_40 rfl (lv_at hl 0 rfl) ?_
        refine lv_iconst (v := 3) hx hb dX13_readTerm_41 (by decide) ?_
        refine lv_iconst (v := 0) hx hb dX13_readTerm_42 (by decide) ?_
        obtain ⟨r_125, u_126, h_127, hF⟩ := ob_some hF
        refine mcV_v (As := [.int 3, .int 0]) (rest := []) hC hH (m_put l G Z Q u_122 u_126 r_125 3 0 _ h_127) kwX13_put kVX13_put ⟨Nat.le_of_ble_eq_true rfl, Nat.le_of_ble_eq_true rfl⟩ rfl hl.1 rfl (Nat.le_of_ble_eq_true rfl) dX13_readTerm_43 (fun H locs hH => ?_)
        refine lv_aload_n hx hb dX13_readTerm_46 rfl (lv_at hl 0 rfl) ?_
        obtain ⟨r_128, u_129, h_130, hF⟩ := ob_some hF
        refine mcV_v (As := []) (rest := []) hC hH (m_scan l G Z Q u_126 u_129 r_128  _ h_130) kwX13_scan kVX13_scan ⟨Nat.le_of_ble_eq_true rfl, Nat.le_of_ble_eq_true rfl⟩ rfl hl.1 rfl (Nat.le_of_ble_eq_true rfl) dX13_readTerm_47 (fun H locs hH => ?_)
        cases hF
  · rw [if_pos c_1] at hF
    refine lv_aload_n hx hb dX13_readTerm_8 rfl (lv_at hl 0 rfl) ?_
    obtain ⟨r_131, u_132, h_133, hF⟩ := ob_some hF
    cases r_131 with
    | none =>
      have hF := ot_none hF
      exact mt_pass hH (mt_run (As := []) (rest := []) hC hH (t_counts l G Z Q u u_132  _ h_133) kwX13_counts kVX13_counts ⟨Nat.le_of_ble_eq_true rfl, Nat.le_of_ble_eq_true rfl⟩ rfl hl.1 rfl (Nat.le_of_ble_eq_true rfl) dX13_readTerm_9) hno hlocks hF
    | some r_134 =>
      have hF := ot_some hF
      refine mcV_v (As := []) (rest := []) hC hH (m_counts l G Z Q u u_132 r_134  _ h_133) kwX13_counts kVX13_counts ⟨Nat.le_of_ble_eq_true rfl, Nat.le_of_ble_eq_true rfl⟩ rfl hl.1 rfl (Nat.le_of_ble_eq_true rfl) dX13_readTerm_9 (fun H locs hH => ?_)
      refine lv_aload_n hx hb dX13_readTerm_12 rfl (lv_at hl 0 rfl) ?_
      refine lv_iconst (v := 0) hx hb dX13_readTerm_13 (by decide) ?_
      refine lv_aload_n hx hb dX13_readTerm_14 rfl (lv_at hl 0 rfl) ?_
      refine mg_47 hC hH dX13_readTerm_15 ?_
      obtain ⟨r_135, u_136, h_137, hF⟩ := ob_some hF
      refine mcV_v (As := [.int 0, .int (u_132.1 47)]) (rest := []) hC hH (m_put l G Z Q u_132 u_136 r_135 0 (u_132.1 47) _ h_137) kwX13_put kVX13_put ⟨Nat.le_of_ble_eq_true rfl, Nat.le_of_ble_eq_true rfl⟩ rfl hl.1 rfl (Nat.le_of_ble_eq_true rfl) dX13_readTerm_18 (fun H locs hH => ?_)
      refine lv_aload_n hx hb dX13_readTerm_21 rfl (lv_at hl 0 rfl) ?_
      obtain ⟨r_138, u_139, h_140, hF⟩ := ob_some hF
      refine mcV_v (As := []) (rest := []) hC hH (m_scan l G Z Q u_136 u_139 r_138  _ h_140) kwX13_scan kVX13_scan ⟨Nat.le_of_ble_eq_true rfl, Nat.le_of_ble_eq_true rfl⟩ rfl hl.1 rfl (Nat.le_of_ble_eq_true rfl) dX13_readTerm_22 (fun H locs hH => ?_)
      cases hF
def lp_readSum_4 : Nat → MS → (MS → Option (Option Int32 × MS)) → Option (Option Int32 × MS)
  | 0, _, _ => none
  | n4 + 1, u, K4_62 => ob (f_is 23 u) (fun r_5 u_6 => (if r_5 = 0 then ob (f_is 24 u_6) (fun r_41 u_42 => (if r_41 = 0 then K4_62  u_42 else ob (f_is 23 u_42) (fun r_45 u_46 => (if r_45 = 0 then ob (f_hold u_46) (fun r_49 u_50 => ot r_49 (some (none, u_50)) (fun r_52 => ob (f_scan u_50) (fun r_53 u_54 => ob (f_readTerm u_54) (fun r_56 u_57 => ot r_56 (some (none, u_57)) (fun r_59 => ob (f_release 8 u_57) (fun r_60 u_61 => lp_readSum_4 n4  u_61 K4_62)))))) else ob (f_hold u_46) (fun r_63 u_64 => ot r_63 (some (none, u_64)) (fun r_66 => ob (f_scan u_64) (fun r_67 u_68 => ob (f_readTerm u_68) (fun r_70 u_71 => ot r_70 (some (none, u_71)) (fun r_73 => ob (f_release 7 u_71) (fun r_74 u_75 => lp_readSum_4 n4  u_75 K4_62)))))))))) else ob (f_is 23 u_6) (fun r_9 u_10 => (if r_9 = 0 then ob (f_hold u_10) (fun r_13 u_14 => ot r_13 (some (none, u_14)) (fun r_16 => ob (f_scan u_14) (fun r_17 u_18 => ob (f_readTerm u_18) (fun r_20 u_21 => ot r_20 (some (none, u_21)) (fun r_23 => ob (f_release 8 u_21) (fun r_24 u_25 => lp_readSum_4 n4  u_25 K4_62)))))) else ob (f_hold u_10) (fun r_27 u_28 => ot r_27 (some (none, u_28)) (fun r_30 => ob (f_scan u_28) (fun r_31 u_32 => ob (f_readTerm u_32) (fun r_34 u_35 => ot r_34 (some (none, u_35)) (fun r_37 => ob (f_release 7 u_35) (fun r_38 u_39 => lp_readSum_4 n4  u_39 K4_62))))))))))
def f_readSum  (u : MS) : Option (Option Int32 × MS) := ob (f_readTerm u) (fun r_1 u_2 => ot r_1 (some (none, u_2)) (fun r_4 => lp_readSum_4 fuel  u_2 (fun  u => some (some 0, u))))
set_option maxHeartbeats 4000000 in
set_option maxRecDepth 100000 in
theorem m_readSum (l : Launch) (G : gG) (Z : gM) (Q : Nat → Nat) (u u1 : MS) (r : Int32)  (sz : Nat) (hF : f_readSum u = some (some r, u1)) : Met l yX13_readSum (Cond.code yX13_readSum cX13_readSum 2 none :: wM) { frames := 9, cells := 0, slots := 0, locals := 191 } (va_Pc [.ref (Q 72)] (mPM G Z Q u sz)) (mQv G Q u1 sz) 0 0 (mA Q sz) := by
  refine Met.ofW (cc := cX13_readSum) (maxL := 2) (ret := none) (by decide) rfl ?_
  intro p e s m args below meth c s₁ B hml hv
  obtain ⟨rfl, rfl, hP, hB, hD, hE⟩ := hv
  have hr := B.returns
  have hlocks := B.notSynchronized
  have hts := atoms_spec (ws := Cond.code yX13_readSum cX13_readSum 2 none :: wM) B.pre
  have hC : mX p c cX13_readSum 2 s m _ G Z Q := ⟨B.exec, B.bytes, hml, findClass_of_methodNamed B.named, fun w h => hts w (List.mem_cons_of_mem _ h), hB, hE⟩
  have hx := hC.1
  have hb := hC.2.1
  have hH : mH G Q u s s.heap [] := ⟨hP, hD, va_S.rf⟩
  have hl := lv_entry ([.ref (Q 72)]) (n := 2) (Nat.le_of_ble_eq_true rfl)
  rw [lg_entry_eq]
  generalize (lg_sl ([.ref (Q 72)]) ++ List.replicate (2 - (lg_sl ([.ref (Q 72)])).length) Slot.unset).toArray = ls at hl ⊢
  have hl : lv_has ls 2 [(0, .ref (Q 72))] := hl
  unfold f_readSum at hF
  refine lv_aload_n hx hb dX13_readSum_0 rfl (lv_at hl 0 rfl) ?_
  obtain ⟨r_1, u_2, h_3, hF⟩ := ob_some hF
  cases r_1 with
  | none =>
    have hF := ot_none hF
    cases hF
  | some r_4 =>
    have hF := ot_some hF
    refine mcV_v (As := []) (rest := []) hC hH (m_readTerm l G Z Q u u_2 r_4  _ h_3) kwX13_readTerm kVX13_readTerm ⟨Nat.le_of_ble_eq_true rfl, Nat.le_of_ble_eq_true rfl⟩ rfl hl.1 rfl (Nat.le_of_ble_eq_true rfl) dX13_readSum_1 (fun H locs hH => ?_)
    have hL4 : ∀ (K4_62 : MS → Option (Option Int32 × MS)), (∀ (u : MS) (H : Heap) (locs : List Loc) (ls : Array Slot), lv_has ls 2 [(0, .ref (Q 72))] → mH G Q u s H locs → K4_62  u = some ((some r, u1)) → W p l e (headSpec (Cond.code yX13_readSum cX13_readSum 2 none :: wM) { frames := 9, cells := 0, slots := 0, locals := 191 }).room s m [.ref (Q 72)].toArray below meth c H locs 0 0 (MQ below (mQv G Q u1 s.heap.size) [.ref (Q 72)].toArray s 0 0 (mA Q s.heap.size)) (F0 m 62 ls [])) → ∀ (n4 : Nat) (u : MS) (H : Heap) (locs : List Loc) (ls : Array Slot), lv_has ls 2 [(0, .ref (Q 72))] → mH G Q u s H locs → lp_readSum_4 n4  u K4_62 = some ((some r, u1)) → W p l e (headSpec (Cond.code yX13_readSum cX13_readSum 2 none :: wM) { frames := 9, cells := 0, slots := 0, locals := 191 }).room s m [.ref (Q 72)].toArray below meth c H locs 0 0 (MQ below (mQv G Q u1 s.heap.size) [.ref (Q 72)].toArray s 0 0 (mA Q s.heap.size)) (F0 m 4 ls []) := by
      intro K4_62 hK4_62 n4
      induction n4 with
      | zero => intro  u H locs ls hl hH hF; cases hF
      | succ n4 ih4 =>
        intro  u H locs ls hl hH hF
        unfold lp_readSum_4 at hF
        refine lv_aload_n hx hb dX13_readSum_4 rfl (lv_at hl 0 rfl) ?_
        refine th_ldcw (tx := sTx 23) hx hb hC.2.2.2.1 (hC.2.2.2.2.2.2.2.2.1 23 (by decide)) dX13_readSum_5 ?_
        obtain ⟨r_5, u_6, h_7, hF⟩ := ob_some hF
        refine mcV_i (As := [.ref (Z.1 23)]) (rest := []) hC hH (m_is l G Z Q u u_6 r_5 23 _ h_7 (by decide)) kwX13_is kVX13_is ⟨Nat.le_of_ble_eq_true rfl, Nat.le_of_ble_eq_true rfl⟩ rfl hl.1 rfl (Nat.le_of_ble_eq_true rfl) dX13_readSum_8 (fun H locs hH => ?_)
        refine lv_if_ne (tgt := 24) hx hb dX13_readSum_11 (by decide) (fun c_8 => ?_) (fun c_8 => ?_)
        · rw [if_neg c_8] at hF
          refine lv_aload_n hx hb dX13_readSum_24 rfl (lv_at hl 0 rfl) ?_
          refine th_ldcw (tx := sTx 23) hx hb hC.2.2.2.1 (hC.2.2.2.2.2.2.2.2.1 23 (by decide)) dX13_readSum_25 ?_
          obtain ⟨r_9, u_10, h_11, hF⟩ := ob_some hF
          refine mcV_i (As := [.ref (Z.1 23)]) (rest := []) hC hH (m_is l G Z Q u_6 u_10 r_9 23 _ h_11 (by decide)) kwX13_is kVX13_is ⟨Nat.le_of_ble_eq_true rfl, Nat.le_of_ble_eq_true rfl⟩ rfl hl.1 rfl (Nat.le_of_ble_eq_true rfl) dX13_readSum_28 (fun H locs hH => ?_)
          refine lv_if_eq (tgt := 39) hx hb dX13_readSum_31 (by decide) (fun c_12 => ?_) (fun c_12 => ?_)
          · rw [if_pos c_12] at hF
            refine lv_bipush (v := 8) hx hb dX13_readSum_39 (by decide) ?_
            refine lv_istore_n (lv' := [(1, .int 8), (0, .ref (Q 72))]) hx hb dX13_readSum_41 rfl hl (by decide) rfl (fun ls hl => ?_)
            refine lv_aload_n hx hb dX13_readSum_42 rfl (lv_at hl 1 rfl) ?_
            obtain ⟨r_13, u_14, h_15, hF⟩ := ob_some hF
            cases r_13 with
            | none =>
              have hF := ot_none hF
              cases hF
            | some r_16 =>
              have hF := ot_some hF
              refine mcV_v (As := []) (rest := []) hC hH (m_hold l G Z Q u_10 u_14 r_16  _ h_15) kwX13_hold kVX13_hold ⟨Nat.le_of_ble_eq_true rfl, Nat.le_of_ble_eq_true rfl⟩ rfl hl.1 rfl (Nat.le_of_ble_eq_true rfl) dX13_readSum_43 (fun H locs hH => ?_)
              refine lv_aload_n hx hb dX13_readSum_46 rfl (lv_at hl 1 rfl) ?_
              obtain ⟨r_17, u_18, h_19, hF⟩ := ob_some hF
              refine mcV_v (As := []) (rest := []) hC hH (m_scan l G Z Q u_14 u_18 r_17  _ h_19) kwX13_scan kVX13_scan ⟨Nat.le_of_ble_eq_true rfl, Nat.le_of_ble_eq_true rfl⟩ rfl hl.1 rfl (Nat.le_of_ble_eq_true rfl) dX13_readSum_47 (fun H locs hH => ?_)
              refine lv_aload_n hx hb dX13_readSum_50 rfl (lv_at hl 1 rfl) ?_
              obtain ⟨r_20, u_21, h_22, hF⟩ := ob_some hF
              cases r_20 with
              | none =>
                have hF := ot_none hF
                cases hF
              | some r_23 =>
                have hF := ot_some hF
                refine mcV_v (As := []) (rest := []) hC hH (m_readTerm l G Z Q u_18 u_21 r_23  _ h_22) kwX13_readTerm kVX13_readTerm ⟨Nat.le_of_ble_eq_true rfl, Nat.le_of_ble_eq_true rfl⟩ rfl hl.1 rfl (Nat.le_of_ble_eq_true rfl) dX13_readSum_51 (fun H locs hH => ?_)
                refine lv_aload_n hx hb dX13_readSum_54 rfl (lv_at hl 1 rfl) ?_
                refine lv_iload_n hx hb dX13_readSum_55 rfl (lv_at hl 0 rfl) ?_
                obtain ⟨r_24, u_25, h_26, hF⟩ := ob_some hF
                refine mcV_v (As := [.int 8]) (rest := []) hC hH (m_release l G Z Q u_21 u_25 r_24 8 _ h_26) kwX13_release kVX13_release ⟨Nat.le_of_ble_eq_true rfl, Nat.le_of_ble_eq_true rfl⟩ rfl hl.1 rfl (Nat.le_of_ble_eq_true rfl) dX13_readSum_56 (fun H locs hH => ?_)
                refine lv_goto (tgt := 4) hx hb dX13_readSum_59 (by decide) ?_
                exact ih4  u_25 _ _ _ (lv_sub hl [1] rfl) hH hF
          · rw [if_neg c_12] at hF
            refine lv_bipush (v := 7) hx hb dX13_readSum_34 (by decide) ?_
            refine lv_goto (tgt := 41) hx hb dX13_readSum_36 (by decide) ?_
            refine lv_istore_n (lv' := [(1, .int 7), (0, .ref (Q 72))]) hx hb dX13_readSum_41 rfl hl (by decide) rfl (fun ls hl => ?_)
            refine lv_aload_n hx hb dX13_readSum_42 rfl (lv_at hl 1 rfl) ?_
            obtain ⟨r_27, u_28, h_29, hF⟩ := ob_some hF
            cases r_27 with
            | none =>
              have hF := ot_none hF
              cases hF
            | some r_30 =>
              have hF := ot_some hF
              refine mcV_v (As := []) (rest := []) hC hH (m_hold l G Z Q u_10 u_28 r_30  _ h_29) kwX13_hold kVX13_hold ⟨Nat.le_of_ble_eq_true rfl, Nat.le_of_ble_eq_true rfl⟩ rfl hl.1 rfl (Nat.le_of_ble_eq_true rfl) dX13_readSum_43 (fun H locs hH => ?_)
              refine lv_aload_n hx hb dX13_readSum_46 rfl (lv_at hl 1 rfl) ?_
              obtain ⟨r_31, u_32, h_33, hF⟩ := ob_some hF
              refine mcV_v (As := []) (rest := []) hC hH (m_scan l G Z Q u_28 u_32 r_31  _ h_33) kwX13_scan kVX13_scan ⟨Nat.le_of_ble_eq_true rfl, Nat.le_of_ble_eq_true rfl⟩ rfl hl.1 rfl (Nat.le_of_ble_eq_true rfl) dX13_readSum_47 (fun H locs hH => ?_)
              refine lv_aload_n hx hb dX13_readSum_50 rfl (lv_at hl 1 rfl) ?_
              obtain ⟨r_34, u_35, h_36, hF⟩ := ob_some hF
              cases r_34 with
              | none =>
                have hF := ot_none hF
                cases hF
              | some r_37 =>
                have hF := ot_some hF
                refine mcV_v (As := []) (rest := []) hC hH (m_readTerm l G Z Q u_32 u_35 r_37  _ h_36) kwX13_readTerm kVX13_readTerm ⟨Nat.le_of_ble_eq_true rfl, Nat.le_of_ble_eq_true rfl⟩ rfl hl.1 rfl (Nat.le_of_ble_eq_true rfl) dX13_readSum_51 (fun H locs hH => ?_)
                refine lv_aload_n hx hb dX13_readSum_54 rfl (lv_at hl 1 rfl) ?_
                refine lv_iload_n hx hb dX13_readSum_55 rfl (lv_at hl 0 rfl) ?_
                obtain ⟨r_38, u_39, h_40, hF⟩ := ob_some hF
                refine mcV_v (As := [.int 7]) (rest := []) hC hH (m_release l G Z Q u_35 u_39 r_38 7 _ h_40) kwX13_release kVX13_release ⟨Nat.le_of_ble_eq_true rfl, Nat.le_of_ble_eq_true rfl⟩ rfl hl.1 rfl (Nat.le_of_ble_eq_true rfl) dX13_readSum_56 (fun H locs hH => ?_)
                refine lv_goto (tgt := 4) hx hb dX13_readSum_59 (by decide) ?_
                exact ih4  u_39 _ _ _ (lv_sub hl [1] rfl) hH hF
        · rw [if_pos c_8] at hF
          refine lv_aload_n hx hb dX13_readSum_14 rfl (lv_at hl 0 rfl) ?_
          refine th_ldcw (tx := sTx 24) hx hb hC.2.2.2.1 (hC.2.2.2.2.2.2.2.2.1 24 (by decide)) dX13_readSum_15 ?_
          obtain ⟨r_41, u_42, h_43, hF⟩ := ob_some hF
          refine mcV_i (As := [.ref (Z.1 24)]) (rest := []) hC hH (m_is l G Z Q u_6 u_42 r_41 24 _ h_43 (by decide)) kwX13_is kVX13_is ⟨Nat.le_of_ble_eq_true rfl, Nat.le_of_ble_eq_true rfl⟩ rfl hl.1 rfl (Nat.le_of_ble_eq_true rfl) dX13_readSum_18 (fun H locs hH => ?_)
          refine lv_if_eq (tgt := 62) hx hb dX13_readSum_21 (by decide) (fun c_44 => ?_) (fun c_44 => ?_)
          · rw [if_pos c_44] at hF
            exact hK4_62  u_42 _ _ _ (lv_sub hl [0] rfl) hH hF
          · rw [if_neg c_44] at hF
            refine lv_aload_n hx hb dX13_readSum_24 rfl (lv_at hl 0 rfl) ?_
            refine th_ldcw (tx := sTx 23) hx hb hC.2.2.2.1 (hC.2.2.2.2.2.2.2.2.1 23 (by decide)) dX13_readSum_25 ?_
            obtain ⟨r_45, u_46, h_47, hF⟩ := ob_some hF
            refine mcV_i (As := [.ref (Z.1 23)]) (rest := []) hC hH (m_is l G Z Q u_42 u_46 r_45 23 _ h_47 (by decide)) kwX13_is kVX13_is ⟨Nat.le_of_ble_eq_true rfl, Nat.le_of_ble_eq_true rfl⟩ rfl hl.1 rfl (Nat.le_of_ble_eq_true rfl) dX13_readSum_28 (fun H locs hH => ?_)
            refine lv_if_eq (tgt := 39) hx hb dX13_readSum_31 (by decide) (fun c_48 => ?_) (fun c_48 => ?_)
            · rw [if_pos c_48] at hF
              refine lv_bipush (v := 8) hx hb dX13_readSum_39 (by decide) ?_
              refine lv_istore_n (lv' := [(1, .int 8), (0, .ref (Q 72))]) hx hb dX13_readSum_41 rfl hl (by decide) rfl (fun ls hl => ?_)
              refine lv_aload_n hx hb dX13_readSum_42 rfl (lv_at hl 1 rfl) ?_
              obtain ⟨r_49, u_50, h_51, hF⟩ := ob_some hF
              cases r_49 with
              | none =>
                have hF := ot_none hF
                cases hF
              | some r_52 =>
                have hF := ot_some hF
                refine mcV_v (As := []) (rest := []) hC hH (m_hold l G Z Q u_46 u_50 r_52  _ h_51) kwX13_hold kVX13_hold ⟨Nat.le_of_ble_eq_true rfl, Nat.le_of_ble_eq_true rfl⟩ rfl hl.1 rfl (Nat.le_of_ble_eq_true rfl) dX13_readSum_43 (fun H locs hH => ?_)
                refine lv_aload_n hx hb dX13_readSum_46 rfl (lv_at hl 1 rfl) ?_
                obtain ⟨r_53, u_54, h_55, hF⟩ := ob_some hF
                refine mcV_v (As := []) (rest := []) hC hH (m_scan l G Z Q u_50 u_54 r_53  _ h_55) kwX13_scan kVX13_scan ⟨Nat.le_of_ble_eq_true rfl, Nat.le_of_ble_eq_true rfl⟩ rfl hl.1 rfl (Nat.le_of_ble_eq_true rfl) dX13_readSum_47 (fun H locs hH => ?_)
                refine lv_aload_n hx hb dX13_readSum_50 rfl (lv_at hl 1 rfl) ?_
                obtain ⟨r_56, u_57, h_58, hF⟩ := ob_some hF
                cases r_56 with
                | none =>
                  have hF := ot_none hF
                  cases hF
                | some r_59 =>
                  have hF := ot_some hF
                  refine mcV_v (As := []) (rest := []) hC hH (m_readTerm l G Z Q u_54 u_57 r_59  _ h_58) kwX13_readTerm kVX13_readTerm ⟨Nat.le_of_ble_eq_true rfl, Nat.le_of_ble_eq_true rfl⟩ rfl hl.1 rfl (Nat.le_of_ble_eq_true rfl) dX13_readSum_51 (fun H locs hH => ?_)
                  refine lv_aload_n hx hb dX13_readSum_54 rfl (lv_at hl 1 rfl) ?_
                  refine lv_iload_n hx hb dX13_readSum_55 rfl (lv_at hl 0 rfl) ?_
                  obtain ⟨r_60, u_61, h_62, hF⟩ := ob_some hF
                  refine mcV_v (As := [.int 8]) (rest := []) hC hH (m_release l G Z Q u_57 u_61 r_60 8 _ h_62) kwX13_release kVX13_release ⟨Nat.le_of_ble_eq_true rfl, Nat.le_of_ble_eq_true rfl⟩ rfl hl.1 rfl (Nat.le_of_ble_eq_true rfl) dX13_readSum_56 (fun H locs hH => ?_)
                  refine lv_goto (tgt := 4) hx hb dX13_readSum_59 (by decide) ?_
                  exact ih4  u_61 _ _ _ (lv_sub hl [1] rfl) hH hF
            · rw [if_neg c_48] at hF
              refine lv_bipush (v := 7) hx hb dX13_readSum_34 (by decide) ?_
              refine lv_goto (tgt := 41) hx hb dX13_readSum_36 (by decide) ?_
              refine lv_istore_n (lv' := [(1, .int 7), (0, .ref (Q 72))]) hx hb dX13_readSum_41 rfl hl (by decide) rfl (fun ls hl => ?_)
              refine lv_aload_n hx hb dX13_readSum_42 rfl (lv_at hl 1 rfl) ?_
              obtain ⟨r_63, u_64, h_65, hF⟩ := ob_some hF
              cases r_63 with
              | none =>
                have hF := ot_none hF
                cases hF
              | some r_66 =>
                have hF := ot_some hF
                refine mcV_v (As := []) (rest := []) hC hH (m_hold l G Z Q u_46 u_64 r_66  _ h_65) kwX13_hold kVX13_hold ⟨Nat.le_of_ble_eq_true rfl, Nat.le_of_ble_eq_true rfl⟩ rfl hl.1 rfl (Nat.le_of_ble_eq_true rfl) dX13_readSum_43 (fun H locs hH => ?_)
                refine lv_aload_n hx hb dX13_readSum_46 rfl (lv_at hl 1 rfl) ?_
                obtain ⟨r_67, u_68, h_69, hF⟩ := ob_some hF
                refine mcV_v (As := []) (rest := []) hC hH (m_scan l G Z Q u_64 u_68 r_67  _ h_69) kwX13_scan kVX13_scan ⟨Nat.le_of_ble_eq_true rfl, Nat.le_of_ble_eq_true rfl⟩ rfl hl.1 rfl (Nat.le_of_ble_eq_true rfl) dX13_readSum_47 (fun H locs hH => ?_)
                refine lv_aload_n hx hb dX13_readSum_50 rfl (lv_at hl 1 rfl) ?_
                obtain ⟨r_70, u_71, h_72, hF⟩ := ob_some hF
                cases r_70 with
                | none =>
                  have hF := ot_none hF
                  cases hF
                | some r_73 =>
                  have hF := ot_some hF
                  refine mcV_v (As := []) (rest := []) hC hH (m_readTerm l G Z Q u_68 u_71 r_73  _ h_72) kwX13_readTerm kVX13_readTerm ⟨Nat.le_of_ble_eq_true rfl, Nat.le_of_ble_eq_true rfl⟩ rfl hl.1 rfl (Nat.le_of_ble_eq_true rfl) dX13_readSum_51 (fun H locs hH => ?_)
                  refine lv_aload_n hx hb dX13_readSum_54 rfl (lv_at hl 1 rfl) ?_
                  refine lv_iload_n hx hb dX13_readSum_55 rfl (lv_at hl 0 rfl) ?_
                  obtain ⟨r_74, u_75, h_76, hF⟩ := ob_some hF
                  refine mcV_v (As := [.int 7]) (rest := []) hC hH (m_release l G Z Q u_71 u_75 r_74 7 _ h_76) kwX13_release kVX13_release ⟨Nat.le_of_ble_eq_true rfl, Nat.le_of_ble_eq_true rfl⟩ rfl hl.1 rfl (Nat.le_of_ble_eq_true rfl) dX13_readSum_56 (fun H locs hH => ?_)
                  refine lv_goto (tgt := 4) hx hb dX13_readSum_59 (by decide) ?_
                  exact ih4  u_75 _ _ _ (lv_sub hl [1] rfl) hH hF
    refine hL4 _ (fun  u H locs ls hl hH hF => ?_) fuel  u_2 _ _ _ (lv_sub hl [0] rfl) hH hF
    have hF := mthr_eq hF
    exact mr_v hC hH hr hF dX13_readSum_62 hlocks
set_option maxHeartbeats 4000000 in
set_option maxRecDepth 100000 in
theorem t_readSum (l : Launch) (G : gG) (Z : gM) (Q : Nat → Nat) (u u1 : MS)  (sz : Nat) (hF : f_readSum u = some (none, u1)) : MetT l yX13_readSum (Cond.code yX13_readSum cX13_readSum 2 none :: wM) { frames := 9, cells := 0, slots := 0, locals := 191 } (va_Pc [.ref (Q 72)] (mPM G Z Q u sz)) (mQt G Q u1 sz) 0 0 (mA Q sz) := by
  refine MetT.ofW (cc := cX13_readSum) (maxL := 2) (ret := none) (by decide) rfl ?_
  intro p e s m args below meth c s₁ B hml hv
  obtain ⟨rfl, rfl, hP, hB, hD, hE⟩ := hv
  have hr := B.returns
  have hlocks := B.notSynchronized
  have hts := atoms_spec (ws := Cond.code yX13_readSum cX13_readSum 2 none :: wM) B.pre
  have hC : mX p c cX13_readSum 2 s m _ G Z Q := ⟨B.exec, B.bytes, hml, findClass_of_methodNamed B.named, fun w h => hts w (List.mem_cons_of_mem _ h), hB, hE⟩
  have hx := hC.1
  have hb := hC.2.1
  have hH : mH G Q u s s.heap [] := ⟨hP, hD, va_S.rf⟩
  have hno : c.exceptionTable.isEmpty = true := BodyLoose.noHandlers B (hts _ List.mem_cons_self)
  have hl := lv_entry ([.ref (Q 72)]) (n := 2) (Nat.le_of_ble_eq_true rfl)
  rw [lg_entry_eq]
  generalize (lg_sl ([.ref (Q 72)]) ++ List.replicate (2 - (lg_sl ([.ref (Q 72)])).length) Slot.unset).toArray = ls at hl ⊢
  have hl : lv_has ls 2 [(0, .ref (Q 72))] := hl
  unfold f_readSum at hF
  refine lv_aload_n hx hb dX13_readSum_0 rfl (lv_at hl 0 rfl) ?_
  obtain ⟨r_1, u_2, h_3, hF⟩ := ob_some hF
  cases r_1 with
  | none =>
    have hF := ot_none hF
    exact mt_pass hH (mt_run (As := []) (rest := []) hC hH (t_readTerm l G Z Q u u_2  _ h_3) kwX13_readTerm kVX13_readTerm ⟨Nat.le_of_ble_eq_true rfl, Nat.le_of_ble_eq_true rfl⟩ rfl hl.1 rfl (Nat.le_of_ble_eq_true rfl) dX13_readSum_1) hno hlocks hF
  | some r_4 =>
    have hF := ot_some hF
    refine mcV_v (As := []) (rest := []) hC hH (m_readTerm l G Z Q u u_2 r_4  _ h_3) kwX13_readTerm kVX13_readTerm ⟨Nat.le_of_ble_eq_true rfl, Nat.le_of_ble_eq_true rfl⟩ rfl hl.1 rfl (Nat.le_of_ble_eq_true rfl) dX13_readSum_1 (fun H locs hH => ?_)
    have hL4 : ∀ (K4_62 : MS → Option (Option Int32 × MS)), (∀ (u : MS) (H : Heap) (locs : List Loc) (ls : Array Slot), lv_has ls 2 [(0, .ref (Q 72))] → mH G Q u s H locs → K4_62  u = some ((none, u1)) → W p l e (headSpec (Cond.code yX13_readSum cX13_readSum 2 none :: wM) { frames := 9, cells := 0, slots := 0, locals := 191 }).room s m [.ref (Q 72)].toArray below meth c H locs 0 0 (MQT below (mQt G Q u1 s.heap.size) [.ref (Q 72)].toArray s 0 0 (mA Q s.heap.size)) (F0 m 62 ls [])) → ∀ (n4 : Nat) (u : MS) (H : Heap) (locs : List Loc) (ls : Array Slot), lv_has ls 2 [(0, .ref (Q 72))] → mH G Q u s H locs → lp_readSum_4 n4  u K4_62 = some ((none, u1)) → W p l e (headSpec (Cond.code yX13_readSum cX13_readSum 2 none :: wM) { frames := 9, cells := 0, slots := 0, locals := 191 }).room s m [.ref (Q 72)].toArray below meth c H locs 0 0 (MQT below (mQt G Q u1 s.heap.size) [.ref (Q 72)].toArray s 0 0 (mA Q s.heap.size)) (F0 m 4 ls []) := by
      intro K4_62 hK4_62 n4
      induction n4 with
      | zero => intro  u H locs ls hl hH hF; cases hF
      | succ n4 ih4 =>
        intro  u H locs ls hl hH hF
        unfold lp_readSum_4 at hF
        refine lv_aload_n hx hb dX13_readSum_4 rfl (lv_at hl 0 rfl) ?_
        refine th_ldcw (tx := sTx 23) hx hb hC.2.2.2.1 (hC.2.2.2.2.2.2.2.2.1 23 (by decide)) dX13_readSum_5 ?_
        obtain ⟨r_5, u_6, h_7, hF⟩ := ob_some hF
        refine mcV_i (As := [.ref (Z.1 23)]) (rest := []) hC hH (m_is l G Z Q u u_6 r_5 23 _ h_7 (by decide)) kwX13_is kVX13_is ⟨Nat.le_of_ble_eq_true rfl, Nat.le_of_ble_eq_true rfl⟩ rfl hl.1 rfl (Nat.le_of_ble_eq_true rfl) dX13_readSum_8 (fun H locs hH => ?_)
        refine lv_if_ne (tgt := 24) hx hb dX13_readSum_11 (by decide) (fun c_8 => ?_) (fun c_8 => ?_)
        · rw [if_neg c_8] at hF
          refine lv_aload_n hx hb dX13_readSum_24 rfl (lv_at hl 0 rfl) ?_
          refine th_ldcw (tx := sTx 23) hx hb hC.2.2.2.1 (hC.2.2.2.2.2.2.2.2.1 23 (by decide)) dX13_readSum_25 ?_
          obtain ⟨r_9, u_10, h_11, hF⟩ := ob_some hF
          refine mcV_i (As := [.ref (Z.1 23)]) (rest := []) hC hH (m_is l G Z Q u_6 u_10 r_9 23 _ h_11 (by decide)) kwX13_is kVX13_is ⟨Nat.le_of_ble_eq_true rfl, Nat.le_of_ble_eq_true rfl⟩ rfl hl.1 rfl (Nat.le_of_ble_eq_true rfl) dX13_readSum_28 (fun H locs hH => ?_)
          refine lv_if_eq (tgt := 39) hx hb dX13_readSum_31 (by decide) (fun c_12 => ?_) (fun c_12 => ?_)
          · rw [if_pos c_12] at hF
            refine lv_bipush (v := 8) hx hb dX13_readSum_39 (by decide) ?_
            refine lv_istore_n (lv' := [(1, .int 8), (0, .ref (Q 72))]) hx hb dX13_readSum_41 rfl hl (by decide) rfl (fun ls hl => ?_)
            refine lv_aload_n hx hb dX13_readSum_42 rfl (lv_at hl 1 rfl) ?_
            obtain ⟨r_13, u_14, h_15, hF⟩ := ob_some hF
            cases r_13 with
            | none =>
              have hF := ot_none hF
              exact mt_pass hH (mt_run (As := []) (rest := []) hC hH (t_hold l G Z Q u_10 u_14  _ h_15) kwX13_hold kVX13_hold ⟨Nat.le_of_ble_eq_true rfl, Nat.le_of_ble_eq_true rfl⟩ rfl hl.1 rfl (Nat.le_of_ble_eq_true rfl) dX13_readSum_43) hno hlocks hF
            | some r_16 =>
              have hF := ot_some hF
              refine mcV_v (As := []) (rest := []) hC hH (m_hold l G Z Q u_10 u_14 r_16  _ h_15) kwX13_hold kVX13_hold ⟨Nat.le_of_ble_eq_true rfl, Nat.le_of_ble_eq_true rfl⟩ rfl hl.1 rfl (Nat.le_of_ble_eq_true rfl) dX13_readSum_43 (fun H locs hH => ?_)
              refine lv_aload_n hx hb dX13_readSum_46 rfl (lv_at hl 1 rfl) ?_
              obtain ⟨r_17, u_18, h_19, hF⟩ := ob_some hF
              refine mcV_v (As := []) (rest := []) hC hH (m_scan l G Z Q u_14 u_18 r_17  _ h_19) kwX13_scan kVX13_scan ⟨Nat.le_of_ble_eq_true rfl, Nat.le_of_ble_eq_true rfl⟩ rfl hl.1 rfl (Nat.le_of_ble_eq_true rfl) dX13_readSum_47 (fun H locs hH => ?_)
              refine lv_aload_n hx hb dX13_readSum_50 rfl (lv_at hl 1 rfl) ?_
              obtain ⟨r_20, u_21, h_22, hF⟩ := ob_some hF
              cases r_20 with
              | none =>
                have hF := ot_none hF
                exact mt_pass hH (mt_run (As := []) (rest := []) hC hH (t_readTerm l G Z Q u_18 u_21  _ h_22) kwX13_readTerm kVX13_readTerm ⟨Nat.le_of_ble_eq_true rfl, Nat.le_of_ble_eq_true rfl⟩ rfl hl.1 rfl (Nat.le_of_ble_eq_true rfl) dX13_readSum_51) hno hlocks hF
              | some r_23 =>
                have hF := ot_some hF
                refine mcV_v (As := []) (rest := []) hC hH (m_readTerm l G Z Q u_18 u_21 r_23  _ h_22) kwX13_readTerm kVX13_readTerm ⟨Nat.le_of_ble_eq_true rfl, Nat.le_of_ble_eq_true rfl⟩ rfl hl.1 rfl (Nat.le_of_ble_eq_true rfl) dX13_readSum_51 (fun H locs hH => ?_)
                refine lv_aload_n hx hb dX13_readSum_54 rfl (lv_at hl 1 rfl) ?_
                refine lv_iload_n hx hb dX13_readSum_55 rfl (lv_at hl 0 rfl) ?_
                obtain ⟨r_24, u_25, h_26, hF⟩ := ob_some hF
                refine mcV_v (As := [.int 8]) (rest := []) hC hH (m_release l G Z Q u_21 u_25 r_24 8 _ h_26) kwX13_release kVX13_release ⟨Nat.le_of_ble_eq_true rfl, Nat.le_of_ble_eq_true rfl⟩ rfl hl.1 rfl (Nat.le_of_ble_eq_true rfl) dX13_readSum_56 (fun H locs hH => ?_)
                refine lv_goto (tgt := 4) hx hb dX13_readSum_59 (by decide) ?_
                exact ih4  u_25 _ _ _ (lv_sub hl [1] rfl) hH hF
          · rw [if_neg c_12] at hF
            refine lv_bipush (v := 7) hx hb dX13_readSum_34 (by decide) ?_
            refine lv_goto (tgt := 41) hx hb dX13_readSum_36 (by decide) ?_
            refine lv_istore_n (lv' := [(1, .int 7), (0, .ref (Q 72))]) hx hb dX13_readSum_41 rfl hl (by decide) rfl (fun ls hl => ?_)
            refine lv_aload_n hx hb dX13_readSum_42 rfl (lv_at hl 1 rfl) ?_
            obtain ⟨r_27, u_28, h_29, hF⟩ := ob_some hF
            cases r_27 with
            | none =>
              have hF := ot_none hF
              exact mt_pass hH (mt_run (As := []) (rest := []) hC hH (t_hold l G Z Q u_10 u_28  _ h_29) kwX13_hold kVX13_hold ⟨Nat.le_of_ble_eq_true rfl, Nat.le_of_ble_eq_true rfl⟩ rfl hl.1 rfl (Nat.le_of_ble_eq_true rfl) dX13_readSum_43) hno hlocks hF
            | some r_30 =>
              have hF := ot_some hF
              refine mcV_v (As := []) (rest := []) hC hH (m_hold l G Z Q u_10 u_28 r_30  _ h_29) kwX13_hold kVX13_hold ⟨Nat.le_of_ble_eq_true rfl, Nat.le_of_ble_eq_true rfl⟩ rfl hl.1 rfl (Nat.le_of_ble_eq_true rfl) dX13_readSum_43 (fun H locs hH => ?_)
              refine lv_aload_n hx hb dX13_readSum_46 rfl (lv_at hl 1 rfl) ?_
              obtain ⟨r_31, u_32, h_33, hF⟩ := ob_some hF
              refine mcV_v (As := []) (rest := []) hC hH (m_scan l G Z Q u_28 u_32 r_31  _ h_33) kwX13_scan kVX13_scan ⟨Nat.le_of_ble_eq_true rfl, Nat.le_of_ble_eq_true rfl⟩ rfl hl.1 rfl (Nat.le_of_ble_eq_true rfl) dX13_readSum_47 (fun H locs hH => ?_)
              refine lv_aload_n hx hb dX13_readSum_50 rfl (lv_at hl 1 rfl) ?_
              obtain ⟨r_34, u_35, h_36, hF⟩ := ob_some hF
              cases r_34 with
              | none =>
                have hF := ot_none hF
                exact mt_pass hH (mt_run (As := []) (rest := []) hC hH (t_readTerm l G Z Q u_32 u_35  _ h_36) kwX13_readTerm kVX13_readTerm ⟨Nat.le_of_ble_eq_true rfl, Nat.le_of_ble_eq_true rfl⟩ rfl hl.1 rfl (Nat.le_of_ble_eq_true rfl) dX13_readSum_51) hno hlocks hF
              | some r_37 =>
                have hF := ot_some hF
                refine mcV_v (As := []) (rest := []) hC hH (m_readTerm l G Z Q u_32 u_35 r_37  _ h_36) kwX13_readTerm kVX13_readTerm ⟨Nat.le_of_ble_eq_true rfl, Nat.le_of_ble_eq_true rfl⟩ rfl hl.1 rfl (Nat.le_of_ble_eq_true rfl) dX13_readSum_51 (fun H locs hH => ?_)
                refine lv_aload_n hx hb dX13_readSum_54 rfl (lv_at hl 1 rfl) ?_
                refine lv_iload_n hx hb dX13_readSum_55 rfl (lv_at hl 0 rfl) ?_
                obtain ⟨r_38, u_39, h_40, hF⟩ := ob_some hF
                refine mcV_v (As := [.int 7]) (rest := []) hC hH (m_release l G Z Q u_35 u_39 r_38 7 _ h_40) kwX13_release kVX13_release ⟨Nat.le_of_ble_eq_true rfl, Nat.le_of_ble_eq_true rfl⟩ rfl hl.1 rfl (Nat.le_of_ble_eq_true rfl) dX13_readSum_56 (fun H locs hH => ?_)
                refine lv_goto (tgt := 4) hx hb dX13_readSum_59 (by decide) ?_
                exact ih4  u_39 _ _ _ (lv_sub hl [1] rfl) hH hF
        · rw [if_pos c_8] at hF
          refine lv_aload_n hx hb dX13_readSum_14 rfl (lv_at hl 0 rfl) ?_
          refine th_ldcw (tx := sTx 24) hx hb hC.2.2.2.1 (hC.2.2.2.2.2.2.2.2.1 24 (by decide)) dX13_readSum_15 ?_
          obtain ⟨r_41, u_42, h_43, hF⟩ := ob_some hF
          refine mcV_i (As := [.ref (Z.1 24)]) (rest := []) hC hH (m_is l G Z Q u_6 u_42 r_41 24 _ h_43 (by decide)) kwX13_is kVX13_is ⟨Nat.le_of_ble_eq_true rfl, Nat.le_of_ble_eq_true rfl⟩ rfl hl.1 rfl (Nat.le_of_ble_eq_true rfl) dX13_readSum_18 (fun H locs hH => ?_)
          refine lv_if_eq (tgt := 62) hx hb dX13_readSum_21 (by decide) (fun c_44 => ?_) (fun c_44 => ?_)
          · rw [if_pos c_44] at hF
            exact hK4_62  u_42 _ _ _ (lv_sub hl [0] rfl) hH hF
          · rw [if_neg c_44] at hF
            refine lv_aload_n hx hb dX13_readSum_24 rfl (lv_at hl 0 rfl) ?_
            refine th_ldcw (tx := sTx 23) hx hb hC.2.2.2.1 (hC.2.2.2.2.2.2.2.2.1 23 (by decide)) dX13_readSum_25 ?_
            obtain ⟨r_45, u_46, h_47, hF⟩ := ob_some hF
            refine mcV_i (As := [.ref (Z.1 23)]) (rest := []) hC hH (m_is l G Z Q u_42 u_46 r_45 23 _ h_47 (by decide)) kwX13_is kVX13_is ⟨Nat.le_of_ble_eq_true rfl, Nat.le_of_ble_eq_true rfl⟩ rfl hl.1 rfl (Nat.le_of_ble_eq_true rfl) dX13_readSum_28 (fun H locs hH => ?_)
            refine lv_if_eq (tgt := 39) hx hb dX13_readSum_31 (by decide) (fun c_48 => ?_) (fun c_48 => ?_)
            · rw [if_pos c_48] at hF
              refine lv_bipush (v := 8) hx hb dX13_readSum_39 (by decide) ?_
              refine lv_istore_n (lv' := [(1, .int 8), (0, .ref (Q 72))]) hx hb dX13_readSum_41 rfl hl (by decide) rfl (fun ls hl => ?_)
              refine lv_aload_n hx hb dX13_readSum_42 rfl (lv_at hl 1 rfl) ?_
              obtain ⟨r_49, u_50, h_51, hF⟩ := ob_some hF
              cases r_49 with
              | none =>
                have hF := ot_none hF
                exact mt_pass hH (mt_run (As := []) (rest := []) hC hH (t_hold l G Z Q u_46 u_50  _ h_51) kwX13_hold kVX13_hold ⟨Nat.le_of_ble_eq_true rfl, Nat.le_of_ble_eq_true rfl⟩ rfl hl.1 rfl (Nat.le_of_ble_eq_true rfl) dX13_readSum_43) hno hlocks hF
              | some r_52 =>
                have hF := ot_some hF
                refine mcV_v (As := []) (rest := []) hC hH (m_hold l G Z Q u_46 u_50 r_52  _ h_51) kwX13_hold kVX13_hold ⟨Nat.le_of_ble_eq_true rfl, Nat.le_of_ble_eq_true rfl⟩ rfl hl.1 rfl (Nat.le_of_ble_eq_true rfl) dX13_readSum_43 (fun H locs hH => ?_)
                refine lv_aload_n hx hb dX13_readSum_46 rfl (lv_at hl 1 rfl) ?_
                obtain ⟨r_53, u_54, h_55, hF⟩ := ob_some hF
                refine mcV_v (As := []) (rest := []) hC hH (m_scan l G Z Q u_50 u_54 r_53  _ h_55) kwX13_scan kVX13_scan ⟨Nat.le_of_ble_eq_true rfl, Nat.le_of_ble_eq_true rfl⟩ rfl hl.1 rfl (Nat.le_of_ble_eq_true rfl) dX13_readSum_47 (fun H locs hH => ?_)
                refine lv_aload_n hx hb dX13_readSum_50 rfl (lv_at hl 1 rfl) ?_
                obtain ⟨r_56, u_57, h_58, hF⟩ := ob_some hF
                cases r_56 with
                | none =>
                  have hF := ot_none hF
                  exact mt_pass hH (mt_run (As := []) (rest := []) hC hH (t_readTerm l G Z Q u_54 u_57  _ h_58) kwX13_readTerm kVX13_readTerm ⟨Nat.le_of_ble_eq_true rfl, Nat.le_of_ble_eq_true rfl⟩ rfl hl.1 rfl (Nat.le_of_ble_eq_true rfl) dX13_readSum_51) hno hlocks hF
                | some r_59 =>
                  have hF := ot_some hF
                  refine mcV_v (As := []) (rest := []) hC hH (m_readTerm l G Z Q u_54 u_57 r_59  _ h_58) kwX13_readTerm kVX13_readTerm ⟨Nat.le_of_ble_eq_true rfl, Nat.le_of_ble_eq_true rfl⟩ rfl hl.1 rfl (Nat.le_of_ble_eq_true rfl) dX13_readSum_51 (fun H locs hH => ?_)
                  refine lv_aload_n hx hb dX13_readSum_54 rfl (lv_at hl 1 rfl) ?_
                  refine lv_iload_n hx hb dX13_readSum_55 rfl (lv_at hl 0 rfl) ?_
                  obtain ⟨r_60, u_61, h_62, hF⟩ := ob_some hF
                  refine mcV_v (As := [.int 8]) (rest := []) hC hH (m_release l G Z Q u_57 u_61 r_60 8 _ h_62) kwX13_release kVX13_release ⟨Nat.le_of_ble_eq_true rfl, Nat.le_of_ble_eq_true rfl⟩ rfl hl.1 rfl (Nat.le_of_ble_eq_true rfl) dX13_readSum_56 (fun H locs hH => ?_)
                  refine lv_goto (tgt := 4) hx hb dX13_readSum_59 (by decide) ?_
                  exact ih4  u_61 _ _ _ (lv_sub hl [1] rfl) hH hF
            · rw [if_neg c_48] at hF
              refine lv_bipush (v := 7) hx hb dX13_readSum_34 (by decide) ?_
              refine lv_goto (tgt := 41) hx hb dX13_readSum_36 (by decide) ?_
              refine lv_istore_n (lv' := [(1, .int 7), (0, .ref (Q 72))]) hx hb dX13_readSum_41 rfl hl (by decide) rfl (fun ls hl => ?_)
              refine lv_aload_n hx hb dX13_readSum_42 rfl (lv_at hl 1 rfl) ?_
              obtain ⟨r_63, u_64, h_65, hF⟩ := ob_some hF
              cases r_63 with
              | none =>
                have hF := ot_none hF
                exact mt_pass hH (mt_run (As := []) (rest := []) hC hH (t_hold l G Z Q u_46 u_64  _ h_65) kwX13_hold kVX13_hold ⟨Nat.le_of_ble_eq_true rfl, Nat.le_of_ble_eq_true rfl⟩ rfl hl.1 rfl (Nat.le_of_ble_eq_true rfl) dX13_readSum_43) hno hlocks hF
              | some r_66 =>
                have hF := ot_some hF
                refine mcV_v (As := []) (rest := []) hC hH (m_hold l G Z Q u_46 u_64 r_66  _ h_65) kwX13_hold kVX13_hold ⟨Nat.le_of_ble_eq_true rfl, Nat.le_of_ble_eq_true rfl⟩ rfl hl.1 rfl (Nat.le_of_ble_eq_true rfl) dX13_readSum_43 (fun H locs hH => ?_)
                refine lv_aload_n hx hb dX13_readSum_46 rfl (lv_at hl 1 rfl) ?_
                obtain ⟨r_67, u_68, h_69, hF⟩ := ob_some hF
                refine mcV_v (As := []) (rest := []) hC hH (m_scan l G Z Q u_64 u_68 r_67  _ h_69) kwX13_scan kVX13_scan ⟨Nat.le_of_ble_eq_true rfl, Nat.le_of_ble_eq_true rfl⟩ rfl hl.1 rfl (Nat.le_of_ble_eq_true rfl) dX13_readSum_47 (fun H locs hH => ?_)
                refine lv_aload_n hx hb dX13_readSum_50 rfl (lv_at hl 1 rfl) ?_
                obtain ⟨r_70, u_71, h_72, hF⟩ := ob_some hF
                cases r_70 with
                | none =>
                  have hF := ot_none hF
                  exact mt_pass hH (mt_run (As := []) (rest := []) hC hH (t_readTerm l G Z Q u_68 u_71  _ h_72) kwX13_readTerm kVX13_readTerm ⟨Nat.le_of_ble_eq_true rfl, Nat.le_of_ble_eq_true rfl⟩ rfl hl.1 rfl (Nat.le_of_ble_eq_true rfl) dX13_readSum_51) hno hlocks hF
                | some r_73 =>
                  have hF := ot_some hF
                  refine mcV_v (As := []) (rest := []) hC hH (m_readTerm l G Z Q u_68 u_71 r_73  _ h_72) kwX13_readTerm kVX13_readTerm ⟨Nat.le_of_ble_eq_true rfl, Nat.le_of_ble_eq_true rfl⟩ rfl hl.1 rfl (Nat.le_of_ble_eq_true rfl) dX13_readSum_51 (fun H locs hH => ?_)
                  refine lv_aload_n hx hb dX13_readSum_54 rfl (lv_at hl 1 rfl) ?_
                  refine lv_iload_n hx hb dX13_readSum_55 rfl (lv_at hl 0 rfl) ?_
                  obtain ⟨r_74, u_75, h_76, hF⟩ := ob_some hF
                  refine mcV_v (As := [.int 7]) (rest := []) hC hH (m_release l G Z Q u_71 u_75 r_74 7 _ h_76) kwX13_release kVX13_release ⟨Nat.le_of_ble_eq_true rfl, Nat.le_of_ble_eq_true rfl⟩ rfl hl.1 rfl (Nat.le_of_ble_eq_true rfl) dX13_readSum_56 (fun H locs hH => ?_)
                  refine lv_goto (tgt := 4) hx hb dX13_readSum_59 (by decide) ?_
                  exact ih4  u_75 _ _ _ (lv_sub hl [1] rfl) hH hF
    refine hL4 _ (fun  u H locs ls hl hH hF => ?_) fuel  u_2 _ _ _ (lv_sub hl [0] rfl) hH hF
    cases hF
