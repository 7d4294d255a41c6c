section
def f_wrong (a0 : Int32) (a1 : Int32) : PG (Int32) := pwf 49 a0 (pwf 50 a1 (prt 0))
set_option maxHeartbeats 4000000 in
set_option maxRecDepth 100000 in
theorem m_wrong (l : Launch) (G : gG) (Z : gM) (Q : Nat → Nat) (u u1 : GS) (r : Int32) (a0 : Int32) (a1 : Int32) (sz : Nat) (hF : f_wrong a0 a1 u = some (r, u1)) : Met l yX13_wrong (Cond.code yX13_wrong cX13_wrong 3 (some (.object "JudoHallModel$Stop")) :: wM) { frames := 0, cells := 0, slots := 0, locals := 0 } (va_Pc [.ref (Q 72), .int a0, .int a1] (mPM G Z Q u.1 sz)) (mQr G Q u1.1 sz) 0 0 (mA Q sz) := by
  refine Met.ofW (cc := cX13_wrong) (maxL := 3) (ret := (some (.object "JudoHallModel$Stop"))) (by decide) rfl ?_
  intro p e s m args below meth c s₁ B hml hv
  obtain ⟨rfl, rfl, hP, hB, hD, hE⟩ := hv
  have hr := B.returns
  have hlocks := B.notSynchronized
  have hts := atoms_spec (ws := Cond.code yX13_wrong cX13_wrong 3 (some (.object "JudoHallModel$Stop")) :: wM) B.pre
  have hC : mX p c cX13_wrong 3 s m _ G Z Q := ⟨B.exec, B.bytes, hml, findClass_of_methodNamed B.named, fun w h => hts w (List.mem_cons_of_mem _ h), hB, hE⟩
  have hx := hC.1
  have hb := hC.2.1
  have hH : mH G Q u.1 s s.heap [] := ⟨hP, hD, va_S.rf⟩
  have hl := lv_entry ([.ref (Q 72), .int a0, .int a1]) (n := 3) (Nat.le_of_ble_eq_true rfl)
  rw [lg_entry_eq]
  generalize (lg_sl ([.ref (Q 72), .int a0, .int a1]) ++ List.replicate (3 - (lg_sl ([.ref (Q 72), .int a0, .int a1])).length) Slot.unset).toArray = ls at hl ⊢
  have hl : lv_has ls 3 [(0, .ref (Q 72)), (1, .int a0), (2, .int a1)] := hl
  unfold f_wrong at hF
  refine lv_aload_n hx hb dX13_wrong_0 rfl (lv_at hl 0 rfl) ?_
  refine lv_iload_n hx hb dX13_wrong_1 rfl (lv_at hl 1 rfl) ?_
  obtain ⟨u_1, e_2, hF⟩ := pwf_some hF
  refine mp_49 hC hH e_2 dX13_wrong_2 (fun H locs hH => ?_)
  refine lv_aload_n hx hb dX13_wrong_5 rfl (lv_at hl 0 rfl) ?_
  refine lv_iload_n hx hb dX13_wrong_6 rfl (lv_at hl 2 rfl) ?_
  obtain ⟨u_3, e_4, hF⟩ := pwf_some hF
  refine mp_50 hC hH e_4 dX13_wrong_7 (fun H locs hH => ?_)
  refine lv_aload_n hx hb dX13_wrong_10 rfl (lv_at hl 0 rfl) ?_
  refine mg_39 hC hH dX13_wrong_11 ?_
  exact mr_r hC hH hr ⟨_, rfl⟩ (prt_eq hF) dX13_wrong_14 hlocks
def lp_scan_0 : Nat → (PG (Int32)) → PG (Int32)
  | 0, _ => fun _ => none
  | n0 + 1, K0_52 => prf 45 (fun x_1 => prf 43 (fun x_3 => (if x_3 ≤ x_1 then K0_52  else prf 45 (fun x_6 => psr x_6 (fun x_8 => (if x_8 = 32 then prf 45 (fun x_12 => pwf 45 (x_12 + 1) (lp_scan_0 n0  K0_52)) else prf 45 (fun x_16 => psr x_16 (fun x_18 => (if x_18 = 10 then prf 45 (fun x_22 => pwf 45 (x_22 + 1) (lp_scan_0 n0  K0_52)) else K0_52 )))))))))
def lp_scan_160 : Nat → Int32 → (Int32 → PG (Int32)) → PG (Int32)
  | 0, _, _ => fun _ => none
  | n160 + 1, v1, K160_223 => prf 45 (fun x_214 => pcl (f_byteAt x_214) (fun r_216 => pcl (f_isDigit r_216) (fun r_219 => (if r_219 = 0 then K160_223 v1 else prf 45 (fun x_223 => prf 44 (fun x_225 => (if 4 ≤ (x_223 - x_225) then prf 45 (fun x_228 => pwf 45 (x_228 + 1) (lp_scan_160 n160 v1 K160_223)) else prf 47 (fun x_232 => prf 45 (fun x_234 => pcl (f_byteAt x_234) (fun r_236 => pwf 47 (((10 * x_232) + r_236) - 48) (prf 45 (fun x_241 => pwf 45 (x_241 + 1) (lp_scan_160 n160 v1 K160_223)))))))))))))
def lp_scan_95 : Nat → Int32 → (Int32 → PG (Int32)) → PG (Int32)
  | 0, _, _ => fun _ => none
  | n95 + 1, v1, K95_122 => prf 45 (fun x_254 => pcl (f_byteAt x_254) (fun r_256 => pcl (f_isLetter r_256) (fun r_259 => (if r_259 = 0 then K95_122 v1 else prf 45 (fun x_263 => pwf 45 (x_263 + 1) (lp_scan_95 n95 v1 K95_122))))))
def f_scan  : PG (Int32) := lp_scan_0 fuel  (prf 45 (fun x_26 => pwf 44 x_26 (prf 44 (fun x_30 => pcl (f_byteAt x_30) (fun r_32 => prf 44 (fun x_35 => prf 43 (fun x_37 => (if x_35 = x_37 then pwf 46 0 (prt 0) else pcl (f_isLetter r_32) (fun r_40 => (if r_40 = 0 then pcl (f_isDigit r_32) (fun r_44 => (if r_44 = 0 then prf 44 (fun x_48 => pcl (f_byteAt (x_48 + 1)) (fun r_50 => (if r_50 = 61 then (if r_32 = 60 then (if (1 : Int32) = 0 then poi (fj_indexOf 0 ((r_32.toUInt32 % 65536).toInt32)) (fun r_96 => (if r_96 < 0 then pwf 46 4 (prf 45 (fun x_101 => (if (1 : Int32) = 0 then pwf 45 (x_101 + 1) (prt 0) else pwf 45 (x_101 + 2) (prt 0)))) else pwf 46 3 (prf 45 (fun x_110 => (if (1 : Int32) = 0 then pwf 45 (x_110 + 1) (prt 0) else pwf 45 (x_110 + 2) (prt 0)))))) else pwf 46 3 (prf 45 (fun x_89 => (if (1 : Int32) = 0 then pwf 45 (x_89 + 1) (prt 0) else pwf 45 (x_89 + 2) (prt 0))))) else (if r_32 = 62 then (if (1 : Int32) = 0 then poi (fj_indexOf 0 ((r_32.toUInt32 % 65536).toInt32)) (fun r_128 => (if r_128 < 0 then pwf 46 4 (prf 45 (fun x_133 => (if (1 : Int32) = 0 then pwf 45 (x_133 + 1) (prt 0) else pwf 45 (x_133 + 2) (prt 0)))) else pwf 46 3 (prf 45 (fun x_142 => (if (1 : Int32) = 0 then pwf 45 (x_142 + 1) (prt 0) else pwf 45 (x_142 + 2) (prt 0)))))) else pwf 46 3 (prf 45 (fun x_121 => (if (1 : Int32) = 0 then pwf 45 (x_121 + 1) (prt 0) else pwf 45 (x_121 + 2) (prt 0))))) else (if r_32 = 33 then (if (1 : Int32) = 0 then poi (fj_indexOf 0 ((r_32.toUInt32 % 65536).toInt32)) (fun r_191 => (if r_191 < 0 then pwf 46 4 (prf 45 (fun x_196 => (if (1 : Int32) = 0 then pwf 45 (x_196 + 1) (prt 0) else pwf 45 (x_196 + 2) (prt 0)))) else pwf 46 3 (prf 45 (fun x_205 => (if (1 : Int32) = 0 then pwf 45 (x_205 + 1) (prt 0) else pwf 45 (x_205 + 2) (prt 0)))))) else pwf 46 3 (prf 45 (fun x_184 => (if (1 : Int32) = 0 then pwf 45 (x_184 + 1) (prt 0) else pwf 45 (x_184 + 2) (prt 0))))) else (if (0 : Int32) = 0 then poi (fj_indexOf 0 ((r_32.toUInt32 % 65536).toInt32)) (fun r_160 => (if r_160 < 0 then pwf 46 4 (prf 45 (fun x_165 => (if (0 : Int32) = 0 then pwf 45 (x_165 + 1) (prt 0) else pwf 45 (x_165 + 2) (prt 0)))) else pwf 46 3 (prf 45 (fun x_174 => (if (0 : Int32) = 0 then pwf 45 (x_174 + 1) (prt 0) else pwf 45 (x_174 + 2) (prt 0)))))) else pwf 46 3 (prf 45 (fun x_153 => (if (0 : Int32) = 0 then pwf 45 (x_153 + 1) (prt 0) else pwf 45 (x_153 + 2) (prt 0)))))))) else (if (0 : Int32) = 0 then poi (fj_indexOf 0 ((r_32.toUInt32 % 65536).toInt32)) (fun r_64 => (if r_64 < 0 then pwf 46 4 (prf 45 (fun x_69 => (if (0 : Int32) = 0 then pwf 45 (x_69 + 1) (prt 0) else pwf 45 (x_69 + 2) (prt 0)))) else pwf 46 3 (prf 45 (fun x_78 => (if (0 : Int32) = 0 then pwf 45 (x_78 + 1) (prt 0) else pwf 45 (x_78 + 2) (prt 0)))))) else pwf 46 3 (prf 45 (fun x_57 => (if (0 : Int32) = 0 then pwf 45 (x_57 + 1) (prt 0) else pwf 45 (x_57 + 2) (prt 0)))))))) else pwf 47 0 (lp_scan_160 fuel r_32 (fun v1 => prf 45 (fun x_245 => prf 44 (fun x_247 => (if (x_245 - x_247) ≤ 4 then pwf 46 2 (prt 0) else pwf 46 4 (prt 0)))))))) else lp_scan_95 fuel r_32 (fun v1 => prf 45 (fun x_267 => prf 44 (fun x_269 => (if (x_267 - x_269) ≤ 10 then pwf 46 1 (prt 0) else pwf 46 4 (prt 0)))))))))))))))
set_option maxHeartbeats 4000000 in
set_option maxRecDepth 100000 in
theorem m_scan (l : Launch) (G : gG) (Z : gM) (Q : Nat → Nat) (u u1 : GS) (r : Int32)  (sz : Nat) (hF : f_scan u = some (r, u1)) : Met l yX13_scan (Cond.code yX13_scan cX13_scan 3 none :: wM) { frames := 4, cells := 0, slots := 0, locals := 91 } (va_Pc [.ref (Q 72)] (mPM G Z Q u.1 sz)) (mQv G Q u1.1 sz) 0 0 (mA Q sz) := by
  refine Met.ofW (cc := cX13_scan) (maxL := 3) (ret := none) (by decide) rfl ?_
  intro p e s m args below meth c s₁ B hml hv
  obtain ⟨rfl, rfl, hP, hB, hD, hE⟩ := hv
  have hr := B.returns
  have hlocks := B.notSynchronized
  have hts := atoms_spec (ws := Cond.code yX13_scan cX13_scan 3 none :: wM) B.pre
  have hC : mX p c cX13_scan 3 s m _ G Z Q := ⟨B.exec, B.bytes, hml, findClass_of_methodNamed B.named, fun w h => hts w (List.mem_cons_of_mem _ h), hB, hE⟩
  have hx := hC.1
  have hb := hC.2.1
  have hH : mH G Q u.1 s s.heap [] := ⟨hP, hD, va_S.rf⟩
  have hl := lv_entry ([.ref (Q 72)]) (n := 3) (Nat.le_of_ble_eq_true rfl)
  rw [lg_entry_eq]
  generalize (lg_sl ([.ref (Q 72)]) ++ List.replicate (3 - (lg_sl ([.ref (Q 72)])).length) Slot.unset).toArray = ls at hl ⊢
  have hl : lv_has ls 3 [(0, .ref (Q 72))] := hl
  unfold f_scan at hF
  have hL0 : ∀ (K0_52 : PG (Int32)), (∀ (u : GS) (H : Heap) (locs : List Loc) (ls : Array Slot), lv_has ls 3 [(0, .ref (Q 72))] → mH G Q u.1 s H locs → K0_52  u = some ((r, u1)) → W p l e (headSpec (Cond.code yX13_scan cX13_scan 3 none :: wM) { frames := 4, cells := 0, slots := 0, locals := 91 }).room s m [.ref (Q 72)].toArray below meth c H locs 0 0 (MQ below (mQv G Q u1.1 s.heap.size) [.ref (Q 72)].toArray s 0 0 (mA Q s.heap.size)) (F0 m 52 ls [])) → ∀ (n0 : Nat) (u : GS) (H : Heap) (locs : List Loc) (ls : Array Slot), lv_has ls 3 [(0, .ref (Q 72))] → mH G Q u.1 s H locs → lp_scan_0 n0  K0_52 u = some ((r, u1)) → W p l e (headSpec (Cond.code yX13_scan cX13_scan 3 none :: wM) { frames := 4, cells := 0, slots := 0, locals := 91 }).room s m [.ref (Q 72)].toArray below meth c H locs 0 0 (MQ below (mQv G Q u1.1 s.heap.size) [.ref (Q 72)].toArray s 0 0 (mA Q s.heap.size)) (F0 m 0 ls []) := by
    intro K0_52 hK0_52 n0
    induction n0 with
    | zero => intro  u H locs ls hl hH hF; cases hF
    | succ n0 ih0 =>
      intro  u H locs ls hl hH hF
      unfold lp_scan_0 at hF
      refine lv_aload_n hx hb dX13_scan_0 rfl (lv_at hl 0 rfl) ?_
      refine mg_45 hC hH dX13_scan_1 ?_
      obtain ⟨x_1, e_2, hF⟩ := prf_some hF
      refine gx_ti e_2 ?_
      refine lv_aload_n hx hb dX13_scan_4 rfl (lv_at hl 0 rfl) ?_
      refine mg_43 hC hH dX13_scan_5 ?_
      obtain ⟨x_3, e_4, hF⟩ := prf_some hF
      refine gx_ti e_4 ?_
      refine lv_icmp_ge (tgt := 52) hx hb dX13_scan_8 (by decide) (fun c_5 => ?_) (fun c_5 => ?_)
      · rw [if_pos c_5] at hF
        exact hK0_52  u _ _ _ (lv_sub hl [0] rfl) hH hF
      · rw [if_neg c_5] at hF
        refine lv_aload_n hx hb dX13_scan_11 rfl (lv_at hl 0 rfl) ?_
        refine mg_41 hC hH dX13_scan_12 ?_
        refine lv_aload_n hx hb dX13_scan_15 rfl (lv_at hl 0 rfl) ?_
        refine mg_45 hC hH dX13_scan_16 ?_
        obtain ⟨x_6, e_7, hF⟩ := prf_some hF
        refine gx_ti e_7 ?_
        obtain ⟨x_8, g_9, e_10, hF⟩ := psr_some hF
        refine ml_src hC hH g_9 dX13_scan_19 ?_
        refine gx_ti e_10 ?_
        refine lv_bipush (v := 32) hx hb dX13_scan_20 (by decide) ?_
        refine lv_icmp_eq (tgt := 39) hx hb dX13_scan_22 (by decide) (fun c_11 => ?_) (fun c_11 => ?_)
        · rw [if_pos c_11] at hF
          refine lv_aload_n hx hb dX13_scan_39 rfl (lv_at hl 0 rfl) ?_
          refine lv_dup hx hb dX13_scan_40 rfl ?_
          refine mg_45 hC hH dX13_scan_41 ?_
          obtain ⟨x_12, e_13, hF⟩ := prf_some hF
          refine gx_ti e_13 ?_
          refine lv_iconst (v := 1) hx hb dX13_scan_44 (by decide) ?_
          refine lv_iadd hx hb dX13_scan_45 ?_
          obtain ⟨u_14, e_15, hF⟩ := pwf_some hF
          refine mp_45 hC hH e_15 dX13_scan_46 (fun H locs hH => ?_)
          refine lv_goto (tgt := 0) hx hb dX13_scan_49 (by decide) ?_
          exact ih0  u_14 _ _ _ (lv_sub hl [0] rfl) hH hF
        · rw [if_neg c_11] at hF
          refine lv_aload_n hx hb dX13_scan_25 rfl (lv_at hl 0 rfl) ?_
          refine mg_41 hC hH dX13_scan_26 ?_
          refine lv_aload_n hx hb dX13_scan_29 rfl (lv_at hl 0 rfl) ?_
          refine mg_45 hC hH dX13_scan_30 ?_
          obtain ⟨x_16, e_17, hF⟩ := prf_some hF
          refine gx_ti e_17 ?_
          obtain ⟨x_18, g_19, e_20, hF⟩ := psr_some hF
          refine ml_src hC hH g_19 dX13_scan_33 ?_
          refine gx_ti e_20 ?_
          refine lv_bipush (v := 10) hx hb dX13_scan_34 (by decide) ?_
          refine lv_icmp_ne (tgt := 52) hx hb dX13_scan_36 (by decide) (fun c_21 => ?_) (fun c_21 => ?_)
          · rw [if_neg c_21] at hF
            exact hK0_52  u _ _ _ (lv_sub hl [0] rfl) hH hF
          · rw [if_pos c_21] at hF
            refine lv_aload_n hx hb dX13_scan_39 rfl (lv_at hl 0 rfl) ?_
            refine lv_dup hx hb dX13_scan_40 rfl ?_
            refine mg_45 hC hH dX13_scan_41 ?_
            obtain ⟨x_22, e_23, hF⟩ := prf_some hF
            refine gx_ti e_23 ?_
            refine lv_iconst (v := 1) hx hb dX13_scan_44 (by decide) ?_
            refine lv_iadd hx hb dX13_scan_45 ?_
            obtain ⟨u_24, e_25, hF⟩ := pwf_some hF
            refine mp_45 hC hH e_25 dX13_scan_46 (fun H locs hH => ?_)
            refine lv_goto (tgt := 0) hx hb dX13_scan_49 (by decide) ?_
            exact ih0  u_24 _ _ _ (lv_sub hl [0] rfl) hH hF
  refine hL0 _ (fun  u H locs ls hl hH hF => ?_) fuel  u _ _ _ (lv_sub hl [0] rfl) hH hF
  refine lv_aload_n hx hb dX13_scan_52 rfl (lv_at hl 0 rfl) ?_
  refine lv_aload_n hx hb dX13_scan_53 rfl (lv_at hl 0 rfl) ?_
  refine mg_45 hC hH dX13_scan_54 ?_
  obtain ⟨x_26, e_27, hF⟩ := prf_some hF
  refine gx_ti e_27 ?_
  obtain ⟨u_28, e_29, hF⟩ := pwf_some hF
  refine mp_44 hC hH e_29 dX13_scan_57 (fun H locs hH => ?_)
  refine lv_aload_n hx hb dX13_scan_60 rfl (lv_at hl 0 rfl) ?_
  refine lv_aload_n hx hb dX13_scan_61 rfl (lv_at hl 0 rfl) ?_
  refine mg_44 hC hH dX13_scan_62 ?_
  obtain ⟨x_30, e_31, hF⟩ := prf_some hF
  refine gx_ti e_31 ?_
  obtain ⟨r_32, u_33, h_34, hF⟩ := pcl_some hF
  refine mcV_i (As := [.int x_30]) (rest := []) hC hH (m_byteAt l G Z Q u_28 u_33 r_32 x_30 _ h_34) kwX13_byteAt kVX13_byteAt ⟨Nat.le_of_ble_eq_true rfl, Nat.le_of_ble_eq_true rfl⟩ rfl hl.1 rfl (Nat.le_of_ble_eq_true rfl) dX13_scan_65 (fun H locs hH => ?_)
  refine lv_istore_n (lv' := [(1, .int r_32), (0, .ref (Q 72))]) hx hb dX13_scan_68 rfl hl (by decide) rfl (fun ls hl => ?_)
  refine lv_aload_n hx hb dX13_scan_69 rfl (lv_at hl 1 rfl) ?_
  refine mg_44 hC hH dX13_scan_70 ?_
  obtain ⟨x_35, e_36, hF⟩ := prf_some hF
  refine gx_ti e_36 ?_
  refine lv_aload_n hx hb dX13_scan_73 rfl (lv_at hl 1 rfl) ?_
  refine mg_43 hC hH dX13_scan_74 ?_
  obtain ⟨x_37, e_38, hF⟩ := prf_some hF
  refine gx_ti e_38 ?_
  refine lv_icmp_ne (tgt := 88) hx hb dX13_scan_77 (by decide) (fun c_39 => ?_) (fun c_39 => ?_)
  · rw [if_neg c_39] at hF
    refine lv_iload_n hx hb dX13_scan_88 rfl (lv_at hl 0 rfl) ?_
    obtain ⟨r_40, u_41, h_42, hF⟩ := pcl_some hF
    refine mcS_i (As := [.int r_32]) (rest := []) hC hH (m_isLetter l G Z Q u_33 u_41 r_40 r_32 _ h_42) kwX13_isLetter kVX13_isLetter ⟨Nat.le_of_ble_eq_true rfl, Nat.le_of_ble_eq_true rfl⟩ rfl hl.1 rfl (Nat.le_of_ble_eq_true rfl) dX13_scan_89 (fun H locs hH => ?_)
    refine lv_if_eq (tgt := 148) hx hb dX13_scan_92 (by decide) (fun c_43 => ?_) (fun c_43 => ?_)
    · rw [if_pos c_43] at hF
      refine lv_iload_n hx hb dX13_scan_148 rfl (lv_at hl 0 rfl) ?_
      obtain ⟨r_44, u_45, h_46, hF⟩ := pcl_some hF
      refine mcS_i (As := [.int r_32]) (rest := []) hC hH (m_isDigit l G Z Q u_41 u_45 r_44 r_32 _ h_46) kwX13_isDigit kVX13_isDigit ⟨Nat.le_of_ble_eq_true rfl, Nat.le_of_ble_eq_true rfl⟩ rfl hl.1 rfl (Nat.le_of_ble_eq_true rfl) dX13_scan_149 (fun H locs hH => ?_)
      refine lv_if_eq (tgt := 248) hx hb dX13_scan_152 (by decide) (fun c_47 => ?_) (fun c_47 => ?_)
      · rw [if_pos c_47] at hF
        refine lv_aload_n hx hb dX13_scan_248 rfl (lv_at hl 1 rfl) ?_
        refine lv_aload_n hx hb dX13_scan_249 rfl (lv_at hl 1 rfl) ?_
        refine mg_44 hC hH dX13_scan_250 ?_
        obtain ⟨x_48, e_49, hF⟩ := prf_some hF
        refine gx_ti e_49 ?_
        refine lv_iconst (v := 1) hx hb dX13_scan_253 (by decide) ?_
        refine lv_iadd hx hb dX13_scan_254 ?_
        obtain ⟨r_50, u_51, h_52, hF⟩ := pcl_some hF
        refine mcV_i (As := [.int (x_48 + 1)]) (rest := []) hC hH (m_byteAt l G Z Q u_45 u_51 r_50 (x_48 + 1) _ h_52) kwX13_byteAt kVX13_byteAt ⟨Nat.le_of_ble_eq_true rfl, Nat.le_of_ble_eq_true rfl⟩ rfl hl.1 rfl (Nat.le_of_ble_eq_true rfl) dX13_scan_255 (fun H locs hH => ?_)
        refine lv_bipush (v := 61) hx hb dX13_scan_258 (by decide) ?_
        refine lv_icmp_ne (tgt := 285) hx hb dX13_scan_260 (by decide) (fun c_53 => ?_) (fun c_53 => ?_)
        · rw [if_neg c_53] at hF
          refine lv_iconst (v := 0) hx hb dX13_scan_285 (by decide) ?_
          refine lv_istore_n (lv' := [(2, .int 0), (1, .int r_32), (0, .ref (Q 72))]) hx hb dX13_scan_286 rfl hl (by decide) rfl (fun ls hl => ?_)
          refine lv_aload_n hx hb dX13_scan_287 rfl (lv_at hl 2 rfl) ?_
          refine lv_iload_n hx hb dX13_scan_288 rfl (lv_at hl 0 rfl) ?_
          refine lv_if_ne (tgt := 303) hx hb dX13_scan_289 (by decide) (fun c_54 => ?_) (fun c_54 => ?_)
          · rw [if_neg c_54] at hF
            refine lv_iconst (v := 3) hx hb dX13_scan_303 (by decide) ?_
            refine lv_goto (tgt := 308) hx hb dX13_scan_304 (by decide) ?_
            obtain ⟨u_55, e_56, hF⟩ := pwf_some hF
            refine mp_46 hC hH e_56 dX13_scan_308 (fun H locs hH => ?_)
            refine lv_aload_n hx hb dX13_scan_311 rfl (lv_at hl 2 rfl) ?_
            refine lv_dup hx hb dX13_scan_312 rfl ?_
            refine mg_45 hC hH dX13_scan_313 ?_
            obtain ⟨x_57, e_58, hF⟩ := prf_some hF
            refine gx_ti e_58 ?_
            refine lv_iload_n hx hb dX13_scan_316 rfl (lv_at hl 0 rfl) ?_
            refine lv_if_eq (tgt := 324) hx hb dX13_scan_317 (by decide) (fun c_59 => ?_) (fun c_59 => ?_)
            · rw [if_pos c_59] at hF
              refine lv_iconst (v := 1) hx hb dX13_scan_324 (by decide) ?_
              refine lv_iadd hx hb dX13_scan_325 ?_
              obtain ⟨u_60, e_61, hF⟩ := pwf_some hF
              refine mp_45 hC hH e_61 dX13_scan_326 (fun H locs hH => ?_)
              have hF := prt_eq hF
              exact mr_v hC hH hr hF dX13_scan_329 hlocks
            · rw [if_neg c_59] at hF
              refine lv_iconst (v := 2) hx hb dX13_scan_320 (by decide) ?_
              refine lv_goto (tgt := 325) hx hb dX13_scan_321 (by decide) ?_
              refine lv_iadd hx hb dX13_scan_325 ?_
              obtain ⟨u_62, e_63, hF⟩ := pwf_some hF
              refine mp_45 hC hH e_63 dX13_scan_326 (fun H locs hH => ?_)
              have hF := prt_eq hF
              exact mr_v hC hH hr hF dX13_scan_329 hlocks
          · rw [if_pos c_54] at hF
            refine th_ldcw (tx := sTx 0) hx hb hC.2.2.2.1 (hC.2.2.2.2.2.2.2.2.1 0 (by decide)) dX13_scan_292 ?_
            refine lv_iload_n hx hb dX13_scan_295 rfl (lv_at hl 1 rfl) ?_
            refine lv_i2c (v := (r_32.toUInt32 % 65536).toInt32) hx hb dX13_scan_296 rfl ?_
            obtain ⟨r_64, h_65, hF⟩ := poi_some hF
            refine mcJ (As := [.int ((r_32.toUInt32 % 65536).toInt32)]) (rest := [.ref (Q 72)]) hC hH (by decide) (j_indexOf l Z (mA Q s.heap.size) 0 ((r_32.toUInt32 % 65536).toInt32) r_64 (by decide) h_65) ⟨wj49, wma84, wj52, wj53, wj7⟩ kVJ0_indexOf_0f7a4 ⟨Nat.le_of_ble_eq_true rfl, Nat.le_of_ble_eq_true rfl⟩ rfl hl.1 rfl (Nat.le_of_ble_eq_true rfl) dX13_scan_297 ?_
            refine lv_if_lt (tgt := 307) hx hb dX13_scan_300 (by decide) (fun c_66 => ?_) (fun c_66 => ?_)
            · rw [if_pos c_66] at hF
              refine lv_iconst (v := 4) hx hb dX13_scan_307 (by decide) ?_
              obtain ⟨u_67, e_68, hF⟩ := pwf_some hF
              refine mp_46 hC hH e_68 dX13_scan_308 (fun H locs hH => ?_)
              refine lv_aload_n hx hb dX13_scan_311 rfl (lv_at hl 2 rfl) ?_
              refine lv_dup hx hb dX13_scan_312 rfl ?_
              refine mg_45 hC hH dX13_scan_313 ?_
              obtain ⟨x_69, e_70, hF⟩ := prf_some hF
              refine gx_ti e_70 ?_
              refine lv_iload_n hx hb dX13_scan_316 rfl (lv_at hl 0 rfl) ?_
              refine lv_if_eq (tgt := 324) hx hb dX13_scan_317 (by decide) (fun c_71 => ?_) (fun c_71 => ?_)
              · rw [if_pos c_71] at hF
                refine lv_iconst (v := 1) hx hb dX13_scan_324 (by decide) ?_
                refine lv_iadd hx hb dX13_scan_325 ?_
                obtain ⟨u_72, e_73, hF⟩ := pwf_some hF
                refine mp_45 hC hH e_73 dX13_scan_326 (fun H locs hH => ?_)
                have hF := prt_eq hF
                exact mr_v hC hH hr hF dX13_scan_329 hlocks
              · rw [if_neg c_71] at hF
                refine lv_iconst (v := 2) hx hb dX13_scan_320 (by decide) ?_
                refine lv_goto (tgt := 325) hx hb dX13_scan_321 (by decide) ?_
                refine lv_iadd hx hb dX13_scan_325 ?_
                obtain ⟨u_74, e_75, hF⟩ := pwf_some hF
                refine mp_45 hC hH e_75 dX13_scan_326 (fun H locs hH => ?_)
                have hF := prt_eq hF
                exact mr_v hC hH hr hF dX13_scan_329 hlocks
            · rw [if_neg c_66] at hF
              refine lv_iconst (v := 3) hx hb dX13_scan_303 (by decide) ?_
              refine lv_goto (tgt := 308) hx hb dX13_scan_304 (by decide) ?_
              obtain ⟨u_76, e_77, hF⟩ := pwf_some hF
              refine mp_46 hC hH e_77 dX13_scan_308 (fun H locs hH => ?_)
              refine lv_aload_n hx hb dX13_scan_311 rfl (lv_at hl 2 rfl) ?_
              refine lv_dup hx hb dX13_scan_312 rfl ?_
              refine mg_45 hC hH dX13_scan_313 ?_
              obtain ⟨x_78, e_79, hF⟩ := prf_some hF
              refine gx_ti e_79 ?_
              refine lv_iload_n hx hb dX13_scan_316 rfl (lv_at hl 0 rfl) ?_
              refine lv_if_eq (tgt := 324) hx hb dX13_scan_317 (by decide) (fun c_80 => ?_) (fun c_80 => ?_)
              · rw [if_pos c_80] at hF
                refine lv_iconst (v := 1) hx hb dX13_scan_324 (by decide) ?_
                refine lv_iadd hx hb dX13_scan_325 ?_
                obtain ⟨u_81, e_82, hF⟩ := pwf_some hF
                refine mp_45 hC hH e_82 dX13_scan_326 (fun H locs hH => ?_)
                have hF := prt_eq hF
                exact mr_v hC hH hr hF dX13_scan_329 hlocks
              · rw [if_neg c_80] at hF
                refine lv_iconst (v := 2) hx hb dX13_scan_320 (by decide) ?_
                refine lv_goto (tgt := 325) hx hb dX13_scan_321 (by decide) ?_
                refine lv_iadd hx hb dX13_scan_325 ?_
                obtain ⟨u_83, e_84, hF⟩ := pwf_some hF
                refine mp_45 hC hH e_84 dX13_scan_326 (fun H locs hH => ?_)
                have hF := prt_eq hF
                exact mr_v hC hH hr hF dX13_scan_329 hlocks
        · rw [if_pos c_53] at hF
          refine lv_iload_n hx hb dX13_scan_263 rfl (lv_at hl 0 rfl) ?_
          refine lv_bipush (v := 60) hx hb dX13_scan_264 (by decide) ?_
          refine lv_icmp_eq (tgt := 281) hx hb dX13_scan_266 (by decide) (fun c_85 => ?_) (fun c_85 => ?_)
          · rw [if_pos c_85] at hF
            refine lv_iconst (v := 1) hx hb dX13_scan_281 (by decide) ?_
            refine lv_goto (tgt := 286) hx hb dX13_scan_282 (by decide) ?_
            refine lv_istore_n (lv' := [(2, .int 1), (1, .int r_32), (0, .ref (Q 72))]) hx hb dX13_scan_286 rfl hl (by decide) rfl (fun ls hl => ?_)
            refine lv_aload_n hx hb dX13_scan_287 rfl (lv_at hl 2 rfl) ?_
            refine lv_iload_n hx hb dX13_scan_288 rfl (lv_at hl 0 rfl) ?_
            refine lv_if_ne (tgt := 303) hx hb dX13_scan_289 (by decide) (fun c_86 => ?_) (fun c_86 => ?_)
            · rw [if_neg c_86] at hF
              refine lv_iconst (v := 3) hx hb dX13_scan_303 (by decide) ?_
              refine lv_goto (tgt := 308) hx hb dX13_scan_304 (by decide) ?_
              obtain ⟨u_87, e_88, hF⟩ := pwf_some hF
              refine mp_46 hC hH e_88 dX13_scan_308 (fun H locs hH => ?_)
              refine lv_aload_n hx hb dX13_scan_311 rfl (lv_at hl 2 rfl) ?_
              refine lv_dup hx hb dX13_scan_312 rfl ?_
              refine mg_45 hC hH dX13_scan_313 ?_
              obtain ⟨x_89, e_90, hF⟩ := prf_some hF
              refine gx_ti e_90 ?_
              refine lv_iload_n hx hb dX13_scan_316 rfl (lv_at hl 0 rfl) ?_
              refine lv_if_eq (tgt := 324) hx hb dX13_scan_317 (by decide) (fun c_91 => ?_) (fun c_91 => ?_)
              · rw [if_pos c_91] at hF
                refine lv_iconst (v := 1) hx hb dX13_scan_324 (by decide) ?_
                refine lv_iadd hx hb dX13_scan_325 ?_
                obtain ⟨u_92, e_93, hF⟩ := pwf_some hF
                refine mp_45 hC hH e_93 dX13_scan_326 (fun H locs hH => ?_)
                have hF := prt_eq hF
                exact mr_v hC hH hr hF dX13_scan_329 hlocks
              · rw [if_neg c_91] at hF
                refine lv_iconst (v := 2) hx hb dX13_scan_320 (by decide) ?_
                refine lv_goto (tgt := 325) hx hb dX13_scan_321 (by decide) ?_
                refine lv_iadd hx hb dX13_scan_325 ?_
                obtain ⟨u_94, e_95, hF⟩ := pwf_some hF
                refine mp_45 hC hH e_95 dX13_scan_326 (fun H locs hH => ?_)
                have hF := prt_eq hF
                exact mr_v hC hH hr hF dX13_scan_329 hlocks
            · rw [if_pos c_86] at hF
              refine th_ldcw (tx := sTx 0) hx hb hC.2.2.2.1 (hC.2.2.2.2.2.2.2.2.1 0 (by decide)) dX13_scan_292 ?_
              refine lv_iload_n hx hb dX13_scan_295 rfl (lv_at hl 1 rfl) ?_
              refine lv_i2c (v := (r_32.toUInt32 % 65536).toInt32) hx hb dX13_scan_296 rfl ?_
              obtain ⟨r_96, h_97, hF⟩ := poi_some hF
              refine mcJ (As := [.int ((r_32.toUInt32 % 65536).toInt32)]) (rest := [.ref (Q 72)]) hC hH (by decide) (j_indexOf l Z (mA Q s.heap.size) 0 ((r_32.toUInt32 % 65536).toInt32) r_96 (by decide) h_97) ⟨wj49, wma84, wj52, wj53, wj7⟩ kVJ0_indexOf_0f7a4 ⟨Nat.le_of_ble_eq_true rfl, Nat.le_of_ble_eq_true rfl⟩ rfl hl.1 rfl (Nat.le_of_ble_eq_true rfl) dX13_scan_297 ?_
              refine lv_if_lt (tgt := 307) hx hb dX13_scan_300 (by decide) (fun c_98 => ?_) (fun c_98 => ?_)
              · rw [if_pos c_98] at hF
                refine lv_iconst (v := 4) hx hb dX13_scan_307 (by decide) ?_
                obtain ⟨u_99, e_100, hF⟩ := pwf_some hF
                refine mp_46 hC hH e_100 dX13_scan_308 (fun H locs hH => ?_)
                refine lv_aload_n hx hb dX13_scan_311 rfl (lv_at hl 2 rfl) ?_
                refine lv_dup hx hb dX13_scan_312 rfl ?_
                refine mg_45 hC hH dX13_scan_313 ?_
                obtain ⟨x_101, e_102, hF⟩ := prf_some hF
                refine gx_ti e_102 ?_
                refine lv_iload_n hx hb dX13_scan_316 rfl (lv_at hl 0 rfl) ?_
                refine lv_if_eq (tgt := 324) hx hb dX13_scan_317 (by decide) (fun c_103 => ?_) (fun c_103 => ?_)
                · rw [if_pos c_103] at hF
                  refine lv_iconst (v := 1) hx hb dX13_scan_324 (by decide) ?_
                  refine lv_iadd hx hb dX13_scan_325 ?_
                  obtain ⟨u_104, e_105, hF⟩ := pwf_some hF
                  refine mp_45 hC hH e_105 dX13_scan_326 (fun H locs hH => ?_)
                  have hF := prt_eq hF
                  exact mr_v hC hH hr hF dX13_scan_329 hlocks
                · rw [if_neg c_103] at hF
                  refine lv_iconst (v := 2) hx hb dX13_scan_320 (by decide) ?_
                  refine lv_goto (tgt := 325) hx hb dX13_scan_321 (by decide) ?_
                  refine lv_iadd hx hb dX13_scan_325 ?_
                  obtain ⟨u_106, e_107, hF⟩ := pwf_some hF
                  refine mp_45 hC hH e_107 dX13_scan_326 (fun H locs hH => ?_)
                  have hF := prt_eq hF
                  exact mr_v hC hH hr hF dX13_scan_329 hlocks
              · rw [if_neg c_98] at hF
                refine lv_iconst (v := 3) hx hb dX13_scan_303 (by decide) ?_
                refine lv_goto (tgt := 308) hx hb dX13_scan_304 (by decide) ?_
                obtain ⟨u_108, e_109, hF⟩ := pwf_some hF
                refine mp_46 hC hH e_109 dX13_scan_308 (fun H locs hH => ?_)
                refine lv_aload_n hx hb dX13_scan_311 rfl (lv_at hl 2 rfl) ?_
                refine lv_dup hx hb dX13_scan_312 rfl ?_
                refine mg_45 hC hH dX13_scan_313 ?_
                obtain ⟨x_110, e_111, hF⟩ := prf_some hF
                refine gx_ti e_111 ?_
                refine lv_iload_n hx hb dX13_scan_316 rfl (lv_at hl 0 rfl) ?_
                refine lv_if_eq (tgt := 324) hx hb dX13_scan_317 (by decide) (fun c_112 => ?_) (fun c_112 => ?_)
                · rw [if_pos c_112] at hF
                  refine lv_iconst (v := 1) hx hb dX13_scan_324 (by decide) ?_
                  refine lv_iadd hx hb dX13_scan_325 ?_
                  obtain ⟨u_113, e_114, hF⟩ := pwf_some hF
                  refine mp_45 hC hH e_114 dX13_scan_326 (fun H locs hH => ?_)
                  have hF := prt_eq hF
                  exact mr_v hC hH hr hF dX13_scan_329 hlocks
                · rw [if_neg c_112] at hF
                  refine lv_iconst (v := 2) hx hb dX13_scan_320 (by decide) ?_
                  refine lv_goto (tgt := 325) hx hb dX13_scan_321 (by decide) ?_
                  refine lv_iadd hx hb dX13_scan_325 ?_
                  obtain ⟨u_115, e_116, hF⟩ := pwf_some hF
                  refine mp_45 hC hH e_116 dX13_scan_326 (fun H locs hH => ?_)
                  have hF := prt_eq hF
                  exact mr_v hC hH hr hF dX13_scan_329 hlocks
          · rw [if_neg c_85] at hF
            refine lv_iload_n hx hb dX13_scan_269 rfl (lv_at hl 0 rfl) ?_
            refine lv_bipush (v := 62) hx hb dX13_scan_270 (by decide) ?_
            refine lv_icmp_eq (tgt := 281) hx hb dX13_scan_272 (by decide) (fun c_117 => ?_) (fun c_117 => ?_)
            · rw [if_pos c_117] at hF
              refine lv_iconst (v := 1) hx hb dX13_scan_281 (by decide) ?_
              refine lv_goto (tgt := 286) hx hb dX13_scan_282 (by decide) ?_
              refine lv_istore_n (lv' := [(2, .int 1), (1, .int r_32), (0, .ref (Q 72))]) hx hb dX13_scan_286 rfl hl (by decide) rfl (fun ls hl => ?_)
              refine lv_aload_n hx hb dX13_scan_287 rfl (lv_at hl 2 rfl) ?_
              refine lv_iload_n hx hb dX13_scan_288 rfl (lv_at hl 0 rfl) ?_
              refine lv_if_ne (tgt := 303) hx hb dX13_scan_289 (by decide) (fun c_118 => ?_) (fun c_118 => ?_)
              · rw [if_neg c_118] at hF
                refine lv_iconst (v := 3) hx hb dX13_scan_303 (by decide) ?_
                refine lv_goto (tgt := 308) hx hb dX13_scan_304 (by decide) ?_
                obtain ⟨u_119, e_120, hF⟩ := pwf_some hF
                refine mp_46 hC hH e_120 dX13_scan_308 (fun H locs hH => ?_)
                refine lv_aload_n hx hb dX13_scan_311 rfl (lv_at hl 2 rfl) ?_
                refine lv_dup hx hb dX13_scan_312 rfl ?_
                refine mg_45 hC hH dX13_scan_313 ?_
                obtain ⟨x_121, e_122, hF⟩ := prf_some hF
                refine gx_ti e_122 ?_
                refine lv_iload_n hx hb dX13_scan_316 rfl (lv_at hl 0 rfl) ?_
                refine lv_if_eq (tgt := 324) hx hb dX13_scan_317 (by decide) (fun c_123 => ?_) (fun c_123 => ?_)
                · rw [if_pos c_123] at hF
                  refine lv_iconst (v := 1) hx hb dX13_scan_324 (by decide) ?_
                  refine lv_iadd hx hb dX13_scan_325 ?_
                  obtain ⟨u_124, e_125, hF⟩ := pwf_some hF
                  refine mp_45 hC hH e_125 dX13_scan_326 (fun H locs hH => ?_)
                  have hF := prt_eq hF
                  exact mr_v hC hH hr hF dX13_scan_329 hlocks
                · rw [if_neg c_123] at hF
                  refine lv_iconst (v := 2) hx hb dX13_scan_320 (by decide) ?_
                  refine lv_goto (tgt := 325) hx hb dX13_scan_321 (by decide) ?_
                  refine lv_iadd hx hb dX13_scan_325 ?_
                  obtain ⟨u_126, e_127, hF⟩ := pwf_some hF
                  refine mp_45 hC hH e_127 dX13_scan_326 (fun H locs hH => ?_)
                  have hF := prt_eq hF
                  exact mr_v hC hH hr hF dX13_scan_329 hlocks
              · rw [if_pos c_118] at hF
                refine th_ldcw (tx := sTx 0) hx hb hC.2.2.2.1 (hC.2.2.2.2.2.2.2.2.1 0 (by decide)) dX13_scan_292 ?_
                refine lv_iload_n hx hb dX13_scan_295 rfl (lv_at hl 1 rfl) ?_
                refine lv_i2c (v := (r_32.toUInt32 % 65536).toInt32) hx hb dX13_scan_296 rfl ?_
                obtain ⟨r_128, h_129, hF⟩ := poi_some hF
                refine mcJ (As := [.int ((r_32.toUInt32 % 65536).toInt32)]) (rest := [.ref (Q 72)]) hC hH (by decide) (j_indexOf l Z (mA Q s.heap.size) 0 ((r_32.toUInt32 % 65536).toInt32) r_128 (by decide) h_129) ⟨wj49, wma84, wj52, wj53, wj7⟩ kVJ0_indexOf_0f7a4 ⟨Nat.le_of_ble_eq_true rfl, Nat.le_of_ble_eq_true rfl⟩ rfl hl.1 rfl (Nat.le_of_ble_eq_true rfl) dX13_scan_297 ?_
                refine lv_if_lt (tgt := 307) hx hb dX13_scan_300 (by decide) (fun c_130 => ?_) (fun c_130 => ?_)
                · rw [if_pos c_130] at hF
                  refine lv_iconst (v := 4) hx hb dX13_scan_307 (by decide) ?_
                  obtain ⟨u_131, e_132, hF⟩ := pwf_some hF
                  refine mp_46 hC hH e_132 dX13_scan_308 (fun H locs hH => ?_)
                  refine lv_aload_n hx hb dX13_scan_311 rfl (lv_at hl 2 rfl) ?_
                  refine lv_dup hx hb dX13_scan_312 rfl ?_
                  refine mg_45 hC hH dX13_scan_313 ?_
                  obtain ⟨x_133, e_134, hF⟩ := prf_some hF
                  refine gx_ti e_134 ?_
                  refine lv_iload_n hx hb dX13_scan_316 rfl (lv_at hl 0 rfl) ?_
                  refine lv_if_eq (tgt := 324) hx hb dX13_scan_317 (by decide) (fun c_135 => ?_) (fun c_135 => ?_)
                  · rw [if_pos c_135] at hF
                    refine lv_iconst (v := 1) hx hb dX13_scan_324 (by decide) ?_
                    refine lv_iadd hx hb dX13_scan_325 ?_
                    obtain ⟨u_136, e_137, hF⟩ := pwf_some hF
                    refine mp_45 hC hH e_137 dX13_scan_326 (fun H locs hH => ?_)
                    have hF := prt_eq hF
                    exact mr_v hC hH hr hF dX13_scan_329 hlocks
                  · rw [if_neg c_135] at hF
                    refine lv_iconst (v := 2) hx hb dX13_scan_320 (by decide) ?_
                    refine lv_goto (tgt := 325) hx hb dX13_scan_321 (by decide) ?_
                    refine lv_iadd hx hb dX13_scan_325 ?_
                    obtain ⟨u_138, e_139, hF⟩ := pwf_some hF
                    refine mp_45 hC hH e_139 dX13_scan_326 (fun H locs hH => ?_)
                    have hF := prt_eq hF
                    exact mr_v hC hH hr hF dX13_scan_329 hlocks
                · rw [if_neg c_130] at hF
                  refine lv_iconst (v := 3) hx hb dX13_scan_303 (by decide) ?_
                  refine lv_goto (tgt := 308) hx hb dX13_scan_304 (by decide) ?_
                  obtain ⟨u_140, e_141, hF⟩ := pwf_some hF
                  refine mp_46 hC hH e_141 dX13_scan_308 (fun H locs hH => ?_)
                  refine lv_aload_n hx hb dX13_scan_311 rfl (lv_at hl 2 rfl) ?_
                  refine lv_dup hx hb dX13_scan_312 rfl ?_
                  refine mg_45 hC hH dX13_scan_313 ?_
                  obtain ⟨x_142, e_143, hF⟩ := prf_some hF
                  refine gx_ti e_143 ?_
                  refine lv_iload_n hx hb dX13_scan_316 rfl (lv_at hl 0 rfl) ?_
                  refine lv_if_eq (tgt := 324) hx hb dX13_scan_317 (by decide) (fun c_144 => ?_) (fun c_144 => ?_)
                  · rw [if_pos c_144] at hF
                    refine lv_iconst (v := 1) hx hb dX13_scan_324 (by decide) ?_
                    refine lv_iadd hx hb dX13_scan_325 ?_
                    obtain ⟨u_145, e_146, hF⟩ := pwf_some hF
                    refine mp_45 hC hH e_146 dX13_scan_326 (fun H locs hH => ?_)
                    have hF := prt_eq hF
                    exact mr_v hC hH hr hF dX13_scan_329 hlocks
                  · rw [if_neg c_144] at hF
                    refine lv_iconst (v := 2) hx hb dX13_scan_320 (by decide) ?_
                    refine lv_goto (tgt := 325) hx hb dX13_scan_321 (by decide) ?_
                    refine lv_iadd hx hb dX13_scan_325 ?_
                    obtain ⟨u_147, e_148, hF⟩ := pwf_some hF
                    refine mp_45 hC hH e_148 dX13_scan_326 (fun H locs hH => ?_)
                    have hF := prt_eq hF
                    exact mr_v hC hH hr hF dX13_scan_329 hlocks
            · rw [if_neg c_117] at hF
              refine lv_iload_n hx hb dX13_scan_275 rfl (lv_at hl 0 rfl) ?_
              refine lv_bipush (v := 33) hx hb dX13_scan_276 (by decide) ?_
              refine lv_icmp_ne (tgt := 285) hx hb dX13_scan_278 (by decide) (fun c_149 => ?_) (fun c_149 => ?_)
              · rw [if_neg c_149] at hF
                refine lv_iconst (v := 0) hx hb dX13_scan_285 (by decide) ?_
                refine lv_istore_n (lv' := [(2, .int 0), (1, .int r_32), (0, .ref (Q 72))]) hx hb dX13_scan_286 rfl hl (by decide) rfl (fun ls hl => ?_)
                refine lv_aload_n hx hb dX13_scan_287 rfl (lv_at hl 2 rfl) ?_
                refine lv_iload_n hx hb dX13_scan_288 rfl (lv_at hl 0 rfl) ?_
                refine lv_if_ne (tgt := 303) hx hb dX13_scan_289 (by decide) (fun c_150 => ?_) (fun c_150 => ?_)
                · rw [if_neg c_150] at hF
                  refine lv_iconst (v := 3) hx hb dX13_scan_303 (by decide) ?_
                  refine lv_goto (tgt := 308) hx hb dX13_scan_304 (by decide) ?_
                  obtain ⟨u_151, e_152, hF⟩ := pwf_some hF
                  refine mp_46 hC hH e_152 dX13_scan_308 (fun H locs hH => ?_)
                  refine lv_aload_n hx hb dX13_scan_311 rfl (lv_at hl 2 rfl) ?_
                  refine lv_dup hx hb dX13_scan_312 rfl ?_
                  refine mg_45 hC hH dX13_scan_313 ?_
                  obtain ⟨x_153, e_154, hF⟩ := prf_some hF
                  refine gx_ti e_154 ?_
                  refine lv_iload_n hx hb dX13_scan_316 rfl (lv_at hl 0 rfl) ?_
                  refine lv_if_eq (tgt := 324) hx hb dX13_scan_317 (by decide) (fun c_155 => ?_) (fun c_155 => ?_)
                  · rw [if_pos c_155] at hF
                    refine lv_iconst (v := 1) hx hb dX13_scan_324 (by decide) ?_
                    refine lv_iadd hx hb dX13_scan_325 ?_
                    obtain ⟨u_156, e_157, hF⟩ := pwf_some hF
                    refine mp_45 hC hH e_157 dX13_scan_326 (fun H locs hH => ?_)
                    have hF := prt_eq hF
                    exact mr_v hC hH hr hF dX13_scan_329 hlocks
                  · rw [if_neg c_155] at hF
                    refine lv_iconst (v := 2) hx hb dX13_scan_320 (by decide) ?_
                    refine lv_goto (tgt := 325) hx hb dX13_scan_321 (by decide) ?_
                    refine lv_iadd hx hb dX13_scan_325 ?_
                    obtain ⟨u_158, e_159, hF⟩ := pwf_some hF
                    refine mp_45 hC hH e_159 dX13_scan_326 (fun H locs hH => ?_)
                    have hF := prt_eq hF
                    exact mr_v hC hH hr hF dX13_scan_329 hlocks
                · rw [if_pos c_150] at hF
                  refine th_ldcw (tx := sTx 0) hx hb hC.2.2.2.1 (hC.2.2.2.2.2.2.2.2.1 0 (by decide)) dX13_scan_292 ?_
                  refine lv_iload_n hx hb dX13_scan_295 rfl (lv_at hl 1 rfl) ?_
                  refine lv_i2c (v := (r_32.toUInt32 % 65536).toInt32) hx hb dX13_scan_296 rfl ?_
                  obtain ⟨r_160, h_161, hF⟩ := poi_some hF
                  refine mcJ (As := [.int ((r_32.toUInt32 % 65536).toInt32)]) (rest := [.ref (Q 72)]) hC hH (by decide) (j_indexOf l Z (mA Q s.heap.size) 0 ((r_32.toUInt32 % 65536).toInt32) r_160 (by decide) h_161) ⟨wj49, wma84, wj52, wj53, wj7⟩ kVJ0_indexOf_0f7a4 ⟨Nat.le_of_ble_eq_true rfl, Nat.le_of_ble_eq_true rfl⟩ rfl hl.1 rfl (Nat.le_of_ble_eq_true rfl) dX13_scan_297 ?_
                  refine lv_if_lt (tgt := 307) hx hb dX13_scan_300 (by decide) (fun c_162 => ?_) (fun c_162 => ?_)
                  · rw [if_pos c_162] at hF
                    refine lv_iconst (v := 4) hx hb dX13_scan_307 (by decide) ?_
                    obtain ⟨u_163, e_164, hF⟩ := pwf_some hF
                    refine mp_46 hC hH e_164 dX13_scan_308 (fun H locs hH => ?_)
                    refine lv_aload_n hx hb dX13_scan_311 rfl (lv_at hl 2 rfl) ?_
                    refine lv_dup hx hb dX13_scan_312 rfl ?_
                    refine mg_45 hC hH dX13_scan_313 ?_
                    obtain ⟨x_165, e_166, hF⟩ := prf_some hF
                    refine gx_ti e_166 ?_
                    refine lv_iload_n hx hb dX13_scan_316 rfl (lv_at hl 0 rfl) ?_
                    refine lv_if_eq (tgt := 324) hx hb dX13_scan_317 (by decide) (fun c_167 => ?_) (fun c_167 => ?_)
                    · rw [if_pos c_167] at hF
                      refine lv_iconst (v := 1) hx hb dX13_scan_324 (by decide) ?_
                      refine lv_iadd hx hb dX13_scan_325 ?_
                      obtain ⟨u_168, e_169, hF⟩ := pwf_some hF
                      refine mp_45 hC hH e_169 dX13_scan_326 (fun H locs hH => ?_)
                      have hF := prt_eq hF
                      exact mr_v hC hH hr hF dX13_scan_329 hlocks
                    · rw [if_neg c_167] at hF
                      refine lv_iconst (v := 2) hx hb dX13_scan_320 (by decide) ?_
                      refine lv_goto (tgt := 325) hx hb dX13_scan_321 (by decide) ?_
                      refine lv_iadd hx hb dX13_scan_325 ?_
                      obtain ⟨u_170, e_171, hF⟩ := pwf_some hF
                      refine mp_45 hC hH e_171 dX13_scan_326 (fun H locs hH => ?_)
                      have hF := prt_eq hF
                      exact mr_v hC hH hr hF dX13_scan_329 hlocks
                  · rw [if_neg c_162] at hF
                    refine lv_iconst (v := 3) hx hb dX13_scan_303 (by decide) ?_
                    refine lv_goto (tgt := 308) hx hb dX13_scan_304 (by decide) ?_
                    obtain ⟨u_172, e_173, hF⟩ := pwf_some hF
                    refine mp_46 hC hH e_173 dX13_scan_308 (fun H locs hH => ?_)
                    refine lv_aload_n hx hb dX13_scan_311 rfl (lv_at hl 2 rfl) ?_
                    refine lv_dup hx hb dX13_scan_312 rfl ?_
                    refine mg_45 hC hH dX13_scan_313 ?_
                    obtain ⟨x_174, e_175, hF⟩ := prf_some hF
                    refine gx_ti e_175 ?_
                    refine lv_iload_n hx hb dX13_scan_316 rfl (lv_at hl 0 rfl) ?_
                    refine lv_if_eq (tgt := 324) hx hb dX13_scan_317 (by decide) (fun c_176 => ?_) (fun c_176 => ?_)
                    · rw [if_pos c_176] at hF
                      refine lv_iconst (v := 1) hx hb dX13_scan_324 (by decide) ?_
                      refine lv_iadd hx hb dX13_scan_325 ?_
                      obtain ⟨u_177, e_178, hF⟩ := pwf_some hF
                      refine mp_45 hC hH e_178 dX13_scan_326 (fun H locs hH => ?_)
                      have hF := prt_eq hF
                      exact mr_v hC hH hr hF dX13_scan_329 hlocks
                    · rw [if_neg c_176] at hF
                      refine lv_iconst (v := 2) hx hb dX13_scan_320 (by decide) ?_
                      refine lv_goto (tgt := 325) hx hb dX13_scan_321 (by decide) ?_
                      refine lv_iadd hx hb dX13_scan_325 ?_
                      obtain ⟨u_179, e_180, hF⟩ := pwf_some hF
                      refine mp_45 hC hH e_180 dX13_scan_326 (fun H locs hH => ?_)
                      have hF := prt_eq hF
                      exact mr_v hC hH hr hF dX13_scan_329 hlocks
              · rw [if_pos c_149] at hF
                refine lv_iconst (v := 1) hx hb dX13_scan_281 (by decide) ?_
                refine lv_goto (tgt := 286) hx hb dX13_scan_282 (by decide) ?_
                refine lv_istore_n (lv' := [(2, .int 1), (1, .int r_32), (0, .ref (Q 72))]) hx hb dX13_scan_286 rfl hl (by decide) rfl (fun ls hl => ?_)
                refine lv_aload_n hx hb dX13_scan_287 rfl (lv_at hl 2 rfl) ?_
                refine lv_iload_n hx hb dX13_scan_288 rfl (lv_at hl 0 rfl) ?_
                refine lv_if_ne (tgt := 303) hx hb dX13_scan_289 (by decide) (fun c_181 => ?_) (fun c_181 => ?_)
                · rw [if_neg c_181] at hF
                  refine lv_iconst (v := 3) hx hb dX13_scan_303 (by decide) ?_
                  refine lv_goto (tgt := 308) hx hb dX13_scan_304 (by decide) ?_
                  obtain ⟨u_182, e_183, hF⟩ := pwf_some hF
                  refine mp_46 hC hH e_183 dX13_scan_308 (fun H locs hH => ?_)
                  refine lv_aload_n hx hb dX13_scan_311 rfl (lv_at hl 2 rfl) ?_
                  refine lv_dup hx hb dX13_scan_312 rfl ?_
                  refine mg_45 hC hH dX13_scan_313 ?_
                  obtain ⟨x_184, e_185, hF⟩ := prf_some hF
                  refine gx_ti e_185 ?_
                  refine lv_iload_n hx hb dX13_scan_316 rfl (lv_at hl 0 rfl) ?_
                  refine lv_if_eq (tgt := 324) hx hb dX13_scan_317 (by decide) (fun c_186 => ?_) (fun c_186 => ?_)
                  · rw [if_pos c_186] at hF
                    refine lv_iconst (v := 1) hx hb dX13_scan_324 (by decide) ?_
                    refine lv_iadd hx hb dX13_scan_325 ?_
                    obtain ⟨u_187, e_188, hF⟩ := pwf_some hF
                    refine mp_45 hC hH e_188 dX13_scan_326 (fun H locs hH => ?_)
                    have hF := prt_eq hF
                    exact mr_v hC hH hr hF dX13_scan_329 hlocks
                  · rw [if_neg c_186] at hF
                    refine lv_iconst (v := 2) hx hb dX13_scan_320 (by decide) ?_
                    refine lv_goto (tgt := 325) hx hb dX13_scan_321 (by decide) ?_
                    refine lv_iadd hx hb dX13_scan_325 ?_
                    obtain ⟨u_189, e_190, hF⟩ := pwf_some hF
                    refine mp_45 hC hH e_190 dX13_scan_326 (fun H locs hH => ?_)
                    have hF := prt_eq hF
                    exact mr_v hC hH hr hF dX13_scan_329 hlocks
                · rw [if_pos c_181] at hF
                  refine th_ldcw (tx := sTx 0) hx hb hC.2.2.2.1 (hC.2.2.2.2.2.2.2.2.1 0 (by decide)) dX13_scan_292 ?_
                  refine lv_iload_n hx hb dX13_scan_295 rfl (lv_at hl 1 rfl) ?_
                  refine lv_i2c (v := (r_32.toUInt32 % 65536).toInt32) hx hb dX13_scan_296 rfl ?_
                  obtain ⟨r_191, h_192, hF⟩ := poi_some hF
                  refine mcJ (As := [.int ((r_32.toUInt32 % 65536).toInt32)]) (rest := [.ref (Q 72)]) hC hH (by decide) (j_indexOf l Z (mA Q s.heap.size) 0 ((r_32.toUInt32 % 65536).toInt32) r_191 (by decide) h_192) ⟨wj49, wma84, wj52, wj53, wj7⟩ kVJ0_indexOf_0f7a4 ⟨Nat.le_of_ble_eq_true rfl, Nat.le_of_ble_eq_true rfl⟩ rfl hl.1 rfl (Nat.le_of_ble_eq_true rfl) dX13_scan_297 ?_
                  refine lv_if_lt (tgt := 307) hx hb dX13_scan_300 (by decide) (fun c_193 => ?_) (fun c_193 => ?_)
                  · rw [if_pos c_193] at hF
                    refine lv_iconst (v := 4) hx hb dX13_scan_307 (by decide) ?_
                    obtain ⟨u_194, e_195, hF⟩ := pwf_some hF
                    refine mp_46 hC hH e_195 dX13_scan_308 (fun H locs hH => ?_)
                    refine lv_aload_n hx hb dX13_scan_311 rfl (lv_at hl 2 rfl) ?_
                    refine lv_dup hx hb dX13_scan_312 rfl ?_
                    refine mg_45 hC hH dX13_scan_313 ?_
                    obtain ⟨x_196, e_197, hF⟩ := prf_some hF
                    refine gx_ti e_197 ?_
                    refine lv_iload_n hx hb dX13_scan_316 rfl (lv_at hl 0 rfl) ?_
                    refine lv_if_eq (tgt := 324) hx hb dX13_scan_317 (by decide) (fun c_198 => ?_) (fun c_198 => ?_)
                    · rw [if_pos c_198] at hF
                      refine lv_iconst (v := 1) hx hb dX13_scan_324 (by decide) ?_
                      refine lv_iadd hx hb dX13_scan_325 ?_
                      obtain ⟨u_199, e_200, hF⟩ := pwf_some hF
                      refine mp_45 hC hH e_200 dX13_scan_326 (fun H locs hH => ?_)
                      have hF := prt_eq hF
                      exact mr_v hC hH hr hF dX13_scan_329 hlocks
                    · rw [if_neg c_198] at hF
                      refine lv_iconst (v := 2) hx hb dX13_scan_320 (by decide) ?_
                      refine lv_goto (tgt := 325) hx hb dX13_scan_321 (by decide) ?_
                      refine lv_iadd hx hb dX13_scan_325 ?_
                      obtain ⟨u_201, e_202, hF⟩ := pwf_some hF
                      refine mp_45 hC hH e_202 dX13_scan_326 (fun H locs hH => ?_)
                      have hF := prt_eq hF
                      exact mr_v hC hH hr hF dX13_scan_329 hlocks
                  · rw [if_neg c_193] at hF
                    refine lv_iconst (v := 3) hx hb dX13_scan_303 (by decide) ?_
                    refine lv_goto (tgt := 308) hx hb dX13_scan_304 (by decide) ?_
                    obtain ⟨u_203, e_204, hF⟩ := pwf_some hF
                    refine mp_46 hC hH e_204 dX13_scan_308 (fun H locs hH => ?_)
                    refine lv_aload_n hx hb dX13_scan_311 rfl (lv_at hl 2 rfl) ?_
                    refine lv_dup hx hb dX13_scan_312 rfl ?_
                    refine mg_45 hC hH dX13_scan_313 ?_
                    obtain ⟨x_205, e_206, hF⟩ := prf_some hF
                    refine gx_ti e_206 ?_
                    refine lv_iload_n hx hb dX13_scan_316 rfl (lv_at hl 0 rfl) ?_
                    refine lv_if_eq (tgt := 324) hx hb dX13_scan_317 (by decide) (fun c_207 => ?_) (fun c_207 => ?_)
                    · rw [if_pos c_207] at hF
                      refine lv_iconst (v := 1) hx hb dX13_scan_324 (by decide) ?_
                      refine lv_iadd hx hb dX13_scan_325 ?_
                      obtain ⟨u_208, e_209, hF⟩ := pwf_some hF
                      refine mp_45 hC hH e_209 dX13_scan_326 (fun H locs hH => ?_)
                      have hF := prt_eq hF
                      exact mr_v hC hH hr hF dX13_scan_329 hlocks
                    · rw [if_neg c_207] at hF
                      refine lv_iconst (v := 2) hx hb dX13_scan_320 (by decide) ?_
                      refine lv_goto (tgt := 325) hx hb dX13_scan_321 (by decide) ?_
                      refine lv_iadd hx hb dX13_scan_325 ?_
                      obtain ⟨u_210, e_211, hF⟩ := pwf_some hF
                      refine mp_45 hC hH e_211 dX13_scan_326 (fun H locs hH => ?_)
                      have hF := prt_eq hF
                      exact mr_v hC hH hr hF dX13_scan_329 hlocks
      · rw [if_neg c_47] at hF
        refine lv_aload_n hx hb dX13_scan_155 rfl (lv_at hl 1 rfl) ?_
        refine lv_iconst (v := 0) hx hb dX13_scan_156 (by decide) ?_
        obtain ⟨u_212, e_213, hF⟩ := pwf_some hF
        refine mp_47 hC hH e_213 dX13_scan_157 (fun H locs hH => ?_)
        have hL160 : ∀ (K160_223 : Int32 → PG (Int32)), (∀ (v1 : Int32) (u : GS) (H : Heap) (locs : List Loc) (ls : Array Slot), lv_has ls 3 [(0, .ref (Q 72)), (1, .int v1)] → mH G Q u.1 s H locs → K160_223 v1 u = some ((r, u1)) → W p l e (headSpec (Cond.code yX13_scan cX13_scan 3 none :: wM) { frames := 4, cells := 0, slots := 0, locals := 91 }).room s m [.ref (Q 72)].toArray below meth c H locs 0 0 (MQ below (mQv G Q u1.1 s.heap.size) [.ref (Q 72)].toArray s 0 0 (mA Q s.heap.size)) (F0 m 223 ls [])) → ∀ (n160 : Nat) (v1 : Int32) (u : GS) (H : Heap) (locs : List Loc) (ls : Array Slot), lv_has ls 3 [(0, .ref (Q 72)), (1, .int v1)] → mH G Q u.1 s H locs → lp_scan_160 n160 v1 K160_223 u = some ((r, u1)) → W p l e (headSpec (Cond.code yX13_scan cX13_scan 3 none :: wM) { frames := 4, cells := 0, slots := 0, locals := 91 }).room s m [.ref (Q 72)].toArray below meth c H locs 0 0 (MQ below (mQv G Q u1.1 s.heap.size) [.ref (Q 72)].toArray s 0 0 (mA Q s.heap.size)) (F0 m 160 ls []) := by
          intro K160_223 hK160_223 n160
          induction n160 with
          | zero => intro v1 u H locs ls hl hH hF; cases hF
          | succ n160 ih160 =>
            intro v1 u H locs ls hl hH hF
            unfold lp_scan_160 at hF
            refine lv_aload_n hx hb dX13_scan_160 rfl (lv_at hl 0 rfl) ?_
            refine lv_aload_n hx hb dX13_scan_161 rfl (lv_at hl 0 rfl) ?_
            refine mg_45 hC hH dX13_scan_162 ?_
            obtain ⟨x_214, e_215, hF⟩ := prf_some hF
            refine gx_ti e_215 ?_
            obtain ⟨r_216, u_217, h_218, hF⟩ := pcl_some hF
            refine mcV_i (As := [.int x_214]) (rest := []) hC hH (m_byteAt l G Z Q u u_217 r_216 x_214 _ h_218) kwX13_byteAt kVX13_byteAt ⟨Nat.le_of_ble_eq_true rfl, Nat.le_of_ble_eq_true rfl⟩ rfl hl.1 rfl (Nat.le_of_ble_eq_true rfl) dX13_scan_165 (fun H locs hH => ?_)
            obtain ⟨r_219, u_220, h_221, hF⟩ := pcl_some hF
            refine mcS_i (As := [.int r_216]) (rest := []) hC hH (m_isDigit l G Z Q u_217 u_220 r_219 r_216 _ h_221) kwX13_isDigit kVX13_isDigit ⟨Nat.le_of_ble_eq_true rfl, Nat.le_of_ble_eq_true rfl⟩ rfl hl.1 rfl (Nat.le_of_ble_eq_true rfl) dX13_scan_168 (fun H locs hH => ?_)
            refine lv_if_eq (tgt := 223) hx hb dX13_scan_171 (by decide) (fun c_222 => ?_) (fun c_222 => ?_)
            · rw [if_pos c_222] at hF
              exact hK160_223 v1 u_220 _ _ _ (lv_sub hl [0, 1] rfl) hH hF
            · rw [if_neg c_222] at hF
              refine lv_aload_n hx hb dX13_scan_174 rfl (lv_at hl 0 rfl) ?_
              refine mg_45 hC hH dX13_scan_175 ?_
              obtain ⟨x_223, e_224, hF⟩ := prf_some hF
              refine gx_ti e_224 ?_
              refine lv_aload_n hx hb dX13_scan_178 rfl (lv_at hl 0 rfl) ?_
              refine mg_44 hC hH dX13_scan_179 ?_
              obtain ⟨x_225, e_226, hF⟩ := prf_some hF
              refine gx_ti e_226 ?_
              refine lv_isub hx hb dX13_scan_182 ?_
              refine lv_iconst (v := 4) hx hb dX13_scan_183 (by decide) ?_
              refine lv_icmp_ge (tgt := 210) hx hb dX13_scan_184 (by decide) (fun c_227 => ?_) (fun c_227 => ?_)
              · rw [if_pos c_227] at hF
                refine lv_aload_n hx hb dX13_scan_210 rfl (lv_at hl 0 rfl) ?_
                refine lv_dup hx hb dX13_scan_211 rfl ?_
                refine mg_45 hC hH dX13_scan_212 ?_
                obtain ⟨x_228, e_229, hF⟩ := prf_some hF
                refine gx_ti e_229 ?_
                refine lv_iconst (v := 1) hx hb dX13_scan_215 (by decide) ?_
                refine lv_iadd hx hb dX13_scan_216 ?_
                obtain ⟨u_230, e_231, hF⟩ := pwf_some hF
                refine mp_45 hC hH e_231 dX13_scan_217 (fun H locs hH => ?_)
                refine lv_goto (tgt := 160) hx hb dX13_scan_220 (by decide) ?_
                exact ih160 v1 u_230 _ _ _ (lv_sub hl [0, 1] rfl) hH hF
              · rw [if_neg c_227] at hF
                refine lv_aload_n hx hb dX13_scan_187 rfl (lv_at hl 0 rfl) ?_
                refine lv_bipush (v := 10) hx hb dX13_scan_188 (by decide) ?_
                refine lv_aload_n hx hb dX13_scan_190 rfl (lv_at hl 0 rfl) ?_
                refine mg_47 hC hH dX13_scan_191 ?_
                obtain ⟨x_232, e_233, hF⟩ := prf_some hF
                refine gx_ti e_233 ?_
                refine lv_imul hx hb dX13_scan_194 ?_
                refine lv_aload_n hx hb dX13_scan_195 rfl (lv_at hl 0 rfl) ?_
                refine lv_aload_n hx hb dX13_scan_196 rfl (lv_at hl 0 rfl) ?_
                refine mg_45 hC hH dX13_scan_197 ?_
                obtain ⟨x_234, e_235, hF⟩ := prf_some hF
                refine gx_ti e_235 ?_
                obtain ⟨r_236, u_237, h_238, hF⟩ := pcl_some hF
                refine mcV_i (As := [.int x_234]) (rest := [.int (10 * x_232), .ref (Q 72)]) hC hH (m_byteAt l G Z Q u_220 u_237 r_236 x_234 _ h_238) kwX13_byteAt kVX13_byteAt ⟨Nat.le_of_ble_eq_true rfl, Nat.le_of_ble_eq_true rfl⟩ rfl hl.1 rfl (Nat.le_of_ble_eq_true rfl) dX13_scan_200 (fun H locs hH => ?_)
                refine lv_iadd hx hb dX13_scan_203 ?_
                refine lv_bipush (v := 48) hx hb dX13_scan_204 (by decide) ?_
                refine lv_isub hx hb dX13_scan_206 ?_
                obtain ⟨u_239, e_240, hF⟩ := pwf_some hF
                refine mp_47 hC hH e_240 dX13_scan_207 (fun H locs hH => ?_)
                refine lv_aload_n hx hb dX13_scan_210 rfl (lv_at hl 0 rfl) ?_
                refine lv_dup hx hb dX13_scan_211 rfl ?_
                refine mg_45 hC hH dX13_scan_212 ?_
                obtain ⟨x_241, e_242, hF⟩ := prf_some hF
                refine gx_ti e_242 ?_
                refine lv_iconst (v := 1) hx hb dX13_scan_215 (by decide) ?_
                refine lv_iadd hx hb dX13_scan_216 ?_
                obtain ⟨u_243, e_244, hF⟩ := pwf_some hF
                refine mp_45 hC hH e_244 dX13_scan_217 (fun H locs hH => ?_)
                refine lv_goto (tgt := 160) hx hb dX13_scan_220 (by decide) ?_
                exact ih160 v1 u_243 _ _ _ (lv_sub hl [0, 1] rfl) hH hF
        refine hL160 _ (fun v1 u H locs ls hl hH hF => ?_) fuel r_32 u_212 _ _ _ (lv_sub hl [1, 0] rfl) hH hF
        refine lv_aload_n hx hb dX13_scan_223 rfl (lv_at hl 0 rfl) ?_
        refine lv_aload_n hx hb dX13_scan_224 rfl (lv_at hl 0 rfl) ?_
        refine mg_45 hC hH dX13_scan_225 ?_
        obtain ⟨x_245, e_246, hF⟩ := prf_some hF
        refine gx_ti e_246 ?_
        refine lv_aload_n hx hb dX13_scan_228 rfl (lv_at hl 0 rfl) ?_
        refine mg_44 hC hH dX13_scan_229 ?_
        obtain ⟨x_247, e_248, hF⟩ := prf_some hF
        refine gx_ti e_248 ?_
        refine lv_isub hx hb dX13_scan_232 ?_
        refine lv_iconst (v := 4) hx hb dX13_scan_233 (by decide) ?_
        refine lv_icmp_le (tgt := 241) hx hb dX13_scan_234 (by decide) (fun c_249 => ?_) (fun c_249 => ?_)
        · rw [if_pos c_249] at hF
          refine lv_iconst (v := 2) hx hb dX13_scan_241 (by decide) ?_
          obtain ⟨u_250, e_251, hF⟩ := pwf_some hF
          refine mp_46 hC hH e_251 dX13_scan_242 (fun H locs hH => ?_)
          refine lv_goto (tgt := 329) hx hb dX13_scan_245 (by decide) ?_
          have hF := prt_eq hF
          exact mr_v hC hH hr hF dX13_scan_329 hlocks
        · rw [if_neg c_249] at hF
          refine lv_iconst (v := 4) hx hb dX13_scan_237 (by decide) ?_
          refine lv_goto (tgt := 242) hx hb dX13_scan_238 (by decide) ?_
          obtain ⟨u_252, e_253, hF⟩ := pwf_some hF
          refine mp_46 hC hH e_253 dX13_scan_242 (fun H locs hH => ?_)
          refine lv_goto (tgt := 329) hx hb dX13_scan_245 (by decide) ?_
          have hF := prt_eq hF
          exact mr_v hC hH hr hF dX13_scan_329 hlocks
    · rw [if_neg c_43] at hF
      have hL95 : ∀ (K95_122 : Int32 → PG (Int32)), (∀ (v1 : Int32) (u : GS) (H : Heap) (locs : List Loc) (ls : Array Slot), lv_has ls 3 [(0, .ref (Q 72)), (1, .int v1)] → mH G Q u.1 s H locs → K95_122 v1 u = some ((r, u1)) → W p l e (headSpec (Cond.code yX13_scan cX13_scan 3 none :: wM) { frames := 4, cells := 0, slots := 0, locals := 91 }).room s m [.ref (Q 72)].toArray below meth c H locs 0 0 (MQ below (mQv G Q u1.1 s.heap.size) [.ref (Q 72)].toArray s 0 0 (mA Q s.heap.size)) (F0 m 122 ls [])) → ∀ (n95 : Nat) (v1 : Int32) (u : GS) (H : Heap) (locs : List Loc) (ls : Array Slot), lv_has ls 3 [(0, .ref (Q 72)), (1, .int v1)] → mH G Q u.1 s H locs → lp_scan_95 n95 v1 K95_122 u = some ((r, u1)) → W p l e (headSpec (Cond.code yX13_scan cX13_scan 3 none :: wM) { frames := 4, cells := 0, slots := 0, locals := 91 }).room s m [.ref (Q 72)].toArray below meth c H locs 0 0 (MQ below (mQv G Q u1.1 s.heap.size) [.ref (Q 72)].toArray s 0 0 (mA Q s.heap.size)) (F0 m 95 ls []) := by
        intro K95_122 hK95_122 n95
        induction n95 with
        | zero => intro v1 u H locs ls hl hH hF; cases hF
        | succ n95 ih95 =>
          intro v1 u H locs ls hl hH hF
          unfold lp_scan_95 at hF
          refine lv_aload_n hx hb dX13_scan_95 rfl (lv_at hl 0 rfl) ?_
          refine lv_aload_n hx hb dX13_scan_96 rfl (lv_at hl 0 rfl) ?_
          refine mg_45 hC hH dX13_scan_97 ?_
          obtain ⟨x_254, e_255, hF⟩ := prf_some hF
          refine gx_ti e_255 ?_
          obtain ⟨r_256, u_257, h_258, hF⟩ := pcl_some hF
          refine mcV_i (As := [.int x_254]) (rest := []) hC hH (m_byteAt l G Z Q u u_257 r_256 x_254 _ h_258) kwX13_byteAt kVX13_byteAt ⟨Nat.le_of_ble_eq_true rfl, Nat.le_of_ble_eq_true rfl⟩ rfl hl.1 rfl (Nat.le_of_ble_eq_true rfl) dX13_scan_100 (fun H locs hH => ?_)
          obtain ⟨r_259, u_260, h_261, hF⟩ := pcl_some hF
          refine mcS_i (As := [.int r_256]) (rest := []) hC hH (m_isLetter l G Z Q u_257 u_260 r_259 r_256 _ h_261) kwX13_isLetter kVX13_isLetter ⟨Nat.le_of_ble_eq_true rfl, Nat.le_of_ble_eq_true rfl⟩ rfl hl.1 rfl (Nat.le_of_ble_eq_true rfl) dX13_scan_103 (fun H locs hH => ?_)
          refine lv_if_eq (tgt := 122) hx hb dX13_scan_106 (by decide) (fun c_262 => ?_) (fun c_262 => ?_)
          · rw [if_pos c_262] at hF
            exact hK95_122 v1 u_260 _ _ _ (lv_sub hl [0, 1] rfl) hH hF
          · rw [if_neg c_262] at hF
            refine lv_aload_n hx hb dX13_scan_109 rfl (lv_at hl 0 rfl) ?_
            refine lv_dup hx hb dX13_scan_110 rfl ?_
            refine mg_45 hC hH dX13_scan_111 ?_
            obtain ⟨x_263, e_264, hF⟩ := prf_some hF
            refine gx_ti e_264 ?_
            refine lv_iconst (v := 1) hx hb dX13_scan_114 (by decide) ?_
            refine lv_iadd hx hb dX13_scan_115 ?_
            obtain ⟨u_265, e_266, hF⟩ := pwf_some hF
            refine mp_45 hC hH e_266 dX13_scan_116 (fun H locs hH => ?_)
            refine lv_goto (tgt := 95) hx hb dX13_scan_119 (by decide) ?_
            exact ih95 v1 u_265 _ _ _ (lv_sub hl [0, 1] rfl) hH hF
      refine hL95 _ (fun v1 u H locs ls hl hH hF => ?_) fuel r_32 u_41 _ _ _ (lv_sub hl [1, 0] rfl) hH hF
      refine lv_aload_n hx hb dX13_scan_122 rfl (lv_at hl 0 rfl) ?_
      refine lv_aload_n hx hb dX13_scan_123 rfl (lv_at hl 0 rfl) ?_
      refine mg_45 hC hH dX13_scan_124 ?_
      obtain ⟨x_267, e_268, hF⟩ := prf_some hF
      refine gx_ti e_268 ?_
      refine lv_aload_n hx hb dX13_scan_127 rfl (lv_at hl 0 rfl) ?_
      refine mg_44 hC hH dX13_scan_128 ?_
      obtain ⟨x_269, e_270, hF⟩ := prf_some hF
      refine gx_ti e_270 ?_
      refine lv_isub hx hb dX13_scan_131 ?_
      refine lv_bipush (v := 10) hx hb dX13_scan_132 (by decide) ?_
      refine lv_icmp_le (tgt := 141) hx hb dX13_scan_134 (by decide) (fun c_271 => ?_) (fun c_271 => ?_)
      · rw [if_pos c_271] at hF
        refine lv_iconst (v := 1) hx hb dX13_scan_141 (by decide) ?_
        obtain ⟨u_272, e_273, hF⟩ := pwf_some hF
        refine mp_46 hC hH e_273 dX13_scan_142 (fun H locs hH => ?_)
        refine lv_goto (tgt := 329) hx hb dX13_scan_145 (by decide) ?_
        have hF := prt_eq hF
        exact mr_v hC hH hr hF dX13_scan_329 hlocks
      · rw [if_neg c_271] at hF
        refine lv_iconst (v := 4) hx hb dX13_scan_137 (by decide) ?_
        refine lv_goto (tgt := 142) hx hb dX13_scan_138 (by decide) ?_
        obtain ⟨u_274, e_275, hF⟩ := pwf_some hF
        refine mp_46 hC hH e_275 dX13_scan_142 (fun H locs hH => ?_)
        refine lv_goto (tgt := 329) hx hb dX13_scan_145 (by decide) ?_
        have hF := prt_eq hF
        exact mr_v hC hH hr hF dX13_scan_329 hlocks
  · rw [if_pos c_39] at hF
    refine lv_aload_n hx hb dX13_scan_80 rfl (lv_at hl 1 rfl) ?_
    refine lv_iconst (v := 0) hx hb dX13_scan_81 (by decide) ?_
    obtain ⟨u_276, e_277, hF⟩ := pwf_some hF
    refine mp_46 hC hH e_277 dX13_scan_82 (fun H locs hH => ?_)
    refine lv_goto (tgt := 329) hx hb dX13_scan_85 (by decide) ?_
    have hF := prt_eq hF
    exact mr_v hC hH hr hF dX13_scan_329 hlocks
def lp_isText_24 (a0 : Nat) : Nat → Int32 → Int32 → (Int32 → Int32 → PG (Int32)) → PG (Int32)
  | 0, _, _, _ => fun _ => none
  | n24 + 1, v2, v3, K24_67 => poi (fj_len a0) (fun r_8 => (if r_8 ≤ v3 then K24_67 v2 v3 else (if v2 = 0 then K24_67 v2 v3 else prf 44 (fun x_12 => psr (x_12 + v3) (fun x_14 => poi (fj_charAt a0 v3) (fun r_17 => (if x_14 = r_17 then pli (v3 + 1) (fun x_22 => lp_isText_24 a0 n24 1 x_22 K24_67) else pli (v3 + 1) (fun x_20 => lp_isText_24 a0 n24 0 x_20 K24_67))))))))
def f_isText (a0 : Nat) : PG (Int32) := prf 45 (fun x_1 => prf 44 (fun x_3 => poi (fj_len a0) (fun r_5 => (if (x_1 - x_3) = r_5 then lp_isText_24 a0 fuel 1 0 (fun v2 v3 => pog (gb v2) (prt v2)) else lp_isText_24 a0 fuel 0 0 (fun v2 v3 => pog (gb v2) (prt v2))))))
set_option maxHeartbeats 4000000 in
set_option maxRecDepth 100000 in
theorem m_isText (l : Launch) (G : gG) (Z : gM) (Q : Nat → Nat) (u u1 : GS) (r : Int32) (a0 : Nat) (sz : Nat) (hF : f_isText a0 u = some (r, u1)) (hs_a0 : a0 < 38) : Met l yX13_isText (Cond.code yX13_isText cX13_isText 4 (some .boolean) :: wM) { frames := 4, cells := 0, slots := 0, locals := 85 } (va_Pc [.ref (Q 72), .ref (Z.1 a0)] (mPM G Z Q u.1 sz)) (mQi G Q u1.1 r sz) 0 0 (mA Q sz) := by
  refine Met.ofW (cc := cX13_isText) (maxL := 4) (ret := (some .boolean)) (by decide) rfl ?_
  intro p e s m args below meth c s₁ B hml hv
  obtain ⟨rfl, rfl, hP, hB, hD, hE⟩ := hv
  have hr := B.returns
  have hlocks := B.notSynchronized
  have hts := atoms_spec (ws := Cond.code yX13_isText cX13_isText 4 (some .boolean) :: wM) B.pre
  have hC : mX p c cX13_isText 4 s m _ G Z Q := ⟨B.exec, B.bytes, hml, findClass_of_methodNamed B.named, fun w h => hts w (List.mem_cons_of_mem _ h), hB, hE⟩
  have hx := hC.1
  have hb := hC.2.1
  have hH : mH G Q u.1 s s.heap [] := ⟨hP, hD, va_S.rf⟩
  have hl := lv_entry ([.ref (Q 72), .ref (Z.1 a0)]) (n := 4) (Nat.le_of_ble_eq_true rfl)
  rw [lg_entry_eq]
  generalize (lg_sl ([.ref (Q 72), .ref (Z.1 a0)]) ++ List.replicate (4 - (lg_sl ([.ref (Q 72), .ref (Z.1 a0)])).length) Slot.unset).toArray = ls at hl ⊢
  have hl : lv_has ls 4 [(0, .ref (Q 72)), (1, .ref (Z.1 a0))] := hl
  unfold f_isText at hF
  refine lv_aload_n hx hb dX13_isText_0 rfl (lv_at hl 0 rfl) ?_
  refine mg_45 hC hH dX13_isText_1 ?_
  obtain ⟨x_1, e_2, hF⟩ := prf_some hF
  refine gx_ti e_2 ?_
  refine lv_aload_n hx hb dX13_isText_4 rfl (lv_at hl 0 rfl) ?_
  refine mg_44 hC hH dX13_isText_5 ?_
  obtain ⟨x_3, e_4, hF⟩ := prf_some hF
  refine gx_ti e_4 ?_
  refine lv_isub hx hb dX13_isText_8 ?_
  refine lv_aload_n hx hb dX13_isText_9 rfl (lv_at hl 1 rfl) ?_
  obtain ⟨r_5, h_6, hF⟩ := poi_some hF
  refine mcJ (As := []) (rest := [.int (x_1 - x_3)]) hC hH hs_a0 (j_len l Z (mA Q s.heap.size) a0 r_5 hs_a0 h_6) ⟨wj37, wma88, wj39, wj40, wj7⟩ kVJ0_length_8abf5 ⟨Nat.le_of_ble_eq_true rfl, Nat.le_of_ble_eq_true rfl⟩ rfl hl.1 rfl (Nat.le_of_ble_eq_true rfl) dX13_isText_10 ?_
  refine lv_icmp_ne (tgt := 20) hx hb dX13_isText_13 (by decide) (fun c_7 => ?_) (fun c_7 => ?_)
  · rw [if_neg c_7] at hF
    refine lv_iconst (v := 0) hx hb dX13_isText_20 (by decide) ?_
    refine lv_istore_n (lv' := [(2, .int 0), (0, .ref (Q 72)), (1, .ref (Z.1 a0))]) hx hb dX13_isText_21 rfl hl (by decide) rfl (fun ls hl => ?_)
    refine lv_iconst (v := 0) hx hb dX13_isText_22 (by decide) ?_
    refine lv_istore_n (lv' := [(3, .int 0), (2, .int 0), (0, .ref (Q 72)), (1, .ref (Z.1 a0))]) hx hb dX13_isText_23 rfl hl (by decide) rfl (fun ls hl => ?_)
    have hL24 : ∀ (K24_67 : Int32 → Int32 → PG (Int32)), (∀ (v2 v3 : Int32) (u : GS) (H : Heap) (locs : List Loc) (ls : Array Slot), lv_has ls 4 [(0, .ref (Q 72)), (1, .ref (Z.1 a0)), (2, .int v2), (3, .int v3)] → mH G Q u.1 s H locs → K24_67 v2 v3 u = some ((r, u1)) → W p l e (headSpec (Cond.code yX13_isText cX13_isText 4 (some .boolean) :: wM) { frames := 4, cells := 0, slots := 0, locals := 85 }).room s m [.ref (Q 72), .ref (Z.1 a0)].toArray below meth c H locs 0 0 (MQ below (mQi G Q u1.1 r s.heap.size) [.ref (Q 72), .ref (Z.1 a0)].toArray s 0 0 (mA Q s.heap.size)) (F0 m 67 ls [])) → ∀ (n24 : Nat) (v2 v3 : Int32) (u : GS) (H : Heap) (locs : List Loc) (ls : Array Slot), lv_has ls 4 [(0, .ref (Q 72)), (1, .ref (Z.1 a0)), (2, .int v2), (3, .int v3)] → mH G Q u.1 s H locs → lp_isText_24 a0 n24 v2 v3 K24_67 u = some ((r, u1)) → W p l e (headSpec (Cond.code yX13_isText cX13_isText 4 (some .boolean) :: wM) { frames := 4, cells := 0, slots := 0, locals := 85 }).room s m [.ref (Q 72), .ref (Z.1 a0)].toArray below meth c H locs 0 0 (MQ below (mQi G Q u1.1 r s.heap.size) [.ref (Q 72), .ref (Z.1 a0)].toArray s 0 0 (mA Q s.heap.size)) (F0 m 24 ls []) := by
      intro K24_67 hK24_67 n24
      induction n24 with
      | zero => intro v2 v3 u H locs ls hl hH hF; cases hF
      | succ n24 ih24 =>
        intro v2 v3 u H locs ls hl hH hF
        unfold lp_isText_24 at hF
        refine lv_iload_n hx hb dX13_isText_24 rfl (lv_at hl 3 rfl) ?_
        refine lv_aload_n hx hb dX13_isText_25 rfl (lv_at hl 1 rfl) ?_
        obtain ⟨r_8, h_9, hF⟩ := poi_some hF
        refine mcJ (As := []) (rest := [.int v3]) hC hH hs_a0 (j_len l Z (mA Q s.heap.size) a0 r_8 hs_a0 h_9) ⟨wj37, wma88, wj39, wj40, wj7⟩ kVJ0_length_8abf5 ⟨Nat.le_of_ble_eq_true rfl, Nat.le_of_ble_eq_true rfl⟩ rfl hl.1 rfl (Nat.le_of_ble_eq_true rfl) dX13_isText_26 ?_
        refine lv_icmp_ge (tgt := 67) hx hb dX13_isText_29 (by decide) (fun c_10 => ?_) (fun c_10 => ?_)
        · rw [if_pos c_10] at hF
          exact hK24_67 v2 v3 u _ _ _ (lv_sub hl [0, 1, 2, 3] rfl) hH hF
        · rw [if_neg c_10] at hF
          refine lv_iload_n hx hb dX13_isText_32 rfl (lv_at hl 2 rfl) ?_
          refine lv_if_eq (tgt := 67) hx hb dX13_isText_33 (by decide) (fun c_11 => ?_) (fun c_11 => ?_)
          · rw [if_pos c_11] at hF
            exact hK24_67 v2 v3 u _ _ _ (lv_sub hl [0, 1, 2, 3] rfl) hH hF
          · rw [if_neg c_11] at hF
            refine lv_aload_n hx hb dX13_isText_36 rfl (lv_at hl 0 rfl) ?_
            refine mg_41 hC hH dX13_isText_37 ?_
            refine lv_aload_n hx hb dX13_isText_40 rfl (lv_at hl 0 rfl) ?_
            refine mg_44 hC hH dX13_isText_41 ?_
            obtain ⟨x_12, e_13, hF⟩ := prf_some hF
            refine gx_ti e_13 ?_
            refine lv_iload_n hx hb dX13_isText_44 rfl (lv_at hl 3 rfl) ?_
            refine lv_iadd hx hb dX13_isText_45 ?_
            obtain ⟨x_14, g_15, e_16, hF⟩ := psr_some hF
            refine ml_src hC hH g_15 dX13_isText_46 ?_
            refine gx_ti e_16 ?_
            refine lv_aload_n hx hb dX13_isText_47 rfl (lv_at hl 1 rfl) ?_
            refine lv_iload_n hx hb dX13_isText_48 rfl (lv_at hl 3 rfl) ?_
            obtain ⟨r_17, h_18, hF⟩ := poi_some hF
            refine mcJ (As := [.int v3]) (rest := [.int x_14]) hC hH hs_a0 (j_charAt l Z (mA Q s.heap.size) a0 v3 r_17 hs_a0 h_18) ⟨wj48, wma89, wj50, wj51, wj7⟩ kVJ0_charAt_5068e ⟨Nat.le_of_ble_eq_true rfl, Nat.le_of_ble_eq_true rfl⟩ rfl hl.1 rfl (Nat.le_of_ble_eq_true rfl) dX13_isText_49 ?_
            refine lv_icmp_ne (tgt := 59) hx hb dX13_isText_52 (by decide) (fun c_19 => ?_) (fun c_19 => ?_)
            · rw [if_neg c_19] at hF
              refine lv_iconst (v := 0) hx hb dX13_isText_59 (by decide) ?_
              refine lv_istore_n (lv' := [(2, .int 0), (0, .ref (Q 72)), (1, .ref (Z.1 a0)), (3, .int v3)]) hx hb dX13_isText_60 rfl hl (by decide) rfl (fun ls hl => ?_)
              obtain ⟨x_20, e_21, hF⟩ := pli_some hF
              refine lv_iinc (v := x_20) (lv' := [(3, .int x_20), (2, .int 0), (0, .ref (Q 72)), (1, .ref (Z.1 a0))]) hx hb dX13_isText_61 hl (k := 3) rfl e_21 (by decide) rfl (fun ls hl => ?_)
              refine lv_goto (tgt := 24) hx hb dX13_isText_64 (by decide) ?_
              exact ih24 0 x_20 u _ _ _ (lv_sub hl [2, 3, 1, 0] rfl) hH hF
            · rw [if_pos c_19] at hF
              refine lv_iconst (v := 1) hx hb dX13_isText_55 (by decide) ?_
              refine lv_goto (tgt := 60) hx hb dX13_isText_56 (by decide) ?_
              refine lv_istore_n (lv' := [(2, .int 1), (0, .ref (Q 72)), (1, .ref (Z.1 a0)), (3, .int v3)]) hx hb dX13_isText_60 rfl hl (by decide) rfl (fun ls hl => ?_)
              obtain ⟨x_22, e_23, hF⟩ := pli_some hF
              refine lv_iinc (v := x_22) (lv' := [(3, .int x_22), (2, .int 1), (0, .ref (Q 72)), (1, .ref (Z.1 a0))]) hx hb dX13_isText_61 hl (k := 3) rfl e_23 (by decide) rfl (fun ls hl => ?_)
              refine lv_goto (tgt := 24) hx hb dX13_isText_64 (by decide) ?_
              exact ih24 1 x_22 u _ _ _ (lv_sub hl [2, 3, 1, 0] rfl) hH hF
    refine hL24 _ (fun v2 v3 u H locs ls hl hH hF => ?_) fuel 0 0 u _ _ _ (lv_sub hl [2, 3, 1, 0] rfl) hH hF
    refine lv_iload_n hx hb dX13_isText_67 rfl (lv_at hl 2 rfl) ?_
    obtain ⟨g_24, hF⟩ := pog_some hF
    have hF := prt_eq hF
    exact mr_z hC hH hr g_24 hF dX13_isText_68 hlocks
  · rw [if_pos c_7] at hF
    refine lv_iconst (v := 1) hx hb dX13_isText_16 (by decide) ?_
    refine lv_goto (tgt := 21) hx hb dX13_isText_17 (by decide) ?_
    refine lv_istore_n (lv' := [(2, .int 1), (0, .ref (Q 72)), (1, .ref (Z.1 a0))]) hx hb dX13_isText_21 rfl hl (by decide) rfl (fun ls hl => ?_)
    refine lv_iconst (v := 0) hx hb dX13_isText_22 (by decide) ?_
    refine lv_istore_n (lv' := [(3, .int 0), (2, .int 1), (0, .ref (Q 72)), (1, .ref (Z.1 a0))]) hx hb dX13_isText_23 rfl hl (by decide) rfl (fun ls hl => ?_)
    have hL24 : ∀ (K24_67 : Int32 → Int32 → PG (Int32)), (∀ (v2 v3 : Int32) (u : GS) (H : Heap) (locs : List Loc) (ls : Array Slot), lv_has ls 4 [(0, .ref (Q 72)), (1, .ref (Z.1 a0)), (2, .int v2), (3, .int v3)] → mH G Q u.1 s H locs → K24_67 v2 v3 u = some ((r, u1)) → W p l e (headSpec (Cond.code yX13_isText cX13_isText 4 (some .boolean) :: wM) { frames := 4, cells := 0, slots := 0, locals := 85 }).room s m [.ref (Q 72), .ref (Z.1 a0)].toArray below meth c H locs 0 0 (MQ below (mQi G Q u1.1 r s.heap.size) [.ref (Q 72), .ref (Z.1 a0)].toArray s 0 0 (mA Q s.heap.size)) (F0 m 67 ls [])) → ∀ (n24 : Nat) (v2 v3 : Int32) (u : GS) (H : Heap) (locs : List Loc) (ls : Array Slot), lv_has ls 4 [(0, .ref (Q 72)), (1, .ref (Z.1 a0)), (2, .int v2), (3, .int v3)] → mH G Q u.1 s H locs → lp_isText_24 a0 n24 v2 v3 K24_67 u = some ((r, u1)) → W p l e (headSpec (Cond.code yX13_isText cX13_isText 4 (some .boolean) :: wM) { frames := 4, cells := 0, slots := 0, locals := 85 }).room s m [.ref (Q 72), .ref (Z.1 a0)].toArray below meth c H locs 0 0 (MQ below (mQi G Q u1.1 r s.heap.size) [.ref (Q 72), .ref (Z.1 a0)].toArray s 0 0 (mA Q s.heap.size)) (F0 m 24 ls []) := by
      intro K24_67 hK24_67 n24
      induction n24 with
      | zero => intro v2 v3 u H locs ls hl hH hF; cases hF
      | succ n24 ih24 =>
        intro v2 v3 u H locs ls hl hH hF
        unfold lp_isText_24 at hF
        refine lv_iload_n hx hb dX13_isText_24 rfl (lv_at hl 3 rfl) ?_
        refine lv_aload_n hx hb dX13_isText_25 rfl (lv_at hl 1 rfl) ?_
        obtain ⟨r_25, h_26, hF⟩ := poi_some hF
        refine mcJ (As := []) (rest := [.int v3]) hC hH hs_a0 (j_len l Z (mA Q s.heap.size) a0 r_25 hs_a0 h_26) ⟨wj37, wma88, wj39, wj40, wj7⟩ kVJ0_length_8abf5 ⟨Nat.le_of_ble_eq_true rfl, Nat.le_of_ble_eq_true rfl⟩ rfl hl.1 rfl (Nat.le_of_ble_eq_true rfl) dX13_isText_26 ?_
        refine lv_icmp_ge (tgt := 67) hx hb dX13_isText_29 (by decide) (fun c_27 => ?_) (fun c_27 => ?_)
        · rw [if_pos c_27] at hF
          exact hK24_67 v2 v3 u _ _ _ (lv_sub hl [0, 1, 2, 3] rfl) hH hF
        · rw [if_neg c_27] at hF
          refine lv_iload_n hx hb dX13_isText_32 rfl (lv_at hl 2 rfl) ?_
          refine lv_if_eq (tgt := 67) hx hb dX13_isText_33 (by decide) (fun c_28 => ?_) (fun c_28 => ?_)
          · rw [if_pos c_28] at hF
            exact hK24_67 v2 v3 u _ _ _ (lv_sub hl [0, 1, 2, 3] rfl) hH hF
          · rw [if_neg c_28] at hF
            refine lv_aload_n hx hb dX13_isText_36 rfl (lv_at hl 0 rfl) ?_
            refine mg_41 hC hH dX13_isText_37 ?_
            refine lv_aload_n hx hb dX13_isText_40 rfl (lv_at hl 0 rfl) ?_
            refine mg_44 hC hH dX13_isText_41 ?_
            obtain ⟨x_29, e_30, hF⟩ := prf_some hF
            refine gx_ti e_30 ?_
            refine lv_iload_n hx hb dX13_isText_44 rfl (lv_at hl 3 rfl) ?_
            refine lv_iadd hx hb dX13_isText_45 ?_
            obtain ⟨x_31, g_32, e_33, hF⟩ := psr_some hF
            refine ml_src hC hH g_32 dX13_isText_46 ?_
            refine gx_ti e_33 ?_
            refine lv_aload_n hx hb dX13_isText_47 rfl (lv_at hl 1 rfl) ?_
            refine lv_iload_n hx hb dX13_isText_48 rfl (lv_at hl 3 rfl) ?_
            obtain ⟨r_34, h_35, hF⟩ := poi_some hF
            refine mcJ (As := [.int v3]) (rest := [.int x_31]) hC hH hs_a0 (j_charAt l Z (mA Q s.heap.size) a0 v3 r_34 hs_a0 h_35) ⟨wj48, wma89, wj50, wj51, wj7⟩ kVJ0_charAt_5068e ⟨Nat.le_of_ble_eq_true rfl, Nat.le_of_ble_eq_true rfl⟩ rfl hl.1 rfl (Nat.le_of_ble_eq_true rfl) dX13_isText_49 ?_
            refine lv_icmp_ne (tgt := 59) hx hb dX13_isText_52 (by decide) (fun c_36 => ?_) (fun c_36 => ?_)
            · rw [if_neg c_36] at hF
              refine lv_iconst (v := 0) hx hb dX13_isText_59 (by decide) ?_
              refine lv_istore_n (lv' := [(2, .int 0), (0, .ref (Q 72)), (1, .ref (Z.1 a0)), (3, .int v3)]) hx hb dX13_isText_60 rfl hl (by decide) rfl (fun ls hl => ?_)
              obtain ⟨x_37, e_38, hF⟩ := pli_some hF
              refine lv_iinc (v := x_37) (lv' := [(3, .int x_37), (2, .int 0), (0, .ref (Q 72)), (1, .ref (Z.1 a0))]) hx hb dX13_isText_61 hl (k := 3) rfl e_38 (by decide) rfl (fun ls hl => ?_)
              refine lv_goto (tgt := 24) hx hb dX13_isText_64 (by decide) ?_
              exact ih24 0 x_37 u _ _ _ (lv_sub hl [2, 3, 1, 0] rfl) hH hF
            · rw [if_pos c_36] at hF
              refine lv_iconst (v := 1) hx hb dX13_isText_55 (by decide) ?_
              refine lv_goto (tgt := 60) hx hb dX13_isText_56 (by decide) ?_
              refine lv_istore_n (lv' := [(2, .int 1), (0, .ref (Q 72)), (1, .ref (Z.1 a0)), (3, .int v3)]) hx hb dX13_isText_60 rfl hl (by decide) rfl (fun ls hl => ?_)
              obtain ⟨x_39, e_40, hF⟩ := pli_some hF
              refine lv_iinc (v := x_39) (lv' := [(3, .int x_39), (2, .int 1), (0, .ref (Q 72)), (1, .ref (Z.1 a0))]) hx hb dX13_isText_61 hl (k := 3) rfl e_40 (by decide) rfl (fun ls hl => ?_)
              refine lv_goto (tgt := 24) hx hb dX13_isText_64 (by decide) ?_
              exact ih24 1 x_39 u _ _ _ (lv_sub hl [2, 3, 1, 0] rfl) hH hF
    refine hL24 _ (fun v2 v3 u H locs ls hl hH hF => ?_) fuel 1 0 u _ _ _ (lv_sub hl [2, 3, 1, 0] rfl) hH hF
    refine lv_iload_n hx hb dX13_isText_67 rfl (lv_at hl 2 rfl) ?_
    obtain ⟨g_41, hF⟩ := pog_some hF
    have hF := prt_eq hF
    exact mr_z hC hH hr g_41 hF dX13_isText_68 hlocks
def f_is (a0 : Nat) : PG (Int32) := prf 46 (fun x_1 => (if x_1 = 1 then pcl (f_isText a0) (fun r_4 => (if r_4 = 0 then prt 0 else prt 1)) else prf 46 (fun x_8 => (if x_8 = 3 then pcl (f_isText a0) (fun r_11 => (if r_11 = 0 then prt 0 else prt 1)) else prt 0))))
set_option maxHeartbeats 4000000 in
set_option maxRecDepth 100000 in
theorem m_is (l : Launch) (G : gG) (Z : gM) (Q : Nat → Nat) (u u1 : GS) (r : Int32) (a0 : Nat) (sz : Nat) (hF : f_is a0 u = some (r, u1)) (hs_a0 : a0 < 38) : Met l yX13_is (Cond.code yX13_is cX13_is 2 (some .boolean) :: wM) { frames := 5, cells := 0, slots := 0, locals := 108 } (va_Pc [.ref (Q 72), .ref (Z.1 a0)] (mPM G Z Q u.1 sz)) (mQi G Q u1.1 r sz) 0 0 (mA Q sz) := by
  refine Met.ofW (cc := cX13_is) (maxL := 2) (ret := (some .boolean)) (by decide) rfl ?_
  intro p e s m args below meth c s₁ B hml hv
  obtain ⟨rfl, rfl, hP, hB, hD, hE⟩ := hv
  have hr := B.returns
  have hlocks := B.notSynchronized
  have hts := atoms_spec (ws := Cond.code yX13_is cX13_is 2 (some .boolean) :: wM) B.pre
  have hC : mX p c cX13_is 2 s m _ G Z Q := ⟨B.exec, B.bytes, hml, findClass_of_methodNamed B.named, fun w h => hts w (List.mem_cons_of_mem _ h), hB, hE⟩
  have hx := hC.1
  have hb := hC.2.1
  have hH : mH G Q u.1 s s.heap [] := ⟨hP, hD, va_S.rf⟩
  have hl := lv_entry ([.ref (Q 72), .ref (Z.1 a0)]) (n := 2) (Nat.le_of_ble_eq_true rfl)
  rw [lg_entry_eq]
  generalize (lg_sl ([.ref (Q 72), .ref (Z.1 a0)]) ++ List.replicate (2 - (lg_sl ([.ref (Q 72), .ref (Z.1 a0)])).length) Slot.unset).toArray = ls at hl ⊢
  have hl : lv_has ls 2 [(0, .ref (Q 72)), (1, .ref (Z.1 a0))] := hl
  unfold f_is at hF
  refine lv_aload_n hx hb dX13_is_0 rfl (lv_at hl 0 rfl) ?_
  refine mg_46 hC hH dX13_is_1 ?_
  obtain ⟨x_1, e_2, hF⟩ := prf_some hF
  refine gx_ti e_2 ?_
  refine lv_iconst (v := 1) hx hb dX13_is_4 (by decide) ?_
  refine lv_icmp_eq (tgt := 16) hx hb dX13_is_5 (by decide) (fun c_3 => ?_) (fun c_3 => ?_)
  · rw [if_pos c_3] at hF
    refine lv_aload_n hx hb dX13_is_16 rfl (lv_at hl 0 rfl) ?_
    refine lv_aload_n hx hb dX13_is_17 rfl (lv_at hl 1 rfl) ?_
    obtain ⟨r_4, u_5, h_6, hF⟩ := pcl_some hF
    refine mcV_i (As := [.ref (Z.1 a0)]) (rest := []) hC hH (m_isText l G Z Q u u_5 r_4 a0 _ h_6 (by exact hs_a0)) kwX13_isText kVX13_isText ⟨Nat.le_of_ble_eq_true rfl, Nat.le_of_ble_eq_true rfl⟩ rfl hl.1 rfl (Nat.le_of_ble_eq_true rfl) dX13_is_18 (fun H locs hH => ?_)
    refine lv_if_eq (tgt := 28) hx hb dX13_is_21 (by decide) (fun c_7 => ?_) (fun c_7 => ?_)
    · rw [if_pos c_7] at hF
      refine lv_iconst (v := 0) hx hb dX13_is_28 (by decide) ?_
      have hF := prt_eq hF
      exact mr_z hC hH hr rfl hF dX13_is_29 hlocks
    · rw [if_neg c_7] at hF
      refine lv_iconst (v := 1) hx hb dX13_is_24 (by decide) ?_
      refine lv_goto (tgt := 29) hx hb dX13_is_25 (by decide) ?_
      have hF := prt_eq hF
      exact mr_z hC hH hr rfl hF dX13_is_29 hlocks
  · rw [if_neg c_3] at hF
    refine lv_aload_n hx hb dX13_is_8 rfl (lv_at hl 0 rfl) ?_
    refine mg_46 hC hH dX13_is_9 ?_
    obtain ⟨x_8, e_9, hF⟩ := prf_some hF
    refine gx_ti e_9 ?_
    refine lv_iconst (v := 3) hx hb dX13_is_12 (by decide) ?_
    refine lv_icmp_ne (tgt := 28) hx hb dX13_is_13 (by decide) (fun c_10 => ?_) (fun c_10 => ?_)
    · rw [if_neg c_10] at hF
      refine lv_iconst (v := 0) hx hb dX13_is_28 (by decide) ?_
      have hF := prt_eq hF
      exact mr_z hC hH hr rfl hF dX13_is_29 hlocks
    · rw [if_pos c_10] at hF
      refine lv_aload_n hx hb dX13_is_16 rfl (lv_at hl 0 rfl) ?_
      refine lv_aload_n hx hb dX13_is_17 rfl (lv_at hl 1 rfl) ?_
      obtain ⟨r_11, u_12, h_13, hF⟩ := pcl_some hF
      refine mcV_i (As := [.ref (Z.1 a0)]) (rest := []) hC hH (m_isText l G Z Q u u_12 r_11 a0 _ h_13 (by exact hs_a0)) kwX13_isText kVX13_isText ⟨Nat.le_of_ble_eq_true rfl, Nat.le_of_ble_eq_true rfl⟩ rfl hl.1 rfl (Nat.le_of_ble_eq_true rfl) dX13_is_18 (fun H locs hH => ?_)
      refine lv_if_eq (tgt := 28) hx hb dX13_is_21 (by decide) (fun c_14 => ?_) (fun c_14 => ?_)
      · rw [if_pos c_14] at hF
        refine lv_iconst (v := 0) hx hb dX13_is_28 (by decide) ?_
        have hF := prt_eq hF
        exact mr_z hC hH hr rfl hF dX13_is_29 hlocks
      · rw [if_neg c_14] at hF
        refine lv_iconst (v := 1) hx hb dX13_is_24 (by decide) ?_
        refine lv_goto (tgt := 29) hx hb dX13_is_25 (by decide) ?_
        have hF := prt_eq hF
        exact mr_z hC hH hr rfl hF dX13_is_29 hlocks
def f_need (a0 : Nat) : PG (Option Int32) := pcl (f_is a0) (fun r_1 => (if r_1 = 0 then prf 44 (fun x_8 => pcl (f_wrong 1 x_8) (fun r_10 => prt none)) else pcl (f_scan) (fun r_5 => prt (some 0))))
set_option maxHeartbeats 4000000 in
set_option maxRecDepth 100000 in
theorem m_need (l : Launch) (G : gG) (Z : gM) (Q : Nat → Nat) (u u1 : GS) (r : Int32) (a0 : Nat) (sz : Nat) (hF : f_need a0 u = some (some r, u1)) (hs_a0 : a0 < 38) : Met l yX13_need (Cond.code yX13_need cX13_need 2 none :: wM) { frames := 6, cells := 0, slots := 0, locals := 129 } (va_Pc [.ref (Q 72), .ref (Z.1 a0)] (mPM G Z Q u.1 sz)) (mQv G Q u1.1 sz) 0 0 (mA Q sz) := by
  refine Met.ofW (cc := cX13_need) (maxL := 2) (ret := none) (by decide) rfl ?_
  intro p e s m args below meth c s₁ B hml hv
  obtain ⟨rfl, rfl, hP, hB, hD, hE⟩ := hv
  have hr := B.returns
  have hlocks := B.notSynchronized
  have hts := atoms_spec (ws := Cond.code yX13_need cX13_need 2 none :: wM) B.pre
  have hC : mX p c cX13_need 2 s m _ G Z Q := ⟨B.exec, B.bytes, hml, findClass_of_methodNamed B.named, fun w h => hts w (List.mem_cons_of_mem _ h), hB, hE⟩
  have hx := hC.1
  have hb := hC.2.1
  have hH : mH G Q u.1 s s.heap [] := ⟨hP, hD, va_S.rf⟩
  have hl := lv_entry ([.ref (Q 72), .ref (Z.1 a0)]) (n := 2) (Nat.le_of_ble_eq_true rfl)
  rw [lg_entry_eq]
  generalize (lg_sl ([.ref (Q 72), .ref (Z.1 a0)]) ++ List.replicate (2 - (lg_sl ([.ref (Q 72), .ref (Z.1 a0)])).length) Slot.unset).toArray = ls at hl ⊢
  have hl : lv_has ls 2 [(0, .ref (Q 72)), (1, .ref (Z.1 a0))] := hl
  unfold f_need at hF
  refine lv_aload_n hx hb dX13_need_0 rfl (lv_at hl 0 rfl) ?_
  refine lv_aload_n hx hb dX13_need_1 rfl (lv_at hl 1 rfl) ?_
  obtain ⟨r_1, u_2, h_3, hF⟩ := pcl_some hF
  refine mcV_i (As := [.ref (Z.1 a0)]) (rest := []) hC hH (m_is l G Z Q u u_2 r_1 a0 _ h_3 (by exact hs_a0)) kwX13_is kVX13_is ⟨Nat.le_of_ble_eq_true rfl, Nat.le_of_ble_eq_true rfl⟩ rfl hl.1 rfl (Nat.le_of_ble_eq_true rfl) dX13_need_2 (fun H locs hH => ?_)
  refine lv_if_ne (tgt := 18) hx hb dX13_need_5 (by decide) (fun c_4 => ?_) (fun c_4 => ?_)
  · rw [if_neg c_4] at hF
    refine lv_aload_n hx hb dX13_need_18 rfl (lv_at hl 0 rfl) ?_
    obtain ⟨r_5, u_6, h_7, hF⟩ := pcl_some hF
    refine mcV_v (As := []) (rest := []) hC hH (m_scan l G Z Q u_2 u_6 r_5  _ h_7) kwX13_scan kVX13_scan ⟨Nat.le_of_ble_eq_true rfl, Nat.le_of_ble_eq_true rfl⟩ rfl hl.1 rfl (Nat.le_of_ble_eq_true rfl) dX13_need_19 (fun H locs hH => ?_)
    have hF := prt_eqS hF
    exact mr_v hC hH hr hF dX13_need_22 hlocks
  · rw [if_pos c_4] at hF
    refine lv_aload_n hx hb dX13_need_8 rfl (lv_at hl 0 rfl) ?_
    refine lv_iconst (v := 1) hx hb dX13_need_9 (by decide) ?_
    refine lv_aload_n hx hb dX13_need_10 rfl (lv_at hl 0 rfl) ?_
    refine mg_44 hC hH dX13_need_11 ?_
    obtain ⟨x_8, e_9, hF⟩ := prf_some hF
    refine gx_ti e_9 ?_
    obtain ⟨r_10, u_11, h_12, hF⟩ := pcl_some hF
    refine mcV_r (As := [.int 1, .int x_8]) (rest := []) hC hH (m_wrong l G Z Q u_2 u_11 r_10 1 x_8 _ h_12) kwX13_wrong kVX13_wrong ⟨Nat.le_of_ble_eq_true rfl, Nat.le_of_ble_eq_true rfl⟩ rfl hl.1 rfl (Nat.le_of_ble_eq_true rfl) dX13_need_14 (fun H locs hH => ?_)
    exact (prt_no hF).elim
set_option maxHeartbeats 4000000 in
set_option maxRecDepth 100000 in
theorem t_need (l : Launch) (G : gG) (Z : gM) (Q : Nat → Nat) (u u1 : GS) (a0 : Nat) (sz : Nat) (hF : f_need a0 u = some (none, u1)) (hs_a0 : a0 < 38) : MetT l yX13_need (Cond.code yX13_need cX13_need 2 none :: wM) { frames := 6, cells := 0, slots := 0, locals := 129 } (va_Pc [.ref (Q 72), .ref (Z.1 a0)] (mPM G Z Q u.1 sz)) (mQt G Q u1.1 sz) 0 0 (mA Q sz) := by
  refine MetT.ofW (cc := cX13_need) (maxL := 2) (ret := none) (by decide) rfl ?_
  intro p e s m args below meth c s₁ B hml hv
  obtain ⟨rfl, rfl, hP, hB, hD, hE⟩ := hv
  have hr := B.returns
  have hlocks := B.notSynchronized
  have hts := atoms_spec (ws := Cond.code yX13_need cX13_need 2 none :: wM) B.pre
  have hC : mX p c cX13_need 2 s m _ G Z Q := ⟨B.exec, B.bytes, hml, findClass_of_methodNamed B.named, fun w h => hts w (List.mem_cons_of_mem _ h), hB, hE⟩
  have hx := hC.1
  have hb := hC.2.1
  have hH : mH G Q u.1 s s.heap [] := ⟨hP, hD, va_S.rf⟩
  have hno : c.exceptionTable.isEmpty = true := BodyLoose.noHandlers B (hts _ List.mem_cons_self)
  have hl := lv_entry ([.ref (Q 72), .ref (Z.1 a0)]) (n := 2) (Nat.le_of_ble_eq_true rfl)
  rw [lg_entry_eq]
  generalize (lg_sl ([.ref (Q 72), .ref (Z.1 a0)]) ++ List.replicate (2 - (lg_sl ([.ref (Q 72), .ref (Z.1 a0)])).length) Slot.unset).toArray = ls at hl ⊢
  have hl : lv_has ls 2 [(0, .ref (Q 72)), (1, .ref (Z.1 a0))] := hl
  unfold f_need at hF
  refine lv_aload_n hx hb dX13_need_0 rfl (lv_at hl 0 rfl) ?_
  refine lv_aload_n hx hb dX13_need_1 rfl (lv_at hl 1 rfl) ?_
  obtain ⟨r_1, u_2, h_3, hF⟩ := pcl_some hF
  refine mcV_i (As := [.ref (Z.1 a0)]) (rest := []) hC hH (m_is l G Z Q u u_2 r_1 a0 _ h_3 (by exact hs_a0)) kwX13_is kVX13_is ⟨Nat.le_of_ble_eq_true rfl, Nat.le_of_ble_eq_true rfl⟩ rfl hl.1 rfl (Nat.le_of_ble_eq_true rfl) dX13_need_2 (fun H locs hH => ?_)
  refine lv_if_ne (tgt := 18) hx hb dX13_need_5 (by decide) (fun c_4 => ?_) (fun c_4 => ?_)
  · rw [if_neg c_4] at hF
    refine lv_aload_n hx hb dX13_need_18 rfl (lv_at hl 0 rfl) ?_
    obtain ⟨r_5, u_6, h_7, hF⟩ := pcl_some hF
    refine mcV_v (As := []) (rest := []) hC hH (m_scan l G Z Q u_2 u_6 r_5  _ h_7) kwX13_scan kVX13_scan ⟨Nat.le_of_ble_eq_true rfl, Nat.le_of_ble_eq_true rfl⟩ rfl hl.1 rfl (Nat.le_of_ble_eq_true rfl) dX13_need_19 (fun H locs hH => ?_)
    exact (prt_no2 hF).elim
  · rw [if_pos c_4] at hF
    refine lv_aload_n hx hb dX13_need_8 rfl (lv_at hl 0 rfl) ?_
    refine lv_iconst (v := 1) hx hb dX13_need_9 (by decide) ?_
    refine lv_aload_n hx hb dX13_need_10 rfl (lv_at hl 0 rfl) ?_
    refine mg_44 hC hH dX13_need_11 ?_
    obtain ⟨x_8, e_9, hF⟩ := prf_some hF
    refine gx_ti e_9 ?_
    obtain ⟨r_10, u_11, h_12, hF⟩ := pcl_some hF
    refine mcV_r (As := [.int 1, .int x_8]) (rest := []) hC hH (m_wrong l G Z Q u_2 u_11 r_10 1 x_8 _ h_12) kwX13_wrong kVX13_wrong ⟨Nat.le_of_ble_eq_true rfl, Nat.le_of_ble_eq_true rfl⟩ rfl hl.1 rfl (Nat.le_of_ble_eq_true rfl) dX13_need_14 (fun H locs hH => ?_)
    exact mt_throw hC hH hno (prt_eqT hF) dX13_need_17 hlocks
def f_number  : PG (Option Int32) := prf 46 (fun x_1 => (if x_1 = 2 then prf 47 (fun x_4 => pcl (f_scan) (fun r_6 => prt (some x_4))) else prf 44 (fun x_9 => pcl (f_wrong 1 x_9) (fun r_11 => prt none))))
set_option maxHeartbeats 4000000 in
set_option maxRecDepth 100000 in
theorem m_number (l : Launch) (G : gG) (Z : gM) (Q : Nat → Nat) (u u1 : GS) (r : Int32)  (sz : Nat) (hF : f_number u = some (some r, u1)) : Met l yX13_number (Cond.code yX13_number cX13_number 2 (some .int) :: wM) { frames := 5, cells := 0, slots := 0, locals := 113 } (va_Pc [.ref (Q 72)] (mPM G Z Q u.1 sz)) (mQi G Q u1.1 r sz) 0 0 (mA Q sz) := by
  refine Met.ofW (cc := cX13_number) (maxL := 2) (ret := (some .int)) (by decide) rfl ?_
  intro p e s m args below meth c s₁ B hml hv
  obtain ⟨rfl, rfl, hP, hB, hD, hE⟩ := hv
  have hr := B.returns
  have hlocks := B.notSynchronized
  have hts := atoms_spec (ws := Cond.code yX13_number cX13_number 2 (some .int) :: wM) B.pre
  have hC : mX p c cX13_number 2 s m _ G Z Q := ⟨B.exec, B.bytes, hml, findClass_of_methodNamed B.named, fun w h => hts w (List.mem_cons_of_mem _ h), hB, hE⟩
  have hx := hC.1
  have hb := hC.2.1
  have hH : mH G Q u.1 s s.heap [] := ⟨hP, hD, va_S.rf⟩
  have hl := lv_entry ([.ref (Q 72)]) (n := 2) (Nat.le_of_ble_eq_true rfl)
  rw [lg_entry_eq]
  generalize (lg_sl ([.ref (Q 72)]) ++ List.replicate (2 - (lg_sl ([.ref (Q 72)])).length) Slot.unset).toArray = ls at hl ⊢
  have hl : lv_has ls 2 [(0, .ref (Q 72))] := hl
  unfold f_number at hF
  refine lv_aload_n hx hb dX13_number_0 rfl (lv_at hl 0 rfl) ?_
  refine mg_46 hC hH dX13_number_1 ?_
  obtain ⟨x_1, e_2, hF⟩ := prf_some hF
  refine gx_ti e_2 ?_
  refine lv_iconst (v := 2) hx hb dX13_number_4 (by decide) ?_
  refine lv_icmp_eq (tgt := 18) hx hb dX13_number_5 (by decide) (fun c_3 => ?_) (fun c_3 => ?_)
  · rw [if_pos c_3] at hF
    refine lv_aload_n hx hb dX13_number_18 rfl (lv_at hl 0 rfl) ?_
    refine mg_47 hC hH dX13_number_19 ?_
    obtain ⟨x_4, e_5, hF⟩ := prf_some hF
    refine gx_ti e_5 ?_
    refine lv_istore_n (lv' := [(1, .int x_4), (0, .ref (Q 72))]) hx hb dX13_number_22 rfl hl (by decide) rfl (fun ls hl => ?_)
    refine lv_aload_n hx hb dX13_number_23 rfl (lv_at hl 1 rfl) ?_
    obtain ⟨r_6, u_7, h_8, hF⟩ := pcl_some hF
    refine mcV_v (As := []) (rest := []) hC hH (m_scan l G Z Q u u_7 r_6  _ h_8) kwX13_scan kVX13_scan ⟨Nat.le_of_ble_eq_true rfl, Nat.le_of_ble_eq_true rfl⟩ rfl hl.1 rfl (Nat.le_of_ble_eq_true rfl) dX13_number_24 (fun H locs hH => ?_)
    refine lv_iload_n hx hb dX13_number_27 rfl (lv_at hl 0 rfl) ?_
    have hF := prt_eqS hF
    exact mr_i hC hH hr hF dX13_number_28 hlocks
  · rw [if_neg c_3] at hF
    refine lv_aload_n hx hb dX13_number_8 rfl (lv_at hl 0 rfl) ?_
    refine lv_iconst (v := 1) hx hb dX13_number_9 (by decide) ?_
    refine lv_aload_n hx hb dX13_number_10 rfl (lv_at hl 0 rfl) ?_
    refine mg_44 hC hH dX13_number_11 ?_
    obtain ⟨x_9, e_10, hF⟩ := prf_some hF
    refine gx_ti e_10 ?_
    obtain ⟨r_11, u_12, h_13, hF⟩ := pcl_some hF
    refine mcV_r (As := [.int 1, .int x_9]) (rest := []) hC hH (m_wrong l G Z Q u u_12 r_11 1 x_9 _ h_13) kwX13_wrong kVX13_wrong ⟨Nat.le_of_ble_eq_true rfl, Nat.le_of_ble_eq_true rfl⟩ rfl hl.1 rfl (Nat.le_of_ble_eq_true rfl) dX13_number_14 (fun H locs hH => ?_)
    exact (prt_no hF).elim
set_option maxHeartbeats 4000000 in
set_option maxRecDepth 100000 in
theorem t_number (l : Launch) (G : gG) (Z : gM) (Q : Nat → Nat) (u u1 : GS)  (sz : Nat) (hF : f_number u = some (none, u1)) : MetT l yX13_number (Cond.code yX13_number cX13_number 2 (some .int) :: wM) { frames := 5, cells := 0, slots := 0, locals := 113 } (va_Pc [.ref (Q 72)] (mPM G Z Q u.1 sz)) (mQt G Q u1.1 sz) 0 0 (mA Q sz) := by
  refine MetT.ofW (cc := cX13_number) (maxL := 2) (ret := (some .int)) (by decide) rfl ?_
  intro p e s m args below meth c s₁ B hml hv
  obtain ⟨rfl, rfl, hP, hB, hD, hE⟩ := hv
  have hr := B.returns
  have hlocks := B.notSynchronized
  have hts := atoms_spec (ws := Cond.code yX13_number cX13_number 2 (some .int) :: wM) B.pre
  have hC : mX p c cX13_number 2 s m _ G Z Q := ⟨B.exec, B.bytes, hml, findClass_of_methodNamed B.named, fun w h => hts w (List.mem_cons_of_mem _ h), hB, hE⟩
  have hx := hC.1
  have hb := hC.2.1
  have hH : mH G Q u.1 s s.heap [] := ⟨hP, hD, va_S.rf⟩
  have hno : c.exceptionTable.isEmpty = true := BodyLoose.noHandlers B (hts _ List.mem_cons_self)
  have hl := lv_entry ([.ref (Q 72)]) (n := 2) (Nat.le_of_ble_eq_true rfl)
  rw [lg_entry_eq]
  generalize (lg_sl ([.ref (Q 72)]) ++ List.replicate (2 - (lg_sl ([.ref (Q 72)])).length) Slot.unset).toArray = ls at hl ⊢
  have hl : lv_has ls 2 [(0, .ref (Q 72))] := hl
  unfold f_number at hF
  refine lv_aload_n hx hb dX13_number_0 rfl (lv_at hl 0 rfl) ?_
  refine mg_46 hC hH dX13_number_1 ?_
  obtain ⟨x_1, e_2, hF⟩ := prf_some hF
  refine gx_ti e_2 ?_
  refine lv_iconst (v := 2) hx hb dX13_number_4 (by decide) ?_
  refine lv_icmp_eq (tgt := 18) hx hb dX13_number_5 (by decide) (fun c_3 => ?_) (fun c_3 => ?_)
  · rw [if_pos c_3] at hF
    refine lv_aload_n hx hb dX13_number_18 rfl (lv_at hl 0 rfl) ?_
    refine mg_47 hC hH dX13_number_19 ?_
    obtain ⟨x_4, e_5, hF⟩ := prf_some hF
    refine gx_ti e_5 ?_
    refine lv_istore_n (lv' := [(1, .int x_4), (0, .ref (Q 72))]) hx hb dX13_number_22 rfl hl (by decide) rfl (fun ls hl => ?_)
    refine lv_aload_n hx hb dX13_number_23 rfl (lv_at hl 1 rfl) ?_
    obtain ⟨r_6, u_7, h_8, hF⟩ := pcl_some hF
    refine mcV_v (As := []) (rest := []) hC hH (m_scan l G Z Q u u_7 r_6  _ h_8) kwX13_scan kVX13_scan ⟨Nat.le_of_ble_eq_true rfl, Nat.le_of_ble_eq_true rfl⟩ rfl hl.1 rfl (Nat.le_of_ble_eq_true rfl) dX13_number_24 (fun H locs hH => ?_)
    refine lv_iload_n hx hb dX13_number_27 rfl (lv_at hl 0 rfl) ?_
    exact (prt_no2 hF).elim
  · rw [if_neg c_3] at hF
    refine lv_aload_n hx hb dX13_number_8 rfl (lv_at hl 0 rfl) ?_
    refine lv_iconst (v := 1) hx hb dX13_number_9 (by decide) ?_
    refine lv_aload_n hx hb dX13_number_10 rfl (lv_at hl 0 rfl) ?_
    refine mg_44 hC hH dX13_number_11 ?_
    obtain ⟨x_9, e_10, hF⟩ := prf_some hF
    refine gx_ti e_10 ?_
    obtain ⟨r_11, u_12, h_13, hF⟩ := pcl_some hF
    refine mcV_r (As := [.int 1, .int x_9]) (rest := []) hC hH (m_wrong l G Z Q u u_12 r_11 1 x_9 _ h_13) kwX13_wrong kVX13_wrong ⟨Nat.le_of_ble_eq_true rfl, Nat.le_of_ble_eq_true rfl⟩ rfl hl.1 rfl (Nat.le_of_ble_eq_true rfl) dX13_number_14 (fun H locs hH => ?_)
    exact mt_throw hC hH hno (prt_eqT hF) dX13_number_17 hlocks
def f_isQuoted  : PG (Int32) := pcl (f_is 1) (fun r_1 => (if r_1 = 0 then pcl (f_is 2) (fun r_5 => (if r_5 = 0 then pcl (f_is 3) (fun r_9 => (if r_9 = 0 then pcl (f_is 4) (fun r_13 => (if r_13 = 0 then pcl (f_is 5) (fun r_17 => (if r_17 = 0 then pcl (f_is 6) (fun r_21 => (if r_21 = 0 then pcl (f_is 7) (fun r_25 => (if r_25 = 0 then pcl (f_is 8) (fun r_29 => (if r_29 = 0 then pcl (f_is 9) (fun r_33 => (if r_33 = 0 then pcl (f_is 10) (fun r_37 => (if r_37 = 0 then pcl (f_is 11) (fun r_41 => (if r_41 = 0 then pcl (f_is 12) (fun r_45 => (if r_45 = 0 then pcl (f_is 13) (fun r_49 => (if r_49 = 0 then prt 0 else prt 1)) else prt 1)) else prt 1)) else prt 1)) else prt 1)) else prt 1)) else prt 1)) else prt 1)) else prt 1)) else prt 1)) else prt 1)) else prt 1)) else prt 1))
set_option maxHeartbeats 4000000 in
set_option maxRecDepth 100000 in
theorem m_isQuoted (l : Launch) (G : gG) (Z : gM) (Q : Nat → Nat) (u u1 : GS) (r : Int32)  (sz : Nat) (hF : f_isQuoted u = some (r, u1)) : Met l yX13_isQuoted (Cond.code yX13_isQuoted cX13_isQuoted 1 (some .boolean) :: wM) { frames := 6, cells := 0, slots := 0, locals := 129 } (va_Pc [.ref (Q 72)] (mPM G Z Q u.1 sz)) (mQi G Q u1.1 r sz) 0 0 (mA Q sz) := by
  refine Met.ofW (cc := cX13_isQuoted) (maxL := 1) (ret := (some .boolean)) (by decide) rfl ?_
  intro p e s m args below meth c s₁ B hml hv
  obtain ⟨rfl, rfl, hP, hB, hD, hE⟩ := hv
  have hr := B.returns
  have hlocks := B.notSynchronized
  have hts := atoms_spec (ws := Cond.code yX13_isQuoted cX13_isQuoted 1 (some .boolean) :: wM) B.pre
  have hC : mX p c cX13_isQuoted 1 s m _ G Z Q := ⟨B.exec, B.bytes, hml, findClass_of_methodNamed B.named, fun w h => hts w (List.mem_cons_of_mem _ h), hB, hE⟩
  have hx := hC.1
  have hb := hC.2.1
  have hH : mH G Q u.1 s s.heap [] := ⟨hP, hD, va_S.rf⟩
  have hl := lv_entry ([.ref (Q 72)]) (n := 1) (Nat.le_of_ble_eq_true rfl)
  rw [lg_entry_eq]
  generalize (lg_sl ([.ref (Q 72)]) ++ List.replicate (1 - (lg_sl ([.ref (Q 72)])).length) Slot.unset).toArray = ls at hl ⊢
  have hl : lv_has ls 1 [(0, .ref (Q 72))] := hl
  unfold f_isQuoted at hF
  refine lv_aload_n hx hb dX13_isQuoted_0 rfl (lv_at hl 0 rfl) ?_
  refine th_ldcw (tx := sTx 1) hx hb hC.2.2.2.1 (hC.2.2.2.2.2.2.2.2.1 1 (by decide)) dX13_isQuoted_1 ?_
  obtain ⟨r_1, u_2, h_3, hF⟩ := pcl_some hF
  refine mcV_i (As := [.ref (Z.1 1)]) (rest := []) hC hH (m_is l G Z Q u u_2 r_1 1 _ h_3 (by decide)) kwX13_is kVX13_is ⟨Nat.le_of_ble_eq_true rfl, Nat.le_of_ble_eq_true rfl⟩ rfl hl.1 rfl (Nat.le_of_ble_eq_true rfl) dX13_isQuoted_4 (fun H locs hH => ?_)
  refine lv_if_ne (tgt := 130) hx hb dX13_isQuoted_7 (by decide) (fun c_4 => ?_) (fun c_4 => ?_)
  · rw [if_neg c_4] at hF
    refine lv_iconst (v := 1) hx hb dX13_isQuoted_130 (by decide) ?_
    refine lv_goto (tgt := 135) hx hb dX13_isQuoted_131 (by decide) ?_
    have hF := prt_eq hF
    exact mr_z hC hH hr rfl hF dX13_isQuoted_135 hlocks
  · rw [if_pos c_4] at hF
    refine lv_aload_n hx hb dX13_isQuoted_10 rfl (lv_at hl 0 rfl) ?_
    refine th_ldcw (tx := sTx 2) hx hb hC.2.2.2.1 (hC.2.2.2.2.2.2.2.2.1 2 (by decide)) dX13_isQuoted_11 ?_
    obtain ⟨r_5, u_6, h_7, hF⟩ := pcl_some hF
    refine mcV_i (As := [.ref (Z.1 2)]) (rest := []) hC hH (m_is l G Z Q u_2 u_6 r_5 2 _ h_7 (by decide)) kwX13_is kVX13_is ⟨Nat.le_of_ble_eq_true rfl, Nat.le_of_ble_eq_true rfl⟩ rfl hl.1 rfl (Nat.le_of_ble_eq_true rfl) dX13_isQuoted_14 (fun H locs hH => ?_)
    refine lv_if_ne (tgt := 130) hx hb dX13_isQuoted_17 (by decide) (fun c_8 => ?_) (fun c_8 => ?_)
    · rw [if_neg c_8] at hF
      refine lv_iconst (v := 1) hx hb dX13_isQuoted_130 (by decide) ?_
      refine lv_goto (tgt := 135) hx hb dX13_isQuoted_131 (by decide) ?_
      have hF := prt_eq hF
      exact mr_z hC hH hr rfl hF dX13_isQuoted_135 hlocks
    · rw [if_pos c_8] at hF
      refine lv_aload_n hx hb dX13_isQuoted_20 rfl (lv_at hl 0 rfl) ?_
      refine th_ldcw (tx := sTx 3) hx hb hC.2.2.2.1 (hC.2.2.2.2.2.2.2.2.1 3 (by decide)) dX13_isQuoted_21 ?_
      obtain ⟨r_9, u_10, h_11, hF⟩ := pcl_some hF
      refine mcV_i (As := [.ref (Z.1 3)]) (rest := []) hC hH (m_is l G Z Q u_6 u_10 r_9 3 _ h_11 (by decide)) kwX13_is kVX13_is ⟨Nat.le_of_ble_eq_true rfl, Nat.le_of_ble_eq_true rfl⟩ rfl hl.1 rfl (Nat.le_of_ble_eq_true rfl) dX13_isQuoted_24 (fun H locs hH => ?_)
      refine lv_if_ne (tgt := 130) hx hb dX13_isQuoted_27 (by decide) (fun c_12 => ?_) (fun c_12 => ?_)
      · rw [if_neg c_12] at hF
        refine lv_iconst (v := 1) hx hb dX13_isQuoted_130 (by decide) ?_
        refine lv_goto (tgt := 135) hx hb dX13_isQuoted_131 (by decide) ?_
        have hF := prt_eq hF
        exact mr_z hC hH hr rfl hF dX13_isQuoted_135 hlocks
      · rw [if_pos c_12] at hF
        refine lv_aload_n hx hb dX13_isQuoted_30 rfl (lv_at hl 0 rfl) ?_
        refine th_ldcw (tx := sTx 4) hx hb hC.2.2.2.1 (hC.2.2.2.2.2.2.2.2.1 4 (by decide)) dX13_isQuoted_31 ?_
        obtain ⟨r_13, u_14, h_15, hF⟩ := pcl_some hF
        refine mcV_i (As := [.ref (Z.1 4)]) (rest := []) hC hH (m_is l G Z Q u_10 u_14 r_13 4 _ h_15 (by decide)) kwX13_is kVX13_is ⟨Nat.le_of_ble_eq_true rfl, Nat.le_of_ble_eq_true rfl⟩ rfl hl.1 rfl (Nat.le_of_ble_eq_true rfl) dX13_isQuoted_34 (fun H locs hH => ?_)
        refine lv_if_ne (tgt := 130) hx hb dX13_isQuoted_37 (by decide) (fun c_16 => ?_) (fun c_16 => ?_)
        · rw [if_neg c_16] at hF
          refine lv_iconst (v := 1) hx hb dX13_isQuoted_130 (by decide) ?_
          refine lv_goto (tgt := 135) hx hb dX13_isQuoted_131 (by decide) ?_
          have hF := prt_eq hF
          exact mr_z hC hH hr rfl hF dX13_isQuoted_135 hlocks
        · rw [if_pos c_16] at hF
          refine lv_aload_n hx hb dX13_isQuoted_40 rfl (lv_at hl 0 rfl) ?_
          refine th_ldcw (tx := sTx 5) hx hb hC.2.2.2.1 (hC.2.2.2.2.2.2.2.2.1 5 (by decide)) dX13_isQuoted_41 ?_
          obtain ⟨r_17, u_18, h_19, hF⟩ := pcl_some hF
          refine mcV_i (As := [.ref (Z.1 5)]) (rest := []) hC hH (m_is l G Z Q u_14 u_18 r_17 5 _ h_19 (by decide)) kwX13_is kVX13_is ⟨Nat.le_of_ble_eq_true rfl, Nat.le_of_ble_eq_true rfl⟩ rfl hl.1 rfl (Nat.le_of_ble_eq_true rfl) dX13_isQuoted_44 (fun H locs hH => ?_)
          refine lv_if_ne (tgt := 130) hx hb dX13_isQuoted_47 (by decide) (fun c_20 => ?_) (fun c_20 => ?_)
          · rw [if_neg c_20] at hF
            refine lv_iconst (v := 1) hx hb dX13_isQuoted_130 (by decide) ?_
            refine lv_goto (tgt := 135) hx hb dX13_isQuoted_131 (by decide) ?_
            have hF := prt_eq hF
            exact mr_z hC hH hr rfl hF dX13_isQuoted_135 hlocks
          · rw [if_pos c_20] at hF
            refine lv_aload_n hx hb dX13_isQuoted_50 rfl (lv_at hl 0 rfl) ?_
            refine th_ldcw (tx := sTx 6) hx hb hC.2.2.2.1 (hC.2.2.2.2.2.2.2.2.1 6 (by decide)) dX13_isQuoted_51 ?_
            obtain ⟨r_21, u_22, h_23, hF⟩ := pcl_some hF
            refine mcV_i (As := [.ref (Z.1 6)]) (rest := []) hC hH (m_is l G Z Q u_18 u_22 r_21 6 _ h_23 (by decide)) kwX13_is kVX13_is ⟨Nat.le_of_ble_eq_true rfl, Nat.le_of_ble_eq_true rfl⟩ rfl hl.1 rfl (Nat.le_of_ble_eq_true rfl) dX13_isQuoted_54 (fun H locs hH => ?_)
            refine lv_if_ne (tgt := 130) hx hb dX13_isQuoted_57 (by decide) (fun c_24 => ?_) (fun c_24 => ?_)
            · rw [if_neg c_24] at hF
              refine lv_iconst (v := 1) hx hb dX13_isQuoted_130 (by decide) ?_
              refine lv_goto (tgt := 135) hx hb dX13_isQuoted_131 (by decide) ?_
              have hF := prt_eq hF
              exact mr_z hC hH hr rfl hF dX13_isQuoted_135 hlocks
            · rw [if_pos c_24] at hF
              refine lv_aload_n hx hb dX13_isQuoted_60 rfl (lv_at hl 0 rfl) ?_
              refine th_ldcw (tx := sTx 7) hx hb hC.2.2.2.1 (hC.2.2.2.2.2.2.2.2.1 7 (by decide)) dX13_isQuoted_61 ?_
              obtain ⟨r_25, u_26, h_27, hF⟩ := pcl_some hF
              refine mcV_i (As := [.ref (Z.1 7)]) (rest := []) hC hH (m_is l G Z Q u_22 u_26 r_25 7 _ h_27 (by decide)) kwX13_is kVX13_is ⟨Nat.le_of_ble_eq_true rfl, Nat.le_of_ble_eq_true rfl⟩ rfl hl.1 rfl (Nat.le_of_ble_eq_true rfl) dX13_isQuoted_64 (fun H locs hH => ?_)
              refine lv_if_ne (tgt := 130) hx hb dX13_isQuoted_67 (by decide) (fun c_28 => ?_) (fun c_28 => ?_)
              · rw [if_neg c_28] at hF
                refine lv_iconst (v := 1) hx hb dX13_isQuoted_130 (by decide) ?_
                refine lv_goto (tgt := 135) hx hb dX13_isQuoted_131 (by decide) ?_
                have hF := prt_eq hF
                exact mr_z hC hH hr rfl hF dX13_isQuoted_135 hlocks
              · rw [if_pos c_28] at hF
                refine lv_aload_n hx hb dX13_isQuoted_70 rfl (lv_at hl 0 rfl) ?_
                refine th_ldcw (tx := sTx 8) hx hb hC.2.2.2.1 (hC.2.2.2.2.2.2.2.2.1 8 (by decide)) dX13_isQuoted_71 ?_
                obtain ⟨r_29, u_30, h_31, hF⟩ := pcl_some hF
                refine mcV_i (As := [.ref (Z.1 8)]) (rest := []) hC hH (m_is l G Z Q u_26 u_30 r_29 8 _ h_31 (by decide)) kwX13_is kVX13_is ⟨Nat.le_of_ble_eq_true rfl, Nat.le_of_ble_eq_true rfl⟩ rfl hl.1 rfl (Nat.le_of_ble_eq_true rfl) dX13_isQuoted_74 (fun H locs hH => ?_)
                refine lv_if_ne (tgt := 130) hx hb dX13_isQuoted_77 (by decide) (fun c_32 => ?_) (fun c_32 => ?_)
                · rw [if_neg c_32] at hF
                  refine lv_iconst (v := 1) hx hb dX13_isQuoted_130 (by decide) ?_
                  refine lv_goto (tgt := 135) hx hb dX13_isQuoted_131 (by decide) ?_
                  have hF := prt_eq hF
                  exact mr_z hC hH hr rfl hF dX13_isQuoted_135 hlocks
                · rw [if_pos c_32] at hF
                  refine lv_aload_n hx hb dX13_isQuoted_80 rfl (lv_at hl 0 rfl) ?_
                  refine th_ldcw (tx := sTx 9) hx hb hC.2.2.2.1 (hC.2.2.2.2.2.2.2.2.1 9 (by decide)) dX13_isQuoted_81 ?_
                  obtain ⟨r_33, u_34, h_35, hF⟩ := pcl_some hF
                  refine mcV_i (As := [.ref (Z.1 9)]) (rest := []) hC hH (m_is l G Z Q u_30 u_34 r_33 9 _ h_35 (by decide)) kwX13_is kVX13_is ⟨Nat.le_of_ble_eq_true rfl, Nat.le_of_ble_eq_true rfl⟩ rfl hl.1 rfl (Nat.le_of_ble_eq_true rfl) dX13_isQuoted_84 (fun H locs hH => ?_)
                  refine lv_if_ne (tgt := 130) hx hb dX13_isQuoted_87 (by decide) (fun c_36 => ?_) (fun c_36 => ?_)
                  · rw [if_neg c_36] at hF
                    refine lv_iconst (v := 1) hx hb dX13_isQuoted_130 (by decide) ?_
                    refine lv_goto (tgt := 135) hx hb dX13_isQuoted_131 (by decide) ?_
                    have hF := prt_eq hF
                    exact mr_z hC hH hr rfl hF dX13_isQuoted_135 hlocks
                  · rw [if_pos c_36] at hF
                    refine lv_aload_n hx hb dX13_isQuoted_90 rfl (lv_at hl 0 rfl) ?_
                    refine th_ldcw (tx := sTx 10) hx hb hC.2.2.2.1 (hC.2.2.2.2.2.2.2.2.1 10 (by decide)) dX13_isQuoted_91 ?_
                    obtain ⟨r_37, u_38, h_39, hF⟩ := pcl_some hF
                    refine mcV_i (As := [.ref (Z.1 10)]) (rest := []) hC hH (m_is l G Z Q u_34 u_38 r_37 10 _ h_39 (by decide)) kwX13_is kVX13_is ⟨Nat.le_of_ble_eq_true rfl, Nat.le_of_ble_eq_true rfl⟩ rfl hl.1 rfl (Nat.le_of_ble_eq_true rfl) dX13_isQuoted_94 (fun H locs hH => ?_)
                    refine lv_if_ne (tgt := 130) hx hb dX13_isQuoted_97 (by decide) (fun c_40 => ?_) (fun c_40 => ?_)
                    · rw [if_neg c_40] at hF
                      refine lv_iconst (v := 1) hx hb dX13_isQuoted_130 (by decide) ?_
                      refine lv_goto (tgt := 135) hx hb dX13_isQuoted_131 (by decide) ?_
                      have hF := prt_eq hF
                      exact mr_z hC hH hr rfl hF dX13_isQuoted_135 hlocks
                    · rw [if_pos c_40] at hF
                      refine lv_aload_n hx hb dX13_isQuoted_100 rfl (lv_at hl 0 rfl) ?_
                      refine th_ldcw (tx := sTx 11) hx hb hC.2.2.2.1 (hC.2.2.2.2.2.2.2.2.1 11 (by decide)) dX13_isQuoted_101 ?_
                      obtain ⟨r_41, u_42, h_43, hF⟩ := pcl_some hF
                      refine mcV_i (As := [.ref (Z.1 11)]) (rest := []) hC hH (m_is l G Z Q u_38 u_42 r_41 11 _ h_43 (by decide)) kwX13_is kVX13_is ⟨Nat.le_of_ble_eq_true rfl, Nat.le_of_ble_eq_true rfl⟩ rfl hl.1 rfl (Nat.le_of_ble_eq_true rfl) dX13_isQuoted_104 (fun H locs hH => ?_)
                      refine lv_if_ne (tgt := 130) hx hb dX13_isQuoted_107 (by decide) (fun c_44 => ?_) (fun c_44 => ?_)
                      · rw [if_neg c_44] at hF
                        refine lv_iconst (v := 1) hx hb dX13_isQuoted_130 (by decide) ?_
                        refine lv_goto (tgt := 135) hx hb dX13_isQuoted_131 (by decide) ?_
                        have hF := prt_eq hF
                        exact mr_z hC hH hr rfl hF dX13_isQuoted_135 hlocks
                      · rw [if_pos c_44] at hF
                        refine lv_aload_n hx hb dX13_isQuoted_110 rfl (lv_at hl 0 rfl) ?_
                        refine th_ldcw (tx := sTx 12) hx hb hC.2.2.2.1 (hC.2.2.2.2.2.2.2.2.1 12 (by decide)) dX13_isQuoted_111 ?_
                        obtain ⟨r_45, u_46, h_47, hF⟩ := pcl_some hF
                        refine mcV_i (As := [.ref (Z.1 12)]) (rest := []) hC hH (m_is l G Z Q u_42 u_46 r_45 12 _ h_47 (by decide)) kwX13_is kVX13_is ⟨Nat.le_of_ble_eq_true rfl, Nat.le_of_ble_eq_true rfl⟩ rfl hl.1 rfl (Nat.le_of_ble_eq_true rfl) dX13_isQuoted_114 (fun H locs hH => ?_)
                        refine lv_if_ne (tgt := 130) hx hb dX13_isQuoted_117 (by decide) (fun c_48 => ?_) (fun c_48 => ?_)
                        · rw [if_neg c_48] at hF
                          refine lv_iconst (v := 1) hx hb dX13_isQuoted_130 (by decide) ?_
                          refine lv_goto (tgt := 135) hx hb dX13_isQuoted_131 (by decide) ?_
                          have hF := prt_eq hF
                          exact mr_z hC hH hr rfl hF dX13_isQuoted_135 hlocks
                        · rw [if_pos c_48] at hF
                          refine lv_aload_n hx hb dX13_isQuoted_120 rfl (lv_at hl 0 rfl) ?_
                          refine th_ldcw (tx := sTx 13) hx hb hC.2.2.2.1 (hC.2.2.2.2.2.2.2.2.1 13 (by decide)) dX13_isQuoted_121 ?_
                          obtain ⟨r_49, u_50, h_51, hF⟩ := pcl_some hF
                          refine mcV_i (As := [.ref (Z.1 13)]) (rest := []) hC hH (m_is l G Z Q u_46 u_50 r_49 13 _ h_51 (by decide)) kwX13_is kVX13_is ⟨Nat.le_of_ble_eq_true rfl, Nat.le_of_ble_eq_true rfl⟩ rfl hl.1 rfl (Nat.le_of_ble_eq_true rfl) dX13_isQuoted_124 (fun H locs hH => ?_)
                          refine lv_if_eq (tgt := 134) hx hb dX13_isQuoted_127 (by decide) (fun c_52 => ?_) (fun c_52 => ?_)
                          · rw [if_pos c_52] at hF
                            refine lv_iconst (v := 0) hx hb dX13_isQuoted_134 (by decide) ?_
                            have hF := prt_eq hF
                            exact mr_z hC hH hr rfl hF dX13_isQuoted_135 hlocks
                          · rw [if_neg c_52] at hF
                            refine lv_iconst (v := 1) hx hb dX13_isQuoted_130 (by decide) ?_
                            refine lv_goto (tgt := 135) hx hb dX13_isQuoted_131 (by decide) ?_
                            have hF := prt_eq hF
                            exact mr_z hC hH hr rfl hF dX13_isQuoted_135 hlocks
def lp_findSign_36 : Nat → Int32 → Int32 → Int32 → (Int32 → Int32 → Int32 → PG (Int32)) → PG (Int32)
  | 0, _, _, _, _ => fun _ => none
  | n36 + 1, v1, v2, v3, K36_87 => prd 33 8 v1 (fun x_12 => (if x_12 ≤ v3 then K36_87 v1 v2 v3 else (if v2 = 0 then K36_87 v1 v2 v3 else prd 32 80 ((10 * v1) + v3) (fun x_17 => prf 44 (fun x_20 => psr (x_20 + v3) (fun x_22 => (if x_17 = x_22 then pli (v3 + 1) (fun x_28 => lp_findSign_36 n36 v1 1 x_28 K36_87) else pli (v3 + 1) (fun x_26 => lp_findSign_36 n36 v1 0 x_26 K36_87))))))))
def lp_findSign_2 : Nat → Int32 → (Int32 → PG (Int32)) → PG (Int32)
  | 0, _, _ => fun _ => none
  | n2 + 1, v1, K2_99 => prf 29 (fun x_1 => (if x_1 ≤ v1 then K2_99 v1 else prd 33 8 v1 (fun x_4 => prf 45 (fun x_7 => prf 44 (fun x_9 => (if x_4 = (x_7 - x_9) then lp_findSign_36 fuel v1 1 0 (fun v1 v2 v3 => (if v2 = 0 then pli (v1 + 1) (fun x_52 => lp_findSign_2 n2 x_52 K2_99) else prt v1)) else lp_findSign_36 fuel v1 0 0 (fun v1 v2 v3 => (if v2 = 0 then pli (v1 + 1) (fun x_31 => lp_findSign_2 n2 x_31 K2_99) else prt v1))))))))
def f_findSign  : PG (Int32) := lp_findSign_2 fuel 0 (fun v1 => prt (-1))
set_option maxHeartbeats 4000000 in
set_option maxRecDepth 100000 in
theorem m_findSign (l : Launch) (G : gG) (Z : gM) (Q : Nat → Nat) (u u1 : GS) (r : Int32)  (sz : Nat) (hF : f_findSign u = some (r, u1)) : Met l yX13_findSign (Cond.code yX13_findSign cX13_findSign 4 (some .int) :: wM) { frames := 0, cells := 0, slots := 0, locals := 0 } (va_Pc [.ref (Q 72)] (mPM G Z Q u.1 sz)) (mQi G Q u1.1 r sz) 0 0 (mA Q sz) := by
  refine Met.ofW (cc := cX13_findSign) (maxL := 4) (ret := (some .int)) (by decide) rfl ?_
  intro p e s m args below meth c s₁ B hml hv
  obtain ⟨rfl, rfl, hP, hB, hD, hE⟩ := hv
  have hr := B.returns
  have hlocks := B.notSynchronized
  have hts := atoms_spec (ws := Cond.code yX13_findSign cX13_findSign 4 (some .int) :: wM) B.pre
  have hC : mX p c cX13_findSign 4 s m _ G Z Q := ⟨B.exec, B.bytes, hml, findClass_of_methodNamed B.named, fun w h => hts w (List.mem_cons_of_mem _ h), hB, hE⟩
  have hx := hC.1
  have hb := hC.2.1
  have hH : mH G Q u.1 s s.heap [] := ⟨hP, hD, va_S.rf⟩
  have hl := lv_entry ([.ref (Q 72)]) (n := 4) (Nat.le_of_ble_eq_true rfl)
  rw [lg_entry_eq]
  generalize (lg_sl ([.ref (Q 72)]) ++ List.replicate (4 - (lg_sl ([.ref (Q 72)])).length) Slot.unset).toArray = ls at hl ⊢
  have hl : lv_has ls 4 [(0, .ref (Q 72))] := hl
  unfold f_findSign at hF
  refine lv_iconst (v := 0) hx hb dX13_findSign_0 (by decide) ?_
  refine lv_istore_n (lv' := [(1, .int 0), (0, .ref (Q 72))]) hx hb dX13_findSign_1 rfl hl (by decide) rfl (fun ls hl => ?_)
  have hL2 : ∀ (K2_99 : Int32 → PG (Int32)), (∀ (v1 : Int32) (u : GS) (H : Heap) (locs : List Loc) (ls : Array Slot), lv_has ls 4 [(0, .ref (Q 72)), (1, .int v1)] → mH G Q u.1 s H locs → K2_99 v1 u = some ((r, u1)) → W p l e (headSpec (Cond.code yX13_findSign cX13_findSign 4 (some .int) :: wM) { frames := 0, cells := 0, slots := 0, locals := 0 }).room s m [.ref (Q 72)].toArray below meth c H locs 0 0 (MQ below (mQi G Q u1.1 r s.heap.size) [.ref (Q 72)].toArray s 0 0 (mA Q s.heap.size)) (F0 m 99 ls [])) → ∀ (n2 : Nat) (v1 : Int32) (u : GS) (H : Heap) (locs : List Loc) (ls : Array Slot), lv_has ls 4 [(0, .ref (Q 72)), (1, .int v1)] → mH G Q u.1 s H locs → lp_findSign_2 n2 v1 K2_99 u = some ((r, u1)) → W p l e (headSpec (Cond.code yX13_findSign cX13_findSign 4 (some .int) :: wM) { frames := 0, cells := 0, slots := 0, locals := 0 }).room s m [.ref (Q 72)].toArray below meth c H locs 0 0 (MQ below (mQi G Q u1.1 r s.heap.size) [.ref (Q 72)].toArray s 0 0 (mA Q s.heap.size)) (F0 m 2 ls []) := by
    intro K2_99 hK2_99 n2
    induction n2 with
    | zero => intro v1 u H locs ls hl hH hF; cases hF
    | succ n2 ih2 =>
      intro v1 u H locs ls hl hH hF
      unfold lp_findSign_2 at hF
      refine lv_iload_n hx hb dX13_findSign_2 rfl (lv_at hl 1 rfl) ?_
      refine lv_aload_n hx hb dX13_findSign_3 rfl (lv_at hl 0 rfl) ?_
      refine mg_29 hC hH dX13_findSign_4 ?_
      obtain ⟨x_1, e_2, hF⟩ := prf_some hF
      refine gx_ti e_2 ?_
      refine lv_icmp_ge (tgt := 99) hx hb dX13_findSign_7 (by decide) (fun c_3 => ?_) (fun c_3 => ?_)
      · rw [if_pos c_3] at hF
        exact hK2_99 v1 u _ _ _ (lv_sub hl [0, 1] rfl) hH hF
      · rw [if_neg c_3] at hF
        refine lv_aload_n hx hb dX13_findSign_10 rfl (lv_at hl 0 rfl) ?_
        refine mg_33 hC hH dX13_findSign_11 ?_
        refine lv_iload_n hx hb dX13_findSign_14 rfl (lv_at hl 1 rfl) ?_
        obtain ⟨x_4, g_5, e_6, hF⟩ := prd_some hF
        refine ml_33 hC hH g_5 dX13_findSign_15 ?_
        refine gx_ti e_6 ?_
        refine lv_aload_n hx hb dX13_findSign_16 rfl (lv_at hl 0 rfl) ?_
        refine mg_45 hC hH dX13_findSign_17 ?_
        obtain ⟨x_7, e_8, hF⟩ := prf_some hF
        refine gx_ti e_8 ?_
        refine lv_aload_n hx hb dX13_findSign_20 rfl (lv_at hl 0 rfl) ?_
        refine mg_44 hC hH dX13_findSign_21 ?_
        obtain ⟨x_9, e_10, hF⟩ := prf_some hF
        refine gx_ti e_10 ?_
        refine lv_isub hx hb dX13_findSign_24 ?_
        refine lv_icmp_ne (tgt := 32) hx hb dX13_findSign_25 (by decide) (fun c_11 => ?_) (fun c_11 => ?_)
        · rw [if_neg c_11] at hF
          refine lv_iconst (v := 0) hx hb dX13_findSign_32 (by decide) ?_
          refine lv_istore_n (lv' := [(2, .int 0), (0, .ref (Q 72)), (1, .int v1)]) hx hb dX13_findSign_33 rfl hl (by decide) rfl (fun ls hl => ?_)
          refine lv_iconst (v := 0) hx hb dX13_findSign_34 (by decide) ?_
          refine lv_istore_n (lv' := [(3, .int 0), (2, .int 0), (0, .ref (Q 72)), (1, .int v1)]) hx hb dX13_findSign_35 rfl hl (by decide) rfl (fun ls hl => ?_)
          have hL36 : ∀ (K36_87 : Int32 → Int32 → Int32 → PG (Int32)), (∀ (v1 v2 v3 : Int32) (u : GS) (H : Heap) (locs : List Loc) (ls : Array Slot), lv_has ls 4 [(0, .ref (Q 72)), (1, .int v1), (2, .int v2), (3, .int v3)] → mH G Q u.1 s H locs → K36_87 v1 v2 v3 u = some ((r, u1)) → W p l e (headSpec (Cond.code yX13_findSign cX13_findSign 4 (some .int) :: wM) { frames := 0, cells := 0, slots := 0, locals := 0 }).room s m [.ref (Q 72)].toArray below meth c H locs 0 0 (MQ below (mQi G Q u1.1 r s.heap.size) [.ref (Q 72)].toArray s 0 0 (mA Q s.heap.size)) (F0 m 87 ls [])) → ∀ (n36 : Nat) (v1 v2 v3 : Int32) (u : GS) (H : Heap) (locs : List Loc) (ls : Array Slot), lv_has ls 4 [(0, .ref (Q 72)), (1, .int v1), (2, .int v2), (3, .int v3)] → mH G Q u.1 s H locs → lp_findSign_36 n36 v1 v2 v3 K36_87 u = some ((r, u1)) → W p l e (headSpec (Cond.code yX13_findSign cX13_findSign 4 (some .int) :: wM) { frames := 0, cells := 0, slots := 0, locals := 0 }).room s m [.ref (Q 72)].toArray below meth c H locs 0 0 (MQ below (mQi G Q u1.1 r s.heap.size) [.ref (Q 72)].toArray s 0 0 (mA Q s.heap.size)) (F0 m 36 ls []) := by
            intro K36_87 hK36_87 n36
            induction n36 with
            | zero => intro v1 v2 v3 u H locs ls hl hH hF; cases hF
            | succ n36 ih36 =>
              intro v1 v2 v3 u H locs ls hl hH hF
              unfold lp_findSign_36 at hF
              refine lv_iload_n hx hb dX13_findSign_36 rfl (lv_at hl 3 rfl) ?_
              refine lv_aload_n hx hb dX13_findSign_37 rfl (lv_at hl 0 rfl) ?_
              refine mg_33 hC hH dX13_findSign_38 ?_
              refine lv_iload_n hx hb dX13_findSign_41 rfl (lv_at hl 1 rfl) ?_
              obtain ⟨x_12, g_13, e_14, hF⟩ := prd_some hF
              refine ml_33 hC hH g_13 dX13_findSign_42 ?_
              refine gx_ti e_14 ?_
              refine lv_icmp_ge (tgt := 87) hx hb dX13_findSign_43 (by decide) (fun c_15 => ?_) (fun c_15 => ?_)
              · rw [if_pos c_15] at hF
                exact hK36_87 v1 v2 v3 u _ _ _ (lv_sub hl [0, 1, 2, 3] rfl) hH hF
              · rw [if_neg c_15] at hF
                refine lv_iload_n hx hb dX13_findSign_46 rfl (lv_at hl 2 rfl) ?_
                refine lv_if_eq (tgt := 87) hx hb dX13_findSign_47 (by decide) (fun c_16 => ?_) (fun c_16 => ?_)
                · rw [if_pos c_16] at hF
                  exact hK36_87 v1 v2 v3 u _ _ _ (lv_sub hl [0, 1, 2, 3] rfl) hH hF
                · rw [if_neg c_16] at hF
                  refine lv_aload_n hx hb dX13_findSign_50 rfl (lv_at hl 0 rfl) ?_
                  refine mg_32 hC hH dX13_findSign_51 ?_
                  refine lv_bipush (v := 10) hx hb dX13_findSign_54 (by decide) ?_
                  refine lv_iload_n hx hb dX13_findSign_56 rfl (lv_at hl 1 rfl) ?_
                  refine lv_imul hx hb dX13_findSign_57 ?_
                  refine lv_iload_n hx hb dX13_findSign_58 rfl (lv_at hl 3 rfl) ?_
                  refine lv_iadd hx hb dX13_findSign_59 ?_
                  obtain ⟨x_17, g_18, e_19, hF⟩ := prd_some hF
                  refine ml_32 hC hH g_18 dX13_findSign_60 ?_
                  refine gx_ti e_19 ?_
                  refine lv_aload_n hx hb dX13_findSign_61 rfl (lv_at hl 0 rfl) ?_
                  refine mg_41 hC hH dX13_findSign_62 ?_
                  refine lv_aload_n hx hb dX13_findSign_65 rfl (lv_at hl 0 rfl) ?_
                  refine mg_44 hC hH dX13_findSign_66 ?_
                  obtain ⟨x_20, e_21, hF⟩ := prf_some hF
                  refine gx_ti e_21 ?_
                  refine lv_iload_n hx hb dX13_findSign_69 rfl (lv_at hl 3 rfl) ?_
                  refine lv_iadd hx hb dX13_findSign_70 ?_
                  obtain ⟨x_22, g_23, e_24, hF⟩ := psr_some hF
                  refine ml_src hC hH g_23 dX13_findSign_71 ?_
                  refine gx_ti e_24 ?_
                  refine lv_icmp_ne (tgt := 79) hx hb dX13_findSign_72 (by decide) (fun c_25 => ?_) (fun c_25 => ?_)
                  · rw [if_neg c_25] at hF
                    refine lv_iconst (v := 0) hx hb dX13_findSign_79 (by decide) ?_
                    refine lv_istore_n (lv' := [(2, .int 0), (0, .ref (Q 72)), (1, .int v1), (3, .int v3)]) hx hb dX13_findSign_80 rfl hl (by decide) rfl (fun ls hl => ?_)
                    obtain ⟨x_26, e_27, hF⟩ := pli_some hF
                    refine lv_iinc (v := x_26) (lv' := [(3, .int x_26), (2, .int 0), (0, .ref (Q 72)), (1, .int v1)]) hx hb dX13_findSign_81 hl (k := 3) rfl e_27 (by decide) rfl (fun ls hl => ?_)
                    refine lv_goto (tgt := 36) hx hb dX13_findSign_84 (by decide) ?_
                    exact ih36 v1 0 x_26 u _ _ _ (lv_sub hl [2, 3, 1, 0] rfl) hH hF
                  · rw [if_pos c_25] at hF
                    refine lv_iconst (v := 1) hx hb dX13_findSign_75 (by decide) ?_
                    refine lv_goto (tgt := 80) hx hb dX13_findSign_76 (by decide) ?_
                    refine lv_istore_n (lv' := [(2, .int 1), (0, .ref (Q 72)), (1, .int v1), (3, .int v3)]) hx hb dX13_findSign_80 rfl hl (by decide) rfl (fun ls hl => ?_)
                    obtain ⟨x_28, e_29, hF⟩ := pli_some hF
                    refine lv_iinc (v := x_28) (lv' := [(3, .int x_28), (2, .int 1), (0, .ref (Q 72)), (1, .int v1)]) hx hb dX13_findSign_81 hl (k := 3) rfl e_29 (by decide) rfl (fun ls hl => ?_)
                    refine lv_goto (tgt := 36) hx hb dX13_findSign_84 (by decide) ?_
                    exact ih36 v1 1 x_28 u _ _ _ (lv_sub hl [2, 3, 1, 0] rfl) hH hF
          refine hL36 _ (fun v1 v2 v3 u H locs ls hl hH hF => ?_) fuel v1 0 0 u _ _ _ (lv_sub hl [2, 3, 1, 0] rfl) hH hF
          refine lv_iload_n hx hb dX13_findSign_87 rfl (lv_at hl 2 rfl) ?_
          refine lv_if_eq (tgt := 93) hx hb dX13_findSign_88 (by decide) (fun c_30 => ?_) (fun c_30 => ?_)
          · rw [if_pos c_30] at hF
            obtain ⟨x_31, e_32, hF⟩ := pli_some hF
            refine lv_iinc (v := x_31) (lv' := [(1, .int x_31), (0, .ref (Q 72)), (2, .int v2), (3, .int v3)]) hx hb dX13_findSign_93 hl (k := 1) rfl e_32 (by decide) rfl (fun ls hl => ?_)
            refine lv_goto (tgt := 2) hx hb dX13_findSign_96 (by decide) ?_
            exact ih2 x_31 u _ _ _ (lv_sub hl [1, 0] rfl) hH hF
          · rw [if_neg c_30] at hF
            refine lv_iload_n hx hb dX13_findSign_91 rfl (lv_at hl 1 rfl) ?_
            have hF := prt_eq hF
            exact mr_i hC hH hr hF dX13_findSign_92 hlocks
        · rw [if_pos c_11] at hF
          refine lv_iconst (v := 1) hx hb dX13_findSign_28 (by decide) ?_
          refine lv_goto (tgt := 33) hx hb dX13_findSign_29 (by decide) ?_
          refine lv_istore_n (lv' := [(2, .int 1), (0, .ref (Q 72)), (1, .int v1)]) hx hb dX13_findSign_33 rfl hl (by decide) rfl (fun ls hl => ?_)
          refine lv_iconst (v := 0) hx hb dX13_findSign_34 (by decide) ?_
          refine lv_istore_n (lv' := [(3, .int 0), (2, .int 1), (0, .ref (Q 72)), (1, .int v1)]) hx hb dX13_findSign_35 rfl hl (by decide) rfl (fun ls hl => ?_)
          have hL36 : ∀ (K36_87 : Int32 → Int32 → Int32 → PG (Int32)), (∀ (v1 v2 v3 : Int32) (u : GS) (H : Heap) (locs : List Loc) (ls : Array Slot), lv_has ls 4 [(0, .ref (Q 72)), (1, .int v1), (2, .int v2), (3, .int v3)] → mH G Q u.1 s H locs → K36_87 v1 v2 v3 u = some ((r, u1)) → W p l e (headSpec (Cond.code yX13_findSign cX13_findSign 4 (some .int) :: wM) { frames := 0, cells := 0, slots := 0, locals := 0 }).room s m [.ref (Q 72)].toArray below meth c H locs 0 0 (MQ below (mQi G Q u1.1 r s.heap.size) [.ref (Q 72)].toArray s 0 0 (mA Q s.heap.size)) (F0 m 87 ls [])) → ∀ (n36 : Nat) (v1 v2 v3 : Int32) (u : GS) (H : Heap) (locs : List Loc) (ls : Array Slot), lv_has ls 4 [(0, .ref (Q 72)), (1, .int v1), (2, .int v2), (3, .int v3)] → mH G Q u.1 s H locs → lp_findSign_36 n36 v1 v2 v3 K36_87 u = some ((r, u1)) → W p l e (headSpec (Cond.code yX13_findSign cX13_findSign 4 (some .int) :: wM) { frames := 0, cells := 0, slots := 0, locals := 0 }).room s m [.ref (Q 72)].toArray below meth c H locs 0 0 (MQ below (mQi G Q u1.1 r s.heap.size) [.ref (Q 72)].toArray s 0 0 (mA Q s.heap.size)) (F0 m 36 ls []) := by
            intro K36_87 hK36_87 n36
            induction n36 with
            | zero => intro v1 v2 v3 u H locs ls hl hH hF; cases hF
            | succ n36 ih36 =>
              intro v1 v2 v3 u H locs ls hl hH hF
              unfold lp_findSign_36 at hF
              refine lv_iload_n hx hb dX13_findSign_36 rfl (lv_at hl 3 rfl) ?_
              refine lv_aload_n hx hb dX13_findSign_37 rfl (lv_at hl 0 rfl) ?_
              refine mg_33 hC hH dX13_findSign_38 ?_
              refine lv_iload_n hx hb dX13_findSign_41 rfl (lv_at hl 1 rfl) ?_
              obtain ⟨x_33, g_34, e_35, hF⟩ := prd_some hF
              refine ml_33 hC hH g_34 dX13_findSign_42 ?_
              refine gx_ti e_35 ?_
              refine lv_icmp_ge (tgt := 87) hx hb dX13_findSign_43 (by decide) (fun c_36 => ?_) (fun c_36 => ?_)
              · rw [if_pos c_36] at hF
                exact hK36_87 v1 v2 v3 u _ _ _ (lv_sub hl [0, 1, 2, 3] rfl) hH hF
              · rw [if_neg c_36] at hF
                refine lv_iload_n hx hb dX13_findSign_46 rfl (lv_at hl 2 rfl) ?_
                refine lv_if_eq (tgt := 87) hx hb dX13_findSign_47 (by decide) (fun c_37 => ?_) (fun c_37 => ?_)
                · rw [if_pos c_37] at hF
                  exact hK36_87 v1 v2 v3 u _ _ _ (lv_sub hl [0, 1, 2, 3] rfl) hH hF
                · rw [if_neg c_37] at hF
                  refine lv_aload_n hx hb dX13_findSign_50 rfl (lv_at hl 0 rfl) ?_
                  refine mg_32 hC hH dX13_findSign_51 ?_
                  refine lv_bipush (v := 10) hx hb dX13_findSign_54 (by decide) ?_
                  refine lv_iload_n hx hb dX13_findSign_56 rfl (lv_at hl 1 rfl) ?_
                  refine lv_imul hx hb dX13_findSign_57 ?_
                  refine lv_iload_n hx hb dX13_findSign_58 rfl (lv_at hl 3 rfl) ?_
                  refine lv_iadd hx hb dX13_findSign_59 ?_
                  obtain ⟨x_38, g_39, e_40, hF⟩ := prd_some hF
                  refine ml_32 hC hH g_39 dX13_findSign_60 ?_
                  refine gx_ti e_40 ?_
                  refine lv_aload_n hx hb dX13_findSign_61 rfl (lv_at hl 0 rfl) ?_
                  refine mg_41 hC hH dX13_findSign_62 ?_
                  refine lv_aload_n hx hb dX13_findSign_65 rfl (lv_at hl 0 rfl) ?_
                  refine mg_44 hC hH dX13_findSign_66 ?_
                  obtain ⟨x_41, e_42, hF⟩ := prf_some hF
                  refine gx_ti e_42 ?_
                  refine lv_iload_n hx hb dX13_findSign_69 rfl (lv_at hl 3 rfl) ?_
                  refine lv_iadd hx hb dX13_findSign_70 ?_
                  obtain ⟨x_43, g_44, e_45, hF⟩ := psr_some hF
                  refine ml_src hC hH g_44 dX13_findSign_71 ?_
                  refine gx_ti e_45 ?_
                  refine lv_icmp_ne (tgt := 79) hx hb dX13_findSign_72 (by decide) (fun c_46 => ?_) (fun c_46 => ?_)
                  · rw [if_neg c_46] at hF
                    refine lv_iconst (v := 0) hx hb dX13_findSign_79 (by decide) ?_
                    refine lv_istore_n (lv' := [(2, .int 0), (0, .ref (Q 72)), (1, .int v1), (3, .int v3)]) hx hb dX13_findSign_80 rfl hl (by decide) rfl (fun ls hl => ?_)
                    obtain ⟨x_47, e_48, hF⟩ := pli_some hF
                    refine lv_iinc (v := x_47) (lv' := [(3, .int x_47), (2, .int 0), (0, .ref (Q 72)), (1, .int v1)]) hx hb dX13_findSign_81 hl (k := 3) rfl e_48 (by decide) rfl (fun ls hl => ?_)
                    refine lv_goto (tgt := 36) hx hb dX13_findSign_84 (by decide) ?_
                    exact ih36 v1 0 x_47 u _ _ _ (lv_sub hl [2, 3, 1, 0] rfl) hH hF
                  · rw [if_pos c_46] at hF
                    refine lv_iconst (v := 1) hx hb dX13_findSign_75 (by decide) ?_
                    refine lv_goto (tgt := 80) hx hb dX13_findSign_76 (by decide) ?_
                    refine lv_istore_n (lv' := [(2, .int 1), (0, .ref (Q 72)), (1, .int v1), (3, .int v3)]) hx hb dX13_findSign_80 rfl hl (by decide) rfl (fun ls hl => ?_)
                    obtain ⟨x_49, e_50, hF⟩ := pli_some hF
                    refine lv_iinc (v := x_49) (lv' := [(3, .int x_49), (2, .int 1), (0, .ref (Q 72)), (1, .int v1)]) hx hb dX13_findSign_81 hl (k := 3) rfl e_50 (by decide) rfl (fun ls hl => ?_)
                    refine lv_goto (tgt := 36) hx hb dX13_findSign_84 (by decide) ?_
                    exact ih36 v1 1 x_49 u _ _ _ (lv_sub hl [2, 3, 1, 0] rfl) hH hF
          refine hL36 _ (fun v1 v2 v3 u H locs ls hl hH hF => ?_) fuel v1 1 0 u _ _ _ (lv_sub hl [2, 3, 1, 0] rfl) hH hF
          refine lv_iload_n hx hb dX13_findSign_87 rfl (lv_at hl 2 rfl) ?_
          refine lv_if_eq (tgt := 93) hx hb dX13_findSign_88 (by decide) (fun c_51 => ?_) (fun c_51 => ?_)
          · rw [if_pos c_51] at hF
            obtain ⟨x_52, e_53, hF⟩ := pli_some hF
            refine lv_iinc (v := x_52) (lv' := [(1, .int x_52), (0, .ref (Q 72)), (2, .int v2), (3, .int v3)]) hx hb dX13_findSign_93 hl (k := 1) rfl e_53 (by decide) rfl (fun ls hl => ?_)
            refine lv_goto (tgt := 2) hx hb dX13_findSign_96 (by decide) ?_
            exact ih2 x_52 u _ _ _ (lv_sub hl [1, 0] rfl) hH hF
          · rw [if_neg c_51] at hF
            refine lv_iload_n hx hb dX13_findSign_91 rfl (lv_at hl 1 rfl) ?_
            have hF := prt_eq hF
            exact mr_i hC hH hr hF dX13_findSign_92 hlocks
  refine hL2 _ (fun v1 u H locs ls hl hH hF => ?_) fuel 0 u _ _ _ (lv_sub hl [1, 0] rfl) hH hF
  refine lv_iconst (v := (-1)) hx hb dX13_findSign_99 (by decide) ?_
  have hF := prt_eq hF
  exact mr_i hC hH hr hF dX13_findSign_100 hlocks
def f_name  : PG (Option Int32) := prf 46 (fun x_1 => (if x_1 = 1 then pcl (f_isQuoted) (fun r_9 => (if r_9 = 0 then prt (some 0) else prf 44 (fun x_13 => pcl (f_wrong 1 x_13) (fun r_15 => prt none)))) else prf 44 (fun x_4 => pcl (f_wrong 1 x_4) (fun r_6 => prt none))))
set_option maxHeartbeats 4000000 in
set_option maxRecDepth 100000 in
theorem m_name (l : Launch) (G : gG) (Z : gM) (Q : Nat → Nat) (u u1 : GS) (r : Int32)  (sz : Nat) (hF : f_name u = some (some r, u1)) : Met l yX13_name (Cond.code yX13_name cX13_name 1 none :: wM) { frames := 7, cells := 0, slots := 0, locals := 149 } (va_Pc [.ref (Q 72)] (mPM G Z Q u.1 sz)) (mQv G Q u1.1 sz) 0 0 (mA Q sz) := by
  refine Met.ofW (cc := cX13_name) (maxL := 1) (ret := none) (by decide) rfl ?_
  intro p e s m args below meth c s₁ B hml hv
  obtain ⟨rfl, rfl, hP, hB, hD, hE⟩ := hv
  have hr := B.returns
  have hlocks := B.notSynchronized
  have hts := atoms_spec (ws := Cond.code yX13_name cX13_name 1 none :: wM) B.pre
  have hC : mX p c cX13_name 1 s m _ G Z Q := ⟨B.exec, B.bytes, hml, findClass_of_methodNamed B.named, fun w h => hts w (List.mem_cons_of_mem _ h), hB, hE⟩
  have hx := hC.1
  have hb := hC.2.1
  have hH : mH G Q u.1 s s.heap [] := ⟨hP, hD, va_S.rf⟩
  have hl := lv_entry ([.ref (Q 72)]) (n := 1) (Nat.le_of_ble_eq_true rfl)
  rw [lg_entry_eq]
  generalize (lg_sl ([.ref (Q 72)]) ++ List.replicate (1 - (lg_sl ([.ref (Q 72)])).length) Slot.unset).toArray = ls at hl ⊢
  have hl : lv_has ls 1 [(0, .ref (Q 72))] := hl
  unfold f_name at hF
  refine lv_aload_n hx hb dX13_name_0 rfl (lv_at hl 0 rfl) ?_
  refine mg_46 hC hH dX13_name_1 ?_
  obtain ⟨x_1, e_2, hF⟩ := prf_some hF
  refine gx_ti e_2 ?_
  refine lv_iconst (v := 1) hx hb dX13_name_4 (by decide) ?_
  refine lv_icmp_ne (tgt := 15) hx hb dX13_name_5 (by decide) (fun c_3 => ?_) (fun c_3 => ?_)
  · rw [if_neg c_3] at hF
    refine lv_aload_n hx hb dX13_name_15 rfl (lv_at hl 0 rfl) ?_
    refine lv_iconst (v := 1) hx hb dX13_name_16 (by decide) ?_
    refine lv_aload_n hx hb dX13_name_17 rfl (lv_at hl 0 rfl) ?_
    refine mg_44 hC hH dX13_name_18 ?_
    obtain ⟨x_4, e_5, hF⟩ := prf_some hF
    refine gx_ti e_5 ?_
    obtain ⟨r_6, u_7, h_8, hF⟩ := pcl_some hF
    refine mcV_r (As := [.int 1, .int x_4]) (rest := []) hC hH (m_wrong l G Z Q u u_7 r_6 1 x_4 _ h_8) kwX13_wrong kVX13_wrong ⟨Nat.le_of_ble_eq_true rfl, Nat.le_of_ble_eq_true rfl⟩ rfl hl.1 rfl (Nat.le_of_ble_eq_true rfl) dX13_name_21 (fun H locs hH => ?_)
    exact (prt_no hF).elim
  · rw [if_pos c_3] at hF
    refine lv_aload_n hx hb dX13_name_8 rfl (lv_at hl 0 rfl) ?_
    obtain ⟨r_9, u_10, h_11, hF⟩ := pcl_some hF
    refine mcV_i (As := []) (rest := []) hC hH (m_isQuoted l G Z Q u u_10 r_9  _ h_11) kwX13_isQuoted kVX13_isQuoted ⟨Nat.le_of_ble_eq_true rfl, Nat.le_of_ble_eq_true rfl⟩ rfl hl.1 rfl (Nat.le_of_ble_eq_true rfl) dX13_name_9 (fun H locs hH => ?_)
    refine lv_if_eq (tgt := 25) hx hb dX13_name_12 (by decide) (fun c_12 => ?_) (fun c_12 => ?_)
    · rw [if_pos c_12] at hF
      have hF := prt_eqS hF
      exact mr_v hC hH hr hF dX13_name_25 hlocks
    · rw [if_neg c_12] at hF
      refine lv_aload_n hx hb dX13_name_15 rfl (lv_at hl 0 rfl) ?_
      refine lv_iconst (v := 1) hx hb dX13_name_16 (by decide) ?_
      refine lv_aload_n hx hb dX13_name_17 rfl (lv_at hl 0 rfl) ?_
      refine mg_44 hC hH dX13_name_18 ?_
      obtain ⟨x_13, e_14, hF⟩ := prf_some hF
      refine gx_ti e_14 ?_
      obtain ⟨r_15, u_16, h_17, hF⟩ := pcl_some hF
      refine mcV_r (As := [.int 1, .int x_13]) (rest := []) hC hH (m_wrong l G Z Q u_10 u_16 r_15 1 x_13 _ h_17) kwX13_wrong kVX13_wrong ⟨Nat.le_of_ble_eq_true rfl, Nat.le_of_ble_eq_true rfl⟩ rfl hl.1 rfl (Nat.le_of_ble_eq_true rfl) dX13_name_21 (fun H locs hH => ?_)
      exact (prt_no hF).elim
set_option maxHeartbeats 4000000 in
set_option maxRecDepth 100000 in
theorem t_name (l : Launch) (G : gG) (Z : gM) (Q : Nat → Nat) (u u1 : GS)  (sz : Nat) (hF : f_name u = some (none, u1)) : MetT l yX13_name (Cond.code yX13_name cX13_name 1 none :: wM) { frames := 7, cells := 0, slots := 0, locals := 149 } (va_Pc [.ref (Q 72)] (mPM G Z Q u.1 sz)) (mQt G Q u1.1 sz) 0 0 (mA Q sz) := by
  refine MetT.ofW (cc := cX13_name) (maxL := 1) (ret := none) (by decide) rfl ?_
  intro p e s m args below meth c s₁ B hml hv
  obtain ⟨rfl, rfl, hP, hB, hD, hE⟩ := hv
  have hr := B.returns
  have hlocks := B.notSynchronized
  have hts := atoms_spec (ws := Cond.code yX13_name cX13_name 1 none :: wM) B.pre
  have hC : mX p c cX13_name 1 s m _ G Z Q := ⟨B.exec, B.bytes, hml, findClass_of_methodNamed B.named, fun w h => hts w (List.mem_cons_of_mem _ h), hB, hE⟩
  have hx := hC.1
  have hb := hC.2.1
  have hH : mH G Q u.1 s s.heap [] := ⟨hP, hD, va_S.rf⟩
  have hno : c.exceptionTable.isEmpty = true := BodyLoose.noHandlers B (hts _ List.mem_cons_self)
  have hl := lv_entry ([.ref (Q 72)]) (n := 1) (Nat.le_of_ble_eq_true rfl)
  rw [lg_entry_eq]
  generalize (lg_sl ([.ref (Q 72)]) ++ List.replicate (1 - (lg_sl ([.ref (Q 72)])).length) Slot.unset).toArray = ls at hl ⊢
  have hl : lv_has ls 1 [(0, .ref (Q 72))] := hl
  unfold f_name at hF
  refine lv_aload_n hx hb dX13_name_0 rfl (lv_at hl 0 rfl) ?_
  refine mg_46 hC hH dX13_name_1 ?_
  obtain ⟨x_1, e_2, hF⟩ := prf_some hF
  refine gx_ti e_2 ?_
  refine lv_iconst (v := 1) hx hb dX13_name_4 (by decide) ?_
  refine lv_icmp_ne (tgt := 15) hx hb dX13_name_5 (by decide) (fun c_3 => ?_) (fun c_3 => ?_)
  · rw [if_neg c_3] at hF
    refine lv_aload_n hx hb dX13_name_15 rfl (lv_at hl 0 rfl) ?_
    refine lv_iconst (v := 1) hx hb dX13_name_16 (by decide) ?_
    refine lv_aload_n hx hb dX13_name_17 rfl (lv_at hl 0 rfl) ?_
    refine mg_44 hC hH dX13_name_18 ?_
    obtain ⟨x_4, e_5, hF⟩ := prf_some hF
    refine gx_ti e_5 ?_
    obtain ⟨r_6, u_7, h_8, hF⟩ := pcl_some hF
    refine mcV_r (As := [.int 1, .int x_4]) (rest := []) hC hH (m_wrong l G Z Q u u_7 r_6 1 x_4 _ h_8) kwX13_wrong kVX13_wrong ⟨Nat.le_of_ble_eq_true rfl, Nat.le_of_ble_eq_true rfl⟩ rfl hl.1 rfl (Nat.le_of_ble_eq_true rfl) dX13_name_21 (fun H locs hH => ?_)
    exact mt_throw hC hH hno (prt_eqT hF) dX13_name_24 hlocks
  · rw [if_pos c_3] at hF
    refine lv_aload_n hx hb dX13_name_8 rfl (lv_at hl 0 rfl) ?_
    obtain ⟨r_9, u_10, h_11, hF⟩ := pcl_some hF
    refine mcV_i (As := []) (rest := []) hC hH (m_isQuoted l G Z Q u u_10 r_9  _ h_11) kwX13_isQuoted kVX13_isQuoted ⟨Nat.le_of_ble_eq_true rfl, Nat.le_of_ble_eq_true rfl⟩ rfl hl.1 rfl (Nat.le_of_ble_eq_true rfl) dX13_name_9 (fun H locs hH => ?_)
    refine lv_if_eq (tgt := 25) hx hb dX13_name_12 (by decide) (fun c_12 => ?_) (fun c_12 => ?_)
    · rw [if_pos c_12] at hF
      exact (prt_no2 hF).elim
    · rw [if_neg c_12] at hF
      refine lv_aload_n hx hb dX13_name_15 rfl (lv_at hl 0 rfl) ?_
      refine lv_iconst (v := 1) hx hb dX13_name_16 (by decide) ?_
      refine lv_aload_n hx hb dX13_name_17 rfl (lv_at hl 0 rfl) ?_
      refine mg_44 hC hH dX13_name_18 ?_
      obtain ⟨x_13, e_14, hF⟩ := prf_some hF
      refine gx_ti e_14 ?_
      obtain ⟨r_15, u_16, h_17, hF⟩ := pcl_some hF
      refine mcV_r (As := [.int 1, .int x_13]) (rest := []) hC hH (m_wrong l G Z Q u_10 u_16 r_15 1 x_13 _ h_17) kwX13_wrong kVX13_wrong ⟨Nat.le_of_ble_eq_true rfl, Nat.le_of_ble_eq_true rfl⟩ rfl hl.1 rfl (Nat.le_of_ble_eq_true rfl) dX13_name_21 (fun H locs hH => ?_)
      exact mt_throw hC hH hno (prt_eqT hF) dX13_name_24 hlocks
def f_counts  : PG (Option Int32) := prf 31 (fun x_1 => prf 51 (fun x_3 => (if (x_1 + x_3) = 300 then prf 44 (fun x_6 => pcl (f_wrong 3 x_6) (fun r_8 => prt none)) else prt (some 0))))
set_option maxHeartbeats 4000000 in
set_option maxRecDepth 100000 in
theorem m_counts (l : Launch) (G : gG) (Z : gM) (Q : Nat → Nat) (u u1 : GS) (r : Int32)  (sz : Nat) (hF : f_counts u = some (some r, u1)) : Met l yX13_counts (Cond.code yX13_counts cX13_counts 1 none :: wM) { frames := 1, cells := 0, slots := 0, locals := 22 } (va_Pc [.ref (Q 72)] (mPM G Z Q u.1 sz)) (mQv G Q u1.1 sz) 0 0 (mA Q sz) := by
  refine Met.ofW (cc := cX13_counts) (maxL := 1) (ret := none) (by decide) rfl ?_
  intro p e s m args below meth c s₁ B hml hv
  obtain ⟨rfl, rfl, hP, hB, hD, hE⟩ := hv
  have hr := B.returns
  have hlocks := B.notSynchronized
  have hts := atoms_spec (ws := Cond.code yX13_counts cX13_counts 1 none :: wM) B.pre
  have hC : mX p c cX13_counts 1 s m _ G Z Q := ⟨B.exec, B.bytes, hml, findClass_of_methodNamed B.named, fun w h => hts w (List.mem_cons_of_mem _ h), hB, hE⟩
  have hx := hC.1
  have hb := hC.2.1
  have hH : mH G Q u.1 s s.heap [] := ⟨hP, hD, va_S.rf⟩
  have hl := lv_entry ([.ref (Q 72)]) (n := 1) (Nat.le_of_ble_eq_true rfl)
  rw [lg_entry_eq]
  generalize (lg_sl ([.ref (Q 72)]) ++ List.replicate (1 - (lg_sl ([.ref (Q 72)])).length) Slot.unset).toArray = ls at hl ⊢
  have hl : lv_has ls 1 [(0, .ref (Q 72))] := hl
  unfold f_counts at hF
  refine lv_aload_n hx hb dX13_counts_0 rfl (lv_at hl 0 rfl) ?_
  refine mg_31 hC hH dX13_counts_1 ?_
  obtain ⟨x_1, e_2, hF⟩ := prf_some hF
  refine gx_ti e_2 ?_
  refine lv_aload_n hx hb dX13_counts_4 rfl (lv_at hl 0 rfl) ?_
  refine mg_51 hC hH dX13_counts_5 ?_
  obtain ⟨x_3, e_4, hF⟩ := prf_some hF
  refine gx_ti e_4 ?_
  refine lv_iadd hx hb dX13_counts_8 ?_
  refine lv_sipush (v := 300) hx hb dX13_counts_9 (by decide) ?_
  refine lv_icmp_ne (tgt := 25) hx hb dX13_counts_12 (by decide) (fun c_5 => ?_) (fun c_5 => ?_)
  · rw [if_neg c_5] at hF
    have hF := prt_eqS hF
    exact mr_v hC hH hr hF dX13_counts_25 hlocks
  · rw [if_pos c_5] at hF
    refine lv_aload_n hx hb dX13_counts_15 rfl (lv_at hl 0 rfl) ?_
    refine lv_iconst (v := 3) hx hb dX13_counts_16 (by decide) ?_
    refine lv_aload_n hx hb dX13_counts_17 rfl (lv_at hl 0 rfl) ?_
    refine mg_44 hC hH dX13_counts_18 ?_
    obtain ⟨x_6, e_7, hF⟩ := prf_some hF
    refine gx_ti e_7 ?_
    obtain ⟨r_8, u_9, h_10, hF⟩ := pcl_some hF
    refine mcV_r (As := [.int 3, .int x_6]) (rest := []) hC hH (m_wrong l G Z Q u u_9 r_8 3 x_6 _ h_10) kwX13_wrong kVX13_wrong ⟨Nat.le_of_ble_eq_true rfl, Nat.le_of_ble_eq_true rfl⟩ rfl hl.1 rfl (Nat.le_of_ble_eq_true rfl) dX13_counts_21 (fun H locs hH => ?_)
    exact (prt_no hF).elim
set_option maxHeartbeats 4000000 in
set_option maxRecDepth 100000 in
theorem t_counts (l : Launch) (G : gG) (Z : gM) (Q : Nat → Nat) (u u1 : GS)  (sz : Nat) (hF : f_counts u = some (none, u1)) : MetT l yX13_counts (Cond.code yX13_counts cX13_counts 1 none :: wM) { frames := 1, cells := 0, slots := 0, locals := 22 } (va_Pc [.ref (Q 72)] (mPM G Z Q u.1 sz)) (mQt G Q u1.1 sz) 0 0 (mA Q sz) := by
  refine MetT.ofW (cc := cX13_counts) (maxL := 1) (ret := none) (by decide) rfl ?_
  intro p e s m args below meth c s₁ B hml hv
  obtain ⟨rfl, rfl, hP, hB, hD, hE⟩ := hv
  have hr := B.returns
  have hlocks := B.notSynchronized
  have hts := atoms_spec (ws := Cond.code yX13_counts cX13_counts 1 none :: wM) B.pre
  have hC : mX p c cX13_counts 1 s m _ G Z Q := ⟨B.exec, B.bytes, hml, findClass_of_methodNamed B.named, fun w h => hts w (List.mem_cons_of_mem _ h), hB, hE⟩
  have hx := hC.1
  have hb := hC.2.1
  have hH : mH G Q u.1 s s.heap [] := ⟨hP, hD, va_S.rf⟩
  have hno : c.exceptionTable.isEmpty = true := BodyLoose.noHandlers B (hts _ List.mem_cons_self)
  have hl := lv_entry ([.ref (Q 72)]) (n := 1) (Nat.le_of_ble_eq_true rfl)
  rw [lg_entry_eq]
  generalize (lg_sl ([.ref (Q 72)]) ++ List.replicate (1 - (lg_sl ([.ref (Q 72)])).length) Slot.unset).toArray = ls at hl ⊢
  have hl : lv_has ls 1 [(0, .ref (Q 72))] := hl
  unfold f_counts at hF
  refine lv_aload_n hx hb dX13_counts_0 rfl (lv_at hl 0 rfl) ?_
  refine mg_31 hC hH dX13_counts_1 ?_
  obtain ⟨x_1, e_2, hF⟩ := prf_some hF
  refine gx_ti e_2 ?_
  refine lv_aload_n hx hb dX13_counts_4 rfl (lv_at hl 0 rfl) ?_
  refine mg_51 hC hH dX13_counts_5 ?_
  obtain ⟨x_3, e_4, hF⟩ := prf_some hF
  refine gx_ti e_4 ?_
  refine lv_iadd hx hb dX13_counts_8 ?_
  refine lv_sipush (v := 300) hx hb dX13_counts_9 (by decide) ?_
  refine lv_icmp_ne (tgt := 25) hx hb dX13_counts_12 (by decide) (fun c_5 => ?_) (fun c_5 => ?_)
  · rw [if_neg c_5] at hF
    exact (prt_no2 hF).elim
  · rw [if_pos c_5] at hF
    refine lv_aload_n hx hb dX13_counts_15 rfl (lv_at hl 0 rfl) ?_
    refine lv_iconst (v := 3) hx hb dX13_counts_16 (by decide) ?_
    refine lv_aload_n hx hb dX13_counts_17 rfl (lv_at hl 0 rfl) ?_
    refine mg_44 hC hH dX13_counts_18 ?_
    obtain ⟨x_6, e_7, hF⟩ := prf_some hF
    refine gx_ti e_7 ?_
    obtain ⟨r_8, u_9, h_10, hF⟩ := pcl_some hF
    refine mcV_r (As := [.int 3, .int x_6]) (rest := []) hC hH (m_wrong l G Z Q u u_9 r_8 3 x_6 _ h_10) kwX13_wrong kVX13_wrong ⟨Nat.le_of_ble_eq_true rfl, Nat.le_of_ble_eq_true rfl⟩ rfl hl.1 rfl (Nat.le_of_ble_eq_true rfl) dX13_counts_21 (fun H locs hH => ?_)
    exact mt_throw hC hH hno (prt_eqT hF) dX13_counts_24 hlocks
def f_hold  : PG (Option Int32) := pcl (f_counts) (fun r_1 => pot r_1 (prt none) (fun r_4 => prf 51 (fun x_5 => pwf 51 (x_5 + 1) (prt (some 0)))))
set_option maxHeartbeats 4000000 in
set_option maxRecDepth 100000 in
theorem m_hold (l : Launch) (G : gG) (Z : gM) (Q : Nat → Nat) (u u1 : GS) (r : Int32)  (sz : Nat) (hF : f_hold u = some (some r, u1)) : Met l yX13_hold (Cond.code yX13_hold cX13_hold 1 none :: wM) { frames := 2, cells := 0, slots := 0, locals := 42 } (va_Pc [.ref (Q 72)] (mPM G Z Q u.1 sz)) (mQv G Q u1.1 sz) 0 0 (mA Q sz) := by
  refine Met.ofW (cc := cX13_hold) (maxL := 1) (ret := none) (by decide) rfl ?_
  intro p e s m args below meth c s₁ B hml hv
  obtain ⟨rfl, rfl, hP, hB, hD, hE⟩ := hv
  have hr := B.returns
  have hlocks := B.notSynchronized
  have hts := atoms_spec (ws := Cond.code yX13_hold cX13_hold 1 none :: wM) B.pre
  have hC : mX p c cX13_hold 1 s m _ G Z Q := ⟨B.exec, B.bytes, hml, findClass_of_methodNamed B.named, fun w h => hts w (List.mem_cons_of_mem _ h), hB, hE⟩
  have hx := hC.1
  have hb := hC.2.1
  have hH : mH G Q u.1 s s.heap [] := ⟨hP, hD, va_S.rf⟩
  have hl := lv_entry ([.ref (Q 72)]) (n := 1) (Nat.le_of_ble_eq_true rfl)
  rw [lg_entry_eq]
  generalize (lg_sl ([.ref (Q 72)]) ++ List.replicate (1 - (lg_sl ([.ref (Q 72)])).length) Slot.unset).toArray = ls at hl ⊢
  have hl : lv_has ls 1 [(0, .ref (Q 72))] := hl
  unfold f_hold at hF
  refine lv_aload_n hx hb dX13_hold_0 rfl (lv_at hl 0 rfl) ?_
  obtain ⟨r_1, u_2, h_3, hF⟩ := pcl_some hF
  cases r_1 with
  | none =>
    have hF := pot_none hF
    exact (prt_no hF).elim
  | some r_4 =>
    have hF := pot_some hF
    refine mcV_v (As := []) (rest := []) hC hH (m_counts l G Z Q u u_2 r_4  _ h_3) kwX13_counts kVX13_counts ⟨Nat.le_of_ble_eq_true rfl, Nat.le_of_ble_eq_true rfl⟩ rfl hl.1 rfl (Nat.le_of_ble_eq_true rfl) dX13_hold_1 (fun H locs hH => ?_)
    refine lv_aload_n hx hb dX13_hold_4 rfl (lv_at hl 0 rfl) ?_
    refine lv_dup hx hb dX13_hold_5 rfl ?_
    refine mg_51 hC hH dX13_hold_6 ?_
    obtain ⟨x_5, e_6, hF⟩ := prf_some hF
    refine gx_ti e_6 ?_
    refine lv_iconst (v := 1) hx hb dX13_hold_9 (by decide) ?_
    refine lv_iadd hx hb dX13_hold_10 ?_
    obtain ⟨u_7, e_8, hF⟩ := pwf_some hF
    refine mp_51 hC hH e_8 dX13_hold_11 (fun H locs hH => ?_)
    have hF := prt_eqS hF
    exact mr_v hC hH hr hF dX13_hold_14 hlocks
set_option maxHeartbeats 4000000 in
set_option maxRecDepth 100000 in
theorem t_hold (l : Launch) (G : gG) (Z : gM) (Q : Nat → Nat) (u u1 : GS)  (sz : Nat) (hF : f_hold u = some (none, u1)) : MetT l yX13_hold (Cond.code yX13_hold cX13_hold 1 none :: wM) { frames := 2, cells := 0, slots := 0, locals := 42 } (va_Pc [.ref (Q 72)] (mPM G Z Q u.1 sz)) (mQt G Q u1.1 sz) 0 0 (mA Q sz) := by
  refine MetT.ofW (cc := cX13_hold) (maxL := 1) (ret := none) (by decide) rfl ?_
  intro p e s m args below meth c s₁ B hml hv
  obtain ⟨rfl, rfl, hP, hB, hD, hE⟩ := hv
  have hr := B.returns
  have hlocks := B.notSynchronized
  have hts := atoms_spec (ws := Cond.code yX13_hold cX13_hold 1 none :: wM) B.pre
  have hC : mX p c cX13_hold 1 s m _ G Z Q := ⟨B.exec, B.bytes, hml, findClass_of_methodNamed B.named, fun w h => hts w (List.mem_cons_of_mem _ h), hB, hE⟩
  have hx := hC.1
  have hb := hC.2.1
  have hH : mH G Q u.1 s s.heap [] := ⟨hP, hD, va_S.rf⟩
  have hno : c.exceptionTable.isEmpty = true := BodyLoose.noHandlers B (hts _ List.mem_cons_self)
  have hl := lv_entry ([.ref (Q 72)]) (n := 1) (Nat.le_of_ble_eq_true rfl)
  rw [lg_entry_eq]
  generalize (lg_sl ([.ref (Q 72)]) ++ List.replicate (1 - (lg_sl ([.ref (Q 72)])).length) Slot.unset).toArray = ls at hl ⊢
  have hl : lv_has ls 1 [(0, .ref (Q 72))] := hl
  unfold f_hold at hF
  refine lv_aload_n hx hb dX13_hold_0 rfl (lv_at hl 0 rfl) ?_
  obtain ⟨r_1, u_2, h_3, hF⟩ := pcl_some hF
  cases r_1 with
  | none =>
    have hF := pot_none hF
    exact mt_pass hH (mt_run (As := []) (rest := []) hC hH (t_counts l G Z Q u u_2  _ h_3) kwX13_counts kVX13_counts ⟨Nat.le_of_ble_eq_true rfl, Nat.le_of_ble_eq_true rfl⟩ rfl hl.1 rfl (Nat.le_of_ble_eq_true rfl) dX13_hold_1) hno hlocks (prt_eqT hF)
  | some r_4 =>
    have hF := pot_some hF
    refine mcV_v (As := []) (rest := []) hC hH (m_counts l G Z Q u u_2 r_4  _ h_3) kwX13_counts kVX13_counts ⟨Nat.le_of_ble_eq_true rfl, Nat.le_of_ble_eq_true rfl⟩ rfl hl.1 rfl (Nat.le_of_ble_eq_true rfl) dX13_hold_1 (fun H locs hH => ?_)
    refine lv_aload_n hx hb dX13_hold_4 rfl (lv_at hl 0 rfl) ?_
    refine lv_dup hx hb dX13_hold_5 rfl ?_
    refine mg_51 hC hH dX13_hold_6 ?_
    obtain ⟨x_5, e_6, hF⟩ := prf_some hF
    refine gx_ti e_6 ?_
    refine lv_iconst (v := 1) hx hb dX13_hold_9 (by decide) ?_
    refine lv_iadd hx hb dX13_hold_10 ?_
    obtain ⟨u_7, e_8, hF⟩ := pwf_some hF
    refine mp_51 hC hH e_8 dX13_hold_11 (fun H locs hH => ?_)
    exact (prt_no2 hF).elim
def f_opens  : PG (Option Int32) := prf 48 (fun x_1 => (if x_1 = 8 then prf 44 (fun x_11 => pcl (f_wrong 3 x_11) (fun r_13 => prt none)) else prf 48 (fun x_4 => pwf 48 (x_4 + 1) (pcl (f_scan) (fun r_8 => prt (some 0))))))
set_option maxHeartbeats 4000000 in
set_option maxRecDepth 100000 in
theorem m_opens (l : Launch) (G : gG) (Z : gM) (Q : Nat → Nat) (u u1 : GS) (r : Int32)  (sz : Nat) (hF : f_opens u = some (some r, u1)) : Met l yX13_opens (Cond.code yX13_opens cX13_opens 1 none :: wM) { frames := 5, cells := 0, slots := 0, locals := 113 } (va_Pc [.ref (Q 72)] (mPM G Z Q u.1 sz)) (mQv G Q u1.1 sz) 0 0 (mA Q sz) := by
  refine Met.ofW (cc := cX13_opens) (maxL := 1) (ret := none) (by decide) rfl ?_
  intro p e s m args below meth c s₁ B hml hv
  obtain ⟨rfl, rfl, hP, hB, hD, hE⟩ := hv
  have hr := B.returns
  have hlocks := B.notSynchronized
  have hts := atoms_spec (ws := Cond.code yX13_opens cX13_opens 1 none :: wM) B.pre
  have hC : mX p c cX13_opens 1 s m _ G Z Q := ⟨B.exec, B.bytes, hml, findClass_of_methodNamed B.named, fun w h => hts w (List.mem_cons_of_mem _ h), hB, hE⟩
  have hx := hC.1
  have hb := hC.2.1
  have hH : mH G Q u.1 s s.heap [] := ⟨hP, hD, va_S.rf⟩
  have hl := lv_entry ([.ref (Q 72)]) (n := 1) (Nat.le_of_ble_eq_true rfl)
  rw [lg_entry_eq]
  generalize (lg_sl ([.ref (Q 72)]) ++ List.replicate (1 - (lg_sl ([.ref (Q 72)])).length) Slot.unset).toArray = ls at hl ⊢
  have hl : lv_has ls 1 [(0, .ref (Q 72))] := hl
  unfold f_opens at hF
  refine lv_aload_n hx hb dX13_opens_0 rfl (lv_at hl 0 rfl) ?_
  refine mg_48 hC hH dX13_opens_1 ?_
  obtain ⟨x_1, e_2, hF⟩ := prf_some hF
  refine gx_ti e_2 ?_
  refine lv_bipush (v := 8) hx hb dX13_opens_4 (by decide) ?_
  refine lv_icmp_ne (tgt := 19) hx hb dX13_opens_6 (by decide) (fun c_3 => ?_) (fun c_3 => ?_)
  · rw [if_neg c_3] at hF
    refine lv_aload_n hx hb dX13_opens_19 rfl (lv_at hl 0 rfl) ?_
    refine lv_dup hx hb dX13_opens_20 rfl ?_
    refine mg_48 hC hH dX13_opens_21 ?_
    obtain ⟨x_4, e_5, hF⟩ := prf_some hF
    refine gx_ti e_5 ?_
    refine lv_iconst (v := 1) hx hb dX13_opens_24 (by decide) ?_
    refine lv_iadd hx hb dX13_opens_25 ?_
    obtain ⟨u_6, e_7, hF⟩ := pwf_some hF
    refine mp_48 hC hH e_7 dX13_opens_26 (fun H locs hH => ?_)
    refine lv_aload_n hx hb dX13_opens_29 rfl (lv_at hl 0 rfl) ?_
    obtain ⟨r_8, u_9, h_10, hF⟩ := pcl_some hF
    refine mcV_v (As := []) (rest := []) hC hH (m_scan l G Z Q u_6 u_9 r_8  _ h_10) kwX13_scan kVX13_scan ⟨Nat.le_of_ble_eq_true rfl, Nat.le_of_ble_eq_true rfl⟩ rfl hl.1 rfl (Nat.le_of_ble_eq_true rfl) dX13_opens_30 (fun H locs hH => ?_)
    have hF := prt_eqS hF
    exact mr_v hC hH hr hF dX13_opens_33 hlocks
  · rw [if_pos c_3] at hF
    refine lv_aload_n hx hb dX13_opens_9 rfl (lv_at hl 0 rfl) ?_
    refine lv_iconst (v := 3) hx hb dX13_opens_10 (by decide) ?_
    refine lv_aload_n hx hb dX13_opens_11 rfl (lv_at hl 0 rfl) ?_
    refine mg_44 hC hH dX13_opens_12 ?_
    obtain ⟨x_11, e_12, hF⟩ := prf_some hF
    refine gx_ti e_12 ?_
    obtain ⟨r_13, u_14, h_15, hF⟩ := pcl_some hF
    refine mcV_r (As := [.int 3, .int x_11]) (rest := []) hC hH (m_wrong l G Z Q u u_14 r_13 3 x_11 _ h_15) kwX13_wrong kVX13_wrong ⟨Nat.le_of_ble_eq_true rfl, Nat.le_of_ble_eq_true rfl⟩ rfl hl.1 rfl (Nat.le_of_ble_eq_true rfl) dX13_opens_15 (fun H locs hH => ?_)
    exact (prt_no hF).elim
set_option maxHeartbeats 4000000 in
set_option maxRecDepth 100000 in
theorem t_opens (l : Launch) (G : gG) (Z : gM) (Q : Nat → Nat) (u u1 : GS)  (sz : Nat) (hF : f_opens u = some (none, u1)) : MetT l yX13_opens (Cond.code yX13_opens cX13_opens 1 none :: wM) { frames := 5, cells := 0, slots := 0, locals := 113 } (va_Pc [.ref (Q 72)] (mPM G Z Q u.1 sz)) (mQt G Q u1.1 sz) 0 0 (mA Q sz) := by
  refine MetT.ofW (cc := cX13_opens) (maxL := 1) (ret := none) (by decide) rfl ?_
  intro p e s m args below meth c s₁ B hml hv
  obtain ⟨rfl, rfl, hP, hB, hD, hE⟩ := hv
  have hr := B.returns
  have hlocks := B.notSynchronized
  have hts := atoms_spec (ws := Cond.code yX13_opens cX13_opens 1 none :: wM) B.pre
  have hC : mX p c cX13_opens 1 s m _ G Z Q := ⟨B.exec, B.bytes, hml, findClass_of_methodNamed B.named, fun w h => hts w (List.mem_cons_of_mem _ h), hB, hE⟩
  have hx := hC.1
  have hb := hC.2.1
  have hH : mH G Q u.1 s s.heap [] := ⟨hP, hD, va_S.rf⟩
  have hno : c.exceptionTable.isEmpty = true := BodyLoose.noHandlers B (hts _ List.mem_cons_self)
  have hl := lv_entry ([.ref (Q 72)]) (n := 1) (Nat.le_of_ble_eq_true rfl)
  rw [lg_entry_eq]
  generalize (lg_sl ([.ref (Q 72)]) ++ List.replicate (1 - (lg_sl ([.ref (Q 72)])).length) Slot.unset).toArray = ls at hl ⊢
  have hl : lv_has ls 1 [(0, .ref (Q 72))] := hl
  unfold f_opens at hF
  refine lv_aload_n hx hb dX13_opens_0 rfl (lv_at hl 0 rfl) ?_
  refine mg_48 hC hH dX13_opens_1 ?_
  obtain ⟨x_1, e_2, hF⟩ := prf_some hF
  refine gx_ti e_2 ?_
  refine lv_bipush (v := 8) hx hb dX13_opens_4 (by decide) ?_
  refine lv_icmp_ne (tgt := 19) hx hb dX13_opens_6 (by decide) (fun c_3 => ?_) (fun c_3 => ?_)
  · rw [if_neg c_3] at hF
    refine lv_aload_n hx hb dX13_opens_19 rfl (lv_at hl 0 rfl) ?_
    refine lv_dup hx hb dX13_opens_20 rfl ?_
    refine mg_48 hC hH dX13_opens_21 ?_
    obtain ⟨x_4, e_5, hF⟩ := prf_some hF
    refine gx_ti e_5 ?_
    refine lv_iconst (v := 1) hx hb dX13_opens_24 (by decide) ?_
    refine lv_iadd hx hb dX13_opens_25 ?_
    obtain ⟨u_6, e_7, hF⟩ := pwf_some hF
    refine mp_48 hC hH e_7 dX13_opens_26 (fun H locs hH => ?_)
    refine lv_aload_n hx hb dX13_opens_29 rfl (lv_at hl 0 rfl) ?_
    obtain ⟨r_8, u_9, h_10, hF⟩ := pcl_some hF
    refine mcV_v (As := []) (rest := []) hC hH (m_scan l G Z Q u_6 u_9 r_8  _ h_10) kwX13_scan kVX13_scan ⟨Nat.le_of_ble_eq_true rfl, Nat.le_of_ble_eq_true rfl⟩ rfl hl.1 rfl (Nat.le_of_ble_eq_true rfl) dX13_opens_30 (fun H locs hH => ?_)
    exact (prt_no2 hF).elim
  · rw [if_pos c_3] at hF
    refine lv_aload_n hx hb dX13_opens_9 rfl (lv_at hl 0 rfl) ?_
    refine lv_iconst (v := 3) hx hb dX13_opens_10 (by decide) ?_
    refine lv_aload_n hx hb dX13_opens_11 rfl (lv_at hl 0 rfl) ?_
    refine mg_44 hC hH dX13_opens_12 ?_
    obtain ⟨x_11, e_12, hF⟩ := prf_some hF
    refine gx_ti e_12 ?_
    obtain ⟨r_13, u_14, h_15, hF⟩ := pcl_some hF
    refine mcV_r (As := [.int 3, .int x_11]) (rest := []) hC hH (m_wrong l G Z Q u u_14 r_13 3 x_11 _ h_15) kwX13_wrong kVX13_wrong ⟨Nat.le_of_ble_eq_true rfl, Nat.le_of_ble_eq_true rfl⟩ rfl hl.1 rfl (Nat.le_of_ble_eq_true rfl) dX13_opens_15 (fun H locs hH => ?_)
    exact mt_throw hC hH hno (prt_eqT hF) dX13_opens_18 hlocks
def f_readTerm  : PG (Option Int32) := prf 46 (fun x_1 => (if x_1 = 2 then pcl (f_counts) (fun r_143 => pot r_143 (prt none) (fun r_146 => prf 47 (fun x_147 => pcl (f_put 0 x_147) (fun r_149 => pcl (f_scan) (fun r_152 => prt (some 0)))))) else pcl (f_is 13) (fun r_4 => (if r_4 = 0 then pcl (f_is 11) (fun r_8 => (if r_8 = 0 then pcl (f_is 12) (fun r_68 => (if r_68 = 0 then prf 44 (fun x_128 => pcl (f_wrong 1 x_128) (fun r_130 => prt none)) else pcl (f_is 11) (fun r_72 => (if r_72 = 0 then pcl (f_counts) (fun r_76 => pot r_76 (prt none) (fun r_79 => pcl (f_scan) (fun r_80 => pcl (f_name) (fun r_83 => pot r_83 (prt none) (fun r_86 => pcl (f_findSign) (fun r_87 => (if r_87 = (-1) then prf 44 (fun x_97 => pcl (f_wrong 2 x_97) (fun r_99 => prt none)) else pcl (f_put 2 r_87) (fun r_91 => pcl (f_scan) (fun r_94 => prt (some 0)))))))))) else pcl (f_counts) (fun r_102 => pot r_102 (prt none) (fun r_105 => pcl (f_scan) (fun r_106 => pcl (f_name) (fun r_109 => pot r_109 (prt none) (fun r_112 => pcl (f_findSign) (fun r_113 => (if r_113 = (-1) then prf 44 (fun x_123 => pcl (f_wrong 2 x_123) (fun r_125 => prt none)) else pcl (f_put 1 r_113) (fun r_117 => pcl (f_scan) (fun r_120 => prt (some 0)))))))))))))) else pcl (f_is 11) (fun r_12 => (if r_12 = 0 then pcl (f_counts) (fun r_16 => pot r_16 (prt none) (fun r_19 => pcl (f_scan) (fun r_20 => pcl (f_name) (fun r_23 => pot r_23 (prt none) (fun r_26 => pcl (f_findSign) (fun r_27 => (if r_27 = (-1) then prf 44 (fun x_37 => pcl (f_wrong 2 x_37) (fun r_39 => prt none)) else pcl (f_put 2 r_27) (fun r_31 => pcl (f_scan) (fun r_34 => prt (some 0)))))))))) else pcl (f_counts) (fun r_42 => pot r_42 (prt none) (fun r_45 => pcl (f_scan) (fun r_46 => pcl (f_name) (fun r_49 => pot r_49 (prt none) (fun r_52 => pcl (f_findSign) (fun r_53 => (if r_53 = (-1) then prf 44 (fun x_63 => pcl (f_wrong 2 x_63) (fun r_65 => prt none)) else pcl (f_put 1 r_53) (fun r_57 => pcl (f_scan) (fun r_60 => prt (some 0)))))))))))))) else pcl (f_counts) (fun r_133 => pot r_133 (prt none) (fun r_136 => pcl (f_put 3 0) (fun r_137 => pcl (f_scan) (fun r_140 => prt (some 0)))))))))
set_option maxHeartbeats 4000000 in
set_option maxRecDepth 100000 in
theorem m_readTerm (l : Launch) (G : gG) (Z : gM) (Q : Nat → Nat) (u u1 : GS) (r : Int32)  (sz : Nat) (hF : f_readTerm u = some (some r, u1)) : Met l yX13_readTerm (Cond.code yX13_readTerm cX13_readTerm 3 none :: wM) { frames := 8, cells := 0, slots := 0, locals := 169 } (va_Pc [.ref (Q 72)] (mPM G Z Q u.1 sz)) (mQv G Q u1.1 sz) 0 0 (mA Q sz) := by
  refine Met.ofW (cc := cX13_readTerm) (maxL := 3) (ret := none) (by decide) rfl ?_
  intro p e s m args below meth c s₁ B hml hv
  obtain ⟨rfl, rfl, hP, hB, hD, hE⟩ := hv
  have hr := B.returns
  have hlocks := B.notSynchronized
  have hts := atoms_spec (ws := Cond.code yX13_readTerm cX13_readTerm 3 none :: wM) B.pre
  have hC : mX p c cX13_readTerm 3 s m _ G Z Q := ⟨B.exec, B.bytes, hml, findClass_of_methodNamed B.named, fun w h => hts w (List.mem_cons_of_mem _ h), hB, hE⟩
  have hx := hC.1
  have hb := hC.2.1
  have hH : mH G Q u.1 s s.heap [] := ⟨hP, hD, va_S.rf⟩
  have hl := lv_entry ([.ref (Q 72)]) (n := 3) (Nat.le_of_ble_eq_true rfl)
  rw [lg_entry_eq]
  generalize (lg_sl ([.ref (Q 72)]) ++ List.replicate (3 - (lg_sl ([.ref (Q 72)])).length) Slot.unset).toArray = ls at hl ⊢
  have hl : lv_has ls 3 [(0, .ref (Q 72))] := hl
  unfold f_readTerm at hF
  refine lv_aload_n hx hb dX13_readTerm_0 rfl (lv_at hl 0 rfl) ?_
  refine mg_46 hC hH dX13_readTerm_1 ?_
  obtain ⟨x_1, e_2, hF⟩ := prf_some hF
  refine gx_ti e_2 ?_
  refine lv_iconst (v := 2) hx hb dX13_readTerm_4 (by decide) ?_
  refine lv_icmp_ne (tgt := 26) hx hb dX13_readTerm_5 (by decide) (fun c_3 => ?_) (fun c_3 => ?_)
  · rw [if_neg c_3] at hF
    refine lv_aload_n hx hb dX13_readTerm_26 rfl (lv_at hl 0 rfl) ?_
    refine th_ldcw (tx := sTx 13) hx hb hC.2.2.2.1 (hC.2.2.2.2.2.2.2.2.1 13 (by decide)) dX13_readTerm_27 ?_
    obtain ⟨r_4, u_5, h_6, hF⟩ := pcl_some hF
    refine mcV_i (As := [.ref (Z.1 13)]) (rest := []) hC hH (m_is l G Z Q u u_5 r_4 13 _ h_6 (by decide)) kwX13_is kVX13_is ⟨Nat.le_of_ble_eq_true rfl, Nat.le_of_ble_eq_true rfl⟩ rfl hl.1 rfl (Nat.le_of_ble_eq_true rfl) dX13_readTerm_30 (fun H locs hH => ?_)
    refine lv_if_eq (tgt := 51) hx hb dX13_readTerm_33 (by decide) (fun c_7 => ?_) (fun c_7 => ?_)
    · rw [if_pos c_7] at hF
      refine lv_aload_n hx hb dX13_readTerm_51 rfl (lv_at hl 0 rfl) ?_
      refine th_ldcw (tx := sTx 11) hx hb hC.2.2.2.1 (hC.2.2.2.2.2.2.2.2.1 11 (by decide)) dX13_readTerm_52 ?_
      obtain ⟨r_8, u_9, h_10, hF⟩ := pcl_some hF
      refine mcV_i (As := [.ref (Z.1 11)]) (rest := []) hC hH (m_is l G Z Q u_5 u_9 r_8 11 _ h_10 (by decide)) kwX13_is kVX13_is ⟨Nat.le_of_ble_eq_true rfl, Nat.le_of_ble_eq_true rfl⟩ rfl hl.1 rfl (Nat.le_of_ble_eq_true rfl) dX13_readTerm_55 (fun H locs hH => ?_)
      refine lv_if_ne (tgt := 81) hx hb dX13_readTerm_58 (by decide) (fun c_11 => ?_) (fun c_11 => ?_)
      · rw [if_neg c_11] at hF
        refine lv_aload_n hx hb dX13_readTerm_81 rfl (lv_at hl 0 rfl) ?_
        refine th_ldcw (tx := sTx 11) hx hb hC.2.2.2.1 (hC.2.2.2.2.2.2.2.2.1 11 (by decide)) dX13_readTerm_82 ?_
        obtain ⟨r_12, u_13, h_14, hF⟩ := pcl_some hF
        refine mcV_i (As := [.ref (Z.1 11)]) (rest := []) hC hH (m_is l G Z Q u_9 u_13 r_12 11 _ h_14 (by decide)) kwX13_is kVX13_is ⟨Nat.le_of_ble_eq_true rfl, Nat.le_of_ble_eq_true rfl⟩ rfl hl.1 rfl (Nat.le_of_ble_eq_true rfl) dX13_readTerm_85 (fun H locs hH => ?_)
        refine lv_if_eq (tgt := 95) hx hb dX13_readTerm_88 (by decide) (fun c_15 => ?_) (fun c_15 => ?_)
        · rw [if_pos c_15] at hF
          refine lv_iconst (v := 2) hx hb dX13_readTerm_95 (by decide) ?_
          refine lv_istore_n (lv' := [(1, .int 2), (0, .ref (Q 72))]) hx hb dX13_readTerm_96 rfl hl (by decide) rfl (fun ls hl => ?_)
          refine lv_aload_n hx hb dX13_readTerm_97 rfl (lv_at hl 1 rfl) ?_
          obtain ⟨r_16, u_17, h_18, hF⟩ := pcl_some hF
          cases r_16 with
          | none =>
            have hF := pot_none hF
            exact (prt_no hF).elim
          | some r_19 =>
            have hF := pot_some hF
            refine mcV_v (As := []) (rest := []) hC hH (m_counts l G Z Q u_13 u_17 r_19  _ h_18) kwX13_counts kVX13_counts ⟨Nat.le_of_ble_eq_true rfl, Nat.le_of_ble_eq_true rfl⟩ rfl hl.1 rfl (Nat.le_of_ble_eq_true rfl) dX13_readTerm_98 (fun H locs hH => ?_)
            refine lv_aload_n hx hb dX13_readTerm_101 rfl (lv_at hl 1 rfl) ?_
            obtain ⟨r_20, u_21, h_22, hF⟩ := pcl_some hF
            refine mcV_v (As := []) (rest := []) hC hH (m_scan l G Z Q u_17 u_21 r_20  _ h_22) kwX13_scan kVX13_scan ⟨Nat.le_of_ble_eq_true rfl, Nat.le_of_ble_eq_true rfl⟩ rfl hl.1 rfl (Nat.le_of_ble_eq_true rfl) dX13_readTerm_102 (fun H locs hH => ?_)
            refine lv_aload_n hx hb dX13_readTerm_105 rfl (lv_at hl 1 rfl) ?_
            obtain ⟨r_23, u_24, h_25, hF⟩ := pcl_some hF
            cases r_23 with
            | none =>
              have hF := pot_none hF
              exact (prt_no hF).elim
            | some r_26 =>
              have hF := pot_some hF
              refine mcV_v (As := []) (rest := []) hC hH (m_name l G Z Q u_21 u_24 r_26  _ h_25) kwX13_name kVX13_name ⟨Nat.le_of_ble_eq_true rfl, Nat.le_of_ble_eq_true rfl⟩ rfl hl.1 rfl (Nat.le_of_ble_eq_true rfl) dX13_readTerm_106 (fun H locs hH => ?_)
              refine lv_aload_n hx hb dX13_readTerm_109 rfl (lv_at hl 1 rfl) ?_
              obtain ⟨r_27, u_28, h_29, hF⟩ := pcl_some hF
              refine mcV_i (As := []) (rest := []) hC hH (m_findSign l G Z Q u_24 u_28 r_27  _ h_29) kwX13_findSign kVX13_findSign ⟨Nat.le_of_ble_eq_true rfl, Nat.le_of_ble_eq_true rfl⟩ rfl hl.1 rfl (Nat.le_of_ble_eq_true rfl) dX13_readTerm_110 (fun H locs hH => ?_)
              refine lv_istore_n (lv' := [(2, .int r_27), (1, .int 2), (0, .ref (Q 72))]) hx hb dX13_readTerm_113 rfl hl (by decide) rfl (fun ls hl => ?_)
              refine lv_iload_n hx hb dX13_readTerm_114 rfl (lv_at hl 0 rfl) ?_
              refine lv_iconst (v := (-1)) hx hb dX13_readTerm_115 (by decide) ?_
              refine lv_icmp_ne (tgt := 129) hx hb dX13_readTerm_116 (by decide) (fun c_30 => ?_) (fun c_30 => ?_)
              · rw [if_neg c_30] at hF
                refine lv_aload_n hx hb dX13_readTerm_129 rfl (lv_at hl 2 rfl) ?_
                refine lv_iload_n hx hb dX13_readTerm_130 rfl (lv_at hl 1 rfl) ?_
                refine lv_iload_n hx hb dX13_readTerm_131 rfl (lv_at hl 0 rfl) ?_
                obtain ⟨r_31, u_32, h_33, hF⟩ := pcl_some hF
                refine mcV_v (As := [.int 2, .int r_27]) (rest := []) hC hH (m_put l G Z Q u_28 u_32 r_31 2 r_27 _ h_33) kwX13_put kVX13_put ⟨Nat.le_of_ble_eq_true rfl, Nat.le_of_ble_eq_true rfl⟩ rfl hl.1 rfl (Nat.le_of_ble_eq_true rfl) dX13_readTerm_132 (fun H locs hH => ?_)
                refine lv_aload_n hx hb dX13_readTerm_135 rfl (lv_at hl 2 rfl) ?_
                obtain ⟨r_34, u_35, h_36, hF⟩ := pcl_some hF
                refine mcV_v (As := []) (rest := []) hC hH (m_scan l G Z Q u_32 u_35 r_34  _ h_36) kwX13_scan kVX13_scan ⟨Nat.le_of_ble_eq_true rfl, Nat.le_of_ble_eq_true rfl⟩ rfl hl.1 rfl (Nat.le_of_ble_eq_true rfl) dX13_readTerm_136 (fun H locs hH => ?_)
                have hF := prt_eqS hF
                exact mr_v hC hH hr hF dX13_readTerm_139 hlocks
              · rw [if_pos c_30] at hF
                refine lv_aload_n hx hb dX13_readTerm_119 rfl (lv_at hl 2 rfl) ?_
                refine lv_iconst (v := 2) hx hb dX13_readTerm_120 (by decide) ?_
                refine lv_aload_n hx hb dX13_readTerm_121 rfl (lv_at hl 2 rfl) ?_
                refine mg_44 hC hH dX13_readTerm_122 ?_
                obtain ⟨x_37, e_38, hF⟩ := prf_some hF
                refine gx_ti e_38 ?_
                obtain ⟨r_39, u_40, h_41, hF⟩ := pcl_some hF
                refine mcV_r (As := [.int 2, .int x_37]) (rest := []) hC hH (m_wrong l G Z Q u_28 u_40 r_39 2 x_37 _ h_41) kwX13_wrong kVX13_wrong ⟨Nat.le_of_ble_eq_true rfl, Nat.le_of_ble_eq_true rfl⟩ rfl hl.1 rfl (Nat.le_of_ble_eq_true rfl) dX13_readTerm_125 (fun H locs hH => ?_)
                exact (prt_no hF).elim
        · rw [if_neg c_15] at hF
          refine lv_iconst (v := 1) hx hb dX13_readTerm_91 (by decide) ?_
          refine lv_goto (tgt := 96) hx hb dX13_readTerm_92 (by decide) ?_
          refine lv_istore_n (lv' := [(1, .int 1), (0, .ref (Q 72))]) hx hb dX13_readTerm_96 rfl hl (by decide) rfl (fun ls hl => ?_)
          refine lv_aload_n hx hb dX13_readTerm_97 rfl (lv_at hl 1 rfl) ?_
          obtain ⟨r_42, u_43, h_44, hF⟩ := pcl_some hF
          cases r_42 with
          | none =>
            have hF := pot_none hF
            exact (prt_no hF).elim
          | some r_45 =>
            have hF := pot_some hF
            refine mcV_v (As := []) (rest := []) hC hH (m_counts l G Z Q u_13 u_43 r_45  _ h_44) kwX13_counts kVX13_counts ⟨Nat.le_of_ble_eq_true rfl, Nat.le_of_ble_eq_true rfl⟩ rfl hl.1 rfl (Nat.le_of_ble_eq_true rfl) dX13_readTerm_98 (fun H locs hH => ?_)
            refine lv_aload_n hx hb dX13_readTerm_101 rfl (lv_at hl 1 rfl) ?_
            obtain ⟨r_46, u_47, h_48, hF⟩ := pcl_some hF
            refine mcV_v (As := []) (rest := []) hC hH (m_scan l G Z Q u_43 u_47 r_46  _ h_48) kwX13_scan kVX13_scan ⟨Nat.le_of_ble_eq_true rfl, Nat.le_of_ble_eq_true rfl⟩ rfl hl.1 rfl (Nat.le_of_ble_eq_true rfl) dX13_readTerm_102 (fun H locs hH => ?_)
            refine lv_aload_n hx hb dX13_readTerm_105 rfl (lv_at hl 1 rfl) ?_
            obtain ⟨r_49, u_50, h_51, hF⟩ := pcl_some hF
            cases r_49 with
            | none =>
              have hF := pot_none hF
              exact (prt_no hF).elim
            | some r_52 =>
              have hF := pot_some hF
              refine mcV_v (As := []) (rest := []) hC hH (m_name l G Z Q u_47 u_50 r_52  _ h_51) kwX13_name kVX13_name ⟨Nat.le_of_ble_eq_true rfl, Nat.le_of_ble_eq_true rfl⟩ rfl hl.1 rfl (Nat.le_of_ble_eq_true rfl) dX13_readTerm_106 (fun H locs hH => ?_)
              refine lv_aload_n hx hb dX13_readTerm_109 rfl (lv_at hl 1 rfl) ?_
              obtain ⟨r_53, u_54, h_55, hF⟩ := pcl_some hF
              refine mcV_i (As := []) (rest := []) hC hH (m_findSign l G Z Q u_50 u_54 r_53  _ h_55) kwX13_findSign kVX13_findSign ⟨Nat.le_of_ble_eq_true rfl, Nat.le_of_ble_eq_true rfl⟩ rfl hl.1 rfl (Nat.le_of_ble_eq_true rfl) dX13_readTerm_110 (fun H locs hH => ?_)
              refine lv_istore_n (lv' := [(2, .int r_53), (1, .int 1), (0, .ref (Q 72))]) hx hb dX13_readTerm_113 rfl hl (by decide) rfl (fun ls hl => ?_)
              refine lv_iload_n hx hb dX13_readTerm_114 rfl (lv_at hl 0 rfl) ?_
              refine lv_iconst (v := (-1)) hx hb dX13_readTerm_115 (by decide) ?_
              refine lv_icmp_ne (tgt := 129) hx hb dX13_readTerm_116 (by decide) (fun c_56 => ?_) (fun c_56 => ?_)
              · rw [if_neg c_56] at hF
                refine lv_aload_n hx hb dX13_readTerm_129 rfl (lv_at hl 2 rfl) ?_
                refine lv_iload_n hx hb dX13_readTerm_130 rfl (lv_at hl 1 rfl) ?_
                refine lv_iload_n hx hb dX13_readTerm_131 rfl (lv_at hl 0 rfl) ?_
                obtain ⟨r_57, u_58, h_59, hF⟩ := pcl_some hF
                refine mcV_v (As := [.int 1, .int r_53]) (rest := []) hC hH (m_put l G Z Q u_54 u_58 r_57 1 r_53 _ h_59) kwX13_put kVX13_put ⟨Nat.le_of_ble_eq_true rfl, Nat.le_of_ble_eq_true rfl⟩ rfl hl.1 rfl (Nat.le_of_ble_eq_true rfl) dX13_readTerm_132 (fun H locs hH => ?_)
                refine lv_aload_n hx hb dX13_readTerm_135 rfl (lv_at hl 2 rfl) ?_
                obtain ⟨r_60, u_61, h_62, hF⟩ := pcl_some hF
                refine mcV_v (As := []) (rest := []) hC hH (m_scan l G Z Q u_58 u_61 r_60  _ h_62) kwX13_scan kVX13_scan ⟨Nat.le_of_ble_eq_true rfl, Nat.le_of_ble_eq_true rfl⟩ rfl hl.1 rfl (Nat.le_of_ble_eq_true rfl) dX13_readTerm_136 (fun H locs hH => ?_)
                have hF := prt_eqS hF
                exact mr_v hC hH hr hF dX13_readTerm_139 hlocks
              · rw [if_pos c_56] at hF
                refine lv_aload_n hx hb dX13_readTerm_119 rfl (lv_at hl 2 rfl) ?_
                refine lv_iconst (v := 2) hx hb dX13_readTerm_120 (by decide) ?_
                refine lv_aload_n hx hb dX13_readTerm_121 rfl (lv_at hl 2 rfl) ?_
                refine mg_44 hC hH dX13_readTerm_122 ?_
                obtain ⟨x_63, e_64, hF⟩ := prf_some hF
                refine gx_ti e_64 ?_
                obtain ⟨r_65, u_66, h_67, hF⟩ := pcl_some hF
                refine mcV_r (As := [.int 2, .int x_63]) (rest := []) hC hH (m_wrong l G Z Q u_54 u_66 r_65 2 x_63 _ h_67) kwX13_wrong kVX13_wrong ⟨Nat.le_of_ble_eq_true rfl, Nat.le_of_ble_eq_true rfl⟩ rfl hl.1 rfl (Nat.le_of_ble_eq_true rfl) dX13_readTerm_125 (fun H locs hH => ?_)
                exact (prt_no hF).elim
      · rw [if_pos c_11] at hF
        refine lv_aload_n hx hb dX13_readTerm_61 rfl (lv_at hl 0 rfl) ?_
        refine th_ldcw (tx := sTx 12) hx hb hC.2.2.2.1 (hC.2.2.2.2.2.2.2.2.1 12 (by decide)) dX13_readTerm_62 ?_
        obtain ⟨r_68, u_69, h_70, hF⟩ := pcl_some hF
        refine mcV_i (As := [.ref (Z.1 12)]) (rest := []) hC hH (m_is l G Z Q u_9 u_69 r_68 12 _ h_70 (by decide)) kwX13_is kVX13_is ⟨Nat.le_of_ble_eq_true rfl, Nat.le_of_ble_eq_true rfl⟩ rfl hl.1 rfl (Nat.le_of_ble_eq_true rfl) dX13_readTerm_65 (fun H locs hH => ?_)
        refine lv_if_ne (tgt := 81) hx hb dX13_readTerm_68 (by decide) (fun c_71 => ?_) (fun c_71 => ?_)
        · rw [if_neg c_71] at hF
          refine lv_aload_n hx hb dX13_readTerm_81 rfl (lv_at hl 0 rfl) ?_
          refine th_ldcw (tx := sTx 11) hx hb hC.2.2.2.1 (hC.2.2.2.2.2.2.2.2.1 11 (by decide)) dX13_readTerm_82 ?_
          obtain ⟨r_72, u_73, h_74, hF⟩ := pcl_some hF
          refine mcV_i (As := [.ref (Z.1 11)]) (rest := []) hC hH (m_is l G Z Q u_69 u_73 r_72 11 _ h_74 (by decide)) kwX13_is kVX13_is ⟨Nat.le_of_ble_eq_true rfl, Nat.le_of_ble_eq_true rfl⟩ rfl hl.1 rfl (Nat.le_of_ble_eq_true rfl) dX13_readTerm_85 (fun H locs hH => ?_)
          refine lv_if_eq (tgt := 95) hx hb dX13_readTerm_88 (by decide) (fun c_75 => ?_) (fun c_75 => ?_)
          · rw [if_pos c_75] at hF
            refine lv_iconst (v := 2) hx hb dX13_readTerm_95 (by decide) ?_
            refine lv_istore_n (lv' := [(1, .int 2), (0, .ref (Q 72))]) hx hb dX13_readTerm_96 rfl hl (by decide) rfl (fun ls hl => ?_)
            refine lv_aload_n hx hb dX13_readTerm_97 rfl (lv_at hl 1 rfl) ?_
            obtain ⟨r_76, u_77, h_78, hF⟩ := pcl_some hF
            cases r_76 with
            | none =>
              have hF := pot_none hF
              exact (prt_no hF).elim
            | some r_79 =>
              have hF := pot_some hF
              refine mcV_v (As := []) (rest := []) hC hH (m_counts l G Z Q u_73 u_77 r_79  _ h_78) kwX13_counts kVX13_counts ⟨Nat.le_of_ble_eq_true rfl, Nat.le_of_ble_eq_true rfl⟩ rfl hl.1 rfl (Nat.le_of_ble_eq_true rfl) dX13_readTerm_98 (fun H locs hH => ?_)
              refine lv_aload_n hx hb dX13_readTerm_101 rfl (lv_at hl 1 rfl) ?_
              obtain ⟨r_80, u_81, h_82, hF⟩ := pcl_some hF
              refine mcV_v (As := []) (rest := []) hC hH (m_scan l G Z Q u_77 u_81 r_80  _ h_82) kwX13_scan kVX13_scan ⟨Nat.le_of_ble_eq_true rfl, Nat.le_of_ble_eq_true rfl⟩ rfl hl.1 rfl (Nat.le_of_ble_eq_true rfl) dX13_readTerm_102 (fun H locs hH => ?_)
              refine lv_aload_n hx hb dX13_readTerm_105 rfl (lv_at hl 1 rfl) ?_
              obtain ⟨r_83, u_84, h_85, hF⟩ := pcl_some hF
              cases r_83 with
              | none =>
                have hF := pot_none hF
                exact (prt_no hF).elim
              | some r_86 =>
                have hF := pot_some hF
                refine mcV_v (As := []) (rest := []) hC hH (m_name l G Z Q u_81 u_84 r_86  _ h_85) kwX13_name kVX13_name ⟨Nat.le_of_ble_eq_true rfl, Nat.le_of_ble_eq_true rfl⟩ rfl hl.1 rfl (Nat.le_of_ble_eq_true rfl) dX13_readTerm_106 (fun H locs hH => ?_)
                refine lv_aload_n hx hb dX13_readTerm_109 rfl (lv_at hl 1 rfl) ?_
                obtain ⟨r_87, u_88, h_89, hF⟩ := pcl_some hF
                refine mcV_i (As := []) (rest := []) hC hH (m_findSign l G Z Q u_84 u_88 r_87  _ h_89) kwX13_findSign kVX13_findSign ⟨Nat.le_of_ble_eq_true rfl, Nat.le_of_ble_eq_true rfl⟩ rfl hl.1 rfl (Nat.le_of_ble_eq_true rfl) dX13_readTerm_110 (fun H locs hH => ?_)
                refine lv_istore_n (lv' := [(2, .int r_87), (1, .int 2), (0, .ref (Q 72))]) hx hb dX13_readTerm_113 rfl hl (by decide) rfl (fun ls hl => ?_)
                refine lv_iload_n hx hb dX13_readTerm_114 rfl (lv_at hl 0 rfl) ?_
                refine lv_iconst (v := (-1)) hx hb dX13_readTerm_115 (by decide) ?_
                refine lv_icmp_ne (tgt := 129) hx hb dX13_readTerm_116 (by decide) (fun c_90 => ?_) (fun c_90 => ?_)
                · rw [if_neg c_90] at hF
                  refine lv_aload_n hx hb dX13_readTerm_129 rfl (lv_at hl 2 rfl) ?_
                  refine lv_iload_n hx hb dX13_readTerm_130 rfl (lv_at hl 1 rfl) ?_
                  refine lv_iload_n hx hb dX13_readTerm_131 rfl (lv_at hl 0 rfl) ?_
                  obtain ⟨r_91, u_92, h_93, hF⟩ := pcl_some hF
                  refine mcV_v (As := [.int 2, .int r_87]) (rest := []) hC hH (m_put l G Z Q u_88 u_92 r_91 2 r_87 _ h_93) kwX13_put kVX13_put ⟨Nat.le_of_ble_eq_true rfl, Nat.le_of_ble_eq_true rfl⟩ rfl hl.1 rfl (Nat.le_of_ble_eq_true rfl) dX13_readTerm_132 (fun H locs hH => ?_)
                  refine lv_aload_n hx hb dX13_readTerm_135 rfl (lv_at hl 2 rfl) ?_
                  obtain ⟨r_94, u_95, h_96, hF⟩ := pcl_some hF
                  refine mcV_v (As := []) (rest := []) hC hH (m_scan l G Z Q u_92 u_95 r_94  _ h_96) kwX13_scan kVX13_scan ⟨Nat.le_of_ble_eq_true rfl, Nat.le_of_ble_eq_true rfl⟩ rfl hl.1 rfl (Nat.le_of_ble_eq_true rfl) dX13_readTerm_136 (fun H locs hH => ?_)
                  have hF := prt_eqS hF
                  exact mr_v hC hH hr hF dX13_readTerm_139 hlocks
                · rw [if_pos c_90] at hF
                  refine lv_aload_n hx hb dX13_readTerm_119 rfl (lv_at hl 2 rfl) ?_
                  refine lv_iconst (v := 2) hx hb dX13_readTerm_120 (by decide) ?_
                  refine lv_aload_n hx hb dX13_readTerm_121 rfl (lv_at hl 2 rfl) ?_
                  refine mg_44 hC hH dX13_readTerm_122 ?_
                  obtain ⟨x_97, e_98, hF⟩ := prf_some hF
                  refine gx_ti e_98 ?_
                  obtain ⟨r_99, u_100, h_101, hF⟩ := pcl_some hF
                  refine mcV_r (As := [.int 2, .int x_97]) (rest := []) hC hH (m_wrong l G Z Q u_88 u_100 r_99 2 x_97 _ h_101) kwX13_wrong kVX13_wrong ⟨Nat.le_of_ble_eq_true rfl, Nat.le_of_ble_eq_true rfl⟩ rfl hl.1 rfl (Nat.le_of_ble_eq_true rfl) dX13_readTerm_125 (fun H locs hH => ?_)
                  exact (prt_no hF).elim
          · rw [if_neg c_75] at hF
            refine lv_iconst (v := 1) hx hb dX13_readTerm_91 (by decide) ?_
            refine lv_goto (tgt := 96) hx hb dX13_readTerm_92 (by decide) ?_
            refine lv_istore_n (lv' := [(1, .int 1), (0, .ref (Q 72))]) hx hb dX13_readTerm_96 rfl hl (by decide) rfl (fun ls hl => ?_)
            refine lv_aload_n hx hb dX13_readTerm_97 rfl (lv_at hl 1 rfl) ?_
            obtain ⟨r_102, u_103, h_104, hF⟩ := pcl_some hF
            cases r_102 with
            | none =>
              have hF := pot_none hF
              exact (prt_no hF).elim
            | some r_105 =>
              have hF := pot_some hF
              refine mcV_v (As := []) (rest := []) hC hH (m_counts l G Z Q u_73 u_103 r_105  _ h_104) kwX13_counts kVX13_counts ⟨Nat.le_of_ble_eq_true rfl, Nat.le_of_ble_eq_true rfl⟩ rfl hl.1 rfl (Nat.le_of_ble_eq_true rfl) dX13_readTerm_98 (fun H locs hH => ?_)
              refine lv_aload_n hx hb dX13_readTerm_101 rfl (lv_at hl 1 rfl) ?_
              obtain ⟨r_106, u_107, h_108, hF⟩ := pcl_some hF
              refine mcV_v (As := []) (rest := []) hC hH (m_scan l G Z Q u_103 u_107 r_106  _ h_108) kwX13_scan kVX13_scan ⟨Nat.le_of_ble_eq_true rfl, Nat.le_of_ble_eq_true rfl⟩ rfl hl.1 rfl (Nat.le_of_ble_eq_true rfl) dX13_readTerm_102 (fun H locs hH => ?_)
              refine lv_aload_n hx hb dX13_readTerm_105 rfl (lv_at hl 1 rfl) ?_
              obtain ⟨r_109, u_110, h_111, hF⟩ := pcl_some hF
              cases r_109 with
              | none =>
                have hF := pot_none hF
                exact (prt_no hF).elim
              | some r_112 =>
                have hF := pot_some hF
                refine mcV_v (As := []) (rest := []) hC hH (m_name l G Z Q u_107 u_110 r_112  _ h_111) kwX13_name kVX13_name ⟨Nat.le_of_ble_eq_true rfl, Nat.le_of_ble_eq_true rfl⟩ rfl hl.1 rfl (Nat.le_of_ble_eq_true rfl) dX13_readTerm_106 (fun H locs hH => ?_)
                refine lv_aload_n hx hb dX13_readTerm_109 rfl (lv_at hl 1 rfl) ?_
                obtain ⟨r_113, u_114, h_115, hF⟩ := pcl_some hF
                refine mcV_i (As := []) (rest := []) hC hH (m_findSign l G Z Q u_110 u_114 r_113  _ h_115) kwX13_findSign kVX13_findSign ⟨Nat.le_of_ble_eq_true rfl, Nat.le_of_ble_eq_true rfl⟩ rfl hl.1 rfl (Nat.le_of_ble_eq_true rfl) dX13_readTerm_110 (fun H locs hH => ?_)
                refine lv_istore_n (lv' := [(2, .int r_113), (1, .int 1), (0, .ref (Q 72))]) hx hb dX13_readTerm_113 rfl hl (by decide) rfl (fun ls hl => ?_)
                refine lv_iload_n hx hb dX13_readTerm_114 rfl (lv_at hl 0 rfl) ?_
                refine lv_iconst (v := (-1)) hx hb dX13_readTerm_115 (by decide) ?_
                refine lv_icmp_ne (tgt := 129) hx hb dX13_readTerm_116 (by decide) (fun c_116 => ?_) (fun c_116 => ?_)
                · rw [if_neg c_116] at hF
                  refine lv_aload_n hx hb dX13_readTerm_129 rfl (lv_at hl 2 rfl) ?_
                  refine lv_iload_n hx hb dX13_readTerm_130 rfl (lv_at hl 1 rfl) ?_
                  refine lv_iload_n hx hb dX13_readTerm_131 rfl (lv_at hl 0 rfl) ?_
                  obtain ⟨r_117, u_118, h_119, hF⟩ := pcl_some hF
                  refine mcV_v (As := [.int 1, .int r_113]) (rest := []) hC hH (m_put l G Z Q u_114 u_118 r_117 1 r_113 _ h_119) kwX13_put kVX13_put ⟨Nat.le_of_ble_eq_true rfl, Nat.le_of_ble_eq_true rfl⟩ rfl hl.1 rfl (Nat.le_of_ble_eq_true rfl) dX13_readTerm_132 (fun H locs hH => ?_)
                  refine lv_aload_n hx hb dX13_readTerm_135 rfl (lv_at hl 2 rfl) ?_
                  obtain ⟨r_120, u_121, h_122, hF⟩ := pcl_some hF
                  refine mcV_v (As := []) (rest := []) hC hH (m_scan l G Z Q u_118 u_121 r_120  _ h_122) kwX13_scan kVX13_scan ⟨Nat.le_of_ble_eq_true rfl, Nat.le_of_ble_eq_true rfl⟩ rfl hl.1 rfl (Nat.le_of_ble_eq_true rfl) dX13_readTerm_136 (fun H locs hH => ?_)
                  have hF := prt_eqS hF
                  exact mr_v hC hH hr hF dX13_readTerm_139 hlocks
                · rw [if_pos c_116] at hF
                  refine lv_aload_n hx hb dX13_readTerm_119 rfl (lv_at hl 2 rfl) ?_
                  refine lv_iconst (v := 2) hx hb dX13_readTerm_120 (by decide) ?_
                  refine lv_aload_n hx hb dX13_readTerm_121 rfl (lv_at hl 2 rfl) ?_
                  refine mg_44 hC hH dX13_readTerm_122 ?_
                  obtain ⟨x_123, e_124, hF⟩ := prf_some hF
                  refine gx_ti e_124 ?_
                  obtain ⟨r_125, u_126, h_127, hF⟩ := pcl_some hF
                  refine mcV_r (As := [.int 2, .int x_123]) (rest := []) hC hH (m_wrong l G Z Q u_114 u_126 r_125 2 x_123 _ h_127) kwX13_wrong kVX13_wrong ⟨Nat.le_of_ble_eq_true rfl, Nat.le_of_ble_eq_true rfl⟩ rfl hl.1 rfl (Nat.le_of_ble_eq_true rfl) dX13_readTerm_125 (fun H locs hH => ?_)
                  exact (prt_no hF).elim
        · rw [if_pos c_71] at hF
          refine lv_aload_n hx hb dX13_readTerm_71 rfl (lv_at hl 0 rfl) ?_
          refine lv_iconst (v := 1) hx hb dX13_readTerm_72 (by decide) ?_
          refine lv_aload_n hx hb dX13_readTerm_73 rfl (lv_at hl 0 rfl) ?_
          refine mg_44 hC hH dX13_readTerm_74 ?_
          obtain ⟨x_128, e_129, hF⟩ := prf_some hF
          refine gx_ti e_129 ?_
          obtain ⟨r_130, u_131, h_132, hF⟩ := pcl_some hF
          refine mcV_r (As := [.int 1, .int x_128]) (rest := []) hC hH (m_wrong l G Z Q u_69 u_131 r_130 1 x_128 _ h_132) kwX13_wrong kVX13_wrong ⟨Nat.le_of_ble_eq_true rfl, Nat.le_of_ble_eq_true rfl⟩ rfl hl.1 rfl (Nat.le_of_ble_eq_true rfl) dX13_readTerm_77 (fun H locs hH => ?_)
          exact (prt_no hF).elim
    · rw [if_neg c_7] at hF
      refine lv_aload_n hx hb dX13_readTerm_36 rfl (lv_at hl 0 rfl) ?_
      obtain ⟨r_133, u_134, h_135, hF⟩ := pcl_some hF
      cases r_133 with
      | none =>
        have hF := pot_none hF
        exact (prt_no hF).elim
      | some r_136 =>
        have hF := pot_some hF
        refine mcV_v (As := []) (rest := []) hC hH (m_counts l G Z Q u_5 u_134 r_136  _ h_135) kwX13_counts kVX13_counts ⟨Nat.le_of_ble_eq_true rfl, Nat.le_of_ble_eq_true rfl⟩ rfl hl.1 rfl (Nat.le_of_ble_eq_true rfl) dX13_readTerm_37 (fun H locs hH => ?_)
        refine lv_aload_n hx hb dX13_readTerm_40 rfl (lv_at hl 0 rfl) ?_
        refine lv_iconst (v := 3) hx hb dX13_readTerm_41 (by decide) ?_
        refine lv_iconst (v := 0) hx hb dX13_readTerm_42 (by decide) ?_
        obtain ⟨r_137, u_138, h_139, hF⟩ := pcl_some hF
        refine mcV_v (As := [.int 3, .int 0]) (rest := []) hC hH (m_put l G Z Q u_134 u_138 r_137 3 0 _ h_139) kwX13_put kVX13_put ⟨Nat.le_of_ble_eq_true rfl, Nat.le_of_ble_eq_true rfl⟩ rfl hl.1 rfl (Nat.le_of_ble_eq_true rfl) dX13_readTerm_43 (fun H locs hH => ?_)
        refine lv_aload_n hx hb dX13_readTerm_46 rfl (lv_at hl 0 rfl) ?_
        obtain ⟨r_140, u_141, h_142, hF⟩ := pcl_some hF
        refine mcV_v (As := []) (rest := []) hC hH (m_scan l G Z Q u_138 u_141 r_140  _ h_142) kwX13_scan kVX13_scan ⟨Nat.le_of_ble_eq_true rfl, Nat.le_of_ble_eq_true rfl⟩ rfl hl.1 rfl (Nat.le_of_ble_eq_true rfl) dX13_readTerm_47 (fun H locs hH => ?_)
        have hF := prt_eqS hF
        exact mr_v hC hH hr hF dX13_readTerm_50 hlocks
  · rw [if_pos c_3] at hF
    refine lv_aload_n hx hb dX13_readTerm_8 rfl (lv_at hl 0 rfl) ?_
    obtain ⟨r_143, u_144, h_145, hF⟩ := pcl_some hF
    cases r_143 with
    | none =>
      have hF := pot_none hF
      exact (prt_no hF).elim
    | some r_146 =>
      have hF := pot_some hF
      refine mcV_v (As := []) (rest := []) hC hH (m_counts l G Z Q u u_144 r_146  _ h_145) kwX13_counts kVX13_counts ⟨Nat.le_of_ble_eq_true rfl, Nat.le_of_ble_eq_true rfl⟩ rfl hl.1 rfl (Nat.le_of_ble_eq_true rfl) dX13_readTerm_9 (fun H locs hH => ?_)
      refine lv_aload_n hx hb dX13_readTerm_12 rfl (lv_at hl 0 rfl) ?_
      refine lv_iconst (v := 0) hx hb dX13_readTerm_13 (by decide) ?_
      refine lv_aload_n hx hb dX13_readTerm_14 rfl (lv_at hl 0 rfl) ?_
      refine mg_47 hC hH dX13_readTerm_15 ?_
      obtain ⟨x_147, e_148, hF⟩ := prf_some hF
      refine gx_ti e_148 ?_
      obtain ⟨r_149, u_150, h_151, hF⟩ := pcl_some hF
      refine mcV_v (As := [.int 0, .int x_147]) (rest := []) hC hH (m_put l G Z Q u_144 u_150 r_149 0 x_147 _ h_151) kwX13_put kVX13_put ⟨Nat.le_of_ble_eq_true rfl, Nat.le_of_ble_eq_true rfl⟩ rfl hl.1 rfl (Nat.le_of_ble_eq_true rfl) dX13_readTerm_18 (fun H locs hH => ?_)
      refine lv_aload_n hx hb dX13_readTerm_21 rfl (lv_at hl 0 rfl) ?_
      obtain ⟨r_152, u_153, h_154, hF⟩ := pcl_some hF
      refine mcV_v (As := []) (rest := []) hC hH (m_scan l G Z Q u_150 u_153 r_152  _ h_154) kwX13_scan kVX13_scan ⟨Nat.le_of_ble_eq_true rfl, Nat.le_of_ble_eq_true rfl⟩ rfl hl.1 rfl (Nat.le_of_ble_eq_true rfl) dX13_readTerm_22 (fun H locs hH => ?_)
      have hF := prt_eqS hF
      exact mr_v hC hH hr hF dX13_readTerm_25 hlocks
set_option maxHeartbeats 4000000 in
set_option maxRecDepth 100000 in
theorem t_readTerm (l : Launch) (G : gG) (Z : gM) (Q : Nat → Nat) (u u1 : GS)  (sz : Nat) (hF : f_readTerm u = some (none, u1)) : MetT l yX13_readTerm (Cond.code yX13_readTerm cX13_readTerm 3 none :: wM) { frames := 8, cells := 0, slots := 0, locals := 169 } (va_Pc [.ref (Q 72)] (mPM G Z Q u.1 sz)) (mQt G Q u1.1 sz) 0 0 (mA Q sz) := by
  refine MetT.ofW (cc := cX13_readTerm) (maxL := 3) (ret := none) (by decide) rfl ?_
  intro p e s m args below meth c s₁ B hml hv
  obtain ⟨rfl, rfl, hP, hB, hD, hE⟩ := hv
  have hr := B.returns
  have hlocks := B.notSynchronized
  have hts := atoms_spec (ws := Cond.code yX13_readTerm cX13_readTerm 3 none :: wM) B.pre
  have hC : mX p c cX13_readTerm 3 s m _ G Z Q := ⟨B.exec, B.bytes, hml, findClass_of_methodNamed B.named, fun w h => hts w (List.mem_cons_of_mem _ h), hB, hE⟩
  have hx := hC.1
  have hb := hC.2.1
  have hH : mH G Q u.1 s s.heap [] := ⟨hP, hD, va_S.rf⟩
  have hno : c.exceptionTable.isEmpty = true := BodyLoose.noHandlers B (hts _ List.mem_cons_self)
  have hl := lv_entry ([.ref (Q 72)]) (n := 3) (Nat.le_of_ble_eq_true rfl)
  rw [lg_entry_eq]
  generalize (lg_sl ([.ref (Q 72)]) ++ List.replicate (3 - (lg_sl ([.ref (Q 72)])).length) Slot.unset).toArray = ls at hl ⊢
  have hl : lv_has ls 3 [(0, .ref (Q 72))] := hl
  unfold f_readTerm at hF
  refine lv_aload_n hx hb dX13_readTerm_0 rfl (lv_at hl 0 rfl) ?_
  refine mg_46 hC hH dX13_readTerm_1 ?_
  obtain ⟨x_1, e_2, hF⟩ := prf_some hF
  refine gx_ti e_2 ?_
  refine lv_iconst (v := 2) hx hb dX13_readTerm_4 (by decide) ?_
  refine lv_icmp_ne (tgt := 26) hx hb dX13_readTerm_5 (by decide) (fun c_3 => ?_) (fun c_3 => ?_)
  · rw [if_neg c_3] at hF
    refine lv_aload_n hx hb dX13_readTerm_26 rfl (lv_at hl 0 rfl) ?_
    refine th_ldcw (tx := sTx 13) hx hb hC.2.2.2.1 (hC.2.2.2.2.2.2.2.2.1 13 (by decide)) dX13_readTerm_27 ?_
    obtain ⟨r_4, u_5, h_6, hF⟩ := pcl_some hF
    refine mcV_i (As := [.ref (Z.1 13)]) (rest := []) hC hH (m_is l G Z Q u u_5 r_4 13 _ h_6 (by decide)) kwX13_is kVX13_is ⟨Nat.le_of_ble_eq_true rfl, Nat.le_of_ble_eq_true rfl⟩ rfl hl.1 rfl (Nat.le_of_ble_eq_true rfl) dX13_readTerm_30 (fun H locs hH => ?_)
    refine lv_if_eq (tgt := 51) hx hb dX13_readTerm_33 (by decide) (fun c_7 => ?_) (fun c_7 => ?_)
    · rw [if_pos c_7] at hF
      refine lv_aload_n hx hb dX13_readTerm_51 rfl (lv_at hl 0 rfl) ?_
      refine th_ldcw (tx := sTx 11) hx hb hC.2.2.2.1 (hC.2.2.2.2.2.2.2.2.1 11 (by decide)) dX13_readTerm_52 ?_
      obtain ⟨r_8, u_9, h_10, hF⟩ := pcl_some hF
      refine mcV_i (As := [.ref (Z.1 11)]) (rest := []) hC hH (m_is l G Z Q u_5 u_9 r_8 11 _ h_10 (by decide)) kwX13_is kVX13_is ⟨Nat.le_of_ble_eq_true rfl, Nat.le_of_ble_eq_true rfl⟩ rfl hl.1 rfl (Nat.le_of_ble_eq_true rfl) dX13_readTerm_55 (fun H locs hH => ?_)
      refine lv_if_ne (tgt := 81) hx hb dX13_readTerm_58 (by decide) (fun c_11 => ?_) (fun c_11 => ?_)
      · rw [if_neg c_11] at hF
        refine lv_aload_n hx hb dX13_readTerm_81 rfl (lv_at hl 0 rfl) ?_
        refine th_ldcw (tx := sTx 11) hx hb hC.2.2.2.1 (hC.2.2.2.2.2.2.2.2.1 11 (by decide)) dX13_readTerm_82 ?_
        obtain ⟨r_12, u_13, h_14, hF⟩ := pcl_some hF
        refine mcV_i (As := [.ref (Z.1 11)]) (rest := []) hC hH (m_is l G Z Q u_9 u_13 r_12 11 _ h_14 (by decide)) kwX13_is kVX13_is ⟨Nat.le_of_ble_eq_true rfl, Nat.le_of_ble_eq_true rfl⟩ rfl hl.1 rfl (Nat.le_of_ble_eq_true rfl) dX13_readTerm_85 (fun H locs hH => ?_)
        refine lv_if_eq (tgt := 95) hx hb dX13_readTerm_88 (by decide) (fun c_15 => ?_) (fun c_15 => ?_)
        · rw [if_pos c_15] at hF
          refine lv_iconst (v := 2) hx hb dX13_readTerm_95 (by decide) ?_
          refine lv_istore_n (lv' := [(1, .int 2), (0, .ref (Q 72))]) hx hb dX13_readTerm_96 rfl hl (by decide) rfl (fun ls hl => ?_)
          refine lv_aload_n hx hb dX13_readTerm_97 rfl (lv_at hl 1 rfl) ?_
          obtain ⟨r_16, u_17, h_18, hF⟩ := pcl_some hF
          cases r_16 with
          | none =>
            have hF := pot_none hF
            exact mt_pass hH (mt_run (As := []) (rest := []) hC hH (t_counts l G Z Q u_13 u_17  _ h_18) kwX13_counts kVX13_counts ⟨Nat.le_of_ble_eq_true rfl, Nat.le_of_ble_eq_true rfl⟩ rfl hl.1 rfl (Nat.le_of_ble_eq_true rfl) dX13_readTerm_98) hno hlocks (prt_eqT hF)
          | some r_19 =>
            have hF := pot_some hF
            refine mcV_v (As := []) (rest := []) hC hH (m_counts l G Z Q u_13 u_17 r_19  _ h_18) kwX13_counts kVX13_counts ⟨Nat.le_of_ble_eq_true rfl, Nat.le_of_ble_eq_true rfl⟩ rfl hl.1 rfl (Nat.le_of_ble_eq_true rfl) dX13_readTerm_98 (fun H locs hH => ?_)
            refine lv_aload_n hx hb dX13_readTerm_101 rfl (lv_at hl 1 rfl) ?_
            obtain ⟨r_20, u_21, h_22, hF⟩ := pcl_some hF
            refine mcV_v (As := []) (rest := []) hC hH (m_scan l G Z Q u_17 u_21 r_20  _ h_22) kwX13_scan kVX13_scan ⟨Nat.le_of_ble_eq_true rfl, Nat.le_of_ble_eq_true rfl⟩ rfl hl.1 rfl (Nat.le_of_ble_eq_true rfl) dX13_readTerm_102 (fun H locs hH => ?_)
            refine lv_aload_n hx hb dX13_readTerm_105 rfl (lv_at hl 1 rfl) ?_
            obtain ⟨r_23, u_24, h_25, hF⟩ := pcl_some hF
            cases r_23 with
            | none =>
              have hF := pot_none hF
              exact mt_pass hH (mt_run (As := []) (rest := []) hC hH (t_name l G Z Q u_21 u_24  _ h_25) kwX13_name kVX13_name ⟨Nat.le_of_ble_eq_true rfl, Nat.le_of_ble_eq_true rfl⟩ rfl hl.1 rfl (Nat.le_of_ble_eq_true rfl) dX13_readTerm_106) hno hlocks (prt_eqT hF)
            | some r_26 =>
              have hF := pot_some hF
              refine mcV_v (As := []) (rest := []) hC hH (m_name l G Z Q u_21 u_24 r_26  _ h_25) kwX13_name kVX13_name ⟨Nat.le_of_ble_eq_true rfl, Nat.le_of_ble_eq_true rfl⟩ rfl hl.1 rfl (Nat.le_of_ble_eq_true rfl) dX13_readTerm_106 (fun H locs hH => ?_)
              refine lv_aload_n hx hb dX13_readTerm_109 rfl (lv_at hl 1 rfl) ?_
              obtain ⟨r_27, u_28, h_29, hF⟩ := pcl_some hF
              refine mcV_i (As := []) (rest := []) hC hH (m_findSign l G Z Q u_24 u_28 r_27  _ h_29) kwX13_findSign kVX13_findSign ⟨Nat.le_of_ble_eq_true rfl, Nat.le_of_ble_eq_true rfl⟩ rfl hl.1 rfl (Nat.le_of_ble_eq_true rfl) dX13_readTerm_110 (fun H locs hH => ?_)
              refine lv_istore_n (lv' := [(2, .int r_27), (1, .int 2), (0, .ref (Q 72))]) hx hb dX13_readTerm_113 rfl hl (by decide) rfl (fun ls hl => ?_)
              refine lv_iload_n hx hb dX13_readTerm_114 rfl (lv_at hl 0 rfl) ?_
              refine lv_iconst (v := (-1)) hx hb dX13_readTerm_115 (by decide) ?_
              refine lv_icmp_ne (tgt := 129) hx hb dX13_readTerm_116 (by decide) (fun c_30 => ?_) (fun c_30 => ?_)
              · rw [if_neg c_30] at hF
                refine lv_aload_n hx hb dX13_readTerm_129 rfl (lv_at hl 2 rfl) ?_
                refine lv_iload_n hx hb dX13_readTerm_130 rfl (lv_at hl 1 rfl) ?_
                refine lv_iload_n hx hb dX13_readTerm_131 rfl (lv_at hl 0 rfl) ?_
                obtain ⟨r_31, u_32, h_33, hF⟩ := pcl_some hF
                refine mcV_v (As := [.int 2, .int r_27]) (rest := []) hC hH (m_put l G Z Q u_28 u_32 r_31 2 r_27 _ h_33) kwX13_put kVX13_put ⟨Nat.le_of_ble_eq_true rfl, Nat.le_of_ble_eq_true rfl⟩ rfl hl.1 rfl (Nat.le_of_ble_eq_true rfl) dX13_readTerm_132 (fun H locs hH => ?_)
                refine lv_aload_n hx hb dX13_readTerm_135 rfl (lv_at hl 2 rfl) ?_
                obtain ⟨r_34, u_35, h_36, hF⟩ := pcl_some hF
                refine mcV_v (As := []) (rest := []) hC hH (m_scan l G Z Q u_32 u_35 r_34  _ h_36) kwX13_scan kVX13_scan ⟨Nat.le_of_ble_eq_true rfl, Nat.le_of_ble_eq_true rfl⟩ rfl hl.1 rfl (Nat.le_of_ble_eq_true rfl) dX13_readTerm_136 (fun H locs hH => ?_)
                exact (prt_no2 hF).elim
              · rw [if_pos c_30] at hF
                refine lv_aload_n hx hb dX13_readTerm_119 rfl (lv_at hl 2 rfl) ?_
                refine lv_iconst (v := 2) hx hb dX13_readTerm_120 (by decide) ?_
                refine lv_aload_n hx hb dX13_readTerm_121 rfl (lv_at hl 2 rfl) ?_
                refine mg_44 hC hH dX13_readTerm_122 ?_
                obtain ⟨x_37, e_38, hF⟩ := prf_some hF
                refine gx_ti e_38 ?_
                obtain ⟨r_39, u_40, h_41, hF⟩ := pcl_some hF
                refine mcV_r (As := [.int 2, .int x_37]) (rest := []) hC hH (m_wrong l G Z Q u_28 u_40 r_39 2 x_37 _ h_41) kwX13_wrong kVX13_wrong ⟨Nat.le_of_ble_eq_true rfl, Nat.le_of_ble_eq_true rfl⟩ rfl hl.1 rfl (Nat.le_of_ble_eq_true rfl) dX13_readTerm_125 (fun H locs hH => ?_)
                exact mt_throw hC hH hno (prt_eqT hF) dX13_readTerm_128 hlocks
        · rw [if_neg c_15] at hF
          refine lv_iconst (v := 1) hx hb dX13_readTerm_91 (by decide) ?_
          refine lv_goto (tgt := 96) hx hb dX13_readTerm_92 (by decide) ?_
          refine lv_istore_n (lv' := [(1, .int 1), (0, .ref (Q 72))]) hx hb dX13_readTerm_96 rfl hl (by decide) rfl (fun ls hl => ?_)
          refine lv_aload_n hx hb dX13_readTerm_97 rfl (lv_at hl 1 rfl) ?_
          obtain ⟨r_42, u_43, h_44, hF⟩ := pcl_some hF
          cases r_42 with
          | none =>
            have hF := pot_none hF
            exact mt_pass hH (mt_run (As := []) (rest := []) hC hH (t_counts l G Z Q u_13 u_43  _ h_44) kwX13_counts kVX13_counts ⟨Nat.le_of_ble_eq_true rfl, Nat.le_of_ble_eq_true rfl⟩ rfl hl.1 rfl (Nat.le_of_ble_eq_true rfl) dX13_readTerm_98) hno hlocks (prt_eqT hF)
          | some r_45 =>
            have hF := pot_some hF
            refine mcV_v (As := []) (rest := []) hC hH (m_counts l G Z Q u_13 u_43 r_45  _ h_44) kwX13_counts kVX13_counts ⟨Nat.le_of_ble_eq_true rfl, Nat.le_of_ble_eq_true rfl⟩ rfl hl.1 rfl (Nat.le_of_ble_eq_true rfl) dX13_readTerm_98 (fun H locs hH => ?_)
            refine lv_aload_n hx hb dX13_readTerm_101 rfl (lv_at hl 1 rfl) ?_
            obtain ⟨r_46, u_47, h_48, hF⟩ := pcl_some hF
            refine mcV_v (As := []) (rest := []) hC hH (m_scan l G Z Q u_43 u_47 r_46  _ h_48) kwX13_scan kVX13_scan ⟨Nat.le_of_ble_eq_true rfl, Nat.le_of_ble_eq_true rfl⟩ rfl hl.1 rfl (Nat.le_of_ble_eq_true rfl) dX13_readTerm_102 (fun H locs hH => ?_)
            refine lv_aload_n hx hb dX13_readTerm_105 rfl (lv_at hl 1 rfl) ?_
            obtain ⟨r_49, u_50, h_51, hF⟩ := pcl_some hF
            cases r_49 with
            | none =>
              have hF := pot_none hF
              exact mt_pass hH (mt_run (As := []) (rest := []) hC hH (t_name l G Z Q u_47 u_50  _ h_51) kwX13_name kVX13_name ⟨Nat.le_of_ble_eq_true rfl, Nat.le_of_ble_eq_true rfl⟩ rfl hl.1 rfl (Nat.le_of_ble_eq_true rfl) dX13_readTerm_106) hno hlocks (prt_eqT hF)
            | some r_52 =>
              have hF := pot_some hF
              refine mcV_v (As := []) (rest := []) hC hH (m_name l G Z Q u_47 u_50 r_52  _ h_51) kwX13_name kVX13_name ⟨Nat.le_of_ble_eq_true rfl, Nat.le_of_ble_eq_true rfl⟩ rfl hl.1 rfl (Nat.le_of_ble_eq_true rfl) dX13_readTerm_106 (fun H locs hH => ?_)
              refine lv_aload_n hx hb dX13_readTerm_109 rfl (lv_at hl 1 rfl) ?_
              obtain ⟨r_53, u_54, h_55, hF⟩ := pcl_some hF
              refine mcV_i (As := []) (rest := []) hC hH (m_findSign l G Z Q u_50 u_54 r_53  _ h_55) kwX13_findSign kVX13_findSign ⟨Nat.le_of_ble_eq_true rfl, Nat.le_of_ble_eq_true rfl⟩ rfl hl.1 rfl (Nat.le_of_ble_eq_true rfl) dX13_readTerm_110 (fun H locs hH => ?_)
              refine lv_istore_n (lv' := [(2, .int r_53), (1, .int 1), (0, .ref (Q 72))]) hx hb dX13_readTerm_113 rfl hl (by decide) rfl (fun ls hl => ?_)
              refine lv_iload_n hx hb dX13_readTerm_114 rfl (lv_at hl 0 rfl) ?_
              refine lv_iconst (v := (-1)) hx hb dX13_readTerm_115 (by decide) ?_
              refine lv_icmp_ne (tgt := 129) hx hb dX13_readTerm_116 (by decide) (fun c_56 => ?_) (fun c_56 => ?_)
              · rw [if_neg c_56] at hF
                refine lv_aload_n hx hb dX13_readTerm_129 rfl (lv_at hl 2 rfl) ?_
                refine lv_iload_n hx hb dX13_readTerm_130 rfl (lv_at hl 1 rfl) ?_
                refine lv_iload_n hx hb dX13_readTerm_131 rfl (lv_at hl 0 rfl) ?_
                obtain ⟨r_57, u_58, h_59, hF⟩ := pcl_some hF
                refine mcV_v (As := [.int 1, .int r_53]) (rest := []) hC hH (m_put l G Z Q u_54 u_58 r_57 1 r_53 _ h_59) kwX13_put kVX13_put ⟨Nat.le_of_ble_eq_true rfl, Nat.le_of_ble_eq_true rfl⟩ rfl hl.1 rfl (Nat.le_of_ble_eq_true rfl) dX13_readTerm_132 (fun H locs hH => ?_)
                refine lv_aload_n hx hb dX13_readTerm_135 rfl (lv_at hl 2 rfl) ?_
                obtain ⟨r_60, u_61, h_62, hF⟩ := pcl_some hF
                refine mcV_v (As := []) (rest := []) hC hH (m_scan l G Z Q u_58 u_61 r_60  _ h_62) kwX13_scan kVX13_scan ⟨Nat.le_of_ble_eq_true rfl, Nat.le_of_ble_eq_true rfl⟩ rfl hl.1 rfl (Nat.le_of_ble_eq_true rfl) dX13_readTerm_136 (fun H locs hH => ?_)
                exact (prt_no2 hF).elim
              · rw [if_pos c_56] at hF
                refine lv_aload_n hx hb dX13_readTerm_119 rfl (lv_at hl 2 rfl) ?_
                refine lv_iconst (v := 2) hx hb dX13_readTerm_120 (by decide) ?_
                refine lv_aload_n hx hb dX13_readTerm_121 rfl (lv_at hl 2 rfl) ?_
                refine mg_44 hC hH dX13_readTerm_122 ?_
                obtain ⟨x_63, e_64, hF⟩ := prf_some hF
                refine gx_ti e_64 ?_
                obtain ⟨r_65, u_66, h_67, hF⟩ := pcl_some hF
                refine mcV_r (As := [.int 2, .int x_63]) (rest := []) hC hH (m_wrong l G Z Q u_54 u_66 r_65 2 x_63 _ h_67) kwX13_wrong kVX13_wrong ⟨Nat.le_of_ble_eq_true rfl, Nat.le_of_ble_eq_true rfl⟩ rfl hl.1 rfl (Nat.le_of_ble_eq_true rfl) dX13_readTerm_125 (fun H locs hH => ?_)
                exact mt_throw hC hH hno (prt_eqT hF) dX13_readTerm_128 hlocks
      · rw [if_pos c_11] at hF
        refine lv_aload_n hx hb dX13_readTerm_61 rfl (lv_at hl 0 rfl) ?_
        refine th_ldcw (tx := sTx 12) hx hb hC.2.2.2.1 (hC.2.2.2.2.2.2.2.2.1 12 (by decide)) dX13_readTerm_62 ?_
        obtain ⟨r_68, u_69, h_70, hF⟩ := pcl_some hF
        refine mcV_i (As := [.ref (Z.1 12)]) (rest := []) hC hH (m_is l G Z Q u_9 u_69 r_68 12 _ h_70 (by decide)) kwX13_is kVX13_is ⟨Nat.le_of_ble_eq_true rfl, Nat.le_of_ble_eq_true rfl⟩ rfl hl.1 rfl (Nat.le_of_ble_eq_true rfl) dX13_readTerm_65 (fun H locs hH => ?_)
        refine lv_if_ne (tgt := 81) hx hb dX13_readTerm_68 (by decide) (fun c_71 => ?_) (fun c_71 => ?_)
        · rw [if_neg c_71] at hF
          refine lv_aload_n hx hb dX13_readTerm_81 rfl (lv_at hl 0 rfl) ?_
          refine th_ldcw (tx := sTx 11) hx hb hC.2.2.2.1 (hC.2.2.2.2.2.2.2.2.1 11 (by decide)) dX13_readTerm_82 ?_
          obtain ⟨r_72, u_73, h_74, hF⟩ := pcl_some hF
          refine mcV_i (As := [.ref (Z.1 11)]) (rest := []) hC hH (m_is l G Z Q u_69 u_73 r_72 11 _ h_74 (by decide)) kwX13_is kVX13_is ⟨Nat.le_of_ble_eq_true rfl, Nat.le_of_ble_eq_true rfl⟩ rfl hl.1 rfl (Nat.le_of_ble_eq_true rfl) dX13_readTerm_85 (fun H locs hH => ?_)
          refine lv_if_eq (tgt := 95) hx hb dX13_readTerm_88 (by decide) (fun c_75 => ?_) (fun c_75 => ?_)
          · rw [if_pos c_75] at hF
            refine lv_iconst (v := 2) hx hb dX13_readTerm_95 (by decide) ?_
            refine lv_istore_n (lv' := [(1, .int 2), (0, .ref (Q 72))]) hx hb dX13_readTerm_96 rfl hl (by decide) rfl (fun ls hl => ?_)
            refine lv_aload_n hx hb dX13_readTerm_97 rfl (lv_at hl 1 rfl) ?_
            obtain ⟨r_76, u_77, h_78, hF⟩ := pcl_some hF
            cases r_76 with
            | none =>
              have hF := pot_none hF
              exact mt_pass hH (mt_run (As := []) (rest := []) hC hH (t_counts l G Z Q u_73 u_77  _ h_78) kwX13_counts kVX13_counts ⟨Nat.le_of_ble_eq_true rfl, Nat.le_of_ble_eq_true rfl⟩ rfl hl.1 rfl (Nat.le_of_ble_eq_true rfl) dX13_readTerm_98) hno hlocks (prt_eqT hF)
            | some r_79 =>
              have hF := pot_some hF
              refine mcV_v (As := []) (rest := []) hC hH (m_counts l G Z Q u_73 u_77 r_79  _ h_78) kwX13_counts kVX13_counts ⟨Nat.le_of_ble_eq_true rfl, Nat.le_of_ble_eq_true rfl⟩ rfl hl.1 rfl (Nat.le_of_ble_eq_true rfl) dX13_readTerm_98 (fun H locs hH => ?_)
              refine lv_aload_n hx hb dX13_readTerm_101 rfl (lv_at hl 1 rfl) ?_
              obtain ⟨r_80, u_81, h_82, hF⟩ := pcl_some hF
              refine mcV_v (As := []) (rest := []) hC hH (m_scan l G Z Q u_77 u_81 r_80  _ h_82) kwX13_scan kVX13_scan ⟨Nat.le_of_ble_eq_true rfl, Nat.le_of_ble_eq_true rfl⟩ rfl hl.1 rfl (Nat.le_of_ble_eq_true rfl) dX13_readTerm_102 (fun H locs hH => ?_)
              refine lv_aload_n hx hb dX13_readTerm_105 rfl (lv_at hl 1 rfl) ?_
              obtain ⟨r_83, u_84, h_85, hF⟩ := pcl_some hF
              cases r_83 with
              | none =>
                have hF := pot_none hF
                exact mt_pass hH (mt_run (As := []) (rest := []) hC hH (t_name l G Z Q u_81 u_84  _ h_85) kwX13_name kVX13_name ⟨Nat.le_of_ble_eq_true rfl, Nat.le_of_ble_eq_true rfl⟩ rfl hl.1 rfl (Nat.le_of_ble_eq_true rfl) dX13_readTerm_106) hno hlocks (prt_eqT hF)
              | some r_86 =>
                have hF := pot_some hF
                refine mcV_v (As := []) (rest := []) hC hH (m_name l G Z Q u_81 u_84 r_86  _ h_85) kwX13_name kVX13_name ⟨Nat.le_of_ble_eq_true rfl, Nat.le_of_ble_eq_true rfl⟩ rfl hl.1 rfl (Nat.le_of_ble_eq_true rfl) dX13_readTerm_106 (fun H locs hH => ?_)
                refine lv_aload_n hx hb dX13_readTerm_109 rfl (lv_at hl 1 rfl) ?_
                obtain ⟨r_87, u_88, h_89, hF⟩ := pcl_some hF
                refine mcV_i (As := []) (rest := []) hC hH (m_findSign l G Z Q u_84 u_88 r_87  _ h_89) kwX13_findSign kVX13_findSign ⟨Nat.le_of_ble_eq_true rfl, Nat.le_of_ble_eq_true rfl⟩ rfl hl.1 rfl (Nat.le_of_ble_eq_true rfl) dX13_readTerm_110 (fun H locs hH => ?_)
                refine lv_istore_n (lv' := [(2, .int r_87), (1, .int 2), (0, .ref (Q 72))]) hx hb dX13_readTerm_113 rfl hl (by decide) rfl (fun ls hl => ?_)
                refine lv_iload_n hx hb dX13_readTerm_114 rfl (lv_at hl 0 rfl) ?_
                refine lv_iconst (v := (-1)) hx hb dX13_readTerm_115 (by decide) ?_
                refine lv_icmp_ne (tgt := 129) hx hb dX13_readTerm_116 (by decide) (fun c_90 => ?_) (fun c_90 => ?_)
                · rw [if_neg c_90] at hF
                  refine lv_aload_n hx hb dX13_readTerm_129 rfl (lv_at hl 2 rfl) ?_
                  refine lv_iload_n hx hb dX13_readTerm_130 rfl (lv_at hl 1 rfl) ?_
                  refine lv_iload_n hx hb dX13_readTerm_131 rfl (lv_at hl 0 rfl) ?_
                  obtain ⟨r_91, u_92, h_93, hF⟩ := pcl_some hF
                  refine mcV_v (As := [.int 2, .int r_87]) (rest := []) hC hH (m_put l G Z Q u_88 u_92 r_91 2 r_87 _ h_93) kwX13_put kVX13_put ⟨Nat.le_of_ble_eq_true rfl, Nat.le_of_ble_eq_true rfl⟩ rfl hl.1 rfl (Nat.le_of_ble_eq_true rfl) dX13_readTerm_132 (fun H locs hH => ?_)
                  refine lv_aload_n hx hb dX13_readTerm_135 rfl (lv_at hl 2 rfl) ?_
                  obtain ⟨r_94, u_95, h_96, hF⟩ := pcl_some hF
                  refine mcV_v (As := []) (rest := []) hC hH (m_scan l G Z Q u_92 u_95 r_94  _ h_96) kwX13_scan kVX13_scan ⟨Nat.le_of_ble_eq_true rfl, Nat.le_of_ble_eq_true rfl⟩ rfl hl.1 rfl (Nat.le_of_ble_eq_true rfl) dX13_readTerm_136 (fun H locs hH => ?_)
                  exact (prt_no2 hF).elim
                · rw [if_pos c_90] at hF
                  refine lv_aload_n hx hb dX13_readTerm_119 rfl (lv_at hl 2 rfl) ?_
                  refine lv_iconst (v := 2) hx hb dX13_readTerm_120 (by decide) ?_
                  refine lv_aload_n hx hb dX13_readTerm_121 rfl (lv_at hl 2 rfl) ?_
                  refine mg_44 hC hH dX13_readTerm_122 ?_
                  obtain ⟨x_97, e_98, hF⟩ := prf_some hF
                  refine gx_ti e_98 ?_
                  obtain ⟨r_99, u_100, h_101, hF⟩ := pcl_some hF
                  refine mcV_r (As := [.int 2, .int x_97]) (rest := []) hC hH (m_wrong l G Z Q u_88 u_100 r_99 2 x_97 _ h_101) kwX13_wrong kVX13_wrong ⟨Nat.le_of_ble_eq_true rfl, Nat.le_of_ble_eq_true rfl⟩ rfl hl.1 rfl (Nat.le_of_ble_eq_true rfl) dX13_readTerm_125 (fun H locs hH => ?_)
                  exact mt_throw hC hH hno (prt_eqT hF) dX13_readTerm_128 hlocks
          · rw [if_neg c_75] at hF
            refine lv_iconst (v := 1) hx hb dX13_readTerm_91 (by decide) ?_
            refine lv_goto (tgt := 96) hx hb dX13_readTerm_92 (by decide) ?_
            refine lv_istore_n (lv' := [(1, .int 1), (0, .ref (Q 72))]) hx hb dX13_readTerm_96 rfl hl (by decide) rfl (fun ls hl => ?_)
            refine lv_aload_n hx hb dX13_readTerm_97 rfl (lv_at hl 1 rfl) ?_
            obtain ⟨r_102, u_103, h_104, hF⟩ := pcl_some hF
            cases r_102 with
            | none =>
              have hF := pot_none hF
              exact mt_pass hH (mt_run (As := []) (rest := []) hC hH (t_counts l G Z Q u_73 u_103  _ h_104) kwX13_counts kVX13_counts ⟨Nat.le_of_ble_eq_true rfl, Nat.le_of_ble_eq_true rfl⟩ rfl hl.1 rfl (Nat.le_of_ble_eq_true rfl) dX13_readTerm_98) hno hlocks (prt_eqT hF)
            | some r_105 =>
              have hF := pot_some hF
              refine mcV_v (As := []) (rest := []) hC hH (m_counts l G Z Q u_73 u_103 r_105  _ h_104) kwX13_counts kVX13_counts ⟨Nat.le_of_ble_eq_true rfl, Nat.le_of_ble_eq_true rfl⟩ rfl hl.1 rfl (Nat.le_of_ble_eq_true rfl) dX13_readTerm_98 (fun H locs hH => ?_)
              refine lv_aload_n hx hb dX13_readTerm_101 rfl (lv_at hl 1 rfl) ?_
              obtain ⟨r_106, u_107, h_108, hF⟩ := pcl_some hF
              refine mcV_v (As := []) (rest := []) hC hH (m_scan l G Z Q u_103 u_107 r_106  _ h_108) kwX13_scan kVX13_scan ⟨Nat.le_of_ble_eq_true rfl, Nat.le_of_ble_eq_true rfl⟩ rfl hl.1 rfl (Nat.le_of_ble_eq_true rfl) dX13_readTerm_102 (fun H locs hH => ?_)
              refine lv_aload_n hx hb dX13_readTerm_105 rfl (lv_at hl 1 rfl) ?_
              obtain ⟨r_109, u_110, h_111, hF⟩ := pcl_some hF
              cases r_109 with
              | none =>
                have hF := pot_none hF
                exact mt_pass hH (mt_run (As := []) (rest := []) hC hH (t_name l G Z Q u_107 u_110  _ h_111) kwX13_name kVX13_name ⟨Nat.le_of_ble_eq_true rfl, Nat.le_of_ble_eq_true rfl⟩ rfl hl.1 rfl (Nat.le_of_ble_eq_true rfl) dX13_readTerm_106) hno hlocks (prt_eqT hF)
              | some r_112 =>
                have hF := pot_some hF
                refine mcV_v (As := []) (rest := []) hC hH (m_name l G Z Q u_107 u_110 r_112  _ h_111) kwX13_name kVX13_name ⟨Nat.le_of_ble_eq_true rfl, Nat.le_of_ble_eq_true rfl⟩ rfl hl.1 rfl (Nat.le_of_ble_eq_true rfl) dX13_readTerm_106 (fun H locs hH => ?_)
                refine lv_aload_n hx hb dX13_readTerm_109 rfl (lv_at hl 1 rfl) ?_
                obtain ⟨r_113, u_114, h_115, hF⟩ := pcl_some hF
                refine mcV_i (As := []) (rest := []) hC hH (m_findSign l G Z Q u_110 u_114 r_113  _ h_115) kwX13_findSign kVX13_findSign ⟨Nat.le_of_ble_eq_true rfl, Nat.le_of_ble_eq_true rfl⟩ rfl hl.1 rfl (Nat.le_of_ble_eq_true rfl) dX13_readTerm_110 (fun H locs hH => ?_)
                refine lv_istore_n (lv' := [(2, .int r_113), (1, .int 1), (0, .ref (Q 72))]) hx hb dX13_readTerm_113 rfl hl (by decide) rfl (fun ls hl => ?_)
                refine lv_iload_n hx hb dX13_readTerm_114 rfl (lv_at hl 0 rfl) ?_
                refine lv_iconst (v := (-1)) hx hb dX13_readTerm_115 (by decide) ?_
                refine lv_icmp_ne (tgt := 129) hx hb dX13_readTerm_116 (by decide) (fun c_116 => ?_) (fun c_116 => ?_)
                · rw [if_neg c_116] at hF
                  refine lv_aload_n hx hb dX13_readTerm_129 rfl (lv_at hl 2 rfl) ?_
                  refine lv_iload_n hx hb dX13_readTerm_130 rfl (lv_at hl 1 rfl) ?_
                  refine lv_iload_n hx hb dX13_readTerm_131 rfl (lv_at hl 0 rfl) ?_
                  obtain ⟨r_117, u_118, h_119, hF⟩ := pcl_some hF
                  refine mcV_v (As := [.int 1, .int r_113]) (rest := []) hC hH (m_put l G Z Q u_114 u_118 r_117 1 r_113 _ h_119) kwX13_put kVX13_put ⟨Nat.le_of_ble_eq_true rfl, Nat.le_of_ble_eq_true rfl⟩ rfl hl.1 rfl (Nat.le_of_ble_eq_true rfl) dX13_readTerm_132 (fun H locs hH => ?_)
                  refine lv_aload_n hx hb dX13_readTerm_135 rfl (lv_at hl 2 rfl) ?_
                  obtain ⟨r_120, u_121, h_122, hF⟩ := pcl_some hF
                  refine mcV_v (As := []) (rest := []) hC hH (m_scan l G Z Q u_118 u_121 r_120  _ h_122) kwX13_scan kVX13_scan ⟨Nat.le_of_ble_eq_true rfl, Nat.le_of_ble_eq_true rfl⟩ rfl hl.1 rfl (Nat.le_of_ble_eq_true rfl) dX13_readTerm_136 (fun H locs hH => ?_)
                  exact (prt_no2 hF).elim
                · rw [if_pos c_116] at hF
                  refine lv_aload_n hx hb dX13_readTerm_119 rfl (lv_at hl 2 rfl) ?_
                  refine lv_iconst (v := 2) hx hb dX13_readTerm_120 (by decide) ?_
                  refine lv_aload_n hx hb dX13_readTerm_121 rfl (lv_at hl 2 rfl) ?_
                  refine mg_44 hC hH dX13_readTerm_122 ?_
                  obtain ⟨x_123, e_124, hF⟩ := prf_some hF
                  refine gx_ti e_124 ?_
                  obtain ⟨r_125, u_126, h_127, hF⟩ := pcl_some hF
                  refine mcV_r (As := [.int 2, .int x_123]) (rest := []) hC hH (m_wrong l G Z Q u_114 u_126 r_125 2 x_123 _ h_127) kwX13_wrong kVX13_wrong ⟨Nat.le_of_ble_eq_true rfl, Nat.le_of_ble_eq_true rfl⟩ rfl hl.1 rfl (Nat.le_of_ble_eq_true rfl) dX13_readTerm_125 (fun H locs hH => ?_)
                  exact mt_throw hC hH hno (prt_eqT hF) dX13_readTerm_128 hlocks
        · rw [if_pos c_71] at hF
          refine lv_aload_n hx hb dX13_readTerm_71 rfl (lv_at hl 0 rfl) ?_
          refine lv_iconst (v := 1) hx hb dX13_readTerm_72 (by decide) ?_
          refine lv_aload_n hx hb dX13_readTerm_73 rfl (lv_at hl 0 rfl) ?_
          refine mg_44 hC hH dX13_readTerm_74 ?_
          obtain ⟨x_128, e_129, hF⟩ := prf_some hF
          refine gx_ti e_129 ?_
          obtain ⟨r_130, u_131, h_132, hF⟩ := pcl_some hF
          refine mcV_r (As := [.int 1, .int x_128]) (rest := []) hC hH (m_wrong l G Z Q u_69 u_131 r_130 1 x_128 _ h_132) kwX13_wrong kVX13_wrong ⟨Nat.le_of_ble_eq_true rfl, Nat.le_of_ble_eq_true rfl⟩ rfl hl.1 rfl (Nat.le_of_ble_eq_true rfl) dX13_readTerm_77 (fun H locs hH => ?_)
          exact mt_throw hC hH hno (prt_eqT hF) dX13_readTerm_80 hlocks
    · rw [if_neg c_7] at hF
      refine lv_aload_n hx hb dX13_readTerm_36 rfl (lv_at hl 0 rfl) ?_
      obtain ⟨r_133, u_134, h_135, hF⟩ := pcl_some hF
      cases r_133 with
      | none =>
        have hF := pot_none hF
        exact mt_pass hH (mt_run (As := []) (rest := []) hC hH (t_counts l G Z Q u_5 u_134  _ h_135) kwX13_counts kVX13_counts ⟨Nat.le_of_ble_eq_true rfl, Nat.le_of_ble_eq_true rfl⟩ rfl hl.1 rfl (Nat.le_of_ble_eq_true rfl) dX13_readTerm_37) hno hlocks (prt_eqT hF)
      | some r_136 =>
        have hF := pot_some hF
        refine mcV_v (As := []) (rest := []) hC hH (m_counts l G Z Q u_5 u_134 r_136  _ h_135) kwX13_counts kVX13_counts ⟨Nat.le_of_ble_eq_true rfl, Nat.le_of_ble_eq_true rfl⟩ rfl hl.1 rfl (Nat.le_of_ble_eq_true rfl) dX13_readTerm_37 (fun H locs hH => ?_)
        refine lv_aload_n hx hb dX13_readTerm_40 rfl (lv_at hl 0 rfl) ?_
        refine lv_iconst (v := 3) hx hb dX13_readTerm_41 (by decide) ?_
        refine lv_iconst (v := 0) hx hb dX13_readTerm_42 (by decide) ?_
        obtain ⟨r_137, u_138, h_139, hF⟩ := pcl_some hF
        refine mcV_v (As := [.int 3, .int 0]) (rest := []) hC hH (m_put l G Z Q u_134 u_138 r_137 3 0 _ h_139) kwX13_put kVX13_put ⟨Nat.le_of_ble_eq_true rfl, Nat.le_of_ble_eq_true rfl⟩ rfl hl.1 rfl (Nat.le_of_ble_eq_true rfl) dX13_readTerm_43 (fun H locs hH => ?_)
        refine lv_aload_n hx hb dX13_readTerm_46 rfl (lv_at hl 0 rfl) ?_
        obtain ⟨r_140, u_141, h_142, hF⟩ := pcl_some hF
        refine mcV_v (As := []) (rest := []) hC hH (m_scan l G Z Q u_138 u_141 r_140  _ h_142) kwX13_scan kVX13_scan ⟨Nat.le_of_ble_eq_true rfl, Nat.le_of_ble_eq_true rfl⟩ rfl hl.1 rfl (Nat.le_of_ble_eq_true rfl) dX13_readTerm_47 (fun H locs hH => ?_)
        exact (prt_no2 hF).elim
  · rw [if_pos c_3] at hF
    refine lv_aload_n hx hb dX13_readTerm_8 rfl (lv_at hl 0 rfl) ?_
    obtain ⟨r_143, u_144, h_145, hF⟩ := pcl_some hF
    cases r_143 with
    | none =>
      have hF := pot_none hF
      exact mt_pass hH (mt_run (As := []) (rest := []) hC hH (t_counts l G Z Q u u_144  _ h_145) kwX13_counts kVX13_counts ⟨Nat.le_of_ble_eq_true rfl, Nat.le_of_ble_eq_true rfl⟩ rfl hl.1 rfl (Nat.le_of_ble_eq_true rfl) dX13_readTerm_9) hno hlocks (prt_eqT hF)
    | some r_146 =>
      have hF := pot_some hF
      refine mcV_v (As := []) (rest := []) hC hH (m_counts l G Z Q u u_144 r_146  _ h_145) kwX13_counts kVX13_counts ⟨Nat.le_of_ble_eq_true rfl, Nat.le_of_ble_eq_true rfl⟩ rfl hl.1 rfl (Nat.le_of_ble_eq_true rfl) dX13_readTerm_9 (fun H locs hH => ?_)
      refine lv_aload_n hx hb dX13_readTerm_12 rfl (lv_at hl 0 rfl) ?_
      refine lv_iconst (v := 0) hx hb dX13_readTerm_13 (by decide) ?_
      refine lv_aload_n hx hb dX13_readTerm_14 rfl (lv_at hl 0 rfl) ?_
      refine mg_47 hC hH dX13_readTerm_15 ?_
      obtain ⟨x_147, e_148, hF⟩ := prf_some hF
      refine gx_ti e_148 ?_
      obtain ⟨r_149, u_150, h_151, hF⟩ := pcl_some hF
      refine mcV_v (As := [.int 0, .int x_147]) (rest := []) hC hH (m_put l G Z Q u_144 u_150 r_149 0 x_147 _ h_151) kwX13_put kVX13_put ⟨Nat.le_of_ble_eq_true rfl, Nat.le_of_ble_eq_true rfl⟩ rfl hl.1 rfl (Nat.le_of_ble_eq_true rfl) dX13_readTerm_18 (fun H locs hH => ?_)
      refine lv_aload_n hx hb dX13_readTerm_21 rfl (lv_at hl 0 rfl) ?_
      obtain ⟨r_152, u_153, h_154, hF⟩ := pcl_some hF
      refine mcV_v (As := []) (rest := []) hC hH (m_scan l G Z Q u_150 u_153 r_152  _ h_154) kwX13_scan kVX13_scan ⟨Nat.le_of_ble_eq_true rfl, Nat.le_of_ble_eq_true rfl⟩ rfl hl.1 rfl (Nat.le_of_ble_eq_true rfl) dX13_readTerm_22 (fun H locs hH => ?_)
      exact (prt_no2 hF).elim
def lp_readSum_4 : Nat → (PG (Option Int32)) → PG (Option Int32)
  | 0, _ => fun _ => none
  | n4 + 1, K4_62 => pcl (f_is 23) (fun r_5 => (if r_5 = 0 then pcl (f_is 24) (fun r_41 => (if r_41 = 0 then K4_62  else pcl (f_is 23) (fun r_45 => (if r_45 = 0 then pcl (f_hold) (fun r_49 => pot r_49 (prt none) (fun r_52 => pcl (f_scan) (fun r_53 => pcl (f_readTerm) (fun r_56 => pot r_56 (prt none) (fun r_59 => pcl (f_release 8) (fun r_60 => lp_readSum_4 n4  K4_62)))))) else pcl (f_hold) (fun r_63 => pot r_63 (prt none) (fun r_66 => pcl (f_scan) (fun r_67 => pcl (f_readTerm) (fun r_70 => pot r_70 (prt none) (fun r_73 => pcl (f_release 7) (fun r_74 => lp_readSum_4 n4  K4_62)))))))))) else pcl (f_is 23) (fun r_9 => (if r_9 = 0 then pcl (f_hold) (fun r_13 => pot r_13 (prt none) (fun r_16 => pcl (f_scan) (fun r_17 => pcl (f_readTerm) (fun r_20 => pot r_20 (prt none) (fun r_23 => pcl (f_release 8) (fun r_24 => lp_readSum_4 n4  K4_62)))))) else pcl (f_hold) (fun r_27 => pot r_27 (prt none) (fun r_30 => pcl (f_scan) (fun r_31 => pcl (f_readTerm) (fun r_34 => pot r_34 (prt none) (fun r_37 => pcl (f_release 7) (fun r_38 => lp_readSum_4 n4  K4_62))))))))))
def f_readSum  : PG (Option Int32) := pcl (f_readTerm) (fun r_1 => pot r_1 (prt none) (fun r_4 => lp_readSum_4 fuel  (prt (some 0))))
set_option maxHeartbeats 4000000 in
set_option maxRecDepth 100000 in
theorem m_readSum (l : Launch) (G : gG) (Z : gM) (Q : Nat → Nat) (u u1 : GS) (r : Int32)  (sz : Nat) (hF : f_readSum u = some (some r, u1)) : Met l yX13_readSum (Cond.code yX13_readSum cX13_readSum 2 none :: wM) { frames := 9, cells := 0, slots := 0, locals := 191 } (va_Pc [.ref (Q 72)] (mPM G Z Q u.1 sz)) (mQv G Q u1.1 sz) 0 0 (mA Q sz) := by
  refine Met.ofW (cc := cX13_readSum) (maxL := 2) (ret := none) (by decide) rfl ?_
  intro p e s m args below meth c s₁ B hml hv
  obtain ⟨rfl, rfl, hP, hB, hD, hE⟩ := hv
  have hr := B.returns
  have hlocks := B.notSynchronized
  have hts := atoms_spec (ws := Cond.code yX13_readSum cX13_readSum 2 none :: wM) B.pre
  have hC : mX p c cX13_readSum 2 s m _ G Z Q := ⟨B.exec, B.bytes, hml, findClass_of_methodNamed B.named, fun w h => hts w (List.mem_cons_of_mem _ h), hB, hE⟩
  have hx := hC.1
  have hb := hC.2.1
  have hH : mH G Q u.1 s s.heap [] := ⟨hP, hD, va_S.rf⟩
  have hl := lv_entry ([.ref (Q 72)]) (n := 2) (Nat.le_of_ble_eq_true rfl)
  rw [lg_entry_eq]
  generalize (lg_sl ([.ref (Q 72)]) ++ List.replicate (2 - (lg_sl ([.ref (Q 72)])).length) Slot.unset).toArray = ls at hl ⊢
  have hl : lv_has ls 2 [(0, .ref (Q 72))] := hl
  unfold f_readSum at hF
  refine lv_aload_n hx hb dX13_readSum_0 rfl (lv_at hl 0 rfl) ?_
  obtain ⟨r_1, u_2, h_3, hF⟩ := pcl_some hF
  cases r_1 with
  | none =>
    have hF := pot_none hF
    exact (prt_no hF).elim
  | some r_4 =>
    have hF := pot_some hF
    refine mcV_v (As := []) (rest := []) hC hH (m_readTerm l G Z Q u u_2 r_4  _ h_3) kwX13_readTerm kVX13_readTerm ⟨Nat.le_of_ble_eq_true rfl, Nat.le_of_ble_eq_true rfl⟩ rfl hl.1 rfl (Nat.le_of_ble_eq_true rfl) dX13_readSum_1 (fun H locs hH => ?_)
    have hL4 : ∀ (K4_62 : PG (Option Int32)), (∀ (u : GS) (H : Heap) (locs : List Loc) (ls : Array Slot), lv_has ls 2 [(0, .ref (Q 72))] → mH G Q u.1 s H locs → K4_62  u = some ((some r, u1)) → W p l e (headSpec (Cond.code yX13_readSum cX13_readSum 2 none :: wM) { frames := 9, cells := 0, slots := 0, locals := 191 }).room s m [.ref (Q 72)].toArray below meth c H locs 0 0 (MQ below (mQv G Q u1.1 s.heap.size) [.ref (Q 72)].toArray s 0 0 (mA Q s.heap.size)) (F0 m 62 ls [])) → ∀ (n4 : Nat) (u : GS) (H : Heap) (locs : List Loc) (ls : Array Slot), lv_has ls 2 [(0, .ref (Q 72))] → mH G Q u.1 s H locs → lp_readSum_4 n4  K4_62 u = some ((some r, u1)) → W p l e (headSpec (Cond.code yX13_readSum cX13_readSum 2 none :: wM) { frames := 9, cells := 0, slots := 0, locals := 191 }).room s m [.ref (Q 72)].toArray below meth c H locs 0 0 (MQ below (mQv G Q u1.1 s.heap.size) [.ref (Q 72)].toArray s 0 0 (mA Q s.heap.size)) (F0 m 4 ls []) := by
      intro K4_62 hK4_62 n4
      induction n4 with
      | zero => intro  u H locs ls hl hH hF; cases hF
      | succ n4 ih4 =>
        intro  u H locs ls hl hH hF
        unfold lp_readSum_4 at hF
        refine lv_aload_n hx hb dX13_readSum_4 rfl (lv_at hl 0 rfl) ?_
        refine th_ldcw (tx := sTx 23) hx hb hC.2.2.2.1 (hC.2.2.2.2.2.2.2.2.1 23 (by decide)) dX13_readSum_5 ?_
        obtain ⟨r_5, u_6, h_7, hF⟩ := pcl_some hF
        refine mcV_i (As := [.ref (Z.1 23)]) (rest := []) hC hH (m_is l G Z Q u u_6 r_5 23 _ h_7 (by decide)) kwX13_is kVX13_is ⟨Nat.le_of_ble_eq_true rfl, Nat.le_of_ble_eq_true rfl⟩ rfl hl.1 rfl (Nat.le_of_ble_eq_true rfl) dX13_readSum_8 (fun H locs hH => ?_)
        refine lv_if_ne (tgt := 24) hx hb dX13_readSum_11 (by decide) (fun c_8 => ?_) (fun c_8 => ?_)
        · rw [if_neg c_8] at hF
          refine lv_aload_n hx hb dX13_readSum_24 rfl (lv_at hl 0 rfl) ?_
          refine th_ldcw (tx := sTx 23) hx hb hC.2.2.2.1 (hC.2.2.2.2.2.2.2.2.1 23 (by decide)) dX13_readSum_25 ?_
          obtain ⟨r_9, u_10, h_11, hF⟩ := pcl_some hF
          refine mcV_i (As := [.ref (Z.1 23)]) (rest := []) hC hH (m_is l G Z Q u_6 u_10 r_9 23 _ h_11 (by decide)) kwX13_is kVX13_is ⟨Nat.le_of_ble_eq_true rfl, Nat.le_of_ble_eq_true rfl⟩ rfl hl.1 rfl (Nat.le_of_ble_eq_true rfl) dX13_readSum_28 (fun H locs hH => ?_)
          refine lv_if_eq (tgt := 39) hx hb dX13_readSum_31 (by decide) (fun c_12 => ?_) (fun c_12 => ?_)
          · rw [if_pos c_12] at hF
            refine lv_bipush (v := 8) hx hb dX13_readSum_39 (by decide) ?_
            refine lv_istore_n (lv' := [(1, .int 8), (0, .ref (Q 72))]) hx hb dX13_readSum_41 rfl hl (by decide) rfl (fun ls hl => ?_)
            refine lv_aload_n hx hb dX13_readSum_42 rfl (lv_at hl 1 rfl) ?_
            obtain ⟨r_13, u_14, h_15, hF⟩ := pcl_some hF
            cases r_13 with
            | none =>
              have hF := pot_none hF
              exact (prt_no hF).elim
            | some r_16 =>
              have hF := pot_some hF
              refine mcV_v (As := []) (rest := []) hC hH (m_hold l G Z Q u_10 u_14 r_16  _ h_15) kwX13_hold kVX13_hold ⟨Nat.le_of_ble_eq_true rfl, Nat.le_of_ble_eq_true rfl⟩ rfl hl.1 rfl (Nat.le_of_ble_eq_true rfl) dX13_readSum_43 (fun H locs hH => ?_)
              refine lv_aload_n hx hb dX13_readSum_46 rfl (lv_at hl 1 rfl) ?_
              obtain ⟨r_17, u_18, h_19, hF⟩ := pcl_some hF
              refine mcV_v (As := []) (rest := []) hC hH (m_scan l G Z Q u_14 u_18 r_17  _ h_19) kwX13_scan kVX13_scan ⟨Nat.le_of_ble_eq_true rfl, Nat.le_of_ble_eq_true rfl⟩ rfl hl.1 rfl (Nat.le_of_ble_eq_true rfl) dX13_readSum_47 (fun H locs hH => ?_)
              refine lv_aload_n hx hb dX13_readSum_50 rfl (lv_at hl 1 rfl) ?_
              obtain ⟨r_20, u_21, h_22, hF⟩ := pcl_some hF
              cases r_20 with
              | none =>
                have hF := pot_none hF
                exact (prt_no hF).elim
              | some r_23 =>
                have hF := pot_some hF
                refine mcV_v (As := []) (rest := []) hC hH (m_readTerm l G Z Q u_18 u_21 r_23  _ h_22) kwX13_readTerm kVX13_readTerm ⟨Nat.le_of_ble_eq_true rfl, Nat.le_of_ble_eq_true rfl⟩ rfl hl.1 rfl (Nat.le_of_ble_eq_true rfl) dX13_readSum_51 (fun H locs hH => ?_)
                refine lv_aload_n hx hb dX13_readSum_54 rfl (lv_at hl 1 rfl) ?_
                refine lv_iload_n hx hb dX13_readSum_55 rfl (lv_at hl 0 rfl) ?_
                obtain ⟨r_24, u_25, h_26, hF⟩ := pcl_some hF
                refine mcV_v (As := [.int 8]) (rest := []) hC hH (m_release l G Z Q u_21 u_25 r_24 8 _ h_26) kwX13_release kVX13_release ⟨Nat.le_of_ble_eq_true rfl, Nat.le_of_ble_eq_true rfl⟩ rfl hl.1 rfl (Nat.le_of_ble_eq_true rfl) dX13_readSum_56 (fun H locs hH => ?_)
                refine lv_goto (tgt := 4) hx hb dX13_readSum_59 (by decide) ?_
                exact ih4  u_25 _ _ _ (lv_sub hl [1] rfl) hH hF
          · rw [if_neg c_12] at hF
            refine lv_bipush (v := 7) hx hb dX13_readSum_34 (by decide) ?_
            refine lv_goto (tgt := 41) hx hb dX13_readSum_36 (by decide) ?_
            refine lv_istore_n (lv' := [(1, .int 7), (0, .ref (Q 72))]) hx hb dX13_readSum_41 rfl hl (by decide) rfl (fun ls hl => ?_)
            refine lv_aload_n hx hb dX13_readSum_42 rfl (lv_at hl 1 rfl) ?_
            obtain ⟨r_27, u_28, h_29, hF⟩ := pcl_some hF
            cases r_27 with
            | none =>
              have hF := pot_none hF
              exact (prt_no hF).elim
            | some r_30 =>
              have hF := pot_some hF
              refine mcV_v (As := []) (rest := []) hC hH (m_hold l G Z Q u_10 u_28 r_30  _ h_29) kwX13_hold kVX13_hold ⟨Nat.le_of_ble_eq_true rfl, Nat.le_of_ble_eq_true rfl⟩ rfl hl.1 rfl (Nat.le_of_ble_eq_true rfl) dX13_readSum_43 (fun H locs hH => ?_)
              refine lv_aload_n hx hb dX13_readSum_46 rfl (lv_at hl 1 rfl) ?_
              obtain ⟨r_31, u_32, h_33, hF⟩ := pcl_some hF
              refine mcV_v (As := []) (rest := []) hC hH (m_scan l G Z Q u_28 u_32 r_31  _ h_33) kwX13_scan kVX13_scan ⟨Nat.le_of_ble_eq_true rfl, Nat.le_of_ble_eq_true rfl⟩ rfl hl.1 rfl (Nat.le_of_ble_eq_true rfl) dX13_readSum_47 (fun H locs hH => ?_)
              refine lv_aload_n hx hb dX13_readSum_50 rfl (lv_at hl 1 rfl) ?_
              obtain ⟨r_34, u_35, h_36, hF⟩ := pcl_some hF
              cases r_34 with
              | none =>
                have hF := pot_none hF
                exact (prt_no hF).elim
              | some r_37 =>
                have hF := pot_some hF
                refine mcV_v (As := []) (rest := []) hC hH (m_readTerm l G Z Q u_32 u_35 r_37  _ h_36) kwX13_readTerm kVX13_readTerm ⟨Nat.le_of_ble_eq_true rfl, Nat.le_of_ble_eq_true rfl⟩ rfl hl.1 rfl (Nat.le_of_ble_eq_true rfl) dX13_readSum_51 (fun H locs hH => ?_)
                refine lv_aload_n hx hb dX13_readSum_54 rfl (lv_at hl 1 rfl) ?_
                refine lv_iload_n hx hb dX13_readSum_55 rfl (lv_at hl 0 rfl) ?_
                obtain ⟨r_38, u_39, h_40, hF⟩ := pcl_some hF
                refine mcV_v (As := [.int 7]) (rest := []) hC hH (m_release l G Z Q u_35 u_39 r_38 7 _ h_40) kwX13_release kVX13_release ⟨Nat.le_of_ble_eq_true rfl, Nat.le_of_ble_eq_true rfl⟩ rfl hl.1 rfl (Nat.le_of_ble_eq_true rfl) dX13_readSum_56 (fun H locs hH => ?_)
                refine lv_goto (tgt := 4) hx hb dX13_readSum_59 (by decide) ?_
                exact ih4  u_39 _ _ _ (lv_sub hl [1] rfl) hH hF
        · rw [if_pos c_8] at hF
          refine lv_aload_n hx hb dX13_readSum_14 rfl (lv_at hl 0 rfl) ?_
          refine th_ldcw (tx := sTx 24) hx hb hC.2.2.2.1 (hC.2.2.2.2.2.2.2.2.1 24 (by decide)) dX13_readSum_15 ?_
          obtain ⟨r_41, u_42, h_43, hF⟩ := pcl_some hF
          refine mcV_i (As := [.ref (Z.1 24)]) (rest := []) hC hH (m_is l G Z Q u_6 u_42 r_41 24 _ h_43 (by decide)) kwX13_is kVX13_is ⟨Nat.le_of_ble_eq_true rfl, Nat.le_of_ble_eq_true rfl⟩ rfl hl.1 rfl (Nat.le_of_ble_eq_true rfl) dX13_readSum_18 (fun H locs hH => ?_)
          refine lv_if_eq (tgt := 62) hx hb dX13_readSum_21 (by decide) (fun c_44 => ?_) (fun c_44 => ?_)
          · rw [if_pos c_44] at hF
            exact hK4_62  u_42 _ _ _ (lv_sub hl [0] rfl) hH hF
          · rw [if_neg c_44] at hF
            refine lv_aload_n hx hb dX13_readSum_24 rfl (lv_at hl 0 rfl) ?_
            refine th_ldcw (tx := sTx 23) hx hb hC.2.2.2.1 (hC.2.2.2.2.2.2.2.2.1 23 (by decide)) dX13_readSum_25 ?_
            obtain ⟨r_45, u_46, h_47, hF⟩ := pcl_some hF
            refine mcV_i (As := [.ref (Z.1 23)]) (rest := []) hC hH (m_is l G Z Q u_42 u_46 r_45 23 _ h_47 (by decide)) kwX13_is kVX13_is ⟨Nat.le_of_ble_eq_true rfl, Nat.le_of_ble_eq_true rfl⟩ rfl hl.1 rfl (Nat.le_of_ble_eq_true rfl) dX13_readSum_28 (fun H locs hH => ?_)
            refine lv_if_eq (tgt := 39) hx hb dX13_readSum_31 (by decide) (fun c_48 => ?_) (fun c_48 => ?_)
            · rw [if_pos c_48] at hF
              refine lv_bipush (v := 8) hx hb dX13_readSum_39 (by decide) ?_
              refine lv_istore_n (lv' := [(1, .int 8), (0, .ref (Q 72))]) hx hb dX13_readSum_41 rfl hl (by decide) rfl (fun ls hl => ?_)
              refine lv_aload_n hx hb dX13_readSum_42 rfl (lv_at hl 1 rfl) ?_
              obtain ⟨r_49, u_50, h_51, hF⟩ := pcl_some hF
              cases r_49 with
              | none =>
                have hF := pot_none hF
                exact (prt_no hF).elim
              | some r_52 =>
                have hF := pot_some hF
                refine mcV_v (As := []) (rest := []) hC hH (m_hold l G Z Q u_46 u_50 r_52  _ h_51) kwX13_hold kVX13_hold ⟨Nat.le_of_ble_eq_true rfl, Nat.le_of_ble_eq_true rfl⟩ rfl hl.1 rfl (Nat.le_of_ble_eq_true rfl) dX13_readSum_43 (fun H locs hH => ?_)
                refine lv_aload_n hx hb dX13_readSum_46 rfl (lv_at hl 1 rfl) ?_
                obtain ⟨r_53, u_54, h_55, hF⟩ := pcl_some hF
                refine mcV_v (As := []) (rest := []) hC hH (m_scan l G Z Q u_50 u_54 r_53  _ h_55) kwX13_scan kVX13_scan ⟨Nat.le_of_ble_eq_true rfl, Nat.le_of_ble_eq_true rfl⟩ rfl hl.1 rfl (Nat.le_of_ble_eq_true rfl) dX13_readSum_47 (fun H locs hH => ?_)
                refine lv_aload_n hx hb dX13_readSum_50 rfl (lv_at hl 1 rfl) ?_
                obtain ⟨r_56, u_57, h_58, hF⟩ := pcl_some hF
                cases r_56 with
                | none =>
                  have hF := pot_none hF
                  exact (prt_no hF).elim
                | some r_59 =>
                  have hF := pot_some hF
                  refine mcV_v (As := []) (rest := []) hC hH (m_readTerm l G Z Q u_54 u_57 r_59  _ h_58) kwX13_readTerm kVX13_readTerm ⟨Nat.le_of_ble_eq_true rfl, Nat.le_of_ble_eq_true rfl⟩ rfl hl.1 rfl (Nat.le_of_ble_eq_true rfl) dX13_readSum_51 (fun H locs hH => ?_)
                  refine lv_aload_n hx hb dX13_readSum_54 rfl (lv_at hl 1 rfl) ?_
                  refine lv_iload_n hx hb dX13_readSum_55 rfl (lv_at hl 0 rfl) ?_
                  obtain ⟨r_60, u_61, h_62, hF⟩ := pcl_some hF
                  refine mcV_v (As := [.int 8]) (rest := []) hC hH (m_release l G Z Q u_57 u_61 r_60 8 _ h_62) kwX13_release kVX13_release ⟨Nat.le_of_ble_eq_true rfl, Nat.le_of_ble_eq_true rfl⟩ rfl hl.1 rfl (Nat.le_of_ble_eq_true rfl) dX13_readSum_56 (fun H locs hH => ?_)
                  refine lv_goto (tgt := 4) hx hb dX13_readSum_59 (by decide) ?_
                  exact ih4  u_61 _ _ _ (lv_sub hl [1] rfl) hH hF
            · rw [if_neg c_48] at hF
              refine lv_bipush (v := 7) hx hb dX13_readSum_34 (by decide) ?_
              refine lv_goto (tgt := 41) hx hb dX13_readSum_36 (by decide) ?_
              refine lv_istore_n (lv' := [(1, .int 7), (0, .ref (Q 72))]) hx hb dX13_readSum_41 rfl hl (by decide) rfl (fun ls hl => ?_)
              refine lv_aload_n hx hb dX13_readSum_42 rfl (lv_at hl 1 rfl) ?_
              obtain ⟨r_63, u_64, h_65, hF⟩ := pcl_some hF
              cases r_63 with
              | none =>
                have hF := pot_none hF
                exact (prt_no hF).elim
              | some r_66 =>
                have hF := pot_some hF
                refine mcV_v (As := []) (rest := []) hC hH (m_hold l G Z Q u_46 u_64 r_66  _ h_65) kwX13_hold kVX13_hold ⟨Nat.le_of_ble_eq_true rfl, Nat.le_of_ble_eq_true rfl⟩ rfl hl.1 rfl (Nat.le_of_ble_eq_true rfl) dX13_readSum_43 (fun H locs hH => ?_)
                refine lv_aload_n hx hb dX13_readSum_46 rfl (lv_at hl 1 rfl) ?_
                obtain ⟨r_67, u_68, h_69, hF⟩ := pcl_some hF
                refine mcV_v (As := []) (rest := []) hC hH (m_scan l G Z Q u_64 u_68 r_67  _ h_69) kwX13_scan kVX13_scan ⟨Nat.le_of_ble_eq_true rfl, Nat.le_of_ble_eq_true rfl⟩ rfl hl.1 rfl (Nat.le_of_ble_eq_true rfl) dX13_readSum_47 (fun H locs hH => ?_)
                refine lv_aload_n hx hb dX13_readSum_50 rfl (lv_at hl 1 rfl) ?_
                obtain ⟨r_70, u_71, h_72, hF⟩ := pcl_some hF
                cases r_70 with
                | none =>
                  have hF := pot_none hF
                  exact (prt_no hF).elim
                | some r_73 =>
                  have hF := pot_some hF
                  refine mcV_v (As := []) (rest := []) hC hH (m_readTerm l G Z Q u_68 u_71 r_73  _ h_72) kwX13_readTerm kVX13_readTerm ⟨Nat.le_of_ble_eq_true rfl, Nat.le_of_ble_eq_true rfl⟩ rfl hl.1 rfl (Nat.le_of_ble_eq_true rfl) dX13_readSum_51 (fun H locs hH => ?_)
                  refine lv_aload_n hx hb dX13_readSum_54 rfl (lv_at hl 1 rfl) ?_
                  refine lv_iload_n hx hb dX13_readSum_55 rfl (lv_at hl 0 rfl) ?_
                  obtain ⟨r_74, u_75, h_76, hF⟩ := pcl_some hF
                  refine mcV_v (As := [.int 7]) (rest := []) hC hH (m_release l G Z Q u_71 u_75 r_74 7 _ h_76) kwX13_release kVX13_release ⟨Nat.le_of_ble_eq_true rfl, Nat.le_of_ble_eq_true rfl⟩ rfl hl.1 rfl (Nat.le_of_ble_eq_true rfl) dX13_readSum_56 (fun H locs hH => ?_)
                  refine lv_goto (tgt := 4) hx hb dX13_readSum_59 (by decide) ?_
                  exact ih4  u_75 _ _ _ (lv_sub hl [1] rfl) hH hF
    refine hL4 _ (fun  u H locs ls hl hH hF => ?_) fuel  u_2 _ _ _ (lv_sub hl [0] rfl) hH hF
    have hF := prt_eqS hF
    exact mr_v hC hH hr hF dX13_readSum_62 hlocks
set_option maxHeartbeats 4000000 in
set_option maxRecDepth 100000 in
theorem t_readSum (l : Launch) (G : gG) (Z : gM) (Q : Nat → Nat) (u u1 : GS)  (sz : Nat) (hF : f_readSum u = some (none, u1)) : MetT l yX13_readSum (Cond.code yX13_readSum cX13_readSum 2 none :: wM) { frames := 9, cells := 0, slots := 0, locals := 191 } (va_Pc [.ref (Q 72)] (mPM G Z Q u.1 sz)) (mQt G Q u1.1 sz) 0 0 (mA Q sz) := by
  refine MetT.ofW (cc := cX13_readSum) (maxL := 2) (ret := none) (by decide) rfl ?_
  intro p e s m args below meth c s₁ B hml hv
  obtain ⟨rfl, rfl, hP, hB, hD, hE⟩ := hv
  have hr := B.returns
  have hlocks := B.notSynchronized
  have hts := atoms_spec (ws := Cond.code yX13_readSum cX13_readSum 2 none :: wM) B.pre
  have hC : mX p c cX13_readSum 2 s m _ G Z Q := ⟨B.exec, B.bytes, hml, findClass_of_methodNamed B.named, fun w h => hts w (List.mem_cons_of_mem _ h), hB, hE⟩
  have hx := hC.1
  have hb := hC.2.1
  have hH : mH G Q u.1 s s.heap [] := ⟨hP, hD, va_S.rf⟩
  have hno : c.exceptionTable.isEmpty = true := BodyLoose.noHandlers B (hts _ List.mem_cons_self)
  have hl := lv_entry ([.ref (Q 72)]) (n := 2) (Nat.le_of_ble_eq_true rfl)
  rw [lg_entry_eq]
  generalize (lg_sl ([.ref (Q 72)]) ++ List.replicate (2 - (lg_sl ([.ref (Q 72)])).length) Slot.unset).toArray = ls at hl ⊢
  have hl : lv_has ls 2 [(0, .ref (Q 72))] := hl
  unfold f_readSum at hF
  refine lv_aload_n hx hb dX13_readSum_0 rfl (lv_at hl 0 rfl) ?_
  obtain ⟨r_1, u_2, h_3, hF⟩ := pcl_some hF
  cases r_1 with
  | none =>
    have hF := pot_none hF
    exact mt_pass hH (mt_run (As := []) (rest := []) hC hH (t_readTerm l G Z Q u u_2  _ h_3) kwX13_readTerm kVX13_readTerm ⟨Nat.le_of_ble_eq_true rfl, Nat.le_of_ble_eq_true rfl⟩ rfl hl.1 rfl (Nat.le_of_ble_eq_true rfl) dX13_readSum_1) hno hlocks (prt_eqT hF)
  | some r_4 =>
    have hF := pot_some hF
    refine mcV_v (As := []) (rest := []) hC hH (m_readTerm l G Z Q u u_2 r_4  _ h_3) kwX13_readTerm kVX13_readTerm ⟨Nat.le_of_ble_eq_true rfl, Nat.le_of_ble_eq_true rfl⟩ rfl hl.1 rfl (Nat.le_of_ble_eq_true rfl) dX13_readSum_1 (fun H locs hH => ?_)
    have hL4 : ∀ (K4_62 : PG (Option Int32)), (∀ (u : GS) (H : Heap) (locs : List Loc) (ls : Array Slot), lv_has ls 2 [(0, .ref (Q 72))] → mH G Q u.1 s H locs → K4_62  u = some ((none, u1)) → W p l e (headSpec (Cond.code yX13_readSum cX13_readSum 2 none :: wM) { frames := 9, cells := 0, slots := 0, locals := 191 }).room s m [.ref (Q 72)].toArray below meth c H locs 0 0 (MQT below (mQt G Q u1.1 s.heap.size) [.ref (Q 72)].toArray s 0 0 (mA Q s.heap.size)) (F0 m 62 ls [])) → ∀ (n4 : Nat) (u : GS) (H : Heap) (locs : List Loc) (ls : Array Slot), lv_has ls 2 [(0, .ref (Q 72))] → mH G Q u.1 s H locs → lp_readSum_4 n4  K4_62 u = some ((none, u1)) → W p l e (headSpec (Cond.code yX13_readSum cX13_readSum 2 none :: wM) { frames := 9, cells := 0, slots := 0, locals := 191 }).room s m [.ref (Q 72)].toArray below meth c H locs 0 0 (MQT below (mQt G Q u1.1 s.heap.size) [.ref (Q 72)].toArray s 0 0 (mA Q s.heap.size)) (F0 m 4 ls []) := by
      intro K4_62 hK4_62 n4
      induction n4 with
      | zero => intro  u H locs ls hl hH hF; cases hF
      | succ n4 ih4 =>
        intro  u H locs ls hl hH hF
        unfold lp_readSum_4 at hF
        refine lv_aload_n hx hb dX13_readSum_4 rfl (lv_at hl 0 rfl) ?_
        refine th_ldcw (tx := sTx 23) hx hb hC.2.2.2.1 (hC.2.2.2.2.2.2.2.2.1 23 (by decide)) dX13_readSum_5 ?_
        obtain ⟨r_5, u_6, h_7, hF⟩ := pcl_some hF
        refine mcV_i (As := [.ref (Z.1 23)]) (rest := []) hC hH (m_is l G Z Q u u_6 r_5 23 _ h_7 (by decide)) kwX13_is kVX13_is ⟨Nat.le_of_ble_eq_true rfl, Nat.le_of_ble_eq_true rfl⟩ rfl hl.1 rfl (Nat.le_of_ble_eq_true rfl) dX13_readSum_8 (fun H locs hH => ?_)
        refine lv_if_ne (tgt := 24) hx hb dX13_readSum_11 (by decide) (fun c_8 => ?_) (fun c_8 => ?_)
        · rw [if_neg c_8] at hF
          refine lv_aload_n hx hb dX13_readSum_24 rfl (lv_at hl 0 rfl) ?_
          refine th_ldcw (tx := sTx 23) hx hb hC.2.2.2.1 (hC.2.2.2.2.2.2.2.2.1 23 (by decide)) dX13_readSum_25 ?_
          obtain ⟨r_9, u_10, h_11, hF⟩ := pcl_some hF
          refine mcV_i (As := [.ref (Z.1 23)]) (rest := []) hC hH (m_is l G Z Q u_6 u_10 r_9 23 _ h_11 (by decide)) kwX13_is kVX13_is ⟨Nat.le_of_ble_eq_true rfl, Nat.le_of_ble_eq_true rfl⟩ rfl hl.1 rfl (Nat.le_of_ble_eq_true rfl) dX13_readSum_28 (fun H locs hH => ?_)
          refine lv_if_eq (tgt := 39) hx hb dX13_readSum_31 (by decide) (fun c_12 => ?_) (fun c_12 => ?_)
          · rw [if_pos c_12] at hF
            refine lv_bipush (v := 8) hx hb dX13_readSum_39 (by decide) ?_
            refine lv_istore_n (lv' := [(1, .int 8), (0, .ref (Q 72))]) hx hb dX13_readSum_41 rfl hl (by decide) rfl (fun ls hl => ?_)
            refine lv_aload_n hx hb dX13_readSum_42 rfl (lv_at hl 1 rfl) ?_
            obtain ⟨r_13, u_14, h_15, hF⟩ := pcl_some hF
            cases r_13 with
            | none =>
              have hF := pot_none hF
              exact mt_pass hH (mt_run (As := []) (rest := []) hC hH (t_hold l G Z Q u_10 u_14  _ h_15) kwX13_hold kVX13_hold ⟨Nat.le_of_ble_eq_true rfl, Nat.le_of_ble_eq_true rfl⟩ rfl hl.1 rfl (Nat.le_of_ble_eq_true rfl) dX13_readSum_43) hno hlocks (prt_eqT hF)
            | some r_16 =>
              have hF := pot_some hF
              refine mcV_v (As := []) (rest := []) hC hH (m_hold l G Z Q u_10 u_14 r_16  _ h_15) kwX13_hold kVX13_hold ⟨Nat.le_of_ble_eq_true rfl, Nat.le_of_ble_eq_true rfl⟩ rfl hl.1 rfl (Nat.le_of_ble_eq_true rfl) dX13_readSum_43 (fun H locs hH => ?_)
              refine lv_aload_n hx hb dX13_readSum_46 rfl (lv_at hl 1 rfl) ?_
              obtain ⟨r_17, u_18, h_19, hF⟩ := pcl_some hF
              refine mcV_v (As := []) (rest := []) hC hH (m_scan l G Z Q u_14 u_18 r_17  _ h_19) kwX13_scan kVX13_scan ⟨Nat.le_of_ble_eq_true rfl, Nat.le_of_ble_eq_true rfl⟩ rfl hl.1 rfl (Nat.le_of_ble_eq_true rfl) dX13_readSum_47 (fun H locs hH => ?_)
              refine lv_aload_n hx hb dX13_readSum_50 rfl (lv_at hl 1 rfl) ?_
              obtain ⟨r_20, u_21, h_22, hF⟩ := pcl_some hF
              cases r_20 with
              | none =>
                have hF := pot_none hF
                exact mt_pass hH (mt_run (As := []) (rest := []) hC hH (t_readTerm l G Z Q u_18 u_21  _ h_22) kwX13_readTerm kVX13_readTerm ⟨Nat.le_of_ble_eq_true rfl, Nat.le_of_ble_eq_true rfl⟩ rfl hl.1 rfl (Nat.le_of_ble_eq_true rfl) dX13_readSum_51) hno hlocks (prt_eqT hF)
              | some r_23 =>
                have hF := pot_some hF
                refine mcV_v (As := []) (rest := []) hC hH (m_readTerm l G Z Q u_18 u_21 r_23  _ h_22) kwX13_readTerm kVX13_readTerm ⟨Nat.le_of_ble_eq_true rfl, Nat.le_of_ble_eq_true rfl⟩ rfl hl.1 rfl (Nat.le_of_ble_eq_true rfl) dX13_readSum_51 (fun H locs hH => ?_)
                refine lv_aload_n hx hb dX13_readSum_54 rfl (lv_at hl 1 rfl) ?_
                refine lv_iload_n hx hb dX13_readSum_55 rfl (lv_at hl 0 rfl) ?_
                obtain ⟨r_24, u_25, h_26, hF⟩ := pcl_some hF
                refine mcV_v (As := [.int 8]) (rest := []) hC hH (m_release l G Z Q u_21 u_25 r_24 8 _ h_26) kwX13_release kVX13_release ⟨Nat.le_of_ble_eq_true rfl, Nat.le_of_ble_eq_true rfl⟩ rfl hl.1 rfl (Nat.le_of_ble_eq_true rfl) dX13_readSum_56 (fun H locs hH => ?_)
                refine lv_goto (tgt := 4) hx hb dX13_readSum_59 (by decide) ?_
                exact ih4  u_25 _ _ _ (lv_sub hl [1] rfl) hH hF
          · rw [if_neg c_12] at hF
            refine lv_bipush (v := 7) hx hb dX13_readSum_34 (by decide) ?_
            refine lv_goto (tgt := 41) hx hb dX13_readSum_36 (by decide) ?_
            refine lv_istore_n (lv' := [(1, .int 7), (0, .ref (Q 72))]) hx hb dX13_readSum_41 rfl hl (by decide) rfl (fun ls hl => ?_)
            refine lv_aload_n hx hb dX13_readSum_42 rfl (lv_at hl 1 rfl) ?_
            obtain ⟨r_27, u_28, h_29, hF⟩ := pcl_some hF
            cases r_27 with
            | none =>
              have hF := pot_none hF
              exact mt_pass hH (mt_run (As := []) (rest := []) hC hH (t_hold l G Z Q u_10 u_28  _ h_29) kwX13_hold kVX13_hold ⟨Nat.le_of_ble_eq_true rfl, Nat.le_of_ble_eq_true rfl⟩ rfl hl.1 rfl (Nat.le_of_ble_eq_true rfl) dX13_readSum_43) hno hlocks (prt_eqT hF)
            | some r_30 =>
              have hF := pot_some hF
              refine mcV_v (As := []) (rest := []) hC hH (m_hold l G Z Q u_10 u_28 r_30  _ h_29) kwX13_hold kVX13_hold ⟨Nat.le_of_ble_eq_true rfl, Nat.le_of_ble_eq_true rfl⟩ rfl hl.1 rfl (Nat.le_of_ble_eq_true rfl) dX13_readSum_43 (fun H locs hH => ?_)
              refine lv_aload_n hx hb dX13_readSum_46 rfl (lv_at hl 1 rfl) ?_
              obtain ⟨r_31, u_32, h_33, hF⟩ := pcl_some hF
              refine mcV_v (As := []) (rest := []) hC hH (m_scan l G Z Q u_28 u_32 r_31  _ h_33) kwX13_scan kVX13_scan ⟨Nat.le_of_ble_eq_true rfl, Nat.le_of_ble_eq_true rfl⟩ rfl hl.1 rfl (Nat.le_of_ble_eq_true rfl) dX13_readSum_47 (fun H locs hH => ?_)
              refine lv_aload_n hx hb dX13_readSum_50 rfl (lv_at hl 1 rfl) ?_
              obtain ⟨r_34, u_35, h_36, hF⟩ := pcl_some hF
              cases r_34 with
              | none =>
                have hF := pot_none hF
                exact mt_pass hH (mt_run (As := []) (rest := []) hC hH (t_readTerm l G Z Q u_32 u_35  _ h_36) kwX13_readTerm kVX13_readTerm ⟨Nat.le_of_ble_eq_true rfl, Nat.le_of_ble_eq_true rfl⟩ rfl hl.1 rfl (Nat.le_of_ble_eq_true rfl) dX13_readSum_51) hno hlocks (prt_eqT hF)
              | some r_37 =>
                have hF := pot_some hF
                refine mcV_v (As := []) (rest := []) hC hH (m_readTerm l G Z Q u_32 u_35 r_37  _ h_36) kwX13_readTerm kVX13_readTerm ⟨Nat.le_of_ble_eq_true rfl, Nat.le_of_ble_eq_true rfl⟩ rfl hl.1 rfl (Nat.le_of_ble_eq_true rfl) dX13_readSum_51 (fun H locs hH => ?_)
                refine lv_aload_n hx hb dX13_readSum_54 rfl (lv_at hl 1 rfl) ?_
                refine lv_iload_n hx hb dX13_readSum_55 rfl (lv_at hl 0 rfl) ?_
                obtain ⟨r_38, u_39, h_40, hF⟩ := pcl_some hF
                refine mcV_v (As := [.int 7]) (rest := []) hC hH (m_release l G Z Q u_35 u_39 r_38 7 _ h_40) kwX13_release kVX13_release ⟨Nat.le_of_ble_eq_true rfl, Nat.le_of_ble_eq_true rfl⟩ rfl hl.1 rfl (Nat.le_of_ble_eq_true rfl) dX13_readSum_56 (fun H locs hH => ?_)
                refine lv_goto (tgt := 4) hx hb dX13_readSum_59 (by decide) ?_
                exact ih4  u_39 _ _ _ (lv_sub hl [1] rfl) hH hF
        · rw [if_pos c_8] at hF
          refine lv_aload_n hx hb dX13_readSum_14 rfl (lv_at hl 0 rfl) ?_
          refine th_ldcw (tx := sTx 24) hx hb hC.2.2.2.1 (hC.2.2.2.2.2.2.2.2.1 24 (by decide)) dX13_readSum_15 ?_
          obtain ⟨r_41, u_42, h_43, hF⟩ := pcl_some hF
          refine mcV_i (As := [.ref (Z.1 24)]) (rest := []) hC hH (m_is l G Z Q u_6 u_42 r_41 24 _ h_43 (by decide)) kwX13_is kVX13_is ⟨Nat.le_of_ble_eq_true rfl, Nat.le_of_ble_eq_true rfl⟩ rfl hl.1 rfl (Nat.le_of_ble_eq_true rfl) dX13_readSum_18 (fun H locs hH => ?_)
          refine lv_if_eq (tgt := 62) hx hb dX13_readSum_21 (by decide) (fun c_44 => ?_) (fun c_44 => ?_)
          · rw [if_pos c_44] at hF
            exact hK4_62  u_42 _ _ _ (lv_sub hl [0] rfl) hH hF
          · rw [if_neg c_44] at hF
            refine lv_aload_n hx hb dX13_readSum_24 rfl (lv_at hl 0 rfl) ?_
            refine th_ldcw (tx := sTx 23) hx hb hC.2.2.2.1 (hC.2.2.2.2.2.2.2.2.1 23 (by decide)) dX13_readSum_25 ?_
            obtain ⟨r_45, u_46, h_47, hF⟩ := pcl_some hF
            refine mcV_i (As := [.ref (Z.1 23)]) (rest := []) hC hH (m_is l G Z Q u_42 u_46 r_45 23 _ h_47 (by decide)) kwX13_is kVX13_is ⟨Nat.le_of_ble_eq_true rfl, Nat.le_of_ble_eq_true rfl⟩ rfl hl.1 rfl (Nat.le_of_ble_eq_true rfl) dX13_readSum_28 (fun H locs hH => ?_)
            refine lv_if_eq (tgt := 39) hx hb dX13_readSum_31 (by decide) (fun c_48 => ?_) (fun c_48 => ?_)
            · rw [if_pos c_48] at hF
              refine lv_bipush (v := 8) hx hb dX13_readSum_39 (by decide) ?_
              refine lv_istore_n (lv' := [(1, .int 8), (0, .ref (Q 72))]) hx hb dX13_readSum_41 rfl hl (by decide) rfl (fun ls hl => ?_)
              refine lv_aload_n hx hb dX13_readSum_42 rfl (lv_at hl 1 rfl) ?_
              obtain ⟨r_49, u_50, h_51, hF⟩ := pcl_some hF
              cases r_49 with
              | none =>
                have hF := pot_none hF
                exact mt_pass hH (mt_run (As := []) (rest := []) hC hH (t_hold l G Z Q u_46 u_50  _ h_51) kwX13_hold kVX13_hold ⟨Nat.le_of_ble_eq_true rfl, Nat.le_of_ble_eq_true rfl⟩ rfl hl.1 rfl (Nat.le_of_ble_eq_true rfl) dX13_readSum_43) hno hlocks (prt_eqT hF)
              | some r_52 =>
                have hF := pot_some hF
                refine mcV_v (As := []) (rest := []) hC hH (m_hold l G Z Q u_46 u_50 r_52  _ h_51) kwX13_hold kVX13_hold ⟨Nat.le_of_ble_eq_true rfl, Nat.le_of_ble_eq_true rfl⟩ rfl hl.1 rfl (Nat.le_of_ble_eq_true rfl) dX13_readSum_43 (fun H locs hH => ?_)
                refine lv_aload_n hx hb dX13_readSum_46 rfl (lv_at hl 1 rfl) ?_
                obtain ⟨r_53, u_54, h_55, hF⟩ := pcl_some hF
                refine mcV_v (As := []) (rest := []) hC hH (m_scan l G Z Q u_50 u_54 r_53  _ h_55) kwX13_scan kVX13_scan ⟨Nat.le_of_ble_eq_true rfl, Nat.le_of_ble_eq_true rfl⟩ rfl hl.1 rfl (Nat.le_of_ble_eq_true rfl) dX13_readSum_47 (fun H locs hH => ?_)
                refine lv_aload_n hx hb dX13_readSum_50 rfl (lv_at hl 1 rfl) ?_
                obtain ⟨r_56, u_57, h_58, hF⟩ := pcl_some hF
                cases r_56 with
                | none =>
                  have hF := pot_none hF
                  exact mt_pass hH (mt_run (As := []) (rest := []) hC hH (t_readTerm l G Z Q u_54 u_57  _ h_58) kwX13_readTerm kVX13_readTerm ⟨Nat.le_of_ble_eq_true rfl, Nat.le_of_ble_eq_true rfl⟩ rfl hl.1 rfl (Nat.le_of_ble_eq_true rfl) dX13_readSum_51) hno hlocks (prt_eqT hF)
                | some r_59 =>
                  have hF := pot_some hF
                  refine mcV_v (As := []) (rest := []) hC hH (m_readTerm l G Z Q u_54 u_57 r_59  _ h_58) kwX13_readTerm kVX13_readTerm ⟨Nat.le_of_ble_eq_true rfl, Nat.le_of_ble_eq_true rfl⟩ rfl hl.1 rfl (Nat.le_of_ble_eq_true rfl) dX13_readSum_51 (fun H locs hH => ?_)
                  refine lv_aload_n hx hb dX13_readSum_54 rfl (lv_at hl 1 rfl) ?_
                  refine lv_iload_n hx hb dX13_readSum_55 rfl (lv_at hl 0 rfl) ?_
                  obtain ⟨r_60, u_61, h_62, hF⟩ := pcl_some hF
                  refine mcV_v (As := [.int 8]) (rest := []) hC hH (m_release l G Z Q u_57 u_61 r_60 8 _ h_62) kwX13_release kVX13_release ⟨Nat.le_of_ble_eq_true rfl, Nat.le_of_ble_eq_true rfl⟩ rfl hl.1 rfl (Nat.le_of_ble_eq_true rfl) dX13_readSum_56 (fun H locs hH => ?_)
                  refine lv_goto (tgt := 4) hx hb dX13_readSum_59 (by decide) ?_
                  exact ih4  u_61 _ _ _ (lv_sub hl [1] rfl) hH hF
            · rw [if_neg c_48] at hF
              refine lv_bipush (v := 7) hx hb dX13_readSum_34 (by decide) ?_
              refine lv_goto (tgt := 41) hx hb dX13_readSum_36 (by decide) ?_
              refine lv_istore_n (lv' := [(1, .int 7), (0, .ref (Q 72))]) hx hb dX13_readSum_41 rfl hl (by decide) rfl (fun ls hl => ?_)
              refine lv_aload_n hx hb dX13_readSum_42 rfl (lv_at hl 1 rfl) ?_
              obtain ⟨r_63, u_64, h_65, hF⟩ := pcl_some hF
              cases r_63 with
              | none =>
                have hF := pot_none hF
                exact mt_pass hH (mt_run (As := []) (rest := []) hC hH (t_hold l G Z Q u_46 u_64  _ h_65) kwX13_hold kVX13_hold ⟨Nat.le_of_ble_eq_true rfl, Nat.le_of_ble_eq_true rfl⟩ rfl hl.1 rfl (Nat.le_of_ble_eq_true rfl) dX13_readSum_43) hno hlocks (prt_eqT hF)
              | some r_66 =>
                have hF := pot_some hF
                refine mcV_v (As := []) (rest := []) hC hH (m_hold l G Z Q u_46 u_64 r_66  _ h_65) kwX13_hold kVX13_hold ⟨Nat.le_of_ble_eq_true rfl, Nat.le_of_ble_eq_true rfl⟩ rfl hl.1 rfl (Nat.le_of_ble_eq_true rfl) dX13_readSum_43 (fun H locs hH => ?_)
                refine lv_aload_n hx hb dX13_readSum_46 rfl (lv_at hl 1 rfl) ?_
                obtain ⟨r_67, u_68, h_69, hF⟩ := pcl_some hF
                refine mcV_v (As := []) (rest := []) hC hH (m_scan l G Z Q u_64 u_68 r_67  _ h_69) kwX13_scan kVX13_scan ⟨Nat.le_of_ble_eq_true rfl, Nat.le_of_ble_eq_true rfl⟩ rfl hl.1 rfl (Nat.le_of_ble_eq_true rfl) dX13_readSum_47 (fun H locs hH => ?_)
                refine lv_aload_n hx hb dX13_readSum_50 rfl (lv_at hl 1 rfl) ?_
                obtain ⟨r_70, u_71, h_72, hF⟩ := pcl_some hF
                cases r_70 with
                | none =>
                  have hF := pot_none hF
                  exact mt_pass hH (mt_run (As := []) (rest := []) hC hH (t_readTerm l G Z Q u_68 u_71  _ h_72) kwX13_readTerm kVX13_readTerm ⟨Nat.le_of_ble_eq_true rfl, Nat.le_of_ble_eq_true rfl⟩ rfl hl.1 rfl (Nat.le_of_ble_eq_true rfl) dX13_readSum_51) hno hlocks (prt_eqT hF)
                | some r_73 =>
                  have hF := pot_some hF
                  refine mcV_v (As := []) (rest := []) hC hH (m_readTerm l G Z Q u_68 u_71 r_73  _ h_72) kwX13_readTerm kVX13_readTerm ⟨Nat.le_of_ble_eq_true rfl, Nat.le_of_ble_eq_true rfl⟩ rfl hl.1 rfl (Nat.le_of_ble_eq_true rfl) dX13_readSum_51 (fun H locs hH => ?_)
                  refine lv_aload_n hx hb dX13_readSum_54 rfl (lv_at hl 1 rfl) ?_
                  refine lv_iload_n hx hb dX13_readSum_55 rfl (lv_at hl 0 rfl) ?_
                  obtain ⟨r_74, u_75, h_76, hF⟩ := pcl_some hF
                  refine mcV_v (As := [.int 7]) (rest := []) hC hH (m_release l G Z Q u_71 u_75 r_74 7 _ h_76) kwX13_release kVX13_release ⟨Nat.le_of_ble_eq_true rfl, Nat.le_of_ble_eq_true rfl⟩ rfl hl.1 rfl (Nat.le_of_ble_eq_true rfl) dX13_readSum_56 (fun H locs hH => ?_)
                  refine lv_goto (tgt := 4) hx hb dX13_readSum_59 (by decide) ?_
                  exact ih4  u_75 _ _ _ (lv_sub hl [1] rfl) hH hF
    refine hL4 _ (fun  u H locs ls hl hH hF => ?_) fuel  u_2 _ _ _ (lv_sub hl [0] rfl) hH hF
    exact (prt_no2 hF).elim
end
section
def lp_readOr_4 (F : Nat → Int32 → Int32 → Int32 → Int32 → PG (Option Int32)) : Nat → (PG (Option Int32)) → PG (Option Int32)
  | 0, _ => fun _ => none
  | n4 + 1, K4_35 => pcl (f_is 6) (fun r_5 => (if r_5 = 0 then K4_35  else pcl (f_hold) (fun r_9 => pot r_9 (prt none) (fun r_12 => pcl (f_scan) (fun r_13 => pcl (F 1 0 0 0 0) (fun r_16 => pot r_16 (prt none) (fun r_19 => pcl (f_release 16) (fun r_20 => lp_readOr_4 F n4  K4_35))))))))
def bd_readOr (F : Nat → Int32 → Int32 → Int32 → Int32 → PG (Option Int32))  : PG (Option Int32) := pcl (F 1 0 0 0 0) (fun r_1 => pot r_1 (prt none) (fun r_4 => lp_readOr_4 F fuel  (prt (some 0))))
def lp_readAnd_4 (F : Nat → Int32 → Int32 → Int32 → Int32 → PG (Option Int32)) : Nat → (PG (Option Int32)) → PG (Option Int32)
  | 0, _ => fun _ => none
  | n4 + 1, K4_35 => pcl (f_is 7) (fun r_5 => (if r_5 = 0 then K4_35  else pcl (f_hold) (fun r_9 => pot r_9 (prt none) (fun r_12 => pcl (f_scan) (fun r_13 => pcl (F 2 0 0 0 0) (fun r_16 => pot r_16 (prt none) (fun r_19 => pcl (f_release 15) (fun r_20 => lp_readAnd_4 F n4  K4_35))))))))
def bd_readAnd (F : Nat → Int32 → Int32 → Int32 → Int32 → PG (Option Int32))  : PG (Option Int32) := pcl (F 2 0 0 0 0) (fun r_1 => pot r_1 (prt none) (fun r_4 => lp_readAnd_4 F fuel  (prt (some 0))))
def bd_readNot (F : Nat → Int32 → Int32 → Int32 → Int32 → PG (Option Int32))  : PG (Option Int32) := pcl (f_is 8) (fun r_1 => (if r_1 = 0 then pcl (f_is 15) (fun r_5 => (if r_5 = 0 then pcl (f_is 9) (fun r_9 => (if r_9 = 0 then pcl (f_is 10) (fun r_33 => (if r_33 = 0 then pcl (f_readSum) (fun r_37 => pot r_37 (prt none) (fun r_40 => pcl (f_is 17) (fun r_41 => (if r_41 = 0 then pcl (f_is 18) (fun r_45 => (if r_45 = 0 then pcl (f_is 19) (fun r_49 => (if r_49 = 0 then pcl (f_is 20) (fun r_53 => (if r_53 = 0 then pcl (f_is 21) (fun r_57 => (if r_57 = 0 then pcl (f_is 22) (fun r_61 => (if r_61 = 0 then (if (-1 : Int32) = (-1) then prf 44 (fun x_80 => pcl (f_wrong 1 x_80) (fun r_82 => prt none)) else pcl (f_hold) (fun r_66 => pot r_66 (prt none) (fun r_69 => pcl (f_scan) (fun r_70 => pcl (f_readSum) (fun r_73 => pot r_73 (prt none) (fun r_76 => pcl (f_release (-1)) (fun r_77 => prt (some 0)))))))) else (if (14 : Int32) = (-1) then prf 44 (fun x_100 => pcl (f_wrong 1 x_100) (fun r_102 => prt none)) else pcl (f_hold) (fun r_86 => pot r_86 (prt none) (fun r_89 => pcl (f_scan) (fun r_90 => pcl (f_readSum) (fun r_93 => pot r_93 (prt none) (fun r_96 => pcl (f_release 14) (fun r_97 => prt (some 0)))))))))) else (if (13 : Int32) = (-1) then prf 44 (fun x_120 => pcl (f_wrong 1 x_120) (fun r_122 => prt none)) else pcl (f_hold) (fun r_106 => pot r_106 (prt none) (fun r_109 => pcl (f_scan) (fun r_110 => pcl (f_readSum) (fun r_113 => pot r_113 (prt none) (fun r_116 => pcl (f_release 13) (fun r_117 => prt (some 0)))))))))) else (if (12 : Int32) = (-1) then prf 44 (fun x_140 => pcl (f_wrong 1 x_140) (fun r_142 => prt none)) else pcl (f_hold) (fun r_126 => pot r_126 (prt none) (fun r_129 => pcl (f_scan) (fun r_130 => pcl (f_readSum) (fun r_133 => pot r_133 (prt none) (fun r_136 => pcl (f_release 12) (fun r_137 => prt (some 0)))))))))) else (if (11 : Int32) = (-1) then prf 44 (fun x_160 => pcl (f_wrong 1 x_160) (fun r_162 => prt none)) else pcl (f_hold) (fun r_146 => pot r_146 (prt none) (fun r_149 => pcl (f_scan) (fun r_150 => pcl (f_readSum) (fun r_153 => pot r_153 (prt none) (fun r_156 => pcl (f_release 11) (fun r_157 => prt (some 0)))))))))) else (if (10 : Int32) = (-1) then prf 44 (fun x_180 => pcl (f_wrong 1 x_180) (fun r_182 => prt none)) else pcl (f_hold) (fun r_166 => pot r_166 (prt none) (fun r_169 => pcl (f_scan) (fun r_170 => pcl (f_readSum) (fun r_173 => pot r_173 (prt none) (fun r_176 => pcl (f_release 10) (fun r_177 => prt (some 0)))))))))) else (if (9 : Int32) = (-1) then prf 44 (fun x_200 => pcl (f_wrong 1 x_200) (fun r_202 => prt none)) else pcl (f_hold) (fun r_186 => pot r_186 (prt none) (fun r_189 => pcl (f_scan) (fun r_190 => pcl (f_readSum) (fun r_193 => pot r_193 (prt none) (fun r_196 => pcl (f_release 9) (fun r_197 => prt (some 0)))))))))))) else pcl (f_counts) (fun r_205 => pot r_205 (prt none) (fun r_208 => pcl (f_is 9) (fun r_209 => (if r_209 = 0 then pcl (f_put 5 0) (fun r_213 => pcl (f_scan) (fun r_216 => prt (some 0))) else pcl (f_put 4 0) (fun r_219 => pcl (f_scan) (fun r_222 => prt (some 0))))))))) else pcl (f_counts) (fun r_13 => pot r_13 (prt none) (fun r_16 => pcl (f_is 9) (fun r_17 => (if r_17 = 0 then pcl (f_put 5 0) (fun r_21 => pcl (f_scan) (fun r_24 => prt (some 0))) else pcl (f_put 4 0) (fun r_27 => pcl (f_scan) (fun r_30 => prt (some 0))))))))) else pcl (f_opens) (fun r_225 => pot r_225 (prt none) (fun r_228 => pcl (F 0 0 0 0 0) (fun r_229 => pot r_229 (prt none) (fun r_232 => pcl (f_need 16) (fun r_233 => pot r_233 (prt none) (fun r_236 => prf 48 (fun x_237 => pwf 48 (x_237 - 1) (prt (some 0))))))))))) else pcl (f_counts) (fun r_241 => pot r_241 (prt none) (fun r_244 => prf 51 (fun x_245 => pwf 51 (x_245 + 1) (pcl (f_opens) (fun r_249 => pot r_249 (prt none) (fun r_252 => pcl (F 2 0 0 0 0) (fun r_253 => pot r_253 (prt none) (fun r_256 => prf 48 (fun x_257 => pwf 48 (x_257 - 1) (pcl (f_release 6) (fun r_261 => prt (some 0))))))))))))))
set_option maxHeartbeats 4000000 in
set_option maxRecDepth 100000 in
theorem bm_readOr (l : Launch) (G : gG) (Z : gM) (Q : Nat → Nat) (d : Nat) (F : Nat → Int32 → Int32 → Int32 → Int32 → PG (Option Int32)) (hr_readOr : ∀ (u u1 : GS) (r : Int32) (sz : Nat), F 0 0 0 0 0 u = some (some r, u1) → Met l yX13_readOr (Cond.code yX13_readOr cX13_readOr 1 none :: wM) { frames := 12 * d + 20, cells := 0, slots := 0, locals := 140 * d + 400 } (va_Pc [.ref (Q 72)] (mPM G Z Q u.1 sz)) (mQv G Q u1.1 sz) 0 0 (mA Q sz)) (ht_readOr : ∀ (u u1 : GS) (sz : Nat), F 0 0 0 0 0 u = some (none, u1) → MetT l yX13_readOr (Cond.code yX13_readOr cX13_readOr 1 none :: wM) { frames := 12 * d + 20, cells := 0, slots := 0, locals := 140 * d + 400 } (va_Pc [.ref (Q 72)] (mPM G Z Q u.1 sz)) (mQt G Q u1.1 sz) 0 0 (mA Q sz)) (hr_readAnd : ∀ (u u1 : GS) (r : Int32) (sz : Nat), F 1 0 0 0 0 u = some (some r, u1) → Met l yX13_readAnd (Cond.code yX13_readAnd cX13_readAnd 1 none :: wM) { frames := 12 * d + 20, cells := 0, slots := 0, locals := 140 * d + 400 } (va_Pc [.ref (Q 72)] (mPM G Z Q u.1 sz)) (mQv G Q u1.1 sz) 0 0 (mA Q sz)) (ht_readAnd : ∀ (u u1 : GS) (sz : Nat), F 1 0 0 0 0 u = some (none, u1) → MetT l yX13_readAnd (Cond.code yX13_readAnd cX13_readAnd 1 none :: wM) { frames := 12 * d + 20, cells := 0, slots := 0, locals := 140 * d + 400 } (va_Pc [.ref (Q 72)] (mPM G Z Q u.1 sz)) (mQt G Q u1.1 sz) 0 0 (mA Q sz)) (hr_readNot : ∀ (u u1 : GS) (r : Int32) (sz : Nat), F 2 0 0 0 0 u = some (some r, u1) → Met l yX13_readNot (Cond.code yX13_readNot cX13_readNot 2 none :: wM) { frames := 12 * d + 20, cells := 0, slots := 0, locals := 140 * d + 400 } (va_Pc [.ref (Q 72)] (mPM G Z Q u.1 sz)) (mQv G Q u1.1 sz) 0 0 (mA Q sz)) (ht_readNot : ∀ (u u1 : GS) (sz : Nat), F 2 0 0 0 0 u = some (none, u1) → MetT l yX13_readNot (Cond.code yX13_readNot cX13_readNot 2 none :: wM) { frames := 12 * d + 20, cells := 0, slots := 0, locals := 140 * d + 400 } (va_Pc [.ref (Q 72)] (mPM G Z Q u.1 sz)) (mQt G Q u1.1 sz) 0 0 (mA Q sz)) (u u1 : GS) (r : Int32)  (sz : Nat) (hF : bd_readOr F u = some (some r, u1)) : Met l yX13_readOr (Cond.code yX13_readOr cX13_readOr 1 none :: wM) { frames := 12 * (d + 1) + 20, cells := 0, slots := 0, locals := 140 * (d + 1) + 400 } (va_Pc [.ref (Q 72)] (mPM G Z Q u.1 sz)) (mQv G Q u1.1 sz) 0 0 (mA Q sz) := by
  refine Met.ofW (cc := cX13_readOr) (maxL := 1) (ret := none) (by decide) rfl ?_
  intro p e s m args below meth c s₁ B hml hv
  obtain ⟨rfl, rfl, hP, hB, hD, hE⟩ := hv
  have hr := B.returns
  have hlocks := B.notSynchronized
  have hts := atoms_spec (ws := Cond.code yX13_readOr cX13_readOr 1 none :: wM) B.pre
  have hC : mX p c cX13_readOr 1 s m _ G Z Q := ⟨B.exec, B.bytes, hml, findClass_of_methodNamed B.named, fun w h => hts w (List.mem_cons_of_mem _ h), hB, hE⟩
  have hx := hC.1
  have hb := hC.2.1
  have hH : mH G Q u.1 s s.heap [] := ⟨hP, hD, va_S.rf⟩
  have hl := lv_entry ([.ref (Q 72)]) (n := 1) (Nat.le_of_ble_eq_true rfl)
  rw [lg_entry_eq]
  generalize (lg_sl ([.ref (Q 72)]) ++ List.replicate (1 - (lg_sl ([.ref (Q 72)])).length) Slot.unset).toArray = ls at hl ⊢
  have hl : lv_has ls 1 [(0, .ref (Q 72))] := hl
  unfold bd_readOr at hF
  refine lv_aload_n hx hb dX13_readOr_0 rfl (lv_at hl 0 rfl) ?_
  obtain ⟨r_1, u_2, h_3, hF⟩ := pcl_some hF
  cases r_1 with
  | none =>
    have hF := pot_none hF
    exact (prt_no hF).elim
  | some r_4 =>
    have hF := pot_some hF
    refine mcV_v (As := []) (rest := []) hC hH (hr_readAnd u u_2 r_4  _ h_3) kwX13_readAnd kVX13_readAnd ⟨by show _ ≤ 12 * (d + 1) + 20; omega, by show _ ≤ 140 * (d + 1) + 400; omega⟩ rfl hl.1 rfl (Nat.le_of_ble_eq_true rfl) dX13_readOr_1 (fun H locs hH => ?_)
    have hL4 : ∀ (K4_35 : PG (Option Int32)), (∀ (u : GS) (H : Heap) (locs : List Loc) (ls : Array Slot), lv_has ls 1 [(0, .ref (Q 72))] → mH G Q u.1 s H locs → K4_35  u = some ((some r, u1)) → W p l e (headSpec (Cond.code yX13_readOr cX13_readOr 1 none :: wM) { frames := 12 * (d + 1) + 20, cells := 0, slots := 0, locals := 140 * (d + 1) + 400 }).room s m [.ref (Q 72)].toArray below meth c H locs 0 0 (MQ below (mQv G Q u1.1 s.heap.size) [.ref (Q 72)].toArray s 0 0 (mA Q s.heap.size)) (F0 m 35 ls [])) → ∀ (n4 : Nat) (u : GS) (H : Heap) (locs : List Loc) (ls : Array Slot), lv_has ls 1 [(0, .ref (Q 72))] → mH G Q u.1 s H locs → lp_readOr_4 F n4  K4_35 u = some ((some r, u1)) → W p l e (headSpec (Cond.code yX13_readOr cX13_readOr 1 none :: wM) { frames := 12 * (d + 1) + 20, cells := 0, slots := 0, locals := 140 * (d + 1) + 400 }).room s m [.ref (Q 72)].toArray below meth c H locs 0 0 (MQ below (mQv G Q u1.1 s.heap.size) [.ref (Q 72)].toArray s 0 0 (mA Q s.heap.size)) (F0 m 4 ls []) := by
      intro K4_35 hK4_35 n4
      induction n4 with
      | zero => intro  u H locs ls hl hH hF; cases hF
      | succ n4 ih4 =>
        intro  u H locs ls hl hH hF
        unfold lp_readOr_4 at hF
        refine lv_aload_n hx hb dX13_readOr_4 rfl (lv_at hl 0 rfl) ?_
        refine th_ldcw (tx := sTx 6) hx hb hC.2.2.2.1 (hC.2.2.2.2.2.2.2.2.1 6 (by decide)) dX13_readOr_5 ?_
        obtain ⟨r_5, u_6, h_7, hF⟩ := pcl_some hF
        refine mcV_i (As := [.ref (Z.1 6)]) (rest := []) hC hH (m_is l G Z Q u u_6 r_5 6 _ h_7 (by decide)) kwX13_is kVX13_is ⟨by show _ ≤ 12 * (d + 1) + 20; omega, by show _ ≤ 140 * (d + 1) + 400; omega⟩ rfl hl.1 rfl (Nat.le_of_ble_eq_true rfl) dX13_readOr_8 (fun H locs hH => ?_)
        refine lv_if_eq (tgt := 35) hx hb dX13_readOr_11 (by decide) (fun c_8 => ?_) (fun c_8 => ?_)
        · rw [if_pos c_8] at hF
          exact hK4_35  u_6 _ _ _ (lv_sub hl [0] rfl) hH hF
        · rw [if_neg c_8] at hF
          refine lv_aload_n hx hb dX13_readOr_14 rfl (lv_at hl 0 rfl) ?_
          obtain ⟨r_9, u_10, h_11, hF⟩ := pcl_some hF
          cases r_9 with
          | none =>
            have hF := pot_none hF
            exact (prt_no hF).elim
          | some r_12 =>
            have hF := pot_some hF
            refine mcV_v (As := []) (rest := []) hC hH (m_hold l G Z Q u_6 u_10 r_12  _ h_11) kwX13_hold kVX13_hold ⟨by show _ ≤ 12 * (d + 1) + 20; omega, by show _ ≤ 140 * (d + 1) + 400; omega⟩ rfl hl.1 rfl (Nat.le_of_ble_eq_true rfl) dX13_readOr_15 (fun H locs hH => ?_)
            refine lv_aload_n hx hb dX13_readOr_18 rfl (lv_at hl 0 rfl) ?_
            obtain ⟨r_13, u_14, h_15, hF⟩ := pcl_some hF
            refine mcV_v (As := []) (rest := []) hC hH (m_scan l G Z Q u_10 u_14 r_13  _ h_15) kwX13_scan kVX13_scan ⟨by show _ ≤ 12 * (d + 1) + 20; omega, by show _ ≤ 140 * (d + 1) + 400; omega⟩ rfl hl.1 rfl (Nat.le_of_ble_eq_true rfl) dX13_readOr_19 (fun H locs hH => ?_)
            refine lv_aload_n hx hb dX13_readOr_22 rfl (lv_at hl 0 rfl) ?_
            obtain ⟨r_16, u_17, h_18, hF⟩ := pcl_some hF
            cases r_16 with
            | none =>
              have hF := pot_none hF
              exact (prt_no hF).elim
            | some r_19 =>
              have hF := pot_some hF
              refine mcV_v (As := []) (rest := []) hC hH (hr_readAnd u_14 u_17 r_19  _ h_18) kwX13_readAnd kVX13_readAnd ⟨by show _ ≤ 12 * (d + 1) + 20; omega, by show _ ≤ 140 * (d + 1) + 400; omega⟩ rfl hl.1 rfl (Nat.le_of_ble_eq_true rfl) dX13_readOr_23 (fun H locs hH => ?_)
              refine lv_aload_n hx hb dX13_readOr_26 rfl (lv_at hl 0 rfl) ?_
              refine lv_bipush (v := 16) hx hb dX13_readOr_27 (by decide) ?_
              obtain ⟨r_20, u_21, h_22, hF⟩ := pcl_some hF
              refine mcV_v (As := [.int 16]) (rest := []) hC hH (m_release l G Z Q u_17 u_21 r_20 16 _ h_22) kwX13_release kVX13_release ⟨by show _ ≤ 12 * (d + 1) + 20; omega, by show _ ≤ 140 * (d + 1) + 400; omega⟩ rfl hl.1 rfl (Nat.le_of_ble_eq_true rfl) dX13_readOr_29 (fun H locs hH => ?_)
              refine lv_goto (tgt := 4) hx hb dX13_readOr_32 (by decide) ?_
              exact ih4  u_21 _ _ _ (lv_sub hl [0] rfl) hH hF
    refine hL4 _ (fun  u H locs ls hl hH hF => ?_) fuel  u_2 _ _ _ (lv_sub hl [0] rfl) hH hF
    have hF := prt_eqS hF
    exact mr_v hC hH hr hF dX13_readOr_35 hlocks
set_option maxHeartbeats 4000000 in
set_option maxRecDepth 100000 in
theorem bt_readOr (l : Launch) (G : gG) (Z : gM) (Q : Nat → Nat) (d : Nat) (F : Nat → Int32 → Int32 → Int32 → Int32 → PG (Option Int32)) (hr_readOr : ∀ (u u1 : GS) (r : Int32) (sz : Nat), F 0 0 0 0 0 u = some (some r, u1) → Met l yX13_readOr (Cond.code yX13_readOr cX13_readOr 1 none :: wM) { frames := 12 * d + 20, cells := 0, slots := 0, locals := 140 * d + 400 } (va_Pc [.ref (Q 72)] (mPM G Z Q u.1 sz)) (mQv G Q u1.1 sz) 0 0 (mA Q sz)) (ht_readOr : ∀ (u u1 : GS) (sz : Nat), F 0 0 0 0 0 u = some (none, u1) → MetT l yX13_readOr (Cond.code yX13_readOr cX13_readOr 1 none :: wM) { frames := 12 * d + 20, cells := 0, slots := 0, locals := 140 * d + 400 } (va_Pc [.ref (Q 72)] (mPM G Z Q u.1 sz)) (mQt G Q u1.1 sz) 0 0 (mA Q sz)) (hr_readAnd : ∀ (u u1 : GS) (r : Int32) (sz : Nat), F 1 0 0 0 0 u = some (some r, u1) → Met l yX13_readAnd (Cond.code yX13_readAnd cX13_readAnd 1 none :: wM) { frames := 12 * d + 20, cells := 0, slots := 0, locals := 140 * d + 400 } (va_Pc [.ref (Q 72)] (mPM G Z Q u.1 sz)) (mQv G Q u1.1 sz) 0 0 (mA Q sz)) (ht_readAnd : ∀ (u u1 : GS) (sz : Nat), F 1 0 0 0 0 u = some (none, u1) → MetT l yX13_readAnd (Cond.code yX13_readAnd cX13_readAnd 1 none :: wM) { frames := 12 * d + 20, cells := 0, slots := 0, locals := 140 * d + 400 } (va_Pc [.ref (Q 72)] (mPM G Z Q u.1 sz)) (mQt G Q u1.1 sz) 0 0 (mA Q sz)) (hr_readNot : ∀ (u u1 : GS) (r : Int32) (sz : Nat), F 2 0 0 0 0 u = some (some r, u1) → Met l yX13_readNot (Cond.code yX13_readNot cX13_readNot 2 none :: wM) { frames := 12 * d + 20, cells := 0, slots := 0, locals := 140 * d + 400 } (va_Pc [.ref (Q 72)] (mPM G Z Q u.1 sz)) (mQv G Q u1.1 sz) 0 0 (mA Q sz)) (ht_readNot : ∀ (u u1 : GS) (sz : Nat), F 2 0 0 0 0 u = some (none, u1) → MetT l yX13_readNot (Cond.code yX13_readNot cX13_readNot 2 none :: wM) { frames := 12 * d + 20, cells := 0, slots := 0, locals := 140 * d + 400 } (va_Pc [.ref (Q 72)] (mPM G Z Q u.1 sz)) (mQt G Q u1.1 sz) 0 0 (mA Q sz)) (u u1 : GS)  (sz : Nat) (hF : bd_readOr F u = some (none, u1)) : MetT l yX13_readOr (Cond.code yX13_readOr cX13_readOr 1 none :: wM) { frames := 12 * (d + 1) + 20, cells := 0, slots := 0, locals := 140 * (d + 1) + 400 } (va_Pc [.ref (Q 72)] (mPM G Z Q u.1 sz)) (mQt G Q u1.1 sz) 0 0 (mA Q sz) := by
  refine MetT.ofW (cc := cX13_readOr) (maxL := 1) (ret := none) (by decide) rfl ?_
  intro p e s m args below meth c s₁ B hml hv
  obtain ⟨rfl, rfl, hP, hB, hD, hE⟩ := hv
  have hr := B.returns
  have hlocks := B.notSynchronized
  have hts := atoms_spec (ws := Cond.code yX13_readOr cX13_readOr 1 none :: wM) B.pre
  have hC : mX p c cX13_readOr 1 s m _ G Z Q := ⟨B.exec, B.bytes, hml, findClass_of_methodNamed B.named, fun w h => hts w (List.mem_cons_of_mem _ h), hB, hE⟩
  have hx := hC.1
  have hb := hC.2.1
  have hH : mH G Q u.1 s s.heap [] := ⟨hP, hD, va_S.rf⟩
  have hno : c.exceptionTable.isEmpty = true := BodyLoose.noHandlers B (hts _ List.mem_cons_self)
  have hl := lv_entry ([.ref (Q 72)]) (n := 1) (Nat.le_of_ble_eq_true rfl)
  rw [lg_entry_eq]
  generalize (lg_sl ([.ref (Q 72)]) ++ List.replicate (1 - (lg_sl ([.ref (Q 72)])).length) Slot.unset).toArray = ls at hl ⊢
  have hl : lv_has ls 1 [(0, .ref (Q 72))] := hl
  unfold bd_readOr at hF
  refine lv_aload_n hx hb dX13_readOr_0 rfl (lv_at hl 0 rfl) ?_
  obtain ⟨r_1, u_2, h_3, hF⟩ := pcl_some hF
  cases r_1 with
  | none =>
    have hF := pot_none hF
    exact mt_pass hH (mt_run (As := []) (rest := []) hC hH (ht_readAnd u u_2  _ h_3) kwX13_readAnd kVX13_readAnd ⟨by show _ ≤ 12 * (d + 1) + 20; omega, by show _ ≤ 140 * (d + 1) + 400; omega⟩ rfl hl.1 rfl (Nat.le_of_ble_eq_true rfl) dX13_readOr_1) hno hlocks (prt_eqT hF)
  | some r_4 =>
    have hF := pot_some hF
    refine mcV_v (As := []) (rest := []) hC hH (hr_readAnd u u_2 r_4  _ h_3) kwX13_readAnd kVX13_readAnd ⟨by show _ ≤ 12 * (d + 1) + 20; omega, by show _ ≤ 140 * (d + 1) + 400; omega⟩ rfl hl.1 rfl (Nat.le_of_ble_eq_true rfl) dX13_readOr_1 (fun H locs hH => ?_)
    have hL4 : ∀ (K4_35 : PG (Option Int32)), (∀ (u : GS) (H : Heap) (locs : List Loc) (ls : Array Slot), lv_has ls 1 [(0, .ref (Q 72))] → mH G Q u.1 s H locs → K4_35  u = some ((none, u1)) → W p l e (headSpec (Cond.code yX13_readOr cX13_readOr 1 none :: wM) { frames := 12 * (d + 1) + 20, cells := 0, slots := 0, locals := 140 * (d + 1) + 400 }).room s m [.ref (Q 72)].toArray below meth c H locs 0 0 (MQT below (mQt G Q u1.1 s.heap.size) [.ref (Q 72)].toArray s 0 0 (mA Q s.heap.size)) (F0 m 35 ls [])) → ∀ (n4 : Nat) (u : GS) (H : Heap) (locs : List Loc) (ls : Array Slot), lv_has ls 1 [(0, .ref (Q 72))] → mH G Q u.1 s H locs → lp_readOr_4 F n4  K4_35 u = some ((none, u1)) → W p l e (headSpec (Cond.code yX13_readOr cX13_readOr 1 none :: wM) { frames := 12 * (d + 1) + 20, cells := 0, slots := 0, locals := 140 * (d + 1) + 400 }).room s m [.ref (Q 72)].toArray below meth c H locs 0 0 (MQT below (mQt G Q u1.1 s.heap.size) [.ref (Q 72)].toArray s 0 0 (mA Q s.heap.size)) (F0 m 4 ls []) := by
      intro K4_35 hK4_35 n4
      induction n4 with
      | zero => intro  u H locs ls hl hH hF; cases hF
      | succ n4 ih4 =>
        intro  u H locs ls hl hH hF
        unfold lp_readOr_4 at hF
        refine lv_aload_n hx hb dX13_readOr_4 rfl (lv_at hl 0 rfl) ?_
        refine th_ldcw (tx := sTx 6) hx hb hC.2.2.2.1 (hC.2.2.2.2.2.2.2.2.1 6 (by decide)) dX13_readOr_5 ?_
        obtain ⟨r_5, u_6, h_7, hF⟩ := pcl_some hF
        refine mcV_i (As := [.ref (Z.1 6)]) (rest := []) hC hH (m_is l G Z Q u u_6 r_5 6 _ h_7 (by decide)) kwX13_is kVX13_is ⟨by show _ ≤ 12 * (d + 1) + 20; omega, by show _ ≤ 140 * (d + 1) + 400; omega⟩ rfl hl.1 rfl (Nat.le_of_ble_eq_true rfl) dX13_readOr_8 (fun H locs hH => ?_)
        refine lv_if_eq (tgt := 35) hx hb dX13_readOr_11 (by decide) (fun c_8 => ?_) (fun c_8 => ?_)
        · rw [if_pos c_8] at hF
          exact hK4_35  u_6 _ _ _ (lv_sub hl [0] rfl) hH hF
        · rw [if_neg c_8] at hF
          refine lv_aload_n hx hb dX13_readOr_14 rfl (lv_at hl 0 rfl) ?_
          obtain ⟨r_9, u_10, h_11, hF⟩ := pcl_some hF
          cases r_9 with
          | none =>
            have hF := pot_none hF
            exact mt_pass hH (mt_run (As := []) (rest := []) hC hH (t_hold l G Z Q u_6 u_10  _ h_11) kwX13_hold kVX13_hold ⟨by show _ ≤ 12 * (d + 1) + 20; omega, by show _ ≤ 140 * (d + 1) + 400; omega⟩ rfl hl.1 rfl (Nat.le_of_ble_eq_true rfl) dX13_readOr_15) hno hlocks (prt_eqT hF)
          | some r_12 =>
            have hF := pot_some hF
            refine mcV_v (As := []) (rest := []) hC hH (m_hold l G Z Q u_6 u_10 r_12  _ h_11) kwX13_hold kVX13_hold ⟨by show _ ≤ 12 * (d + 1) + 20; omega, by show _ ≤ 140 * (d + 1) + 400; omega⟩ rfl hl.1 rfl (Nat.le_of_ble_eq_true rfl) dX13_readOr_15 (fun H locs hH => ?_)
            refine lv_aload_n hx hb dX13_readOr_18 rfl (lv_at hl 0 rfl) ?_
            obtain ⟨r_13, u_14, h_15, hF⟩ := pcl_some hF
            refine mcV_v (As := []) (rest := []) hC hH (m_scan l G Z Q u_10 u_14 r_13  _ h_15) kwX13_scan kVX13_scan ⟨by show _ ≤ 12 * (d + 1) + 20; omega, by show _ ≤ 140 * (d + 1) + 400; omega⟩ rfl hl.1 rfl (Nat.le_of_ble_eq_true rfl) dX13_readOr_19 (fun H locs hH => ?_)
            refine lv_aload_n hx hb dX13_readOr_22 rfl (lv_at hl 0 rfl) ?_
            obtain ⟨r_16, u_17, h_18, hF⟩ := pcl_some hF
            cases r_16 with
            | none =>
              have hF := pot_none hF
              exact mt_pass hH (mt_run (As := []) (rest := []) hC hH (ht_readAnd u_14 u_17  _ h_18) kwX13_readAnd kVX13_readAnd ⟨by show _ ≤ 12 * (d + 1) + 20; omega, by show _ ≤ 140 * (d + 1) + 400; omega⟩ rfl hl.1 rfl (Nat.le_of_ble_eq_true rfl) dX13_readOr_23) hno hlocks (prt_eqT hF)
            | some r_19 =>
              have hF := pot_some hF
              refine mcV_v (As := []) (rest := []) hC hH (hr_readAnd u_14 u_17 r_19  _ h_18) kwX13_readAnd kVX13_readAnd ⟨by show _ ≤ 12 * (d + 1) + 20; omega, by show _ ≤ 140 * (d + 1) + 400; omega⟩ rfl hl.1 rfl (Nat.le_of_ble_eq_true rfl) dX13_readOr_23 (fun H locs hH => ?_)
              refine lv_aload_n hx hb dX13_readOr_26 rfl (lv_at hl 0 rfl) ?_
              refine lv_bipush (v := 16) hx hb dX13_readOr_27 (by decide) ?_
              obtain ⟨r_20, u_21, h_22, hF⟩ := pcl_some hF
              refine mcV_v (As := [.int 16]) (rest := []) hC hH (m_release l G Z Q u_17 u_21 r_20 16 _ h_22) kwX13_release kVX13_release ⟨by show _ ≤ 12 * (d + 1) + 20; omega, by show _ ≤ 140 * (d + 1) + 400; omega⟩ rfl hl.1 rfl (Nat.le_of_ble_eq_true rfl) dX13_readOr_29 (fun H locs hH => ?_)
              refine lv_goto (tgt := 4) hx hb dX13_readOr_32 (by decide) ?_
              exact ih4  u_21 _ _ _ (lv_sub hl [0] rfl) hH hF
    refine hL4 _ (fun  u H locs ls hl hH hF => ?_) fuel  u_2 _ _ _ (lv_sub hl [0] rfl) hH hF
    exact (prt_no2 hF).elim
set_option maxHeartbeats 4000000 in
set_option maxRecDepth 100000 in
theorem bm_readAnd (l : Launch) (G : gG) (Z : gM) (Q : Nat → Nat) (d : Nat) (F : Nat → Int32 → Int32 → Int32 → Int32 → PG (Option Int32)) (hr_readOr : ∀ (u u1 : GS) (r : Int32) (sz : Nat), F 0 0 0 0 0 u = some (some r, u1) → Met l yX13_readOr (Cond.code yX13_readOr cX13_readOr 1 none :: wM) { frames := 12 * d + 20, cells := 0, slots := 0, locals := 140 * d + 400 } (va_Pc [.ref (Q 72)] (mPM G Z Q u.1 sz)) (mQv G Q u1.1 sz) 0 0 (mA Q sz)) (ht_readOr : ∀ (u u1 : GS) (sz : Nat), F 0 0 0 0 0 u = some (none, u1) → MetT l yX13_readOr (Cond.code yX13_readOr cX13_readOr 1 none :: wM) { frames := 12 * d + 20, cells := 0, slots := 0, locals := 140 * d + 400 } (va_Pc [.ref (Q 72)] (mPM G Z Q u.1 sz)) (mQt G Q u1.1 sz) 0 0 (mA Q sz)) (hr_readAnd : ∀ (u u1 : GS) (r : Int32) (sz : Nat), F 1 0 0 0 0 u = some (some r, u1) → Met l yX13_readAnd (Cond.code yX13_readAnd cX13_readAnd 1 none :: wM) { frames := 12 * d + 20, cells := 0, slots := 0, locals := 140 * d + 400 } (va_Pc [.ref (Q 72)] (mPM G Z Q u.1 sz)) (mQv G Q u1.1 sz) 0 0 (mA Q sz)) (ht_readAnd : ∀ (u u1 : GS) (sz : Nat), F 1 0 0 0 0 u = some (none, u1) → MetT l yX13_readAnd (Cond.code yX13_readAnd cX13_readAnd 1 none :: wM) { frames := 12 * d + 20, cells := 0, slots := 0, locals := 140 * d + 400 } (va_Pc [.ref (Q 72)] (mPM G Z Q u.1 sz)) (mQt G Q u1.1 sz) 0 0 (mA Q sz)) (hr_readNot : ∀ (u u1 : GS) (r : Int32) (sz : Nat), F 2 0 0 0 0 u = some (some r, u1) → Met l yX13_readNot (Cond.code yX13_readNot cX13_readNot 2 none :: wM) { frames := 12 * d + 20, cells := 0, slots := 0, locals := 140 * d + 400 } (va_Pc [.ref (Q 72)] (mPM G Z Q u.1 sz)) (mQv G Q u1.1 sz) 0 0 (mA Q sz)) (ht_readNot : ∀ (u u1 : GS) (sz : Nat), F 2 0 0 0 0 u = some (none, u1) → MetT l yX13_readNot (Cond.code yX13_readNot cX13_readNot 2 none :: wM) { frames := 12 * d + 20, cells := 0, slots := 0, locals := 140 * d + 400 } (va_Pc [.ref (Q 72)] (mPM G Z Q u.1 sz)) (mQt G Q u1.1 sz) 0 0 (mA Q sz)) (u u1 : GS) (r : Int32)  (sz : Nat) (hF : bd_readAnd F u = some (some r, u1)) : Met l yX13_readAnd (Cond.code yX13_readAnd cX13_readAnd 1 none :: wM) { frames := 12 * (d + 1) + 20, cells := 0, slots := 0, locals := 140 * (d + 1) + 400 } (va_Pc [.ref (Q 72)] (mPM G Z Q u.1 sz)) (mQv G Q u1.1 sz) 0 0 (mA Q sz) := by
  refine Met.ofW (cc := cX13_readAnd) (maxL := 1) (ret := none) (by decide) rfl ?_
  intro p e s m args below meth c s₁ B hml hv
  obtain ⟨rfl, rfl, hP, hB, hD, hE⟩ := hv
  have hr := B.returns
  have hlocks := B.notSynchronized
  have hts := atoms_spec (ws := Cond.code yX13_readAnd cX13_readAnd 1 none :: wM) B.pre
  have hC : mX p c cX13_readAnd 1 s m _ G Z Q := ⟨B.exec, B.bytes, hml, findClass_of_methodNamed B.named, fun w h => hts w (List.mem_cons_of_mem _ h), hB, hE⟩
  have hx := hC.1
  have hb := hC.2.1
  have hH : mH G Q u.1 s s.heap [] := ⟨hP, hD, va_S.rf⟩
  have hl := lv_entry ([.ref (Q 72)]) (n := 1) (Nat.le_of_ble_eq_true rfl)
  rw [lg_entry_eq]
  generalize (lg_sl ([.ref (Q 72)]) ++ List.replicate (1 - (lg_sl ([.ref (Q 72)])).length) Slot.unset).toArray = ls at hl ⊢
  have hl : lv_has ls 1 [(0, .ref (Q 72))] := hl
  unfold bd_readAnd at hF
  refine lv_aload_n hx hb dX13_readAnd_0 rfl (lv_at hl 0 rfl) ?_
  obtain ⟨r_1, u_2, h_3, hF⟩ := pcl_some hF
  cases r_1 with
  | none =>
    have hF := pot_none hF
    exact (prt_no hF).elim
  | some r_4 =>
    have hF := pot_some hF
    refine mcV_v (As := []) (rest := []) hC hH (hr_readNot u u_2 r_4  _ h_3) kwX13_readNot kVX13_readNot ⟨by show _ ≤ 12 * (d + 1) + 20; omega, by show _ ≤ 140 * (d + 1) + 400; omega⟩ rfl hl.1 rfl (Nat.le_of_ble_eq_true rfl) dX13_readAnd_1 (fun H locs hH => ?_)
    have hL4 : ∀ (K4_35 : PG (Option Int32)), (∀ (u : GS) (H : Heap) (locs : List Loc) (ls : Array Slot), lv_has ls 1 [(0, .ref (Q 72))] → mH G Q u.1 s H locs → K4_35  u = some ((some r, u1)) → W p l e (headSpec (Cond.code yX13_readAnd cX13_readAnd 1 none :: wM) { frames := 12 * (d + 1) + 20, cells := 0, slots := 0, locals := 140 * (d + 1) + 400 }).room s m [.ref (Q 72)].toArray below meth c H locs 0 0 (MQ below (mQv G Q u1.1 s.heap.size) [.ref (Q 72)].toArray s 0 0 (mA Q s.heap.size)) (F0 m 35 ls [])) → ∀ (n4 : Nat) (u : GS) (H : Heap) (locs : List Loc) (ls : Array Slot), lv_has ls 1 [(0, .ref (Q 72))] → mH G Q u.1 s H locs → lp_readAnd_4 F n4  K4_35 u = some ((some r, u1)) → W p l e (headSpec (Cond.code yX13_readAnd cX13_readAnd 1 none :: wM) { frames := 12 * (d + 1) + 20, cells := 0, slots := 0, locals := 140 * (d + 1) + 400 }).room s m [.ref (Q 72)].toArray below meth c H locs 0 0 (MQ below (mQv G Q u1.1 s.heap.size) [.ref (Q 72)].toArray s 0 0 (mA Q s.heap.size)) (F0 m 4 ls []) := by
      intro K4_35 hK4_35 n4
      induction n4 with
      | zero => intro  u H locs ls hl hH hF; cases hF
      | succ n4 ih4 =>
        intro  u H locs ls hl hH hF
        unfold lp_readAnd_4 at hF
        refine lv_aload_n hx hb dX13_readAnd_4 rfl (lv_at hl 0 rfl) ?_
        refine th_ldcw (tx := sTx 7) hx hb hC.2.2.2.1 (hC.2.2.2.2.2.2.2.2.1 7 (by decide)) dX13_readAnd_5 ?_
        obtain ⟨r_5, u_6, h_7, hF⟩ := pcl_some hF
        refine mcV_i (As := [.ref (Z.1 7)]) (rest := []) hC hH (m_is l G Z Q u u_6 r_5 7 _ h_7 (by decide)) kwX13_is kVX13_is ⟨by show _ ≤ 12 * (d + 1) + 20; omega, by show _ ≤ 140 * (d + 1) + 400; omega⟩ rfl hl.1 rfl (Nat.le_of_ble_eq_true rfl) dX13_readAnd_8 (fun H locs hH => ?_)
        refine lv_if_eq (tgt := 35) hx hb dX13_readAnd_11 (by decide) (fun c_8 => ?_) (fun c_8 => ?_)
        · rw [if_pos c_8] at hF
          exact hK4_35  u_6 _ _ _ (lv_sub hl [0] rfl) hH hF
        · rw [if_neg c_8] at hF
          refine lv_aload_n hx hb dX13_readAnd_14 rfl (lv_at hl 0 rfl) ?_
          obtain ⟨r_9, u_10, h_11, hF⟩ := pcl_some hF
          cases r_9 with
          | none =>
            have hF := pot_none hF
            exact (prt_no hF).elim
          | some r_12 =>
            have hF := pot_some hF
            refine mcV_v (As := []) (rest := []) hC hH (m_hold l G Z Q u_6 u_10 r_12  _ h_11) kwX13_hold kVX13_hold ⟨by show _ ≤ 12 * (d + 1) + 20; omega, by show _ ≤ 140 * (d + 1) + 400; omega⟩ rfl hl.1 rfl (Nat.le_of_ble_eq_true rfl) dX13_readAnd_15 (fun H locs hH => ?_)
            refine lv_aload_n hx hb dX13_readAnd_18 rfl (lv_at hl 0 rfl) ?_
            obtain ⟨r_13, u_14, h_15, hF⟩ := pcl_some hF
            refine mcV_v (As := []) (rest := []) hC hH (m_scan l G Z Q u_10 u_14 r_13  _ h_15) kwX13_scan kVX13_scan ⟨by show _ ≤ 12 * (d + 1) + 20; omega, by show _ ≤ 140 * (d + 1) + 400; omega⟩ rfl hl.1 rfl (Nat.le_of_ble_eq_true rfl) dX13_readAnd_19 (fun H locs hH => ?_)
            refine lv_aload_n hx hb dX13_readAnd_22 rfl (lv_at hl 0 rfl) ?_
            obtain ⟨r_16, u_17, h_18, hF⟩ := pcl_some hF
            cases r_16 with
            | none =>
              have hF := pot_none hF
              exact (prt_no hF).elim
            | some r_19 =>
              have hF := pot_some hF
              refine mcV_v (As := []) (rest := []) hC hH (hr_readNot u_14 u_17 r_19  _ h_18) kwX13_readNot kVX13_readNot ⟨by show _ ≤ 12 * (d + 1) + 20; omega, by show _ ≤ 140 * (d + 1) + 400; omega⟩ rfl hl.1 rfl (Nat.le_of_ble_eq_true rfl) dX13_readAnd_23 (fun H locs hH => ?_)
              refine lv_aload_n hx hb dX13_readAnd_26 rfl (lv_at hl 0 rfl) ?_
              refine lv_bipush (v := 15) hx hb dX13_readAnd_27 (by decide) ?_
              obtain ⟨r_20, u_21, h_22, hF⟩ := pcl_some hF
              refine mcV_v (As := [.int 15]) (rest := []) hC hH (m_release l G Z Q u_17 u_21 r_20 15 _ h_22) kwX13_release kVX13_release ⟨by show _ ≤ 12 * (d + 1) + 20; omega, by show _ ≤ 140 * (d + 1) + 400; omega⟩ rfl hl.1 rfl (Nat.le_of_ble_eq_true rfl) dX13_readAnd_29 (fun H locs hH => ?_)
              refine lv_goto (tgt := 4) hx hb dX13_readAnd_32 (by decide) ?_
              exact ih4  u_21 _ _ _ (lv_sub hl [0] rfl) hH hF
    refine hL4 _ (fun  u H locs ls hl hH hF => ?_) fuel  u_2 _ _ _ (lv_sub hl [0] rfl) hH hF
    have hF := prt_eqS hF
    exact mr_v hC hH hr hF dX13_readAnd_35 hlocks
set_option maxHeartbeats 4000000 in
set_option maxRecDepth 100000 in
theorem bt_readAnd (l : Launch) (G : gG) (Z : gM) (Q : Nat → Nat) (d : Nat) (F : Nat → Int32 → Int32 → Int32 → Int32 → PG (Option Int32)) (hr_readOr : ∀ (u u1 : GS) (r : Int32) (sz : Nat), F 0 0 0 0 0 u = some (some r, u1) → Met l yX13_readOr (Cond.code yX13_readOr cX13_readOr 1 none :: wM) { frames := 12 * d + 20, cells := 0, slots := 0, locals := 140 * d + 400 } (va_Pc [.ref (Q 72)] (mPM G Z Q u.1 sz)) (mQv G Q u1.1 sz) 0 0 (mA Q sz)) (ht_readOr : ∀ (u u1 : GS) (sz : Nat), F 0 0 0 0 0 u = some (none, u1) → MetT l yX13_readOr (Cond.code yX13_readOr cX13_readOr 1 none :: wM) { frames := 12 * d + 20, cells := 0, slots := 0, locals := 140 * d + 400 } (va_Pc [.ref (Q 72)] (mPM G Z Q u.1 sz)) (mQt G Q u1.1 sz) 0 0 (mA Q sz)) (hr_readAnd : ∀ (u u1 : GS) (r : Int32) (sz : Nat), F 1 0 0 0 0 u = some (some r, u1) → Met l yX13_readAnd (Cond.code yX13_readAnd cX13_readAnd 1 none :: wM) { frames := 12 * d + 20, cells := 0, slots := 0, locals := 140 * d + 400 } (va_Pc [.ref (Q 72)] (mPM G Z Q u.1 sz)) (mQv G Q u1.1 sz) 0 0 (mA Q sz)) (ht_readAnd : ∀ (u u1 : GS) (sz : Nat), F 1 0 0 0 0 u = some (none, u1) → MetT l yX13_readAnd (Cond.code yX13_readAnd cX13_readAnd 1 none :: wM) { frames := 12 * d + 20, cells := 0, slots := 0, locals := 140 * d + 400 } (va_Pc [.ref (Q 72)] (mPM G Z Q u.1 sz)) (mQt G Q u1.1 sz) 0 0 (mA Q sz)) (hr_readNot : ∀ (u u1 : GS) (r : Int32) (sz : Nat), F 2 0 0 0 0 u = some (some r, u1) → Met l yX13_readNot (Cond.code yX13_readNot cX13_readNot 2 none :: wM) { frames := 12 * d + 20, cells := 0, slots := 0, locals := 140 * d + 400 } (va_Pc [.ref (Q 72)] (mPM G Z Q u.1 sz)) (mQv G Q u1.1 sz) 0 0 (mA Q sz)) (ht_readNot : ∀ (u u1 : GS) (sz : Nat), F 2 0 0 0 0 u = some (none, u1) → MetT l yX13_readNot (Cond.code yX13_readNot cX13_readNot 2 none :: wM) { frames := 12 * d + 20, cells := 0, slots := 0, locals := 140 * d + 400 } (va_Pc [.ref (Q 72)] (mPM G Z Q u.1 sz)) (mQt G Q u1.1 sz) 0 0 (mA Q sz)) (u u1 : GS)  (sz : Nat) (hF : bd_readAnd F u = some (none, u1)) : MetT l yX13_readAnd (Cond.code yX13_readAnd cX13_readAnd 1 none :: wM) { frames := 12 * (d + 1) + 20, cells := 0, slots := 0, locals := 140 * (d + 1) + 400 } (va_Pc [.ref (Q 72)] (mPM G Z Q u.1 sz)) (mQt G Q u1.1 sz) 0 0 (mA Q sz) := by
  refine MetT.ofW (cc := cX13_readAnd) (maxL := 1) (ret := none) (by decide) rfl ?_
  intro p e s m args below meth c s₁ B hml hv
  obtain ⟨rfl, rfl, hP, hB, hD, hE⟩ := hv
  have hr := B.returns
  have hlocks := B.notSynchronized
  have hts := atoms_spec (ws := Cond.code yX13_readAnd cX13_readAnd 1 none :: wM) B.pre
  have hC : mX p c cX13_readAnd 1 s m _ G Z Q := ⟨B.exec, B.bytes, hml, findClass_of_methodNamed B.named, fun w h => hts w (List.mem_cons_of_mem _ h), hB, hE⟩
  have hx := hC.1
  have hb := hC.2.1
  have hH : mH G Q u.1 s s.heap [] := ⟨hP, hD, va_S.rf⟩
  have hno : c.exceptionTable.isEmpty = true := BodyLoose.noHandlers B (hts _ List.mem_cons_self)
  have hl := lv_entry ([.ref (Q 72)]) (n := 1) (Nat.le_of_ble_eq_true rfl)
  rw [lg_entry_eq]
  generalize (lg_sl ([.ref (Q 72)]) ++ List.replicate (1 - (lg_sl ([.ref (Q 72)])).length) Slot.unset).toArray = ls at hl ⊢
  have hl : lv_has ls 1 [(0, .ref (Q 72))] := hl
  unfold bd_readAnd at hF
  refine lv_aload_n hx hb dX13_readAnd_0 rfl (lv_at hl 0 rfl) ?_
  obtain ⟨r_1, u_2, h_3, hF⟩ := pcl_some hF
  cases r_1 with
  | none =>
    have hF := pot_none hF
    exact mt_pass hH (mt_run (As := []) (rest := []) hC hH (ht_readNot u u_2  _ h_3) kwX13_readNot kVX13_readNot ⟨by show _ ≤ 12 * (d + 1) + 20; omega, by show _ ≤ 140 * (d + 1) + 400; omega⟩ rfl hl.1 rfl (Nat.le_of_ble_eq_true rfl) dX13_readAnd_1) hno hlocks (prt_eqT hF)
  | some r_4 =>
    have hF := pot_some hF
    refine mcV_v (As := []) (rest := []) hC hH (hr_readNot u u_2 r_4  _ h_3) kwX13_readNot kVX13_readNot ⟨by show _ ≤ 12 * (d + 1) + 20; omega, by show _ ≤ 140 * (d + 1) + 400; omega⟩ rfl hl.1 rfl (Nat.le_of_ble_eq_true rfl) dX13_readAnd_1 (fun H locs hH => ?_)
    have hL4 : ∀ (K4_35 : PG (Option Int32)), (∀ (u : GS) (H : Heap) (locs : List Loc) (ls : Array Slot), lv_has ls 1 [(0, .ref (Q 72))] → mH G Q u.1 s H locs → K4_35  u = some ((none, u1)) → W p l e (headSpec (Cond.code yX13_readAnd cX13_readAnd 1 none :: wM) { frames := 12 * (d + 1) + 20, cells := 0, slots := 0, locals := 140 * (d + 1) + 400 }).room s m [.ref (Q 72)].toArray below meth c H locs 0 0 (MQT below (mQt G Q u1.1 s.heap.size) [.ref (Q 72)].toArray s 0 0 (mA Q s.heap.size)) (F0 m 35 ls [])) → ∀ (n4 : Nat) (u : GS) (H : Heap) (locs : List Loc) (ls : Array Slot), lv_has ls 1 [(0, .ref (Q 72))] → mH G Q u.1 s H locs → lp_readAnd_4 F n4  K4_35 u = some ((none, u1)) → W p l e (headSpec (Cond.code yX13_readAnd cX13_readAnd 1 none :: wM) { frames := 12 * (d + 1) + 20, cells := 0, slots := 0, locals := 140 * (d + 1) + 400 }).room s m [.ref (Q 72)].toArray below meth c H locs 0 0 (MQT below (mQt G Q u1.1 s.heap.size) [.ref (Q 72)].toArray s 0 0 (mA Q s.heap.size)) (F0 m 4 ls []) := by
      intro K4_35 hK4_35 n4
      induction n4 with
      | zero => intro  u H locs ls hl hH hF; cases hF
      | succ n4 ih4 =>
        intro  u H locs ls hl hH hF
        unfold lp_readAnd_4 at hF
        refine lv_aload_n hx hb dX13_readAnd_4 rfl (lv_at hl 0 rfl) ?_
        refine th_ldcw (tx := sTx 7) hx hb hC.2.2.2.1 (hC.2.2.2.2.2.2.2.2.1 7 (by decide)) dX13_readAnd_5 ?_
        obtain ⟨r_5, u_6, h_7, hF⟩ := pcl_some hF
        refine mcV_i (As := [.ref (Z.1 7)]) (rest := []) hC hH (m_is l G Z Q u u_6 r_5 7 _ h_7 (by decide)) kwX13_is kVX13_is ⟨by show _ ≤ 12 * (d + 1) + 20; omega, by show _ ≤ 140 * (d + 1) + 400; omega⟩ rfl hl.1 rfl (Nat.le_of_ble_eq_true rfl) dX13_readAnd_8 (fun H locs hH => ?_)
        refine lv_if_eq (tgt := 35) hx hb dX13_readAnd_11 (by decide) (fun c_8 => ?_) (fun c_8 => ?_)
        · rw [if_pos c_8] at hF
          exact hK4_35  u_6 _ _ _ (lv_sub hl [0] rfl) hH hF
        · rw [if_neg c_8] at hF
          refine lv_aload_n hx hb dX13_readAnd_14 rfl (lv_at hl 0 rfl) ?_
          obtain ⟨r_9, u_10, h_11, hF⟩ := pcl_some hF
          cases r_9 with
          | none =>
            have hF := pot_none hF
            exact mt_pass hH (mt_run (As := []) (rest := []) hC hH (t_hold l G Z Q u_6 u_10  _ h_11) kwX13_hold kVX13_hold ⟨by show _ ≤ 12 * (d + 1) + 20; omega, by show _ ≤ 140 * (d + 1) + 400; omega⟩ rfl hl.1 rfl (Nat.le_of_ble_eq_true rfl) dX13_readAnd_15) hno hlocks (prt_eqT hF)
          | some r_12 =>
            have hF := pot_some hF
            refine mcV_v (As := []) (rest := []) hC hH (m_hold l G Z Q u_6 u_10 r_12  _ h_11) kwX13_hold kVX13_hold ⟨by show _ ≤ 12 * (d + 1) + 20; omega, by show _ ≤ 140 * (d + 1) + 400; omega⟩ rfl hl.1 rfl (Nat.le_of_ble_eq_true rfl) dX13_readAnd_15 (fun H locs hH => ?_)
            refine lv_aload_n hx hb dX13_readAnd_18 rfl (lv_at hl 0 rfl) ?_
            obtain ⟨r_13, u_14, h_15, hF⟩ := pcl_some hF
            refine mcV_v (As := []) (rest := []) hC hH (m_scan l G Z Q u_10 u_14 r_13  _ h_15) kwX13_scan kVX13_scan ⟨by show _ ≤ 12 * (d + 1) + 20; omega, by show _ ≤ 140 * (d + 1) + 400; omega⟩ rfl hl.1 rfl (Nat.le_of_ble_eq_true rfl) dX13_readAnd_19 (fun H locs hH => ?_)
            refine lv_aload_n hx hb dX13_readAnd_22 rfl (lv_at hl 0 rfl) ?_
            obtain ⟨r_16, u_17, h_18, hF⟩ := pcl_some hF
            cases r_16 with
            | none =>
              have hF := pot_none hF
              exact mt_pass hH (mt_run (As := []) (rest := []) hC hH (ht_readNot u_14 u_17  _ h_18) kwX13_readNot kVX13_readNot ⟨by show _ ≤ 12 * (d + 1) + 20; omega, by show _ ≤ 140 * (d + 1) + 400; omega⟩ rfl hl.1 rfl (Nat.le_of_ble_eq_true rfl) dX13_readAnd_23) hno hlocks (prt_eqT hF)
            | some r_19 =>
              have hF := pot_some hF
              refine mcV_v (As := []) (rest := []) hC hH (hr_readNot u_14 u_17 r_19  _ h_18) kwX13_readNot kVX13_readNot ⟨by show _ ≤ 12 * (d + 1) + 20; omega, by show _ ≤ 140 * (d + 1) + 400; omega⟩ rfl hl.1 rfl (Nat.le_of_ble_eq_true rfl) dX13_readAnd_23 (fun H locs hH => ?_)
              refine lv_aload_n hx hb dX13_readAnd_26 rfl (lv_at hl 0 rfl) ?_
              refine lv_bipush (v := 15) hx hb dX13_readAnd_27 (by decide) ?_
              obtain ⟨r_20, u_21, h_22, hF⟩ := pcl_some hF
              refine mcV_v (As := [.int 15]) (rest := []) hC hH (m_release l G Z Q u_17 u_21 r_20 15 _ h_22) kwX13_release kVX13_release ⟨by show _ ≤ 12 * (d + 1) + 20; omega, by show _ ≤ 140 * (d + 1) + 400; omega⟩ rfl hl.1 rfl (Nat.le_of_ble_eq_true rfl) dX13_readAnd_29 (fun H locs hH => ?_)
              refine lv_goto (tgt := 4) hx hb dX13_readAnd_32 (by decide) ?_
              exact ih4  u_21 _ _ _ (lv_sub hl [0] rfl) hH hF
    refine hL4 _ (fun  u H locs ls hl hH hF => ?_) fuel  u_2 _ _ _ (lv_sub hl [0] rfl) hH hF
    exact (prt_no2 hF).elim
set_option maxHeartbeats 4000000 in
set_option maxRecDepth 100000 in
theorem bm_readNot (l : Launch) (G : gG) (Z : gM) (Q : Nat → Nat) (d : Nat) (F : Nat → Int32 → Int32 → Int32 → Int32 → PG (Option Int32)) (hr_readOr : ∀ (u u1 : GS) (r : Int32) (sz : Nat), F 0 0 0 0 0 u = some (some r, u1) → Met l yX13_readOr (Cond.code yX13_readOr cX13_readOr 1 none :: wM) { frames := 12 * d + 20, cells := 0, slots := 0, locals := 140 * d + 400 } (va_Pc [.ref (Q 72)] (mPM G Z Q u.1 sz)) (mQv G Q u1.1 sz) 0 0 (mA Q sz)) (ht_readOr : ∀ (u u1 : GS) (sz : Nat), F 0 0 0 0 0 u = some (none, u1) → MetT l yX13_readOr (Cond.code yX13_readOr cX13_readOr 1 none :: wM) { frames := 12 * d + 20, cells := 0, slots := 0, locals := 140 * d + 400 } (va_Pc [.ref (Q 72)] (mPM G Z Q u.1 sz)) (mQt G Q u1.1 sz) 0 0 (mA Q sz)) (hr_readAnd : ∀ (u u1 : GS) (r : Int32) (sz : Nat), F 1 0 0 0 0 u = some (some r, u1) → Met l yX13_readAnd (Cond.code yX13_readAnd cX13_readAnd 1 none :: wM) { frames := 12 * d + 20, cells := 0, slots := 0, locals := 140 * d + 400 } (va_Pc [.ref (Q 72)] (mPM G Z Q u.1 sz)) (mQv G Q u1.1 sz) 0 0 (mA Q sz)) (ht_readAnd : ∀ (u u1 : GS) (sz : Nat), F 1 0 0 0 0 u = some (none, u1) → MetT l yX13_readAnd (Cond.code yX13_readAnd cX13_readAnd 1 none :: wM) { frames := 12 * d + 20, cells := 0, slots := 0, locals := 140 * d + 400 } (va_Pc [.ref (Q 72)] (mPM G Z Q u.1 sz)) (mQt G Q u1.1 sz) 0 0 (mA Q sz)) (hr_readNot : ∀ (u u1 : GS) (r : Int32) (sz : Nat), F 2 0 0 0 0 u = some (some r, u1) → Met l yX13_readNot (Cond.code yX13_readNot cX13_readNot 2 none :: wM) { frames := 12 * d + 20, cells := 0, slots := 0, locals := 140 * d + 400 } (va_Pc [.ref (Q 72)] (mPM G Z Q u.1 sz)) (mQv G Q u1.1 sz) 0 0 (mA Q sz)) (ht_readNot : ∀ (u u1 : GS) (sz : Nat), F 2 0 0 0 0 u = some (none, u1) → MetT l yX13_readNot (Cond.code yX13_readNot cX13_readNot 2 none :: wM) { frames := 12 * d + 20, cells := 0, slots := 0, locals := 140 * d + 400 } (va_Pc [.ref (Q 72)] (mPM G Z Q u.1 sz)) (mQt G Q u1.1 sz) 0 0 (mA Q sz)) (u u1 : GS) (r : Int32)  (sz : Nat) (hF : bd_readNot F u = some (some r, u1)) : Met l yX13_readNot (Cond.code yX13_readNot cX13_readNot 2 none :: wM) { frames := 12 * (d + 1) + 20, cells := 0, slots := 0, locals := 140 * (d + 1) + 400 } (va_Pc [.ref (Q 72)] (mPM G Z Q u.1 sz)) (mQv G Q u1.1 sz) 0 0 (mA Q sz) := by
  refine Met.ofW (cc := cX13_readNot) (maxL := 2) (ret := none) (by decide) rfl ?_
  intro p e s m args below meth c s₁ B hml hv
  obtain ⟨rfl, rfl, hP, hB, hD, hE⟩ := hv
  have hr := B.returns
  have hlocks := B.notSynchronized
  have hts := atoms_spec (ws := Cond.code yX13_readNot cX13_readNot 2 none :: wM) B.pre
  have hC : mX p c cX13_readNot 2 s m _ G Z Q := ⟨B.exec, B.bytes, hml, findClass_of_methodNamed B.named, fun w h => hts w (List.mem_cons_of_mem _ h), hB, hE⟩
  have hx := hC.1
  have hb := hC.2.1
  have hH : mH G Q u.1 s s.heap [] := ⟨hP, hD, va_S.rf⟩
  have hl := lv_entry ([.ref (Q 72)]) (n := 2) (Nat.le_of_ble_eq_true rfl)
  rw [lg_entry_eq]
  generalize (lg_sl ([.ref (Q 72)]) ++ List.replicate (2 - (lg_sl ([.ref (Q 72)])).length) Slot.unset).toArray = ls at hl ⊢
  have hl : lv_has ls 2 [(0, .ref (Q 72))] := hl
  unfold bd_readNot at hF
  refine lv_aload_n hx hb dX13_readNot_0 rfl (lv_at hl 0 rfl) ?_
  refine th_ldcw (tx := sTx 8) hx hb hC.2.2.2.1 (hC.2.2.2.2.2.2.2.2.1 8 (by decide)) dX13_readNot_1 ?_
  obtain ⟨r_1, u_2, h_3, hF⟩ := pcl_some hF
  refine mcV_i (As := [.ref (Z.1 8)]) (rest := []) hC hH (m_is l G Z Q u u_2 r_1 8 _ h_3 (by decide)) kwX13_is kVX13_is ⟨by show _ ≤ 12 * (d + 1) + 20; omega, by show _ ≤ 140 * (d + 1) + 400; omega⟩ rfl hl.1 rfl (Nat.le_of_ble_eq_true rfl) dX13_readNot_4 (fun H locs hH => ?_)
  refine lv_if_eq (tgt := 49) hx hb dX13_readNot_7 (by decide) (fun c_4 => ?_) (fun c_4 => ?_)
  · rw [if_pos c_4] at hF
    refine lv_aload_n hx hb dX13_readNot_49 rfl (lv_at hl 0 rfl) ?_
    refine th_ldcw (tx := sTx 15) hx hb hC.2.2.2.1 (hC.2.2.2.2.2.2.2.2.1 15 (by decide)) dX13_readNot_50 ?_
    obtain ⟨r_5, u_6, h_7, hF⟩ := pcl_some hF
    refine mcV_i (As := [.ref (Z.1 15)]) (rest := []) hC hH (m_is l G Z Q u_2 u_6 r_5 15 _ h_7 (by decide)) kwX13_is kVX13_is ⟨by show _ ≤ 12 * (d + 1) + 20; omega, by show _ ≤ 140 * (d + 1) + 400; omega⟩ rfl hl.1 rfl (Nat.le_of_ble_eq_true rfl) dX13_readNot_53 (fun H locs hH => ?_)
    refine lv_if_eq (tgt := 85) hx hb dX13_readNot_56 (by decide) (fun c_8 => ?_) (fun c_8 => ?_)
    · rw [if_pos c_8] at hF
      refine lv_aload_n hx hb dX13_readNot_85 rfl (lv_at hl 0 rfl) ?_
      refine th_ldcw (tx := sTx 9) hx hb hC.2.2.2.1 (hC.2.2.2.2.2.2.2.2.1 9 (by decide)) dX13_readNot_86 ?_
      obtain ⟨r_9, u_10, h_11, hF⟩ := pcl_some hF
      refine mcV_i (As := [.ref (Z.1 9)]) (rest := []) hC hH (m_is l G Z Q u_6 u_10 r_9 9 _ h_11 (by decide)) kwX13_is kVX13_is ⟨by show _ ≤ 12 * (d + 1) + 20; omega, by show _ ≤ 140 * (d + 1) + 400; omega⟩ rfl hl.1 rfl (Nat.le_of_ble_eq_true rfl) dX13_readNot_89 (fun H locs hH => ?_)
      refine lv_if_ne (tgt := 105) hx hb dX13_readNot_92 (by decide) (fun c_12 => ?_) (fun c_12 => ?_)
      · rw [if_neg c_12] at hF
        refine lv_aload_n hx hb dX13_readNot_105 rfl (lv_at hl 0 rfl) ?_
        obtain ⟨r_13, u_14, h_15, hF⟩ := pcl_some hF
        cases r_13 with
        | none =>
          have hF := pot_none hF
          exact (prt_no hF).elim
        | some r_16 =>
          have hF := pot_some hF
          refine mcV_v (As := []) (rest := []) hC hH (m_counts l G Z Q u_10 u_14 r_16  _ h_15) kwX13_counts kVX13_counts ⟨by show _ ≤ 12 * (d + 1) + 20; omega, by show _ ≤ 140 * (d + 1) + 400; omega⟩ rfl hl.1 rfl (Nat.le_of_ble_eq_true rfl) dX13_readNot_106 (fun H locs hH => ?_)
          refine lv_aload_n hx hb dX13_readNot_109 rfl (lv_at hl 0 rfl) ?_
          refine lv_aload_n hx hb dX13_readNot_110 rfl (lv_at hl 0 rfl) ?_
          refine th_ldcw (tx := sTx 9) hx hb hC.2.2.2.1 (hC.2.2.2.2.2.2.2.2.1 9 (by decide)) dX13_readNot_111 ?_
          obtain ⟨r_17, u_18, h_19, hF⟩ := pcl_some hF
          refine mcV_i (As := [.ref (Z.1 9)]) (rest := [.ref (Q 72)]) hC hH (m_is l G Z Q u_14 u_18 r_17 9 _ h_19 (by decide)) kwX13_is kVX13_is ⟨by show _ ≤ 12 * (d + 1) + 20; omega, by show _ ≤ 140 * (d + 1) + 400; omega⟩ rfl hl.1 rfl (Nat.le_of_ble_eq_true rfl) dX13_readNot_114 (fun H locs hH => ?_)
          refine lv_if_eq (tgt := 124) hx hb dX13_readNot_117 (by decide) (fun c_20 => ?_) (fun c_20 => ?_)
          · rw [if_pos c_20] at hF
            refine lv_iconst (v := 5) hx hb dX13_readNot_124 (by decide) ?_
            refine lv_iconst (v := 0) hx hb dX13_readNot_125 (by decide) ?_
            obtain ⟨r_21, u_22, h_23, hF⟩ := pcl_some hF
            refine mcV_v (As := [.int 5, .int 0]) (rest := []) hC hH (m_put l G Z Q u_18 u_22 r_21 5 0 _ h_23) kwX13_put kVX13_put ⟨by show _ ≤ 12 * (d + 1) + 20; omega, by show _ ≤ 140 * (d + 1) + 400; omega⟩ rfl hl.1 rfl (Nat.le_of_ble_eq_true rfl) dX13_readNot_126 (fun H locs hH => ?_)
            refine lv_aload_n hx hb dX13_readNot_129 rfl (lv_at hl 0 rfl) ?_
            obtain ⟨r_24, u_25, h_26, hF⟩ := pcl_some hF
            refine mcV_v (As := []) (rest := []) hC hH (m_scan l G Z Q u_22 u_25 r_24  _ h_26) kwX13_scan kVX13_scan ⟨by show _ ≤ 12 * (d + 1) + 20; omega, by show _ ≤ 140 * (d + 1) + 400; omega⟩ rfl hl.1 rfl (Nat.le_of_ble_eq_true rfl) dX13_readNot_130 (fun H locs hH => ?_)
            have hF := prt_eqS hF
            exact mr_v hC hH hr hF dX13_readNot_133 hlocks
          · rw [if_neg c_20] at hF
            refine lv_iconst (v := 4) hx hb dX13_readNot_120 (by decide) ?_
            refine lv_goto (tgt := 125) hx hb dX13_readNot_121 (by decide) ?_
            refine lv_iconst (v := 0) hx hb dX13_readNot_125 (by decide) ?_
            obtain ⟨r_27, u_28, h_29, hF⟩ := pcl_some hF
            refine mcV_v (As := [.int 4, .int 0]) (rest := []) hC hH (m_put l G Z Q u_18 u_28 r_27 4 0 _ h_29) kwX13_put kVX13_put ⟨by show _ ≤ 12 * (d + 1) + 20; omega, by show _ ≤ 140 * (d + 1) + 400; omega⟩ rfl hl.1 rfl (Nat.le_of_ble_eq_true rfl) dX13_readNot_126 (fun H locs hH => ?_)
            refine lv_aload_n hx hb dX13_readNot_129 rfl (lv_at hl 0 rfl) ?_
            obtain ⟨r_30, u_31, h_32, hF⟩ := pcl_some hF
            refine mcV_v (As := []) (rest := []) hC hH (m_scan l G Z Q u_28 u_31 r_30  _ h_32) kwX13_scan kVX13_scan ⟨by show _ ≤ 12 * (d + 1) + 20; omega, by show _ ≤ 140 * (d + 1) + 400; omega⟩ rfl hl.1 rfl (Nat.le_of_ble_eq_true rfl) dX13_readNot_130 (fun H locs hH => ?_)
            have hF := prt_eqS hF
            exact mr_v hC hH hr hF dX13_readNot_133 hlocks
      · rw [if_pos c_12] at hF
        refine lv_aload_n hx hb dX13_readNot_95 rfl (lv_at hl 0 rfl) ?_
        refine th_ldcw (tx := sTx 10) hx hb hC.2.2.2.1 (hC.2.2.2.2.2.2.2.2.1 10 (by decide)) dX13_readNot_96 ?_
        obtain ⟨r_33, u_34, h_35, hF⟩ := pcl_some hF
        refine mcV_i (As := [.ref (Z.1 10)]) (rest := []) hC hH (m_is l G Z Q u_10 u_34 r_33 10 _ h_35 (by decide)) kwX13_is kVX13_is ⟨by show _ ≤ 12 * (d + 1) + 20; omega, by show _ ≤ 140 * (d + 1) + 400; omega⟩ rfl hl.1 rfl (Nat.le_of_ble_eq_true rfl) dX13_readNot_99 (fun H locs hH => ?_)
        refine lv_if_eq (tgt := 134) hx hb dX13_readNot_102 (by decide) (fun c_36 => ?_) (fun c_36 => ?_)
        · rw [if_pos c_36] at hF
          refine lv_aload_n hx hb dX13_readNot_134 rfl (lv_at hl 0 rfl) ?_
          obtain ⟨r_37, u_38, h_39, hF⟩ := pcl_some hF
          cases r_37 with
          | none =>
            have hF := pot_none hF
            exact (prt_no hF).elim
          | some r_40 =>
            have hF := pot_some hF
            refine mcV_v (As := []) (rest := []) hC hH (m_readSum l G Z Q u_34 u_38 r_40  _ h_39) kwX13_readSum kVX13_readSum ⟨by show _ ≤ 12 * (d + 1) + 20; omega, by show _ ≤ 140 * (d + 1) + 400; omega⟩ rfl hl.1 rfl (Nat.le_of_ble_eq_true rfl) dX13_readNot_135 (fun H locs hH => ?_)
            refine lv_aload_n hx hb dX13_readNot_138 rfl (lv_at hl 0 rfl) ?_
            refine th_ldcw (tx := sTx 17) hx hb hC.2.2.2.1 (hC.2.2.2.2.2.2.2.2.1 17 (by decide)) dX13_readNot_139 ?_
            obtain ⟨r_41, u_42, h_43, hF⟩ := pcl_some hF
            refine mcV_i (As := [.ref (Z.1 17)]) (rest := []) hC hH (m_is l G Z Q u_38 u_42 r_41 17 _ h_43 (by decide)) kwX13_is kVX13_is ⟨by show _ ≤ 12 * (d + 1) + 20; omega, by show _ ≤ 140 * (d + 1) + 400; omega⟩ rfl hl.1 rfl (Nat.le_of_ble_eq_true rfl) dX13_readNot_142 (fun H locs hH => ?_)
            refine lv_if_eq (tgt := 153) hx hb dX13_readNot_145 (by decide) (fun c_44 => ?_) (fun c_44 => ?_)
            · rw [if_pos c_44] at hF
              refine lv_aload_n hx hb dX13_readNot_153 rfl (lv_at hl 0 rfl) ?_
              refine th_ldcw (tx := sTx 18) hx hb hC.2.2.2.1 (hC.2.2.2.2.2.2.2.2.1 18 (by decide)) dX13_readNot_154 ?_
              obtain ⟨r_45, u_46, h_47, hF⟩ := pcl_some hF
              refine mcV_i (As := [.ref (Z.1 18)]) (rest := []) hC hH (m_is l G Z Q u_42 u_46 r_45 18 _ h_47 (by decide)) kwX13_is kVX13_is ⟨by show _ ≤ 12 * (d + 1) + 20; omega, by show _ ≤ 140 * (d + 1) + 400; omega⟩ rfl hl.1 rfl (Nat.le_of_ble_eq_true rfl) dX13_readNot_157 (fun H locs hH => ?_)
              refine lv_if_eq (tgt := 168) hx hb dX13_readNot_160 (by decide) (fun c_48 => ?_) (fun c_48 => ?_)
              · rw [if_pos c_48] at hF
                refine lv_aload_n hx hb dX13_readNot_168 rfl (lv_at hl 0 rfl) ?_
                refine th_ldcw (tx := sTx 19) hx hb hC.2.2.2.1 (hC.2.2.2.2.2.2.2.2.1 19 (by decide)) dX13_readNot_169 ?_
                obtain ⟨r_49, u_50, h_51, hF⟩ := pcl_some hF
                refine mcV_i (As := [.ref (Z.1 19)]) (rest := []) hC hH (m_is l G Z Q u_46 u_50 r_49 19 _ h_51 (by decide)) kwX13_is kVX13_is ⟨by show _ ≤ 12 * (d + 1) + 20; omega, by show _ ≤ 140 * (d + 1) + 400; omega⟩ rfl hl.1 rfl (Nat.le_of_ble_eq_true rfl) dX13_readNot_172 (fun H locs hH => ?_)
                refine lv_if_eq (tgt := 183) hx hb dX13_readNot_175 (by decide) (fun c_52 => ?_) (fun c_52 => ?_)
                · rw [if_pos c_52] at hF
                  refine lv_aload_n hx hb dX13_readNot_183 rfl (lv_at hl 0 rfl) ?_
                  refine th_ldcw (tx := sTx 20) hx hb hC.2.2.2.1 (hC.2.2.2.2.2.2.2.2.1 20 (by decide)) dX13_readNot_184 ?_
                  obtain ⟨r_53, u_54, h_55, hF⟩ := pcl_some hF
                  refine mcV_i (As := [.ref (Z.1 20)]) (rest := []) hC hH (m_is l G Z Q u_50 u_54 r_53 20 _ h_55 (by decide)) kwX13_is kVX13_is ⟨by show _ ≤ 12 * (d + 1) + 20; omega, by show _ ≤ 140 * (d + 1) + 400; omega⟩ rfl hl.1 rfl (Nat.le_of_ble_eq_true rfl) dX13_readNot_187 (fun H locs hH => ?_)
                  refine lv_if_eq (tgt := 198) hx hb dX13_readNot_190 (by decide) (fun c_56 => ?_) (fun c_56 => ?_)
                  · rw [if_pos c_56] at hF
                    refine lv_aload_n hx hb dX13_readNot_198 rfl (lv_at hl 0 rfl) ?_
                    refine th_ldcw (tx := sTx 21) hx hb hC.2.2.2.1 (hC.2.2.2.2.2.2.2.2.1 21 (by decide)) dX13_readNot_199 ?_
                    obtain ⟨r_57, u_58, h_59, hF⟩ := pcl_some hF
                    refine mcV_i (As := [.ref (Z.1 21)]) (rest := []) hC hH (m_is l G Z Q u_54 u_58 r_57 21 _ h_59 (by decide)) kwX13_is kVX13_is ⟨by show _ ≤ 12 * (d + 1) + 20; omega, by show _ ≤ 140 * (d + 1) + 400; omega⟩ rfl hl.1 rfl (Nat.le_of_ble_eq_true rfl) dX13_readNot_202 (fun H locs hH => ?_)
                    refine lv_if_eq (tgt := 213) hx hb dX13_readNot_205 (by decide) (fun c_60 => ?_) (fun c_60 => ?_)
                    · rw [if_pos c_60] at hF
                      refine lv_aload_n hx hb dX13_readNot_213 rfl (lv_at hl 0 rfl) ?_
                      refine th_ldcw (tx := sTx 22) hx hb hC.2.2.2.1 (hC.2.2.2.2.2.2.2.2.1 22 (by decide)) dX13_readNot_214 ?_
                      obtain ⟨r_61, u_62, h_63, hF⟩ := pcl_some hF
                      refine mcV_i (As := [.ref (Z.1 22)]) (rest := []) hC hH (m_is l G Z Q u_58 u_62 r_61 22 _ h_63 (by decide)) kwX13_is kVX13_is ⟨by show _ ≤ 12 * (d + 1) + 20; omega, by show _ ≤ 140 * (d + 1) + 400; omega⟩ rfl hl.1 rfl (Nat.le_of_ble_eq_true rfl) dX13_readNot_217 (fun H locs hH => ?_)
                      refine lv_if_eq (tgt := 228) hx hb dX13_readNot_220 (by decide) (fun c_64 => ?_) (fun c_64 => ?_)
                      · rw [if_pos c_64] at hF
                        refine lv_iconst (v := (-1)) hx hb dX13_readNot_228 (by decide) ?_
                        refine lv_istore_n (lv' := [(1, .int (-1)), (0, .ref (Q 72))]) hx hb dX13_readNot_229 rfl hl (by decide) rfl (fun ls hl => ?_)
                        refine lv_iload_n hx hb dX13_readNot_230 rfl (lv_at hl 0 rfl) ?_
                        refine lv_iconst (v := (-1)) hx hb dX13_readNot_231 (by decide) ?_
                        refine lv_icmp_ne (tgt := 245) hx hb dX13_readNot_232 (by decide) (fun c_65 => ?_) (fun c_65 => ?_)
                        · rw [if_neg c_65] at hF
                          refine lv_aload_n hx hb dX13_readNot_245 rfl (lv_at hl 1 rfl) ?_
                          obtain ⟨r_66, u_67, h_68, hF⟩ := pcl_some hF
                          cases r_66 with
                          | none =>
                            have hF := pot_none hF
                            exact (prt_no hF).elim
                          | some r_69 =>
                            have hF := pot_some hF
                            refine mcV_v (As := []) (rest := []) hC hH (m_hold l G Z Q u_62 u_67 r_69  _ h_68) kwX13_hold kVX13_hold ⟨by show _ ≤ 12 * (d + 1) + 20; omega, by show _ ≤ 140 * (d + 1) + 400; omega⟩ rfl hl.1 rfl (Nat.le_of_ble_eq_true rfl) dX13_readNot_246 (fun H locs hH => ?_)
                            refine lv_aload_n hx hb dX13_readNot_249 rfl (lv_at hl 1 rfl) ?_
                            obtain ⟨r_70, u_71, h_72, hF⟩ := pcl_some hF
                            refine mcV_v (As := []) (rest := []) hC hH (m_scan l G Z Q u_67 u_71 r_70  _ h_72) kwX13_scan kVX13_scan ⟨by show _ ≤ 12 * (d + 1) + 20; omega, by show _ ≤ 140 * (d + 1) + 400; omega⟩ rfl hl.1 rfl (Nat.le_of_ble_eq_true rfl) dX13_readNot_250 (fun H locs hH => ?_)
                            refine lv_aload_n hx hb dX13_readNot_253 rfl (lv_at hl 1 rfl) ?_
                            obtain ⟨r_73, u_74, h_75, hF⟩ := pcl_some hF
                            cases r_73 with
                            | none =>
                              have hF := pot_none hF
                              exact (prt_no hF).elim
                            | some r_76 =>
                              have hF := pot_some hF
                              refine mcV_v (As := []) (rest := []) hC hH (m_readSum l G Z Q u_71 u_74 r_76  _ h_75) kwX13_readSum kVX13_readSum ⟨by show _ ≤ 12 * (d + 1) + 20; omega, by show _ ≤ 140 * (d + 1) + 400; omega⟩ rfl hl.1 rfl (Nat.le_of_ble_eq_true rfl) dX13_readNot_254 (fun H locs hH => ?_)
                              refine lv_aload_n hx hb dX13_readNot_257 rfl (lv_at hl 1 rfl) ?_
                              refine lv_iload_n hx hb dX13_readNot_258 rfl (lv_at hl 0 rfl) ?_
                              obtain ⟨r_77, u_78, h_79, hF⟩ := pcl_some hF
                              refine mcV_v (As := [.int (-1)]) (rest := []) hC hH (m_release l G Z Q u_74 u_78 r_77 (-1) _ h_79) kwX13_release kVX13_release ⟨by show _ ≤ 12 * (d + 1) + 20; omega, by show _ ≤ 140 * (d + 1) + 400; omega⟩ rfl hl.1 rfl (Nat.le_of_ble_eq_true rfl) dX13_readNot_259 (fun H locs hH => ?_)
                              have hF := prt_eqS hF
                              exact mr_v hC hH hr hF dX13_readNot_262 hlocks
                        · rw [if_pos c_65] at hF
                          refine lv_aload_n hx hb dX13_readNot_235 rfl (lv_at hl 1 rfl) ?_
                          refine lv_iconst (v := 1) hx hb dX13_readNot_236 (by decide) ?_
                          refine lv_aload_n hx hb dX13_readNot_237 rfl (lv_at hl 1 rfl) ?_
                          refine mg_44 hC hH dX13_readNot_238 ?_
                          obtain ⟨x_80, e_81, hF⟩ := prf_some hF
                          refine gx_ti e_81 ?_
                          obtain ⟨r_82, u_83, h_84, hF⟩ := pcl_some hF
                          refine mcV_r (As := [.int 1, .int x_80]) (rest := []) hC hH (m_wrong l G Z Q u_62 u_83 r_82 1 x_80 _ h_84) kwX13_wrong kVX13_wrong ⟨by show _ ≤ 12 * (d + 1) + 20; omega, by show _ ≤ 140 * (d + 1) + 400; omega⟩ rfl hl.1 rfl (Nat.le_of_ble_eq_true rfl) dX13_readNot_241 (fun H locs hH => ?_)
                          exact (prt_no hF).elim
                      · rw [if_neg c_64] at hF
                        refine lv_bipush (v := 14) hx hb dX13_readNot_223 (by decide) ?_
                        refine lv_goto (tgt := 229) hx hb dX13_readNot_225 (by decide) ?_
                        refine lv_istore_n (lv' := [(1, .int 14), (0, .ref (Q 72))]) hx hb dX13_readNot_229 rfl hl (by decide) rfl (fun ls hl => ?_)
                        refine lv_iload_n hx hb dX13_readNot_230 rfl (lv_at hl 0 rfl) ?_
                        refine lv_iconst (v := (-1)) hx hb dX13_readNot_231 (by decide) ?_
                        refine lv_icmp_ne (tgt := 245) hx hb dX13_readNot_232 (by decide) (fun c_85 => ?_) (fun c_85 => ?_)
                        · rw [if_neg c_85] at hF
                          refine lv_aload_n hx hb dX13_readNot_245 rfl (lv_at hl 1 rfl) ?_
                          obtain ⟨r_86, u_87, h_88, hF⟩ := pcl_some hF
                          cases r_86 with
                          | none =>
                            have hF := pot_none hF
                            exact (prt_no hF).elim
                          | some r_89 =>
                            have hF := pot_some hF
                            refine mcV_v (As := []) (rest := []) hC hH (m_hold l G Z Q u_62 u_87 r_89  _ h_88) kwX13_hold kVX13_hold ⟨by show _ ≤ 12 * (d + 1) + 20; omega, by show _ ≤ 140 * (d + 1) + 400; omega⟩ rfl hl.1 rfl (Nat.le_of_ble_eq_true rfl) dX13_readNot_246 (fun H locs hH => ?_)
                            refine lv_aload_n hx hb dX13_readNot_249 rfl (lv_at hl 1 rfl) ?_
                            obtain ⟨r_90, u_91, h_92, hF⟩ := pcl_some hF
                            refine mcV_v (As := []) (rest := []) hC hH (m_scan l G Z Q u_87 u_91 r_90  _ h_92) kwX13_scan kVX13_scan ⟨by show _ ≤ 12 * (d + 1) + 20; omega, by show _ ≤ 140 * (d + 1) + 400; omega⟩ rfl hl.1 rfl (Nat.le_of_ble_eq_true rfl) dX13_readNot_250 (fun H locs hH => ?_)
                            refine lv_aload_n hx hb dX13_readNot_253 rfl (lv_at hl 1 rfl) ?_
                            obtain ⟨r_93, u_94, h_95, hF⟩ := pcl_some hF
                            cases r_93 with
                            | none =>
                              have hF := pot_none hF
                              exact (prt_no hF).elim
                            | some r_96 =>
                              have hF := pot_some hF
                              refine mcV_v (As := []) (rest := []) hC hH (m_readSum l G Z Q u_91 u_94 r_96  _ h_95) kwX13_readSum kVX13_readSum ⟨by show _ ≤ 12 * (d + 1) + 20; omega, by show _ ≤ 140 * (d + 1) + 400; omega⟩ rfl hl.1 rfl (Nat.le_of_ble_eq_true rfl) dX13_readNot_254 (fun H locs hH => ?_)
                              refine lv_aload_n hx hb dX13_readNot_257 rfl (lv_at hl 1 rfl) ?_
                              refine lv_iload_n hx hb dX13_readNot_258 rfl (lv_at hl 0 rfl) ?_
                              obtain ⟨r_97, u_98, h_99, hF⟩ := pcl_some hF
                              refine mcV_v (As := [.int 14]) (rest := []) hC hH (m_release l G Z Q u_94 u_98 r_97 14 _ h_99) kwX13_release kVX13_release ⟨by show _ ≤ 12 * (d + 1) + 20; omega, by show _ ≤ 140 * (d + 1) + 400; omega⟩ rfl hl.1 rfl (Nat.le_of_ble_eq_true rfl) dX13_readNot_259 (fun H locs hH => ?_)
                              have hF := prt_eqS hF
                              exact mr_v hC hH hr hF dX13_readNot_262 hlocks
                        · rw [if_pos c_85] at hF
                          refine lv_aload_n hx hb dX13_readNot_235 rfl (lv_at hl 1 rfl) ?_
                          refine lv_iconst (v := 1) hx hb dX13_readNot_236 (by decide) ?_
                          refine lv_aload_n hx hb dX13_readNot_237 rfl (lv_at hl 1 rfl) ?_
                          refine mg_44 hC hH dX13_readNot_238 ?_
                          obtain ⟨x_100, e_101, hF⟩ := prf_some hF
                          refine gx_ti e_101 ?_
                          obtain ⟨r_102, u_103, h_104, hF⟩ := pcl_some hF
                          refine mcV_r (As := [.int 1, .int x_100]) (rest := []) hC hH (m_wrong l G Z Q u_62 u_103 r_102 1 x_100 _ h_104) kwX13_wrong kVX13_wrong ⟨by show _ ≤ 12 * (d + 1) + 20; omega, by show _ ≤ 140 * (d + 1) + 400; omega⟩ rfl hl.1 rfl (Nat.le_of_ble_eq_true rfl) dX13_readNot_241 (fun H locs hH => ?_)
                          exact (prt_no hF).elim
                    · rw [if_neg c_60] at hF
                      refine lv_bipush (v := 13) hx hb dX13_readNot_208 (by decide) ?_
                      refine lv_goto (tgt := 229) hx hb dX13_readNot_210 (by decide) ?_
                      refine lv_istore_n (lv' := [(1, .int 13), (0, .ref (Q 72))]) hx hb dX13_readNot_229 rfl hl (by decide) rfl (fun ls hl => ?_)
                      refine lv_iload_n hx hb dX13_readNot_230 rfl (lv_at hl 0 rfl) ?_
                      refine lv_iconst (v := (-1)) hx hb dX13_readNot_231 (by decide) ?_
                      refine lv_icmp_ne (tgt := 245) hx hb dX13_readNot_232 (by decide) (fun c_105 => ?_) (fun c_105 => ?_)
                      · rw [if_neg c_105] at hF
                        refine lv_aload_n hx hb dX13_readNot_245 rfl (lv_at hl 1 rfl) ?_
                        obtain ⟨r_106, u_107, h_108, hF⟩ := pcl_some hF
                        cases r_106 with
                        | none =>
                          have hF := pot_none hF
                          exact (prt_no hF).elim
                        | some r_109 =>
                          have hF := pot_some hF
                          refine mcV_v (As := []) (rest := []) hC hH (m_hold l G Z Q u_58 u_107 r_109  _ h_108) kwX13_hold kVX13_hold ⟨by show _ ≤ 12 * (d + 1) + 20; omega, by show _ ≤ 140 * (d + 1) + 400; omega⟩ rfl hl.1 rfl (Nat.le_of_ble_eq_true rfl) dX13_readNot_246 (fun H locs hH => ?_)
                          refine lv_aload_n hx hb dX13_readNot_249 rfl (lv_at hl 1 rfl) ?_
                          obtain ⟨r_110, u_111, h_112, hF⟩ := pcl_some hF
                          refine mcV_v (As := []) (rest := []) hC hH (m_scan l G Z Q u_107 u_111 r_110  _ h_112) kwX13_scan kVX13_scan ⟨by show _ ≤ 12 * (d + 1) + 20; omega, by show _ ≤ 140 * (d + 1) + 400; omega⟩ rfl hl.1 rfl (Nat.le_of_ble_eq_true rfl) dX13_readNot_250 (fun H locs hH => ?_)
                          refine lv_aload_n hx hb dX13_readNot_253 rfl (lv_at hl 1 rfl) ?_
                          obtain ⟨r_113, u_114, h_115, hF⟩ := pcl_some hF
                          cases r_113 with
                          | none =>
                            have hF := pot_none hF
                            exact (prt_no hF).elim
                          | some r_116 =>
                            have hF := pot_some hF
                            refine mcV_v (As := []) (rest := []) hC hH (m_readSum l G Z Q u_111 u_114 r_116  _ h_115) kwX13_readSum kVX13_readSum ⟨by show _ ≤ 12 * (d + 1) + 20; omega, by show _ ≤ 140 * (d + 1) + 400; omega⟩ rfl hl.1 rfl (Nat.le_of_ble_eq_true rfl) dX13_readNot_254 (fun H locs hH => ?_)
                            refine lv_aload_n hx hb dX13_readNot_257 rfl (lv_at hl 1 rfl) ?_
                            refine lv_iload_n hx hb dX13_readNot_258 rfl (lv_at hl 0 rfl) ?_
                            obtain ⟨r_117, u_118, h_119, hF⟩ := pcl_some hF
                            refine mcV_v (As := [.int 13]) (rest := []) hC hH (m_release l G Z Q u_114 u_118 r_117 13 _ h_119) kwX13_release kVX13_release ⟨by show _ ≤ 12 * (d + 1) + 20; omega, by show _ ≤ 140 * (d + 1) + 400; omega⟩ rfl hl.1 rfl (Nat.le_of_ble_eq_true rfl) dX13_readNot_259 (fun H locs hH => ?_)
                            have hF := prt_eqS hF
                            exact mr_v hC hH hr hF dX13_readNot_262 hlocks
                      · rw [if_pos c_105] at hF
                        refine lv_aload_n hx hb dX13_readNot_235 rfl (lv_at hl 1 rfl) ?_
                        refine lv_iconst (v := 1) hx hb dX13_readNot_236 (by decide) ?_
                        refine lv_aload_n hx hb dX13_readNot_237 rfl (lv_at hl 1 rfl) ?_
                        refine mg_44 hC hH dX13_readNot_238 ?_
                        obtain ⟨x_120, e_121, hF⟩ := prf_some hF
                        refine gx_ti e_121 ?_
                        obtain ⟨r_122, u_123, h_124, hF⟩ := pcl_some hF
                        refine mcV_r (As := [.int 1, .int x_120]) (rest := []) hC hH (m_wrong l G Z Q u_58 u_123 r_122 1 x_120 _ h_124) kwX13_wrong kVX13_wrong ⟨by show _ ≤ 12 * (d + 1) + 20; omega, by show _ ≤ 140 * (d + 1) + 400; omega⟩ rfl hl.1 rfl (Nat.le_of_ble_eq_true rfl) dX13_readNot_241 (fun H locs hH => ?_)
                        exact (prt_no hF).elim
                  · rw [if_neg c_56] at hF
                    refine lv_bipush (v := 12) hx hb dX13_readNot_193 (by decide) ?_
                    refine lv_goto (tgt := 229) hx hb dX13_readNot_195 (by decide) ?_
                    refine lv_istore_n (lv' := [(1, .int 12), (0, .ref (Q 72))]) hx hb dX13_readNot_229 rfl hl (by decide) rfl (fun ls hl => ?_)
                    refine lv_iload_n hx hb dX13_readNot_230 rfl (lv_at hl 0 rfl) ?_
                    refine lv_iconst (v := (-1)) hx hb dX13_readNot_231 (by decide) ?_
                    refine lv_icmp_ne (tgt := 245) hx hb dX13_readNot_232 (by decide) (fun c_125 => ?_) (fun c_125 => ?_)
                    · rw [if_neg c_125] at hF
                      refine lv_aload_n hx hb dX13_readNot_245 rfl (lv_at hl 1 rfl) ?_
                      obtain ⟨r_126, u_127, h_128, hF⟩ := pcl_some hF
                      cases r_126 with
                      | none =>
                        have hF := pot_none hF
                        exact (prt_no hF).elim
                      | some r_129 =>
                        have hF := pot_some hF
                        refine mcV_v (As := []) (rest := []) hC hH (m_hold l G Z Q u_54 u_127 r_129  _ h_128) kwX13_hold kVX13_hold ⟨by show _ ≤ 12 * (d + 1) + 20; omega, by show _ ≤ 140 * (d + 1) + 400; omega⟩ rfl hl.1 rfl (Nat.le_of_ble_eq_true rfl) dX13_readNot_246 (fun H locs hH => ?_)
                        refine lv_aload_n hx hb dX13_readNot_249 rfl (lv_at hl 1 rfl) ?_
                        obtain ⟨r_130, u_131, h_132, hF⟩ := pcl_some hF
                        refine mcV_v (As := []) (rest := []) hC hH (m_scan l G Z Q u_127 u_131 r_130  _ h_132) kwX13_scan kVX13_scan ⟨by show _ ≤ 12 * (d + 1) + 20; omega, by show _ ≤ 140 * (d + 1) + 400; omega⟩ rfl hl.1 rfl (Nat.le_of_ble_eq_true rfl) dX13_readNot_250 (fun H locs hH => ?_)
                        refine lv_aload_n hx hb dX13_readNot_253 rfl (lv_at hl 1 rfl) ?_
                        obtain ⟨r_133, u_134, h_135, hF⟩ := pcl_some hF
                        cases r_133 with
                        | none =>
                          have hF := pot_none hF
                          exact (prt_no hF).elim
                        | some r_136 =>
                          have hF := pot_some hF
                          refine mcV_v (As := []) (rest := []) hC hH (m_readSum l G Z Q u_131 u_134 r_136  _ h_135) kwX13_readSum kVX13_readSum ⟨by show _ ≤ 12 * (d + 1) + 20; omega, by show _ ≤ 140 * (d + 1) + 400; omega⟩ rfl hl.1 rfl (Nat.le_of_ble_eq_true rfl) dX13_readNot_254 (fun H locs hH => ?_)
                          refine lv_aload_n hx hb dX13_readNot_257 rfl (lv_at hl 1 rfl) ?_
                          refine lv_iload_n hx hb dX13_readNot_258 rfl (lv_at hl 0 rfl) ?_
                          obtain ⟨r_137, u_138, h_139, hF⟩ := pcl_some hF
                          refine mcV_v (As := [.int 12]) (rest := []) hC hH (m_release l G Z Q u_134 u_138 r_137 12 _ h_139) kwX13_release kVX13_release ⟨by show _ ≤ 12 * (d + 1) + 20; omega, by show _ ≤ 140 * (d + 1) + 400; omega⟩ rfl hl.1 rfl (Nat.le_of_ble_eq_true rfl) dX13_readNot_259 (fun H locs hH => ?_)
                          have hF := prt_eqS hF
                          exact mr_v hC hH hr hF dX13_readNot_262 hlocks
                    · rw [if_pos c_125] at hF
                      refine lv_aload_n hx hb dX13_readNot_235 rfl (lv_at hl 1 rfl) ?_
                      refine lv_iconst (v := 1) hx hb dX13_readNot_236 (by decide) ?_
                      refine lv_aload_n hx hb dX13_readNot_237 rfl (lv_at hl 1 rfl) ?_
                      refine mg_44 hC hH dX13_readNot_238 ?_
                      obtain ⟨x_140, e_141, hF⟩ := prf_some hF
                      refine gx_ti e_141 ?_
                      obtain ⟨r_142, u_143, h_144, hF⟩ := pcl_some hF
                      refine mcV_r (As := [.int 1, .int x_140]) (rest := []) hC hH (m_wrong l G Z Q u_54 u_143 r_142 1 x_140 _ h_144) kwX13_wrong kVX13_wrong ⟨by show _ ≤ 12 * (d + 1) + 20; omega, by show _ ≤ 140 * (d + 1) + 400; omega⟩ rfl hl.1 rfl (Nat.le_of_ble_eq_true rfl) dX13_readNot_241 (fun H locs hH => ?_)
                      exact (prt_no hF).elim
                · rw [if_neg c_52] at hF
                  refine lv_bipush (v := 11) hx hb dX13_readNot_178 (by decide) ?_
                  refine lv_goto (tgt := 229) hx hb dX13_readNot_180 (by decide) ?_
                  refine lv_istore_n (lv' := [(1, .int 11), (0, .ref (Q 72))]) hx hb dX13_readNot_229 rfl hl (by decide) rfl (fun ls hl => ?_)
                  refine lv_iload_n hx hb dX13_readNot_230 rfl (lv_at hl 0 rfl) ?_
                  refine lv_iconst (v := (-1)) hx hb dX13_readNot_231 (by decide) ?_
                  refine lv_icmp_ne (tgt := 245) hx hb dX13_readNot_232 (by decide) (fun c_145 => ?_) (fun c_145 => ?_)
                  · rw [if_neg c_145] at hF
                    refine lv_aload_n hx hb dX13_readNot_245 rfl (lv_at hl 1 rfl) ?_
                    obtain ⟨r_146, u_147, h_148, hF⟩ := pcl_some hF
                    cases r_146 with
                    | none =>
                      have hF := pot_none hF
                      exact (prt_no hF).elim
                    | some r_149 =>
                      have hF := pot_some hF
                      refine mcV_v (As := []) (rest := []) hC hH (m_hold l G Z Q u_50 u_147 r_149  _ h_148) kwX13_hold kVX13_hold ⟨by show _ ≤ 12 * (d + 1) + 20; omega, by show _ ≤ 140 * (d + 1) + 400; omega⟩ rfl hl.1 rfl (Nat.le_of_ble_eq_true rfl) dX13_readNot_246 (fun H locs hH => ?_)
                      refine lv_aload_n hx hb dX13_readNot_249 rfl (lv_at hl 1 rfl) ?_
                      obtain ⟨r_150, u_151, h_152, hF⟩ := pcl_some hF
                      refine mcV_v (As := []) (rest := []) hC hH (m_scan l G Z Q u_147 u_151 r_150  _ h_152) kwX13_scan kVX13_scan ⟨by show _ ≤ 12 * (d + 1) + 20; omega, by show _ ≤ 140 * (d + 1) + 400; omega⟩ rfl hl.1 rfl (Nat.le_of_ble_eq_true rfl) dX13_readNot_250 (fun H locs hH => ?_)
                      refine lv_aload_n hx hb dX13_readNot_253 rfl (lv_at hl 1 rfl) ?_
                      obtain ⟨r_153, u_154, h_155, hF⟩ := pcl_some hF
                      cases r_153 with
                      | none =>
                        have hF := pot_none hF
                        exact (prt_no hF).elim
                      | some r_156 =>
                        have hF := pot_some hF
                        refine mcV_v (As := []) (rest := []) hC hH (m_readSum l G Z Q u_151 u_154 r_156  _ h_155) kwX13_readSum kVX13_readSum ⟨by show _ ≤ 12 * (d + 1) + 20; omega, by show _ ≤ 140 * (d + 1) + 400; omega⟩ rfl hl.1 rfl (Nat.le_of_ble_eq_true rfl) dX13_readNot_254 (fun H locs hH => ?_)
                        refine lv_aload_n hx hb dX13_readNot_257 rfl (lv_at hl 1 rfl) ?_
                        refine lv_iload_n hx hb dX13_readNot_258 rfl (lv_at hl 0 rfl) ?_
                        obtain ⟨r_157, u_158, h_159, hF⟩ := pcl_some hF
                        refine mcV_v (As := [.int 11]) (rest := []) hC hH (m_release l G Z Q u_154 u_158 r_157 11 _ h_159) kwX13_release kVX13_release ⟨by show _ ≤ 12 * (d + 1) + 20; omega, by show _ ≤ 140 * (d + 1) + 400; omega⟩ rfl hl.1 rfl (Nat.le_of_ble_eq_true rfl) dX13_readNot_259 (fun H locs hH => ?_)
                        have hF := prt_eqS hF
                        exact mr_v hC hH hr hF dX13_readNot_262 hlocks
                  · rw [if_pos c_145] at hF
                    refine lv_aload_n hx hb dX13_readNot_235 rfl (lv_at hl 1 rfl) ?_
                    refine lv_iconst (v := 1) hx hb dX13_readNot_236 (by decide) ?_
                    refine lv_aload_n hx hb dX13_readNot_237 rfl (lv_at hl 1 rfl) ?_
                    refine mg_44 hC hH dX13_readNot_238 ?_
                    obtain ⟨x_160, e_161, hF⟩ := prf_some hF
                    refine gx_ti e_161 ?_
                    obtain ⟨r_162, u_163, h_164, hF⟩ := pcl_some hF
                    refine mcV_r (As := [.int 1, .int x_160]) (rest := []) hC hH (m_wrong l G Z Q u_50 u_163 r_162 1 x_160 _ h_164) kwX13_wrong kVX13_wrong ⟨by show _ ≤ 12 * (d + 1) + 20; omega, by show _ ≤ 140 * (d + 1) + 400; omega⟩ rfl hl.1 rfl (Nat.le_of_ble_eq_true rfl) dX13_readNot_241 (fun H locs hH => ?_)
                    exact (prt_no hF).elim
              · rw [if_neg c_48] at hF
                refine lv_bipush (v := 10) hx hb dX13_readNot_163 (by decide) ?_
                refine lv_goto (tgt := 229) hx hb dX13_readNot_165 (by decide) ?_
                refine lv_istore_n (lv' := [(1, .int 10), (0, .ref (Q 72))]) hx hb dX13_readNot_229 rfl hl (by decide) rfl (fun ls hl => ?_)
                refine lv_iload_n hx hb dX13_readNot_230 rfl (lv_at hl 0 rfl) ?_
                refine lv_iconst (v := (-1)) hx hb dX13_readNot_231 (by decide) ?_
                refine lv_icmp_ne (tgt := 245) hx hb dX13_readNot_232 (by decide) (fun c_165 => ?_) (fun c_165 => ?_)
                · rw [if_neg c_165] at hF
                  refine lv_aload_n hx hb dX13_readNot_245 rfl (lv_at hl 1 rfl) ?_
                  obtain ⟨r_166, u_167, h_168, hF⟩ := pcl_some hF
                  cases r_166 with
                  | none =>
                    have hF := pot_none hF
                    exact (prt_no hF).elim
                  | some r_169 =>
                    have hF := pot_some hF
                    refine mcV_v (As := []) (rest := []) hC hH (m_hold l G Z Q u_46 u_167 r_169  _ h_168) kwX13_hold kVX13_hold ⟨by show _ ≤ 12 * (d + 1) + 20; omega, by show _ ≤ 140 * (d + 1) + 400; omega⟩ rfl hl.1 rfl (Nat.le_of_ble_eq_true rfl) dX13_readNot_246 (fun H locs hH => ?_)
                    refine lv_aload_n hx hb dX13_readNot_249 rfl (lv_at hl 1 rfl) ?_
                    obtain ⟨r_170, u_171, h_172, hF⟩ := pcl_some hF
                    refine mcV_v (As := []) (rest := []) hC hH (m_scan l G Z Q u_167 u_171 r_170  _ h_172) kwX13_scan kVX13_scan ⟨by show _ ≤ 12 * (d + 1) + 20; omega, by show _ ≤ 140 * (d + 1) + 400; omega⟩ rfl hl.1 rfl (Nat.le_of_ble_eq_true rfl) dX13_readNot_250 (fun H locs hH => ?_)
                    refine lv_aload_n hx hb dX13_readNot_253 rfl (lv_at hl 1 rfl) ?_
                    obtain ⟨r_173, u_174, h_175, hF⟩ := pcl_some hF
                    cases r_173 with
                    | none =>
                      have hF := pot_none hF
                      exact (prt_no hF).elim
                    | some r_176 =>
                      have hF := pot_some hF
                      refine mcV_v (As := []) (rest := []) hC hH (m_readSum l G Z Q u_171 u_174 r_176  _ h_175) kwX13_readSum kVX13_readSum ⟨by show _ ≤ 12 * (d + 1) + 20; omega, by show _ ≤ 140 * (d + 1) + 400; omega⟩ rfl hl.1 rfl (Nat.le_of_ble_eq_true rfl) dX13_readNot_254 (fun H locs hH => ?_)
                      refine lv_aload_n hx hb dX13_readNot_257 rfl (lv_at hl 1 rfl) ?_
                      refine lv_iload_n hx hb dX13_readNot_258 rfl (lv_at hl 0 rfl) ?_
                      obtain ⟨r_177, u_178, h_179, hF⟩ := pcl_some hF
                      refine mcV_v (As := [.int 10]) (rest := []) hC hH (m_release l G Z Q u_174 u_178 r_177 10 _ h_179) kwX13_release kVX13_release ⟨by show _ ≤ 12 * (d + 1) + 20; omega, by show _ ≤ 140 * (d + 1) + 400; omega⟩ rfl hl.1 rfl (Nat.le_of_ble_eq_true rfl) dX13_readNot_259 (fun H locs hH => ?_)
                      have hF := prt_eqS hF
                      exact mr_v hC hH hr hF dX13_readNot_262 hlocks
                · rw [if_pos c_165] at hF
                  refine lv_aload_n hx hb dX13_readNot_235 rfl (lv_at hl 1 rfl) ?_
                  refine lv_iconst (v := 1) hx hb dX13_readNot_236 (by decide) ?_
                  refine lv_aload_n hx hb dX13_readNot_237 rfl (lv_at hl 1 rfl) ?_
                  refine mg_44 hC hH dX13_readNot_238 ?_
                  obtain ⟨x_180, e_181, hF⟩ := prf_some hF
                  refine gx_ti e_181 ?_
                  obtain ⟨r_182, u_183, h_184, hF⟩ := pcl_some hF
                  refine mcV_r (As := [.int 1, .int x_180]) (rest := []) hC hH (m_wrong l G Z Q u_46 u_183 r_182 1 x_180 _ h_184) kwX13_wrong kVX13_wrong ⟨by show _ ≤ 12 * (d + 1) + 20; omega, by show _ ≤ 140 * (d + 1) + 400; omega⟩ rfl hl.1 rfl (Nat.le_of_ble_eq_true rfl) dX13_readNot_241 (fun H locs hH => ?_)
                  exact (prt_no hF).elim
            · rw [if_neg c_44] at hF
              refine lv_bipush (v := 9) hx hb dX13_readNot_148 (by decide) ?_
              refine lv_goto (tgt := 229) hx hb dX13_readNot_150 (by decide) ?_
              refine lv_istore_n (lv' := [(1, .int 9), (0, .ref (Q 72))]) hx hb dX13_readNot_229 rfl hl (by decide) rfl (fun ls hl => ?_)
              refine lv_iload_n hx hb dX13_readNot_230 rfl (lv_at hl 0 rfl) ?_
              refine lv_iconst (v := (-1)) hx hb dX13_readNot_231 (by decide) ?_
              refine lv_icmp_ne (tgt := 245) hx hb dX13_readNot_232 (by decide) (fun c_185 => ?_) (fun c_185 => ?_)
              · rw [if_neg c_185] at hF
                refine lv_aload_n hx hb dX13_readNot_245 rfl (lv_at hl 1 rfl) ?_
                obtain ⟨r_186, u_187, h_188, hF⟩ := pcl_some hF
                cases r_186 with
                | none =>
                  have hF := pot_none hF
                  exact (prt_no hF).elim
                | some r_189 =>
                  have hF := pot_some hF
                  refine mcV_v (As := []) (rest := []) hC hH (m_hold l G Z Q u_42 u_187 r_189  _ h_188) kwX13_hold kVX13_hold ⟨by show _ ≤ 12 * (d + 1) + 20; omega, by show _ ≤ 140 * (d + 1) + 400; omega⟩ rfl hl.1 rfl (Nat.le_of_ble_eq_true rfl) dX13_readNot_246 (fun H locs hH => ?_)
                  refine lv_aload_n hx hb dX13_readNot_249 rfl (lv_at hl 1 rfl) ?_
                  obtain ⟨r_190, u_191, h_192, hF⟩ := pcl_some hF
                  refine mcV_v (As := []) (rest := []) hC hH (m_scan l G Z Q u_187 u_191 r_190  _ h_192) kwX13_scan kVX13_scan ⟨by show _ ≤ 12 * (d + 1) + 20; omega, by show _ ≤ 140 * (d + 1) + 400; omega⟩ rfl hl.1 rfl (Nat.le_of_ble_eq_true rfl) dX13_readNot_250 (fun H locs hH => ?_)
                  refine lv_aload_n hx hb dX13_readNot_253 rfl (lv_at hl 1 rfl) ?_
                  obtain ⟨r_193, u_194, h_195, hF⟩ := pcl_some hF
                  cases r_193 with
                  | none =>
                    have hF := pot_none hF
                    exact (prt_no hF).elim
                  | some r_196 =>
                    have hF := pot_some hF
                    refine mcV_v (As := []) (rest := []) hC hH (m_readSum l G Z Q u_191 u_194 r_196  _ h_195) kwX13_readSum kVX13_readSum ⟨by show _ ≤ 12 * (d + 1) + 20; omega, by show _ ≤ 140 * (d + 1) + 400; omega⟩ rfl hl.1 rfl (Nat.le_of_ble_eq_true rfl) dX13_readNot_254 (fun H locs hH => ?_)
                    refine lv_aload_n hx hb dX13_readNot_257 rfl (lv_at hl 1 rfl) ?_
                    refine lv_iload_n hx hb dX13_readNot_258 rfl (lv_at hl 0 rfl) ?_
                    obtain ⟨r_197, u_198, h_199, hF⟩ := pcl_some hF
                    refine mcV_v (As := [.int 9]) (rest := []) hC hH (m_release l G Z Q u_194 u_198 r_197 9 _ h_199) kwX13_release kVX13_release ⟨by show _ ≤ 12 * (d + 1) + 20; omega, by show _ ≤ 140 * (d + 1) + 400; omega⟩ rfl hl.1 rfl (Nat.le_of_ble_eq_true rfl) dX13_readNot_259 (fun H locs hH => ?_)
                    have hF := prt_eqS hF
                    exact mr_v hC hH hr hF dX13_readNot_262 hlocks
              · rw [if_pos c_185] at hF
                refine lv_aload_n hx hb dX13_readNot_235 rfl (lv_at hl 1 rfl) ?_
                refine lv_iconst (v := 1) hx hb dX13_readNot_236 (by decide) ?_
                refine lv_aload_n hx hb dX13_readNot_237 rfl (lv_at hl 1 rfl) ?_
                refine mg_44 hC hH dX13_readNot_238 ?_
                obtain ⟨x_200, e_201, hF⟩ := prf_some hF
                refine gx_ti e_201 ?_
                obtain ⟨r_202, u_203, h_204, hF⟩ := pcl_some hF
                refine mcV_r (As := [.int 1, .int x_200]) (rest := []) hC hH (m_wrong l G Z Q u_42 u_203 r_202 1 x_200 _ h_204) kwX13_wrong kVX13_wrong ⟨by show _ ≤ 12 * (d + 1) + 20; omega, by show _ ≤ 140 * (d + 1) + 400; omega⟩ rfl hl.1 rfl (Nat.le_of_ble_eq_true rfl) dX13_readNot_241 (fun H locs hH => ?_)
                exact (prt_no hF).elim
        · rw [if_neg c_36] at hF
          refine lv_aload_n hx hb dX13_readNot_105 rfl (lv_at hl 0 rfl) ?_
          obtain ⟨r_205, u_206, h_207, hF⟩ := pcl_some hF
          cases r_205 with
          | none =>
            have hF := pot_none hF
            exact (prt_no hF).elim
          | some r_208 =>
            have hF := pot_some hF
            refine mcV_v (As := []) (rest := []) hC hH (m_counts l G Z Q u_34 u_206 r_208  _ h_207) kwX13_counts kVX13_counts ⟨by show _ ≤ 12 * (d + 1) + 20; omega, by show _ ≤ 140 * (d + 1) + 400; omega⟩ rfl hl.1 rfl (Nat.le_of_ble_eq_true rfl) dX13_readNot_106 (fun H locs hH => ?_)
            refine lv_aload_n hx hb dX13_readNot_109 rfl (lv_at hl 0 rfl) ?_
            refine lv_aload_n hx hb dX13_readNot_110 rfl (lv_at hl 0 rfl) ?_
            refine th_ldcw (tx := sTx 9) hx hb hC.2.2.2.1 (hC.2.2.2.2.2.2.2.2.1 9 (by decide)) dX13_readNot_111 ?_
            obtain ⟨r_209, u_210, h_211, hF⟩ := pcl_some hF
            refine mcV_i (As := [.ref (Z.1 9)]) (rest := [.ref (Q 72)]) hC hH (m_is l G Z Q u_206 u_210 r_209 9 _ h_211 (by decide)) kwX13_is kVX13_is ⟨by show _ ≤ 12 * (d + 1) + 20; omega, by show _ ≤ 140 * (d + 1) + 400; omega⟩ rfl hl.1 rfl (Nat.le_of_ble_eq_true rfl) dX13_readNot_114 (fun H locs hH => ?_)
            refine lv_if_eq (tgt := 124) hx hb dX13_readNot_117 (by decide) (fun c_212 => ?_) (fun c_212 => ?_)
            · rw [if_pos c_212] at hF
              refine lv_iconst (v := 5) hx hb dX13_readNot_124 (by decide) ?_
              refine lv_iconst (v := 0) hx hb dX13_readNot_125 (by decide) ?_
              obtain ⟨r_213, u_214, h_215, hF⟩ := pcl_some hF
              refine mcV_v (As := [.int 5, .int 0]) (rest := []) hC hH (m_put l G Z Q u_210 u_214 r_213 5 0 _ h_215) kwX13_put kVX13_put ⟨by show _ ≤ 12 * (d + 1) + 20; omega, by show _ ≤ 140 * (d + 1) + 400; omega⟩ rfl hl.1 rfl (Nat.le_of_ble_eq_true rfl) dX13_readNot_126 (fun H locs hH => ?_)
              refine lv_aload_n hx hb dX13_readNot_129 rfl (lv_at hl 0 rfl) ?_
              obtain ⟨r_216, u_217, h_218, hF⟩ := pcl_some hF
              refine mcV_v (As := []) (rest := []) hC hH (m_scan l G Z Q u_214 u_217 r_216  _ h_218) kwX13_scan kVX13_scan ⟨by show _ ≤ 12 * (d + 1) + 20; omega, by show _ ≤ 140 * (d + 1) + 400; omega⟩ rfl hl.1 rfl (Nat.le_of_ble_eq_true rfl) dX13_readNot_130 (fun H locs hH => ?_)
              have hF := prt_eqS hF
              exact mr_v hC hH hr hF dX13_readNot_133 hlocks
            · rw [if_neg c_212] at hF
              refine lv_iconst (v := 4) hx hb dX13_readNot_120 (by decide) ?_
              refine lv_goto (tgt := 125) hx hb dX13_readNot_121 (by decide) ?_
              refine lv_iconst (v := 0) hx hb dX13_readNot_125 (by decide) ?_
              obtain ⟨r_219, u_220, h_221, hF⟩ := pcl_some hF
              refine mcV_v (As := [.int 4, .int 0]) (rest := []) hC hH (m_put l G Z Q u_210 u_220 r_219 4 0 _ h_221) kwX13_put kVX13_put ⟨by show _ ≤ 12 * (d + 1) + 20; omega, by show _ ≤ 140 * (d + 1) + 400; omega⟩ rfl hl.1 rfl (Nat.le_of_ble_eq_true rfl) dX13_readNot_126 (fun H locs hH => ?_)
              refine lv_aload_n hx hb dX13_readNot_129 rfl (lv_at hl 0 rfl) ?_
              obtain ⟨r_222, u_223, h_224, hF⟩ := pcl_some hF
              refine mcV_v (As := []) (rest := []) hC hH (m_scan l G Z Q u_220 u_223 r_222  _ h_224) kwX13_scan kVX13_scan ⟨by show _ ≤ 12 * (d + 1) + 20; omega, by show _ ≤ 140 * (d + 1) + 400; omega⟩ rfl hl.1 rfl (Nat.le_of_ble_eq_true rfl) dX13_readNot_130 (fun H locs hH => ?_)
              have hF := prt_eqS hF
              exact mr_v hC hH hr hF dX13_readNot_133 hlocks
    · rw [if_neg c_8] at hF
      refine lv_aload_n hx hb dX13_readNot_59 rfl (lv_at hl 0 rfl) ?_
      obtain ⟨r_225, u_226, h_227, hF⟩ := pcl_some hF
      cases r_225 with
      | none =>
        have hF := pot_none hF
        exact (prt_no hF).elim
      | some r_228 =>
        have hF := pot_some hF
        refine mcV_v (As := []) (rest := []) hC hH (m_opens l G Z Q u_6 u_226 r_228  _ h_227) kwX13_opens kVX13_opens ⟨by show _ ≤ 12 * (d + 1) + 20; omega, by show _ ≤ 140 * (d + 1) + 400; omega⟩ rfl hl.1 rfl (Nat.le_of_ble_eq_true rfl) dX13_readNot_60 (fun H locs hH => ?_)
        refine lv_aload_n hx hb dX13_readNot_63 rfl (lv_at hl 0 rfl) ?_
        obtain ⟨r_229, u_230, h_231, hF⟩ := pcl_some hF
        cases r_229 with
        | none =>
          have hF := pot_none hF
          exact (prt_no hF).elim
        | some r_232 =>
          have hF := pot_some hF
          refine mcV_v (As := []) (rest := []) hC hH (hr_readOr u_226 u_230 r_232  _ h_231) kwX13_readOr kVX13_readOr ⟨by show _ ≤ 12 * (d + 1) + 20; omega, by show _ ≤ 140 * (d + 1) + 400; omega⟩ rfl hl.1 rfl (Nat.le_of_ble_eq_true rfl) dX13_readNot_64 (fun H locs hH => ?_)
          refine lv_aload_n hx hb dX13_readNot_67 rfl (lv_at hl 0 rfl) ?_
          refine th_ldcw (tx := sTx 16) hx hb hC.2.2.2.1 (hC.2.2.2.2.2.2.2.2.1 16 (by decide)) dX13_readNot_68 ?_
          obtain ⟨r_233, u_234, h_235, hF⟩ := pcl_some hF
          cases r_233 with
          | none =>
            have hF := pot_none hF
            exact (prt_no hF).elim
          | some r_236 =>
            have hF := pot_some hF
            refine mcV_v (As := [.ref (Z.1 16)]) (rest := []) hC hH (m_need l G Z Q u_230 u_234 r_236 16 _ h_235 (by decide)) kwX13_need kVX13_need ⟨by show _ ≤ 12 * (d + 1) + 20; omega, by show _ ≤ 140 * (d + 1) + 400; omega⟩ rfl hl.1 rfl (Nat.le_of_ble_eq_true rfl) dX13_readNot_71 (fun H locs hH => ?_)
            refine lv_aload_n hx hb dX13_readNot_74 rfl (lv_at hl 0 rfl) ?_
            refine lv_dup hx hb dX13_readNot_75 rfl ?_
            refine mg_48 hC hH dX13_readNot_76 ?_
            obtain ⟨x_237, e_238, hF⟩ := prf_some hF
            refine gx_ti e_238 ?_
            refine lv_iconst (v := 1) hx hb dX13_readNot_79 (by decide) ?_
            refine lv_isub hx hb dX13_readNot_80 ?_
            obtain ⟨u_239, e_240, hF⟩ := pwf_some hF
            refine mp_48 hC hH e_240 dX13_readNot_81 (fun H locs hH => ?_)
            have hF := prt_eqS hF
            exact mr_v hC hH hr hF dX13_readNot_84 hlocks
  · rw [if_neg c_4] at hF
    refine lv_aload_n hx hb dX13_readNot_10 rfl (lv_at hl 0 rfl) ?_
    obtain ⟨r_241, u_242, h_243, hF⟩ := pcl_some hF
    cases r_241 with
    | none =>
      have hF := pot_none hF
      exact (prt_no hF).elim
    | some r_244 =>
      have hF := pot_some hF
      refine mcV_v (As := []) (rest := []) hC hH (m_counts l G Z Q u_2 u_242 r_244  _ h_243) kwX13_counts kVX13_counts ⟨by show _ ≤ 12 * (d + 1) + 20; omega, by show _ ≤ 140 * (d + 1) + 400; omega⟩ rfl hl.1 rfl (Nat.le_of_ble_eq_true rfl) dX13_readNot_11 (fun H locs hH => ?_)
      refine lv_aload_n hx hb dX13_readNot_14 rfl (lv_at hl 0 rfl) ?_
      refine lv_dup hx hb dX13_readNot_15 rfl ?_
      refine mg_51 hC hH dX13_readNot_16 ?_
      obtain ⟨x_245, e_246, hF⟩ := prf_some hF
      refine gx_ti e_246 ?_
      refine lv_iconst (v := 1) hx hb dX13_readNot_19 (by decide) ?_
      refine lv_iadd hx hb dX13_readNot_20 ?_
      obtain ⟨u_247, e_248, hF⟩ := pwf_some hF
      refine mp_51 hC hH e_248 dX13_readNot_21 (fun H locs hH => ?_)
      refine lv_aload_n hx hb dX13_readNot_24 rfl (lv_at hl 0 rfl) ?_
      obtain ⟨r_249, u_250, h_251, hF⟩ := pcl_some hF
      cases r_249 with
      | none =>
        have hF := pot_none hF
        exact (prt_no hF).elim
      | some r_252 =>
        have hF := pot_some hF
        refine mcV_v (As := []) (rest := []) hC hH (m_opens l G Z Q u_247 u_250 r_252  _ h_251) kwX13_opens kVX13_opens ⟨by show _ ≤ 12 * (d + 1) + 20; omega, by show _ ≤ 140 * (d + 1) + 400; omega⟩ rfl hl.1 rfl (Nat.le_of_ble_eq_true rfl) dX13_readNot_25 (fun H locs hH => ?_)
        refine lv_aload_n hx hb dX13_readNot_28 rfl (lv_at hl 0 rfl) ?_
        obtain ⟨r_253, u_254, h_255, hF⟩ := pcl_some hF
        cases r_253 with
        | none =>
          have hF := pot_none hF
          exact (prt_no hF).elim
        | some r_256 =>
          have hF := pot_some hF
          refine mcV_v (As := []) (rest := []) hC hH (hr_readNot u_250 u_254 r_256  _ h_255) kwX13_readNot kVX13_readNot ⟨by show _ ≤ 12 * (d + 1) + 20; omega, by show _ ≤ 140 * (d + 1) + 400; omega⟩ rfl hl.1 rfl (Nat.le_of_ble_eq_true rfl) dX13_readNot_29 (fun H locs hH => ?_)
          refine lv_aload_n hx hb dX13_readNot_32 rfl (lv_at hl 0 rfl) ?_
          refine lv_dup hx hb dX13_readNot_33 rfl ?_
          refine mg_48 hC hH dX13_readNot_34 ?_
          obtain ⟨x_257, e_258, hF⟩ := prf_some hF
          refine gx_ti e_258 ?_
          refine lv_iconst (v := 1) hx hb dX13_readNot_37 (by decide) ?_
          refine lv_isub hx hb dX13_readNot_38 ?_
          obtain ⟨u_259, e_260, hF⟩ := pwf_some hF
          refine mp_48 hC hH e_260 dX13_readNot_39 (fun H locs hH => ?_)
          refine lv_aload_n hx hb dX13_readNot_42 rfl (lv_at hl 0 rfl) ?_
          refine lv_bipush (v := 6) hx hb dX13_readNot_43 (by decide) ?_
          obtain ⟨r_261, u_262, h_263, hF⟩ := pcl_some hF
          refine mcV_v (As := [.int 6]) (rest := []) hC hH (m_release l G Z Q u_259 u_262 r_261 6 _ h_263) kwX13_release kVX13_release ⟨by show _ ≤ 12 * (d + 1) + 20; omega, by show _ ≤ 140 * (d + 1) + 400; omega⟩ rfl hl.1 rfl (Nat.le_of_ble_eq_true rfl) dX13_readNot_45 (fun H locs hH => ?_)
          have hF := prt_eqS hF
          exact mr_v hC hH hr hF dX13_readNot_48 hlocks
set_option maxHeartbeats 4000000 in
set_option maxRecDepth 100000 in
theorem bt_readNot (l : Launch) (G : gG) (Z : gM) (Q : Nat → Nat) (d : Nat) (F : Nat → Int32 → Int32 → Int32 → Int32 → PG (Option Int32)) (hr_readOr : ∀ (u u1 : GS) (r : Int32) (sz : Nat), F 0 0 0 0 0 u = some (some r, u1) → Met l yX13_readOr (Cond.code yX13_readOr cX13_readOr 1 none :: wM) { frames := 12 * d + 20, cells := 0, slots := 0, locals := 140 * d + 400 } (va_Pc [.ref (Q 72)] (mPM G Z Q u.1 sz)) (mQv G Q u1.1 sz) 0 0 (mA Q sz)) (ht_readOr : ∀ (u u1 : GS) (sz : Nat), F 0 0 0 0 0 u = some (none, u1) → MetT l yX13_readOr (Cond.code yX13_readOr cX13_readOr 1 none :: wM) { frames := 12 * d + 20, cells := 0, slots := 0, locals := 140 * d + 400 } (va_Pc [.ref (Q 72)] (mPM G Z Q u.1 sz)) (mQt G Q u1.1 sz) 0 0 (mA Q sz)) (hr_readAnd : ∀ (u u1 : GS) (r : Int32) (sz : Nat), F 1 0 0 0 0 u = some (some r, u1) → Met l yX13_readAnd (Cond.code yX13_readAnd cX13_readAnd 1 none :: wM) { frames := 12 * d + 20, cells := 0, slots := 0, locals := 140 * d + 400 } (va_Pc [.ref (Q 72)] (mPM G Z Q u.1 sz)) (mQv G Q u1.1 sz) 0 0 (mA Q sz)) (ht_readAnd : ∀ (u u1 : GS) (sz : Nat), F 1 0 0 0 0 u = some (none, u1) → MetT l yX13_readAnd (Cond.code yX13_readAnd cX13_readAnd 1 none :: wM) { frames := 12 * d + 20, cells := 0, slots := 0, locals := 140 * d + 400 } (va_Pc [.ref (Q 72)] (mPM G Z Q u.1 sz)) (mQt G Q u1.1 sz) 0 0 (mA Q sz)) (hr_readNot : ∀ (u u1 : GS) (r : Int32) (sz : Nat), F 2 0 0 0 0 u = some (some r, u1) → Met l yX13_readNot (Cond.code yX13_readNot cX13_readNot 2 none :: wM) { frames := 12 * d + 20, cells := 0, slots := 0, locals := 140 * d + 400 } (va_Pc [.ref (Q 72)] (mPM G Z Q u.1 sz)) (mQv G Q u1.1 sz) 0 0 (mA Q sz)) (ht_readNot : ∀ (u u1 : GS) (sz : Nat), F 2 0 0 0 0 u = some (none, u1) → MetT l yX13_readNot (Cond.code yX13_readNot cX13_readNot 2 none :: wM) { frames := 12 * d + 20, cells := 0, slots := 0, locals := 140 * d + 400 } (va_Pc [.ref (Q 72)] (mPM G Z Q u.1 sz)) (mQt G Q u1.1 sz) 0 0 (mA Q sz)) (u u1 : GS)  (sz : Nat) (hF : bd_readNot F u = some (none, u1)) : MetT l yX13_readNot (Cond.code yX13_readNot cX13_readNot 2 none :: wM) { frames := 12 * (d + 1) + 20, cells := 0, slots := 0, locals := 140 * (d + 1) + 400 } (va_Pc [.ref (Q 72)] (mPM G Z Q u.1 sz)) (mQt G Q u1.1 sz) 0 0 (mA Q sz) := by
  refine MetT.ofW (cc := cX13_readNot) (maxL := 2) (ret := none) (by decide) rfl ?_
  intro p e s m args below meth c s₁ B hml hv
  obtain ⟨rfl, rfl, hP, hB, hD, hE⟩ := hv
  have hr := B.returns
  have hlocks := B.notSynchronized
  have hts := atoms_spec (ws := Cond.code yX13_readNot cX13_readNot 2 none :: wM) B.pre
  have hC : mX p c cX13_readNot 2 s m _ G Z Q := ⟨B.exec, B.bytes, hml, findClass_of_methodNamed B.named, fun w h => hts w (List.mem_cons_of_mem _ h), hB, hE⟩
  have hx := hC.1
  have hb := hC.2.1
  have hH : mH G Q u.1 s s.heap [] := ⟨hP, hD, va_S.rf⟩
  have hno : c.exceptionTable.isEmpty = true := BodyLoose.noHandlers B (hts _ List.mem_cons_self)
  have hl := lv_entry ([.ref (Q 72)]) (n := 2) (Nat.le_of_ble_eq_true rfl)
  rw [lg_entry_eq]
  generalize (lg_sl ([.ref (Q 72)]) ++ List.replicate (2 - (lg_sl ([.ref (Q 72)])).length) Slot.unset).toArray = ls at hl ⊢
  have hl : lv_has ls 2 [(0, .ref (Q 72))] := hl
  unfold bd_readNot at hF
  refine lv_aload_n hx hb dX13_readNot_0 rfl (lv_at hl 0 rfl) ?_
  refine th_ldcw (tx := sTx 8) hx hb hC.2.2.2.1 (hC.2.2.2.2.2.2.2.2.1 8 (by decide)) dX13_readNot_1 ?_
  obtain ⟨r_1, u_2, h_3, hF⟩ := pcl_some hF
  refine mcV_i (As := [.ref (Z.1 8)]) (rest := []) hC hH (m_is l G Z Q u u_2 r_1 8 _ h_3 (by decide)) kwX13_is kVX13_is ⟨by show _ ≤ 12 * (d + 1) + 20; omega, by show _ ≤ 140 * (d + 1) + 400; omega⟩ rfl hl.1 rfl (Nat.le_of_ble_eq_true rfl) dX13_readNot_4 (fun H locs hH => ?_)
  refine lv_if_eq (tgt := 49) hx hb dX13_readNot_7 (by decide) (fun c_4 => ?_) (fun c_4 => ?_)
  · rw [if_pos c_4] at hF
    refine lv_aload_n hx hb dX13_readNot_49 rfl (lv_at hl 0 rfl) ?_
    refine th_ldcw (tx := sTx 15) hx hb hC.2.2.2.1 (hC.2.2.2.2.2.2.2.2.1 15 (by decide)) dX13_readNot_50 ?_
    obtain ⟨r_5, u_6, h_7, hF⟩ := pcl_some hF
    refine mcV_i (As := [.ref (Z.1 15)]) (rest := []) hC hH (m_is l G Z Q u_2 u_6 r_5 15 _ h_7 (by decide)) kwX13_is kVX13_is ⟨by show _ ≤ 12 * (d + 1) + 20; omega, by show _ ≤ 140 * (d + 1) + 400; omega⟩ rfl hl.1 rfl (Nat.le_of_ble_eq_true rfl) dX13_readNot_53 (fun H locs hH => ?_)
    refine lv_if_eq (tgt := 85) hx hb dX13_readNot_56 (by decide) (fun c_8 => ?_) (fun c_8 => ?_)
    · rw [if_pos c_8] at hF
      refine lv_aload_n hx hb dX13_readNot_85 rfl (lv_at hl 0 rfl) ?_
      refine th_ldcw (tx := sTx 9) hx hb hC.2.2.2.1 (hC.2.2.2.2.2.2.2.2.1 9 (by decide)) dX13_readNot_86 ?_
      obtain ⟨r_9, u_10, h_11, hF⟩ := pcl_some hF
      refine mcV_i (As := [.ref (Z.1 9)]) (rest := []) hC hH (m_is l G Z Q u_6 u_10 r_9 9 _ h_11 (by decide)) kwX13_is kVX13_is ⟨by show _ ≤ 12 * (d + 1) + 20; omega, by show _ ≤ 140 * (d + 1) + 400; omega⟩ rfl hl.1 rfl (Nat.le_of_ble_eq_true rfl) dX13_readNot_89 (fun H locs hH => ?_)
      refine lv_if_ne (tgt := 105) hx hb dX13_readNot_92 (by decide) (fun c_12 => ?_) (fun c_12 => ?_)
      · rw [if_neg c_12] at hF
        refine lv_aload_n hx hb dX13_readNot_105 rfl (lv_at hl 0 rfl) ?_
        obtain ⟨r_13, u_14, h_15, hF⟩ := pcl_some hF
        cases r_13 with
        | none =>
          have hF := pot_none hF
          exact mt_pass hH (mt_run (As := []) (rest := []) hC hH (t_counts l G Z Q u_10 u_14  _ h_15) kwX13_counts kVX13_counts ⟨by show _ ≤ 12 * (d + 1) + 20; omega, by show _ ≤ 140 * (d + 1) + 400; omega⟩ rfl hl.1 rfl (Nat.le_of_ble_eq_true rfl) dX13_readNot_106) hno hlocks (prt_eqT hF)
        | some r_16 =>
          have hF := pot_some hF
          refine mcV_v (As := []) (rest := []) hC hH (m_counts l G Z Q u_10 u_14 r_16  _ h_15) kwX13_counts kVX13_counts ⟨by show _ ≤ 12 * (d + 1) + 20; omega, by show _ ≤ 140 * (d + 1) + 400; omega⟩ rfl hl.1 rfl (Nat.le_of_ble_eq_true rfl) dX13_readNot_106 (fun H locs hH => ?_)
          refine lv_aload_n hx hb dX13_readNot_109 rfl (lv_at hl 0 rfl) ?_
          refine lv_aload_n hx hb dX13_readNot_110 rfl (lv_at hl 0 rfl) ?_
          refine th_ldcw (tx := sTx 9) hx hb hC.2.2.2.1 (hC.2.2.2.2.2.2.2.2.1 9 (by decide)) dX13_readNot_111 ?_
          obtain ⟨r_17, u_18, h_19, hF⟩ := pcl_some hF
          refine mcV_i (As := [.ref (Z.1 9)]) (rest := [.ref (Q 72)]) hC hH (m_is l G Z Q u_14 u_18 r_17 9 _ h_19 (by decide)) kwX13_is kVX13_is ⟨by show _ ≤ 12 * (d + 1) + 20; omega, by show _ ≤ 140 * (d + 1) + 400; omega⟩ rfl hl.1 rfl (Nat.le_of_ble_eq_true rfl) dX13_readNot_114 (fun H locs hH => ?_)
          refine lv_if_eq (tgt := 124) hx hb dX13_readNot_117 (by decide) (fun c_20 => ?_) (fun c_20 => ?_)
          · rw [if_pos c_20] at hF
            refine lv_iconst (v := 5) hx hb dX13_readNot_124 (by decide) ?_
            refine lv_iconst (v := 0) hx hb dX13_readNot_125 (by decide) ?_
            obtain ⟨r_21, u_22, h_23, hF⟩ := pcl_some hF
            refine mcV_v (As := [.int 5, .int 0]) (rest := []) hC hH (m_put l G Z Q u_18 u_22 r_21 5 0 _ h_23) kwX13_put kVX13_put ⟨by show _ ≤ 12 * (d + 1) + 20; omega, by show _ ≤ 140 * (d + 1) + 400; omega⟩ rfl hl.1 rfl (Nat.le_of_ble_eq_true rfl) dX13_readNot_126 (fun H locs hH => ?_)
            refine lv_aload_n hx hb dX13_readNot_129 rfl (lv_at hl 0 rfl) ?_
            obtain ⟨r_24, u_25, h_26, hF⟩ := pcl_some hF
            refine mcV_v (As := []) (rest := []) hC hH (m_scan l G Z Q u_22 u_25 r_24  _ h_26) kwX13_scan kVX13_scan ⟨by show _ ≤ 12 * (d + 1) + 20; omega, by show _ ≤ 140 * (d + 1) + 400; omega⟩ rfl hl.1 rfl (Nat.le_of_ble_eq_true rfl) dX13_readNot_130 (fun H locs hH => ?_)
            exact (prt_no2 hF).elim
          · rw [if_neg c_20] at hF
            refine lv_iconst (v := 4) hx hb dX13_readNot_120 (by decide) ?_
            refine lv_goto (tgt := 125) hx hb dX13_readNot_121 (by decide) ?_
            refine lv_iconst (v := 0) hx hb dX13_readNot_125 (by decide) ?_
            obtain ⟨r_27, u_28, h_29, hF⟩ := pcl_some hF
            refine mcV_v (As := [.int 4, .int 0]) (rest := []) hC hH (m_put l G Z Q u_18 u_28 r_27 4 0 _ h_29) kwX13_put kVX13_put ⟨by show _ ≤ 12 * (d + 1) + 20; omega, by show _ ≤ 140 * (d + 1) + 400; omega⟩ rfl hl.1 rfl (Nat.le_of_ble_eq_true rfl) dX13_readNot_126 (fun H locs hH => ?_)
            refine lv_aload_n hx hb dX13_readNot_129 rfl (lv_at hl 0 rfl) ?_
            obtain ⟨r_30, u_31, h_32, hF⟩ := pcl_some hF
            refine mcV_v (As := []) (rest := []) hC hH (m_scan l G Z Q u_28 u_31 r_30  _ h_32) kwX13_scan kVX13_scan ⟨by show _ ≤ 12 * (d + 1) + 20; omega, by show _ ≤ 140 * (d + 1) + 400; omega⟩ rfl hl.1 rfl (Nat.le_of_ble_eq_true rfl) dX13_readNot_130 (fun H locs hH => ?_)
            exact (prt_no2 hF).elim
      · rw [if_pos c_12] at hF
        refine lv_aload_n hx hb dX13_readNot_95 rfl (lv_at hl 0 rfl) ?_
        refine th_ldcw (tx := sTx 10) hx hb hC.2.2.2.1 (hC.2.2.2.2.2.2.2.2.1 10 (by decide)) dX13_readNot_96 ?_
        obtain ⟨r_33, u_34, h_35, hF⟩ := pcl_some hF
        refine mcV_i (As := [.ref (Z.1 10)]) (rest := []) hC hH (m_is l G Z Q u_10 u_34 r_33 10 _ h_35 (by decide)) kwX13_is kVX13_is ⟨by show _ ≤ 12 * (d + 1) + 20; omega, by show _ ≤ 140 * (d + 1) + 400; omega⟩ rfl hl.1 rfl (Nat.le_of_ble_eq_true rfl) dX13_readNot_99 (fun H locs hH => ?_)
        refine lv_if_eq (tgt := 134) hx hb dX13_readNot_102 (by decide) (fun c_36 => ?_) (fun c_36 => ?_)
        · rw [if_pos c_36] at hF
          refine lv_aload_n hx hb dX13_readNot_134 rfl (lv_at hl 0 rfl) ?_
          obtain ⟨r_37, u_38, h_39, hF⟩ := pcl_some hF
          cases r_37 with
          | none =>
            have hF := pot_none hF
            exact mt_pass hH (mt_run (As := []) (rest := []) hC hH (t_readSum l G Z Q u_34 u_38  _ h_39) kwX13_readSum kVX13_readSum ⟨by show _ ≤ 12 * (d + 1) + 20; omega, by show _ ≤ 140 * (d + 1) + 400; omega⟩ rfl hl.1 rfl (Nat.le_of_ble_eq_true rfl) dX13_readNot_135) hno hlocks (prt_eqT hF)
          | some r_40 =>
            have hF := pot_some hF
            refine mcV_v (As := []) (rest := []) hC hH (m_readSum l G Z Q u_34 u_38 r_40  _ h_39) kwX13_readSum kVX13_readSum ⟨by show _ ≤ 12 * (d + 1) + 20; omega, by show _ ≤ 140 * (d + 1) + 400; omega⟩ rfl hl.1 rfl (Nat.le_of_ble_eq_true rfl) dX13_readNot_135 (fun H locs hH => ?_)
            refine lv_aload_n hx hb dX13_readNot_138 rfl (lv_at hl 0 rfl) ?_
            refine th_ldcw (tx := sTx 17) hx hb hC.2.2.2.1 (hC.2.2.2.2.2.2.2.2.1 17 (by decide)) dX13_readNot_139 ?_
            obtain ⟨r_41, u_42, h_43, hF⟩ := pcl_some hF
            refine mcV_i (As := [.ref (Z.1 17)]) (rest := []) hC hH (m_is l G Z Q u_38 u_42 r_41 17 _ h_43 (by decide)) kwX13_is kVX13_is ⟨by show _ ≤ 12 * (d + 1) + 20; omega, by show _ ≤ 140 * (d + 1) + 400; omega⟩ rfl hl.1 rfl (Nat.le_of_ble_eq_true rfl) dX13_readNot_142 (fun H locs hH => ?_)
            refine lv_if_eq (tgt := 153) hx hb dX13_readNot_145 (by decide) (fun c_44 => ?_) (fun c_44 => ?_)
            · rw [if_pos c_44] at hF
              refine lv_aload_n hx hb dX13_readNot_153 rfl (lv_at hl 0 rfl) ?_
              refine th_ldcw (tx := sTx 18) hx hb hC.2.2.2.1 (hC.2.2.2.2.2.2.2.2.1 18 (by decide)) dX13_readNot_154 ?_
              obtain ⟨r_45, u_46, h_47, hF⟩ := pcl_some hF
              refine mcV_i (As := [.ref (Z.1 18)]) (rest := []) hC hH (m_is l G Z Q u_42 u_46 r_45 18 _ h_47 (by decide)) kwX13_is kVX13_is ⟨by show _ ≤ 12 * (d + 1) + 20; omega, by show _ ≤ 140 * (d + 1) + 400; omega⟩ rfl hl.1 rfl (Nat.le_of_ble_eq_true rfl) dX13_readNot_157 (fun H locs hH => ?_)
              refine lv_if_eq (tgt := 168) hx hb dX13_readNot_160 (by decide) (fun c_48 => ?_) (fun c_48 => ?_)
              · rw [if_pos c_48] at hF
                refine lv_aload_n hx hb dX13_readNot_168 rfl (lv_at hl 0 rfl) ?_
                refine th_ldcw (tx := sTx 19) hx hb hC.2.2.2.1 (hC.2.2.2.2.2.2.2.2.1 19 (by decide)) dX13_readNot_169 ?_
                obtain ⟨r_49, u_50, h_51, hF⟩ := pcl_some hF
                refine mcV_i (As := [.ref (Z.1 19)]) (rest := []) hC hH (m_is l G Z Q u_46 u_50 r_49 19 _ h_51 (by decide)) kwX13_is kVX13_is ⟨by show _ ≤ 12 * (d + 1) + 20; omega, by show _ ≤ 140 * (d + 1) + 400; omega⟩ rfl hl.1 rfl (Nat.le_of_ble_eq_true rfl) dX13_readNot_172 (fun H locs hH => ?_)
                refine lv_if_eq (tgt := 183) hx hb dX13_readNot_175 (by decide) (fun c_52 => ?_) (fun c_52 => ?_)
                · rw [if_pos c_52] at hF
                  refine lv_aload_n hx hb dX13_readNot_183 rfl (lv_at hl 0 rfl) ?_
                  refine th_ldcw (tx := sTx 20) hx hb hC.2.2.2.1 (hC.2.2.2.2.2.2.2.2.1 20 (by decide)) dX13_readNot_184 ?_
                  obtain ⟨r_53, u_54, h_55, hF⟩ := pcl_some hF
                  refine mcV_i (As := [.ref (Z.1 20)]) (rest := []) hC hH (m_is l G Z Q u_50 u_54 r_53 20 _ h_55 (by decide)) kwX13_is kVX13_is ⟨by show _ ≤ 12 * (d + 1) + 20; omega, by show _ ≤ 140 * (d + 1) + 400; omega⟩ rfl hl.1 rfl (Nat.le_of_ble_eq_true rfl) dX13_readNot_187 (fun H locs hH => ?_)
                  refine lv_if_eq (tgt := 198) hx hb dX13_readNot_190 (by decide) (fun c_56 => ?_) (fun c_56 => ?_)
                  · rw [if_pos c_56] at hF
                    refine lv_aload_n hx hb dX13_readNot_198 rfl (lv_at hl 0 rfl) ?_
                    refine th_ldcw (tx := sTx 21) hx hb hC.2.2.2.1 (hC.2.2.2.2.2.2.2.2.1 21 (by decide)) dX13_readNot_199 ?_
                    obtain ⟨r_57, u_58, h_59, hF⟩ := pcl_some hF
                    refine mcV_i (As := [.ref (Z.1 21)]) (rest := []) hC hH (m_is l G Z Q u_54 u_58 r_57 21 _ h_59 (by decide)) kwX13_is kVX13_is ⟨by show _ ≤ 12 * (d + 1) + 20; omega, by show _ ≤ 140 * (d + 1) + 400; omega⟩ rfl hl.1 rfl (Nat.le_of_ble_eq_true rfl) dX13_readNot_202 (fun H locs hH => ?_)
                    refine lv_if_eq (tgt := 213) hx hb dX13_readNot_205 (by decide) (fun c_60 => ?_) (fun c_60 => ?_)
                    · rw [if_pos c_60] at hF
                      refine lv_aload_n hx hb dX13_readNot_213 rfl (lv_at hl 0 rfl) ?_
                      refine th_ldcw (tx := sTx 22) hx hb hC.2.2.2.1 (hC.2.2.2.2.2.2.2.2.1 22 (by decide)) dX13_readNot_214 ?_
                      obtain ⟨r_61, u_62, h_63, hF⟩ := pcl_some hF
                      refine mcV_i (As := [.ref (Z.1 22)]) (rest := []) hC hH (m_is l G Z Q u_58 u_62 r_61 22 _ h_63 (by decide)) kwX13_is kVX13_is ⟨by show _ ≤ 12 * (d + 1) + 20; omega, by show _ ≤ 140 * (d + 1) + 400; omega⟩ rfl hl.1 rfl (Nat.le_of_ble_eq_true rfl) dX13_readNot_217 (fun H locs hH => ?_)
                      refine lv_if_eq (tgt := 228) hx hb dX13_readNot_220 (by decide) (fun c_64 => ?_) (fun c_64 => ?_)
                      · rw [if_pos c_64] at hF
                        refine lv_iconst (v := (-1)) hx hb dX13_readNot_228 (by decide) ?_
                        refine lv_istore_n (lv' := [(1, .int (-1)), (0, .ref (Q 72))]) hx hb dX13_readNot_229 rfl hl (by decide) rfl (fun ls hl => ?_)
                        refine lv_iload_n hx hb dX13_readNot_230 rfl (lv_at hl 0 rfl) ?_
                        refine lv_iconst (v := (-1)) hx hb dX13_readNot_231 (by decide) ?_
                        refine lv_icmp_ne (tgt := 245) hx hb dX13_readNot_232 (by decide) (fun c_65 => ?_) (fun c_65 => ?_)
                        · rw [if_neg c_65] at hF
                          refine lv_aload_n hx hb dX13_readNot_245 rfl (lv_at hl 1 rfl) ?_
                          obtain ⟨r_66, u_67, h_68, hF⟩ := pcl_some hF
                          cases r_66 with
                          | none =>
                            have hF := pot_none hF
                            exact mt_pass hH (mt_run (As := []) (rest := []) hC hH (t_hold l G Z Q u_62 u_67  _ h_68) kwX13_hold kVX13_hold ⟨by show _ ≤ 12 * (d + 1) + 20; omega, by show _ ≤ 140 * (d + 1) + 400; omega⟩ rfl hl.1 rfl (Nat.le_of_ble_eq_true rfl) dX13_readNot_246) hno hlocks (prt_eqT hF)
                          | some r_69 =>
                            have hF := pot_some hF
                            refine mcV_v (As := []) (rest := []) hC hH (m_hold l G Z Q u_62 u_67 r_69  _ h_68) kwX13_hold kVX13_hold ⟨by show _ ≤ 12 * (d + 1) + 20; omega, by show _ ≤ 140 * (d + 1) + 400; omega⟩ rfl hl.1 rfl (Nat.le_of_ble_eq_true rfl) dX13_readNot_246 (fun H locs hH => ?_)
                            refine lv_aload_n hx hb dX13_readNot_249 rfl (lv_at hl 1 rfl) ?_
                            obtain ⟨r_70, u_71, h_72, hF⟩ := pcl_some hF
                            refine mcV_v (As := []) (rest := []) hC hH (m_scan l G Z Q u_67 u_71 r_70  _ h_72) kwX13_scan kVX13_scan ⟨by show _ ≤ 12 * (d + 1) + 20; omega, by show _ ≤ 140 * (d + 1) + 400; omega⟩ rfl hl.1 rfl (Nat.le_of_ble_eq_true rfl) dX13_readNot_250 (fun H locs hH => ?_)
                            refine lv_aload_n hx hb dX13_readNot_253 rfl (lv_at hl 1 rfl) ?_
                            obtain ⟨r_73, u_74, h_75, hF⟩ := pcl_some hF
                            cases r_73 with
                            | none =>
                              have hF := pot_none hF
                              exact mt_pass hH (mt_run (As := []) (rest := []) hC hH (t_readSum l G Z Q u_71 u_74  _ h_75) kwX13_readSum kVX13_readSum ⟨by show _ ≤ 12 * (d + 1) + 20; omega, by show _ ≤ 140 * (d + 1) + 400; omega⟩ rfl hl.1 rfl (Nat.le_of_ble_eq_true rfl) dX13_readNot_254) hno hlocks (prt_eqT hF)
                            | some r_76 =>
                              have hF := pot_some hF
                              refine mcV_v (As := []) (rest := []) hC hH (m_readSum l G Z Q u_71 u_74 r_76  _ h_75) kwX13_readSum kVX13_readSum ⟨by show _ ≤ 12 * (d + 1) + 20; omega, by show _ ≤ 140 * (d + 1) + 400; omega⟩ rfl hl.1 rfl (Nat.le_of_ble_eq_true rfl) dX13_readNot_254 (fun H locs hH => ?_)
                              refine lv_aload_n hx hb dX13_readNot_257 rfl (lv_at hl 1 rfl) ?_
                              refine lv_iload_n hx hb dX13_readNot_258 rfl (lv_at hl 0 rfl) ?_
                              obtain ⟨r_77, u_78, h_79, hF⟩ := pcl_some hF
                              refine mcV_v (As := [.int (-1)]) (rest := []) hC hH (m_release l G Z Q u_74 u_78 r_77 (-1) _ h_79) kwX13_release kVX13_release ⟨by show _ ≤ 12 * (d + 1) + 20; omega, by show _ ≤ 140 * (d + 1) + 400; omega⟩ rfl hl.1 rfl (Nat.le_of_ble_eq_true rfl) dX13_readNot_259 (fun H locs hH => ?_)
                              exact (prt_no2 hF).elim
                        · rw [if_pos c_65] at hF
                          refine lv_aload_n hx hb dX13_readNot_235 rfl (lv_at hl 1 rfl) ?_
                          refine lv_iconst (v := 1) hx hb dX13_readNot_236 (by decide) ?_
                          refine lv_aload_n hx hb dX13_readNot_237 rfl (lv_at hl 1 rfl) ?_
                          refine mg_44 hC hH dX13_readNot_238 ?_
                          obtain ⟨x_80, e_81, hF⟩ := prf_some hF
                          refine gx_ti e_81 ?_
                          obtain ⟨r_82, u_83, h_84, hF⟩ := pcl_some hF
                          refine mcV_r (As := [.int 1, .int x_80]) (rest := []) hC hH (m_wrong l G Z Q u_62 u_83 r_82 1 x_80 _ h_84) kwX13_wrong kVX13_wrong ⟨by show _ ≤ 12 * (d + 1) + 20; omega, by show _ ≤ 140 * (d + 1) + 400; omega⟩ rfl hl.1 rfl (Nat.le_of_ble_eq_true rfl) dX13_readNot_241 (fun H locs hH => ?_)
                          exact mt_throw hC hH hno (prt_eqT hF) dX13_readNot_244 hlocks
                      · rw [if_neg c_64] at hF
                        refine lv_bipush (v := 14) hx hb dX13_readNot_223 (by decide) ?_
                        refine lv_goto (tgt := 229) hx hb dX13_readNot_225 (by decide) ?_
                        refine lv_istore_n (lv' := [(1, .int 14), (0, .ref (Q 72))]) hx hb dX13_readNot_229 rfl hl (by decide) rfl (fun ls hl => ?_)
                        refine lv_iload_n hx hb dX13_readNot_230 rfl (lv_at hl 0 rfl) ?_
                        refine lv_iconst (v := (-1)) hx hb dX13_readNot_231 (by decide) ?_
                        refine lv_icmp_ne (tgt := 245) hx hb dX13_readNot_232 (by decide) (fun c_85 => ?_) (fun c_85 => ?_)
                        · rw [if_neg c_85] at hF
                          refine lv_aload_n hx hb dX13_readNot_245 rfl (lv_at hl 1 rfl) ?_
                          obtain ⟨r_86, u_87, h_88, hF⟩ := pcl_some hF
                          cases r_86 with
                          | none =>
                            have hF := pot_none hF
                            exact mt_pass hH (mt_run (As := []) (rest := []) hC hH (t_hold l G Z Q u_62 u_87  _ h_88) kwX13_hold kVX13_hold ⟨by show _ ≤ 12 * (d + 1) + 20; omega, by show _ ≤ 140 * (d + 1) + 400; omega⟩ rfl hl.1 rfl (Nat.le_of_ble_eq_true rfl) dX13_readNot_246) hno hlocks (prt_eqT hF)
                          | some r_89 =>
                            have hF := pot_some hF
                            refine mcV_v (As := []) (rest := []) hC hH (m_hold l G Z Q u_62 u_87 r_89  _ h_88) kwX13_hold kVX13_hold ⟨by show _ ≤ 12 * (d + 1) + 20; omega, by show _ ≤ 140 * (d + 1) + 400; omega⟩ rfl hl.1 rfl (Nat.le_of_ble_eq_true rfl) dX13_readNot_246 (fun H locs hH => ?_)
                            refine lv_aload_n hx hb dX13_readNot_249 rfl (lv_at hl 1 rfl) ?_
                            obtain ⟨r_90, u_91, h_92, hF⟩ := pcl_some hF
                            refine mcV_v (As := []) (rest := []) hC hH (m_scan l G Z Q u_87 u_91 r_90  _ h_92) kwX13_scan kVX13_scan ⟨by show _ ≤ 12 * (d + 1) + 20; omega, by show _ ≤ 140 * (d + 1) + 400; omega⟩ rfl hl.1 rfl (Nat.le_of_ble_eq_true rfl) dX13_readNot_250 (fun H locs hH => ?_)
                            refine lv_aload_n hx hb dX13_readNot_253 rfl (lv_at hl 1 rfl) ?_
                            obtain ⟨r_93, u_94, h_95, hF⟩ := pcl_some hF
                            cases r_93 with
                            | none =>
                              have hF := pot_none hF
                              exact mt_pass hH (mt_run (As := []) (rest := []) hC hH (t_readSum l G Z Q u_91 u_94  _ h_95) kwX13_readSum kVX13_readSum ⟨by show _ ≤ 12 * (d + 1) + 20; omega, by show _ ≤ 140 * (d + 1) + 400; omega⟩ rfl hl.1 rfl (Nat.le_of_ble_eq_true rfl) dX13_readNot_254) hno hlocks (prt_eqT hF)
                            | some r_96 =>
                              have hF := pot_some hF
                              refine mcV_v (As := []) (rest := []) hC hH (m_readSum l G Z Q u_91 u_94 r_96  _ h_95) kwX13_readSum kVX13_readSum ⟨by show _ ≤ 12 * (d + 1) + 20; omega, by show _ ≤ 140 * (d + 1) + 400; omega⟩ rfl hl.1 rfl (Nat.le_of_ble_eq_true rfl) dX13_readNot_254 (fun H locs hH => ?_)
                              refine lv_aload_n hx hb dX13_readNot_257 rfl (lv_at hl 1 rfl) ?_
                              refine lv_iload_n hx hb dX13_readNot_258 rfl (lv_at hl 0 rfl) ?_
                              obtain ⟨r_97, u_98, h_99, hF⟩ := pcl_some hF
                              refine mcV_v (As := [.int 14]) (rest := []) hC hH (m_release l G Z Q u_94 u_98 r_97 14 _ h_99) kwX13_release kVX13_release ⟨by show _ ≤ 12 * (d + 1) + 20; omega, by show _ ≤ 140 * (d + 1) + 400; omega⟩ rfl hl.1 rfl (Nat.le_of_ble_eq_true rfl) dX13_readNot_259 (fun H locs hH => ?_)
                              exact (prt_no2 hF).elim
                        · rw [if_pos c_85] at hF
                          refine lv_aload_n hx hb dX13_readNot_235 rfl (lv_at hl 1 rfl) ?_
                          refine lv_iconst (v := 1) hx hb dX13_readNot_236 (by decide) ?_
                          refine lv_aload_n hx hb dX13_readNot_237 rfl (lv_at hl 1 rfl) ?_
                          refine mg_44 hC hH dX13_readNot_238 ?_
                          obtain ⟨x_100, e_101, hF⟩ := prf_some hF
                          refine gx_ti e_101 ?_
                          obtain ⟨r_102, u_103, h_104, hF⟩ := pcl_some hF
                          refine mcV_r (As := [.int 1, .int x_100]) (rest := []) hC hH (m_wrong l G Z Q u_62 u_103 r_102 1 x_100 _ h_104) kwX13_wrong kVX13_wrong ⟨by show _ ≤ 12 * (d + 1) + 20; omega, by show _ ≤ 140 * (d + 1) + 400; omega⟩ rfl hl.1 rfl (Nat.le_of_ble_eq_true rfl) dX13_readNot_241 (fun H locs hH => ?_)
                          exact mt_throw hC hH hno (prt_eqT hF) dX13_readNot_244 hlocks
                    · rw [if_neg c_60] at hF
                      refine lv_bipush (v := 13) hx hb dX13_readNot_208 (by decide) ?_
                      refine lv_goto (tgt := 229) hx hb dX13_readNot_210 (by decide) ?_
                      refine lv_istore_n (lv' := [(1, .int 13), (0, .ref (Q 72))]) hx hb dX13_readNot_229 rfl hl (by decide) rfl (fun ls hl => ?_)
                      refine lv_iload_n hx hb dX13_readNot_230 rfl (lv_at hl 0 rfl) ?_
                      refine lv_iconst (v := (-1)) hx hb dX13_readNot_231 (by decide) ?_
                      refine lv_icmp_ne (tgt := 245) hx hb dX13_readNot_232 (by decide) (fun c_105 => ?_) (fun c_105 => ?_)
                      · rw [if_neg c_105] at hF
                        refine lv_aload_n hx hb dX13_readNot_245 rfl (lv_at hl 1 rfl) ?_
                        obtain ⟨r_106, u_107, h_108, hF⟩ := pcl_some hF
                        cases r_106 with
                        | none =>
                          have hF := pot_none hF
                          exact mt_pass hH (mt_run (As := []) (rest := []) hC hH (t_hold l G Z Q u_58 u_107  _ h_108) kwX13_hold kVX13_hold ⟨by show _ ≤ 12 * (d + 1) + 20; omega, by show _ ≤ 140 * (d + 1) + 400; omega⟩ rfl hl.1 rfl (Nat.le_of_ble_eq_true rfl) dX13_readNot_246) hno hlocks (prt_eqT hF)
                        | some r_109 =>
                          have hF := pot_some hF
                          refine mcV_v (As := []) (rest := []) hC hH (m_hold l G Z Q u_58 u_107 r_109  _ h_108) kwX13_hold kVX13_hold ⟨by show _ ≤ 12 * (d + 1) + 20; omega, by show _ ≤ 140 * (d + 1) + 400; omega⟩ rfl hl.1 rfl (Nat.le_of_ble_eq_true rfl) dX13_readNot_246 (fun H locs hH => ?_)
                          refine lv_aload_n hx hb dX13_readNot_249 rfl (lv_at hl 1 rfl) ?_
                          obtain ⟨r_110, u_111, h_112, hF⟩ := pcl_some hF
                          refine mcV_v (As := []) (rest := []) hC hH (m_scan l G Z Q u_107 u_111 r_110  _ h_112) kwX13_scan kVX13_scan ⟨by show _ ≤ 12 * (d + 1) + 20; omega, by show _ ≤ 140 * (d + 1) + 400; omega⟩ rfl hl.1 rfl (Nat.le_of_ble_eq_true rfl) dX13_readNot_250 (fun H locs hH => ?_)
                          refine lv_aload_n hx hb dX13_readNot_253 rfl (lv_at hl 1 rfl) ?_
                          obtain ⟨r_113, u_114, h_115, hF⟩ := pcl_some hF
                          cases r_113 with
                          | none =>
                            have hF := pot_none hF
                            exact mt_pass hH (mt_run (As := []) (rest := []) hC hH (t_readSum l G Z Q u_111 u_114  _ h_115) kwX13_readSum kVX13_readSum ⟨by show _ ≤ 12 * (d + 1) + 20; omega, by show _ ≤ 140 * (d + 1) + 400; omega⟩ rfl hl.1 rfl (Nat.le_of_ble_eq_true rfl) dX13_readNot_254) hno hlocks (prt_eqT hF)
                          | some r_116 =>
                            have hF := pot_some hF
                            refine mcV_v (As := []) (rest := []) hC hH (m_readSum l G Z Q u_111 u_114 r_116  _ h_115) kwX13_readSum kVX13_readSum ⟨by show _ ≤ 12 * (d + 1) + 20; omega, by show _ ≤ 140 * (d + 1) + 400; omega⟩ rfl hl.1 rfl (Nat.le_of_ble_eq_true rfl) dX13_readNot_254 (fun H locs hH => ?_)
                            refine lv_aload_n hx hb dX13_readNot_257 rfl (lv_at hl 1 rfl) ?_
                            refine lv_iload_n hx hb dX13_readNot_258 rfl (lv_at hl 0 rfl) ?_
                            obtain ⟨r_117, u_118, h_119, hF⟩ := pcl_some hF
                            refine mcV_v (As := [.int 13]) (rest := []) hC hH (m_release l G Z Q u_114 u_118 r_117 13 _ h_119) kwX13_release kVX13_release ⟨by show _ ≤ 12 * (d + 1) + 20; omega, by show _ ≤ 140 * (d + 1) + 400; omega⟩ rfl hl.1 rfl (Nat.le_of_ble_eq_true rfl) dX13_readNot_259 (fun H locs hH => ?_)
                            exact (prt_no2 hF).elim
                      · rw [if_pos c_105] at hF
                        refine lv_aload_n hx hb dX13_readNot_235 rfl (lv_at hl 1 rfl) ?_
                        refine lv_iconst (v := 1) hx hb dX13_readNot_236 (by decide) ?_
                        refine lv_aload_n hx hb dX13_readNot_237 rfl (lv_at hl 1 rfl) ?_
                        refine mg_44 hC hH dX13_readNot_238 ?_
                        obtain ⟨x_120, e_121, hF⟩ := prf_some hF
                        refine gx_ti e_121 ?_
                        obtain ⟨r_122, u_123, h_124, hF⟩ := pcl_some hF
                        refine mcV_r (As := [.int 1, .int x_120]) (rest := []) hC hH (m_wrong l G Z Q u_58 u_123 r_122 1 x_120 _ h_124) kwX13_wrong kVX13_wrong ⟨by show _ ≤ 12 * (d + 1) + 20; omega, by show _ ≤ 140 * (d + 1) + 400; omega⟩ rfl hl.1 rfl (Nat.le_of_ble_eq_true rfl) dX13_readNot_241 (fun H locs hH => ?_)
                        exact mt_throw hC hH hno (prt_eqT hF) dX13_readNot_244 hlocks
                  · rw [if_neg c_56] at hF
                    refine lv_bipush (v := 12) hx hb dX13_readNot_193 (by decide) ?_
                    refine lv_goto (tgt := 229) hx hb dX13_readNot_195 (by decide) ?_
                    refine lv_istore_n (lv' := [(1, .int 12), (0, .ref (Q 72))]) hx hb dX13_readNot_229 rfl hl (by decide) rfl (fun ls hl => ?_)
                    refine lv_iload_n hx hb dX13_readNot_230 rfl (lv_at hl 0 rfl) ?_
                    refine lv_iconst (v := (-1)) hx hb dX13_readNot_231 (by decide) ?_
                    refine lv_icmp_ne (tgt := 245) hx hb dX13_readNot_232 (by decide) (fun c_125 => ?_) (fun c_125 => ?_)
                    · rw [if_neg c_125] at hF
                      refine lv_aload_n hx hb dX13_readNot_245 rfl (lv_at hl 1 rfl) ?_
                      obtain ⟨r_126, u_127, h_128, hF⟩ := pcl_some hF
                      cases r_126 with
                      | none =>
                        have hF := pot_none hF
                        exact mt_pass hH (mt_run (As := []) (rest := []) hC hH (t_hold l G Z Q u_54 u_127  _ h_128) kwX13_hold kVX13_hold ⟨by show _ ≤ 12 * (d + 1) + 20; omega, by show _ ≤ 140 * (d + 1) + 400; omega⟩ rfl hl.1 rfl (Nat.le_of_ble_eq_true rfl) dX13_readNot_246) hno hlocks (prt_eqT hF)
                      | some r_129 =>
                        have hF := pot_some hF
                        refine mcV_v (As := []) (rest := []) hC hH (m_hold l G Z Q u_54 u_127 r_129  _ h_128) kwX13_hold kVX13_hold ⟨by show _ ≤ 12 * (d + 1) + 20; omega, by show _ ≤ 140 * (d + 1) + 400; omega⟩ rfl hl.1 rfl (Nat.le_of_ble_eq_true rfl) dX13_readNot_246 (fun H locs hH => ?_)
                        refine lv_aload_n hx hb dX13_readNot_249 rfl (lv_at hl 1 rfl) ?_
                        obtain ⟨r_130, u_131, h_132, hF⟩ := pcl_some hF
                        refine mcV_v (As := []) (rest := []) hC hH (m_scan l G Z Q u_127 u_131 r_130  _ h_132) kwX13_scan kVX13_scan ⟨by show _ ≤ 12 * (d + 1) + 20; omega, by show _ ≤ 140 * (d + 1) + 400; omega⟩ rfl hl.1 rfl (Nat.le_of_ble_eq_true rfl) dX13_readNot_250 (fun H locs hH => ?_)
                        refine lv_aload_n hx hb dX13_readNot_253 rfl (lv_at hl 1 rfl) ?_
                        obtain ⟨r_133, u_134, h_135, hF⟩ := pcl_some hF
                        cases r_133 with
                        | none =>
                          have hF := pot_none hF
                          exact mt_pass hH (mt_run (As := []) (rest := []) hC hH (t_readSum l G Z Q u_131 u_134  _ h_135) kwX13_readSum kVX13_readSum ⟨by show _ ≤ 12 * (d + 1) + 20; omega, by show _ ≤ 140 * (d + 1) + 400; omega⟩ rfl hl.1 rfl (Nat.le_of_ble_eq_true rfl) dX13_readNot_254) hno hlocks (prt_eqT hF)
                        | some r_136 =>
                          have hF := pot_some hF
                          refine mcV_v (As := []) (rest := []) hC hH (m_readSum l G Z Q u_131 u_134 r_136  _ h_135) kwX13_readSum kVX13_readSum ⟨by show _ ≤ 12 * (d + 1) + 20; omega, by show _ ≤ 140 * (d + 1) + 400; omega⟩ rfl hl.1 rfl (Nat.le_of_ble_eq_true rfl) dX13_readNot_254 (fun H locs hH => ?_)
                          refine lv_aload_n hx hb dX13_readNot_257 rfl (lv_at hl 1 rfl) ?_
                          refine lv_iload_n hx hb dX13_readNot_258 rfl (lv_at hl 0 rfl) ?_
                          obtain ⟨r_137, u_138, h_139, hF⟩ := pcl_some hF
                          refine mcV_v (As := [.int 12]) (rest := []) hC hH (m_release l G Z Q u_134 u_138 r_137 12 _ h_139) kwX13_release kVX13_release ⟨by show _ ≤ 12 * (d + 1) + 20; omega, by show _ ≤ 140 * (d + 1) + 400; omega⟩ rfl hl.1 rfl (Nat.le_of_ble_eq_true rfl) dX13_readNot_259 (fun H locs hH => ?_)
                          exact (prt_no2 hF).elim
                    · rw [if_pos c_125] at hF
                      refine lv_aload_n hx hb dX13_readNot_235 rfl (lv_at hl 1 rfl) ?_
                      refine lv_iconst (v := 1) hx hb dX13_readNot_236 (by decide) ?_
                      refine lv_aload_n hx hb dX13_readNot_237 rfl (lv_at hl 1 rfl) ?_
                      refine mg_44 hC hH dX13_readNot_238 ?_
                      obtain ⟨x_140, e_141, hF⟩ := prf_some hF
                      refine gx_ti e_141 ?_
                      obtain ⟨r_142, u_143, h_144, hF⟩ := pcl_some hF
                      refine mcV_r (As := [.int 1, .int x_140]) (rest := []) hC hH (m_wrong l G Z Q u_54 u_143 r_142 1 x_140 _ h_144) kwX13_wrong kVX13_wrong ⟨by show _ ≤ 12 * (d + 1) + 20; omega, by show _ ≤ 140 * (d + 1) + 400; omega⟩ rfl hl.1 rfl (Nat.le_of_ble_eq_true rfl) dX13_readNot_241 (fun H locs hH => ?_)
                      exact mt_throw hC hH hno (prt_eqT hF) dX13_readNot_244 hlocks
                · rw [if_neg c_52] at hF
                  refine lv_bipush (v := 11) hx hb dX13_readNot_178 (by decide) ?_
                  refine lv_goto (tgt := 229) hx hb dX13_readNot_180 (by decide) ?_
                  refine lv_istore_n (lv' := [(1, .int 11), (0, .ref (Q 72))]) hx hb dX13_readNot_229 rfl hl (by decide) rfl (fun ls hl => ?_)
                  refine lv_iload_n hx hb dX13_readNot_230 rfl (lv_at hl 0 rfl) ?_
                  refine lv_iconst (v := (-1)) hx hb dX13_readNot_231 (by decide) ?_
                  refine lv_icmp_ne (tgt := 245) hx hb dX13_readNot_232 (by decide) (fun c_145 => ?_) (fun c_145 => ?_)
                  · rw [if_neg c_145] at hF
                    refine lv_aload_n hx hb dX13_readNot_245 rfl (lv_at hl 1 rfl) ?_
                    obtain ⟨r_146, u_147, h_148, hF⟩ := pcl_some hF
                    cases r_146 with
                    | none =>
                      have hF := pot_none hF
                      exact mt_pass hH (mt_run (As := []) (rest := []) hC hH (t_hold l G Z Q u_50 u_147  _ h_148) kwX13_hold kVX13_hold ⟨by show _ ≤ 12 * (d + 1) + 20; omega, by show _ ≤ 140 * (d + 1) + 400; omega⟩ rfl hl.1 rfl (Nat.le_of_ble_eq_true rfl) dX13_readNot_246) hno hlocks (prt_eqT hF)
                    | some r_149 =>
                      have hF := pot_some hF
                      refine mcV_v (As := []) (rest := []) hC hH (m_hold l G Z Q u_50 u_147 r_149  _ h_148) kwX13_hold kVX13_hold ⟨by show _ ≤ 12 * (d + 1) + 20; omega, by show _ ≤ 140 * (d + 1) + 400; omega⟩ rfl hl.1 rfl (Nat.le_of_ble_eq_true rfl) dX13_readNot_246 (fun H locs hH => ?_)
                      refine lv_aload_n hx hb dX13_readNot_249 rfl (lv_at hl 1 rfl) ?_
                      obtain ⟨r_150, u_151, h_152, hF⟩ := pcl_some hF
                      refine mcV_v (As := []) (rest := []) hC hH (m_scan l G Z Q u_147 u_151 r_150  _ h_152) kwX13_scan kVX13_scan ⟨by show _ ≤ 12 * (d + 1) + 20; omega, by show _ ≤ 140 * (d + 1) + 400; omega⟩ rfl hl.1 rfl (Nat.le_of_ble_eq_true rfl) dX13_readNot_250 (fun H locs hH => ?_)
                      refine lv_aload_n hx hb dX13_readNot_253 rfl (lv_at hl 1 rfl) ?_
                      obtain ⟨r_153, u_154, h_155, hF⟩ := pcl_some hF
                      cases r_153 with
                      | none =>
                        have hF := pot_none hF
                        exact mt_pass hH (mt_run (As := []) (rest := []) hC hH (t_readSum l G Z Q u_151 u_154  _ h_155) kwX13_readSum kVX13_readSum ⟨by show _ ≤ 12 * (d + 1) + 20; omega, by show _ ≤ 140 * (d + 1) + 400; omega⟩ rfl hl.1 rfl (Nat.le_of_ble_eq_true rfl) dX13_readNot_254) hno hlocks (prt_eqT hF)
                      | some r_156 =>
                        have hF := pot_some hF
                        refine mcV_v (As := []) (rest := []) hC hH (m_readSum l G Z Q u_151 u_154 r_156  _ h_155) kwX13_readSum kVX13_readSum ⟨by show _ ≤ 12 * (d + 1) + 20; omega, by show _ ≤ 140 * (d + 1) + 400; omega⟩ rfl hl.1 rfl (Nat.le_of_ble_eq_true rfl) dX13_readNot_254 (fun H locs hH => ?_)
                        refine lv_aload_n hx hb dX13_readNot_257 rfl (lv_at hl 1 rfl) ?_
                        refine lv_iload_n hx hb dX13_readNot_258 rfl (lv_at hl 0 rfl) ?_
                        obtain ⟨r_157, u_158, h_159, hF⟩ := pcl_some hF
                        refine mcV_v (As := [.int 11]) (rest := []) hC hH (m_release l G Z Q u_154 u_158 r_157 11 _ h_159) kwX13_release kVX13_release ⟨by show _ ≤ 12 * (d + 1) + 20; omega, by show _ ≤ 140 * (d + 1) + 400; omega⟩ rfl hl.1 rfl (Nat.le_of_ble_eq_true rfl) dX13_readNot_259 (fun H locs hH => ?_)
                        exact (prt_no2 hF).elim
                  · rw [if_pos c_145] at hF
                    refine lv_aload_n hx hb dX13_readNot_235 rfl (lv_at hl 1 rfl) ?_
                    refine lv_iconst (v := 1) hx hb dX13_readNot_236 (by decide) ?_
                    refine lv_aload_n hx hb dX13_readNot_237 rfl (lv_at hl 1 rfl) ?_
                    refine mg_44 hC hH dX13_readNot_238 ?_
                    obtain ⟨x_160, e_161, hF⟩ := prf_some hF
                    refine gx_ti e_161 ?_
                    obtain ⟨r_162, u_163, h_164, hF⟩ := pcl_some hF
                    refine mcV_r (As := [.int 1, .int x_160]) (rest := []) hC hH (m_wrong l G Z Q u_50 u_163 r_162 1 x_160 _ h_164) kwX13_wrong kVX13_wrong ⟨by show _ ≤ 12 * (d + 1) + 20; omega, by show _ ≤ 140 * (d + 1) + 400; omega⟩ rfl hl.1 rfl (Nat.le_of_ble_eq_true rfl) dX13_readNot_241 (fun H locs hH => ?_)
                    exact mt_throw hC hH hno (prt_eqT hF) dX13_readNot_244 hlocks
              · rw [if_neg c_48] at hF
                refine lv_bipush (v := 10) hx hb dX13_readNot_163 (by decide) ?_
                refine lv_goto (tgt := 229) hx hb dX13_readNot_165 (by decide) ?_
                refine lv_istore_n (lv' := [(1, .int 10), (0, .ref (Q 72))]) hx hb dX13_readNot_229 rfl hl (by decide) rfl (fun ls hl => ?_)
                refine lv_iload_n hx hb dX13_readNot_230 rfl (lv_at hl 0 rfl) ?_
                refine lv_iconst (v := (-1)) hx hb dX13_readNot_231 (by decide) ?_
                refine lv_icmp_ne (tgt := 245) hx hb dX13_readNot_232 (by decide) (fun c_165 => ?_) (fun c_165 => ?_)
                · rw [if_neg c_165] at hF
                  refine lv_aload_n hx hb dX13_readNot_245 rfl (lv_at hl 1 rfl) ?_
                  obtain ⟨r_166, u_167, h_168, hF⟩ := pcl_some hF
                  cases r_166 with
                  | none =>
                    have hF := pot_none hF
                    exact mt_pass hH (mt_run (As := []) (rest := []) hC hH (t_hold l G Z Q u_46 u_167  _ h_168) kwX13_hold kVX13_hold ⟨by show _ ≤ 12 * (d + 1) + 20; omega, by show _ ≤ 140 * (d + 1) + 400; omega⟩ rfl hl.1 rfl (Nat.le_of_ble_eq_true rfl) dX13_readNot_246) hno hlocks (prt_eqT hF)
                  | some r_169 =>
                    have hF := pot_some hF
                    refine mcV_v (As := []) (rest := []) hC hH (m_hold l G Z Q u_46 u_167 r_169  _ h_168) kwX13_hold kVX13_hold ⟨by show _ ≤ 12 * (d + 1) + 20; omega, by show _ ≤ 140 * (d + 1) + 400; omega⟩ rfl hl.1 rfl (Nat.le_of_ble_eq_true rfl) dX13_readNot_246 (fun H locs hH => ?_)
                    refine lv_aload_n hx hb dX13_readNot_249 rfl (lv_at hl 1 rfl) ?_
                    obtain ⟨r_170, u_171, h_172, hF⟩ := pcl_some hF
                    refine mcV_v (As := []) (rest := []) hC hH (m_scan l G Z Q u_167 u_171 r_170  _ h_172) kwX13_scan kVX13_scan ⟨by show _ ≤ 12 * (d + 1) + 20; omega, by show _ ≤ 140 * (d + 1) + 400; omega⟩ rfl hl.1 rfl (Nat.le_of_ble_eq_true rfl) dX13_readNot_250 (fun H locs hH => ?_)
                    refine lv_aload_n hx hb dX13_readNot_253 rfl (lv_at hl 1 rfl) ?_
                    obtain ⟨r_173, u_174, h_175, hF⟩ := pcl_some hF
                    cases r_173 with
                    | none =>
                      have hF := pot_none hF
                      exact mt_pass hH (mt_run (As := []) (rest := []) hC hH (t_readSum l G Z Q u_171 u_174  _ h_175) kwX13_readSum kVX13_readSum ⟨by show _ ≤ 12 * (d + 1) + 20; omega, by show _ ≤ 140 * (d + 1) + 400; omega⟩ rfl hl.1 rfl (Nat.le_of_ble_eq_true rfl) dX13_readNot_254) hno hlocks (prt_eqT hF)
                    | some r_176 =>
                      have hF := pot_some hF
                      refine mcV_v (As := []) (rest := []) hC hH (m_readSum l G Z Q u_171 u_174 r_176  _ h_175) kwX13_readSum kVX13_readSum ⟨by show _ ≤ 12 * (d + 1) + 20; omega, by show _ ≤ 140 * (d + 1) + 400; omega⟩ rfl hl.1 rfl (Nat.le_of_ble_eq_true rfl) dX13_readNot_254 (fun H locs hH => ?_)
                      refine lv_aload_n hx hb dX13_readNot_257 rfl (lv_at hl 1 rfl) ?_
                      refine lv_iload_n hx hb dX13_readNot_258 rfl (lv_at hl 0 rfl) ?_
                      obtain ⟨r_177, u_178, h_179, hF⟩ := pcl_some hF
                      refine mcV_v (As := [.int 10]) (rest := []) hC hH (m_release l G Z Q u_174 u_178 r_177 10 _ h_179) kwX13_release kVX13_release ⟨by show _ ≤ 12 * (d + 1) + 20; omega, by show _ ≤ 140 * (d + 1) + 400; omega⟩ rfl hl.1 rfl (Nat.le_of_ble_eq_true rfl) dX13_readNot_259 (fun H locs hH => ?_)
                      exact (prt_no2 hF).elim
                · rw [if_pos c_165] at hF
                  refine lv_aload_n hx hb dX13_readNot_235 rfl (lv_at hl 1 rfl) ?_
                  refine lv_iconst (v := 1) hx hb dX13_readNot_236 (by decide) ?_
                  refine lv_aload_n hx hb dX13_readNot_237 rfl (lv_at hl 1 rfl) ?_
                  refine mg_44 hC hH dX13_readNot_238 ?_
                  obtain ⟨x_180, e_181, hF⟩ := prf_some hF
                  refine gx_ti e_181 ?_
                  obtain ⟨r_182, u_183, h_184, hF⟩ := pcl_some hF
                  refine mcV_r (As := [.int 1, .int x_180]) (rest := []) hC hH (m_wrong l G Z Q u_46 u_183 r_182 1 x_180 _ h_184) kwX13_wrong kVX13_wrong ⟨by show _ ≤ 12 * (d + 1) + 20; omega, by show _ ≤ 140 * (d + 1) + 400; omega⟩ rfl hl.1 rfl (Nat.le_of_ble_eq_true rfl) dX13_readNot_241 (fun H locs hH => ?_)
                  exact mt_throw hC hH hno (prt_eqT hF) dX13_readNot_244 hlocks
            · rw [if_neg c_44] at hF
              refine lv_bipush (v := 9) hx hb dX13_readNot_148 (by decide) ?_
              refine lv_goto (tgt := 229) hx hb dX13_readNot_150 (by decide) ?_
              refine lv_istore_n (lv' := [(1, .int 9), (0, .ref (Q 72))]) hx hb dX13_readNot_229 rfl hl (by decide) rfl (fun ls hl => ?_)
              refine lv_iload_n hx hb dX13_readNot_230 rfl (lv_at hl 0 rfl) ?_
              refine lv_iconst (v := (-1)) hx hb dX13_readNot_231 (by decide) ?_
              refine lv_icmp_ne (tgt := 245) hx hb dX13_readNot_232 (by decide) (fun c_185 => ?_) (fun c_185 => ?_)
              · rw [if_neg c_185] at hF
                refine lv_aload_n hx hb dX13_readNot_245 rfl (lv_at hl 1 rfl) ?_
                obtain ⟨r_186, u_187, h_188, hF⟩ := pcl_some hF
                cases r_186 with
                | none =>
                  have hF := pot_none hF
                  exact mt_pass hH (mt_run (As := []) (rest := []) hC hH (t_hold l G Z Q u_42 u_187  _ h_188) kwX13_hold kVX13_hold ⟨by show _ ≤ 12 * (d + 1) + 20; omega, by show _ ≤ 140 * (d + 1) + 400; omega⟩ rfl hl.1 rfl (Nat.le_of_ble_eq_true rfl) dX13_readNot_246) hno hlocks (prt_eqT hF)
                | some r_189 =>
                  have hF := pot_some hF
                  refine mcV_v (As := []) (rest := []) hC hH (m_hold l G Z Q u_42 u_187 r_189  _ h_188) kwX13_hold kVX13_hold ⟨by show _ ≤ 12 * (d + 1) + 20; omega, by show _ ≤ 140 * (d + 1) + 400; omega⟩ rfl hl.1 rfl (Nat.le_of_ble_eq_true rfl) dX13_readNot_246 (fun H locs hH => ?_)
                  refine lv_aload_n hx hb dX13_readNot_249 rfl (lv_at hl 1 rfl) ?_
                  obtain ⟨r_190, u_191, h_192, hF⟩ := pcl_some hF
                  refine mcV_v (As := []) (rest := []) hC hH (m_scan l G Z Q u_187 u_191 r_190  _ h_192) kwX13_scan kVX13_scan ⟨by show _ ≤ 12 * (d + 1) + 20; omega, by show _ ≤ 140 * (d + 1) + 400; omega⟩ rfl hl.1 rfl (Nat.le_of_ble_eq_true rfl) dX13_readNot_250 (fun H locs hH => ?_)
                  refine lv_aload_n hx hb dX13_readNot_253 rfl (lv_at hl 1 rfl) ?_
                  obtain ⟨r_193, u_194, h_195, hF⟩ := pcl_some hF
                  cases r_193 with
                  | none =>
                    have hF := pot_none hF
                    exact mt_pass hH (mt_run (As := []) (rest := []) hC hH (t_readSum l G Z Q u_191 u_194  _ h_195) kwX13_readSum kVX13_readSum ⟨by show _ ≤ 12 * (d + 1) + 20; omega, by show _ ≤ 140 * (d + 1) + 400; omega⟩ rfl hl.1 rfl (Nat.le_of_ble_eq_true rfl) dX13_readNot_254) hno hlocks (prt_eqT hF)
                  | some r_196 =>
                    have hF := pot_some hF
                    refine mcV_v (As := []) (rest := []) hC hH (m_readSum l G Z Q u_191 u_194 r_196  _ h_195) kwX13_readSum kVX13_readSum ⟨by show _ ≤ 12 * (d + 1) + 20; omega, by show _ ≤ 140 * (d + 1) + 400; omega⟩ rfl hl.1 rfl (Nat.le_of_ble_eq_true rfl) dX13_readNot_254 (fun H locs hH => ?_)
                    refine lv_aload_n hx hb dX13_readNot_257 rfl (lv_at hl 1 rfl) ?_
                    refine lv_iload_n hx hb dX13_readNot_258 rfl (lv_at hl 0 rfl) ?_
                    obtain ⟨r_197, u_198, h_199, hF⟩ := pcl_some hF
                    refine mcV_v (As := [.int 9]) (rest := []) hC hH (m_release l G Z Q u_194 u_198 r_197 9 _ h_199) kwX13_release kVX13_release ⟨by show _ ≤ 12 * (d + 1) + 20; omega, by show _ ≤ 140 * (d + 1) + 400; omega⟩ rfl hl.1 rfl (Nat.le_of_ble_eq_true rfl) dX13_readNot_259 (fun H locs hH => ?_)
                    exact (prt_no2 hF).elim
              · rw [if_pos c_185] at hF
                refine lv_aload_n hx hb dX13_readNot_235 rfl (lv_at hl 1 rfl) ?_
                refine lv_iconst (v := 1) hx hb dX13_readNot_236 (by decide) ?_
                refine lv_aload_n hx hb dX13_readNot_237 rfl (lv_at hl 1 rfl) ?_
                refine mg_44 hC hH dX13_readNot_238 ?_
                obtain ⟨x_200, e_201, hF⟩ := prf_some hF
                refine gx_ti e_201 ?_
                obtain ⟨r_202, u_203, h_204, hF⟩ := pcl_some hF
                refine mcV_r (As := [.int 1, .int x_200]) (rest := []) hC hH (m_wrong l G Z Q u_42 u_203 r_202 1 x_200 _ h_204) kwX13_wrong kVX13_wrong ⟨by show _ ≤ 12 * (d + 1) + 20; omega, by show _ ≤ 140 * (d + 1) + 400; omega⟩ rfl hl.1 rfl (Nat.le_of_ble_eq_true rfl) dX13_readNot_241 (fun H locs hH => ?_)
                exact mt_throw hC hH hno (prt_eqT hF) dX13_readNot_244 hlocks
        · rw [if_neg c_36] at hF
          refine lv_aload_n hx hb dX13_readNot_105 rfl (lv_at hl 0 rfl) ?_
          obtain ⟨r_205, u_206, h_207, hF⟩ := pcl_some hF
          cases r_205 with
          | none =>
            have hF := pot_none hF
            exact mt_pass hH (mt_run (As := []) (rest := []) hC hH (t_counts l G Z Q u_34 u_206  _ h_207) kwX13_counts kVX13_counts ⟨by show _ ≤ 12 * (d + 1) + 20; omega, by show _ ≤ 140 * (d + 1) + 400; omega⟩ rfl hl.1 rfl (Nat.le_of_ble_eq_true rfl) dX13_readNot_106) hno hlocks (prt_eqT hF)
          | some r_208 =>
            have hF := pot_some hF
            refine mcV_v (As := []) (rest := []) hC hH (m_counts l G Z Q u_34 u_206 r_208  _ h_207) kwX13_counts kVX13_counts ⟨by show _ ≤ 12 * (d + 1) + 20; omega, by show _ ≤ 140 * (d + 1) + 400; omega⟩ rfl hl.1 rfl (Nat.le_of_ble_eq_true rfl) dX13_readNot_106 (fun H locs hH => ?_)
            refine lv_aload_n hx hb dX13_readNot_109 rfl (lv_at hl 0 rfl) ?_
            refine lv_aload_n hx hb dX13_readNot_110 rfl (lv_at hl 0 rfl) ?_
            refine th_ldcw (tx := sTx 9) hx hb hC.2.2.2.1 (hC.2.2.2.2.2.2.2.2.1 9 (by decide)) dX13_readNot_111 ?_
            obtain ⟨r_209, u_210, h_211, hF⟩ := pcl_some hF
            refine mcV_i (As := [.ref (Z.1 9)]) (rest := [.ref (Q 72)]) hC hH (m_is l G Z Q u_206 u_210 r_209 9 _ h_211 (by decide)) kwX13_is kVX13_is ⟨by show _ ≤ 12 * (d + 1) + 20; omega, by show _ ≤ 140 * (d + 1) + 400; omega⟩ rfl hl.1 rfl (Nat.le_of_ble_eq_true rfl) dX13_readNot_114 (fun H locs hH => ?_)
            refine lv_if_eq (tgt := 124) hx hb dX13_readNot_117 (by decide) (fun c_212 => ?_) (fun c_212 => ?_)
            · rw [if_pos c_212] at hF
              refine lv_iconst (v := 5) hx hb dX13_readNot_124 (by decide) ?_
              refine lv_iconst (v := 0) hx hb dX13_readNot_125 (by decide) ?_
              obtain ⟨r_213, u_214, h_215, hF⟩ := pcl_some hF
              refine mcV_v (As := [.int 5, .int 0]) (rest := []) hC hH (m_put l G Z Q u_210 u_214 r_213 5 0 _ h_215) kwX13_put kVX13_put ⟨by show _ ≤ 12 * (d + 1) + 20; omega, by show _ ≤ 140 * (d + 1) + 400; omega⟩ rfl hl.1 rfl (Nat.le_of_ble_eq_true rfl) dX13_readNot_126 (fun H locs hH => ?_)
              refine lv_aload_n hx hb dX13_readNot_129 rfl (lv_at hl 0 rfl) ?_
              obtain ⟨r_216, u_217, h_218, hF⟩ := pcl_some hF
              refine mcV_v (As := []) (rest := []) hC hH (m_scan l G Z Q u_214 u_217 r_216  _ h_218) kwX13_scan kVX13_scan ⟨by show _ ≤ 12 * (d + 1) + 20; omega, by show _ ≤ 140 * (d + 1) + 400; omega⟩ rfl hl.1 rfl (Nat.le_of_ble_eq_true rfl) dX13_readNot_130 (fun H locs hH => ?_)
              exact (prt_no2 hF).elim
            · rw [if_neg c_212] at hF
              refine lv_iconst (v := 4) hx hb dX13_readNot_120 (by decide) ?_
              refine lv_goto (tgt := 125) hx hb dX13_readNot_121 (by decide) ?_
              refine lv_iconst (v := 0) hx hb dX13_readNot_125 (by decide) ?_
              obtain ⟨r_219, u_220, h_221, hF⟩ := pcl_some hF
              refine mcV_v (As := [.int 4, .int 0]) (rest := []) hC hH (m_put l G Z Q u_210 u_220 r_219 4 0 _ h_221) kwX13_put kVX13_put ⟨by show _ ≤ 12 * (d + 1) + 20; omega, by show _ ≤ 140 * (d + 1) + 400; omega⟩ rfl hl.1 rfl (Nat.le_of_ble_eq_true rfl) dX13_readNot_126 (fun H locs hH => ?_)
              refine lv_aload_n hx hb dX13_readNot_129 rfl (lv_at hl 0 rfl) ?_
              obtain ⟨r_222, u_223, h_224, hF⟩ := pcl_some hF
              refine mcV_v (As := []) (rest := []) hC hH (m_scan l G Z Q u_220 u_223 r_222  _ h_224) kwX13_scan kVX13_scan ⟨by show _ ≤ 12 * (d + 1) + 20; omega, by show _ ≤ 140 * (d + 1) + 400; omega⟩ rfl hl.1 rfl (Nat.le_of_ble_eq_true rfl) dX13_readNot_130 (fun H locs hH => ?_)
              exact (prt_no2 hF).elim
    · rw [if_neg c_8] at hF
      refine lv_aload_n hx hb dX13_readNot_59 rfl (lv_at hl 0 rfl) ?_
      obtain ⟨r_225, u_226, h_227, hF⟩ := pcl_some hF
      cases r_225 with
      | none =>
        have hF := pot_none hF
        exact mt_pass hH (mt_run (As := []) (rest := []) hC hH (t_opens l G Z Q u_6 u_226  _ h_227) kwX13_opens kVX13_opens ⟨by show _ ≤ 12 * (d + 1) + 20; omega, by show _ ≤ 140 * (d + 1) + 400; omega⟩ rfl hl.1 rfl (Nat.le_of_ble_eq_true rfl) dX13_readNot_60) hno hlocks (prt_eqT hF)
      | some r_228 =>
        have hF := pot_some hF
        refine mcV_v (As := []) (rest := []) hC hH (m_opens l G Z Q u_6 u_226 r_228  _ h_227) kwX13_opens kVX13_opens ⟨by show _ ≤ 12 * (d + 1) + 20; omega, by show _ ≤ 140 * (d + 1) + 400; omega⟩ rfl hl.1 rfl (Nat.le_of_ble_eq_true rfl) dX13_readNot_60 (fun H locs hH => ?_)
        refine lv_aload_n hx hb dX13_readNot_63 rfl (lv_at hl 0 rfl) ?_
        obtain ⟨r_229, u_230, h_231, hF⟩ := pcl_some hF
        cases r_229 with
        | none =>
          have hF := pot_none hF
          exact mt_pass hH (mt_run (As := []) (rest := []) hC hH (ht_readOr u_226 u_230  _ h_231) kwX13_readOr kVX13_readOr ⟨by show _ ≤ 12 * (d + 1) + 20; omega, by show _ ≤ 140 * (d + 1) + 400; omega⟩ rfl hl.1 rfl (Nat.le_of_ble_eq_true rfl) dX13_readNot_64) hno hlocks (prt_eqT hF)
        | some r_232 =>
          have hF := pot_some hF
          refine mcV_v (As := []) (rest := []) hC hH (hr_readOr u_226 u_230 r_232  _ h_231) kwX13_readOr kVX13_readOr ⟨by show _ ≤ 12 * (d + 1) + 20; omega, by show _ ≤ 140 * (d + 1) + 400; omega⟩ rfl hl.1 rfl (Nat.le_of_ble_eq_true rfl) dX13_readNot_64 (fun H locs hH => ?_)
          refine lv_aload_n hx hb dX13_readNot_67 rfl (lv_at hl 0 rfl) ?_
          refine th_ldcw (tx := sTx 16) hx hb hC.2.2.2.1 (hC.2.2.2.2.2.2.2.2.1 16 (by decide)) dX13_readNot_68 ?_
          obtain ⟨r_233, u_234, h_235, hF⟩ := pcl_some hF
          cases r_233 with
          | none =>
            have hF := pot_none hF
            exact mt_pass hH (mt_run (As := [.ref (Z.1 16)]) (rest := []) hC hH (t_need l G Z Q u_230 u_234 16 _ h_235 (by decide)) kwX13_need kVX13_need ⟨by show _ ≤ 12 * (d + 1) + 20; omega, by show _ ≤ 140 * (d + 1) + 400; omega⟩ rfl hl.1 rfl (Nat.le_of_ble_eq_true rfl) dX13_readNot_71) hno hlocks (prt_eqT hF)
          | some r_236 =>
            have hF := pot_some hF
            refine mcV_v (As := [.ref (Z.1 16)]) (rest := []) hC hH (m_need l G Z Q u_230 u_234 r_236 16 _ h_235 (by decide)) kwX13_need kVX13_need ⟨by show _ ≤ 12 * (d + 1) + 20; omega, by show _ ≤ 140 * (d + 1) + 400; omega⟩ rfl hl.1 rfl (Nat.le_of_ble_eq_true rfl) dX13_readNot_71 (fun H locs hH => ?_)
            refine lv_aload_n hx hb dX13_readNot_74 rfl (lv_at hl 0 rfl) ?_
            refine lv_dup hx hb dX13_readNot_75 rfl ?_
            refine mg_48 hC hH dX13_readNot_76 ?_
            obtain ⟨x_237, e_238, hF⟩ := prf_some hF
            refine gx_ti e_238 ?_
            refine lv_iconst (v := 1) hx hb dX13_readNot_79 (by decide) ?_
            refine lv_isub hx hb dX13_readNot_80 ?_
            obtain ⟨u_239, e_240, hF⟩ := pwf_some hF
            refine mp_48 hC hH e_240 dX13_readNot_81 (fun H locs hH => ?_)
            exact (prt_no2 hF).elim
  · rw [if_neg c_4] at hF
    refine lv_aload_n hx hb dX13_readNot_10 rfl (lv_at hl 0 rfl) ?_
    obtain ⟨r_241, u_242, h_243, hF⟩ := pcl_some hF
    cases r_241 with
    | none =>
      have hF := pot_none hF
      exact mt_pass hH (mt_run (As := []) (rest := []) hC hH (t_counts l G Z Q u_2 u_242  _ h_243) kwX13_counts kVX13_counts ⟨by show _ ≤ 12 * (d + 1) + 20; omega, by show _ ≤ 140 * (d + 1) + 400; omega⟩ rfl hl.1 rfl (Nat.le_of_ble_eq_true rfl) dX13_readNot_11) hno hlocks (prt_eqT hF)
    | some r_244 =>
      have hF := pot_some hF
      refine mcV_v (As := []) (rest := []) hC hH (m_counts l G Z Q u_2 u_242 r_244  _ h_243) kwX13_counts kVX13_counts ⟨by show _ ≤ 12 * (d + 1) + 20; omega, by show _ ≤ 140 * (d + 1) + 400; omega⟩ rfl hl.1 rfl (Nat.le_of_ble_eq_true rfl) dX13_readNot_11 (fun H locs hH => ?_)
      refine lv_aload_n hx hb dX13_readNot_14 rfl (lv_at hl 0 rfl) ?_
      refine lv_dup hx hb dX13_readNot_15 rfl ?_
      refine mg_51 hC hH dX13_readNot_16 ?_
      obtain ⟨x_245, e_246, hF⟩ := prf_some hF
      refine gx_ti e_246 ?_
      refine lv_iconst (v := 1) hx hb dX13_readNot_19 (by decide) ?_
      refine lv_iadd hx hb dX13_readNot_20 ?_
      obtain ⟨u_247, e_248, hF⟩ := pwf_some hF
      refine mp_51 hC hH e_248 dX13_readNot_21 (fun H locs hH => ?_)
      refine lv_aload_n hx hb dX13_readNot_24 rfl (lv_at hl 0 rfl) ?_
      obtain ⟨r_249, u_250, h_251, hF⟩ := pcl_some hF
      cases r_249 with
      | none =>
        have hF := pot_none hF
        exact mt_pass hH (mt_run (As := []) (rest := []) hC hH (t_opens l G Z Q u_247 u_250  _ h_251) kwX13_opens kVX13_opens ⟨by show _ ≤ 12 * (d + 1) + 20; omega, by show _ ≤ 140 * (d + 1) + 400; omega⟩ rfl hl.1 rfl (Nat.le_of_ble_eq_true rfl) dX13_readNot_25) hno hlocks (prt_eqT hF)
      | some r_252 =>
        have hF := pot_some hF
        refine mcV_v (As := []) (rest := []) hC hH (m_opens l G Z Q u_247 u_250 r_252  _ h_251) kwX13_opens kVX13_opens ⟨by show _ ≤ 12 * (d + 1) + 20; omega, by show _ ≤ 140 * (d + 1) + 400; omega⟩ rfl hl.1 rfl (Nat.le_of_ble_eq_true rfl) dX13_readNot_25 (fun H locs hH => ?_)
        refine lv_aload_n hx hb dX13_readNot_28 rfl (lv_at hl 0 rfl) ?_
        obtain ⟨r_253, u_254, h_255, hF⟩ := pcl_some hF
        cases r_253 with
        | none =>
          have hF := pot_none hF
          exact mt_pass hH (mt_run (As := []) (rest := []) hC hH (ht_readNot u_250 u_254  _ h_255) kwX13_readNot kVX13_readNot ⟨by show _ ≤ 12 * (d + 1) + 20; omega, by show _ ≤ 140 * (d + 1) + 400; omega⟩ rfl hl.1 rfl (Nat.le_of_ble_eq_true rfl) dX13_readNot_29) hno hlocks (prt_eqT hF)
        | some r_256 =>
          have hF := pot_some hF
          refine mcV_v (As := []) (rest := []) hC hH (hr_readNot u_250 u_254 r_256  _ h_255) kwX13_readNot kVX13_readNot ⟨by show _ ≤ 12 * (d + 1) + 20; omega, by show _ ≤ 140 * (d + 1) + 400; omega⟩ rfl hl.1 rfl (Nat.le_of_ble_eq_true rfl) dX13_readNot_29 (fun H locs hH => ?_)
          refine lv_aload_n hx hb dX13_readNot_32 rfl (lv_at hl 0 rfl) ?_
          refine lv_dup hx hb dX13_readNot_33 rfl ?_
          refine mg_48 hC hH dX13_readNot_34 ?_
          obtain ⟨x_257, e_258, hF⟩ := prf_some hF
          refine gx_ti e_258 ?_
          refine lv_iconst (v := 1) hx hb dX13_readNot_37 (by decide) ?_
          refine lv_isub hx hb dX13_readNot_38 ?_
          obtain ⟨u_259, e_260, hF⟩ := pwf_some hF
          refine mp_48 hC hH e_260 dX13_readNot_39 (fun H locs hH => ?_)
          refine lv_aload_n hx hb dX13_readNot_42 rfl (lv_at hl 0 rfl) ?_
          refine lv_bipush (v := 6) hx hb dX13_readNot_43 (by decide) ?_
          obtain ⟨r_261, u_262, h_263, hF⟩ := pcl_some hF
          refine mcV_v (As := [.int 6]) (rest := []) hC hH (m_release l G Z Q u_259 u_262 r_261 6 _ h_263) kwX13_release kVX13_release ⟨by show _ ≤ 12 * (d + 1) + 20; omega, by show _ ≤ 140 * (d + 1) + 400; omega⟩ rfl hl.1 rfl (Nat.le_of_ble_eq_true rfl) dX13_readNot_45 (fun H locs hH => ?_)
          exact (prt_no2 hF).elim
def fP : Nat → Nat → Int32 → Int32 → Int32 → Int32 → PG (Option Int32)
  | 0, _, _, _, _, _ => fun _ => none
  | d + 1, w, a0, a1, a2, a3 => if w = 0 then bd_readOr (fP d) else if w = 1 then bd_readAnd (fP d) else bd_readNot (fP d)
theorem grpP (l : Launch) (G : gG) (Z : gM) (Q : Nat → Nat) : ∀ d : Nat, (∀ (u u1 : GS) (r : Int32) (sz : Nat), fP d 0 0 0 0 0 u = some (some r, u1) → Met l yX13_readOr (Cond.code yX13_readOr cX13_readOr 1 none :: wM) { frames := 12 * d + 20, cells := 0, slots := 0, locals := 140 * d + 400 } (va_Pc [.ref (Q 72)] (mPM G Z Q u.1 sz)) (mQv G Q u1.1 sz) 0 0 (mA Q sz)) ∧ (∀ (u u1 : GS) (sz : Nat), fP d 0 0 0 0 0 u = some (none, u1) → MetT l yX13_readOr (Cond.code yX13_readOr cX13_readOr 1 none :: wM) { frames := 12 * d + 20, cells := 0, slots := 0, locals := 140 * d + 400 } (va_Pc [.ref (Q 72)] (mPM G Z Q u.1 sz)) (mQt G Q u1.1 sz) 0 0 (mA Q sz)) ∧ (∀ (u u1 : GS) (r : Int32) (sz : Nat), fP d 1 0 0 0 0 u = some (some r, u1) → Met l yX13_readAnd (Cond.code yX13_readAnd cX13_readAnd 1 none :: wM) { frames := 12 * d + 20, cells := 0, slots := 0, locals := 140 * d + 400 } (va_Pc [.ref (Q 72)] (mPM G Z Q u.1 sz)) (mQv G Q u1.1 sz) 0 0 (mA Q sz)) ∧ (∀ (u u1 : GS) (sz : Nat), fP d 1 0 0 0 0 u = some (none, u1) → MetT l yX13_readAnd (Cond.code yX13_readAnd cX13_readAnd 1 none :: wM) { frames := 12 * d + 20, cells := 0, slots := 0, locals := 140 * d + 400 } (va_Pc [.ref (Q 72)] (mPM G Z Q u.1 sz)) (mQt G Q u1.1 sz) 0 0 (mA Q sz)) ∧ (∀ (u u1 : GS) (r : Int32) (sz : Nat), fP d 2 0 0 0 0 u = some (some r, u1) → Met l yX13_readNot (Cond.code yX13_readNot cX13_readNot 2 none :: wM) { frames := 12 * d + 20, cells := 0, slots := 0, locals := 140 * d + 400 } (va_Pc [.ref (Q 72)] (mPM G Z Q u.1 sz)) (mQv G Q u1.1 sz) 0 0 (mA Q sz)) ∧ (∀ (u u1 : GS) (sz : Nat), fP d 2 0 0 0 0 u = some (none, u1) → MetT l yX13_readNot (Cond.code yX13_readNot cX13_readNot 2 none :: wM) { frames := 12 * d + 20, cells := 0, slots := 0, locals := 140 * d + 400 } (va_Pc [.ref (Q 72)] (mPM G Z Q u.1 sz)) (mQt G Q u1.1 sz) 0 0 (mA Q sz)) := by
  intro d
  induction d with
  | zero => exact ⟨(fun u u1 r sz hF => by cases hF), (fun u u1 sz hF => by cases hF), (fun u u1 r sz hF => by cases hF), (fun u u1 sz hF => by cases hF), (fun u u1 r sz hF => by cases hF), (fun u u1 sz hF => by cases hF)⟩
  | succ d ih =>
    obtain ⟨i0, i1, i2, i3, i4, i5⟩ := ih
    exact ⟨(fun u u1 r sz hF => bm_readOr l G Z Q d (fP d) i0 i1 i2 i3 i4 i5 u u1 r  sz hF), (fun u u1 sz hF => bt_readOr l G Z Q d (fP d) i0 i1 i2 i3 i4 i5 u u1  sz hF), (fun u u1 r sz hF => bm_readAnd l G Z Q d (fP d) i0 i1 i2 i3 i4 i5 u u1 r  sz hF), (fun u u1 sz hF => bt_readAnd l G Z Q d (fP d) i0 i1 i2 i3 i4 i5 u u1  sz hF), (fun u u1 r sz hF => bm_readNot l G Z Q d (fP d) i0 i1 i2 i3 i4 i5 u u1 r  sz hF), (fun u u1 sz hF => bt_readNot l G Z Q d (fP d) i0 i1 i2 i3 i4 i5 u u1  sz hF)⟩
theorem m_readOr (l : Launch) (G : gG) (Z : gM) (Q : Nat → Nat) (u u1 : GS) (r : Int32) (sz : Nat) (hF : fP 32 0 0 0 0 0 u = some (some r, u1)) : Met l yX13_readOr (Cond.code yX13_readOr cX13_readOr 1 none :: wM) { frames := 404, cells := 0, slots := 0, locals := 4880 } (va_Pc [.ref (Q 72)] (mPM G Z Q u.1 sz)) (mQv G Q u1.1 sz) 0 0 (mA Q sz) := (grpP l G Z Q 32).1 u u1 r sz hF
theorem t_readOr (l : Launch) (G : gG) (Z : gM) (Q : Nat → Nat) (u u1 : GS) (sz : Nat) (hF : fP 32 0 0 0 0 0 u = some (none, u1)) : MetT l yX13_readOr (Cond.code yX13_readOr cX13_readOr 1 none :: wM) { frames := 404, cells := 0, slots := 0, locals := 4880 } (va_Pc [.ref (Q 72)] (mPM G Z Q u.1 sz)) (mQt G Q u1.1 sz) 0 0 (mA Q sz) := (grpP l G Z Q 32).2.1 u u1 sz hF
end
