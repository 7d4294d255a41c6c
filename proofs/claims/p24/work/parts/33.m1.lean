def f_in (a0 : Int64) (a1 : Int64) (a2 : Int64) : PG (Int32) := (if (lg_cmp a0 a1) < 0 then prt 0 else (if 0 < (lg_cmp a0 a2) then prt 0 else prt 1))
set_option maxHeartbeats 4000000 in
set_option maxRecDepth 100000 in
theorem m_in (l : Launch) (G : gG) (Z : gM) (Q : Nat → Nat) (u u1 : GS) (r : Int32) (a0 : Int64) (a1 : Int64) (a2 : Int64) (sz : Nat) (hF : f_in a0 a1 a2 u = some (r, u1)) : Met l yX13_in (Cond.code yX13_in cX13_in 6 (some .boolean) :: wM) { frames := 0, cells := 0, slots := 0, locals := 0 } (va_Pc [.long a0, .long a1, .long a2] (mPM G Z Q u.1 sz)) (mQi G Q u1.1 r sz) 0 0 (mA Q sz) := by
  refine Met.ofW (cc := cX13_in) (maxL := 6) (ret := (some .boolean)) (by decide) rfl ?_
  intro p e s m args below meth c s₁ B hml hv
  obtain ⟨rfl, rfl, hP, hB, hD, hE⟩ := hv
  have hr := B.returns
  have hlocks := B.notSynchronized
  have hts := atoms_spec (ws := Cond.code yX13_in cX13_in 6 (some .boolean) :: wM) B.pre
  have hC : mX p c cX13_in 6 s m _ G Z Q := ⟨B.exec, B.bytes, hml, findClass_of_methodNamed B.named, fun w h => hts w (List.mem_cons_of_mem _ h), hB, hE⟩
  have hx := hC.1
  have hb := hC.2.1
  have hH : mH G Q u.1 s s.heap [] := ⟨hP, hD, va_S.rf⟩
  have hl := lv_entry ([.long a0, .long a1, .long a2]) (n := 6) (Nat.le_of_ble_eq_true rfl)
  rw [lg_entry_eq]
  generalize (lg_sl ([.long a0, .long a1, .long a2]) ++ List.replicate (6 - (lg_sl ([.long a0, .long a1, .long a2])).length) Slot.unset).toArray = ls at hl ⊢
  have hl : lv_has ls 6 [(0, .long a0), (2, .long a1), (4, .long a2)] := hl
  unfold f_in at hF
  refine lv_lload_n hx hb dX13_in_0 rfl (lv_at hl 0 rfl) ?_
  refine lv_lload_n hx hb dX13_in_1 rfl (lv_at hl 1 rfl) ?_
  refine W.lcmp hx hb dX13_in_2 ?_
  refine lv_if_lt (tgt := 17) hx hb dX13_in_3 (by decide) (fun c_1 => ?_) (fun c_1 => ?_)
  · rw [if_pos c_1] at hF
    refine lv_iconst (v := 0) hx hb dX13_in_17 (by decide) ?_
    have hF := prt_eq hF
    exact mr_z hC hH hr rfl hF dX13_in_18 hlocks
  · rw [if_neg c_1] at hF
    refine lv_lload_n hx hb dX13_in_6 rfl (lv_at hl 0 rfl) ?_
    refine lv_lload hx hb dX13_in_7 (lv_at hl 2 rfl) ?_
    refine W.lcmp hx hb dX13_in_9 ?_
    refine lv_if_gt (tgt := 17) hx hb dX13_in_10 (by decide) (fun c_2 => ?_) (fun c_2 => ?_)
    · rw [if_pos c_2] at hF
      refine lv_iconst (v := 0) hx hb dX13_in_17 (by decide) ?_
      have hF := prt_eq hF
      exact mr_z hC hH hr rfl hF dX13_in_18 hlocks
    · rw [if_neg c_2] at hF
      refine lv_iconst (v := 1) hx hb dX13_in_13 (by decide) ?_
      refine lv_goto (tgt := 18) hx hb dX13_in_14 (by decide) ?_
      have hF := prt_eq hF
      exact mr_z hC hH hr rfl hF dX13_in_18 hlocks
def f_isClass (a0 : Int32) : PG (Int32) := pcl (f_in a0.toInt64 0 3) (fun r_1 => pog (gb r_1) (prt r_1))
set_option maxHeartbeats 4000000 in
set_option maxRecDepth 100000 in
theorem m_isClass (l : Launch) (G : gG) (Z : gM) (Q : Nat → Nat) (u u1 : GS) (r : Int32) (a0 : Int32) (sz : Nat) (hF : f_isClass a0 u = some (r, u1)) : Met l yX13_isClass (Cond.code yX13_isClass cX13_isClass 1 (some .boolean) :: wM) { frames := 1, cells := 0, slots := 0, locals := 25 } (va_Pc [.int a0] (mPM G Z Q u.1 sz)) (mQi G Q u1.1 r sz) 0 0 (mA Q sz) := by
  refine Met.ofW (cc := cX13_isClass) (maxL := 1) (ret := (some .boolean)) (by decide) rfl ?_
  intro p e s m args below meth c s₁ B hml hv
  obtain ⟨rfl, rfl, hP, hB, hD, hE⟩ := hv
  have hr := B.returns
  have hlocks := B.notSynchronized
  have hts := atoms_spec (ws := Cond.code yX13_isClass cX13_isClass 1 (some .boolean) :: wM) B.pre
  have hC : mX p c cX13_isClass 1 s m _ G Z Q := ⟨B.exec, B.bytes, hml, findClass_of_methodNamed B.named, fun w h => hts w (List.mem_cons_of_mem _ h), hB, hE⟩
  have hx := hC.1
  have hb := hC.2.1
  have hH : mH G Q u.1 s s.heap [] := ⟨hP, hD, va_S.rf⟩
  have hl := lv_entry ([.int a0]) (n := 1) (Nat.le_of_ble_eq_true rfl)
  rw [lg_entry_eq]
  generalize (lg_sl ([.int a0]) ++ List.replicate (1 - (lg_sl ([.int a0])).length) Slot.unset).toArray = ls at hl ⊢
  have hl : lv_has ls 1 [(0, .int a0)] := hl
  unfold f_isClass at hF
  refine lv_iload_n hx hb dX13_isClass_0 rfl (lv_at hl 0 rfl) ?_
  refine lv_i2l (v := a0.toInt64) hx hb dX13_isClass_1 rfl ?_
  refine lv_lconst (v := 0) hx hb dX13_isClass_2 (by decide) ?_
  refine lv_ldc2 (v := 3) hx hb hC.2.2.2.1 (hC.2.2.2.2.1 _ wma141) dX13_isClass_3 ?_
  obtain ⟨r_1, u_2, h_3, hF⟩ := pcl_some hF
  refine mcS_i (As := [.long a0.toInt64, .long 0, .long 3]) (rest := []) hC hH (m_in l G Z Q u u_2 r_1 a0.toInt64 0 3 _ h_3) kwX13_in kVX13_in ⟨Nat.le_of_ble_eq_true rfl, Nat.le_of_ble_eq_true rfl⟩ rfl hl.1 rfl (Nat.le_of_ble_eq_true rfl) dX13_isClass_6 (fun H locs hH => ?_)
  obtain ⟨g_4, hF⟩ := pog_some hF
  have hF := prt_eq hF
  exact mr_z hC hH hr g_4 hF dX13_isClass_9 hlocks
def lp_halving_2 : Nat → Int32 → Int32 → (Int32 → Int32 → PG (Int32)) → PG (Int32)
  | 0, _, _, _ => fun _ => none
  | n2 + 1, v1, v2, K2_20 => prd 13 4 v1 (fun x_1 => (if x_1 ≤ (1 <<< (v2 &&& 31)) then K2_20 v1 v2 else pli (v2 + 1) (fun x_5 => lp_halving_2 n2 v1 x_5 K2_20)))
def f_halving (a0 : Int32) : PG (Int32) := lp_halving_2 fuel a0 0 (fun v1 v2 => prt v2)
set_option maxHeartbeats 4000000 in
set_option maxRecDepth 100000 in
theorem m_halving (l : Launch) (G : gG) (Z : gM) (Q : Nat → Nat) (u u1 : GS) (r : Int32) (a0 : Int32) (sz : Nat) (hF : f_halving a0 u = some (r, u1)) : Met l yX13_halving (Cond.code yX13_halving cX13_halving 3 (some .int) :: wM) { frames := 0, cells := 0, slots := 0, locals := 0 } (va_Pc [.ref (Q 72), .int a0] (mPM G Z Q u.1 sz)) (mQi G Q u1.1 r sz) 0 0 (mA Q sz) := by
  refine Met.ofW (cc := cX13_halving) (maxL := 3) (ret := (some .int)) (by decide) rfl ?_
  intro p e s m args below meth c s₁ B hml hv
  obtain ⟨rfl, rfl, hP, hB, hD, hE⟩ := hv
  have hr := B.returns
  have hlocks := B.notSynchronized
  have hts := atoms_spec (ws := Cond.code yX13_halving cX13_halving 3 (some .int) :: wM) B.pre
  have hC : mX p c cX13_halving 3 s m _ G Z Q := ⟨B.exec, B.bytes, hml, findClass_of_methodNamed B.named, fun w h => hts w (List.mem_cons_of_mem _ h), hB, hE⟩
  have hx := hC.1
  have hb := hC.2.1
  have hH : mH G Q u.1 s s.heap [] := ⟨hP, hD, va_S.rf⟩
  have hl := lv_entry ([.ref (Q 72), .int a0]) (n := 3) (Nat.le_of_ble_eq_true rfl)
  rw [lg_entry_eq]
  generalize (lg_sl ([.ref (Q 72), .int a0]) ++ List.replicate (3 - (lg_sl ([.ref (Q 72), .int a0])).length) Slot.unset).toArray = ls at hl ⊢
  have hl : lv_has ls 3 [(0, .ref (Q 72)), (1, .int a0)] := hl
  unfold f_halving at hF
  refine lv_iconst (v := 0) hx hb dX13_halving_0 (by decide) ?_
  refine lv_istore_n (lv' := [(2, .int 0), (0, .ref (Q 72)), (1, .int a0)]) hx hb dX13_halving_1 rfl hl (by decide) rfl (fun ls hl => ?_)
  have hL2 : ∀ (K2_20 : Int32 → Int32 → PG (Int32)), (∀ (v1 v2 : Int32) (u : GS) (H : Heap) (locs : List Loc) (ls : Array Slot), lv_has ls 3 [(0, .ref (Q 72)), (1, .int v1), (2, .int v2)] → mH G Q u.1 s H locs → K2_20 v1 v2 u = some ((r, u1)) → W p l e (headSpec (Cond.code yX13_halving cX13_halving 3 (some .int) :: wM) { frames := 0, cells := 0, slots := 0, locals := 0 }).room s m [.ref (Q 72), .int a0].toArray below meth c H locs 0 0 (MQ below (mQi G Q u1.1 r s.heap.size) [.ref (Q 72), .int a0].toArray s 0 0 (mA Q s.heap.size)) (F0 m 20 ls [])) → ∀ (n2 : Nat) (v1 v2 : Int32) (u : GS) (H : Heap) (locs : List Loc) (ls : Array Slot), lv_has ls 3 [(0, .ref (Q 72)), (1, .int v1), (2, .int v2)] → mH G Q u.1 s H locs → lp_halving_2 n2 v1 v2 K2_20 u = some ((r, u1)) → W p l e (headSpec (Cond.code yX13_halving cX13_halving 3 (some .int) :: wM) { frames := 0, cells := 0, slots := 0, locals := 0 }).room s m [.ref (Q 72), .int a0].toArray below meth c H locs 0 0 (MQ below (mQi G Q u1.1 r s.heap.size) [.ref (Q 72), .int a0].toArray s 0 0 (mA Q s.heap.size)) (F0 m 2 ls []) := by
    intro K2_20 hK2_20 n2
    induction n2 with
    | zero => intro v1 v2 u H locs ls hl hH hF; cases hF
    | succ n2 ih2 =>
      intro v1 v2 u H locs ls hl hH hF
      unfold lp_halving_2 at hF
      refine lv_iconst (v := 1) hx hb dX13_halving_2 (by decide) ?_
      refine lv_iload_n hx hb dX13_halving_3 rfl (lv_at hl 2 rfl) ?_
      refine lv_ishl hx hb dX13_halving_4 ?_
      refine lv_aload_n hx hb dX13_halving_5 rfl (lv_at hl 0 rfl) ?_
      refine mg_13 hC hH dX13_halving_6 ?_
      refine lv_iload_n hx hb dX13_halving_9 rfl (lv_at hl 1 rfl) ?_
      obtain ⟨x_1, g_2, e_3, hF⟩ := prd_some hF
      refine ml_13 hC hH g_2 dX13_halving_10 ?_
      refine gx_ti e_3 ?_
      refine lv_icmp_ge (tgt := 20) hx hb dX13_halving_11 (by decide) (fun c_4 => ?_) (fun c_4 => ?_)
      · rw [if_pos c_4] at hF
        exact hK2_20 v1 v2 u _ _ _ (lv_sub hl [0, 1, 2] rfl) hH hF
      · rw [if_neg c_4] at hF
        obtain ⟨x_5, e_6, hF⟩ := pli_some hF
        refine lv_iinc (v := x_5) (lv' := [(2, .int x_5), (0, .ref (Q 72)), (1, .int v1)]) hx hb dX13_halving_14 hl (k := 2) rfl e_6 (by decide) rfl (fun ls hl => ?_)
        refine lv_goto (tgt := 2) hx hb dX13_halving_17 (by decide) ?_
        exact ih2 v1 x_5 u _ _ _ (lv_sub hl [1, 2, 0] rfl) hH hF
  refine hL2 _ (fun v1 v2 u H locs ls hl hH hF => ?_) fuel a0 0 u _ _ _ (lv_sub hl [1, 2, 0] rfl) hH hF
  refine lv_iload_n hx hb dX13_halving_20 rfl (lv_at hl 2 rfl) ?_
  have hF := prt_eq hF
  exact mr_i hC hH hr hF dX13_halving_21 hlocks
def f_rounds (a0 : Int32) : PG (Int32) := pcl (f_halving a0) (fun r_1 => prt (r_1 - 1))
set_option maxHeartbeats 4000000 in
set_option maxRecDepth 100000 in
theorem m_rounds (l : Launch) (G : gG) (Z : gM) (Q : Nat → Nat) (u u1 : GS) (r : Int32) (a0 : Int32) (sz : Nat) (hF : f_rounds a0 u = some (r, u1)) : Met l yX13_rounds (Cond.code yX13_rounds cX13_rounds 2 (some .int) :: wM) { frames := 1, cells := 0, slots := 0, locals := 22 } (va_Pc [.ref (Q 72), .int a0] (mPM G Z Q u.1 sz)) (mQi G Q u1.1 r sz) 0 0 (mA Q sz) := by
  refine Met.ofW (cc := cX13_rounds) (maxL := 2) (ret := (some .int)) (by decide) rfl ?_
  intro p e s m args below meth c s₁ B hml hv
  obtain ⟨rfl, rfl, hP, hB, hD, hE⟩ := hv
  have hr := B.returns
  have hlocks := B.notSynchronized
  have hts := atoms_spec (ws := Cond.code yX13_rounds cX13_rounds 2 (some .int) :: wM) B.pre
  have hC : mX p c cX13_rounds 2 s m _ G Z Q := ⟨B.exec, B.bytes, hml, findClass_of_methodNamed B.named, fun w h => hts w (List.mem_cons_of_mem _ h), hB, hE⟩
  have hx := hC.1
  have hb := hC.2.1
  have hH : mH G Q u.1 s s.heap [] := ⟨hP, hD, va_S.rf⟩
  have hl := lv_entry ([.ref (Q 72), .int a0]) (n := 2) (Nat.le_of_ble_eq_true rfl)
  rw [lg_entry_eq]
  generalize (lg_sl ([.ref (Q 72), .int a0]) ++ List.replicate (2 - (lg_sl ([.ref (Q 72), .int a0])).length) Slot.unset).toArray = ls at hl ⊢
  have hl : lv_has ls 2 [(0, .ref (Q 72)), (1, .int a0)] := hl
  unfold f_rounds at hF
  refine lv_aload_n hx hb dX13_rounds_0 rfl (lv_at hl 0 rfl) ?_
  refine lv_iload_n hx hb dX13_rounds_1 rfl (lv_at hl 1 rfl) ?_
  obtain ⟨r_1, u_2, h_3, hF⟩ := pcl_some hF
  refine mcV_i (As := [.int a0]) (rest := []) hC hH (m_halving l G Z Q u u_2 r_1 a0 _ h_3) kwX13_halving kVX13_halving ⟨Nat.le_of_ble_eq_true rfl, Nat.le_of_ble_eq_true rfl⟩ rfl hl.1 rfl (Nat.le_of_ble_eq_true rfl) dX13_rounds_2 (fun H locs hH => ?_)
  refine lv_iconst (v := 1) hx hb dX13_rounds_5 (by decide) ?_
  refine lv_isub hx hb dX13_rounds_6 ?_
  have hF := prt_eq hF
  exact mr_i hC hH hr hF dX13_rounds_7 hlocks
def f_fights (a0 : Int32) : PG (Int32) := prd 13 4 a0 (fun x_1 => prd 12 4 a0 (fun x_4 => (if x_4 = 0 then prt 0 else prd 12 4 a0 (fun x_8 => (if x_8 = 1 then prt ((x_1 * (x_1 - 1)) / 2) else pcl (f_rounds a0) (fun r_12 => prt ((x_1 - 1) + (2 * (r_12 - 1)))))))))
set_option maxHeartbeats 4000000 in
set_option maxRecDepth 100000 in
theorem m_fights (l : Launch) (G : gG) (Z : gM) (Q : Nat → Nat) (u u1 : GS) (r : Int32) (a0 : Int32) (sz : Nat) (hF : f_fights a0 u = some (r, u1)) : Met l yX13_fights (Cond.code yX13_fights cX13_fights 3 (some .int) :: wM) { frames := 2, cells := 0, slots := 0, locals := 43 } (va_Pc [.ref (Q 72), .int a0] (mPM G Z Q u.1 sz)) (mQi G Q u1.1 r sz) 0 0 (mA Q sz) := by
  refine Met.ofW (cc := cX13_fights) (maxL := 3) (ret := (some .int)) (by decide) rfl ?_
  intro p e s m args below meth c s₁ B hml hv
  obtain ⟨rfl, rfl, hP, hB, hD, hE⟩ := hv
  have hr := B.returns
  have hlocks := B.notSynchronized
  have hts := atoms_spec (ws := Cond.code yX13_fights cX13_fights 3 (some .int) :: wM) B.pre
  have hC : mX p c cX13_fights 3 s m _ G Z Q := ⟨B.exec, B.bytes, hml, findClass_of_methodNamed B.named, fun w h => hts w (List.mem_cons_of_mem _ h), hB, hE⟩
  have hx := hC.1
  have hb := hC.2.1
  have hH : mH G Q u.1 s s.heap [] := ⟨hP, hD, va_S.rf⟩
  have hl := lv_entry ([.ref (Q 72), .int a0]) (n := 3) (Nat.le_of_ble_eq_true rfl)
  rw [lg_entry_eq]
  generalize (lg_sl ([.ref (Q 72), .int a0]) ++ List.replicate (3 - (lg_sl ([.ref (Q 72), .int a0])).length) Slot.unset).toArray = ls at hl ⊢
  have hl : lv_has ls 3 [(0, .ref (Q 72)), (1, .int a0)] := hl
  unfold f_fights at hF
  refine lv_aload_n hx hb dX13_fights_0 rfl (lv_at hl 0 rfl) ?_
  refine mg_13 hC hH dX13_fights_1 ?_
  refine lv_iload_n hx hb dX13_fights_4 rfl (lv_at hl 1 rfl) ?_
  obtain ⟨x_1, g_2, e_3, hF⟩ := prd_some hF
  refine ml_13 hC hH g_2 dX13_fights_5 ?_
  refine gx_ti e_3 ?_
  refine lv_istore_n (lv' := [(2, .int x_1), (0, .ref (Q 72)), (1, .int a0)]) hx hb dX13_fights_6 rfl hl (by decide) rfl (fun ls hl => ?_)
  refine lv_aload_n hx hb dX13_fights_7 rfl (lv_at hl 1 rfl) ?_
  refine mg_12 hC hH dX13_fights_8 ?_
  refine lv_iload_n hx hb dX13_fights_11 rfl (lv_at hl 2 rfl) ?_
  obtain ⟨x_4, g_5, e_6, hF⟩ := prd_some hF
  refine ml_12 hC hH g_5 dX13_fights_12 ?_
  refine gx_ti e_6 ?_
  refine lv_if_ne (tgt := 20) hx hb dX13_fights_13 (by decide) (fun c_7 => ?_) (fun c_7 => ?_)
  · rw [if_neg c_7] at hF
    refine lv_aload_n hx hb dX13_fights_20 rfl (lv_at hl 1 rfl) ?_
    refine mg_12 hC hH dX13_fights_21 ?_
    refine lv_iload_n hx hb dX13_fights_24 rfl (lv_at hl 2 rfl) ?_
    obtain ⟨x_8, g_9, e_10, hF⟩ := prd_some hF
    refine ml_12 hC hH g_9 dX13_fights_25 ?_
    refine gx_ti e_10 ?_
    refine lv_iconst (v := 1) hx hb dX13_fights_26 (by decide) ?_
    refine lv_icmp_ne (tgt := 40) hx hb dX13_fights_27 (by decide) (fun c_11 => ?_) (fun c_11 => ?_)
    · rw [if_neg c_11] at hF
      refine lv_iload_n hx hb dX13_fights_40 rfl (lv_at hl 0 rfl) ?_
      refine lv_iconst (v := 1) hx hb dX13_fights_41 (by decide) ?_
      refine lv_isub hx hb dX13_fights_42 ?_
      refine lv_iconst (v := 2) hx hb dX13_fights_43 (by decide) ?_
      refine lv_aload_n hx hb dX13_fights_44 rfl (lv_at hl 1 rfl) ?_
      refine lv_iload_n hx hb dX13_fights_45 rfl (lv_at hl 2 rfl) ?_
      obtain ⟨r_12, u_13, h_14, hF⟩ := pcl_some hF
      refine mcV_i (As := [.int a0]) (rest := [.int 2, .int (x_1 - 1)]) hC hH (m_rounds l G Z Q u u_13 r_12 a0 _ h_14) kwX13_rounds kVX13_rounds ⟨Nat.le_of_ble_eq_true rfl, Nat.le_of_ble_eq_true rfl⟩ rfl hl.1 rfl (Nat.le_of_ble_eq_true rfl) dX13_fights_46 (fun H locs hH => ?_)
      refine lv_iconst (v := 1) hx hb dX13_fights_49 (by decide) ?_
      refine lv_isub hx hb dX13_fights_50 ?_
      refine lv_imul hx hb dX13_fights_51 ?_
      refine lv_iadd hx hb dX13_fights_52 ?_
      have hF := prt_eq hF
      exact mr_i hC hH hr hF dX13_fights_53 hlocks
    · rw [if_pos c_11] at hF
      refine lv_iload_n hx hb dX13_fights_30 rfl (lv_at hl 0 rfl) ?_
      refine lv_iload_n hx hb dX13_fights_31 rfl (lv_at hl 0 rfl) ?_
      refine lv_iconst (v := 1) hx hb dX13_fights_32 (by decide) ?_
      refine lv_isub hx hb dX13_fights_33 ?_
      refine lv_imul hx hb dX13_fights_34 ?_
      refine lv_iconst (v := 2) hx hb dX13_fights_35 (by decide) ?_
      refine lv_idiv hx hb dX13_fights_36 (by decide) ?_
      refine lv_goto (tgt := 53) hx hb dX13_fights_37 (by decide) ?_
      have hF := prt_eq hF
      exact mr_i hC hH hr hF dX13_fights_53 hlocks
  · rw [if_pos c_7] at hF
    refine lv_iconst (v := 0) hx hb dX13_fights_16 (by decide) ?_
    refine lv_goto (tgt := 53) hx hb dX13_fights_17 (by decide) ?_
    have hF := prt_eq hF
    exact mr_i hC hH hr hF dX13_fights_53 hlocks
def f_isFight (a0 : Int32) (a1 : Int32) : PG (Int32) := pcl (f_isClass a0) (fun r_1 => (if r_1 = 0 then prt 0 else pcl (f_fights a0) (fun r_5 => pcl (f_in a1.toInt64 0 ((r_5.toInt64 : Int64) - (1 : Int64))) (fun r_8 => (if r_8 = 0 then prt 0 else prt 1)))))
set_option maxHeartbeats 4000000 in
set_option maxRecDepth 100000 in
theorem m_isFight (l : Launch) (G : gG) (Z : gM) (Q : Nat → Nat) (u u1 : GS) (r : Int32) (a0 : Int32) (a1 : Int32) (sz : Nat) (hF : f_isFight a0 a1 u = some (r, u1)) : Met l yX13_isFight (Cond.code yX13_isFight cX13_isFight 3 (some .boolean) :: wM) { frames := 3, cells := 0, slots := 0, locals := 65 } (va_Pc [.ref (Q 72), .int a0, .int a1] (mPM G Z Q u.1 sz)) (mQi G Q u1.1 r sz) 0 0 (mA Q sz) := by
  refine Met.ofW (cc := cX13_isFight) (maxL := 3) (ret := (some .boolean)) (by decide) rfl ?_
  intro p e s m args below meth c s₁ B hml hv
  obtain ⟨rfl, rfl, hP, hB, hD, hE⟩ := hv
  have hr := B.returns
  have hlocks := B.notSynchronized
  have hts := atoms_spec (ws := Cond.code yX13_isFight cX13_isFight 3 (some .boolean) :: wM) B.pre
  have hC : mX p c cX13_isFight 3 s m _ G Z Q := ⟨B.exec, B.bytes, hml, findClass_of_methodNamed B.named, fun w h => hts w (List.mem_cons_of_mem _ h), hB, hE⟩
  have hx := hC.1
  have hb := hC.2.1
  have hH : mH G Q u.1 s s.heap [] := ⟨hP, hD, va_S.rf⟩
  have hl := lv_entry ([.ref (Q 72), .int a0, .int a1]) (n := 3) (Nat.le_of_ble_eq_true rfl)
  rw [lg_entry_eq]
  generalize (lg_sl ([.ref (Q 72), .int a0, .int a1]) ++ List.replicate (3 - (lg_sl ([.ref (Q 72), .int a0, .int a1])).length) Slot.unset).toArray = ls at hl ⊢
  have hl : lv_has ls 3 [(0, .ref (Q 72)), (1, .int a0), (2, .int a1)] := hl
  unfold f_isFight at hF
  refine lv_iload_n hx hb dX13_isFight_0 rfl (lv_at hl 1 rfl) ?_
  obtain ⟨r_1, u_2, h_3, hF⟩ := pcl_some hF
  refine mcS_i (As := [.int a0]) (rest := []) hC hH (m_isClass l G Z Q u u_2 r_1 a0 _ h_3) kwX13_isClass kVX13_isClass ⟨Nat.le_of_ble_eq_true rfl, Nat.le_of_ble_eq_true rfl⟩ rfl hl.1 rfl (Nat.le_of_ble_eq_true rfl) dX13_isFight_1 (fun H locs hH => ?_)
  refine lv_if_eq (tgt := 28) hx hb dX13_isFight_4 (by decide) (fun c_4 => ?_) (fun c_4 => ?_)
  · rw [if_pos c_4] at hF
    refine lv_iconst (v := 0) hx hb dX13_isFight_28 (by decide) ?_
    have hF := prt_eq hF
    exact mr_z hC hH hr rfl hF dX13_isFight_29 hlocks
  · rw [if_neg c_4] at hF
    refine lv_iload_n hx hb dX13_isFight_7 rfl (lv_at hl 2 rfl) ?_
    refine lv_i2l (v := a1.toInt64) hx hb dX13_isFight_8 rfl ?_
    refine lv_lconst (v := 0) hx hb dX13_isFight_9 (by decide) ?_
    refine lv_aload_n hx hb dX13_isFight_10 rfl (lv_at hl 0 rfl) ?_
    refine lv_iload_n hx hb dX13_isFight_11 rfl (lv_at hl 1 rfl) ?_
    obtain ⟨r_5, u_6, h_7, hF⟩ := pcl_some hF
    refine mcV_i (As := [.int a0]) (rest := [.long 0, .long a1.toInt64]) hC hH (m_fights l G Z Q u_2 u_6 r_5 a0 _ h_7) kwX13_fights kVX13_fights ⟨Nat.le_of_ble_eq_true rfl, Nat.le_of_ble_eq_true rfl⟩ rfl hl.1 rfl (Nat.le_of_ble_eq_true rfl) dX13_isFight_12 (fun H locs hH => ?_)
    refine lv_i2l (v := r_5.toInt64) hx hb dX13_isFight_15 rfl ?_
    refine lv_lconst (v := 1) hx hb dX13_isFight_16 (by decide) ?_
    refine lv_lsub hx hb dX13_isFight_17 ?_
    obtain ⟨r_8, u_9, h_10, hF⟩ := pcl_some hF
    refine mcS_i (As := [.long a1.toInt64, .long 0, .long ((r_5.toInt64 : Int64) - (1 : Int64))]) (rest := []) hC hH (m_in l G Z Q u_6 u_9 r_8 a1.toInt64 0 ((r_5.toInt64 : Int64) - (1 : Int64)) _ h_10) kwX13_in kVX13_in ⟨Nat.le_of_ble_eq_true rfl, Nat.le_of_ble_eq_true rfl⟩ rfl hl.1 rfl (Nat.le_of_ble_eq_true rfl) dX13_isFight_18 (fun H locs hH => ?_)
    refine lv_if_eq (tgt := 28) hx hb dX13_isFight_21 (by decide) (fun c_11 => ?_) (fun c_11 => ?_)
    · rw [if_pos c_11] at hF
      refine lv_iconst (v := 0) hx hb dX13_isFight_28 (by decide) ?_
      have hF := prt_eq hF
      exact mr_z hC hH hr rfl hF dX13_isFight_29 hlocks
    · rw [if_neg c_11] at hF
      refine lv_iconst (v := 1) hx hb dX13_isFight_24 (by decide) ?_
      refine lv_goto (tgt := 29) hx hb dX13_isFight_25 (by decide) ?_
      have hF := prt_eq hF
      exact mr_z hC hH hr rfl hF dX13_isFight_29 hlocks
def f_base (a0 : Int32) (a1 : Int32) : PG (Int32) := prd 13 4 a0 (fun x_1 => prd 13 4 a0 (fun x_4 => prt (x_1 - (x_4 >>> (a1 &&& 31)))))
set_option maxHeartbeats 4000000 in
set_option maxRecDepth 100000 in
theorem m_base (l : Launch) (G : gG) (Z : gM) (Q : Nat → Nat) (u u1 : GS) (r : Int32) (a0 : Int32) (a1 : Int32) (sz : Nat) (hF : f_base a0 a1 u = some (r, u1)) : Met l yX13_base (Cond.code yX13_base cX13_base 3 (some .int) :: wM) { frames := 0, cells := 0, slots := 0, locals := 0 } (va_Pc [.ref (Q 72), .int a0, .int a1] (mPM G Z Q u.1 sz)) (mQi G Q u1.1 r sz) 0 0 (mA Q sz) := by
  refine Met.ofW (cc := cX13_base) (maxL := 3) (ret := (some .int)) (by decide) rfl ?_
  intro p e s m args below meth c s₁ B hml hv
  obtain ⟨rfl, rfl, hP, hB, hD, hE⟩ := hv
  have hr := B.returns
  have hlocks := B.notSynchronized
  have hts := atoms_spec (ws := Cond.code yX13_base cX13_base 3 (some .int) :: wM) B.pre
  have hC : mX p c cX13_base 3 s m _ G Z Q := ⟨B.exec, B.bytes, hml, findClass_of_methodNamed B.named, fun w h => hts w (List.mem_cons_of_mem _ h), hB, hE⟩
  have hx := hC.1
  have hb := hC.2.1
  have hH : mH G Q u.1 s s.heap [] := ⟨hP, hD, va_S.rf⟩
  have hl := lv_entry ([.ref (Q 72), .int a0, .int a1]) (n := 3) (Nat.le_of_ble_eq_true rfl)
  rw [lg_entry_eq]
  generalize (lg_sl ([.ref (Q 72), .int a0, .int a1]) ++ List.replicate (3 - (lg_sl ([.ref (Q 72), .int a0, .int a1])).length) Slot.unset).toArray = ls at hl ⊢
  have hl : lv_has ls 3 [(0, .ref (Q 72)), (1, .int a0), (2, .int a1)] := hl
  unfold f_base at hF
  refine lv_aload_n hx hb dX13_base_0 rfl (lv_at hl 0 rfl) ?_
  refine mg_13 hC hH dX13_base_1 ?_
  refine lv_iload_n hx hb dX13_base_4 rfl (lv_at hl 1 rfl) ?_
  obtain ⟨x_1, g_2, e_3, hF⟩ := prd_some hF
  refine ml_13 hC hH g_2 dX13_base_5 ?_
  refine gx_ti e_3 ?_
  refine lv_aload_n hx hb dX13_base_6 rfl (lv_at hl 0 rfl) ?_
  refine mg_13 hC hH dX13_base_7 ?_
  refine lv_iload_n hx hb dX13_base_10 rfl (lv_at hl 1 rfl) ?_
  obtain ⟨x_4, g_5, e_6, hF⟩ := prd_some hF
  refine ml_13 hC hH g_5 dX13_base_11 ?_
  refine gx_ti e_6 ?_
  refine lv_iload_n hx hb dX13_base_12 rfl (lv_at hl 2 rfl) ?_
  refine lv_ishr hx hb dX13_base_13 ?_
  refine lv_isub hx hb dX13_base_14 ?_
  have hF := prt_eq hF
  exact mr_i hC hH hr hF dX13_base_15 hlocks
def f_isSecond (a0 : Int32) (a1 : Int32) : PG (Int32) := prd 12 4 a0 (fun x_1 => (if x_1 = 2 then prd 13 4 a0 (fun x_5 => (if a1 < (x_5 - 1) then prt 0 else prt 1)) else prt 0))
set_option maxHeartbeats 4000000 in
set_option maxRecDepth 100000 in
theorem m_isSecond (l : Launch) (G : gG) (Z : gM) (Q : Nat → Nat) (u u1 : GS) (r : Int32) (a0 : Int32) (a1 : Int32) (sz : Nat) (hF : f_isSecond a0 a1 u = some (r, u1)) : Met l yX13_isSecond (Cond.code yX13_isSecond cX13_isSecond 3 (some .boolean) :: wM) { frames := 0, cells := 0, slots := 0, locals := 0 } (va_Pc [.ref (Q 72), .int a0, .int a1] (mPM G Z Q u.1 sz)) (mQi G Q u1.1 r sz) 0 0 (mA Q sz) := by
  refine Met.ofW (cc := cX13_isSecond) (maxL := 3) (ret := (some .boolean)) (by decide) rfl ?_
  intro p e s m args below meth c s₁ B hml hv
  obtain ⟨rfl, rfl, hP, hB, hD, hE⟩ := hv
  have hr := B.returns
  have hlocks := B.notSynchronized
  have hts := atoms_spec (ws := Cond.code yX13_isSecond cX13_isSecond 3 (some .boolean) :: wM) B.pre
  have hC : mX p c cX13_isSecond 3 s m _ G Z Q := ⟨B.exec, B.bytes, hml, findClass_of_methodNamed B.named, fun w h => hts w (List.mem_cons_of_mem _ h), hB, hE⟩
  have hx := hC.1
  have hb := hC.2.1
  have hH : mH G Q u.1 s s.heap [] := ⟨hP, hD, va_S.rf⟩
  have hl := lv_entry ([.ref (Q 72), .int a0, .int a1]) (n := 3) (Nat.le_of_ble_eq_true rfl)
  rw [lg_entry_eq]
  generalize (lg_sl ([.ref (Q 72), .int a0, .int a1]) ++ List.replicate (3 - (lg_sl ([.ref (Q 72), .int a0, .int a1])).length) Slot.unset).toArray = ls at hl ⊢
  have hl : lv_has ls 3 [(0, .ref (Q 72)), (1, .int a0), (2, .int a1)] := hl
  unfold f_isSecond at hF
  refine lv_aload_n hx hb dX13_isSecond_0 rfl (lv_at hl 0 rfl) ?_
  refine mg_12 hC hH dX13_isSecond_1 ?_
  refine lv_iload_n hx hb dX13_isSecond_4 rfl (lv_at hl 1 rfl) ?_
  obtain ⟨x_1, g_2, e_3, hF⟩ := prd_some hF
  refine ml_12 hC hH g_2 dX13_isSecond_5 ?_
  refine gx_ti e_3 ?_
  refine lv_iconst (v := 2) hx hb dX13_isSecond_6 (by decide) ?_
  refine lv_icmp_ne (tgt := 26) hx hb dX13_isSecond_7 (by decide) (fun c_4 => ?_) (fun c_4 => ?_)
  · rw [if_neg c_4] at hF
    refine lv_iconst (v := 0) hx hb dX13_isSecond_26 (by decide) ?_
    have hF := prt_eq hF
    exact mr_z hC hH hr rfl hF dX13_isSecond_27 hlocks
  · rw [if_pos c_4] at hF
    refine lv_iload_n hx hb dX13_isSecond_10 rfl (lv_at hl 2 rfl) ?_
    refine lv_aload_n hx hb dX13_isSecond_11 rfl (lv_at hl 0 rfl) ?_
    refine mg_13 hC hH dX13_isSecond_12 ?_
    refine lv_iload_n hx hb dX13_isSecond_15 rfl (lv_at hl 1 rfl) ?_
    obtain ⟨x_5, g_6, e_7, hF⟩ := prd_some hF
    refine ml_13 hC hH g_6 dX13_isSecond_16 ?_
    refine gx_ti e_7 ?_
    refine lv_iconst (v := 1) hx hb dX13_isSecond_17 (by decide) ?_
    refine lv_isub hx hb dX13_isSecond_18 ?_
    refine lv_icmp_lt (tgt := 26) hx hb dX13_isSecond_19 (by decide) (fun c_8 => ?_) (fun c_8 => ?_)
    · rw [if_pos c_8] at hF
      refine lv_iconst (v := 0) hx hb dX13_isSecond_26 (by decide) ?_
      have hF := prt_eq hF
      exact mr_z hC hH hr rfl hF dX13_isSecond_27 hlocks
    · rw [if_neg c_8] at hF
      refine lv_iconst (v := 1) hx hb dX13_isSecond_22 (by decide) ?_
      refine lv_goto (tgt := 27) hx hb dX13_isSecond_23 (by decide) ?_
      have hF := prt_eq hF
      exact mr_z hC hH hr rfl hF dX13_isSecond_27 hlocks
def f_finalOf (a0 : Int32) : PG (Int32) := prd 13 4 a0 (fun x_1 => prt (x_1 - 2))
set_option maxHeartbeats 4000000 in
set_option maxRecDepth 100000 in
theorem m_finalOf (l : Launch) (G : gG) (Z : gM) (Q : Nat → Nat) (u u1 : GS) (r : Int32) (a0 : Int32) (sz : Nat) (hF : f_finalOf a0 u = some (r, u1)) : Met l yX13_finalOf (Cond.code yX13_finalOf cX13_finalOf 2 (some .int) :: wM) { frames := 0, cells := 0, slots := 0, locals := 0 } (va_Pc [.ref (Q 72), .int a0] (mPM G Z Q u.1 sz)) (mQi G Q u1.1 r sz) 0 0 (mA Q sz) := by
  refine Met.ofW (cc := cX13_finalOf) (maxL := 2) (ret := (some .int)) (by decide) rfl ?_
  intro p e s m args below meth c s₁ B hml hv
  obtain ⟨rfl, rfl, hP, hB, hD, hE⟩ := hv
  have hr := B.returns
  have hlocks := B.notSynchronized
  have hts := atoms_spec (ws := Cond.code yX13_finalOf cX13_finalOf 2 (some .int) :: wM) B.pre
  have hC : mX p c cX13_finalOf 2 s m _ G Z Q := ⟨B.exec, B.bytes, hml, findClass_of_methodNamed B.named, fun w h => hts w (List.mem_cons_of_mem _ h), hB, hE⟩
  have hx := hC.1
  have hb := hC.2.1
  have hH : mH G Q u.1 s s.heap [] := ⟨hP, hD, va_S.rf⟩
  have hl := lv_entry ([.ref (Q 72), .int a0]) (n := 2) (Nat.le_of_ble_eq_true rfl)
  rw [lg_entry_eq]
  generalize (lg_sl ([.ref (Q 72), .int a0]) ++ List.replicate (2 - (lg_sl ([.ref (Q 72), .int a0])).length) Slot.unset).toArray = ls at hl ⊢
  have hl : lv_has ls 2 [(0, .ref (Q 72)), (1, .int a0)] := hl
  unfold f_finalOf at hF
  refine lv_aload_n hx hb dX13_finalOf_0 rfl (lv_at hl 0 rfl) ?_
  refine mg_13 hC hH dX13_finalOf_1 ?_
  refine lv_iload_n hx hb dX13_finalOf_4 rfl (lv_at hl 1 rfl) ?_
  obtain ⟨x_1, g_2, e_3, hF⟩ := prd_some hF
  refine ml_13 hC hH g_2 dX13_finalOf_5 ?_
  refine gx_ti e_3 ?_
  refine lv_iconst (v := 2) hx hb dX13_finalOf_6 (by decide) ?_
  refine lv_isub hx hb dX13_finalOf_7 ?_
  have hF := prt_eq hF
  exact mr_i hC hH hr hF dX13_finalOf_8 hlocks
def lp_roundOf_2 : Nat → Int32 → Int32 → Int32 → (Int32 → Int32 → Int32 → PG (Int32)) → PG (Int32)
  | 0, _, _, _, _ => fun _ => none
  | n2 + 1, v1, v2, v3, K2_20 => pcl (f_base v1 (v3 + 1)) (fun r_1 => (if v2 < r_1 then K2_20 v1 v2 v3 else pli (v3 + 1) (fun x_5 => lp_roundOf_2 n2 v1 v2 x_5 K2_20)))
def f_roundOf (a0 : Int32) (a1 : Int32) : PG (Int32) := lp_roundOf_2 fuel a0 a1 0 (fun v1 v2 v3 => prt v3)
set_option maxHeartbeats 4000000 in
set_option maxRecDepth 100000 in
theorem m_roundOf (l : Launch) (G : gG) (Z : gM) (Q : Nat → Nat) (u u1 : GS) (r : Int32) (a0 : Int32) (a1 : Int32) (sz : Nat) (hF : f_roundOf a0 a1 u = some (r, u1)) : Met l yX13_roundOf (Cond.code yX13_roundOf cX13_roundOf 4 (some .int) :: wM) { frames := 1, cells := 0, slots := 0, locals := 22 } (va_Pc [.ref (Q 72), .int a0, .int a1] (mPM G Z Q u.1 sz)) (mQi G Q u1.1 r sz) 0 0 (mA Q sz) := by
  refine Met.ofW (cc := cX13_roundOf) (maxL := 4) (ret := (some .int)) (by decide) rfl ?_
  intro p e s m args below meth c s₁ B hml hv
  obtain ⟨rfl, rfl, hP, hB, hD, hE⟩ := hv
  have hr := B.returns
  have hlocks := B.notSynchronized
  have hts := atoms_spec (ws := Cond.code yX13_roundOf cX13_roundOf 4 (some .int) :: wM) B.pre
  have hC : mX p c cX13_roundOf 4 s m _ G Z Q := ⟨B.exec, B.bytes, hml, findClass_of_methodNamed B.named, fun w h => hts w (List.mem_cons_of_mem _ h), hB, hE⟩
  have hx := hC.1
  have hb := hC.2.1
  have hH : mH G Q u.1 s s.heap [] := ⟨hP, hD, va_S.rf⟩
  have hl := lv_entry ([.ref (Q 72), .int a0, .int a1]) (n := 4) (Nat.le_of_ble_eq_true rfl)
  rw [lg_entry_eq]
  generalize (lg_sl ([.ref (Q 72), .int a0, .int a1]) ++ List.replicate (4 - (lg_sl ([.ref (Q 72), .int a0, .int a1])).length) Slot.unset).toArray = ls at hl ⊢
  have hl : lv_has ls 4 [(0, .ref (Q 72)), (1, .int a0), (2, .int a1)] := hl
  unfold f_roundOf at hF
  refine lv_iconst (v := 0) hx hb dX13_roundOf_0 (by decide) ?_
  refine lv_istore_n (lv' := [(3, .int 0), (0, .ref (Q 72)), (1, .int a0), (2, .int a1)]) hx hb dX13_roundOf_1 rfl hl (by decide) rfl (fun ls hl => ?_)
  have hL2 : ∀ (K2_20 : Int32 → Int32 → Int32 → PG (Int32)), (∀ (v1 v2 v3 : Int32) (u : GS) (H : Heap) (locs : List Loc) (ls : Array Slot), lv_has ls 4 [(0, .ref (Q 72)), (1, .int v1), (2, .int v2), (3, .int v3)] → mH G Q u.1 s H locs → K2_20 v1 v2 v3 u = some ((r, u1)) → W p l e (headSpec (Cond.code yX13_roundOf cX13_roundOf 4 (some .int) :: wM) { frames := 1, cells := 0, slots := 0, locals := 22 }).room s m [.ref (Q 72), .int a0, .int a1].toArray below meth c H locs 0 0 (MQ below (mQi G Q u1.1 r s.heap.size) [.ref (Q 72), .int a0, .int a1].toArray s 0 0 (mA Q s.heap.size)) (F0 m 20 ls [])) → ∀ (n2 : Nat) (v1 v2 v3 : Int32) (u : GS) (H : Heap) (locs : List Loc) (ls : Array Slot), lv_has ls 4 [(0, .ref (Q 72)), (1, .int v1), (2, .int v2), (3, .int v3)] → mH G Q u.1 s H locs → lp_roundOf_2 n2 v1 v2 v3 K2_20 u = some ((r, u1)) → W p l e (headSpec (Cond.code yX13_roundOf cX13_roundOf 4 (some .int) :: wM) { frames := 1, cells := 0, slots := 0, locals := 22 }).room s m [.ref (Q 72), .int a0, .int a1].toArray below meth c H locs 0 0 (MQ below (mQi G Q u1.1 r s.heap.size) [.ref (Q 72), .int a0, .int a1].toArray s 0 0 (mA Q s.heap.size)) (F0 m 2 ls []) := by
    intro K2_20 hK2_20 n2
    induction n2 with
    | zero => intro v1 v2 v3 u H locs ls hl hH hF; cases hF
    | succ n2 ih2 =>
      intro v1 v2 v3 u H locs ls hl hH hF
      unfold lp_roundOf_2 at hF
      refine lv_iload_n hx hb dX13_roundOf_2 rfl (lv_at hl 2 rfl) ?_
      refine lv_aload_n hx hb dX13_roundOf_3 rfl (lv_at hl 0 rfl) ?_
      refine lv_iload_n hx hb dX13_roundOf_4 rfl (lv_at hl 1 rfl) ?_
      refine lv_iload_n hx hb dX13_roundOf_5 rfl (lv_at hl 3 rfl) ?_
      refine lv_iconst (v := 1) hx hb dX13_roundOf_6 (by decide) ?_
      refine lv_iadd hx hb dX13_roundOf_7 ?_
      obtain ⟨r_1, u_2, h_3, hF⟩ := pcl_some hF
      refine mcV_i (As := [.int v1, .int (v3 + 1)]) (rest := [.int v2]) hC hH (m_base l G Z Q u u_2 r_1 v1 (v3 + 1) _ h_3) kwX13_base kVX13_base ⟨Nat.le_of_ble_eq_true rfl, Nat.le_of_ble_eq_true rfl⟩ rfl hl.1 rfl (Nat.le_of_ble_eq_true rfl) dX13_roundOf_8 (fun H locs hH => ?_)
      refine lv_icmp_lt (tgt := 20) hx hb dX13_roundOf_11 (by decide) (fun c_4 => ?_) (fun c_4 => ?_)
      · rw [if_pos c_4] at hF
        exact hK2_20 v1 v2 v3 u_2 _ _ _ (lv_sub hl [0, 1, 2, 3] rfl) hH hF
      · rw [if_neg c_4] at hF
        obtain ⟨x_5, e_6, hF⟩ := pli_some hF
        refine lv_iinc (v := x_5) (lv' := [(3, .int x_5), (0, .ref (Q 72)), (1, .int v1), (2, .int v2)]) hx hb dX13_roundOf_14 hl (k := 3) rfl e_6 (by decide) rfl (fun ls hl => ?_)
        refine lv_goto (tgt := 2) hx hb dX13_roundOf_17 (by decide) ?_
        exact ih2 v1 v2 x_5 u_2 _ _ _ (lv_sub hl [1, 2, 3, 0] rfl) hH hF
  refine hL2 _ (fun v1 v2 v3 u H locs ls hl hH hF => ?_) fuel a0 a1 0 u _ _ _ (lv_sub hl [1, 2, 3, 0] rfl) hH hF
  refine lv_iload_n hx hb dX13_roundOf_20 rfl (lv_at hl 3 rfl) ?_
  have hF := prt_eq hF
  exact mr_i hC hH hr hF dX13_roundOf_21 hlocks
def f_halfOf (a0 : Int32) (a1 : Int32) : PG (Int32) := prd 13 4 a0 (fun x_1 => pcl (f_rounds a0) (fun r_4 => pog (gz (r_4 - 1)) (prt (((a1 - x_1) + 1) / (r_4 - 1)))))
set_option maxHeartbeats 4000000 in
set_option maxRecDepth 100000 in
theorem m_halfOf (l : Launch) (G : gG) (Z : gM) (Q : Nat → Nat) (u u1 : GS) (r : Int32) (a0 : Int32) (a1 : Int32) (sz : Nat) (hF : f_halfOf a0 a1 u = some (r, u1)) : Met l yX13_halfOf (Cond.code yX13_halfOf cX13_halfOf 3 (some .int) :: wM) { frames := 2, cells := 0, slots := 0, locals := 43 } (va_Pc [.ref (Q 72), .int a0, .int a1] (mPM G Z Q u.1 sz)) (mQi G Q u1.1 r sz) 0 0 (mA Q sz) := by
  refine Met.ofW (cc := cX13_halfOf) (maxL := 3) (ret := (some .int)) (by decide) rfl ?_
  intro p e s m args below meth c s₁ B hml hv
  obtain ⟨rfl, rfl, hP, hB, hD, hE⟩ := hv
  have hr := B.returns
  have hlocks := B.notSynchronized
  have hts := atoms_spec (ws := Cond.code yX13_halfOf cX13_halfOf 3 (some .int) :: wM) B.pre
  have hC : mX p c cX13_halfOf 3 s m _ G Z Q := ⟨B.exec, B.bytes, hml, findClass_of_methodNamed B.named, fun w h => hts w (List.mem_cons_of_mem _ h), hB, hE⟩
  have hx := hC.1
  have hb := hC.2.1
  have hH : mH G Q u.1 s s.heap [] := ⟨hP, hD, va_S.rf⟩
  have hl := lv_entry ([.ref (Q 72), .int a0, .int a1]) (n := 3) (Nat.le_of_ble_eq_true rfl)
  rw [lg_entry_eq]
  generalize (lg_sl ([.ref (Q 72), .int a0, .int a1]) ++ List.replicate (3 - (lg_sl ([.ref (Q 72), .int a0, .int a1])).length) Slot.unset).toArray = ls at hl ⊢
  have hl : lv_has ls 3 [(0, .ref (Q 72)), (1, .int a0), (2, .int a1)] := hl
  unfold f_halfOf at hF
  refine lv_iload_n hx hb dX13_halfOf_0 rfl (lv_at hl 2 rfl) ?_
  refine lv_aload_n hx hb dX13_halfOf_1 rfl (lv_at hl 0 rfl) ?_
  refine mg_13 hC hH dX13_halfOf_2 ?_
  refine lv_iload_n hx hb dX13_halfOf_5 rfl (lv_at hl 1 rfl) ?_
  obtain ⟨x_1, g_2, e_3, hF⟩ := prd_some hF
  refine ml_13 hC hH g_2 dX13_halfOf_6 ?_
  refine gx_ti e_3 ?_
  refine lv_isub hx hb dX13_halfOf_7 ?_
  refine lv_iconst (v := 1) hx hb dX13_halfOf_8 (by decide) ?_
  refine lv_iadd hx hb dX13_halfOf_9 ?_
  refine lv_aload_n hx hb dX13_halfOf_10 rfl (lv_at hl 0 rfl) ?_
  refine lv_iload_n hx hb dX13_halfOf_11 rfl (lv_at hl 1 rfl) ?_
  obtain ⟨r_4, u_5, h_6, hF⟩ := pcl_some hF
  refine mcV_i (As := [.int a0]) (rest := [.int ((a1 - x_1) + 1)]) hC hH (m_rounds l G Z Q u u_5 r_4 a0 _ h_6) kwX13_rounds kVX13_rounds ⟨Nat.le_of_ble_eq_true rfl, Nat.le_of_ble_eq_true rfl⟩ rfl hl.1 rfl (Nat.le_of_ble_eq_true rfl) dX13_halfOf_12 (fun H locs hH => ?_)
  refine lv_iconst (v := 1) hx hb dX13_halfOf_15 (by decide) ?_
  refine lv_isub hx hb dX13_halfOf_16 ?_
  obtain ⟨g_7, hF⟩ := pog_some hF
  refine lv_idiv hx hb dX13_halfOf_17 (gz_ne g_7) ?_
  have hF := prt_eq hF
  exact mr_i hC hH hr hF dX13_halfOf_18 hlocks
def f_stepOf (a0 : Int32) (a1 : Int32) : PG (Int32) := prd 13 4 a0 (fun x_1 => pcl (f_rounds a0) (fun r_4 => pog (gz (r_4 - 1)) (prt ((((a1 - x_1) + 1) - ((a1 - x_1) + 1) / (r_4 - 1) * (r_4 - 1)) + 1))))
set_option maxHeartbeats 4000000 in
set_option maxRecDepth 100000 in
theorem m_stepOf (l : Launch) (G : gG) (Z : gM) (Q : Nat → Nat) (u u1 : GS) (r : Int32) (a0 : Int32) (a1 : Int32) (sz : Nat) (hF : f_stepOf a0 a1 u = some (r, u1)) : Met l yX13_stepOf (Cond.code yX13_stepOf cX13_stepOf 3 (some .int) :: wM) { frames := 2, cells := 0, slots := 0, locals := 43 } (va_Pc [.ref (Q 72), .int a0, .int a1] (mPM G Z Q u.1 sz)) (mQi G Q u1.1 r sz) 0 0 (mA Q sz) := by
  refine Met.ofW (cc := cX13_stepOf) (maxL := 3) (ret := (some .int)) (by decide) rfl ?_
  intro p e s m args below meth c s₁ B hml hv
  obtain ⟨rfl, rfl, hP, hB, hD, hE⟩ := hv
  have hr := B.returns
  have hlocks := B.notSynchronized
  have hts := atoms_spec (ws := Cond.code yX13_stepOf cX13_stepOf 3 (some .int) :: wM) B.pre
  have hC : mX p c cX13_stepOf 3 s m _ G Z Q := ⟨B.exec, B.bytes, hml, findClass_of_methodNamed B.named, fun w h => hts w (List.mem_cons_of_mem _ h), hB, hE⟩
  have hx := hC.1
  have hb := hC.2.1
  have hH : mH G Q u.1 s s.heap [] := ⟨hP, hD, va_S.rf⟩
  have hl := lv_entry ([.ref (Q 72), .int a0, .int a1]) (n := 3) (Nat.le_of_ble_eq_true rfl)
  rw [lg_entry_eq]
  generalize (lg_sl ([.ref (Q 72), .int a0, .int a1]) ++ List.replicate (3 - (lg_sl ([.ref (Q 72), .int a0, .int a1])).length) Slot.unset).toArray = ls at hl ⊢
  have hl : lv_has ls 3 [(0, .ref (Q 72)), (1, .int a0), (2, .int a1)] := hl
  unfold f_stepOf at hF
  refine lv_iload_n hx hb dX13_stepOf_0 rfl (lv_at hl 2 rfl) ?_
  refine lv_aload_n hx hb dX13_stepOf_1 rfl (lv_at hl 0 rfl) ?_
  refine mg_13 hC hH dX13_stepOf_2 ?_
  refine lv_iload_n hx hb dX13_stepOf_5 rfl (lv_at hl 1 rfl) ?_
  obtain ⟨x_1, g_2, e_3, hF⟩ := prd_some hF
  refine ml_13 hC hH g_2 dX13_stepOf_6 ?_
  refine gx_ti e_3 ?_
  refine lv_isub hx hb dX13_stepOf_7 ?_
  refine lv_iconst (v := 1) hx hb dX13_stepOf_8 (by decide) ?_
  refine lv_iadd hx hb dX13_stepOf_9 ?_
  refine lv_aload_n hx hb dX13_stepOf_10 rfl (lv_at hl 0 rfl) ?_
  refine lv_iload_n hx hb dX13_stepOf_11 rfl (lv_at hl 1 rfl) ?_
  obtain ⟨r_4, u_5, h_6, hF⟩ := pcl_some hF
  refine mcV_i (As := [.int a0]) (rest := [.int ((a1 - x_1) + 1)]) hC hH (m_rounds l G Z Q u u_5 r_4 a0 _ h_6) kwX13_rounds kVX13_rounds ⟨Nat.le_of_ble_eq_true rfl, Nat.le_of_ble_eq_true rfl⟩ rfl hl.1 rfl (Nat.le_of_ble_eq_true rfl) dX13_stepOf_12 (fun H locs hH => ?_)
  refine lv_iconst (v := 1) hx hb dX13_stepOf_15 (by decide) ?_
  refine lv_isub hx hb dX13_stepOf_16 ?_
  obtain ⟨g_7, hF⟩ := pog_some hF
  refine lv_irem hx hb dX13_stepOf_17 (gz_ne g_7) ?_
  refine lv_iconst (v := 1) hx hb dX13_stepOf_18 (by decide) ?_
  refine lv_iadd hx hb dX13_stepOf_19 ?_
  have hF := prt_eq hF
  exact mr_i hC hH hr hF dX13_stepOf_20 hlocks
def lp_pair_6 : Nat → Int32 → Int32 → Int32 → Int32 → Int32 → (Int32 → Int32 → Int32 → Int32 → Int32 → PG (Int32)) → PG (Int32)
  | 0, _, _, _, _, _, _ => fun _ => none
  | n6 + 1, v1, v2, v3, v4, v5, K6_40 => prd 13 4 v1 (fun x_1 => (if v4 < (x_1 - v5) then K6_40 v1 v2 v3 v4 v5 else prd 13 4 v1 (fun x_5 => pli (v4 - (x_5 - v5)) (fun x_8 => pli (v5 + 1) (fun x_10 => lp_pair_6 n6 v1 v2 v3 x_8 x_10 K6_40)))))
def f_pair (a0 : Int32) (a1 : Int32) (a2 : Int32) : PG (Int32) := lp_pair_6 fuel a0 a1 a2 a1 1 (fun v1 v2 v3 v4 v5 => (if v3 = 0 then prt v4 else prt (v4 + v5)))
set_option maxHeartbeats 4000000 in
set_option maxRecDepth 100000 in
theorem m_pair (l : Launch) (G : gG) (Z : gM) (Q : Nat → Nat) (u u1 : GS) (r : Int32) (a0 : Int32) (a1 : Int32) (a2 : Int32) (sz : Nat) (hF : f_pair a0 a1 a2 u = some (r, u1)) : Met l yX13_pair (Cond.code yX13_pair cX13_pair 6 (some .int) :: wM) { frames := 0, cells := 0, slots := 0, locals := 0 } (va_Pc [.ref (Q 72), .int a0, .int a1, .int a2] (mPM G Z Q u.1 sz)) (mQi G Q u1.1 r sz) 0 0 (mA Q sz) := by
  refine Met.ofW (cc := cX13_pair) (maxL := 6) (ret := (some .int)) (by decide) rfl ?_
  intro p e s m args below meth c s₁ B hml hv
  obtain ⟨rfl, rfl, hP, hB, hD, hE⟩ := hv
  have hr := B.returns
  have hlocks := B.notSynchronized
  have hts := atoms_spec (ws := Cond.code yX13_pair cX13_pair 6 (some .int) :: wM) B.pre
  have hC : mX p c cX13_pair 6 s m _ G Z Q := ⟨B.exec, B.bytes, hml, findClass_of_methodNamed B.named, fun w h => hts w (List.mem_cons_of_mem _ h), hB, hE⟩
  have hx := hC.1
  have hb := hC.2.1
  have hH : mH G Q u.1 s s.heap [] := ⟨hP, hD, va_S.rf⟩
  have hl := lv_entry ([.ref (Q 72), .int a0, .int a1, .int a2]) (n := 6) (Nat.le_of_ble_eq_true rfl)
  rw [lg_entry_eq]
  generalize (lg_sl ([.ref (Q 72), .int a0, .int a1, .int a2]) ++ List.replicate (6 - (lg_sl ([.ref (Q 72), .int a0, .int a1, .int a2])).length) Slot.unset).toArray = ls at hl ⊢
  have hl : lv_has ls 6 [(0, .ref (Q 72)), (1, .int a0), (2, .int a1), (3, .int a2)] := hl
  unfold f_pair at hF
  refine lv_iload_n hx hb dX13_pair_0 rfl (lv_at hl 2 rfl) ?_
  refine lv_istore (lv' := [(4, .int a1), (0, .ref (Q 72)), (1, .int a0), (2, .int a1), (3, .int a2)]) hx hb dX13_pair_1 hl (by decide) rfl (fun ls hl => ?_)
  refine lv_iconst (v := 1) hx hb dX13_pair_3 (by decide) ?_
  refine lv_istore (lv' := [(5, .int 1), (4, .int a1), (0, .ref (Q 72)), (1, .int a0), (2, .int a1), (3, .int a2)]) hx hb dX13_pair_4 hl (by decide) rfl (fun ls hl => ?_)
  have hL6 : ∀ (K6_40 : Int32 → Int32 → Int32 → Int32 → Int32 → PG (Int32)), (∀ (v1 v2 v3 v4 v5 : Int32) (u : GS) (H : Heap) (locs : List Loc) (ls : Array Slot), lv_has ls 6 [(0, .ref (Q 72)), (1, .int v1), (2, .int v2), (3, .int v3), (4, .int v4), (5, .int v5)] → mH G Q u.1 s H locs → K6_40 v1 v2 v3 v4 v5 u = some ((r, u1)) → W p l e (headSpec (Cond.code yX13_pair cX13_pair 6 (some .int) :: wM) { frames := 0, cells := 0, slots := 0, locals := 0 }).room s m [.ref (Q 72), .int a0, .int a1, .int a2].toArray below meth c H locs 0 0 (MQ below (mQi G Q u1.1 r s.heap.size) [.ref (Q 72), .int a0, .int a1, .int a2].toArray s 0 0 (mA Q s.heap.size)) (F0 m 40 ls [])) → ∀ (n6 : Nat) (v1 v2 v3 v4 v5 : Int32) (u : GS) (H : Heap) (locs : List Loc) (ls : Array Slot), lv_has ls 6 [(0, .ref (Q 72)), (1, .int v1), (2, .int v2), (3, .int v3), (4, .int v4), (5, .int v5)] → mH G Q u.1 s H locs → lp_pair_6 n6 v1 v2 v3 v4 v5 K6_40 u = some ((r, u1)) → W p l e (headSpec (Cond.code yX13_pair cX13_pair 6 (some .int) :: wM) { frames := 0, cells := 0, slots := 0, locals := 0 }).room s m [.ref (Q 72), .int a0, .int a1, .int a2].toArray below meth c H locs 0 0 (MQ below (mQi G Q u1.1 r s.heap.size) [.ref (Q 72), .int a0, .int a1, .int a2].toArray s 0 0 (mA Q s.heap.size)) (F0 m 6 ls []) := by
    intro K6_40 hK6_40 n6
    induction n6 with
    | zero => intro v1 v2 v3 v4 v5 u H locs ls hl hH hF; cases hF
    | succ n6 ih6 =>
      intro v1 v2 v3 v4 v5 u H locs ls hl hH hF
      unfold lp_pair_6 at hF
      refine lv_iload hx hb dX13_pair_6 (lv_at hl 4 rfl) ?_
      refine lv_aload_n hx hb dX13_pair_8 rfl (lv_at hl 0 rfl) ?_
      refine mg_13 hC hH dX13_pair_9 ?_
      refine lv_iload_n hx hb dX13_pair_12 rfl (lv_at hl 1 rfl) ?_
      obtain ⟨x_1, g_2, e_3, hF⟩ := prd_some hF
      refine ml_13 hC hH g_2 dX13_pair_13 ?_
      refine gx_ti e_3 ?_
      refine lv_iload hx hb dX13_pair_14 (lv_at hl 5 rfl) ?_
      refine lv_isub hx hb dX13_pair_16 ?_
      refine lv_icmp_lt (tgt := 40) hx hb dX13_pair_17 (by decide) (fun c_4 => ?_) (fun c_4 => ?_)
      · rw [if_pos c_4] at hF
        exact hK6_40 v1 v2 v3 v4 v5 u _ _ _ (lv_sub hl [0, 1, 2, 3, 4, 5] rfl) hH hF
      · rw [if_neg c_4] at hF
        refine lv_iload hx hb dX13_pair_20 (lv_at hl 4 rfl) ?_
        refine lv_aload_n hx hb dX13_pair_22 rfl (lv_at hl 0 rfl) ?_
        refine mg_13 hC hH dX13_pair_23 ?_
        refine lv_iload_n hx hb dX13_pair_26 rfl (lv_at hl 1 rfl) ?_
        obtain ⟨x_5, g_6, e_7, hF⟩ := prd_some hF
        refine ml_13 hC hH g_6 dX13_pair_27 ?_
        refine gx_ti e_7 ?_
        refine lv_iload hx hb dX13_pair_28 (lv_at hl 5 rfl) ?_
        refine lv_isub hx hb dX13_pair_30 ?_
        refine lv_isub hx hb dX13_pair_31 ?_
        obtain ⟨x_8, e_9, hF⟩ := pli_some hF
        refine gx_ti e_9 ?_
        refine lv_istore (lv' := [(4, .int x_8), (0, .ref (Q 72)), (1, .int v1), (2, .int v2), (3, .int v3), (5, .int v5)]) hx hb dX13_pair_32 hl (by decide) rfl (fun ls hl => ?_)
        obtain ⟨x_10, e_11, hF⟩ := pli_some hF
        refine lv_iinc (v := x_10) (lv' := [(5, .int x_10), (4, .int x_8), (0, .ref (Q 72)), (1, .int v1), (2, .int v2), (3, .int v3)]) hx hb dX13_pair_34 hl (k := 5) rfl e_11 (by decide) rfl (fun ls hl => ?_)
        refine lv_goto (tgt := 6) hx hb dX13_pair_37 (by decide) ?_
        exact ih6 v1 v2 v3 x_8 x_10 u _ _ _ (lv_sub hl [2, 3, 4, 5, 1, 0] rfl) hH hF
  refine hL6 _ (fun v1 v2 v3 v4 v5 u H locs ls hl hH hF => ?_) fuel a0 a1 a2 a1 1 u _ _ _ (lv_sub hl [2, 3, 4, 5, 1, 0] rfl) hH hF
  refine lv_iload_n hx hb dX13_pair_40 rfl (lv_at hl 3 rfl) ?_
  refine lv_if_ne (tgt := 49) hx hb dX13_pair_41 (by decide) (fun c_12 => ?_) (fun c_12 => ?_)
  · rw [if_neg c_12] at hF
    refine lv_iload hx hb dX13_pair_49 (lv_at hl 4 rfl) ?_
    refine lv_iload hx hb dX13_pair_51 (lv_at hl 5 rfl) ?_
    refine lv_iadd hx hb dX13_pair_53 ?_
    have hF := prt_eq hF
    exact mr_i hC hH hr hF dX13_pair_54 hlocks
  · rw [if_pos c_12] at hF
    refine lv_iload hx hb dX13_pair_44 (lv_at hl 4 rfl) ?_
    refine lv_goto (tgt := 54) hx hb dX13_pair_46 (by decide) ?_
    have hF := prt_eq hF
    exact mr_i hC hH hr hF dX13_pair_54 hlocks

