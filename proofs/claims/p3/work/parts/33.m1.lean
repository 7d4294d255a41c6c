def f_in (a0 : Int64) (a1 : Int64) (a2 : Int64) (u : MS) : Option (Int32 × MS) := (if (lg_cmp a0 a1) < 0 then some (0, u) else (if 0 < (lg_cmp a0 a2) then some (0, u) else some (1, u)))
set_option maxHeartbeats 4000000 in
set_option maxRecDepth 100000 in
theorem m_in (l : Launch) (G : gG) (Z : gM) (Q : Nat → Nat) (u u1 : MS) (r : Int32) (a0 : Int64) (a1 : Int64) (a2 : Int64) (sz : Nat) (hF : f_in a0 a1 a2 u = some (r, u1)) : Met l yX13_in (Cond.code yX13_in cX13_in 6 (some .boolean) :: wM) { frames := 0, cells := 0, slots := 0, locals := 0 } (va_Pc [.long a0, .long a1, .long a2] (mPM G Z Q u sz)) (mQi G Q u1 r sz) 0 0 (mA Q sz) := by
  refine Met.ofW (cc := cX13_in) (maxL := 6) (ret := (some .boolean)) (by decide) rfl ?_
  intro p e s m args below meth c s₁ B hml hv
  obtain ⟨rfl, rfl, hP, hB, hD, hE⟩ := hv
  have hr := B.returns
  have hlocks := B.notSynchronized
  have hts := atoms_spec (ws := Cond.code yX13_in cX13_in 6 (some .boolean) :: wM) B.pre
  have hC : mX p c cX13_in 6 s m _ G Z Q := ⟨B.exec, B.bytes, hml, findClass_of_methodNamed B.named, fun w h => hts w (List.mem_cons_of_mem _ h), hB, hE⟩
  have hx := hC.1
  have hb := hC.2.1
  have hH : mH G Q u s s.heap [] := ⟨hP, hD, va_S.rf⟩
  have hl := lv_entry ([.long a0, .long a1, .long a2]) (n := 6) (Nat.le_of_ble_eq_true rfl)
  rw [lg_entry_eq]
  generalize (lg_sl ([.long a0, .long a1, .long a2]) ++ List.replicate (6 - (lg_sl ([.long a0, .long a1, .long a2])).length) Slot.unset).toArray = ls at hl ⊢
  have hl : lv_has ls 6 [(0, .long a0), (2, .long a1), (4, .long a2)] := hl
  unfold f_in at hF
  refine lv_lload_n hx hb dX13_in_0 rfl (lv_at hl 0 rfl) ?_
  refine lv_lload_n hx hb dX13_in_1 rfl (lv_at hl 1 rfl) ?_
  refine W.lcmp hx hb dX13_in_2 ?_
  refine lv_if_lt (tgt := 17) hx hb dX13_in_3 (by decide) (fun c_1 => ?_) (fun c_1 => ?_)
  · rw [if_pos c_1] at hF
    refine lv_iconst (v := 0) hx hb dX13_in_17 (by decide) ?_
    exact mr_z hC hH hr rfl hF dX13_in_18 hlocks
  · rw [if_neg c_1] at hF
    refine lv_lload_n hx hb dX13_in_6 rfl (lv_at hl 0 rfl) ?_
    refine lv_lload hx hb dX13_in_7 (lv_at hl 2 rfl) ?_
    refine W.lcmp hx hb dX13_in_9 ?_
    refine lv_if_gt (tgt := 17) hx hb dX13_in_10 (by decide) (fun c_2 => ?_) (fun c_2 => ?_)
    · rw [if_pos c_2] at hF
      refine lv_iconst (v := 0) hx hb dX13_in_17 (by decide) ?_
      exact mr_z hC hH hr rfl hF dX13_in_18 hlocks
    · rw [if_neg c_2] at hF
      refine lv_iconst (v := 1) hx hb dX13_in_13 (by decide) ?_
      refine lv_goto (tgt := 18) hx hb dX13_in_14 (by decide) ?_
      exact mr_z hC hH hr rfl hF dX13_in_18 hlocks
def f_isClass (a0 : Int32) (u : MS) : Option (Int32 × MS) := ob (f_in a0.toInt64 0 3 u) (fun r_1 u_2 => og (gb r_1) (some (r_1, u_2)))
set_option maxHeartbeats 4000000 in
set_option maxRecDepth 100000 in
theorem m_isClass (l : Launch) (G : gG) (Z : gM) (Q : Nat → Nat) (u u1 : MS) (r : Int32) (a0 : Int32) (sz : Nat) (hF : f_isClass a0 u = some (r, u1)) : Met l yX13_isClass (Cond.code yX13_isClass cX13_isClass 1 (some .boolean) :: wM) { frames := 1, cells := 0, slots := 0, locals := 25 } (va_Pc [.int a0] (mPM G Z Q u sz)) (mQi G Q u1 r sz) 0 0 (mA Q sz) := by
  refine Met.ofW (cc := cX13_isClass) (maxL := 1) (ret := (some .boolean)) (by decide) rfl ?_
  intro p e s m args below meth c s₁ B hml hv
  obtain ⟨rfl, rfl, hP, hB, hD, hE⟩ := hv
  have hr := B.returns
  have hlocks := B.notSynchronized
  have hts := atoms_spec (ws := Cond.code yX13_isClass cX13_isClass 1 (some .boolean) :: wM) B.pre
  have hC : mX p c cX13_isClass 1 s m _ G Z Q := ⟨B.exec, B.bytes, hml, findClass_of_methodNamed B.named, fun w h => hts w (List.mem_cons_of_mem _ h), hB, hE⟩
  have hx := hC.1
  have hb := hC.2.1
  have hH : mH G Q u s s.heap [] := ⟨hP, hD, va_S.rf⟩
  have hl := lv_entry ([.int a0]) (n := 1) (Nat.le_of_ble_eq_true rfl)
  rw [lg_entry_eq]
  generalize (lg_sl ([.int a0]) ++ List.replicate (1 - (lg_sl ([.int a0])).length) Slot.unset).toArray = ls at hl ⊢
  have hl : lv_has ls 1 [(0, .int a0)] := hl
  unfold f_isClass at hF
  refine lv_iload_n hx hb dX13_isClass_0 rfl (lv_at hl 0 rfl) ?_
  refine lv_i2l (v := a0.toInt64) hx hb dX13_isClass_1 rfl ?_
  refine lv_lconst (v := 0) hx hb dX13_isClass_2 (by decide) ?_
  refine lv_ldc2 (v := 3) hx hb hC.2.2.2.1 (hC.2.2.2.2.1 _ wma141) dX13_isClass_3 ?_
  obtain ⟨r_1, u_2, h_3, hF⟩ := ob_some hF
  refine mcS_i (As := [.long a0.toInt64, .long 0, .long 3]) (rest := []) hC hH (m_in l G Z Q u u_2 r_1 a0.toInt64 0 3 _ h_3) kwX13_in kVX13_in ⟨Nat.le_of_ble_eq_true rfl, Nat.le_of_ble_eq_true rfl⟩ rfl hl.1 rfl (Nat.le_of_ble_eq_true rfl) dX13_isClass_6 (fun H locs hH => ?_)
  obtain ⟨g_4, hF⟩ := og_some hF
  exact mr_z hC hH hr g_4 hF dX13_isClass_9 hlocks
def lp_halving_2 : Nat → Int32 → Int32 → MS → (Int32 → Int32 → MS → Option (Int32 × MS)) → Option (Int32 × MS)
  | 0, _, _, _, _ => none
  | n2 + 1, v1, v2, u, K2_20 => og (gi v1 4) ((if (ra u 13 v1) ≤ (1 <<< (v2 &&& 31)) then K2_20 v1 v2 u else li (v2 + 1) (fun x_3 => lp_halving_2 n2 v1 x_3 u K2_20)))
def f_halving (a0 : Int32) (u : MS) : Option (Int32 × MS) := lp_halving_2 fuel a0 0 u (fun v1 v2 u => some (v2, u))
set_option maxHeartbeats 4000000 in
set_option maxRecDepth 100000 in
theorem m_halving (l : Launch) (G : gG) (Z : gM) (Q : Nat → Nat) (u u1 : MS) (r : Int32) (a0 : Int32) (sz : Nat) (hF : f_halving a0 u = some (r, u1)) : Met l yX13_halving (Cond.code yX13_halving cX13_halving 3 (some .int) :: wM) { frames := 0, cells := 0, slots := 0, locals := 0 } (va_Pc [.ref (Q 72), .int a0] (mPM G Z Q u sz)) (mQi G Q u1 r sz) 0 0 (mA Q sz) := by
  refine Met.ofW (cc := cX13_halving) (maxL := 3) (ret := (some .int)) (by decide) rfl ?_
  intro p e s m args below meth c s₁ B hml hv
  obtain ⟨rfl, rfl, hP, hB, hD, hE⟩ := hv
  have hr := B.returns
  have hlocks := B.notSynchronized
  have hts := atoms_spec (ws := Cond.code yX13_halving cX13_halving 3 (some .int) :: wM) B.pre
  have hC : mX p c cX13_halving 3 s m _ G Z Q := ⟨B.exec, B.bytes, hml, findClass_of_methodNamed B.named, fun w h => hts w (List.mem_cons_of_mem _ h), hB, hE⟩
  have hx := hC.1
  have hb := hC.2.1
  have hH : mH G Q u s s.heap [] := ⟨hP, hD, va_S.rf⟩
  have hl := lv_entry ([.ref (Q 72), .int a0]) (n := 3) (Nat.le_of_ble_eq_true rfl)
  rw [lg_entry_eq]
  generalize (lg_sl ([.ref (Q 72), .int a0]) ++ List.replicate (3 - (lg_sl ([.ref (Q 72), .int a0])).length) Slot.unset).toArray = ls at hl ⊢
  have hl : lv_has ls 3 [(0, .ref (Q 72)), (1, .int a0)] := hl
  unfold f_halving at hF
  refine lv_iconst (v := 0) hx hb dX13_halving_0 (by decide) ?_
  refine lv_istore_n (lv' := [(2, .int 0), (0, .ref (Q 72)), (1, .int a0)]) hx hb dX13_halving_1 rfl hl (by decide) rfl (fun ls hl => ?_)
  have hL2 : ∀ (K2_20 : Int32 → Int32 → MS → Option (Int32 × MS)), (∀ (v1 v2 : Int32) (u : MS) (H : Heap) (locs : List Loc) (ls : Array Slot), lv_has ls 3 [(0, .ref (Q 72)), (1, .int v1), (2, .int v2)] → mH G Q u s H locs → K2_20 v1 v2 u = some ((r, u1)) → W p l e (headSpec (Cond.code yX13_halving cX13_halving 3 (some .int) :: wM) { frames := 0, cells := 0, slots := 0, locals := 0 }).room s m [.ref (Q 72), .int a0].toArray below meth c H locs 0 0 (MQ below (mQi G Q u1 r s.heap.size) [.ref (Q 72), .int a0].toArray s 0 0 (mA Q s.heap.size)) (F0 m 20 ls [])) → ∀ (n2 : Nat) (v1 v2 : Int32) (u : MS) (H : Heap) (locs : List Loc) (ls : Array Slot), lv_has ls 3 [(0, .ref (Q 72)), (1, .int v1), (2, .int v2)] → mH G Q u s H locs → lp_halving_2 n2 v1 v2 u K2_20 = some ((r, u1)) → W p l e (headSpec (Cond.code yX13_halving cX13_halving 3 (some .int) :: wM) { frames := 0, cells := 0, slots := 0, locals := 0 }).room s m [.ref (Q 72), .int a0].toArray below meth c H locs 0 0 (MQ below (mQi G Q u1 r s.heap.size) [.ref (Q 72), .int a0].toArray s 0 0 (mA Q s.heap.size)) (F0 m 2 ls []) := by
    intro K2_20 hK2_20 n2
    induction n2 with
    | zero => intro v1 v2 u H locs ls hl hH hF; cases hF
    | succ n2 ih2 =>
      intro v1 v2 u H locs ls hl hH hF
      unfold lp_halving_2 at hF
      refine lv_iconst (v := 1) hx hb dX13_halving_2 (by decide) ?_
      refine lv_iload_n hx hb dX13_halving_3 rfl (lv_at hl 2 rfl) ?_
      refine lv_ishl hx hb dX13_halving_4 ?_
      refine lv_aload_n hx hb dX13_halving_5 rfl (lv_at hl 0 rfl) ?_
      refine mg_13 hC hH dX13_halving_6 ?_
      refine lv_iload_n hx hb dX13_halving_9 rfl (lv_at hl 1 rfl) ?_
      obtain ⟨g_1, hF⟩ := og_some hF
      refine ml_13 hC hH g_1 dX13_halving_10 ?_
      refine lv_icmp_ge (tgt := 20) hx hb dX13_halving_11 (by decide) (fun c_2 => ?_) (fun c_2 => ?_)
      · rw [if_pos c_2] at hF
        exact hK2_20 v1 v2 u _ _ _ (lv_sub hl [0, 1, 2] rfl) hH hF
      · rw [if_neg c_2] at hF
        obtain ⟨x_3, e_4, hF⟩ := li_some hF
        refine lv_iinc (v := x_3) (lv' := [(2, .int x_3), (0, .ref (Q 72)), (1, .int v1)]) hx hb dX13_halving_14 hl (k := 2) rfl e_4 (by decide) rfl (fun ls hl => ?_)
        refine lv_goto (tgt := 2) hx hb dX13_halving_17 (by decide) ?_
        exact ih2 v1 x_3 u _ _ _ (lv_sub hl [1, 2, 0] rfl) hH hF
  refine hL2 _ (fun v1 v2 u H locs ls hl hH hF => ?_) fuel a0 0 u _ _ _ (lv_sub hl [1, 2, 0] rfl) hH hF
  refine lv_iload_n hx hb dX13_halving_20 rfl (lv_at hl 2 rfl) ?_
  exact mr_i hC hH hr hF dX13_halving_21 hlocks
def f_rounds (a0 : Int32) (u : MS) : Option (Int32 × MS) := ob (f_halving a0 u) (fun r_1 u_2 => some (r_1 - 1, u_2))
set_option maxHeartbeats 4000000 in
set_option maxRecDepth 100000 in
theorem m_rounds (l : Launch) (G : gG) (Z : gM) (Q : Nat → Nat) (u u1 : MS) (r : Int32) (a0 : Int32) (sz : Nat) (hF : f_rounds a0 u = some (r, u1)) : Met l yX13_rounds (Cond.code yX13_rounds cX13_rounds 2 (some .int) :: wM) { frames := 1, cells := 0, slots := 0, locals := 22 } (va_Pc [.ref (Q 72), .int a0] (mPM G Z Q u sz)) (mQi G Q u1 r sz) 0 0 (mA Q sz) := by
  refine Met.ofW (cc := cX13_rounds) (maxL := 2) (ret := (some .int)) (by decide) rfl ?_
  intro p e s m args below meth c s₁ B hml hv
  obtain ⟨rfl, rfl, hP, hB, hD, hE⟩ := hv
  have hr := B.returns
  have hlocks := B.notSynchronized
  have hts := atoms_spec (ws := Cond.code yX13_rounds cX13_rounds 2 (some .int) :: wM) B.pre
  have hC : mX p c cX13_rounds 2 s m _ G Z Q := ⟨B.exec, B.bytes, hml, findClass_of_methodNamed B.named, fun w h => hts w (List.mem_cons_of_mem _ h), hB, hE⟩
  have hx := hC.1
  have hb := hC.2.1
  have hH : mH G Q u s s.heap [] := ⟨hP, hD, va_S.rf⟩
  have hl := lv_entry ([.ref (Q 72), .int a0]) (n := 2) (Nat.le_of_ble_eq_true rfl)
  rw [lg_entry_eq]
  generalize (lg_sl ([.ref (Q 72), .int a0]) ++ List.replicate (2 - (lg_sl ([.ref (Q 72), .int a0])).length) Slot.unset).toArray = ls at hl ⊢
  have hl : lv_has ls 2 [(0, .ref (Q 72)), (1, .int a0)] := hl
  unfold f_rounds at hF
  refine lv_aload_n hx hb dX13_rounds_0 rfl (lv_at hl 0 rfl) ?_
  refine lv_iload_n hx hb dX13_rounds_1 rfl (lv_at hl 1 rfl) ?_
  obtain ⟨r_1, u_2, h_3, hF⟩ := ob_some hF
  refine mcV_i (As := [.int a0]) (rest := []) hC hH (m_halving l G Z Q u u_2 r_1 a0 _ h_3) kwX13_halving kVX13_halving ⟨Nat.le_of_ble_eq_true rfl, Nat.le_of_ble_eq_true rfl⟩ rfl hl.1 rfl (Nat.le_of_ble_eq_true rfl) dX13_rounds_2 (fun H locs hH => ?_)
  refine lv_iconst (v := 1) hx hb dX13_rounds_5 (by decide) ?_
  refine lv_isub hx hb dX13_rounds_6 ?_
  exact mr_i hC hH hr hF dX13_rounds_7 hlocks
def f_fights (a0 : Int32) (u : MS) : Option (Int32 × MS) := og (gi a0 4) (li (ra u 13 a0) (fun x_2 => og (gi a0 4) ((if (ra u 12 a0) = 0 then some (0, u) else og (gi a0 4) ((if (ra u 12 a0) = 1 then some ((x_2 * (x_2 - 1)) / 2, u) else ob (f_rounds a0 u) (fun r_8 u_9 => some ((x_2 - 1) + (2 * (r_8 - 1)), u_9))))))))
set_option maxHeartbeats 4000000 in
set_option maxRecDepth 100000 in
theorem m_fights (l : Launch) (G : gG) (Z : gM) (Q : Nat → Nat) (u u1 : MS) (r : Int32) (a0 : Int32) (sz : Nat) (hF : f_fights a0 u = some (r, u1)) : Met l yX13_fights (Cond.code yX13_fights cX13_fights 3 (some .int) :: wM) { frames := 2, cells := 0, slots := 0, locals := 43 } (va_Pc [.ref (Q 72), .int a0] (mPM G Z Q u sz)) (mQi G Q u1 r sz) 0 0 (mA Q sz) := by
  refine Met.ofW (cc := cX13_fights) (maxL := 3) (ret := (some .int)) (by decide) rfl ?_
  intro p e s m args below meth c s₁ B hml hv
  obtain ⟨rfl, rfl, hP, hB, hD, hE⟩ := hv
  have hr := B.returns
  have hlocks := B.notSynchronized
  have hts := atoms_spec (ws := Cond.code yX13_fights cX13_fights 3 (some .int) :: wM) B.pre
  have hC : mX p c cX13_fights 3 s m _ G Z Q := ⟨B.exec, B.bytes, hml, findClass_of_methodNamed B.named, fun w h => hts w (List.mem_cons_of_mem _ h), hB, hE⟩
  have hx := hC.1
  have hb := hC.2.1
  have hH : mH G Q u s s.heap [] := ⟨hP, hD, va_S.rf⟩
  have hl := lv_entry ([.ref (Q 72), .int a0]) (n := 3) (Nat.le_of_ble_eq_true rfl)
  rw [lg_entry_eq]
  generalize (lg_sl ([.ref (Q 72), .int a0]) ++ List.replicate (3 - (lg_sl ([.ref (Q 72), .int a0])).length) Slot.unset).toArray = ls at hl ⊢
  have hl : lv_has ls 3 [(0, .ref (Q 72)), (1, .int a0)] := hl
  unfold f_fights at hF
  refine lv_aload_n hx hb dX13_fights_0 rfl (lv_at hl 0 rfl) ?_
  refine mg_13 hC hH dX13_fights_1 ?_
  refine lv_iload_n hx hb dX13_fights_4 rfl (lv_at hl 1 rfl) ?_
  obtain ⟨g_1, hF⟩ := og_some hF
  refine ml_13 hC hH g_1 dX13_fights_5 ?_
  obtain ⟨x_2, e_3, hF⟩ := li_some hF
  refine gx_ti e_3 ?_
  refine lv_istore_n (lv' := [(2, .int x_2), (0, .ref (Q 72)), (1, .int a0)]) hx hb dX13_fights_6 rfl hl (by decide) rfl (fun ls hl => ?_)
  refine lv_aload_n hx hb dX13_fights_7 rfl (lv_at hl 1 rfl) ?_
  refine mg_12 hC hH dX13_fights_8 ?_
  refine lv_iload_n hx hb dX13_fights_11 rfl (lv_at hl 2 rfl) ?_
  obtain ⟨g_4, hF⟩ := og_some hF
  refine ml_12 hC hH g_4 dX13_fights_12 ?_
  refine lv_if_ne (tgt := 20) hx hb dX13_fights_13 (by decide) (fun c_5 => ?_) (fun c_5 => ?_)
  · rw [if_neg c_5] at hF
    refine lv_aload_n hx hb dX13_fights_20 rfl (lv_at hl 1 rfl) ?_
    refine mg_12 hC hH dX13_fights_21 ?_
    refine lv_iload_n hx hb dX13_fights_24 rfl (lv_at hl 2 rfl) ?_
    obtain ⟨g_6, hF⟩ := og_some hF
    refine ml_12 hC hH g_6 dX13_fights_25 ?_
    refine lv_iconst (v := 1) hx hb dX13_fights_26 (by decide) ?_
    refine lv_icmp_ne (tgt := 40) hx hb dX13_fights_27 (by decide) (fun c_7 => ?_) (fun c_7 => ?_)
    · rw [if_neg c_7] at hF
      refine lv_iload_n hx hb dX13_fights_40 rfl (lv_at hl 0 rfl) ?_
      refine lv_iconst (v := 1) hx hb dX13_fights_41 (by decide) ?_
      refine lv_isub hx hb dX13_fights_42 ?_
      refine lv_iconst (v := 2) hx hb dX13_fights_43 (by decide) ?_
      refine lv_aload_n hx hb dX13_fights_44 rfl (lv_at hl 1 rfl) ?_
      refine lv_iload_n hx hb dX13_fights_45 rfl (lv_at hl 2 rfl) ?_
      obtain ⟨r_8, u_9, h_10, hF⟩ := ob_some hF
      refine mcV_i (As := [.int a0]) (rest := [.int 2, .int (x_2 - 1)]) hC hH (m_rounds l G Z Q u u_9 r_8 a0 _ h_10) kwX13_rounds kVX13_rounds ⟨Nat.le_of_ble_eq_true rfl, Nat.le_of_ble_eq_true rfl⟩ rfl hl.1 rfl (Nat.le_of_ble_eq_true rfl) dX13_fights_46 (fun H locs hH => ?_)
      refine lv_iconst (v := 1) hx hb dX13_fights_49 (by decide) ?_
      refine lv_isub hx hb dX13_fights_50 ?_
      refine lv_imul hx hb dX13_fights_51 ?_
      refine lv_iadd hx hb dX13_fights_52 ?_
      exact mr_i hC hH hr hF dX13_fights_53 hlocks
    · rw [if_pos c_7] at hF
      refine lv_iload_n hx hb dX13_fights_30 rfl (lv_at hl 0 rfl) ?_
      refine lv_iload_n hx hb dX13_fights_31 rfl (lv_at hl 0 rfl) ?_
      refine lv_iconst (v := 1) hx hb dX13_fights_32 (by decide) ?_
      refine lv_isub hx hb dX13_fights_33 ?_
      refine lv_imul hx hb dX13_fights_34 ?_
      refine lv_iconst (v := 2) hx hb dX13_fights_35 (by decide) ?_
      refine lv_idiv hx hb dX13_fights_36 (by decide) ?_
      refine lv_goto (tgt := 53) hx hb dX13_fights_37 (by decide) ?_
      exact mr_i hC hH hr hF dX13_fights_53 hlocks
  · rw [if_pos c_5] at hF
    refine lv_iconst (v := 0) hx hb dX13_fights_16 (by decide) ?_
    refine lv_goto (tgt := 53) hx hb dX13_fights_17 (by decide) ?_
    exact mr_i hC hH hr hF dX13_fights_53 hlocks
def f_isFight (a0 : Int32) (a1 : Int32) (u : MS) : Option (Int32 × MS) := ob (f_isClass a0 u) (fun r_1 u_2 => (if r_1 = 0 then some (0, u_2) else ob (f_fights a0 u_2) (fun r_5 u_6 => ob (f_in a1.toInt64 0 ((r_5.toInt64 : Int64) - (1 : Int64)) u_6) (fun r_8 u_9 => (if r_8 = 0 then some (0, u_9) else some (1, u_9))))))
set_option maxHeartbeats 4000000 in
set_option maxRecDepth 100000 in
theorem m_isFight (l : Launch) (G : gG) (Z : gM) (Q : Nat → Nat) (u u1 : MS) (r : Int32) (a0 : Int32) (a1 : Int32) (sz : Nat) (hF : f_isFight a0 a1 u = some (r, u1)) : Met l yX13_isFight (Cond.code yX13_isFight cX13_isFight 3 (some .boolean) :: wM) { frames := 3, cells := 0, slots := 0, locals := 65 } (va_Pc [.ref (Q 72), .int a0, .int a1] (mPM G Z Q u sz)) (mQi G Q u1 r sz) 0 0 (mA Q sz) := by
  refine Met.ofW (cc := cX13_isFight) (maxL := 3) (ret := (some .boolean)) (by decide) rfl ?_
  intro p e s m args below meth c s₁ B hml hv
  obtain ⟨rfl, rfl, hP, hB, hD, hE⟩ := hv
  have hr := B.returns
  have hlocks := B.notSynchronized
  have hts := atoms_spec (ws := Cond.code yX13_isFight cX13_isFight 3 (some .boolean) :: wM) B.pre
  have hC : mX p c cX13_isFight 3 s m _ G Z Q := ⟨B.exec, B.bytes, hml, findClass_of_methodNamed B.named, fun w h => hts w (List.mem_cons_of_mem _ h), hB, hE⟩
  have hx := hC.1
  have hb := hC.2.1
  have hH : mH G Q u s s.heap [] := ⟨hP, hD, va_S.rf⟩
  have hl := lv_entry ([.ref (Q 72), .int a0, .int a1]) (n := 3) (Nat.le_of_ble_eq_true rfl)
  rw [lg_entry_eq]
  generalize (lg_sl ([.ref (Q 72), .int a0, .int a1]) ++ List.replicate (3 - (lg_sl ([.ref (Q 72), .int a0, .int a1])).length) Slot.unset).toArray = ls at hl ⊢
  have hl : lv_has ls 3 [(0, .ref (Q 72)), (1, .int a0), (2, .int a1)] := hl
  unfold f_isFight at hF
  refine lv_iload_n hx hb dX13_isFight_0 rfl (lv_at hl 1 rfl) ?_
  obtain ⟨r_1, u_2, h_3, hF⟩ := ob_some hF
  refine mcS_i (As := [.int a0]) (rest := []) hC hH (m_isClass l G Z Q u u_2 r_1 a0 _ h_3) kwX13_isClass kVX13_isClass ⟨Nat.le_of_ble_eq_true rfl, Nat.le_of_ble_eq_true rfl⟩ rfl hl.1 rfl (Nat.le_of_ble_eq_true rfl) dX13_isFight_1 (fun H locs hH => ?_)
  refine lv_if_eq (tgt := 28) hx hb dX13_isFight_4 (by decide) (fun c_4 => ?_) (fun c_4 => ?_)
  · rw [if_pos c_4] at hF
    refine lv_iconst (v := 0) hx hb dX13_isFight_28 (by decide) ?_
    exact mr_z hC hH hr rfl hF dX13_isFight_29 hlocks
  · rw [if_neg c_4] at hF
    refine lv_iload_n hx hb dX13_isFight_7 rfl (lv_at hl 2 rfl) ?_
    refine lv_i2l (v := a1.toInt64) hx hb dX13_isFight_8 rfl ?_
    refine lv_lconst (v := 0) hx hb dX13_isFight_9 (by decide) ?_
    refine lv_aload_n hx hb dX13_isFight_10 rfl (lv_at hl 0 rfl) ?_
    refine lv_iload_n hx hb dX13_isFight_11 rfl (lv_at hl 1 rfl) ?_
    obtain ⟨r_5, u_6, h_7, hF⟩ := ob_some hF
    refine mcV_i (As := [.int a0]) (rest := [.long 0, .long a1.toInt64]) hC hH (m_fights l G Z Q u_2 u_6 r_5 a0 _ h_7) kwX13_fights kVX13_fights ⟨Nat.le_of_ble_eq_true rfl, Nat.le_of_ble_eq_true rfl⟩ rfl hl.1 rfl (Nat.le_of_ble_eq_true rfl) dX13_isFight_12 (fun H locs hH => ?_)
    refine lv_i2l (v := r_5.toInt64) hx hb dX13_isFight_15 rfl ?_
    refine lv_lconst (v := 1) hx hb dX13_isFight_16 (by decide) ?_
    refine lv_lsub hx hb dX13_isFight_17 ?_
    obtain ⟨r_8, u_9, h_10, hF⟩ := ob_some hF
    refine mcS_i (As := [.long a1.toInt64, .long 0, .long ((r_5.toInt64 : Int64) - (1 : Int64))]) (rest := []) hC hH (m_in l G Z Q u_6 u_9 r_8 a1.toInt64 0 ((r_5.toInt64 : Int64) - (1 : Int64)) _ h_10) kwX13_in kVX13_in ⟨Nat.le_of_ble_eq_true rfl, Nat.le_of_ble_eq_true rfl⟩ rfl hl.1 rfl (Nat.le_of_ble_eq_true rfl) dX13_isFight_18 (fun H locs hH => ?_)
    refine lv_if_eq (tgt := 28) hx hb dX13_isFight_21 (by decide) (fun c_11 => ?_) (fun c_11 => ?_)
    · rw [if_pos c_11] at hF
      refine lv_iconst (v := 0) hx hb dX13_isFight_28 (by decide) ?_
      exact mr_z hC hH hr rfl hF dX13_isFight_29 hlocks
    · rw [if_neg c_11] at hF
      refine lv_iconst (v := 1) hx hb dX13_isFight_24 (by decide) ?_
      refine lv_goto (tgt := 29) hx hb dX13_isFight_25 (by decide) ?_
      exact mr_z hC hH hr rfl hF dX13_isFight_29 hlocks
def f_base (a0 : Int32) (a1 : Int32) (u : MS) : Option (Int32 × MS) := og (gi a0 4) (og (gi a0 4) (some ((ra u 13 a0) - ((ra u 13 a0) >>> (a1 &&& 31)), u)))
set_option maxHeartbeats 4000000 in
set_option maxRecDepth 100000 in
theorem m_base (l : Launch) (G : gG) (Z : gM) (Q : Nat → Nat) (u u1 : MS) (r : Int32) (a0 : Int32) (a1 : Int32) (sz : Nat) (hF : f_base a0 a1 u = some (r, u1)) : Met l yX13_base (Cond.code yX13_base cX13_base 3 (some .int) :: wM) { frames := 0, cells := 0, slots := 0, locals := 0 } (va_Pc [.ref (Q 72), .int a0, .int a1] (mPM G Z Q u sz)) (mQi G Q u1 r sz) 0 0 (mA Q sz) := by
  refine Met.ofW (cc := cX13_base) (maxL := 3) (ret := (some .int)) (by decide) rfl ?_
  intro p e s m args below meth c s₁ B hml hv
  obtain ⟨rfl, rfl, hP, hB, hD, hE⟩ := hv
  have hr := B.returns
  have hlocks := B.notSynchronized
  have hts := atoms_spec (ws := Cond.code yX13_base cX13_base 3 (some .int) :: wM) B.pre
  have hC : mX p c cX13_base 3 s m _ G Z Q := ⟨B.exec, B.bytes, hml, findClass_of_methodNamed B.named, fun w h => hts w (List.mem_cons_of_mem _ h), hB, hE⟩
  have hx := hC.1
  have hb := hC.2.1
  have hH : mH G Q u s s.heap [] := ⟨hP, hD, va_S.rf⟩
  have hl := lv_entry ([.ref (Q 72), .int a0, .int a1]) (n := 3) (Nat.le_of_ble_eq_true rfl)
  rw [lg_entry_eq]
  generalize (lg_sl ([.ref (Q 72), .int a0, .int a1]) ++ List.replicate (3 - (lg_sl ([.ref (Q 72), .int a0, .int a1])).length) Slot.unset).toArray = ls at hl ⊢
  have hl : lv_has ls 3 [(0, .ref (Q 72)), (1, .int a0), (2, .int a1)] := hl
  unfold f_base at hF
  refine lv_aload_n hx hb dX13_base_0 rfl (lv_at hl 0 rfl) ?_
  refine mg_13 hC hH dX13_base_1 ?_
  refine lv_iload_n hx hb dX13_base_4 rfl (lv_at hl 1 rfl) ?_
  obtain ⟨g_1, hF⟩ := og_some hF
  refine ml_13 hC hH g_1 dX13_base_5 ?_
  refine lv_aload_n hx hb dX13_base_6 rfl (lv_at hl 0 rfl) ?_
  refine mg_13 hC hH dX13_base_7 ?_
  refine lv_iload_n hx hb dX13_base_10 rfl (lv_at hl 1 rfl) ?_
  obtain ⟨g_2, hF⟩ := og_some hF
  refine ml_13 hC hH g_2 dX13_base_11 ?_
  refine lv_iload_n hx hb dX13_base_12 rfl (lv_at hl 2 rfl) ?_
  refine lv_ishr hx hb dX13_base_13 ?_
  refine lv_isub hx hb dX13_base_14 ?_
  exact mr_i hC hH hr hF dX13_base_15 hlocks
def f_isSecond (a0 : Int32) (a1 : Int32) (u : MS) : Option (Int32 × MS) := og (gi a0 4) ((if (ra u 12 a0) = 2 then og (gi a0 4) ((if a1 < ((ra u 13 a0) - 1) then some (0, u) else some (1, u))) else some (0, u)))
set_option maxHeartbeats 4000000 in
set_option maxRecDepth 100000 in
theorem m_isSecond (l : Launch) (G : gG) (Z : gM) (Q : Nat → Nat) (u u1 : MS) (r : Int32) (a0 : Int32) (a1 : Int32) (sz : Nat) (hF : f_isSecond a0 a1 u = some (r, u1)) : Met l yX13_isSecond (Cond.code yX13_isSecond cX13_isSecond 3 (some .boolean) :: wM) { frames := 0, cells := 0, slots := 0, locals := 0 } (va_Pc [.ref (Q 72), .int a0, .int a1] (mPM G Z Q u sz)) (mQi G Q u1 r sz) 0 0 (mA Q sz) := by
  refine Met.ofW (cc := cX13_isSecond) (maxL := 3) (ret := (some .boolean)) (by decide) rfl ?_
  intro p e s m args below meth c s₁ B hml hv
  obtain ⟨rfl, rfl, hP, hB, hD, hE⟩ := hv
  have hr := B.returns
  have hlocks := B.notSynchronized
  have hts := atoms_spec (ws := Cond.code yX13_isSecond cX13_isSecond 3 (some .boolean) :: wM) B.pre
  have hC : mX p c cX13_isSecond 3 s m _ G Z Q := ⟨B.exec, B.bytes, hml, findClass_of_methodNamed B.named, fun w h => hts w (List.mem_cons_of_mem _ h), hB, hE⟩
  have hx := hC.1
  have hb := hC.2.1
  have hH : mH G Q u s s.heap [] := ⟨hP, hD, va_S.rf⟩
  have hl := lv_entry ([.ref (Q 72), .int a0, .int a1]) (n := 3) (Nat.le_of_ble_eq_true rfl)
  rw [lg_entry_eq]
  generalize (lg_sl ([.ref (Q 72), .int a0, .int a1]) ++ List.replicate (3 - (lg_sl ([.ref (Q 72), .int a0, .int a1])).length) Slot.unset).toArray = ls at hl ⊢
  have hl : lv_has ls 3 [(0, .ref (Q 72)), (1, .int a0), (2, .int a1)] := hl
  unfold f_isSecond at hF
  refine lv_aload_n hx hb dX13_isSecond_0 rfl (lv_at hl 0 rfl) ?_
  refine mg_12 hC hH dX13_isSecond_1 ?_
  refine lv_iload_n hx hb dX13_isSecond_4 rfl (lv_at hl 1 rfl) ?_
  obtain ⟨g_1, hF⟩ := og_some hF
  refine ml_12 hC hH g_1 dX13_isSecond_5 ?_
  refine lv_iconst (v := 2) hx hb dX13_isSecond_6 (by decide) ?_
  refine lv_icmp_ne (tgt := 26) hx hb dX13_isSecond_7 (by decide) (fun c_2 => ?_) (fun c_2 => ?_)
  · rw [if_neg c_2] at hF
    refine lv_iconst (v := 0) hx hb dX13_isSecond_26 (by decide) ?_
    exact mr_z hC hH hr rfl hF dX13_isSecond_27 hlocks
  · rw [if_pos c_2] at hF
    refine lv_iload_n hx hb dX13_isSecond_10 rfl (lv_at hl 2 rfl) ?_
    refine lv_aload_n hx hb dX13_isSecond_11 rfl (lv_at hl 0 rfl) ?_
    refine mg_13 hC hH dX13_isSecond_12 ?_
    refine lv_iload_n hx hb dX13_isSecond_15 rfl (lv_at hl 1 rfl) ?_
    obtain ⟨g_3, hF⟩ := og_some hF
    refine ml_13 hC hH g_3 dX13_isSecond_16 ?_
    refine lv_iconst (v := 1) hx hb dX13_isSecond_17 (by decide) ?_
    refine lv_isub hx hb dX13_isSecond_18 ?_
    refine lv_icmp_lt (tgt := 26) hx hb dX13_isSecond_19 (by decide) (fun c_4 => ?_) (fun c_4 => ?_)
    · rw [if_pos c_4] at hF
      refine lv_iconst (v := 0) hx hb dX13_isSecond_26 (by decide) ?_
      exact mr_z hC hH hr rfl hF dX13_isSecond_27 hlocks
    · rw [if_neg c_4] at hF
      refine lv_iconst (v := 1) hx hb dX13_isSecond_22 (by decide) ?_
      refine lv_goto (tgt := 27) hx hb dX13_isSecond_23 (by decide) ?_
      exact mr_z hC hH hr rfl hF dX13_isSecond_27 hlocks
def f_finalOf (a0 : Int32) (u : MS) : Option (Int32 × MS) := og (gi a0 4) (some ((ra u 13 a0) - 2, u))
set_option maxHeartbeats 4000000 in
set_option maxRecDepth 100000 in
theorem m_finalOf (l : Launch) (G : gG) (Z : gM) (Q : Nat → Nat) (u u1 : MS) (r : Int32) (a0 : Int32) (sz : Nat) (hF : f_finalOf a0 u = some (r, u1)) : Met l yX13_finalOf (Cond.code yX13_finalOf cX13_finalOf 2 (some .int) :: wM) { frames := 0, cells := 0, slots := 0, locals := 0 } (va_Pc [.ref (Q 72), .int a0] (mPM G Z Q u sz)) (mQi G Q u1 r sz) 0 0 (mA Q sz) := by
  refine Met.ofW (cc := cX13_finalOf) (maxL := 2) (ret := (some .int)) (by decide) rfl ?_
  intro p e s m args below meth c s₁ B hml hv
  obtain ⟨rfl, rfl, hP, hB, hD, hE⟩ := hv
  have hr := B.returns
  have hlocks := B.notSynchronized
  have hts := atoms_spec (ws := Cond.code yX13_finalOf cX13_finalOf 2 (some .int) :: wM) B.pre
  have hC : mX p c cX13_finalOf 2 s m _ G Z Q := ⟨B.exec, B.bytes, hml, findClass_of_methodNamed B.named, fun w h => hts w (List.mem_cons_of_mem _ h), hB, hE⟩
  have hx := hC.1
  have hb := hC.2.1
  have hH : mH G Q u s s.heap [] := ⟨hP, hD, va_S.rf⟩
  have hl := lv_entry ([.ref (Q 72), .int a0]) (n := 2) (Nat.le_of_ble_eq_true rfl)
  rw [lg_entry_eq]
  generalize (lg_sl ([.ref (Q 72), .int a0]) ++ List.replicate (2 - (lg_sl ([.ref (Q 72), .int a0])).length) Slot.unset).toArray = ls at hl ⊢
  have hl : lv_has ls 2 [(0, .ref (Q 72)), (1, .int a0)] := hl
  unfold f_finalOf at hF
  refine lv_aload_n hx hb dX13_finalOf_0 rfl (lv_at hl 0 rfl) ?_
  refine mg_13 hC hH dX13_finalOf_1 ?_
  refine lv_iload_n hx hb dX13_finalOf_4 rfl (lv_at hl 1 rfl) ?_
  obtain ⟨g_1, hF⟩ := og_some hF
  refine ml_13 hC hH g_1 dX13_finalOf_5 ?_
  refine lv_iconst (v := 2) hx hb dX13_finalOf_6 (by decide) ?_
  refine lv_isub hx hb dX13_finalOf_7 ?_
  exact mr_i hC hH hr hF dX13_finalOf_8 hlocks
def lp_roundOf_2 : Nat → Int32 → Int32 → Int32 → MS → (Int32 → Int32 → Int32 → MS → Option (Int32 × MS)) → Option (Int32 × MS)
  | 0, _, _, _, _, _ => none
  | n2 + 1, v1, v2, v3, u, K2_20 => ob (f_base v1 (v3 + 1) u) (fun r_1 u_2 => (if v2 < r_1 then K2_20 v1 v2 v3 u_2 else li (v3 + 1) (fun x_5 => lp_roundOf_2 n2 v1 v2 x_5 u_2 K2_20)))
def f_roundOf (a0 : Int32) (a1 : Int32) (u : MS) : Option (Int32 × MS) := lp_roundOf_2 fuel a0 a1 0 u (fun v1 v2 v3 u => some (v3, u))
set_option maxHeartbeats 4000000 in
set_option maxRecDepth 100000 in
theorem m_roundOf (l : Launch) (G : gG) (Z : gM) (Q : Nat → Nat) (u u1 : MS) (r : Int32) (a0 : Int32) (a1 : Int32) (sz : Nat) (hF : f_roundOf a0 a1 u = some (r, u1)) : Met l yX13_roundOf (Cond.code yX13_roundOf cX13_roundOf 4 (some .int) :: wM) { frames := 1, cells := 0, slots := 0, locals := 22 } (va_Pc [.ref (Q 72), .int a0, .int a1] (mPM G Z Q u sz)) (mQi G Q u1 r sz) 0 0 (mA Q sz) := by
  refine Met.ofW (cc := cX13_roundOf) (maxL := 4) (ret := (some .int)) (by decide) rfl ?_
  intro p e s m args below meth c s₁ B hml hv
  obtain ⟨rfl, rfl, hP, hB, hD, hE⟩ := hv
  have hr := B.returns
  have hlocks := B.notSynchronized
  have hts := atoms_spec (ws := Cond.code yX13_roundOf cX13_roundOf 4 (some .int) :: wM) B.pre
  have hC : mX p c cX13_roundOf 4 s m _ G Z Q := ⟨B.exec, B.bytes, hml, findClass_of_methodNamed B.named, fun w h => hts w (List.mem_cons_of_mem _ h), hB, hE⟩
  have hx := hC.1
  have hb := hC.2.1
  have hH : mH G Q u s s.heap [] := ⟨hP, hD, va_S.rf⟩
  have hl := lv_entry ([.ref (Q 72), .int a0, .int a1]) (n := 4) (Nat.le_of_ble_eq_true rfl)
  rw [lg_entry_eq]
  generalize (lg_sl ([.ref (Q 72), .int a0, .int a1]) ++ List.replicate (4 - (lg_sl ([.ref (Q 72), .int a0, .int a1])).length) Slot.unset).toArray = ls at hl ⊢
  have hl : lv_has ls 4 [(0, .ref (Q 72)), (1, .int a0), (2, .int a1)] := hl
  unfold f_roundOf at hF
  refine lv_iconst (v := 0) hx hb dX13_roundOf_0 (by decide) ?_
  refine lv_istore_n (lv' := [(3, .int 0), (0, .ref (Q 72)), (1, .int a0), (2, .int a1)]) hx hb dX13_roundOf_1 rfl hl (by decide) rfl (fun ls hl => ?_)
  have hL2 : ∀ (K2_20 : Int32 → Int32 → Int32 → MS → Option (Int32 × MS)), (∀ (v1 v2 v3 : Int32) (u : MS) (H : Heap) (locs : List Loc) (ls : Array Slot), lv_has ls 4 [(0, .ref (Q 72)), (1, .int v1), (2, .int v2), (3, .int v3)] → mH G Q u s H locs → K2_20 v1 v2 v3 u = some ((r, u1)) → W p l e (headSpec (Cond.code yX13_roundOf cX13_roundOf 4 (some .int) :: wM) { frames := 1, cells := 0, slots := 0, locals := 22 }).room s m [.ref (Q 72), .int a0, .int a1].toArray below meth c H locs 0 0 (MQ below (mQi G Q u1 r s.heap.size) [.ref (Q 72), .int a0, .int a1].toArray s 0 0 (mA Q s.heap.size)) (F0 m 20 ls [])) → ∀ (n2 : Nat) (v1 v2 v3 : Int32) (u : MS) (H : Heap) (locs : List Loc) (ls : Array Slot), lv_has ls 4 [(0, .ref (Q 72)), (1, .int v1), (2, .int v2), (3, .int v3)] → mH G Q u s H locs → lp_roundOf_2 n2 v1 v2 v3 u K2_20 = some ((r, u1)) → W p l e (headSpec (Cond.code yX13_roundOf cX13_roundOf 4 (some .int) :: wM) { frames := 1, cells := 0, slots := 0, locals := 22 }).room s m [.ref (Q 72), .int a0, .int a1].toArray below meth c H locs 0 0 (MQ below (mQi G Q u1 r s.heap.size) [.ref (Q 72), .int a0, .int a1].toArray s 0 0 (mA Q s.heap.size)) (F0 m 2 ls []) := by
    intro K2_20 hK2_20 n2
    induction n2 with
    | zero => intro v1 v2 v3 u H locs ls hl hH hF; cases hF
    | succ n2 ih2 =>
      intro v1 v2 v3 u H locs ls hl hH hF
      unfold lp_roundOf_2 at hF
      refine lv_iload_n hx hb dX13_roundOf_2 rfl (lv_at hl 2 rfl) ?_
      refine lv_aload_n hx hb dX13_roundOf_3 rfl (lv_at hl 0 rfl) ?_
      refine lv_iload_n hx hb dX13_roundOf_4 rfl (lv_at hl 1 rfl) ?_
      refine lv_iload_n hx hb dX13_roundOf_5 rfl (lv_at hl 3 rfl) ?_
      refine lv_iconst (v := 1) hx hb dX13_roundOf_6 (by decide) ?_
      refine lv_iadd hx hb dX13_roundOf_7 ?_
      obtain ⟨r_1, u_2, h_3, hF⟩ := ob_some hF
      refine mcV_i (As := [.int v1, .int (v3 + 1)]) (rest := [.int v2]) hC hH (m_base l G Z Q u u_2 r_1 v1 (v3 + 1) _ h_3) kwX13_base kVX13_base ⟨Nat.le_of_ble_eq_true rfl, Nat.le_of_ble_eq_true rfl⟩ rfl hl.1 rfl (Nat.le_of_ble_eq_true rfl) dX13_roundOf_8 (fun H locs hH => ?_)
      refine lv_icmp_lt (tgt := 20) hx hb dX13_roundOf_11 (by decide) (fun c_4 => ?_) (fun c_4 => ?_)
      · rw [if_pos c_4] at hF
        exact hK2_20 v1 v2 v3 u_2 _ _ _ (lv_sub hl [0, 1, 2, 3] rfl) hH hF
      · rw [if_neg c_4] at hF
        obtain ⟨x_5, e_6, hF⟩ := li_some hF
        refine lv_iinc (v := x_5) (lv' := [(3, .int x_5), (0, .ref (Q 72)), (1, .int v1), (2, .int v2)]) hx hb dX13_roundOf_14 hl (k := 3) rfl e_6 (by decide) rfl (fun ls hl => ?_)
        refine lv_goto (tgt := 2) hx hb dX13_roundOf_17 (by decide) ?_
        exact ih2 v1 v2 x_5 u_2 _ _ _ (lv_sub hl [1, 2, 3, 0] rfl) hH hF
  refine hL2 _ (fun v1 v2 v3 u H locs ls hl hH hF => ?_) fuel a0 a1 0 u _ _ _ (lv_sub hl [1, 2, 3, 0] rfl) hH hF
  refine lv_iload_n hx hb dX13_roundOf_20 rfl (lv_at hl 3 rfl) ?_
  exact mr_i hC hH hr hF dX13_roundOf_21 hlocks
def f_halfOf (a0 : Int32) (a1 : Int32) (u : MS) : Option (Int32 × MS) := og (gi a0 4) (ob (f_rounds a0 u) (fun r_2 u_3 => og (gz (r_2 - 1)) (some (((a1 - (ra u 13 a0)) + 1) / (r_2 - 1), u_3))))
set_option maxHeartbeats 4000000 in
set_option maxRecDepth 100000 in
theorem m_halfOf (l : Launch) (G : gG) (Z : gM) (Q : Nat → Nat) (u u1 : MS) (r : Int32) (a0 : Int32) (a1 : Int32) (sz : Nat) (hF : f_halfOf a0 a1 u = some (r, u1)) : Met l yX13_halfOf (Cond.code yX13_halfOf cX13_halfOf 3 (some .int) :: wM) { frames := 2, cells := 0, slots := 0, locals := 43 } (va_Pc [.ref (Q 72), .int a0, .int a1] (mPM G Z Q u sz)) (mQi G Q u1 r sz) 0 0 (mA Q sz) := by
  refine Met.ofW (cc := cX13_halfOf) (maxL := 3) (ret := (some .int)) (by decide) rfl ?_
  intro p e s m args below meth c s₁ B hml hv
  obtain ⟨rfl, rfl, hP, hB, hD, hE⟩ := hv
  have hr := B.returns
  have hlocks := B.notSynchronized
  have hts := atoms_spec (ws := Cond.code yX13_halfOf cX13_halfOf 3 (some .int) :: wM) B.pre
  have hC : mX p c cX13_halfOf 3 s m _ G Z Q := ⟨B.exec, B.bytes, hml, findClass_of_methodNamed B.named, fun w h => hts w (List.mem_cons_of_mem _ h), hB, hE⟩
  have hx := hC.1
  have hb := hC.2.1
  have hH : mH G Q u s s.heap [] := ⟨hP, hD, va_S.rf⟩
  have hl := lv_entry ([.ref (Q 72), .int a0, .int a1]) (n := 3) (Nat.le_of_ble_eq_true rfl)
  rw [lg_entry_eq]
  generalize (lg_sl ([.ref (Q 72), .int a0, .int a1]) ++ List.replicate (3 - (lg_sl ([.ref (Q 72), .int a0, .int a1])).length) Slot.unset).toArray = ls at hl ⊢
  have hl : lv_has ls 3 [(0, .ref (Q 72)), (1, .int a0), (2, .int a1)] := hl
  unfold f_halfOf at hF
  refine lv_iload_n hx hb dX13_halfOf_0 rfl (lv_at hl 2 rfl) ?_
  refine lv_aload_n hx hb dX13_halfOf_1 rfl (lv_at hl 0 rfl) ?_
  refine mg_13 hC hH dX13_halfOf_2 ?_
  refine lv_iload_n hx hb dX13_halfOf_5 rfl (lv_at hl 1 rfl) ?_
  obtain ⟨g_1, hF⟩ := og_some hF
  refine ml_13 hC hH g_1 dX13_halfOf_6 ?_
  refine lv_isub hx hb dX13_halfOf_7 ?_
  refine lv_iconst (v := 1) hx hb dX13_halfOf_8 (by decide) ?_
  refine lv_iadd hx hb dX13_halfOf_9 ?_
  refine lv_aload_n hx hb dX13_halfOf_10 rfl (lv_at hl 0 rfl) ?_
  refine lv_iload_n hx hb dX13_halfOf_11 rfl (lv_at hl 1 rfl) ?_
  obtain ⟨r_2, u_3, h_4, hF⟩ := ob_some hF
  refine mcV_i (As := [.int a0]) (rest := [.int ((a1 - (ra u 13 a0)) + 1)]) hC hH (m_rounds l G Z Q u u_3 r_2 a0 _ h_4) kwX13_rounds kVX13_rounds ⟨Nat.le_of_ble_eq_true rfl, Nat.le_of_ble_eq_true rfl⟩ rfl hl.1 rfl (Nat.le_of_ble_eq_true rfl) dX13_halfOf_12 (fun H locs hH => ?_)
  refine lv_iconst (v := 1) hx hb dX13_halfOf_15 (by decide) ?_
  refine lv_isub hx hb dX13_halfOf_16 ?_
  obtain ⟨g_5, hF⟩ := og_some hF
  refine lv_idiv hx hb dX13_halfOf_17 (gz_ne g_5) ?_
  exact mr_i hC hH hr hF dX13_halfOf_18 hlocks
def f_stepOf (a0 : Int32) (a1 : Int32) (u : MS) : Option (Int32 × MS) := og (gi a0 4) (ob (f_rounds a0 u) (fun r_2 u_3 => og (gz (r_2 - 1)) (some ((((a1 - (ra u 13 a0)) + 1) - ((a1 - (ra u 13 a0)) + 1) / (r_2 - 1) * (r_2 - 1)) + 1, u_3))))
set_option maxHeartbeats 4000000 in
set_option maxRecDepth 100000 in
theorem m_stepOf (l : Launch) (G : gG) (Z : gM) (Q : Nat → Nat) (u u1 : MS) (r : Int32) (a0 : Int32) (a1 : Int32) (sz : Nat) (hF : f_stepOf a0 a1 u = some (r, u1)) : Met l yX13_stepOf (Cond.code yX13_stepOf cX13_stepOf 3 (some .int) :: wM) { frames := 2, cells := 0, slots := 0, locals := 43 } (va_Pc [.ref (Q 72), .int a0, .int a1] (mPM G Z Q u sz)) (mQi G Q u1 r sz) 0 0 (mA Q sz) := by
  refine Met.ofW (cc := cX13_stepOf) (maxL := 3) (ret := (some .int)) (by decide) rfl ?_
  intro p e s m args below meth c s₁ B hml hv
  obtain ⟨rfl, rfl, hP, hB, hD, hE⟩ := hv
  have hr := B.returns
  have hlocks := B.notSynchronized
  have hts := atoms_spec (ws := Cond.code yX13_stepOf cX13_stepOf 3 (some .int) :: wM) B.pre
  have hC : mX p c cX13_stepOf 3 s m _ G Z Q := ⟨B.exec, B.bytes, hml, findClass_of_methodNamed B.named, fun w h => hts w (List.mem_cons_of_mem _ h), hB, hE⟩
  have hx := hC.1
  have hb := hC.2.1
  have hH : mH G Q u s s.heap [] := ⟨hP, hD, va_S.rf⟩
  have hl := lv_entry ([.ref (Q 72), .int a0, .int a1]) (n := 3) (Nat.le_of_ble_eq_true rfl)
  rw [lg_entry_eq]
  generalize (lg_sl ([.ref (Q 72), .int a0, .int a1]) ++ List.replicate (3 - (lg_sl ([.ref (Q 72), .int a0, .int a1])).length) Slot.unset).toArray = ls at hl ⊢
  have hl : lv_has ls 3 [(0, .ref (Q 72)), (1, .int a0), (2, .int a1)] := hl
  unfold f_stepOf at hF
  refine lv_iload_n hx hb dX13_stepOf_0 rfl (lv_at hl 2 rfl) ?_
  refine lv_aload_n hx hb dX13_stepOf_1 rfl (lv_at hl 0 rfl) ?_
  refine mg_13 hC hH dX13_stepOf_2 ?_
  refine lv_iload_n hx hb dX13_stepOf_5 rfl (lv_at hl 1 rfl) ?_
  obtain ⟨g_1, hF⟩ := og_some hF
  refine ml_13 hC hH g_1 dX13_stepOf_6 ?_
  refine lv_isub hx hb dX13_stepOf_7 ?_
  refine lv_iconst (v := 1) hx hb dX13_stepOf_8 (by decide) ?_
  refine lv_iadd hx hb dX13_stepOf_9 ?_
  refine lv_aload_n hx hb dX13_stepOf_10 rfl (lv_at hl 0 rfl) ?_
  refine lv_iload_n hx hb dX13_stepOf_11 rfl (lv_at hl 1 rfl) ?_
  obtain ⟨r_2, u_3, h_4, hF⟩ := ob_some hF
  refine mcV_i (As := [.int a0]) (rest := [.int ((a1 - (ra u 13 a0)) + 1)]) hC hH (m_rounds l G Z Q u u_3 r_2 a0 _ h_4) kwX13_rounds kVX13_rounds ⟨Nat.le_of_ble_eq_true rfl, Nat.le_of_ble_eq_true rfl⟩ rfl hl.1 rfl (Nat.le_of_ble_eq_true rfl) dX13_stepOf_12 (fun H locs hH => ?_)
  refine lv_iconst (v := 1) hx hb dX13_stepOf_15 (by decide) ?_
  refine lv_isub hx hb dX13_stepOf_16 ?_
  obtain ⟨g_5, hF⟩ := og_some hF
  refine lv_irem hx hb dX13_stepOf_17 (gz_ne g_5) ?_
  refine lv_iconst (v := 1) hx hb dX13_stepOf_18 (by decide) ?_
  refine lv_iadd hx hb dX13_stepOf_19 ?_
  exact mr_i hC hH hr hF dX13_stepOf_20 hlocks
def lp_pair_6 : Nat → Int32 → Int32 → Int32 → Int32 → Int32 → MS → (Int32 → Int32 → Int32 → Int32 → Int32 → MS → Option (Int32 × MS)) → Option (Int32 × MS)
  | 0, _, _, _, _, _, _, _ => none
  | n6 + 1, v1, v2, v3, v4, v5, u, K6_40 => og (gi v1 4) ((if v4 < ((ra u 13 v1) - v5) then K6_40 v1 v2 v3 v4 v5 u else og (gi v1 4) (li (v4 - ((ra u 13 v1) - v5)) (fun x_4 => li (v5 + 1) (fun x_6 => lp_pair_6 n6 v1 v2 v3 x_4 x_6 u K6_40)))))
def f_pair (a0 : Int32) (a1 : Int32) (a2 : Int32) (u : MS) : Option (Int32 × MS) := lp_pair_6 fuel a0 a1 a2 a1 1 u (fun v1 v2 v3 v4 v5 u => (if v3 = 0 then some (v4, u) else some (v4 + v5, u)))
set_option maxHeartbeats 4000000 in
set_option maxRecDepth 100000 in
theorem m_pair (l : Launch) (G : gG) (Z : gM) (Q : Nat → Nat) (u u1 : MS) (r : Int32) (a0 : Int32) (a1 : Int32) (a2 : Int32) (sz : Nat) (hF : f_pair a0 a1 a2 u = some (r, u1)) : Met l yX13_pair (Cond.code yX13_pair cX13_pair 6 (some .int) :: wM) { frames := 0, cells := 0, slots := 0, locals := 0 } (va_Pc [.ref (Q 72), .int a0, .int a1, .int a2] (mPM G Z Q u sz)) (mQi G Q u1 r sz) 0 0 (mA Q sz) := by
  refine Met.ofW (cc := cX13_pair) (maxL := 6) (ret := (some .int)) (by decide) rfl ?_
  intro p e s m args below meth c s₁ B hml hv
  obtain ⟨rfl, rfl, hP, hB, hD, hE⟩ := hv
  have hr := B.returns
  have hlocks := B.notSynchronized
  have hts := atoms_spec (ws := Cond.code yX13_pair cX13_pair 6 (some .int) :: wM) B.pre
  have hC : mX p c cX13_pair 6 s m _ G Z Q := ⟨B.exec, B.bytes, hml, findClass_of_methodNamed B.named, fun w h => hts w (List.mem_cons_of_mem _ h), hB, hE⟩
  have hx := hC.1
  have hb := hC.2.1
  have hH : mH G Q u s s.heap [] := ⟨hP, hD, va_S.rf⟩
  have hl := lv_entry ([.ref (Q 72), .int a0, .int a1, .int a2]) (n := 6) (Nat.le_of_ble_eq_true rfl)
  rw [lg_entry_eq]
  generalize (lg_sl ([.ref (Q 72), .int a0, .int a1, .int a2]) ++ List.replicate (6 - (lg_sl ([.ref (Q 72), .int a0, .int a1, .int a2])).length) Slot.unset).toArray = ls at hl ⊢
  have hl : lv_has ls 6 [(0, .ref (Q 72)), (1, .int a0), (2, .int a1), (3, .int a2)] := hl
  unfold f_pair at hF
  refine lv_iload_n hx hb dX13_pair_0 rfl (lv_at hl 2 rfl) ?_
  refine lv_istore (lv' := [(4, .int a1), (0, .ref (Q 72)), (1, .int a0), (2, .int a1), (3, .int a2)]) hx hb dX13_pair_1 hl (by decide) rfl (fun ls hl => ?_)
  refine lv_iconst (v := 1) hx hb dX13_pair_3 (by decide) ?_
  refine lv_istore (lv' := [(5, .int 1), (4, .int a1), (0, .ref (Q 72)), (1, .int a0), (2, .int a1), (3, .int a2)]) hx hb dX13_pair_4 hl (by decide) rfl (fun ls hl => ?_)
  have hL6 : ∀ (K6_40 : Int32 → Int32 → Int32 → Int32 → Int32 → MS → Option (Int32 × MS)), (∀ (v1 v2 v3 v4 v5 : Int32) (u : MS) (H : Heap) (locs : List Loc) (ls : Array Slot), lv_has ls 6 [(0, .ref (Q 72)), (1, .int v1), (2, .int v2), (3, .int v3), (4, .int v4), (5, .int v5)] → mH G Q u s H locs → K6_40 v1 v2 v3 v4 v5 u = some ((r, u1)) → W p l e (headSpec (Cond.code yX13_pair cX13_pair 6 (some .int) :: wM) { frames := 0, cells := 0, slots := 0, locals := 0 }).room s m [.ref (Q 72), .int a0, .int a1, .int a2].toArray below meth c H locs 0 0 (MQ below (mQi G Q u1 r s.heap.size) [.ref (Q 72), .int a0, .int a1, .int a2].toArray s 0 0 (mA Q s.heap.size)) (F0 m 40 ls [])) → ∀ (n6 : Nat) (v1 v2 v3 v4 v5 : Int32) (u : MS) (H : Heap) (locs : List Loc) (ls : Array Slot), lv_has ls 6 [(0, .ref (Q 72)), (1, .int v1), (2, .int v2), (3, .int v3), (4, .int v4), (5, .int v5)] → mH G Q u s H locs → lp_pair_6 n6 v1 v2 v3 v4 v5 u K6_40 = some ((r, u1)) → W p l e (headSpec (Cond.code yX13_pair cX13_pair 6 (some .int) :: wM) { frames := 0, cells := 0, slots := 0, locals := 0 }).room s m [.ref (Q 72), .int a0, .int a1, .int a2].toArray below meth c H locs 0 0 (MQ below (mQi G Q u1 r s.heap.size) [.ref (Q 72), .int a0, .int a1, .int a2].toArray s 0 0 (mA Q s.heap.size)) (F0 m 6 ls []) := by
    intro K6_40 hK6_40 n6
    induction n6 with
    | zero => intro v1 v2 v3 v4 v5 u H locs ls hl hH hF; cases hF
    | succ n6 ih6 =>
      intro v1 v2 v3 v4 v5 u H locs ls hl hH hF
      unfold lp_pair_6 at hF
      refine lv_iload hx hb dX13_pair_6 (lv_at hl 4 rfl) ?_
      refine lv_aload_n hx hb dX13_pair_8 rfl (lv_at hl 0 rfl) ?_
      refine mg_13 hC hH dX13_pair_9 ?_
      refine lv_iload_n hx hb dX13_pair_12 rfl (lv_at hl 1 rfl) ?_
      obtain ⟨g_1, hF⟩ := og_some hF
      refine ml_13 hC hH g_1 dX13_pair_13 ?_
      refine lv_iload hx hb dX13_pair_14 (lv_at hl 5 rfl) ?_
      refine lv_isub hx hb dX13_pair_16 ?_
      refine lv_icmp_lt (tgt := 40) hx hb dX13_pair_17 (by decide) (fun c_2 => ?_) (fun c_2 => ?_)
      · rw [if_pos c_2] at hF
        exact hK6_40 v1 v2 v3 v4 v5 u _ _ _ (lv_sub hl [0, 1, 2, 3, 4, 5] rfl) hH hF
      · rw [if_neg c_2] at hF
        refine lv_iload hx hb dX13_pair_20 (lv_at hl 4 rfl) ?_
        refine lv_aload_n hx hb dX13_pair_22 rfl (lv_at hl 0 rfl) ?_
        refine mg_13 hC hH dX13_pair_23 ?_
        refine lv_iload_n hx hb dX13_pair_26 rfl (lv_at hl 1 rfl) ?_
        obtain ⟨g_3, hF⟩ := og_some hF
        refine ml_13 hC hH g_3 dX13_pair_27 ?_
        refine lv_iload hx hb dX13_pair_28 (lv_at hl 5 rfl) ?_
        refine lv_isub hx hb dX13_pair_30 ?_
        refine lv_isub hx hb dX13_pair_31 ?_
        obtain ⟨x_4, e_5, hF⟩ := li_some hF
        refine gx_ti e_5 ?_
        refine lv_istore (lv' := [(4, .int x_4), (0, .ref (Q 72)), (1, .int v1), (2, .int v2), (3, .int v3), (5, .int v5)]) hx hb dX13_pair_32 hl (by decide) rfl (fun ls hl => ?_)
        obtain ⟨x_6, e_7, hF⟩ := li_some hF
        refine lv_iinc (v := x_6) (lv' := [(5, .int x_6), (4, .int x_4), (0, .ref (Q 72)), (1, .int v1), (2, .int v2), (3, .int v3)]) hx hb dX13_pair_34 hl (k := 5) rfl e_7 (by decide) rfl (fun ls hl => ?_)
        refine lv_goto (tgt := 6) hx hb dX13_pair_37 (by decide) ?_
        exact ih6 v1 v2 v3 x_4 x_6 u _ _ _ (lv_sub hl [2, 3, 4, 5, 1, 0] rfl) hH hF
  refine hL6 _ (fun v1 v2 v3 v4 v5 u H locs ls hl hH hF => ?_) fuel a0 a1 a2 a1 1 u _ _ _ (lv_sub hl [2, 3, 4, 5, 1, 0] rfl) hH hF
  refine lv_iload_n hx hb dX13_pair_40 rfl (lv_at hl 3 rfl) ?_
  refine lv_if_ne (tgt := 49) hx hb dX13_pair_41 (by decide) (fun c_8 => ?_) (fun c_8 => ?_)
  · rw [if_neg c_8] at hF
    refine lv_iload hx hb dX13_pair_49 (lv_at hl 4 rfl) ?_
    refine lv_iload hx hb dX13_pair_51 (lv_at hl 5 rfl) ?_
    refine lv_iadd hx hb dX13_pair_53 ?_
    exact mr_i hC hH hr hF dX13_pair_54 hlocks
  · rw [if_pos c_8] at hF
    refine lv_iload hx hb dX13_pair_44 (lv_at hl 4 rfl) ?_
    refine lv_goto (tgt := 54) hx hb dX13_pair_46 (by decide) ?_
    exact mr_i hC hH hr hF dX13_pair_54 hlocks
