def bst (s : Int32) : Int32 := if 8 < s then (if 16 < s then 3 else 2) else 1
def bfo (f : Nat → Int32) (x : Int32) : Int32 := if rg f 2088 (4 + x * 36 + 2) = 1 then rg f 2088 (4 + x * 36 + 3) * (rg f 2088 (4 + x * 36 + 3) - 1) / 2 else if rg f 2088 (4 + x * 36 + 2) = 2 then rg f 2088 (4 + x * 36 + 3) - 1 + 2 * bst (rg f 2088 (4 + x * 36 + 3)) else 0

def wo_g_isClass : List Cond := []
def wq_g_isClass : List Cond := .code yX11_isClass cX11_isClass 1 (some .boolean) :: (wo_g_isClass ++ [])
theorem gd_g_isClass : ∀ w ∈ wq_g_isClass, Gd w := List.forall_mem_cons.mpr ⟨Or.inl rfl, List.forall_mem_append.mpr ⟨gdl wo_g_isClass (by decide +kernel), (fun _ h => absurd h List.not_mem_nil)⟩⟩
theorem in_g_isClass : ∀ w ∈ wq_g_isClass, w ∈ lw_tbl := List.forall_mem_cons.mpr ⟨List.mem_of_getElem? (i := 981) (by decide +kernel), List.forall_mem_append.mpr ⟨inT wo_g_isClass [] (by decide +kernel), (fun _ h => absurd h List.not_mem_nil)⟩⟩
set_option maxHeartbeats 4000000 in
set_option maxRecDepth 100000 in
theorem g_isClass (l : Launch) (G : gG) (x : Int32) : Met l yX11_isClass wq_g_isClass ({ frames := 0, cells := 0, slots := 0, locals := 0 }) (va_Pc [.int x] (pP G [])) (vp_Si (fun r : Int32 => r = 0 ∨ r = 1)) 0 0 (fun _ => False) := by
  refine Met.ofW (cc := cX11_isClass) (maxL := 1) (ret := (some .boolean)) (by decide) rfl ?_
  intro p e s m args below meth c s₁ B hml hv
  obtain ⟨rfl, hP, hB⟩ := hv
  have hx := B.exec
  have hb := B.bytes
  have hr := B.returns
  have hts := atoms_spec (ws := wq_g_isClass) B.pre
  have hown : s.vm.findClass RX11 = some m.cls := findClass_of_methodNamed B.named
  have hlocks := B.notSynchronized
  have hK := hB.1
  have hP : va_P (gD G) vwCl [] s.heap := hP
  have hl := lv_entry ([.int x]) (n := 1) (Nat.le_of_ble_eq_true rfl)
  rw [lg_entry_eq]
  generalize (lg_sl ([.int x]) ++ List.replicate (1 - (lg_sl ([.int x])).length) Slot.unset).toArray = ls at hl ⊢
  have hl : lv_has ls 1 [(0, .int x)] := hl
  refine lv_iload_n hx hb dX11_isClass_0 rfl (lv_at hl 0 rfl) ?_
  refine lv_if_lt (tgt := 13) hx hb dX11_isClass_1 (by decide) (fun c_1 => ?_) (fun c_1 => ?_)
  · skip
    refine lv_iconst (v := 0) hx hb dX11_isClass_13 (by decide) ?_
    exact W.zret (v := 0) hx hb hr rfl (fun t ht hW => ⟨_, rfl, Or.inl rfl, ht⟩) (fun q h => absurd h List.not_mem_nil) dX11_isClass_14
  · skip
    refine lv_iload_n hx hb dX11_isClass_4 rfl (lv_at hl 0 rfl) ?_
    refine lv_iconst (v := 4) hx hb dX11_isClass_5 (by decide) ?_
    refine lv_icmp_ge (tgt := 13) hx hb dX11_isClass_6 (by decide) (fun c_2 => ?_) (fun c_2 => ?_)
    · skip
      refine lv_iconst (v := 0) hx hb dX11_isClass_13 (by decide) ?_
      exact W.zret (v := 0) hx hb hr rfl (fun t ht hW => ⟨_, rfl, Or.inl rfl, ht⟩) (fun q h => absurd h List.not_mem_nil) dX11_isClass_14
    · skip
      refine lv_iconst (v := 1) hx hb dX11_isClass_9 (by decide) ?_
      refine lv_goto (tgt := 14) hx hb dX11_isClass_10 (by decide) ?_
      exact W.zret (v := 1) hx hb hr rfl (fun t ht hW => ⟨_, rfl, Or.inr rfl, ht⟩) (fun q h => absurd h List.not_mem_nil) dX11_isClass_14

def wo_g_slot : List Cond := []
def wq_g_slot : List Cond := .code yX0_slot cX0_slot 2 (some .int) :: (wo_g_slot ++ [])
theorem gd_g_slot : ∀ w ∈ wq_g_slot, Gd w := List.forall_mem_cons.mpr ⟨Or.inl rfl, List.forall_mem_append.mpr ⟨gdl wo_g_slot (by decide +kernel), (fun _ h => absurd h List.not_mem_nil)⟩⟩
theorem in_g_slot : ∀ w ∈ wq_g_slot, w ∈ lw_tbl := List.forall_mem_cons.mpr ⟨List.mem_of_getElem? (i := 1140) (by decide +kernel), List.forall_mem_append.mpr ⟨inT wo_g_slot [] (by decide +kernel), (fun _ h => absurd h List.not_mem_nil)⟩⟩
set_option maxHeartbeats 4000000 in
set_option maxRecDepth 100000 in
theorem g_slot (l : Launch) (G : gG) (x : Int32) (y : Int32) : Met l yX0_slot wq_g_slot ({ frames := 0, cells := 0, slots := 0, locals := 0 }) (va_Pc [.int x, .int y] (pP G [])) (vp_Si (fun r : Int32 => True)) 0 0 (fun _ => False) := by
  refine Met.ofW (cc := cX0_slot) (maxL := 2) (ret := (some .int)) (by decide) rfl ?_
  intro p e s m args below meth c s₁ B hml hv
  obtain ⟨rfl, hP, hB⟩ := hv
  have hx := B.exec
  have hb := B.bytes
  have hr := B.returns
  have hts := atoms_spec (ws := wq_g_slot) B.pre
  have hown : s.vm.findClass RX0 = some m.cls := findClass_of_methodNamed B.named
  have hlocks := B.notSynchronized
  have hK := hB.1
  have hP : va_P (gD G) vwCl [] s.heap := hP
  have hl := lv_entry ([.int x, .int y]) (n := 2) (Nat.le_of_ble_eq_true rfl)
  rw [lg_entry_eq]
  generalize (lg_sl ([.int x, .int y]) ++ List.replicate (2 - (lg_sl ([.int x, .int y])).length) Slot.unset).toArray = ls at hl ⊢
  have hl : lv_has ls 2 [(0, .int x), (1, .int y)] := hl
  refine lv_iload_n hx hb dX0_slot_0 rfl (lv_at hl 0 rfl) ?_
  refine lv_bipush (v := 37) hx hb dX0_slot_1 (by decide) ?_
  refine lv_imul hx hb dX0_slot_3 ?_
  refine lv_iload_n hx hb dX0_slot_4 rfl (lv_at hl 1 rfl) ?_
  refine lv_iadd hx hb dX0_slot_5 ?_
  exact W.iret (v := ((x * 37) + y)) hx hb hr (fun t ht hW => ⟨_, rfl, trivial, ht⟩) (fun q h => absurd h List.not_mem_nil) dX0_slot_6

def wo_g_ofFight : List Cond := [.methodLink RX1 43 yX0_slot, .static yX0_slot, .initialized RX0]
def wq_g_ofFight : List Cond := .code yX1_ofFight cX1_ofFight 3 (some .int) :: (wo_g_ofFight ++ (wq_g_slot ++ []))
theorem gd_g_ofFight : ∀ w ∈ wq_g_ofFight, Gd w := List.forall_mem_cons.mpr ⟨Or.inl rfl, List.forall_mem_append.mpr ⟨gdl wo_g_ofFight (by decide +kernel), (List.forall_mem_append.mpr ⟨gd_g_slot, (fun _ h => absurd h List.not_mem_nil)⟩)⟩⟩
theorem in_g_ofFight : ∀ w ∈ wq_g_ofFight, w ∈ lw_tbl := List.forall_mem_cons.mpr ⟨List.mem_of_getElem? (i := 1137) (by decide +kernel), List.forall_mem_append.mpr ⟨inT wo_g_ofFight [1138, 1139, 164] (by decide +kernel), (List.forall_mem_append.mpr ⟨in_g_slot, (fun _ h => absurd h List.not_mem_nil)⟩)⟩⟩
set_option maxHeartbeats 4000000 in
set_option maxRecDepth 100000 in
theorem g_ofFight (l : Launch) (G : gG) (x : Int32) (y : Int32) (z : Int32) : Met l yX1_ofFight wq_g_ofFight ({ frames := 1, cells := 0, slots := 0, locals := 21 }) (va_Pc [.int x, .int y, .int z] (pP G [])) (vp_Si (fun r : Int32 => True)) 0 0 (fun _ => False) := by
  refine Met.ofW (cc := cX1_ofFight) (maxL := 3) (ret := (some .int)) (by decide) rfl ?_
  intro p e s m args below meth c s₁ B hml hv
  obtain ⟨rfl, hP, hB⟩ := hv
  have hx := B.exec
  have hb := B.bytes
  have hr := B.returns
  have hts := atoms_spec (ws := wq_g_ofFight) B.pre
  have hown : s.vm.findClass RX1 = some m.cls := findClass_of_methodNamed B.named
  have hlocks := B.notSynchronized
  have hK := hB.1
  have hP : va_P (gD G) vwCl [] s.heap := hP
  have hl := lv_entry ([.int x, .int y, .int z]) (n := 3) (Nat.le_of_ble_eq_true rfl)
  rw [lg_entry_eq]
  generalize (lg_sl ([.int x, .int y, .int z]) ++ List.replicate (3 - (lg_sl ([.int x, .int y, .int z])).length) Slot.unset).toArray = ls at hl ⊢
  have hl : lv_has ls 3 [(0, .int x), (1, .int y), (2, .int z)] := hl
  refine lv_sipush (v := 820) hx hb dX1_ofFight_0 (by decide) ?_
  refine lv_iload_n hx hb dX1_ofFight_3 rfl (lv_at hl 0 rfl) ?_
  refine lv_iload_n hx hb dX1_ofFight_4 rfl (lv_at hl 1 rfl) ?_
  refine vp_callSi (va_Run.run (va_runS (As := [.int x, .int y]) (rest := [.int 820]) ⟨hx, hb, hml, hown, hts⟩ (g_slot l G x y) (va_cwS 2 hts (gdS (List.mem_cons_of_mem _ (List.mem_append_left _ (List.mem_of_getElem? (i := 0) rfl))) (List.mem_cons_of_mem _ (List.mem_append_left _ (List.mem_of_getElem? (i := 1) rfl))) (List.mem_cons_of_mem _ (List.mem_append_left _ (List.mem_of_getElem? (i := 2) rfl))) (fun w9 h9 => ⟨(List.mem_cons_of_mem _ (List.mem_append_right _ (List.mem_append_left _ h9))), gd_g_slot w9 h9⟩)) rfl rfl rfl kSX0_slot ⟨Nat.le_of_ble_eq_true rfl, Nat.le_of_ble_eq_true rfl⟩) (preS_p (As := [.int x, .int y]) (hP.sub (ws' := []) [] rfl) hB) rfl rfl hl.1 rfl (lv_room (Nat.le_of_ble_eq_true rfl)) dX1_ofFight_5 ⟨Nat.le_of_ble_eq_true rfl, Nat.le_of_ble_eq_true rfl⟩)) (fun r_1 hr_1 => ?_)
  clear hr_1
  refine lv_bipush (v := 8) hx hb dX1_ofFight_8 (by decide) ?_
  refine lv_imul hx hb dX1_ofFight_10 ?_
  refine lv_iadd hx hb dX1_ofFight_11 ?_
  refine lv_iload_n hx hb dX1_ofFight_12 rfl (lv_at hl 2 rfl) ?_
  refine lv_iadd hx hb dX1_ofFight_13 ?_
  exact W.iret (v := ((820 + (r_1 * 8)) + z)) hx hb hr (fun t ht hW => ⟨_, rfl, trivial, ht⟩) (fun q h => absurd h List.not_mem_nil) dX1_ofFight_14

def wo_g_stepsOf : List Cond := []
def wq_g_stepsOf : List Cond := .code yX0_stepsOf cX0_stepsOf 1 (some .int) :: (wo_g_stepsOf ++ [])
theorem gd_g_stepsOf : ∀ w ∈ wq_g_stepsOf, Gd w := List.forall_mem_cons.mpr ⟨Or.inl rfl, List.forall_mem_append.mpr ⟨gdl wo_g_stepsOf (by decide +kernel), (fun _ h => absurd h List.not_mem_nil)⟩⟩
theorem in_g_stepsOf : ∀ w ∈ wq_g_stepsOf, w ∈ lw_tbl := List.forall_mem_cons.mpr ⟨List.mem_of_getElem? (i := 1165) (by decide +kernel), List.forall_mem_append.mpr ⟨inT wo_g_stepsOf [] (by decide +kernel), (fun _ h => absurd h List.not_mem_nil)⟩⟩
set_option maxHeartbeats 4000000 in
set_option maxRecDepth 100000 in
theorem g_stepsOf (l : Launch) (G : gG) (x : Int32) : Met l yX0_stepsOf wq_g_stepsOf ({ frames := 0, cells := 0, slots := 0, locals := 0 }) (va_Pc [.int x] (pP G [])) (vp_Si (fun r : Int32 => r = bst x)) 0 0 (fun _ => False) := by
  refine Met.ofW (cc := cX0_stepsOf) (maxL := 1) (ret := (some .int)) (by decide) rfl ?_
  intro p e s m args below meth c s₁ B hml hv
  obtain ⟨rfl, hP, hB⟩ := hv
  have hx := B.exec
  have hb := B.bytes
  have hr := B.returns
  have hts := atoms_spec (ws := wq_g_stepsOf) B.pre
  have hown : s.vm.findClass RX0 = some m.cls := findClass_of_methodNamed B.named
  have hlocks := B.notSynchronized
  have hK := hB.1
  have hP : va_P (gD G) vwCl [] s.heap := hP
  have hl := lv_entry ([.int x]) (n := 1) (Nat.le_of_ble_eq_true rfl)
  rw [lg_entry_eq]
  generalize (lg_sl ([.int x]) ++ List.replicate (1 - (lg_sl ([.int x])).length) Slot.unset).toArray = ls at hl ⊢
  have hl : lv_has ls 1 [(0, .int x)] := hl
  refine lv_iload_n hx hb dX0_stepsOf_0 rfl (lv_at hl 0 rfl) ?_
  refine lv_bipush (v := 8) hx hb dX0_stepsOf_1 (by decide) ?_
  refine lv_icmp_gt (tgt := 8) hx hb dX0_stepsOf_3 (by decide) (fun c_1 => ?_) (fun c_1 => ?_)
  · skip
    refine lv_iload_n hx hb dX0_stepsOf_8 rfl (lv_at hl 0 rfl) ?_
    refine lv_bipush (v := 16) hx hb dX0_stepsOf_9 (by decide) ?_
    refine lv_icmp_gt (tgt := 18) hx hb dX0_stepsOf_11 (by decide) (fun c_2 => ?_) (fun c_2 => ?_)
    · skip
      refine lv_iconst (v := 3) hx hb dX0_stepsOf_18 (by decide) ?_
      exact W.iret (v := 3) hx hb hr (fun t ht hW => ⟨_, rfl, by unfold bst; rw [if_pos c_1, if_pos c_2], ht⟩) (fun q h => absurd h List.not_mem_nil) dX0_stepsOf_19
    · skip
      refine lv_iconst (v := 2) hx hb dX0_stepsOf_14 (by decide) ?_
      refine lv_goto (tgt := 19) hx hb dX0_stepsOf_15 (by decide) ?_
      exact W.iret (v := 2) hx hb hr (fun t ht hW => ⟨_, rfl, by unfold bst; rw [if_pos c_1, if_neg c_2], ht⟩) (fun q h => absurd h List.not_mem_nil) dX0_stepsOf_19
  · skip
    refine lv_iconst (v := 1) hx hb dX0_stepsOf_6 (by decide) ?_
    exact W.iret (v := 1) hx hb hr (fun t ht hW => ⟨_, rfl, by unfold bst; rw [if_neg c_1], ht⟩) (fun q h => absurd h List.not_mem_nil) dX0_stepsOf_7

def wo_g_stepOf : List Cond := [.methodLink RX0 52 yX0_stepsOf, .static yX0_stepsOf, .initialized RX0]
def wq_g_stepOf : List Cond := .code yX0_stepOf cX0_stepOf 4 (some .int) :: (wo_g_stepOf ++ (wq_g_stepsOf ++ []))
theorem gd_g_stepOf : ∀ w ∈ wq_g_stepOf, Gd w := List.forall_mem_cons.mpr ⟨Or.inl rfl, List.forall_mem_append.mpr ⟨gdl wo_g_stepOf (by decide +kernel), (List.forall_mem_append.mpr ⟨gd_g_stepsOf, (fun _ h => absurd h List.not_mem_nil)⟩)⟩⟩
theorem in_g_stepOf : ∀ w ∈ wq_g_stepOf, w ∈ lw_tbl := List.forall_mem_cons.mpr ⟨List.mem_of_getElem? (i := 1481) (by decide +kernel), List.forall_mem_append.mpr ⟨inT wo_g_stepOf [1163, 1164, 164] (by decide +kernel), (List.forall_mem_append.mpr ⟨in_g_stepsOf, (fun _ h => absurd h List.not_mem_nil)⟩)⟩⟩
set_option maxHeartbeats 4000000 in
set_option maxRecDepth 100000 in
theorem g_stepOf (l : Launch) (G : gG) (x : Int32) (y : Int32) : Met l yX0_stepOf wq_g_stepOf ({ frames := 1, cells := 0, slots := 0, locals := 20 }) (va_Pc [.int x, .int y] (pP G [])) (vp_Si (fun r : Int32 => True)) 0 0 (fun _ => False) := by
  refine Met.ofW (cc := cX0_stepOf) (maxL := 4) (ret := (some .int)) (by decide) rfl ?_
  intro p e s m args below meth c s₁ B hml hv
  obtain ⟨rfl, hP, hB⟩ := hv
  have hx := B.exec
  have hb := B.bytes
  have hr := B.returns
  have hts := atoms_spec (ws := wq_g_stepOf) B.pre
  have hown : s.vm.findClass RX0 = some m.cls := findClass_of_methodNamed B.named
  have hlocks := B.notSynchronized
  have hK := hB.1
  have hP : va_P (gD G) vwCl [] s.heap := hP
  have hl := lv_entry ([.int x, .int y]) (n := 4) (Nat.le_of_ble_eq_true rfl)
  rw [lg_entry_eq]
  generalize (lg_sl ([.int x, .int y]) ++ List.replicate (4 - (lg_sl ([.int x, .int y])).length) Slot.unset).toArray = ls at hl ⊢
  have hl : lv_has ls 4 [(0, .int x), (1, .int y)] := hl
  refine lv_iload_n hx hb dX0_stepOf_0 rfl (lv_at hl 0 rfl) ?_
  refine vp_callSi (va_Run.run (va_runS (As := [.int x]) (rest := []) ⟨hx, hb, hml, hown, hts⟩ (g_stepsOf l G x) (va_cwS 1 hts (gdS (List.mem_cons_of_mem _ (List.mem_append_left _ (List.mem_of_getElem? (i := 0) rfl))) (List.mem_cons_of_mem _ (List.mem_append_left _ (List.mem_of_getElem? (i := 1) rfl))) (List.mem_cons_of_mem _ (List.mem_append_left _ (List.mem_of_getElem? (i := 2) rfl))) (fun w9 h9 => ⟨(List.mem_cons_of_mem _ (List.mem_append_right _ (List.mem_append_left _ h9))), gd_g_stepsOf w9 h9⟩)) rfl rfl rfl kSX0_stepsOf ⟨Nat.le_of_ble_eq_true rfl, Nat.le_of_ble_eq_true rfl⟩) (preS_p (As := [.int x]) (hP.sub (ws' := []) [] rfl) hB) rfl rfl hl.1 rfl (lv_room (Nat.le_of_ble_eq_true rfl)) dX0_stepOf_1 ⟨Nat.le_of_ble_eq_true rfl, Nat.le_of_ble_eq_true rfl⟩)) (fun r_1 hr_1 => ?_)
  subst hr_1
  refine lv_istore_n (lv' := [(2, .int (bst x)), (0, .int x), (1, .int y)]) hx hb dX0_stepOf_4 rfl hl (by decide) rfl (fun ls hl => ?_)
  refine lv_iload_n hx hb dX0_stepOf_5 rfl (lv_at hl 2 rfl) ?_
  refine lv_iload_n hx hb dX0_stepOf_6 rfl (lv_at hl 1 rfl) ?_
  refine lv_iconst (v := 1) hx hb dX0_stepOf_7 (by decide) ?_
  refine lv_isub hx hb dX0_stepOf_8 ?_
  refine lv_isub hx hb dX0_stepOf_9 ?_
  refine lv_istore_n (lv' := [(3, .int (y - (x - 1))), (2, .int (bst x)), (0, .int x), (1, .int y)]) hx hb dX0_stepOf_10 rfl hl (by decide) rfl (fun ls hl => ?_)
  refine lv_iload_n hx hb dX0_stepOf_11 rfl (lv_at hl 0 rfl) ?_
  refine lv_iload_n hx hb dX0_stepOf_12 rfl (lv_at hl 1 rfl) ?_
  refine lv_icmp_ge (tgt := 22) hx hb dX0_stepOf_13 (by decide) (fun c_2 => ?_) (fun c_2 => ?_)
  · skip
    refine lv_iload_n hx hb dX0_stepOf_22 rfl (lv_at hl 0 rfl) ?_
    refine lv_iload_n hx hb dX0_stepOf_23 rfl (lv_at hl 1 rfl) ?_
    refine lv_isub hx hb dX0_stepOf_24 ?_
    refine lv_iconst (v := 1) hx hb dX0_stepOf_25 (by decide) ?_
    refine lv_iadd hx hb dX0_stepOf_26 ?_
    exact W.iret (v := (((y - (x - 1)) - (bst x)) + 1)) hx hb hr (fun t ht hW => ⟨_, rfl, trivial, ht⟩) (fun q h => absurd h List.not_mem_nil) dX0_stepOf_27
  · skip
    refine lv_iload_n hx hb dX0_stepOf_16 rfl (lv_at hl 0 rfl) ?_
    refine lv_iconst (v := 1) hx hb dX0_stepOf_17 (by decide) ?_
    refine lv_iadd hx hb dX0_stepOf_18 ?_
    refine lv_goto (tgt := 27) hx hb dX0_stepOf_19 (by decide) ?_
    exact W.iret (v := ((y - (x - 1)) + 1)) hx hb hr (fun t ht hW => ⟨_, rfl, trivial, ht⟩) (fun q h => absurd h List.not_mem_nil) dX0_stepOf_27

def wo_g_lowerBelow : List Cond := []
def wq_g_lowerBelow : List Cond := .code yX0_lowerBelow cX0_lowerBelow 2 (some .int) :: (wo_g_lowerBelow ++ [])
theorem gd_g_lowerBelow : ∀ w ∈ wq_g_lowerBelow, Gd w := List.forall_mem_cons.mpr ⟨Or.inl rfl, List.forall_mem_append.mpr ⟨gdl wo_g_lowerBelow (by decide +kernel), (fun _ h => absurd h List.not_mem_nil)⟩⟩
theorem in_g_lowerBelow : ∀ w ∈ wq_g_lowerBelow, w ∈ lw_tbl := List.forall_mem_cons.mpr ⟨List.mem_of_getElem? (i := 1153) (by decide +kernel), List.forall_mem_append.mpr ⟨inT wo_g_lowerBelow [] (by decide +kernel), (fun _ h => absurd h List.not_mem_nil)⟩⟩
set_option maxHeartbeats 4000000 in
set_option maxRecDepth 100000 in
theorem g_lowerBelow (l : Launch) (G : gG) (x : Int32) (y : Int32) : Met l yX0_lowerBelow wq_g_lowerBelow ({ frames := 0, cells := 0, slots := 0, locals := 0 }) (va_Pc [.int x, .int y] (pP G [])) (vp_Si (fun r : Int32 => True)) 0 0 (fun _ => False) := by
  refine Met.ofW (cc := cX0_lowerBelow) (maxL := 2) (ret := (some .int)) (by decide) rfl ?_
  intro p e s m args below meth c s₁ B hml hv
  obtain ⟨rfl, hP, hB⟩ := hv
  have hx := B.exec
  have hb := B.bytes
  have hr := B.returns
  have hts := atoms_spec (ws := wq_g_lowerBelow) B.pre
  have hown : s.vm.findClass RX0 = some m.cls := findClass_of_methodNamed B.named
  have hlocks := B.notSynchronized
  have hK := hB.1
  have hP : va_P (gD G) vwCl [] s.heap := hP
  have hl := lv_entry ([.int x, .int y]) (n := 2) (Nat.le_of_ble_eq_true rfl)
  rw [lg_entry_eq]
  generalize (lg_sl ([.int x, .int y]) ++ List.replicate (2 - (lg_sl ([.int x, .int y])).length) Slot.unset).toArray = ls at hl ⊢
  have hl : lv_has ls 2 [(0, .int x), (1, .int y)] := hl
  refine lv_iconst (v := 2) hx hb dX0_lowerBelow_0 (by decide) ?_
  refine lv_iload_n hx hb dX0_lowerBelow_1 rfl (lv_at hl 1 rfl) ?_
  refine lv_iload_n hx hb dX0_lowerBelow_2 rfl (lv_at hl 0 rfl) ?_
  refine lv_iconst (v := 2) hx hb dX0_lowerBelow_3 (by decide) ?_
  refine lv_idiv hx hb dX0_lowerBelow_4 (by decide) ?_
  refine lv_isub hx hb dX0_lowerBelow_5 ?_
  refine lv_imul hx hb dX0_lowerBelow_6 ?_
  exact W.iret (v := (2 * (y - (x / 2)))) hx hb hr (fun t ht hW => ⟨_, rfl, trivial, ht⟩) (fun q h => absurd h List.not_mem_nil) dX0_lowerBelow_7

def wo_g_BfightsOf : List Cond := [.methodLink RX0 49 yX0_sizeOf, .instanceMethod yX0_sizeOf, .selects RX0 yX0_sizeOf yX0_sizeOf, .initialized RX0, .methodLink RX0 46 yX0_kindOf, .instanceMethod yX0_kindOf, .selects RX0 yX0_kindOf yX0_kindOf, .methodLink RX0 52 yX0_stepsOf, .static yX0_stepsOf]
def wq_g_BfightsOf : List Cond := .code yX0_fightsOf cX0_fightsOf 3 (some .int) :: (wo_g_BfightsOf ++ (wq_c_Board_sizeOf ++ (wq_c_Board_kindOf ++ (wq_g_stepsOf ++ []))))
theorem gd_g_BfightsOf : ∀ w ∈ wq_g_BfightsOf, Gd w := List.forall_mem_cons.mpr ⟨Or.inl rfl, List.forall_mem_append.mpr ⟨gdl wo_g_BfightsOf (by decide +kernel), (List.forall_mem_append.mpr ⟨gd_c_Board_sizeOf, (List.forall_mem_append.mpr ⟨gd_c_Board_kindOf, (List.forall_mem_append.mpr ⟨gd_g_stepsOf, (fun _ h => absurd h List.not_mem_nil)⟩)⟩)⟩)⟩⟩
theorem in_g_BfightsOf : ∀ w ∈ wq_g_BfightsOf, w ∈ lw_tbl := List.forall_mem_cons.mpr ⟨List.mem_of_getElem? (i := 1182) (by decide +kernel), List.forall_mem_append.mpr ⟨inT wo_g_BfightsOf [1123, 1124, 1125, 164, 990, 991, 992, 1163, 1164] (by decide +kernel), (List.forall_mem_append.mpr ⟨in_c_Board_sizeOf, (List.forall_mem_append.mpr ⟨in_c_Board_kindOf, (List.forall_mem_append.mpr ⟨in_g_stepsOf, (fun _ h => absurd h List.not_mem_nil)⟩)⟩)⟩)⟩⟩
set_option maxHeartbeats 4000000 in
set_option maxRecDepth 100000 in
theorem g_BfightsOf (l : Launch) (G : gG) (bd : Nat) (bk : Nat) (ca : Nat) (f : Nat → Int32) (v1 : Value) (v2 : Value) (v3 : Value) (v4 : Value) (v5 : Value) (b_wt : Value) (b_bl : Value) (b_wn : Value) (b_se : Value) (b_lo : Value) (x : Int32) : Met l yX0_fightsOf wq_g_BfightsOf ({ frames := 2, cells := 0, slots := 0, locals := 42 }) (va_Pc [.ref bd, .int x] (pP G [(bd, .inr (1, [.ref bk, b_wt, b_bl, b_wn, b_se, b_lo])), (bk, .inr (2, [.ref ca, v1, v2, v3, v4, v5])), (ca, .inl (gI G, 2088, .inl f))])) (vp_Si (fun r : Int32 => r = bfo f x)) 0 0 (fun _ => False) := by
  refine Met.ofW (cc := cX0_fightsOf) (maxL := 3) (ret := (some .int)) (by decide) rfl ?_
  intro p e s m args below meth c s₁ B hml hv
  obtain ⟨rfl, hP, hB⟩ := hv
  have hx := B.exec
  have hb := B.bytes
  have hr := B.returns
  have hts := atoms_spec (ws := wq_g_BfightsOf) B.pre
  have hown : s.vm.findClass RX0 = some m.cls := findClass_of_methodNamed B.named
  have hlocks := B.notSynchronized
  have hK := hB.1
  have hP : va_P (gD G) vwCl [(bd, .inr (1, [.ref bk, b_wt, b_bl, b_wn, b_se, b_lo])), (bk, .inr (2, [.ref ca, v1, v2, v3, v4, v5])), (ca, .inl (gI G, 2088, .inl f))] s.heap := hP
  have hl := lv_entry ([.ref bd, .int x]) (n := 3) (Nat.le_of_ble_eq_true rfl)
  rw [lg_entry_eq]
  generalize (lg_sl ([.ref bd, .int x]) ++ List.replicate (3 - (lg_sl ([.ref bd, .int x])).length) Slot.unset).toArray = ls at hl ⊢
  have hl : lv_has ls 3 [(0, .ref bd), (1, .int x)] := hl
  refine lv_aload_n hx hb dX0_fightsOf_0 rfl (lv_at hl 0 rfl) ?_
  refine lv_iload_n hx hb dX0_fightsOf_1 rfl (lv_at hl 1 rfl) ?_
  refine vp_callSi (va_Run.run (va_runV (As := [.int x]) (rest := []) ⟨hx, hb, hml, hown, hts⟩ (c_Board_sizeOf l G bd bk ca 2088 f v1 v2 v3 v4 v5 b_wt b_bl b_wn b_se b_lo x (by decide)) (cwV 1 hts (gdV (List.mem_cons_of_mem _ (List.mem_append_left _ (List.mem_of_getElem? (i := 0) rfl))) (List.mem_cons_of_mem _ (List.mem_append_left _ (List.mem_of_getElem? (i := 1) rfl))) (List.mem_cons_of_mem _ (List.mem_append_left _ (List.mem_of_getElem? (i := 2) rfl))) (List.mem_cons_of_mem _ (List.mem_append_left _ (List.mem_of_getElem? (i := 3) rfl))) (fun w9 h9 => ⟨(List.mem_cons_of_mem _ (List.mem_append_right _ (List.mem_append_left _ h9))), gd_c_Board_sizeOf w9 h9⟩)) rfl rfl rfl kVX0_sizeOf ⟨Nat.le_of_ble_eq_true rfl, Nat.le_of_ble_eq_true rfl⟩) (preV_p (As := [.int x]) (hP.sub (ws' := [(bd, .inr (1, [.ref bk, b_wt, b_bl, b_wn, b_se, b_lo])), (bk, .inr (2, [.ref ca, v1, v2, v3, v4, v5])), (ca, .inl (gI G, 2088, .inl f))]) [0, 1, 2] rfl) hB rfl rfl) rfl rfl hl.1 rfl (lv_room (Nat.le_of_ble_eq_true rfl)) dX0_fightsOf_2 ⟨Nat.le_of_ble_eq_true rfl, Nat.le_of_ble_eq_true rfl⟩)) (fun r_1 hr_1 => ?_)
  subst hr_1
  refine lv_istore_n (lv' := [(2, .int (rg f 2088 (4 + x * 36 + 3))), (0, .ref bd), (1, .int x)]) hx hb dX0_fightsOf_5 rfl hl (by decide) rfl (fun ls hl => ?_)
  refine lv_aload_n hx hb dX0_fightsOf_6 rfl (lv_at hl 1 rfl) ?_
  refine lv_iload_n hx hb dX0_fightsOf_7 rfl (lv_at hl 2 rfl) ?_
  refine vp_callSi (va_Run.run (va_runV (As := [.int x]) (rest := []) ⟨hx, hb, hml, hown, hts⟩ (c_Board_kindOf l G bd bk ca 2088 f v1 v2 v3 v4 v5 b_wt b_bl b_wn b_se b_lo x (by decide)) (cwV 1 hts (gdV (List.mem_cons_of_mem _ (List.mem_append_left _ (List.mem_of_getElem? (i := 4) rfl))) (List.mem_cons_of_mem _ (List.mem_append_left _ (List.mem_of_getElem? (i := 5) rfl))) (List.mem_cons_of_mem _ (List.mem_append_left _ (List.mem_of_getElem? (i := 6) rfl))) (List.mem_cons_of_mem _ (List.mem_append_left _ (List.mem_of_getElem? (i := 3) rfl))) (fun w9 h9 => ⟨(List.mem_cons_of_mem _ (List.mem_append_right _ (List.mem_append_right _ (List.mem_append_left _ h9)))), gd_c_Board_kindOf w9 h9⟩)) rfl rfl rfl kVX0_kindOf ⟨Nat.le_of_ble_eq_true rfl, Nat.le_of_ble_eq_true rfl⟩) (preV_p (As := [.int x]) (hP.sub (ws' := [(bd, .inr (1, [.ref bk, b_wt, b_bl, b_wn, b_se, b_lo])), (bk, .inr (2, [.ref ca, v1, v2, v3, v4, v5])), (ca, .inl (gI G, 2088, .inl f))]) [0, 1, 2] rfl) hB rfl rfl) rfl rfl hl.1 rfl (lv_room (Nat.le_of_ble_eq_true rfl)) dX0_fightsOf_8 ⟨Nat.le_of_ble_eq_true rfl, Nat.le_of_ble_eq_true rfl⟩)) (fun r_2 hr_2 => ?_)
  subst hr_2
  by_cases c_3 : (rg f 2088 (4 + x * 36 + 2)) = 1
  · refine gx_ti (y := 1) c_3 ?_
    refine lv_lookup (off := 25) (tgt := 36) hx hb dX0_fightsOf_11 (by decide) (by decide) (by decide) ?_
    refine lv_iload_n hx hb dX0_fightsOf_36 rfl (lv_at hl 0 rfl) ?_
    refine lv_iload_n hx hb dX0_fightsOf_37 rfl (lv_at hl 0 rfl) ?_
    refine lv_iconst (v := 1) hx hb dX0_fightsOf_38 (by decide) ?_
    refine lv_isub hx hb dX0_fightsOf_39 ?_
    refine lv_imul hx hb dX0_fightsOf_40 ?_
    refine lv_iconst (v := 2) hx hb dX0_fightsOf_41 (by decide) ?_
    refine lv_idiv hx hb dX0_fightsOf_42 (by decide) ?_
    exact W.iret (v := (((rg f 2088 (4 + x * 36 + 3)) * ((rg f 2088 (4 + x * 36 + 3)) - 1)) / 2)) hx hb hr (fun t ht hW => ⟨_, rfl, by unfold bfo; rw [if_pos c_3], ht⟩) (fun q h => absurd h List.not_mem_nil) dX0_fightsOf_43
  by_cases c_4 : (rg f 2088 (4 + x * 36 + 2)) = 2
  · refine gx_ti (y := 2) c_4 ?_
    refine lv_lookup (off := 33) (tgt := 44) hx hb dX0_fightsOf_11 (by decide) (by decide) (by decide) ?_
    refine lv_iload_n hx hb dX0_fightsOf_44 rfl (lv_at hl 0 rfl) ?_
    refine lv_iconst (v := 1) hx hb dX0_fightsOf_45 (by decide) ?_
    refine lv_isub hx hb dX0_fightsOf_46 ?_
    refine lv_iconst (v := 2) hx hb dX0_fightsOf_47 (by decide) ?_
    refine lv_iload_n hx hb dX0_fightsOf_48 rfl (lv_at hl 0 rfl) ?_
    refine vp_callSi (va_Run.run (va_runS (As := [.int (rg f 2088 (4 + x * 36 + 3))]) (rest := [.int 2, .int ((rg f 2088 (4 + x * 36 + 3)) - 1)]) ⟨hx, hb, hml, hown, hts⟩ (g_stepsOf l G (rg f 2088 (4 + x * 36 + 3))) (va_cwS 1 hts (gdS (List.mem_cons_of_mem _ (List.mem_append_left _ (List.mem_of_getElem? (i := 7) rfl))) (List.mem_cons_of_mem _ (List.mem_append_left _ (List.mem_of_getElem? (i := 8) rfl))) (List.mem_cons_of_mem _ (List.mem_append_left _ (List.mem_of_getElem? (i := 3) rfl))) (fun w9 h9 => ⟨(List.mem_cons_of_mem _ (List.mem_append_right _ (List.mem_append_right _ (List.mem_append_right _ (List.mem_append_left _ h9))))), gd_g_stepsOf w9 h9⟩)) rfl rfl rfl kSX0_stepsOf ⟨Nat.le_of_ble_eq_true rfl, Nat.le_of_ble_eq_true rfl⟩) (preS_p (As := [.int (rg f 2088 (4 + x * 36 + 3))]) (hP.sub (ws' := []) [] rfl) hB) rfl rfl hl.1 rfl (lv_room (Nat.le_of_ble_eq_true rfl)) dX0_fightsOf_49 ⟨Nat.le_of_ble_eq_true rfl, Nat.le_of_ble_eq_true rfl⟩)) (fun r_5 hr_5 => ?_)
    subst hr_5
    refine lv_imul hx hb dX0_fightsOf_52 ?_
    refine lv_iadd hx hb dX0_fightsOf_53 ?_
    exact W.iret (v := (((rg f 2088 (4 + x * 36 + 3)) - 1) + (2 * (bst (rg f 2088 (4 + x * 36 + 3)))))) hx hb hr (fun t ht hW => ⟨_, rfl, by unfold bfo; rw [if_neg c_3, if_pos c_4], ht⟩) (fun q h => absurd h List.not_mem_nil) dX0_fightsOf_54
  refine lv_lookup (off := 44) (tgt := 55) hx hb dX0_fightsOf_11 (by decide) (by show Op.lookupswitch.offset [(1, 25), (2, 33)] 44 _ = _; rw [Op.lookupswitch.offset_cons, if_neg (gl_ne c_3 (by decide)), Op.lookupswitch.offset_cons, if_neg (gl_ne c_4 (by decide))]; rfl) (by decide) ?_
  refine lv_iconst (v := 0) hx hb dX0_fightsOf_55 (by decide) ?_
  exact W.iret (v := 0) hx hb hr (fun t ht hW => ⟨_, rfl, by unfold bfo; rw [if_neg c_3, if_neg c_4], ht⟩) (fun q h => absurd h List.not_mem_nil) dX0_fightsOf_56

def wo_g_Bhas : List Cond := [.static yX11_isClass, .initialized RX11, .methodLink RX0 59 yX0_fightsOf, .instanceMethod yX0_fightsOf, .selects RX0 yX0_fightsOf yX0_fightsOf, .initialized RX0]
def wq_g_Bhas : List Cond := .code yX0_has cX0_has 3 (some .boolean) :: (wo_g_Bhas ++ (wq_g_isClass ++ (wq_g_BfightsOf ++ [])))
theorem gd_g_Bhas : ∀ w ∈ wq_g_Bhas, Gd w := List.forall_mem_cons.mpr ⟨Or.inl rfl, List.forall_mem_append.mpr ⟨gdl wo_g_Bhas (by decide +kernel), (List.forall_mem_append.mpr ⟨gd_g_isClass, (List.forall_mem_append.mpr ⟨gd_g_BfightsOf, (fun _ h => absurd h List.not_mem_nil)⟩)⟩)⟩⟩
theorem in_g_Bhas : ∀ w ∈ wq_g_Bhas, w ∈ lw_tbl := List.forall_mem_cons.mpr ⟨List.mem_of_getElem? (i := 1217) (by decide +kernel), List.forall_mem_append.mpr ⟨inT wo_g_Bhas [980, 154, 1201, 1180, 1181, 164] (by decide +kernel), (List.forall_mem_append.mpr ⟨in_g_isClass, (List.forall_mem_append.mpr ⟨in_g_BfightsOf, (fun _ h => absurd h List.not_mem_nil)⟩)⟩)⟩⟩
set_option maxHeartbeats 4000000 in
set_option maxRecDepth 100000 in
theorem g_Bhas (l : Launch) (G : gG) (bd : Nat) (bk : Nat) (ca : Nat) (f : Nat → Int32) (v1 : Value) (v2 : Value) (v3 : Value) (v4 : Value) (v5 : Value) (b_wt : Value) (b_bl : Value) (b_wn : Value) (b_se : Value) (b_lo : Value) (x : Int32) (y : Int32) : Met l yX0_has wq_g_Bhas ({ frames := 3, cells := 0, slots := 0, locals := 64 }) (va_Pc [.ref bd, .int x, .int y] (pP G [(bd, .inr (1, [.ref bk, b_wt, b_bl, b_wn, b_se, b_lo])), (bk, .inr (2, [.ref ca, v1, v2, v3, v4, v5])), (ca, .inl (gI G, 2088, .inl f))])) (vp_Si (fun r : Int32 => r = 0 ∨ r = 1)) 0 0 (fun _ => False) := by
  refine Met.ofW (cc := cX0_has) (maxL := 3) (ret := (some .boolean)) (by decide) rfl ?_
  intro p e s m args below meth c s₁ B hml hv
  obtain ⟨rfl, hP, hB⟩ := hv
  have hx := B.exec
  have hb := B.bytes
  have hr := B.returns
  have hts := atoms_spec (ws := wq_g_Bhas) B.pre
  have hown : s.vm.findClass RX0 = some m.cls := findClass_of_methodNamed B.named
  have hlocks := B.notSynchronized
  have hK := hB.1
  have hP : va_P (gD G) vwCl [(bd, .inr (1, [.ref bk, b_wt, b_bl, b_wn, b_se, b_lo])), (bk, .inr (2, [.ref ca, v1, v2, v3, v4, v5])), (ca, .inl (gI G, 2088, .inl f))] s.heap := hP
  have hl := lv_entry ([.ref bd, .int x, .int y]) (n := 3) (Nat.le_of_ble_eq_true rfl)
  rw [lg_entry_eq]
  generalize (lg_sl ([.ref bd, .int x, .int y]) ++ List.replicate (3 - (lg_sl ([.ref bd, .int x, .int y])).length) Slot.unset).toArray = ls at hl ⊢
  have hl : lv_has ls 3 [(0, .ref bd), (1, .int x), (2, .int y)] := hl
  refine lv_iload_n hx hb dX0_has_0 rfl (lv_at hl 1 rfl) ?_
  refine vp_callSi (va_Run.run (va_runSN (As := [.int x]) (rest := []) ⟨hx, hb, hml, hown, hts⟩ (g_isClass l G x) ⟨va_cnB 1 hts (fun w9 h9 => ⟨(List.mem_cons_of_mem _ (List.mem_append_right _ (List.mem_append_left _ h9))), gd_g_isClass w9 h9⟩) rfl rfl rfl (hB.nmt 0 rfl) (hts (.initialized RX11) (List.mem_cons_of_mem _ (List.mem_append_left _ (List.mem_of_getElem? (i := 1) rfl)))) kSX11_isClass ⟨Nat.le_of_ble_eq_true rfl, Nat.le_of_ble_eq_true rfl⟩, hts (.static yX11_isClass) (List.mem_cons_of_mem _ (List.mem_append_left _ (List.mem_of_getElem? (i := 0) rfl))), trivial⟩ (preS_p (As := [.int x]) (hP.sub (ws' := []) [] rfl) hB) rfl rfl hl.1 rfl (lv_room (Nat.le_of_ble_eq_true rfl)) dX0_has_1 ⟨Nat.le_of_ble_eq_true rfl, Nat.le_of_ble_eq_true rfl⟩)) (fun r_1 hr_1 => ?_)
  have hr_1 : r_1 = 0 ∨ r_1 = 1 := hr_1
  refine lv_if_eq (tgt := 24) hx hb dX0_has_4 (by decide) (fun c_2 => ?_) (fun c_2 => ?_)
  · skip
    refine lv_iconst (v := 0) hx hb dX0_has_24 (by decide) ?_
    exact W.zret (v := 0) hx hb hr rfl (fun t ht hW => ⟨_, rfl, Or.inl rfl, ht⟩) (fun q h => absurd h List.not_mem_nil) dX0_has_25
  · skip
    refine lv_iload_n hx hb dX0_has_7 rfl (lv_at hl 2 rfl) ?_
    refine lv_if_lt (tgt := 24) hx hb dX0_has_8 (by decide) (fun c_3 => ?_) (fun c_3 => ?_)
    · skip
      refine lv_iconst (v := 0) hx hb dX0_has_24 (by decide) ?_
      exact W.zret (v := 0) hx hb hr rfl (fun t ht hW => ⟨_, rfl, Or.inl rfl, ht⟩) (fun q h => absurd h List.not_mem_nil) dX0_has_25
    · skip
      refine lv_iload_n hx hb dX0_has_11 rfl (lv_at hl 2 rfl) ?_
      refine lv_aload_n hx hb dX0_has_12 rfl (lv_at hl 0 rfl) ?_
      refine lv_iload_n hx hb dX0_has_13 rfl (lv_at hl 1 rfl) ?_
      refine vp_callSi (va_Run.run (va_runV (As := [.int x]) (rest := [.int y]) ⟨hx, hb, hml, hown, hts⟩ (g_BfightsOf l G bd bk ca f v1 v2 v3 v4 v5 b_wt b_bl b_wn b_se b_lo x) (cwV 1 hts (gdV (List.mem_cons_of_mem _ (List.mem_append_left _ (List.mem_of_getElem? (i := 2) rfl))) (List.mem_cons_of_mem _ (List.mem_append_left _ (List.mem_of_getElem? (i := 3) rfl))) (List.mem_cons_of_mem _ (List.mem_append_left _ (List.mem_of_getElem? (i := 4) rfl))) (List.mem_cons_of_mem _ (List.mem_append_left _ (List.mem_of_getElem? (i := 5) rfl))) (fun w9 h9 => ⟨(List.mem_cons_of_mem _ (List.mem_append_right _ (List.mem_append_right _ (List.mem_append_left _ h9)))), gd_g_BfightsOf w9 h9⟩)) rfl rfl rfl kVX0_fightsOf ⟨Nat.le_of_ble_eq_true rfl, Nat.le_of_ble_eq_true rfl⟩) (preV_p (As := [.int x]) (hP.sub (ws' := [(bd, .inr (1, [.ref bk, b_wt, b_bl, b_wn, b_se, b_lo])), (bk, .inr (2, [.ref ca, v1, v2, v3, v4, v5])), (ca, .inl (gI G, 2088, .inl f))]) [0, 1, 2] rfl) hB rfl rfl) rfl rfl hl.1 rfl (lv_room (Nat.le_of_ble_eq_true rfl)) dX0_has_14 ⟨Nat.le_of_ble_eq_true rfl, Nat.le_of_ble_eq_true rfl⟩)) (fun r_4 hr_4 => ?_)
      subst hr_4
      refine lv_icmp_ge (tgt := 24) hx hb dX0_has_17 (by decide) (fun c_5 => ?_) (fun c_5 => ?_)
      · skip
        refine lv_iconst (v := 0) hx hb dX0_has_24 (by decide) ?_
        exact W.zret (v := 0) hx hb hr rfl (fun t ht hW => ⟨_, rfl, Or.inl rfl, ht⟩) (fun q h => absurd h List.not_mem_nil) dX0_has_25
      · skip
        refine lv_iconst (v := 1) hx hb dX0_has_20 (by decide) ?_
        refine lv_goto (tgt := 25) hx hb dX0_has_21 (by decide) ?_
        exact W.zret (v := 1) hx hb hr rfl (fun t ht hW => ⟨_, rfl, Or.inr rfl, ht⟩) (fun q h => absurd h List.not_mem_nil) dX0_has_25

def wo_g_BonPlace : List Cond := [.methodLink RX0 46 yX0_kindOf, .instanceMethod yX0_kindOf, .selects RX0 yX0_kindOf yX0_kindOf, .initialized RX0, .methodLink RX0 49 yX0_sizeOf, .instanceMethod yX0_sizeOf, .selects RX0 yX0_sizeOf yX0_sizeOf, .fieldLink RX0 11 "JudoHall$Board" "book" "LJudoHall$Book;", .methodLink RX0 38 yX1_ofClass, .static yX1_ofClass, .initialized RX1, .methodLink RX0 42 yX1_at, .instanceMethod yX1_at, .selects RX1 yX1_at yX1_at]
def wq_g_BonPlace : List Cond := .code yX0_onPlace cX0_onPlace 4 (some .int) :: (wo_g_BonPlace ++ (wq_c_Board_kindOf ++ (wq_c_Board_sizeOf ++ (wsX00 ++ (wq_c_Book_ofClass ++ (wq_c_Book_at ++ []))))))
theorem gd_g_BonPlace : ∀ w ∈ wq_g_BonPlace, Gd w := List.forall_mem_cons.mpr ⟨Or.inl rfl, List.forall_mem_append.mpr ⟨gdl wo_g_BonPlace (by decide +kernel), (List.forall_mem_append.mpr ⟨gd_c_Board_kindOf, (List.forall_mem_append.mpr ⟨gd_c_Board_sizeOf, (List.forall_mem_append.mpr ⟨gd_wsX00, (List.forall_mem_append.mpr ⟨gd_c_Book_ofClass, (List.forall_mem_append.mpr ⟨gd_c_Book_at, (fun _ h => absurd h List.not_mem_nil)⟩)⟩)⟩)⟩)⟩)⟩⟩
theorem in_g_BonPlace : ∀ w ∈ wq_g_BonPlace, w ∈ lw_tbl := List.forall_mem_cons.mpr ⟨List.mem_of_getElem? (i := 1209) (by decide +kernel), List.forall_mem_append.mpr ⟨inT wo_g_BonPlace [990, 991, 992, 164, 1123, 1124, 1125, 415, 994, 219, 155, 995, 623, 624] (by decide +kernel), (List.forall_mem_append.mpr ⟨in_c_Board_kindOf, (List.forall_mem_append.mpr ⟨in_c_Board_sizeOf, (List.forall_mem_append.mpr ⟨in_wsX00, (List.forall_mem_append.mpr ⟨in_c_Book_ofClass, (List.forall_mem_append.mpr ⟨in_c_Book_at, (fun _ h => absurd h List.not_mem_nil)⟩)⟩)⟩)⟩)⟩)⟩⟩
set_option maxHeartbeats 4000000 in
set_option maxRecDepth 100000 in
theorem g_BonPlace (l : Launch) (G : gG) (bd : Nat) (bk : Nat) (ca : Nat) (f : Nat → Int32) (v1 : Value) (v2 : Value) (v3 : Value) (v4 : Value) (v5 : Value) (b_wt : Value) (b_bl : Value) (b_wn : Value) (b_se : Value) (b_lo : Value) (x : Int32) (y : Int32) : Met l yX0_onPlace wq_g_BonPlace ({ frames := 2, cells := 0, slots := 0, locals := 42 }) (va_Pc [.ref bd, .int x, .int y] (pP G [(bd, .inr (1, [.ref bk, b_wt, b_bl, b_wn, b_se, b_lo])), (bk, .inr (2, [.ref ca, v1, v2, v3, v4, v5])), (ca, .inl (gI G, 2088, .inl f))])) (vp_Si (fun r : Int32 => True)) 0 0 (fun _ => False) := by
  refine Met.ofW (cc := cX0_onPlace) (maxL := 4) (ret := (some .int)) (by decide) rfl ?_
  intro p e s m args below meth c s₁ B hml hv
  obtain ⟨rfl, hP, hB⟩ := hv
  have hx := B.exec
  have hb := B.bytes
  have hr := B.returns
  have hts := atoms_spec (ws := wq_g_BonPlace) B.pre
  have hown : s.vm.findClass RX0 = some m.cls := findClass_of_methodNamed B.named
  have hlocks := B.notSynchronized
  have hK := hB.1
  have hP : va_P (gD G) vwCl [(bd, .inr (1, [.ref bk, b_wt, b_bl, b_wn, b_se, b_lo])), (bk, .inr (2, [.ref ca, v1, v2, v3, v4, v5])), (ca, .inl (gI G, 2088, .inl f))] s.heap := hP
  have hl := lv_entry ([.ref bd, .int x, .int y]) (n := 4) (Nat.le_of_ble_eq_true rfl)
  rw [lg_entry_eq]
  generalize (lg_sl ([.ref bd, .int x, .int y]) ++ List.replicate (4 - (lg_sl ([.ref bd, .int x, .int y])).length) Slot.unset).toArray = ls at hl ⊢
  have hl : lv_has ls 4 [(0, .ref bd), (1, .int x), (2, .int y)] := hl
  refine lv_aload_n hx hb dX0_onPlace_0 rfl (lv_at hl 0 rfl) ?_
  refine lv_iload_n hx hb dX0_onPlace_1 rfl (lv_at hl 1 rfl) ?_
  refine vp_callSi (va_Run.run (va_runV (As := [.int x]) (rest := []) ⟨hx, hb, hml, hown, hts⟩ (c_Board_kindOf l G bd bk ca 2088 f v1 v2 v3 v4 v5 b_wt b_bl b_wn b_se b_lo x (by decide)) (cwV 1 hts (gdV (List.mem_cons_of_mem _ (List.mem_append_left _ (List.mem_of_getElem? (i := 0) rfl))) (List.mem_cons_of_mem _ (List.mem_append_left _ (List.mem_of_getElem? (i := 1) rfl))) (List.mem_cons_of_mem _ (List.mem_append_left _ (List.mem_of_getElem? (i := 2) rfl))) (List.mem_cons_of_mem _ (List.mem_append_left _ (List.mem_of_getElem? (i := 3) rfl))) (fun w9 h9 => ⟨(List.mem_cons_of_mem _ (List.mem_append_right _ (List.mem_append_left _ h9))), gd_c_Board_kindOf w9 h9⟩)) rfl rfl rfl kVX0_kindOf ⟨Nat.le_of_ble_eq_true rfl, Nat.le_of_ble_eq_true rfl⟩) (preV_p (As := [.int x]) (hP.sub (ws' := [(bd, .inr (1, [.ref bk, b_wt, b_bl, b_wn, b_se, b_lo])), (bk, .inr (2, [.ref ca, v1, v2, v3, v4, v5])), (ca, .inl (gI G, 2088, .inl f))]) [0, 1, 2] rfl) hB rfl rfl) rfl rfl hl.1 rfl (lv_room (Nat.le_of_ble_eq_true rfl)) dX0_onPlace_2 ⟨Nat.le_of_ble_eq_true rfl, Nat.le_of_ble_eq_true rfl⟩)) (fun r_1 hr_1 => ?_)
  subst hr_1
  refine lv_iconst (v := 2) hx hb dX0_onPlace_5 (by decide) ?_
  refine lv_icmp_ne (tgt := 26) hx hb dX0_onPlace_6 (by decide) (fun c_2 => ?_) (fun c_2 => ?_)
  · skip
    refine lv_iconst (v := 0) hx hb dX0_onPlace_26 (by decide) ?_
    refine lv_istore_n (lv' := [(3, .int 0), (0, .ref bd), (1, .int x), (2, .int y)]) hx hb dX0_onPlace_27 rfl hl (by decide) rfl (fun ls hl => ?_)
    refine lv_iload_n hx hb dX0_onPlace_28 rfl (lv_at hl 0 rfl) ?_
    refine lv_if_eq (tgt := 49) hx hb dX0_onPlace_29 (by decide) (fun _ => ?_) (fun c9 => absurd (by decide) c9)
    refine lv_iconst (v := (-1)) hx hb dX0_onPlace_49 (by decide) ?_
    exact W.iret (v := (-1)) hx hb hr (fun t ht hW => ⟨_, rfl, trivial, ht⟩) (fun q h => absurd h List.not_mem_nil) dX0_onPlace_50
  · skip
    refine lv_iload_n hx hb dX0_onPlace_9 rfl (lv_at hl 2 rfl) ?_
    refine lv_if_lt (tgt := 26) hx hb dX0_onPlace_10 (by decide) (fun c_3 => ?_) (fun c_3 => ?_)
    · skip
      refine lv_iconst (v := 0) hx hb dX0_onPlace_26 (by decide) ?_
      refine lv_istore_n (lv' := [(3, .int 0), (0, .ref bd), (1, .int x), (2, .int y)]) hx hb dX0_onPlace_27 rfl hl (by decide) rfl (fun ls hl => ?_)
      refine lv_iload_n hx hb dX0_onPlace_28 rfl (lv_at hl 0 rfl) ?_
      refine lv_if_eq (tgt := 49) hx hb dX0_onPlace_29 (by decide) (fun _ => ?_) (fun c9 => absurd (by decide) c9)
      refine lv_iconst (v := (-1)) hx hb dX0_onPlace_49 (by decide) ?_
      exact W.iret (v := (-1)) hx hb hr (fun t ht hW => ⟨_, rfl, trivial, ht⟩) (fun q h => absurd h List.not_mem_nil) dX0_onPlace_50
    · skip
      refine lv_iload_n hx hb dX0_onPlace_13 rfl (lv_at hl 2 rfl) ?_
      refine lv_aload_n hx hb dX0_onPlace_14 rfl (lv_at hl 0 rfl) ?_
      refine lv_iload_n hx hb dX0_onPlace_15 rfl (lv_at hl 1 rfl) ?_
      refine vp_callSi (va_Run.run (va_runV (As := [.int x]) (rest := [.int y]) ⟨hx, hb, hml, hown, hts⟩ (c_Board_sizeOf l G bd bk ca 2088 f v1 v2 v3 v4 v5 b_wt b_bl b_wn b_se b_lo x (by decide)) (cwV 1 hts (gdV (List.mem_cons_of_mem _ (List.mem_append_left _ (List.mem_of_getElem? (i := 4) rfl))) (List.mem_cons_of_mem _ (List.mem_append_left _ (List.mem_of_getElem? (i := 5) rfl))) (List.mem_cons_of_mem _ (List.mem_append_left _ (List.mem_of_getElem? (i := 6) rfl))) (List.mem_cons_of_mem _ (List.mem_append_left _ (List.mem_of_getElem? (i := 3) rfl))) (fun w9 h9 => ⟨(List.mem_cons_of_mem _ (List.mem_append_right _ (List.mem_append_right _ (List.mem_append_left _ h9)))), gd_c_Board_sizeOf w9 h9⟩)) rfl rfl rfl kVX0_sizeOf ⟨Nat.le_of_ble_eq_true rfl, Nat.le_of_ble_eq_true rfl⟩) (preV_p (As := [.int x]) (hP.sub (ws' := [(bd, .inr (1, [.ref bk, b_wt, b_bl, b_wn, b_se, b_lo])), (bk, .inr (2, [.ref ca, v1, v2, v3, v4, v5])), (ca, .inl (gI G, 2088, .inl f))]) [0, 1, 2] rfl) hB rfl rfl) rfl rfl hl.1 rfl (lv_room (Nat.le_of_ble_eq_true rfl)) dX0_onPlace_16 ⟨Nat.le_of_ble_eq_true rfl, Nat.le_of_ble_eq_true rfl⟩)) (fun r_4 hr_4 => ?_)
      subst hr_4
      refine lv_icmp_ge (tgt := 26) hx hb dX0_onPlace_19 (by decide) (fun c_5 => ?_) (fun c_5 => ?_)
      · skip
        refine lv_iconst (v := 0) hx hb dX0_onPlace_26 (by decide) ?_
        refine lv_istore_n (lv' := [(3, .int 0), (0, .ref bd), (1, .int x), (2, .int y)]) hx hb dX0_onPlace_27 rfl hl (by decide) rfl (fun ls hl => ?_)
        refine lv_iload_n hx hb dX0_onPlace_28 rfl (lv_at hl 0 rfl) ?_
        refine lv_if_eq (tgt := 49) hx hb dX0_onPlace_29 (by decide) (fun _ => ?_) (fun c9 => absurd (by decide) c9)
        refine lv_iconst (v := (-1)) hx hb dX0_onPlace_49 (by decide) ?_
        exact W.iret (v := (-1)) hx hb hr (fun t ht hW => ⟨_, rfl, trivial, ht⟩) (fun q h => absurd h List.not_mem_nil) dX0_onPlace_50
      · skip
        refine lv_iconst (v := 1) hx hb dX0_onPlace_22 (by decide) ?_
        refine lv_goto (tgt := 27) hx hb dX0_onPlace_23 (by decide) ?_
        refine lv_istore_n (lv' := [(3, .int 1), (0, .ref bd), (1, .int x), (2, .int y)]) hx hb dX0_onPlace_27 rfl hl (by decide) rfl (fun ls hl => ?_)
        refine lv_iload_n hx hb dX0_onPlace_28 rfl (lv_at hl 0 rfl) ?_
        refine lv_if_eq (tgt := 49) hx hb dX0_onPlace_29 (by decide) (fun c9 => absurd c9 (by decide)) (fun _ => ?_)
        refine lv_aload_n hx hb dX0_onPlace_32 rfl (lv_at hl 1 rfl) ?_
        refine va_get (D := gD G) (ci := 1) (v := .ref bk) (C := RX0) (T := TX0) (N := 6) hx hb hts (fun _ h9 => (List.mem_cons_of_mem _ (List.mem_append_right _ (List.mem_append_right _ (List.mem_append_right _ (List.mem_append_left _ h9)))))) hown hK hP 0 rfl rfl 0 (by decide) (hts (.fieldLink RX0 11 "JudoHall$Board" "book" "LJudoHall$Book;") (List.mem_cons_of_mem _ (List.mem_append_left _ (List.mem_of_getElem? (i := 7) rfl)))) (fun _ h9 => h9) rfl dX0_onPlace_33 ?_
        refine lv_iload_n hx hb dX0_onPlace_36 rfl (lv_at hl 2 rfl) ?_
        refine lv_iconst (v := 4) hx hb dX0_onPlace_37 (by decide) ?_
        refine lv_iload_n hx hb dX0_onPlace_38 rfl (lv_at hl 3 rfl) ?_
        refine lv_iadd hx hb dX0_onPlace_39 ?_
        refine vp_callSi (va_Run.run (va_runS (As := [.int x, .int (4 + y)]) (rest := [.ref bk]) ⟨hx, hb, hml, hown, hts⟩ (c_Book_ofClass l G x (4 + y)) (va_cwS 2 hts (gdS (List.mem_cons_of_mem _ (List.mem_append_left _ (List.mem_of_getElem? (i := 8) rfl))) (List.mem_cons_of_mem _ (List.mem_append_left _ (List.mem_of_getElem? (i := 9) rfl))) (List.mem_cons_of_mem _ (List.mem_append_left _ (List.mem_of_getElem? (i := 10) rfl))) (fun w9 h9 => ⟨(List.mem_cons_of_mem _ (List.mem_append_right _ (List.mem_append_right _ (List.mem_append_right _ (List.mem_append_right _ (List.mem_append_left _ h9)))))), gd_c_Book_ofClass w9 h9⟩)) rfl rfl rfl kSX1_ofClass ⟨Nat.le_of_ble_eq_true rfl, Nat.le_of_ble_eq_true rfl⟩) (preS_p (As := [.int x, .int (4 + y)]) (hP.sub (ws' := []) [] rfl) hB) rfl rfl hl.1 rfl (lv_room (Nat.le_of_ble_eq_true rfl)) dX0_onPlace_40 ⟨Nat.le_of_ble_eq_true rfl, Nat.le_of_ble_eq_true rfl⟩)) (fun r_6 hr_6 => ?_)
        subst hr_6
        refine vp_callSi (va_Run.run (va_runV (As := [.int (4 + x * 36 + (4 + y))]) (rest := []) ⟨hx, hb, hml, hown, hts⟩ (c_Book_at l G bk ca 2088 f v1 v2 v3 v4 v5 (4 + x * 36 + (4 + y)) (by decide)) (cwV 1 hts (gdV (List.mem_cons_of_mem _ (List.mem_append_left _ (List.mem_of_getElem? (i := 11) rfl))) (List.mem_cons_of_mem _ (List.mem_append_left _ (List.mem_of_getElem? (i := 12) rfl))) (List.mem_cons_of_mem _ (List.mem_append_left _ (List.mem_of_getElem? (i := 13) rfl))) (List.mem_cons_of_mem _ (List.mem_append_left _ (List.mem_of_getElem? (i := 10) rfl))) (fun w9 h9 => ⟨(List.mem_cons_of_mem _ (List.mem_append_right _ (List.mem_append_right _ (List.mem_append_right _ (List.mem_append_right _ (List.mem_append_right _ (List.mem_append_left _ h9))))))), gd_c_Book_at w9 h9⟩)) rfl rfl rfl kVX1_at ⟨Nat.le_of_ble_eq_true rfl, Nat.le_of_ble_eq_true rfl⟩) (preV_p (As := [.int (4 + x * 36 + (4 + y))]) (hP.sub (ws' := [(bk, .inr (2, [.ref ca, v1, v2, v3, v4, v5])), (ca, .inl (gI G, 2088, .inl f))]) [1, 2] rfl) hB rfl rfl) rfl rfl hl.1 rfl (lv_room (Nat.le_of_ble_eq_true rfl)) dX0_onPlace_43 ⟨Nat.le_of_ble_eq_true rfl, Nat.le_of_ble_eq_true rfl⟩)) (fun r_7 hr_7 => ?_)
        subst hr_7
        refine lv_goto (tgt := 50) hx hb dX0_onPlace_46 (by decide) ?_
        exact W.iret (v := (rg f 2088 (4 + x * 36 + (4 + y)))) hx hb hr (fun t ht hW => ⟨_, rfl, trivial, ht⟩) (fun q h => absurd h List.not_mem_nil) dX0_onPlace_50

def wo_g_BwhiteOf : List Cond := [.fieldLink RX0 20 "JudoHall$Board" "white" "LJudoHall$Row;", .methodLink RX0 62 yX0_slot, .static yX0_slot, .initialized RX0, .methodLink RX0 65 yX9_get, .instanceMethod yX9_get, .selects RX9 yX9_get yX9_get, .initialized RX9]
def wq_g_BwhiteOf : List Cond := .code yX0_whiteOf cX0_whiteOf 3 (some .int) :: (wo_g_BwhiteOf ++ (wsX00 ++ (wq_g_slot ++ (wq_c_Row_get ++ []))))
theorem gd_g_BwhiteOf : ∀ w ∈ wq_g_BwhiteOf, Gd w := List.forall_mem_cons.mpr ⟨Or.inl rfl, List.forall_mem_append.mpr ⟨gdl wo_g_BwhiteOf (by decide +kernel), (List.forall_mem_append.mpr ⟨gd_wsX00, (List.forall_mem_append.mpr ⟨gd_g_slot, (List.forall_mem_append.mpr ⟨gd_c_Row_get, (fun _ h => absurd h List.not_mem_nil)⟩)⟩)⟩)⟩⟩
theorem in_g_BwhiteOf : ∀ w ∈ wq_g_BwhiteOf, w ∈ lw_tbl := List.forall_mem_cons.mpr ⟨List.mem_of_getElem? (i := 1174) (by decide +kernel), List.forall_mem_append.mpr ⟨inT wo_g_BwhiteOf [416, 1141, 1139, 164, 1158, 643, 644, 156] (by decide +kernel), (List.forall_mem_append.mpr ⟨in_wsX00, (List.forall_mem_append.mpr ⟨in_g_slot, (List.forall_mem_append.mpr ⟨in_c_Row_get, (fun _ h => absurd h List.not_mem_nil)⟩)⟩)⟩)⟩⟩
set_option maxHeartbeats 4000000 in
set_option maxRecDepth 100000 in
theorem g_BwhiteOf (l : Launch) (G : gG) (bd : Nat) (bk : Nat) (ca : Nat) (f : Nat → Int32) (v1 : Value) (v2 : Value) (v3 : Value) (v4 : Value) (v5 : Value) (b_bl : Value) (b_wn : Value) (b_se : Value) (b_lo : Value) (wt : Nat) (wt2 : Nat) (fwt : Nat → Int32) (x : Int32) (y : Int32) : Met l yX0_whiteOf wq_g_BwhiteOf ({ frames := 1, cells := 0, slots := 0, locals := 21 }) (va_Pc [.ref bd, .int x, .int y] (pP G [(bd, .inr (1, [.ref bk, .ref wt, b_bl, b_wn, b_se, b_lo])), (bk, .inr (2, [.ref ca, v1, v2, v3, v4, v5])), (ca, .inl (gI G, 2088, .inl f)), (wt, .inr (10, [.ref wt2])), (wt2, .inl (gI G, 148, .inl fwt))])) (vp_Si (fun r : Int32 => True)) 0 0 (fun _ => False) := by
  refine Met.ofW (cc := cX0_whiteOf) (maxL := 3) (ret := (some .int)) (by decide) rfl ?_
  intro p e s m args below meth c s₁ B hml hv
  obtain ⟨rfl, hP, hB⟩ := hv
  have hx := B.exec
  have hb := B.bytes
  have hr := B.returns
  have hts := atoms_spec (ws := wq_g_BwhiteOf) B.pre
  have hown : s.vm.findClass RX0 = some m.cls := findClass_of_methodNamed B.named
  have hlocks := B.notSynchronized
  have hK := hB.1
  have hP : va_P (gD G) vwCl [(bd, .inr (1, [.ref bk, .ref wt, b_bl, b_wn, b_se, b_lo])), (bk, .inr (2, [.ref ca, v1, v2, v3, v4, v5])), (ca, .inl (gI G, 2088, .inl f)), (wt, .inr (10, [.ref wt2])), (wt2, .inl (gI G, 148, .inl fwt))] s.heap := hP
  have hl := lv_entry ([.ref bd, .int x, .int y]) (n := 3) (Nat.le_of_ble_eq_true rfl)
  rw [lg_entry_eq]
  generalize (lg_sl ([.ref bd, .int x, .int y]) ++ List.replicate (3 - (lg_sl ([.ref bd, .int x, .int y])).length) Slot.unset).toArray = ls at hl ⊢
  have hl : lv_has ls 3 [(0, .ref bd), (1, .int x), (2, .int y)] := hl
  refine lv_aload_n hx hb dX0_whiteOf_0 rfl (lv_at hl 0 rfl) ?_
  refine va_get (D := gD G) (ci := 1) (v := .ref wt) (C := RX0) (T := TX0) (N := 6) hx hb hts (fun _ h9 => (List.mem_cons_of_mem _ (List.mem_append_right _ (List.mem_append_left _ h9)))) hown hK hP 0 rfl rfl 1 (by decide) (hts (.fieldLink RX0 20 "JudoHall$Board" "white" "LJudoHall$Row;") (List.mem_cons_of_mem _ (List.mem_append_left _ (List.mem_of_getElem? (i := 0) rfl)))) (fun _ h9 => h9) rfl dX0_whiteOf_1 ?_
  refine lv_iload_n hx hb dX0_whiteOf_4 rfl (lv_at hl 1 rfl) ?_
  refine lv_iload_n hx hb dX0_whiteOf_5 rfl (lv_at hl 2 rfl) ?_
  refine vp_callSi (va_Run.run (va_runS (As := [.int x, .int y]) (rest := [.ref wt]) ⟨hx, hb, hml, hown, hts⟩ (g_slot l G x y) (va_cwS 2 hts (gdS (List.mem_cons_of_mem _ (List.mem_append_left _ (List.mem_of_getElem? (i := 1) rfl))) (List.mem_cons_of_mem _ (List.mem_append_left _ (List.mem_of_getElem? (i := 2) rfl))) (List.mem_cons_of_mem _ (List.mem_append_left _ (List.mem_of_getElem? (i := 3) rfl))) (fun w9 h9 => ⟨(List.mem_cons_of_mem _ (List.mem_append_right _ (List.mem_append_right _ (List.mem_append_left _ h9)))), gd_g_slot w9 h9⟩)) rfl rfl rfl kSX0_slot ⟨Nat.le_of_ble_eq_true rfl, Nat.le_of_ble_eq_true rfl⟩) (preS_p (As := [.int x, .int y]) (hP.sub (ws' := []) [] rfl) hB) rfl rfl hl.1 rfl (lv_room (Nat.le_of_ble_eq_true rfl)) dX0_whiteOf_6 ⟨Nat.le_of_ble_eq_true rfl, Nat.le_of_ble_eq_true rfl⟩)) (fun r_1 hr_1 => ?_)
  clear hr_1
  refine vp_callSi (va_Run.run (va_runV (As := [.int r_1]) (rest := []) ⟨hx, hb, hml, hown, hts⟩ (c_Row_get l G wt wt2 148 fwt r_1 (by decide)) (cwV 1 hts (gdV (List.mem_cons_of_mem _ (List.mem_append_left _ (List.mem_of_getElem? (i := 4) rfl))) (List.mem_cons_of_mem _ (List.mem_append_left _ (List.mem_of_getElem? (i := 5) rfl))) (List.mem_cons_of_mem _ (List.mem_append_left _ (List.mem_of_getElem? (i := 6) rfl))) (List.mem_cons_of_mem _ (List.mem_append_left _ (List.mem_of_getElem? (i := 7) rfl))) (fun w9 h9 => ⟨(List.mem_cons_of_mem _ (List.mem_append_right _ (List.mem_append_right _ (List.mem_append_right _ (List.mem_append_left _ h9))))), gd_c_Row_get w9 h9⟩)) rfl rfl rfl kVX9_get ⟨Nat.le_of_ble_eq_true rfl, Nat.le_of_ble_eq_true rfl⟩) (preV_p (As := [.int r_1]) (hP.sub (ws' := [(wt, .inr (10, [.ref wt2])), (wt2, .inl (gI G, 148, .inl fwt))]) [3, 4] rfl) hB rfl rfl) rfl rfl hl.1 rfl (lv_room (Nat.le_of_ble_eq_true rfl)) dX0_whiteOf_9 ⟨Nat.le_of_ble_eq_true rfl, Nat.le_of_ble_eq_true rfl⟩)) (fun r_2 hr_2 => ?_)
  subst hr_2
  exact W.iret (v := (rg fwt 148 r_1)) hx hb hr (fun t ht hW => ⟨_, rfl, trivial, ht⟩) (fun q h => absurd h List.not_mem_nil) dX0_whiteOf_12

def wo_g_BblueOf : List Cond := [.fieldLink RX0 24 "JudoHall$Board" "blue" "LJudoHall$Row;", .methodLink RX0 62 yX0_slot, .static yX0_slot, .initialized RX0, .methodLink RX0 65 yX9_get, .instanceMethod yX9_get, .selects RX9 yX9_get yX9_get, .initialized RX9]
def wq_g_BblueOf : List Cond := .code yX0_blueOf cX0_blueOf 3 (some .int) :: (wo_g_BblueOf ++ (wsX00 ++ (wq_g_slot ++ (wq_c_Row_get ++ []))))
theorem gd_g_BblueOf : ∀ w ∈ wq_g_BblueOf, Gd w := List.forall_mem_cons.mpr ⟨Or.inl rfl, List.forall_mem_append.mpr ⟨gdl wo_g_BblueOf (by decide +kernel), (List.forall_mem_append.mpr ⟨gd_wsX00, (List.forall_mem_append.mpr ⟨gd_g_slot, (List.forall_mem_append.mpr ⟨gd_c_Row_get, (fun _ h => absurd h List.not_mem_nil)⟩)⟩)⟩)⟩⟩
theorem in_g_BblueOf : ∀ w ∈ wq_g_BblueOf, w ∈ lw_tbl := List.forall_mem_cons.mpr ⟨List.mem_of_getElem? (i := 1178) (by decide +kernel), List.forall_mem_append.mpr ⟨inT wo_g_BblueOf [417, 1141, 1139, 164, 1158, 643, 644, 156] (by decide +kernel), (List.forall_mem_append.mpr ⟨in_wsX00, (List.forall_mem_append.mpr ⟨in_g_slot, (List.forall_mem_append.mpr ⟨in_c_Row_get, (fun _ h => absurd h List.not_mem_nil)⟩)⟩)⟩)⟩⟩
set_option maxHeartbeats 4000000 in
set_option maxRecDepth 100000 in
theorem g_BblueOf (l : Launch) (G : gG) (bd : Nat) (bk : Nat) (ca : Nat) (f : Nat → Int32) (v1 : Value) (v2 : Value) (v3 : Value) (v4 : Value) (v5 : Value) (b_wt : Value) (b_wn : Value) (b_se : Value) (b_lo : Value) (bl : Nat) (bl2 : Nat) (fbl : Nat → Int32) (x : Int32) (y : Int32) : Met l yX0_blueOf wq_g_BblueOf ({ frames := 1, cells := 0, slots := 0, locals := 21 }) (va_Pc [.ref bd, .int x, .int y] (pP G [(bd, .inr (1, [.ref bk, b_wt, .ref bl, b_wn, b_se, b_lo])), (bk, .inr (2, [.ref ca, v1, v2, v3, v4, v5])), (ca, .inl (gI G, 2088, .inl f)), (bl, .inr (10, [.ref bl2])), (bl2, .inl (gI G, 148, .inl fbl))])) (vp_Si (fun r : Int32 => True)) 0 0 (fun _ => False) := by
  refine Met.ofW (cc := cX0_blueOf) (maxL := 3) (ret := (some .int)) (by decide) rfl ?_
  intro p e s m args below meth c s₁ B hml hv
  obtain ⟨rfl, hP, hB⟩ := hv
  have hx := B.exec
  have hb := B.bytes
  have hr := B.returns
  have hts := atoms_spec (ws := wq_g_BblueOf) B.pre
  have hown : s.vm.findClass RX0 = some m.cls := findClass_of_methodNamed B.named
  have hlocks := B.notSynchronized
  have hK := hB.1
  have hP : va_P (gD G) vwCl [(bd, .inr (1, [.ref bk, b_wt, .ref bl, b_wn, b_se, b_lo])), (bk, .inr (2, [.ref ca, v1, v2, v3, v4, v5])), (ca, .inl (gI G, 2088, .inl f)), (bl, .inr (10, [.ref bl2])), (bl2, .inl (gI G, 148, .inl fbl))] s.heap := hP
  have hl := lv_entry ([.ref bd, .int x, .int y]) (n := 3) (Nat.le_of_ble_eq_true rfl)
  rw [lg_entry_eq]
  generalize (lg_sl ([.ref bd, .int x, .int y]) ++ List.replicate (3 - (lg_sl ([.ref bd, .int x, .int y])).length) Slot.unset).toArray = ls at hl ⊢
  have hl : lv_has ls 3 [(0, .ref bd), (1, .int x), (2, .int y)] := hl
  refine lv_aload_n hx hb dX0_blueOf_0 rfl (lv_at hl 0 rfl) ?_
  refine va_get (D := gD G) (ci := 1) (v := .ref bl) (C := RX0) (T := TX0) (N := 6) hx hb hts (fun _ h9 => (List.mem_cons_of_mem _ (List.mem_append_right _ (List.mem_append_left _ h9)))) hown hK hP 0 rfl rfl 2 (by decide) (hts (.fieldLink RX0 24 "JudoHall$Board" "blue" "LJudoHall$Row;") (List.mem_cons_of_mem _ (List.mem_append_left _ (List.mem_of_getElem? (i := 0) rfl)))) (fun _ h9 => h9) rfl dX0_blueOf_1 ?_
  refine lv_iload_n hx hb dX0_blueOf_4 rfl (lv_at hl 1 rfl) ?_
  refine lv_iload_n hx hb dX0_blueOf_5 rfl (lv_at hl 2 rfl) ?_
  refine vp_callSi (va_Run.run (va_runS (As := [.int x, .int y]) (rest := [.ref bl]) ⟨hx, hb, hml, hown, hts⟩ (g_slot l G x y) (va_cwS 2 hts (gdS (List.mem_cons_of_mem _ (List.mem_append_left _ (List.mem_of_getElem? (i := 1) rfl))) (List.mem_cons_of_mem _ (List.mem_append_left _ (List.mem_of_getElem? (i := 2) rfl))) (List.mem_cons_of_mem _ (List.mem_append_left _ (List.mem_of_getElem? (i := 3) rfl))) (fun w9 h9 => ⟨(List.mem_cons_of_mem _ (List.mem_append_right _ (List.mem_append_right _ (List.mem_append_left _ h9)))), gd_g_slot w9 h9⟩)) rfl rfl rfl kSX0_slot ⟨Nat.le_of_ble_eq_true rfl, Nat.le_of_ble_eq_true rfl⟩) (preS_p (As := [.int x, .int y]) (hP.sub (ws' := []) [] rfl) hB) rfl rfl hl.1 rfl (lv_room (Nat.le_of_ble_eq_true rfl)) dX0_blueOf_6 ⟨Nat.le_of_ble_eq_true rfl, Nat.le_of_ble_eq_true rfl⟩)) (fun r_1 hr_1 => ?_)
  clear hr_1
  refine vp_callSi (va_Run.run (va_runV (As := [.int r_1]) (rest := []) ⟨hx, hb, hml, hown, hts⟩ (c_Row_get l G bl bl2 148 fbl r_1 (by decide)) (cwV 1 hts (gdV (List.mem_cons_of_mem _ (List.mem_append_left _ (List.mem_of_getElem? (i := 4) rfl))) (List.mem_cons_of_mem _ (List.mem_append_left _ (List.mem_of_getElem? (i := 5) rfl))) (List.mem_cons_of_mem _ (List.mem_append_left _ (List.mem_of_getElem? (i := 6) rfl))) (List.mem_cons_of_mem _ (List.mem_append_left _ (List.mem_of_getElem? (i := 7) rfl))) (fun w9 h9 => ⟨(List.mem_cons_of_mem _ (List.mem_append_right _ (List.mem_append_right _ (List.mem_append_right _ (List.mem_append_left _ h9))))), gd_c_Row_get w9 h9⟩)) rfl rfl rfl kVX9_get ⟨Nat.le_of_ble_eq_true rfl, Nat.le_of_ble_eq_true rfl⟩) (preV_p (As := [.int r_1]) (hP.sub (ws' := [(bl, .inr (10, [.ref bl2])), (bl2, .inl (gI G, 148, .inl fbl))]) [3, 4] rfl) hB rfl rfl) rfl rfl hl.1 rfl (lv_room (Nat.le_of_ble_eq_true rfl)) dX0_blueOf_9 ⟨Nat.le_of_ble_eq_true rfl, Nat.le_of_ble_eq_true rfl⟩)) (fun r_2 hr_2 => ?_)
  subst hr_2
  exact W.iret (v := (rg fbl 148 r_1)) hx hb hr (fun t ht hW => ⟨_, rfl, trivial, ht⟩) (fun q h => absurd h List.not_mem_nil) dX0_blueOf_12

def wo_g_BwinnerOf : List Cond := [.fieldLink RX0 27 "JudoHall$Board" "winner" "LJudoHall$Row;", .methodLink RX0 62 yX0_slot, .static yX0_slot, .initialized RX0, .methodLink RX0 65 yX9_get, .instanceMethod yX9_get, .selects RX9 yX9_get yX9_get, .initialized RX9]
def wq_g_BwinnerOf : List Cond := .code yX0_winnerOf cX0_winnerOf 3 (some .int) :: (wo_g_BwinnerOf ++ (wsX00 ++ (wq_g_slot ++ (wq_c_Row_get ++ []))))
theorem gd_g_BwinnerOf : ∀ w ∈ wq_g_BwinnerOf, Gd w := List.forall_mem_cons.mpr ⟨Or.inl rfl, List.forall_mem_append.mpr ⟨gdl wo_g_BwinnerOf (by decide +kernel), (List.forall_mem_append.mpr ⟨gd_wsX00, (List.forall_mem_append.mpr ⟨gd_g_slot, (List.forall_mem_append.mpr ⟨gd_c_Row_get, (fun _ h => absurd h List.not_mem_nil)⟩)⟩)⟩)⟩⟩
theorem in_g_BwinnerOf : ∀ w ∈ wq_g_BwinnerOf, w ∈ lw_tbl := List.forall_mem_cons.mpr ⟨List.mem_of_getElem? (i := 1157) (by decide +kernel), List.forall_mem_append.mpr ⟨inT wo_g_BwinnerOf [418, 1141, 1139, 164, 1158, 643, 644, 156] (by decide +kernel), (List.forall_mem_append.mpr ⟨in_wsX00, (List.forall_mem_append.mpr ⟨in_g_slot, (List.forall_mem_append.mpr ⟨in_c_Row_get, (fun _ h => absurd h List.not_mem_nil)⟩)⟩)⟩)⟩⟩
set_option maxHeartbeats 4000000 in
set_option maxRecDepth 100000 in
theorem g_BwinnerOf (l : Launch) (G : gG) (bd : Nat) (bk : Nat) (ca : Nat) (f : Nat → Int32) (v1 : Value) (v2 : Value) (v3 : Value) (v4 : Value) (v5 : Value) (b_wt : Value) (b_bl : Value) (b_se : Value) (b_lo : Value) (wn : Nat) (wn2 : Nat) (fwn : Nat → Int32) (x : Int32) (y : Int32) : Met l yX0_winnerOf wq_g_BwinnerOf ({ frames := 1, cells := 0, slots := 0, locals := 21 }) (va_Pc [.ref bd, .int x, .int y] (pP G [(bd, .inr (1, [.ref bk, b_wt, b_bl, .ref wn, b_se, b_lo])), (bk, .inr (2, [.ref ca, v1, v2, v3, v4, v5])), (ca, .inl (gI G, 2088, .inl f)), (wn, .inr (10, [.ref wn2])), (wn2, .inl (gI G, 148, .inl fwn))])) (vp_Si (fun r : Int32 => True)) 0 0 (fun _ => False) := by
  refine Met.ofW (cc := cX0_winnerOf) (maxL := 3) (ret := (some .int)) (by decide) rfl ?_
  intro p e s m args below meth c s₁ B hml hv
  obtain ⟨rfl, hP, hB⟩ := hv
  have hx := B.exec
  have hb := B.bytes
  have hr := B.returns
  have hts := atoms_spec (ws := wq_g_BwinnerOf) B.pre
  have hown : s.vm.findClass RX0 = some m.cls := findClass_of_methodNamed B.named
  have hlocks := B.notSynchronized
  have hK := hB.1
  have hP : va_P (gD G) vwCl [(bd, .inr (1, [.ref bk, b_wt, b_bl, .ref wn, b_se, b_lo])), (bk, .inr (2, [.ref ca, v1, v2, v3, v4, v5])), (ca, .inl (gI G, 2088, .inl f)), (wn, .inr (10, [.ref wn2])), (wn2, .inl (gI G, 148, .inl fwn))] s.heap := hP
  have hl := lv_entry ([.ref bd, .int x, .int y]) (n := 3) (Nat.le_of_ble_eq_true rfl)
  rw [lg_entry_eq]
  generalize (lg_sl ([.ref bd, .int x, .int y]) ++ List.replicate (3 - (lg_sl ([.ref bd, .int x, .int y])).length) Slot.unset).toArray = ls at hl ⊢
  have hl : lv_has ls 3 [(0, .ref bd), (1, .int x), (2, .int y)] := hl
  refine lv_aload_n hx hb dX0_winnerOf_0 rfl (lv_at hl 0 rfl) ?_
  refine va_get (D := gD G) (ci := 1) (v := .ref wn) (C := RX0) (T := TX0) (N := 6) hx hb hts (fun _ h9 => (List.mem_cons_of_mem _ (List.mem_append_right _ (List.mem_append_left _ h9)))) hown hK hP 0 rfl rfl 3 (by decide) (hts (.fieldLink RX0 27 "JudoHall$Board" "winner" "LJudoHall$Row;") (List.mem_cons_of_mem _ (List.mem_append_left _ (List.mem_of_getElem? (i := 0) rfl)))) (fun _ h9 => h9) rfl dX0_winnerOf_1 ?_
  refine lv_iload_n hx hb dX0_winnerOf_4 rfl (lv_at hl 1 rfl) ?_
  refine lv_iload_n hx hb dX0_winnerOf_5 rfl (lv_at hl 2 rfl) ?_
  refine vp_callSi (va_Run.run (va_runS (As := [.int x, .int y]) (rest := [.ref wn]) ⟨hx, hb, hml, hown, hts⟩ (g_slot l G x y) (va_cwS 2 hts (gdS (List.mem_cons_of_mem _ (List.mem_append_left _ (List.mem_of_getElem? (i := 1) rfl))) (List.mem_cons_of_mem _ (List.mem_append_left _ (List.mem_of_getElem? (i := 2) rfl))) (List.mem_cons_of_mem _ (List.mem_append_left _ (List.mem_of_getElem? (i := 3) rfl))) (fun w9 h9 => ⟨(List.mem_cons_of_mem _ (List.mem_append_right _ (List.mem_append_right _ (List.mem_append_left _ h9)))), gd_g_slot w9 h9⟩)) rfl rfl rfl kSX0_slot ⟨Nat.le_of_ble_eq_true rfl, Nat.le_of_ble_eq_true rfl⟩) (preS_p (As := [.int x, .int y]) (hP.sub (ws' := []) [] rfl) hB) rfl rfl hl.1 rfl (lv_room (Nat.le_of_ble_eq_true rfl)) dX0_winnerOf_6 ⟨Nat.le_of_ble_eq_true rfl, Nat.le_of_ble_eq_true rfl⟩)) (fun r_1 hr_1 => ?_)
  clear hr_1
  refine vp_callSi (va_Run.run (va_runV (As := [.int r_1]) (rest := []) ⟨hx, hb, hml, hown, hts⟩ (c_Row_get l G wn wn2 148 fwn r_1 (by decide)) (cwV 1 hts (gdV (List.mem_cons_of_mem _ (List.mem_append_left _ (List.mem_of_getElem? (i := 4) rfl))) (List.mem_cons_of_mem _ (List.mem_append_left _ (List.mem_of_getElem? (i := 5) rfl))) (List.mem_cons_of_mem _ (List.mem_append_left _ (List.mem_of_getElem? (i := 6) rfl))) (List.mem_cons_of_mem _ (List.mem_append_left _ (List.mem_of_getElem? (i := 7) rfl))) (fun w9 h9 => ⟨(List.mem_cons_of_mem _ (List.mem_append_right _ (List.mem_append_right _ (List.mem_append_right _ (List.mem_append_left _ h9))))), gd_c_Row_get w9 h9⟩)) rfl rfl rfl kVX9_get ⟨Nat.le_of_ble_eq_true rfl, Nat.le_of_ble_eq_true rfl⟩) (preV_p (As := [.int r_1]) (hP.sub (ws' := [(wn, .inr (10, [.ref wn2])), (wn2, .inl (gI G, 148, .inl fwn))]) [3, 4] rfl) hB rfl rfl) rfl rfl hl.1 rfl (lv_room (Nat.le_of_ble_eq_true rfl)) dX0_winnerOf_9 ⟨Nat.le_of_ble_eq_true rfl, Nat.le_of_ble_eq_true rfl⟩)) (fun r_2 hr_2 => ?_)
  subst hr_2
  exact W.iret (v := (rg fwn 148 r_1)) hx hb hr (fun t ht hW => ⟨_, rfl, trivial, ht⟩) (fun q h => absurd h List.not_mem_nil) dX0_winnerOf_12

def wo_g_BstateOf : List Cond := [.fieldLink RX0 30 "JudoHall$Board" "state" "LJudoHall$Row;", .methodLink RX0 62 yX0_slot, .static yX0_slot, .initialized RX0, .methodLink RX0 65 yX9_get, .instanceMethod yX9_get, .selects RX9 yX9_get yX9_get, .initialized RX9]
def wq_g_BstateOf : List Cond := .code yX0_stateOf cX0_stateOf 3 (some .int) :: (wo_g_BstateOf ++ (wsX00 ++ (wq_g_slot ++ (wq_c_Row_get ++ []))))
theorem gd_g_BstateOf : ∀ w ∈ wq_g_BstateOf, Gd w := List.forall_mem_cons.mpr ⟨Or.inl rfl, List.forall_mem_append.mpr ⟨gdl wo_g_BstateOf (by decide +kernel), (List.forall_mem_append.mpr ⟨gd_wsX00, (List.forall_mem_append.mpr ⟨gd_g_slot, (List.forall_mem_append.mpr ⟨gd_c_Row_get, (fun _ h => absurd h List.not_mem_nil)⟩)⟩)⟩)⟩⟩
theorem in_g_BstateOf : ∀ w ∈ wq_g_BstateOf, w ∈ lw_tbl := List.forall_mem_cons.mpr ⟨List.mem_of_getElem? (i := 1205) (by decide +kernel), List.forall_mem_append.mpr ⟨inT wo_g_BstateOf [419, 1141, 1139, 164, 1158, 643, 644, 156] (by decide +kernel), (List.forall_mem_append.mpr ⟨in_wsX00, (List.forall_mem_append.mpr ⟨in_g_slot, (List.forall_mem_append.mpr ⟨in_c_Row_get, (fun _ h => absurd h List.not_mem_nil)⟩)⟩)⟩)⟩⟩
set_option maxHeartbeats 4000000 in
set_option maxRecDepth 100000 in
theorem g_BstateOf (l : Launch) (G : gG) (bd : Nat) (bk : Nat) (ca : Nat) (f : Nat → Int32) (v1 : Value) (v2 : Value) (v3 : Value) (v4 : Value) (v5 : Value) (b_wt : Value) (b_bl : Value) (b_wn : Value) (b_lo : Value) (se : Nat) (se2 : Nat) (fse : Nat → Int32) (x : Int32) (y : Int32) : Met l yX0_stateOf wq_g_BstateOf ({ frames := 1, cells := 0, slots := 0, locals := 21 }) (va_Pc [.ref bd, .int x, .int y] (pP G [(bd, .inr (1, [.ref bk, b_wt, b_bl, b_wn, .ref se, b_lo])), (bk, .inr (2, [.ref ca, v1, v2, v3, v4, v5])), (ca, .inl (gI G, 2088, .inl f)), (se, .inr (10, [.ref se2])), (se2, .inl (gI G, 148, .inl fse))])) (vp_Si (fun r : Int32 => True)) 0 0 (fun _ => False) := by
  refine Met.ofW (cc := cX0_stateOf) (maxL := 3) (ret := (some .int)) (by decide) rfl ?_
  intro p e s m args below meth c s₁ B hml hv
  obtain ⟨rfl, hP, hB⟩ := hv
  have hx := B.exec
  have hb := B.bytes
  have hr := B.returns
  have hts := atoms_spec (ws := wq_g_BstateOf) B.pre
  have hown : s.vm.findClass RX0 = some m.cls := findClass_of_methodNamed B.named
  have hlocks := B.notSynchronized
  have hK := hB.1
  have hP : va_P (gD G) vwCl [(bd, .inr (1, [.ref bk, b_wt, b_bl, b_wn, .ref se, b_lo])), (bk, .inr (2, [.ref ca, v1, v2, v3, v4, v5])), (ca, .inl (gI G, 2088, .inl f)), (se, .inr (10, [.ref se2])), (se2, .inl (gI G, 148, .inl fse))] s.heap := hP
  have hl := lv_entry ([.ref bd, .int x, .int y]) (n := 3) (Nat.le_of_ble_eq_true rfl)
  rw [lg_entry_eq]
  generalize (lg_sl ([.ref bd, .int x, .int y]) ++ List.replicate (3 - (lg_sl ([.ref bd, .int x, .int y])).length) Slot.unset).toArray = ls at hl ⊢
  have hl : lv_has ls 3 [(0, .ref bd), (1, .int x), (2, .int y)] := hl
  refine lv_aload_n hx hb dX0_stateOf_0 rfl (lv_at hl 0 rfl) ?_
  refine va_get (D := gD G) (ci := 1) (v := .ref se) (C := RX0) (T := TX0) (N := 6) hx hb hts (fun _ h9 => (List.mem_cons_of_mem _ (List.mem_append_right _ (List.mem_append_left _ h9)))) hown hK hP 0 rfl rfl 4 (by decide) (hts (.fieldLink RX0 30 "JudoHall$Board" "state" "LJudoHall$Row;") (List.mem_cons_of_mem _ (List.mem_append_left _ (List.mem_of_getElem? (i := 0) rfl)))) (fun _ h9 => h9) rfl dX0_stateOf_1 ?_
  refine lv_iload_n hx hb dX0_stateOf_4 rfl (lv_at hl 1 rfl) ?_
  refine lv_iload_n hx hb dX0_stateOf_5 rfl (lv_at hl 2 rfl) ?_
  refine vp_callSi (va_Run.run (va_runS (As := [.int x, .int y]) (rest := [.ref se]) ⟨hx, hb, hml, hown, hts⟩ (g_slot l G x y) (va_cwS 2 hts (gdS (List.mem_cons_of_mem _ (List.mem_append_left _ (List.mem_of_getElem? (i := 1) rfl))) (List.mem_cons_of_mem _ (List.mem_append_left _ (List.mem_of_getElem? (i := 2) rfl))) (List.mem_cons_of_mem _ (List.mem_append_left _ (List.mem_of_getElem? (i := 3) rfl))) (fun w9 h9 => ⟨(List.mem_cons_of_mem _ (List.mem_append_right _ (List.mem_append_right _ (List.mem_append_left _ h9)))), gd_g_slot w9 h9⟩)) rfl rfl rfl kSX0_slot ⟨Nat.le_of_ble_eq_true rfl, Nat.le_of_ble_eq_true rfl⟩) (preS_p (As := [.int x, .int y]) (hP.sub (ws' := []) [] rfl) hB) rfl rfl hl.1 rfl (lv_room (Nat.le_of_ble_eq_true rfl)) dX0_stateOf_6 ⟨Nat.le_of_ble_eq_true rfl, Nat.le_of_ble_eq_true rfl⟩)) (fun r_1 hr_1 => ?_)
  clear hr_1
  refine vp_callSi (va_Run.run (va_runV (As := [.int r_1]) (rest := []) ⟨hx, hb, hml, hown, hts⟩ (c_Row_get l G se se2 148 fse r_1 (by decide)) (cwV 1 hts (gdV (List.mem_cons_of_mem _ (List.mem_append_left _ (List.mem_of_getElem? (i := 4) rfl))) (List.mem_cons_of_mem _ (List.mem_append_left _ (List.mem_of_getElem? (i := 5) rfl))) (List.mem_cons_of_mem _ (List.mem_append_left _ (List.mem_of_getElem? (i := 6) rfl))) (List.mem_cons_of_mem _ (List.mem_append_left _ (List.mem_of_getElem? (i := 7) rfl))) (fun w9 h9 => ⟨(List.mem_cons_of_mem _ (List.mem_append_right _ (List.mem_append_right _ (List.mem_append_right _ (List.mem_append_left _ h9))))), gd_c_Row_get w9 h9⟩)) rfl rfl rfl kVX9_get ⟨Nat.le_of_ble_eq_true rfl, Nat.le_of_ble_eq_true rfl⟩) (preV_p (As := [.int r_1]) (hP.sub (ws' := [(se, .inr (10, [.ref se2])), (se2, .inl (gI G, 148, .inl fse))]) [3, 4] rfl) hB rfl rfl) rfl rfl hl.1 rfl (lv_room (Nat.le_of_ble_eq_true rfl)) dX0_stateOf_9 ⟨Nat.le_of_ble_eq_true rfl, Nat.le_of_ble_eq_true rfl⟩)) (fun r_2 hr_2 => ?_)
  subst hr_2
  exact W.iret (v := (rg fse 148 r_1)) hx hb hr (fun t ht hW => ⟨_, rfl, trivial, ht⟩) (fun q h => absurd h List.not_mem_nil) dX0_stateOf_12
