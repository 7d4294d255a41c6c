def wo_g_isBlank : List Cond := []
def wq_g_isBlank : List Cond := .code yX10_isBlank cX10_isBlank 1 (some .boolean) :: (wo_g_isBlank ++ [])
theorem gd_g_isBlank : ∀ w ∈ wq_g_isBlank, Gd w := List.forall_mem_cons.mpr ⟨Or.inl rfl, List.forall_mem_append.mpr ⟨gdl wo_g_isBlank (by decide +kernel), (fun _ h => absurd h List.not_mem_nil)⟩⟩
theorem in_g_isBlank : ∀ w ∈ wq_g_isBlank, w ∈ lw_tbl := List.forall_mem_cons.mpr ⟨List.mem_of_getElem? (i := 648) (by decide +kernel), List.forall_mem_append.mpr ⟨inT wo_g_isBlank [] (by decide +kernel), (fun _ h => absurd h List.not_mem_nil)⟩⟩
set_option maxHeartbeats 4000000 in
set_option maxRecDepth 100000 in
theorem g_isBlank (l : Launch) (G : gG) (x : Int32) : Met l yX10_isBlank wq_g_isBlank ({ frames := 0, cells := 0, slots := 0, locals := 0 }) (va_Pc [.int x] (pP G [])) (vp_Si (fun r : Int32 => r = 0 ∨ r = 1)) 0 0 (fun _ => False) := by
  refine Met.ofW (cc := cX10_isBlank) (maxL := 1) (ret := (some .boolean)) (by decide) rfl ?_
  intro p e s m args below meth c s₁ B hml hv
  obtain ⟨rfl, hP, hB⟩ := hv
  have hx := B.exec
  have hb := B.bytes
  have hr := B.returns
  have hts := atoms_spec (ws := wq_g_isBlank) B.pre
  have hown : s.vm.findClass RX10 = some m.cls := findClass_of_methodNamed B.named
  have hlocks := B.notSynchronized
  have hK := hB.1
  have hP : va_P (gD G) vwCl [] s.heap := hP
  have hl := lv_entry ([.int x]) (n := 1) (Nat.le_of_ble_eq_true rfl)
  rw [lg_entry_eq]
  generalize (lg_sl ([.int x]) ++ List.replicate (1 - (lg_sl ([.int x])).length) Slot.unset).toArray = ls at hl ⊢
  have hl : lv_has ls 1 [(0, .int x)] := hl
  refine lv_iload_n hx hb dX10_isBlank_0 rfl (lv_at hl 0 rfl) ?_
  refine lv_bipush (v := 32) hx hb dX10_isBlank_1 (by decide) ?_
  refine lv_icmp_eq (tgt := 12) hx hb dX10_isBlank_3 (by decide) (fun c_1 => ?_) (fun c_1 => ?_)
  · skip
    refine lv_iconst (v := 1) hx hb dX10_isBlank_12 (by decide) ?_
    refine lv_goto (tgt := 17) hx hb dX10_isBlank_13 (by decide) ?_
    exact W.zret (v := 1) hx hb hr rfl (fun t ht hW => ⟨_, rfl, Or.inr rfl, ht⟩) (fun q h => absurd h List.not_mem_nil) dX10_isBlank_17
  · skip
    refine lv_iload_n hx hb dX10_isBlank_6 rfl (lv_at hl 0 rfl) ?_
    refine lv_bipush (v := 10) hx hb dX10_isBlank_7 (by decide) ?_
    refine lv_icmp_ne (tgt := 16) hx hb dX10_isBlank_9 (by decide) (fun c_2 => ?_) (fun c_2 => ?_)
    · skip
      refine lv_iconst (v := 0) hx hb dX10_isBlank_16 (by decide) ?_
      exact W.zret (v := 0) hx hb hr rfl (fun t ht hW => ⟨_, rfl, Or.inl rfl, ht⟩) (fun q h => absurd h List.not_mem_nil) dX10_isBlank_17
    · skip
      refine lv_iconst (v := 1) hx hb dX10_isBlank_12 (by decide) ?_
      refine lv_goto (tgt := 17) hx hb dX10_isBlank_13 (by decide) ?_
      exact W.zret (v := 1) hx hb hr rfl (fun t ht hW => ⟨_, rfl, Or.inr rfl, ht⟩) (fun q h => absurd h List.not_mem_nil) dX10_isBlank_17

def wo_g_isLetter : List Cond := []
def wq_g_isLetter : List Cond := .code yX10_isLetter cX10_isLetter 1 (some .boolean) :: (wo_g_isLetter ++ [])
theorem gd_g_isLetter : ∀ w ∈ wq_g_isLetter, Gd w := List.forall_mem_cons.mpr ⟨Or.inl rfl, List.forall_mem_append.mpr ⟨gdl wo_g_isLetter (by decide +kernel), (fun _ h => absurd h List.not_mem_nil)⟩⟩
theorem in_g_isLetter : ∀ w ∈ wq_g_isLetter, w ∈ lw_tbl := List.forall_mem_cons.mpr ⟨List.mem_of_getElem? (i := 651) (by decide +kernel), List.forall_mem_append.mpr ⟨inT wo_g_isLetter [] (by decide +kernel), (fun _ h => absurd h List.not_mem_nil)⟩⟩
set_option maxHeartbeats 4000000 in
set_option maxRecDepth 100000 in
theorem g_isLetter (l : Launch) (G : gG) (x : Int32) : Met l yX10_isLetter wq_g_isLetter ({ frames := 0, cells := 0, slots := 0, locals := 0 }) (va_Pc [.int x] (pP G [])) (vp_Si (fun r : Int32 => r = 0 ∨ r = 1)) 0 0 (fun _ => False) := by
  refine Met.ofW (cc := cX10_isLetter) (maxL := 1) (ret := (some .boolean)) (by decide) rfl ?_
  intro p e s m args below meth c s₁ B hml hv
  obtain ⟨rfl, hP, hB⟩ := hv
  have hx := B.exec
  have hb := B.bytes
  have hr := B.returns
  have hts := atoms_spec (ws := wq_g_isLetter) B.pre
  have hown : s.vm.findClass RX10 = some m.cls := findClass_of_methodNamed B.named
  have hlocks := B.notSynchronized
  have hK := hB.1
  have hP : va_P (gD G) vwCl [] s.heap := hP
  have hl := lv_entry ([.int x]) (n := 1) (Nat.le_of_ble_eq_true rfl)
  rw [lg_entry_eq]
  generalize (lg_sl ([.int x]) ++ List.replicate (1 - (lg_sl ([.int x])).length) Slot.unset).toArray = ls at hl ⊢
  have hl : lv_has ls 1 [(0, .int x)] := hl
  refine lv_iload_n hx hb dX10_isLetter_0 rfl (lv_at hl 0 rfl) ?_
  refine lv_bipush (v := 97) hx hb dX10_isLetter_1 (by decide) ?_
  refine lv_icmp_lt (tgt := 16) hx hb dX10_isLetter_3 (by decide) (fun c_1 => ?_) (fun c_1 => ?_)
  · skip
    refine lv_iconst (v := 0) hx hb dX10_isLetter_16 (by decide) ?_
    exact W.zret (v := 0) hx hb hr rfl (fun t ht hW => ⟨_, rfl, Or.inl rfl, ht⟩) (fun q h => absurd h List.not_mem_nil) dX10_isLetter_17
  · skip
    refine lv_iload_n hx hb dX10_isLetter_6 rfl (lv_at hl 0 rfl) ?_
    refine lv_bipush (v := 122) hx hb dX10_isLetter_7 (by decide) ?_
    refine lv_icmp_gt (tgt := 16) hx hb dX10_isLetter_9 (by decide) (fun c_2 => ?_) (fun c_2 => ?_)
    · skip
      refine lv_iconst (v := 0) hx hb dX10_isLetter_16 (by decide) ?_
      exact W.zret (v := 0) hx hb hr rfl (fun t ht hW => ⟨_, rfl, Or.inl rfl, ht⟩) (fun q h => absurd h List.not_mem_nil) dX10_isLetter_17
    · skip
      refine lv_iconst (v := 1) hx hb dX10_isLetter_12 (by decide) ?_
      refine lv_goto (tgt := 17) hx hb dX10_isLetter_13 (by decide) ?_
      exact W.zret (v := 1) hx hb hr rfl (fun t ht hW => ⟨_, rfl, Or.inr rfl, ht⟩) (fun q h => absurd h List.not_mem_nil) dX10_isLetter_17

def wo_g_isDigit : List Cond := []
def wq_g_isDigit : List Cond := .code yX10_isDigit cX10_isDigit 1 (some .boolean) :: (wo_g_isDigit ++ [])
theorem gd_g_isDigit : ∀ w ∈ wq_g_isDigit, Gd w := List.forall_mem_cons.mpr ⟨Or.inl rfl, List.forall_mem_append.mpr ⟨gdl wo_g_isDigit (by decide +kernel), (fun _ h => absurd h List.not_mem_nil)⟩⟩
theorem in_g_isDigit : ∀ w ∈ wq_g_isDigit, w ∈ lw_tbl := List.forall_mem_cons.mpr ⟨List.mem_of_getElem? (i := 727) (by decide +kernel), List.forall_mem_append.mpr ⟨inT wo_g_isDigit [] (by decide +kernel), (fun _ h => absurd h List.not_mem_nil)⟩⟩
set_option maxHeartbeats 4000000 in
set_option maxRecDepth 100000 in
theorem g_isDigit (l : Launch) (G : gG) (x : Int32) : Met l yX10_isDigit wq_g_isDigit ({ frames := 0, cells := 0, slots := 0, locals := 0 }) (va_Pc [.int x] (pP G [])) (vp_Si (fun r : Int32 => r = 0 ∨ r = 1)) 0 0 (fun _ => False) := by
  refine Met.ofW (cc := cX10_isDigit) (maxL := 1) (ret := (some .boolean)) (by decide) rfl ?_
  intro p e s m args below meth c s₁ B hml hv
  obtain ⟨rfl, hP, hB⟩ := hv
  have hx := B.exec
  have hb := B.bytes
  have hr := B.returns
  have hts := atoms_spec (ws := wq_g_isDigit) B.pre
  have hown : s.vm.findClass RX10 = some m.cls := findClass_of_methodNamed B.named
  have hlocks := B.notSynchronized
  have hK := hB.1
  have hP : va_P (gD G) vwCl [] s.heap := hP
  have hl := lv_entry ([.int x]) (n := 1) (Nat.le_of_ble_eq_true rfl)
  rw [lg_entry_eq]
  generalize (lg_sl ([.int x]) ++ List.replicate (1 - (lg_sl ([.int x])).length) Slot.unset).toArray = ls at hl ⊢
  have hl : lv_has ls 1 [(0, .int x)] := hl
  refine lv_iload_n hx hb dX10_isDigit_0 rfl (lv_at hl 0 rfl) ?_
  refine lv_bipush (v := 48) hx hb dX10_isDigit_1 (by decide) ?_
  refine lv_icmp_lt (tgt := 16) hx hb dX10_isDigit_3 (by decide) (fun c_1 => ?_) (fun c_1 => ?_)
  · skip
    refine lv_iconst (v := 0) hx hb dX10_isDigit_16 (by decide) ?_
    exact W.zret (v := 0) hx hb hr rfl (fun t ht hW => ⟨_, rfl, Or.inl rfl, ht⟩) (fun q h => absurd h List.not_mem_nil) dX10_isDigit_17
  · skip
    refine lv_iload_n hx hb dX10_isDigit_6 rfl (lv_at hl 0 rfl) ?_
    refine lv_bipush (v := 57) hx hb dX10_isDigit_7 (by decide) ?_
    refine lv_icmp_gt (tgt := 16) hx hb dX10_isDigit_9 (by decide) (fun c_2 => ?_) (fun c_2 => ?_)
    · skip
      refine lv_iconst (v := 0) hx hb dX10_isDigit_16 (by decide) ?_
      exact W.zret (v := 0) hx hb hr rfl (fun t ht hW => ⟨_, rfl, Or.inl rfl, ht⟩) (fun q h => absurd h List.not_mem_nil) dX10_isDigit_17
    · skip
      refine lv_iconst (v := 1) hx hb dX10_isDigit_12 (by decide) ?_
      refine lv_goto (tgt := 17) hx hb dX10_isDigit_13 (by decide) ?_
      exact W.zret (v := 1) hx hb hr rfl (fun t ht hW => ⟨_, rfl, Or.inr rfl, ht⟩) (fun q h => absurd h List.not_mem_nil) dX10_isDigit_17

def wo_g_tokenSize : List Cond := [.fieldLink RX10 25 "JudoHall$Tape" "next" "I", .fieldLink RX10 36 "JudoHall$Tape" "from" "I"]
def wq_g_tokenSize : List Cond := .code yX10_tokenSize cX10_tokenSize 1 (some .int) :: (wo_g_tokenSize ++ (wsX100 ++ []))
theorem gd_g_tokenSize : ∀ w ∈ wq_g_tokenSize, Gd w := List.forall_mem_cons.mpr ⟨Or.inl rfl, List.forall_mem_append.mpr ⟨gdl wo_g_tokenSize (by decide +kernel), (List.forall_mem_append.mpr ⟨gd_wsX100, (fun _ h => absurd h List.not_mem_nil)⟩)⟩⟩
theorem in_g_tokenSize : ∀ w ∈ wq_g_tokenSize, w ∈ lw_tbl := List.forall_mem_cons.mpr ⟨List.mem_of_getElem? (i := 796) (by decide +kernel), List.forall_mem_append.mpr ⟨inT wo_g_tokenSize [256, 260] (by decide +kernel), (List.forall_mem_append.mpr ⟨in_wsX100, (fun _ h => absurd h List.not_mem_nil)⟩)⟩⟩
set_option maxHeartbeats 4000000 in
set_option maxRecDepth 100000 in
theorem g_tokenSize (l : Launch) (G : gG) (tp : Nat) (ty : Nat) (ty2 : Nat) (fy : Nat → Int32) (ta : Int32) (tb : Int32) (tc : Int32) (td : Int32) (te : Int32) : Met l yX10_tokenSize wq_g_tokenSize ({ frames := 0, cells := 0, slots := 0, locals := 0 }) (va_Pc [.ref tp] (pP G [(tp, .inr (11, [.ref ty, .int ta, .int tb, .int tc, .int td, .int te])), (ty, .inr (10, [.ref ty2])), (ty2, .inl (gI G, 3000, .inl fy))])) (vp_Si (fun r : Int32 => True)) 0 0 (fun _ => False) := by
  refine Met.ofW (cc := cX10_tokenSize) (maxL := 1) (ret := (some .int)) (by decide) rfl ?_
  intro p e s m args below meth c s₁ B hml hv
  obtain ⟨rfl, hP, hB⟩ := hv
  have hx := B.exec
  have hb := B.bytes
  have hr := B.returns
  have hts := atoms_spec (ws := wq_g_tokenSize) B.pre
  have hown : s.vm.findClass RX10 = some m.cls := findClass_of_methodNamed B.named
  have hlocks := B.notSynchronized
  have hK := hB.1
  have hP : va_P (gD G) vwCl [(tp, .inr (11, [.ref ty, .int ta, .int tb, .int tc, .int td, .int te])), (ty, .inr (10, [.ref ty2])), (ty2, .inl (gI G, 3000, .inl fy))] s.heap := hP
  have hl := lv_entry ([.ref tp]) (n := 1) (Nat.le_of_ble_eq_true rfl)
  rw [lg_entry_eq]
  generalize (lg_sl ([.ref tp]) ++ List.replicate (1 - (lg_sl ([.ref tp])).length) Slot.unset).toArray = ls at hl ⊢
  have hl : lv_has ls 1 [(0, .ref tp)] := hl
  refine lv_aload_n hx hb dX10_tokenSize_0 rfl (lv_at hl 0 rfl) ?_
  refine va_get (D := gD G) (ci := 11) (v := .int tb) (C := RX10) (T := TX10) (N := 6) hx hb hts (fun _ h9 => (List.mem_cons_of_mem _ (List.mem_append_right _ (List.mem_append_left _ h9)))) hown hK hP 0 rfl rfl 2 (by decide) (hts (.fieldLink RX10 25 "JudoHall$Tape" "next" "I") (List.mem_cons_of_mem _ (List.mem_append_left _ (List.mem_of_getElem? (i := 0) rfl)))) (fun _ h9 => h9) rfl dX10_tokenSize_1 ?_
  refine lv_aload_n hx hb dX10_tokenSize_4 rfl (lv_at hl 0 rfl) ?_
  refine va_get (D := gD G) (ci := 11) (v := .int td) (C := RX10) (T := TX10) (N := 6) hx hb hts (fun _ h9 => (List.mem_cons_of_mem _ (List.mem_append_right _ (List.mem_append_left _ h9)))) hown hK hP 0 rfl rfl 4 (by decide) (hts (.fieldLink RX10 36 "JudoHall$Tape" "from" "I") (List.mem_cons_of_mem _ (List.mem_append_left _ (List.mem_of_getElem? (i := 1) rfl)))) (fun _ h9 => h9) rfl dX10_tokenSize_5 ?_
  refine lv_isub hx hb dX10_tokenSize_8 ?_
  exact W.iret (v := (tb - td)) hx hb hr (fun t ht hW => ⟨_, rfl, trivial, ht⟩) (fun q h => absurd h List.not_mem_nil) dX10_tokenSize_9

def wo_g_isWordAt : List Cond := [.fieldLink RX10 25 "JudoHall$Tape" "next" "I", .fieldLink RX10 36 "JudoHall$Tape" "from" "I", .fieldLink RX10 14 "JudoHall$Tape" "bytes" "LJudoHall$Row;", .methodLink RX10 28 yX9_get, .instanceMethod yX9_get, .selects RX9 yX9_get yX9_get, .initialized RX9]
def wq_g_isWordAt : List Cond := .code yX10_isWordAt cX10_isWordAt 4 (some .boolean) :: (wo_g_isWordAt ++ (wsX100 ++ (wq_c_Row_get ++ [])))
theorem gd_g_isWordAt : ∀ w ∈ wq_g_isWordAt, Gd w := List.forall_mem_cons.mpr ⟨Or.inl rfl, List.forall_mem_append.mpr ⟨gdl wo_g_isWordAt (by decide +kernel), (List.forall_mem_append.mpr ⟨gd_wsX100, (List.forall_mem_append.mpr ⟨gd_c_Row_get, (fun _ h => absurd h List.not_mem_nil)⟩)⟩)⟩⟩
theorem in_g_isWordAt : ∀ w ∈ wq_g_isWordAt, w ∈ lw_tbl := List.forall_mem_cons.mpr ⟨List.mem_of_getElem? (i := 792) (by decide +kernel), List.forall_mem_append.mpr ⟨inT wo_g_isWordAt [256, 260, 253, 642, 643, 644, 156] (by decide +kernel), (List.forall_mem_append.mpr ⟨in_wsX100, (List.forall_mem_append.mpr ⟨in_c_Row_get, (fun _ h => absurd h List.not_mem_nil)⟩)⟩)⟩⟩
set_option maxHeartbeats 4000000 in
set_option maxRecDepth 100000 in
theorem g_isWordAt (l : Launch) (G : gG) (tp : Nat) (ty : Nat) (ty2 : Nat) (fy : Nat → Int32) (ta : Int32) (tb : Int32) (tc : Int32) (td : Int32) (te : Int32) (x : Int32) (y : Int32) : Met l yX10_isWordAt wq_g_isWordAt ({ frames := 1, cells := 0, slots := 0, locals := 21 }) (va_Pc [.ref tp, .int x, .int y] (pP G [(tp, .inr (11, [.ref ty, .int ta, .int tb, .int tc, .int td, .int te])), (ty, .inr (10, [.ref ty2])), (ty2, .inl (gI G, 3000, .inl fy))])) (vp_Si (fun r : Int32 => r = 0 ∨ r = 1)) 0 0 (fun _ => False) := by
  refine Met.ofW (cc := cX10_isWordAt) (maxL := 4) (ret := (some .boolean)) (by decide) rfl ?_
  intro p e s m args below meth c s₁ B hml hv
  obtain ⟨rfl, hP, hB⟩ := hv
  have hx := B.exec
  have hb := B.bytes
  have hr := B.returns
  have hts := atoms_spec (ws := wq_g_isWordAt) B.pre
  have hown : s.vm.findClass RX10 = some m.cls := findClass_of_methodNamed B.named
  have hlocks := B.notSynchronized
  have hK := hB.1
  have hP : va_P (gD G) vwCl [(tp, .inr (11, [.ref ty, .int ta, .int tb, .int tc, .int td, .int te])), (ty, .inr (10, [.ref ty2])), (ty2, .inl (gI G, 3000, .inl fy))] s.heap := hP
  have hl := lv_entry ([.ref tp, .int x, .int y]) (n := 4) (Nat.le_of_ble_eq_true rfl)
  rw [lg_entry_eq]
  generalize (lg_sl ([.ref tp, .int x, .int y]) ++ List.replicate (4 - (lg_sl ([.ref tp, .int x, .int y])).length) Slot.unset).toArray = ls at hl ⊢
  have hl : lv_has ls 4 [(0, .ref tp), (1, .int x), (2, .int y)] := hl
  refine lv_aload_n hx hb dX10_isWordAt_0 rfl (lv_at hl 0 rfl) ?_
  refine va_get (D := gD G) (ci := 11) (v := .int tb) (C := RX10) (T := TX10) (N := 6) hx hb hts (fun _ h9 => (List.mem_cons_of_mem _ (List.mem_append_right _ (List.mem_append_left _ h9)))) hown hK hP 0 rfl rfl 2 (by decide) (hts (.fieldLink RX10 25 "JudoHall$Tape" "next" "I") (List.mem_cons_of_mem _ (List.mem_append_left _ (List.mem_of_getElem? (i := 0) rfl)))) (fun _ h9 => h9) rfl dX10_isWordAt_1 ?_
  refine lv_aload_n hx hb dX10_isWordAt_4 rfl (lv_at hl 0 rfl) ?_
  refine va_get (D := gD G) (ci := 11) (v := .int td) (C := RX10) (T := TX10) (N := 6) hx hb hts (fun _ h9 => (List.mem_cons_of_mem _ (List.mem_append_right _ (List.mem_append_left _ h9)))) hown hK hP 0 rfl rfl 4 (by decide) (hts (.fieldLink RX10 36 "JudoHall$Tape" "from" "I") (List.mem_cons_of_mem _ (List.mem_append_left _ (List.mem_of_getElem? (i := 1) rfl)))) (fun _ h9 => h9) rfl dX10_isWordAt_5 ?_
  refine lv_isub hx hb dX10_isWordAt_8 ?_
  refine lv_iload_n hx hb dX10_isWordAt_9 rfl (lv_at hl 2 rfl) ?_
  refine lv_icmp_eq (tgt := 15) hx hb dX10_isWordAt_10 (by decide) (fun c_1 => ?_) (fun c_1 => ?_)
  · skip
    refine lv_iconst (v := 0) hx hb dX10_isWordAt_15 (by decide) ?_
    refine lv_istore_n (lv' := [(3, .int 0), (0, .ref tp), (1, .int x), (2, .int y)]) hx hb dX10_isWordAt_16 rfl hl (by decide) rfl (fun ls hl => ?_)
    have hloop17 : ∀ (k9 : Nat) (k3 : Nat), y.toNatClampNeg - k3 < k9 → (k3 ≤ y.toNatClampNeg) → ∀ (ls : Array Slot), lv_has ls 4 [(3, .int (nI k3)), (0, .ref tp), (1, .int x), (2, .int y)] → W p l e (headSpec wq_g_isWordAt ({ frames := 1, cells := 0, slots := 0, locals := 21 })).room s m [.ref tp, .int x, .int y].toArray below meth c s.heap [] 0 0 (MQ below (vp_Si (fun r : Int32 => r = 0 ∨ r = 1)) [.ref tp, .int x, .int y].toArray s 0 0 (fun _ => False)) (F0 m 17 ls []) := by
      intro k9
      induction k9 with
      | zero => intro k3 h9; exact absurd h9 (Nat.not_lt_zero _)
      | succ k9 ih17 =>
        intro k3 hm17 hb_k3 ls hl
        refine lv_iload_n hx hb dX10_isWordAt_17 rfl (lv_at hl 0 rfl) ?_
        refine lv_iload_n hx hb dX10_isWordAt_18 rfl (lv_at hl 3 rfl) ?_
        refine lv_icmp_ge (tgt := 56) hx hb dX10_isWordAt_19 (by decide) (fun c_2 => ?_) (fun c_2 => ?_)
        · skip
          refine lv_iconst (v := 1) hx hb dX10_isWordAt_56 (by decide) ?_
          exact W.zret (v := 1) hx hb hr rfl (fun t ht hW => ⟨_, rfl, Or.inr rfl, ht⟩) (fun q h => absurd h List.not_mem_nil) dX10_isWordAt_57
        · have hl_k3 := gl_lt (B := y) hb_k3 c_2
          refine lv_aload_n hx hb dX10_isWordAt_22 rfl (lv_at hl 1 rfl) ?_
          refine va_get (D := gD G) (ci := 11) (v := .ref ty) (C := RX10) (T := TX10) (N := 6) hx hb hts (fun _ h9 => (List.mem_cons_of_mem _ (List.mem_append_right _ (List.mem_append_left _ h9)))) hown hK hP 0 rfl rfl 0 (by decide) (hts (.fieldLink RX10 14 "JudoHall$Tape" "bytes" "LJudoHall$Row;") (List.mem_cons_of_mem _ (List.mem_append_left _ (List.mem_of_getElem? (i := 2) rfl)))) (fun _ h9 => h9) rfl dX10_isWordAt_23 ?_
          refine lv_aload_n hx hb dX10_isWordAt_26 rfl (lv_at hl 1 rfl) ?_
          refine va_get (D := gD G) (ci := 11) (v := .int td) (C := RX10) (T := TX10) (N := 6) hx hb hts (fun _ h9 => (List.mem_cons_of_mem _ (List.mem_append_right _ (List.mem_append_left _ h9)))) hown hK hP 0 rfl rfl 4 (by decide) (hts (.fieldLink RX10 36 "JudoHall$Tape" "from" "I") (List.mem_cons_of_mem _ (List.mem_append_left _ (List.mem_of_getElem? (i := 1) rfl)))) (fun _ h9 => h9) rfl dX10_isWordAt_27 ?_
          refine lv_iload_n hx hb dX10_isWordAt_30 rfl (lv_at hl 0 rfl) ?_
          refine lv_iadd hx hb dX10_isWordAt_31 ?_
          refine vp_callSi (va_Run.run (va_runV (As := [.int (td + (nI k3))]) (rest := []) ⟨hx, hb, hml, hown, hts⟩ (c_Row_get l G ty ty2 3000 fy (td + (nI k3)) (by decide)) (cwV 1 hts (gdV (List.mem_cons_of_mem _ (List.mem_append_left _ (List.mem_of_getElem? (i := 3) rfl))) (List.mem_cons_of_mem _ (List.mem_append_left _ (List.mem_of_getElem? (i := 4) rfl))) (List.mem_cons_of_mem _ (List.mem_append_left _ (List.mem_of_getElem? (i := 5) rfl))) (List.mem_cons_of_mem _ (List.mem_append_left _ (List.mem_of_getElem? (i := 6) rfl))) (fun w9 h9 => ⟨(List.mem_cons_of_mem _ (List.mem_append_right _ (List.mem_append_right _ (List.mem_append_left _ h9)))), gd_c_Row_get w9 h9⟩)) rfl rfl rfl kVX9_get ⟨Nat.le_of_ble_eq_true rfl, Nat.le_of_ble_eq_true rfl⟩) (preV_p (As := [.int (td + (nI k3))]) (hP.sub (ws' := [(ty, .inr (10, [.ref ty2])), (ty2, .inl (gI G, 3000, .inl fy))]) [1, 2] rfl) hB rfl rfl) rfl rfl hl.1 rfl (lv_room (Nat.le_of_ble_eq_true rfl)) dX10_isWordAt_32 ⟨Nat.le_of_ble_eq_true rfl, Nat.le_of_ble_eq_true rfl⟩)) (fun r_3 hr_3 => ?_)
          subst hr_3
          refine lv_aload_n hx hb dX10_isWordAt_35 rfl (lv_at hl 1 rfl) ?_
          refine va_get (D := gD G) (ci := 11) (v := .ref ty) (C := RX10) (T := TX10) (N := 6) hx hb hts (fun _ h9 => (List.mem_cons_of_mem _ (List.mem_append_right _ (List.mem_append_left _ h9)))) hown hK hP 0 rfl rfl 0 (by decide) (hts (.fieldLink RX10 14 "JudoHall$Tape" "bytes" "LJudoHall$Row;") (List.mem_cons_of_mem _ (List.mem_append_left _ (List.mem_of_getElem? (i := 2) rfl)))) (fun _ h9 => h9) rfl dX10_isWordAt_36 ?_
          refine lv_iload_n hx hb dX10_isWordAt_39 rfl (lv_at hl 2 rfl) ?_
          refine lv_iload_n hx hb dX10_isWordAt_40 rfl (lv_at hl 0 rfl) ?_
          refine lv_iadd hx hb dX10_isWordAt_41 ?_
          refine vp_callSi (va_Run.run (va_runV (As := [.int (x + (nI k3))]) (rest := [.int (rg fy 3000 (td + (nI k3)))]) ⟨hx, hb, hml, hown, hts⟩ (c_Row_get l G ty ty2 3000 fy (x + (nI k3)) (by decide)) (cwV 1 hts (gdV (List.mem_cons_of_mem _ (List.mem_append_left _ (List.mem_of_getElem? (i := 3) rfl))) (List.mem_cons_of_mem _ (List.mem_append_left _ (List.mem_of_getElem? (i := 4) rfl))) (List.mem_cons_of_mem _ (List.mem_append_left _ (List.mem_of_getElem? (i := 5) rfl))) (List.mem_cons_of_mem _ (List.mem_append_left _ (List.mem_of_getElem? (i := 6) rfl))) (fun w9 h9 => ⟨(List.mem_cons_of_mem _ (List.mem_append_right _ (List.mem_append_right _ (List.mem_append_left _ h9)))), gd_c_Row_get w9 h9⟩)) rfl rfl rfl kVX9_get ⟨Nat.le_of_ble_eq_true rfl, Nat.le_of_ble_eq_true rfl⟩) (preV_p (As := [.int (x + (nI k3))]) (hP.sub (ws' := [(ty, .inr (10, [.ref ty2])), (ty2, .inl (gI G, 3000, .inl fy))]) [1, 2] rfl) hB rfl rfl) rfl rfl hl.1 rfl (lv_room (Nat.le_of_ble_eq_true rfl)) dX10_isWordAt_42 ⟨Nat.le_of_ble_eq_true rfl, Nat.le_of_ble_eq_true rfl⟩)) (fun r_4 hr_4 => ?_)
          subst hr_4
          refine lv_icmp_eq (tgt := 50) hx hb dX10_isWordAt_45 (by decide) (fun c_5 => ?_) (fun c_5 => ?_)
          · skip
            refine lv_iinc (v := (nI (k3 + 1))) (lv' := [(3, .int (nI (k3 + 1))), (0, .ref tp), (1, .int x), (2, .int y)]) hx hb dX10_isWordAt_50 hl (k := 0) rfl (nI_1 k3) (by decide) rfl (fun ls hl => ?_)
            refine lv_goto (tgt := 17) hx hb dX10_isWordAt_53 (by decide) ?_
            exact ih17 (k3 + 1) (by omega) (hl_k3) _ (lv_sub hl [0, 1, 2, 3] rfl) 
          · skip
            refine lv_iconst (v := 0) hx hb dX10_isWordAt_48 (by decide) ?_
            exact W.zret (v := 0) hx hb hr rfl (fun t ht hW => ⟨_, rfl, Or.inl rfl, ht⟩) (fun q h => absurd h List.not_mem_nil) dX10_isWordAt_49
    exact hloop17 ((y.toNatClampNeg - 0) + 1) 0 (Nat.lt_succ_self _) (Nat.zero_le _) _ (lv_sub hl [0, 1, 2, 3] rfl)
  · skip
    refine lv_iconst (v := 0) hx hb dX10_isWordAt_13 (by decide) ?_
    exact W.zret (v := 0) hx hb hr rfl (fun t ht hW => ⟨_, rfl, Or.inl rfl, ht⟩) (fun q h => absurd h List.not_mem_nil) dX10_isWordAt_14

def wo_g_rewind : List Cond := [.fieldLink RX10 25 "JudoHall$Tape" "next" "I"]
def wq_g_rewind : List Cond := .code yX10_rewind cX10_rewind 1 none :: (wo_g_rewind ++ (wsX100 ++ []))
theorem gd_g_rewind : ∀ w ∈ wq_g_rewind, Gd w := List.forall_mem_cons.mpr ⟨Or.inl rfl, List.forall_mem_append.mpr ⟨gdl wo_g_rewind (by decide +kernel), (List.forall_mem_append.mpr ⟨gd_wsX100, (fun _ h => absurd h List.not_mem_nil)⟩)⟩⟩
theorem in_g_rewind : ∀ w ∈ wq_g_rewind, w ∈ lw_tbl := List.forall_mem_cons.mpr ⟨List.mem_of_getElem? (i := 637) (by decide +kernel), List.forall_mem_append.mpr ⟨inT wo_g_rewind [256] (by decide +kernel), (List.forall_mem_append.mpr ⟨in_wsX100, (fun _ h => absurd h List.not_mem_nil)⟩)⟩⟩
set_option maxHeartbeats 4000000 in
set_option maxRecDepth 100000 in
theorem g_rewind (l : Launch) (G : gG) (tp : Nat) (ty : Nat) (ty2 : Nat) (fy : Nat → Int32) (ta : Int32) (tb : Int32) (tc : Int32) (td : Int32) (te : Int32) (sz : Nat) : Met l yX10_rewind wq_g_rewind ({ frames := 0, cells := 0, slots := 0, locals := 0 }) (va_Pc [.ref tp] (mP G [(tp, .inr (11, [.ref ty, .int ta, .int tb, .int tc, .int td, .int te])), (ty, .inr (10, [.ref ty2])), (ty2, .inl (gI G, 3000, .inl fy))] sz)) (va_Qv (fun _ : Unit => True) (fun (_ : Unit) (t : State) => va_P (gD G) vwCl [(tp, .inr (11, [.ref ty, .int ta, .int 0, .int tc, .int td, .int te])), (ty, .inr (10, [.ref ty2])), (ty2, .inl (gI G, 3000, .inl fy))] t.heap ∧ va_D (va_A [(tp, .inr (11, [.ref ty, .int ta, .int tb, .int tc, .int td, .int te])), (ty, .inr (10, [.ref ty2])), (ty2, .inl (gI G, 3000, .inl fy))] sz) [(tp, .inr (11, [.ref ty, .int ta, .int 0, .int tc, .int td, .int te])), (ty, .inr (10, [.ref ty2])), (ty2, .inl (gI G, 3000, .inl fy))]) (va_A [(tp, .inr (11, [.ref ty, .int ta, .int tb, .int tc, .int td, .int te])), (ty, .inr (10, [.ref ty2])), (ty2, .inl (gI G, 3000, .inl fy))] sz)) 0 0 (va_A [(tp, .inr (11, [.ref ty, .int ta, .int tb, .int tc, .int td, .int te])), (ty, .inr (10, [.ref ty2])), (ty2, .inl (gI G, 3000, .inl fy))] sz) := by
  refine Met.ofW (cc := cX10_rewind) (maxL := 1) (ret := none) (by decide) rfl ?_
  intro p e s m args below meth c s₁ B hml hv
  obtain ⟨rfl, hsz, hP, hB, hD0⟩ := hv
  have hx := B.exec
  have hb := B.bytes
  have hr := B.returns
  have hts := atoms_spec (ws := wq_g_rewind) B.pre
  have hown : s.vm.findClass RX10 = some m.cls := findClass_of_methodNamed B.named
  have hlocks := B.notSynchronized
  have hK := hB.1
  subst hsz
  have hD := hD0.self (sz := s.heap.size)
  generalize hAe : va_A [(tp, .inr (11, [.ref ty, .int ta, .int tb, .int tc, .int td, .int te])), (ty, .inr (10, [.ref ty2])), (ty2, .inl (gI G, 3000, .inl fy))] s.heap.size = A at hD ⊢
  have hA : ∀ q : Nat, s.heap.size ≤ q → A q := fun q h => by rw [← hAe]; exact Or.inr h
  have hS : va_S A s.heap s.heap [] := va_S.rf
  have hP : va_P (gD G) vwCl [(tp, .inr (11, [.ref ty, .int ta, .int tb, .int tc, .int td, .int te])), (ty, .inr (10, [.ref ty2])), (ty2, .inl (gI G, 3000, .inl fy))] s.heap := hP
  have hD : va_D A [(tp, .inr (11, [.ref ty, .int ta, .int tb, .int tc, .int td, .int te])), (ty, .inr (10, [.ref ty2])), (ty2, .inl (gI G, 3000, .inl fy))] := hD
  have hl := lv_entry ([.ref tp]) (n := 1) (Nat.le_of_ble_eq_true rfl)
  rw [lg_entry_eq]
  generalize (lg_sl ([.ref tp]) ++ List.replicate (1 - (lg_sl ([.ref tp])).length) Slot.unset).toArray = ls at hl ⊢
  have hl : lv_has ls 1 [(0, .ref tp)] := hl
  refine lv_aload_n hx hb dX10_rewind_0 rfl (lv_at hl 0 rfl) ?_
  refine lv_iconst (v := 0) hx hb dX10_rewind_1 (by decide) ?_
  refine va_put (D := gD G) (ci := 11) (v := .int 0) (ty := tyX10 2) (C := RX10) (T := TX10) (N := 6) hx hb hts (fun _ h9 => (List.mem_cons_of_mem _ (List.mem_append_right _ (List.mem_append_left _ h9)))) tyX10 tyX10_ok nmX10 hown hK hP hD hS 0 rfl rfl 2 (by decide) (hts (.fieldLink RX10 25 "JudoHall$Tape" "next" "I") (List.mem_cons_of_mem _ (List.mem_append_left _ (List.mem_of_getElem? (i := 0) rfl)))) (fun _ h9 => h9) rfl (tyX10_ok 2 (by decide)) rfl rfl (Nat.le_of_ble_eq_true rfl) dX10_rewind_2 (fun H locs hP hD hS => ?_)
  have hP : va_P (gD G) vwCl [(tp, .inr (11, [.ref ty, .int ta, .int 0, .int tc, .int td, .int te])), (ty, .inr (10, [.ref ty2])), (ty2, .inl (gI G, 3000, .inl fy))] H := hP
  have hD : va_D A [(tp, .inr (11, [.ref ty, .int ta, .int 0, .int tc, .int td, .int te])), (ty, .inr (10, [.ref ty2])), (ty2, .inl (gI G, 3000, .inl fy))] := hD
  have hP9 := hP.sub (ws' := [(tp, .inr (11, [.ref ty, .int ta, .int 0, .int tc, .int td, .int te])), (ty, .inr (10, [.ref ty2])), (ty2, .inl (gI G, 3000, .inl fy))]) [0, 1, 2] rfl
  have hD9 := hD.sub (ws' := [(tp, .inr (11, [.ref ty, .int ta, .int 0, .int tc, .int td, .int te])), (ty, .inr (10, [.ref ty2])), (ty2, .inl (gI G, 3000, .inl fy))]) [0, 1, 2] (by decide) rfl
  exact W.vret hx hb hr (fun t ht hW => ⟨⟨(), rfl, trivial, by rw [ht]; exact hP9, hD9⟩, hS.F ht⟩) hS.2.2 dX10_rewind_5

def wo_g_takeEqual : List Cond := [.fieldLink RX10 25 "JudoHall$Tape" "next" "I", .fieldLink RX10 18 "JudoHall$Tape" "length" "I", .fieldLink RX10 14 "JudoHall$Tape" "bytes" "LJudoHall$Row;", .methodLink RX10 28 yX9_get, .instanceMethod yX9_get, .selects RX9 yX9_get yX9_get, .initialized RX9]
def wq_g_takeEqual : List Cond := .code yX10_takeEqual cX10_takeEqual 2 (some .boolean) :: (wo_g_takeEqual ++ (wsX100 ++ (wq_c_Row_get ++ [])))
theorem gd_g_takeEqual : ∀ w ∈ wq_g_takeEqual, Gd w := List.forall_mem_cons.mpr ⟨Or.inl rfl, List.forall_mem_append.mpr ⟨gdl wo_g_takeEqual (by decide +kernel), (List.forall_mem_append.mpr ⟨gd_wsX100, (List.forall_mem_append.mpr ⟨gd_c_Row_get, (fun _ h => absurd h List.not_mem_nil)⟩)⟩)⟩⟩
theorem in_g_takeEqual : ∀ w ∈ wq_g_takeEqual, w ∈ lw_tbl := List.forall_mem_cons.mpr ⟨List.mem_of_getElem? (i := 739) (by decide +kernel), List.forall_mem_append.mpr ⟨inT wo_g_takeEqual [256, 255, 253, 642, 643, 644, 156] (by decide +kernel), (List.forall_mem_append.mpr ⟨in_wsX100, (List.forall_mem_append.mpr ⟨in_c_Row_get, (fun _ h => absurd h List.not_mem_nil)⟩)⟩)⟩⟩
set_option maxHeartbeats 4000000 in
set_option maxRecDepth 100000 in
theorem g_takeEqual (l : Launch) (G : gG) (tp : Nat) (ty : Nat) (ty2 : Nat) (fy : Nat → Int32) (ta : Int32) (tb : Int32) (tc : Int32) (td : Int32) (te : Int32) (sz : Nat) : Met l yX10_takeEqual wq_g_takeEqual ({ frames := 1, cells := 0, slots := 0, locals := 21 }) (va_Pc [.ref tp] (mP G [(tp, .inr (11, [.ref ty, .int ta, .int tb, .int tc, .int td, .int te])), (ty, .inr (10, [.ref ty2])), (ty2, .inl (gI G, 3000, .inl fy))] sz)) (va_Qi (fun (r : Int32) (_ : Unit) => r = 0 ∨ r = 1) (fun (_ : Unit) (t : State) => ∃ (b1 : Int32), va_P (gD G) vwCl [(tp, .inr (11, [.ref ty, .int ta, .int b1, .int tc, .int td, .int te])), (ty, .inr (10, [.ref ty2])), (ty2, .inl (gI G, 3000, .inl fy))] t.heap ∧ va_D (va_A [(tp, .inr (11, [.ref ty, .int ta, .int tb, .int tc, .int td, .int te])), (ty, .inr (10, [.ref ty2])), (ty2, .inl (gI G, 3000, .inl fy))] sz) [(tp, .inr (11, [.ref ty, .int ta, .int b1, .int tc, .int td, .int te])), (ty, .inr (10, [.ref ty2])), (ty2, .inl (gI G, 3000, .inl fy))]) (va_A [(tp, .inr (11, [.ref ty, .int ta, .int tb, .int tc, .int td, .int te])), (ty, .inr (10, [.ref ty2])), (ty2, .inl (gI G, 3000, .inl fy))] sz)) 0 0 (va_A [(tp, .inr (11, [.ref ty, .int ta, .int tb, .int tc, .int td, .int te])), (ty, .inr (10, [.ref ty2])), (ty2, .inl (gI G, 3000, .inl fy))] sz) := by
  refine Met.ofW (cc := cX10_takeEqual) (maxL := 2) (ret := (some .boolean)) (by decide) rfl ?_
  intro p e s m args below meth c s₁ B hml hv
  obtain ⟨rfl, hsz, hP, hB, hD0⟩ := hv
  have hx := B.exec
  have hb := B.bytes
  have hr := B.returns
  have hts := atoms_spec (ws := wq_g_takeEqual) B.pre
  have hown : s.vm.findClass RX10 = some m.cls := findClass_of_methodNamed B.named
  have hlocks := B.notSynchronized
  have hK := hB.1
  subst hsz
  have hD := hD0.self (sz := s.heap.size)
  generalize hAe : va_A [(tp, .inr (11, [.ref ty, .int ta, .int tb, .int tc, .int td, .int te])), (ty, .inr (10, [.ref ty2])), (ty2, .inl (gI G, 3000, .inl fy))] s.heap.size = A at hD ⊢
  have hA : ∀ q : Nat, s.heap.size ≤ q → A q := fun q h => by rw [← hAe]; exact Or.inr h
  have hS : va_S A s.heap s.heap [] := va_S.rf
  have hP : va_P (gD G) vwCl [(tp, .inr (11, [.ref ty, .int ta, .int tb, .int tc, .int td, .int te])), (ty, .inr (10, [.ref ty2])), (ty2, .inl (gI G, 3000, .inl fy))] s.heap := hP
  have hD : va_D A [(tp, .inr (11, [.ref ty, .int ta, .int tb, .int tc, .int td, .int te])), (ty, .inr (10, [.ref ty2])), (ty2, .inl (gI G, 3000, .inl fy))] := hD
  have hl := lv_entry ([.ref tp]) (n := 2) (Nat.le_of_ble_eq_true rfl)
  rw [lg_entry_eq]
  generalize (lg_sl ([.ref tp]) ++ List.replicate (2 - (lg_sl ([.ref tp])).length) Slot.unset).toArray = ls at hl ⊢
  have hl : lv_has ls 2 [(0, .ref tp)] := hl
  refine lv_aload_n hx hb dX10_takeEqual_0 rfl (lv_at hl 0 rfl) ?_
  refine va_get (D := gD G) (ci := 11) (v := .int tb) (C := RX10) (T := TX10) (N := 6) hx hb hts (fun _ h9 => (List.mem_cons_of_mem _ (List.mem_append_right _ (List.mem_append_left _ h9)))) hown hK hP 0 rfl rfl 2 (by decide) (hts (.fieldLink RX10 25 "JudoHall$Tape" "next" "I") (List.mem_cons_of_mem _ (List.mem_append_left _ (List.mem_of_getElem? (i := 0) rfl)))) (fun _ h9 => h9) rfl dX10_takeEqual_1 ?_
  refine lv_aload_n hx hb dX10_takeEqual_4 rfl (lv_at hl 0 rfl) ?_
  refine va_get (D := gD G) (ci := 11) (v := .int ta) (C := RX10) (T := TX10) (N := 6) hx hb hts (fun _ h9 => (List.mem_cons_of_mem _ (List.mem_append_right _ (List.mem_append_left _ h9)))) hown hK hP 0 rfl rfl 1 (by decide) (hts (.fieldLink RX10 18 "JudoHall$Tape" "length" "I") (List.mem_cons_of_mem _ (List.mem_append_left _ (List.mem_of_getElem? (i := 1) rfl)))) (fun _ h9 => h9) rfl dX10_takeEqual_5 ?_
  refine lv_icmp_ge (tgt := 31) hx hb dX10_takeEqual_8 (by decide) (fun c_1 => ?_) (fun c_1 => ?_)
  · skip
    refine lv_iconst (v := 0) hx hb dX10_takeEqual_31 (by decide) ?_
    refine lv_istore_n (lv' := [(1, .int 0), (0, .ref tp)]) hx hb dX10_takeEqual_32 rfl hl (by decide) rfl (fun ls hl => ?_)
    refine lv_iload_n hx hb dX10_takeEqual_33 rfl (lv_at hl 0 rfl) ?_
    refine lv_if_eq (tgt := 47) hx hb dX10_takeEqual_34 (by decide) (fun _ => ?_) (fun c9 => absurd (by decide) c9)
    refine lv_iload_n hx hb dX10_takeEqual_47 rfl (lv_at hl 0 rfl) ?_
    have hP9 := hP.sub (ws' := [(tp, .inr (11, [.ref ty, .int ta, .int tb, .int tc, .int td, .int te])), (ty, .inr (10, [.ref ty2])), (ty2, .inl (gI G, 3000, .inl fy))]) [0, 1, 2] rfl
    have hD9 := hD.sub (ws' := [(tp, .inr (11, [.ref ty, .int ta, .int tb, .int tc, .int td, .int te])), (ty, .inr (10, [.ref ty2])), (ty2, .inl (gI G, 3000, .inl fy))]) [0, 1, 2] (by decide) rfl
    exact W.zret (v := 0) hx hb hr rfl (fun t ht hW => ⟨⟨_, (), rfl, Or.inl rfl, tb, by rw [ht]; exact hP9, hD9⟩, hS.F ht⟩) hS.2.2 dX10_takeEqual_48
  · skip
    refine lv_aload_n hx hb dX10_takeEqual_11 rfl (lv_at hl 0 rfl) ?_
    refine va_get (D := gD G) (ci := 11) (v := .ref ty) (C := RX10) (T := TX10) (N := 6) hx hb hts (fun _ h9 => (List.mem_cons_of_mem _ (List.mem_append_right _ (List.mem_append_left _ h9)))) hown hK hP 0 rfl rfl 0 (by decide) (hts (.fieldLink RX10 14 "JudoHall$Tape" "bytes" "LJudoHall$Row;") (List.mem_cons_of_mem _ (List.mem_append_left _ (List.mem_of_getElem? (i := 2) rfl)))) (fun _ h9 => h9) rfl dX10_takeEqual_12 ?_
    refine lv_aload_n hx hb dX10_takeEqual_15 rfl (lv_at hl 0 rfl) ?_
    refine va_get (D := gD G) (ci := 11) (v := .int tb) (C := RX10) (T := TX10) (N := 6) hx hb hts (fun _ h9 => (List.mem_cons_of_mem _ (List.mem_append_right _ (List.mem_append_left _ h9)))) hown hK hP 0 rfl rfl 2 (by decide) (hts (.fieldLink RX10 25 "JudoHall$Tape" "next" "I") (List.mem_cons_of_mem _ (List.mem_append_left _ (List.mem_of_getElem? (i := 0) rfl)))) (fun _ h9 => h9) rfl dX10_takeEqual_16 ?_
    refine vp_callSi (va_Run.run (va_runV (As := [.int tb]) (rest := []) ⟨hx, hb, hml, hown, hts⟩ (c_Row_get l G ty ty2 3000 fy tb (by decide)) (cwV 1 hts (gdV (List.mem_cons_of_mem _ (List.mem_append_left _ (List.mem_of_getElem? (i := 3) rfl))) (List.mem_cons_of_mem _ (List.mem_append_left _ (List.mem_of_getElem? (i := 4) rfl))) (List.mem_cons_of_mem _ (List.mem_append_left _ (List.mem_of_getElem? (i := 5) rfl))) (List.mem_cons_of_mem _ (List.mem_append_left _ (List.mem_of_getElem? (i := 6) rfl))) (fun w9 h9 => ⟨(List.mem_cons_of_mem _ (List.mem_append_right _ (List.mem_append_right _ (List.mem_append_left _ h9)))), gd_c_Row_get w9 h9⟩)) rfl rfl rfl kVX9_get ⟨Nat.le_of_ble_eq_true rfl, Nat.le_of_ble_eq_true rfl⟩) (preV_p (As := [.int tb]) (hP.sub (ws' := [(ty, .inr (10, [.ref ty2])), (ty2, .inl (gI G, 3000, .inl fy))]) [1, 2] rfl) hB rfl rfl) rfl rfl hl.1 rfl (lv_room (Nat.le_of_ble_eq_true rfl)) dX10_takeEqual_19 ⟨Nat.le_of_ble_eq_true rfl, Nat.le_of_ble_eq_true rfl⟩)) (fun r_2 hr_2 => ?_)
    subst hr_2
    refine lv_bipush (v := 61) hx hb dX10_takeEqual_22 (by decide) ?_
    refine lv_icmp_ne (tgt := 31) hx hb dX10_takeEqual_24 (by decide) (fun c_3 => ?_) (fun c_3 => ?_)
    · skip
      refine lv_iconst (v := 0) hx hb dX10_takeEqual_31 (by decide) ?_
      refine lv_istore_n (lv' := [(1, .int 0), (0, .ref tp)]) hx hb dX10_takeEqual_32 rfl hl (by decide) rfl (fun ls hl => ?_)
      refine lv_iload_n hx hb dX10_takeEqual_33 rfl (lv_at hl 0 rfl) ?_
      refine lv_if_eq (tgt := 47) hx hb dX10_takeEqual_34 (by decide) (fun _ => ?_) (fun c9 => absurd (by decide) c9)
      refine lv_iload_n hx hb dX10_takeEqual_47 rfl (lv_at hl 0 rfl) ?_
      have hP9 := hP.sub (ws' := [(tp, .inr (11, [.ref ty, .int ta, .int tb, .int tc, .int td, .int te])), (ty, .inr (10, [.ref ty2])), (ty2, .inl (gI G, 3000, .inl fy))]) [0, 1, 2] rfl
      have hD9 := hD.sub (ws' := [(tp, .inr (11, [.ref ty, .int ta, .int tb, .int tc, .int td, .int te])), (ty, .inr (10, [.ref ty2])), (ty2, .inl (gI G, 3000, .inl fy))]) [0, 1, 2] (by decide) rfl
      exact W.zret (v := 0) hx hb hr rfl (fun t ht hW => ⟨⟨_, (), rfl, Or.inl rfl, tb, by rw [ht]; exact hP9, hD9⟩, hS.F ht⟩) hS.2.2 dX10_takeEqual_48
    · skip
      refine lv_iconst (v := 1) hx hb dX10_takeEqual_27 (by decide) ?_
      refine lv_goto (tgt := 32) hx hb dX10_takeEqual_28 (by decide) ?_
      refine lv_istore_n (lv' := [(1, .int 1), (0, .ref tp)]) hx hb dX10_takeEqual_32 rfl hl (by decide) rfl (fun ls hl => ?_)
      refine lv_iload_n hx hb dX10_takeEqual_33 rfl (lv_at hl 0 rfl) ?_
      refine lv_if_eq (tgt := 47) hx hb dX10_takeEqual_34 (by decide) (fun c9 => absurd c9 (by decide)) (fun _ => ?_)
      refine lv_aload_n hx hb dX10_takeEqual_37 rfl (lv_at hl 1 rfl) ?_
      refine lv_dup hx hb dX10_takeEqual_38 rfl ?_
      refine va_get (D := gD G) (ci := 11) (v := .int tb) (C := RX10) (T := TX10) (N := 6) hx hb hts (fun _ h9 => (List.mem_cons_of_mem _ (List.mem_append_right _ (List.mem_append_left _ h9)))) hown hK hP 0 rfl rfl 2 (by decide) (hts (.fieldLink RX10 25 "JudoHall$Tape" "next" "I") (List.mem_cons_of_mem _ (List.mem_append_left _ (List.mem_of_getElem? (i := 0) rfl)))) (fun _ h9 => h9) rfl dX10_takeEqual_39 ?_
      refine lv_iconst (v := 1) hx hb dX10_takeEqual_42 (by decide) ?_
      refine lv_iadd hx hb dX10_takeEqual_43 ?_
      refine va_put (D := gD G) (ci := 11) (v := .int (tb + 1)) (ty := tyX10 2) (C := RX10) (T := TX10) (N := 6) hx hb hts (fun _ h9 => (List.mem_cons_of_mem _ (List.mem_append_right _ (List.mem_append_left _ h9)))) tyX10 tyX10_ok nmX10 hown hK hP hD hS 0 rfl rfl 2 (by decide) (hts (.fieldLink RX10 25 "JudoHall$Tape" "next" "I") (List.mem_cons_of_mem _ (List.mem_append_left _ (List.mem_of_getElem? (i := 0) rfl)))) (fun _ h9 => h9) rfl (tyX10_ok 2 (by decide)) rfl rfl (Nat.le_of_ble_eq_true rfl) dX10_takeEqual_44 (fun H locs hP hD hS => ?_)
      have hP : va_P (gD G) vwCl [(tp, .inr (11, [.ref ty, .int ta, .int (tb + 1), .int tc, .int td, .int te])), (ty, .inr (10, [.ref ty2])), (ty2, .inl (gI G, 3000, .inl fy))] H := hP
      have hD : va_D A [(tp, .inr (11, [.ref ty, .int ta, .int (tb + 1), .int tc, .int td, .int te])), (ty, .inr (10, [.ref ty2])), (ty2, .inl (gI G, 3000, .inl fy))] := hD
      refine lv_iload_n hx hb dX10_takeEqual_47 rfl (lv_at hl 0 rfl) ?_
      have hP9 := hP.sub (ws' := [(tp, .inr (11, [.ref ty, .int ta, .int (tb + 1), .int tc, .int td, .int te])), (ty, .inr (10, [.ref ty2])), (ty2, .inl (gI G, 3000, .inl fy))]) [0, 1, 2] rfl
      have hD9 := hD.sub (ws' := [(tp, .inr (11, [.ref ty, .int ta, .int (tb + 1), .int tc, .int td, .int te])), (ty, .inr (10, [.ref ty2])), (ty2, .inl (gI G, 3000, .inl fy))]) [0, 1, 2] (by decide) rfl
      exact W.zret (v := 1) hx hb hr rfl (fun t ht hW => ⟨⟨_, (), rfl, Or.inr rfl, (tb + 1), by rw [ht]; exact hP9, hD9⟩, hS.F ht⟩) hS.2.2 dX10_takeEqual_48

def wo_g_readNumber : List Cond := [.fieldLink RX10 61 "JudoHall$Tape" "value" "I", .fieldLink RX10 25 "JudoHall$Tape" "next" "I", .fieldLink RX10 18 "JudoHall$Tape" "length" "I", .fieldLink RX10 36 "JudoHall$Tape" "from" "I", .fieldLink RX10 39 "JudoHall$Tape" "kind" "I", .fieldLink RX10 14 "JudoHall$Tape" "bytes" "LJudoHall$Row;", .methodLink RX10 28 yX9_get, .instanceMethod yX9_get, .selects RX9 yX9_get yX9_get, .initialized RX9, .methodLink RX10 48 yX10_isDigit, .static yX10_isDigit, .initialized RX10]
def wq_g_readNumber : List Cond := .code yX10_readNumber cX10_readNumber 1 none :: (wo_g_readNumber ++ (wsX100 ++ (wq_c_Row_get ++ (wq_g_isDigit ++ []))))
theorem gd_g_readNumber : ∀ w ∈ wq_g_readNumber, Gd w := List.forall_mem_cons.mpr ⟨Or.inl rfl, List.forall_mem_append.mpr ⟨gdl wo_g_readNumber (by decide +kernel), (List.forall_mem_append.mpr ⟨gd_wsX100, (List.forall_mem_append.mpr ⟨gd_c_Row_get, (List.forall_mem_append.mpr ⟨gd_g_isDigit, (fun _ h => absurd h List.not_mem_nil)⟩)⟩)⟩)⟩⟩
theorem in_g_readNumber : ∀ w ∈ wq_g_readNumber, w ∈ lw_tbl := List.forall_mem_cons.mpr ⟨List.mem_of_getElem? (i := 731) (by decide +kernel), List.forall_mem_append.mpr ⟨inT wo_g_readNumber [261, 256, 255, 260, 258, 253, 642, 643, 644, 156, 725, 726, 159] (by decide +kernel), (List.forall_mem_append.mpr ⟨in_wsX100, (List.forall_mem_append.mpr ⟨in_c_Row_get, (List.forall_mem_append.mpr ⟨in_g_isDigit, (fun _ h => absurd h List.not_mem_nil)⟩)⟩)⟩)⟩⟩
set_option maxHeartbeats 4000000 in
set_option maxRecDepth 100000 in
theorem g_readNumber (l : Launch) (G : gG) (tp : Nat) (ty : Nat) (ty2 : Nat) (fy : Nat → Int32) (ta : Int32) (tb : Int32) (tc : Int32) (td : Int32) (te : Int32) (sz : Nat) : Met l yX10_readNumber wq_g_readNumber ({ frames := 1, cells := 0, slots := 0, locals := 21 }) (va_Pc [.ref tp] (mP G [(tp, .inr (11, [.ref ty, .int ta, .int tb, .int tc, .int td, .int te])), (ty, .inr (10, [.ref ty2])), (ty2, .inl (gI G, 3000, .inl fy))] sz)) (va_Qv (fun _ : Unit => True) (fun (_ : Unit) (t : State) => ∃ (b1 : Int32) (c1 : Int32) (e1 : Int32), va_P (gD G) vwCl [(tp, .inr (11, [.ref ty, .int ta, .int b1, .int c1, .int td, .int e1])), (ty, .inr (10, [.ref ty2])), (ty2, .inl (gI G, 3000, .inl fy))] t.heap ∧ va_D (va_A [(tp, .inr (11, [.ref ty, .int ta, .int tb, .int tc, .int td, .int te])), (ty, .inr (10, [.ref ty2])), (ty2, .inl (gI G, 3000, .inl fy))] sz) [(tp, .inr (11, [.ref ty, .int ta, .int b1, .int c1, .int td, .int e1])), (ty, .inr (10, [.ref ty2])), (ty2, .inl (gI G, 3000, .inl fy))]) (va_A [(tp, .inr (11, [.ref ty, .int ta, .int tb, .int tc, .int td, .int te])), (ty, .inr (10, [.ref ty2])), (ty2, .inl (gI G, 3000, .inl fy))] sz)) 0 0 (va_A [(tp, .inr (11, [.ref ty, .int ta, .int tb, .int tc, .int td, .int te])), (ty, .inr (10, [.ref ty2])), (ty2, .inl (gI G, 3000, .inl fy))] sz) := by
  refine Met.ofW (cc := cX10_readNumber) (maxL := 1) (ret := none) (by decide) rfl ?_
  intro p e s m args below meth c s₁ B hml hv
  obtain ⟨rfl, hsz, hP, hB, hD0⟩ := hv
  have hx := B.exec
  have hb := B.bytes
  have hr := B.returns
  have hts := atoms_spec (ws := wq_g_readNumber) B.pre
  have hown : s.vm.findClass RX10 = some m.cls := findClass_of_methodNamed B.named
  have hlocks := B.notSynchronized
  have hK := hB.1
  subst hsz
  have hD := hD0.self (sz := s.heap.size)
  generalize hAe : va_A [(tp, .inr (11, [.ref ty, .int ta, .int tb, .int tc, .int td, .int te])), (ty, .inr (10, [.ref ty2])), (ty2, .inl (gI G, 3000, .inl fy))] s.heap.size = A at hD ⊢
  have hA : ∀ q : Nat, s.heap.size ≤ q → A q := fun q h => by rw [← hAe]; exact Or.inr h
  have hS : va_S A s.heap s.heap [] := va_S.rf
  have hP : va_P (gD G) vwCl [(tp, .inr (11, [.ref ty, .int ta, .int tb, .int tc, .int td, .int te])), (ty, .inr (10, [.ref ty2])), (ty2, .inl (gI G, 3000, .inl fy))] s.heap := hP
  have hD : va_D A [(tp, .inr (11, [.ref ty, .int ta, .int tb, .int tc, .int td, .int te])), (ty, .inr (10, [.ref ty2])), (ty2, .inl (gI G, 3000, .inl fy))] := hD
  have hl := lv_entry ([.ref tp]) (n := 1) (Nat.le_of_ble_eq_true rfl)
  rw [lg_entry_eq]
  generalize (lg_sl ([.ref tp]) ++ List.replicate (1 - (lg_sl ([.ref tp])).length) Slot.unset).toArray = ls at hl ⊢
  have hl : lv_has ls 1 [(0, .ref tp)] := hl
  refine lv_aload_n hx hb dX10_readNumber_0 rfl (lv_at hl 0 rfl) ?_
  refine lv_iconst (v := 0) hx hb dX10_readNumber_1 (by decide) ?_
  refine va_put (D := gD G) (ci := 11) (v := .int 0) (ty := tyX10 5) (C := RX10) (T := TX10) (N := 6) hx hb hts (fun _ h9 => (List.mem_cons_of_mem _ (List.mem_append_right _ (List.mem_append_left _ h9)))) tyX10 tyX10_ok nmX10 hown hK hP hD hS 0 rfl rfl 5 (by decide) (hts (.fieldLink RX10 61 "JudoHall$Tape" "value" "I") (List.mem_cons_of_mem _ (List.mem_append_left _ (List.mem_of_getElem? (i := 0) rfl)))) (fun _ h9 => h9) rfl (tyX10_ok 5 (by decide)) rfl rfl (Nat.le_of_ble_eq_true rfl) dX10_readNumber_2 (fun H locs hP hD hS => ?_)
  have hP : va_P (gD G) vwCl [(tp, .inr (11, [.ref ty, .int ta, .int tb, .int tc, .int td, .int 0])), (ty, .inr (10, [.ref ty2])), (ty2, .inl (gI G, 3000, .inl fy))] H := hP
  have hD : va_D A [(tp, .inr (11, [.ref ty, .int ta, .int tb, .int tc, .int td, .int 0])), (ty, .inr (10, [.ref ty2])), (ty2, .inl (gI G, 3000, .inl fy))] := hD
  have hloop5 : ∀ (k9 : Nat) (zb : Int32) (ze : Int32), (ta.toInt - zb.toInt).toNat < k9 → ∀ (H : Heap) (locs : List Loc) (ls : Array Slot), lv_has ls 1 [(0, .ref tp)] → va_P (gD G) vwCl [(tp, .inr (11, [.ref ty, .int ta, .int zb, .int tc, .int td, .int ze])), (ty, .inr (10, [.ref ty2])), (ty2, .inl (gI G, 3000, .inl fy))] H → va_D A [(tp, .inr (11, [.ref ty, .int ta, .int zb, .int tc, .int td, .int ze])), (ty, .inr (10, [.ref ty2])), (ty2, .inl (gI G, 3000, .inl fy))] → va_S A s.heap H locs → W p l e (headSpec wq_g_readNumber ({ frames := 1, cells := 0, slots := 0, locals := 21 })).room s m [.ref tp].toArray below meth c H locs 0 0 (MQ below (va_Qv (fun _ : Unit => True) (fun (_ : Unit) (t : State) => ∃ (b1 : Int32) (c1 : Int32) (e1 : Int32), va_P (gD G) vwCl [(tp, .inr (11, [.ref ty, .int ta, .int b1, .int c1, .int td, .int e1])), (ty, .inr (10, [.ref ty2])), (ty2, .inl (gI G, 3000, .inl fy))] t.heap ∧ va_D A [(tp, .inr (11, [.ref ty, .int ta, .int b1, .int c1, .int td, .int e1])), (ty, .inr (10, [.ref ty2])), (ty2, .inl (gI G, 3000, .inl fy))]) A) [.ref tp].toArray s 0 0 A) (F0 m 5 ls []) := by
    intro k9
    induction k9 with
    | zero => intro zb ze h9; exact absurd h9 (Nat.not_lt_zero _)
    | succ k9 ih5 =>
      intro zb ze hm5  H locs ls hl hP hD hS
      refine lv_aload_n hx hb dX10_readNumber_5 rfl (lv_at hl 0 rfl) ?_
      refine va_get (D := gD G) (ci := 11) (v := .int zb) (C := RX10) (T := TX10) (N := 6) hx hb hts (fun _ h9 => (List.mem_cons_of_mem _ (List.mem_append_right _ (List.mem_append_left _ h9)))) hown hK hP 0 rfl rfl 2 (by decide) (hts (.fieldLink RX10 25 "JudoHall$Tape" "next" "I") (List.mem_cons_of_mem _ (List.mem_append_left _ (List.mem_of_getElem? (i := 1) rfl)))) (fun _ h9 => h9) rfl dX10_readNumber_6 ?_
      refine lv_aload_n hx hb dX10_readNumber_9 rfl (lv_at hl 0 rfl) ?_
      refine va_get (D := gD G) (ci := 11) (v := .int ta) (C := RX10) (T := TX10) (N := 6) hx hb hts (fun _ h9 => (List.mem_cons_of_mem _ (List.mem_append_right _ (List.mem_append_left _ h9)))) hown hK hP 0 rfl rfl 1 (by decide) (hts (.fieldLink RX10 18 "JudoHall$Tape" "length" "I") (List.mem_cons_of_mem _ (List.mem_append_left _ (List.mem_of_getElem? (i := 2) rfl)))) (fun _ h9 => h9) rfl dX10_readNumber_10 ?_
      refine lv_icmp_ge (tgt := 85) hx hb dX10_readNumber_13 (by decide) (fun c_1 => ?_) (fun c_1 => ?_)
      · skip
        refine lv_aload_n hx hb dX10_readNumber_85 rfl (lv_at hl 0 rfl) ?_
        refine lv_aload_n hx hb dX10_readNumber_86 rfl (lv_at hl 0 rfl) ?_
        refine va_get (D := gD G) (ci := 11) (v := .int zb) (C := RX10) (T := TX10) (N := 6) hx hb hts (fun _ h9 => (List.mem_cons_of_mem _ (List.mem_append_right _ (List.mem_append_left _ h9)))) hown hK hP 0 rfl rfl 2 (by decide) (hts (.fieldLink RX10 25 "JudoHall$Tape" "next" "I") (List.mem_cons_of_mem _ (List.mem_append_left _ (List.mem_of_getElem? (i := 1) rfl)))) (fun _ h9 => h9) rfl dX10_readNumber_87 ?_
        refine lv_aload_n hx hb dX10_readNumber_90 rfl (lv_at hl 0 rfl) ?_
        refine va_get (D := gD G) (ci := 11) (v := .int td) (C := RX10) (T := TX10) (N := 6) hx hb hts (fun _ h9 => (List.mem_cons_of_mem _ (List.mem_append_right _ (List.mem_append_left _ h9)))) hown hK hP 0 rfl rfl 4 (by decide) (hts (.fieldLink RX10 36 "JudoHall$Tape" "from" "I") (List.mem_cons_of_mem _ (List.mem_append_left _ (List.mem_of_getElem? (i := 3) rfl)))) (fun _ h9 => h9) rfl dX10_readNumber_91 ?_
        refine lv_isub hx hb dX10_readNumber_94 ?_
        refine lv_iconst (v := 4) hx hb dX10_readNumber_95 (by decide) ?_
        refine lv_icmp_le (tgt := 103) hx hb dX10_readNumber_96 (by decide) (fun c_2 => ?_) (fun c_2 => ?_)
        · skip
          refine lv_iconst (v := 3) hx hb dX10_readNumber_103 (by decide) ?_
          refine va_put (D := gD G) (ci := 11) (v := .int 3) (ty := tyX10 3) (C := RX10) (T := TX10) (N := 6) hx hb hts (fun _ h9 => (List.mem_cons_of_mem _ (List.mem_append_right _ (List.mem_append_left _ h9)))) tyX10 tyX10_ok nmX10 hown hK hP hD hS 0 rfl rfl 3 (by decide) (hts (.fieldLink RX10 39 "JudoHall$Tape" "kind" "I") (List.mem_cons_of_mem _ (List.mem_append_left _ (List.mem_of_getElem? (i := 4) rfl)))) (fun _ h9 => h9) rfl (tyX10_ok 3 (by decide)) rfl rfl (Nat.le_of_ble_eq_true rfl) dX10_readNumber_104 (fun H locs hP hD hS => ?_)
          have hP : va_P (gD G) vwCl [(tp, .inr (11, [.ref ty, .int ta, .int zb, .int 3, .int td, .int ze])), (ty, .inr (10, [.ref ty2])), (ty2, .inl (gI G, 3000, .inl fy))] H := hP
          have hD : va_D A [(tp, .inr (11, [.ref ty, .int ta, .int zb, .int 3, .int td, .int ze])), (ty, .inr (10, [.ref ty2])), (ty2, .inl (gI G, 3000, .inl fy))] := hD
          have hP9 := hP.sub (ws' := [(tp, .inr (11, [.ref ty, .int ta, .int zb, .int 3, .int td, .int ze])), (ty, .inr (10, [.ref ty2])), (ty2, .inl (gI G, 3000, .inl fy))]) [0, 1, 2] rfl
          have hD9 := hD.sub (ws' := [(tp, .inr (11, [.ref ty, .int ta, .int zb, .int 3, .int td, .int ze])), (ty, .inr (10, [.ref ty2])), (ty2, .inl (gI G, 3000, .inl fy))]) [0, 1, 2] (by decide) rfl
          exact W.vret hx hb hr (fun t ht hW => ⟨⟨(), rfl, trivial, zb, 3, ze, by rw [ht]; exact hP9, hD9⟩, hS.F ht⟩) hS.2.2 dX10_readNumber_107
        · skip
          refine lv_iconst (v := 1) hx hb dX10_readNumber_99 (by decide) ?_
          refine lv_goto (tgt := 104) hx hb dX10_readNumber_100 (by decide) ?_
          refine va_put (D := gD G) (ci := 11) (v := .int 1) (ty := tyX10 3) (C := RX10) (T := TX10) (N := 6) hx hb hts (fun _ h9 => (List.mem_cons_of_mem _ (List.mem_append_right _ (List.mem_append_left _ h9)))) tyX10 tyX10_ok nmX10 hown hK hP hD hS 0 rfl rfl 3 (by decide) (hts (.fieldLink RX10 39 "JudoHall$Tape" "kind" "I") (List.mem_cons_of_mem _ (List.mem_append_left _ (List.mem_of_getElem? (i := 4) rfl)))) (fun _ h9 => h9) rfl (tyX10_ok 3 (by decide)) rfl rfl (Nat.le_of_ble_eq_true rfl) dX10_readNumber_104 (fun H locs hP hD hS => ?_)
          have hP : va_P (gD G) vwCl [(tp, .inr (11, [.ref ty, .int ta, .int zb, .int 1, .int td, .int ze])), (ty, .inr (10, [.ref ty2])), (ty2, .inl (gI G, 3000, .inl fy))] H := hP
          have hD : va_D A [(tp, .inr (11, [.ref ty, .int ta, .int zb, .int 1, .int td, .int ze])), (ty, .inr (10, [.ref ty2])), (ty2, .inl (gI G, 3000, .inl fy))] := hD
          have hP9 := hP.sub (ws' := [(tp, .inr (11, [.ref ty, .int ta, .int zb, .int 1, .int td, .int ze])), (ty, .inr (10, [.ref ty2])), (ty2, .inl (gI G, 3000, .inl fy))]) [0, 1, 2] rfl
          have hD9 := hD.sub (ws' := [(tp, .inr (11, [.ref ty, .int ta, .int zb, .int 1, .int td, .int ze])), (ty, .inr (10, [.ref ty2])), (ty2, .inl (gI G, 3000, .inl fy))]) [0, 1, 2] (by decide) rfl
          exact W.vret hx hb hr (fun t ht hW => ⟨⟨(), rfl, trivial, zb, 1, ze, by rw [ht]; exact hP9, hD9⟩, hS.F ht⟩) hS.2.2 dX10_readNumber_107
      · have hu13 := gl_up c_1
        refine lv_aload_n hx hb dX10_readNumber_16 rfl (lv_at hl 0 rfl) ?_
        refine va_get (D := gD G) (ci := 11) (v := .ref ty) (C := RX10) (T := TX10) (N := 6) hx hb hts (fun _ h9 => (List.mem_cons_of_mem _ (List.mem_append_right _ (List.mem_append_left _ h9)))) hown hK hP 0 rfl rfl 0 (by decide) (hts (.fieldLink RX10 14 "JudoHall$Tape" "bytes" "LJudoHall$Row;") (List.mem_cons_of_mem _ (List.mem_append_left _ (List.mem_of_getElem? (i := 5) rfl)))) (fun _ h9 => h9) rfl dX10_readNumber_17 ?_
        refine lv_aload_n hx hb dX10_readNumber_20 rfl (lv_at hl 0 rfl) ?_
        refine va_get (D := gD G) (ci := 11) (v := .int zb) (C := RX10) (T := TX10) (N := 6) hx hb hts (fun _ h9 => (List.mem_cons_of_mem _ (List.mem_append_right _ (List.mem_append_left _ h9)))) hown hK hP 0 rfl rfl 2 (by decide) (hts (.fieldLink RX10 25 "JudoHall$Tape" "next" "I") (List.mem_cons_of_mem _ (List.mem_append_left _ (List.mem_of_getElem? (i := 1) rfl)))) (fun _ h9 => h9) rfl dX10_readNumber_21 ?_
        refine vp_callSi (va_Run.run (va_runV (As := [.int zb]) (rest := []) ⟨hx, hb, hml, hown, hts⟩ (c_Row_get l G ty ty2 3000 fy zb (by decide)) (cwV 1 hts (gdV (List.mem_cons_of_mem _ (List.mem_append_left _ (List.mem_of_getElem? (i := 6) rfl))) (List.mem_cons_of_mem _ (List.mem_append_left _ (List.mem_of_getElem? (i := 7) rfl))) (List.mem_cons_of_mem _ (List.mem_append_left _ (List.mem_of_getElem? (i := 8) rfl))) (List.mem_cons_of_mem _ (List.mem_append_left _ (List.mem_of_getElem? (i := 9) rfl))) (fun w9 h9 => ⟨(List.mem_cons_of_mem _ (List.mem_append_right _ (List.mem_append_right _ (List.mem_append_left _ h9)))), gd_c_Row_get w9 h9⟩)) rfl rfl rfl kVX9_get ⟨Nat.le_of_ble_eq_true rfl, Nat.le_of_ble_eq_true rfl⟩) (preV_p (As := [.int zb]) (hP.sub (ws' := [(ty, .inr (10, [.ref ty2])), (ty2, .inl (gI G, 3000, .inl fy))]) [1, 2] rfl) hB rfl rfl) rfl rfl hl.1 rfl (lv_room (Nat.le_of_ble_eq_true rfl)) dX10_readNumber_24 ⟨Nat.le_of_ble_eq_true rfl, Nat.le_of_ble_eq_true rfl⟩)) (fun r_3 hr_3 => ?_)
        subst hr_3
        refine vp_callSi (va_Run.run (va_runS (As := [.int (rg fy 3000 zb)]) (rest := []) ⟨hx, hb, hml, hown, hts⟩ (g_isDigit l G (rg fy 3000 zb)) (va_cwS 1 hts (gdS (List.mem_cons_of_mem _ (List.mem_append_left _ (List.mem_of_getElem? (i := 10) rfl))) (List.mem_cons_of_mem _ (List.mem_append_left _ (List.mem_of_getElem? (i := 11) rfl))) (List.mem_cons_of_mem _ (List.mem_append_left _ (List.mem_of_getElem? (i := 12) rfl))) (fun w9 h9 => ⟨(List.mem_cons_of_mem _ (List.mem_append_right _ (List.mem_append_right _ (List.mem_append_right _ (List.mem_append_left _ h9))))), gd_g_isDigit w9 h9⟩)) rfl rfl rfl kSX10_isDigit ⟨Nat.le_of_ble_eq_true rfl, Nat.le_of_ble_eq_true rfl⟩) (preS_p (As := [.int (rg fy 3000 zb)]) (hP.sub (ws' := []) [] rfl) hB) rfl rfl hl.1 rfl (lv_room (Nat.le_of_ble_eq_true rfl)) dX10_readNumber_27 ⟨Nat.le_of_ble_eq_true rfl, Nat.le_of_ble_eq_true rfl⟩)) (fun r_4 hr_4 => ?_)
        have hr_4 : r_4 = 0 ∨ r_4 = 1 := hr_4
        refine lv_if_eq (tgt := 85) hx hb dX10_readNumber_30 (by decide) (fun c_5 => ?_) (fun c_5 => ?_)
        · skip
          refine lv_aload_n hx hb dX10_readNumber_85 rfl (lv_at hl 0 rfl) ?_
          refine lv_aload_n hx hb dX10_readNumber_86 rfl (lv_at hl 0 rfl) ?_
          refine va_get (D := gD G) (ci := 11) (v := .int zb) (C := RX10) (T := TX10) (N := 6) hx hb hts (fun _ h9 => (List.mem_cons_of_mem _ (List.mem_append_right _ (List.mem_append_left _ h9)))) hown hK hP 0 rfl rfl 2 (by decide) (hts (.fieldLink RX10 25 "JudoHall$Tape" "next" "I") (List.mem_cons_of_mem _ (List.mem_append_left _ (List.mem_of_getElem? (i := 1) rfl)))) (fun _ h9 => h9) rfl dX10_readNumber_87 ?_
          refine lv_aload_n hx hb dX10_readNumber_90 rfl (lv_at hl 0 rfl) ?_
          refine va_get (D := gD G) (ci := 11) (v := .int td) (C := RX10) (T := TX10) (N := 6) hx hb hts (fun _ h9 => (List.mem_cons_of_mem _ (List.mem_append_right _ (List.mem_append_left _ h9)))) hown hK hP 0 rfl rfl 4 (by decide) (hts (.fieldLink RX10 36 "JudoHall$Tape" "from" "I") (List.mem_cons_of_mem _ (List.mem_append_left _ (List.mem_of_getElem? (i := 3) rfl)))) (fun _ h9 => h9) rfl dX10_readNumber_91 ?_
          refine lv_isub hx hb dX10_readNumber_94 ?_
          refine lv_iconst (v := 4) hx hb dX10_readNumber_95 (by decide) ?_
          refine lv_icmp_le (tgt := 103) hx hb dX10_readNumber_96 (by decide) (fun c_6 => ?_) (fun c_6 => ?_)
          · skip
            refine lv_iconst (v := 3) hx hb dX10_readNumber_103 (by decide) ?_
            refine va_put (D := gD G) (ci := 11) (v := .int 3) (ty := tyX10 3) (C := RX10) (T := TX10) (N := 6) hx hb hts (fun _ h9 => (List.mem_cons_of_mem _ (List.mem_append_right _ (List.mem_append_left _ h9)))) tyX10 tyX10_ok nmX10 hown hK hP hD hS 0 rfl rfl 3 (by decide) (hts (.fieldLink RX10 39 "JudoHall$Tape" "kind" "I") (List.mem_cons_of_mem _ (List.mem_append_left _ (List.mem_of_getElem? (i := 4) rfl)))) (fun _ h9 => h9) rfl (tyX10_ok 3 (by decide)) rfl rfl (Nat.le_of_ble_eq_true rfl) dX10_readNumber_104 (fun H locs hP hD hS => ?_)
            have hP : va_P (gD G) vwCl [(tp, .inr (11, [.ref ty, .int ta, .int zb, .int 3, .int td, .int ze])), (ty, .inr (10, [.ref ty2])), (ty2, .inl (gI G, 3000, .inl fy))] H := hP
            have hD : va_D A [(tp, .inr (11, [.ref ty, .int ta, .int zb, .int 3, .int td, .int ze])), (ty, .inr (10, [.ref ty2])), (ty2, .inl (gI G, 3000, .inl fy))] := hD
            have hP9 := hP.sub (ws' := [(tp, .inr (11, [.ref ty, .int ta, .int zb, .int 3, .int td, .int ze])), (ty, .inr (10, [.ref ty2])), (ty2, .inl (gI G, 3000, .inl fy))]) [0, 1, 2] rfl
            have hD9 := hD.sub (ws' := [(tp, .inr (11, [.ref ty, .int ta, .int zb, .int 3, .int td, .int ze])), (ty, .inr (10, [.ref ty2])), (ty2, .inl (gI G, 3000, .inl fy))]) [0, 1, 2] (by decide) rfl
            exact W.vret hx hb hr (fun t ht hW => ⟨⟨(), rfl, trivial, zb, 3, ze, by rw [ht]; exact hP9, hD9⟩, hS.F ht⟩) hS.2.2 dX10_readNumber_107
          · skip
            refine lv_iconst (v := 1) hx hb dX10_readNumber_99 (by decide) ?_
            refine lv_goto (tgt := 104) hx hb dX10_readNumber_100 (by decide) ?_
            refine va_put (D := gD G) (ci := 11) (v := .int 1) (ty := tyX10 3) (C := RX10) (T := TX10) (N := 6) hx hb hts (fun _ h9 => (List.mem_cons_of_mem _ (List.mem_append_right _ (List.mem_append_left _ h9)))) tyX10 tyX10_ok nmX10 hown hK hP hD hS 0 rfl rfl 3 (by decide) (hts (.fieldLink RX10 39 "JudoHall$Tape" "kind" "I") (List.mem_cons_of_mem _ (List.mem_append_left _ (List.mem_of_getElem? (i := 4) rfl)))) (fun _ h9 => h9) rfl (tyX10_ok 3 (by decide)) rfl rfl (Nat.le_of_ble_eq_true rfl) dX10_readNumber_104 (fun H locs hP hD hS => ?_)
            have hP : va_P (gD G) vwCl [(tp, .inr (11, [.ref ty, .int ta, .int zb, .int 1, .int td, .int ze])), (ty, .inr (10, [.ref ty2])), (ty2, .inl (gI G, 3000, .inl fy))] H := hP
            have hD : va_D A [(tp, .inr (11, [.ref ty, .int ta, .int zb, .int 1, .int td, .int ze])), (ty, .inr (10, [.ref ty2])), (ty2, .inl (gI G, 3000, .inl fy))] := hD
            have hP9 := hP.sub (ws' := [(tp, .inr (11, [.ref ty, .int ta, .int zb, .int 1, .int td, .int ze])), (ty, .inr (10, [.ref ty2])), (ty2, .inl (gI G, 3000, .inl fy))]) [0, 1, 2] rfl
            have hD9 := hD.sub (ws' := [(tp, .inr (11, [.ref ty, .int ta, .int zb, .int 1, .int td, .int ze])), (ty, .inr (10, [.ref ty2])), (ty2, .inl (gI G, 3000, .inl fy))]) [0, 1, 2] (by decide) rfl
            exact W.vret hx hb hr (fun t ht hW => ⟨⟨(), rfl, trivial, zb, 1, ze, by rw [ht]; exact hP9, hD9⟩, hS.F ht⟩) hS.2.2 dX10_readNumber_107
        · skip
          refine lv_aload_n hx hb dX10_readNumber_33 rfl (lv_at hl 0 rfl) ?_
          refine va_get (D := gD G) (ci := 11) (v := .int zb) (C := RX10) (T := TX10) (N := 6) hx hb hts (fun _ h9 => (List.mem_cons_of_mem _ (List.mem_append_right _ (List.mem_append_left _ h9)))) hown hK hP 0 rfl rfl 2 (by decide) (hts (.fieldLink RX10 25 "JudoHall$Tape" "next" "I") (List.mem_cons_of_mem _ (List.mem_append_left _ (List.mem_of_getElem? (i := 1) rfl)))) (fun _ h9 => h9) rfl dX10_readNumber_34 ?_
          refine lv_aload_n hx hb dX10_readNumber_37 rfl (lv_at hl 0 rfl) ?_
          refine va_get (D := gD G) (ci := 11) (v := .int td) (C := RX10) (T := TX10) (N := 6) hx hb hts (fun _ h9 => (List.mem_cons_of_mem _ (List.mem_append_right _ (List.mem_append_left _ h9)))) hown hK hP 0 rfl rfl 4 (by decide) (hts (.fieldLink RX10 36 "JudoHall$Tape" "from" "I") (List.mem_cons_of_mem _ (List.mem_append_left _ (List.mem_of_getElem? (i := 3) rfl)))) (fun _ h9 => h9) rfl dX10_readNumber_38 ?_
          refine lv_isub hx hb dX10_readNumber_41 ?_
          refine lv_iconst (v := 4) hx hb dX10_readNumber_42 (by decide) ?_
          refine lv_icmp_ge (tgt := 72) hx hb dX10_readNumber_43 (by decide) (fun c_7 => ?_) (fun c_7 => ?_)
          · skip
            refine lv_aload_n hx hb dX10_readNumber_72 rfl (lv_at hl 0 rfl) ?_
            refine lv_dup hx hb dX10_readNumber_73 rfl ?_
            refine va_get (D := gD G) (ci := 11) (v := .int zb) (C := RX10) (T := TX10) (N := 6) hx hb hts (fun _ h9 => (List.mem_cons_of_mem _ (List.mem_append_right _ (List.mem_append_left _ h9)))) hown hK hP 0 rfl rfl 2 (by decide) (hts (.fieldLink RX10 25 "JudoHall$Tape" "next" "I") (List.mem_cons_of_mem _ (List.mem_append_left _ (List.mem_of_getElem? (i := 1) rfl)))) (fun _ h9 => h9) rfl dX10_readNumber_74 ?_
            refine lv_iconst (v := 1) hx hb dX10_readNumber_77 (by decide) ?_
            refine lv_iadd hx hb dX10_readNumber_78 ?_
            refine va_put (D := gD G) (ci := 11) (v := .int (zb + 1)) (ty := tyX10 2) (C := RX10) (T := TX10) (N := 6) hx hb hts (fun _ h9 => (List.mem_cons_of_mem _ (List.mem_append_right _ (List.mem_append_left _ h9)))) tyX10 tyX10_ok nmX10 hown hK hP hD hS 0 rfl rfl 2 (by decide) (hts (.fieldLink RX10 25 "JudoHall$Tape" "next" "I") (List.mem_cons_of_mem _ (List.mem_append_left _ (List.mem_of_getElem? (i := 1) rfl)))) (fun _ h9 => h9) rfl (tyX10_ok 2 (by decide)) rfl rfl (Nat.le_of_ble_eq_true rfl) dX10_readNumber_79 (fun H locs hP hD hS => ?_)
            have hP : va_P (gD G) vwCl [(tp, .inr (11, [.ref ty, .int ta, .int (zb + 1), .int tc, .int td, .int ze])), (ty, .inr (10, [.ref ty2])), (ty2, .inl (gI G, 3000, .inl fy))] H := hP
            have hD : va_D A [(tp, .inr (11, [.ref ty, .int ta, .int (zb + 1), .int tc, .int td, .int ze])), (ty, .inr (10, [.ref ty2])), (ty2, .inl (gI G, 3000, .inl fy))] := hD
            refine lv_goto (tgt := 5) hx hb dX10_readNumber_82 (by decide) ?_
            exact ih5 (zb + 1) ze (by omega)  _ _ _ (lv_sub hl [0] rfl) (hP.sub [0, 1, 2] rfl) (hD.sub [0, 1, 2] (by decide) rfl) hS
          · skip
            refine lv_aload_n hx hb dX10_readNumber_46 rfl (lv_at hl 0 rfl) ?_
            refine lv_bipush (v := 10) hx hb dX10_readNumber_47 (by decide) ?_
            refine lv_aload_n hx hb dX10_readNumber_49 rfl (lv_at hl 0 rfl) ?_
            refine va_get (D := gD G) (ci := 11) (v := .int ze) (C := RX10) (T := TX10) (N := 6) hx hb hts (fun _ h9 => (List.mem_cons_of_mem _ (List.mem_append_right _ (List.mem_append_left _ h9)))) hown hK hP 0 rfl rfl 5 (by decide) (hts (.fieldLink RX10 61 "JudoHall$Tape" "value" "I") (List.mem_cons_of_mem _ (List.mem_append_left _ (List.mem_of_getElem? (i := 0) rfl)))) (fun _ h9 => h9) rfl dX10_readNumber_50 ?_
            refine lv_imul hx hb dX10_readNumber_53 ?_
            refine lv_aload_n hx hb dX10_readNumber_54 rfl (lv_at hl 0 rfl) ?_
            refine va_get (D := gD G) (ci := 11) (v := .ref ty) (C := RX10) (T := TX10) (N := 6) hx hb hts (fun _ h9 => (List.mem_cons_of_mem _ (List.mem_append_right _ (List.mem_append_left _ h9)))) hown hK hP 0 rfl rfl 0 (by decide) (hts (.fieldLink RX10 14 "JudoHall$Tape" "bytes" "LJudoHall$Row;") (List.mem_cons_of_mem _ (List.mem_append_left _ (List.mem_of_getElem? (i := 5) rfl)))) (fun _ h9 => h9) rfl dX10_readNumber_55 ?_
            refine lv_aload_n hx hb dX10_readNumber_58 rfl (lv_at hl 0 rfl) ?_
            refine va_get (D := gD G) (ci := 11) (v := .int zb) (C := RX10) (T := TX10) (N := 6) hx hb hts (fun _ h9 => (List.mem_cons_of_mem _ (List.mem_append_right _ (List.mem_append_left _ h9)))) hown hK hP 0 rfl rfl 2 (by decide) (hts (.fieldLink RX10 25 "JudoHall$Tape" "next" "I") (List.mem_cons_of_mem _ (List.mem_append_left _ (List.mem_of_getElem? (i := 1) rfl)))) (fun _ h9 => h9) rfl dX10_readNumber_59 ?_
            refine vp_callSi (va_Run.run (va_runV (As := [.int zb]) (rest := [.int (10 * ze), .ref tp]) ⟨hx, hb, hml, hown, hts⟩ (c_Row_get l G ty ty2 3000 fy zb (by decide)) (cwV 1 hts (gdV (List.mem_cons_of_mem _ (List.mem_append_left _ (List.mem_of_getElem? (i := 6) rfl))) (List.mem_cons_of_mem _ (List.mem_append_left _ (List.mem_of_getElem? (i := 7) rfl))) (List.mem_cons_of_mem _ (List.mem_append_left _ (List.mem_of_getElem? (i := 8) rfl))) (List.mem_cons_of_mem _ (List.mem_append_left _ (List.mem_of_getElem? (i := 9) rfl))) (fun w9 h9 => ⟨(List.mem_cons_of_mem _ (List.mem_append_right _ (List.mem_append_right _ (List.mem_append_left _ h9)))), gd_c_Row_get w9 h9⟩)) rfl rfl rfl kVX9_get ⟨Nat.le_of_ble_eq_true rfl, Nat.le_of_ble_eq_true rfl⟩) (preV_p (As := [.int zb]) (hP.sub (ws' := [(ty, .inr (10, [.ref ty2])), (ty2, .inl (gI G, 3000, .inl fy))]) [1, 2] rfl) hB rfl rfl) rfl rfl hl.1 rfl (lv_room (Nat.le_of_ble_eq_true rfl)) dX10_readNumber_62 ⟨Nat.le_of_ble_eq_true rfl, Nat.le_of_ble_eq_true rfl⟩)) (fun r_8 hr_8 => ?_)
            subst hr_8
            refine lv_iadd hx hb dX10_readNumber_65 ?_
            refine lv_bipush (v := 48) hx hb dX10_readNumber_66 (by decide) ?_
            refine lv_isub hx hb dX10_readNumber_68 ?_
            refine va_put (D := gD G) (ci := 11) (v := .int (((10 * ze) + (rg fy 3000 zb)) - 48)) (ty := tyX10 5) (C := RX10) (T := TX10) (N := 6) hx hb hts (fun _ h9 => (List.mem_cons_of_mem _ (List.mem_append_right _ (List.mem_append_left _ h9)))) tyX10 tyX10_ok nmX10 hown hK hP hD hS 0 rfl rfl 5 (by decide) (hts (.fieldLink RX10 61 "JudoHall$Tape" "value" "I") (List.mem_cons_of_mem _ (List.mem_append_left _ (List.mem_of_getElem? (i := 0) rfl)))) (fun _ h9 => h9) rfl (tyX10_ok 5 (by decide)) rfl rfl (Nat.le_of_ble_eq_true rfl) dX10_readNumber_69 (fun H locs hP hD hS => ?_)
            have hP : va_P (gD G) vwCl [(tp, .inr (11, [.ref ty, .int ta, .int zb, .int tc, .int td, .int (((10 * ze) + (rg fy 3000 zb)) - 48)])), (ty, .inr (10, [.ref ty2])), (ty2, .inl (gI G, 3000, .inl fy))] H := hP
            have hD : va_D A [(tp, .inr (11, [.ref ty, .int ta, .int zb, .int tc, .int td, .int (((10 * ze) + (rg fy 3000 zb)) - 48)])), (ty, .inr (10, [.ref ty2])), (ty2, .inl (gI G, 3000, .inl fy))] := hD
            refine lv_aload_n hx hb dX10_readNumber_72 rfl (lv_at hl 0 rfl) ?_
            refine lv_dup hx hb dX10_readNumber_73 rfl ?_
            refine va_get (D := gD G) (ci := 11) (v := .int zb) (C := RX10) (T := TX10) (N := 6) hx hb hts (fun _ h9 => (List.mem_cons_of_mem _ (List.mem_append_right _ (List.mem_append_left _ h9)))) hown hK hP 0 rfl rfl 2 (by decide) (hts (.fieldLink RX10 25 "JudoHall$Tape" "next" "I") (List.mem_cons_of_mem _ (List.mem_append_left _ (List.mem_of_getElem? (i := 1) rfl)))) (fun _ h9 => h9) rfl dX10_readNumber_74 ?_
            refine lv_iconst (v := 1) hx hb dX10_readNumber_77 (by decide) ?_
            refine lv_iadd hx hb dX10_readNumber_78 ?_
            refine va_put (D := gD G) (ci := 11) (v := .int (zb + 1)) (ty := tyX10 2) (C := RX10) (T := TX10) (N := 6) hx hb hts (fun _ h9 => (List.mem_cons_of_mem _ (List.mem_append_right _ (List.mem_append_left _ h9)))) tyX10 tyX10_ok nmX10 hown hK hP hD hS 0 rfl rfl 2 (by decide) (hts (.fieldLink RX10 25 "JudoHall$Tape" "next" "I") (List.mem_cons_of_mem _ (List.mem_append_left _ (List.mem_of_getElem? (i := 1) rfl)))) (fun _ h9 => h9) rfl (tyX10_ok 2 (by decide)) rfl rfl (Nat.le_of_ble_eq_true rfl) dX10_readNumber_79 (fun H locs hP hD hS => ?_)
            have hP : va_P (gD G) vwCl [(tp, .inr (11, [.ref ty, .int ta, .int (zb + 1), .int tc, .int td, .int (((10 * ze) + (rg fy 3000 zb)) - 48)])), (ty, .inr (10, [.ref ty2])), (ty2, .inl (gI G, 3000, .inl fy))] H := hP
            have hD : va_D A [(tp, .inr (11, [.ref ty, .int ta, .int (zb + 1), .int tc, .int td, .int (((10 * ze) + (rg fy 3000 zb)) - 48)])), (ty, .inr (10, [.ref ty2])), (ty2, .inl (gI G, 3000, .inl fy))] := hD
            refine lv_goto (tgt := 5) hx hb dX10_readNumber_82 (by decide) ?_
            exact ih5 (zb + 1) (((10 * ze) + (rg fy 3000 zb)) - 48) (by omega)  _ _ _ (lv_sub hl [0] rfl) (hP.sub [0, 1, 2] rfl) (hD.sub [0, 1, 2] (by decide) rfl) hS
  exact hloop5 (((ta.toInt - tb.toInt).toNat) + 1) tb 0 (Nat.lt_succ_self _)  _ _ _ (lv_sub hl [0] rfl) hP hD hS
