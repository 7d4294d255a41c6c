def rg (f : Nat → Int32) (n : Nat) (i : Int32) : Int32 := if i < 0 then -1 else if nI n ≤ i then -1 else f i.toNatClampNeg
def rs (f : Nat → Int32) (n : Nat) (i x : Int32) : Nat → Int32 := if i < 0 then f else if nI n ≤ i then f else upd f i.toNatClampNeg x
theorem gx_ix {i : Int32} {n : Nat} (hn : n < 2 ^ 31) (h0 : ¬ i < 0) (h1 : ¬ nI n ≤ i) : vp_in i n := by
  obtain ⟨j, hj, rfl⟩ := nI_of h0
  exact vp_in_nI (Nat.not_le.mp (fun h => h1 (nI_le h hj))) hn
def wo_c_Row_get : List Cond := [.fieldLink RX9 15 "JudoHall$Row" "cells" "[I"]
def wq_c_Row_get : List Cond := .code yX9_get cX9_get 2 (some .int) :: (wo_c_Row_get ++ (wsX90 ++ []))
theorem gd_c_Row_get : ∀ w ∈ wq_c_Row_get, Gd w := List.forall_mem_cons.mpr ⟨Or.inl rfl, List.forall_mem_append.mpr ⟨gdl wo_c_Row_get (by decide +kernel), (List.forall_mem_append.mpr ⟨gd_wsX90, (fun _ h => absurd h List.not_mem_nil)⟩)⟩⟩
theorem in_c_Row_get : ∀ w ∈ wq_c_Row_get, w ∈ lw_tbl := List.forall_mem_cons.mpr ⟨List.mem_of_getElem? (i := 645) (by decide +kernel), List.forall_mem_append.mpr ⟨inT wo_c_Row_get [209] (by decide +kernel), (List.forall_mem_append.mpr ⟨in_wsX90, (fun _ h => absurd h List.not_mem_nil)⟩)⟩⟩
set_option maxHeartbeats 4000000 in
set_option maxRecDepth 100000 in
/-- Row.get -/
theorem c_Row_get (l : Launch) (G : gG) (h0 : Nat) (a0 : Nat) (n : Nat) (f : Nat → Int32) (i : Int32) (hn : n < 2 ^ 31) : Met l yX9_get wq_c_Row_get ({ frames := 0, cells := 0, slots := 0, locals := 0 }) (va_Pc [.ref h0, .int i] (pP G [(h0, .inr (10, [.ref a0])), (a0, .inl (gI G, n, .inl f))])) (vp_Si (fun r : Int32 => r = rg f n i)) 0 0 (fun _ => False) := by
  refine Met.ofW (cc := cX9_get) (maxL := 2) (ret := (some .int)) (by decide) rfl ?_
  intro p e s m args below meth c s₁ B hml hv
  obtain ⟨rfl, hP, hB⟩ := hv
  have hx := B.exec
  have hb := B.bytes
  have hr := B.returns
  have hts := atoms_spec (ws := wq_c_Row_get) B.pre
  have hown : s.vm.findClass RX9 = some m.cls := findClass_of_methodNamed B.named
  have hlocks := B.notSynchronized
  have hK := hB.1
  have hP : va_P (gD G) vwCl [(h0, .inr (10, [.ref a0])), (a0, .inl (gI G, n, .inl f))] s.heap := hP
  have hl := lv_entry ([.ref h0, .int i]) (n := 2) (Nat.le_of_ble_eq_true rfl)
  rw [lg_entry_eq]
  generalize (lg_sl ([.ref h0, .int i]) ++ List.replicate (2 - (lg_sl ([.ref h0, .int i])).length) Slot.unset).toArray = ls at hl ⊢
  have hl : lv_has ls 2 [(0, .ref h0), (1, .int i)] := hl
  refine lv_iload_n hx hb dX9_get_0 rfl (lv_at hl 1 rfl) ?_
  refine lv_if_lt (tgt := 22) hx hb dX9_get_1 (by decide) (fun c_1 => ?_) (fun c_1 => ?_)
  · skip
    refine lv_iconst (v := (-1)) hx hb dX9_get_22 (by decide) ?_
    exact W.iret (v := (-1)) hx hb hr (fun t ht hW => ⟨_, rfl, by unfold rg; rw [if_pos c_1], ht⟩) (fun q h => absurd h List.not_mem_nil) dX9_get_23
  · skip
    refine lv_iload_n hx hb dX9_get_4 rfl (lv_at hl 1 rfl) ?_
    refine lv_aload_n hx hb dX9_get_5 rfl (lv_at hl 0 rfl) ?_
    refine va_get (D := gD G) (ci := 10) (v := .ref a0) (C := RX9) (T := TX9) (N := 1) hx hb hts (fun _ h9 => (List.mem_cons_of_mem _ (List.mem_append_right _ (List.mem_append_left _ h9)))) hown hK hP 0 rfl rfl 0 (by decide) (hts (.fieldLink RX9 15 "JudoHall$Row" "cells" "[I") (List.mem_cons_of_mem _ (List.mem_append_left _ (List.mem_of_getElem? (i := 0) rfl)))) (fun _ h9 => h9) rfl dX9_get_6 ?_
    refine va_alen (D := gD G) (v := (nI n)) hx hb hK hP 1 0 rfl rfl (rfl) dX9_get_9 ?_
    refine lv_icmp_ge (tgt := 22) hx hb dX9_get_10 (by decide) (fun c_2 => ?_) (fun c_2 => ?_)
    · skip
      refine lv_iconst (v := (-1)) hx hb dX9_get_22 (by decide) ?_
      exact W.iret (v := (-1)) hx hb hr (fun t ht hW => ⟨_, rfl, by unfold rg; rw [if_neg c_1, if_pos c_2], ht⟩) (fun q h => absurd h List.not_mem_nil) dX9_get_23
    · skip
      refine lv_aload_n hx hb dX9_get_13 rfl (lv_at hl 0 rfl) ?_
      refine va_get (D := gD G) (ci := 10) (v := .ref a0) (C := RX9) (T := TX9) (N := 1) hx hb hts (fun _ h9 => (List.mem_cons_of_mem _ (List.mem_append_right _ (List.mem_append_left _ h9)))) hown hK hP 0 rfl rfl 0 (by decide) (hts (.fieldLink RX9 15 "JudoHall$Row" "cells" "[I") (List.mem_cons_of_mem _ (List.mem_append_left _ (List.mem_of_getElem? (i := 0) rfl)))) (fun _ h9 => h9) rfl dX9_get_14 ?_
      refine lv_iload_n hx hb dX9_get_17 rfl (lv_at hl 1 rfl) ?_
      refine va_iald (D := gD G) hx hb hK hP 1 0 rfl rfl (gx_ix hn c_1 c_2) dX9_get_18 ?_
      refine lv_goto (tgt := 23) hx hb dX9_get_19 (by decide) ?_
      exact W.iret (v := (f i.toNatClampNeg)) hx hb hr (fun t ht hW => ⟨_, rfl, by unfold rg; rw [if_neg c_1, if_neg c_2], ht⟩) (fun q h => absurd h List.not_mem_nil) dX9_get_23

def wo_c_Book_at : List Cond := [.fieldLink RX1 13 "JudoHall$Book" "cells" "[I"]
def wq_c_Book_at : List Cond := .code yX1_at cX1_at 2 (some .int) :: (wo_c_Book_at ++ (wsX10 ++ []))
theorem gd_c_Book_at : ∀ w ∈ wq_c_Book_at, Gd w := List.forall_mem_cons.mpr ⟨Or.inl rfl, List.forall_mem_append.mpr ⟨gdl wo_c_Book_at (by decide +kernel), (List.forall_mem_append.mpr ⟨gd_wsX10, (fun _ h => absurd h List.not_mem_nil)⟩)⟩⟩
theorem in_c_Book_at : ∀ w ∈ wq_c_Book_at, w ∈ lw_tbl := List.forall_mem_cons.mpr ⟨List.mem_of_getElem? (i := 625) (by decide +kernel), List.forall_mem_append.mpr ⟨inT wo_c_Book_at [225] (by decide +kernel), (List.forall_mem_append.mpr ⟨in_wsX10, (fun _ h => absurd h List.not_mem_nil)⟩)⟩⟩
set_option maxHeartbeats 4000000 in
set_option maxRecDepth 100000 in
/-- Book.at -/
theorem c_Book_at (l : Launch) (G : gG) (h0 : Nat) (a0 : Nat) (n : Nat) (f : Nat → Int32) (v1 : Value) (v2 : Value) (v3 : Value) (v4 : Value) (v5 : Value) (i : Int32) (hn : n < 2 ^ 31) : Met l yX1_at wq_c_Book_at ({ frames := 0, cells := 0, slots := 0, locals := 0 }) (va_Pc [.ref h0, .int i] (pP G [(h0, .inr (2, [.ref a0, v1, v2, v3, v4, v5])), (a0, .inl (gI G, n, .inl f))])) (vp_Si (fun r : Int32 => r = rg f n i)) 0 0 (fun _ => False) := by
  refine Met.ofW (cc := cX1_at) (maxL := 2) (ret := (some .int)) (by decide) rfl ?_
  intro p e s m args below meth c s₁ B hml hv
  obtain ⟨rfl, hP, hB⟩ := hv
  have hx := B.exec
  have hb := B.bytes
  have hr := B.returns
  have hts := atoms_spec (ws := wq_c_Book_at) B.pre
  have hown : s.vm.findClass RX1 = some m.cls := findClass_of_methodNamed B.named
  have hlocks := B.notSynchronized
  have hK := hB.1
  have hP : va_P (gD G) vwCl [(h0, .inr (2, [.ref a0, v1, v2, v3, v4, v5])), (a0, .inl (gI G, n, .inl f))] s.heap := hP
  have hl := lv_entry ([.ref h0, .int i]) (n := 2) (Nat.le_of_ble_eq_true rfl)
  rw [lg_entry_eq]
  generalize (lg_sl ([.ref h0, .int i]) ++ List.replicate (2 - (lg_sl ([.ref h0, .int i])).length) Slot.unset).toArray = ls at hl ⊢
  have hl : lv_has ls 2 [(0, .ref h0), (1, .int i)] := hl
  refine lv_iload_n hx hb dX1_at_0 rfl (lv_at hl 1 rfl) ?_
  refine lv_if_lt (tgt := 22) hx hb dX1_at_1 (by decide) (fun c_1 => ?_) (fun c_1 => ?_)
  · skip
    refine lv_iconst (v := (-1)) hx hb dX1_at_22 (by decide) ?_
    exact W.iret (v := (-1)) hx hb hr (fun t ht hW => ⟨_, rfl, by unfold rg; rw [if_pos c_1], ht⟩) (fun q h => absurd h List.not_mem_nil) dX1_at_23
  · skip
    refine lv_iload_n hx hb dX1_at_4 rfl (lv_at hl 1 rfl) ?_
    refine lv_aload_n hx hb dX1_at_5 rfl (lv_at hl 0 rfl) ?_
    refine va_get (D := gD G) (ci := 2) (v := .ref a0) (C := RX1) (T := TX1) (N := 6) hx hb hts (fun _ h9 => (List.mem_cons_of_mem _ (List.mem_append_right _ (List.mem_append_left _ h9)))) hown hK hP 0 rfl rfl 0 (by decide) (hts (.fieldLink RX1 13 "JudoHall$Book" "cells" "[I") (List.mem_cons_of_mem _ (List.mem_append_left _ (List.mem_of_getElem? (i := 0) rfl)))) (fun _ h9 => h9) rfl dX1_at_6 ?_
    refine va_alen (D := gD G) (v := (nI n)) hx hb hK hP 1 0 rfl rfl (rfl) dX1_at_9 ?_
    refine lv_icmp_ge (tgt := 22) hx hb dX1_at_10 (by decide) (fun c_2 => ?_) (fun c_2 => ?_)
    · skip
      refine lv_iconst (v := (-1)) hx hb dX1_at_22 (by decide) ?_
      exact W.iret (v := (-1)) hx hb hr (fun t ht hW => ⟨_, rfl, by unfold rg; rw [if_neg c_1, if_pos c_2], ht⟩) (fun q h => absurd h List.not_mem_nil) dX1_at_23
    · skip
      refine lv_aload_n hx hb dX1_at_13 rfl (lv_at hl 0 rfl) ?_
      refine va_get (D := gD G) (ci := 2) (v := .ref a0) (C := RX1) (T := TX1) (N := 6) hx hb hts (fun _ h9 => (List.mem_cons_of_mem _ (List.mem_append_right _ (List.mem_append_left _ h9)))) hown hK hP 0 rfl rfl 0 (by decide) (hts (.fieldLink RX1 13 "JudoHall$Book" "cells" "[I") (List.mem_cons_of_mem _ (List.mem_append_left _ (List.mem_of_getElem? (i := 0) rfl)))) (fun _ h9 => h9) rfl dX1_at_14 ?_
      refine lv_iload_n hx hb dX1_at_17 rfl (lv_at hl 1 rfl) ?_
      refine va_iald (D := gD G) hx hb hK hP 1 0 rfl rfl (gx_ix hn c_1 c_2) dX1_at_18 ?_
      refine lv_goto (tgt := 23) hx hb dX1_at_19 (by decide) ?_
      exact W.iret (v := (f i.toNatClampNeg)) hx hb hr (fun t ht hW => ⟨_, rfl, by unfold rg; rw [if_neg c_1, if_neg c_2], ht⟩) (fun q h => absurd h List.not_mem_nil) dX1_at_23

def wo_c_Book_ofClass : List Cond := []
def wq_c_Book_ofClass : List Cond := .code yX1_ofClass cX1_ofClass 2 (some .int) :: (wo_c_Book_ofClass ++ [])
theorem gd_c_Book_ofClass : ∀ w ∈ wq_c_Book_ofClass, Gd w := List.forall_mem_cons.mpr ⟨Or.inl rfl, List.forall_mem_append.mpr ⟨gdl wo_c_Book_ofClass (by decide +kernel), (fun _ h => absurd h List.not_mem_nil)⟩⟩
theorem in_c_Book_ofClass : ∀ w ∈ wq_c_Book_ofClass, w ∈ lw_tbl := List.forall_mem_cons.mpr ⟨List.mem_of_getElem? (i := 220) (by decide +kernel), List.forall_mem_append.mpr ⟨inT wo_c_Book_ofClass [] (by decide +kernel), (fun _ h => absurd h List.not_mem_nil)⟩⟩
set_option maxHeartbeats 4000000 in
set_option maxRecDepth 100000 in
theorem c_Book_ofClass (l : Launch) (G : gG) (x : Int32) (y : Int32) : Met l yX1_ofClass wq_c_Book_ofClass ({ frames := 0, cells := 0, slots := 0, locals := 0 }) (va_Pc [.int x, .int y] (pP G [])) (vp_Si (fun r : Int32 => r = 4 + x * 36 + y)) 0 0 (fun _ => False) := by
  refine Met.ofW (cc := cX1_ofClass) (maxL := 2) (ret := (some .int)) (by decide) rfl ?_
  intro p e s m args below meth c s₁ B hml hv
  obtain ⟨rfl, hP, hB⟩ := hv
  have hx := B.exec
  have hb := B.bytes
  have hr := B.returns
  have hts := atoms_spec (ws := wq_c_Book_ofClass) B.pre
  have hown : s.vm.findClass RX1 = some m.cls := findClass_of_methodNamed B.named
  have hlocks := B.notSynchronized
  have hK := hB.1
  have hP : va_P (gD G) vwCl [] s.heap := hP
  have hl := lv_entry ([.int x, .int y]) (n := 2) (Nat.le_of_ble_eq_true rfl)
  rw [lg_entry_eq]
  generalize (lg_sl ([.int x, .int y]) ++ List.replicate (2 - (lg_sl ([.int x, .int y])).length) Slot.unset).toArray = ls at hl ⊢
  have hl : lv_has ls 2 [(0, .int x), (1, .int y)] := hl
  refine lv_iconst (v := 4) hx hb dX1_ofClass_0 (by decide) ?_
  refine lv_iload_n hx hb dX1_ofClass_1 rfl (lv_at hl 0 rfl) ?_
  refine lv_bipush (v := 36) hx hb dX1_ofClass_2 (by decide) ?_
  refine lv_imul hx hb dX1_ofClass_4 ?_
  refine lv_iadd hx hb dX1_ofClass_5 ?_
  refine lv_iload_n hx hb dX1_ofClass_6 rfl (lv_at hl 1 rfl) ?_
  refine lv_iadd hx hb dX1_ofClass_7 ?_
  exact W.iret (v := ((4 + (x * 36)) + y)) hx hb hr (fun t ht hW => ⟨_, rfl, rfl, ht⟩) (fun q h => absurd h List.not_mem_nil) dX1_ofClass_8

def wo_c_Book_ofMat : List Cond := []
def wq_c_Book_ofMat : List Cond := .code yX1_ofMat cX1_ofMat 2 (some .int) :: (wo_c_Book_ofMat ++ [])
theorem gd_c_Book_ofMat : ∀ w ∈ wq_c_Book_ofMat, Gd w := List.forall_mem_cons.mpr ⟨Or.inl rfl, List.forall_mem_append.mpr ⟨gdl wo_c_Book_ofMat (by decide +kernel), (fun _ h => absurd h List.not_mem_nil)⟩⟩
theorem in_c_Book_ofMat : ∀ w ∈ wq_c_Book_ofMat, w ∈ lw_tbl := List.forall_mem_cons.mpr ⟨List.mem_of_getElem? (i := 224) (by decide +kernel), List.forall_mem_append.mpr ⟨inT wo_c_Book_ofMat [] (by decide +kernel), (fun _ h => absurd h List.not_mem_nil)⟩⟩
set_option maxHeartbeats 4000000 in
set_option maxRecDepth 100000 in
theorem c_Book_ofMat (l : Launch) (G : gG) (x : Int32) (y : Int32) : Met l yX1_ofMat wq_c_Book_ofMat ({ frames := 0, cells := 0, slots := 0, locals := 0 }) (va_Pc [.int x, .int y] (pP G [])) (vp_Si (fun r : Int32 => r = 2004 + x * 21 + y)) 0 0 (fun _ => False) := by
  refine Met.ofW (cc := cX1_ofMat) (maxL := 2) (ret := (some .int)) (by decide) rfl ?_
  intro p e s m args below meth c s₁ B hml hv
  obtain ⟨rfl, hP, hB⟩ := hv
  have hx := B.exec
  have hb := B.bytes
  have hr := B.returns
  have hts := atoms_spec (ws := wq_c_Book_ofMat) B.pre
  have hown : s.vm.findClass RX1 = some m.cls := findClass_of_methodNamed B.named
  have hlocks := B.notSynchronized
  have hK := hB.1
  have hP : va_P (gD G) vwCl [] s.heap := hP
  have hl := lv_entry ([.int x, .int y]) (n := 2) (Nat.le_of_ble_eq_true rfl)
  rw [lg_entry_eq]
  generalize (lg_sl ([.int x, .int y]) ++ List.replicate (2 - (lg_sl ([.int x, .int y])).length) Slot.unset).toArray = ls at hl ⊢
  have hl : lv_has ls 2 [(0, .int x), (1, .int y)] := hl
  refine lv_sipush (v := 2004) hx hb dX1_ofMat_0 (by decide) ?_
  refine lv_iload_n hx hb dX1_ofMat_3 rfl (lv_at hl 0 rfl) ?_
  refine lv_bipush (v := 21) hx hb dX1_ofMat_4 (by decide) ?_
  refine lv_imul hx hb dX1_ofMat_6 ?_
  refine lv_iadd hx hb dX1_ofMat_7 ?_
  refine lv_iload_n hx hb dX1_ofMat_8 rfl (lv_at hl 1 rfl) ?_
  refine lv_iadd hx hb dX1_ofMat_9 ?_
  exact W.iret (v := ((2004 + (x * 21)) + y)) hx hb hr (fun t ht hW => ⟨_, rfl, rfl, ht⟩) (fun q h => absurd h List.not_mem_nil) dX1_ofMat_10

def fl (n : Nat) (x : Int32) (f : Nat → Int32) : Nat → Int32 := fun j => if j < n then x else f j
theorem fl_0 (x : Int32) (f : Nat → Int32) : fl 0 x f = f := by funext j; simp [fl]
theorem fl_s (k : Nat) (x : Int32) (f : Nat → Int32) : upd (fl k x f) k x = fl (k + 1) x f := by
  funext j
  unfold upd fl
  by_cases h : j = k
  · subst h; simp
  · by_cases h2 : j < k
    · rw [if_neg h, if_pos h2, if_pos (by omega)]
    · rw [if_neg h, if_neg h2, if_neg (by omega)]

def wo_c_fill : List Cond := []
def wq_c_fill : List Cond := .code yJ7_fill_53178 cJ7_fill_53178 4 none :: (wo_c_fill ++ [])
theorem gd_c_fill : ∀ w ∈ wq_c_fill, Gd w := List.forall_mem_cons.mpr ⟨Or.inl rfl, List.forall_mem_append.mpr ⟨gdl wo_c_fill (by decide +kernel), (fun _ h => absurd h List.not_mem_nil)⟩⟩
theorem in_c_fill : ∀ w ∈ wq_c_fill, w ∈ lw_tbl := List.forall_mem_cons.mpr ⟨List.mem_of_getElem? (i := 208) (by decide +kernel), List.forall_mem_append.mpr ⟨inT wo_c_fill [] (by decide +kernel), (fun _ h => absurd h List.not_mem_nil)⟩⟩
set_option maxHeartbeats 4000000 in
set_option maxRecDepth 100000 in
theorem c_fill (l : Launch) (G : gG) (a0 : Nat) (n : Nat) (f : Nat → Int32) (x : Int32) (sz : Nat) (hn : n < 2 ^ 31) : Met l yJ7_fill_53178 wq_c_fill ({ frames := 0, cells := 0, slots := 0, locals := 0 }) (va_Pc [.ref a0, .int x] (mP G [(a0, .inl (gI G, n, .inl f))] sz)) (va_Qv (fun _ : Unit => True) (fun (_ : Unit) (t : State) => va_P (gD G) vwCl [(a0, .inl (gI G, n, .inl (fl n x f)))] t.heap ∧ va_D (va_A [(a0, .inl (gI G, n, .inl f))] sz) [(a0, .inl (gI G, n, .inl (fl n x f)))]) (va_A [(a0, .inl (gI G, n, .inl f))] sz)) 0 0 (va_A [(a0, .inl (gI G, n, .inl f))] sz) := by
  refine Met.ofW (cc := cJ7_fill_53178) (maxL := 4) (ret := none) (by decide) rfl ?_
  intro p e s m args below meth c s₁ B hml hv
  obtain ⟨rfl, hsz, hP, hB, hD0⟩ := hv
  have hx := B.exec
  have hb := B.bytes
  have hr := B.returns
  have hts := atoms_spec (ws := wq_c_fill) B.pre
  have hown : s.vm.findClass RJ7 = some m.cls := findClass_of_methodNamed B.named
  have hlocks := B.notSynchronized
  have hK := hB.1
  subst hsz
  have hD := hD0.self (sz := s.heap.size)
  generalize hAe : va_A [(a0, .inl (gI G, n, .inl f))] s.heap.size = A at hD ⊢
  have hA : ∀ q : Nat, s.heap.size ≤ q → A q := fun q h => by rw [← hAe]; exact Or.inr h
  have hS : va_S A s.heap s.heap [] := va_S.rf
  have hP : va_P (gD G) vwCl [(a0, .inl (gI G, n, .inl f))] s.heap := hP
  have hD : va_D A [(a0, .inl (gI G, n, .inl f))] := hD
  have hl := lv_entry ([.ref a0, .int x]) (n := 4) (Nat.le_of_ble_eq_true rfl)
  rw [lg_entry_eq]
  generalize (lg_sl ([.ref a0, .int x]) ++ List.replicate (4 - (lg_sl ([.ref a0, .int x])).length) Slot.unset).toArray = ls at hl ⊢
  have hl : lv_has ls 4 [(0, .ref a0), (1, .int x)] := hl
  refine lv_iconst (v := 0) hx hb dJ7_fill_53178_0 (by decide) ?_
  refine lv_istore_n (lv' := [(2, .int 0), (0, .ref a0), (1, .int x)]) hx hb dJ7_fill_53178_1 rfl hl (by decide) rfl (fun ls hl => ?_)
  refine lv_aload_n hx hb dJ7_fill_53178_2 rfl (lv_at hl 1 rfl) ?_
  refine va_alen (D := gD G) (v := (nI n)) hx hb hK hP 0 0 rfl rfl (rfl) dJ7_fill_53178_3 ?_
  refine lv_istore_n (lv' := [(3, .int (nI n)), (2, .int 0), (0, .ref a0), (1, .int x)]) hx hb dJ7_fill_53178_4 rfl hl (by decide) rfl (fun ls hl => ?_)
  have hloop5 : ∀ (k9 : Nat) (k : Nat), n - k < k9 → (k ≤ n) → ∀ (H : Heap) (locs : List Loc) (ls : Array Slot), lv_has ls 4 [(2, .int (nI k)), (0, .ref a0), (1, .int x), (3, .int (nI n))] → va_P (gD G) vwCl [(a0, .inl (gI G, n, .inl (fl k x f)))] H → va_D A [(a0, .inl (gI G, n, .inl (fl k x f)))] → va_S A s.heap H locs → W p l e (headSpec wq_c_fill ({ frames := 0, cells := 0, slots := 0, locals := 0 })).room s m [.ref a0, .int x].toArray below meth c H locs 0 0 (MQ below (va_Qv (fun _ : Unit => True) (fun (_ : Unit) (t : State) => va_P (gD G) vwCl [(a0, .inl (gI G, n, .inl (fl n x f)))] t.heap ∧ va_D A [(a0, .inl (gI G, n, .inl (fl n x f)))]) A) [.ref a0, .int x].toArray s 0 0 A) (F0 m 5 ls []) := by
    intro k9
    induction k9 with
    | zero => intro k h9; exact absurd h9 (Nat.not_lt_zero _)
    | succ k9 ih5 =>
      intro k hm5 hkn H locs ls hl hP hD hS
      refine lv_iload_n hx hb dJ7_fill_53178_5 rfl (lv_at hl 0 rfl) ?_
      refine lv_iload_n hx hb dJ7_fill_53178_6 rfl (lv_at hl 3 rfl) ?_
      by_cases hlt : k < n
      · refine lv_icmp_ge (tgt := 20) hx hb dJ7_fill_53178_7 (by decide) (fun c9 => absurd c9 (nI_ge hlt hn)) (fun _ => ?_)
        refine lv_aload_n hx hb dJ7_fill_53178_10 rfl (lv_at hl 1 rfl) ?_
        refine lv_iload_n hx hb dJ7_fill_53178_11 rfl (lv_at hl 0 rfl) ?_
        refine lv_iload_n hx hb dJ7_fill_53178_12 rfl (lv_at hl 2 rfl) ?_
        refine va_iast (D := gD G) hx hb hK hP hD hS 0 0 rfl rfl (vp_in_nI hlt hn) dJ7_fill_53178_13 (fun H locs hP hD hS => ?_)
        have e_1 : upd (fl k x f) ((nI k).toNatClampNeg) x = fl (k + 1) x f := by rw [nI_clamp (by omega), fl_s]
        have hP : va_P (gD G) vwCl [(a0, .inl (gI G, n, .inl (upd (fl k x f) ((nI k).toNatClampNeg) x)))] H := hP
        have hD : va_D A [(a0, .inl (gI G, n, .inl (upd (fl k x f) ((nI k).toNatClampNeg) x)))] := hD
        rw [e_1] at hP hD
        refine lv_iinc (v := (nI (k + 1))) (lv' := [(2, .int (nI (k + 1))), (0, .ref a0), (1, .int x), (3, .int (nI n))]) hx hb dJ7_fill_53178_14 hl (k := 0) rfl (nI_1 k) (by decide) rfl (fun ls hl => ?_)
        refine lv_goto (tgt := 5) hx hb dJ7_fill_53178_17 (by decide) ?_
        exact ih5 (k + 1) (by omega) (by omega) _ _ _ (lv_sub hl [0, 1, 2, 3] rfl) (hP.sub [0] rfl) (hD.sub [0] (by decide) rfl) hS
      · refine lv_icmp_ge (tgt := 20) hx hb dJ7_fill_53178_7 (by decide) (fun _ => ?_) (fun c9 => absurd (nI_le (Nat.not_lt.mp hlt) (by omega)) c9)
        have ek : k = n := by omega
        subst ek
        have hP9 := hP.sub (ws' := [(a0, .inl (gI G, k, .inl (fl k x f)))]) [0] rfl
        have hD9 := hD.sub (ws' := [(a0, .inl (gI G, k, .inl (fl k x f)))]) [0] (by decide) rfl
        exact W.vret hx hb hr (fun t ht hW => ⟨⟨(), rfl, trivial, by rw [ht]; exact hP9, hD9⟩, hS.F ht⟩) hS.2.2 dJ7_fill_53178_20
  exact hloop5 ((n - 0) + 1) 0 (Nat.lt_succ_self _) (Nat.zero_le _) _ _ _ (lv_sub hl [1, 2, 3, 0] rfl) (by rw [fl_0]; exact hP) (by rw [fl_0]; exact hD) hS

def wo_c_Row_fill : List Cond := [.fieldLink RX9 15 "JudoHall$Row" "cells" "[I", .methodLink RX9 21 yJ7_fill_53178, .static yJ7_fill_53178, .initialized RJ7]
def wq_c_Row_fill : List Cond := .code yX9_fill cX9_fill 2 none :: (wo_c_Row_fill ++ (wsX90 ++ (wq_c_fill ++ [])))
theorem gd_c_Row_fill : ∀ w ∈ wq_c_Row_fill, Gd w := List.forall_mem_cons.mpr ⟨Or.inl rfl, List.forall_mem_append.mpr ⟨gdl wo_c_Row_fill (by decide +kernel), (List.forall_mem_append.mpr ⟨gd_wsX90, (List.forall_mem_append.mpr ⟨gd_c_fill, (fun _ h => absurd h List.not_mem_nil)⟩)⟩)⟩⟩
theorem in_c_Row_fill : ∀ w ∈ wq_c_Row_fill, w ∈ lw_tbl := List.forall_mem_cons.mpr ⟨List.mem_of_getElem? (i := 1094) (by decide +kernel), List.forall_mem_append.mpr ⟨inT wo_c_Row_fill [209, 206, 207, 158] (by decide +kernel), (List.forall_mem_append.mpr ⟨in_wsX90, (List.forall_mem_append.mpr ⟨in_c_fill, (fun _ h => absurd h List.not_mem_nil)⟩)⟩)⟩⟩
set_option maxHeartbeats 4000000 in
set_option maxRecDepth 100000 in
theorem c_Row_fill (l : Launch) (G : gG) (h0 : Nat) (a0 : Nat) (n : Nat) (f : Nat → Int32) (x : Int32) (sz : Nat) (hn : n < 2 ^ 31) : Met l yX9_fill wq_c_Row_fill ({ frames := 1, cells := 0, slots := 0, locals := 23 }) (va_Pc [.ref h0, .int x] (mP G [(h0, .inr (10, [.ref a0])), (a0, .inl (gI G, n, .inl f))] sz)) (va_Qv (fun _ : Unit => True) (fun (_ : Unit) (t : State) => va_P (gD G) vwCl [(h0, .inr (10, [.ref a0])), (a0, .inl (gI G, n, .inl (fl n x f)))] t.heap ∧ va_D (va_A [(h0, .inr (10, [.ref a0])), (a0, .inl (gI G, n, .inl f))] sz) [(h0, .inr (10, [.ref a0])), (a0, .inl (gI G, n, .inl (fl n x f)))]) (va_A [(h0, .inr (10, [.ref a0])), (a0, .inl (gI G, n, .inl f))] sz)) 0 0 (va_A [(h0, .inr (10, [.ref a0])), (a0, .inl (gI G, n, .inl f))] sz) := by
  refine Met.ofW (cc := cX9_fill) (maxL := 2) (ret := none) (by decide) rfl ?_
  intro p e s m args below meth c s₁ B hml hv
  obtain ⟨rfl, hsz, hP, hB, hD0⟩ := hv
  have hx := B.exec
  have hb := B.bytes
  have hr := B.returns
  have hts := atoms_spec (ws := wq_c_Row_fill) B.pre
  have hown : s.vm.findClass RX9 = some m.cls := findClass_of_methodNamed B.named
  have hlocks := B.notSynchronized
  have hK := hB.1
  subst hsz
  have hD := hD0.self (sz := s.heap.size)
  generalize hAe : va_A [(h0, .inr (10, [.ref a0])), (a0, .inl (gI G, n, .inl f))] s.heap.size = A at hD ⊢
  have hA : ∀ q : Nat, s.heap.size ≤ q → A q := fun q h => by rw [← hAe]; exact Or.inr h
  have hS : va_S A s.heap s.heap [] := va_S.rf
  have hP : va_P (gD G) vwCl [(h0, .inr (10, [.ref a0])), (a0, .inl (gI G, n, .inl f))] s.heap := hP
  have hD : va_D A [(h0, .inr (10, [.ref a0])), (a0, .inl (gI G, n, .inl f))] := hD
  have hl := lv_entry ([.ref h0, .int x]) (n := 2) (Nat.le_of_ble_eq_true rfl)
  rw [lg_entry_eq]
  generalize (lg_sl ([.ref h0, .int x]) ++ List.replicate (2 - (lg_sl ([.ref h0, .int x])).length) Slot.unset).toArray = ls at hl ⊢
  have hl : lv_has ls 2 [(0, .ref h0), (1, .int x)] := hl
  refine lv_aload_n hx hb dX9_fill_0 rfl (lv_at hl 0 rfl) ?_
  refine va_get (D := gD G) (ci := 10) (v := .ref a0) (C := RX9) (T := TX9) (N := 1) hx hb hts (fun _ h9 => (List.mem_cons_of_mem _ (List.mem_append_right _ (List.mem_append_left _ h9)))) hown hK hP 0 rfl rfl 0 (by decide) (hts (.fieldLink RX9 15 "JudoHall$Row" "cells" "[I") (List.mem_cons_of_mem _ (List.mem_append_left _ (List.mem_of_getElem? (i := 0) rfl)))) (fun _ h9 => h9) rfl dX9_fill_1 ?_
  refine lv_iload_n hx hb dX9_fill_4 rfl (lv_at hl 1 rfl) ?_
  have hPc := hP.sub (ws' := [(a0, .inl (gI G, n, .inl f))]) [1] rfl
  have hDc := hD.sub (ws' := [(a0, .inl (gI G, n, .inl f))]) [1] (by decide) rfl
  have hFc := va_free (wc := [(a0, .inl (gI G, n, .inl f))]) hD hS hA [1] rfl
  refine va_callv (va_runS (As := [.ref a0, .int x]) (rest := []) ⟨hx, hb, hml, hown, hts⟩ (c_fill l G a0 n f x s.heap.size (hn)) (va_cwS 2 hts (gdS (List.mem_cons_of_mem _ (List.mem_append_left _ (List.mem_of_getElem? (i := 1) rfl))) (List.mem_cons_of_mem _ (List.mem_append_left _ (List.mem_of_getElem? (i := 2) rfl))) (List.mem_cons_of_mem _ (List.mem_append_left _ (List.mem_of_getElem? (i := 3) rfl))) (fun w9 h9 => ⟨(List.mem_cons_of_mem _ (List.mem_append_right _ (List.mem_append_right _ (List.mem_append_left _ h9)))), gd_c_fill w9 h9⟩)) rfl rfl rfl kSJ7_fill_53178 ⟨Nat.le_of_ble_eq_true rfl, Nat.le_of_ble_eq_true rfl⟩) (preS_m (As := [.ref a0, .int x]) hPc hB hDc) rfl rfl hl.1 rfl (lv_room (Nat.le_of_ble_eq_true rfl)) dX9_fill_5 ⟨Nat.le_of_ble_eq_true rfl, Nat.le_of_ble_eq_true rfl⟩) hS (fun q _ h => hFc q h) hFc (fun u t H1 locs ht hvm hw hB1 hz1 hk1 hS => ?_)
  obtain ⟨hP1, hD1⟩ := hB1
  rw [ht] at hP1
  obtain ⟨hP, hD⟩ := va_join (wr := [(h0, .inr (10, [.ref a0]))]) (w1 := [(a0, .inl (gI G, n, .inl (fl n x f)))]) hP hD [1] [0] rfl rfl (by decide) (by decide) hk1 hFc hP1 hD1
  generalize H1 = H at hP hS ⊢
  have hP : va_P (gD G) vwCl [(h0, .inr (10, [.ref a0])), (a0, .inl (gI G, n, .inl (fl n x f)))] H := hP
  have hD : va_D A [(h0, .inr (10, [.ref a0])), (a0, .inl (gI G, n, .inl (fl n x f)))] := hD
  refine W.eq (g2 := F0 m 8 ls []) rfl ?_
  have hP9 := hP.sub (ws' := [(h0, .inr (10, [.ref a0])), (a0, .inl (gI G, n, .inl (fl n x f)))]) [0, 1] rfl
  have hD9 := hD.sub (ws' := [(h0, .inr (10, [.ref a0])), (a0, .inl (gI G, n, .inl (fl n x f)))]) [0, 1] (by decide) rfl
  exact W.vret hx hb hr (fun t ht hW => ⟨⟨(), rfl, trivial, by rw [ht]; exact hP9, hD9⟩, hS.F ht⟩) hS.2.2 dX9_fill_8

def wo_c_Row_set : List Cond := [.fieldLink RX9 15 "JudoHall$Row" "cells" "[I"]
def wq_c_Row_set : List Cond := .code yX9_set cX9_set 3 none :: (wo_c_Row_set ++ (wsX90 ++ []))
theorem gd_c_Row_set : ∀ w ∈ wq_c_Row_set, Gd w := List.forall_mem_cons.mpr ⟨Or.inl rfl, List.forall_mem_append.mpr ⟨gdl wo_c_Row_set (by decide +kernel), (List.forall_mem_append.mpr ⟨gd_wsX90, (fun _ h => absurd h List.not_mem_nil)⟩)⟩⟩
theorem in_c_Row_set : ∀ w ∈ wq_c_Row_set, w ∈ lw_tbl := List.forall_mem_cons.mpr ⟨List.mem_of_getElem? (i := 600) (by decide +kernel), List.forall_mem_append.mpr ⟨inT wo_c_Row_set [209] (by decide +kernel), (List.forall_mem_append.mpr ⟨in_wsX90, (fun _ h => absurd h List.not_mem_nil)⟩)⟩⟩
set_option maxHeartbeats 4000000 in
set_option maxRecDepth 100000 in
theorem c_Row_set (l : Launch) (G : gG) (h0 : Nat) (a0 : Nat) (n : Nat) (f : Nat → Int32) (i : Int32) (x : Int32) (sz : Nat) (hn : n < 2 ^ 31) : Met l yX9_set wq_c_Row_set ({ frames := 0, cells := 0, slots := 0, locals := 0 }) (va_Pc [.ref h0, .int i, .int x] (mP G [(h0, .inr (10, [.ref a0])), (a0, .inl (gI G, n, .inl f))] sz)) (va_Qv (fun _ : Unit => True) (fun (_ : Unit) (t : State) => va_P (gD G) vwCl [(h0, .inr (10, [.ref a0])), (a0, .inl (gI G, n, .inl (rs f n i x)))] t.heap ∧ va_D (va_A [(h0, .inr (10, [.ref a0])), (a0, .inl (gI G, n, .inl f))] sz) [(h0, .inr (10, [.ref a0])), (a0, .inl (gI G, n, .inl (rs f n i x)))]) (va_A [(h0, .inr (10, [.ref a0])), (a0, .inl (gI G, n, .inl f))] sz)) 0 0 (va_A [(h0, .inr (10, [.ref a0])), (a0, .inl (gI G, n, .inl f))] sz) := by
  refine Met.ofW (cc := cX9_set) (maxL := 3) (ret := none) (by decide) rfl ?_
  intro p e s m args below meth c s₁ B hml hv
  obtain ⟨rfl, hsz, hP, hB, hD0⟩ := hv
  have hx := B.exec
  have hb := B.bytes
  have hr := B.returns
  have hts := atoms_spec (ws := wq_c_Row_set) B.pre
  have hown : s.vm.findClass RX9 = some m.cls := findClass_of_methodNamed B.named
  have hlocks := B.notSynchronized
  have hK := hB.1
  subst hsz
  have hD := hD0.self (sz := s.heap.size)
  generalize hAe : va_A [(h0, .inr (10, [.ref a0])), (a0, .inl (gI G, n, .inl f))] s.heap.size = A at hD ⊢
  have hA : ∀ q : Nat, s.heap.size ≤ q → A q := fun q h => by rw [← hAe]; exact Or.inr h
  have hS : va_S A s.heap s.heap [] := va_S.rf
  have hP : va_P (gD G) vwCl [(h0, .inr (10, [.ref a0])), (a0, .inl (gI G, n, .inl f))] s.heap := hP
  have hD : va_D A [(h0, .inr (10, [.ref a0])), (a0, .inl (gI G, n, .inl f))] := hD
  have hl := lv_entry ([.ref h0, .int i, .int x]) (n := 3) (Nat.le_of_ble_eq_true rfl)
  rw [lg_entry_eq]
  generalize (lg_sl ([.ref h0, .int i, .int x]) ++ List.replicate (3 - (lg_sl ([.ref h0, .int i, .int x])).length) Slot.unset).toArray = ls at hl ⊢
  have hl : lv_has ls 3 [(0, .ref h0), (1, .int i), (2, .int x)] := hl
  refine lv_iload_n hx hb dX9_set_0 rfl (lv_at hl 1 rfl) ?_
  refine lv_if_lt (tgt := 20) hx hb dX9_set_1 (by decide) (fun c_1 => ?_) (fun c_1 => ?_)
  · skip
    have hP9 := hP.sub (ws' := [(h0, .inr (10, [.ref a0])), (a0, .inl (gI G, n, .inl f))]) [0, 1] rfl
    have hD9 := hD.sub (ws' := [(h0, .inr (10, [.ref a0])), (a0, .inl (gI G, n, .inl f))]) [0, 1] (by decide) rfl
    have e_2 : rs f n i x = f := by unfold rs; rw [if_pos c_1]
    exact W.vret hx hb hr (fun t ht hW => ⟨⟨(), rfl, trivial, by rw [ht, e_2]; exact hP9, by rw [e_2]; exact hD9⟩, hS.F ht⟩) hS.2.2 dX9_set_20
  · skip
    refine lv_iload_n hx hb dX9_set_4 rfl (lv_at hl 1 rfl) ?_
    refine lv_aload_n hx hb dX9_set_5 rfl (lv_at hl 0 rfl) ?_
    refine va_get (D := gD G) (ci := 10) (v := .ref a0) (C := RX9) (T := TX9) (N := 1) hx hb hts (fun _ h9 => (List.mem_cons_of_mem _ (List.mem_append_right _ (List.mem_append_left _ h9)))) hown hK hP 0 rfl rfl 0 (by decide) (hts (.fieldLink RX9 15 "JudoHall$Row" "cells" "[I") (List.mem_cons_of_mem _ (List.mem_append_left _ (List.mem_of_getElem? (i := 0) rfl)))) (fun _ h9 => h9) rfl dX9_set_6 ?_
    refine va_alen (D := gD G) (v := (nI n)) hx hb hK hP 1 0 rfl rfl (rfl) dX9_set_9 ?_
    refine lv_icmp_ge (tgt := 20) hx hb dX9_set_10 (by decide) (fun c_3 => ?_) (fun c_3 => ?_)
    · skip
      have hP9 := hP.sub (ws' := [(h0, .inr (10, [.ref a0])), (a0, .inl (gI G, n, .inl f))]) [0, 1] rfl
      have hD9 := hD.sub (ws' := [(h0, .inr (10, [.ref a0])), (a0, .inl (gI G, n, .inl f))]) [0, 1] (by decide) rfl
      have e_4 : rs f n i x = f := by unfold rs; rw [if_neg c_1, if_pos c_3]
      exact W.vret hx hb hr (fun t ht hW => ⟨⟨(), rfl, trivial, by rw [ht, e_4]; exact hP9, by rw [e_4]; exact hD9⟩, hS.F ht⟩) hS.2.2 dX9_set_20
    · skip
      refine lv_aload_n hx hb dX9_set_13 rfl (lv_at hl 0 rfl) ?_
      refine va_get (D := gD G) (ci := 10) (v := .ref a0) (C := RX9) (T := TX9) (N := 1) hx hb hts (fun _ h9 => (List.mem_cons_of_mem _ (List.mem_append_right _ (List.mem_append_left _ h9)))) hown hK hP 0 rfl rfl 0 (by decide) (hts (.fieldLink RX9 15 "JudoHall$Row" "cells" "[I") (List.mem_cons_of_mem _ (List.mem_append_left _ (List.mem_of_getElem? (i := 0) rfl)))) (fun _ h9 => h9) rfl dX9_set_14 ?_
      refine lv_iload_n hx hb dX9_set_17 rfl (lv_at hl 1 rfl) ?_
      refine lv_iload_n hx hb dX9_set_18 rfl (lv_at hl 2 rfl) ?_
      refine va_iast (D := gD G) hx hb hK hP hD hS 1 0 rfl rfl (gx_ix hn c_1 c_3) dX9_set_19 (fun H locs hP hD hS => ?_)
      have hP : va_P (gD G) vwCl [(h0, .inr (10, [.ref a0])), (a0, .inl (gI G, n, .inl (upd f i.toNatClampNeg x)))] H := hP
      have hD : va_D A [(h0, .inr (10, [.ref a0])), (a0, .inl (gI G, n, .inl (upd f i.toNatClampNeg x)))] := hD
      have hP9 := hP.sub (ws' := [(h0, .inr (10, [.ref a0])), (a0, .inl (gI G, n, .inl (upd f i.toNatClampNeg x)))]) [0, 1] rfl
      have hD9 := hD.sub (ws' := [(h0, .inr (10, [.ref a0])), (a0, .inl (gI G, n, .inl (upd f i.toNatClampNeg x)))]) [0, 1] (by decide) rfl
      have e_5 : rs f n i x = upd f i.toNatClampNeg x := by unfold rs; rw [if_neg c_1, if_neg c_3]
      exact W.vret hx hb hr (fun t ht hW => ⟨⟨(), rfl, trivial, by rw [ht, e_5]; exact hP9, by rw [e_5]; exact hD9⟩, hS.F ht⟩) hS.2.2 dX9_set_20

def wo_c_Book_lay : List Cond := [.fieldLink RX1 13 "JudoHall$Book" "cells" "[I"]
def wq_c_Book_lay : List Cond := .code yX1_lay cX1_lay 3 none :: (wo_c_Book_lay ++ (wsX10 ++ []))
theorem gd_c_Book_lay : ∀ w ∈ wq_c_Book_lay, Gd w := List.forall_mem_cons.mpr ⟨Or.inl rfl, List.forall_mem_append.mpr ⟨gdl wo_c_Book_lay (by decide +kernel), (List.forall_mem_append.mpr ⟨gd_wsX10, (fun _ h => absurd h List.not_mem_nil)⟩)⟩⟩
theorem in_c_Book_lay : ∀ w ∈ wq_c_Book_lay, w ∈ lw_tbl := List.forall_mem_cons.mpr ⟨List.mem_of_getElem? (i := 217) (by decide +kernel), List.forall_mem_append.mpr ⟨inT wo_c_Book_lay [225] (by decide +kernel), (List.forall_mem_append.mpr ⟨in_wsX10, (fun _ h => absurd h List.not_mem_nil)⟩)⟩⟩
set_option maxHeartbeats 4000000 in
set_option maxRecDepth 100000 in
theorem c_Book_lay (l : Launch) (G : gG) (hk : Nat) (a0 : Nat) (n : Nat) (f : Nat → Int32) (v1 : Value) (v2 : Value) (v3 : Value) (v4 : Value) (v5 : Value) (i : Int32) (x : Int32) (sz : Nat) (hn : n < 2 ^ 31) : Met l yX1_lay wq_c_Book_lay ({ frames := 0, cells := 0, slots := 0, locals := 0 }) (va_Pc [.ref hk, .int i, .int x] (mP G [(hk, .inr (2, [.ref a0, v1, v2, v3, v4, v5])), (a0, .inl (gI G, n, .inl f))] sz)) (va_Qv (fun _ : Unit => True) (fun (_ : Unit) (t : State) => va_P (gD G) vwCl [(hk, .inr (2, [.ref a0, v1, v2, v3, v4, v5])), (a0, .inl (gI G, n, .inl (rs f n i x)))] t.heap ∧ va_D (va_A [(hk, .inr (2, [.ref a0, v1, v2, v3, v4, v5])), (a0, .inl (gI G, n, .inl f))] sz) [(hk, .inr (2, [.ref a0, v1, v2, v3, v4, v5])), (a0, .inl (gI G, n, .inl (rs f n i x)))]) (va_A [(hk, .inr (2, [.ref a0, v1, v2, v3, v4, v5])), (a0, .inl (gI G, n, .inl f))] sz)) 0 0 (va_A [(hk, .inr (2, [.ref a0, v1, v2, v3, v4, v5])), (a0, .inl (gI G, n, .inl f))] sz) := by
  refine Met.ofW (cc := cX1_lay) (maxL := 3) (ret := none) (by decide) rfl ?_
  intro p e s m args below meth c s₁ B hml hv
  obtain ⟨rfl, hsz, hP, hB, hD0⟩ := hv
  have hx := B.exec
  have hb := B.bytes
  have hr := B.returns
  have hts := atoms_spec (ws := wq_c_Book_lay) B.pre
  have hown : s.vm.findClass RX1 = some m.cls := findClass_of_methodNamed B.named
  have hlocks := B.notSynchronized
  have hK := hB.1
  subst hsz
  have hD := hD0.self (sz := s.heap.size)
  generalize hAe : va_A [(hk, .inr (2, [.ref a0, v1, v2, v3, v4, v5])), (a0, .inl (gI G, n, .inl f))] s.heap.size = A at hD ⊢
  have hA : ∀ q : Nat, s.heap.size ≤ q → A q := fun q h => by rw [← hAe]; exact Or.inr h
  have hS : va_S A s.heap s.heap [] := va_S.rf
  have hP : va_P (gD G) vwCl [(hk, .inr (2, [.ref a0, v1, v2, v3, v4, v5])), (a0, .inl (gI G, n, .inl f))] s.heap := hP
  have hD : va_D A [(hk, .inr (2, [.ref a0, v1, v2, v3, v4, v5])), (a0, .inl (gI G, n, .inl f))] := hD
  have hl := lv_entry ([.ref hk, .int i, .int x]) (n := 3) (Nat.le_of_ble_eq_true rfl)
  rw [lg_entry_eq]
  generalize (lg_sl ([.ref hk, .int i, .int x]) ++ List.replicate (3 - (lg_sl ([.ref hk, .int i, .int x])).length) Slot.unset).toArray = ls at hl ⊢
  have hl : lv_has ls 3 [(0, .ref hk), (1, .int i), (2, .int x)] := hl
  refine lv_iload_n hx hb dX1_lay_0 rfl (lv_at hl 1 rfl) ?_
  refine lv_if_lt (tgt := 20) hx hb dX1_lay_1 (by decide) (fun c_1 => ?_) (fun c_1 => ?_)
  · skip
    have hP9 := hP.sub (ws' := [(hk, .inr (2, [.ref a0, v1, v2, v3, v4, v5])), (a0, .inl (gI G, n, .inl f))]) [0, 1] rfl
    have hD9 := hD.sub (ws' := [(hk, .inr (2, [.ref a0, v1, v2, v3, v4, v5])), (a0, .inl (gI G, n, .inl f))]) [0, 1] (by decide) rfl
    have e_2 : rs f n i x = f := by unfold rs; rw [if_pos c_1]
    exact W.vret hx hb hr (fun t ht hW => ⟨⟨(), rfl, trivial, by rw [ht, e_2]; exact hP9, by rw [e_2]; exact hD9⟩, hS.F ht⟩) hS.2.2 dX1_lay_20
  · skip
    refine lv_iload_n hx hb dX1_lay_4 rfl (lv_at hl 1 rfl) ?_
    refine lv_aload_n hx hb dX1_lay_5 rfl (lv_at hl 0 rfl) ?_
    refine va_get (D := gD G) (ci := 2) (v := .ref a0) (C := RX1) (T := TX1) (N := 6) hx hb hts (fun _ h9 => (List.mem_cons_of_mem _ (List.mem_append_right _ (List.mem_append_left _ h9)))) hown hK hP 0 rfl rfl 0 (by decide) (hts (.fieldLink RX1 13 "JudoHall$Book" "cells" "[I") (List.mem_cons_of_mem _ (List.mem_append_left _ (List.mem_of_getElem? (i := 0) rfl)))) (fun _ h9 => h9) rfl dX1_lay_6 ?_
    refine va_alen (D := gD G) (v := (nI n)) hx hb hK hP 1 0 rfl rfl (rfl) dX1_lay_9 ?_
    refine lv_icmp_ge (tgt := 20) hx hb dX1_lay_10 (by decide) (fun c_3 => ?_) (fun c_3 => ?_)
    · skip
      have hP9 := hP.sub (ws' := [(hk, .inr (2, [.ref a0, v1, v2, v3, v4, v5])), (a0, .inl (gI G, n, .inl f))]) [0, 1] rfl
      have hD9 := hD.sub (ws' := [(hk, .inr (2, [.ref a0, v1, v2, v3, v4, v5])), (a0, .inl (gI G, n, .inl f))]) [0, 1] (by decide) rfl
      have e_4 : rs f n i x = f := by unfold rs; rw [if_neg c_1, if_pos c_3]
      exact W.vret hx hb hr (fun t ht hW => ⟨⟨(), rfl, trivial, by rw [ht, e_4]; exact hP9, by rw [e_4]; exact hD9⟩, hS.F ht⟩) hS.2.2 dX1_lay_20
    · skip
      refine lv_aload_n hx hb dX1_lay_13 rfl (lv_at hl 0 rfl) ?_
      refine va_get (D := gD G) (ci := 2) (v := .ref a0) (C := RX1) (T := TX1) (N := 6) hx hb hts (fun _ h9 => (List.mem_cons_of_mem _ (List.mem_append_right _ (List.mem_append_left _ h9)))) hown hK hP 0 rfl rfl 0 (by decide) (hts (.fieldLink RX1 13 "JudoHall$Book" "cells" "[I") (List.mem_cons_of_mem _ (List.mem_append_left _ (List.mem_of_getElem? (i := 0) rfl)))) (fun _ h9 => h9) rfl dX1_lay_14 ?_
      refine lv_iload_n hx hb dX1_lay_17 rfl (lv_at hl 1 rfl) ?_
      refine lv_iload_n hx hb dX1_lay_18 rfl (lv_at hl 2 rfl) ?_
      refine va_iast (D := gD G) hx hb hK hP hD hS 1 0 rfl rfl (gx_ix hn c_1 c_3) dX1_lay_19 (fun H locs hP hD hS => ?_)
      have hP : va_P (gD G) vwCl [(hk, .inr (2, [.ref a0, v1, v2, v3, v4, v5])), (a0, .inl (gI G, n, .inl (upd f i.toNatClampNeg x)))] H := hP
      have hD : va_D A [(hk, .inr (2, [.ref a0, v1, v2, v3, v4, v5])), (a0, .inl (gI G, n, .inl (upd f i.toNatClampNeg x)))] := hD
      have hP9 := hP.sub (ws' := [(hk, .inr (2, [.ref a0, v1, v2, v3, v4, v5])), (a0, .inl (gI G, n, .inl (upd f i.toNatClampNeg x)))]) [0, 1] rfl
      have hD9 := hD.sub (ws' := [(hk, .inr (2, [.ref a0, v1, v2, v3, v4, v5])), (a0, .inl (gI G, n, .inl (upd f i.toNatClampNeg x)))]) [0, 1] (by decide) rfl
      have e_5 : rs f n i x = upd f i.toNatClampNeg x := by unfold rs; rw [if_neg c_1, if_neg c_3]
      exact W.vret hx hb hr (fun t ht hW => ⟨⟨(), rfl, trivial, by rw [ht, e_5]; exact hP9, by rw [e_5]; exact hD9⟩, hS.F ht⟩) hS.2.2 dX1_lay_20

