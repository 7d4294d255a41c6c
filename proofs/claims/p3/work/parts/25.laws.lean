def wo_g_Lclear : List Cond := [.fieldLink RX4 24 "JudoHall$Laws" "time" "I", .fieldLink RX4 28 "JudoHall$Laws" "golden" "I", .fieldLink RX4 31 "JudoHall$Laws" "signs" "I", .fieldLink RX4 34 "JudoHall$Laws" "lines" "I", .fieldLink RX4 37 "JudoHall$Laws" "parts" "I", .fieldLink RX4 40 "JudoHall$Laws" "size" "I"]
def wq_g_Lclear : List Cond := .code yX4_clear cX4_clear 1 none :: (wo_g_Lclear ++ (wsX40 ++ []))
theorem gd_g_Lclear : ∀ w ∈ wq_g_Lclear, Gd w := List.forall_mem_cons.mpr ⟨Or.inl rfl, List.forall_mem_append.mpr ⟨gdl wo_g_Lclear (by decide +kernel), (List.forall_mem_append.mpr ⟨gd_wsX40, (fun _ h => absurd h List.not_mem_nil)⟩)⟩⟩
theorem in_g_Lclear : ∀ w ∈ wq_g_Lclear, w ∈ lw_tbl := List.forall_mem_cons.mpr ⟨List.mem_of_getElem? (i := 633) (by decide +kernel), List.forall_mem_append.mpr ⟨inT wo_g_Lclear [292, 295, 298, 301, 305, 308] (by decide +kernel), (List.forall_mem_append.mpr ⟨in_wsX40, (fun _ h => absurd h List.not_mem_nil)⟩)⟩⟩
set_option maxHeartbeats 4000000 in
set_option maxRecDepth 100000 in
theorem g_Lclear (l : Launch) (G : gG) (lw : Nat) (lt : Int32) (lg : Int32) (ls_ : Int32) (ll : Int32) (lp : Int32) (lz : Int32) (lc : Nat) (lc2 : Nat) (le : Nat) (le2 : Nat) (lo : Nat) (lo2 : Nat) (flc : Nat → Int32) (fle : Nat → Int32) (flo : Nat → Int32) (sz : Nat) : Met l yX4_clear wq_g_Lclear ({ frames := 0, cells := 0, slots := 0, locals := 0 }) (va_Pc [.ref lw] (mP G [(lw, .inr (5, [.int lt, .int lg, .int ls_, .int ll, .int lp, .int lz, .ref lc, .ref le, .ref lo])), (lc, .inr (10, [.ref lc2])), (lc2, .inl (gI G, 300, .inl flc)), (le, .inr (10, [.ref le2])), (le2, .inl (gI G, 20, .inl fle)), (lo, .inr (10, [.ref lo2])), (lo2, .inl (gI G, 20, .inl flo))] sz)) (va_Qv (fun _ : Unit => True) (fun (_ : Unit) (t : State) => va_P (gD G) vwCl [(lw, .inr (5, [.int 0, .int 0, .int 0, .int 0, .int 0, .int 0, .ref lc, .ref le, .ref lo])), (lc, .inr (10, [.ref lc2])), (lc2, .inl (gI G, 300, .inl flc)), (le, .inr (10, [.ref le2])), (le2, .inl (gI G, 20, .inl fle)), (lo, .inr (10, [.ref lo2])), (lo2, .inl (gI G, 20, .inl flo))] t.heap ∧ va_D (va_A [(lw, .inr (5, [.int lt, .int lg, .int ls_, .int ll, .int lp, .int lz, .ref lc, .ref le, .ref lo])), (lc, .inr (10, [.ref lc2])), (lc2, .inl (gI G, 300, .inl flc)), (le, .inr (10, [.ref le2])), (le2, .inl (gI G, 20, .inl fle)), (lo, .inr (10, [.ref lo2])), (lo2, .inl (gI G, 20, .inl flo))] sz) [(lw, .inr (5, [.int 0, .int 0, .int 0, .int 0, .int 0, .int 0, .ref lc, .ref le, .ref lo])), (lc, .inr (10, [.ref lc2])), (lc2, .inl (gI G, 300, .inl flc)), (le, .inr (10, [.ref le2])), (le2, .inl (gI G, 20, .inl fle)), (lo, .inr (10, [.ref lo2])), (lo2, .inl (gI G, 20, .inl flo))]) (va_A [(lw, .inr (5, [.int lt, .int lg, .int ls_, .int ll, .int lp, .int lz, .ref lc, .ref le, .ref lo])), (lc, .inr (10, [.ref lc2])), (lc2, .inl (gI G, 300, .inl flc)), (le, .inr (10, [.ref le2])), (le2, .inl (gI G, 20, .inl fle)), (lo, .inr (10, [.ref lo2])), (lo2, .inl (gI G, 20, .inl flo))] sz)) 0 0 (va_A [(lw, .inr (5, [.int lt, .int lg, .int ls_, .int ll, .int lp, .int lz, .ref lc, .ref le, .ref lo])), (lc, .inr (10, [.ref lc2])), (lc2, .inl (gI G, 300, .inl flc)), (le, .inr (10, [.ref le2])), (le2, .inl (gI G, 20, .inl fle)), (lo, .inr (10, [.ref lo2])), (lo2, .inl (gI G, 20, .inl flo))] sz) := by
  refine Met.ofW (cc := cX4_clear) (maxL := 1) (ret := none) (by decide) rfl ?_
  intro p e s m args below meth c s₁ B hml hv
  obtain ⟨rfl, hsz, hP, hB, hD0⟩ := hv
  have hx := B.exec
  have hb := B.bytes
  have hr := B.returns
  have hts := atoms_spec (ws := wq_g_Lclear) B.pre
  have hown : s.vm.findClass RX4 = some m.cls := findClass_of_methodNamed B.named
  have hlocks := B.notSynchronized
  have hK := hB.1
  subst hsz
  have hD := hD0.self (sz := s.heap.size)
  generalize hAe : va_A [(lw, .inr (5, [.int lt, .int lg, .int ls_, .int ll, .int lp, .int lz, .ref lc, .ref le, .ref lo])), (lc, .inr (10, [.ref lc2])), (lc2, .inl (gI G, 300, .inl flc)), (le, .inr (10, [.ref le2])), (le2, .inl (gI G, 20, .inl fle)), (lo, .inr (10, [.ref lo2])), (lo2, .inl (gI G, 20, .inl flo))] s.heap.size = A at hD ⊢
  have hA : ∀ q : Nat, s.heap.size ≤ q → A q := fun q h => by rw [← hAe]; exact Or.inr h
  have hS : va_S A s.heap s.heap [] := va_S.rf
  have hP : va_P (gD G) vwCl [(lw, .inr (5, [.int lt, .int lg, .int ls_, .int ll, .int lp, .int lz, .ref lc, .ref le, .ref lo])), (lc, .inr (10, [.ref lc2])), (lc2, .inl (gI G, 300, .inl flc)), (le, .inr (10, [.ref le2])), (le2, .inl (gI G, 20, .inl fle)), (lo, .inr (10, [.ref lo2])), (lo2, .inl (gI G, 20, .inl flo))] s.heap := hP
  have hD : va_D A [(lw, .inr (5, [.int lt, .int lg, .int ls_, .int ll, .int lp, .int lz, .ref lc, .ref le, .ref lo])), (lc, .inr (10, [.ref lc2])), (lc2, .inl (gI G, 300, .inl flc)), (le, .inr (10, [.ref le2])), (le2, .inl (gI G, 20, .inl fle)), (lo, .inr (10, [.ref lo2])), (lo2, .inl (gI G, 20, .inl flo))] := hD
  have hl := lv_entry ([.ref lw]) (n := 1) (Nat.le_of_ble_eq_true rfl)
  rw [lg_entry_eq]
  generalize (lg_sl ([.ref lw]) ++ List.replicate (1 - (lg_sl ([.ref lw])).length) Slot.unset).toArray = ls at hl ⊢
  have hl : lv_has ls 1 [(0, .ref lw)] := hl
  refine lv_aload_n hx hb dX4_clear_0 rfl (lv_at hl 0 rfl) ?_
  refine lv_iconst (v := 0) hx hb dX4_clear_1 (by decide) ?_
  refine va_put (D := gD G) (ci := 5) (v := .int 0) (ty := tyX4 0) (C := RX4) (T := TX4) (N := 9) hx hb hts (fun _ h9 => (List.mem_cons_of_mem _ (List.mem_append_right _ (List.mem_append_left _ h9)))) tyX4 tyX4_ok nmX4 hown hK hP hD hS 0 rfl rfl 0 (by decide) (hts (.fieldLink RX4 24 "JudoHall$Laws" "time" "I") (List.mem_cons_of_mem _ (List.mem_append_left _ (List.mem_of_getElem? (i := 0) rfl)))) (fun _ h9 => h9) rfl (tyX4_ok 0 (by decide)) rfl rfl (Nat.le_of_ble_eq_true rfl) dX4_clear_2 (fun H locs hP hD hS => ?_)
  have hP : va_P (gD G) vwCl [(lw, .inr (5, [.int 0, .int lg, .int ls_, .int ll, .int lp, .int lz, .ref lc, .ref le, .ref lo])), (lc, .inr (10, [.ref lc2])), (lc2, .inl (gI G, 300, .inl flc)), (le, .inr (10, [.ref le2])), (le2, .inl (gI G, 20, .inl fle)), (lo, .inr (10, [.ref lo2])), (lo2, .inl (gI G, 20, .inl flo))] H := hP
  have hD : va_D A [(lw, .inr (5, [.int 0, .int lg, .int ls_, .int ll, .int lp, .int lz, .ref lc, .ref le, .ref lo])), (lc, .inr (10, [.ref lc2])), (lc2, .inl (gI G, 300, .inl flc)), (le, .inr (10, [.ref le2])), (le2, .inl (gI G, 20, .inl fle)), (lo, .inr (10, [.ref lo2])), (lo2, .inl (gI G, 20, .inl flo))] := hD
  refine lv_aload_n hx hb dX4_clear_5 rfl (lv_at hl 0 rfl) ?_
  refine lv_iconst (v := 0) hx hb dX4_clear_6 (by decide) ?_
  refine va_put (D := gD G) (ci := 5) (v := .int 0) (ty := tyX4 1) (C := RX4) (T := TX4) (N := 9) hx hb hts (fun _ h9 => (List.mem_cons_of_mem _ (List.mem_append_right _ (List.mem_append_left _ h9)))) tyX4 tyX4_ok nmX4 hown hK hP hD hS 0 rfl rfl 1 (by decide) (hts (.fieldLink RX4 28 "JudoHall$Laws" "golden" "I") (List.mem_cons_of_mem _ (List.mem_append_left _ (List.mem_of_getElem? (i := 1) rfl)))) (fun _ h9 => h9) rfl (tyX4_ok 1 (by decide)) rfl rfl (Nat.le_of_ble_eq_true rfl) dX4_clear_7 (fun H locs hP hD hS => ?_)
  have hP : va_P (gD G) vwCl [(lw, .inr (5, [.int 0, .int 0, .int ls_, .int ll, .int lp, .int lz, .ref lc, .ref le, .ref lo])), (lc, .inr (10, [.ref lc2])), (lc2, .inl (gI G, 300, .inl flc)), (le, .inr (10, [.ref le2])), (le2, .inl (gI G, 20, .inl fle)), (lo, .inr (10, [.ref lo2])), (lo2, .inl (gI G, 20, .inl flo))] H := hP
  have hD : va_D A [(lw, .inr (5, [.int 0, .int 0, .int ls_, .int ll, .int lp, .int lz, .ref lc, .ref le, .ref lo])), (lc, .inr (10, [.ref lc2])), (lc2, .inl (gI G, 300, .inl flc)), (le, .inr (10, [.ref le2])), (le2, .inl (gI G, 20, .inl fle)), (lo, .inr (10, [.ref lo2])), (lo2, .inl (gI G, 20, .inl flo))] := hD
  refine lv_aload_n hx hb dX4_clear_10 rfl (lv_at hl 0 rfl) ?_
  refine lv_iconst (v := 0) hx hb dX4_clear_11 (by decide) ?_
  refine va_put (D := gD G) (ci := 5) (v := .int 0) (ty := tyX4 2) (C := RX4) (T := TX4) (N := 9) hx hb hts (fun _ h9 => (List.mem_cons_of_mem _ (List.mem_append_right _ (List.mem_append_left _ h9)))) tyX4 tyX4_ok nmX4 hown hK hP hD hS 0 rfl rfl 2 (by decide) (hts (.fieldLink RX4 31 "JudoHall$Laws" "signs" "I") (List.mem_cons_of_mem _ (List.mem_append_left _ (List.mem_of_getElem? (i := 2) rfl)))) (fun _ h9 => h9) rfl (tyX4_ok 2 (by decide)) rfl rfl (Nat.le_of_ble_eq_true rfl) dX4_clear_12 (fun H locs hP hD hS => ?_)
  have hP : va_P (gD G) vwCl [(lw, .inr (5, [.int 0, .int 0, .int 0, .int ll, .int lp, .int lz, .ref lc, .ref le, .ref lo])), (lc, .inr (10, [.ref lc2])), (lc2, .inl (gI G, 300, .inl flc)), (le, .inr (10, [.ref le2])), (le2, .inl (gI G, 20, .inl fle)), (lo, .inr (10, [.ref lo2])), (lo2, .inl (gI G, 20, .inl flo))] H := hP
  have hD : va_D A [(lw, .inr (5, [.int 0, .int 0, .int 0, .int ll, .int lp, .int lz, .ref lc, .ref le, .ref lo])), (lc, .inr (10, [.ref lc2])), (lc2, .inl (gI G, 300, .inl flc)), (le, .inr (10, [.ref le2])), (le2, .inl (gI G, 20, .inl fle)), (lo, .inr (10, [.ref lo2])), (lo2, .inl (gI G, 20, .inl flo))] := hD
  refine lv_aload_n hx hb dX4_clear_15 rfl (lv_at hl 0 rfl) ?_
  refine lv_iconst (v := 0) hx hb dX4_clear_16 (by decide) ?_
  refine va_put (D := gD G) (ci := 5) (v := .int 0) (ty := tyX4 3) (C := RX4) (T := TX4) (N := 9) hx hb hts (fun _ h9 => (List.mem_cons_of_mem _ (List.mem_append_right _ (List.mem_append_left _ h9)))) tyX4 tyX4_ok nmX4 hown hK hP hD hS 0 rfl rfl 3 (by decide) (hts (.fieldLink RX4 34 "JudoHall$Laws" "lines" "I") (List.mem_cons_of_mem _ (List.mem_append_left _ (List.mem_of_getElem? (i := 3) rfl)))) (fun _ h9 => h9) rfl (tyX4_ok 3 (by decide)) rfl rfl (Nat.le_of_ble_eq_true rfl) dX4_clear_17 (fun H locs hP hD hS => ?_)
  have hP : va_P (gD G) vwCl [(lw, .inr (5, [.int 0, .int 0, .int 0, .int 0, .int lp, .int lz, .ref lc, .ref le, .ref lo])), (lc, .inr (10, [.ref lc2])), (lc2, .inl (gI G, 300, .inl flc)), (le, .inr (10, [.ref le2])), (le2, .inl (gI G, 20, .inl fle)), (lo, .inr (10, [.ref lo2])), (lo2, .inl (gI G, 20, .inl flo))] H := hP
  have hD : va_D A [(lw, .inr (5, [.int 0, .int 0, .int 0, .int 0, .int lp, .int lz, .ref lc, .ref le, .ref lo])), (lc, .inr (10, [.ref lc2])), (lc2, .inl (gI G, 300, .inl flc)), (le, .inr (10, [.ref le2])), (le2, .inl (gI G, 20, .inl fle)), (lo, .inr (10, [.ref lo2])), (lo2, .inl (gI G, 20, .inl flo))] := hD
  refine lv_aload_n hx hb dX4_clear_20 rfl (lv_at hl 0 rfl) ?_
  refine lv_iconst (v := 0) hx hb dX4_clear_21 (by decide) ?_
  refine va_put (D := gD G) (ci := 5) (v := .int 0) (ty := tyX4 4) (C := RX4) (T := TX4) (N := 9) hx hb hts (fun _ h9 => (List.mem_cons_of_mem _ (List.mem_append_right _ (List.mem_append_left _ h9)))) tyX4 tyX4_ok nmX4 hown hK hP hD hS 0 rfl rfl 4 (by decide) (hts (.fieldLink RX4 37 "JudoHall$Laws" "parts" "I") (List.mem_cons_of_mem _ (List.mem_append_left _ (List.mem_of_getElem? (i := 4) rfl)))) (fun _ h9 => h9) rfl (tyX4_ok 4 (by decide)) rfl rfl (Nat.le_of_ble_eq_true rfl) dX4_clear_22 (fun H locs hP hD hS => ?_)
  have hP : va_P (gD G) vwCl [(lw, .inr (5, [.int 0, .int 0, .int 0, .int 0, .int 0, .int lz, .ref lc, .ref le, .ref lo])), (lc, .inr (10, [.ref lc2])), (lc2, .inl (gI G, 300, .inl flc)), (le, .inr (10, [.ref le2])), (le2, .inl (gI G, 20, .inl fle)), (lo, .inr (10, [.ref lo2])), (lo2, .inl (gI G, 20, .inl flo))] H := hP
  have hD : va_D A [(lw, .inr (5, [.int 0, .int 0, .int 0, .int 0, .int 0, .int lz, .ref lc, .ref le, .ref lo])), (lc, .inr (10, [.ref lc2])), (lc2, .inl (gI G, 300, .inl flc)), (le, .inr (10, [.ref le2])), (le2, .inl (gI G, 20, .inl fle)), (lo, .inr (10, [.ref lo2])), (lo2, .inl (gI G, 20, .inl flo))] := hD
  refine lv_aload_n hx hb dX4_clear_25 rfl (lv_at hl 0 rfl) ?_
  refine lv_iconst (v := 0) hx hb dX4_clear_26 (by decide) ?_
  refine va_put (D := gD G) (ci := 5) (v := .int 0) (ty := tyX4 5) (C := RX4) (T := TX4) (N := 9) hx hb hts (fun _ h9 => (List.mem_cons_of_mem _ (List.mem_append_right _ (List.mem_append_left _ h9)))) tyX4 tyX4_ok nmX4 hown hK hP hD hS 0 rfl rfl 5 (by decide) (hts (.fieldLink RX4 40 "JudoHall$Laws" "size" "I") (List.mem_cons_of_mem _ (List.mem_append_left _ (List.mem_of_getElem? (i := 5) rfl)))) (fun _ h9 => h9) rfl (tyX4_ok 5 (by decide)) rfl rfl (Nat.le_of_ble_eq_true rfl) dX4_clear_27 (fun H locs hP hD hS => ?_)
  have hP : va_P (gD G) vwCl [(lw, .inr (5, [.int 0, .int 0, .int 0, .int 0, .int 0, .int 0, .ref lc, .ref le, .ref lo])), (lc, .inr (10, [.ref lc2])), (lc2, .inl (gI G, 300, .inl flc)), (le, .inr (10, [.ref le2])), (le2, .inl (gI G, 20, .inl fle)), (lo, .inr (10, [.ref lo2])), (lo2, .inl (gI G, 20, .inl flo))] H := hP
  have hD : va_D A [(lw, .inr (5, [.int 0, .int 0, .int 0, .int 0, .int 0, .int 0, .ref lc, .ref le, .ref lo])), (lc, .inr (10, [.ref lc2])), (lc2, .inl (gI G, 300, .inl flc)), (le, .inr (10, [.ref le2])), (le2, .inl (gI G, 20, .inl fle)), (lo, .inr (10, [.ref lo2])), (lo2, .inl (gI G, 20, .inl flo))] := hD
  have hP9 := hP.sub (ws' := [(lw, .inr (5, [.int 0, .int 0, .int 0, .int 0, .int 0, .int 0, .ref lc, .ref le, .ref lo])), (lc, .inr (10, [.ref lc2])), (lc2, .inl (gI G, 300, .inl flc)), (le, .inr (10, [.ref le2])), (le2, .inl (gI G, 20, .inl fle)), (lo, .inr (10, [.ref lo2])), (lo2, .inl (gI G, 20, .inl flo))]) [0, 1, 2, 3, 4, 5, 6] rfl
  have hD9 := hD.sub (ws' := [(lw, .inr (5, [.int 0, .int 0, .int 0, .int 0, .int 0, .int 0, .ref lc, .ref le, .ref lo])), (lc, .inr (10, [.ref lc2])), (lc2, .inl (gI G, 300, .inl flc)), (le, .inr (10, [.ref le2])), (le2, .inl (gI G, 20, .inl fle)), (lo, .inr (10, [.ref lo2])), (lo2, .inl (gI G, 20, .inl flo))]) [0, 1, 2, 3, 4, 5, 6] (by decide) rfl
  exact W.vret hx hb hr (fun t ht hW => ⟨⟨(), rfl, trivial, by rw [ht]; exact hP9, hD9⟩, hS.F ht⟩) hS.2.2 dX4_clear_30

def wo_g_emit : List Cond := [.fieldLink RX4 14 "JudoHall$Laws" "code" "LJudoHall$Row;", .fieldLink RX4 40 "JudoHall$Laws" "size" "I", .methodLink RX4 43 yX9_set, .instanceMethod yX9_set, .selects RX9 yX9_set yX9_set, .initialized RX9]
def wq_g_emit : List Cond := .code yX4_emit cX4_emit 3 none :: (wo_g_emit ++ (wsX40 ++ (wq_c_Row_set ++ [])))
theorem gd_g_emit : ∀ w ∈ wq_g_emit, Gd w := List.forall_mem_cons.mpr ⟨Or.inl rfl, List.forall_mem_append.mpr ⟨gdl wo_g_emit (by decide +kernel), (List.forall_mem_append.mpr ⟨gd_wsX40, (List.forall_mem_append.mpr ⟨gd_c_Row_set, (fun _ h => absurd h List.not_mem_nil)⟩)⟩)⟩⟩
theorem in_g_emit : ∀ w ∈ wq_g_emit, w ∈ lw_tbl := List.forall_mem_cons.mpr ⟨List.mem_of_getElem? (i := 765) (by decide +kernel), List.forall_mem_append.mpr ⟨inT wo_g_emit [309, 308, 766, 598, 599, 156] (by decide +kernel), (List.forall_mem_append.mpr ⟨in_wsX40, (List.forall_mem_append.mpr ⟨in_c_Row_set, (fun _ h => absurd h List.not_mem_nil)⟩)⟩)⟩⟩
set_option maxHeartbeats 4000000 in
set_option maxRecDepth 100000 in
theorem g_emit (l : Launch) (G : gG) (lw : Nat) (lt : Int32) (lg : Int32) (ls_ : Int32) (ll : Int32) (lp : Int32) (lz : Int32) (lc : Nat) (lc2 : Nat) (le : Nat) (le2 : Nat) (lo : Nat) (lo2 : Nat) (flc : Nat → Int32) (fle : Nat → Int32) (flo : Nat → Int32) (x : Int32) (y : Int32) (sz : Nat) : Met l yX4_emit wq_g_emit ({ frames := 1, cells := 0, slots := 0, locals := 22 }) (va_Pc [.ref lw, .int x, .int y] (mP G [(lw, .inr (5, [.int lt, .int lg, .int ls_, .int ll, .int lp, .int lz, .ref lc, .ref le, .ref lo])), (lc, .inr (10, [.ref lc2])), (lc2, .inl (gI G, 300, .inl flc)), (le, .inr (10, [.ref le2])), (le2, .inl (gI G, 20, .inl fle)), (lo, .inr (10, [.ref lo2])), (lo2, .inl (gI G, 20, .inl flo))] sz)) (va_Qv (fun _ : Unit => True) (fun (_ : Unit) (t : State) => ∃ (g : Nat → Int32), va_P (gD G) vwCl [(lw, .inr (5, [.int lt, .int lg, .int ls_, .int ll, .int lp, .int (lz + 1), .ref lc, .ref le, .ref lo])), (lc, .inr (10, [.ref lc2])), (lc2, .inl (gI G, 300, .inl g)), (le, .inr (10, [.ref le2])), (le2, .inl (gI G, 20, .inl fle)), (lo, .inr (10, [.ref lo2])), (lo2, .inl (gI G, 20, .inl flo))] t.heap ∧ va_D (va_A [(lw, .inr (5, [.int lt, .int lg, .int ls_, .int ll, .int lp, .int lz, .ref lc, .ref le, .ref lo])), (lc, .inr (10, [.ref lc2])), (lc2, .inl (gI G, 300, .inl flc)), (le, .inr (10, [.ref le2])), (le2, .inl (gI G, 20, .inl fle)), (lo, .inr (10, [.ref lo2])), (lo2, .inl (gI G, 20, .inl flo))] sz) [(lw, .inr (5, [.int lt, .int lg, .int ls_, .int ll, .int lp, .int (lz + 1), .ref lc, .ref le, .ref lo])), (lc, .inr (10, [.ref lc2])), (lc2, .inl (gI G, 300, .inl g)), (le, .inr (10, [.ref le2])), (le2, .inl (gI G, 20, .inl fle)), (lo, .inr (10, [.ref lo2])), (lo2, .inl (gI G, 20, .inl flo))]) (va_A [(lw, .inr (5, [.int lt, .int lg, .int ls_, .int ll, .int lp, .int lz, .ref lc, .ref le, .ref lo])), (lc, .inr (10, [.ref lc2])), (lc2, .inl (gI G, 300, .inl flc)), (le, .inr (10, [.ref le2])), (le2, .inl (gI G, 20, .inl fle)), (lo, .inr (10, [.ref lo2])), (lo2, .inl (gI G, 20, .inl flo))] sz)) 0 0 (va_A [(lw, .inr (5, [.int lt, .int lg, .int ls_, .int ll, .int lp, .int lz, .ref lc, .ref le, .ref lo])), (lc, .inr (10, [.ref lc2])), (lc2, .inl (gI G, 300, .inl flc)), (le, .inr (10, [.ref le2])), (le2, .inl (gI G, 20, .inl fle)), (lo, .inr (10, [.ref lo2])), (lo2, .inl (gI G, 20, .inl flo))] sz) := by
  refine Met.ofW (cc := cX4_emit) (maxL := 3) (ret := none) (by decide) rfl ?_
  intro p e s m args below meth c s₁ B hml hv
  obtain ⟨rfl, hsz, hP, hB, hD0⟩ := hv
  have hx := B.exec
  have hb := B.bytes
  have hr := B.returns
  have hts := atoms_spec (ws := wq_g_emit) B.pre
  have hown : s.vm.findClass RX4 = some m.cls := findClass_of_methodNamed B.named
  have hlocks := B.notSynchronized
  have hK := hB.1
  subst hsz
  have hD := hD0.self (sz := s.heap.size)
  generalize hAe : va_A [(lw, .inr (5, [.int lt, .int lg, .int ls_, .int ll, .int lp, .int lz, .ref lc, .ref le, .ref lo])), (lc, .inr (10, [.ref lc2])), (lc2, .inl (gI G, 300, .inl flc)), (le, .inr (10, [.ref le2])), (le2, .inl (gI G, 20, .inl fle)), (lo, .inr (10, [.ref lo2])), (lo2, .inl (gI G, 20, .inl flo))] s.heap.size = A at hD ⊢
  have hA : ∀ q : Nat, s.heap.size ≤ q → A q := fun q h => by rw [← hAe]; exact Or.inr h
  have hS : va_S A s.heap s.heap [] := va_S.rf
  have hP : va_P (gD G) vwCl [(lw, .inr (5, [.int lt, .int lg, .int ls_, .int ll, .int lp, .int lz, .ref lc, .ref le, .ref lo])), (lc, .inr (10, [.ref lc2])), (lc2, .inl (gI G, 300, .inl flc)), (le, .inr (10, [.ref le2])), (le2, .inl (gI G, 20, .inl fle)), (lo, .inr (10, [.ref lo2])), (lo2, .inl (gI G, 20, .inl flo))] s.heap := hP
  have hD : va_D A [(lw, .inr (5, [.int lt, .int lg, .int ls_, .int ll, .int lp, .int lz, .ref lc, .ref le, .ref lo])), (lc, .inr (10, [.ref lc2])), (lc2, .inl (gI G, 300, .inl flc)), (le, .inr (10, [.ref le2])), (le2, .inl (gI G, 20, .inl fle)), (lo, .inr (10, [.ref lo2])), (lo2, .inl (gI G, 20, .inl flo))] := hD
  have hl := lv_entry ([.ref lw, .int x, .int y]) (n := 3) (Nat.le_of_ble_eq_true rfl)
  rw [lg_entry_eq]
  generalize (lg_sl ([.ref lw, .int x, .int y]) ++ List.replicate (3 - (lg_sl ([.ref lw, .int x, .int y])).length) Slot.unset).toArray = ls at hl ⊢
  have hl : lv_has ls 3 [(0, .ref lw), (1, .int x), (2, .int y)] := hl
  refine lv_aload_n hx hb dX4_emit_0 rfl (lv_at hl 0 rfl) ?_
  refine va_get (D := gD G) (ci := 5) (v := .ref lc) (C := RX4) (T := TX4) (N := 9) hx hb hts (fun _ h9 => (List.mem_cons_of_mem _ (List.mem_append_right _ (List.mem_append_left _ h9)))) hown hK hP 0 rfl rfl 6 (by decide) (hts (.fieldLink RX4 14 "JudoHall$Laws" "code" "LJudoHall$Row;") (List.mem_cons_of_mem _ (List.mem_append_left _ (List.mem_of_getElem? (i := 0) rfl)))) (fun _ h9 => h9) rfl dX4_emit_1 ?_
  refine lv_aload_n hx hb dX4_emit_4 rfl (lv_at hl 0 rfl) ?_
  refine va_get (D := gD G) (ci := 5) (v := .int lz) (C := RX4) (T := TX4) (N := 9) hx hb hts (fun _ h9 => (List.mem_cons_of_mem _ (List.mem_append_right _ (List.mem_append_left _ h9)))) hown hK hP 0 rfl rfl 5 (by decide) (hts (.fieldLink RX4 40 "JudoHall$Laws" "size" "I") (List.mem_cons_of_mem _ (List.mem_append_left _ (List.mem_of_getElem? (i := 1) rfl)))) (fun _ h9 => h9) rfl dX4_emit_5 ?_
  refine lv_iload_n hx hb dX4_emit_8 rfl (lv_at hl 1 rfl) ?_
  refine lv_sipush (v := 10000) hx hb dX4_emit_9 (by decide) ?_
  refine lv_imul hx hb dX4_emit_12 ?_
  refine lv_iload_n hx hb dX4_emit_13 rfl (lv_at hl 2 rfl) ?_
  refine lv_iadd hx hb dX4_emit_14 ?_
  have hPc := hP.sub (ws' := [(lc, .inr (10, [.ref lc2])), (lc2, .inl (gI G, 300, .inl flc))]) [1, 2] rfl
  have hDc := hD.sub (ws' := [(lc, .inr (10, [.ref lc2])), (lc2, .inl (gI G, 300, .inl flc))]) [1, 2] (by decide) rfl
  have hFc := va_free (wc := [(lc, .inr (10, [.ref lc2])), (lc2, .inl (gI G, 300, .inl flc))]) hD hS hA [1, 2] rfl
  refine va_callv (va_runV (As := [.int lz, .int ((x * 10000) + y)]) (rest := []) ⟨hx, hb, hml, hown, hts⟩ (c_Row_set l G lc lc2 300 flc lz ((x * 10000) + y) s.heap.size (by decide)) (cwV 2 hts (gdV (List.mem_cons_of_mem _ (List.mem_append_left _ (List.mem_of_getElem? (i := 2) rfl))) (List.mem_cons_of_mem _ (List.mem_append_left _ (List.mem_of_getElem? (i := 3) rfl))) (List.mem_cons_of_mem _ (List.mem_append_left _ (List.mem_of_getElem? (i := 4) rfl))) (List.mem_cons_of_mem _ (List.mem_append_left _ (List.mem_of_getElem? (i := 5) rfl))) (fun w9 h9 => ⟨(List.mem_cons_of_mem _ (List.mem_append_right _ (List.mem_append_right _ (List.mem_append_left _ h9)))), gd_c_Row_set w9 h9⟩)) rfl rfl rfl kVX9_set ⟨Nat.le_of_ble_eq_true rfl, Nat.le_of_ble_eq_true rfl⟩) (preV_m (As := [.int lz, .int ((x * 10000) + y)]) hPc hB hDc rfl rfl) rfl rfl hl.1 rfl (lv_room (Nat.le_of_ble_eq_true rfl)) dX4_emit_15 ⟨Nat.le_of_ble_eq_true rfl, Nat.le_of_ble_eq_true rfl⟩) hS (fun q _ h => hFc q h) hFc (fun u t H1 locs ht hvm hw hB1 hz1 hk1 hS => ?_)
  obtain ⟨hP1, hD1⟩ := hB1
  rw [ht] at hP1
  obtain ⟨hP, hD⟩ := va_join (wr := [(lw, .inr (5, [.int lt, .int lg, .int ls_, .int ll, .int lp, .int lz, .ref lc, .ref le, .ref lo])), (le, .inr (10, [.ref le2])), (le2, .inl (gI G, 20, .inl fle)), (lo, .inr (10, [.ref lo2])), (lo2, .inl (gI G, 20, .inl flo))]) (w1 := [(lc, .inr (10, [.ref lc2])), (lc2, .inl (gI G, 300, .inl (rs flc 300 lz ((x * 10000) + y))))]) hP hD [1, 2] [0, 3, 4, 5, 6] rfl rfl (by decide) (by decide) hk1 hFc hP1 hD1
  generalize H1 = H at hP hS ⊢
  have hP : va_P (gD G) vwCl [(lw, .inr (5, [.int lt, .int lg, .int ls_, .int ll, .int lp, .int lz, .ref lc, .ref le, .ref lo])), (le, .inr (10, [.ref le2])), (le2, .inl (gI G, 20, .inl fle)), (lo, .inr (10, [.ref lo2])), (lo2, .inl (gI G, 20, .inl flo)), (lc, .inr (10, [.ref lc2])), (lc2, .inl (gI G, 300, .inl (rs flc 300 lz ((x * 10000) + y))))] H := hP
  have hD : va_D A [(lw, .inr (5, [.int lt, .int lg, .int ls_, .int ll, .int lp, .int lz, .ref lc, .ref le, .ref lo])), (le, .inr (10, [.ref le2])), (le2, .inl (gI G, 20, .inl fle)), (lo, .inr (10, [.ref lo2])), (lo2, .inl (gI G, 20, .inl flo)), (lc, .inr (10, [.ref lc2])), (lc2, .inl (gI G, 300, .inl (rs flc 300 lz ((x * 10000) + y))))] := hD
  refine W.eq (g2 := F0 m 18 ls []) rfl ?_
  refine lv_aload_n hx hb dX4_emit_18 rfl (lv_at hl 0 rfl) ?_
  refine lv_dup hx hb dX4_emit_19 rfl ?_
  refine va_get (D := gD G) (ci := 5) (v := .int lz) (C := RX4) (T := TX4) (N := 9) hx hb hts (fun _ h9 => (List.mem_cons_of_mem _ (List.mem_append_right _ (List.mem_append_left _ h9)))) hown hK hP 0 rfl rfl 5 (by decide) (hts (.fieldLink RX4 40 "JudoHall$Laws" "size" "I") (List.mem_cons_of_mem _ (List.mem_append_left _ (List.mem_of_getElem? (i := 1) rfl)))) (fun _ h9 => h9) rfl dX4_emit_20 ?_
  refine lv_iconst (v := 1) hx hb dX4_emit_23 (by decide) ?_
  refine lv_iadd hx hb dX4_emit_24 ?_
  refine va_put (D := gD G) (ci := 5) (v := .int (lz + 1)) (ty := tyX4 5) (C := RX4) (T := TX4) (N := 9) hx hb hts (fun _ h9 => (List.mem_cons_of_mem _ (List.mem_append_right _ (List.mem_append_left _ h9)))) tyX4 tyX4_ok nmX4 hown hK hP hD hS 0 rfl rfl 5 (by decide) (hts (.fieldLink RX4 40 "JudoHall$Laws" "size" "I") (List.mem_cons_of_mem _ (List.mem_append_left _ (List.mem_of_getElem? (i := 1) rfl)))) (fun _ h9 => h9) rfl (tyX4_ok 5 (by decide)) rfl rfl (Nat.le_of_ble_eq_true rfl) dX4_emit_25 (fun H locs hP hD hS => ?_)
  have hP : va_P (gD G) vwCl [(lw, .inr (5, [.int lt, .int lg, .int ls_, .int ll, .int lp, .int (lz + 1), .ref lc, .ref le, .ref lo])), (le, .inr (10, [.ref le2])), (le2, .inl (gI G, 20, .inl fle)), (lo, .inr (10, [.ref lo2])), (lo2, .inl (gI G, 20, .inl flo)), (lc, .inr (10, [.ref lc2])), (lc2, .inl (gI G, 300, .inl (rs flc 300 lz ((x * 10000) + y))))] H := hP
  have hD : va_D A [(lw, .inr (5, [.int lt, .int lg, .int ls_, .int ll, .int lp, .int (lz + 1), .ref lc, .ref le, .ref lo])), (le, .inr (10, [.ref le2])), (le2, .inl (gI G, 20, .inl fle)), (lo, .inr (10, [.ref lo2])), (lo2, .inl (gI G, 20, .inl flo)), (lc, .inr (10, [.ref lc2])), (lc2, .inl (gI G, 300, .inl (rs flc 300 lz ((x * 10000) + y))))] := hD
  have hP9 := hP.sub (ws' := [(lw, .inr (5, [.int lt, .int lg, .int ls_, .int ll, .int lp, .int (lz + 1), .ref lc, .ref le, .ref lo])), (lc, .inr (10, [.ref lc2])), (lc2, .inl (gI G, 300, .inl (rs flc 300 lz ((x * 10000) + y)))), (le, .inr (10, [.ref le2])), (le2, .inl (gI G, 20, .inl fle)), (lo, .inr (10, [.ref lo2])), (lo2, .inl (gI G, 20, .inl flo))]) [0, 5, 6, 1, 2, 3, 4] rfl
  have hD9 := hD.sub (ws' := [(lw, .inr (5, [.int lt, .int lg, .int ls_, .int ll, .int lp, .int (lz + 1), .ref lc, .ref le, .ref lo])), (lc, .inr (10, [.ref lc2])), (lc2, .inl (gI G, 300, .inl (rs flc 300 lz ((x * 10000) + y)))), (le, .inr (10, [.ref le2])), (le2, .inl (gI G, 20, .inl fle)), (lo, .inr (10, [.ref lo2])), (lo2, .inl (gI G, 20, .inl flo))]) [0, 5, 6, 1, 2, 3, 4] (by decide) rfl
  exact W.vret hx hb hr (fun t ht hW => ⟨⟨(), rfl, trivial, (rs flc 300 lz ((x * 10000) + y)), by rw [ht]; exact hP9, hD9⟩, hS.F ht⟩) hS.2.2 dX4_emit_28

def wo_g_endLine : List Cond := [.fieldLink RX4 18 "JudoHall$Laws" "ends" "LJudoHall$Row;", .fieldLink RX4 34 "JudoHall$Laws" "lines" "I", .fieldLink RX4 40 "JudoHall$Laws" "size" "I", .methodLink RX4 43 yX9_set, .instanceMethod yX9_set, .selects RX9 yX9_set yX9_set, .initialized RX9]
def wq_g_endLine : List Cond := .code yX4_endLine cX4_endLine 1 none :: (wo_g_endLine ++ (wsX40 ++ (wq_c_Row_set ++ [])))
theorem gd_g_endLine : ∀ w ∈ wq_g_endLine, Gd w := List.forall_mem_cons.mpr ⟨Or.inl rfl, List.forall_mem_append.mpr ⟨gdl wo_g_endLine (by decide +kernel), (List.forall_mem_append.mpr ⟨gd_wsX40, (List.forall_mem_append.mpr ⟨gd_c_Row_set, (fun _ h => absurd h List.not_mem_nil)⟩)⟩)⟩⟩
theorem in_g_endLine : ∀ w ∈ wq_g_endLine, w ∈ lw_tbl := List.forall_mem_cons.mpr ⟨List.mem_of_getElem? (i := 848) (by decide +kernel), List.forall_mem_append.mpr ⟨inT wo_g_endLine [310, 301, 308, 766, 598, 599, 156] (by decide +kernel), (List.forall_mem_append.mpr ⟨in_wsX40, (List.forall_mem_append.mpr ⟨in_c_Row_set, (fun _ h => absurd h List.not_mem_nil)⟩)⟩)⟩⟩
set_option maxHeartbeats 4000000 in
set_option maxRecDepth 100000 in
theorem g_endLine (l : Launch) (G : gG) (lw : Nat) (lt : Int32) (lg : Int32) (ls_ : Int32) (ll : Int32) (lp : Int32) (lz : Int32) (lc : Nat) (lc2 : Nat) (le : Nat) (le2 : Nat) (lo : Nat) (lo2 : Nat) (flc : Nat → Int32) (fle : Nat → Int32) (flo : Nat → Int32) (sz : Nat) : Met l yX4_endLine wq_g_endLine ({ frames := 1, cells := 0, slots := 0, locals := 22 }) (va_Pc [.ref lw] (mP G [(lw, .inr (5, [.int lt, .int lg, .int ls_, .int ll, .int lp, .int lz, .ref lc, .ref le, .ref lo])), (lc, .inr (10, [.ref lc2])), (lc2, .inl (gI G, 300, .inl flc)), (le, .inr (10, [.ref le2])), (le2, .inl (gI G, 20, .inl fle)), (lo, .inr (10, [.ref lo2])), (lo2, .inl (gI G, 20, .inl flo))] sz)) (va_Qv (fun _ : Unit => True) (fun (_ : Unit) (t : State) => ∃ (g : Nat → Int32), va_P (gD G) vwCl [(lw, .inr (5, [.int lt, .int lg, .int ls_, .int (ll + 1), .int lp, .int lz, .ref lc, .ref le, .ref lo])), (lc, .inr (10, [.ref lc2])), (lc2, .inl (gI G, 300, .inl flc)), (le, .inr (10, [.ref le2])), (le2, .inl (gI G, 20, .inl g)), (lo, .inr (10, [.ref lo2])), (lo2, .inl (gI G, 20, .inl flo))] t.heap ∧ va_D (va_A [(lw, .inr (5, [.int lt, .int lg, .int ls_, .int ll, .int lp, .int lz, .ref lc, .ref le, .ref lo])), (lc, .inr (10, [.ref lc2])), (lc2, .inl (gI G, 300, .inl flc)), (le, .inr (10, [.ref le2])), (le2, .inl (gI G, 20, .inl fle)), (lo, .inr (10, [.ref lo2])), (lo2, .inl (gI G, 20, .inl flo))] sz) [(lw, .inr (5, [.int lt, .int lg, .int ls_, .int (ll + 1), .int lp, .int lz, .ref lc, .ref le, .ref lo])), (lc, .inr (10, [.ref lc2])), (lc2, .inl (gI G, 300, .inl flc)), (le, .inr (10, [.ref le2])), (le2, .inl (gI G, 20, .inl g)), (lo, .inr (10, [.ref lo2])), (lo2, .inl (gI G, 20, .inl flo))]) (va_A [(lw, .inr (5, [.int lt, .int lg, .int ls_, .int ll, .int lp, .int lz, .ref lc, .ref le, .ref lo])), (lc, .inr (10, [.ref lc2])), (lc2, .inl (gI G, 300, .inl flc)), (le, .inr (10, [.ref le2])), (le2, .inl (gI G, 20, .inl fle)), (lo, .inr (10, [.ref lo2])), (lo2, .inl (gI G, 20, .inl flo))] sz)) 0 0 (va_A [(lw, .inr (5, [.int lt, .int lg, .int ls_, .int ll, .int lp, .int lz, .ref lc, .ref le, .ref lo])), (lc, .inr (10, [.ref lc2])), (lc2, .inl (gI G, 300, .inl flc)), (le, .inr (10, [.ref le2])), (le2, .inl (gI G, 20, .inl fle)), (lo, .inr (10, [.ref lo2])), (lo2, .inl (gI G, 20, .inl flo))] sz) := by
  refine Met.ofW (cc := cX4_endLine) (maxL := 1) (ret := none) (by decide) rfl ?_
  intro p e s m args below meth c s₁ B hml hv
  obtain ⟨rfl, hsz, hP, hB, hD0⟩ := hv
  have hx := B.exec
  have hb := B.bytes
  have hr := B.returns
  have hts := atoms_spec (ws := wq_g_endLine) B.pre
  have hown : s.vm.findClass RX4 = some m.cls := findClass_of_methodNamed B.named
  have hlocks := B.notSynchronized
  have hK := hB.1
  subst hsz
  have hD := hD0.self (sz := s.heap.size)
  generalize hAe : va_A [(lw, .inr (5, [.int lt, .int lg, .int ls_, .int ll, .int lp, .int lz, .ref lc, .ref le, .ref lo])), (lc, .inr (10, [.ref lc2])), (lc2, .inl (gI G, 300, .inl flc)), (le, .inr (10, [.ref le2])), (le2, .inl (gI G, 20, .inl fle)), (lo, .inr (10, [.ref lo2])), (lo2, .inl (gI G, 20, .inl flo))] s.heap.size = A at hD ⊢
  have hA : ∀ q : Nat, s.heap.size ≤ q → A q := fun q h => by rw [← hAe]; exact Or.inr h
  have hS : va_S A s.heap s.heap [] := va_S.rf
  have hP : va_P (gD G) vwCl [(lw, .inr (5, [.int lt, .int lg, .int ls_, .int ll, .int lp, .int lz, .ref lc, .ref le, .ref lo])), (lc, .inr (10, [.ref lc2])), (lc2, .inl (gI G, 300, .inl flc)), (le, .inr (10, [.ref le2])), (le2, .inl (gI G, 20, .inl fle)), (lo, .inr (10, [.ref lo2])), (lo2, .inl (gI G, 20, .inl flo))] s.heap := hP
  have hD : va_D A [(lw, .inr (5, [.int lt, .int lg, .int ls_, .int ll, .int lp, .int lz, .ref lc, .ref le, .ref lo])), (lc, .inr (10, [.ref lc2])), (lc2, .inl (gI G, 300, .inl flc)), (le, .inr (10, [.ref le2])), (le2, .inl (gI G, 20, .inl fle)), (lo, .inr (10, [.ref lo2])), (lo2, .inl (gI G, 20, .inl flo))] := hD
  have hl := lv_entry ([.ref lw]) (n := 1) (Nat.le_of_ble_eq_true rfl)
  rw [lg_entry_eq]
  generalize (lg_sl ([.ref lw]) ++ List.replicate (1 - (lg_sl ([.ref lw])).length) Slot.unset).toArray = ls at hl ⊢
  have hl : lv_has ls 1 [(0, .ref lw)] := hl
  refine lv_aload_n hx hb dX4_endLine_0 rfl (lv_at hl 0 rfl) ?_
  refine va_get (D := gD G) (ci := 5) (v := .ref le) (C := RX4) (T := TX4) (N := 9) hx hb hts (fun _ h9 => (List.mem_cons_of_mem _ (List.mem_append_right _ (List.mem_append_left _ h9)))) hown hK hP 0 rfl rfl 7 (by decide) (hts (.fieldLink RX4 18 "JudoHall$Laws" "ends" "LJudoHall$Row;") (List.mem_cons_of_mem _ (List.mem_append_left _ (List.mem_of_getElem? (i := 0) rfl)))) (fun _ h9 => h9) rfl dX4_endLine_1 ?_
  refine lv_aload_n hx hb dX4_endLine_4 rfl (lv_at hl 0 rfl) ?_
  refine va_get (D := gD G) (ci := 5) (v := .int ll) (C := RX4) (T := TX4) (N := 9) hx hb hts (fun _ h9 => (List.mem_cons_of_mem _ (List.mem_append_right _ (List.mem_append_left _ h9)))) hown hK hP 0 rfl rfl 3 (by decide) (hts (.fieldLink RX4 34 "JudoHall$Laws" "lines" "I") (List.mem_cons_of_mem _ (List.mem_append_left _ (List.mem_of_getElem? (i := 1) rfl)))) (fun _ h9 => h9) rfl dX4_endLine_5 ?_
  refine lv_aload_n hx hb dX4_endLine_8 rfl (lv_at hl 0 rfl) ?_
  refine va_get (D := gD G) (ci := 5) (v := .int lz) (C := RX4) (T := TX4) (N := 9) hx hb hts (fun _ h9 => (List.mem_cons_of_mem _ (List.mem_append_right _ (List.mem_append_left _ h9)))) hown hK hP 0 rfl rfl 5 (by decide) (hts (.fieldLink RX4 40 "JudoHall$Laws" "size" "I") (List.mem_cons_of_mem _ (List.mem_append_left _ (List.mem_of_getElem? (i := 2) rfl)))) (fun _ h9 => h9) rfl dX4_endLine_9 ?_
  have hPc := hP.sub (ws' := [(le, .inr (10, [.ref le2])), (le2, .inl (gI G, 20, .inl fle))]) [3, 4] rfl
  have hDc := hD.sub (ws' := [(le, .inr (10, [.ref le2])), (le2, .inl (gI G, 20, .inl fle))]) [3, 4] (by decide) rfl
  have hFc := va_free (wc := [(le, .inr (10, [.ref le2])), (le2, .inl (gI G, 20, .inl fle))]) hD hS hA [3, 4] rfl
  refine va_callv (va_runV (As := [.int ll, .int lz]) (rest := []) ⟨hx, hb, hml, hown, hts⟩ (c_Row_set l G le le2 20 fle ll lz s.heap.size (by decide)) (cwV 2 hts (gdV (List.mem_cons_of_mem _ (List.mem_append_left _ (List.mem_of_getElem? (i := 3) rfl))) (List.mem_cons_of_mem _ (List.mem_append_left _ (List.mem_of_getElem? (i := 4) rfl))) (List.mem_cons_of_mem _ (List.mem_append_left _ (List.mem_of_getElem? (i := 5) rfl))) (List.mem_cons_of_mem _ (List.mem_append_left _ (List.mem_of_getElem? (i := 6) rfl))) (fun w9 h9 => ⟨(List.mem_cons_of_mem _ (List.mem_append_right _ (List.mem_append_right _ (List.mem_append_left _ h9)))), gd_c_Row_set w9 h9⟩)) rfl rfl rfl kVX9_set ⟨Nat.le_of_ble_eq_true rfl, Nat.le_of_ble_eq_true rfl⟩) (preV_m (As := [.int ll, .int lz]) hPc hB hDc rfl rfl) rfl rfl hl.1 rfl (lv_room (Nat.le_of_ble_eq_true rfl)) dX4_endLine_12 ⟨Nat.le_of_ble_eq_true rfl, Nat.le_of_ble_eq_true rfl⟩) hS (fun q _ h => hFc q h) hFc (fun u t H1 locs ht hvm hw hB1 hz1 hk1 hS => ?_)
  obtain ⟨hP1, hD1⟩ := hB1
  rw [ht] at hP1
  obtain ⟨hP, hD⟩ := va_join (wr := [(lw, .inr (5, [.int lt, .int lg, .int ls_, .int ll, .int lp, .int lz, .ref lc, .ref le, .ref lo])), (lc, .inr (10, [.ref lc2])), (lc2, .inl (gI G, 300, .inl flc)), (lo, .inr (10, [.ref lo2])), (lo2, .inl (gI G, 20, .inl flo))]) (w1 := [(le, .inr (10, [.ref le2])), (le2, .inl (gI G, 20, .inl (rs fle 20 ll lz)))]) hP hD [3, 4] [0, 1, 2, 5, 6] rfl rfl (by decide) (by decide) hk1 hFc hP1 hD1
  generalize H1 = H at hP hS ⊢
  have hP : va_P (gD G) vwCl [(lw, .inr (5, [.int lt, .int lg, .int ls_, .int ll, .int lp, .int lz, .ref lc, .ref le, .ref lo])), (lc, .inr (10, [.ref lc2])), (lc2, .inl (gI G, 300, .inl flc)), (lo, .inr (10, [.ref lo2])), (lo2, .inl (gI G, 20, .inl flo)), (le, .inr (10, [.ref le2])), (le2, .inl (gI G, 20, .inl (rs fle 20 ll lz)))] H := hP
  have hD : va_D A [(lw, .inr (5, [.int lt, .int lg, .int ls_, .int ll, .int lp, .int lz, .ref lc, .ref le, .ref lo])), (lc, .inr (10, [.ref lc2])), (lc2, .inl (gI G, 300, .inl flc)), (lo, .inr (10, [.ref lo2])), (lo2, .inl (gI G, 20, .inl flo)), (le, .inr (10, [.ref le2])), (le2, .inl (gI G, 20, .inl (rs fle 20 ll lz)))] := hD
  refine W.eq (g2 := F0 m 15 ls []) rfl ?_
  refine lv_aload_n hx hb dX4_endLine_15 rfl (lv_at hl 0 rfl) ?_
  refine lv_dup hx hb dX4_endLine_16 rfl ?_
  refine va_get (D := gD G) (ci := 5) (v := .int ll) (C := RX4) (T := TX4) (N := 9) hx hb hts (fun _ h9 => (List.mem_cons_of_mem _ (List.mem_append_right _ (List.mem_append_left _ h9)))) hown hK hP 0 rfl rfl 3 (by decide) (hts (.fieldLink RX4 34 "JudoHall$Laws" "lines" "I") (List.mem_cons_of_mem _ (List.mem_append_left _ (List.mem_of_getElem? (i := 1) rfl)))) (fun _ h9 => h9) rfl dX4_endLine_17 ?_
  refine lv_iconst (v := 1) hx hb dX4_endLine_20 (by decide) ?_
  refine lv_iadd hx hb dX4_endLine_21 ?_
  refine va_put (D := gD G) (ci := 5) (v := .int (ll + 1)) (ty := tyX4 3) (C := RX4) (T := TX4) (N := 9) hx hb hts (fun _ h9 => (List.mem_cons_of_mem _ (List.mem_append_right _ (List.mem_append_left _ h9)))) tyX4 tyX4_ok nmX4 hown hK hP hD hS 0 rfl rfl 3 (by decide) (hts (.fieldLink RX4 34 "JudoHall$Laws" "lines" "I") (List.mem_cons_of_mem _ (List.mem_append_left _ (List.mem_of_getElem? (i := 1) rfl)))) (fun _ h9 => h9) rfl (tyX4_ok 3 (by decide)) rfl rfl (Nat.le_of_ble_eq_true rfl) dX4_endLine_22 (fun H locs hP hD hS => ?_)
  have hP : va_P (gD G) vwCl [(lw, .inr (5, [.int lt, .int lg, .int ls_, .int (ll + 1), .int lp, .int lz, .ref lc, .ref le, .ref lo])), (lc, .inr (10, [.ref lc2])), (lc2, .inl (gI G, 300, .inl flc)), (lo, .inr (10, [.ref lo2])), (lo2, .inl (gI G, 20, .inl flo)), (le, .inr (10, [.ref le2])), (le2, .inl (gI G, 20, .inl (rs fle 20 ll lz)))] H := hP
  have hD : va_D A [(lw, .inr (5, [.int lt, .int lg, .int ls_, .int (ll + 1), .int lp, .int lz, .ref lc, .ref le, .ref lo])), (lc, .inr (10, [.ref lc2])), (lc2, .inl (gI G, 300, .inl flc)), (lo, .inr (10, [.ref lo2])), (lo2, .inl (gI G, 20, .inl flo)), (le, .inr (10, [.ref le2])), (le2, .inl (gI G, 20, .inl (rs fle 20 ll lz)))] := hD
  have hP9 := hP.sub (ws' := [(lw, .inr (5, [.int lt, .int lg, .int ls_, .int (ll + 1), .int lp, .int lz, .ref lc, .ref le, .ref lo])), (lc, .inr (10, [.ref lc2])), (lc2, .inl (gI G, 300, .inl flc)), (le, .inr (10, [.ref le2])), (le2, .inl (gI G, 20, .inl (rs fle 20 ll lz))), (lo, .inr (10, [.ref lo2])), (lo2, .inl (gI G, 20, .inl flo))]) [0, 1, 2, 5, 6, 3, 4] rfl
  have hD9 := hD.sub (ws' := [(lw, .inr (5, [.int lt, .int lg, .int ls_, .int (ll + 1), .int lp, .int lz, .ref lc, .ref le, .ref lo])), (lc, .inr (10, [.ref lc2])), (lc2, .inl (gI G, 300, .inl flc)), (le, .inr (10, [.ref le2])), (le2, .inl (gI G, 20, .inl (rs fle 20 ll lz))), (lo, .inr (10, [.ref lo2])), (lo2, .inl (gI G, 20, .inl flo))]) [0, 1, 2, 5, 6, 3, 4] (by decide) rfl
  exact W.vret hx hb hr (fun t ht hW => ⟨⟨(), rfl, trivial, (rs fle 20 ll lz), by rw [ht]; exact hP9, hD9⟩, hS.F ht⟩) hS.2.2 dX4_endLine_25

def wo_g_startOf : List Cond := [.fieldLink RX4 18 "JudoHall$Laws" "ends" "LJudoHall$Row;", .methodLink RX4 46 yX9_get, .instanceMethod yX9_get, .selects RX9 yX9_get yX9_get, .initialized RX9]
def wq_g_startOf : List Cond := .code yX4_startOf cX4_startOf 2 (some .int) :: (wo_g_startOf ++ (wsX40 ++ (wq_c_Row_get ++ [])))
theorem gd_g_startOf : ∀ w ∈ wq_g_startOf, Gd w := List.forall_mem_cons.mpr ⟨Or.inl rfl, List.forall_mem_append.mpr ⟨gdl wo_g_startOf (by decide +kernel), (List.forall_mem_append.mpr ⟨gd_wsX40, (List.forall_mem_append.mpr ⟨gd_c_Row_get, (fun _ h => absurd h List.not_mem_nil)⟩)⟩)⟩⟩
theorem in_g_startOf : ∀ w ∈ wq_g_startOf, w ∈ lw_tbl := List.forall_mem_cons.mpr ⟨List.mem_of_getElem? (i := 1292) (by decide +kernel), List.forall_mem_append.mpr ⟨inT wo_g_startOf [310, 1293, 643, 644, 156] (by decide +kernel), (List.forall_mem_append.mpr ⟨in_wsX40, (List.forall_mem_append.mpr ⟨in_c_Row_get, (fun _ h => absurd h List.not_mem_nil)⟩)⟩)⟩⟩
set_option maxHeartbeats 4000000 in
set_option maxRecDepth 100000 in
theorem g_startOf (l : Launch) (G : gG) (lw : Nat) (lt : Int32) (lg : Int32) (ls_ : Int32) (ll : Int32) (lp : Int32) (lz : Int32) (lc : Nat) (lc2 : Nat) (le : Nat) (le2 : Nat) (lo : Nat) (lo2 : Nat) (flc : Nat → Int32) (fle : Nat → Int32) (flo : Nat → Int32) (x : Int32) : Met l yX4_startOf wq_g_startOf ({ frames := 1, cells := 0, slots := 0, locals := 21 }) (va_Pc [.ref lw, .int x] (pP G [(lw, .inr (5, [.int lt, .int lg, .int ls_, .int ll, .int lp, .int lz, .ref lc, .ref le, .ref lo])), (lc, .inr (10, [.ref lc2])), (lc2, .inl (gI G, 300, .inl flc)), (le, .inr (10, [.ref le2])), (le2, .inl (gI G, 20, .inl fle)), (lo, .inr (10, [.ref lo2])), (lo2, .inl (gI G, 20, .inl flo))])) (vp_Si (fun r : Int32 => True)) 0 0 (fun _ => False) := by
  refine Met.ofW (cc := cX4_startOf) (maxL := 2) (ret := (some .int)) (by decide) rfl ?_
  intro p e s m args below meth c s₁ B hml hv
  obtain ⟨rfl, hP, hB⟩ := hv
  have hx := B.exec
  have hb := B.bytes
  have hr := B.returns
  have hts := atoms_spec (ws := wq_g_startOf) B.pre
  have hown : s.vm.findClass RX4 = some m.cls := findClass_of_methodNamed B.named
  have hlocks := B.notSynchronized
  have hK := hB.1
  have hP : va_P (gD G) vwCl [(lw, .inr (5, [.int lt, .int lg, .int ls_, .int ll, .int lp, .int lz, .ref lc, .ref le, .ref lo])), (lc, .inr (10, [.ref lc2])), (lc2, .inl (gI G, 300, .inl flc)), (le, .inr (10, [.ref le2])), (le2, .inl (gI G, 20, .inl fle)), (lo, .inr (10, [.ref lo2])), (lo2, .inl (gI G, 20, .inl flo))] s.heap := hP
  have hl := lv_entry ([.ref lw, .int x]) (n := 2) (Nat.le_of_ble_eq_true rfl)
  rw [lg_entry_eq]
  generalize (lg_sl ([.ref lw, .int x]) ++ List.replicate (2 - (lg_sl ([.ref lw, .int x])).length) Slot.unset).toArray = ls at hl ⊢
  have hl : lv_has ls 2 [(0, .ref lw), (1, .int x)] := hl
  refine lv_iload_n hx hb dX4_startOf_0 rfl (lv_at hl 1 rfl) ?_
  refine lv_if_ne (tgt := 8) hx hb dX4_startOf_1 (by decide) (fun c_1 => ?_) (fun c_1 => ?_)
  · skip
    refine lv_aload_n hx hb dX4_startOf_8 rfl (lv_at hl 0 rfl) ?_
    refine va_get (D := gD G) (ci := 5) (v := .ref le) (C := RX4) (T := TX4) (N := 9) hx hb hts (fun _ h9 => (List.mem_cons_of_mem _ (List.mem_append_right _ (List.mem_append_left _ h9)))) hown hK hP 0 rfl rfl 7 (by decide) (hts (.fieldLink RX4 18 "JudoHall$Laws" "ends" "LJudoHall$Row;") (List.mem_cons_of_mem _ (List.mem_append_left _ (List.mem_of_getElem? (i := 0) rfl)))) (fun _ h9 => h9) rfl dX4_startOf_9 ?_
    refine lv_iload_n hx hb dX4_startOf_12 rfl (lv_at hl 1 rfl) ?_
    refine lv_iconst (v := 1) hx hb dX4_startOf_13 (by decide) ?_
    refine lv_isub hx hb dX4_startOf_14 ?_
    refine vp_callSi (va_Run.run (va_runV (As := [.int (x - 1)]) (rest := []) ⟨hx, hb, hml, hown, hts⟩ (c_Row_get l G le le2 20 fle (x - 1) (by decide)) (cwV 1 hts (gdV (List.mem_cons_of_mem _ (List.mem_append_left _ (List.mem_of_getElem? (i := 1) rfl))) (List.mem_cons_of_mem _ (List.mem_append_left _ (List.mem_of_getElem? (i := 2) rfl))) (List.mem_cons_of_mem _ (List.mem_append_left _ (List.mem_of_getElem? (i := 3) rfl))) (List.mem_cons_of_mem _ (List.mem_append_left _ (List.mem_of_getElem? (i := 4) rfl))) (fun w9 h9 => ⟨(List.mem_cons_of_mem _ (List.mem_append_right _ (List.mem_append_right _ (List.mem_append_left _ h9)))), gd_c_Row_get w9 h9⟩)) rfl rfl rfl kVX9_get ⟨Nat.le_of_ble_eq_true rfl, Nat.le_of_ble_eq_true rfl⟩) (preV_p (As := [.int (x - 1)]) (hP.sub (ws' := [(le, .inr (10, [.ref le2])), (le2, .inl (gI G, 20, .inl fle))]) [3, 4] rfl) hB rfl rfl) rfl rfl hl.1 rfl (lv_room (Nat.le_of_ble_eq_true rfl)) dX4_startOf_15 ⟨Nat.le_of_ble_eq_true rfl, Nat.le_of_ble_eq_true rfl⟩)) (fun r_2 hr_2 => ?_)
    subst hr_2
    exact W.iret (v := (rg fle 20 (x - 1))) hx hb hr (fun t ht hW => ⟨_, rfl, trivial, ht⟩) (fun q h => absurd h List.not_mem_nil) dX4_startOf_18
  · skip
    refine lv_iconst (v := 0) hx hb dX4_startOf_4 (by decide) ?_
    refine lv_goto (tgt := 18) hx hb dX4_startOf_5 (by decide) ?_
    exact W.iret (v := 0) hx hb hr (fun t ht hW => ⟨_, rfl, trivial, ht⟩) (fun q h => absurd h List.not_mem_nil) dX4_startOf_18

def wo_g_kindAt : List Cond := [.fieldLink RX4 14 "JudoHall$Laws" "code" "LJudoHall$Row;", .methodLink RX4 46 yX9_get, .instanceMethod yX9_get, .selects RX9 yX9_get yX9_get, .initialized RX9]
def wq_g_kindAt : List Cond := .code yX4_kindAt cX4_kindAt 2 (some .int) :: (wo_g_kindAt ++ (wsX40 ++ (wq_c_Row_get ++ [])))
theorem gd_g_kindAt : ∀ w ∈ wq_g_kindAt, Gd w := List.forall_mem_cons.mpr ⟨Or.inl rfl, List.forall_mem_append.mpr ⟨gdl wo_g_kindAt (by decide +kernel), (List.forall_mem_append.mpr ⟨gd_wsX40, (List.forall_mem_append.mpr ⟨gd_c_Row_get, (fun _ h => absurd h List.not_mem_nil)⟩)⟩)⟩⟩
theorem in_g_kindAt : ∀ w ∈ wq_g_kindAt, w ∈ lw_tbl := List.forall_mem_cons.mpr ⟨List.mem_of_getElem? (i := 1298) (by decide +kernel), List.forall_mem_append.mpr ⟨inT wo_g_kindAt [309, 1293, 643, 644, 156] (by decide +kernel), (List.forall_mem_append.mpr ⟨in_wsX40, (List.forall_mem_append.mpr ⟨in_c_Row_get, (fun _ h => absurd h List.not_mem_nil)⟩)⟩)⟩⟩
set_option maxHeartbeats 4000000 in
set_option maxRecDepth 100000 in
theorem g_kindAt (l : Launch) (G : gG) (lw : Nat) (lt : Int32) (lg : Int32) (ls_ : Int32) (ll : Int32) (lp : Int32) (lz : Int32) (lc : Nat) (lc2 : Nat) (le : Nat) (le2 : Nat) (lo : Nat) (lo2 : Nat) (flc : Nat → Int32) (fle : Nat → Int32) (flo : Nat → Int32) (x : Int32) : Met l yX4_kindAt wq_g_kindAt ({ frames := 1, cells := 0, slots := 0, locals := 21 }) (va_Pc [.ref lw, .int x] (pP G [(lw, .inr (5, [.int lt, .int lg, .int ls_, .int ll, .int lp, .int lz, .ref lc, .ref le, .ref lo])), (lc, .inr (10, [.ref lc2])), (lc2, .inl (gI G, 300, .inl flc)), (le, .inr (10, [.ref le2])), (le2, .inl (gI G, 20, .inl fle)), (lo, .inr (10, [.ref lo2])), (lo2, .inl (gI G, 20, .inl flo))])) (vp_Si (fun r : Int32 => True)) 0 0 (fun _ => False) := by
  refine Met.ofW (cc := cX4_kindAt) (maxL := 2) (ret := (some .int)) (by decide) rfl ?_
  intro p e s m args below meth c s₁ B hml hv
  obtain ⟨rfl, hP, hB⟩ := hv
  have hx := B.exec
  have hb := B.bytes
  have hr := B.returns
  have hts := atoms_spec (ws := wq_g_kindAt) B.pre
  have hown : s.vm.findClass RX4 = some m.cls := findClass_of_methodNamed B.named
  have hlocks := B.notSynchronized
  have hK := hB.1
  have hP : va_P (gD G) vwCl [(lw, .inr (5, [.int lt, .int lg, .int ls_, .int ll, .int lp, .int lz, .ref lc, .ref le, .ref lo])), (lc, .inr (10, [.ref lc2])), (lc2, .inl (gI G, 300, .inl flc)), (le, .inr (10, [.ref le2])), (le2, .inl (gI G, 20, .inl fle)), (lo, .inr (10, [.ref lo2])), (lo2, .inl (gI G, 20, .inl flo))] s.heap := hP
  have hl := lv_entry ([.ref lw, .int x]) (n := 2) (Nat.le_of_ble_eq_true rfl)
  rw [lg_entry_eq]
  generalize (lg_sl ([.ref lw, .int x]) ++ List.replicate (2 - (lg_sl ([.ref lw, .int x])).length) Slot.unset).toArray = ls at hl ⊢
  have hl : lv_has ls 2 [(0, .ref lw), (1, .int x)] := hl
  refine lv_aload_n hx hb dX4_kindAt_0 rfl (lv_at hl 0 rfl) ?_
  refine va_get (D := gD G) (ci := 5) (v := .ref lc) (C := RX4) (T := TX4) (N := 9) hx hb hts (fun _ h9 => (List.mem_cons_of_mem _ (List.mem_append_right _ (List.mem_append_left _ h9)))) hown hK hP 0 rfl rfl 6 (by decide) (hts (.fieldLink RX4 14 "JudoHall$Laws" "code" "LJudoHall$Row;") (List.mem_cons_of_mem _ (List.mem_append_left _ (List.mem_of_getElem? (i := 0) rfl)))) (fun _ h9 => h9) rfl dX4_kindAt_1 ?_
  refine lv_iload_n hx hb dX4_kindAt_4 rfl (lv_at hl 1 rfl) ?_
  refine vp_callSi (va_Run.run (va_runV (As := [.int x]) (rest := []) ⟨hx, hb, hml, hown, hts⟩ (c_Row_get l G lc lc2 300 flc x (by decide)) (cwV 1 hts (gdV (List.mem_cons_of_mem _ (List.mem_append_left _ (List.mem_of_getElem? (i := 1) rfl))) (List.mem_cons_of_mem _ (List.mem_append_left _ (List.mem_of_getElem? (i := 2) rfl))) (List.mem_cons_of_mem _ (List.mem_append_left _ (List.mem_of_getElem? (i := 3) rfl))) (List.mem_cons_of_mem _ (List.mem_append_left _ (List.mem_of_getElem? (i := 4) rfl))) (fun w9 h9 => ⟨(List.mem_cons_of_mem _ (List.mem_append_right _ (List.mem_append_right _ (List.mem_append_left _ h9)))), gd_c_Row_get w9 h9⟩)) rfl rfl rfl kVX9_get ⟨Nat.le_of_ble_eq_true rfl, Nat.le_of_ble_eq_true rfl⟩) (preV_p (As := [.int x]) (hP.sub (ws' := [(lc, .inr (10, [.ref lc2])), (lc2, .inl (gI G, 300, .inl flc))]) [1, 2] rfl) hB rfl rfl) rfl rfl hl.1 rfl (lv_room (Nat.le_of_ble_eq_true rfl)) dX4_kindAt_5 ⟨Nat.le_of_ble_eq_true rfl, Nat.le_of_ble_eq_true rfl⟩)) (fun r_1 hr_1 => ?_)
  subst hr_1
  refine lv_sipush (v := 10000) hx hb dX4_kindAt_8 (by decide) ?_
  refine lv_idiv hx hb dX4_kindAt_11 (by decide) ?_
  exact W.iret (v := ((rg flc 300 x) / 10000)) hx hb hr (fun t ht hW => ⟨_, rfl, trivial, ht⟩) (fun q h => absurd h List.not_mem_nil) dX4_kindAt_12

def wo_g_valueAt : List Cond := [.fieldLink RX4 14 "JudoHall$Laws" "code" "LJudoHall$Row;", .methodLink RX4 46 yX9_get, .instanceMethod yX9_get, .selects RX9 yX9_get yX9_get, .initialized RX9]
def wq_g_valueAt : List Cond := .code yX4_valueAt cX4_valueAt 2 (some .int) :: (wo_g_valueAt ++ (wsX40 ++ (wq_c_Row_get ++ [])))
theorem gd_g_valueAt : ∀ w ∈ wq_g_valueAt, Gd w := List.forall_mem_cons.mpr ⟨Or.inl rfl, List.forall_mem_append.mpr ⟨gdl wo_g_valueAt (by decide +kernel), (List.forall_mem_append.mpr ⟨gd_wsX40, (List.forall_mem_append.mpr ⟨gd_c_Row_get, (fun _ h => absurd h List.not_mem_nil)⟩)⟩)⟩⟩
theorem in_g_valueAt : ∀ w ∈ wq_g_valueAt, w ∈ lw_tbl := List.forall_mem_cons.mpr ⟨List.mem_of_getElem? (i := 1315) (by decide +kernel), List.forall_mem_append.mpr ⟨inT wo_g_valueAt [309, 1293, 643, 644, 156] (by decide +kernel), (List.forall_mem_append.mpr ⟨in_wsX40, (List.forall_mem_append.mpr ⟨in_c_Row_get, (fun _ h => absurd h List.not_mem_nil)⟩)⟩)⟩⟩
set_option maxHeartbeats 4000000 in
set_option maxRecDepth 100000 in
theorem g_valueAt (l : Launch) (G : gG) (lw : Nat) (lt : Int32) (lg : Int32) (ls_ : Int32) (ll : Int32) (lp : Int32) (lz : Int32) (lc : Nat) (lc2 : Nat) (le : Nat) (le2 : Nat) (lo : Nat) (lo2 : Nat) (flc : Nat → Int32) (fle : Nat → Int32) (flo : Nat → Int32) (x : Int32) : Met l yX4_valueAt wq_g_valueAt ({ frames := 1, cells := 0, slots := 0, locals := 21 }) (va_Pc [.ref lw, .int x] (pP G [(lw, .inr (5, [.int lt, .int lg, .int ls_, .int ll, .int lp, .int lz, .ref lc, .ref le, .ref lo])), (lc, .inr (10, [.ref lc2])), (lc2, .inl (gI G, 300, .inl flc)), (le, .inr (10, [.ref le2])), (le2, .inl (gI G, 20, .inl fle)), (lo, .inr (10, [.ref lo2])), (lo2, .inl (gI G, 20, .inl flo))])) (vp_Si (fun r : Int32 => True)) 0 0 (fun _ => False) := by
  refine Met.ofW (cc := cX4_valueAt) (maxL := 2) (ret := (some .int)) (by decide) rfl ?_
  intro p e s m args below meth c s₁ B hml hv
  obtain ⟨rfl, hP, hB⟩ := hv
  have hx := B.exec
  have hb := B.bytes
  have hr := B.returns
  have hts := atoms_spec (ws := wq_g_valueAt) B.pre
  have hown : s.vm.findClass RX4 = some m.cls := findClass_of_methodNamed B.named
  have hlocks := B.notSynchronized
  have hK := hB.1
  have hP : va_P (gD G) vwCl [(lw, .inr (5, [.int lt, .int lg, .int ls_, .int ll, .int lp, .int lz, .ref lc, .ref le, .ref lo])), (lc, .inr (10, [.ref lc2])), (lc2, .inl (gI G, 300, .inl flc)), (le, .inr (10, [.ref le2])), (le2, .inl (gI G, 20, .inl fle)), (lo, .inr (10, [.ref lo2])), (lo2, .inl (gI G, 20, .inl flo))] s.heap := hP
  have hl := lv_entry ([.ref lw, .int x]) (n := 2) (Nat.le_of_ble_eq_true rfl)
  rw [lg_entry_eq]
  generalize (lg_sl ([.ref lw, .int x]) ++ List.replicate (2 - (lg_sl ([.ref lw, .int x])).length) Slot.unset).toArray = ls at hl ⊢
  have hl : lv_has ls 2 [(0, .ref lw), (1, .int x)] := hl
  refine lv_aload_n hx hb dX4_valueAt_0 rfl (lv_at hl 0 rfl) ?_
  refine va_get (D := gD G) (ci := 5) (v := .ref lc) (C := RX4) (T := TX4) (N := 9) hx hb hts (fun _ h9 => (List.mem_cons_of_mem _ (List.mem_append_right _ (List.mem_append_left _ h9)))) hown hK hP 0 rfl rfl 6 (by decide) (hts (.fieldLink RX4 14 "JudoHall$Laws" "code" "LJudoHall$Row;") (List.mem_cons_of_mem _ (List.mem_append_left _ (List.mem_of_getElem? (i := 0) rfl)))) (fun _ h9 => h9) rfl dX4_valueAt_1 ?_
  refine lv_iload_n hx hb dX4_valueAt_4 rfl (lv_at hl 1 rfl) ?_
  refine vp_callSi (va_Run.run (va_runV (As := [.int x]) (rest := []) ⟨hx, hb, hml, hown, hts⟩ (c_Row_get l G lc lc2 300 flc x (by decide)) (cwV 1 hts (gdV (List.mem_cons_of_mem _ (List.mem_append_left _ (List.mem_of_getElem? (i := 1) rfl))) (List.mem_cons_of_mem _ (List.mem_append_left _ (List.mem_of_getElem? (i := 2) rfl))) (List.mem_cons_of_mem _ (List.mem_append_left _ (List.mem_of_getElem? (i := 3) rfl))) (List.mem_cons_of_mem _ (List.mem_append_left _ (List.mem_of_getElem? (i := 4) rfl))) (fun w9 h9 => ⟨(List.mem_cons_of_mem _ (List.mem_append_right _ (List.mem_append_right _ (List.mem_append_left _ h9)))), gd_c_Row_get w9 h9⟩)) rfl rfl rfl kVX9_get ⟨Nat.le_of_ble_eq_true rfl, Nat.le_of_ble_eq_true rfl⟩) (preV_p (As := [.int x]) (hP.sub (ws' := [(lc, .inr (10, [.ref lc2])), (lc2, .inl (gI G, 300, .inl flc))]) [1, 2] rfl) hB rfl rfl) rfl rfl hl.1 rfl (lv_room (Nat.le_of_ble_eq_true rfl)) dX4_valueAt_5 ⟨Nat.le_of_ble_eq_true rfl, Nat.le_of_ble_eq_true rfl⟩)) (fun r_1 hr_1 => ?_)
  subst hr_1
  refine lv_sipush (v := 10000) hx hb dX4_valueAt_8 (by decide) ?_
  refine lv_irem hx hb dX4_valueAt_11 (by decide) ?_
  exact W.iret (v := ((rg flc 300 x) - (rg flc 300 x) / 10000 * 10000)) hx hb hr (fun t ht hW => ⟨_, rfl, trivial, ht⟩) (fun q h => absurd h List.not_mem_nil) dX4_valueAt_12
