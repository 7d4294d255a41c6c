def wo_c_push : List Cond := [.fieldLink RX10 14 "JudoHall$Tape" "bytes" "LJudoHall$Row;", .fieldLink RX10 18 "JudoHall$Tape" "length" "I", .methodLink RX10 22 yX9_set, .instanceMethod yX9_set, .selects RX9 yX9_set yX9_set, .initialized RX9]
def wq_c_push : List Cond := .code yX10_push cX10_push 3 none :: (wo_c_push ++ (wsX100 ++ (wq_c_Row_set ++ [])))
theorem gd_c_push : ∀ w ∈ wq_c_push, Gd w := List.forall_mem_cons.mpr ⟨Or.inl rfl, List.forall_mem_append.mpr ⟨gdl wo_c_push (by decide +kernel), (List.forall_mem_append.mpr ⟨gd_wsX100, (List.forall_mem_append.mpr ⟨gd_c_Row_set, (fun _ h => absurd h List.not_mem_nil)⟩)⟩)⟩⟩
theorem in_c_push : ∀ w ∈ wq_c_push, w ∈ lw_tbl := List.forall_mem_cons.mpr ⟨List.mem_of_getElem? (i := 596) (by decide +kernel), List.forall_mem_append.mpr ⟨inT wo_c_push [253, 255, 597, 598, 599, 156] (by decide +kernel), (List.forall_mem_append.mpr ⟨in_wsX100, (List.forall_mem_append.mpr ⟨in_c_Row_set, (fun _ h => absurd h List.not_mem_nil)⟩)⟩)⟩⟩
set_option maxHeartbeats 4000000 in
set_option maxRecDepth 100000 in
theorem c_push (l : Launch) (G : gG) (tp : Nat) (ty : Nat) (ty2 : Nat) (f : Nat → Int32) (t2 : Value) (t3 : Value) (t4 : Value) (t5 : Value) (y : Int32) (x : Int32) (sz : Nat) : Met l yX10_push wq_c_push ({ frames := 1, cells := 0, slots := 0, locals := 22 }) (va_Pc [.ref tp, .int x] (mP G [(tp, .inr (11, [.ref ty, .int y, t2, t3, t4, t5])), (ty, .inr (10, [.ref ty2])), (ty2, .inl (gI G, 3000, .inl f))] sz)) (va_Qv (fun _ : Unit => True) (fun (_ : Unit) (t : State) => ∃ (g : Nat → Int32), va_P (gD G) vwCl [(tp, .inr (11, [.ref ty, .int ((((y + 1) + 1) + 1) + 1), t2, t3, t4, t5])), (ty, .inr (10, [.ref ty2])), (ty2, .inl (gI G, 3000, .inl g))] t.heap ∧ va_D (va_A [(tp, .inr (11, [.ref ty, .int y, t2, t3, t4, t5])), (ty, .inr (10, [.ref ty2])), (ty2, .inl (gI G, 3000, .inl f))] sz) [(tp, .inr (11, [.ref ty, .int ((((y + 1) + 1) + 1) + 1), t2, t3, t4, t5])), (ty, .inr (10, [.ref ty2])), (ty2, .inl (gI G, 3000, .inl g))]) (va_A [(tp, .inr (11, [.ref ty, .int y, t2, t3, t4, t5])), (ty, .inr (10, [.ref ty2])), (ty2, .inl (gI G, 3000, .inl f))] sz)) 0 0 (va_A [(tp, .inr (11, [.ref ty, .int y, t2, t3, t4, t5])), (ty, .inr (10, [.ref ty2])), (ty2, .inl (gI G, 3000, .inl f))] sz) := by
  refine Met.ofW (cc := cX10_push) (maxL := 3) (ret := none) (by decide) rfl ?_
  intro p e s m args below meth c s₁ B hml hv
  obtain ⟨rfl, hsz, hP, hB, hD0⟩ := hv
  have hx := B.exec
  have hb := B.bytes
  have hr := B.returns
  have hts := atoms_spec (ws := wq_c_push) B.pre
  have hown : s.vm.findClass RX10 = some m.cls := findClass_of_methodNamed B.named
  have hlocks := B.notSynchronized
  have hK := hB.1
  subst hsz
  have hD := hD0.self (sz := s.heap.size)
  generalize hAe : va_A [(tp, .inr (11, [.ref ty, .int y, t2, t3, t4, t5])), (ty, .inr (10, [.ref ty2])), (ty2, .inl (gI G, 3000, .inl f))] s.heap.size = A at hD ⊢
  have hA : ∀ q : Nat, s.heap.size ≤ q → A q := fun q h => by rw [← hAe]; exact Or.inr h
  have hS : va_S A s.heap s.heap [] := va_S.rf
  have hP : va_P (gD G) vwCl [(tp, .inr (11, [.ref ty, .int y, t2, t3, t4, t5])), (ty, .inr (10, [.ref ty2])), (ty2, .inl (gI G, 3000, .inl f))] s.heap := hP
  have hD : va_D A [(tp, .inr (11, [.ref ty, .int y, t2, t3, t4, t5])), (ty, .inr (10, [.ref ty2])), (ty2, .inl (gI G, 3000, .inl f))] := hD
  have hl := lv_entry ([.ref tp, .int x]) (n := 3) (Nat.le_of_ble_eq_true rfl)
  rw [lg_entry_eq]
  generalize (lg_sl ([.ref tp, .int x]) ++ List.replicate (3 - (lg_sl ([.ref tp, .int x])).length) Slot.unset).toArray = ls at hl ⊢
  have hl : lv_has ls 3 [(0, .ref tp), (1, .int x)] := hl
  refine lv_bipush (v := 24) hx hb dX10_push_0 (by decide) ?_
  refine lv_istore_n (lv' := [(2, .int 24), (0, .ref tp), (1, .int x)]) hx hb dX10_push_2 rfl hl (by decide) rfl (fun ls hl => ?_)
  refine lv_iload_n hx hb dX10_push_3 rfl (lv_at hl 0 rfl) ?_
  refine lv_if_lt (tgt := 41) hx hb dX10_push_4 (by decide) (fun c9 => absurd c9 (by decide)) (fun _ => ?_)
  refine lv_aload_n hx hb dX10_push_7 rfl (lv_at hl 1 rfl) ?_
  refine va_get (D := gD G) (ci := 11) (v := .ref ty) (C := RX10) (T := TX10) (N := 6) hx hb hts (fun _ h9 => (List.mem_cons_of_mem _ (List.mem_append_right _ (List.mem_append_left _ h9)))) hown hK hP 0 rfl rfl 0 (by decide) (hts (.fieldLink RX10 14 "JudoHall$Tape" "bytes" "LJudoHall$Row;") (List.mem_cons_of_mem _ (List.mem_append_left _ (List.mem_of_getElem? (i := 0) rfl)))) (fun _ h9 => h9) rfl dX10_push_8 ?_
  refine lv_aload_n hx hb dX10_push_11 rfl (lv_at hl 1 rfl) ?_
  refine va_get (D := gD G) (ci := 11) (v := .int y) (C := RX10) (T := TX10) (N := 6) hx hb hts (fun _ h9 => (List.mem_cons_of_mem _ (List.mem_append_right _ (List.mem_append_left _ h9)))) hown hK hP 0 rfl rfl 1 (by decide) (hts (.fieldLink RX10 18 "JudoHall$Tape" "length" "I") (List.mem_cons_of_mem _ (List.mem_append_left _ (List.mem_of_getElem? (i := 1) rfl)))) (fun _ h9 => h9) rfl dX10_push_12 ?_
  refine lv_iload_n hx hb dX10_push_15 rfl (lv_at hl 2 rfl) ?_
  refine lv_iload_n hx hb dX10_push_16 rfl (lv_at hl 0 rfl) ?_
  refine lv_ishr hx hb dX10_push_17 ?_
  refine lv_sipush (v := 255) hx hb dX10_push_18 (by decide) ?_
  refine lv_iand hx hb dX10_push_21 ?_
  have hPc := hP.sub (ws' := [(ty, .inr (10, [.ref ty2])), (ty2, .inl (gI G, 3000, .inl f))]) [1, 2] rfl
  have hDc := hD.sub (ws' := [(ty, .inr (10, [.ref ty2])), (ty2, .inl (gI G, 3000, .inl f))]) [1, 2] (by decide) rfl
  have hFc := va_free (wc := [(ty, .inr (10, [.ref ty2])), (ty2, .inl (gI G, 3000, .inl f))]) hD hS hA [1, 2] rfl
  refine va_callv (va_runV (As := [.int y, .int ((x >>> (24 &&& 31)) &&& 255)]) (rest := []) ⟨hx, hb, hml, hown, hts⟩ (c_Row_set l G ty ty2 3000 f y ((x >>> (24 &&& 31)) &&& 255) s.heap.size (by decide)) (cwV 2 hts (gdV (List.mem_cons_of_mem _ (List.mem_append_left _ (List.mem_of_getElem? (i := 2) rfl))) (List.mem_cons_of_mem _ (List.mem_append_left _ (List.mem_of_getElem? (i := 3) rfl))) (List.mem_cons_of_mem _ (List.mem_append_left _ (List.mem_of_getElem? (i := 4) rfl))) (List.mem_cons_of_mem _ (List.mem_append_left _ (List.mem_of_getElem? (i := 5) rfl))) (fun w9 h9 => ⟨(List.mem_cons_of_mem _ (List.mem_append_right _ (List.mem_append_right _ (List.mem_append_left _ h9)))), gd_c_Row_set w9 h9⟩)) rfl rfl rfl kVX9_set ⟨Nat.le_of_ble_eq_true rfl, Nat.le_of_ble_eq_true rfl⟩) (preV_m (As := [.int y, .int ((x >>> (24 &&& 31)) &&& 255)]) hPc hB hDc rfl rfl) rfl rfl hl.1 rfl (lv_room (Nat.le_of_ble_eq_true rfl)) dX10_push_22 ⟨Nat.le_of_ble_eq_true rfl, Nat.le_of_ble_eq_true rfl⟩) hS (fun q _ h => hFc q h) hFc (fun u t H1 locs ht hvm hw hB1 hz1 hk1 hS => ?_)
  obtain ⟨hP1, hD1⟩ := hB1
  rw [ht] at hP1
  obtain ⟨hP, hD⟩ := va_join (wr := [(tp, .inr (11, [.ref ty, .int y, t2, t3, t4, t5]))]) (w1 := [(ty, .inr (10, [.ref ty2])), (ty2, .inl (gI G, 3000, .inl (rs f 3000 y ((x >>> (24 &&& 31)) &&& 255))))]) hP hD [1, 2] [0] rfl rfl (by decide) (by decide) hk1 hFc hP1 hD1
  generalize H1 = H at hP hS ⊢
  have hP : va_P (gD G) vwCl [(tp, .inr (11, [.ref ty, .int y, t2, t3, t4, t5])), (ty, .inr (10, [.ref ty2])), (ty2, .inl (gI G, 3000, .inl (rs f 3000 y ((x >>> (24 &&& 31)) &&& 255))))] H := hP
  have hD : va_D A [(tp, .inr (11, [.ref ty, .int y, t2, t3, t4, t5])), (ty, .inr (10, [.ref ty2])), (ty2, .inl (gI G, 3000, .inl (rs f 3000 y ((x >>> (24 &&& 31)) &&& 255))))] := hD
  refine W.eq (g2 := F0 m 25 ls []) rfl ?_
  refine lv_aload_n hx hb dX10_push_25 rfl (lv_at hl 1 rfl) ?_
  refine lv_dup hx hb dX10_push_26 rfl ?_
  refine va_get (D := gD G) (ci := 11) (v := .int y) (C := RX10) (T := TX10) (N := 6) hx hb hts (fun _ h9 => (List.mem_cons_of_mem _ (List.mem_append_right _ (List.mem_append_left _ h9)))) hown hK hP 0 rfl rfl 1 (by decide) (hts (.fieldLink RX10 18 "JudoHall$Tape" "length" "I") (List.mem_cons_of_mem _ (List.mem_append_left _ (List.mem_of_getElem? (i := 1) rfl)))) (fun _ h9 => h9) rfl dX10_push_27 ?_
  refine lv_iconst (v := 1) hx hb dX10_push_30 (by decide) ?_
  refine lv_iadd hx hb dX10_push_31 ?_
  refine va_put (D := gD G) (ci := 11) (v := .int (y + 1)) (ty := tyX10 1) (C := RX10) (T := TX10) (N := 6) hx hb hts (fun _ h9 => (List.mem_cons_of_mem _ (List.mem_append_right _ (List.mem_append_left _ h9)))) tyX10 tyX10_ok nmX10 hown hK hP hD hS 0 rfl rfl 1 (by decide) (hts (.fieldLink RX10 18 "JudoHall$Tape" "length" "I") (List.mem_cons_of_mem _ (List.mem_append_left _ (List.mem_of_getElem? (i := 1) rfl)))) (fun _ h9 => h9) rfl (tyX10_ok 1 (by decide)) rfl rfl (Nat.le_of_ble_eq_true rfl) dX10_push_32 (fun H locs hP hD hS => ?_)
  have hP : va_P (gD G) vwCl [(tp, .inr (11, [.ref ty, .int (y + 1), t2, t3, t4, t5])), (ty, .inr (10, [.ref ty2])), (ty2, .inl (gI G, 3000, .inl (rs f 3000 y ((x >>> (24 &&& 31)) &&& 255))))] H := hP
  have hD : va_D A [(tp, .inr (11, [.ref ty, .int (y + 1), t2, t3, t4, t5])), (ty, .inr (10, [.ref ty2])), (ty2, .inl (gI G, 3000, .inl (rs f 3000 y ((x >>> (24 &&& 31)) &&& 255))))] := hD
  refine lv_iinc (v := 16) (lv' := [(2, .int 16), (0, .ref tp), (1, .int x)]) hx hb dX10_push_35 hl (k := 0) rfl (by decide) (by decide) rfl (fun ls hl => ?_)
  refine lv_goto (tgt := 3) hx hb dX10_push_38 (by decide) ?_
  refine lv_iload_n hx hb dX10_push_3 rfl (lv_at hl 0 rfl) ?_
  refine lv_if_lt (tgt := 41) hx hb dX10_push_4 (by decide) (fun c9 => absurd c9 (by decide)) (fun _ => ?_)
  refine lv_aload_n hx hb dX10_push_7 rfl (lv_at hl 1 rfl) ?_
  refine va_get (D := gD G) (ci := 11) (v := .ref ty) (C := RX10) (T := TX10) (N := 6) hx hb hts (fun _ h9 => (List.mem_cons_of_mem _ (List.mem_append_right _ (List.mem_append_left _ h9)))) hown hK hP 0 rfl rfl 0 (by decide) (hts (.fieldLink RX10 14 "JudoHall$Tape" "bytes" "LJudoHall$Row;") (List.mem_cons_of_mem _ (List.mem_append_left _ (List.mem_of_getElem? (i := 0) rfl)))) (fun _ h9 => h9) rfl dX10_push_8 ?_
  refine lv_aload_n hx hb dX10_push_11 rfl (lv_at hl 1 rfl) ?_
  refine va_get (D := gD G) (ci := 11) (v := .int (y + 1)) (C := RX10) (T := TX10) (N := 6) hx hb hts (fun _ h9 => (List.mem_cons_of_mem _ (List.mem_append_right _ (List.mem_append_left _ h9)))) hown hK hP 0 rfl rfl 1 (by decide) (hts (.fieldLink RX10 18 "JudoHall$Tape" "length" "I") (List.mem_cons_of_mem _ (List.mem_append_left _ (List.mem_of_getElem? (i := 1) rfl)))) (fun _ h9 => h9) rfl dX10_push_12 ?_
  refine lv_iload_n hx hb dX10_push_15 rfl (lv_at hl 2 rfl) ?_
  refine lv_iload_n hx hb dX10_push_16 rfl (lv_at hl 0 rfl) ?_
  refine lv_ishr hx hb dX10_push_17 ?_
  refine lv_sipush (v := 255) hx hb dX10_push_18 (by decide) ?_
  refine lv_iand hx hb dX10_push_21 ?_
  have hPc := hP.sub (ws' := [(ty, .inr (10, [.ref ty2])), (ty2, .inl (gI G, 3000, .inl (rs f 3000 y ((x >>> (24 &&& 31)) &&& 255))))]) [1, 2] rfl
  have hDc := hD.sub (ws' := [(ty, .inr (10, [.ref ty2])), (ty2, .inl (gI G, 3000, .inl (rs f 3000 y ((x >>> (24 &&& 31)) &&& 255))))]) [1, 2] (by decide) rfl
  have hFc := va_free (wc := [(ty, .inr (10, [.ref ty2])), (ty2, .inl (gI G, 3000, .inl (rs f 3000 y ((x >>> (24 &&& 31)) &&& 255))))]) hD hS hA [1, 2] rfl
  refine va_callv (va_runV (As := [.int (y + 1), .int ((x >>> (16 &&& 31)) &&& 255)]) (rest := []) ⟨hx, hb, hml, hown, hts⟩ (c_Row_set l G ty ty2 3000 (rs f 3000 y ((x >>> (24 &&& 31)) &&& 255)) (y + 1) ((x >>> (16 &&& 31)) &&& 255) H.size (by decide)) (cwV 2 hts (gdV (List.mem_cons_of_mem _ (List.mem_append_left _ (List.mem_of_getElem? (i := 2) rfl))) (List.mem_cons_of_mem _ (List.mem_append_left _ (List.mem_of_getElem? (i := 3) rfl))) (List.mem_cons_of_mem _ (List.mem_append_left _ (List.mem_of_getElem? (i := 4) rfl))) (List.mem_cons_of_mem _ (List.mem_append_left _ (List.mem_of_getElem? (i := 5) rfl))) (fun w9 h9 => ⟨(List.mem_cons_of_mem _ (List.mem_append_right _ (List.mem_append_right _ (List.mem_append_left _ h9)))), gd_c_Row_set w9 h9⟩)) rfl rfl rfl kVX9_set ⟨Nat.le_of_ble_eq_true rfl, Nat.le_of_ble_eq_true rfl⟩) (preV_m (As := [.int (y + 1), .int ((x >>> (16 &&& 31)) &&& 255)]) hPc hB hDc rfl rfl) rfl rfl hl.1 rfl (lv_room (Nat.le_of_ble_eq_true rfl)) dX10_push_22 ⟨Nat.le_of_ble_eq_true rfl, Nat.le_of_ble_eq_true rfl⟩) hS (fun q _ h => hFc q h) hFc (fun u t H1 locs ht hvm hw hB1 hz1 hk1 hS => ?_)
  obtain ⟨hP1, hD1⟩ := hB1
  rw [ht] at hP1
  obtain ⟨hP, hD⟩ := va_join (wr := [(tp, .inr (11, [.ref ty, .int (y + 1), t2, t3, t4, t5]))]) (w1 := [(ty, .inr (10, [.ref ty2])), (ty2, .inl (gI G, 3000, .inl (rs (rs f 3000 y ((x >>> (24 &&& 31)) &&& 255)) 3000 (y + 1) ((x >>> (16 &&& 31)) &&& 255))))]) hP hD [1, 2] [0] rfl rfl (by decide) (by decide) hk1 hFc hP1 hD1
  generalize H1 = H at hP hS ⊢
  have hP : va_P (gD G) vwCl [(tp, .inr (11, [.ref ty, .int (y + 1), t2, t3, t4, t5])), (ty, .inr (10, [.ref ty2])), (ty2, .inl (gI G, 3000, .inl (rs (rs f 3000 y ((x >>> (24 &&& 31)) &&& 255)) 3000 (y + 1) ((x >>> (16 &&& 31)) &&& 255))))] H := hP
  have hD : va_D A [(tp, .inr (11, [.ref ty, .int (y + 1), t2, t3, t4, t5])), (ty, .inr (10, [.ref ty2])), (ty2, .inl (gI G, 3000, .inl (rs (rs f 3000 y ((x >>> (24 &&& 31)) &&& 255)) 3000 (y + 1) ((x >>> (16 &&& 31)) &&& 255))))] := hD
  refine W.eq (g2 := F0 m 25 ls []) rfl ?_
  refine lv_aload_n hx hb dX10_push_25 rfl (lv_at hl 1 rfl) ?_
  refine lv_dup hx hb dX10_push_26 rfl ?_
  refine va_get (D := gD G) (ci := 11) (v := .int (y + 1)) (C := RX10) (T := TX10) (N := 6) hx hb hts (fun _ h9 => (List.mem_cons_of_mem _ (List.mem_append_right _ (List.mem_append_left _ h9)))) hown hK hP 0 rfl rfl 1 (by decide) (hts (.fieldLink RX10 18 "JudoHall$Tape" "length" "I") (List.mem_cons_of_mem _ (List.mem_append_left _ (List.mem_of_getElem? (i := 1) rfl)))) (fun _ h9 => h9) rfl dX10_push_27 ?_
  refine lv_iconst (v := 1) hx hb dX10_push_30 (by decide) ?_
  refine lv_iadd hx hb dX10_push_31 ?_
  refine va_put (D := gD G) (ci := 11) (v := .int ((y + 1) + 1)) (ty := tyX10 1) (C := RX10) (T := TX10) (N := 6) hx hb hts (fun _ h9 => (List.mem_cons_of_mem _ (List.mem_append_right _ (List.mem_append_left _ h9)))) tyX10 tyX10_ok nmX10 hown hK hP hD hS 0 rfl rfl 1 (by decide) (hts (.fieldLink RX10 18 "JudoHall$Tape" "length" "I") (List.mem_cons_of_mem _ (List.mem_append_left _ (List.mem_of_getElem? (i := 1) rfl)))) (fun _ h9 => h9) rfl (tyX10_ok 1 (by decide)) rfl rfl (Nat.le_of_ble_eq_true rfl) dX10_push_32 (fun H locs hP hD hS => ?_)
  have hP : va_P (gD G) vwCl [(tp, .inr (11, [.ref ty, .int ((y + 1) + 1), t2, t3, t4, t5])), (ty, .inr (10, [.ref ty2])), (ty2, .inl (gI G, 3000, .inl (rs (rs f 3000 y ((x >>> (24 &&& 31)) &&& 255)) 3000 (y + 1) ((x >>> (16 &&& 31)) &&& 255))))] H := hP
  have hD : va_D A [(tp, .inr (11, [.ref ty, .int ((y + 1) + 1), t2, t3, t4, t5])), (ty, .inr (10, [.ref ty2])), (ty2, .inl (gI G, 3000, .inl (rs (rs f 3000 y ((x >>> (24 &&& 31)) &&& 255)) 3000 (y + 1) ((x >>> (16 &&& 31)) &&& 255))))] := hD
  refine lv_iinc (v := 8) (lv' := [(2, .int 8), (0, .ref tp), (1, .int x)]) hx hb dX10_push_35 hl (k := 0) rfl (by decide) (by decide) rfl (fun ls hl => ?_)
  refine lv_goto (tgt := 3) hx hb dX10_push_38 (by decide) ?_
  refine lv_iload_n hx hb dX10_push_3 rfl (lv_at hl 0 rfl) ?_
  refine lv_if_lt (tgt := 41) hx hb dX10_push_4 (by decide) (fun c9 => absurd c9 (by decide)) (fun _ => ?_)
  refine lv_aload_n hx hb dX10_push_7 rfl (lv_at hl 1 rfl) ?_
  refine va_get (D := gD G) (ci := 11) (v := .ref ty) (C := RX10) (T := TX10) (N := 6) hx hb hts (fun _ h9 => (List.mem_cons_of_mem _ (List.mem_append_right _ (List.mem_append_left _ h9)))) hown hK hP 0 rfl rfl 0 (by decide) (hts (.fieldLink RX10 14 "JudoHall$Tape" "bytes" "LJudoHall$Row;") (List.mem_cons_of_mem _ (List.mem_append_left _ (List.mem_of_getElem? (i := 0) rfl)))) (fun _ h9 => h9) rfl dX10_push_8 ?_
  refine lv_aload_n hx hb dX10_push_11 rfl (lv_at hl 1 rfl) ?_
  refine va_get (D := gD G) (ci := 11) (v := .int ((y + 1) + 1)) (C := RX10) (T := TX10) (N := 6) hx hb hts (fun _ h9 => (List.mem_cons_of_mem _ (List.mem_append_right _ (List.mem_append_left _ h9)))) hown hK hP 0 rfl rfl 1 (by decide) (hts (.fieldLink RX10 18 "JudoHall$Tape" "length" "I") (List.mem_cons_of_mem _ (List.mem_append_left _ (List.mem_of_getElem? (i := 1) rfl)))) (fun _ h9 => h9) rfl dX10_push_12 ?_
  refine lv_iload_n hx hb dX10_push_15 rfl (lv_at hl 2 rfl) ?_
  refine lv_iload_n hx hb dX10_push_16 rfl (lv_at hl 0 rfl) ?_
  refine lv_ishr hx hb dX10_push_17 ?_
  refine lv_sipush (v := 255) hx hb dX10_push_18 (by decide) ?_
  refine lv_iand hx hb dX10_push_21 ?_
  have hPc := hP.sub (ws' := [(ty, .inr (10, [.ref ty2])), (ty2, .inl (gI G, 3000, .inl (rs (rs f 3000 y ((x >>> (24 &&& 31)) &&& 255)) 3000 (y + 1) ((x >>> (16 &&& 31)) &&& 255))))]) [1, 2] rfl
  have hDc := hD.sub (ws' := [(ty, .inr (10, [.ref ty2])), (ty2, .inl (gI G, 3000, .inl (rs (rs f 3000 y ((x >>> (24 &&& 31)) &&& 255)) 3000 (y + 1) ((x >>> (16 &&& 31)) &&& 255))))]) [1, 2] (by decide) rfl
  have hFc := va_free (wc := [(ty, .inr (10, [.ref ty2])), (ty2, .inl (gI G, 3000, .inl (rs (rs f 3000 y ((x >>> (24 &&& 31)) &&& 255)) 3000 (y + 1) ((x >>> (16 &&& 31)) &&& 255))))]) hD hS hA [1, 2] rfl
  refine va_callv (va_runV (As := [.int ((y + 1) + 1), .int ((x >>> (8 &&& 31)) &&& 255)]) (rest := []) ⟨hx, hb, hml, hown, hts⟩ (c_Row_set l G ty ty2 3000 (rs (rs f 3000 y ((x >>> (24 &&& 31)) &&& 255)) 3000 (y + 1) ((x >>> (16 &&& 31)) &&& 255)) ((y + 1) + 1) ((x >>> (8 &&& 31)) &&& 255) H.size (by decide)) (cwV 2 hts (gdV (List.mem_cons_of_mem _ (List.mem_append_left _ (List.mem_of_getElem? (i := 2) rfl))) (List.mem_cons_of_mem _ (List.mem_append_left _ (List.mem_of_getElem? (i := 3) rfl))) (List.mem_cons_of_mem _ (List.mem_append_left _ (List.mem_of_getElem? (i := 4) rfl))) (List.mem_cons_of_mem _ (List.mem_append_left _ (List.mem_of_getElem? (i := 5) rfl))) (fun w9 h9 => ⟨(List.mem_cons_of_mem _ (List.mem_append_right _ (List.mem_append_right _ (List.mem_append_left _ h9)))), gd_c_Row_set w9 h9⟩)) rfl rfl rfl kVX9_set ⟨Nat.le_of_ble_eq_true rfl, Nat.le_of_ble_eq_true rfl⟩) (preV_m (As := [.int ((y + 1) + 1), .int ((x >>> (8 &&& 31)) &&& 255)]) hPc hB hDc rfl rfl) rfl rfl hl.1 rfl (lv_room (Nat.le_of_ble_eq_true rfl)) dX10_push_22 ⟨Nat.le_of_ble_eq_true rfl, Nat.le_of_ble_eq_true rfl⟩) hS (fun q _ h => hFc q h) hFc (fun u t H1 locs ht hvm hw hB1 hz1 hk1 hS => ?_)
  obtain ⟨hP1, hD1⟩ := hB1
  rw [ht] at hP1
  obtain ⟨hP, hD⟩ := va_join (wr := [(tp, .inr (11, [.ref ty, .int ((y + 1) + 1), t2, t3, t4, t5]))]) (w1 := [(ty, .inr (10, [.ref ty2])), (ty2, .inl (gI G, 3000, .inl (rs (rs (rs f 3000 y ((x >>> (24 &&& 31)) &&& 255)) 3000 (y + 1) ((x >>> (16 &&& 31)) &&& 255)) 3000 ((y + 1) + 1) ((x >>> (8 &&& 31)) &&& 255))))]) hP hD [1, 2] [0] rfl rfl (by decide) (by decide) hk1 hFc hP1 hD1
  generalize H1 = H at hP hS ⊢
  have hP : va_P (gD G) vwCl [(tp, .inr (11, [.ref ty, .int ((y + 1) + 1), t2, t3, t4, t5])), (ty, .inr (10, [.ref ty2])), (ty2, .inl (gI G, 3000, .inl (rs (rs (rs f 3000 y ((x >>> (24 &&& 31)) &&& 255)) 3000 (y + 1) ((x >>> (16 &&& 31)) &&& 255)) 3000 ((y + 1) + 1) ((x >>> (8 &&& 31)) &&& 255))))] H := hP
  have hD : va_D A [(tp, .inr (11, [.ref ty, .int ((y + 1) + 1), t2, t3, t4, t5])), (ty, .inr (10, [.ref ty2])), (ty2, .inl (gI G, 3000, .inl (rs (rs (rs f 3000 y ((x >>> (24 &&& 31)) &&& 255)) 3000 (y + 1) ((x >>> (16 &&& 31)) &&& 255)) 3000 ((y + 1) + 1) ((x >>> (8 &&& 31)) &&& 255))))] := hD
  refine W.eq (g2 := F0 m 25 ls []) rfl ?_
  refine lv_aload_n hx hb dX10_push_25 rfl (lv_at hl 1 rfl) ?_
  refine lv_dup hx hb dX10_push_26 rfl ?_
  refine va_get (D := gD G) (ci := 11) (v := .int ((y + 1) + 1)) (C := RX10) (T := TX10) (N := 6) hx hb hts (fun _ h9 => (List.mem_cons_of_mem _ (List.mem_append_right _ (List.mem_append_left _ h9)))) hown hK hP 0 rfl rfl 1 (by decide) (hts (.fieldLink RX10 18 "JudoHall$Tape" "length" "I") (List.mem_cons_of_mem _ (List.mem_append_left _ (List.mem_of_getElem? (i := 1) rfl)))) (fun _ h9 => h9) rfl dX10_push_27 ?_
  refine lv_iconst (v := 1) hx hb dX10_push_30 (by decide) ?_
  refine lv_iadd hx hb dX10_push_31 ?_
  refine va_put (D := gD G) (ci := 11) (v := .int (((y + 1) + 1) + 1)) (ty := tyX10 1) (C := RX10) (T := TX10) (N := 6) hx hb hts (fun _ h9 => (List.mem_cons_of_mem _ (List.mem_append_right _ (List.mem_append_left _ h9)))) tyX10 tyX10_ok nmX10 hown hK hP hD hS 0 rfl rfl 1 (by decide) (hts (.fieldLink RX10 18 "JudoHall$Tape" "length" "I") (List.mem_cons_of_mem _ (List.mem_append_left _ (List.mem_of_getElem? (i := 1) rfl)))) (fun _ h9 => h9) rfl (tyX10_ok 1 (by decide)) rfl rfl (Nat.le_of_ble_eq_true rfl) dX10_push_32 (fun H locs hP hD hS => ?_)
  have hP : va_P (gD G) vwCl [(tp, .inr (11, [.ref ty, .int (((y + 1) + 1) + 1), t2, t3, t4, t5])), (ty, .inr (10, [.ref ty2])), (ty2, .inl (gI G, 3000, .inl (rs (rs (rs f 3000 y ((x >>> (24 &&& 31)) &&& 255)) 3000 (y + 1) ((x >>> (16 &&& 31)) &&& 255)) 3000 ((y + 1) + 1) ((x >>> (8 &&& 31)) &&& 255))))] H := hP
  have hD : va_D A [(tp, .inr (11, [.ref ty, .int (((y + 1) + 1) + 1), t2, t3, t4, t5])), (ty, .inr (10, [.ref ty2])), (ty2, .inl (gI G, 3000, .inl (rs (rs (rs f 3000 y ((x >>> (24 &&& 31)) &&& 255)) 3000 (y + 1) ((x >>> (16 &&& 31)) &&& 255)) 3000 ((y + 1) + 1) ((x >>> (8 &&& 31)) &&& 255))))] := hD
  refine lv_iinc (v := 0) (lv' := [(2, .int 0), (0, .ref tp), (1, .int x)]) hx hb dX10_push_35 hl (k := 0) rfl (by decide) (by decide) rfl (fun ls hl => ?_)
  refine lv_goto (tgt := 3) hx hb dX10_push_38 (by decide) ?_
  refine lv_iload_n hx hb dX10_push_3 rfl (lv_at hl 0 rfl) ?_
  refine lv_if_lt (tgt := 41) hx hb dX10_push_4 (by decide) (fun c9 => absurd c9 (by decide)) (fun _ => ?_)
  refine lv_aload_n hx hb dX10_push_7 rfl (lv_at hl 1 rfl) ?_
  refine va_get (D := gD G) (ci := 11) (v := .ref ty) (C := RX10) (T := TX10) (N := 6) hx hb hts (fun _ h9 => (List.mem_cons_of_mem _ (List.mem_append_right _ (List.mem_append_left _ h9)))) hown hK hP 0 rfl rfl 0 (by decide) (hts (.fieldLink RX10 14 "JudoHall$Tape" "bytes" "LJudoHall$Row;") (List.mem_cons_of_mem _ (List.mem_append_left _ (List.mem_of_getElem? (i := 0) rfl)))) (fun _ h9 => h9) rfl dX10_push_8 ?_
  refine lv_aload_n hx hb dX10_push_11 rfl (lv_at hl 1 rfl) ?_
  refine va_get (D := gD G) (ci := 11) (v := .int (((y + 1) + 1) + 1)) (C := RX10) (T := TX10) (N := 6) hx hb hts (fun _ h9 => (List.mem_cons_of_mem _ (List.mem_append_right _ (List.mem_append_left _ h9)))) hown hK hP 0 rfl rfl 1 (by decide) (hts (.fieldLink RX10 18 "JudoHall$Tape" "length" "I") (List.mem_cons_of_mem _ (List.mem_append_left _ (List.mem_of_getElem? (i := 1) rfl)))) (fun _ h9 => h9) rfl dX10_push_12 ?_
  refine lv_iload_n hx hb dX10_push_15 rfl (lv_at hl 2 rfl) ?_
  refine lv_iload_n hx hb dX10_push_16 rfl (lv_at hl 0 rfl) ?_
  refine lv_ishr hx hb dX10_push_17 ?_
  refine lv_sipush (v := 255) hx hb dX10_push_18 (by decide) ?_
  refine lv_iand hx hb dX10_push_21 ?_
  have hPc := hP.sub (ws' := [(ty, .inr (10, [.ref ty2])), (ty2, .inl (gI G, 3000, .inl (rs (rs (rs f 3000 y ((x >>> (24 &&& 31)) &&& 255)) 3000 (y + 1) ((x >>> (16 &&& 31)) &&& 255)) 3000 ((y + 1) + 1) ((x >>> (8 &&& 31)) &&& 255))))]) [1, 2] rfl
  have hDc := hD.sub (ws' := [(ty, .inr (10, [.ref ty2])), (ty2, .inl (gI G, 3000, .inl (rs (rs (rs f 3000 y ((x >>> (24 &&& 31)) &&& 255)) 3000 (y + 1) ((x >>> (16 &&& 31)) &&& 255)) 3000 ((y + 1) + 1) ((x >>> (8 &&& 31)) &&& 255))))]) [1, 2] (by decide) rfl
  have hFc := va_free (wc := [(ty, .inr (10, [.ref ty2])), (ty2, .inl (gI G, 3000, .inl (rs (rs (rs f 3000 y ((x >>> (24 &&& 31)) &&& 255)) 3000 (y + 1) ((x >>> (16 &&& 31)) &&& 255)) 3000 ((y + 1) + 1) ((x >>> (8 &&& 31)) &&& 255))))]) hD hS hA [1, 2] rfl
  refine va_callv (va_runV (As := [.int (((y + 1) + 1) + 1), .int ((x >>> (0 &&& 31)) &&& 255)]) (rest := []) ⟨hx, hb, hml, hown, hts⟩ (c_Row_set l G ty ty2 3000 (rs (rs (rs f 3000 y ((x >>> (24 &&& 31)) &&& 255)) 3000 (y + 1) ((x >>> (16 &&& 31)) &&& 255)) 3000 ((y + 1) + 1) ((x >>> (8 &&& 31)) &&& 255)) (((y + 1) + 1) + 1) ((x >>> (0 &&& 31)) &&& 255) H.size (by decide)) (cwV 2 hts (gdV (List.mem_cons_of_mem _ (List.mem_append_left _ (List.mem_of_getElem? (i := 2) rfl))) (List.mem_cons_of_mem _ (List.mem_append_left _ (List.mem_of_getElem? (i := 3) rfl))) (List.mem_cons_of_mem _ (List.mem_append_left _ (List.mem_of_getElem? (i := 4) rfl))) (List.mem_cons_of_mem _ (List.mem_append_left _ (List.mem_of_getElem? (i := 5) rfl))) (fun w9 h9 => ⟨(List.mem_cons_of_mem _ (List.mem_append_right _ (List.mem_append_right _ (List.mem_append_left _ h9)))), gd_c_Row_set w9 h9⟩)) rfl rfl rfl kVX9_set ⟨Nat.le_of_ble_eq_true rfl, Nat.le_of_ble_eq_true rfl⟩) (preV_m (As := [.int (((y + 1) + 1) + 1), .int ((x >>> (0 &&& 31)) &&& 255)]) hPc hB hDc rfl rfl) rfl rfl hl.1 rfl (lv_room (Nat.le_of_ble_eq_true rfl)) dX10_push_22 ⟨Nat.le_of_ble_eq_true rfl, Nat.le_of_ble_eq_true rfl⟩) hS (fun q _ h => hFc q h) hFc (fun u t H1 locs ht hvm hw hB1 hz1 hk1 hS => ?_)
  obtain ⟨hP1, hD1⟩ := hB1
  rw [ht] at hP1
  obtain ⟨hP, hD⟩ := va_join (wr := [(tp, .inr (11, [.ref ty, .int (((y + 1) + 1) + 1), t2, t3, t4, t5]))]) (w1 := [(ty, .inr (10, [.ref ty2])), (ty2, .inl (gI G, 3000, .inl (rs (rs (rs (rs f 3000 y ((x >>> (24 &&& 31)) &&& 255)) 3000 (y + 1) ((x >>> (16 &&& 31)) &&& 255)) 3000 ((y + 1) + 1) ((x >>> (8 &&& 31)) &&& 255)) 3000 (((y + 1) + 1) + 1) ((x >>> (0 &&& 31)) &&& 255))))]) hP hD [1, 2] [0] rfl rfl (by decide) (by decide) hk1 hFc hP1 hD1
  generalize H1 = H at hP hS ⊢
  have hP : va_P (gD G) vwCl [(tp, .inr (11, [.ref ty, .int (((y + 1) + 1) + 1), t2, t3, t4, t5])), (ty, .inr (10, [.ref ty2])), (ty2, .inl (gI G, 3000, .inl (rs (rs (rs (rs f 3000 y ((x >>> (24 &&& 31)) &&& 255)) 3000 (y + 1) ((x >>> (16 &&& 31)) &&& 255)) 3000 ((y + 1) + 1) ((x >>> (8 &&& 31)) &&& 255)) 3000 (((y + 1) + 1) + 1) ((x >>> (0 &&& 31)) &&& 255))))] H := hP
  have hD : va_D A [(tp, .inr (11, [.ref ty, .int (((y + 1) + 1) + 1), t2, t3, t4, t5])), (ty, .inr (10, [.ref ty2])), (ty2, .inl (gI G, 3000, .inl (rs (rs (rs (rs f 3000 y ((x >>> (24 &&& 31)) &&& 255)) 3000 (y + 1) ((x >>> (16 &&& 31)) &&& 255)) 3000 ((y + 1) + 1) ((x >>> (8 &&& 31)) &&& 255)) 3000 (((y + 1) + 1) + 1) ((x >>> (0 &&& 31)) &&& 255))))] := hD
  refine W.eq (g2 := F0 m 25 ls []) rfl ?_
  refine lv_aload_n hx hb dX10_push_25 rfl (lv_at hl 1 rfl) ?_
  refine lv_dup hx hb dX10_push_26 rfl ?_
  refine va_get (D := gD G) (ci := 11) (v := .int (((y + 1) + 1) + 1)) (C := RX10) (T := TX10) (N := 6) hx hb hts (fun _ h9 => (List.mem_cons_of_mem _ (List.mem_append_right _ (List.mem_append_left _ h9)))) hown hK hP 0 rfl rfl 1 (by decide) (hts (.fieldLink RX10 18 "JudoHall$Tape" "length" "I") (List.mem_cons_of_mem _ (List.mem_append_left _ (List.mem_of_getElem? (i := 1) rfl)))) (fun _ h9 => h9) rfl dX10_push_27 ?_
  refine lv_iconst (v := 1) hx hb dX10_push_30 (by decide) ?_
  refine lv_iadd hx hb dX10_push_31 ?_
  refine va_put (D := gD G) (ci := 11) (v := .int ((((y + 1) + 1) + 1) + 1)) (ty := tyX10 1) (C := RX10) (T := TX10) (N := 6) hx hb hts (fun _ h9 => (List.mem_cons_of_mem _ (List.mem_append_right _ (List.mem_append_left _ h9)))) tyX10 tyX10_ok nmX10 hown hK hP hD hS 0 rfl rfl 1 (by decide) (hts (.fieldLink RX10 18 "JudoHall$Tape" "length" "I") (List.mem_cons_of_mem _ (List.mem_append_left _ (List.mem_of_getElem? (i := 1) rfl)))) (fun _ h9 => h9) rfl (tyX10_ok 1 (by decide)) rfl rfl (Nat.le_of_ble_eq_true rfl) dX10_push_32 (fun H locs hP hD hS => ?_)
  have hP : va_P (gD G) vwCl [(tp, .inr (11, [.ref ty, .int ((((y + 1) + 1) + 1) + 1), t2, t3, t4, t5])), (ty, .inr (10, [.ref ty2])), (ty2, .inl (gI G, 3000, .inl (rs (rs (rs (rs f 3000 y ((x >>> (24 &&& 31)) &&& 255)) 3000 (y + 1) ((x >>> (16 &&& 31)) &&& 255)) 3000 ((y + 1) + 1) ((x >>> (8 &&& 31)) &&& 255)) 3000 (((y + 1) + 1) + 1) ((x >>> (0 &&& 31)) &&& 255))))] H := hP
  have hD : va_D A [(tp, .inr (11, [.ref ty, .int ((((y + 1) + 1) + 1) + 1), t2, t3, t4, t5])), (ty, .inr (10, [.ref ty2])), (ty2, .inl (gI G, 3000, .inl (rs (rs (rs (rs f 3000 y ((x >>> (24 &&& 31)) &&& 255)) 3000 (y + 1) ((x >>> (16 &&& 31)) &&& 255)) 3000 ((y + 1) + 1) ((x >>> (8 &&& 31)) &&& 255)) 3000 (((y + 1) + 1) + 1) ((x >>> (0 &&& 31)) &&& 255))))] := hD
  refine lv_iinc (v := (-8)) (lv' := [(2, .int (-8)), (0, .ref tp), (1, .int x)]) hx hb dX10_push_35 hl (k := 0) rfl (by decide) (by decide) rfl (fun ls hl => ?_)
  refine lv_goto (tgt := 3) hx hb dX10_push_38 (by decide) ?_
  refine lv_iload_n hx hb dX10_push_3 rfl (lv_at hl 0 rfl) ?_
  refine lv_if_lt (tgt := 41) hx hb dX10_push_4 (by decide) (fun _ => ?_) (fun c9 => absurd (by decide) c9)
  have hP9 := hP.sub (ws' := [(tp, .inr (11, [.ref ty, .int ((((y + 1) + 1) + 1) + 1), t2, t3, t4, t5])), (ty, .inr (10, [.ref ty2])), (ty2, .inl (gI G, 3000, .inl (rs (rs (rs (rs f 3000 y ((x >>> (24 &&& 31)) &&& 255)) 3000 (y + 1) ((x >>> (16 &&& 31)) &&& 255)) 3000 ((y + 1) + 1) ((x >>> (8 &&& 31)) &&& 255)) 3000 (((y + 1) + 1) + 1) ((x >>> (0 &&& 31)) &&& 255))))]) [0, 1, 2] rfl
  have hD9 := hD.sub (ws' := [(tp, .inr (11, [.ref ty, .int ((((y + 1) + 1) + 1) + 1), t2, t3, t4, t5])), (ty, .inr (10, [.ref ty2])), (ty2, .inl (gI G, 3000, .inl (rs (rs (rs (rs f 3000 y ((x >>> (24 &&& 31)) &&& 255)) 3000 (y + 1) ((x >>> (16 &&& 31)) &&& 255)) 3000 ((y + 1) + 1) ((x >>> (8 &&& 31)) &&& 255)) 3000 (((y + 1) + 1) + 1) ((x >>> (0 &&& 31)) &&& 255))))]) [0, 1, 2] (by decide) rfl
  exact W.vret hx hb hr (fun t ht hW => ⟨⟨(), rfl, trivial, (rs (rs (rs (rs f 3000 y ((x >>> (24 &&& 31)) &&& 255)) 3000 (y + 1) ((x >>> (16 &&& 31)) &&& 255)) 3000 ((y + 1) + 1) ((x >>> (8 &&& 31)) &&& 255)) 3000 (((y + 1) + 1) + 1) ((x >>> (0 &&& 31)) &&& 255)), by rw [ht]; exact hP9, hD9⟩, hS.F ht⟩) hS.2.2 dX10_push_41

def wo_c_openEntry : List Cond := [.fieldLink RX1 29 "JudoHall$Book" "starts" "LJudoHall$Row;", .fieldLink RX1 61 "JudoHall$Book" "entries" "I", .fieldLink RX1 50 "JudoHall$Book" "changes" "I", .methodLink RX1 58 yX9_set, .instanceMethod yX9_set, .selects RX9 yX9_set yX9_set, .initialized RX9]
def wq_c_openEntry : List Cond := .code yX1_openEntry cX1_openEntry 1 none :: (wo_c_openEntry ++ (wsX10 ++ (wq_c_Row_set ++ [])))
theorem gd_c_openEntry : ∀ w ∈ wq_c_openEntry, Gd w := List.forall_mem_cons.mpr ⟨Or.inl rfl, List.forall_mem_append.mpr ⟨gdl wo_c_openEntry (by decide +kernel), (List.forall_mem_append.mpr ⟨gd_wsX10, (List.forall_mem_append.mpr ⟨gd_c_Row_set, (fun _ h => absurd h List.not_mem_nil)⟩)⟩)⟩⟩
theorem in_c_openEntry : ∀ w ∈ wq_c_openEntry, w ∈ lw_tbl := List.forall_mem_cons.mpr ⟨List.mem_of_getElem? (i := 856) (by decide +kernel), List.forall_mem_append.mpr ⟨inT wo_c_openEntry [228, 230, 229, 857, 598, 599, 156] (by decide +kernel), (List.forall_mem_append.mpr ⟨in_wsX10, (List.forall_mem_append.mpr ⟨in_c_Row_set, (fun _ h => absurd h List.not_mem_nil)⟩)⟩)⟩⟩
set_option maxHeartbeats 4000000 in
set_option maxRecDepth 100000 in
theorem c_openEntry (l : Launch) (G : gG) (bk : Nat) (v1 : Value) (v2 : Value) (v3 : Value) (bs : Nat) (bs2 : Nat) (f : Nat → Int32) (sz : Nat) : Met l yX1_openEntry wq_c_openEntry ({ frames := 1, cells := 0, slots := 0, locals := 22 }) (va_Pc [.ref bk] (mP G [(bk, .inr (2, [v1, v2, v3, .ref bs, .int 0, .int 0])), (bs, .inr (10, [.ref bs2])), (bs2, .inl (gI G, 500, .inl f))] sz)) (va_Qv (fun _ : Unit => True) (fun (_ : Unit) (t : State) => va_P (gD G) vwCl [(bk, .inr (2, [v1, v2, v3, .ref bs, .int 0, .int 1]))] t.heap ∧ va_D (va_A [(bk, .inr (2, [v1, v2, v3, .ref bs, .int 0, .int 0])), (bs, .inr (10, [.ref bs2])), (bs2, .inl (gI G, 500, .inl f))] sz) [(bk, .inr (2, [v1, v2, v3, .ref bs, .int 0, .int 1]))]) (va_A [(bk, .inr (2, [v1, v2, v3, .ref bs, .int 0, .int 0])), (bs, .inr (10, [.ref bs2])), (bs2, .inl (gI G, 500, .inl f))] sz)) 0 0 (va_A [(bk, .inr (2, [v1, v2, v3, .ref bs, .int 0, .int 0])), (bs, .inr (10, [.ref bs2])), (bs2, .inl (gI G, 500, .inl f))] sz) := by
  refine Met.ofW (cc := cX1_openEntry) (maxL := 1) (ret := none) (by decide) rfl ?_
  intro p e s m args below meth c s₁ B hml hv
  obtain ⟨rfl, hsz, hP, hB, hD0⟩ := hv
  have hx := B.exec
  have hb := B.bytes
  have hr := B.returns
  have hts := atoms_spec (ws := wq_c_openEntry) B.pre
  have hown : s.vm.findClass RX1 = some m.cls := findClass_of_methodNamed B.named
  have hlocks := B.notSynchronized
  have hK := hB.1
  subst hsz
  have hD := hD0.self (sz := s.heap.size)
  generalize hAe : va_A [(bk, .inr (2, [v1, v2, v3, .ref bs, .int 0, .int 0])), (bs, .inr (10, [.ref bs2])), (bs2, .inl (gI G, 500, .inl f))] s.heap.size = A at hD ⊢
  have hA : ∀ q : Nat, s.heap.size ≤ q → A q := fun q h => by rw [← hAe]; exact Or.inr h
  have hS : va_S A s.heap s.heap [] := va_S.rf
  have hP : va_P (gD G) vwCl [(bk, .inr (2, [v1, v2, v3, .ref bs, .int 0, .int 0])), (bs, .inr (10, [.ref bs2])), (bs2, .inl (gI G, 500, .inl f))] s.heap := hP
  have hD : va_D A [(bk, .inr (2, [v1, v2, v3, .ref bs, .int 0, .int 0])), (bs, .inr (10, [.ref bs2])), (bs2, .inl (gI G, 500, .inl f))] := hD
  have hl := lv_entry ([.ref bk]) (n := 1) (Nat.le_of_ble_eq_true rfl)
  rw [lg_entry_eq]
  generalize (lg_sl ([.ref bk]) ++ List.replicate (1 - (lg_sl ([.ref bk])).length) Slot.unset).toArray = ls at hl ⊢
  have hl : lv_has ls 1 [(0, .ref bk)] := hl
  refine lv_aload_n hx hb dX1_openEntry_0 rfl (lv_at hl 0 rfl) ?_
  refine va_get (D := gD G) (ci := 2) (v := .ref bs) (C := RX1) (T := TX1) (N := 6) hx hb hts (fun _ h9 => (List.mem_cons_of_mem _ (List.mem_append_right _ (List.mem_append_left _ h9)))) hown hK hP 0 rfl rfl 3 (by decide) (hts (.fieldLink RX1 29 "JudoHall$Book" "starts" "LJudoHall$Row;") (List.mem_cons_of_mem _ (List.mem_append_left _ (List.mem_of_getElem? (i := 0) rfl)))) (fun _ h9 => h9) rfl dX1_openEntry_1 ?_
  refine lv_aload_n hx hb dX1_openEntry_4 rfl (lv_at hl 0 rfl) ?_
  refine va_get (D := gD G) (ci := 2) (v := .int 0) (C := RX1) (T := TX1) (N := 6) hx hb hts (fun _ h9 => (List.mem_cons_of_mem _ (List.mem_append_right _ (List.mem_append_left _ h9)))) hown hK hP 0 rfl rfl 5 (by decide) (hts (.fieldLink RX1 61 "JudoHall$Book" "entries" "I") (List.mem_cons_of_mem _ (List.mem_append_left _ (List.mem_of_getElem? (i := 1) rfl)))) (fun _ h9 => h9) rfl dX1_openEntry_5 ?_
  refine lv_aload_n hx hb dX1_openEntry_8 rfl (lv_at hl 0 rfl) ?_
  refine va_get (D := gD G) (ci := 2) (v := .int 0) (C := RX1) (T := TX1) (N := 6) hx hb hts (fun _ h9 => (List.mem_cons_of_mem _ (List.mem_append_right _ (List.mem_append_left _ h9)))) hown hK hP 0 rfl rfl 4 (by decide) (hts (.fieldLink RX1 50 "JudoHall$Book" "changes" "I") (List.mem_cons_of_mem _ (List.mem_append_left _ (List.mem_of_getElem? (i := 2) rfl)))) (fun _ h9 => h9) rfl dX1_openEntry_9 ?_
  have hPc := hP.sub (ws' := [(bs, .inr (10, [.ref bs2])), (bs2, .inl (gI G, 500, .inl f))]) [1, 2] rfl
  have hDc := hD.sub (ws' := [(bs, .inr (10, [.ref bs2])), (bs2, .inl (gI G, 500, .inl f))]) [1, 2] (by decide) rfl
  have hFc := va_free (wc := [(bs, .inr (10, [.ref bs2])), (bs2, .inl (gI G, 500, .inl f))]) hD hS hA [1, 2] rfl
  refine va_callv (va_runV (As := [.int 0, .int 0]) (rest := []) ⟨hx, hb, hml, hown, hts⟩ (c_Row_set l G bs bs2 500 f 0 0 s.heap.size (by decide)) (cwV 2 hts (gdV (List.mem_cons_of_mem _ (List.mem_append_left _ (List.mem_of_getElem? (i := 3) rfl))) (List.mem_cons_of_mem _ (List.mem_append_left _ (List.mem_of_getElem? (i := 4) rfl))) (List.mem_cons_of_mem _ (List.mem_append_left _ (List.mem_of_getElem? (i := 5) rfl))) (List.mem_cons_of_mem _ (List.mem_append_left _ (List.mem_of_getElem? (i := 6) rfl))) (fun w9 h9 => ⟨(List.mem_cons_of_mem _ (List.mem_append_right _ (List.mem_append_right _ (List.mem_append_left _ h9)))), gd_c_Row_set w9 h9⟩)) rfl rfl rfl kVX9_set ⟨Nat.le_of_ble_eq_true rfl, Nat.le_of_ble_eq_true rfl⟩) (preV_m (As := [.int 0, .int 0]) hPc hB hDc rfl rfl) rfl rfl hl.1 rfl (lv_room (Nat.le_of_ble_eq_true rfl)) dX1_openEntry_12 ⟨Nat.le_of_ble_eq_true rfl, Nat.le_of_ble_eq_true rfl⟩) hS (fun q _ h => hFc q h) hFc (fun u t H1 locs ht hvm hw hB1 hz1 hk1 hS => ?_)
  obtain ⟨hP1, hD1⟩ := hB1
  rw [ht] at hP1
  obtain ⟨hP, hD⟩ := va_join (wr := [(bk, .inr (2, [v1, v2, v3, .ref bs, .int 0, .int 0]))]) (w1 := [(bs, .inr (10, [.ref bs2])), (bs2, .inl (gI G, 500, .inl (rs f 500 0 0)))]) hP hD [1, 2] [0] rfl rfl (by decide) (by decide) hk1 hFc hP1 hD1
  generalize H1 = H at hP hS ⊢
  have hP : va_P (gD G) vwCl [(bk, .inr (2, [v1, v2, v3, .ref bs, .int 0, .int 0])), (bs, .inr (10, [.ref bs2])), (bs2, .inl (gI G, 500, .inl (rs f 500 0 0)))] H := hP
  have hD : va_D A [(bk, .inr (2, [v1, v2, v3, .ref bs, .int 0, .int 0])), (bs, .inr (10, [.ref bs2])), (bs2, .inl (gI G, 500, .inl (rs f 500 0 0)))] := hD
  refine W.eq (g2 := F0 m 15 ls []) rfl ?_
  refine lv_aload_n hx hb dX1_openEntry_15 rfl (lv_at hl 0 rfl) ?_
  refine lv_dup hx hb dX1_openEntry_16 rfl ?_
  refine va_get (D := gD G) (ci := 2) (v := .int 0) (C := RX1) (T := TX1) (N := 6) hx hb hts (fun _ h9 => (List.mem_cons_of_mem _ (List.mem_append_right _ (List.mem_append_left _ h9)))) hown hK hP 0 rfl rfl 5 (by decide) (hts (.fieldLink RX1 61 "JudoHall$Book" "entries" "I") (List.mem_cons_of_mem _ (List.mem_append_left _ (List.mem_of_getElem? (i := 1) rfl)))) (fun _ h9 => h9) rfl dX1_openEntry_17 ?_
  refine lv_iconst (v := 1) hx hb dX1_openEntry_20 (by decide) ?_
  refine lv_iadd hx hb dX1_openEntry_21 ?_
  refine gx_ti (y := 1) (by decide) ?_
  refine va_put (D := gD G) (ci := 2) (v := .int 1) (ty := tyX1 5) (C := RX1) (T := TX1) (N := 6) hx hb hts (fun _ h9 => (List.mem_cons_of_mem _ (List.mem_append_right _ (List.mem_append_left _ h9)))) tyX1 tyX1_ok nmX1 hown hK hP hD hS 0 rfl rfl 5 (by decide) (hts (.fieldLink RX1 61 "JudoHall$Book" "entries" "I") (List.mem_cons_of_mem _ (List.mem_append_left _ (List.mem_of_getElem? (i := 1) rfl)))) (fun _ h9 => h9) rfl (tyX1_ok 5 (by decide)) rfl rfl (Nat.le_of_ble_eq_true rfl) dX1_openEntry_22 (fun H locs hP hD hS => ?_)
  have hP : va_P (gD G) vwCl [(bk, .inr (2, [v1, v2, v3, .ref bs, .int 0, .int 1])), (bs, .inr (10, [.ref bs2])), (bs2, .inl (gI G, 500, .inl (rs f 500 0 0)))] H := hP
  have hD : va_D A [(bk, .inr (2, [v1, v2, v3, .ref bs, .int 0, .int 1])), (bs, .inr (10, [.ref bs2])), (bs2, .inl (gI G, 500, .inl (rs f 500 0 0)))] := hD
  have hP9 := hP.sub (ws' := [(bk, .inr (2, [v1, v2, v3, .ref bs, .int 0, .int 1]))]) [0] rfl
  have hD9 := hD.sub (ws' := [(bk, .inr (2, [v1, v2, v3, .ref bs, .int 0, .int 1]))]) [0] (by decide) rfl
  exact W.vret hx hb hr (fun t ht hW => ⟨⟨(), rfl, trivial, by rw [ht]; exact hP9, hD9⟩, hS.F ht⟩) hS.2.2 dX1_openEntry_25

def wo_c_put : List Cond := [.methodLink RX1 46 yX1_at, .instanceMethod yX1_at, .selects RX1 yX1_at yX1_at, .initialized RX1, .fieldLink RX1 22 "JudoHall$Book" "changed" "LJudoHall$Row;", .fieldLink RX1 50 "JudoHall$Book" "changes" "I", .methodLink RX1 54 yX9_makeRoomFor, .instanceMethod yX9_makeRoomFor, .selects RX9 yX9_makeRoomFor yX9_makeRoomFor, .initialized RX9, .fieldLink RX1 26 "JudoHall$Book" "before" "LJudoHall$Row;", .methodLink RX1 58 yX9_set, .instanceMethod yX9_set, .selects RX9 yX9_set yX9_set, .methodLink RX1 32 yX1_lay, .instanceMethod yX1_lay, .selects RX1 yX1_lay yX1_lay]
def wq_c_put : List Cond := .code yX1_put cX1_put 4 none :: (wo_c_put ++ (wq_c_Book_at ++ (wsX10 ++ (wq_c_Row_room ++ (wq_c_Row_set ++ (wq_c_Book_lay ++ []))))))
theorem gd_c_put : ∀ w ∈ wq_c_put, Gd w := List.forall_mem_cons.mpr ⟨Or.inl rfl, List.forall_mem_append.mpr ⟨gdl wo_c_put (by decide +kernel), (List.forall_mem_append.mpr ⟨gd_c_Book_at, (List.forall_mem_append.mpr ⟨gd_wsX10, (List.forall_mem_append.mpr ⟨gd_c_Row_room, (List.forall_mem_append.mpr ⟨gd_c_Row_set, (List.forall_mem_append.mpr ⟨gd_c_Book_lay, (fun _ h => absurd h List.not_mem_nil)⟩)⟩)⟩)⟩)⟩)⟩⟩
theorem in_c_put : ∀ w ∈ wq_c_put, w ∈ lw_tbl := List.forall_mem_cons.mpr ⟨List.mem_of_getElem? (i := 946) (by decide +kernel), List.forall_mem_append.mpr ⟨inT wo_c_put [947, 623, 624, 155, 226, 229, 948, 949, 950, 156, 227, 857, 598, 599, 214, 216, 0] (by decide +kernel), (List.forall_mem_append.mpr ⟨in_c_Book_at, (List.forall_mem_append.mpr ⟨in_wsX10, (List.forall_mem_append.mpr ⟨in_c_Row_room, (List.forall_mem_append.mpr ⟨in_c_Row_set, (List.forall_mem_append.mpr ⟨in_c_Book_lay, (fun _ h => absurd h List.not_mem_nil)⟩)⟩)⟩)⟩)⟩)⟩⟩
set_option maxHeartbeats 4000000 in
set_option maxRecDepth 100000 in
theorem c_put (l : Launch) (G : gG) (bk : Nat) (ca : Nat) (bc : Nat) (bc2 : Nat) (bb : Nat) (bb2 : Nat) (vs : Value) (ve : Value) (f : Nat → Int32) (fc : Nat → Int32) (fb : Nat → Int32) (k : Nat) (i : Int32) (x : Int32) (sz : Nat) (hk : k < 512) : Met l yX1_put wq_c_put ({ frames := 1, cells := 0, slots := 0, locals := 22 }) (va_Pc [.ref bk, .int i, .int x] (mP G [(bk, .inr (2, [.ref ca, .ref bc, .ref bb, vs, .int (nI k), ve])), (ca, .inl (gI G, 2088, .inl f)), (bc, .inr (10, [.ref bc2])), (bc2, .inl (gI G, 512, .inl fc)), (bb, .inr (10, [.ref bb2])), (bb2, .inl (gI G, 512, .inl fb))] sz)) (va_Qv (fun _ : Unit => True) (fun (_ : Unit) (t : State) => ∃ (k1 : Nat) (g : Nat → Int32) (gc : Nat → Int32) (gb : Nat → Int32), va_P (gD G) vwCl [(bk, .inr (2, [.ref ca, .ref bc, .ref bb, vs, .int (nI k1), ve])), (ca, .inl (gI G, 2088, .inl g)), (bc, .inr (10, [.ref bc2])), (bc2, .inl (gI G, 512, .inl gc)), (bb, .inr (10, [.ref bb2])), (bb2, .inl (gI G, 512, .inl gb))] t.heap ∧ va_D (va_A [(bk, .inr (2, [.ref ca, .ref bc, .ref bb, vs, .int (nI k), ve])), (ca, .inl (gI G, 2088, .inl f)), (bc, .inr (10, [.ref bc2])), (bc2, .inl (gI G, 512, .inl fc)), (bb, .inr (10, [.ref bb2])), (bb2, .inl (gI G, 512, .inl fb))] sz) [(bk, .inr (2, [.ref ca, .ref bc, .ref bb, vs, .int (nI k1), ve])), (ca, .inl (gI G, 2088, .inl g)), (bc, .inr (10, [.ref bc2])), (bc2, .inl (gI G, 512, .inl gc)), (bb, .inr (10, [.ref bb2])), (bb2, .inl (gI G, 512, .inl gb))] ∧ k1 ≤ k + 1) (va_A [(bk, .inr (2, [.ref ca, .ref bc, .ref bb, vs, .int (nI k), ve])), (ca, .inl (gI G, 2088, .inl f)), (bc, .inr (10, [.ref bc2])), (bc2, .inl (gI G, 512, .inl fc)), (bb, .inr (10, [.ref bb2])), (bb2, .inl (gI G, 512, .inl fb))] sz)) 0 0 (va_A [(bk, .inr (2, [.ref ca, .ref bc, .ref bb, vs, .int (nI k), ve])), (ca, .inl (gI G, 2088, .inl f)), (bc, .inr (10, [.ref bc2])), (bc2, .inl (gI G, 512, .inl fc)), (bb, .inr (10, [.ref bb2])), (bb2, .inl (gI G, 512, .inl fb))] sz) := by
  refine Met.ofW (cc := cX1_put) (maxL := 4) (ret := none) (by decide) rfl ?_
  intro p e s m args below meth c s₁ B hml hv
  obtain ⟨rfl, hsz, hP, hB, hD0⟩ := hv
  have hx := B.exec
  have hb := B.bytes
  have hr := B.returns
  have hts := atoms_spec (ws := wq_c_put) B.pre
  have hown : s.vm.findClass RX1 = some m.cls := findClass_of_methodNamed B.named
  have hlocks := B.notSynchronized
  have hK := hB.1
  subst hsz
  have hD := hD0.self (sz := s.heap.size)
  generalize hAe : va_A [(bk, .inr (2, [.ref ca, .ref bc, .ref bb, vs, .int (nI k), ve])), (ca, .inl (gI G, 2088, .inl f)), (bc, .inr (10, [.ref bc2])), (bc2, .inl (gI G, 512, .inl fc)), (bb, .inr (10, [.ref bb2])), (bb2, .inl (gI G, 512, .inl fb))] s.heap.size = A at hD ⊢
  have hA : ∀ q : Nat, s.heap.size ≤ q → A q := fun q h => by rw [← hAe]; exact Or.inr h
  have hS : va_S A s.heap s.heap [] := va_S.rf
  have hP : va_P (gD G) vwCl [(bk, .inr (2, [.ref ca, .ref bc, .ref bb, vs, .int (nI k), ve])), (ca, .inl (gI G, 2088, .inl f)), (bc, .inr (10, [.ref bc2])), (bc2, .inl (gI G, 512, .inl fc)), (bb, .inr (10, [.ref bb2])), (bb2, .inl (gI G, 512, .inl fb))] s.heap := hP
  have hD : va_D A [(bk, .inr (2, [.ref ca, .ref bc, .ref bb, vs, .int (nI k), ve])), (ca, .inl (gI G, 2088, .inl f)), (bc, .inr (10, [.ref bc2])), (bc2, .inl (gI G, 512, .inl fc)), (bb, .inr (10, [.ref bb2])), (bb2, .inl (gI G, 512, .inl fb))] := hD
  have hl := lv_entry ([.ref bk, .int i, .int x]) (n := 4) (Nat.le_of_ble_eq_true rfl)
  rw [lg_entry_eq]
  generalize (lg_sl ([.ref bk, .int i, .int x]) ++ List.replicate (4 - (lg_sl ([.ref bk, .int i, .int x])).length) Slot.unset).toArray = ls at hl ⊢
  have hl : lv_has ls 4 [(0, .ref bk), (1, .int i), (2, .int x)] := hl
  refine lv_aload_n hx hb dX1_put_0 rfl (lv_at hl 0 rfl) ?_
  refine lv_iload_n hx hb dX1_put_1 rfl (lv_at hl 1 rfl) ?_
  refine vp_callSi (va_Run.run (va_runV (As := [.int i]) (rest := []) ⟨hx, hb, hml, hown, hts⟩ (c_Book_at l G bk ca 2088 f (.ref bc) (.ref bb) vs (.int (nI k)) ve i (by decide)) (cwV 1 hts (gdV (List.mem_cons_of_mem _ (List.mem_append_left _ (List.mem_of_getElem? (i := 0) rfl))) (List.mem_cons_of_mem _ (List.mem_append_left _ (List.mem_of_getElem? (i := 1) rfl))) (List.mem_cons_of_mem _ (List.mem_append_left _ (List.mem_of_getElem? (i := 2) rfl))) (List.mem_cons_of_mem _ (List.mem_append_left _ (List.mem_of_getElem? (i := 3) rfl))) (fun w9 h9 => ⟨(List.mem_cons_of_mem _ (List.mem_append_right _ (List.mem_append_left _ h9))), gd_c_Book_at w9 h9⟩)) rfl rfl rfl kVX1_at ⟨Nat.le_of_ble_eq_true rfl, Nat.le_of_ble_eq_true rfl⟩) (preV_p (As := [.int i]) (hP.sub (ws' := [(bk, .inr (2, [.ref ca, .ref bc, .ref bb, vs, .int (nI k), ve])), (ca, .inl (gI G, 2088, .inl f))]) [0, 1] rfl) hB rfl rfl) rfl rfl hl.1 rfl (lv_room (Nat.le_of_ble_eq_true rfl)) dX1_put_2 ⟨Nat.le_of_ble_eq_true rfl, Nat.le_of_ble_eq_true rfl⟩)) (fun r_1 hr_1 => ?_)
  subst hr_1
  refine lv_istore_n (lv' := [(3, .int (rg f 2088 i)), (0, .ref bk), (1, .int i), (2, .int x)]) hx hb dX1_put_5 rfl hl (by decide) rfl (fun ls hl => ?_)
  refine lv_iload_n hx hb dX1_put_6 rfl (lv_at hl 0 rfl) ?_
  refine lv_iload_n hx hb dX1_put_7 rfl (lv_at hl 3 rfl) ?_
  refine lv_icmp_ne (tgt := 12) hx hb dX1_put_8 (by decide) (fun c_2 => ?_) (fun c_2 => ?_)
  · skip
    refine lv_aload_n hx hb dX1_put_12 rfl (lv_at hl 1 rfl) ?_
    refine va_get (D := gD G) (ci := 2) (v := .ref bc) (C := RX1) (T := TX1) (N := 6) hx hb hts (fun _ h9 => (List.mem_cons_of_mem _ (List.mem_append_right _ (List.mem_append_right _ (List.mem_append_left _ h9))))) hown hK hP 0 rfl rfl 1 (by decide) (hts (.fieldLink RX1 22 "JudoHall$Book" "changed" "LJudoHall$Row;") (List.mem_cons_of_mem _ (List.mem_append_left _ (List.mem_of_getElem? (i := 4) rfl)))) (fun _ h9 => h9) rfl dX1_put_13 ?_
    refine lv_aload_n hx hb dX1_put_16 rfl (lv_at hl 1 rfl) ?_
    refine va_get (D := gD G) (ci := 2) (v := .int (nI k)) (C := RX1) (T := TX1) (N := 6) hx hb hts (fun _ h9 => (List.mem_cons_of_mem _ (List.mem_append_right _ (List.mem_append_right _ (List.mem_append_left _ h9))))) hown hK hP 0 rfl rfl 4 (by decide) (hts (.fieldLink RX1 50 "JudoHall$Book" "changes" "I") (List.mem_cons_of_mem _ (List.mem_append_left _ (List.mem_of_getElem? (i := 5) rfl)))) (fun _ h9 => h9) rfl dX1_put_17 ?_
    refine va_csv (va_Run.run (va_runV (As := [.int (nI k)]) (rest := []) ⟨hx, hb, hml, hown, hts⟩ (c_Row_room l G bc bc2 512 fc k (by decide) (hk)) (cwV 1 hts (gdV (List.mem_cons_of_mem _ (List.mem_append_left _ (List.mem_of_getElem? (i := 6) rfl))) (List.mem_cons_of_mem _ (List.mem_append_left _ (List.mem_of_getElem? (i := 7) rfl))) (List.mem_cons_of_mem _ (List.mem_append_left _ (List.mem_of_getElem? (i := 8) rfl))) (List.mem_cons_of_mem _ (List.mem_append_left _ (List.mem_of_getElem? (i := 9) rfl))) (fun w9 h9 => ⟨(List.mem_cons_of_mem _ (List.mem_append_right _ (List.mem_append_right _ (List.mem_append_right _ (List.mem_append_left _ h9))))), gd_c_Row_room w9 h9⟩)) rfl rfl rfl kVX9_makeRoomFor ⟨Nat.le_of_ble_eq_true rfl, Nat.le_of_ble_eq_true rfl⟩) (preV_p (As := [.int (nI k)]) (hP.sub (ws' := [(bc, .inr (10, [.ref bc2])), (bc2, .inl (gI G, 512, .inl fc))]) [2, 3] rfl) hB rfl rfl) rfl rfl hl.1 rfl (lv_room (Nat.le_of_ble_eq_true rfl)) dX1_put_20 ⟨Nat.le_of_ble_eq_true rfl, Nat.le_of_ble_eq_true rfl⟩)) (fun _ => ?_)
    refine W.eq (g2 := F0 m 23 ls []) rfl ?_
    refine lv_aload_n hx hb dX1_put_23 rfl (lv_at hl 1 rfl) ?_
    refine va_get (D := gD G) (ci := 2) (v := .ref bb) (C := RX1) (T := TX1) (N := 6) hx hb hts (fun _ h9 => (List.mem_cons_of_mem _ (List.mem_append_right _ (List.mem_append_right _ (List.mem_append_left _ h9))))) hown hK hP 0 rfl rfl 2 (by decide) (hts (.fieldLink RX1 26 "JudoHall$Book" "before" "LJudoHall$Row;") (List.mem_cons_of_mem _ (List.mem_append_left _ (List.mem_of_getElem? (i := 10) rfl)))) (fun _ h9 => h9) rfl dX1_put_24 ?_
    refine lv_aload_n hx hb dX1_put_27 rfl (lv_at hl 1 rfl) ?_
    refine va_get (D := gD G) (ci := 2) (v := .int (nI k)) (C := RX1) (T := TX1) (N := 6) hx hb hts (fun _ h9 => (List.mem_cons_of_mem _ (List.mem_append_right _ (List.mem_append_right _ (List.mem_append_left _ h9))))) hown hK hP 0 rfl rfl 4 (by decide) (hts (.fieldLink RX1 50 "JudoHall$Book" "changes" "I") (List.mem_cons_of_mem _ (List.mem_append_left _ (List.mem_of_getElem? (i := 5) rfl)))) (fun _ h9 => h9) rfl dX1_put_28 ?_
    refine va_csv (va_Run.run (va_runV (As := [.int (nI k)]) (rest := []) ⟨hx, hb, hml, hown, hts⟩ (c_Row_room l G bb bb2 512 fb k (by decide) (hk)) (cwV 1 hts (gdV (List.mem_cons_of_mem _ (List.mem_append_left _ (List.mem_of_getElem? (i := 6) rfl))) (List.mem_cons_of_mem _ (List.mem_append_left _ (List.mem_of_getElem? (i := 7) rfl))) (List.mem_cons_of_mem _ (List.mem_append_left _ (List.mem_of_getElem? (i := 8) rfl))) (List.mem_cons_of_mem _ (List.mem_append_left _ (List.mem_of_getElem? (i := 9) rfl))) (fun w9 h9 => ⟨(List.mem_cons_of_mem _ (List.mem_append_right _ (List.mem_append_right _ (List.mem_append_right _ (List.mem_append_left _ h9))))), gd_c_Row_room w9 h9⟩)) rfl rfl rfl kVX9_makeRoomFor ⟨Nat.le_of_ble_eq_true rfl, Nat.le_of_ble_eq_true rfl⟩) (preV_p (As := [.int (nI k)]) (hP.sub (ws' := [(bb, .inr (10, [.ref bb2])), (bb2, .inl (gI G, 512, .inl fb))]) [4, 5] rfl) hB rfl rfl) rfl rfl hl.1 rfl (lv_room (Nat.le_of_ble_eq_true rfl)) dX1_put_31 ⟨Nat.le_of_ble_eq_true rfl, Nat.le_of_ble_eq_true rfl⟩)) (fun _ => ?_)
    refine W.eq (g2 := F0 m 34 ls []) rfl ?_
    refine lv_aload_n hx hb dX1_put_34 rfl (lv_at hl 1 rfl) ?_
    refine va_get (D := gD G) (ci := 2) (v := .ref bc) (C := RX1) (T := TX1) (N := 6) hx hb hts (fun _ h9 => (List.mem_cons_of_mem _ (List.mem_append_right _ (List.mem_append_right _ (List.mem_append_left _ h9))))) hown hK hP 0 rfl rfl 1 (by decide) (hts (.fieldLink RX1 22 "JudoHall$Book" "changed" "LJudoHall$Row;") (List.mem_cons_of_mem _ (List.mem_append_left _ (List.mem_of_getElem? (i := 4) rfl)))) (fun _ h9 => h9) rfl dX1_put_35 ?_
    refine lv_aload_n hx hb dX1_put_38 rfl (lv_at hl 1 rfl) ?_
    refine va_get (D := gD G) (ci := 2) (v := .int (nI k)) (C := RX1) (T := TX1) (N := 6) hx hb hts (fun _ h9 => (List.mem_cons_of_mem _ (List.mem_append_right _ (List.mem_append_right _ (List.mem_append_left _ h9))))) hown hK hP 0 rfl rfl 4 (by decide) (hts (.fieldLink RX1 50 "JudoHall$Book" "changes" "I") (List.mem_cons_of_mem _ (List.mem_append_left _ (List.mem_of_getElem? (i := 5) rfl)))) (fun _ h9 => h9) rfl dX1_put_39 ?_
    refine lv_iload_n hx hb dX1_put_42 rfl (lv_at hl 2 rfl) ?_
    have hPc := hP.sub (ws' := [(bc, .inr (10, [.ref bc2])), (bc2, .inl (gI G, 512, .inl fc))]) [2, 3] rfl
    have hDc := hD.sub (ws' := [(bc, .inr (10, [.ref bc2])), (bc2, .inl (gI G, 512, .inl fc))]) [2, 3] (by decide) rfl
    have hFc := va_free (wc := [(bc, .inr (10, [.ref bc2])), (bc2, .inl (gI G, 512, .inl fc))]) hD hS hA [2, 3] rfl
    refine va_callv (va_runV (As := [.int (nI k), .int i]) (rest := []) ⟨hx, hb, hml, hown, hts⟩ (c_Row_set l G bc bc2 512 fc (nI k) i s.heap.size (by decide)) (cwV 2 hts (gdV (List.mem_cons_of_mem _ (List.mem_append_left _ (List.mem_of_getElem? (i := 11) rfl))) (List.mem_cons_of_mem _ (List.mem_append_left _ (List.mem_of_getElem? (i := 12) rfl))) (List.mem_cons_of_mem _ (List.mem_append_left _ (List.mem_of_getElem? (i := 13) rfl))) (List.mem_cons_of_mem _ (List.mem_append_left _ (List.mem_of_getElem? (i := 9) rfl))) (fun w9 h9 => ⟨(List.mem_cons_of_mem _ (List.mem_append_right _ (List.mem_append_right _ (List.mem_append_right _ (List.mem_append_right _ (List.mem_append_left _ h9)))))), gd_c_Row_set w9 h9⟩)) rfl rfl rfl kVX9_set ⟨Nat.le_of_ble_eq_true rfl, Nat.le_of_ble_eq_true rfl⟩) (preV_m (As := [.int (nI k), .int i]) hPc hB hDc rfl rfl) rfl rfl hl.1 rfl (lv_room (Nat.le_of_ble_eq_true rfl)) dX1_put_43 ⟨Nat.le_of_ble_eq_true rfl, Nat.le_of_ble_eq_true rfl⟩) hS (fun q _ h => hFc q h) hFc (fun u t H1 locs ht hvm hw hB1 hz1 hk1 hS => ?_)
    obtain ⟨hP1, hD1⟩ := hB1
    rw [ht] at hP1
    obtain ⟨hP, hD⟩ := va_join (wr := [(bk, .inr (2, [.ref ca, .ref bc, .ref bb, vs, .int (nI k), ve])), (ca, .inl (gI G, 2088, .inl f)), (bb, .inr (10, [.ref bb2])), (bb2, .inl (gI G, 512, .inl fb))]) (w1 := [(bc, .inr (10, [.ref bc2])), (bc2, .inl (gI G, 512, .inl (rs fc 512 (nI k) i)))]) hP hD [2, 3] [0, 1, 4, 5] rfl rfl (by decide) (by decide) hk1 hFc hP1 hD1
    generalize H1 = H at hP hS ⊢
    have hP : va_P (gD G) vwCl [(bk, .inr (2, [.ref ca, .ref bc, .ref bb, vs, .int (nI k), ve])), (ca, .inl (gI G, 2088, .inl f)), (bb, .inr (10, [.ref bb2])), (bb2, .inl (gI G, 512, .inl fb)), (bc, .inr (10, [.ref bc2])), (bc2, .inl (gI G, 512, .inl (rs fc 512 (nI k) i)))] H := hP
    have hD : va_D A [(bk, .inr (2, [.ref ca, .ref bc, .ref bb, vs, .int (nI k), ve])), (ca, .inl (gI G, 2088, .inl f)), (bb, .inr (10, [.ref bb2])), (bb2, .inl (gI G, 512, .inl fb)), (bc, .inr (10, [.ref bc2])), (bc2, .inl (gI G, 512, .inl (rs fc 512 (nI k) i)))] := hD
    refine W.eq (g2 := F0 m 46 ls []) rfl ?_
    refine lv_aload_n hx hb dX1_put_46 rfl (lv_at hl 1 rfl) ?_
    refine va_get (D := gD G) (ci := 2) (v := .ref bb) (C := RX1) (T := TX1) (N := 6) hx hb hts (fun _ h9 => (List.mem_cons_of_mem _ (List.mem_append_right _ (List.mem_append_right _ (List.mem_append_left _ h9))))) hown hK hP 0 rfl rfl 2 (by decide) (hts (.fieldLink RX1 26 "JudoHall$Book" "before" "LJudoHall$Row;") (List.mem_cons_of_mem _ (List.mem_append_left _ (List.mem_of_getElem? (i := 10) rfl)))) (fun _ h9 => h9) rfl dX1_put_47 ?_
    refine lv_aload_n hx hb dX1_put_50 rfl (lv_at hl 1 rfl) ?_
    refine va_get (D := gD G) (ci := 2) (v := .int (nI k)) (C := RX1) (T := TX1) (N := 6) hx hb hts (fun _ h9 => (List.mem_cons_of_mem _ (List.mem_append_right _ (List.mem_append_right _ (List.mem_append_left _ h9))))) hown hK hP 0 rfl rfl 4 (by decide) (hts (.fieldLink RX1 50 "JudoHall$Book" "changes" "I") (List.mem_cons_of_mem _ (List.mem_append_left _ (List.mem_of_getElem? (i := 5) rfl)))) (fun _ h9 => h9) rfl dX1_put_51 ?_
    refine lv_iload_n hx hb dX1_put_54 rfl (lv_at hl 0 rfl) ?_
    have hPc := hP.sub (ws' := [(bb, .inr (10, [.ref bb2])), (bb2, .inl (gI G, 512, .inl fb))]) [2, 3] rfl
    have hDc := hD.sub (ws' := [(bb, .inr (10, [.ref bb2])), (bb2, .inl (gI G, 512, .inl fb))]) [2, 3] (by decide) rfl
    have hFc := va_free (wc := [(bb, .inr (10, [.ref bb2])), (bb2, .inl (gI G, 512, .inl fb))]) hD hS hA [2, 3] rfl
    refine va_callv (va_runV (As := [.int (nI k), .int (rg f 2088 i)]) (rest := []) ⟨hx, hb, hml, hown, hts⟩ (c_Row_set l G bb bb2 512 fb (nI k) (rg f 2088 i) H.size (by decide)) (cwV 2 hts (gdV (List.mem_cons_of_mem _ (List.mem_append_left _ (List.mem_of_getElem? (i := 11) rfl))) (List.mem_cons_of_mem _ (List.mem_append_left _ (List.mem_of_getElem? (i := 12) rfl))) (List.mem_cons_of_mem _ (List.mem_append_left _ (List.mem_of_getElem? (i := 13) rfl))) (List.mem_cons_of_mem _ (List.mem_append_left _ (List.mem_of_getElem? (i := 9) rfl))) (fun w9 h9 => ⟨(List.mem_cons_of_mem _ (List.mem_append_right _ (List.mem_append_right _ (List.mem_append_right _ (List.mem_append_right _ (List.mem_append_left _ h9)))))), gd_c_Row_set w9 h9⟩)) rfl rfl rfl kVX9_set ⟨Nat.le_of_ble_eq_true rfl, Nat.le_of_ble_eq_true rfl⟩) (preV_m (As := [.int (nI k), .int (rg f 2088 i)]) hPc hB hDc rfl rfl) rfl rfl hl.1 rfl (lv_room (Nat.le_of_ble_eq_true rfl)) dX1_put_55 ⟨Nat.le_of_ble_eq_true rfl, Nat.le_of_ble_eq_true rfl⟩) hS (fun q _ h => hFc q h) hFc (fun u t H1 locs ht hvm hw hB1 hz1 hk1 hS => ?_)
    obtain ⟨hP1, hD1⟩ := hB1
    rw [ht] at hP1
    obtain ⟨hP, hD⟩ := va_join (wr := [(bk, .inr (2, [.ref ca, .ref bc, .ref bb, vs, .int (nI k), ve])), (ca, .inl (gI G, 2088, .inl f)), (bc, .inr (10, [.ref bc2])), (bc2, .inl (gI G, 512, .inl (rs fc 512 (nI k) i)))]) (w1 := [(bb, .inr (10, [.ref bb2])), (bb2, .inl (gI G, 512, .inl (rs fb 512 (nI k) (rg f 2088 i))))]) hP hD [2, 3] [0, 1, 4, 5] rfl rfl (by decide) (by decide) hk1 hFc hP1 hD1
    generalize H1 = H at hP hS ⊢
    have hP : va_P (gD G) vwCl [(bk, .inr (2, [.ref ca, .ref bc, .ref bb, vs, .int (nI k), ve])), (ca, .inl (gI G, 2088, .inl f)), (bc, .inr (10, [.ref bc2])), (bc2, .inl (gI G, 512, .inl (rs fc 512 (nI k) i))), (bb, .inr (10, [.ref bb2])), (bb2, .inl (gI G, 512, .inl (rs fb 512 (nI k) (rg f 2088 i))))] H := hP
    have hD : va_D A [(bk, .inr (2, [.ref ca, .ref bc, .ref bb, vs, .int (nI k), ve])), (ca, .inl (gI G, 2088, .inl f)), (bc, .inr (10, [.ref bc2])), (bc2, .inl (gI G, 512, .inl (rs fc 512 (nI k) i))), (bb, .inr (10, [.ref bb2])), (bb2, .inl (gI G, 512, .inl (rs fb 512 (nI k) (rg f 2088 i))))] := hD
    refine W.eq (g2 := F0 m 58 ls []) rfl ?_
    refine lv_aload_n hx hb dX1_put_58 rfl (lv_at hl 1 rfl) ?_
    refine lv_dup hx hb dX1_put_59 rfl ?_
    refine va_get (D := gD G) (ci := 2) (v := .int (nI k)) (C := RX1) (T := TX1) (N := 6) hx hb hts (fun _ h9 => (List.mem_cons_of_mem _ (List.mem_append_right _ (List.mem_append_right _ (List.mem_append_left _ h9))))) hown hK hP 0 rfl rfl 4 (by decide) (hts (.fieldLink RX1 50 "JudoHall$Book" "changes" "I") (List.mem_cons_of_mem _ (List.mem_append_left _ (List.mem_of_getElem? (i := 5) rfl)))) (fun _ h9 => h9) rfl dX1_put_60 ?_
    refine lv_iconst (v := 1) hx hb dX1_put_63 (by decide) ?_
    refine lv_iadd hx hb dX1_put_64 ?_
    refine gx_ti (y := (nI (k + 1))) (nI_1 k) ?_
    refine va_put (D := gD G) (ci := 2) (v := .int (nI (k + 1))) (ty := tyX1 4) (C := RX1) (T := TX1) (N := 6) hx hb hts (fun _ h9 => (List.mem_cons_of_mem _ (List.mem_append_right _ (List.mem_append_right _ (List.mem_append_left _ h9))))) tyX1 tyX1_ok nmX1 hown hK hP hD hS 0 rfl rfl 4 (by decide) (hts (.fieldLink RX1 50 "JudoHall$Book" "changes" "I") (List.mem_cons_of_mem _ (List.mem_append_left _ (List.mem_of_getElem? (i := 5) rfl)))) (fun _ h9 => h9) rfl (tyX1_ok 4 (by decide)) rfl rfl (Nat.le_of_ble_eq_true rfl) dX1_put_65 (fun H locs hP hD hS => ?_)
    have hP : va_P (gD G) vwCl [(bk, .inr (2, [.ref ca, .ref bc, .ref bb, vs, .int (nI (k + 1)), ve])), (ca, .inl (gI G, 2088, .inl f)), (bc, .inr (10, [.ref bc2])), (bc2, .inl (gI G, 512, .inl (rs fc 512 (nI k) i))), (bb, .inr (10, [.ref bb2])), (bb2, .inl (gI G, 512, .inl (rs fb 512 (nI k) (rg f 2088 i))))] H := hP
    have hD : va_D A [(bk, .inr (2, [.ref ca, .ref bc, .ref bb, vs, .int (nI (k + 1)), ve])), (ca, .inl (gI G, 2088, .inl f)), (bc, .inr (10, [.ref bc2])), (bc2, .inl (gI G, 512, .inl (rs fc 512 (nI k) i))), (bb, .inr (10, [.ref bb2])), (bb2, .inl (gI G, 512, .inl (rs fb 512 (nI k) (rg f 2088 i))))] := hD
    refine lv_aload_n hx hb dX1_put_68 rfl (lv_at hl 1 rfl) ?_
    refine lv_iload_n hx hb dX1_put_69 rfl (lv_at hl 2 rfl) ?_
    refine lv_iload_n hx hb dX1_put_70 rfl (lv_at hl 3 rfl) ?_
    have hPc := hP.sub (ws' := [(bk, .inr (2, [.ref ca, .ref bc, .ref bb, vs, .int (nI (k + 1)), ve])), (ca, .inl (gI G, 2088, .inl f))]) [0, 1] rfl
    have hDc := hD.sub (ws' := [(bk, .inr (2, [.ref ca, .ref bc, .ref bb, vs, .int (nI (k + 1)), ve])), (ca, .inl (gI G, 2088, .inl f))]) [0, 1] (by decide) rfl
    have hFc := va_free (wc := [(bk, .inr (2, [.ref ca, .ref bc, .ref bb, vs, .int (nI (k + 1)), ve])), (ca, .inl (gI G, 2088, .inl f))]) hD hS hA [0, 1] rfl
    refine va_callv (va_runV (As := [.int i, .int x]) (rest := []) ⟨hx, hb, hml, hown, hts⟩ (c_Book_lay l G bk ca 2088 f (.ref bc) (.ref bb) vs (.int (nI (k + 1))) ve i x H.size (by decide)) (cwV 2 hts (gdV (List.mem_cons_of_mem _ (List.mem_append_left _ (List.mem_of_getElem? (i := 14) rfl))) (List.mem_cons_of_mem _ (List.mem_append_left _ (List.mem_of_getElem? (i := 15) rfl))) (List.mem_cons_of_mem _ (List.mem_append_left _ (List.mem_of_getElem? (i := 16) rfl))) (List.mem_cons_of_mem _ (List.mem_append_left _ (List.mem_of_getElem? (i := 3) rfl))) (fun w9 h9 => ⟨(List.mem_cons_of_mem _ (List.mem_append_right _ (List.mem_append_right _ (List.mem_append_right _ (List.mem_append_right _ (List.mem_append_right _ (List.mem_append_left _ h9))))))), gd_c_Book_lay w9 h9⟩)) rfl rfl rfl kVX1_lay ⟨Nat.le_of_ble_eq_true rfl, Nat.le_of_ble_eq_true rfl⟩) (preV_m (As := [.int i, .int x]) hPc hB hDc rfl rfl) rfl rfl hl.1 rfl (lv_room (Nat.le_of_ble_eq_true rfl)) dX1_put_71 ⟨Nat.le_of_ble_eq_true rfl, Nat.le_of_ble_eq_true rfl⟩) hS (fun q _ h => hFc q h) hFc (fun u t H1 locs ht hvm hw hB1 hz1 hk1 hS => ?_)
    obtain ⟨hP1, hD1⟩ := hB1
    rw [ht] at hP1
    obtain ⟨hP, hD⟩ := va_join (wr := [(bc, .inr (10, [.ref bc2])), (bc2, .inl (gI G, 512, .inl (rs fc 512 (nI k) i))), (bb, .inr (10, [.ref bb2])), (bb2, .inl (gI G, 512, .inl (rs fb 512 (nI k) (rg f 2088 i))))]) (w1 := [(bk, .inr (2, [.ref ca, .ref bc, .ref bb, vs, .int (nI (k + 1)), ve])), (ca, .inl (gI G, 2088, .inl (rs f 2088 i x)))]) hP hD [0, 1] [2, 3, 4, 5] rfl rfl (by decide) (by decide) hk1 hFc hP1 hD1
    generalize H1 = H at hP hS ⊢
    have hP : va_P (gD G) vwCl [(bc, .inr (10, [.ref bc2])), (bc2, .inl (gI G, 512, .inl (rs fc 512 (nI k) i))), (bb, .inr (10, [.ref bb2])), (bb2, .inl (gI G, 512, .inl (rs fb 512 (nI k) (rg f 2088 i)))), (bk, .inr (2, [.ref ca, .ref bc, .ref bb, vs, .int (nI (k + 1)), ve])), (ca, .inl (gI G, 2088, .inl (rs f 2088 i x)))] H := hP
    have hD : va_D A [(bc, .inr (10, [.ref bc2])), (bc2, .inl (gI G, 512, .inl (rs fc 512 (nI k) i))), (bb, .inr (10, [.ref bb2])), (bb2, .inl (gI G, 512, .inl (rs fb 512 (nI k) (rg f 2088 i)))), (bk, .inr (2, [.ref ca, .ref bc, .ref bb, vs, .int (nI (k + 1)), ve])), (ca, .inl (gI G, 2088, .inl (rs f 2088 i x)))] := hD
    refine W.eq (g2 := F0 m 74 ls []) rfl ?_
    have hP9 := hP.sub (ws' := [(bk, .inr (2, [.ref ca, .ref bc, .ref bb, vs, .int (nI (k + 1)), ve])), (ca, .inl (gI G, 2088, .inl (rs f 2088 i x))), (bc, .inr (10, [.ref bc2])), (bc2, .inl (gI G, 512, .inl (rs fc 512 (nI k) i))), (bb, .inr (10, [.ref bb2])), (bb2, .inl (gI G, 512, .inl (rs fb 512 (nI k) (rg f 2088 i))))]) [4, 5, 0, 1, 2, 3] rfl
    have hD9 := hD.sub (ws' := [(bk, .inr (2, [.ref ca, .ref bc, .ref bb, vs, .int (nI (k + 1)), ve])), (ca, .inl (gI G, 2088, .inl (rs f 2088 i x))), (bc, .inr (10, [.ref bc2])), (bc2, .inl (gI G, 512, .inl (rs fc 512 (nI k) i))), (bb, .inr (10, [.ref bb2])), (bb2, .inl (gI G, 512, .inl (rs fb 512 (nI k) (rg f 2088 i))))]) [4, 5, 0, 1, 2, 3] (by decide) rfl
    exact W.vret hx hb hr (fun t ht hW => ⟨⟨(), rfl, trivial, (k + 1), (rs f 2088 i x), (rs fc 512 (nI k) i), (rs fb 512 (nI k) (rg f 2088 i)), by rw [ht]; exact hP9, hD9, by omega⟩, hS.F ht⟩) hS.2.2 dX1_put_74
  · skip
    have hP9 := hP.sub (ws' := [(bk, .inr (2, [.ref ca, .ref bc, .ref bb, vs, .int (nI k), ve])), (ca, .inl (gI G, 2088, .inl f)), (bc, .inr (10, [.ref bc2])), (bc2, .inl (gI G, 512, .inl fc)), (bb, .inr (10, [.ref bb2])), (bb2, .inl (gI G, 512, .inl fb))]) [0, 1, 2, 3, 4, 5] rfl
    have hD9 := hD.sub (ws' := [(bk, .inr (2, [.ref ca, .ref bc, .ref bb, vs, .int (nI k), ve])), (ca, .inl (gI G, 2088, .inl f)), (bc, .inr (10, [.ref bc2])), (bc2, .inl (gI G, 512, .inl fc)), (bb, .inr (10, [.ref bb2])), (bb2, .inl (gI G, 512, .inl fb))]) [0, 1, 2, 3, 4, 5] (by decide) rfl
    exact W.vret hx hb hr (fun t ht hW => ⟨⟨(), rfl, trivial, k, f, fc, fb, by rw [ht]; exact hP9, hD9, by omega⟩, hS.F ht⟩) hS.2.2 dX1_put_11

def wo_c_Roll_add : List Cond := [.methodLink RX8 21 yX8_people, .instanceMethod yX8_people, .selects RX8 yX8_people yX8_people, .initialized RX8, .fieldLink RX8 9 "JudoHall$Roll" "book" "LJudoHall$Book;", .methodLink RX8 29 yX1_put, .instanceMethod yX1_put, .selects RX1 yX1_put yX1_put, .initialized RX1, .methodLink RX8 25 yX1_ofFighter, .static yX1_ofFighter]
def wq_c_Roll_add : List Cond := .code yX8_add cX8_add 4 (some .int) :: (wo_c_Roll_add ++ (wq_c_people ++ (wsX80 ++ (wq_c_put ++ (wq_c_Book_ofFighter ++ [])))))
theorem gd_c_Roll_add : ∀ w ∈ wq_c_Roll_add, Gd w := List.forall_mem_cons.mpr ⟨Or.inl rfl, List.forall_mem_append.mpr ⟨gdl wo_c_Roll_add (by decide +kernel), (List.forall_mem_append.mpr ⟨gd_c_people, (List.forall_mem_append.mpr ⟨gd_wsX80, (List.forall_mem_append.mpr ⟨gd_c_put, (List.forall_mem_append.mpr ⟨gd_c_Book_ofFighter, (fun _ h => absurd h List.not_mem_nil)⟩)⟩)⟩)⟩)⟩⟩
theorem in_c_Roll_add : ∀ w ∈ wq_c_Roll_add, w ∈ lw_tbl := List.forall_mem_cons.mpr ⟨List.mem_of_getElem? (i := 1021) (by decide +kernel), List.forall_mem_append.mpr ⟨inT wo_c_Roll_add [1000, 1001, 1002, 162, 385, 1022, 944, 945, 155, 1009, 1010] (by decide +kernel), (List.forall_mem_append.mpr ⟨in_c_people, (List.forall_mem_append.mpr ⟨in_wsX80, (List.forall_mem_append.mpr ⟨in_c_put, (List.forall_mem_append.mpr ⟨in_c_Book_ofFighter, (fun _ h => absurd h List.not_mem_nil)⟩)⟩)⟩)⟩)⟩⟩
set_option maxHeartbeats 4000000 in
set_option maxRecDepth 100000 in
theorem c_Roll_add (l : Launch) (G : gG) (rl : Nat) (bk : Nat) (ca : Nat) (bc : Nat) (bc2 : Nat) (bb : Nat) (bb2 : Nat) (vs : Value) (ve : Value) (fc : Nat → Int32) (fb : Nat → Int32) (x : Int32) (y : Int32) (sz : Nat) : Met l yX8_add wq_c_Roll_add ({ frames := 2, cells := 0, slots := 0, locals := 45 }) (va_Pc [.ref rl, .int x, .int y] (mP G [(rl, .inr (9, [.ref bk])), (bk, .inr (2, [.ref ca, .ref bc, .ref bb, vs, .int 0, ve])), (ca, .inl (gI G, 2088, .inl bk0)), (bc, .inr (10, [.ref bc2])), (bc2, .inl (gI G, 512, .inl fc)), (bb, .inr (10, [.ref bb2])), (bb2, .inl (gI G, 512, .inl fb))] sz)) (va_Qi (fun (r : Int32) (_ : Unit) => r = 0) (fun (_ : Unit) (t : State) => va_P (gD G) vwCl [] t.heap ∧ va_D (va_A [(rl, .inr (9, [.ref bk])), (bk, .inr (2, [.ref ca, .ref bc, .ref bb, vs, .int 0, ve])), (ca, .inl (gI G, 2088, .inl bk0)), (bc, .inr (10, [.ref bc2])), (bc2, .inl (gI G, 512, .inl fc)), (bb, .inr (10, [.ref bb2])), (bb2, .inl (gI G, 512, .inl fb))] sz) []) (va_A [(rl, .inr (9, [.ref bk])), (bk, .inr (2, [.ref ca, .ref bc, .ref bb, vs, .int 0, ve])), (ca, .inl (gI G, 2088, .inl bk0)), (bc, .inr (10, [.ref bc2])), (bc2, .inl (gI G, 512, .inl fc)), (bb, .inr (10, [.ref bb2])), (bb2, .inl (gI G, 512, .inl fb))] sz)) 0 0 (va_A [(rl, .inr (9, [.ref bk])), (bk, .inr (2, [.ref ca, .ref bc, .ref bb, vs, .int 0, ve])), (ca, .inl (gI G, 2088, .inl bk0)), (bc, .inr (10, [.ref bc2])), (bc2, .inl (gI G, 512, .inl fc)), (bb, .inr (10, [.ref bb2])), (bb2, .inl (gI G, 512, .inl fb))] sz) := by
  refine Met.ofW (cc := cX8_add) (maxL := 4) (ret := (some .int)) (by decide) rfl ?_
  intro p e s m args below meth c s₁ B hml hv
  obtain ⟨rfl, hsz, hP, hB, hD0⟩ := hv
  have hx := B.exec
  have hb := B.bytes
  have hr := B.returns
  have hts := atoms_spec (ws := wq_c_Roll_add) B.pre
  have hown : s.vm.findClass RX8 = some m.cls := findClass_of_methodNamed B.named
  have hlocks := B.notSynchronized
  have hK := hB.1
  subst hsz
  have hD := hD0.self (sz := s.heap.size)
  generalize hAe : va_A [(rl, .inr (9, [.ref bk])), (bk, .inr (2, [.ref ca, .ref bc, .ref bb, vs, .int 0, ve])), (ca, .inl (gI G, 2088, .inl bk0)), (bc, .inr (10, [.ref bc2])), (bc2, .inl (gI G, 512, .inl fc)), (bb, .inr (10, [.ref bb2])), (bb2, .inl (gI G, 512, .inl fb))] s.heap.size = A at hD ⊢
  have hA : ∀ q : Nat, s.heap.size ≤ q → A q := fun q h => by rw [← hAe]; exact Or.inr h
  have hS : va_S A s.heap s.heap [] := va_S.rf
  have hP : va_P (gD G) vwCl [(rl, .inr (9, [.ref bk])), (bk, .inr (2, [.ref ca, .ref bc, .ref bb, vs, .int 0, ve])), (ca, .inl (gI G, 2088, .inl bk0)), (bc, .inr (10, [.ref bc2])), (bc2, .inl (gI G, 512, .inl fc)), (bb, .inr (10, [.ref bb2])), (bb2, .inl (gI G, 512, .inl fb))] s.heap := hP
  have hD : va_D A [(rl, .inr (9, [.ref bk])), (bk, .inr (2, [.ref ca, .ref bc, .ref bb, vs, .int 0, ve])), (ca, .inl (gI G, 2088, .inl bk0)), (bc, .inr (10, [.ref bc2])), (bc2, .inl (gI G, 512, .inl fc)), (bb, .inr (10, [.ref bb2])), (bb2, .inl (gI G, 512, .inl fb))] := hD
  have hl := lv_entry ([.ref rl, .int x, .int y]) (n := 4) (Nat.le_of_ble_eq_true rfl)
  rw [lg_entry_eq]
  generalize (lg_sl ([.ref rl, .int x, .int y]) ++ List.replicate (4 - (lg_sl ([.ref rl, .int x, .int y])).length) Slot.unset).toArray = ls at hl ⊢
  have hl : lv_has ls 4 [(0, .ref rl), (1, .int x), (2, .int y)] := hl
  refine lv_aload_n hx hb dX8_add_0 rfl (lv_at hl 0 rfl) ?_
  refine vp_callSi (va_Run.run (va_runV (As := []) (rest := []) ⟨hx, hb, hml, hown, hts⟩ (c_people l G rl bk ca (.ref bc) (.ref bb) vs (.int 0) ve) (cwV 0 hts (gdV (List.mem_cons_of_mem _ (List.mem_append_left _ (List.mem_of_getElem? (i := 0) rfl))) (List.mem_cons_of_mem _ (List.mem_append_left _ (List.mem_of_getElem? (i := 1) rfl))) (List.mem_cons_of_mem _ (List.mem_append_left _ (List.mem_of_getElem? (i := 2) rfl))) (List.mem_cons_of_mem _ (List.mem_append_left _ (List.mem_of_getElem? (i := 3) rfl))) (fun w9 h9 => ⟨(List.mem_cons_of_mem _ (List.mem_append_right _ (List.mem_append_left _ h9))), gd_c_people w9 h9⟩)) rfl rfl rfl kVX8_people ⟨Nat.le_of_ble_eq_true rfl, Nat.le_of_ble_eq_true rfl⟩) (preV_p (As := []) (hP.sub (ws' := [(rl, .inr (9, [.ref bk])), (bk, .inr (2, [.ref ca, .ref bc, .ref bb, vs, .int 0, ve])), (ca, .inl (gI G, 2088, .inl bk0))]) [0, 1, 2] rfl) hB rfl rfl) rfl rfl hl.1 rfl (lv_room (Nat.le_of_ble_eq_true rfl)) dX8_add_1 ⟨Nat.le_of_ble_eq_true rfl, Nat.le_of_ble_eq_true rfl⟩)) (fun r_1 hr_1 => ?_)
  subst hr_1
  refine lv_istore_n (lv' := [(3, .int 0), (0, .ref rl), (1, .int x), (2, .int y)]) hx hb dX8_add_4 rfl hl (by decide) rfl (fun ls hl => ?_)
  refine lv_aload_n hx hb dX8_add_5 rfl (lv_at hl 1 rfl) ?_
  refine va_get (D := gD G) (ci := 9) (v := .ref bk) (C := RX8) (T := TX8) (N := 1) hx hb hts (fun _ h9 => (List.mem_cons_of_mem _ (List.mem_append_right _ (List.mem_append_right _ (List.mem_append_left _ h9))))) hown hK hP 0 rfl rfl 0 (by decide) (hts (.fieldLink RX8 9 "JudoHall$Roll" "book" "LJudoHall$Book;") (List.mem_cons_of_mem _ (List.mem_append_left _ (List.mem_of_getElem? (i := 4) rfl)))) (fun _ h9 => h9) rfl dX8_add_6 ?_
  refine lv_iconst (v := 2) hx hb dX8_add_9 (by decide) ?_
  refine lv_iload_n hx hb dX8_add_10 rfl (lv_at hl 0 rfl) ?_
  refine lv_iconst (v := 1) hx hb dX8_add_11 (by decide) ?_
  refine lv_iadd hx hb dX8_add_12 ?_
  refine gx_ti (y := 1) (by decide) ?_
  have hPc := hP.sub (ws' := [(bk, .inr (2, [.ref ca, .ref bc, .ref bb, vs, .int 0, ve])), (ca, .inl (gI G, 2088, .inl bk0)), (bc, .inr (10, [.ref bc2])), (bc2, .inl (gI G, 512, .inl fc)), (bb, .inr (10, [.ref bb2])), (bb2, .inl (gI G, 512, .inl fb))]) [1, 2, 3, 4, 5, 6] rfl
  have hDc := hD.sub (ws' := [(bk, .inr (2, [.ref ca, .ref bc, .ref bb, vs, .int 0, ve])), (ca, .inl (gI G, 2088, .inl bk0)), (bc, .inr (10, [.ref bc2])), (bc2, .inl (gI G, 512, .inl fc)), (bb, .inr (10, [.ref bb2])), (bb2, .inl (gI G, 512, .inl fb))]) [1, 2, 3, 4, 5, 6] (by decide) rfl
  have hFc := va_free (wc := [(bk, .inr (2, [.ref ca, .ref bc, .ref bb, vs, .int 0, ve])), (ca, .inl (gI G, 2088, .inl bk0)), (bc, .inr (10, [.ref bc2])), (bc2, .inl (gI G, 512, .inl fc)), (bb, .inr (10, [.ref bb2])), (bb2, .inl (gI G, 512, .inl fb))]) hD hS hA [1, 2, 3, 4, 5, 6] rfl
  refine va_callv (va_runV (As := [.int 2, .int 1]) (rest := []) ⟨hx, hb, hml, hown, hts⟩ (c_put l G bk ca bc bc2 bb bb2 vs ve bk0 fc fb 0 2 1 s.heap.size (by omega)) (cwV 2 hts (gdV (List.mem_cons_of_mem _ (List.mem_append_left _ (List.mem_of_getElem? (i := 5) rfl))) (List.mem_cons_of_mem _ (List.mem_append_left _ (List.mem_of_getElem? (i := 6) rfl))) (List.mem_cons_of_mem _ (List.mem_append_left _ (List.mem_of_getElem? (i := 7) rfl))) (List.mem_cons_of_mem _ (List.mem_append_left _ (List.mem_of_getElem? (i := 8) rfl))) (fun w9 h9 => ⟨(List.mem_cons_of_mem _ (List.mem_append_right _ (List.mem_append_right _ (List.mem_append_right _ (List.mem_append_left _ h9))))), gd_c_put w9 h9⟩)) rfl rfl rfl kVX1_put ⟨Nat.le_of_ble_eq_true rfl, Nat.le_of_ble_eq_true rfl⟩) (preV_m (As := [.int 2, .int 1]) hPc hB hDc rfl rfl) rfl rfl hl.1 rfl (lv_room (Nat.le_of_ble_eq_true rfl)) dX8_add_13 ⟨Nat.le_of_ble_eq_true rfl, Nat.le_of_ble_eq_true rfl⟩) hS (fun q _ h => hFc q h) hFc (fun u t H1 locs ht hvm hw hB1 hz1 hk1 hS => ?_)
  obtain ⟨q_3, q_4, q_5, q_6, hP1, hD1, hw2⟩ := hB1
  rw [ht] at hP1
  obtain ⟨hP, hD⟩ := va_join (wr := [(rl, .inr (9, [.ref bk]))]) (w1 := [(bk, .inr (2, [.ref ca, .ref bc, .ref bb, vs, .int (nI q_3), ve])), (ca, .inl (gI G, 2088, .inl q_4)), (bc, .inr (10, [.ref bc2])), (bc2, .inl (gI G, 512, .inl q_5)), (bb, .inr (10, [.ref bb2])), (bb2, .inl (gI G, 512, .inl q_6))]) hP hD [1, 2, 3, 4, 5, 6] [0] rfl rfl (by decide) (by decide) hk1 hFc hP1 hD1
  generalize H1 = H at hP hS ⊢
  have w_7 := hw2
  have hP : va_P (gD G) vwCl [(rl, .inr (9, [.ref bk])), (bk, .inr (2, [.ref ca, .ref bc, .ref bb, vs, .int (nI q_3), ve])), (ca, .inl (gI G, 2088, .inl q_4)), (bc, .inr (10, [.ref bc2])), (bc2, .inl (gI G, 512, .inl q_5)), (bb, .inr (10, [.ref bb2])), (bb2, .inl (gI G, 512, .inl q_6))] H := hP
  have hD : va_D A [(rl, .inr (9, [.ref bk])), (bk, .inr (2, [.ref ca, .ref bc, .ref bb, vs, .int (nI q_3), ve])), (ca, .inl (gI G, 2088, .inl q_4)), (bc, .inr (10, [.ref bc2])), (bc2, .inl (gI G, 512, .inl q_5)), (bb, .inr (10, [.ref bb2])), (bb2, .inl (gI G, 512, .inl q_6))] := hD
  refine W.eq (g2 := F0 m 16 ls []) rfl ?_
  refine lv_aload_n hx hb dX8_add_16 rfl (lv_at hl 1 rfl) ?_
  refine va_get (D := gD G) (ci := 9) (v := .ref bk) (C := RX8) (T := TX8) (N := 1) hx hb hts (fun _ h9 => (List.mem_cons_of_mem _ (List.mem_append_right _ (List.mem_append_right _ (List.mem_append_left _ h9))))) hown hK hP 0 rfl rfl 0 (by decide) (hts (.fieldLink RX8 9 "JudoHall$Roll" "book" "LJudoHall$Book;") (List.mem_cons_of_mem _ (List.mem_append_left _ (List.mem_of_getElem? (i := 4) rfl)))) (fun _ h9 => h9) rfl dX8_add_17 ?_
  refine lv_iload_n hx hb dX8_add_20 rfl (lv_at hl 0 rfl) ?_
  refine lv_iconst (v := 0) hx hb dX8_add_21 (by decide) ?_
  refine vp_callSi (va_Run.run (va_runS (As := [.int 0, .int 0]) (rest := [.ref bk]) ⟨hx, hb, hml, hown, hts⟩ (c_Book_ofFighter l G 0 0) (va_cwS 2 hts (gdS (List.mem_cons_of_mem _ (List.mem_append_left _ (List.mem_of_getElem? (i := 9) rfl))) (List.mem_cons_of_mem _ (List.mem_append_left _ (List.mem_of_getElem? (i := 10) rfl))) (List.mem_cons_of_mem _ (List.mem_append_left _ (List.mem_of_getElem? (i := 8) rfl))) (fun w9 h9 => ⟨(List.mem_cons_of_mem _ (List.mem_append_right _ (List.mem_append_right _ (List.mem_append_right _ (List.mem_append_right _ (List.mem_append_left _ h9)))))), gd_c_Book_ofFighter w9 h9⟩)) rfl rfl rfl kSX1_ofFighter ⟨Nat.le_of_ble_eq_true rfl, Nat.le_of_ble_eq_true rfl⟩) (preS_p (As := [.int 0, .int 0]) (hP.sub (ws' := []) [] rfl) hB) rfl rfl hl.1 rfl (lv_room (Nat.le_of_ble_eq_true rfl)) dX8_add_22 ⟨Nat.le_of_ble_eq_true rfl, Nat.le_of_ble_eq_true rfl⟩)) (fun r_8 hr_8 => ?_)
  have hr_8 : r_8 = 148 := hr_8.trans (by decide)
  subst hr_8
  refine lv_iload_n hx hb dX8_add_25 rfl (lv_at hl 3 rfl) ?_
  have hPc := hP.sub (ws' := [(bk, .inr (2, [.ref ca, .ref bc, .ref bb, vs, .int (nI q_3), ve])), (ca, .inl (gI G, 2088, .inl q_4)), (bc, .inr (10, [.ref bc2])), (bc2, .inl (gI G, 512, .inl q_5)), (bb, .inr (10, [.ref bb2])), (bb2, .inl (gI G, 512, .inl q_6))]) [1, 2, 3, 4, 5, 6] rfl
  have hDc := hD.sub (ws' := [(bk, .inr (2, [.ref ca, .ref bc, .ref bb, vs, .int (nI q_3), ve])), (ca, .inl (gI G, 2088, .inl q_4)), (bc, .inr (10, [.ref bc2])), (bc2, .inl (gI G, 512, .inl q_5)), (bb, .inr (10, [.ref bb2])), (bb2, .inl (gI G, 512, .inl q_6))]) [1, 2, 3, 4, 5, 6] (by decide) rfl
  have hFc := va_free (wc := [(bk, .inr (2, [.ref ca, .ref bc, .ref bb, vs, .int (nI q_3), ve])), (ca, .inl (gI G, 2088, .inl q_4)), (bc, .inr (10, [.ref bc2])), (bc2, .inl (gI G, 512, .inl q_5)), (bb, .inr (10, [.ref bb2])), (bb2, .inl (gI G, 512, .inl q_6))]) hD hS hA [1, 2, 3, 4, 5, 6] rfl
  refine va_callv (va_runV (As := [.int 148, .int y]) (rest := []) ⟨hx, hb, hml, hown, hts⟩ (c_put l G bk ca bc bc2 bb bb2 vs ve q_4 q_5 q_6 q_3 148 y H.size (by omega)) (cwV 2 hts (gdV (List.mem_cons_of_mem _ (List.mem_append_left _ (List.mem_of_getElem? (i := 5) rfl))) (List.mem_cons_of_mem _ (List.mem_append_left _ (List.mem_of_getElem? (i := 6) rfl))) (List.mem_cons_of_mem _ (List.mem_append_left _ (List.mem_of_getElem? (i := 7) rfl))) (List.mem_cons_of_mem _ (List.mem_append_left _ (List.mem_of_getElem? (i := 8) rfl))) (fun w9 h9 => ⟨(List.mem_cons_of_mem _ (List.mem_append_right _ (List.mem_append_right _ (List.mem_append_right _ (List.mem_append_left _ h9))))), gd_c_put w9 h9⟩)) rfl rfl rfl kVX1_put ⟨Nat.le_of_ble_eq_true rfl, Nat.le_of_ble_eq_true rfl⟩) (preV_m (As := [.int 148, .int y]) hPc hB hDc rfl rfl) rfl rfl hl.1 rfl (lv_room (Nat.le_of_ble_eq_true rfl)) dX8_add_26 ⟨Nat.le_of_ble_eq_true rfl, Nat.le_of_ble_eq_true rfl⟩) hS (fun q _ h => hFc q h) hFc (fun u t H1 locs ht hvm hw hB1 hz1 hk1 hS => ?_)
  obtain ⟨q_10, q_11, q_12, q_13, hP1, hD1, hw2⟩ := hB1
  rw [ht] at hP1
  obtain ⟨hP, hD⟩ := va_join (wr := [(rl, .inr (9, [.ref bk]))]) (w1 := [(bk, .inr (2, [.ref ca, .ref bc, .ref bb, vs, .int (nI q_10), ve])), (ca, .inl (gI G, 2088, .inl q_11)), (bc, .inr (10, [.ref bc2])), (bc2, .inl (gI G, 512, .inl q_12)), (bb, .inr (10, [.ref bb2])), (bb2, .inl (gI G, 512, .inl q_13))]) hP hD [1, 2, 3, 4, 5, 6] [0] rfl rfl (by decide) (by decide) hk1 hFc hP1 hD1
  generalize H1 = H at hP hS ⊢
  have w_14 := hw2
  have hP : va_P (gD G) vwCl [(rl, .inr (9, [.ref bk])), (bk, .inr (2, [.ref ca, .ref bc, .ref bb, vs, .int (nI q_10), ve])), (ca, .inl (gI G, 2088, .inl q_11)), (bc, .inr (10, [.ref bc2])), (bc2, .inl (gI G, 512, .inl q_12)), (bb, .inr (10, [.ref bb2])), (bb2, .inl (gI G, 512, .inl q_13))] H := hP
  have hD : va_D A [(rl, .inr (9, [.ref bk])), (bk, .inr (2, [.ref ca, .ref bc, .ref bb, vs, .int (nI q_10), ve])), (ca, .inl (gI G, 2088, .inl q_11)), (bc, .inr (10, [.ref bc2])), (bc2, .inl (gI G, 512, .inl q_12)), (bb, .inr (10, [.ref bb2])), (bb2, .inl (gI G, 512, .inl q_13))] := hD
  refine W.eq (g2 := F0 m 29 ls []) rfl ?_
  refine lv_aload_n hx hb dX8_add_29 rfl (lv_at hl 1 rfl) ?_
  refine va_get (D := gD G) (ci := 9) (v := .ref bk) (C := RX8) (T := TX8) (N := 1) hx hb hts (fun _ h9 => (List.mem_cons_of_mem _ (List.mem_append_right _ (List.mem_append_right _ (List.mem_append_left _ h9))))) hown hK hP 0 rfl rfl 0 (by decide) (hts (.fieldLink RX8 9 "JudoHall$Roll" "book" "LJudoHall$Book;") (List.mem_cons_of_mem _ (List.mem_append_left _ (List.mem_of_getElem? (i := 4) rfl)))) (fun _ h9 => h9) rfl dX8_add_30 ?_
  refine lv_iload_n hx hb dX8_add_33 rfl (lv_at hl 0 rfl) ?_
  refine lv_iconst (v := 1) hx hb dX8_add_34 (by decide) ?_
  refine vp_callSi (va_Run.run (va_runS (As := [.int 0, .int 1]) (rest := [.ref bk]) ⟨hx, hb, hml, hown, hts⟩ (c_Book_ofFighter l G 0 1) (va_cwS 2 hts (gdS (List.mem_cons_of_mem _ (List.mem_append_left _ (List.mem_of_getElem? (i := 9) rfl))) (List.mem_cons_of_mem _ (List.mem_append_left _ (List.mem_of_getElem? (i := 10) rfl))) (List.mem_cons_of_mem _ (List.mem_append_left _ (List.mem_of_getElem? (i := 8) rfl))) (fun w9 h9 => ⟨(List.mem_cons_of_mem _ (List.mem_append_right _ (List.mem_append_right _ (List.mem_append_right _ (List.mem_append_right _ (List.mem_append_left _ h9)))))), gd_c_Book_ofFighter w9 h9⟩)) rfl rfl rfl kSX1_ofFighter ⟨Nat.le_of_ble_eq_true rfl, Nat.le_of_ble_eq_true rfl⟩) (preS_p (As := [.int 0, .int 1]) (hP.sub (ws' := []) [] rfl) hB) rfl rfl hl.1 rfl (lv_room (Nat.le_of_ble_eq_true rfl)) dX8_add_35 ⟨Nat.le_of_ble_eq_true rfl, Nat.le_of_ble_eq_true rfl⟩)) (fun r_15 hr_15 => ?_)
  have hr_15 : r_15 = 149 := hr_15.trans (by decide)
  subst hr_15
  refine lv_iload_n hx hb dX8_add_38 rfl (lv_at hl 2 rfl) ?_
  have hPc := hP.sub (ws' := [(bk, .inr (2, [.ref ca, .ref bc, .ref bb, vs, .int (nI q_10), ve])), (ca, .inl (gI G, 2088, .inl q_11)), (bc, .inr (10, [.ref bc2])), (bc2, .inl (gI G, 512, .inl q_12)), (bb, .inr (10, [.ref bb2])), (bb2, .inl (gI G, 512, .inl q_13))]) [1, 2, 3, 4, 5, 6] rfl
  have hDc := hD.sub (ws' := [(bk, .inr (2, [.ref ca, .ref bc, .ref bb, vs, .int (nI q_10), ve])), (ca, .inl (gI G, 2088, .inl q_11)), (bc, .inr (10, [.ref bc2])), (bc2, .inl (gI G, 512, .inl q_12)), (bb, .inr (10, [.ref bb2])), (bb2, .inl (gI G, 512, .inl q_13))]) [1, 2, 3, 4, 5, 6] (by decide) rfl
  have hFc := va_free (wc := [(bk, .inr (2, [.ref ca, .ref bc, .ref bb, vs, .int (nI q_10), ve])), (ca, .inl (gI G, 2088, .inl q_11)), (bc, .inr (10, [.ref bc2])), (bc2, .inl (gI G, 512, .inl q_12)), (bb, .inr (10, [.ref bb2])), (bb2, .inl (gI G, 512, .inl q_13))]) hD hS hA [1, 2, 3, 4, 5, 6] rfl
  refine va_callv (va_runV (As := [.int 149, .int x]) (rest := []) ⟨hx, hb, hml, hown, hts⟩ (c_put l G bk ca bc bc2 bb bb2 vs ve q_11 q_12 q_13 q_10 149 x H.size (by omega)) (cwV 2 hts (gdV (List.mem_cons_of_mem _ (List.mem_append_left _ (List.mem_of_getElem? (i := 5) rfl))) (List.mem_cons_of_mem _ (List.mem_append_left _ (List.mem_of_getElem? (i := 6) rfl))) (List.mem_cons_of_mem _ (List.mem_append_left _ (List.mem_of_getElem? (i := 7) rfl))) (List.mem_cons_of_mem _ (List.mem_append_left _ (List.mem_of_getElem? (i := 8) rfl))) (fun w9 h9 => ⟨(List.mem_cons_of_mem _ (List.mem_append_right _ (List.mem_append_right _ (List.mem_append_right _ (List.mem_append_left _ h9))))), gd_c_put w9 h9⟩)) rfl rfl rfl kVX1_put ⟨Nat.le_of_ble_eq_true rfl, Nat.le_of_ble_eq_true rfl⟩) (preV_m (As := [.int 149, .int x]) hPc hB hDc rfl rfl) rfl rfl hl.1 rfl (lv_room (Nat.le_of_ble_eq_true rfl)) dX8_add_39 ⟨Nat.le_of_ble_eq_true rfl, Nat.le_of_ble_eq_true rfl⟩) hS (fun q _ h => hFc q h) hFc (fun u t H1 locs ht hvm hw hB1 hz1 hk1 hS => ?_)
  obtain ⟨q_17, q_18, q_19, q_20, hP1, hD1, hw2⟩ := hB1
  rw [ht] at hP1
  obtain ⟨hP, hD⟩ := va_join (wr := [(rl, .inr (9, [.ref bk]))]) (w1 := [(bk, .inr (2, [.ref ca, .ref bc, .ref bb, vs, .int (nI q_17), ve])), (ca, .inl (gI G, 2088, .inl q_18)), (bc, .inr (10, [.ref bc2])), (bc2, .inl (gI G, 512, .inl q_19)), (bb, .inr (10, [.ref bb2])), (bb2, .inl (gI G, 512, .inl q_20))]) hP hD [1, 2, 3, 4, 5, 6] [0] rfl rfl (by decide) (by decide) hk1 hFc hP1 hD1
  generalize H1 = H at hP hS ⊢
  have w_21 := hw2
  have hP : va_P (gD G) vwCl [(rl, .inr (9, [.ref bk])), (bk, .inr (2, [.ref ca, .ref bc, .ref bb, vs, .int (nI q_17), ve])), (ca, .inl (gI G, 2088, .inl q_18)), (bc, .inr (10, [.ref bc2])), (bc2, .inl (gI G, 512, .inl q_19)), (bb, .inr (10, [.ref bb2])), (bb2, .inl (gI G, 512, .inl q_20))] H := hP
  have hD : va_D A [(rl, .inr (9, [.ref bk])), (bk, .inr (2, [.ref ca, .ref bc, .ref bb, vs, .int (nI q_17), ve])), (ca, .inl (gI G, 2088, .inl q_18)), (bc, .inr (10, [.ref bc2])), (bc2, .inl (gI G, 512, .inl q_19)), (bb, .inr (10, [.ref bb2])), (bb2, .inl (gI G, 512, .inl q_20))] := hD
  refine W.eq (g2 := F0 m 42 ls []) rfl ?_
  refine lv_aload_n hx hb dX8_add_42 rfl (lv_at hl 1 rfl) ?_
  refine va_get (D := gD G) (ci := 9) (v := .ref bk) (C := RX8) (T := TX8) (N := 1) hx hb hts (fun _ h9 => (List.mem_cons_of_mem _ (List.mem_append_right _ (List.mem_append_right _ (List.mem_append_left _ h9))))) hown hK hP 0 rfl rfl 0 (by decide) (hts (.fieldLink RX8 9 "JudoHall$Roll" "book" "LJudoHall$Book;") (List.mem_cons_of_mem _ (List.mem_append_left _ (List.mem_of_getElem? (i := 4) rfl)))) (fun _ h9 => h9) rfl dX8_add_43 ?_
  refine lv_iload_n hx hb dX8_add_46 rfl (lv_at hl 0 rfl) ?_
  refine lv_iconst (v := 2) hx hb dX8_add_47 (by decide) ?_
  refine vp_callSi (va_Run.run (va_runS (As := [.int 0, .int 2]) (rest := [.ref bk]) ⟨hx, hb, hml, hown, hts⟩ (c_Book_ofFighter l G 0 2) (va_cwS 2 hts (gdS (List.mem_cons_of_mem _ (List.mem_append_left _ (List.mem_of_getElem? (i := 9) rfl))) (List.mem_cons_of_mem _ (List.mem_append_left _ (List.mem_of_getElem? (i := 10) rfl))) (List.mem_cons_of_mem _ (List.mem_append_left _ (List.mem_of_getElem? (i := 8) rfl))) (fun w9 h9 => ⟨(List.mem_cons_of_mem _ (List.mem_append_right _ (List.mem_append_right _ (List.mem_append_right _ (List.mem_append_right _ (List.mem_append_left _ h9)))))), gd_c_Book_ofFighter w9 h9⟩)) rfl rfl rfl kSX1_ofFighter ⟨Nat.le_of_ble_eq_true rfl, Nat.le_of_ble_eq_true rfl⟩) (preS_p (As := [.int 0, .int 2]) (hP.sub (ws' := []) [] rfl) hB) rfl rfl hl.1 rfl (lv_room (Nat.le_of_ble_eq_true rfl)) dX8_add_48 ⟨Nat.le_of_ble_eq_true rfl, Nat.le_of_ble_eq_true rfl⟩)) (fun r_22 hr_22 => ?_)
  have hr_22 : r_22 = 150 := hr_22.trans (by decide)
  subst hr_22
  refine lv_iconst (v := (-1)) hx hb dX8_add_51 (by decide) ?_
  have hPc := hP.sub (ws' := [(bk, .inr (2, [.ref ca, .ref bc, .ref bb, vs, .int (nI q_17), ve])), (ca, .inl (gI G, 2088, .inl q_18)), (bc, .inr (10, [.ref bc2])), (bc2, .inl (gI G, 512, .inl q_19)), (bb, .inr (10, [.ref bb2])), (bb2, .inl (gI G, 512, .inl q_20))]) [1, 2, 3, 4, 5, 6] rfl
  have hDc := hD.sub (ws' := [(bk, .inr (2, [.ref ca, .ref bc, .ref bb, vs, .int (nI q_17), ve])), (ca, .inl (gI G, 2088, .inl q_18)), (bc, .inr (10, [.ref bc2])), (bc2, .inl (gI G, 512, .inl q_19)), (bb, .inr (10, [.ref bb2])), (bb2, .inl (gI G, 512, .inl q_20))]) [1, 2, 3, 4, 5, 6] (by decide) rfl
  have hFc := va_free (wc := [(bk, .inr (2, [.ref ca, .ref bc, .ref bb, vs, .int (nI q_17), ve])), (ca, .inl (gI G, 2088, .inl q_18)), (bc, .inr (10, [.ref bc2])), (bc2, .inl (gI G, 512, .inl q_19)), (bb, .inr (10, [.ref bb2])), (bb2, .inl (gI G, 512, .inl q_20))]) hD hS hA [1, 2, 3, 4, 5, 6] rfl
  refine va_callv (va_runV (As := [.int 150, .int (-1)]) (rest := []) ⟨hx, hb, hml, hown, hts⟩ (c_put l G bk ca bc bc2 bb bb2 vs ve q_18 q_19 q_20 q_17 150 (-1) H.size (by omega)) (cwV 2 hts (gdV (List.mem_cons_of_mem _ (List.mem_append_left _ (List.mem_of_getElem? (i := 5) rfl))) (List.mem_cons_of_mem _ (List.mem_append_left _ (List.mem_of_getElem? (i := 6) rfl))) (List.mem_cons_of_mem _ (List.mem_append_left _ (List.mem_of_getElem? (i := 7) rfl))) (List.mem_cons_of_mem _ (List.mem_append_left _ (List.mem_of_getElem? (i := 8) rfl))) (fun w9 h9 => ⟨(List.mem_cons_of_mem _ (List.mem_append_right _ (List.mem_append_right _ (List.mem_append_right _ (List.mem_append_left _ h9))))), gd_c_put w9 h9⟩)) rfl rfl rfl kVX1_put ⟨Nat.le_of_ble_eq_true rfl, Nat.le_of_ble_eq_true rfl⟩) (preV_m (As := [.int 150, .int (-1)]) hPc hB hDc rfl rfl) rfl rfl hl.1 rfl (lv_room (Nat.le_of_ble_eq_true rfl)) dX8_add_52 ⟨Nat.le_of_ble_eq_true rfl, Nat.le_of_ble_eq_true rfl⟩) hS (fun q _ h => hFc q h) hFc (fun u t H1 locs ht hvm hw hB1 hz1 hk1 hS => ?_)
  obtain ⟨q_24, q_25, q_26, q_27, hP1, hD1, hw2⟩ := hB1
  rw [ht] at hP1
  obtain ⟨hP, hD⟩ := va_join (wr := [(rl, .inr (9, [.ref bk]))]) (w1 := [(bk, .inr (2, [.ref ca, .ref bc, .ref bb, vs, .int (nI q_24), ve])), (ca, .inl (gI G, 2088, .inl q_25)), (bc, .inr (10, [.ref bc2])), (bc2, .inl (gI G, 512, .inl q_26)), (bb, .inr (10, [.ref bb2])), (bb2, .inl (gI G, 512, .inl q_27))]) hP hD [1, 2, 3, 4, 5, 6] [0] rfl rfl (by decide) (by decide) hk1 hFc hP1 hD1
  generalize H1 = H at hP hS ⊢
  have w_28 := hw2
  have hP : va_P (gD G) vwCl [(rl, .inr (9, [.ref bk])), (bk, .inr (2, [.ref ca, .ref bc, .ref bb, vs, .int (nI q_24), ve])), (ca, .inl (gI G, 2088, .inl q_25)), (bc, .inr (10, [.ref bc2])), (bc2, .inl (gI G, 512, .inl q_26)), (bb, .inr (10, [.ref bb2])), (bb2, .inl (gI G, 512, .inl q_27))] H := hP
  have hD : va_D A [(rl, .inr (9, [.ref bk])), (bk, .inr (2, [.ref ca, .ref bc, .ref bb, vs, .int (nI q_24), ve])), (ca, .inl (gI G, 2088, .inl q_25)), (bc, .inr (10, [.ref bc2])), (bc2, .inl (gI G, 512, .inl q_26)), (bb, .inr (10, [.ref bb2])), (bb2, .inl (gI G, 512, .inl q_27))] := hD
  refine W.eq (g2 := F0 m 55 ls []) rfl ?_
  refine lv_aload_n hx hb dX8_add_55 rfl (lv_at hl 1 rfl) ?_
  refine va_get (D := gD G) (ci := 9) (v := .ref bk) (C := RX8) (T := TX8) (N := 1) hx hb hts (fun _ h9 => (List.mem_cons_of_mem _ (List.mem_append_right _ (List.mem_append_right _ (List.mem_append_left _ h9))))) hown hK hP 0 rfl rfl 0 (by decide) (hts (.fieldLink RX8 9 "JudoHall$Roll" "book" "LJudoHall$Book;") (List.mem_cons_of_mem _ (List.mem_append_left _ (List.mem_of_getElem? (i := 4) rfl)))) (fun _ h9 => h9) rfl dX8_add_56 ?_
  refine lv_iload_n hx hb dX8_add_59 rfl (lv_at hl 0 rfl) ?_
  refine lv_iconst (v := 5) hx hb dX8_add_60 (by decide) ?_
  refine vp_callSi (va_Run.run (va_runS (As := [.int 0, .int 5]) (rest := [.ref bk]) ⟨hx, hb, hml, hown, hts⟩ (c_Book_ofFighter l G 0 5) (va_cwS 2 hts (gdS (List.mem_cons_of_mem _ (List.mem_append_left _ (List.mem_of_getElem? (i := 9) rfl))) (List.mem_cons_of_mem _ (List.mem_append_left _ (List.mem_of_getElem? (i := 10) rfl))) (List.mem_cons_of_mem _ (List.mem_append_left _ (List.mem_of_getElem? (i := 8) rfl))) (fun w9 h9 => ⟨(List.mem_cons_of_mem _ (List.mem_append_right _ (List.mem_append_right _ (List.mem_append_right _ (List.mem_append_right _ (List.mem_append_left _ h9)))))), gd_c_Book_ofFighter w9 h9⟩)) rfl rfl rfl kSX1_ofFighter ⟨Nat.le_of_ble_eq_true rfl, Nat.le_of_ble_eq_true rfl⟩) (preS_p (As := [.int 0, .int 5]) (hP.sub (ws' := []) [] rfl) hB) rfl rfl hl.1 rfl (lv_room (Nat.le_of_ble_eq_true rfl)) dX8_add_61 ⟨Nat.le_of_ble_eq_true rfl, Nat.le_of_ble_eq_true rfl⟩)) (fun r_29 hr_29 => ?_)
  have hr_29 : r_29 = 153 := hr_29.trans (by decide)
  subst hr_29
  refine lv_iconst (v := (-1)) hx hb dX8_add_64 (by decide) ?_
  have hPc := hP.sub (ws' := [(bk, .inr (2, [.ref ca, .ref bc, .ref bb, vs, .int (nI q_24), ve])), (ca, .inl (gI G, 2088, .inl q_25)), (bc, .inr (10, [.ref bc2])), (bc2, .inl (gI G, 512, .inl q_26)), (bb, .inr (10, [.ref bb2])), (bb2, .inl (gI G, 512, .inl q_27))]) [1, 2, 3, 4, 5, 6] rfl
  have hDc := hD.sub (ws' := [(bk, .inr (2, [.ref ca, .ref bc, .ref bb, vs, .int (nI q_24), ve])), (ca, .inl (gI G, 2088, .inl q_25)), (bc, .inr (10, [.ref bc2])), (bc2, .inl (gI G, 512, .inl q_26)), (bb, .inr (10, [.ref bb2])), (bb2, .inl (gI G, 512, .inl q_27))]) [1, 2, 3, 4, 5, 6] (by decide) rfl
  have hFc := va_free (wc := [(bk, .inr (2, [.ref ca, .ref bc, .ref bb, vs, .int (nI q_24), ve])), (ca, .inl (gI G, 2088, .inl q_25)), (bc, .inr (10, [.ref bc2])), (bc2, .inl (gI G, 512, .inl q_26)), (bb, .inr (10, [.ref bb2])), (bb2, .inl (gI G, 512, .inl q_27))]) hD hS hA [1, 2, 3, 4, 5, 6] rfl
  refine va_callv (va_runV (As := [.int 153, .int (-1)]) (rest := []) ⟨hx, hb, hml, hown, hts⟩ (c_put l G bk ca bc bc2 bb bb2 vs ve q_25 q_26 q_27 q_24 153 (-1) H.size (by omega)) (cwV 2 hts (gdV (List.mem_cons_of_mem _ (List.mem_append_left _ (List.mem_of_getElem? (i := 5) rfl))) (List.mem_cons_of_mem _ (List.mem_append_left _ (List.mem_of_getElem? (i := 6) rfl))) (List.mem_cons_of_mem _ (List.mem_append_left _ (List.mem_of_getElem? (i := 7) rfl))) (List.mem_cons_of_mem _ (List.mem_append_left _ (List.mem_of_getElem? (i := 8) rfl))) (fun w9 h9 => ⟨(List.mem_cons_of_mem _ (List.mem_append_right _ (List.mem_append_right _ (List.mem_append_right _ (List.mem_append_left _ h9))))), gd_c_put w9 h9⟩)) rfl rfl rfl kVX1_put ⟨Nat.le_of_ble_eq_true rfl, Nat.le_of_ble_eq_true rfl⟩) (preV_m (As := [.int 153, .int (-1)]) hPc hB hDc rfl rfl) rfl rfl hl.1 rfl (lv_room (Nat.le_of_ble_eq_true rfl)) dX8_add_65 ⟨Nat.le_of_ble_eq_true rfl, Nat.le_of_ble_eq_true rfl⟩) hS (fun q _ h => hFc q h) hFc (fun u t H1 locs ht hvm hw hB1 hz1 hk1 hS => ?_)
  obtain ⟨q_31, q_32, q_33, q_34, hP1, hD1, hw2⟩ := hB1
  rw [ht] at hP1
  obtain ⟨hP, hD⟩ := va_join (wr := [(rl, .inr (9, [.ref bk]))]) (w1 := [(bk, .inr (2, [.ref ca, .ref bc, .ref bb, vs, .int (nI q_31), ve])), (ca, .inl (gI G, 2088, .inl q_32)), (bc, .inr (10, [.ref bc2])), (bc2, .inl (gI G, 512, .inl q_33)), (bb, .inr (10, [.ref bb2])), (bb2, .inl (gI G, 512, .inl q_34))]) hP hD [1, 2, 3, 4, 5, 6] [0] rfl rfl (by decide) (by decide) hk1 hFc hP1 hD1
  generalize H1 = H at hP hS ⊢
  have w_35 := hw2
  have hP : va_P (gD G) vwCl [(rl, .inr (9, [.ref bk])), (bk, .inr (2, [.ref ca, .ref bc, .ref bb, vs, .int (nI q_31), ve])), (ca, .inl (gI G, 2088, .inl q_32)), (bc, .inr (10, [.ref bc2])), (bc2, .inl (gI G, 512, .inl q_33)), (bb, .inr (10, [.ref bb2])), (bb2, .inl (gI G, 512, .inl q_34))] H := hP
  have hD : va_D A [(rl, .inr (9, [.ref bk])), (bk, .inr (2, [.ref ca, .ref bc, .ref bb, vs, .int (nI q_31), ve])), (ca, .inl (gI G, 2088, .inl q_32)), (bc, .inr (10, [.ref bc2])), (bc2, .inl (gI G, 512, .inl q_33)), (bb, .inr (10, [.ref bb2])), (bb2, .inl (gI G, 512, .inl q_34))] := hD
  refine W.eq (g2 := F0 m 68 ls []) rfl ?_
  refine lv_aload_n hx hb dX8_add_68 rfl (lv_at hl 1 rfl) ?_
  refine va_get (D := gD G) (ci := 9) (v := .ref bk) (C := RX8) (T := TX8) (N := 1) hx hb hts (fun _ h9 => (List.mem_cons_of_mem _ (List.mem_append_right _ (List.mem_append_right _ (List.mem_append_left _ h9))))) hown hK hP 0 rfl rfl 0 (by decide) (hts (.fieldLink RX8 9 "JudoHall$Roll" "book" "LJudoHall$Book;") (List.mem_cons_of_mem _ (List.mem_append_left _ (List.mem_of_getElem? (i := 4) rfl)))) (fun _ h9 => h9) rfl dX8_add_69 ?_
  refine lv_iload_n hx hb dX8_add_72 rfl (lv_at hl 0 rfl) ?_
  refine lv_bipush (v := 6) hx hb dX8_add_73 (by decide) ?_
  refine vp_callSi (va_Run.run (va_runS (As := [.int 0, .int 6]) (rest := [.ref bk]) ⟨hx, hb, hml, hown, hts⟩ (c_Book_ofFighter l G 0 6) (va_cwS 2 hts (gdS (List.mem_cons_of_mem _ (List.mem_append_left _ (List.mem_of_getElem? (i := 9) rfl))) (List.mem_cons_of_mem _ (List.mem_append_left _ (List.mem_of_getElem? (i := 10) rfl))) (List.mem_cons_of_mem _ (List.mem_append_left _ (List.mem_of_getElem? (i := 8) rfl))) (fun w9 h9 => ⟨(List.mem_cons_of_mem _ (List.mem_append_right _ (List.mem_append_right _ (List.mem_append_right _ (List.mem_append_right _ (List.mem_append_left _ h9)))))), gd_c_Book_ofFighter w9 h9⟩)) rfl rfl rfl kSX1_ofFighter ⟨Nat.le_of_ble_eq_true rfl, Nat.le_of_ble_eq_true rfl⟩) (preS_p (As := [.int 0, .int 6]) (hP.sub (ws' := []) [] rfl) hB) rfl rfl hl.1 rfl (lv_room (Nat.le_of_ble_eq_true rfl)) dX8_add_75 ⟨Nat.le_of_ble_eq_true rfl, Nat.le_of_ble_eq_true rfl⟩)) (fun r_36 hr_36 => ?_)
  have hr_36 : r_36 = 154 := hr_36.trans (by decide)
  subst hr_36
  refine lv_iconst (v := (-1)) hx hb dX8_add_78 (by decide) ?_
  have hPc := hP.sub (ws' := [(bk, .inr (2, [.ref ca, .ref bc, .ref bb, vs, .int (nI q_31), ve])), (ca, .inl (gI G, 2088, .inl q_32)), (bc, .inr (10, [.ref bc2])), (bc2, .inl (gI G, 512, .inl q_33)), (bb, .inr (10, [.ref bb2])), (bb2, .inl (gI G, 512, .inl q_34))]) [1, 2, 3, 4, 5, 6] rfl
  have hDc := hD.sub (ws' := [(bk, .inr (2, [.ref ca, .ref bc, .ref bb, vs, .int (nI q_31), ve])), (ca, .inl (gI G, 2088, .inl q_32)), (bc, .inr (10, [.ref bc2])), (bc2, .inl (gI G, 512, .inl q_33)), (bb, .inr (10, [.ref bb2])), (bb2, .inl (gI G, 512, .inl q_34))]) [1, 2, 3, 4, 5, 6] (by decide) rfl
  have hFc := va_free (wc := [(bk, .inr (2, [.ref ca, .ref bc, .ref bb, vs, .int (nI q_31), ve])), (ca, .inl (gI G, 2088, .inl q_32)), (bc, .inr (10, [.ref bc2])), (bc2, .inl (gI G, 512, .inl q_33)), (bb, .inr (10, [.ref bb2])), (bb2, .inl (gI G, 512, .inl q_34))]) hD hS hA [1, 2, 3, 4, 5, 6] rfl
  refine va_callv (va_runV (As := [.int 154, .int (-1)]) (rest := []) ⟨hx, hb, hml, hown, hts⟩ (c_put l G bk ca bc bc2 bb bb2 vs ve q_32 q_33 q_34 q_31 154 (-1) H.size (by omega)) (cwV 2 hts (gdV (List.mem_cons_of_mem _ (List.mem_append_left _ (List.mem_of_getElem? (i := 5) rfl))) (List.mem_cons_of_mem _ (List.mem_append_left _ (List.mem_of_getElem? (i := 6) rfl))) (List.mem_cons_of_mem _ (List.mem_append_left _ (List.mem_of_getElem? (i := 7) rfl))) (List.mem_cons_of_mem _ (List.mem_append_left _ (List.mem_of_getElem? (i := 8) rfl))) (fun w9 h9 => ⟨(List.mem_cons_of_mem _ (List.mem_append_right _ (List.mem_append_right _ (List.mem_append_right _ (List.mem_append_left _ h9))))), gd_c_put w9 h9⟩)) rfl rfl rfl kVX1_put ⟨Nat.le_of_ble_eq_true rfl, Nat.le_of_ble_eq_true rfl⟩) (preV_m (As := [.int 154, .int (-1)]) hPc hB hDc rfl rfl) rfl rfl hl.1 rfl (lv_room (Nat.le_of_ble_eq_true rfl)) dX8_add_79 ⟨Nat.le_of_ble_eq_true rfl, Nat.le_of_ble_eq_true rfl⟩) hS (fun q _ h => hFc q h) hFc (fun u t H1 locs ht hvm hw hB1 hz1 hk1 hS => ?_)
  obtain ⟨q_38, q_39, q_40, q_41, hP1, hD1, hw2⟩ := hB1
  rw [ht] at hP1
  obtain ⟨hP, hD⟩ := va_join (wr := [(rl, .inr (9, [.ref bk]))]) (w1 := [(bk, .inr (2, [.ref ca, .ref bc, .ref bb, vs, .int (nI q_38), ve])), (ca, .inl (gI G, 2088, .inl q_39)), (bc, .inr (10, [.ref bc2])), (bc2, .inl (gI G, 512, .inl q_40)), (bb, .inr (10, [.ref bb2])), (bb2, .inl (gI G, 512, .inl q_41))]) hP hD [1, 2, 3, 4, 5, 6] [0] rfl rfl (by decide) (by decide) hk1 hFc hP1 hD1
  generalize H1 = H at hP hS ⊢
  have w_42 := hw2
  have hP : va_P (gD G) vwCl [(rl, .inr (9, [.ref bk])), (bk, .inr (2, [.ref ca, .ref bc, .ref bb, vs, .int (nI q_38), ve])), (ca, .inl (gI G, 2088, .inl q_39)), (bc, .inr (10, [.ref bc2])), (bc2, .inl (gI G, 512, .inl q_40)), (bb, .inr (10, [.ref bb2])), (bb2, .inl (gI G, 512, .inl q_41))] H := hP
  have hD : va_D A [(rl, .inr (9, [.ref bk])), (bk, .inr (2, [.ref ca, .ref bc, .ref bb, vs, .int (nI q_38), ve])), (ca, .inl (gI G, 2088, .inl q_39)), (bc, .inr (10, [.ref bc2])), (bc2, .inl (gI G, 512, .inl q_40)), (bb, .inr (10, [.ref bb2])), (bb2, .inl (gI G, 512, .inl q_41))] := hD
  refine W.eq (g2 := F0 m 82 ls []) rfl ?_
  refine lv_iload_n hx hb dX8_add_82 rfl (lv_at hl 0 rfl) ?_
  have hP9 := hP.sub (ws' := []) [] rfl
  have hD9 := hD.sub (ws' := []) [] (by decide) rfl
  exact W.iret (v := 0) hx hb hr (fun t ht hW => ⟨⟨_, (), rfl, rfl, by rw [ht]; exact hP9, hD9⟩, hS.F ht⟩) hS.2.2 dX8_add_83

def wo_c_Laws_clear : List Cond := [.fieldLink RX4 24 "JudoHall$Laws" "time" "I", .fieldLink RX4 28 "JudoHall$Laws" "golden" "I", .fieldLink RX4 31 "JudoHall$Laws" "signs" "I", .fieldLink RX4 34 "JudoHall$Laws" "lines" "I", .fieldLink RX4 37 "JudoHall$Laws" "parts" "I", .fieldLink RX4 40 "JudoHall$Laws" "size" "I"]
def wq_c_Laws_clear : List Cond := .code yX4_clear cX4_clear 1 none :: (wo_c_Laws_clear ++ (wsX40 ++ []))
theorem gd_c_Laws_clear : ∀ w ∈ wq_c_Laws_clear, Gd w := List.forall_mem_cons.mpr ⟨Or.inl rfl, List.forall_mem_append.mpr ⟨gdl wo_c_Laws_clear (by decide +kernel), (List.forall_mem_append.mpr ⟨gd_wsX40, (fun _ h => absurd h List.not_mem_nil)⟩)⟩⟩
theorem in_c_Laws_clear : ∀ w ∈ wq_c_Laws_clear, w ∈ lw_tbl := List.forall_mem_cons.mpr ⟨List.mem_of_getElem? (i := 633) (by decide +kernel), List.forall_mem_append.mpr ⟨inT wo_c_Laws_clear [292, 295, 298, 301, 305, 308] (by decide +kernel), (List.forall_mem_append.mpr ⟨in_wsX40, (fun _ h => absurd h List.not_mem_nil)⟩)⟩⟩
set_option maxHeartbeats 4000000 in
set_option maxRecDepth 100000 in
theorem c_Laws_clear (l : Launch) (G : gG) (dr : Nat) (p4 : Value) (p5 : Value) (p6 : Value) (sz : Nat) : Met l yX4_clear wq_c_Laws_clear ({ frames := 0, cells := 0, slots := 0, locals := 0 }) (va_Pc [.ref dr] (mP G [(dr, .inr (5, [.int 0, .int 0, .int 0, .int 0, .int 0, .int 0, p4, p5, p6]))] sz)) (va_Qv (fun _ : Unit => True) (fun (_ : Unit) (t : State) => va_P (gD G) vwCl [(dr, .inr (5, [.int 0, .int 0, .int 0, .int 0, .int 0, .int 0, p4, p5, p6]))] t.heap ∧ va_D (va_A [(dr, .inr (5, [.int 0, .int 0, .int 0, .int 0, .int 0, .int 0, p4, p5, p6]))] sz) [(dr, .inr (5, [.int 0, .int 0, .int 0, .int 0, .int 0, .int 0, p4, p5, p6]))]) (va_A [(dr, .inr (5, [.int 0, .int 0, .int 0, .int 0, .int 0, .int 0, p4, p5, p6]))] sz)) 0 0 (va_A [(dr, .inr (5, [.int 0, .int 0, .int 0, .int 0, .int 0, .int 0, p4, p5, p6]))] sz) := by
  refine Met.ofW (cc := cX4_clear) (maxL := 1) (ret := none) (by decide) rfl ?_
  intro p e s m args below meth c s₁ B hml hv
  obtain ⟨rfl, hsz, hP, hB, hD0⟩ := hv
  have hx := B.exec
  have hb := B.bytes
  have hr := B.returns
  have hts := atoms_spec (ws := wq_c_Laws_clear) B.pre
  have hown : s.vm.findClass RX4 = some m.cls := findClass_of_methodNamed B.named
  have hlocks := B.notSynchronized
  have hK := hB.1
  subst hsz
  have hD := hD0.self (sz := s.heap.size)
  generalize hAe : va_A [(dr, .inr (5, [.int 0, .int 0, .int 0, .int 0, .int 0, .int 0, p4, p5, p6]))] s.heap.size = A at hD ⊢
  have hA : ∀ q : Nat, s.heap.size ≤ q → A q := fun q h => by rw [← hAe]; exact Or.inr h
  have hS : va_S A s.heap s.heap [] := va_S.rf
  have hP : va_P (gD G) vwCl [(dr, .inr (5, [.int 0, .int 0, .int 0, .int 0, .int 0, .int 0, p4, p5, p6]))] s.heap := hP
  have hD : va_D A [(dr, .inr (5, [.int 0, .int 0, .int 0, .int 0, .int 0, .int 0, p4, p5, p6]))] := hD
  have hl := lv_entry ([.ref dr]) (n := 1) (Nat.le_of_ble_eq_true rfl)
  rw [lg_entry_eq]
  generalize (lg_sl ([.ref dr]) ++ List.replicate (1 - (lg_sl ([.ref dr])).length) Slot.unset).toArray = ls at hl ⊢
  have hl : lv_has ls 1 [(0, .ref dr)] := hl
  refine lv_aload_n hx hb dX4_clear_0 rfl (lv_at hl 0 rfl) ?_
  refine lv_iconst (v := 0) hx hb dX4_clear_1 (by decide) ?_
  refine va_put (D := gD G) (ci := 5) (v := .int 0) (ty := tyX4 0) (C := RX4) (T := TX4) (N := 9) hx hb hts (fun _ h9 => (List.mem_cons_of_mem _ (List.mem_append_right _ (List.mem_append_left _ h9)))) tyX4 tyX4_ok nmX4 hown hK hP hD hS 0 rfl rfl 0 (by decide) (hts (.fieldLink RX4 24 "JudoHall$Laws" "time" "I") (List.mem_cons_of_mem _ (List.mem_append_left _ (List.mem_of_getElem? (i := 0) rfl)))) (fun _ h9 => h9) rfl (tyX4_ok 0 (by decide)) rfl rfl (Nat.le_of_ble_eq_true rfl) dX4_clear_2 (fun H locs hP hD hS => ?_)
  have hP : va_P (gD G) vwCl [(dr, .inr (5, [.int 0, .int 0, .int 0, .int 0, .int 0, .int 0, p4, p5, p6]))] H := hP
  have hD : va_D A [(dr, .inr (5, [.int 0, .int 0, .int 0, .int 0, .int 0, .int 0, p4, p5, p6]))] := hD
  refine lv_aload_n hx hb dX4_clear_5 rfl (lv_at hl 0 rfl) ?_
  refine lv_iconst (v := 0) hx hb dX4_clear_6 (by decide) ?_
  refine va_put (D := gD G) (ci := 5) (v := .int 0) (ty := tyX4 1) (C := RX4) (T := TX4) (N := 9) hx hb hts (fun _ h9 => (List.mem_cons_of_mem _ (List.mem_append_right _ (List.mem_append_left _ h9)))) tyX4 tyX4_ok nmX4 hown hK hP hD hS 0 rfl rfl 1 (by decide) (hts (.fieldLink RX4 28 "JudoHall$Laws" "golden" "I") (List.mem_cons_of_mem _ (List.mem_append_left _ (List.mem_of_getElem? (i := 1) rfl)))) (fun _ h9 => h9) rfl (tyX4_ok 1 (by decide)) rfl rfl (Nat.le_of_ble_eq_true rfl) dX4_clear_7 (fun H locs hP hD hS => ?_)
  have hP : va_P (gD G) vwCl [(dr, .inr (5, [.int 0, .int 0, .int 0, .int 0, .int 0, .int 0, p4, p5, p6]))] H := hP
  have hD : va_D A [(dr, .inr (5, [.int 0, .int 0, .int 0, .int 0, .int 0, .int 0, p4, p5, p6]))] := hD
  refine lv_aload_n hx hb dX4_clear_10 rfl (lv_at hl 0 rfl) ?_
  refine lv_iconst (v := 0) hx hb dX4_clear_11 (by decide) ?_
  refine va_put (D := gD G) (ci := 5) (v := .int 0) (ty := tyX4 2) (C := RX4) (T := TX4) (N := 9) hx hb hts (fun _ h9 => (List.mem_cons_of_mem _ (List.mem_append_right _ (List.mem_append_left _ h9)))) tyX4 tyX4_ok nmX4 hown hK hP hD hS 0 rfl rfl 2 (by decide) (hts (.fieldLink RX4 31 "JudoHall$Laws" "signs" "I") (List.mem_cons_of_mem _ (List.mem_append_left _ (List.mem_of_getElem? (i := 2) rfl)))) (fun _ h9 => h9) rfl (tyX4_ok 2 (by decide)) rfl rfl (Nat.le_of_ble_eq_true rfl) dX4_clear_12 (fun H locs hP hD hS => ?_)
  have hP : va_P (gD G) vwCl [(dr, .inr (5, [.int 0, .int 0, .int 0, .int 0, .int 0, .int 0, p4, p5, p6]))] H := hP
  have hD : va_D A [(dr, .inr (5, [.int 0, .int 0, .int 0, .int 0, .int 0, .int 0, p4, p5, p6]))] := hD
  refine lv_aload_n hx hb dX4_clear_15 rfl (lv_at hl 0 rfl) ?_
  refine lv_iconst (v := 0) hx hb dX4_clear_16 (by decide) ?_
  refine va_put (D := gD G) (ci := 5) (v := .int 0) (ty := tyX4 3) (C := RX4) (T := TX4) (N := 9) hx hb hts (fun _ h9 => (List.mem_cons_of_mem _ (List.mem_append_right _ (List.mem_append_left _ h9)))) tyX4 tyX4_ok nmX4 hown hK hP hD hS 0 rfl rfl 3 (by decide) (hts (.fieldLink RX4 34 "JudoHall$Laws" "lines" "I") (List.mem_cons_of_mem _ (List.mem_append_left _ (List.mem_of_getElem? (i := 3) rfl)))) (fun _ h9 => h9) rfl (tyX4_ok 3 (by decide)) rfl rfl (Nat.le_of_ble_eq_true rfl) dX4_clear_17 (fun H locs hP hD hS => ?_)
  have hP : va_P (gD G) vwCl [(dr, .inr (5, [.int 0, .int 0, .int 0, .int 0, .int 0, .int 0, p4, p5, p6]))] H := hP
  have hD : va_D A [(dr, .inr (5, [.int 0, .int 0, .int 0, .int 0, .int 0, .int 0, p4, p5, p6]))] := hD
  refine lv_aload_n hx hb dX4_clear_20 rfl (lv_at hl 0 rfl) ?_
  refine lv_iconst (v := 0) hx hb dX4_clear_21 (by decide) ?_
  refine va_put (D := gD G) (ci := 5) (v := .int 0) (ty := tyX4 4) (C := RX4) (T := TX4) (N := 9) hx hb hts (fun _ h9 => (List.mem_cons_of_mem _ (List.mem_append_right _ (List.mem_append_left _ h9)))) tyX4 tyX4_ok nmX4 hown hK hP hD hS 0 rfl rfl 4 (by decide) (hts (.fieldLink RX4 37 "JudoHall$Laws" "parts" "I") (List.mem_cons_of_mem _ (List.mem_append_left _ (List.mem_of_getElem? (i := 4) rfl)))) (fun _ h9 => h9) rfl (tyX4_ok 4 (by decide)) rfl rfl (Nat.le_of_ble_eq_true rfl) dX4_clear_22 (fun H locs hP hD hS => ?_)
  have hP : va_P (gD G) vwCl [(dr, .inr (5, [.int 0, .int 0, .int 0, .int 0, .int 0, .int 0, p4, p5, p6]))] H := hP
  have hD : va_D A [(dr, .inr (5, [.int 0, .int 0, .int 0, .int 0, .int 0, .int 0, p4, p5, p6]))] := hD
  refine lv_aload_n hx hb dX4_clear_25 rfl (lv_at hl 0 rfl) ?_
  refine lv_iconst (v := 0) hx hb dX4_clear_26 (by decide) ?_
  refine va_put (D := gD G) (ci := 5) (v := .int 0) (ty := tyX4 5) (C := RX4) (T := TX4) (N := 9) hx hb hts (fun _ h9 => (List.mem_cons_of_mem _ (List.mem_append_right _ (List.mem_append_left _ h9)))) tyX4 tyX4_ok nmX4 hown hK hP hD hS 0 rfl rfl 5 (by decide) (hts (.fieldLink RX4 40 "JudoHall$Laws" "size" "I") (List.mem_cons_of_mem _ (List.mem_append_left _ (List.mem_of_getElem? (i := 5) rfl)))) (fun _ h9 => h9) rfl (tyX4_ok 5 (by decide)) rfl rfl (Nat.le_of_ble_eq_true rfl) dX4_clear_27 (fun H locs hP hD hS => ?_)
  have hP : va_P (gD G) vwCl [(dr, .inr (5, [.int 0, .int 0, .int 0, .int 0, .int 0, .int 0, p4, p5, p6]))] H := hP
  have hD : va_D A [(dr, .inr (5, [.int 0, .int 0, .int 0, .int 0, .int 0, .int 0, p4, p5, p6]))] := hD
  have hP9 := hP.sub (ws' := [(dr, .inr (5, [.int 0, .int 0, .int 0, .int 0, .int 0, .int 0, p4, p5, p6]))]) [0] rfl
  have hD9 := hD.sub (ws' := [(dr, .inr (5, [.int 0, .int 0, .int 0, .int 0, .int 0, .int 0, p4, p5, p6]))]) [0] (by decide) rfl
  exact W.vret hx hb hr (fun t ht hW => ⟨⟨(), rfl, trivial, by rw [ht]; exact hP9, hD9⟩, hS.F ht⟩) hS.2.2 dX4_clear_30

def wo_c_rewind : List Cond := [.fieldLink RX10 25 "JudoHall$Tape" "next" "I"]
def wq_c_rewind : List Cond := .code yX10_rewind cX10_rewind 1 none :: (wo_c_rewind ++ (wsX100 ++ []))
theorem gd_c_rewind : ∀ w ∈ wq_c_rewind, Gd w := List.forall_mem_cons.mpr ⟨Or.inl rfl, List.forall_mem_append.mpr ⟨gdl wo_c_rewind (by decide +kernel), (List.forall_mem_append.mpr ⟨gd_wsX100, (fun _ h => absurd h List.not_mem_nil)⟩)⟩⟩
theorem in_c_rewind : ∀ w ∈ wq_c_rewind, w ∈ lw_tbl := List.forall_mem_cons.mpr ⟨List.mem_of_getElem? (i := 637) (by decide +kernel), List.forall_mem_append.mpr ⟨inT wo_c_rewind [256] (by decide +kernel), (List.forall_mem_append.mpr ⟨in_wsX100, (fun _ h => absurd h List.not_mem_nil)⟩)⟩⟩
set_option maxHeartbeats 4000000 in
set_option maxRecDepth 100000 in
theorem c_rewind (l : Launch) (G : gG) (tp : Nat) (ty : Value) (sz : Nat) : Met l yX10_rewind wq_c_rewind ({ frames := 0, cells := 0, slots := 0, locals := 0 }) (va_Pc [.ref tp] (mP G [(tp, .inr (11, [ty, .int 0, .int 0, .int 0, .int 0, .int 0]))] sz)) (va_Qv (fun _ : Unit => True) (fun (_ : Unit) (t : State) => va_P (gD G) vwCl [(tp, .inr (11, [ty, .int 0, .int 0, .int 0, .int 0, .int 0]))] t.heap ∧ va_D (va_A [(tp, .inr (11, [ty, .int 0, .int 0, .int 0, .int 0, .int 0]))] sz) [(tp, .inr (11, [ty, .int 0, .int 0, .int 0, .int 0, .int 0]))]) (va_A [(tp, .inr (11, [ty, .int 0, .int 0, .int 0, .int 0, .int 0]))] sz)) 0 0 (va_A [(tp, .inr (11, [ty, .int 0, .int 0, .int 0, .int 0, .int 0]))] sz) := by
  refine Met.ofW (cc := cX10_rewind) (maxL := 1) (ret := none) (by decide) rfl ?_
  intro p e s m args below meth c s₁ B hml hv
  obtain ⟨rfl, hsz, hP, hB, hD0⟩ := hv
  have hx := B.exec
  have hb := B.bytes
  have hr := B.returns
  have hts := atoms_spec (ws := wq_c_rewind) B.pre
  have hown : s.vm.findClass RX10 = some m.cls := findClass_of_methodNamed B.named
  have hlocks := B.notSynchronized
  have hK := hB.1
  subst hsz
  have hD := hD0.self (sz := s.heap.size)
  generalize hAe : va_A [(tp, .inr (11, [ty, .int 0, .int 0, .int 0, .int 0, .int 0]))] s.heap.size = A at hD ⊢
  have hA : ∀ q : Nat, s.heap.size ≤ q → A q := fun q h => by rw [← hAe]; exact Or.inr h
  have hS : va_S A s.heap s.heap [] := va_S.rf
  have hP : va_P (gD G) vwCl [(tp, .inr (11, [ty, .int 0, .int 0, .int 0, .int 0, .int 0]))] s.heap := hP
  have hD : va_D A [(tp, .inr (11, [ty, .int 0, .int 0, .int 0, .int 0, .int 0]))] := hD
  have hl := lv_entry ([.ref tp]) (n := 1) (Nat.le_of_ble_eq_true rfl)
  rw [lg_entry_eq]
  generalize (lg_sl ([.ref tp]) ++ List.replicate (1 - (lg_sl ([.ref tp])).length) Slot.unset).toArray = ls at hl ⊢
  have hl : lv_has ls 1 [(0, .ref tp)] := hl
  refine lv_aload_n hx hb dX10_rewind_0 rfl (lv_at hl 0 rfl) ?_
  refine lv_iconst (v := 0) hx hb dX10_rewind_1 (by decide) ?_
  refine va_put (D := gD G) (ci := 11) (v := .int 0) (ty := tyX10 2) (C := RX10) (T := TX10) (N := 6) hx hb hts (fun _ h9 => (List.mem_cons_of_mem _ (List.mem_append_right _ (List.mem_append_left _ h9)))) tyX10 tyX10_ok nmX10 hown hK hP hD hS 0 rfl rfl 2 (by decide) (hts (.fieldLink RX10 25 "JudoHall$Tape" "next" "I") (List.mem_cons_of_mem _ (List.mem_append_left _ (List.mem_of_getElem? (i := 0) rfl)))) (fun _ h9 => h9) rfl (tyX10_ok 2 (by decide)) rfl rfl (Nat.le_of_ble_eq_true rfl) dX10_rewind_2 (fun H locs hP hD hS => ?_)
  have hP : va_P (gD G) vwCl [(tp, .inr (11, [ty, .int 0, .int 0, .int 0, .int 0, .int 0]))] H := hP
  have hD : va_D A [(tp, .inr (11, [ty, .int 0, .int 0, .int 0, .int 0, .int 0]))] := hD
  have hP9 := hP.sub (ws' := [(tp, .inr (11, [ty, .int 0, .int 0, .int 0, .int 0, .int 0]))]) [0] rfl
  have hD9 := hD.sub (ws' := [(tp, .inr (11, [ty, .int 0, .int 0, .int 0, .int 0, .int 0]))]) [0] (by decide) rfl
  exact W.vret hx hb hr (fun t ht hW => ⟨⟨(), rfl, trivial, by rw [ht]; exact hP9, hD9⟩, hS.F ht⟩) hS.2.2 dX10_rewind_5

def wo_c_readToken : List Cond := [.fieldLink RX10 25 "JudoHall$Tape" "next" "I", .fieldLink RX10 18 "JudoHall$Tape" "length" "I", .fieldLink RX10 36 "JudoHall$Tape" "from" "I", .fieldLink RX10 39 "JudoHall$Tape" "kind" "I"]
def wq_c_readToken : List Cond := .code yX10_readToken cX10_readToken 2 none :: (wo_c_readToken ++ (wsX100 ++ []))
theorem gd_c_readToken : ∀ w ∈ wq_c_readToken, Gd w := List.forall_mem_cons.mpr ⟨Or.inl rfl, List.forall_mem_append.mpr ⟨gdl wo_c_readToken (by decide +kernel), (List.forall_mem_append.mpr ⟨gd_wsX100, (fun _ h => absurd h List.not_mem_nil)⟩)⟩⟩
theorem in_c_readToken : ∀ w ∈ wq_c_readToken, w ∈ lw_tbl := List.forall_mem_cons.mpr ⟨List.mem_of_getElem? (i := 641) (by decide +kernel), List.forall_mem_append.mpr ⟨inT wo_c_readToken [256, 255, 260, 258] (by decide +kernel), (List.forall_mem_append.mpr ⟨in_wsX100, (fun _ h => absurd h List.not_mem_nil)⟩)⟩⟩
set_option maxHeartbeats 4000000 in
set_option maxRecDepth 100000 in
theorem c_readToken (l : Launch) (G : gG) (tp : Nat) (ty : Value) (sz : Nat) : Met l yX10_readToken wq_c_readToken ({ frames := 0, cells := 0, slots := 0, locals := 0 }) (va_Pc [.ref tp] (mP G [(tp, .inr (11, [ty, .int 0, .int 0, .int 0, .int 0, .int 0]))] sz)) (va_Qv (fun _ : Unit => True) (fun (_ : Unit) (t : State) => va_P (gD G) vwCl [(tp, .inr (11, [ty, .int 0, .int 0, .int 0, .int 0, .int 0]))] t.heap ∧ va_D (va_A [(tp, .inr (11, [ty, .int 0, .int 0, .int 0, .int 0, .int 0]))] sz) [(tp, .inr (11, [ty, .int 0, .int 0, .int 0, .int 0, .int 0]))]) (va_A [(tp, .inr (11, [ty, .int 0, .int 0, .int 0, .int 0, .int 0]))] sz)) 0 0 (va_A [(tp, .inr (11, [ty, .int 0, .int 0, .int 0, .int 0, .int 0]))] sz) := by
  refine Met.ofW (cc := cX10_readToken) (maxL := 2) (ret := none) (by decide) rfl ?_
  intro p e s m args below meth c s₁ B hml hv
  obtain ⟨rfl, hsz, hP, hB, hD0⟩ := hv
  have hx := B.exec
  have hb := B.bytes
  have hr := B.returns
  have hts := atoms_spec (ws := wq_c_readToken) B.pre
  have hown : s.vm.findClass RX10 = some m.cls := findClass_of_methodNamed B.named
  have hlocks := B.notSynchronized
  have hK := hB.1
  subst hsz
  have hD := hD0.self (sz := s.heap.size)
  generalize hAe : va_A [(tp, .inr (11, [ty, .int 0, .int 0, .int 0, .int 0, .int 0]))] s.heap.size = A at hD ⊢
  have hA : ∀ q : Nat, s.heap.size ≤ q → A q := fun q h => by rw [← hAe]; exact Or.inr h
  have hS : va_S A s.heap s.heap [] := va_S.rf
  have hP : va_P (gD G) vwCl [(tp, .inr (11, [ty, .int 0, .int 0, .int 0, .int 0, .int 0]))] s.heap := hP
  have hD : va_D A [(tp, .inr (11, [ty, .int 0, .int 0, .int 0, .int 0, .int 0]))] := hD
  have hl := lv_entry ([.ref tp]) (n := 2) (Nat.le_of_ble_eq_true rfl)
  rw [lg_entry_eq]
  generalize (lg_sl ([.ref tp]) ++ List.replicate (2 - (lg_sl ([.ref tp])).length) Slot.unset).toArray = ls at hl ⊢
  have hl : lv_has ls 2 [(0, .ref tp)] := hl
  refine lv_aload_n hx hb dX10_readToken_0 rfl (lv_at hl 0 rfl) ?_
  refine va_get (D := gD G) (ci := 11) (v := .int 0) (C := RX10) (T := TX10) (N := 6) hx hb hts (fun _ h9 => (List.mem_cons_of_mem _ (List.mem_append_right _ (List.mem_append_left _ h9)))) hown hK hP 0 rfl rfl 2 (by decide) (hts (.fieldLink RX10 25 "JudoHall$Tape" "next" "I") (List.mem_cons_of_mem _ (List.mem_append_left _ (List.mem_of_getElem? (i := 0) rfl)))) (fun _ h9 => h9) rfl dX10_readToken_1 ?_
  refine lv_aload_n hx hb dX10_readToken_4 rfl (lv_at hl 0 rfl) ?_
  refine va_get (D := gD G) (ci := 11) (v := .int 0) (C := RX10) (T := TX10) (N := 6) hx hb hts (fun _ h9 => (List.mem_cons_of_mem _ (List.mem_append_right _ (List.mem_append_left _ h9)))) hown hK hP 0 rfl rfl 1 (by decide) (hts (.fieldLink RX10 18 "JudoHall$Tape" "length" "I") (List.mem_cons_of_mem _ (List.mem_append_left _ (List.mem_of_getElem? (i := 1) rfl)))) (fun _ h9 => h9) rfl dX10_readToken_5 ?_
  refine lv_icmp_ge (tgt := 41) hx hb dX10_readToken_8 (by decide) (fun _ => ?_) (fun c9 => absurd (by decide) c9)
  refine lv_aload_n hx hb dX10_readToken_41 rfl (lv_at hl 0 rfl) ?_
  refine lv_aload_n hx hb dX10_readToken_42 rfl (lv_at hl 0 rfl) ?_
  refine va_get (D := gD G) (ci := 11) (v := .int 0) (C := RX10) (T := TX10) (N := 6) hx hb hts (fun _ h9 => (List.mem_cons_of_mem _ (List.mem_append_right _ (List.mem_append_left _ h9)))) hown hK hP 0 rfl rfl 2 (by decide) (hts (.fieldLink RX10 25 "JudoHall$Tape" "next" "I") (List.mem_cons_of_mem _ (List.mem_append_left _ (List.mem_of_getElem? (i := 0) rfl)))) (fun _ h9 => h9) rfl dX10_readToken_43 ?_
  refine va_put (D := gD G) (ci := 11) (v := .int 0) (ty := tyX10 4) (C := RX10) (T := TX10) (N := 6) hx hb hts (fun _ h9 => (List.mem_cons_of_mem _ (List.mem_append_right _ (List.mem_append_left _ h9)))) tyX10 tyX10_ok nmX10 hown hK hP hD hS 0 rfl rfl 4 (by decide) (hts (.fieldLink RX10 36 "JudoHall$Tape" "from" "I") (List.mem_cons_of_mem _ (List.mem_append_left _ (List.mem_of_getElem? (i := 2) rfl)))) (fun _ h9 => h9) rfl (tyX10_ok 4 (by decide)) rfl rfl (Nat.le_of_ble_eq_true rfl) dX10_readToken_46 (fun H locs hP hD hS => ?_)
  have hP : va_P (gD G) vwCl [(tp, .inr (11, [ty, .int 0, .int 0, .int 0, .int 0, .int 0]))] H := hP
  have hD : va_D A [(tp, .inr (11, [ty, .int 0, .int 0, .int 0, .int 0, .int 0]))] := hD
  refine lv_aload_n hx hb dX10_readToken_49 rfl (lv_at hl 0 rfl) ?_
  refine va_get (D := gD G) (ci := 11) (v := .int 0) (C := RX10) (T := TX10) (N := 6) hx hb hts (fun _ h9 => (List.mem_cons_of_mem _ (List.mem_append_right _ (List.mem_append_left _ h9)))) hown hK hP 0 rfl rfl 2 (by decide) (hts (.fieldLink RX10 25 "JudoHall$Tape" "next" "I") (List.mem_cons_of_mem _ (List.mem_append_left _ (List.mem_of_getElem? (i := 0) rfl)))) (fun _ h9 => h9) rfl dX10_readToken_50 ?_
  refine lv_aload_n hx hb dX10_readToken_53 rfl (lv_at hl 0 rfl) ?_
  refine va_get (D := gD G) (ci := 11) (v := .int 0) (C := RX10) (T := TX10) (N := 6) hx hb hts (fun _ h9 => (List.mem_cons_of_mem _ (List.mem_append_right _ (List.mem_append_left _ h9)))) hown hK hP 0 rfl rfl 1 (by decide) (hts (.fieldLink RX10 18 "JudoHall$Tape" "length" "I") (List.mem_cons_of_mem _ (List.mem_append_left _ (List.mem_of_getElem? (i := 1) rfl)))) (fun _ h9 => h9) rfl dX10_readToken_54 ?_
  refine lv_icmp_lt (tgt := 66) hx hb dX10_readToken_57 (by decide) (fun c9 => absurd c9 (by decide)) (fun _ => ?_)
  refine lv_aload_n hx hb dX10_readToken_60 rfl (lv_at hl 0 rfl) ?_
  refine lv_iconst (v := 0) hx hb dX10_readToken_61 (by decide) ?_
  refine va_put (D := gD G) (ci := 11) (v := .int 0) (ty := tyX10 3) (C := RX10) (T := TX10) (N := 6) hx hb hts (fun _ h9 => (List.mem_cons_of_mem _ (List.mem_append_right _ (List.mem_append_left _ h9)))) tyX10 tyX10_ok nmX10 hown hK hP hD hS 0 rfl rfl 3 (by decide) (hts (.fieldLink RX10 39 "JudoHall$Tape" "kind" "I") (List.mem_cons_of_mem _ (List.mem_append_left _ (List.mem_of_getElem? (i := 3) rfl)))) (fun _ h9 => h9) rfl (tyX10_ok 3 (by decide)) rfl rfl (Nat.le_of_ble_eq_true rfl) dX10_readToken_62 (fun H locs hP hD hS => ?_)
  have hP : va_P (gD G) vwCl [(tp, .inr (11, [ty, .int 0, .int 0, .int 0, .int 0, .int 0]))] H := hP
  have hD : va_D A [(tp, .inr (11, [ty, .int 0, .int 0, .int 0, .int 0, .int 0]))] := hD
  have hP9 := hP.sub (ws' := [(tp, .inr (11, [ty, .int 0, .int 0, .int 0, .int 0, .int 0]))]) [0] rfl
  have hD9 := hD.sub (ws' := [(tp, .inr (11, [ty, .int 0, .int 0, .int 0, .int 0, .int 0]))]) [0] (by decide) rfl
  exact W.vret hx hb hr (fun t ht hW => ⟨⟨(), rfl, trivial, by rw [ht]; exact hP9, hD9⟩, hS.F ht⟩) hS.2.2 dX10_readToken_65

def wo_c_fail : List Cond := [.fieldLink RX5 49 "JudoHall$Parser" "fault" "I", .fieldLink RX5 9 "JudoHall$Parser" "tape" "LJudoHall$Tape;", .fieldLink RX5 37 "JudoHall$Parser" "place" "I"]
def wq_c_fail : List Cond := .code yX5_fail cX5_fail 2 none :: (wo_c_fail ++ (wsX50 ++ (wsX100 ++ [])))
theorem gd_c_fail : ∀ w ∈ wq_c_fail, Gd w := List.forall_mem_cons.mpr ⟨Or.inl rfl, List.forall_mem_append.mpr ⟨gdl wo_c_fail (by decide +kernel), (List.forall_mem_append.mpr ⟨gd_wsX50, (List.forall_mem_append.mpr ⟨gd_wsX100, (fun _ h => absurd h List.not_mem_nil)⟩)⟩)⟩⟩
theorem in_c_fail : ∀ w ∈ wq_c_fail, w ∈ lw_tbl := List.forall_mem_cons.mpr ⟨List.mem_of_getElem? (i := 757) (by decide +kernel), List.forall_mem_append.mpr ⟨inT wo_c_fail [344, 334, 342] (by decide +kernel), (List.forall_mem_append.mpr ⟨in_wsX50, (List.forall_mem_append.mpr ⟨in_wsX100, (fun _ h => absurd h List.not_mem_nil)⟩)⟩)⟩⟩
set_option maxHeartbeats 4000000 in
set_option maxRecDepth 100000 in
theorem c_fail (l : Launch) (G : gG) (ps : Nat) (tp : Nat) (dr : Nat) (p1 : Value) (p2 : Value) (p3 : Value) (ty : Value) (sz : Nat) : Met l yX5_fail wq_c_fail ({ frames := 0, cells := 0, slots := 0, locals := 0 }) (va_Pc [.ref ps, .int 1] (mP G [(ps, .inr (6, [.ref tp, p1, p2, p3, .ref dr, .int 0, .int 0, .int 0, .int (-1), .int 0, .int 0, .int 0, .int 0, .int 0])), (tp, .inr (11, [ty, .int 0, .int 0, .int 0, .int 0, .int 0]))] sz)) (va_Qv (fun _ : Unit => True) (fun (_ : Unit) (t : State) => va_P (gD G) vwCl [(ps, .inr (6, [.ref tp, p1, p2, p3, .ref dr, .int 0, .int 0, .int 0, .int 0, .int 1, .int 0, .int 0, .int 0, .int 0])), (tp, .inr (11, [ty, .int 0, .int 0, .int 0, .int 0, .int 0]))] t.heap ∧ va_D (va_A [(ps, .inr (6, [.ref tp, p1, p2, p3, .ref dr, .int 0, .int 0, .int 0, .int (-1), .int 0, .int 0, .int 0, .int 0, .int 0])), (tp, .inr (11, [ty, .int 0, .int 0, .int 0, .int 0, .int 0]))] sz) [(ps, .inr (6, [.ref tp, p1, p2, p3, .ref dr, .int 0, .int 0, .int 0, .int 0, .int 1, .int 0, .int 0, .int 0, .int 0])), (tp, .inr (11, [ty, .int 0, .int 0, .int 0, .int 0, .int 0]))]) (va_A [(ps, .inr (6, [.ref tp, p1, p2, p3, .ref dr, .int 0, .int 0, .int 0, .int (-1), .int 0, .int 0, .int 0, .int 0, .int 0])), (tp, .inr (11, [ty, .int 0, .int 0, .int 0, .int 0, .int 0]))] sz)) 0 0 (va_A [(ps, .inr (6, [.ref tp, p1, p2, p3, .ref dr, .int 0, .int 0, .int 0, .int (-1), .int 0, .int 0, .int 0, .int 0, .int 0])), (tp, .inr (11, [ty, .int 0, .int 0, .int 0, .int 0, .int 0]))] sz) := by
  refine Met.ofW (cc := cX5_fail) (maxL := 2) (ret := none) (by decide) rfl ?_
  intro p e s m args below meth c s₁ B hml hv
  obtain ⟨rfl, hsz, hP, hB, hD0⟩ := hv
  have hx := B.exec
  have hb := B.bytes
  have hr := B.returns
  have hts := atoms_spec (ws := wq_c_fail) B.pre
  have hown : s.vm.findClass RX5 = some m.cls := findClass_of_methodNamed B.named
  have hlocks := B.notSynchronized
  have hK := hB.1
  subst hsz
  have hD := hD0.self (sz := s.heap.size)
  generalize hAe : va_A [(ps, .inr (6, [.ref tp, p1, p2, p3, .ref dr, .int 0, .int 0, .int 0, .int (-1), .int 0, .int 0, .int 0, .int 0, .int 0])), (tp, .inr (11, [ty, .int 0, .int 0, .int 0, .int 0, .int 0]))] s.heap.size = A at hD ⊢
  have hA : ∀ q : Nat, s.heap.size ≤ q → A q := fun q h => by rw [← hAe]; exact Or.inr h
  have hS : va_S A s.heap s.heap [] := va_S.rf
  have hP : va_P (gD G) vwCl [(ps, .inr (6, [.ref tp, p1, p2, p3, .ref dr, .int 0, .int 0, .int 0, .int (-1), .int 0, .int 0, .int 0, .int 0, .int 0])), (tp, .inr (11, [ty, .int 0, .int 0, .int 0, .int 0, .int 0]))] s.heap := hP
  have hD : va_D A [(ps, .inr (6, [.ref tp, p1, p2, p3, .ref dr, .int 0, .int 0, .int 0, .int (-1), .int 0, .int 0, .int 0, .int 0, .int 0])), (tp, .inr (11, [ty, .int 0, .int 0, .int 0, .int 0, .int 0]))] := hD
  have hl := lv_entry ([.ref ps, .int 1]) (n := 2) (Nat.le_of_ble_eq_true rfl)
  rw [lg_entry_eq]
  generalize (lg_sl ([.ref ps, .int 1]) ++ List.replicate (2 - (lg_sl ([.ref ps, .int 1])).length) Slot.unset).toArray = ls at hl ⊢
  have hl : lv_has ls 2 [(0, .ref ps), (1, .int 1)] := hl
  refine lv_aload_n hx hb dX5_fail_0 rfl (lv_at hl 0 rfl) ?_
  refine lv_iload_n hx hb dX5_fail_1 rfl (lv_at hl 1 rfl) ?_
  refine va_put (D := gD G) (ci := 6) (v := .int 1) (ty := tyX5 9) (C := RX5) (T := TX5) (N := 14) hx hb hts (fun _ h9 => (List.mem_cons_of_mem _ (List.mem_append_right _ (List.mem_append_left _ h9)))) tyX5 tyX5_ok nmX5 hown hK hP hD hS 0 rfl rfl 9 (by decide) (hts (.fieldLink RX5 49 "JudoHall$Parser" "fault" "I") (List.mem_cons_of_mem _ (List.mem_append_left _ (List.mem_of_getElem? (i := 0) rfl)))) (fun _ h9 => h9) rfl (tyX5_ok 9 (by decide)) rfl rfl (Nat.le_of_ble_eq_true rfl) dX5_fail_2 (fun H locs hP hD hS => ?_)
  have hP : va_P (gD G) vwCl [(ps, .inr (6, [.ref tp, p1, p2, p3, .ref dr, .int 0, .int 0, .int 0, .int (-1), .int 1, .int 0, .int 0, .int 0, .int 0])), (tp, .inr (11, [ty, .int 0, .int 0, .int 0, .int 0, .int 0]))] H := hP
  have hD : va_D A [(ps, .inr (6, [.ref tp, p1, p2, p3, .ref dr, .int 0, .int 0, .int 0, .int (-1), .int 1, .int 0, .int 0, .int 0, .int 0])), (tp, .inr (11, [ty, .int 0, .int 0, .int 0, .int 0, .int 0]))] := hD
  refine lv_aload_n hx hb dX5_fail_5 rfl (lv_at hl 0 rfl) ?_
  refine lv_aload_n hx hb dX5_fail_6 rfl (lv_at hl 0 rfl) ?_
  refine va_get (D := gD G) (ci := 6) (v := .ref tp) (C := RX5) (T := TX5) (N := 14) hx hb hts (fun _ h9 => (List.mem_cons_of_mem _ (List.mem_append_right _ (List.mem_append_left _ h9)))) hown hK hP 0 rfl rfl 0 (by decide) (hts (.fieldLink RX5 9 "JudoHall$Parser" "tape" "LJudoHall$Tape;") (List.mem_cons_of_mem _ (List.mem_append_left _ (List.mem_of_getElem? (i := 1) rfl)))) (fun _ h9 => h9) rfl dX5_fail_7 ?_
  refine va_getN (D := gD G) (ci := 11) (v := .int 0) (C := RX10) (T := TX10) (N := 6) hx hb hts (fun _ h9 => (List.mem_cons_of_mem _ (List.mem_append_right _ (List.mem_append_right _ (List.mem_append_left _ h9))))) hown hK hP 1 rfl rfl 4 (by decide) (hB.nf 13 rfl) (fun _ h9 => h9) rfl dX5_fail_10 ?_
  refine va_put (D := gD G) (ci := 6) (v := .int 0) (ty := tyX5 8) (C := RX5) (T := TX5) (N := 14) hx hb hts (fun _ h9 => (List.mem_cons_of_mem _ (List.mem_append_right _ (List.mem_append_left _ h9)))) tyX5 tyX5_ok nmX5 hown hK hP hD hS 0 rfl rfl 8 (by decide) (hts (.fieldLink RX5 37 "JudoHall$Parser" "place" "I") (List.mem_cons_of_mem _ (List.mem_append_left _ (List.mem_of_getElem? (i := 2) rfl)))) (fun _ h9 => h9) rfl (tyX5_ok 8 (by decide)) rfl rfl (Nat.le_of_ble_eq_true rfl) dX5_fail_13 (fun H locs hP hD hS => ?_)
  have hP : va_P (gD G) vwCl [(ps, .inr (6, [.ref tp, p1, p2, p3, .ref dr, .int 0, .int 0, .int 0, .int 0, .int 1, .int 0, .int 0, .int 0, .int 0])), (tp, .inr (11, [ty, .int 0, .int 0, .int 0, .int 0, .int 0]))] H := hP
  have hD : va_D A [(ps, .inr (6, [.ref tp, p1, p2, p3, .ref dr, .int 0, .int 0, .int 0, .int 0, .int 1, .int 0, .int 0, .int 0, .int 0])), (tp, .inr (11, [ty, .int 0, .int 0, .int 0, .int 0, .int 0]))] := hD
  have hP9 := hP.sub (ws' := [(ps, .inr (6, [.ref tp, p1, p2, p3, .ref dr, .int 0, .int 0, .int 0, .int 0, .int 1, .int 0, .int 0, .int 0, .int 0])), (tp, .inr (11, [ty, .int 0, .int 0, .int 0, .int 0, .int 0]))]) [0, 1] rfl
  have hD9 := hD.sub (ws' := [(ps, .inr (6, [.ref tp, p1, p2, p3, .ref dr, .int 0, .int 0, .int 0, .int 0, .int 1, .int 0, .int 0, .int 0, .int 0])), (tp, .inr (11, [ty, .int 0, .int 0, .int 0, .int 0, .int 0]))]) [0, 1] (by decide) rfl
  exact W.vret hx hb hr (fun t ht hW => ⟨⟨(), rfl, trivial, by rw [ht]; exact hP9, hD9⟩, hS.F ht⟩) hS.2.2 dX5_fail_16

def wo_c_goIf : List Cond := [.methodLink RX5 118 yX5_fail, .instanceMethod yX5_fail, .selects RX5 yX5_fail yX5_fail, .initialized RX5]
def wq_c_goIf : List Cond := .code yX5_goIf cX5_goIf 3 none :: (wo_c_goIf ++ (wq_c_fail ++ []))
theorem gd_c_goIf : ∀ w ∈ wq_c_goIf, Gd w := List.forall_mem_cons.mpr ⟨Or.inl rfl, List.forall_mem_append.mpr ⟨gdl wo_c_goIf (by decide +kernel), (List.forall_mem_append.mpr ⟨gd_c_fail, (fun _ h => absurd h List.not_mem_nil)⟩)⟩⟩
theorem in_c_goIf : ∀ w ∈ wq_c_goIf, w ∈ lw_tbl := List.forall_mem_cons.mpr ⟨List.mem_of_getElem? (i := 753) (by decide +kernel), List.forall_mem_append.mpr ⟨inT wo_c_goIf [754, 756, 11, 160] (by decide +kernel), (List.forall_mem_append.mpr ⟨in_c_fail, (fun _ h => absurd h List.not_mem_nil)⟩)⟩⟩
set_option maxHeartbeats 4000000 in
set_option maxRecDepth 100000 in
theorem c_goIf (l : Launch) (G : gG) (ps : Nat) (tp : Nat) (dr : Nat) (p1 : Value) (p2 : Value) (p3 : Value) (ty : Value) (sz : Nat) : Met l yX5_goIf wq_c_goIf ({ frames := 1, cells := 0, slots := 0, locals := 21 }) (va_Pc [.ref ps, .int 0, .int 1] (mP G [(ps, .inr (6, [.ref tp, p1, p2, p3, .ref dr, .int 0, .int 0, .int 0, .int (-1), .int 0, .int 0, .int 0, .int 0, .int 0])), (tp, .inr (11, [ty, .int 0, .int 0, .int 0, .int 0, .int 0]))] sz)) (va_Qv (fun _ : Unit => True) (fun (_ : Unit) (t : State) => va_P (gD G) vwCl [(ps, .inr (6, [.ref tp, p1, p2, p3, .ref dr, .int 0, .int 0, .int 0, .int 0, .int 1, .int 0, .int 0, .int 0, .int 0])), (tp, .inr (11, [ty, .int 0, .int 0, .int 0, .int 0, .int 0]))] t.heap ∧ va_D (va_A [(ps, .inr (6, [.ref tp, p1, p2, p3, .ref dr, .int 0, .int 0, .int 0, .int (-1), .int 0, .int 0, .int 0, .int 0, .int 0])), (tp, .inr (11, [ty, .int 0, .int 0, .int 0, .int 0, .int 0]))] sz) [(ps, .inr (6, [.ref tp, p1, p2, p3, .ref dr, .int 0, .int 0, .int 0, .int 0, .int 1, .int 0, .int 0, .int 0, .int 0])), (tp, .inr (11, [ty, .int 0, .int 0, .int 0, .int 0, .int 0]))]) (va_A [(ps, .inr (6, [.ref tp, p1, p2, p3, .ref dr, .int 0, .int 0, .int 0, .int (-1), .int 0, .int 0, .int 0, .int 0, .int 0])), (tp, .inr (11, [ty, .int 0, .int 0, .int 0, .int 0, .int 0]))] sz)) 0 0 (va_A [(ps, .inr (6, [.ref tp, p1, p2, p3, .ref dr, .int 0, .int 0, .int 0, .int (-1), .int 0, .int 0, .int 0, .int 0, .int 0])), (tp, .inr (11, [ty, .int 0, .int 0, .int 0, .int 0, .int 0]))] sz) := by
  refine Met.ofW (cc := cX5_goIf) (maxL := 3) (ret := none) (by decide) rfl ?_
  intro p e s m args below meth c s₁ B hml hv
  obtain ⟨rfl, hsz, hP, hB, hD0⟩ := hv
  have hx := B.exec
  have hb := B.bytes
  have hr := B.returns
  have hts := atoms_spec (ws := wq_c_goIf) B.pre
  have hown : s.vm.findClass RX5 = some m.cls := findClass_of_methodNamed B.named
  have hlocks := B.notSynchronized
  have hK := hB.1
  subst hsz
  have hD := hD0.self (sz := s.heap.size)
  generalize hAe : va_A [(ps, .inr (6, [.ref tp, p1, p2, p3, .ref dr, .int 0, .int 0, .int 0, .int (-1), .int 0, .int 0, .int 0, .int 0, .int 0])), (tp, .inr (11, [ty, .int 0, .int 0, .int 0, .int 0, .int 0]))] s.heap.size = A at hD ⊢
  have hA : ∀ q : Nat, s.heap.size ≤ q → A q := fun q h => by rw [← hAe]; exact Or.inr h
  have hS : va_S A s.heap s.heap [] := va_S.rf
  have hP : va_P (gD G) vwCl [(ps, .inr (6, [.ref tp, p1, p2, p3, .ref dr, .int 0, .int 0, .int 0, .int (-1), .int 0, .int 0, .int 0, .int 0, .int 0])), (tp, .inr (11, [ty, .int 0, .int 0, .int 0, .int 0, .int 0]))] s.heap := hP
  have hD : va_D A [(ps, .inr (6, [.ref tp, p1, p2, p3, .ref dr, .int 0, .int 0, .int 0, .int (-1), .int 0, .int 0, .int 0, .int 0, .int 0])), (tp, .inr (11, [ty, .int 0, .int 0, .int 0, .int 0, .int 0]))] := hD
  have hl := lv_entry ([.ref ps, .int 0, .int 1]) (n := 3) (Nat.le_of_ble_eq_true rfl)
  rw [lg_entry_eq]
  generalize (lg_sl ([.ref ps, .int 0, .int 1]) ++ List.replicate (3 - (lg_sl ([.ref ps, .int 0, .int 1])).length) Slot.unset).toArray = ls at hl ⊢
  have hl : lv_has ls 3 [(0, .ref ps), (1, .int 0), (2, .int 1)] := hl
  refine lv_iload_n hx hb dX5_goIf_0 rfl (lv_at hl 1 rfl) ?_
  refine lv_if_eq (tgt := 12) hx hb dX5_goIf_1 (by decide) (fun _ => ?_) (fun c9 => absurd (by decide) c9)
  refine lv_aload_n hx hb dX5_goIf_12 rfl (lv_at hl 0 rfl) ?_
  refine lv_iconst (v := 1) hx hb dX5_goIf_13 (by decide) ?_
  have hPc := hP.sub (ws' := [(ps, .inr (6, [.ref tp, p1, p2, p3, .ref dr, .int 0, .int 0, .int 0, .int (-1), .int 0, .int 0, .int 0, .int 0, .int 0])), (tp, .inr (11, [ty, .int 0, .int 0, .int 0, .int 0, .int 0]))]) [0, 1] rfl
  have hDc := hD.sub (ws' := [(ps, .inr (6, [.ref tp, p1, p2, p3, .ref dr, .int 0, .int 0, .int 0, .int (-1), .int 0, .int 0, .int 0, .int 0, .int 0])), (tp, .inr (11, [ty, .int 0, .int 0, .int 0, .int 0, .int 0]))]) [0, 1] (by decide) rfl
  have hFc := va_free (wc := [(ps, .inr (6, [.ref tp, p1, p2, p3, .ref dr, .int 0, .int 0, .int 0, .int (-1), .int 0, .int 0, .int 0, .int 0, .int 0])), (tp, .inr (11, [ty, .int 0, .int 0, .int 0, .int 0, .int 0]))]) hD hS hA [0, 1] rfl
  refine va_callv (va_runV (As := [.int 1]) (rest := []) ⟨hx, hb, hml, hown, hts⟩ (c_fail l G ps tp dr p1 p2 p3 ty s.heap.size) (cwV 1 hts (gdV (List.mem_cons_of_mem _ (List.mem_append_left _ (List.mem_of_getElem? (i := 0) rfl))) (List.mem_cons_of_mem _ (List.mem_append_left _ (List.mem_of_getElem? (i := 1) rfl))) (List.mem_cons_of_mem _ (List.mem_append_left _ (List.mem_of_getElem? (i := 2) rfl))) (List.mem_cons_of_mem _ (List.mem_append_left _ (List.mem_of_getElem? (i := 3) rfl))) (fun w9 h9 => ⟨(List.mem_cons_of_mem _ (List.mem_append_right _ (List.mem_append_left _ h9))), gd_c_fail w9 h9⟩)) rfl rfl rfl kVX5_fail ⟨Nat.le_of_ble_eq_true rfl, Nat.le_of_ble_eq_true rfl⟩) (preV_m (As := [.int 1]) hPc hB hDc rfl rfl) rfl rfl hl.1 rfl (lv_room (Nat.le_of_ble_eq_true rfl)) dX5_goIf_14 ⟨Nat.le_of_ble_eq_true rfl, Nat.le_of_ble_eq_true rfl⟩) hS (fun q _ h => hFc q h) hFc (fun u t H1 locs ht hvm hw hB1 hz1 hk1 hS => ?_)
  obtain ⟨hP1, hD1⟩ := hB1
  rw [ht] at hP1
  obtain ⟨hP, hD⟩ := va_join (wr := []) (w1 := [(ps, .inr (6, [.ref tp, p1, p2, p3, .ref dr, .int 0, .int 0, .int 0, .int 0, .int 1, .int 0, .int 0, .int 0, .int 0])), (tp, .inr (11, [ty, .int 0, .int 0, .int 0, .int 0, .int 0]))]) hP hD [0, 1] [] rfl rfl (by decide) (by decide) hk1 hFc hP1 hD1
  generalize H1 = H at hP hS ⊢
  have hP : va_P (gD G) vwCl [(ps, .inr (6, [.ref tp, p1, p2, p3, .ref dr, .int 0, .int 0, .int 0, .int 0, .int 1, .int 0, .int 0, .int 0, .int 0])), (tp, .inr (11, [ty, .int 0, .int 0, .int 0, .int 0, .int 0]))] H := hP
  have hD : va_D A [(ps, .inr (6, [.ref tp, p1, p2, p3, .ref dr, .int 0, .int 0, .int 0, .int 0, .int 1, .int 0, .int 0, .int 0, .int 0])), (tp, .inr (11, [ty, .int 0, .int 0, .int 0, .int 0, .int 0]))] := hD
  refine W.eq (g2 := F0 m 17 ls []) rfl ?_
  have hP9 := hP.sub (ws' := [(ps, .inr (6, [.ref tp, p1, p2, p3, .ref dr, .int 0, .int 0, .int 0, .int 0, .int 1, .int 0, .int 0, .int 0, .int 0])), (tp, .inr (11, [ty, .int 0, .int 0, .int 0, .int 0, .int 0]))]) [0, 1] rfl
  have hD9 := hD.sub (ws' := [(ps, .inr (6, [.ref tp, p1, p2, p3, .ref dr, .int 0, .int 0, .int 0, .int 0, .int 1, .int 0, .int 0, .int 0, .int 0])), (tp, .inr (11, [ty, .int 0, .int 0, .int 0, .int 0, .int 0]))]) [0, 1] (by decide) rfl
  exact W.vret hx hb hr (fun t ht hW => ⟨⟨(), rfl, trivial, by rw [ht]; exact hP9, hD9⟩, hS.F ht⟩) hS.2.2 dX5_goIf_17

def wo_c_takeHead : List Cond := [.fieldLink RX5 52 "JudoHall$Parser" "where" "I", .fieldLink RX5 77 "JudoHall$Parser" "HEAD" "[I", .methodLink RX5 96 yX5_goIf, .instanceMethod yX5_goIf, .selects RX5 yX5_goIf yX5_goIf, .initialized RX5]
def wq_c_takeHead : List Cond := .code yX5_takeHead cX5_takeHead 3 none :: (wo_c_takeHead ++ (wsX50 ++ (wq_c_goIf ++ [])))
theorem gd_c_takeHead : ∀ w ∈ wq_c_takeHead, Gd w := List.forall_mem_cons.mpr ⟨Or.inl rfl, List.forall_mem_append.mpr ⟨gdl wo_c_takeHead (by decide +kernel), (List.forall_mem_append.mpr ⟨gd_wsX50, (List.forall_mem_append.mpr ⟨gd_c_goIf, (fun _ h => absurd h List.not_mem_nil)⟩)⟩)⟩⟩
theorem in_c_takeHead : ∀ w ∈ wq_c_takeHead, w ∈ lw_tbl := List.forall_mem_cons.mpr ⟨List.mem_of_getElem? (i := 749) (by decide +kernel), List.forall_mem_append.mpr ⟨inT wo_c_takeHead [346, 744, 750, 752, 10, 160] (by decide +kernel), (List.forall_mem_append.mpr ⟨in_wsX50, (List.forall_mem_append.mpr ⟨in_c_goIf, (fun _ h => absurd h List.not_mem_nil)⟩)⟩)⟩⟩
set_option maxHeartbeats 4000000 in
set_option maxRecDepth 100000 in
theorem c_takeHead (l : Launch) (G : gG) (Z : gS) (ps : Nat) (tp : Nat) (dr : Nat) (p1 : Value) (p2 : Value) (p3 : Value) (ty : Value) (sz : Nat) : Met l yX5_takeHead wq_c_takeHead ({ frames := 2, cells := 0, slots := 0, locals := 43 }) (va_Pc [.ref ps, .int 0] (eP G Z [(ps, .inr (6, [.ref tp, p1, p2, p3, .ref dr, .int 0, .int 0, .int 0, .int (-1), .int 0, .int 0, .int 0, .int 0, .int 0])), (tp, .inr (11, [ty, .int 0, .int 0, .int 0, .int 0, .int 0]))] sz)) (va_Qv (fun _ : Unit => True) (fun (_ : Unit) (t : State) => va_P (gD G) vwCl [(ps, .inr (6, [.ref tp, p1, p2, p3, .ref dr, .int 0, .int 0, .int 0, .int 0, .int 1, .int 0, .int 0, .int 0, .int 0])), (tp, .inr (11, [ty, .int 0, .int 0, .int 0, .int 0, .int 0]))] t.heap ∧ va_D (va_A [(ps, .inr (6, [.ref tp, p1, p2, p3, .ref dr, .int 0, .int 0, .int 0, .int (-1), .int 0, .int 0, .int 0, .int 0, .int 0])), (tp, .inr (11, [ty, .int 0, .int 0, .int 0, .int 0, .int 0]))] sz) [(ps, .inr (6, [.ref tp, p1, p2, p3, .ref dr, .int 0, .int 0, .int 0, .int 0, .int 1, .int 0, .int 0, .int 0, .int 0])), (tp, .inr (11, [ty, .int 0, .int 0, .int 0, .int 0, .int 0]))]) (va_A [(ps, .inr (6, [.ref tp, p1, p2, p3, .ref dr, .int 0, .int 0, .int 0, .int (-1), .int 0, .int 0, .int 0, .int 0, .int 0])), (tp, .inr (11, [ty, .int 0, .int 0, .int 0, .int 0, .int 0]))] sz)) 0 0 (va_A [(ps, .inr (6, [.ref tp, p1, p2, p3, .ref dr, .int 0, .int 0, .int 0, .int (-1), .int 0, .int 0, .int 0, .int 0, .int 0])), (tp, .inr (11, [ty, .int 0, .int 0, .int 0, .int 0, .int 0]))] sz) := by
  refine Met.ofW (cc := cX5_takeHead) (maxL := 3) (ret := none) (by decide) rfl ?_
  intro p e s m args below meth c s₁ B hml hv
  obtain ⟨rfl, ⟨hsz, hP, hB, hD0⟩, hE⟩ := hv
  have hx := B.exec
  have hb := B.bytes
  have hr := B.returns
  have hts := atoms_spec (ws := wq_c_takeHead) B.pre
  have hown : s.vm.findClass RX5 = some m.cls := findClass_of_methodNamed B.named
  have hlocks := B.notSynchronized
  have hK := hB.1
  subst hsz
  have hD := hD0.self (sz := s.heap.size)
  generalize hAe : va_A [(ps, .inr (6, [.ref tp, p1, p2, p3, .ref dr, .int 0, .int 0, .int 0, .int (-1), .int 0, .int 0, .int 0, .int 0, .int 0])), (tp, .inr (11, [ty, .int 0, .int 0, .int 0, .int 0, .int 0]))] s.heap.size = A at hD hE ⊢
  have hA : ∀ q : Nat, s.heap.size ≤ q → A q := fun q h => by rw [← hAe]; exact Or.inr h
  have hS : va_S A s.heap s.heap [] := va_S.rf
  have hP : va_P (gD G) vwCl [(ps, .inr (6, [.ref tp, p1, p2, p3, .ref dr, .int 0, .int 0, .int 0, .int (-1), .int 0, .int 0, .int 0, .int 0, .int 0])), (tp, .inr (11, [ty, .int 0, .int 0, .int 0, .int 0, .int 0]))] s.heap := hP
  have hD : va_D A [(ps, .inr (6, [.ref tp, p1, p2, p3, .ref dr, .int 0, .int 0, .int 0, .int (-1), .int 0, .int 0, .int 0, .int 0, .int 0])), (tp, .inr (11, [ty, .int 0, .int 0, .int 0, .int 0, .int 0]))] := hD
  have hl := lv_entry ([.ref ps, .int 0]) (n := 3) (Nat.le_of_ble_eq_true rfl)
  rw [lg_entry_eq]
  generalize (lg_sl ([.ref ps, .int 0]) ++ List.replicate (3 - (lg_sl ([.ref ps, .int 0])).length) Slot.unset).toArray = ls at hl ⊢
  have hl : lv_has ls 3 [(0, .ref ps), (1, .int 0)] := hl
  refine lv_aload_n hx hb dX5_takeHead_0 rfl (lv_at hl 0 rfl) ?_
  refine va_get (D := gD G) (ci := 6) (v := .int 0) (C := RX5) (T := TX5) (N := 14) hx hb hts (fun _ h9 => (List.mem_cons_of_mem _ (List.mem_append_right _ (List.mem_append_left _ h9)))) hown hK hP 0 rfl rfl 10 (by decide) (hts (.fieldLink RX5 52 "JudoHall$Parser" "where" "I") (List.mem_cons_of_mem _ (List.mem_append_left _ (List.mem_of_getElem? (i := 0) rfl)))) (fun _ h9 => h9) rfl dX5_takeHead_1 ?_
  refine lv_if_lt (tgt := 34) hx hb dX5_takeHead_4 (by decide) (fun c9 => absurd c9 (by decide)) (fun _ => ?_)
  refine lv_aload_n hx hb dX5_takeHead_7 rfl (lv_at hl 0 rfl) ?_
  refine va_get (D := gD G) (ci := 6) (v := .int 0) (C := RX5) (T := TX5) (N := 14) hx hb hts (fun _ h9 => (List.mem_cons_of_mem _ (List.mem_append_right _ (List.mem_append_left _ h9)))) hown hK hP 0 rfl rfl 10 (by decide) (hts (.fieldLink RX5 52 "JudoHall$Parser" "where" "I") (List.mem_cons_of_mem _ (List.mem_append_left _ (List.mem_of_getElem? (i := 0) rfl)))) (fun _ h9 => h9) rfl dX5_takeHead_8 ?_
  refine va_gets hx hb hE.2.2.2.1 hS hown (hts (.fieldLink RX5 77 "JudoHall$Parser" "HEAD" "[I") (List.mem_cons_of_mem _ (List.mem_append_left _ (List.mem_of_getElem? (i := 1) rfl)))) (fun _ h9 => h9) dX5_takeHead_11 ?_
  refine va_tlen (v := 6) hx hb hE.2.2.2.2.1 hS (by decide) dX5_takeHead_14 ?_
  refine lv_icmp_ge (tgt := 34) hx hb dX5_takeHead_15 (by decide) (fun c9 => absurd c9 (by decide)) (fun _ => ?_)
  refine lv_iload_n hx hb dX5_takeHead_18 rfl (lv_at hl 1 rfl) ?_
  refine va_gets hx hb hE.2.2.2.1 hS hown (hts (.fieldLink RX5 77 "JudoHall$Parser" "HEAD" "[I") (List.mem_cons_of_mem _ (List.mem_append_left _ (List.mem_of_getElem? (i := 1) rfl)))) (fun _ h9 => h9) dX5_takeHead_19 ?_
  refine lv_aload_n hx hb dX5_takeHead_22 rfl (lv_at hl 0 rfl) ?_
  refine va_get (D := gD G) (ci := 6) (v := .int 0) (C := RX5) (T := TX5) (N := 14) hx hb hts (fun _ h9 => (List.mem_cons_of_mem _ (List.mem_append_right _ (List.mem_append_left _ h9)))) hown hK hP 0 rfl rfl 10 (by decide) (hts (.fieldLink RX5 52 "JudoHall$Parser" "where" "I") (List.mem_cons_of_mem _ (List.mem_append_left _ (List.mem_of_getElem? (i := 0) rfl)))) (fun _ h9 => h9) rfl dX5_takeHead_23 ?_
  refine va_ti (v := .int 4) hx hb hE.2.2.2.2.1 hS (gx_in (by decide)) rfl dX5_takeHead_26 ?_
  refine lv_icmp_ne (tgt := 34) hx hb dX5_takeHead_27 (by decide) (fun _ => ?_) (fun c9 => absurd c9 (by decide))
  refine lv_iconst (v := 0) hx hb dX5_takeHead_34 (by decide) ?_
  refine lv_istore_n (lv' := [(2, .int 0), (0, .ref ps), (1, .int 0)]) hx hb dX5_takeHead_35 rfl hl (by decide) rfl (fun ls hl => ?_)
  refine lv_iload_n hx hb dX5_takeHead_36 rfl (lv_at hl 0 rfl) ?_
  refine lv_if_eq (tgt := 62) hx hb dX5_takeHead_37 (by decide) (fun _ => ?_) (fun c9 => absurd (by decide) c9)
  refine lv_iload_n hx hb dX5_takeHead_62 rfl (lv_at hl 0 rfl) ?_
  refine lv_if_eq (tgt := 88) hx hb dX5_takeHead_63 (by decide) (fun _ => ?_) (fun c9 => absurd (by decide) c9)
  refine lv_aload_n hx hb dX5_takeHead_88 rfl (lv_at hl 1 rfl) ?_
  refine lv_iload_n hx hb dX5_takeHead_89 rfl (lv_at hl 0 rfl) ?_
  refine lv_aload_n hx hb dX5_takeHead_90 rfl (lv_at hl 1 rfl) ?_
  refine va_get (D := gD G) (ci := 6) (v := .int 0) (C := RX5) (T := TX5) (N := 14) hx hb hts (fun _ h9 => (List.mem_cons_of_mem _ (List.mem_append_right _ (List.mem_append_left _ h9)))) hown hK hP 0 rfl rfl 10 (by decide) (hts (.fieldLink RX5 52 "JudoHall$Parser" "where" "I") (List.mem_cons_of_mem _ (List.mem_append_left _ (List.mem_of_getElem? (i := 0) rfl)))) (fun _ h9 => h9) rfl dX5_takeHead_91 ?_
  refine lv_iconst (v := 1) hx hb dX5_takeHead_94 (by decide) ?_
  refine lv_iadd hx hb dX5_takeHead_95 ?_
  refine gx_ti (y := 1) (by decide) ?_
  have hPc := hP.sub (ws' := [(ps, .inr (6, [.ref tp, p1, p2, p3, .ref dr, .int 0, .int 0, .int 0, .int (-1), .int 0, .int 0, .int 0, .int 0, .int 0])), (tp, .inr (11, [ty, .int 0, .int 0, .int 0, .int 0, .int 0]))]) [0, 1] rfl
  have hDc := hD.sub (ws' := [(ps, .inr (6, [.ref tp, p1, p2, p3, .ref dr, .int 0, .int 0, .int 0, .int (-1), .int 0, .int 0, .int 0, .int 0, .int 0])), (tp, .inr (11, [ty, .int 0, .int 0, .int 0, .int 0, .int 0]))]) [0, 1] (by decide) rfl
  have hFc := va_free (wc := [(ps, .inr (6, [.ref tp, p1, p2, p3, .ref dr, .int 0, .int 0, .int 0, .int (-1), .int 0, .int 0, .int 0, .int 0, .int 0])), (tp, .inr (11, [ty, .int 0, .int 0, .int 0, .int 0, .int 0]))]) hD hS hA [0, 1] rfl
  refine va_callv (va_runV (As := [.int 0, .int 1]) (rest := []) ⟨hx, hb, hml, hown, hts⟩ (c_goIf l G ps tp dr p1 p2 p3 ty s.heap.size) (cwV 2 hts (gdV (List.mem_cons_of_mem _ (List.mem_append_left _ (List.mem_of_getElem? (i := 2) rfl))) (List.mem_cons_of_mem _ (List.mem_append_left _ (List.mem_of_getElem? (i := 3) rfl))) (List.mem_cons_of_mem _ (List.mem_append_left _ (List.mem_of_getElem? (i := 4) rfl))) (List.mem_cons_of_mem _ (List.mem_append_left _ (List.mem_of_getElem? (i := 5) rfl))) (fun w9 h9 => ⟨(List.mem_cons_of_mem _ (List.mem_append_right _ (List.mem_append_right _ (List.mem_append_left _ h9)))), gd_c_goIf w9 h9⟩)) rfl rfl rfl kVX5_goIf ⟨Nat.le_of_ble_eq_true rfl, Nat.le_of_ble_eq_true rfl⟩) (preV_m (As := [.int 0, .int 1]) hPc hB hDc rfl rfl) rfl rfl hl.1 rfl (lv_room (Nat.le_of_ble_eq_true rfl)) dX5_takeHead_96 ⟨Nat.le_of_ble_eq_true rfl, Nat.le_of_ble_eq_true rfl⟩) hS (fun q _ h => hFc q h) hFc (fun u t H1 locs ht hvm hw hB1 hz1 hk1 hS => ?_)
  obtain ⟨hP1, hD1⟩ := hB1
  rw [ht] at hP1
  obtain ⟨hP, hD⟩ := va_join (wr := []) (w1 := [(ps, .inr (6, [.ref tp, p1, p2, p3, .ref dr, .int 0, .int 0, .int 0, .int 0, .int 1, .int 0, .int 0, .int 0, .int 0])), (tp, .inr (11, [ty, .int 0, .int 0, .int 0, .int 0, .int 0]))]) hP hD [0, 1] [] rfl rfl (by decide) (by decide) hk1 hFc hP1 hD1
  generalize H1 = H at hP hS ⊢
  have hP : va_P (gD G) vwCl [(ps, .inr (6, [.ref tp, p1, p2, p3, .ref dr, .int 0, .int 0, .int 0, .int 0, .int 1, .int 0, .int 0, .int 0, .int 0])), (tp, .inr (11, [ty, .int 0, .int 0, .int 0, .int 0, .int 0]))] H := hP
  have hD : va_D A [(ps, .inr (6, [.ref tp, p1, p2, p3, .ref dr, .int 0, .int 0, .int 0, .int 0, .int 1, .int 0, .int 0, .int 0, .int 0])), (tp, .inr (11, [ty, .int 0, .int 0, .int 0, .int 0, .int 0]))] := hD
  refine W.eq (g2 := F0 m 99 ls []) rfl ?_
  have hP9 := hP.sub (ws' := [(ps, .inr (6, [.ref tp, p1, p2, p3, .ref dr, .int 0, .int 0, .int 0, .int 0, .int 1, .int 0, .int 0, .int 0, .int 0])), (tp, .inr (11, [ty, .int 0, .int 0, .int 0, .int 0, .int 0]))]) [0, 1] rfl
  have hD9 := hD.sub (ws' := [(ps, .inr (6, [.ref tp, p1, p2, p3, .ref dr, .int 0, .int 0, .int 0, .int 0, .int 1, .int 0, .int 0, .int 0, .int 0])), (tp, .inr (11, [ty, .int 0, .int 0, .int 0, .int 0, .int 0]))]) [0, 1] (by decide) rfl
  exact W.vret hx hb hr (fun t ht hW => ⟨⟨(), rfl, trivial, by rw [ht]; exact hP9, hD9⟩, hS.F ht⟩) hS.2.2 dX5_takeHead_99

def wo_c_take : List Cond := [.fieldLink RX5 52 "JudoHall$Parser" "where" "I", .fieldLink RX5 77 "JudoHall$Parser" "HEAD" "[I", .methodLink RX5 81 yX5_takeHead, .instanceMethod yX5_takeHead, .selects RX5 yX5_takeHead yX5_takeHead, .initialized RX5]
def wq_c_take : List Cond := .code yX5_take cX5_take 2 none :: (wo_c_take ++ (wsX50 ++ (wq_c_takeHead ++ [])))
theorem gd_c_take : ∀ w ∈ wq_c_take, Gd w := List.forall_mem_cons.mpr ⟨Or.inl rfl, List.forall_mem_append.mpr ⟨gdl wo_c_take (by decide +kernel), (List.forall_mem_append.mpr ⟨gd_wsX50, (List.forall_mem_append.mpr ⟨gd_c_takeHead, (fun _ h => absurd h List.not_mem_nil)⟩)⟩)⟩⟩
theorem in_c_take : ∀ w ∈ wq_c_take, w ∈ lw_tbl := List.forall_mem_cons.mpr ⟨List.mem_of_getElem? (i := 743) (by decide +kernel), List.forall_mem_append.mpr ⟨inT wo_c_take [346, 744, 746, 748, 9, 160] (by decide +kernel), (List.forall_mem_append.mpr ⟨in_wsX50, (List.forall_mem_append.mpr ⟨in_c_takeHead, (fun _ h => absurd h List.not_mem_nil)⟩)⟩)⟩⟩
set_option maxHeartbeats 4000000 in
set_option maxRecDepth 100000 in
theorem c_take (l : Launch) (G : gG) (Z : gS) (ps : Nat) (tp : Nat) (dr : Nat) (p1 : Value) (p2 : Value) (p3 : Value) (ty : Value) (sz : Nat) : Met l yX5_take wq_c_take ({ frames := 3, cells := 0, slots := 0, locals := 65 }) (va_Pc [.ref ps, .int 0] (eP G Z [(ps, .inr (6, [.ref tp, p1, p2, p3, .ref dr, .int 0, .int 0, .int 0, .int (-1), .int 0, .int 0, .int 0, .int 0, .int 0])), (tp, .inr (11, [ty, .int 0, .int 0, .int 0, .int 0, .int 0]))] sz)) (va_Qv (fun _ : Unit => True) (fun (_ : Unit) (t : State) => va_P (gD G) vwCl [(ps, .inr (6, [.ref tp, p1, p2, p3, .ref dr, .int 0, .int 0, .int 0, .int 0, .int 1, .int 0, .int 0, .int 0, .int 0])), (tp, .inr (11, [ty, .int 0, .int 0, .int 0, .int 0, .int 0]))] t.heap ∧ va_D (va_A [(ps, .inr (6, [.ref tp, p1, p2, p3, .ref dr, .int 0, .int 0, .int 0, .int (-1), .int 0, .int 0, .int 0, .int 0, .int 0])), (tp, .inr (11, [ty, .int 0, .int 0, .int 0, .int 0, .int 0]))] sz) [(ps, .inr (6, [.ref tp, p1, p2, p3, .ref dr, .int 0, .int 0, .int 0, .int 0, .int 1, .int 0, .int 0, .int 0, .int 0])), (tp, .inr (11, [ty, .int 0, .int 0, .int 0, .int 0, .int 0]))]) (va_A [(ps, .inr (6, [.ref tp, p1, p2, p3, .ref dr, .int 0, .int 0, .int 0, .int (-1), .int 0, .int 0, .int 0, .int 0, .int 0])), (tp, .inr (11, [ty, .int 0, .int 0, .int 0, .int 0, .int 0]))] sz)) 0 0 (va_A [(ps, .inr (6, [.ref tp, p1, p2, p3, .ref dr, .int 0, .int 0, .int 0, .int (-1), .int 0, .int 0, .int 0, .int 0, .int 0])), (tp, .inr (11, [ty, .int 0, .int 0, .int 0, .int 0, .int 0]))] sz) := by
  refine Met.ofW (cc := cX5_take) (maxL := 2) (ret := none) (by decide) rfl ?_
  intro p e s m args below meth c s₁ B hml hv
  obtain ⟨rfl, ⟨hsz, hP, hB, hD0⟩, hE⟩ := hv
  have hx := B.exec
  have hb := B.bytes
  have hr := B.returns
  have hts := atoms_spec (ws := wq_c_take) B.pre
  have hown : s.vm.findClass RX5 = some m.cls := findClass_of_methodNamed B.named
  have hlocks := B.notSynchronized
  have hK := hB.1
  subst hsz
  have hD := hD0.self (sz := s.heap.size)
  generalize hAe : va_A [(ps, .inr (6, [.ref tp, p1, p2, p3, .ref dr, .int 0, .int 0, .int 0, .int (-1), .int 0, .int 0, .int 0, .int 0, .int 0])), (tp, .inr (11, [ty, .int 0, .int 0, .int 0, .int 0, .int 0]))] s.heap.size = A at hD hE ⊢
  have hA : ∀ q : Nat, s.heap.size ≤ q → A q := fun q h => by rw [← hAe]; exact Or.inr h
  have hS : va_S A s.heap s.heap [] := va_S.rf
  have hP : va_P (gD G) vwCl [(ps, .inr (6, [.ref tp, p1, p2, p3, .ref dr, .int 0, .int 0, .int 0, .int (-1), .int 0, .int 0, .int 0, .int 0, .int 0])), (tp, .inr (11, [ty, .int 0, .int 0, .int 0, .int 0, .int 0]))] s.heap := hP
  have hD : va_D A [(ps, .inr (6, [.ref tp, p1, p2, p3, .ref dr, .int 0, .int 0, .int 0, .int (-1), .int 0, .int 0, .int 0, .int 0, .int 0])), (tp, .inr (11, [ty, .int 0, .int 0, .int 0, .int 0, .int 0]))] := hD
  have hl := lv_entry ([.ref ps, .int 0]) (n := 2) (Nat.le_of_ble_eq_true rfl)
  rw [lg_entry_eq]
  generalize (lg_sl ([.ref ps, .int 0]) ++ List.replicate (2 - (lg_sl ([.ref ps, .int 0])).length) Slot.unset).toArray = ls at hl ⊢
  have hl : lv_has ls 2 [(0, .ref ps), (1, .int 0)] := hl
  refine lv_aload_n hx hb dX5_take_0 rfl (lv_at hl 0 rfl) ?_
  refine va_get (D := gD G) (ci := 6) (v := .int 0) (C := RX5) (T := TX5) (N := 14) hx hb hts (fun _ h9 => (List.mem_cons_of_mem _ (List.mem_append_right _ (List.mem_append_left _ h9)))) hown hK hP 0 rfl rfl 10 (by decide) (hts (.fieldLink RX5 52 "JudoHall$Parser" "where" "I") (List.mem_cons_of_mem _ (List.mem_append_left _ (List.mem_of_getElem? (i := 0) rfl)))) (fun _ h9 => h9) rfl dX5_take_1 ?_
  refine va_gets hx hb hE.2.2.2.1 hS hown (hts (.fieldLink RX5 77 "JudoHall$Parser" "HEAD" "[I") (List.mem_cons_of_mem _ (List.mem_append_left _ (List.mem_of_getElem? (i := 1) rfl)))) (fun _ h9 => h9) dX5_take_4 ?_
  refine va_tlen (v := 6) hx hb hE.2.2.2.2.1 hS (by decide) dX5_take_7 ?_
  refine lv_icmp_ge (tgt := 17) hx hb dX5_take_8 (by decide) (fun c9 => absurd c9 (by decide)) (fun _ => ?_)
  refine lv_aload_n hx hb dX5_take_11 rfl (lv_at hl 0 rfl) ?_
  refine lv_iload_n hx hb dX5_take_12 rfl (lv_at hl 1 rfl) ?_
  have hPc := hP.sub (ws' := [(ps, .inr (6, [.ref tp, p1, p2, p3, .ref dr, .int 0, .int 0, .int 0, .int (-1), .int 0, .int 0, .int 0, .int 0, .int 0])), (tp, .inr (11, [ty, .int 0, .int 0, .int 0, .int 0, .int 0]))]) [0, 1] rfl
  have hDc := hD.sub (ws' := [(ps, .inr (6, [.ref tp, p1, p2, p3, .ref dr, .int 0, .int 0, .int 0, .int (-1), .int 0, .int 0, .int 0, .int 0, .int 0])), (tp, .inr (11, [ty, .int 0, .int 0, .int 0, .int 0, .int 0]))]) [0, 1] (by decide) rfl
  have hFc := va_free (wc := [(ps, .inr (6, [.ref tp, p1, p2, p3, .ref dr, .int 0, .int 0, .int 0, .int (-1), .int 0, .int 0, .int 0, .int 0, .int 0])), (tp, .inr (11, [ty, .int 0, .int 0, .int 0, .int 0, .int 0]))]) hD hS hA [0, 1] rfl
  refine va_callv (va_runV (As := [.int 0]) (rest := []) ⟨hx, hb, hml, hown, hts⟩ (c_takeHead l G Z ps tp dr p1 p2 p3 ty s.heap.size) (cwV 1 hts (gdV (List.mem_cons_of_mem _ (List.mem_append_left _ (List.mem_of_getElem? (i := 2) rfl))) (List.mem_cons_of_mem _ (List.mem_append_left _ (List.mem_of_getElem? (i := 3) rfl))) (List.mem_cons_of_mem _ (List.mem_append_left _ (List.mem_of_getElem? (i := 4) rfl))) (List.mem_cons_of_mem _ (List.mem_append_left _ (List.mem_of_getElem? (i := 5) rfl))) (fun w9 h9 => ⟨(List.mem_cons_of_mem _ (List.mem_append_right _ (List.mem_append_right _ (List.mem_append_left _ h9)))), gd_c_takeHead w9 h9⟩)) rfl rfl rfl kVX5_takeHead ⟨Nat.le_of_ble_eq_true rfl, Nat.le_of_ble_eq_true rfl⟩) (preV_e (As := [.int 0]) hPc hB hDc ((hE.kept hS.2.1).narrow hFc) rfl rfl) rfl rfl hl.1 rfl (lv_room (Nat.le_of_ble_eq_true rfl)) dX5_take_13 ⟨Nat.le_of_ble_eq_true rfl, Nat.le_of_ble_eq_true rfl⟩) hS (fun q _ h => hFc q h) hFc (fun u t H1 locs ht hvm hw hB1 hz1 hk1 hS => ?_)
  obtain ⟨hP1, hD1⟩ := hB1
  rw [ht] at hP1
  obtain ⟨hP, hD⟩ := va_join (wr := []) (w1 := [(ps, .inr (6, [.ref tp, p1, p2, p3, .ref dr, .int 0, .int 0, .int 0, .int 0, .int 1, .int 0, .int 0, .int 0, .int 0])), (tp, .inr (11, [ty, .int 0, .int 0, .int 0, .int 0, .int 0]))]) hP hD [0, 1] [] rfl rfl (by decide) (by decide) hk1 hFc hP1 hD1
  generalize H1 = H at hP hS ⊢
  have hP : va_P (gD G) vwCl [(ps, .inr (6, [.ref tp, p1, p2, p3, .ref dr, .int 0, .int 0, .int 0, .int 0, .int 1, .int 0, .int 0, .int 0, .int 0])), (tp, .inr (11, [ty, .int 0, .int 0, .int 0, .int 0, .int 0]))] H := hP
  have hD : va_D A [(ps, .inr (6, [.ref tp, p1, p2, p3, .ref dr, .int 0, .int 0, .int 0, .int 0, .int 1, .int 0, .int 0, .int 0, .int 0])), (tp, .inr (11, [ty, .int 0, .int 0, .int 0, .int 0, .int 0]))] := hD
  refine W.eq (g2 := F0 m 16 ls []) rfl ?_
  have hP9 := hP.sub (ws' := [(ps, .inr (6, [.ref tp, p1, p2, p3, .ref dr, .int 0, .int 0, .int 0, .int 0, .int 1, .int 0, .int 0, .int 0, .int 0])), (tp, .inr (11, [ty, .int 0, .int 0, .int 0, .int 0, .int 0]))]) [0, 1] rfl
  have hD9 := hD.sub (ws' := [(ps, .inr (6, [.ref tp, p1, p2, p3, .ref dr, .int 0, .int 0, .int 0, .int 0, .int 1, .int 0, .int 0, .int 0, .int 0])), (tp, .inr (11, [ty, .int 0, .int 0, .int 0, .int 0, .int 0]))]) [0, 1] (by decide) rfl
  exact W.vret hx hb hr (fun t ht hW => ⟨⟨(), rfl, trivial, by rw [ht]; exact hP9, hD9⟩, hS.F ht⟩) hS.2.2 dX5_take_16

def wo_c_readLaws : List Cond := [.fieldLink RX5 33 "JudoHall$Parser" "draft" "LJudoHall$Laws;", .methodLink RX5 41 yX4_clear, .instanceMethod yX4_clear, .selects RX4 yX4_clear yX4_clear, .initialized RX4, .fieldLink RX5 9 "JudoHall$Parser" "tape" "LJudoHall$Tape;", .methodLink RX5 44 yX10_rewind, .instanceMethod yX10_rewind, .selects RX10 yX10_rewind yX10_rewind, .initialized RX10, .fieldLink RX5 49 "JudoHall$Parser" "fault" "I", .fieldLink RX5 37 "JudoHall$Parser" "place" "I", .fieldLink RX5 52 "JudoHall$Parser" "where" "I", .fieldLink RX5 55 "JudoHall$Parser" "held" "I", .fieldLink RX5 58 "JudoHall$Parser" "open" "I", .fieldLink RX5 61 "JudoHall$Parser" "brackets" "I", .methodLink RX5 64 yX10_readToken, .instanceMethod yX10_readToken, .selects RX10 yX10_readToken yX10_readToken, .methodLink RX5 70 yX5_take, .instanceMethod yX5_take, .selects RX5 yX5_take yX5_take, .initialized RX5]
def wq_c_readLaws : List Cond := .code yX5_readLaws cX5_readLaws 2 (some .boolean) :: (wo_c_readLaws ++ (wsX50 ++ (wq_c_Laws_clear ++ (wq_c_rewind ++ (wq_c_readToken ++ (wsX100 ++ (wq_c_take ++ [])))))))
theorem gd_c_readLaws : ∀ w ∈ wq_c_readLaws, Gd w := List.forall_mem_cons.mpr ⟨Or.inl rfl, List.forall_mem_append.mpr ⟨gdl wo_c_readLaws (by decide +kernel), (List.forall_mem_append.mpr ⟨gd_wsX50, (List.forall_mem_append.mpr ⟨gd_c_Laws_clear, (List.forall_mem_append.mpr ⟨gd_c_rewind, (List.forall_mem_append.mpr ⟨gd_c_readToken, (List.forall_mem_append.mpr ⟨gd_wsX100, (List.forall_mem_append.mpr ⟨gd_c_take, (fun _ h => absurd h List.not_mem_nil)⟩)⟩)⟩)⟩)⟩)⟩)⟩⟩
theorem in_c_readLaws : ∀ w ∈ wq_c_readLaws, w ∈ lw_tbl := List.forall_mem_cons.mpr ⟨List.mem_of_getElem? (i := 629) (by decide +kernel), List.forall_mem_append.mpr ⟨inT wo_c_readLaws [338, 630, 631, 632, 161, 334, 634, 635, 636, 159, 344, 342, 346, 339, 340, 341, 638, 639, 640, 740, 742, 8, 160] (by decide +kernel), (List.forall_mem_append.mpr ⟨in_wsX50, (List.forall_mem_append.mpr ⟨in_c_Laws_clear, (List.forall_mem_append.mpr ⟨in_c_rewind, (List.forall_mem_append.mpr ⟨in_c_readToken, (List.forall_mem_append.mpr ⟨in_wsX100, (List.forall_mem_append.mpr ⟨in_c_take, (fun _ h => absurd h List.not_mem_nil)⟩)⟩)⟩)⟩)⟩)⟩)⟩⟩
set_option maxHeartbeats 4000000 in
set_option maxRecDepth 100000 in
theorem c_readLaws (l : Launch) (G : gG) (Z : gS) (ps : Nat) (tp : Nat) (dr : Nat) (p1 : Value) (p2 : Value) (p3 : Value) (ty : Value) (p4 : Value) (p5 : Value) (p6 : Value) (sz : Nat) : Met l yX5_readLaws wq_c_readLaws ({ frames := 4, cells := 0, slots := 0, locals := 86 }) (va_Pc [.ref ps] (eP G Z [(ps, .inr (6, [.ref tp, p1, p2, p3, .ref dr, .int 0, .int 0, .int 0, .int (-1), .int 0, .int 0, .int 0, .int 0, .int 0])), (tp, .inr (11, [ty, .int 0, .int 0, .int 0, .int 0, .int 0])), (dr, .inr (5, [.int 0, .int 0, .int 0, .int 0, .int 0, .int 0, p4, p5, p6]))] sz)) (va_Qi (fun (r : Int32) (_ : Unit) => r = 0) (fun (_ : Unit) (t : State) => va_P (gD G) vwCl [(tp, .inr (11, [ty, .int 0, .int 0, .int 0, .int 0, .int 0]))] t.heap ∧ va_D (va_A [(ps, .inr (6, [.ref tp, p1, p2, p3, .ref dr, .int 0, .int 0, .int 0, .int (-1), .int 0, .int 0, .int 0, .int 0, .int 0])), (tp, .inr (11, [ty, .int 0, .int 0, .int 0, .int 0, .int 0])), (dr, .inr (5, [.int 0, .int 0, .int 0, .int 0, .int 0, .int 0, p4, p5, p6]))] sz) [(tp, .inr (11, [ty, .int 0, .int 0, .int 0, .int 0, .int 0]))]) (va_A [(ps, .inr (6, [.ref tp, p1, p2, p3, .ref dr, .int 0, .int 0, .int 0, .int (-1), .int 0, .int 0, .int 0, .int 0, .int 0])), (tp, .inr (11, [ty, .int 0, .int 0, .int 0, .int 0, .int 0])), (dr, .inr (5, [.int 0, .int 0, .int 0, .int 0, .int 0, .int 0, p4, p5, p6]))] sz)) 0 0 (va_A [(ps, .inr (6, [.ref tp, p1, p2, p3, .ref dr, .int 0, .int 0, .int 0, .int (-1), .int 0, .int 0, .int 0, .int 0, .int 0])), (tp, .inr (11, [ty, .int 0, .int 0, .int 0, .int 0, .int 0])), (dr, .inr (5, [.int 0, .int 0, .int 0, .int 0, .int 0, .int 0, p4, p5, p6]))] sz) := by
  refine Met.ofW (cc := cX5_readLaws) (maxL := 2) (ret := (some .boolean)) (by decide) rfl ?_
  intro p e s m args below meth c s₁ B hml hv
  obtain ⟨rfl, ⟨hsz, hP, hB, hD0⟩, hE⟩ := hv
  have hx := B.exec
  have hb := B.bytes
  have hr := B.returns
  have hts := atoms_spec (ws := wq_c_readLaws) B.pre
  have hown : s.vm.findClass RX5 = some m.cls := findClass_of_methodNamed B.named
  have hlocks := B.notSynchronized
  have hK := hB.1
  subst hsz
  have hD := hD0.self (sz := s.heap.size)
  generalize hAe : va_A [(ps, .inr (6, [.ref tp, p1, p2, p3, .ref dr, .int 0, .int 0, .int 0, .int (-1), .int 0, .int 0, .int 0, .int 0, .int 0])), (tp, .inr (11, [ty, .int 0, .int 0, .int 0, .int 0, .int 0])), (dr, .inr (5, [.int 0, .int 0, .int 0, .int 0, .int 0, .int 0, p4, p5, p6]))] s.heap.size = A at hD hE ⊢
  have hA : ∀ q : Nat, s.heap.size ≤ q → A q := fun q h => by rw [← hAe]; exact Or.inr h
  have hS : va_S A s.heap s.heap [] := va_S.rf
  have hP : va_P (gD G) vwCl [(ps, .inr (6, [.ref tp, p1, p2, p3, .ref dr, .int 0, .int 0, .int 0, .int (-1), .int 0, .int 0, .int 0, .int 0, .int 0])), (tp, .inr (11, [ty, .int 0, .int 0, .int 0, .int 0, .int 0])), (dr, .inr (5, [.int 0, .int 0, .int 0, .int 0, .int 0, .int 0, p4, p5, p6]))] s.heap := hP
  have hD : va_D A [(ps, .inr (6, [.ref tp, p1, p2, p3, .ref dr, .int 0, .int 0, .int 0, .int (-1), .int 0, .int 0, .int 0, .int 0, .int 0])), (tp, .inr (11, [ty, .int 0, .int 0, .int 0, .int 0, .int 0])), (dr, .inr (5, [.int 0, .int 0, .int 0, .int 0, .int 0, .int 0, p4, p5, p6]))] := hD
  have hl := lv_entry ([.ref ps]) (n := 2) (Nat.le_of_ble_eq_true rfl)
  rw [lg_entry_eq]
  generalize (lg_sl ([.ref ps]) ++ List.replicate (2 - (lg_sl ([.ref ps])).length) Slot.unset).toArray = ls at hl ⊢
  have hl : lv_has ls 2 [(0, .ref ps)] := hl
  refine lv_aload_n hx hb dX5_readLaws_0 rfl (lv_at hl 0 rfl) ?_
  refine va_get (D := gD G) (ci := 6) (v := .ref dr) (C := RX5) (T := TX5) (N := 14) hx hb hts (fun _ h9 => (List.mem_cons_of_mem _ (List.mem_append_right _ (List.mem_append_left _ h9)))) hown hK hP 0 rfl rfl 4 (by decide) (hts (.fieldLink RX5 33 "JudoHall$Parser" "draft" "LJudoHall$Laws;") (List.mem_cons_of_mem _ (List.mem_append_left _ (List.mem_of_getElem? (i := 0) rfl)))) (fun _ h9 => h9) rfl dX5_readLaws_1 ?_
  have hPc := hP.sub (ws' := [(dr, .inr (5, [.int 0, .int 0, .int 0, .int 0, .int 0, .int 0, p4, p5, p6]))]) [2] rfl
  have hDc := hD.sub (ws' := [(dr, .inr (5, [.int 0, .int 0, .int 0, .int 0, .int 0, .int 0, p4, p5, p6]))]) [2] (by decide) rfl
  have hFc := va_free (wc := [(dr, .inr (5, [.int 0, .int 0, .int 0, .int 0, .int 0, .int 0, p4, p5, p6]))]) hD hS hA [2] rfl
  refine va_callv (va_runV (As := []) (rest := []) ⟨hx, hb, hml, hown, hts⟩ (c_Laws_clear l G dr p4 p5 p6 s.heap.size) (cwV 0 hts (gdV (List.mem_cons_of_mem _ (List.mem_append_left _ (List.mem_of_getElem? (i := 1) rfl))) (List.mem_cons_of_mem _ (List.mem_append_left _ (List.mem_of_getElem? (i := 2) rfl))) (List.mem_cons_of_mem _ (List.mem_append_left _ (List.mem_of_getElem? (i := 3) rfl))) (List.mem_cons_of_mem _ (List.mem_append_left _ (List.mem_of_getElem? (i := 4) rfl))) (fun w9 h9 => ⟨(List.mem_cons_of_mem _ (List.mem_append_right _ (List.mem_append_right _ (List.mem_append_left _ h9)))), gd_c_Laws_clear w9 h9⟩)) rfl rfl rfl kVX4_clear ⟨Nat.le_of_ble_eq_true rfl, Nat.le_of_ble_eq_true rfl⟩) (preV_m (As := []) hPc hB hDc rfl rfl) rfl rfl hl.1 rfl (lv_room (Nat.le_of_ble_eq_true rfl)) dX5_readLaws_4 ⟨Nat.le_of_ble_eq_true rfl, Nat.le_of_ble_eq_true rfl⟩) hS (fun q _ h => hFc q h) hFc (fun u t H1 locs ht hvm hw hB1 hz1 hk1 hS => ?_)
  obtain ⟨hP1, hD1⟩ := hB1
  rw [ht] at hP1
  obtain ⟨hP, hD⟩ := va_join (wr := [(ps, .inr (6, [.ref tp, p1, p2, p3, .ref dr, .int 0, .int 0, .int 0, .int (-1), .int 0, .int 0, .int 0, .int 0, .int 0])), (tp, .inr (11, [ty, .int 0, .int 0, .int 0, .int 0, .int 0]))]) (w1 := [(dr, .inr (5, [.int 0, .int 0, .int 0, .int 0, .int 0, .int 0, p4, p5, p6]))]) hP hD [2] [0, 1] rfl rfl (by decide) (by decide) hk1 hFc hP1 hD1
  generalize H1 = H at hP hS ⊢
  have hP : va_P (gD G) vwCl [(ps, .inr (6, [.ref tp, p1, p2, p3, .ref dr, .int 0, .int 0, .int 0, .int (-1), .int 0, .int 0, .int 0, .int 0, .int 0])), (tp, .inr (11, [ty, .int 0, .int 0, .int 0, .int 0, .int 0])), (dr, .inr (5, [.int 0, .int 0, .int 0, .int 0, .int 0, .int 0, p4, p5, p6]))] H := hP
  have hD : va_D A [(ps, .inr (6, [.ref tp, p1, p2, p3, .ref dr, .int 0, .int 0, .int 0, .int (-1), .int 0, .int 0, .int 0, .int 0, .int 0])), (tp, .inr (11, [ty, .int 0, .int 0, .int 0, .int 0, .int 0])), (dr, .inr (5, [.int 0, .int 0, .int 0, .int 0, .int 0, .int 0, p4, p5, p6]))] := hD
  refine W.eq (g2 := F0 m 7 ls []) rfl ?_
  refine lv_aload_n hx hb dX5_readLaws_7 rfl (lv_at hl 0 rfl) ?_
  refine va_get (D := gD G) (ci := 6) (v := .ref tp) (C := RX5) (T := TX5) (N := 14) hx hb hts (fun _ h9 => (List.mem_cons_of_mem _ (List.mem_append_right _ (List.mem_append_left _ h9)))) hown hK hP 0 rfl rfl 0 (by decide) (hts (.fieldLink RX5 9 "JudoHall$Parser" "tape" "LJudoHall$Tape;") (List.mem_cons_of_mem _ (List.mem_append_left _ (List.mem_of_getElem? (i := 5) rfl)))) (fun _ h9 => h9) rfl dX5_readLaws_8 ?_
  have hPc := hP.sub (ws' := [(tp, .inr (11, [ty, .int 0, .int 0, .int 0, .int 0, .int 0]))]) [1] rfl
  have hDc := hD.sub (ws' := [(tp, .inr (11, [ty, .int 0, .int 0, .int 0, .int 0, .int 0]))]) [1] (by decide) rfl
  have hFc := va_free (wc := [(tp, .inr (11, [ty, .int 0, .int 0, .int 0, .int 0, .int 0]))]) hD hS hA [1] rfl
  refine va_callv (va_runV (As := []) (rest := []) ⟨hx, hb, hml, hown, hts⟩ (c_rewind l G tp ty H.size) (cwV 0 hts (gdV (List.mem_cons_of_mem _ (List.mem_append_left _ (List.mem_of_getElem? (i := 6) rfl))) (List.mem_cons_of_mem _ (List.mem_append_left _ (List.mem_of_getElem? (i := 7) rfl))) (List.mem_cons_of_mem _ (List.mem_append_left _ (List.mem_of_getElem? (i := 8) rfl))) (List.mem_cons_of_mem _ (List.mem_append_left _ (List.mem_of_getElem? (i := 9) rfl))) (fun w9 h9 => ⟨(List.mem_cons_of_mem _ (List.mem_append_right _ (List.mem_append_right _ (List.mem_append_right _ (List.mem_append_left _ h9))))), gd_c_rewind w9 h9⟩)) rfl rfl rfl kVX10_rewind ⟨Nat.le_of_ble_eq_true rfl, Nat.le_of_ble_eq_true rfl⟩) (preV_m (As := []) hPc hB hDc rfl rfl) rfl rfl hl.1 rfl (lv_room (Nat.le_of_ble_eq_true rfl)) dX5_readLaws_11 ⟨Nat.le_of_ble_eq_true rfl, Nat.le_of_ble_eq_true rfl⟩) hS (fun q _ h => hFc q h) hFc (fun u t H1 locs ht hvm hw hB1 hz1 hk1 hS => ?_)
  obtain ⟨hP1, hD1⟩ := hB1
  rw [ht] at hP1
  obtain ⟨hP, hD⟩ := va_join (wr := [(ps, .inr (6, [.ref tp, p1, p2, p3, .ref dr, .int 0, .int 0, .int 0, .int (-1), .int 0, .int 0, .int 0, .int 0, .int 0])), (dr, .inr (5, [.int 0, .int 0, .int 0, .int 0, .int 0, .int 0, p4, p5, p6]))]) (w1 := [(tp, .inr (11, [ty, .int 0, .int 0, .int 0, .int 0, .int 0]))]) hP hD [1] [0, 2] rfl rfl (by decide) (by decide) hk1 hFc hP1 hD1
  generalize H1 = H at hP hS ⊢
  have hP : va_P (gD G) vwCl [(ps, .inr (6, [.ref tp, p1, p2, p3, .ref dr, .int 0, .int 0, .int 0, .int (-1), .int 0, .int 0, .int 0, .int 0, .int 0])), (dr, .inr (5, [.int 0, .int 0, .int 0, .int 0, .int 0, .int 0, p4, p5, p6])), (tp, .inr (11, [ty, .int 0, .int 0, .int 0, .int 0, .int 0]))] H := hP
  have hD : va_D A [(ps, .inr (6, [.ref tp, p1, p2, p3, .ref dr, .int 0, .int 0, .int 0, .int (-1), .int 0, .int 0, .int 0, .int 0, .int 0])), (dr, .inr (5, [.int 0, .int 0, .int 0, .int 0, .int 0, .int 0, p4, p5, p6])), (tp, .inr (11, [ty, .int 0, .int 0, .int 0, .int 0, .int 0]))] := hD
  refine W.eq (g2 := F0 m 14 ls []) rfl ?_
  refine lv_aload_n hx hb dX5_readLaws_14 rfl (lv_at hl 0 rfl) ?_
  refine lv_iconst (v := 0) hx hb dX5_readLaws_15 (by decide) ?_
  refine va_put (D := gD G) (ci := 6) (v := .int 0) (ty := tyX5 9) (C := RX5) (T := TX5) (N := 14) hx hb hts (fun _ h9 => (List.mem_cons_of_mem _ (List.mem_append_right _ (List.mem_append_left _ h9)))) tyX5 tyX5_ok nmX5 hown hK hP hD hS 0 rfl rfl 9 (by decide) (hts (.fieldLink RX5 49 "JudoHall$Parser" "fault" "I") (List.mem_cons_of_mem _ (List.mem_append_left _ (List.mem_of_getElem? (i := 10) rfl)))) (fun _ h9 => h9) rfl (tyX5_ok 9 (by decide)) rfl rfl (Nat.le_of_ble_eq_true rfl) dX5_readLaws_16 (fun H locs hP hD hS => ?_)
  have hP : va_P (gD G) vwCl [(ps, .inr (6, [.ref tp, p1, p2, p3, .ref dr, .int 0, .int 0, .int 0, .int (-1), .int 0, .int 0, .int 0, .int 0, .int 0])), (dr, .inr (5, [.int 0, .int 0, .int 0, .int 0, .int 0, .int 0, p4, p5, p6])), (tp, .inr (11, [ty, .int 0, .int 0, .int 0, .int 0, .int 0]))] H := hP
  have hD : va_D A [(ps, .inr (6, [.ref tp, p1, p2, p3, .ref dr, .int 0, .int 0, .int 0, .int (-1), .int 0, .int 0, .int 0, .int 0, .int 0])), (dr, .inr (5, [.int 0, .int 0, .int 0, .int 0, .int 0, .int 0, p4, p5, p6])), (tp, .inr (11, [ty, .int 0, .int 0, .int 0, .int 0, .int 0]))] := hD
  refine lv_aload_n hx hb dX5_readLaws_19 rfl (lv_at hl 0 rfl) ?_
  refine lv_iconst (v := (-1)) hx hb dX5_readLaws_20 (by decide) ?_
  refine va_put (D := gD G) (ci := 6) (v := .int (-1)) (ty := tyX5 8) (C := RX5) (T := TX5) (N := 14) hx hb hts (fun _ h9 => (List.mem_cons_of_mem _ (List.mem_append_right _ (List.mem_append_left _ h9)))) tyX5 tyX5_ok nmX5 hown hK hP hD hS 0 rfl rfl 8 (by decide) (hts (.fieldLink RX5 37 "JudoHall$Parser" "place" "I") (List.mem_cons_of_mem _ (List.mem_append_left _ (List.mem_of_getElem? (i := 11) rfl)))) (fun _ h9 => h9) rfl (tyX5_ok 8 (by decide)) rfl rfl (Nat.le_of_ble_eq_true rfl) dX5_readLaws_21 (fun H locs hP hD hS => ?_)
  have hP : va_P (gD G) vwCl [(ps, .inr (6, [.ref tp, p1, p2, p3, .ref dr, .int 0, .int 0, .int 0, .int (-1), .int 0, .int 0, .int 0, .int 0, .int 0])), (dr, .inr (5, [.int 0, .int 0, .int 0, .int 0, .int 0, .int 0, p4, p5, p6])), (tp, .inr (11, [ty, .int 0, .int 0, .int 0, .int 0, .int 0]))] H := hP
  have hD : va_D A [(ps, .inr (6, [.ref tp, p1, p2, p3, .ref dr, .int 0, .int 0, .int 0, .int (-1), .int 0, .int 0, .int 0, .int 0, .int 0])), (dr, .inr (5, [.int 0, .int 0, .int 0, .int 0, .int 0, .int 0, p4, p5, p6])), (tp, .inr (11, [ty, .int 0, .int 0, .int 0, .int 0, .int 0]))] := hD
  refine lv_aload_n hx hb dX5_readLaws_24 rfl (lv_at hl 0 rfl) ?_
  refine lv_iconst (v := 0) hx hb dX5_readLaws_25 (by decide) ?_
  refine va_put (D := gD G) (ci := 6) (v := .int 0) (ty := tyX5 10) (C := RX5) (T := TX5) (N := 14) hx hb hts (fun _ h9 => (List.mem_cons_of_mem _ (List.mem_append_right _ (List.mem_append_left _ h9)))) tyX5 tyX5_ok nmX5 hown hK hP hD hS 0 rfl rfl 10 (by decide) (hts (.fieldLink RX5 52 "JudoHall$Parser" "where" "I") (List.mem_cons_of_mem _ (List.mem_append_left _ (List.mem_of_getElem? (i := 12) rfl)))) (fun _ h9 => h9) rfl (tyX5_ok 10 (by decide)) rfl rfl (Nat.le_of_ble_eq_true rfl) dX5_readLaws_26 (fun H locs hP hD hS => ?_)
  have hP : va_P (gD G) vwCl [(ps, .inr (6, [.ref tp, p1, p2, p3, .ref dr, .int 0, .int 0, .int 0, .int (-1), .int 0, .int 0, .int 0, .int 0, .int 0])), (dr, .inr (5, [.int 0, .int 0, .int 0, .int 0, .int 0, .int 0, p4, p5, p6])), (tp, .inr (11, [ty, .int 0, .int 0, .int 0, .int 0, .int 0]))] H := hP
  have hD : va_D A [(ps, .inr (6, [.ref tp, p1, p2, p3, .ref dr, .int 0, .int 0, .int 0, .int (-1), .int 0, .int 0, .int 0, .int 0, .int 0])), (dr, .inr (5, [.int 0, .int 0, .int 0, .int 0, .int 0, .int 0, p4, p5, p6])), (tp, .inr (11, [ty, .int 0, .int 0, .int 0, .int 0, .int 0]))] := hD
  refine lv_aload_n hx hb dX5_readLaws_29 rfl (lv_at hl 0 rfl) ?_
  refine lv_iconst (v := 0) hx hb dX5_readLaws_30 (by decide) ?_
  refine va_put (D := gD G) (ci := 6) (v := .int 0) (ty := tyX5 5) (C := RX5) (T := TX5) (N := 14) hx hb hts (fun _ h9 => (List.mem_cons_of_mem _ (List.mem_append_right _ (List.mem_append_left _ h9)))) tyX5 tyX5_ok nmX5 hown hK hP hD hS 0 rfl rfl 5 (by decide) (hts (.fieldLink RX5 55 "JudoHall$Parser" "held" "I") (List.mem_cons_of_mem _ (List.mem_append_left _ (List.mem_of_getElem? (i := 13) rfl)))) (fun _ h9 => h9) rfl (tyX5_ok 5 (by decide)) rfl rfl (Nat.le_of_ble_eq_true rfl) dX5_readLaws_31 (fun H locs hP hD hS => ?_)
  have hP : va_P (gD G) vwCl [(ps, .inr (6, [.ref tp, p1, p2, p3, .ref dr, .int 0, .int 0, .int 0, .int (-1), .int 0, .int 0, .int 0, .int 0, .int 0])), (dr, .inr (5, [.int 0, .int 0, .int 0, .int 0, .int 0, .int 0, p4, p5, p6])), (tp, .inr (11, [ty, .int 0, .int 0, .int 0, .int 0, .int 0]))] H := hP
  have hD : va_D A [(ps, .inr (6, [.ref tp, p1, p2, p3, .ref dr, .int 0, .int 0, .int 0, .int (-1), .int 0, .int 0, .int 0, .int 0, .int 0])), (dr, .inr (5, [.int 0, .int 0, .int 0, .int 0, .int 0, .int 0, p4, p5, p6])), (tp, .inr (11, [ty, .int 0, .int 0, .int 0, .int 0, .int 0]))] := hD
  refine lv_aload_n hx hb dX5_readLaws_34 rfl (lv_at hl 0 rfl) ?_
  refine lv_iconst (v := 0) hx hb dX5_readLaws_35 (by decide) ?_
  refine va_put (D := gD G) (ci := 6) (v := .int 0) (ty := tyX5 6) (C := RX5) (T := TX5) (N := 14) hx hb hts (fun _ h9 => (List.mem_cons_of_mem _ (List.mem_append_right _ (List.mem_append_left _ h9)))) tyX5 tyX5_ok nmX5 hown hK hP hD hS 0 rfl rfl 6 (by decide) (hts (.fieldLink RX5 58 "JudoHall$Parser" "open" "I") (List.mem_cons_of_mem _ (List.mem_append_left _ (List.mem_of_getElem? (i := 14) rfl)))) (fun _ h9 => h9) rfl (tyX5_ok 6 (by decide)) rfl rfl (Nat.le_of_ble_eq_true rfl) dX5_readLaws_36 (fun H locs hP hD hS => ?_)
  have hP : va_P (gD G) vwCl [(ps, .inr (6, [.ref tp, p1, p2, p3, .ref dr, .int 0, .int 0, .int 0, .int (-1), .int 0, .int 0, .int 0, .int 0, .int 0])), (dr, .inr (5, [.int 0, .int 0, .int 0, .int 0, .int 0, .int 0, p4, p5, p6])), (tp, .inr (11, [ty, .int 0, .int 0, .int 0, .int 0, .int 0]))] H := hP
  have hD : va_D A [(ps, .inr (6, [.ref tp, p1, p2, p3, .ref dr, .int 0, .int 0, .int 0, .int (-1), .int 0, .int 0, .int 0, .int 0, .int 0])), (dr, .inr (5, [.int 0, .int 0, .int 0, .int 0, .int 0, .int 0, p4, p5, p6])), (tp, .inr (11, [ty, .int 0, .int 0, .int 0, .int 0, .int 0]))] := hD
  refine lv_aload_n hx hb dX5_readLaws_39 rfl (lv_at hl 0 rfl) ?_
  refine lv_iconst (v := 0) hx hb dX5_readLaws_40 (by decide) ?_
  refine va_put (D := gD G) (ci := 6) (v := .int 0) (ty := tyX5 7) (C := RX5) (T := TX5) (N := 14) hx hb hts (fun _ h9 => (List.mem_cons_of_mem _ (List.mem_append_right _ (List.mem_append_left _ h9)))) tyX5 tyX5_ok nmX5 hown hK hP hD hS 0 rfl rfl 7 (by decide) (hts (.fieldLink RX5 61 "JudoHall$Parser" "brackets" "I") (List.mem_cons_of_mem _ (List.mem_append_left _ (List.mem_of_getElem? (i := 15) rfl)))) (fun _ h9 => h9) rfl (tyX5_ok 7 (by decide)) rfl rfl (Nat.le_of_ble_eq_true rfl) dX5_readLaws_41 (fun H locs hP hD hS => ?_)
  have hP : va_P (gD G) vwCl [(ps, .inr (6, [.ref tp, p1, p2, p3, .ref dr, .int 0, .int 0, .int 0, .int (-1), .int 0, .int 0, .int 0, .int 0, .int 0])), (dr, .inr (5, [.int 0, .int 0, .int 0, .int 0, .int 0, .int 0, p4, p5, p6])), (tp, .inr (11, [ty, .int 0, .int 0, .int 0, .int 0, .int 0]))] H := hP
  have hD : va_D A [(ps, .inr (6, [.ref tp, p1, p2, p3, .ref dr, .int 0, .int 0, .int 0, .int (-1), .int 0, .int 0, .int 0, .int 0, .int 0])), (dr, .inr (5, [.int 0, .int 0, .int 0, .int 0, .int 0, .int 0, p4, p5, p6])), (tp, .inr (11, [ty, .int 0, .int 0, .int 0, .int 0, .int 0]))] := hD
  refine lv_iconst (v := 0) hx hb dX5_readLaws_44 (by decide) ?_
  refine lv_istore_n (lv' := [(1, .int 0), (0, .ref ps)]) hx hb dX5_readLaws_45 rfl hl (by decide) rfl (fun ls hl => ?_)
  refine lv_iload_n hx hb dX5_readLaws_46 rfl (lv_at hl 0 rfl) ?_
  refine lv_sipush (v := 3000) hx hb dX5_readLaws_47 (by decide) ?_
  refine lv_icmp_gt (tgt := 93) hx hb dX5_readLaws_50 (by decide) (fun c9 => absurd c9 (by decide)) (fun _ => ?_)
  refine lv_aload_n hx hb dX5_readLaws_53 rfl (lv_at hl 1 rfl) ?_
  refine va_get (D := gD G) (ci := 6) (v := .int 0) (C := RX5) (T := TX5) (N := 14) hx hb hts (fun _ h9 => (List.mem_cons_of_mem _ (List.mem_append_right _ (List.mem_append_left _ h9)))) hown hK hP 0 rfl rfl 9 (by decide) (hts (.fieldLink RX5 49 "JudoHall$Parser" "fault" "I") (List.mem_cons_of_mem _ (List.mem_append_left _ (List.mem_of_getElem? (i := 10) rfl)))) (fun _ h9 => h9) rfl dX5_readLaws_54 ?_
  refine lv_if_ne (tgt := 93) hx hb dX5_readLaws_57 (by decide) (fun c9 => absurd (by decide) c9) (fun _ => ?_)
  refine lv_aload_n hx hb dX5_readLaws_60 rfl (lv_at hl 1 rfl) ?_
  refine va_get (D := gD G) (ci := 6) (v := .int 0) (C := RX5) (T := TX5) (N := 14) hx hb hts (fun _ h9 => (List.mem_cons_of_mem _ (List.mem_append_right _ (List.mem_append_left _ h9)))) hown hK hP 0 rfl rfl 10 (by decide) (hts (.fieldLink RX5 52 "JudoHall$Parser" "where" "I") (List.mem_cons_of_mem _ (List.mem_append_left _ (List.mem_of_getElem? (i := 12) rfl)))) (fun _ h9 => h9) rfl dX5_readLaws_61 ?_
  refine lv_bipush (v := 17) hx hb dX5_readLaws_64 (by decide) ?_
  refine lv_icmp_eq (tgt := 93) hx hb dX5_readLaws_66 (by decide) (fun c9 => absurd c9 (by decide)) (fun _ => ?_)
  refine lv_aload_n hx hb dX5_readLaws_69 rfl (lv_at hl 1 rfl) ?_
  refine va_get (D := gD G) (ci := 6) (v := .ref tp) (C := RX5) (T := TX5) (N := 14) hx hb hts (fun _ h9 => (List.mem_cons_of_mem _ (List.mem_append_right _ (List.mem_append_left _ h9)))) hown hK hP 0 rfl rfl 0 (by decide) (hts (.fieldLink RX5 9 "JudoHall$Parser" "tape" "LJudoHall$Tape;") (List.mem_cons_of_mem _ (List.mem_append_left _ (List.mem_of_getElem? (i := 5) rfl)))) (fun _ h9 => h9) rfl dX5_readLaws_70 ?_
  have hPc := hP.sub (ws' := [(tp, .inr (11, [ty, .int 0, .int 0, .int 0, .int 0, .int 0]))]) [2] rfl
  have hDc := hD.sub (ws' := [(tp, .inr (11, [ty, .int 0, .int 0, .int 0, .int 0, .int 0]))]) [2] (by decide) rfl
  have hFc := va_free (wc := [(tp, .inr (11, [ty, .int 0, .int 0, .int 0, .int 0, .int 0]))]) hD hS hA [2] rfl
  refine va_callv (va_runV (As := []) (rest := []) ⟨hx, hb, hml, hown, hts⟩ (c_readToken l G tp ty H.size) (cwV 0 hts (gdV (List.mem_cons_of_mem _ (List.mem_append_left _ (List.mem_of_getElem? (i := 16) rfl))) (List.mem_cons_of_mem _ (List.mem_append_left _ (List.mem_of_getElem? (i := 17) rfl))) (List.mem_cons_of_mem _ (List.mem_append_left _ (List.mem_of_getElem? (i := 18) rfl))) (List.mem_cons_of_mem _ (List.mem_append_left _ (List.mem_of_getElem? (i := 9) rfl))) (fun w9 h9 => ⟨(List.mem_cons_of_mem _ (List.mem_append_right _ (List.mem_append_right _ (List.mem_append_right _ (List.mem_append_right _ (List.mem_append_left _ h9)))))), gd_c_readToken w9 h9⟩)) rfl rfl rfl kVX10_readToken ⟨Nat.le_of_ble_eq_true rfl, Nat.le_of_ble_eq_true rfl⟩) (preV_m (As := []) hPc hB hDc rfl rfl) rfl rfl hl.1 rfl (lv_room (Nat.le_of_ble_eq_true rfl)) dX5_readLaws_73 ⟨Nat.le_of_ble_eq_true rfl, Nat.le_of_ble_eq_true rfl⟩) hS (fun q _ h => hFc q h) hFc (fun u t H1 locs ht hvm hw hB1 hz1 hk1 hS => ?_)
  obtain ⟨hP1, hD1⟩ := hB1
  rw [ht] at hP1
  obtain ⟨hP, hD⟩ := va_join (wr := [(ps, .inr (6, [.ref tp, p1, p2, p3, .ref dr, .int 0, .int 0, .int 0, .int (-1), .int 0, .int 0, .int 0, .int 0, .int 0])), (dr, .inr (5, [.int 0, .int 0, .int 0, .int 0, .int 0, .int 0, p4, p5, p6]))]) (w1 := [(tp, .inr (11, [ty, .int 0, .int 0, .int 0, .int 0, .int 0]))]) hP hD [2] [0, 1] rfl rfl (by decide) (by decide) hk1 hFc hP1 hD1
  generalize H1 = H at hP hS ⊢
  have hP : va_P (gD G) vwCl [(ps, .inr (6, [.ref tp, p1, p2, p3, .ref dr, .int 0, .int 0, .int 0, .int (-1), .int 0, .int 0, .int 0, .int 0, .int 0])), (dr, .inr (5, [.int 0, .int 0, .int 0, .int 0, .int 0, .int 0, p4, p5, p6])), (tp, .inr (11, [ty, .int 0, .int 0, .int 0, .int 0, .int 0]))] H := hP
  have hD : va_D A [(ps, .inr (6, [.ref tp, p1, p2, p3, .ref dr, .int 0, .int 0, .int 0, .int (-1), .int 0, .int 0, .int 0, .int 0, .int 0])), (dr, .inr (5, [.int 0, .int 0, .int 0, .int 0, .int 0, .int 0, p4, p5, p6])), (tp, .inr (11, [ty, .int 0, .int 0, .int 0, .int 0, .int 0]))] := hD
  refine W.eq (g2 := F0 m 76 ls []) rfl ?_
  refine lv_aload_n hx hb dX5_readLaws_76 rfl (lv_at hl 1 rfl) ?_
  refine lv_aload_n hx hb dX5_readLaws_77 rfl (lv_at hl 1 rfl) ?_
  refine va_get (D := gD G) (ci := 6) (v := .ref tp) (C := RX5) (T := TX5) (N := 14) hx hb hts (fun _ h9 => (List.mem_cons_of_mem _ (List.mem_append_right _ (List.mem_append_left _ h9)))) hown hK hP 0 rfl rfl 0 (by decide) (hts (.fieldLink RX5 9 "JudoHall$Parser" "tape" "LJudoHall$Tape;") (List.mem_cons_of_mem _ (List.mem_append_left _ (List.mem_of_getElem? (i := 5) rfl)))) (fun _ h9 => h9) rfl dX5_readLaws_78 ?_
  refine va_getN (D := gD G) (ci := 11) (v := .int 0) (C := RX10) (T := TX10) (N := 6) hx hb hts (fun _ h9 => (List.mem_cons_of_mem _ (List.mem_append_right _ (List.mem_append_right _ (List.mem_append_right _ (List.mem_append_right _ (List.mem_append_right _ (List.mem_append_left _ h9)))))))) hown hK hP 2 rfl rfl 3 (by decide) (hB.nf 12 rfl) (fun _ h9 => h9) rfl dX5_readLaws_81 ?_
  have hPc := hP.sub (ws' := [(ps, .inr (6, [.ref tp, p1, p2, p3, .ref dr, .int 0, .int 0, .int 0, .int (-1), .int 0, .int 0, .int 0, .int 0, .int 0])), (tp, .inr (11, [ty, .int 0, .int 0, .int 0, .int 0, .int 0]))]) [0, 2] rfl
  have hDc := hD.sub (ws' := [(ps, .inr (6, [.ref tp, p1, p2, p3, .ref dr, .int 0, .int 0, .int 0, .int (-1), .int 0, .int 0, .int 0, .int 0, .int 0])), (tp, .inr (11, [ty, .int 0, .int 0, .int 0, .int 0, .int 0]))]) [0, 2] (by decide) rfl
  have hFc := va_free (wc := [(ps, .inr (6, [.ref tp, p1, p2, p3, .ref dr, .int 0, .int 0, .int 0, .int (-1), .int 0, .int 0, .int 0, .int 0, .int 0])), (tp, .inr (11, [ty, .int 0, .int 0, .int 0, .int 0, .int 0]))]) hD hS hA [0, 2] rfl
  refine va_callv (va_runV (As := [.int 0]) (rest := []) ⟨hx, hb, hml, hown, hts⟩ (c_take l G Z ps tp dr p1 p2 p3 ty H.size) (cwV 1 hts (gdV (List.mem_cons_of_mem _ (List.mem_append_left _ (List.mem_of_getElem? (i := 19) rfl))) (List.mem_cons_of_mem _ (List.mem_append_left _ (List.mem_of_getElem? (i := 20) rfl))) (List.mem_cons_of_mem _ (List.mem_append_left _ (List.mem_of_getElem? (i := 21) rfl))) (List.mem_cons_of_mem _ (List.mem_append_left _ (List.mem_of_getElem? (i := 22) rfl))) (fun w9 h9 => ⟨(List.mem_cons_of_mem _ (List.mem_append_right _ (List.mem_append_right _ (List.mem_append_right _ (List.mem_append_right _ (List.mem_append_right _ (List.mem_append_right _ (List.mem_append_left _ h9)))))))), gd_c_take w9 h9⟩)) rfl rfl rfl kVX5_take ⟨Nat.le_of_ble_eq_true rfl, Nat.le_of_ble_eq_true rfl⟩) (preV_e (As := [.int 0]) hPc hB hDc ((hE.kept hS.2.1).narrow hFc) rfl rfl) rfl rfl hl.1 rfl (lv_room (Nat.le_of_ble_eq_true rfl)) dX5_readLaws_84 ⟨Nat.le_of_ble_eq_true rfl, Nat.le_of_ble_eq_true rfl⟩) hS (fun q _ h => hFc q h) hFc (fun u t H1 locs ht hvm hw hB1 hz1 hk1 hS => ?_)
  obtain ⟨hP1, hD1⟩ := hB1
  rw [ht] at hP1
  obtain ⟨hP, hD⟩ := va_join (wr := [(dr, .inr (5, [.int 0, .int 0, .int 0, .int 0, .int 0, .int 0, p4, p5, p6]))]) (w1 := [(ps, .inr (6, [.ref tp, p1, p2, p3, .ref dr, .int 0, .int 0, .int 0, .int 0, .int 1, .int 0, .int 0, .int 0, .int 0])), (tp, .inr (11, [ty, .int 0, .int 0, .int 0, .int 0, .int 0]))]) hP hD [0, 2] [1] rfl rfl (by decide) (by decide) hk1 hFc hP1 hD1
  generalize H1 = H at hP hS ⊢
  have hP : va_P (gD G) vwCl [(dr, .inr (5, [.int 0, .int 0, .int 0, .int 0, .int 0, .int 0, p4, p5, p6])), (ps, .inr (6, [.ref tp, p1, p2, p3, .ref dr, .int 0, .int 0, .int 0, .int 0, .int 1, .int 0, .int 0, .int 0, .int 0])), (tp, .inr (11, [ty, .int 0, .int 0, .int 0, .int 0, .int 0]))] H := hP
  have hD : va_D A [(dr, .inr (5, [.int 0, .int 0, .int 0, .int 0, .int 0, .int 0, p4, p5, p6])), (ps, .inr (6, [.ref tp, p1, p2, p3, .ref dr, .int 0, .int 0, .int 0, .int 0, .int 1, .int 0, .int 0, .int 0, .int 0])), (tp, .inr (11, [ty, .int 0, .int 0, .int 0, .int 0, .int 0]))] := hD
  refine W.eq (g2 := F0 m 87 ls []) rfl ?_
  refine lv_iinc (v := 1) (lv' := [(1, .int 1), (0, .ref ps)]) hx hb dX5_readLaws_87 hl (k := 0) rfl (by decide) (by decide) rfl (fun ls hl => ?_)
  refine lv_goto (tgt := 46) hx hb dX5_readLaws_90 (by decide) ?_
  refine lv_iload_n hx hb dX5_readLaws_46 rfl (lv_at hl 0 rfl) ?_
  refine lv_sipush (v := 3000) hx hb dX5_readLaws_47 (by decide) ?_
  refine lv_icmp_gt (tgt := 93) hx hb dX5_readLaws_50 (by decide) (fun c9 => absurd c9 (by decide)) (fun _ => ?_)
  refine lv_aload_n hx hb dX5_readLaws_53 rfl (lv_at hl 1 rfl) ?_
  refine va_get (D := gD G) (ci := 6) (v := .int 1) (C := RX5) (T := TX5) (N := 14) hx hb hts (fun _ h9 => (List.mem_cons_of_mem _ (List.mem_append_right _ (List.mem_append_left _ h9)))) hown hK hP 1 rfl rfl 9 (by decide) (hts (.fieldLink RX5 49 "JudoHall$Parser" "fault" "I") (List.mem_cons_of_mem _ (List.mem_append_left _ (List.mem_of_getElem? (i := 10) rfl)))) (fun _ h9 => h9) rfl dX5_readLaws_54 ?_
  refine lv_if_ne (tgt := 93) hx hb dX5_readLaws_57 (by decide) (fun _ => ?_) (fun c9 => absurd c9 (by decide))
  refine lv_aload_n hx hb dX5_readLaws_93 rfl (lv_at hl 1 rfl) ?_
  refine va_get (D := gD G) (ci := 6) (v := .int 1) (C := RX5) (T := TX5) (N := 14) hx hb hts (fun _ h9 => (List.mem_cons_of_mem _ (List.mem_append_right _ (List.mem_append_left _ h9)))) hown hK hP 1 rfl rfl 9 (by decide) (hts (.fieldLink RX5 49 "JudoHall$Parser" "fault" "I") (List.mem_cons_of_mem _ (List.mem_append_left _ (List.mem_of_getElem? (i := 10) rfl)))) (fun _ h9 => h9) rfl dX5_readLaws_94 ?_
  refine lv_if_ne (tgt := 104) hx hb dX5_readLaws_97 (by decide) (fun _ => ?_) (fun c9 => absurd c9 (by decide))
  refine lv_iconst (v := 0) hx hb dX5_readLaws_104 (by decide) ?_
  have hP9 := hP.sub (ws' := [(tp, .inr (11, [ty, .int 0, .int 0, .int 0, .int 0, .int 0]))]) [2] rfl
  have hD9 := hD.sub (ws' := [(tp, .inr (11, [ty, .int 0, .int 0, .int 0, .int 0, .int 0]))]) [2] (by decide) rfl
  exact W.zret (v := 0) hx hb hr rfl (fun t ht hW => ⟨⟨_, (), rfl, rfl, by rw [ht]; exact hP9, hD9⟩, hS.F ht⟩) hS.2.2 dX5_readLaws_105

def wo_c_Pl_clear : List Cond := [.fieldLink RX6 48 "JudoHall$Planner" "newMats" "LJudoHall$Row;", .methodLink RX6 109 yX9_fill, .instanceMethod yX9_fill, .selects RX9 yX9_fill yX9_fill, .initialized RX9, .fieldLink RX6 51 "JudoHall$Planner" "newBegins" "LJudoHall$Row;", .fieldLink RX6 30 "JudoHall$Planner" "ends" "LJudoHall$Row;", .fieldLink RX6 9 "JudoHall$Planner" "book" "LJudoHall$Book;", .methodLink RX6 81 yX1_at, .instanceMethod yX1_at, .selects RX1 yX1_at yX1_at, .initialized RX1, .fieldLink RX6 102 "JudoHall$Planner" "lastEnd" "I", .fieldLink RX6 33 "JudoHall$Planner" "matFree" "LJudoHall$Row;"]
def wq_c_Pl_clear : List Cond := .code yX6_clear cX6_clear 3 none :: (wo_c_Pl_clear ++ (wsX60 ++ (wq_c_Row_fill ++ (wq_c_Book_at ++ []))))
theorem gd_c_Pl_clear : ∀ w ∈ wq_c_Pl_clear, Gd w := List.forall_mem_cons.mpr ⟨Or.inl rfl, List.forall_mem_append.mpr ⟨gdl wo_c_Pl_clear (by decide +kernel), (List.forall_mem_append.mpr ⟨gd_wsX60, (List.forall_mem_append.mpr ⟨gd_c_Row_fill, (List.forall_mem_append.mpr ⟨gd_c_Book_at, (fun _ h => absurd h List.not_mem_nil)⟩)⟩)⟩)⟩⟩
theorem in_c_Pl_clear : ∀ w ∈ wq_c_Pl_clear, w ∈ lw_tbl := List.forall_mem_cons.mpr ⟨List.mem_of_getElem? (i := 1442) (by decide +kernel), List.forall_mem_append.mpr ⟨inT wo_c_Pl_clear [493, 1443, 1092, 1093, 156, 494, 487, 484, 1444, 623, 624, 155, 497, 488] (by decide +kernel), (List.forall_mem_append.mpr ⟨in_wsX60, (List.forall_mem_append.mpr ⟨in_c_Row_fill, (List.forall_mem_append.mpr ⟨in_c_Book_at, (fun _ h => absurd h List.not_mem_nil)⟩)⟩)⟩)⟩⟩
set_option maxHeartbeats 4000000 in
set_option maxRecDepth 100000 in
theorem c_Pl_clear (l : Launch) (G : gG) (pn : Nat) (bk : Nat) (bd : Nat) (n1 : Value) (pe : Nat) (pm : Nat) (n2 : Value) (n3 : Value) (pt : Nat) (pb : Nat) (px : Nat) (pg : Nat) (ca : Nat) (v1 : Value) (v2 : Value) (v3 : Value) (v4 : Value) (v5 : Value) (pe2 : Nat) (pm2 : Nat) (px2 : Nat) (pg2 : Nat) (fe : Nat → Int32) (fm : Nat → Int32) (fx : Nat → Int32) (fg : Nat → Int32) (y : Int32) (sz : Nat) : Met l yX6_clear wq_c_Pl_clear ({ frames := 2, cells := 0, slots := 0, locals := 44 }) (va_Pc [.ref pn] (mP G [(pn, .inr (7, [.ref bk, .ref bd, n1, .ref pe, .ref pm, n2, n3, .ref pt, .ref pb, .ref px, .ref pg, .int 0, .int y, .int 0])), (bk, .inr (2, [.ref ca, v1, v2, v3, v4, v5])), (ca, .inl (gI G, 2088, .inl bk0)), (pe, .inr (10, [.ref pe2])), (pe2, .inl (gI G, 148, .inl fe)), (pm, .inr (10, [.ref pm2])), (pm2, .inl (gI G, 4, .inl fm)), (px, .inr (10, [.ref px2])), (px2, .inl (gI G, 148, .inl fx)), (pg, .inr (10, [.ref pg2])), (pg2, .inl (gI G, 148, .inl fg))] sz)) (va_Qv (fun _ : Unit => True) (fun (_ : Unit) (t : State) => va_P (gD G) vwCl [(pn, .inr (7, [.ref bk, .ref bd, n1, .ref pe, .ref pm, n2, n3, .ref pt, .ref pb, .ref px, .ref pg, .int 0, .int y, .int 0])), (bk, .inr (2, [.ref ca, v1, v2, v3, v4, v5])), (ca, .inl (gI G, 2088, .inl bk0))] t.heap ∧ va_D (va_A [(pn, .inr (7, [.ref bk, .ref bd, n1, .ref pe, .ref pm, n2, n3, .ref pt, .ref pb, .ref px, .ref pg, .int 0, .int y, .int 0])), (bk, .inr (2, [.ref ca, v1, v2, v3, v4, v5])), (ca, .inl (gI G, 2088, .inl bk0)), (pe, .inr (10, [.ref pe2])), (pe2, .inl (gI G, 148, .inl fe)), (pm, .inr (10, [.ref pm2])), (pm2, .inl (gI G, 4, .inl fm)), (px, .inr (10, [.ref px2])), (px2, .inl (gI G, 148, .inl fx)), (pg, .inr (10, [.ref pg2])), (pg2, .inl (gI G, 148, .inl fg))] sz) [(pn, .inr (7, [.ref bk, .ref bd, n1, .ref pe, .ref pm, n2, n3, .ref pt, .ref pb, .ref px, .ref pg, .int 0, .int y, .int 0])), (bk, .inr (2, [.ref ca, v1, v2, v3, v4, v5])), (ca, .inl (gI G, 2088, .inl bk0))]) (va_A [(pn, .inr (7, [.ref bk, .ref bd, n1, .ref pe, .ref pm, n2, n3, .ref pt, .ref pb, .ref px, .ref pg, .int 0, .int y, .int 0])), (bk, .inr (2, [.ref ca, v1, v2, v3, v4, v5])), (ca, .inl (gI G, 2088, .inl bk0)), (pe, .inr (10, [.ref pe2])), (pe2, .inl (gI G, 148, .inl fe)), (pm, .inr (10, [.ref pm2])), (pm2, .inl (gI G, 4, .inl fm)), (px, .inr (10, [.ref px2])), (px2, .inl (gI G, 148, .inl fx)), (pg, .inr (10, [.ref pg2])), (pg2, .inl (gI G, 148, .inl fg))] sz)) 0 0 (va_A [(pn, .inr (7, [.ref bk, .ref bd, n1, .ref pe, .ref pm, n2, n3, .ref pt, .ref pb, .ref px, .ref pg, .int 0, .int y, .int 0])), (bk, .inr (2, [.ref ca, v1, v2, v3, v4, v5])), (ca, .inl (gI G, 2088, .inl bk0)), (pe, .inr (10, [.ref pe2])), (pe2, .inl (gI G, 148, .inl fe)), (pm, .inr (10, [.ref pm2])), (pm2, .inl (gI G, 4, .inl fm)), (px, .inr (10, [.ref px2])), (px2, .inl (gI G, 148, .inl fx)), (pg, .inr (10, [.ref pg2])), (pg2, .inl (gI G, 148, .inl fg))] sz) := by
  refine Met.ofW (cc := cX6_clear) (maxL := 3) (ret := none) (by decide) rfl ?_
  intro p e s m args below meth c s₁ B hml hv
  obtain ⟨rfl, hsz, hP, hB, hD0⟩ := hv
  have hx := B.exec
  have hb := B.bytes
  have hr := B.returns
  have hts := atoms_spec (ws := wq_c_Pl_clear) B.pre
  have hown : s.vm.findClass RX6 = some m.cls := findClass_of_methodNamed B.named
  have hlocks := B.notSynchronized
  have hK := hB.1
  subst hsz
  have hD := hD0.self (sz := s.heap.size)
  generalize hAe : va_A [(pn, .inr (7, [.ref bk, .ref bd, n1, .ref pe, .ref pm, n2, n3, .ref pt, .ref pb, .ref px, .ref pg, .int 0, .int y, .int 0])), (bk, .inr (2, [.ref ca, v1, v2, v3, v4, v5])), (ca, .inl (gI G, 2088, .inl bk0)), (pe, .inr (10, [.ref pe2])), (pe2, .inl (gI G, 148, .inl fe)), (pm, .inr (10, [.ref pm2])), (pm2, .inl (gI G, 4, .inl fm)), (px, .inr (10, [.ref px2])), (px2, .inl (gI G, 148, .inl fx)), (pg, .inr (10, [.ref pg2])), (pg2, .inl (gI G, 148, .inl fg))] s.heap.size = A at hD ⊢
  have hA : ∀ q : Nat, s.heap.size ≤ q → A q := fun q h => by rw [← hAe]; exact Or.inr h
  have hS : va_S A s.heap s.heap [] := va_S.rf
  have hP : va_P (gD G) vwCl [(pn, .inr (7, [.ref bk, .ref bd, n1, .ref pe, .ref pm, n2, n3, .ref pt, .ref pb, .ref px, .ref pg, .int 0, .int y, .int 0])), (bk, .inr (2, [.ref ca, v1, v2, v3, v4, v5])), (ca, .inl (gI G, 2088, .inl bk0)), (pe, .inr (10, [.ref pe2])), (pe2, .inl (gI G, 148, .inl fe)), (pm, .inr (10, [.ref pm2])), (pm2, .inl (gI G, 4, .inl fm)), (px, .inr (10, [.ref px2])), (px2, .inl (gI G, 148, .inl fx)), (pg, .inr (10, [.ref pg2])), (pg2, .inl (gI G, 148, .inl fg))] s.heap := hP
  have hD : va_D A [(pn, .inr (7, [.ref bk, .ref bd, n1, .ref pe, .ref pm, n2, n3, .ref pt, .ref pb, .ref px, .ref pg, .int 0, .int y, .int 0])), (bk, .inr (2, [.ref ca, v1, v2, v3, v4, v5])), (ca, .inl (gI G, 2088, .inl bk0)), (pe, .inr (10, [.ref pe2])), (pe2, .inl (gI G, 148, .inl fe)), (pm, .inr (10, [.ref pm2])), (pm2, .inl (gI G, 4, .inl fm)), (px, .inr (10, [.ref px2])), (px2, .inl (gI G, 148, .inl fx)), (pg, .inr (10, [.ref pg2])), (pg2, .inl (gI G, 148, .inl fg))] := hD
  have hl := lv_entry ([.ref pn]) (n := 3) (Nat.le_of_ble_eq_true rfl)
  rw [lg_entry_eq]
  generalize (lg_sl ([.ref pn]) ++ List.replicate (3 - (lg_sl ([.ref pn])).length) Slot.unset).toArray = ls at hl ⊢
  have hl : lv_has ls 3 [(0, .ref pn)] := hl
  refine lv_aload_n hx hb dX6_clear_0 rfl (lv_at hl 0 rfl) ?_
  refine va_get (D := gD G) (ci := 7) (v := .ref px) (C := RX6) (T := TX6) (N := 14) hx hb hts (fun _ h9 => (List.mem_cons_of_mem _ (List.mem_append_right _ (List.mem_append_left _ h9)))) hown hK hP 0 rfl rfl 9 (by decide) (hts (.fieldLink RX6 48 "JudoHall$Planner" "newMats" "LJudoHall$Row;") (List.mem_cons_of_mem _ (List.mem_append_left _ (List.mem_of_getElem? (i := 0) rfl)))) (fun _ h9 => h9) rfl dX6_clear_1 ?_
  refine lv_iconst (v := (-1)) hx hb dX6_clear_4 (by decide) ?_
  have hPc := hP.sub (ws' := [(px, .inr (10, [.ref px2])), (px2, .inl (gI G, 148, .inl fx))]) [7, 8] rfl
  have hDc := hD.sub (ws' := [(px, .inr (10, [.ref px2])), (px2, .inl (gI G, 148, .inl fx))]) [7, 8] (by decide) rfl
  have hFc := va_free (wc := [(px, .inr (10, [.ref px2])), (px2, .inl (gI G, 148, .inl fx))]) hD hS hA [7, 8] rfl
  refine va_callv (va_runV (As := [.int (-1)]) (rest := []) ⟨hx, hb, hml, hown, hts⟩ (c_Row_fill l G px px2 148 fx (-1) s.heap.size (by decide)) (cwV 1 hts (gdV (List.mem_cons_of_mem _ (List.mem_append_left _ (List.mem_of_getElem? (i := 1) rfl))) (List.mem_cons_of_mem _ (List.mem_append_left _ (List.mem_of_getElem? (i := 2) rfl))) (List.mem_cons_of_mem _ (List.mem_append_left _ (List.mem_of_getElem? (i := 3) rfl))) (List.mem_cons_of_mem _ (List.mem_append_left _ (List.mem_of_getElem? (i := 4) rfl))) (fun w9 h9 => ⟨(List.mem_cons_of_mem _ (List.mem_append_right _ (List.mem_append_right _ (List.mem_append_left _ h9)))), gd_c_Row_fill w9 h9⟩)) rfl rfl rfl kVX9_fill ⟨Nat.le_of_ble_eq_true rfl, Nat.le_of_ble_eq_true rfl⟩) (preV_m (As := [.int (-1)]) hPc hB hDc rfl rfl) rfl rfl hl.1 rfl (lv_room (Nat.le_of_ble_eq_true rfl)) dX6_clear_5 ⟨Nat.le_of_ble_eq_true rfl, Nat.le_of_ble_eq_true rfl⟩) hS (fun q _ h => hFc q h) hFc (fun u t H1 locs ht hvm hw hB1 hz1 hk1 hS => ?_)
  obtain ⟨hP1, hD1⟩ := hB1
  rw [ht] at hP1
  obtain ⟨hP, hD⟩ := va_join (wr := [(pn, .inr (7, [.ref bk, .ref bd, n1, .ref pe, .ref pm, n2, n3, .ref pt, .ref pb, .ref px, .ref pg, .int 0, .int y, .int 0])), (bk, .inr (2, [.ref ca, v1, v2, v3, v4, v5])), (ca, .inl (gI G, 2088, .inl bk0)), (pe, .inr (10, [.ref pe2])), (pe2, .inl (gI G, 148, .inl fe)), (pm, .inr (10, [.ref pm2])), (pm2, .inl (gI G, 4, .inl fm)), (pg, .inr (10, [.ref pg2])), (pg2, .inl (gI G, 148, .inl fg))]) (w1 := [(px, .inr (10, [.ref px2])), (px2, .inl (gI G, 148, .inl (fl 148 (-1) fx)))]) hP hD [7, 8] [0, 1, 2, 3, 4, 5, 6, 9, 10] rfl rfl (by decide) (by decide) hk1 hFc hP1 hD1
  generalize H1 = H at hP hS ⊢
  have hP : va_P (gD G) vwCl [(pn, .inr (7, [.ref bk, .ref bd, n1, .ref pe, .ref pm, n2, n3, .ref pt, .ref pb, .ref px, .ref pg, .int 0, .int y, .int 0])), (bk, .inr (2, [.ref ca, v1, v2, v3, v4, v5])), (ca, .inl (gI G, 2088, .inl bk0)), (pe, .inr (10, [.ref pe2])), (pe2, .inl (gI G, 148, .inl fe)), (pm, .inr (10, [.ref pm2])), (pm2, .inl (gI G, 4, .inl fm)), (pg, .inr (10, [.ref pg2])), (pg2, .inl (gI G, 148, .inl fg)), (px, .inr (10, [.ref px2])), (px2, .inl (gI G, 148, .inl (fl 148 (-1) fx)))] H := hP
  have hD : va_D A [(pn, .inr (7, [.ref bk, .ref bd, n1, .ref pe, .ref pm, n2, n3, .ref pt, .ref pb, .ref px, .ref pg, .int 0, .int y, .int 0])), (bk, .inr (2, [.ref ca, v1, v2, v3, v4, v5])), (ca, .inl (gI G, 2088, .inl bk0)), (pe, .inr (10, [.ref pe2])), (pe2, .inl (gI G, 148, .inl fe)), (pm, .inr (10, [.ref pm2])), (pm2, .inl (gI G, 4, .inl fm)), (pg, .inr (10, [.ref pg2])), (pg2, .inl (gI G, 148, .inl fg)), (px, .inr (10, [.ref px2])), (px2, .inl (gI G, 148, .inl (fl 148 (-1) fx)))] := hD
  refine W.eq (g2 := F0 m 8 ls []) rfl ?_
  refine lv_aload_n hx hb dX6_clear_8 rfl (lv_at hl 0 rfl) ?_
  refine va_get (D := gD G) (ci := 7) (v := .ref pg) (C := RX6) (T := TX6) (N := 14) hx hb hts (fun _ h9 => (List.mem_cons_of_mem _ (List.mem_append_right _ (List.mem_append_left _ h9)))) hown hK hP 0 rfl rfl 10 (by decide) (hts (.fieldLink RX6 51 "JudoHall$Planner" "newBegins" "LJudoHall$Row;") (List.mem_cons_of_mem _ (List.mem_append_left _ (List.mem_of_getElem? (i := 5) rfl)))) (fun _ h9 => h9) rfl dX6_clear_9 ?_
  refine lv_iconst (v := (-1)) hx hb dX6_clear_12 (by decide) ?_
  have hPc := hP.sub (ws' := [(pg, .inr (10, [.ref pg2])), (pg2, .inl (gI G, 148, .inl fg))]) [7, 8] rfl
  have hDc := hD.sub (ws' := [(pg, .inr (10, [.ref pg2])), (pg2, .inl (gI G, 148, .inl fg))]) [7, 8] (by decide) rfl
  have hFc := va_free (wc := [(pg, .inr (10, [.ref pg2])), (pg2, .inl (gI G, 148, .inl fg))]) hD hS hA [7, 8] rfl
  refine va_callv (va_runV (As := [.int (-1)]) (rest := []) ⟨hx, hb, hml, hown, hts⟩ (c_Row_fill l G pg pg2 148 fg (-1) H.size (by decide)) (cwV 1 hts (gdV (List.mem_cons_of_mem _ (List.mem_append_left _ (List.mem_of_getElem? (i := 1) rfl))) (List.mem_cons_of_mem _ (List.mem_append_left _ (List.mem_of_getElem? (i := 2) rfl))) (List.mem_cons_of_mem _ (List.mem_append_left _ (List.mem_of_getElem? (i := 3) rfl))) (List.mem_cons_of_mem _ (List.mem_append_left _ (List.mem_of_getElem? (i := 4) rfl))) (fun w9 h9 => ⟨(List.mem_cons_of_mem _ (List.mem_append_right _ (List.mem_append_right _ (List.mem_append_left _ h9)))), gd_c_Row_fill w9 h9⟩)) rfl rfl rfl kVX9_fill ⟨Nat.le_of_ble_eq_true rfl, Nat.le_of_ble_eq_true rfl⟩) (preV_m (As := [.int (-1)]) hPc hB hDc rfl rfl) rfl rfl hl.1 rfl (lv_room (Nat.le_of_ble_eq_true rfl)) dX6_clear_13 ⟨Nat.le_of_ble_eq_true rfl, Nat.le_of_ble_eq_true rfl⟩) hS (fun q _ h => hFc q h) hFc (fun u t H1 locs ht hvm hw hB1 hz1 hk1 hS => ?_)
  obtain ⟨hP1, hD1⟩ := hB1
  rw [ht] at hP1
  obtain ⟨hP, hD⟩ := va_join (wr := [(pn, .inr (7, [.ref bk, .ref bd, n1, .ref pe, .ref pm, n2, n3, .ref pt, .ref pb, .ref px, .ref pg, .int 0, .int y, .int 0])), (bk, .inr (2, [.ref ca, v1, v2, v3, v4, v5])), (ca, .inl (gI G, 2088, .inl bk0)), (pe, .inr (10, [.ref pe2])), (pe2, .inl (gI G, 148, .inl fe)), (pm, .inr (10, [.ref pm2])), (pm2, .inl (gI G, 4, .inl fm)), (px, .inr (10, [.ref px2])), (px2, .inl (gI G, 148, .inl (fl 148 (-1) fx)))]) (w1 := [(pg, .inr (10, [.ref pg2])), (pg2, .inl (gI G, 148, .inl (fl 148 (-1) fg)))]) hP hD [7, 8] [0, 1, 2, 3, 4, 5, 6, 9, 10] rfl rfl (by decide) (by decide) hk1 hFc hP1 hD1
  generalize H1 = H at hP hS ⊢
  have hP : va_P (gD G) vwCl [(pn, .inr (7, [.ref bk, .ref bd, n1, .ref pe, .ref pm, n2, n3, .ref pt, .ref pb, .ref px, .ref pg, .int 0, .int y, .int 0])), (bk, .inr (2, [.ref ca, v1, v2, v3, v4, v5])), (ca, .inl (gI G, 2088, .inl bk0)), (pe, .inr (10, [.ref pe2])), (pe2, .inl (gI G, 148, .inl fe)), (pm, .inr (10, [.ref pm2])), (pm2, .inl (gI G, 4, .inl fm)), (px, .inr (10, [.ref px2])), (px2, .inl (gI G, 148, .inl (fl 148 (-1) fx))), (pg, .inr (10, [.ref pg2])), (pg2, .inl (gI G, 148, .inl (fl 148 (-1) fg)))] H := hP
  have hD : va_D A [(pn, .inr (7, [.ref bk, .ref bd, n1, .ref pe, .ref pm, n2, n3, .ref pt, .ref pb, .ref px, .ref pg, .int 0, .int y, .int 0])), (bk, .inr (2, [.ref ca, v1, v2, v3, v4, v5])), (ca, .inl (gI G, 2088, .inl bk0)), (pe, .inr (10, [.ref pe2])), (pe2, .inl (gI G, 148, .inl fe)), (pm, .inr (10, [.ref pm2])), (pm2, .inl (gI G, 4, .inl fm)), (px, .inr (10, [.ref px2])), (px2, .inl (gI G, 148, .inl (fl 148 (-1) fx))), (pg, .inr (10, [.ref pg2])), (pg2, .inl (gI G, 148, .inl (fl 148 (-1) fg)))] := hD
  refine W.eq (g2 := F0 m 16 ls []) rfl ?_
  refine lv_aload_n hx hb dX6_clear_16 rfl (lv_at hl 0 rfl) ?_
  refine va_get (D := gD G) (ci := 7) (v := .ref pe) (C := RX6) (T := TX6) (N := 14) hx hb hts (fun _ h9 => (List.mem_cons_of_mem _ (List.mem_append_right _ (List.mem_append_left _ h9)))) hown hK hP 0 rfl rfl 3 (by decide) (hts (.fieldLink RX6 30 "JudoHall$Planner" "ends" "LJudoHall$Row;") (List.mem_cons_of_mem _ (List.mem_append_left _ (List.mem_of_getElem? (i := 6) rfl)))) (fun _ h9 => h9) rfl dX6_clear_17 ?_
  refine lv_iconst (v := (-1)) hx hb dX6_clear_20 (by decide) ?_
  have hPc := hP.sub (ws' := [(pe, .inr (10, [.ref pe2])), (pe2, .inl (gI G, 148, .inl fe))]) [3, 4] rfl
  have hDc := hD.sub (ws' := [(pe, .inr (10, [.ref pe2])), (pe2, .inl (gI G, 148, .inl fe))]) [3, 4] (by decide) rfl
  have hFc := va_free (wc := [(pe, .inr (10, [.ref pe2])), (pe2, .inl (gI G, 148, .inl fe))]) hD hS hA [3, 4] rfl
  refine va_callv (va_runV (As := [.int (-1)]) (rest := []) ⟨hx, hb, hml, hown, hts⟩ (c_Row_fill l G pe pe2 148 fe (-1) H.size (by decide)) (cwV 1 hts (gdV (List.mem_cons_of_mem _ (List.mem_append_left _ (List.mem_of_getElem? (i := 1) rfl))) (List.mem_cons_of_mem _ (List.mem_append_left _ (List.mem_of_getElem? (i := 2) rfl))) (List.mem_cons_of_mem _ (List.mem_append_left _ (List.mem_of_getElem? (i := 3) rfl))) (List.mem_cons_of_mem _ (List.mem_append_left _ (List.mem_of_getElem? (i := 4) rfl))) (fun w9 h9 => ⟨(List.mem_cons_of_mem _ (List.mem_append_right _ (List.mem_append_right _ (List.mem_append_left _ h9)))), gd_c_Row_fill w9 h9⟩)) rfl rfl rfl kVX9_fill ⟨Nat.le_of_ble_eq_true rfl, Nat.le_of_ble_eq_true rfl⟩) (preV_m (As := [.int (-1)]) hPc hB hDc rfl rfl) rfl rfl hl.1 rfl (lv_room (Nat.le_of_ble_eq_true rfl)) dX6_clear_21 ⟨Nat.le_of_ble_eq_true rfl, Nat.le_of_ble_eq_true rfl⟩) hS (fun q _ h => hFc q h) hFc (fun u t H1 locs ht hvm hw hB1 hz1 hk1 hS => ?_)
  obtain ⟨hP1, hD1⟩ := hB1
  rw [ht] at hP1
  obtain ⟨hP, hD⟩ := va_join (wr := [(pn, .inr (7, [.ref bk, .ref bd, n1, .ref pe, .ref pm, n2, n3, .ref pt, .ref pb, .ref px, .ref pg, .int 0, .int y, .int 0])), (bk, .inr (2, [.ref ca, v1, v2, v3, v4, v5])), (ca, .inl (gI G, 2088, .inl bk0)), (pm, .inr (10, [.ref pm2])), (pm2, .inl (gI G, 4, .inl fm)), (px, .inr (10, [.ref px2])), (px2, .inl (gI G, 148, .inl (fl 148 (-1) fx))), (pg, .inr (10, [.ref pg2])), (pg2, .inl (gI G, 148, .inl (fl 148 (-1) fg)))]) (w1 := [(pe, .inr (10, [.ref pe2])), (pe2, .inl (gI G, 148, .inl (fl 148 (-1) fe)))]) hP hD [3, 4] [0, 1, 2, 5, 6, 7, 8, 9, 10] rfl rfl (by decide) (by decide) hk1 hFc hP1 hD1
  generalize H1 = H at hP hS ⊢
  have hP : va_P (gD G) vwCl [(pn, .inr (7, [.ref bk, .ref bd, n1, .ref pe, .ref pm, n2, n3, .ref pt, .ref pb, .ref px, .ref pg, .int 0, .int y, .int 0])), (bk, .inr (2, [.ref ca, v1, v2, v3, v4, v5])), (ca, .inl (gI G, 2088, .inl bk0)), (pm, .inr (10, [.ref pm2])), (pm2, .inl (gI G, 4, .inl fm)), (px, .inr (10, [.ref px2])), (px2, .inl (gI G, 148, .inl (fl 148 (-1) fx))), (pg, .inr (10, [.ref pg2])), (pg2, .inl (gI G, 148, .inl (fl 148 (-1) fg))), (pe, .inr (10, [.ref pe2])), (pe2, .inl (gI G, 148, .inl (fl 148 (-1) fe)))] H := hP
  have hD : va_D A [(pn, .inr (7, [.ref bk, .ref bd, n1, .ref pe, .ref pm, n2, n3, .ref pt, .ref pb, .ref px, .ref pg, .int 0, .int y, .int 0])), (bk, .inr (2, [.ref ca, v1, v2, v3, v4, v5])), (ca, .inl (gI G, 2088, .inl bk0)), (pm, .inr (10, [.ref pm2])), (pm2, .inl (gI G, 4, .inl fm)), (px, .inr (10, [.ref px2])), (px2, .inl (gI G, 148, .inl (fl 148 (-1) fx))), (pg, .inr (10, [.ref pg2])), (pg2, .inl (gI G, 148, .inl (fl 148 (-1) fg))), (pe, .inr (10, [.ref pe2])), (pe2, .inl (gI G, 148, .inl (fl 148 (-1) fe)))] := hD
  refine W.eq (g2 := F0 m 24 ls []) rfl ?_
  refine lv_aload_n hx hb dX6_clear_24 rfl (lv_at hl 0 rfl) ?_
  refine lv_aload_n hx hb dX6_clear_25 rfl (lv_at hl 0 rfl) ?_
  refine va_get (D := gD G) (ci := 7) (v := .ref bk) (C := RX6) (T := TX6) (N := 14) hx hb hts (fun _ h9 => (List.mem_cons_of_mem _ (List.mem_append_right _ (List.mem_append_left _ h9)))) hown hK hP 0 rfl rfl 0 (by decide) (hts (.fieldLink RX6 9 "JudoHall$Planner" "book" "LJudoHall$Book;") (List.mem_cons_of_mem _ (List.mem_append_left _ (List.mem_of_getElem? (i := 7) rfl)))) (fun _ h9 => h9) rfl dX6_clear_26 ?_
  refine lv_iconst (v := 0) hx hb dX6_clear_29 (by decide) ?_
  refine vp_callSi (va_Run.run (va_runV (As := [.int 0]) (rest := [.ref pn]) ⟨hx, hb, hml, hown, hts⟩ (c_Book_at l G bk ca 2088 bk0 v1 v2 v3 v4 v5 0 (by decide)) (cwV 1 hts (gdV (List.mem_cons_of_mem _ (List.mem_append_left _ (List.mem_of_getElem? (i := 8) rfl))) (List.mem_cons_of_mem _ (List.mem_append_left _ (List.mem_of_getElem? (i := 9) rfl))) (List.mem_cons_of_mem _ (List.mem_append_left _ (List.mem_of_getElem? (i := 10) rfl))) (List.mem_cons_of_mem _ (List.mem_append_left _ (List.mem_of_getElem? (i := 11) rfl))) (fun w9 h9 => ⟨(List.mem_cons_of_mem _ (List.mem_append_right _ (List.mem_append_right _ (List.mem_append_right _ (List.mem_append_left _ h9))))), gd_c_Book_at w9 h9⟩)) rfl rfl rfl kVX1_at ⟨Nat.le_of_ble_eq_true rfl, Nat.le_of_ble_eq_true rfl⟩) (preV_p (As := [.int 0]) (hP.sub (ws' := [(bk, .inr (2, [.ref ca, v1, v2, v3, v4, v5])), (ca, .inl (gI G, 2088, .inl bk0))]) [1, 2] rfl) hB rfl rfl) rfl rfl hl.1 rfl (lv_room (Nat.le_of_ble_eq_true rfl)) dX6_clear_30 ⟨Nat.le_of_ble_eq_true rfl, Nat.le_of_ble_eq_true rfl⟩)) (fun r_4 hr_4 => ?_)
  have hr_4 : r_4 = 0 := hr_4.trans (by decide +kernel)
  subst hr_4
  refine va_put (D := gD G) (ci := 7) (v := .int 0) (ty := tyX6 13) (C := RX6) (T := TX6) (N := 14) hx hb hts (fun _ h9 => (List.mem_cons_of_mem _ (List.mem_append_right _ (List.mem_append_left _ h9)))) tyX6 tyX6_ok nmX6 hown hK hP hD hS 0 rfl rfl 13 (by decide) (hts (.fieldLink RX6 102 "JudoHall$Planner" "lastEnd" "I") (List.mem_cons_of_mem _ (List.mem_append_left _ (List.mem_of_getElem? (i := 12) rfl)))) (fun _ h9 => h9) rfl (tyX6_ok 13 (by decide)) rfl rfl (Nat.le_of_ble_eq_true rfl) dX6_clear_33 (fun H locs hP hD hS => ?_)
  have hP : va_P (gD G) vwCl [(pn, .inr (7, [.ref bk, .ref bd, n1, .ref pe, .ref pm, n2, n3, .ref pt, .ref pb, .ref px, .ref pg, .int 0, .int y, .int 0])), (bk, .inr (2, [.ref ca, v1, v2, v3, v4, v5])), (ca, .inl (gI G, 2088, .inl bk0)), (pm, .inr (10, [.ref pm2])), (pm2, .inl (gI G, 4, .inl fm)), (px, .inr (10, [.ref px2])), (px2, .inl (gI G, 148, .inl (fl 148 (-1) fx))), (pg, .inr (10, [.ref pg2])), (pg2, .inl (gI G, 148, .inl (fl 148 (-1) fg))), (pe, .inr (10, [.ref pe2])), (pe2, .inl (gI G, 148, .inl (fl 148 (-1) fe)))] H := hP
  have hD : va_D A [(pn, .inr (7, [.ref bk, .ref bd, n1, .ref pe, .ref pm, n2, n3, .ref pt, .ref pb, .ref px, .ref pg, .int 0, .int y, .int 0])), (bk, .inr (2, [.ref ca, v1, v2, v3, v4, v5])), (ca, .inl (gI G, 2088, .inl bk0)), (pm, .inr (10, [.ref pm2])), (pm2, .inl (gI G, 4, .inl fm)), (px, .inr (10, [.ref px2])), (px2, .inl (gI G, 148, .inl (fl 148 (-1) fx))), (pg, .inr (10, [.ref pg2])), (pg2, .inl (gI G, 148, .inl (fl 148 (-1) fg))), (pe, .inr (10, [.ref pe2])), (pe2, .inl (gI G, 148, .inl (fl 148 (-1) fe)))] := hD
  refine lv_aload_n hx hb dX6_clear_36 rfl (lv_at hl 0 rfl) ?_
  refine va_get (D := gD G) (ci := 7) (v := .ref pm) (C := RX6) (T := TX6) (N := 14) hx hb hts (fun _ h9 => (List.mem_cons_of_mem _ (List.mem_append_right _ (List.mem_append_left _ h9)))) hown hK hP 0 rfl rfl 4 (by decide) (hts (.fieldLink RX6 33 "JudoHall$Planner" "matFree" "LJudoHall$Row;") (List.mem_cons_of_mem _ (List.mem_append_left _ (List.mem_of_getElem? (i := 13) rfl)))) (fun _ h9 => h9) rfl dX6_clear_37 ?_
  refine lv_aload_n hx hb dX6_clear_40 rfl (lv_at hl 0 rfl) ?_
  refine va_get (D := gD G) (ci := 7) (v := .int 0) (C := RX6) (T := TX6) (N := 14) hx hb hts (fun _ h9 => (List.mem_cons_of_mem _ (List.mem_append_right _ (List.mem_append_left _ h9)))) hown hK hP 0 rfl rfl 13 (by decide) (hts (.fieldLink RX6 102 "JudoHall$Planner" "lastEnd" "I") (List.mem_cons_of_mem _ (List.mem_append_left _ (List.mem_of_getElem? (i := 12) rfl)))) (fun _ h9 => h9) rfl dX6_clear_41 ?_
  have hPc := hP.sub (ws' := [(pm, .inr (10, [.ref pm2])), (pm2, .inl (gI G, 4, .inl fm))]) [3, 4] rfl
  have hDc := hD.sub (ws' := [(pm, .inr (10, [.ref pm2])), (pm2, .inl (gI G, 4, .inl fm))]) [3, 4] (by decide) rfl
  have hFc := va_free (wc := [(pm, .inr (10, [.ref pm2])), (pm2, .inl (gI G, 4, .inl fm))]) hD hS hA [3, 4] rfl
  refine va_callv (va_runV (As := [.int 0]) (rest := []) ⟨hx, hb, hml, hown, hts⟩ (c_Row_fill l G pm pm2 4 fm 0 H.size (by decide)) (cwV 1 hts (gdV (List.mem_cons_of_mem _ (List.mem_append_left _ (List.mem_of_getElem? (i := 1) rfl))) (List.mem_cons_of_mem _ (List.mem_append_left _ (List.mem_of_getElem? (i := 2) rfl))) (List.mem_cons_of_mem _ (List.mem_append_left _ (List.mem_of_getElem? (i := 3) rfl))) (List.mem_cons_of_mem _ (List.mem_append_left _ (List.mem_of_getElem? (i := 4) rfl))) (fun w9 h9 => ⟨(List.mem_cons_of_mem _ (List.mem_append_right _ (List.mem_append_right _ (List.mem_append_left _ h9)))), gd_c_Row_fill w9 h9⟩)) rfl rfl rfl kVX9_fill ⟨Nat.le_of_ble_eq_true rfl, Nat.le_of_ble_eq_true rfl⟩) (preV_m (As := [.int 0]) hPc hB hDc rfl rfl) rfl rfl hl.1 rfl (lv_room (Nat.le_of_ble_eq_true rfl)) dX6_clear_44 ⟨Nat.le_of_ble_eq_true rfl, Nat.le_of_ble_eq_true rfl⟩) hS (fun q _ h => hFc q h) hFc (fun u t H1 locs ht hvm hw hB1 hz1 hk1 hS => ?_)
  obtain ⟨hP1, hD1⟩ := hB1
  rw [ht] at hP1
  obtain ⟨hP, hD⟩ := va_join (wr := [(pn, .inr (7, [.ref bk, .ref bd, n1, .ref pe, .ref pm, n2, n3, .ref pt, .ref pb, .ref px, .ref pg, .int 0, .int y, .int 0])), (bk, .inr (2, [.ref ca, v1, v2, v3, v4, v5])), (ca, .inl (gI G, 2088, .inl bk0)), (px, .inr (10, [.ref px2])), (px2, .inl (gI G, 148, .inl (fl 148 (-1) fx))), (pg, .inr (10, [.ref pg2])), (pg2, .inl (gI G, 148, .inl (fl 148 (-1) fg))), (pe, .inr (10, [.ref pe2])), (pe2, .inl (gI G, 148, .inl (fl 148 (-1) fe)))]) (w1 := [(pm, .inr (10, [.ref pm2])), (pm2, .inl (gI G, 4, .inl (fl 4 0 fm)))]) hP hD [3, 4] [0, 1, 2, 5, 6, 7, 8, 9, 10] rfl rfl (by decide) (by decide) hk1 hFc hP1 hD1
  generalize H1 = H at hP hS ⊢
  have hP : va_P (gD G) vwCl [(pn, .inr (7, [.ref bk, .ref bd, n1, .ref pe, .ref pm, n2, n3, .ref pt, .ref pb, .ref px, .ref pg, .int 0, .int y, .int 0])), (bk, .inr (2, [.ref ca, v1, v2, v3, v4, v5])), (ca, .inl (gI G, 2088, .inl bk0)), (px, .inr (10, [.ref px2])), (px2, .inl (gI G, 148, .inl (fl 148 (-1) fx))), (pg, .inr (10, [.ref pg2])), (pg2, .inl (gI G, 148, .inl (fl 148 (-1) fg))), (pe, .inr (10, [.ref pe2])), (pe2, .inl (gI G, 148, .inl (fl 148 (-1) fe))), (pm, .inr (10, [.ref pm2])), (pm2, .inl (gI G, 4, .inl (fl 4 0 fm)))] H := hP
  have hD : va_D A [(pn, .inr (7, [.ref bk, .ref bd, n1, .ref pe, .ref pm, n2, n3, .ref pt, .ref pb, .ref px, .ref pg, .int 0, .int y, .int 0])), (bk, .inr (2, [.ref ca, v1, v2, v3, v4, v5])), (ca, .inl (gI G, 2088, .inl bk0)), (px, .inr (10, [.ref px2])), (px2, .inl (gI G, 148, .inl (fl 148 (-1) fx))), (pg, .inr (10, [.ref pg2])), (pg2, .inl (gI G, 148, .inl (fl 148 (-1) fg))), (pe, .inr (10, [.ref pe2])), (pe2, .inl (gI G, 148, .inl (fl 148 (-1) fe))), (pm, .inr (10, [.ref pm2])), (pm2, .inl (gI G, 4, .inl (fl 4 0 fm)))] := hD
  refine W.eq (g2 := F0 m 47 ls []) rfl ?_
  refine lv_iconst (v := 0) hx hb dX6_clear_47 (by decide) ?_
  refine lv_istore_n (lv' := [(1, .int 0), (0, .ref pn)]) hx hb dX6_clear_48 rfl hl (by decide) rfl (fun ls hl => ?_)
  refine lv_iload_n hx hb dX6_clear_49 rfl (lv_at hl 0 rfl) ?_
  refine lv_aload_n hx hb dX6_clear_50 rfl (lv_at hl 1 rfl) ?_
  refine va_get (D := gD G) (ci := 7) (v := .ref bk) (C := RX6) (T := TX6) (N := 14) hx hb hts (fun _ h9 => (List.mem_cons_of_mem _ (List.mem_append_right _ (List.mem_append_left _ h9)))) hown hK hP 0 rfl rfl 0 (by decide) (hts (.fieldLink RX6 9 "JudoHall$Planner" "book" "LJudoHall$Book;") (List.mem_cons_of_mem _ (List.mem_append_left _ (List.mem_of_getElem? (i := 7) rfl)))) (fun _ h9 => h9) rfl dX6_clear_51 ?_
  refine lv_iconst (v := 2) hx hb dX6_clear_54 (by decide) ?_
  refine vp_callSi (va_Run.run (va_runV (As := [.int 2]) (rest := [.int 0]) ⟨hx, hb, hml, hown, hts⟩ (c_Book_at l G bk ca 2088 bk0 v1 v2 v3 v4 v5 2 (by decide)) (cwV 1 hts (gdV (List.mem_cons_of_mem _ (List.mem_append_left _ (List.mem_of_getElem? (i := 8) rfl))) (List.mem_cons_of_mem _ (List.mem_append_left _ (List.mem_of_getElem? (i := 9) rfl))) (List.mem_cons_of_mem _ (List.mem_append_left _ (List.mem_of_getElem? (i := 10) rfl))) (List.mem_cons_of_mem _ (List.mem_append_left _ (List.mem_of_getElem? (i := 11) rfl))) (fun w9 h9 => ⟨(List.mem_cons_of_mem _ (List.mem_append_right _ (List.mem_append_right _ (List.mem_append_right _ (List.mem_append_left _ h9))))), gd_c_Book_at w9 h9⟩)) rfl rfl rfl kVX1_at ⟨Nat.le_of_ble_eq_true rfl, Nat.le_of_ble_eq_true rfl⟩) (preV_p (As := [.int 2]) (hP.sub (ws' := [(bk, .inr (2, [.ref ca, v1, v2, v3, v4, v5])), (ca, .inl (gI G, 2088, .inl bk0))]) [1, 2] rfl) hB rfl rfl) rfl rfl hl.1 rfl (lv_room (Nat.le_of_ble_eq_true rfl)) dX6_clear_55 ⟨Nat.le_of_ble_eq_true rfl, Nat.le_of_ble_eq_true rfl⟩)) (fun r_6 hr_6 => ?_)
  have hr_6 : r_6 = 0 := hr_6.trans (by decide +kernel)
  subst hr_6
  refine lv_icmp_ge (tgt := 108) hx hb dX6_clear_58 (by decide) (fun _ => ?_) (fun c9 => absurd (by decide) c9)
  have hP9 := hP.sub (ws' := [(pn, .inr (7, [.ref bk, .ref bd, n1, .ref pe, .ref pm, n2, n3, .ref pt, .ref pb, .ref px, .ref pg, .int 0, .int y, .int 0])), (bk, .inr (2, [.ref ca, v1, v2, v3, v4, v5])), (ca, .inl (gI G, 2088, .inl bk0))]) [0, 1, 2] rfl
  have hD9 := hD.sub (ws' := [(pn, .inr (7, [.ref bk, .ref bd, n1, .ref pe, .ref pm, n2, n3, .ref pt, .ref pb, .ref px, .ref pg, .int 0, .int y, .int 0])), (bk, .inr (2, [.ref ca, v1, v2, v3, v4, v5])), (ca, .inl (gI G, 2088, .inl bk0))]) [0, 1, 2] (by decide) rfl
  exact W.vret hx hb hr (fun t ht hW => ⟨⟨(), rfl, trivial, by rw [ht]; exact hP9, hD9⟩, hS.F ht⟩) hS.2.2 dX6_clear_108

def wo_c_putOpenOnes : List Cond := [.fieldLink RX6 9 "JudoHall$Planner" "book" "LJudoHall$Book;", .methodLink RX6 118 yX1_ofMat, .static yX1_ofMat, .initialized RX1, .methodLink RX6 81 yX1_at, .instanceMethod yX1_at, .selects RX1 yX1_at yX1_at]
def wq_c_putOpenOnes : List Cond := .code yX6_putOpenOnes cX6_putOpenOnes 3 none :: (wo_c_putOpenOnes ++ (wsX60 ++ (wq_c_Book_ofMat ++ (wq_c_Book_at ++ []))))
theorem gd_c_putOpenOnes : ∀ w ∈ wq_c_putOpenOnes, Gd w := List.forall_mem_cons.mpr ⟨Or.inl rfl, List.forall_mem_append.mpr ⟨gdl wo_c_putOpenOnes (by decide +kernel), (List.forall_mem_append.mpr ⟨gd_wsX60, (List.forall_mem_append.mpr ⟨gd_c_Book_ofMat, (List.forall_mem_append.mpr ⟨gd_c_Book_at, (fun _ h => absurd h List.not_mem_nil)⟩)⟩)⟩)⟩⟩
theorem in_c_putOpenOnes : ∀ w ∈ wq_c_putOpenOnes, w ∈ lw_tbl := List.forall_mem_cons.mpr ⟨List.mem_of_getElem? (i := 1450) (by decide +kernel), List.forall_mem_append.mpr ⟨inT wo_c_putOpenOnes [484, 1451, 223, 155, 1444, 623, 624] (by decide +kernel), (List.forall_mem_append.mpr ⟨in_wsX60, (List.forall_mem_append.mpr ⟨in_c_Book_ofMat, (List.forall_mem_append.mpr ⟨in_c_Book_at, (fun _ h => absurd h List.not_mem_nil)⟩)⟩)⟩)⟩⟩
set_option maxHeartbeats 4000000 in
set_option maxRecDepth 100000 in
theorem c_putOpenOnes (l : Launch) (G : gG) (pn : Nat) (bk : Nat) (bd : Nat) (n1 : Value) (pe : Nat) (pm : Nat) (n2 : Value) (n3 : Value) (pt : Nat) (pb : Nat) (px : Nat) (pg : Nat) (ca : Nat) (v1 : Value) (v2 : Value) (v3 : Value) (v4 : Value) (v5 : Value) (y : Int32) : Met l yX6_putOpenOnes wq_c_putOpenOnes ({ frames := 1, cells := 0, slots := 0, locals := 21 }) (va_Pc [.ref pn] (pP G [(pn, .inr (7, [.ref bk, .ref bd, n1, .ref pe, .ref pm, n2, n3, .ref pt, .ref pb, .ref px, .ref pg, .int 0, .int y, .int 0])), (bk, .inr (2, [.ref ca, v1, v2, v3, v4, v5])), (ca, .inl (gI G, 2088, .inl bk0))])) (va_Sv (fun _ => True)) 0 0 (fun _ => False) := by
  refine Met.ofW (cc := cX6_putOpenOnes) (maxL := 3) (ret := none) (by decide) rfl ?_
  intro p e s m args below meth c s₁ B hml hv
  obtain ⟨rfl, hP, hB⟩ := hv
  have hx := B.exec
  have hb := B.bytes
  have hr := B.returns
  have hts := atoms_spec (ws := wq_c_putOpenOnes) B.pre
  have hown : s.vm.findClass RX6 = some m.cls := findClass_of_methodNamed B.named
  have hlocks := B.notSynchronized
  have hK := hB.1
  have hP : va_P (gD G) vwCl [(pn, .inr (7, [.ref bk, .ref bd, n1, .ref pe, .ref pm, n2, n3, .ref pt, .ref pb, .ref px, .ref pg, .int 0, .int y, .int 0])), (bk, .inr (2, [.ref ca, v1, v2, v3, v4, v5])), (ca, .inl (gI G, 2088, .inl bk0))] s.heap := hP
  have hl := lv_entry ([.ref pn]) (n := 3) (Nat.le_of_ble_eq_true rfl)
  rw [lg_entry_eq]
  generalize (lg_sl ([.ref pn]) ++ List.replicate (3 - (lg_sl ([.ref pn])).length) Slot.unset).toArray = ls at hl ⊢
  have hl : lv_has ls 3 [(0, .ref pn)] := hl
  refine lv_iconst (v := 0) hx hb dX6_putOpenOnes_0 (by decide) ?_
  refine lv_istore_n (lv' := [(1, .int 0), (0, .ref pn)]) hx hb dX6_putOpenOnes_1 rfl hl (by decide) rfl (fun ls hl => ?_)
  refine lv_iload_n hx hb dX6_putOpenOnes_2 rfl (lv_at hl 0 rfl) ?_
  refine lv_iconst (v := 4) hx hb dX6_putOpenOnes_3 (by decide) ?_
  refine lv_icmp_ge (tgt := 57) hx hb dX6_putOpenOnes_4 (by decide) (fun c9 => absurd c9 (by decide)) (fun _ => ?_)
  refine lv_aload_n hx hb dX6_putOpenOnes_7 rfl (lv_at hl 1 rfl) ?_
  refine va_get (D := gD G) (ci := 7) (v := .ref bk) (C := RX6) (T := TX6) (N := 14) hx hb hts (fun _ h9 => (List.mem_cons_of_mem _ (List.mem_append_right _ (List.mem_append_left _ h9)))) hown hK hP 0 rfl rfl 0 (by decide) (hts (.fieldLink RX6 9 "JudoHall$Planner" "book" "LJudoHall$Book;") (List.mem_cons_of_mem _ (List.mem_append_left _ (List.mem_of_getElem? (i := 0) rfl)))) (fun _ h9 => h9) rfl dX6_putOpenOnes_8 ?_
  refine lv_iload_n hx hb dX6_putOpenOnes_11 rfl (lv_at hl 0 rfl) ?_
  refine lv_iconst (v := 1) hx hb dX6_putOpenOnes_12 (by decide) ?_
  refine vp_callSi (va_Run.run (va_runS (As := [.int 0, .int 1]) (rest := [.ref bk]) ⟨hx, hb, hml, hown, hts⟩ (c_Book_ofMat l G 0 1) (va_cwS 2 hts (gdS (List.mem_cons_of_mem _ (List.mem_append_left _ (List.mem_of_getElem? (i := 1) rfl))) (List.mem_cons_of_mem _ (List.mem_append_left _ (List.mem_of_getElem? (i := 2) rfl))) (List.mem_cons_of_mem _ (List.mem_append_left _ (List.mem_of_getElem? (i := 3) rfl))) (fun w9 h9 => ⟨(List.mem_cons_of_mem _ (List.mem_append_right _ (List.mem_append_right _ (List.mem_append_left _ h9)))), gd_c_Book_ofMat w9 h9⟩)) rfl rfl rfl kSX1_ofMat ⟨Nat.le_of_ble_eq_true rfl, Nat.le_of_ble_eq_true rfl⟩) (preS_p (As := [.int 0, .int 1]) (hP.sub (ws' := []) [] rfl) hB) rfl rfl hl.1 rfl (lv_room (Nat.le_of_ble_eq_true rfl)) dX6_putOpenOnes_13 ⟨Nat.le_of_ble_eq_true rfl, Nat.le_of_ble_eq_true rfl⟩)) (fun r_1 hr_1 => ?_)
  have hr_1 : r_1 = 2005 := hr_1.trans (by decide)
  subst hr_1
  refine vp_callSi (va_Run.run (va_runV (As := [.int 2005]) (rest := []) ⟨hx, hb, hml, hown, hts⟩ (c_Book_at l G bk ca 2088 bk0 v1 v2 v3 v4 v5 2005 (by decide)) (cwV 1 hts (gdV (List.mem_cons_of_mem _ (List.mem_append_left _ (List.mem_of_getElem? (i := 4) rfl))) (List.mem_cons_of_mem _ (List.mem_append_left _ (List.mem_of_getElem? (i := 5) rfl))) (List.mem_cons_of_mem _ (List.mem_append_left _ (List.mem_of_getElem? (i := 6) rfl))) (List.mem_cons_of_mem _ (List.mem_append_left _ (List.mem_of_getElem? (i := 3) rfl))) (fun w9 h9 => ⟨(List.mem_cons_of_mem _ (List.mem_append_right _ (List.mem_append_right _ (List.mem_append_right _ (List.mem_append_left _ h9))))), gd_c_Book_at w9 h9⟩)) rfl rfl rfl kVX1_at ⟨Nat.le_of_ble_eq_true rfl, Nat.le_of_ble_eq_true rfl⟩) (preV_p (As := [.int 2005]) (hP.sub (ws' := [(bk, .inr (2, [.ref ca, v1, v2, v3, v4, v5])), (ca, .inl (gI G, 2088, .inl bk0))]) [1, 2] rfl) hB rfl rfl) rfl rfl hl.1 rfl (lv_room (Nat.le_of_ble_eq_true rfl)) dX6_putOpenOnes_16 ⟨Nat.le_of_ble_eq_true rfl, Nat.le_of_ble_eq_true rfl⟩)) (fun r_2 hr_2 => ?_)
  have hr_2 : r_2 = (-1) := hr_2.trans (by decide +kernel)
  subst hr_2
  refine lv_istore_n (lv' := [(2, .int (-1)), (1, .int 0), (0, .ref pn)]) hx hb dX6_putOpenOnes_19 rfl hl (by decide) rfl (fun ls hl => ?_)
  refine lv_iload_n hx hb dX6_putOpenOnes_20 rfl (lv_at hl 0 rfl) ?_
  refine lv_iconst (v := (-1)) hx hb dX6_putOpenOnes_21 (by decide) ?_
  refine lv_icmp_eq (tgt := 51) hx hb dX6_putOpenOnes_22 (by decide) (fun _ => ?_) (fun c9 => absurd (by decide) c9)
  refine lv_iinc (v := 1) (lv' := [(1, .int 1), (2, .int (-1)), (0, .ref pn)]) hx hb dX6_putOpenOnes_51 hl (k := 1) rfl (by decide) (by decide) rfl (fun ls hl => ?_)
  refine lv_goto (tgt := 2) hx hb dX6_putOpenOnes_54 (by decide) ?_
  refine lv_iload_n hx hb dX6_putOpenOnes_2 rfl (lv_at hl 0 rfl) ?_
  refine lv_iconst (v := 4) hx hb dX6_putOpenOnes_3 (by decide) ?_
  refine lv_icmp_ge (tgt := 57) hx hb dX6_putOpenOnes_4 (by decide) (fun c9 => absurd c9 (by decide)) (fun _ => ?_)
  refine lv_aload_n hx hb dX6_putOpenOnes_7 rfl (lv_at hl 2 rfl) ?_
  refine va_get (D := gD G) (ci := 7) (v := .ref bk) (C := RX6) (T := TX6) (N := 14) hx hb hts (fun _ h9 => (List.mem_cons_of_mem _ (List.mem_append_right _ (List.mem_append_left _ h9)))) hown hK hP 0 rfl rfl 0 (by decide) (hts (.fieldLink RX6 9 "JudoHall$Planner" "book" "LJudoHall$Book;") (List.mem_cons_of_mem _ (List.mem_append_left _ (List.mem_of_getElem? (i := 0) rfl)))) (fun _ h9 => h9) rfl dX6_putOpenOnes_8 ?_
  refine lv_iload_n hx hb dX6_putOpenOnes_11 rfl (lv_at hl 0 rfl) ?_
  refine lv_iconst (v := 1) hx hb dX6_putOpenOnes_12 (by decide) ?_
  refine vp_callSi (va_Run.run (va_runS (As := [.int 1, .int 1]) (rest := [.ref bk]) ⟨hx, hb, hml, hown, hts⟩ (c_Book_ofMat l G 1 1) (va_cwS 2 hts (gdS (List.mem_cons_of_mem _ (List.mem_append_left _ (List.mem_of_getElem? (i := 1) rfl))) (List.mem_cons_of_mem _ (List.mem_append_left _ (List.mem_of_getElem? (i := 2) rfl))) (List.mem_cons_of_mem _ (List.mem_append_left _ (List.mem_of_getElem? (i := 3) rfl))) (fun w9 h9 => ⟨(List.mem_cons_of_mem _ (List.mem_append_right _ (List.mem_append_right _ (List.mem_append_left _ h9)))), gd_c_Book_ofMat w9 h9⟩)) rfl rfl rfl kSX1_ofMat ⟨Nat.le_of_ble_eq_true rfl, Nat.le_of_ble_eq_true rfl⟩) (preS_p (As := [.int 1, .int 1]) (hP.sub (ws' := []) [] rfl) hB) rfl rfl hl.1 rfl (lv_room (Nat.le_of_ble_eq_true rfl)) dX6_putOpenOnes_13 ⟨Nat.le_of_ble_eq_true rfl, Nat.le_of_ble_eq_true rfl⟩)) (fun r_3 hr_3 => ?_)
  have hr_3 : r_3 = 2026 := hr_3.trans (by decide)
  subst hr_3
  refine vp_callSi (va_Run.run (va_runV (As := [.int 2026]) (rest := []) ⟨hx, hb, hml, hown, hts⟩ (c_Book_at l G bk ca 2088 bk0 v1 v2 v3 v4 v5 2026 (by decide)) (cwV 1 hts (gdV (List.mem_cons_of_mem _ (List.mem_append_left _ (List.mem_of_getElem? (i := 4) rfl))) (List.mem_cons_of_mem _ (List.mem_append_left _ (List.mem_of_getElem? (i := 5) rfl))) (List.mem_cons_of_mem _ (List.mem_append_left _ (List.mem_of_getElem? (i := 6) rfl))) (List.mem_cons_of_mem _ (List.mem_append_left _ (List.mem_of_getElem? (i := 3) rfl))) (fun w9 h9 => ⟨(List.mem_cons_of_mem _ (List.mem_append_right _ (List.mem_append_right _ (List.mem_append_right _ (List.mem_append_left _ h9))))), gd_c_Book_at w9 h9⟩)) rfl rfl rfl kVX1_at ⟨Nat.le_of_ble_eq_true rfl, Nat.le_of_ble_eq_true rfl⟩) (preV_p (As := [.int 2026]) (hP.sub (ws' := [(bk, .inr (2, [.ref ca, v1, v2, v3, v4, v5])), (ca, .inl (gI G, 2088, .inl bk0))]) [1, 2] rfl) hB rfl rfl) rfl rfl hl.1 rfl (lv_room (Nat.le_of_ble_eq_true rfl)) dX6_putOpenOnes_16 ⟨Nat.le_of_ble_eq_true rfl, Nat.le_of_ble_eq_true rfl⟩)) (fun r_4 hr_4 => ?_)
  have hr_4 : r_4 = (-1) := hr_4.trans (by decide +kernel)
  subst hr_4
  refine lv_istore_n (lv' := [(2, .int (-1)), (1, .int 1), (0, .ref pn)]) hx hb dX6_putOpenOnes_19 rfl hl (by decide) rfl (fun ls hl => ?_)
  refine lv_iload_n hx hb dX6_putOpenOnes_20 rfl (lv_at hl 0 rfl) ?_
  refine lv_iconst (v := (-1)) hx hb dX6_putOpenOnes_21 (by decide) ?_
  refine lv_icmp_eq (tgt := 51) hx hb dX6_putOpenOnes_22 (by decide) (fun _ => ?_) (fun c9 => absurd (by decide) c9)
  refine lv_iinc (v := 2) (lv' := [(1, .int 2), (2, .int (-1)), (0, .ref pn)]) hx hb dX6_putOpenOnes_51 hl (k := 1) rfl (by decide) (by decide) rfl (fun ls hl => ?_)
  refine lv_goto (tgt := 2) hx hb dX6_putOpenOnes_54 (by decide) ?_
  refine lv_iload_n hx hb dX6_putOpenOnes_2 rfl (lv_at hl 0 rfl) ?_
  refine lv_iconst (v := 4) hx hb dX6_putOpenOnes_3 (by decide) ?_
  refine lv_icmp_ge (tgt := 57) hx hb dX6_putOpenOnes_4 (by decide) (fun c9 => absurd c9 (by decide)) (fun _ => ?_)
  refine lv_aload_n hx hb dX6_putOpenOnes_7 rfl (lv_at hl 2 rfl) ?_
  refine va_get (D := gD G) (ci := 7) (v := .ref bk) (C := RX6) (T := TX6) (N := 14) hx hb hts (fun _ h9 => (List.mem_cons_of_mem _ (List.mem_append_right _ (List.mem_append_left _ h9)))) hown hK hP 0 rfl rfl 0 (by decide) (hts (.fieldLink RX6 9 "JudoHall$Planner" "book" "LJudoHall$Book;") (List.mem_cons_of_mem _ (List.mem_append_left _ (List.mem_of_getElem? (i := 0) rfl)))) (fun _ h9 => h9) rfl dX6_putOpenOnes_8 ?_
  refine lv_iload_n hx hb dX6_putOpenOnes_11 rfl (lv_at hl 0 rfl) ?_
  refine lv_iconst (v := 1) hx hb dX6_putOpenOnes_12 (by decide) ?_
  refine vp_callSi (va_Run.run (va_runS (As := [.int 2, .int 1]) (rest := [.ref bk]) ⟨hx, hb, hml, hown, hts⟩ (c_Book_ofMat l G 2 1) (va_cwS 2 hts (gdS (List.mem_cons_of_mem _ (List.mem_append_left _ (List.mem_of_getElem? (i := 1) rfl))) (List.mem_cons_of_mem _ (List.mem_append_left _ (List.mem_of_getElem? (i := 2) rfl))) (List.mem_cons_of_mem _ (List.mem_append_left _ (List.mem_of_getElem? (i := 3) rfl))) (fun w9 h9 => ⟨(List.mem_cons_of_mem _ (List.mem_append_right _ (List.mem_append_right _ (List.mem_append_left _ h9)))), gd_c_Book_ofMat w9 h9⟩)) rfl rfl rfl kSX1_ofMat ⟨Nat.le_of_ble_eq_true rfl, Nat.le_of_ble_eq_true rfl⟩) (preS_p (As := [.int 2, .int 1]) (hP.sub (ws' := []) [] rfl) hB) rfl rfl hl.1 rfl (lv_room (Nat.le_of_ble_eq_true rfl)) dX6_putOpenOnes_13 ⟨Nat.le_of_ble_eq_true rfl, Nat.le_of_ble_eq_true rfl⟩)) (fun r_5 hr_5 => ?_)
  have hr_5 : r_5 = 2047 := hr_5.trans (by decide)
  subst hr_5
  refine vp_callSi (va_Run.run (va_runV (As := [.int 2047]) (rest := []) ⟨hx, hb, hml, hown, hts⟩ (c_Book_at l G bk ca 2088 bk0 v1 v2 v3 v4 v5 2047 (by decide)) (cwV 1 hts (gdV (List.mem_cons_of_mem _ (List.mem_append_left _ (List.mem_of_getElem? (i := 4) rfl))) (List.mem_cons_of_mem _ (List.mem_append_left _ (List.mem_of_getElem? (i := 5) rfl))) (List.mem_cons_of_mem _ (List.mem_append_left _ (List.mem_of_getElem? (i := 6) rfl))) (List.mem_cons_of_mem _ (List.mem_append_left _ (List.mem_of_getElem? (i := 3) rfl))) (fun w9 h9 => ⟨(List.mem_cons_of_mem _ (List.mem_append_right _ (List.mem_append_right _ (List.mem_append_right _ (List.mem_append_left _ h9))))), gd_c_Book_at w9 h9⟩)) rfl rfl rfl kVX1_at ⟨Nat.le_of_ble_eq_true rfl, Nat.le_of_ble_eq_true rfl⟩) (preV_p (As := [.int 2047]) (hP.sub (ws' := [(bk, .inr (2, [.ref ca, v1, v2, v3, v4, v5])), (ca, .inl (gI G, 2088, .inl bk0))]) [1, 2] rfl) hB rfl rfl) rfl rfl hl.1 rfl (lv_room (Nat.le_of_ble_eq_true rfl)) dX6_putOpenOnes_16 ⟨Nat.le_of_ble_eq_true rfl, Nat.le_of_ble_eq_true rfl⟩)) (fun r_6 hr_6 => ?_)
  have hr_6 : r_6 = (-1) := hr_6.trans (by decide +kernel)
  subst hr_6
  refine lv_istore_n (lv' := [(2, .int (-1)), (1, .int 2), (0, .ref pn)]) hx hb dX6_putOpenOnes_19 rfl hl (by decide) rfl (fun ls hl => ?_)
  refine lv_iload_n hx hb dX6_putOpenOnes_20 rfl (lv_at hl 0 rfl) ?_
  refine lv_iconst (v := (-1)) hx hb dX6_putOpenOnes_21 (by decide) ?_
  refine lv_icmp_eq (tgt := 51) hx hb dX6_putOpenOnes_22 (by decide) (fun _ => ?_) (fun c9 => absurd (by decide) c9)
  refine lv_iinc (v := 3) (lv' := [(1, .int 3), (2, .int (-1)), (0, .ref pn)]) hx hb dX6_putOpenOnes_51 hl (k := 1) rfl (by decide) (by decide) rfl (fun ls hl => ?_)
  refine lv_goto (tgt := 2) hx hb dX6_putOpenOnes_54 (by decide) ?_
  refine lv_iload_n hx hb dX6_putOpenOnes_2 rfl (lv_at hl 0 rfl) ?_
  refine lv_iconst (v := 4) hx hb dX6_putOpenOnes_3 (by decide) ?_
  refine lv_icmp_ge (tgt := 57) hx hb dX6_putOpenOnes_4 (by decide) (fun c9 => absurd c9 (by decide)) (fun _ => ?_)
  refine lv_aload_n hx hb dX6_putOpenOnes_7 rfl (lv_at hl 2 rfl) ?_
  refine va_get (D := gD G) (ci := 7) (v := .ref bk) (C := RX6) (T := TX6) (N := 14) hx hb hts (fun _ h9 => (List.mem_cons_of_mem _ (List.mem_append_right _ (List.mem_append_left _ h9)))) hown hK hP 0 rfl rfl 0 (by decide) (hts (.fieldLink RX6 9 "JudoHall$Planner" "book" "LJudoHall$Book;") (List.mem_cons_of_mem _ (List.mem_append_left _ (List.mem_of_getElem? (i := 0) rfl)))) (fun _ h9 => h9) rfl dX6_putOpenOnes_8 ?_
  refine lv_iload_n hx hb dX6_putOpenOnes_11 rfl (lv_at hl 0 rfl) ?_
  refine lv_iconst (v := 1) hx hb dX6_putOpenOnes_12 (by decide) ?_
  refine vp_callSi (va_Run.run (va_runS (As := [.int 3, .int 1]) (rest := [.ref bk]) ⟨hx, hb, hml, hown, hts⟩ (c_Book_ofMat l G 3 1) (va_cwS 2 hts (gdS (List.mem_cons_of_mem _ (List.mem_append_left _ (List.mem_of_getElem? (i := 1) rfl))) (List.mem_cons_of_mem _ (List.mem_append_left _ (List.mem_of_getElem? (i := 2) rfl))) (List.mem_cons_of_mem _ (List.mem_append_left _ (List.mem_of_getElem? (i := 3) rfl))) (fun w9 h9 => ⟨(List.mem_cons_of_mem _ (List.mem_append_right _ (List.mem_append_right _ (List.mem_append_left _ h9)))), gd_c_Book_ofMat w9 h9⟩)) rfl rfl rfl kSX1_ofMat ⟨Nat.le_of_ble_eq_true rfl, Nat.le_of_ble_eq_true rfl⟩) (preS_p (As := [.int 3, .int 1]) (hP.sub (ws' := []) [] rfl) hB) rfl rfl hl.1 rfl (lv_room (Nat.le_of_ble_eq_true rfl)) dX6_putOpenOnes_13 ⟨Nat.le_of_ble_eq_true rfl, Nat.le_of_ble_eq_true rfl⟩)) (fun r_7 hr_7 => ?_)
  have hr_7 : r_7 = 2068 := hr_7.trans (by decide)
  subst hr_7
  refine vp_callSi (va_Run.run (va_runV (As := [.int 2068]) (rest := []) ⟨hx, hb, hml, hown, hts⟩ (c_Book_at l G bk ca 2088 bk0 v1 v2 v3 v4 v5 2068 (by decide)) (cwV 1 hts (gdV (List.mem_cons_of_mem _ (List.mem_append_left _ (List.mem_of_getElem? (i := 4) rfl))) (List.mem_cons_of_mem _ (List.mem_append_left _ (List.mem_of_getElem? (i := 5) rfl))) (List.mem_cons_of_mem _ (List.mem_append_left _ (List.mem_of_getElem? (i := 6) rfl))) (List.mem_cons_of_mem _ (List.mem_append_left _ (List.mem_of_getElem? (i := 3) rfl))) (fun w9 h9 => ⟨(List.mem_cons_of_mem _ (List.mem_append_right _ (List.mem_append_right _ (List.mem_append_right _ (List.mem_append_left _ h9))))), gd_c_Book_at w9 h9⟩)) rfl rfl rfl kVX1_at ⟨Nat.le_of_ble_eq_true rfl, Nat.le_of_ble_eq_true rfl⟩) (preV_p (As := [.int 2068]) (hP.sub (ws' := [(bk, .inr (2, [.ref ca, v1, v2, v3, v4, v5])), (ca, .inl (gI G, 2088, .inl bk0))]) [1, 2] rfl) hB rfl rfl) rfl rfl hl.1 rfl (lv_room (Nat.le_of_ble_eq_true rfl)) dX6_putOpenOnes_16 ⟨Nat.le_of_ble_eq_true rfl, Nat.le_of_ble_eq_true rfl⟩)) (fun r_8 hr_8 => ?_)
  have hr_8 : r_8 = (-1) := hr_8.trans (by decide +kernel)
  subst hr_8
  refine lv_istore_n (lv' := [(2, .int (-1)), (1, .int 3), (0, .ref pn)]) hx hb dX6_putOpenOnes_19 rfl hl (by decide) rfl (fun ls hl => ?_)
  refine lv_iload_n hx hb dX6_putOpenOnes_20 rfl (lv_at hl 0 rfl) ?_
  refine lv_iconst (v := (-1)) hx hb dX6_putOpenOnes_21 (by decide) ?_
  refine lv_icmp_eq (tgt := 51) hx hb dX6_putOpenOnes_22 (by decide) (fun _ => ?_) (fun c9 => absurd (by decide) c9)
  refine lv_iinc (v := 4) (lv' := [(1, .int 4), (2, .int (-1)), (0, .ref pn)]) hx hb dX6_putOpenOnes_51 hl (k := 1) rfl (by decide) (by decide) rfl (fun ls hl => ?_)
  refine lv_goto (tgt := 2) hx hb dX6_putOpenOnes_54 (by decide) ?_
  refine lv_iload_n hx hb dX6_putOpenOnes_2 rfl (lv_at hl 0 rfl) ?_
  refine lv_iconst (v := 4) hx hb dX6_putOpenOnes_3 (by decide) ?_
  refine lv_icmp_ge (tgt := 57) hx hb dX6_putOpenOnes_4 (by decide) (fun _ => ?_) (fun c9 => absurd (by decide) c9)
  exact W.vret hx hb hr (fun t ht hW => ⟨rfl, trivial, ht⟩) (fun q h => absurd h List.not_mem_nil) dX6_putOpenOnes_57

def wo_c_putStage : List Cond := [.fieldLink RX6 15 "JudoHall$Planner" "board" "LJudoHall$Board;", .methodLink RX6 137 yX0_fightsOf, .instanceMethod yX0_fightsOf, .selects RX0 yX0_fightsOf yX0_fightsOf, .initialized RX0]
def wq_c_putStage : List Cond := .code yX6_putStageInOrder cX6_putStageInOrder 5 none :: (wo_c_putStage ++ (wsX60 ++ (wq_c_fightsOf ++ [])))
theorem gd_c_putStage : ∀ w ∈ wq_c_putStage, Gd w := List.forall_mem_cons.mpr ⟨Or.inl rfl, List.forall_mem_append.mpr ⟨gdl wo_c_putStage (by decide +kernel), (List.forall_mem_append.mpr ⟨gd_wsX60, (List.forall_mem_append.mpr ⟨gd_c_fightsOf, (fun _ h => absurd h List.not_mem_nil)⟩)⟩)⟩⟩
theorem in_c_putStage : ∀ w ∈ wq_c_putStage, w ∈ lw_tbl := List.forall_mem_cons.mpr ⟨List.mem_of_getElem? (i := 1472) (by decide +kernel), List.forall_mem_append.mpr ⟨inT wo_c_putStage [485, 1473, 1180, 1181, 164] (by decide +kernel), (List.forall_mem_append.mpr ⟨in_wsX60, (List.forall_mem_append.mpr ⟨in_c_fightsOf, (fun _ h => absurd h List.not_mem_nil)⟩)⟩)⟩⟩
set_option maxHeartbeats 4000000 in
set_option maxRecDepth 100000 in
theorem c_putStage (l : Launch) (G : gG) (pn : Nat) (bk : Nat) (bd : Nat) (n1 : Value) (pe : Nat) (pm : Nat) (n2 : Value) (n3 : Value) (pt : Nat) (pb : Nat) (px : Nat) (pg : Nat) (b1 : Value) (b2 : Value) (b3 : Value) (b4 : Value) (b5 : Value) (ca : Nat) (v1 : Value) (v2 : Value) (v3 : Value) (v4 : Value) (v5 : Value) (y : Int32) (z : Int32) (x : Int32) (h0 : ¬ x < 0) (h1 : ¬ (4 : Int32) ≤ x) : Met l yX6_putStageInOrder wq_c_putStage ({ frames := 3, cells := 0, slots := 0, locals := 64 }) (va_Pc [.ref pn, .int z, .int x] (pP G [(pn, .inr (7, [.ref bk, .ref bd, n1, .ref pe, .ref pm, n2, n3, .ref pt, .ref pb, .ref px, .ref pg, .int 0, .int y, .int 0])), (bd, .inr (1, [.ref bk, b1, b2, b3, b4, b5])), (bk, .inr (2, [.ref ca, v1, v2, v3, v4, v5])), (ca, .inl (gI G, 2088, .inl bk0))])) (va_Sv (fun _ => True)) 0 0 (fun _ => False) := by
  refine Met.ofW (cc := cX6_putStageInOrder) (maxL := 5) (ret := none) (by decide) rfl ?_
  intro p e s m args below meth c s₁ B hml hv
  obtain ⟨rfl, hP, hB⟩ := hv
  have hx := B.exec
  have hb := B.bytes
  have hr := B.returns
  have hts := atoms_spec (ws := wq_c_putStage) B.pre
  have hown : s.vm.findClass RX6 = some m.cls := findClass_of_methodNamed B.named
  have hlocks := B.notSynchronized
  have hK := hB.1
  have hP : va_P (gD G) vwCl [(pn, .inr (7, [.ref bk, .ref bd, n1, .ref pe, .ref pm, n2, n3, .ref pt, .ref pb, .ref px, .ref pg, .int 0, .int y, .int 0])), (bd, .inr (1, [.ref bk, b1, b2, b3, b4, b5])), (bk, .inr (2, [.ref ca, v1, v2, v3, v4, v5])), (ca, .inl (gI G, 2088, .inl bk0))] s.heap := hP
  have hl := lv_entry ([.ref pn, .int z, .int x]) (n := 5) (Nat.le_of_ble_eq_true rfl)
  rw [lg_entry_eq]
  generalize (lg_sl ([.ref pn, .int z, .int x]) ++ List.replicate (5 - (lg_sl ([.ref pn, .int z, .int x])).length) Slot.unset).toArray = ls at hl ⊢
  have hl : lv_has ls 5 [(0, .ref pn), (1, .int z), (2, .int x)] := hl
  refine lv_iconst (v := 0) hx hb dX6_putStageInOrder_0 (by decide) ?_
  refine lv_istore_n (lv' := [(3, .int 0), (0, .ref pn), (1, .int z), (2, .int x)]) hx hb dX6_putStageInOrder_1 rfl hl (by decide) rfl (fun ls hl => ?_)
  refine lv_iload_n hx hb dX6_putStageInOrder_2 rfl (lv_at hl 0 rfl) ?_
  refine lv_aload_n hx hb dX6_putStageInOrder_3 rfl (lv_at hl 1 rfl) ?_
  refine va_get (D := gD G) (ci := 7) (v := .ref bd) (C := RX6) (T := TX6) (N := 14) hx hb hts (fun _ h9 => (List.mem_cons_of_mem _ (List.mem_append_right _ (List.mem_append_left _ h9)))) hown hK hP 0 rfl rfl 1 (by decide) (hts (.fieldLink RX6 15 "JudoHall$Planner" "board" "LJudoHall$Board;") (List.mem_cons_of_mem _ (List.mem_append_left _ (List.mem_of_getElem? (i := 0) rfl)))) (fun _ h9 => h9) rfl dX6_putStageInOrder_4 ?_
  refine lv_iload_n hx hb dX6_putStageInOrder_7 rfl (lv_at hl 3 rfl) ?_
  refine vp_callSi (va_Run.run (va_runV (As := [.int x]) (rest := [.int 0]) ⟨hx, hb, hml, hown, hts⟩ (c_fightsOf l G bd bk b1 b2 b3 b4 b5 ca v1 v2 v3 v4 v5 x (h0) (h1)) (cwV 1 hts (gdV (List.mem_cons_of_mem _ (List.mem_append_left _ (List.mem_of_getElem? (i := 1) rfl))) (List.mem_cons_of_mem _ (List.mem_append_left _ (List.mem_of_getElem? (i := 2) rfl))) (List.mem_cons_of_mem _ (List.mem_append_left _ (List.mem_of_getElem? (i := 3) rfl))) (List.mem_cons_of_mem _ (List.mem_append_left _ (List.mem_of_getElem? (i := 4) rfl))) (fun w9 h9 => ⟨(List.mem_cons_of_mem _ (List.mem_append_right _ (List.mem_append_right _ (List.mem_append_left _ h9)))), gd_c_fightsOf w9 h9⟩)) rfl rfl rfl kVX0_fightsOf ⟨Nat.le_of_ble_eq_true rfl, Nat.le_of_ble_eq_true rfl⟩) (preV_p (As := [.int x]) (hP.sub (ws' := [(bd, .inr (1, [.ref bk, b1, b2, b3, b4, b5])), (bk, .inr (2, [.ref ca, v1, v2, v3, v4, v5])), (ca, .inl (gI G, 2088, .inl bk0))]) [1, 2, 3] rfl) hB rfl rfl) rfl rfl hl.1 rfl (lv_room (Nat.le_of_ble_eq_true rfl)) dX6_putStageInOrder_8 ⟨Nat.le_of_ble_eq_true rfl, Nat.le_of_ble_eq_true rfl⟩)) (fun r_1 hr_1 => ?_)
  subst hr_1
  refine lv_icmp_ge (tgt := 96) hx hb dX6_putStageInOrder_11 (by decide) (fun _ => ?_) (fun c9 => absurd (by decide) c9)
  exact W.vret hx hb hr (fun t ht hW => ⟨rfl, trivial, ht⟩) (fun q h => absurd h List.not_mem_nil) dX6_putStageInOrder_96

def wo_c_putInOrder : List Cond := [.fieldLink RX6 84 "JudoHall$Planner" "ordered" "I", .methodLink RX6 134 yX6_putStageInOrder, .instanceMethod yX6_putStageInOrder, .selects RX6 yX6_putStageInOrder yX6_putStageInOrder, .initialized RX6]
def wq_c_putInOrder : List Cond := .code yX6_putInOrder cX6_putInOrder 3 none :: (wo_c_putInOrder ++ (wsX60 ++ (wq_c_putStage ++ [])))
theorem gd_c_putInOrder : ∀ w ∈ wq_c_putInOrder, Gd w := List.forall_mem_cons.mpr ⟨Or.inl rfl, List.forall_mem_append.mpr ⟨gdl wo_c_putInOrder (by decide +kernel), (List.forall_mem_append.mpr ⟨gd_wsX60, (List.forall_mem_append.mpr ⟨gd_c_putStage, (fun _ h => absurd h List.not_mem_nil)⟩)⟩)⟩⟩
theorem in_c_putInOrder : ∀ w ∈ wq_c_putInOrder, w ∈ lw_tbl := List.forall_mem_cons.mpr ⟨List.mem_of_getElem? (i := 1468) (by decide +kernel), List.forall_mem_append.mpr ⟨inT wo_c_putInOrder [495, 1469, 1471, 71, 167] (by decide +kernel), (List.forall_mem_append.mpr ⟨in_wsX60, (List.forall_mem_append.mpr ⟨in_c_putStage, (fun _ h => absurd h List.not_mem_nil)⟩)⟩)⟩⟩
set_option maxHeartbeats 4000000 in
set_option maxRecDepth 100000 in
theorem c_putInOrder (l : Launch) (G : gG) (pn : Nat) (bk : Nat) (bd : Nat) (n1 : Value) (pe : Nat) (pm : Nat) (n2 : Value) (n3 : Value) (pt : Nat) (pb : Nat) (px : Nat) (pg : Nat) (b1 : Value) (b2 : Value) (b3 : Value) (b4 : Value) (b5 : Value) (ca : Nat) (v1 : Value) (v2 : Value) (v3 : Value) (v4 : Value) (v5 : Value) (y : Int32) (sz : Nat) : Met l yX6_putInOrder wq_c_putInOrder ({ frames := 4, cells := 0, slots := 0, locals := 88 }) (va_Pc [.ref pn] (mP G [(pn, .inr (7, [.ref bk, .ref bd, n1, .ref pe, .ref pm, n2, n3, .ref pt, .ref pb, .ref px, .ref pg, .int 0, .int y, .int 0])), (bd, .inr (1, [.ref bk, b1, b2, b3, b4, b5])), (bk, .inr (2, [.ref ca, v1, v2, v3, v4, v5])), (ca, .inl (gI G, 2088, .inl bk0))] sz)) (va_Qv (fun _ : Unit => True) (fun (_ : Unit) (t : State) => va_P (gD G) vwCl [(pn, .inr (7, [.ref bk, .ref bd, n1, .ref pe, .ref pm, n2, n3, .ref pt, .ref pb, .ref px, .ref pg, .int 0, .int y, .int 0])), (bd, .inr (1, [.ref bk, b1, b2, b3, b4, b5])), (bk, .inr (2, [.ref ca, v1, v2, v3, v4, v5])), (ca, .inl (gI G, 2088, .inl bk0))] t.heap ∧ va_D (va_A [(pn, .inr (7, [.ref bk, .ref bd, n1, .ref pe, .ref pm, n2, n3, .ref pt, .ref pb, .ref px, .ref pg, .int 0, .int y, .int 0])), (bd, .inr (1, [.ref bk, b1, b2, b3, b4, b5])), (bk, .inr (2, [.ref ca, v1, v2, v3, v4, v5])), (ca, .inl (gI G, 2088, .inl bk0))] sz) [(pn, .inr (7, [.ref bk, .ref bd, n1, .ref pe, .ref pm, n2, n3, .ref pt, .ref pb, .ref px, .ref pg, .int 0, .int y, .int 0])), (bd, .inr (1, [.ref bk, b1, b2, b3, b4, b5])), (bk, .inr (2, [.ref ca, v1, v2, v3, v4, v5])), (ca, .inl (gI G, 2088, .inl bk0))]) (va_A [(pn, .inr (7, [.ref bk, .ref bd, n1, .ref pe, .ref pm, n2, n3, .ref pt, .ref pb, .ref px, .ref pg, .int 0, .int y, .int 0])), (bd, .inr (1, [.ref bk, b1, b2, b3, b4, b5])), (bk, .inr (2, [.ref ca, v1, v2, v3, v4, v5])), (ca, .inl (gI G, 2088, .inl bk0))] sz)) 0 0 (va_A [(pn, .inr (7, [.ref bk, .ref bd, n1, .ref pe, .ref pm, n2, n3, .ref pt, .ref pb, .ref px, .ref pg, .int 0, .int y, .int 0])), (bd, .inr (1, [.ref bk, b1, b2, b3, b4, b5])), (bk, .inr (2, [.ref ca, v1, v2, v3, v4, v5])), (ca, .inl (gI G, 2088, .inl bk0))] sz) := by
  refine Met.ofW (cc := cX6_putInOrder) (maxL := 3) (ret := none) (by decide) rfl ?_
  intro p e s m args below meth c s₁ B hml hv
  obtain ⟨rfl, hsz, hP, hB, hD0⟩ := hv
  have hx := B.exec
  have hb := B.bytes
  have hr := B.returns
  have hts := atoms_spec (ws := wq_c_putInOrder) B.pre
  have hown : s.vm.findClass RX6 = some m.cls := findClass_of_methodNamed B.named
  have hlocks := B.notSynchronized
  have hK := hB.1
  subst hsz
  have hD := hD0.self (sz := s.heap.size)
  generalize hAe : va_A [(pn, .inr (7, [.ref bk, .ref bd, n1, .ref pe, .ref pm, n2, n3, .ref pt, .ref pb, .ref px, .ref pg, .int 0, .int y, .int 0])), (bd, .inr (1, [.ref bk, b1, b2, b3, b4, b5])), (bk, .inr (2, [.ref ca, v1, v2, v3, v4, v5])), (ca, .inl (gI G, 2088, .inl bk0))] s.heap.size = A at hD ⊢
  have hA : ∀ q : Nat, s.heap.size ≤ q → A q := fun q h => by rw [← hAe]; exact Or.inr h
  have hS : va_S A s.heap s.heap [] := va_S.rf
  have hP : va_P (gD G) vwCl [(pn, .inr (7, [.ref bk, .ref bd, n1, .ref pe, .ref pm, n2, n3, .ref pt, .ref pb, .ref px, .ref pg, .int 0, .int y, .int 0])), (bd, .inr (1, [.ref bk, b1, b2, b3, b4, b5])), (bk, .inr (2, [.ref ca, v1, v2, v3, v4, v5])), (ca, .inl (gI G, 2088, .inl bk0))] s.heap := hP
  have hD : va_D A [(pn, .inr (7, [.ref bk, .ref bd, n1, .ref pe, .ref pm, n2, n3, .ref pt, .ref pb, .ref px, .ref pg, .int 0, .int y, .int 0])), (bd, .inr (1, [.ref bk, b1, b2, b3, b4, b5])), (bk, .inr (2, [.ref ca, v1, v2, v3, v4, v5])), (ca, .inl (gI G, 2088, .inl bk0))] := hD
  have hl := lv_entry ([.ref pn]) (n := 3) (Nat.le_of_ble_eq_true rfl)
  rw [lg_entry_eq]
  generalize (lg_sl ([.ref pn]) ++ List.replicate (3 - (lg_sl ([.ref pn])).length) Slot.unset).toArray = ls at hl ⊢
  have hl : lv_has ls 3 [(0, .ref pn)] := hl
  refine lv_aload_n hx hb dX6_putInOrder_0 rfl (lv_at hl 0 rfl) ?_
  refine lv_iconst (v := 0) hx hb dX6_putInOrder_1 (by decide) ?_
  refine va_put (D := gD G) (ci := 7) (v := .int 0) (ty := tyX6 11) (C := RX6) (T := TX6) (N := 14) hx hb hts (fun _ h9 => (List.mem_cons_of_mem _ (List.mem_append_right _ (List.mem_append_left _ h9)))) tyX6 tyX6_ok nmX6 hown hK hP hD hS 0 rfl rfl 11 (by decide) (hts (.fieldLink RX6 84 "JudoHall$Planner" "ordered" "I") (List.mem_cons_of_mem _ (List.mem_append_left _ (List.mem_of_getElem? (i := 0) rfl)))) (fun _ h9 => h9) rfl (tyX6_ok 11 (by decide)) rfl rfl (Nat.le_of_ble_eq_true rfl) dX6_putInOrder_2 (fun H locs hP hD hS => ?_)
  have hP : va_P (gD G) vwCl [(pn, .inr (7, [.ref bk, .ref bd, n1, .ref pe, .ref pm, n2, n3, .ref pt, .ref pb, .ref px, .ref pg, .int 0, .int y, .int 0])), (bd, .inr (1, [.ref bk, b1, b2, b3, b4, b5])), (bk, .inr (2, [.ref ca, v1, v2, v3, v4, v5])), (ca, .inl (gI G, 2088, .inl bk0))] H := hP
  have hD : va_D A [(pn, .inr (7, [.ref bk, .ref bd, n1, .ref pe, .ref pm, n2, n3, .ref pt, .ref pb, .ref px, .ref pg, .int 0, .int y, .int 0])), (bd, .inr (1, [.ref bk, b1, b2, b3, b4, b5])), (bk, .inr (2, [.ref ca, v1, v2, v3, v4, v5])), (ca, .inl (gI G, 2088, .inl bk0))] := hD
  refine lv_iconst (v := 0) hx hb dX6_putInOrder_5 (by decide) ?_
  refine lv_istore_n (lv' := [(1, .int 0), (0, .ref pn)]) hx hb dX6_putInOrder_6 rfl hl (by decide) rfl (fun ls hl => ?_)
  refine lv_iload_n hx hb dX6_putInOrder_7 rfl (lv_at hl 0 rfl) ?_
  refine lv_bipush (v := 20) hx hb dX6_putInOrder_8 (by decide) ?_
  refine lv_icmp_gt (tgt := 38) hx hb dX6_putInOrder_10 (by decide) (fun c9 => absurd c9 (by decide)) (fun _ => ?_)
  refine lv_iconst (v := 0) hx hb dX6_putInOrder_13 (by decide) ?_
  refine lv_istore_n (lv' := [(2, .int 0), (1, .int 0), (0, .ref pn)]) hx hb dX6_putInOrder_14 rfl hl (by decide) rfl (fun ls hl => ?_)
  refine lv_iload_n hx hb dX6_putInOrder_15 rfl (lv_at hl 0 rfl) ?_
  refine lv_iconst (v := 4) hx hb dX6_putInOrder_16 (by decide) ?_
  refine lv_icmp_ge (tgt := 32) hx hb dX6_putInOrder_17 (by decide) (fun c9 => absurd c9 (by decide)) (fun _ => ?_)
  refine lv_aload_n hx hb dX6_putInOrder_20 rfl (lv_at hl 2 rfl) ?_
  refine lv_iload_n hx hb dX6_putInOrder_21 rfl (lv_at hl 1 rfl) ?_
  refine lv_iload_n hx hb dX6_putInOrder_22 rfl (lv_at hl 0 rfl) ?_
  refine va_csv (va_Run.run (va_runV (As := [.int 0, .int 0]) (rest := []) ⟨hx, hb, hml, hown, hts⟩ (c_putStage l G pn bk bd n1 pe pm n2 n3 pt pb px pg b1 b2 b3 b4 b5 ca v1 v2 v3 v4 v5 y 0 0 (by decide) (by decide)) (cwV 2 hts (gdV (List.mem_cons_of_mem _ (List.mem_append_left _ (List.mem_of_getElem? (i := 1) rfl))) (List.mem_cons_of_mem _ (List.mem_append_left _ (List.mem_of_getElem? (i := 2) rfl))) (List.mem_cons_of_mem _ (List.mem_append_left _ (List.mem_of_getElem? (i := 3) rfl))) (List.mem_cons_of_mem _ (List.mem_append_left _ (List.mem_of_getElem? (i := 4) rfl))) (fun w9 h9 => ⟨(List.mem_cons_of_mem _ (List.mem_append_right _ (List.mem_append_right _ (List.mem_append_left _ h9)))), gd_c_putStage w9 h9⟩)) rfl rfl rfl kVX6_putStageInOrder ⟨Nat.le_of_ble_eq_true rfl, Nat.le_of_ble_eq_true rfl⟩) (preV_p (As := [.int 0, .int 0]) (hP.sub (ws' := [(pn, .inr (7, [.ref bk, .ref bd, n1, .ref pe, .ref pm, n2, n3, .ref pt, .ref pb, .ref px, .ref pg, .int 0, .int y, .int 0])), (bd, .inr (1, [.ref bk, b1, b2, b3, b4, b5])), (bk, .inr (2, [.ref ca, v1, v2, v3, v4, v5])), (ca, .inl (gI G, 2088, .inl bk0))]) [0, 1, 2, 3] rfl) hB rfl rfl) rfl rfl hl.1 rfl (lv_room (Nat.le_of_ble_eq_true rfl)) dX6_putInOrder_23 ⟨Nat.le_of_ble_eq_true rfl, Nat.le_of_ble_eq_true rfl⟩)) (fun _ => ?_)
  refine W.eq (g2 := F0 m 26 ls []) rfl ?_
  refine lv_iinc (v := 1) (lv' := [(2, .int 1), (1, .int 0), (0, .ref pn)]) hx hb dX6_putInOrder_26 hl (k := 0) rfl (by decide) (by decide) rfl (fun ls hl => ?_)
  refine lv_goto (tgt := 15) hx hb dX6_putInOrder_29 (by decide) ?_
  refine lv_iload_n hx hb dX6_putInOrder_15 rfl (lv_at hl 0 rfl) ?_
  refine lv_iconst (v := 4) hx hb dX6_putInOrder_16 (by decide) ?_
  refine lv_icmp_ge (tgt := 32) hx hb dX6_putInOrder_17 (by decide) (fun c9 => absurd c9 (by decide)) (fun _ => ?_)
  refine lv_aload_n hx hb dX6_putInOrder_20 rfl (lv_at hl 2 rfl) ?_
  refine lv_iload_n hx hb dX6_putInOrder_21 rfl (lv_at hl 1 rfl) ?_
  refine lv_iload_n hx hb dX6_putInOrder_22 rfl (lv_at hl 0 rfl) ?_
  refine va_csv (va_Run.run (va_runV (As := [.int 0, .int 1]) (rest := []) ⟨hx, hb, hml, hown, hts⟩ (c_putStage l G pn bk bd n1 pe pm n2 n3 pt pb px pg b1 b2 b3 b4 b5 ca v1 v2 v3 v4 v5 y 0 1 (by decide) (by decide)) (cwV 2 hts (gdV (List.mem_cons_of_mem _ (List.mem_append_left _ (List.mem_of_getElem? (i := 1) rfl))) (List.mem_cons_of_mem _ (List.mem_append_left _ (List.mem_of_getElem? (i := 2) rfl))) (List.mem_cons_of_mem _ (List.mem_append_left _ (List.mem_of_getElem? (i := 3) rfl))) (List.mem_cons_of_mem _ (List.mem_append_left _ (List.mem_of_getElem? (i := 4) rfl))) (fun w9 h9 => ⟨(List.mem_cons_of_mem _ (List.mem_append_right _ (List.mem_append_right _ (List.mem_append_left _ h9)))), gd_c_putStage w9 h9⟩)) rfl rfl rfl kVX6_putStageInOrder ⟨Nat.le_of_ble_eq_true rfl, Nat.le_of_ble_eq_true rfl⟩) (preV_p (As := [.int 0, .int 1]) (hP.sub (ws' := [(pn, .inr (7, [.ref bk, .ref bd, n1, .ref pe, .ref pm, n2, n3, .ref pt, .ref pb, .ref px, .ref pg, .int 0, .int y, .int 0])), (bd, .inr (1, [.ref bk, b1, b2, b3, b4, b5])), (bk, .inr (2, [.ref ca, v1, v2, v3, v4, v5])), (ca, .inl (gI G, 2088, .inl bk0))]) [0, 1, 2, 3] rfl) hB rfl rfl) rfl rfl hl.1 rfl (lv_room (Nat.le_of_ble_eq_true rfl)) dX6_putInOrder_23 ⟨Nat.le_of_ble_eq_true rfl, Nat.le_of_ble_eq_true rfl⟩)) (fun _ => ?_)
  refine W.eq (g2 := F0 m 26 ls []) rfl ?_
  refine lv_iinc (v := 2) (lv' := [(2, .int 2), (1, .int 0), (0, .ref pn)]) hx hb dX6_putInOrder_26 hl (k := 0) rfl (by decide) (by decide) rfl (fun ls hl => ?_)
  refine lv_goto (tgt := 15) hx hb dX6_putInOrder_29 (by decide) ?_
  refine lv_iload_n hx hb dX6_putInOrder_15 rfl (lv_at hl 0 rfl) ?_
  refine lv_iconst (v := 4) hx hb dX6_putInOrder_16 (by decide) ?_
  refine lv_icmp_ge (tgt := 32) hx hb dX6_putInOrder_17 (by decide) (fun c9 => absurd c9 (by decide)) (fun _ => ?_)
  refine lv_aload_n hx hb dX6_putInOrder_20 rfl (lv_at hl 2 rfl) ?_
  refine lv_iload_n hx hb dX6_putInOrder_21 rfl (lv_at hl 1 rfl) ?_
  refine lv_iload_n hx hb dX6_putInOrder_22 rfl (lv_at hl 0 rfl) ?_
  refine va_csv (va_Run.run (va_runV (As := [.int 0, .int 2]) (rest := []) ⟨hx, hb, hml, hown, hts⟩ (c_putStage l G pn bk bd n1 pe pm n2 n3 pt pb px pg b1 b2 b3 b4 b5 ca v1 v2 v3 v4 v5 y 0 2 (by decide) (by decide)) (cwV 2 hts (gdV (List.mem_cons_of_mem _ (List.mem_append_left _ (List.mem_of_getElem? (i := 1) rfl))) (List.mem_cons_of_mem _ (List.mem_append_left _ (List.mem_of_getElem? (i := 2) rfl))) (List.mem_cons_of_mem _ (List.mem_append_left _ (List.mem_of_getElem? (i := 3) rfl))) (List.mem_cons_of_mem _ (List.mem_append_left _ (List.mem_of_getElem? (i := 4) rfl))) (fun w9 h9 => ⟨(List.mem_cons_of_mem _ (List.mem_append_right _ (List.mem_append_right _ (List.mem_append_left _ h9)))), gd_c_putStage w9 h9⟩)) rfl rfl rfl kVX6_putStageInOrder ⟨Nat.le_of_ble_eq_true rfl, Nat.le_of_ble_eq_true rfl⟩) (preV_p (As := [.int 0, .int 2]) (hP.sub (ws' := [(pn, .inr (7, [.ref bk, .ref bd, n1, .ref pe, .ref pm, n2, n3, .ref pt, .ref pb, .ref px, .ref pg, .int 0, .int y, .int 0])), (bd, .inr (1, [.ref bk, b1, b2, b3, b4, b5])), (bk, .inr (2, [.ref ca, v1, v2, v3, v4, v5])), (ca, .inl (gI G, 2088, .inl bk0))]) [0, 1, 2, 3] rfl) hB rfl rfl) rfl rfl hl.1 rfl (lv_room (Nat.le_of_ble_eq_true rfl)) dX6_putInOrder_23 ⟨Nat.le_of_ble_eq_true rfl, Nat.le_of_ble_eq_true rfl⟩)) (fun _ => ?_)
  refine W.eq (g2 := F0 m 26 ls []) rfl ?_
  refine lv_iinc (v := 3) (lv' := [(2, .int 3), (1, .int 0), (0, .ref pn)]) hx hb dX6_putInOrder_26 hl (k := 0) rfl (by decide) (by decide) rfl (fun ls hl => ?_)
  refine lv_goto (tgt := 15) hx hb dX6_putInOrder_29 (by decide) ?_
  refine lv_iload_n hx hb dX6_putInOrder_15 rfl (lv_at hl 0 rfl) ?_
  refine lv_iconst (v := 4) hx hb dX6_putInOrder_16 (by decide) ?_
  refine lv_icmp_ge (tgt := 32) hx hb dX6_putInOrder_17 (by decide) (fun c9 => absurd c9 (by decide)) (fun _ => ?_)
  refine lv_aload_n hx hb dX6_putInOrder_20 rfl (lv_at hl 2 rfl) ?_
  refine lv_iload_n hx hb dX6_putInOrder_21 rfl (lv_at hl 1 rfl) ?_
  refine lv_iload_n hx hb dX6_putInOrder_22 rfl (lv_at hl 0 rfl) ?_
  refine va_csv (va_Run.run (va_runV (As := [.int 0, .int 3]) (rest := []) ⟨hx, hb, hml, hown, hts⟩ (c_putStage l G pn bk bd n1 pe pm n2 n3 pt pb px pg b1 b2 b3 b4 b5 ca v1 v2 v3 v4 v5 y 0 3 (by decide) (by decide)) (cwV 2 hts (gdV (List.mem_cons_of_mem _ (List.mem_append_left _ (List.mem_of_getElem? (i := 1) rfl))) (List.mem_cons_of_mem _ (List.mem_append_left _ (List.mem_of_getElem? (i := 2) rfl))) (List.mem_cons_of_mem _ (List.mem_append_left _ (List.mem_of_getElem? (i := 3) rfl))) (List.mem_cons_of_mem _ (List.mem_append_left _ (List.mem_of_getElem? (i := 4) rfl))) (fun w9 h9 => ⟨(List.mem_cons_of_mem _ (List.mem_append_right _ (List.mem_append_right _ (List.mem_append_left _ h9)))), gd_c_putStage w9 h9⟩)) rfl rfl rfl kVX6_putStageInOrder ⟨Nat.le_of_ble_eq_true rfl, Nat.le_of_ble_eq_true rfl⟩) (preV_p (As := [.int 0, .int 3]) (hP.sub (ws' := [(pn, .inr (7, [.ref bk, .ref bd, n1, .ref pe, .ref pm, n2, n3, .ref pt, .ref pb, .ref px, .ref pg, .int 0, .int y, .int 0])), (bd, .inr (1, [.ref bk, b1, b2, b3, b4, b5])), (bk, .inr (2, [.ref ca, v1, v2, v3, v4, v5])), (ca, .inl (gI G, 2088, .inl bk0))]) [0, 1, 2, 3] rfl) hB rfl rfl) rfl rfl hl.1 rfl (lv_room (Nat.le_of_ble_eq_true rfl)) dX6_putInOrder_23 ⟨Nat.le_of_ble_eq_true rfl, Nat.le_of_ble_eq_true rfl⟩)) (fun _ => ?_)
  refine W.eq (g2 := F0 m 26 ls []) rfl ?_
  refine lv_iinc (v := 4) (lv' := [(2, .int 4), (1, .int 0), (0, .ref pn)]) hx hb dX6_putInOrder_26 hl (k := 0) rfl (by decide) (by decide) rfl (fun ls hl => ?_)
  refine lv_goto (tgt := 15) hx hb dX6_putInOrder_29 (by decide) ?_
  refine lv_iload_n hx hb dX6_putInOrder_15 rfl (lv_at hl 0 rfl) ?_
  refine lv_iconst (v := 4) hx hb dX6_putInOrder_16 (by decide) ?_
  refine lv_icmp_ge (tgt := 32) hx hb dX6_putInOrder_17 (by decide) (fun _ => ?_) (fun c9 => absurd (by decide) c9)
  refine lv_iinc (v := 1) (lv' := [(1, .int 1), (2, .int 4), (0, .ref pn)]) hx hb dX6_putInOrder_32 hl (k := 1) rfl (by decide) (by decide) rfl (fun ls hl => ?_)
  refine lv_goto (tgt := 7) hx hb dX6_putInOrder_35 (by decide) ?_
  refine lv_iload_n hx hb dX6_putInOrder_7 rfl (lv_at hl 0 rfl) ?_
  refine lv_bipush (v := 20) hx hb dX6_putInOrder_8 (by decide) ?_
  refine lv_icmp_gt (tgt := 38) hx hb dX6_putInOrder_10 (by decide) (fun c9 => absurd c9 (by decide)) (fun _ => ?_)
  refine lv_iconst (v := 0) hx hb dX6_putInOrder_13 (by decide) ?_
  refine lv_istore_n (lv' := [(2, .int 0), (1, .int 1), (0, .ref pn)]) hx hb dX6_putInOrder_14 rfl hl (by decide) rfl (fun ls hl => ?_)
  refine lv_iload_n hx hb dX6_putInOrder_15 rfl (lv_at hl 0 rfl) ?_
  refine lv_iconst (v := 4) hx hb dX6_putInOrder_16 (by decide) ?_
  refine lv_icmp_ge (tgt := 32) hx hb dX6_putInOrder_17 (by decide) (fun c9 => absurd c9 (by decide)) (fun _ => ?_)
  refine lv_aload_n hx hb dX6_putInOrder_20 rfl (lv_at hl 2 rfl) ?_
  refine lv_iload_n hx hb dX6_putInOrder_21 rfl (lv_at hl 1 rfl) ?_
  refine lv_iload_n hx hb dX6_putInOrder_22 rfl (lv_at hl 0 rfl) ?_
  refine va_csv (va_Run.run (va_runV (As := [.int 1, .int 0]) (rest := []) ⟨hx, hb, hml, hown, hts⟩ (c_putStage l G pn bk bd n1 pe pm n2 n3 pt pb px pg b1 b2 b3 b4 b5 ca v1 v2 v3 v4 v5 y 1 0 (by decide) (by decide)) (cwV 2 hts (gdV (List.mem_cons_of_mem _ (List.mem_append_left _ (List.mem_of_getElem? (i := 1) rfl))) (List.mem_cons_of_mem _ (List.mem_append_left _ (List.mem_of_getElem? (i := 2) rfl))) (List.mem_cons_of_mem _ (List.mem_append_left _ (List.mem_of_getElem? (i := 3) rfl))) (List.mem_cons_of_mem _ (List.mem_append_left _ (List.mem_of_getElem? (i := 4) rfl))) (fun w9 h9 => ⟨(List.mem_cons_of_mem _ (List.mem_append_right _ (List.mem_append_right _ (List.mem_append_left _ h9)))), gd_c_putStage w9 h9⟩)) rfl rfl rfl kVX6_putStageInOrder ⟨Nat.le_of_ble_eq_true rfl, Nat.le_of_ble_eq_true rfl⟩) (preV_p (As := [.int 1, .int 0]) (hP.sub (ws' := [(pn, .inr (7, [.ref bk, .ref bd, n1, .ref pe, .ref pm, n2, n3, .ref pt, .ref pb, .ref px, .ref pg, .int 0, .int y, .int 0])), (bd, .inr (1, [.ref bk, b1, b2, b3, b4, b5])), (bk, .inr (2, [.ref ca, v1, v2, v3, v4, v5])), (ca, .inl (gI G, 2088, .inl bk0))]) [0, 1, 2, 3] rfl) hB rfl rfl) rfl rfl hl.1 rfl (lv_room (Nat.le_of_ble_eq_true rfl)) dX6_putInOrder_23 ⟨Nat.le_of_ble_eq_true rfl, Nat.le_of_ble_eq_true rfl⟩)) (fun _ => ?_)
  refine W.eq (g2 := F0 m 26 ls []) rfl ?_
  refine lv_iinc (v := 1) (lv' := [(2, .int 1), (1, .int 1), (0, .ref pn)]) hx hb dX6_putInOrder_26 hl (k := 0) rfl (by decide) (by decide) rfl (fun ls hl => ?_)
  refine lv_goto (tgt := 15) hx hb dX6_putInOrder_29 (by decide) ?_
  refine lv_iload_n hx hb dX6_putInOrder_15 rfl (lv_at hl 0 rfl) ?_
  refine lv_iconst (v := 4) hx hb dX6_putInOrder_16 (by decide) ?_
  refine lv_icmp_ge (tgt := 32) hx hb dX6_putInOrder_17 (by decide) (fun c9 => absurd c9 (by decide)) (fun _ => ?_)
  refine lv_aload_n hx hb dX6_putInOrder_20 rfl (lv_at hl 2 rfl) ?_
  refine lv_iload_n hx hb dX6_putInOrder_21 rfl (lv_at hl 1 rfl) ?_
  refine lv_iload_n hx hb dX6_putInOrder_22 rfl (lv_at hl 0 rfl) ?_
  refine va_csv (va_Run.run (va_runV (As := [.int 1, .int 1]) (rest := []) ⟨hx, hb, hml, hown, hts⟩ (c_putStage l G pn bk bd n1 pe pm n2 n3 pt pb px pg b1 b2 b3 b4 b5 ca v1 v2 v3 v4 v5 y 1 1 (by decide) (by decide)) (cwV 2 hts (gdV (List.mem_cons_of_mem _ (List.mem_append_left _ (List.mem_of_getElem? (i := 1) rfl))) (List.mem_cons_of_mem _ (List.mem_append_left _ (List.mem_of_getElem? (i := 2) rfl))) (List.mem_cons_of_mem _ (List.mem_append_left _ (List.mem_of_getElem? (i := 3) rfl))) (List.mem_cons_of_mem _ (List.mem_append_left _ (List.mem_of_getElem? (i := 4) rfl))) (fun w9 h9 => ⟨(List.mem_cons_of_mem _ (List.mem_append_right _ (List.mem_append_right _ (List.mem_append_left _ h9)))), gd_c_putStage w9 h9⟩)) rfl rfl rfl kVX6_putStageInOrder ⟨Nat.le_of_ble_eq_true rfl, Nat.le_of_ble_eq_true rfl⟩) (preV_p (As := [.int 1, .int 1]) (hP.sub (ws' := [(pn, .inr (7, [.ref bk, .ref bd, n1, .ref pe, .ref pm, n2, n3, .ref pt, .ref pb, .ref px, .ref pg, .int 0, .int y, .int 0])), (bd, .inr (1, [.ref bk, b1, b2, b3, b4, b5])), (bk, .inr (2, [.ref ca, v1, v2, v3, v4, v5])), (ca, .inl (gI G, 2088, .inl bk0))]) [0, 1, 2, 3] rfl) hB rfl rfl) rfl rfl hl.1 rfl (lv_room (Nat.le_of_ble_eq_true rfl)) dX6_putInOrder_23 ⟨Nat.le_of_ble_eq_true rfl, Nat.le_of_ble_eq_true rfl⟩)) (fun _ => ?_)
  refine W.eq (g2 := F0 m 26 ls []) rfl ?_
  refine lv_iinc (v := 2) (lv' := [(2, .int 2), (1, .int 1), (0, .ref pn)]) hx hb dX6_putInOrder_26 hl (k := 0) rfl (by decide) (by decide) rfl (fun ls hl => ?_)
  refine lv_goto (tgt := 15) hx hb dX6_putInOrder_29 (by decide) ?_
  refine lv_iload_n hx hb dX6_putInOrder_15 rfl (lv_at hl 0 rfl) ?_
  refine lv_iconst (v := 4) hx hb dX6_putInOrder_16 (by decide) ?_
  refine lv_icmp_ge (tgt := 32) hx hb dX6_putInOrder_17 (by decide) (fun c9 => absurd c9 (by decide)) (fun _ => ?_)
  refine lv_aload_n hx hb dX6_putInOrder_20 rfl (lv_at hl 2 rfl) ?_
  refine lv_iload_n hx hb dX6_putInOrder_21 rfl (lv_at hl 1 rfl) ?_
  refine lv_iload_n hx hb dX6_putInOrder_22 rfl (lv_at hl 0 rfl) ?_
  refine va_csv (va_Run.run (va_runV (As := [.int 1, .int 2]) (rest := []) ⟨hx, hb, hml, hown, hts⟩ (c_putStage l G pn bk bd n1 pe pm n2 n3 pt pb px pg b1 b2 b3 b4 b5 ca v1 v2 v3 v4 v5 y 1 2 (by decide) (by decide)) (cwV 2 hts (gdV (List.mem_cons_of_mem _ (List.mem_append_left _ (List.mem_of_getElem? (i := 1) rfl))) (List.mem_cons_of_mem _ (List.mem_append_left _ (List.mem_of_getElem? (i := 2) rfl))) (List.mem_cons_of_mem _ (List.mem_append_left _ (List.mem_of_getElem? (i := 3) rfl))) (List.mem_cons_of_mem _ (List.mem_append_left _ (List.mem_of_getElem? (i := 4) rfl))) (fun w9 h9 => ⟨(List.mem_cons_of_mem _ (List.mem_append_right _ (List.mem_append_right _ (List.mem_append_left _ h9)))), gd_c_putStage w9 h9⟩)) rfl rfl rfl kVX6_putStageInOrder ⟨Nat.le_of_ble_eq_true rfl, Nat.le_of_ble_eq_true rfl⟩) (preV_p (As := [.int 1, .int 2]) (hP.sub (ws' := [(pn, .inr (7, [.ref bk, .ref bd, n1, .ref pe, .ref pm, n2, n3, .ref pt, .ref pb, .ref px, .ref pg, .int 0, .int y, .int 0])), (bd, .inr (1, [.ref bk, b1, b2, b3, b4, b5])), (bk, .inr (2, [.ref ca, v1, v2, v3, v4, v5])), (ca, .inl (gI G, 2088, .inl bk0))]) [0, 1, 2, 3] rfl) hB rfl rfl) rfl rfl hl.1 rfl (lv_room (Nat.le_of_ble_eq_true rfl)) dX6_putInOrder_23 ⟨Nat.le_of_ble_eq_true rfl, Nat.le_of_ble_eq_true rfl⟩)) (fun _ => ?_)
  refine W.eq (g2 := F0 m 26 ls []) rfl ?_
  refine lv_iinc (v := 3) (lv' := [(2, .int 3), (1, .int 1), (0, .ref pn)]) hx hb dX6_putInOrder_26 hl (k := 0) rfl (by decide) (by decide) rfl (fun ls hl => ?_)
  refine lv_goto (tgt := 15) hx hb dX6_putInOrder_29 (by decide) ?_
  refine lv_iload_n hx hb dX6_putInOrder_15 rfl (lv_at hl 0 rfl) ?_
  refine lv_iconst (v := 4) hx hb dX6_putInOrder_16 (by decide) ?_
  refine lv_icmp_ge (tgt := 32) hx hb dX6_putInOrder_17 (by decide) (fun c9 => absurd c9 (by decide)) (fun _ => ?_)
  refine lv_aload_n hx hb dX6_putInOrder_20 rfl (lv_at hl 2 rfl) ?_
  refine lv_iload_n hx hb dX6_putInOrder_21 rfl (lv_at hl 1 rfl) ?_
  refine lv_iload_n hx hb dX6_putInOrder_22 rfl (lv_at hl 0 rfl) ?_
  refine va_csv (va_Run.run (va_runV (As := [.int 1, .int 3]) (rest := []) ⟨hx, hb, hml, hown, hts⟩ (c_putStage l G pn bk bd n1 pe pm n2 n3 pt pb px pg b1 b2 b3 b4 b5 ca v1 v2 v3 v4 v5 y 1 3 (by decide) (by decide)) (cwV 2 hts (gdV (List.mem_cons_of_mem _ (List.mem_append_left _ (List.mem_of_getElem? (i := 1) rfl))) (List.mem_cons_of_mem _ (List.mem_append_left _ (List.mem_of_getElem? (i := 2) rfl))) (List.mem_cons_of_mem _ (List.mem_append_left _ (List.mem_of_getElem? (i := 3) rfl))) (List.mem_cons_of_mem _ (List.mem_append_left _ (List.mem_of_getElem? (i := 4) rfl))) (fun w9 h9 => ⟨(List.mem_cons_of_mem _ (List.mem_append_right _ (List.mem_append_right _ (List.mem_append_left _ h9)))), gd_c_putStage w9 h9⟩)) rfl rfl rfl kVX6_putStageInOrder ⟨Nat.le_of_ble_eq_true rfl, Nat.le_of_ble_eq_true rfl⟩) (preV_p (As := [.int 1, .int 3]) (hP.sub (ws' := [(pn, .inr (7, [.ref bk, .ref bd, n1, .ref pe, .ref pm, n2, n3, .ref pt, .ref pb, .ref px, .ref pg, .int 0, .int y, .int 0])), (bd, .inr (1, [.ref bk, b1, b2, b3, b4, b5])), (bk, .inr (2, [.ref ca, v1, v2, v3, v4, v5])), (ca, .inl (gI G, 2088, .inl bk0))]) [0, 1, 2, 3] rfl) hB rfl rfl) rfl rfl hl.1 rfl (lv_room (Nat.le_of_ble_eq_true rfl)) dX6_putInOrder_23 ⟨Nat.le_of_ble_eq_true rfl, Nat.le_of_ble_eq_true rfl⟩)) (fun _ => ?_)
  refine W.eq (g2 := F0 m 26 ls []) rfl ?_
  refine lv_iinc (v := 4) (lv' := [(2, .int 4), (1, .int 1), (0, .ref pn)]) hx hb dX6_putInOrder_26 hl (k := 0) rfl (by decide) (by decide) rfl (fun ls hl => ?_)
  refine lv_goto (tgt := 15) hx hb dX6_putInOrder_29 (by decide) ?_
  refine lv_iload_n hx hb dX6_putInOrder_15 rfl (lv_at hl 0 rfl) ?_
  refine lv_iconst (v := 4) hx hb dX6_putInOrder_16 (by decide) ?_
  refine lv_icmp_ge (tgt := 32) hx hb dX6_putInOrder_17 (by decide) (fun _ => ?_) (fun c9 => absurd (by decide) c9)
  refine lv_iinc (v := 2) (lv' := [(1, .int 2), (2, .int 4), (0, .ref pn)]) hx hb dX6_putInOrder_32 hl (k := 1) rfl (by decide) (by decide) rfl (fun ls hl => ?_)
  refine lv_goto (tgt := 7) hx hb dX6_putInOrder_35 (by decide) ?_
  refine lv_iload_n hx hb dX6_putInOrder_7 rfl (lv_at hl 0 rfl) ?_
  refine lv_bipush (v := 20) hx hb dX6_putInOrder_8 (by decide) ?_
  refine lv_icmp_gt (tgt := 38) hx hb dX6_putInOrder_10 (by decide) (fun c9 => absurd c9 (by decide)) (fun _ => ?_)
  refine lv_iconst (v := 0) hx hb dX6_putInOrder_13 (by decide) ?_
  refine lv_istore_n (lv' := [(2, .int 0), (1, .int 2), (0, .ref pn)]) hx hb dX6_putInOrder_14 rfl hl (by decide) rfl (fun ls hl => ?_)
  refine lv_iload_n hx hb dX6_putInOrder_15 rfl (lv_at hl 0 rfl) ?_
  refine lv_iconst (v := 4) hx hb dX6_putInOrder_16 (by decide) ?_
  refine lv_icmp_ge (tgt := 32) hx hb dX6_putInOrder_17 (by decide) (fun c9 => absurd c9 (by decide)) (fun _ => ?_)
  refine lv_aload_n hx hb dX6_putInOrder_20 rfl (lv_at hl 2 rfl) ?_
  refine lv_iload_n hx hb dX6_putInOrder_21 rfl (lv_at hl 1 rfl) ?_
  refine lv_iload_n hx hb dX6_putInOrder_22 rfl (lv_at hl 0 rfl) ?_
  refine va_csv (va_Run.run (va_runV (As := [.int 2, .int 0]) (rest := []) ⟨hx, hb, hml, hown, hts⟩ (c_putStage l G pn bk bd n1 pe pm n2 n3 pt pb px pg b1 b2 b3 b4 b5 ca v1 v2 v3 v4 v5 y 2 0 (by decide) (by decide)) (cwV 2 hts (gdV (List.mem_cons_of_mem _ (List.mem_append_left _ (List.mem_of_getElem? (i := 1) rfl))) (List.mem_cons_of_mem _ (List.mem_append_left _ (List.mem_of_getElem? (i := 2) rfl))) (List.mem_cons_of_mem _ (List.mem_append_left _ (List.mem_of_getElem? (i := 3) rfl))) (List.mem_cons_of_mem _ (List.mem_append_left _ (List.mem_of_getElem? (i := 4) rfl))) (fun w9 h9 => ⟨(List.mem_cons_of_mem _ (List.mem_append_right _ (List.mem_append_right _ (List.mem_append_left _ h9)))), gd_c_putStage w9 h9⟩)) rfl rfl rfl kVX6_putStageInOrder ⟨Nat.le_of_ble_eq_true rfl, Nat.le_of_ble_eq_true rfl⟩) (preV_p (As := [.int 2, .int 0]) (hP.sub (ws' := [(pn, .inr (7, [.ref bk, .ref bd, n1, .ref pe, .ref pm, n2, n3, .ref pt, .ref pb, .ref px, .ref pg, .int 0, .int y, .int 0])), (bd, .inr (1, [.ref bk, b1, b2, b3, b4, b5])), (bk, .inr (2, [.ref ca, v1, v2, v3, v4, v5])), (ca, .inl (gI G, 2088, .inl bk0))]) [0, 1, 2, 3] rfl) hB rfl rfl) rfl rfl hl.1 rfl (lv_room (Nat.le_of_ble_eq_true rfl)) dX6_putInOrder_23 ⟨Nat.le_of_ble_eq_true rfl, Nat.le_of_ble_eq_true rfl⟩)) (fun _ => ?_)
  refine W.eq (g2 := F0 m 26 ls []) rfl ?_
  refine lv_iinc (v := 1) (lv' := [(2, .int 1), (1, .int 2), (0, .ref pn)]) hx hb dX6_putInOrder_26 hl (k := 0) rfl (by decide) (by decide) rfl (fun ls hl => ?_)
  refine lv_goto (tgt := 15) hx hb dX6_putInOrder_29 (by decide) ?_
  refine lv_iload_n hx hb dX6_putInOrder_15 rfl (lv_at hl 0 rfl) ?_
  refine lv_iconst (v := 4) hx hb dX6_putInOrder_16 (by decide) ?_
  refine lv_icmp_ge (tgt := 32) hx hb dX6_putInOrder_17 (by decide) (fun c9 => absurd c9 (by decide)) (fun _ => ?_)
  refine lv_aload_n hx hb dX6_putInOrder_20 rfl (lv_at hl 2 rfl) ?_
  refine lv_iload_n hx hb dX6_putInOrder_21 rfl (lv_at hl 1 rfl) ?_
  refine lv_iload_n hx hb dX6_putInOrder_22 rfl (lv_at hl 0 rfl) ?_
  refine va_csv (va_Run.run (va_runV (As := [.int 2, .int 1]) (rest := []) ⟨hx, hb, hml, hown, hts⟩ (c_putStage l G pn bk bd n1 pe pm n2 n3 pt pb px pg b1 b2 b3 b4 b5 ca v1 v2 v3 v4 v5 y 2 1 (by decide) (by decide)) (cwV 2 hts (gdV (List.mem_cons_of_mem _ (List.mem_append_left _ (List.mem_of_getElem? (i := 1) rfl))) (List.mem_cons_of_mem _ (List.mem_append_left _ (List.mem_of_getElem? (i := 2) rfl))) (List.mem_cons_of_mem _ (List.mem_append_left _ (List.mem_of_getElem? (i := 3) rfl))) (List.mem_cons_of_mem _ (List.mem_append_left _ (List.mem_of_getElem? (i := 4) rfl))) (fun w9 h9 => ⟨(List.mem_cons_of_mem _ (List.mem_append_right _ (List.mem_append_right _ (List.mem_append_left _ h9)))), gd_c_putStage w9 h9⟩)) rfl rfl rfl kVX6_putStageInOrder ⟨Nat.le_of_ble_eq_true rfl, Nat.le_of_ble_eq_true rfl⟩) (preV_p (As := [.int 2, .int 1]) (hP.sub (ws' := [(pn, .inr (7, [.ref bk, .ref bd, n1, .ref pe, .ref pm, n2, n3, .ref pt, .ref pb, .ref px, .ref pg, .int 0, .int y, .int 0])), (bd, .inr (1, [.ref bk, b1, b2, b3, b4, b5])), (bk, .inr (2, [.ref ca, v1, v2, v3, v4, v5])), (ca, .inl (gI G, 2088, .inl bk0))]) [0, 1, 2, 3] rfl) hB rfl rfl) rfl rfl hl.1 rfl (lv_room (Nat.le_of_ble_eq_true rfl)) dX6_putInOrder_23 ⟨Nat.le_of_ble_eq_true rfl, Nat.le_of_ble_eq_true rfl⟩)) (fun _ => ?_)
  refine W.eq (g2 := F0 m 26 ls []) rfl ?_
  refine lv_iinc (v := 2) (lv' := [(2, .int 2), (1, .int 2), (0, .ref pn)]) hx hb dX6_putInOrder_26 hl (k := 0) rfl (by decide) (by decide) rfl (fun ls hl => ?_)
  refine lv_goto (tgt := 15) hx hb dX6_putInOrder_29 (by decide) ?_
  refine lv_iload_n hx hb dX6_putInOrder_15 rfl (lv_at hl 0 rfl) ?_
  refine lv_iconst (v := 4) hx hb dX6_putInOrder_16 (by decide) ?_
  refine lv_icmp_ge (tgt := 32) hx hb dX6_putInOrder_17 (by decide) (fun c9 => absurd c9 (by decide)) (fun _ => ?_)
  refine lv_aload_n hx hb dX6_putInOrder_20 rfl (lv_at hl 2 rfl) ?_
  refine lv_iload_n hx hb dX6_putInOrder_21 rfl (lv_at hl 1 rfl) ?_
  refine lv_iload_n hx hb dX6_putInOrder_22 rfl (lv_at hl 0 rfl) ?_
  refine va_csv (va_Run.run (va_runV (As := [.int 2, .int 2]) (rest := []) ⟨hx, hb, hml, hown, hts⟩ (c_putStage l G pn bk bd n1 pe pm n2 n3 pt pb px pg b1 b2 b3 b4 b5 ca v1 v2 v3 v4 v5 y 2 2 (by decide) (by decide)) (cwV 2 hts (gdV (List.mem_cons_of_mem _ (List.mem_append_left _ (List.mem_of_getElem? (i := 1) rfl))) (List.mem_cons_of_mem _ (List.mem_append_left _ (List.mem_of_getElem? (i := 2) rfl))) (List.mem_cons_of_mem _ (List.mem_append_left _ (List.mem_of_getElem? (i := 3) rfl))) (List.mem_cons_of_mem _ (List.mem_append_left _ (List.mem_of_getElem? (i := 4) rfl))) (fun w9 h9 => ⟨(List.mem_cons_of_mem _ (List.mem_append_right _ (List.mem_append_right _ (List.mem_append_left _ h9)))), gd_c_putStage w9 h9⟩)) rfl rfl rfl kVX6_putStageInOrder ⟨Nat.le_of_ble_eq_true rfl, Nat.le_of_ble_eq_true rfl⟩) (preV_p (As := [.int 2, .int 2]) (hP.sub (ws' := [(pn, .inr (7, [.ref bk, .ref bd, n1, .ref pe, .ref pm, n2, n3, .ref pt, .ref pb, .ref px, .ref pg, .int 0, .int y, .int 0])), (bd, .inr (1, [.ref bk, b1, b2, b3, b4, b5])), (bk, .inr (2, [.ref ca, v1, v2, v3, v4, v5])), (ca, .inl (gI G, 2088, .inl bk0))]) [0, 1, 2, 3] rfl) hB rfl rfl) rfl rfl hl.1 rfl (lv_room (Nat.le_of_ble_eq_true rfl)) dX6_putInOrder_23 ⟨Nat.le_of_ble_eq_true rfl, Nat.le_of_ble_eq_true rfl⟩)) (fun _ => ?_)
  refine W.eq (g2 := F0 m 26 ls []) rfl ?_
  refine lv_iinc (v := 3) (lv' := [(2, .int 3), (1, .int 2), (0, .ref pn)]) hx hb dX6_putInOrder_26 hl (k := 0) rfl (by decide) (by decide) rfl (fun ls hl => ?_)
  refine lv_goto (tgt := 15) hx hb dX6_putInOrder_29 (by decide) ?_
  refine lv_iload_n hx hb dX6_putInOrder_15 rfl (lv_at hl 0 rfl) ?_
  refine lv_iconst (v := 4) hx hb dX6_putInOrder_16 (by decide) ?_
  refine lv_icmp_ge (tgt := 32) hx hb dX6_putInOrder_17 (by decide) (fun c9 => absurd c9 (by decide)) (fun _ => ?_)
  refine lv_aload_n hx hb dX6_putInOrder_20 rfl (lv_at hl 2 rfl) ?_
  refine lv_iload_n hx hb dX6_putInOrder_21 rfl (lv_at hl 1 rfl) ?_
  refine lv_iload_n hx hb dX6_putInOrder_22 rfl (lv_at hl 0 rfl) ?_
  refine va_csv (va_Run.run (va_runV (As := [.int 2, .int 3]) (rest := []) ⟨hx, hb, hml, hown, hts⟩ (c_putStage l G pn bk bd n1 pe pm n2 n3 pt pb px pg b1 b2 b3 b4 b5 ca v1 v2 v3 v4 v5 y 2 3 (by decide) (by decide)) (cwV 2 hts (gdV (List.mem_cons_of_mem _ (List.mem_append_left _ (List.mem_of_getElem? (i := 1) rfl))) (List.mem_cons_of_mem _ (List.mem_append_left _ (List.mem_of_getElem? (i := 2) rfl))) (List.mem_cons_of_mem _ (List.mem_append_left _ (List.mem_of_getElem? (i := 3) rfl))) (List.mem_cons_of_mem _ (List.mem_append_left _ (List.mem_of_getElem? (i := 4) rfl))) (fun w9 h9 => ⟨(List.mem_cons_of_mem _ (List.mem_append_right _ (List.mem_append_right _ (List.mem_append_left _ h9)))), gd_c_putStage w9 h9⟩)) rfl rfl rfl kVX6_putStageInOrder ⟨Nat.le_of_ble_eq_true rfl, Nat.le_of_ble_eq_true rfl⟩) (preV_p (As := [.int 2, .int 3]) (hP.sub (ws' := [(pn, .inr (7, [.ref bk, .ref bd, n1, .ref pe, .ref pm, n2, n3, .ref pt, .ref pb, .ref px, .ref pg, .int 0, .int y, .int 0])), (bd, .inr (1, [.ref bk, b1, b2, b3, b4, b5])), (bk, .inr (2, [.ref ca, v1, v2, v3, v4, v5])), (ca, .inl (gI G, 2088, .inl bk0))]) [0, 1, 2, 3] rfl) hB rfl rfl) rfl rfl hl.1 rfl (lv_room (Nat.le_of_ble_eq_true rfl)) dX6_putInOrder_23 ⟨Nat.le_of_ble_eq_true rfl, Nat.le_of_ble_eq_true rfl⟩)) (fun _ => ?_)
  refine W.eq (g2 := F0 m 26 ls []) rfl ?_
  refine lv_iinc (v := 4) (lv' := [(2, .int 4), (1, .int 2), (0, .ref pn)]) hx hb dX6_putInOrder_26 hl (k := 0) rfl (by decide) (by decide) rfl (fun ls hl => ?_)
  refine lv_goto (tgt := 15) hx hb dX6_putInOrder_29 (by decide) ?_
  refine lv_iload_n hx hb dX6_putInOrder_15 rfl (lv_at hl 0 rfl) ?_
  refine lv_iconst (v := 4) hx hb dX6_putInOrder_16 (by decide) ?_
  refine lv_icmp_ge (tgt := 32) hx hb dX6_putInOrder_17 (by decide) (fun _ => ?_) (fun c9 => absurd (by decide) c9)
  refine lv_iinc (v := 3) (lv' := [(1, .int 3), (2, .int 4), (0, .ref pn)]) hx hb dX6_putInOrder_32 hl (k := 1) rfl (by decide) (by decide) rfl (fun ls hl => ?_)
  refine lv_goto (tgt := 7) hx hb dX6_putInOrder_35 (by decide) ?_
  refine lv_iload_n hx hb dX6_putInOrder_7 rfl (lv_at hl 0 rfl) ?_
  refine lv_bipush (v := 20) hx hb dX6_putInOrder_8 (by decide) ?_
  refine lv_icmp_gt (tgt := 38) hx hb dX6_putInOrder_10 (by decide) (fun c9 => absurd c9 (by decide)) (fun _ => ?_)
  refine lv_iconst (v := 0) hx hb dX6_putInOrder_13 (by decide) ?_
  refine lv_istore_n (lv' := [(2, .int 0), (1, .int 3), (0, .ref pn)]) hx hb dX6_putInOrder_14 rfl hl (by decide) rfl (fun ls hl => ?_)
  refine lv_iload_n hx hb dX6_putInOrder_15 rfl (lv_at hl 0 rfl) ?_
  refine lv_iconst (v := 4) hx hb dX6_putInOrder_16 (by decide) ?_
  refine lv_icmp_ge (tgt := 32) hx hb dX6_putInOrder_17 (by decide) (fun c9 => absurd c9 (by decide)) (fun _ => ?_)
  refine lv_aload_n hx hb dX6_putInOrder_20 rfl (lv_at hl 2 rfl) ?_
  refine lv_iload_n hx hb dX6_putInOrder_21 rfl (lv_at hl 1 rfl) ?_
  refine lv_iload_n hx hb dX6_putInOrder_22 rfl (lv_at hl 0 rfl) ?_
  refine va_csv (va_Run.run (va_runV (As := [.int 3, .int 0]) (rest := []) ⟨hx, hb, hml, hown, hts⟩ (c_putStage l G pn bk bd n1 pe pm n2 n3 pt pb px pg b1 b2 b3 b4 b5 ca v1 v2 v3 v4 v5 y 3 0 (by decide) (by decide)) (cwV 2 hts (gdV (List.mem_cons_of_mem _ (List.mem_append_left _ (List.mem_of_getElem? (i := 1) rfl))) (List.mem_cons_of_mem _ (List.mem_append_left _ (List.mem_of_getElem? (i := 2) rfl))) (List.mem_cons_of_mem _ (List.mem_append_left _ (List.mem_of_getElem? (i := 3) rfl))) (List.mem_cons_of_mem _ (List.mem_append_left _ (List.mem_of_getElem? (i := 4) rfl))) (fun w9 h9 => ⟨(List.mem_cons_of_mem _ (List.mem_append_right _ (List.mem_append_right _ (List.mem_append_left _ h9)))), gd_c_putStage w9 h9⟩)) rfl rfl rfl kVX6_putStageInOrder ⟨Nat.le_of_ble_eq_true rfl, Nat.le_of_ble_eq_true rfl⟩) (preV_p (As := [.int 3, .int 0]) (hP.sub (ws' := [(pn, .inr (7, [.ref bk, .ref bd, n1, .ref pe, .ref pm, n2, n3, .ref pt, .ref pb, .ref px, .ref pg, .int 0, .int y, .int 0])), (bd, .inr (1, [.ref bk, b1, b2, b3, b4, b5])), (bk, .inr (2, [.ref ca, v1, v2, v3, v4, v5])), (ca, .inl (gI G, 2088, .inl bk0))]) [0, 1, 2, 3] rfl) hB rfl rfl) rfl rfl hl.1 rfl (lv_room (Nat.le_of_ble_eq_true rfl)) dX6_putInOrder_23 ⟨Nat.le_of_ble_eq_true rfl, Nat.le_of_ble_eq_true rfl⟩)) (fun _ => ?_)
  refine W.eq (g2 := F0 m 26 ls []) rfl ?_
  refine lv_iinc (v := 1) (lv' := [(2, .int 1), (1, .int 3), (0, .ref pn)]) hx hb dX6_putInOrder_26 hl (k := 0) rfl (by decide) (by decide) rfl (fun ls hl => ?_)
  refine lv_goto (tgt := 15) hx hb dX6_putInOrder_29 (by decide) ?_
  refine lv_iload_n hx hb dX6_putInOrder_15 rfl (lv_at hl 0 rfl) ?_
  refine lv_iconst (v := 4) hx hb dX6_putInOrder_16 (by decide) ?_
  refine lv_icmp_ge (tgt := 32) hx hb dX6_putInOrder_17 (by decide) (fun c9 => absurd c9 (by decide)) (fun _ => ?_)
  refine lv_aload_n hx hb dX6_putInOrder_20 rfl (lv_at hl 2 rfl) ?_
  refine lv_iload_n hx hb dX6_putInOrder_21 rfl (lv_at hl 1 rfl) ?_
  refine lv_iload_n hx hb dX6_putInOrder_22 rfl (lv_at hl 0 rfl) ?_
  refine va_csv (va_Run.run (va_runV (As := [.int 3, .int 1]) (rest := []) ⟨hx, hb, hml, hown, hts⟩ (c_putStage l G pn bk bd n1 pe pm n2 n3 pt pb px pg b1 b2 b3 b4 b5 ca v1 v2 v3 v4 v5 y 3 1 (by decide) (by decide)) (cwV 2 hts (gdV (List.mem_cons_of_mem _ (List.mem_append_left _ (List.mem_of_getElem? (i := 1) rfl))) (List.mem_cons_of_mem _ (List.mem_append_left _ (List.mem_of_getElem? (i := 2) rfl))) (List.mem_cons_of_mem _ (List.mem_append_left _ (List.mem_of_getElem? (i := 3) rfl))) (List.mem_cons_of_mem _ (List.mem_append_left _ (List.mem_of_getElem? (i := 4) rfl))) (fun w9 h9 => ⟨(List.mem_cons_of_mem _ (List.mem_append_right _ (List.mem_append_right _ (List.mem_append_left _ h9)))), gd_c_putStage w9 h9⟩)) rfl rfl rfl kVX6_putStageInOrder ⟨Nat.le_of_ble_eq_true rfl, Nat.le_of_ble_eq_true rfl⟩) (preV_p (As := [.int 3, .int 1]) (hP.sub (ws' := [(pn, .inr (7, [.ref bk, .ref bd, n1, .ref pe, .ref pm, n2, n3, .ref pt, .ref pb, .ref px, .ref pg, .int 0, .int y, .int 0])), (bd, .inr (1, [.ref bk, b1, b2, b3, b4, b5])), (bk, .inr (2, [.ref ca, v1, v2, v3, v4, v5])), (ca, .inl (gI G, 2088, .inl bk0))]) [0, 1, 2, 3] rfl) hB rfl rfl) rfl rfl hl.1 rfl (lv_room (Nat.le_of_ble_eq_true rfl)) dX6_putInOrder_23 ⟨Nat.le_of_ble_eq_true rfl, Nat.le_of_ble_eq_true rfl⟩)) (fun _ => ?_)
  refine W.eq (g2 := F0 m 26 ls []) rfl ?_
  refine lv_iinc (v := 2) (lv' := [(2, .int 2), (1, .int 3), (0, .ref pn)]) hx hb dX6_putInOrder_26 hl (k := 0) rfl (by decide) (by decide) rfl (fun ls hl => ?_)
  refine lv_goto (tgt := 15) hx hb dX6_putInOrder_29 (by decide) ?_
  refine lv_iload_n hx hb dX6_putInOrder_15 rfl (lv_at hl 0 rfl) ?_
  refine lv_iconst (v := 4) hx hb dX6_putInOrder_16 (by decide) ?_
  refine lv_icmp_ge (tgt := 32) hx hb dX6_putInOrder_17 (by decide) (fun c9 => absurd c9 (by decide)) (fun _ => ?_)
  refine lv_aload_n hx hb dX6_putInOrder_20 rfl (lv_at hl 2 rfl) ?_
  refine lv_iload_n hx hb dX6_putInOrder_21 rfl (lv_at hl 1 rfl) ?_
  refine lv_iload_n hx hb dX6_putInOrder_22 rfl (lv_at hl 0 rfl) ?_
  refine va_csv (va_Run.run (va_runV (As := [.int 3, .int 2]) (rest := []) ⟨hx, hb, hml, hown, hts⟩ (c_putStage l G pn bk bd n1 pe pm n2 n3 pt pb px pg b1 b2 b3 b4 b5 ca v1 v2 v3 v4 v5 y 3 2 (by decide) (by decide)) (cwV 2 hts (gdV (List.mem_cons_of_mem _ (List.mem_append_left _ (List.mem_of_getElem? (i := 1) rfl))) (List.mem_cons_of_mem _ (List.mem_append_left _ (List.mem_of_getElem? (i := 2) rfl))) (List.mem_cons_of_mem _ (List.mem_append_left _ (List.mem_of_getElem? (i := 3) rfl))) (List.mem_cons_of_mem _ (List.mem_append_left _ (List.mem_of_getElem? (i := 4) rfl))) (fun w9 h9 => ⟨(List.mem_cons_of_mem _ (List.mem_append_right _ (List.mem_append_right _ (List.mem_append_left _ h9)))), gd_c_putStage w9 h9⟩)) rfl rfl rfl kVX6_putStageInOrder ⟨Nat.le_of_ble_eq_true rfl, Nat.le_of_ble_eq_true rfl⟩) (preV_p (As := [.int 3, .int 2]) (hP.sub (ws' := [(pn, .inr (7, [.ref bk, .ref bd, n1, .ref pe, .ref pm, n2, n3, .ref pt, .ref pb, .ref px, .ref pg, .int 0, .int y, .int 0])), (bd, .inr (1, [.ref bk, b1, b2, b3, b4, b5])), (bk, .inr (2, [.ref ca, v1, v2, v3, v4, v5])), (ca, .inl (gI G, 2088, .inl bk0))]) [0, 1, 2, 3] rfl) hB rfl rfl) rfl rfl hl.1 rfl (lv_room (Nat.le_of_ble_eq_true rfl)) dX6_putInOrder_23 ⟨Nat.le_of_ble_eq_true rfl, Nat.le_of_ble_eq_true rfl⟩)) (fun _ => ?_)
  refine W.eq (g2 := F0 m 26 ls []) rfl ?_
  refine lv_iinc (v := 3) (lv' := [(2, .int 3), (1, .int 3), (0, .ref pn)]) hx hb dX6_putInOrder_26 hl (k := 0) rfl (by decide) (by decide) rfl (fun ls hl => ?_)
  refine lv_goto (tgt := 15) hx hb dX6_putInOrder_29 (by decide) ?_
  refine lv_iload_n hx hb dX6_putInOrder_15 rfl (lv_at hl 0 rfl) ?_
  refine lv_iconst (v := 4) hx hb dX6_putInOrder_16 (by decide) ?_
  refine lv_icmp_ge (tgt := 32) hx hb dX6_putInOrder_17 (by decide) (fun c9 => absurd c9 (by decide)) (fun _ => ?_)
  refine lv_aload_n hx hb dX6_putInOrder_20 rfl (lv_at hl 2 rfl) ?_
  refine lv_iload_n hx hb dX6_putInOrder_21 rfl (lv_at hl 1 rfl) ?_
  refine lv_iload_n hx hb dX6_putInOrder_22 rfl (lv_at hl 0 rfl) ?_
  refine va_csv (va_Run.run (va_runV (As := [.int 3, .int 3]) (rest := []) ⟨hx, hb, hml, hown, hts⟩ (c_putStage l G pn bk bd n1 pe pm n2 n3 pt pb px pg b1 b2 b3 b4 b5 ca v1 v2 v3 v4 v5 y 3 3 (by decide) (by decide)) (cwV 2 hts (gdV (List.mem_cons_of_mem _ (List.mem_append_left _ (List.mem_of_getElem? (i := 1) rfl))) (List.mem_cons_of_mem _ (List.mem_append_left _ (List.mem_of_getElem? (i := 2) rfl))) (List.mem_cons_of_mem _ (List.mem_append_left _ (List.mem_of_getElem? (i := 3) rfl))) (List.mem_cons_of_mem _ (List.mem_append_left _ (List.mem_of_getElem? (i := 4) rfl))) (fun w9 h9 => ⟨(List.mem_cons_of_mem _ (List.mem_append_right _ (List.mem_append_right _ (List.mem_append_left _ h9)))), gd_c_putStage w9 h9⟩)) rfl rfl rfl kVX6_putStageInOrder ⟨Nat.le_of_ble_eq_true rfl, Nat.le_of_ble_eq_true rfl⟩) (preV_p (As := [.int 3, .int 3]) (hP.sub (ws' := [(pn, .inr (7, [.ref bk, .ref bd, n1, .ref pe, .ref pm, n2, n3, .ref pt, .ref pb, .ref px, .ref pg, .int 0, .int y, .int 0])), (bd, .inr (1, [.ref bk, b1, b2, b3, b4, b5])), (bk, .inr (2, [.ref ca, v1, v2, v3, v4, v5])), (ca, .inl (gI G, 2088, .inl bk0))]) [0, 1, 2, 3] rfl) hB rfl rfl) rfl rfl hl.1 rfl (lv_room (Nat.le_of_ble_eq_true rfl)) dX6_putInOrder_23 ⟨Nat.le_of_ble_eq_true rfl, Nat.le_of_ble_eq_true rfl⟩)) (fun _ => ?_)
  refine W.eq (g2 := F0 m 26 ls []) rfl ?_
  refine lv_iinc (v := 4) (lv' := [(2, .int 4), (1, .int 3), (0, .ref pn)]) hx hb dX6_putInOrder_26 hl (k := 0) rfl (by decide) (by decide) rfl (fun ls hl => ?_)
  refine lv_goto (tgt := 15) hx hb dX6_putInOrder_29 (by decide) ?_
  refine lv_iload_n hx hb dX6_putInOrder_15 rfl (lv_at hl 0 rfl) ?_
  refine lv_iconst (v := 4) hx hb dX6_putInOrder_16 (by decide) ?_
  refine lv_icmp_ge (tgt := 32) hx hb dX6_putInOrder_17 (by decide) (fun _ => ?_) (fun c9 => absurd (by decide) c9)
  refine lv_iinc (v := 4) (lv' := [(1, .int 4), (2, .int 4), (0, .ref pn)]) hx hb dX6_putInOrder_32 hl (k := 1) rfl (by decide) (by decide) rfl (fun ls hl => ?_)
  refine lv_goto (tgt := 7) hx hb dX6_putInOrder_35 (by decide) ?_
  refine lv_iload_n hx hb dX6_putInOrder_7 rfl (lv_at hl 0 rfl) ?_
  refine lv_bipush (v := 20) hx hb dX6_putInOrder_8 (by decide) ?_
  refine lv_icmp_gt (tgt := 38) hx hb dX6_putInOrder_10 (by decide) (fun c9 => absurd c9 (by decide)) (fun _ => ?_)
  refine lv_iconst (v := 0) hx hb dX6_putInOrder_13 (by decide) ?_
  refine lv_istore_n (lv' := [(2, .int 0), (1, .int 4), (0, .ref pn)]) hx hb dX6_putInOrder_14 rfl hl (by decide) rfl (fun ls hl => ?_)
  refine lv_iload_n hx hb dX6_putInOrder_15 rfl (lv_at hl 0 rfl) ?_
  refine lv_iconst (v := 4) hx hb dX6_putInOrder_16 (by decide) ?_
  refine lv_icmp_ge (tgt := 32) hx hb dX6_putInOrder_17 (by decide) (fun c9 => absurd c9 (by decide)) (fun _ => ?_)
  refine lv_aload_n hx hb dX6_putInOrder_20 rfl (lv_at hl 2 rfl) ?_
  refine lv_iload_n hx hb dX6_putInOrder_21 rfl (lv_at hl 1 rfl) ?_
  refine lv_iload_n hx hb dX6_putInOrder_22 rfl (lv_at hl 0 rfl) ?_
  refine va_csv (va_Run.run (va_runV (As := [.int 4, .int 0]) (rest := []) ⟨hx, hb, hml, hown, hts⟩ (c_putStage l G pn bk bd n1 pe pm n2 n3 pt pb px pg b1 b2 b3 b4 b5 ca v1 v2 v3 v4 v5 y 4 0 (by decide) (by decide)) (cwV 2 hts (gdV (List.mem_cons_of_mem _ (List.mem_append_left _ (List.mem_of_getElem? (i := 1) rfl))) (List.mem_cons_of_mem _ (List.mem_append_left _ (List.mem_of_getElem? (i := 2) rfl))) (List.mem_cons_of_mem _ (List.mem_append_left _ (List.mem_of_getElem? (i := 3) rfl))) (List.mem_cons_of_mem _ (List.mem_append_left _ (List.mem_of_getElem? (i := 4) rfl))) (fun w9 h9 => ⟨(List.mem_cons_of_mem _ (List.mem_append_right _ (List.mem_append_right _ (List.mem_append_left _ h9)))), gd_c_putStage w9 h9⟩)) rfl rfl rfl kVX6_putStageInOrder ⟨Nat.le_of_ble_eq_true rfl, Nat.le_of_ble_eq_true rfl⟩) (preV_p (As := [.int 4, .int 0]) (hP.sub (ws' := [(pn, .inr (7, [.ref bk, .ref bd, n1, .ref pe, .ref pm, n2, n3, .ref pt, .ref pb, .ref px, .ref pg, .int 0, .int y, .int 0])), (bd, .inr (1, [.ref bk, b1, b2, b3, b4, b5])), (bk, .inr (2, [.ref ca, v1, v2, v3, v4, v5])), (ca, .inl (gI G, 2088, .inl bk0))]) [0, 1, 2, 3] rfl) hB rfl rfl) rfl rfl hl.1 rfl (lv_room (Nat.le_of_ble_eq_true rfl)) dX6_putInOrder_23 ⟨Nat.le_of_ble_eq_true rfl, Nat.le_of_ble_eq_true rfl⟩)) (fun _ => ?_)
  refine W.eq (g2 := F0 m 26 ls []) rfl ?_
  refine lv_iinc (v := 1) (lv' := [(2, .int 1), (1, .int 4), (0, .ref pn)]) hx hb dX6_putInOrder_26 hl (k := 0) rfl (by decide) (by decide) rfl (fun ls hl => ?_)
  refine lv_goto (tgt := 15) hx hb dX6_putInOrder_29 (by decide) ?_
  refine lv_iload_n hx hb dX6_putInOrder_15 rfl (lv_at hl 0 rfl) ?_
  refine lv_iconst (v := 4) hx hb dX6_putInOrder_16 (by decide) ?_
  refine lv_icmp_ge (tgt := 32) hx hb dX6_putInOrder_17 (by decide) (fun c9 => absurd c9 (by decide)) (fun _ => ?_)
  refine lv_aload_n hx hb dX6_putInOrder_20 rfl (lv_at hl 2 rfl) ?_
  refine lv_iload_n hx hb dX6_putInOrder_21 rfl (lv_at hl 1 rfl) ?_
  refine lv_iload_n hx hb dX6_putInOrder_22 rfl (lv_at hl 0 rfl) ?_
  refine va_csv (va_Run.run (va_runV (As := [.int 4, .int 1]) (rest := []) ⟨hx, hb, hml, hown, hts⟩ (c_putStage l G pn bk bd n1 pe pm n2 n3 pt pb px pg b1 b2 b3 b4 b5 ca v1 v2 v3 v4 v5 y 4 1 (by decide) (by decide)) (cwV 2 hts (gdV (List.mem_cons_of_mem _ (List.mem_append_left _ (List.mem_of_getElem? (i := 1) rfl))) (List.mem_cons_of_mem _ (List.mem_append_left _ (List.mem_of_getElem? (i := 2) rfl))) (List.mem_cons_of_mem _ (List.mem_append_left _ (List.mem_of_getElem? (i := 3) rfl))) (List.mem_cons_of_mem _ (List.mem_append_left _ (List.mem_of_getElem? (i := 4) rfl))) (fun w9 h9 => ⟨(List.mem_cons_of_mem _ (List.mem_append_right _ (List.mem_append_right _ (List.mem_append_left _ h9)))), gd_c_putStage w9 h9⟩)) rfl rfl rfl kVX6_putStageInOrder ⟨Nat.le_of_ble_eq_true rfl, Nat.le_of_ble_eq_true rfl⟩) (preV_p (As := [.int 4, .int 1]) (hP.sub (ws' := [(pn, .inr (7, [.ref bk, .ref bd, n1, .ref pe, .ref pm, n2, n3, .ref pt, .ref pb, .ref px, .ref pg, .int 0, .int y, .int 0])), (bd, .inr (1, [.ref bk, b1, b2, b3, b4, b5])), (bk, .inr (2, [.ref ca, v1, v2, v3, v4, v5])), (ca, .inl (gI G, 2088, .inl bk0))]) [0, 1, 2, 3] rfl) hB rfl rfl) rfl rfl hl.1 rfl (lv_room (Nat.le_of_ble_eq_true rfl)) dX6_putInOrder_23 ⟨Nat.le_of_ble_eq_true rfl, Nat.le_of_ble_eq_true rfl⟩)) (fun _ => ?_)
  refine W.eq (g2 := F0 m 26 ls []) rfl ?_
  refine lv_iinc (v := 2) (lv' := [(2, .int 2), (1, .int 4), (0, .ref pn)]) hx hb dX6_putInOrder_26 hl (k := 0) rfl (by decide) (by decide) rfl (fun ls hl => ?_)
  refine lv_goto (tgt := 15) hx hb dX6_putInOrder_29 (by decide) ?_
  refine lv_iload_n hx hb dX6_putInOrder_15 rfl (lv_at hl 0 rfl) ?_
  refine lv_iconst (v := 4) hx hb dX6_putInOrder_16 (by decide) ?_
  refine lv_icmp_ge (tgt := 32) hx hb dX6_putInOrder_17 (by decide) (fun c9 => absurd c9 (by decide)) (fun _ => ?_)
  refine lv_aload_n hx hb dX6_putInOrder_20 rfl (lv_at hl 2 rfl) ?_
  refine lv_iload_n hx hb dX6_putInOrder_21 rfl (lv_at hl 1 rfl) ?_
  refine lv_iload_n hx hb dX6_putInOrder_22 rfl (lv_at hl 0 rfl) ?_
  refine va_csv (va_Run.run (va_runV (As := [.int 4, .int 2]) (rest := []) ⟨hx, hb, hml, hown, hts⟩ (c_putStage l G pn bk bd n1 pe pm n2 n3 pt pb px pg b1 b2 b3 b4 b5 ca v1 v2 v3 v4 v5 y 4 2 (by decide) (by decide)) (cwV 2 hts (gdV (List.mem_cons_of_mem _ (List.mem_append_left _ (List.mem_of_getElem? (i := 1) rfl))) (List.mem_cons_of_mem _ (List.mem_append_left _ (List.mem_of_getElem? (i := 2) rfl))) (List.mem_cons_of_mem _ (List.mem_append_left _ (List.mem_of_getElem? (i := 3) rfl))) (List.mem_cons_of_mem _ (List.mem_append_left _ (List.mem_of_getElem? (i := 4) rfl))) (fun w9 h9 => ⟨(List.mem_cons_of_mem _ (List.mem_append_right _ (List.mem_append_right _ (List.mem_append_left _ h9)))), gd_c_putStage w9 h9⟩)) rfl rfl rfl kVX6_putStageInOrder ⟨Nat.le_of_ble_eq_true rfl, Nat.le_of_ble_eq_true rfl⟩) (preV_p (As := [.int 4, .int 2]) (hP.sub (ws' := [(pn, .inr (7, [.ref bk, .ref bd, n1, .ref pe, .ref pm, n2, n3, .ref pt, .ref pb, .ref px, .ref pg, .int 0, .int y, .int 0])), (bd, .inr (1, [.ref bk, b1, b2, b3, b4, b5])), (bk, .inr (2, [.ref ca, v1, v2, v3, v4, v5])), (ca, .inl (gI G, 2088, .inl bk0))]) [0, 1, 2, 3] rfl) hB rfl rfl) rfl rfl hl.1 rfl (lv_room (Nat.le_of_ble_eq_true rfl)) dX6_putInOrder_23 ⟨Nat.le_of_ble_eq_true rfl, Nat.le_of_ble_eq_true rfl⟩)) (fun _ => ?_)
  refine W.eq (g2 := F0 m 26 ls []) rfl ?_
  refine lv_iinc (v := 3) (lv' := [(2, .int 3), (1, .int 4), (0, .ref pn)]) hx hb dX6_putInOrder_26 hl (k := 0) rfl (by decide) (by decide) rfl (fun ls hl => ?_)
  refine lv_goto (tgt := 15) hx hb dX6_putInOrder_29 (by decide) ?_
  refine lv_iload_n hx hb dX6_putInOrder_15 rfl (lv_at hl 0 rfl) ?_
  refine lv_iconst (v := 4) hx hb dX6_putInOrder_16 (by decide) ?_
  refine lv_icmp_ge (tgt := 32) hx hb dX6_putInOrder_17 (by decide) (fun c9 => absurd c9 (by decide)) (fun _ => ?_)
  refine lv_aload_n hx hb dX6_putInOrder_20 rfl (lv_at hl 2 rfl) ?_
  refine lv_iload_n hx hb dX6_putInOrder_21 rfl (lv_at hl 1 rfl) ?_
  refine lv_iload_n hx hb dX6_putInOrder_22 rfl (lv_at hl 0 rfl) ?_
  refine va_csv (va_Run.run (va_runV (As := [.int 4, .int 3]) (rest := []) ⟨hx, hb, hml, hown, hts⟩ (c_putStage l G pn bk bd n1 pe pm n2 n3 pt pb px pg b1 b2 b3 b4 b5 ca v1 v2 v3 v4 v5 y 4 3 (by decide) (by decide)) (cwV 2 hts (gdV (List.mem_cons_of_mem _ (List.mem_append_left _ (List.mem_of_getElem? (i := 1) rfl))) (List.mem_cons_of_mem _ (List.mem_append_left _ (List.mem_of_getElem? (i := 2) rfl))) (List.mem_cons_of_mem _ (List.mem_append_left _ (List.mem_of_getElem? (i := 3) rfl))) (List.mem_cons_of_mem _ (List.mem_append_left _ (List.mem_of_getElem? (i := 4) rfl))) (fun w9 h9 => ⟨(List.mem_cons_of_mem _ (List.mem_append_right _ (List.mem_append_right _ (List.mem_append_left _ h9)))), gd_c_putStage w9 h9⟩)) rfl rfl rfl kVX6_putStageInOrder ⟨Nat.le_of_ble_eq_true rfl, Nat.le_of_ble_eq_true rfl⟩) (preV_p (As := [.int 4, .int 3]) (hP.sub (ws' := [(pn, .inr (7, [.ref bk, .ref bd, n1, .ref pe, .ref pm, n2, n3, .ref pt, .ref pb, .ref px, .ref pg, .int 0, .int y, .int 0])), (bd, .inr (1, [.ref bk, b1, b2, b3, b4, b5])), (bk, .inr (2, [.ref ca, v1, v2, v3, v4, v5])), (ca, .inl (gI G, 2088, .inl bk0))]) [0, 1, 2, 3] rfl) hB rfl rfl) rfl rfl hl.1 rfl (lv_room (Nat.le_of_ble_eq_true rfl)) dX6_putInOrder_23 ⟨Nat.le_of_ble_eq_true rfl, Nat.le_of_ble_eq_true rfl⟩)) (fun _ => ?_)
  refine W.eq (g2 := F0 m 26 ls []) rfl ?_
  refine lv_iinc (v := 4) (lv' := [(2, .int 4), (1, .int 4), (0, .ref pn)]) hx hb dX6_putInOrder_26 hl (k := 0) rfl (by decide) (by decide) rfl (fun ls hl => ?_)
  refine lv_goto (tgt := 15) hx hb dX6_putInOrder_29 (by decide) ?_
  refine lv_iload_n hx hb dX6_putInOrder_15 rfl (lv_at hl 0 rfl) ?_
  refine lv_iconst (v := 4) hx hb dX6_putInOrder_16 (by decide) ?_
  refine lv_icmp_ge (tgt := 32) hx hb dX6_putInOrder_17 (by decide) (fun _ => ?_) (fun c9 => absurd (by decide) c9)
  refine lv_iinc (v := 5) (lv' := [(1, .int 5), (2, .int 4), (0, .ref pn)]) hx hb dX6_putInOrder_32 hl (k := 1) rfl (by decide) (by decide) rfl (fun ls hl => ?_)
  refine lv_goto (tgt := 7) hx hb dX6_putInOrder_35 (by decide) ?_
  refine lv_iload_n hx hb dX6_putInOrder_7 rfl (lv_at hl 0 rfl) ?_
  refine lv_bipush (v := 20) hx hb dX6_putInOrder_8 (by decide) ?_
  refine lv_icmp_gt (tgt := 38) hx hb dX6_putInOrder_10 (by decide) (fun c9 => absurd c9 (by decide)) (fun _ => ?_)
  refine lv_iconst (v := 0) hx hb dX6_putInOrder_13 (by decide) ?_
  refine lv_istore_n (lv' := [(2, .int 0), (1, .int 5), (0, .ref pn)]) hx hb dX6_putInOrder_14 rfl hl (by decide) rfl (fun ls hl => ?_)
  refine lv_iload_n hx hb dX6_putInOrder_15 rfl (lv_at hl 0 rfl) ?_
  refine lv_iconst (v := 4) hx hb dX6_putInOrder_16 (by decide) ?_
  refine lv_icmp_ge (tgt := 32) hx hb dX6_putInOrder_17 (by decide) (fun c9 => absurd c9 (by decide)) (fun _ => ?_)
  refine lv_aload_n hx hb dX6_putInOrder_20 rfl (lv_at hl 2 rfl) ?_
  refine lv_iload_n hx hb dX6_putInOrder_21 rfl (lv_at hl 1 rfl) ?_
  refine lv_iload_n hx hb dX6_putInOrder_22 rfl (lv_at hl 0 rfl) ?_
  refine va_csv (va_Run.run (va_runV (As := [.int 5, .int 0]) (rest := []) ⟨hx, hb, hml, hown, hts⟩ (c_putStage l G pn bk bd n1 pe pm n2 n3 pt pb px pg b1 b2 b3 b4 b5 ca v1 v2 v3 v4 v5 y 5 0 (by decide) (by decide)) (cwV 2 hts (gdV (List.mem_cons_of_mem _ (List.mem_append_left _ (List.mem_of_getElem? (i := 1) rfl))) (List.mem_cons_of_mem _ (List.mem_append_left _ (List.mem_of_getElem? (i := 2) rfl))) (List.mem_cons_of_mem _ (List.mem_append_left _ (List.mem_of_getElem? (i := 3) rfl))) (List.mem_cons_of_mem _ (List.mem_append_left _ (List.mem_of_getElem? (i := 4) rfl))) (fun w9 h9 => ⟨(List.mem_cons_of_mem _ (List.mem_append_right _ (List.mem_append_right _ (List.mem_append_left _ h9)))), gd_c_putStage w9 h9⟩)) rfl rfl rfl kVX6_putStageInOrder ⟨Nat.le_of_ble_eq_true rfl, Nat.le_of_ble_eq_true rfl⟩) (preV_p (As := [.int 5, .int 0]) (hP.sub (ws' := [(pn, .inr (7, [.ref bk, .ref bd, n1, .ref pe, .ref pm, n2, n3, .ref pt, .ref pb, .ref px, .ref pg, .int 0, .int y, .int 0])), (bd, .inr (1, [.ref bk, b1, b2, b3, b4, b5])), (bk, .inr (2, [.ref ca, v1, v2, v3, v4, v5])), (ca, .inl (gI G, 2088, .inl bk0))]) [0, 1, 2, 3] rfl) hB rfl rfl) rfl rfl hl.1 rfl (lv_room (Nat.le_of_ble_eq_true rfl)) dX6_putInOrder_23 ⟨Nat.le_of_ble_eq_true rfl, Nat.le_of_ble_eq_true rfl⟩)) (fun _ => ?_)
  refine W.eq (g2 := F0 m 26 ls []) rfl ?_
  refine lv_iinc (v := 1) (lv' := [(2, .int 1), (1, .int 5), (0, .ref pn)]) hx hb dX6_putInOrder_26 hl (k := 0) rfl (by decide) (by decide) rfl (fun ls hl => ?_)
  refine lv_goto (tgt := 15) hx hb dX6_putInOrder_29 (by decide) ?_
  refine lv_iload_n hx hb dX6_putInOrder_15 rfl (lv_at hl 0 rfl) ?_
  refine lv_iconst (v := 4) hx hb dX6_putInOrder_16 (by decide) ?_
  refine lv_icmp_ge (tgt := 32) hx hb dX6_putInOrder_17 (by decide) (fun c9 => absurd c9 (by decide)) (fun _ => ?_)
  refine lv_aload_n hx hb dX6_putInOrder_20 rfl (lv_at hl 2 rfl) ?_
  refine lv_iload_n hx hb dX6_putInOrder_21 rfl (lv_at hl 1 rfl) ?_
  refine lv_iload_n hx hb dX6_putInOrder_22 rfl (lv_at hl 0 rfl) ?_
  refine va_csv (va_Run.run (va_runV (As := [.int 5, .int 1]) (rest := []) ⟨hx, hb, hml, hown, hts⟩ (c_putStage l G pn bk bd n1 pe pm n2 n3 pt pb px pg b1 b2 b3 b4 b5 ca v1 v2 v3 v4 v5 y 5 1 (by decide) (by decide)) (cwV 2 hts (gdV (List.mem_cons_of_mem _ (List.mem_append_left _ (List.mem_of_getElem? (i := 1) rfl))) (List.mem_cons_of_mem _ (List.mem_append_left _ (List.mem_of_getElem? (i := 2) rfl))) (List.mem_cons_of_mem _ (List.mem_append_left _ (List.mem_of_getElem? (i := 3) rfl))) (List.mem_cons_of_mem _ (List.mem_append_left _ (List.mem_of_getElem? (i := 4) rfl))) (fun w9 h9 => ⟨(List.mem_cons_of_mem _ (List.mem_append_right _ (List.mem_append_right _ (List.mem_append_left _ h9)))), gd_c_putStage w9 h9⟩)) rfl rfl rfl kVX6_putStageInOrder ⟨Nat.le_of_ble_eq_true rfl, Nat.le_of_ble_eq_true rfl⟩) (preV_p (As := [.int 5, .int 1]) (hP.sub (ws' := [(pn, .inr (7, [.ref bk, .ref bd, n1, .ref pe, .ref pm, n2, n3, .ref pt, .ref pb, .ref px, .ref pg, .int 0, .int y, .int 0])), (bd, .inr (1, [.ref bk, b1, b2, b3, b4, b5])), (bk, .inr (2, [.ref ca, v1, v2, v3, v4, v5])), (ca, .inl (gI G, 2088, .inl bk0))]) [0, 1, 2, 3] rfl) hB rfl rfl) rfl rfl hl.1 rfl (lv_room (Nat.le_of_ble_eq_true rfl)) dX6_putInOrder_23 ⟨Nat.le_of_ble_eq_true rfl, Nat.le_of_ble_eq_true rfl⟩)) (fun _ => ?_)
  refine W.eq (g2 := F0 m 26 ls []) rfl ?_
  refine lv_iinc (v := 2) (lv' := [(2, .int 2), (1, .int 5), (0, .ref pn)]) hx hb dX6_putInOrder_26 hl (k := 0) rfl (by decide) (by decide) rfl (fun ls hl => ?_)
  refine lv_goto (tgt := 15) hx hb dX6_putInOrder_29 (by decide) ?_
  refine lv_iload_n hx hb dX6_putInOrder_15 rfl (lv_at hl 0 rfl) ?_
  refine lv_iconst (v := 4) hx hb dX6_putInOrder_16 (by decide) ?_
  refine lv_icmp_ge (tgt := 32) hx hb dX6_putInOrder_17 (by decide) (fun c9 => absurd c9 (by decide)) (fun _ => ?_)
  refine lv_aload_n hx hb dX6_putInOrder_20 rfl (lv_at hl 2 rfl) ?_
  refine lv_iload_n hx hb dX6_putInOrder_21 rfl (lv_at hl 1 rfl) ?_
  refine lv_iload_n hx hb dX6_putInOrder_22 rfl (lv_at hl 0 rfl) ?_
  refine va_csv (va_Run.run (va_runV (As := [.int 5, .int 2]) (rest := []) ⟨hx, hb, hml, hown, hts⟩ (c_putStage l G pn bk bd n1 pe pm n2 n3 pt pb px pg b1 b2 b3 b4 b5 ca v1 v2 v3 v4 v5 y 5 2 (by decide) (by decide)) (cwV 2 hts (gdV (List.mem_cons_of_mem _ (List.mem_append_left _ (List.mem_of_getElem? (i := 1) rfl))) (List.mem_cons_of_mem _ (List.mem_append_left _ (List.mem_of_getElem? (i := 2) rfl))) (List.mem_cons_of_mem _ (List.mem_append_left _ (List.mem_of_getElem? (i := 3) rfl))) (List.mem_cons_of_mem _ (List.mem_append_left _ (List.mem_of_getElem? (i := 4) rfl))) (fun w9 h9 => ⟨(List.mem_cons_of_mem _ (List.mem_append_right _ (List.mem_append_right _ (List.mem_append_left _ h9)))), gd_c_putStage w9 h9⟩)) rfl rfl rfl kVX6_putStageInOrder ⟨Nat.le_of_ble_eq_true rfl, Nat.le_of_ble_eq_true rfl⟩) (preV_p (As := [.int 5, .int 2]) (hP.sub (ws' := [(pn, .inr (7, [.ref bk, .ref bd, n1, .ref pe, .ref pm, n2, n3, .ref pt, .ref pb, .ref px, .ref pg, .int 0, .int y, .int 0])), (bd, .inr (1, [.ref bk, b1, b2, b3, b4, b5])), (bk, .inr (2, [.ref ca, v1, v2, v3, v4, v5])), (ca, .inl (gI G, 2088, .inl bk0))]) [0, 1, 2, 3] rfl) hB rfl rfl) rfl rfl hl.1 rfl (lv_room (Nat.le_of_ble_eq_true rfl)) dX6_putInOrder_23 ⟨Nat.le_of_ble_eq_true rfl, Nat.le_of_ble_eq_true rfl⟩)) (fun _ => ?_)
  refine W.eq (g2 := F0 m 26 ls []) rfl ?_
  refine lv_iinc (v := 3) (lv' := [(2, .int 3), (1, .int 5), (0, .ref pn)]) hx hb dX6_putInOrder_26 hl (k := 0) rfl (by decide) (by decide) rfl (fun ls hl => ?_)
  refine lv_goto (tgt := 15) hx hb dX6_putInOrder_29 (by decide) ?_
  refine lv_iload_n hx hb dX6_putInOrder_15 rfl (lv_at hl 0 rfl) ?_
  refine lv_iconst (v := 4) hx hb dX6_putInOrder_16 (by decide) ?_
  refine lv_icmp_ge (tgt := 32) hx hb dX6_putInOrder_17 (by decide) (fun c9 => absurd c9 (by decide)) (fun _ => ?_)
  refine lv_aload_n hx hb dX6_putInOrder_20 rfl (lv_at hl 2 rfl) ?_
  refine lv_iload_n hx hb dX6_putInOrder_21 rfl (lv_at hl 1 rfl) ?_
  refine lv_iload_n hx hb dX6_putInOrder_22 rfl (lv_at hl 0 rfl) ?_
  refine va_csv (va_Run.run (va_runV (As := [.int 5, .int 3]) (rest := []) ⟨hx, hb, hml, hown, hts⟩ (c_putStage l G pn bk bd n1 pe pm n2 n3 pt pb px pg b1 b2 b3 b4 b5 ca v1 v2 v3 v4 v5 y 5 3 (by decide) (by decide)) (cwV 2 hts (gdV (List.mem_cons_of_mem _ (List.mem_append_left _ (List.mem_of_getElem? (i := 1) rfl))) (List.mem_cons_of_mem _ (List.mem_append_left _ (List.mem_of_getElem? (i := 2) rfl))) (List.mem_cons_of_mem _ (List.mem_append_left _ (List.mem_of_getElem? (i := 3) rfl))) (List.mem_cons_of_mem _ (List.mem_append_left _ (List.mem_of_getElem? (i := 4) rfl))) (fun w9 h9 => ⟨(List.mem_cons_of_mem _ (List.mem_append_right _ (List.mem_append_right _ (List.mem_append_left _ h9)))), gd_c_putStage w9 h9⟩)) rfl rfl rfl kVX6_putStageInOrder ⟨Nat.le_of_ble_eq_true rfl, Nat.le_of_ble_eq_true rfl⟩) (preV_p (As := [.int 5, .int 3]) (hP.sub (ws' := [(pn, .inr (7, [.ref bk, .ref bd, n1, .ref pe, .ref pm, n2, n3, .ref pt, .ref pb, .ref px, .ref pg, .int 0, .int y, .int 0])), (bd, .inr (1, [.ref bk, b1, b2, b3, b4, b5])), (bk, .inr (2, [.ref ca, v1, v2, v3, v4, v5])), (ca, .inl (gI G, 2088, .inl bk0))]) [0, 1, 2, 3] rfl) hB rfl rfl) rfl rfl hl.1 rfl (lv_room (Nat.le_of_ble_eq_true rfl)) dX6_putInOrder_23 ⟨Nat.le_of_ble_eq_true rfl, Nat.le_of_ble_eq_true rfl⟩)) (fun _ => ?_)
  refine W.eq (g2 := F0 m 26 ls []) rfl ?_
  refine lv_iinc (v := 4) (lv' := [(2, .int 4), (1, .int 5), (0, .ref pn)]) hx hb dX6_putInOrder_26 hl (k := 0) rfl (by decide) (by decide) rfl (fun ls hl => ?_)
  refine lv_goto (tgt := 15) hx hb dX6_putInOrder_29 (by decide) ?_
  refine lv_iload_n hx hb dX6_putInOrder_15 rfl (lv_at hl 0 rfl) ?_
  refine lv_iconst (v := 4) hx hb dX6_putInOrder_16 (by decide) ?_
  refine lv_icmp_ge (tgt := 32) hx hb dX6_putInOrder_17 (by decide) (fun _ => ?_) (fun c9 => absurd (by decide) c9)
  refine lv_iinc (v := 6) (lv' := [(1, .int 6), (2, .int 4), (0, .ref pn)]) hx hb dX6_putInOrder_32 hl (k := 1) rfl (by decide) (by decide) rfl (fun ls hl => ?_)
  refine lv_goto (tgt := 7) hx hb dX6_putInOrder_35 (by decide) ?_
  refine lv_iload_n hx hb dX6_putInOrder_7 rfl (lv_at hl 0 rfl) ?_
  refine lv_bipush (v := 20) hx hb dX6_putInOrder_8 (by decide) ?_
  refine lv_icmp_gt (tgt := 38) hx hb dX6_putInOrder_10 (by decide) (fun c9 => absurd c9 (by decide)) (fun _ => ?_)
  refine lv_iconst (v := 0) hx hb dX6_putInOrder_13 (by decide) ?_
  refine lv_istore_n (lv' := [(2, .int 0), (1, .int 6), (0, .ref pn)]) hx hb dX6_putInOrder_14 rfl hl (by decide) rfl (fun ls hl => ?_)
  refine lv_iload_n hx hb dX6_putInOrder_15 rfl (lv_at hl 0 rfl) ?_
  refine lv_iconst (v := 4) hx hb dX6_putInOrder_16 (by decide) ?_
  refine lv_icmp_ge (tgt := 32) hx hb dX6_putInOrder_17 (by decide) (fun c9 => absurd c9 (by decide)) (fun _ => ?_)
  refine lv_aload_n hx hb dX6_putInOrder_20 rfl (lv_at hl 2 rfl) ?_
  refine lv_iload_n hx hb dX6_putInOrder_21 rfl (lv_at hl 1 rfl) ?_
  refine lv_iload_n hx hb dX6_putInOrder_22 rfl (lv_at hl 0 rfl) ?_
  refine va_csv (va_Run.run (va_runV (As := [.int 6, .int 0]) (rest := []) ⟨hx, hb, hml, hown, hts⟩ (c_putStage l G pn bk bd n1 pe pm n2 n3 pt pb px pg b1 b2 b3 b4 b5 ca v1 v2 v3 v4 v5 y 6 0 (by decide) (by decide)) (cwV 2 hts (gdV (List.mem_cons_of_mem _ (List.mem_append_left _ (List.mem_of_getElem? (i := 1) rfl))) (List.mem_cons_of_mem _ (List.mem_append_left _ (List.mem_of_getElem? (i := 2) rfl))) (List.mem_cons_of_mem _ (List.mem_append_left _ (List.mem_of_getElem? (i := 3) rfl))) (List.mem_cons_of_mem _ (List.mem_append_left _ (List.mem_of_getElem? (i := 4) rfl))) (fun w9 h9 => ⟨(List.mem_cons_of_mem _ (List.mem_append_right _ (List.mem_append_right _ (List.mem_append_left _ h9)))), gd_c_putStage w9 h9⟩)) rfl rfl rfl kVX6_putStageInOrder ⟨Nat.le_of_ble_eq_true rfl, Nat.le_of_ble_eq_true rfl⟩) (preV_p (As := [.int 6, .int 0]) (hP.sub (ws' := [(pn, .inr (7, [.ref bk, .ref bd, n1, .ref pe, .ref pm, n2, n3, .ref pt, .ref pb, .ref px, .ref pg, .int 0, .int y, .int 0])), (bd, .inr (1, [.ref bk, b1, b2, b3, b4, b5])), (bk, .inr (2, [.ref ca, v1, v2, v3, v4, v5])), (ca, .inl (gI G, 2088, .inl bk0))]) [0, 1, 2, 3] rfl) hB rfl rfl) rfl rfl hl.1 rfl (lv_room (Nat.le_of_ble_eq_true rfl)) dX6_putInOrder_23 ⟨Nat.le_of_ble_eq_true rfl, Nat.le_of_ble_eq_true rfl⟩)) (fun _ => ?_)
  refine W.eq (g2 := F0 m 26 ls []) rfl ?_
  refine lv_iinc (v := 1) (lv' := [(2, .int 1), (1, .int 6), (0, .ref pn)]) hx hb dX6_putInOrder_26 hl (k := 0) rfl (by decide) (by decide) rfl (fun ls hl => ?_)
  refine lv_goto (tgt := 15) hx hb dX6_putInOrder_29 (by decide) ?_
  refine lv_iload_n hx hb dX6_putInOrder_15 rfl (lv_at hl 0 rfl) ?_
  refine lv_iconst (v := 4) hx hb dX6_putInOrder_16 (by decide) ?_
  refine lv_icmp_ge (tgt := 32) hx hb dX6_putInOrder_17 (by decide) (fun c9 => absurd c9 (by decide)) (fun _ => ?_)
  refine lv_aload_n hx hb dX6_putInOrder_20 rfl (lv_at hl 2 rfl) ?_
  refine lv_iload_n hx hb dX6_putInOrder_21 rfl (lv_at hl 1 rfl) ?_
  refine lv_iload_n hx hb dX6_putInOrder_22 rfl (lv_at hl 0 rfl) ?_
  refine va_csv (va_Run.run (va_runV (As := [.int 6, .int 1]) (rest := []) ⟨hx, hb, hml, hown, hts⟩ (c_putStage l G pn bk bd n1 pe pm n2 n3 pt pb px pg b1 b2 b3 b4 b5 ca v1 v2 v3 v4 v5 y 6 1 (by decide) (by decide)) (cwV 2 hts (gdV (List.mem_cons_of_mem _ (List.mem_append_left _ (List.mem_of_getElem? (i := 1) rfl))) (List.mem_cons_of_mem _ (List.mem_append_left _ (List.mem_of_getElem? (i := 2) rfl))) (List.mem_cons_of_mem _ (List.mem_append_left _ (List.mem_of_getElem? (i := 3) rfl))) (List.mem_cons_of_mem _ (List.mem_append_left _ (List.mem_of_getElem? (i := 4) rfl))) (fun w9 h9 => ⟨(List.mem_cons_of_mem _ (List.mem_append_right _ (List.mem_append_right _ (List.mem_append_left _ h9)))), gd_c_putStage w9 h9⟩)) rfl rfl rfl kVX6_putStageInOrder ⟨Nat.le_of_ble_eq_true rfl, Nat.le_of_ble_eq_true rfl⟩) (preV_p (As := [.int 6, .int 1]) (hP.sub (ws' := [(pn, .inr (7, [.ref bk, .ref bd, n1, .ref pe, .ref pm, n2, n3, .ref pt, .ref pb, .ref px, .ref pg, .int 0, .int y, .int 0])), (bd, .inr (1, [.ref bk, b1, b2, b3, b4, b5])), (bk, .inr (2, [.ref ca, v1, v2, v3, v4, v5])), (ca, .inl (gI G, 2088, .inl bk0))]) [0, 1, 2, 3] rfl) hB rfl rfl) rfl rfl hl.1 rfl (lv_room (Nat.le_of_ble_eq_true rfl)) dX6_putInOrder_23 ⟨Nat.le_of_ble_eq_true rfl, Nat.le_of_ble_eq_true rfl⟩)) (fun _ => ?_)
  refine W.eq (g2 := F0 m 26 ls []) rfl ?_
  refine lv_iinc (v := 2) (lv' := [(2, .int 2), (1, .int 6), (0, .ref pn)]) hx hb dX6_putInOrder_26 hl (k := 0) rfl (by decide) (by decide) rfl (fun ls hl => ?_)
  refine lv_goto (tgt := 15) hx hb dX6_putInOrder_29 (by decide) ?_
  refine lv_iload_n hx hb dX6_putInOrder_15 rfl (lv_at hl 0 rfl) ?_
  refine lv_iconst (v := 4) hx hb dX6_putInOrder_16 (by decide) ?_
  refine lv_icmp_ge (tgt := 32) hx hb dX6_putInOrder_17 (by decide) (fun c9 => absurd c9 (by decide)) (fun _ => ?_)
  refine lv_aload_n hx hb dX6_putInOrder_20 rfl (lv_at hl 2 rfl) ?_
  refine lv_iload_n hx hb dX6_putInOrder_21 rfl (lv_at hl 1 rfl) ?_
  refine lv_iload_n hx hb dX6_putInOrder_22 rfl (lv_at hl 0 rfl) ?_
  refine va_csv (va_Run.run (va_runV (As := [.int 6, .int 2]) (rest := []) ⟨hx, hb, hml, hown, hts⟩ (c_putStage l G pn bk bd n1 pe pm n2 n3 pt pb px pg b1 b2 b3 b4 b5 ca v1 v2 v3 v4 v5 y 6 2 (by decide) (by decide)) (cwV 2 hts (gdV (List.mem_cons_of_mem _ (List.mem_append_left _ (List.mem_of_getElem? (i := 1) rfl))) (List.mem_cons_of_mem _ (List.mem_append_left _ (List.mem_of_getElem? (i := 2) rfl))) (List.mem_cons_of_mem _ (List.mem_append_left _ (List.mem_of_getElem? (i := 3) rfl))) (List.mem_cons_of_mem _ (List.mem_append_left _ (List.mem_of_getElem? (i := 4) rfl))) (fun w9 h9 => ⟨(List.mem_cons_of_mem _ (List.mem_append_right _ (List.mem_append_right _ (List.mem_append_left _ h9)))), gd_c_putStage w9 h9⟩)) rfl rfl rfl kVX6_putStageInOrder ⟨Nat.le_of_ble_eq_true rfl, Nat.le_of_ble_eq_true rfl⟩) (preV_p (As := [.int 6, .int 2]) (hP.sub (ws' := [(pn, .inr (7, [.ref bk, .ref bd, n1, .ref pe, .ref pm, n2, n3, .ref pt, .ref pb, .ref px, .ref pg, .int 0, .int y, .int 0])), (bd, .inr (1, [.ref bk, b1, b2, b3, b4, b5])), (bk, .inr (2, [.ref ca, v1, v2, v3, v4, v5])), (ca, .inl (gI G, 2088, .inl bk0))]) [0, 1, 2, 3] rfl) hB rfl rfl) rfl rfl hl.1 rfl (lv_room (Nat.le_of_ble_eq_true rfl)) dX6_putInOrder_23 ⟨Nat.le_of_ble_eq_true rfl, Nat.le_of_ble_eq_true rfl⟩)) (fun _ => ?_)
  refine W.eq (g2 := F0 m 26 ls []) rfl ?_
  refine lv_iinc (v := 3) (lv' := [(2, .int 3), (1, .int 6), (0, .ref pn)]) hx hb dX6_putInOrder_26 hl (k := 0) rfl (by decide) (by decide) rfl (fun ls hl => ?_)
  refine lv_goto (tgt := 15) hx hb dX6_putInOrder_29 (by decide) ?_
  refine lv_iload_n hx hb dX6_putInOrder_15 rfl (lv_at hl 0 rfl) ?_
  refine lv_iconst (v := 4) hx hb dX6_putInOrder_16 (by decide) ?_
  refine lv_icmp_ge (tgt := 32) hx hb dX6_putInOrder_17 (by decide) (fun c9 => absurd c9 (by decide)) (fun _ => ?_)
  refine lv_aload_n hx hb dX6_putInOrder_20 rfl (lv_at hl 2 rfl) ?_
  refine lv_iload_n hx hb dX6_putInOrder_21 rfl (lv_at hl 1 rfl) ?_
  refine lv_iload_n hx hb dX6_putInOrder_22 rfl (lv_at hl 0 rfl) ?_
  refine va_csv (va_Run.run (va_runV (As := [.int 6, .int 3]) (rest := []) ⟨hx, hb, hml, hown, hts⟩ (c_putStage l G pn bk bd n1 pe pm n2 n3 pt pb px pg b1 b2 b3 b4 b5 ca v1 v2 v3 v4 v5 y 6 3 (by decide) (by decide)) (cwV 2 hts (gdV (List.mem_cons_of_mem _ (List.mem_append_left _ (List.mem_of_getElem? (i := 1) rfl))) (List.mem_cons_of_mem _ (List.mem_append_left _ (List.mem_of_getElem? (i := 2) rfl))) (List.mem_cons_of_mem _ (List.mem_append_left _ (List.mem_of_getElem? (i := 3) rfl))) (List.mem_cons_of_mem _ (List.mem_append_left _ (List.mem_of_getElem? (i := 4) rfl))) (fun w9 h9 => ⟨(List.mem_cons_of_mem _ (List.mem_append_right _ (List.mem_append_right _ (List.mem_append_left _ h9)))), gd_c_putStage w9 h9⟩)) rfl rfl rfl kVX6_putStageInOrder ⟨Nat.le_of_ble_eq_true rfl, Nat.le_of_ble_eq_true rfl⟩) (preV_p (As := [.int 6, .int 3]) (hP.sub (ws' := [(pn, .inr (7, [.ref bk, .ref bd, n1, .ref pe, .ref pm, n2, n3, .ref pt, .ref pb, .ref px, .ref pg, .int 0, .int y, .int 0])), (bd, .inr (1, [.ref bk, b1, b2, b3, b4, b5])), (bk, .inr (2, [.ref ca, v1, v2, v3, v4, v5])), (ca, .inl (gI G, 2088, .inl bk0))]) [0, 1, 2, 3] rfl) hB rfl rfl) rfl rfl hl.1 rfl (lv_room (Nat.le_of_ble_eq_true rfl)) dX6_putInOrder_23 ⟨Nat.le_of_ble_eq_true rfl, Nat.le_of_ble_eq_true rfl⟩)) (fun _ => ?_)
  refine W.eq (g2 := F0 m 26 ls []) rfl ?_
  refine lv_iinc (v := 4) (lv' := [(2, .int 4), (1, .int 6), (0, .ref pn)]) hx hb dX6_putInOrder_26 hl (k := 0) rfl (by decide) (by decide) rfl (fun ls hl => ?_)
  refine lv_goto (tgt := 15) hx hb dX6_putInOrder_29 (by decide) ?_
  refine lv_iload_n hx hb dX6_putInOrder_15 rfl (lv_at hl 0 rfl) ?_
  refine lv_iconst (v := 4) hx hb dX6_putInOrder_16 (by decide) ?_
  refine lv_icmp_ge (tgt := 32) hx hb dX6_putInOrder_17 (by decide) (fun _ => ?_) (fun c9 => absurd (by decide) c9)
  refine lv_iinc (v := 7) (lv' := [(1, .int 7), (2, .int 4), (0, .ref pn)]) hx hb dX6_putInOrder_32 hl (k := 1) rfl (by decide) (by decide) rfl (fun ls hl => ?_)
  refine lv_goto (tgt := 7) hx hb dX6_putInOrder_35 (by decide) ?_
  refine lv_iload_n hx hb dX6_putInOrder_7 rfl (lv_at hl 0 rfl) ?_
  refine lv_bipush (v := 20) hx hb dX6_putInOrder_8 (by decide) ?_
  refine lv_icmp_gt (tgt := 38) hx hb dX6_putInOrder_10 (by decide) (fun c9 => absurd c9 (by decide)) (fun _ => ?_)
  refine lv_iconst (v := 0) hx hb dX6_putInOrder_13 (by decide) ?_
  refine lv_istore_n (lv' := [(2, .int 0), (1, .int 7), (0, .ref pn)]) hx hb dX6_putInOrder_14 rfl hl (by decide) rfl (fun ls hl => ?_)
  refine lv_iload_n hx hb dX6_putInOrder_15 rfl (lv_at hl 0 rfl) ?_
  refine lv_iconst (v := 4) hx hb dX6_putInOrder_16 (by decide) ?_
  refine lv_icmp_ge (tgt := 32) hx hb dX6_putInOrder_17 (by decide) (fun c9 => absurd c9 (by decide)) (fun _ => ?_)
  refine lv_aload_n hx hb dX6_putInOrder_20 rfl (lv_at hl 2 rfl) ?_
  refine lv_iload_n hx hb dX6_putInOrder_21 rfl (lv_at hl 1 rfl) ?_
  refine lv_iload_n hx hb dX6_putInOrder_22 rfl (lv_at hl 0 rfl) ?_
  refine va_csv (va_Run.run (va_runV (As := [.int 7, .int 0]) (rest := []) ⟨hx, hb, hml, hown, hts⟩ (c_putStage l G pn bk bd n1 pe pm n2 n3 pt pb px pg b1 b2 b3 b4 b5 ca v1 v2 v3 v4 v5 y 7 0 (by decide) (by decide)) (cwV 2 hts (gdV (List.mem_cons_of_mem _ (List.mem_append_left _ (List.mem_of_getElem? (i := 1) rfl))) (List.mem_cons_of_mem _ (List.mem_append_left _ (List.mem_of_getElem? (i := 2) rfl))) (List.mem_cons_of_mem _ (List.mem_append_left _ (List.mem_of_getElem? (i := 3) rfl))) (List.mem_cons_of_mem _ (List.mem_append_left _ (List.mem_of_getElem? (i := 4) rfl))) (fun w9 h9 => ⟨(List.mem_cons_of_mem _ (List.mem_append_right _ (List.mem_append_right _ (List.mem_append_left _ h9)))), gd_c_putStage w9 h9⟩)) rfl rfl rfl kVX6_putStageInOrder ⟨Nat.le_of_ble_eq_true rfl, Nat.le_of_ble_eq_true rfl⟩) (preV_p (As := [.int 7, .int 0]) (hP.sub (ws' := [(pn, .inr (7, [.ref bk, .ref bd, n1, .ref pe, .ref pm, n2, n3, .ref pt, .ref pb, .ref px, .ref pg, .int 0, .int y, .int 0])), (bd, .inr (1, [.ref bk, b1, b2, b3, b4, b5])), (bk, .inr (2, [.ref ca, v1, v2, v3, v4, v5])), (ca, .inl (gI G, 2088, .inl bk0))]) [0, 1, 2, 3] rfl) hB rfl rfl) rfl rfl hl.1 rfl (lv_room (Nat.le_of_ble_eq_true rfl)) dX6_putInOrder_23 ⟨Nat.le_of_ble_eq_true rfl, Nat.le_of_ble_eq_true rfl⟩)) (fun _ => ?_)
  refine W.eq (g2 := F0 m 26 ls []) rfl ?_
  refine lv_iinc (v := 1) (lv' := [(2, .int 1), (1, .int 7), (0, .ref pn)]) hx hb dX6_putInOrder_26 hl (k := 0) rfl (by decide) (by decide) rfl (fun ls hl => ?_)
  refine lv_goto (tgt := 15) hx hb dX6_putInOrder_29 (by decide) ?_
  refine lv_iload_n hx hb dX6_putInOrder_15 rfl (lv_at hl 0 rfl) ?_
  refine lv_iconst (v := 4) hx hb dX6_putInOrder_16 (by decide) ?_
  refine lv_icmp_ge (tgt := 32) hx hb dX6_putInOrder_17 (by decide) (fun c9 => absurd c9 (by decide)) (fun _ => ?_)
  refine lv_aload_n hx hb dX6_putInOrder_20 rfl (lv_at hl 2 rfl) ?_
  refine lv_iload_n hx hb dX6_putInOrder_21 rfl (lv_at hl 1 rfl) ?_
  refine lv_iload_n hx hb dX6_putInOrder_22 rfl (lv_at hl 0 rfl) ?_
  refine va_csv (va_Run.run (va_runV (As := [.int 7, .int 1]) (rest := []) ⟨hx, hb, hml, hown, hts⟩ (c_putStage l G pn bk bd n1 pe pm n2 n3 pt pb px pg b1 b2 b3 b4 b5 ca v1 v2 v3 v4 v5 y 7 1 (by decide) (by decide)) (cwV 2 hts (gdV (List.mem_cons_of_mem _ (List.mem_append_left _ (List.mem_of_getElem? (i := 1) rfl))) (List.mem_cons_of_mem _ (List.mem_append_left _ (List.mem_of_getElem? (i := 2) rfl))) (List.mem_cons_of_mem _ (List.mem_append_left _ (List.mem_of_getElem? (i := 3) rfl))) (List.mem_cons_of_mem _ (List.mem_append_left _ (List.mem_of_getElem? (i := 4) rfl))) (fun w9 h9 => ⟨(List.mem_cons_of_mem _ (List.mem_append_right _ (List.mem_append_right _ (List.mem_append_left _ h9)))), gd_c_putStage w9 h9⟩)) rfl rfl rfl kVX6_putStageInOrder ⟨Nat.le_of_ble_eq_true rfl, Nat.le_of_ble_eq_true rfl⟩) (preV_p (As := [.int 7, .int 1]) (hP.sub (ws' := [(pn, .inr (7, [.ref bk, .ref bd, n1, .ref pe, .ref pm, n2, n3, .ref pt, .ref pb, .ref px, .ref pg, .int 0, .int y, .int 0])), (bd, .inr (1, [.ref bk, b1, b2, b3, b4, b5])), (bk, .inr (2, [.ref ca, v1, v2, v3, v4, v5])), (ca, .inl (gI G, 2088, .inl bk0))]) [0, 1, 2, 3] rfl) hB rfl rfl) rfl rfl hl.1 rfl (lv_room (Nat.le_of_ble_eq_true rfl)) dX6_putInOrder_23 ⟨Nat.le_of_ble_eq_true rfl, Nat.le_of_ble_eq_true rfl⟩)) (fun _ => ?_)
  refine W.eq (g2 := F0 m 26 ls []) rfl ?_
  refine lv_iinc (v := 2) (lv' := [(2, .int 2), (1, .int 7), (0, .ref pn)]) hx hb dX6_putInOrder_26 hl (k := 0) rfl (by decide) (by decide) rfl (fun ls hl => ?_)
  refine lv_goto (tgt := 15) hx hb dX6_putInOrder_29 (by decide) ?_
  refine lv_iload_n hx hb dX6_putInOrder_15 rfl (lv_at hl 0 rfl) ?_
  refine lv_iconst (v := 4) hx hb dX6_putInOrder_16 (by decide) ?_
  refine lv_icmp_ge (tgt := 32) hx hb dX6_putInOrder_17 (by decide) (fun c9 => absurd c9 (by decide)) (fun _ => ?_)
  refine lv_aload_n hx hb dX6_putInOrder_20 rfl (lv_at hl 2 rfl) ?_
  refine lv_iload_n hx hb dX6_putInOrder_21 rfl (lv_at hl 1 rfl) ?_
  refine lv_iload_n hx hb dX6_putInOrder_22 rfl (lv_at hl 0 rfl) ?_
  refine va_csv (va_Run.run (va_runV (As := [.int 7, .int 2]) (rest := []) ⟨hx, hb, hml, hown, hts⟩ (c_putStage l G pn bk bd n1 pe pm n2 n3 pt pb px pg b1 b2 b3 b4 b5 ca v1 v2 v3 v4 v5 y 7 2 (by decide) (by decide)) (cwV 2 hts (gdV (List.mem_cons_of_mem _ (List.mem_append_left _ (List.mem_of_getElem? (i := 1) rfl))) (List.mem_cons_of_mem _ (List.mem_append_left _ (List.mem_of_getElem? (i := 2) rfl))) (List.mem_cons_of_mem _ (List.mem_append_left _ (List.mem_of_getElem? (i := 3) rfl))) (List.mem_cons_of_mem _ (List.mem_append_left _ (List.mem_of_getElem? (i := 4) rfl))) (fun w9 h9 => ⟨(List.mem_cons_of_mem _ (List.mem_append_right _ (List.mem_append_right _ (List.mem_append_left _ h9)))), gd_c_putStage w9 h9⟩)) rfl rfl rfl kVX6_putStageInOrder ⟨Nat.le_of_ble_eq_true rfl, Nat.le_of_ble_eq_true rfl⟩) (preV_p (As := [.int 7, .int 2]) (hP.sub (ws' := [(pn, .inr (7, [.ref bk, .ref bd, n1, .ref pe, .ref pm, n2, n3, .ref pt, .ref pb, .ref px, .ref pg, .int 0, .int y, .int 0])), (bd, .inr (1, [.ref bk, b1, b2, b3, b4, b5])), (bk, .inr (2, [.ref ca, v1, v2, v3, v4, v5])), (ca, .inl (gI G, 2088, .inl bk0))]) [0, 1, 2, 3] rfl) hB rfl rfl) rfl rfl hl.1 rfl (lv_room (Nat.le_of_ble_eq_true rfl)) dX6_putInOrder_23 ⟨Nat.le_of_ble_eq_true rfl, Nat.le_of_ble_eq_true rfl⟩)) (fun _ => ?_)
  refine W.eq (g2 := F0 m 26 ls []) rfl ?_
  refine lv_iinc (v := 3) (lv' := [(2, .int 3), (1, .int 7), (0, .ref pn)]) hx hb dX6_putInOrder_26 hl (k := 0) rfl (by decide) (by decide) rfl (fun ls hl => ?_)
  refine lv_goto (tgt := 15) hx hb dX6_putInOrder_29 (by decide) ?_
  refine lv_iload_n hx hb dX6_putInOrder_15 rfl (lv_at hl 0 rfl) ?_
  refine lv_iconst (v := 4) hx hb dX6_putInOrder_16 (by decide) ?_
  refine lv_icmp_ge (tgt := 32) hx hb dX6_putInOrder_17 (by decide) (fun c9 => absurd c9 (by decide)) (fun _ => ?_)
  refine lv_aload_n hx hb dX6_putInOrder_20 rfl (lv_at hl 2 rfl) ?_
  refine lv_iload_n hx hb dX6_putInOrder_21 rfl (lv_at hl 1 rfl) ?_
  refine lv_iload_n hx hb dX6_putInOrder_22 rfl (lv_at hl 0 rfl) ?_
  refine va_csv (va_Run.run (va_runV (As := [.int 7, .int 3]) (rest := []) ⟨hx, hb, hml, hown, hts⟩ (c_putStage l G pn bk bd n1 pe pm n2 n3 pt pb px pg b1 b2 b3 b4 b5 ca v1 v2 v3 v4 v5 y 7 3 (by decide) (by decide)) (cwV 2 hts (gdV (List.mem_cons_of_mem _ (List.mem_append_left _ (List.mem_of_getElem? (i := 1) rfl))) (List.mem_cons_of_mem _ (List.mem_append_left _ (List.mem_of_getElem? (i := 2) rfl))) (List.mem_cons_of_mem _ (List.mem_append_left _ (List.mem_of_getElem? (i := 3) rfl))) (List.mem_cons_of_mem _ (List.mem_append_left _ (List.mem_of_getElem? (i := 4) rfl))) (fun w9 h9 => ⟨(List.mem_cons_of_mem _ (List.mem_append_right _ (List.mem_append_right _ (List.mem_append_left _ h9)))), gd_c_putStage w9 h9⟩)) rfl rfl rfl kVX6_putStageInOrder ⟨Nat.le_of_ble_eq_true rfl, Nat.le_of_ble_eq_true rfl⟩) (preV_p (As := [.int 7, .int 3]) (hP.sub (ws' := [(pn, .inr (7, [.ref bk, .ref bd, n1, .ref pe, .ref pm, n2, n3, .ref pt, .ref pb, .ref px, .ref pg, .int 0, .int y, .int 0])), (bd, .inr (1, [.ref bk, b1, b2, b3, b4, b5])), (bk, .inr (2, [.ref ca, v1, v2, v3, v4, v5])), (ca, .inl (gI G, 2088, .inl bk0))]) [0, 1, 2, 3] rfl) hB rfl rfl) rfl rfl hl.1 rfl (lv_room (Nat.le_of_ble_eq_true rfl)) dX6_putInOrder_23 ⟨Nat.le_of_ble_eq_true rfl, Nat.le_of_ble_eq_true rfl⟩)) (fun _ => ?_)
  refine W.eq (g2 := F0 m 26 ls []) rfl ?_
  refine lv_iinc (v := 4) (lv' := [(2, .int 4), (1, .int 7), (0, .ref pn)]) hx hb dX6_putInOrder_26 hl (k := 0) rfl (by decide) (by decide) rfl (fun ls hl => ?_)
  refine lv_goto (tgt := 15) hx hb dX6_putInOrder_29 (by decide) ?_
  refine lv_iload_n hx hb dX6_putInOrder_15 rfl (lv_at hl 0 rfl) ?_
  refine lv_iconst (v := 4) hx hb dX6_putInOrder_16 (by decide) ?_
  refine lv_icmp_ge (tgt := 32) hx hb dX6_putInOrder_17 (by decide) (fun _ => ?_) (fun c9 => absurd (by decide) c9)
  refine lv_iinc (v := 8) (lv' := [(1, .int 8), (2, .int 4), (0, .ref pn)]) hx hb dX6_putInOrder_32 hl (k := 1) rfl (by decide) (by decide) rfl (fun ls hl => ?_)
  refine lv_goto (tgt := 7) hx hb dX6_putInOrder_35 (by decide) ?_
  refine lv_iload_n hx hb dX6_putInOrder_7 rfl (lv_at hl 0 rfl) ?_
  refine lv_bipush (v := 20) hx hb dX6_putInOrder_8 (by decide) ?_
  refine lv_icmp_gt (tgt := 38) hx hb dX6_putInOrder_10 (by decide) (fun c9 => absurd c9 (by decide)) (fun _ => ?_)
  refine lv_iconst (v := 0) hx hb dX6_putInOrder_13 (by decide) ?_
  refine lv_istore_n (lv' := [(2, .int 0), (1, .int 8), (0, .ref pn)]) hx hb dX6_putInOrder_14 rfl hl (by decide) rfl (fun ls hl => ?_)
  refine lv_iload_n hx hb dX6_putInOrder_15 rfl (lv_at hl 0 rfl) ?_
  refine lv_iconst (v := 4) hx hb dX6_putInOrder_16 (by decide) ?_
  refine lv_icmp_ge (tgt := 32) hx hb dX6_putInOrder_17 (by decide) (fun c9 => absurd c9 (by decide)) (fun _ => ?_)
  refine lv_aload_n hx hb dX6_putInOrder_20 rfl (lv_at hl 2 rfl) ?_
  refine lv_iload_n hx hb dX6_putInOrder_21 rfl (lv_at hl 1 rfl) ?_
  refine lv_iload_n hx hb dX6_putInOrder_22 rfl (lv_at hl 0 rfl) ?_
  refine va_csv (va_Run.run (va_runV (As := [.int 8, .int 0]) (rest := []) ⟨hx, hb, hml, hown, hts⟩ (c_putStage l G pn bk bd n1 pe pm n2 n3 pt pb px pg b1 b2 b3 b4 b5 ca v1 v2 v3 v4 v5 y 8 0 (by decide) (by decide)) (cwV 2 hts (gdV (List.mem_cons_of_mem _ (List.mem_append_left _ (List.mem_of_getElem? (i := 1) rfl))) (List.mem_cons_of_mem _ (List.mem_append_left _ (List.mem_of_getElem? (i := 2) rfl))) (List.mem_cons_of_mem _ (List.mem_append_left _ (List.mem_of_getElem? (i := 3) rfl))) (List.mem_cons_of_mem _ (List.mem_append_left _ (List.mem_of_getElem? (i := 4) rfl))) (fun w9 h9 => ⟨(List.mem_cons_of_mem _ (List.mem_append_right _ (List.mem_append_right _ (List.mem_append_left _ h9)))), gd_c_putStage w9 h9⟩)) rfl rfl rfl kVX6_putStageInOrder ⟨Nat.le_of_ble_eq_true rfl, Nat.le_of_ble_eq_true rfl⟩) (preV_p (As := [.int 8, .int 0]) (hP.sub (ws' := [(pn, .inr (7, [.ref bk, .ref bd, n1, .ref pe, .ref pm, n2, n3, .ref pt, .ref pb, .ref px, .ref pg, .int 0, .int y, .int 0])), (bd, .inr (1, [.ref bk, b1, b2, b3, b4, b5])), (bk, .inr (2, [.ref ca, v1, v2, v3, v4, v5])), (ca, .inl (gI G, 2088, .inl bk0))]) [0, 1, 2, 3] rfl) hB rfl rfl) rfl rfl hl.1 rfl (lv_room (Nat.le_of_ble_eq_true rfl)) dX6_putInOrder_23 ⟨Nat.le_of_ble_eq_true rfl, Nat.le_of_ble_eq_true rfl⟩)) (fun _ => ?_)
  refine W.eq (g2 := F0 m 26 ls []) rfl ?_
  refine lv_iinc (v := 1) (lv' := [(2, .int 1), (1, .int 8), (0, .ref pn)]) hx hb dX6_putInOrder_26 hl (k := 0) rfl (by decide) (by decide) rfl (fun ls hl => ?_)
  refine lv_goto (tgt := 15) hx hb dX6_putInOrder_29 (by decide) ?_
  refine lv_iload_n hx hb dX6_putInOrder_15 rfl (lv_at hl 0 rfl) ?_
  refine lv_iconst (v := 4) hx hb dX6_putInOrder_16 (by decide) ?_
  refine lv_icmp_ge (tgt := 32) hx hb dX6_putInOrder_17 (by decide) (fun c9 => absurd c9 (by decide)) (fun _ => ?_)
  refine lv_aload_n hx hb dX6_putInOrder_20 rfl (lv_at hl 2 rfl) ?_
  refine lv_iload_n hx hb dX6_putInOrder_21 rfl (lv_at hl 1 rfl) ?_
  refine lv_iload_n hx hb dX6_putInOrder_22 rfl (lv_at hl 0 rfl) ?_
  refine va_csv (va_Run.run (va_runV (As := [.int 8, .int 1]) (rest := []) ⟨hx, hb, hml, hown, hts⟩ (c_putStage l G pn bk bd n1 pe pm n2 n3 pt pb px pg b1 b2 b3 b4 b5 ca v1 v2 v3 v4 v5 y 8 1 (by decide) (by decide)) (cwV 2 hts (gdV (List.mem_cons_of_mem _ (List.mem_append_left _ (List.mem_of_getElem? (i := 1) rfl))) (List.mem_cons_of_mem _ (List.mem_append_left _ (List.mem_of_getElem? (i := 2) rfl))) (List.mem_cons_of_mem _ (List.mem_append_left _ (List.mem_of_getElem? (i := 3) rfl))) (List.mem_cons_of_mem _ (List.mem_append_left _ (List.mem_of_getElem? (i := 4) rfl))) (fun w9 h9 => ⟨(List.mem_cons_of_mem _ (List.mem_append_right _ (List.mem_append_right _ (List.mem_append_left _ h9)))), gd_c_putStage w9 h9⟩)) rfl rfl rfl kVX6_putStageInOrder ⟨Nat.le_of_ble_eq_true rfl, Nat.le_of_ble_eq_true rfl⟩) (preV_p (As := [.int 8, .int 1]) (hP.sub (ws' := [(pn, .inr (7, [.ref bk, .ref bd, n1, .ref pe, .ref pm, n2, n3, .ref pt, .ref pb, .ref px, .ref pg, .int 0, .int y, .int 0])), (bd, .inr (1, [.ref bk, b1, b2, b3, b4, b5])), (bk, .inr (2, [.ref ca, v1, v2, v3, v4, v5])), (ca, .inl (gI G, 2088, .inl bk0))]) [0, 1, 2, 3] rfl) hB rfl rfl) rfl rfl hl.1 rfl (lv_room (Nat.le_of_ble_eq_true rfl)) dX6_putInOrder_23 ⟨Nat.le_of_ble_eq_true rfl, Nat.le_of_ble_eq_true rfl⟩)) (fun _ => ?_)
  refine W.eq (g2 := F0 m 26 ls []) rfl ?_
  refine lv_iinc (v := 2) (lv' := [(2, .int 2), (1, .int 8), (0, .ref pn)]) hx hb dX6_putInOrder_26 hl (k := 0) rfl (by decide) (by decide) rfl (fun ls hl => ?_)
  refine lv_goto (tgt := 15) hx hb dX6_putInOrder_29 (by decide) ?_
  refine lv_iload_n hx hb dX6_putInOrder_15 rfl (lv_at hl 0 rfl) ?_
  refine lv_iconst (v := 4) hx hb dX6_putInOrder_16 (by decide) ?_
  refine lv_icmp_ge (tgt := 32) hx hb dX6_putInOrder_17 (by decide) (fun c9 => absurd c9 (by decide)) (fun _ => ?_)
  refine lv_aload_n hx hb dX6_putInOrder_20 rfl (lv_at hl 2 rfl) ?_
  refine lv_iload_n hx hb dX6_putInOrder_21 rfl (lv_at hl 1 rfl) ?_
  refine lv_iload_n hx hb dX6_putInOrder_22 rfl (lv_at hl 0 rfl) ?_
  refine va_csv (va_Run.run (va_runV (As := [.int 8, .int 2]) (rest := []) ⟨hx, hb, hml, hown, hts⟩ (c_putStage l G pn bk bd n1 pe pm n2 n3 pt pb px pg b1 b2 b3 b4 b5 ca v1 v2 v3 v4 v5 y 8 2 (by decide) (by decide)) (cwV 2 hts (gdV (List.mem_cons_of_mem _ (List.mem_append_left _ (List.mem_of_getElem? (i := 1) rfl))) (List.mem_cons_of_mem _ (List.mem_append_left _ (List.mem_of_getElem? (i := 2) rfl))) (List.mem_cons_of_mem _ (List.mem_append_left _ (List.mem_of_getElem? (i := 3) rfl))) (List.mem_cons_of_mem _ (List.mem_append_left _ (List.mem_of_getElem? (i := 4) rfl))) (fun w9 h9 => ⟨(List.mem_cons_of_mem _ (List.mem_append_right _ (List.mem_append_right _ (List.mem_append_left _ h9)))), gd_c_putStage w9 h9⟩)) rfl rfl rfl kVX6_putStageInOrder ⟨Nat.le_of_ble_eq_true rfl, Nat.le_of_ble_eq_true rfl⟩) (preV_p (As := [.int 8, .int 2]) (hP.sub (ws' := [(pn, .inr (7, [.ref bk, .ref bd, n1, .ref pe, .ref pm, n2, n3, .ref pt, .ref pb, .ref px, .ref pg, .int 0, .int y, .int 0])), (bd, .inr (1, [.ref bk, b1, b2, b3, b4, b5])), (bk, .inr (2, [.ref ca, v1, v2, v3, v4, v5])), (ca, .inl (gI G, 2088, .inl bk0))]) [0, 1, 2, 3] rfl) hB rfl rfl) rfl rfl hl.1 rfl (lv_room (Nat.le_of_ble_eq_true rfl)) dX6_putInOrder_23 ⟨Nat.le_of_ble_eq_true rfl, Nat.le_of_ble_eq_true rfl⟩)) (fun _ => ?_)
  refine W.eq (g2 := F0 m 26 ls []) rfl ?_
  refine lv_iinc (v := 3) (lv' := [(2, .int 3), (1, .int 8), (0, .ref pn)]) hx hb dX6_putInOrder_26 hl (k := 0) rfl (by decide) (by decide) rfl (fun ls hl => ?_)
  refine lv_goto (tgt := 15) hx hb dX6_putInOrder_29 (by decide) ?_
  refine lv_iload_n hx hb dX6_putInOrder_15 rfl (lv_at hl 0 rfl) ?_
  refine lv_iconst (v := 4) hx hb dX6_putInOrder_16 (by decide) ?_
  refine lv_icmp_ge (tgt := 32) hx hb dX6_putInOrder_17 (by decide) (fun c9 => absurd c9 (by decide)) (fun _ => ?_)
  refine lv_aload_n hx hb dX6_putInOrder_20 rfl (lv_at hl 2 rfl) ?_
  refine lv_iload_n hx hb dX6_putInOrder_21 rfl (lv_at hl 1 rfl) ?_
  refine lv_iload_n hx hb dX6_putInOrder_22 rfl (lv_at hl 0 rfl) ?_
  refine va_csv (va_Run.run (va_runV (As := [.int 8, .int 3]) (rest := []) ⟨hx, hb, hml, hown, hts⟩ (c_putStage l G pn bk bd n1 pe pm n2 n3 pt pb px pg b1 b2 b3 b4 b5 ca v1 v2 v3 v4 v5 y 8 3 (by decide) (by decide)) (cwV 2 hts (gdV (List.mem_cons_of_mem _ (List.mem_append_left _ (List.mem_of_getElem? (i := 1) rfl))) (List.mem_cons_of_mem _ (List.mem_append_left _ (List.mem_of_getElem? (i := 2) rfl))) (List.mem_cons_of_mem _ (List.mem_append_left _ (List.mem_of_getElem? (i := 3) rfl))) (List.mem_cons_of_mem _ (List.mem_append_left _ (List.mem_of_getElem? (i := 4) rfl))) (fun w9 h9 => ⟨(List.mem_cons_of_mem _ (List.mem_append_right _ (List.mem_append_right _ (List.mem_append_left _ h9)))), gd_c_putStage w9 h9⟩)) rfl rfl rfl kVX6_putStageInOrder ⟨Nat.le_of_ble_eq_true rfl, Nat.le_of_ble_eq_true rfl⟩) (preV_p (As := [.int 8, .int 3]) (hP.sub (ws' := [(pn, .inr (7, [.ref bk, .ref bd, n1, .ref pe, .ref pm, n2, n3, .ref pt, .ref pb, .ref px, .ref pg, .int 0, .int y, .int 0])), (bd, .inr (1, [.ref bk, b1, b2, b3, b4, b5])), (bk, .inr (2, [.ref ca, v1, v2, v3, v4, v5])), (ca, .inl (gI G, 2088, .inl bk0))]) [0, 1, 2, 3] rfl) hB rfl rfl) rfl rfl hl.1 rfl (lv_room (Nat.le_of_ble_eq_true rfl)) dX6_putInOrder_23 ⟨Nat.le_of_ble_eq_true rfl, Nat.le_of_ble_eq_true rfl⟩)) (fun _ => ?_)
  refine W.eq (g2 := F0 m 26 ls []) rfl ?_
  refine lv_iinc (v := 4) (lv' := [(2, .int 4), (1, .int 8), (0, .ref pn)]) hx hb dX6_putInOrder_26 hl (k := 0) rfl (by decide) (by decide) rfl (fun ls hl => ?_)
  refine lv_goto (tgt := 15) hx hb dX6_putInOrder_29 (by decide) ?_
  refine lv_iload_n hx hb dX6_putInOrder_15 rfl (lv_at hl 0 rfl) ?_
  refine lv_iconst (v := 4) hx hb dX6_putInOrder_16 (by decide) ?_
  refine lv_icmp_ge (tgt := 32) hx hb dX6_putInOrder_17 (by decide) (fun _ => ?_) (fun c9 => absurd (by decide) c9)
  refine lv_iinc (v := 9) (lv' := [(1, .int 9), (2, .int 4), (0, .ref pn)]) hx hb dX6_putInOrder_32 hl (k := 1) rfl (by decide) (by decide) rfl (fun ls hl => ?_)
  refine lv_goto (tgt := 7) hx hb dX6_putInOrder_35 (by decide) ?_
  refine lv_iload_n hx hb dX6_putInOrder_7 rfl (lv_at hl 0 rfl) ?_
  refine lv_bipush (v := 20) hx hb dX6_putInOrder_8 (by decide) ?_
  refine lv_icmp_gt (tgt := 38) hx hb dX6_putInOrder_10 (by decide) (fun c9 => absurd c9 (by decide)) (fun _ => ?_)
  refine lv_iconst (v := 0) hx hb dX6_putInOrder_13 (by decide) ?_
  refine lv_istore_n (lv' := [(2, .int 0), (1, .int 9), (0, .ref pn)]) hx hb dX6_putInOrder_14 rfl hl (by decide) rfl (fun ls hl => ?_)
  refine lv_iload_n hx hb dX6_putInOrder_15 rfl (lv_at hl 0 rfl) ?_
  refine lv_iconst (v := 4) hx hb dX6_putInOrder_16 (by decide) ?_
  refine lv_icmp_ge (tgt := 32) hx hb dX6_putInOrder_17 (by decide) (fun c9 => absurd c9 (by decide)) (fun _ => ?_)
  refine lv_aload_n hx hb dX6_putInOrder_20 rfl (lv_at hl 2 rfl) ?_
  refine lv_iload_n hx hb dX6_putInOrder_21 rfl (lv_at hl 1 rfl) ?_
  refine lv_iload_n hx hb dX6_putInOrder_22 rfl (lv_at hl 0 rfl) ?_
  refine va_csv (va_Run.run (va_runV (As := [.int 9, .int 0]) (rest := []) ⟨hx, hb, hml, hown, hts⟩ (c_putStage l G pn bk bd n1 pe pm n2 n3 pt pb px pg b1 b2 b3 b4 b5 ca v1 v2 v3 v4 v5 y 9 0 (by decide) (by decide)) (cwV 2 hts (gdV (List.mem_cons_of_mem _ (List.mem_append_left _ (List.mem_of_getElem? (i := 1) rfl))) (List.mem_cons_of_mem _ (List.mem_append_left _ (List.mem_of_getElem? (i := 2) rfl))) (List.mem_cons_of_mem _ (List.mem_append_left _ (List.mem_of_getElem? (i := 3) rfl))) (List.mem_cons_of_mem _ (List.mem_append_left _ (List.mem_of_getElem? (i := 4) rfl))) (fun w9 h9 => ⟨(List.mem_cons_of_mem _ (List.mem_append_right _ (List.mem_append_right _ (List.mem_append_left _ h9)))), gd_c_putStage w9 h9⟩)) rfl rfl rfl kVX6_putStageInOrder ⟨Nat.le_of_ble_eq_true rfl, Nat.le_of_ble_eq_true rfl⟩) (preV_p (As := [.int 9, .int 0]) (hP.sub (ws' := [(pn, .inr (7, [.ref bk, .ref bd, n1, .ref pe, .ref pm, n2, n3, .ref pt, .ref pb, .ref px, .ref pg, .int 0, .int y, .int 0])), (bd, .inr (1, [.ref bk, b1, b2, b3, b4, b5])), (bk, .inr (2, [.ref ca, v1, v2, v3, v4, v5])), (ca, .inl (gI G, 2088, .inl bk0))]) [0, 1, 2, 3] rfl) hB rfl rfl) rfl rfl hl.1 rfl (lv_room (Nat.le_of_ble_eq_true rfl)) dX6_putInOrder_23 ⟨Nat.le_of_ble_eq_true rfl, Nat.le_of_ble_eq_true rfl⟩)) (fun _ => ?_)
  refine W.eq (g2 := F0 m 26 ls []) rfl ?_
  refine lv_iinc (v := 1) (lv' := [(2, .int 1), (1, .int 9), (0, .ref pn)]) hx hb dX6_putInOrder_26 hl (k := 0) rfl (by decide) (by decide) rfl (fun ls hl => ?_)
  refine lv_goto (tgt := 15) hx hb dX6_putInOrder_29 (by decide) ?_
  refine lv_iload_n hx hb dX6_putInOrder_15 rfl (lv_at hl 0 rfl) ?_
  refine lv_iconst (v := 4) hx hb dX6_putInOrder_16 (by decide) ?_
  refine lv_icmp_ge (tgt := 32) hx hb dX6_putInOrder_17 (by decide) (fun c9 => absurd c9 (by decide)) (fun _ => ?_)
  refine lv_aload_n hx hb dX6_putInOrder_20 rfl (lv_at hl 2 rfl) ?_
  refine lv_iload_n hx hb dX6_putInOrder_21 rfl (lv_at hl 1 rfl) ?_
  refine lv_iload_n hx hb dX6_putInOrder_22 rfl (lv_at hl 0 rfl) ?_
  refine va_csv (va_Run.run (va_runV (As := [.int 9, .int 1]) (rest := []) ⟨hx, hb, hml, hown, hts⟩ (c_putStage l G pn bk bd n1 pe pm n2 n3 pt pb px pg b1 b2 b3 b4 b5 ca v1 v2 v3 v4 v5 y 9 1 (by decide) (by decide)) (cwV 2 hts (gdV (List.mem_cons_of_mem _ (List.mem_append_left _ (List.mem_of_getElem? (i := 1) rfl))) (List.mem_cons_of_mem _ (List.mem_append_left _ (List.mem_of_getElem? (i := 2) rfl))) (List.mem_cons_of_mem _ (List.mem_append_left _ (List.mem_of_getElem? (i := 3) rfl))) (List.mem_cons_of_mem _ (List.mem_append_left _ (List.mem_of_getElem? (i := 4) rfl))) (fun w9 h9 => ⟨(List.mem_cons_of_mem _ (List.mem_append_right _ (List.mem_append_right _ (List.mem_append_left _ h9)))), gd_c_putStage w9 h9⟩)) rfl rfl rfl kVX6_putStageInOrder ⟨Nat.le_of_ble_eq_true rfl, Nat.le_of_ble_eq_true rfl⟩) (preV_p (As := [.int 9, .int 1]) (hP.sub (ws' := [(pn, .inr (7, [.ref bk, .ref bd, n1, .ref pe, .ref pm, n2, n3, .ref pt, .ref pb, .ref px, .ref pg, .int 0, .int y, .int 0])), (bd, .inr (1, [.ref bk, b1, b2, b3, b4, b5])), (bk, .inr (2, [.ref ca, v1, v2, v3, v4, v5])), (ca, .inl (gI G, 2088, .inl bk0))]) [0, 1, 2, 3] rfl) hB rfl rfl) rfl rfl hl.1 rfl (lv_room (Nat.le_of_ble_eq_true rfl)) dX6_putInOrder_23 ⟨Nat.le_of_ble_eq_true rfl, Nat.le_of_ble_eq_true rfl⟩)) (fun _ => ?_)
  refine W.eq (g2 := F0 m 26 ls []) rfl ?_
  refine lv_iinc (v := 2) (lv' := [(2, .int 2), (1, .int 9), (0, .ref pn)]) hx hb dX6_putInOrder_26 hl (k := 0) rfl (by decide) (by decide) rfl (fun ls hl => ?_)
  refine lv_goto (tgt := 15) hx hb dX6_putInOrder_29 (by decide) ?_
  refine lv_iload_n hx hb dX6_putInOrder_15 rfl (lv_at hl 0 rfl) ?_
  refine lv_iconst (v := 4) hx hb dX6_putInOrder_16 (by decide) ?_
  refine lv_icmp_ge (tgt := 32) hx hb dX6_putInOrder_17 (by decide) (fun c9 => absurd c9 (by decide)) (fun _ => ?_)
  refine lv_aload_n hx hb dX6_putInOrder_20 rfl (lv_at hl 2 rfl) ?_
  refine lv_iload_n hx hb dX6_putInOrder_21 rfl (lv_at hl 1 rfl) ?_
  refine lv_iload_n hx hb dX6_putInOrder_22 rfl (lv_at hl 0 rfl) ?_
  refine va_csv (va_Run.run (va_runV (As := [.int 9, .int 2]) (rest := []) ⟨hx, hb, hml, hown, hts⟩ (c_putStage l G pn bk bd n1 pe pm n2 n3 pt pb px pg b1 b2 b3 b4 b5 ca v1 v2 v3 v4 v5 y 9 2 (by decide) (by decide)) (cwV 2 hts (gdV (List.mem_cons_of_mem _ (List.mem_append_left _ (List.mem_of_getElem? (i := 1) rfl))) (List.mem_cons_of_mem _ (List.mem_append_left _ (List.mem_of_getElem? (i := 2) rfl))) (List.mem_cons_of_mem _ (List.mem_append_left _ (List.mem_of_getElem? (i := 3) rfl))) (List.mem_cons_of_mem _ (List.mem_append_left _ (List.mem_of_getElem? (i := 4) rfl))) (fun w9 h9 => ⟨(List.mem_cons_of_mem _ (List.mem_append_right _ (List.mem_append_right _ (List.mem_append_left _ h9)))), gd_c_putStage w9 h9⟩)) rfl rfl rfl kVX6_putStageInOrder ⟨Nat.le_of_ble_eq_true rfl, Nat.le_of_ble_eq_true rfl⟩) (preV_p (As := [.int 9, .int 2]) (hP.sub (ws' := [(pn, .inr (7, [.ref bk, .ref bd, n1, .ref pe, .ref pm, n2, n3, .ref pt, .ref pb, .ref px, .ref pg, .int 0, .int y, .int 0])), (bd, .inr (1, [.ref bk, b1, b2, b3, b4, b5])), (bk, .inr (2, [.ref ca, v1, v2, v3, v4, v5])), (ca, .inl (gI G, 2088, .inl bk0))]) [0, 1, 2, 3] rfl) hB rfl rfl) rfl rfl hl.1 rfl (lv_room (Nat.le_of_ble_eq_true rfl)) dX6_putInOrder_23 ⟨Nat.le_of_ble_eq_true rfl, Nat.le_of_ble_eq_true rfl⟩)) (fun _ => ?_)
  refine W.eq (g2 := F0 m 26 ls []) rfl ?_
  refine lv_iinc (v := 3) (lv' := [(2, .int 3), (1, .int 9), (0, .ref pn)]) hx hb dX6_putInOrder_26 hl (k := 0) rfl (by decide) (by decide) rfl (fun ls hl => ?_)
  refine lv_goto (tgt := 15) hx hb dX6_putInOrder_29 (by decide) ?_
  refine lv_iload_n hx hb dX6_putInOrder_15 rfl (lv_at hl 0 rfl) ?_
  refine lv_iconst (v := 4) hx hb dX6_putInOrder_16 (by decide) ?_
  refine lv_icmp_ge (tgt := 32) hx hb dX6_putInOrder_17 (by decide) (fun c9 => absurd c9 (by decide)) (fun _ => ?_)
  refine lv_aload_n hx hb dX6_putInOrder_20 rfl (lv_at hl 2 rfl) ?_
  refine lv_iload_n hx hb dX6_putInOrder_21 rfl (lv_at hl 1 rfl) ?_
  refine lv_iload_n hx hb dX6_putInOrder_22 rfl (lv_at hl 0 rfl) ?_
  refine va_csv (va_Run.run (va_runV (As := [.int 9, .int 3]) (rest := []) ⟨hx, hb, hml, hown, hts⟩ (c_putStage l G pn bk bd n1 pe pm n2 n3 pt pb px pg b1 b2 b3 b4 b5 ca v1 v2 v3 v4 v5 y 9 3 (by decide) (by decide)) (cwV 2 hts (gdV (List.mem_cons_of_mem _ (List.mem_append_left _ (List.mem_of_getElem? (i := 1) rfl))) (List.mem_cons_of_mem _ (List.mem_append_left _ (List.mem_of_getElem? (i := 2) rfl))) (List.mem_cons_of_mem _ (List.mem_append_left _ (List.mem_of_getElem? (i := 3) rfl))) (List.mem_cons_of_mem _ (List.mem_append_left _ (List.mem_of_getElem? (i := 4) rfl))) (fun w9 h9 => ⟨(List.mem_cons_of_mem _ (List.mem_append_right _ (List.mem_append_right _ (List.mem_append_left _ h9)))), gd_c_putStage w9 h9⟩)) rfl rfl rfl kVX6_putStageInOrder ⟨Nat.le_of_ble_eq_true rfl, Nat.le_of_ble_eq_true rfl⟩) (preV_p (As := [.int 9, .int 3]) (hP.sub (ws' := [(pn, .inr (7, [.ref bk, .ref bd, n1, .ref pe, .ref pm, n2, n3, .ref pt, .ref pb, .ref px, .ref pg, .int 0, .int y, .int 0])), (bd, .inr (1, [.ref bk, b1, b2, b3, b4, b5])), (bk, .inr (2, [.ref ca, v1, v2, v3, v4, v5])), (ca, .inl (gI G, 2088, .inl bk0))]) [0, 1, 2, 3] rfl) hB rfl rfl) rfl rfl hl.1 rfl (lv_room (Nat.le_of_ble_eq_true rfl)) dX6_putInOrder_23 ⟨Nat.le_of_ble_eq_true rfl, Nat.le_of_ble_eq_true rfl⟩)) (fun _ => ?_)
  refine W.eq (g2 := F0 m 26 ls []) rfl ?_
  refine lv_iinc (v := 4) (lv' := [(2, .int 4), (1, .int 9), (0, .ref pn)]) hx hb dX6_putInOrder_26 hl (k := 0) rfl (by decide) (by decide) rfl (fun ls hl => ?_)
  refine lv_goto (tgt := 15) hx hb dX6_putInOrder_29 (by decide) ?_
  refine lv_iload_n hx hb dX6_putInOrder_15 rfl (lv_at hl 0 rfl) ?_
  refine lv_iconst (v := 4) hx hb dX6_putInOrder_16 (by decide) ?_
  refine lv_icmp_ge (tgt := 32) hx hb dX6_putInOrder_17 (by decide) (fun _ => ?_) (fun c9 => absurd (by decide) c9)
  refine lv_iinc (v := 10) (lv' := [(1, .int 10), (2, .int 4), (0, .ref pn)]) hx hb dX6_putInOrder_32 hl (k := 1) rfl (by decide) (by decide) rfl (fun ls hl => ?_)
  refine lv_goto (tgt := 7) hx hb dX6_putInOrder_35 (by decide) ?_
  refine lv_iload_n hx hb dX6_putInOrder_7 rfl (lv_at hl 0 rfl) ?_
  refine lv_bipush (v := 20) hx hb dX6_putInOrder_8 (by decide) ?_
  refine lv_icmp_gt (tgt := 38) hx hb dX6_putInOrder_10 (by decide) (fun c9 => absurd c9 (by decide)) (fun _ => ?_)
  refine lv_iconst (v := 0) hx hb dX6_putInOrder_13 (by decide) ?_
  refine lv_istore_n (lv' := [(2, .int 0), (1, .int 10), (0, .ref pn)]) hx hb dX6_putInOrder_14 rfl hl (by decide) rfl (fun ls hl => ?_)
  refine lv_iload_n hx hb dX6_putInOrder_15 rfl (lv_at hl 0 rfl) ?_
  refine lv_iconst (v := 4) hx hb dX6_putInOrder_16 (by decide) ?_
  refine lv_icmp_ge (tgt := 32) hx hb dX6_putInOrder_17 (by decide) (fun c9 => absurd c9 (by decide)) (fun _ => ?_)
  refine lv_aload_n hx hb dX6_putInOrder_20 rfl (lv_at hl 2 rfl) ?_
  refine lv_iload_n hx hb dX6_putInOrder_21 rfl (lv_at hl 1 rfl) ?_
  refine lv_iload_n hx hb dX6_putInOrder_22 rfl (lv_at hl 0 rfl) ?_
  refine va_csv (va_Run.run (va_runV (As := [.int 10, .int 0]) (rest := []) ⟨hx, hb, hml, hown, hts⟩ (c_putStage l G pn bk bd n1 pe pm n2 n3 pt pb px pg b1 b2 b3 b4 b5 ca v1 v2 v3 v4 v5 y 10 0 (by decide) (by decide)) (cwV 2 hts (gdV (List.mem_cons_of_mem _ (List.mem_append_left _ (List.mem_of_getElem? (i := 1) rfl))) (List.mem_cons_of_mem _ (List.mem_append_left _ (List.mem_of_getElem? (i := 2) rfl))) (List.mem_cons_of_mem _ (List.mem_append_left _ (List.mem_of_getElem? (i := 3) rfl))) (List.mem_cons_of_mem _ (List.mem_append_left _ (List.mem_of_getElem? (i := 4) rfl))) (fun w9 h9 => ⟨(List.mem_cons_of_mem _ (List.mem_append_right _ (List.mem_append_right _ (List.mem_append_left _ h9)))), gd_c_putStage w9 h9⟩)) rfl rfl rfl kVX6_putStageInOrder ⟨Nat.le_of_ble_eq_true rfl, Nat.le_of_ble_eq_true rfl⟩) (preV_p (As := [.int 10, .int 0]) (hP.sub (ws' := [(pn, .inr (7, [.ref bk, .ref bd, n1, .ref pe, .ref pm, n2, n3, .ref pt, .ref pb, .ref px, .ref pg, .int 0, .int y, .int 0])), (bd, .inr (1, [.ref bk, b1, b2, b3, b4, b5])), (bk, .inr (2, [.ref ca, v1, v2, v3, v4, v5])), (ca, .inl (gI G, 2088, .inl bk0))]) [0, 1, 2, 3] rfl) hB rfl rfl) rfl rfl hl.1 rfl (lv_room (Nat.le_of_ble_eq_true rfl)) dX6_putInOrder_23 ⟨Nat.le_of_ble_eq_true rfl, Nat.le_of_ble_eq_true rfl⟩)) (fun _ => ?_)
  refine W.eq (g2 := F0 m 26 ls []) rfl ?_
  refine lv_iinc (v := 1) (lv' := [(2, .int 1), (1, .int 10), (0, .ref pn)]) hx hb dX6_putInOrder_26 hl (k := 0) rfl (by decide) (by decide) rfl (fun ls hl => ?_)
  refine lv_goto (tgt := 15) hx hb dX6_putInOrder_29 (by decide) ?_
  refine lv_iload_n hx hb dX6_putInOrder_15 rfl (lv_at hl 0 rfl) ?_
  refine lv_iconst (v := 4) hx hb dX6_putInOrder_16 (by decide) ?_
  refine lv_icmp_ge (tgt := 32) hx hb dX6_putInOrder_17 (by decide) (fun c9 => absurd c9 (by decide)) (fun _ => ?_)
  refine lv_aload_n hx hb dX6_putInOrder_20 rfl (lv_at hl 2 rfl) ?_
  refine lv_iload_n hx hb dX6_putInOrder_21 rfl (lv_at hl 1 rfl) ?_
  refine lv_iload_n hx hb dX6_putInOrder_22 rfl (lv_at hl 0 rfl) ?_
  refine va_csv (va_Run.run (va_runV (As := [.int 10, .int 1]) (rest := []) ⟨hx, hb, hml, hown, hts⟩ (c_putStage l G pn bk bd n1 pe pm n2 n3 pt pb px pg b1 b2 b3 b4 b5 ca v1 v2 v3 v4 v5 y 10 1 (by decide) (by decide)) (cwV 2 hts (gdV (List.mem_cons_of_mem _ (List.mem_append_left _ (List.mem_of_getElem? (i := 1) rfl))) (List.mem_cons_of_mem _ (List.mem_append_left _ (List.mem_of_getElem? (i := 2) rfl))) (List.mem_cons_of_mem _ (List.mem_append_left _ (List.mem_of_getElem? (i := 3) rfl))) (List.mem_cons_of_mem _ (List.mem_append_left _ (List.mem_of_getElem? (i := 4) rfl))) (fun w9 h9 => ⟨(List.mem_cons_of_mem _ (List.mem_append_right _ (List.mem_append_right _ (List.mem_append_left _ h9)))), gd_c_putStage w9 h9⟩)) rfl rfl rfl kVX6_putStageInOrder ⟨Nat.le_of_ble_eq_true rfl, Nat.le_of_ble_eq_true rfl⟩) (preV_p (As := [.int 10, .int 1]) (hP.sub (ws' := [(pn, .inr (7, [.ref bk, .ref bd, n1, .ref pe, .ref pm, n2, n3, .ref pt, .ref pb, .ref px, .ref pg, .int 0, .int y, .int 0])), (bd, .inr (1, [.ref bk, b1, b2, b3, b4, b5])), (bk, .inr (2, [.ref ca, v1, v2, v3, v4, v5])), (ca, .inl (gI G, 2088, .inl bk0))]) [0, 1, 2, 3] rfl) hB rfl rfl) rfl rfl hl.1 rfl (lv_room (Nat.le_of_ble_eq_true rfl)) dX6_putInOrder_23 ⟨Nat.le_of_ble_eq_true rfl, Nat.le_of_ble_eq_true rfl⟩)) (fun _ => ?_)
  refine W.eq (g2 := F0 m 26 ls []) rfl ?_
  refine lv_iinc (v := 2) (lv' := [(2, .int 2), (1, .int 10), (0, .ref pn)]) hx hb dX6_putInOrder_26 hl (k := 0) rfl (by decide) (by decide) rfl (fun ls hl => ?_)
  refine lv_goto (tgt := 15) hx hb dX6_putInOrder_29 (by decide) ?_
  refine lv_iload_n hx hb dX6_putInOrder_15 rfl (lv_at hl 0 rfl) ?_
  refine lv_iconst (v := 4) hx hb dX6_putInOrder_16 (by decide) ?_
  refine lv_icmp_ge (tgt := 32) hx hb dX6_putInOrder_17 (by decide) (fun c9 => absurd c9 (by decide)) (fun _ => ?_)
  refine lv_aload_n hx hb dX6_putInOrder_20 rfl (lv_at hl 2 rfl) ?_
  refine lv_iload_n hx hb dX6_putInOrder_21 rfl (lv_at hl 1 rfl) ?_
  refine lv_iload_n hx hb dX6_putInOrder_22 rfl (lv_at hl 0 rfl) ?_
  refine va_csv (va_Run.run (va_runV (As := [.int 10, .int 2]) (rest := []) ⟨hx, hb, hml, hown, hts⟩ (c_putStage l G pn bk bd n1 pe pm n2 n3 pt pb px pg b1 b2 b3 b4 b5 ca v1 v2 v3 v4 v5 y 10 2 (by decide) (by decide)) (cwV 2 hts (gdV (List.mem_cons_of_mem _ (List.mem_append_left _ (List.mem_of_getElem? (i := 1) rfl))) (List.mem_cons_of_mem _ (List.mem_append_left _ (List.mem_of_getElem? (i := 2) rfl))) (List.mem_cons_of_mem _ (List.mem_append_left _ (List.mem_of_getElem? (i := 3) rfl))) (List.mem_cons_of_mem _ (List.mem_append_left _ (List.mem_of_getElem? (i := 4) rfl))) (fun w9 h9 => ⟨(List.mem_cons_of_mem _ (List.mem_append_right _ (List.mem_append_right _ (List.mem_append_left _ h9)))), gd_c_putStage w9 h9⟩)) rfl rfl rfl kVX6_putStageInOrder ⟨Nat.le_of_ble_eq_true rfl, Nat.le_of_ble_eq_true rfl⟩) (preV_p (As := [.int 10, .int 2]) (hP.sub (ws' := [(pn, .inr (7, [.ref bk, .ref bd, n1, .ref pe, .ref pm, n2, n3, .ref pt, .ref pb, .ref px, .ref pg, .int 0, .int y, .int 0])), (bd, .inr (1, [.ref bk, b1, b2, b3, b4, b5])), (bk, .inr (2, [.ref ca, v1, v2, v3, v4, v5])), (ca, .inl (gI G, 2088, .inl bk0))]) [0, 1, 2, 3] rfl) hB rfl rfl) rfl rfl hl.1 rfl (lv_room (Nat.le_of_ble_eq_true rfl)) dX6_putInOrder_23 ⟨Nat.le_of_ble_eq_true rfl, Nat.le_of_ble_eq_true rfl⟩)) (fun _ => ?_)
  refine W.eq (g2 := F0 m 26 ls []) rfl ?_
  refine lv_iinc (v := 3) (lv' := [(2, .int 3), (1, .int 10), (0, .ref pn)]) hx hb dX6_putInOrder_26 hl (k := 0) rfl (by decide) (by decide) rfl (fun ls hl => ?_)
  refine lv_goto (tgt := 15) hx hb dX6_putInOrder_29 (by decide) ?_
  refine lv_iload_n hx hb dX6_putInOrder_15 rfl (lv_at hl 0 rfl) ?_
  refine lv_iconst (v := 4) hx hb dX6_putInOrder_16 (by decide) ?_
  refine lv_icmp_ge (tgt := 32) hx hb dX6_putInOrder_17 (by decide) (fun c9 => absurd c9 (by decide)) (fun _ => ?_)
  refine lv_aload_n hx hb dX6_putInOrder_20 rfl (lv_at hl 2 rfl) ?_
  refine lv_iload_n hx hb dX6_putInOrder_21 rfl (lv_at hl 1 rfl) ?_
  refine lv_iload_n hx hb dX6_putInOrder_22 rfl (lv_at hl 0 rfl) ?_
  refine va_csv (va_Run.run (va_runV (As := [.int 10, .int 3]) (rest := []) ⟨hx, hb, hml, hown, hts⟩ (c_putStage l G pn bk bd n1 pe pm n2 n3 pt pb px pg b1 b2 b3 b4 b5 ca v1 v2 v3 v4 v5 y 10 3 (by decide) (by decide)) (cwV 2 hts (gdV (List.mem_cons_of_mem _ (List.mem_append_left _ (List.mem_of_getElem? (i := 1) rfl))) (List.mem_cons_of_mem _ (List.mem_append_left _ (List.mem_of_getElem? (i := 2) rfl))) (List.mem_cons_of_mem _ (List.mem_append_left _ (List.mem_of_getElem? (i := 3) rfl))) (List.mem_cons_of_mem _ (List.mem_append_left _ (List.mem_of_getElem? (i := 4) rfl))) (fun w9 h9 => ⟨(List.mem_cons_of_mem _ (List.mem_append_right _ (List.mem_append_right _ (List.mem_append_left _ h9)))), gd_c_putStage w9 h9⟩)) rfl rfl rfl kVX6_putStageInOrder ⟨Nat.le_of_ble_eq_true rfl, Nat.le_of_ble_eq_true rfl⟩) (preV_p (As := [.int 10, .int 3]) (hP.sub (ws' := [(pn, .inr (7, [.ref bk, .ref bd, n1, .ref pe, .ref pm, n2, n3, .ref pt, .ref pb, .ref px, .ref pg, .int 0, .int y, .int 0])), (bd, .inr (1, [.ref bk, b1, b2, b3, b4, b5])), (bk, .inr (2, [.ref ca, v1, v2, v3, v4, v5])), (ca, .inl (gI G, 2088, .inl bk0))]) [0, 1, 2, 3] rfl) hB rfl rfl) rfl rfl hl.1 rfl (lv_room (Nat.le_of_ble_eq_true rfl)) dX6_putInOrder_23 ⟨Nat.le_of_ble_eq_true rfl, Nat.le_of_ble_eq_true rfl⟩)) (fun _ => ?_)
  refine W.eq (g2 := F0 m 26 ls []) rfl ?_
  refine lv_iinc (v := 4) (lv' := [(2, .int 4), (1, .int 10), (0, .ref pn)]) hx hb dX6_putInOrder_26 hl (k := 0) rfl (by decide) (by decide) rfl (fun ls hl => ?_)
  refine lv_goto (tgt := 15) hx hb dX6_putInOrder_29 (by decide) ?_
  refine lv_iload_n hx hb dX6_putInOrder_15 rfl (lv_at hl 0 rfl) ?_
  refine lv_iconst (v := 4) hx hb dX6_putInOrder_16 (by decide) ?_
  refine lv_icmp_ge (tgt := 32) hx hb dX6_putInOrder_17 (by decide) (fun _ => ?_) (fun c9 => absurd (by decide) c9)
  refine lv_iinc (v := 11) (lv' := [(1, .int 11), (2, .int 4), (0, .ref pn)]) hx hb dX6_putInOrder_32 hl (k := 1) rfl (by decide) (by decide) rfl (fun ls hl => ?_)
  refine lv_goto (tgt := 7) hx hb dX6_putInOrder_35 (by decide) ?_
  refine lv_iload_n hx hb dX6_putInOrder_7 rfl (lv_at hl 0 rfl) ?_
  refine lv_bipush (v := 20) hx hb dX6_putInOrder_8 (by decide) ?_
  refine lv_icmp_gt (tgt := 38) hx hb dX6_putInOrder_10 (by decide) (fun c9 => absurd c9 (by decide)) (fun _ => ?_)
  refine lv_iconst (v := 0) hx hb dX6_putInOrder_13 (by decide) ?_
  refine lv_istore_n (lv' := [(2, .int 0), (1, .int 11), (0, .ref pn)]) hx hb dX6_putInOrder_14 rfl hl (by decide) rfl (fun ls hl => ?_)
  refine lv_iload_n hx hb dX6_putInOrder_15 rfl (lv_at hl 0 rfl) ?_
  refine lv_iconst (v := 4) hx hb dX6_putInOrder_16 (by decide) ?_
  refine lv_icmp_ge (tgt := 32) hx hb dX6_putInOrder_17 (by decide) (fun c9 => absurd c9 (by decide)) (fun _ => ?_)
  refine lv_aload_n hx hb dX6_putInOrder_20 rfl (lv_at hl 2 rfl) ?_
  refine lv_iload_n hx hb dX6_putInOrder_21 rfl (lv_at hl 1 rfl) ?_
  refine lv_iload_n hx hb dX6_putInOrder_22 rfl (lv_at hl 0 rfl) ?_
  refine va_csv (va_Run.run (va_runV (As := [.int 11, .int 0]) (rest := []) ⟨hx, hb, hml, hown, hts⟩ (c_putStage l G pn bk bd n1 pe pm n2 n3 pt pb px pg b1 b2 b3 b4 b5 ca v1 v2 v3 v4 v5 y 11 0 (by decide) (by decide)) (cwV 2 hts (gdV (List.mem_cons_of_mem _ (List.mem_append_left _ (List.mem_of_getElem? (i := 1) rfl))) (List.mem_cons_of_mem _ (List.mem_append_left _ (List.mem_of_getElem? (i := 2) rfl))) (List.mem_cons_of_mem _ (List.mem_append_left _ (List.mem_of_getElem? (i := 3) rfl))) (List.mem_cons_of_mem _ (List.mem_append_left _ (List.mem_of_getElem? (i := 4) rfl))) (fun w9 h9 => ⟨(List.mem_cons_of_mem _ (List.mem_append_right _ (List.mem_append_right _ (List.mem_append_left _ h9)))), gd_c_putStage w9 h9⟩)) rfl rfl rfl kVX6_putStageInOrder ⟨Nat.le_of_ble_eq_true rfl, Nat.le_of_ble_eq_true rfl⟩) (preV_p (As := [.int 11, .int 0]) (hP.sub (ws' := [(pn, .inr (7, [.ref bk, .ref bd, n1, .ref pe, .ref pm, n2, n3, .ref pt, .ref pb, .ref px, .ref pg, .int 0, .int y, .int 0])), (bd, .inr (1, [.ref bk, b1, b2, b3, b4, b5])), (bk, .inr (2, [.ref ca, v1, v2, v3, v4, v5])), (ca, .inl (gI G, 2088, .inl bk0))]) [0, 1, 2, 3] rfl) hB rfl rfl) rfl rfl hl.1 rfl (lv_room (Nat.le_of_ble_eq_true rfl)) dX6_putInOrder_23 ⟨Nat.le_of_ble_eq_true rfl, Nat.le_of_ble_eq_true rfl⟩)) (fun _ => ?_)
  refine W.eq (g2 := F0 m 26 ls []) rfl ?_
  refine lv_iinc (v := 1) (lv' := [(2, .int 1), (1, .int 11), (0, .ref pn)]) hx hb dX6_putInOrder_26 hl (k := 0) rfl (by decide) (by decide) rfl (fun ls hl => ?_)
  refine lv_goto (tgt := 15) hx hb dX6_putInOrder_29 (by decide) ?_
  refine lv_iload_n hx hb dX6_putInOrder_15 rfl (lv_at hl 0 rfl) ?_
  refine lv_iconst (v := 4) hx hb dX6_putInOrder_16 (by decide) ?_
  refine lv_icmp_ge (tgt := 32) hx hb dX6_putInOrder_17 (by decide) (fun c9 => absurd c9 (by decide)) (fun _ => ?_)
  refine lv_aload_n hx hb dX6_putInOrder_20 rfl (lv_at hl 2 rfl) ?_
  refine lv_iload_n hx hb dX6_putInOrder_21 rfl (lv_at hl 1 rfl) ?_
  refine lv_iload_n hx hb dX6_putInOrder_22 rfl (lv_at hl 0 rfl) ?_
  refine va_csv (va_Run.run (va_runV (As := [.int 11, .int 1]) (rest := []) ⟨hx, hb, hml, hown, hts⟩ (c_putStage l G pn bk bd n1 pe pm n2 n3 pt pb px pg b1 b2 b3 b4 b5 ca v1 v2 v3 v4 v5 y 11 1 (by decide) (by decide)) (cwV 2 hts (gdV (List.mem_cons_of_mem _ (List.mem_append_left _ (List.mem_of_getElem? (i := 1) rfl))) (List.mem_cons_of_mem _ (List.mem_append_left _ (List.mem_of_getElem? (i := 2) rfl))) (List.mem_cons_of_mem _ (List.mem_append_left _ (List.mem_of_getElem? (i := 3) rfl))) (List.mem_cons_of_mem _ (List.mem_append_left _ (List.mem_of_getElem? (i := 4) rfl))) (fun w9 h9 => ⟨(List.mem_cons_of_mem _ (List.mem_append_right _ (List.mem_append_right _ (List.mem_append_left _ h9)))), gd_c_putStage w9 h9⟩)) rfl rfl rfl kVX6_putStageInOrder ⟨Nat.le_of_ble_eq_true rfl, Nat.le_of_ble_eq_true rfl⟩) (preV_p (As := [.int 11, .int 1]) (hP.sub (ws' := [(pn, .inr (7, [.ref bk, .ref bd, n1, .ref pe, .ref pm, n2, n3, .ref pt, .ref pb, .ref px, .ref pg, .int 0, .int y, .int 0])), (bd, .inr (1, [.ref bk, b1, b2, b3, b4, b5])), (bk, .inr (2, [.ref ca, v1, v2, v3, v4, v5])), (ca, .inl (gI G, 2088, .inl bk0))]) [0, 1, 2, 3] rfl) hB rfl rfl) rfl rfl hl.1 rfl (lv_room (Nat.le_of_ble_eq_true rfl)) dX6_putInOrder_23 ⟨Nat.le_of_ble_eq_true rfl, Nat.le_of_ble_eq_true rfl⟩)) (fun _ => ?_)
  refine W.eq (g2 := F0 m 26 ls []) rfl ?_
  refine lv_iinc (v := 2) (lv' := [(2, .int 2), (1, .int 11), (0, .ref pn)]) hx hb dX6_putInOrder_26 hl (k := 0) rfl (by decide) (by decide) rfl (fun ls hl => ?_)
  refine lv_goto (tgt := 15) hx hb dX6_putInOrder_29 (by decide) ?_
  refine lv_iload_n hx hb dX6_putInOrder_15 rfl (lv_at hl 0 rfl) ?_
  refine lv_iconst (v := 4) hx hb dX6_putInOrder_16 (by decide) ?_
  refine lv_icmp_ge (tgt := 32) hx hb dX6_putInOrder_17 (by decide) (fun c9 => absurd c9 (by decide)) (fun _ => ?_)
  refine lv_aload_n hx hb dX6_putInOrder_20 rfl (lv_at hl 2 rfl) ?_
  refine lv_iload_n hx hb dX6_putInOrder_21 rfl (lv_at hl 1 rfl) ?_
  refine lv_iload_n hx hb dX6_putInOrder_22 rfl (lv_at hl 0 rfl) ?_
  refine va_csv (va_Run.run (va_runV (As := [.int 11, .int 2]) (rest := []) ⟨hx, hb, hml, hown, hts⟩ (c_putStage l G pn bk bd n1 pe pm n2 n3 pt pb px pg b1 b2 b3 b4 b5 ca v1 v2 v3 v4 v5 y 11 2 (by decide) (by decide)) (cwV 2 hts (gdV (List.mem_cons_of_mem _ (List.mem_append_left _ (List.mem_of_getElem? (i := 1) rfl))) (List.mem_cons_of_mem _ (List.mem_append_left _ (List.mem_of_getElem? (i := 2) rfl))) (List.mem_cons_of_mem _ (List.mem_append_left _ (List.mem_of_getElem? (i := 3) rfl))) (List.mem_cons_of_mem _ (List.mem_append_left _ (List.mem_of_getElem? (i := 4) rfl))) (fun w9 h9 => ⟨(List.mem_cons_of_mem _ (List.mem_append_right _ (List.mem_append_right _ (List.mem_append_left _ h9)))), gd_c_putStage w9 h9⟩)) rfl rfl rfl kVX6_putStageInOrder ⟨Nat.le_of_ble_eq_true rfl, Nat.le_of_ble_eq_true rfl⟩) (preV_p (As := [.int 11, .int 2]) (hP.sub (ws' := [(pn, .inr (7, [.ref bk, .ref bd, n1, .ref pe, .ref pm, n2, n3, .ref pt, .ref pb, .ref px, .ref pg, .int 0, .int y, .int 0])), (bd, .inr (1, [.ref bk, b1, b2, b3, b4, b5])), (bk, .inr (2, [.ref ca, v1, v2, v3, v4, v5])), (ca, .inl (gI G, 2088, .inl bk0))]) [0, 1, 2, 3] rfl) hB rfl rfl) rfl rfl hl.1 rfl (lv_room (Nat.le_of_ble_eq_true rfl)) dX6_putInOrder_23 ⟨Nat.le_of_ble_eq_true rfl, Nat.le_of_ble_eq_true rfl⟩)) (fun _ => ?_)
  refine W.eq (g2 := F0 m 26 ls []) rfl ?_
  refine lv_iinc (v := 3) (lv' := [(2, .int 3), (1, .int 11), (0, .ref pn)]) hx hb dX6_putInOrder_26 hl (k := 0) rfl (by decide) (by decide) rfl (fun ls hl => ?_)
  refine lv_goto (tgt := 15) hx hb dX6_putInOrder_29 (by decide) ?_
  refine lv_iload_n hx hb dX6_putInOrder_15 rfl (lv_at hl 0 rfl) ?_
  refine lv_iconst (v := 4) hx hb dX6_putInOrder_16 (by decide) ?_
  refine lv_icmp_ge (tgt := 32) hx hb dX6_putInOrder_17 (by decide) (fun c9 => absurd c9 (by decide)) (fun _ => ?_)
  refine lv_aload_n hx hb dX6_putInOrder_20 rfl (lv_at hl 2 rfl) ?_
  refine lv_iload_n hx hb dX6_putInOrder_21 rfl (lv_at hl 1 rfl) ?_
  refine lv_iload_n hx hb dX6_putInOrder_22 rfl (lv_at hl 0 rfl) ?_
  refine va_csv (va_Run.run (va_runV (As := [.int 11, .int 3]) (rest := []) ⟨hx, hb, hml, hown, hts⟩ (c_putStage l G pn bk bd n1 pe pm n2 n3 pt pb px pg b1 b2 b3 b4 b5 ca v1 v2 v3 v4 v5 y 11 3 (by decide) (by decide)) (cwV 2 hts (gdV (List.mem_cons_of_mem _ (List.mem_append_left _ (List.mem_of_getElem? (i := 1) rfl))) (List.mem_cons_of_mem _ (List.mem_append_left _ (List.mem_of_getElem? (i := 2) rfl))) (List.mem_cons_of_mem _ (List.mem_append_left _ (List.mem_of_getElem? (i := 3) rfl))) (List.mem_cons_of_mem _ (List.mem_append_left _ (List.mem_of_getElem? (i := 4) rfl))) (fun w9 h9 => ⟨(List.mem_cons_of_mem _ (List.mem_append_right _ (List.mem_append_right _ (List.mem_append_left _ h9)))), gd_c_putStage w9 h9⟩)) rfl rfl rfl kVX6_putStageInOrder ⟨Nat.le_of_ble_eq_true rfl, Nat.le_of_ble_eq_true rfl⟩) (preV_p (As := [.int 11, .int 3]) (hP.sub (ws' := [(pn, .inr (7, [.ref bk, .ref bd, n1, .ref pe, .ref pm, n2, n3, .ref pt, .ref pb, .ref px, .ref pg, .int 0, .int y, .int 0])), (bd, .inr (1, [.ref bk, b1, b2, b3, b4, b5])), (bk, .inr (2, [.ref ca, v1, v2, v3, v4, v5])), (ca, .inl (gI G, 2088, .inl bk0))]) [0, 1, 2, 3] rfl) hB rfl rfl) rfl rfl hl.1 rfl (lv_room (Nat.le_of_ble_eq_true rfl)) dX6_putInOrder_23 ⟨Nat.le_of_ble_eq_true rfl, Nat.le_of_ble_eq_true rfl⟩)) (fun _ => ?_)
  refine W.eq (g2 := F0 m 26 ls []) rfl ?_
  refine lv_iinc (v := 4) (lv' := [(2, .int 4), (1, .int 11), (0, .ref pn)]) hx hb dX6_putInOrder_26 hl (k := 0) rfl (by decide) (by decide) rfl (fun ls hl => ?_)
  refine lv_goto (tgt := 15) hx hb dX6_putInOrder_29 (by decide) ?_
  refine lv_iload_n hx hb dX6_putInOrder_15 rfl (lv_at hl 0 rfl) ?_
  refine lv_iconst (v := 4) hx hb dX6_putInOrder_16 (by decide) ?_
  refine lv_icmp_ge (tgt := 32) hx hb dX6_putInOrder_17 (by decide) (fun _ => ?_) (fun c9 => absurd (by decide) c9)
  refine lv_iinc (v := 12) (lv' := [(1, .int 12), (2, .int 4), (0, .ref pn)]) hx hb dX6_putInOrder_32 hl (k := 1) rfl (by decide) (by decide) rfl (fun ls hl => ?_)
  refine lv_goto (tgt := 7) hx hb dX6_putInOrder_35 (by decide) ?_
  refine lv_iload_n hx hb dX6_putInOrder_7 rfl (lv_at hl 0 rfl) ?_
  refine lv_bipush (v := 20) hx hb dX6_putInOrder_8 (by decide) ?_
  refine lv_icmp_gt (tgt := 38) hx hb dX6_putInOrder_10 (by decide) (fun c9 => absurd c9 (by decide)) (fun _ => ?_)
  refine lv_iconst (v := 0) hx hb dX6_putInOrder_13 (by decide) ?_
  refine lv_istore_n (lv' := [(2, .int 0), (1, .int 12), (0, .ref pn)]) hx hb dX6_putInOrder_14 rfl hl (by decide) rfl (fun ls hl => ?_)
  refine lv_iload_n hx hb dX6_putInOrder_15 rfl (lv_at hl 0 rfl) ?_
  refine lv_iconst (v := 4) hx hb dX6_putInOrder_16 (by decide) ?_
  refine lv_icmp_ge (tgt := 32) hx hb dX6_putInOrder_17 (by decide) (fun c9 => absurd c9 (by decide)) (fun _ => ?_)
  refine lv_aload_n hx hb dX6_putInOrder_20 rfl (lv_at hl 2 rfl) ?_
  refine lv_iload_n hx hb dX6_putInOrder_21 rfl (lv_at hl 1 rfl) ?_
  refine lv_iload_n hx hb dX6_putInOrder_22 rfl (lv_at hl 0 rfl) ?_
  refine va_csv (va_Run.run (va_runV (As := [.int 12, .int 0]) (rest := []) ⟨hx, hb, hml, hown, hts⟩ (c_putStage l G pn bk bd n1 pe pm n2 n3 pt pb px pg b1 b2 b3 b4 b5 ca v1 v2 v3 v4 v5 y 12 0 (by decide) (by decide)) (cwV 2 hts (gdV (List.mem_cons_of_mem _ (List.mem_append_left _ (List.mem_of_getElem? (i := 1) rfl))) (List.mem_cons_of_mem _ (List.mem_append_left _ (List.mem_of_getElem? (i := 2) rfl))) (List.mem_cons_of_mem _ (List.mem_append_left _ (List.mem_of_getElem? (i := 3) rfl))) (List.mem_cons_of_mem _ (List.mem_append_left _ (List.mem_of_getElem? (i := 4) rfl))) (fun w9 h9 => ⟨(List.mem_cons_of_mem _ (List.mem_append_right _ (List.mem_append_right _ (List.mem_append_left _ h9)))), gd_c_putStage w9 h9⟩)) rfl rfl rfl kVX6_putStageInOrder ⟨Nat.le_of_ble_eq_true rfl, Nat.le_of_ble_eq_true rfl⟩) (preV_p (As := [.int 12, .int 0]) (hP.sub (ws' := [(pn, .inr (7, [.ref bk, .ref bd, n1, .ref pe, .ref pm, n2, n3, .ref pt, .ref pb, .ref px, .ref pg, .int 0, .int y, .int 0])), (bd, .inr (1, [.ref bk, b1, b2, b3, b4, b5])), (bk, .inr (2, [.ref ca, v1, v2, v3, v4, v5])), (ca, .inl (gI G, 2088, .inl bk0))]) [0, 1, 2, 3] rfl) hB rfl rfl) rfl rfl hl.1 rfl (lv_room (Nat.le_of_ble_eq_true rfl)) dX6_putInOrder_23 ⟨Nat.le_of_ble_eq_true rfl, Nat.le_of_ble_eq_true rfl⟩)) (fun _ => ?_)
  refine W.eq (g2 := F0 m 26 ls []) rfl ?_
  refine lv_iinc (v := 1) (lv' := [(2, .int 1), (1, .int 12), (0, .ref pn)]) hx hb dX6_putInOrder_26 hl (k := 0) rfl (by decide) (by decide) rfl (fun ls hl => ?_)
  refine lv_goto (tgt := 15) hx hb dX6_putInOrder_29 (by decide) ?_
  refine lv_iload_n hx hb dX6_putInOrder_15 rfl (lv_at hl 0 rfl) ?_
  refine lv_iconst (v := 4) hx hb dX6_putInOrder_16 (by decide) ?_
  refine lv_icmp_ge (tgt := 32) hx hb dX6_putInOrder_17 (by decide) (fun c9 => absurd c9 (by decide)) (fun _ => ?_)
  refine lv_aload_n hx hb dX6_putInOrder_20 rfl (lv_at hl 2 rfl) ?_
  refine lv_iload_n hx hb dX6_putInOrder_21 rfl (lv_at hl 1 rfl) ?_
  refine lv_iload_n hx hb dX6_putInOrder_22 rfl (lv_at hl 0 rfl) ?_
  refine va_csv (va_Run.run (va_runV (As := [.int 12, .int 1]) (rest := []) ⟨hx, hb, hml, hown, hts⟩ (c_putStage l G pn bk bd n1 pe pm n2 n3 pt pb px pg b1 b2 b3 b4 b5 ca v1 v2 v3 v4 v5 y 12 1 (by decide) (by decide)) (cwV 2 hts (gdV (List.mem_cons_of_mem _ (List.mem_append_left _ (List.mem_of_getElem? (i := 1) rfl))) (List.mem_cons_of_mem _ (List.mem_append_left _ (List.mem_of_getElem? (i := 2) rfl))) (List.mem_cons_of_mem _ (List.mem_append_left _ (List.mem_of_getElem? (i := 3) rfl))) (List.mem_cons_of_mem _ (List.mem_append_left _ (List.mem_of_getElem? (i := 4) rfl))) (fun w9 h9 => ⟨(List.mem_cons_of_mem _ (List.mem_append_right _ (List.mem_append_right _ (List.mem_append_left _ h9)))), gd_c_putStage w9 h9⟩)) rfl rfl rfl kVX6_putStageInOrder ⟨Nat.le_of_ble_eq_true rfl, Nat.le_of_ble_eq_true rfl⟩) (preV_p (As := [.int 12, .int 1]) (hP.sub (ws' := [(pn, .inr (7, [.ref bk, .ref bd, n1, .ref pe, .ref pm, n2, n3, .ref pt, .ref pb, .ref px, .ref pg, .int 0, .int y, .int 0])), (bd, .inr (1, [.ref bk, b1, b2, b3, b4, b5])), (bk, .inr (2, [.ref ca, v1, v2, v3, v4, v5])), (ca, .inl (gI G, 2088, .inl bk0))]) [0, 1, 2, 3] rfl) hB rfl rfl) rfl rfl hl.1 rfl (lv_room (Nat.le_of_ble_eq_true rfl)) dX6_putInOrder_23 ⟨Nat.le_of_ble_eq_true rfl, Nat.le_of_ble_eq_true rfl⟩)) (fun _ => ?_)
  refine W.eq (g2 := F0 m 26 ls []) rfl ?_
  refine lv_iinc (v := 2) (lv' := [(2, .int 2), (1, .int 12), (0, .ref pn)]) hx hb dX6_putInOrder_26 hl (k := 0) rfl (by decide) (by decide) rfl (fun ls hl => ?_)
  refine lv_goto (tgt := 15) hx hb dX6_putInOrder_29 (by decide) ?_
  refine lv_iload_n hx hb dX6_putInOrder_15 rfl (lv_at hl 0 rfl) ?_
  refine lv_iconst (v := 4) hx hb dX6_putInOrder_16 (by decide) ?_
  refine lv_icmp_ge (tgt := 32) hx hb dX6_putInOrder_17 (by decide) (fun c9 => absurd c9 (by decide)) (fun _ => ?_)
  refine lv_aload_n hx hb dX6_putInOrder_20 rfl (lv_at hl 2 rfl) ?_
  refine lv_iload_n hx hb dX6_putInOrder_21 rfl (lv_at hl 1 rfl) ?_
  refine lv_iload_n hx hb dX6_putInOrder_22 rfl (lv_at hl 0 rfl) ?_
  refine va_csv (va_Run.run (va_runV (As := [.int 12, .int 2]) (rest := []) ⟨hx, hb, hml, hown, hts⟩ (c_putStage l G pn bk bd n1 pe pm n2 n3 pt pb px pg b1 b2 b3 b4 b5 ca v1 v2 v3 v4 v5 y 12 2 (by decide) (by decide)) (cwV 2 hts (gdV (List.mem_cons_of_mem _ (List.mem_append_left _ (List.mem_of_getElem? (i := 1) rfl))) (List.mem_cons_of_mem _ (List.mem_append_left _ (List.mem_of_getElem? (i := 2) rfl))) (List.mem_cons_of_mem _ (List.mem_append_left _ (List.mem_of_getElem? (i := 3) rfl))) (List.mem_cons_of_mem _ (List.mem_append_left _ (List.mem_of_getElem? (i := 4) rfl))) (fun w9 h9 => ⟨(List.mem_cons_of_mem _ (List.mem_append_right _ (List.mem_append_right _ (List.mem_append_left _ h9)))), gd_c_putStage w9 h9⟩)) rfl rfl rfl kVX6_putStageInOrder ⟨Nat.le_of_ble_eq_true rfl, Nat.le_of_ble_eq_true rfl⟩) (preV_p (As := [.int 12, .int 2]) (hP.sub (ws' := [(pn, .inr (7, [.ref bk, .ref bd, n1, .ref pe, .ref pm, n2, n3, .ref pt, .ref pb, .ref px, .ref pg, .int 0, .int y, .int 0])), (bd, .inr (1, [.ref bk, b1, b2, b3, b4, b5])), (bk, .inr (2, [.ref ca, v1, v2, v3, v4, v5])), (ca, .inl (gI G, 2088, .inl bk0))]) [0, 1, 2, 3] rfl) hB rfl rfl) rfl rfl hl.1 rfl (lv_room (Nat.le_of_ble_eq_true rfl)) dX6_putInOrder_23 ⟨Nat.le_of_ble_eq_true rfl, Nat.le_of_ble_eq_true rfl⟩)) (fun _ => ?_)
  refine W.eq (g2 := F0 m 26 ls []) rfl ?_
  refine lv_iinc (v := 3) (lv' := [(2, .int 3), (1, .int 12), (0, .ref pn)]) hx hb dX6_putInOrder_26 hl (k := 0) rfl (by decide) (by decide) rfl (fun ls hl => ?_)
  refine lv_goto (tgt := 15) hx hb dX6_putInOrder_29 (by decide) ?_
  refine lv_iload_n hx hb dX6_putInOrder_15 rfl (lv_at hl 0 rfl) ?_
  refine lv_iconst (v := 4) hx hb dX6_putInOrder_16 (by decide) ?_
  refine lv_icmp_ge (tgt := 32) hx hb dX6_putInOrder_17 (by decide) (fun c9 => absurd c9 (by decide)) (fun _ => ?_)
  refine lv_aload_n hx hb dX6_putInOrder_20 rfl (lv_at hl 2 rfl) ?_
  refine lv_iload_n hx hb dX6_putInOrder_21 rfl (lv_at hl 1 rfl) ?_
  refine lv_iload_n hx hb dX6_putInOrder_22 rfl (lv_at hl 0 rfl) ?_
  refine va_csv (va_Run.run (va_runV (As := [.int 12, .int 3]) (rest := []) ⟨hx, hb, hml, hown, hts⟩ (c_putStage l G pn bk bd n1 pe pm n2 n3 pt pb px pg b1 b2 b3 b4 b5 ca v1 v2 v3 v4 v5 y 12 3 (by decide) (by decide)) (cwV 2 hts (gdV (List.mem_cons_of_mem _ (List.mem_append_left _ (List.mem_of_getElem? (i := 1) rfl))) (List.mem_cons_of_mem _ (List.mem_append_left _ (List.mem_of_getElem? (i := 2) rfl))) (List.mem_cons_of_mem _ (List.mem_append_left _ (List.mem_of_getElem? (i := 3) rfl))) (List.mem_cons_of_mem _ (List.mem_append_left _ (List.mem_of_getElem? (i := 4) rfl))) (fun w9 h9 => ⟨(List.mem_cons_of_mem _ (List.mem_append_right _ (List.mem_append_right _ (List.mem_append_left _ h9)))), gd_c_putStage w9 h9⟩)) rfl rfl rfl kVX6_putStageInOrder ⟨Nat.le_of_ble_eq_true rfl, Nat.le_of_ble_eq_true rfl⟩) (preV_p (As := [.int 12, .int 3]) (hP.sub (ws' := [(pn, .inr (7, [.ref bk, .ref bd, n1, .ref pe, .ref pm, n2, n3, .ref pt, .ref pb, .ref px, .ref pg, .int 0, .int y, .int 0])), (bd, .inr (1, [.ref bk, b1, b2, b3, b4, b5])), (bk, .inr (2, [.ref ca, v1, v2, v3, v4, v5])), (ca, .inl (gI G, 2088, .inl bk0))]) [0, 1, 2, 3] rfl) hB rfl rfl) rfl rfl hl.1 rfl (lv_room (Nat.le_of_ble_eq_true rfl)) dX6_putInOrder_23 ⟨Nat.le_of_ble_eq_true rfl, Nat.le_of_ble_eq_true rfl⟩)) (fun _ => ?_)
  refine W.eq (g2 := F0 m 26 ls []) rfl ?_
  refine lv_iinc (v := 4) (lv' := [(2, .int 4), (1, .int 12), (0, .ref pn)]) hx hb dX6_putInOrder_26 hl (k := 0) rfl (by decide) (by decide) rfl (fun ls hl => ?_)
  refine lv_goto (tgt := 15) hx hb dX6_putInOrder_29 (by decide) ?_
  refine lv_iload_n hx hb dX6_putInOrder_15 rfl (lv_at hl 0 rfl) ?_
  refine lv_iconst (v := 4) hx hb dX6_putInOrder_16 (by decide) ?_
  refine lv_icmp_ge (tgt := 32) hx hb dX6_putInOrder_17 (by decide) (fun _ => ?_) (fun c9 => absurd (by decide) c9)
  refine lv_iinc (v := 13) (lv' := [(1, .int 13), (2, .int 4), (0, .ref pn)]) hx hb dX6_putInOrder_32 hl (k := 1) rfl (by decide) (by decide) rfl (fun ls hl => ?_)
  refine lv_goto (tgt := 7) hx hb dX6_putInOrder_35 (by decide) ?_
  refine lv_iload_n hx hb dX6_putInOrder_7 rfl (lv_at hl 0 rfl) ?_
  refine lv_bipush (v := 20) hx hb dX6_putInOrder_8 (by decide) ?_
  refine lv_icmp_gt (tgt := 38) hx hb dX6_putInOrder_10 (by decide) (fun c9 => absurd c9 (by decide)) (fun _ => ?_)
  refine lv_iconst (v := 0) hx hb dX6_putInOrder_13 (by decide) ?_
  refine lv_istore_n (lv' := [(2, .int 0), (1, .int 13), (0, .ref pn)]) hx hb dX6_putInOrder_14 rfl hl (by decide) rfl (fun ls hl => ?_)
  refine lv_iload_n hx hb dX6_putInOrder_15 rfl (lv_at hl 0 rfl) ?_
  refine lv_iconst (v := 4) hx hb dX6_putInOrder_16 (by decide) ?_
  refine lv_icmp_ge (tgt := 32) hx hb dX6_putInOrder_17 (by decide) (fun c9 => absurd c9 (by decide)) (fun _ => ?_)
  refine lv_aload_n hx hb dX6_putInOrder_20 rfl (lv_at hl 2 rfl) ?_
  refine lv_iload_n hx hb dX6_putInOrder_21 rfl (lv_at hl 1 rfl) ?_
  refine lv_iload_n hx hb dX6_putInOrder_22 rfl (lv_at hl 0 rfl) ?_
  refine va_csv (va_Run.run (va_runV (As := [.int 13, .int 0]) (rest := []) ⟨hx, hb, hml, hown, hts⟩ (c_putStage l G pn bk bd n1 pe pm n2 n3 pt pb px pg b1 b2 b3 b4 b5 ca v1 v2 v3 v4 v5 y 13 0 (by decide) (by decide)) (cwV 2 hts (gdV (List.mem_cons_of_mem _ (List.mem_append_left _ (List.mem_of_getElem? (i := 1) rfl))) (List.mem_cons_of_mem _ (List.mem_append_left _ (List.mem_of_getElem? (i := 2) rfl))) (List.mem_cons_of_mem _ (List.mem_append_left _ (List.mem_of_getElem? (i := 3) rfl))) (List.mem_cons_of_mem _ (List.mem_append_left _ (List.mem_of_getElem? (i := 4) rfl))) (fun w9 h9 => ⟨(List.mem_cons_of_mem _ (List.mem_append_right _ (List.mem_append_right _ (List.mem_append_left _ h9)))), gd_c_putStage w9 h9⟩)) rfl rfl rfl kVX6_putStageInOrder ⟨Nat.le_of_ble_eq_true rfl, Nat.le_of_ble_eq_true rfl⟩) (preV_p (As := [.int 13, .int 0]) (hP.sub (ws' := [(pn, .inr (7, [.ref bk, .ref bd, n1, .ref pe, .ref pm, n2, n3, .ref pt, .ref pb, .ref px, .ref pg, .int 0, .int y, .int 0])), (bd, .inr (1, [.ref bk, b1, b2, b3, b4, b5])), (bk, .inr (2, [.ref ca, v1, v2, v3, v4, v5])), (ca, .inl (gI G, 2088, .inl bk0))]) [0, 1, 2, 3] rfl) hB rfl rfl) rfl rfl hl.1 rfl (lv_room (Nat.le_of_ble_eq_true rfl)) dX6_putInOrder_23 ⟨Nat.le_of_ble_eq_true rfl, Nat.le_of_ble_eq_true rfl⟩)) (fun _ => ?_)
  refine W.eq (g2 := F0 m 26 ls []) rfl ?_
  refine lv_iinc (v := 1) (lv' := [(2, .int 1), (1, .int 13), (0, .ref pn)]) hx hb dX6_putInOrder_26 hl (k := 0) rfl (by decide) (by decide) rfl (fun ls hl => ?_)
  refine lv_goto (tgt := 15) hx hb dX6_putInOrder_29 (by decide) ?_
  refine lv_iload_n hx hb dX6_putInOrder_15 rfl (lv_at hl 0 rfl) ?_
  refine lv_iconst (v := 4) hx hb dX6_putInOrder_16 (by decide) ?_
  refine lv_icmp_ge (tgt := 32) hx hb dX6_putInOrder_17 (by decide) (fun c9 => absurd c9 (by decide)) (fun _ => ?_)
  refine lv_aload_n hx hb dX6_putInOrder_20 rfl (lv_at hl 2 rfl) ?_
  refine lv_iload_n hx hb dX6_putInOrder_21 rfl (lv_at hl 1 rfl) ?_
  refine lv_iload_n hx hb dX6_putInOrder_22 rfl (lv_at hl 0 rfl) ?_
  refine va_csv (va_Run.run (va_runV (As := [.int 13, .int 1]) (rest := []) ⟨hx, hb, hml, hown, hts⟩ (c_putStage l G pn bk bd n1 pe pm n2 n3 pt pb px pg b1 b2 b3 b4 b5 ca v1 v2 v3 v4 v5 y 13 1 (by decide) (by decide)) (cwV 2 hts (gdV (List.mem_cons_of_mem _ (List.mem_append_left _ (List.mem_of_getElem? (i := 1) rfl))) (List.mem_cons_of_mem _ (List.mem_append_left _ (List.mem_of_getElem? (i := 2) rfl))) (List.mem_cons_of_mem _ (List.mem_append_left _ (List.mem_of_getElem? (i := 3) rfl))) (List.mem_cons_of_mem _ (List.mem_append_left _ (List.mem_of_getElem? (i := 4) rfl))) (fun w9 h9 => ⟨(List.mem_cons_of_mem _ (List.mem_append_right _ (List.mem_append_right _ (List.mem_append_left _ h9)))), gd_c_putStage w9 h9⟩)) rfl rfl rfl kVX6_putStageInOrder ⟨Nat.le_of_ble_eq_true rfl, Nat.le_of_ble_eq_true rfl⟩) (preV_p (As := [.int 13, .int 1]) (hP.sub (ws' := [(pn, .inr (7, [.ref bk, .ref bd, n1, .ref pe, .ref pm, n2, n3, .ref pt, .ref pb, .ref px, .ref pg, .int 0, .int y, .int 0])), (bd, .inr (1, [.ref bk, b1, b2, b3, b4, b5])), (bk, .inr (2, [.ref ca, v1, v2, v3, v4, v5])), (ca, .inl (gI G, 2088, .inl bk0))]) [0, 1, 2, 3] rfl) hB rfl rfl) rfl rfl hl.1 rfl (lv_room (Nat.le_of_ble_eq_true rfl)) dX6_putInOrder_23 ⟨Nat.le_of_ble_eq_true rfl, Nat.le_of_ble_eq_true rfl⟩)) (fun _ => ?_)
  refine W.eq (g2 := F0 m 26 ls []) rfl ?_
  refine lv_iinc (v := 2) (lv' := [(2, .int 2), (1, .int 13), (0, .ref pn)]) hx hb dX6_putInOrder_26 hl (k := 0) rfl (by decide) (by decide) rfl (fun ls hl => ?_)
  refine lv_goto (tgt := 15) hx hb dX6_putInOrder_29 (by decide) ?_
  refine lv_iload_n hx hb dX6_putInOrder_15 rfl (lv_at hl 0 rfl) ?_
  refine lv_iconst (v := 4) hx hb dX6_putInOrder_16 (by decide) ?_
  refine lv_icmp_ge (tgt := 32) hx hb dX6_putInOrder_17 (by decide) (fun c9 => absurd c9 (by decide)) (fun _ => ?_)
  refine lv_aload_n hx hb dX6_putInOrder_20 rfl (lv_at hl 2 rfl) ?_
  refine lv_iload_n hx hb dX6_putInOrder_21 rfl (lv_at hl 1 rfl) ?_
  refine lv_iload_n hx hb dX6_putInOrder_22 rfl (lv_at hl 0 rfl) ?_
  refine va_csv (va_Run.run (va_runV (As := [.int 13, .int 2]) (rest := []) ⟨hx, hb, hml, hown, hts⟩ (c_putStage l G pn bk bd n1 pe pm n2 n3 pt pb px pg b1 b2 b3 b4 b5 ca v1 v2 v3 v4 v5 y 13 2 (by decide) (by decide)) (cwV 2 hts (gdV (List.mem_cons_of_mem _ (List.mem_append_left _ (List.mem_of_getElem? (i := 1) rfl))) (List.mem_cons_of_mem _ (List.mem_append_left _ (List.mem_of_getElem? (i := 2) rfl))) (List.mem_cons_of_mem _ (List.mem_append_left _ (List.mem_of_getElem? (i := 3) rfl))) (List.mem_cons_of_mem _ (List.mem_append_left _ (List.mem_of_getElem? (i := 4) rfl))) (fun w9 h9 => ⟨(List.mem_cons_of_mem _ (List.mem_append_right _ (List.mem_append_right _ (List.mem_append_left _ h9)))), gd_c_putStage w9 h9⟩)) rfl rfl rfl kVX6_putStageInOrder ⟨Nat.le_of_ble_eq_true rfl, Nat.le_of_ble_eq_true rfl⟩) (preV_p (As := [.int 13, .int 2]) (hP.sub (ws' := [(pn, .inr (7, [.ref bk, .ref bd, n1, .ref pe, .ref pm, n2, n3, .ref pt, .ref pb, .ref px, .ref pg, .int 0, .int y, .int 0])), (bd, .inr (1, [.ref bk, b1, b2, b3, b4, b5])), (bk, .inr (2, [.ref ca, v1, v2, v3, v4, v5])), (ca, .inl (gI G, 2088, .inl bk0))]) [0, 1, 2, 3] rfl) hB rfl rfl) rfl rfl hl.1 rfl (lv_room (Nat.le_of_ble_eq_true rfl)) dX6_putInOrder_23 ⟨Nat.le_of_ble_eq_true rfl, Nat.le_of_ble_eq_true rfl⟩)) (fun _ => ?_)
  refine W.eq (g2 := F0 m 26 ls []) rfl ?_
  refine lv_iinc (v := 3) (lv' := [(2, .int 3), (1, .int 13), (0, .ref pn)]) hx hb dX6_putInOrder_26 hl (k := 0) rfl (by decide) (by decide) rfl (fun ls hl => ?_)
  refine lv_goto (tgt := 15) hx hb dX6_putInOrder_29 (by decide) ?_
  refine lv_iload_n hx hb dX6_putInOrder_15 rfl (lv_at hl 0 rfl) ?_
  refine lv_iconst (v := 4) hx hb dX6_putInOrder_16 (by decide) ?_
  refine lv_icmp_ge (tgt := 32) hx hb dX6_putInOrder_17 (by decide) (fun c9 => absurd c9 (by decide)) (fun _ => ?_)
  refine lv_aload_n hx hb dX6_putInOrder_20 rfl (lv_at hl 2 rfl) ?_
  refine lv_iload_n hx hb dX6_putInOrder_21 rfl (lv_at hl 1 rfl) ?_
  refine lv_iload_n hx hb dX6_putInOrder_22 rfl (lv_at hl 0 rfl) ?_
  refine va_csv (va_Run.run (va_runV (As := [.int 13, .int 3]) (rest := []) ⟨hx, hb, hml, hown, hts⟩ (c_putStage l G pn bk bd n1 pe pm n2 n3 pt pb px pg b1 b2 b3 b4 b5 ca v1 v2 v3 v4 v5 y 13 3 (by decide) (by decide)) (cwV 2 hts (gdV (List.mem_cons_of_mem _ (List.mem_append_left _ (List.mem_of_getElem? (i := 1) rfl))) (List.mem_cons_of_mem _ (List.mem_append_left _ (List.mem_of_getElem? (i := 2) rfl))) (List.mem_cons_of_mem _ (List.mem_append_left _ (List.mem_of_getElem? (i := 3) rfl))) (List.mem_cons_of_mem _ (List.mem_append_left _ (List.mem_of_getElem? (i := 4) rfl))) (fun w9 h9 => ⟨(List.mem_cons_of_mem _ (List.mem_append_right _ (List.mem_append_right _ (List.mem_append_left _ h9)))), gd_c_putStage w9 h9⟩)) rfl rfl rfl kVX6_putStageInOrder ⟨Nat.le_of_ble_eq_true rfl, Nat.le_of_ble_eq_true rfl⟩) (preV_p (As := [.int 13, .int 3]) (hP.sub (ws' := [(pn, .inr (7, [.ref bk, .ref bd, n1, .ref pe, .ref pm, n2, n3, .ref pt, .ref pb, .ref px, .ref pg, .int 0, .int y, .int 0])), (bd, .inr (1, [.ref bk, b1, b2, b3, b4, b5])), (bk, .inr (2, [.ref ca, v1, v2, v3, v4, v5])), (ca, .inl (gI G, 2088, .inl bk0))]) [0, 1, 2, 3] rfl) hB rfl rfl) rfl rfl hl.1 rfl (lv_room (Nat.le_of_ble_eq_true rfl)) dX6_putInOrder_23 ⟨Nat.le_of_ble_eq_true rfl, Nat.le_of_ble_eq_true rfl⟩)) (fun _ => ?_)
  refine W.eq (g2 := F0 m 26 ls []) rfl ?_
  refine lv_iinc (v := 4) (lv' := [(2, .int 4), (1, .int 13), (0, .ref pn)]) hx hb dX6_putInOrder_26 hl (k := 0) rfl (by decide) (by decide) rfl (fun ls hl => ?_)
  refine lv_goto (tgt := 15) hx hb dX6_putInOrder_29 (by decide) ?_
  refine lv_iload_n hx hb dX6_putInOrder_15 rfl (lv_at hl 0 rfl) ?_
  refine lv_iconst (v := 4) hx hb dX6_putInOrder_16 (by decide) ?_
  refine lv_icmp_ge (tgt := 32) hx hb dX6_putInOrder_17 (by decide) (fun _ => ?_) (fun c9 => absurd (by decide) c9)
  refine lv_iinc (v := 14) (lv' := [(1, .int 14), (2, .int 4), (0, .ref pn)]) hx hb dX6_putInOrder_32 hl (k := 1) rfl (by decide) (by decide) rfl (fun ls hl => ?_)
  refine lv_goto (tgt := 7) hx hb dX6_putInOrder_35 (by decide) ?_
  refine lv_iload_n hx hb dX6_putInOrder_7 rfl (lv_at hl 0 rfl) ?_
  refine lv_bipush (v := 20) hx hb dX6_putInOrder_8 (by decide) ?_
  refine lv_icmp_gt (tgt := 38) hx hb dX6_putInOrder_10 (by decide) (fun c9 => absurd c9 (by decide)) (fun _ => ?_)
  refine lv_iconst (v := 0) hx hb dX6_putInOrder_13 (by decide) ?_
  refine lv_istore_n (lv' := [(2, .int 0), (1, .int 14), (0, .ref pn)]) hx hb dX6_putInOrder_14 rfl hl (by decide) rfl (fun ls hl => ?_)
  refine lv_iload_n hx hb dX6_putInOrder_15 rfl (lv_at hl 0 rfl) ?_
  refine lv_iconst (v := 4) hx hb dX6_putInOrder_16 (by decide) ?_
  refine lv_icmp_ge (tgt := 32) hx hb dX6_putInOrder_17 (by decide) (fun c9 => absurd c9 (by decide)) (fun _ => ?_)
  refine lv_aload_n hx hb dX6_putInOrder_20 rfl (lv_at hl 2 rfl) ?_
  refine lv_iload_n hx hb dX6_putInOrder_21 rfl (lv_at hl 1 rfl) ?_
  refine lv_iload_n hx hb dX6_putInOrder_22 rfl (lv_at hl 0 rfl) ?_
  refine va_csv (va_Run.run (va_runV (As := [.int 14, .int 0]) (rest := []) ⟨hx, hb, hml, hown, hts⟩ (c_putStage l G pn bk bd n1 pe pm n2 n3 pt pb px pg b1 b2 b3 b4 b5 ca v1 v2 v3 v4 v5 y 14 0 (by decide) (by decide)) (cwV 2 hts (gdV (List.mem_cons_of_mem _ (List.mem_append_left _ (List.mem_of_getElem? (i := 1) rfl))) (List.mem_cons_of_mem _ (List.mem_append_left _ (List.mem_of_getElem? (i := 2) rfl))) (List.mem_cons_of_mem _ (List.mem_append_left _ (List.mem_of_getElem? (i := 3) rfl))) (List.mem_cons_of_mem _ (List.mem_append_left _ (List.mem_of_getElem? (i := 4) rfl))) (fun w9 h9 => ⟨(List.mem_cons_of_mem _ (List.mem_append_right _ (List.mem_append_right _ (List.mem_append_left _ h9)))), gd_c_putStage w9 h9⟩)) rfl rfl rfl kVX6_putStageInOrder ⟨Nat.le_of_ble_eq_true rfl, Nat.le_of_ble_eq_true rfl⟩) (preV_p (As := [.int 14, .int 0]) (hP.sub (ws' := [(pn, .inr (7, [.ref bk, .ref bd, n1, .ref pe, .ref pm, n2, n3, .ref pt, .ref pb, .ref px, .ref pg, .int 0, .int y, .int 0])), (bd, .inr (1, [.ref bk, b1, b2, b3, b4, b5])), (bk, .inr (2, [.ref ca, v1, v2, v3, v4, v5])), (ca, .inl (gI G, 2088, .inl bk0))]) [0, 1, 2, 3] rfl) hB rfl rfl) rfl rfl hl.1 rfl (lv_room (Nat.le_of_ble_eq_true rfl)) dX6_putInOrder_23 ⟨Nat.le_of_ble_eq_true rfl, Nat.le_of_ble_eq_true rfl⟩)) (fun _ => ?_)
  refine W.eq (g2 := F0 m 26 ls []) rfl ?_
  refine lv_iinc (v := 1) (lv' := [(2, .int 1), (1, .int 14), (0, .ref pn)]) hx hb dX6_putInOrder_26 hl (k := 0) rfl (by decide) (by decide) rfl (fun ls hl => ?_)
  refine lv_goto (tgt := 15) hx hb dX6_putInOrder_29 (by decide) ?_
  refine lv_iload_n hx hb dX6_putInOrder_15 rfl (lv_at hl 0 rfl) ?_
  refine lv_iconst (v := 4) hx hb dX6_putInOrder_16 (by decide) ?_
  refine lv_icmp_ge (tgt := 32) hx hb dX6_putInOrder_17 (by decide) (fun c9 => absurd c9 (by decide)) (fun _ => ?_)
  refine lv_aload_n hx hb dX6_putInOrder_20 rfl (lv_at hl 2 rfl) ?_
  refine lv_iload_n hx hb dX6_putInOrder_21 rfl (lv_at hl 1 rfl) ?_
  refine lv_iload_n hx hb dX6_putInOrder_22 rfl (lv_at hl 0 rfl) ?_
  refine va_csv (va_Run.run (va_runV (As := [.int 14, .int 1]) (rest := []) ⟨hx, hb, hml, hown, hts⟩ (c_putStage l G pn bk bd n1 pe pm n2 n3 pt pb px pg b1 b2 b3 b4 b5 ca v1 v2 v3 v4 v5 y 14 1 (by decide) (by decide)) (cwV 2 hts (gdV (List.mem_cons_of_mem _ (List.mem_append_left _ (List.mem_of_getElem? (i := 1) rfl))) (List.mem_cons_of_mem _ (List.mem_append_left _ (List.mem_of_getElem? (i := 2) rfl))) (List.mem_cons_of_mem _ (List.mem_append_left _ (List.mem_of_getElem? (i := 3) rfl))) (List.mem_cons_of_mem _ (List.mem_append_left _ (List.mem_of_getElem? (i := 4) rfl))) (fun w9 h9 => ⟨(List.mem_cons_of_mem _ (List.mem_append_right _ (List.mem_append_right _ (List.mem_append_left _ h9)))), gd_c_putStage w9 h9⟩)) rfl rfl rfl kVX6_putStageInOrder ⟨Nat.le_of_ble_eq_true rfl, Nat.le_of_ble_eq_true rfl⟩) (preV_p (As := [.int 14, .int 1]) (hP.sub (ws' := [(pn, .inr (7, [.ref bk, .ref bd, n1, .ref pe, .ref pm, n2, n3, .ref pt, .ref pb, .ref px, .ref pg, .int 0, .int y, .int 0])), (bd, .inr (1, [.ref bk, b1, b2, b3, b4, b5])), (bk, .inr (2, [.ref ca, v1, v2, v3, v4, v5])), (ca, .inl (gI G, 2088, .inl bk0))]) [0, 1, 2, 3] rfl) hB rfl rfl) rfl rfl hl.1 rfl (lv_room (Nat.le_of_ble_eq_true rfl)) dX6_putInOrder_23 ⟨Nat.le_of_ble_eq_true rfl, Nat.le_of_ble_eq_true rfl⟩)) (fun _ => ?_)
  refine W.eq (g2 := F0 m 26 ls []) rfl ?_
  refine lv_iinc (v := 2) (lv' := [(2, .int 2), (1, .int 14), (0, .ref pn)]) hx hb dX6_putInOrder_26 hl (k := 0) rfl (by decide) (by decide) rfl (fun ls hl => ?_)
  refine lv_goto (tgt := 15) hx hb dX6_putInOrder_29 (by decide) ?_
  refine lv_iload_n hx hb dX6_putInOrder_15 rfl (lv_at hl 0 rfl) ?_
  refine lv_iconst (v := 4) hx hb dX6_putInOrder_16 (by decide) ?_
  refine lv_icmp_ge (tgt := 32) hx hb dX6_putInOrder_17 (by decide) (fun c9 => absurd c9 (by decide)) (fun _ => ?_)
  refine lv_aload_n hx hb dX6_putInOrder_20 rfl (lv_at hl 2 rfl) ?_
  refine lv_iload_n hx hb dX6_putInOrder_21 rfl (lv_at hl 1 rfl) ?_
  refine lv_iload_n hx hb dX6_putInOrder_22 rfl (lv_at hl 0 rfl) ?_
  refine va_csv (va_Run.run (va_runV (As := [.int 14, .int 2]) (rest := []) ⟨hx, hb, hml, hown, hts⟩ (c_putStage l G pn bk bd n1 pe pm n2 n3 pt pb px pg b1 b2 b3 b4 b5 ca v1 v2 v3 v4 v5 y 14 2 (by decide) (by decide)) (cwV 2 hts (gdV (List.mem_cons_of_mem _ (List.mem_append_left _ (List.mem_of_getElem? (i := 1) rfl))) (List.mem_cons_of_mem _ (List.mem_append_left _ (List.mem_of_getElem? (i := 2) rfl))) (List.mem_cons_of_mem _ (List.mem_append_left _ (List.mem_of_getElem? (i := 3) rfl))) (List.mem_cons_of_mem _ (List.mem_append_left _ (List.mem_of_getElem? (i := 4) rfl))) (fun w9 h9 => ⟨(List.mem_cons_of_mem _ (List.mem_append_right _ (List.mem_append_right _ (List.mem_append_left _ h9)))), gd_c_putStage w9 h9⟩)) rfl rfl rfl kVX6_putStageInOrder ⟨Nat.le_of_ble_eq_true rfl, Nat.le_of_ble_eq_true rfl⟩) (preV_p (As := [.int 14, .int 2]) (hP.sub (ws' := [(pn, .inr (7, [.ref bk, .ref bd, n1, .ref pe, .ref pm, n2, n3, .ref pt, .ref pb, .ref px, .ref pg, .int 0, .int y, .int 0])), (bd, .inr (1, [.ref bk, b1, b2, b3, b4, b5])), (bk, .inr (2, [.ref ca, v1, v2, v3, v4, v5])), (ca, .inl (gI G, 2088, .inl bk0))]) [0, 1, 2, 3] rfl) hB rfl rfl) rfl rfl hl.1 rfl (lv_room (Nat.le_of_ble_eq_true rfl)) dX6_putInOrder_23 ⟨Nat.le_of_ble_eq_true rfl, Nat.le_of_ble_eq_true rfl⟩)) (fun _ => ?_)
  refine W.eq (g2 := F0 m 26 ls []) rfl ?_
  refine lv_iinc (v := 3) (lv' := [(2, .int 3), (1, .int 14), (0, .ref pn)]) hx hb dX6_putInOrder_26 hl (k := 0) rfl (by decide) (by decide) rfl (fun ls hl => ?_)
  refine lv_goto (tgt := 15) hx hb dX6_putInOrder_29 (by decide) ?_
  refine lv_iload_n hx hb dX6_putInOrder_15 rfl (lv_at hl 0 rfl) ?_
  refine lv_iconst (v := 4) hx hb dX6_putInOrder_16 (by decide) ?_
  refine lv_icmp_ge (tgt := 32) hx hb dX6_putInOrder_17 (by decide) (fun c9 => absurd c9 (by decide)) (fun _ => ?_)
  refine lv_aload_n hx hb dX6_putInOrder_20 rfl (lv_at hl 2 rfl) ?_
  refine lv_iload_n hx hb dX6_putInOrder_21 rfl (lv_at hl 1 rfl) ?_
  refine lv_iload_n hx hb dX6_putInOrder_22 rfl (lv_at hl 0 rfl) ?_
  refine va_csv (va_Run.run (va_runV (As := [.int 14, .int 3]) (rest := []) ⟨hx, hb, hml, hown, hts⟩ (c_putStage l G pn bk bd n1 pe pm n2 n3 pt pb px pg b1 b2 b3 b4 b5 ca v1 v2 v3 v4 v5 y 14 3 (by decide) (by decide)) (cwV 2 hts (gdV (List.mem_cons_of_mem _ (List.mem_append_left _ (List.mem_of_getElem? (i := 1) rfl))) (List.mem_cons_of_mem _ (List.mem_append_left _ (List.mem_of_getElem? (i := 2) rfl))) (List.mem_cons_of_mem _ (List.mem_append_left _ (List.mem_of_getElem? (i := 3) rfl))) (List.mem_cons_of_mem _ (List.mem_append_left _ (List.mem_of_getElem? (i := 4) rfl))) (fun w9 h9 => ⟨(List.mem_cons_of_mem _ (List.mem_append_right _ (List.mem_append_right _ (List.mem_append_left _ h9)))), gd_c_putStage w9 h9⟩)) rfl rfl rfl kVX6_putStageInOrder ⟨Nat.le_of_ble_eq_true rfl, Nat.le_of_ble_eq_true rfl⟩) (preV_p (As := [.int 14, .int 3]) (hP.sub (ws' := [(pn, .inr (7, [.ref bk, .ref bd, n1, .ref pe, .ref pm, n2, n3, .ref pt, .ref pb, .ref px, .ref pg, .int 0, .int y, .int 0])), (bd, .inr (1, [.ref bk, b1, b2, b3, b4, b5])), (bk, .inr (2, [.ref ca, v1, v2, v3, v4, v5])), (ca, .inl (gI G, 2088, .inl bk0))]) [0, 1, 2, 3] rfl) hB rfl rfl) rfl rfl hl.1 rfl (lv_room (Nat.le_of_ble_eq_true rfl)) dX6_putInOrder_23 ⟨Nat.le_of_ble_eq_true rfl, Nat.le_of_ble_eq_true rfl⟩)) (fun _ => ?_)
  refine W.eq (g2 := F0 m 26 ls []) rfl ?_
  refine lv_iinc (v := 4) (lv' := [(2, .int 4), (1, .int 14), (0, .ref pn)]) hx hb dX6_putInOrder_26 hl (k := 0) rfl (by decide) (by decide) rfl (fun ls hl => ?_)
  refine lv_goto (tgt := 15) hx hb dX6_putInOrder_29 (by decide) ?_
  refine lv_iload_n hx hb dX6_putInOrder_15 rfl (lv_at hl 0 rfl) ?_
  refine lv_iconst (v := 4) hx hb dX6_putInOrder_16 (by decide) ?_
  refine lv_icmp_ge (tgt := 32) hx hb dX6_putInOrder_17 (by decide) (fun _ => ?_) (fun c9 => absurd (by decide) c9)
  refine lv_iinc (v := 15) (lv' := [(1, .int 15), (2, .int 4), (0, .ref pn)]) hx hb dX6_putInOrder_32 hl (k := 1) rfl (by decide) (by decide) rfl (fun ls hl => ?_)
  refine lv_goto (tgt := 7) hx hb dX6_putInOrder_35 (by decide) ?_
  refine lv_iload_n hx hb dX6_putInOrder_7 rfl (lv_at hl 0 rfl) ?_
  refine lv_bipush (v := 20) hx hb dX6_putInOrder_8 (by decide) ?_
  refine lv_icmp_gt (tgt := 38) hx hb dX6_putInOrder_10 (by decide) (fun c9 => absurd c9 (by decide)) (fun _ => ?_)
  refine lv_iconst (v := 0) hx hb dX6_putInOrder_13 (by decide) ?_
  refine lv_istore_n (lv' := [(2, .int 0), (1, .int 15), (0, .ref pn)]) hx hb dX6_putInOrder_14 rfl hl (by decide) rfl (fun ls hl => ?_)
  refine lv_iload_n hx hb dX6_putInOrder_15 rfl (lv_at hl 0 rfl) ?_
  refine lv_iconst (v := 4) hx hb dX6_putInOrder_16 (by decide) ?_
  refine lv_icmp_ge (tgt := 32) hx hb dX6_putInOrder_17 (by decide) (fun c9 => absurd c9 (by decide)) (fun _ => ?_)
  refine lv_aload_n hx hb dX6_putInOrder_20 rfl (lv_at hl 2 rfl) ?_
  refine lv_iload_n hx hb dX6_putInOrder_21 rfl (lv_at hl 1 rfl) ?_
  refine lv_iload_n hx hb dX6_putInOrder_22 rfl (lv_at hl 0 rfl) ?_
  refine va_csv (va_Run.run (va_runV (As := [.int 15, .int 0]) (rest := []) ⟨hx, hb, hml, hown, hts⟩ (c_putStage l G pn bk bd n1 pe pm n2 n3 pt pb px pg b1 b2 b3 b4 b5 ca v1 v2 v3 v4 v5 y 15 0 (by decide) (by decide)) (cwV 2 hts (gdV (List.mem_cons_of_mem _ (List.mem_append_left _ (List.mem_of_getElem? (i := 1) rfl))) (List.mem_cons_of_mem _ (List.mem_append_left _ (List.mem_of_getElem? (i := 2) rfl))) (List.mem_cons_of_mem _ (List.mem_append_left _ (List.mem_of_getElem? (i := 3) rfl))) (List.mem_cons_of_mem _ (List.mem_append_left _ (List.mem_of_getElem? (i := 4) rfl))) (fun w9 h9 => ⟨(List.mem_cons_of_mem _ (List.mem_append_right _ (List.mem_append_right _ (List.mem_append_left _ h9)))), gd_c_putStage w9 h9⟩)) rfl rfl rfl kVX6_putStageInOrder ⟨Nat.le_of_ble_eq_true rfl, Nat.le_of_ble_eq_true rfl⟩) (preV_p (As := [.int 15, .int 0]) (hP.sub (ws' := [(pn, .inr (7, [.ref bk, .ref bd, n1, .ref pe, .ref pm, n2, n3, .ref pt, .ref pb, .ref px, .ref pg, .int 0, .int y, .int 0])), (bd, .inr (1, [.ref bk, b1, b2, b3, b4, b5])), (bk, .inr (2, [.ref ca, v1, v2, v3, v4, v5])), (ca, .inl (gI G, 2088, .inl bk0))]) [0, 1, 2, 3] rfl) hB rfl rfl) rfl rfl hl.1 rfl (lv_room (Nat.le_of_ble_eq_true rfl)) dX6_putInOrder_23 ⟨Nat.le_of_ble_eq_true rfl, Nat.le_of_ble_eq_true rfl⟩)) (fun _ => ?_)
  refine W.eq (g2 := F0 m 26 ls []) rfl ?_
  refine lv_iinc (v := 1) (lv' := [(2, .int 1), (1, .int 15), (0, .ref pn)]) hx hb dX6_putInOrder_26 hl (k := 0) rfl (by decide) (by decide) rfl (fun ls hl => ?_)
  refine lv_goto (tgt := 15) hx hb dX6_putInOrder_29 (by decide) ?_
  refine lv_iload_n hx hb dX6_putInOrder_15 rfl (lv_at hl 0 rfl) ?_
  refine lv_iconst (v := 4) hx hb dX6_putInOrder_16 (by decide) ?_
  refine lv_icmp_ge (tgt := 32) hx hb dX6_putInOrder_17 (by decide) (fun c9 => absurd c9 (by decide)) (fun _ => ?_)
  refine lv_aload_n hx hb dX6_putInOrder_20 rfl (lv_at hl 2 rfl) ?_
  refine lv_iload_n hx hb dX6_putInOrder_21 rfl (lv_at hl 1 rfl) ?_
  refine lv_iload_n hx hb dX6_putInOrder_22 rfl (lv_at hl 0 rfl) ?_
  refine va_csv (va_Run.run (va_runV (As := [.int 15, .int 1]) (rest := []) ⟨hx, hb, hml, hown, hts⟩ (c_putStage l G pn bk bd n1 pe pm n2 n3 pt pb px pg b1 b2 b3 b4 b5 ca v1 v2 v3 v4 v5 y 15 1 (by decide) (by decide)) (cwV 2 hts (gdV (List.mem_cons_of_mem _ (List.mem_append_left _ (List.mem_of_getElem? (i := 1) rfl))) (List.mem_cons_of_mem _ (List.mem_append_left _ (List.mem_of_getElem? (i := 2) rfl))) (List.mem_cons_of_mem _ (List.mem_append_left _ (List.mem_of_getElem? (i := 3) rfl))) (List.mem_cons_of_mem _ (List.mem_append_left _ (List.mem_of_getElem? (i := 4) rfl))) (fun w9 h9 => ⟨(List.mem_cons_of_mem _ (List.mem_append_right _ (List.mem_append_right _ (List.mem_append_left _ h9)))), gd_c_putStage w9 h9⟩)) rfl rfl rfl kVX6_putStageInOrder ⟨Nat.le_of_ble_eq_true rfl, Nat.le_of_ble_eq_true rfl⟩) (preV_p (As := [.int 15, .int 1]) (hP.sub (ws' := [(pn, .inr (7, [.ref bk, .ref bd, n1, .ref pe, .ref pm, n2, n3, .ref pt, .ref pb, .ref px, .ref pg, .int 0, .int y, .int 0])), (bd, .inr (1, [.ref bk, b1, b2, b3, b4, b5])), (bk, .inr (2, [.ref ca, v1, v2, v3, v4, v5])), (ca, .inl (gI G, 2088, .inl bk0))]) [0, 1, 2, 3] rfl) hB rfl rfl) rfl rfl hl.1 rfl (lv_room (Nat.le_of_ble_eq_true rfl)) dX6_putInOrder_23 ⟨Nat.le_of_ble_eq_true rfl, Nat.le_of_ble_eq_true rfl⟩)) (fun _ => ?_)
  refine W.eq (g2 := F0 m 26 ls []) rfl ?_
  refine lv_iinc (v := 2) (lv' := [(2, .int 2), (1, .int 15), (0, .ref pn)]) hx hb dX6_putInOrder_26 hl (k := 0) rfl (by decide) (by decide) rfl (fun ls hl => ?_)
  refine lv_goto (tgt := 15) hx hb dX6_putInOrder_29 (by decide) ?_
  refine lv_iload_n hx hb dX6_putInOrder_15 rfl (lv_at hl 0 rfl) ?_
  refine lv_iconst (v := 4) hx hb dX6_putInOrder_16 (by decide) ?_
  refine lv_icmp_ge (tgt := 32) hx hb dX6_putInOrder_17 (by decide) (fun c9 => absurd c9 (by decide)) (fun _ => ?_)
  refine lv_aload_n hx hb dX6_putInOrder_20 rfl (lv_at hl 2 rfl) ?_
  refine lv_iload_n hx hb dX6_putInOrder_21 rfl (lv_at hl 1 rfl) ?_
  refine lv_iload_n hx hb dX6_putInOrder_22 rfl (lv_at hl 0 rfl) ?_
  refine va_csv (va_Run.run (va_runV (As := [.int 15, .int 2]) (rest := []) ⟨hx, hb, hml, hown, hts⟩ (c_putStage l G pn bk bd n1 pe pm n2 n3 pt pb px pg b1 b2 b3 b4 b5 ca v1 v2 v3 v4 v5 y 15 2 (by decide) (by decide)) (cwV 2 hts (gdV (List.mem_cons_of_mem _ (List.mem_append_left _ (List.mem_of_getElem? (i := 1) rfl))) (List.mem_cons_of_mem _ (List.mem_append_left _ (List.mem_of_getElem? (i := 2) rfl))) (List.mem_cons_of_mem _ (List.mem_append_left _ (List.mem_of_getElem? (i := 3) rfl))) (List.mem_cons_of_mem _ (List.mem_append_left _ (List.mem_of_getElem? (i := 4) rfl))) (fun w9 h9 => ⟨(List.mem_cons_of_mem _ (List.mem_append_right _ (List.mem_append_right _ (List.mem_append_left _ h9)))), gd_c_putStage w9 h9⟩)) rfl rfl rfl kVX6_putStageInOrder ⟨Nat.le_of_ble_eq_true rfl, Nat.le_of_ble_eq_true rfl⟩) (preV_p (As := [.int 15, .int 2]) (hP.sub (ws' := [(pn, .inr (7, [.ref bk, .ref bd, n1, .ref pe, .ref pm, n2, n3, .ref pt, .ref pb, .ref px, .ref pg, .int 0, .int y, .int 0])), (bd, .inr (1, [.ref bk, b1, b2, b3, b4, b5])), (bk, .inr (2, [.ref ca, v1, v2, v3, v4, v5])), (ca, .inl (gI G, 2088, .inl bk0))]) [0, 1, 2, 3] rfl) hB rfl rfl) rfl rfl hl.1 rfl (lv_room (Nat.le_of_ble_eq_true rfl)) dX6_putInOrder_23 ⟨Nat.le_of_ble_eq_true rfl, Nat.le_of_ble_eq_true rfl⟩)) (fun _ => ?_)
  refine W.eq (g2 := F0 m 26 ls []) rfl ?_
  refine lv_iinc (v := 3) (lv' := [(2, .int 3), (1, .int 15), (0, .ref pn)]) hx hb dX6_putInOrder_26 hl (k := 0) rfl (by decide) (by decide) rfl (fun ls hl => ?_)
  refine lv_goto (tgt := 15) hx hb dX6_putInOrder_29 (by decide) ?_
  refine lv_iload_n hx hb dX6_putInOrder_15 rfl (lv_at hl 0 rfl) ?_
  refine lv_iconst (v := 4) hx hb dX6_putInOrder_16 (by decide) ?_
  refine lv_icmp_ge (tgt := 32) hx hb dX6_putInOrder_17 (by decide) (fun c9 => absurd c9 (by decide)) (fun _ => ?_)
  refine lv_aload_n hx hb dX6_putInOrder_20 rfl (lv_at hl 2 rfl) ?_
  refine lv_iload_n hx hb dX6_putInOrder_21 rfl (lv_at hl 1 rfl) ?_
  refine lv_iload_n hx hb dX6_putInOrder_22 rfl (lv_at hl 0 rfl) ?_
  refine va_csv (va_Run.run (va_runV (As := [.int 15, .int 3]) (rest := []) ⟨hx, hb, hml, hown, hts⟩ (c_putStage l G pn bk bd n1 pe pm n2 n3 pt pb px pg b1 b2 b3 b4 b5 ca v1 v2 v3 v4 v5 y 15 3 (by decide) (by decide)) (cwV 2 hts (gdV (List.mem_cons_of_mem _ (List.mem_append_left _ (List.mem_of_getElem? (i := 1) rfl))) (List.mem_cons_of_mem _ (List.mem_append_left _ (List.mem_of_getElem? (i := 2) rfl))) (List.mem_cons_of_mem _ (List.mem_append_left _ (List.mem_of_getElem? (i := 3) rfl))) (List.mem_cons_of_mem _ (List.mem_append_left _ (List.mem_of_getElem? (i := 4) rfl))) (fun w9 h9 => ⟨(List.mem_cons_of_mem _ (List.mem_append_right _ (List.mem_append_right _ (List.mem_append_left _ h9)))), gd_c_putStage w9 h9⟩)) rfl rfl rfl kVX6_putStageInOrder ⟨Nat.le_of_ble_eq_true rfl, Nat.le_of_ble_eq_true rfl⟩) (preV_p (As := [.int 15, .int 3]) (hP.sub (ws' := [(pn, .inr (7, [.ref bk, .ref bd, n1, .ref pe, .ref pm, n2, n3, .ref pt, .ref pb, .ref px, .ref pg, .int 0, .int y, .int 0])), (bd, .inr (1, [.ref bk, b1, b2, b3, b4, b5])), (bk, .inr (2, [.ref ca, v1, v2, v3, v4, v5])), (ca, .inl (gI G, 2088, .inl bk0))]) [0, 1, 2, 3] rfl) hB rfl rfl) rfl rfl hl.1 rfl (lv_room (Nat.le_of_ble_eq_true rfl)) dX6_putInOrder_23 ⟨Nat.le_of_ble_eq_true rfl, Nat.le_of_ble_eq_true rfl⟩)) (fun _ => ?_)
  refine W.eq (g2 := F0 m 26 ls []) rfl ?_
  refine lv_iinc (v := 4) (lv' := [(2, .int 4), (1, .int 15), (0, .ref pn)]) hx hb dX6_putInOrder_26 hl (k := 0) rfl (by decide) (by decide) rfl (fun ls hl => ?_)
  refine lv_goto (tgt := 15) hx hb dX6_putInOrder_29 (by decide) ?_
  refine lv_iload_n hx hb dX6_putInOrder_15 rfl (lv_at hl 0 rfl) ?_
  refine lv_iconst (v := 4) hx hb dX6_putInOrder_16 (by decide) ?_
  refine lv_icmp_ge (tgt := 32) hx hb dX6_putInOrder_17 (by decide) (fun _ => ?_) (fun c9 => absurd (by decide) c9)
  refine lv_iinc (v := 16) (lv' := [(1, .int 16), (2, .int 4), (0, .ref pn)]) hx hb dX6_putInOrder_32 hl (k := 1) rfl (by decide) (by decide) rfl (fun ls hl => ?_)
  refine lv_goto (tgt := 7) hx hb dX6_putInOrder_35 (by decide) ?_
  refine lv_iload_n hx hb dX6_putInOrder_7 rfl (lv_at hl 0 rfl) ?_
  refine lv_bipush (v := 20) hx hb dX6_putInOrder_8 (by decide) ?_
  refine lv_icmp_gt (tgt := 38) hx hb dX6_putInOrder_10 (by decide) (fun c9 => absurd c9 (by decide)) (fun _ => ?_)
  refine lv_iconst (v := 0) hx hb dX6_putInOrder_13 (by decide) ?_
  refine lv_istore_n (lv' := [(2, .int 0), (1, .int 16), (0, .ref pn)]) hx hb dX6_putInOrder_14 rfl hl (by decide) rfl (fun ls hl => ?_)
  refine lv_iload_n hx hb dX6_putInOrder_15 rfl (lv_at hl 0 rfl) ?_
  refine lv_iconst (v := 4) hx hb dX6_putInOrder_16 (by decide) ?_
  refine lv_icmp_ge (tgt := 32) hx hb dX6_putInOrder_17 (by decide) (fun c9 => absurd c9 (by decide)) (fun _ => ?_)
  refine lv_aload_n hx hb dX6_putInOrder_20 rfl (lv_at hl 2 rfl) ?_
  refine lv_iload_n hx hb dX6_putInOrder_21 rfl (lv_at hl 1 rfl) ?_
  refine lv_iload_n hx hb dX6_putInOrder_22 rfl (lv_at hl 0 rfl) ?_
  refine va_csv (va_Run.run (va_runV (As := [.int 16, .int 0]) (rest := []) ⟨hx, hb, hml, hown, hts⟩ (c_putStage l G pn bk bd n1 pe pm n2 n3 pt pb px pg b1 b2 b3 b4 b5 ca v1 v2 v3 v4 v5 y 16 0 (by decide) (by decide)) (cwV 2 hts (gdV (List.mem_cons_of_mem _ (List.mem_append_left _ (List.mem_of_getElem? (i := 1) rfl))) (List.mem_cons_of_mem _ (List.mem_append_left _ (List.mem_of_getElem? (i := 2) rfl))) (List.mem_cons_of_mem _ (List.mem_append_left _ (List.mem_of_getElem? (i := 3) rfl))) (List.mem_cons_of_mem _ (List.mem_append_left _ (List.mem_of_getElem? (i := 4) rfl))) (fun w9 h9 => ⟨(List.mem_cons_of_mem _ (List.mem_append_right _ (List.mem_append_right _ (List.mem_append_left _ h9)))), gd_c_putStage w9 h9⟩)) rfl rfl rfl kVX6_putStageInOrder ⟨Nat.le_of_ble_eq_true rfl, Nat.le_of_ble_eq_true rfl⟩) (preV_p (As := [.int 16, .int 0]) (hP.sub (ws' := [(pn, .inr (7, [.ref bk, .ref bd, n1, .ref pe, .ref pm, n2, n3, .ref pt, .ref pb, .ref px, .ref pg, .int 0, .int y, .int 0])), (bd, .inr (1, [.ref bk, b1, b2, b3, b4, b5])), (bk, .inr (2, [.ref ca, v1, v2, v3, v4, v5])), (ca, .inl (gI G, 2088, .inl bk0))]) [0, 1, 2, 3] rfl) hB rfl rfl) rfl rfl hl.1 rfl (lv_room (Nat.le_of_ble_eq_true rfl)) dX6_putInOrder_23 ⟨Nat.le_of_ble_eq_true rfl, Nat.le_of_ble_eq_true rfl⟩)) (fun _ => ?_)
  refine W.eq (g2 := F0 m 26 ls []) rfl ?_
  refine lv_iinc (v := 1) (lv' := [(2, .int 1), (1, .int 16), (0, .ref pn)]) hx hb dX6_putInOrder_26 hl (k := 0) rfl (by decide) (by decide) rfl (fun ls hl => ?_)
  refine lv_goto (tgt := 15) hx hb dX6_putInOrder_29 (by decide) ?_
  refine lv_iload_n hx hb dX6_putInOrder_15 rfl (lv_at hl 0 rfl) ?_
  refine lv_iconst (v := 4) hx hb dX6_putInOrder_16 (by decide) ?_
  refine lv_icmp_ge (tgt := 32) hx hb dX6_putInOrder_17 (by decide) (fun c9 => absurd c9 (by decide)) (fun _ => ?_)
  refine lv_aload_n hx hb dX6_putInOrder_20 rfl (lv_at hl 2 rfl) ?_
  refine lv_iload_n hx hb dX6_putInOrder_21 rfl (lv_at hl 1 rfl) ?_
  refine lv_iload_n hx hb dX6_putInOrder_22 rfl (lv_at hl 0 rfl) ?_
  refine va_csv (va_Run.run (va_runV (As := [.int 16, .int 1]) (rest := []) ⟨hx, hb, hml, hown, hts⟩ (c_putStage l G pn bk bd n1 pe pm n2 n3 pt pb px pg b1 b2 b3 b4 b5 ca v1 v2 v3 v4 v5 y 16 1 (by decide) (by decide)) (cwV 2 hts (gdV (List.mem_cons_of_mem _ (List.mem_append_left _ (List.mem_of_getElem? (i := 1) rfl))) (List.mem_cons_of_mem _ (List.mem_append_left _ (List.mem_of_getElem? (i := 2) rfl))) (List.mem_cons_of_mem _ (List.mem_append_left _ (List.mem_of_getElem? (i := 3) rfl))) (List.mem_cons_of_mem _ (List.mem_append_left _ (List.mem_of_getElem? (i := 4) rfl))) (fun w9 h9 => ⟨(List.mem_cons_of_mem _ (List.mem_append_right _ (List.mem_append_right _ (List.mem_append_left _ h9)))), gd_c_putStage w9 h9⟩)) rfl rfl rfl kVX6_putStageInOrder ⟨Nat.le_of_ble_eq_true rfl, Nat.le_of_ble_eq_true rfl⟩) (preV_p (As := [.int 16, .int 1]) (hP.sub (ws' := [(pn, .inr (7, [.ref bk, .ref bd, n1, .ref pe, .ref pm, n2, n3, .ref pt, .ref pb, .ref px, .ref pg, .int 0, .int y, .int 0])), (bd, .inr (1, [.ref bk, b1, b2, b3, b4, b5])), (bk, .inr (2, [.ref ca, v1, v2, v3, v4, v5])), (ca, .inl (gI G, 2088, .inl bk0))]) [0, 1, 2, 3] rfl) hB rfl rfl) rfl rfl hl.1 rfl (lv_room (Nat.le_of_ble_eq_true rfl)) dX6_putInOrder_23 ⟨Nat.le_of_ble_eq_true rfl, Nat.le_of_ble_eq_true rfl⟩)) (fun _ => ?_)
  refine W.eq (g2 := F0 m 26 ls []) rfl ?_
  refine lv_iinc (v := 2) (lv' := [(2, .int 2), (1, .int 16), (0, .ref pn)]) hx hb dX6_putInOrder_26 hl (k := 0) rfl (by decide) (by decide) rfl (fun ls hl => ?_)
  refine lv_goto (tgt := 15) hx hb dX6_putInOrder_29 (by decide) ?_
  refine lv_iload_n hx hb dX6_putInOrder_15 rfl (lv_at hl 0 rfl) ?_
  refine lv_iconst (v := 4) hx hb dX6_putInOrder_16 (by decide) ?_
  refine lv_icmp_ge (tgt := 32) hx hb dX6_putInOrder_17 (by decide) (fun c9 => absurd c9 (by decide)) (fun _ => ?_)
  refine lv_aload_n hx hb dX6_putInOrder_20 rfl (lv_at hl 2 rfl) ?_
  refine lv_iload_n hx hb dX6_putInOrder_21 rfl (lv_at hl 1 rfl) ?_
  refine lv_iload_n hx hb dX6_putInOrder_22 rfl (lv_at hl 0 rfl) ?_
  refine va_csv (va_Run.run (va_runV (As := [.int 16, .int 2]) (rest := []) ⟨hx, hb, hml, hown, hts⟩ (c_putStage l G pn bk bd n1 pe pm n2 n3 pt pb px pg b1 b2 b3 b4 b5 ca v1 v2 v3 v4 v5 y 16 2 (by decide) (by decide)) (cwV 2 hts (gdV (List.mem_cons_of_mem _ (List.mem_append_left _ (List.mem_of_getElem? (i := 1) rfl))) (List.mem_cons_of_mem _ (List.mem_append_left _ (List.mem_of_getElem? (i := 2) rfl))) (List.mem_cons_of_mem _ (List.mem_append_left _ (List.mem_of_getElem? (i := 3) rfl))) (List.mem_cons_of_mem _ (List.mem_append_left _ (List.mem_of_getElem? (i := 4) rfl))) (fun w9 h9 => ⟨(List.mem_cons_of_mem _ (List.mem_append_right _ (List.mem_append_right _ (List.mem_append_left _ h9)))), gd_c_putStage w9 h9⟩)) rfl rfl rfl kVX6_putStageInOrder ⟨Nat.le_of_ble_eq_true rfl, Nat.le_of_ble_eq_true rfl⟩) (preV_p (As := [.int 16, .int 2]) (hP.sub (ws' := [(pn, .inr (7, [.ref bk, .ref bd, n1, .ref pe, .ref pm, n2, n3, .ref pt, .ref pb, .ref px, .ref pg, .int 0, .int y, .int 0])), (bd, .inr (1, [.ref bk, b1, b2, b3, b4, b5])), (bk, .inr (2, [.ref ca, v1, v2, v3, v4, v5])), (ca, .inl (gI G, 2088, .inl bk0))]) [0, 1, 2, 3] rfl) hB rfl rfl) rfl rfl hl.1 rfl (lv_room (Nat.le_of_ble_eq_true rfl)) dX6_putInOrder_23 ⟨Nat.le_of_ble_eq_true rfl, Nat.le_of_ble_eq_true rfl⟩)) (fun _ => ?_)
  refine W.eq (g2 := F0 m 26 ls []) rfl ?_
  refine lv_iinc (v := 3) (lv' := [(2, .int 3), (1, .int 16), (0, .ref pn)]) hx hb dX6_putInOrder_26 hl (k := 0) rfl (by decide) (by decide) rfl (fun ls hl => ?_)
  refine lv_goto (tgt := 15) hx hb dX6_putInOrder_29 (by decide) ?_
  refine lv_iload_n hx hb dX6_putInOrder_15 rfl (lv_at hl 0 rfl) ?_
  refine lv_iconst (v := 4) hx hb dX6_putInOrder_16 (by decide) ?_
  refine lv_icmp_ge (tgt := 32) hx hb dX6_putInOrder_17 (by decide) (fun c9 => absurd c9 (by decide)) (fun _ => ?_)
  refine lv_aload_n hx hb dX6_putInOrder_20 rfl (lv_at hl 2 rfl) ?_
  refine lv_iload_n hx hb dX6_putInOrder_21 rfl (lv_at hl 1 rfl) ?_
  refine lv_iload_n hx hb dX6_putInOrder_22 rfl (lv_at hl 0 rfl) ?_
  refine va_csv (va_Run.run (va_runV (As := [.int 16, .int 3]) (rest := []) ⟨hx, hb, hml, hown, hts⟩ (c_putStage l G pn bk bd n1 pe pm n2 n3 pt pb px pg b1 b2 b3 b4 b5 ca v1 v2 v3 v4 v5 y 16 3 (by decide) (by decide)) (cwV 2 hts (gdV (List.mem_cons_of_mem _ (List.mem_append_left _ (List.mem_of_getElem? (i := 1) rfl))) (List.mem_cons_of_mem _ (List.mem_append_left _ (List.mem_of_getElem? (i := 2) rfl))) (List.mem_cons_of_mem _ (List.mem_append_left _ (List.mem_of_getElem? (i := 3) rfl))) (List.mem_cons_of_mem _ (List.mem_append_left _ (List.mem_of_getElem? (i := 4) rfl))) (fun w9 h9 => ⟨(List.mem_cons_of_mem _ (List.mem_append_right _ (List.mem_append_right _ (List.mem_append_left _ h9)))), gd_c_putStage w9 h9⟩)) rfl rfl rfl kVX6_putStageInOrder ⟨Nat.le_of_ble_eq_true rfl, Nat.le_of_ble_eq_true rfl⟩) (preV_p (As := [.int 16, .int 3]) (hP.sub (ws' := [(pn, .inr (7, [.ref bk, .ref bd, n1, .ref pe, .ref pm, n2, n3, .ref pt, .ref pb, .ref px, .ref pg, .int 0, .int y, .int 0])), (bd, .inr (1, [.ref bk, b1, b2, b3, b4, b5])), (bk, .inr (2, [.ref ca, v1, v2, v3, v4, v5])), (ca, .inl (gI G, 2088, .inl bk0))]) [0, 1, 2, 3] rfl) hB rfl rfl) rfl rfl hl.1 rfl (lv_room (Nat.le_of_ble_eq_true rfl)) dX6_putInOrder_23 ⟨Nat.le_of_ble_eq_true rfl, Nat.le_of_ble_eq_true rfl⟩)) (fun _ => ?_)
  refine W.eq (g2 := F0 m 26 ls []) rfl ?_
  refine lv_iinc (v := 4) (lv' := [(2, .int 4), (1, .int 16), (0, .ref pn)]) hx hb dX6_putInOrder_26 hl (k := 0) rfl (by decide) (by decide) rfl (fun ls hl => ?_)
  refine lv_goto (tgt := 15) hx hb dX6_putInOrder_29 (by decide) ?_
  refine lv_iload_n hx hb dX6_putInOrder_15 rfl (lv_at hl 0 rfl) ?_
  refine lv_iconst (v := 4) hx hb dX6_putInOrder_16 (by decide) ?_
  refine lv_icmp_ge (tgt := 32) hx hb dX6_putInOrder_17 (by decide) (fun _ => ?_) (fun c9 => absurd (by decide) c9)
  refine lv_iinc (v := 17) (lv' := [(1, .int 17), (2, .int 4), (0, .ref pn)]) hx hb dX6_putInOrder_32 hl (k := 1) rfl (by decide) (by decide) rfl (fun ls hl => ?_)
  refine lv_goto (tgt := 7) hx hb dX6_putInOrder_35 (by decide) ?_
  refine lv_iload_n hx hb dX6_putInOrder_7 rfl (lv_at hl 0 rfl) ?_
  refine lv_bipush (v := 20) hx hb dX6_putInOrder_8 (by decide) ?_
  refine lv_icmp_gt (tgt := 38) hx hb dX6_putInOrder_10 (by decide) (fun c9 => absurd c9 (by decide)) (fun _ => ?_)
  refine lv_iconst (v := 0) hx hb dX6_putInOrder_13 (by decide) ?_
  refine lv_istore_n (lv' := [(2, .int 0), (1, .int 17), (0, .ref pn)]) hx hb dX6_putInOrder_14 rfl hl (by decide) rfl (fun ls hl => ?_)
  refine lv_iload_n hx hb dX6_putInOrder_15 rfl (lv_at hl 0 rfl) ?_
  refine lv_iconst (v := 4) hx hb dX6_putInOrder_16 (by decide) ?_
  refine lv_icmp_ge (tgt := 32) hx hb dX6_putInOrder_17 (by decide) (fun c9 => absurd c9 (by decide)) (fun _ => ?_)
  refine lv_aload_n hx hb dX6_putInOrder_20 rfl (lv_at hl 2 rfl) ?_
  refine lv_iload_n hx hb dX6_putInOrder_21 rfl (lv_at hl 1 rfl) ?_
  refine lv_iload_n hx hb dX6_putInOrder_22 rfl (lv_at hl 0 rfl) ?_
  refine va_csv (va_Run.run (va_runV (As := [.int 17, .int 0]) (rest := []) ⟨hx, hb, hml, hown, hts⟩ (c_putStage l G pn bk bd n1 pe pm n2 n3 pt pb px pg b1 b2 b3 b4 b5 ca v1 v2 v3 v4 v5 y 17 0 (by decide) (by decide)) (cwV 2 hts (gdV (List.mem_cons_of_mem _ (List.mem_append_left _ (List.mem_of_getElem? (i := 1) rfl))) (List.mem_cons_of_mem _ (List.mem_append_left _ (List.mem_of_getElem? (i := 2) rfl))) (List.mem_cons_of_mem _ (List.mem_append_left _ (List.mem_of_getElem? (i := 3) rfl))) (List.mem_cons_of_mem _ (List.mem_append_left _ (List.mem_of_getElem? (i := 4) rfl))) (fun w9 h9 => ⟨(List.mem_cons_of_mem _ (List.mem_append_right _ (List.mem_append_right _ (List.mem_append_left _ h9)))), gd_c_putStage w9 h9⟩)) rfl rfl rfl kVX6_putStageInOrder ⟨Nat.le_of_ble_eq_true rfl, Nat.le_of_ble_eq_true rfl⟩) (preV_p (As := [.int 17, .int 0]) (hP.sub (ws' := [(pn, .inr (7, [.ref bk, .ref bd, n1, .ref pe, .ref pm, n2, n3, .ref pt, .ref pb, .ref px, .ref pg, .int 0, .int y, .int 0])), (bd, .inr (1, [.ref bk, b1, b2, b3, b4, b5])), (bk, .inr (2, [.ref ca, v1, v2, v3, v4, v5])), (ca, .inl (gI G, 2088, .inl bk0))]) [0, 1, 2, 3] rfl) hB rfl rfl) rfl rfl hl.1 rfl (lv_room (Nat.le_of_ble_eq_true rfl)) dX6_putInOrder_23 ⟨Nat.le_of_ble_eq_true rfl, Nat.le_of_ble_eq_true rfl⟩)) (fun _ => ?_)
  refine W.eq (g2 := F0 m 26 ls []) rfl ?_
  refine lv_iinc (v := 1) (lv' := [(2, .int 1), (1, .int 17), (0, .ref pn)]) hx hb dX6_putInOrder_26 hl (k := 0) rfl (by decide) (by decide) rfl (fun ls hl => ?_)
  refine lv_goto (tgt := 15) hx hb dX6_putInOrder_29 (by decide) ?_
  refine lv_iload_n hx hb dX6_putInOrder_15 rfl (lv_at hl 0 rfl) ?_
  refine lv_iconst (v := 4) hx hb dX6_putInOrder_16 (by decide) ?_
  refine lv_icmp_ge (tgt := 32) hx hb dX6_putInOrder_17 (by decide) (fun c9 => absurd c9 (by decide)) (fun _ => ?_)
  refine lv_aload_n hx hb dX6_putInOrder_20 rfl (lv_at hl 2 rfl) ?_
  refine lv_iload_n hx hb dX6_putInOrder_21 rfl (lv_at hl 1 rfl) ?_
  refine lv_iload_n hx hb dX6_putInOrder_22 rfl (lv_at hl 0 rfl) ?_
  refine va_csv (va_Run.run (va_runV (As := [.int 17, .int 1]) (rest := []) ⟨hx, hb, hml, hown, hts⟩ (c_putStage l G pn bk bd n1 pe pm n2 n3 pt pb px pg b1 b2 b3 b4 b5 ca v1 v2 v3 v4 v5 y 17 1 (by decide) (by decide)) (cwV 2 hts (gdV (List.mem_cons_of_mem _ (List.mem_append_left _ (List.mem_of_getElem? (i := 1) rfl))) (List.mem_cons_of_mem _ (List.mem_append_left _ (List.mem_of_getElem? (i := 2) rfl))) (List.mem_cons_of_mem _ (List.mem_append_left _ (List.mem_of_getElem? (i := 3) rfl))) (List.mem_cons_of_mem _ (List.mem_append_left _ (List.mem_of_getElem? (i := 4) rfl))) (fun w9 h9 => ⟨(List.mem_cons_of_mem _ (List.mem_append_right _ (List.mem_append_right _ (List.mem_append_left _ h9)))), gd_c_putStage w9 h9⟩)) rfl rfl rfl kVX6_putStageInOrder ⟨Nat.le_of_ble_eq_true rfl, Nat.le_of_ble_eq_true rfl⟩) (preV_p (As := [.int 17, .int 1]) (hP.sub (ws' := [(pn, .inr (7, [.ref bk, .ref bd, n1, .ref pe, .ref pm, n2, n3, .ref pt, .ref pb, .ref px, .ref pg, .int 0, .int y, .int 0])), (bd, .inr (1, [.ref bk, b1, b2, b3, b4, b5])), (bk, .inr (2, [.ref ca, v1, v2, v3, v4, v5])), (ca, .inl (gI G, 2088, .inl bk0))]) [0, 1, 2, 3] rfl) hB rfl rfl) rfl rfl hl.1 rfl (lv_room (Nat.le_of_ble_eq_true rfl)) dX6_putInOrder_23 ⟨Nat.le_of_ble_eq_true rfl, Nat.le_of_ble_eq_true rfl⟩)) (fun _ => ?_)
  refine W.eq (g2 := F0 m 26 ls []) rfl ?_
  refine lv_iinc (v := 2) (lv' := [(2, .int 2), (1, .int 17), (0, .ref pn)]) hx hb dX6_putInOrder_26 hl (k := 0) rfl (by decide) (by decide) rfl (fun ls hl => ?_)
  refine lv_goto (tgt := 15) hx hb dX6_putInOrder_29 (by decide) ?_
  refine lv_iload_n hx hb dX6_putInOrder_15 rfl (lv_at hl 0 rfl) ?_
  refine lv_iconst (v := 4) hx hb dX6_putInOrder_16 (by decide) ?_
  refine lv_icmp_ge (tgt := 32) hx hb dX6_putInOrder_17 (by decide) (fun c9 => absurd c9 (by decide)) (fun _ => ?_)
  refine lv_aload_n hx hb dX6_putInOrder_20 rfl (lv_at hl 2 rfl) ?_
  refine lv_iload_n hx hb dX6_putInOrder_21 rfl (lv_at hl 1 rfl) ?_
  refine lv_iload_n hx hb dX6_putInOrder_22 rfl (lv_at hl 0 rfl) ?_
  refine va_csv (va_Run.run (va_runV (As := [.int 17, .int 2]) (rest := []) ⟨hx, hb, hml, hown, hts⟩ (c_putStage l G pn bk bd n1 pe pm n2 n3 pt pb px pg b1 b2 b3 b4 b5 ca v1 v2 v3 v4 v5 y 17 2 (by decide) (by decide)) (cwV 2 hts (gdV (List.mem_cons_of_mem _ (List.mem_append_left _ (List.mem_of_getElem? (i := 1) rfl))) (List.mem_cons_of_mem _ (List.mem_append_left _ (List.mem_of_getElem? (i := 2) rfl))) (List.mem_cons_of_mem _ (List.mem_append_left _ (List.mem_of_getElem? (i := 3) rfl))) (List.mem_cons_of_mem _ (List.mem_append_left _ (List.mem_of_getElem? (i := 4) rfl))) (fun w9 h9 => ⟨(List.mem_cons_of_mem _ (List.mem_append_right _ (List.mem_append_right _ (List.mem_append_left _ h9)))), gd_c_putStage w9 h9⟩)) rfl rfl rfl kVX6_putStageInOrder ⟨Nat.le_of_ble_eq_true rfl, Nat.le_of_ble_eq_true rfl⟩) (preV_p (As := [.int 17, .int 2]) (hP.sub (ws' := [(pn, .inr (7, [.ref bk, .ref bd, n1, .ref pe, .ref pm, n2, n3, .ref pt, .ref pb, .ref px, .ref pg, .int 0, .int y, .int 0])), (bd, .inr (1, [.ref bk, b1, b2, b3, b4, b5])), (bk, .inr (2, [.ref ca, v1, v2, v3, v4, v5])), (ca, .inl (gI G, 2088, .inl bk0))]) [0, 1, 2, 3] rfl) hB rfl rfl) rfl rfl hl.1 rfl (lv_room (Nat.le_of_ble_eq_true rfl)) dX6_putInOrder_23 ⟨Nat.le_of_ble_eq_true rfl, Nat.le_of_ble_eq_true rfl⟩)) (fun _ => ?_)
  refine W.eq (g2 := F0 m 26 ls []) rfl ?_
  refine lv_iinc (v := 3) (lv' := [(2, .int 3), (1, .int 17), (0, .ref pn)]) hx hb dX6_putInOrder_26 hl (k := 0) rfl (by decide) (by decide) rfl (fun ls hl => ?_)
  refine lv_goto (tgt := 15) hx hb dX6_putInOrder_29 (by decide) ?_
  refine lv_iload_n hx hb dX6_putInOrder_15 rfl (lv_at hl 0 rfl) ?_
  refine lv_iconst (v := 4) hx hb dX6_putInOrder_16 (by decide) ?_
  refine lv_icmp_ge (tgt := 32) hx hb dX6_putInOrder_17 (by decide) (fun c9 => absurd c9 (by decide)) (fun _ => ?_)
  refine lv_aload_n hx hb dX6_putInOrder_20 rfl (lv_at hl 2 rfl) ?_
  refine lv_iload_n hx hb dX6_putInOrder_21 rfl (lv_at hl 1 rfl) ?_
  refine lv_iload_n hx hb dX6_putInOrder_22 rfl (lv_at hl 0 rfl) ?_
  refine va_csv (va_Run.run (va_runV (As := [.int 17, .int 3]) (rest := []) ⟨hx, hb, hml, hown, hts⟩ (c_putStage l G pn bk bd n1 pe pm n2 n3 pt pb px pg b1 b2 b3 b4 b5 ca v1 v2 v3 v4 v5 y 17 3 (by decide) (by decide)) (cwV 2 hts (gdV (List.mem_cons_of_mem _ (List.mem_append_left _ (List.mem_of_getElem? (i := 1) rfl))) (List.mem_cons_of_mem _ (List.mem_append_left _ (List.mem_of_getElem? (i := 2) rfl))) (List.mem_cons_of_mem _ (List.mem_append_left _ (List.mem_of_getElem? (i := 3) rfl))) (List.mem_cons_of_mem _ (List.mem_append_left _ (List.mem_of_getElem? (i := 4) rfl))) (fun w9 h9 => ⟨(List.mem_cons_of_mem _ (List.mem_append_right _ (List.mem_append_right _ (List.mem_append_left _ h9)))), gd_c_putStage w9 h9⟩)) rfl rfl rfl kVX6_putStageInOrder ⟨Nat.le_of_ble_eq_true rfl, Nat.le_of_ble_eq_true rfl⟩) (preV_p (As := [.int 17, .int 3]) (hP.sub (ws' := [(pn, .inr (7, [.ref bk, .ref bd, n1, .ref pe, .ref pm, n2, n3, .ref pt, .ref pb, .ref px, .ref pg, .int 0, .int y, .int 0])), (bd, .inr (1, [.ref bk, b1, b2, b3, b4, b5])), (bk, .inr (2, [.ref ca, v1, v2, v3, v4, v5])), (ca, .inl (gI G, 2088, .inl bk0))]) [0, 1, 2, 3] rfl) hB rfl rfl) rfl rfl hl.1 rfl (lv_room (Nat.le_of_ble_eq_true rfl)) dX6_putInOrder_23 ⟨Nat.le_of_ble_eq_true rfl, Nat.le_of_ble_eq_true rfl⟩)) (fun _ => ?_)
  refine W.eq (g2 := F0 m 26 ls []) rfl ?_
  refine lv_iinc (v := 4) (lv' := [(2, .int 4), (1, .int 17), (0, .ref pn)]) hx hb dX6_putInOrder_26 hl (k := 0) rfl (by decide) (by decide) rfl (fun ls hl => ?_)
  refine lv_goto (tgt := 15) hx hb dX6_putInOrder_29 (by decide) ?_
  refine lv_iload_n hx hb dX6_putInOrder_15 rfl (lv_at hl 0 rfl) ?_
  refine lv_iconst (v := 4) hx hb dX6_putInOrder_16 (by decide) ?_
  refine lv_icmp_ge (tgt := 32) hx hb dX6_putInOrder_17 (by decide) (fun _ => ?_) (fun c9 => absurd (by decide) c9)
  refine lv_iinc (v := 18) (lv' := [(1, .int 18), (2, .int 4), (0, .ref pn)]) hx hb dX6_putInOrder_32 hl (k := 1) rfl (by decide) (by decide) rfl (fun ls hl => ?_)
  refine lv_goto (tgt := 7) hx hb dX6_putInOrder_35 (by decide) ?_
  refine lv_iload_n hx hb dX6_putInOrder_7 rfl (lv_at hl 0 rfl) ?_
  refine lv_bipush (v := 20) hx hb dX6_putInOrder_8 (by decide) ?_
  refine lv_icmp_gt (tgt := 38) hx hb dX6_putInOrder_10 (by decide) (fun c9 => absurd c9 (by decide)) (fun _ => ?_)
  refine lv_iconst (v := 0) hx hb dX6_putInOrder_13 (by decide) ?_
  refine lv_istore_n (lv' := [(2, .int 0), (1, .int 18), (0, .ref pn)]) hx hb dX6_putInOrder_14 rfl hl (by decide) rfl (fun ls hl => ?_)
  refine lv_iload_n hx hb dX6_putInOrder_15 rfl (lv_at hl 0 rfl) ?_
  refine lv_iconst (v := 4) hx hb dX6_putInOrder_16 (by decide) ?_
  refine lv_icmp_ge (tgt := 32) hx hb dX6_putInOrder_17 (by decide) (fun c9 => absurd c9 (by decide)) (fun _ => ?_)
  refine lv_aload_n hx hb dX6_putInOrder_20 rfl (lv_at hl 2 rfl) ?_
  refine lv_iload_n hx hb dX6_putInOrder_21 rfl (lv_at hl 1 rfl) ?_
  refine lv_iload_n hx hb dX6_putInOrder_22 rfl (lv_at hl 0 rfl) ?_
  refine va_csv (va_Run.run (va_runV (As := [.int 18, .int 0]) (rest := []) ⟨hx, hb, hml, hown, hts⟩ (c_putStage l G pn bk bd n1 pe pm n2 n3 pt pb px pg b1 b2 b3 b4 b5 ca v1 v2 v3 v4 v5 y 18 0 (by decide) (by decide)) (cwV 2 hts (gdV (List.mem_cons_of_mem _ (List.mem_append_left _ (List.mem_of_getElem? (i := 1) rfl))) (List.mem_cons_of_mem _ (List.mem_append_left _ (List.mem_of_getElem? (i := 2) rfl))) (List.mem_cons_of_mem _ (List.mem_append_left _ (List.mem_of_getElem? (i := 3) rfl))) (List.mem_cons_of_mem _ (List.mem_append_left _ (List.mem_of_getElem? (i := 4) rfl))) (fun w9 h9 => ⟨(List.mem_cons_of_mem _ (List.mem_append_right _ (List.mem_append_right _ (List.mem_append_left _ h9)))), gd_c_putStage w9 h9⟩)) rfl rfl rfl kVX6_putStageInOrder ⟨Nat.le_of_ble_eq_true rfl, Nat.le_of_ble_eq_true rfl⟩) (preV_p (As := [.int 18, .int 0]) (hP.sub (ws' := [(pn, .inr (7, [.ref bk, .ref bd, n1, .ref pe, .ref pm, n2, n3, .ref pt, .ref pb, .ref px, .ref pg, .int 0, .int y, .int 0])), (bd, .inr (1, [.ref bk, b1, b2, b3, b4, b5])), (bk, .inr (2, [.ref ca, v1, v2, v3, v4, v5])), (ca, .inl (gI G, 2088, .inl bk0))]) [0, 1, 2, 3] rfl) hB rfl rfl) rfl rfl hl.1 rfl (lv_room (Nat.le_of_ble_eq_true rfl)) dX6_putInOrder_23 ⟨Nat.le_of_ble_eq_true rfl, Nat.le_of_ble_eq_true rfl⟩)) (fun _ => ?_)
  refine W.eq (g2 := F0 m 26 ls []) rfl ?_
  refine lv_iinc (v := 1) (lv' := [(2, .int 1), (1, .int 18), (0, .ref pn)]) hx hb dX6_putInOrder_26 hl (k := 0) rfl (by decide) (by decide) rfl (fun ls hl => ?_)
  refine lv_goto (tgt := 15) hx hb dX6_putInOrder_29 (by decide) ?_
  refine lv_iload_n hx hb dX6_putInOrder_15 rfl (lv_at hl 0 rfl) ?_
  refine lv_iconst (v := 4) hx hb dX6_putInOrder_16 (by decide) ?_
  refine lv_icmp_ge (tgt := 32) hx hb dX6_putInOrder_17 (by decide) (fun c9 => absurd c9 (by decide)) (fun _ => ?_)
  refine lv_aload_n hx hb dX6_putInOrder_20 rfl (lv_at hl 2 rfl) ?_
  refine lv_iload_n hx hb dX6_putInOrder_21 rfl (lv_at hl 1 rfl) ?_
  refine lv_iload_n hx hb dX6_putInOrder_22 rfl (lv_at hl 0 rfl) ?_
  refine va_csv (va_Run.run (va_runV (As := [.int 18, .int 1]) (rest := []) ⟨hx, hb, hml, hown, hts⟩ (c_putStage l G pn bk bd n1 pe pm n2 n3 pt pb px pg b1 b2 b3 b4 b5 ca v1 v2 v3 v4 v5 y 18 1 (by decide) (by decide)) (cwV 2 hts (gdV (List.mem_cons_of_mem _ (List.mem_append_left _ (List.mem_of_getElem? (i := 1) rfl))) (List.mem_cons_of_mem _ (List.mem_append_left _ (List.mem_of_getElem? (i := 2) rfl))) (List.mem_cons_of_mem _ (List.mem_append_left _ (List.mem_of_getElem? (i := 3) rfl))) (List.mem_cons_of_mem _ (List.mem_append_left _ (List.mem_of_getElem? (i := 4) rfl))) (fun w9 h9 => ⟨(List.mem_cons_of_mem _ (List.mem_append_right _ (List.mem_append_right _ (List.mem_append_left _ h9)))), gd_c_putStage w9 h9⟩)) rfl rfl rfl kVX6_putStageInOrder ⟨Nat.le_of_ble_eq_true rfl, Nat.le_of_ble_eq_true rfl⟩) (preV_p (As := [.int 18, .int 1]) (hP.sub (ws' := [(pn, .inr (7, [.ref bk, .ref bd, n1, .ref pe, .ref pm, n2, n3, .ref pt, .ref pb, .ref px, .ref pg, .int 0, .int y, .int 0])), (bd, .inr (1, [.ref bk, b1, b2, b3, b4, b5])), (bk, .inr (2, [.ref ca, v1, v2, v3, v4, v5])), (ca, .inl (gI G, 2088, .inl bk0))]) [0, 1, 2, 3] rfl) hB rfl rfl) rfl rfl hl.1 rfl (lv_room (Nat.le_of_ble_eq_true rfl)) dX6_putInOrder_23 ⟨Nat.le_of_ble_eq_true rfl, Nat.le_of_ble_eq_true rfl⟩)) (fun _ => ?_)
  refine W.eq (g2 := F0 m 26 ls []) rfl ?_
  refine lv_iinc (v := 2) (lv' := [(2, .int 2), (1, .int 18), (0, .ref pn)]) hx hb dX6_putInOrder_26 hl (k := 0) rfl (by decide) (by decide) rfl (fun ls hl => ?_)
  refine lv_goto (tgt := 15) hx hb dX6_putInOrder_29 (by decide) ?_
  refine lv_iload_n hx hb dX6_putInOrder_15 rfl (lv_at hl 0 rfl) ?_
  refine lv_iconst (v := 4) hx hb dX6_putInOrder_16 (by decide) ?_
  refine lv_icmp_ge (tgt := 32) hx hb dX6_putInOrder_17 (by decide) (fun c9 => absurd c9 (by decide)) (fun _ => ?_)
  refine lv_aload_n hx hb dX6_putInOrder_20 rfl (lv_at hl 2 rfl) ?_
  refine lv_iload_n hx hb dX6_putInOrder_21 rfl (lv_at hl 1 rfl) ?_
  refine lv_iload_n hx hb dX6_putInOrder_22 rfl (lv_at hl 0 rfl) ?_
  refine va_csv (va_Run.run (va_runV (As := [.int 18, .int 2]) (rest := []) ⟨hx, hb, hml, hown, hts⟩ (c_putStage l G pn bk bd n1 pe pm n2 n3 pt pb px pg b1 b2 b3 b4 b5 ca v1 v2 v3 v4 v5 y 18 2 (by decide) (by decide)) (cwV 2 hts (gdV (List.mem_cons_of_mem _ (List.mem_append_left _ (List.mem_of_getElem? (i := 1) rfl))) (List.mem_cons_of_mem _ (List.mem_append_left _ (List.mem_of_getElem? (i := 2) rfl))) (List.mem_cons_of_mem _ (List.mem_append_left _ (List.mem_of_getElem? (i := 3) rfl))) (List.mem_cons_of_mem _ (List.mem_append_left _ (List.mem_of_getElem? (i := 4) rfl))) (fun w9 h9 => ⟨(List.mem_cons_of_mem _ (List.mem_append_right _ (List.mem_append_right _ (List.mem_append_left _ h9)))), gd_c_putStage w9 h9⟩)) rfl rfl rfl kVX6_putStageInOrder ⟨Nat.le_of_ble_eq_true rfl, Nat.le_of_ble_eq_true rfl⟩) (preV_p (As := [.int 18, .int 2]) (hP.sub (ws' := [(pn, .inr (7, [.ref bk, .ref bd, n1, .ref pe, .ref pm, n2, n3, .ref pt, .ref pb, .ref px, .ref pg, .int 0, .int y, .int 0])), (bd, .inr (1, [.ref bk, b1, b2, b3, b4, b5])), (bk, .inr (2, [.ref ca, v1, v2, v3, v4, v5])), (ca, .inl (gI G, 2088, .inl bk0))]) [0, 1, 2, 3] rfl) hB rfl rfl) rfl rfl hl.1 rfl (lv_room (Nat.le_of_ble_eq_true rfl)) dX6_putInOrder_23 ⟨Nat.le_of_ble_eq_true rfl, Nat.le_of_ble_eq_true rfl⟩)) (fun _ => ?_)
  refine W.eq (g2 := F0 m 26 ls []) rfl ?_
  refine lv_iinc (v := 3) (lv' := [(2, .int 3), (1, .int 18), (0, .ref pn)]) hx hb dX6_putInOrder_26 hl (k := 0) rfl (by decide) (by decide) rfl (fun ls hl => ?_)
  refine lv_goto (tgt := 15) hx hb dX6_putInOrder_29 (by decide) ?_
  refine lv_iload_n hx hb dX6_putInOrder_15 rfl (lv_at hl 0 rfl) ?_
  refine lv_iconst (v := 4) hx hb dX6_putInOrder_16 (by decide) ?_
  refine lv_icmp_ge (tgt := 32) hx hb dX6_putInOrder_17 (by decide) (fun c9 => absurd c9 (by decide)) (fun _ => ?_)
  refine lv_aload_n hx hb dX6_putInOrder_20 rfl (lv_at hl 2 rfl) ?_
  refine lv_iload_n hx hb dX6_putInOrder_21 rfl (lv_at hl 1 rfl) ?_
  refine lv_iload_n hx hb dX6_putInOrder_22 rfl (lv_at hl 0 rfl) ?_
  refine va_csv (va_Run.run (va_runV (As := [.int 18, .int 3]) (rest := []) ⟨hx, hb, hml, hown, hts⟩ (c_putStage l G pn bk bd n1 pe pm n2 n3 pt pb px pg b1 b2 b3 b4 b5 ca v1 v2 v3 v4 v5 y 18 3 (by decide) (by decide)) (cwV 2 hts (gdV (List.mem_cons_of_mem _ (List.mem_append_left _ (List.mem_of_getElem? (i := 1) rfl))) (List.mem_cons_of_mem _ (List.mem_append_left _ (List.mem_of_getElem? (i := 2) rfl))) (List.mem_cons_of_mem _ (List.mem_append_left _ (List.mem_of_getElem? (i := 3) rfl))) (List.mem_cons_of_mem _ (List.mem_append_left _ (List.mem_of_getElem? (i := 4) rfl))) (fun w9 h9 => ⟨(List.mem_cons_of_mem _ (List.mem_append_right _ (List.mem_append_right _ (List.mem_append_left _ h9)))), gd_c_putStage w9 h9⟩)) rfl rfl rfl kVX6_putStageInOrder ⟨Nat.le_of_ble_eq_true rfl, Nat.le_of_ble_eq_true rfl⟩) (preV_p (As := [.int 18, .int 3]) (hP.sub (ws' := [(pn, .inr (7, [.ref bk, .ref bd, n1, .ref pe, .ref pm, n2, n3, .ref pt, .ref pb, .ref px, .ref pg, .int 0, .int y, .int 0])), (bd, .inr (1, [.ref bk, b1, b2, b3, b4, b5])), (bk, .inr (2, [.ref ca, v1, v2, v3, v4, v5])), (ca, .inl (gI G, 2088, .inl bk0))]) [0, 1, 2, 3] rfl) hB rfl rfl) rfl rfl hl.1 rfl (lv_room (Nat.le_of_ble_eq_true rfl)) dX6_putInOrder_23 ⟨Nat.le_of_ble_eq_true rfl, Nat.le_of_ble_eq_true rfl⟩)) (fun _ => ?_)
  refine W.eq (g2 := F0 m 26 ls []) rfl ?_
  refine lv_iinc (v := 4) (lv' := [(2, .int 4), (1, .int 18), (0, .ref pn)]) hx hb dX6_putInOrder_26 hl (k := 0) rfl (by decide) (by decide) rfl (fun ls hl => ?_)
  refine lv_goto (tgt := 15) hx hb dX6_putInOrder_29 (by decide) ?_
  refine lv_iload_n hx hb dX6_putInOrder_15 rfl (lv_at hl 0 rfl) ?_
  refine lv_iconst (v := 4) hx hb dX6_putInOrder_16 (by decide) ?_
  refine lv_icmp_ge (tgt := 32) hx hb dX6_putInOrder_17 (by decide) (fun _ => ?_) (fun c9 => absurd (by decide) c9)
  refine lv_iinc (v := 19) (lv' := [(1, .int 19), (2, .int 4), (0, .ref pn)]) hx hb dX6_putInOrder_32 hl (k := 1) rfl (by decide) (by decide) rfl (fun ls hl => ?_)
  refine lv_goto (tgt := 7) hx hb dX6_putInOrder_35 (by decide) ?_
  refine lv_iload_n hx hb dX6_putInOrder_7 rfl (lv_at hl 0 rfl) ?_
  refine lv_bipush (v := 20) hx hb dX6_putInOrder_8 (by decide) ?_
  refine lv_icmp_gt (tgt := 38) hx hb dX6_putInOrder_10 (by decide) (fun c9 => absurd c9 (by decide)) (fun _ => ?_)
  refine lv_iconst (v := 0) hx hb dX6_putInOrder_13 (by decide) ?_
  refine lv_istore_n (lv' := [(2, .int 0), (1, .int 19), (0, .ref pn)]) hx hb dX6_putInOrder_14 rfl hl (by decide) rfl (fun ls hl => ?_)
  refine lv_iload_n hx hb dX6_putInOrder_15 rfl (lv_at hl 0 rfl) ?_
  refine lv_iconst (v := 4) hx hb dX6_putInOrder_16 (by decide) ?_
  refine lv_icmp_ge (tgt := 32) hx hb dX6_putInOrder_17 (by decide) (fun c9 => absurd c9 (by decide)) (fun _ => ?_)
  refine lv_aload_n hx hb dX6_putInOrder_20 rfl (lv_at hl 2 rfl) ?_
  refine lv_iload_n hx hb dX6_putInOrder_21 rfl (lv_at hl 1 rfl) ?_
  refine lv_iload_n hx hb dX6_putInOrder_22 rfl (lv_at hl 0 rfl) ?_
  refine va_csv (va_Run.run (va_runV (As := [.int 19, .int 0]) (rest := []) ⟨hx, hb, hml, hown, hts⟩ (c_putStage l G pn bk bd n1 pe pm n2 n3 pt pb px pg b1 b2 b3 b4 b5 ca v1 v2 v3 v4 v5 y 19 0 (by decide) (by decide)) (cwV 2 hts (gdV (List.mem_cons_of_mem _ (List.mem_append_left _ (List.mem_of_getElem? (i := 1) rfl))) (List.mem_cons_of_mem _ (List.mem_append_left _ (List.mem_of_getElem? (i := 2) rfl))) (List.mem_cons_of_mem _ (List.mem_append_left _ (List.mem_of_getElem? (i := 3) rfl))) (List.mem_cons_of_mem _ (List.mem_append_left _ (List.mem_of_getElem? (i := 4) rfl))) (fun w9 h9 => ⟨(List.mem_cons_of_mem _ (List.mem_append_right _ (List.mem_append_right _ (List.mem_append_left _ h9)))), gd_c_putStage w9 h9⟩)) rfl rfl rfl kVX6_putStageInOrder ⟨Nat.le_of_ble_eq_true rfl, Nat.le_of_ble_eq_true rfl⟩) (preV_p (As := [.int 19, .int 0]) (hP.sub (ws' := [(pn, .inr (7, [.ref bk, .ref bd, n1, .ref pe, .ref pm, n2, n3, .ref pt, .ref pb, .ref px, .ref pg, .int 0, .int y, .int 0])), (bd, .inr (1, [.ref bk, b1, b2, b3, b4, b5])), (bk, .inr (2, [.ref ca, v1, v2, v3, v4, v5])), (ca, .inl (gI G, 2088, .inl bk0))]) [0, 1, 2, 3] rfl) hB rfl rfl) rfl rfl hl.1 rfl (lv_room (Nat.le_of_ble_eq_true rfl)) dX6_putInOrder_23 ⟨Nat.le_of_ble_eq_true rfl, Nat.le_of_ble_eq_true rfl⟩)) (fun _ => ?_)
  refine W.eq (g2 := F0 m 26 ls []) rfl ?_
  refine lv_iinc (v := 1) (lv' := [(2, .int 1), (1, .int 19), (0, .ref pn)]) hx hb dX6_putInOrder_26 hl (k := 0) rfl (by decide) (by decide) rfl (fun ls hl => ?_)
  refine lv_goto (tgt := 15) hx hb dX6_putInOrder_29 (by decide) ?_
  refine lv_iload_n hx hb dX6_putInOrder_15 rfl (lv_at hl 0 rfl) ?_
  refine lv_iconst (v := 4) hx hb dX6_putInOrder_16 (by decide) ?_
  refine lv_icmp_ge (tgt := 32) hx hb dX6_putInOrder_17 (by decide) (fun c9 => absurd c9 (by decide)) (fun _ => ?_)
  refine lv_aload_n hx hb dX6_putInOrder_20 rfl (lv_at hl 2 rfl) ?_
  refine lv_iload_n hx hb dX6_putInOrder_21 rfl (lv_at hl 1 rfl) ?_
  refine lv_iload_n hx hb dX6_putInOrder_22 rfl (lv_at hl 0 rfl) ?_
  refine va_csv (va_Run.run (va_runV (As := [.int 19, .int 1]) (rest := []) ⟨hx, hb, hml, hown, hts⟩ (c_putStage l G pn bk bd n1 pe pm n2 n3 pt pb px pg b1 b2 b3 b4 b5 ca v1 v2 v3 v4 v5 y 19 1 (by decide) (by decide)) (cwV 2 hts (gdV (List.mem_cons_of_mem _ (List.mem_append_left _ (List.mem_of_getElem? (i := 1) rfl))) (List.mem_cons_of_mem _ (List.mem_append_left _ (List.mem_of_getElem? (i := 2) rfl))) (List.mem_cons_of_mem _ (List.mem_append_left _ (List.mem_of_getElem? (i := 3) rfl))) (List.mem_cons_of_mem _ (List.mem_append_left _ (List.mem_of_getElem? (i := 4) rfl))) (fun w9 h9 => ⟨(List.mem_cons_of_mem _ (List.mem_append_right _ (List.mem_append_right _ (List.mem_append_left _ h9)))), gd_c_putStage w9 h9⟩)) rfl rfl rfl kVX6_putStageInOrder ⟨Nat.le_of_ble_eq_true rfl, Nat.le_of_ble_eq_true rfl⟩) (preV_p (As := [.int 19, .int 1]) (hP.sub (ws' := [(pn, .inr (7, [.ref bk, .ref bd, n1, .ref pe, .ref pm, n2, n3, .ref pt, .ref pb, .ref px, .ref pg, .int 0, .int y, .int 0])), (bd, .inr (1, [.ref bk, b1, b2, b3, b4, b5])), (bk, .inr (2, [.ref ca, v1, v2, v3, v4, v5])), (ca, .inl (gI G, 2088, .inl bk0))]) [0, 1, 2, 3] rfl) hB rfl rfl) rfl rfl hl.1 rfl (lv_room (Nat.le_of_ble_eq_true rfl)) dX6_putInOrder_23 ⟨Nat.le_of_ble_eq_true rfl, Nat.le_of_ble_eq_true rfl⟩)) (fun _ => ?_)
  refine W.eq (g2 := F0 m 26 ls []) rfl ?_
  refine lv_iinc (v := 2) (lv' := [(2, .int 2), (1, .int 19), (0, .ref pn)]) hx hb dX6_putInOrder_26 hl (k := 0) rfl (by decide) (by decide) rfl (fun ls hl => ?_)
  refine lv_goto (tgt := 15) hx hb dX6_putInOrder_29 (by decide) ?_
  refine lv_iload_n hx hb dX6_putInOrder_15 rfl (lv_at hl 0 rfl) ?_
  refine lv_iconst (v := 4) hx hb dX6_putInOrder_16 (by decide) ?_
  refine lv_icmp_ge (tgt := 32) hx hb dX6_putInOrder_17 (by decide) (fun c9 => absurd c9 (by decide)) (fun _ => ?_)
  refine lv_aload_n hx hb dX6_putInOrder_20 rfl (lv_at hl 2 rfl) ?_
  refine lv_iload_n hx hb dX6_putInOrder_21 rfl (lv_at hl 1 rfl) ?_
  refine lv_iload_n hx hb dX6_putInOrder_22 rfl (lv_at hl 0 rfl) ?_
  refine va_csv (va_Run.run (va_runV (As := [.int 19, .int 2]) (rest := []) ⟨hx, hb, hml, hown, hts⟩ (c_putStage l G pn bk bd n1 pe pm n2 n3 pt pb px pg b1 b2 b3 b4 b5 ca v1 v2 v3 v4 v5 y 19 2 (by decide) (by decide)) (cwV 2 hts (gdV (List.mem_cons_of_mem _ (List.mem_append_left _ (List.mem_of_getElem? (i := 1) rfl))) (List.mem_cons_of_mem _ (List.mem_append_left _ (List.mem_of_getElem? (i := 2) rfl))) (List.mem_cons_of_mem _ (List.mem_append_left _ (List.mem_of_getElem? (i := 3) rfl))) (List.mem_cons_of_mem _ (List.mem_append_left _ (List.mem_of_getElem? (i := 4) rfl))) (fun w9 h9 => ⟨(List.mem_cons_of_mem _ (List.mem_append_right _ (List.mem_append_right _ (List.mem_append_left _ h9)))), gd_c_putStage w9 h9⟩)) rfl rfl rfl kVX6_putStageInOrder ⟨Nat.le_of_ble_eq_true rfl, Nat.le_of_ble_eq_true rfl⟩) (preV_p (As := [.int 19, .int 2]) (hP.sub (ws' := [(pn, .inr (7, [.ref bk, .ref bd, n1, .ref pe, .ref pm, n2, n3, .ref pt, .ref pb, .ref px, .ref pg, .int 0, .int y, .int 0])), (bd, .inr (1, [.ref bk, b1, b2, b3, b4, b5])), (bk, .inr (2, [.ref ca, v1, v2, v3, v4, v5])), (ca, .inl (gI G, 2088, .inl bk0))]) [0, 1, 2, 3] rfl) hB rfl rfl) rfl rfl hl.1 rfl (lv_room (Nat.le_of_ble_eq_true rfl)) dX6_putInOrder_23 ⟨Nat.le_of_ble_eq_true rfl, Nat.le_of_ble_eq_true rfl⟩)) (fun _ => ?_)
  refine W.eq (g2 := F0 m 26 ls []) rfl ?_
  refine lv_iinc (v := 3) (lv' := [(2, .int 3), (1, .int 19), (0, .ref pn)]) hx hb dX6_putInOrder_26 hl (k := 0) rfl (by decide) (by decide) rfl (fun ls hl => ?_)
  refine lv_goto (tgt := 15) hx hb dX6_putInOrder_29 (by decide) ?_
  refine lv_iload_n hx hb dX6_putInOrder_15 rfl (lv_at hl 0 rfl) ?_
  refine lv_iconst (v := 4) hx hb dX6_putInOrder_16 (by decide) ?_
  refine lv_icmp_ge (tgt := 32) hx hb dX6_putInOrder_17 (by decide) (fun c9 => absurd c9 (by decide)) (fun _ => ?_)
  refine lv_aload_n hx hb dX6_putInOrder_20 rfl (lv_at hl 2 rfl) ?_
  refine lv_iload_n hx hb dX6_putInOrder_21 rfl (lv_at hl 1 rfl) ?_
  refine lv_iload_n hx hb dX6_putInOrder_22 rfl (lv_at hl 0 rfl) ?_
  refine va_csv (va_Run.run (va_runV (As := [.int 19, .int 3]) (rest := []) ⟨hx, hb, hml, hown, hts⟩ (c_putStage l G pn bk bd n1 pe pm n2 n3 pt pb px pg b1 b2 b3 b4 b5 ca v1 v2 v3 v4 v5 y 19 3 (by decide) (by decide)) (cwV 2 hts (gdV (List.mem_cons_of_mem _ (List.mem_append_left _ (List.mem_of_getElem? (i := 1) rfl))) (List.mem_cons_of_mem _ (List.mem_append_left _ (List.mem_of_getElem? (i := 2) rfl))) (List.mem_cons_of_mem _ (List.mem_append_left _ (List.mem_of_getElem? (i := 3) rfl))) (List.mem_cons_of_mem _ (List.mem_append_left _ (List.mem_of_getElem? (i := 4) rfl))) (fun w9 h9 => ⟨(List.mem_cons_of_mem _ (List.mem_append_right _ (List.mem_append_right _ (List.mem_append_left _ h9)))), gd_c_putStage w9 h9⟩)) rfl rfl rfl kVX6_putStageInOrder ⟨Nat.le_of_ble_eq_true rfl, Nat.le_of_ble_eq_true rfl⟩) (preV_p (As := [.int 19, .int 3]) (hP.sub (ws' := [(pn, .inr (7, [.ref bk, .ref bd, n1, .ref pe, .ref pm, n2, n3, .ref pt, .ref pb, .ref px, .ref pg, .int 0, .int y, .int 0])), (bd, .inr (1, [.ref bk, b1, b2, b3, b4, b5])), (bk, .inr (2, [.ref ca, v1, v2, v3, v4, v5])), (ca, .inl (gI G, 2088, .inl bk0))]) [0, 1, 2, 3] rfl) hB rfl rfl) rfl rfl hl.1 rfl (lv_room (Nat.le_of_ble_eq_true rfl)) dX6_putInOrder_23 ⟨Nat.le_of_ble_eq_true rfl, Nat.le_of_ble_eq_true rfl⟩)) (fun _ => ?_)
  refine W.eq (g2 := F0 m 26 ls []) rfl ?_
  refine lv_iinc (v := 4) (lv' := [(2, .int 4), (1, .int 19), (0, .ref pn)]) hx hb dX6_putInOrder_26 hl (k := 0) rfl (by decide) (by decide) rfl (fun ls hl => ?_)
  refine lv_goto (tgt := 15) hx hb dX6_putInOrder_29 (by decide) ?_
  refine lv_iload_n hx hb dX6_putInOrder_15 rfl (lv_at hl 0 rfl) ?_
  refine lv_iconst (v := 4) hx hb dX6_putInOrder_16 (by decide) ?_
  refine lv_icmp_ge (tgt := 32) hx hb dX6_putInOrder_17 (by decide) (fun _ => ?_) (fun c9 => absurd (by decide) c9)
  refine lv_iinc (v := 20) (lv' := [(1, .int 20), (2, .int 4), (0, .ref pn)]) hx hb dX6_putInOrder_32 hl (k := 1) rfl (by decide) (by decide) rfl (fun ls hl => ?_)
  refine lv_goto (tgt := 7) hx hb dX6_putInOrder_35 (by decide) ?_
  refine lv_iload_n hx hb dX6_putInOrder_7 rfl (lv_at hl 0 rfl) ?_
  refine lv_bipush (v := 20) hx hb dX6_putInOrder_8 (by decide) ?_
  refine lv_icmp_gt (tgt := 38) hx hb dX6_putInOrder_10 (by decide) (fun c9 => absurd c9 (by decide)) (fun _ => ?_)
  refine lv_iconst (v := 0) hx hb dX6_putInOrder_13 (by decide) ?_
  refine lv_istore_n (lv' := [(2, .int 0), (1, .int 20), (0, .ref pn)]) hx hb dX6_putInOrder_14 rfl hl (by decide) rfl (fun ls hl => ?_)
  refine lv_iload_n hx hb dX6_putInOrder_15 rfl (lv_at hl 0 rfl) ?_
  refine lv_iconst (v := 4) hx hb dX6_putInOrder_16 (by decide) ?_
  refine lv_icmp_ge (tgt := 32) hx hb dX6_putInOrder_17 (by decide) (fun c9 => absurd c9 (by decide)) (fun _ => ?_)
  refine lv_aload_n hx hb dX6_putInOrder_20 rfl (lv_at hl 2 rfl) ?_
  refine lv_iload_n hx hb dX6_putInOrder_21 rfl (lv_at hl 1 rfl) ?_
  refine lv_iload_n hx hb dX6_putInOrder_22 rfl (lv_at hl 0 rfl) ?_
  refine va_csv (va_Run.run (va_runV (As := [.int 20, .int 0]) (rest := []) ⟨hx, hb, hml, hown, hts⟩ (c_putStage l G pn bk bd n1 pe pm n2 n3 pt pb px pg b1 b2 b3 b4 b5 ca v1 v2 v3 v4 v5 y 20 0 (by decide) (by decide)) (cwV 2 hts (gdV (List.mem_cons_of_mem _ (List.mem_append_left _ (List.mem_of_getElem? (i := 1) rfl))) (List.mem_cons_of_mem _ (List.mem_append_left _ (List.mem_of_getElem? (i := 2) rfl))) (List.mem_cons_of_mem _ (List.mem_append_left _ (List.mem_of_getElem? (i := 3) rfl))) (List.mem_cons_of_mem _ (List.mem_append_left _ (List.mem_of_getElem? (i := 4) rfl))) (fun w9 h9 => ⟨(List.mem_cons_of_mem _ (List.mem_append_right _ (List.mem_append_right _ (List.mem_append_left _ h9)))), gd_c_putStage w9 h9⟩)) rfl rfl rfl kVX6_putStageInOrder ⟨Nat.le_of_ble_eq_true rfl, Nat.le_of_ble_eq_true rfl⟩) (preV_p (As := [.int 20, .int 0]) (hP.sub (ws' := [(pn, .inr (7, [.ref bk, .ref bd, n1, .ref pe, .ref pm, n2, n3, .ref pt, .ref pb, .ref px, .ref pg, .int 0, .int y, .int 0])), (bd, .inr (1, [.ref bk, b1, b2, b3, b4, b5])), (bk, .inr (2, [.ref ca, v1, v2, v3, v4, v5])), (ca, .inl (gI G, 2088, .inl bk0))]) [0, 1, 2, 3] rfl) hB rfl rfl) rfl rfl hl.1 rfl (lv_room (Nat.le_of_ble_eq_true rfl)) dX6_putInOrder_23 ⟨Nat.le_of_ble_eq_true rfl, Nat.le_of_ble_eq_true rfl⟩)) (fun _ => ?_)
  refine W.eq (g2 := F0 m 26 ls []) rfl ?_
  refine lv_iinc (v := 1) (lv' := [(2, .int 1), (1, .int 20), (0, .ref pn)]) hx hb dX6_putInOrder_26 hl (k := 0) rfl (by decide) (by decide) rfl (fun ls hl => ?_)
  refine lv_goto (tgt := 15) hx hb dX6_putInOrder_29 (by decide) ?_
  refine lv_iload_n hx hb dX6_putInOrder_15 rfl (lv_at hl 0 rfl) ?_
  refine lv_iconst (v := 4) hx hb dX6_putInOrder_16 (by decide) ?_
  refine lv_icmp_ge (tgt := 32) hx hb dX6_putInOrder_17 (by decide) (fun c9 => absurd c9 (by decide)) (fun _ => ?_)
  refine lv_aload_n hx hb dX6_putInOrder_20 rfl (lv_at hl 2 rfl) ?_
  refine lv_iload_n hx hb dX6_putInOrder_21 rfl (lv_at hl 1 rfl) ?_
  refine lv_iload_n hx hb dX6_putInOrder_22 rfl (lv_at hl 0 rfl) ?_
  refine va_csv (va_Run.run (va_runV (As := [.int 20, .int 1]) (rest := []) ⟨hx, hb, hml, hown, hts⟩ (c_putStage l G pn bk bd n1 pe pm n2 n3 pt pb px pg b1 b2 b3 b4 b5 ca v1 v2 v3 v4 v5 y 20 1 (by decide) (by decide)) (cwV 2 hts (gdV (List.mem_cons_of_mem _ (List.mem_append_left _ (List.mem_of_getElem? (i := 1) rfl))) (List.mem_cons_of_mem _ (List.mem_append_left _ (List.mem_of_getElem? (i := 2) rfl))) (List.mem_cons_of_mem _ (List.mem_append_left _ (List.mem_of_getElem? (i := 3) rfl))) (List.mem_cons_of_mem _ (List.mem_append_left _ (List.mem_of_getElem? (i := 4) rfl))) (fun w9 h9 => ⟨(List.mem_cons_of_mem _ (List.mem_append_right _ (List.mem_append_right _ (List.mem_append_left _ h9)))), gd_c_putStage w9 h9⟩)) rfl rfl rfl kVX6_putStageInOrder ⟨Nat.le_of_ble_eq_true rfl, Nat.le_of_ble_eq_true rfl⟩) (preV_p (As := [.int 20, .int 1]) (hP.sub (ws' := [(pn, .inr (7, [.ref bk, .ref bd, n1, .ref pe, .ref pm, n2, n3, .ref pt, .ref pb, .ref px, .ref pg, .int 0, .int y, .int 0])), (bd, .inr (1, [.ref bk, b1, b2, b3, b4, b5])), (bk, .inr (2, [.ref ca, v1, v2, v3, v4, v5])), (ca, .inl (gI G, 2088, .inl bk0))]) [0, 1, 2, 3] rfl) hB rfl rfl) rfl rfl hl.1 rfl (lv_room (Nat.le_of_ble_eq_true rfl)) dX6_putInOrder_23 ⟨Nat.le_of_ble_eq_true rfl, Nat.le_of_ble_eq_true rfl⟩)) (fun _ => ?_)
  refine W.eq (g2 := F0 m 26 ls []) rfl ?_
  refine lv_iinc (v := 2) (lv' := [(2, .int 2), (1, .int 20), (0, .ref pn)]) hx hb dX6_putInOrder_26 hl (k := 0) rfl (by decide) (by decide) rfl (fun ls hl => ?_)
  refine lv_goto (tgt := 15) hx hb dX6_putInOrder_29 (by decide) ?_
  refine lv_iload_n hx hb dX6_putInOrder_15 rfl (lv_at hl 0 rfl) ?_
  refine lv_iconst (v := 4) hx hb dX6_putInOrder_16 (by decide) ?_
  refine lv_icmp_ge (tgt := 32) hx hb dX6_putInOrder_17 (by decide) (fun c9 => absurd c9 (by decide)) (fun _ => ?_)
  refine lv_aload_n hx hb dX6_putInOrder_20 rfl (lv_at hl 2 rfl) ?_
  refine lv_iload_n hx hb dX6_putInOrder_21 rfl (lv_at hl 1 rfl) ?_
  refine lv_iload_n hx hb dX6_putInOrder_22 rfl (lv_at hl 0 rfl) ?_
  refine va_csv (va_Run.run (va_runV (As := [.int 20, .int 2]) (rest := []) ⟨hx, hb, hml, hown, hts⟩ (c_putStage l G pn bk bd n1 pe pm n2 n3 pt pb px pg b1 b2 b3 b4 b5 ca v1 v2 v3 v4 v5 y 20 2 (by decide) (by decide)) (cwV 2 hts (gdV (List.mem_cons_of_mem _ (List.mem_append_left _ (List.mem_of_getElem? (i := 1) rfl))) (List.mem_cons_of_mem _ (List.mem_append_left _ (List.mem_of_getElem? (i := 2) rfl))) (List.mem_cons_of_mem _ (List.mem_append_left _ (List.mem_of_getElem? (i := 3) rfl))) (List.mem_cons_of_mem _ (List.mem_append_left _ (List.mem_of_getElem? (i := 4) rfl))) (fun w9 h9 => ⟨(List.mem_cons_of_mem _ (List.mem_append_right _ (List.mem_append_right _ (List.mem_append_left _ h9)))), gd_c_putStage w9 h9⟩)) rfl rfl rfl kVX6_putStageInOrder ⟨Nat.le_of_ble_eq_true rfl, Nat.le_of_ble_eq_true rfl⟩) (preV_p (As := [.int 20, .int 2]) (hP.sub (ws' := [(pn, .inr (7, [.ref bk, .ref bd, n1, .ref pe, .ref pm, n2, n3, .ref pt, .ref pb, .ref px, .ref pg, .int 0, .int y, .int 0])), (bd, .inr (1, [.ref bk, b1, b2, b3, b4, b5])), (bk, .inr (2, [.ref ca, v1, v2, v3, v4, v5])), (ca, .inl (gI G, 2088, .inl bk0))]) [0, 1, 2, 3] rfl) hB rfl rfl) rfl rfl hl.1 rfl (lv_room (Nat.le_of_ble_eq_true rfl)) dX6_putInOrder_23 ⟨Nat.le_of_ble_eq_true rfl, Nat.le_of_ble_eq_true rfl⟩)) (fun _ => ?_)
  refine W.eq (g2 := F0 m 26 ls []) rfl ?_
  refine lv_iinc (v := 3) (lv' := [(2, .int 3), (1, .int 20), (0, .ref pn)]) hx hb dX6_putInOrder_26 hl (k := 0) rfl (by decide) (by decide) rfl (fun ls hl => ?_)
  refine lv_goto (tgt := 15) hx hb dX6_putInOrder_29 (by decide) ?_
  refine lv_iload_n hx hb dX6_putInOrder_15 rfl (lv_at hl 0 rfl) ?_
  refine lv_iconst (v := 4) hx hb dX6_putInOrder_16 (by decide) ?_
  refine lv_icmp_ge (tgt := 32) hx hb dX6_putInOrder_17 (by decide) (fun c9 => absurd c9 (by decide)) (fun _ => ?_)
  refine lv_aload_n hx hb dX6_putInOrder_20 rfl (lv_at hl 2 rfl) ?_
  refine lv_iload_n hx hb dX6_putInOrder_21 rfl (lv_at hl 1 rfl) ?_
  refine lv_iload_n hx hb dX6_putInOrder_22 rfl (lv_at hl 0 rfl) ?_
  refine va_csv (va_Run.run (va_runV (As := [.int 20, .int 3]) (rest := []) ⟨hx, hb, hml, hown, hts⟩ (c_putStage l G pn bk bd n1 pe pm n2 n3 pt pb px pg b1 b2 b3 b4 b5 ca v1 v2 v3 v4 v5 y 20 3 (by decide) (by decide)) (cwV 2 hts (gdV (List.mem_cons_of_mem _ (List.mem_append_left _ (List.mem_of_getElem? (i := 1) rfl))) (List.mem_cons_of_mem _ (List.mem_append_left _ (List.mem_of_getElem? (i := 2) rfl))) (List.mem_cons_of_mem _ (List.mem_append_left _ (List.mem_of_getElem? (i := 3) rfl))) (List.mem_cons_of_mem _ (List.mem_append_left _ (List.mem_of_getElem? (i := 4) rfl))) (fun w9 h9 => ⟨(List.mem_cons_of_mem _ (List.mem_append_right _ (List.mem_append_right _ (List.mem_append_left _ h9)))), gd_c_putStage w9 h9⟩)) rfl rfl rfl kVX6_putStageInOrder ⟨Nat.le_of_ble_eq_true rfl, Nat.le_of_ble_eq_true rfl⟩) (preV_p (As := [.int 20, .int 3]) (hP.sub (ws' := [(pn, .inr (7, [.ref bk, .ref bd, n1, .ref pe, .ref pm, n2, n3, .ref pt, .ref pb, .ref px, .ref pg, .int 0, .int y, .int 0])), (bd, .inr (1, [.ref bk, b1, b2, b3, b4, b5])), (bk, .inr (2, [.ref ca, v1, v2, v3, v4, v5])), (ca, .inl (gI G, 2088, .inl bk0))]) [0, 1, 2, 3] rfl) hB rfl rfl) rfl rfl hl.1 rfl (lv_room (Nat.le_of_ble_eq_true rfl)) dX6_putInOrder_23 ⟨Nat.le_of_ble_eq_true rfl, Nat.le_of_ble_eq_true rfl⟩)) (fun _ => ?_)
  refine W.eq (g2 := F0 m 26 ls []) rfl ?_
  refine lv_iinc (v := 4) (lv' := [(2, .int 4), (1, .int 20), (0, .ref pn)]) hx hb dX6_putInOrder_26 hl (k := 0) rfl (by decide) (by decide) rfl (fun ls hl => ?_)
  refine lv_goto (tgt := 15) hx hb dX6_putInOrder_29 (by decide) ?_
  refine lv_iload_n hx hb dX6_putInOrder_15 rfl (lv_at hl 0 rfl) ?_
  refine lv_iconst (v := 4) hx hb dX6_putInOrder_16 (by decide) ?_
  refine lv_icmp_ge (tgt := 32) hx hb dX6_putInOrder_17 (by decide) (fun _ => ?_) (fun c9 => absurd (by decide) c9)
  refine lv_iinc (v := 21) (lv' := [(1, .int 21), (2, .int 4), (0, .ref pn)]) hx hb dX6_putInOrder_32 hl (k := 1) rfl (by decide) (by decide) rfl (fun ls hl => ?_)
  refine lv_goto (tgt := 7) hx hb dX6_putInOrder_35 (by decide) ?_
  refine lv_iload_n hx hb dX6_putInOrder_7 rfl (lv_at hl 0 rfl) ?_
  refine lv_bipush (v := 20) hx hb dX6_putInOrder_8 (by decide) ?_
  refine lv_icmp_gt (tgt := 38) hx hb dX6_putInOrder_10 (by decide) (fun _ => ?_) (fun c9 => absurd (by decide) c9)
  have hP9 := hP.sub (ws' := [(pn, .inr (7, [.ref bk, .ref bd, n1, .ref pe, .ref pm, n2, n3, .ref pt, .ref pb, .ref px, .ref pg, .int 0, .int y, .int 0])), (bd, .inr (1, [.ref bk, b1, b2, b3, b4, b5])), (bk, .inr (2, [.ref ca, v1, v2, v3, v4, v5])), (ca, .inl (gI G, 2088, .inl bk0))]) [0, 1, 2, 3] rfl
  have hD9 := hD.sub (ws' := [(pn, .inr (7, [.ref bk, .ref bd, n1, .ref pe, .ref pm, n2, n3, .ref pt, .ref pb, .ref px, .ref pg, .int 0, .int y, .int 0])), (bd, .inr (1, [.ref bk, b1, b2, b3, b4, b5])), (bk, .inr (2, [.ref ca, v1, v2, v3, v4, v5])), (ca, .inl (gI G, 2088, .inl bk0))]) [0, 1, 2, 3] (by decide) rfl
  exact W.vret hx hb hr (fun t ht hW => ⟨⟨(), rfl, trivial, by rw [ht]; exact hP9, hD9⟩, hS.F ht⟩) hS.2.2 dX6_putInOrder_38

def wo_c_findEarliest : List Cond := [.fieldLink RX6 15 "JudoHall$Planner" "board" "LJudoHall$Board;", .methodLink RX6 137 yX0_fightsOf, .instanceMethod yX0_fightsOf, .selects RX0 yX0_fightsOf yX0_fightsOf, .initialized RX0]
def wq_c_findEarliest : List Cond := .code yX6_findEarliest cX6_findEarliest 6 none :: (wo_c_findEarliest ++ (wsX60 ++ (wq_c_fightsOf ++ [])))
theorem gd_c_findEarliest : ∀ w ∈ wq_c_findEarliest, Gd w := List.forall_mem_cons.mpr ⟨Or.inl rfl, List.forall_mem_append.mpr ⟨gdl wo_c_findEarliest (by decide +kernel), (List.forall_mem_append.mpr ⟨gd_wsX60, (List.forall_mem_append.mpr ⟨gd_c_fightsOf, (fun _ h => absurd h List.not_mem_nil)⟩)⟩)⟩⟩
theorem in_c_findEarliest : ∀ w ∈ wq_c_findEarliest, w ∈ lw_tbl := List.forall_mem_cons.mpr ⟨List.mem_of_getElem? (i := 1485) (by decide +kernel), List.forall_mem_append.mpr ⟨inT wo_c_findEarliest [485, 1473, 1180, 1181, 164] (by decide +kernel), (List.forall_mem_append.mpr ⟨in_wsX60, (List.forall_mem_append.mpr ⟨in_c_fightsOf, (fun _ h => absurd h List.not_mem_nil)⟩)⟩)⟩⟩
set_option maxHeartbeats 4000000 in
set_option maxRecDepth 100000 in
theorem c_findEarliest (l : Launch) (G : gG) (pn : Nat) (bk : Nat) (bd : Nat) (n1 : Value) (pe : Nat) (pm : Nat) (n2 : Value) (n3 : Value) (pt : Nat) (pb : Nat) (px : Nat) (pg : Nat) (b1 : Value) (b2 : Value) (b3 : Value) (b4 : Value) (b5 : Value) (ca : Nat) (v1 : Value) (v2 : Value) (v3 : Value) (v4 : Value) (v5 : Value) (y : Int32) (x : Int32) (h0 : ¬ x < 0) (h1 : ¬ (4 : Int32) ≤ x) : Met l yX6_findEarliest wq_c_findEarliest ({ frames := 3, cells := 0, slots := 0, locals := 64 }) (va_Pc [.ref pn, .int x] (pP G [(pn, .inr (7, [.ref bk, .ref bd, n1, .ref pe, .ref pm, n2, n3, .ref pt, .ref pb, .ref px, .ref pg, .int 0, .int y, .int 0])), (bd, .inr (1, [.ref bk, b1, b2, b3, b4, b5])), (bk, .inr (2, [.ref ca, v1, v2, v3, v4, v5])), (ca, .inl (gI G, 2088, .inl bk0))])) (va_Sv (fun _ => True)) 0 0 (fun _ => False) := by
  refine Met.ofW (cc := cX6_findEarliest) (maxL := 6) (ret := none) (by decide) rfl ?_
  intro p e s m args below meth c s₁ B hml hv
  obtain ⟨rfl, hP, hB⟩ := hv
  have hx := B.exec
  have hb := B.bytes
  have hr := B.returns
  have hts := atoms_spec (ws := wq_c_findEarliest) B.pre
  have hown : s.vm.findClass RX6 = some m.cls := findClass_of_methodNamed B.named
  have hlocks := B.notSynchronized
  have hK := hB.1
  have hP : va_P (gD G) vwCl [(pn, .inr (7, [.ref bk, .ref bd, n1, .ref pe, .ref pm, n2, n3, .ref pt, .ref pb, .ref px, .ref pg, .int 0, .int y, .int 0])), (bd, .inr (1, [.ref bk, b1, b2, b3, b4, b5])), (bk, .inr (2, [.ref ca, v1, v2, v3, v4, v5])), (ca, .inl (gI G, 2088, .inl bk0))] s.heap := hP
  have hl := lv_entry ([.ref pn, .int x]) (n := 6) (Nat.le_of_ble_eq_true rfl)
  rw [lg_entry_eq]
  generalize (lg_sl ([.ref pn, .int x]) ++ List.replicate (6 - (lg_sl ([.ref pn, .int x])).length) Slot.unset).toArray = ls at hl ⊢
  have hl : lv_has ls 6 [(0, .ref pn), (1, .int x)] := hl
  refine lv_iconst (v := 0) hx hb dX6_findEarliest_0 (by decide) ?_
  refine lv_istore_n (lv' := [(2, .int 0), (0, .ref pn), (1, .int x)]) hx hb dX6_findEarliest_1 rfl hl (by decide) rfl (fun ls hl => ?_)
  refine lv_iload_n hx hb dX6_findEarliest_2 rfl (lv_at hl 0 rfl) ?_
  refine lv_aload_n hx hb dX6_findEarliest_3 rfl (lv_at hl 1 rfl) ?_
  refine va_get (D := gD G) (ci := 7) (v := .ref bd) (C := RX6) (T := TX6) (N := 14) hx hb hts (fun _ h9 => (List.mem_cons_of_mem _ (List.mem_append_right _ (List.mem_append_left _ h9)))) hown hK hP 0 rfl rfl 1 (by decide) (hts (.fieldLink RX6 15 "JudoHall$Planner" "board" "LJudoHall$Board;") (List.mem_cons_of_mem _ (List.mem_append_left _ (List.mem_of_getElem? (i := 0) rfl)))) (fun _ h9 => h9) rfl dX6_findEarliest_4 ?_
  refine lv_iload_n hx hb dX6_findEarliest_7 rfl (lv_at hl 2 rfl) ?_
  refine vp_callSi (va_Run.run (va_runV (As := [.int x]) (rest := [.int 0]) ⟨hx, hb, hml, hown, hts⟩ (c_fightsOf l G bd bk b1 b2 b3 b4 b5 ca v1 v2 v3 v4 v5 x (h0) (h1)) (cwV 1 hts (gdV (List.mem_cons_of_mem _ (List.mem_append_left _ (List.mem_of_getElem? (i := 1) rfl))) (List.mem_cons_of_mem _ (List.mem_append_left _ (List.mem_of_getElem? (i := 2) rfl))) (List.mem_cons_of_mem _ (List.mem_append_left _ (List.mem_of_getElem? (i := 3) rfl))) (List.mem_cons_of_mem _ (List.mem_append_left _ (List.mem_of_getElem? (i := 4) rfl))) (fun w9 h9 => ⟨(List.mem_cons_of_mem _ (List.mem_append_right _ (List.mem_append_right _ (List.mem_append_left _ h9)))), gd_c_fightsOf w9 h9⟩)) rfl rfl rfl kVX0_fightsOf ⟨Nat.le_of_ble_eq_true rfl, Nat.le_of_ble_eq_true rfl⟩) (preV_p (As := [.int x]) (hP.sub (ws' := [(bd, .inr (1, [.ref bk, b1, b2, b3, b4, b5])), (bk, .inr (2, [.ref ca, v1, v2, v3, v4, v5])), (ca, .inl (gI G, 2088, .inl bk0))]) [1, 2, 3] rfl) hB rfl rfl) rfl rfl hl.1 rfl (lv_room (Nat.le_of_ble_eq_true rfl)) dX6_findEarliest_8 ⟨Nat.le_of_ble_eq_true rfl, Nat.le_of_ble_eq_true rfl⟩)) (fun r_1 hr_1 => ?_)
  subst hr_1
  refine lv_icmp_ge (tgt := 107) hx hb dX6_findEarliest_11 (by decide) (fun _ => ?_) (fun c9 => absurd (by decide) c9)
  exact W.vret hx hb hr (fun t ht hW => ⟨rfl, trivial, ht⟩) (fun q h => absurd h List.not_mem_nil) dX6_findEarliest_107

def wo_c_keep : List Cond := [.fieldLink RX6 42 "JudoHall$Planner" "mats" "LJudoHall$Row;", .fieldLink RX6 45 "JudoHall$Planner" "begins" "LJudoHall$Row;", .fieldLink RX6 48 "JudoHall$Planner" "newMats" "LJudoHall$Row;", .fieldLink RX6 51 "JudoHall$Planner" "newBegins" "LJudoHall$Row;"]
def wq_c_keep : List Cond := .code yX6_keep cX6_keep 3 none :: (wo_c_keep ++ (wsX60 ++ []))
theorem gd_c_keep : ∀ w ∈ wq_c_keep, Gd w := List.forall_mem_cons.mpr ⟨Or.inl rfl, List.forall_mem_append.mpr ⟨gdl wo_c_keep (by decide +kernel), (List.forall_mem_append.mpr ⟨gd_wsX60, (fun _ h => absurd h List.not_mem_nil)⟩)⟩⟩
theorem in_c_keep : ∀ w ∈ wq_c_keep, w ∈ lw_tbl := List.forall_mem_cons.mpr ⟨List.mem_of_getElem? (i := 1524) (by decide +kernel), List.forall_mem_append.mpr ⟨inT wo_c_keep [491, 492, 493, 494] (by decide +kernel), (List.forall_mem_append.mpr ⟨in_wsX60, (fun _ h => absurd h List.not_mem_nil)⟩)⟩⟩
set_option maxHeartbeats 4000000 in
set_option maxRecDepth 100000 in
theorem c_keep (l : Launch) (G : gG) (pn : Nat) (bk : Nat) (bd : Nat) (n1 : Value) (pe : Nat) (pm : Nat) (n2 : Value) (n3 : Value) (pt : Nat) (pb : Nat) (px : Nat) (pg : Nat) (y : Int32) (sz : Nat) : Met l yX6_keep wq_c_keep ({ frames := 0, cells := 0, slots := 0, locals := 0 }) (va_Pc [.ref pn] (mP G [(pn, .inr (7, [.ref bk, .ref bd, n1, .ref pe, .ref pm, n2, n3, .ref pt, .ref pb, .ref px, .ref pg, .int 0, .int y, .int 0]))] sz)) (va_Qv (fun _ : Unit => True) (fun (_ : Unit) (t : State) => ∃ (k0 : Value) (k1 : Value) (k2 : Value) (k3 : Value) (k4 : Value) (k5 : Value) (k6 : Value) (k7 : Value) (k8 : Value) (k9 : Value) (k10 : Value), va_P (gD G) vwCl [(pn, .inr (7, [k0, k1, k2, k3, k4, k5, k6, k7, k8, k9, k10, .int 0, .int y, .int 0]))] t.heap ∧ va_D (va_A [(pn, .inr (7, [.ref bk, .ref bd, n1, .ref pe, .ref pm, n2, n3, .ref pt, .ref pb, .ref px, .ref pg, .int 0, .int y, .int 0]))] sz) [(pn, .inr (7, [k0, k1, k2, k3, k4, k5, k6, k7, k8, k9, k10, .int 0, .int y, .int 0]))]) (va_A [(pn, .inr (7, [.ref bk, .ref bd, n1, .ref pe, .ref pm, n2, n3, .ref pt, .ref pb, .ref px, .ref pg, .int 0, .int y, .int 0]))] sz)) 0 0 (va_A [(pn, .inr (7, [.ref bk, .ref bd, n1, .ref pe, .ref pm, n2, n3, .ref pt, .ref pb, .ref px, .ref pg, .int 0, .int y, .int 0]))] sz) := by
  refine Met.ofW (cc := cX6_keep) (maxL := 3) (ret := none) (by decide) rfl ?_
  intro p e s m args below meth c s₁ B hml hv
  obtain ⟨rfl, hsz, hP, hB, hD0⟩ := hv
  have hx := B.exec
  have hb := B.bytes
  have hr := B.returns
  have hts := atoms_spec (ws := wq_c_keep) B.pre
  have hown : s.vm.findClass RX6 = some m.cls := findClass_of_methodNamed B.named
  have hlocks := B.notSynchronized
  have hK := hB.1
  subst hsz
  have hD := hD0.self (sz := s.heap.size)
  generalize hAe : va_A [(pn, .inr (7, [.ref bk, .ref bd, n1, .ref pe, .ref pm, n2, n3, .ref pt, .ref pb, .ref px, .ref pg, .int 0, .int y, .int 0]))] s.heap.size = A at hD ⊢
  have hA : ∀ q : Nat, s.heap.size ≤ q → A q := fun q h => by rw [← hAe]; exact Or.inr h
  have hS : va_S A s.heap s.heap [] := va_S.rf
  have hP : va_P (gD G) vwCl [(pn, .inr (7, [.ref bk, .ref bd, n1, .ref pe, .ref pm, n2, n3, .ref pt, .ref pb, .ref px, .ref pg, .int 0, .int y, .int 0]))] s.heap := hP
  have hD : va_D A [(pn, .inr (7, [.ref bk, .ref bd, n1, .ref pe, .ref pm, n2, n3, .ref pt, .ref pb, .ref px, .ref pg, .int 0, .int y, .int 0]))] := hD
  have hl := lv_entry ([.ref pn]) (n := 3) (Nat.le_of_ble_eq_true rfl)
  rw [lg_entry_eq]
  generalize (lg_sl ([.ref pn]) ++ List.replicate (3 - (lg_sl ([.ref pn])).length) Slot.unset).toArray = ls at hl ⊢
  have hl : lv_has ls 3 [(0, .ref pn)] := hl
  refine lv_aload_n hx hb dX6_keep_0 rfl (lv_at hl 0 rfl) ?_
  refine va_get (D := gD G) (ci := 7) (v := .ref pt) (C := RX6) (T := TX6) (N := 14) hx hb hts (fun _ h9 => (List.mem_cons_of_mem _ (List.mem_append_right _ (List.mem_append_left _ h9)))) hown hK hP 0 rfl rfl 7 (by decide) (hts (.fieldLink RX6 42 "JudoHall$Planner" "mats" "LJudoHall$Row;") (List.mem_cons_of_mem _ (List.mem_append_left _ (List.mem_of_getElem? (i := 0) rfl)))) (fun _ h9 => h9) rfl dX6_keep_1 ?_
  refine lv_astore_n (lv' := [(1, .ref pt), (0, .ref pn)]) hx hb dX6_keep_4 rfl hl (by decide) rfl (fun ls hl => ?_)
  refine lv_aload_n hx hb dX6_keep_5 rfl (lv_at hl 1 rfl) ?_
  refine va_get (D := gD G) (ci := 7) (v := .ref pb) (C := RX6) (T := TX6) (N := 14) hx hb hts (fun _ h9 => (List.mem_cons_of_mem _ (List.mem_append_right _ (List.mem_append_left _ h9)))) hown hK hP 0 rfl rfl 8 (by decide) (hts (.fieldLink RX6 45 "JudoHall$Planner" "begins" "LJudoHall$Row;") (List.mem_cons_of_mem _ (List.mem_append_left _ (List.mem_of_getElem? (i := 1) rfl)))) (fun _ h9 => h9) rfl dX6_keep_6 ?_
  refine lv_astore_n (lv' := [(2, .ref pb), (1, .ref pt), (0, .ref pn)]) hx hb dX6_keep_9 rfl hl (by decide) rfl (fun ls hl => ?_)
  refine lv_aload_n hx hb dX6_keep_10 rfl (lv_at hl 2 rfl) ?_
  refine lv_aload_n hx hb dX6_keep_11 rfl (lv_at hl 2 rfl) ?_
  refine va_get (D := gD G) (ci := 7) (v := .ref px) (C := RX6) (T := TX6) (N := 14) hx hb hts (fun _ h9 => (List.mem_cons_of_mem _ (List.mem_append_right _ (List.mem_append_left _ h9)))) hown hK hP 0 rfl rfl 9 (by decide) (hts (.fieldLink RX6 48 "JudoHall$Planner" "newMats" "LJudoHall$Row;") (List.mem_cons_of_mem _ (List.mem_append_left _ (List.mem_of_getElem? (i := 2) rfl)))) (fun _ h9 => h9) rfl dX6_keep_12 ?_
  refine va_put (D := gD G) (ci := 7) (v := .ref px) (ty := tyX6 7) (C := RX6) (T := TX6) (N := 14) hx hb hts (fun _ h9 => (List.mem_cons_of_mem _ (List.mem_append_right _ (List.mem_append_left _ h9)))) tyX6 tyX6_ok nmX6 hown hK hP hD hS 0 rfl rfl 7 (by decide) (hts (.fieldLink RX6 42 "JudoHall$Planner" "mats" "LJudoHall$Row;") (List.mem_cons_of_mem _ (List.mem_append_left _ (List.mem_of_getElem? (i := 0) rfl)))) (fun _ h9 => h9) rfl (tyX6_ok 7 (by decide)) rfl rfl (Nat.le_of_ble_eq_true rfl) dX6_keep_15 (fun H locs hP hD hS => ?_)
  have hP : va_P (gD G) vwCl [(pn, .inr (7, [.ref bk, .ref bd, n1, .ref pe, .ref pm, n2, n3, .ref px, .ref pb, .ref px, .ref pg, .int 0, .int y, .int 0]))] H := hP
  have hD : va_D A [(pn, .inr (7, [.ref bk, .ref bd, n1, .ref pe, .ref pm, n2, n3, .ref px, .ref pb, .ref px, .ref pg, .int 0, .int y, .int 0]))] := hD
  refine lv_aload_n hx hb dX6_keep_18 rfl (lv_at hl 2 rfl) ?_
  refine lv_aload_n hx hb dX6_keep_19 rfl (lv_at hl 2 rfl) ?_
  refine va_get (D := gD G) (ci := 7) (v := .ref pg) (C := RX6) (T := TX6) (N := 14) hx hb hts (fun _ h9 => (List.mem_cons_of_mem _ (List.mem_append_right _ (List.mem_append_left _ h9)))) hown hK hP 0 rfl rfl 10 (by decide) (hts (.fieldLink RX6 51 "JudoHall$Planner" "newBegins" "LJudoHall$Row;") (List.mem_cons_of_mem _ (List.mem_append_left _ (List.mem_of_getElem? (i := 3) rfl)))) (fun _ h9 => h9) rfl dX6_keep_20 ?_
  refine va_put (D := gD G) (ci := 7) (v := .ref pg) (ty := tyX6 8) (C := RX6) (T := TX6) (N := 14) hx hb hts (fun _ h9 => (List.mem_cons_of_mem _ (List.mem_append_right _ (List.mem_append_left _ h9)))) tyX6 tyX6_ok nmX6 hown hK hP hD hS 0 rfl rfl 8 (by decide) (hts (.fieldLink RX6 45 "JudoHall$Planner" "begins" "LJudoHall$Row;") (List.mem_cons_of_mem _ (List.mem_append_left _ (List.mem_of_getElem? (i := 1) rfl)))) (fun _ h9 => h9) rfl (tyX6_ok 8 (by decide)) rfl rfl (Nat.le_of_ble_eq_true rfl) dX6_keep_23 (fun H locs hP hD hS => ?_)
  have hP : va_P (gD G) vwCl [(pn, .inr (7, [.ref bk, .ref bd, n1, .ref pe, .ref pm, n2, n3, .ref px, .ref pg, .ref px, .ref pg, .int 0, .int y, .int 0]))] H := hP
  have hD : va_D A [(pn, .inr (7, [.ref bk, .ref bd, n1, .ref pe, .ref pm, n2, n3, .ref px, .ref pg, .ref px, .ref pg, .int 0, .int y, .int 0]))] := hD
  refine lv_aload_n hx hb dX6_keep_26 rfl (lv_at hl 2 rfl) ?_
  refine lv_aload_n hx hb dX6_keep_27 rfl (lv_at hl 1 rfl) ?_
  refine va_put (D := gD G) (ci := 7) (v := .ref pt) (ty := tyX6 9) (C := RX6) (T := TX6) (N := 14) hx hb hts (fun _ h9 => (List.mem_cons_of_mem _ (List.mem_append_right _ (List.mem_append_left _ h9)))) tyX6 tyX6_ok nmX6 hown hK hP hD hS 0 rfl rfl 9 (by decide) (hts (.fieldLink RX6 48 "JudoHall$Planner" "newMats" "LJudoHall$Row;") (List.mem_cons_of_mem _ (List.mem_append_left _ (List.mem_of_getElem? (i := 2) rfl)))) (fun _ h9 => h9) rfl (tyX6_ok 9 (by decide)) rfl rfl (Nat.le_of_ble_eq_true rfl) dX6_keep_28 (fun H locs hP hD hS => ?_)
  have hP : va_P (gD G) vwCl [(pn, .inr (7, [.ref bk, .ref bd, n1, .ref pe, .ref pm, n2, n3, .ref px, .ref pg, .ref pt, .ref pg, .int 0, .int y, .int 0]))] H := hP
  have hD : va_D A [(pn, .inr (7, [.ref bk, .ref bd, n1, .ref pe, .ref pm, n2, n3, .ref px, .ref pg, .ref pt, .ref pg, .int 0, .int y, .int 0]))] := hD
  refine lv_aload_n hx hb dX6_keep_31 rfl (lv_at hl 2 rfl) ?_
  refine lv_aload_n hx hb dX6_keep_32 rfl (lv_at hl 0 rfl) ?_
  refine va_put (D := gD G) (ci := 7) (v := .ref pb) (ty := tyX6 10) (C := RX6) (T := TX6) (N := 14) hx hb hts (fun _ h9 => (List.mem_cons_of_mem _ (List.mem_append_right _ (List.mem_append_left _ h9)))) tyX6 tyX6_ok nmX6 hown hK hP hD hS 0 rfl rfl 10 (by decide) (hts (.fieldLink RX6 51 "JudoHall$Planner" "newBegins" "LJudoHall$Row;") (List.mem_cons_of_mem _ (List.mem_append_left _ (List.mem_of_getElem? (i := 3) rfl)))) (fun _ h9 => h9) rfl (tyX6_ok 10 (by decide)) rfl rfl (Nat.le_of_ble_eq_true rfl) dX6_keep_33 (fun H locs hP hD hS => ?_)
  have hP : va_P (gD G) vwCl [(pn, .inr (7, [.ref bk, .ref bd, n1, .ref pe, .ref pm, n2, n3, .ref px, .ref pg, .ref pt, .ref pb, .int 0, .int y, .int 0]))] H := hP
  have hD : va_D A [(pn, .inr (7, [.ref bk, .ref bd, n1, .ref pe, .ref pm, n2, n3, .ref px, .ref pg, .ref pt, .ref pb, .int 0, .int y, .int 0]))] := hD
  have hP9 := hP.sub (ws' := [(pn, .inr (7, [.ref bk, .ref bd, n1, .ref pe, .ref pm, n2, n3, .ref px, .ref pg, .ref pt, .ref pb, .int 0, .int y, .int 0]))]) [0] rfl
  have hD9 := hD.sub (ws' := [(pn, .inr (7, [.ref bk, .ref bd, n1, .ref pe, .ref pm, n2, n3, .ref px, .ref pg, .ref pt, .ref pb, .int 0, .int y, .int 0]))]) [0] (by decide) rfl
  exact W.vret hx hb hr (fun t ht hW => ⟨⟨(), rfl, trivial, (.ref bk), (.ref bd), n1, (.ref pe), (.ref pm), n2, n3, (.ref px), (.ref pg), (.ref pt), (.ref pb), by rw [ht]; exact hP9, hD9⟩, hS.F ht⟩) hS.2.2 dX6_keep_36

def wo_c_planDay : List Cond := [.fieldLink RX6 62 "JudoHall$Planner" "length" "I", .methodLink RX6 66 yX6_clear, .instanceMethod yX6_clear, .selects RX6 yX6_clear yX6_clear, .initialized RX6, .methodLink RX6 69 yX6_putOpenOnes, .instanceMethod yX6_putOpenOnes, .selects RX6 yX6_putOpenOnes yX6_putOpenOnes, .methodLink RX6 72 yX6_putInOrder, .instanceMethod yX6_putInOrder, .selects RX6 yX6_putInOrder yX6_putInOrder, .methodLink RX6 75 yX6_findEarliest, .instanceMethod yX6_findEarliest, .selects RX6 yX6_findEarliest yX6_findEarliest, .fieldLink RX6 9 "JudoHall$Planner" "book" "LJudoHall$Book;", .methodLink RX6 81 yX1_at, .instanceMethod yX1_at, .selects RX1 yX1_at yX1_at, .initialized RX1, .fieldLink RX6 84 "JudoHall$Planner" "ordered" "I", .fieldLink RX6 102 "JudoHall$Planner" "lastEnd" "I", .constant RX6 105 (100000), .methodLink RX6 106 yX6_keep, .instanceMethod yX6_keep, .selects RX6 yX6_keep yX6_keep]
def wq_c_planDay : List Cond := .code yX6_planDay cX6_planDay 5 (some .int) :: (wo_c_planDay ++ (wsX60 ++ (wq_c_Pl_clear ++ (wq_c_putOpenOnes ++ (wq_c_putInOrder ++ (wq_c_findEarliest ++ (wq_c_Book_at ++ (wq_c_keep ++ []))))))))
theorem gd_c_planDay : ∀ w ∈ wq_c_planDay, Gd w := List.forall_mem_cons.mpr ⟨Or.inl rfl, List.forall_mem_append.mpr ⟨gdl wo_c_planDay (by decide +kernel), (List.forall_mem_append.mpr ⟨gd_wsX60, (List.forall_mem_append.mpr ⟨gd_c_Pl_clear, (List.forall_mem_append.mpr ⟨gd_c_putOpenOnes, (List.forall_mem_append.mpr ⟨gd_c_putInOrder, (List.forall_mem_append.mpr ⟨gd_c_findEarliest, (List.forall_mem_append.mpr ⟨gd_c_Book_at, (List.forall_mem_append.mpr ⟨gd_c_keep, (fun _ h => absurd h List.not_mem_nil)⟩)⟩)⟩)⟩)⟩)⟩)⟩)⟩⟩
theorem in_c_planDay : ∀ w ∈ wq_c_planDay, w ∈ lw_tbl := List.forall_mem_cons.mpr ⟨List.mem_of_getElem? (i := 1438) (by decide +kernel), List.forall_mem_append.mpr ⟨inT wo_c_planDay [496, 1439, 1441, 66, 167, 1447, 1449, 67, 1465, 1467, 70, 1482, 1484, 72, 484, 1444, 623, 624, 155, 495, 497, 1520, 1521, 1523, 80] (by decide +kernel), (List.forall_mem_append.mpr ⟨in_wsX60, (List.forall_mem_append.mpr ⟨in_c_Pl_clear, (List.forall_mem_append.mpr ⟨in_c_putOpenOnes, (List.forall_mem_append.mpr ⟨in_c_putInOrder, (List.forall_mem_append.mpr ⟨in_c_findEarliest, (List.forall_mem_append.mpr ⟨in_c_Book_at, (List.forall_mem_append.mpr ⟨in_c_keep, (fun _ h => absurd h List.not_mem_nil)⟩)⟩)⟩)⟩)⟩)⟩)⟩)⟩⟩
set_option maxHeartbeats 4000000 in
set_option maxRecDepth 100000 in
theorem c_planDay (l : Launch) (G : gG) (pn : Nat) (bk : Nat) (bd : Nat) (n1 : Value) (pe : Nat) (pm : Nat) (n2 : Value) (n3 : Value) (pt : Nat) (pb : Nat) (px : Nat) (pg : Nat) (b1 : Value) (b2 : Value) (b3 : Value) (b4 : Value) (b5 : Value) (ca : Nat) (v1 : Value) (v2 : Value) (v3 : Value) (v4 : Value) (v5 : Value) (pe2 : Nat) (pm2 : Nat) (px2 : Nat) (pg2 : Nat) (fe : Nat → Int32) (fm : Nat → Int32) (fx : Nat → Int32) (fg : Nat → Int32) (x : Int32) (y : Int32) (sz : Nat) : Met l yX6_planDay wq_c_planDay ({ frames := 5, cells := 0, slots := 0, locals := 110 }) (va_Pc [.ref pn, .int x, .int y] (mP G [(pn, .inr (7, [.ref bk, .ref bd, n1, .ref pe, .ref pm, n2, n3, .ref pt, .ref pb, .ref px, .ref pg, .int 0, .int 0, .int 0])), (bd, .inr (1, [.ref bk, b1, b2, b3, b4, b5])), (bk, .inr (2, [.ref ca, v1, v2, v3, v4, v5])), (ca, .inl (gI G, 2088, .inl bk0)), (pe, .inr (10, [.ref pe2])), (pe2, .inl (gI G, 148, .inl fe)), (pm, .inr (10, [.ref pm2])), (pm2, .inl (gI G, 4, .inl fm)), (px, .inr (10, [.ref px2])), (px2, .inl (gI G, 148, .inl fx)), (pg, .inr (10, [.ref pg2])), (pg2, .inl (gI G, 148, .inl fg))] sz)) (va_Qi (fun (r : Int32) (_ : Unit) => r = 0) (fun (_ : Unit) (t : State) => va_P (gD G) vwCl [] t.heap ∧ va_D (va_A [(pn, .inr (7, [.ref bk, .ref bd, n1, .ref pe, .ref pm, n2, n3, .ref pt, .ref pb, .ref px, .ref pg, .int 0, .int 0, .int 0])), (bd, .inr (1, [.ref bk, b1, b2, b3, b4, b5])), (bk, .inr (2, [.ref ca, v1, v2, v3, v4, v5])), (ca, .inl (gI G, 2088, .inl bk0)), (pe, .inr (10, [.ref pe2])), (pe2, .inl (gI G, 148, .inl fe)), (pm, .inr (10, [.ref pm2])), (pm2, .inl (gI G, 4, .inl fm)), (px, .inr (10, [.ref px2])), (px2, .inl (gI G, 148, .inl fx)), (pg, .inr (10, [.ref pg2])), (pg2, .inl (gI G, 148, .inl fg))] sz) []) (va_A [(pn, .inr (7, [.ref bk, .ref bd, n1, .ref pe, .ref pm, n2, n3, .ref pt, .ref pb, .ref px, .ref pg, .int 0, .int 0, .int 0])), (bd, .inr (1, [.ref bk, b1, b2, b3, b4, b5])), (bk, .inr (2, [.ref ca, v1, v2, v3, v4, v5])), (ca, .inl (gI G, 2088, .inl bk0)), (pe, .inr (10, [.ref pe2])), (pe2, .inl (gI G, 148, .inl fe)), (pm, .inr (10, [.ref pm2])), (pm2, .inl (gI G, 4, .inl fm)), (px, .inr (10, [.ref px2])), (px2, .inl (gI G, 148, .inl fx)), (pg, .inr (10, [.ref pg2])), (pg2, .inl (gI G, 148, .inl fg))] sz)) 0 0 (va_A [(pn, .inr (7, [.ref bk, .ref bd, n1, .ref pe, .ref pm, n2, n3, .ref pt, .ref pb, .ref px, .ref pg, .int 0, .int 0, .int 0])), (bd, .inr (1, [.ref bk, b1, b2, b3, b4, b5])), (bk, .inr (2, [.ref ca, v1, v2, v3, v4, v5])), (ca, .inl (gI G, 2088, .inl bk0)), (pe, .inr (10, [.ref pe2])), (pe2, .inl (gI G, 148, .inl fe)), (pm, .inr (10, [.ref pm2])), (pm2, .inl (gI G, 4, .inl fm)), (px, .inr (10, [.ref px2])), (px2, .inl (gI G, 148, .inl fx)), (pg, .inr (10, [.ref pg2])), (pg2, .inl (gI G, 148, .inl fg))] sz) := by
  refine Met.ofW (cc := cX6_planDay) (maxL := 5) (ret := (some .int)) (by decide) rfl ?_
  intro p e s m args below meth c s₁ B hml hv
  obtain ⟨rfl, hsz, hP, hB, hD0⟩ := hv
  have hx := B.exec
  have hb := B.bytes
  have hr := B.returns
  have hts := atoms_spec (ws := wq_c_planDay) B.pre
  have hown : s.vm.findClass RX6 = some m.cls := findClass_of_methodNamed B.named
  have hlocks := B.notSynchronized
  have hK := hB.1
  subst hsz
  have hD := hD0.self (sz := s.heap.size)
  generalize hAe : va_A [(pn, .inr (7, [.ref bk, .ref bd, n1, .ref pe, .ref pm, n2, n3, .ref pt, .ref pb, .ref px, .ref pg, .int 0, .int 0, .int 0])), (bd, .inr (1, [.ref bk, b1, b2, b3, b4, b5])), (bk, .inr (2, [.ref ca, v1, v2, v3, v4, v5])), (ca, .inl (gI G, 2088, .inl bk0)), (pe, .inr (10, [.ref pe2])), (pe2, .inl (gI G, 148, .inl fe)), (pm, .inr (10, [.ref pm2])), (pm2, .inl (gI G, 4, .inl fm)), (px, .inr (10, [.ref px2])), (px2, .inl (gI G, 148, .inl fx)), (pg, .inr (10, [.ref pg2])), (pg2, .inl (gI G, 148, .inl fg))] s.heap.size = A at hD ⊢
  have hA : ∀ q : Nat, s.heap.size ≤ q → A q := fun q h => by rw [← hAe]; exact Or.inr h
  have hS : va_S A s.heap s.heap [] := va_S.rf
  have hP : va_P (gD G) vwCl [(pn, .inr (7, [.ref bk, .ref bd, n1, .ref pe, .ref pm, n2, n3, .ref pt, .ref pb, .ref px, .ref pg, .int 0, .int 0, .int 0])), (bd, .inr (1, [.ref bk, b1, b2, b3, b4, b5])), (bk, .inr (2, [.ref ca, v1, v2, v3, v4, v5])), (ca, .inl (gI G, 2088, .inl bk0)), (pe, .inr (10, [.ref pe2])), (pe2, .inl (gI G, 148, .inl fe)), (pm, .inr (10, [.ref pm2])), (pm2, .inl (gI G, 4, .inl fm)), (px, .inr (10, [.ref px2])), (px2, .inl (gI G, 148, .inl fx)), (pg, .inr (10, [.ref pg2])), (pg2, .inl (gI G, 148, .inl fg))] s.heap := hP
  have hD : va_D A [(pn, .inr (7, [.ref bk, .ref bd, n1, .ref pe, .ref pm, n2, n3, .ref pt, .ref pb, .ref px, .ref pg, .int 0, .int 0, .int 0])), (bd, .inr (1, [.ref bk, b1, b2, b3, b4, b5])), (bk, .inr (2, [.ref ca, v1, v2, v3, v4, v5])), (ca, .inl (gI G, 2088, .inl bk0)), (pe, .inr (10, [.ref pe2])), (pe2, .inl (gI G, 148, .inl fe)), (pm, .inr (10, [.ref pm2])), (pm2, .inl (gI G, 4, .inl fm)), (px, .inr (10, [.ref px2])), (px2, .inl (gI G, 148, .inl fx)), (pg, .inr (10, [.ref pg2])), (pg2, .inl (gI G, 148, .inl fg))] := hD
  have hl := lv_entry ([.ref pn, .int x, .int y]) (n := 5) (Nat.le_of_ble_eq_true rfl)
  rw [lg_entry_eq]
  generalize (lg_sl ([.ref pn, .int x, .int y]) ++ List.replicate (5 - (lg_sl ([.ref pn, .int x, .int y])).length) Slot.unset).toArray = ls at hl ⊢
  have hl : lv_has ls 5 [(0, .ref pn), (1, .int x), (2, .int y)] := hl
  refine lv_aload_n hx hb dX6_planDay_0 rfl (lv_at hl 0 rfl) ?_
  refine lv_iload_n hx hb dX6_planDay_1 rfl (lv_at hl 2 rfl) ?_
  refine va_put (D := gD G) (ci := 7) (v := .int y) (ty := tyX6 12) (C := RX6) (T := TX6) (N := 14) hx hb hts (fun _ h9 => (List.mem_cons_of_mem _ (List.mem_append_right _ (List.mem_append_left _ h9)))) tyX6 tyX6_ok nmX6 hown hK hP hD hS 0 rfl rfl 12 (by decide) (hts (.fieldLink RX6 62 "JudoHall$Planner" "length" "I") (List.mem_cons_of_mem _ (List.mem_append_left _ (List.mem_of_getElem? (i := 0) rfl)))) (fun _ h9 => h9) rfl (tyX6_ok 12 (by decide)) rfl rfl (Nat.le_of_ble_eq_true rfl) dX6_planDay_2 (fun H locs hP hD hS => ?_)
  have hP : va_P (gD G) vwCl [(pn, .inr (7, [.ref bk, .ref bd, n1, .ref pe, .ref pm, n2, n3, .ref pt, .ref pb, .ref px, .ref pg, .int 0, .int y, .int 0])), (bd, .inr (1, [.ref bk, b1, b2, b3, b4, b5])), (bk, .inr (2, [.ref ca, v1, v2, v3, v4, v5])), (ca, .inl (gI G, 2088, .inl bk0)), (pe, .inr (10, [.ref pe2])), (pe2, .inl (gI G, 148, .inl fe)), (pm, .inr (10, [.ref pm2])), (pm2, .inl (gI G, 4, .inl fm)), (px, .inr (10, [.ref px2])), (px2, .inl (gI G, 148, .inl fx)), (pg, .inr (10, [.ref pg2])), (pg2, .inl (gI G, 148, .inl fg))] H := hP
  have hD : va_D A [(pn, .inr (7, [.ref bk, .ref bd, n1, .ref pe, .ref pm, n2, n3, .ref pt, .ref pb, .ref px, .ref pg, .int 0, .int y, .int 0])), (bd, .inr (1, [.ref bk, b1, b2, b3, b4, b5])), (bk, .inr (2, [.ref ca, v1, v2, v3, v4, v5])), (ca, .inl (gI G, 2088, .inl bk0)), (pe, .inr (10, [.ref pe2])), (pe2, .inl (gI G, 148, .inl fe)), (pm, .inr (10, [.ref pm2])), (pm2, .inl (gI G, 4, .inl fm)), (px, .inr (10, [.ref px2])), (px2, .inl (gI G, 148, .inl fx)), (pg, .inr (10, [.ref pg2])), (pg2, .inl (gI G, 148, .inl fg))] := hD
  refine lv_aload_n hx hb dX6_planDay_5 rfl (lv_at hl 0 rfl) ?_
  have hPc := hP.sub (ws' := [(pn, .inr (7, [.ref bk, .ref bd, n1, .ref pe, .ref pm, n2, n3, .ref pt, .ref pb, .ref px, .ref pg, .int 0, .int y, .int 0])), (bk, .inr (2, [.ref ca, v1, v2, v3, v4, v5])), (ca, .inl (gI G, 2088, .inl bk0)), (pe, .inr (10, [.ref pe2])), (pe2, .inl (gI G, 148, .inl fe)), (pm, .inr (10, [.ref pm2])), (pm2, .inl (gI G, 4, .inl fm)), (px, .inr (10, [.ref px2])), (px2, .inl (gI G, 148, .inl fx)), (pg, .inr (10, [.ref pg2])), (pg2, .inl (gI G, 148, .inl fg))]) [0, 2, 3, 4, 5, 6, 7, 8, 9, 10, 11] rfl
  have hDc := hD.sub (ws' := [(pn, .inr (7, [.ref bk, .ref bd, n1, .ref pe, .ref pm, n2, n3, .ref pt, .ref pb, .ref px, .ref pg, .int 0, .int y, .int 0])), (bk, .inr (2, [.ref ca, v1, v2, v3, v4, v5])), (ca, .inl (gI G, 2088, .inl bk0)), (pe, .inr (10, [.ref pe2])), (pe2, .inl (gI G, 148, .inl fe)), (pm, .inr (10, [.ref pm2])), (pm2, .inl (gI G, 4, .inl fm)), (px, .inr (10, [.ref px2])), (px2, .inl (gI G, 148, .inl fx)), (pg, .inr (10, [.ref pg2])), (pg2, .inl (gI G, 148, .inl fg))]) [0, 2, 3, 4, 5, 6, 7, 8, 9, 10, 11] (by decide) rfl
  have hFc := va_free (wc := [(pn, .inr (7, [.ref bk, .ref bd, n1, .ref pe, .ref pm, n2, n3, .ref pt, .ref pb, .ref px, .ref pg, .int 0, .int y, .int 0])), (bk, .inr (2, [.ref ca, v1, v2, v3, v4, v5])), (ca, .inl (gI G, 2088, .inl bk0)), (pe, .inr (10, [.ref pe2])), (pe2, .inl (gI G, 148, .inl fe)), (pm, .inr (10, [.ref pm2])), (pm2, .inl (gI G, 4, .inl fm)), (px, .inr (10, [.ref px2])), (px2, .inl (gI G, 148, .inl fx)), (pg, .inr (10, [.ref pg2])), (pg2, .inl (gI G, 148, .inl fg))]) hD hS hA [0, 2, 3, 4, 5, 6, 7, 8, 9, 10, 11] rfl
  refine va_callv (va_runV (As := []) (rest := []) ⟨hx, hb, hml, hown, hts⟩ (c_Pl_clear l G pn bk bd n1 pe pm n2 n3 pt pb px pg ca v1 v2 v3 v4 v5 pe2 pm2 px2 pg2 fe fm fx fg y H.size) (cwV 0 hts (gdV (List.mem_cons_of_mem _ (List.mem_append_left _ (List.mem_of_getElem? (i := 1) rfl))) (List.mem_cons_of_mem _ (List.mem_append_left _ (List.mem_of_getElem? (i := 2) rfl))) (List.mem_cons_of_mem _ (List.mem_append_left _ (List.mem_of_getElem? (i := 3) rfl))) (List.mem_cons_of_mem _ (List.mem_append_left _ (List.mem_of_getElem? (i := 4) rfl))) (fun w9 h9 => ⟨(List.mem_cons_of_mem _ (List.mem_append_right _ (List.mem_append_right _ (List.mem_append_left _ h9)))), gd_c_Pl_clear w9 h9⟩)) rfl rfl rfl kVX6_clear ⟨Nat.le_of_ble_eq_true rfl, Nat.le_of_ble_eq_true rfl⟩) (preV_m (As := []) hPc hB hDc rfl rfl) rfl rfl hl.1 rfl (lv_room (Nat.le_of_ble_eq_true rfl)) dX6_planDay_6 ⟨Nat.le_of_ble_eq_true rfl, Nat.le_of_ble_eq_true rfl⟩) hS (fun q _ h => hFc q h) hFc (fun u t H1 locs ht hvm hw hB1 hz1 hk1 hS => ?_)
  obtain ⟨hP1, hD1⟩ := hB1
  rw [ht] at hP1
  obtain ⟨hP, hD⟩ := va_join (wr := [(bd, .inr (1, [.ref bk, b1, b2, b3, b4, b5]))]) (w1 := [(pn, .inr (7, [.ref bk, .ref bd, n1, .ref pe, .ref pm, n2, n3, .ref pt, .ref pb, .ref px, .ref pg, .int 0, .int y, .int 0])), (bk, .inr (2, [.ref ca, v1, v2, v3, v4, v5])), (ca, .inl (gI G, 2088, .inl bk0))]) hP hD [0, 2, 3, 4, 5, 6, 7, 8, 9, 10, 11] [1] rfl rfl (by decide) (by decide) hk1 hFc hP1 hD1
  generalize H1 = H at hP hS ⊢
  have hP : va_P (gD G) vwCl [(bd, .inr (1, [.ref bk, b1, b2, b3, b4, b5])), (pn, .inr (7, [.ref bk, .ref bd, n1, .ref pe, .ref pm, n2, n3, .ref pt, .ref pb, .ref px, .ref pg, .int 0, .int y, .int 0])), (bk, .inr (2, [.ref ca, v1, v2, v3, v4, v5])), (ca, .inl (gI G, 2088, .inl bk0))] H := hP
  have hD : va_D A [(bd, .inr (1, [.ref bk, b1, b2, b3, b4, b5])), (pn, .inr (7, [.ref bk, .ref bd, n1, .ref pe, .ref pm, n2, n3, .ref pt, .ref pb, .ref px, .ref pg, .int 0, .int y, .int 0])), (bk, .inr (2, [.ref ca, v1, v2, v3, v4, v5])), (ca, .inl (gI G, 2088, .inl bk0))] := hD
  refine W.eq (g2 := F0 m 9 ls []) rfl ?_
  refine lv_aload_n hx hb dX6_planDay_9 rfl (lv_at hl 0 rfl) ?_
  refine va_csv (va_Run.run (va_runV (As := []) (rest := []) ⟨hx, hb, hml, hown, hts⟩ (c_putOpenOnes l G pn bk bd n1 pe pm n2 n3 pt pb px pg ca v1 v2 v3 v4 v5 y) (cwV 0 hts (gdV (List.mem_cons_of_mem _ (List.mem_append_left _ (List.mem_of_getElem? (i := 5) rfl))) (List.mem_cons_of_mem _ (List.mem_append_left _ (List.mem_of_getElem? (i := 6) rfl))) (List.mem_cons_of_mem _ (List.mem_append_left _ (List.mem_of_getElem? (i := 7) rfl))) (List.mem_cons_of_mem _ (List.mem_append_left _ (List.mem_of_getElem? (i := 4) rfl))) (fun w9 h9 => ⟨(List.mem_cons_of_mem _ (List.mem_append_right _ (List.mem_append_right _ (List.mem_append_right _ (List.mem_append_left _ h9))))), gd_c_putOpenOnes w9 h9⟩)) rfl rfl rfl kVX6_putOpenOnes ⟨Nat.le_of_ble_eq_true rfl, Nat.le_of_ble_eq_true rfl⟩) (preV_p (As := []) (hP.sub (ws' := [(pn, .inr (7, [.ref bk, .ref bd, n1, .ref pe, .ref pm, n2, n3, .ref pt, .ref pb, .ref px, .ref pg, .int 0, .int y, .int 0])), (bk, .inr (2, [.ref ca, v1, v2, v3, v4, v5])), (ca, .inl (gI G, 2088, .inl bk0))]) [1, 2, 3] rfl) hB rfl rfl) rfl rfl hl.1 rfl (lv_room (Nat.le_of_ble_eq_true rfl)) dX6_planDay_10 ⟨Nat.le_of_ble_eq_true rfl, Nat.le_of_ble_eq_true rfl⟩)) (fun _ => ?_)
  refine W.eq (g2 := F0 m 13 ls []) rfl ?_
  refine lv_aload_n hx hb dX6_planDay_13 rfl (lv_at hl 0 rfl) ?_
  have hPc := hP.sub (ws' := [(pn, .inr (7, [.ref bk, .ref bd, n1, .ref pe, .ref pm, n2, n3, .ref pt, .ref pb, .ref px, .ref pg, .int 0, .int y, .int 0])), (bd, .inr (1, [.ref bk, b1, b2, b3, b4, b5])), (bk, .inr (2, [.ref ca, v1, v2, v3, v4, v5])), (ca, .inl (gI G, 2088, .inl bk0))]) [1, 0, 2, 3] rfl
  have hDc := hD.sub (ws' := [(pn, .inr (7, [.ref bk, .ref bd, n1, .ref pe, .ref pm, n2, n3, .ref pt, .ref pb, .ref px, .ref pg, .int 0, .int y, .int 0])), (bd, .inr (1, [.ref bk, b1, b2, b3, b4, b5])), (bk, .inr (2, [.ref ca, v1, v2, v3, v4, v5])), (ca, .inl (gI G, 2088, .inl bk0))]) [1, 0, 2, 3] (by decide) rfl
  have hFc := va_free (wc := [(pn, .inr (7, [.ref bk, .ref bd, n1, .ref pe, .ref pm, n2, n3, .ref pt, .ref pb, .ref px, .ref pg, .int 0, .int y, .int 0])), (bd, .inr (1, [.ref bk, b1, b2, b3, b4, b5])), (bk, .inr (2, [.ref ca, v1, v2, v3, v4, v5])), (ca, .inl (gI G, 2088, .inl bk0))]) hD hS hA [1, 0, 2, 3] rfl
  refine va_callv (va_runV (As := []) (rest := []) ⟨hx, hb, hml, hown, hts⟩ (c_putInOrder l G pn bk bd n1 pe pm n2 n3 pt pb px pg b1 b2 b3 b4 b5 ca v1 v2 v3 v4 v5 y H.size) (cwV 0 hts (gdV (List.mem_cons_of_mem _ (List.mem_append_left _ (List.mem_of_getElem? (i := 8) rfl))) (List.mem_cons_of_mem _ (List.mem_append_left _ (List.mem_of_getElem? (i := 9) rfl))) (List.mem_cons_of_mem _ (List.mem_append_left _ (List.mem_of_getElem? (i := 10) rfl))) (List.mem_cons_of_mem _ (List.mem_append_left _ (List.mem_of_getElem? (i := 4) rfl))) (fun w9 h9 => ⟨(List.mem_cons_of_mem _ (List.mem_append_right _ (List.mem_append_right _ (List.mem_append_right _ (List.mem_append_right _ (List.mem_append_left _ h9)))))), gd_c_putInOrder w9 h9⟩)) rfl rfl rfl kVX6_putInOrder ⟨Nat.le_of_ble_eq_true rfl, Nat.le_of_ble_eq_true rfl⟩) (preV_m (As := []) hPc hB hDc rfl rfl) rfl rfl hl.1 rfl (lv_room (Nat.le_of_ble_eq_true rfl)) dX6_planDay_14 ⟨Nat.le_of_ble_eq_true rfl, Nat.le_of_ble_eq_true rfl⟩) hS (fun q _ h => hFc q h) hFc (fun u t H1 locs ht hvm hw hB1 hz1 hk1 hS => ?_)
  obtain ⟨hP1, hD1⟩ := hB1
  rw [ht] at hP1
  obtain ⟨hP, hD⟩ := va_join (wr := []) (w1 := [(pn, .inr (7, [.ref bk, .ref bd, n1, .ref pe, .ref pm, n2, n3, .ref pt, .ref pb, .ref px, .ref pg, .int 0, .int y, .int 0])), (bd, .inr (1, [.ref bk, b1, b2, b3, b4, b5])), (bk, .inr (2, [.ref ca, v1, v2, v3, v4, v5])), (ca, .inl (gI G, 2088, .inl bk0))]) hP hD [1, 0, 2, 3] [] rfl rfl (by decide) (by decide) hk1 hFc hP1 hD1
  generalize H1 = H at hP hS ⊢
  have hP : va_P (gD G) vwCl [(pn, .inr (7, [.ref bk, .ref bd, n1, .ref pe, .ref pm, n2, n3, .ref pt, .ref pb, .ref px, .ref pg, .int 0, .int y, .int 0])), (bd, .inr (1, [.ref bk, b1, b2, b3, b4, b5])), (bk, .inr (2, [.ref ca, v1, v2, v3, v4, v5])), (ca, .inl (gI G, 2088, .inl bk0))] H := hP
  have hD : va_D A [(pn, .inr (7, [.ref bk, .ref bd, n1, .ref pe, .ref pm, n2, n3, .ref pt, .ref pb, .ref px, .ref pg, .int 0, .int y, .int 0])), (bd, .inr (1, [.ref bk, b1, b2, b3, b4, b5])), (bk, .inr (2, [.ref ca, v1, v2, v3, v4, v5])), (ca, .inl (gI G, 2088, .inl bk0))] := hD
  refine W.eq (g2 := F0 m 17 ls []) rfl ?_
  refine lv_iconst (v := 0) hx hb dX6_planDay_17 (by decide) ?_
  refine lv_istore_n (lv' := [(3, .int 0), (0, .ref pn), (1, .int x), (2, .int y)]) hx hb dX6_planDay_18 rfl hl (by decide) rfl (fun ls hl => ?_)
  refine lv_iload_n hx hb dX6_planDay_19 rfl (lv_at hl 0 rfl) ?_
  refine lv_iconst (v := 4) hx hb dX6_planDay_20 (by decide) ?_
  refine lv_icmp_ge (tgt := 35) hx hb dX6_planDay_21 (by decide) (fun c9 => absurd c9 (by decide)) (fun _ => ?_)
  refine lv_aload_n hx hb dX6_planDay_24 rfl (lv_at hl 1 rfl) ?_
  refine lv_iload_n hx hb dX6_planDay_25 rfl (lv_at hl 0 rfl) ?_
  refine va_csv (va_Run.run (va_runV (As := [.int 0]) (rest := []) ⟨hx, hb, hml, hown, hts⟩ (c_findEarliest l G pn bk bd n1 pe pm n2 n3 pt pb px pg b1 b2 b3 b4 b5 ca v1 v2 v3 v4 v5 y 0 (by decide) (by decide)) (cwV 1 hts (gdV (List.mem_cons_of_mem _ (List.mem_append_left _ (List.mem_of_getElem? (i := 11) rfl))) (List.mem_cons_of_mem _ (List.mem_append_left _ (List.mem_of_getElem? (i := 12) rfl))) (List.mem_cons_of_mem _ (List.mem_append_left _ (List.mem_of_getElem? (i := 13) rfl))) (List.mem_cons_of_mem _ (List.mem_append_left _ (List.mem_of_getElem? (i := 4) rfl))) (fun w9 h9 => ⟨(List.mem_cons_of_mem _ (List.mem_append_right _ (List.mem_append_right _ (List.mem_append_right _ (List.mem_append_right _ (List.mem_append_right _ (List.mem_append_left _ h9))))))), gd_c_findEarliest w9 h9⟩)) rfl rfl rfl kVX6_findEarliest ⟨Nat.le_of_ble_eq_true rfl, Nat.le_of_ble_eq_true rfl⟩) (preV_p (As := [.int 0]) (hP.sub (ws' := [(pn, .inr (7, [.ref bk, .ref bd, n1, .ref pe, .ref pm, n2, n3, .ref pt, .ref pb, .ref px, .ref pg, .int 0, .int y, .int 0])), (bd, .inr (1, [.ref bk, b1, b2, b3, b4, b5])), (bk, .inr (2, [.ref ca, v1, v2, v3, v4, v5])), (ca, .inl (gI G, 2088, .inl bk0))]) [0, 1, 2, 3] rfl) hB rfl rfl) rfl rfl hl.1 rfl (lv_room (Nat.le_of_ble_eq_true rfl)) dX6_planDay_26 ⟨Nat.le_of_ble_eq_true rfl, Nat.le_of_ble_eq_true rfl⟩)) (fun _ => ?_)
  refine W.eq (g2 := F0 m 29 ls []) rfl ?_
  refine lv_iinc (v := 1) (lv' := [(3, .int 1), (0, .ref pn), (1, .int x), (2, .int y)]) hx hb dX6_planDay_29 hl (k := 0) rfl (by decide) (by decide) rfl (fun ls hl => ?_)
  refine lv_goto (tgt := 19) hx hb dX6_planDay_32 (by decide) ?_
  refine lv_iload_n hx hb dX6_planDay_19 rfl (lv_at hl 0 rfl) ?_
  refine lv_iconst (v := 4) hx hb dX6_planDay_20 (by decide) ?_
  refine lv_icmp_ge (tgt := 35) hx hb dX6_planDay_21 (by decide) (fun c9 => absurd c9 (by decide)) (fun _ => ?_)
  refine lv_aload_n hx hb dX6_planDay_24 rfl (lv_at hl 1 rfl) ?_
  refine lv_iload_n hx hb dX6_planDay_25 rfl (lv_at hl 0 rfl) ?_
  refine va_csv (va_Run.run (va_runV (As := [.int 1]) (rest := []) ⟨hx, hb, hml, hown, hts⟩ (c_findEarliest l G pn bk bd n1 pe pm n2 n3 pt pb px pg b1 b2 b3 b4 b5 ca v1 v2 v3 v4 v5 y 1 (by decide) (by decide)) (cwV 1 hts (gdV (List.mem_cons_of_mem _ (List.mem_append_left _ (List.mem_of_getElem? (i := 11) rfl))) (List.mem_cons_of_mem _ (List.mem_append_left _ (List.mem_of_getElem? (i := 12) rfl))) (List.mem_cons_of_mem _ (List.mem_append_left _ (List.mem_of_getElem? (i := 13) rfl))) (List.mem_cons_of_mem _ (List.mem_append_left _ (List.mem_of_getElem? (i := 4) rfl))) (fun w9 h9 => ⟨(List.mem_cons_of_mem _ (List.mem_append_right _ (List.mem_append_right _ (List.mem_append_right _ (List.mem_append_right _ (List.mem_append_right _ (List.mem_append_left _ h9))))))), gd_c_findEarliest w9 h9⟩)) rfl rfl rfl kVX6_findEarliest ⟨Nat.le_of_ble_eq_true rfl, Nat.le_of_ble_eq_true rfl⟩) (preV_p (As := [.int 1]) (hP.sub (ws' := [(pn, .inr (7, [.ref bk, .ref bd, n1, .ref pe, .ref pm, n2, n3, .ref pt, .ref pb, .ref px, .ref pg, .int 0, .int y, .int 0])), (bd, .inr (1, [.ref bk, b1, b2, b3, b4, b5])), (bk, .inr (2, [.ref ca, v1, v2, v3, v4, v5])), (ca, .inl (gI G, 2088, .inl bk0))]) [0, 1, 2, 3] rfl) hB rfl rfl) rfl rfl hl.1 rfl (lv_room (Nat.le_of_ble_eq_true rfl)) dX6_planDay_26 ⟨Nat.le_of_ble_eq_true rfl, Nat.le_of_ble_eq_true rfl⟩)) (fun _ => ?_)
  refine W.eq (g2 := F0 m 29 ls []) rfl ?_
  refine lv_iinc (v := 2) (lv' := [(3, .int 2), (0, .ref pn), (1, .int x), (2, .int y)]) hx hb dX6_planDay_29 hl (k := 0) rfl (by decide) (by decide) rfl (fun ls hl => ?_)
  refine lv_goto (tgt := 19) hx hb dX6_planDay_32 (by decide) ?_
  refine lv_iload_n hx hb dX6_planDay_19 rfl (lv_at hl 0 rfl) ?_
  refine lv_iconst (v := 4) hx hb dX6_planDay_20 (by decide) ?_
  refine lv_icmp_ge (tgt := 35) hx hb dX6_planDay_21 (by decide) (fun c9 => absurd c9 (by decide)) (fun _ => ?_)
  refine lv_aload_n hx hb dX6_planDay_24 rfl (lv_at hl 1 rfl) ?_
  refine lv_iload_n hx hb dX6_planDay_25 rfl (lv_at hl 0 rfl) ?_
  refine va_csv (va_Run.run (va_runV (As := [.int 2]) (rest := []) ⟨hx, hb, hml, hown, hts⟩ (c_findEarliest l G pn bk bd n1 pe pm n2 n3 pt pb px pg b1 b2 b3 b4 b5 ca v1 v2 v3 v4 v5 y 2 (by decide) (by decide)) (cwV 1 hts (gdV (List.mem_cons_of_mem _ (List.mem_append_left _ (List.mem_of_getElem? (i := 11) rfl))) (List.mem_cons_of_mem _ (List.mem_append_left _ (List.mem_of_getElem? (i := 12) rfl))) (List.mem_cons_of_mem _ (List.mem_append_left _ (List.mem_of_getElem? (i := 13) rfl))) (List.mem_cons_of_mem _ (List.mem_append_left _ (List.mem_of_getElem? (i := 4) rfl))) (fun w9 h9 => ⟨(List.mem_cons_of_mem _ (List.mem_append_right _ (List.mem_append_right _ (List.mem_append_right _ (List.mem_append_right _ (List.mem_append_right _ (List.mem_append_left _ h9))))))), gd_c_findEarliest w9 h9⟩)) rfl rfl rfl kVX6_findEarliest ⟨Nat.le_of_ble_eq_true rfl, Nat.le_of_ble_eq_true rfl⟩) (preV_p (As := [.int 2]) (hP.sub (ws' := [(pn, .inr (7, [.ref bk, .ref bd, n1, .ref pe, .ref pm, n2, n3, .ref pt, .ref pb, .ref px, .ref pg, .int 0, .int y, .int 0])), (bd, .inr (1, [.ref bk, b1, b2, b3, b4, b5])), (bk, .inr (2, [.ref ca, v1, v2, v3, v4, v5])), (ca, .inl (gI G, 2088, .inl bk0))]) [0, 1, 2, 3] rfl) hB rfl rfl) rfl rfl hl.1 rfl (lv_room (Nat.le_of_ble_eq_true rfl)) dX6_planDay_26 ⟨Nat.le_of_ble_eq_true rfl, Nat.le_of_ble_eq_true rfl⟩)) (fun _ => ?_)
  refine W.eq (g2 := F0 m 29 ls []) rfl ?_
  refine lv_iinc (v := 3) (lv' := [(3, .int 3), (0, .ref pn), (1, .int x), (2, .int y)]) hx hb dX6_planDay_29 hl (k := 0) rfl (by decide) (by decide) rfl (fun ls hl => ?_)
  refine lv_goto (tgt := 19) hx hb dX6_planDay_32 (by decide) ?_
  refine lv_iload_n hx hb dX6_planDay_19 rfl (lv_at hl 0 rfl) ?_
  refine lv_iconst (v := 4) hx hb dX6_planDay_20 (by decide) ?_
  refine lv_icmp_ge (tgt := 35) hx hb dX6_planDay_21 (by decide) (fun c9 => absurd c9 (by decide)) (fun _ => ?_)
  refine lv_aload_n hx hb dX6_planDay_24 rfl (lv_at hl 1 rfl) ?_
  refine lv_iload_n hx hb dX6_planDay_25 rfl (lv_at hl 0 rfl) ?_
  refine va_csv (va_Run.run (va_runV (As := [.int 3]) (rest := []) ⟨hx, hb, hml, hown, hts⟩ (c_findEarliest l G pn bk bd n1 pe pm n2 n3 pt pb px pg b1 b2 b3 b4 b5 ca v1 v2 v3 v4 v5 y 3 (by decide) (by decide)) (cwV 1 hts (gdV (List.mem_cons_of_mem _ (List.mem_append_left _ (List.mem_of_getElem? (i := 11) rfl))) (List.mem_cons_of_mem _ (List.mem_append_left _ (List.mem_of_getElem? (i := 12) rfl))) (List.mem_cons_of_mem _ (List.mem_append_left _ (List.mem_of_getElem? (i := 13) rfl))) (List.mem_cons_of_mem _ (List.mem_append_left _ (List.mem_of_getElem? (i := 4) rfl))) (fun w9 h9 => ⟨(List.mem_cons_of_mem _ (List.mem_append_right _ (List.mem_append_right _ (List.mem_append_right _ (List.mem_append_right _ (List.mem_append_right _ (List.mem_append_left _ h9))))))), gd_c_findEarliest w9 h9⟩)) rfl rfl rfl kVX6_findEarliest ⟨Nat.le_of_ble_eq_true rfl, Nat.le_of_ble_eq_true rfl⟩) (preV_p (As := [.int 3]) (hP.sub (ws' := [(pn, .inr (7, [.ref bk, .ref bd, n1, .ref pe, .ref pm, n2, n3, .ref pt, .ref pb, .ref px, .ref pg, .int 0, .int y, .int 0])), (bd, .inr (1, [.ref bk, b1, b2, b3, b4, b5])), (bk, .inr (2, [.ref ca, v1, v2, v3, v4, v5])), (ca, .inl (gI G, 2088, .inl bk0))]) [0, 1, 2, 3] rfl) hB rfl rfl) rfl rfl hl.1 rfl (lv_room (Nat.le_of_ble_eq_true rfl)) dX6_planDay_26 ⟨Nat.le_of_ble_eq_true rfl, Nat.le_of_ble_eq_true rfl⟩)) (fun _ => ?_)
  refine W.eq (g2 := F0 m 29 ls []) rfl ?_
  refine lv_iinc (v := 4) (lv' := [(3, .int 4), (0, .ref pn), (1, .int x), (2, .int y)]) hx hb dX6_planDay_29 hl (k := 0) rfl (by decide) (by decide) rfl (fun ls hl => ?_)
  refine lv_goto (tgt := 19) hx hb dX6_planDay_32 (by decide) ?_
  refine lv_iload_n hx hb dX6_planDay_19 rfl (lv_at hl 0 rfl) ?_
  refine lv_iconst (v := 4) hx hb dX6_planDay_20 (by decide) ?_
  refine lv_icmp_ge (tgt := 35) hx hb dX6_planDay_21 (by decide) (fun _ => ?_) (fun c9 => absurd (by decide) c9)
  refine lv_aload_n hx hb dX6_planDay_35 rfl (lv_at hl 1 rfl) ?_
  refine va_get (D := gD G) (ci := 7) (v := .ref bk) (C := RX6) (T := TX6) (N := 14) hx hb hts (fun _ h9 => (List.mem_cons_of_mem _ (List.mem_append_right _ (List.mem_append_left _ h9)))) hown hK hP 0 rfl rfl 0 (by decide) (hts (.fieldLink RX6 9 "JudoHall$Planner" "book" "LJudoHall$Book;") (List.mem_cons_of_mem _ (List.mem_append_left _ (List.mem_of_getElem? (i := 14) rfl)))) (fun _ h9 => h9) rfl dX6_planDay_36 ?_
  refine lv_iconst (v := 0) hx hb dX6_planDay_39 (by decide) ?_
  refine vp_callSi (va_Run.run (va_runV (As := [.int 0]) (rest := []) ⟨hx, hb, hml, hown, hts⟩ (c_Book_at l G bk ca 2088 bk0 v1 v2 v3 v4 v5 0 (by decide)) (cwV 1 hts (gdV (List.mem_cons_of_mem _ (List.mem_append_left _ (List.mem_of_getElem? (i := 15) rfl))) (List.mem_cons_of_mem _ (List.mem_append_left _ (List.mem_of_getElem? (i := 16) rfl))) (List.mem_cons_of_mem _ (List.mem_append_left _ (List.mem_of_getElem? (i := 17) rfl))) (List.mem_cons_of_mem _ (List.mem_append_left _ (List.mem_of_getElem? (i := 18) rfl))) (fun w9 h9 => ⟨(List.mem_cons_of_mem _ (List.mem_append_right _ (List.mem_append_right _ (List.mem_append_right _ (List.mem_append_right _ (List.mem_append_right _ (List.mem_append_right _ (List.mem_append_left _ h9)))))))), gd_c_Book_at w9 h9⟩)) rfl rfl rfl kVX1_at ⟨Nat.le_of_ble_eq_true rfl, Nat.le_of_ble_eq_true rfl⟩) (preV_p (As := [.int 0]) (hP.sub (ws' := [(bk, .inr (2, [.ref ca, v1, v2, v3, v4, v5])), (ca, .inl (gI G, 2088, .inl bk0))]) [2, 3] rfl) hB rfl rfl) rfl rfl hl.1 rfl (lv_room (Nat.le_of_ble_eq_true rfl)) dX6_planDay_40 ⟨Nat.le_of_ble_eq_true rfl, Nat.le_of_ble_eq_true rfl⟩)) (fun r_8 hr_8 => ?_)
  have hr_8 : r_8 = 0 := hr_8.trans (by decide +kernel)
  subst hr_8
  refine lv_istore_n (lv' := [(3, .int 0), (0, .ref pn), (1, .int x), (2, .int y)]) hx hb dX6_planDay_43 rfl hl (by decide) rfl (fun ls hl => ?_)
  refine lv_iconst (v := 0) hx hb dX6_planDay_44 (by decide) ?_
  refine lv_istore (lv' := [(4, .int 0), (3, .int 0), (0, .ref pn), (1, .int x), (2, .int y)]) hx hb dX6_planDay_45 hl (by decide) rfl (fun ls hl => ?_)
  refine lv_iload hx hb dX6_planDay_47 (lv_at hl 0 rfl) ?_
  refine lv_sipush (v := 296) hx hb dX6_planDay_49 (by decide) ?_
  refine lv_icmp_ge (tgt := 93) hx hb dX6_planDay_52 (by decide) (fun c9 => absurd c9 (by decide)) (fun _ => ?_)
  refine lv_aload_n hx hb dX6_planDay_55 rfl (lv_at hl 2 rfl) ?_
  refine va_get (D := gD G) (ci := 7) (v := .int 0) (C := RX6) (T := TX6) (N := 14) hx hb hts (fun _ h9 => (List.mem_cons_of_mem _ (List.mem_append_right _ (List.mem_append_left _ h9)))) hown hK hP 0 rfl rfl 11 (by decide) (hts (.fieldLink RX6 84 "JudoHall$Planner" "ordered" "I") (List.mem_cons_of_mem _ (List.mem_append_left _ (List.mem_of_getElem? (i := 19) rfl)))) (fun _ h9 => h9) rfl dX6_planDay_56 ?_
  refine lv_if_le (tgt := 93) hx hb dX6_planDay_59 (by decide) (fun _ => ?_) (fun c9 => absurd (by decide) c9)
  refine lv_aload_n hx hb dX6_planDay_93 rfl (lv_at hl 2 rfl) ?_
  refine va_get (D := gD G) (ci := 7) (v := .int 0) (C := RX6) (T := TX6) (N := 14) hx hb hts (fun _ h9 => (List.mem_cons_of_mem _ (List.mem_append_right _ (List.mem_append_left _ h9)))) hown hK hP 0 rfl rfl 13 (by decide) (hts (.fieldLink RX6 102 "JudoHall$Planner" "lastEnd" "I") (List.mem_cons_of_mem _ (List.mem_append_left _ (List.mem_of_getElem? (i := 20) rfl)))) (fun _ h9 => h9) rfl dX6_planDay_94 ?_
  refine lv_ldc (v := 100000) hx hb hown (hts (.constant RX6 105 (100000)) (List.mem_cons_of_mem _ (List.mem_append_left _ (List.mem_of_getElem? (i := 21) rfl)))) dX6_planDay_97 ?_
  refine lv_icmp_le (tgt := 104) hx hb dX6_planDay_99 (by decide) (fun _ => ?_) (fun c9 => absurd (by decide) c9)
  refine lv_aload_n hx hb dX6_planDay_104 rfl (lv_at hl 2 rfl) ?_
  have hPc := hP.sub (ws' := [(pn, .inr (7, [.ref bk, .ref bd, n1, .ref pe, .ref pm, n2, n3, .ref pt, .ref pb, .ref px, .ref pg, .int 0, .int y, .int 0]))]) [0] rfl
  have hDc := hD.sub (ws' := [(pn, .inr (7, [.ref bk, .ref bd, n1, .ref pe, .ref pm, n2, n3, .ref pt, .ref pb, .ref px, .ref pg, .int 0, .int y, .int 0]))]) [0] (by decide) rfl
  have hFc := va_free (wc := [(pn, .inr (7, [.ref bk, .ref bd, n1, .ref pe, .ref pm, n2, n3, .ref pt, .ref pb, .ref px, .ref pg, .int 0, .int y, .int 0]))]) hD hS hA [0] rfl
  refine va_callv (va_runV (As := []) (rest := []) ⟨hx, hb, hml, hown, hts⟩ (c_keep l G pn bk bd n1 pe pm n2 n3 pt pb px pg y H.size) (cwV 0 hts (gdV (List.mem_cons_of_mem _ (List.mem_append_left _ (List.mem_of_getElem? (i := 22) rfl))) (List.mem_cons_of_mem _ (List.mem_append_left _ (List.mem_of_getElem? (i := 23) rfl))) (List.mem_cons_of_mem _ (List.mem_append_left _ (List.mem_of_getElem? (i := 24) rfl))) (List.mem_cons_of_mem _ (List.mem_append_left _ (List.mem_of_getElem? (i := 4) rfl))) (fun w9 h9 => ⟨(List.mem_cons_of_mem _ (List.mem_append_right _ (List.mem_append_right _ (List.mem_append_right _ (List.mem_append_right _ (List.mem_append_right _ (List.mem_append_right _ (List.mem_append_right _ (List.mem_append_left _ h9))))))))), gd_c_keep w9 h9⟩)) rfl rfl rfl kVX6_keep ⟨Nat.le_of_ble_eq_true rfl, Nat.le_of_ble_eq_true rfl⟩) (preV_m (As := []) hPc hB hDc rfl rfl) rfl rfl hl.1 rfl (lv_room (Nat.le_of_ble_eq_true rfl)) dX6_planDay_105 ⟨Nat.le_of_ble_eq_true rfl, Nat.le_of_ble_eq_true rfl⟩) hS (fun q _ h => hFc q h) hFc (fun u t H1 locs ht hvm hw hB1 hz1 hk1 hS => ?_)
  obtain ⟨q_10, q_11, q_12, q_13, q_14, q_15, q_16, q_17, q_18, q_19, q_20, hP1, hD1⟩ := hB1
  rw [ht] at hP1
  obtain ⟨hP, hD⟩ := va_join (wr := [(bd, .inr (1, [.ref bk, b1, b2, b3, b4, b5])), (bk, .inr (2, [.ref ca, v1, v2, v3, v4, v5])), (ca, .inl (gI G, 2088, .inl bk0))]) (w1 := [(pn, .inr (7, [q_10, q_11, q_12, q_13, q_14, q_15, q_16, q_17, q_18, q_19, q_20, .int 0, .int y, .int 0]))]) hP hD [0] [1, 2, 3] rfl rfl (by decide) (by decide) hk1 hFc hP1 hD1
  generalize H1 = H at hP hS ⊢
  have hP : va_P (gD G) vwCl [(bd, .inr (1, [.ref bk, b1, b2, b3, b4, b5])), (bk, .inr (2, [.ref ca, v1, v2, v3, v4, v5])), (ca, .inl (gI G, 2088, .inl bk0)), (pn, .inr (7, [q_10, q_11, q_12, q_13, q_14, q_15, q_16, q_17, q_18, q_19, q_20, .int 0, .int y, .int 0]))] H := hP
  have hD : va_D A [(bd, .inr (1, [.ref bk, b1, b2, b3, b4, b5])), (bk, .inr (2, [.ref ca, v1, v2, v3, v4, v5])), (ca, .inl (gI G, 2088, .inl bk0)), (pn, .inr (7, [q_10, q_11, q_12, q_13, q_14, q_15, q_16, q_17, q_18, q_19, q_20, .int 0, .int y, .int 0]))] := hD
  refine W.eq (g2 := F0 m 108 ls []) rfl ?_
  refine lv_aload_n hx hb dX6_planDay_108 rfl (lv_at hl 2 rfl) ?_
  refine va_get (D := gD G) (ci := 7) (v := .int 0) (C := RX6) (T := TX6) (N := 14) hx hb hts (fun _ h9 => (List.mem_cons_of_mem _ (List.mem_append_right _ (List.mem_append_left _ h9)))) hown hK hP 3 rfl rfl 13 (by decide) (hts (.fieldLink RX6 102 "JudoHall$Planner" "lastEnd" "I") (List.mem_cons_of_mem _ (List.mem_append_left _ (List.mem_of_getElem? (i := 20) rfl)))) (fun _ h9 => h9) rfl dX6_planDay_109 ?_
  have hP9 := hP.sub (ws' := []) [] rfl
  have hD9 := hD.sub (ws' := []) [] (by decide) rfl
  exact W.iret (v := 0) hx hb hr (fun t ht hW => ⟨⟨_, (), rfl, rfl, by rw [ht]; exact hP9, hD9⟩, hS.F ht⟩) hS.2.2 dX6_planDay_112
