def wo_g_member : List Cond := [.fieldLink RX7 9 "JudoHall$Podium" "book" "LJudoHall$Book;", .methodLink RX7 62 yX1_ofClass, .static yX1_ofClass, .initialized RX1, .methodLink RX7 65 yX1_at, .instanceMethod yX1_at, .selects RX1 yX1_at yX1_at]
def wq_g_member : List Cond := .code yX7_member cX7_member 3 (some .int) :: (wo_g_member ++ (wsX70 ++ (wq_c_Book_ofClass ++ (wq_c_Book_at ++ []))))
theorem gd_g_member : ∀ w ∈ wq_g_member, Gd w := List.forall_mem_cons.mpr ⟨Or.inl rfl, List.forall_mem_append.mpr ⟨gdl wo_g_member (by decide +kernel), (List.forall_mem_append.mpr ⟨gd_wsX70, (List.forall_mem_append.mpr ⟨gd_c_Book_ofClass, (List.forall_mem_append.mpr ⟨gd_c_Book_at, (fun _ h => absurd h List.not_mem_nil)⟩)⟩)⟩)⟩⟩
theorem in_g_member : ∀ w ∈ wq_g_member, w ∈ lw_tbl := List.forall_mem_cons.mpr ⟨List.mem_of_getElem? (i := 1400) (by decide +kernel), List.forall_mem_append.mpr ⟨inT wo_g_member [463, 1401, 219, 155, 1395, 623, 624] (by decide +kernel), (List.forall_mem_append.mpr ⟨in_wsX70, (List.forall_mem_append.mpr ⟨in_c_Book_ofClass, (List.forall_mem_append.mpr ⟨in_c_Book_at, (fun _ h => absurd h List.not_mem_nil)⟩)⟩)⟩)⟩⟩
set_option maxHeartbeats 4000000 in
set_option maxRecDepth 100000 in
theorem g_member (l : Launch) (G : gG) (pd : Nat) (bk : Nat) (ca : Nat) (f : Nat → Int32) (v1 : Value) (v2 : Value) (v3 : Value) (v4 : Value) (v5 : Value) (d_b : Value) (d_w : Value) (d_s : Value) (x : Int32) (y : Int32) : Met l yX7_member wq_g_member ({ frames := 1, cells := 0, slots := 0, locals := 21 }) (va_Pc [.ref pd, .int x, .int y] (pP G [(pd, .inr (8, [.ref bk, d_b, d_w, d_s])), (bk, .inr (2, [.ref ca, v1, v2, v3, v4, v5])), (ca, .inl (gI G, 2088, .inl f))])) (vp_Si (fun r : Int32 => True)) 0 0 (fun _ => False) := by
  refine Met.ofW (cc := cX7_member) (maxL := 3) (ret := (some .int)) (by decide) rfl ?_
  intro p e s m args below meth c s₁ B hml hv
  obtain ⟨rfl, hP, hB⟩ := hv
  have hx := B.exec
  have hb := B.bytes
  have hr := B.returns
  have hts := atoms_spec (ws := wq_g_member) B.pre
  have hown : s.vm.findClass RX7 = some m.cls := findClass_of_methodNamed B.named
  have hlocks := B.notSynchronized
  have hK := hB.1
  have hP : va_P (gD G) vwCl [(pd, .inr (8, [.ref bk, d_b, d_w, d_s])), (bk, .inr (2, [.ref ca, v1, v2, v3, v4, v5])), (ca, .inl (gI G, 2088, .inl f))] s.heap := hP
  have hl := lv_entry ([.ref pd, .int x, .int y]) (n := 3) (Nat.le_of_ble_eq_true rfl)
  rw [lg_entry_eq]
  generalize (lg_sl ([.ref pd, .int x, .int y]) ++ List.replicate (3 - (lg_sl ([.ref pd, .int x, .int y])).length) Slot.unset).toArray = ls at hl ⊢
  have hl : lv_has ls 3 [(0, .ref pd), (1, .int x), (2, .int y)] := hl
  refine lv_aload_n hx hb dX7_member_0 rfl (lv_at hl 0 rfl) ?_
  refine va_get (D := gD G) (ci := 8) (v := .ref bk) (C := RX7) (T := TX7) (N := 4) hx hb hts (fun _ h9 => (List.mem_cons_of_mem _ (List.mem_append_right _ (List.mem_append_left _ h9)))) hown hK hP 0 rfl rfl 0 (by decide) (hts (.fieldLink RX7 9 "JudoHall$Podium" "book" "LJudoHall$Book;") (List.mem_cons_of_mem _ (List.mem_append_left _ (List.mem_of_getElem? (i := 0) rfl)))) (fun _ h9 => h9) rfl dX7_member_1 ?_
  refine lv_iload_n hx hb dX7_member_4 rfl (lv_at hl 1 rfl) ?_
  refine lv_iconst (v := 4) hx hb dX7_member_5 (by decide) ?_
  refine lv_iload_n hx hb dX7_member_6 rfl (lv_at hl 2 rfl) ?_
  refine lv_iadd hx hb dX7_member_7 ?_
  refine vp_callSi (va_Run.run (va_runS (As := [.int x, .int (4 + y)]) (rest := [.ref bk]) ⟨hx, hb, hml, hown, hts⟩ (c_Book_ofClass l G x (4 + y)) (va_cwS 2 hts (gdS (List.mem_cons_of_mem _ (List.mem_append_left _ (List.mem_of_getElem? (i := 1) rfl))) (List.mem_cons_of_mem _ (List.mem_append_left _ (List.mem_of_getElem? (i := 2) rfl))) (List.mem_cons_of_mem _ (List.mem_append_left _ (List.mem_of_getElem? (i := 3) rfl))) (fun w9 h9 => ⟨(List.mem_cons_of_mem _ (List.mem_append_right _ (List.mem_append_right _ (List.mem_append_left _ h9)))), gd_c_Book_ofClass w9 h9⟩)) rfl rfl rfl kSX1_ofClass ⟨Nat.le_of_ble_eq_true rfl, Nat.le_of_ble_eq_true rfl⟩) (preS_p (As := [.int x, .int (4 + y)]) (hP.sub (ws' := []) [] rfl) hB) rfl rfl hl.1 rfl (lv_room (Nat.le_of_ble_eq_true rfl)) dX7_member_8 ⟨Nat.le_of_ble_eq_true rfl, Nat.le_of_ble_eq_true rfl⟩)) (fun r_1 hr_1 => ?_)
  subst hr_1
  refine vp_callSi (va_Run.run (va_runV (As := [.int (4 + x * 36 + (4 + y))]) (rest := []) ⟨hx, hb, hml, hown, hts⟩ (c_Book_at l G bk ca 2088 f v1 v2 v3 v4 v5 (4 + x * 36 + (4 + y)) (by decide)) (cwV 1 hts (gdV (List.mem_cons_of_mem _ (List.mem_append_left _ (List.mem_of_getElem? (i := 4) rfl))) (List.mem_cons_of_mem _ (List.mem_append_left _ (List.mem_of_getElem? (i := 5) rfl))) (List.mem_cons_of_mem _ (List.mem_append_left _ (List.mem_of_getElem? (i := 6) rfl))) (List.mem_cons_of_mem _ (List.mem_append_left _ (List.mem_of_getElem? (i := 3) rfl))) (fun w9 h9 => ⟨(List.mem_cons_of_mem _ (List.mem_append_right _ (List.mem_append_right _ (List.mem_append_right _ (List.mem_append_left _ h9))))), gd_c_Book_at w9 h9⟩)) rfl rfl rfl kVX1_at ⟨Nat.le_of_ble_eq_true rfl, Nat.le_of_ble_eq_true rfl⟩) (preV_p (As := [.int (4 + x * 36 + (4 + y))]) (hP.sub (ws' := [(bk, .inr (2, [.ref ca, v1, v2, v3, v4, v5])), (ca, .inl (gI G, 2088, .inl f))]) [1, 2] rfl) hB rfl rfl) rfl rfl hl.1 rfl (lv_room (Nat.le_of_ble_eq_true rfl)) dX7_member_11 ⟨Nat.le_of_ble_eq_true rfl, Nat.le_of_ble_eq_true rfl⟩)) (fun r_2 hr_2 => ?_)
  subst hr_2
  exact W.iret (v := (rg f 2088 (4 + x * 36 + (4 + y)))) hx hb hr (fun t ht hW => ⟨_, rfl, trivial, ht⟩) (fun q h => absurd h List.not_mem_nil) dX7_member_14

def wo_g_areAlike : List Cond := [.fieldLink RX7 24 "JudoHall$Podium" "wins" "LJudoHall$Row;", .methodLink RX7 71 yX9_get, .instanceMethod yX9_get, .selects RX9 yX9_get yX9_get, .initialized RX9, .fieldLink RX7 28 "JudoHall$Podium" "sums" "LJudoHall$Row;"]
def wq_g_areAlike : List Cond := .code yX7_areAlike cX7_areAlike 3 (some .boolean) :: (wo_g_areAlike ++ (wsX70 ++ (wq_c_Row_get ++ [])))
theorem gd_g_areAlike : ∀ w ∈ wq_g_areAlike, Gd w := List.forall_mem_cons.mpr ⟨Or.inl rfl, List.forall_mem_append.mpr ⟨gdl wo_g_areAlike (by decide +kernel), (List.forall_mem_append.mpr ⟨gd_wsX70, (List.forall_mem_append.mpr ⟨gd_c_Row_get, (fun _ h => absurd h List.not_mem_nil)⟩)⟩)⟩⟩
theorem in_g_areAlike : ∀ w ∈ wq_g_areAlike, w ∈ lw_tbl := List.forall_mem_cons.mpr ⟨List.mem_of_getElem? (i := 1409) (by decide +kernel), List.forall_mem_append.mpr ⟨inT wo_g_areAlike [465, 1392, 643, 644, 156, 466] (by decide +kernel), (List.forall_mem_append.mpr ⟨in_wsX70, (List.forall_mem_append.mpr ⟨in_c_Row_get, (fun _ h => absurd h List.not_mem_nil)⟩)⟩)⟩⟩
set_option maxHeartbeats 4000000 in
set_option maxRecDepth 100000 in
theorem g_areAlike (l : Launch) (G : gG) (pd : Nat) (d_k : Value) (d_b : Value) (ws : Nat) (ws2 : Nat) (fws : Nat → Int32) (ss : Nat) (ss2 : Nat) (fss : Nat → Int32) (x : Int32) (y : Int32) : Met l yX7_areAlike wq_g_areAlike ({ frames := 1, cells := 0, slots := 0, locals := 21 }) (va_Pc [.ref pd, .int x, .int y] (pP G [(pd, .inr (8, [d_k, d_b, .ref ws, .ref ss])), (ws, .inr (10, [.ref ws2])), (ws2, .inl (gI G, 96, .inl fws)), (ss, .inr (10, [.ref ss2])), (ss2, .inl (gI G, 96, .inl fss))])) (vp_Si (fun r : Int32 => r = 0 ∨ r = 1)) 0 0 (fun _ => False) := by
  refine Met.ofW (cc := cX7_areAlike) (maxL := 3) (ret := (some .boolean)) (by decide) rfl ?_
  intro p e s m args below meth c s₁ B hml hv
  obtain ⟨rfl, hP, hB⟩ := hv
  have hx := B.exec
  have hb := B.bytes
  have hr := B.returns
  have hts := atoms_spec (ws := wq_g_areAlike) B.pre
  have hown : s.vm.findClass RX7 = some m.cls := findClass_of_methodNamed B.named
  have hlocks := B.notSynchronized
  have hK := hB.1
  have hP : va_P (gD G) vwCl [(pd, .inr (8, [d_k, d_b, .ref ws, .ref ss])), (ws, .inr (10, [.ref ws2])), (ws2, .inl (gI G, 96, .inl fws)), (ss, .inr (10, [.ref ss2])), (ss2, .inl (gI G, 96, .inl fss))] s.heap := hP
  have hl := lv_entry ([.ref pd, .int x, .int y]) (n := 3) (Nat.le_of_ble_eq_true rfl)
  rw [lg_entry_eq]
  generalize (lg_sl ([.ref pd, .int x, .int y]) ++ List.replicate (3 - (lg_sl ([.ref pd, .int x, .int y])).length) Slot.unset).toArray = ls at hl ⊢
  have hl : lv_has ls 3 [(0, .ref pd), (1, .int x), (2, .int y)] := hl
  refine lv_aload_n hx hb dX7_areAlike_0 rfl (lv_at hl 0 rfl) ?_
  refine va_get (D := gD G) (ci := 8) (v := .ref ws) (C := RX7) (T := TX7) (N := 4) hx hb hts (fun _ h9 => (List.mem_cons_of_mem _ (List.mem_append_right _ (List.mem_append_left _ h9)))) hown hK hP 0 rfl rfl 2 (by decide) (hts (.fieldLink RX7 24 "JudoHall$Podium" "wins" "LJudoHall$Row;") (List.mem_cons_of_mem _ (List.mem_append_left _ (List.mem_of_getElem? (i := 0) rfl)))) (fun _ h9 => h9) rfl dX7_areAlike_1 ?_
  refine lv_iload_n hx hb dX7_areAlike_4 rfl (lv_at hl 1 rfl) ?_
  refine vp_callSi (va_Run.run (va_runV (As := [.int x]) (rest := []) ⟨hx, hb, hml, hown, hts⟩ (c_Row_get l G ws ws2 96 fws x (by decide)) (cwV 1 hts (gdV (List.mem_cons_of_mem _ (List.mem_append_left _ (List.mem_of_getElem? (i := 1) rfl))) (List.mem_cons_of_mem _ (List.mem_append_left _ (List.mem_of_getElem? (i := 2) rfl))) (List.mem_cons_of_mem _ (List.mem_append_left _ (List.mem_of_getElem? (i := 3) rfl))) (List.mem_cons_of_mem _ (List.mem_append_left _ (List.mem_of_getElem? (i := 4) rfl))) (fun w9 h9 => ⟨(List.mem_cons_of_mem _ (List.mem_append_right _ (List.mem_append_right _ (List.mem_append_left _ h9)))), gd_c_Row_get w9 h9⟩)) rfl rfl rfl kVX9_get ⟨Nat.le_of_ble_eq_true rfl, Nat.le_of_ble_eq_true rfl⟩) (preV_p (As := [.int x]) (hP.sub (ws' := [(ws, .inr (10, [.ref ws2])), (ws2, .inl (gI G, 96, .inl fws))]) [1, 2] rfl) hB rfl rfl) rfl rfl hl.1 rfl (lv_room (Nat.le_of_ble_eq_true rfl)) dX7_areAlike_5 ⟨Nat.le_of_ble_eq_true rfl, Nat.le_of_ble_eq_true rfl⟩)) (fun r_1 hr_1 => ?_)
  subst hr_1
  refine lv_aload_n hx hb dX7_areAlike_8 rfl (lv_at hl 0 rfl) ?_
  refine va_get (D := gD G) (ci := 8) (v := .ref ws) (C := RX7) (T := TX7) (N := 4) hx hb hts (fun _ h9 => (List.mem_cons_of_mem _ (List.mem_append_right _ (List.mem_append_left _ h9)))) hown hK hP 0 rfl rfl 2 (by decide) (hts (.fieldLink RX7 24 "JudoHall$Podium" "wins" "LJudoHall$Row;") (List.mem_cons_of_mem _ (List.mem_append_left _ (List.mem_of_getElem? (i := 0) rfl)))) (fun _ h9 => h9) rfl dX7_areAlike_9 ?_
  refine lv_iload_n hx hb dX7_areAlike_12 rfl (lv_at hl 2 rfl) ?_
  refine vp_callSi (va_Run.run (va_runV (As := [.int y]) (rest := [.int (rg fws 96 x)]) ⟨hx, hb, hml, hown, hts⟩ (c_Row_get l G ws ws2 96 fws y (by decide)) (cwV 1 hts (gdV (List.mem_cons_of_mem _ (List.mem_append_left _ (List.mem_of_getElem? (i := 1) rfl))) (List.mem_cons_of_mem _ (List.mem_append_left _ (List.mem_of_getElem? (i := 2) rfl))) (List.mem_cons_of_mem _ (List.mem_append_left _ (List.mem_of_getElem? (i := 3) rfl))) (List.mem_cons_of_mem _ (List.mem_append_left _ (List.mem_of_getElem? (i := 4) rfl))) (fun w9 h9 => ⟨(List.mem_cons_of_mem _ (List.mem_append_right _ (List.mem_append_right _ (List.mem_append_left _ h9)))), gd_c_Row_get w9 h9⟩)) rfl rfl rfl kVX9_get ⟨Nat.le_of_ble_eq_true rfl, Nat.le_of_ble_eq_true rfl⟩) (preV_p (As := [.int y]) (hP.sub (ws' := [(ws, .inr (10, [.ref ws2])), (ws2, .inl (gI G, 96, .inl fws))]) [1, 2] rfl) hB rfl rfl) rfl rfl hl.1 rfl (lv_room (Nat.le_of_ble_eq_true rfl)) dX7_areAlike_13 ⟨Nat.le_of_ble_eq_true rfl, Nat.le_of_ble_eq_true rfl⟩)) (fun r_2 hr_2 => ?_)
  subst hr_2
  refine lv_icmp_ne (tgt := 42) hx hb dX7_areAlike_16 (by decide) (fun c_3 => ?_) (fun c_3 => ?_)
  · skip
    refine lv_iconst (v := 0) hx hb dX7_areAlike_42 (by decide) ?_
    exact W.zret (v := 0) hx hb hr rfl (fun t ht hW => ⟨_, rfl, Or.inl rfl, ht⟩) (fun q h => absurd h List.not_mem_nil) dX7_areAlike_43
  · skip
    refine lv_aload_n hx hb dX7_areAlike_19 rfl (lv_at hl 0 rfl) ?_
    refine va_get (D := gD G) (ci := 8) (v := .ref ss) (C := RX7) (T := TX7) (N := 4) hx hb hts (fun _ h9 => (List.mem_cons_of_mem _ (List.mem_append_right _ (List.mem_append_left _ h9)))) hown hK hP 0 rfl rfl 3 (by decide) (hts (.fieldLink RX7 28 "JudoHall$Podium" "sums" "LJudoHall$Row;") (List.mem_cons_of_mem _ (List.mem_append_left _ (List.mem_of_getElem? (i := 5) rfl)))) (fun _ h9 => h9) rfl dX7_areAlike_20 ?_
    refine lv_iload_n hx hb dX7_areAlike_23 rfl (lv_at hl 1 rfl) ?_
    refine vp_callSi (va_Run.run (va_runV (As := [.int x]) (rest := []) ⟨hx, hb, hml, hown, hts⟩ (c_Row_get l G ss ss2 96 fss x (by decide)) (cwV 1 hts (gdV (List.mem_cons_of_mem _ (List.mem_append_left _ (List.mem_of_getElem? (i := 1) rfl))) (List.mem_cons_of_mem _ (List.mem_append_left _ (List.mem_of_getElem? (i := 2) rfl))) (List.mem_cons_of_mem _ (List.mem_append_left _ (List.mem_of_getElem? (i := 3) rfl))) (List.mem_cons_of_mem _ (List.mem_append_left _ (List.mem_of_getElem? (i := 4) rfl))) (fun w9 h9 => ⟨(List.mem_cons_of_mem _ (List.mem_append_right _ (List.mem_append_right _ (List.mem_append_left _ h9)))), gd_c_Row_get w9 h9⟩)) rfl rfl rfl kVX9_get ⟨Nat.le_of_ble_eq_true rfl, Nat.le_of_ble_eq_true rfl⟩) (preV_p (As := [.int x]) (hP.sub (ws' := [(ss, .inr (10, [.ref ss2])), (ss2, .inl (gI G, 96, .inl fss))]) [3, 4] rfl) hB rfl rfl) rfl rfl hl.1 rfl (lv_room (Nat.le_of_ble_eq_true rfl)) dX7_areAlike_24 ⟨Nat.le_of_ble_eq_true rfl, Nat.le_of_ble_eq_true rfl⟩)) (fun r_4 hr_4 => ?_)
    subst hr_4
    refine lv_aload_n hx hb dX7_areAlike_27 rfl (lv_at hl 0 rfl) ?_
    refine va_get (D := gD G) (ci := 8) (v := .ref ss) (C := RX7) (T := TX7) (N := 4) hx hb hts (fun _ h9 => (List.mem_cons_of_mem _ (List.mem_append_right _ (List.mem_append_left _ h9)))) hown hK hP 0 rfl rfl 3 (by decide) (hts (.fieldLink RX7 28 "JudoHall$Podium" "sums" "LJudoHall$Row;") (List.mem_cons_of_mem _ (List.mem_append_left _ (List.mem_of_getElem? (i := 5) rfl)))) (fun _ h9 => h9) rfl dX7_areAlike_28 ?_
    refine lv_iload_n hx hb dX7_areAlike_31 rfl (lv_at hl 2 rfl) ?_
    refine vp_callSi (va_Run.run (va_runV (As := [.int y]) (rest := [.int (rg fss 96 x)]) ⟨hx, hb, hml, hown, hts⟩ (c_Row_get l G ss ss2 96 fss y (by decide)) (cwV 1 hts (gdV (List.mem_cons_of_mem _ (List.mem_append_left _ (List.mem_of_getElem? (i := 1) rfl))) (List.mem_cons_of_mem _ (List.mem_append_left _ (List.mem_of_getElem? (i := 2) rfl))) (List.mem_cons_of_mem _ (List.mem_append_left _ (List.mem_of_getElem? (i := 3) rfl))) (List.mem_cons_of_mem _ (List.mem_append_left _ (List.mem_of_getElem? (i := 4) rfl))) (fun w9 h9 => ⟨(List.mem_cons_of_mem _ (List.mem_append_right _ (List.mem_append_right _ (List.mem_append_left _ h9)))), gd_c_Row_get w9 h9⟩)) rfl rfl rfl kVX9_get ⟨Nat.le_of_ble_eq_true rfl, Nat.le_of_ble_eq_true rfl⟩) (preV_p (As := [.int y]) (hP.sub (ws' := [(ss, .inr (10, [.ref ss2])), (ss2, .inl (gI G, 96, .inl fss))]) [3, 4] rfl) hB rfl rfl) rfl rfl hl.1 rfl (lv_room (Nat.le_of_ble_eq_true rfl)) dX7_areAlike_32 ⟨Nat.le_of_ble_eq_true rfl, Nat.le_of_ble_eq_true rfl⟩)) (fun r_5 hr_5 => ?_)
    subst hr_5
    refine lv_icmp_ne (tgt := 42) hx hb dX7_areAlike_35 (by decide) (fun c_6 => ?_) (fun c_6 => ?_)
    · skip
      refine lv_iconst (v := 0) hx hb dX7_areAlike_42 (by decide) ?_
      exact W.zret (v := 0) hx hb hr rfl (fun t ht hW => ⟨_, rfl, Or.inl rfl, ht⟩) (fun q h => absurd h List.not_mem_nil) dX7_areAlike_43
    · skip
      refine lv_iconst (v := 1) hx hb dX7_areAlike_38 (by decide) ?_
      refine lv_goto (tgt := 43) hx hb dX7_areAlike_39 (by decide) ?_
      exact W.zret (v := 1) hx hb hr rfl (fun t ht hW => ⟨_, rfl, Or.inr rfl, ht⟩) (fun q h => absurd h List.not_mem_nil) dX7_areAlike_43

def wo_g_hasMore : List Cond := [.fieldLink RX7 24 "JudoHall$Podium" "wins" "LJudoHall$Row;", .methodLink RX7 71 yX9_get, .instanceMethod yX9_get, .selects RX9 yX9_get yX9_get, .initialized RX9, .fieldLink RX7 28 "JudoHall$Podium" "sums" "LJudoHall$Row;"]
def wq_g_hasMore : List Cond := .code yX7_hasMore cX7_hasMore 3 (some .boolean) :: (wo_g_hasMore ++ (wsX70 ++ (wq_c_Row_get ++ [])))
theorem gd_g_hasMore : ∀ w ∈ wq_g_hasMore, Gd w := List.forall_mem_cons.mpr ⟨Or.inl rfl, List.forall_mem_append.mpr ⟨gdl wo_g_hasMore (by decide +kernel), (List.forall_mem_append.mpr ⟨gd_wsX70, (List.forall_mem_append.mpr ⟨gd_c_Row_get, (fun _ h => absurd h List.not_mem_nil)⟩)⟩)⟩⟩
theorem in_g_hasMore : ∀ w ∈ wq_g_hasMore, w ∈ lw_tbl := List.forall_mem_cons.mpr ⟨List.mem_of_getElem? (i := 1426) (by decide +kernel), List.forall_mem_append.mpr ⟨inT wo_g_hasMore [465, 1392, 643, 644, 156, 466] (by decide +kernel), (List.forall_mem_append.mpr ⟨in_wsX70, (List.forall_mem_append.mpr ⟨in_c_Row_get, (fun _ h => absurd h List.not_mem_nil)⟩)⟩)⟩⟩
set_option maxHeartbeats 4000000 in
set_option maxRecDepth 100000 in
theorem g_hasMore (l : Launch) (G : gG) (pd : Nat) (d_k : Value) (d_b : Value) (ws : Nat) (ws2 : Nat) (fws : Nat → Int32) (ss : Nat) (ss2 : Nat) (fss : Nat → Int32) (x : Int32) (y : Int32) : Met l yX7_hasMore wq_g_hasMore ({ frames := 1, cells := 0, slots := 0, locals := 21 }) (va_Pc [.ref pd, .int x, .int y] (pP G [(pd, .inr (8, [d_k, d_b, .ref ws, .ref ss])), (ws, .inr (10, [.ref ws2])), (ws2, .inl (gI G, 96, .inl fws)), (ss, .inr (10, [.ref ss2])), (ss2, .inl (gI G, 96, .inl fss))])) (vp_Si (fun r : Int32 => r = 0 ∨ r = 1)) 0 0 (fun _ => False) := by
  refine Met.ofW (cc := cX7_hasMore) (maxL := 3) (ret := (some .boolean)) (by decide) rfl ?_
  intro p e s m args below meth c s₁ B hml hv
  obtain ⟨rfl, hP, hB⟩ := hv
  have hx := B.exec
  have hb := B.bytes
  have hr := B.returns
  have hts := atoms_spec (ws := wq_g_hasMore) B.pre
  have hown : s.vm.findClass RX7 = some m.cls := findClass_of_methodNamed B.named
  have hlocks := B.notSynchronized
  have hK := hB.1
  have hP : va_P (gD G) vwCl [(pd, .inr (8, [d_k, d_b, .ref ws, .ref ss])), (ws, .inr (10, [.ref ws2])), (ws2, .inl (gI G, 96, .inl fws)), (ss, .inr (10, [.ref ss2])), (ss2, .inl (gI G, 96, .inl fss))] s.heap := hP
  have hl := lv_entry ([.ref pd, .int x, .int y]) (n := 3) (Nat.le_of_ble_eq_true rfl)
  rw [lg_entry_eq]
  generalize (lg_sl ([.ref pd, .int x, .int y]) ++ List.replicate (3 - (lg_sl ([.ref pd, .int x, .int y])).length) Slot.unset).toArray = ls at hl ⊢
  have hl : lv_has ls 3 [(0, .ref pd), (1, .int x), (2, .int y)] := hl
  refine lv_aload_n hx hb dX7_hasMore_0 rfl (lv_at hl 0 rfl) ?_
  refine va_get (D := gD G) (ci := 8) (v := .ref ws) (C := RX7) (T := TX7) (N := 4) hx hb hts (fun _ h9 => (List.mem_cons_of_mem _ (List.mem_append_right _ (List.mem_append_left _ h9)))) hown hK hP 0 rfl rfl 2 (by decide) (hts (.fieldLink RX7 24 "JudoHall$Podium" "wins" "LJudoHall$Row;") (List.mem_cons_of_mem _ (List.mem_append_left _ (List.mem_of_getElem? (i := 0) rfl)))) (fun _ h9 => h9) rfl dX7_hasMore_1 ?_
  refine lv_iload_n hx hb dX7_hasMore_4 rfl (lv_at hl 1 rfl) ?_
  refine vp_callSi (va_Run.run (va_runV (As := [.int x]) (rest := []) ⟨hx, hb, hml, hown, hts⟩ (c_Row_get l G ws ws2 96 fws x (by decide)) (cwV 1 hts (gdV (List.mem_cons_of_mem _ (List.mem_append_left _ (List.mem_of_getElem? (i := 1) rfl))) (List.mem_cons_of_mem _ (List.mem_append_left _ (List.mem_of_getElem? (i := 2) rfl))) (List.mem_cons_of_mem _ (List.mem_append_left _ (List.mem_of_getElem? (i := 3) rfl))) (List.mem_cons_of_mem _ (List.mem_append_left _ (List.mem_of_getElem? (i := 4) rfl))) (fun w9 h9 => ⟨(List.mem_cons_of_mem _ (List.mem_append_right _ (List.mem_append_right _ (List.mem_append_left _ h9)))), gd_c_Row_get w9 h9⟩)) rfl rfl rfl kVX9_get ⟨Nat.le_of_ble_eq_true rfl, Nat.le_of_ble_eq_true rfl⟩) (preV_p (As := [.int x]) (hP.sub (ws' := [(ws, .inr (10, [.ref ws2])), (ws2, .inl (gI G, 96, .inl fws))]) [1, 2] rfl) hB rfl rfl) rfl rfl hl.1 rfl (lv_room (Nat.le_of_ble_eq_true rfl)) dX7_hasMore_5 ⟨Nat.le_of_ble_eq_true rfl, Nat.le_of_ble_eq_true rfl⟩)) (fun r_1 hr_1 => ?_)
  subst hr_1
  refine lv_aload_n hx hb dX7_hasMore_8 rfl (lv_at hl 0 rfl) ?_
  refine va_get (D := gD G) (ci := 8) (v := .ref ws) (C := RX7) (T := TX7) (N := 4) hx hb hts (fun _ h9 => (List.mem_cons_of_mem _ (List.mem_append_right _ (List.mem_append_left _ h9)))) hown hK hP 0 rfl rfl 2 (by decide) (hts (.fieldLink RX7 24 "JudoHall$Podium" "wins" "LJudoHall$Row;") (List.mem_cons_of_mem _ (List.mem_append_left _ (List.mem_of_getElem? (i := 0) rfl)))) (fun _ h9 => h9) rfl dX7_hasMore_9 ?_
  refine lv_iload_n hx hb dX7_hasMore_12 rfl (lv_at hl 2 rfl) ?_
  refine vp_callSi (va_Run.run (va_runV (As := [.int y]) (rest := [.int (rg fws 96 x)]) ⟨hx, hb, hml, hown, hts⟩ (c_Row_get l G ws ws2 96 fws y (by decide)) (cwV 1 hts (gdV (List.mem_cons_of_mem _ (List.mem_append_left _ (List.mem_of_getElem? (i := 1) rfl))) (List.mem_cons_of_mem _ (List.mem_append_left _ (List.mem_of_getElem? (i := 2) rfl))) (List.mem_cons_of_mem _ (List.mem_append_left _ (List.mem_of_getElem? (i := 3) rfl))) (List.mem_cons_of_mem _ (List.mem_append_left _ (List.mem_of_getElem? (i := 4) rfl))) (fun w9 h9 => ⟨(List.mem_cons_of_mem _ (List.mem_append_right _ (List.mem_append_right _ (List.mem_append_left _ h9)))), gd_c_Row_get w9 h9⟩)) rfl rfl rfl kVX9_get ⟨Nat.le_of_ble_eq_true rfl, Nat.le_of_ble_eq_true rfl⟩) (preV_p (As := [.int y]) (hP.sub (ws' := [(ws, .inr (10, [.ref ws2])), (ws2, .inl (gI G, 96, .inl fws))]) [1, 2] rfl) hB rfl rfl) rfl rfl hl.1 rfl (lv_room (Nat.le_of_ble_eq_true rfl)) dX7_hasMore_13 ⟨Nat.le_of_ble_eq_true rfl, Nat.le_of_ble_eq_true rfl⟩)) (fun r_2 hr_2 => ?_)
  subst hr_2
  refine lv_icmp_eq (tgt := 44) hx hb dX7_hasMore_16 (by decide) (fun c_3 => ?_) (fun c_3 => ?_)
  · skip
    refine lv_aload_n hx hb dX7_hasMore_44 rfl (lv_at hl 0 rfl) ?_
    refine va_get (D := gD G) (ci := 8) (v := .ref ss) (C := RX7) (T := TX7) (N := 4) hx hb hts (fun _ h9 => (List.mem_cons_of_mem _ (List.mem_append_right _ (List.mem_append_left _ h9)))) hown hK hP 0 rfl rfl 3 (by decide) (hts (.fieldLink RX7 28 "JudoHall$Podium" "sums" "LJudoHall$Row;") (List.mem_cons_of_mem _ (List.mem_append_left _ (List.mem_of_getElem? (i := 5) rfl)))) (fun _ h9 => h9) rfl dX7_hasMore_45 ?_
    refine lv_iload_n hx hb dX7_hasMore_48 rfl (lv_at hl 1 rfl) ?_
    refine vp_callSi (va_Run.run (va_runV (As := [.int x]) (rest := []) ⟨hx, hb, hml, hown, hts⟩ (c_Row_get l G ss ss2 96 fss x (by decide)) (cwV 1 hts (gdV (List.mem_cons_of_mem _ (List.mem_append_left _ (List.mem_of_getElem? (i := 1) rfl))) (List.mem_cons_of_mem _ (List.mem_append_left _ (List.mem_of_getElem? (i := 2) rfl))) (List.mem_cons_of_mem _ (List.mem_append_left _ (List.mem_of_getElem? (i := 3) rfl))) (List.mem_cons_of_mem _ (List.mem_append_left _ (List.mem_of_getElem? (i := 4) rfl))) (fun w9 h9 => ⟨(List.mem_cons_of_mem _ (List.mem_append_right _ (List.mem_append_right _ (List.mem_append_left _ h9)))), gd_c_Row_get w9 h9⟩)) rfl rfl rfl kVX9_get ⟨Nat.le_of_ble_eq_true rfl, Nat.le_of_ble_eq_true rfl⟩) (preV_p (As := [.int x]) (hP.sub (ws' := [(ss, .inr (10, [.ref ss2])), (ss2, .inl (gI G, 96, .inl fss))]) [3, 4] rfl) hB rfl rfl) rfl rfl hl.1 rfl (lv_room (Nat.le_of_ble_eq_true rfl)) dX7_hasMore_49 ⟨Nat.le_of_ble_eq_true rfl, Nat.le_of_ble_eq_true rfl⟩)) (fun r_4 hr_4 => ?_)
    subst hr_4
    refine lv_aload_n hx hb dX7_hasMore_52 rfl (lv_at hl 0 rfl) ?_
    refine va_get (D := gD G) (ci := 8) (v := .ref ss) (C := RX7) (T := TX7) (N := 4) hx hb hts (fun _ h9 => (List.mem_cons_of_mem _ (List.mem_append_right _ (List.mem_append_left _ h9)))) hown hK hP 0 rfl rfl 3 (by decide) (hts (.fieldLink RX7 28 "JudoHall$Podium" "sums" "LJudoHall$Row;") (List.mem_cons_of_mem _ (List.mem_append_left _ (List.mem_of_getElem? (i := 5) rfl)))) (fun _ h9 => h9) rfl dX7_hasMore_53 ?_
    refine lv_iload_n hx hb dX7_hasMore_56 rfl (lv_at hl 2 rfl) ?_
    refine vp_callSi (va_Run.run (va_runV (As := [.int y]) (rest := [.int (rg fss 96 x)]) ⟨hx, hb, hml, hown, hts⟩ (c_Row_get l G ss ss2 96 fss y (by decide)) (cwV 1 hts (gdV (List.mem_cons_of_mem _ (List.mem_append_left _ (List.mem_of_getElem? (i := 1) rfl))) (List.mem_cons_of_mem _ (List.mem_append_left _ (List.mem_of_getElem? (i := 2) rfl))) (List.mem_cons_of_mem _ (List.mem_append_left _ (List.mem_of_getElem? (i := 3) rfl))) (List.mem_cons_of_mem _ (List.mem_append_left _ (List.mem_of_getElem? (i := 4) rfl))) (fun w9 h9 => ⟨(List.mem_cons_of_mem _ (List.mem_append_right _ (List.mem_append_right _ (List.mem_append_left _ h9)))), gd_c_Row_get w9 h9⟩)) rfl rfl rfl kVX9_get ⟨Nat.le_of_ble_eq_true rfl, Nat.le_of_ble_eq_true rfl⟩) (preV_p (As := [.int y]) (hP.sub (ws' := [(ss, .inr (10, [.ref ss2])), (ss2, .inl (gI G, 96, .inl fss))]) [3, 4] rfl) hB rfl rfl) rfl rfl hl.1 rfl (lv_room (Nat.le_of_ble_eq_true rfl)) dX7_hasMore_57 ⟨Nat.le_of_ble_eq_true rfl, Nat.le_of_ble_eq_true rfl⟩)) (fun r_5 hr_5 => ?_)
    subst hr_5
    refine lv_icmp_le (tgt := 67) hx hb dX7_hasMore_60 (by decide) (fun c_6 => ?_) (fun c_6 => ?_)
    · skip
      refine lv_iconst (v := 0) hx hb dX7_hasMore_67 (by decide) ?_
      exact W.zret (v := 0) hx hb hr rfl (fun t ht hW => ⟨_, rfl, Or.inl rfl, ht⟩) (fun q h => absurd h List.not_mem_nil) dX7_hasMore_68
    · skip
      refine lv_iconst (v := 1) hx hb dX7_hasMore_63 (by decide) ?_
      refine lv_goto (tgt := 68) hx hb dX7_hasMore_64 (by decide) ?_
      exact W.zret (v := 1) hx hb hr rfl (fun t ht hW => ⟨_, rfl, Or.inr rfl, ht⟩) (fun q h => absurd h List.not_mem_nil) dX7_hasMore_68
  · skip
    refine lv_aload_n hx hb dX7_hasMore_19 rfl (lv_at hl 0 rfl) ?_
    refine va_get (D := gD G) (ci := 8) (v := .ref ws) (C := RX7) (T := TX7) (N := 4) hx hb hts (fun _ h9 => (List.mem_cons_of_mem _ (List.mem_append_right _ (List.mem_append_left _ h9)))) hown hK hP 0 rfl rfl 2 (by decide) (hts (.fieldLink RX7 24 "JudoHall$Podium" "wins" "LJudoHall$Row;") (List.mem_cons_of_mem _ (List.mem_append_left _ (List.mem_of_getElem? (i := 0) rfl)))) (fun _ h9 => h9) rfl dX7_hasMore_20 ?_
    refine lv_iload_n hx hb dX7_hasMore_23 rfl (lv_at hl 1 rfl) ?_
    refine vp_callSi (va_Run.run (va_runV (As := [.int x]) (rest := []) ⟨hx, hb, hml, hown, hts⟩ (c_Row_get l G ws ws2 96 fws x (by decide)) (cwV 1 hts (gdV (List.mem_cons_of_mem _ (List.mem_append_left _ (List.mem_of_getElem? (i := 1) rfl))) (List.mem_cons_of_mem _ (List.mem_append_left _ (List.mem_of_getElem? (i := 2) rfl))) (List.mem_cons_of_mem _ (List.mem_append_left _ (List.mem_of_getElem? (i := 3) rfl))) (List.mem_cons_of_mem _ (List.mem_append_left _ (List.mem_of_getElem? (i := 4) rfl))) (fun w9 h9 => ⟨(List.mem_cons_of_mem _ (List.mem_append_right _ (List.mem_append_right _ (List.mem_append_left _ h9)))), gd_c_Row_get w9 h9⟩)) rfl rfl rfl kVX9_get ⟨Nat.le_of_ble_eq_true rfl, Nat.le_of_ble_eq_true rfl⟩) (preV_p (As := [.int x]) (hP.sub (ws' := [(ws, .inr (10, [.ref ws2])), (ws2, .inl (gI G, 96, .inl fws))]) [1, 2] rfl) hB rfl rfl) rfl rfl hl.1 rfl (lv_room (Nat.le_of_ble_eq_true rfl)) dX7_hasMore_24 ⟨Nat.le_of_ble_eq_true rfl, Nat.le_of_ble_eq_true rfl⟩)) (fun r_7 hr_7 => ?_)
    subst hr_7
    refine lv_aload_n hx hb dX7_hasMore_27 rfl (lv_at hl 0 rfl) ?_
    refine va_get (D := gD G) (ci := 8) (v := .ref ws) (C := RX7) (T := TX7) (N := 4) hx hb hts (fun _ h9 => (List.mem_cons_of_mem _ (List.mem_append_right _ (List.mem_append_left _ h9)))) hown hK hP 0 rfl rfl 2 (by decide) (hts (.fieldLink RX7 24 "JudoHall$Podium" "wins" "LJudoHall$Row;") (List.mem_cons_of_mem _ (List.mem_append_left _ (List.mem_of_getElem? (i := 0) rfl)))) (fun _ h9 => h9) rfl dX7_hasMore_28 ?_
    refine lv_iload_n hx hb dX7_hasMore_31 rfl (lv_at hl 2 rfl) ?_
    refine vp_callSi (va_Run.run (va_runV (As := [.int y]) (rest := [.int (rg fws 96 x)]) ⟨hx, hb, hml, hown, hts⟩ (c_Row_get l G ws ws2 96 fws y (by decide)) (cwV 1 hts (gdV (List.mem_cons_of_mem _ (List.mem_append_left _ (List.mem_of_getElem? (i := 1) rfl))) (List.mem_cons_of_mem _ (List.mem_append_left _ (List.mem_of_getElem? (i := 2) rfl))) (List.mem_cons_of_mem _ (List.mem_append_left _ (List.mem_of_getElem? (i := 3) rfl))) (List.mem_cons_of_mem _ (List.mem_append_left _ (List.mem_of_getElem? (i := 4) rfl))) (fun w9 h9 => ⟨(List.mem_cons_of_mem _ (List.mem_append_right _ (List.mem_append_right _ (List.mem_append_left _ h9)))), gd_c_Row_get w9 h9⟩)) rfl rfl rfl kVX9_get ⟨Nat.le_of_ble_eq_true rfl, Nat.le_of_ble_eq_true rfl⟩) (preV_p (As := [.int y]) (hP.sub (ws' := [(ws, .inr (10, [.ref ws2])), (ws2, .inl (gI G, 96, .inl fws))]) [1, 2] rfl) hB rfl rfl) rfl rfl hl.1 rfl (lv_room (Nat.le_of_ble_eq_true rfl)) dX7_hasMore_32 ⟨Nat.le_of_ble_eq_true rfl, Nat.le_of_ble_eq_true rfl⟩)) (fun r_8 hr_8 => ?_)
    subst hr_8
    refine lv_icmp_le (tgt := 42) hx hb dX7_hasMore_35 (by decide) (fun c_9 => ?_) (fun c_9 => ?_)
    · skip
      refine lv_iconst (v := 0) hx hb dX7_hasMore_42 (by decide) ?_
      exact W.zret (v := 0) hx hb hr rfl (fun t ht hW => ⟨_, rfl, Or.inl rfl, ht⟩) (fun q h => absurd h List.not_mem_nil) dX7_hasMore_43
    · skip
      refine lv_iconst (v := 1) hx hb dX7_hasMore_38 (by decide) ?_
      refine lv_goto (tgt := 43) hx hb dX7_hasMore_39 (by decide) ?_
      exact W.zret (v := 1) hx hb hr rfl (fun t ht hW => ⟨_, rfl, Or.inr rfl, ht⟩) (fun q h => absurd h List.not_mem_nil) dX7_hasMore_43

def wo_g_beat : List Cond := [.fieldLink RX7 15 "JudoHall$Podium" "board" "LJudoHall$Board;", .methodLink RX7 37 yX0_fightsOf, .instanceMethod yX0_fightsOf, .selects RX0 yX0_fightsOf yX0_fightsOf, .initialized RX0, .methodLink RX7 40 yX0_winnerOf, .instanceMethod yX0_winnerOf, .selects RX0 yX0_winnerOf yX0_winnerOf, .methodLink RX7 44 yX0_loserOf, .instanceMethod yX0_loserOf, .selects RX0 yX0_loserOf yX0_loserOf]
def wq_g_beat : List Cond := .code yX7_beat cX7_beat 5 (some .boolean) :: (wo_g_beat ++ (wsX70 ++ (wq_g_BfightsOf ++ (wq_g_BwinnerOf ++ (wq_g_BloserOf ++ [])))))
theorem gd_g_beat : ∀ w ∈ wq_g_beat, Gd w := List.forall_mem_cons.mpr ⟨Or.inl rfl, List.forall_mem_append.mpr ⟨gdl wo_g_beat (by decide +kernel), (List.forall_mem_append.mpr ⟨gd_wsX70, (List.forall_mem_append.mpr ⟨gd_g_BfightsOf, (List.forall_mem_append.mpr ⟨gd_g_BwinnerOf, (List.forall_mem_append.mpr ⟨gd_g_BloserOf, (fun _ h => absurd h List.not_mem_nil)⟩)⟩)⟩)⟩)⟩⟩
theorem in_g_beat : ∀ w ∈ wq_g_beat, w ∈ lw_tbl := List.forall_mem_cons.mpr ⟨List.mem_of_getElem? (i := 1417) (by decide +kernel), List.forall_mem_append.mpr ⟨inT wo_g_beat [464, 1385, 1180, 1181, 164, 1391, 1155, 1156, 1418, 1419, 1420] (by decide +kernel), (List.forall_mem_append.mpr ⟨in_wsX70, (List.forall_mem_append.mpr ⟨in_g_BfightsOf, (List.forall_mem_append.mpr ⟨in_g_BwinnerOf, (List.forall_mem_append.mpr ⟨in_g_BloserOf, (fun _ h => absurd h List.not_mem_nil)⟩)⟩)⟩)⟩)⟩⟩
set_option maxHeartbeats 4000000 in
set_option maxRecDepth 100000 in
theorem g_beat (l : Launch) (G : gG) (pd : Nat) (d_w : Value) (d_s : Value) (bd : Nat) (bk : Nat) (ca : Nat) (f : Nat → Int32) (v1 : Value) (v2 : Value) (v3 : Value) (v4 : Value) (v5 : Value) (b_se : Value) (b_lo : Value) (wt : Nat) (wt2 : Nat) (fwt : Nat → Int32) (bl : Nat) (bl2 : Nat) (fbl : Nat → Int32) (wn : Nat) (wn2 : Nat) (fwn : Nat → Int32) (x : Int32) (y : Int32) (z : Int32) : Met l yX7_beat wq_g_beat ({ frames := 3, cells := 0, slots := 0, locals := 66 }) (va_Pc [.ref pd, .int x, .int y, .int z] (pP G [(pd, .inr (8, [.ref bk, .ref bd, d_w, d_s])), (bd, .inr (1, [.ref bk, .ref wt, .ref bl, .ref wn, b_se, b_lo])), (bk, .inr (2, [.ref ca, v1, v2, v3, v4, v5])), (ca, .inl (gI G, 2088, .inl f)), (wt, .inr (10, [.ref wt2])), (wt2, .inl (gI G, 148, .inl fwt)), (bl, .inr (10, [.ref bl2])), (bl2, .inl (gI G, 148, .inl fbl)), (wn, .inr (10, [.ref wn2])), (wn2, .inl (gI G, 148, .inl fwn))])) (vp_Si (fun r : Int32 => r = 0 ∨ r = 1)) 0 0 (fun _ => False) := by
  refine Met.ofW (cc := cX7_beat) (maxL := 5) (ret := (some .boolean)) (by decide) rfl ?_
  intro p e s m args below meth c s₁ B hml hv
  obtain ⟨rfl, hP, hB⟩ := hv
  have hx := B.exec
  have hb := B.bytes
  have hr := B.returns
  have hts := atoms_spec (ws := wq_g_beat) B.pre
  have hown : s.vm.findClass RX7 = some m.cls := findClass_of_methodNamed B.named
  have hlocks := B.notSynchronized
  have hK := hB.1
  have hP : va_P (gD G) vwCl [(pd, .inr (8, [.ref bk, .ref bd, d_w, d_s])), (bd, .inr (1, [.ref bk, .ref wt, .ref bl, .ref wn, b_se, b_lo])), (bk, .inr (2, [.ref ca, v1, v2, v3, v4, v5])), (ca, .inl (gI G, 2088, .inl f)), (wt, .inr (10, [.ref wt2])), (wt2, .inl (gI G, 148, .inl fwt)), (bl, .inr (10, [.ref bl2])), (bl2, .inl (gI G, 148, .inl fbl)), (wn, .inr (10, [.ref wn2])), (wn2, .inl (gI G, 148, .inl fwn))] s.heap := hP
  have hl := lv_entry ([.ref pd, .int x, .int y, .int z]) (n := 5) (Nat.le_of_ble_eq_true rfl)
  rw [lg_entry_eq]
  generalize (lg_sl ([.ref pd, .int x, .int y, .int z]) ++ List.replicate (5 - (lg_sl ([.ref pd, .int x, .int y, .int z])).length) Slot.unset).toArray = ls at hl ⊢
  have hl : lv_has ls 5 [(0, .ref pd), (1, .int x), (2, .int y), (3, .int z)] := hl
  refine lv_iconst (v := 0) hx hb dX7_beat_0 (by decide) ?_
  refine lv_istore (lv' := [(4, .int 0), (0, .ref pd), (1, .int x), (2, .int y), (3, .int z)]) hx hb dX7_beat_1 hl (by decide) rfl (fun ls hl => ?_)
  have hloop3 : ∀ (k9 : Nat) (k4 : Nat), (bfo f x).toNatClampNeg - k4 < k9 → (k4 ≤ (bfo f x).toNatClampNeg) → ∀ (ls : Array Slot), lv_has ls 5 [(4, .int (nI k4)), (0, .ref pd), (1, .int x), (2, .int y), (3, .int z)] → W p l e (headSpec wq_g_beat ({ frames := 3, cells := 0, slots := 0, locals := 66 })).room s m [.ref pd, .int x, .int y, .int z].toArray below meth c s.heap [] 0 0 (MQ below (vp_Si (fun r : Int32 => r = 0 ∨ r = 1)) [.ref pd, .int x, .int y, .int z].toArray s 0 0 (fun _ => False)) (F0 m 3 ls []) := by
    intro k9
    induction k9 with
    | zero => intro k4 h9; exact absurd h9 (Nat.not_lt_zero _)
    | succ k9 ih3 =>
      intro k4 hm3 hb_k4 ls hl
      refine lv_iload hx hb dX7_beat_3 (lv_at hl 0 rfl) ?_
      refine lv_aload_n hx hb dX7_beat_5 rfl (lv_at hl 1 rfl) ?_
      refine va_get (D := gD G) (ci := 8) (v := .ref bd) (C := RX7) (T := TX7) (N := 4) hx hb hts (fun _ h9 => (List.mem_cons_of_mem _ (List.mem_append_right _ (List.mem_append_left _ h9)))) hown hK hP 0 rfl rfl 1 (by decide) (hts (.fieldLink RX7 15 "JudoHall$Podium" "board" "LJudoHall$Board;") (List.mem_cons_of_mem _ (List.mem_append_left _ (List.mem_of_getElem? (i := 0) rfl)))) (fun _ h9 => h9) rfl dX7_beat_6 ?_
      refine lv_iload_n hx hb dX7_beat_9 rfl (lv_at hl 2 rfl) ?_
      refine vp_callSi (va_Run.run (va_runV (As := [.int x]) (rest := [.int (nI k4)]) ⟨hx, hb, hml, hown, hts⟩ (g_BfightsOf l G bd bk ca f v1 v2 v3 v4 v5 (.ref wt) (.ref bl) (.ref wn) b_se b_lo x) (cwV 1 hts (gdV (List.mem_cons_of_mem _ (List.mem_append_left _ (List.mem_of_getElem? (i := 1) rfl))) (List.mem_cons_of_mem _ (List.mem_append_left _ (List.mem_of_getElem? (i := 2) rfl))) (List.mem_cons_of_mem _ (List.mem_append_left _ (List.mem_of_getElem? (i := 3) rfl))) (List.mem_cons_of_mem _ (List.mem_append_left _ (List.mem_of_getElem? (i := 4) rfl))) (fun w9 h9 => ⟨(List.mem_cons_of_mem _ (List.mem_append_right _ (List.mem_append_right _ (List.mem_append_left _ h9)))), gd_g_BfightsOf w9 h9⟩)) rfl rfl rfl kVX0_fightsOf ⟨Nat.le_of_ble_eq_true rfl, Nat.le_of_ble_eq_true rfl⟩) (preV_p (As := [.int x]) (hP.sub (ws' := [(bd, .inr (1, [.ref bk, .ref wt, .ref bl, .ref wn, b_se, b_lo])), (bk, .inr (2, [.ref ca, v1, v2, v3, v4, v5])), (ca, .inl (gI G, 2088, .inl f))]) [1, 2, 3] rfl) hB rfl rfl) rfl rfl hl.1 rfl (lv_room (Nat.le_of_ble_eq_true rfl)) dX7_beat_10 ⟨Nat.le_of_ble_eq_true rfl, Nat.le_of_ble_eq_true rfl⟩)) (fun r_1 hr_1 => ?_)
      subst hr_1
      refine lv_icmp_ge (tgt := 52) hx hb dX7_beat_13 (by decide) (fun c_2 => ?_) (fun c_2 => ?_)
      · skip
        refine lv_iconst (v := 0) hx hb dX7_beat_52 (by decide) ?_
        exact W.zret (v := 0) hx hb hr rfl (fun t ht hW => ⟨_, rfl, Or.inl rfl, ht⟩) (fun q h => absurd h List.not_mem_nil) dX7_beat_53
      · have hl_k4 := gl_lt (B := bfo f x) hb_k4 c_2
        refine lv_aload_n hx hb dX7_beat_16 rfl (lv_at hl 1 rfl) ?_
        refine va_get (D := gD G) (ci := 8) (v := .ref bd) (C := RX7) (T := TX7) (N := 4) hx hb hts (fun _ h9 => (List.mem_cons_of_mem _ (List.mem_append_right _ (List.mem_append_left _ h9)))) hown hK hP 0 rfl rfl 1 (by decide) (hts (.fieldLink RX7 15 "JudoHall$Podium" "board" "LJudoHall$Board;") (List.mem_cons_of_mem _ (List.mem_append_left _ (List.mem_of_getElem? (i := 0) rfl)))) (fun _ h9 => h9) rfl dX7_beat_17 ?_
        refine lv_iload_n hx hb dX7_beat_20 rfl (lv_at hl 2 rfl) ?_
        refine lv_iload hx hb dX7_beat_21 (lv_at hl 0 rfl) ?_
        refine vp_callSi (va_Run.run (va_runV (As := [.int x, .int (nI k4)]) (rest := []) ⟨hx, hb, hml, hown, hts⟩ (g_BwinnerOf l G bd bk ca f v1 v2 v3 v4 v5 (.ref wt) (.ref bl) b_se b_lo wn wn2 fwn x (nI k4)) (cwV 2 hts (gdV (List.mem_cons_of_mem _ (List.mem_append_left _ (List.mem_of_getElem? (i := 5) rfl))) (List.mem_cons_of_mem _ (List.mem_append_left _ (List.mem_of_getElem? (i := 6) rfl))) (List.mem_cons_of_mem _ (List.mem_append_left _ (List.mem_of_getElem? (i := 7) rfl))) (List.mem_cons_of_mem _ (List.mem_append_left _ (List.mem_of_getElem? (i := 4) rfl))) (fun w9 h9 => ⟨(List.mem_cons_of_mem _ (List.mem_append_right _ (List.mem_append_right _ (List.mem_append_right _ (List.mem_append_left _ h9))))), gd_g_BwinnerOf w9 h9⟩)) rfl rfl rfl kVX0_winnerOf ⟨Nat.le_of_ble_eq_true rfl, Nat.le_of_ble_eq_true rfl⟩) (preV_p (As := [.int x, .int (nI k4)]) (hP.sub (ws' := [(bd, .inr (1, [.ref bk, .ref wt, .ref bl, .ref wn, b_se, b_lo])), (bk, .inr (2, [.ref ca, v1, v2, v3, v4, v5])), (ca, .inl (gI G, 2088, .inl f)), (wn, .inr (10, [.ref wn2])), (wn2, .inl (gI G, 148, .inl fwn))]) [1, 2, 3, 8, 9] rfl) hB rfl rfl) rfl rfl hl.1 rfl (lv_room (Nat.le_of_ble_eq_true rfl)) dX7_beat_23 ⟨Nat.le_of_ble_eq_true rfl, Nat.le_of_ble_eq_true rfl⟩)) (fun r_3 hr_3 => ?_)
        clear hr_3
        refine lv_iload_n hx hb dX7_beat_26 rfl (lv_at hl 3 rfl) ?_
        refine lv_icmp_ne (tgt := 46) hx hb dX7_beat_27 (by decide) (fun c_4 => ?_) (fun c_4 => ?_)
        · skip
          refine lv_iinc (v := (nI (k4 + 1))) (lv' := [(4, .int (nI (k4 + 1))), (0, .ref pd), (1, .int x), (2, .int y), (3, .int z)]) hx hb dX7_beat_46 hl (k := 0) rfl (nI_1 k4) (by decide) rfl (fun ls hl => ?_)
          refine lv_goto (tgt := 3) hx hb dX7_beat_49 (by decide) ?_
          exact ih3 (k4 + 1) (by omega) (hl_k4) _ (lv_sub hl [0, 1, 2, 3, 4] rfl) 
        · skip
          refine lv_aload_n hx hb dX7_beat_30 rfl (lv_at hl 1 rfl) ?_
          refine va_get (D := gD G) (ci := 8) (v := .ref bd) (C := RX7) (T := TX7) (N := 4) hx hb hts (fun _ h9 => (List.mem_cons_of_mem _ (List.mem_append_right _ (List.mem_append_left _ h9)))) hown hK hP 0 rfl rfl 1 (by decide) (hts (.fieldLink RX7 15 "JudoHall$Podium" "board" "LJudoHall$Board;") (List.mem_cons_of_mem _ (List.mem_append_left _ (List.mem_of_getElem? (i := 0) rfl)))) (fun _ h9 => h9) rfl dX7_beat_31 ?_
          refine lv_iload_n hx hb dX7_beat_34 rfl (lv_at hl 2 rfl) ?_
          refine lv_iload hx hb dX7_beat_35 (lv_at hl 0 rfl) ?_
          refine vp_callSi (va_Run.run (va_runV (As := [.int x, .int (nI k4)]) (rest := []) ⟨hx, hb, hml, hown, hts⟩ (g_BloserOf l G bd bk ca f v1 v2 v3 v4 v5 b_se b_lo wt wt2 fwt bl bl2 fbl wn wn2 fwn x (nI k4)) (cwV 2 hts (gdV (List.mem_cons_of_mem _ (List.mem_append_left _ (List.mem_of_getElem? (i := 8) rfl))) (List.mem_cons_of_mem _ (List.mem_append_left _ (List.mem_of_getElem? (i := 9) rfl))) (List.mem_cons_of_mem _ (List.mem_append_left _ (List.mem_of_getElem? (i := 10) rfl))) (List.mem_cons_of_mem _ (List.mem_append_left _ (List.mem_of_getElem? (i := 4) rfl))) (fun w9 h9 => ⟨(List.mem_cons_of_mem _ (List.mem_append_right _ (List.mem_append_right _ (List.mem_append_right _ (List.mem_append_right _ (List.mem_append_left _ h9)))))), gd_g_BloserOf w9 h9⟩)) rfl rfl rfl kVX0_loserOf ⟨Nat.le_of_ble_eq_true rfl, Nat.le_of_ble_eq_true rfl⟩) (preV_p (As := [.int x, .int (nI k4)]) (hP.sub (ws' := [(bd, .inr (1, [.ref bk, .ref wt, .ref bl, .ref wn, b_se, b_lo])), (bk, .inr (2, [.ref ca, v1, v2, v3, v4, v5])), (ca, .inl (gI G, 2088, .inl f)), (wt, .inr (10, [.ref wt2])), (wt2, .inl (gI G, 148, .inl fwt)), (bl, .inr (10, [.ref bl2])), (bl2, .inl (gI G, 148, .inl fbl)), (wn, .inr (10, [.ref wn2])), (wn2, .inl (gI G, 148, .inl fwn))]) [1, 2, 3, 4, 5, 6, 7, 8, 9] rfl) hB rfl rfl) rfl rfl hl.1 rfl (lv_room (Nat.le_of_ble_eq_true rfl)) dX7_beat_37 ⟨Nat.le_of_ble_eq_true rfl, Nat.le_of_ble_eq_true rfl⟩)) (fun r_5 hr_5 => ?_)
          clear hr_5
          refine lv_iload_n hx hb dX7_beat_40 rfl (lv_at hl 4 rfl) ?_
          refine lv_icmp_ne (tgt := 46) hx hb dX7_beat_41 (by decide) (fun c_6 => ?_) (fun c_6 => ?_)
          · skip
            refine lv_iinc (v := (nI (k4 + 1))) (lv' := [(4, .int (nI (k4 + 1))), (0, .ref pd), (1, .int x), (2, .int y), (3, .int z)]) hx hb dX7_beat_46 hl (k := 0) rfl (nI_1 k4) (by decide) rfl (fun ls hl => ?_)
            refine lv_goto (tgt := 3) hx hb dX7_beat_49 (by decide) ?_
            exact ih3 (k4 + 1) (by omega) (hl_k4) _ (lv_sub hl [0, 1, 2, 3, 4] rfl) 
          · skip
            refine lv_iconst (v := 1) hx hb dX7_beat_44 (by decide) ?_
            exact W.zret (v := 1) hx hb hr rfl (fun t ht hW => ⟨_, rfl, Or.inr rfl, ht⟩) (fun q h => absurd h List.not_mem_nil) dX7_beat_45
  exact hloop3 (((bfo f x).toNatClampNeg - 0) + 1) 0 (Nat.lt_succ_self _) (Nat.zero_le _) _ (lv_sub hl [0, 1, 2, 3, 4] rfl)

def wo_g_breaksTie : List Cond := [.fieldLink RX7 9 "JudoHall$Podium" "book" "LJudoHall$Book;", .methodLink RX7 96 yX1_ofFighter, .static yX1_ofFighter, .initialized RX1, .methodLink RX7 65 yX1_at, .instanceMethod yX1_at, .selects RX1 yX1_at yX1_at, .methodLink RX7 92 yX7_beat, .instanceMethod yX7_beat, .selects RX7 yX7_beat yX7_beat, .initialized RX7]
def wq_g_breaksTie : List Cond := .code yX7_breaksTie cX7_breaksTie 7 (some .boolean) :: (wo_g_breaksTie ++ (wsX70 ++ (wq_c_Book_ofFighter ++ (wq_c_Book_at ++ (wq_g_beat ++ [])))))
theorem gd_g_breaksTie : ∀ w ∈ wq_g_breaksTie, Gd w := List.forall_mem_cons.mpr ⟨Or.inl rfl, List.forall_mem_append.mpr ⟨gdl wo_g_breaksTie (by decide +kernel), (List.forall_mem_append.mpr ⟨gd_wsX70, (List.forall_mem_append.mpr ⟨gd_c_Book_ofFighter, (List.forall_mem_append.mpr ⟨gd_c_Book_at, (List.forall_mem_append.mpr ⟨gd_g_beat, (fun _ h => absurd h List.not_mem_nil)⟩)⟩)⟩)⟩)⟩⟩
theorem in_g_breaksTie : ∀ w ∈ wq_g_breaksTie, w ∈ lw_tbl := List.forall_mem_cons.mpr ⟨List.mem_of_getElem? (i := 1413) (by decide +kernel), List.forall_mem_append.mpr ⟨inT wo_g_breaksTie [463, 1422, 1010, 155, 1395, 623, 624, 1414, 1416, 64, 166] (by decide +kernel), (List.forall_mem_append.mpr ⟨in_wsX70, (List.forall_mem_append.mpr ⟨in_c_Book_ofFighter, (List.forall_mem_append.mpr ⟨in_c_Book_at, (List.forall_mem_append.mpr ⟨in_g_beat, (fun _ h => absurd h List.not_mem_nil)⟩)⟩)⟩)⟩)⟩⟩
set_option maxHeartbeats 4000000 in
set_option maxRecDepth 100000 in
theorem g_breaksTie (l : Launch) (G : gG) (pd : Nat) (d_w : Value) (d_s : Value) (bd : Nat) (bk : Nat) (ca : Nat) (f : Nat → Int32) (v1 : Value) (v2 : Value) (v3 : Value) (v4 : Value) (v5 : Value) (b_se : Value) (b_lo : Value) (wt : Nat) (wt2 : Nat) (fwt : Nat → Int32) (bl : Nat) (bl2 : Nat) (fbl : Nat → Int32) (wn : Nat) (wn2 : Nat) (fwn : Nat → Int32) (x : Int32) (y : Int32) (z : Int32) (t : Int32) : Met l yX7_breaksTie wq_g_breaksTie ({ frames := 4, cells := 0, slots := 0, locals := 90 }) (va_Pc [.ref pd, .int x, .int y, .int z, .int t] (pP G [(pd, .inr (8, [.ref bk, .ref bd, d_w, d_s])), (bd, .inr (1, [.ref bk, .ref wt, .ref bl, .ref wn, b_se, b_lo])), (bk, .inr (2, [.ref ca, v1, v2, v3, v4, v5])), (ca, .inl (gI G, 2088, .inl f)), (wt, .inr (10, [.ref wt2])), (wt2, .inl (gI G, 148, .inl fwt)), (bl, .inr (10, [.ref bl2])), (bl2, .inl (gI G, 148, .inl fbl)), (wn, .inr (10, [.ref wn2])), (wn2, .inl (gI G, 148, .inl fwn))])) (vp_Si (fun r : Int32 => r = 0 ∨ r = 1)) 0 0 (fun _ => False) := by
  refine Met.ofW (cc := cX7_breaksTie) (maxL := 7) (ret := (some .boolean)) (by decide) rfl ?_
  intro p e s m args below meth c s₁ B hml hv
  obtain ⟨rfl, hP, hB⟩ := hv
  have hx := B.exec
  have hb := B.bytes
  have hr := B.returns
  have hts := atoms_spec (ws := wq_g_breaksTie) B.pre
  have hown : s.vm.findClass RX7 = some m.cls := findClass_of_methodNamed B.named
  have hlocks := B.notSynchronized
  have hK := hB.1
  have hP : va_P (gD G) vwCl [(pd, .inr (8, [.ref bk, .ref bd, d_w, d_s])), (bd, .inr (1, [.ref bk, .ref wt, .ref bl, .ref wn, b_se, b_lo])), (bk, .inr (2, [.ref ca, v1, v2, v3, v4, v5])), (ca, .inl (gI G, 2088, .inl f)), (wt, .inr (10, [.ref wt2])), (wt2, .inl (gI G, 148, .inl fwt)), (bl, .inr (10, [.ref bl2])), (bl2, .inl (gI G, 148, .inl fbl)), (wn, .inr (10, [.ref wn2])), (wn2, .inl (gI G, 148, .inl fwn))] s.heap := hP
  have hl := lv_entry ([.ref pd, .int x, .int y, .int z, .int t]) (n := 7) (Nat.le_of_ble_eq_true rfl)
  rw [lg_entry_eq]
  generalize (lg_sl ([.ref pd, .int x, .int y, .int z, .int t]) ++ List.replicate (7 - (lg_sl ([.ref pd, .int x, .int y, .int z, .int t])).length) Slot.unset).toArray = ls at hl ⊢
  have hl : lv_has ls 7 [(0, .ref pd), (1, .int x), (2, .int y), (3, .int z), (4, .int t)] := hl
  refine lv_iload hx hb dX7_breaksTie_0 (lv_at hl 4 rfl) ?_
  refine lv_iconst (v := 2) hx hb dX7_breaksTie_2 (by decide) ?_
  refine lv_icmp_ne (tgt := 14) hx hb dX7_breaksTie_3 (by decide) (fun c_1 => ?_) (fun c_1 => ?_)
  · skip
    refine lv_aload_n hx hb dX7_breaksTie_14 rfl (lv_at hl 0 rfl) ?_
    refine va_get (D := gD G) (ci := 8) (v := .ref bk) (C := RX7) (T := TX7) (N := 4) hx hb hts (fun _ h9 => (List.mem_cons_of_mem _ (List.mem_append_right _ (List.mem_append_left _ h9)))) hown hK hP 0 rfl rfl 0 (by decide) (hts (.fieldLink RX7 9 "JudoHall$Podium" "book" "LJudoHall$Book;") (List.mem_cons_of_mem _ (List.mem_append_left _ (List.mem_of_getElem? (i := 0) rfl)))) (fun _ h9 => h9) rfl dX7_breaksTie_15 ?_
    refine lv_iload_n hx hb dX7_breaksTie_18 rfl (lv_at hl 2 rfl) ?_
    refine lv_iconst (v := 2) hx hb dX7_breaksTie_19 (by decide) ?_
    refine vp_callSi (va_Run.run (va_runS (As := [.int y, .int 2]) (rest := [.ref bk]) ⟨hx, hb, hml, hown, hts⟩ (c_Book_ofFighter l G y 2) (va_cwS 2 hts (gdS (List.mem_cons_of_mem _ (List.mem_append_left _ (List.mem_of_getElem? (i := 1) rfl))) (List.mem_cons_of_mem _ (List.mem_append_left _ (List.mem_of_getElem? (i := 2) rfl))) (List.mem_cons_of_mem _ (List.mem_append_left _ (List.mem_of_getElem? (i := 3) rfl))) (fun w9 h9 => ⟨(List.mem_cons_of_mem _ (List.mem_append_right _ (List.mem_append_right _ (List.mem_append_left _ h9)))), gd_c_Book_ofFighter w9 h9⟩)) rfl rfl rfl kSX1_ofFighter ⟨Nat.le_of_ble_eq_true rfl, Nat.le_of_ble_eq_true rfl⟩) (preS_p (As := [.int y, .int 2]) (hP.sub (ws' := []) [] rfl) hB) rfl rfl hl.1 rfl (lv_room (Nat.le_of_ble_eq_true rfl)) dX7_breaksTie_20 ⟨Nat.le_of_ble_eq_true rfl, Nat.le_of_ble_eq_true rfl⟩)) (fun r_2 hr_2 => ?_)
    subst hr_2
    refine vp_callSi (va_Run.run (va_runV (As := [.int (148 + y * 7 + 2)]) (rest := []) ⟨hx, hb, hml, hown, hts⟩ (c_Book_at l G bk ca 2088 f v1 v2 v3 v4 v5 (148 + y * 7 + 2) (by decide)) (cwV 1 hts (gdV (List.mem_cons_of_mem _ (List.mem_append_left _ (List.mem_of_getElem? (i := 4) rfl))) (List.mem_cons_of_mem _ (List.mem_append_left _ (List.mem_of_getElem? (i := 5) rfl))) (List.mem_cons_of_mem _ (List.mem_append_left _ (List.mem_of_getElem? (i := 6) rfl))) (List.mem_cons_of_mem _ (List.mem_append_left _ (List.mem_of_getElem? (i := 3) rfl))) (fun w9 h9 => ⟨(List.mem_cons_of_mem _ (List.mem_append_right _ (List.mem_append_right _ (List.mem_append_right _ (List.mem_append_left _ h9))))), gd_c_Book_at w9 h9⟩)) rfl rfl rfl kVX1_at ⟨Nat.le_of_ble_eq_true rfl, Nat.le_of_ble_eq_true rfl⟩) (preV_p (As := [.int (148 + y * 7 + 2)]) (hP.sub (ws' := [(bk, .inr (2, [.ref ca, v1, v2, v3, v4, v5])), (ca, .inl (gI G, 2088, .inl f))]) [2, 3] rfl) hB rfl rfl) rfl rfl hl.1 rfl (lv_room (Nat.le_of_ble_eq_true rfl)) dX7_breaksTie_23 ⟨Nat.le_of_ble_eq_true rfl, Nat.le_of_ble_eq_true rfl⟩)) (fun r_3 hr_3 => ?_)
    subst hr_3
    refine lv_istore (lv' := [(5, .int (rg f 2088 (148 + y * 7 + 2))), (0, .ref pd), (1, .int x), (2, .int y), (3, .int z), (4, .int t)]) hx hb dX7_breaksTie_26 hl (by decide) rfl (fun ls hl => ?_)
    refine lv_aload_n hx hb dX7_breaksTie_28 rfl (lv_at hl 1 rfl) ?_
    refine va_get (D := gD G) (ci := 8) (v := .ref bk) (C := RX7) (T := TX7) (N := 4) hx hb hts (fun _ h9 => (List.mem_cons_of_mem _ (List.mem_append_right _ (List.mem_append_left _ h9)))) hown hK hP 0 rfl rfl 0 (by decide) (hts (.fieldLink RX7 9 "JudoHall$Podium" "book" "LJudoHall$Book;") (List.mem_cons_of_mem _ (List.mem_append_left _ (List.mem_of_getElem? (i := 0) rfl)))) (fun _ h9 => h9) rfl dX7_breaksTie_29 ?_
    refine lv_iload_n hx hb dX7_breaksTie_32 rfl (lv_at hl 4 rfl) ?_
    refine lv_iconst (v := 2) hx hb dX7_breaksTie_33 (by decide) ?_
    refine vp_callSi (va_Run.run (va_runS (As := [.int z, .int 2]) (rest := [.ref bk]) ⟨hx, hb, hml, hown, hts⟩ (c_Book_ofFighter l G z 2) (va_cwS 2 hts (gdS (List.mem_cons_of_mem _ (List.mem_append_left _ (List.mem_of_getElem? (i := 1) rfl))) (List.mem_cons_of_mem _ (List.mem_append_left _ (List.mem_of_getElem? (i := 2) rfl))) (List.mem_cons_of_mem _ (List.mem_append_left _ (List.mem_of_getElem? (i := 3) rfl))) (fun w9 h9 => ⟨(List.mem_cons_of_mem _ (List.mem_append_right _ (List.mem_append_right _ (List.mem_append_left _ h9)))), gd_c_Book_ofFighter w9 h9⟩)) rfl rfl rfl kSX1_ofFighter ⟨Nat.le_of_ble_eq_true rfl, Nat.le_of_ble_eq_true rfl⟩) (preS_p (As := [.int z, .int 2]) (hP.sub (ws' := []) [] rfl) hB) rfl rfl hl.1 rfl (lv_room (Nat.le_of_ble_eq_true rfl)) dX7_breaksTie_34 ⟨Nat.le_of_ble_eq_true rfl, Nat.le_of_ble_eq_true rfl⟩)) (fun r_4 hr_4 => ?_)
    subst hr_4
    refine vp_callSi (va_Run.run (va_runV (As := [.int (148 + z * 7 + 2)]) (rest := []) ⟨hx, hb, hml, hown, hts⟩ (c_Book_at l G bk ca 2088 f v1 v2 v3 v4 v5 (148 + z * 7 + 2) (by decide)) (cwV 1 hts (gdV (List.mem_cons_of_mem _ (List.mem_append_left _ (List.mem_of_getElem? (i := 4) rfl))) (List.mem_cons_of_mem _ (List.mem_append_left _ (List.mem_of_getElem? (i := 5) rfl))) (List.mem_cons_of_mem _ (List.mem_append_left _ (List.mem_of_getElem? (i := 6) rfl))) (List.mem_cons_of_mem _ (List.mem_append_left _ (List.mem_of_getElem? (i := 3) rfl))) (fun w9 h9 => ⟨(List.mem_cons_of_mem _ (List.mem_append_right _ (List.mem_append_right _ (List.mem_append_right _ (List.mem_append_left _ h9))))), gd_c_Book_at w9 h9⟩)) rfl rfl rfl kVX1_at ⟨Nat.le_of_ble_eq_true rfl, Nat.le_of_ble_eq_true rfl⟩) (preV_p (As := [.int (148 + z * 7 + 2)]) (hP.sub (ws' := [(bk, .inr (2, [.ref ca, v1, v2, v3, v4, v5])), (ca, .inl (gI G, 2088, .inl f))]) [2, 3] rfl) hB rfl rfl) rfl rfl hl.1 rfl (lv_room (Nat.le_of_ble_eq_true rfl)) dX7_breaksTie_37 ⟨Nat.le_of_ble_eq_true rfl, Nat.le_of_ble_eq_true rfl⟩)) (fun r_5 hr_5 => ?_)
    subst hr_5
    refine lv_istore (lv' := [(6, .int (rg f 2088 (148 + z * 7 + 2))), (5, .int (rg f 2088 (148 + y * 7 + 2))), (0, .ref pd), (1, .int x), (2, .int y), (3, .int z), (4, .int t)]) hx hb dX7_breaksTie_40 hl (by decide) rfl (fun ls hl => ?_)
    refine lv_iload hx hb dX7_breaksTie_42 (lv_at hl 1 rfl) ?_
    refine lv_iload hx hb dX7_breaksTie_44 (lv_at hl 0 rfl) ?_
    refine lv_icmp_eq (tgt := 64) hx hb dX7_breaksTie_46 (by decide) (fun c_6 => ?_) (fun c_6 => ?_)
    · skip
      refine lv_iload_n hx hb dX7_breaksTie_64 rfl (lv_at hl 4 rfl) ?_
      refine lv_iload_n hx hb dX7_breaksTie_65 rfl (lv_at hl 5 rfl) ?_
      refine lv_icmp_ge (tgt := 73) hx hb dX7_breaksTie_66 (by decide) (fun c_7 => ?_) (fun c_7 => ?_)
      · skip
        refine lv_iconst (v := 0) hx hb dX7_breaksTie_73 (by decide) ?_
        exact W.zret (v := 0) hx hb hr rfl (fun t ht hW => ⟨_, rfl, Or.inl rfl, ht⟩) (fun q h => absurd h List.not_mem_nil) dX7_breaksTie_74
      · skip
        refine lv_iconst (v := 1) hx hb dX7_breaksTie_69 (by decide) ?_
        refine lv_goto (tgt := 74) hx hb dX7_breaksTie_70 (by decide) ?_
        exact W.zret (v := 1) hx hb hr rfl (fun t ht hW => ⟨_, rfl, Or.inr rfl, ht⟩) (fun q h => absurd h List.not_mem_nil) dX7_breaksTie_74
    · skip
      refine lv_iload hx hb dX7_breaksTie_49 (lv_at hl 1 rfl) ?_
      refine lv_iload hx hb dX7_breaksTie_51 (lv_at hl 0 rfl) ?_
      refine lv_icmp_ge (tgt := 60) hx hb dX7_breaksTie_53 (by decide) (fun c_8 => ?_) (fun c_8 => ?_)
      · skip
        refine lv_iconst (v := 0) hx hb dX7_breaksTie_60 (by decide) ?_
        refine lv_goto (tgt := 74) hx hb dX7_breaksTie_61 (by decide) ?_
        exact W.zret (v := 0) hx hb hr rfl (fun t ht hW => ⟨_, rfl, Or.inl rfl, ht⟩) (fun q h => absurd h List.not_mem_nil) dX7_breaksTie_74
      · skip
        refine lv_iconst (v := 1) hx hb dX7_breaksTie_56 (by decide) ?_
        refine lv_goto (tgt := 74) hx hb dX7_breaksTie_57 (by decide) ?_
        exact W.zret (v := 1) hx hb hr rfl (fun t ht hW => ⟨_, rfl, Or.inr rfl, ht⟩) (fun q h => absurd h List.not_mem_nil) dX7_breaksTie_74
  · skip
    refine lv_aload_n hx hb dX7_breaksTie_6 rfl (lv_at hl 0 rfl) ?_
    refine lv_iload_n hx hb dX7_breaksTie_7 rfl (lv_at hl 1 rfl) ?_
    refine lv_iload_n hx hb dX7_breaksTie_8 rfl (lv_at hl 2 rfl) ?_
    refine lv_iload_n hx hb dX7_breaksTie_9 rfl (lv_at hl 3 rfl) ?_
    refine vp_callSi (va_Run.run (va_runV (As := [.int x, .int y, .int z]) (rest := []) ⟨hx, hb, hml, hown, hts⟩ (g_beat l G pd d_w d_s bd bk ca f v1 v2 v3 v4 v5 b_se b_lo wt wt2 fwt bl bl2 fbl wn wn2 fwn x y z) (cwV 3 hts (gdV (List.mem_cons_of_mem _ (List.mem_append_left _ (List.mem_of_getElem? (i := 7) rfl))) (List.mem_cons_of_mem _ (List.mem_append_left _ (List.mem_of_getElem? (i := 8) rfl))) (List.mem_cons_of_mem _ (List.mem_append_left _ (List.mem_of_getElem? (i := 9) rfl))) (List.mem_cons_of_mem _ (List.mem_append_left _ (List.mem_of_getElem? (i := 10) rfl))) (fun w9 h9 => ⟨(List.mem_cons_of_mem _ (List.mem_append_right _ (List.mem_append_right _ (List.mem_append_right _ (List.mem_append_right _ (List.mem_append_left _ h9)))))), gd_g_beat w9 h9⟩)) rfl rfl rfl kVX7_beat ⟨Nat.le_of_ble_eq_true rfl, Nat.le_of_ble_eq_true rfl⟩) (preV_p (As := [.int x, .int y, .int z]) (hP.sub (ws' := [(pd, .inr (8, [.ref bk, .ref bd, d_w, d_s])), (bd, .inr (1, [.ref bk, .ref wt, .ref bl, .ref wn, b_se, b_lo])), (bk, .inr (2, [.ref ca, v1, v2, v3, v4, v5])), (ca, .inl (gI G, 2088, .inl f)), (wt, .inr (10, [.ref wt2])), (wt2, .inl (gI G, 148, .inl fwt)), (bl, .inr (10, [.ref bl2])), (bl2, .inl (gI G, 148, .inl fbl)), (wn, .inr (10, [.ref wn2])), (wn2, .inl (gI G, 148, .inl fwn))]) [0, 1, 2, 3, 4, 5, 6, 7, 8, 9] rfl) hB rfl rfl) rfl rfl hl.1 rfl (lv_room (Nat.le_of_ble_eq_true rfl)) dX7_breaksTie_10 ⟨Nat.le_of_ble_eq_true rfl, Nat.le_of_ble_eq_true rfl⟩)) (fun r_9 hr_9 => ?_)
    have hr_9 : r_9 = 0 ∨ r_9 = 1 := hr_9
    exact W.zret (v := r_9) hx hb hr (gl_z hr_9) (fun t ht hW => ⟨_, rfl, hr_9, ht⟩) (fun q h => absurd h List.not_mem_nil) dX7_breaksTie_13

def wo_g_pdAheadOf : List Cond := [.fieldLink RX7 15 "JudoHall$Podium" "board" "LJudoHall$Board;", .methodLink RX7 31 yX0_sizeOf, .instanceMethod yX0_sizeOf, .selects RX0 yX0_sizeOf yX0_sizeOf, .initialized RX0, .methodLink RX7 54 yX7_member, .instanceMethod yX7_member, .selects RX7 yX7_member yX7_member, .initialized RX7, .methodLink RX7 81 yX7_areAlike, .instanceMethod yX7_areAlike, .selects RX7 yX7_areAlike yX7_areAlike, .methodLink RX7 89 yX7_hasMore, .instanceMethod yX7_hasMore, .selects RX7 yX7_hasMore yX7_hasMore, .methodLink RX7 85 yX7_breaksTie, .instanceMethod yX7_breaksTie, .selects RX7 yX7_breaksTie yX7_breaksTie]
def wq_g_pdAheadOf : List Cond := .code yX7_aheadOf cX7_aheadOf 7 (some .int) :: (wo_g_pdAheadOf ++ (wsX70 ++ (wq_c_Board_sizeOf ++ (wq_g_member ++ (wq_g_areAlike ++ (wq_g_hasMore ++ (wq_g_breaksTie ++ [])))))))
theorem gd_g_pdAheadOf : ∀ w ∈ wq_g_pdAheadOf, Gd w := List.forall_mem_cons.mpr ⟨Or.inl rfl, List.forall_mem_append.mpr ⟨gdl wo_g_pdAheadOf (by decide +kernel), (List.forall_mem_append.mpr ⟨gd_wsX70, (List.forall_mem_append.mpr ⟨gd_c_Board_sizeOf, (List.forall_mem_append.mpr ⟨gd_g_member, (List.forall_mem_append.mpr ⟨gd_g_areAlike, (List.forall_mem_append.mpr ⟨gd_g_hasMore, (List.forall_mem_append.mpr ⟨gd_g_breaksTie, (fun _ h => absurd h List.not_mem_nil)⟩)⟩)⟩)⟩)⟩)⟩)⟩⟩
theorem in_g_pdAheadOf : ∀ w ∈ wq_g_pdAheadOf, w ∈ lw_tbl := List.forall_mem_cons.mpr ⟨List.mem_of_getElem? (i := 1405) (by decide +kernel), List.forall_mem_append.mpr ⟨inT wo_g_pdAheadOf [464, 1396, 1124, 1125, 164, 1397, 1399, 60, 166, 1406, 1408, 62, 1423, 1425, 65, 1410, 1412, 63] (by decide +kernel), (List.forall_mem_append.mpr ⟨in_wsX70, (List.forall_mem_append.mpr ⟨in_c_Board_sizeOf, (List.forall_mem_append.mpr ⟨in_g_member, (List.forall_mem_append.mpr ⟨in_g_areAlike, (List.forall_mem_append.mpr ⟨in_g_hasMore, (List.forall_mem_append.mpr ⟨in_g_breaksTie, (fun _ h => absurd h List.not_mem_nil)⟩)⟩)⟩)⟩)⟩)⟩)⟩⟩
set_option maxHeartbeats 4000000 in
set_option maxRecDepth 100000 in
theorem g_pdAheadOf (l : Launch) (G : gG) (pd : Nat) (bd : Nat) (bk : Nat) (ca : Nat) (f : Nat → Int32) (v1 : Value) (v2 : Value) (v3 : Value) (v4 : Value) (v5 : Value) (b_se : Value) (b_lo : Value) (wt : Nat) (wt2 : Nat) (fwt : Nat → Int32) (bl : Nat) (bl2 : Nat) (fbl : Nat → Int32) (wn : Nat) (wn2 : Nat) (fwn : Nat → Int32) (ws : Nat) (ws2 : Nat) (fws : Nat → Int32) (ss : Nat) (ss2 : Nat) (fss : Nat → Int32) (x : Int32) (y : Int32) : Met l yX7_aheadOf wq_g_pdAheadOf ({ frames := 5, cells := 0, slots := 0, locals := 116 }) (va_Pc [.ref pd, .int x, .int y] (pP G [(pd, .inr (8, [.ref bk, .ref bd, .ref ws, .ref ss])), (bd, .inr (1, [.ref bk, .ref wt, .ref bl, .ref wn, b_se, b_lo])), (bk, .inr (2, [.ref ca, v1, v2, v3, v4, v5])), (ca, .inl (gI G, 2088, .inl f)), (wt, .inr (10, [.ref wt2])), (wt2, .inl (gI G, 148, .inl fwt)), (bl, .inr (10, [.ref bl2])), (bl2, .inl (gI G, 148, .inl fbl)), (wn, .inr (10, [.ref wn2])), (wn2, .inl (gI G, 148, .inl fwn)), (ws, .inr (10, [.ref ws2])), (ws2, .inl (gI G, 96, .inl fws)), (ss, .inr (10, [.ref ss2])), (ss2, .inl (gI G, 96, .inl fss))])) (vp_Si (fun r : Int32 => True)) 0 0 (fun _ => False) := by
  refine Met.ofW (cc := cX7_aheadOf) (maxL := 7) (ret := (some .int)) (by decide) rfl ?_
  intro p e s m args below meth c s₁ B hml hv
  obtain ⟨rfl, hP, hB⟩ := hv
  have hx := B.exec
  have hb := B.bytes
  have hr := B.returns
  have hts := atoms_spec (ws := wq_g_pdAheadOf) B.pre
  have hown : s.vm.findClass RX7 = some m.cls := findClass_of_methodNamed B.named
  have hlocks := B.notSynchronized
  have hK := hB.1
  have hP : va_P (gD G) vwCl [(pd, .inr (8, [.ref bk, .ref bd, .ref ws, .ref ss])), (bd, .inr (1, [.ref bk, .ref wt, .ref bl, .ref wn, b_se, b_lo])), (bk, .inr (2, [.ref ca, v1, v2, v3, v4, v5])), (ca, .inl (gI G, 2088, .inl f)), (wt, .inr (10, [.ref wt2])), (wt2, .inl (gI G, 148, .inl fwt)), (bl, .inr (10, [.ref bl2])), (bl2, .inl (gI G, 148, .inl fbl)), (wn, .inr (10, [.ref wn2])), (wn2, .inl (gI G, 148, .inl fwn)), (ws, .inr (10, [.ref ws2])), (ws2, .inl (gI G, 96, .inl fws)), (ss, .inr (10, [.ref ss2])), (ss2, .inl (gI G, 96, .inl fss))] s.heap := hP
  have hl := lv_entry ([.ref pd, .int x, .int y]) (n := 7) (Nat.le_of_ble_eq_true rfl)
  rw [lg_entry_eq]
  generalize (lg_sl ([.ref pd, .int x, .int y]) ++ List.replicate (7 - (lg_sl ([.ref pd, .int x, .int y])).length) Slot.unset).toArray = ls at hl ⊢
  have hl : lv_has ls 7 [(0, .ref pd), (1, .int x), (2, .int y)] := hl
  refine lv_iconst (v := 0) hx hb dX7_aheadOf_0 (by decide) ?_
  refine lv_istore_n (lv' := [(3, .int 0), (0, .ref pd), (1, .int x), (2, .int y)]) hx hb dX7_aheadOf_1 rfl hl (by decide) rfl (fun ls hl => ?_)
  refine lv_iconst (v := 0) hx hb dX7_aheadOf_2 (by decide) ?_
  refine lv_istore (lv' := [(4, .int 0), (3, .int 0), (0, .ref pd), (1, .int x), (2, .int y)]) hx hb dX7_aheadOf_3 hl (by decide) rfl (fun ls hl => ?_)
  refine lv_iconst (v := 0) hx hb dX7_aheadOf_5 (by decide) ?_
  refine lv_istore (lv' := [(5, .int 0), (4, .int 0), (3, .int 0), (0, .ref pd), (1, .int x), (2, .int y)]) hx hb dX7_aheadOf_6 hl (by decide) rfl (fun ls hl => ?_)
  have hloop8 : ∀ (k9 : Nat) (k5 : Nat) (z4 : Int32), (rg f 2088 (4 + x * 36 + 3)).toNatClampNeg - k5 < k9 → (k5 ≤ (rg f 2088 (4 + x * 36 + 3)).toNatClampNeg) → ∀ (ls : Array Slot), lv_has ls 7 [(5, .int (nI k5)), (4, .int z4), (0, .ref pd), (1, .int x), (2, .int y), (3, .int 0)] → W p l e (headSpec wq_g_pdAheadOf ({ frames := 5, cells := 0, slots := 0, locals := 116 })).room s m [.ref pd, .int x, .int y].toArray below meth c s.heap [] 0 0 (MQ below (vp_Si (fun r : Int32 => True)) [.ref pd, .int x, .int y].toArray s 0 0 (fun _ => False)) (F0 m 8 ls []) := by
    intro k9
    induction k9 with
    | zero => intro k5 z4 h9; exact absurd h9 (Nat.not_lt_zero _)
    | succ k9 ih8 =>
      intro k5 z4 hm8 hb_k5 ls hl
      refine lv_iload hx hb dX7_aheadOf_8 (lv_at hl 0 rfl) ?_
      refine lv_aload_n hx hb dX7_aheadOf_10 rfl (lv_at hl 2 rfl) ?_
      refine va_get (D := gD G) (ci := 8) (v := .ref bd) (C := RX7) (T := TX7) (N := 4) hx hb hts (fun _ h9 => (List.mem_cons_of_mem _ (List.mem_append_right _ (List.mem_append_left _ h9)))) hown hK hP 0 rfl rfl 1 (by decide) (hts (.fieldLink RX7 15 "JudoHall$Podium" "board" "LJudoHall$Board;") (List.mem_cons_of_mem _ (List.mem_append_left _ (List.mem_of_getElem? (i := 0) rfl)))) (fun _ h9 => h9) rfl dX7_aheadOf_11 ?_
      refine lv_iload_n hx hb dX7_aheadOf_14 rfl (lv_at hl 3 rfl) ?_
      refine vp_callSi (va_Run.run (va_runV (As := [.int x]) (rest := [.int (nI k5)]) ⟨hx, hb, hml, hown, hts⟩ (c_Board_sizeOf l G bd bk ca 2088 f v1 v2 v3 v4 v5 (.ref wt) (.ref bl) (.ref wn) b_se b_lo x (by decide)) (cwV 1 hts (gdV (List.mem_cons_of_mem _ (List.mem_append_left _ (List.mem_of_getElem? (i := 1) rfl))) (List.mem_cons_of_mem _ (List.mem_append_left _ (List.mem_of_getElem? (i := 2) rfl))) (List.mem_cons_of_mem _ (List.mem_append_left _ (List.mem_of_getElem? (i := 3) rfl))) (List.mem_cons_of_mem _ (List.mem_append_left _ (List.mem_of_getElem? (i := 4) rfl))) (fun w9 h9 => ⟨(List.mem_cons_of_mem _ (List.mem_append_right _ (List.mem_append_right _ (List.mem_append_left _ h9)))), gd_c_Board_sizeOf w9 h9⟩)) rfl rfl rfl kVX0_sizeOf ⟨Nat.le_of_ble_eq_true rfl, Nat.le_of_ble_eq_true rfl⟩) (preV_p (As := [.int x]) (hP.sub (ws' := [(bd, .inr (1, [.ref bk, .ref wt, .ref bl, .ref wn, b_se, b_lo])), (bk, .inr (2, [.ref ca, v1, v2, v3, v4, v5])), (ca, .inl (gI G, 2088, .inl f))]) [1, 2, 3] rfl) hB rfl rfl) rfl rfl hl.1 rfl (lv_room (Nat.le_of_ble_eq_true rfl)) dX7_aheadOf_15 ⟨Nat.le_of_ble_eq_true rfl, Nat.le_of_ble_eq_true rfl⟩)) (fun r_1 hr_1 => ?_)
      subst hr_1
      refine lv_icmp_ge (tgt := 52) hx hb dX7_aheadOf_18 (by decide) (fun c_2 => ?_) (fun c_2 => ?_)
      · skip
        refine lv_iconst (v := 0) hx hb dX7_aheadOf_52 (by decide) ?_
        refine lv_istore (lv' := [(5, .int 0), (4, .int z4), (0, .ref pd), (1, .int x), (2, .int y), (3, .int 0)]) hx hb dX7_aheadOf_53 hl (by decide) rfl (fun ls hl => ?_)
        have hloop55 : ∀ (k9 : Nat) (k5 : Nat) (z3 : Int32), (rg f 2088 (4 + x * 36 + 3)).toNatClampNeg - k5 < k9 → (k5 ≤ (rg f 2088 (4 + x * 36 + 3)).toNatClampNeg) → ∀ (ls : Array Slot), lv_has ls 7 [(5, .int (nI k5)), (3, .int z3), (0, .ref pd), (1, .int x), (2, .int y), (4, .int z4)] → W p l e (headSpec wq_g_pdAheadOf ({ frames := 5, cells := 0, slots := 0, locals := 116 })).room s m [.ref pd, .int x, .int y].toArray below meth c s.heap [] 0 0 (MQ below (vp_Si (fun r : Int32 => True)) [.ref pd, .int x, .int y].toArray s 0 0 (fun _ => False)) (F0 m 55 ls []) := by
          intro k9
          induction k9 with
          | zero => intro k5 z3 h9; exact absurd h9 (Nat.not_lt_zero _)
          | succ k9 ih55 =>
            intro k5 z3 hm55 hb_k5 ls hl
            refine lv_iload hx hb dX7_aheadOf_55 (lv_at hl 0 rfl) ?_
            refine lv_aload_n hx hb dX7_aheadOf_57 rfl (lv_at hl 2 rfl) ?_
            refine va_get (D := gD G) (ci := 8) (v := .ref bd) (C := RX7) (T := TX7) (N := 4) hx hb hts (fun _ h9 => (List.mem_cons_of_mem _ (List.mem_append_right _ (List.mem_append_left _ h9)))) hown hK hP 0 rfl rfl 1 (by decide) (hts (.fieldLink RX7 15 "JudoHall$Podium" "board" "LJudoHall$Board;") (List.mem_cons_of_mem _ (List.mem_append_left _ (List.mem_of_getElem? (i := 0) rfl)))) (fun _ h9 => h9) rfl dX7_aheadOf_58 ?_
            refine lv_iload_n hx hb dX7_aheadOf_61 rfl (lv_at hl 3 rfl) ?_
            refine vp_callSi (va_Run.run (va_runV (As := [.int x]) (rest := [.int (nI k5)]) ⟨hx, hb, hml, hown, hts⟩ (c_Board_sizeOf l G bd bk ca 2088 f v1 v2 v3 v4 v5 (.ref wt) (.ref bl) (.ref wn) b_se b_lo x (by decide)) (cwV 1 hts (gdV (List.mem_cons_of_mem _ (List.mem_append_left _ (List.mem_of_getElem? (i := 1) rfl))) (List.mem_cons_of_mem _ (List.mem_append_left _ (List.mem_of_getElem? (i := 2) rfl))) (List.mem_cons_of_mem _ (List.mem_append_left _ (List.mem_of_getElem? (i := 3) rfl))) (List.mem_cons_of_mem _ (List.mem_append_left _ (List.mem_of_getElem? (i := 4) rfl))) (fun w9 h9 => ⟨(List.mem_cons_of_mem _ (List.mem_append_right _ (List.mem_append_right _ (List.mem_append_left _ h9)))), gd_c_Board_sizeOf w9 h9⟩)) rfl rfl rfl kVX0_sizeOf ⟨Nat.le_of_ble_eq_true rfl, Nat.le_of_ble_eq_true rfl⟩) (preV_p (As := [.int x]) (hP.sub (ws' := [(bd, .inr (1, [.ref bk, .ref wt, .ref bl, .ref wn, b_se, b_lo])), (bk, .inr (2, [.ref ca, v1, v2, v3, v4, v5])), (ca, .inl (gI G, 2088, .inl f))]) [1, 2, 3] rfl) hB rfl rfl) rfl rfl hl.1 rfl (lv_room (Nat.le_of_ble_eq_true rfl)) dX7_aheadOf_62 ⟨Nat.le_of_ble_eq_true rfl, Nat.le_of_ble_eq_true rfl⟩)) (fun r_3 hr_3 => ?_)
            subst hr_3
            refine lv_icmp_ge (tgt := 141) hx hb dX7_aheadOf_65 (by decide) (fun c_4 => ?_) (fun c_4 => ?_)
            · skip
              refine lv_iload_n hx hb dX7_aheadOf_141 rfl (lv_at hl 1 rfl) ?_
              exact W.iret (v := z3) hx hb hr (fun t ht hW => ⟨_, rfl, trivial, ht⟩) (fun q h => absurd h List.not_mem_nil) dX7_aheadOf_142
            · have hl_k5 := gl_lt (B := rg f 2088 (4 + x * 36 + 3)) hb_k5 c_4
              refine lv_aload_n hx hb dX7_aheadOf_68 rfl (lv_at hl 2 rfl) ?_
              refine lv_iload_n hx hb dX7_aheadOf_69 rfl (lv_at hl 3 rfl) ?_
              refine lv_iload hx hb dX7_aheadOf_70 (lv_at hl 0 rfl) ?_
              refine vp_callSi (va_Run.run (va_runV (As := [.int x, .int (nI k5)]) (rest := []) ⟨hx, hb, hml, hown, hts⟩ (g_member l G pd bk ca f v1 v2 v3 v4 v5 (.ref bd) (.ref ws) (.ref ss) x (nI k5)) (cwV 2 hts (gdV (List.mem_cons_of_mem _ (List.mem_append_left _ (List.mem_of_getElem? (i := 5) rfl))) (List.mem_cons_of_mem _ (List.mem_append_left _ (List.mem_of_getElem? (i := 6) rfl))) (List.mem_cons_of_mem _ (List.mem_append_left _ (List.mem_of_getElem? (i := 7) rfl))) (List.mem_cons_of_mem _ (List.mem_append_left _ (List.mem_of_getElem? (i := 8) rfl))) (fun w9 h9 => ⟨(List.mem_cons_of_mem _ (List.mem_append_right _ (List.mem_append_right _ (List.mem_append_right _ (List.mem_append_left _ h9))))), gd_g_member w9 h9⟩)) rfl rfl rfl kVX7_member ⟨Nat.le_of_ble_eq_true rfl, Nat.le_of_ble_eq_true rfl⟩) (preV_p (As := [.int x, .int (nI k5)]) (hP.sub (ws' := [(pd, .inr (8, [.ref bk, .ref bd, .ref ws, .ref ss])), (bk, .inr (2, [.ref ca, v1, v2, v3, v4, v5])), (ca, .inl (gI G, 2088, .inl f))]) [0, 2, 3] rfl) hB rfl rfl) rfl rfl hl.1 rfl (lv_room (Nat.le_of_ble_eq_true rfl)) dX7_aheadOf_72 ⟨Nat.le_of_ble_eq_true rfl, Nat.le_of_ble_eq_true rfl⟩)) (fun r_5 hr_5 => ?_)
              clear hr_5
              refine lv_istore (lv' := [(6, .int r_5), (5, .int (nI k5)), (3, .int z3), (0, .ref pd), (1, .int x), (2, .int y), (4, .int z4)]) hx hb dX7_aheadOf_75 hl (by decide) rfl (fun ls hl => ?_)
              refine lv_aload_n hx hb dX7_aheadOf_77 rfl (lv_at hl 3 rfl) ?_
              refine lv_iload hx hb dX7_aheadOf_78 (lv_at hl 0 rfl) ?_
              refine lv_iload_n hx hb dX7_aheadOf_80 rfl (lv_at hl 5 rfl) ?_
              refine vp_callSi (va_Run.run (va_runV (As := [.int r_5, .int y]) (rest := []) ⟨hx, hb, hml, hown, hts⟩ (g_areAlike l G pd (.ref bk) (.ref bd) ws ws2 fws ss ss2 fss r_5 y) (cwV 2 hts (gdV (List.mem_cons_of_mem _ (List.mem_append_left _ (List.mem_of_getElem? (i := 9) rfl))) (List.mem_cons_of_mem _ (List.mem_append_left _ (List.mem_of_getElem? (i := 10) rfl))) (List.mem_cons_of_mem _ (List.mem_append_left _ (List.mem_of_getElem? (i := 11) rfl))) (List.mem_cons_of_mem _ (List.mem_append_left _ (List.mem_of_getElem? (i := 8) rfl))) (fun w9 h9 => ⟨(List.mem_cons_of_mem _ (List.mem_append_right _ (List.mem_append_right _ (List.mem_append_right _ (List.mem_append_right _ (List.mem_append_left _ h9)))))), gd_g_areAlike w9 h9⟩)) rfl rfl rfl kVX7_areAlike ⟨Nat.le_of_ble_eq_true rfl, Nat.le_of_ble_eq_true rfl⟩) (preV_p (As := [.int r_5, .int y]) (hP.sub (ws' := [(pd, .inr (8, [.ref bk, .ref bd, .ref ws, .ref ss])), (ws, .inr (10, [.ref ws2])), (ws2, .inl (gI G, 96, .inl fws)), (ss, .inr (10, [.ref ss2])), (ss2, .inl (gI G, 96, .inl fss))]) [0, 10, 11, 12, 13] rfl) hB rfl rfl) rfl rfl hl.1 rfl (lv_room (Nat.le_of_ble_eq_true rfl)) dX7_aheadOf_81 ⟨Nat.le_of_ble_eq_true rfl, Nat.le_of_ble_eq_true rfl⟩)) (fun r_6 hr_6 => ?_)
              have hr_6 : r_6 = 0 ∨ r_6 = 1 := hr_6
              refine lv_if_eq (tgt := 117) hx hb dX7_aheadOf_84 (by decide) (fun c_7 => ?_) (fun c_7 => ?_)
              · skip
                refine lv_iload_n hx hb dX7_aheadOf_117 rfl (lv_at hl 2 rfl) ?_
                refine lv_aload_n hx hb dX7_aheadOf_118 rfl (lv_at hl 3 rfl) ?_
                refine lv_iload hx hb dX7_aheadOf_119 (lv_at hl 0 rfl) ?_
                refine lv_iload_n hx hb dX7_aheadOf_121 rfl (lv_at hl 5 rfl) ?_
                refine vp_callSi (va_Run.run (va_runV (As := [.int r_5, .int y]) (rest := [.int z3]) ⟨hx, hb, hml, hown, hts⟩ (g_hasMore l G pd (.ref bk) (.ref bd) ws ws2 fws ss ss2 fss r_5 y) (cwV 2 hts (gdV (List.mem_cons_of_mem _ (List.mem_append_left _ (List.mem_of_getElem? (i := 12) rfl))) (List.mem_cons_of_mem _ (List.mem_append_left _ (List.mem_of_getElem? (i := 13) rfl))) (List.mem_cons_of_mem _ (List.mem_append_left _ (List.mem_of_getElem? (i := 14) rfl))) (List.mem_cons_of_mem _ (List.mem_append_left _ (List.mem_of_getElem? (i := 8) rfl))) (fun w9 h9 => ⟨(List.mem_cons_of_mem _ (List.mem_append_right _ (List.mem_append_right _ (List.mem_append_right _ (List.mem_append_right _ (List.mem_append_right _ (List.mem_append_left _ h9))))))), gd_g_hasMore w9 h9⟩)) rfl rfl rfl kVX7_hasMore ⟨Nat.le_of_ble_eq_true rfl, Nat.le_of_ble_eq_true rfl⟩) (preV_p (As := [.int r_5, .int y]) (hP.sub (ws' := [(pd, .inr (8, [.ref bk, .ref bd, .ref ws, .ref ss])), (ws, .inr (10, [.ref ws2])), (ws2, .inl (gI G, 96, .inl fws)), (ss, .inr (10, [.ref ss2])), (ss2, .inl (gI G, 96, .inl fss))]) [0, 10, 11, 12, 13] rfl) hB rfl rfl) rfl rfl hl.1 rfl (lv_room (Nat.le_of_ble_eq_true rfl)) dX7_aheadOf_122 ⟨Nat.le_of_ble_eq_true rfl, Nat.le_of_ble_eq_true rfl⟩)) (fun r_8 hr_8 => ?_)
                have hr_8 : r_8 = 0 ∨ r_8 = 1 := hr_8
                refine lv_if_eq (tgt := 132) hx hb dX7_aheadOf_125 (by decide) (fun c_9 => ?_) (fun c_9 => ?_)
                · skip
                  refine lv_iconst (v := 0) hx hb dX7_aheadOf_132 (by decide) ?_
                  refine lv_iadd hx hb dX7_aheadOf_133 ?_
                  refine lv_istore_n (lv' := [(3, .int (z3 + 0)), (6, .int r_5), (5, .int (nI k5)), (0, .ref pd), (1, .int x), (2, .int y), (4, .int z4)]) hx hb dX7_aheadOf_134 rfl hl (by decide) rfl (fun ls hl => ?_)
                  refine lv_iinc (v := (nI (k5 + 1))) (lv' := [(5, .int (nI (k5 + 1))), (3, .int (z3 + 0)), (6, .int r_5), (0, .ref pd), (1, .int x), (2, .int y), (4, .int z4)]) hx hb dX7_aheadOf_135 hl (k := 2) rfl (nI_1 k5) (by decide) rfl (fun ls hl => ?_)
                  refine lv_goto (tgt := 55) hx hb dX7_aheadOf_138 (by decide) ?_
                  exact ih55 (k5 + 1) (z3 + 0) (by omega) (hl_k5) _ (lv_sub hl [0, 1, 3, 4, 5, 6] rfl) 
                · skip
                  refine lv_iconst (v := 1) hx hb dX7_aheadOf_128 (by decide) ?_
                  refine lv_goto (tgt := 133) hx hb dX7_aheadOf_129 (by decide) ?_
                  refine lv_iadd hx hb dX7_aheadOf_133 ?_
                  refine lv_istore_n (lv' := [(3, .int (z3 + 1)), (6, .int r_5), (5, .int (nI k5)), (0, .ref pd), (1, .int x), (2, .int y), (4, .int z4)]) hx hb dX7_aheadOf_134 rfl hl (by decide) rfl (fun ls hl => ?_)
                  refine lv_iinc (v := (nI (k5 + 1))) (lv' := [(5, .int (nI (k5 + 1))), (3, .int (z3 + 1)), (6, .int r_5), (0, .ref pd), (1, .int x), (2, .int y), (4, .int z4)]) hx hb dX7_aheadOf_135 hl (k := 2) rfl (nI_1 k5) (by decide) rfl (fun ls hl => ?_)
                  refine lv_goto (tgt := 55) hx hb dX7_aheadOf_138 (by decide) ?_
                  exact ih55 (k5 + 1) (z3 + 1) (by omega) (hl_k5) _ (lv_sub hl [0, 1, 3, 4, 5, 6] rfl) 
              · skip
                refine lv_iload_n hx hb dX7_aheadOf_87 rfl (lv_at hl 2 rfl) ?_
                refine lv_iload hx hb dX7_aheadOf_88 (lv_at hl 0 rfl) ?_
                refine lv_iload_n hx hb dX7_aheadOf_90 rfl (lv_at hl 5 rfl) ?_
                refine lv_icmp_eq (tgt := 111) hx hb dX7_aheadOf_91 (by decide) (fun c_10 => ?_) (fun c_10 => ?_)
                · skip
                  refine lv_iconst (v := 0) hx hb dX7_aheadOf_111 (by decide) ?_
                  refine lv_iadd hx hb dX7_aheadOf_112 ?_
                  refine lv_istore_n (lv' := [(3, .int (z3 + 0)), (6, .int r_5), (5, .int (nI k5)), (0, .ref pd), (1, .int x), (2, .int y), (4, .int z4)]) hx hb dX7_aheadOf_113 rfl hl (by decide) rfl (fun ls hl => ?_)
                  refine lv_goto (tgt := 135) hx hb dX7_aheadOf_114 (by decide) ?_
                  refine lv_iinc (v := (nI (k5 + 1))) (lv' := [(5, .int (nI (k5 + 1))), (3, .int (z3 + 0)), (6, .int r_5), (0, .ref pd), (1, .int x), (2, .int y), (4, .int z4)]) hx hb dX7_aheadOf_135 hl (k := 2) rfl (nI_1 k5) (by decide) rfl (fun ls hl => ?_)
                  refine lv_goto (tgt := 55) hx hb dX7_aheadOf_138 (by decide) ?_
                  exact ih55 (k5 + 1) (z3 + 0) (by omega) (hl_k5) _ (lv_sub hl [0, 1, 3, 4, 5, 6] rfl) 
                · skip
                  refine lv_aload_n hx hb dX7_aheadOf_94 rfl (lv_at hl 3 rfl) ?_
                  refine lv_iload_n hx hb dX7_aheadOf_95 rfl (lv_at hl 4 rfl) ?_
                  refine lv_iload hx hb dX7_aheadOf_96 (lv_at hl 0 rfl) ?_
                  refine lv_iload_n hx hb dX7_aheadOf_98 rfl (lv_at hl 5 rfl) ?_
                  refine lv_iload hx hb dX7_aheadOf_99 (lv_at hl 6 rfl) ?_
                  refine vp_callSi (va_Run.run (va_runV (As := [.int x, .int r_5, .int y, .int z4]) (rest := [.int z3]) ⟨hx, hb, hml, hown, hts⟩ (g_breaksTie l G pd (.ref ws) (.ref ss) bd bk ca f v1 v2 v3 v4 v5 b_se b_lo wt wt2 fwt bl bl2 fbl wn wn2 fwn x r_5 y z4) (cwV 4 hts (gdV (List.mem_cons_of_mem _ (List.mem_append_left _ (List.mem_of_getElem? (i := 15) rfl))) (List.mem_cons_of_mem _ (List.mem_append_left _ (List.mem_of_getElem? (i := 16) rfl))) (List.mem_cons_of_mem _ (List.mem_append_left _ (List.mem_of_getElem? (i := 17) rfl))) (List.mem_cons_of_mem _ (List.mem_append_left _ (List.mem_of_getElem? (i := 8) rfl))) (fun w9 h9 => ⟨(List.mem_cons_of_mem _ (List.mem_append_right _ (List.mem_append_right _ (List.mem_append_right _ (List.mem_append_right _ (List.mem_append_right _ (List.mem_append_right _ (List.mem_append_left _ h9)))))))), gd_g_breaksTie w9 h9⟩)) rfl rfl rfl kVX7_breaksTie ⟨Nat.le_of_ble_eq_true rfl, Nat.le_of_ble_eq_true rfl⟩) (preV_p (As := [.int x, .int r_5, .int y, .int z4]) (hP.sub (ws' := [(pd, .inr (8, [.ref bk, .ref bd, .ref ws, .ref ss])), (bd, .inr (1, [.ref bk, .ref wt, .ref bl, .ref wn, b_se, b_lo])), (bk, .inr (2, [.ref ca, v1, v2, v3, v4, v5])), (ca, .inl (gI G, 2088, .inl f)), (wt, .inr (10, [.ref wt2])), (wt2, .inl (gI G, 148, .inl fwt)), (bl, .inr (10, [.ref bl2])), (bl2, .inl (gI G, 148, .inl fbl)), (wn, .inr (10, [.ref wn2])), (wn2, .inl (gI G, 148, .inl fwn))]) [0, 1, 2, 3, 4, 5, 6, 7, 8, 9] rfl) hB rfl rfl) rfl rfl hl.1 rfl (lv_room (Nat.le_of_ble_eq_true rfl)) dX7_aheadOf_101 ⟨Nat.le_of_ble_eq_true rfl, Nat.le_of_ble_eq_true rfl⟩)) (fun r_11 hr_11 => ?_)
                  have hr_11 : r_11 = 0 ∨ r_11 = 1 := hr_11
                  refine lv_if_eq (tgt := 111) hx hb dX7_aheadOf_104 (by decide) (fun c_12 => ?_) (fun c_12 => ?_)
                  · skip
                    refine lv_iconst (v := 0) hx hb dX7_aheadOf_111 (by decide) ?_
                    refine lv_iadd hx hb dX7_aheadOf_112 ?_
                    refine lv_istore_n (lv' := [(3, .int (z3 + 0)), (6, .int r_5), (5, .int (nI k5)), (0, .ref pd), (1, .int x), (2, .int y), (4, .int z4)]) hx hb dX7_aheadOf_113 rfl hl (by decide) rfl (fun ls hl => ?_)
                    refine lv_goto (tgt := 135) hx hb dX7_aheadOf_114 (by decide) ?_
                    refine lv_iinc (v := (nI (k5 + 1))) (lv' := [(5, .int (nI (k5 + 1))), (3, .int (z3 + 0)), (6, .int r_5), (0, .ref pd), (1, .int x), (2, .int y), (4, .int z4)]) hx hb dX7_aheadOf_135 hl (k := 2) rfl (nI_1 k5) (by decide) rfl (fun ls hl => ?_)
                    refine lv_goto (tgt := 55) hx hb dX7_aheadOf_138 (by decide) ?_
                    exact ih55 (k5 + 1) (z3 + 0) (by omega) (hl_k5) _ (lv_sub hl [0, 1, 3, 4, 5, 6] rfl) 
                  · skip
                    refine lv_iconst (v := 1) hx hb dX7_aheadOf_107 (by decide) ?_
                    refine lv_goto (tgt := 112) hx hb dX7_aheadOf_108 (by decide) ?_
                    refine lv_iadd hx hb dX7_aheadOf_112 ?_
                    refine lv_istore_n (lv' := [(3, .int (z3 + 1)), (6, .int r_5), (5, .int (nI k5)), (0, .ref pd), (1, .int x), (2, .int y), (4, .int z4)]) hx hb dX7_aheadOf_113 rfl hl (by decide) rfl (fun ls hl => ?_)
                    refine lv_goto (tgt := 135) hx hb dX7_aheadOf_114 (by decide) ?_
                    refine lv_iinc (v := (nI (k5 + 1))) (lv' := [(5, .int (nI (k5 + 1))), (3, .int (z3 + 1)), (6, .int r_5), (0, .ref pd), (1, .int x), (2, .int y), (4, .int z4)]) hx hb dX7_aheadOf_135 hl (k := 2) rfl (nI_1 k5) (by decide) rfl (fun ls hl => ?_)
                    refine lv_goto (tgt := 55) hx hb dX7_aheadOf_138 (by decide) ?_
                    exact ih55 (k5 + 1) (z3 + 1) (by omega) (hl_k5) _ (lv_sub hl [0, 1, 3, 4, 5, 6] rfl) 
        exact hloop55 (((rg f 2088 (4 + x * 36 + 3)).toNatClampNeg - 0) + 1) 0 0 (Nat.lt_succ_self _) (Nat.zero_le _) _ (lv_sub hl [0, 5, 2, 3, 4, 1] rfl)
      · have hl_k5 := gl_lt (B := rg f 2088 (4 + x * 36 + 3)) hb_k5 c_2
        refine lv_iload hx hb dX7_aheadOf_21 (lv_at hl 1 rfl) ?_
        refine lv_aload_n hx hb dX7_aheadOf_23 rfl (lv_at hl 2 rfl) ?_
        refine lv_aload_n hx hb dX7_aheadOf_24 rfl (lv_at hl 2 rfl) ?_
        refine lv_iload_n hx hb dX7_aheadOf_25 rfl (lv_at hl 3 rfl) ?_
        refine lv_iload hx hb dX7_aheadOf_26 (lv_at hl 0 rfl) ?_
        refine vp_callSi (va_Run.run (va_runV (As := [.int x, .int (nI k5)]) (rest := [.ref pd, .int z4]) ⟨hx, hb, hml, hown, hts⟩ (g_member l G pd bk ca f v1 v2 v3 v4 v5 (.ref bd) (.ref ws) (.ref ss) x (nI k5)) (cwV 2 hts (gdV (List.mem_cons_of_mem _ (List.mem_append_left _ (List.mem_of_getElem? (i := 5) rfl))) (List.mem_cons_of_mem _ (List.mem_append_left _ (List.mem_of_getElem? (i := 6) rfl))) (List.mem_cons_of_mem _ (List.mem_append_left _ (List.mem_of_getElem? (i := 7) rfl))) (List.mem_cons_of_mem _ (List.mem_append_left _ (List.mem_of_getElem? (i := 8) rfl))) (fun w9 h9 => ⟨(List.mem_cons_of_mem _ (List.mem_append_right _ (List.mem_append_right _ (List.mem_append_right _ (List.mem_append_left _ h9))))), gd_g_member w9 h9⟩)) rfl rfl rfl kVX7_member ⟨Nat.le_of_ble_eq_true rfl, Nat.le_of_ble_eq_true rfl⟩) (preV_p (As := [.int x, .int (nI k5)]) (hP.sub (ws' := [(pd, .inr (8, [.ref bk, .ref bd, .ref ws, .ref ss])), (bk, .inr (2, [.ref ca, v1, v2, v3, v4, v5])), (ca, .inl (gI G, 2088, .inl f))]) [0, 2, 3] rfl) hB rfl rfl) rfl rfl hl.1 rfl (lv_room (Nat.le_of_ble_eq_true rfl)) dX7_aheadOf_28 ⟨Nat.le_of_ble_eq_true rfl, Nat.le_of_ble_eq_true rfl⟩)) (fun r_13 hr_13 => ?_)
        clear hr_13
        refine lv_iload_n hx hb dX7_aheadOf_31 rfl (lv_at hl 4 rfl) ?_
        refine vp_callSi (va_Run.run (va_runV (As := [.int r_13, .int y]) (rest := [.int z4]) ⟨hx, hb, hml, hown, hts⟩ (g_areAlike l G pd (.ref bk) (.ref bd) ws ws2 fws ss ss2 fss r_13 y) (cwV 2 hts (gdV (List.mem_cons_of_mem _ (List.mem_append_left _ (List.mem_of_getElem? (i := 9) rfl))) (List.mem_cons_of_mem _ (List.mem_append_left _ (List.mem_of_getElem? (i := 10) rfl))) (List.mem_cons_of_mem _ (List.mem_append_left _ (List.mem_of_getElem? (i := 11) rfl))) (List.mem_cons_of_mem _ (List.mem_append_left _ (List.mem_of_getElem? (i := 8) rfl))) (fun w9 h9 => ⟨(List.mem_cons_of_mem _ (List.mem_append_right _ (List.mem_append_right _ (List.mem_append_right _ (List.mem_append_right _ (List.mem_append_left _ h9)))))), gd_g_areAlike w9 h9⟩)) rfl rfl rfl kVX7_areAlike ⟨Nat.le_of_ble_eq_true rfl, Nat.le_of_ble_eq_true rfl⟩) (preV_p (As := [.int r_13, .int y]) (hP.sub (ws' := [(pd, .inr (8, [.ref bk, .ref bd, .ref ws, .ref ss])), (ws, .inr (10, [.ref ws2])), (ws2, .inl (gI G, 96, .inl fws)), (ss, .inr (10, [.ref ss2])), (ss2, .inl (gI G, 96, .inl fss))]) [0, 10, 11, 12, 13] rfl) hB rfl rfl) rfl rfl hl.1 rfl (lv_room (Nat.le_of_ble_eq_true rfl)) dX7_aheadOf_32 ⟨Nat.le_of_ble_eq_true rfl, Nat.le_of_ble_eq_true rfl⟩)) (fun r_14 hr_14 => ?_)
        have hr_14 : r_14 = 0 ∨ r_14 = 1 := hr_14
        refine lv_if_eq (tgt := 42) hx hb dX7_aheadOf_35 (by decide) (fun c_15 => ?_) (fun c_15 => ?_)
        · skip
          refine lv_iconst (v := 0) hx hb dX7_aheadOf_42 (by decide) ?_
          refine lv_iadd hx hb dX7_aheadOf_43 ?_
          refine lv_istore (lv' := [(4, .int (z4 + 0)), (5, .int (nI k5)), (0, .ref pd), (1, .int x), (2, .int y), (3, .int 0)]) hx hb dX7_aheadOf_44 hl (by decide) rfl (fun ls hl => ?_)
          refine lv_iinc (v := (nI (k5 + 1))) (lv' := [(5, .int (nI (k5 + 1))), (4, .int (z4 + 0)), (0, .ref pd), (1, .int x), (2, .int y), (3, .int 0)]) hx hb dX7_aheadOf_46 hl (k := 1) rfl (nI_1 k5) (by decide) rfl (fun ls hl => ?_)
          refine lv_goto (tgt := 8) hx hb dX7_aheadOf_49 (by decide) ?_
          exact ih8 (k5 + 1) (z4 + 0) (by omega) (hl_k5) _ (lv_sub hl [0, 1, 2, 3, 4, 5] rfl) 
        · skip
          refine lv_iconst (v := 1) hx hb dX7_aheadOf_38 (by decide) ?_
          refine lv_goto (tgt := 43) hx hb dX7_aheadOf_39 (by decide) ?_
          refine lv_iadd hx hb dX7_aheadOf_43 ?_
          refine lv_istore (lv' := [(4, .int (z4 + 1)), (5, .int (nI k5)), (0, .ref pd), (1, .int x), (2, .int y), (3, .int 0)]) hx hb dX7_aheadOf_44 hl (by decide) rfl (fun ls hl => ?_)
          refine lv_iinc (v := (nI (k5 + 1))) (lv' := [(5, .int (nI (k5 + 1))), (4, .int (z4 + 1)), (0, .ref pd), (1, .int x), (2, .int y), (3, .int 0)]) hx hb dX7_aheadOf_46 hl (k := 1) rfl (nI_1 k5) (by decide) rfl (fun ls hl => ?_)
          refine lv_goto (tgt := 8) hx hb dX7_aheadOf_49 (by decide) ?_
          exact ih8 (k5 + 1) (z4 + 1) (by omega) (hl_k5) _ (lv_sub hl [0, 1, 2, 3, 4, 5] rfl) 
  exact hloop8 (((rg f 2088 (4 + x * 36 + 3)).toNatClampNeg - 0) + 1) 0 0 (Nat.lt_succ_self _) (Nat.zero_le _) _ (lv_sub hl [0, 1, 3, 4, 5, 2] rfl)

def wo_g_ofTree : List Cond := [.fieldLink RX7 15 "JudoHall$Podium" "board" "LJudoHall$Board;", .methodLink RX7 31 yX0_sizeOf, .instanceMethod yX0_sizeOf, .selects RX0 yX0_sizeOf yX0_sizeOf, .initialized RX0, .methodLink RX7 37 yX0_fightsOf, .instanceMethod yX0_fightsOf, .selects RX0 yX0_fightsOf yX0_fightsOf, .methodLink RX7 40 yX0_winnerOf, .instanceMethod yX0_winnerOf, .selects RX0 yX0_winnerOf yX0_winnerOf, .methodLink RX7 44 yX0_loserOf, .instanceMethod yX0_loserOf, .selects RX0 yX0_loserOf yX0_loserOf]
def wq_g_ofTree : List Cond := .code yX7_ofTree cX7_ofTree 5 (some .int) :: (wo_g_ofTree ++ (wsX70 ++ (wq_c_Board_sizeOf ++ (wq_g_BfightsOf ++ (wq_g_BwinnerOf ++ (wq_g_BloserOf ++ []))))))
theorem gd_g_ofTree : ∀ w ∈ wq_g_ofTree, Gd w := List.forall_mem_cons.mpr ⟨Or.inl rfl, List.forall_mem_append.mpr ⟨gdl wo_g_ofTree (by decide +kernel), (List.forall_mem_append.mpr ⟨gd_wsX70, (List.forall_mem_append.mpr ⟨gd_c_Board_sizeOf, (List.forall_mem_append.mpr ⟨gd_g_BfightsOf, (List.forall_mem_append.mpr ⟨gd_g_BwinnerOf, (List.forall_mem_append.mpr ⟨gd_g_BloserOf, (fun _ h => absurd h List.not_mem_nil)⟩)⟩)⟩)⟩)⟩)⟩⟩
theorem in_g_ofTree : ∀ w ∈ wq_g_ofTree, w ∈ lw_tbl := List.forall_mem_cons.mpr ⟨List.mem_of_getElem? (i := 1430) (by decide +kernel), List.forall_mem_append.mpr ⟨inT wo_g_ofTree [464, 1396, 1124, 1125, 164, 1385, 1180, 1181, 1391, 1155, 1156, 1418, 1419, 1420] (by decide +kernel), (List.forall_mem_append.mpr ⟨in_wsX70, (List.forall_mem_append.mpr ⟨in_c_Board_sizeOf, (List.forall_mem_append.mpr ⟨in_g_BfightsOf, (List.forall_mem_append.mpr ⟨in_g_BwinnerOf, (List.forall_mem_append.mpr ⟨in_g_BloserOf, (fun _ h => absurd h List.not_mem_nil)⟩)⟩)⟩)⟩)⟩)⟩⟩
set_option maxHeartbeats 4000000 in
set_option maxRecDepth 100000 in
theorem g_ofTree (l : Launch) (G : gG) (pd : Nat) (d_w : Value) (d_s : Value) (bd : Nat) (bk : Nat) (ca : Nat) (f : Nat → Int32) (v1 : Value) (v2 : Value) (v3 : Value) (v4 : Value) (v5 : Value) (b_se : Value) (b_lo : Value) (wt : Nat) (wt2 : Nat) (fwt : Nat → Int32) (bl : Nat) (bl2 : Nat) (fbl : Nat → Int32) (wn : Nat) (wn2 : Nat) (fwn : Nat → Int32) (x : Int32) (y : Int32) : Met l yX7_ofTree wq_g_ofTree ({ frames := 3, cells := 0, slots := 0, locals := 66 }) (va_Pc [.ref pd, .int x, .int y] (pP G [(pd, .inr (8, [.ref bk, .ref bd, d_w, d_s])), (bd, .inr (1, [.ref bk, .ref wt, .ref bl, .ref wn, b_se, b_lo])), (bk, .inr (2, [.ref ca, v1, v2, v3, v4, v5])), (ca, .inl (gI G, 2088, .inl f)), (wt, .inr (10, [.ref wt2])), (wt2, .inl (gI G, 148, .inl fwt)), (bl, .inr (10, [.ref bl2])), (bl2, .inl (gI G, 148, .inl fbl)), (wn, .inr (10, [.ref wn2])), (wn2, .inl (gI G, 148, .inl fwn))])) (vp_Si (fun r : Int32 => True)) 0 0 (fun _ => False) := by
  refine Met.ofW (cc := cX7_ofTree) (maxL := 5) (ret := (some .int)) (by decide) rfl ?_
  intro p e s m args below meth c s₁ B hml hv
  obtain ⟨rfl, hP, hB⟩ := hv
  have hx := B.exec
  have hb := B.bytes
  have hr := B.returns
  have hts := atoms_spec (ws := wq_g_ofTree) B.pre
  have hown : s.vm.findClass RX7 = some m.cls := findClass_of_methodNamed B.named
  have hlocks := B.notSynchronized
  have hK := hB.1
  have hP : va_P (gD G) vwCl [(pd, .inr (8, [.ref bk, .ref bd, d_w, d_s])), (bd, .inr (1, [.ref bk, .ref wt, .ref bl, .ref wn, b_se, b_lo])), (bk, .inr (2, [.ref ca, v1, v2, v3, v4, v5])), (ca, .inl (gI G, 2088, .inl f)), (wt, .inr (10, [.ref wt2])), (wt2, .inl (gI G, 148, .inl fwt)), (bl, .inr (10, [.ref bl2])), (bl2, .inl (gI G, 148, .inl fbl)), (wn, .inr (10, [.ref wn2])), (wn2, .inl (gI G, 148, .inl fwn))] s.heap := hP
  have hl := lv_entry ([.ref pd, .int x, .int y]) (n := 5) (Nat.le_of_ble_eq_true rfl)
  rw [lg_entry_eq]
  generalize (lg_sl ([.ref pd, .int x, .int y]) ++ List.replicate (5 - (lg_sl ([.ref pd, .int x, .int y])).length) Slot.unset).toArray = ls at hl ⊢
  have hl : lv_has ls 5 [(0, .ref pd), (1, .int x), (2, .int y)] := hl
  refine lv_aload_n hx hb dX7_ofTree_0 rfl (lv_at hl 0 rfl) ?_
  refine va_get (D := gD G) (ci := 8) (v := .ref bd) (C := RX7) (T := TX7) (N := 4) hx hb hts (fun _ h9 => (List.mem_cons_of_mem _ (List.mem_append_right _ (List.mem_append_left _ h9)))) hown hK hP 0 rfl rfl 1 (by decide) (hts (.fieldLink RX7 15 "JudoHall$Podium" "board" "LJudoHall$Board;") (List.mem_cons_of_mem _ (List.mem_append_left _ (List.mem_of_getElem? (i := 0) rfl)))) (fun _ h9 => h9) rfl dX7_ofTree_1 ?_
  refine lv_iload_n hx hb dX7_ofTree_4 rfl (lv_at hl 1 rfl) ?_
  refine vp_callSi (va_Run.run (va_runV (As := [.int x]) (rest := []) ⟨hx, hb, hml, hown, hts⟩ (c_Board_sizeOf l G bd bk ca 2088 f v1 v2 v3 v4 v5 (.ref wt) (.ref bl) (.ref wn) b_se b_lo x (by decide)) (cwV 1 hts (gdV (List.mem_cons_of_mem _ (List.mem_append_left _ (List.mem_of_getElem? (i := 1) rfl))) (List.mem_cons_of_mem _ (List.mem_append_left _ (List.mem_of_getElem? (i := 2) rfl))) (List.mem_cons_of_mem _ (List.mem_append_left _ (List.mem_of_getElem? (i := 3) rfl))) (List.mem_cons_of_mem _ (List.mem_append_left _ (List.mem_of_getElem? (i := 4) rfl))) (fun w9 h9 => ⟨(List.mem_cons_of_mem _ (List.mem_append_right _ (List.mem_append_right _ (List.mem_append_left _ h9)))), gd_c_Board_sizeOf w9 h9⟩)) rfl rfl rfl kVX0_sizeOf ⟨Nat.le_of_ble_eq_true rfl, Nat.le_of_ble_eq_true rfl⟩) (preV_p (As := [.int x]) (hP.sub (ws' := [(bd, .inr (1, [.ref bk, .ref wt, .ref bl, .ref wn, b_se, b_lo])), (bk, .inr (2, [.ref ca, v1, v2, v3, v4, v5])), (ca, .inl (gI G, 2088, .inl f))]) [1, 2, 3] rfl) hB rfl rfl) rfl rfl hl.1 rfl (lv_room (Nat.le_of_ble_eq_true rfl)) dX7_ofTree_5 ⟨Nat.le_of_ble_eq_true rfl, Nat.le_of_ble_eq_true rfl⟩)) (fun r_1 hr_1 => ?_)
  subst hr_1
  refine lv_iconst (v := 2) hx hb dX7_ofTree_8 (by decide) ?_
  refine lv_isub hx hb dX7_ofTree_9 ?_
  refine lv_istore_n (lv' := [(3, .int ((rg f 2088 (4 + x * 36 + 3)) - 2)), (0, .ref pd), (1, .int x), (2, .int y)]) hx hb dX7_ofTree_10 rfl hl (by decide) rfl (fun ls hl => ?_)
  refine lv_aload_n hx hb dX7_ofTree_11 rfl (lv_at hl 1 rfl) ?_
  refine va_get (D := gD G) (ci := 8) (v := .ref bd) (C := RX7) (T := TX7) (N := 4) hx hb hts (fun _ h9 => (List.mem_cons_of_mem _ (List.mem_append_right _ (List.mem_append_left _ h9)))) hown hK hP 0 rfl rfl 1 (by decide) (hts (.fieldLink RX7 15 "JudoHall$Podium" "board" "LJudoHall$Board;") (List.mem_cons_of_mem _ (List.mem_append_left _ (List.mem_of_getElem? (i := 0) rfl)))) (fun _ h9 => h9) rfl dX7_ofTree_12 ?_
  refine lv_iload_n hx hb dX7_ofTree_15 rfl (lv_at hl 2 rfl) ?_
  refine vp_callSi (va_Run.run (va_runV (As := [.int x]) (rest := []) ⟨hx, hb, hml, hown, hts⟩ (g_BfightsOf l G bd bk ca f v1 v2 v3 v4 v5 (.ref wt) (.ref bl) (.ref wn) b_se b_lo x) (cwV 1 hts (gdV (List.mem_cons_of_mem _ (List.mem_append_left _ (List.mem_of_getElem? (i := 5) rfl))) (List.mem_cons_of_mem _ (List.mem_append_left _ (List.mem_of_getElem? (i := 6) rfl))) (List.mem_cons_of_mem _ (List.mem_append_left _ (List.mem_of_getElem? (i := 7) rfl))) (List.mem_cons_of_mem _ (List.mem_append_left _ (List.mem_of_getElem? (i := 4) rfl))) (fun w9 h9 => ⟨(List.mem_cons_of_mem _ (List.mem_append_right _ (List.mem_append_right _ (List.mem_append_right _ (List.mem_append_left _ h9))))), gd_g_BfightsOf w9 h9⟩)) rfl rfl rfl kVX0_fightsOf ⟨Nat.le_of_ble_eq_true rfl, Nat.le_of_ble_eq_true rfl⟩) (preV_p (As := [.int x]) (hP.sub (ws' := [(bd, .inr (1, [.ref bk, .ref wt, .ref bl, .ref wn, b_se, b_lo])), (bk, .inr (2, [.ref ca, v1, v2, v3, v4, v5])), (ca, .inl (gI G, 2088, .inl f))]) [1, 2, 3] rfl) hB rfl rfl) rfl rfl hl.1 rfl (lv_room (Nat.le_of_ble_eq_true rfl)) dX7_ofTree_16 ⟨Nat.le_of_ble_eq_true rfl, Nat.le_of_ble_eq_true rfl⟩)) (fun r_2 hr_2 => ?_)
  subst hr_2
  refine lv_iload_n hx hb dX7_ofTree_19 rfl (lv_at hl 0 rfl) ?_
  refine lv_isub hx hb dX7_ofTree_20 ?_
  refine lv_iconst (v := 1) hx hb dX7_ofTree_21 (by decide) ?_
  refine lv_isub hx hb dX7_ofTree_22 ?_
  refine lv_iconst (v := 2) hx hb dX7_ofTree_23 (by decide) ?_
  refine lv_idiv hx hb dX7_ofTree_24 (by decide) ?_
  refine lv_istore (lv' := [(4, .int ((((bfo f x) - ((rg f 2088 (4 + x * 36 + 3)) - 2)) - 1) / 2)), (3, .int ((rg f 2088 (4 + x * 36 + 3)) - 2)), (0, .ref pd), (1, .int x), (2, .int y)]) hx hb dX7_ofTree_25 hl (by decide) rfl (fun ls hl => ?_)
  refine lv_iload_n hx hb dX7_ofTree_27 rfl (lv_at hl 4 rfl) ?_
  by_cases c_3 : y < 0
  · refine lv_tableOut (tgt := 108) hx hb dX7_ofTree_28 (Or.inl (gx_n0 c_3)) (by decide) ?_
    refine lv_iconst (v := (-1)) hx hb dX7_ofTree_108 (by decide) ?_
    exact W.iret (v := (-1)) hx hb hr (fun t ht hW => ⟨_, rfl, trivial, ht⟩) (fun q h => absurd h List.not_mem_nil) dX7_ofTree_109
  by_cases c_4 : 4 ≤ y
  · refine lv_tableOut (tgt := 108) hx hb dX7_ofTree_28 (Or.inr (gx_nh (k := 4) (by decide) c_4)) (by decide) ?_
    refine lv_iconst (v := (-1)) hx hb dX7_ofTree_108 (by decide) ?_
    exact W.iret (v := (-1)) hx hb hr (fun t ht hW => ⟨_, rfl, trivial, ht⟩) (fun q h => absurd h List.not_mem_nil) dX7_ofTree_109
  rcases gx_c4 c_3 c_4 with c_5 | c_6 | c_7 | c_8
  · refine lv_tableIn (off := 32) (tgt := 60) hx hb dX7_ofTree_28 (by rw [c_5]; decide) (by rw [c_5]; decide) (by rw [c_5]; rfl) (by decide) ?_
    refine lv_aload_n hx hb dX7_ofTree_60 rfl (lv_at hl 2 rfl) ?_
    refine va_get (D := gD G) (ci := 8) (v := .ref bd) (C := RX7) (T := TX7) (N := 4) hx hb hts (fun _ h9 => (List.mem_cons_of_mem _ (List.mem_append_right _ (List.mem_append_left _ h9)))) hown hK hP 0 rfl rfl 1 (by decide) (hts (.fieldLink RX7 15 "JudoHall$Podium" "board" "LJudoHall$Board;") (List.mem_cons_of_mem _ (List.mem_append_left _ (List.mem_of_getElem? (i := 0) rfl)))) (fun _ h9 => h9) rfl dX7_ofTree_61 ?_
    refine lv_iload_n hx hb dX7_ofTree_64 rfl (lv_at hl 3 rfl) ?_
    refine lv_iload_n hx hb dX7_ofTree_65 rfl (lv_at hl 1 rfl) ?_
    refine vp_callSi (va_Run.run (va_runV (As := [.int x, .int ((rg f 2088 (4 + x * 36 + 3)) - 2)]) (rest := []) ⟨hx, hb, hml, hown, hts⟩ (g_BwinnerOf l G bd bk ca f v1 v2 v3 v4 v5 (.ref wt) (.ref bl) b_se b_lo wn wn2 fwn x ((rg f 2088 (4 + x * 36 + 3)) - 2)) (cwV 2 hts (gdV (List.mem_cons_of_mem _ (List.mem_append_left _ (List.mem_of_getElem? (i := 8) rfl))) (List.mem_cons_of_mem _ (List.mem_append_left _ (List.mem_of_getElem? (i := 9) rfl))) (List.mem_cons_of_mem _ (List.mem_append_left _ (List.mem_of_getElem? (i := 10) rfl))) (List.mem_cons_of_mem _ (List.mem_append_left _ (List.mem_of_getElem? (i := 4) rfl))) (fun w9 h9 => ⟨(List.mem_cons_of_mem _ (List.mem_append_right _ (List.mem_append_right _ (List.mem_append_right _ (List.mem_append_right _ (List.mem_append_left _ h9)))))), gd_g_BwinnerOf w9 h9⟩)) rfl rfl rfl kVX0_winnerOf ⟨Nat.le_of_ble_eq_true rfl, Nat.le_of_ble_eq_true rfl⟩) (preV_p (As := [.int x, .int ((rg f 2088 (4 + x * 36 + 3)) - 2)]) (hP.sub (ws' := [(bd, .inr (1, [.ref bk, .ref wt, .ref bl, .ref wn, b_se, b_lo])), (bk, .inr (2, [.ref ca, v1, v2, v3, v4, v5])), (ca, .inl (gI G, 2088, .inl f)), (wn, .inr (10, [.ref wn2])), (wn2, .inl (gI G, 148, .inl fwn))]) [1, 2, 3, 8, 9] rfl) hB rfl rfl) rfl rfl hl.1 rfl (lv_room (Nat.le_of_ble_eq_true rfl)) dX7_ofTree_66 ⟨Nat.le_of_ble_eq_true rfl, Nat.le_of_ble_eq_true rfl⟩)) (fun r_9 hr_9 => ?_)
    clear hr_9
    exact W.iret (v := r_9) hx hb hr (fun t ht hW => ⟨_, rfl, trivial, ht⟩) (fun q h => absurd h List.not_mem_nil) dX7_ofTree_69
  · refine lv_tableIn (off := 42) (tgt := 70) hx hb dX7_ofTree_28 (by rw [c_6]; decide) (by rw [c_6]; decide) (by rw [c_6]; rfl) (by decide) ?_
    refine lv_aload_n hx hb dX7_ofTree_70 rfl (lv_at hl 2 rfl) ?_
    refine va_get (D := gD G) (ci := 8) (v := .ref bd) (C := RX7) (T := TX7) (N := 4) hx hb hts (fun _ h9 => (List.mem_cons_of_mem _ (List.mem_append_right _ (List.mem_append_left _ h9)))) hown hK hP 0 rfl rfl 1 (by decide) (hts (.fieldLink RX7 15 "JudoHall$Podium" "board" "LJudoHall$Board;") (List.mem_cons_of_mem _ (List.mem_append_left _ (List.mem_of_getElem? (i := 0) rfl)))) (fun _ h9 => h9) rfl dX7_ofTree_71 ?_
    refine lv_iload_n hx hb dX7_ofTree_74 rfl (lv_at hl 3 rfl) ?_
    refine lv_iload_n hx hb dX7_ofTree_75 rfl (lv_at hl 1 rfl) ?_
    refine vp_callSi (va_Run.run (va_runV (As := [.int x, .int ((rg f 2088 (4 + x * 36 + 3)) - 2)]) (rest := []) ⟨hx, hb, hml, hown, hts⟩ (g_BloserOf l G bd bk ca f v1 v2 v3 v4 v5 b_se b_lo wt wt2 fwt bl bl2 fbl wn wn2 fwn x ((rg f 2088 (4 + x * 36 + 3)) - 2)) (cwV 2 hts (gdV (List.mem_cons_of_mem _ (List.mem_append_left _ (List.mem_of_getElem? (i := 11) rfl))) (List.mem_cons_of_mem _ (List.mem_append_left _ (List.mem_of_getElem? (i := 12) rfl))) (List.mem_cons_of_mem _ (List.mem_append_left _ (List.mem_of_getElem? (i := 13) rfl))) (List.mem_cons_of_mem _ (List.mem_append_left _ (List.mem_of_getElem? (i := 4) rfl))) (fun w9 h9 => ⟨(List.mem_cons_of_mem _ (List.mem_append_right _ (List.mem_append_right _ (List.mem_append_right _ (List.mem_append_right _ (List.mem_append_right _ (List.mem_append_left _ h9))))))), gd_g_BloserOf w9 h9⟩)) rfl rfl rfl kVX0_loserOf ⟨Nat.le_of_ble_eq_true rfl, Nat.le_of_ble_eq_true rfl⟩) (preV_p (As := [.int x, .int ((rg f 2088 (4 + x * 36 + 3)) - 2)]) (hP.sub (ws' := [(bd, .inr (1, [.ref bk, .ref wt, .ref bl, .ref wn, b_se, b_lo])), (bk, .inr (2, [.ref ca, v1, v2, v3, v4, v5])), (ca, .inl (gI G, 2088, .inl f)), (wt, .inr (10, [.ref wt2])), (wt2, .inl (gI G, 148, .inl fwt)), (bl, .inr (10, [.ref bl2])), (bl2, .inl (gI G, 148, .inl fbl)), (wn, .inr (10, [.ref wn2])), (wn2, .inl (gI G, 148, .inl fwn))]) [1, 2, 3, 4, 5, 6, 7, 8, 9] rfl) hB rfl rfl) rfl rfl hl.1 rfl (lv_room (Nat.le_of_ble_eq_true rfl)) dX7_ofTree_76 ⟨Nat.le_of_ble_eq_true rfl, Nat.le_of_ble_eq_true rfl⟩)) (fun r_10 hr_10 => ?_)
    clear hr_10
    exact W.iret (v := r_10) hx hb hr (fun t ht hW => ⟨_, rfl, trivial, ht⟩) (fun q h => absurd h List.not_mem_nil) dX7_ofTree_79
  · refine lv_tableIn (off := 52) (tgt := 80) hx hb dX7_ofTree_28 (by rw [c_7]; decide) (by rw [c_7]; decide) (by rw [c_7]; rfl) (by decide) ?_
    refine lv_aload_n hx hb dX7_ofTree_80 rfl (lv_at hl 2 rfl) ?_
    refine va_get (D := gD G) (ci := 8) (v := .ref bd) (C := RX7) (T := TX7) (N := 4) hx hb hts (fun _ h9 => (List.mem_cons_of_mem _ (List.mem_append_right _ (List.mem_append_left _ h9)))) hown hK hP 0 rfl rfl 1 (by decide) (hts (.fieldLink RX7 15 "JudoHall$Podium" "board" "LJudoHall$Board;") (List.mem_cons_of_mem _ (List.mem_append_left _ (List.mem_of_getElem? (i := 0) rfl)))) (fun _ h9 => h9) rfl dX7_ofTree_81 ?_
    refine lv_iload_n hx hb dX7_ofTree_84 rfl (lv_at hl 3 rfl) ?_
    refine lv_iload_n hx hb dX7_ofTree_85 rfl (lv_at hl 1 rfl) ?_
    refine lv_iload hx hb dX7_ofTree_86 (lv_at hl 0 rfl) ?_
    refine lv_iadd hx hb dX7_ofTree_88 ?_
    refine vp_callSi (va_Run.run (va_runV (As := [.int x, .int (((rg f 2088 (4 + x * 36 + 3)) - 2) + ((((bfo f x) - ((rg f 2088 (4 + x * 36 + 3)) - 2)) - 1) / 2))]) (rest := []) ⟨hx, hb, hml, hown, hts⟩ (g_BwinnerOf l G bd bk ca f v1 v2 v3 v4 v5 (.ref wt) (.ref bl) b_se b_lo wn wn2 fwn x (((rg f 2088 (4 + x * 36 + 3)) - 2) + ((((bfo f x) - ((rg f 2088 (4 + x * 36 + 3)) - 2)) - 1) / 2))) (cwV 2 hts (gdV (List.mem_cons_of_mem _ (List.mem_append_left _ (List.mem_of_getElem? (i := 8) rfl))) (List.mem_cons_of_mem _ (List.mem_append_left _ (List.mem_of_getElem? (i := 9) rfl))) (List.mem_cons_of_mem _ (List.mem_append_left _ (List.mem_of_getElem? (i := 10) rfl))) (List.mem_cons_of_mem _ (List.mem_append_left _ (List.mem_of_getElem? (i := 4) rfl))) (fun w9 h9 => ⟨(List.mem_cons_of_mem _ (List.mem_append_right _ (List.mem_append_right _ (List.mem_append_right _ (List.mem_append_right _ (List.mem_append_left _ h9)))))), gd_g_BwinnerOf w9 h9⟩)) rfl rfl rfl kVX0_winnerOf ⟨Nat.le_of_ble_eq_true rfl, Nat.le_of_ble_eq_true rfl⟩) (preV_p (As := [.int x, .int (((rg f 2088 (4 + x * 36 + 3)) - 2) + ((((bfo f x) - ((rg f 2088 (4 + x * 36 + 3)) - 2)) - 1) / 2))]) (hP.sub (ws' := [(bd, .inr (1, [.ref bk, .ref wt, .ref bl, .ref wn, b_se, b_lo])), (bk, .inr (2, [.ref ca, v1, v2, v3, v4, v5])), (ca, .inl (gI G, 2088, .inl f)), (wn, .inr (10, [.ref wn2])), (wn2, .inl (gI G, 148, .inl fwn))]) [1, 2, 3, 8, 9] rfl) hB rfl rfl) rfl rfl hl.1 rfl (lv_room (Nat.le_of_ble_eq_true rfl)) dX7_ofTree_89 ⟨Nat.le_of_ble_eq_true rfl, Nat.le_of_ble_eq_true rfl⟩)) (fun r_11 hr_11 => ?_)
    clear hr_11
    exact W.iret (v := r_11) hx hb hr (fun t ht hW => ⟨_, rfl, trivial, ht⟩) (fun q h => absurd h List.not_mem_nil) dX7_ofTree_92
  · refine lv_tableIn (off := 65) (tgt := 93) hx hb dX7_ofTree_28 (by rw [c_8]; decide) (by rw [c_8]; decide) (by rw [c_8]; rfl) (by decide) ?_
    refine lv_aload_n hx hb dX7_ofTree_93 rfl (lv_at hl 2 rfl) ?_
    refine va_get (D := gD G) (ci := 8) (v := .ref bd) (C := RX7) (T := TX7) (N := 4) hx hb hts (fun _ h9 => (List.mem_cons_of_mem _ (List.mem_append_right _ (List.mem_append_left _ h9)))) hown hK hP 0 rfl rfl 1 (by decide) (hts (.fieldLink RX7 15 "JudoHall$Podium" "board" "LJudoHall$Board;") (List.mem_cons_of_mem _ (List.mem_append_left _ (List.mem_of_getElem? (i := 0) rfl)))) (fun _ h9 => h9) rfl dX7_ofTree_94 ?_
    refine lv_iload_n hx hb dX7_ofTree_97 rfl (lv_at hl 3 rfl) ?_
    refine lv_iload_n hx hb dX7_ofTree_98 rfl (lv_at hl 1 rfl) ?_
    refine lv_iconst (v := 2) hx hb dX7_ofTree_99 (by decide) ?_
    refine lv_iload hx hb dX7_ofTree_100 (lv_at hl 0 rfl) ?_
    refine lv_imul hx hb dX7_ofTree_102 ?_
    refine lv_iadd hx hb dX7_ofTree_103 ?_
    refine vp_callSi (va_Run.run (va_runV (As := [.int x, .int (((rg f 2088 (4 + x * 36 + 3)) - 2) + (2 * ((((bfo f x) - ((rg f 2088 (4 + x * 36 + 3)) - 2)) - 1) / 2)))]) (rest := []) ⟨hx, hb, hml, hown, hts⟩ (g_BwinnerOf l G bd bk ca f v1 v2 v3 v4 v5 (.ref wt) (.ref bl) b_se b_lo wn wn2 fwn x (((rg f 2088 (4 + x * 36 + 3)) - 2) + (2 * ((((bfo f x) - ((rg f 2088 (4 + x * 36 + 3)) - 2)) - 1) / 2)))) (cwV 2 hts (gdV (List.mem_cons_of_mem _ (List.mem_append_left _ (List.mem_of_getElem? (i := 8) rfl))) (List.mem_cons_of_mem _ (List.mem_append_left _ (List.mem_of_getElem? (i := 9) rfl))) (List.mem_cons_of_mem _ (List.mem_append_left _ (List.mem_of_getElem? (i := 10) rfl))) (List.mem_cons_of_mem _ (List.mem_append_left _ (List.mem_of_getElem? (i := 4) rfl))) (fun w9 h9 => ⟨(List.mem_cons_of_mem _ (List.mem_append_right _ (List.mem_append_right _ (List.mem_append_right _ (List.mem_append_right _ (List.mem_append_left _ h9)))))), gd_g_BwinnerOf w9 h9⟩)) rfl rfl rfl kVX0_winnerOf ⟨Nat.le_of_ble_eq_true rfl, Nat.le_of_ble_eq_true rfl⟩) (preV_p (As := [.int x, .int (((rg f 2088 (4 + x * 36 + 3)) - 2) + (2 * ((((bfo f x) - ((rg f 2088 (4 + x * 36 + 3)) - 2)) - 1) / 2)))]) (hP.sub (ws' := [(bd, .inr (1, [.ref bk, .ref wt, .ref bl, .ref wn, b_se, b_lo])), (bk, .inr (2, [.ref ca, v1, v2, v3, v4, v5])), (ca, .inl (gI G, 2088, .inl f)), (wn, .inr (10, [.ref wn2])), (wn2, .inl (gI G, 148, .inl fwn))]) [1, 2, 3, 8, 9] rfl) hB rfl rfl) rfl rfl hl.1 rfl (lv_room (Nat.le_of_ble_eq_true rfl)) dX7_ofTree_104 ⟨Nat.le_of_ble_eq_true rfl, Nat.le_of_ble_eq_true rfl⟩)) (fun r_12 hr_12 => ?_)
    clear hr_12
    exact W.iret (v := r_12) hx hb hr (fun t ht hW => ⟨_, rfl, trivial, ht⟩) (fun q h => absurd h List.not_mem_nil) dX7_ofTree_107
