def wo_g_BloserOf : List Cond := [.methodLink RX0 68 yX0_winnerOf, .instanceMethod yX0_winnerOf, .selects RX0 yX0_winnerOf yX0_winnerOf, .initialized RX0, .methodLink RX0 71 yX0_whiteOf, .instanceMethod yX0_whiteOf, .selects RX0 yX0_whiteOf yX0_whiteOf, .methodLink RX0 74 yX0_blueOf, .instanceMethod yX0_blueOf, .selects RX0 yX0_blueOf yX0_blueOf]
def wq_g_BloserOf : List Cond := .code yX0_loserOf cX0_loserOf 4 (some .int) :: (wo_g_BloserOf ++ (wq_g_BwinnerOf ++ (wq_g_BwhiteOf ++ (wq_g_BblueOf ++ []))))
theorem gd_g_BloserOf : ∀ w ∈ wq_g_BloserOf, Gd w := List.forall_mem_cons.mpr ⟨Or.inl rfl, List.forall_mem_append.mpr ⟨gdl wo_g_BloserOf (by decide +kernel), (List.forall_mem_append.mpr ⟨gd_g_BwinnerOf, (List.forall_mem_append.mpr ⟨gd_g_BwhiteOf, (List.forall_mem_append.mpr ⟨gd_g_BblueOf, (fun _ h => absurd h List.not_mem_nil)⟩)⟩)⟩)⟩⟩
theorem in_g_BloserOf : ∀ w ∈ wq_g_BloserOf, w ∈ lw_tbl := List.forall_mem_cons.mpr ⟨List.mem_of_getElem? (i := 1421) (by decide +kernel), List.forall_mem_append.mpr ⟨inT wo_g_BloserOf [1154, 1155, 1156, 164, 1171, 1172, 1173, 1175, 1176, 1177] (by decide +kernel), (List.forall_mem_append.mpr ⟨in_g_BwinnerOf, (List.forall_mem_append.mpr ⟨in_g_BwhiteOf, (List.forall_mem_append.mpr ⟨in_g_BblueOf, (fun _ h => absurd h List.not_mem_nil)⟩)⟩)⟩)⟩⟩
set_option maxHeartbeats 4000000 in
set_option maxRecDepth 100000 in
theorem g_BloserOf (l : Launch) (G : gG) (bd : Nat) (bk : Nat) (ca : Nat) (f : Nat → Int32) (v1 : Value) (v2 : Value) (v3 : Value) (v4 : Value) (v5 : Value) (b_se : Value) (b_lo : Value) (wt : Nat) (wt2 : Nat) (fwt : Nat → Int32) (bl : Nat) (bl2 : Nat) (fbl : Nat → Int32) (wn : Nat) (wn2 : Nat) (fwn : Nat → Int32) (x : Int32) (y : Int32) : Met l yX0_loserOf wq_g_BloserOf ({ frames := 2, cells := 0, slots := 0, locals := 43 }) (va_Pc [.ref bd, .int x, .int y] (pP G [(bd, .inr (1, [.ref bk, .ref wt, .ref bl, .ref wn, b_se, b_lo])), (bk, .inr (2, [.ref ca, v1, v2, v3, v4, v5])), (ca, .inl (gI G, 2088, .inl f)), (wt, .inr (10, [.ref wt2])), (wt2, .inl (gI G, 148, .inl fwt)), (bl, .inr (10, [.ref bl2])), (bl2, .inl (gI G, 148, .inl fbl)), (wn, .inr (10, [.ref wn2])), (wn2, .inl (gI G, 148, .inl fwn))])) (vp_Si (fun r : Int32 => True)) 0 0 (fun _ => False) := by
  refine Met.ofW (cc := cX0_loserOf) (maxL := 4) (ret := (some .int)) (by decide) rfl ?_
  intro p e s m args below meth c s₁ B hml hv
  obtain ⟨rfl, hP, hB⟩ := hv
  have hx := B.exec
  have hb := B.bytes
  have hr := B.returns
  have hts := atoms_spec (ws := wq_g_BloserOf) B.pre
  have hown : s.vm.findClass RX0 = some m.cls := findClass_of_methodNamed B.named
  have hlocks := B.notSynchronized
  have hK := hB.1
  have hP : va_P (gD G) vwCl [(bd, .inr (1, [.ref bk, .ref wt, .ref bl, .ref wn, b_se, b_lo])), (bk, .inr (2, [.ref ca, v1, v2, v3, v4, v5])), (ca, .inl (gI G, 2088, .inl f)), (wt, .inr (10, [.ref wt2])), (wt2, .inl (gI G, 148, .inl fwt)), (bl, .inr (10, [.ref bl2])), (bl2, .inl (gI G, 148, .inl fbl)), (wn, .inr (10, [.ref wn2])), (wn2, .inl (gI G, 148, .inl fwn))] s.heap := hP
  have hl := lv_entry ([.ref bd, .int x, .int y]) (n := 4) (Nat.le_of_ble_eq_true rfl)
  rw [lg_entry_eq]
  generalize (lg_sl ([.ref bd, .int x, .int y]) ++ List.replicate (4 - (lg_sl ([.ref bd, .int x, .int y])).length) Slot.unset).toArray = ls at hl ⊢
  have hl : lv_has ls 4 [(0, .ref bd), (1, .int x), (2, .int y)] := hl
  refine lv_aload_n hx hb dX0_loserOf_0 rfl (lv_at hl 0 rfl) ?_
  refine lv_iload_n hx hb dX0_loserOf_1 rfl (lv_at hl 1 rfl) ?_
  refine lv_iload_n hx hb dX0_loserOf_2 rfl (lv_at hl 2 rfl) ?_
  refine vp_callSi (va_Run.run (va_runV (As := [.int x, .int y]) (rest := []) ⟨hx, hb, hml, hown, hts⟩ (g_BwinnerOf l G bd bk ca f v1 v2 v3 v4 v5 (.ref wt) (.ref bl) b_se b_lo wn wn2 fwn x y) (cwV 2 hts (gdV (List.mem_cons_of_mem _ (List.mem_append_left _ (List.mem_of_getElem? (i := 0) rfl))) (List.mem_cons_of_mem _ (List.mem_append_left _ (List.mem_of_getElem? (i := 1) rfl))) (List.mem_cons_of_mem _ (List.mem_append_left _ (List.mem_of_getElem? (i := 2) rfl))) (List.mem_cons_of_mem _ (List.mem_append_left _ (List.mem_of_getElem? (i := 3) rfl))) (fun w9 h9 => ⟨(List.mem_cons_of_mem _ (List.mem_append_right _ (List.mem_append_left _ h9))), gd_g_BwinnerOf w9 h9⟩)) rfl rfl rfl kVX0_winnerOf ⟨Nat.le_of_ble_eq_true rfl, Nat.le_of_ble_eq_true rfl⟩) (preV_p (As := [.int x, .int y]) (hP.sub (ws' := [(bd, .inr (1, [.ref bk, .ref wt, .ref bl, .ref wn, b_se, b_lo])), (bk, .inr (2, [.ref ca, v1, v2, v3, v4, v5])), (ca, .inl (gI G, 2088, .inl f)), (wn, .inr (10, [.ref wn2])), (wn2, .inl (gI G, 148, .inl fwn))]) [0, 1, 2, 7, 8] rfl) hB rfl rfl) rfl rfl hl.1 rfl (lv_room (Nat.le_of_ble_eq_true rfl)) dX0_loserOf_3 ⟨Nat.le_of_ble_eq_true rfl, Nat.le_of_ble_eq_true rfl⟩)) (fun r_1 hr_1 => ?_)
  clear hr_1
  refine lv_istore_n (lv' := [(3, .int r_1), (0, .ref bd), (1, .int x), (2, .int y)]) hx hb dX0_loserOf_6 rfl hl (by decide) rfl (fun ls hl => ?_)
  refine lv_iload_n hx hb dX0_loserOf_7 rfl (lv_at hl 0 rfl) ?_
  refine lv_iconst (v := (-1)) hx hb dX0_loserOf_8 (by decide) ?_
  refine lv_icmp_ne (tgt := 14) hx hb dX0_loserOf_9 (by decide) (fun c_2 => ?_) (fun c_2 => ?_)
  · skip
    refine lv_aload_n hx hb dX0_loserOf_14 rfl (lv_at hl 1 rfl) ?_
    refine lv_iload_n hx hb dX0_loserOf_15 rfl (lv_at hl 2 rfl) ?_
    refine lv_iload_n hx hb dX0_loserOf_16 rfl (lv_at hl 3 rfl) ?_
    refine vp_callSi (va_Run.run (va_runV (As := [.int x, .int y]) (rest := []) ⟨hx, hb, hml, hown, hts⟩ (g_BwhiteOf l G bd bk ca f v1 v2 v3 v4 v5 (.ref bl) (.ref wn) b_se b_lo wt wt2 fwt x y) (cwV 2 hts (gdV (List.mem_cons_of_mem _ (List.mem_append_left _ (List.mem_of_getElem? (i := 4) rfl))) (List.mem_cons_of_mem _ (List.mem_append_left _ (List.mem_of_getElem? (i := 5) rfl))) (List.mem_cons_of_mem _ (List.mem_append_left _ (List.mem_of_getElem? (i := 6) rfl))) (List.mem_cons_of_mem _ (List.mem_append_left _ (List.mem_of_getElem? (i := 3) rfl))) (fun w9 h9 => ⟨(List.mem_cons_of_mem _ (List.mem_append_right _ (List.mem_append_right _ (List.mem_append_left _ h9)))), gd_g_BwhiteOf w9 h9⟩)) rfl rfl rfl kVX0_whiteOf ⟨Nat.le_of_ble_eq_true rfl, Nat.le_of_ble_eq_true rfl⟩) (preV_p (As := [.int x, .int y]) (hP.sub (ws' := [(bd, .inr (1, [.ref bk, .ref wt, .ref bl, .ref wn, b_se, b_lo])), (bk, .inr (2, [.ref ca, v1, v2, v3, v4, v5])), (ca, .inl (gI G, 2088, .inl f)), (wt, .inr (10, [.ref wt2])), (wt2, .inl (gI G, 148, .inl fwt))]) [0, 1, 2, 3, 4] rfl) hB rfl rfl) rfl rfl hl.1 rfl (lv_room (Nat.le_of_ble_eq_true rfl)) dX0_loserOf_17 ⟨Nat.le_of_ble_eq_true rfl, Nat.le_of_ble_eq_true rfl⟩)) (fun r_3 hr_3 => ?_)
    clear hr_3
    refine lv_iload_n hx hb dX0_loserOf_20 rfl (lv_at hl 0 rfl) ?_
    refine lv_icmp_ne (tgt := 33) hx hb dX0_loserOf_21 (by decide) (fun c_4 => ?_) (fun c_4 => ?_)
    · skip
      refine lv_aload_n hx hb dX0_loserOf_33 rfl (lv_at hl 1 rfl) ?_
      refine lv_iload_n hx hb dX0_loserOf_34 rfl (lv_at hl 2 rfl) ?_
      refine lv_iload_n hx hb dX0_loserOf_35 rfl (lv_at hl 3 rfl) ?_
      refine vp_callSi (va_Run.run (va_runV (As := [.int x, .int y]) (rest := []) ⟨hx, hb, hml, hown, hts⟩ (g_BwhiteOf l G bd bk ca f v1 v2 v3 v4 v5 (.ref bl) (.ref wn) b_se b_lo wt wt2 fwt x y) (cwV 2 hts (gdV (List.mem_cons_of_mem _ (List.mem_append_left _ (List.mem_of_getElem? (i := 4) rfl))) (List.mem_cons_of_mem _ (List.mem_append_left _ (List.mem_of_getElem? (i := 5) rfl))) (List.mem_cons_of_mem _ (List.mem_append_left _ (List.mem_of_getElem? (i := 6) rfl))) (List.mem_cons_of_mem _ (List.mem_append_left _ (List.mem_of_getElem? (i := 3) rfl))) (fun w9 h9 => ⟨(List.mem_cons_of_mem _ (List.mem_append_right _ (List.mem_append_right _ (List.mem_append_left _ h9)))), gd_g_BwhiteOf w9 h9⟩)) rfl rfl rfl kVX0_whiteOf ⟨Nat.le_of_ble_eq_true rfl, Nat.le_of_ble_eq_true rfl⟩) (preV_p (As := [.int x, .int y]) (hP.sub (ws' := [(bd, .inr (1, [.ref bk, .ref wt, .ref bl, .ref wn, b_se, b_lo])), (bk, .inr (2, [.ref ca, v1, v2, v3, v4, v5])), (ca, .inl (gI G, 2088, .inl f)), (wt, .inr (10, [.ref wt2])), (wt2, .inl (gI G, 148, .inl fwt))]) [0, 1, 2, 3, 4] rfl) hB rfl rfl) rfl rfl hl.1 rfl (lv_room (Nat.le_of_ble_eq_true rfl)) dX0_loserOf_36 ⟨Nat.le_of_ble_eq_true rfl, Nat.le_of_ble_eq_true rfl⟩)) (fun r_5 hr_5 => ?_)
      clear hr_5
      exact W.iret (v := r_5) hx hb hr (fun t ht hW => ⟨_, rfl, trivial, ht⟩) (fun q h => absurd h List.not_mem_nil) dX0_loserOf_39
    · skip
      refine lv_aload_n hx hb dX0_loserOf_24 rfl (lv_at hl 1 rfl) ?_
      refine lv_iload_n hx hb dX0_loserOf_25 rfl (lv_at hl 2 rfl) ?_
      refine lv_iload_n hx hb dX0_loserOf_26 rfl (lv_at hl 3 rfl) ?_
      refine vp_callSi (va_Run.run (va_runV (As := [.int x, .int y]) (rest := []) ⟨hx, hb, hml, hown, hts⟩ (g_BblueOf l G bd bk ca f v1 v2 v3 v4 v5 (.ref wt) (.ref wn) b_se b_lo bl bl2 fbl x y) (cwV 2 hts (gdV (List.mem_cons_of_mem _ (List.mem_append_left _ (List.mem_of_getElem? (i := 7) rfl))) (List.mem_cons_of_mem _ (List.mem_append_left _ (List.mem_of_getElem? (i := 8) rfl))) (List.mem_cons_of_mem _ (List.mem_append_left _ (List.mem_of_getElem? (i := 9) rfl))) (List.mem_cons_of_mem _ (List.mem_append_left _ (List.mem_of_getElem? (i := 3) rfl))) (fun w9 h9 => ⟨(List.mem_cons_of_mem _ (List.mem_append_right _ (List.mem_append_right _ (List.mem_append_right _ (List.mem_append_left _ h9))))), gd_g_BblueOf w9 h9⟩)) rfl rfl rfl kVX0_blueOf ⟨Nat.le_of_ble_eq_true rfl, Nat.le_of_ble_eq_true rfl⟩) (preV_p (As := [.int x, .int y]) (hP.sub (ws' := [(bd, .inr (1, [.ref bk, .ref wt, .ref bl, .ref wn, b_se, b_lo])), (bk, .inr (2, [.ref ca, v1, v2, v3, v4, v5])), (ca, .inl (gI G, 2088, .inl f)), (bl, .inr (10, [.ref bl2])), (bl2, .inl (gI G, 148, .inl fbl))]) [0, 1, 2, 5, 6] rfl) hB rfl rfl) rfl rfl hl.1 rfl (lv_room (Nat.le_of_ble_eq_true rfl)) dX0_loserOf_27 ⟨Nat.le_of_ble_eq_true rfl, Nat.le_of_ble_eq_true rfl⟩)) (fun r_6 hr_6 => ?_)
      clear hr_6
      refine lv_goto (tgt := 39) hx hb dX0_loserOf_30 (by decide) ?_
      exact W.iret (v := r_6) hx hb hr (fun t ht hW => ⟨_, rfl, trivial, ht⟩) (fun q h => absurd h List.not_mem_nil) dX0_loserOf_39
  · skip
    refine lv_iconst (v := (-1)) hx hb dX0_loserOf_12 (by decide) ?_
    exact W.iret (v := (-1)) hx hb hr (fun t ht hW => ⟨_, rfl, trivial, ht⟩) (fun q h => absurd h List.not_mem_nil) dX0_loserOf_13

def wo_g_BhowMany : List Cond := [.methodLink RX0 59 yX0_fightsOf, .instanceMethod yX0_fightsOf, .selects RX0 yX0_fightsOf yX0_fightsOf, .initialized RX0, .methodLink RX0 77 yX0_stateOf, .instanceMethod yX0_stateOf, .selects RX0 yX0_stateOf yX0_stateOf]
def wq_g_BhowMany : List Cond := .code yX0_howMany cX0_howMany 5 (some .int) :: (wo_g_BhowMany ++ (wq_g_BfightsOf ++ (wq_g_BstateOf ++ [])))
theorem gd_g_BhowMany : ∀ w ∈ wq_g_BhowMany, Gd w := List.forall_mem_cons.mpr ⟨Or.inl rfl, List.forall_mem_append.mpr ⟨gdl wo_g_BhowMany (by decide +kernel), (List.forall_mem_append.mpr ⟨gd_g_BfightsOf, (List.forall_mem_append.mpr ⟨gd_g_BstateOf, (fun _ h => absurd h List.not_mem_nil)⟩)⟩)⟩⟩
theorem in_g_BhowMany : ∀ w ∈ wq_g_BhowMany, w ∈ lw_tbl := List.forall_mem_cons.mpr ⟨List.mem_of_getElem? (i := 1200) (by decide +kernel), List.forall_mem_append.mpr ⟨inT wo_g_BhowMany [1201, 1180, 1181, 164, 1202, 1203, 1204] (by decide +kernel), (List.forall_mem_append.mpr ⟨in_g_BfightsOf, (List.forall_mem_append.mpr ⟨in_g_BstateOf, (fun _ h => absurd h List.not_mem_nil)⟩)⟩)⟩⟩
set_option maxHeartbeats 4000000 in
set_option maxRecDepth 100000 in
theorem g_BhowMany (l : Launch) (G : gG) (bd : Nat) (bk : Nat) (ca : Nat) (f : Nat → Int32) (v1 : Value) (v2 : Value) (v3 : Value) (v4 : Value) (v5 : Value) (b_wt : Value) (b_bl : Value) (b_wn : Value) (b_lo : Value) (se : Nat) (se2 : Nat) (fse : Nat → Int32) (x : Int32) (y : Int32) : Met l yX0_howMany wq_g_BhowMany ({ frames := 3, cells := 0, slots := 0, locals := 64 }) (va_Pc [.ref bd, .int x, .int y] (pP G [(bd, .inr (1, [.ref bk, b_wt, b_bl, b_wn, .ref se, b_lo])), (bk, .inr (2, [.ref ca, v1, v2, v3, v4, v5])), (ca, .inl (gI G, 2088, .inl f)), (se, .inr (10, [.ref se2])), (se2, .inl (gI G, 148, .inl fse))])) (vp_Si (fun r : Int32 => True)) 0 0 (fun _ => False) := by
  refine Met.ofW (cc := cX0_howMany) (maxL := 5) (ret := (some .int)) (by decide) rfl ?_
  intro p e s m args below meth c s₁ B hml hv
  obtain ⟨rfl, hP, hB⟩ := hv
  have hx := B.exec
  have hb := B.bytes
  have hr := B.returns
  have hts := atoms_spec (ws := wq_g_BhowMany) B.pre
  have hown : s.vm.findClass RX0 = some m.cls := findClass_of_methodNamed B.named
  have hlocks := B.notSynchronized
  have hK := hB.1
  have hP : va_P (gD G) vwCl [(bd, .inr (1, [.ref bk, b_wt, b_bl, b_wn, .ref se, b_lo])), (bk, .inr (2, [.ref ca, v1, v2, v3, v4, v5])), (ca, .inl (gI G, 2088, .inl f)), (se, .inr (10, [.ref se2])), (se2, .inl (gI G, 148, .inl fse))] s.heap := hP
  have hl := lv_entry ([.ref bd, .int x, .int y]) (n := 5) (Nat.le_of_ble_eq_true rfl)
  rw [lg_entry_eq]
  generalize (lg_sl ([.ref bd, .int x, .int y]) ++ List.replicate (5 - (lg_sl ([.ref bd, .int x, .int y])).length) Slot.unset).toArray = ls at hl ⊢
  have hl : lv_has ls 5 [(0, .ref bd), (1, .int x), (2, .int y)] := hl
  refine lv_iconst (v := 0) hx hb dX0_howMany_0 (by decide) ?_
  refine lv_istore_n (lv' := [(3, .int 0), (0, .ref bd), (1, .int x), (2, .int y)]) hx hb dX0_howMany_1 rfl hl (by decide) rfl (fun ls hl => ?_)
  refine lv_iconst (v := 0) hx hb dX0_howMany_2 (by decide) ?_
  refine lv_istore (lv' := [(4, .int 0), (3, .int 0), (0, .ref bd), (1, .int x), (2, .int y)]) hx hb dX0_howMany_3 hl (by decide) rfl (fun ls hl => ?_)
  have hloop5 : ∀ (k9 : Nat) (k4 : Nat) (z3 : Int32), (bfo f x).toNatClampNeg - k4 < k9 → (k4 ≤ (bfo f x).toNatClampNeg) → ∀ (ls : Array Slot), lv_has ls 5 [(4, .int (nI k4)), (3, .int z3), (0, .ref bd), (1, .int x), (2, .int y)] → W p l e (headSpec wq_g_BhowMany ({ frames := 3, cells := 0, slots := 0, locals := 64 })).room s m [.ref bd, .int x, .int y].toArray below meth c s.heap [] 0 0 (MQ below (vp_Si (fun r : Int32 => True)) [.ref bd, .int x, .int y].toArray s 0 0 (fun _ => False)) (F0 m 5 ls []) := by
    intro k9
    induction k9 with
    | zero => intro k4 z3 h9; exact absurd h9 (Nat.not_lt_zero _)
    | succ k9 ih5 =>
      intro k4 z3 hm5 hb_k4 ls hl
      refine lv_iload hx hb dX0_howMany_5 (lv_at hl 0 rfl) ?_
      refine lv_aload_n hx hb dX0_howMany_7 rfl (lv_at hl 2 rfl) ?_
      refine lv_iload_n hx hb dX0_howMany_8 rfl (lv_at hl 3 rfl) ?_
      refine vp_callSi (va_Run.run (va_runV (As := [.int x]) (rest := [.int (nI k4)]) ⟨hx, hb, hml, hown, hts⟩ (g_BfightsOf l G bd bk ca f v1 v2 v3 v4 v5 b_wt b_bl b_wn (.ref se) b_lo x) (cwV 1 hts (gdV (List.mem_cons_of_mem _ (List.mem_append_left _ (List.mem_of_getElem? (i := 0) rfl))) (List.mem_cons_of_mem _ (List.mem_append_left _ (List.mem_of_getElem? (i := 1) rfl))) (List.mem_cons_of_mem _ (List.mem_append_left _ (List.mem_of_getElem? (i := 2) rfl))) (List.mem_cons_of_mem _ (List.mem_append_left _ (List.mem_of_getElem? (i := 3) rfl))) (fun w9 h9 => ⟨(List.mem_cons_of_mem _ (List.mem_append_right _ (List.mem_append_left _ h9))), gd_g_BfightsOf w9 h9⟩)) rfl rfl rfl kVX0_fightsOf ⟨Nat.le_of_ble_eq_true rfl, Nat.le_of_ble_eq_true rfl⟩) (preV_p (As := [.int x]) (hP.sub (ws' := [(bd, .inr (1, [.ref bk, b_wt, b_bl, b_wn, .ref se, b_lo])), (bk, .inr (2, [.ref ca, v1, v2, v3, v4, v5])), (ca, .inl (gI G, 2088, .inl f))]) [0, 1, 2] rfl) hB rfl rfl) rfl rfl hl.1 rfl (lv_room (Nat.le_of_ble_eq_true rfl)) dX0_howMany_9 ⟨Nat.le_of_ble_eq_true rfl, Nat.le_of_ble_eq_true rfl⟩)) (fun r_1 hr_1 => ?_)
      subst hr_1
      refine lv_icmp_ge (tgt := 40) hx hb dX0_howMany_12 (by decide) (fun c_2 => ?_) (fun c_2 => ?_)
      · skip
        refine lv_iload_n hx hb dX0_howMany_40 rfl (lv_at hl 1 rfl) ?_
        exact W.iret (v := z3) hx hb hr (fun t ht hW => ⟨_, rfl, trivial, ht⟩) (fun q h => absurd h List.not_mem_nil) dX0_howMany_41
      · have hl_k4 := gl_lt (B := bfo f x) hb_k4 c_2
        refine lv_iload_n hx hb dX0_howMany_15 rfl (lv_at hl 1 rfl) ?_
        refine lv_aload_n hx hb dX0_howMany_16 rfl (lv_at hl 2 rfl) ?_
        refine lv_iload_n hx hb dX0_howMany_17 rfl (lv_at hl 3 rfl) ?_
        refine lv_iload hx hb dX0_howMany_18 (lv_at hl 0 rfl) ?_
        refine vp_callSi (va_Run.run (va_runV (As := [.int x, .int (nI k4)]) (rest := [.int z3]) ⟨hx, hb, hml, hown, hts⟩ (g_BstateOf l G bd bk ca f v1 v2 v3 v4 v5 b_wt b_bl b_wn b_lo se se2 fse x (nI k4)) (cwV 2 hts (gdV (List.mem_cons_of_mem _ (List.mem_append_left _ (List.mem_of_getElem? (i := 4) rfl))) (List.mem_cons_of_mem _ (List.mem_append_left _ (List.mem_of_getElem? (i := 5) rfl))) (List.mem_cons_of_mem _ (List.mem_append_left _ (List.mem_of_getElem? (i := 6) rfl))) (List.mem_cons_of_mem _ (List.mem_append_left _ (List.mem_of_getElem? (i := 3) rfl))) (fun w9 h9 => ⟨(List.mem_cons_of_mem _ (List.mem_append_right _ (List.mem_append_right _ (List.mem_append_left _ h9)))), gd_g_BstateOf w9 h9⟩)) rfl rfl rfl kVX0_stateOf ⟨Nat.le_of_ble_eq_true rfl, Nat.le_of_ble_eq_true rfl⟩) (preV_p (As := [.int x, .int (nI k4)]) (hP.sub (ws' := [(bd, .inr (1, [.ref bk, b_wt, b_bl, b_wn, .ref se, b_lo])), (bk, .inr (2, [.ref ca, v1, v2, v3, v4, v5])), (ca, .inl (gI G, 2088, .inl f)), (se, .inr (10, [.ref se2])), (se2, .inl (gI G, 148, .inl fse))]) [0, 1, 2, 3, 4] rfl) hB rfl rfl) rfl rfl hl.1 rfl (lv_room (Nat.le_of_ble_eq_true rfl)) dX0_howMany_20 ⟨Nat.le_of_ble_eq_true rfl, Nat.le_of_ble_eq_true rfl⟩)) (fun r_3 hr_3 => ?_)
        clear hr_3
        refine lv_iload_n hx hb dX0_howMany_23 rfl (lv_at hl 4 rfl) ?_
        refine lv_icmp_ne (tgt := 31) hx hb dX0_howMany_24 (by decide) (fun c_4 => ?_) (fun c_4 => ?_)
        · skip
          refine lv_iconst (v := 0) hx hb dX0_howMany_31 (by decide) ?_
          refine lv_iadd hx hb dX0_howMany_32 ?_
          refine lv_istore_n (lv' := [(3, .int (z3 + 0)), (4, .int (nI k4)), (0, .ref bd), (1, .int x), (2, .int y)]) hx hb dX0_howMany_33 rfl hl (by decide) rfl (fun ls hl => ?_)
          refine lv_iinc (v := (nI (k4 + 1))) (lv' := [(4, .int (nI (k4 + 1))), (3, .int (z3 + 0)), (0, .ref bd), (1, .int x), (2, .int y)]) hx hb dX0_howMany_34 hl (k := 1) rfl (nI_1 k4) (by decide) rfl (fun ls hl => ?_)
          refine lv_goto (tgt := 5) hx hb dX0_howMany_37 (by decide) ?_
          exact ih5 (k4 + 1) (z3 + 0) (by omega) (hl_k4) _ (lv_sub hl [0, 1, 2, 3, 4] rfl) 
        · skip
          refine lv_iconst (v := 1) hx hb dX0_howMany_27 (by decide) ?_
          refine lv_goto (tgt := 32) hx hb dX0_howMany_28 (by decide) ?_
          refine lv_iadd hx hb dX0_howMany_32 ?_
          refine lv_istore_n (lv' := [(3, .int (z3 + 1)), (4, .int (nI k4)), (0, .ref bd), (1, .int x), (2, .int y)]) hx hb dX0_howMany_33 rfl hl (by decide) rfl (fun ls hl => ?_)
          refine lv_iinc (v := (nI (k4 + 1))) (lv' := [(4, .int (nI (k4 + 1))), (3, .int (z3 + 1)), (0, .ref bd), (1, .int x), (2, .int y)]) hx hb dX0_howMany_34 hl (k := 1) rfl (nI_1 k4) (by decide) rfl (fun ls hl => ?_)
          refine lv_goto (tgt := 5) hx hb dX0_howMany_37 (by decide) ?_
          exact ih5 (k4 + 1) (z3 + 1) (by omega) (hl_k4) _ (lv_sub hl [0, 1, 2, 3, 4] rfl) 
  exact hloop5 (((bfo f x).toNatClampNeg - 0) + 1) 0 0 (Nat.lt_succ_self _) (Nat.zero_le _) _ (lv_sub hl [0, 1, 2, 3, 4] rfl)

def wo_g_BfirstStale : List Cond := [.methodLink RX0 59 yX0_fightsOf, .instanceMethod yX0_fightsOf, .selects RX0 yX0_fightsOf yX0_fightsOf, .initialized RX0, .fieldLink RX0 11 "JudoHall$Board" "book" "LJudoHall$Book;", .methodLink RX0 110 yX1_ofFight, .static yX1_ofFight, .initialized RX1, .methodLink RX0 42 yX1_at, .instanceMethod yX1_at, .selects RX1 yX1_at yX1_at, .methodLink RX0 71 yX0_whiteOf, .instanceMethod yX0_whiteOf, .selects RX0 yX0_whiteOf yX0_whiteOf, .methodLink RX0 74 yX0_blueOf, .instanceMethod yX0_blueOf, .selects RX0 yX0_blueOf yX0_blueOf]
def wq_g_BfirstStale : List Cond := .code yX0_firstStale cX0_firstStale 5 (some .int) :: (wo_g_BfirstStale ++ (wq_g_BfightsOf ++ (wsX00 ++ (wq_g_ofFight ++ (wq_c_Book_at ++ (wq_g_BwhiteOf ++ (wq_g_BblueOf ++ [])))))))
theorem gd_g_BfirstStale : ∀ w ∈ wq_g_BfirstStale, Gd w := List.forall_mem_cons.mpr ⟨Or.inl rfl, List.forall_mem_append.mpr ⟨gdl wo_g_BfirstStale (by decide +kernel), (List.forall_mem_append.mpr ⟨gd_g_BfightsOf, (List.forall_mem_append.mpr ⟨gd_wsX00, (List.forall_mem_append.mpr ⟨gd_g_ofFight, (List.forall_mem_append.mpr ⟨gd_c_Book_at, (List.forall_mem_append.mpr ⟨gd_g_BwhiteOf, (List.forall_mem_append.mpr ⟨gd_g_BblueOf, (fun _ h => absurd h List.not_mem_nil)⟩)⟩)⟩)⟩)⟩)⟩)⟩⟩
theorem in_g_BfirstStale : ∀ w ∈ wq_g_BfirstStale, w ∈ lw_tbl := List.forall_mem_cons.mpr ⟨List.mem_of_getElem? (i := 1375) (by decide +kernel), List.forall_mem_append.mpr ⟨inT wo_g_BfirstStale [1201, 1180, 1181, 164, 415, 1135, 1136, 155, 995, 623, 624, 1171, 1172, 1173, 1175, 1176, 1177] (by decide +kernel), (List.forall_mem_append.mpr ⟨in_g_BfightsOf, (List.forall_mem_append.mpr ⟨in_wsX00, (List.forall_mem_append.mpr ⟨in_g_ofFight, (List.forall_mem_append.mpr ⟨in_c_Book_at, (List.forall_mem_append.mpr ⟨in_g_BwhiteOf, (List.forall_mem_append.mpr ⟨in_g_BblueOf, (fun _ h => absurd h List.not_mem_nil)⟩)⟩)⟩)⟩)⟩)⟩)⟩⟩
set_option maxHeartbeats 4000000 in
set_option maxRecDepth 100000 in
theorem g_BfirstStale (l : Launch) (G : gG) (bd : Nat) (bk : Nat) (ca : Nat) (f : Nat → Int32) (v1 : Value) (v2 : Value) (v3 : Value) (v4 : Value) (v5 : Value) (b_wn : Value) (b_se : Value) (b_lo : Value) (wt : Nat) (wt2 : Nat) (fwt : Nat → Int32) (bl : Nat) (bl2 : Nat) (fbl : Nat → Int32) (x : Int32) : Met l yX0_firstStale wq_g_BfirstStale ({ frames := 3, cells := 0, slots := 0, locals := 64 }) (va_Pc [.ref bd, .int x] (pP G [(bd, .inr (1, [.ref bk, .ref wt, .ref bl, b_wn, b_se, b_lo])), (bk, .inr (2, [.ref ca, v1, v2, v3, v4, v5])), (ca, .inl (gI G, 2088, .inl f)), (wt, .inr (10, [.ref wt2])), (wt2, .inl (gI G, 148, .inl fwt)), (bl, .inr (10, [.ref bl2])), (bl2, .inl (gI G, 148, .inl fbl))])) (vp_Si (fun r : Int32 => True)) 0 0 (fun _ => False) := by
  refine Met.ofW (cc := cX0_firstStale) (maxL := 5) (ret := (some .int)) (by decide) rfl ?_
  intro p e s m args below meth c s₁ B hml hv
  obtain ⟨rfl, hP, hB⟩ := hv
  have hx := B.exec
  have hb := B.bytes
  have hr := B.returns
  have hts := atoms_spec (ws := wq_g_BfirstStale) B.pre
  have hown : s.vm.findClass RX0 = some m.cls := findClass_of_methodNamed B.named
  have hlocks := B.notSynchronized
  have hK := hB.1
  have hP : va_P (gD G) vwCl [(bd, .inr (1, [.ref bk, .ref wt, .ref bl, b_wn, b_se, b_lo])), (bk, .inr (2, [.ref ca, v1, v2, v3, v4, v5])), (ca, .inl (gI G, 2088, .inl f)), (wt, .inr (10, [.ref wt2])), (wt2, .inl (gI G, 148, .inl fwt)), (bl, .inr (10, [.ref bl2])), (bl2, .inl (gI G, 148, .inl fbl))] s.heap := hP
  have hl := lv_entry ([.ref bd, .int x]) (n := 5) (Nat.le_of_ble_eq_true rfl)
  rw [lg_entry_eq]
  generalize (lg_sl ([.ref bd, .int x]) ++ List.replicate (5 - (lg_sl ([.ref bd, .int x])).length) Slot.unset).toArray = ls at hl ⊢
  have hl : lv_has ls 5 [(0, .ref bd), (1, .int x)] := hl
  refine lv_iconst (v := 0) hx hb dX0_firstStale_0 (by decide) ?_
  refine lv_istore_n (lv' := [(2, .int 0), (0, .ref bd), (1, .int x)]) hx hb dX0_firstStale_1 rfl hl (by decide) rfl (fun ls hl => ?_)
  have hloop2 : ∀ (k9 : Nat) (k2 : Nat), (bfo f x).toNatClampNeg - k2 < k9 → (k2 ≤ (bfo f x).toNatClampNeg) → ∀ (ls : Array Slot), lv_has ls 5 [(2, .int (nI k2)), (0, .ref bd), (1, .int x)] → W p l e (headSpec wq_g_BfirstStale ({ frames := 3, cells := 0, slots := 0, locals := 64 })).room s m [.ref bd, .int x].toArray below meth c s.heap [] 0 0 (MQ below (vp_Si (fun r : Int32 => True)) [.ref bd, .int x].toArray s 0 0 (fun _ => False)) (F0 m 2 ls []) := by
    intro k9
    induction k9 with
    | zero => intro k2 h9; exact absurd h9 (Nat.not_lt_zero _)
    | succ k9 ih2 =>
      intro k2 hm2 hb_k2 ls hl
      refine lv_iload_n hx hb dX0_firstStale_2 rfl (lv_at hl 0 rfl) ?_
      refine lv_aload_n hx hb dX0_firstStale_3 rfl (lv_at hl 1 rfl) ?_
      refine lv_iload_n hx hb dX0_firstStale_4 rfl (lv_at hl 2 rfl) ?_
      refine vp_callSi (va_Run.run (va_runV (As := [.int x]) (rest := [.int (nI k2)]) ⟨hx, hb, hml, hown, hts⟩ (g_BfightsOf l G bd bk ca f v1 v2 v3 v4 v5 (.ref wt) (.ref bl) b_wn b_se b_lo x) (cwV 1 hts (gdV (List.mem_cons_of_mem _ (List.mem_append_left _ (List.mem_of_getElem? (i := 0) rfl))) (List.mem_cons_of_mem _ (List.mem_append_left _ (List.mem_of_getElem? (i := 1) rfl))) (List.mem_cons_of_mem _ (List.mem_append_left _ (List.mem_of_getElem? (i := 2) rfl))) (List.mem_cons_of_mem _ (List.mem_append_left _ (List.mem_of_getElem? (i := 3) rfl))) (fun w9 h9 => ⟨(List.mem_cons_of_mem _ (List.mem_append_right _ (List.mem_append_left _ h9))), gd_g_BfightsOf w9 h9⟩)) rfl rfl rfl kVX0_fightsOf ⟨Nat.le_of_ble_eq_true rfl, Nat.le_of_ble_eq_true rfl⟩) (preV_p (As := [.int x]) (hP.sub (ws' := [(bd, .inr (1, [.ref bk, .ref wt, .ref bl, b_wn, b_se, b_lo])), (bk, .inr (2, [.ref ca, v1, v2, v3, v4, v5])), (ca, .inl (gI G, 2088, .inl f))]) [0, 1, 2] rfl) hB rfl rfl) rfl rfl hl.1 rfl (lv_room (Nat.le_of_ble_eq_true rfl)) dX0_firstStale_5 ⟨Nat.le_of_ble_eq_true rfl, Nat.le_of_ble_eq_true rfl⟩)) (fun r_1 hr_1 => ?_)
      subst hr_1
      refine lv_icmp_ge (tgt := 101) hx hb dX0_firstStale_8 (by decide) (fun c_2 => ?_) (fun c_2 => ?_)
      · skip
        refine lv_iconst (v := (-1)) hx hb dX0_firstStale_101 (by decide) ?_
        exact W.iret (v := (-1)) hx hb hr (fun t ht hW => ⟨_, rfl, trivial, ht⟩) (fun q h => absurd h List.not_mem_nil) dX0_firstStale_102
      · have hl_k2 := gl_lt (B := bfo f x) hb_k2 c_2
        refine lv_aload_n hx hb dX0_firstStale_11 rfl (lv_at hl 1 rfl) ?_
        refine va_get (D := gD G) (ci := 1) (v := .ref bk) (C := RX0) (T := TX0) (N := 6) hx hb hts (fun _ h9 => (List.mem_cons_of_mem _ (List.mem_append_right _ (List.mem_append_right _ (List.mem_append_left _ h9))))) hown hK hP 0 rfl rfl 0 (by decide) (hts (.fieldLink RX0 11 "JudoHall$Board" "book" "LJudoHall$Book;") (List.mem_cons_of_mem _ (List.mem_append_left _ (List.mem_of_getElem? (i := 4) rfl)))) (fun _ h9 => h9) rfl dX0_firstStale_12 ?_
        refine lv_iload_n hx hb dX0_firstStale_15 rfl (lv_at hl 2 rfl) ?_
        refine lv_iload_n hx hb dX0_firstStale_16 rfl (lv_at hl 0 rfl) ?_
        refine lv_iconst (v := 0) hx hb dX0_firstStale_17 (by decide) ?_
        refine vp_callSi (va_Run.run (va_runS (As := [.int x, .int (nI k2), .int 0]) (rest := [.ref bk]) ⟨hx, hb, hml, hown, hts⟩ (g_ofFight l G x (nI k2) 0) (va_cwS 3 hts (gdS (List.mem_cons_of_mem _ (List.mem_append_left _ (List.mem_of_getElem? (i := 5) rfl))) (List.mem_cons_of_mem _ (List.mem_append_left _ (List.mem_of_getElem? (i := 6) rfl))) (List.mem_cons_of_mem _ (List.mem_append_left _ (List.mem_of_getElem? (i := 7) rfl))) (fun w9 h9 => ⟨(List.mem_cons_of_mem _ (List.mem_append_right _ (List.mem_append_right _ (List.mem_append_right _ (List.mem_append_left _ h9))))), gd_g_ofFight w9 h9⟩)) rfl rfl rfl kSX1_ofFight ⟨Nat.le_of_ble_eq_true rfl, Nat.le_of_ble_eq_true rfl⟩) (preS_p (As := [.int x, .int (nI k2), .int 0]) (hP.sub (ws' := []) [] rfl) hB) rfl rfl hl.1 rfl (lv_room (Nat.le_of_ble_eq_true rfl)) dX0_firstStale_18 ⟨Nat.le_of_ble_eq_true rfl, Nat.le_of_ble_eq_true rfl⟩)) (fun r_3 hr_3 => ?_)
        clear hr_3
        refine vp_callSi (va_Run.run (va_runV (As := [.int r_3]) (rest := []) ⟨hx, hb, hml, hown, hts⟩ (c_Book_at l G bk ca 2088 f v1 v2 v3 v4 v5 r_3 (by decide)) (cwV 1 hts (gdV (List.mem_cons_of_mem _ (List.mem_append_left _ (List.mem_of_getElem? (i := 8) rfl))) (List.mem_cons_of_mem _ (List.mem_append_left _ (List.mem_of_getElem? (i := 9) rfl))) (List.mem_cons_of_mem _ (List.mem_append_left _ (List.mem_of_getElem? (i := 10) rfl))) (List.mem_cons_of_mem _ (List.mem_append_left _ (List.mem_of_getElem? (i := 7) rfl))) (fun w9 h9 => ⟨(List.mem_cons_of_mem _ (List.mem_append_right _ (List.mem_append_right _ (List.mem_append_right _ (List.mem_append_right _ (List.mem_append_left _ h9)))))), gd_c_Book_at w9 h9⟩)) rfl rfl rfl kVX1_at ⟨Nat.le_of_ble_eq_true rfl, Nat.le_of_ble_eq_true rfl⟩) (preV_p (As := [.int r_3]) (hP.sub (ws' := [(bk, .inr (2, [.ref ca, v1, v2, v3, v4, v5])), (ca, .inl (gI G, 2088, .inl f))]) [1, 2] rfl) hB rfl rfl) rfl rfl hl.1 rfl (lv_room (Nat.le_of_ble_eq_true rfl)) dX0_firstStale_21 ⟨Nat.le_of_ble_eq_true rfl, Nat.le_of_ble_eq_true rfl⟩)) (fun r_4 hr_4 => ?_)
        subst hr_4
        refine lv_if_eq (tgt := 31) hx hb dX0_firstStale_24 (by decide) (fun c_5 => ?_) (fun c_5 => ?_)
        · skip
          refine lv_iconst (v := 0) hx hb dX0_firstStale_31 (by decide) ?_
          refine lv_istore_n (lv' := [(3, .int 0), (2, .int (nI k2)), (0, .ref bd), (1, .int x)]) hx hb dX0_firstStale_32 rfl hl (by decide) rfl (fun ls hl => ?_)
          refine lv_aload_n hx hb dX0_firstStale_33 rfl (lv_at hl 2 rfl) ?_
          refine va_get (D := gD G) (ci := 1) (v := .ref bk) (C := RX0) (T := TX0) (N := 6) hx hb hts (fun _ h9 => (List.mem_cons_of_mem _ (List.mem_append_right _ (List.mem_append_right _ (List.mem_append_left _ h9))))) hown hK hP 0 rfl rfl 0 (by decide) (hts (.fieldLink RX0 11 "JudoHall$Board" "book" "LJudoHall$Book;") (List.mem_cons_of_mem _ (List.mem_append_left _ (List.mem_of_getElem? (i := 4) rfl)))) (fun _ h9 => h9) rfl dX0_firstStale_34 ?_
          refine lv_iload_n hx hb dX0_firstStale_37 rfl (lv_at hl 3 rfl) ?_
          refine lv_iload_n hx hb dX0_firstStale_38 rfl (lv_at hl 1 rfl) ?_
          refine lv_iconst (v := 1) hx hb dX0_firstStale_39 (by decide) ?_
          refine vp_callSi (va_Run.run (va_runS (As := [.int x, .int (nI k2), .int 1]) (rest := [.ref bk]) ⟨hx, hb, hml, hown, hts⟩ (g_ofFight l G x (nI k2) 1) (va_cwS 3 hts (gdS (List.mem_cons_of_mem _ (List.mem_append_left _ (List.mem_of_getElem? (i := 5) rfl))) (List.mem_cons_of_mem _ (List.mem_append_left _ (List.mem_of_getElem? (i := 6) rfl))) (List.mem_cons_of_mem _ (List.mem_append_left _ (List.mem_of_getElem? (i := 7) rfl))) (fun w9 h9 => ⟨(List.mem_cons_of_mem _ (List.mem_append_right _ (List.mem_append_right _ (List.mem_append_right _ (List.mem_append_left _ h9))))), gd_g_ofFight w9 h9⟩)) rfl rfl rfl kSX1_ofFight ⟨Nat.le_of_ble_eq_true rfl, Nat.le_of_ble_eq_true rfl⟩) (preS_p (As := [.int x, .int (nI k2), .int 1]) (hP.sub (ws' := []) [] rfl) hB) rfl rfl hl.1 rfl (lv_room (Nat.le_of_ble_eq_true rfl)) dX0_firstStale_40 ⟨Nat.le_of_ble_eq_true rfl, Nat.le_of_ble_eq_true rfl⟩)) (fun r_6 hr_6 => ?_)
          clear hr_6
          refine vp_callSi (va_Run.run (va_runV (As := [.int r_6]) (rest := []) ⟨hx, hb, hml, hown, hts⟩ (c_Book_at l G bk ca 2088 f v1 v2 v3 v4 v5 r_6 (by decide)) (cwV 1 hts (gdV (List.mem_cons_of_mem _ (List.mem_append_left _ (List.mem_of_getElem? (i := 8) rfl))) (List.mem_cons_of_mem _ (List.mem_append_left _ (List.mem_of_getElem? (i := 9) rfl))) (List.mem_cons_of_mem _ (List.mem_append_left _ (List.mem_of_getElem? (i := 10) rfl))) (List.mem_cons_of_mem _ (List.mem_append_left _ (List.mem_of_getElem? (i := 7) rfl))) (fun w9 h9 => ⟨(List.mem_cons_of_mem _ (List.mem_append_right _ (List.mem_append_right _ (List.mem_append_right _ (List.mem_append_right _ (List.mem_append_left _ h9)))))), gd_c_Book_at w9 h9⟩)) rfl rfl rfl kVX1_at ⟨Nat.le_of_ble_eq_true rfl, Nat.le_of_ble_eq_true rfl⟩) (preV_p (As := [.int r_6]) (hP.sub (ws' := [(bk, .inr (2, [.ref ca, v1, v2, v3, v4, v5])), (ca, .inl (gI G, 2088, .inl f))]) [1, 2] rfl) hB rfl rfl) rfl rfl hl.1 rfl (lv_room (Nat.le_of_ble_eq_true rfl)) dX0_firstStale_43 ⟨Nat.le_of_ble_eq_true rfl, Nat.le_of_ble_eq_true rfl⟩)) (fun r_7 hr_7 => ?_)
          subst hr_7
          refine lv_aload_n hx hb dX0_firstStale_46 rfl (lv_at hl 2 rfl) ?_
          refine lv_iload_n hx hb dX0_firstStale_47 rfl (lv_at hl 3 rfl) ?_
          refine lv_iload_n hx hb dX0_firstStale_48 rfl (lv_at hl 1 rfl) ?_
          refine vp_callSi (va_Run.run (va_runV (As := [.int x, .int (nI k2)]) (rest := [.int (rg f 2088 r_6)]) ⟨hx, hb, hml, hown, hts⟩ (g_BwhiteOf l G bd bk ca f v1 v2 v3 v4 v5 (.ref bl) b_wn b_se b_lo wt wt2 fwt x (nI k2)) (cwV 2 hts (gdV (List.mem_cons_of_mem _ (List.mem_append_left _ (List.mem_of_getElem? (i := 11) rfl))) (List.mem_cons_of_mem _ (List.mem_append_left _ (List.mem_of_getElem? (i := 12) rfl))) (List.mem_cons_of_mem _ (List.mem_append_left _ (List.mem_of_getElem? (i := 13) rfl))) (List.mem_cons_of_mem _ (List.mem_append_left _ (List.mem_of_getElem? (i := 3) rfl))) (fun w9 h9 => ⟨(List.mem_cons_of_mem _ (List.mem_append_right _ (List.mem_append_right _ (List.mem_append_right _ (List.mem_append_right _ (List.mem_append_right _ (List.mem_append_left _ h9))))))), gd_g_BwhiteOf w9 h9⟩)) rfl rfl rfl kVX0_whiteOf ⟨Nat.le_of_ble_eq_true rfl, Nat.le_of_ble_eq_true rfl⟩) (preV_p (As := [.int x, .int (nI k2)]) (hP.sub (ws' := [(bd, .inr (1, [.ref bk, .ref wt, .ref bl, b_wn, b_se, b_lo])), (bk, .inr (2, [.ref ca, v1, v2, v3, v4, v5])), (ca, .inl (gI G, 2088, .inl f)), (wt, .inr (10, [.ref wt2])), (wt2, .inl (gI G, 148, .inl fwt))]) [0, 1, 2, 3, 4] rfl) hB rfl rfl) rfl rfl hl.1 rfl (lv_room (Nat.le_of_ble_eq_true rfl)) dX0_firstStale_49 ⟨Nat.le_of_ble_eq_true rfl, Nat.le_of_ble_eq_true rfl⟩)) (fun r_8 hr_8 => ?_)
          clear hr_8
          refine lv_icmp_ne (tgt := 81) hx hb dX0_firstStale_52 (by decide) (fun c_9 => ?_) (fun c_9 => ?_)
          · skip
            refine lv_iconst (v := 0) hx hb dX0_firstStale_81 (by decide) ?_
            refine lv_istore (lv' := [(4, .int 0), (3, .int 0), (2, .int (nI k2)), (0, .ref bd), (1, .int x)]) hx hb dX0_firstStale_82 hl (by decide) rfl (fun ls hl => ?_)
            refine lv_iload_n hx hb dX0_firstStale_84 rfl (lv_at hl 1 rfl) ?_
            refine lv_if_eq (tgt := 95) hx hb dX0_firstStale_85 (by decide) (fun _ => ?_) (fun c9 => absurd (by decide) c9)
            refine lv_iinc (v := (nI (k2 + 1))) (lv' := [(2, .int (nI (k2 + 1))), (4, .int 0), (3, .int 0), (0, .ref bd), (1, .int x)]) hx hb dX0_firstStale_95 hl (k := 2) rfl (nI_1 k2) (by decide) rfl (fun ls hl => ?_)
            refine lv_goto (tgt := 2) hx hb dX0_firstStale_98 (by decide) ?_
            exact ih2 (k2 + 1) (by omega) (hl_k2) _ (lv_sub hl [0, 3, 4] rfl) 
          · skip
            refine lv_aload_n hx hb dX0_firstStale_55 rfl (lv_at hl 2 rfl) ?_
            refine va_get (D := gD G) (ci := 1) (v := .ref bk) (C := RX0) (T := TX0) (N := 6) hx hb hts (fun _ h9 => (List.mem_cons_of_mem _ (List.mem_append_right _ (List.mem_append_right _ (List.mem_append_left _ h9))))) hown hK hP 0 rfl rfl 0 (by decide) (hts (.fieldLink RX0 11 "JudoHall$Board" "book" "LJudoHall$Book;") (List.mem_cons_of_mem _ (List.mem_append_left _ (List.mem_of_getElem? (i := 4) rfl)))) (fun _ h9 => h9) rfl dX0_firstStale_56 ?_
            refine lv_iload_n hx hb dX0_firstStale_59 rfl (lv_at hl 3 rfl) ?_
            refine lv_iload_n hx hb dX0_firstStale_60 rfl (lv_at hl 1 rfl) ?_
            refine lv_iconst (v := 2) hx hb dX0_firstStale_61 (by decide) ?_
            refine vp_callSi (va_Run.run (va_runS (As := [.int x, .int (nI k2), .int 2]) (rest := [.ref bk]) ⟨hx, hb, hml, hown, hts⟩ (g_ofFight l G x (nI k2) 2) (va_cwS 3 hts (gdS (List.mem_cons_of_mem _ (List.mem_append_left _ (List.mem_of_getElem? (i := 5) rfl))) (List.mem_cons_of_mem _ (List.mem_append_left _ (List.mem_of_getElem? (i := 6) rfl))) (List.mem_cons_of_mem _ (List.mem_append_left _ (List.mem_of_getElem? (i := 7) rfl))) (fun w9 h9 => ⟨(List.mem_cons_of_mem _ (List.mem_append_right _ (List.mem_append_right _ (List.mem_append_right _ (List.mem_append_left _ h9))))), gd_g_ofFight w9 h9⟩)) rfl rfl rfl kSX1_ofFight ⟨Nat.le_of_ble_eq_true rfl, Nat.le_of_ble_eq_true rfl⟩) (preS_p (As := [.int x, .int (nI k2), .int 2]) (hP.sub (ws' := []) [] rfl) hB) rfl rfl hl.1 rfl (lv_room (Nat.le_of_ble_eq_true rfl)) dX0_firstStale_62 ⟨Nat.le_of_ble_eq_true rfl, Nat.le_of_ble_eq_true rfl⟩)) (fun r_10 hr_10 => ?_)
            clear hr_10
            refine vp_callSi (va_Run.run (va_runV (As := [.int r_10]) (rest := []) ⟨hx, hb, hml, hown, hts⟩ (c_Book_at l G bk ca 2088 f v1 v2 v3 v4 v5 r_10 (by decide)) (cwV 1 hts (gdV (List.mem_cons_of_mem _ (List.mem_append_left _ (List.mem_of_getElem? (i := 8) rfl))) (List.mem_cons_of_mem _ (List.mem_append_left _ (List.mem_of_getElem? (i := 9) rfl))) (List.mem_cons_of_mem _ (List.mem_append_left _ (List.mem_of_getElem? (i := 10) rfl))) (List.mem_cons_of_mem _ (List.mem_append_left _ (List.mem_of_getElem? (i := 7) rfl))) (fun w9 h9 => ⟨(List.mem_cons_of_mem _ (List.mem_append_right _ (List.mem_append_right _ (List.mem_append_right _ (List.mem_append_right _ (List.mem_append_left _ h9)))))), gd_c_Book_at w9 h9⟩)) rfl rfl rfl kVX1_at ⟨Nat.le_of_ble_eq_true rfl, Nat.le_of_ble_eq_true rfl⟩) (preV_p (As := [.int r_10]) (hP.sub (ws' := [(bk, .inr (2, [.ref ca, v1, v2, v3, v4, v5])), (ca, .inl (gI G, 2088, .inl f))]) [1, 2] rfl) hB rfl rfl) rfl rfl hl.1 rfl (lv_room (Nat.le_of_ble_eq_true rfl)) dX0_firstStale_65 ⟨Nat.le_of_ble_eq_true rfl, Nat.le_of_ble_eq_true rfl⟩)) (fun r_11 hr_11 => ?_)
            subst hr_11
            refine lv_aload_n hx hb dX0_firstStale_68 rfl (lv_at hl 2 rfl) ?_
            refine lv_iload_n hx hb dX0_firstStale_69 rfl (lv_at hl 3 rfl) ?_
            refine lv_iload_n hx hb dX0_firstStale_70 rfl (lv_at hl 1 rfl) ?_
            refine vp_callSi (va_Run.run (va_runV (As := [.int x, .int (nI k2)]) (rest := [.int (rg f 2088 r_10)]) ⟨hx, hb, hml, hown, hts⟩ (g_BblueOf l G bd bk ca f v1 v2 v3 v4 v5 (.ref wt) b_wn b_se b_lo bl bl2 fbl x (nI k2)) (cwV 2 hts (gdV (List.mem_cons_of_mem _ (List.mem_append_left _ (List.mem_of_getElem? (i := 14) rfl))) (List.mem_cons_of_mem _ (List.mem_append_left _ (List.mem_of_getElem? (i := 15) rfl))) (List.mem_cons_of_mem _ (List.mem_append_left _ (List.mem_of_getElem? (i := 16) rfl))) (List.mem_cons_of_mem _ (List.mem_append_left _ (List.mem_of_getElem? (i := 3) rfl))) (fun w9 h9 => ⟨(List.mem_cons_of_mem _ (List.mem_append_right _ (List.mem_append_right _ (List.mem_append_right _ (List.mem_append_right _ (List.mem_append_right _ (List.mem_append_right _ (List.mem_append_left _ h9)))))))), gd_g_BblueOf w9 h9⟩)) rfl rfl rfl kVX0_blueOf ⟨Nat.le_of_ble_eq_true rfl, Nat.le_of_ble_eq_true rfl⟩) (preV_p (As := [.int x, .int (nI k2)]) (hP.sub (ws' := [(bd, .inr (1, [.ref bk, .ref wt, .ref bl, b_wn, b_se, b_lo])), (bk, .inr (2, [.ref ca, v1, v2, v3, v4, v5])), (ca, .inl (gI G, 2088, .inl f)), (bl, .inr (10, [.ref bl2])), (bl2, .inl (gI G, 148, .inl fbl))]) [0, 1, 2, 5, 6] rfl) hB rfl rfl) rfl rfl hl.1 rfl (lv_room (Nat.le_of_ble_eq_true rfl)) dX0_firstStale_71 ⟨Nat.le_of_ble_eq_true rfl, Nat.le_of_ble_eq_true rfl⟩)) (fun r_12 hr_12 => ?_)
            clear hr_12
            refine lv_icmp_ne (tgt := 81) hx hb dX0_firstStale_74 (by decide) (fun c_13 => ?_) (fun c_13 => ?_)
            · skip
              refine lv_iconst (v := 0) hx hb dX0_firstStale_81 (by decide) ?_
              refine lv_istore (lv' := [(4, .int 0), (3, .int 0), (2, .int (nI k2)), (0, .ref bd), (1, .int x)]) hx hb dX0_firstStale_82 hl (by decide) rfl (fun ls hl => ?_)
              refine lv_iload_n hx hb dX0_firstStale_84 rfl (lv_at hl 1 rfl) ?_
              refine lv_if_eq (tgt := 95) hx hb dX0_firstStale_85 (by decide) (fun _ => ?_) (fun c9 => absurd (by decide) c9)
              refine lv_iinc (v := (nI (k2 + 1))) (lv' := [(2, .int (nI (k2 + 1))), (4, .int 0), (3, .int 0), (0, .ref bd), (1, .int x)]) hx hb dX0_firstStale_95 hl (k := 2) rfl (nI_1 k2) (by decide) rfl (fun ls hl => ?_)
              refine lv_goto (tgt := 2) hx hb dX0_firstStale_98 (by decide) ?_
              exact ih2 (k2 + 1) (by omega) (hl_k2) _ (lv_sub hl [0, 3, 4] rfl) 
            · skip
              refine lv_iconst (v := 1) hx hb dX0_firstStale_77 (by decide) ?_
              refine lv_goto (tgt := 82) hx hb dX0_firstStale_78 (by decide) ?_
              refine lv_istore (lv' := [(4, .int 1), (3, .int 0), (2, .int (nI k2)), (0, .ref bd), (1, .int x)]) hx hb dX0_firstStale_82 hl (by decide) rfl (fun ls hl => ?_)
              refine lv_iload_n hx hb dX0_firstStale_84 rfl (lv_at hl 1 rfl) ?_
              refine lv_if_eq (tgt := 95) hx hb dX0_firstStale_85 (by decide) (fun _ => ?_) (fun c9 => absurd (by decide) c9)
              refine lv_iinc (v := (nI (k2 + 1))) (lv' := [(2, .int (nI (k2 + 1))), (4, .int 1), (3, .int 0), (0, .ref bd), (1, .int x)]) hx hb dX0_firstStale_95 hl (k := 2) rfl (nI_1 k2) (by decide) rfl (fun ls hl => ?_)
              refine lv_goto (tgt := 2) hx hb dX0_firstStale_98 (by decide) ?_
              exact ih2 (k2 + 1) (by omega) (hl_k2) _ (lv_sub hl [0, 3, 4] rfl) 
        · skip
          refine lv_iconst (v := 1) hx hb dX0_firstStale_27 (by decide) ?_
          refine lv_goto (tgt := 32) hx hb dX0_firstStale_28 (by decide) ?_
          refine lv_istore_n (lv' := [(3, .int 1), (2, .int (nI k2)), (0, .ref bd), (1, .int x)]) hx hb dX0_firstStale_32 rfl hl (by decide) rfl (fun ls hl => ?_)
          refine lv_aload_n hx hb dX0_firstStale_33 rfl (lv_at hl 2 rfl) ?_
          refine va_get (D := gD G) (ci := 1) (v := .ref bk) (C := RX0) (T := TX0) (N := 6) hx hb hts (fun _ h9 => (List.mem_cons_of_mem _ (List.mem_append_right _ (List.mem_append_right _ (List.mem_append_left _ h9))))) hown hK hP 0 rfl rfl 0 (by decide) (hts (.fieldLink RX0 11 "JudoHall$Board" "book" "LJudoHall$Book;") (List.mem_cons_of_mem _ (List.mem_append_left _ (List.mem_of_getElem? (i := 4) rfl)))) (fun _ h9 => h9) rfl dX0_firstStale_34 ?_
          refine lv_iload_n hx hb dX0_firstStale_37 rfl (lv_at hl 3 rfl) ?_
          refine lv_iload_n hx hb dX0_firstStale_38 rfl (lv_at hl 1 rfl) ?_
          refine lv_iconst (v := 1) hx hb dX0_firstStale_39 (by decide) ?_
          refine vp_callSi (va_Run.run (va_runS (As := [.int x, .int (nI k2), .int 1]) (rest := [.ref bk]) ⟨hx, hb, hml, hown, hts⟩ (g_ofFight l G x (nI k2) 1) (va_cwS 3 hts (gdS (List.mem_cons_of_mem _ (List.mem_append_left _ (List.mem_of_getElem? (i := 5) rfl))) (List.mem_cons_of_mem _ (List.mem_append_left _ (List.mem_of_getElem? (i := 6) rfl))) (List.mem_cons_of_mem _ (List.mem_append_left _ (List.mem_of_getElem? (i := 7) rfl))) (fun w9 h9 => ⟨(List.mem_cons_of_mem _ (List.mem_append_right _ (List.mem_append_right _ (List.mem_append_right _ (List.mem_append_left _ h9))))), gd_g_ofFight w9 h9⟩)) rfl rfl rfl kSX1_ofFight ⟨Nat.le_of_ble_eq_true rfl, Nat.le_of_ble_eq_true rfl⟩) (preS_p (As := [.int x, .int (nI k2), .int 1]) (hP.sub (ws' := []) [] rfl) hB) rfl rfl hl.1 rfl (lv_room (Nat.le_of_ble_eq_true rfl)) dX0_firstStale_40 ⟨Nat.le_of_ble_eq_true rfl, Nat.le_of_ble_eq_true rfl⟩)) (fun r_14 hr_14 => ?_)
          clear hr_14
          refine vp_callSi (va_Run.run (va_runV (As := [.int r_14]) (rest := []) ⟨hx, hb, hml, hown, hts⟩ (c_Book_at l G bk ca 2088 f v1 v2 v3 v4 v5 r_14 (by decide)) (cwV 1 hts (gdV (List.mem_cons_of_mem _ (List.mem_append_left _ (List.mem_of_getElem? (i := 8) rfl))) (List.mem_cons_of_mem _ (List.mem_append_left _ (List.mem_of_getElem? (i := 9) rfl))) (List.mem_cons_of_mem _ (List.mem_append_left _ (List.mem_of_getElem? (i := 10) rfl))) (List.mem_cons_of_mem _ (List.mem_append_left _ (List.mem_of_getElem? (i := 7) rfl))) (fun w9 h9 => ⟨(List.mem_cons_of_mem _ (List.mem_append_right _ (List.mem_append_right _ (List.mem_append_right _ (List.mem_append_right _ (List.mem_append_left _ h9)))))), gd_c_Book_at w9 h9⟩)) rfl rfl rfl kVX1_at ⟨Nat.le_of_ble_eq_true rfl, Nat.le_of_ble_eq_true rfl⟩) (preV_p (As := [.int r_14]) (hP.sub (ws' := [(bk, .inr (2, [.ref ca, v1, v2, v3, v4, v5])), (ca, .inl (gI G, 2088, .inl f))]) [1, 2] rfl) hB rfl rfl) rfl rfl hl.1 rfl (lv_room (Nat.le_of_ble_eq_true rfl)) dX0_firstStale_43 ⟨Nat.le_of_ble_eq_true rfl, Nat.le_of_ble_eq_true rfl⟩)) (fun r_15 hr_15 => ?_)
          subst hr_15
          refine lv_aload_n hx hb dX0_firstStale_46 rfl (lv_at hl 2 rfl) ?_
          refine lv_iload_n hx hb dX0_firstStale_47 rfl (lv_at hl 3 rfl) ?_
          refine lv_iload_n hx hb dX0_firstStale_48 rfl (lv_at hl 1 rfl) ?_
          refine vp_callSi (va_Run.run (va_runV (As := [.int x, .int (nI k2)]) (rest := [.int (rg f 2088 r_14)]) ⟨hx, hb, hml, hown, hts⟩ (g_BwhiteOf l G bd bk ca f v1 v2 v3 v4 v5 (.ref bl) b_wn b_se b_lo wt wt2 fwt x (nI k2)) (cwV 2 hts (gdV (List.mem_cons_of_mem _ (List.mem_append_left _ (List.mem_of_getElem? (i := 11) rfl))) (List.mem_cons_of_mem _ (List.mem_append_left _ (List.mem_of_getElem? (i := 12) rfl))) (List.mem_cons_of_mem _ (List.mem_append_left _ (List.mem_of_getElem? (i := 13) rfl))) (List.mem_cons_of_mem _ (List.mem_append_left _ (List.mem_of_getElem? (i := 3) rfl))) (fun w9 h9 => ⟨(List.mem_cons_of_mem _ (List.mem_append_right _ (List.mem_append_right _ (List.mem_append_right _ (List.mem_append_right _ (List.mem_append_right _ (List.mem_append_left _ h9))))))), gd_g_BwhiteOf w9 h9⟩)) rfl rfl rfl kVX0_whiteOf ⟨Nat.le_of_ble_eq_true rfl, Nat.le_of_ble_eq_true rfl⟩) (preV_p (As := [.int x, .int (nI k2)]) (hP.sub (ws' := [(bd, .inr (1, [.ref bk, .ref wt, .ref bl, b_wn, b_se, b_lo])), (bk, .inr (2, [.ref ca, v1, v2, v3, v4, v5])), (ca, .inl (gI G, 2088, .inl f)), (wt, .inr (10, [.ref wt2])), (wt2, .inl (gI G, 148, .inl fwt))]) [0, 1, 2, 3, 4] rfl) hB rfl rfl) rfl rfl hl.1 rfl (lv_room (Nat.le_of_ble_eq_true rfl)) dX0_firstStale_49 ⟨Nat.le_of_ble_eq_true rfl, Nat.le_of_ble_eq_true rfl⟩)) (fun r_16 hr_16 => ?_)
          clear hr_16
          refine lv_icmp_ne (tgt := 81) hx hb dX0_firstStale_52 (by decide) (fun c_17 => ?_) (fun c_17 => ?_)
          · skip
            refine lv_iconst (v := 0) hx hb dX0_firstStale_81 (by decide) ?_
            refine lv_istore (lv' := [(4, .int 0), (3, .int 1), (2, .int (nI k2)), (0, .ref bd), (1, .int x)]) hx hb dX0_firstStale_82 hl (by decide) rfl (fun ls hl => ?_)
            refine lv_iload_n hx hb dX0_firstStale_84 rfl (lv_at hl 1 rfl) ?_
            refine lv_if_eq (tgt := 95) hx hb dX0_firstStale_85 (by decide) (fun c9 => absurd c9 (by decide)) (fun _ => ?_)
            refine lv_iload hx hb dX0_firstStale_88 (lv_at hl 0 rfl) ?_
            refine lv_if_ne (tgt := 95) hx hb dX0_firstStale_90 (by decide) (fun c9 => absurd (by decide) c9) (fun _ => ?_)
            refine lv_iload_n hx hb dX0_firstStale_93 rfl (lv_at hl 2 rfl) ?_
            exact W.iret (v := (nI k2)) hx hb hr (fun t ht hW => ⟨_, rfl, trivial, ht⟩) (fun q h => absurd h List.not_mem_nil) dX0_firstStale_94
          · skip
            refine lv_aload_n hx hb dX0_firstStale_55 rfl (lv_at hl 2 rfl) ?_
            refine va_get (D := gD G) (ci := 1) (v := .ref bk) (C := RX0) (T := TX0) (N := 6) hx hb hts (fun _ h9 => (List.mem_cons_of_mem _ (List.mem_append_right _ (List.mem_append_right _ (List.mem_append_left _ h9))))) hown hK hP 0 rfl rfl 0 (by decide) (hts (.fieldLink RX0 11 "JudoHall$Board" "book" "LJudoHall$Book;") (List.mem_cons_of_mem _ (List.mem_append_left _ (List.mem_of_getElem? (i := 4) rfl)))) (fun _ h9 => h9) rfl dX0_firstStale_56 ?_
            refine lv_iload_n hx hb dX0_firstStale_59 rfl (lv_at hl 3 rfl) ?_
            refine lv_iload_n hx hb dX0_firstStale_60 rfl (lv_at hl 1 rfl) ?_
            refine lv_iconst (v := 2) hx hb dX0_firstStale_61 (by decide) ?_
            refine vp_callSi (va_Run.run (va_runS (As := [.int x, .int (nI k2), .int 2]) (rest := [.ref bk]) ⟨hx, hb, hml, hown, hts⟩ (g_ofFight l G x (nI k2) 2) (va_cwS 3 hts (gdS (List.mem_cons_of_mem _ (List.mem_append_left _ (List.mem_of_getElem? (i := 5) rfl))) (List.mem_cons_of_mem _ (List.mem_append_left _ (List.mem_of_getElem? (i := 6) rfl))) (List.mem_cons_of_mem _ (List.mem_append_left _ (List.mem_of_getElem? (i := 7) rfl))) (fun w9 h9 => ⟨(List.mem_cons_of_mem _ (List.mem_append_right _ (List.mem_append_right _ (List.mem_append_right _ (List.mem_append_left _ h9))))), gd_g_ofFight w9 h9⟩)) rfl rfl rfl kSX1_ofFight ⟨Nat.le_of_ble_eq_true rfl, Nat.le_of_ble_eq_true rfl⟩) (preS_p (As := [.int x, .int (nI k2), .int 2]) (hP.sub (ws' := []) [] rfl) hB) rfl rfl hl.1 rfl (lv_room (Nat.le_of_ble_eq_true rfl)) dX0_firstStale_62 ⟨Nat.le_of_ble_eq_true rfl, Nat.le_of_ble_eq_true rfl⟩)) (fun r_18 hr_18 => ?_)
            clear hr_18
            refine vp_callSi (va_Run.run (va_runV (As := [.int r_18]) (rest := []) ⟨hx, hb, hml, hown, hts⟩ (c_Book_at l G bk ca 2088 f v1 v2 v3 v4 v5 r_18 (by decide)) (cwV 1 hts (gdV (List.mem_cons_of_mem _ (List.mem_append_left _ (List.mem_of_getElem? (i := 8) rfl))) (List.mem_cons_of_mem _ (List.mem_append_left _ (List.mem_of_getElem? (i := 9) rfl))) (List.mem_cons_of_mem _ (List.mem_append_left _ (List.mem_of_getElem? (i := 10) rfl))) (List.mem_cons_of_mem _ (List.mem_append_left _ (List.mem_of_getElem? (i := 7) rfl))) (fun w9 h9 => ⟨(List.mem_cons_of_mem _ (List.mem_append_right _ (List.mem_append_right _ (List.mem_append_right _ (List.mem_append_right _ (List.mem_append_left _ h9)))))), gd_c_Book_at w9 h9⟩)) rfl rfl rfl kVX1_at ⟨Nat.le_of_ble_eq_true rfl, Nat.le_of_ble_eq_true rfl⟩) (preV_p (As := [.int r_18]) (hP.sub (ws' := [(bk, .inr (2, [.ref ca, v1, v2, v3, v4, v5])), (ca, .inl (gI G, 2088, .inl f))]) [1, 2] rfl) hB rfl rfl) rfl rfl hl.1 rfl (lv_room (Nat.le_of_ble_eq_true rfl)) dX0_firstStale_65 ⟨Nat.le_of_ble_eq_true rfl, Nat.le_of_ble_eq_true rfl⟩)) (fun r_19 hr_19 => ?_)
            subst hr_19
            refine lv_aload_n hx hb dX0_firstStale_68 rfl (lv_at hl 2 rfl) ?_
            refine lv_iload_n hx hb dX0_firstStale_69 rfl (lv_at hl 3 rfl) ?_
            refine lv_iload_n hx hb dX0_firstStale_70 rfl (lv_at hl 1 rfl) ?_
            refine vp_callSi (va_Run.run (va_runV (As := [.int x, .int (nI k2)]) (rest := [.int (rg f 2088 r_18)]) ⟨hx, hb, hml, hown, hts⟩ (g_BblueOf l G bd bk ca f v1 v2 v3 v4 v5 (.ref wt) b_wn b_se b_lo bl bl2 fbl x (nI k2)) (cwV 2 hts (gdV (List.mem_cons_of_mem _ (List.mem_append_left _ (List.mem_of_getElem? (i := 14) rfl))) (List.mem_cons_of_mem _ (List.mem_append_left _ (List.mem_of_getElem? (i := 15) rfl))) (List.mem_cons_of_mem _ (List.mem_append_left _ (List.mem_of_getElem? (i := 16) rfl))) (List.mem_cons_of_mem _ (List.mem_append_left _ (List.mem_of_getElem? (i := 3) rfl))) (fun w9 h9 => ⟨(List.mem_cons_of_mem _ (List.mem_append_right _ (List.mem_append_right _ (List.mem_append_right _ (List.mem_append_right _ (List.mem_append_right _ (List.mem_append_right _ (List.mem_append_left _ h9)))))))), gd_g_BblueOf w9 h9⟩)) rfl rfl rfl kVX0_blueOf ⟨Nat.le_of_ble_eq_true rfl, Nat.le_of_ble_eq_true rfl⟩) (preV_p (As := [.int x, .int (nI k2)]) (hP.sub (ws' := [(bd, .inr (1, [.ref bk, .ref wt, .ref bl, b_wn, b_se, b_lo])), (bk, .inr (2, [.ref ca, v1, v2, v3, v4, v5])), (ca, .inl (gI G, 2088, .inl f)), (bl, .inr (10, [.ref bl2])), (bl2, .inl (gI G, 148, .inl fbl))]) [0, 1, 2, 5, 6] rfl) hB rfl rfl) rfl rfl hl.1 rfl (lv_room (Nat.le_of_ble_eq_true rfl)) dX0_firstStale_71 ⟨Nat.le_of_ble_eq_true rfl, Nat.le_of_ble_eq_true rfl⟩)) (fun r_20 hr_20 => ?_)
            clear hr_20
            refine lv_icmp_ne (tgt := 81) hx hb dX0_firstStale_74 (by decide) (fun c_21 => ?_) (fun c_21 => ?_)
            · skip
              refine lv_iconst (v := 0) hx hb dX0_firstStale_81 (by decide) ?_
              refine lv_istore (lv' := [(4, .int 0), (3, .int 1), (2, .int (nI k2)), (0, .ref bd), (1, .int x)]) hx hb dX0_firstStale_82 hl (by decide) rfl (fun ls hl => ?_)
              refine lv_iload_n hx hb dX0_firstStale_84 rfl (lv_at hl 1 rfl) ?_
              refine lv_if_eq (tgt := 95) hx hb dX0_firstStale_85 (by decide) (fun c9 => absurd c9 (by decide)) (fun _ => ?_)
              refine lv_iload hx hb dX0_firstStale_88 (lv_at hl 0 rfl) ?_
              refine lv_if_ne (tgt := 95) hx hb dX0_firstStale_90 (by decide) (fun c9 => absurd (by decide) c9) (fun _ => ?_)
              refine lv_iload_n hx hb dX0_firstStale_93 rfl (lv_at hl 2 rfl) ?_
              exact W.iret (v := (nI k2)) hx hb hr (fun t ht hW => ⟨_, rfl, trivial, ht⟩) (fun q h => absurd h List.not_mem_nil) dX0_firstStale_94
            · skip
              refine lv_iconst (v := 1) hx hb dX0_firstStale_77 (by decide) ?_
              refine lv_goto (tgt := 82) hx hb dX0_firstStale_78 (by decide) ?_
              refine lv_istore (lv' := [(4, .int 1), (3, .int 1), (2, .int (nI k2)), (0, .ref bd), (1, .int x)]) hx hb dX0_firstStale_82 hl (by decide) rfl (fun ls hl => ?_)
              refine lv_iload_n hx hb dX0_firstStale_84 rfl (lv_at hl 1 rfl) ?_
              refine lv_if_eq (tgt := 95) hx hb dX0_firstStale_85 (by decide) (fun c9 => absurd c9 (by decide)) (fun _ => ?_)
              refine lv_iload hx hb dX0_firstStale_88 (lv_at hl 0 rfl) ?_
              refine lv_if_ne (tgt := 95) hx hb dX0_firstStale_90 (by decide) (fun _ => ?_) (fun c9 => absurd c9 (by decide))
              refine lv_iinc (v := (nI (k2 + 1))) (lv' := [(2, .int (nI (k2 + 1))), (4, .int 1), (3, .int 1), (0, .ref bd), (1, .int x)]) hx hb dX0_firstStale_95 hl (k := 2) rfl (nI_1 k2) (by decide) rfl (fun ls hl => ?_)
              refine lv_goto (tgt := 2) hx hb dX0_firstStale_98 (by decide) ?_
              exact ih2 (k2 + 1) (by omega) (hl_k2) _ (lv_sub hl [0, 3, 4] rfl) 
  exact hloop2 (((bfo f x).toNatClampNeg - 0) + 1) 0 (Nat.lt_succ_self _) (Nat.zero_le _) _ (lv_sub hl [0, 1, 2] rfl)

def wo_g_BstageOf : List Cond := [.methodLink RX0 49 yX0_sizeOf, .instanceMethod yX0_sizeOf, .selects RX0 yX0_sizeOf yX0_sizeOf, .initialized RX0, .methodLink RX0 46 yX0_kindOf, .instanceMethod yX0_kindOf, .selects RX0 yX0_kindOf yX0_kindOf, .methodLink RX0 114 yX0_stepOf, .static yX0_stepOf]
def wq_g_BstageOf : List Cond := .code yX0_stageOf cX0_stageOf 6 (some .int) :: (wo_g_BstageOf ++ (wq_c_Board_sizeOf ++ (wq_c_Board_kindOf ++ (wq_g_stepOf ++ []))))
theorem gd_g_BstageOf : ∀ w ∈ wq_g_BstageOf, Gd w := List.forall_mem_cons.mpr ⟨Or.inl rfl, List.forall_mem_append.mpr ⟨gdl wo_g_BstageOf (by decide +kernel), (List.forall_mem_append.mpr ⟨gd_c_Board_sizeOf, (List.forall_mem_append.mpr ⟨gd_c_Board_kindOf, (List.forall_mem_append.mpr ⟨gd_g_stepOf, (fun _ h => absurd h List.not_mem_nil)⟩)⟩)⟩)⟩⟩
theorem in_g_BstageOf : ∀ w ∈ wq_g_BstageOf, w ∈ lw_tbl := List.forall_mem_cons.mpr ⟨List.mem_of_getElem? (i := 1478) (by decide +kernel), List.forall_mem_append.mpr ⟨inT wo_g_BstageOf [1123, 1124, 1125, 164, 990, 991, 992, 1479, 1480] (by decide +kernel), (List.forall_mem_append.mpr ⟨in_c_Board_sizeOf, (List.forall_mem_append.mpr ⟨in_c_Board_kindOf, (List.forall_mem_append.mpr ⟨in_g_stepOf, (fun _ h => absurd h List.not_mem_nil)⟩)⟩)⟩)⟩⟩
set_option maxHeartbeats 4000000 in
set_option maxRecDepth 100000 in
theorem g_BstageOf (l : Launch) (G : gG) (bd : Nat) (bk : Nat) (ca : Nat) (f : Nat → Int32) (v1 : Value) (v2 : Value) (v3 : Value) (v4 : Value) (v5 : Value) (b_wt : Value) (b_bl : Value) (b_wn : Value) (b_se : Value) (b_lo : Value) (x : Int32) (y : Int32) : Met l yX0_stageOf wq_g_BstageOf ({ frames := 2, cells := 0, slots := 0, locals := 43 }) (va_Pc [.ref bd, .int x, .int y] (pP G [(bd, .inr (1, [.ref bk, b_wt, b_bl, b_wn, b_se, b_lo])), (bk, .inr (2, [.ref ca, v1, v2, v3, v4, v5])), (ca, .inl (gI G, 2088, .inl f))])) (vp_Si (fun r : Int32 => True)) 0 0 (fun _ => False) := by
  refine Met.ofW (cc := cX0_stageOf) (maxL := 6) (ret := (some .int)) (by decide) rfl ?_
  intro p e s m args below meth c s₁ B hml hv
  obtain ⟨rfl, hP, hB⟩ := hv
  have hx := B.exec
  have hb := B.bytes
  have hr := B.returns
  have hts := atoms_spec (ws := wq_g_BstageOf) B.pre
  have hown : s.vm.findClass RX0 = some m.cls := findClass_of_methodNamed B.named
  have hlocks := B.notSynchronized
  have hK := hB.1
  have hP : va_P (gD G) vwCl [(bd, .inr (1, [.ref bk, b_wt, b_bl, b_wn, b_se, b_lo])), (bk, .inr (2, [.ref ca, v1, v2, v3, v4, v5])), (ca, .inl (gI G, 2088, .inl f))] s.heap := hP
  have hl := lv_entry ([.ref bd, .int x, .int y]) (n := 6) (Nat.le_of_ble_eq_true rfl)
  rw [lg_entry_eq]
  generalize (lg_sl ([.ref bd, .int x, .int y]) ++ List.replicate (6 - (lg_sl ([.ref bd, .int x, .int y])).length) Slot.unset).toArray = ls at hl ⊢
  have hl : lv_has ls 6 [(0, .ref bd), (1, .int x), (2, .int y)] := hl
  refine lv_aload_n hx hb dX0_stageOf_0 rfl (lv_at hl 0 rfl) ?_
  refine lv_iload_n hx hb dX0_stageOf_1 rfl (lv_at hl 1 rfl) ?_
  refine vp_callSi (va_Run.run (va_runV (As := [.int x]) (rest := []) ⟨hx, hb, hml, hown, hts⟩ (c_Board_sizeOf l G bd bk ca 2088 f v1 v2 v3 v4 v5 b_wt b_bl b_wn b_se b_lo x (by decide)) (cwV 1 hts (gdV (List.mem_cons_of_mem _ (List.mem_append_left _ (List.mem_of_getElem? (i := 0) rfl))) (List.mem_cons_of_mem _ (List.mem_append_left _ (List.mem_of_getElem? (i := 1) rfl))) (List.mem_cons_of_mem _ (List.mem_append_left _ (List.mem_of_getElem? (i := 2) rfl))) (List.mem_cons_of_mem _ (List.mem_append_left _ (List.mem_of_getElem? (i := 3) rfl))) (fun w9 h9 => ⟨(List.mem_cons_of_mem _ (List.mem_append_right _ (List.mem_append_left _ h9))), gd_c_Board_sizeOf w9 h9⟩)) rfl rfl rfl kVX0_sizeOf ⟨Nat.le_of_ble_eq_true rfl, Nat.le_of_ble_eq_true rfl⟩) (preV_p (As := [.int x]) (hP.sub (ws' := [(bd, .inr (1, [.ref bk, b_wt, b_bl, b_wn, b_se, b_lo])), (bk, .inr (2, [.ref ca, v1, v2, v3, v4, v5])), (ca, .inl (gI G, 2088, .inl f))]) [0, 1, 2] rfl) hB rfl rfl) rfl rfl hl.1 rfl (lv_room (Nat.le_of_ble_eq_true rfl)) dX0_stageOf_2 ⟨Nat.le_of_ble_eq_true rfl, Nat.le_of_ble_eq_true rfl⟩)) (fun r_1 hr_1 => ?_)
  subst hr_1
  refine lv_istore_n (lv' := [(3, .int (rg f 2088 (4 + x * 36 + 3))), (0, .ref bd), (1, .int x), (2, .int y)]) hx hb dX0_stageOf_5 rfl hl (by decide) rfl (fun ls hl => ?_)
  refine lv_aload_n hx hb dX0_stageOf_6 rfl (lv_at hl 1 rfl) ?_
  refine lv_iload_n hx hb dX0_stageOf_7 rfl (lv_at hl 2 rfl) ?_
  refine vp_callSi (va_Run.run (va_runV (As := [.int x]) (rest := []) ⟨hx, hb, hml, hown, hts⟩ (c_Board_kindOf l G bd bk ca 2088 f v1 v2 v3 v4 v5 b_wt b_bl b_wn b_se b_lo x (by decide)) (cwV 1 hts (gdV (List.mem_cons_of_mem _ (List.mem_append_left _ (List.mem_of_getElem? (i := 4) rfl))) (List.mem_cons_of_mem _ (List.mem_append_left _ (List.mem_of_getElem? (i := 5) rfl))) (List.mem_cons_of_mem _ (List.mem_append_left _ (List.mem_of_getElem? (i := 6) rfl))) (List.mem_cons_of_mem _ (List.mem_append_left _ (List.mem_of_getElem? (i := 3) rfl))) (fun w9 h9 => ⟨(List.mem_cons_of_mem _ (List.mem_append_right _ (List.mem_append_right _ (List.mem_append_left _ h9)))), gd_c_Board_kindOf w9 h9⟩)) rfl rfl rfl kVX0_kindOf ⟨Nat.le_of_ble_eq_true rfl, Nat.le_of_ble_eq_true rfl⟩) (preV_p (As := [.int x]) (hP.sub (ws' := [(bd, .inr (1, [.ref bk, b_wt, b_bl, b_wn, b_se, b_lo])), (bk, .inr (2, [.ref ca, v1, v2, v3, v4, v5])), (ca, .inl (gI G, 2088, .inl f))]) [0, 1, 2] rfl) hB rfl rfl) rfl rfl hl.1 rfl (lv_room (Nat.le_of_ble_eq_true rfl)) dX0_stageOf_8 ⟨Nat.le_of_ble_eq_true rfl, Nat.le_of_ble_eq_true rfl⟩)) (fun r_2 hr_2 => ?_)
  subst hr_2
  refine lv_iconst (v := 2) hx hb dX0_stageOf_11 (by decide) ?_
  refine lv_icmp_eq (tgt := 17) hx hb dX0_stageOf_12 (by decide) (fun c_3 => ?_) (fun c_3 => ?_)
  · skip
    refine lv_iload_n hx hb dX0_stageOf_17 rfl (lv_at hl 3 rfl) ?_
    refine lv_iload_n hx hb dX0_stageOf_18 rfl (lv_at hl 0 rfl) ?_
    refine lv_iconst (v := 2) hx hb dX0_stageOf_19 (by decide) ?_
    refine lv_isub hx hb dX0_stageOf_20 ?_
    refine lv_icmp_le (tgt := 33) hx hb dX0_stageOf_21 (by decide) (fun c_4 => ?_) (fun c_4 => ?_)
    · skip
      refine lv_iconst (v := 0) hx hb dX0_stageOf_33 (by decide) ?_
      refine lv_istore (lv' := [(4, .int 0), (3, .int (rg f 2088 (4 + x * 36 + 3))), (0, .ref bd), (1, .int x), (2, .int y)]) hx hb dX0_stageOf_34 hl (by decide) rfl (fun ls hl => ?_)
      refine lv_iload_n hx hb dX0_stageOf_36 rfl (lv_at hl 1 rfl) ?_
      refine lv_iconst (v := 2) hx hb dX0_stageOf_37 (by decide) ?_
      refine lv_idiv hx hb dX0_stageOf_38 (by decide) ?_
      refine lv_istore (lv' := [(5, .int ((rg f 2088 (4 + x * 36 + 3)) / 2)), (4, .int 0), (3, .int (rg f 2088 (4 + x * 36 + 3))), (0, .ref bd), (1, .int x), (2, .int y)]) hx hb dX0_stageOf_39 hl (by decide) rfl (fun ls hl => ?_)
      have hloop41 : ∀ (k9 : Nat) (k4 : Nat) (z5 : Int32), (5 : Int32).toNatClampNeg - k4 < k9 → (k4 ≤ (5 : Int32).toNatClampNeg) → ∀ (ls : Array Slot), lv_has ls 6 [(4, .int (nI k4)), (5, .int z5), (0, .ref bd), (1, .int x), (2, .int y), (3, .int (rg f 2088 (4 + x * 36 + 3)))] → W p l e (headSpec wq_g_BstageOf ({ frames := 2, cells := 0, slots := 0, locals := 43 })).room s m [.ref bd, .int x, .int y].toArray below meth c s.heap [] 0 0 (MQ below (vp_Si (fun r : Int32 => True)) [.ref bd, .int x, .int y].toArray s 0 0 (fun _ => False)) (F0 m 41 ls []) := by
        intro k9
        induction k9 with
        | zero => intro k4 z5 h9; exact absurd h9 (Nat.not_lt_zero _)
        | succ k9 ih41 =>
          intro k4 z5 hm41 hb_k4 ls hl
          refine lv_iload hx hb dX0_stageOf_41 (lv_at hl 1 rfl) ?_
          refine lv_iload_n hx hb dX0_stageOf_43 rfl (lv_at hl 4 rfl) ?_
          refine lv_icmp_gt (tgt := 70) hx hb dX0_stageOf_44 (by decide) (fun c_5 => ?_) (fun c_5 => ?_)
          · skip
            refine lv_iload_n hx hb dX0_stageOf_70 rfl (lv_at hl 4 rfl) ?_
            refine lv_iload_n hx hb dX0_stageOf_71 rfl (lv_at hl 5 rfl) ?_
            refine lv_iconst (v := 2) hx hb dX0_stageOf_72 (by decide) ?_
            refine lv_isub hx hb dX0_stageOf_73 ?_
            refine lv_icmp_ne (tgt := 82) hx hb dX0_stageOf_74 (by decide) (fun c_6 => ?_) (fun c_6 => ?_)
            · skip
              refine lv_iload hx hb dX0_stageOf_82 (lv_at hl 0 rfl) ?_
              exact W.iret (v := (nI k4)) hx hb hr (fun t ht hW => ⟨_, rfl, trivial, ht⟩) (fun q h => absurd h List.not_mem_nil) dX0_stageOf_84
            · skip
              refine lv_bipush (v := 20) hx hb dX0_stageOf_77 (by decide) ?_
              refine lv_goto (tgt := 84) hx hb dX0_stageOf_79 (by decide) ?_
              exact W.iret (v := 20) hx hb hr (fun t ht hW => ⟨_, rfl, trivial, ht⟩) (fun q h => absurd h List.not_mem_nil) dX0_stageOf_84
          · skip
            refine lv_iload hx hb dX0_stageOf_47 (lv_at hl 0 rfl) ?_
            refine lv_iconst (v := 5) hx hb dX0_stageOf_49 (by decide) ?_
            refine lv_icmp_ge (tgt := 70) hx hb dX0_stageOf_50 (by decide) (fun c_7 => ?_) (fun c_7 => ?_)
            · skip
              refine lv_iload_n hx hb dX0_stageOf_70 rfl (lv_at hl 4 rfl) ?_
              refine lv_iload_n hx hb dX0_stageOf_71 rfl (lv_at hl 5 rfl) ?_
              refine lv_iconst (v := 2) hx hb dX0_stageOf_72 (by decide) ?_
              refine lv_isub hx hb dX0_stageOf_73 ?_
              refine lv_icmp_ne (tgt := 82) hx hb dX0_stageOf_74 (by decide) (fun c_8 => ?_) (fun c_8 => ?_)
              · skip
                refine lv_iload hx hb dX0_stageOf_82 (lv_at hl 0 rfl) ?_
                exact W.iret (v := (nI k4)) hx hb hr (fun t ht hW => ⟨_, rfl, trivial, ht⟩) (fun q h => absurd h List.not_mem_nil) dX0_stageOf_84
              · skip
                refine lv_bipush (v := 20) hx hb dX0_stageOf_77 (by decide) ?_
                refine lv_goto (tgt := 84) hx hb dX0_stageOf_79 (by decide) ?_
                exact W.iret (v := 20) hx hb hr (fun t ht hW => ⟨_, rfl, trivial, ht⟩) (fun q h => absurd h List.not_mem_nil) dX0_stageOf_84
            · have hl_k4 := gl_lt (B := (5 : Int32)) hb_k4 c_7
              refine lv_iinc (v := (nI (k4 + 1))) (lv' := [(4, .int (nI (k4 + 1))), (5, .int z5), (0, .ref bd), (1, .int x), (2, .int y), (3, .int (rg f 2088 (4 + x * 36 + 3)))]) hx hb dX0_stageOf_53 hl (k := 0) rfl (nI_1 k4) (by decide) rfl (fun ls hl => ?_)
              refine lv_iload hx hb dX0_stageOf_56 (lv_at hl 1 rfl) ?_
              refine lv_iload_n hx hb dX0_stageOf_58 rfl (lv_at hl 5 rfl) ?_
              refine lv_iload hx hb dX0_stageOf_59 (lv_at hl 0 rfl) ?_
              refine lv_iconst (v := 1) hx hb dX0_stageOf_61 (by decide) ?_
              refine lv_iadd hx hb dX0_stageOf_62 ?_
              refine lv_ishr hx hb dX0_stageOf_63 ?_
              refine lv_iadd hx hb dX0_stageOf_64 ?_
              refine lv_istore (lv' := [(5, .int (z5 + ((rg f 2088 (4 + x * 36 + 3)) >>> (((nI (k4 + 1)) + 1) &&& 31)))), (4, .int (nI (k4 + 1))), (0, .ref bd), (1, .int x), (2, .int y), (3, .int (rg f 2088 (4 + x * 36 + 3)))]) hx hb dX0_stageOf_65 hl (by decide) rfl (fun ls hl => ?_)
              refine lv_goto (tgt := 41) hx hb dX0_stageOf_67 (by decide) ?_
              exact ih41 (k4 + 1) (z5 + ((rg f 2088 (4 + x * 36 + 3)) >>> (((nI (k4 + 1)) + 1) &&& 31))) (by omega) (hl_k4) _ (lv_sub hl [1, 0, 2, 3, 4, 5] rfl) 
      exact hloop41 (((5 : Int32).toNatClampNeg - 0) + 1) 0 ((rg f 2088 (4 + x * 36 + 3)) / 2) (Nat.lt_succ_self _) (Nat.zero_le _) _ (lv_sub hl [1, 0, 3, 4, 5, 2] rfl)
    · skip
      refine lv_bipush (v := 10) hx hb dX0_stageOf_24 (by decide) ?_
      refine lv_iload_n hx hb dX0_stageOf_26 rfl (lv_at hl 0 rfl) ?_
      refine lv_iload_n hx hb dX0_stageOf_27 rfl (lv_at hl 3 rfl) ?_
      refine vp_callSi (va_Run.run (va_runS (As := [.int (rg f 2088 (4 + x * 36 + 3)), .int y]) (rest := [.int 10]) ⟨hx, hb, hml, hown, hts⟩ (g_stepOf l G (rg f 2088 (4 + x * 36 + 3)) y) (va_cwS 2 hts (gdS (List.mem_cons_of_mem _ (List.mem_append_left _ (List.mem_of_getElem? (i := 7) rfl))) (List.mem_cons_of_mem _ (List.mem_append_left _ (List.mem_of_getElem? (i := 8) rfl))) (List.mem_cons_of_mem _ (List.mem_append_left _ (List.mem_of_getElem? (i := 3) rfl))) (fun w9 h9 => ⟨(List.mem_cons_of_mem _ (List.mem_append_right _ (List.mem_append_right _ (List.mem_append_right _ (List.mem_append_left _ h9))))), gd_g_stepOf w9 h9⟩)) rfl rfl rfl kSX0_stepOf ⟨Nat.le_of_ble_eq_true rfl, Nat.le_of_ble_eq_true rfl⟩) (preS_p (As := [.int (rg f 2088 (4 + x * 36 + 3)), .int y]) (hP.sub (ws' := []) [] rfl) hB) rfl rfl hl.1 rfl (lv_room (Nat.le_of_ble_eq_true rfl)) dX0_stageOf_28 ⟨Nat.le_of_ble_eq_true rfl, Nat.le_of_ble_eq_true rfl⟩)) (fun r_9 hr_9 => ?_)
      clear hr_9
      refine lv_iadd hx hb dX0_stageOf_31 ?_
      exact W.iret (v := (10 + r_9)) hx hb hr (fun t ht hW => ⟨_, rfl, trivial, ht⟩) (fun q h => absurd h List.not_mem_nil) dX0_stageOf_32
  · skip
    refine lv_iconst (v := 0) hx hb dX0_stageOf_15 (by decide) ?_
    exact W.iret (v := 0) hx hb hr (fun t ht hW => ⟨_, rfl, trivial, ht⟩) (fun q h => absurd h List.not_mem_nil) dX0_stageOf_16

def wo_g_BaheadOf : List Cond := [.methodLink RX0 49 yX0_sizeOf, .instanceMethod yX0_sizeOf, .selects RX0 yX0_sizeOf yX0_sizeOf, .initialized RX0, .methodLink RX0 46 yX0_kindOf, .instanceMethod yX0_kindOf, .selects RX0 yX0_kindOf yX0_kindOf, .methodLink RX0 52 yX0_stepsOf, .static yX0_stepsOf, .methodLink RX0 114 yX0_stepOf, .static yX0_stepOf, .methodLink RX0 97 yX0_lowerBelow, .static yX0_lowerBelow]
def wq_g_BaheadOf : List Cond := .code yX0_aheadOf cX0_aheadOf 6 (some .int) :: (wo_g_BaheadOf ++ (wq_c_Board_sizeOf ++ (wq_c_Board_kindOf ++ (wq_g_stepsOf ++ (wq_g_stepOf ++ (wq_g_lowerBelow ++ []))))))
theorem gd_g_BaheadOf : ∀ w ∈ wq_g_BaheadOf, Gd w := List.forall_mem_cons.mpr ⟨Or.inl rfl, List.forall_mem_append.mpr ⟨gdl wo_g_BaheadOf (by decide +kernel), (List.forall_mem_append.mpr ⟨gd_c_Board_sizeOf, (List.forall_mem_append.mpr ⟨gd_c_Board_kindOf, (List.forall_mem_append.mpr ⟨gd_g_stepsOf, (List.forall_mem_append.mpr ⟨gd_g_stepOf, (List.forall_mem_append.mpr ⟨gd_g_lowerBelow, (fun _ h => absurd h List.not_mem_nil)⟩)⟩)⟩)⟩)⟩)⟩⟩
theorem in_g_BaheadOf : ∀ w ∈ wq_g_BaheadOf, w ∈ lw_tbl := List.forall_mem_cons.mpr ⟨List.mem_of_getElem? (i := 1493) (by decide +kernel), List.forall_mem_append.mpr ⟨inT wo_g_BaheadOf [1123, 1124, 1125, 164, 990, 991, 992, 1163, 1164, 1479, 1480, 1151, 1152] (by decide +kernel), (List.forall_mem_append.mpr ⟨in_c_Board_sizeOf, (List.forall_mem_append.mpr ⟨in_c_Board_kindOf, (List.forall_mem_append.mpr ⟨in_g_stepsOf, (List.forall_mem_append.mpr ⟨in_g_stepOf, (List.forall_mem_append.mpr ⟨in_g_lowerBelow, (fun _ h => absurd h List.not_mem_nil)⟩)⟩)⟩)⟩)⟩)⟩⟩
set_option maxHeartbeats 4000000 in
set_option maxRecDepth 100000 in
theorem g_BaheadOf (l : Launch) (G : gG) (bd : Nat) (bk : Nat) (ca : Nat) (f : Nat → Int32) (v1 : Value) (v2 : Value) (v3 : Value) (v4 : Value) (v5 : Value) (b_wt : Value) (b_bl : Value) (b_wn : Value) (b_se : Value) (b_lo : Value) (x : Int32) (y : Int32) (z : Int32) : Met l yX0_aheadOf wq_g_BaheadOf ({ frames := 2, cells := 0, slots := 0, locals := 43 }) (va_Pc [.ref bd, .int x, .int y, .int z] (pP G [(bd, .inr (1, [.ref bk, b_wt, b_bl, b_wn, b_se, b_lo])), (bk, .inr (2, [.ref ca, v1, v2, v3, v4, v5])), (ca, .inl (gI G, 2088, .inl f))])) (vp_Si (fun r : Int32 => True)) 0 0 (fun _ => False) := by
  refine Met.ofW (cc := cX0_aheadOf) (maxL := 6) (ret := (some .int)) (by decide) rfl ?_
  intro p e s m args below meth c s₁ B hml hv
  obtain ⟨rfl, hP, hB⟩ := hv
  have hx := B.exec
  have hb := B.bytes
  have hr := B.returns
  have hts := atoms_spec (ws := wq_g_BaheadOf) B.pre
  have hown : s.vm.findClass RX0 = some m.cls := findClass_of_methodNamed B.named
  have hlocks := B.notSynchronized
  have hK := hB.1
  have hP : va_P (gD G) vwCl [(bd, .inr (1, [.ref bk, b_wt, b_bl, b_wn, b_se, b_lo])), (bk, .inr (2, [.ref ca, v1, v2, v3, v4, v5])), (ca, .inl (gI G, 2088, .inl f))] s.heap := hP
  have hl := lv_entry ([.ref bd, .int x, .int y, .int z]) (n := 6) (Nat.le_of_ble_eq_true rfl)
  rw [lg_entry_eq]
  generalize (lg_sl ([.ref bd, .int x, .int y, .int z]) ++ List.replicate (6 - (lg_sl ([.ref bd, .int x, .int y, .int z])).length) Slot.unset).toArray = ls at hl ⊢
  have hl : lv_has ls 6 [(0, .ref bd), (1, .int x), (2, .int y), (3, .int z)] := hl
  refine lv_aload_n hx hb dX0_aheadOf_0 rfl (lv_at hl 0 rfl) ?_
  refine lv_iload_n hx hb dX0_aheadOf_1 rfl (lv_at hl 1 rfl) ?_
  refine vp_callSi (va_Run.run (va_runV (As := [.int x]) (rest := []) ⟨hx, hb, hml, hown, hts⟩ (c_Board_sizeOf l G bd bk ca 2088 f v1 v2 v3 v4 v5 b_wt b_bl b_wn b_se b_lo x (by decide)) (cwV 1 hts (gdV (List.mem_cons_of_mem _ (List.mem_append_left _ (List.mem_of_getElem? (i := 0) rfl))) (List.mem_cons_of_mem _ (List.mem_append_left _ (List.mem_of_getElem? (i := 1) rfl))) (List.mem_cons_of_mem _ (List.mem_append_left _ (List.mem_of_getElem? (i := 2) rfl))) (List.mem_cons_of_mem _ (List.mem_append_left _ (List.mem_of_getElem? (i := 3) rfl))) (fun w9 h9 => ⟨(List.mem_cons_of_mem _ (List.mem_append_right _ (List.mem_append_left _ h9))), gd_c_Board_sizeOf w9 h9⟩)) rfl rfl rfl kVX0_sizeOf ⟨Nat.le_of_ble_eq_true rfl, Nat.le_of_ble_eq_true rfl⟩) (preV_p (As := [.int x]) (hP.sub (ws' := [(bd, .inr (1, [.ref bk, b_wt, b_bl, b_wn, b_se, b_lo])), (bk, .inr (2, [.ref ca, v1, v2, v3, v4, v5])), (ca, .inl (gI G, 2088, .inl f))]) [0, 1, 2] rfl) hB rfl rfl) rfl rfl hl.1 rfl (lv_room (Nat.le_of_ble_eq_true rfl)) dX0_aheadOf_2 ⟨Nat.le_of_ble_eq_true rfl, Nat.le_of_ble_eq_true rfl⟩)) (fun r_1 hr_1 => ?_)
  subst hr_1
  refine lv_istore (lv' := [(4, .int (rg f 2088 (4 + x * 36 + 3))), (0, .ref bd), (1, .int x), (2, .int y), (3, .int z)]) hx hb dX0_aheadOf_5 hl (by decide) rfl (fun ls hl => ?_)
  refine lv_aload_n hx hb dX0_aheadOf_7 rfl (lv_at hl 1 rfl) ?_
  refine lv_iload_n hx hb dX0_aheadOf_8 rfl (lv_at hl 2 rfl) ?_
  refine vp_callSi (va_Run.run (va_runV (As := [.int x]) (rest := []) ⟨hx, hb, hml, hown, hts⟩ (c_Board_kindOf l G bd bk ca 2088 f v1 v2 v3 v4 v5 b_wt b_bl b_wn b_se b_lo x (by decide)) (cwV 1 hts (gdV (List.mem_cons_of_mem _ (List.mem_append_left _ (List.mem_of_getElem? (i := 4) rfl))) (List.mem_cons_of_mem _ (List.mem_append_left _ (List.mem_of_getElem? (i := 5) rfl))) (List.mem_cons_of_mem _ (List.mem_append_left _ (List.mem_of_getElem? (i := 6) rfl))) (List.mem_cons_of_mem _ (List.mem_append_left _ (List.mem_of_getElem? (i := 3) rfl))) (fun w9 h9 => ⟨(List.mem_cons_of_mem _ (List.mem_append_right _ (List.mem_append_right _ (List.mem_append_left _ h9)))), gd_c_Board_kindOf w9 h9⟩)) rfl rfl rfl kVX0_kindOf ⟨Nat.le_of_ble_eq_true rfl, Nat.le_of_ble_eq_true rfl⟩) (preV_p (As := [.int x]) (hP.sub (ws' := [(bd, .inr (1, [.ref bk, b_wt, b_bl, b_wn, b_se, b_lo])), (bk, .inr (2, [.ref ca, v1, v2, v3, v4, v5])), (ca, .inl (gI G, 2088, .inl f))]) [0, 1, 2] rfl) hB rfl rfl) rfl rfl hl.1 rfl (lv_room (Nat.le_of_ble_eq_true rfl)) dX0_aheadOf_9 ⟨Nat.le_of_ble_eq_true rfl, Nat.le_of_ble_eq_true rfl⟩)) (fun r_2 hr_2 => ?_)
  subst hr_2
  refine lv_iconst (v := 2) hx hb dX0_aheadOf_12 (by decide) ?_
  refine lv_icmp_ne (tgt := 24) hx hb dX0_aheadOf_13 (by decide) (fun c_3 => ?_) (fun c_3 => ?_)
  · skip
    refine lv_iconst (v := (-1)) hx hb dX0_aheadOf_24 (by decide) ?_
    exact W.iret (v := (-1)) hx hb hr (fun t ht hW => ⟨_, rfl, trivial, ht⟩) (fun q h => absurd h List.not_mem_nil) dX0_aheadOf_25
  · skip
    refine lv_iload_n hx hb dX0_aheadOf_16 rfl (lv_at hl 3 rfl) ?_
    refine lv_iload hx hb dX0_aheadOf_17 (lv_at hl 0 rfl) ?_
    refine lv_iconst (v := 2) hx hb dX0_aheadOf_19 (by decide) ?_
    refine lv_idiv hx hb dX0_aheadOf_20 (by decide) ?_
    refine lv_icmp_ge (tgt := 26) hx hb dX0_aheadOf_21 (by decide) (fun c_4 => ?_) (fun c_4 => ?_)
    · skip
      refine lv_iload_n hx hb dX0_aheadOf_26 rfl (lv_at hl 3 rfl) ?_
      refine lv_iload hx hb dX0_aheadOf_27 (lv_at hl 0 rfl) ?_
      refine lv_iconst (v := 2) hx hb dX0_aheadOf_29 (by decide) ?_
      refine lv_isub hx hb dX0_aheadOf_30 ?_
      refine lv_icmp_gt (tgt := 43) hx hb dX0_aheadOf_31 (by decide) (fun c_5 => ?_) (fun c_5 => ?_)
      · skip
        refine lv_iload_n hx hb dX0_aheadOf_43 rfl (lv_at hl 3 rfl) ?_
        refine lv_iload hx hb dX0_aheadOf_44 (lv_at hl 0 rfl) ?_
        refine lv_iconst (v := 1) hx hb dX0_aheadOf_46 (by decide) ?_
        refine lv_isub hx hb dX0_aheadOf_47 ?_
        refine lv_isub hx hb dX0_aheadOf_48 ?_
        refine lv_iload hx hb dX0_aheadOf_49 (lv_at hl 0 rfl) ?_
        refine vp_callSi (va_Run.run (va_runS (As := [.int (rg f 2088 (4 + x * 36 + 3))]) (rest := [.int (y - ((rg f 2088 (4 + x * 36 + 3)) - 1))]) ⟨hx, hb, hml, hown, hts⟩ (g_stepsOf l G (rg f 2088 (4 + x * 36 + 3))) (va_cwS 1 hts (gdS (List.mem_cons_of_mem _ (List.mem_append_left _ (List.mem_of_getElem? (i := 7) rfl))) (List.mem_cons_of_mem _ (List.mem_append_left _ (List.mem_of_getElem? (i := 8) rfl))) (List.mem_cons_of_mem _ (List.mem_append_left _ (List.mem_of_getElem? (i := 3) rfl))) (fun w9 h9 => ⟨(List.mem_cons_of_mem _ (List.mem_append_right _ (List.mem_append_right _ (List.mem_append_right _ (List.mem_append_left _ h9))))), gd_g_stepsOf w9 h9⟩)) rfl rfl rfl kSX0_stepsOf ⟨Nat.le_of_ble_eq_true rfl, Nat.le_of_ble_eq_true rfl⟩) (preS_p (As := [.int (rg f 2088 (4 + x * 36 + 3))]) (hP.sub (ws' := []) [] rfl) hB) rfl rfl hl.1 rfl (lv_room (Nat.le_of_ble_eq_true rfl)) dX0_aheadOf_51 ⟨Nat.le_of_ble_eq_true rfl, Nat.le_of_ble_eq_true rfl⟩)) (fun r_6 hr_6 => ?_)
        subst hr_6
        refine lv_icmp_ge (tgt := 61) hx hb dX0_aheadOf_54 (by decide) (fun c_7 => ?_) (fun c_7 => ?_)
        · skip
          refine lv_iconst (v := 1) hx hb dX0_aheadOf_61 (by decide) ?_
          refine lv_istore (lv' := [(5, .int 1), (4, .int (rg f 2088 (4 + x * 36 + 3))), (0, .ref bd), (1, .int x), (2, .int y), (3, .int z)]) hx hb dX0_aheadOf_62 hl (by decide) rfl (fun ls hl => ?_)
          refine lv_iload_n hx hb dX0_aheadOf_64 rfl (lv_at hl 5 rfl) ?_
          refine lv_if_ne (tgt := 76) hx hb dX0_aheadOf_65 (by decide) (fun c_8 => ?_) (fun c_8 => ?_)
          · skip
            refine lv_iload hx hb dX0_aheadOf_76 (lv_at hl 1 rfl) ?_
            refine lv_iload_n hx hb dX0_aheadOf_78 rfl (lv_at hl 4 rfl) ?_
            refine vp_callSi (va_Run.run (va_runS (As := [.int (rg f 2088 (4 + x * 36 + 3)), .int y]) (rest := []) ⟨hx, hb, hml, hown, hts⟩ (g_stepOf l G (rg f 2088 (4 + x * 36 + 3)) y) (va_cwS 2 hts (gdS (List.mem_cons_of_mem _ (List.mem_append_left _ (List.mem_of_getElem? (i := 9) rfl))) (List.mem_cons_of_mem _ (List.mem_append_left _ (List.mem_of_getElem? (i := 10) rfl))) (List.mem_cons_of_mem _ (List.mem_append_left _ (List.mem_of_getElem? (i := 3) rfl))) (fun w9 h9 => ⟨(List.mem_cons_of_mem _ (List.mem_append_right _ (List.mem_append_right _ (List.mem_append_right _ (List.mem_append_right _ (List.mem_append_left _ h9)))))), gd_g_stepOf w9 h9⟩)) rfl rfl rfl kSX0_stepOf ⟨Nat.le_of_ble_eq_true rfl, Nat.le_of_ble_eq_true rfl⟩) (preS_p (As := [.int (rg f 2088 (4 + x * 36 + 3)), .int y]) (hP.sub (ws' := []) [] rfl) hB) rfl rfl hl.1 rfl (lv_room (Nat.le_of_ble_eq_true rfl)) dX0_aheadOf_79 ⟨Nat.le_of_ble_eq_true rfl, Nat.le_of_ble_eq_true rfl⟩)) (fun r_9 hr_9 => ?_)
            clear hr_9
            refine lv_iconst (v := 1) hx hb dX0_aheadOf_82 (by decide) ?_
            refine lv_icmp_le (tgt := 92) hx hb dX0_aheadOf_83 (by decide) (fun c_10 => ?_) (fun c_10 => ?_)
            · skip
              refine lv_iconst (v := (-1)) hx hb dX0_aheadOf_92 (by decide) ?_
              exact W.iret (v := (-1)) hx hb hr (fun t ht hW => ⟨_, rfl, trivial, ht⟩) (fun q h => absurd h List.not_mem_nil) dX0_aheadOf_93
            · skip
              refine lv_iload_n hx hb dX0_aheadOf_86 rfl (lv_at hl 4 rfl) ?_
              refine lv_iconst (v := 1) hx hb dX0_aheadOf_87 (by decide) ?_
              refine lv_isub hx hb dX0_aheadOf_88 ?_
              refine lv_goto (tgt := 93) hx hb dX0_aheadOf_89 (by decide) ?_
              exact W.iret (v := (y - 1)) hx hb hr (fun t ht hW => ⟨_, rfl, trivial, ht⟩) (fun q h => absurd h List.not_mem_nil) dX0_aheadOf_93
          · skip
            refine lv_iload hx hb dX0_aheadOf_68 (lv_at hl 1 rfl) ?_
            refine lv_iconst (v := 4) hx hb dX0_aheadOf_70 (by decide) ?_
            refine lv_isub hx hb dX0_aheadOf_71 ?_
            refine lv_iload hx hb dX0_aheadOf_72 (lv_at hl 0 rfl) ?_
            refine lv_iadd hx hb dX0_aheadOf_74 ?_
            exact W.iret (v := (((rg f 2088 (4 + x * 36 + 3)) - 4) + 1)) hx hb hr (fun t ht hW => ⟨_, rfl, trivial, ht⟩) (fun q h => absurd h List.not_mem_nil) dX0_aheadOf_75
        · skip
          refine lv_iconst (v := 0) hx hb dX0_aheadOf_57 (by decide) ?_
          refine lv_goto (tgt := 62) hx hb dX0_aheadOf_58 (by decide) ?_
          refine lv_istore (lv' := [(5, .int 0), (4, .int (rg f 2088 (4 + x * 36 + 3))), (0, .ref bd), (1, .int x), (2, .int y), (3, .int z)]) hx hb dX0_aheadOf_62 hl (by decide) rfl (fun ls hl => ?_)
          refine lv_iload_n hx hb dX0_aheadOf_64 rfl (lv_at hl 5 rfl) ?_
          refine lv_if_ne (tgt := 76) hx hb dX0_aheadOf_65 (by decide) (fun c_11 => ?_) (fun c_11 => ?_)
          · skip
            refine lv_iload hx hb dX0_aheadOf_76 (lv_at hl 1 rfl) ?_
            refine lv_iload_n hx hb dX0_aheadOf_78 rfl (lv_at hl 4 rfl) ?_
            refine vp_callSi (va_Run.run (va_runS (As := [.int (rg f 2088 (4 + x * 36 + 3)), .int y]) (rest := []) ⟨hx, hb, hml, hown, hts⟩ (g_stepOf l G (rg f 2088 (4 + x * 36 + 3)) y) (va_cwS 2 hts (gdS (List.mem_cons_of_mem _ (List.mem_append_left _ (List.mem_of_getElem? (i := 9) rfl))) (List.mem_cons_of_mem _ (List.mem_append_left _ (List.mem_of_getElem? (i := 10) rfl))) (List.mem_cons_of_mem _ (List.mem_append_left _ (List.mem_of_getElem? (i := 3) rfl))) (fun w9 h9 => ⟨(List.mem_cons_of_mem _ (List.mem_append_right _ (List.mem_append_right _ (List.mem_append_right _ (List.mem_append_right _ (List.mem_append_left _ h9)))))), gd_g_stepOf w9 h9⟩)) rfl rfl rfl kSX0_stepOf ⟨Nat.le_of_ble_eq_true rfl, Nat.le_of_ble_eq_true rfl⟩) (preS_p (As := [.int (rg f 2088 (4 + x * 36 + 3)), .int y]) (hP.sub (ws' := []) [] rfl) hB) rfl rfl hl.1 rfl (lv_room (Nat.le_of_ble_eq_true rfl)) dX0_aheadOf_79 ⟨Nat.le_of_ble_eq_true rfl, Nat.le_of_ble_eq_true rfl⟩)) (fun r_12 hr_12 => ?_)
            clear hr_12
            refine lv_iconst (v := 1) hx hb dX0_aheadOf_82 (by decide) ?_
            refine lv_icmp_le (tgt := 92) hx hb dX0_aheadOf_83 (by decide) (fun c_13 => ?_) (fun c_13 => ?_)
            · skip
              refine lv_iconst (v := (-1)) hx hb dX0_aheadOf_92 (by decide) ?_
              exact W.iret (v := (-1)) hx hb hr (fun t ht hW => ⟨_, rfl, trivial, ht⟩) (fun q h => absurd h List.not_mem_nil) dX0_aheadOf_93
            · skip
              refine lv_iload_n hx hb dX0_aheadOf_86 rfl (lv_at hl 4 rfl) ?_
              refine lv_iconst (v := 1) hx hb dX0_aheadOf_87 (by decide) ?_
              refine lv_isub hx hb dX0_aheadOf_88 ?_
              refine lv_goto (tgt := 93) hx hb dX0_aheadOf_89 (by decide) ?_
              exact W.iret (v := (y - 1)) hx hb hr (fun t ht hW => ⟨_, rfl, trivial, ht⟩) (fun q h => absurd h List.not_mem_nil) dX0_aheadOf_93
          · skip
            refine lv_iload hx hb dX0_aheadOf_68 (lv_at hl 1 rfl) ?_
            refine lv_iconst (v := 4) hx hb dX0_aheadOf_70 (by decide) ?_
            refine lv_isub hx hb dX0_aheadOf_71 ?_
            refine lv_iload hx hb dX0_aheadOf_72 (lv_at hl 0 rfl) ?_
            refine lv_iadd hx hb dX0_aheadOf_74 ?_
            exact W.iret (v := (((rg f 2088 (4 + x * 36 + 3)) - 4) + 0)) hx hb hr (fun t ht hW => ⟨_, rfl, trivial, ht⟩) (fun q h => absurd h List.not_mem_nil) dX0_aheadOf_75
      · skip
        refine lv_iload hx hb dX0_aheadOf_34 (lv_at hl 0 rfl) ?_
        refine lv_iload_n hx hb dX0_aheadOf_36 rfl (lv_at hl 3 rfl) ?_
        refine vp_callSi (va_Run.run (va_runS (As := [.int (rg f 2088 (4 + x * 36 + 3)), .int y]) (rest := []) ⟨hx, hb, hml, hown, hts⟩ (g_lowerBelow l G (rg f 2088 (4 + x * 36 + 3)) y) (va_cwS 2 hts (gdS (List.mem_cons_of_mem _ (List.mem_append_left _ (List.mem_of_getElem? (i := 11) rfl))) (List.mem_cons_of_mem _ (List.mem_append_left _ (List.mem_of_getElem? (i := 12) rfl))) (List.mem_cons_of_mem _ (List.mem_append_left _ (List.mem_of_getElem? (i := 3) rfl))) (fun w9 h9 => ⟨(List.mem_cons_of_mem _ (List.mem_append_right _ (List.mem_append_right _ (List.mem_append_right _ (List.mem_append_right _ (List.mem_append_right _ (List.mem_append_left _ h9))))))), gd_g_lowerBelow w9 h9⟩)) rfl rfl rfl kSX0_lowerBelow ⟨Nat.le_of_ble_eq_true rfl, Nat.le_of_ble_eq_true rfl⟩) (preS_p (As := [.int (rg f 2088 (4 + x * 36 + 3)), .int y]) (hP.sub (ws' := []) [] rfl) hB) rfl rfl hl.1 rfl (lv_room (Nat.le_of_ble_eq_true rfl)) dX0_aheadOf_37 ⟨Nat.le_of_ble_eq_true rfl, Nat.le_of_ble_eq_true rfl⟩)) (fun r_14 hr_14 => ?_)
        clear hr_14
        refine lv_iload_n hx hb dX0_aheadOf_40 rfl (lv_at hl 4 rfl) ?_
        refine lv_iadd hx hb dX0_aheadOf_41 ?_
        exact W.iret (v := (r_14 + z)) hx hb hr (fun t ht hW => ⟨_, rfl, trivial, ht⟩) (fun q h => absurd h List.not_mem_nil) dX0_aheadOf_42
    · skip
      refine lv_iconst (v := (-1)) hx hb dX0_aheadOf_24 (by decide) ?_
      exact W.iret (v := (-1)) hx hb hr (fun t ht hW => ⟨_, rfl, trivial, ht⟩) (fun q h => absurd h List.not_mem_nil) dX0_aheadOf_25

def wo_g_Fon : List Cond := [.fieldLink RX3 9 "JudoHall$Floor" "book" "LJudoHall$Book;", .methodLink RX3 28 yX1_ofMat, .static yX1_ofMat, .initialized RX1, .methodLink RX3 34 yX1_at, .instanceMethod yX1_at, .selects RX1 yX1_at yX1_at]
def wq_g_Fon : List Cond := .code yX3_on cX3_on 3 (some .int) :: (wo_g_Fon ++ (wsX30 ++ (wq_c_Book_ofMat ++ (wq_c_Book_at ++ []))))
theorem gd_g_Fon : ∀ w ∈ wq_g_Fon, Gd w := List.forall_mem_cons.mpr ⟨Or.inl rfl, List.forall_mem_append.mpr ⟨gdl wo_g_Fon (by decide +kernel), (List.forall_mem_append.mpr ⟨gd_wsX30, (List.forall_mem_append.mpr ⟨gd_c_Book_ofMat, (List.forall_mem_append.mpr ⟨gd_c_Book_at, (fun _ h => absurd h List.not_mem_nil)⟩)⟩)⟩)⟩⟩
theorem in_g_Fon : ∀ w ∈ wq_g_Fon, w ∈ lw_tbl := List.forall_mem_cons.mpr ⟨List.mem_of_getElem? (i := 620) (by decide +kernel), List.forall_mem_append.mpr ⟨inT wo_g_Fon [442, 621, 223, 155, 622, 623, 624] (by decide +kernel), (List.forall_mem_append.mpr ⟨in_wsX30, (List.forall_mem_append.mpr ⟨in_c_Book_ofMat, (List.forall_mem_append.mpr ⟨in_c_Book_at, (fun _ h => absurd h List.not_mem_nil)⟩)⟩)⟩)⟩⟩
set_option maxHeartbeats 4000000 in
set_option maxRecDepth 100000 in
theorem g_Fon (l : Launch) (G : gG) (fr : Nat) (bk : Nat) (ca : Nat) (f : Nat → Int32) (v1 : Value) (v2 : Value) (v3 : Value) (v4 : Value) (v5 : Value) (f_b : Value) (f_s : Value) (f_t : Value) (x : Int32) (y : Int32) : Met l yX3_on wq_g_Fon ({ frames := 1, cells := 0, slots := 0, locals := 21 }) (va_Pc [.ref fr, .int x, .int y] (pP G [(fr, .inr (4, [.ref bk, f_b, f_s, f_t])), (bk, .inr (2, [.ref ca, v1, v2, v3, v4, v5])), (ca, .inl (gI G, 2088, .inl f))])) (vp_Si (fun r : Int32 => True)) 0 0 (fun _ => False) := by
  refine Met.ofW (cc := cX3_on) (maxL := 3) (ret := (some .int)) (by decide) rfl ?_
  intro p e s m args below meth c s₁ B hml hv
  obtain ⟨rfl, hP, hB⟩ := hv
  have hx := B.exec
  have hb := B.bytes
  have hr := B.returns
  have hts := atoms_spec (ws := wq_g_Fon) B.pre
  have hown : s.vm.findClass RX3 = some m.cls := findClass_of_methodNamed B.named
  have hlocks := B.notSynchronized
  have hK := hB.1
  have hP : va_P (gD G) vwCl [(fr, .inr (4, [.ref bk, f_b, f_s, f_t])), (bk, .inr (2, [.ref ca, v1, v2, v3, v4, v5])), (ca, .inl (gI G, 2088, .inl f))] s.heap := hP
  have hl := lv_entry ([.ref fr, .int x, .int y]) (n := 3) (Nat.le_of_ble_eq_true rfl)
  rw [lg_entry_eq]
  generalize (lg_sl ([.ref fr, .int x, .int y]) ++ List.replicate (3 - (lg_sl ([.ref fr, .int x, .int y])).length) Slot.unset).toArray = ls at hl ⊢
  have hl : lv_has ls 3 [(0, .ref fr), (1, .int x), (2, .int y)] := hl
  refine lv_aload_n hx hb dX3_on_0 rfl (lv_at hl 0 rfl) ?_
  refine va_get (D := gD G) (ci := 4) (v := .ref bk) (C := RX3) (T := TX3) (N := 4) hx hb hts (fun _ h9 => (List.mem_cons_of_mem _ (List.mem_append_right _ (List.mem_append_left _ h9)))) hown hK hP 0 rfl rfl 0 (by decide) (hts (.fieldLink RX3 9 "JudoHall$Floor" "book" "LJudoHall$Book;") (List.mem_cons_of_mem _ (List.mem_append_left _ (List.mem_of_getElem? (i := 0) rfl)))) (fun _ h9 => h9) rfl dX3_on_1 ?_
  refine lv_iload_n hx hb dX3_on_4 rfl (lv_at hl 1 rfl) ?_
  refine lv_iload_n hx hb dX3_on_5 rfl (lv_at hl 2 rfl) ?_
  refine vp_callSi (va_Run.run (va_runS (As := [.int x, .int y]) (rest := [.ref bk]) ⟨hx, hb, hml, hown, hts⟩ (c_Book_ofMat l G x y) (va_cwS 2 hts (gdS (List.mem_cons_of_mem _ (List.mem_append_left _ (List.mem_of_getElem? (i := 1) rfl))) (List.mem_cons_of_mem _ (List.mem_append_left _ (List.mem_of_getElem? (i := 2) rfl))) (List.mem_cons_of_mem _ (List.mem_append_left _ (List.mem_of_getElem? (i := 3) rfl))) (fun w9 h9 => ⟨(List.mem_cons_of_mem _ (List.mem_append_right _ (List.mem_append_right _ (List.mem_append_left _ h9)))), gd_c_Book_ofMat w9 h9⟩)) rfl rfl rfl kSX1_ofMat ⟨Nat.le_of_ble_eq_true rfl, Nat.le_of_ble_eq_true rfl⟩) (preS_p (As := [.int x, .int y]) (hP.sub (ws' := []) [] rfl) hB) rfl rfl hl.1 rfl (lv_room (Nat.le_of_ble_eq_true rfl)) dX3_on_6 ⟨Nat.le_of_ble_eq_true rfl, Nat.le_of_ble_eq_true rfl⟩)) (fun r_1 hr_1 => ?_)
  subst hr_1
  refine vp_callSi (va_Run.run (va_runV (As := [.int (2004 + x * 21 + y)]) (rest := []) ⟨hx, hb, hml, hown, hts⟩ (c_Book_at l G bk ca 2088 f v1 v2 v3 v4 v5 (2004 + x * 21 + y) (by decide)) (cwV 1 hts (gdV (List.mem_cons_of_mem _ (List.mem_append_left _ (List.mem_of_getElem? (i := 4) rfl))) (List.mem_cons_of_mem _ (List.mem_append_left _ (List.mem_of_getElem? (i := 5) rfl))) (List.mem_cons_of_mem _ (List.mem_append_left _ (List.mem_of_getElem? (i := 6) rfl))) (List.mem_cons_of_mem _ (List.mem_append_left _ (List.mem_of_getElem? (i := 3) rfl))) (fun w9 h9 => ⟨(List.mem_cons_of_mem _ (List.mem_append_right _ (List.mem_append_right _ (List.mem_append_right _ (List.mem_append_left _ h9))))), gd_c_Book_at w9 h9⟩)) rfl rfl rfl kVX1_at ⟨Nat.le_of_ble_eq_true rfl, Nat.le_of_ble_eq_true rfl⟩) (preV_p (As := [.int (2004 + x * 21 + y)]) (hP.sub (ws' := [(bk, .inr (2, [.ref ca, v1, v2, v3, v4, v5])), (ca, .inl (gI G, 2088, .inl f))]) [1, 2] rfl) hB rfl rfl) rfl rfl hl.1 rfl (lv_room (Nat.le_of_ble_eq_true rfl)) dX3_on_9 ⟨Nat.le_of_ble_eq_true rfl, Nat.le_of_ble_eq_true rfl⟩)) (fun r_2 hr_2 => ?_)
  subst hr_2
  exact W.iret (v := (rg f 2088 (2004 + x * 21 + y))) hx hb hr (fun t ht hW => ⟨_, rfl, trivial, ht⟩) (fun q h => absurd h List.not_mem_nil) dX3_on_12

def wo_g_FisFree : List Cond := [.methodLink RX3 38 yX3_on, .instanceMethod yX3_on, .selects RX3 yX3_on yX3_on, .initialized RX3]
def wq_g_FisFree : List Cond := .code yX3_isFree cX3_isFree 2 (some .boolean) :: (wo_g_FisFree ++ (wq_g_Fon ++ []))
theorem gd_g_FisFree : ∀ w ∈ wq_g_FisFree, Gd w := List.forall_mem_cons.mpr ⟨Or.inl rfl, List.forall_mem_append.mpr ⟨gdl wo_g_FisFree (by decide +kernel), (List.forall_mem_append.mpr ⟨gd_g_Fon, (fun _ h => absurd h List.not_mem_nil)⟩)⟩⟩
theorem in_g_FisFree : ∀ w ∈ wq_g_FisFree, w ∈ lw_tbl := List.forall_mem_cons.mpr ⟨List.mem_of_getElem? (i := 616) (by decide +kernel), List.forall_mem_append.mpr ⟨inT wo_g_FisFree [617, 619, 1, 165] (by decide +kernel), (List.forall_mem_append.mpr ⟨in_g_Fon, (fun _ h => absurd h List.not_mem_nil)⟩)⟩⟩
set_option maxHeartbeats 4000000 in
set_option maxRecDepth 100000 in
theorem g_FisFree (l : Launch) (G : gG) (fr : Nat) (bk : Nat) (ca : Nat) (f : Nat → Int32) (v1 : Value) (v2 : Value) (v3 : Value) (v4 : Value) (v5 : Value) (f_b : Value) (f_s : Value) (f_t : Value) (x : Int32) : Met l yX3_isFree wq_g_FisFree ({ frames := 2, cells := 0, slots := 0, locals := 43 }) (va_Pc [.ref fr, .int x] (pP G [(fr, .inr (4, [.ref bk, f_b, f_s, f_t])), (bk, .inr (2, [.ref ca, v1, v2, v3, v4, v5])), (ca, .inl (gI G, 2088, .inl f))])) (vp_Si (fun r : Int32 => r = 0 ∨ r = 1)) 0 0 (fun _ => False) := by
  refine Met.ofW (cc := cX3_isFree) (maxL := 2) (ret := (some .boolean)) (by decide) rfl ?_
  intro p e s m args below meth c s₁ B hml hv
  obtain ⟨rfl, hP, hB⟩ := hv
  have hx := B.exec
  have hb := B.bytes
  have hr := B.returns
  have hts := atoms_spec (ws := wq_g_FisFree) B.pre
  have hown : s.vm.findClass RX3 = some m.cls := findClass_of_methodNamed B.named
  have hlocks := B.notSynchronized
  have hK := hB.1
  have hP : va_P (gD G) vwCl [(fr, .inr (4, [.ref bk, f_b, f_s, f_t])), (bk, .inr (2, [.ref ca, v1, v2, v3, v4, v5])), (ca, .inl (gI G, 2088, .inl f))] s.heap := hP
  have hl := lv_entry ([.ref fr, .int x]) (n := 2) (Nat.le_of_ble_eq_true rfl)
  rw [lg_entry_eq]
  generalize (lg_sl ([.ref fr, .int x]) ++ List.replicate (2 - (lg_sl ([.ref fr, .int x])).length) Slot.unset).toArray = ls at hl ⊢
  have hl : lv_has ls 2 [(0, .ref fr), (1, .int x)] := hl
  refine lv_aload_n hx hb dX3_isFree_0 rfl (lv_at hl 0 rfl) ?_
  refine lv_iload_n hx hb dX3_isFree_1 rfl (lv_at hl 1 rfl) ?_
  refine lv_iconst (v := 1) hx hb dX3_isFree_2 (by decide) ?_
  refine vp_callSi (va_Run.run (va_runV (As := [.int x, .int 1]) (rest := []) ⟨hx, hb, hml, hown, hts⟩ (g_Fon l G fr bk ca f v1 v2 v3 v4 v5 f_b f_s f_t x 1) (cwV 2 hts (gdV (List.mem_cons_of_mem _ (List.mem_append_left _ (List.mem_of_getElem? (i := 0) rfl))) (List.mem_cons_of_mem _ (List.mem_append_left _ (List.mem_of_getElem? (i := 1) rfl))) (List.mem_cons_of_mem _ (List.mem_append_left _ (List.mem_of_getElem? (i := 2) rfl))) (List.mem_cons_of_mem _ (List.mem_append_left _ (List.mem_of_getElem? (i := 3) rfl))) (fun w9 h9 => ⟨(List.mem_cons_of_mem _ (List.mem_append_right _ (List.mem_append_left _ h9))), gd_g_Fon w9 h9⟩)) rfl rfl rfl kVX3_on ⟨Nat.le_of_ble_eq_true rfl, Nat.le_of_ble_eq_true rfl⟩) (preV_p (As := [.int x, .int 1]) (hP.sub (ws' := [(fr, .inr (4, [.ref bk, f_b, f_s, f_t])), (bk, .inr (2, [.ref ca, v1, v2, v3, v4, v5])), (ca, .inl (gI G, 2088, .inl f))]) [0, 1, 2] rfl) hB rfl rfl) rfl rfl hl.1 rfl (lv_room (Nat.le_of_ble_eq_true rfl)) dX3_isFree_3 ⟨Nat.le_of_ble_eq_true rfl, Nat.le_of_ble_eq_true rfl⟩)) (fun r_1 hr_1 => ?_)
  clear hr_1
  refine lv_iconst (v := (-1)) hx hb dX3_isFree_6 (by decide) ?_
  refine lv_icmp_ne (tgt := 14) hx hb dX3_isFree_7 (by decide) (fun c_2 => ?_) (fun c_2 => ?_)
  · skip
    refine lv_iconst (v := 0) hx hb dX3_isFree_14 (by decide) ?_
    exact W.zret (v := 0) hx hb hr rfl (fun t ht hW => ⟨_, rfl, Or.inl rfl, ht⟩) (fun q h => absurd h List.not_mem_nil) dX3_isFree_15
  · skip
    refine lv_iconst (v := 1) hx hb dX3_isFree_10 (by decide) ?_
    refine lv_goto (tgt := 15) hx hb dX3_isFree_11 (by decide) ?_
    exact W.zret (v := 1) hx hb hr rfl (fun t ht hW => ⟨_, rfl, Or.inr rfl, ht⟩) (fun q h => absurd h List.not_mem_nil) dX3_isFree_15

def wo_g_FclassOn : List Cond := [.methodLink RX3 38 yX3_on, .instanceMethod yX3_on, .selects RX3 yX3_on yX3_on, .initialized RX3]
def wq_g_FclassOn : List Cond := .code yX3_classOn cX3_classOn 2 (some .int) :: (wo_g_FclassOn ++ (wq_g_Fon ++ []))
theorem gd_g_FclassOn : ∀ w ∈ wq_g_FclassOn, Gd w := List.forall_mem_cons.mpr ⟨Or.inl rfl, List.forall_mem_append.mpr ⟨gdl wo_g_FclassOn (by decide +kernel), (List.forall_mem_append.mpr ⟨gd_g_Fon, (fun _ h => absurd h List.not_mem_nil)⟩)⟩⟩
theorem in_g_FclassOn : ∀ w ∈ wq_g_FclassOn, w ∈ lw_tbl := List.forall_mem_cons.mpr ⟨List.mem_of_getElem? (i := 1331) (by decide +kernel), List.forall_mem_append.mpr ⟨inT wo_g_FclassOn [617, 619, 1, 165] (by decide +kernel), (List.forall_mem_append.mpr ⟨in_g_Fon, (fun _ h => absurd h List.not_mem_nil)⟩)⟩⟩
set_option maxHeartbeats 4000000 in
set_option maxRecDepth 100000 in
theorem g_FclassOn (l : Launch) (G : gG) (fr : Nat) (bk : Nat) (ca : Nat) (f : Nat → Int32) (v1 : Value) (v2 : Value) (v3 : Value) (v4 : Value) (v5 : Value) (f_b : Value) (f_s : Value) (f_t : Value) (x : Int32) : Met l yX3_classOn wq_g_FclassOn ({ frames := 2, cells := 0, slots := 0, locals := 43 }) (va_Pc [.ref fr, .int x] (pP G [(fr, .inr (4, [.ref bk, f_b, f_s, f_t])), (bk, .inr (2, [.ref ca, v1, v2, v3, v4, v5])), (ca, .inl (gI G, 2088, .inl f))])) (vp_Si (fun r : Int32 => True)) 0 0 (fun _ => False) := by
  refine Met.ofW (cc := cX3_classOn) (maxL := 2) (ret := (some .int)) (by decide) rfl ?_
  intro p e s m args below meth c s₁ B hml hv
  obtain ⟨rfl, hP, hB⟩ := hv
  have hx := B.exec
  have hb := B.bytes
  have hr := B.returns
  have hts := atoms_spec (ws := wq_g_FclassOn) B.pre
  have hown : s.vm.findClass RX3 = some m.cls := findClass_of_methodNamed B.named
  have hlocks := B.notSynchronized
  have hK := hB.1
  have hP : va_P (gD G) vwCl [(fr, .inr (4, [.ref bk, f_b, f_s, f_t])), (bk, .inr (2, [.ref ca, v1, v2, v3, v4, v5])), (ca, .inl (gI G, 2088, .inl f))] s.heap := hP
  have hl := lv_entry ([.ref fr, .int x]) (n := 2) (Nat.le_of_ble_eq_true rfl)
  rw [lg_entry_eq]
  generalize (lg_sl ([.ref fr, .int x]) ++ List.replicate (2 - (lg_sl ([.ref fr, .int x])).length) Slot.unset).toArray = ls at hl ⊢
  have hl : lv_has ls 2 [(0, .ref fr), (1, .int x)] := hl
  refine lv_aload_n hx hb dX3_classOn_0 rfl (lv_at hl 0 rfl) ?_
  refine lv_iload_n hx hb dX3_classOn_1 rfl (lv_at hl 1 rfl) ?_
  refine lv_iconst (v := 0) hx hb dX3_classOn_2 (by decide) ?_
  refine vp_callSi (va_Run.run (va_runV (As := [.int x, .int 0]) (rest := []) ⟨hx, hb, hml, hown, hts⟩ (g_Fon l G fr bk ca f v1 v2 v3 v4 v5 f_b f_s f_t x 0) (cwV 2 hts (gdV (List.mem_cons_of_mem _ (List.mem_append_left _ (List.mem_of_getElem? (i := 0) rfl))) (List.mem_cons_of_mem _ (List.mem_append_left _ (List.mem_of_getElem? (i := 1) rfl))) (List.mem_cons_of_mem _ (List.mem_append_left _ (List.mem_of_getElem? (i := 2) rfl))) (List.mem_cons_of_mem _ (List.mem_append_left _ (List.mem_of_getElem? (i := 3) rfl))) (fun w9 h9 => ⟨(List.mem_cons_of_mem _ (List.mem_append_right _ (List.mem_append_left _ h9))), gd_g_Fon w9 h9⟩)) rfl rfl rfl kVX3_on ⟨Nat.le_of_ble_eq_true rfl, Nat.le_of_ble_eq_true rfl⟩) (preV_p (As := [.int x, .int 0]) (hP.sub (ws' := [(fr, .inr (4, [.ref bk, f_b, f_s, f_t])), (bk, .inr (2, [.ref ca, v1, v2, v3, v4, v5])), (ca, .inl (gI G, 2088, .inl f))]) [0, 1, 2] rfl) hB rfl rfl) rfl rfl hl.1 rfl (lv_room (Nat.le_of_ble_eq_true rfl)) dX3_classOn_3 ⟨Nat.le_of_ble_eq_true rfl, Nat.le_of_ble_eq_true rfl⟩)) (fun r_1 hr_1 => ?_)
  clear hr_1
  exact W.iret (v := r_1) hx hb hr (fun t ht hW => ⟨_, rfl, trivial, ht⟩) (fun q h => absurd h List.not_mem_nil) dX3_classOn_6

def wo_g_Fwaits : List Cond := [.methodLink RX3 41 yX3_isFree, .instanceMethod yX3_isFree, .selects RX3 yX3_isFree yX3_isFree, .initialized RX3, .methodLink RX3 38 yX3_on, .instanceMethod yX3_on, .selects RX3 yX3_on yX3_on]
def wq_g_Fwaits : List Cond := .code yX3_waits cX3_waits 2 (some .boolean) :: (wo_g_Fwaits ++ (wq_g_FisFree ++ (wq_g_Fon ++ [])))
theorem gd_g_Fwaits : ∀ w ∈ wq_g_Fwaits, Gd w := List.forall_mem_cons.mpr ⟨Or.inl rfl, List.forall_mem_append.mpr ⟨gdl wo_g_Fwaits (by decide +kernel), (List.forall_mem_append.mpr ⟨gd_g_FisFree, (List.forall_mem_append.mpr ⟨gd_g_Fon, (fun _ h => absurd h List.not_mem_nil)⟩)⟩)⟩⟩
theorem in_g_Fwaits : ∀ w ∈ wq_g_Fwaits, w ∈ lw_tbl := List.forall_mem_cons.mpr ⟨List.mem_of_getElem? (i := 1348) (by decide +kernel), List.forall_mem_append.mpr ⟨inT wo_g_Fwaits [613, 614, 615, 165, 617, 619, 1] (by decide +kernel), (List.forall_mem_append.mpr ⟨in_g_FisFree, (List.forall_mem_append.mpr ⟨in_g_Fon, (fun _ h => absurd h List.not_mem_nil)⟩)⟩)⟩⟩
set_option maxHeartbeats 4000000 in
set_option maxRecDepth 100000 in
theorem g_Fwaits (l : Launch) (G : gG) (fr : Nat) (bk : Nat) (ca : Nat) (f : Nat → Int32) (v1 : Value) (v2 : Value) (v3 : Value) (v4 : Value) (v5 : Value) (f_b : Value) (f_s : Value) (f_t : Value) (x : Int32) : Met l yX3_waits wq_g_Fwaits ({ frames := 3, cells := 0, slots := 0, locals := 64 }) (va_Pc [.ref fr, .int x] (pP G [(fr, .inr (4, [.ref bk, f_b, f_s, f_t])), (bk, .inr (2, [.ref ca, v1, v2, v3, v4, v5])), (ca, .inl (gI G, 2088, .inl f))])) (vp_Si (fun r : Int32 => r = 0 ∨ r = 1)) 0 0 (fun _ => False) := by
  refine Met.ofW (cc := cX3_waits) (maxL := 2) (ret := (some .boolean)) (by decide) rfl ?_
  intro p e s m args below meth c s₁ B hml hv
  obtain ⟨rfl, hP, hB⟩ := hv
  have hx := B.exec
  have hb := B.bytes
  have hr := B.returns
  have hts := atoms_spec (ws := wq_g_Fwaits) B.pre
  have hown : s.vm.findClass RX3 = some m.cls := findClass_of_methodNamed B.named
  have hlocks := B.notSynchronized
  have hK := hB.1
  have hP : va_P (gD G) vwCl [(fr, .inr (4, [.ref bk, f_b, f_s, f_t])), (bk, .inr (2, [.ref ca, v1, v2, v3, v4, v5])), (ca, .inl (gI G, 2088, .inl f))] s.heap := hP
  have hl := lv_entry ([.ref fr, .int x]) (n := 2) (Nat.le_of_ble_eq_true rfl)
  rw [lg_entry_eq]
  generalize (lg_sl ([.ref fr, .int x]) ++ List.replicate (2 - (lg_sl ([.ref fr, .int x])).length) Slot.unset).toArray = ls at hl ⊢
  have hl : lv_has ls 2 [(0, .ref fr), (1, .int x)] := hl
  refine lv_aload_n hx hb dX3_waits_0 rfl (lv_at hl 0 rfl) ?_
  refine lv_iload_n hx hb dX3_waits_1 rfl (lv_at hl 1 rfl) ?_
  refine vp_callSi (va_Run.run (va_runV (As := [.int x]) (rest := []) ⟨hx, hb, hml, hown, hts⟩ (g_FisFree l G fr bk ca f v1 v2 v3 v4 v5 f_b f_s f_t x) (cwV 1 hts (gdV (List.mem_cons_of_mem _ (List.mem_append_left _ (List.mem_of_getElem? (i := 0) rfl))) (List.mem_cons_of_mem _ (List.mem_append_left _ (List.mem_of_getElem? (i := 1) rfl))) (List.mem_cons_of_mem _ (List.mem_append_left _ (List.mem_of_getElem? (i := 2) rfl))) (List.mem_cons_of_mem _ (List.mem_append_left _ (List.mem_of_getElem? (i := 3) rfl))) (fun w9 h9 => ⟨(List.mem_cons_of_mem _ (List.mem_append_right _ (List.mem_append_left _ h9))), gd_g_FisFree w9 h9⟩)) rfl rfl rfl kVX3_isFree ⟨Nat.le_of_ble_eq_true rfl, Nat.le_of_ble_eq_true rfl⟩) (preV_p (As := [.int x]) (hP.sub (ws' := [(fr, .inr (4, [.ref bk, f_b, f_s, f_t])), (bk, .inr (2, [.ref ca, v1, v2, v3, v4, v5])), (ca, .inl (gI G, 2088, .inl f))]) [0, 1, 2] rfl) hB rfl rfl) rfl rfl hl.1 rfl (lv_room (Nat.le_of_ble_eq_true rfl)) dX3_waits_2 ⟨Nat.le_of_ble_eq_true rfl, Nat.le_of_ble_eq_true rfl⟩)) (fun r_1 hr_1 => ?_)
  have hr_1 : r_1 = 0 ∨ r_1 = 1 := hr_1
  refine lv_if_ne (tgt := 22) hx hb dX3_waits_5 (by decide) (fun c_2 => ?_) (fun c_2 => ?_)
  · skip
    refine lv_iconst (v := 0) hx hb dX3_waits_22 (by decide) ?_
    exact W.zret (v := 0) hx hb hr rfl (fun t ht hW => ⟨_, rfl, Or.inl rfl, ht⟩) (fun q h => absurd h List.not_mem_nil) dX3_waits_23
  · skip
    refine lv_aload_n hx hb dX3_waits_8 rfl (lv_at hl 0 rfl) ?_
    refine lv_iload_n hx hb dX3_waits_9 rfl (lv_at hl 1 rfl) ?_
    refine lv_iconst (v := 4) hx hb dX3_waits_10 (by decide) ?_
    refine vp_callSi (va_Run.run (va_runV (As := [.int x, .int 4]) (rest := []) ⟨hx, hb, hml, hown, hts⟩ (g_Fon l G fr bk ca f v1 v2 v3 v4 v5 f_b f_s f_t x 4) (cwV 2 hts (gdV (List.mem_cons_of_mem _ (List.mem_append_left _ (List.mem_of_getElem? (i := 4) rfl))) (List.mem_cons_of_mem _ (List.mem_append_left _ (List.mem_of_getElem? (i := 5) rfl))) (List.mem_cons_of_mem _ (List.mem_append_left _ (List.mem_of_getElem? (i := 6) rfl))) (List.mem_cons_of_mem _ (List.mem_append_left _ (List.mem_of_getElem? (i := 3) rfl))) (fun w9 h9 => ⟨(List.mem_cons_of_mem _ (List.mem_append_right _ (List.mem_append_right _ (List.mem_append_left _ h9)))), gd_g_Fon w9 h9⟩)) rfl rfl rfl kVX3_on ⟨Nat.le_of_ble_eq_true rfl, Nat.le_of_ble_eq_true rfl⟩) (preV_p (As := [.int x, .int 4]) (hP.sub (ws' := [(fr, .inr (4, [.ref bk, f_b, f_s, f_t])), (bk, .inr (2, [.ref ca, v1, v2, v3, v4, v5])), (ca, .inl (gI G, 2088, .inl f))]) [0, 1, 2] rfl) hB rfl rfl) rfl rfl hl.1 rfl (lv_room (Nat.le_of_ble_eq_true rfl)) dX3_waits_11 ⟨Nat.le_of_ble_eq_true rfl, Nat.le_of_ble_eq_true rfl⟩)) (fun r_3 hr_3 => ?_)
    clear hr_3
    refine lv_iconst (v := 1) hx hb dX3_waits_14 (by decide) ?_
    refine lv_icmp_ne (tgt := 22) hx hb dX3_waits_15 (by decide) (fun c_4 => ?_) (fun c_4 => ?_)
    · skip
      refine lv_iconst (v := 0) hx hb dX3_waits_22 (by decide) ?_
      exact W.zret (v := 0) hx hb hr rfl (fun t ht hW => ⟨_, rfl, Or.inl rfl, ht⟩) (fun q h => absurd h List.not_mem_nil) dX3_waits_23
    · skip
      refine lv_iconst (v := 1) hx hb dX3_waits_18 (by decide) ?_
      refine lv_goto (tgt := 23) hx hb dX3_waits_19 (by decide) ?_
      exact W.zret (v := 1) hx hb hr rfl (fun t ht hW => ⟨_, rfl, Or.inr rfl, ht⟩) (fun q h => absurd h List.not_mem_nil) dX3_waits_23

def wo_g_FgoesOn : List Cond := [.methodLink RX3 41 yX3_isFree, .instanceMethod yX3_isFree, .selects RX3 yX3_isFree yX3_isFree, .initialized RX3, .methodLink RX3 38 yX3_on, .instanceMethod yX3_on, .selects RX3 yX3_on yX3_on]
def wq_g_FgoesOn : List Cond := .code yX3_goesOn cX3_goesOn 2 (some .boolean) :: (wo_g_FgoesOn ++ (wq_g_FisFree ++ (wq_g_Fon ++ [])))
theorem gd_g_FgoesOn : ∀ w ∈ wq_g_FgoesOn, Gd w := List.forall_mem_cons.mpr ⟨Or.inl rfl, List.forall_mem_append.mpr ⟨gdl wo_g_FgoesOn (by decide +kernel), (List.forall_mem_append.mpr ⟨gd_g_FisFree, (List.forall_mem_append.mpr ⟨gd_g_Fon, (fun _ h => absurd h List.not_mem_nil)⟩)⟩)⟩⟩
theorem in_g_FgoesOn : ∀ w ∈ wq_g_FgoesOn, w ∈ lw_tbl := List.forall_mem_cons.mpr ⟨List.mem_of_getElem? (i := 1271) (by decide +kernel), List.forall_mem_append.mpr ⟨inT wo_g_FgoesOn [613, 614, 615, 165, 617, 619, 1] (by decide +kernel), (List.forall_mem_append.mpr ⟨in_g_FisFree, (List.forall_mem_append.mpr ⟨in_g_Fon, (fun _ h => absurd h List.not_mem_nil)⟩)⟩)⟩⟩
set_option maxHeartbeats 4000000 in
set_option maxRecDepth 100000 in
theorem g_FgoesOn (l : Launch) (G : gG) (fr : Nat) (bk : Nat) (ca : Nat) (f : Nat → Int32) (v1 : Value) (v2 : Value) (v3 : Value) (v4 : Value) (v5 : Value) (f_b : Value) (f_s : Value) (f_t : Value) (x : Int32) : Met l yX3_goesOn wq_g_FgoesOn ({ frames := 3, cells := 0, slots := 0, locals := 64 }) (va_Pc [.ref fr, .int x] (pP G [(fr, .inr (4, [.ref bk, f_b, f_s, f_t])), (bk, .inr (2, [.ref ca, v1, v2, v3, v4, v5])), (ca, .inl (gI G, 2088, .inl f))])) (vp_Si (fun r : Int32 => r = 0 ∨ r = 1)) 0 0 (fun _ => False) := by
  refine Met.ofW (cc := cX3_goesOn) (maxL := 2) (ret := (some .boolean)) (by decide) rfl ?_
  intro p e s m args below meth c s₁ B hml hv
  obtain ⟨rfl, hP, hB⟩ := hv
  have hx := B.exec
  have hb := B.bytes
  have hr := B.returns
  have hts := atoms_spec (ws := wq_g_FgoesOn) B.pre
  have hown : s.vm.findClass RX3 = some m.cls := findClass_of_methodNamed B.named
  have hlocks := B.notSynchronized
  have hK := hB.1
  have hP : va_P (gD G) vwCl [(fr, .inr (4, [.ref bk, f_b, f_s, f_t])), (bk, .inr (2, [.ref ca, v1, v2, v3, v4, v5])), (ca, .inl (gI G, 2088, .inl f))] s.heap := hP
  have hl := lv_entry ([.ref fr, .int x]) (n := 2) (Nat.le_of_ble_eq_true rfl)
  rw [lg_entry_eq]
  generalize (lg_sl ([.ref fr, .int x]) ++ List.replicate (2 - (lg_sl ([.ref fr, .int x])).length) Slot.unset).toArray = ls at hl ⊢
  have hl : lv_has ls 2 [(0, .ref fr), (1, .int x)] := hl
  refine lv_aload_n hx hb dX3_goesOn_0 rfl (lv_at hl 0 rfl) ?_
  refine lv_iload_n hx hb dX3_goesOn_1 rfl (lv_at hl 1 rfl) ?_
  refine vp_callSi (va_Run.run (va_runV (As := [.int x]) (rest := []) ⟨hx, hb, hml, hown, hts⟩ (g_FisFree l G fr bk ca f v1 v2 v3 v4 v5 f_b f_s f_t x) (cwV 1 hts (gdV (List.mem_cons_of_mem _ (List.mem_append_left _ (List.mem_of_getElem? (i := 0) rfl))) (List.mem_cons_of_mem _ (List.mem_append_left _ (List.mem_of_getElem? (i := 1) rfl))) (List.mem_cons_of_mem _ (List.mem_append_left _ (List.mem_of_getElem? (i := 2) rfl))) (List.mem_cons_of_mem _ (List.mem_append_left _ (List.mem_of_getElem? (i := 3) rfl))) (fun w9 h9 => ⟨(List.mem_cons_of_mem _ (List.mem_append_right _ (List.mem_append_left _ h9))), gd_g_FisFree w9 h9⟩)) rfl rfl rfl kVX3_isFree ⟨Nat.le_of_ble_eq_true rfl, Nat.le_of_ble_eq_true rfl⟩) (preV_p (As := [.int x]) (hP.sub (ws' := [(fr, .inr (4, [.ref bk, f_b, f_s, f_t])), (bk, .inr (2, [.ref ca, v1, v2, v3, v4, v5])), (ca, .inl (gI G, 2088, .inl f))]) [0, 1, 2] rfl) hB rfl rfl) rfl rfl hl.1 rfl (lv_room (Nat.le_of_ble_eq_true rfl)) dX3_goesOn_2 ⟨Nat.le_of_ble_eq_true rfl, Nat.le_of_ble_eq_true rfl⟩)) (fun r_1 hr_1 => ?_)
  have hr_1 : r_1 = 0 ∨ r_1 = 1 := hr_1
  refine lv_if_ne (tgt := 21) hx hb dX3_goesOn_5 (by decide) (fun c_2 => ?_) (fun c_2 => ?_)
  · skip
    refine lv_iconst (v := 0) hx hb dX3_goesOn_21 (by decide) ?_
    exact W.zret (v := 0) hx hb hr rfl (fun t ht hW => ⟨_, rfl, Or.inl rfl, ht⟩) (fun q h => absurd h List.not_mem_nil) dX3_goesOn_22
  · skip
    refine lv_aload_n hx hb dX3_goesOn_8 rfl (lv_at hl 0 rfl) ?_
    refine lv_iload_n hx hb dX3_goesOn_9 rfl (lv_at hl 1 rfl) ?_
    refine lv_iconst (v := 4) hx hb dX3_goesOn_10 (by decide) ?_
    refine vp_callSi (va_Run.run (va_runV (As := [.int x, .int 4]) (rest := []) ⟨hx, hb, hml, hown, hts⟩ (g_Fon l G fr bk ca f v1 v2 v3 v4 v5 f_b f_s f_t x 4) (cwV 2 hts (gdV (List.mem_cons_of_mem _ (List.mem_append_left _ (List.mem_of_getElem? (i := 4) rfl))) (List.mem_cons_of_mem _ (List.mem_append_left _ (List.mem_of_getElem? (i := 5) rfl))) (List.mem_cons_of_mem _ (List.mem_append_left _ (List.mem_of_getElem? (i := 6) rfl))) (List.mem_cons_of_mem _ (List.mem_append_left _ (List.mem_of_getElem? (i := 3) rfl))) (fun w9 h9 => ⟨(List.mem_cons_of_mem _ (List.mem_append_right _ (List.mem_append_right _ (List.mem_append_left _ h9)))), gd_g_Fon w9 h9⟩)) rfl rfl rfl kVX3_on ⟨Nat.le_of_ble_eq_true rfl, Nat.le_of_ble_eq_true rfl⟩) (preV_p (As := [.int x, .int 4]) (hP.sub (ws' := [(fr, .inr (4, [.ref bk, f_b, f_s, f_t])), (bk, .inr (2, [.ref ca, v1, v2, v3, v4, v5])), (ca, .inl (gI G, 2088, .inl f))]) [0, 1, 2] rfl) hB rfl rfl) rfl rfl hl.1 rfl (lv_room (Nat.le_of_ble_eq_true rfl)) dX3_goesOn_11 ⟨Nat.le_of_ble_eq_true rfl, Nat.le_of_ble_eq_true rfl⟩)) (fun r_3 hr_3 => ?_)
    clear hr_3
    refine lv_if_ne (tgt := 21) hx hb dX3_goesOn_14 (by decide) (fun c_4 => ?_) (fun c_4 => ?_)
    · skip
      refine lv_iconst (v := 0) hx hb dX3_goesOn_21 (by decide) ?_
      exact W.zret (v := 0) hx hb hr rfl (fun t ht hW => ⟨_, rfl, Or.inl rfl, ht⟩) (fun q h => absurd h List.not_mem_nil) dX3_goesOn_22
    · skip
      refine lv_iconst (v := 1) hx hb dX3_goesOn_17 (by decide) ?_
      refine lv_goto (tgt := 22) hx hb dX3_goesOn_18 (by decide) ?_
      exact W.zret (v := 1) hx hb hr rfl (fun t ht hW => ⟨_, rfl, Or.inr rfl, ht⟩) (fun q h => absurd h List.not_mem_nil) dX3_goesOn_22

def wo_g_FsignsOf : List Cond := [.methodLink RX3 38 yX3_on, .instanceMethod yX3_on, .selects RX3 yX3_on yX3_on, .initialized RX3]
def wq_g_FsignsOf : List Cond := .code yX3_signsOf cX3_signsOf 4 (some .int) :: (wo_g_FsignsOf ++ (wq_g_Fon ++ []))
theorem gd_g_FsignsOf : ∀ w ∈ wq_g_FsignsOf, Gd w := List.forall_mem_cons.mpr ⟨Or.inl rfl, List.forall_mem_append.mpr ⟨gdl wo_g_FsignsOf (by decide +kernel), (List.forall_mem_append.mpr ⟨gd_g_Fon, (fun _ h => absurd h List.not_mem_nil)⟩)⟩⟩
theorem in_g_FsignsOf : ∀ w ∈ wq_g_FsignsOf, w ∈ lw_tbl := List.forall_mem_cons.mpr ⟨List.mem_of_getElem? (i := 1279) (by decide +kernel), List.forall_mem_append.mpr ⟨inT wo_g_FsignsOf [617, 619, 1, 165] (by decide +kernel), (List.forall_mem_append.mpr ⟨in_g_Fon, (fun _ h => absurd h List.not_mem_nil)⟩)⟩⟩
set_option maxHeartbeats 4000000 in
set_option maxRecDepth 100000 in
theorem g_FsignsOf (l : Launch) (G : gG) (fr : Nat) (bk : Nat) (ca : Nat) (f : Nat → Int32) (v1 : Value) (v2 : Value) (v3 : Value) (v4 : Value) (v5 : Value) (f_b : Value) (f_s : Value) (f_t : Value) (x : Int32) (y : Int32) (z : Int32) : Met l yX3_signsOf wq_g_FsignsOf ({ frames := 2, cells := 0, slots := 0, locals := 43 }) (va_Pc [.ref fr, .int x, .int y, .int z] (pP G [(fr, .inr (4, [.ref bk, f_b, f_s, f_t])), (bk, .inr (2, [.ref ca, v1, v2, v3, v4, v5])), (ca, .inl (gI G, 2088, .inl f))])) (vp_Si (fun r : Int32 => True)) 0 0 (fun _ => False) := by
  refine Met.ofW (cc := cX3_signsOf) (maxL := 4) (ret := (some .int)) (by decide) rfl ?_
  intro p e s m args below meth c s₁ B hml hv
  obtain ⟨rfl, hP, hB⟩ := hv
  have hx := B.exec
  have hb := B.bytes
  have hr := B.returns
  have hts := atoms_spec (ws := wq_g_FsignsOf) B.pre
  have hown : s.vm.findClass RX3 = some m.cls := findClass_of_methodNamed B.named
  have hlocks := B.notSynchronized
  have hK := hB.1
  have hP : va_P (gD G) vwCl [(fr, .inr (4, [.ref bk, f_b, f_s, f_t])), (bk, .inr (2, [.ref ca, v1, v2, v3, v4, v5])), (ca, .inl (gI G, 2088, .inl f))] s.heap := hP
  have hl := lv_entry ([.ref fr, .int x, .int y, .int z]) (n := 4) (Nat.le_of_ble_eq_true rfl)
  rw [lg_entry_eq]
  generalize (lg_sl ([.ref fr, .int x, .int y, .int z]) ++ List.replicate (4 - (lg_sl ([.ref fr, .int x, .int y, .int z])).length) Slot.unset).toArray = ls at hl ⊢
  have hl : lv_has ls 4 [(0, .ref fr), (1, .int x), (2, .int y), (3, .int z)] := hl
  refine lv_aload_n hx hb dX3_signsOf_0 rfl (lv_at hl 0 rfl) ?_
  refine lv_iload_n hx hb dX3_signsOf_1 rfl (lv_at hl 1 rfl) ?_
  refine lv_iconst (v := 5) hx hb dX3_signsOf_2 (by decide) ?_
  refine lv_iload_n hx hb dX3_signsOf_3 rfl (lv_at hl 2 rfl) ?_
  refine lv_bipush (v := 8) hx hb dX3_signsOf_4 (by decide) ?_
  refine lv_imul hx hb dX3_signsOf_6 ?_
  refine lv_iadd hx hb dX3_signsOf_7 ?_
  refine lv_iload_n hx hb dX3_signsOf_8 rfl (lv_at hl 3 rfl) ?_
  refine lv_iadd hx hb dX3_signsOf_9 ?_
  refine vp_callSi (va_Run.run (va_runV (As := [.int x, .int ((5 + (y * 8)) + z)]) (rest := []) ⟨hx, hb, hml, hown, hts⟩ (g_Fon l G fr bk ca f v1 v2 v3 v4 v5 f_b f_s f_t x ((5 + (y * 8)) + z)) (cwV 2 hts (gdV (List.mem_cons_of_mem _ (List.mem_append_left _ (List.mem_of_getElem? (i := 0) rfl))) (List.mem_cons_of_mem _ (List.mem_append_left _ (List.mem_of_getElem? (i := 1) rfl))) (List.mem_cons_of_mem _ (List.mem_append_left _ (List.mem_of_getElem? (i := 2) rfl))) (List.mem_cons_of_mem _ (List.mem_append_left _ (List.mem_of_getElem? (i := 3) rfl))) (fun w9 h9 => ⟨(List.mem_cons_of_mem _ (List.mem_append_right _ (List.mem_append_left _ h9))), gd_g_Fon w9 h9⟩)) rfl rfl rfl kVX3_on ⟨Nat.le_of_ble_eq_true rfl, Nat.le_of_ble_eq_true rfl⟩) (preV_p (As := [.int x, .int ((5 + (y * 8)) + z)]) (hP.sub (ws' := [(fr, .inr (4, [.ref bk, f_b, f_s, f_t])), (bk, .inr (2, [.ref ca, v1, v2, v3, v4, v5])), (ca, .inl (gI G, 2088, .inl f))]) [0, 1, 2] rfl) hB rfl rfl) rfl rfl hl.1 rfl (lv_room (Nat.le_of_ble_eq_true rfl)) dX3_signsOf_10 ⟨Nat.le_of_ble_eq_true rfl, Nat.le_of_ble_eq_true rfl⟩)) (fun r_1 hr_1 => ?_)
  clear hr_1
  exact W.iret (v := r_1) hx hb hr (fun t ht hW => ⟨_, rfl, trivial, ht⟩) (fun q h => absurd h List.not_mem_nil) dX3_signsOf_13

def wo_g_FopenFights : List Cond := [.methodLink RX3 41 yX3_isFree, .instanceMethod yX3_isFree, .selects RX3 yX3_isFree yX3_isFree, .initialized RX3]
def wq_g_FopenFights : List Cond := .code yX3_openFights cX3_openFights 3 (some .int) :: (wo_g_FopenFights ++ (wq_g_FisFree ++ []))
theorem gd_g_FopenFights : ∀ w ∈ wq_g_FopenFights, Gd w := List.forall_mem_cons.mpr ⟨Or.inl rfl, List.forall_mem_append.mpr ⟨gdl wo_g_FopenFights (by decide +kernel), (List.forall_mem_append.mpr ⟨gd_g_FisFree, (fun _ h => absurd h List.not_mem_nil)⟩)⟩⟩
theorem in_g_FopenFights : ∀ w ∈ wq_g_FopenFights, w ∈ lw_tbl := List.forall_mem_cons.mpr ⟨List.mem_of_getElem? (i := 612) (by decide +kernel), List.forall_mem_append.mpr ⟨inT wo_g_FopenFights [613, 614, 615, 165] (by decide +kernel), (List.forall_mem_append.mpr ⟨in_g_FisFree, (fun _ h => absurd h List.not_mem_nil)⟩)⟩⟩
set_option maxHeartbeats 4000000 in
set_option maxRecDepth 100000 in
theorem g_FopenFights (l : Launch) (G : gG) (fr : Nat) (bk : Nat) (ca : Nat) (f : Nat → Int32) (v1 : Value) (v2 : Value) (v3 : Value) (v4 : Value) (v5 : Value) (f_b : Value) (f_s : Value) (f_t : Value) : Met l yX3_openFights wq_g_FopenFights ({ frames := 3, cells := 0, slots := 0, locals := 64 }) (va_Pc [.ref fr] (pP G [(fr, .inr (4, [.ref bk, f_b, f_s, f_t])), (bk, .inr (2, [.ref ca, v1, v2, v3, v4, v5])), (ca, .inl (gI G, 2088, .inl f))])) (vp_Si (fun r : Int32 => True)) 0 0 (fun _ => False) := by
  refine Met.ofW (cc := cX3_openFights) (maxL := 3) (ret := (some .int)) (by decide) rfl ?_
  intro p e s m args below meth c s₁ B hml hv
  obtain ⟨rfl, hP, hB⟩ := hv
  have hx := B.exec
  have hb := B.bytes
  have hr := B.returns
  have hts := atoms_spec (ws := wq_g_FopenFights) B.pre
  have hown : s.vm.findClass RX3 = some m.cls := findClass_of_methodNamed B.named
  have hlocks := B.notSynchronized
  have hK := hB.1
  have hP : va_P (gD G) vwCl [(fr, .inr (4, [.ref bk, f_b, f_s, f_t])), (bk, .inr (2, [.ref ca, v1, v2, v3, v4, v5])), (ca, .inl (gI G, 2088, .inl f))] s.heap := hP
  have hl := lv_entry ([.ref fr]) (n := 3) (Nat.le_of_ble_eq_true rfl)
  rw [lg_entry_eq]
  generalize (lg_sl ([.ref fr]) ++ List.replicate (3 - (lg_sl ([.ref fr])).length) Slot.unset).toArray = ls at hl ⊢
  have hl : lv_has ls 3 [(0, .ref fr)] := hl
  refine lv_iconst (v := 0) hx hb dX3_openFights_0 (by decide) ?_
  refine lv_istore_n (lv' := [(1, .int 0), (0, .ref fr)]) hx hb dX3_openFights_1 rfl hl (by decide) rfl (fun ls hl => ?_)
  refine lv_iconst (v := 0) hx hb dX3_openFights_2 (by decide) ?_
  refine lv_istore_n (lv' := [(2, .int 0), (1, .int 0), (0, .ref fr)]) hx hb dX3_openFights_3 rfl hl (by decide) rfl (fun ls hl => ?_)
  have hloop4 : ∀ (k9 : Nat) (k2 : Nat) (z1 : Int32), (4 : Int32).toNatClampNeg - k2 < k9 → (k2 ≤ (4 : Int32).toNatClampNeg) → ∀ (ls : Array Slot), lv_has ls 3 [(2, .int (nI k2)), (1, .int z1), (0, .ref fr)] → W p l e (headSpec wq_g_FopenFights ({ frames := 3, cells := 0, slots := 0, locals := 64 })).room s m [.ref fr].toArray below meth c s.heap [] 0 0 (MQ below (vp_Si (fun r : Int32 => True)) [.ref fr].toArray s 0 0 (fun _ => False)) (F0 m 4 ls []) := by
    intro k9
    induction k9 with
    | zero => intro k2 z1 h9; exact absurd h9 (Nat.not_lt_zero _)
    | succ k9 ih4 =>
      intro k2 z1 hm4 hb_k2 ls hl
      refine lv_iload_n hx hb dX3_openFights_4 rfl (lv_at hl 0 rfl) ?_
      refine lv_iconst (v := 4) hx hb dX3_openFights_5 (by decide) ?_
      refine lv_icmp_ge (tgt := 31) hx hb dX3_openFights_6 (by decide) (fun c_1 => ?_) (fun c_1 => ?_)
      · skip
        refine lv_iload_n hx hb dX3_openFights_31 rfl (lv_at hl 1 rfl) ?_
        exact W.iret (v := z1) hx hb hr (fun t ht hW => ⟨_, rfl, trivial, ht⟩) (fun q h => absurd h List.not_mem_nil) dX3_openFights_32
      · have hl_k2 := gl_lt (B := (4 : Int32)) hb_k2 c_1
        refine lv_iload_n hx hb dX3_openFights_9 rfl (lv_at hl 1 rfl) ?_
        refine lv_aload_n hx hb dX3_openFights_10 rfl (lv_at hl 2 rfl) ?_
        refine lv_iload_n hx hb dX3_openFights_11 rfl (lv_at hl 0 rfl) ?_
        refine vp_callSi (va_Run.run (va_runV (As := [.int (nI k2)]) (rest := [.int z1]) ⟨hx, hb, hml, hown, hts⟩ (g_FisFree l G fr bk ca f v1 v2 v3 v4 v5 f_b f_s f_t (nI k2)) (cwV 1 hts (gdV (List.mem_cons_of_mem _ (List.mem_append_left _ (List.mem_of_getElem? (i := 0) rfl))) (List.mem_cons_of_mem _ (List.mem_append_left _ (List.mem_of_getElem? (i := 1) rfl))) (List.mem_cons_of_mem _ (List.mem_append_left _ (List.mem_of_getElem? (i := 2) rfl))) (List.mem_cons_of_mem _ (List.mem_append_left _ (List.mem_of_getElem? (i := 3) rfl))) (fun w9 h9 => ⟨(List.mem_cons_of_mem _ (List.mem_append_right _ (List.mem_append_left _ h9))), gd_g_FisFree w9 h9⟩)) rfl rfl rfl kVX3_isFree ⟨Nat.le_of_ble_eq_true rfl, Nat.le_of_ble_eq_true rfl⟩) (preV_p (As := [.int (nI k2)]) (hP.sub (ws' := [(fr, .inr (4, [.ref bk, f_b, f_s, f_t])), (bk, .inr (2, [.ref ca, v1, v2, v3, v4, v5])), (ca, .inl (gI G, 2088, .inl f))]) [0, 1, 2] rfl) hB rfl rfl) rfl rfl hl.1 rfl (lv_room (Nat.le_of_ble_eq_true rfl)) dX3_openFights_12 ⟨Nat.le_of_ble_eq_true rfl, Nat.le_of_ble_eq_true rfl⟩)) (fun r_2 hr_2 => ?_)
        have hr_2 : r_2 = 0 ∨ r_2 = 1 := hr_2
        refine lv_if_eq (tgt := 22) hx hb dX3_openFights_15 (by decide) (fun c_3 => ?_) (fun c_3 => ?_)
        · skip
          refine lv_iconst (v := 1) hx hb dX3_openFights_22 (by decide) ?_
          refine lv_iadd hx hb dX3_openFights_23 ?_
          refine lv_istore_n (lv' := [(1, .int (z1 + 1)), (2, .int (nI k2)), (0, .ref fr)]) hx hb dX3_openFights_24 rfl hl (by decide) rfl (fun ls hl => ?_)
          refine lv_iinc (v := (nI (k2 + 1))) (lv' := [(2, .int (nI (k2 + 1))), (1, .int (z1 + 1)), (0, .ref fr)]) hx hb dX3_openFights_25 hl (k := 1) rfl (nI_1 k2) (by decide) rfl (fun ls hl => ?_)
          refine lv_goto (tgt := 4) hx hb dX3_openFights_28 (by decide) ?_
          exact ih4 (k2 + 1) (z1 + 1) (by omega) (hl_k2) _ (lv_sub hl [0, 1, 2] rfl) 
        · skip
          refine lv_iconst (v := 0) hx hb dX3_openFights_18 (by decide) ?_
          refine lv_goto (tgt := 23) hx hb dX3_openFights_19 (by decide) ?_
          refine lv_iadd hx hb dX3_openFights_23 ?_
          refine lv_istore_n (lv' := [(1, .int (z1 + 0)), (2, .int (nI k2)), (0, .ref fr)]) hx hb dX3_openFights_24 rfl hl (by decide) rfl (fun ls hl => ?_)
          refine lv_iinc (v := (nI (k2 + 1))) (lv' := [(2, .int (nI (k2 + 1))), (1, .int (z1 + 0)), (0, .ref fr)]) hx hb dX3_openFights_25 hl (k := 1) rfl (nI_1 k2) (by decide) rfl (fun ls hl => ?_)
          refine lv_goto (tgt := 4) hx hb dX3_openFights_28 (by decide) ?_
          exact ih4 (k2 + 1) (z1 + 0) (by omega) (hl_k2) _ (lv_sub hl [0, 1, 2] rfl) 
  exact hloop4 (((4 : Int32).toNatClampNeg - 0) + 1) 0 0 (Nat.lt_succ_self _) (Nat.zero_le _) _ (lv_sub hl [0, 1, 2] rfl)

def wo_g_FfighterOn : List Cond := [.fieldLink RX3 9 "JudoHall$Floor" "book" "LJudoHall$Book;", .methodLink RX3 38 yX3_on, .instanceMethod yX3_on, .selects RX3 yX3_on yX3_on, .initialized RX3, .methodLink RX3 47 yX1_ofFight, .static yX1_ofFight, .initialized RX1, .methodLink RX3 34 yX1_at, .instanceMethod yX1_at, .selects RX1 yX1_at yX1_at]
def wq_g_FfighterOn : List Cond := .code yX3_fighterOn cX3_fighterOn 4 (some .int) :: (wo_g_FfighterOn ++ (wsX30 ++ (wq_g_Fon ++ (wq_g_ofFight ++ (wq_c_Book_at ++ [])))))
theorem gd_g_FfighterOn : ∀ w ∈ wq_g_FfighterOn, Gd w := List.forall_mem_cons.mpr ⟨Or.inl rfl, List.forall_mem_append.mpr ⟨gdl wo_g_FfighterOn (by decide +kernel), (List.forall_mem_append.mpr ⟨gd_wsX30, (List.forall_mem_append.mpr ⟨gd_g_Fon, (List.forall_mem_append.mpr ⟨gd_g_ofFight, (List.forall_mem_append.mpr ⟨gd_c_Book_at, (fun _ h => absurd h List.not_mem_nil)⟩)⟩)⟩)⟩)⟩⟩
theorem in_g_FfighterOn : ∀ w ∈ wq_g_FfighterOn, w ∈ lw_tbl := List.forall_mem_cons.mpr ⟨List.mem_of_getElem? (i := 1247) (by decide +kernel), List.forall_mem_append.mpr ⟨inT wo_g_FfighterOn [442, 617, 619, 1, 165, 1248, 1136, 155, 622, 623, 624] (by decide +kernel), (List.forall_mem_append.mpr ⟨in_wsX30, (List.forall_mem_append.mpr ⟨in_g_Fon, (List.forall_mem_append.mpr ⟨in_g_ofFight, (List.forall_mem_append.mpr ⟨in_c_Book_at, (fun _ h => absurd h List.not_mem_nil)⟩)⟩)⟩)⟩)⟩⟩
set_option maxHeartbeats 4000000 in
set_option maxRecDepth 100000 in
theorem g_FfighterOn (l : Launch) (G : gG) (fr : Nat) (bk : Nat) (ca : Nat) (f : Nat → Int32) (v1 : Value) (v2 : Value) (v3 : Value) (v4 : Value) (v5 : Value) (f_b : Value) (f_s : Value) (f_t : Value) (x : Int32) (y : Int32) : Met l yX3_fighterOn wq_g_FfighterOn ({ frames := 2, cells := 0, slots := 0, locals := 43 }) (va_Pc [.ref fr, .int x, .int y] (pP G [(fr, .inr (4, [.ref bk, f_b, f_s, f_t])), (bk, .inr (2, [.ref ca, v1, v2, v3, v4, v5])), (ca, .inl (gI G, 2088, .inl f))])) (vp_Si (fun r : Int32 => True)) 0 0 (fun _ => False) := by
  refine Met.ofW (cc := cX3_fighterOn) (maxL := 4) (ret := (some .int)) (by decide) rfl ?_
  intro p e s m args below meth c s₁ B hml hv
  obtain ⟨rfl, hP, hB⟩ := hv
  have hx := B.exec
  have hb := B.bytes
  have hr := B.returns
  have hts := atoms_spec (ws := wq_g_FfighterOn) B.pre
  have hown : s.vm.findClass RX3 = some m.cls := findClass_of_methodNamed B.named
  have hlocks := B.notSynchronized
  have hK := hB.1
  have hP : va_P (gD G) vwCl [(fr, .inr (4, [.ref bk, f_b, f_s, f_t])), (bk, .inr (2, [.ref ca, v1, v2, v3, v4, v5])), (ca, .inl (gI G, 2088, .inl f))] s.heap := hP
  have hl := lv_entry ([.ref fr, .int x, .int y]) (n := 4) (Nat.le_of_ble_eq_true rfl)
  rw [lg_entry_eq]
  generalize (lg_sl ([.ref fr, .int x, .int y]) ++ List.replicate (4 - (lg_sl ([.ref fr, .int x, .int y])).length) Slot.unset).toArray = ls at hl ⊢
  have hl : lv_has ls 4 [(0, .ref fr), (1, .int x), (2, .int y)] := hl
  refine lv_iload_n hx hb dX3_fighterOn_0 rfl (lv_at hl 2 rfl) ?_
  refine lv_if_ne (tgt := 8) hx hb dX3_fighterOn_1 (by decide) (fun c_1 => ?_) (fun c_1 => ?_)
  · skip
    refine lv_iconst (v := 2) hx hb dX3_fighterOn_8 (by decide) ?_
    refine lv_istore_n (lv' := [(3, .int 2), (0, .ref fr), (1, .int x), (2, .int y)]) hx hb dX3_fighterOn_9 rfl hl (by decide) rfl (fun ls hl => ?_)
    refine lv_aload_n hx hb dX3_fighterOn_10 rfl (lv_at hl 1 rfl) ?_
    refine va_get (D := gD G) (ci := 4) (v := .ref bk) (C := RX3) (T := TX3) (N := 4) hx hb hts (fun _ h9 => (List.mem_cons_of_mem _ (List.mem_append_right _ (List.mem_append_left _ h9)))) hown hK hP 0 rfl rfl 0 (by decide) (hts (.fieldLink RX3 9 "JudoHall$Floor" "book" "LJudoHall$Book;") (List.mem_cons_of_mem _ (List.mem_append_left _ (List.mem_of_getElem? (i := 0) rfl)))) (fun _ h9 => h9) rfl dX3_fighterOn_11 ?_
    refine lv_aload_n hx hb dX3_fighterOn_14 rfl (lv_at hl 1 rfl) ?_
    refine lv_iload_n hx hb dX3_fighterOn_15 rfl (lv_at hl 2 rfl) ?_
    refine lv_iconst (v := 0) hx hb dX3_fighterOn_16 (by decide) ?_
    refine vp_callSi (va_Run.run (va_runV (As := [.int x, .int 0]) (rest := [.ref bk]) ⟨hx, hb, hml, hown, hts⟩ (g_Fon l G fr bk ca f v1 v2 v3 v4 v5 f_b f_s f_t x 0) (cwV 2 hts (gdV (List.mem_cons_of_mem _ (List.mem_append_left _ (List.mem_of_getElem? (i := 1) rfl))) (List.mem_cons_of_mem _ (List.mem_append_left _ (List.mem_of_getElem? (i := 2) rfl))) (List.mem_cons_of_mem _ (List.mem_append_left _ (List.mem_of_getElem? (i := 3) rfl))) (List.mem_cons_of_mem _ (List.mem_append_left _ (List.mem_of_getElem? (i := 4) rfl))) (fun w9 h9 => ⟨(List.mem_cons_of_mem _ (List.mem_append_right _ (List.mem_append_right _ (List.mem_append_left _ h9)))), gd_g_Fon w9 h9⟩)) rfl rfl rfl kVX3_on ⟨Nat.le_of_ble_eq_true rfl, Nat.le_of_ble_eq_true rfl⟩) (preV_p (As := [.int x, .int 0]) (hP.sub (ws' := [(fr, .inr (4, [.ref bk, f_b, f_s, f_t])), (bk, .inr (2, [.ref ca, v1, v2, v3, v4, v5])), (ca, .inl (gI G, 2088, .inl f))]) [0, 1, 2] rfl) hB rfl rfl) rfl rfl hl.1 rfl (lv_room (Nat.le_of_ble_eq_true rfl)) dX3_fighterOn_17 ⟨Nat.le_of_ble_eq_true rfl, Nat.le_of_ble_eq_true rfl⟩)) (fun r_2 hr_2 => ?_)
    clear hr_2
    refine lv_aload_n hx hb dX3_fighterOn_20 rfl (lv_at hl 1 rfl) ?_
    refine lv_iload_n hx hb dX3_fighterOn_21 rfl (lv_at hl 2 rfl) ?_
    refine lv_iconst (v := 1) hx hb dX3_fighterOn_22 (by decide) ?_
    refine vp_callSi (va_Run.run (va_runV (As := [.int x, .int 1]) (rest := [.int r_2, .ref bk]) ⟨hx, hb, hml, hown, hts⟩ (g_Fon l G fr bk ca f v1 v2 v3 v4 v5 f_b f_s f_t x 1) (cwV 2 hts (gdV (List.mem_cons_of_mem _ (List.mem_append_left _ (List.mem_of_getElem? (i := 1) rfl))) (List.mem_cons_of_mem _ (List.mem_append_left _ (List.mem_of_getElem? (i := 2) rfl))) (List.mem_cons_of_mem _ (List.mem_append_left _ (List.mem_of_getElem? (i := 3) rfl))) (List.mem_cons_of_mem _ (List.mem_append_left _ (List.mem_of_getElem? (i := 4) rfl))) (fun w9 h9 => ⟨(List.mem_cons_of_mem _ (List.mem_append_right _ (List.mem_append_right _ (List.mem_append_left _ h9)))), gd_g_Fon w9 h9⟩)) rfl rfl rfl kVX3_on ⟨Nat.le_of_ble_eq_true rfl, Nat.le_of_ble_eq_true rfl⟩) (preV_p (As := [.int x, .int 1]) (hP.sub (ws' := [(fr, .inr (4, [.ref bk, f_b, f_s, f_t])), (bk, .inr (2, [.ref ca, v1, v2, v3, v4, v5])), (ca, .inl (gI G, 2088, .inl f))]) [0, 1, 2] rfl) hB rfl rfl) rfl rfl hl.1 rfl (lv_room (Nat.le_of_ble_eq_true rfl)) dX3_fighterOn_23 ⟨Nat.le_of_ble_eq_true rfl, Nat.le_of_ble_eq_true rfl⟩)) (fun r_3 hr_3 => ?_)
    clear hr_3
    refine lv_iload_n hx hb dX3_fighterOn_26 rfl (lv_at hl 0 rfl) ?_
    refine vp_callSi (va_Run.run (va_runS (As := [.int r_2, .int r_3, .int 2]) (rest := [.ref bk]) ⟨hx, hb, hml, hown, hts⟩ (g_ofFight l G r_2 r_3 2) (va_cwS 3 hts (gdS (List.mem_cons_of_mem _ (List.mem_append_left _ (List.mem_of_getElem? (i := 5) rfl))) (List.mem_cons_of_mem _ (List.mem_append_left _ (List.mem_of_getElem? (i := 6) rfl))) (List.mem_cons_of_mem _ (List.mem_append_left _ (List.mem_of_getElem? (i := 7) rfl))) (fun w9 h9 => ⟨(List.mem_cons_of_mem _ (List.mem_append_right _ (List.mem_append_right _ (List.mem_append_right _ (List.mem_append_left _ h9))))), gd_g_ofFight w9 h9⟩)) rfl rfl rfl kSX1_ofFight ⟨Nat.le_of_ble_eq_true rfl, Nat.le_of_ble_eq_true rfl⟩) (preS_p (As := [.int r_2, .int r_3, .int 2]) (hP.sub (ws' := []) [] rfl) hB) rfl rfl hl.1 rfl (lv_room (Nat.le_of_ble_eq_true rfl)) dX3_fighterOn_27 ⟨Nat.le_of_ble_eq_true rfl, Nat.le_of_ble_eq_true rfl⟩)) (fun r_4 hr_4 => ?_)
    clear hr_4
    refine vp_callSi (va_Run.run (va_runV (As := [.int r_4]) (rest := []) ⟨hx, hb, hml, hown, hts⟩ (c_Book_at l G bk ca 2088 f v1 v2 v3 v4 v5 r_4 (by decide)) (cwV 1 hts (gdV (List.mem_cons_of_mem _ (List.mem_append_left _ (List.mem_of_getElem? (i := 8) rfl))) (List.mem_cons_of_mem _ (List.mem_append_left _ (List.mem_of_getElem? (i := 9) rfl))) (List.mem_cons_of_mem _ (List.mem_append_left _ (List.mem_of_getElem? (i := 10) rfl))) (List.mem_cons_of_mem _ (List.mem_append_left _ (List.mem_of_getElem? (i := 7) rfl))) (fun w9 h9 => ⟨(List.mem_cons_of_mem _ (List.mem_append_right _ (List.mem_append_right _ (List.mem_append_right _ (List.mem_append_right _ (List.mem_append_left _ h9)))))), gd_c_Book_at w9 h9⟩)) rfl rfl rfl kVX1_at ⟨Nat.le_of_ble_eq_true rfl, Nat.le_of_ble_eq_true rfl⟩) (preV_p (As := [.int r_4]) (hP.sub (ws' := [(bk, .inr (2, [.ref ca, v1, v2, v3, v4, v5])), (ca, .inl (gI G, 2088, .inl f))]) [1, 2] rfl) hB rfl rfl) rfl rfl hl.1 rfl (lv_room (Nat.le_of_ble_eq_true rfl)) dX3_fighterOn_30 ⟨Nat.le_of_ble_eq_true rfl, Nat.le_of_ble_eq_true rfl⟩)) (fun r_5 hr_5 => ?_)
    subst hr_5
    exact W.iret (v := (rg f 2088 r_4)) hx hb hr (fun t ht hW => ⟨_, rfl, trivial, ht⟩) (fun q h => absurd h List.not_mem_nil) dX3_fighterOn_33
  · skip
    refine lv_iconst (v := 1) hx hb dX3_fighterOn_4 (by decide) ?_
    refine lv_goto (tgt := 9) hx hb dX3_fighterOn_5 (by decide) ?_
    refine lv_istore_n (lv' := [(3, .int 1), (0, .ref fr), (1, .int x), (2, .int y)]) hx hb dX3_fighterOn_9 rfl hl (by decide) rfl (fun ls hl => ?_)
    refine lv_aload_n hx hb dX3_fighterOn_10 rfl (lv_at hl 1 rfl) ?_
    refine va_get (D := gD G) (ci := 4) (v := .ref bk) (C := RX3) (T := TX3) (N := 4) hx hb hts (fun _ h9 => (List.mem_cons_of_mem _ (List.mem_append_right _ (List.mem_append_left _ h9)))) hown hK hP 0 rfl rfl 0 (by decide) (hts (.fieldLink RX3 9 "JudoHall$Floor" "book" "LJudoHall$Book;") (List.mem_cons_of_mem _ (List.mem_append_left _ (List.mem_of_getElem? (i := 0) rfl)))) (fun _ h9 => h9) rfl dX3_fighterOn_11 ?_
    refine lv_aload_n hx hb dX3_fighterOn_14 rfl (lv_at hl 1 rfl) ?_
    refine lv_iload_n hx hb dX3_fighterOn_15 rfl (lv_at hl 2 rfl) ?_
    refine lv_iconst (v := 0) hx hb dX3_fighterOn_16 (by decide) ?_
    refine vp_callSi (va_Run.run (va_runV (As := [.int x, .int 0]) (rest := [.ref bk]) ⟨hx, hb, hml, hown, hts⟩ (g_Fon l G fr bk ca f v1 v2 v3 v4 v5 f_b f_s f_t x 0) (cwV 2 hts (gdV (List.mem_cons_of_mem _ (List.mem_append_left _ (List.mem_of_getElem? (i := 1) rfl))) (List.mem_cons_of_mem _ (List.mem_append_left _ (List.mem_of_getElem? (i := 2) rfl))) (List.mem_cons_of_mem _ (List.mem_append_left _ (List.mem_of_getElem? (i := 3) rfl))) (List.mem_cons_of_mem _ (List.mem_append_left _ (List.mem_of_getElem? (i := 4) rfl))) (fun w9 h9 => ⟨(List.mem_cons_of_mem _ (List.mem_append_right _ (List.mem_append_right _ (List.mem_append_left _ h9)))), gd_g_Fon w9 h9⟩)) rfl rfl rfl kVX3_on ⟨Nat.le_of_ble_eq_true rfl, Nat.le_of_ble_eq_true rfl⟩) (preV_p (As := [.int x, .int 0]) (hP.sub (ws' := [(fr, .inr (4, [.ref bk, f_b, f_s, f_t])), (bk, .inr (2, [.ref ca, v1, v2, v3, v4, v5])), (ca, .inl (gI G, 2088, .inl f))]) [0, 1, 2] rfl) hB rfl rfl) rfl rfl hl.1 rfl (lv_room (Nat.le_of_ble_eq_true rfl)) dX3_fighterOn_17 ⟨Nat.le_of_ble_eq_true rfl, Nat.le_of_ble_eq_true rfl⟩)) (fun r_6 hr_6 => ?_)
    clear hr_6
    refine lv_aload_n hx hb dX3_fighterOn_20 rfl (lv_at hl 1 rfl) ?_
    refine lv_iload_n hx hb dX3_fighterOn_21 rfl (lv_at hl 2 rfl) ?_
    refine lv_iconst (v := 1) hx hb dX3_fighterOn_22 (by decide) ?_
    refine vp_callSi (va_Run.run (va_runV (As := [.int x, .int 1]) (rest := [.int r_6, .ref bk]) ⟨hx, hb, hml, hown, hts⟩ (g_Fon l G fr bk ca f v1 v2 v3 v4 v5 f_b f_s f_t x 1) (cwV 2 hts (gdV (List.mem_cons_of_mem _ (List.mem_append_left _ (List.mem_of_getElem? (i := 1) rfl))) (List.mem_cons_of_mem _ (List.mem_append_left _ (List.mem_of_getElem? (i := 2) rfl))) (List.mem_cons_of_mem _ (List.mem_append_left _ (List.mem_of_getElem? (i := 3) rfl))) (List.mem_cons_of_mem _ (List.mem_append_left _ (List.mem_of_getElem? (i := 4) rfl))) (fun w9 h9 => ⟨(List.mem_cons_of_mem _ (List.mem_append_right _ (List.mem_append_right _ (List.mem_append_left _ h9)))), gd_g_Fon w9 h9⟩)) rfl rfl rfl kVX3_on ⟨Nat.le_of_ble_eq_true rfl, Nat.le_of_ble_eq_true rfl⟩) (preV_p (As := [.int x, .int 1]) (hP.sub (ws' := [(fr, .inr (4, [.ref bk, f_b, f_s, f_t])), (bk, .inr (2, [.ref ca, v1, v2, v3, v4, v5])), (ca, .inl (gI G, 2088, .inl f))]) [0, 1, 2] rfl) hB rfl rfl) rfl rfl hl.1 rfl (lv_room (Nat.le_of_ble_eq_true rfl)) dX3_fighterOn_23 ⟨Nat.le_of_ble_eq_true rfl, Nat.le_of_ble_eq_true rfl⟩)) (fun r_7 hr_7 => ?_)
    clear hr_7
    refine lv_iload_n hx hb dX3_fighterOn_26 rfl (lv_at hl 0 rfl) ?_
    refine vp_callSi (va_Run.run (va_runS (As := [.int r_6, .int r_7, .int 1]) (rest := [.ref bk]) ⟨hx, hb, hml, hown, hts⟩ (g_ofFight l G r_6 r_7 1) (va_cwS 3 hts (gdS (List.mem_cons_of_mem _ (List.mem_append_left _ (List.mem_of_getElem? (i := 5) rfl))) (List.mem_cons_of_mem _ (List.mem_append_left _ (List.mem_of_getElem? (i := 6) rfl))) (List.mem_cons_of_mem _ (List.mem_append_left _ (List.mem_of_getElem? (i := 7) rfl))) (fun w9 h9 => ⟨(List.mem_cons_of_mem _ (List.mem_append_right _ (List.mem_append_right _ (List.mem_append_right _ (List.mem_append_left _ h9))))), gd_g_ofFight w9 h9⟩)) rfl rfl rfl kSX1_ofFight ⟨Nat.le_of_ble_eq_true rfl, Nat.le_of_ble_eq_true rfl⟩) (preS_p (As := [.int r_6, .int r_7, .int 1]) (hP.sub (ws' := []) [] rfl) hB) rfl rfl hl.1 rfl (lv_room (Nat.le_of_ble_eq_true rfl)) dX3_fighterOn_27 ⟨Nat.le_of_ble_eq_true rfl, Nat.le_of_ble_eq_true rfl⟩)) (fun r_8 hr_8 => ?_)
    clear hr_8
    refine vp_callSi (va_Run.run (va_runV (As := [.int r_8]) (rest := []) ⟨hx, hb, hml, hown, hts⟩ (c_Book_at l G bk ca 2088 f v1 v2 v3 v4 v5 r_8 (by decide)) (cwV 1 hts (gdV (List.mem_cons_of_mem _ (List.mem_append_left _ (List.mem_of_getElem? (i := 8) rfl))) (List.mem_cons_of_mem _ (List.mem_append_left _ (List.mem_of_getElem? (i := 9) rfl))) (List.mem_cons_of_mem _ (List.mem_append_left _ (List.mem_of_getElem? (i := 10) rfl))) (List.mem_cons_of_mem _ (List.mem_append_left _ (List.mem_of_getElem? (i := 7) rfl))) (fun w9 h9 => ⟨(List.mem_cons_of_mem _ (List.mem_append_right _ (List.mem_append_right _ (List.mem_append_right _ (List.mem_append_right _ (List.mem_append_left _ h9)))))), gd_c_Book_at w9 h9⟩)) rfl rfl rfl kVX1_at ⟨Nat.le_of_ble_eq_true rfl, Nat.le_of_ble_eq_true rfl⟩) (preV_p (As := [.int r_8]) (hP.sub (ws' := [(bk, .inr (2, [.ref ca, v1, v2, v3, v4, v5])), (ca, .inl (gI G, 2088, .inl f))]) [1, 2] rfl) hB rfl rfl) rfl rfl hl.1 rfl (lv_room (Nat.le_of_ble_eq_true rfl)) dX3_fighterOn_30 ⟨Nat.le_of_ble_eq_true rfl, Nat.le_of_ble_eq_true rfl⟩)) (fun r_9 hr_9 => ?_)
    subst hr_9
    exact W.iret (v := (rg f 2088 r_8)) hx hb hr (fun t ht hW => ⟨_, rfl, trivial, ht⟩) (fun q h => absurd h List.not_mem_nil) dX3_fighterOn_33

def wo_g_FisHeld : List Cond := [.fieldLink RX3 9 "JudoHall$Floor" "book" "LJudoHall$Book;", .methodLink RX3 54 yX1_ofFighter, .static yX1_ofFighter, .initialized RX1, .methodLink RX3 34 yX1_at, .instanceMethod yX1_at, .selects RX1 yX1_at yX1_at, .methodLink RX3 41 yX3_isFree, .instanceMethod yX3_isFree, .selects RX3 yX3_isFree yX3_isFree, .initialized RX3, .methodLink RX3 51 yX3_fighterOn, .instanceMethod yX3_fighterOn, .selects RX3 yX3_fighterOn yX3_fighterOn]
def wq_g_FisHeld : List Cond := .code yX3_isHeld cX3_isHeld 3 (some .boolean) :: (wo_g_FisHeld ++ (wsX30 ++ (wq_c_Book_ofFighter ++ (wq_c_Book_at ++ (wq_g_FisFree ++ (wq_g_FfighterOn ++ []))))))
theorem gd_g_FisHeld : ∀ w ∈ wq_g_FisHeld, Gd w := List.forall_mem_cons.mpr ⟨Or.inl rfl, List.forall_mem_append.mpr ⟨gdl wo_g_FisHeld (by decide +kernel), (List.forall_mem_append.mpr ⟨gd_wsX30, (List.forall_mem_append.mpr ⟨gd_c_Book_ofFighter, (List.forall_mem_append.mpr ⟨gd_c_Book_at, (List.forall_mem_append.mpr ⟨gd_g_FisFree, (List.forall_mem_append.mpr ⟨gd_g_FfighterOn, (fun _ h => absurd h List.not_mem_nil)⟩)⟩)⟩)⟩)⟩)⟩⟩
theorem in_g_FisHeld : ∀ w ∈ wq_g_FisHeld, w ∈ lw_tbl := List.forall_mem_cons.mpr ⟨List.mem_of_getElem? (i := 1243) (by decide +kernel), List.forall_mem_append.mpr ⟨inT wo_g_FisHeld [442, 1249, 1010, 155, 622, 623, 624, 613, 614, 615, 165, 1244, 1246, 51] (by decide +kernel), (List.forall_mem_append.mpr ⟨in_wsX30, (List.forall_mem_append.mpr ⟨in_c_Book_ofFighter, (List.forall_mem_append.mpr ⟨in_c_Book_at, (List.forall_mem_append.mpr ⟨in_g_FisFree, (List.forall_mem_append.mpr ⟨in_g_FfighterOn, (fun _ h => absurd h List.not_mem_nil)⟩)⟩)⟩)⟩)⟩)⟩⟩
set_option maxHeartbeats 4000000 in
set_option maxRecDepth 100000 in
theorem g_FisHeld (l : Launch) (G : gG) (fr : Nat) (bk : Nat) (ca : Nat) (f : Nat → Int32) (v1 : Value) (v2 : Value) (v3 : Value) (v4 : Value) (v5 : Value) (f_b : Value) (f_s : Value) (f_t : Value) (x : Int32) : Met l yX3_isHeld wq_g_FisHeld ({ frames := 3, cells := 0, slots := 0, locals := 66 }) (va_Pc [.ref fr, .int x] (pP G [(fr, .inr (4, [.ref bk, f_b, f_s, f_t])), (bk, .inr (2, [.ref ca, v1, v2, v3, v4, v5])), (ca, .inl (gI G, 2088, .inl f))])) (vp_Si (fun r : Int32 => r = 0 ∨ r = 1)) 0 0 (fun _ => False) := by
  refine Met.ofW (cc := cX3_isHeld) (maxL := 3) (ret := (some .boolean)) (by decide) rfl ?_
  intro p e s m args below meth c s₁ B hml hv
  obtain ⟨rfl, hP, hB⟩ := hv
  have hx := B.exec
  have hb := B.bytes
  have hr := B.returns
  have hts := atoms_spec (ws := wq_g_FisHeld) B.pre
  have hown : s.vm.findClass RX3 = some m.cls := findClass_of_methodNamed B.named
  have hlocks := B.notSynchronized
  have hK := hB.1
  have hP : va_P (gD G) vwCl [(fr, .inr (4, [.ref bk, f_b, f_s, f_t])), (bk, .inr (2, [.ref ca, v1, v2, v3, v4, v5])), (ca, .inl (gI G, 2088, .inl f))] s.heap := hP
  have hl := lv_entry ([.ref fr, .int x]) (n := 3) (Nat.le_of_ble_eq_true rfl)
  rw [lg_entry_eq]
  generalize (lg_sl ([.ref fr, .int x]) ++ List.replicate (3 - (lg_sl ([.ref fr, .int x])).length) Slot.unset).toArray = ls at hl ⊢
  have hl : lv_has ls 3 [(0, .ref fr), (1, .int x)] := hl
  refine lv_iconst (v := 0) hx hb dX3_isHeld_0 (by decide) ?_
  refine lv_istore_n (lv' := [(2, .int 0), (0, .ref fr), (1, .int x)]) hx hb dX3_isHeld_1 rfl hl (by decide) rfl (fun ls hl => ?_)
  have hloop2 : ∀ (k9 : Nat) (k2 : Nat), (4 : Int32).toNatClampNeg - k2 < k9 → (k2 ≤ (4 : Int32).toNatClampNeg) → ∀ (ls : Array Slot), lv_has ls 3 [(2, .int (nI k2)), (0, .ref fr), (1, .int x)] → W p l e (headSpec wq_g_FisHeld ({ frames := 3, cells := 0, slots := 0, locals := 66 })).room s m [.ref fr, .int x].toArray below meth c s.heap [] 0 0 (MQ below (vp_Si (fun r : Int32 => r = 0 ∨ r = 1)) [.ref fr, .int x].toArray s 0 0 (fun _ => False)) (F0 m 2 ls []) := by
    intro k9
    induction k9 with
    | zero => intro k2 h9; exact absurd h9 (Nat.not_lt_zero _)
    | succ k9 ih2 =>
      intro k2 hm2 hb_k2 ls hl
      refine lv_iload_n hx hb dX3_isHeld_2 rfl (lv_at hl 0 rfl) ?_
      refine lv_iconst (v := 4) hx hb dX3_isHeld_3 (by decide) ?_
      refine lv_icmp_ge (tgt := 43) hx hb dX3_isHeld_4 (by decide) (fun c_1 => ?_) (fun c_1 => ?_)
      · skip
        refine lv_aload_n hx hb dX3_isHeld_43 rfl (lv_at hl 1 rfl) ?_
        refine va_get (D := gD G) (ci := 4) (v := .ref bk) (C := RX3) (T := TX3) (N := 4) hx hb hts (fun _ h9 => (List.mem_cons_of_mem _ (List.mem_append_right _ (List.mem_append_left _ h9)))) hown hK hP 0 rfl rfl 0 (by decide) (hts (.fieldLink RX3 9 "JudoHall$Floor" "book" "LJudoHall$Book;") (List.mem_cons_of_mem _ (List.mem_append_left _ (List.mem_of_getElem? (i := 0) rfl)))) (fun _ h9 => h9) rfl dX3_isHeld_44 ?_
        refine lv_iload_n hx hb dX3_isHeld_47 rfl (lv_at hl 2 rfl) ?_
        refine lv_bipush (v := 6) hx hb dX3_isHeld_48 (by decide) ?_
        refine vp_callSi (va_Run.run (va_runS (As := [.int x, .int 6]) (rest := [.ref bk]) ⟨hx, hb, hml, hown, hts⟩ (c_Book_ofFighter l G x 6) (va_cwS 2 hts (gdS (List.mem_cons_of_mem _ (List.mem_append_left _ (List.mem_of_getElem? (i := 1) rfl))) (List.mem_cons_of_mem _ (List.mem_append_left _ (List.mem_of_getElem? (i := 2) rfl))) (List.mem_cons_of_mem _ (List.mem_append_left _ (List.mem_of_getElem? (i := 3) rfl))) (fun w9 h9 => ⟨(List.mem_cons_of_mem _ (List.mem_append_right _ (List.mem_append_right _ (List.mem_append_left _ h9)))), gd_c_Book_ofFighter w9 h9⟩)) rfl rfl rfl kSX1_ofFighter ⟨Nat.le_of_ble_eq_true rfl, Nat.le_of_ble_eq_true rfl⟩) (preS_p (As := [.int x, .int 6]) (hP.sub (ws' := []) [] rfl) hB) rfl rfl hl.1 rfl (lv_room (Nat.le_of_ble_eq_true rfl)) dX3_isHeld_50 ⟨Nat.le_of_ble_eq_true rfl, Nat.le_of_ble_eq_true rfl⟩)) (fun r_2 hr_2 => ?_)
        subst hr_2
        refine vp_callSi (va_Run.run (va_runV (As := [.int (148 + x * 7 + 6)]) (rest := []) ⟨hx, hb, hml, hown, hts⟩ (c_Book_at l G bk ca 2088 f v1 v2 v3 v4 v5 (148 + x * 7 + 6) (by decide)) (cwV 1 hts (gdV (List.mem_cons_of_mem _ (List.mem_append_left _ (List.mem_of_getElem? (i := 4) rfl))) (List.mem_cons_of_mem _ (List.mem_append_left _ (List.mem_of_getElem? (i := 5) rfl))) (List.mem_cons_of_mem _ (List.mem_append_left _ (List.mem_of_getElem? (i := 6) rfl))) (List.mem_cons_of_mem _ (List.mem_append_left _ (List.mem_of_getElem? (i := 3) rfl))) (fun w9 h9 => ⟨(List.mem_cons_of_mem _ (List.mem_append_right _ (List.mem_append_right _ (List.mem_append_right _ (List.mem_append_left _ h9))))), gd_c_Book_at w9 h9⟩)) rfl rfl rfl kVX1_at ⟨Nat.le_of_ble_eq_true rfl, Nat.le_of_ble_eq_true rfl⟩) (preV_p (As := [.int (148 + x * 7 + 6)]) (hP.sub (ws' := [(bk, .inr (2, [.ref ca, v1, v2, v3, v4, v5])), (ca, .inl (gI G, 2088, .inl f))]) [1, 2] rfl) hB rfl rfl) rfl rfl hl.1 rfl (lv_room (Nat.le_of_ble_eq_true rfl)) dX3_isHeld_53 ⟨Nat.le_of_ble_eq_true rfl, Nat.le_of_ble_eq_true rfl⟩)) (fun r_3 hr_3 => ?_)
        subst hr_3
        refine lv_istore_n (lv' := [(2, .int (rg f 2088 (148 + x * 7 + 6))), (0, .ref fr), (1, .int x)]) hx hb dX3_isHeld_56 rfl hl (by decide) rfl (fun ls hl => ?_)
        refine lv_iload_n hx hb dX3_isHeld_57 rfl (lv_at hl 0 rfl) ?_
        refine lv_iconst (v := (-1)) hx hb dX3_isHeld_58 (by decide) ?_
        refine lv_icmp_eq (tgt := 87) hx hb dX3_isHeld_59 (by decide) (fun c_4 => ?_) (fun c_4 => ?_)
        · skip
          refine lv_iconst (v := 0) hx hb dX3_isHeld_87 (by decide) ?_
          exact W.zret (v := 0) hx hb hr rfl (fun t ht hW => ⟨_, rfl, Or.inl rfl, ht⟩) (fun q h => absurd h List.not_mem_nil) dX3_isHeld_88
        · skip
          refine lv_aload_n hx hb dX3_isHeld_62 rfl (lv_at hl 1 rfl) ?_
          refine va_get (D := gD G) (ci := 4) (v := .ref bk) (C := RX3) (T := TX3) (N := 4) hx hb hts (fun _ h9 => (List.mem_cons_of_mem _ (List.mem_append_right _ (List.mem_append_left _ h9)))) hown hK hP 0 rfl rfl 0 (by decide) (hts (.fieldLink RX3 9 "JudoHall$Floor" "book" "LJudoHall$Book;") (List.mem_cons_of_mem _ (List.mem_append_left _ (List.mem_of_getElem? (i := 0) rfl)))) (fun _ h9 => h9) rfl dX3_isHeld_63 ?_
          refine lv_iconst (v := 0) hx hb dX3_isHeld_66 (by decide) ?_
          refine vp_callSi (va_Run.run (va_runV (As := [.int 0]) (rest := []) ⟨hx, hb, hml, hown, hts⟩ (c_Book_at l G bk ca 2088 f v1 v2 v3 v4 v5 0 (by decide)) (cwV 1 hts (gdV (List.mem_cons_of_mem _ (List.mem_append_left _ (List.mem_of_getElem? (i := 4) rfl))) (List.mem_cons_of_mem _ (List.mem_append_left _ (List.mem_of_getElem? (i := 5) rfl))) (List.mem_cons_of_mem _ (List.mem_append_left _ (List.mem_of_getElem? (i := 6) rfl))) (List.mem_cons_of_mem _ (List.mem_append_left _ (List.mem_of_getElem? (i := 3) rfl))) (fun w9 h9 => ⟨(List.mem_cons_of_mem _ (List.mem_append_right _ (List.mem_append_right _ (List.mem_append_right _ (List.mem_append_left _ h9))))), gd_c_Book_at w9 h9⟩)) rfl rfl rfl kVX1_at ⟨Nat.le_of_ble_eq_true rfl, Nat.le_of_ble_eq_true rfl⟩) (preV_p (As := [.int 0]) (hP.sub (ws' := [(bk, .inr (2, [.ref ca, v1, v2, v3, v4, v5])), (ca, .inl (gI G, 2088, .inl f))]) [1, 2] rfl) hB rfl rfl) rfl rfl hl.1 rfl (lv_room (Nat.le_of_ble_eq_true rfl)) dX3_isHeld_67 ⟨Nat.le_of_ble_eq_true rfl, Nat.le_of_ble_eq_true rfl⟩)) (fun r_5 hr_5 => ?_)
          subst hr_5
          refine lv_iload_n hx hb dX3_isHeld_70 rfl (lv_at hl 0 rfl) ?_
          refine lv_aload_n hx hb dX3_isHeld_71 rfl (lv_at hl 1 rfl) ?_
          refine va_get (D := gD G) (ci := 4) (v := .ref bk) (C := RX3) (T := TX3) (N := 4) hx hb hts (fun _ h9 => (List.mem_cons_of_mem _ (List.mem_append_right _ (List.mem_append_left _ h9)))) hown hK hP 0 rfl rfl 0 (by decide) (hts (.fieldLink RX3 9 "JudoHall$Floor" "book" "LJudoHall$Book;") (List.mem_cons_of_mem _ (List.mem_append_left _ (List.mem_of_getElem? (i := 0) rfl)))) (fun _ h9 => h9) rfl dX3_isHeld_72 ?_
          refine lv_iconst (v := 1) hx hb dX3_isHeld_75 (by decide) ?_
          refine vp_callSi (va_Run.run (va_runV (As := [.int 1]) (rest := [.int (rg f 2088 (148 + x * 7 + 6)), .int (rg f 2088 0)]) ⟨hx, hb, hml, hown, hts⟩ (c_Book_at l G bk ca 2088 f v1 v2 v3 v4 v5 1 (by decide)) (cwV 1 hts (gdV (List.mem_cons_of_mem _ (List.mem_append_left _ (List.mem_of_getElem? (i := 4) rfl))) (List.mem_cons_of_mem _ (List.mem_append_left _ (List.mem_of_getElem? (i := 5) rfl))) (List.mem_cons_of_mem _ (List.mem_append_left _ (List.mem_of_getElem? (i := 6) rfl))) (List.mem_cons_of_mem _ (List.mem_append_left _ (List.mem_of_getElem? (i := 3) rfl))) (fun w9 h9 => ⟨(List.mem_cons_of_mem _ (List.mem_append_right _ (List.mem_append_right _ (List.mem_append_right _ (List.mem_append_left _ h9))))), gd_c_Book_at w9 h9⟩)) rfl rfl rfl kVX1_at ⟨Nat.le_of_ble_eq_true rfl, Nat.le_of_ble_eq_true rfl⟩) (preV_p (As := [.int 1]) (hP.sub (ws' := [(bk, .inr (2, [.ref ca, v1, v2, v3, v4, v5])), (ca, .inl (gI G, 2088, .inl f))]) [1, 2] rfl) hB rfl rfl) rfl rfl hl.1 rfl (lv_room (Nat.le_of_ble_eq_true rfl)) dX3_isHeld_76 ⟨Nat.le_of_ble_eq_true rfl, Nat.le_of_ble_eq_true rfl⟩)) (fun r_6 hr_6 => ?_)
          subst hr_6
          refine lv_iadd hx hb dX3_isHeld_79 ?_
          refine lv_icmp_ge (tgt := 87) hx hb dX3_isHeld_80 (by decide) (fun c_7 => ?_) (fun c_7 => ?_)
          · skip
            refine lv_iconst (v := 0) hx hb dX3_isHeld_87 (by decide) ?_
            exact W.zret (v := 0) hx hb hr rfl (fun t ht hW => ⟨_, rfl, Or.inl rfl, ht⟩) (fun q h => absurd h List.not_mem_nil) dX3_isHeld_88
          · skip
            refine lv_iconst (v := 1) hx hb dX3_isHeld_83 (by decide) ?_
            refine lv_goto (tgt := 88) hx hb dX3_isHeld_84 (by decide) ?_
            exact W.zret (v := 1) hx hb hr rfl (fun t ht hW => ⟨_, rfl, Or.inr rfl, ht⟩) (fun q h => absurd h List.not_mem_nil) dX3_isHeld_88
      · have hl_k2 := gl_lt (B := (4 : Int32)) hb_k2 c_1
        refine lv_aload_n hx hb dX3_isHeld_7 rfl (lv_at hl 1 rfl) ?_
        refine lv_iload_n hx hb dX3_isHeld_8 rfl (lv_at hl 0 rfl) ?_
        refine vp_callSi (va_Run.run (va_runV (As := [.int (nI k2)]) (rest := []) ⟨hx, hb, hml, hown, hts⟩ (g_FisFree l G fr bk ca f v1 v2 v3 v4 v5 f_b f_s f_t (nI k2)) (cwV 1 hts (gdV (List.mem_cons_of_mem _ (List.mem_append_left _ (List.mem_of_getElem? (i := 7) rfl))) (List.mem_cons_of_mem _ (List.mem_append_left _ (List.mem_of_getElem? (i := 8) rfl))) (List.mem_cons_of_mem _ (List.mem_append_left _ (List.mem_of_getElem? (i := 9) rfl))) (List.mem_cons_of_mem _ (List.mem_append_left _ (List.mem_of_getElem? (i := 10) rfl))) (fun w9 h9 => ⟨(List.mem_cons_of_mem _ (List.mem_append_right _ (List.mem_append_right _ (List.mem_append_right _ (List.mem_append_right _ (List.mem_append_left _ h9)))))), gd_g_FisFree w9 h9⟩)) rfl rfl rfl kVX3_isFree ⟨Nat.le_of_ble_eq_true rfl, Nat.le_of_ble_eq_true rfl⟩) (preV_p (As := [.int (nI k2)]) (hP.sub (ws' := [(fr, .inr (4, [.ref bk, f_b, f_s, f_t])), (bk, .inr (2, [.ref ca, v1, v2, v3, v4, v5])), (ca, .inl (gI G, 2088, .inl f))]) [0, 1, 2] rfl) hB rfl rfl) rfl rfl hl.1 rfl (lv_room (Nat.le_of_ble_eq_true rfl)) dX3_isHeld_9 ⟨Nat.le_of_ble_eq_true rfl, Nat.le_of_ble_eq_true rfl⟩)) (fun r_8 hr_8 => ?_)
        have hr_8 : r_8 = 0 ∨ r_8 = 1 := hr_8
        refine lv_if_ne (tgt := 37) hx hb dX3_isHeld_12 (by decide) (fun c_9 => ?_) (fun c_9 => ?_)
        · skip
          refine lv_iinc (v := (nI (k2 + 1))) (lv' := [(2, .int (nI (k2 + 1))), (0, .ref fr), (1, .int x)]) hx hb dX3_isHeld_37 hl (k := 0) rfl (nI_1 k2) (by decide) rfl (fun ls hl => ?_)
          refine lv_goto (tgt := 2) hx hb dX3_isHeld_40 (by decide) ?_
          exact ih2 (k2 + 1) (by omega) (hl_k2) _ (lv_sub hl [0, 1, 2] rfl) 
        · skip
          refine lv_aload_n hx hb dX3_isHeld_15 rfl (lv_at hl 1 rfl) ?_
          refine lv_iload_n hx hb dX3_isHeld_16 rfl (lv_at hl 0 rfl) ?_
          refine lv_iconst (v := 0) hx hb dX3_isHeld_17 (by decide) ?_
          refine vp_callSi (va_Run.run (va_runV (As := [.int (nI k2), .int 0]) (rest := []) ⟨hx, hb, hml, hown, hts⟩ (g_FfighterOn l G fr bk ca f v1 v2 v3 v4 v5 f_b f_s f_t (nI k2) 0) (cwV 2 hts (gdV (List.mem_cons_of_mem _ (List.mem_append_left _ (List.mem_of_getElem? (i := 11) rfl))) (List.mem_cons_of_mem _ (List.mem_append_left _ (List.mem_of_getElem? (i := 12) rfl))) (List.mem_cons_of_mem _ (List.mem_append_left _ (List.mem_of_getElem? (i := 13) rfl))) (List.mem_cons_of_mem _ (List.mem_append_left _ (List.mem_of_getElem? (i := 10) rfl))) (fun w9 h9 => ⟨(List.mem_cons_of_mem _ (List.mem_append_right _ (List.mem_append_right _ (List.mem_append_right _ (List.mem_append_right _ (List.mem_append_right _ (List.mem_append_left _ h9))))))), gd_g_FfighterOn w9 h9⟩)) rfl rfl rfl kVX3_fighterOn ⟨Nat.le_of_ble_eq_true rfl, Nat.le_of_ble_eq_true rfl⟩) (preV_p (As := [.int (nI k2), .int 0]) (hP.sub (ws' := [(fr, .inr (4, [.ref bk, f_b, f_s, f_t])), (bk, .inr (2, [.ref ca, v1, v2, v3, v4, v5])), (ca, .inl (gI G, 2088, .inl f))]) [0, 1, 2] rfl) hB rfl rfl) rfl rfl hl.1 rfl (lv_room (Nat.le_of_ble_eq_true rfl)) dX3_isHeld_18 ⟨Nat.le_of_ble_eq_true rfl, Nat.le_of_ble_eq_true rfl⟩)) (fun r_10 hr_10 => ?_)
          clear hr_10
          refine lv_iload_n hx hb dX3_isHeld_21 rfl (lv_at hl 2 rfl) ?_
          refine lv_icmp_eq (tgt := 35) hx hb dX3_isHeld_22 (by decide) (fun c_11 => ?_) (fun c_11 => ?_)
          · skip
            refine lv_iconst (v := 1) hx hb dX3_isHeld_35 (by decide) ?_
            exact W.zret (v := 1) hx hb hr rfl (fun t ht hW => ⟨_, rfl, Or.inr rfl, ht⟩) (fun q h => absurd h List.not_mem_nil) dX3_isHeld_36
          · skip
            refine lv_aload_n hx hb dX3_isHeld_25 rfl (lv_at hl 1 rfl) ?_
            refine lv_iload_n hx hb dX3_isHeld_26 rfl (lv_at hl 0 rfl) ?_
            refine lv_iconst (v := 1) hx hb dX3_isHeld_27 (by decide) ?_
            refine vp_callSi (va_Run.run (va_runV (As := [.int (nI k2), .int 1]) (rest := []) ⟨hx, hb, hml, hown, hts⟩ (g_FfighterOn l G fr bk ca f v1 v2 v3 v4 v5 f_b f_s f_t (nI k2) 1) (cwV 2 hts (gdV (List.mem_cons_of_mem _ (List.mem_append_left _ (List.mem_of_getElem? (i := 11) rfl))) (List.mem_cons_of_mem _ (List.mem_append_left _ (List.mem_of_getElem? (i := 12) rfl))) (List.mem_cons_of_mem _ (List.mem_append_left _ (List.mem_of_getElem? (i := 13) rfl))) (List.mem_cons_of_mem _ (List.mem_append_left _ (List.mem_of_getElem? (i := 10) rfl))) (fun w9 h9 => ⟨(List.mem_cons_of_mem _ (List.mem_append_right _ (List.mem_append_right _ (List.mem_append_right _ (List.mem_append_right _ (List.mem_append_right _ (List.mem_append_left _ h9))))))), gd_g_FfighterOn w9 h9⟩)) rfl rfl rfl kVX3_fighterOn ⟨Nat.le_of_ble_eq_true rfl, Nat.le_of_ble_eq_true rfl⟩) (preV_p (As := [.int (nI k2), .int 1]) (hP.sub (ws' := [(fr, .inr (4, [.ref bk, f_b, f_s, f_t])), (bk, .inr (2, [.ref ca, v1, v2, v3, v4, v5])), (ca, .inl (gI G, 2088, .inl f))]) [0, 1, 2] rfl) hB rfl rfl) rfl rfl hl.1 rfl (lv_room (Nat.le_of_ble_eq_true rfl)) dX3_isHeld_28 ⟨Nat.le_of_ble_eq_true rfl, Nat.le_of_ble_eq_true rfl⟩)) (fun r_12 hr_12 => ?_)
            clear hr_12
            refine lv_iload_n hx hb dX3_isHeld_31 rfl (lv_at hl 2 rfl) ?_
            refine lv_icmp_ne (tgt := 37) hx hb dX3_isHeld_32 (by decide) (fun c_13 => ?_) (fun c_13 => ?_)
            · skip
              refine lv_iinc (v := (nI (k2 + 1))) (lv' := [(2, .int (nI (k2 + 1))), (0, .ref fr), (1, .int x)]) hx hb dX3_isHeld_37 hl (k := 0) rfl (nI_1 k2) (by decide) rfl (fun ls hl => ?_)
              refine lv_goto (tgt := 2) hx hb dX3_isHeld_40 (by decide) ?_
              exact ih2 (k2 + 1) (by omega) (hl_k2) _ (lv_sub hl [0, 1, 2] rfl) 
            · skip
              refine lv_iconst (v := 1) hx hb dX3_isHeld_35 (by decide) ?_
              exact W.zret (v := 1) hx hb hr rfl (fun t ht hW => ⟨_, rfl, Or.inr rfl, ht⟩) (fun q h => absurd h List.not_mem_nil) dX3_isHeld_36
  exact hloop2 (((4 : Int32).toNatClampNeg - 0) + 1) 0 (Nat.lt_succ_self _) (Nat.zero_le _) _ (lv_sub hl [0, 1, 2] rfl)
