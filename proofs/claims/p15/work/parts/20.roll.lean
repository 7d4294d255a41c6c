theorem gl_top (B : Int32) : B.toNatClampNeg < 2 ^ 31 := by
  have := B.toInt_lt
  unfold Int32.toNatClampNeg
  omega
theorem gl_lt {k : Nat} {B : Int32} (hk : k ≤ B.toNatClampNeg) (h : ¬ B ≤ nI k) : k + 1 ≤ B.toNatClampNeg := by
  have hb : B.toNatClampNeg < 2 ^ 31 := gl_top B
  have h1 : (nI k).toNatClampNeg = k := nI_clamp (by omega)
  have h2 := Int32.not_lt.mp (nI_pos (n := k) (by omega))
  have h3 := Int32.not_le.mp h
  rw [Int32.lt_iff_toInt_lt] at h3
  rw [Int32.le_iff_toInt_le] at h2
  have h4 : (0 : Int32).toInt = 0 := rfl
  unfold Int32.toNatClampNeg at *
  omega
theorem gl_ne {x k : Int32} {a : Int} (h : ¬ x = k) (ha : k.toInt = a) : ¬ a = x.toInt := fun e => h (Int32.toInt_inj.mp (by rw [ha]; exact e.symm))
theorem gl_up {a b : Int32} (h : ¬ b ≤ a) : a.toInt < b.toInt ∧ (a + 1).toInt = a.toInt + 1 := by
  have h3 := Int32.not_le.mp h
  rw [Int32.lt_iff_toInt_lt] at h3
  refine ⟨h3, ?_⟩
  have h1 := b.toInt_lt
  have h2 := a.le_toInt
  rw [Int32.toInt_add]
  have h4 : (1 : Int32).toInt = 1 := rfl
  rw [h4]
  exact Int.bmod_eq_of_le (by omega) (by omega)
theorem gx_c4 {w : Int32} (h0 : ¬ w < 0) (h1 : ¬ (4 : Int32) ≤ w) : w = 0 ∨ w = 1 ∨ w = 2 ∨ w = 3 := by
  obtain ⟨j, hj, rfl⟩ := nI_of h0
  have h2 : j < 4 := Nat.not_le.mp (fun h => h1 (nI_le h hj))
  rcases (show j = 0 ∨ j = 1 ∨ j = 2 ∨ j = 3 by omega) with rfl | rfl | rfl | rfl <;> decide
theorem gx_c7 {w : Int32} (h0 : ¬ w < 0) (h1 : ¬ (7 : Int32) ≤ w) : w = 0 ∨ w = 1 ∨ w = 2 ∨ w = 3 ∨ w = 4 ∨ w = 5 ∨ w = 6 := by
  obtain ⟨j, hj, rfl⟩ := nI_of h0
  have h2 : j < 7 := Nat.not_le.mp (fun h => h1 (nI_le h hj))
  rcases (show j = 0 ∨ j = 1 ∨ j = 2 ∨ j = 3 ∨ j = 4 ∨ j = 5 ∨ j = 6 by omega) with rfl | rfl | rfl | rfl | rfl | rfl | rfl <;> decide
theorem gx_c9 {w : Int32} (h0 : ¬ w < 0) (h1 : ¬ (9 : Int32) ≤ w) : w = 0 ∨ w = 1 ∨ w = 2 ∨ w = 3 ∨ w = 4 ∨ w = 5 ∨ w = 6 ∨ w = 7 ∨ w = 8 := by
  obtain ⟨j, hj, rfl⟩ := nI_of h0
  have h2 : j < 9 := Nat.not_le.mp (fun h => h1 (nI_le h hj))
  rcases (show j = 0 ∨ j = 1 ∨ j = 2 ∨ j = 3 ∨ j = 4 ∨ j = 5 ∨ j = 6 ∨ j = 7 ∨ j = 8 by omega) with rfl | rfl | rfl | rfl | rfl | rfl | rfl | rfl | rfl <;> decide
theorem gx_n0 {w : Int32} (h : w < 0) : w.toInt < 0 := by
  have := Int32.lt_iff_toInt_lt.mp h
  simpa using this
theorem gx_nh {w : Int32} {k : Nat} (hk : k < 2 ^ 31) (h : (OfNat.ofNat k : Int32) ≤ w) : ((k : Int) - 1) < w.toInt := by
  have h2 := Int32.le_iff_toInt_le.mp h
  have h3 : (OfNat.ofNat k : Int32).toInt = (k : Int) := nI_toInt hk
  rw [h3] at h2
  omega
theorem gl_z {r : Int32} (h : r = 0 ∨ r = 1) : narrow FieldType.boolean (Value.int r) = Value.int r := by
  rcases h with rfl | rfl <;> rfl

def wo_g_people : List Cond := [.fieldLink RX8 9 "JudoHall$Roll" "book" "LJudoHall$Book;", .methodLink RX8 17 yX1_at, .instanceMethod yX1_at, .selects RX1 yX1_at yX1_at, .initialized RX1]
def wq_g_people : List Cond := .code yX8_people cX8_people 1 (some .int) :: (wo_g_people ++ (wsX80 ++ (wq_c_Book_at ++ [])))
theorem gd_g_people : ∀ w ∈ wq_g_people, Gd w := List.forall_mem_cons.mpr ⟨Or.inl rfl, List.forall_mem_append.mpr ⟨gdl wo_g_people (by decide +kernel), (List.forall_mem_append.mpr ⟨gd_wsX80, (List.forall_mem_append.mpr ⟨gd_c_Book_at, (fun _ h => absurd h List.not_mem_nil)⟩)⟩)⟩⟩
theorem in_g_people : ∀ w ∈ wq_g_people, w ∈ lw_tbl := List.forall_mem_cons.mpr ⟨List.mem_of_getElem? (i := 1003) (by decide +kernel), List.forall_mem_append.mpr ⟨inT wo_g_people [385, 1004, 623, 624, 155] (by decide +kernel), (List.forall_mem_append.mpr ⟨in_wsX80, (List.forall_mem_append.mpr ⟨in_c_Book_at, (fun _ h => absurd h List.not_mem_nil)⟩)⟩)⟩⟩
set_option maxHeartbeats 4000000 in
set_option maxRecDepth 100000 in
theorem g_people (l : Launch) (G : gG) (rl : Nat) (bk : Nat) (ca : Nat) (f : Nat → Int32) (v1 : Value) (v2 : Value) (v3 : Value) (v4 : Value) (v5 : Value) : Met l yX8_people wq_g_people ({ frames := 1, cells := 0, slots := 0, locals := 21 }) (va_Pc [.ref rl] (pP G [(rl, .inr (9, [.ref bk])), (bk, .inr (2, [.ref ca, v1, v2, v3, v4, v5])), (ca, .inl (gI G, 2088, .inl f))])) (vp_Si (fun r : Int32 => r = rg f 2088 2)) 0 0 (fun _ => False) := by
  refine Met.ofW (cc := cX8_people) (maxL := 1) (ret := (some .int)) (by decide) rfl ?_
  intro p e s m args below meth c s₁ B hml hv
  obtain ⟨rfl, hP, hB⟩ := hv
  have hx := B.exec
  have hb := B.bytes
  have hr := B.returns
  have hts := atoms_spec (ws := wq_g_people) B.pre
  have hown : s.vm.findClass RX8 = some m.cls := findClass_of_methodNamed B.named
  have hlocks := B.notSynchronized
  have hK := hB.1
  have hP : va_P (gD G) vwCl [(rl, .inr (9, [.ref bk])), (bk, .inr (2, [.ref ca, v1, v2, v3, v4, v5])), (ca, .inl (gI G, 2088, .inl f))] s.heap := hP
  have hl := lv_entry ([.ref rl]) (n := 1) (Nat.le_of_ble_eq_true rfl)
  rw [lg_entry_eq]
  generalize (lg_sl ([.ref rl]) ++ List.replicate (1 - (lg_sl ([.ref rl])).length) Slot.unset).toArray = ls at hl ⊢
  have hl : lv_has ls 1 [(0, .ref rl)] := hl
  refine lv_aload_n hx hb dX8_people_0 rfl (lv_at hl 0 rfl) ?_
  refine va_get (D := gD G) (ci := 9) (v := .ref bk) (C := RX8) (T := TX8) (N := 1) hx hb hts (fun _ h9 => (List.mem_cons_of_mem _ (List.mem_append_right _ (List.mem_append_left _ h9)))) hown hK hP 0 rfl rfl 0 (by decide) (hts (.fieldLink RX8 9 "JudoHall$Roll" "book" "LJudoHall$Book;") (List.mem_cons_of_mem _ (List.mem_append_left _ (List.mem_of_getElem? (i := 0) rfl)))) (fun _ h9 => h9) rfl dX8_people_1 ?_
  refine lv_iconst (v := 2) hx hb dX8_people_4 (by decide) ?_
  refine vp_callSi (va_Run.run (va_runV (As := [.int 2]) (rest := []) ⟨hx, hb, hml, hown, hts⟩ (c_Book_at l G bk ca 2088 f v1 v2 v3 v4 v5 2 (by decide)) (cwV 1 hts (gdV (List.mem_cons_of_mem _ (List.mem_append_left _ (List.mem_of_getElem? (i := 1) rfl))) (List.mem_cons_of_mem _ (List.mem_append_left _ (List.mem_of_getElem? (i := 2) rfl))) (List.mem_cons_of_mem _ (List.mem_append_left _ (List.mem_of_getElem? (i := 3) rfl))) (List.mem_cons_of_mem _ (List.mem_append_left _ (List.mem_of_getElem? (i := 4) rfl))) (fun w9 h9 => ⟨(List.mem_cons_of_mem _ (List.mem_append_right _ (List.mem_append_right _ (List.mem_append_left _ h9)))), gd_c_Book_at w9 h9⟩)) rfl rfl rfl kVX1_at ⟨Nat.le_of_ble_eq_true rfl, Nat.le_of_ble_eq_true rfl⟩) (preV_p (As := [.int 2]) (hP.sub (ws' := [(bk, .inr (2, [.ref ca, v1, v2, v3, v4, v5])), (ca, .inl (gI G, 2088, .inl f))]) [1, 2] rfl) hB rfl rfl) rfl rfl hl.1 rfl (lv_room (Nat.le_of_ble_eq_true rfl)) dX8_people_5 ⟨Nat.le_of_ble_eq_true rfl, Nat.le_of_ble_eq_true rfl⟩)) (fun r_1 hr_1 => ?_)
  subst hr_1
  exact W.iret (v := (rg f 2088 2)) hx hb hr (fun t ht hW => ⟨_, rfl, rfl, ht⟩) (fun q h => absurd h List.not_mem_nil) dX8_people_8

def wo_g_has : List Cond := [.methodLink RX8 21 yX8_people, .instanceMethod yX8_people, .selects RX8 yX8_people yX8_people, .initialized RX8]
def wq_g_has : List Cond := .code yX8_has cX8_has 2 (some .boolean) :: (wo_g_has ++ (wq_g_people ++ []))
theorem gd_g_has : ∀ w ∈ wq_g_has, Gd w := List.forall_mem_cons.mpr ⟨Or.inl rfl, List.forall_mem_append.mpr ⟨gdl wo_g_has (by decide +kernel), (List.forall_mem_append.mpr ⟨gd_g_people, (fun _ h => absurd h List.not_mem_nil)⟩)⟩⟩
theorem in_g_has : ∀ w ∈ wq_g_has, w ∈ lw_tbl := List.forall_mem_cons.mpr ⟨List.mem_of_getElem? (i := 1030) (by decide +kernel), List.forall_mem_append.mpr ⟨inT wo_g_has [1000, 1001, 1002, 162] (by decide +kernel), (List.forall_mem_append.mpr ⟨in_g_people, (fun _ h => absurd h List.not_mem_nil)⟩)⟩⟩
set_option maxHeartbeats 4000000 in
set_option maxRecDepth 100000 in
theorem g_has (l : Launch) (G : gG) (rl : Nat) (bk : Nat) (ca : Nat) (f : Nat → Int32) (v1 : Value) (v2 : Value) (v3 : Value) (v4 : Value) (v5 : Value) (x : Int32) : Met l yX8_has wq_g_has ({ frames := 2, cells := 0, slots := 0, locals := 41 }) (va_Pc [.ref rl, .int x] (pP G [(rl, .inr (9, [.ref bk])), (bk, .inr (2, [.ref ca, v1, v2, v3, v4, v5])), (ca, .inl (gI G, 2088, .inl f))])) (vp_Si (fun r : Int32 => r = 0 ∨ r = 1)) 0 0 (fun _ => False) := by
  refine Met.ofW (cc := cX8_has) (maxL := 2) (ret := (some .boolean)) (by decide) rfl ?_
  intro p e s m args below meth c s₁ B hml hv
  obtain ⟨rfl, hP, hB⟩ := hv
  have hx := B.exec
  have hb := B.bytes
  have hr := B.returns
  have hts := atoms_spec (ws := wq_g_has) B.pre
  have hown : s.vm.findClass RX8 = some m.cls := findClass_of_methodNamed B.named
  have hlocks := B.notSynchronized
  have hK := hB.1
  have hP : va_P (gD G) vwCl [(rl, .inr (9, [.ref bk])), (bk, .inr (2, [.ref ca, v1, v2, v3, v4, v5])), (ca, .inl (gI G, 2088, .inl f))] s.heap := hP
  have hl := lv_entry ([.ref rl, .int x]) (n := 2) (Nat.le_of_ble_eq_true rfl)
  rw [lg_entry_eq]
  generalize (lg_sl ([.ref rl, .int x]) ++ List.replicate (2 - (lg_sl ([.ref rl, .int x])).length) Slot.unset).toArray = ls at hl ⊢
  have hl : lv_has ls 2 [(0, .ref rl), (1, .int x)] := hl
  refine lv_iload_n hx hb dX8_has_0 rfl (lv_at hl 1 rfl) ?_
  refine lv_if_lt (tgt := 16) hx hb dX8_has_1 (by decide) (fun c_1 => ?_) (fun c_1 => ?_)
  · skip
    refine lv_iconst (v := 0) hx hb dX8_has_16 (by decide) ?_
    exact W.zret (v := 0) hx hb hr rfl (fun t ht hW => ⟨_, rfl, Or.inl rfl, ht⟩) (fun q h => absurd h List.not_mem_nil) dX8_has_17
  · skip
    refine lv_iload_n hx hb dX8_has_4 rfl (lv_at hl 1 rfl) ?_
    refine lv_aload_n hx hb dX8_has_5 rfl (lv_at hl 0 rfl) ?_
    refine vp_callSi (va_Run.run (va_runV (As := []) (rest := [.int x]) ⟨hx, hb, hml, hown, hts⟩ (g_people l G rl bk ca f v1 v2 v3 v4 v5) (cwV 0 hts (gdV (List.mem_cons_of_mem _ (List.mem_append_left _ (List.mem_of_getElem? (i := 0) rfl))) (List.mem_cons_of_mem _ (List.mem_append_left _ (List.mem_of_getElem? (i := 1) rfl))) (List.mem_cons_of_mem _ (List.mem_append_left _ (List.mem_of_getElem? (i := 2) rfl))) (List.mem_cons_of_mem _ (List.mem_append_left _ (List.mem_of_getElem? (i := 3) rfl))) (fun w9 h9 => ⟨(List.mem_cons_of_mem _ (List.mem_append_right _ (List.mem_append_left _ h9))), gd_g_people w9 h9⟩)) rfl rfl rfl kVX8_people ⟨Nat.le_of_ble_eq_true rfl, Nat.le_of_ble_eq_true rfl⟩) (preV_p (As := []) (hP.sub (ws' := [(rl, .inr (9, [.ref bk])), (bk, .inr (2, [.ref ca, v1, v2, v3, v4, v5])), (ca, .inl (gI G, 2088, .inl f))]) [0, 1, 2] rfl) hB rfl rfl) rfl rfl hl.1 rfl (lv_room (Nat.le_of_ble_eq_true rfl)) dX8_has_6 ⟨Nat.le_of_ble_eq_true rfl, Nat.le_of_ble_eq_true rfl⟩)) (fun r_2 hr_2 => ?_)
    subst hr_2
    refine lv_icmp_ge (tgt := 16) hx hb dX8_has_9 (by decide) (fun c_3 => ?_) (fun c_3 => ?_)
    · skip
      refine lv_iconst (v := 0) hx hb dX8_has_16 (by decide) ?_
      exact W.zret (v := 0) hx hb hr rfl (fun t ht hW => ⟨_, rfl, Or.inl rfl, ht⟩) (fun q h => absurd h List.not_mem_nil) dX8_has_17
    · skip
      refine lv_iconst (v := 1) hx hb dX8_has_12 (by decide) ?_
      refine lv_goto (tgt := 17) hx hb dX8_has_13 (by decide) ?_
      exact W.zret (v := 1) hx hb hr rfl (fun t ht hW => ⟨_, rfl, Or.inr rfl, ht⟩) (fun q h => absurd h List.not_mem_nil) dX8_has_17

def wo_g_classOf : List Cond := [.fieldLink RX8 9 "JudoHall$Roll" "book" "LJudoHall$Book;", .methodLink RX8 25 yX1_ofFighter, .static yX1_ofFighter, .initialized RX1, .methodLink RX8 17 yX1_at, .instanceMethod yX1_at, .selects RX1 yX1_at yX1_at]
def wq_g_classOf : List Cond := .code yX8_classOf cX8_classOf 2 (some .int) :: (wo_g_classOf ++ (wsX80 ++ (wq_c_Book_ofFighter ++ (wq_c_Book_at ++ []))))
theorem gd_g_classOf : ∀ w ∈ wq_g_classOf, Gd w := List.forall_mem_cons.mpr ⟨Or.inl rfl, List.forall_mem_append.mpr ⟨gdl wo_g_classOf (by decide +kernel), (List.forall_mem_append.mpr ⟨gd_wsX80, (List.forall_mem_append.mpr ⟨gd_c_Book_ofFighter, (List.forall_mem_append.mpr ⟨gd_c_Book_at, (fun _ h => absurd h List.not_mem_nil)⟩)⟩)⟩)⟩⟩
theorem in_g_classOf : ∀ w ∈ wq_g_classOf, w ∈ lw_tbl := List.forall_mem_cons.mpr ⟨List.mem_of_getElem? (i := 1008) (by decide +kernel), List.forall_mem_append.mpr ⟨inT wo_g_classOf [385, 1009, 1010, 155, 1004, 623, 624] (by decide +kernel), (List.forall_mem_append.mpr ⟨in_wsX80, (List.forall_mem_append.mpr ⟨in_c_Book_ofFighter, (List.forall_mem_append.mpr ⟨in_c_Book_at, (fun _ h => absurd h List.not_mem_nil)⟩)⟩)⟩)⟩⟩
set_option maxHeartbeats 4000000 in
set_option maxRecDepth 100000 in
theorem g_classOf (l : Launch) (G : gG) (rl : Nat) (bk : Nat) (ca : Nat) (f : Nat → Int32) (v1 : Value) (v2 : Value) (v3 : Value) (v4 : Value) (v5 : Value) (x : Int32) : Met l yX8_classOf wq_g_classOf ({ frames := 1, cells := 0, slots := 0, locals := 21 }) (va_Pc [.ref rl, .int x] (pP G [(rl, .inr (9, [.ref bk])), (bk, .inr (2, [.ref ca, v1, v2, v3, v4, v5])), (ca, .inl (gI G, 2088, .inl f))])) (vp_Si (fun r : Int32 => True)) 0 0 (fun _ => False) := by
  refine Met.ofW (cc := cX8_classOf) (maxL := 2) (ret := (some .int)) (by decide) rfl ?_
  intro p e s m args below meth c s₁ B hml hv
  obtain ⟨rfl, hP, hB⟩ := hv
  have hx := B.exec
  have hb := B.bytes
  have hr := B.returns
  have hts := atoms_spec (ws := wq_g_classOf) B.pre
  have hown : s.vm.findClass RX8 = some m.cls := findClass_of_methodNamed B.named
  have hlocks := B.notSynchronized
  have hK := hB.1
  have hP : va_P (gD G) vwCl [(rl, .inr (9, [.ref bk])), (bk, .inr (2, [.ref ca, v1, v2, v3, v4, v5])), (ca, .inl (gI G, 2088, .inl f))] s.heap := hP
  have hl := lv_entry ([.ref rl, .int x]) (n := 2) (Nat.le_of_ble_eq_true rfl)
  rw [lg_entry_eq]
  generalize (lg_sl ([.ref rl, .int x]) ++ List.replicate (2 - (lg_sl ([.ref rl, .int x])).length) Slot.unset).toArray = ls at hl ⊢
  have hl : lv_has ls 2 [(0, .ref rl), (1, .int x)] := hl
  refine lv_aload_n hx hb dX8_classOf_0 rfl (lv_at hl 0 rfl) ?_
  refine va_get (D := gD G) (ci := 9) (v := .ref bk) (C := RX8) (T := TX8) (N := 1) hx hb hts (fun _ h9 => (List.mem_cons_of_mem _ (List.mem_append_right _ (List.mem_append_left _ h9)))) hown hK hP 0 rfl rfl 0 (by decide) (hts (.fieldLink RX8 9 "JudoHall$Roll" "book" "LJudoHall$Book;") (List.mem_cons_of_mem _ (List.mem_append_left _ (List.mem_of_getElem? (i := 0) rfl)))) (fun _ h9 => h9) rfl dX8_classOf_1 ?_
  refine lv_iload_n hx hb dX8_classOf_4 rfl (lv_at hl 1 rfl) ?_
  refine lv_iconst (v := 0) hx hb dX8_classOf_5 (by decide) ?_
  refine vp_callSi (va_Run.run (va_runS (As := [.int x, .int 0]) (rest := [.ref bk]) ⟨hx, hb, hml, hown, hts⟩ (c_Book_ofFighter l G x 0) (va_cwS 2 hts (gdS (List.mem_cons_of_mem _ (List.mem_append_left _ (List.mem_of_getElem? (i := 1) rfl))) (List.mem_cons_of_mem _ (List.mem_append_left _ (List.mem_of_getElem? (i := 2) rfl))) (List.mem_cons_of_mem _ (List.mem_append_left _ (List.mem_of_getElem? (i := 3) rfl))) (fun w9 h9 => ⟨(List.mem_cons_of_mem _ (List.mem_append_right _ (List.mem_append_right _ (List.mem_append_left _ h9)))), gd_c_Book_ofFighter w9 h9⟩)) rfl rfl rfl kSX1_ofFighter ⟨Nat.le_of_ble_eq_true rfl, Nat.le_of_ble_eq_true rfl⟩) (preS_p (As := [.int x, .int 0]) (hP.sub (ws' := []) [] rfl) hB) rfl rfl hl.1 rfl (lv_room (Nat.le_of_ble_eq_true rfl)) dX8_classOf_6 ⟨Nat.le_of_ble_eq_true rfl, Nat.le_of_ble_eq_true rfl⟩)) (fun r_1 hr_1 => ?_)
  subst hr_1
  refine vp_callSi (va_Run.run (va_runV (As := [.int (148 + x * 7 + 0)]) (rest := []) ⟨hx, hb, hml, hown, hts⟩ (c_Book_at l G bk ca 2088 f v1 v2 v3 v4 v5 (148 + x * 7 + 0) (by decide)) (cwV 1 hts (gdV (List.mem_cons_of_mem _ (List.mem_append_left _ (List.mem_of_getElem? (i := 4) rfl))) (List.mem_cons_of_mem _ (List.mem_append_left _ (List.mem_of_getElem? (i := 5) rfl))) (List.mem_cons_of_mem _ (List.mem_append_left _ (List.mem_of_getElem? (i := 6) rfl))) (List.mem_cons_of_mem _ (List.mem_append_left _ (List.mem_of_getElem? (i := 3) rfl))) (fun w9 h9 => ⟨(List.mem_cons_of_mem _ (List.mem_append_right _ (List.mem_append_right _ (List.mem_append_right _ (List.mem_append_left _ h9))))), gd_c_Book_at w9 h9⟩)) rfl rfl rfl kVX1_at ⟨Nat.le_of_ble_eq_true rfl, Nat.le_of_ble_eq_true rfl⟩) (preV_p (As := [.int (148 + x * 7 + 0)]) (hP.sub (ws' := [(bk, .inr (2, [.ref ca, v1, v2, v3, v4, v5])), (ca, .inl (gI G, 2088, .inl f))]) [1, 2] rfl) hB rfl rfl) rfl rfl hl.1 rfl (lv_room (Nat.le_of_ble_eq_true rfl)) dX8_classOf_9 ⟨Nat.le_of_ble_eq_true rfl, Nat.le_of_ble_eq_true rfl⟩)) (fun r_2 hr_2 => ?_)
  subst hr_2
  exact W.iret (v := (rg f 2088 (148 + x * 7 + 0))) hx hb hr (fun t ht hW => ⟨_, rfl, trivial, ht⟩) (fun q h => absurd h List.not_mem_nil) dX8_classOf_12

def wo_g_isWeighed : List Cond := [.methodLink RX8 25 yX1_ofFighter, .static yX1_ofFighter, .initialized RX1, .methodLink RX8 17 yX1_at, .instanceMethod yX1_at, .selects RX1 yX1_at yX1_at]
def wq_g_isWeighed : List Cond := .code yX8_isWeighed cX8_isWeighed 3 (some .boolean) :: (wo_g_isWeighed ++ (wq_c_Book_ofFighter ++ (wq_c_Book_at ++ [])))
theorem gd_g_isWeighed : ∀ w ∈ wq_g_isWeighed, Gd w := List.forall_mem_cons.mpr ⟨Or.inl rfl, List.forall_mem_append.mpr ⟨gdl wo_g_isWeighed (by decide +kernel), (List.forall_mem_append.mpr ⟨gd_c_Book_ofFighter, (List.forall_mem_append.mpr ⟨gd_c_Book_at, (fun _ h => absurd h List.not_mem_nil)⟩)⟩)⟩⟩
theorem in_g_isWeighed : ∀ w ∈ wq_g_isWeighed, w ∈ lw_tbl := List.forall_mem_cons.mpr ⟨List.mem_of_getElem? (i := 1056) (by decide +kernel), List.forall_mem_append.mpr ⟨inT wo_g_isWeighed [1009, 1010, 155, 1004, 623, 624] (by decide +kernel), (List.forall_mem_append.mpr ⟨in_c_Book_ofFighter, (List.forall_mem_append.mpr ⟨in_c_Book_at, (fun _ h => absurd h List.not_mem_nil)⟩)⟩)⟩⟩
set_option maxHeartbeats 4000000 in
set_option maxRecDepth 100000 in
theorem g_isWeighed (l : Launch) (G : gG) (bk : Nat) (ca : Nat) (f : Nat → Int32) (v1 : Value) (v2 : Value) (v3 : Value) (v4 : Value) (v5 : Value) (x : Int32) (y : Int32) : Met l yX8_isWeighed wq_g_isWeighed ({ frames := 1, cells := 0, slots := 0, locals := 21 }) (va_Pc [.ref bk, .int x, .int y] (pP G [(bk, .inr (2, [.ref ca, v1, v2, v3, v4, v5])), (ca, .inl (gI G, 2088, .inl f))])) (vp_Si (fun r : Int32 => r = 0 ∨ r = 1)) 0 0 (fun _ => False) := by
  refine Met.ofW (cc := cX8_isWeighed) (maxL := 3) (ret := (some .boolean)) (by decide) rfl ?_
  intro p e s m args below meth c s₁ B hml hv
  obtain ⟨rfl, hP, hB⟩ := hv
  have hx := B.exec
  have hb := B.bytes
  have hr := B.returns
  have hts := atoms_spec (ws := wq_g_isWeighed) B.pre
  have hown : s.vm.findClass RX8 = some m.cls := findClass_of_methodNamed B.named
  have hlocks := B.notSynchronized
  have hK := hB.1
  have hP : va_P (gD G) vwCl [(bk, .inr (2, [.ref ca, v1, v2, v3, v4, v5])), (ca, .inl (gI G, 2088, .inl f))] s.heap := hP
  have hl := lv_entry ([.ref bk, .int x, .int y]) (n := 3) (Nat.le_of_ble_eq_true rfl)
  rw [lg_entry_eq]
  generalize (lg_sl ([.ref bk, .int x, .int y]) ++ List.replicate (3 - (lg_sl ([.ref bk, .int x, .int y])).length) Slot.unset).toArray = ls at hl ⊢
  have hl : lv_has ls 3 [(0, .ref bk), (1, .int x), (2, .int y)] := hl
  refine lv_aload_n hx hb dX8_isWeighed_0 rfl (lv_at hl 0 rfl) ?_
  refine lv_iload_n hx hb dX8_isWeighed_1 rfl (lv_at hl 1 rfl) ?_
  refine lv_iconst (v := 0) hx hb dX8_isWeighed_2 (by decide) ?_
  refine vp_callSi (va_Run.run (va_runS (As := [.int x, .int 0]) (rest := [.ref bk]) ⟨hx, hb, hml, hown, hts⟩ (c_Book_ofFighter l G x 0) (va_cwS 2 hts (gdS (List.mem_cons_of_mem _ (List.mem_append_left _ (List.mem_of_getElem? (i := 0) rfl))) (List.mem_cons_of_mem _ (List.mem_append_left _ (List.mem_of_getElem? (i := 1) rfl))) (List.mem_cons_of_mem _ (List.mem_append_left _ (List.mem_of_getElem? (i := 2) rfl))) (fun w9 h9 => ⟨(List.mem_cons_of_mem _ (List.mem_append_right _ (List.mem_append_left _ h9))), gd_c_Book_ofFighter w9 h9⟩)) rfl rfl rfl kSX1_ofFighter ⟨Nat.le_of_ble_eq_true rfl, Nat.le_of_ble_eq_true rfl⟩) (preS_p (As := [.int x, .int 0]) (hP.sub (ws' := []) [] rfl) hB) rfl rfl hl.1 rfl (lv_room (Nat.le_of_ble_eq_true rfl)) dX8_isWeighed_3 ⟨Nat.le_of_ble_eq_true rfl, Nat.le_of_ble_eq_true rfl⟩)) (fun r_1 hr_1 => ?_)
  subst hr_1
  refine vp_callSi (va_Run.run (va_runV (As := [.int (148 + x * 7 + 0)]) (rest := []) ⟨hx, hb, hml, hown, hts⟩ (c_Book_at l G bk ca 2088 f v1 v2 v3 v4 v5 (148 + x * 7 + 0) (by decide)) (cwV 1 hts (gdV (List.mem_cons_of_mem _ (List.mem_append_left _ (List.mem_of_getElem? (i := 3) rfl))) (List.mem_cons_of_mem _ (List.mem_append_left _ (List.mem_of_getElem? (i := 4) rfl))) (List.mem_cons_of_mem _ (List.mem_append_left _ (List.mem_of_getElem? (i := 5) rfl))) (List.mem_cons_of_mem _ (List.mem_append_left _ (List.mem_of_getElem? (i := 2) rfl))) (fun w9 h9 => ⟨(List.mem_cons_of_mem _ (List.mem_append_right _ (List.mem_append_right _ (List.mem_append_left _ h9)))), gd_c_Book_at w9 h9⟩)) rfl rfl rfl kVX1_at ⟨Nat.le_of_ble_eq_true rfl, Nat.le_of_ble_eq_true rfl⟩) (preV_p (As := [.int (148 + x * 7 + 0)]) (hP.sub (ws' := [(bk, .inr (2, [.ref ca, v1, v2, v3, v4, v5])), (ca, .inl (gI G, 2088, .inl f))]) [0, 1] rfl) hB rfl rfl) rfl rfl hl.1 rfl (lv_room (Nat.le_of_ble_eq_true rfl)) dX8_isWeighed_6 ⟨Nat.le_of_ble_eq_true rfl, Nat.le_of_ble_eq_true rfl⟩)) (fun r_2 hr_2 => ?_)
  subst hr_2
  refine lv_iload_n hx hb dX8_isWeighed_9 rfl (lv_at hl 2 rfl) ?_
  refine lv_icmp_ne (tgt := 30) hx hb dX8_isWeighed_10 (by decide) (fun c_3 => ?_) (fun c_3 => ?_)
  · skip
    refine lv_iconst (v := 0) hx hb dX8_isWeighed_30 (by decide) ?_
    exact W.zret (v := 0) hx hb hr rfl (fun t ht hW => ⟨_, rfl, Or.inl rfl, ht⟩) (fun q h => absurd h List.not_mem_nil) dX8_isWeighed_31
  · skip
    refine lv_aload_n hx hb dX8_isWeighed_13 rfl (lv_at hl 0 rfl) ?_
    refine lv_iload_n hx hb dX8_isWeighed_14 rfl (lv_at hl 1 rfl) ?_
    refine lv_iconst (v := 3) hx hb dX8_isWeighed_15 (by decide) ?_
    refine vp_callSi (va_Run.run (va_runS (As := [.int x, .int 3]) (rest := [.ref bk]) ⟨hx, hb, hml, hown, hts⟩ (c_Book_ofFighter l G x 3) (va_cwS 2 hts (gdS (List.mem_cons_of_mem _ (List.mem_append_left _ (List.mem_of_getElem? (i := 0) rfl))) (List.mem_cons_of_mem _ (List.mem_append_left _ (List.mem_of_getElem? (i := 1) rfl))) (List.mem_cons_of_mem _ (List.mem_append_left _ (List.mem_of_getElem? (i := 2) rfl))) (fun w9 h9 => ⟨(List.mem_cons_of_mem _ (List.mem_append_right _ (List.mem_append_left _ h9))), gd_c_Book_ofFighter w9 h9⟩)) rfl rfl rfl kSX1_ofFighter ⟨Nat.le_of_ble_eq_true rfl, Nat.le_of_ble_eq_true rfl⟩) (preS_p (As := [.int x, .int 3]) (hP.sub (ws' := []) [] rfl) hB) rfl rfl hl.1 rfl (lv_room (Nat.le_of_ble_eq_true rfl)) dX8_isWeighed_16 ⟨Nat.le_of_ble_eq_true rfl, Nat.le_of_ble_eq_true rfl⟩)) (fun r_4 hr_4 => ?_)
    subst hr_4
    refine vp_callSi (va_Run.run (va_runV (As := [.int (148 + x * 7 + 3)]) (rest := []) ⟨hx, hb, hml, hown, hts⟩ (c_Book_at l G bk ca 2088 f v1 v2 v3 v4 v5 (148 + x * 7 + 3) (by decide)) (cwV 1 hts (gdV (List.mem_cons_of_mem _ (List.mem_append_left _ (List.mem_of_getElem? (i := 3) rfl))) (List.mem_cons_of_mem _ (List.mem_append_left _ (List.mem_of_getElem? (i := 4) rfl))) (List.mem_cons_of_mem _ (List.mem_append_left _ (List.mem_of_getElem? (i := 5) rfl))) (List.mem_cons_of_mem _ (List.mem_append_left _ (List.mem_of_getElem? (i := 2) rfl))) (fun w9 h9 => ⟨(List.mem_cons_of_mem _ (List.mem_append_right _ (List.mem_append_right _ (List.mem_append_left _ h9)))), gd_c_Book_at w9 h9⟩)) rfl rfl rfl kVX1_at ⟨Nat.le_of_ble_eq_true rfl, Nat.le_of_ble_eq_true rfl⟩) (preV_p (As := [.int (148 + x * 7 + 3)]) (hP.sub (ws' := [(bk, .inr (2, [.ref ca, v1, v2, v3, v4, v5])), (ca, .inl (gI G, 2088, .inl f))]) [0, 1] rfl) hB rfl rfl) rfl rfl hl.1 rfl (lv_room (Nat.le_of_ble_eq_true rfl)) dX8_isWeighed_19 ⟨Nat.le_of_ble_eq_true rfl, Nat.le_of_ble_eq_true rfl⟩)) (fun r_5 hr_5 => ?_)
    subst hr_5
    refine lv_iconst (v := 1) hx hb dX8_isWeighed_22 (by decide) ?_
    refine lv_icmp_ne (tgt := 30) hx hb dX8_isWeighed_23 (by decide) (fun c_6 => ?_) (fun c_6 => ?_)
    · skip
      refine lv_iconst (v := 0) hx hb dX8_isWeighed_30 (by decide) ?_
      exact W.zret (v := 0) hx hb hr rfl (fun t ht hW => ⟨_, rfl, Or.inl rfl, ht⟩) (fun q h => absurd h List.not_mem_nil) dX8_isWeighed_31
    · skip
      refine lv_iconst (v := 1) hx hb dX8_isWeighed_26 (by decide) ?_
      refine lv_goto (tgt := 31) hx hb dX8_isWeighed_27 (by decide) ?_
      exact W.zret (v := 1) hx hb hr rfl (fun t ht hW => ⟨_, rfl, Or.inr rfl, ht⟩) (fun q h => absurd h List.not_mem_nil) dX8_isWeighed_31

def wo_g_wasAnyAtScales : List Cond := [.methodLink RX8 21 yX8_people, .instanceMethod yX8_people, .selects RX8 yX8_people yX8_people, .initialized RX8, .methodLink RX8 33 yX8_classOf, .instanceMethod yX8_classOf, .selects RX8 yX8_classOf yX8_classOf, .fieldLink RX8 9 "JudoHall$Roll" "book" "LJudoHall$Book;", .methodLink RX8 25 yX1_ofFighter, .static yX1_ofFighter, .initialized RX1, .methodLink RX8 17 yX1_at, .instanceMethod yX1_at, .selects RX1 yX1_at yX1_at]
def wq_g_wasAnyAtScales : List Cond := .code yX8_wasAnyAtScales cX8_wasAnyAtScales 3 (some .boolean) :: (wo_g_wasAnyAtScales ++ (wq_g_people ++ (wq_g_classOf ++ (wsX80 ++ (wq_c_Book_ofFighter ++ (wq_c_Book_at ++ []))))))
theorem gd_g_wasAnyAtScales : ∀ w ∈ wq_g_wasAnyAtScales, Gd w := List.forall_mem_cons.mpr ⟨Or.inl rfl, List.forall_mem_append.mpr ⟨gdl wo_g_wasAnyAtScales (by decide +kernel), (List.forall_mem_append.mpr ⟨gd_g_people, (List.forall_mem_append.mpr ⟨gd_g_classOf, (List.forall_mem_append.mpr ⟨gd_wsX80, (List.forall_mem_append.mpr ⟨gd_c_Book_ofFighter, (List.forall_mem_append.mpr ⟨gd_c_Book_at, (fun _ h => absurd h List.not_mem_nil)⟩)⟩)⟩)⟩)⟩)⟩⟩
theorem in_g_wasAnyAtScales : ∀ w ∈ wq_g_wasAnyAtScales, w ∈ lw_tbl := List.forall_mem_cons.mpr ⟨List.mem_of_getElem? (i := 999) (by decide +kernel), List.forall_mem_append.mpr ⟨inT wo_g_wasAnyAtScales [1000, 1001, 1002, 162, 1005, 1006, 1007, 385, 1009, 1010, 155, 1004, 623, 624] (by decide +kernel), (List.forall_mem_append.mpr ⟨in_g_people, (List.forall_mem_append.mpr ⟨in_g_classOf, (List.forall_mem_append.mpr ⟨in_wsX80, (List.forall_mem_append.mpr ⟨in_c_Book_ofFighter, (List.forall_mem_append.mpr ⟨in_c_Book_at, (fun _ h => absurd h List.not_mem_nil)⟩)⟩)⟩)⟩)⟩)⟩⟩
set_option maxHeartbeats 4000000 in
set_option maxRecDepth 100000 in
theorem g_wasAnyAtScales (l : Launch) (G : gG) (rl : Nat) (bk : Nat) (ca : Nat) (f : Nat → Int32) (v1 : Value) (v2 : Value) (v3 : Value) (v4 : Value) (v5 : Value) (x : Int32) : Met l yX8_wasAnyAtScales wq_g_wasAnyAtScales ({ frames := 2, cells := 0, slots := 0, locals := 42 }) (va_Pc [.ref rl, .int x] (pP G [(rl, .inr (9, [.ref bk])), (bk, .inr (2, [.ref ca, v1, v2, v3, v4, v5])), (ca, .inl (gI G, 2088, .inl f))])) (vp_Si (fun r : Int32 => r = 0 ∨ r = 1)) 0 0 (fun _ => False) := by
  refine Met.ofW (cc := cX8_wasAnyAtScales) (maxL := 3) (ret := (some .boolean)) (by decide) rfl ?_
  intro p e s m args below meth c s₁ B hml hv
  obtain ⟨rfl, hP, hB⟩ := hv
  have hx := B.exec
  have hb := B.bytes
  have hr := B.returns
  have hts := atoms_spec (ws := wq_g_wasAnyAtScales) B.pre
  have hown : s.vm.findClass RX8 = some m.cls := findClass_of_methodNamed B.named
  have hlocks := B.notSynchronized
  have hK := hB.1
  have hP : va_P (gD G) vwCl [(rl, .inr (9, [.ref bk])), (bk, .inr (2, [.ref ca, v1, v2, v3, v4, v5])), (ca, .inl (gI G, 2088, .inl f))] s.heap := hP
  have hl := lv_entry ([.ref rl, .int x]) (n := 3) (Nat.le_of_ble_eq_true rfl)
  rw [lg_entry_eq]
  generalize (lg_sl ([.ref rl, .int x]) ++ List.replicate (3 - (lg_sl ([.ref rl, .int x])).length) Slot.unset).toArray = ls at hl ⊢
  have hl : lv_has ls 3 [(0, .ref rl), (1, .int x)] := hl
  refine lv_iconst (v := 0) hx hb dX8_wasAnyAtScales_0 (by decide) ?_
  refine lv_istore_n (lv' := [(2, .int 0), (0, .ref rl), (1, .int x)]) hx hb dX8_wasAnyAtScales_1 rfl hl (by decide) rfl (fun ls hl => ?_)
  have hloop2 : ∀ (k9 : Nat) (k2 : Nat), (rg f 2088 2).toNatClampNeg - k2 < k9 → (k2 ≤ (rg f 2088 2).toNatClampNeg) → ∀ (ls : Array Slot), lv_has ls 3 [(2, .int (nI k2)), (0, .ref rl), (1, .int x)] → W p l e (headSpec wq_g_wasAnyAtScales ({ frames := 2, cells := 0, slots := 0, locals := 42 })).room s m [.ref rl, .int x].toArray below meth c s.heap [] 0 0 (MQ below (vp_Si (fun r : Int32 => r = 0 ∨ r = 1)) [.ref rl, .int x].toArray s 0 0 (fun _ => False)) (F0 m 2 ls []) := by
    intro k9
    induction k9 with
    | zero => intro k2 h9; exact absurd h9 (Nat.not_lt_zero _)
    | succ k9 ih2 =>
      intro k2 hm2 hb_k2 ls hl
      refine lv_iload_n hx hb dX8_wasAnyAtScales_2 rfl (lv_at hl 0 rfl) ?_
      refine lv_aload_n hx hb dX8_wasAnyAtScales_3 rfl (lv_at hl 1 rfl) ?_
      refine vp_callSi (va_Run.run (va_runV (As := []) (rest := [.int (nI k2)]) ⟨hx, hb, hml, hown, hts⟩ (g_people l G rl bk ca f v1 v2 v3 v4 v5) (cwV 0 hts (gdV (List.mem_cons_of_mem _ (List.mem_append_left _ (List.mem_of_getElem? (i := 0) rfl))) (List.mem_cons_of_mem _ (List.mem_append_left _ (List.mem_of_getElem? (i := 1) rfl))) (List.mem_cons_of_mem _ (List.mem_append_left _ (List.mem_of_getElem? (i := 2) rfl))) (List.mem_cons_of_mem _ (List.mem_append_left _ (List.mem_of_getElem? (i := 3) rfl))) (fun w9 h9 => ⟨(List.mem_cons_of_mem _ (List.mem_append_right _ (List.mem_append_left _ h9))), gd_g_people w9 h9⟩)) rfl rfl rfl kVX8_people ⟨Nat.le_of_ble_eq_true rfl, Nat.le_of_ble_eq_true rfl⟩) (preV_p (As := []) (hP.sub (ws' := [(rl, .inr (9, [.ref bk])), (bk, .inr (2, [.ref ca, v1, v2, v3, v4, v5])), (ca, .inl (gI G, 2088, .inl f))]) [0, 1, 2] rfl) hB rfl rfl) rfl rfl hl.1 rfl (lv_room (Nat.le_of_ble_eq_true rfl)) dX8_wasAnyAtScales_4 ⟨Nat.le_of_ble_eq_true rfl, Nat.le_of_ble_eq_true rfl⟩)) (fun r_1 hr_1 => ?_)
      subst hr_1
      refine lv_icmp_ge (tgt := 42) hx hb dX8_wasAnyAtScales_7 (by decide) (fun c_2 => ?_) (fun c_2 => ?_)
      · skip
        refine lv_iconst (v := 0) hx hb dX8_wasAnyAtScales_42 (by decide) ?_
        exact W.zret (v := 0) hx hb hr rfl (fun t ht hW => ⟨_, rfl, Or.inl rfl, ht⟩) (fun q h => absurd h List.not_mem_nil) dX8_wasAnyAtScales_43
      · have hl_k2 := gl_lt (B := rg f 2088 2) hb_k2 c_2
        refine lv_aload_n hx hb dX8_wasAnyAtScales_10 rfl (lv_at hl 1 rfl) ?_
        refine lv_iload_n hx hb dX8_wasAnyAtScales_11 rfl (lv_at hl 0 rfl) ?_
        refine vp_callSi (va_Run.run (va_runV (As := [.int (nI k2)]) (rest := []) ⟨hx, hb, hml, hown, hts⟩ (g_classOf l G rl bk ca f v1 v2 v3 v4 v5 (nI k2)) (cwV 1 hts (gdV (List.mem_cons_of_mem _ (List.mem_append_left _ (List.mem_of_getElem? (i := 4) rfl))) (List.mem_cons_of_mem _ (List.mem_append_left _ (List.mem_of_getElem? (i := 5) rfl))) (List.mem_cons_of_mem _ (List.mem_append_left _ (List.mem_of_getElem? (i := 6) rfl))) (List.mem_cons_of_mem _ (List.mem_append_left _ (List.mem_of_getElem? (i := 3) rfl))) (fun w9 h9 => ⟨(List.mem_cons_of_mem _ (List.mem_append_right _ (List.mem_append_right _ (List.mem_append_left _ h9)))), gd_g_classOf w9 h9⟩)) rfl rfl rfl kVX8_classOf ⟨Nat.le_of_ble_eq_true rfl, Nat.le_of_ble_eq_true rfl⟩) (preV_p (As := [.int (nI k2)]) (hP.sub (ws' := [(rl, .inr (9, [.ref bk])), (bk, .inr (2, [.ref ca, v1, v2, v3, v4, v5])), (ca, .inl (gI G, 2088, .inl f))]) [0, 1, 2] rfl) hB rfl rfl) rfl rfl hl.1 rfl (lv_room (Nat.le_of_ble_eq_true rfl)) dX8_wasAnyAtScales_12 ⟨Nat.le_of_ble_eq_true rfl, Nat.le_of_ble_eq_true rfl⟩)) (fun r_3 hr_3 => ?_)
        clear hr_3
        refine lv_iload_n hx hb dX8_wasAnyAtScales_15 rfl (lv_at hl 2 rfl) ?_
        refine lv_icmp_ne (tgt := 36) hx hb dX8_wasAnyAtScales_16 (by decide) (fun c_4 => ?_) (fun c_4 => ?_)
        · skip
          refine lv_iinc (v := (nI (k2 + 1))) (lv' := [(2, .int (nI (k2 + 1))), (0, .ref rl), (1, .int x)]) hx hb dX8_wasAnyAtScales_36 hl (k := 0) rfl (nI_1 k2) (by decide) rfl (fun ls hl => ?_)
          refine lv_goto (tgt := 2) hx hb dX8_wasAnyAtScales_39 (by decide) ?_
          exact ih2 (k2 + 1) (by omega) (hl_k2) _ (lv_sub hl [0, 1, 2] rfl) 
        · skip
          refine lv_aload_n hx hb dX8_wasAnyAtScales_19 rfl (lv_at hl 1 rfl) ?_
          refine va_get (D := gD G) (ci := 9) (v := .ref bk) (C := RX8) (T := TX8) (N := 1) hx hb hts (fun _ h9 => (List.mem_cons_of_mem _ (List.mem_append_right _ (List.mem_append_right _ (List.mem_append_right _ (List.mem_append_left _ h9)))))) hown hK hP 0 rfl rfl 0 (by decide) (hts (.fieldLink RX8 9 "JudoHall$Roll" "book" "LJudoHall$Book;") (List.mem_cons_of_mem _ (List.mem_append_left _ (List.mem_of_getElem? (i := 7) rfl)))) (fun _ h9 => h9) rfl dX8_wasAnyAtScales_20 ?_
          refine lv_iload_n hx hb dX8_wasAnyAtScales_23 rfl (lv_at hl 0 rfl) ?_
          refine lv_iconst (v := 3) hx hb dX8_wasAnyAtScales_24 (by decide) ?_
          refine vp_callSi (va_Run.run (va_runS (As := [.int (nI k2), .int 3]) (rest := [.ref bk]) ⟨hx, hb, hml, hown, hts⟩ (c_Book_ofFighter l G (nI k2) 3) (va_cwS 2 hts (gdS (List.mem_cons_of_mem _ (List.mem_append_left _ (List.mem_of_getElem? (i := 8) rfl))) (List.mem_cons_of_mem _ (List.mem_append_left _ (List.mem_of_getElem? (i := 9) rfl))) (List.mem_cons_of_mem _ (List.mem_append_left _ (List.mem_of_getElem? (i := 10) rfl))) (fun w9 h9 => ⟨(List.mem_cons_of_mem _ (List.mem_append_right _ (List.mem_append_right _ (List.mem_append_right _ (List.mem_append_right _ (List.mem_append_left _ h9)))))), gd_c_Book_ofFighter w9 h9⟩)) rfl rfl rfl kSX1_ofFighter ⟨Nat.le_of_ble_eq_true rfl, Nat.le_of_ble_eq_true rfl⟩) (preS_p (As := [.int (nI k2), .int 3]) (hP.sub (ws' := []) [] rfl) hB) rfl rfl hl.1 rfl (lv_room (Nat.le_of_ble_eq_true rfl)) dX8_wasAnyAtScales_25 ⟨Nat.le_of_ble_eq_true rfl, Nat.le_of_ble_eq_true rfl⟩)) (fun r_5 hr_5 => ?_)
          subst hr_5
          refine vp_callSi (va_Run.run (va_runV (As := [.int (148 + (nI k2) * 7 + 3)]) (rest := []) ⟨hx, hb, hml, hown, hts⟩ (c_Book_at l G bk ca 2088 f v1 v2 v3 v4 v5 (148 + (nI k2) * 7 + 3) (by decide)) (cwV 1 hts (gdV (List.mem_cons_of_mem _ (List.mem_append_left _ (List.mem_of_getElem? (i := 11) rfl))) (List.mem_cons_of_mem _ (List.mem_append_left _ (List.mem_of_getElem? (i := 12) rfl))) (List.mem_cons_of_mem _ (List.mem_append_left _ (List.mem_of_getElem? (i := 13) rfl))) (List.mem_cons_of_mem _ (List.mem_append_left _ (List.mem_of_getElem? (i := 10) rfl))) (fun w9 h9 => ⟨(List.mem_cons_of_mem _ (List.mem_append_right _ (List.mem_append_right _ (List.mem_append_right _ (List.mem_append_right _ (List.mem_append_right _ (List.mem_append_left _ h9))))))), gd_c_Book_at w9 h9⟩)) rfl rfl rfl kVX1_at ⟨Nat.le_of_ble_eq_true rfl, Nat.le_of_ble_eq_true rfl⟩) (preV_p (As := [.int (148 + (nI k2) * 7 + 3)]) (hP.sub (ws' := [(bk, .inr (2, [.ref ca, v1, v2, v3, v4, v5])), (ca, .inl (gI G, 2088, .inl f))]) [1, 2] rfl) hB rfl rfl) rfl rfl hl.1 rfl (lv_room (Nat.le_of_ble_eq_true rfl)) dX8_wasAnyAtScales_28 ⟨Nat.le_of_ble_eq_true rfl, Nat.le_of_ble_eq_true rfl⟩)) (fun r_6 hr_6 => ?_)
          subst hr_6
          refine lv_if_eq (tgt := 36) hx hb dX8_wasAnyAtScales_31 (by decide) (fun c_7 => ?_) (fun c_7 => ?_)
          · skip
            refine lv_iinc (v := (nI (k2 + 1))) (lv' := [(2, .int (nI (k2 + 1))), (0, .ref rl), (1, .int x)]) hx hb dX8_wasAnyAtScales_36 hl (k := 0) rfl (nI_1 k2) (by decide) rfl (fun ls hl => ?_)
            refine lv_goto (tgt := 2) hx hb dX8_wasAnyAtScales_39 (by decide) ?_
            exact ih2 (k2 + 1) (by omega) (hl_k2) _ (lv_sub hl [0, 1, 2] rfl) 
          · skip
            refine lv_iconst (v := 1) hx hb dX8_wasAnyAtScales_34 (by decide) ?_
            exact W.zret (v := 1) hx hb hr rfl (fun t ht hW => ⟨_, rfl, Or.inr rfl, ht⟩) (fun q h => absurd h List.not_mem_nil) dX8_wasAnyAtScales_35
  exact hloop2 (((rg f 2088 2).toNatClampNeg - 0) + 1) 0 (Nat.lt_succ_self _) (Nat.zero_le _) _ (lv_sub hl [0, 1, 2] rfl)

def wo_g_isSeedOfAnother : List Cond := [.methodLink RX8 21 yX8_people, .instanceMethod yX8_people, .selects RX8 yX8_people yX8_people, .initialized RX8, .methodLink RX8 33 yX8_classOf, .instanceMethod yX8_classOf, .selects RX8 yX8_classOf yX8_classOf, .fieldLink RX8 9 "JudoHall$Roll" "book" "LJudoHall$Book;", .methodLink RX8 25 yX1_ofFighter, .static yX1_ofFighter, .initialized RX1, .methodLink RX8 17 yX1_at, .instanceMethod yX1_at, .selects RX1 yX1_at yX1_at]
def wq_g_isSeedOfAnother : List Cond := .code yX8_isSeedOfAnother cX8_isSeedOfAnother 5 (some .boolean) :: (wo_g_isSeedOfAnother ++ (wq_g_people ++ (wq_g_classOf ++ (wsX80 ++ (wq_c_Book_ofFighter ++ (wq_c_Book_at ++ []))))))
theorem gd_g_isSeedOfAnother : ∀ w ∈ wq_g_isSeedOfAnother, Gd w := List.forall_mem_cons.mpr ⟨Or.inl rfl, List.forall_mem_append.mpr ⟨gdl wo_g_isSeedOfAnother (by decide +kernel), (List.forall_mem_append.mpr ⟨gd_g_people, (List.forall_mem_append.mpr ⟨gd_g_classOf, (List.forall_mem_append.mpr ⟨gd_wsX80, (List.forall_mem_append.mpr ⟨gd_c_Book_ofFighter, (List.forall_mem_append.mpr ⟨gd_c_Book_at, (fun _ h => absurd h List.not_mem_nil)⟩)⟩)⟩)⟩)⟩)⟩⟩
theorem in_g_isSeedOfAnother : ∀ w ∈ wq_g_isSeedOfAnother, w ∈ lw_tbl := List.forall_mem_cons.mpr ⟨List.mem_of_getElem? (i := 1044) (by decide +kernel), List.forall_mem_append.mpr ⟨inT wo_g_isSeedOfAnother [1000, 1001, 1002, 162, 1005, 1006, 1007, 385, 1009, 1010, 155, 1004, 623, 624] (by decide +kernel), (List.forall_mem_append.mpr ⟨in_g_people, (List.forall_mem_append.mpr ⟨in_g_classOf, (List.forall_mem_append.mpr ⟨in_wsX80, (List.forall_mem_append.mpr ⟨in_c_Book_ofFighter, (List.forall_mem_append.mpr ⟨in_c_Book_at, (fun _ h => absurd h List.not_mem_nil)⟩)⟩)⟩)⟩)⟩)⟩⟩
set_option maxHeartbeats 4000000 in
set_option maxRecDepth 100000 in
theorem g_isSeedOfAnother (l : Launch) (G : gG) (rl : Nat) (bk : Nat) (ca : Nat) (f : Nat → Int32) (v1 : Value) (v2 : Value) (v3 : Value) (v4 : Value) (v5 : Value) (x : Int32) (y : Int32) : Met l yX8_isSeedOfAnother wq_g_isSeedOfAnother ({ frames := 2, cells := 0, slots := 0, locals := 42 }) (va_Pc [.ref rl, .int x, .int y] (pP G [(rl, .inr (9, [.ref bk])), (bk, .inr (2, [.ref ca, v1, v2, v3, v4, v5])), (ca, .inl (gI G, 2088, .inl f))])) (vp_Si (fun r : Int32 => r = 0 ∨ r = 1)) 0 0 (fun _ => False) := by
  refine Met.ofW (cc := cX8_isSeedOfAnother) (maxL := 5) (ret := (some .boolean)) (by decide) rfl ?_
  intro p e s m args below meth c s₁ B hml hv
  obtain ⟨rfl, hP, hB⟩ := hv
  have hx := B.exec
  have hb := B.bytes
  have hr := B.returns
  have hts := atoms_spec (ws := wq_g_isSeedOfAnother) B.pre
  have hown : s.vm.findClass RX8 = some m.cls := findClass_of_methodNamed B.named
  have hlocks := B.notSynchronized
  have hK := hB.1
  have hP : va_P (gD G) vwCl [(rl, .inr (9, [.ref bk])), (bk, .inr (2, [.ref ca, v1, v2, v3, v4, v5])), (ca, .inl (gI G, 2088, .inl f))] s.heap := hP
  have hl := lv_entry ([.ref rl, .int x, .int y]) (n := 5) (Nat.le_of_ble_eq_true rfl)
  rw [lg_entry_eq]
  generalize (lg_sl ([.ref rl, .int x, .int y]) ++ List.replicate (5 - (lg_sl ([.ref rl, .int x, .int y])).length) Slot.unset).toArray = ls at hl ⊢
  have hl : lv_has ls 5 [(0, .ref rl), (1, .int x), (2, .int y)] := hl
  refine lv_iconst (v := 0) hx hb dX8_isSeedOfAnother_0 (by decide) ?_
  refine lv_istore_n (lv' := [(3, .int 0), (0, .ref rl), (1, .int x), (2, .int y)]) hx hb dX8_isSeedOfAnother_1 rfl hl (by decide) rfl (fun ls hl => ?_)
  have hloop2 : ∀ (k9 : Nat) (k3 : Nat), (rg f 2088 2).toNatClampNeg - k3 < k9 → (k3 ≤ (rg f 2088 2).toNatClampNeg) → ∀ (ls : Array Slot), lv_has ls 5 [(3, .int (nI k3)), (0, .ref rl), (1, .int x), (2, .int y)] → W p l e (headSpec wq_g_isSeedOfAnother ({ frames := 2, cells := 0, slots := 0, locals := 42 })).room s m [.ref rl, .int x, .int y].toArray below meth c s.heap [] 0 0 (MQ below (vp_Si (fun r : Int32 => r = 0 ∨ r = 1)) [.ref rl, .int x, .int y].toArray s 0 0 (fun _ => False)) (F0 m 2 ls []) := by
    intro k9
    induction k9 with
    | zero => intro k3 h9; exact absurd h9 (Nat.not_lt_zero _)
    | succ k9 ih2 =>
      intro k3 hm2 hb_k3 ls hl
      refine lv_iload_n hx hb dX8_isSeedOfAnother_2 rfl (lv_at hl 0 rfl) ?_
      refine lv_aload_n hx hb dX8_isSeedOfAnother_3 rfl (lv_at hl 1 rfl) ?_
      refine vp_callSi (va_Run.run (va_runV (As := []) (rest := [.int (nI k3)]) ⟨hx, hb, hml, hown, hts⟩ (g_people l G rl bk ca f v1 v2 v3 v4 v5) (cwV 0 hts (gdV (List.mem_cons_of_mem _ (List.mem_append_left _ (List.mem_of_getElem? (i := 0) rfl))) (List.mem_cons_of_mem _ (List.mem_append_left _ (List.mem_of_getElem? (i := 1) rfl))) (List.mem_cons_of_mem _ (List.mem_append_left _ (List.mem_of_getElem? (i := 2) rfl))) (List.mem_cons_of_mem _ (List.mem_append_left _ (List.mem_of_getElem? (i := 3) rfl))) (fun w9 h9 => ⟨(List.mem_cons_of_mem _ (List.mem_append_right _ (List.mem_append_left _ h9))), gd_g_people w9 h9⟩)) rfl rfl rfl kVX8_people ⟨Nat.le_of_ble_eq_true rfl, Nat.le_of_ble_eq_true rfl⟩) (preV_p (As := []) (hP.sub (ws' := [(rl, .inr (9, [.ref bk])), (bk, .inr (2, [.ref ca, v1, v2, v3, v4, v5])), (ca, .inl (gI G, 2088, .inl f))]) [0, 1, 2] rfl) hB rfl rfl) rfl rfl hl.1 rfl (lv_room (Nat.le_of_ble_eq_true rfl)) dX8_isSeedOfAnother_4 ⟨Nat.le_of_ble_eq_true rfl, Nat.le_of_ble_eq_true rfl⟩)) (fun r_1 hr_1 => ?_)
      subst hr_1
      refine lv_icmp_ge (tgt := 68) hx hb dX8_isSeedOfAnother_7 (by decide) (fun c_2 => ?_) (fun c_2 => ?_)
      · skip
        refine lv_iconst (v := 0) hx hb dX8_isSeedOfAnother_68 (by decide) ?_
        exact W.zret (v := 0) hx hb hr rfl (fun t ht hW => ⟨_, rfl, Or.inl rfl, ht⟩) (fun q h => absurd h List.not_mem_nil) dX8_isSeedOfAnother_69
      · have hl_k3 := gl_lt (B := rg f 2088 2) hb_k3 c_2
        refine lv_iload_n hx hb dX8_isSeedOfAnother_10 rfl (lv_at hl 3 rfl) ?_
        refine lv_if_le (tgt := 68) hx hb dX8_isSeedOfAnother_11 (by decide) (fun c_3 => ?_) (fun c_3 => ?_)
        · skip
          refine lv_iconst (v := 0) hx hb dX8_isSeedOfAnother_68 (by decide) ?_
          exact W.zret (v := 0) hx hb hr rfl (fun t ht hW => ⟨_, rfl, Or.inl rfl, ht⟩) (fun q h => absurd h List.not_mem_nil) dX8_isSeedOfAnother_69
        · skip
          refine lv_iload_n hx hb dX8_isSeedOfAnother_14 rfl (lv_at hl 0 rfl) ?_
          refine lv_iload_n hx hb dX8_isSeedOfAnother_15 rfl (lv_at hl 2 rfl) ?_
          refine lv_icmp_eq (tgt := 36) hx hb dX8_isSeedOfAnother_16 (by decide) (fun c_4 => ?_) (fun c_4 => ?_)
          · skip
            refine lv_iconst (v := 0) hx hb dX8_isSeedOfAnother_36 (by decide) ?_
            refine lv_istore (lv' := [(4, .int 0), (3, .int (nI k3)), (0, .ref rl), (1, .int x), (2, .int y)]) hx hb dX8_isSeedOfAnother_37 hl (by decide) rfl (fun ls hl => ?_)
            refine lv_iload hx hb dX8_isSeedOfAnother_39 (lv_at hl 0 rfl) ?_
            refine lv_if_eq (tgt := 62) hx hb dX8_isSeedOfAnother_41 (by decide) (fun _ => ?_) (fun c9 => absurd (by decide) c9)
            refine lv_iinc (v := (nI (k3 + 1))) (lv' := [(3, .int (nI (k3 + 1))), (4, .int 0), (0, .ref rl), (1, .int x), (2, .int y)]) hx hb dX8_isSeedOfAnother_62 hl (k := 1) rfl (nI_1 k3) (by decide) rfl (fun ls hl => ?_)
            refine lv_goto (tgt := 2) hx hb dX8_isSeedOfAnother_65 (by decide) ?_
            exact ih2 (k3 + 1) (by omega) (hl_k3) _ (lv_sub hl [0, 2, 3, 4] rfl) 
          · skip
            refine lv_aload_n hx hb dX8_isSeedOfAnother_19 rfl (lv_at hl 1 rfl) ?_
            refine lv_iload_n hx hb dX8_isSeedOfAnother_20 rfl (lv_at hl 0 rfl) ?_
            refine vp_callSi (va_Run.run (va_runV (As := [.int (nI k3)]) (rest := []) ⟨hx, hb, hml, hown, hts⟩ (g_classOf l G rl bk ca f v1 v2 v3 v4 v5 (nI k3)) (cwV 1 hts (gdV (List.mem_cons_of_mem _ (List.mem_append_left _ (List.mem_of_getElem? (i := 4) rfl))) (List.mem_cons_of_mem _ (List.mem_append_left _ (List.mem_of_getElem? (i := 5) rfl))) (List.mem_cons_of_mem _ (List.mem_append_left _ (List.mem_of_getElem? (i := 6) rfl))) (List.mem_cons_of_mem _ (List.mem_append_left _ (List.mem_of_getElem? (i := 3) rfl))) (fun w9 h9 => ⟨(List.mem_cons_of_mem _ (List.mem_append_right _ (List.mem_append_right _ (List.mem_append_left _ h9)))), gd_g_classOf w9 h9⟩)) rfl rfl rfl kVX8_classOf ⟨Nat.le_of_ble_eq_true rfl, Nat.le_of_ble_eq_true rfl⟩) (preV_p (As := [.int (nI k3)]) (hP.sub (ws' := [(rl, .inr (9, [.ref bk])), (bk, .inr (2, [.ref ca, v1, v2, v3, v4, v5])), (ca, .inl (gI G, 2088, .inl f))]) [0, 1, 2] rfl) hB rfl rfl) rfl rfl hl.1 rfl (lv_room (Nat.le_of_ble_eq_true rfl)) dX8_isSeedOfAnother_21 ⟨Nat.le_of_ble_eq_true rfl, Nat.le_of_ble_eq_true rfl⟩)) (fun r_5 hr_5 => ?_)
            clear hr_5
            refine lv_aload_n hx hb dX8_isSeedOfAnother_24 rfl (lv_at hl 1 rfl) ?_
            refine lv_iload_n hx hb dX8_isSeedOfAnother_25 rfl (lv_at hl 2 rfl) ?_
            refine vp_callSi (va_Run.run (va_runV (As := [.int x]) (rest := [.int r_5]) ⟨hx, hb, hml, hown, hts⟩ (g_classOf l G rl bk ca f v1 v2 v3 v4 v5 x) (cwV 1 hts (gdV (List.mem_cons_of_mem _ (List.mem_append_left _ (List.mem_of_getElem? (i := 4) rfl))) (List.mem_cons_of_mem _ (List.mem_append_left _ (List.mem_of_getElem? (i := 5) rfl))) (List.mem_cons_of_mem _ (List.mem_append_left _ (List.mem_of_getElem? (i := 6) rfl))) (List.mem_cons_of_mem _ (List.mem_append_left _ (List.mem_of_getElem? (i := 3) rfl))) (fun w9 h9 => ⟨(List.mem_cons_of_mem _ (List.mem_append_right _ (List.mem_append_right _ (List.mem_append_left _ h9)))), gd_g_classOf w9 h9⟩)) rfl rfl rfl kVX8_classOf ⟨Nat.le_of_ble_eq_true rfl, Nat.le_of_ble_eq_true rfl⟩) (preV_p (As := [.int x]) (hP.sub (ws' := [(rl, .inr (9, [.ref bk])), (bk, .inr (2, [.ref ca, v1, v2, v3, v4, v5])), (ca, .inl (gI G, 2088, .inl f))]) [0, 1, 2] rfl) hB rfl rfl) rfl rfl hl.1 rfl (lv_room (Nat.le_of_ble_eq_true rfl)) dX8_isSeedOfAnother_26 ⟨Nat.le_of_ble_eq_true rfl, Nat.le_of_ble_eq_true rfl⟩)) (fun r_6 hr_6 => ?_)
            clear hr_6
            refine lv_icmp_ne (tgt := 36) hx hb dX8_isSeedOfAnother_29 (by decide) (fun c_7 => ?_) (fun c_7 => ?_)
            · skip
              refine lv_iconst (v := 0) hx hb dX8_isSeedOfAnother_36 (by decide) ?_
              refine lv_istore (lv' := [(4, .int 0), (3, .int (nI k3)), (0, .ref rl), (1, .int x), (2, .int y)]) hx hb dX8_isSeedOfAnother_37 hl (by decide) rfl (fun ls hl => ?_)
              refine lv_iload hx hb dX8_isSeedOfAnother_39 (lv_at hl 0 rfl) ?_
              refine lv_if_eq (tgt := 62) hx hb dX8_isSeedOfAnother_41 (by decide) (fun _ => ?_) (fun c9 => absurd (by decide) c9)
              refine lv_iinc (v := (nI (k3 + 1))) (lv' := [(3, .int (nI (k3 + 1))), (4, .int 0), (0, .ref rl), (1, .int x), (2, .int y)]) hx hb dX8_isSeedOfAnother_62 hl (k := 1) rfl (nI_1 k3) (by decide) rfl (fun ls hl => ?_)
              refine lv_goto (tgt := 2) hx hb dX8_isSeedOfAnother_65 (by decide) ?_
              exact ih2 (k3 + 1) (by omega) (hl_k3) _ (lv_sub hl [0, 2, 3, 4] rfl) 
            · skip
              refine lv_iconst (v := 1) hx hb dX8_isSeedOfAnother_32 (by decide) ?_
              refine lv_goto (tgt := 37) hx hb dX8_isSeedOfAnother_33 (by decide) ?_
              refine lv_istore (lv' := [(4, .int 1), (3, .int (nI k3)), (0, .ref rl), (1, .int x), (2, .int y)]) hx hb dX8_isSeedOfAnother_37 hl (by decide) rfl (fun ls hl => ?_)
              refine lv_iload hx hb dX8_isSeedOfAnother_39 (lv_at hl 0 rfl) ?_
              refine lv_if_eq (tgt := 62) hx hb dX8_isSeedOfAnother_41 (by decide) (fun c9 => absurd c9 (by decide)) (fun _ => ?_)
              refine lv_aload_n hx hb dX8_isSeedOfAnother_44 rfl (lv_at hl 2 rfl) ?_
              refine va_get (D := gD G) (ci := 9) (v := .ref bk) (C := RX8) (T := TX8) (N := 1) hx hb hts (fun _ h9 => (List.mem_cons_of_mem _ (List.mem_append_right _ (List.mem_append_right _ (List.mem_append_right _ (List.mem_append_left _ h9)))))) hown hK hP 0 rfl rfl 0 (by decide) (hts (.fieldLink RX8 9 "JudoHall$Roll" "book" "LJudoHall$Book;") (List.mem_cons_of_mem _ (List.mem_append_left _ (List.mem_of_getElem? (i := 7) rfl)))) (fun _ h9 => h9) rfl dX8_isSeedOfAnother_45 ?_
              refine lv_iload_n hx hb dX8_isSeedOfAnother_48 rfl (lv_at hl 1 rfl) ?_
              refine lv_iconst (v := 4) hx hb dX8_isSeedOfAnother_49 (by decide) ?_
              refine vp_callSi (va_Run.run (va_runS (As := [.int (nI k3), .int 4]) (rest := [.ref bk]) ⟨hx, hb, hml, hown, hts⟩ (c_Book_ofFighter l G (nI k3) 4) (va_cwS 2 hts (gdS (List.mem_cons_of_mem _ (List.mem_append_left _ (List.mem_of_getElem? (i := 8) rfl))) (List.mem_cons_of_mem _ (List.mem_append_left _ (List.mem_of_getElem? (i := 9) rfl))) (List.mem_cons_of_mem _ (List.mem_append_left _ (List.mem_of_getElem? (i := 10) rfl))) (fun w9 h9 => ⟨(List.mem_cons_of_mem _ (List.mem_append_right _ (List.mem_append_right _ (List.mem_append_right _ (List.mem_append_right _ (List.mem_append_left _ h9)))))), gd_c_Book_ofFighter w9 h9⟩)) rfl rfl rfl kSX1_ofFighter ⟨Nat.le_of_ble_eq_true rfl, Nat.le_of_ble_eq_true rfl⟩) (preS_p (As := [.int (nI k3), .int 4]) (hP.sub (ws' := []) [] rfl) hB) rfl rfl hl.1 rfl (lv_room (Nat.le_of_ble_eq_true rfl)) dX8_isSeedOfAnother_50 ⟨Nat.le_of_ble_eq_true rfl, Nat.le_of_ble_eq_true rfl⟩)) (fun r_8 hr_8 => ?_)
              subst hr_8
              refine vp_callSi (va_Run.run (va_runV (As := [.int (148 + (nI k3) * 7 + 4)]) (rest := []) ⟨hx, hb, hml, hown, hts⟩ (c_Book_at l G bk ca 2088 f v1 v2 v3 v4 v5 (148 + (nI k3) * 7 + 4) (by decide)) (cwV 1 hts (gdV (List.mem_cons_of_mem _ (List.mem_append_left _ (List.mem_of_getElem? (i := 11) rfl))) (List.mem_cons_of_mem _ (List.mem_append_left _ (List.mem_of_getElem? (i := 12) rfl))) (List.mem_cons_of_mem _ (List.mem_append_left _ (List.mem_of_getElem? (i := 13) rfl))) (List.mem_cons_of_mem _ (List.mem_append_left _ (List.mem_of_getElem? (i := 10) rfl))) (fun w9 h9 => ⟨(List.mem_cons_of_mem _ (List.mem_append_right _ (List.mem_append_right _ (List.mem_append_right _ (List.mem_append_right _ (List.mem_append_right _ (List.mem_append_left _ h9))))))), gd_c_Book_at w9 h9⟩)) rfl rfl rfl kVX1_at ⟨Nat.le_of_ble_eq_true rfl, Nat.le_of_ble_eq_true rfl⟩) (preV_p (As := [.int (148 + (nI k3) * 7 + 4)]) (hP.sub (ws' := [(bk, .inr (2, [.ref ca, v1, v2, v3, v4, v5])), (ca, .inl (gI G, 2088, .inl f))]) [1, 2] rfl) hB rfl rfl) rfl rfl hl.1 rfl (lv_room (Nat.le_of_ble_eq_true rfl)) dX8_isSeedOfAnother_53 ⟨Nat.le_of_ble_eq_true rfl, Nat.le_of_ble_eq_true rfl⟩)) (fun r_9 hr_9 => ?_)
              subst hr_9
              refine lv_iload_n hx hb dX8_isSeedOfAnother_56 rfl (lv_at hl 4 rfl) ?_
              refine lv_icmp_ne (tgt := 62) hx hb dX8_isSeedOfAnother_57 (by decide) (fun c_10 => ?_) (fun c_10 => ?_)
              · skip
                refine lv_iinc (v := (nI (k3 + 1))) (lv' := [(3, .int (nI (k3 + 1))), (4, .int 1), (0, .ref rl), (1, .int x), (2, .int y)]) hx hb dX8_isSeedOfAnother_62 hl (k := 1) rfl (nI_1 k3) (by decide) rfl (fun ls hl => ?_)
                refine lv_goto (tgt := 2) hx hb dX8_isSeedOfAnother_65 (by decide) ?_
                exact ih2 (k3 + 1) (by omega) (hl_k3) _ (lv_sub hl [0, 2, 3, 4] rfl) 
              · skip
                refine lv_iconst (v := 1) hx hb dX8_isSeedOfAnother_60 (by decide) ?_
                exact W.zret (v := 1) hx hb hr rfl (fun t ht hW => ⟨_, rfl, Or.inr rfl, ht⟩) (fun q h => absurd h List.not_mem_nil) dX8_isSeedOfAnother_61
  exact hloop2 (((rg f 2088 2).toNatClampNeg - 0) + 1) 0 (Nat.lt_succ_self _) (Nat.zero_le _) _ (lv_sub hl [0, 1, 2, 3] rfl)

def wo_g_fightersOf : List Cond := [.methodLink RX8 21 yX8_people, .instanceMethod yX8_people, .selects RX8 yX8_people yX8_people, .initialized RX8, .methodLink RX8 33 yX8_classOf, .instanceMethod yX8_classOf, .selects RX8 yX8_classOf yX8_classOf]
def wq_g_fightersOf : List Cond := .code yX8_fightersOf cX8_fightersOf 4 (some .int) :: (wo_g_fightersOf ++ (wq_g_people ++ (wq_g_classOf ++ [])))
theorem gd_g_fightersOf : ∀ w ∈ wq_g_fightersOf, Gd w := List.forall_mem_cons.mpr ⟨Or.inl rfl, List.forall_mem_append.mpr ⟨gdl wo_g_fightersOf (by decide +kernel), (List.forall_mem_append.mpr ⟨gd_g_people, (List.forall_mem_append.mpr ⟨gd_g_classOf, (fun _ h => absurd h List.not_mem_nil)⟩)⟩)⟩⟩
theorem in_g_fightersOf : ∀ w ∈ wq_g_fightersOf, w ∈ lw_tbl := List.forall_mem_cons.mpr ⟨List.mem_of_getElem? (i := 1194) (by decide +kernel), List.forall_mem_append.mpr ⟨inT wo_g_fightersOf [1000, 1001, 1002, 162, 1005, 1006, 1007] (by decide +kernel), (List.forall_mem_append.mpr ⟨in_g_people, (List.forall_mem_append.mpr ⟨in_g_classOf, (fun _ h => absurd h List.not_mem_nil)⟩)⟩)⟩⟩
set_option maxHeartbeats 4000000 in
set_option maxRecDepth 100000 in
theorem g_fightersOf (l : Launch) (G : gG) (rl : Nat) (bk : Nat) (ca : Nat) (f : Nat → Int32) (v1 : Value) (v2 : Value) (v3 : Value) (v4 : Value) (v5 : Value) (x : Int32) : Met l yX8_fightersOf wq_g_fightersOf ({ frames := 2, cells := 0, slots := 0, locals := 42 }) (va_Pc [.ref rl, .int x] (pP G [(rl, .inr (9, [.ref bk])), (bk, .inr (2, [.ref ca, v1, v2, v3, v4, v5])), (ca, .inl (gI G, 2088, .inl f))])) (vp_Si (fun r : Int32 => True)) 0 0 (fun _ => False) := by
  refine Met.ofW (cc := cX8_fightersOf) (maxL := 4) (ret := (some .int)) (by decide) rfl ?_
  intro p e s m args below meth c s₁ B hml hv
  obtain ⟨rfl, hP, hB⟩ := hv
  have hx := B.exec
  have hb := B.bytes
  have hr := B.returns
  have hts := atoms_spec (ws := wq_g_fightersOf) B.pre
  have hown : s.vm.findClass RX8 = some m.cls := findClass_of_methodNamed B.named
  have hlocks := B.notSynchronized
  have hK := hB.1
  have hP : va_P (gD G) vwCl [(rl, .inr (9, [.ref bk])), (bk, .inr (2, [.ref ca, v1, v2, v3, v4, v5])), (ca, .inl (gI G, 2088, .inl f))] s.heap := hP
  have hl := lv_entry ([.ref rl, .int x]) (n := 4) (Nat.le_of_ble_eq_true rfl)
  rw [lg_entry_eq]
  generalize (lg_sl ([.ref rl, .int x]) ++ List.replicate (4 - (lg_sl ([.ref rl, .int x])).length) Slot.unset).toArray = ls at hl ⊢
  have hl : lv_has ls 4 [(0, .ref rl), (1, .int x)] := hl
  refine lv_iconst (v := 0) hx hb dX8_fightersOf_0 (by decide) ?_
  refine lv_istore_n (lv' := [(2, .int 0), (0, .ref rl), (1, .int x)]) hx hb dX8_fightersOf_1 rfl hl (by decide) rfl (fun ls hl => ?_)
  refine lv_iconst (v := 0) hx hb dX8_fightersOf_2 (by decide) ?_
  refine lv_istore_n (lv' := [(3, .int 0), (2, .int 0), (0, .ref rl), (1, .int x)]) hx hb dX8_fightersOf_3 rfl hl (by decide) rfl (fun ls hl => ?_)
  have hloop4 : ∀ (k9 : Nat) (k3 : Nat) (z2 : Int32), (rg f 2088 2).toNatClampNeg - k3 < k9 → (k3 ≤ (rg f 2088 2).toNatClampNeg) → ∀ (ls : Array Slot), lv_has ls 4 [(3, .int (nI k3)), (2, .int z2), (0, .ref rl), (1, .int x)] → W p l e (headSpec wq_g_fightersOf ({ frames := 2, cells := 0, slots := 0, locals := 42 })).room s m [.ref rl, .int x].toArray below meth c s.heap [] 0 0 (MQ below (vp_Si (fun r : Int32 => True)) [.ref rl, .int x].toArray s 0 0 (fun _ => False)) (F0 m 4 ls []) := by
    intro k9
    induction k9 with
    | zero => intro k3 z2 h9; exact absurd h9 (Nat.not_lt_zero _)
    | succ k9 ih4 =>
      intro k3 z2 hm4 hb_k3 ls hl
      refine lv_iload_n hx hb dX8_fightersOf_4 rfl (lv_at hl 0 rfl) ?_
      refine lv_aload_n hx hb dX8_fightersOf_5 rfl (lv_at hl 2 rfl) ?_
      refine vp_callSi (va_Run.run (va_runV (As := []) (rest := [.int (nI k3)]) ⟨hx, hb, hml, hown, hts⟩ (g_people l G rl bk ca f v1 v2 v3 v4 v5) (cwV 0 hts (gdV (List.mem_cons_of_mem _ (List.mem_append_left _ (List.mem_of_getElem? (i := 0) rfl))) (List.mem_cons_of_mem _ (List.mem_append_left _ (List.mem_of_getElem? (i := 1) rfl))) (List.mem_cons_of_mem _ (List.mem_append_left _ (List.mem_of_getElem? (i := 2) rfl))) (List.mem_cons_of_mem _ (List.mem_append_left _ (List.mem_of_getElem? (i := 3) rfl))) (fun w9 h9 => ⟨(List.mem_cons_of_mem _ (List.mem_append_right _ (List.mem_append_left _ h9))), gd_g_people w9 h9⟩)) rfl rfl rfl kVX8_people ⟨Nat.le_of_ble_eq_true rfl, Nat.le_of_ble_eq_true rfl⟩) (preV_p (As := []) (hP.sub (ws' := [(rl, .inr (9, [.ref bk])), (bk, .inr (2, [.ref ca, v1, v2, v3, v4, v5])), (ca, .inl (gI G, 2088, .inl f))]) [0, 1, 2] rfl) hB rfl rfl) rfl rfl hl.1 rfl (lv_room (Nat.le_of_ble_eq_true rfl)) dX8_fightersOf_6 ⟨Nat.le_of_ble_eq_true rfl, Nat.le_of_ble_eq_true rfl⟩)) (fun r_1 hr_1 => ?_)
      subst hr_1
      refine lv_icmp_ge (tgt := 35) hx hb dX8_fightersOf_9 (by decide) (fun c_2 => ?_) (fun c_2 => ?_)
      · skip
        refine lv_iload_n hx hb dX8_fightersOf_35 rfl (lv_at hl 1 rfl) ?_
        exact W.iret (v := z2) hx hb hr (fun t ht hW => ⟨_, rfl, trivial, ht⟩) (fun q h => absurd h List.not_mem_nil) dX8_fightersOf_36
      · have hl_k3 := gl_lt (B := rg f 2088 2) hb_k3 c_2
        refine lv_iload_n hx hb dX8_fightersOf_12 rfl (lv_at hl 1 rfl) ?_
        refine lv_aload_n hx hb dX8_fightersOf_13 rfl (lv_at hl 2 rfl) ?_
        refine lv_iload_n hx hb dX8_fightersOf_14 rfl (lv_at hl 0 rfl) ?_
        refine vp_callSi (va_Run.run (va_runV (As := [.int (nI k3)]) (rest := [.int z2]) ⟨hx, hb, hml, hown, hts⟩ (g_classOf l G rl bk ca f v1 v2 v3 v4 v5 (nI k3)) (cwV 1 hts (gdV (List.mem_cons_of_mem _ (List.mem_append_left _ (List.mem_of_getElem? (i := 4) rfl))) (List.mem_cons_of_mem _ (List.mem_append_left _ (List.mem_of_getElem? (i := 5) rfl))) (List.mem_cons_of_mem _ (List.mem_append_left _ (List.mem_of_getElem? (i := 6) rfl))) (List.mem_cons_of_mem _ (List.mem_append_left _ (List.mem_of_getElem? (i := 3) rfl))) (fun w9 h9 => ⟨(List.mem_cons_of_mem _ (List.mem_append_right _ (List.mem_append_right _ (List.mem_append_left _ h9)))), gd_g_classOf w9 h9⟩)) rfl rfl rfl kVX8_classOf ⟨Nat.le_of_ble_eq_true rfl, Nat.le_of_ble_eq_true rfl⟩) (preV_p (As := [.int (nI k3)]) (hP.sub (ws' := [(rl, .inr (9, [.ref bk])), (bk, .inr (2, [.ref ca, v1, v2, v3, v4, v5])), (ca, .inl (gI G, 2088, .inl f))]) [0, 1, 2] rfl) hB rfl rfl) rfl rfl hl.1 rfl (lv_room (Nat.le_of_ble_eq_true rfl)) dX8_fightersOf_15 ⟨Nat.le_of_ble_eq_true rfl, Nat.le_of_ble_eq_true rfl⟩)) (fun r_3 hr_3 => ?_)
        clear hr_3
        refine lv_iload_n hx hb dX8_fightersOf_18 rfl (lv_at hl 3 rfl) ?_
        refine lv_icmp_ne (tgt := 26) hx hb dX8_fightersOf_19 (by decide) (fun c_4 => ?_) (fun c_4 => ?_)
        · skip
          refine lv_iconst (v := 0) hx hb dX8_fightersOf_26 (by decide) ?_
          refine lv_iadd hx hb dX8_fightersOf_27 ?_
          refine lv_istore_n (lv' := [(2, .int (z2 + 0)), (3, .int (nI k3)), (0, .ref rl), (1, .int x)]) hx hb dX8_fightersOf_28 rfl hl (by decide) rfl (fun ls hl => ?_)
          refine lv_iinc (v := (nI (k3 + 1))) (lv' := [(3, .int (nI (k3 + 1))), (2, .int (z2 + 0)), (0, .ref rl), (1, .int x)]) hx hb dX8_fightersOf_29 hl (k := 1) rfl (nI_1 k3) (by decide) rfl (fun ls hl => ?_)
          refine lv_goto (tgt := 4) hx hb dX8_fightersOf_32 (by decide) ?_
          exact ih4 (k3 + 1) (z2 + 0) (by omega) (hl_k3) _ (lv_sub hl [0, 1, 2, 3] rfl) 
        · skip
          refine lv_iconst (v := 1) hx hb dX8_fightersOf_22 (by decide) ?_
          refine lv_goto (tgt := 27) hx hb dX8_fightersOf_23 (by decide) ?_
          refine lv_iadd hx hb dX8_fightersOf_27 ?_
          refine lv_istore_n (lv' := [(2, .int (z2 + 1)), (3, .int (nI k3)), (0, .ref rl), (1, .int x)]) hx hb dX8_fightersOf_28 rfl hl (by decide) rfl (fun ls hl => ?_)
          refine lv_iinc (v := (nI (k3 + 1))) (lv' := [(3, .int (nI (k3 + 1))), (2, .int (z2 + 1)), (0, .ref rl), (1, .int x)]) hx hb dX8_fightersOf_29 hl (k := 1) rfl (nI_1 k3) (by decide) rfl (fun ls hl => ?_)
          refine lv_goto (tgt := 4) hx hb dX8_fightersOf_32 (by decide) ?_
          exact ih4 (k3 + 1) (z2 + 1) (by omega) (hl_k3) _ (lv_sub hl [0, 1, 2, 3] rfl) 
  exact hloop4 (((rg f 2088 2).toNatClampNeg - 0) + 1) 0 0 (Nat.lt_succ_self _) (Nat.zero_le _) _ (lv_sub hl [0, 1, 2, 3] rfl)

def wo_g_weighedOf : List Cond := [.methodLink RX8 21 yX8_people, .instanceMethod yX8_people, .selects RX8 yX8_people yX8_people, .initialized RX8, .fieldLink RX8 9 "JudoHall$Roll" "book" "LJudoHall$Book;", .methodLink RX8 39 yX8_isWeighed, .static yX8_isWeighed]
def wq_g_weighedOf : List Cond := .code yX8_weighedOf cX8_weighedOf 4 (some .int) :: (wo_g_weighedOf ++ (wq_g_people ++ (wsX80 ++ (wq_g_isWeighed ++ []))))
theorem gd_g_weighedOf : ∀ w ∈ wq_g_weighedOf, Gd w := List.forall_mem_cons.mpr ⟨Or.inl rfl, List.forall_mem_append.mpr ⟨gdl wo_g_weighedOf (by decide +kernel), (List.forall_mem_append.mpr ⟨gd_g_people, (List.forall_mem_append.mpr ⟨gd_wsX80, (List.forall_mem_append.mpr ⟨gd_g_isWeighed, (fun _ h => absurd h List.not_mem_nil)⟩)⟩)⟩)⟩⟩
theorem in_g_weighedOf : ∀ w ∈ wq_g_weighedOf, w ∈ lw_tbl := List.forall_mem_cons.mpr ⟨List.mem_of_getElem? (i := 1053) (by decide +kernel), List.forall_mem_append.mpr ⟨inT wo_g_weighedOf [1000, 1001, 1002, 162, 385, 1054, 1055] (by decide +kernel), (List.forall_mem_append.mpr ⟨in_g_people, (List.forall_mem_append.mpr ⟨in_wsX80, (List.forall_mem_append.mpr ⟨in_g_isWeighed, (fun _ h => absurd h List.not_mem_nil)⟩)⟩)⟩)⟩⟩
set_option maxHeartbeats 4000000 in
set_option maxRecDepth 100000 in
theorem g_weighedOf (l : Launch) (G : gG) (rl : Nat) (bk : Nat) (ca : Nat) (f : Nat → Int32) (v1 : Value) (v2 : Value) (v3 : Value) (v4 : Value) (v5 : Value) (x : Int32) : Met l yX8_weighedOf wq_g_weighedOf ({ frames := 2, cells := 0, slots := 0, locals := 43 }) (va_Pc [.ref rl, .int x] (pP G [(rl, .inr (9, [.ref bk])), (bk, .inr (2, [.ref ca, v1, v2, v3, v4, v5])), (ca, .inl (gI G, 2088, .inl f))])) (vp_Si (fun r : Int32 => True)) 0 0 (fun _ => False) := by
  refine Met.ofW (cc := cX8_weighedOf) (maxL := 4) (ret := (some .int)) (by decide) rfl ?_
  intro p e s m args below meth c s₁ B hml hv
  obtain ⟨rfl, hP, hB⟩ := hv
  have hx := B.exec
  have hb := B.bytes
  have hr := B.returns
  have hts := atoms_spec (ws := wq_g_weighedOf) B.pre
  have hown : s.vm.findClass RX8 = some m.cls := findClass_of_methodNamed B.named
  have hlocks := B.notSynchronized
  have hK := hB.1
  have hP : va_P (gD G) vwCl [(rl, .inr (9, [.ref bk])), (bk, .inr (2, [.ref ca, v1, v2, v3, v4, v5])), (ca, .inl (gI G, 2088, .inl f))] s.heap := hP
  have hl := lv_entry ([.ref rl, .int x]) (n := 4) (Nat.le_of_ble_eq_true rfl)
  rw [lg_entry_eq]
  generalize (lg_sl ([.ref rl, .int x]) ++ List.replicate (4 - (lg_sl ([.ref rl, .int x])).length) Slot.unset).toArray = ls at hl ⊢
  have hl : lv_has ls 4 [(0, .ref rl), (1, .int x)] := hl
  refine lv_iconst (v := 0) hx hb dX8_weighedOf_0 (by decide) ?_
  refine lv_istore_n (lv' := [(2, .int 0), (0, .ref rl), (1, .int x)]) hx hb dX8_weighedOf_1 rfl hl (by decide) rfl (fun ls hl => ?_)
  refine lv_iconst (v := 0) hx hb dX8_weighedOf_2 (by decide) ?_
  refine lv_istore_n (lv' := [(3, .int 0), (2, .int 0), (0, .ref rl), (1, .int x)]) hx hb dX8_weighedOf_3 rfl hl (by decide) rfl (fun ls hl => ?_)
  have hloop4 : ∀ (k9 : Nat) (k3 : Nat) (z2 : Int32), (rg f 2088 2).toNatClampNeg - k3 < k9 → (k3 ≤ (rg f 2088 2).toNatClampNeg) → ∀ (ls : Array Slot), lv_has ls 4 [(3, .int (nI k3)), (2, .int z2), (0, .ref rl), (1, .int x)] → W p l e (headSpec wq_g_weighedOf ({ frames := 2, cells := 0, slots := 0, locals := 43 })).room s m [.ref rl, .int x].toArray below meth c s.heap [] 0 0 (MQ below (vp_Si (fun r : Int32 => True)) [.ref rl, .int x].toArray s 0 0 (fun _ => False)) (F0 m 4 ls []) := by
    intro k9
    induction k9 with
    | zero => intro k3 z2 h9; exact absurd h9 (Nat.not_lt_zero _)
    | succ k9 ih4 =>
      intro k3 z2 hm4 hb_k3 ls hl
      refine lv_iload_n hx hb dX8_weighedOf_4 rfl (lv_at hl 0 rfl) ?_
      refine lv_aload_n hx hb dX8_weighedOf_5 rfl (lv_at hl 2 rfl) ?_
      refine vp_callSi (va_Run.run (va_runV (As := []) (rest := [.int (nI k3)]) ⟨hx, hb, hml, hown, hts⟩ (g_people l G rl bk ca f v1 v2 v3 v4 v5) (cwV 0 hts (gdV (List.mem_cons_of_mem _ (List.mem_append_left _ (List.mem_of_getElem? (i := 0) rfl))) (List.mem_cons_of_mem _ (List.mem_append_left _ (List.mem_of_getElem? (i := 1) rfl))) (List.mem_cons_of_mem _ (List.mem_append_left _ (List.mem_of_getElem? (i := 2) rfl))) (List.mem_cons_of_mem _ (List.mem_append_left _ (List.mem_of_getElem? (i := 3) rfl))) (fun w9 h9 => ⟨(List.mem_cons_of_mem _ (List.mem_append_right _ (List.mem_append_left _ h9))), gd_g_people w9 h9⟩)) rfl rfl rfl kVX8_people ⟨Nat.le_of_ble_eq_true rfl, Nat.le_of_ble_eq_true rfl⟩) (preV_p (As := []) (hP.sub (ws' := [(rl, .inr (9, [.ref bk])), (bk, .inr (2, [.ref ca, v1, v2, v3, v4, v5])), (ca, .inl (gI G, 2088, .inl f))]) [0, 1, 2] rfl) hB rfl rfl) rfl rfl hl.1 rfl (lv_room (Nat.le_of_ble_eq_true rfl)) dX8_weighedOf_6 ⟨Nat.le_of_ble_eq_true rfl, Nat.le_of_ble_eq_true rfl⟩)) (fun r_1 hr_1 => ?_)
      subst hr_1
      refine lv_icmp_ge (tgt := 38) hx hb dX8_weighedOf_9 (by decide) (fun c_2 => ?_) (fun c_2 => ?_)
      · skip
        refine lv_iload_n hx hb dX8_weighedOf_38 rfl (lv_at hl 1 rfl) ?_
        exact W.iret (v := z2) hx hb hr (fun t ht hW => ⟨_, rfl, trivial, ht⟩) (fun q h => absurd h List.not_mem_nil) dX8_weighedOf_39
      · have hl_k3 := gl_lt (B := rg f 2088 2) hb_k3 c_2
        refine lv_iload_n hx hb dX8_weighedOf_12 rfl (lv_at hl 1 rfl) ?_
        refine lv_aload_n hx hb dX8_weighedOf_13 rfl (lv_at hl 2 rfl) ?_
        refine va_get (D := gD G) (ci := 9) (v := .ref bk) (C := RX8) (T := TX8) (N := 1) hx hb hts (fun _ h9 => (List.mem_cons_of_mem _ (List.mem_append_right _ (List.mem_append_right _ (List.mem_append_left _ h9))))) hown hK hP 0 rfl rfl 0 (by decide) (hts (.fieldLink RX8 9 "JudoHall$Roll" "book" "LJudoHall$Book;") (List.mem_cons_of_mem _ (List.mem_append_left _ (List.mem_of_getElem? (i := 4) rfl)))) (fun _ h9 => h9) rfl dX8_weighedOf_14 ?_
        refine lv_iload_n hx hb dX8_weighedOf_17 rfl (lv_at hl 0 rfl) ?_
        refine lv_iload_n hx hb dX8_weighedOf_18 rfl (lv_at hl 3 rfl) ?_
        refine vp_callSi (va_Run.run (va_runS (As := [.ref bk, .int (nI k3), .int x]) (rest := [.int z2]) ⟨hx, hb, hml, hown, hts⟩ (g_isWeighed l G bk ca f v1 v2 v3 v4 v5 (nI k3) x) (va_cwS 3 hts (gdS (List.mem_cons_of_mem _ (List.mem_append_left _ (List.mem_of_getElem? (i := 5) rfl))) (List.mem_cons_of_mem _ (List.mem_append_left _ (List.mem_of_getElem? (i := 6) rfl))) (List.mem_cons_of_mem _ (List.mem_append_left _ (List.mem_of_getElem? (i := 3) rfl))) (fun w9 h9 => ⟨(List.mem_cons_of_mem _ (List.mem_append_right _ (List.mem_append_right _ (List.mem_append_right _ (List.mem_append_left _ h9))))), gd_g_isWeighed w9 h9⟩)) rfl rfl rfl kSX8_isWeighed ⟨Nat.le_of_ble_eq_true rfl, Nat.le_of_ble_eq_true rfl⟩) (preS_p (As := [.ref bk, .int (nI k3), .int x]) (hP.sub (ws' := [(bk, .inr (2, [.ref ca, v1, v2, v3, v4, v5])), (ca, .inl (gI G, 2088, .inl f))]) [1, 2] rfl) hB) rfl rfl hl.1 rfl (lv_room (Nat.le_of_ble_eq_true rfl)) dX8_weighedOf_19 ⟨Nat.le_of_ble_eq_true rfl, Nat.le_of_ble_eq_true rfl⟩)) (fun r_3 hr_3 => ?_)
        have hr_3 : r_3 = 0 ∨ r_3 = 1 := hr_3
        refine lv_if_eq (tgt := 29) hx hb dX8_weighedOf_22 (by decide) (fun c_4 => ?_) (fun c_4 => ?_)
        · skip
          refine lv_iconst (v := 0) hx hb dX8_weighedOf_29 (by decide) ?_
          refine lv_iadd hx hb dX8_weighedOf_30 ?_
          refine lv_istore_n (lv' := [(2, .int (z2 + 0)), (3, .int (nI k3)), (0, .ref rl), (1, .int x)]) hx hb dX8_weighedOf_31 rfl hl (by decide) rfl (fun ls hl => ?_)
          refine lv_iinc (v := (nI (k3 + 1))) (lv' := [(3, .int (nI (k3 + 1))), (2, .int (z2 + 0)), (0, .ref rl), (1, .int x)]) hx hb dX8_weighedOf_32 hl (k := 1) rfl (nI_1 k3) (by decide) rfl (fun ls hl => ?_)
          refine lv_goto (tgt := 4) hx hb dX8_weighedOf_35 (by decide) ?_
          exact ih4 (k3 + 1) (z2 + 0) (by omega) (hl_k3) _ (lv_sub hl [0, 1, 2, 3] rfl) 
        · skip
          refine lv_iconst (v := 1) hx hb dX8_weighedOf_25 (by decide) ?_
          refine lv_goto (tgt := 30) hx hb dX8_weighedOf_26 (by decide) ?_
          refine lv_iadd hx hb dX8_weighedOf_30 ?_
          refine lv_istore_n (lv' := [(2, .int (z2 + 1)), (3, .int (nI k3)), (0, .ref rl), (1, .int x)]) hx hb dX8_weighedOf_31 rfl hl (by decide) rfl (fun ls hl => ?_)
          refine lv_iinc (v := (nI (k3 + 1))) (lv' := [(3, .int (nI (k3 + 1))), (2, .int (z2 + 1)), (0, .ref rl), (1, .int x)]) hx hb dX8_weighedOf_32 hl (k := 1) rfl (nI_1 k3) (by decide) rfl (fun ls hl => ?_)
          refine lv_goto (tgt := 4) hx hb dX8_weighedOf_35 (by decide) ?_
          exact ih4 (k3 + 1) (z2 + 1) (by omega) (hl_k3) _ (lv_sub hl [0, 1, 2, 3] rfl) 
  exact hloop4 (((rg f 2088 2).toNatClampNeg - 0) + 1) 0 0 (Nat.lt_succ_self _) (Nat.zero_le _) _ (lv_sub hl [0, 1, 2, 3] rfl)
