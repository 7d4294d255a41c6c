def wo_m_limit : List Cond := [.methodLink RX13 214 yX13_isClass, .static yX13_isClass, .initialized RX13, .constantLong RX13 472 (200000), .methodLink RX13 203 yX13_in, .static yX13_in, .fieldLink RX13 37 "JudoHallModel" "drawn" "[I", .fieldLink RX13 176 "JudoHallModel" "fighters" "I", .methodLink RX13 466 yX13_act, .instanceMethod yX13_act, .selects RX13 yX13_act yX13_act]
def wq_m_limit : List Cond := .code yX13_limit cX13_limit 6 (some .int) :: (wo_m_limit ++ (wq_c_m_isClass ++ (wq_c_in_0_200000 ++ (wq_c_in_y_200000 ++ (wsX130 ++ (wq_c_m_act1 ++ []))))))
theorem gd_m_limit : ∀ w ∈ wq_m_limit, Gd w := List.forall_mem_cons.mpr ⟨Or.inl rfl, List.forall_mem_append.mpr ⟨gdl wo_m_limit (by decide +kernel), (List.forall_mem_append.mpr ⟨gd_c_m_isClass, (List.forall_mem_append.mpr ⟨gd_c_in_0_200000, (List.forall_mem_append.mpr ⟨gd_c_in_y_200000, (List.forall_mem_append.mpr ⟨gd_wsX130, (List.forall_mem_append.mpr ⟨gd_c_m_act1, (fun _ h => absurd h List.not_mem_nil)⟩)⟩)⟩)⟩)⟩)⟩⟩
theorem in_m_limit : ∀ w ∈ wq_m_limit, w ∈ lw_tbl := List.forall_mem_cons.mpr ⟨List.mem_of_getElem? (i := 2173) (by decide +kernel), List.forall_mem_append.mpr ⟨inT wo_m_limit [2174, 2175, 171, 2178, 2023, 2024, 1630, 1620, 2150, 2152, 136] (by decide +kernel), (List.forall_mem_append.mpr ⟨in_c_m_isClass, (List.forall_mem_append.mpr ⟨in_c_in_0_200000, (List.forall_mem_append.mpr ⟨in_c_in_y_200000, (List.forall_mem_append.mpr ⟨in_wsX130, (List.forall_mem_append.mpr ⟨in_c_m_act1, (fun _ h => absurd h List.not_mem_nil)⟩)⟩)⟩)⟩)⟩)⟩⟩
set_option maxHeartbeats 4000000 in
set_option maxRecDepth 100000 in
theorem m_limit (l : Launch) (G : gG) (mo : Nat) (Q : Nat → Nat) (f52 : Nat → Int32) (f0 : Nat → Int32) (f1 : Nat → Int32) (x : Int32) (y : Int32) (z : Int32) (sz : Nat) : Met l yX13_limit wq_m_limit ({ frames := 2, cells := 0, slots := 0, locals := 50 }) (va_Pc [.ref mo, .int x, .int y, .int z] (mP G [(mo, .inr (14, [.ref (Q 0), .ref (Q 1), .int 0, .int 0, .int 10, .ref (Q 5), .ref (Q 6), .ref (Q 7), .ref (Q 8), .ref (Q 9), .ref (Q 10), .ref (Q 11), .ref (Q 12), .ref (Q 13), .ref (Q 14), .ref (Q 15), .ref (Q 16), .ref (Q 17), .ref (Q 18), .ref (Q 19), .ref (Q 20), .ref (Q 21), .ref (Q 22), .ref (Q 23), .ref (Q 24), .ref (Q 25), .ref (Q 26), .int 0, .int 0, .int 0, .int 0, .int 0, .ref (Q 32), .ref (Q 33), .ref (Q 34), .ref (Q 35), .ref (Q 36), .ref (Q 37), .ref (Q 38), .ref (Q 39), .ref (Q 40), .ref (Q 40), .int 0, .int 0, .int 0, .int 0, .int 0, .int 0, .int 0, .int 0, .int (-1), .int 0, .ref (Q 52), .int 0, .ref (Q 54), .int 0, .ref (Q 56), .ref (Q 57), .ref (Q 58), .ref (Q 59), .ref (Q 60), .ref (Q 61), .ref (Q 62), .ref (Q 63), .ref (Q 64), .ref (Q 65), .ref (Q 66), .ref (Q 67), .ref (Q 68), .int 0, .ref (Q 70), .ref (Q 71)])), (Q 12, .inl (gI G, 4, .inl moDr)), (Q 52, .inl (gI G, 2000, .inl f52)), (Q 0, .inl (gI G, 4, .inl f0)), (Q 1, .inl (gI G, 4, .inl f1))] sz)) (va_Qi (fun (r : Int32) (_ : Unit) => r = if x < 0 ∨ 4 ≤ x ∨ y < 0 ∨ 200000 < y ∨ z < 0 ∨ 200000 < z ∨ z < y then (-2) else 1) (fun (_ : Unit) (t : State) => va_P (gD G) vwCl [] t.heap ∧ va_D (va_A [(mo, .inr (14, [.ref (Q 0), .ref (Q 1), .int 0, .int 0, .int 10, .ref (Q 5), .ref (Q 6), .ref (Q 7), .ref (Q 8), .ref (Q 9), .ref (Q 10), .ref (Q 11), .ref (Q 12), .ref (Q 13), .ref (Q 14), .ref (Q 15), .ref (Q 16), .ref (Q 17), .ref (Q 18), .ref (Q 19), .ref (Q 20), .ref (Q 21), .ref (Q 22), .ref (Q 23), .ref (Q 24), .ref (Q 25), .ref (Q 26), .int 0, .int 0, .int 0, .int 0, .int 0, .ref (Q 32), .ref (Q 33), .ref (Q 34), .ref (Q 35), .ref (Q 36), .ref (Q 37), .ref (Q 38), .ref (Q 39), .ref (Q 40), .ref (Q 40), .int 0, .int 0, .int 0, .int 0, .int 0, .int 0, .int 0, .int 0, .int (-1), .int 0, .ref (Q 52), .int 0, .ref (Q 54), .int 0, .ref (Q 56), .ref (Q 57), .ref (Q 58), .ref (Q 59), .ref (Q 60), .ref (Q 61), .ref (Q 62), .ref (Q 63), .ref (Q 64), .ref (Q 65), .ref (Q 66), .ref (Q 67), .ref (Q 68), .int 0, .ref (Q 70), .ref (Q 71)])), (Q 12, .inl (gI G, 4, .inl moDr)), (Q 52, .inl (gI G, 2000, .inl f52)), (Q 0, .inl (gI G, 4, .inl f0)), (Q 1, .inl (gI G, 4, .inl f1))] sz) []) (va_A [(mo, .inr (14, [.ref (Q 0), .ref (Q 1), .int 0, .int 0, .int 10, .ref (Q 5), .ref (Q 6), .ref (Q 7), .ref (Q 8), .ref (Q 9), .ref (Q 10), .ref (Q 11), .ref (Q 12), .ref (Q 13), .ref (Q 14), .ref (Q 15), .ref (Q 16), .ref (Q 17), .ref (Q 18), .ref (Q 19), .ref (Q 20), .ref (Q 21), .ref (Q 22), .ref (Q 23), .ref (Q 24), .ref (Q 25), .ref (Q 26), .int 0, .int 0, .int 0, .int 0, .int 0, .ref (Q 32), .ref (Q 33), .ref (Q 34), .ref (Q 35), .ref (Q 36), .ref (Q 37), .ref (Q 38), .ref (Q 39), .ref (Q 40), .ref (Q 40), .int 0, .int 0, .int 0, .int 0, .int 0, .int 0, .int 0, .int 0, .int (-1), .int 0, .ref (Q 52), .int 0, .ref (Q 54), .int 0, .ref (Q 56), .ref (Q 57), .ref (Q 58), .ref (Q 59), .ref (Q 60), .ref (Q 61), .ref (Q 62), .ref (Q 63), .ref (Q 64), .ref (Q 65), .ref (Q 66), .ref (Q 67), .ref (Q 68), .int 0, .ref (Q 70), .ref (Q 71)])), (Q 12, .inl (gI G, 4, .inl moDr)), (Q 52, .inl (gI G, 2000, .inl f52)), (Q 0, .inl (gI G, 4, .inl f0)), (Q 1, .inl (gI G, 4, .inl f1))] sz)) 0 0 (va_A [(mo, .inr (14, [.ref (Q 0), .ref (Q 1), .int 0, .int 0, .int 10, .ref (Q 5), .ref (Q 6), .ref (Q 7), .ref (Q 8), .ref (Q 9), .ref (Q 10), .ref (Q 11), .ref (Q 12), .ref (Q 13), .ref (Q 14), .ref (Q 15), .ref (Q 16), .ref (Q 17), .ref (Q 18), .ref (Q 19), .ref (Q 20), .ref (Q 21), .ref (Q 22), .ref (Q 23), .ref (Q 24), .ref (Q 25), .ref (Q 26), .int 0, .int 0, .int 0, .int 0, .int 0, .ref (Q 32), .ref (Q 33), .ref (Q 34), .ref (Q 35), .ref (Q 36), .ref (Q 37), .ref (Q 38), .ref (Q 39), .ref (Q 40), .ref (Q 40), .int 0, .int 0, .int 0, .int 0, .int 0, .int 0, .int 0, .int 0, .int (-1), .int 0, .ref (Q 52), .int 0, .ref (Q 54), .int 0, .ref (Q 56), .ref (Q 57), .ref (Q 58), .ref (Q 59), .ref (Q 60), .ref (Q 61), .ref (Q 62), .ref (Q 63), .ref (Q 64), .ref (Q 65), .ref (Q 66), .ref (Q 67), .ref (Q 68), .int 0, .ref (Q 70), .ref (Q 71)])), (Q 12, .inl (gI G, 4, .inl moDr)), (Q 52, .inl (gI G, 2000, .inl f52)), (Q 0, .inl (gI G, 4, .inl f0)), (Q 1, .inl (gI G, 4, .inl f1))] sz) := by
  refine Met.ofW (cc := cX13_limit) (maxL := 6) (ret := (some .int)) (by decide) rfl ?_
  intro p e s m args below meth c s₁ B hml hv
  obtain ⟨rfl, hsz, hP, hB, hD0⟩ := hv
  have hx := B.exec
  have hb := B.bytes
  have hr := B.returns
  have hts := atoms_spec (ws := wq_m_limit) B.pre
  have hown : s.vm.findClass RX13 = some m.cls := findClass_of_methodNamed B.named
  have hlocks := B.notSynchronized
  have hK := hB.1
  subst hsz
  have hD := hD0.self (sz := s.heap.size)
  generalize hAe : va_A [(mo, .inr (14, [.ref (Q 0), .ref (Q 1), .int 0, .int 0, .int 10, .ref (Q 5), .ref (Q 6), .ref (Q 7), .ref (Q 8), .ref (Q 9), .ref (Q 10), .ref (Q 11), .ref (Q 12), .ref (Q 13), .ref (Q 14), .ref (Q 15), .ref (Q 16), .ref (Q 17), .ref (Q 18), .ref (Q 19), .ref (Q 20), .ref (Q 21), .ref (Q 22), .ref (Q 23), .ref (Q 24), .ref (Q 25), .ref (Q 26), .int 0, .int 0, .int 0, .int 0, .int 0, .ref (Q 32), .ref (Q 33), .ref (Q 34), .ref (Q 35), .ref (Q 36), .ref (Q 37), .ref (Q 38), .ref (Q 39), .ref (Q 40), .ref (Q 40), .int 0, .int 0, .int 0, .int 0, .int 0, .int 0, .int 0, .int 0, .int (-1), .int 0, .ref (Q 52), .int 0, .ref (Q 54), .int 0, .ref (Q 56), .ref (Q 57), .ref (Q 58), .ref (Q 59), .ref (Q 60), .ref (Q 61), .ref (Q 62), .ref (Q 63), .ref (Q 64), .ref (Q 65), .ref (Q 66), .ref (Q 67), .ref (Q 68), .int 0, .ref (Q 70), .ref (Q 71)])), (Q 12, .inl (gI G, 4, .inl moDr)), (Q 52, .inl (gI G, 2000, .inl f52)), (Q 0, .inl (gI G, 4, .inl f0)), (Q 1, .inl (gI G, 4, .inl f1))] s.heap.size = A at hD ⊢
  have hA : ∀ q : Nat, s.heap.size ≤ q → A q := fun q h => by rw [← hAe]; exact Or.inr h
  have hS : va_S A s.heap s.heap [] := va_S.rf
  have hP : va_P (gD G) vwCl [(mo, .inr (14, [.ref (Q 0), .ref (Q 1), .int 0, .int 0, .int 10, .ref (Q 5), .ref (Q 6), .ref (Q 7), .ref (Q 8), .ref (Q 9), .ref (Q 10), .ref (Q 11), .ref (Q 12), .ref (Q 13), .ref (Q 14), .ref (Q 15), .ref (Q 16), .ref (Q 17), .ref (Q 18), .ref (Q 19), .ref (Q 20), .ref (Q 21), .ref (Q 22), .ref (Q 23), .ref (Q 24), .ref (Q 25), .ref (Q 26), .int 0, .int 0, .int 0, .int 0, .int 0, .ref (Q 32), .ref (Q 33), .ref (Q 34), .ref (Q 35), .ref (Q 36), .ref (Q 37), .ref (Q 38), .ref (Q 39), .ref (Q 40), .ref (Q 40), .int 0, .int 0, .int 0, .int 0, .int 0, .int 0, .int 0, .int 0, .int (-1), .int 0, .ref (Q 52), .int 0, .ref (Q 54), .int 0, .ref (Q 56), .ref (Q 57), .ref (Q 58), .ref (Q 59), .ref (Q 60), .ref (Q 61), .ref (Q 62), .ref (Q 63), .ref (Q 64), .ref (Q 65), .ref (Q 66), .ref (Q 67), .ref (Q 68), .int 0, .ref (Q 70), .ref (Q 71)])), (Q 12, .inl (gI G, 4, .inl moDr)), (Q 52, .inl (gI G, 2000, .inl f52)), (Q 0, .inl (gI G, 4, .inl f0)), (Q 1, .inl (gI G, 4, .inl f1))] s.heap := hP
  have hD : va_D A [(mo, .inr (14, [.ref (Q 0), .ref (Q 1), .int 0, .int 0, .int 10, .ref (Q 5), .ref (Q 6), .ref (Q 7), .ref (Q 8), .ref (Q 9), .ref (Q 10), .ref (Q 11), .ref (Q 12), .ref (Q 13), .ref (Q 14), .ref (Q 15), .ref (Q 16), .ref (Q 17), .ref (Q 18), .ref (Q 19), .ref (Q 20), .ref (Q 21), .ref (Q 22), .ref (Q 23), .ref (Q 24), .ref (Q 25), .ref (Q 26), .int 0, .int 0, .int 0, .int 0, .int 0, .ref (Q 32), .ref (Q 33), .ref (Q 34), .ref (Q 35), .ref (Q 36), .ref (Q 37), .ref (Q 38), .ref (Q 39), .ref (Q 40), .ref (Q 40), .int 0, .int 0, .int 0, .int 0, .int 0, .int 0, .int 0, .int 0, .int (-1), .int 0, .ref (Q 52), .int 0, .ref (Q 54), .int 0, .ref (Q 56), .ref (Q 57), .ref (Q 58), .ref (Q 59), .ref (Q 60), .ref (Q 61), .ref (Q 62), .ref (Q 63), .ref (Q 64), .ref (Q 65), .ref (Q 66), .ref (Q 67), .ref (Q 68), .int 0, .ref (Q 70), .ref (Q 71)])), (Q 12, .inl (gI G, 4, .inl moDr)), (Q 52, .inl (gI G, 2000, .inl f52)), (Q 0, .inl (gI G, 4, .inl f0)), (Q 1, .inl (gI G, 4, .inl f1))] := hD
  have hl := lv_entry ([.ref mo, .int x, .int y, .int z]) (n := 6) (Nat.le_of_ble_eq_true rfl)
  rw [lg_entry_eq]
  generalize (lg_sl ([.ref mo, .int x, .int y, .int z]) ++ List.replicate (6 - (lg_sl ([.ref mo, .int x, .int y, .int z])).length) Slot.unset).toArray = ls at hl ⊢
  have hl : lv_has ls 6 [(0, .ref mo), (1, .int x), (2, .int y), (3, .int z)] := hl
  refine lv_iload_n hx hb dX13_limit_0 rfl (lv_at hl 1 rfl) ?_
  refine vp_callSi (va_Run.run (va_runS (As := [.int x]) (rest := []) ⟨hx, hb, hml, hown, hts⟩ (c_m_isClass l G x) (va_cwS 1 hts (gdS (List.mem_cons_of_mem _ (List.mem_append_left _ (List.mem_of_getElem? (i := 0) rfl))) (List.mem_cons_of_mem _ (List.mem_append_left _ (List.mem_of_getElem? (i := 1) rfl))) (List.mem_cons_of_mem _ (List.mem_append_left _ (List.mem_of_getElem? (i := 2) rfl))) (fun w9 h9 => ⟨(List.mem_cons_of_mem _ (List.mem_append_right _ (List.mem_append_left _ h9))), gd_c_m_isClass w9 h9⟩)) rfl rfl rfl kSX13_isClass ⟨Nat.le_of_ble_eq_true rfl, Nat.le_of_ble_eq_true rfl⟩) (preS_p (As := [.int x]) (hP.sub (ws' := []) [] rfl) hB) rfl rfl hl.1 rfl (lv_room (Nat.le_of_ble_eq_true rfl)) dX13_limit_1 ⟨Nat.le_of_ble_eq_true rfl, Nat.le_of_ble_eq_true rfl⟩)) (fun r_1 hr_1 => ?_)
  by_cases c_2 : x < 0
  · have hr_1 : r_1 = 0 := hr_1.trans (by rw [if_pos (show x < 0 ∨ 4 ≤ x from (Or.inl c_2))])
    subst hr_1
    refine lv_if_eq (tgt := 32) hx hb dX13_limit_4 (by decide) (fun _ => ?_) (fun c9 => absurd (by decide) c9)
    refine lv_bipush (v := (-2)) hx hb dX13_limit_32 (by decide) ?_
    have hP9 := hP.sub (ws' := []) [] rfl
    have hD9 := hD.sub (ws' := []) [] (by decide) rfl
    exact W.iret (v := (-2)) hx hb hr (fun t ht hW => ⟨⟨_, (), rfl, by rw [if_pos (show x < 0 ∨ 4 ≤ x ∨ y < 0 ∨ 200000 < y ∨ z < 0 ∨ 200000 < z ∨ z < y from (Or.inl c_2))], by rw [ht]; exact hP9, hD9⟩, hS.F ht⟩) hS.2.2 dX13_limit_34
  by_cases c_3 : 4 ≤ x
  · have hr_1 : r_1 = 0 := hr_1.trans (by rw [if_pos (show x < 0 ∨ 4 ≤ x from (Or.inr c_3))])
    subst hr_1
    refine lv_if_eq (tgt := 32) hx hb dX13_limit_4 (by decide) (fun _ => ?_) (fun c9 => absurd (by decide) c9)
    refine lv_bipush (v := (-2)) hx hb dX13_limit_32 (by decide) ?_
    have hP9 := hP.sub (ws' := []) [] rfl
    have hD9 := hD.sub (ws' := []) [] (by decide) rfl
    exact W.iret (v := (-2)) hx hb hr (fun t ht hW => ⟨⟨_, (), rfl, by rw [if_pos (show x < 0 ∨ 4 ≤ x ∨ y < 0 ∨ 200000 < y ∨ z < 0 ∨ 200000 < z ∨ z < y from (Or.inr (Or.inl c_3)))], by rw [ht]; exact hP9, hD9⟩, hS.F ht⟩) hS.2.2 dX13_limit_34
  have hr_1 : r_1 = 1 := hr_1.trans (by rw [if_neg (show ¬ (x < 0 ∨ 4 ≤ x) from (not_or.mpr ⟨c_2, c_3⟩))])
  subst hr_1
  refine lv_if_eq (tgt := 32) hx hb dX13_limit_4 (by decide) (fun c9 => absurd c9 (by decide)) (fun _ => ?_)
  refine lv_iload_n hx hb dX13_limit_7 rfl (lv_at hl 2 rfl) ?_
  refine lv_i2l (v := y.toInt64) hx hb dX13_limit_8 rfl ?_
  refine lv_lconst (v := 0) hx hb dX13_limit_9 (by decide) ?_
  refine lv_ldc2 (v := 200000) hx hb hown (hts (.constantLong RX13 472 (200000)) (List.mem_cons_of_mem _ (List.mem_append_left _ (List.mem_of_getElem? (i := 3) rfl)))) dX13_limit_10 ?_
  refine vp_callSi (va_Run.run (va_runS (As := [.long y.toInt64, .long 0, .long 200000]) (rest := []) ⟨hx, hb, hml, hown, hts⟩ (c_in_0_200000 l G y) (va_cwS 3 hts (gdS (List.mem_cons_of_mem _ (List.mem_append_left _ (List.mem_of_getElem? (i := 4) rfl))) (List.mem_cons_of_mem _ (List.mem_append_left _ (List.mem_of_getElem? (i := 5) rfl))) (List.mem_cons_of_mem _ (List.mem_append_left _ (List.mem_of_getElem? (i := 2) rfl))) (fun w9 h9 => ⟨(List.mem_cons_of_mem _ (List.mem_append_right _ (List.mem_append_right _ (List.mem_append_left _ h9)))), gd_c_in_0_200000 w9 h9⟩)) rfl rfl rfl kSX13_in ⟨Nat.le_of_ble_eq_true rfl, Nat.le_of_ble_eq_true rfl⟩) (preS_p (As := [.long y.toInt64, .long 0, .long 200000]) (hP.sub (ws' := []) [] rfl) hB) rfl rfl hl.1 rfl (lv_room (Nat.le_of_ble_eq_true rfl)) dX13_limit_13 ⟨Nat.le_of_ble_eq_true rfl, Nat.le_of_ble_eq_true rfl⟩)) (fun r_4 hr_4 => ?_)
  by_cases c_5 : y < 0
  · have hr_4 : r_4 = 0 := hr_4.trans (by rw [if_pos (show y < 0 ∨ 200000 < y from (Or.inl c_5))])
    subst hr_4
    refine lv_if_eq (tgt := 32) hx hb dX13_limit_16 (by decide) (fun _ => ?_) (fun c9 => absurd (by decide) c9)
    refine lv_bipush (v := (-2)) hx hb dX13_limit_32 (by decide) ?_
    have hP9 := hP.sub (ws' := []) [] rfl
    have hD9 := hD.sub (ws' := []) [] (by decide) rfl
    exact W.iret (v := (-2)) hx hb hr (fun t ht hW => ⟨⟨_, (), rfl, by rw [if_pos (show x < 0 ∨ 4 ≤ x ∨ y < 0 ∨ 200000 < y ∨ z < 0 ∨ 200000 < z ∨ z < y from (Or.inr (Or.inr (Or.inl c_5))))], by rw [ht]; exact hP9, hD9⟩, hS.F ht⟩) hS.2.2 dX13_limit_34
  by_cases c_6 : 200000 < y
  · have hr_4 : r_4 = 0 := hr_4.trans (by rw [if_pos (show y < 0 ∨ 200000 < y from (Or.inr c_6))])
    subst hr_4
    refine lv_if_eq (tgt := 32) hx hb dX13_limit_16 (by decide) (fun _ => ?_) (fun c9 => absurd (by decide) c9)
    refine lv_bipush (v := (-2)) hx hb dX13_limit_32 (by decide) ?_
    have hP9 := hP.sub (ws' := []) [] rfl
    have hD9 := hD.sub (ws' := []) [] (by decide) rfl
    exact W.iret (v := (-2)) hx hb hr (fun t ht hW => ⟨⟨_, (), rfl, by rw [if_pos (show x < 0 ∨ 4 ≤ x ∨ y < 0 ∨ 200000 < y ∨ z < 0 ∨ 200000 < z ∨ z < y from (Or.inr (Or.inr (Or.inr (Or.inl c_6)))))], by rw [ht]; exact hP9, hD9⟩, hS.F ht⟩) hS.2.2 dX13_limit_34
  have hr_4 : r_4 = 1 := hr_4.trans (by rw [if_neg (show ¬ (y < 0 ∨ 200000 < y) from (not_or.mpr ⟨c_5, c_6⟩))])
  subst hr_4
  refine lv_if_eq (tgt := 32) hx hb dX13_limit_16 (by decide) (fun c9 => absurd c9 (by decide)) (fun _ => ?_)
  refine lv_iload_n hx hb dX13_limit_19 rfl (lv_at hl 3 rfl) ?_
  refine lv_i2l (v := z.toInt64) hx hb dX13_limit_20 rfl ?_
  refine lv_iload_n hx hb dX13_limit_21 rfl (lv_at hl 2 rfl) ?_
  refine lv_i2l (v := y.toInt64) hx hb dX13_limit_22 rfl ?_
  refine lv_ldc2 (v := 200000) hx hb hown (hts (.constantLong RX13 472 (200000)) (List.mem_cons_of_mem _ (List.mem_append_left _ (List.mem_of_getElem? (i := 3) rfl)))) dX13_limit_23 ?_
  refine vp_callSi (va_Run.run (va_runS (As := [.long z.toInt64, .long y.toInt64, .long 200000]) (rest := []) ⟨hx, hb, hml, hown, hts⟩ (c_in_y_200000 l G z y) (va_cwS 3 hts (gdS (List.mem_cons_of_mem _ (List.mem_append_left _ (List.mem_of_getElem? (i := 4) rfl))) (List.mem_cons_of_mem _ (List.mem_append_left _ (List.mem_of_getElem? (i := 5) rfl))) (List.mem_cons_of_mem _ (List.mem_append_left _ (List.mem_of_getElem? (i := 2) rfl))) (fun w9 h9 => ⟨(List.mem_cons_of_mem _ (List.mem_append_right _ (List.mem_append_right _ (List.mem_append_right _ (List.mem_append_left _ h9))))), gd_c_in_y_200000 w9 h9⟩)) rfl rfl rfl kSX13_in ⟨Nat.le_of_ble_eq_true rfl, Nat.le_of_ble_eq_true rfl⟩) (preS_p (As := [.long z.toInt64, .long y.toInt64, .long 200000]) (hP.sub (ws' := []) [] rfl) hB) rfl rfl hl.1 rfl (lv_room (Nat.le_of_ble_eq_true rfl)) dX13_limit_26 ⟨Nat.le_of_ble_eq_true rfl, Nat.le_of_ble_eq_true rfl⟩)) (fun r_7 hr_7 => ?_)
  by_cases c_8 : z < y
  · have hr_7 : r_7 = 0 := hr_7.trans (by rw [if_pos (show z < y ∨ 200000 < z from (Or.inl c_8))])
    subst hr_7
    refine lv_if_ne (tgt := 35) hx hb dX13_limit_29 (by decide) (fun c9 => absurd (by decide) c9) (fun _ => ?_)
    refine lv_bipush (v := (-2)) hx hb dX13_limit_32 (by decide) ?_
    have hP9 := hP.sub (ws' := []) [] rfl
    have hD9 := hD.sub (ws' := []) [] (by decide) rfl
    exact W.iret (v := (-2)) hx hb hr (fun t ht hW => ⟨⟨_, (), rfl, by rw [if_pos (show x < 0 ∨ 4 ≤ x ∨ y < 0 ∨ 200000 < y ∨ z < 0 ∨ 200000 < z ∨ z < y from (Or.inr (Or.inr (Or.inr (Or.inr (Or.inr (Or.inr c_8)))))))], by rw [ht]; exact hP9, hD9⟩, hS.F ht⟩) hS.2.2 dX13_limit_34
  by_cases c_9 : 200000 < z
  · have hr_7 : r_7 = 0 := hr_7.trans (by rw [if_pos (show z < y ∨ 200000 < z from (Or.inr c_9))])
    subst hr_7
    refine lv_if_ne (tgt := 35) hx hb dX13_limit_29 (by decide) (fun c9 => absurd (by decide) c9) (fun _ => ?_)
    refine lv_bipush (v := (-2)) hx hb dX13_limit_32 (by decide) ?_
    have hP9 := hP.sub (ws' := []) [] rfl
    have hD9 := hD.sub (ws' := []) [] (by decide) rfl
    exact W.iret (v := (-2)) hx hb hr (fun t ht hW => ⟨⟨_, (), rfl, by rw [if_pos (show x < 0 ∨ 4 ≤ x ∨ y < 0 ∨ 200000 < y ∨ z < 0 ∨ 200000 < z ∨ z < y from (Or.inr (Or.inr (Or.inr (Or.inr (Or.inr (Or.inl c_9)))))))], by rw [ht]; exact hP9, hD9⟩, hS.F ht⟩) hS.2.2 dX13_limit_34
  have hr_7 : r_7 = 1 := hr_7.trans (by rw [if_neg (show ¬ (z < y ∨ 200000 < z) from (not_or.mpr ⟨c_8, c_9⟩))])
  subst hr_7
  refine lv_if_ne (tgt := 35) hx hb dX13_limit_29 (by decide) (fun _ => ?_) (fun c9 => absurd c9 (by decide))
  refine lv_aload_n hx hb dX13_limit_35 rfl (lv_at hl 0 rfl) ?_
  refine va_get (D := gD G) (ci := 14) (v := .ref (Q 12)) (C := RX13) (T := TX13) (N := 72) hx hb hts (fun _ h9 => (List.mem_cons_of_mem _ (List.mem_append_right _ (List.mem_append_right _ (List.mem_append_right _ (List.mem_append_right _ (List.mem_append_left _ h9))))))) hown hK hP 0 rfl rfl 12 (by decide) (hts (.fieldLink RX13 37 "JudoHallModel" "drawn" "[I") (List.mem_cons_of_mem _ (List.mem_append_left _ (List.mem_of_getElem? (i := 6) rfl)))) (fun _ h9 => h9) rfl dX13_limit_36 ?_
  refine lv_iload_n hx hb dX13_limit_39 rfl (lv_at hl 1 rfl) ?_
  refine va_iald (D := gD G) hx hb hK hP 1 0 rfl rfl (gx_ixk (k := 4) (by decide) (by decide) c_2 c_3) dX13_limit_40 ?_
  refine gx_ti (y := 0) (moDr_at _) ?_
  refine lv_if_eq (tgt := 48) hx hb dX13_limit_41 (by decide) (fun _ => ?_) (fun c9 => absurd (by decide) c9)
  refine lv_iconst (v := 0) hx hb dX13_limit_48 (by decide) ?_
  refine lv_istore (lv' := [(4, .int 0), (0, .ref mo), (1, .int x), (2, .int y), (3, .int z)]) hx hb dX13_limit_49 hl (by decide) rfl (fun ls hl => ?_)
  refine lv_iconst (v := 0) hx hb dX13_limit_51 (by decide) ?_
  refine lv_istore (lv' := [(5, .int 0), (4, .int 0), (0, .ref mo), (1, .int x), (2, .int y), (3, .int z)]) hx hb dX13_limit_52 hl (by decide) rfl (fun ls hl => ?_)
  refine lv_iload hx hb dX13_limit_54 (lv_at hl 0 rfl) ?_
  refine lv_aload_n hx hb dX13_limit_56 rfl (lv_at hl 2 rfl) ?_
  refine va_get (D := gD G) (ci := 14) (v := .int 0) (C := RX13) (T := TX13) (N := 72) hx hb hts (fun _ h9 => (List.mem_cons_of_mem _ (List.mem_append_right _ (List.mem_append_right _ (List.mem_append_right _ (List.mem_append_right _ (List.mem_append_left _ h9))))))) hown hK hP 0 rfl rfl 2 (by decide) (hts (.fieldLink RX13 176 "JudoHallModel" "fighters" "I") (List.mem_cons_of_mem _ (List.mem_append_left _ (List.mem_of_getElem? (i := 7) rfl)))) (fun _ h9 => h9) rfl dX13_limit_57 ?_
  refine lv_icmp_ge (tgt := 102) hx hb dX13_limit_60 (by decide) (fun _ => ?_) (fun c9 => absurd (by decide) c9)
  refine lv_iload hx hb dX13_limit_102 (lv_at hl 1 rfl) ?_
  refine lv_if_eq (tgt := 112) hx hb dX13_limit_104 (by decide) (fun _ => ?_) (fun c9 => absurd (by decide) c9)
  refine lv_aload_n hx hb dX13_limit_112 rfl (lv_at hl 2 rfl) ?_
  refine lv_iconst (v := 1) hx hb dX13_limit_113 (by decide) ?_
  refine lv_iload_n hx hb dX13_limit_114 rfl (lv_at hl 3 rfl) ?_
  refine lv_iload_n hx hb dX13_limit_115 rfl (lv_at hl 4 rfl) ?_
  refine lv_iload_n hx hb dX13_limit_116 rfl (lv_at hl 5 rfl) ?_
  have hPc := hP.sub (ws' := [(mo, .inr (14, [.ref (Q 0), .ref (Q 1), .int 0, .int 0, .int 10, .ref (Q 5), .ref (Q 6), .ref (Q 7), .ref (Q 8), .ref (Q 9), .ref (Q 10), .ref (Q 11), .ref (Q 12), .ref (Q 13), .ref (Q 14), .ref (Q 15), .ref (Q 16), .ref (Q 17), .ref (Q 18), .ref (Q 19), .ref (Q 20), .ref (Q 21), .ref (Q 22), .ref (Q 23), .ref (Q 24), .ref (Q 25), .ref (Q 26), .int 0, .int 0, .int 0, .int 0, .int 0, .ref (Q 32), .ref (Q 33), .ref (Q 34), .ref (Q 35), .ref (Q 36), .ref (Q 37), .ref (Q 38), .ref (Q 39), .ref (Q 40), .ref (Q 40), .int 0, .int 0, .int 0, .int 0, .int 0, .int 0, .int 0, .int 0, .int (-1), .int 0, .ref (Q 52), .int 0, .ref (Q 54), .int 0, .ref (Q 56), .ref (Q 57), .ref (Q 58), .ref (Q 59), .ref (Q 60), .ref (Q 61), .ref (Q 62), .ref (Q 63), .ref (Q 64), .ref (Q 65), .ref (Q 66), .ref (Q 67), .ref (Q 68), .int 0, .ref (Q 70), .ref (Q 71)])), (Q 52, .inl (gI G, 2000, .inl f52)), (Q 0, .inl (gI G, 4, .inl f0)), (Q 1, .inl (gI G, 4, .inl f1))]) [0, 2, 3, 4] rfl
  have hDc := hD.sub (ws' := [(mo, .inr (14, [.ref (Q 0), .ref (Q 1), .int 0, .int 0, .int 10, .ref (Q 5), .ref (Q 6), .ref (Q 7), .ref (Q 8), .ref (Q 9), .ref (Q 10), .ref (Q 11), .ref (Q 12), .ref (Q 13), .ref (Q 14), .ref (Q 15), .ref (Q 16), .ref (Q 17), .ref (Q 18), .ref (Q 19), .ref (Q 20), .ref (Q 21), .ref (Q 22), .ref (Q 23), .ref (Q 24), .ref (Q 25), .ref (Q 26), .int 0, .int 0, .int 0, .int 0, .int 0, .ref (Q 32), .ref (Q 33), .ref (Q 34), .ref (Q 35), .ref (Q 36), .ref (Q 37), .ref (Q 38), .ref (Q 39), .ref (Q 40), .ref (Q 40), .int 0, .int 0, .int 0, .int 0, .int 0, .int 0, .int 0, .int 0, .int (-1), .int 0, .ref (Q 52), .int 0, .ref (Q 54), .int 0, .ref (Q 56), .ref (Q 57), .ref (Q 58), .ref (Q 59), .ref (Q 60), .ref (Q 61), .ref (Q 62), .ref (Q 63), .ref (Q 64), .ref (Q 65), .ref (Q 66), .ref (Q 67), .ref (Q 68), .int 0, .ref (Q 70), .ref (Q 71)])), (Q 52, .inl (gI G, 2000, .inl f52)), (Q 0, .inl (gI G, 4, .inl f0)), (Q 1, .inl (gI G, 4, .inl f1))]) [0, 2, 3, 4] (by decide) rfl
  have hFc := va_free (wc := [(mo, .inr (14, [.ref (Q 0), .ref (Q 1), .int 0, .int 0, .int 10, .ref (Q 5), .ref (Q 6), .ref (Q 7), .ref (Q 8), .ref (Q 9), .ref (Q 10), .ref (Q 11), .ref (Q 12), .ref (Q 13), .ref (Q 14), .ref (Q 15), .ref (Q 16), .ref (Q 17), .ref (Q 18), .ref (Q 19), .ref (Q 20), .ref (Q 21), .ref (Q 22), .ref (Q 23), .ref (Q 24), .ref (Q 25), .ref (Q 26), .int 0, .int 0, .int 0, .int 0, .int 0, .ref (Q 32), .ref (Q 33), .ref (Q 34), .ref (Q 35), .ref (Q 36), .ref (Q 37), .ref (Q 38), .ref (Q 39), .ref (Q 40), .ref (Q 40), .int 0, .int 0, .int 0, .int 0, .int 0, .int 0, .int 0, .int 0, .int (-1), .int 0, .ref (Q 52), .int 0, .ref (Q 54), .int 0, .ref (Q 56), .ref (Q 57), .ref (Q 58), .ref (Q 59), .ref (Q 60), .ref (Q 61), .ref (Q 62), .ref (Q 63), .ref (Q 64), .ref (Q 65), .ref (Q 66), .ref (Q 67), .ref (Q 68), .int 0, .ref (Q 70), .ref (Q 71)])), (Q 52, .inl (gI G, 2000, .inl f52)), (Q 0, .inl (gI G, 4, .inl f0)), (Q 1, .inl (gI G, 4, .inl f1))]) hD hS hA [0, 2, 3, 4] rfl
  refine va_calli (va_runV (As := [.int 1, .int x, .int y, .int z]) (rest := []) ⟨hx, hb, hml, hown, hts⟩ (c_m_act1 l G mo Q f52 f0 f1 x y z s.heap.size (c_2) (c_3)) (cwV 4 hts (gdV (List.mem_cons_of_mem _ (List.mem_append_left _ (List.mem_of_getElem? (i := 8) rfl))) (List.mem_cons_of_mem _ (List.mem_append_left _ (List.mem_of_getElem? (i := 9) rfl))) (List.mem_cons_of_mem _ (List.mem_append_left _ (List.mem_of_getElem? (i := 10) rfl))) (List.mem_cons_of_mem _ (List.mem_append_left _ (List.mem_of_getElem? (i := 2) rfl))) (fun w9 h9 => ⟨(List.mem_cons_of_mem _ (List.mem_append_right _ (List.mem_append_right _ (List.mem_append_right _ (List.mem_append_right _ (List.mem_append_right _ (List.mem_append_left _ h9))))))), gd_c_m_act1 w9 h9⟩)) rfl rfl rfl kVX13_act ⟨Nat.le_of_ble_eq_true rfl, Nat.le_of_ble_eq_true rfl⟩) (preV_m (As := [.int 1, .int x, .int y, .int z]) hPc hB hDc rfl rfl) rfl rfl hl.1 rfl (lv_room (Nat.le_of_ble_eq_true rfl)) dX13_limit_117 ⟨Nat.le_of_ble_eq_true rfl, Nat.le_of_ble_eq_true rfl⟩) hS (fun q _ h => hFc q h) hFc (fun r_10 u t H1 locs ht hvm hw hB1 hz1 hk1 hS => ?_)
  obtain ⟨hP1, hD1⟩ := hB1
  rw [ht] at hP1
  obtain ⟨hP, hD⟩ := va_join (wr := [(Q 12, .inl (gI G, 4, .inl moDr))]) (w1 := []) hP hD [0, 2, 3, 4] [1] rfl rfl (by decide) (by decide) hk1 hFc hP1 hD1
  generalize H1 = H at hP hS ⊢
  have hP : va_P (gD G) vwCl [(Q 12, .inl (gI G, 4, .inl moDr))] H := hP
  have hD : va_D A [(Q 12, .inl (gI G, 4, .inl moDr))] := hD
  have hw : r_10 = 1 := hw
  refine gx_ti hw ?_
  refine W.eq (g2 := F0 m 120 ls [.int 1]) rfl ?_
  have hP9 := hP.sub (ws' := []) [] rfl
  have hD9 := hD.sub (ws' := []) [] (by decide) rfl
  exact W.iret (v := 1) hx hb hr (fun t ht hW => ⟨⟨_, (), rfl, by rw [if_neg (show ¬ (x < 0 ∨ 4 ≤ x ∨ y < 0 ∨ 200000 < y ∨ z < 0 ∨ 200000 < z ∨ z < y) from (not_or.mpr ⟨c_2, (not_or.mpr ⟨c_3, (not_or.mpr ⟨c_5, (not_or.mpr ⟨c_6, (not_or.mpr ⟨(lt_tr c_8 c_5), (not_or.mpr ⟨c_9, c_8⟩)⟩)⟩)⟩)⟩)⟩))], by rw [ht]; exact hP9, hD9⟩, hS.F ht⟩) hS.2.2 dX13_limit_120
